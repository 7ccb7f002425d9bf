abbrev rm_X11_lookAgain : Room := { frames := 6, cells := 0, slots := 0, locals := 141 }
theorem in_X11_lookAgain_11 : ∀ w ∈ u_ws RX11 TX11 17, w ∈ wsX11_lookAgain := fun w h => List.mem_cons_of_mem _ (List.mem_append_left _ (List.mem_append_left _ (List.mem_append_left _ (List.mem_append_right _ h))))
theorem fg_X11_lookAgain_160 : aFl wsX11_lookAgain RX11 160 11 11 := ⟨RX11, TX11, 17, rfl, in_X11_lookAgain_11, by decide, (List.mem_of_getElem? (i := 6) rfl), rfl⟩
theorem fp_X11_lookAgain_99 : aFp wsX11_lookAgain RX11 99 11 16 .boolean := ⟨RX11, TX11, 17, tyX11, rfl, in_X11_lookAgain_11, by decide, (List.mem_of_getElem? (i := 7) rfl), rfl, tyX11_ok, nmX11, rfl, rfl⟩
theorem fg_X11_lookAgain_46 : aFl wsX11_lookAgain RX11 46 11 4 := ⟨RX11, TX11, 17, rfl, in_X11_lookAgain_11, by decide, (List.mem_of_getElem? (i := 1) rfl), rfl⟩
theorem fg_X11_lookAgain_37 : aFl wsX11_lookAgain RX11 37 11 3 := ⟨RX11, TX11, 17, rfl, in_X11_lookAgain_11, by decide, (List.mem_of_getElem? (i := 2) rfl), rfl⟩
theorem fg_X11_lookAgain_30 : aFl wsX11_lookAgain RX11 30 11 2 := ⟨RX11, TX11, 17, rfl, in_X11_lookAgain_11, by decide, (List.mem_of_getElem? (i := 3) rfl), rfl⟩
theorem fg_X11_lookAgain_89 : aFl wsX11_lookAgain RX11 89 11 12 := ⟨RX11, TX11, 17, rfl, in_X11_lookAgain_11, by decide, (List.mem_of_getElem? (i := 4) rfl), rfl⟩
theorem in_X11_lookAgain_0 : ∀ w ∈ u_ws RX0 TX0 4, w ∈ wsX11_lookAgain := fun w h => List.mem_cons_of_mem _ (List.mem_append_left _ (List.mem_append_left _ (List.mem_append_right _ h)))
theorem fg_X11_lookAgain_156 : aFl wsX11_lookAgain RX11 156 0 3 := ⟨RX0, TX0, 4, rfl, in_X11_lookAgain_0, by decide, (List.mem_of_getElem? (i := 5) rfl), rfl⟩
set_option maxRecDepth 100000 in
set_option maxHeartbeats 4000000 in
theorem w_X11_lookAgain_34 {x : aC} {r : Int × Hp} (X : aX x cX11_lookAgain wsX11_lookAgain RX11 1 rm_X11_lookAgain) (E : aE x shC none 3 r) (t4 : Int) (t2 : Nat) (σ : Hp) (ht2 : isNet t2) (h : F_RD_lookAgain_34 t4 t2 σ = some r) : aS x shC 1 34 [(0, vR 0)] [vI t4, vR 46, vR t2, vR 88] σ := by
  unfold F_RD_lookAgain_34 at h
  refine A_aload_n X 0 rfl rfl dX11_lookAgain_34 ?_
  refine A_getI X fg_X11_lookAgain_160 shC_0 (k := 11) rfl (by decide) dX11_lookAgain_35 ?_
  obtain ⟨v1, s2, e3, h⟩ := clD h
  refine A_callV_V (na := 4) X (m_X10_look e3) gX11_lookAgain_X10_look rfl ⟨rfl, rfl⟩ (by decide +kernel) rfl ⟨Nat.le_of_ble_eq_true rfl, Nat.le_of_ble_eq_true rfl⟩ shC_88 (by decide) rfl rfl (Nat.le_of_ble_eq_true rfl) dX11_lookAgain_38 ?_
  refine A_aload_n X 0 rfl rfl dX11_lookAgain_41 ?_
  refine A_iconst X dX11_lookAgain_42 (z := 1) (by decide) ?_
  refine A_putZ X (Or.inr rfl) fp_X11_lookAgain_99 shC_0 (k := 16) rfl (by decide) dX11_lookAgain_43 (fun s4 hy => ?_)
  replace h := ltD h s4 hy
  clear hy
  exact A_return X E h dX11_lookAgain_46
set_option maxRecDepth 100000 in
set_option maxHeartbeats 4000000 in
theorem m_X11_lookAgain {l : Launch} {g : aG} {σ : Hp} {r : Int × Hp} (h : F_RD_lookAgain σ = some r) : aMet l g shC yX11_lookAgain wsX11_lookAgain rm_X11_lookAgain [vR 0] σ 3 r := by
  unfold F_RD_lookAgain at h
  refine aMet_of (bytes := cX11_lookAgain) (maxL := 1) (ret := none) (by decide +kernel) rfl (Nat.le_of_ble_eq_true rfl) ⟨rfl, rfl⟩ (fun x e1 e2 X E => ?_)
  subst e1; subst e2
  have X : aX x cX11_lookAgain wsX11_lookAgain RX11 1 rm_X11_lookAgain := X
  show aS x shC 1 0 [(0, vR 0)] [] σ
  refine A_aload_n X 0 rfl rfl dX11_lookAgain_0 ?_
  refine A_getA X fg_X11_lookAgain_46 shC_0 (k := 4) rfl (by decide) dX11_lookAgain_1 ?_
  refine A_aload_n X 0 rfl rfl dX11_lookAgain_4 ?_
  refine A_getV X fg_X11_lookAgain_37 shC_0 (k := 3) rfl (by decide) dX11_lookAgain_5 ?_
  obtain ⟨q5, hy⟩ : ∃ y, y = (σ 0 3).toNat := ⟨_, rfl⟩
  replace h := ltD h q5 hy
  rw [← hy]
  clear hy
  obtain ⟨g6, h⟩ := gdD h
  refine A_aload_n X 0 rfl rfl dX11_lookAgain_8 ?_
  refine A_getA X fg_X11_lookAgain_30 shC_0 (k := 2) rfl (by decide) dX11_lookAgain_9 ?_
  refine A_aload_n X 0 rfl rfl dX11_lookAgain_12 ?_
  refine A_getI X fg_X11_lookAgain_89 shC_0 (k := 12) rfl (by decide) dX11_lookAgain_13 ?_
  refine A_iconst X dX11_lookAgain_16 (z := (-1)) (by decide) ?_
  refine A_icmp_ne X (tgt := 30) (by decide) dX11_lookAgain_17 (fun c7 => ?_) (fun c7 => ?_)
  · replace h := ifF h c7
    refine A_aload_n X 0 rfl rfl dX11_lookAgain_30 ?_
    refine A_getI X fg_X11_lookAgain_89 shC_0 (k := 12) rfl (by decide) dX11_lookAgain_31 ?_
    exact w_X11_lookAgain_34 X E (σ 0 12) q5 σ g6 h
  · replace h := ifT h c7
    refine A_aload_n X 0 rfl rfl dX11_lookAgain_20 ?_
    refine A_getA X fg_X11_lookAgain_30 shC_0 (k := 2) rfl (by decide) dX11_lookAgain_21 ?_
    refine A_getI X fg_X11_lookAgain_156 shC_46 (k := 3) rfl (by decide) dX11_lookAgain_24 ?_
    refine A_goto X (tgt := 34) (by decide) dX11_lookAgain_27 ?_
    exact w_X11_lookAgain_34 X E (σ 46 3) q5 σ g6 h
abbrev rm_X11_annul : Room := { frames := 7, cells := 0, slots := 0, locals := 161 }
theorem in_X11_annul_11 : ∀ w ∈ u_ws RX11 TX11 17, w ∈ wsX11_annul := fun w h => List.mem_cons_of_mem _ (List.mem_append_left _ (List.mem_append_left _ (List.mem_append_left _ (List.mem_append_right _ h))))
theorem fg_X11_annul_30 : aFl wsX11_annul RX11 30 11 2 := ⟨RX11, TX11, 17, rfl, in_X11_annul_11, by decide, (List.mem_of_getElem? (i := 1) rfl), rfl⟩
set_option maxRecDepth 100000 in
set_option maxHeartbeats 4000000 in
theorem m_X11_annul {l : Launch} {g : aG} {a1 : Int} {σ : Hp} {r : Int × Hp} (h : F_RD_annul a1 σ = some r) : aMet l g shC yX11_annul wsX11_annul rm_X11_annul [vR 0, vI a1] σ 0 r := by
  unfold F_RD_annul at h
  refine aMet_of (bytes := cX11_annul) (maxL := 3) (ret := (some .int)) (by decide +kernel) rfl (Nat.le_of_ble_eq_true rfl) ⟨rfl, rfl⟩ (fun x e1 e2 X E => ?_)
  subst e1; subst e2
  have X : aX x cX11_annul wsX11_annul RX11 3 rm_X11_annul := X
  show aS x shC 3 0 [(0, vR 0), (1, vI a1)] [] σ
  refine A_aload_n X 0 rfl rfl dX11_annul_0 ?_
  refine A_getA X fg_X11_annul_30 shC_0 (k := 2) rfl (by decide) dX11_annul_1 ?_
  refine A_iload_n X 1 rfl rfl dX11_annul_4 ?_
  obtain ⟨v1, s2, e3, h⟩ := clD h
  refine A_callV_I (na := 1) X (m_X0_annulled e3) gX11_annul_X0_annulled rfl ⟨rfl, rfl⟩ (by decide +kernel) rfl ⟨Nat.le_of_ble_eq_true rfl, Nat.le_of_ble_eq_true rfl⟩ shC_46 (by decide) rfl rfl (Nat.le_of_ble_eq_true rfl) dX11_annul_5 ?_
  refine A_istore_n X (L' := [(2, vI v1), (0, vR 0), (1, vI a1)]) rfl (by decide) rfl dX11_annul_8 ?_
  refine A_aload_n X 1 rfl rfl dX11_annul_9 ?_
  obtain ⟨v4, s5, e6, h⟩ := clD h
  refine A_callV_V (na := 0) X (m_X11_lookAgain e6) gX11_annul_X11_lookAgain rfl ⟨rfl, rfl⟩ (by decide +kernel) rfl ⟨Nat.le_of_ble_eq_true rfl, Nat.le_of_ble_eq_true rfl⟩ shC_0 (by decide) rfl rfl (Nat.le_of_ble_eq_true rfl) dX11_annul_10 ?_
  refine A_iload_n X 0 rfl rfl dX11_annul_13 ?_
  exact A_ireturn X E h dX11_annul_14
abbrev rm_X11_as : Room := { frames := 7, cells := 0, slots := 0, locals := 161 }
theorem in_X11_as_11 : ∀ w ∈ u_ws RX11 TX11 17, w ∈ wsX11_as := fun w h => List.mem_cons_of_mem _ (List.mem_append_left _ (List.mem_append_left _ (List.mem_append_left _ (List.mem_append_right _ h))))
theorem fg_X11_as_30 : aFl wsX11_as RX11 30 11 2 := ⟨RX11, TX11, 17, rfl, in_X11_as_11, by decide, (List.mem_of_getElem? (i := 1) rfl), rfl⟩
theorem in_X11_as_0 : ∀ w ∈ u_ws RX0 TX0 4, w ∈ wsX11_as := fun w h => List.mem_cons_of_mem _ (List.mem_append_left _ (List.mem_append_left _ (List.mem_append_right _ h)))
theorem fg_X11_as_156 : aFl wsX11_as RX11 156 0 3 := ⟨RX0, TX0, 4, rfl, in_X11_as_0, by decide, (List.mem_of_getElem? (i := 2) rfl), rfl⟩
theorem fp_X11_as_89 : aFp wsX11_as RX11 89 11 12 .int := ⟨RX11, TX11, 17, tyX11, rfl, in_X11_as_11, by decide, (List.mem_of_getElem? (i := 3) rfl), rfl, tyX11_ok, nmX11, rfl, rfl⟩
set_option maxRecDepth 100000 in
set_option maxHeartbeats 4000000 in
theorem w_X11_as_16 {x : aC} {r : Int × Hp} {a1 : Int} (X : aX x cX11_as wsX11_as RX11 2 rm_X11_as) (E : aE x shC (some .boolean) 0 r) (σ : Hp) (h : F_RD_as_16 a1 σ = some r) : aS x shC 2 16 [] [] σ := by
  unfold F_RD_as_16 at h
  refine A_iconst X dX11_as_16 (z := 0) (by decide) ?_
  exact A_zreturn X (Or.inl rfl) E h dX11_as_17
set_option maxRecDepth 100000 in
set_option maxHeartbeats 4000000 in
theorem m_X11_as {l : Launch} {g : aG} {a1 : Int} {σ : Hp} {r : Int × Hp} (h : F_RD_as a1 σ = some r) : aMet l g shC yX11_as wsX11_as rm_X11_as [vR 0, vI a1] σ 0 r := by
  unfold F_RD_as at h
  refine aMet_of (bytes := cX11_as) (maxL := 2) (ret := (some .boolean)) (by decide +kernel) rfl (Nat.le_of_ble_eq_true rfl) ⟨rfl, rfl⟩ (fun x e1 e2 X E => ?_)
  subst e1; subst e2
  have X : aX x cX11_as wsX11_as RX11 2 rm_X11_as := X
  show aS x shC 2 0 [(0, vR 0), (1, vI a1)] [] σ
  refine A_iload_n X 1 rfl rfl dX11_as_0 ?_
  refine A_iconst X dX11_as_1 (z := (-1)) (by decide) ?_
  refine A_icmp_lt X (tgt := 16) (by decide) dX11_as_2 (fun c1 => ?_) (fun c1 => ?_)
  · replace h := ifT h c1
    refine A_sub [] rfl (L' := []) rfl ?_
    exact w_X11_as_16 (a1 := a1) X E σ h
  · replace h := ifF h c1
    refine A_iload_n X 1 rfl rfl dX11_as_5 ?_
    refine A_aload_n X 0 rfl rfl dX11_as_6 ?_
    refine A_getA X fg_X11_as_30 shC_0 (k := 2) rfl (by decide) dX11_as_7 ?_
    refine A_getI X fg_X11_as_156 shC_46 (k := 3) rfl (by decide) dX11_as_10 ?_
    refine A_icmp_le X (tgt := 18) (by decide) dX11_as_13 (fun c2 => ?_) (fun c2 => ?_)
    · replace h := ifT h c2
      refine A_aload_n X 0 rfl rfl dX11_as_18 ?_
      refine A_iload_n X 1 rfl rfl dX11_as_19 ?_
      refine A_putI X fp_X11_as_89 shC_0 (k := 12) rfl (by decide) dX11_as_20 (fun s3 hy => ?_)
      replace h := ltD h s3 hy
      clear hy
      refine A_aload_n X 0 rfl rfl dX11_as_23 ?_
      obtain ⟨v4, s5, e6, h⟩ := clD h
      refine A_callV_V (na := 0) X (m_X11_lookAgain e6) gX11_as_X11_lookAgain rfl ⟨rfl, rfl⟩ (by decide +kernel) rfl ⟨Nat.le_of_ble_eq_true rfl, Nat.le_of_ble_eq_true rfl⟩ shC_0 (by decide) rfl rfl (Nat.le_of_ble_eq_true rfl) dX11_as_24 ?_
      refine A_iconst X dX11_as_27 (z := 1) (by decide) ?_
      exact A_zreturn X (Or.inr rfl) E h dX11_as_28
    · replace h := ifF h c2
      refine A_sub [] rfl (L' := []) rfl ?_
      exact w_X11_as_16 (a1 := a1) X E σ h
abbrev rm_X11_dealsNow : Room := { frames := 2, cells := 0, slots := 0, locals := 43 }
theorem in_X11_dealsNow_11 : ∀ w ∈ u_ws RX11 TX11 17, w ∈ wsX11_dealsNow := fun w h => List.mem_cons_of_mem _ (List.mem_append_left _ (List.mem_append_left _ (List.mem_append_left _ (List.mem_append_right _ h))))
theorem fg_X11_dealsNow_78 : aFl wsX11_dealsNow RX11 78 11 9 := ⟨RX11, TX11, 17, rfl, in_X11_dealsNow_11, by decide, (List.mem_of_getElem? (i := 1) rfl), rfl⟩
set_option maxRecDepth 100000 in
set_option maxHeartbeats 4000000 in
theorem m_X11_dealsNow {l : Launch} {g : aG} {σ : Hp} {r : Int × Hp} (h : F_RD_dealsNow σ = some r) : aMet l g shC yX11_dealsNow wsX11_dealsNow rm_X11_dealsNow [vR 0] σ 2 r := by
  unfold F_RD_dealsNow at h
  refine aMet_of (bytes := cX11_dealsNow) (maxL := 1) (ret := (some (.object "RoadDeals$Deals"))) (by decide +kernel) rfl (Nat.le_of_ble_eq_true rfl) ⟨rfl, rfl⟩ (fun x e1 e2 X E => ?_)
  subst e1; subst e2
  have X : aX x cX11_dealsNow wsX11_dealsNow RX11 1 rm_X11_dealsNow := X
  show aS x shC 1 0 [(0, vR 0)] [] σ
  refine A_aload_n X 0 rfl rfl dX11_dealsNow_0 ?_
  refine A_getA X fg_X11_dealsNow_78 shC_0 (k := 9) rfl (by decide) dX11_dealsNow_1 ?_
  obtain ⟨v1, s2, e3, h⟩ := clD h
  refine A_callV_V (na := 0) X (m_X3_settle e3) gX11_dealsNow_X3_settle rfl ⟨rfl, rfl⟩ (by decide +kernel) rfl ⟨Nat.le_of_ble_eq_true rfl, Nat.le_of_ble_eq_true rfl⟩ shC_173 (by decide) rfl rfl (Nat.le_of_ble_eq_true rfl) dX11_dealsNow_4 ?_
  refine A_aload_n X 0 rfl rfl dX11_dealsNow_7 ?_
  refine A_getA X fg_X11_dealsNow_78 shC_0 (k := 9) rfl (by decide) dX11_dealsNow_8 ?_
  exact A_areturn X E h dX11_dealsNow_11
abbrev rm_X11_planNow : Room := { frames := 3, cells := 0, slots := 0, locals := 120 }
theorem in_X11_planNow_11 : ∀ w ∈ u_ws RX11 TX11 17, w ∈ wsX11_planNow := fun w h => List.mem_cons_of_mem _ (List.mem_append_left _ (List.mem_append_left _ (List.mem_append_left _ (List.mem_append_right _ h))))
theorem fg_X11_planNow_62 : aFl wsX11_planNow RX11 62 11 6 := ⟨RX11, TX11, 17, rfl, in_X11_planNow_11, by decide, (List.mem_of_getElem? (i := 2) rfl), rfl⟩
theorem fg_X11_planNow_99 : aFl wsX11_planNow RX11 99 11 16 := ⟨RX11, TX11, 17, rfl, in_X11_planNow_11, by decide, (List.mem_of_getElem? (i := 1) rfl), rfl⟩
theorem fp_X11_planNow_99 : aFp wsX11_planNow RX11 99 11 16 .boolean := ⟨RX11, TX11, 17, tyX11, rfl, in_X11_planNow_11, by decide, (List.mem_of_getElem? (i := 1) rfl), rfl, tyX11_ok, nmX11, rfl, rfl⟩
set_option maxRecDepth 100000 in
set_option maxHeartbeats 4000000 in
theorem w_X11_planNow_21 {x : aC} {r : Int × Hp} (X : aX x cX11_planNow wsX11_planNow RX11 1 rm_X11_planNow) (E : aE x shC (some (.object "RoadDeals$Plan")) 2 r) (σ : Hp) (h : F_RD_planNow_21 σ = some r) : aS x shC 1 21 [(0, vR 0)] [] σ := by
  unfold F_RD_planNow_21 at h
  refine A_aload_n X 0 rfl rfl dX11_planNow_21 ?_
  refine A_getA X fg_X11_planNow_62 shC_0 (k := 6) rfl (by decide) dX11_planNow_22 ?_
  exact A_areturn X E h dX11_planNow_25
set_option maxRecDepth 100000 in
set_option maxHeartbeats 4000000 in
theorem m_X11_planNow {l : Launch} {g : aG} {σ : Hp} {r : Int × Hp} (h : F_RD_planNow σ = some r) : aMet l g shC yX11_planNow wsX11_planNow rm_X11_planNow [vR 0] σ 2 r := by
  unfold F_RD_planNow at h
  refine aMet_of (bytes := cX11_planNow) (maxL := 1) (ret := (some (.object "RoadDeals$Plan"))) (by decide +kernel) rfl (Nat.le_of_ble_eq_true rfl) ⟨rfl, rfl⟩ (fun x e1 e2 X E => ?_)
  subst e1; subst e2
  have X : aX x cX11_planNow wsX11_planNow RX11 1 rm_X11_planNow := X
  show aS x shC 1 0 [(0, vR 0)] [] σ
  refine A_aload_n X 0 rfl rfl dX11_planNow_0 ?_
  refine A_getI X fg_X11_planNow_99 shC_0 (k := 16) rfl (by decide) dX11_planNow_1 ?_
  refine A_if_eq X (tgt := 21) (by decide) dX11_planNow_4 (fun c1 => ?_) (fun c1 => ?_)
  · replace h := ifT h c1
    exact w_X11_planNow_21 X E σ h
  · replace h := ifF h c1
    refine A_aload_n X 0 rfl rfl dX11_planNow_7 ?_
    refine A_getA X fg_X11_planNow_62 shC_0 (k := 6) rfl (by decide) dX11_planNow_8 ?_
    refine A_iconst X dX11_planNow_11 (z := (-1)) (by decide) ?_
    refine A_iconst X dX11_planNow_12 (z := (-1)) (by decide) ?_
    obtain ⟨v2, s3, e4, h⟩ := clD h
    refine A_callV_V (na := 2) X (m_X7_take e4) gX11_planNow_X7_take rfl ⟨rfl, rfl⟩ (by decide +kernel) rfl ⟨Nat.le_of_ble_eq_true rfl, Nat.le_of_ble_eq_true rfl⟩ shC_112 (by decide) rfl rfl (Nat.le_of_ble_eq_true rfl) dX11_planNow_13 ?_
    refine A_aload_n X 0 rfl rfl dX11_planNow_16 ?_
    refine A_iconst X dX11_planNow_17 (z := 0) (by decide) ?_
    refine A_putZ X (Or.inl rfl) fp_X11_planNow_99 shC_0 (k := 16) rfl (by decide) dX11_planNow_18 (fun s5 hy => ?_)
    replace h := ltD h s5 hy
    clear hy
    exact w_X11_planNow_21 X E s5 h
abbrev rm_X11_away : Room := { frames := 4, cells := 0, slots := 0, locals := 140 }
set_option maxRecDepth 100000 in
set_option maxHeartbeats 4000000 in
theorem m_X11_away {l : Launch} {g : aG} {σ : Hp} {r : Int × Hp} (h : F_RD_away σ = some r) : aMet l g shC yX11_away wsX11_away rm_X11_away [vR 0] σ 0 r := by
  unfold F_RD_away at h
  refine aMet_of (bytes := cX11_away) (maxL := 1) (ret := (some .int)) (by decide +kernel) rfl (Nat.le_of_ble_eq_true rfl) ⟨rfl, rfl⟩ (fun x e1 e2 X E => ?_)
  subst e1; subst e2
  have X : aX x cX11_away wsX11_away RX11 1 rm_X11_away := X
  show aS x shC 1 0 [(0, vR 0)] [] σ
  refine A_aload_n X 0 rfl rfl dX11_away_0 ?_
  obtain ⟨v1, s2, e3, h⟩ := clD h
  refine A_callV_R (na := 0) X (m_X11_dealsNow e3) gX11_away_X11_dealsNow rfl ⟨rfl, rfl⟩ (by decide +kernel) rfl ⟨Nat.le_of_ble_eq_true rfl, Nat.le_of_ble_eq_true rfl⟩ shC_0 (by decide) rfl rfl (Nat.le_of_ble_eq_true rfl) dX11_away_1 ?_
  obtain ⟨g4, h⟩ := gdD h
  rw [g4]
  refine A_aload_n X 0 rfl rfl dX11_away_4 ?_
  obtain ⟨v5, s6, e7, h⟩ := clD h
  refine A_callV_R (na := 0) X (m_X11_planNow e7) gX11_away_X11_planNow rfl ⟨rfl, rfl⟩ (by decide +kernel) rfl ⟨Nat.le_of_ble_eq_true rfl, Nat.le_of_ble_eq_true rfl⟩ shC_0 (by decide) rfl rfl (Nat.le_of_ble_eq_true rfl) dX11_away_5 ?_
  obtain ⟨g8, h⟩ := gdD h
  rw [g8]
  obtain ⟨v9, s10, e11, h⟩ := clD h
  refine A_callV_I (na := 1) X (m_X3_leastAway e11) gX11_away_X3_leastAway rfl ⟨rfl, rfl⟩ (by decide +kernel) rfl ⟨Nat.le_of_ble_eq_true rfl, Nat.le_of_ble_eq_true rfl⟩ shC_173 (by decide) rfl rfl (Nat.le_of_ble_eq_true rfl) dX11_away_8 ?_
  exact A_ireturn X E h dX11_away_11
abbrev rm_X11_breaks : Room := { frames := 3, cells := 0, slots := 0, locals := 63 }
theorem in_X11_breaks_11 : ∀ w ∈ u_ws RX11 TX11 17, w ∈ wsX11_breaks := fun w h => List.mem_cons_of_mem _ (List.mem_append_left _ (List.mem_append_left _ (List.mem_append_left _ (List.mem_append_right _ h))))
theorem fg_X11_breaks_78 : aFl wsX11_breaks RX11 78 11 9 := ⟨RX11, TX11, 17, rfl, in_X11_breaks_11, by decide, (List.mem_of_getElem? (i := 1) rfl), rfl⟩
set_option maxRecDepth 100000 in
set_option maxHeartbeats 4000000 in
theorem w_X11_breaks_28 {x : aC} {r : Int × Hp} (X : aX x cX11_breaks wsX11_breaks RX11 2 rm_X11_breaks) (E : aE x shC (some .int) 0 r) (t1 : Int) (σ : Hp) (h : F_RD_breaks_28 t1 σ = some r) : aS x shC 2 28 [] [vI t1] σ := by
  unfold F_RD_breaks_28 at h
  exact A_ireturn X E h dX11_breaks_28
set_option maxRecDepth 100000 in
set_option maxHeartbeats 4000000 in
theorem m_X11_breaks {l : Launch} {g : aG} {σ : Hp} {r : Int × Hp} (h : F_RD_breaks σ = some r) : aMet l g shC yX11_breaks wsX11_breaks rm_X11_breaks [vR 0] σ 0 r := by
  unfold F_RD_breaks at h
  refine aMet_of (bytes := cX11_breaks) (maxL := 2) (ret := (some .int)) (by decide +kernel) rfl (Nat.le_of_ble_eq_true rfl) ⟨rfl, rfl⟩ (fun x e1 e2 X E => ?_)
  subst e1; subst e2
  have X : aX x cX11_breaks wsX11_breaks RX11 2 rm_X11_breaks := X
  show aS x shC 2 0 [(0, vR 0)] [] σ
  refine A_aload_n X 0 rfl rfl dX11_breaks_0 ?_
  obtain ⟨v1, s2, e3, h⟩ := clD h
  refine A_callV_R (na := 0) X (m_X11_dealsNow e3) gX11_breaks_X11_dealsNow rfl ⟨rfl, rfl⟩ (by decide +kernel) rfl ⟨Nat.le_of_ble_eq_true rfl, Nat.le_of_ble_eq_true rfl⟩ shC_0 (by decide) rfl rfl (Nat.le_of_ble_eq_true rfl) dX11_breaks_1 ?_
  obtain ⟨g4, h⟩ := gdD h
  rw [g4]
  obtain ⟨v5, s6, e7, h⟩ := clD h
  refine A_callV_I (na := 0) X (m_X3_firstLone e7) gX11_breaks_X3_firstLone rfl ⟨rfl, rfl⟩ (by decide +kernel) rfl ⟨Nat.le_of_ble_eq_true rfl, Nat.le_of_ble_eq_true rfl⟩ shC_173 (by decide) rfl rfl (Nat.le_of_ble_eq_true rfl) dX11_breaks_4 ?_
  refine A_istore_n X (L' := [(1, vI v5), (0, vR 0)]) rfl (by decide) rfl dX11_breaks_7 ?_
  refine A_iload_n X 0 rfl rfl dX11_breaks_8 ?_
  refine A_iconst X dX11_breaks_9 (z := (-1)) (by decide) ?_
  refine A_icmp_eq X (tgt := 20) (by decide) dX11_breaks_10 (fun c8 => ?_) (fun c8 => ?_)
  · replace h := ifT h c8
    refine A_aload_n X 1 rfl rfl dX11_breaks_20 ?_
    refine A_getA X fg_X11_breaks_78 shC_0 (k := 9) rfl (by decide) dX11_breaks_21 ?_
    refine A_iconst X dX11_breaks_24 (z := 0) (by decide) ?_
    obtain ⟨v9, s10, e11, h⟩ := clD h
    refine A_callV_I (na := 1) X (m_X3_firstShort e11) gX11_breaks_X3_firstShort rfl ⟨rfl, rfl⟩ (by decide +kernel) rfl ⟨Nat.le_of_ble_eq_true rfl, Nat.le_of_ble_eq_true rfl⟩ shC_173 (by decide) rfl rfl (Nat.le_of_ble_eq_true rfl) dX11_breaks_25 ?_
    refine A_sub [] rfl (L' := []) rfl ?_
    exact w_X11_breaks_28 X E v9 s10 h
  · replace h := ifF h c8
    refine A_bipush X dX11_breaks_13 (z := 100) (by decide) ?_
    refine A_iload_n X 0 rfl rfl dX11_breaks_15 ?_
    refine A_iadd X dX11_breaks_16 ?_
    refine A_goto X (tgt := 28) (by decide) dX11_breaks_17 ?_
    refine A_sub [] rfl (L' := []) rfl ?_
    exact w_X11_breaks_28 X E (iadd 100 v5) s6 h
abbrev rm_X11_isSomebody : Room := { frames := 0, cells := 0, slots := 0, locals := 0 }
theorem in_X11_isSomebody_11 : ∀ w ∈ u_ws RX11 TX11 17, w ∈ wsX11_isSomebody := fun w h => List.mem_cons_of_mem _ (List.mem_append_left _ (List.mem_append_right _ h))
theorem fg_X11_isSomebody_37 : aFl wsX11_isSomebody RX11 37 11 3 := ⟨RX11, TX11, 17, rfl, in_X11_isSomebody_11, by decide, (List.mem_of_getElem? (i := 1) rfl), rfl⟩
theorem in_X11_isSomebody_6 : ∀ w ∈ u_ws RX6 TX6 20, w ∈ wsX11_isSomebody := fun w h => List.mem_cons_of_mem _ (List.mem_append_right _ h)
theorem fg_X11_isSomebody_144 : aFl wsX11_isSomebody RX11 144 6 15 := ⟨RX6, TX6, 20, rfl, in_X11_isSomebody_6, by decide, (List.mem_of_getElem? (i := 2) rfl), rfl⟩
set_option maxRecDepth 100000 in
set_option maxHeartbeats 4000000 in
theorem w_X11_isSomebody_20 {x : aC} {r : Int × Hp} {a1 : Int} (X : aX x cX11_isSomebody wsX11_isSomebody RX11 2 rm_X11_isSomebody) (E : aE x shC (some .boolean) 0 r) (t1 : Int) (σ : Hp) (h : F_RD_isSomebody_20 a1 t1 σ = some r) : aS x shC 2 20 [] [vI t1] σ := by
  unfold F_RD_isSomebody_20 at h
  obtain ⟨g1, h⟩ := gdD h
  exact A_zreturn X g1 E h dX11_isSomebody_20
set_option maxRecDepth 100000 in
set_option maxHeartbeats 4000000 in
theorem w_X11_isSomebody_19 {x : aC} {r : Int × Hp} {a1 : Int} (X : aX x cX11_isSomebody wsX11_isSomebody RX11 2 rm_X11_isSomebody) (E : aE x shC (some .boolean) 0 r) (σ : Hp) (h : F_RD_isSomebody_19 a1 σ = some r) : aS x shC 2 19 [] [] σ := by
  unfold F_RD_isSomebody_19 at h
  refine A_iconst X dX11_isSomebody_19 (z := 0) (by decide) ?_
  exact w_X11_isSomebody_20 (a1 := a1) X E 0 σ h
set_option maxRecDepth 100000 in
set_option maxHeartbeats 4000000 in
theorem m_X11_isSomebody {l : Launch} {g : aG} {a1 : Int} {σ : Hp} {r : Int × Hp} (h : F_RD_isSomebody a1 σ = some r) : aMet l g shC yX11_isSomebody wsX11_isSomebody rm_X11_isSomebody [vR 0, vI a1] σ 0 r := by
  unfold F_RD_isSomebody at h
  refine aMet_of (bytes := cX11_isSomebody) (maxL := 2) (ret := (some .boolean)) (by decide +kernel) rfl (Nat.le_of_ble_eq_true rfl) ⟨rfl, rfl⟩ (fun x e1 e2 X E => ?_)
  subst e1; subst e2
  have X : aX x cX11_isSomebody wsX11_isSomebody RX11 2 rm_X11_isSomebody := X
  show aS x shC 2 0 [(0, vR 0), (1, vI a1)] [] σ
  refine A_iload_n X 1 rfl rfl dX11_isSomebody_0 ?_
  refine A_if_lt X (tgt := 19) (by decide) dX11_isSomebody_1 (fun c2 => ?_) (fun c2 => ?_)
  · replace h := ifT h c2
    refine A_sub [] rfl (L' := []) rfl ?_
    exact w_X11_isSomebody_19 (a1 := a1) X E σ h
  · replace h := ifF h c2
    refine A_iload_n X 1 rfl rfl dX11_isSomebody_4 ?_
    refine A_aload_n X 0 rfl rfl dX11_isSomebody_5 ?_
    refine A_getV X fg_X11_isSomebody_37 shC_0 (k := 3) rfl (by decide) dX11_isSomebody_6 ?_
    obtain ⟨q3, hy⟩ : ∃ y, y = (σ 0 3).toNat := ⟨_, rfl⟩
    replace h := ltD h q3 hy
    rw [← hy]
    clear hy
    obtain ⟨g4, h⟩ := gdD h
    refine A_getI X fg_X11_isSomebody_144 (shNet g4) (k := 15) rfl (by decide) dX11_isSomebody_9 ?_
    refine A_icmp_ge X (tgt := 19) (by decide) dX11_isSomebody_12 (fun c5 => ?_) (fun c5 => ?_)
    · replace h := ifT h c5
      refine A_sub [] rfl (L' := []) rfl ?_
      exact w_X11_isSomebody_19 (a1 := a1) X E σ h
    · replace h := ifF h c5
      refine A_iconst X dX11_isSomebody_15 (z := 1) (by decide) ?_
      refine A_goto X (tgt := 20) (by decide) dX11_isSomebody_16 ?_
      refine A_sub [] rfl (L' := []) rfl ?_
      exact w_X11_isSomebody_20 (a1 := a1) X E 1 σ h
abbrev rm_X11_chain : Room := { frames := 3, cells := 0, slots := 0, locals := 73 }
set_option maxRecDepth 100000 in
set_option maxHeartbeats 4000000 in
theorem w_X11_chain_25 {x : aC} {r : Int × Hp} {a1 : Int} {a2 : Int} (X : aX x cX11_chain wsX11_chain RX11 3 rm_X11_chain) (E : aE x shC (some .int) 0 r) (t1 : Int) (σ : Hp) (h : F_RD_chain_25 a1 a2 t1 σ = some r) : aS x shC 3 25 [] [vI t1] σ := by
  unfold F_RD_chain_25 at h
  exact A_ireturn X E h dX11_chain_25
set_option maxRecDepth 100000 in
set_option maxHeartbeats 4000000 in
theorem w_X11_chain_24 {x : aC} {r : Int × Hp} {a1 : Int} {a2 : Int} (X : aX x cX11_chain wsX11_chain RX11 3 rm_X11_chain) (E : aE x shC (some .int) 0 r) (σ : Hp) (h : F_RD_chain_24 a1 a2 σ = some r) : aS x shC 3 24 [] [] σ := by
  unfold F_RD_chain_24 at h
  refine A_iconst X dX11_chain_24 (z := (-1)) (by decide) ?_
  exact w_X11_chain_25 (a1 := a1) (a2 := a2) X E (-1) σ h
set_option maxRecDepth 100000 in
set_option maxHeartbeats 4000000 in
theorem m_X11_chain {l : Launch} {g : aG} {a1 : Int} {a2 : Int} {σ : Hp} {r : Int × Hp} (h : F_RD_chain a1 a2 σ = some r) : aMet l g shC yX11_chain wsX11_chain rm_X11_chain [vR 0, vI a1, vI a2] σ 0 r := by
  unfold F_RD_chain at h
  refine aMet_of (bytes := cX11_chain) (maxL := 3) (ret := (some .int)) (by decide +kernel) rfl (Nat.le_of_ble_eq_true rfl) ⟨rfl, rfl⟩ (fun x e1 e2 X E => ?_)
  subst e1; subst e2
  have X : aX x cX11_chain wsX11_chain RX11 3 rm_X11_chain := X
  show aS x shC 3 0 [(0, vR 0), (1, vI a1), (2, vI a2)] [] σ
  refine A_aload_n X 0 rfl rfl dX11_chain_0 ?_
  refine A_iload_n X 1 rfl rfl dX11_chain_1 ?_
  obtain ⟨v1, s2, e3, h⟩ := clD h
  refine A_callV_I (na := 1) X (m_X11_isSomebody e3) gX11_chain_X11_isSomebody rfl ⟨rfl, rfl⟩ (by decide +kernel) rfl ⟨Nat.le_of_ble_eq_true rfl, Nat.le_of_ble_eq_true rfl⟩ shC_0 (by decide) rfl rfl (Nat.le_of_ble_eq_true rfl) dX11_chain_2 ?_
  refine A_if_eq X (tgt := 24) (by decide) dX11_chain_5 (fun c4 => ?_) (fun c4 => ?_)
  · replace h := ifT h c4
    refine A_sub [] rfl (L' := []) rfl ?_
    exact w_X11_chain_24 (a1 := a1) (a2 := a2) X E s2 h
  · replace h := ifF h c4
    refine A_iload_n X 2 rfl rfl dX11_chain_8 ?_
    refine A_if_lt X (tgt := 24) (by decide) dX11_chain_9 (fun c5 => ?_) (fun c5 => ?_)
    · replace h := ifT h c5
      refine A_sub [] rfl (L' := []) rfl ?_
      exact w_X11_chain_24 (a1 := a1) (a2 := a2) X E s2 h
    · replace h := ifF h c5
      refine A_aload_n X 0 rfl rfl dX11_chain_12 ?_
      obtain ⟨v6, s7, e8, h⟩ := clD h
      refine A_callV_R (na := 0) X (m_X11_dealsNow e8) gX11_chain_X11_dealsNow rfl ⟨rfl, rfl⟩ (by decide +kernel) rfl ⟨Nat.le_of_ble_eq_true rfl, Nat.le_of_ble_eq_true rfl⟩ shC_0 (by decide) rfl rfl (Nat.le_of_ble_eq_true rfl) dX11_chain_13 ?_
      obtain ⟨g9, h⟩ := gdD h
      rw [g9]
      refine A_iload_n X 1 rfl rfl dX11_chain_16 ?_
      refine A_iload_n X 2 rfl rfl dX11_chain_17 ?_
      obtain ⟨v10, s11, e12, h⟩ := clD h
      refine A_callV_I (na := 2) X (m_X3_chainOf e12) gX11_chain_X3_chainOf rfl ⟨rfl, rfl⟩ (by decide +kernel) rfl ⟨Nat.le_of_ble_eq_true rfl, Nat.le_of_ble_eq_true rfl⟩ shC_173 (by decide) rfl rfl (Nat.le_of_ble_eq_true rfl) dX11_chain_18 ?_
      refine A_goto X (tgt := 25) (by decide) dX11_chain_21 ?_
      refine A_sub [] rfl (L' := []) rfl ?_
      exact w_X11_chain_25 (a1 := a1) (a2 := a2) X E v10 s11 h
abbrev rm_X11_day : Room := { frames := 7, cells := 0, slots := 0, locals := 161 }
theorem in_X11_day_11 : ∀ w ∈ u_ws RX11 TX11 17, w ∈ wsX11_day := fun w h => List.mem_cons_of_mem _ (List.mem_append_left _ (List.mem_append_left _ (List.mem_append_left _ (List.mem_append_right _ h))))
theorem fp_X11_day_160 : aFp wsX11_day RX11 160 11 11 .int := ⟨RX11, TX11, 17, tyX11, rfl, in_X11_day_11, by decide, (List.mem_of_getElem? (i := 1) rfl), rfl, tyX11_ok, nmX11, rfl, rfl⟩
set_option maxRecDepth 100000 in
set_option maxHeartbeats 4000000 in
theorem w_X11_day_11 {x : aC} {r : Int × Hp} {a1 : Int} (X : aX x cX11_day wsX11_day RX11 2 rm_X11_day) (E : aE x shC (some .boolean) 0 r) (σ : Hp) (h : F_RD_day_11 a1 σ = some r) : aS x shC 2 11 [] [] σ := by
  unfold F_RD_day_11 at h
  refine A_iconst X dX11_day_11 (z := 0) (by decide) ?_
  exact A_zreturn X (Or.inl rfl) E h dX11_day_12
set_option maxRecDepth 100000 in
set_option maxHeartbeats 4000000 in
theorem m_X11_day {l : Launch} {g : aG} {a1 : Int} {σ : Hp} {r : Int × Hp} (h : F_RD_day a1 σ = some r) : aMet l g shC yX11_day wsX11_day rm_X11_day [vR 0, vI a1] σ 0 r := by
  unfold F_RD_day at h
  refine aMet_of (bytes := cX11_day) (maxL := 2) (ret := (some .boolean)) (by decide +kernel) rfl (Nat.le_of_ble_eq_true rfl) ⟨rfl, rfl⟩ (fun x e1 e2 X E => ?_)
  subst e1; subst e2
  have X : aX x cX11_day wsX11_day RX11 2 rm_X11_day := X
  show aS x shC 2 0 [(0, vR 0), (1, vI a1)] [] σ
  refine A_iload_n X 1 rfl rfl dX11_day_0 ?_
  refine A_if_lt X (tgt := 11) (by decide) dX11_day_1 (fun c1 => ?_) (fun c1 => ?_)
  · replace h := ifT h c1
    refine A_sub [] rfl (L' := []) rfl ?_
    exact w_X11_day_11 (a1 := a1) X E σ h
  · replace h := ifF h c1
    refine A_iload_n X 1 rfl rfl dX11_day_4 ?_
    refine A_sipush X dX11_day_5 (z := 999) (by decide) ?_
    refine A_icmp_le X (tgt := 13) (by decide) dX11_day_8 (fun c2 => ?_) (fun c2 => ?_)
    · replace h := ifT h c2
      refine A_aload_n X 0 rfl rfl dX11_day_13 ?_
      refine A_iload_n X 1 rfl rfl dX11_day_14 ?_
      refine A_putI X fp_X11_day_160 shC_0 (k := 11) rfl (by decide) dX11_day_15 (fun s3 hy => ?_)
      replace h := ltD h s3 hy
      clear hy
      refine A_aload_n X 0 rfl rfl dX11_day_18 ?_
      obtain ⟨v4, s5, e6, h⟩ := clD h
      refine A_callV_V (na := 0) X (m_X11_lookAgain e6) gX11_day_X11_lookAgain rfl ⟨rfl, rfl⟩ (by decide +kernel) rfl ⟨Nat.le_of_ble_eq_true rfl, Nat.le_of_ble_eq_true rfl⟩ shC_0 (by decide) rfl rfl (Nat.le_of_ble_eq_true rfl) dX11_day_19 ?_
      refine A_iconst X dX11_day_22 (z := 1) (by decide) ?_
      exact A_zreturn X (Or.inr rfl) E h dX11_day_23
    · replace h := ifF h c2
      refine A_sub [] rfl (L' := []) rfl ?_
      exact w_X11_day_11 (a1 := a1) X E σ h
abbrev rm_X11_isRoad : Room := { frames := 0, cells := 0, slots := 0, locals := 0 }
theorem in_X11_isRoad_11 : ∀ w ∈ u_ws RX11 TX11 17, w ∈ wsX11_isRoad := fun w h => List.mem_cons_of_mem _ (List.mem_append_left _ (List.mem_append_right _ h))
theorem fg_X11_isRoad_37 : aFl wsX11_isRoad RX11 37 11 3 := ⟨RX11, TX11, 17, rfl, in_X11_isRoad_11, by decide, (List.mem_of_getElem? (i := 1) rfl), rfl⟩
theorem in_X11_isRoad_6 : ∀ w ∈ u_ws RX6 TX6 20, w ∈ wsX11_isRoad := fun w h => List.mem_cons_of_mem _ (List.mem_append_right _ h)
theorem fg_X11_isRoad_147 : aFl wsX11_isRoad RX11 147 6 16 := ⟨RX6, TX6, 20, rfl, in_X11_isRoad_6, by decide, (List.mem_of_getElem? (i := 2) rfl), rfl⟩
set_option maxRecDepth 100000 in
set_option maxHeartbeats 4000000 in
theorem w_X11_isRoad_20 {x : aC} {r : Int × Hp} {a1 : Int} (X : aX x cX11_isRoad wsX11_isRoad RX11 2 rm_X11_isRoad) (E : aE x shC (some .boolean) 0 r) (t1 : Int) (σ : Hp) (h : F_RD_isRoad_20 a1 t1 σ = some r) : aS x shC 2 20 [] [vI t1] σ := by
  unfold F_RD_isRoad_20 at h
  obtain ⟨g1, h⟩ := gdD h
  exact A_zreturn X g1 E h dX11_isRoad_20
set_option maxRecDepth 100000 in
set_option maxHeartbeats 4000000 in
theorem w_X11_isRoad_19 {x : aC} {r : Int × Hp} {a1 : Int} (X : aX x cX11_isRoad wsX11_isRoad RX11 2 rm_X11_isRoad) (E : aE x shC (some .boolean) 0 r) (σ : Hp) (h : F_RD_isRoad_19 a1 σ = some r) : aS x shC 2 19 [] [] σ := by
  unfold F_RD_isRoad_19 at h
  refine A_iconst X dX11_isRoad_19 (z := 0) (by decide) ?_
  exact w_X11_isRoad_20 (a1 := a1) X E 0 σ h
set_option maxRecDepth 100000 in
set_option maxHeartbeats 4000000 in
theorem m_X11_isRoad {l : Launch} {g : aG} {a1 : Int} {σ : Hp} {r : Int × Hp} (h : F_RD_isRoad a1 σ = some r) : aMet l g shC yX11_isRoad wsX11_isRoad rm_X11_isRoad [vR 0, vI a1] σ 0 r := by
  unfold F_RD_isRoad at h
  refine aMet_of (bytes := cX11_isRoad) (maxL := 2) (ret := (some .boolean)) (by decide +kernel) rfl (Nat.le_of_ble_eq_true rfl) ⟨rfl, rfl⟩ (fun x e1 e2 X E => ?_)
  subst e1; subst e2
  have X : aX x cX11_isRoad wsX11_isRoad RX11 2 rm_X11_isRoad := X
  show aS x shC 2 0 [(0, vR 0), (1, vI a1)] [] σ
  refine A_iload_n X 1 rfl rfl dX11_isRoad_0 ?_
  refine A_if_lt X (tgt := 19) (by decide) dX11_isRoad_1 (fun c2 => ?_) (fun c2 => ?_)
  · replace h := ifT h c2
    refine A_sub [] rfl (L' := []) rfl ?_
    exact w_X11_isRoad_19 (a1 := a1) X E σ h
  · replace h := ifF h c2
    refine A_iload_n X 1 rfl rfl dX11_isRoad_4 ?_
    refine A_aload_n X 0 rfl rfl dX11_isRoad_5 ?_
    refine A_getV X fg_X11_isRoad_37 shC_0 (k := 3) rfl (by decide) dX11_isRoad_6 ?_
    obtain ⟨q3, hy⟩ : ∃ y, y = (σ 0 3).toNat := ⟨_, rfl⟩
    replace h := ltD h q3 hy
    rw [← hy]
    clear hy
    obtain ⟨g4, h⟩ := gdD h
    refine A_getI X fg_X11_isRoad_147 (shNet g4) (k := 16) rfl (by decide) dX11_isRoad_9 ?_
    refine A_icmp_ge X (tgt := 19) (by decide) dX11_isRoad_12 (fun c5 => ?_) (fun c5 => ?_)
    · replace h := ifT h c5
      refine A_sub [] rfl (L' := []) rfl ?_
      exact w_X11_isRoad_19 (a1 := a1) X E σ h
    · replace h := ifF h c5
      refine A_iconst X dX11_isRoad_15 (z := 1) (by decide) ?_
      refine A_goto X (tgt := 20) (by decide) dX11_isRoad_16 ?_
      refine A_sub [] rfl (L' := []) rfl ?_
      exact w_X11_isRoad_20 (a1 := a1) X E 1 σ h
abbrev rm_X11_deal : Room := { frames := 2, cells := 0, slots := 0, locals := 47 }
theorem in_X11_deal_11 : ∀ w ∈ u_ws RX11 TX11 17, w ∈ wsX11_deal := fun w h => List.mem_cons_of_mem _ (List.mem_append_left _ (List.mem_append_left _ (List.mem_append_left _ (List.mem_append_right _ h))))
theorem fg_X11_deal_46 : aFl wsX11_deal RX11 46 11 4 := ⟨RX11, TX11, 17, rfl, in_X11_deal_11, by decide, (List.mem_of_getElem? (i := 3) rfl), rfl⟩
theorem in_X11_deal_10 : ∀ w ∈ u_ws RX10 TX10 3, w ∈ wsX11_deal := fun w h => List.mem_cons_of_mem _ (List.mem_append_left _ (List.mem_append_left _ (List.mem_append_right _ h)))
theorem fg_X11_deal_187 : aFl wsX11_deal RX11 187 10 0 := ⟨RX10, TX10, 3, rfl, in_X11_deal_10, by decide, (List.mem_of_getElem? (i := 4) rfl), rfl⟩
theorem fg_X11_deal_78 : aFl wsX11_deal RX11 78 11 9 := ⟨RX11, TX11, 17, rfl, in_X11_deal_11, by decide, (List.mem_of_getElem? (i := 5) rfl), rfl⟩
theorem fg_X11_deal_37 : aFl wsX11_deal RX11 37 11 3 := ⟨RX11, TX11, 17, rfl, in_X11_deal_11, by decide, (List.mem_of_getElem? (i := 6) rfl), rfl⟩
theorem in_X11_deal_3 : ∀ w ∈ u_ws RX3 TX3 11, w ∈ wsX11_deal := fun w h => List.mem_cons_of_mem _ (List.mem_append_left _ (List.mem_append_right _ h))
theorem fg_X11_deal_159 : aFl wsX11_deal RX11 159 3 2 := ⟨RX3, TX3, 11, rfl, in_X11_deal_3, by decide, (List.mem_of_getElem? (i := 7) rfl), rfl⟩
set_option maxRecDepth 100000 in
set_option maxHeartbeats 4000000 in
theorem w_X11_deal_34 {x : aC} {r : Int × Hp} {a1 : Int} {a2 : Int} (X : aX x cX11_deal wsX11_deal RX11 3 rm_X11_deal) (E : aE x shC (some .int) 0 r) (σ : Hp) (h : F_RD_deal_34 a1 a2 σ = some r) : aS x shC 3 34 [] [] σ := by
  unfold F_RD_deal_34 at h
  refine A_iconst X dX11_deal_34 (z := (-1)) (by decide) ?_
  exact A_ireturn X E h dX11_deal_35
set_option maxRecDepth 100000 in
set_option maxHeartbeats 4000000 in
theorem w_X11_deal_63 {x : aC} {r : Int × Hp} {a1 : Int} {a2 : Int} (X : aX x cX11_deal wsX11_deal RX11 3 rm_X11_deal) (E : aE x shC (some .int) 0 r) (t1 : Int) (σ : Hp) (h : F_RD_deal_63 a1 a2 t1 σ = some r) : aS x shC 3 63 [] [vI t1] σ := by
  unfold F_RD_deal_63 at h
  exact A_ireturn X E h dX11_deal_63
set_option maxRecDepth 100000 in
set_option maxHeartbeats 4000000 in
theorem m_X11_deal {l : Launch} {g : aG} {a1 : Int} {a2 : Int} {σ : Hp} {r : Int × Hp} (h : F_RD_deal a1 a2 σ = some r) : aMet l g shC yX11_deal wsX11_deal rm_X11_deal [vR 0, vI a1, vI a2] σ 0 r := by
  unfold F_RD_deal at h
  refine aMet_of (bytes := cX11_deal) (maxL := 3) (ret := (some .int)) (by decide +kernel) rfl (Nat.le_of_ble_eq_true rfl) ⟨rfl, rfl⟩ (fun x e1 e2 X E => ?_)
  subst e1; subst e2
  have X : aX x cX11_deal wsX11_deal RX11 3 rm_X11_deal := X
  show aS x shC 3 0 [(0, vR 0), (1, vI a1), (2, vI a2)] [] σ
  refine A_aload_n X 0 rfl rfl dX11_deal_0 ?_
  refine A_iload_n X 1 rfl rfl dX11_deal_1 ?_
  obtain ⟨v1, s2, e3, h⟩ := clD h
  refine A_callV_I (na := 1) X (m_X11_isRoad e3) gX11_deal_X11_isRoad rfl ⟨rfl, rfl⟩ (by decide +kernel) rfl ⟨Nat.le_of_ble_eq_true rfl, Nat.le_of_ble_eq_true rfl⟩ shC_0 (by decide) rfl rfl (Nat.le_of_ble_eq_true rfl) dX11_deal_2 ?_
  refine A_if_eq X (tgt := 34) (by decide) dX11_deal_5 (fun c4 => ?_) (fun c4 => ?_)
  · replace h := ifT h c4
    refine A_sub [] rfl (L' := []) rfl ?_
    exact w_X11_deal_34 (a1 := a1) (a2 := a2) X E s2 h
  · replace h := ifF h c4
    refine A_iload_n X 2 rfl rfl dX11_deal_8 ?_
    refine A_ldcw X (v := (-1000000)) (List.mem_of_getElem? (i := 1) rfl) dX11_deal_9 (z := (-1000000)) (by decide) ?_
    refine A_icmp_lt X (tgt := 34) (by decide) dX11_deal_12 (fun c5 => ?_) (fun c5 => ?_)
    · replace h := ifT h c5
      refine A_sub [] rfl (L' := []) rfl ?_
      exact w_X11_deal_34 (a1 := a1) (a2 := a2) X E s2 h
    · replace h := ifF h c5
      refine A_iload_n X 2 rfl rfl dX11_deal_15 ?_
      refine A_ldcw X (v := (1000000)) (List.mem_of_getElem? (i := 2) rfl) dX11_deal_16 (z := 1000000) (by decide) ?_
      refine A_icmp_gt X (tgt := 34) (by decide) dX11_deal_19 (fun c6 => ?_) (fun c6 => ?_)
      · replace h := ifT h c6
        refine A_sub [] rfl (L' := []) rfl ?_
        exact w_X11_deal_34 (a1 := a1) (a2 := a2) X E s2 h
      · replace h := ifF h c6
        refine A_aload_n X 0 rfl rfl dX11_deal_22 ?_
        refine A_getA X fg_X11_deal_46 shC_0 (k := 4) rfl (by decide) dX11_deal_23 ?_
        refine A_getR X fg_X11_deal_187 shC_88 (k := 0) rfl (by decide) dX11_deal_26 ?_
        refine A_iload_n X 1 rfl rfl dX11_deal_29 ?_
        obtain ⟨g7, h⟩ := gdD h
        refine A_zald X g7 shC_89 dX11_deal_30 ?_
        refine A_if_ne X (tgt := 36) (by decide) dX11_deal_31 (fun c8 => ?_) (fun c8 => ?_)
        · replace h := ifF h c8
          refine A_aload_n X 0 rfl rfl dX11_deal_36 ?_
          refine A_getA X fg_X11_deal_78 shC_0 (k := 9) rfl (by decide) dX11_deal_37 ?_
          refine A_aload_n X 0 rfl rfl dX11_deal_40 ?_
          refine A_getV X fg_X11_deal_37 shC_0 (k := 3) rfl (by decide) dX11_deal_41 ?_
          obtain ⟨q9, hy⟩ : ∃ y, y = (s2 0 3).toNat := ⟨_, rfl⟩
          replace h := ltD h q9 hy
          rw [← hy]
          clear hy
          obtain ⟨g10, h⟩ := gdD h
          refine A_iload_n X 1 rfl rfl dX11_deal_44 ?_
          refine A_iload_n X 2 rfl rfl dX11_deal_45 ?_
          obtain ⟨v11, s12, e13, h⟩ := clD h
          refine A_callV_I (na := 3) X (m_X3_tell e13) gX11_deal_X3_tell rfl ⟨rfl, rfl⟩ (by decide +kernel) rfl ⟨Nat.le_of_ble_eq_true rfl, Nat.le_of_ble_eq_true rfl⟩ shC_173 (by decide) rfl rfl (Nat.le_of_ble_eq_true rfl) dX11_deal_46 ?_
          refine A_if_eq X (tgt := 62) (by decide) dX11_deal_49 (fun c14 => ?_) (fun c14 => ?_)
          · replace h := ifT h c14
            refine A_iconst X dX11_deal_62 (z := (-1)) (by decide) ?_
            refine A_sub [] rfl (L' := []) rfl ?_
            exact w_X11_deal_63 (a1 := a1) (a2 := a2) X E (-1) s12 h
          · replace h := ifF h c14
            refine A_aload_n X 0 rfl rfl dX11_deal_52 ?_
            refine A_getA X fg_X11_deal_78 shC_0 (k := 9) rfl (by decide) dX11_deal_53 ?_
            refine A_getI X fg_X11_deal_159 shC_173 (k := 2) rfl (by decide) dX11_deal_56 ?_
            refine A_goto X (tgt := 63) (by decide) dX11_deal_59 ?_
            refine A_sub [] rfl (L' := []) rfl ?_
            exact w_X11_deal_63 (a1 := a1) (a2 := a2) X E (s12 173 2) s12 h
        · replace h := ifT h c8
          refine A_sub [] rfl (L' := []) rfl ?_
          exact w_X11_deal_34 (a1 := a1) (a2 := a2) X E s2 h
abbrev rm_X11_dealRow : Room := { frames := 4, cells := 0, slots := 0, locals := 140 }
theorem in_X11_dealRow_7 : ∀ w ∈ u_ws RX7 TX7 11, w ∈ wsX11_dealRow := fun w h => List.mem_cons_of_mem _ (List.mem_append_left _ (List.mem_append_left _ (List.mem_append_left _ (List.mem_append_right _ h))))
theorem fg_X11_dealRow_219 : aFl wsX11_dealRow RX11 219 7 6 := ⟨RX7, TX7, 11, rfl, in_X11_dealRow_7, by decide, (List.mem_of_getElem? (i := 2) rfl), rfl⟩
theorem in_X11_dealRow_11 : ∀ w ∈ u_ws RX11 TX11 17, w ∈ wsX11_dealRow := fun w h => List.mem_cons_of_mem _ (List.mem_append_left _ (List.mem_append_left _ (List.mem_append_left _ (List.mem_append_left _ (List.mem_append_right _ h)))))
theorem fg_X11_dealRow_78 : aFl wsX11_dealRow RX11 78 11 9 := ⟨RX11, TX11, 17, rfl, in_X11_dealRow_11, by decide, (List.mem_of_getElem? (i := 1) rfl), rfl⟩
theorem in_X11_dealRow_3 : ∀ w ∈ u_ws RX3 TX3 11, w ∈ wsX11_dealRow := fun w h => List.mem_cons_of_mem _ (List.mem_append_left _ (List.mem_append_right _ h))
theorem fg_X11_dealRow_159 : aFl wsX11_dealRow RX11 159 3 2 := ⟨RX3, TX3, 11, rfl, in_X11_dealRow_3, by decide, (List.mem_of_getElem? (i := 8) rfl), rfl⟩
theorem fg_X11_dealRow_222 : aFl wsX11_dealRow RX11 222 7 5 := ⟨RX7, TX7, 11, rfl, in_X11_dealRow_7, by decide, (List.mem_of_getElem? (i := 3) rfl), rfl⟩
theorem fg_X11_dealRow_37 : aFl wsX11_dealRow RX11 37 11 3 := ⟨RX11, TX11, 17, rfl, in_X11_dealRow_11, by decide, (List.mem_of_getElem? (i := 4) rfl), rfl⟩
theorem in_X11_dealRow_6 : ∀ w ∈ u_ws RX6 TX6 20, w ∈ wsX11_dealRow := fun w h => List.mem_cons_of_mem _ (List.mem_append_left _ (List.mem_append_left _ (List.mem_append_right _ h)))
theorem fg_X11_dealRow_266 : aFl wsX11_dealRow RX11 266 6 1 := ⟨RX6, TX6, 20, rfl, in_X11_dealRow_6, by decide, (List.mem_of_getElem? (i := 5) rfl), rfl⟩
theorem fg_X11_dealRow_173 : aFl wsX11_dealRow RX11 173 6 2 := ⟨RX6, TX6, 20, rfl, in_X11_dealRow_6, by decide, (List.mem_of_getElem? (i := 6) rfl), rfl⟩
theorem fg_X11_dealRow_269 : aFl wsX11_dealRow RX11 269 7 4 := ⟨RX7, TX7, 11, rfl, in_X11_dealRow_7, by decide, (List.mem_of_getElem? (i := 7) rfl), rfl⟩
set_option maxRecDepth 100000 in
set_option maxHeartbeats 4000000 in
theorem w_X11_dealRow_14_b {x : aC} {r : Int × Hp} {k14 : Int × Hp → Option (Int × Hp)} (X : aX x cX11_dealRow wsX11_dealRow RX11 4 rm_X11_dealRow) (E : aE x shC (some .int) 0 r) (hk14 : ∀ (x2 : Int) (σ : Hp), k14 (x2, σ) = some r → aS x shC 4 14 [(0, vR 0), (1, vR 112), (2, vI x2)] [] σ) (x2 : Int) (σ : Hp) (h : F_RD_dealRow_14_b k14 x2 σ = some r) : aS x shC 4 14 [(0, vR 0), (1, vR 112), (2, vI x2)] [] σ := by
  unfold F_RD_dealRow_14_b at h
  refine A_iload_n X 2 rfl rfl dX11_dealRow_14 ?_
  refine A_aload_n X 1 rfl rfl dX11_dealRow_15 ?_
  refine A_getI X fg_X11_dealRow_219 shC_112 (k := 6) rfl (by decide) dX11_dealRow_16 ?_
  refine A_icmp_ge X (tgt := 74) (by decide) dX11_dealRow_19 (fun c1 => ?_) (fun c1 => ?_)
  · replace h := ifT h c1
    refine A_aload_n X 0 rfl rfl dX11_dealRow_74 ?_
    refine A_getA X fg_X11_dealRow_78 shC_0 (k := 9) rfl (by decide) dX11_dealRow_75 ?_
    refine A_getI X fg_X11_dealRow_159 shC_173 (k := 2) rfl (by decide) dX11_dealRow_78 ?_
    exact A_ireturn X E h dX11_dealRow_81
  · replace h := ifF h c1
    refine A_aload_n X 1 rfl rfl dX11_dealRow_22 ?_
    refine A_getR X fg_X11_dealRow_222 shC_112 (k := 5) rfl (by decide) dX11_dealRow_23 ?_
    refine A_iload_n X 2 rfl rfl dX11_dealRow_26 ?_
    obtain ⟨g2, h⟩ := gdD h
    refine A_iald X g2 shC_141 dX11_dealRow_27 ?_
    refine A_istore_nN X (L' := fun y3_3 => [(3, vI y3_3), (0, vR 0), (1, vR 112), (2, vI x2)]) rfl (by decide) (fun _ => rfl) dX11_dealRow_28 (fun y3_3 hy => ?_)
    replace h := ltD h y3_3 hy
    clear hy
    refine A_aload_n X 1 rfl rfl dX11_dealRow_29 ?_
    refine A_getA X fg_X11_dealRow_78 shC_0 (k := 9) rfl (by decide) dX11_dealRow_30 ?_
    refine A_aload_n X 1 rfl rfl dX11_dealRow_33 ?_
    refine A_getV X fg_X11_dealRow_37 shC_0 (k := 3) rfl (by decide) dX11_dealRow_34 ?_
    obtain ⟨q4, hy⟩ : ∃ y, y = (σ 0 3).toNat := ⟨_, rfl⟩
    replace h := ltD h q4 hy
    rw [← hy]
    clear hy
    obtain ⟨g5, h⟩ := gdD h
    refine A_iload_n X 0 rfl rfl dX11_dealRow_37 ?_
    refine A_aload_n X 1 rfl rfl dX11_dealRow_38 ?_
    refine A_getV X fg_X11_dealRow_37 shC_0 (k := 3) rfl (by decide) dX11_dealRow_39 ?_
    obtain ⟨q6, hy⟩ : ∃ y, y = (σ 0 3).toNat := ⟨_, rfl⟩
    replace h := ltD h q6 hy
    rw [← hy]
    clear hy
    obtain ⟨g7, h⟩ := gdD h
    refine A_getR X fg_X11_dealRow_266 (shNet g7) (k := 1) rfl (by decide) dX11_dealRow_42 ?_
    refine A_aload_n X 1 rfl rfl dX11_dealRow_45 ?_
    refine A_getV X fg_X11_dealRow_37 shC_0 (k := 3) rfl (by decide) dX11_dealRow_46 ?_
    obtain ⟨q8, hy⟩ : ∃ y, y = (σ 0 3).toNat := ⟨_, rfl⟩
    replace h := ltD h q8 hy
    rw [← hy]
    clear hy
    obtain ⟨g9, h⟩ := gdD h
    refine A_getR X fg_X11_dealRow_173 (shNet g9) (k := 2) rfl (by decide) dX11_dealRow_49 ?_
    refine A_iload_n X 0 rfl rfl dX11_dealRow_52 ?_
    obtain ⟨g10, h⟩ := gdD h
    refine A_iald X g10 (shNet_first g9) dX11_dealRow_53 ?_
    obtain ⟨g11, h⟩ := gdD h
    refine A_iald X g11 (shNet_alone g7) dX11_dealRow_54 ?_
    refine A_aload_n X 2 rfl rfl dX11_dealRow_55 ?_
    refine A_getR X fg_X11_dealRow_269 shC_112 (k := 4) rfl (by decide) dX11_dealRow_56 ?_
    refine A_iload_n X 0 rfl rfl dX11_dealRow_59 ?_
    obtain ⟨g12, h⟩ := gdD h
    refine A_iald X g12 shC_140 dX11_dealRow_60 ?_
    refine A_iconst X dX11_dealRow_61 (z := 2) (by decide) ?_
    refine A_idiv X (by decide) dX11_dealRow_62 ?_
    refine A_iadd X dX11_dealRow_63 ?_
    obtain ⟨v13, s14, e15, h⟩ := clD h
    refine A_callV_I (na := 3) X (m_X3_tell e15) gX11_dealRow_X3_tell rfl ⟨rfl, rfl⟩ (by decide +kernel) rfl ⟨Nat.le_of_ble_eq_true rfl, Nat.le_of_ble_eq_true rfl⟩ shC_173 (by decide) rfl rfl (Nat.le_of_ble_eq_true rfl) dX11_dealRow_64 ?_
    refine A_pop X (by show ¬ (0 : Nat) = 1; decide) dX11_dealRow_67 ?_
    refine A_iinc X (L' := fun y2_16 => [(2, vI y2_16), (3, vI y3_3), (0, vR 0), (1, vR 112)]) 3 rfl (by decide) (fun _ => rfl) dX11_dealRow_68 (by decide) (fun y2_16 hy => ?_)
    replace h := ltD h y2_16 hy
    clear hy
    refine A_goto X (tgt := 14) (by decide) dX11_dealRow_71 ?_
    refine A_sub [2, 3, 0] rfl (L' := [(0, vR 0), (1, vR 112), (2, vI y2_16)]) rfl ?_
    exact hk14 y2_16 s14 h
set_option maxRecDepth 100000 in
set_option maxHeartbeats 4000000 in
theorem w_X11_dealRow_14 {x : aC} {r : Int × Hp} (X : aX x cX11_dealRow wsX11_dealRow RX11 4 rm_X11_dealRow) (E : aE x shC (some .int) 0 r) : ∀ (n : Nat) (x2 : Int) (σ : Hp) (h : F_RD_dealRow_14 n (x2, σ) = some r), aS x shC 4 14 [(0, vR 0), (1, vR 112), (2, vI x2)] [] σ := by
  intro n
  induction n with
  | zero => intro x2 σ h; cases h
  | succ n ih => intro x2 σ h; exact w_X11_dealRow_14_b (k14 := F_RD_dealRow_14 n) X E ih x2 σ h
set_option maxRecDepth 100000 in
set_option maxHeartbeats 4000000 in
theorem m_X11_dealRow {l : Launch} {g : aG} {σ : Hp} {r : Int × Hp} (h : F_RD_dealRow σ = some r) : aMet l g shC yX11_dealRow wsX11_dealRow rm_X11_dealRow [vR 0] σ 0 r := by
  unfold F_RD_dealRow at h
  refine aMet_of (bytes := cX11_dealRow) (maxL := 4) (ret := (some .int)) (by decide +kernel) rfl (Nat.le_of_ble_eq_true rfl) ⟨rfl, rfl⟩ (fun x e1 e2 X E => ?_)
  subst e1; subst e2
  have X : aX x cX11_dealRow wsX11_dealRow RX11 4 rm_X11_dealRow := X
  show aS x shC 4 0 [(0, vR 0)] [] σ
  refine A_aload_n X 0 rfl rfl dX11_dealRow_0 ?_
  obtain ⟨v17, s18, e19, h⟩ := clD h
  refine A_callV_R (na := 0) X (m_X11_planNow e19) gX11_dealRow_X11_planNow rfl ⟨rfl, rfl⟩ (by decide +kernel) rfl ⟨Nat.le_of_ble_eq_true rfl, Nat.le_of_ble_eq_true rfl⟩ shC_0 (by decide) rfl rfl (Nat.le_of_ble_eq_true rfl) dX11_dealRow_1 ?_
  obtain ⟨g20, h⟩ := gdD h
  rw [g20]
  refine A_astore_n X (L' := [(1, vR 112), (0, vR 0)]) rfl (by decide) rfl dX11_dealRow_4 ?_
  refine A_aload_n X 1 rfl rfl dX11_dealRow_5 ?_
  refine A_getA X fg_X11_dealRow_78 shC_0 (k := 9) rfl (by decide) dX11_dealRow_6 ?_
  obtain ⟨v21, s22, e23, h⟩ := clD h
  refine A_callV_V (na := 0) X (m_X3_clear e23) gX11_dealRow_X3_clear rfl ⟨rfl, rfl⟩ (by decide +kernel) rfl ⟨Nat.le_of_ble_eq_true rfl, Nat.le_of_ble_eq_true rfl⟩ shC_173 (by decide) rfl rfl (Nat.le_of_ble_eq_true rfl) dX11_dealRow_9 ?_
  refine A_iconst X dX11_dealRow_12 (z := 0) (by decide) ?_
  refine A_istore_n X (L' := [(2, vI 0), (1, vR 112), (0, vR 0)]) rfl (by decide) rfl dX11_dealRow_13 ?_
  refine A_sub [2, 1, 0] rfl (L' := [(0, vR 0), (1, vR 112), (2, vI 0)]) rfl ?_
  exact w_X11_dealRow_14 X E FU 0 s22 h
abbrev rm_X11_end : Room := { frames := 1, cells := 0, slots := 0, locals := 21 }
theorem in_X11_end_11 : ∀ w ∈ u_ws RX11 TX11 17, w ∈ wsX11_end := fun w h => List.mem_cons_of_mem _ (List.mem_append_left _ (List.mem_append_right _ h))
theorem fg_X11_end_14 : aFl wsX11_end RX11 14 11 0 := ⟨RX11, TX11, 17, rfl, in_X11_end_11, by decide, (List.mem_of_getElem? (i := 1) rfl), rfl⟩
set_option maxRecDepth 100000 in
set_option maxHeartbeats 4000000 in
theorem m_X11_end {l : Launch} {g : aG} {a1 : Int} {σ : Hp} {r : Int × Hp} (h : F_RD_end a1 σ = some r) : aMet l g shC yX11_end wsX11_end rm_X11_end [vR 0, vI a1] σ 0 r := by
  unfold F_RD_end at h
  refine aMet_of (bytes := cX11_end) (maxL := 2) (ret := (some .boolean)) (by decide +kernel) rfl (Nat.le_of_ble_eq_true rfl) ⟨rfl, rfl⟩ (fun x e1 e2 X E => ?_)
  subst e1; subst e2
  have X : aX x cX11_end wsX11_end RX11 2 rm_X11_end := X
  show aS x shC 2 0 [(0, vR 0), (1, vI a1)] [] σ
  refine A_aload_n X 0 rfl rfl dX11_end_0 ?_
  refine A_getA X fg_X11_end_14 shC_0 (k := 0) rfl (by decide) dX11_end_1 ?_
  refine A_iload_n X 1 rfl rfl dX11_end_4 ?_
  obtain ⟨v1, s2, e3, h⟩ := clD h
  refine A_callV_I (na := 1) X (m_X2_cut e3) gX11_end_X2_cut rfl ⟨rfl, rfl⟩ (by decide +kernel) rfl ⟨Nat.le_of_ble_eq_true rfl, Nat.le_of_ble_eq_true rfl⟩ shC_1 (by decide) rfl rfl (Nat.le_of_ble_eq_true rfl) dX11_end_5 ?_
  obtain ⟨g4, h⟩ := gdD h
  exact A_zreturn X g4 E h dX11_end_8
abbrev rm_X11_end_ : Room := { frames := 6, cells := 0, slots := 0, locals := 140 }
set_option maxRecDepth 100000 in
set_option maxHeartbeats 4000000 in
theorem w_X11_end__30 {x : aC} {r : Int × Hp} {a1 : Int} {a2 : Int} (X : aX x cX11_end_ wsX11_end_ RX11 4 rm_X11_end_) (E : aE x shC (some .int) 0 r) (t1 : Int) (σ : Hp) (h : F_RD_end__30 a1 a2 t1 σ = some r) : aS x shC 4 30 [] [vI t1] σ := by
  unfold F_RD_end__30 at h
  exact A_ireturn X E h dX11_end__30
set_option maxRecDepth 100000 in
set_option maxHeartbeats 4000000 in
theorem w_X11_end__29 {x : aC} {r : Int × Hp} {a1 : Int} {a2 : Int} (X : aX x cX11_end_ wsX11_end_ RX11 4 rm_X11_end_) (E : aE x shC (some .int) 0 r) (σ : Hp) (h : F_RD_end__29 a1 a2 σ = some r) : aS x shC 4 29 [] [] σ := by
  unfold F_RD_end__29 at h
  refine A_iconst X dX11_end__29 (z := (-1)) (by decide) ?_
  exact w_X11_end__30 (a1 := a1) (a2 := a2) X E (-1) σ h
set_option maxRecDepth 100000 in
set_option maxHeartbeats 4000000 in
theorem m_X11_end_ {l : Launch} {g : aG} {a1 : Int} {a2 : Int} {σ : Hp} {r : Int × Hp} (h : F_RD_end_ a1 a2 σ = some r) : aMet l g shC yX11_end_ wsX11_end_ rm_X11_end_ [vR 0, vI a1, vI a2] σ 0 r := by
  unfold F_RD_end_ at h
  refine aMet_of (bytes := cX11_end_) (maxL := 4) (ret := (some .int)) (by decide +kernel) rfl (Nat.le_of_ble_eq_true rfl) ⟨rfl, rfl⟩ (fun x e1 e2 X E => ?_)
  subst e1; subst e2
  have X : aX x cX11_end_ wsX11_end_ RX11 4 rm_X11_end_ := X
  show aS x shC 4 0 [(0, vR 0), (1, vI a1), (2, vI a2)] [] σ
  refine A_aload_n X 0 rfl rfl dX11_end__0 ?_
  obtain ⟨v1, s2, e3, h⟩ := clD h
  refine A_callV_R (na := 0) X (m_X11_planNow e3) gX11_end__X11_planNow rfl ⟨rfl, rfl⟩ (by decide +kernel) rfl ⟨Nat.le_of_ble_eq_true rfl, Nat.le_of_ble_eq_true rfl⟩ shC_0 (by decide) rfl rfl (Nat.le_of_ble_eq_true rfl) dX11_end__1 ?_
  obtain ⟨g4, h⟩ := gdD h
  rw [g4]
  refine A_astore_n X (L' := [(3, vR 112), (0, vR 0), (1, vI a1), (2, vI a2)]) rfl (by decide) rfl dX11_end__4 ?_
  refine A_aload_n X 1 rfl rfl dX11_end__5 ?_
  refine A_iload_n X 2 rfl rfl dX11_end__6 ?_
  obtain ⟨v5, s6, e7, h⟩ := clD h
  refine A_callV_I (na := 1) X (m_X11_isSomebody e7) gX11_end__X11_isSomebody rfl ⟨rfl, rfl⟩ (by decide +kernel) rfl ⟨Nat.le_of_ble_eq_true rfl, Nat.le_of_ble_eq_true rfl⟩ shC_0 (by decide) rfl rfl (Nat.le_of_ble_eq_true rfl) dX11_end__7 ?_
  refine A_if_eq X (tgt := 29) (by decide) dX11_end__10 (fun c8 => ?_) (fun c8 => ?_)
  · replace h := ifT h c8
    refine A_sub [] rfl (L' := []) rfl ?_
    exact w_X11_end__29 (a1 := a1) (a2 := a2) X E s6 h
  · replace h := ifF h c8
    refine A_aload_n X 0 rfl rfl dX11_end__13 ?_
    obtain ⟨v9, s10, e11, h⟩ := clD h
    refine A_callV_I (na := 0) X (m_X7_hasEnds e11) gX11_end__X7_hasEnds rfl ⟨rfl, rfl⟩ (by decide +kernel) rfl ⟨Nat.le_of_ble_eq_true rfl, Nat.le_of_ble_eq_true rfl⟩ shC_112 (by decide) rfl rfl (Nat.le_of_ble_eq_true rfl) dX11_end__14 ?_
    refine A_if_eq X (tgt := 29) (by decide) dX11_end__17 (fun c12 => ?_) (fun c12 => ?_)
    · replace h := ifT h c12
      refine A_sub [] rfl (L' := []) rfl ?_
      exact w_X11_end__29 (a1 := a1) (a2 := a2) X E s10 h
    · replace h := ifF h c12
      refine A_aload_n X 0 rfl rfl dX11_end__20 ?_
      refine A_iload_n X 2 rfl rfl dX11_end__21 ?_
      refine A_iload_n X 3 rfl rfl dX11_end__22 ?_
      obtain ⟨v13, s14, e15, h⟩ := clD h
      refine A_callV_I (na := 2) X (m_X7_endOf e15) gX11_end__X7_endOf rfl ⟨rfl, rfl⟩ (by decide +kernel) rfl ⟨Nat.le_of_ble_eq_true rfl, Nat.le_of_ble_eq_true rfl⟩ shC_112 (by decide) rfl rfl (Nat.le_of_ble_eq_true rfl) dX11_end__23 ?_
      refine A_goto X (tgt := 30) (by decide) dX11_end__26 ?_
      refine A_sub [] rfl (L' := []) rfl ?_
      exact w_X11_end__30 (a1 := a1) (a2 := a2) X E v13 s14 h
abbrev rm_X11_ended : Room := { frames := 0, cells := 0, slots := 0, locals := 0 }
theorem in_X11_ended_11 : ∀ w ∈ u_ws RX11 TX11 17, w ∈ wsX11_ended := fun w h => List.mem_cons_of_mem _ (List.mem_append_right _ h)
theorem fg_X11_ended_96 : aFl wsX11_ended RX11 96 11 15 := ⟨RX11, TX11, 17, rfl, in_X11_ended_11, by decide, (List.mem_of_getElem? (i := 1) rfl), rfl⟩
set_option maxRecDepth 100000 in
set_option maxHeartbeats 4000000 in
theorem m_X11_ended {l : Launch} {g : aG} {σ : Hp} {r : Int × Hp} (h : F_RD_ended σ = some r) : aMet l g shC yX11_ended wsX11_ended rm_X11_ended [vR 0] σ 0 r := by
  unfold F_RD_ended at h
  refine aMet_of (bytes := cX11_ended) (maxL := 1) (ret := (some .int)) (by decide +kernel) rfl (Nat.le_of_ble_eq_true rfl) ⟨rfl, rfl⟩ (fun x e1 e2 X E => ?_)
  subst e1; subst e2
  have X : aX x cX11_ended wsX11_ended RX11 1 rm_X11_ended := X
  show aS x shC 1 0 [(0, vR 0)] [] σ
  refine A_aload_n X 0 rfl rfl dX11_ended_0 ?_
  refine A_getI X fg_X11_ended_96 shC_0 (k := 15) rfl (by decide) dX11_ended_1 ?_
  exact A_ireturn X E h dX11_ended_4
abbrev rm_X11_fault : Room := { frames := 0, cells := 0, slots := 0, locals := 0 }
theorem in_X11_fault_11 : ∀ w ∈ u_ws RX11 TX11 17, w ∈ wsX11_fault := fun w h => List.mem_cons_of_mem _ (List.mem_append_right _ h)
theorem fg_X11_fault_124 : aFl wsX11_fault RX11 124 11 13 := ⟨RX11, TX11, 17, rfl, in_X11_fault_11, by decide, (List.mem_of_getElem? (i := 1) rfl), rfl⟩
theorem fg_X11_fault_93 : aFl wsX11_fault RX11 93 11 14 := ⟨RX11, TX11, 17, rfl, in_X11_fault_11, by decide, (List.mem_of_getElem? (i := 2) rfl), rfl⟩
set_option maxRecDepth 100000 in
set_option maxHeartbeats 4000000 in
theorem m_X11_fault {l : Launch} {g : aG} {a1 : Int} {σ : Hp} {r : Int × Hp} (h : F_RD_fault a1 σ = some r) : aMet l g shC yX11_fault wsX11_fault rm_X11_fault [vR 0, vI a1] σ 0 r := by
  unfold F_RD_fault at h
  refine aMet_of (bytes := cX11_fault) (maxL := 2) (ret := (some .int)) (by decide +kernel) rfl (Nat.le_of_ble_eq_true rfl) ⟨rfl, rfl⟩ (fun x e1 e2 X E => ?_)
  subst e1; subst e2
  have X : aX x cX11_fault wsX11_fault RX11 2 rm_X11_fault := X
  show aS x shC 2 0 [(0, vR 0), (1, vI a1)] [] σ
  refine A_iload_n X 1 rfl rfl dX11_fault_0 ?_
  by_cases c1 : a1 = 0
  · replace h := ifT h c1
    refine A_lsw X (off := 27) (tgt := 28) (by decide) (by rw [c1]; rfl) (by decide) dX11_fault_1 ?_
    refine A_aload_n X 0 rfl rfl dX11_fault_28 ?_
    refine A_getI X fg_X11_fault_124 shC_0 (k := 13) rfl (by decide) dX11_fault_29 ?_
    exact A_ireturn X E h dX11_fault_32
  replace h := ifF h c1
  by_cases c2 : a1 = 1
  · replace h := ifT h c2
    refine A_lsw X (off := 32) (tgt := 33) (by decide) (by rw [c2]; rfl) (by decide) dX11_fault_1 ?_
    refine A_aload_n X 0 rfl rfl dX11_fault_33 ?_
    refine A_getI X fg_X11_fault_93 shC_0 (k := 14) rfl (by decide) dX11_fault_34 ?_
    exact A_ireturn X E h dX11_fault_37
  replace h := ifF h c2
  refine A_lsw X (off := 37) (tgt := 38) (by decide) (lsw_out (by simp; omega)) (by decide) dX11_fault_1 ?_
  refine A_iconst X dX11_fault_38 (z := (-1)) (by decide) ?_
  exact A_ireturn X E h dX11_fault_39
abbrev rm_X11_feed : Room := { frames := 3, cells := 0, slots := 0, locals := 63 }
theorem in_X11_feed_11 : ∀ w ∈ u_ws RX11 TX11 17, w ∈ wsX11_feed := fun w h => List.mem_cons_of_mem _ (List.mem_append_left _ (List.mem_append_right _ h))
theorem fg_X11_feed_14 : aFl wsX11_feed RX11 14 11 0 := ⟨RX11, TX11, 17, rfl, in_X11_feed_11, by decide, (List.mem_of_getElem? (i := 1) rfl), rfl⟩
set_option maxRecDepth 100000 in
set_option maxHeartbeats 4000000 in
theorem m_X11_feed {l : Launch} {g : aG} {a1 : Int} {a2 : Int} {a3 : Int} {a4 : Int} {a5 : Int} {σ : Hp} {r : Int × Hp} (h : F_RD_feed a1 a2 a3 a4 a5 σ = some r) : aMet l g shC yX11_feed wsX11_feed rm_X11_feed [vR 0, vI a1, vI a2, vI a3, vI a4, vI a5] σ 0 r := by
  unfold F_RD_feed at h
  refine aMet_of (bytes := cX11_feed) (maxL := 6) (ret := (some .int)) (by decide +kernel) rfl (Nat.le_of_ble_eq_true rfl) ⟨rfl, rfl⟩ (fun x e1 e2 X E => ?_)
  subst e1; subst e2
  have X : aX x cX11_feed wsX11_feed RX11 6 rm_X11_feed := X
  show aS x shC 6 0 [(0, vR 0), (1, vI a1), (2, vI a2), (3, vI a3), (4, vI a4), (5, vI a5)] [] σ
  refine A_aload_n X 0 rfl rfl dX11_feed_0 ?_
  refine A_getA X fg_X11_feed_14 shC_0 (k := 0) rfl (by decide) dX11_feed_1 ?_
  refine A_bipush X dX11_feed_4 (z := 20) (by decide) ?_
  obtain ⟨v1, s2, e3, h⟩ := clD h
  refine A_callV_I (na := 1) X (m_X2_hasRoom e3) gX11_feed_X2_hasRoom rfl ⟨rfl, rfl⟩ (by decide +kernel) rfl ⟨Nat.le_of_ble_eq_true rfl, Nat.le_of_ble_eq_true rfl⟩ shC_1 (by decide) rfl rfl (Nat.le_of_ble_eq_true rfl) dX11_feed_6 ?_
  refine A_if_ne X (tgt := 14) (by decide) dX11_feed_9 (fun c4 => ?_) (fun c4 => ?_)
  · replace h := ifF h c4
    refine A_aload_n X 0 rfl rfl dX11_feed_14 ?_
    refine A_getA X fg_X11_feed_14 shC_0 (k := 0) rfl (by decide) dX11_feed_15 ?_
    refine A_iload_n X 1 rfl rfl dX11_feed_18 ?_
    obtain ⟨v5, s6, e7, h⟩ := clD h
    refine A_callV_V (na := 1) X (m_X2_putNumber e7) gX11_feed_X2_putNumber rfl ⟨rfl, rfl⟩ (by decide +kernel) rfl ⟨Nat.le_of_ble_eq_true rfl, Nat.le_of_ble_eq_true rfl⟩ shC_1 (by decide) rfl rfl (Nat.le_of_ble_eq_true rfl) dX11_feed_19 ?_
    refine A_aload_n X 0 rfl rfl dX11_feed_22 ?_
    refine A_getA X fg_X11_feed_14 shC_0 (k := 0) rfl (by decide) dX11_feed_23 ?_
    refine A_iload_n X 2 rfl rfl dX11_feed_26 ?_
    obtain ⟨v8, s9, e10, h⟩ := clD h
    refine A_callV_V (na := 1) X (m_X2_putNumber e10) gX11_feed_X2_putNumber rfl ⟨rfl, rfl⟩ (by decide +kernel) rfl ⟨Nat.le_of_ble_eq_true rfl, Nat.le_of_ble_eq_true rfl⟩ shC_1 (by decide) rfl rfl (Nat.le_of_ble_eq_true rfl) dX11_feed_27 ?_
    refine A_aload_n X 0 rfl rfl dX11_feed_30 ?_
    refine A_getA X fg_X11_feed_14 shC_0 (k := 0) rfl (by decide) dX11_feed_31 ?_
    refine A_iload_n X 3 rfl rfl dX11_feed_34 ?_
    obtain ⟨v11, s12, e13, h⟩ := clD h
    refine A_callV_V (na := 1) X (m_X2_putNumber e13) gX11_feed_X2_putNumber rfl ⟨rfl, rfl⟩ (by decide +kernel) rfl ⟨Nat.le_of_ble_eq_true rfl, Nat.le_of_ble_eq_true rfl⟩ shC_1 (by decide) rfl rfl (Nat.le_of_ble_eq_true rfl) dX11_feed_35 ?_
    refine A_aload_n X 0 rfl rfl dX11_feed_38 ?_
    refine A_getA X fg_X11_feed_14 shC_0 (k := 0) rfl (by decide) dX11_feed_39 ?_
    refine A_iload X 4 rfl dX11_feed_42 ?_
    obtain ⟨v14, s15, e16, h⟩ := clD h
    refine A_callV_V (na := 1) X (m_X2_putNumber e16) gX11_feed_X2_putNumber rfl ⟨rfl, rfl⟩ (by decide +kernel) rfl ⟨Nat.le_of_ble_eq_true rfl, Nat.le_of_ble_eq_true rfl⟩ shC_1 (by decide) rfl rfl (Nat.le_of_ble_eq_true rfl) dX11_feed_44 ?_
    refine A_aload_n X 0 rfl rfl dX11_feed_47 ?_
    refine A_getA X fg_X11_feed_14 shC_0 (k := 0) rfl (by decide) dX11_feed_48 ?_
    refine A_iload X 5 rfl dX11_feed_51 ?_
    obtain ⟨v17, s18, e19, h⟩ := clD h
    refine A_callV_V (na := 1) X (m_X2_putNumber e19) gX11_feed_X2_putNumber rfl ⟨rfl, rfl⟩ (by decide +kernel) rfl ⟨Nat.le_of_ble_eq_true rfl, Nat.le_of_ble_eq_true rfl⟩ shC_1 (by decide) rfl rfl (Nat.le_of_ble_eq_true rfl) dX11_feed_53 ?_
    refine A_aload_n X 0 rfl rfl dX11_feed_56 ?_
    refine A_getA X fg_X11_feed_14 shC_0 (k := 0) rfl (by decide) dX11_feed_57 ?_
    obtain ⟨v20, s21, e22, h⟩ := clD h
    refine A_callV_I (na := 0) X (m_X2_size e22) gX11_feed_X2_size rfl ⟨rfl, rfl⟩ (by decide +kernel) rfl ⟨Nat.le_of_ble_eq_true rfl, Nat.le_of_ble_eq_true rfl⟩ shC_1 (by decide) rfl rfl (Nat.le_of_ble_eq_true rfl) dX11_feed_60 ?_
    exact A_ireturn X E h dX11_feed_63
  · replace h := ifT h c4
    refine A_iconst X dX11_feed_12 (z := (-1)) (by decide) ?_
    exact A_ireturn X E h dX11_feed_13
abbrev rm_X11_gift : Room := { frames := 5, cells := 0, slots := 0, locals := 119 }
theorem in_X11_gift_11 : ∀ w ∈ u_ws RX11 TX11 17, w ∈ wsX11_gift := fun w h => List.mem_cons_of_mem _ (List.mem_append_left _ (List.mem_append_left _ (List.mem_append_left _ (List.mem_append_left _ (List.mem_append_right _ h)))))
theorem fg_X11_gift_53 : aFl wsX11_gift RX11 53 11 5 := ⟨RX11, TX11, 17, rfl, in_X11_gift_11, by decide, (List.mem_of_getElem? (i := 1) rfl), rfl⟩
set_option maxRecDepth 100000 in
set_option maxHeartbeats 4000000 in
theorem m_X11_gift {l : Launch} {g : aG} {σ : Hp} {r : Int × Hp} (h : F_RD_gift σ = some r) : aMet l g shC yX11_gift wsX11_gift rm_X11_gift [vR 0] σ 0 r := by
  unfold F_RD_gift at h
  refine aMet_of (bytes := cX11_gift) (maxL := 1) (ret := (some .int)) (by decide +kernel) rfl (Nat.le_of_ble_eq_true rfl) ⟨rfl, rfl⟩ (fun x e1 e2 X E => ?_)
  subst e1; subst e2
  have X : aX x cX11_gift wsX11_gift RX11 1 rm_X11_gift := X
  show aS x shC 1 0 [(0, vR 0)] [] σ
  refine A_aload_n X 0 rfl rfl dX11_gift_0 ?_
  obtain ⟨v1, s2, e3, h⟩ := clD h
  refine A_callV_R (na := 0) X (m_X11_dealsNow e3) gX11_gift_X11_dealsNow rfl ⟨rfl, rfl⟩ (by decide +kernel) rfl ⟨Nat.le_of_ble_eq_true rfl, Nat.le_of_ble_eq_true rfl⟩ shC_0 (by decide) rfl rfl (Nat.le_of_ble_eq_true rfl) dX11_gift_1 ?_
  obtain ⟨g4, h⟩ := gdD h
  rw [g4]
  refine A_aload_n X 0 rfl rfl dX11_gift_4 ?_
  refine A_getA X fg_X11_gift_53 shC_0 (k := 5) rfl (by decide) dX11_gift_5 ?_
  obtain ⟨v5, s6, e7, h⟩ := clD h
  refine A_callV_I (na := 1) X (m_X3_twiceGift e7) gX11_gift_X3_twiceGift rfl ⟨rfl, rfl⟩ (by decide +kernel) rfl ⟨Nat.le_of_ble_eq_true rfl, Nat.le_of_ble_eq_true rfl⟩ shC_173 (by decide) rfl rfl (Nat.le_of_ble_eq_true rfl) dX11_gift_8 ?_
  exact A_ireturn X E h dX11_gift_11
abbrev rm_X11_haggle : Room := { frames := 5, cells := 0, slots := 0, locals := 115 }
theorem in_X11_haggle_11 : ∀ w ∈ u_ws RX11 TX11 17, w ∈ wsX11_haggle := fun w h => List.mem_cons_of_mem _ (List.mem_append_left _ (List.mem_append_left _ (List.mem_append_left _ (List.mem_append_right _ h))))
theorem fg_X11_haggle_78 : aFl wsX11_haggle RX11 78 11 9 := ⟨RX11, TX11, 17, rfl, in_X11_haggle_11, by decide, (List.mem_of_getElem? (i := 1) rfl), rfl⟩
theorem in_X11_haggle_3 : ∀ w ∈ u_ws RX3 TX3 11, w ∈ wsX11_haggle := fun w h => List.mem_cons_of_mem _ (List.mem_append_left _ (List.mem_append_left _ (List.mem_append_right _ h)))
theorem fg_X11_haggle_307 : aFl wsX11_haggle RX11 307 3 10 := ⟨RX3, TX3, 11, rfl, in_X11_haggle_3, by decide, (List.mem_of_getElem? (i := 2) rfl), rfl⟩
theorem fp_X11_haggle_96 : aFp wsX11_haggle RX11 96 11 15 .int := ⟨RX11, TX11, 17, tyX11, rfl, in_X11_haggle_11, by decide, (List.mem_of_getElem? (i := 3) rfl), rfl, tyX11_ok, nmX11, rfl, rfl⟩
theorem fg_X11_haggle_96 : aFl wsX11_haggle RX11 96 11 15 := ⟨RX11, TX11, 17, rfl, in_X11_haggle_11, by decide, (List.mem_of_getElem? (i := 3) rfl), rfl⟩
set_option maxRecDepth 100000 in
set_option maxHeartbeats 4000000 in
theorem w_X11_haggle_12 {x : aC} {r : Int × Hp} {a1 : Int} (X : aX x cX11_haggle wsX11_haggle RX11 3 rm_X11_haggle) (E : aE x shC (some .int) 0 r) (σ : Hp) (h : F_RD_haggle_12 a1 σ = some r) : aS x shC 3 12 [] [] σ := by
  unfold F_RD_haggle_12 at h
  refine A_iconst X dX11_haggle_12 (z := (-1)) (by decide) ?_
  exact A_ireturn X E h dX11_haggle_13
set_option maxRecDepth 100000 in
set_option maxHeartbeats 4000000 in
theorem w_X11_haggle_50 {x : aC} {r : Int × Hp} {a1 : Int} (X : aX x cX11_haggle wsX11_haggle RX11 3 rm_X11_haggle) (E : aE x shC (some .int) 0 r) (t1 : Int) (σ : Hp) (h : F_RD_haggle_50 a1 t1 σ = some r) : aS x shC 3 50 [] [vI t1] σ := by
  unfold F_RD_haggle_50 at h
  exact A_ireturn X E h dX11_haggle_50
set_option maxRecDepth 100000 in
set_option maxHeartbeats 4000000 in
theorem m_X11_haggle {l : Launch} {g : aG} {a1 : Int} {σ : Hp} {r : Int × Hp} (h : F_RD_haggle a1 σ = some r) : aMet l g shC yX11_haggle wsX11_haggle rm_X11_haggle [vR 0, vI a1] σ 0 r := by
  unfold F_RD_haggle at h
  refine aMet_of (bytes := cX11_haggle) (maxL := 3) (ret := (some .int)) (by decide +kernel) rfl (Nat.le_of_ble_eq_true rfl) ⟨rfl, rfl⟩ (fun x e1 e2 X E => ?_)
  subst e1; subst e2
  have X : aX x cX11_haggle wsX11_haggle RX11 3 rm_X11_haggle := X
  show aS x shC 3 0 [(0, vR 0), (1, vI a1)] [] σ
  refine A_iload_n X 1 rfl rfl dX11_haggle_0 ?_
  refine A_iconst X dX11_haggle_1 (z := 1) (by decide) ?_
  refine A_icmp_lt X (tgt := 12) (by decide) dX11_haggle_2 (fun c1 => ?_) (fun c1 => ?_)
  · replace h := ifT h c1
    refine A_sub [] rfl (L' := []) rfl ?_
    exact w_X11_haggle_12 (a1 := a1) X E σ h
  · replace h := ifF h c1
    refine A_iload_n X 1 rfl rfl dX11_haggle_5 ?_
    refine A_sipush X dX11_haggle_6 (z := 1000) (by decide) ?_
    refine A_icmp_le X (tgt := 14) (by decide) dX11_haggle_9 (fun c2 => ?_) (fun c2 => ?_)
    · replace h := ifT h c2
      refine A_aload_n X 0 rfl rfl dX11_haggle_14 ?_
      obtain ⟨v3, s4, e5, h⟩ := clD h
      refine A_callV_R (na := 0) X (m_X11_dealsNow e5) gX11_haggle_X11_dealsNow rfl ⟨rfl, rfl⟩ (by decide +kernel) rfl ⟨Nat.le_of_ble_eq_true rfl, Nat.le_of_ble_eq_true rfl⟩ shC_0 (by decide) rfl rfl (Nat.le_of_ble_eq_true rfl) dX11_haggle_15 ?_
      obtain ⟨g6, h⟩ := gdD h
      rw [g6]
      refine A_iload_n X 1 rfl rfl dX11_haggle_18 ?_
      obtain ⟨v7, s8, e9, h⟩ := clD h
      refine A_callV_I (na := 1) X (m_X3_turnRounds e9) gX11_haggle_X3_turnRounds rfl ⟨rfl, rfl⟩ (by decide +kernel) rfl ⟨Nat.le_of_ble_eq_true rfl, Nat.le_of_ble_eq_true rfl⟩ shC_173 (by decide) rfl rfl (Nat.le_of_ble_eq_true rfl) dX11_haggle_19 ?_
      refine A_istore_n X (L' := [(2, vI v7), (0, vR 0), (1, vI a1)]) rfl (by decide) rfl dX11_haggle_22 ?_
      refine A_aload_n X 1 rfl rfl dX11_haggle_23 ?_
      refine A_aload_n X 1 rfl rfl dX11_haggle_24 ?_
      refine A_getA X fg_X11_haggle_78 shC_0 (k := 9) rfl (by decide) dX11_haggle_25 ?_
      refine A_getI X fg_X11_haggle_307 shC_173 (k := 10) rfl (by decide) dX11_haggle_28 ?_
      refine A_putI X fp_X11_haggle_96 shC_0 (k := 15) rfl (by decide) dX11_haggle_31 (fun s10 hy => ?_)
      replace h := ltD h s10 hy
      clear hy
      refine A_aload_n X 1 rfl rfl dX11_haggle_34 ?_
      refine A_getI X fg_X11_haggle_96 shC_0 (k := 15) rfl (by decide) dX11_haggle_35 ?_
      refine A_iconst X dX11_haggle_38 (z := 2) (by decide) ?_
      refine A_icmp_ne X (tgt := 49) (by decide) dX11_haggle_39 (fun c11 => ?_) (fun c11 => ?_)
      · replace h := ifF h c11
        refine A_iload_n X 0 rfl rfl dX11_haggle_49 ?_
        refine A_sub [] rfl (L' := []) rfl ?_
        exact w_X11_haggle_50 (a1 := a1) X E v7 s10 h
      · replace h := ifT h c11
        refine A_bipush X dX11_haggle_42 (z := (-2)) (by decide) ?_
        refine A_iload_n X 0 rfl rfl dX11_haggle_44 ?_
        refine A_isub X dX11_haggle_45 ?_
        refine A_goto X (tgt := 50) (by decide) dX11_haggle_46 ?_
        refine A_sub [] rfl (L' := []) rfl ?_
        exact w_X11_haggle_50 (a1 := a1) X E (isub (-2) v7) s10 h
    · replace h := ifF h c2
      refine A_sub [] rfl (L' := []) rfl ?_
      exact w_X11_haggle_12 (a1 := a1) X E σ h
abbrev rm_X11_has : Room := { frames := 0, cells := 0, slots := 0, locals := 0 }
theorem in_X11_has_11 : ∀ w ∈ u_ws RX11 TX11 17, w ∈ wsX11_has := fun w h => List.mem_cons_of_mem _ (List.mem_append_left _ (List.mem_append_left _ (List.mem_append_left _ (List.mem_append_right _ h))))
theorem fg_X11_has_37 : aFl wsX11_has RX11 37 11 3 := ⟨RX11, TX11, 17, rfl, in_X11_has_11, by decide, (List.mem_of_getElem? (i := 1) rfl), rfl⟩
theorem in_X11_has_6 : ∀ w ∈ u_ws RX6 TX6 20, w ∈ wsX11_has := fun w h => List.mem_cons_of_mem _ (List.mem_append_left _ (List.mem_append_left _ (List.mem_append_right _ h)))
theorem fg_X11_has_144 : aFl wsX11_has RX11 144 6 15 := ⟨RX6, TX6, 20, rfl, in_X11_has_6, by decide, (List.mem_of_getElem? (i := 2) rfl), rfl⟩
theorem fg_X11_has_147 : aFl wsX11_has RX11 147 6 16 := ⟨RX6, TX6, 20, rfl, in_X11_has_6, by decide, (List.mem_of_getElem? (i := 3) rfl), rfl⟩
theorem fg_X11_has_150 : aFl wsX11_has RX11 150 6 17 := ⟨RX6, TX6, 20, rfl, in_X11_has_6, by decide, (List.mem_of_getElem? (i := 4) rfl), rfl⟩
theorem fg_X11_has_153 : aFl wsX11_has RX11 153 6 18 := ⟨RX6, TX6, 20, rfl, in_X11_has_6, by decide, (List.mem_of_getElem? (i := 5) rfl), rfl⟩
theorem fg_X11_has_30 : aFl wsX11_has RX11 30 11 2 := ⟨RX11, TX11, 17, rfl, in_X11_has_11, by decide, (List.mem_of_getElem? (i := 6) rfl), rfl⟩
theorem in_X11_has_0 : ∀ w ∈ u_ws RX0 TX0 4, w ∈ wsX11_has := fun w h => List.mem_cons_of_mem _ (List.mem_append_left _ (List.mem_append_right _ h))
theorem fg_X11_has_156 : aFl wsX11_has RX11 156 0 3 := ⟨RX0, TX0, 4, rfl, in_X11_has_0, by decide, (List.mem_of_getElem? (i := 7) rfl), rfl⟩
theorem fg_X11_has_89 : aFl wsX11_has RX11 89 11 12 := ⟨RX11, TX11, 17, rfl, in_X11_has_11, by decide, (List.mem_of_getElem? (i := 8) rfl), rfl⟩
theorem fg_X11_has_78 : aFl wsX11_has RX11 78 11 9 := ⟨RX11, TX11, 17, rfl, in_X11_has_11, by decide, (List.mem_of_getElem? (i := 9) rfl), rfl⟩
theorem in_X11_has_3 : ∀ w ∈ u_ws RX3 TX3 11, w ∈ wsX11_has := fun w h => List.mem_cons_of_mem _ (List.mem_append_right _ h)
theorem fg_X11_has_159 : aFl wsX11_has RX11 159 3 2 := ⟨RX3, TX3, 11, rfl, in_X11_has_3, by decide, (List.mem_of_getElem? (i := 10) rfl), rfl⟩
theorem fg_X11_has_160 : aFl wsX11_has RX11 160 11 11 := ⟨RX11, TX11, 17, rfl, in_X11_has_11, by decide, (List.mem_of_getElem? (i := 11) rfl), rfl⟩
set_option maxRecDepth 100000 in
set_option maxHeartbeats 4000000 in
theorem w_X11_has_110 {x : aC} {r : Int × Hp} {a1 : Int} (X : aX x cX11_has wsX11_has RX11 2 rm_X11_has) (E : aE x shC (some .int) 0 r) (t1 : Int) (σ : Hp) (h : F_RD_has_110 a1 t1 σ = some r) : aS x shC 2 110 [] [vI t1] σ := by
  unfold F_RD_has_110 at h
  exact A_ireturn X E h dX11_has_110
set_option maxRecDepth 100000 in
set_option maxHeartbeats 4000000 in
theorem m_X11_has {l : Launch} {g : aG} {a1 : Int} {σ : Hp} {r : Int × Hp} (h : F_RD_has a1 σ = some r) : aMet l g shC yX11_has wsX11_has rm_X11_has [vR 0, vI a1] σ 0 r := by
  unfold F_RD_has at h
  refine aMet_of (bytes := cX11_has) (maxL := 2) (ret := (some .int)) (by decide +kernel) rfl (Nat.le_of_ble_eq_true rfl) ⟨rfl, rfl⟩ (fun x e1 e2 X E => ?_)
  subst e1; subst e2
  have X : aX x cX11_has wsX11_has RX11 2 rm_X11_has := X
  show aS x shC 2 0 [(0, vR 0), (1, vI a1)] [] σ
  refine A_iload_n X 1 rfl rfl dX11_has_0 ?_
  by_cases c1 : a1 = 0
  · replace h := ifT h c1
    refine A_tIn X (j := 0) (tgt := 48) c1 (by decide) (by decide) rfl (by decide) dX11_has_1 ?_
    refine A_aload_n X 0 rfl rfl dX11_has_48 ?_
    refine A_getV X fg_X11_has_37 shC_0 (k := 3) rfl (by decide) dX11_has_49 ?_
    obtain ⟨q2, hy⟩ : ∃ y, y = (σ 0 3).toNat := ⟨_, rfl⟩
    replace h := ltD h q2 hy
    rw [← hy]
    clear hy
    obtain ⟨g3, h⟩ := gdD h
    refine A_getI X fg_X11_has_144 (shNet g3) (k := 15) rfl (by decide) dX11_has_52 ?_
    exact A_ireturn X E h dX11_has_55
  replace h := ifF h c1
  by_cases c4 : a1 = 1
  · replace h := ifT h c4
    refine A_tIn X (j := 1) (tgt := 56) c4 (by decide) (by decide) rfl (by decide) dX11_has_1 ?_
    refine A_aload_n X 0 rfl rfl dX11_has_56 ?_
    refine A_getV X fg_X11_has_37 shC_0 (k := 3) rfl (by decide) dX11_has_57 ?_
    obtain ⟨q5, hy⟩ : ∃ y, y = (σ 0 3).toNat := ⟨_, rfl⟩
    replace h := ltD h q5 hy
    rw [← hy]
    clear hy
    obtain ⟨g6, h⟩ := gdD h
    refine A_getI X fg_X11_has_147 (shNet g6) (k := 16) rfl (by decide) dX11_has_60 ?_
    exact A_ireturn X E h dX11_has_63
  replace h := ifF h c4
  by_cases c7 : a1 = 2
  · replace h := ifT h c7
    refine A_tIn X (j := 2) (tgt := 64) c7 (by decide) (by decide) rfl (by decide) dX11_has_1 ?_
    refine A_aload_n X 0 rfl rfl dX11_has_64 ?_
    refine A_getV X fg_X11_has_37 shC_0 (k := 3) rfl (by decide) dX11_has_65 ?_
    obtain ⟨q8, hy⟩ : ∃ y, y = (σ 0 3).toNat := ⟨_, rfl⟩
    replace h := ltD h q8 hy
    rw [← hy]
    clear hy
    obtain ⟨g9, h⟩ := gdD h
    refine A_getI X fg_X11_has_150 (shNet g9) (k := 17) rfl (by decide) dX11_has_68 ?_
    exact A_ireturn X E h dX11_has_71
  replace h := ifF h c7
  by_cases c10 : a1 = 3
  · replace h := ifT h c10
    refine A_tIn X (j := 3) (tgt := 72) c10 (by decide) (by decide) rfl (by decide) dX11_has_1 ?_
    refine A_aload_n X 0 rfl rfl dX11_has_72 ?_
    refine A_getV X fg_X11_has_37 shC_0 (k := 3) rfl (by decide) dX11_has_73 ?_
    obtain ⟨q11, hy⟩ : ∃ y, y = (σ 0 3).toNat := ⟨_, rfl⟩
    replace h := ltD h q11 hy
    rw [← hy]
    clear hy
    obtain ⟨g12, h⟩ := gdD h
    refine A_getI X fg_X11_has_153 (shNet g12) (k := 18) rfl (by decide) dX11_has_76 ?_
    exact A_ireturn X E h dX11_has_79
  replace h := ifF h c10
  by_cases c13 : a1 = 4
  · replace h := ifT h c13
    refine A_tIn X (j := 4) (tgt := 80) c13 (by decide) (by decide) rfl (by decide) dX11_has_1 ?_
    refine A_aload_n X 0 rfl rfl dX11_has_80 ?_
    refine A_getA X fg_X11_has_30 shC_0 (k := 2) rfl (by decide) dX11_has_81 ?_
    refine A_getI X fg_X11_has_156 shC_46 (k := 3) rfl (by decide) dX11_has_84 ?_
    exact A_ireturn X E h dX11_has_87
  replace h := ifF h c13
  by_cases c14 : a1 = 5
  · replace h := ifT h c14
    refine A_tIn X (j := 5) (tgt := 88) c14 (by decide) (by decide) rfl (by decide) dX11_has_1 ?_
    refine A_aload_n X 0 rfl rfl dX11_has_88 ?_
    refine A_getI X fg_X11_has_89 shC_0 (k := 12) rfl (by decide) dX11_has_89 ?_
    refine A_iconst X dX11_has_92 (z := (-1)) (by decide) ?_
    refine A_icmp_ne X (tgt := 106) (by decide) dX11_has_93 (fun c15 => ?_) (fun c15 => ?_)
    · replace h := ifF h c15
      refine A_aload_n X 0 rfl rfl dX11_has_106 ?_
      refine A_getI X fg_X11_has_89 shC_0 (k := 12) rfl (by decide) dX11_has_107 ?_
      refine A_sub [] rfl (L' := []) rfl ?_
      exact w_X11_has_110 (a1 := a1) X E (σ 0 12) σ h
    · replace h := ifT h c15
      refine A_aload_n X 0 rfl rfl dX11_has_96 ?_
      refine A_getA X fg_X11_has_30 shC_0 (k := 2) rfl (by decide) dX11_has_97 ?_
      refine A_getI X fg_X11_has_156 shC_46 (k := 3) rfl (by decide) dX11_has_100 ?_
      refine A_goto X (tgt := 110) (by decide) dX11_has_103 ?_
      refine A_sub [] rfl (L' := []) rfl ?_
      exact w_X11_has_110 (a1 := a1) X E (σ 46 3) σ h
  replace h := ifF h c14
  by_cases c16 : a1 = 6
  · replace h := ifT h c16
    refine A_tIn X (j := 6) (tgt := 111) c16 (by decide) (by decide) rfl (by decide) dX11_has_1 ?_
    refine A_aload_n X 0 rfl rfl dX11_has_111 ?_
    refine A_getA X fg_X11_has_78 shC_0 (k := 9) rfl (by decide) dX11_has_112 ?_
    refine A_getI X fg_X11_has_159 shC_173 (k := 2) rfl (by decide) dX11_has_115 ?_
    exact A_ireturn X E h dX11_has_118
  replace h := ifF h c16
  by_cases c17 : a1 = 7
  · replace h := ifT h c17
    refine A_tIn X (j := 7) (tgt := 119) c17 (by decide) (by decide) rfl (by decide) dX11_has_1 ?_
    refine A_aload_n X 0 rfl rfl dX11_has_119 ?_
    refine A_getI X fg_X11_has_160 shC_0 (k := 11) rfl (by decide) dX11_has_120 ?_
    exact A_ireturn X E h dX11_has_123
  replace h := ifF h c17
  refine A_tOut X (tgt := 124) (by omega) (by decide) dX11_has_1 ?_
  refine A_iconst X dX11_has_124 (z := (-1)) (by decide) ?_
  exact A_ireturn X E h dX11_has_125
abbrev rm_X11_image : Room := { frames := 4, cells := 0, slots := 0, locals := 87 }
theorem in_X11_image_11 : ∀ w ∈ u_ws RX11 TX11 17, w ∈ wsX11_image := fun w h => List.mem_cons_of_mem _ (List.mem_append_left _ (List.mem_append_left _ (List.mem_append_left _ (List.mem_append_left _ (List.mem_append_right _ h)))))
theorem fg_X11_image_85 : aFl wsX11_image RX11 85 11 10 := ⟨RX11, TX11, 17, rfl, in_X11_image_11, by decide, (List.mem_of_getElem? (i := 1) rfl), rfl⟩
theorem fg_X11_image_37 : aFl wsX11_image RX11 37 11 3 := ⟨RX11, TX11, 17, rfl, in_X11_image_11, by decide, (List.mem_of_getElem? (i := 2) rfl), rfl⟩
theorem fg_X11_image_160 : aFl wsX11_image RX11 160 11 11 := ⟨RX11, TX11, 17, rfl, in_X11_image_11, by decide, (List.mem_of_getElem? (i := 3) rfl), rfl⟩
theorem fg_X11_image_78 : aFl wsX11_image RX11 78 11 9 := ⟨RX11, TX11, 17, rfl, in_X11_image_11, by decide, (List.mem_of_getElem? (i := 4) rfl), rfl⟩
set_option maxRecDepth 100000 in
set_option maxHeartbeats 4000000 in
theorem m_X11_image {l : Launch} {g : aG} {σ : Hp} {r : Int × Hp} (h : F_RD_image σ = some r) : aMet l g shC yX11_image wsX11_image rm_X11_image [vR 0] σ 0 r := by
  unfold F_RD_image at h
  refine aMet_of (bytes := cX11_image) (maxL := 1) (ret := (some .int)) (by decide +kernel) rfl (Nat.le_of_ble_eq_true rfl) ⟨rfl, rfl⟩ (fun x e1 e2 X E => ?_)
  subst e1; subst e2
  have X : aX x cX11_image wsX11_image RX11 1 rm_X11_image := X
  show aS x shC 1 0 [(0, vR 0)] [] σ
  refine A_aload_n X 0 rfl rfl dX11_image_0 ?_
  refine A_getA X fg_X11_image_85 shC_0 (k := 10) rfl (by decide) dX11_image_1 ?_
  refine A_aload_n X 0 rfl rfl dX11_image_4 ?_
  refine A_getV X fg_X11_image_37 shC_0 (k := 3) rfl (by decide) dX11_image_5 ?_
  obtain ⟨q1, hy⟩ : ∃ y, y = (σ 0 3).toNat := ⟨_, rfl⟩
  replace h := ltD h q1 hy
  rw [← hy]
  clear hy
  obtain ⟨g2, h⟩ := gdD h
  refine A_aload_n X 0 rfl rfl dX11_image_8 ?_
  refine A_getI X fg_X11_image_160 shC_0 (k := 11) rfl (by decide) dX11_image_9 ?_
  refine A_aload_n X 0 rfl rfl dX11_image_12 ?_
  refine A_getA X fg_X11_image_78 shC_0 (k := 9) rfl (by decide) dX11_image_13 ?_
  obtain ⟨v3, s4, e5, h⟩ := clD h
  refine A_callV_I (na := 3) X (m_X4_write e5) gX11_image_X4_write rfl ⟨rfl, rfl⟩ (by decide +kernel) rfl ⟨Nat.le_of_ble_eq_true rfl, Nat.le_of_ble_eq_true rfl⟩ shC_180 (by decide) rfl rfl (Nat.le_of_ble_eq_true rfl) dX11_image_16 ?_
  exact A_ireturn X E h dX11_image_19
abbrev rm_X11_letter : Room := { frames := 1, cells := 0, slots := 0, locals := 23 }
theorem in_X11_letter_11 : ∀ w ∈ u_ws RX11 TX11 17, w ∈ wsX11_letter := fun w h => List.mem_cons_of_mem _ (List.mem_append_left _ (List.mem_append_right _ h))
theorem fg_X11_letter_37 : aFl wsX11_letter RX11 37 11 3 := ⟨RX11, TX11, 17, rfl, in_X11_letter_11, by decide, (List.mem_of_getElem? (i := 1) rfl), rfl⟩
set_option maxRecDepth 100000 in
set_option maxHeartbeats 4000000 in
theorem w_X11_letter_21 {x : aC} {r : Int × Hp} {a1 : Int} {a2 : Int} (X : aX x cX11_letter wsX11_letter RX11 3 rm_X11_letter) (E : aE x shC (some .int) 0 r) (t1 : Int) (σ : Hp) (h : F_RD_letter_21 a1 a2 t1 σ = some r) : aS x shC 3 21 [] [vI t1] σ := by
  unfold F_RD_letter_21 at h
  exact A_ireturn X E h dX11_letter_21
set_option maxRecDepth 100000 in
set_option maxHeartbeats 4000000 in
theorem m_X11_letter {l : Launch} {g : aG} {a1 : Int} {a2 : Int} {σ : Hp} {r : Int × Hp} (h : F_RD_letter a1 a2 σ = some r) : aMet l g shC yX11_letter wsX11_letter rm_X11_letter [vR 0, vI a1, vI a2] σ 0 r := by
  unfold F_RD_letter at h
  refine aMet_of (bytes := cX11_letter) (maxL := 3) (ret := (some .int)) (by decide +kernel) rfl (Nat.le_of_ble_eq_true rfl) ⟨rfl, rfl⟩ (fun x e1 e2 X E => ?_)
  subst e1; subst e2
  have X : aX x cX11_letter wsX11_letter RX11 3 rm_X11_letter := X
  show aS x shC 3 0 [(0, vR 0), (1, vI a1), (2, vI a2)] [] σ
  refine A_aload_n X 0 rfl rfl dX11_letter_0 ?_
  refine A_iload_n X 1 rfl rfl dX11_letter_1 ?_
  obtain ⟨v1, s2, e3, h⟩ := clD h
  refine A_callV_I (na := 1) X (m_X11_isSomebody e3) gX11_letter_X11_isSomebody rfl ⟨rfl, rfl⟩ (by decide +kernel) rfl ⟨Nat.le_of_ble_eq_true rfl, Nat.le_of_ble_eq_true rfl⟩ shC_0 (by decide) rfl rfl (Nat.le_of_ble_eq_true rfl) dX11_letter_2 ?_
  refine A_if_eq X (tgt := 20) (by decide) dX11_letter_5 (fun c4 => ?_) (fun c4 => ?_)
  · replace h := ifT h c4
    refine A_iconst X dX11_letter_20 (z := (-1)) (by decide) ?_
    refine A_sub [] rfl (L' := []) rfl ?_
    exact w_X11_letter_21 (a1 := a1) (a2 := a2) X E (-1) s2 h
  · replace h := ifF h c4
    refine A_aload_n X 0 rfl rfl dX11_letter_8 ?_
    refine A_getV X fg_X11_letter_37 shC_0 (k := 3) rfl (by decide) dX11_letter_9 ?_
    obtain ⟨q5, hy⟩ : ∃ y, y = (s2 0 3).toNat := ⟨_, rfl⟩
    replace h := ltD h q5 hy
    rw [← hy]
    clear hy
    obtain ⟨g6, h⟩ := gdD h
    refine A_iload_n X 1 rfl rfl dX11_letter_12 ?_
    refine A_iload_n X 2 rfl rfl dX11_letter_13 ?_
    obtain ⟨v7, s8, e9, h⟩ := clD h
    refine A_callV_I (na := 2) X (m_X6_letterOf e9) gX11_letter_X6_letterOf rfl ⟨rfl, rfl⟩ (by decide +kernel) rfl ⟨Nat.le_of_ble_eq_true rfl, Nat.le_of_ble_eq_true rfl⟩ (shNet g6) (by decide) rfl rfl (Nat.le_of_ble_eq_true rfl) dX11_letter_14 ?_
    refine A_goto X (tgt := 21) (by decide) dX11_letter_17 ?_
    refine A_sub [] rfl (L' := []) rfl ?_
    exact w_X11_letter_21 (a1 := a1) (a2 := a2) X E v7 s8 h
abbrev rm_X11_made : Room := { frames := 1, cells := 0, slots := 0, locals := 23 }
theorem in_X11_made_11 : ∀ w ∈ u_ws RX11 TX11 17, w ∈ wsX11_made := fun w h => List.mem_cons_of_mem _ (List.mem_append_left _ (List.mem_append_left _ (List.mem_append_right _ h)))
theorem fg_X11_made_46 : aFl wsX11_made RX11 46 11 4 := ⟨RX11, TX11, 17, rfl, in_X11_made_11, by decide, (List.mem_of_getElem? (i := 1) rfl), rfl⟩
theorem in_X11_made_10 : ∀ w ∈ u_ws RX10 TX10 3, w ∈ wsX11_made := fun w h => List.mem_cons_of_mem _ (List.mem_append_left _ (List.mem_append_right _ h))
theorem fg_X11_made_187 : aFl wsX11_made RX11 187 10 0 := ⟨RX10, TX10, 3, rfl, in_X11_made_10, by decide, (List.mem_of_getElem? (i := 2) rfl), rfl⟩
theorem fg_X11_made_192 : aFl wsX11_made RX11 192 10 1 := ⟨RX10, TX10, 3, rfl, in_X11_made_10, by decide, (List.mem_of_getElem? (i := 4) rfl), rfl⟩
theorem fg_X11_made_37 : aFl wsX11_made RX11 37 11 3 := ⟨RX11, TX11, 17, rfl, in_X11_made_11, by decide, (List.mem_of_getElem? (i := 9) rfl), rfl⟩
theorem in_X11_made_6 : ∀ w ∈ u_ws RX6 TX6 20, w ∈ wsX11_made := fun w h => List.mem_cons_of_mem _ (List.mem_append_right _ h)
theorem fg_X11_made_203 : aFl wsX11_made RX11 203 6 4 := ⟨RX6, TX6, 20, rfl, in_X11_made_6, by decide, (List.mem_of_getElem? (i := 10) rfl), rfl⟩
set_option maxRecDepth 100000 in
set_option maxHeartbeats 4000000 in
theorem w_X11_made_20 {x : aC} {r : Int × Hp} {a1 : Int} {a2 : Int} (X : aX x cX11_made wsX11_made RX11 3 rm_X11_made) (E : aE x shC (some .int) 0 r) (σ : Hp) (h : F_RD_made_20 a1 a2 σ = some r) : aS x shC 3 20 [] [] σ := by
  unfold F_RD_made_20 at h
  refine A_ldc X (v := (-2000000000)) (List.mem_of_getElem? (i := 3) rfl) dX11_made_20 (z := (-2000000000)) (by decide) ?_
  exact A_ireturn X E h dX11_made_22
set_option maxRecDepth 100000 in
set_option maxHeartbeats 4000000 in
theorem m_X11_made {l : Launch} {g : aG} {a1 : Int} {a2 : Int} {σ : Hp} {r : Int × Hp} (h : F_RD_made a1 a2 σ = some r) : aMet l g shC yX11_made wsX11_made rm_X11_made [vR 0, vI a1, vI a2] σ 0 r := by
  unfold F_RD_made at h
  refine aMet_of (bytes := cX11_made) (maxL := 3) (ret := (some .int)) (by decide +kernel) rfl (Nat.le_of_ble_eq_true rfl) ⟨rfl, rfl⟩ (fun x e1 e2 X E => ?_)
  subst e1; subst e2
  have X : aX x cX11_made wsX11_made RX11 3 rm_X11_made := X
  show aS x shC 3 0 [(0, vR 0), (1, vI a1), (2, vI a2)] [] σ
  refine A_aload_n X 0 rfl rfl dX11_made_0 ?_
  refine A_iload_n X 1 rfl rfl dX11_made_1 ?_
  obtain ⟨v1, s2, e3, h⟩ := clD h
  refine A_callV_I (na := 1) X (m_X11_isRoad e3) gX11_made_X11_isRoad rfl ⟨rfl, rfl⟩ (by decide +kernel) rfl ⟨Nat.le_of_ble_eq_true rfl, Nat.le_of_ble_eq_true rfl⟩ shC_0 (by decide) rfl rfl (Nat.le_of_ble_eq_true rfl) dX11_made_2 ?_
  refine A_if_eq X (tgt := 20) (by decide) dX11_made_5 (fun c4 => ?_) (fun c4 => ?_)
  · replace h := ifT h c4
    refine A_sub [] rfl (L' := []) rfl ?_
    exact w_X11_made_20 (a1 := a1) (a2 := a2) X E s2 h
  · replace h := ifF h c4
    refine A_aload_n X 0 rfl rfl dX11_made_8 ?_
    refine A_getA X fg_X11_made_46 shC_0 (k := 4) rfl (by decide) dX11_made_9 ?_
    refine A_getR X fg_X11_made_187 shC_88 (k := 0) rfl (by decide) dX11_made_12 ?_
    refine A_iload_n X 1 rfl rfl dX11_made_15 ?_
    obtain ⟨g5, h⟩ := gdD h
    refine A_zald X g5 shC_89 dX11_made_16 ?_
    refine A_if_ne X (tgt := 23) (by decide) dX11_made_17 (fun c6 => ?_) (fun c6 => ?_)
    · replace h := ifF h c6
      refine A_iload_n X 2 rfl rfl dX11_made_23 ?_
      by_cases c7 : a2 = 0
      · replace h := ifT h c7
        refine A_tIn X (j := 0) (tgt := 52) c7 (by decide) (by decide) rfl (by decide) dX11_made_24 ?_
        refine A_aload_n X 0 rfl rfl dX11_made_52 ?_
        refine A_getA X fg_X11_made_46 shC_0 (k := 4) rfl (by decide) dX11_made_53 ?_
        refine A_getR X fg_X11_made_192 shC_88 (k := 1) rfl (by decide) dX11_made_56 ?_
        refine A_iload_n X 1 rfl rfl dX11_made_59 ?_
        obtain ⟨g8, h⟩ := gdD h
        refine A_iald X g8 shC_90 dX11_made_60 ?_
        exact A_ireturn X E h dX11_made_61
      replace h := ifF h c7
      by_cases c9 : a2 = 1
      · replace h := ifT h c9
        refine A_tIn X (j := 1) (tgt := 62) c9 (by decide) (by decide) rfl (by decide) dX11_made_24 ?_
        refine A_iconst X dX11_made_62 (z := 0) (by decide) ?_
        refine A_aload_n X 0 rfl rfl dX11_made_63 ?_
        refine A_getA X fg_X11_made_46 shC_0 (k := 4) rfl (by decide) dX11_made_64 ?_
        refine A_iload_n X 1 rfl rfl dX11_made_67 ?_
        obtain ⟨v10, s11, e12, h⟩ := clD h
        refine A_callV_I (na := 1) X (m_X10_gainOf e12) gX11_made_X10_gainOf rfl ⟨rfl, rfl⟩ (by decide +kernel) rfl ⟨Nat.le_of_ble_eq_true rfl, Nat.le_of_ble_eq_true rfl⟩ shC_88 (by decide) rfl rfl (Nat.le_of_ble_eq_true rfl) dX11_made_68 ?_
        refine A_mmax X (List.mem_of_getElem? (i := 5) rfl) (List.mem_of_getElem? (i := 6) rfl) (List.mem_of_getElem? (i := 7) rfl) (List.mem_of_getElem? (i := 8) rfl) (Nat.le_of_ble_eq_true rfl) (Nat.le_of_ble_eq_true rfl) dX11_made_71 ?_
        exact A_ireturn X E h dX11_made_74
      replace h := ifF h c9
      by_cases c13 : a2 = 2
      · replace h := ifT h c13
        refine A_tIn X (j := 2) (tgt := 75) c13 (by decide) (by decide) rfl (by decide) dX11_made_24 ?_
        refine A_aload_n X 0 rfl rfl dX11_made_75 ?_
        refine A_getV X fg_X11_made_37 shC_0 (k := 3) rfl (by decide) dX11_made_76 ?_
        obtain ⟨q14, hy⟩ : ∃ y, y = (s2 0 3).toNat := ⟨_, rfl⟩
        replace h := ltD h q14 hy
        rw [← hy]
        clear hy
        obtain ⟨g15, h⟩ := gdD h
        refine A_getR X fg_X11_made_203 (shNet g15) (k := 4) rfl (by decide) dX11_made_79 ?_
        refine A_iload_n X 1 rfl rfl dX11_made_82 ?_
        obtain ⟨g16, h⟩ := gdD h
        refine A_iald X g16 (shNet_doubt g15) dX11_made_83 ?_
        exact A_ireturn X E h dX11_made_84
      replace h := ifF h c13
      refine A_tOut X (tgt := 85) (by omega) (by decide) dX11_made_24 ?_
      refine A_ldc X (v := (-2000000000)) (List.mem_of_getElem? (i := 3) rfl) dX11_made_85 (z := (-2000000000)) (by decide) ?_
      exact A_ireturn X E h dX11_made_87
    · replace h := ifT h c6
      refine A_sub [] rfl (L' := []) rfl ?_
      exact w_X11_made_20 (a1 := a1) (a2 := a2) X E s2 h
abbrev rm_X11_money : Room := { frames := 3, cells := 0, slots := 0, locals := 63 }
set_option maxRecDepth 100000 in
set_option maxHeartbeats 4000000 in
theorem w_X11_money_21 {x : aC} {r : Int × Hp} {a1 : Int} (X : aX x cX11_money wsX11_money RX11 2 rm_X11_money) (E : aE x shC (some .int) 0 r) (t1 : Int) (σ : Hp) (h : F_RD_money_21 a1 t1 σ = some r) : aS x shC 2 21 [] [vI t1] σ := by
  unfold F_RD_money_21 at h
  exact A_ireturn X E h dX11_money_21
set_option maxRecDepth 100000 in
set_option maxHeartbeats 4000000 in
theorem m_X11_money {l : Launch} {g : aG} {a1 : Int} {σ : Hp} {r : Int × Hp} (h : F_RD_money a1 σ = some r) : aMet l g shC yX11_money wsX11_money rm_X11_money [vR 0, vI a1] σ 0 r := by
  unfold F_RD_money at h
  refine aMet_of (bytes := cX11_money) (maxL := 2) (ret := (some .int)) (by decide +kernel) rfl (Nat.le_of_ble_eq_true rfl) ⟨rfl, rfl⟩ (fun x e1 e2 X E => ?_)
  subst e1; subst e2
  have X : aX x cX11_money wsX11_money RX11 2 rm_X11_money := X
  show aS x shC 2 0 [(0, vR 0), (1, vI a1)] [] σ
  refine A_aload_n X 0 rfl rfl dX11_money_0 ?_
  refine A_iload_n X 1 rfl rfl dX11_money_1 ?_
  obtain ⟨v1, s2, e3, h⟩ := clD h
  refine A_callV_I (na := 1) X (m_X11_isSomebody e3) gX11_money_X11_isSomebody rfl ⟨rfl, rfl⟩ (by decide +kernel) rfl ⟨Nat.le_of_ble_eq_true rfl, Nat.le_of_ble_eq_true rfl⟩ shC_0 (by decide) rfl rfl (Nat.le_of_ble_eq_true rfl) dX11_money_2 ?_
  refine A_if_eq X (tgt := 19) (by decide) dX11_money_5 (fun c4 => ?_) (fun c4 => ?_)
  · replace h := ifT h c4
    refine A_ldc X (v := (-2000000000)) (List.mem_of_getElem? (i := 1) rfl) dX11_money_19 (z := (-2000000000)) (by decide) ?_
    refine A_sub [] rfl (L' := []) rfl ?_
    exact w_X11_money_21 (a1 := a1) X E (-2000000000) s2 h
  · replace h := ifF h c4
    refine A_aload_n X 0 rfl rfl dX11_money_8 ?_
    obtain ⟨v5, s6, e7, h⟩ := clD h
    refine A_callV_R (na := 0) X (m_X11_dealsNow e7) gX11_money_X11_dealsNow rfl ⟨rfl, rfl⟩ (by decide +kernel) rfl ⟨Nat.le_of_ble_eq_true rfl, Nat.le_of_ble_eq_true rfl⟩ shC_0 (by decide) rfl rfl (Nat.le_of_ble_eq_true rfl) dX11_money_9 ?_
    obtain ⟨g8, h⟩ := gdD h
    rw [g8]
    refine A_iload_n X 1 rfl rfl dX11_money_12 ?_
    obtain ⟨v9, s10, e11, h⟩ := clD h
    refine A_callV_I (na := 1) X (m_X3_moneyOf e11) gX11_money_X3_moneyOf rfl ⟨rfl, rfl⟩ (by decide +kernel) rfl ⟨Nat.le_of_ble_eq_true rfl, Nat.le_of_ble_eq_true rfl⟩ shC_173 (by decide) rfl rfl (Nat.le_of_ble_eq_true rfl) dX11_money_13 ?_
    refine A_goto X (tgt := 21) (by decide) dX11_money_16 ?_
    refine A_sub [] rfl (L' := []) rfl ?_
    exact w_X11_money_21 (a1 := a1) X E v9 s10 h
abbrev rm_X11_most : Room := { frames := 5, cells := 0, slots := 0, locals := 140 }
theorem in_X11_most_11 : ∀ w ∈ u_ws RX11 TX11 17, w ∈ wsX11_most := fun w h => List.mem_cons_of_mem _ (List.mem_append_left _ (List.mem_append_left _ (List.mem_append_left _ (List.mem_append_left _ (List.mem_append_right _ h)))))
theorem fg_X11_most_37 : aFl wsX11_most RX11 37 11 3 := ⟨RX11, TX11, 17, rfl, in_X11_most_11, by decide, (List.mem_of_getElem? (i := 1) rfl), rfl⟩
set_option maxRecDepth 100000 in
set_option maxHeartbeats 4000000 in
theorem w_X11_most_27 {x : aC} {r : Int × Hp} {a1 : Int} (X : aX x cX11_most wsX11_most RX11 3 rm_X11_most) (E : aE x shC (some .int) 0 r) (t1 : Int) (σ : Hp) (h : F_RD_most_27 a1 t1 σ = some r) : aS x shC 3 27 [] [vI t1] σ := by
  unfold F_RD_most_27 at h
  exact A_ireturn X E h dX11_most_27
set_option maxRecDepth 100000 in
set_option maxHeartbeats 4000000 in
theorem m_X11_most {l : Launch} {g : aG} {a1 : Int} {σ : Hp} {r : Int × Hp} (h : F_RD_most a1 σ = some r) : aMet l g shC yX11_most wsX11_most rm_X11_most [vR 0, vI a1] σ 0 r := by
  unfold F_RD_most at h
  refine aMet_of (bytes := cX11_most) (maxL := 3) (ret := (some .int)) (by decide +kernel) rfl (Nat.le_of_ble_eq_true rfl) ⟨rfl, rfl⟩ (fun x e1 e2 X E => ?_)
  subst e1; subst e2
  have X : aX x cX11_most wsX11_most RX11 3 rm_X11_most := X
  show aS x shC 3 0 [(0, vR 0), (1, vI a1)] [] σ
  refine A_aload_n X 0 rfl rfl dX11_most_0 ?_
  obtain ⟨v1, s2, e3, h⟩ := clD h
  refine A_callV_R (na := 0) X (m_X11_planNow e3) gX11_most_X11_planNow rfl ⟨rfl, rfl⟩ (by decide +kernel) rfl ⟨Nat.le_of_ble_eq_true rfl, Nat.le_of_ble_eq_true rfl⟩ shC_0 (by decide) rfl rfl (Nat.le_of_ble_eq_true rfl) dX11_most_1 ?_
  obtain ⟨g4, h⟩ := gdD h
  rw [g4]
  refine A_astore_n X (L' := [(2, vR 112), (0, vR 0), (1, vI a1)]) rfl (by decide) rfl dX11_most_4 ?_
  refine A_iload_n X 2 rfl rfl dX11_most_5 ?_
  refine A_if_eq X (tgt := 16) (by decide) dX11_most_6 (fun c5 => ?_) (fun c5 => ?_)
  · replace h := ifT h c5
    refine A_aload_n X 0 rfl rfl dX11_most_16 ?_
    refine A_aload_n X 1 rfl rfl dX11_most_17 ?_
    refine A_getV X fg_X11_most_37 shC_0 (k := 3) rfl (by decide) dX11_most_18 ?_
    obtain ⟨q6, hy⟩ : ∃ y, y = (s2 0 3).toNat := ⟨_, rfl⟩
    replace h := ltD h q6 hy
    rw [← hy]
    clear hy
    obtain ⟨g7, h⟩ := gdD h
    obtain ⟨v8, s9, e10, h⟩ := clD h
    refine A_callV_I (na := 0) X (m_X6_everybody e10) gX11_most_X6_everybody rfl ⟨rfl, rfl⟩ (by decide +kernel) rfl ⟨Nat.le_of_ble_eq_true rfl, Nat.le_of_ble_eq_true rfl⟩ (shNet g7) (by decide) rfl rfl (Nat.le_of_ble_eq_true rfl) dX11_most_21 ?_
    obtain ⟨v11, s12, e13, h⟩ := clD h
    refine A_callV_I (na := 1) X (m_X7_mostOf e13) gX11_most_X7_mostOf rfl ⟨rfl, rfl⟩ (by decide +kernel) rfl ⟨Nat.le_of_ble_eq_true rfl, Nat.le_of_ble_eq_true rfl⟩ shC_112 (by decide) rfl rfl (Nat.le_of_ble_eq_true rfl) dX11_most_24 ?_
    refine A_sub [] rfl (L' := []) rfl ?_
    exact w_X11_most_27 (a1 := a1) X E v11 s12 h
  · replace h := ifF h c5
    refine A_aload_n X 0 rfl rfl dX11_most_9 ?_
    obtain ⟨v14, s15, e16, h⟩ := clD h
    refine A_callV_I (na := 0) X (m_X7_twiceWithHalves e16) gX11_most_X7_twiceWithHalves rfl ⟨rfl, rfl⟩ (by decide +kernel) rfl ⟨Nat.le_of_ble_eq_true rfl, Nat.le_of_ble_eq_true rfl⟩ shC_112 (by decide) rfl rfl (Nat.le_of_ble_eq_true rfl) dX11_most_10 ?_
    refine A_goto X (tgt := 27) (by decide) dX11_most_13 ?_
    refine A_sub [] rfl (L' := []) rfl ?_
    exact w_X11_most_27 (a1 := a1) X E v14 s15 h
abbrev rm_X11_movedBetween : Room := { frames := 4, cells := 0, slots := 0, locals := 90 }
theorem in_X11_movedBetween_7 : ∀ w ∈ u_ws RX7 TX7 11, w ∈ wsX11_movedBetween := fun w h => List.mem_cons_of_mem _ (List.mem_append_left _ (List.mem_append_left _ (List.mem_append_right _ h)))
theorem fg_X11_movedBetween_343 : aFl wsX11_movedBetween RX11 343 7 7 := ⟨RX7, TX7, 11, rfl, in_X11_movedBetween_7, by decide, (List.mem_of_getElem? (i := 1) rfl), rfl⟩
theorem in_X11_movedBetween_6 : ∀ w ∈ u_ws RX6 TX6 20, w ∈ wsX11_movedBetween := fun w h => List.mem_cons_of_mem _ (List.mem_append_left _ (List.mem_append_right _ h))
theorem fg_X11_movedBetween_144 : aFl wsX11_movedBetween RX11 144 6 15 := ⟨RX6, TX6, 20, rfl, in_X11_movedBetween_6, by decide, (List.mem_of_getElem? (i := 2) rfl), rfl⟩
set_option maxRecDepth 100000 in
set_option maxHeartbeats 4000000 in
theorem w_X11_movedBetween_51 {x : aC} {r : Int × Hp} {k4 : Int × Int × Hp → Option (Int × Hp)} (X : aX x cX11_movedBetween wsX11_movedBetween RX11 4 rm_X11_movedBetween) (E : aE x shC (some .int) 0 r) (hk4 : ∀ (x2 : Int) (x3 : Int) (σ : Hp), k4 (x2, x3, σ) = some r → aS x shC 4 4 [(0, vR 112), (1, vR 142), (2, vI x2), (3, vI x3)] [] σ) (x2 : Int) (x3 : Int) (σ : Hp) (h : F_RD_movedBetween_51 k4 x2 x3 σ = some r) : aS x shC 4 51 [(0, vR 112), (1, vR 142), (2, vI x2), (3, vI x3)] [] σ := by
  unfold F_RD_movedBetween_51 at h
  refine A_iinc X (L' := fun y3_1 => [(3, vI y3_1), (0, vR 112), (1, vR 142), (2, vI x2)]) 3 rfl (by decide) (fun _ => rfl) dX11_movedBetween_51 (by decide) (fun y3_1 hy => ?_)
  replace h := ltD h y3_1 hy
  clear hy
  refine A_goto X (tgt := 4) (by decide) dX11_movedBetween_54 ?_
  refine A_sub [1, 2, 3, 0] rfl (L' := [(0, vR 112), (1, vR 142), (2, vI x2), (3, vI y3_1)]) rfl ?_
  exact hk4 x2 y3_1 σ h
set_option maxRecDepth 100000 in
set_option maxHeartbeats 4000000 in
theorem w_X11_movedBetween_45 {x : aC} {r : Int × Hp} {k4 : Int × Int × Hp → Option (Int × Hp)} (X : aX x cX11_movedBetween wsX11_movedBetween RX11 4 rm_X11_movedBetween) (E : aE x shC (some .int) 0 r) (hk4 : ∀ (x2 : Int) (x3 : Int) (σ : Hp), k4 (x2, x3, σ) = some r → aS x shC 4 4 [(0, vR 112), (1, vR 142), (2, vI x2), (3, vI x3)] [] σ) (x2 : Int) (x3 : Int) (σ : Hp) (h : F_RD_movedBetween_45 k4 x2 x3 σ = some r) : aS x shC 4 45 [(0, vR 112), (1, vR 142), (2, vI x2), (3, vI x3)] [] σ := by
  unfold F_RD_movedBetween_45 at h
  refine A_iload_n X 2 rfl rfl dX11_movedBetween_45 ?_
  refine A_iconst X dX11_movedBetween_46 (z := 1) (by decide) ?_
  refine A_iload_n X 3 rfl rfl dX11_movedBetween_47 ?_
  refine A_ishl X dX11_movedBetween_48 ?_
  refine A_ior X dX11_movedBetween_49 ?_
  refine A_istore_nN X (L' := fun y2_2 => [(2, vI y2_2), (0, vR 112), (1, vR 142), (3, vI x3)]) rfl (by decide) (fun _ => rfl) dX11_movedBetween_50 (fun y2_2 hy => ?_)
  replace h := ltD h y2_2 hy
  clear hy
  refine A_sub [1, 2, 0, 3] rfl (L' := [(0, vR 112), (1, vR 142), (2, vI y2_2), (3, vI x3)]) rfl ?_
  exact w_X11_movedBetween_51 X E hk4 y2_2 x3 σ h
set_option maxRecDepth 100000 in
set_option maxHeartbeats 4000000 in
theorem w_X11_movedBetween_4_b {x : aC} {r : Int × Hp} {k4 : Int × Int × Hp → Option (Int × Hp)} (X : aX x cX11_movedBetween wsX11_movedBetween RX11 4 rm_X11_movedBetween) (E : aE x shC (some .int) 0 r) (hk4 : ∀ (x2 : Int) (x3 : Int) (σ : Hp), k4 (x2, x3, σ) = some r → aS x shC 4 4 [(0, vR 112), (1, vR 142), (2, vI x2), (3, vI x3)] [] σ) (x2 : Int) (x3 : Int) (σ : Hp) (h : F_RD_movedBetween_4_b k4 x2 x3 σ = some r) : aS x shC 4 4 [(0, vR 112), (1, vR 142), (2, vI x2), (3, vI x3)] [] σ := by
  unfold F_RD_movedBetween_4_b at h
  refine A_iload_n X 3 rfl rfl dX11_movedBetween_4 ?_
  refine A_aload_n X 0 rfl rfl dX11_movedBetween_5 ?_
  refine A_getV X fg_X11_movedBetween_343 shC_112 (k := 7) rfl (by decide) dX11_movedBetween_6 ?_
  obtain ⟨q3, hy⟩ : ∃ y, y = (σ 112 7).toNat := ⟨_, rfl⟩
  replace h := ltD h q3 hy
  rw [← hy]
  clear hy
  obtain ⟨g4, h⟩ := gdD h
  refine A_getI X fg_X11_movedBetween_144 (shNet g4) (k := 15) rfl (by decide) dX11_movedBetween_9 ?_
  refine A_icmp_ge X (tgt := 57) (by decide) dX11_movedBetween_12 (fun c5 => ?_) (fun c5 => ?_)
  · replace h := ifT h c5
    refine A_iload_n X 2 rfl rfl dX11_movedBetween_57 ?_
    exact A_ireturn X E h dX11_movedBetween_58
  · replace h := ifF h c5
    refine A_aload_n X 0 rfl rfl dX11_movedBetween_15 ?_
    refine A_iload_n X 3 rfl rfl dX11_movedBetween_16 ?_
    refine A_iconst X dX11_movedBetween_17 (z := 0) (by decide) ?_
    obtain ⟨v6, s7, e8, h⟩ := clD h
    refine A_callV_I (na := 2) X (m_X7_endOf e8) gX11_movedBetween_X7_endOf rfl ⟨rfl, rfl⟩ (by decide +kernel) rfl ⟨Nat.le_of_ble_eq_true rfl, Nat.le_of_ble_eq_true rfl⟩ shC_112 (by decide) rfl rfl (Nat.le_of_ble_eq_true rfl) dX11_movedBetween_18 ?_
    refine A_aload_n X 1 rfl rfl dX11_movedBetween_21 ?_
    refine A_iload_n X 3 rfl rfl dX11_movedBetween_22 ?_
    refine A_iconst X dX11_movedBetween_23 (z := 0) (by decide) ?_
    obtain ⟨v9, s10, e11, h⟩ := clD h
    refine A_callV_I (na := 2) X (m_X7_endOf e11) gX11_movedBetween_X7_endOf rfl ⟨rfl, rfl⟩ (by decide +kernel) rfl ⟨Nat.le_of_ble_eq_true rfl, Nat.le_of_ble_eq_true rfl⟩ shC_142 (by decide) rfl rfl (Nat.le_of_ble_eq_true rfl) dX11_movedBetween_24 ?_
    refine A_icmp_ne X (tgt := 45) (by decide) dX11_movedBetween_27 (fun c12 => ?_) (fun c12 => ?_)
    · replace h := ifF h c12
      exact w_X11_movedBetween_45 X E hk4 x2 x3 s10 h
    · replace h := ifT h c12
      refine A_aload_n X 0 rfl rfl dX11_movedBetween_30 ?_
      refine A_iload_n X 3 rfl rfl dX11_movedBetween_31 ?_
      refine A_iconst X dX11_movedBetween_32 (z := 1) (by decide) ?_
      obtain ⟨v13, s14, e15, h⟩ := clD h
      refine A_callV_I (na := 2) X (m_X7_endOf e15) gX11_movedBetween_X7_endOf rfl ⟨rfl, rfl⟩ (by decide +kernel) rfl ⟨Nat.le_of_ble_eq_true rfl, Nat.le_of_ble_eq_true rfl⟩ shC_112 (by decide) rfl rfl (Nat.le_of_ble_eq_true rfl) dX11_movedBetween_33 ?_
      refine A_aload_n X 1 rfl rfl dX11_movedBetween_36 ?_
      refine A_iload_n X 3 rfl rfl dX11_movedBetween_37 ?_
      refine A_iconst X dX11_movedBetween_38 (z := 1) (by decide) ?_
      obtain ⟨v16, s17, e18, h⟩ := clD h
      refine A_callV_I (na := 2) X (m_X7_endOf e18) gX11_movedBetween_X7_endOf rfl ⟨rfl, rfl⟩ (by decide +kernel) rfl ⟨Nat.le_of_ble_eq_true rfl, Nat.le_of_ble_eq_true rfl⟩ shC_142 (by decide) rfl rfl (Nat.le_of_ble_eq_true rfl) dX11_movedBetween_39 ?_
      refine A_icmp_eq X (tgt := 51) (by decide) dX11_movedBetween_42 (fun c19 => ?_) (fun c19 => ?_)
      · replace h := ifT h c19
        exact w_X11_movedBetween_51 X E hk4 x2 x3 s17 h
      · replace h := ifF h c19
        exact w_X11_movedBetween_45 X E hk4 x2 x3 s17 h
set_option maxRecDepth 100000 in
set_option maxHeartbeats 4000000 in
theorem w_X11_movedBetween_4 {x : aC} {r : Int × Hp} (X : aX x cX11_movedBetween wsX11_movedBetween RX11 4 rm_X11_movedBetween) (E : aE x shC (some .int) 0 r) : ∀ (n : Nat) (x2 : Int) (x3 : Int) (σ : Hp) (h : F_RD_movedBetween_4 n (x2, x3, σ) = some r), aS x shC 4 4 [(0, vR 112), (1, vR 142), (2, vI x2), (3, vI x3)] [] σ := by
  intro n
  induction n with
  | zero => intro x2 x3 σ h; cases h
  | succ n ih => intro x2 x3 σ h; exact w_X11_movedBetween_4_b (k4 := F_RD_movedBetween_4 n) X E ih x2 x3 σ h
set_option maxRecDepth 100000 in
set_option maxHeartbeats 4000000 in
theorem m_X11_movedBetween {l : Launch} {g : aG} {σ : Hp} {r : Int × Hp} (h : F_RD_movedBetween σ = some r) : aMet l g shC yX11_movedBetween wsX11_movedBetween rm_X11_movedBetween [vR 112, vR 142] σ 0 r := by
  unfold F_RD_movedBetween at h
  refine aMet_of (bytes := cX11_movedBetween) (maxL := 4) (ret := (some .int)) (by decide +kernel) rfl (Nat.le_of_ble_eq_true rfl) ⟨rfl, rfl⟩ (fun x e1 e2 X E => ?_)
  subst e1; subst e2
  have X : aX x cX11_movedBetween wsX11_movedBetween RX11 4 rm_X11_movedBetween := X
  show aS x shC 4 0 [(0, vR 112), (1, vR 142)] [] σ
  refine A_iconst X dX11_movedBetween_0 (z := 0) (by decide) ?_
  refine A_istore_n X (L' := [(2, vI 0), (0, vR 112), (1, vR 142)]) rfl (by decide) rfl dX11_movedBetween_1 ?_
  refine A_iconst X dX11_movedBetween_2 (z := 0) (by decide) ?_
  refine A_istore_n X (L' := [(3, vI 0), (2, vI 0), (0, vR 112), (1, vR 142)]) rfl (by decide) rfl dX11_movedBetween_3 ?_
  refine A_sub [2, 3, 1, 0] rfl (L' := [(0, vR 112), (1, vR 142), (2, vI 0), (3, vI 0)]) rfl ?_
  exact w_X11_movedBetween_4 X E FU 0 0 σ h
abbrev rm_X11_moves : Room := { frames := 6, cells := 0, slots := 0, locals := 140 }
theorem in_X11_moves_11 : ∀ w ∈ u_ws RX11 TX11 17, w ∈ wsX11_moves := fun w h => List.mem_cons_of_mem _ (List.mem_append_left _ (List.mem_append_left _ (List.mem_append_left _ (List.mem_append_left _ (List.mem_append_left _ (List.mem_append_right _ h))))))
theorem fg_X11_moves_66 : aFl wsX11_moves RX11 66 11 7 := ⟨RX11, TX11, 17, rfl, in_X11_moves_11, by decide, (List.mem_of_getElem? (i := 2) rfl), rfl⟩
theorem fg_X11_moves_37 : aFl wsX11_moves RX11 37 11 3 := ⟨RX11, TX11, 17, rfl, in_X11_moves_11, by decide, (List.mem_of_getElem? (i := 3) rfl), rfl⟩
set_option maxRecDepth 100000 in
set_option maxHeartbeats 4000000 in
theorem w_X11_moves_19 {x : aC} {r : Int × Hp} {a1 : Int} {a2 : Int} (X : aX x cX11_moves wsX11_moves RX11 4 rm_X11_moves) (E : aE x shC (some .int) 0 r) (σ : Hp) (h : F_RD_moves_19 a1 a2 σ = some r) : aS x shC 4 19 [] [] σ := by
  unfold F_RD_moves_19 at h
  refine A_iconst X dX11_moves_19 (z := (-1)) (by decide) ?_
  exact A_ireturn X E h dX11_moves_20
set_option maxRecDepth 100000 in
set_option maxHeartbeats 4000000 in
theorem w_X11_moves_76 {x : aC} {r : Int × Hp} {a1 : Int} {a2 : Int} (X : aX x cX11_moves wsX11_moves RX11 4 rm_X11_moves) (E : aE x shC (some .int) 0 r) (t1 : Int) (σ : Hp) (h : F_RD_moves_76 a1 a2 t1 σ = some r) : aS x shC 4 76 [] [vI t1] σ := by
  unfold F_RD_moves_76 at h
  exact A_ireturn X E h dX11_moves_76
set_option maxRecDepth 100000 in
set_option maxHeartbeats 4000000 in
theorem m_X11_moves {l : Launch} {g : aG} {a1 : Int} {a2 : Int} {σ : Hp} {r : Int × Hp} (h : F_RD_moves a1 a2 σ = some r) : aMet l g shC yX11_moves wsX11_moves rm_X11_moves [vR 0, vI a1, vI a2] σ 0 r := by
  unfold F_RD_moves at h
  refine aMet_of (bytes := cX11_moves) (maxL := 4) (ret := (some .int)) (by decide +kernel) rfl (Nat.le_of_ble_eq_true rfl) ⟨rfl, rfl⟩ (fun x e1 e2 X E => ?_)
  subst e1; subst e2
  have X : aX x cX11_moves wsX11_moves RX11 4 rm_X11_moves := X
  show aS x shC 4 0 [(0, vR 0), (1, vI a1), (2, vI a2)] [] σ
  refine A_aload_n X 0 rfl rfl dX11_moves_0 ?_
  refine A_iload_n X 1 rfl rfl dX11_moves_1 ?_
  obtain ⟨v1, s2, e3, h⟩ := clD h
  refine A_callV_I (na := 1) X (m_X11_isRoad e3) gX11_moves_X11_isRoad rfl ⟨rfl, rfl⟩ (by decide +kernel) rfl ⟨Nat.le_of_ble_eq_true rfl, Nat.le_of_ble_eq_true rfl⟩ shC_0 (by decide) rfl rfl (Nat.le_of_ble_eq_true rfl) dX11_moves_2 ?_
  refine A_if_eq X (tgt := 19) (by decide) dX11_moves_5 (fun c4 => ?_) (fun c4 => ?_)
  · replace h := ifT h c4
    refine A_sub [] rfl (L' := []) rfl ?_
    exact w_X11_moves_19 (a1 := a1) (a2 := a2) X E s2 h
  · replace h := ifF h c4
    refine A_iload_n X 2 rfl rfl dX11_moves_8 ?_
    refine A_iconst X dX11_moves_9 (z := (-1)) (by decide) ?_
    refine A_icmp_lt X (tgt := 19) (by decide) dX11_moves_10 (fun c5 => ?_) (fun c5 => ?_)
    · replace h := ifT h c5
      refine A_sub [] rfl (L' := []) rfl ?_
      exact w_X11_moves_19 (a1 := a1) (a2 := a2) X E s2 h
    · replace h := ifF h c5
      refine A_iload_n X 2 rfl rfl dX11_moves_13 ?_
      refine A_ldc X (v := (100000)) (List.mem_of_getElem? (i := 1) rfl) dX11_moves_14 (z := 100000) (by decide) ?_
      refine A_icmp_le X (tgt := 21) (by decide) dX11_moves_16 (fun c6 => ?_) (fun c6 => ?_)
      · replace h := ifT h c6
        refine A_aload_n X 0 rfl rfl dX11_moves_21 ?_
        obtain ⟨v7, s8, e9, h⟩ := clD h
        refine A_callV_R (na := 0) X (m_X11_planNow e9) gX11_moves_X11_planNow rfl ⟨rfl, rfl⟩ (by decide +kernel) rfl ⟨Nat.le_of_ble_eq_true rfl, Nat.le_of_ble_eq_true rfl⟩ shC_0 (by decide) rfl rfl (Nat.le_of_ble_eq_true rfl) dX11_moves_22 ?_
        obtain ⟨g10, h⟩ := gdD h
        rw [g10]
        refine A_astore_n X (L' := [(3, vR 112), (0, vR 0), (1, vI a1), (2, vI a2)]) rfl (by decide) rfl dX11_moves_25 ?_
        refine A_aload_n X 1 rfl rfl dX11_moves_26 ?_
        refine A_getA X fg_X11_moves_66 shC_0 (k := 7) rfl (by decide) dX11_moves_27 ?_
        refine A_iload_n X 2 rfl rfl dX11_moves_30 ?_
        refine A_iload_n X 3 rfl rfl dX11_moves_31 ?_
        obtain ⟨v11, s12, e13, h⟩ := clD h
        refine A_callV_V (na := 2) X (m_X7_take e13) gX11_moves_X7_take rfl ⟨rfl, rfl⟩ (by decide +kernel) rfl ⟨Nat.le_of_ble_eq_true rfl, Nat.le_of_ble_eq_true rfl⟩ shC_142 (by decide) rfl rfl (Nat.le_of_ble_eq_true rfl) dX11_moves_32 ?_
        refine A_aload_n X 0 rfl rfl dX11_moves_35 ?_
        obtain ⟨v14, s15, e16, h⟩ := clD h
        refine A_callV_I (na := 0) X (m_X7_hasEnds e16) gX11_moves_X7_hasEnds rfl ⟨rfl, rfl⟩ (by decide +kernel) rfl ⟨Nat.le_of_ble_eq_true rfl, Nat.le_of_ble_eq_true rfl⟩ shC_112 (by decide) rfl rfl (Nat.le_of_ble_eq_true rfl) dX11_moves_36 ?_
        refine A_aload_n X 1 rfl rfl dX11_moves_39 ?_
        refine A_getA X fg_X11_moves_66 shC_0 (k := 7) rfl (by decide) dX11_moves_40 ?_
        obtain ⟨v17, s18, e19, h⟩ := clD h
        refine A_callV_I (na := 0) X (m_X7_hasEnds e19) gX11_moves_X7_hasEnds rfl ⟨rfl, rfl⟩ (by decide +kernel) rfl ⟨Nat.le_of_ble_eq_true rfl, Nat.le_of_ble_eq_true rfl⟩ shC_142 (by decide) rfl rfl (Nat.le_of_ble_eq_true rfl) dX11_moves_43 ?_
        refine A_icmp_eq X (tgt := 57) (by decide) dX11_moves_46 (fun c20 => ?_) (fun c20 => ?_)
        · replace h := ifT h c20
          refine A_aload_n X 0 rfl rfl dX11_moves_57 ?_
          obtain ⟨v21, s22, e23, h⟩ := clD h
          refine A_callV_I (na := 0) X (m_X7_hasEnds e23) gX11_moves_X7_hasEnds rfl ⟨rfl, rfl⟩ (by decide +kernel) rfl ⟨Nat.le_of_ble_eq_true rfl, Nat.le_of_ble_eq_true rfl⟩ shC_112 (by decide) rfl rfl (Nat.le_of_ble_eq_true rfl) dX11_moves_58 ?_
          refine A_if_eq X (tgt := 75) (by decide) dX11_moves_61 (fun c24 => ?_) (fun c24 => ?_)
          · replace h := ifT h c24
            refine A_iconst X dX11_moves_75 (z := 0) (by decide) ?_
            refine A_sub [] rfl (L' := []) rfl ?_
            exact w_X11_moves_76 (a1 := a1) (a2 := a2) X E 0 s22 h
          · replace h := ifF h c24
            refine A_aload_n X 0 rfl rfl dX11_moves_64 ?_
            refine A_aload_n X 1 rfl rfl dX11_moves_65 ?_
            refine A_getA X fg_X11_moves_66 shC_0 (k := 7) rfl (by decide) dX11_moves_66 ?_
            obtain ⟨v25, s26, e27, h⟩ := clD h
            refine A_callS_I (na := 2) X (m_X11_movedBetween e27) gX11_moves_X11_movedBetween rfl ⟨rfl, rfl⟩ (by decide +kernel) rfl ⟨Nat.le_of_ble_eq_true rfl, Nat.le_of_ble_eq_true rfl⟩ rfl (Nat.le_of_ble_eq_true rfl) dX11_moves_69 ?_
            refine A_goto X (tgt := 76) (by decide) dX11_moves_72 ?_
            refine A_sub [] rfl (L' := []) rfl ?_
            exact w_X11_moves_76 (a1 := a1) (a2 := a2) X E v25 s26 h
        · replace h := ifF h c20
          refine A_aload_n X 1 rfl rfl dX11_moves_49 ?_
          refine A_getV X fg_X11_moves_37 shC_0 (k := 3) rfl (by decide) dX11_moves_50 ?_
          obtain ⟨q28, hy⟩ : ∃ y, y = (s18 0 3).toNat := ⟨_, rfl⟩
          replace h := ltD h q28 hy
          rw [← hy]
          clear hy
          obtain ⟨g29, h⟩ := gdD h
          obtain ⟨v30, s31, e32, h⟩ := clD h
          refine A_callV_I (na := 0) X (m_X6_everybody e32) gX11_moves_X6_everybody rfl ⟨rfl, rfl⟩ (by decide +kernel) rfl ⟨Nat.le_of_ble_eq_true rfl, Nat.le_of_ble_eq_true rfl⟩ (shNet g29) (by decide) rfl rfl (Nat.le_of_ble_eq_true rfl) dX11_moves_53 ?_
          exact A_ireturn X E h dX11_moves_56
      · replace h := ifF h c6
        refine A_sub [] rfl (L' := []) rfl ?_
        exact w_X11_moves_19 (a1 := a1) (a2 := a2) X E s2 h
abbrev rm_X11_octet : Room := { frames := 1, cells := 0, slots := 0, locals := 21 }
theorem in_X11_octet_11 : ∀ w ∈ u_ws RX11 TX11 17, w ∈ wsX11_octet := fun w h => List.mem_cons_of_mem _ (List.mem_append_left _ (List.mem_append_left _ (List.mem_append_right _ h)))
theorem fg_X11_octet_85 : aFl wsX11_octet RX11 85 11 10 := ⟨RX11, TX11, 17, rfl, in_X11_octet_11, by decide, (List.mem_of_getElem? (i := 1) rfl), rfl⟩
theorem in_X11_octet_4 : ∀ w ∈ u_ws RX4 TX4 4, w ∈ wsX11_octet := fun w h => List.mem_cons_of_mem _ (List.mem_append_left _ (List.mem_append_right _ h))
theorem fg_X11_octet_316 : aFl wsX11_octet RX11 316 4 0 := ⟨RX4, TX4, 4, rfl, in_X11_octet_4, by decide, (List.mem_of_getElem? (i := 2) rfl), rfl⟩
set_option maxRecDepth 100000 in
set_option maxHeartbeats 4000000 in
theorem m_X11_octet {l : Launch} {g : aG} {a1 : Int} {σ : Hp} {r : Int × Hp} (h : F_RD_octet a1 σ = some r) : aMet l g shC yX11_octet wsX11_octet rm_X11_octet [vR 0, vI a1] σ 0 r := by
  unfold F_RD_octet at h
  refine aMet_of (bytes := cX11_octet) (maxL := 2) (ret := (some .int)) (by decide +kernel) rfl (Nat.le_of_ble_eq_true rfl) ⟨rfl, rfl⟩ (fun x e1 e2 X E => ?_)
  subst e1; subst e2
  have X : aX x cX11_octet wsX11_octet RX11 2 rm_X11_octet := X
  show aS x shC 2 0 [(0, vR 0), (1, vI a1)] [] σ
  refine A_aload_n X 0 rfl rfl dX11_octet_0 ?_
  refine A_getA X fg_X11_octet_85 shC_0 (k := 10) rfl (by decide) dX11_octet_1 ?_
  refine A_getR X fg_X11_octet_316 shC_180 (k := 0) rfl (by decide) dX11_octet_4 ?_
  refine A_iload_n X 1 rfl rfl dX11_octet_7 ?_
  obtain ⟨v1, s2, e3, h⟩ := clD h
  refine A_callV_I (na := 1) X (m_X2_at e3) gX11_octet_X2_at rfl ⟨rfl, rfl⟩ (by decide +kernel) rfl ⟨Nat.le_of_ble_eq_true rfl, Nat.le_of_ble_eq_true rfl⟩ shC_181 (by decide) rfl rfl (Nat.le_of_ble_eq_true rfl) dX11_octet_8 ?_
  exact A_ireturn X E h dX11_octet_11
abbrev rm_X11_of : Room := { frames := 4, cells := 0, slots := 0, locals := 140 }
theorem in_X11_of_11 : ∀ w ∈ u_ws RX11 TX11 17, w ∈ wsX11_of := fun w h => List.mem_cons_of_mem _ (List.mem_append_left _ (List.mem_append_left _ (List.mem_append_left _ (List.mem_append_right _ h))))
theorem fg_X11_of_37 : aFl wsX11_of RX11 37 11 3 := ⟨RX11, TX11, 17, rfl, in_X11_of_11, by decide, (List.mem_of_getElem? (i := 1) rfl), rfl⟩
set_option maxRecDepth 100000 in
set_option maxHeartbeats 4000000 in
theorem w_X11_of_27 {x : aC} {r : Int × Hp} {a1 : Int} (X : aX x cX11_of wsX11_of RX11 2 rm_X11_of) (E : aE x shC (some .int) 0 r) (t1 : Int) (σ : Hp) (h : F_RD_of_27 a1 t1 σ = some r) : aS x shC 2 27 [] [vI t1] σ := by
  unfold F_RD_of_27 at h
  exact A_ireturn X E h dX11_of_27
set_option maxRecDepth 100000 in
set_option maxHeartbeats 4000000 in
theorem w_X11_of_26 {x : aC} {r : Int × Hp} {a1 : Int} (X : aX x cX11_of wsX11_of RX11 2 rm_X11_of) (E : aE x shC (some .int) 0 r) (σ : Hp) (h : F_RD_of_26 a1 σ = some r) : aS x shC 2 26 [] [] σ := by
  unfold F_RD_of_26 at h
  refine A_iconst X dX11_of_26 (z := (-1)) (by decide) ?_
  exact w_X11_of_27 (a1 := a1) X E (-1) σ h
set_option maxRecDepth 100000 in
set_option maxHeartbeats 4000000 in
theorem m_X11_of {l : Launch} {g : aG} {a1 : Int} {σ : Hp} {r : Int × Hp} (h : F_RD_of a1 σ = some r) : aMet l g shC yX11_of wsX11_of rm_X11_of [vR 0, vI a1] σ 0 r := by
  unfold F_RD_of at h
  refine aMet_of (bytes := cX11_of) (maxL := 2) (ret := (some .int)) (by decide +kernel) rfl (Nat.le_of_ble_eq_true rfl) ⟨rfl, rfl⟩ (fun x e1 e2 X E => ?_)
  subst e1; subst e2
  have X : aX x cX11_of wsX11_of RX11 2 rm_X11_of := X
  show aS x shC 2 0 [(0, vR 0), (1, vI a1)] [] σ
  refine A_iload_n X 1 rfl rfl dX11_of_0 ?_
  refine A_if_lt X (tgt := 26) (by decide) dX11_of_1 (fun c1 => ?_) (fun c1 => ?_)
  · replace h := ifT h c1
    refine A_sub [] rfl (L' := []) rfl ?_
    exact w_X11_of_26 (a1 := a1) X E σ h
  · replace h := ifF h c1
    refine A_iload_n X 1 rfl rfl dX11_of_4 ?_
    refine A_aload_n X 0 rfl rfl dX11_of_5 ?_
    refine A_getV X fg_X11_of_37 shC_0 (k := 3) rfl (by decide) dX11_of_6 ?_
    obtain ⟨q2, hy⟩ : ∃ y, y = (σ 0 3).toNat := ⟨_, rfl⟩
    replace h := ltD h q2 hy
    rw [← hy]
    clear hy
    obtain ⟨g3, h⟩ := gdD h
    obtain ⟨v4, s5, e6, h⟩ := clD h
    refine A_callV_I (na := 0) X (m_X6_everybody e6) gX11_of_X6_everybody rfl ⟨rfl, rfl⟩ (by decide +kernel) rfl ⟨Nat.le_of_ble_eq_true rfl, Nat.le_of_ble_eq_true rfl⟩ (shNet g3) (by decide) rfl rfl (Nat.le_of_ble_eq_true rfl) dX11_of_9 ?_
    refine A_icmp_gt X (tgt := 26) (by decide) dX11_of_12 (fun c7 => ?_) (fun c7 => ?_)
    · replace h := ifT h c7
      refine A_sub [] rfl (L' := []) rfl ?_
      exact w_X11_of_26 (a1 := a1) X E s5 h
    · replace h := ifF h c7
      refine A_aload_n X 0 rfl rfl dX11_of_15 ?_
      obtain ⟨v8, s9, e10, h⟩ := clD h
      refine A_callV_R (na := 0) X (m_X11_planNow e10) gX11_of_X11_planNow rfl ⟨rfl, rfl⟩ (by decide +kernel) rfl ⟨Nat.le_of_ble_eq_true rfl, Nat.le_of_ble_eq_true rfl⟩ shC_0 (by decide) rfl rfl (Nat.le_of_ble_eq_true rfl) dX11_of_16 ?_
      obtain ⟨g11, h⟩ := gdD h
      rw [g11]
      refine A_iload_n X 1 rfl rfl dX11_of_19 ?_
      obtain ⟨v12, s13, e14, h⟩ := clD h
      refine A_callV_I (na := 1) X (m_X7_mostOf e14) gX11_of_X7_mostOf rfl ⟨rfl, rfl⟩ (by decide +kernel) rfl ⟨Nat.le_of_ble_eq_true rfl, Nat.le_of_ble_eq_true rfl⟩ shC_112 (by decide) rfl rfl (Nat.le_of_ble_eq_true rfl) dX11_of_20 ?_
      refine A_goto X (tgt := 27) (by decide) dX11_of_23 ?_
      refine A_sub [] rfl (L' := []) rfl ?_
      exact w_X11_of_27 (a1 := a1) X E v12 s13 h
abbrev rm_X11_on : Room := { frames := 7, cells := 0, slots := 0, locals := 161 }
theorem in_X11_on_11 : ∀ w ∈ u_ws RX11 TX11 17, w ∈ wsX11_on := fun w h => List.mem_cons_of_mem _ (List.mem_append_left _ (List.mem_append_left _ (List.mem_append_left _ (List.mem_append_left _ (List.mem_append_left _ (List.mem_append_left _ (List.mem_append_right _ h)))))))
theorem fg_X11_on_85 : aFl wsX11_on RX11 85 11 10 := ⟨RX11, TX11, 17, rfl, in_X11_on_11, by decide, (List.mem_of_getElem? (i := 1) rfl), rfl⟩
theorem fg_X11_on_14 : aFl wsX11_on RX11 14 11 0 := ⟨RX11, TX11, 17, rfl, in_X11_on_11, by decide, (List.mem_of_getElem? (i := 2) rfl), rfl⟩
theorem fg_X11_on_37 : aFl wsX11_on RX11 37 11 3 := ⟨RX11, TX11, 17, rfl, in_X11_on_11, by decide, (List.mem_of_getElem? (i := 3) rfl), rfl⟩
theorem in_X11_on_4 : ∀ w ∈ u_ws RX4 TX4 4, w ∈ wsX11_on := fun w h => List.mem_cons_of_mem _ (List.mem_append_left _ (List.mem_append_left _ (List.mem_append_left _ (List.mem_append_left _ (List.mem_append_left _ (List.mem_append_right _ h))))))
theorem fg_X11_on_325 : aFl wsX11_on RX11 325 4 3 := ⟨RX4, TX4, 4, rfl, in_X11_on_4, by decide, (List.mem_of_getElem? (i := 4) rfl), rfl⟩
theorem fp_X11_on_160 : aFp wsX11_on RX11 160 11 11 .int := ⟨RX11, TX11, 17, tyX11, rfl, in_X11_on_11, by decide, (List.mem_of_getElem? (i := 5) rfl), rfl, tyX11_ok, nmX11, rfl, rfl⟩
theorem fg_X11_on_78 : aFl wsX11_on RX11 78 11 9 := ⟨RX11, TX11, 17, rfl, in_X11_on_11, by decide, (List.mem_of_getElem? (i := 6) rfl), rfl⟩
theorem fg_X11_on_328 : aFl wsX11_on RX11 328 4 1 := ⟨RX4, TX4, 4, rfl, in_X11_on_4, by decide, (List.mem_of_getElem? (i := 7) rfl), rfl⟩
theorem fg_X11_on_331 : aFl wsX11_on RX11 331 4 2 := ⟨RX4, TX4, 4, rfl, in_X11_on_4, by decide, (List.mem_of_getElem? (i := 8) rfl), rfl⟩
set_option maxRecDepth 100000 in
set_option maxHeartbeats 4000000 in
theorem m_X11_on {l : Launch} {g : aG} {σ : Hp} {r : Int × Hp} (h : F_RD_on σ = some r) : aMet l g shC yX11_on wsX11_on rm_X11_on [vR 0] σ 0 r := by
  unfold F_RD_on at h
  refine aMet_of (bytes := cX11_on) (maxL := 2) (ret := (some .boolean)) (by decide +kernel) rfl (Nat.le_of_ble_eq_true rfl) ⟨rfl, rfl⟩ (fun x e1 e2 X E => ?_)
  subst e1; subst e2
  have X : aX x cX11_on wsX11_on RX11 2 rm_X11_on := X
  show aS x shC 2 0 [(0, vR 0)] [] σ
  refine A_aload_n X 0 rfl rfl dX11_on_0 ?_
  refine A_getA X fg_X11_on_85 shC_0 (k := 10) rfl (by decide) dX11_on_1 ?_
  refine A_aload_n X 0 rfl rfl dX11_on_4 ?_
  refine A_getA X fg_X11_on_14 shC_0 (k := 0) rfl (by decide) dX11_on_5 ?_
  refine A_aload_n X 0 rfl rfl dX11_on_8 ?_
  refine A_getV X fg_X11_on_37 shC_0 (k := 3) rfl (by decide) dX11_on_9 ?_
  obtain ⟨q1, hy⟩ : ∃ y, y = (σ 0 3).toNat := ⟨_, rfl⟩
  replace h := ltD h q1 hy
  rw [← hy]
  clear hy
  obtain ⟨g2, h⟩ := gdD h
  obtain ⟨v3, s4, e5, h⟩ := clD h
  refine A_callV_I (na := 2) X (m_X4_read e5) gX11_on_X4_read rfl ⟨rfl, rfl⟩ (by decide +kernel) rfl ⟨Nat.le_of_ble_eq_true rfl, Nat.le_of_ble_eq_true rfl⟩ shC_180 (by decide) rfl rfl (Nat.le_of_ble_eq_true rfl) dX11_on_12 ?_
  refine A_istore_n X (L' := [(1, vI v3), (0, vR 0)]) rfl (by decide) rfl dX11_on_15 ?_
  refine A_aload_n X 1 rfl rfl dX11_on_16 ?_
  refine A_getA X fg_X11_on_14 shC_0 (k := 0) rfl (by decide) dX11_on_17 ?_
  refine A_iconst X dX11_on_20 (z := 0) (by decide) ?_
  obtain ⟨v6, s7, e8, h⟩ := clD h
  refine A_callV_I (na := 1) X (m_X2_cut e8) gX11_on_X2_cut rfl ⟨rfl, rfl⟩ (by decide +kernel) rfl ⟨Nat.le_of_ble_eq_true rfl, Nat.le_of_ble_eq_true rfl⟩ shC_1 (by decide) rfl rfl (Nat.le_of_ble_eq_true rfl) dX11_on_21 ?_
  refine A_pop X (by show ¬ (0 : Nat) = 1; decide) dX11_on_24 ?_
  refine A_iload_n X 0 rfl rfl dX11_on_25 ?_
  refine A_if_ne X (tgt := 31) (by decide) dX11_on_26 (fun c9 => ?_) (fun c9 => ?_)
  · replace h := ifF h c9
    refine A_aload_n X 1 rfl rfl dX11_on_31 ?_
    refine A_aload_n X 1 rfl rfl dX11_on_32 ?_
    refine A_getA X fg_X11_on_85 shC_0 (k := 10) rfl (by decide) dX11_on_33 ?_
    refine A_getI X fg_X11_on_325 shC_180 (k := 3) rfl (by decide) dX11_on_36 ?_
    refine A_putI X fp_X11_on_160 shC_0 (k := 11) rfl (by decide) dX11_on_39 (fun s10 hy => ?_)
    replace h := ltD h s10 hy
    clear hy
    refine A_aload_n X 1 rfl rfl dX11_on_42 ?_
    refine A_getA X fg_X11_on_78 shC_0 (k := 9) rfl (by decide) dX11_on_43 ?_
    refine A_aload_n X 1 rfl rfl dX11_on_46 ?_
    refine A_getA X fg_X11_on_85 shC_0 (k := 10) rfl (by decide) dX11_on_47 ?_
    refine A_getR X fg_X11_on_328 shC_180 (k := 1) rfl (by decide) dX11_on_50 ?_
    refine A_aload_n X 1 rfl rfl dX11_on_53 ?_
    refine A_getA X fg_X11_on_85 shC_0 (k := 10) rfl (by decide) dX11_on_54 ?_
    refine A_getR X fg_X11_on_331 shC_180 (k := 2) rfl (by decide) dX11_on_57 ?_
    obtain ⟨v11, s12, e13, h⟩ := clD h
    refine A_callV_V (na := 2) X (m_X3_become e13) gX11_on_X3_become rfl ⟨rfl, rfl⟩ (by decide +kernel) rfl ⟨Nat.le_of_ble_eq_true rfl, Nat.le_of_ble_eq_true rfl⟩ shC_173 (by decide) rfl rfl (Nat.le_of_ble_eq_true rfl) dX11_on_60 ?_
    refine A_aload_n X 1 rfl rfl dX11_on_63 ?_
    obtain ⟨v14, s15, e16, h⟩ := clD h
    refine A_callV_V (na := 0) X (m_X11_lookAgain e16) gX11_on_X11_lookAgain rfl ⟨rfl, rfl⟩ (by decide +kernel) rfl ⟨Nat.le_of_ble_eq_true rfl, Nat.le_of_ble_eq_true rfl⟩ shC_0 (by decide) rfl rfl (Nat.le_of_ble_eq_true rfl) dX11_on_64 ?_
    refine A_iconst X dX11_on_67 (z := 1) (by decide) ?_
    exact A_zreturn X (Or.inr rfl) E h dX11_on_68
  · replace h := ifT h c9
    refine A_iconst X dX11_on_29 (z := 0) (by decide) ?_
    exact A_zreturn X (Or.inl rfl) E h dX11_on_30
abbrev rm_X11_other : Room := { frames := 3, cells := 0, slots := 0, locals := 63 }
set_option maxRecDepth 100000 in
set_option maxHeartbeats 4000000 in
theorem w_X11_other_34 {x : aC} {r : Int × Hp} {a1 : Int} {a2 : Int} (X : aX x cX11_other wsX11_other RX11 3 rm_X11_other) (E : aE x shC (some .int) 0 r) (t1 : Int) (σ : Hp) (h : F_RD_other_34 a1 a2 t1 σ = some r) : aS x shC 3 34 [] [vI t1] σ := by
  unfold F_RD_other_34 at h
  exact A_ireturn X E h dX11_other_34
set_option maxRecDepth 100000 in
set_option maxHeartbeats 4000000 in
theorem m_X11_other {l : Launch} {g : aG} {a1 : Int} {a2 : Int} {σ : Hp} {r : Int × Hp} (h : F_RD_other a1 a2 σ = some r) : aMet l g shC yX11_other wsX11_other rm_X11_other [vR 0, vI a1, vI a2] σ 0 r := by
  unfold F_RD_other at h
  refine aMet_of (bytes := cX11_other) (maxL := 3) (ret := (some .int)) (by decide +kernel) rfl (Nat.le_of_ble_eq_true rfl) ⟨rfl, rfl⟩ (fun x e1 e2 X E => ?_)
  subst e1; subst e2
  have X : aX x cX11_other wsX11_other RX11 3 rm_X11_other := X
  show aS x shC 3 0 [(0, vR 0), (1, vI a1), (2, vI a2)] [] σ
  refine A_aload_n X 0 rfl rfl dX11_other_0 ?_
  refine A_iload_n X 1 rfl rfl dX11_other_1 ?_
  obtain ⟨v1, s2, e3, h⟩ := clD h
  refine A_callV_I (na := 1) X (m_X11_isSomebody e3) gX11_other_X11_isSomebody rfl ⟨rfl, rfl⟩ (by decide +kernel) rfl ⟨Nat.le_of_ble_eq_true rfl, Nat.le_of_ble_eq_true rfl⟩ shC_0 (by decide) rfl rfl (Nat.le_of_ble_eq_true rfl) dX11_other_2 ?_
  refine A_if_ne X (tgt := 11) (by decide) dX11_other_5 (fun c4 => ?_) (fun c4 => ?_)
  · replace h := ifF h c4
    refine A_iload_n X 2 rfl rfl dX11_other_11 ?_
    refine A_if_eq X (tgt := 26) (by decide) dX11_other_12 (fun c5 => ?_) (fun c5 => ?_)
    · replace h := ifT h c5
      refine A_aload_n X 0 rfl rfl dX11_other_26 ?_
      obtain ⟨v6, s7, e8, h⟩ := clD h
      refine A_callV_R (na := 0) X (m_X11_dealsNow e8) gX11_other_X11_dealsNow rfl ⟨rfl, rfl⟩ (by decide +kernel) rfl ⟨Nat.le_of_ble_eq_true rfl, Nat.le_of_ble_eq_true rfl⟩ shC_0 (by decide) rfl rfl (Nat.le_of_ble_eq_true rfl) dX11_other_27 ?_
      obtain ⟨g9, h⟩ := gdD h
      rw [g9]
      refine A_iload_n X 1 rfl rfl dX11_other_30 ?_
      obtain ⟨v10, s11, e12, h⟩ := clD h
      refine A_callV_I (na := 1) X (m_X3_elseOf e12) gX11_other_X3_elseOf rfl ⟨rfl, rfl⟩ (by decide +kernel) rfl ⟨Nat.le_of_ble_eq_true rfl, Nat.le_of_ble_eq_true rfl⟩ shC_173 (by decide) rfl rfl (Nat.le_of_ble_eq_true rfl) dX11_other_31 ?_
      refine A_sub [] rfl (L' := []) rfl ?_
      exact w_X11_other_34 (a1 := a1) (a2 := a2) X E v10 s11 h
    · replace h := ifF h c5
      refine A_aload_n X 0 rfl rfl dX11_other_15 ?_
      obtain ⟨v13, s14, e15, h⟩ := clD h
      refine A_callV_R (na := 0) X (m_X11_dealsNow e15) gX11_other_X11_dealsNow rfl ⟨rfl, rfl⟩ (by decide +kernel) rfl ⟨Nat.le_of_ble_eq_true rfl, Nat.le_of_ble_eq_true rfl⟩ shC_0 (by decide) rfl rfl (Nat.le_of_ble_eq_true rfl) dX11_other_16 ?_
      obtain ⟨g16, h⟩ := gdD h
      rw [g16]
      refine A_iload_n X 1 rfl rfl dX11_other_19 ?_
      obtain ⟨v17, s18, e19, h⟩ := clD h
      refine A_callV_I (na := 1) X (m_X3_turnsTo e19) gX11_other_X3_turnsTo rfl ⟨rfl, rfl⟩ (by decide +kernel) rfl ⟨Nat.le_of_ble_eq_true rfl, Nat.le_of_ble_eq_true rfl⟩ shC_173 (by decide) rfl rfl (Nat.le_of_ble_eq_true rfl) dX11_other_20 ?_
      refine A_goto X (tgt := 34) (by decide) dX11_other_23 ?_
      refine A_sub [] rfl (L' := []) rfl ?_
      exact w_X11_other_34 (a1 := a1) (a2 := a2) X E v17 s18 h
  · replace h := ifT h c4
    refine A_ldc X (v := (-2000000000)) (List.mem_of_getElem? (i := 1) rfl) dX11_other_8 (z := (-2000000000)) (by decide) ?_
    exact A_ireturn X E h dX11_other_10
abbrev rm_X11_pays : Room := { frames := 6, cells := 0, slots := 0, locals := 140 }
theorem in_X11_pays_11 : ∀ w ∈ u_ws RX11 TX11 17, w ∈ wsX11_pays := fun w h => List.mem_cons_of_mem _ (List.mem_append_left _ (List.mem_append_left _ (List.mem_append_left _ (List.mem_append_left _ (List.mem_append_left _ (List.mem_append_right _ h))))))
theorem fg_X11_pays_37 : aFl wsX11_pays RX11 37 11 3 := ⟨RX11, TX11, 17, rfl, in_X11_pays_11, by decide, (List.mem_of_getElem? (i := 2) rfl), rfl⟩
theorem in_X11_pays_6 : ∀ w ∈ u_ws RX6 TX6 20, w ∈ wsX11_pays := fun w h => List.mem_cons_of_mem _ (List.mem_append_left _ (List.mem_append_left _ (List.mem_append_left _ (List.mem_append_left _ (List.mem_append_right _ h)))))
theorem fg_X11_pays_144 : aFl wsX11_pays RX11 144 6 15 := ⟨RX6, TX6, 20, rfl, in_X11_pays_6, by decide, (List.mem_of_getElem? (i := 3) rfl), rfl⟩
theorem fg_X11_pays_66 : aFl wsX11_pays RX11 66 11 7 := ⟨RX11, TX11, 17, rfl, in_X11_pays_11, by decide, (List.mem_of_getElem? (i := 1) rfl), rfl⟩
set_option maxRecDepth 100000 in
set_option maxHeartbeats 4000000 in
theorem w_X11_pays_41 {x : aC} {r : Int × Hp} {a1 : Int} (X : aX x cX11_pays wsX11_pays RX11 5 rm_X11_pays) (E : aE x shC (some .int) 0 r) (σ : Hp) (h : F_RD_pays_41 a1 σ = some r) : aS x shC 5 41 [] [] σ := by
  unfold F_RD_pays_41 at h
  refine A_iconst X dX11_pays_41 (z := 0) (by decide) ?_
  exact A_ireturn X E h dX11_pays_42
set_option maxRecDepth 100000 in
set_option maxHeartbeats 4000000 in
theorem w_X11_pays_87 {x : aC} {r : Int × Hp} {k48 : Int × Int × Hp → Option (Int × Hp)} {a1 : Int} (X : aX x cX11_pays wsX11_pays RX11 5 rm_X11_pays) (E : aE x shC (some .int) 0 r) (hk48 : ∀ (x3 : Int) (x4 : Int) (σ : Hp), k48 (x3, x4, σ) = some r → aS x shC 5 48 [(0, vR 0), (2, vR 112), (3, vI x3), (4, vI x4)] [] σ) (x3 : Int) (x4 : Int) (σ : Hp) (h : F_RD_pays_87 k48 a1 x3 x4 σ = some r) : aS x shC 5 87 [(0, vR 0), (2, vR 112), (3, vI x3), (4, vI x4)] [] σ := by
  unfold F_RD_pays_87 at h
  refine A_iinc X (L' := fun y4_1 => [(4, vI y4_1), (0, vR 0), (2, vR 112), (3, vI x3)]) 3 rfl (by decide) (fun _ => rfl) dX11_pays_87 (by decide) (fun y4_1 hy => ?_)
  replace h := ltD h y4_1 hy
  clear hy
  refine A_goto X (tgt := 48) (by decide) dX11_pays_90 ?_
  refine A_sub [1, 2, 3, 0] rfl (L' := [(0, vR 0), (2, vR 112), (3, vI x3), (4, vI y4_1)]) rfl ?_
  exact hk48 x3 y4_1 σ h
set_option maxRecDepth 100000 in
set_option maxHeartbeats 4000000 in
theorem w_X11_pays_48_b {x : aC} {r : Int × Hp} {k48 : Int × Int × Hp → Option (Int × Hp)} {a1 : Int} (X : aX x cX11_pays wsX11_pays RX11 5 rm_X11_pays) (E : aE x shC (some .int) 0 r) (hk48 : ∀ (x3 : Int) (x4 : Int) (σ : Hp), k48 (x3, x4, σ) = some r → aS x shC 5 48 [(0, vR 0), (2, vR 112), (3, vI x3), (4, vI x4)] [] σ) (x3 : Int) (x4 : Int) (σ : Hp) (h : F_RD_pays_48_b k48 a1 x3 x4 σ = some r) : aS x shC 5 48 [(0, vR 0), (2, vR 112), (3, vI x3), (4, vI x4)] [] σ := by
  unfold F_RD_pays_48_b at h
  refine A_iload X 3 rfl dX11_pays_48 ?_
  refine A_aload_n X 0 rfl rfl dX11_pays_50 ?_
  refine A_getV X fg_X11_pays_37 shC_0 (k := 3) rfl (by decide) dX11_pays_51 ?_
  obtain ⟨q2, hy⟩ : ∃ y, y = (σ 0 3).toNat := ⟨_, rfl⟩
  replace h := ltD h q2 hy
  rw [← hy]
  clear hy
  obtain ⟨g3, h⟩ := gdD h
  refine A_getI X fg_X11_pays_144 (shNet g3) (k := 15) rfl (by decide) dX11_pays_54 ?_
  refine A_icmp_ge X (tgt := 93) (by decide) dX11_pays_57 (fun c4 => ?_) (fun c4 => ?_)
  · replace h := ifT h c4
    refine A_iload_n X 2 rfl rfl dX11_pays_93 ?_
    exact A_ireturn X E h dX11_pays_94
  · replace h := ifF h c4
    refine A_aload_n X 0 rfl rfl dX11_pays_60 ?_
    refine A_getA X fg_X11_pays_66 shC_0 (k := 7) rfl (by decide) dX11_pays_61 ?_
    refine A_iload X 3 rfl dX11_pays_64 ?_
    refine A_iconst X dX11_pays_66 (z := 0) (by decide) ?_
    obtain ⟨v5, s6, e7, h⟩ := clD h
    refine A_callV_I (na := 2) X (m_X7_endOf e7) gX11_pays_X7_endOf rfl ⟨rfl, rfl⟩ (by decide +kernel) rfl ⟨Nat.le_of_ble_eq_true rfl, Nat.le_of_ble_eq_true rfl⟩ shC_142 (by decide) rfl rfl (Nat.le_of_ble_eq_true rfl) dX11_pays_67 ?_
    refine A_aload_n X 1 rfl rfl dX11_pays_70 ?_
    refine A_iload X 3 rfl dX11_pays_71 ?_
    refine A_iconst X dX11_pays_73 (z := 0) (by decide) ?_
    obtain ⟨v8, s9, e10, h⟩ := clD h
    refine A_callV_I (na := 2) X (m_X7_endOf e10) gX11_pays_X7_endOf rfl ⟨rfl, rfl⟩ (by decide +kernel) rfl ⟨Nat.le_of_ble_eq_true rfl, Nat.le_of_ble_eq_true rfl⟩ shC_112 (by decide) rfl rfl (Nat.le_of_ble_eq_true rfl) dX11_pays_74 ?_
    refine A_icmp_le X (tgt := 87) (by decide) dX11_pays_77 (fun c11 => ?_) (fun c11 => ?_)
    · replace h := ifT h c11
      exact w_X11_pays_87 (a1 := a1) X E hk48 x3 x4 s9 h
    · replace h := ifF h c11
      refine A_iload_n X 2 rfl rfl dX11_pays_80 ?_
      refine A_iconst X dX11_pays_81 (z := 1) (by decide) ?_
      refine A_iload X 3 rfl dX11_pays_82 ?_
      refine A_ishl X dX11_pays_84 ?_
      refine A_ior X dX11_pays_85 ?_
      refine A_istore_nN X (L' := fun y3_12 => [(3, vI y3_12), (0, vR 0), (2, vR 112), (4, vI x4)]) rfl (by decide) (fun _ => rfl) dX11_pays_86 (fun y3_12 hy => ?_)
      replace h := ltD h y3_12 hy
      clear hy
      refine A_sub [1, 2, 0, 3] rfl (L' := [(0, vR 0), (2, vR 112), (3, vI y3_12), (4, vI x4)]) rfl ?_
      exact w_X11_pays_87 (a1 := a1) X E hk48 y3_12 x4 s9 h
set_option maxRecDepth 100000 in
set_option maxHeartbeats 4000000 in
theorem w_X11_pays_48 {x : aC} {r : Int × Hp} {a1 : Int} (X : aX x cX11_pays wsX11_pays RX11 5 rm_X11_pays) (E : aE x shC (some .int) 0 r) : ∀ (n : Nat) (x3 : Int) (x4 : Int) (σ : Hp) (h : F_RD_pays_48 a1 n (x3, x4, σ) = some r), aS x shC 5 48 [(0, vR 0), (2, vR 112), (3, vI x3), (4, vI x4)] [] σ := by
  intro n
  induction n with
  | zero => intro x3 x4 σ h; cases h
  | succ n ih => intro x3 x4 σ h; exact w_X11_pays_48_b (a1 := a1) (k48 := F_RD_pays_48 a1 n) X E ih x3 x4 σ h
set_option maxRecDepth 100000 in
set_option maxHeartbeats 4000000 in
theorem m_X11_pays {l : Launch} {g : aG} {a1 : Int} {σ : Hp} {r : Int × Hp} (h : F_RD_pays a1 σ = some r) : aMet l g shC yX11_pays wsX11_pays rm_X11_pays [vR 0, vI a1] σ 0 r := by
  unfold F_RD_pays at h
  refine aMet_of (bytes := cX11_pays) (maxL := 5) (ret := (some .int)) (by decide +kernel) rfl (Nat.le_of_ble_eq_true rfl) ⟨rfl, rfl⟩ (fun x e1 e2 X E => ?_)
  subst e1; subst e2
  have X : aX x cX11_pays wsX11_pays RX11 5 rm_X11_pays := X
  show aS x shC 5 0 [(0, vR 0), (1, vI a1)] [] σ
  refine A_aload_n X 0 rfl rfl dX11_pays_0 ?_
  refine A_iload_n X 1 rfl rfl dX11_pays_1 ?_
  obtain ⟨v13, s14, e15, h⟩ := clD h
  refine A_callV_I (na := 1) X (m_X11_isRoad e15) gX11_pays_X11_isRoad rfl ⟨rfl, rfl⟩ (by decide +kernel) rfl ⟨Nat.le_of_ble_eq_true rfl, Nat.le_of_ble_eq_true rfl⟩ shC_0 (by decide) rfl rfl (Nat.le_of_ble_eq_true rfl) dX11_pays_2 ?_
  refine A_if_ne X (tgt := 10) (by decide) dX11_pays_5 (fun c16 => ?_) (fun c16 => ?_)
  · replace h := ifF h c16
    refine A_aload_n X 0 rfl rfl dX11_pays_10 ?_
    obtain ⟨v17, s18, e19, h⟩ := clD h
    refine A_callV_R (na := 0) X (m_X11_planNow e19) gX11_pays_X11_planNow rfl ⟨rfl, rfl⟩ (by decide +kernel) rfl ⟨Nat.le_of_ble_eq_true rfl, Nat.le_of_ble_eq_true rfl⟩ shC_0 (by decide) rfl rfl (Nat.le_of_ble_eq_true rfl) dX11_pays_11 ?_
    obtain ⟨g20, h⟩ := gdD h
    rw [g20]
    refine A_astore_n X (L' := [(2, vR 112), (0, vR 0), (1, vI a1)]) rfl (by decide) rfl dX11_pays_14 ?_
    refine A_aload_n X 1 rfl rfl dX11_pays_15 ?_
    refine A_getA X fg_X11_pays_66 shC_0 (k := 7) rfl (by decide) dX11_pays_16 ?_
    refine A_iload_n X 2 rfl rfl dX11_pays_19 ?_
    refine A_iconst X dX11_pays_20 (z := (-1)) (by decide) ?_
    obtain ⟨v21, s22, e23, h⟩ := clD h
    refine A_callV_V (na := 2) X (m_X7_take e23) gX11_pays_X7_take rfl ⟨rfl, rfl⟩ (by decide +kernel) rfl ⟨Nat.le_of_ble_eq_true rfl, Nat.le_of_ble_eq_true rfl⟩ shC_142 (by decide) rfl rfl (Nat.le_of_ble_eq_true rfl) dX11_pays_21 ?_
    refine A_aload_n X 0 rfl rfl dX11_pays_24 ?_
    obtain ⟨v24, s25, e26, h⟩ := clD h
    refine A_callV_I (na := 0) X (m_X7_hasEnds e26) gX11_pays_X7_hasEnds rfl ⟨rfl, rfl⟩ (by decide +kernel) rfl ⟨Nat.le_of_ble_eq_true rfl, Nat.le_of_ble_eq_true rfl⟩ shC_112 (by decide) rfl rfl (Nat.le_of_ble_eq_true rfl) dX11_pays_25 ?_
    refine A_if_eq X (tgt := 41) (by decide) dX11_pays_28 (fun c27 => ?_) (fun c27 => ?_)
    · replace h := ifT h c27
      refine A_sub [] rfl (L' := []) rfl ?_
      exact w_X11_pays_41 (a1 := a1) X E s25 h
    · replace h := ifF h c27
      refine A_aload_n X 1 rfl rfl dX11_pays_31 ?_
      refine A_getA X fg_X11_pays_66 shC_0 (k := 7) rfl (by decide) dX11_pays_32 ?_
      obtain ⟨v28, s29, e30, h⟩ := clD h
      refine A_callV_I (na := 0) X (m_X7_hasEnds e30) gX11_pays_X7_hasEnds rfl ⟨rfl, rfl⟩ (by decide +kernel) rfl ⟨Nat.le_of_ble_eq_true rfl, Nat.le_of_ble_eq_true rfl⟩ shC_142 (by decide) rfl rfl (Nat.le_of_ble_eq_true rfl) dX11_pays_35 ?_
      refine A_if_ne X (tgt := 43) (by decide) dX11_pays_38 (fun c31 => ?_) (fun c31 => ?_)
      · replace h := ifF h c31
        refine A_iconst X dX11_pays_43 (z := 0) (by decide) ?_
        refine A_istore_n X (L' := [(3, vI 0), (2, vR 112), (0, vR 0), (1, vI a1)]) rfl (by decide) rfl dX11_pays_44 ?_
        refine A_iconst X dX11_pays_45 (z := 0) (by decide) ?_
        refine A_istore X (L' := [(4, vI 0), (3, vI 0), (2, vR 112), (0, vR 0), (1, vI a1)]) (by decide) rfl dX11_pays_46 ?_
        refine A_sub [3, 2, 1, 0] rfl (L' := [(0, vR 0), (2, vR 112), (3, vI 0), (4, vI 0)]) rfl ?_
        exact w_X11_pays_48 (a1 := a1) X E FU 0 0 s29 h
      · replace h := ifT h c31
        refine A_sub [] rfl (L' := []) rfl ?_
        exact w_X11_pays_41 (a1 := a1) X E s29 h
  · replace h := ifT h c16
    refine A_iconst X dX11_pays_8 (z := (-1)) (by decide) ?_
    exact A_ireturn X E h dX11_pays_9
abbrev rm_X11_price : Room := { frames := 3, cells := 0, slots := 0, locals := 120 }
theorem in_X11_price_11 : ∀ w ∈ u_ws RX11 TX11 17, w ∈ wsX11_price := fun w h => List.mem_cons_of_mem _ (List.mem_append_left _ (List.mem_append_left _ (List.mem_append_left _ (List.mem_append_right _ h))))
theorem fg_X11_price_66 : aFl wsX11_price RX11 66 11 7 := ⟨RX11, TX11, 17, rfl, in_X11_price_11, by decide, (List.mem_of_getElem? (i := 1) rfl), rfl⟩
theorem fg_X11_price_37 : aFl wsX11_price RX11 37 11 3 := ⟨RX11, TX11, 17, rfl, in_X11_price_11, by decide, (List.mem_of_getElem? (i := 2) rfl), rfl⟩
set_option maxRecDepth 100000 in
set_option maxHeartbeats 4000000 in
theorem m_X11_price {l : Launch} {g : aG} {a1 : Int} {σ : Hp} {r : Int × Hp} (h : F_RD_price a1 σ = some r) : aMet l g shC yX11_price wsX11_price rm_X11_price [vR 0, vI a1] σ 0 r := by
  unfold F_RD_price at h
  refine aMet_of (bytes := cX11_price) (maxL := 5) (ret := (some .int)) (by decide +kernel) rfl (Nat.le_of_ble_eq_true rfl) ⟨rfl, rfl⟩ (fun x e1 e2 X E => ?_)
  subst e1; subst e2
  have X : aX x cX11_price wsX11_price RX11 5 rm_X11_price := X
  show aS x shC 5 0 [(0, vR 0), (1, vI a1)] [] σ
  refine A_aload_n X 0 rfl rfl dX11_price_0 ?_
  refine A_iload_n X 1 rfl rfl dX11_price_1 ?_
  obtain ⟨v1, s2, e3, h⟩ := clD h
  refine A_callV_I (na := 1) X (m_X11_isRoad e3) gX11_price_X11_isRoad rfl ⟨rfl, rfl⟩ (by decide +kernel) rfl ⟨Nat.le_of_ble_eq_true rfl, Nat.le_of_ble_eq_true rfl⟩ shC_0 (by decide) rfl rfl (Nat.le_of_ble_eq_true rfl) dX11_price_2 ?_
  refine A_if_ne X (tgt := 10) (by decide) dX11_price_5 (fun c4 => ?_) (fun c4 => ?_)
  · replace h := ifF h c4
    refine A_aload_n X 0 rfl rfl dX11_price_10 ?_
    refine A_getA X fg_X11_price_66 shC_0 (k := 7) rfl (by decide) dX11_price_11 ?_
    refine A_iload_n X 1 rfl rfl dX11_price_14 ?_
    refine A_iconst X dX11_price_15 (z := (-1)) (by decide) ?_
    obtain ⟨v5, s6, e7, h⟩ := clD h
    refine A_callV_V (na := 2) X (m_X7_take e7) gX11_price_X7_take rfl ⟨rfl, rfl⟩ (by decide +kernel) rfl ⟨Nat.le_of_ble_eq_true rfl, Nat.le_of_ble_eq_true rfl⟩ shC_142 (by decide) rfl rfl (Nat.le_of_ble_eq_true rfl) dX11_price_16 ?_
    refine A_aload_n X 0 rfl rfl dX11_price_19 ?_
    refine A_getV X fg_X11_price_37 shC_0 (k := 3) rfl (by decide) dX11_price_20 ?_
    obtain ⟨q8, hy⟩ : ∃ y, y = (s6 0 3).toNat := ⟨_, rfl⟩
    replace h := ltD h q8 hy
    rw [← hy]
    clear hy
    obtain ⟨g9, h⟩ := gdD h
    obtain ⟨v10, s11, e12, h⟩ := clD h
    refine A_callV_I (na := 0) X (m_X6_everybody e12) gX11_price_X6_everybody rfl ⟨rfl, rfl⟩ (by decide +kernel) rfl ⟨Nat.le_of_ble_eq_true rfl, Nat.le_of_ble_eq_true rfl⟩ (shNet g9) (by decide) rfl rfl (Nat.le_of_ble_eq_true rfl) dX11_price_23 ?_
    refine A_istore_n X (L' := [(2, vI v10), (0, vR 0), (1, vI a1)]) rfl (by decide) rfl dX11_price_26 ?_
    refine A_iload_n X 0 rfl rfl dX11_price_27 ?_
    refine A_aload_n X 1 rfl rfl dX11_price_28 ?_
    refine A_getV X fg_X11_price_37 shC_0 (k := 3) rfl (by decide) dX11_price_29 ?_
    obtain ⟨q13, hy⟩ : ∃ y, y = (s11 0 3).toNat := ⟨_, rfl⟩
    replace h := ltD h q13 hy
    rw [← hy]
    clear hy
    obtain ⟨g14, h⟩ := gdD h
    refine A_iload_n X 2 rfl rfl dX11_price_32 ?_
    obtain ⟨v15, s16, e17, h⟩ := clD h
    refine A_callV_I (na := 1) X (m_X6_pairOf e17) gX11_price_X6_pairOf rfl ⟨rfl, rfl⟩ (by decide +kernel) rfl ⟨Nat.le_of_ble_eq_true rfl, Nat.le_of_ble_eq_true rfl⟩ (shNet g14) (by decide) rfl rfl (Nat.le_of_ble_eq_true rfl) dX11_price_33 ?_
    refine A_iconst X dX11_price_36 (z := (-1)) (by decide) ?_
    refine A_ixor X dX11_price_37 ?_
    refine A_iand X dX11_price_38 ?_
    refine A_istore_nN X (L' := fun y3_18 => [(3, vI y3_18), (2, vI v10), (0, vR 0), (1, vI a1)]) rfl (by decide) (fun _ => rfl) dX11_price_39 (fun y3_18 hy => ?_)
    replace h := ltD h y3_18 hy
    clear hy
    refine A_aload_n X 2 rfl rfl dX11_price_40 ?_
    refine A_getA X fg_X11_price_66 shC_0 (k := 7) rfl (by decide) dX11_price_41 ?_
    refine A_iload_n X 1 rfl rfl dX11_price_44 ?_
    obtain ⟨v19, s20, e21, h⟩ := clD h
    refine A_callV_I (na := 1) X (m_X7_mostOf e21) gX11_price_X7_mostOf rfl ⟨rfl, rfl⟩ (by decide +kernel) rfl ⟨Nat.le_of_ble_eq_true rfl, Nat.le_of_ble_eq_true rfl⟩ shC_142 (by decide) rfl rfl (Nat.le_of_ble_eq_true rfl) dX11_price_45 ?_
    refine A_aload_n X 2 rfl rfl dX11_price_48 ?_
    refine A_getA X fg_X11_price_66 shC_0 (k := 7) rfl (by decide) dX11_price_49 ?_
    refine A_iload_n X 0 rfl rfl dX11_price_52 ?_
    obtain ⟨v22, s23, e24, h⟩ := clD h
    refine A_callV_I (na := 1) X (m_X7_mostOf e24) gX11_price_X7_mostOf rfl ⟨rfl, rfl⟩ (by decide +kernel) rfl ⟨Nat.le_of_ble_eq_true rfl, Nat.le_of_ble_eq_true rfl⟩ shC_142 (by decide) rfl rfl (Nat.le_of_ble_eq_true rfl) dX11_price_53 ?_
    refine A_isub X dX11_price_56 ?_
    refine A_istoreN X (L' := fun y4_25 => [(4, vI y4_25), (3, vI y3_18), (2, vI v10), (0, vR 0), (1, vI a1)]) (by decide) (fun _ => rfl) dX11_price_57 (fun y4_25 hy => ?_)
    replace h := ltD h y4_25 hy
    clear hy
    refine A_iconst X dX11_price_59 (z := 0) (by decide) ?_
    refine A_iload X 0 rfl dX11_price_60 ?_
    refine A_aload_n X 3 rfl rfl dX11_price_62 ?_
    refine A_getV X fg_X11_price_37 shC_0 (k := 3) rfl (by decide) dX11_price_63 ?_
    obtain ⟨q26, hy⟩ : ∃ y, y = (s23 0 3).toNat := ⟨_, rfl⟩
    replace h := ltD h q26 hy
    rw [← hy]
    clear hy
    obtain ⟨g27, h⟩ := gdD h
    refine A_iload_n X 4 rfl rfl dX11_price_66 ?_
    refine A_iconst X dX11_price_67 (z := 0) (by decide) ?_
    obtain ⟨v28, s29, e30, h⟩ := clD h
    refine A_callV_I (na := 2) X (m_X6_gainWith e30) gX11_price_X6_gainWith rfl ⟨rfl, rfl⟩ (by decide +kernel) rfl ⟨Nat.le_of_ble_eq_true rfl, Nat.le_of_ble_eq_true rfl⟩ (shNet g27) (by decide) rfl rfl (Nat.le_of_ble_eq_true rfl) dX11_price_68 ?_
    refine A_isub X dX11_price_71 ?_
    refine A_mmax X (List.mem_of_getElem? (i := 3) rfl) (List.mem_of_getElem? (i := 4) rfl) (List.mem_of_getElem? (i := 5) rfl) (List.mem_of_getElem? (i := 6) rfl) (Nat.le_of_ble_eq_true rfl) (Nat.le_of_ble_eq_true rfl) dX11_price_72 ?_
    exact A_ireturn X E h dX11_price_75
  · replace h := ifT h c4
    refine A_iconst X dX11_price_8 (z := (-1)) (by decide) ?_
    exact A_ireturn X E h dX11_price_9
abbrev rm_X11_road : Room := { frames := 1, cells := 0, slots := 0, locals := 21 }
theorem in_X11_road_11 : ∀ w ∈ u_ws RX11 TX11 17, w ∈ wsX11_road := fun w h => List.mem_cons_of_mem _ (List.mem_append_left _ (List.mem_append_right _ h))
theorem fg_X11_road_37 : aFl wsX11_road RX11 37 11 3 := ⟨RX11, TX11, 17, rfl, in_X11_road_11, by decide, (List.mem_of_getElem? (i := 1) rfl), rfl⟩
theorem in_X11_road_6 : ∀ w ∈ u_ws RX6 TX6 20, w ∈ wsX11_road := fun w h => List.mem_cons_of_mem _ (List.mem_append_right _ h)
theorem fg_X11_road_176 : aFl wsX11_road RX11 176 6 3 := ⟨RX6, TX6, 20, rfl, in_X11_road_6, by decide, (List.mem_of_getElem? (i := 3) rfl), rfl⟩
theorem fg_X11_road_173 : aFl wsX11_road RX11 173 6 2 := ⟨RX6, TX6, 20, rfl, in_X11_road_6, by decide, (List.mem_of_getElem? (i := 2) rfl), rfl⟩
set_option maxRecDepth 100000 in
set_option maxHeartbeats 4000000 in
theorem w_X11_road_17 {x : aC} {r : Int × Hp} {a1 : Int} {a2 : Int} (X : aX x cX11_road wsX11_road RX11 3 rm_X11_road) (E : aE x shC (some .int) 0 r) (σ : Hp) (h : F_RD_road_17 a1 a2 σ = some r) : aS x shC 3 17 [] [] σ := by
  unfold F_RD_road_17 at h
  refine A_iconst X dX11_road_17 (z := (-1)) (by decide) ?_
  exact A_ireturn X E h dX11_road_18
set_option maxRecDepth 100000 in
set_option maxHeartbeats 4000000 in
theorem w_X11_road_44 {x : aC} {r : Int × Hp} {a1 : Int} {a2 : Int} (X : aX x cX11_road wsX11_road RX11 3 rm_X11_road) (E : aE x shC (some .int) 0 r) (t1 : Int) (σ : Hp) (h : F_RD_road_44 a1 a2 t1 σ = some r) : aS x shC 3 44 [] [vI t1] σ := by
  unfold F_RD_road_44 at h
  exact A_ireturn X E h dX11_road_44
set_option maxRecDepth 100000 in
set_option maxHeartbeats 4000000 in
theorem m_X11_road {l : Launch} {g : aG} {a1 : Int} {a2 : Int} {σ : Hp} {r : Int × Hp} (h : F_RD_road a1 a2 σ = some r) : aMet l g shC yX11_road wsX11_road rm_X11_road [vR 0, vI a1, vI a2] σ 0 r := by
  unfold F_RD_road at h
  refine aMet_of (bytes := cX11_road) (maxL := 3) (ret := (some .int)) (by decide +kernel) rfl (Nat.le_of_ble_eq_true rfl) ⟨rfl, rfl⟩ (fun x e1 e2 X E => ?_)
  subst e1; subst e2
  have X : aX x cX11_road wsX11_road RX11 3 rm_X11_road := X
  show aS x shC 3 0 [(0, vR 0), (1, vI a1), (2, vI a2)] [] σ
  refine A_aload_n X 0 rfl rfl dX11_road_0 ?_
  refine A_iload_n X 1 rfl rfl dX11_road_1 ?_
  obtain ⟨v1, s2, e3, h⟩ := clD h
  refine A_callV_I (na := 1) X (m_X11_isRoad e3) gX11_road_X11_isRoad rfl ⟨rfl, rfl⟩ (by decide +kernel) rfl ⟨Nat.le_of_ble_eq_true rfl, Nat.le_of_ble_eq_true rfl⟩ shC_0 (by decide) rfl rfl (Nat.le_of_ble_eq_true rfl) dX11_road_2 ?_
  refine A_if_eq X (tgt := 17) (by decide) dX11_road_5 (fun c4 => ?_) (fun c4 => ?_)
  · replace h := ifT h c4
    refine A_sub [] rfl (L' := []) rfl ?_
    exact w_X11_road_17 (a1 := a1) (a2 := a2) X E s2 h
  · replace h := ifF h c4
    refine A_iload_n X 2 rfl rfl dX11_road_8 ?_
    refine A_if_lt X (tgt := 17) (by decide) dX11_road_9 (fun c5 => ?_) (fun c5 => ?_)
    · replace h := ifT h c5
      refine A_sub [] rfl (L' := []) rfl ?_
      exact w_X11_road_17 (a1 := a1) (a2 := a2) X E s2 h
    · replace h := ifF h c5
      refine A_iload_n X 2 rfl rfl dX11_road_12 ?_
      refine A_iconst X dX11_road_13 (z := 1) (by decide) ?_
      refine A_icmp_le X (tgt := 19) (by decide) dX11_road_14 (fun c6 => ?_) (fun c6 => ?_)
      · replace h := ifT h c6
        refine A_iload_n X 2 rfl rfl dX11_road_19 ?_
        refine A_if_ne X (tgt := 35) (by decide) dX11_road_20 (fun c7 => ?_) (fun c7 => ?_)
        · replace h := ifF h c7
          refine A_aload_n X 0 rfl rfl dX11_road_35 ?_
          refine A_getV X fg_X11_road_37 shC_0 (k := 3) rfl (by decide) dX11_road_36 ?_
          obtain ⟨q8, hy⟩ : ∃ y, y = (s2 0 3).toNat := ⟨_, rfl⟩
          replace h := ltD h q8 hy
          rw [← hy]
          clear hy
          obtain ⟨g9, h⟩ := gdD h
          refine A_getR X fg_X11_road_176 (shNet g9) (k := 3) rfl (by decide) dX11_road_39 ?_
          refine A_iload_n X 1 rfl rfl dX11_road_42 ?_
          obtain ⟨g10, h⟩ := gdD h
          refine A_iald X g10 (shNet_second g9) dX11_road_43 ?_
          refine A_sub [] rfl (L' := []) rfl ?_
          exact w_X11_road_44 (a1 := a1) (a2 := a2) X E (s2 (q8 + 4) a1.toNat) s2 h
        · replace h := ifT h c7
          refine A_aload_n X 0 rfl rfl dX11_road_23 ?_
          refine A_getV X fg_X11_road_37 shC_0 (k := 3) rfl (by decide) dX11_road_24 ?_
          obtain ⟨q11, hy⟩ : ∃ y, y = (s2 0 3).toNat := ⟨_, rfl⟩
          replace h := ltD h q11 hy
          rw [← hy]
          clear hy
          obtain ⟨g12, h⟩ := gdD h
          refine A_getR X fg_X11_road_173 (shNet g12) (k := 2) rfl (by decide) dX11_road_27 ?_
          refine A_iload_n X 1 rfl rfl dX11_road_30 ?_
          obtain ⟨g13, h⟩ := gdD h
          refine A_iald X g13 (shNet_first g12) dX11_road_31 ?_
          refine A_goto X (tgt := 44) (by decide) dX11_road_32 ?_
          refine A_sub [] rfl (L' := []) rfl ?_
          exact w_X11_road_44 (a1 := a1) (a2 := a2) X E (s2 (q11 + 3) a1.toNat) s2 h
      · replace h := ifF h c6
        refine A_sub [] rfl (L' := []) rfl ?_
        exact w_X11_road_17 (a1 := a1) (a2 := a2) X E s2 h
abbrev rm_X11_row : Room := { frames := 4, cells := 0, slots := 0, locals := 140 }
theorem in_X11_row_7 : ∀ w ∈ u_ws RX7 TX7 11, w ∈ wsX11_row := fun w h => List.mem_cons_of_mem _ (List.mem_append_left _ (List.mem_append_left _ (List.mem_append_left _ (List.mem_append_right _ h))))
theorem fg_X11_row_219 : aFl wsX11_row RX11 219 7 6 := ⟨RX7, TX7, 11, rfl, in_X11_row_7, by decide, (List.mem_of_getElem? (i := 1) rfl), rfl⟩
theorem fg_X11_row_222 : aFl wsX11_row RX11 222 7 5 := ⟨RX7, TX7, 11, rfl, in_X11_row_7, by decide, (List.mem_of_getElem? (i := 2) rfl), rfl⟩
set_option maxRecDepth 100000 in
set_option maxHeartbeats 4000000 in
theorem w_X11_row_27 {x : aC} {r : Int × Hp} {a1 : Int} (X : aX x cX11_row wsX11_row RX11 3 rm_X11_row) (E : aE x shC (some .int) 0 r) (t1 : Int) (σ : Hp) (h : F_RD_row_27 a1 t1 σ = some r) : aS x shC 3 27 [] [vI t1] σ := by
  unfold F_RD_row_27 at h
  exact A_ireturn X E h dX11_row_27
set_option maxRecDepth 100000 in
set_option maxHeartbeats 4000000 in
theorem w_X11_row_26 {x : aC} {r : Int × Hp} {a1 : Int} (X : aX x cX11_row wsX11_row RX11 3 rm_X11_row) (E : aE x shC (some .int) 0 r) (σ : Hp) (h : F_RD_row_26 a1 σ = some r) : aS x shC 3 26 [] [] σ := by
  unfold F_RD_row_26 at h
  refine A_iconst X dX11_row_26 (z := (-1)) (by decide) ?_
  exact w_X11_row_27 (a1 := a1) X E (-1) σ h
set_option maxRecDepth 100000 in
set_option maxHeartbeats 4000000 in
theorem m_X11_row {l : Launch} {g : aG} {a1 : Int} {σ : Hp} {r : Int × Hp} (h : F_RD_row a1 σ = some r) : aMet l g shC yX11_row wsX11_row rm_X11_row [vR 0, vI a1] σ 0 r := by
  unfold F_RD_row at h
  refine aMet_of (bytes := cX11_row) (maxL := 3) (ret := (some .int)) (by decide +kernel) rfl (Nat.le_of_ble_eq_true rfl) ⟨rfl, rfl⟩ (fun x e1 e2 X E => ?_)
  subst e1; subst e2
  have X : aX x cX11_row wsX11_row RX11 3 rm_X11_row := X
  show aS x shC 3 0 [(0, vR 0), (1, vI a1)] [] σ
  refine A_aload_n X 0 rfl rfl dX11_row_0 ?_
  obtain ⟨v1, s2, e3, h⟩ := clD h
  refine A_callV_R (na := 0) X (m_X11_planNow e3) gX11_row_X11_planNow rfl ⟨rfl, rfl⟩ (by decide +kernel) rfl ⟨Nat.le_of_ble_eq_true rfl, Nat.le_of_ble_eq_true rfl⟩ shC_0 (by decide) rfl rfl (Nat.le_of_ble_eq_true rfl) dX11_row_1 ?_
  obtain ⟨g4, h⟩ := gdD h
  rw [g4]
  refine A_astore_n X (L' := [(2, vR 112), (0, vR 0), (1, vI a1)]) rfl (by decide) rfl dX11_row_4 ?_
  refine A_iload_n X 2 rfl rfl dX11_row_5 ?_
  refine A_if_lt X (tgt := 26) (by decide) dX11_row_6 (fun c5 => ?_) (fun c5 => ?_)
  · replace h := ifT h c5
    refine A_sub [] rfl (L' := []) rfl ?_
    exact w_X11_row_26 (a1 := a1) X E s2 h
  · replace h := ifF h c5
    refine A_iload_n X 2 rfl rfl dX11_row_9 ?_
    refine A_aload_n X 0 rfl rfl dX11_row_10 ?_
    refine A_getI X fg_X11_row_219 shC_112 (k := 6) rfl (by decide) dX11_row_11 ?_
    refine A_icmp_ge X (tgt := 26) (by decide) dX11_row_14 (fun c6 => ?_) (fun c6 => ?_)
    · replace h := ifT h c6
      refine A_sub [] rfl (L' := []) rfl ?_
      exact w_X11_row_26 (a1 := a1) X E s2 h
    · replace h := ifF h c6
      refine A_aload_n X 0 rfl rfl dX11_row_17 ?_
      refine A_getR X fg_X11_row_222 shC_112 (k := 5) rfl (by decide) dX11_row_18 ?_
      refine A_iload_n X 2 rfl rfl dX11_row_21 ?_
      obtain ⟨g7, h⟩ := gdD h
      refine A_iald X g7 shC_141 dX11_row_22 ?_
      refine A_goto X (tgt := 27) (by decide) dX11_row_23 ?_
      refine A_sub [] rfl (L' := []) rfl ?_
      exact w_X11_row_27 (a1 := a1) X E (s2 141 a1.toNat) s2 h
abbrev rm_X11_share : Room := { frames := 3, cells := 0, slots := 0, locals := 63 }
theorem in_X11_share_3 : ∀ w ∈ u_ws RX3 TX3 11, w ∈ wsX11_share := fun w h => List.mem_cons_of_mem _ (List.mem_append_left _ (List.mem_append_left _ (List.mem_append_left _ (List.mem_append_right _ h))))
theorem fg_X11_share_276 : aFl wsX11_share RX11 276 3 4 := ⟨RX3, TX3, 11, rfl, in_X11_share_3, by decide, (List.mem_of_getElem? (i := 1) rfl), rfl⟩
set_option maxRecDepth 100000 in
set_option maxHeartbeats 4000000 in
theorem w_X11_share_22 {x : aC} {r : Int × Hp} {a1 : Int} (X : aX x cX11_share wsX11_share RX11 2 rm_X11_share) (E : aE x shC (some .int) 0 r) (t1 : Int) (σ : Hp) (h : F_RD_share_22 a1 t1 σ = some r) : aS x shC 2 22 [] [vI t1] σ := by
  unfold F_RD_share_22 at h
  exact A_ireturn X E h dX11_share_22
set_option maxRecDepth 100000 in
set_option maxHeartbeats 4000000 in
theorem m_X11_share {l : Launch} {g : aG} {a1 : Int} {σ : Hp} {r : Int × Hp} (h : F_RD_share a1 σ = some r) : aMet l g shC yX11_share wsX11_share rm_X11_share [vR 0, vI a1] σ 0 r := by
  unfold F_RD_share at h
  refine aMet_of (bytes := cX11_share) (maxL := 2) (ret := (some .int)) (by decide +kernel) rfl (Nat.le_of_ble_eq_true rfl) ⟨rfl, rfl⟩ (fun x e1 e2 X E => ?_)
  subst e1; subst e2
  have X : aX x cX11_share wsX11_share RX11 2 rm_X11_share := X
  show aS x shC 2 0 [(0, vR 0), (1, vI a1)] [] σ
  refine A_aload_n X 0 rfl rfl dX11_share_0 ?_
  refine A_iload_n X 1 rfl rfl dX11_share_1 ?_
  obtain ⟨v1, s2, e3, h⟩ := clD h
  refine A_callV_I (na := 1) X (m_X11_isSomebody e3) gX11_share_X11_isSomebody rfl ⟨rfl, rfl⟩ (by decide +kernel) rfl ⟨Nat.le_of_ble_eq_true rfl, Nat.le_of_ble_eq_true rfl⟩ shC_0 (by decide) rfl rfl (Nat.le_of_ble_eq_true rfl) dX11_share_2 ?_
  refine A_if_eq X (tgt := 20) (by decide) dX11_share_5 (fun c4 => ?_) (fun c4 => ?_)
  · replace h := ifT h c4
    refine A_ldc X (v := (-2000000000)) (List.mem_of_getElem? (i := 2) rfl) dX11_share_20 (z := (-2000000000)) (by decide) ?_
    refine A_sub [] rfl (L' := []) rfl ?_
    exact w_X11_share_22 (a1 := a1) X E (-2000000000) s2 h
  · replace h := ifF h c4
    refine A_aload_n X 0 rfl rfl dX11_share_8 ?_
    obtain ⟨v5, s6, e7, h⟩ := clD h
    refine A_callV_R (na := 0) X (m_X11_dealsNow e7) gX11_share_X11_dealsNow rfl ⟨rfl, rfl⟩ (by decide +kernel) rfl ⟨Nat.le_of_ble_eq_true rfl, Nat.le_of_ble_eq_true rfl⟩ shC_0 (by decide) rfl rfl (Nat.le_of_ble_eq_true rfl) dX11_share_9 ?_
    obtain ⟨g8, h⟩ := gdD h
    rw [g8]
    refine A_getR X fg_X11_share_276 shC_173 (k := 4) rfl (by decide) dX11_share_12 ?_
    refine A_iload_n X 1 rfl rfl dX11_share_15 ?_
    obtain ⟨g9, h⟩ := gdD h
    refine A_iald X g9 shC_177 dX11_share_16 ?_
    refine A_goto X (tgt := 22) (by decide) dX11_share_17 ?_
    refine A_sub [] rfl (L' := []) rfl ?_
    exact w_X11_share_22 (a1 := a1) X E (s6 177 a1.toNat) s6 h
abbrev rm_X11_surely : Room := { frames := 3, cells := 0, slots := 0, locals := 63 }
theorem in_X11_surely_11 : ∀ w ∈ u_ws RX11 TX11 17, w ∈ wsX11_surely := fun w h => List.mem_cons_of_mem _ (List.mem_append_left _ (List.mem_append_left _ (List.mem_append_left _ (List.mem_append_right _ h))))
theorem fg_X11_surely_78 : aFl wsX11_surely RX11 78 11 9 := ⟨RX11, TX11, 17, rfl, in_X11_surely_11, by decide, (List.mem_of_getElem? (i := 1) rfl), rfl⟩
set_option maxRecDepth 100000 in
set_option maxHeartbeats 4000000 in
theorem w_X11_surely_44 {x : aC} {r : Int × Hp} (X : aX x cX11_surely wsX11_surely RX11 1 rm_X11_surely) (E : aE x shC (some .int) 0 r) (t1 : Int) (σ : Hp) (h : F_RD_surely_44 t1 σ = some r) : aS x shC 1 44 [] [vI t1] σ := by
  unfold F_RD_surely_44 at h
  exact A_ireturn X E h dX11_surely_44
set_option maxRecDepth 100000 in
set_option maxHeartbeats 4000000 in
theorem m_X11_surely {l : Launch} {g : aG} {σ : Hp} {r : Int × Hp} (h : F_RD_surely σ = some r) : aMet l g shC yX11_surely wsX11_surely rm_X11_surely [vR 0] σ 0 r := by
  unfold F_RD_surely at h
  refine aMet_of (bytes := cX11_surely) (maxL := 1) (ret := (some .int)) (by decide +kernel) rfl (Nat.le_of_ble_eq_true rfl) ⟨rfl, rfl⟩ (fun x e1 e2 X E => ?_)
  subst e1; subst e2
  have X : aX x cX11_surely wsX11_surely RX11 1 rm_X11_surely := X
  show aS x shC 1 0 [(0, vR 0)] [] σ
  refine A_aload_n X 0 rfl rfl dX11_surely_0 ?_
  obtain ⟨v1, s2, e3, h⟩ := clD h
  refine A_callV_R (na := 0) X (m_X11_dealsNow e3) gX11_surely_X11_dealsNow rfl ⟨rfl, rfl⟩ (by decide +kernel) rfl ⟨Nat.le_of_ble_eq_true rfl, Nat.le_of_ble_eq_true rfl⟩ shC_0 (by decide) rfl rfl (Nat.le_of_ble_eq_true rfl) dX11_surely_1 ?_
  obtain ⟨g4, h⟩ := gdD h
  rw [g4]
  obtain ⟨v5, s6, e7, h⟩ := clD h
  refine A_callV_I (na := 0) X (m_X3_firstLone e7) gX11_surely_X3_firstLone rfl ⟨rfl, rfl⟩ (by decide +kernel) rfl ⟨Nat.le_of_ble_eq_true rfl, Nat.le_of_ble_eq_true rfl⟩ shC_173 (by decide) rfl rfl (Nat.le_of_ble_eq_true rfl) dX11_surely_4 ?_
  refine A_iconst X dX11_surely_7 (z := (-1)) (by decide) ?_
  refine A_icmp_eq X (tgt := 13) (by decide) dX11_surely_8 (fun c8 => ?_) (fun c8 => ?_)
  · replace h := ifT h c8
    refine A_aload_n X 0 rfl rfl dX11_surely_13 ?_
    refine A_getA X fg_X11_surely_78 shC_0 (k := 9) rfl (by decide) dX11_surely_14 ?_
    refine A_iconst X dX11_surely_17 (z := 1) (by decide) ?_
    obtain ⟨v9, s10, e11, h⟩ := clD h
    refine A_callV_I (na := 1) X (m_X3_firstShort e11) gX11_surely_X3_firstShort rfl ⟨rfl, rfl⟩ (by decide +kernel) rfl ⟨Nat.le_of_ble_eq_true rfl, Nat.le_of_ble_eq_true rfl⟩ shC_173 (by decide) rfl rfl (Nat.le_of_ble_eq_true rfl) dX11_surely_18 ?_
    refine A_iconst X dX11_surely_21 (z := (-1)) (by decide) ?_
    refine A_icmp_ne X (tgt := 27) (by decide) dX11_surely_22 (fun c12 => ?_) (fun c12 => ?_)
    · replace h := ifF h c12
      refine A_aload_n X 0 rfl rfl dX11_surely_27 ?_
      refine A_getA X fg_X11_surely_78 shC_0 (k := 9) rfl (by decide) dX11_surely_28 ?_
      refine A_iconst X dX11_surely_31 (z := (-1)) (by decide) ?_
      obtain ⟨v13, s14, e15, h⟩ := clD h
      refine A_callV_I (na := 1) X (m_X3_firstShort e15) gX11_surely_X3_firstShort rfl ⟨rfl, rfl⟩ (by decide +kernel) rfl ⟨Nat.le_of_ble_eq_true rfl, Nat.le_of_ble_eq_true rfl⟩ shC_173 (by decide) rfl rfl (Nat.le_of_ble_eq_true rfl) dX11_surely_32 ?_
      refine A_iconst X dX11_surely_35 (z := (-1)) (by decide) ?_
      refine A_icmp_ne X (tgt := 43) (by decide) dX11_surely_36 (fun c16 => ?_) (fun c16 => ?_)
      · replace h := ifF h c16
        refine A_iconst X dX11_surely_43 (z := 0) (by decide) ?_
        refine A_sub [] rfl (L' := []) rfl ?_
        exact w_X11_surely_44 X E 0 s14 h
      · replace h := ifT h c16
        refine A_iconst X dX11_surely_39 (z := 1) (by decide) ?_
        refine A_goto X (tgt := 44) (by decide) dX11_surely_40 ?_
        refine A_sub [] rfl (L' := []) rfl ?_
        exact w_X11_surely_44 X E 1 s14 h
    · replace h := ifT h c12
      refine A_iconst X dX11_surely_25 (z := 2) (by decide) ?_
      exact A_ireturn X E h dX11_surely_26
  · replace h := ifF h c8
    refine A_iconst X dX11_surely_11 (z := 0) (by decide) ?_
    exact A_ireturn X E h dX11_surely_12
abbrev rm_X11_two : Room := { frames := 6, cells := 0, slots := 0, locals := 140 }
set_option maxRecDepth 100000 in
set_option maxHeartbeats 4000000 in
theorem w_X11_two_21 {x : aC} {r : Int × Hp} {a1 : Int} {a2 : Int} {a3 : Int} {a4 : Int} (X : aX x cX11_two wsX11_two RX11 6 rm_X11_two) (E : aE x shC (some .int) 0 r) (σ : Hp) (h : F_RD_two_21 a1 a2 a3 a4 σ = some r) : aS x shC 6 21 [] [] σ := by
  unfold F_RD_two_21 at h
  refine A_ldc X (v := (-2000000000)) (List.mem_of_getElem? (i := 1) rfl) dX11_two_21 (z := (-2000000000)) (by decide) ?_
  exact A_ireturn X E h dX11_two_23
set_option maxRecDepth 100000 in
set_option maxHeartbeats 4000000 in
theorem w_X11_two_66 {x : aC} {r : Int × Hp} {a1 : Int} {a2 : Int} {a3 : Int} {a4 : Int} (X : aX x cX11_two wsX11_two RX11 6 rm_X11_two) (E : aE x shC (some .int) 0 r) (t1 : Int) (σ : Hp) (h : F_RD_two_66 a1 a2 a3 a4 t1 σ = some r) : aS x shC 6 66 [] [vI t1] σ := by
  unfold F_RD_two_66 at h
  exact A_ireturn X E h dX11_two_66
set_option maxRecDepth 100000 in
set_option maxHeartbeats 4000000 in
theorem m_X11_two {l : Launch} {g : aG} {a1 : Int} {a2 : Int} {a3 : Int} {a4 : Int} {σ : Hp} {r : Int × Hp} (h : F_RD_two a1 a2 a3 a4 σ = some r) : aMet l g shC yX11_two wsX11_two rm_X11_two [vR 0, vI a1, vI a2, vI a3, vI a4] σ 0 r := by
  unfold F_RD_two at h
  refine aMet_of (bytes := cX11_two) (maxL := 6) (ret := (some .int)) (by decide +kernel) rfl (Nat.le_of_ble_eq_true rfl) ⟨rfl, rfl⟩ (fun x e1 e2 X E => ?_)
  subst e1; subst e2
  have X : aX x cX11_two wsX11_two RX11 6 rm_X11_two := X
  show aS x shC 6 0 [(0, vR 0), (1, vI a1), (2, vI a2), (3, vI a3), (4, vI a4)] [] σ
  refine A_aload_n X 0 rfl rfl dX11_two_0 ?_
  refine A_iload_n X 1 rfl rfl dX11_two_1 ?_
  obtain ⟨v1, s2, e3, h⟩ := clD h
  refine A_callV_I (na := 1) X (m_X11_isSomebody e3) gX11_two_X11_isSomebody rfl ⟨rfl, rfl⟩ (by decide +kernel) rfl ⟨Nat.le_of_ble_eq_true rfl, Nat.le_of_ble_eq_true rfl⟩ shC_0 (by decide) rfl rfl (Nat.le_of_ble_eq_true rfl) dX11_two_2 ?_
  refine A_if_eq X (tgt := 21) (by decide) dX11_two_5 (fun c4 => ?_) (fun c4 => ?_)
  · replace h := ifT h c4
    refine A_sub [] rfl (L' := []) rfl ?_
    exact w_X11_two_21 (a1 := a1) (a2 := a2) (a3 := a3) (a4 := a4) X E s2 h
  · replace h := ifF h c4
    refine A_aload_n X 0 rfl rfl dX11_two_8 ?_
    refine A_iload_n X 2 rfl rfl dX11_two_9 ?_
    obtain ⟨v5, s6, e7, h⟩ := clD h
    refine A_callV_I (na := 1) X (m_X11_isSomebody e7) gX11_two_X11_isSomebody rfl ⟨rfl, rfl⟩ (by decide +kernel) rfl ⟨Nat.le_of_ble_eq_true rfl, Nat.le_of_ble_eq_true rfl⟩ shC_0 (by decide) rfl rfl (Nat.le_of_ble_eq_true rfl) dX11_two_10 ?_
    refine A_if_eq X (tgt := 21) (by decide) dX11_two_13 (fun c8 => ?_) (fun c8 => ?_)
    · replace h := ifT h c8
      refine A_sub [] rfl (L' := []) rfl ?_
      exact w_X11_two_21 (a1 := a1) (a2 := a2) (a3 := a3) (a4 := a4) X E s6 h
    · replace h := ifF h c8
      refine A_iload_n X 1 rfl rfl dX11_two_16 ?_
      refine A_iload_n X 2 rfl rfl dX11_two_17 ?_
      refine A_icmp_ne X (tgt := 24) (by decide) dX11_two_18 (fun c9 => ?_) (fun c9 => ?_)
      · replace h := ifF h c9
        refine A_aload_n X 0 rfl rfl dX11_two_24 ?_
        obtain ⟨v10, s11, e12, h⟩ := clD h
        refine A_callV_R (na := 0) X (m_X11_planNow e12) gX11_two_X11_planNow rfl ⟨rfl, rfl⟩ (by decide +kernel) rfl ⟨Nat.le_of_ble_eq_true rfl, Nat.le_of_ble_eq_true rfl⟩ shC_0 (by decide) rfl rfl (Nat.le_of_ble_eq_true rfl) dX11_two_25 ?_
        obtain ⟨g13, h⟩ := gdD h
        rw [g13]
        refine A_astore X (L' := [(5, vR 112), (0, vR 0), (1, vI a1), (2, vI a2), (3, vI a3), (4, vI a4)]) (by decide) rfl dX11_two_28 ?_
        refine A_aload X 0 rfl dX11_two_30 ?_
        obtain ⟨v14, s15, e16, h⟩ := clD h
        refine A_callV_I (na := 0) X (m_X7_hasEnds e16) gX11_two_X7_hasEnds rfl ⟨rfl, rfl⟩ (by decide +kernel) rfl ⟨Nat.le_of_ble_eq_true rfl, Nat.le_of_ble_eq_true rfl⟩ shC_112 (by decide) rfl rfl (Nat.le_of_ble_eq_true rfl) dX11_two_32 ?_
        refine A_if_ne X (tgt := 41) (by decide) dX11_two_35 (fun c17 => ?_) (fun c17 => ?_)
        · replace h := ifF h c17
          refine A_iload_n X 4 rfl rfl dX11_two_41 ?_
          refine A_if_eq X (tgt := 57) (by decide) dX11_two_42 (fun c18 => ?_) (fun c18 => ?_)
          · replace h := ifT h c18
            refine A_aload X 0 rfl dX11_two_57 ?_
            refine A_iload_n X 2 rfl rfl dX11_two_59 ?_
            refine A_iload_n X 3 rfl rfl dX11_two_60 ?_
            refine A_iload X 5 rfl dX11_two_61 ?_
            obtain ⟨v19, s20, e21, h⟩ := clD h
            refine A_callV_I (na := 3) X (m_X7_bothEnd e21) gX11_two_X7_bothEnd rfl ⟨rfl, rfl⟩ (by decide +kernel) rfl ⟨Nat.le_of_ble_eq_true rfl, Nat.le_of_ble_eq_true rfl⟩ shC_112 (by decide) rfl rfl (Nat.le_of_ble_eq_true rfl) dX11_two_63 ?_
            refine A_sub [] rfl (L' := []) rfl ?_
            exact w_X11_two_66 (a1 := a1) (a2 := a2) (a3 := a3) (a4 := a4) X E v19 s20 h
          · replace h := ifF h c18
            refine A_aload X 0 rfl dX11_two_45 ?_
            refine A_iload_n X 2 rfl rfl dX11_two_47 ?_
            refine A_iload_n X 3 rfl rfl dX11_two_48 ?_
            refine A_iload X 5 rfl dX11_two_49 ?_
            obtain ⟨v22, s23, e24, h⟩ := clD h
            refine A_callV_I (na := 3) X (m_X7_aheadEnd e24) gX11_two_X7_aheadEnd rfl ⟨rfl, rfl⟩ (by decide +kernel) rfl ⟨Nat.le_of_ble_eq_true rfl, Nat.le_of_ble_eq_true rfl⟩ shC_112 (by decide) rfl rfl (Nat.le_of_ble_eq_true rfl) dX11_two_51 ?_
            refine A_goto X (tgt := 66) (by decide) dX11_two_54 ?_
            refine A_sub [] rfl (L' := []) rfl ?_
            exact w_X11_two_66 (a1 := a1) (a2 := a2) (a3 := a3) (a4 := a4) X E v22 s23 h
        · replace h := ifT h c17
          refine A_ldc X (v := (-2000000000)) (List.mem_of_getElem? (i := 1) rfl) dX11_two_38 (z := (-2000000000)) (by decide) ?_
          exact A_ireturn X E h dX11_two_40
      · replace h := ifT h c9
        refine A_sub [] rfl (L' := []) rfl ?_
        exact w_X11_two_21 (a1 := a1) (a2 := a2) (a3 := a3) (a4 := a4) X E s6 h
abbrev rm_X11_undeal : Room := { frames := 1, cells := 0, slots := 0, locals := 21 }
theorem in_X11_undeal_11 : ∀ w ∈ u_ws RX11 TX11 17, w ∈ wsX11_undeal := fun w h => List.mem_cons_of_mem _ (List.mem_append_left _ (List.mem_append_left _ (List.mem_append_right _ h)))
theorem fg_X11_undeal_78 : aFl wsX11_undeal RX11 78 11 9 := ⟨RX11, TX11, 17, rfl, in_X11_undeal_11, by decide, (List.mem_of_getElem? (i := 1) rfl), rfl⟩
theorem in_X11_undeal_3 : ∀ w ∈ u_ws RX3 TX3 11, w ∈ wsX11_undeal := fun w h => List.mem_cons_of_mem _ (List.mem_append_left _ (List.mem_append_right _ h))
theorem fg_X11_undeal_159 : aFl wsX11_undeal RX11 159 3 2 := ⟨RX3, TX3, 11, rfl, in_X11_undeal_3, by decide, (List.mem_of_getElem? (i := 2) rfl), rfl⟩
set_option maxRecDepth 100000 in
set_option maxHeartbeats 4000000 in
theorem w_X11_undeal_30 {x : aC} {r : Int × Hp} {a1 : Int} (X : aX x cX11_undeal wsX11_undeal RX11 2 rm_X11_undeal) (E : aE x shC (some .int) 0 r) (t1 : Int) (σ : Hp) (h : F_RD_undeal_30 a1 t1 σ = some r) : aS x shC 2 30 [] [vI t1] σ := by
  unfold F_RD_undeal_30 at h
  exact A_ireturn X E h dX11_undeal_30
set_option maxRecDepth 100000 in
set_option maxHeartbeats 4000000 in
theorem w_X11_undeal_29 {x : aC} {r : Int × Hp} {a1 : Int} (X : aX x cX11_undeal wsX11_undeal RX11 2 rm_X11_undeal) (E : aE x shC (some .int) 0 r) (σ : Hp) (h : F_RD_undeal_29 a1 σ = some r) : aS x shC 2 29 [] [] σ := by
  unfold F_RD_undeal_29 at h
  refine A_iconst X dX11_undeal_29 (z := (-1)) (by decide) ?_
  exact w_X11_undeal_30 (a1 := a1) X E (-1) σ h
set_option maxRecDepth 100000 in
set_option maxHeartbeats 4000000 in
theorem m_X11_undeal {l : Launch} {g : aG} {a1 : Int} {σ : Hp} {r : Int × Hp} (h : F_RD_undeal a1 σ = some r) : aMet l g shC yX11_undeal wsX11_undeal rm_X11_undeal [vR 0, vI a1] σ 0 r := by
  unfold F_RD_undeal at h
  refine aMet_of (bytes := cX11_undeal) (maxL := 2) (ret := (some .int)) (by decide +kernel) rfl (Nat.le_of_ble_eq_true rfl) ⟨rfl, rfl⟩ (fun x e1 e2 X E => ?_)
  subst e1; subst e2
  have X : aX x cX11_undeal wsX11_undeal RX11 2 rm_X11_undeal := X
  show aS x shC 2 0 [(0, vR 0), (1, vI a1)] [] σ
  refine A_aload_n X 0 rfl rfl dX11_undeal_0 ?_
  refine A_iload_n X 1 rfl rfl dX11_undeal_1 ?_
  obtain ⟨v1, s2, e3, h⟩ := clD h
  refine A_callV_I (na := 1) X (m_X11_isRoad e3) gX11_undeal_X11_isRoad rfl ⟨rfl, rfl⟩ (by decide +kernel) rfl ⟨Nat.le_of_ble_eq_true rfl, Nat.le_of_ble_eq_true rfl⟩ shC_0 (by decide) rfl rfl (Nat.le_of_ble_eq_true rfl) dX11_undeal_2 ?_
  refine A_if_eq X (tgt := 29) (by decide) dX11_undeal_5 (fun c4 => ?_) (fun c4 => ?_)
  · replace h := ifT h c4
    refine A_sub [] rfl (L' := []) rfl ?_
    exact w_X11_undeal_29 (a1 := a1) X E s2 h
  · replace h := ifF h c4
    refine A_aload_n X 0 rfl rfl dX11_undeal_8 ?_
    refine A_getA X fg_X11_undeal_78 shC_0 (k := 9) rfl (by decide) dX11_undeal_9 ?_
    refine A_iload_n X 1 rfl rfl dX11_undeal_12 ?_
    obtain ⟨v5, s6, e7, h⟩ := clD h
    refine A_callV_I (na := 1) X (m_X3_drop e7) gX11_undeal_X3_drop rfl ⟨rfl, rfl⟩ (by decide +kernel) rfl ⟨Nat.le_of_ble_eq_true rfl, Nat.le_of_ble_eq_true rfl⟩ shC_173 (by decide) rfl rfl (Nat.le_of_ble_eq_true rfl) dX11_undeal_13 ?_
    refine A_if_eq X (tgt := 29) (by decide) dX11_undeal_16 (fun c8 => ?_) (fun c8 => ?_)
    · replace h := ifT h c8
      refine A_sub [] rfl (L' := []) rfl ?_
      exact w_X11_undeal_29 (a1 := a1) X E s6 h
    · replace h := ifF h c8
      refine A_aload_n X 0 rfl rfl dX11_undeal_19 ?_
      refine A_getA X fg_X11_undeal_78 shC_0 (k := 9) rfl (by decide) dX11_undeal_20 ?_
      refine A_getI X fg_X11_undeal_159 shC_173 (k := 2) rfl (by decide) dX11_undeal_23 ?_
      refine A_goto X (tgt := 30) (by decide) dX11_undeal_26 ?_
      refine A_sub [] rfl (L' := []) rfl ?_
      exact w_X11_undeal_30 (a1 := a1) X E (s6 173 2) s6 h
abbrev rm_X11_uneven : Room := { frames := 4, cells := 0, slots := 0, locals := 90 }
set_option maxRecDepth 100000 in
set_option maxHeartbeats 4000000 in
theorem m_X11_uneven {l : Launch} {g : aG} {σ : Hp} {r : Int × Hp} (h : F_RD_uneven σ = some r) : aMet l g shC yX11_uneven wsX11_uneven rm_X11_uneven [vR 0] σ 0 r := by
  unfold F_RD_uneven at h
  refine aMet_of (bytes := cX11_uneven) (maxL := 1) (ret := (some .int)) (by decide +kernel) rfl (Nat.le_of_ble_eq_true rfl) ⟨rfl, rfl⟩ (fun x e1 e2 X E => ?_)
  subst e1; subst e2
  have X : aX x cX11_uneven wsX11_uneven RX11 1 rm_X11_uneven := X
  show aS x shC 1 0 [(0, vR 0)] [] σ
  refine A_aload_n X 0 rfl rfl dX11_uneven_0 ?_
  obtain ⟨v1, s2, e3, h⟩ := clD h
  refine A_callV_R (na := 0) X (m_X11_dealsNow e3) gX11_uneven_X11_dealsNow rfl ⟨rfl, rfl⟩ (by decide +kernel) rfl ⟨Nat.le_of_ble_eq_true rfl, Nat.le_of_ble_eq_true rfl⟩ shC_0 (by decide) rfl rfl (Nat.le_of_ble_eq_true rfl) dX11_uneven_1 ?_
  obtain ⟨g4, h⟩ := gdD h
  rw [g4]
  obtain ⟨v5, s6, e7, h⟩ := clD h
  refine A_callV_I (na := 0) X (m_X3_firstUneven e7) gX11_uneven_X3_firstUneven rfl ⟨rfl, rfl⟩ (by decide +kernel) rfl ⟨Nat.le_of_ble_eq_true rfl, Nat.le_of_ble_eq_true rfl⟩ shC_173 (by decide) rfl rfl (Nat.le_of_ble_eq_true rfl) dX11_uneven_4 ?_
  exact A_ireturn X E h dX11_uneven_7
abbrev rm_X11_ways : Room := { frames := 4, cells := 0, slots := 0, locals := 140 }
theorem in_X11_ways_11 : ∀ w ∈ u_ws RX11 TX11 17, w ∈ wsX11_ways := fun w h => List.mem_cons_of_mem _ (List.mem_append_left _ (List.mem_append_left _ (List.mem_append_left _ (List.mem_append_right _ h))))
theorem fg_X11_ways_69 : aFl wsX11_ways RX11 69 11 8 := ⟨RX11, TX11, 17, rfl, in_X11_ways_11, by decide, (List.mem_of_getElem? (i := 1) rfl), rfl⟩
set_option maxRecDepth 100000 in
set_option maxHeartbeats 4000000 in
theorem m_X11_ways {l : Launch} {g : aG} {σ : Hp} {r : Int × Hp} (h : F_RD_ways σ = some r) : aMet l g shC yX11_ways wsX11_ways rm_X11_ways [vR 0] σ 0 r := by
  unfold F_RD_ways at h
  refine aMet_of (bytes := cX11_ways) (maxL := 1) (ret := (some .int)) (by decide +kernel) rfl (Nat.le_of_ble_eq_true rfl) ⟨rfl, rfl⟩ (fun x e1 e2 X E => ?_)
  subst e1; subst e2
  have X : aX x cX11_ways wsX11_ways RX11 1 rm_X11_ways := X
  show aS x shC 1 0 [(0, vR 0)] [] σ
  refine A_aload_n X 0 rfl rfl dX11_ways_0 ?_
  obtain ⟨v1, s2, e3, h⟩ := clD h
  refine A_callV_R (na := 0) X (m_X11_planNow e3) gX11_ways_X11_planNow rfl ⟨rfl, rfl⟩ (by decide +kernel) rfl ⟨Nat.le_of_ble_eq_true rfl, Nat.le_of_ble_eq_true rfl⟩ shC_0 (by decide) rfl rfl (Nat.le_of_ble_eq_true rfl) dX11_ways_1 ?_
  obtain ⟨g4, h⟩ := gdD h
  rw [g4]
  refine A_aload_n X 0 rfl rfl dX11_ways_4 ?_
  refine A_getA X fg_X11_ways_69 shC_0 (k := 8) rfl (by decide) dX11_ways_5 ?_
  obtain ⟨v5, s6, e7, h⟩ := clD h
  refine A_callV_I (na := 1) X (m_X7_countWays e7) gX11_ways_X7_countWays rfl ⟨rfl, rfl⟩ (by decide +kernel) rfl ⟨Nat.le_of_ble_eq_true rfl, Nat.le_of_ble_eq_true rfl⟩ shC_112 (by decide) rfl rfl (Nat.le_of_ble_eq_true rfl) dX11_ways_8 ?_
  exact A_ireturn X E h dX11_ways_11
abbrev rm_X11_worth : Room := { frames := 7, cells := 0, slots := 0, locals := 161 }
theorem in_X11_worth_11 : ∀ w ∈ u_ws RX11 TX11 17, w ∈ wsX11_worth := fun w h => List.mem_cons_of_mem _ (List.mem_append_left _ (List.mem_append_left _ (List.mem_append_left _ (List.mem_append_right _ h))))
theorem fg_X11_worth_30 : aFl wsX11_worth RX11 30 11 2 := ⟨RX11, TX11, 17, rfl, in_X11_worth_11, by decide, (List.mem_of_getElem? (i := 2) rfl), rfl⟩
set_option maxRecDepth 100000 in
set_option maxHeartbeats 4000000 in
theorem w_X11_worth_20 {x : aC} {r : Int × Hp} {a1 : Int} {a2 : Int} (X : aX x cX11_worth wsX11_worth RX11 4 rm_X11_worth) (E : aE x shC (some .int) 0 r) (σ : Hp) (h : F_RD_worth_20 a1 a2 σ = some r) : aS x shC 4 20 [] [] σ := by
  unfold F_RD_worth_20 at h
  refine A_iconst X dX11_worth_20 (z := (-1)) (by decide) ?_
  exact A_ireturn X E h dX11_worth_21
set_option maxRecDepth 100000 in
set_option maxHeartbeats 4000000 in
theorem m_X11_worth {l : Launch} {g : aG} {a1 : Int} {a2 : Int} {σ : Hp} {r : Int × Hp} (h : F_RD_worth a1 a2 σ = some r) : aMet l g shC yX11_worth wsX11_worth rm_X11_worth [vR 0, vI a1, vI a2] σ 0 r := by
  unfold F_RD_worth at h
  refine aMet_of (bytes := cX11_worth) (maxL := 4) (ret := (some .int)) (by decide +kernel) rfl (Nat.le_of_ble_eq_true rfl) ⟨rfl, rfl⟩ (fun x e1 e2 X E => ?_)
  subst e1; subst e2
  have X : aX x cX11_worth wsX11_worth RX11 4 rm_X11_worth := X
  show aS x shC 4 0 [(0, vR 0), (1, vI a1), (2, vI a2)] [] σ
  refine A_aload_n X 0 rfl rfl dX11_worth_0 ?_
  refine A_iload_n X 1 rfl rfl dX11_worth_1 ?_
  obtain ⟨v1, s2, e3, h⟩ := clD h
  refine A_callV_I (na := 1) X (m_X11_isRoad e3) gX11_worth_X11_isRoad rfl ⟨rfl, rfl⟩ (by decide +kernel) rfl ⟨Nat.le_of_ble_eq_true rfl, Nat.le_of_ble_eq_true rfl⟩ shC_0 (by decide) rfl rfl (Nat.le_of_ble_eq_true rfl) dX11_worth_2 ?_
  refine A_if_eq X (tgt := 20) (by decide) dX11_worth_5 (fun c4 => ?_) (fun c4 => ?_)
  · replace h := ifT h c4
    refine A_sub [] rfl (L' := []) rfl ?_
    exact w_X11_worth_20 (a1 := a1) (a2 := a2) X E s2 h
  · replace h := ifF h c4
    refine A_iload_n X 2 rfl rfl dX11_worth_8 ?_
    refine A_bipush X dX11_worth_9 (z := (-2)) (by decide) ?_
    refine A_icmp_lt X (tgt := 20) (by decide) dX11_worth_11 (fun c5 => ?_) (fun c5 => ?_)
    · replace h := ifT h c5
      refine A_sub [] rfl (L' := []) rfl ?_
      exact w_X11_worth_20 (a1 := a1) (a2 := a2) X E s2 h
    · replace h := ifF h c5
      refine A_iload_n X 2 rfl rfl dX11_worth_14 ?_
      refine A_ldc X (v := (100000)) (List.mem_of_getElem? (i := 1) rfl) dX11_worth_15 (z := 100000) (by decide) ?_
      refine A_icmp_le X (tgt := 22) (by decide) dX11_worth_17 (fun c6 => ?_) (fun c6 => ?_)
      · replace h := ifT h c6
        refine A_aload_n X 0 rfl rfl dX11_worth_22 ?_
        refine A_getA X fg_X11_worth_30 shC_0 (k := 2) rfl (by decide) dX11_worth_23 ?_
        refine A_iload_n X 1 rfl rfl dX11_worth_26 ?_
        refine A_iload_n X 2 rfl rfl dX11_worth_27 ?_
        obtain ⟨v7, s8, e9, h⟩ := clD h
        refine A_callV_I (na := 2) X (m_X0_add e9) gX11_worth_X0_add rfl ⟨rfl, rfl⟩ (by decide +kernel) rfl ⟨Nat.le_of_ble_eq_true rfl, Nat.le_of_ble_eq_true rfl⟩ shC_46 (by decide) rfl rfl (Nat.le_of_ble_eq_true rfl) dX11_worth_28 ?_
        refine A_istore_n X (L' := [(3, vI v7), (0, vR 0), (1, vI a1), (2, vI a2)]) rfl (by decide) rfl dX11_worth_31 ?_
        refine A_aload_n X 1 rfl rfl dX11_worth_32 ?_
        obtain ⟨v10, s11, e12, h⟩ := clD h
        refine A_callV_V (na := 0) X (m_X11_lookAgain e12) gX11_worth_X11_lookAgain rfl ⟨rfl, rfl⟩ (by decide +kernel) rfl ⟨Nat.le_of_ble_eq_true rfl, Nat.le_of_ble_eq_true rfl⟩ shC_0 (by decide) rfl rfl (Nat.le_of_ble_eq_true rfl) dX11_worth_33 ?_
        refine A_iload_n X 0 rfl rfl dX11_worth_36 ?_
        exact A_ireturn X E h dX11_worth_37
      · replace h := ifF h c6
        refine A_sub [] rfl (L' := []) rfl ?_
        exact w_X11_worth_20 (a1 := a1) (a2 := a2) X E s2 h
abbrev rm_X11_text : Room := { frames := 52, cells := 0, slots := 0, locals := 2867 }
theorem in_X11_text_11 : ∀ w ∈ u_ws RX11 TX11 17, w ∈ wsX11_text := fun w h => List.mem_cons_of_mem _ (List.mem_append_left _ (List.mem_append_left _ (List.mem_append_left _ (List.mem_append_left _ (List.mem_append_left _ (List.mem_append_left _ (List.mem_append_left _ (List.mem_append_right _ h))))))))
theorem fg_X11_text_23 : aFl wsX11_text RX11 23 11 1 := ⟨RX11, TX11, 17, rfl, in_X11_text_11, by decide, (List.mem_of_getElem? (i := 1) rfl), rfl⟩
theorem fg_X11_text_14 : aFl wsX11_text RX11 14 11 0 := ⟨RX11, TX11, 17, rfl, in_X11_text_11, by decide, (List.mem_of_getElem? (i := 2) rfl), rfl⟩
theorem in_X11_text_8 : ∀ w ∈ u_ws RX8 TX8 8, w ∈ wsX11_text := fun w h => List.mem_cons_of_mem _ (List.mem_append_left _ (List.mem_append_left _ (List.mem_append_left _ (List.mem_append_left _ (List.mem_append_left _ (List.mem_append_left _ (List.mem_append_right _ h)))))))
theorem fg_X11_text_121 : aFl wsX11_text RX11 121 8 6 := ⟨RX8, TX8, 8, rfl, in_X11_text_8, by decide, (List.mem_of_getElem? (i := 3) rfl), rfl⟩
theorem fp_X11_text_124 : aFp wsX11_text RX11 124 11 13 .int := ⟨RX11, TX11, 17, tyX11, rfl, in_X11_text_11, by decide, (List.mem_of_getElem? (i := 4) rfl), rfl, tyX11_ok, nmX11, rfl, rfl⟩
theorem fg_X11_text_127 : aFl wsX11_text RX11 127 8 7 := ⟨RX8, TX8, 8, rfl, in_X11_text_8, by decide, (List.mem_of_getElem? (i := 5) rfl), rfl⟩
theorem fp_X11_text_93 : aFp wsX11_text RX11 93 11 14 .int := ⟨RX11, TX11, 17, tyX11, rfl, in_X11_text_11, by decide, (List.mem_of_getElem? (i := 6) rfl), rfl, tyX11_ok, nmX11, rfl, rfl⟩
theorem fg_X11_text_37 : aFl wsX11_text RX11 37 11 3 := ⟨RX11, TX11, 17, rfl, in_X11_text_11, by decide, (List.mem_of_getElem? (i := 7) rfl), rfl⟩
theorem fp_X11_text_37 : aFp wsX11_text RX11 37 11 3 (.object "RoadDeals$Net") := ⟨RX11, TX11, 17, tyX11, rfl, in_X11_text_11, by decide, (List.mem_of_getElem? (i := 7) rfl), rfl, tyX11_ok, nmX11, rfl, rfl⟩
theorem fg_X11_text_30 : aFl wsX11_text RX11 30 11 2 := ⟨RX11, TX11, 17, rfl, in_X11_text_11, by decide, (List.mem_of_getElem? (i := 8) rfl), rfl⟩
theorem fg_X11_text_78 : aFl wsX11_text RX11 78 11 9 := ⟨RX11, TX11, 17, rfl, in_X11_text_11, by decide, (List.mem_of_getElem? (i := 9) rfl), rfl⟩
theorem fp_X11_text_89 : aFp wsX11_text RX11 89 11 12 .int := ⟨RX11, TX11, 17, tyX11, rfl, in_X11_text_11, by decide, (List.mem_of_getElem? (i := 10) rfl), rfl, tyX11_ok, nmX11, rfl, rfl⟩
theorem in_X11_text_6 : ∀ w ∈ u_ws RX6 TX6 20, w ∈ wsX11_text := fun w h => List.mem_cons_of_mem _ (List.mem_append_left _ (List.mem_append_left _ (List.mem_append_left _ (List.mem_append_left _ (List.mem_append_left _ (List.mem_append_right _ h))))))
theorem fg_X11_text_141 : aFl wsX11_text RX11 141 6 19 := ⟨RX6, TX6, 20, rfl, in_X11_text_6, by decide, (List.mem_of_getElem? (i := 11) rfl), rfl⟩
set_option maxRecDepth 100000 in
set_option maxHeartbeats 4000000 in
theorem m_X11_text {l : Launch} {g : aG} {σ : Hp} {r : Int × Hp} (h : F_RD_text σ = some r) : aMet l g shC yX11_text wsX11_text rm_X11_text [vR 0] σ 0 r := by
  unfold F_RD_text at h
  refine aMet_of (bytes := cX11_text) (maxL := 2) (ret := (some .int)) (by decide +kernel) rfl (Nat.le_of_ble_eq_true rfl) ⟨rfl, rfl⟩ (fun x e1 e2 X E => ?_)
  subst e1; subst e2
  have X : aX x cX11_text wsX11_text RX11 2 rm_X11_text := X
  show aS x shC 2 0 [(0, vR 0)] [] σ
  refine A_aload_n X 0 rfl rfl dX11_text_0 ?_
  refine A_getA X fg_X11_text_23 shC_0 (k := 1) rfl (by decide) dX11_text_1 ?_
  obtain ⟨v1, s2, e3, h⟩ := clD h
  refine A_callV_I (na := 0) X (m_X8_read e3) gX11_text_X8_read rfl ⟨rfl, rfl⟩ (by decide +kernel) rfl ⟨Nat.le_of_ble_eq_true rfl, Nat.le_of_ble_eq_true rfl⟩ shC_3 (by decide) rfl rfl (Nat.le_of_ble_eq_true rfl) dX11_text_4 ?_
  refine A_istore_n X (L' := [(1, vI v1), (0, vR 0)]) rfl (by decide) rfl dX11_text_7 ?_
  refine A_aload_n X 1 rfl rfl dX11_text_8 ?_
  refine A_getA X fg_X11_text_14 shC_0 (k := 0) rfl (by decide) dX11_text_9 ?_
  refine A_iconst X dX11_text_12 (z := 0) (by decide) ?_
  obtain ⟨v4, s5, e6, h⟩ := clD h
  refine A_callV_I (na := 1) X (m_X2_cut e6) gX11_text_X2_cut rfl ⟨rfl, rfl⟩ (by decide +kernel) rfl ⟨Nat.le_of_ble_eq_true rfl, Nat.le_of_ble_eq_true rfl⟩ shC_1 (by decide) rfl rfl (Nat.le_of_ble_eq_true rfl) dX11_text_13 ?_
  refine A_pop X (by show ¬ (0 : Nat) = 1; decide) dX11_text_16 ?_
  refine A_aload_n X 1 rfl rfl dX11_text_17 ?_
  refine A_aload_n X 1 rfl rfl dX11_text_18 ?_
  refine A_getA X fg_X11_text_23 shC_0 (k := 1) rfl (by decide) dX11_text_19 ?_
  refine A_getI X fg_X11_text_121 shC_3 (k := 6) rfl (by decide) dX11_text_22 ?_
  refine A_putI X fp_X11_text_124 shC_0 (k := 13) rfl (by decide) dX11_text_25 (fun s7 hy => ?_)
  replace h := ltD h s7 hy
  clear hy
  refine A_aload_n X 1 rfl rfl dX11_text_28 ?_
  refine A_aload_n X 1 rfl rfl dX11_text_29 ?_
  refine A_getA X fg_X11_text_23 shC_0 (k := 1) rfl (by decide) dX11_text_30 ?_
  refine A_getI X fg_X11_text_127 shC_3 (k := 7) rfl (by decide) dX11_text_33 ?_
  refine A_putI X fp_X11_text_93 shC_0 (k := 14) rfl (by decide) dX11_text_36 (fun s8 hy => ?_)
  replace h := ltD h s8 hy
  clear hy
  refine A_iload_n X 0 rfl rfl dX11_text_39 ?_
  refine A_if_ne X (tgt := 45) (by decide) dX11_text_40 (fun c9 => ?_) (fun c9 => ?_)
  · replace h := ifF h c9
    refine A_aload_n X 1 rfl rfl dX11_text_45 ?_
    refine A_aload_n X 1 rfl rfl dX11_text_46 ?_
    refine A_getA X fg_X11_text_23 shC_0 (k := 1) rfl (by decide) dX11_text_47 ?_
    refine A_aload_n X 1 rfl rfl dX11_text_50 ?_
    refine A_getV X fg_X11_text_37 shC_0 (k := 3) rfl (by decide) dX11_text_51 ?_
    obtain ⟨q10, hy⟩ : ∃ y, y = (s8 0 3).toNat := ⟨_, rfl⟩
    replace h := ltD h q10 hy
    rw [← hy]
    clear hy
    obtain ⟨g11, h⟩ := gdD h
    obtain ⟨v12, s13, e14, h⟩ := clD h
    refine A_callV_R (na := 1) X (m_X8_exchange e14) gX11_text_X8_exchange rfl ⟨rfl, rfl⟩ (by decide +kernel) rfl ⟨Nat.le_of_ble_eq_true rfl, Nat.le_of_ble_eq_true rfl⟩ shC_3 (by decide) rfl rfl (Nat.le_of_ble_eq_true rfl) dX11_text_54 ?_
    obtain ⟨g15, h⟩ := gdD h
    refine A_putV X (bNet g15) fp_X11_text_37 shC_0 (k := 3) rfl (by decide) dX11_text_57 (fun s16 hy => ?_)
    replace h := ltD h s16 hy
    clear hy
    refine A_aload_n X 1 rfl rfl dX11_text_60 ?_
    refine A_getA X fg_X11_text_30 shC_0 (k := 2) rfl (by decide) dX11_text_61 ?_
    obtain ⟨v17, s18, e19, h⟩ := clD h
    refine A_callV_V (na := 0) X (m_X0_clear e19) gX11_text_X0_clear rfl ⟨rfl, rfl⟩ (by decide +kernel) rfl ⟨Nat.le_of_ble_eq_true rfl, Nat.le_of_ble_eq_true rfl⟩ shC_46 (by decide) rfl rfl (Nat.le_of_ble_eq_true rfl) dX11_text_64 ?_
    refine A_aload_n X 1 rfl rfl dX11_text_67 ?_
    refine A_getA X fg_X11_text_78 shC_0 (k := 9) rfl (by decide) dX11_text_68 ?_
    obtain ⟨v20, s21, e22, h⟩ := clD h
    refine A_callV_V (na := 0) X (m_X3_clear e22) gX11_text_X3_clear rfl ⟨rfl, rfl⟩ (by decide +kernel) rfl ⟨Nat.le_of_ble_eq_true rfl, Nat.le_of_ble_eq_true rfl⟩ shC_173 (by decide) rfl rfl (Nat.le_of_ble_eq_true rfl) dX11_text_71 ?_
    refine A_aload_n X 1 rfl rfl dX11_text_74 ?_
    refine A_iconst X dX11_text_75 (z := (-1)) (by decide) ?_
    refine A_putI X fp_X11_text_89 shC_0 (k := 12) rfl (by decide) dX11_text_76 (fun s23 hy => ?_)
    replace h := ltD h s23 hy
    clear hy
    refine A_aload_n X 1 rfl rfl dX11_text_79 ?_
    obtain ⟨v24, s25, e26, h⟩ := clD h
    refine A_callV_V (na := 0) X (m_X11_lookAgain e26) gX11_text_X11_lookAgain rfl ⟨rfl, rfl⟩ (by decide +kernel) rfl ⟨Nat.le_of_ble_eq_true rfl, Nat.le_of_ble_eq_true rfl⟩ shC_0 (by decide) rfl rfl (Nat.le_of_ble_eq_true rfl) dX11_text_80 ?_
    refine A_aload_n X 1 rfl rfl dX11_text_83 ?_
    refine A_getV X fg_X11_text_37 shC_0 (k := 3) rfl (by decide) dX11_text_84 ?_
    obtain ⟨q27, hy⟩ : ∃ y, y = (s25 0 3).toNat := ⟨_, rfl⟩
    replace h := ltD h q27 hy
    rw [← hy]
    clear hy
    obtain ⟨g28, h⟩ := gdD h
    refine A_getI X fg_X11_text_141 (shNet g28) (k := 19) rfl (by decide) dX11_text_87 ?_
    exact A_ireturn X E h dX11_text_90
  · replace h := ifT h c9
    refine A_iconst X dX11_text_43 (z := (-1)) (by decide) ?_
    exact A_ireturn X E h dX11_text_44

