abbrev rm_X12_add : Room := { frames := 0, cells := 0, slots := 0, locals := 0 }
theorem in_X12_add_12 : ∀ w ∈ u_ws RX12 TX12 75, w ∈ wsX12_add := fun w h => List.mem_cons_of_mem _ (List.mem_append_right _ h)
theorem fg_X12_add_98 : aFl wsX12_add RX12 98 12 28 := ⟨RX12, TX12, 75, rfl, in_X12_add_12, by decide, (List.mem_of_getElem? (i := 1) rfl), rfl⟩
theorem fg_X12_add_107 : aFl wsX12_add RX12 107 12 31 := ⟨RX12, TX12, 75, rfl, in_X12_add_12, by decide, (List.mem_of_getElem? (i := 2) rfl), rfl⟩
theorem fg_X12_add_104 : aFl wsX12_add RX12 104 12 30 := ⟨RX12, TX12, 75, rfl, in_X12_add_12, by decide, (List.mem_of_getElem? (i := 3) rfl), rfl⟩
theorem fg_X12_add_101 : aFl wsX12_add RX12 101 12 29 := ⟨RX12, TX12, 75, rfl, in_X12_add_12, by decide, (List.mem_of_getElem? (i := 4) rfl), rfl⟩
theorem fp_X12_add_104 : aFp wsX12_add RX12 104 12 30 .int := ⟨RX12, TX12, 75, tyX12, rfl, in_X12_add_12, by decide, (List.mem_of_getElem? (i := 3) rfl), rfl, tyX12_ok, nmX12, rfl, rfl⟩
set_option maxRecDepth 100000 in
set_option maxHeartbeats 4000000 in
theorem m_X12_add {l : Launch} {g : aG} {a1 : Int} {a2 : Int} {σ : Hp} {r : Int × Hp} (h : F_M_add a1 a2 σ = some r) : aMet l g shM yX12_add wsX12_add rm_X12_add [vR 0, vI a1, vI a2] σ 3 r := by
  unfold F_M_add at h
  refine aMet_of (bytes := cX12_add) (maxL := 3) (ret := none) (by decide +kernel) rfl (Nat.le_of_ble_eq_true rfl) ⟨rfl, rfl⟩ (fun x e1 e2 X E => ?_)
  subst e1; subst e2
  have X : aX x cX12_add wsX12_add RX12 3 rm_X12_add := X
  show aS x shM 3 0 [(0, vR 0), (1, vI a1), (2, vI a2)] [] σ
  refine A_aload_n X 0 rfl rfl dX12_add_0 ?_
  refine A_getR X fg_X12_add_98 shM_0 (k := 28) rfl (by decide) dX12_add_1 ?_
  refine A_sipush X dX12_add_4 (z := 900) (by decide) ?_
  refine A_aload_n X 0 rfl rfl dX12_add_7 ?_
  refine A_getI X fg_X12_add_107 shM_0 (k := 31) rfl (by decide) dX12_add_8 ?_
  refine A_imul X dX12_add_11 ?_
  refine A_aload_n X 0 rfl rfl dX12_add_12 ?_
  refine A_getI X fg_X12_add_104 shM_0 (k := 30) rfl (by decide) dX12_add_13 ?_
  refine A_iadd X dX12_add_16 ?_
  refine A_iload_n X 1 rfl rfl dX12_add_17 ?_
  obtain ⟨g1, h⟩ := gdD h
  refine A_iast X g1 shM_17 dX12_add_18 (fun s2 hy => ?_)
  replace h := ltD h s2 hy
  clear hy
  refine A_aload_n X 0 rfl rfl dX12_add_19 ?_
  refine A_getR X fg_X12_add_101 shM_0 (k := 29) rfl (by decide) dX12_add_20 ?_
  refine A_sipush X dX12_add_23 (z := 900) (by decide) ?_
  refine A_aload_n X 0 rfl rfl dX12_add_26 ?_
  refine A_getI X fg_X12_add_107 shM_0 (k := 31) rfl (by decide) dX12_add_27 ?_
  refine A_imul X dX12_add_30 ?_
  refine A_aload_n X 0 rfl rfl dX12_add_31 ?_
  refine A_getI X fg_X12_add_104 shM_0 (k := 30) rfl (by decide) dX12_add_32 ?_
  refine A_iadd X dX12_add_35 ?_
  refine A_iload_n X 2 rfl rfl dX12_add_36 ?_
  obtain ⟨g3, h⟩ := gdD h
  refine A_iast X g3 shM_18 dX12_add_37 (fun s4 hy => ?_)
  replace h := ltD h s4 hy
  clear hy
  refine A_aload_n X 0 rfl rfl dX12_add_38 ?_
  refine A_dup X (by show ¬ (2 : Nat) = 1; decide) dX12_add_39 ?_
  refine A_getI X fg_X12_add_104 shM_0 (k := 30) rfl (by decide) dX12_add_40 ?_
  refine A_iconst X dX12_add_43 (z := 1) (by decide) ?_
  refine A_iadd X dX12_add_44 ?_
  refine A_putI X fp_X12_add_104 shM_0 (k := 30) rfl (by decide) dX12_add_45 (fun s5 hy => ?_)
  replace h := ltD h s5 hy
  clear hy
  exact A_return X E h dX12_add_48
abbrev rm_X12_all : Room := { frames := 0, cells := 0, slots := 0, locals := 0 }
theorem in_X12_all_12 : ∀ w ∈ u_ws RX12 TX12 75, w ∈ wsX12_all := fun w h => List.mem_cons_of_mem _ (List.mem_append_right _ h)
theorem fg_X12_all_51 : aFl wsX12_all RX12 51 12 13 := ⟨RX12, TX12, 75, rfl, in_X12_all_12, by decide, (List.mem_of_getElem? (i := 1) rfl), rfl⟩
theorem fg_X12_all_48 : aFl wsX12_all RX12 48 12 12 := ⟨RX12, TX12, 75, rfl, in_X12_all_12, by decide, (List.mem_of_getElem? (i := 2) rfl), rfl⟩
set_option maxRecDepth 100000 in
set_option maxHeartbeats 4000000 in
theorem m_X12_all {l : Launch} {g : aG} {σ : Hp} {r : Int × Hp} (h : F_M_all σ = some r) : aMet l g shM yX12_all wsX12_all rm_X12_all [vR 0] σ 0 r := by
  unfold F_M_all at h
  refine aMet_of (bytes := cX12_all) (maxL := 1) (ret := (some .int)) (by decide +kernel) rfl (Nat.le_of_ble_eq_true rfl) ⟨rfl, rfl⟩ (fun x e1 e2 X E => ?_)
  subst e1; subst e2
  have X : aX x cX12_all wsX12_all RX12 1 rm_X12_all := X
  show aS x shM 1 0 [(0, vR 0)] [] σ
  refine A_iconst X dX12_all_0 (z := 1) (by decide) ?_
  refine A_aload_n X 0 rfl rfl dX12_all_1 ?_
  refine A_getR X fg_X12_all_51 shM_0 (k := 13) rfl (by decide) dX12_all_2 ?_
  refine A_aload_n X 0 rfl rfl dX12_all_5 ?_
  refine A_getI X fg_X12_all_48 shM_0 (k := 12) rfl (by decide) dX12_all_6 ?_
  obtain ⟨g1, h⟩ := gdD h
  refine A_iald X g1 shM_2 dX12_all_9 ?_
  refine A_ishl X dX12_all_10 ?_
  refine A_iconst X dX12_all_11 (z := 1) (by decide) ?_
  refine A_isub X dX12_all_12 ?_
  exact A_ireturn X E h dX12_all_13
abbrev rm_X12_aloneOf : Room := { frames := 0, cells := 0, slots := 0, locals := 0 }
theorem in_X12_aloneOf_12 : ∀ w ∈ u_ws RX12 TX12 75, w ∈ wsX12_aloneOf := fun w h => List.mem_cons_of_mem _ (List.mem_append_right _ h)
theorem fg_X12_aloneOf_67 : aFl wsX12_aloneOf RX12 67 12 18 := ⟨RX12, TX12, 75, rfl, in_X12_aloneOf_12, by decide, (List.mem_of_getElem? (i := 1) rfl), rfl⟩
theorem fg_X12_aloneOf_48 : aFl wsX12_aloneOf RX12 48 12 12 := ⟨RX12, TX12, 75, rfl, in_X12_aloneOf_12, by decide, (List.mem_of_getElem? (i := 2) rfl), rfl⟩
set_option maxRecDepth 100000 in
set_option maxHeartbeats 4000000 in
theorem m_X12_aloneOf {l : Launch} {g : aG} {a1 : Int} {σ : Hp} {r : Int × Hp} (h : F_M_aloneOf a1 σ = some r) : aMet l g shM yX12_aloneOf wsX12_aloneOf rm_X12_aloneOf [vR 0, vI a1] σ 0 r := by
  unfold F_M_aloneOf at h
  refine aMet_of (bytes := cX12_aloneOf) (maxL := 2) (ret := (some .int)) (by decide +kernel) rfl (Nat.le_of_ble_eq_true rfl) ⟨rfl, rfl⟩ (fun x e1 e2 X E => ?_)
  subst e1; subst e2
  have X : aX x cX12_aloneOf wsX12_aloneOf RX12 2 rm_X12_aloneOf := X
  show aS x shM 2 0 [(0, vR 0), (1, vI a1)] [] σ
  refine A_aload_n X 0 rfl rfl dX12_aloneOf_0 ?_
  refine A_getR X fg_X12_aloneOf_67 shM_0 (k := 18) rfl (by decide) dX12_aloneOf_1 ?_
  refine A_bipush X dX12_aloneOf_4 (z := 12) (by decide) ?_
  refine A_aload_n X 0 rfl rfl dX12_aloneOf_6 ?_
  refine A_getI X fg_X12_aloneOf_48 shM_0 (k := 12) rfl (by decide) dX12_aloneOf_7 ?_
  refine A_imul X dX12_aloneOf_10 ?_
  refine A_iload_n X 1 rfl rfl dX12_aloneOf_11 ?_
  refine A_iadd X dX12_aloneOf_12 ?_
  obtain ⟨g1, h⟩ := gdD h
  refine A_iald X g1 shM_7 dX12_aloneOf_13 ?_
  exact A_ireturn X E h dX12_aloneOf_14
abbrev rm_X12_enter : Room := { frames := 0, cells := 0, slots := 0, locals := 0 }
theorem in_X12_enter_12 : ∀ w ∈ u_ws RX12 TX12 75, w ∈ wsX12_enter := fun w h => List.mem_cons_of_mem _ (List.mem_append_right _ h)
theorem fg_X12_enter_144 : aFl wsX12_enter RX12 144 12 43 := ⟨RX12, TX12, 75, rfl, in_X12_enter_12, by decide, (List.mem_of_getElem? (i := 1) rfl), rfl⟩
theorem fp_X12_enter_144 : aFp wsX12_enter RX12 144 12 43 .int := ⟨RX12, TX12, 75, tyX12, rfl, in_X12_enter_12, by decide, (List.mem_of_getElem? (i := 1) rfl), rfl, tyX12_ok, nmX12, rfl, rfl⟩
theorem fg_X12_enter_150 : aFl wsX12_enter RX12 150 12 45 := ⟨RX12, TX12, 75, rfl, in_X12_enter_12, by decide, (List.mem_of_getElem? (i := 2) rfl), rfl⟩
theorem fg_X12_enter_153 : aFl wsX12_enter RX12 153 12 46 := ⟨RX12, TX12, 75, rfl, in_X12_enter_12, by decide, (List.mem_of_getElem? (i := 3) rfl), rfl⟩
theorem fg_X12_enter_156 : aFl wsX12_enter RX12 156 12 47 := ⟨RX12, TX12, 75, rfl, in_X12_enter_12, by decide, (List.mem_of_getElem? (i := 4) rfl), rfl⟩
set_option maxRecDepth 100000 in
set_option maxHeartbeats 4000000 in
theorem m_X12_enter {l : Launch} {g : aG} {a1 : Int} {a2 : Int} {σ : Hp} {r : Int × Hp} (h : F_M_enter a1 a2 σ = some r) : aMet l g shM yX12_enter wsX12_enter rm_X12_enter [vR 0, vI a1, vI a2] σ 0 r := by
  unfold F_M_enter at h
  refine aMet_of (bytes := cX12_enter) (maxL := 3) (ret := (some .int)) (by decide +kernel) rfl (Nat.le_of_ble_eq_true rfl) ⟨rfl, rfl⟩ (fun x e1 e2 X E => ?_)
  subst e1; subst e2
  have X : aX x cX12_enter wsX12_enter RX12 3 rm_X12_enter := X
  show aS x shM 3 0 [(0, vR 0), (1, vI a1), (2, vI a2)] [] σ
  refine A_aload_n X 0 rfl rfl dX12_enter_0 ?_
  refine A_getI X fg_X12_enter_144 shM_0 (k := 43) rfl (by decide) dX12_enter_1 ?_
  refine A_sipush X dX12_enter_4 (z := 200) (by decide) ?_
  refine A_icmp_ne X (tgt := 12) (by decide) dX12_enter_7 (fun c1 => ?_) (fun c1 => ?_)
  · replace h := ifF h c1
    refine A_aload_n X 0 rfl rfl dX12_enter_12 ?_
    refine A_dup X (by show ¬ (2 : Nat) = 1; decide) dX12_enter_13 ?_
    refine A_getI X fg_X12_enter_144 shM_0 (k := 43) rfl (by decide) dX12_enter_14 ?_
    refine A_iconst X dX12_enter_17 (z := 1) (by decide) ?_
    refine A_iadd X dX12_enter_18 ?_
    refine A_putI X fp_X12_enter_144 shM_0 (k := 43) rfl (by decide) dX12_enter_19 (fun s2 hy => ?_)
    replace h := ltD h s2 hy
    clear hy
    refine A_aload_n X 0 rfl rfl dX12_enter_22 ?_
    refine A_getR X fg_X12_enter_150 shM_0 (k := 45) rfl (by decide) dX12_enter_23 ?_
    refine A_aload_n X 0 rfl rfl dX12_enter_26 ?_
    refine A_getI X fg_X12_enter_144 shM_0 (k := 43) rfl (by decide) dX12_enter_27 ?_
    refine A_iload_n X 1 rfl rfl dX12_enter_30 ?_
    obtain ⟨g3, h⟩ := gdD h
    refine A_iast X g3 shM_25 dX12_enter_31 (fun s4 hy => ?_)
    replace h := ltD h s4 hy
    clear hy
    refine A_aload_n X 0 rfl rfl dX12_enter_32 ?_
    refine A_getR X fg_X12_enter_153 shM_0 (k := 46) rfl (by decide) dX12_enter_33 ?_
    refine A_aload_n X 0 rfl rfl dX12_enter_36 ?_
    refine A_getI X fg_X12_enter_144 shM_0 (k := 43) rfl (by decide) dX12_enter_37 ?_
    refine A_iload_n X 2 rfl rfl dX12_enter_40 ?_
    obtain ⟨g5, h⟩ := gdD h
    refine A_iast X g5 shM_26 dX12_enter_41 (fun s6 hy => ?_)
    replace h := ltD h s6 hy
    clear hy
    refine A_aload_n X 0 rfl rfl dX12_enter_42 ?_
    refine A_getR X fg_X12_enter_156 shM_0 (k := 47) rfl (by decide) dX12_enter_43 ?_
    refine A_aload_n X 0 rfl rfl dX12_enter_46 ?_
    refine A_getI X fg_X12_enter_144 shM_0 (k := 43) rfl (by decide) dX12_enter_47 ?_
    refine A_iconst X dX12_enter_50 (z := 0) (by decide) ?_
    obtain ⟨g7, h⟩ := gdD h
    refine A_iast X g7 shM_27 dX12_enter_51 (fun s8 hy => ?_)
    replace h := ltD h s8 hy
    clear hy
    refine A_aload_n X 0 rfl rfl dX12_enter_52 ?_
    refine A_getI X fg_X12_enter_144 shM_0 (k := 43) rfl (by decide) dX12_enter_53 ?_
    exact A_ireturn X E h dX12_enter_56
  · replace h := ifT h c1
    refine A_iconst X dX12_enter_10 (z := (-1)) (by decide) ?_
    exact A_ireturn X E h dX12_enter_11
abbrev rm_X12_annul : Room := { frames := 1, cells := 0, slots := 0, locals := 22 }
theorem in_X12_annul_12 : ∀ w ∈ u_ws RX12 TX12 75, w ∈ wsX12_annul := fun w h => List.mem_cons_of_mem _ (List.mem_append_right _ h)
theorem fg_X12_annul_144 : aFl wsX12_annul RX12 144 12 43 := ⟨RX12, TX12, 75, rfl, in_X12_annul_12, by decide, (List.mem_of_getElem? (i := 1) rfl), rfl⟩
theorem fg_X12_annul_150 : aFl wsX12_annul RX12 150 12 45 := ⟨RX12, TX12, 75, rfl, in_X12_annul_12, by decide, (List.mem_of_getElem? (i := 2) rfl), rfl⟩
theorem fg_X12_annul_156 : aFl wsX12_annul RX12 156 12 47 := ⟨RX12, TX12, 75, rfl, in_X12_annul_12, by decide, (List.mem_of_getElem? (i := 3) rfl), rfl⟩
set_option maxRecDepth 100000 in
set_option maxHeartbeats 4000000 in
theorem w_X12_annul_42 {x : aC} {r : Int × Hp} {a1 : Int} (X : aX x cX12_annul wsX12_annul RX12 2 rm_X12_annul) (E : aE x shM (some .int) 0 r) (σ : Hp) (h : F_M_annul_42 a1 σ = some r) : aS x shM 2 42 [] [] σ := by
  unfold F_M_annul_42 at h
  refine A_iconst X dX12_annul_42 (z := (-1)) (by decide) ?_
  exact A_ireturn X E h dX12_annul_43
set_option maxRecDepth 100000 in
set_option maxHeartbeats 4000000 in
theorem m_X12_annul {l : Launch} {g : aG} {a1 : Int} {σ : Hp} {r : Int × Hp} (h : F_M_annul a1 σ = some r) : aMet l g shM yX12_annul wsX12_annul rm_X12_annul [vR 0, vI a1] σ 0 r := by
  unfold F_M_annul at h
  refine aMet_of (bytes := cX12_annul) (maxL := 2) (ret := (some .int)) (by decide +kernel) rfl (Nat.le_of_ble_eq_true rfl) ⟨rfl, rfl⟩ (fun x e1 e2 X E => ?_)
  subst e1; subst e2
  have X : aX x cX12_annul wsX12_annul RX12 2 rm_X12_annul := X
  show aS x shM 2 0 [(0, vR 0), (1, vI a1)] [] σ
  refine A_iload_n X 1 rfl rfl dX12_annul_0 ?_
  refine A_iconst X dX12_annul_1 (z := 1) (by decide) ?_
  refine A_icmp_lt X (tgt := 42) (by decide) dX12_annul_2 (fun c1 => ?_) (fun c1 => ?_)
  · replace h := ifT h c1
    refine A_sub [] rfl (L' := []) rfl ?_
    exact w_X12_annul_42 (a1 := a1) X E σ h
  · replace h := ifF h c1
    refine A_iload_n X 1 rfl rfl dX12_annul_5 ?_
    refine A_aload_n X 0 rfl rfl dX12_annul_6 ?_
    refine A_getI X fg_X12_annul_144 shM_0 (k := 43) rfl (by decide) dX12_annul_7 ?_
    refine A_icmp_gt X (tgt := 42) (by decide) dX12_annul_10 (fun c2 => ?_) (fun c2 => ?_)
    · replace h := ifT h c2
      refine A_sub [] rfl (L' := []) rfl ?_
      exact w_X12_annul_42 (a1 := a1) X E σ h
    · replace h := ifF h c2
      refine A_aload_n X 0 rfl rfl dX12_annul_13 ?_
      refine A_getR X fg_X12_annul_150 shM_0 (k := 45) rfl (by decide) dX12_annul_14 ?_
      refine A_iload_n X 1 rfl rfl dX12_annul_17 ?_
      obtain ⟨g3, h⟩ := gdD h
      refine A_iald X g3 shM_25 dX12_annul_18 ?_
      refine A_iconst X dX12_annul_19 (z := (-1)) (by decide) ?_
      refine A_icmp_eq X (tgt := 42) (by decide) dX12_annul_20 (fun c4 => ?_) (fun c4 => ?_)
      · replace h := ifT h c4
        refine A_sub [] rfl (L' := []) rfl ?_
        exact w_X12_annul_42 (a1 := a1) X E σ h
      · replace h := ifF h c4
        refine A_aload_n X 0 rfl rfl dX12_annul_23 ?_
        refine A_getR X fg_X12_annul_156 shM_0 (k := 47) rfl (by decide) dX12_annul_24 ?_
        refine A_iload_n X 1 rfl rfl dX12_annul_27 ?_
        obtain ⟨g5, h⟩ := gdD h
        refine A_iald X g5 shM_27 dX12_annul_28 ?_
        refine A_if_gt X (tgt := 42) (by decide) dX12_annul_29 (fun c6 => ?_) (fun c6 => ?_)
        · replace h := ifT h c6
          refine A_sub [] rfl (L' := []) rfl ?_
          exact w_X12_annul_42 (a1 := a1) X E σ h
        · replace h := ifF h c6
          refine A_aload_n X 0 rfl rfl dX12_annul_32 ?_
          refine A_getI X fg_X12_annul_144 shM_0 (k := 43) rfl (by decide) dX12_annul_33 ?_
          refine A_sipush X dX12_annul_36 (z := 200) (by decide) ?_
          refine A_icmp_ne X (tgt := 44) (by decide) dX12_annul_39 (fun c7 => ?_) (fun c7 => ?_)
          · replace h := ifF h c7
            refine A_aload_n X 0 rfl rfl dX12_annul_44 ?_
            refine A_getR X fg_X12_annul_156 shM_0 (k := 47) rfl (by decide) dX12_annul_45 ?_
            refine A_iload_n X 1 rfl rfl dX12_annul_48 ?_
            refine A_aload_n X 0 rfl rfl dX12_annul_49 ?_
            refine A_iconst X dX12_annul_50 (z := (-1)) (by decide) ?_
            refine A_iconst X dX12_annul_51 (z := 0) (by decide) ?_
            obtain ⟨v8, s9, e10, h⟩ := clD h
            refine A_callV_I (na := 2) X (m_X12_enter e10) gX12_annul_X12_enter rfl ⟨rfl, rfl⟩ (by decide +kernel) rfl ⟨Nat.le_of_ble_eq_true rfl, Nat.le_of_ble_eq_true rfl⟩ shM_0 (by decide) rfl rfl (Nat.le_of_ble_eq_true rfl) dX12_annul_52 ?_
            obtain ⟨g11, h⟩ := gdD h
            refine A_iast X g11 shM_27 dX12_annul_55 (fun s12 hy => ?_)
            replace h := ltD h s12 hy
            clear hy
            refine A_aload_n X 0 rfl rfl dX12_annul_56 ?_
            refine A_getR X fg_X12_annul_156 shM_0 (k := 47) rfl (by decide) dX12_annul_57 ?_
            refine A_iload_n X 1 rfl rfl dX12_annul_60 ?_
            obtain ⟨g13, h⟩ := gdD h
            refine A_iald X g13 shM_27 dX12_annul_61 ?_
            exact A_ireturn X E h dX12_annul_62
          · replace h := ifT h c7
            refine A_sub [] rfl (L' := []) rfl ?_
            exact w_X12_annul_42 (a1 := a1) X E σ h
abbrev rm_X12_apart : Room := { frames := 0, cells := 0, slots := 0, locals := 0 }
theorem in_X12_apart_12 : ∀ w ∈ u_ws RX12 TX12 75, w ∈ wsX12_apart := fun w h => List.mem_cons_of_mem _ (List.mem_append_right _ h)
theorem fg_X12_apart_192 : aFl wsX12_apart RX12 192 12 59 := ⟨RX12, TX12, 75, rfl, in_X12_apart_12, by decide, (List.mem_of_getElem? (i := 1) rfl), rfl⟩
set_option maxRecDepth 100000 in
set_option maxHeartbeats 4000000 in
theorem w_X12_apart_130 {x : aC} {r : Int × Hp} {a1 : Int} {a2 : Int} (X : aX x cX12_apart wsX12_apart RX12 11 rm_X12_apart) (E : aE x shM (some .long) 1 r) (t1 : Int) (σ : Hp) (h : F_M_apart_130 a1 a2 t1 σ = some r) : aS x shM 11 130 [] [vL t1] σ := by
  unfold F_M_apart_130 at h
  exact A_lreturn X E h dX12_apart_130
set_option maxRecDepth 100000 in
set_option maxHeartbeats 4000000 in
theorem w_X12_apart_115 {x : aC} {r : Int × Hp} {a1 : Int} {a2 : Int} (X : aX x cX12_apart wsX12_apart RX12 11 rm_X12_apart) (E : aE x shM (some .long) 1 r) (x3 : Int) (t1 : Int) (σ : Hp) (h : F_M_apart_115 a1 a2 x3 t1 σ = some r) : aS x shM 11 115 [(3, vL x3)] [vL t1] σ := by
  unfold F_M_apart_115 at h
  refine A_lstore X (L' := [(9, vL t1), (3, vL x3)]) (by decide) rfl dX12_apart_115 ?_
  refine A_lload X 0 rfl dX12_apart_117 ?_
  refine A_lload_n X 1 rfl rfl dX12_apart_119 ?_
  refine A_lcmp X dX12_apart_120 ?_
  refine A_if_ge X (tgt := 129) (by decide) dX12_apart_121 (fun c1 => ?_) (fun c1 => ?_)
  · replace h := ifT h c1
    refine A_lload_n X 1 rfl rfl dX12_apart_129 ?_
    refine A_sub [] rfl (L' := []) rfl ?_
    exact w_X12_apart_130 (a1 := a1) (a2 := a2) X E x3 σ h
  · replace h := ifF h c1
    refine A_lload X 0 rfl dX12_apart_124 ?_
    refine A_goto X (tgt := 130) (by decide) dX12_apart_126 ?_
    refine A_sub [] rfl (L' := []) rfl ?_
    exact w_X12_apart_130 (a1 := a1) (a2 := a2) X E t1 σ h
set_option maxRecDepth 100000 in
set_option maxHeartbeats 4000000 in
theorem w_X12_apart_112 {x : aC} {r : Int × Hp} {a1 : Int} {a2 : Int} (X : aX x cX12_apart wsX12_apart RX12 11 rm_X12_apart) (E : aE x shM (some .long) 1 r) (x3 : Int) (σ : Hp) (h : F_M_apart_112 a1 a2 x3 σ = some r) : aS x shM 11 112 [(3, vL x3)] [] σ := by
  unfold F_M_apart_112 at h
  refine A_ldc2 X (v := (1000000000000)) (List.mem_of_getElem? (i := 2) rfl) dX12_apart_112 (z := 1000000000000) (by decide +kernel) ?_
  exact w_X12_apart_115 (a1 := a1) (a2 := a2) X E x3 1000000000000 σ h
set_option maxRecDepth 100000 in
set_option maxHeartbeats 4000000 in
theorem w_X12_apart_39 {x : aC} {r : Int × Hp} {a1 : Int} {a2 : Int} (X : aX x cX12_apart wsX12_apart RX12 11 rm_X12_apart) (E : aE x shM (some .long) 1 r) (t1 : Int) (σ : Hp) (h : F_M_apart_39 a1 a2 t1 σ = some r) : aS x shM 11 39 [(0, vR 0), (1, vI a1), (2, vI a2)] [vL t1] σ := by
  unfold F_M_apart_39 at h
  refine A_lstore_n X (L' := [(3, vL t1), (0, vR 0), (1, vI a1), (2, vI a2)]) rfl (by decide) rfl dX12_apart_39 ?_
  refine A_aload_n X 1 rfl rfl dX12_apart_40 ?_
  refine A_getR X fg_X12_apart_192 shM_0 (k := 59) rfl (by decide) dX12_apart_41 ?_
  refine A_bipush X dX12_apart_44 (z := 24) (by decide) ?_
  refine A_iload_n X 3 rfl rfl dX12_apart_46 ?_
  refine A_iconst X dX12_apart_47 (z := 2) (by decide) ?_
  refine A_idiv X (by decide) dX12_apart_48 ?_
  refine A_iconst X dX12_apart_49 (z := 2) (by decide) ?_
  refine A_imul X dX12_apart_50 ?_
  refine A_iconst X dX12_apart_51 (z := 1) (by decide) ?_
  refine A_iadd X dX12_apart_52 ?_
  refine A_iload_n X 3 rfl rfl dX12_apart_53 ?_
  refine A_iconst X dX12_apart_54 (z := 2) (by decide) ?_
  refine A_irem X (by decide) dX12_apart_55 ?_
  refine A_isub X dX12_apart_56 ?_
  refine A_imul X dX12_apart_57 ?_
  refine A_iload_n X 3 rfl rfl dX12_apart_58 ?_
  refine A_iadd X dX12_apart_59 ?_
  obtain ⟨g2, h⟩ := gdD h
  refine A_lald X g2 shM_38 dX12_apart_60 ?_
  refine A_lstoreN X (L' := fun y5_3 => [(5, vL y5_3), (3, vL t1), (0, vR 0), (1, vI a1), (2, vI a2)]) (by decide) (fun _ => rfl) dX12_apart_61 (fun y5_3 hy => ?_)
  replace h := ltD h y5_3 hy
  clear hy
  refine A_aload_n X 2 rfl rfl dX12_apart_63 ?_
  refine A_getR X fg_X12_apart_192 shM_0 (k := 59) rfl (by decide) dX12_apart_64 ?_
  refine A_bipush X dX12_apart_67 (z := 24) (by decide) ?_
  refine A_iload_n X 3 rfl rfl dX12_apart_69 ?_
  refine A_imul X dX12_apart_70 ?_
  refine A_iload_n X 3 rfl rfl dX12_apart_71 ?_
  refine A_iconst X dX12_apart_72 (z := 2) (by decide) ?_
  refine A_idiv X (by decide) dX12_apart_73 ?_
  refine A_iconst X dX12_apart_74 (z := 2) (by decide) ?_
  refine A_imul X dX12_apart_75 ?_
  refine A_iadd X dX12_apart_76 ?_
  refine A_iconst X dX12_apart_77 (z := 1) (by decide) ?_
  refine A_iadd X dX12_apart_78 ?_
  refine A_iload_n X 3 rfl rfl dX12_apart_79 ?_
  refine A_iconst X dX12_apart_80 (z := 2) (by decide) ?_
  refine A_irem X (by decide) dX12_apart_81 ?_
  refine A_isub X dX12_apart_82 ?_
  obtain ⟨g4, h⟩ := gdD h
  refine A_lald X g4 shM_38 dX12_apart_83 ?_
  refine A_lstoreN X (L' := fun y7_5 => [(7, vL y7_5), (5, vL y5_3), (3, vL t1), (0, vR 0), (1, vI a1), (2, vI a2)]) (by decide) (fun _ => rfl) dX12_apart_84 (fun y7_5 hy => ?_)
  replace h := ltD h y7_5 hy
  clear hy
  refine A_lload X 1 rfl dX12_apart_86 ?_
  refine A_ldc2 X (v := (1000000000000)) (List.mem_of_getElem? (i := 2) rfl) dX12_apart_88 (z := 1000000000000) (by decide +kernel) ?_
  refine A_lcmp X dX12_apart_91 ?_
  refine A_if_ge X (tgt := 112) (by decide) dX12_apart_92 (fun c6 => ?_) (fun c6 => ?_)
  · replace h := ifT h c6
    refine A_sub [2] rfl (L' := [(3, vL t1)]) rfl ?_
    exact w_X12_apart_112 (a1 := a1) (a2 := a2) X E t1 σ h
  · replace h := ifF h c6
    refine A_lload X 0 rfl dX12_apart_95 ?_
    refine A_ldc2 X (v := (1000000000000)) (List.mem_of_getElem? (i := 2) rfl) dX12_apart_97 (z := 1000000000000) (by decide +kernel) ?_
    refine A_lcmp X dX12_apart_100 ?_
    refine A_if_ge X (tgt := 112) (by decide) dX12_apart_101 (fun c7 => ?_) (fun c7 => ?_)
    · replace h := ifT h c7
      refine A_sub [2] rfl (L' := [(3, vL t1)]) rfl ?_
      exact w_X12_apart_112 (a1 := a1) (a2 := a2) X E t1 σ h
    · replace h := ifF h c7
      refine A_lload X 1 rfl dX12_apart_104 ?_
      refine A_lload X 0 rfl dX12_apart_106 ?_
      refine A_ladd X dX12_apart_108 ?_
      refine A_goto X (tgt := 115) (by decide) dX12_apart_109 ?_
      refine A_sub [2] rfl (L' := [(3, vL t1)]) rfl ?_
      exact w_X12_apart_115 (a1 := a1) (a2 := a2) X E t1 (ladd y5_3 y7_5) σ h
set_option maxRecDepth 100000 in
set_option maxHeartbeats 4000000 in
theorem m_X12_apart {l : Launch} {g : aG} {a1 : Int} {a2 : Int} {σ : Hp} {r : Int × Hp} (h : F_M_apart a1 a2 σ = some r) : aMet l g shM yX12_apart wsX12_apart rm_X12_apart [vR 0, vI a1, vI a2] σ 1 r := by
  unfold F_M_apart at h
  refine aMet_of (bytes := cX12_apart) (maxL := 11) (ret := (some .long)) (by decide +kernel) rfl (Nat.le_of_ble_eq_true rfl) ⟨rfl, rfl⟩ (fun x e1 e2 X E => ?_)
  subst e1; subst e2
  have X : aX x cX12_apart wsX12_apart RX12 11 rm_X12_apart := X
  show aS x shM 11 0 [(0, vR 0), (1, vI a1), (2, vI a2)] [] σ
  refine A_aload_n X 0 rfl rfl dX12_apart_0 ?_
  refine A_getR X fg_X12_apart_192 shM_0 (k := 59) rfl (by decide) dX12_apart_1 ?_
  refine A_bipush X dX12_apart_4 (z := 24) (by decide) ?_
  refine A_iload_n X 1 rfl rfl dX12_apart_6 ?_
  refine A_imul X dX12_apart_7 ?_
  refine A_iload_n X 2 rfl rfl dX12_apart_8 ?_
  refine A_iadd X dX12_apart_9 ?_
  obtain ⟨g8, h⟩ := gdD h
  refine A_lald X g8 shM_38 dX12_apart_10 ?_
  refine A_ldc2 X (v := (1000000000000)) (List.mem_of_getElem? (i := 2) rfl) dX12_apart_11 (z := 1000000000000) (by decide +kernel) ?_
  refine A_lcmp X dX12_apart_14 ?_
  refine A_if_ge X (tgt := 36) (by decide) dX12_apart_15 (fun c9 => ?_) (fun c9 => ?_)
  · replace h := ifT h c9
    refine A_ldc2 X (v := (1000000000000)) (List.mem_of_getElem? (i := 2) rfl) dX12_apart_36 (z := 1000000000000) (by decide +kernel) ?_
    exact w_X12_apart_39 (a1 := a1) (a2 := a2) X E 1000000000000 σ h
  · replace h := ifF h c9
    refine A_ldc2 X (v := (2)) (List.mem_of_getElem? (i := 3) rfl) dX12_apart_18 (z := 2) (by decide +kernel) ?_
    refine A_aload_n X 0 rfl rfl dX12_apart_21 ?_
    refine A_getR X fg_X12_apart_192 shM_0 (k := 59) rfl (by decide) dX12_apart_22 ?_
    refine A_bipush X dX12_apart_25 (z := 24) (by decide) ?_
    refine A_iload_n X 1 rfl rfl dX12_apart_27 ?_
    refine A_imul X dX12_apart_28 ?_
    refine A_iload_n X 2 rfl rfl dX12_apart_29 ?_
    refine A_iadd X dX12_apart_30 ?_
    obtain ⟨g10, h⟩ := gdD h
    refine A_lald X g10 shM_38 dX12_apart_31 ?_
    refine A_lmul X dX12_apart_32 ?_
    refine A_goto X (tgt := 39) (by decide) dX12_apart_33 ?_
    exact w_X12_apart_39 (a1 := a1) (a2 := a2) X E (lmul 2 (σ 38 (iadd (imul 24 a1) a2).toNat)) σ h
abbrev rm_X12_is : Room := { frames := 0, cells := 0, slots := 0, locals := 0 }
set_option maxRecDepth 100000 in
set_option maxHeartbeats 4000000 in
theorem w_X12_is_15 {x : aC} {r : Int × Hp} {a0 : Int} {a1 : Int} {a2 : Int} (X : aX x cX12_is wsX12_is RX12 3 rm_X12_is) (E : aE x shM (some .boolean) 0 r) (t1 : Int) (σ : Hp) (h : F_M_is_15 a0 a1 a2 t1 σ = some r) : aS x shM 3 15 [] [vI t1] σ := by
  unfold F_M_is_15 at h
  obtain ⟨g1, h⟩ := gdD h
  exact A_zreturn X g1 E h dX12_is_15
set_option maxRecDepth 100000 in
set_option maxHeartbeats 4000000 in
theorem w_X12_is_14 {x : aC} {r : Int × Hp} {a0 : Int} {a1 : Int} {a2 : Int} (X : aX x cX12_is wsX12_is RX12 3 rm_X12_is) (E : aE x shM (some .boolean) 0 r) (σ : Hp) (h : F_M_is_14 a0 a1 a2 σ = some r) : aS x shM 3 14 [] [] σ := by
  unfold F_M_is_14 at h
  refine A_iconst X dX12_is_14 (z := 0) (by decide) ?_
  exact w_X12_is_15 (a0 := a0) (a1 := a1) (a2 := a2) X E 0 σ h
set_option maxRecDepth 100000 in
set_option maxHeartbeats 4000000 in
theorem m_X12_is {l : Launch} {g : aG} {a0 : Int} {a1 : Int} {a2 : Int} {σ : Hp} {r : Int × Hp} (h : F_M_is a0 a1 a2 σ = some r) : aMet l g shM yX12_is wsX12_is rm_X12_is [vI a0, vI a1, vI a2] σ 0 r := by
  unfold F_M_is at h
  refine aMet_of (bytes := cX12_is) (maxL := 3) (ret := (some .boolean)) (by decide +kernel) rfl (Nat.le_of_ble_eq_true rfl) ⟨rfl, rfl⟩ (fun x e1 e2 X E => ?_)
  subst e1; subst e2
  have X : aX x cX12_is wsX12_is RX12 3 rm_X12_is := X
  show aS x shM 3 0 [(0, vI a0), (1, vI a1), (2, vI a2)] [] σ
  refine A_iload_n X 0 rfl rfl dX12_is_0 ?_
  refine A_iload_n X 1 rfl rfl dX12_is_1 ?_
  refine A_icmp_lt X (tgt := 14) (by decide) dX12_is_2 (fun c2 => ?_) (fun c2 => ?_)
  · replace h := ifT h c2
    refine A_sub [] rfl (L' := []) rfl ?_
    exact w_X12_is_14 (a0 := a0) (a1 := a1) (a2 := a2) X E σ h
  · replace h := ifF h c2
    refine A_iload_n X 0 rfl rfl dX12_is_5 ?_
    refine A_iload_n X 2 rfl rfl dX12_is_6 ?_
    refine A_icmp_gt X (tgt := 14) (by decide) dX12_is_7 (fun c3 => ?_) (fun c3 => ?_)
    · replace h := ifT h c3
      refine A_sub [] rfl (L' := []) rfl ?_
      exact w_X12_is_14 (a0 := a0) (a1 := a1) (a2 := a2) X E σ h
    · replace h := ifF h c3
      refine A_iconst X dX12_is_10 (z := 1) (by decide) ?_
      refine A_goto X (tgt := 15) (by decide) dX12_is_11 ?_
      refine A_sub [] rfl (L' := []) rfl ?_
      exact w_X12_is_15 (a0 := a0) (a1 := a1) (a2 := a2) X E 1 σ h
abbrev rm_X12_as : Room := { frames := 1, cells := 0, slots := 0, locals := 22 }
theorem in_X12_as_12 : ∀ w ∈ u_ws RX12 TX12 75, w ∈ wsX12_as := fun w h => List.mem_cons_of_mem _ (List.mem_append_right _ h)
theorem fg_X12_as_144 : aFl wsX12_as RX12 144 12 43 := ⟨RX12, TX12, 75, rfl, in_X12_as_12, by decide, (List.mem_of_getElem? (i := 1) rfl), rfl⟩
theorem fp_X12_as_147 : aFp wsX12_as RX12 147 12 44 .int := ⟨RX12, TX12, 75, tyX12, rfl, in_X12_as_12, by decide, (List.mem_of_getElem? (i := 2) rfl), rfl, tyX12_ok, nmX12, rfl, rfl⟩
set_option maxRecDepth 100000 in
set_option maxHeartbeats 4000000 in
theorem m_X12_as {l : Launch} {g : aG} {a1 : Int} {σ : Hp} {r : Int × Hp} (h : F_M_as a1 σ = some r) : aMet l g shM yX12_as wsX12_as rm_X12_as [vR 0, vI a1] σ 0 r := by
  unfold F_M_as at h
  refine aMet_of (bytes := cX12_as) (maxL := 2) (ret := (some .boolean)) (by decide +kernel) rfl (Nat.le_of_ble_eq_true rfl) ⟨rfl, rfl⟩ (fun x e1 e2 X E => ?_)
  subst e1; subst e2
  have X : aX x cX12_as wsX12_as RX12 2 rm_X12_as := X
  show aS x shM 2 0 [(0, vR 0), (1, vI a1)] [] σ
  refine A_iload_n X 1 rfl rfl dX12_as_0 ?_
  refine A_iconst X dX12_as_1 (z := (-1)) (by decide) ?_
  refine A_aload_n X 0 rfl rfl dX12_as_2 ?_
  refine A_getI X fg_X12_as_144 shM_0 (k := 43) rfl (by decide) dX12_as_3 ?_
  obtain ⟨v1, s2, e3, h⟩ := clD h
  refine A_callS_I (na := 3) X (m_X12_is e3) gX12_as_X12_is rfl ⟨rfl, rfl⟩ (by decide +kernel) rfl ⟨Nat.le_of_ble_eq_true rfl, Nat.le_of_ble_eq_true rfl⟩ rfl (Nat.le_of_ble_eq_true rfl) dX12_as_6 ?_
  refine A_if_ne X (tgt := 14) (by decide) dX12_as_9 (fun c4 => ?_) (fun c4 => ?_)
  · replace h := ifF h c4
    refine A_aload_n X 0 rfl rfl dX12_as_14 ?_
    refine A_iload_n X 1 rfl rfl dX12_as_15 ?_
    refine A_putI X fp_X12_as_147 shM_0 (k := 44) rfl (by decide) dX12_as_16 (fun s5 hy => ?_)
    replace h := ltD h s5 hy
    clear hy
    refine A_iconst X dX12_as_19 (z := 1) (by decide) ?_
    exact A_zreturn X (Or.inr rfl) E h dX12_as_20
  · replace h := ifT h c4
    refine A_iconst X dX12_as_12 (z := 0) (by decide) ?_
    exact A_zreturn X (Or.inl rfl) E h dX12_as_13
abbrev rm_X12_bound : Room := { frames := 0, cells := 0, slots := 0, locals := 0 }
theorem in_X12_bound_12 : ∀ w ∈ u_ws RX12 TX12 75, w ∈ wsX12_bound := fun w h => List.mem_cons_of_mem _ (List.mem_append_right _ h)
theorem fg_X12_bound_192 : aFl wsX12_bound RX12 192 12 59 := ⟨RX12, TX12, 75, rfl, in_X12_bound_12, by decide, (List.mem_of_getElem? (i := 1) rfl), rfl⟩
set_option maxRecDepth 100000 in
set_option maxHeartbeats 4000000 in
theorem w_X12_bound_41 {x : aC} {r : Int × Hp} {a1 : Int} {a2 : Int} {a3 : Int} (X : aX x cX12_bound wsX12_bound RX12 5 rm_X12_bound) (E : aE x shM none 3 r) (t3 : Int) (t2 : Int) (σ : Hp) (h : F_M_bound_41 a1 a2 a3 t3 t2 σ = some r) : aS x shM 5 41 [] [vL t3, vI t2, vR 38] σ := by
  unfold F_M_bound_41 at h
  obtain ⟨g1, h⟩ := gdD h
  refine A_last X g1 shM_38 dX12_bound_41 (fun s2 hy => ?_)
  replace h := ltD h s2 hy
  clear hy
  exact A_return X E h dX12_bound_42
set_option maxRecDepth 100000 in
set_option maxHeartbeats 4000000 in
theorem m_X12_bound {l : Launch} {g : aG} {a1 : Int} {a2 : Int} {a3 : Int} {σ : Hp} {r : Int × Hp} (h : F_M_bound a1 a2 a3 σ = some r) : aMet l g shM yX12_bound wsX12_bound rm_X12_bound [vR 0, vI a1, vI a2, vL a3] σ 3 r := by
  unfold F_M_bound at h
  refine aMet_of (bytes := cX12_bound) (maxL := 5) (ret := none) (by decide +kernel) rfl (Nat.le_of_ble_eq_true rfl) ⟨rfl, rfl⟩ (fun x e1 e2 X E => ?_)
  subst e1; subst e2
  have X : aX x cX12_bound wsX12_bound RX12 5 rm_X12_bound := X
  show aS x shM 5 0 [(0, vR 0), (1, vI a1), (2, vI a2), (3, vL a3)] [] σ
  refine A_aload_n X 0 rfl rfl dX12_bound_0 ?_
  refine A_getR X fg_X12_bound_192 shM_0 (k := 59) rfl (by decide) dX12_bound_1 ?_
  refine A_bipush X dX12_bound_4 (z := 24) (by decide) ?_
  refine A_iload_n X 1 rfl rfl dX12_bound_6 ?_
  refine A_imul X dX12_bound_7 ?_
  refine A_iload_n X 2 rfl rfl dX12_bound_8 ?_
  refine A_iadd X dX12_bound_9 ?_
  refine A_lload_n X 3 rfl rfl dX12_bound_10 ?_
  refine A_aload_n X 0 rfl rfl dX12_bound_11 ?_
  refine A_getR X fg_X12_bound_192 shM_0 (k := 59) rfl (by decide) dX12_bound_12 ?_
  refine A_bipush X dX12_bound_15 (z := 24) (by decide) ?_
  refine A_iload_n X 1 rfl rfl dX12_bound_17 ?_
  refine A_imul X dX12_bound_18 ?_
  refine A_iload_n X 2 rfl rfl dX12_bound_19 ?_
  refine A_iadd X dX12_bound_20 ?_
  obtain ⟨g3, h⟩ := gdD h
  refine A_lald X g3 shM_38 dX12_bound_21 ?_
  refine A_lcmp X dX12_bound_22 ?_
  refine A_if_ge X (tgt := 30) (by decide) dX12_bound_23 (fun c4 => ?_) (fun c4 => ?_)
  · replace h := ifT h c4
    refine A_aload_n X 0 rfl rfl dX12_bound_30 ?_
    refine A_getR X fg_X12_bound_192 shM_0 (k := 59) rfl (by decide) dX12_bound_31 ?_
    refine A_bipush X dX12_bound_34 (z := 24) (by decide) ?_
    refine A_iload_n X 1 rfl rfl dX12_bound_36 ?_
    refine A_imul X dX12_bound_37 ?_
    refine A_iload_n X 2 rfl rfl dX12_bound_38 ?_
    refine A_iadd X dX12_bound_39 ?_
    obtain ⟨g5, h⟩ := gdD h
    refine A_lald X g5 shM_38 dX12_bound_40 ?_
    refine A_sub [] rfl (L' := []) rfl ?_
    exact w_X12_bound_41 (a1 := a1) (a2 := a2) (a3 := a3) X E (σ 38 (iadd (imul 24 a1) a2).toNat) (iadd (imul 24 a1) a2) σ h
  · replace h := ifF h c4
    refine A_lload_n X 3 rfl rfl dX12_bound_26 ?_
    refine A_goto X (tgt := 41) (by decide) dX12_bound_27 ?_
    refine A_sub [] rfl (L' := []) rfl ?_
    exact w_X12_bound_41 (a1 := a1) (a2 := a2) (a3 := a3) X E a3 (iadd (imul 24 a1) a2) σ h
abbrev rm_X12_atLeast : Room := { frames := 1, cells := 0, slots := 0, locals := 24 }
set_option maxRecDepth 100000 in
set_option maxHeartbeats 4000000 in
theorem m_X12_atLeast {l : Launch} {g : aG} {a1 : Int} {a2 : Int} {σ : Hp} {r : Int × Hp} (h : F_M_atLeast a1 a2 σ = some r) : aMet l g shM yX12_atLeast wsX12_atLeast rm_X12_atLeast [vR 0, vI a1, vL a2] σ 3 r := by
  unfold F_M_atLeast at h
  refine aMet_of (bytes := cX12_atLeast) (maxL := 4) (ret := none) (by decide +kernel) rfl (Nat.le_of_ble_eq_true rfl) ⟨rfl, rfl⟩ (fun x e1 e2 X E => ?_)
  subst e1; subst e2
  have X : aX x cX12_atLeast wsX12_atLeast RX12 4 rm_X12_atLeast := X
  show aS x shM 4 0 [(0, vR 0), (1, vI a1), (2, vL a2)] [] σ
  refine A_aload_n X 0 rfl rfl dX12_atLeast_0 ?_
  refine A_iconst X dX12_atLeast_1 (z := 2) (by decide) ?_
  refine A_iload_n X 1 rfl rfl dX12_atLeast_2 ?_
  refine A_imul X dX12_atLeast_3 ?_
  refine A_iconst X dX12_atLeast_4 (z := 2) (by decide) ?_
  refine A_iload_n X 1 rfl rfl dX12_atLeast_5 ?_
  refine A_imul X dX12_atLeast_6 ?_
  refine A_iconst X dX12_atLeast_7 (z := 1) (by decide) ?_
  refine A_iadd X dX12_atLeast_8 ?_
  refine A_ldc2 X (v := (-2)) (List.mem_of_getElem? (i := 1) rfl) dX12_atLeast_9 (z := (-2)) (by decide +kernel) ?_
  refine A_lload_n X 2 rfl rfl dX12_atLeast_12 ?_
  refine A_lmul X dX12_atLeast_13 ?_
  obtain ⟨v1, s2, e3, h⟩ := clD h
  refine A_callV_V (na := 3) X (m_X12_bound e3) gX12_atLeast_X12_bound rfl ⟨rfl, rfl⟩ (by decide +kernel) rfl ⟨Nat.le_of_ble_eq_true rfl, Nat.le_of_ble_eq_true rfl⟩ shM_0 (by decide) rfl rfl (Nat.le_of_ble_eq_true rfl) dX12_atLeast_14 ?_
  exact A_return X E h dX12_atLeast_17
abbrev rm_X12_atMost : Room := { frames := 1, cells := 0, slots := 0, locals := 24 }
set_option maxRecDepth 100000 in
set_option maxHeartbeats 4000000 in
theorem m_X12_atMost {l : Launch} {g : aG} {a1 : Int} {a2 : Int} {σ : Hp} {r : Int × Hp} (h : F_M_atMost a1 a2 σ = some r) : aMet l g shM yX12_atMost wsX12_atMost rm_X12_atMost [vR 0, vI a1, vL a2] σ 3 r := by
  unfold F_M_atMost at h
  refine aMet_of (bytes := cX12_atMost) (maxL := 4) (ret := none) (by decide +kernel) rfl (Nat.le_of_ble_eq_true rfl) ⟨rfl, rfl⟩ (fun x e1 e2 X E => ?_)
  subst e1; subst e2
  have X : aX x cX12_atMost wsX12_atMost RX12 4 rm_X12_atMost := X
  show aS x shM 4 0 [(0, vR 0), (1, vI a1), (2, vL a2)] [] σ
  refine A_aload_n X 0 rfl rfl dX12_atMost_0 ?_
  refine A_iconst X dX12_atMost_1 (z := 2) (by decide) ?_
  refine A_iload_n X 1 rfl rfl dX12_atMost_2 ?_
  refine A_imul X dX12_atMost_3 ?_
  refine A_iconst X dX12_atMost_4 (z := 1) (by decide) ?_
  refine A_iadd X dX12_atMost_5 ?_
  refine A_iconst X dX12_atMost_6 (z := 2) (by decide) ?_
  refine A_iload_n X 1 rfl rfl dX12_atMost_7 ?_
  refine A_imul X dX12_atMost_8 ?_
  refine A_ldc2 X (v := (2)) (List.mem_of_getElem? (i := 1) rfl) dX12_atMost_9 (z := 2) (by decide +kernel) ?_
  refine A_lload_n X 2 rfl rfl dX12_atMost_12 ?_
  refine A_lmul X dX12_atMost_13 ?_
  obtain ⟨v1, s2, e3, h⟩ := clD h
  refine A_callV_V (na := 3) X (m_X12_bound e3) gX12_atMost_X12_bound rfl ⟨rfl, rfl⟩ (by decide +kernel) rfl ⟨Nat.le_of_ble_eq_true rfl, Nat.le_of_ble_eq_true rfl⟩ shM_0 (by decide) rfl rfl (Nat.le_of_ble_eq_true rfl) dX12_atMost_14 ?_
  exact A_return X E h dX12_atMost_17
abbrev rm_X12_now : Room := { frames := 0, cells := 0, slots := 0, locals := 0 }
theorem in_X12_now_12 : ∀ w ∈ u_ws RX12 TX12 75, w ∈ wsX12_now := fun w h => List.mem_cons_of_mem _ (List.mem_append_right _ h)
theorem fg_X12_now_147 : aFl wsX12_now RX12 147 12 44 := ⟨RX12, TX12, 75, rfl, in_X12_now_12, by decide, (List.mem_of_getElem? (i := 1) rfl), rfl⟩
theorem fg_X12_now_144 : aFl wsX12_now RX12 144 12 43 := ⟨RX12, TX12, 75, rfl, in_X12_now_12, by decide, (List.mem_of_getElem? (i := 2) rfl), rfl⟩
set_option maxRecDepth 100000 in
set_option maxHeartbeats 4000000 in
theorem w_X12_now_19 {x : aC} {r : Int × Hp} (X : aX x cX12_now wsX12_now RX12 1 rm_X12_now) (E : aE x shM (some .int) 0 r) (t1 : Int) (σ : Hp) (h : F_M_now_19 t1 σ = some r) : aS x shM 1 19 [] [vI t1] σ := by
  unfold F_M_now_19 at h
  exact A_ireturn X E h dX12_now_19
set_option maxRecDepth 100000 in
set_option maxHeartbeats 4000000 in
theorem m_X12_now {l : Launch} {g : aG} {σ : Hp} {r : Int × Hp} (h : F_M_now σ = some r) : aMet l g shM yX12_now wsX12_now rm_X12_now [vR 0] σ 0 r := by
  unfold F_M_now at h
  refine aMet_of (bytes := cX12_now) (maxL := 1) (ret := (some .int)) (by decide +kernel) rfl (Nat.le_of_ble_eq_true rfl) ⟨rfl, rfl⟩ (fun x e1 e2 X E => ?_)
  subst e1; subst e2
  have X : aX x cX12_now wsX12_now RX12 1 rm_X12_now := X
  show aS x shM 1 0 [(0, vR 0)] [] σ
  refine A_aload_n X 0 rfl rfl dX12_now_0 ?_
  refine A_getI X fg_X12_now_147 shM_0 (k := 44) rfl (by decide) dX12_now_1 ?_
  refine A_iconst X dX12_now_4 (z := (-1)) (by decide) ?_
  refine A_icmp_ne X (tgt := 15) (by decide) dX12_now_5 (fun c1 => ?_) (fun c1 => ?_)
  · replace h := ifF h c1
    refine A_aload_n X 0 rfl rfl dX12_now_15 ?_
    refine A_getI X fg_X12_now_147 shM_0 (k := 44) rfl (by decide) dX12_now_16 ?_
    refine A_sub [] rfl (L' := []) rfl ?_
    exact w_X12_now_19 X E (σ 0 44) σ h
  · replace h := ifT h c1
    refine A_aload_n X 0 rfl rfl dX12_now_8 ?_
    refine A_getI X fg_X12_now_144 shM_0 (k := 43) rfl (by decide) dX12_now_9 ?_
    refine A_goto X (tgt := 19) (by decide) dX12_now_12 ?_
    refine A_sub [] rfl (L' := []) rfl ?_
    exact w_X12_now_19 X E (σ 0 43) σ h
abbrev rm_X12_leaf : Room := { frames := 1, cells := 0, slots := 0, locals := 21 }
theorem in_X12_leaf_12 : ∀ w ∈ u_ws RX12 TX12 75, w ∈ wsX12_leaf := fun w h => List.mem_cons_of_mem _ (List.mem_append_right _ h)
theorem fg_X12_leaf_141 : aFl wsX12_leaf RX12 141 12 42 := ⟨RX12, TX12, 75, rfl, in_X12_leaf_12, by decide, (List.mem_of_getElem? (i := 1) rfl), rfl⟩
set_option maxRecDepth 100000 in
set_option maxHeartbeats 4000000 in
theorem m_X12_leaf {l : Launch} {g : aG} {a1 : Int} {a2 : Int} {σ : Hp} {r : Int × Hp} (h : F_M_leaf a1 a2 σ = some r) : aMet l g shM yX12_leaf wsX12_leaf rm_X12_leaf [vR 0, vI a1, vI a2] σ 1 r := by
  unfold F_M_leaf at h
  refine aMet_of (bytes := cX12_leaf) (maxL := 3) (ret := (some .long)) (by decide +kernel) rfl (Nat.le_of_ble_eq_true rfl) ⟨rfl, rfl⟩ (fun x e1 e2 X E => ?_)
  subst e1; subst e2
  have X : aX x cX12_leaf wsX12_leaf RX12 3 rm_X12_leaf := X
  show aS x shM 3 0 [(0, vR 0), (1, vI a1), (2, vI a2)] [] σ
  refine A_iload_n X 1 rfl rfl dX12_leaf_0 ?_
  by_cases c1 : a1 = 0
  · replace h := ifT h c1
    refine A_tIn X (j := 0) (tgt := 36) c1 (by decide) (by decide) rfl (by decide) dX12_leaf_1 ?_
    refine A_iload_n X 2 rfl rfl dX12_leaf_36 ?_
    refine A_i2l X dX12_leaf_37 ?_
    exact A_lreturn X E h dX12_leaf_38
  replace h := ifF h c1
  by_cases c2 : a1 = 1
  · replace h := ifT h c2
    refine A_tIn X (j := 1) (tgt := 39) c2 (by decide) (by decide) rfl (by decide) dX12_leaf_1 ?_
    refine A_aload_n X 0 rfl rfl dX12_leaf_39 ?_
    refine A_getI X fg_X12_leaf_141 shM_0 (k := 42) rfl (by decide) dX12_leaf_40 ?_
    refine A_i2l X dX12_leaf_43 ?_
    exact A_lreturn X E h dX12_leaf_44
  replace h := ifF h c2
  by_cases c3 : a1 = 2
  · replace h := ifT h c3
    refine A_tIn X (j := 2) (tgt := 45) c3 (by decide) (by decide) rfl (by decide) dX12_leaf_1 ?_
    refine A_aload_n X 0 rfl rfl dX12_leaf_45 ?_
    refine A_getI X fg_X12_leaf_141 shM_0 (k := 42) rfl (by decide) dX12_leaf_46 ?_
    refine A_bipush X dX12_leaf_49 (z := 7) (by decide) ?_
    refine A_idiv X (by decide) dX12_leaf_51 ?_
    refine A_i2l X dX12_leaf_52 ?_
    exact A_lreturn X E h dX12_leaf_53
  replace h := ifF h c3
  by_cases c4 : a1 = 3
  · replace h := ifT h c4
    refine A_tIn X (j := 3) (tgt := 54) c4 (by decide) (by decide) rfl (by decide) dX12_leaf_1 ?_
    refine A_aload_n X 0 rfl rfl dX12_leaf_54 ?_
    refine A_getI X fg_X12_leaf_141 shM_0 (k := 42) rfl (by decide) dX12_leaf_55 ?_
    refine A_bipush X dX12_leaf_58 (z := 7) (by decide) ?_
    refine A_irem X (by decide) dX12_leaf_60 ?_
    refine A_i2l X dX12_leaf_61 ?_
    exact A_lreturn X E h dX12_leaf_62
  replace h := ifF h c4
  by_cases c5 : a1 = 4
  · replace h := ifT h c5
    refine A_tIn X (j := 4) (tgt := 63) c5 (by decide) (by decide) rfl (by decide) dX12_leaf_1 ?_
    refine A_aload_n X 0 rfl rfl dX12_leaf_63 ?_
    refine A_iload_n X 2 rfl rfl dX12_leaf_64 ?_
    obtain ⟨v6, s7, e8, h⟩ := clD h
    refine A_callV_I (na := 1) X (m_X12_aloneOf e8) gX12_leaf_X12_aloneOf rfl ⟨rfl, rfl⟩ (by decide +kernel) rfl ⟨Nat.le_of_ble_eq_true rfl, Nat.le_of_ble_eq_true rfl⟩ shM_0 (by decide) rfl rfl (Nat.le_of_ble_eq_true rfl) dX12_leaf_65 ?_
    refine A_i2l X dX12_leaf_68 ?_
    exact A_lreturn X E h dX12_leaf_69
  replace h := ifF h c5
  refine A_tOut X (tgt := 70) (by omega) (by decide) dX12_leaf_1 ?_
  refine A_lconst X dX12_leaf_70 (z := 1) (by decide) ?_
  exact A_lreturn X E h dX12_leaf_71
abbrev rm_X12_held : Room := { frames := 0, cells := 0, slots := 0, locals := 0 }
set_option maxRecDepth 100000 in
set_option maxHeartbeats 4000000 in
theorem w_X12_held_29 {x : aC} {r : Int × Hp} {a0 : Int} (X : aX x cX12_held wsX12_held RX12 2 rm_X12_held) (E : aE x shM (some .long) 1 r) (t1 : Int) (σ : Hp) (h : F_M_held_29 a0 t1 σ = some r) : aS x shM 2 29 [] [vL t1] σ := by
  unfold F_M_held_29 at h
  exact A_lreturn X E h dX12_held_29
set_option maxRecDepth 100000 in
set_option maxHeartbeats 4000000 in
theorem m_X12_held {l : Launch} {g : aG} {a0 : Int} {σ : Hp} {r : Int × Hp} (h : F_M_held a0 σ = some r) : aMet l g shM yX12_held wsX12_held rm_X12_held [vL a0] σ 1 r := by
  unfold F_M_held at h
  refine aMet_of (bytes := cX12_held) (maxL := 2) (ret := (some .long)) (by decide +kernel) rfl (Nat.le_of_ble_eq_true rfl) ⟨rfl, rfl⟩ (fun x e1 e2 X E => ?_)
  subst e1; subst e2
  have X : aX x cX12_held wsX12_held RX12 2 rm_X12_held := X
  show aS x shM 2 0 [(0, vL a0)] [] σ
  refine A_lload_n X 0 rfl rfl dX12_held_0 ?_
  refine A_ldc2 X (v := (1000000000)) (List.mem_of_getElem? (i := 1) rfl) dX12_held_1 (z := 1000000000) (by decide +kernel) ?_
  refine A_lcmp X dX12_held_4 ?_
  refine A_if_le X (tgt := 14) (by decide) dX12_held_5 (fun c1 => ?_) (fun c1 => ?_)
  · replace h := ifT h c1
    refine A_lload_n X 0 rfl rfl dX12_held_14 ?_
    refine A_ldc2 X (v := (-1000000000)) (List.mem_of_getElem? (i := 2) rfl) dX12_held_15 (z := (-1000000000)) (by decide +kernel) ?_
    refine A_lcmp X dX12_held_18 ?_
    refine A_if_ge X (tgt := 28) (by decide) dX12_held_19 (fun c2 => ?_) (fun c2 => ?_)
    · replace h := ifT h c2
      refine A_lload_n X 0 rfl rfl dX12_held_28 ?_
      refine A_sub [] rfl (L' := []) rfl ?_
      exact w_X12_held_29 (a0 := a0) X E a0 σ h
    · replace h := ifF h c2
      refine A_ldc2 X (v := (-1000000000)) (List.mem_of_getElem? (i := 2) rfl) dX12_held_22 (z := (-1000000000)) (by decide +kernel) ?_
      refine A_goto X (tgt := 29) (by decide) dX12_held_25 ?_
      refine A_sub [] rfl (L' := []) rfl ?_
      exact w_X12_held_29 (a0 := a0) X E (-1000000000) σ h
  · replace h := ifF h c1
    refine A_ldc2 X (v := (1000000000)) (List.mem_of_getElem? (i := 1) rfl) dX12_held_8 (z := 1000000000) (by decide +kernel) ?_
    refine A_goto X (tgt := 29) (by decide) dX12_held_11 ?_
    refine A_sub [] rfl (L' := []) rfl ?_
    exact w_X12_held_29 (a0 := a0) X E 1000000000 σ h
abbrev rm_X12_over : Room := { frames := 0, cells := 0, slots := 0, locals := 0 }
set_option maxRecDepth 100000 in
set_option maxHeartbeats 4000000 in
theorem w_X12_over_55 {x : aC} {r : Int × Hp} {a0 : Int} {a2 : Int} (X : aX x cX12_over wsX12_over RX12 6 rm_X12_over) (E : aE x shM (some .long) 1 r) (t1 : Int) (σ : Hp) (h : F_M_over_55 a0 a2 t1 σ = some r) : aS x shM 6 55 [] [vL t1] σ := by
  unfold F_M_over_55 at h
  exact A_lreturn X E h dX12_over_55
set_option maxRecDepth 100000 in
set_option maxHeartbeats 4000000 in
theorem w_X12_over_53 {x : aC} {r : Int × Hp} {a0 : Int} {a2 : Int} (X : aX x cX12_over wsX12_over RX12 6 rm_X12_over) (E : aE x shM (some .long) 1 r) (x4 : Int) (σ : Hp) (h : F_M_over_53 a0 a2 x4 σ = some r) : aS x shM 6 53 [(4, vL x4)] [] σ := by
  unfold F_M_over_53 at h
  refine A_lload X 0 rfl dX12_over_53 ?_
  refine A_sub [] rfl (L' := []) rfl ?_
  exact w_X12_over_55 (a0 := a0) (a2 := a2) X E x4 σ h
set_option maxRecDepth 100000 in
set_option maxHeartbeats 4000000 in
theorem w_X12_over_43 {x : aC} {r : Int × Hp} {a0 : Int} {a2 : Int} (X : aX x cX12_over wsX12_over RX12 6 rm_X12_over) (E : aE x shM (some .long) 1 r) (x4 : Int) (t2 : Int) (t1 : Int) (σ : Hp) (h : F_M_over_43 a0 a2 x4 t2 t1 σ = some r) : aS x shM 6 43 [(4, vL x4)] [vI t2, vI t1] σ := by
  unfold F_M_over_43 at h
  refine A_icmp_eq X (tgt := 53) (by decide) dX12_over_43 (fun c1 => ?_) (fun c1 => ?_)
  · replace h := ifT h c1
    exact w_X12_over_53 (a0 := a0) (a2 := a2) X E x4 σ h
  · replace h := ifF h c1
    refine A_lload X 0 rfl dX12_over_46 ?_
    refine A_lconst X dX12_over_48 (z := 1) (by decide) ?_
    refine A_lsub X dX12_over_49 ?_
    refine A_goto X (tgt := 55) (by decide) dX12_over_50 ?_
    refine A_sub [] rfl (L' := []) rfl ?_
    exact w_X12_over_55 (a0 := a0) (a2 := a2) X E (lsub x4 1) σ h
set_option maxRecDepth 100000 in
set_option maxHeartbeats 4000000 in
theorem w_X12_over_32 {x : aC} {r : Int × Hp} {a0 : Int} {a2 : Int} (X : aX x cX12_over wsX12_over RX12 6 rm_X12_over) (E : aE x shM (some .long) 1 r) (x4 : Int) (t1 : Int) (σ : Hp) (h : F_M_over_32 a0 a2 x4 t1 σ = some r) : aS x shM 6 32 [(2, vL a2), (4, vL x4)] [vI t1] σ := by
  unfold F_M_over_32 at h
  refine A_lload_n X 0 rfl rfl dX12_over_32 ?_
  refine A_lconst X dX12_over_33 (z := 0) (by decide) ?_
  refine A_lcmp X dX12_over_34 ?_
  refine A_if_ge X (tgt := 42) (by decide) dX12_over_35 (fun c2 => ?_) (fun c2 => ?_)
  · replace h := ifT h c2
    refine A_iconst X dX12_over_42 (z := 0) (by decide) ?_
    refine A_sub [1] rfl (L' := [(4, vL x4)]) rfl ?_
    exact w_X12_over_43 (a0 := a0) (a2 := a2) X E x4 0 t1 σ h
  · replace h := ifF h c2
    refine A_iconst X dX12_over_38 (z := 1) (by decide) ?_
    refine A_goto X (tgt := 43) (by decide) dX12_over_39 ?_
    refine A_sub [1] rfl (L' := [(4, vL x4)]) rfl ?_
    exact w_X12_over_43 (a0 := a0) (a2 := a2) X E x4 1 t1 σ h
set_option maxRecDepth 100000 in
set_option maxHeartbeats 4000000 in
theorem m_X12_over {l : Launch} {g : aG} {a0 : Int} {a2 : Int} {σ : Hp} {r : Int × Hp} (h : F_M_over a0 a2 σ = some r) : aMet l g shM yX12_over wsX12_over rm_X12_over [vL a0, vL a2] σ 1 r := by
  unfold F_M_over at h
  refine aMet_of (bytes := cX12_over) (maxL := 6) (ret := (some .long)) (by decide +kernel) rfl (Nat.le_of_ble_eq_true rfl) ⟨rfl, rfl⟩ (fun x e1 e2 X E => ?_)
  subst e1; subst e2
  have X : aX x cX12_over wsX12_over RX12 6 rm_X12_over := X
  show aS x shM 6 0 [(0, vL a0), (2, vL a2)] [] σ
  refine A_lload_n X 1 rfl rfl dX12_over_0 ?_
  refine A_lconst X dX12_over_1 (z := 0) (by decide) ?_
  refine A_lcmp X dX12_over_2 ?_
  refine A_if_ne X (tgt := 8) (by decide) dX12_over_3 (fun c3 => ?_) (fun c3 => ?_)
  · replace h := ifF h c3
    refine A_lload_n X 0 rfl rfl dX12_over_8 ?_
    refine A_lload_n X 1 rfl rfl dX12_over_9 ?_
    obtain ⟨g4, h⟩ := gdD h
    refine A_ldiv X g4 dX12_over_10 ?_
    refine A_lstoreN X (L' := fun y4_5 => [(4, vL y4_5), (0, vL a0), (2, vL a2)]) (by decide) (fun _ => rfl) dX12_over_11 (fun y4_5 hy => ?_)
    replace h := ltD h y4_5 hy
    clear hy
    refine A_lload_n X 1 rfl rfl dX12_over_13 ?_
    refine A_lload_n X 2 rfl rfl dX12_over_14 ?_
    obtain ⟨g6, h⟩ := gdD h
    refine A_lrem X g6 dX12_over_15 ?_
    refine A_lconst X dX12_over_16 (z := 0) (by decide) ?_
    refine A_lcmp X dX12_over_17 ?_
    refine A_if_eq X (tgt := 53) (by decide) dX12_over_18 (fun c7 => ?_) (fun c7 => ?_)
    · replace h := ifT h c7
      refine A_sub [0] rfl (L' := [(4, vL y4_5)]) rfl ?_
      exact w_X12_over_53 (a0 := a0) (a2 := a2) X E y4_5 σ h
    · replace h := ifF h c7
      refine A_lload_n X 1 rfl rfl dX12_over_21 ?_
      refine A_lconst X dX12_over_22 (z := 0) (by decide) ?_
      refine A_lcmp X dX12_over_23 ?_
      refine A_if_ge X (tgt := 31) (by decide) dX12_over_24 (fun c8 => ?_) (fun c8 => ?_)
      · replace h := ifT h c8
        refine A_iconst X dX12_over_31 (z := 0) (by decide) ?_
        refine A_sub [2, 0] rfl (L' := [(2, vL a2), (4, vL y4_5)]) rfl ?_
        exact w_X12_over_32 (a0 := a0) (a2 := a2) X E y4_5 0 σ h
      · replace h := ifF h c8
        refine A_iconst X dX12_over_27 (z := 1) (by decide) ?_
        refine A_goto X (tgt := 32) (by decide) dX12_over_28 ?_
        refine A_sub [2, 0] rfl (L' := [(2, vL a2), (4, vL y4_5)]) rfl ?_
        exact w_X12_over_32 (a0 := a0) (a2 := a2) X E y4_5 1 σ h
  · replace h := ifT h c3
    refine A_lconst X dX12_over_6 (z := 0) (by decide) ?_
    exact A_lreturn X E h dX12_over_7
abbrev rm_X12_joined : Room := { frames := 1, cells := 0, slots := 0, locals := 25 }
set_option maxRecDepth 100000 in
set_option maxHeartbeats 4000000 in
theorem w_X12_joined_106 {x : aC} {r : Int × Hp} {a0 : Int} {a1 : Int} {a3 : Int} (X : aX x cX12_joined wsX12_joined RX12 5 rm_X12_joined) (E : aE x shM (some .long) 1 r) (t1 : Int) (σ : Hp) (h : F_M_joined_106 a0 a1 a3 t1 σ = some r) : aS x shM 5 106 [] [vL t1] σ := by
  unfold F_M_joined_106 at h
  exact A_lreturn X E h dX12_joined_106
set_option maxRecDepth 100000 in
set_option maxHeartbeats 4000000 in
theorem w_X12_joined_118 {x : aC} {r : Int × Hp} {a0 : Int} {a1 : Int} {a3 : Int} (X : aX x cX12_joined wsX12_joined RX12 5 rm_X12_joined) (E : aE x shM (some .long) 1 r) (t1 : Int) (σ : Hp) (h : F_M_joined_118 a0 a1 a3 t1 σ = some r) : aS x shM 5 118 [] [vL t1] σ := by
  unfold F_M_joined_118 at h
  exact A_lreturn X E h dX12_joined_118
set_option maxRecDepth 100000 in
set_option maxHeartbeats 4000000 in
theorem w_X12_joined_130 {x : aC} {r : Int × Hp} {a0 : Int} {a1 : Int} {a3 : Int} (X : aX x cX12_joined wsX12_joined RX12 5 rm_X12_joined) (E : aE x shM (some .long) 1 r) (t1 : Int) (σ : Hp) (h : F_M_joined_130 a0 a1 a3 t1 σ = some r) : aS x shM 5 130 [] [vL t1] σ := by
  unfold F_M_joined_130 at h
  exact A_lreturn X E h dX12_joined_130
set_option maxRecDepth 100000 in
set_option maxHeartbeats 4000000 in
theorem w_X12_joined_142 {x : aC} {r : Int × Hp} {a0 : Int} {a1 : Int} {a3 : Int} (X : aX x cX12_joined wsX12_joined RX12 5 rm_X12_joined) (E : aE x shM (some .long) 1 r) (t1 : Int) (σ : Hp) (h : F_M_joined_142 a0 a1 a3 t1 σ = some r) : aS x shM 5 142 [] [vL t1] σ := by
  unfold F_M_joined_142 at h
  exact A_lreturn X E h dX12_joined_142
set_option maxRecDepth 100000 in
set_option maxHeartbeats 4000000 in
theorem w_X12_joined_154 {x : aC} {r : Int × Hp} {a0 : Int} {a1 : Int} {a3 : Int} (X : aX x cX12_joined wsX12_joined RX12 5 rm_X12_joined) (E : aE x shM (some .long) 1 r) (t1 : Int) (σ : Hp) (h : F_M_joined_154 a0 a1 a3 t1 σ = some r) : aS x shM 5 154 [] [vL t1] σ := by
  unfold F_M_joined_154 at h
  exact A_lreturn X E h dX12_joined_154
set_option maxRecDepth 100000 in
set_option maxHeartbeats 4000000 in
theorem w_X12_joined_166 {x : aC} {r : Int × Hp} {a0 : Int} {a1 : Int} {a3 : Int} (X : aX x cX12_joined wsX12_joined RX12 5 rm_X12_joined) (E : aE x shM (some .long) 1 r) (t1 : Int) (σ : Hp) (h : F_M_joined_166 a0 a1 a3 t1 σ = some r) : aS x shM 5 166 [] [vL t1] σ := by
  unfold F_M_joined_166 at h
  exact A_lreturn X E h dX12_joined_166
set_option maxRecDepth 100000 in
set_option maxHeartbeats 4000000 in
theorem w_X12_joined_184 {x : aC} {r : Int × Hp} {a0 : Int} {a1 : Int} {a3 : Int} (X : aX x cX12_joined wsX12_joined RX12 5 rm_X12_joined) (E : aE x shM (some .long) 1 r) (t1 : Int) (σ : Hp) (h : F_M_joined_184 a0 a1 a3 t1 σ = some r) : aS x shM 5 184 [] [vL t1] σ := by
  unfold F_M_joined_184 at h
  exact A_lreturn X E h dX12_joined_184
set_option maxRecDepth 100000 in
set_option maxHeartbeats 4000000 in
theorem m_X12_joined {l : Launch} {g : aG} {a0 : Int} {a1 : Int} {a3 : Int} {σ : Hp} {r : Int × Hp} (h : F_M_joined a0 a1 a3 σ = some r) : aMet l g shM yX12_joined wsX12_joined rm_X12_joined [vI a0, vL a1, vL a3] σ 1 r := by
  unfold F_M_joined at h
  refine aMet_of (bytes := cX12_joined) (maxL := 5) (ret := (some .long)) (by decide +kernel) rfl (Nat.le_of_ble_eq_true rfl) ⟨rfl, rfl⟩ (fun x e1 e2 X E => ?_)
  subst e1; subst e2
  have X : aX x cX12_joined wsX12_joined RX12 5 rm_X12_joined := X
  show aS x shM 5 0 [(0, vI a0), (1, vL a1), (3, vL a3)] [] σ
  refine A_iload_n X 0 rfl rfl dX12_joined_0 ?_
  by_cases c1 : a0 = 6
  · replace h := ifT h c1
    refine A_tIn X (j := 6) (tgt := 60) c1 (by decide) (by decide) rfl (by decide) dX12_joined_1 ?_
    refine A_lload_n X 1 rfl rfl dX12_joined_60 ?_
    refine A_lload_n X 2 rfl rfl dX12_joined_61 ?_
    refine A_ladd X dX12_joined_62 ?_
    obtain ⟨v2, s3, e4, h⟩ := clD h
    refine A_callS_L (na := 1) X (m_X12_held e4) gX12_joined_X12_held rfl ⟨rfl, rfl⟩ (by decide +kernel) rfl ⟨Nat.le_of_ble_eq_true rfl, Nat.le_of_ble_eq_true rfl⟩ rfl (Nat.le_of_ble_eq_true rfl) dX12_joined_63 ?_
    exact A_lreturn X E h dX12_joined_66
  replace h := ifF h c1
  by_cases c5 : a0 = 7
  · replace h := ifT h c5
    refine A_tIn X (j := 7) (tgt := 67) c5 (by decide) (by decide) rfl (by decide) dX12_joined_1 ?_
    refine A_lload_n X 1 rfl rfl dX12_joined_67 ?_
    refine A_lload_n X 2 rfl rfl dX12_joined_68 ?_
    refine A_lsub X dX12_joined_69 ?_
    obtain ⟨v6, s7, e8, h⟩ := clD h
    refine A_callS_L (na := 1) X (m_X12_held e8) gX12_joined_X12_held rfl ⟨rfl, rfl⟩ (by decide +kernel) rfl ⟨Nat.le_of_ble_eq_true rfl, Nat.le_of_ble_eq_true rfl⟩ rfl (Nat.le_of_ble_eq_true rfl) dX12_joined_70 ?_
    exact A_lreturn X E h dX12_joined_73
  replace h := ifF h c5
  by_cases c9 : a0 = 8
  · replace h := ifT h c9
    refine A_tIn X (j := 8) (tgt := 74) c9 (by decide) (by decide) rfl (by decide) dX12_joined_1 ?_
    refine A_lload_n X 1 rfl rfl dX12_joined_74 ?_
    refine A_lload_n X 2 rfl rfl dX12_joined_75 ?_
    refine A_lmul X dX12_joined_76 ?_
    obtain ⟨v10, s11, e12, h⟩ := clD h
    refine A_callS_L (na := 1) X (m_X12_held e12) gX12_joined_X12_held rfl ⟨rfl, rfl⟩ (by decide +kernel) rfl ⟨Nat.le_of_ble_eq_true rfl, Nat.le_of_ble_eq_true rfl⟩ rfl (Nat.le_of_ble_eq_true rfl) dX12_joined_77 ?_
    exact A_lreturn X E h dX12_joined_80
  replace h := ifF h c9
  by_cases c13 : a0 = 9
  · replace h := ifT h c13
    refine A_tIn X (j := 9) (tgt := 81) c13 (by decide) (by decide) rfl (by decide) dX12_joined_1 ?_
    refine A_lload_n X 1 rfl rfl dX12_joined_81 ?_
    refine A_lload_n X 2 rfl rfl dX12_joined_82 ?_
    obtain ⟨v14, s15, e16, h⟩ := clD h
    refine A_callS_L (na := 2) X (m_X12_over e16) gX12_joined_X12_over rfl ⟨rfl, rfl⟩ (by decide +kernel) rfl ⟨Nat.le_of_ble_eq_true rfl, Nat.le_of_ble_eq_true rfl⟩ rfl (Nat.le_of_ble_eq_true rfl) dX12_joined_83 ?_
    exact A_lreturn X E h dX12_joined_86
  replace h := ifF h c13
  by_cases c17 : a0 = 10
  · replace h := ifT h c17
    refine A_tIn X (j := 10) (tgt := 87) c17 (by decide) (by decide) rfl (by decide) dX12_joined_1 ?_
    refine A_lload_n X 2 rfl rfl dX12_joined_87 ?_
    refine A_lconst X dX12_joined_88 (z := 0) (by decide) ?_
    refine A_lcmp X dX12_joined_89 ?_
    refine A_if_ne X (tgt := 97) (by decide) dX12_joined_90 (fun c18 => ?_) (fun c18 => ?_)
    · replace h := ifF h c18
      refine A_lload_n X 1 rfl rfl dX12_joined_97 ?_
      refine A_lload_n X 2 rfl rfl dX12_joined_98 ?_
      refine A_lload_n X 1 rfl rfl dX12_joined_99 ?_
      refine A_lload_n X 2 rfl rfl dX12_joined_100 ?_
      obtain ⟨v19, s20, e21, h⟩ := clD h
      refine A_callS_L (na := 2) X (m_X12_over e21) gX12_joined_X12_over rfl ⟨rfl, rfl⟩ (by decide +kernel) rfl ⟨Nat.le_of_ble_eq_true rfl, Nat.le_of_ble_eq_true rfl⟩ rfl (Nat.le_of_ble_eq_true rfl) dX12_joined_101 ?_
      refine A_lmul X dX12_joined_104 ?_
      refine A_lsub X dX12_joined_105 ?_
      refine A_sub [] rfl (L' := []) rfl ?_
      exact w_X12_joined_106 (a0 := a0) (a1 := a1) (a3 := a3) X E (lsub a1 (lmul a3 v19)) s20 h
    · replace h := ifT h c18
      refine A_lconst X dX12_joined_93 (z := 0) (by decide) ?_
      refine A_goto X (tgt := 106) (by decide) dX12_joined_94 ?_
      refine A_sub [] rfl (L' := []) rfl ?_
      exact w_X12_joined_106 (a0 := a0) (a1 := a1) (a3 := a3) X E 0 σ h
  replace h := ifF h c17
  by_cases c22 : a0 = 11
  · replace h := ifT h c22
    refine A_tIn X (j := 11) (tgt := 107) c22 (by decide) (by decide) rfl (by decide) dX12_joined_1 ?_
    refine A_lload_n X 1 rfl rfl dX12_joined_107 ?_
    refine A_lload_n X 2 rfl rfl dX12_joined_108 ?_
    refine A_lcmp X dX12_joined_109 ?_
    refine A_if_ge X (tgt := 117) (by decide) dX12_joined_110 (fun c23 => ?_) (fun c23 => ?_)
    · replace h := ifT h c23
      refine A_lload_n X 2 rfl rfl dX12_joined_117 ?_
      refine A_sub [] rfl (L' := []) rfl ?_
      exact w_X12_joined_118 (a0 := a0) (a1 := a1) (a3 := a3) X E a3 σ h
    · replace h := ifF h c23
      refine A_lload_n X 1 rfl rfl dX12_joined_113 ?_
      refine A_goto X (tgt := 118) (by decide) dX12_joined_114 ?_
      refine A_sub [] rfl (L' := []) rfl ?_
      exact w_X12_joined_118 (a0 := a0) (a1 := a1) (a3 := a3) X E a1 σ h
  replace h := ifF h c22
  by_cases c24 : a0 = 12
  · replace h := ifT h c24
    refine A_tIn X (j := 12) (tgt := 119) c24 (by decide) (by decide) rfl (by decide) dX12_joined_1 ?_
    refine A_lload_n X 1 rfl rfl dX12_joined_119 ?_
    refine A_lload_n X 2 rfl rfl dX12_joined_120 ?_
    refine A_lcmp X dX12_joined_121 ?_
    refine A_if_le X (tgt := 129) (by decide) dX12_joined_122 (fun c25 => ?_) (fun c25 => ?_)
    · replace h := ifT h c25
      refine A_lload_n X 2 rfl rfl dX12_joined_129 ?_
      refine A_sub [] rfl (L' := []) rfl ?_
      exact w_X12_joined_130 (a0 := a0) (a1 := a1) (a3 := a3) X E a3 σ h
    · replace h := ifF h c25
      refine A_lload_n X 1 rfl rfl dX12_joined_125 ?_
      refine A_goto X (tgt := 130) (by decide) dX12_joined_126 ?_
      refine A_sub [] rfl (L' := []) rfl ?_
      exact w_X12_joined_130 (a0 := a0) (a1 := a1) (a3 := a3) X E a1 σ h
  replace h := ifF h c24
  by_cases c26 : a0 = 13
  · replace h := ifT h c26
    refine A_tIn X (j := 13) (tgt := 131) c26 (by decide) (by decide) rfl (by decide) dX12_joined_1 ?_
    refine A_lload_n X 1 rfl rfl dX12_joined_131 ?_
    refine A_lload_n X 2 rfl rfl dX12_joined_132 ?_
    refine A_lcmp X dX12_joined_133 ?_
    refine A_if_ge X (tgt := 141) (by decide) dX12_joined_134 (fun c27 => ?_) (fun c27 => ?_)
    · replace h := ifT h c27
      refine A_lconst X dX12_joined_141 (z := 0) (by decide) ?_
      refine A_sub [] rfl (L' := []) rfl ?_
      exact w_X12_joined_142 (a0 := a0) (a1 := a1) (a3 := a3) X E 0 σ h
    · replace h := ifF h c27
      refine A_lconst X dX12_joined_137 (z := 1) (by decide) ?_
      refine A_goto X (tgt := 142) (by decide) dX12_joined_138 ?_
      refine A_sub [] rfl (L' := []) rfl ?_
      exact w_X12_joined_142 (a0 := a0) (a1 := a1) (a3 := a3) X E 1 σ h
  replace h := ifF h c26
  by_cases c28 : a0 = 14
  · replace h := ifT h c28
    refine A_tIn X (j := 14) (tgt := 143) c28 (by decide) (by decide) rfl (by decide) dX12_joined_1 ?_
    refine A_lload_n X 1 rfl rfl dX12_joined_143 ?_
    refine A_lload_n X 2 rfl rfl dX12_joined_144 ?_
    refine A_lcmp X dX12_joined_145 ?_
    refine A_if_le X (tgt := 153) (by decide) dX12_joined_146 (fun c29 => ?_) (fun c29 => ?_)
    · replace h := ifT h c29
      refine A_lconst X dX12_joined_153 (z := 0) (by decide) ?_
      refine A_sub [] rfl (L' := []) rfl ?_
      exact w_X12_joined_154 (a0 := a0) (a1 := a1) (a3 := a3) X E 0 σ h
    · replace h := ifF h c29
      refine A_lconst X dX12_joined_149 (z := 1) (by decide) ?_
      refine A_goto X (tgt := 154) (by decide) dX12_joined_150 ?_
      refine A_sub [] rfl (L' := []) rfl ?_
      exact w_X12_joined_154 (a0 := a0) (a1 := a1) (a3 := a3) X E 1 σ h
  replace h := ifF h c28
  by_cases c30 : a0 = 15
  · replace h := ifT h c30
    refine A_tIn X (j := 15) (tgt := 155) c30 (by decide) (by decide) rfl (by decide) dX12_joined_1 ?_
    refine A_lload_n X 1 rfl rfl dX12_joined_155 ?_
    refine A_lload_n X 2 rfl rfl dX12_joined_156 ?_
    refine A_lcmp X dX12_joined_157 ?_
    refine A_if_ne X (tgt := 165) (by decide) dX12_joined_158 (fun c31 => ?_) (fun c31 => ?_)
    · replace h := ifF h c31
      refine A_lconst X dX12_joined_165 (z := 0) (by decide) ?_
      refine A_sub [] rfl (L' := []) rfl ?_
      exact w_X12_joined_166 (a0 := a0) (a1 := a1) (a3 := a3) X E 0 σ h
    · replace h := ifT h c31
      refine A_lconst X dX12_joined_161 (z := 1) (by decide) ?_
      refine A_goto X (tgt := 166) (by decide) dX12_joined_162 ?_
      refine A_sub [] rfl (L' := []) rfl ?_
      exact w_X12_joined_166 (a0 := a0) (a1 := a1) (a3 := a3) X E 1 σ h
  replace h := ifF h c30
  by_cases c32 : a0 = 16
  · replace h := ifT h c32
    refine A_tIn X (j := 16) (tgt := 167) c32 (by decide) (by decide) rfl (by decide) dX12_joined_1 ?_
    refine A_lload_n X 1 rfl rfl dX12_joined_167 ?_
    refine A_lload_n X 2 rfl rfl dX12_joined_168 ?_
    refine A_lmul X dX12_joined_169 ?_
    exact A_lreturn X E h dX12_joined_170
  replace h := ifF h c32
  refine A_tOut X (tgt := 171) (by omega) (by decide) dX12_joined_1 ?_
  refine A_lload_n X 1 rfl rfl dX12_joined_171 ?_
  refine A_lload_n X 2 rfl rfl dX12_joined_172 ?_
  refine A_ladd X dX12_joined_173 ?_
  refine A_lconst X dX12_joined_174 (z := 0) (by decide) ?_
  refine A_lcmp X dX12_joined_175 ?_
  refine A_if_le X (tgt := 183) (by decide) dX12_joined_176 (fun c33 => ?_) (fun c33 => ?_)
  · replace h := ifT h c33
    refine A_lconst X dX12_joined_183 (z := 0) (by decide) ?_
    refine A_sub [] rfl (L' := []) rfl ?_
    exact w_X12_joined_184 (a0 := a0) (a1 := a1) (a3 := a3) X E 0 σ h
  · replace h := ifF h c33
    refine A_lconst X dX12_joined_179 (z := 1) (by decide) ?_
    refine A_goto X (tgt := 184) (by decide) dX12_joined_180 ?_
    refine A_sub [] rfl (L' := []) rfl ?_
    exact w_X12_joined_184 (a0 := a0) (a1 := a1) (a3 := a3) X E 1 σ h
abbrev rm_X12_works : Room := { frames := 2, cells := 0, slots := 0, locals := 49 }
theorem in_X12_works_12 : ∀ w ∈ u_ws RX12 TX12 75, w ∈ wsX12_works := fun w h => List.mem_cons_of_mem _ (List.mem_append_right _ h)
theorem fg_X12_works_48 : aFl wsX12_works RX12 48 12 12 := ⟨RX12, TX12, 75, rfl, in_X12_works_12, by decide, (List.mem_of_getElem? (i := 1) rfl), rfl⟩
theorem fg_X12_works_159 : aFl wsX12_works RX12 159 12 48 := ⟨RX12, TX12, 75, rfl, in_X12_works_12, by decide, (List.mem_of_getElem? (i := 3) rfl), rfl⟩
theorem fg_X12_works_98 : aFl wsX12_works RX12 98 12 28 := ⟨RX12, TX12, 75, rfl, in_X12_works_12, by decide, (List.mem_of_getElem? (i := 2) rfl), rfl⟩
theorem fg_X12_works_101 : aFl wsX12_works RX12 101 12 29 := ⟨RX12, TX12, 75, rfl, in_X12_works_12, by decide, (List.mem_of_getElem? (i := 4) rfl), rfl⟩
set_option maxRecDepth 100000 in
set_option maxHeartbeats 4000000 in
theorem w_X12_works_127 {x : aC} {r : Int × Hp} {k14 : Int × Int × Hp → Option (Int × Hp)} {a1 : Int} {a2 : Int} (X : aX x cX12_works wsX12_works RX12 6 rm_X12_works) (E : aE x shM (some .long) 1 r) (hk14 : ∀ (x3 : Int) (x4 : Int) (σ : Hp), k14 (x3, x4, σ) = some r → aS x shM 6 14 [(0, vR 0), (2, vI a2), (3, vI x3), (4, vI x4)] [] σ) (x3 : Int) (x4 : Int) (σ : Hp) (h : F_M_works_127 k14 a1 a2 x3 x4 σ = some r) : aS x shM 6 127 [(0, vR 0), (2, vI a2), (3, vI x3), (4, vI x4)] [] σ := by
  unfold F_M_works_127 at h
  refine A_iinc X (L' := fun y4_1 => [(4, vI y4_1), (0, vR 0), (2, vI a2), (3, vI x3)]) 3 rfl (by decide) (fun _ => rfl) dX12_works_127 (by decide) (fun y4_1 hy => ?_)
  replace h := ltD h y4_1 hy
  clear hy
  refine A_goto X (tgt := 14) (by decide) dX12_works_130 ?_
  refine A_sub [1, 2, 3, 0] rfl (L' := [(0, vR 0), (2, vI a2), (3, vI x3), (4, vI y4_1)]) rfl ?_
  exact hk14 x3 y4_1 σ h
set_option maxRecDepth 100000 in
set_option maxHeartbeats 4000000 in
theorem w_X12_works_14_b {x : aC} {r : Int × Hp} {k14 : Int × Int × Hp → Option (Int × Hp)} {a1 : Int} {a2 : Int} (X : aX x cX12_works wsX12_works RX12 6 rm_X12_works) (E : aE x shM (some .long) 1 r) (hk14 : ∀ (x3 : Int) (x4 : Int) (σ : Hp), k14 (x3, x4, σ) = some r → aS x shM 6 14 [(0, vR 0), (2, vI a2), (3, vI x3), (4, vI x4)] [] σ) (x3 : Int) (x4 : Int) (σ : Hp) (h : F_M_works_14_b k14 a1 a2 x3 x4 σ = some r) : aS x shM 6 14 [(0, vR 0), (2, vI a2), (3, vI x3), (4, vI x4)] [] σ := by
  unfold F_M_works_14_b at h
  refine A_iload X 3 rfl dX12_works_14 ?_
  refine A_sipush X dX12_works_16 (z := 900) (by decide) ?_
  refine A_aload_n X 0 rfl rfl dX12_works_19 ?_
  refine A_getI X fg_X12_works_48 shM_0 (k := 12) rfl (by decide) dX12_works_20 ?_
  refine A_imul X dX12_works_23 ?_
  refine A_iload_n X 1 rfl rfl dX12_works_24 ?_
  refine A_iadd X dX12_works_25 ?_
  refine A_icmp_ge X (tgt := 133) (by decide) dX12_works_26 (fun c2 => ?_) (fun c2 => ?_)
  · replace h := ifT h c2
    refine A_aload_n X 0 rfl rfl dX12_works_133 ?_
    refine A_getR X fg_X12_works_159 shM_0 (k := 48) rfl (by decide) dX12_works_134 ?_
    refine A_iconst X dX12_works_137 (z := 0) (by decide) ?_
    refine A_lald X (by decide) shM_28 dX12_works_138 ?_
    exact A_lreturn X E h dX12_works_139
  · replace h := ifF h c2
    refine A_aload_n X 0 rfl rfl dX12_works_29 ?_
    refine A_getR X fg_X12_works_98 shM_0 (k := 28) rfl (by decide) dX12_works_30 ?_
    refine A_iload X 3 rfl dX12_works_33 ?_
    obtain ⟨g3, h⟩ := gdD h
    refine A_iald X g3 shM_17 dX12_works_35 ?_
    refine A_istoreN X (L' := fun y5_4 => [(5, vI y5_4), (0, vR 0), (2, vI a2), (3, vI x3), (4, vI x4)]) (by decide) (fun _ => rfl) dX12_works_36 (fun y5_4 hy => ?_)
    replace h := ltD h y5_4 hy
    clear hy
    refine A_iload X 0 rfl dX12_works_38 ?_
    refine A_iconst X dX12_works_40 (z := 5) (by decide) ?_
    refine A_icmp_gt X (tgt := 69) (by decide) dX12_works_41 (fun c5 => ?_) (fun c5 => ?_)
    · replace h := ifT h c5
      refine A_iload X 0 rfl dX12_works_69 ?_
      refine A_bipush X dX12_works_71 (z := 18) (by decide) ?_
      refine A_icmp_ne X (tgt := 97) (by decide) dX12_works_73 (fun c6 => ?_) (fun c6 => ?_)
      · replace h := ifF h c6
        refine A_iinc X (L' := fun y3_7 => [(3, vI y3_7), (5, vI y5_4), (0, vR 0), (2, vI a2), (4, vI x4)]) 3 rfl (by decide) (fun _ => rfl) dX12_works_97 (by decide) (fun y3_7 hy => ?_)
        replace h := ltD h y3_7 hy
        clear hy
        refine A_aload_n X 2 rfl rfl dX12_works_100 ?_
        refine A_getR X fg_X12_works_159 shM_0 (k := 48) rfl (by decide) dX12_works_101 ?_
        refine A_iload_n X 0 rfl rfl dX12_works_104 ?_
        refine A_iconst X dX12_works_105 (z := 1) (by decide) ?_
        refine A_isub X dX12_works_106 ?_
        refine A_iload X 1 rfl dX12_works_107 ?_
        refine A_aload_n X 2 rfl rfl dX12_works_109 ?_
        refine A_getR X fg_X12_works_159 shM_0 (k := 48) rfl (by decide) dX12_works_110 ?_
        refine A_iload_n X 0 rfl rfl dX12_works_113 ?_
        refine A_iconst X dX12_works_114 (z := 1) (by decide) ?_
        refine A_isub X dX12_works_115 ?_
        obtain ⟨g8, h⟩ := gdD h
        refine A_lald X g8 shM_28 dX12_works_116 ?_
        refine A_aload_n X 2 rfl rfl dX12_works_117 ?_
        refine A_getR X fg_X12_works_159 shM_0 (k := 48) rfl (by decide) dX12_works_118 ?_
        refine A_iload_n X 0 rfl rfl dX12_works_121 ?_
        obtain ⟨g9, h⟩ := gdD h
        refine A_lald X g9 shM_28 dX12_works_122 ?_
        obtain ⟨v10, s11, e12, h⟩ := clD h
        refine A_callS_L (na := 3) X (m_X12_joined e12) gX12_works_X12_joined rfl ⟨rfl, rfl⟩ (by decide +kernel) rfl ⟨Nat.le_of_ble_eq_true rfl, Nat.le_of_ble_eq_true rfl⟩ rfl (Nat.le_of_ble_eq_true rfl) dX12_works_123 ?_
        obtain ⟨g13, h⟩ := gdD h
        refine A_last X g13 shM_28 dX12_works_126 (fun s14 hy => ?_)
        replace h := ltD h s14 hy
        clear hy
        refine A_sub [2, 3, 0, 4] rfl (L' := [(0, vR 0), (2, vI a2), (3, vI y3_7), (4, vI x4)]) rfl ?_
        exact w_X12_works_127 (a1 := a1) (a2 := a2) X E hk14 y3_7 x4 s14 h
      · replace h := ifT h c6
        refine A_aload_n X 1 rfl rfl dX12_works_76 ?_
        refine A_getR X fg_X12_works_159 shM_0 (k := 48) rfl (by decide) dX12_works_77 ?_
        refine A_iload_n X 3 rfl rfl dX12_works_80 ?_
        refine A_iconst X dX12_works_81 (z := 1) (by decide) ?_
        refine A_isub X dX12_works_82 ?_
        refine A_lconst X dX12_works_83 (z := 1) (by decide) ?_
        refine A_aload_n X 1 rfl rfl dX12_works_84 ?_
        refine A_getR X fg_X12_works_159 shM_0 (k := 48) rfl (by decide) dX12_works_85 ?_
        refine A_iload_n X 3 rfl rfl dX12_works_88 ?_
        refine A_iconst X dX12_works_89 (z := 1) (by decide) ?_
        refine A_isub X dX12_works_90 ?_
        obtain ⟨g15, h⟩ := gdD h
        refine A_lald X g15 shM_28 dX12_works_91 ?_
        refine A_lsub X dX12_works_92 ?_
        obtain ⟨g16, h⟩ := gdD h
        refine A_last X g16 shM_28 dX12_works_93 (fun s17 hy => ?_)
        replace h := ltD h s17 hy
        clear hy
        refine A_goto X (tgt := 127) (by decide) dX12_works_94 ?_
        refine A_sub [1, 2, 3, 4] rfl (L' := [(0, vR 0), (2, vI a2), (3, vI x3), (4, vI x4)]) rfl ?_
        exact w_X12_works_127 (a1 := a1) (a2 := a2) X E hk14 x3 x4 s17 h
    · replace h := ifF h c5
      refine A_aload_n X 1 rfl rfl dX12_works_44 ?_
      refine A_getR X fg_X12_works_159 shM_0 (k := 48) rfl (by decide) dX12_works_45 ?_
      refine A_iload_n X 3 rfl rfl dX12_works_48 ?_
      refine A_aload_n X 1 rfl rfl dX12_works_49 ?_
      refine A_iload X 0 rfl dX12_works_50 ?_
      refine A_aload_n X 1 rfl rfl dX12_works_52 ?_
      refine A_getR X fg_X12_works_101 shM_0 (k := 29) rfl (by decide) dX12_works_53 ?_
      refine A_iload X 4 rfl dX12_works_56 ?_
      obtain ⟨g18, h⟩ := gdD h
      refine A_iald X g18 shM_18 dX12_works_58 ?_
      obtain ⟨v19, s20, e21, h⟩ := clD h
      refine A_callV_L (na := 2) X (m_X12_leaf e21) gX12_works_X12_leaf rfl ⟨rfl, rfl⟩ (by decide +kernel) rfl ⟨Nat.le_of_ble_eq_true rfl, Nat.le_of_ble_eq_true rfl⟩ shM_0 (by decide) rfl rfl (Nat.le_of_ble_eq_true rfl) dX12_works_59 ?_
      obtain ⟨g22, h⟩ := gdD h
      refine A_last X g22 shM_28 dX12_works_62 (fun s23 hy => ?_)
      replace h := ltD h s23 hy
      clear hy
      refine A_iinc X (L' := fun y3_24 => [(3, vI y3_24), (5, vI y5_4), (0, vR 0), (2, vI a2), (4, vI x4)]) 3 rfl (by decide) (fun _ => rfl) dX12_works_63 (by decide) (fun y3_24 hy => ?_)
      replace h := ltD h y3_24 hy
      clear hy
      refine A_goto X (tgt := 127) (by decide) dX12_works_66 ?_
      refine A_sub [2, 3, 0, 4] rfl (L' := [(0, vR 0), (2, vI a2), (3, vI y3_24), (4, vI x4)]) rfl ?_
      exact w_X12_works_127 (a1 := a1) (a2 := a2) X E hk14 y3_24 x4 s23 h
set_option maxRecDepth 100000 in
set_option maxHeartbeats 4000000 in
theorem w_X12_works_14 {x : aC} {r : Int × Hp} {a1 : Int} {a2 : Int} (X : aX x cX12_works wsX12_works RX12 6 rm_X12_works) (E : aE x shM (some .long) 1 r) : ∀ (n : Nat) (x3 : Int) (x4 : Int) (σ : Hp) (h : F_M_works_14 a1 a2 n (x3, x4, σ) = some r), aS x shM 6 14 [(0, vR 0), (2, vI a2), (3, vI x3), (4, vI x4)] [] σ := by
  intro n
  induction n with
  | zero => intro x3 x4 σ h; cases h
  | succ n ih => intro x3 x4 σ h; exact w_X12_works_14_b (a1 := a1) (a2 := a2) (k14 := F_M_works_14 a1 a2 n) X E ih x3 x4 σ h
set_option maxRecDepth 100000 in
set_option maxHeartbeats 4000000 in
theorem m_X12_works {l : Launch} {g : aG} {a1 : Int} {a2 : Int} {σ : Hp} {r : Int × Hp} (h : F_M_works a1 a2 σ = some r) : aMet l g shM yX12_works wsX12_works rm_X12_works [vR 0, vI a1, vI a2] σ 1 r := by
  unfold F_M_works at h
  refine aMet_of (bytes := cX12_works) (maxL := 6) (ret := (some .long)) (by decide +kernel) rfl (Nat.le_of_ble_eq_true rfl) ⟨rfl, rfl⟩ (fun x e1 e2 X E => ?_)
  subst e1; subst e2
  have X : aX x cX12_works wsX12_works RX12 6 rm_X12_works := X
  show aS x shM 6 0 [(0, vR 0), (1, vI a1), (2, vI a2)] [] σ
  refine A_iconst X dX12_works_0 (z := 0) (by decide) ?_
  refine A_istore_n X (L' := [(3, vI 0), (0, vR 0), (1, vI a1), (2, vI a2)]) rfl (by decide) rfl dX12_works_1 ?_
  refine A_sipush X dX12_works_2 (z := 900) (by decide) ?_
  refine A_aload_n X 1 rfl rfl dX12_works_5 ?_
  refine A_getI X fg_X12_works_48 shM_0 (k := 12) rfl (by decide) dX12_works_6 ?_
  refine A_imul X dX12_works_9 ?_
  refine A_iload_n X 2 rfl rfl dX12_works_10 ?_
  refine A_iadd X dX12_works_11 ?_
  refine A_istoreN X (L' := fun y4_25 => [(4, vI y4_25), (3, vI 0), (0, vR 0), (1, vI a1), (2, vI a2)]) (by decide) (fun _ => rfl) dX12_works_12 (fun y4_25 hy => ?_)
  replace h := ltD h y4_25 hy
  clear hy
  refine A_sub [2, 4, 1, 0] rfl (L' := [(0, vR 0), (2, vI a2), (3, vI 0), (4, vI y4_25)]) rfl ?_
  exact w_X12_works_14 (a1 := a1) (a2 := a2) X E FU 0 y4_25 σ h
abbrev rm_X12_worthOf : Room := { frames := 3, cells := 0, slots := 0, locals := 74 }
theorem in_X12_worthOf_12 : ∀ w ∈ u_ws RX12 TX12 75, w ∈ wsX12_worthOf := fun w h => List.mem_cons_of_mem _ (List.mem_append_right _ h)
theorem fg_X12_worthOf_153 : aFl wsX12_worthOf RX12 153 12 46 := ⟨RX12, TX12, 75, rfl, in_X12_worthOf_12, by decide, (List.mem_of_getElem? (i := 3) rfl), rfl⟩
theorem fg_X12_worthOf_76 : aFl wsX12_worthOf RX12 76 12 21 := ⟨RX12, TX12, 75, rfl, in_X12_worthOf_12, by decide, (List.mem_of_getElem? (i := 7) rfl), rfl⟩
theorem fg_X12_worthOf_79 : aFl wsX12_worthOf RX12 79 12 22 := ⟨RX12, TX12, 75, rfl, in_X12_worthOf_12, by decide, (List.mem_of_getElem? (i := 8) rfl), rfl⟩
theorem fg_X12_worthOf_48 : aFl wsX12_worthOf RX12 48 12 12 := ⟨RX12, TX12, 75, rfl, in_X12_worthOf_12, by decide, (List.mem_of_getElem? (i := 4) rfl), rfl⟩
theorem fg_X12_worthOf_82 : aFl wsX12_worthOf RX12 82 12 23 := ⟨RX12, TX12, 75, rfl, in_X12_worthOf_12, by decide, (List.mem_of_getElem? (i := 5) rfl), rfl⟩
theorem fg_X12_worthOf_85 : aFl wsX12_worthOf RX12 85 12 24 := ⟨RX12, TX12, 75, rfl, in_X12_worthOf_12, by decide, (List.mem_of_getElem? (i := 6) rfl), rfl⟩
theorem fg_X12_worthOf_150 : aFl wsX12_worthOf RX12 150 12 45 := ⟨RX12, TX12, 75, rfl, in_X12_worthOf_12, by decide, (List.mem_of_getElem? (i := 1) rfl), rfl⟩
theorem fg_X12_worthOf_156 : aFl wsX12_worthOf RX12 156 12 47 := ⟨RX12, TX12, 75, rfl, in_X12_worthOf_12, by decide, (List.mem_of_getElem? (i := 2) rfl), rfl⟩
set_option maxRecDepth 100000 in
set_option maxHeartbeats 4000000 in
theorem w_X12_worthOf_52 {x : aC} {r : Int × Hp} {k5 : Int × Int × Hp → Option (Int × Hp)} {a1 : Int} (X : aX x cX12_worthOf wsX12_worthOf RX12 6 rm_X12_worthOf) (E : aE x shM (some .int) 0 r) (hk5 : ∀ (x2 : Int) (x3 : Int) (σ : Hp), k5 (x2, x3, σ) = some r → aS x shM 6 5 [(0, vR 0), (1, vI a1), (2, vI x2), (3, vI x3)] [] σ) (x2 : Int) (x3 : Int) (σ : Hp) (h : F_M_worthOf_52 k5 a1 x2 x3 σ = some r) : aS x shM 6 52 [(0, vR 0), (1, vI a1), (2, vI x2), (3, vI x3)] [] σ := by
  unfold F_M_worthOf_52 at h
  refine A_iinc X (L' := fun y3_1 => [(3, vI y3_1), (0, vR 0), (1, vI a1), (2, vI x2)]) 3 rfl (by decide) (fun _ => rfl) dX12_worthOf_52 (by decide) (fun y3_1 hy => ?_)
  replace h := ltD h y3_1 hy
  clear hy
  refine A_goto X (tgt := 5) (by decide) dX12_worthOf_55 ?_
  refine A_sub [1, 2, 3, 0] rfl (L' := [(0, vR 0), (1, vI a1), (2, vI x2), (3, vI y3_1)]) rfl ?_
  exact hk5 x2 y3_1 σ h
set_option maxRecDepth 100000 in
set_option maxHeartbeats 4000000 in
theorem w_X12_worthOf_45 {x : aC} {r : Int × Hp} {k5 : Int × Int × Hp → Option (Int × Hp)} {a1 : Int} (X : aX x cX12_worthOf wsX12_worthOf RX12 6 rm_X12_worthOf) (E : aE x shM (some .int) 0 r) (hk5 : ∀ (x2 : Int) (x3 : Int) (σ : Hp), k5 (x2, x3, σ) = some r → aS x shM 6 5 [(0, vR 0), (1, vI a1), (2, vI x2), (3, vI x3)] [] σ) (x3 : Int) (σ : Hp) (h : F_M_worthOf_45 k5 a1 x3 σ = some r) : aS x shM 6 45 [(0, vR 0), (1, vI a1), (3, vI x3)] [] σ := by
  unfold F_M_worthOf_45 at h
  refine A_aload_n X 0 rfl rfl dX12_worthOf_45 ?_
  refine A_getR X fg_X12_worthOf_153 shM_0 (k := 46) rfl (by decide) dX12_worthOf_46 ?_
  refine A_iload_n X 2 rfl rfl dX12_worthOf_49 ?_
  obtain ⟨g2, h⟩ := gdD h
  refine A_iald X g2 shM_26 dX12_worthOf_50 ?_
  refine A_istore_nN X (L' := fun y2_3 => [(2, vI y2_3), (0, vR 0), (1, vI a1), (3, vI x3)]) rfl (by decide) (fun _ => rfl) dX12_worthOf_51 (fun y2_3 hy => ?_)
  replace h := ltD h y2_3 hy
  clear hy
  refine A_sub [1, 2, 0, 3] rfl (L' := [(0, vR 0), (1, vI a1), (2, vI y2_3), (3, vI x3)]) rfl ?_
  exact w_X12_worthOf_52 (a1 := a1) X E hk5 y2_3 x3 σ h
set_option maxRecDepth 100000 in
set_option maxHeartbeats 4000000 in
theorem w_X12_worthOf_161 {x : aC} {r : Int × Hp} {a1 : Int} (X : aX x cX12_worthOf wsX12_worthOf RX12 6 rm_X12_worthOf) (E : aE x shM (some .int) 0 r) (t1 : Int) (σ : Hp) (h : F_M_worthOf_161 a1 t1 σ = some r) : aS x shM 6 161 [] [vI t1] σ := by
  unfold F_M_worthOf_161 at h
  exact A_ireturn X E h dX12_worthOf_161
set_option maxRecDepth 100000 in
set_option maxHeartbeats 4000000 in
theorem w_X12_worthOf_114 {x : aC} {r : Int × Hp} {a1 : Int} (X : aX x cX12_worthOf wsX12_worthOf RX12 6 rm_X12_worthOf) (E : aE x shM (some .int) 0 r) (x3 : Int) (σ : Hp) (h : F_M_worthOf_114 a1 x3 σ = some r) : aS x shM 6 114 [(0, vR 0), (3, vI x3)] [] σ := by
  unfold F_M_worthOf_114 at h
  refine A_aload_n X 0 rfl rfl dX12_worthOf_114 ?_
  refine A_aload_n X 0 rfl rfl dX12_worthOf_115 ?_
  refine A_getR X fg_X12_worthOf_76 shM_0 (k := 21) rfl (by decide) dX12_worthOf_116 ?_
  refine A_iload_n X 1 rfl rfl dX12_worthOf_119 ?_
  obtain ⟨g4, h⟩ := gdD h
  refine A_iald X g4 shM_10 dX12_worthOf_120 ?_
  refine A_aload_n X 0 rfl rfl dX12_worthOf_121 ?_
  refine A_getR X fg_X12_worthOf_79 shM_0 (k := 22) rfl (by decide) dX12_worthOf_122 ?_
  refine A_iload_n X 1 rfl rfl dX12_worthOf_125 ?_
  obtain ⟨g5, h⟩ := gdD h
  refine A_iald X g5 shM_11 dX12_worthOf_126 ?_
  obtain ⟨v6, s7, e8, h⟩ := clD h
  refine A_callV_L (na := 2) X (m_X12_works e8) gX12_worthOf_X12_works rfl ⟨rfl, rfl⟩ (by decide +kernel) rfl ⟨Nat.le_of_ble_eq_true rfl, Nat.le_of_ble_eq_true rfl⟩ shM_0 (by decide) rfl rfl (Nat.le_of_ble_eq_true rfl) dX12_worthOf_127 ?_
  refine A_lstore X (L' := [(4, vL v6), (0, vR 0), (3, vI x3)]) (by decide) rfl dX12_worthOf_130 ?_
  refine A_lload X 0 rfl dX12_worthOf_132 ?_
  refine A_lconst X dX12_worthOf_134 (z := 0) (by decide) ?_
  refine A_lcmp X dX12_worthOf_135 ?_
  refine A_if_ge X (tgt := 143) (by decide) dX12_worthOf_136 (fun c9 => ?_) (fun c9 => ?_)
  · replace h := ifT h c9
    refine A_lload X 0 rfl dX12_worthOf_143 ?_
    refine A_ldc2 X (v := (100000)) (List.mem_of_getElem? (i := 9) rfl) dX12_worthOf_145 (z := 100000) (by decide +kernel) ?_
    refine A_lcmp X dX12_worthOf_148 ?_
    refine A_if_le X (tgt := 158) (by decide) dX12_worthOf_149 (fun c10 => ?_) (fun c10 => ?_)
    · replace h := ifT h c10
      refine A_lload X 0 rfl dX12_worthOf_158 ?_
      refine A_l2i X dX12_worthOf_160 ?_
      refine A_sub [] rfl (L' := []) rfl ?_
      exact w_X12_worthOf_161 (a1 := a1) X E (w32 v6) s7 h
    · replace h := ifF h c10
      refine A_ldcw X (v := (100000)) (List.mem_of_getElem? (i := 10) rfl) dX12_worthOf_152 (z := 100000) (by decide) ?_
      refine A_goto X (tgt := 161) (by decide) dX12_worthOf_155 ?_
      refine A_sub [] rfl (L' := []) rfl ?_
      exact w_X12_worthOf_161 (a1 := a1) X E 100000 s7 h
  · replace h := ifF h c9
    refine A_iconst X dX12_worthOf_139 (z := 0) (by decide) ?_
    refine A_goto X (tgt := 161) (by decide) dX12_worthOf_140 ?_
    refine A_sub [] rfl (L' := []) rfl ?_
    exact w_X12_worthOf_161 (a1 := a1) X E 0 s7 h
set_option maxRecDepth 100000 in
set_option maxHeartbeats 4000000 in
theorem w_X12_worthOf_5_b {x : aC} {r : Int × Hp} {k5 : Int × Int × Hp → Option (Int × Hp)} {a1 : Int} (X : aX x cX12_worthOf wsX12_worthOf RX12 6 rm_X12_worthOf) (E : aE x shM (some .int) 0 r) (hk5 : ∀ (x2 : Int) (x3 : Int) (σ : Hp), k5 (x2, x3, σ) = some r → aS x shM 6 5 [(0, vR 0), (1, vI a1), (2, vI x2), (3, vI x3)] [] σ) (x2 : Int) (x3 : Int) (σ : Hp) (h : F_M_worthOf_5_b k5 a1 x2 x3 σ = some r) : aS x shM 6 5 [(0, vR 0), (1, vI a1), (2, vI x2), (3, vI x3)] [] σ := by
  unfold F_M_worthOf_5_b at h
  refine A_iload_n X 3 rfl rfl dX12_worthOf_5 ?_
  refine A_aload_n X 0 rfl rfl dX12_worthOf_6 ?_
  obtain ⟨v11, s12, e13, h⟩ := clD h
  refine A_callV_I (na := 0) X (m_X12_now e13) gX12_worthOf_X12_now rfl ⟨rfl, rfl⟩ (by decide +kernel) rfl ⟨Nat.le_of_ble_eq_true rfl, Nat.le_of_ble_eq_true rfl⟩ shM_0 (by decide) rfl rfl (Nat.le_of_ble_eq_true rfl) dX12_worthOf_7 ?_
  refine A_icmp_gt X (tgt := 58) (by decide) dX12_worthOf_10 (fun c14 => ?_) (fun c14 => ?_)
  · replace h := ifT h c14
    refine A_iload_n X 2 rfl rfl dX12_worthOf_58 ?_
    refine A_bipush X dX12_worthOf_59 (z := (-2)) (by decide) ?_
    refine A_icmp_eq X (tgt := 66) (by decide) dX12_worthOf_61 (fun c15 => ?_) (fun c15 => ?_)
    · replace h := ifT h c15
      refine A_bipush X dX12_worthOf_66 (z := 30) (by decide) ?_
      refine A_aload_n X 0 rfl rfl dX12_worthOf_68 ?_
      refine A_getI X fg_X12_worthOf_48 shM_0 (k := 12) rfl (by decide) dX12_worthOf_69 ?_
      refine A_imul X dX12_worthOf_72 ?_
      refine A_iload_n X 1 rfl rfl dX12_worthOf_73 ?_
      refine A_iadd X dX12_worthOf_74 ?_
      refine A_istore_nN X (L' := fun y3_16 => [(3, vI y3_16), (0, vR 0), (1, vI a1), (2, vI x2)]) rfl (by decide) (fun _ => rfl) dX12_worthOf_75 (fun y3_16 hy => ?_)
      replace h := ltD h y3_16 hy
      clear hy
      refine A_aload_n X 1 rfl rfl dX12_worthOf_76 ?_
      refine A_getR X fg_X12_worthOf_82 shM_0 (k := 23) rfl (by decide) dX12_worthOf_77 ?_
      refine A_iload_n X 0 rfl rfl dX12_worthOf_80 ?_
      obtain ⟨g17, h⟩ := gdD h
      refine A_iald X g17 shM_12 dX12_worthOf_81 ?_
      refine A_aload_n X 1 rfl rfl dX12_worthOf_82 ?_
      refine A_getR X fg_X12_worthOf_85 shM_0 (k := 24) rfl (by decide) dX12_worthOf_83 ?_
      refine A_iload_n X 0 rfl rfl dX12_worthOf_86 ?_
      obtain ⟨g18, h⟩ := gdD h
      refine A_iald X g18 shM_13 dX12_worthOf_87 ?_
      refine A_icmp_ge X (tgt := 114) (by decide) dX12_worthOf_88 (fun c19 => ?_) (fun c19 => ?_)
      · replace h := ifT h c19
        refine A_sub [1, 0] rfl (L' := [(0, vR 0), (3, vI y3_16)]) rfl ?_
        exact w_X12_worthOf_114 (a1 := a1) X E y3_16 s12 h
      · replace h := ifF h c19
        refine A_aload_n X 1 rfl rfl dX12_worthOf_91 ?_
        refine A_aload_n X 1 rfl rfl dX12_worthOf_92 ?_
        refine A_getR X fg_X12_worthOf_82 shM_0 (k := 23) rfl (by decide) dX12_worthOf_93 ?_
        refine A_iload_n X 0 rfl rfl dX12_worthOf_96 ?_
        obtain ⟨g20, h⟩ := gdD h
        refine A_iald X g20 shM_12 dX12_worthOf_97 ?_
        refine A_aload_n X 1 rfl rfl dX12_worthOf_98 ?_
        refine A_getR X fg_X12_worthOf_85 shM_0 (k := 24) rfl (by decide) dX12_worthOf_99 ?_
        refine A_iload_n X 0 rfl rfl dX12_worthOf_102 ?_
        obtain ⟨g21, h⟩ := gdD h
        refine A_iald X g21 shM_13 dX12_worthOf_103 ?_
        obtain ⟨v22, s23, e24, h⟩ := clD h
        refine A_callV_L (na := 2) X (m_X12_works e24) gX12_worthOf_X12_works rfl ⟨rfl, rfl⟩ (by decide +kernel) rfl ⟨Nat.le_of_ble_eq_true rfl, Nat.le_of_ble_eq_true rfl⟩ shM_0 (by decide) rfl rfl (Nat.le_of_ble_eq_true rfl) dX12_worthOf_104 ?_
        refine A_lconst X dX12_worthOf_107 (z := 0) (by decide) ?_
        refine A_lcmp X dX12_worthOf_108 ?_
        refine A_if_ne X (tgt := 114) (by decide) dX12_worthOf_109 (fun c25 => ?_) (fun c25 => ?_)
        · replace h := ifF h c25
          refine A_sub [1, 0] rfl (L' := [(0, vR 0), (3, vI y3_16)]) rfl ?_
          exact w_X12_worthOf_114 (a1 := a1) X E y3_16 s23 h
        · replace h := ifT h c25
          refine A_iconst X dX12_worthOf_112 (z := (-1)) (by decide) ?_
          exact A_ireturn X E h dX12_worthOf_113
    · replace h := ifF h c15
      refine A_iload_n X 2 rfl rfl dX12_worthOf_64 ?_
      exact A_ireturn X E h dX12_worthOf_65
  · replace h := ifF h c14
    refine A_aload_n X 0 rfl rfl dX12_worthOf_13 ?_
    refine A_getR X fg_X12_worthOf_150 shM_0 (k := 45) rfl (by decide) dX12_worthOf_14 ?_
    refine A_iload_n X 3 rfl rfl dX12_worthOf_17 ?_
    obtain ⟨g26, h⟩ := gdD h
    refine A_iald X g26 shM_25 dX12_worthOf_18 ?_
    refine A_iload_n X 1 rfl rfl dX12_worthOf_19 ?_
    refine A_icmp_ne X (tgt := 52) (by decide) dX12_worthOf_20 (fun c27 => ?_) (fun c27 => ?_)
    · replace h := ifF h c27
      exact w_X12_worthOf_52 (a1 := a1) X E hk5 x2 x3 s12 h
    · replace h := ifT h c27
      refine A_aload_n X 0 rfl rfl dX12_worthOf_23 ?_
      refine A_getR X fg_X12_worthOf_156 shM_0 (k := 47) rfl (by decide) dX12_worthOf_24 ?_
      refine A_iload_n X 3 rfl rfl dX12_worthOf_27 ?_
      obtain ⟨g28, h⟩ := gdD h
      refine A_iald X g28 shM_27 dX12_worthOf_28 ?_
      refine A_if_eq X (tgt := 45) (by decide) dX12_worthOf_29 (fun c29 => ?_) (fun c29 => ?_)
      · replace h := ifT h c29
        refine A_sub [0, 1, 3] rfl (L' := [(0, vR 0), (1, vI a1), (3, vI x3)]) rfl ?_
        exact w_X12_worthOf_45 (a1 := a1) X E hk5 x3 s12 h
      · replace h := ifF h c29
        refine A_aload_n X 0 rfl rfl dX12_worthOf_32 ?_
        refine A_getR X fg_X12_worthOf_156 shM_0 (k := 47) rfl (by decide) dX12_worthOf_33 ?_
        refine A_iload_n X 3 rfl rfl dX12_worthOf_36 ?_
        obtain ⟨g30, h⟩ := gdD h
        refine A_iald X g30 shM_27 dX12_worthOf_37 ?_
        refine A_aload_n X 0 rfl rfl dX12_worthOf_38 ?_
        obtain ⟨v31, s32, e33, h⟩ := clD h
        refine A_callV_I (na := 0) X (m_X12_now e33) gX12_worthOf_X12_now rfl ⟨rfl, rfl⟩ (by decide +kernel) rfl ⟨Nat.le_of_ble_eq_true rfl, Nat.le_of_ble_eq_true rfl⟩ shM_0 (by decide) rfl rfl (Nat.le_of_ble_eq_true rfl) dX12_worthOf_39 ?_
        refine A_icmp_le X (tgt := 52) (by decide) dX12_worthOf_42 (fun c34 => ?_) (fun c34 => ?_)
        · replace h := ifT h c34
          exact w_X12_worthOf_52 (a1 := a1) X E hk5 x2 x3 s32 h
        · replace h := ifF h c34
          refine A_sub [0, 1, 3] rfl (L' := [(0, vR 0), (1, vI a1), (3, vI x3)]) rfl ?_
          exact w_X12_worthOf_45 (a1 := a1) X E hk5 x3 s32 h
set_option maxRecDepth 100000 in
set_option maxHeartbeats 4000000 in
theorem w_X12_worthOf_5 {x : aC} {r : Int × Hp} {a1 : Int} (X : aX x cX12_worthOf wsX12_worthOf RX12 6 rm_X12_worthOf) (E : aE x shM (some .int) 0 r) : ∀ (n : Nat) (x2 : Int) (x3 : Int) (σ : Hp) (h : F_M_worthOf_5 a1 n (x2, x3, σ) = some r), aS x shM 6 5 [(0, vR 0), (1, vI a1), (2, vI x2), (3, vI x3)] [] σ := by
  intro n
  induction n with
  | zero => intro x2 x3 σ h; cases h
  | succ n ih => intro x2 x3 σ h; exact w_X12_worthOf_5_b (a1 := a1) (k5 := F_M_worthOf_5 a1 n) X E ih x2 x3 σ h
set_option maxRecDepth 100000 in
set_option maxHeartbeats 4000000 in
theorem m_X12_worthOf {l : Launch} {g : aG} {a1 : Int} {σ : Hp} {r : Int × Hp} (h : F_M_worthOf a1 σ = some r) : aMet l g shM yX12_worthOf wsX12_worthOf rm_X12_worthOf [vR 0, vI a1] σ 0 r := by
  unfold F_M_worthOf at h
  refine aMet_of (bytes := cX12_worthOf) (maxL := 6) (ret := (some .int)) (by decide +kernel) rfl (Nat.le_of_ble_eq_true rfl) ⟨rfl, rfl⟩ (fun x e1 e2 X E => ?_)
  subst e1; subst e2
  have X : aX x cX12_worthOf wsX12_worthOf RX12 6 rm_X12_worthOf := X
  show aS x shM 6 0 [(0, vR 0), (1, vI a1)] [] σ
  refine A_bipush X dX12_worthOf_0 (z := (-2)) (by decide) ?_
  refine A_istore_n X (L' := [(2, vI (-2)), (0, vR 0), (1, vI a1)]) rfl (by decide) rfl dX12_worthOf_2 ?_
  refine A_iconst X dX12_worthOf_3 (z := 1) (by decide) ?_
  refine A_istore_n X (L' := [(3, vI 1), (2, vI (-2)), (0, vR 0), (1, vI a1)]) rfl (by decide) rfl dX12_worthOf_4 ?_
  refine A_sub [2, 3, 1, 0] rfl (L' := [(0, vR 0), (1, vI a1), (2, vI (-2)), (3, vI 1)]) rfl ?_
  exact w_X12_worthOf_5 (a1 := a1) X E FU (-2) 1 σ h
abbrev rm_X12_first : Room := { frames := 0, cells := 0, slots := 0, locals := 0 }
theorem in_X12_first_12 : ∀ w ∈ u_ws RX12 TX12 75, w ∈ wsX12_first := fun w h => List.mem_cons_of_mem _ (List.mem_append_right _ h)
theorem fg_X12_first_70 : aFl wsX12_first RX12 70 12 19 := ⟨RX12, TX12, 75, rfl, in_X12_first_12, by decide, (List.mem_of_getElem? (i := 1) rfl), rfl⟩
theorem fg_X12_first_48 : aFl wsX12_first RX12 48 12 12 := ⟨RX12, TX12, 75, rfl, in_X12_first_12, by decide, (List.mem_of_getElem? (i := 2) rfl), rfl⟩
set_option maxRecDepth 100000 in
set_option maxHeartbeats 4000000 in
theorem m_X12_first {l : Launch} {g : aG} {a1 : Int} {σ : Hp} {r : Int × Hp} (h : F_M_first a1 σ = some r) : aMet l g shM yX12_first wsX12_first rm_X12_first [vR 0, vI a1] σ 0 r := by
  unfold F_M_first at h
  refine aMet_of (bytes := cX12_first) (maxL := 2) (ret := (some .int)) (by decide +kernel) rfl (Nat.le_of_ble_eq_true rfl) ⟨rfl, rfl⟩ (fun x e1 e2 X E => ?_)
  subst e1; subst e2
  have X : aX x cX12_first wsX12_first RX12 2 rm_X12_first := X
  show aS x shM 2 0 [(0, vR 0), (1, vI a1)] [] σ
  refine A_aload_n X 0 rfl rfl dX12_first_0 ?_
  refine A_getR X fg_X12_first_70 shM_0 (k := 19) rfl (by decide) dX12_first_1 ?_
  refine A_bipush X dX12_first_4 (z := 30) (by decide) ?_
  refine A_aload_n X 0 rfl rfl dX12_first_6 ?_
  refine A_getI X fg_X12_first_48 shM_0 (k := 12) rfl (by decide) dX12_first_7 ?_
  refine A_imul X dX12_first_10 ?_
  refine A_iload_n X 1 rfl rfl dX12_first_11 ?_
  refine A_iadd X dX12_first_12 ?_
  obtain ⟨g1, h⟩ := gdD h
  refine A_iald X g1 shM_8 dX12_first_13 ?_
  exact A_ireturn X E h dX12_first_14
abbrev rm_X12_second : Room := { frames := 0, cells := 0, slots := 0, locals := 0 }
theorem in_X12_second_12 : ∀ w ∈ u_ws RX12 TX12 75, w ∈ wsX12_second := fun w h => List.mem_cons_of_mem _ (List.mem_append_right _ h)
theorem fg_X12_second_73 : aFl wsX12_second RX12 73 12 20 := ⟨RX12, TX12, 75, rfl, in_X12_second_12, by decide, (List.mem_of_getElem? (i := 1) rfl), rfl⟩
theorem fg_X12_second_48 : aFl wsX12_second RX12 48 12 12 := ⟨RX12, TX12, 75, rfl, in_X12_second_12, by decide, (List.mem_of_getElem? (i := 2) rfl), rfl⟩
set_option maxRecDepth 100000 in
set_option maxHeartbeats 4000000 in
theorem m_X12_second {l : Launch} {g : aG} {a1 : Int} {σ : Hp} {r : Int × Hp} (h : F_M_second a1 σ = some r) : aMet l g shM yX12_second wsX12_second rm_X12_second [vR 0, vI a1] σ 0 r := by
  unfold F_M_second at h
  refine aMet_of (bytes := cX12_second) (maxL := 2) (ret := (some .int)) (by decide +kernel) rfl (Nat.le_of_ble_eq_true rfl) ⟨rfl, rfl⟩ (fun x e1 e2 X E => ?_)
  subst e1; subst e2
  have X : aX x cX12_second wsX12_second RX12 2 rm_X12_second := X
  show aS x shM 2 0 [(0, vR 0), (1, vI a1)] [] σ
  refine A_aload_n X 0 rfl rfl dX12_second_0 ?_
  refine A_getR X fg_X12_second_73 shM_0 (k := 20) rfl (by decide) dX12_second_1 ?_
  refine A_bipush X dX12_second_4 (z := 30) (by decide) ?_
  refine A_aload_n X 0 rfl rfl dX12_second_6 ?_
  refine A_getI X fg_X12_second_48 shM_0 (k := 12) rfl (by decide) dX12_second_7 ?_
  refine A_imul X dX12_second_10 ?_
  refine A_iload_n X 1 rfl rfl dX12_second_11 ?_
  refine A_iadd X dX12_second_12 ?_
  obtain ⟨g1, h⟩ := gdD h
  refine A_iald X g1 shM_9 dX12_second_13 ?_
  exact A_ireturn X E h dX12_second_14
abbrev rm_X12_gainOf : Room := { frames := 1, cells := 0, slots := 0, locals := 21 }
theorem in_X12_gainOf_12 : ∀ w ∈ u_ws RX12 TX12 75, w ∈ wsX12_gainOf := fun w h => List.mem_cons_of_mem _ (List.mem_append_right _ h)
theorem fg_X12_gainOf_165 : aFl wsX12_gainOf RX12 165 12 50 := ⟨RX12, TX12, 75, rfl, in_X12_gainOf_12, by decide, (List.mem_of_getElem? (i := 1) rfl), rfl⟩
theorem fg_X12_gainOf_162 : aFl wsX12_gainOf RX12 162 12 49 := ⟨RX12, TX12, 75, rfl, in_X12_gainOf_12, by decide, (List.mem_of_getElem? (i := 2) rfl), rfl⟩
set_option maxRecDepth 100000 in
set_option maxHeartbeats 4000000 in
theorem w_X12_gainOf_45 {x : aC} {r : Int × Hp} {a1 : Int} (X : aX x cX12_gainOf wsX12_gainOf RX12 3 rm_X12_gainOf) (E : aE x shM (some .int) 0 r) (t1 : Int) (σ : Hp) (h : F_M_gainOf_45 a1 t1 σ = some r) : aS x shM 3 45 [] [vI t1] σ := by
  unfold F_M_gainOf_45 at h
  exact A_ireturn X E h dX12_gainOf_45
set_option maxRecDepth 100000 in
set_option maxHeartbeats 4000000 in
theorem w_X12_gainOf_44 {x : aC} {r : Int × Hp} {a1 : Int} (X : aX x cX12_gainOf wsX12_gainOf RX12 3 rm_X12_gainOf) (E : aE x shM (some .int) 0 r) (σ : Hp) (h : F_M_gainOf_44 a1 σ = some r) : aS x shM 3 44 [] [] σ := by
  unfold F_M_gainOf_44 at h
  refine A_iconst X dX12_gainOf_44 (z := 0) (by decide) ?_
  exact w_X12_gainOf_45 (a1 := a1) X E 0 σ h
set_option maxRecDepth 100000 in
set_option maxHeartbeats 4000000 in
theorem m_X12_gainOf {l : Launch} {g : aG} {a1 : Int} {σ : Hp} {r : Int × Hp} (h : F_M_gainOf a1 σ = some r) : aMet l g shM yX12_gainOf wsX12_gainOf rm_X12_gainOf [vR 0, vI a1] σ 0 r := by
  unfold F_M_gainOf at h
  refine aMet_of (bytes := cX12_gainOf) (maxL := 3) (ret := (some .int)) (by decide +kernel) rfl (Nat.le_of_ble_eq_true rfl) ⟨rfl, rfl⟩ (fun x e1 e2 X E => ?_)
  subst e1; subst e2
  have X : aX x cX12_gainOf wsX12_gainOf RX12 3 rm_X12_gainOf := X
  show aS x shM 3 0 [(0, vR 0), (1, vI a1)] [] σ
  refine A_aload_n X 0 rfl rfl dX12_gainOf_0 ?_
  refine A_getR X fg_X12_gainOf_165 shM_0 (k := 50) rfl (by decide) dX12_gainOf_1 ?_
  refine A_iload_n X 1 rfl rfl dX12_gainOf_4 ?_
  obtain ⟨g1, h⟩ := gdD h
  refine A_iald X g1 shM_30 dX12_gainOf_5 ?_
  refine A_aload_n X 0 rfl rfl dX12_gainOf_6 ?_
  refine A_aload_n X 0 rfl rfl dX12_gainOf_7 ?_
  refine A_iload_n X 1 rfl rfl dX12_gainOf_8 ?_
  obtain ⟨v2, s3, e4, h⟩ := clD h
  refine A_callV_I (na := 1) X (m_X12_first e4) gX12_gainOf_X12_first rfl ⟨rfl, rfl⟩ (by decide +kernel) rfl ⟨Nat.le_of_ble_eq_true rfl, Nat.le_of_ble_eq_true rfl⟩ shM_0 (by decide) rfl rfl (Nat.le_of_ble_eq_true rfl) dX12_gainOf_9 ?_
  obtain ⟨v5, s6, e7, h⟩ := clD h
  refine A_callV_I (na := 1) X (m_X12_aloneOf e7) gX12_gainOf_X12_aloneOf rfl ⟨rfl, rfl⟩ (by decide +kernel) rfl ⟨Nat.le_of_ble_eq_true rfl, Nat.le_of_ble_eq_true rfl⟩ shM_0 (by decide) rfl rfl (Nat.le_of_ble_eq_true rfl) dX12_gainOf_12 ?_
  refine A_isub X dX12_gainOf_15 ?_
  refine A_aload_n X 0 rfl rfl dX12_gainOf_16 ?_
  refine A_aload_n X 0 rfl rfl dX12_gainOf_17 ?_
  refine A_iload_n X 1 rfl rfl dX12_gainOf_18 ?_
  obtain ⟨v8, s9, e10, h⟩ := clD h
  refine A_callV_I (na := 1) X (m_X12_second e10) gX12_gainOf_X12_second rfl ⟨rfl, rfl⟩ (by decide +kernel) rfl ⟨Nat.le_of_ble_eq_true rfl, Nat.le_of_ble_eq_true rfl⟩ shM_0 (by decide) rfl rfl (Nat.le_of_ble_eq_true rfl) dX12_gainOf_19 ?_
  obtain ⟨v11, s12, e13, h⟩ := clD h
  refine A_callV_I (na := 1) X (m_X12_aloneOf e13) gX12_gainOf_X12_aloneOf rfl ⟨rfl, rfl⟩ (by decide +kernel) rfl ⟨Nat.le_of_ble_eq_true rfl, Nat.le_of_ble_eq_true rfl⟩ shM_0 (by decide) rfl rfl (Nat.le_of_ble_eq_true rfl) dX12_gainOf_22 ?_
  refine A_isub X dX12_gainOf_25 ?_
  refine A_istore_nN X (L' := fun y2_14 => [(2, vI y2_14), (0, vR 0), (1, vI a1)]) rfl (by decide) (fun _ => rfl) dX12_gainOf_26 (fun y2_14 hy => ?_)
  replace h := ltD h y2_14 hy
  clear hy
  refine A_aload_n X 1 rfl rfl dX12_gainOf_27 ?_
  refine A_getR X fg_X12_gainOf_162 shM_0 (k := 49) rfl (by decide) dX12_gainOf_28 ?_
  refine A_iload_n X 2 rfl rfl dX12_gainOf_31 ?_
  obtain ⟨g15, h⟩ := gdD h
  refine A_zald X g15 shM_29 dX12_gainOf_32 ?_
  refine A_if_eq X (tgt := 44) (by decide) dX12_gainOf_33 (fun c16 => ?_) (fun c16 => ?_)
  · replace h := ifT h c16
    refine A_sub [] rfl (L' := []) rfl ?_
    exact w_X12_gainOf_44 (a1 := a1) X E s12 h
  · replace h := ifF h c16
    refine A_iload_n X 0 rfl rfl dX12_gainOf_36 ?_
    refine A_if_le X (tgt := 44) (by decide) dX12_gainOf_37 (fun c17 => ?_) (fun c17 => ?_)
    · replace h := ifT h c17
      refine A_sub [] rfl (L' := []) rfl ?_
      exact w_X12_gainOf_44 (a1 := a1) X E s12 h
    · replace h := ifF h c17
      refine A_iload_n X 0 rfl rfl dX12_gainOf_40 ?_
      refine A_goto X (tgt := 45) (by decide) dX12_gainOf_41 ?_
      refine A_sub [] rfl (L' := []) rfl ?_
      exact w_X12_gainOf_45 (a1 := a1) X E y2_14 s12 h
abbrev rm_X12_lays : Room := { frames := 4, cells := 0, slots := 0, locals := 99 }
theorem in_X12_lays_12 : ∀ w ∈ u_ws RX12 TX12 75, w ∈ wsX12_lays := fun w h => List.mem_cons_of_mem _ (List.mem_append_right _ h)
theorem fg_X12_lays_165 : aFl wsX12_lays RX12 165 12 50 := ⟨RX12, TX12, 75, rfl, in_X12_lays_12, by decide, (List.mem_of_getElem? (i := 5) rfl), rfl⟩
theorem fg_X12_lays_91 : aFl wsX12_lays RX12 91 12 26 := ⟨RX12, TX12, 75, rfl, in_X12_lays_12, by decide, (List.mem_of_getElem? (i := 6) rfl), rfl⟩
theorem fg_X12_lays_48 : aFl wsX12_lays RX12 48 12 12 := ⟨RX12, TX12, 75, rfl, in_X12_lays_12, by decide, (List.mem_of_getElem? (i := 3) rfl), rfl⟩
theorem fg_X12_lays_168 : aFl wsX12_lays RX12 168 12 51 := ⟨RX12, TX12, 75, rfl, in_X12_lays_12, by decide, (List.mem_of_getElem? (i := 1) rfl), rfl⟩
theorem fg_X12_lays_162 : aFl wsX12_lays RX12 162 12 49 := ⟨RX12, TX12, 75, rfl, in_X12_lays_12, by decide, (List.mem_of_getElem? (i := 4) rfl), rfl⟩
theorem fg_X12_lays_54 : aFl wsX12_lays RX12 54 12 14 := ⟨RX12, TX12, 75, rfl, in_X12_lays_12, by decide, (List.mem_of_getElem? (i := 2) rfl), rfl⟩
set_option maxRecDepth 100000 in
set_option maxHeartbeats 4000000 in
theorem w_X12_lays_69 {x : aC} {r : Int × Hp} {k24 : Int × Hp → Option (Int × Hp)} {a1 : Int} {a2 : Int} (X : aX x cX12_lays wsX12_lays RX12 5 rm_X12_lays) (E : aE x shM none 3 r) (hk24 : ∀ (x3 : Int) (σ : Hp), k24 (x3, σ) = some r → aS x shM 5 24 [(0, vR 0), (1, vI a1), (2, vI a2), (3, vI x3)] [] σ) (x3 : Int) (x4 : Int) (t3 : Int) (t2 : Int) (σ : Hp) (h : F_M_lays_69 k24 a1 a2 x3 x4 t3 t2 σ = some r) : aS x shM 5 69 [(0, vR 0), (1, vI a1), (2, vI a2), (3, vI x3), (4, vI x4)] [vI t3, vI t2, vR 29] σ := by
  unfold F_M_lays_69 at h
  obtain ⟨g1, h⟩ := gdD h
  refine A_zast X g1 shM_29 dX12_lays_69 (fun s2 hy => ?_)
  replace h := ltD h s2 hy
  clear hy
  refine A_aload_n X 0 rfl rfl dX12_lays_70 ?_
  refine A_getR X fg_X12_lays_165 shM_0 (k := 50) rfl (by decide) dX12_lays_71 ?_
  refine A_iload_n X 3 rfl rfl dX12_lays_74 ?_
  refine A_iload X 4 rfl dX12_lays_75 ?_
  refine A_aload_n X 0 rfl rfl dX12_lays_77 ?_
  refine A_getR X fg_X12_lays_91 shM_0 (k := 26) rfl (by decide) dX12_lays_78 ?_
  refine A_sipush X dX12_lays_81 (z := 144) (by decide) ?_
  refine A_aload_n X 0 rfl rfl dX12_lays_84 ?_
  refine A_getI X fg_X12_lays_48 shM_0 (k := 12) rfl (by decide) dX12_lays_85 ?_
  refine A_imul X dX12_lays_88 ?_
  refine A_bipush X dX12_lays_89 (z := 12) (by decide) ?_
  refine A_aload_n X 0 rfl rfl dX12_lays_91 ?_
  refine A_iload_n X 3 rfl rfl dX12_lays_92 ?_
  obtain ⟨v3, s4, e5, h⟩ := clD h
  refine A_callV_I (na := 1) X (m_X12_first e5) gX12_lays_X12_first rfl ⟨rfl, rfl⟩ (by decide +kernel) rfl ⟨Nat.le_of_ble_eq_true rfl, Nat.le_of_ble_eq_true rfl⟩ shM_0 (by decide) rfl rfl (Nat.le_of_ble_eq_true rfl) dX12_lays_93 ?_
  refine A_imul X dX12_lays_96 ?_
  refine A_iadd X dX12_lays_97 ?_
  refine A_aload_n X 0 rfl rfl dX12_lays_98 ?_
  refine A_iload_n X 3 rfl rfl dX12_lays_99 ?_
  obtain ⟨v6, s7, e8, h⟩ := clD h
  refine A_callV_I (na := 1) X (m_X12_second e8) gX12_lays_X12_second rfl ⟨rfl, rfl⟩ (by decide +kernel) rfl ⟨Nat.le_of_ble_eq_true rfl, Nat.le_of_ble_eq_true rfl⟩ shM_0 (by decide) rfl rfl (Nat.le_of_ble_eq_true rfl) dX12_lays_100 ?_
  refine A_iadd X dX12_lays_103 ?_
  obtain ⟨g9, h⟩ := gdD h
  refine A_iald X g9 shM_15 dX12_lays_104 ?_
  refine A_iadd X dX12_lays_105 ?_
  refine A_aload_n X 0 rfl rfl dX12_lays_106 ?_
  refine A_getR X fg_X12_lays_91 shM_0 (k := 26) rfl (by decide) dX12_lays_107 ?_
  refine A_sipush X dX12_lays_110 (z := 144) (by decide) ?_
  refine A_aload_n X 0 rfl rfl dX12_lays_113 ?_
  refine A_getI X fg_X12_lays_48 shM_0 (k := 12) rfl (by decide) dX12_lays_114 ?_
  refine A_imul X dX12_lays_117 ?_
  refine A_bipush X dX12_lays_118 (z := 12) (by decide) ?_
  refine A_aload_n X 0 rfl rfl dX12_lays_120 ?_
  refine A_iload_n X 3 rfl rfl dX12_lays_121 ?_
  obtain ⟨v10, s11, e12, h⟩ := clD h
  refine A_callV_I (na := 1) X (m_X12_second e12) gX12_lays_X12_second rfl ⟨rfl, rfl⟩ (by decide +kernel) rfl ⟨Nat.le_of_ble_eq_true rfl, Nat.le_of_ble_eq_true rfl⟩ shM_0 (by decide) rfl rfl (Nat.le_of_ble_eq_true rfl) dX12_lays_122 ?_
  refine A_imul X dX12_lays_125 ?_
  refine A_iadd X dX12_lays_126 ?_
  refine A_aload_n X 0 rfl rfl dX12_lays_127 ?_
  refine A_iload_n X 3 rfl rfl dX12_lays_128 ?_
  obtain ⟨v13, s14, e15, h⟩ := clD h
  refine A_callV_I (na := 1) X (m_X12_first e15) gX12_lays_X12_first rfl ⟨rfl, rfl⟩ (by decide +kernel) rfl ⟨Nat.le_of_ble_eq_true rfl, Nat.le_of_ble_eq_true rfl⟩ shM_0 (by decide) rfl rfl (Nat.le_of_ble_eq_true rfl) dX12_lays_129 ?_
  refine A_iadd X dX12_lays_132 ?_
  obtain ⟨g16, h⟩ := gdD h
  refine A_iald X g16 shM_15 dX12_lays_133 ?_
  refine A_iadd X dX12_lays_134 ?_
  obtain ⟨g17, h⟩ := gdD h
  refine A_iast X g17 shM_30 dX12_lays_135 (fun s18 hy => ?_)
  replace h := ltD h s18 hy
  clear hy
  refine A_aload_n X 0 rfl rfl dX12_lays_136 ?_
  refine A_getR X fg_X12_lays_168 shM_0 (k := 51) rfl (by decide) dX12_lays_137 ?_
  refine A_bipush X dX12_lays_140 (z := 12) (by decide) ?_
  refine A_aload_n X 0 rfl rfl dX12_lays_142 ?_
  refine A_iload_n X 3 rfl rfl dX12_lays_143 ?_
  obtain ⟨v19, s20, e21, h⟩ := clD h
  refine A_callV_I (na := 1) X (m_X12_first e21) gX12_lays_X12_first rfl ⟨rfl, rfl⟩ (by decide +kernel) rfl ⟨Nat.le_of_ble_eq_true rfl, Nat.le_of_ble_eq_true rfl⟩ shM_0 (by decide) rfl rfl (Nat.le_of_ble_eq_true rfl) dX12_lays_144 ?_
  refine A_imul X dX12_lays_147 ?_
  refine A_aload_n X 0 rfl rfl dX12_lays_148 ?_
  refine A_iload_n X 3 rfl rfl dX12_lays_149 ?_
  obtain ⟨v22, s23, e24, h⟩ := clD h
  refine A_callV_I (na := 1) X (m_X12_second e24) gX12_lays_X12_second rfl ⟨rfl, rfl⟩ (by decide +kernel) rfl ⟨Nat.le_of_ble_eq_true rfl, Nat.le_of_ble_eq_true rfl⟩ shM_0 (by decide) rfl rfl (Nat.le_of_ble_eq_true rfl) dX12_lays_150 ?_
  refine A_iadd X dX12_lays_153 ?_
  refine A_aload_n X 0 rfl rfl dX12_lays_154 ?_
  refine A_iload_n X 3 rfl rfl dX12_lays_155 ?_
  obtain ⟨v25, s26, e27, h⟩ := clD h
  refine A_callV_I (na := 1) X (m_X12_gainOf e27) gX12_lays_X12_gainOf rfl ⟨rfl, rfl⟩ (by decide +kernel) rfl ⟨Nat.le_of_ble_eq_true rfl, Nat.le_of_ble_eq_true rfl⟩ shM_0 (by decide) rfl rfl (Nat.le_of_ble_eq_true rfl) dX12_lays_156 ?_
  obtain ⟨g28, h⟩ := gdD h
  refine A_iast X g28 shM_31 dX12_lays_159 (fun s29 hy => ?_)
  replace h := ltD h s29 hy
  clear hy
  refine A_aload_n X 0 rfl rfl dX12_lays_160 ?_
  refine A_getR X fg_X12_lays_168 shM_0 (k := 51) rfl (by decide) dX12_lays_161 ?_
  refine A_bipush X dX12_lays_164 (z := 12) (by decide) ?_
  refine A_aload_n X 0 rfl rfl dX12_lays_166 ?_
  refine A_iload_n X 3 rfl rfl dX12_lays_167 ?_
  obtain ⟨v30, s31, e32, h⟩ := clD h
  refine A_callV_I (na := 1) X (m_X12_second e32) gX12_lays_X12_second rfl ⟨rfl, rfl⟩ (by decide +kernel) rfl ⟨Nat.le_of_ble_eq_true rfl, Nat.le_of_ble_eq_true rfl⟩ shM_0 (by decide) rfl rfl (Nat.le_of_ble_eq_true rfl) dX12_lays_168 ?_
  refine A_imul X dX12_lays_171 ?_
  refine A_aload_n X 0 rfl rfl dX12_lays_172 ?_
  refine A_iload_n X 3 rfl rfl dX12_lays_173 ?_
  obtain ⟨v33, s34, e35, h⟩ := clD h
  refine A_callV_I (na := 1) X (m_X12_first e35) gX12_lays_X12_first rfl ⟨rfl, rfl⟩ (by decide +kernel) rfl ⟨Nat.le_of_ble_eq_true rfl, Nat.le_of_ble_eq_true rfl⟩ shM_0 (by decide) rfl rfl (Nat.le_of_ble_eq_true rfl) dX12_lays_174 ?_
  refine A_iadd X dX12_lays_177 ?_
  refine A_aload_n X 0 rfl rfl dX12_lays_178 ?_
  refine A_iload_n X 3 rfl rfl dX12_lays_179 ?_
  obtain ⟨v36, s37, e38, h⟩ := clD h
  refine A_callV_I (na := 1) X (m_X12_gainOf e38) gX12_lays_X12_gainOf rfl ⟨rfl, rfl⟩ (by decide +kernel) rfl ⟨Nat.le_of_ble_eq_true rfl, Nat.le_of_ble_eq_true rfl⟩ shM_0 (by decide) rfl rfl (Nat.le_of_ble_eq_true rfl) dX12_lays_180 ?_
  obtain ⟨g39, h⟩ := gdD h
  refine A_iast X g39 shM_31 dX12_lays_183 (fun s40 hy => ?_)
  replace h := ltD h s40 hy
  clear hy
  refine A_iinc X (L' := fun y3_41 => [(3, vI y3_41), (0, vR 0), (1, vI a1), (2, vI a2), (4, vI x4)]) 3 rfl (by decide) (fun _ => rfl) dX12_lays_184 (by decide) (fun y3_41 hy => ?_)
  replace h := ltD h y3_41 hy
  clear hy
  refine A_goto X (tgt := 24) (by decide) dX12_lays_187 ?_
  refine A_sub [1, 2, 3, 0] rfl (L' := [(0, vR 0), (1, vI a1), (2, vI a2), (3, vI y3_41)]) rfl ?_
  exact hk24 y3_41 s40 h
set_option maxRecDepth 100000 in
set_option maxHeartbeats 4000000 in
theorem w_X12_lays_51 {x : aC} {r : Int × Hp} {k24 : Int × Hp → Option (Int × Hp)} {a1 : Int} {a2 : Int} (X : aX x cX12_lays wsX12_lays RX12 5 rm_X12_lays) (E : aE x shM none 3 r) (hk24 : ∀ (x3 : Int) (σ : Hp), k24 (x3, σ) = some r → aS x shM 5 24 [(0, vR 0), (1, vI a1), (2, vI a2), (3, vI x3)] [] σ) (x3 : Int) (t1 : Int) (σ : Hp) (h : F_M_lays_51 k24 a1 a2 x3 t1 σ = some r) : aS x shM 5 51 [(0, vR 0), (1, vI a1), (2, vI a2), (3, vI x3)] [vI t1] σ := by
  unfold F_M_lays_51 at h
  refine A_istore X (L' := [(4, vI t1), (0, vR 0), (1, vI a1), (2, vI a2), (3, vI x3)]) (by decide) rfl dX12_lays_51 ?_
  refine A_aload_n X 1 rfl rfl dX12_lays_53 ?_
  refine A_getR X fg_X12_lays_162 shM_0 (k := 49) rfl (by decide) dX12_lays_54 ?_
  refine A_iload_n X 4 rfl rfl dX12_lays_57 ?_
  refine A_iload X 0 rfl dX12_lays_58 ?_
  refine A_iconst X dX12_lays_60 (z := (-1)) (by decide) ?_
  refine A_icmp_eq X (tgt := 68) (by decide) dX12_lays_61 (fun c42 => ?_) (fun c42 => ?_)
  · replace h := ifT h c42
    refine A_iconst X dX12_lays_68 (z := 0) (by decide) ?_
    refine A_sub [1, 2, 3, 4, 0] rfl (L' := [(0, vR 0), (1, vI a1), (2, vI a2), (3, vI x3), (4, vI t1)]) rfl ?_
    exact w_X12_lays_69 (a1 := a1) (a2 := a2) X E hk24 x3 t1 0 x3 σ h
  · replace h := ifF h c42
    refine A_iconst X dX12_lays_64 (z := 1) (by decide) ?_
    refine A_goto X (tgt := 69) (by decide) dX12_lays_65 ?_
    refine A_sub [1, 2, 3, 4, 0] rfl (L' := [(0, vR 0), (1, vI a1), (2, vI a2), (3, vI x3), (4, vI t1)]) rfl ?_
    exact w_X12_lays_69 (a1 := a1) (a2 := a2) X E hk24 x3 t1 1 x3 σ h
set_option maxRecDepth 100000 in
set_option maxHeartbeats 4000000 in
theorem w_X12_lays_24_b {x : aC} {r : Int × Hp} {k24 : Int × Hp → Option (Int × Hp)} {a1 : Int} {a2 : Int} (X : aX x cX12_lays wsX12_lays RX12 5 rm_X12_lays) (E : aE x shM none 3 r) (hk24 : ∀ (x3 : Int) (σ : Hp), k24 (x3, σ) = some r → aS x shM 5 24 [(0, vR 0), (1, vI a1), (2, vI a2), (3, vI x3)] [] σ) (x3 : Int) (σ : Hp) (h : F_M_lays_24_b k24 a1 a2 x3 σ = some r) : aS x shM 5 24 [(0, vR 0), (1, vI a1), (2, vI a2), (3, vI x3)] [] σ := by
  unfold F_M_lays_24_b at h
  refine A_iload_n X 3 rfl rfl dX12_lays_24 ?_
  refine A_aload_n X 0 rfl rfl dX12_lays_25 ?_
  refine A_getR X fg_X12_lays_54 shM_0 (k := 14) rfl (by decide) dX12_lays_26 ?_
  refine A_aload_n X 0 rfl rfl dX12_lays_29 ?_
  refine A_getI X fg_X12_lays_48 shM_0 (k := 12) rfl (by decide) dX12_lays_30 ?_
  obtain ⟨g43, h⟩ := gdD h
  refine A_iald X g43 shM_3 dX12_lays_33 ?_
  refine A_icmp_ge X (tgt := 190) (by decide) dX12_lays_34 (fun c44 => ?_) (fun c44 => ?_)
  · replace h := ifT h c44
    exact A_return X E h dX12_lays_190
  · replace h := ifF h c44
    refine A_iload_n X 3 rfl rfl dX12_lays_37 ?_
    refine A_iload_n X 1 rfl rfl dX12_lays_38 ?_
    refine A_icmp_ne X (tgt := 46) (by decide) dX12_lays_39 (fun c45 => ?_) (fun c45 => ?_)
    · replace h := ifF h c45
      refine A_aload_n X 0 rfl rfl dX12_lays_46 ?_
      refine A_iload_n X 3 rfl rfl dX12_lays_47 ?_
      obtain ⟨v46, s47, e48, h⟩ := clD h
      refine A_callV_I (na := 1) X (m_X12_worthOf e48) gX12_lays_X12_worthOf rfl ⟨rfl, rfl⟩ (by decide +kernel) rfl ⟨Nat.le_of_ble_eq_true rfl, Nat.le_of_ble_eq_true rfl⟩ shM_0 (by decide) rfl rfl (Nat.le_of_ble_eq_true rfl) dX12_lays_48 ?_
      exact w_X12_lays_51 (a1 := a1) (a2 := a2) X E hk24 x3 v46 s47 h
    · replace h := ifT h c45
      refine A_iload_n X 2 rfl rfl dX12_lays_42 ?_
      refine A_goto X (tgt := 51) (by decide) dX12_lays_43 ?_
      exact w_X12_lays_51 (a1 := a1) (a2 := a2) X E hk24 x3 a2 σ h
set_option maxRecDepth 100000 in
set_option maxHeartbeats 4000000 in
theorem w_X12_lays_24 {x : aC} {r : Int × Hp} {a1 : Int} {a2 : Int} (X : aX x cX12_lays wsX12_lays RX12 5 rm_X12_lays) (E : aE x shM none 3 r) : ∀ (n : Nat) (x3 : Int) (σ : Hp) (h : F_M_lays_24 a1 a2 n (x3, σ) = some r), aS x shM 5 24 [(0, vR 0), (1, vI a1), (2, vI a2), (3, vI x3)] [] σ := by
  intro n
  induction n with
  | zero => intro x3 σ h; cases h
  | succ n ih => intro x3 σ h; exact w_X12_lays_24_b (a1 := a1) (a2 := a2) (k24 := F_M_lays_24 a1 a2 n) X E ih x3 σ h
set_option maxRecDepth 100000 in
set_option maxHeartbeats 4000000 in
theorem w_X12_lays_2_b {x : aC} {r : Int × Hp} {k2 : Int × Hp → Option (Int × Hp)} {a1 : Int} {a2 : Int} (X : aX x cX12_lays wsX12_lays RX12 5 rm_X12_lays) (E : aE x shM none 3 r) (hk2 : ∀ (x3 : Int) (σ : Hp), k2 (x3, σ) = some r → aS x shM 5 2 [(0, vR 0), (1, vI a1), (2, vI a2), (3, vI x3)] [] σ) (x3 : Int) (σ : Hp) (h : F_M_lays_2_b k2 a1 a2 x3 σ = some r) : aS x shM 5 2 [(0, vR 0), (1, vI a1), (2, vI a2), (3, vI x3)] [] σ := by
  unfold F_M_lays_2_b at h
  refine A_iload_n X 3 rfl rfl dX12_lays_2 ?_
  refine A_sipush X dX12_lays_3 (z := 144) (by decide) ?_
  refine A_icmp_ge X (tgt := 22) (by decide) dX12_lays_6 (fun c49 => ?_) (fun c49 => ?_)
  · replace h := ifT h c49
    refine A_iconst X dX12_lays_22 (z := 0) (by decide) ?_
    refine A_istore_n X (L' := [(3, vI 0), (0, vR 0), (1, vI a1), (2, vI a2)]) rfl (by decide) rfl dX12_lays_23 ?_
    refine A_sub [1, 2, 3, 0] rfl (L' := [(0, vR 0), (1, vI a1), (2, vI a2), (3, vI 0)]) rfl ?_
    exact w_X12_lays_24 (a1 := a1) (a2 := a2) X E FU 0 σ h
  · replace h := ifF h c49
    refine A_aload_n X 0 rfl rfl dX12_lays_9 ?_
    refine A_getR X fg_X12_lays_168 shM_0 (k := 51) rfl (by decide) dX12_lays_10 ?_
    refine A_iload_n X 3 rfl rfl dX12_lays_13 ?_
    refine A_iconst X dX12_lays_14 (z := 0) (by decide) ?_
    obtain ⟨g50, h⟩ := gdD h
    refine A_iast X g50 shM_31 dX12_lays_15 (fun s51 hy => ?_)
    replace h := ltD h s51 hy
    clear hy
    refine A_iinc X (L' := fun y3_52 => [(3, vI y3_52), (0, vR 0), (1, vI a1), (2, vI a2)]) 3 rfl (by decide) (fun _ => rfl) dX12_lays_16 (by decide) (fun y3_52 hy => ?_)
    replace h := ltD h y3_52 hy
    clear hy
    refine A_goto X (tgt := 2) (by decide) dX12_lays_19 ?_
    refine A_sub [1, 2, 3, 0] rfl (L' := [(0, vR 0), (1, vI a1), (2, vI a2), (3, vI y3_52)]) rfl ?_
    exact hk2 y3_52 s51 h
set_option maxRecDepth 100000 in
set_option maxHeartbeats 4000000 in
theorem w_X12_lays_2 {x : aC} {r : Int × Hp} {a1 : Int} {a2 : Int} (X : aX x cX12_lays wsX12_lays RX12 5 rm_X12_lays) (E : aE x shM none 3 r) : ∀ (n : Nat) (x3 : Int) (σ : Hp) (h : F_M_lays_2 a1 a2 n (x3, σ) = some r), aS x shM 5 2 [(0, vR 0), (1, vI a1), (2, vI a2), (3, vI x3)] [] σ := by
  intro n
  induction n with
  | zero => intro x3 σ h; cases h
  | succ n ih => intro x3 σ h; exact w_X12_lays_2_b (a1 := a1) (a2 := a2) (k2 := F_M_lays_2 a1 a2 n) X E ih x3 σ h
set_option maxRecDepth 100000 in
set_option maxHeartbeats 4000000 in
theorem m_X12_lays {l : Launch} {g : aG} {a1 : Int} {a2 : Int} {σ : Hp} {r : Int × Hp} (h : F_M_lays a1 a2 σ = some r) : aMet l g shM yX12_lays wsX12_lays rm_X12_lays [vR 0, vI a1, vI a2] σ 3 r := by
  unfold F_M_lays at h
  refine aMet_of (bytes := cX12_lays) (maxL := 5) (ret := none) (by decide +kernel) rfl (Nat.le_of_ble_eq_true rfl) ⟨rfl, rfl⟩ (fun x e1 e2 X E => ?_)
  subst e1; subst e2
  have X : aX x cX12_lays wsX12_lays RX12 5 rm_X12_lays := X
  show aS x shM 5 0 [(0, vR 0), (1, vI a1), (2, vI a2)] [] σ
  refine A_iconst X dX12_lays_0 (z := 0) (by decide) ?_
  refine A_istore_n X (L' := [(3, vI 0), (0, vR 0), (1, vI a1), (2, vI a2)]) rfl (by decide) rfl dX12_lays_1 ?_
  refine A_sub [1, 2, 3, 0] rfl (L' := [(0, vR 0), (1, vI a1), (2, vI a2), (3, vI 0)]) rfl ?_
  exact w_X12_lays_2 (a1 := a1) (a2 := a2) X E FU 0 σ h
abbrev rm_X12_shares : Room := { frames := 1, cells := 0, slots := 0, locals := 21 }
theorem in_X12_shares_12 : ∀ w ∈ u_ws RX12 TX12 75, w ∈ wsX12_shares := fun w h => List.mem_cons_of_mem _ (List.mem_append_right _ h)
theorem fg_X12_shares_54 : aFl wsX12_shares RX12 54 12 14 := ⟨RX12, TX12, 75, rfl, in_X12_shares_12, by decide, (List.mem_of_getElem? (i := 5) rfl), rfl⟩
theorem fg_X12_shares_48 : aFl wsX12_shares RX12 48 12 12 := ⟨RX12, TX12, 75, rfl, in_X12_shares_12, by decide, (List.mem_of_getElem? (i := 2) rfl), rfl⟩
theorem fg_X12_shares_204 : aFl wsX12_shares RX12 204 12 63 := ⟨RX12, TX12, 75, rfl, in_X12_shares_12, by decide, (List.mem_of_getElem? (i := 6) rfl), rfl⟩
theorem fg_X12_shares_162 : aFl wsX12_shares RX12 162 12 49 := ⟨RX12, TX12, 75, rfl, in_X12_shares_12, by decide, (List.mem_of_getElem? (i := 7) rfl), rfl⟩
theorem fg_X12_shares_210 : aFl wsX12_shares RX12 210 12 65 := ⟨RX12, TX12, 75, rfl, in_X12_shares_12, by decide, (List.mem_of_getElem? (i := 3) rfl), rfl⟩
theorem fg_X12_shares_213 : aFl wsX12_shares RX12 213 12 66 := ⟨RX12, TX12, 75, rfl, in_X12_shares_12, by decide, (List.mem_of_getElem? (i := 4) rfl), rfl⟩
theorem fg_X12_shares_207 : aFl wsX12_shares RX12 207 12 64 := ⟨RX12, TX12, 75, rfl, in_X12_shares_12, by decide, (List.mem_of_getElem? (i := 8) rfl), rfl⟩
theorem fg_X12_shares_165 : aFl wsX12_shares RX12 165 12 50 := ⟨RX12, TX12, 75, rfl, in_X12_shares_12, by decide, (List.mem_of_getElem? (i := 9) rfl), rfl⟩
theorem fg_X12_shares_51 : aFl wsX12_shares RX12 51 12 13 := ⟨RX12, TX12, 75, rfl, in_X12_shares_12, by decide, (List.mem_of_getElem? (i := 1) rfl), rfl⟩
set_option maxRecDepth 100000 in
set_option maxHeartbeats 4000000 in
theorem w_X12_shares_140 {x : aC} {r : Int × Hp} {k42 : Int × Hp → Option (Int × Hp)} (X : aX x cX12_shares wsX12_shares RX12 2 rm_X12_shares) (E : aE x shM none 3 r) (hk42 : ∀ (x1 : Int) (σ : Hp), k42 (x1, σ) = some r → aS x shM 2 42 [(0, vR 0), (1, vI x1)] [] σ) (x1 : Int) (σ : Hp) (h : F_M_shares_140 k42 x1 σ = some r) : aS x shM 2 140 [(0, vR 0), (1, vI x1)] [] σ := by
  unfold F_M_shares_140 at h
  refine A_iinc X (L' := fun y1_1 => [(1, vI y1_1), (0, vR 0)]) 1 rfl (by decide) (fun _ => rfl) dX12_shares_140 (by decide) (fun y1_1 hy => ?_)
  replace h := ltD h y1_1 hy
  clear hy
  refine A_goto X (tgt := 42) (by decide) dX12_shares_143 ?_
  refine A_sub [1, 0] rfl (L' := [(0, vR 0), (1, vI y1_1)]) rfl ?_
  exact hk42 y1_1 σ h
set_option maxRecDepth 100000 in
set_option maxHeartbeats 4000000 in
theorem w_X12_shares_42_b {x : aC} {r : Int × Hp} {k42 : Int × Hp → Option (Int × Hp)} (X : aX x cX12_shares wsX12_shares RX12 2 rm_X12_shares) (E : aE x shM none 3 r) (hk42 : ∀ (x1 : Int) (σ : Hp), k42 (x1, σ) = some r → aS x shM 2 42 [(0, vR 0), (1, vI x1)] [] σ) (x1 : Int) (σ : Hp) (h : F_M_shares_42_b k42 x1 σ = some r) : aS x shM 2 42 [(0, vR 0), (1, vI x1)] [] σ := by
  unfold F_M_shares_42_b at h
  refine A_iload_n X 1 rfl rfl dX12_shares_42 ?_
  refine A_aload_n X 0 rfl rfl dX12_shares_43 ?_
  refine A_getR X fg_X12_shares_54 shM_0 (k := 14) rfl (by decide) dX12_shares_44 ?_
  refine A_aload_n X 0 rfl rfl dX12_shares_47 ?_
  refine A_getI X fg_X12_shares_48 shM_0 (k := 12) rfl (by decide) dX12_shares_48 ?_
  obtain ⟨g2, h⟩ := gdD h
  refine A_iald X g2 shM_3 dX12_shares_51 ?_
  refine A_icmp_ge X (tgt := 146) (by decide) dX12_shares_52 (fun c3 => ?_) (fun c3 => ?_)
  · replace h := ifT h c3
    exact A_return X E h dX12_shares_146
  · replace h := ifF h c3
    refine A_aload_n X 0 rfl rfl dX12_shares_55 ?_
    refine A_getR X fg_X12_shares_204 shM_0 (k := 63) rfl (by decide) dX12_shares_56 ?_
    refine A_iload_n X 1 rfl rfl dX12_shares_59 ?_
    obtain ⟨g4, h⟩ := gdD h
    refine A_zald X g4 shM_42 dX12_shares_60 ?_
    refine A_if_eq X (tgt := 140) (by decide) dX12_shares_61 (fun c5 => ?_) (fun c5 => ?_)
    · replace h := ifT h c5
      exact w_X12_shares_140 X E hk42 x1 σ h
    · replace h := ifF h c5
      refine A_aload_n X 0 rfl rfl dX12_shares_64 ?_
      refine A_getR X fg_X12_shares_162 shM_0 (k := 49) rfl (by decide) dX12_shares_65 ?_
      refine A_iload_n X 1 rfl rfl dX12_shares_68 ?_
      obtain ⟨g6, h⟩ := gdD h
      refine A_zald X g6 shM_29 dX12_shares_69 ?_
      refine A_if_ne X (tgt := 76) (by decide) dX12_shares_70 (fun c7 => ?_) (fun c7 => ?_)
      · replace h := ifF h c7
        refine A_aload_n X 0 rfl rfl dX12_shares_76 ?_
        refine A_getR X fg_X12_shares_210 shM_0 (k := 65) rfl (by decide) dX12_shares_77 ?_
        refine A_aload_n X 0 rfl rfl dX12_shares_80 ?_
        refine A_iload_n X 1 rfl rfl dX12_shares_81 ?_
        obtain ⟨v8, s9, e10, h⟩ := clD h
        refine A_callV_I (na := 1) X (m_X12_first e10) gX12_shares_X12_first rfl ⟨rfl, rfl⟩ (by decide +kernel) rfl ⟨Nat.le_of_ble_eq_true rfl, Nat.le_of_ble_eq_true rfl⟩ shM_0 (by decide) rfl rfl (Nat.le_of_ble_eq_true rfl) dX12_shares_82 ?_
        refine A_iload_n X 1 rfl rfl dX12_shares_85 ?_
        obtain ⟨g11, h⟩ := gdD h
        refine A_iast X g11 shM_44 dX12_shares_86 (fun s12 hy => ?_)
        replace h := ltD h s12 hy
        clear hy
        refine A_aload_n X 0 rfl rfl dX12_shares_87 ?_
        refine A_getR X fg_X12_shares_210 shM_0 (k := 65) rfl (by decide) dX12_shares_88 ?_
        refine A_aload_n X 0 rfl rfl dX12_shares_91 ?_
        refine A_iload_n X 1 rfl rfl dX12_shares_92 ?_
        obtain ⟨v13, s14, e15, h⟩ := clD h
        refine A_callV_I (na := 1) X (m_X12_second e15) gX12_shares_X12_second rfl ⟨rfl, rfl⟩ (by decide +kernel) rfl ⟨Nat.le_of_ble_eq_true rfl, Nat.le_of_ble_eq_true rfl⟩ shM_0 (by decide) rfl rfl (Nat.le_of_ble_eq_true rfl) dX12_shares_93 ?_
        refine A_iload_n X 1 rfl rfl dX12_shares_96 ?_
        obtain ⟨g16, h⟩ := gdD h
        refine A_iast X g16 shM_44 dX12_shares_97 (fun s17 hy => ?_)
        replace h := ltD h s17 hy
        clear hy
        refine A_aload_n X 0 rfl rfl dX12_shares_98 ?_
        refine A_getR X fg_X12_shares_213 shM_0 (k := 66) rfl (by decide) dX12_shares_99 ?_
        refine A_aload_n X 0 rfl rfl dX12_shares_102 ?_
        refine A_iload_n X 1 rfl rfl dX12_shares_103 ?_
        obtain ⟨v18, s19, e20, h⟩ := clD h
        refine A_callV_I (na := 1) X (m_X12_first e20) gX12_shares_X12_first rfl ⟨rfl, rfl⟩ (by decide +kernel) rfl ⟨Nat.le_of_ble_eq_true rfl, Nat.le_of_ble_eq_true rfl⟩ shM_0 (by decide) rfl rfl (Nat.le_of_ble_eq_true rfl) dX12_shares_104 ?_
        refine A_aload_n X 0 rfl rfl dX12_shares_107 ?_
        refine A_getR X fg_X12_shares_207 shM_0 (k := 64) rfl (by decide) dX12_shares_108 ?_
        refine A_iload_n X 1 rfl rfl dX12_shares_111 ?_
        obtain ⟨g21, h⟩ := gdD h
        refine A_iald X g21 shM_43 dX12_shares_112 ?_
        refine A_i2l X dX12_shares_113 ?_
        obtain ⟨g22, h⟩ := gdD h
        refine A_last X g22 shM_45 dX12_shares_114 (fun s23 hy => ?_)
        replace h := ltD h s23 hy
        clear hy
        refine A_aload_n X 0 rfl rfl dX12_shares_115 ?_
        refine A_getR X fg_X12_shares_213 shM_0 (k := 66) rfl (by decide) dX12_shares_116 ?_
        refine A_aload_n X 0 rfl rfl dX12_shares_119 ?_
        refine A_iload_n X 1 rfl rfl dX12_shares_120 ?_
        obtain ⟨v24, s25, e26, h⟩ := clD h
        refine A_callV_I (na := 1) X (m_X12_second e26) gX12_shares_X12_second rfl ⟨rfl, rfl⟩ (by decide +kernel) rfl ⟨Nat.le_of_ble_eq_true rfl, Nat.le_of_ble_eq_true rfl⟩ shM_0 (by decide) rfl rfl (Nat.le_of_ble_eq_true rfl) dX12_shares_121 ?_
        refine A_aload_n X 0 rfl rfl dX12_shares_124 ?_
        refine A_getR X fg_X12_shares_165 shM_0 (k := 50) rfl (by decide) dX12_shares_125 ?_
        refine A_iload_n X 1 rfl rfl dX12_shares_128 ?_
        obtain ⟨g27, h⟩ := gdD h
        refine A_iald X g27 shM_30 dX12_shares_129 ?_
        refine A_i2l X dX12_shares_130 ?_
        refine A_aload_n X 0 rfl rfl dX12_shares_131 ?_
        refine A_getR X fg_X12_shares_207 shM_0 (k := 64) rfl (by decide) dX12_shares_132 ?_
        refine A_iload_n X 1 rfl rfl dX12_shares_135 ?_
        obtain ⟨g28, h⟩ := gdD h
        refine A_iald X g28 shM_43 dX12_shares_136 ?_
        refine A_i2l X dX12_shares_137 ?_
        refine A_lsub X dX12_shares_138 ?_
        obtain ⟨g29, h⟩ := gdD h
        refine A_last X g29 shM_45 dX12_shares_139 (fun s30 hy => ?_)
        replace h := ltD h s30 hy
        clear hy
        exact w_X12_shares_140 X E hk42 x1 s30 h
      · replace h := ifT h c7
        refine A_goto X (tgt := 140) (by decide) dX12_shares_73 ?_
        exact w_X12_shares_140 X E hk42 x1 σ h
set_option maxRecDepth 100000 in
set_option maxHeartbeats 4000000 in
theorem w_X12_shares_42 {x : aC} {r : Int × Hp} (X : aX x cX12_shares wsX12_shares RX12 2 rm_X12_shares) (E : aE x shM none 3 r) : ∀ (n : Nat) (x1 : Int) (σ : Hp) (h : F_M_shares_42 n (x1, σ) = some r), aS x shM 2 42 [(0, vR 0), (1, vI x1)] [] σ := by
  intro n
  induction n with
  | zero => intro x1 σ h; cases h
  | succ n ih => intro x1 σ h; exact w_X12_shares_42_b (k42 := F_M_shares_42 n) X E ih x1 σ h
set_option maxRecDepth 100000 in
set_option maxHeartbeats 4000000 in
theorem w_X12_shares_2_b {x : aC} {r : Int × Hp} {k2 : Int × Hp → Option (Int × Hp)} (X : aX x cX12_shares wsX12_shares RX12 2 rm_X12_shares) (E : aE x shM none 3 r) (hk2 : ∀ (x1 : Int) (σ : Hp), k2 (x1, σ) = some r → aS x shM 2 2 [(0, vR 0), (1, vI x1)] [] σ) (x1 : Int) (σ : Hp) (h : F_M_shares_2_b k2 x1 σ = some r) : aS x shM 2 2 [(0, vR 0), (1, vI x1)] [] σ := by
  unfold F_M_shares_2_b at h
  refine A_iload_n X 1 rfl rfl dX12_shares_2 ?_
  refine A_aload_n X 0 rfl rfl dX12_shares_3 ?_
  refine A_getR X fg_X12_shares_51 shM_0 (k := 13) rfl (by decide) dX12_shares_4 ?_
  refine A_aload_n X 0 rfl rfl dX12_shares_7 ?_
  refine A_getI X fg_X12_shares_48 shM_0 (k := 12) rfl (by decide) dX12_shares_8 ?_
  obtain ⟨g31, h⟩ := gdD h
  refine A_iald X g31 shM_2 dX12_shares_11 ?_
  refine A_icmp_ge X (tgt := 40) (by decide) dX12_shares_12 (fun c32 => ?_) (fun c32 => ?_)
  · replace h := ifT h c32
    refine A_iconst X dX12_shares_40 (z := 0) (by decide) ?_
    refine A_istore_n X (L' := [(1, vI 0), (0, vR 0)]) rfl (by decide) rfl dX12_shares_41 ?_
    refine A_sub [1, 0] rfl (L' := [(0, vR 0), (1, vI 0)]) rfl ?_
    exact w_X12_shares_42 X E FU 0 σ h
  · replace h := ifF h c32
    refine A_aload_n X 0 rfl rfl dX12_shares_15 ?_
    refine A_getR X fg_X12_shares_210 shM_0 (k := 65) rfl (by decide) dX12_shares_16 ?_
    refine A_iload_n X 1 rfl rfl dX12_shares_19 ?_
    refine A_iconst X dX12_shares_20 (z := (-1)) (by decide) ?_
    obtain ⟨g33, h⟩ := gdD h
    refine A_iast X g33 shM_44 dX12_shares_21 (fun s34 hy => ?_)
    replace h := ltD h s34 hy
    clear hy
    refine A_aload_n X 0 rfl rfl dX12_shares_22 ?_
    refine A_getR X fg_X12_shares_213 shM_0 (k := 66) rfl (by decide) dX12_shares_23 ?_
    refine A_iload_n X 1 rfl rfl dX12_shares_26 ?_
    refine A_aload_n X 0 rfl rfl dX12_shares_27 ?_
    refine A_iload_n X 1 rfl rfl dX12_shares_28 ?_
    obtain ⟨v35, s36, e37, h⟩ := clD h
    refine A_callV_I (na := 1) X (m_X12_aloneOf e37) gX12_shares_X12_aloneOf rfl ⟨rfl, rfl⟩ (by decide +kernel) rfl ⟨Nat.le_of_ble_eq_true rfl, Nat.le_of_ble_eq_true rfl⟩ shM_0 (by decide) rfl rfl (Nat.le_of_ble_eq_true rfl) dX12_shares_29 ?_
    refine A_i2l X dX12_shares_32 ?_
    obtain ⟨g38, h⟩ := gdD h
    refine A_last X g38 shM_45 dX12_shares_33 (fun s39 hy => ?_)
    replace h := ltD h s39 hy
    clear hy
    refine A_iinc X (L' := fun y1_40 => [(1, vI y1_40), (0, vR 0)]) 1 rfl (by decide) (fun _ => rfl) dX12_shares_34 (by decide) (fun y1_40 hy => ?_)
    replace h := ltD h y1_40 hy
    clear hy
    refine A_goto X (tgt := 2) (by decide) dX12_shares_37 ?_
    refine A_sub [1, 0] rfl (L' := [(0, vR 0), (1, vI y1_40)]) rfl ?_
    exact hk2 y1_40 s39 h
set_option maxRecDepth 100000 in
set_option maxHeartbeats 4000000 in
theorem w_X12_shares_2 {x : aC} {r : Int × Hp} (X : aX x cX12_shares wsX12_shares RX12 2 rm_X12_shares) (E : aE x shM none 3 r) : ∀ (n : Nat) (x1 : Int) (σ : Hp) (h : F_M_shares_2 n (x1, σ) = some r), aS x shM 2 2 [(0, vR 0), (1, vI x1)] [] σ := by
  intro n
  induction n with
  | zero => intro x1 σ h; cases h
  | succ n ih => intro x1 σ h; exact w_X12_shares_2_b (k2 := F_M_shares_2 n) X E ih x1 σ h
set_option maxRecDepth 100000 in
set_option maxHeartbeats 4000000 in
theorem m_X12_shares {l : Launch} {g : aG} {σ : Hp} {r : Int × Hp} (h : F_M_shares σ = some r) : aMet l g shM yX12_shares wsX12_shares rm_X12_shares [vR 0] σ 3 r := by
  unfold F_M_shares at h
  refine aMet_of (bytes := cX12_shares) (maxL := 2) (ret := none) (by decide +kernel) rfl (Nat.le_of_ble_eq_true rfl) ⟨rfl, rfl⟩ (fun x e1 e2 X E => ?_)
  subst e1; subst e2
  have X : aX x cX12_shares wsX12_shares RX12 2 rm_X12_shares := X
  show aS x shM 2 0 [(0, vR 0)] [] σ
  refine A_iconst X dX12_shares_0 (z := 0) (by decide) ?_
  refine A_istore_n X (L' := [(1, vI 0), (0, vR 0)]) rfl (by decide) rfl dX12_shares_1 ?_
  refine A_sub [1, 0] rfl (L' := [(0, vR 0), (1, vI 0)]) rfl ?_
  exact w_X12_shares_2 X E FU 0 σ h
abbrev rm_X12_laysAll : Room := { frames := 5, cells := 0, slots := 0, locals := 123 }
set_option maxRecDepth 100000 in
set_option maxHeartbeats 4000000 in
theorem m_X12_laysAll {l : Launch} {g : aG} {σ : Hp} {r : Int × Hp} (h : F_M_laysAll σ = some r) : aMet l g shM yX12_laysAll wsX12_laysAll rm_X12_laysAll [vR 0] σ 3 r := by
  unfold F_M_laysAll at h
  refine aMet_of (bytes := cX12_laysAll) (maxL := 1) (ret := none) (by decide +kernel) rfl (Nat.le_of_ble_eq_true rfl) ⟨rfl, rfl⟩ (fun x e1 e2 X E => ?_)
  subst e1; subst e2
  have X : aX x cX12_laysAll wsX12_laysAll RX12 1 rm_X12_laysAll := X
  show aS x shM 1 0 [(0, vR 0)] [] σ
  refine A_aload_n X 0 rfl rfl dX12_laysAll_0 ?_
  refine A_iconst X dX12_laysAll_1 (z := (-1)) (by decide) ?_
  refine A_iconst X dX12_laysAll_2 (z := 0) (by decide) ?_
  obtain ⟨v1, s2, e3, h⟩ := clD h
  refine A_callV_V (na := 2) X (m_X12_lays e3) gX12_laysAll_X12_lays rfl ⟨rfl, rfl⟩ (by decide +kernel) rfl ⟨Nat.le_of_ble_eq_true rfl, Nat.le_of_ble_eq_true rfl⟩ shM_0 (by decide) rfl rfl (Nat.le_of_ble_eq_true rfl) dX12_laysAll_3 ?_
  refine A_aload_n X 0 rfl rfl dX12_laysAll_6 ?_
  obtain ⟨v4, s5, e6, h⟩ := clD h
  refine A_callV_V (na := 0) X (m_X12_shares e6) gX12_laysAll_X12_shares rfl ⟨rfl, rfl⟩ (by decide +kernel) rfl ⟨Nat.le_of_ble_eq_true rfl, Nat.le_of_ble_eq_true rfl⟩ shM_0 (by decide) rfl rfl (Nat.le_of_ble_eq_true rfl) dX12_laysAll_7 ?_
  exact A_return X E h dX12_laysAll_10
abbrev rm_X12_mosts : Room := { frames := 2, cells := 0, slots := 0, locals := 43 }
theorem in_X12_mosts_12 : ∀ w ∈ u_ws RX12 TX12 75, w ∈ wsX12_mosts := fun w h => List.mem_cons_of_mem _ (List.mem_append_right _ h)
theorem fg_X12_mosts_51 : aFl wsX12_mosts RX12 51 12 13 := ⟨RX12, TX12, 75, rfl, in_X12_mosts_12, by decide, (List.mem_of_getElem? (i := 5) rfl), rfl⟩
theorem fg_X12_mosts_48 : aFl wsX12_mosts RX12 48 12 12 := ⟨RX12, TX12, 75, rfl, in_X12_mosts_12, by decide, (List.mem_of_getElem? (i := 3) rfl), rfl⟩
theorem fg_X12_mosts_174 : aFl wsX12_mosts RX12 174 12 53 := ⟨RX12, TX12, 75, rfl, in_X12_mosts_12, by decide, (List.mem_of_getElem? (i := 1) rfl), rfl⟩
theorem fg_X12_mosts_171 : aFl wsX12_mosts RX12 171 12 52 := ⟨RX12, TX12, 75, rfl, in_X12_mosts_12, by decide, (List.mem_of_getElem? (i := 4) rfl), rfl⟩
theorem fg_X12_mosts_54 : aFl wsX12_mosts RX12 54 12 14 := ⟨RX12, TX12, 75, rfl, in_X12_mosts_12, by decide, (List.mem_of_getElem? (i := 2) rfl), rfl⟩
set_option maxRecDepth 100000 in
set_option maxHeartbeats 4000000 in
theorem w_X12_mosts_259 {x : aC} {r : Int × Hp} {k160 : Int × Int × Int × Int × Hp → Option (Int × Hp)} {a1 : Int} (X : aX x cX12_mosts wsX12_mosts RX12 7 rm_X12_mosts) (E : aE x shM none 3 r) (hk160 : ∀ (x2 : Int) (x3 : Int) (x4 : Int) (x5 : Int) (σ : Hp), k160 (x2, x3, x4, x5, σ) = some r → aS x shM 7 160 [(0, vR 0), (2, vI x2), (3, vI x3), (4, vI x4), (5, vI x5)] [] σ) (x2 : Int) (x3 : Int) (x4 : Int) (x5 : Int) (σ : Hp) (h : F_M_mosts_259 k160 a1 x2 x3 x4 x5 σ = some r) : aS x shM 7 259 [(0, vR 0), (2, vI x2), (3, vI x3), (4, vI x4), (5, vI x5)] [] σ := by
  unfold F_M_mosts_259 at h
  refine A_iinc X (L' := fun y5_1 => [(5, vI y5_1), (0, vR 0), (2, vI x2), (3, vI x3), (4, vI x4)]) 4 rfl (by decide) (fun _ => rfl) dX12_mosts_259 (by decide) (fun y5_1 hy => ?_)
  replace h := ltD h y5_1 hy
  clear hy
  refine A_goto X (tgt := 160) (by decide) dX12_mosts_262 ?_
  refine A_sub [1, 2, 3, 4, 0] rfl (L' := [(0, vR 0), (2, vI x2), (3, vI x3), (4, vI x4), (5, vI y5_1)]) rfl ?_
  exact hk160 x2 x3 x4 y5_1 σ h
set_option maxRecDepth 100000 in
set_option maxHeartbeats 4000000 in
theorem w_X12_mosts_258 {x : aC} {r : Int × Hp} {k160 : Int × Int × Int × Int × Hp → Option (Int × Hp)} {a1 : Int} (X : aX x cX12_mosts wsX12_mosts RX12 7 rm_X12_mosts) (E : aE x shM none 3 r) (hk160 : ∀ (x2 : Int) (x3 : Int) (x4 : Int) (x5 : Int) (σ : Hp), k160 (x2, x3, x4, x5, σ) = some r → aS x shM 7 160 [(0, vR 0), (2, vI x2), (3, vI x3), (4, vI x4), (5, vI x5)] [] σ) (x2 : Int) (x3 : Int) (x4 : Int) (x5 : Int) (t3 : Int) (t2 : Int) (σ : Hp) (h : F_M_mosts_258 k160 a1 x2 x3 x4 x5 t3 t2 σ = some r) : aS x shM 7 258 [(0, vR 0), (2, vI x2), (3, vI x3), (4, vI x4), (5, vI x5)] [vI t3, vI t2, vR 32] σ := by
  unfold F_M_mosts_258 at h
  obtain ⟨g2, h⟩ := gdD h
  refine A_iast X g2 shM_32 dX12_mosts_258 (fun s3 hy => ?_)
  replace h := ltD h s3 hy
  clear hy
  exact w_X12_mosts_259 (a1 := a1) X E hk160 x2 x3 x4 x5 s3 h
set_option maxRecDepth 100000 in
set_option maxHeartbeats 4000000 in
theorem w_X12_mosts_160_b {x : aC} {r : Int × Hp} {k102 : Int × Hp → Option (Int × Hp)} {k160 : Int × Int × Int × Int × Hp → Option (Int × Hp)} {a1 : Int} (X : aX x cX12_mosts wsX12_mosts RX12 7 rm_X12_mosts) (E : aE x shM none 3 r) (hk102 : ∀ (x2 : Int) (σ : Hp), k102 (x2, σ) = some r → aS x shM 7 102 [(0, vR 0), (2, vI x2)] [] σ) (hk160 : ∀ (x2 : Int) (x3 : Int) (x4 : Int) (x5 : Int) (σ : Hp), k160 (x2, x3, x4, x5, σ) = some r → aS x shM 7 160 [(0, vR 0), (2, vI x2), (3, vI x3), (4, vI x4), (5, vI x5)] [] σ) (x2 : Int) (x3 : Int) (x4 : Int) (x5 : Int) (σ : Hp) (h : F_M_mosts_160_b k102 k160 a1 x2 x3 x4 x5 σ = some r) : aS x shM 7 160 [(0, vR 0), (2, vI x2), (3, vI x3), (4, vI x4), (5, vI x5)] [] σ := by
  unfold F_M_mosts_160_b at h
  refine A_iload X 4 rfl dX12_mosts_160 ?_
  refine A_aload_n X 0 rfl rfl dX12_mosts_162 ?_
  refine A_getR X fg_X12_mosts_51 shM_0 (k := 13) rfl (by decide) dX12_mosts_163 ?_
  refine A_aload_n X 0 rfl rfl dX12_mosts_166 ?_
  refine A_getI X fg_X12_mosts_48 shM_0 (k := 12) rfl (by decide) dX12_mosts_167 ?_
  obtain ⟨g4, h⟩ := gdD h
  refine A_iald X g4 shM_2 dX12_mosts_170 ?_
  refine A_icmp_ge X (tgt := 265) (by decide) dX12_mosts_171 (fun c5 => ?_) (fun c5 => ?_)
  · replace h := ifT h c5
    refine A_iinc X (L' := fun y2_6 => [(2, vI y2_6), (0, vR 0), (3, vI x3), (4, vI x4), (5, vI x5)]) 1 rfl (by decide) (fun _ => rfl) dX12_mosts_265 (by decide) (fun y2_6 hy => ?_)
    replace h := ltD h y2_6 hy
    clear hy
    refine A_goto X (tgt := 102) (by decide) dX12_mosts_268 ?_
    refine A_sub [1, 0] rfl (L' := [(0, vR 0), (2, vI y2_6)]) rfl ?_
    exact hk102 y2_6 σ h
  · replace h := ifF h c5
    refine A_iload X 3 rfl dX12_mosts_174 ?_
    refine A_iload X 4 rfl dX12_mosts_176 ?_
    refine A_ishr X dX12_mosts_178 ?_
    refine A_iconst X dX12_mosts_179 (z := 1) (by decide) ?_
    refine A_iand X dX12_mosts_180 ?_
    refine A_if_eq X (tgt := 259) (by decide) dX12_mosts_181 (fun c7 => ?_) (fun c7 => ?_)
    · replace h := ifT h c7
      exact w_X12_mosts_259 (a1 := a1) X E hk160 x2 x3 x4 x5 σ h
    · replace h := ifF h c7
      refine A_aload_n X 0 rfl rfl dX12_mosts_184 ?_
      refine A_getR X fg_X12_mosts_174 shM_0 (k := 53) rfl (by decide) dX12_mosts_185 ?_
      refine A_bipush X dX12_mosts_188 (z := 12) (by decide) ?_
      refine A_iload_n X 2 rfl rfl dX12_mosts_190 ?_
      refine A_imul X dX12_mosts_191 ?_
      refine A_iload X 4 rfl dX12_mosts_192 ?_
      refine A_iadd X dX12_mosts_194 ?_
      obtain ⟨g8, h⟩ := gdD h
      refine A_iald X g8 shM_33 dX12_mosts_195 ?_
      refine A_if_ne X (tgt := 202) (by decide) dX12_mosts_196 (fun c9 => ?_) (fun c9 => ?_)
      · replace h := ifF h c9
        refine A_aload_n X 0 rfl rfl dX12_mosts_202 ?_
        refine A_getR X fg_X12_mosts_174 shM_0 (k := 53) rfl (by decide) dX12_mosts_203 ?_
        refine A_bipush X dX12_mosts_206 (z := 12) (by decide) ?_
        refine A_iload_n X 2 rfl rfl dX12_mosts_208 ?_
        refine A_imul X dX12_mosts_209 ?_
        refine A_iload X 4 rfl dX12_mosts_210 ?_
        refine A_iadd X dX12_mosts_212 ?_
        obtain ⟨g10, h⟩ := gdD h
        refine A_iald X g10 shM_33 dX12_mosts_213 ?_
        refine A_aload_n X 0 rfl rfl dX12_mosts_214 ?_
        refine A_getR X fg_X12_mosts_171 shM_0 (k := 52) rfl (by decide) dX12_mosts_215 ?_
        refine A_iload X 3 rfl dX12_mosts_218 ?_
        refine A_iconst X dX12_mosts_220 (z := 1) (by decide) ?_
        refine A_iload X 4 rfl dX12_mosts_221 ?_
        refine A_ishl X dX12_mosts_223 ?_
        refine A_iconst X dX12_mosts_224 (z := (-1)) (by decide) ?_
        refine A_ixor X dX12_mosts_225 ?_
        refine A_iand X dX12_mosts_226 ?_
        obtain ⟨g11, h⟩ := gdD h
        refine A_iald X g11 shM_32 dX12_mosts_227 ?_
        refine A_iadd X dX12_mosts_228 ?_
        refine A_istoreN X (L' := fun y6_12 => [(6, vI y6_12), (0, vR 0), (2, vI x2), (3, vI x3), (4, vI x4), (5, vI x5)]) (by decide) (fun _ => rfl) dX12_mosts_229 (fun y6_12 hy => ?_)
        replace h := ltD h y6_12 hy
        clear hy
        refine A_aload_n X 1 rfl rfl dX12_mosts_231 ?_
        refine A_getR X fg_X12_mosts_171 shM_0 (k := 52) rfl (by decide) dX12_mosts_232 ?_
        refine A_iload_n X 2 rfl rfl dX12_mosts_235 ?_
        refine A_iload X 0 rfl dX12_mosts_236 ?_
        refine A_aload_n X 1 rfl rfl dX12_mosts_238 ?_
        refine A_getR X fg_X12_mosts_171 shM_0 (k := 52) rfl (by decide) dX12_mosts_239 ?_
        refine A_iload_n X 2 rfl rfl dX12_mosts_242 ?_
        obtain ⟨g13, h⟩ := gdD h
        refine A_iald X g13 shM_32 dX12_mosts_243 ?_
        refine A_icmp_le X (tgt := 252) (by decide) dX12_mosts_244 (fun c14 => ?_) (fun c14 => ?_)
        · replace h := ifT h c14
          refine A_aload_n X 1 rfl rfl dX12_mosts_252 ?_
          refine A_getR X fg_X12_mosts_171 shM_0 (k := 52) rfl (by decide) dX12_mosts_253 ?_
          refine A_iload_n X 2 rfl rfl dX12_mosts_256 ?_
          obtain ⟨g15, h⟩ := gdD h
          refine A_iald X g15 shM_32 dX12_mosts_257 ?_
          refine A_sub [1, 2, 3, 4, 5] rfl (L' := [(0, vR 0), (2, vI x2), (3, vI x3), (4, vI x4), (5, vI x5)]) rfl ?_
          exact w_X12_mosts_258 (a1 := a1) X E hk160 x2 x3 x4 x5 (σ 32 x2.toNat) x2 σ h
        · replace h := ifF h c14
          refine A_iload X 0 rfl dX12_mosts_247 ?_
          refine A_goto X (tgt := 258) (by decide) dX12_mosts_249 ?_
          refine A_sub [1, 2, 3, 4, 5] rfl (L' := [(0, vR 0), (2, vI x2), (3, vI x3), (4, vI x4), (5, vI x5)]) rfl ?_
          exact w_X12_mosts_258 (a1 := a1) X E hk160 x2 x3 x4 x5 y6_12 x2 σ h
      · replace h := ifT h c9
        refine A_goto X (tgt := 259) (by decide) dX12_mosts_199 ?_
        exact w_X12_mosts_259 (a1 := a1) X E hk160 x2 x3 x4 x5 σ h
set_option maxRecDepth 100000 in
set_option maxHeartbeats 4000000 in
theorem w_X12_mosts_160 {x : aC} {r : Int × Hp} {k102 : Int × Hp → Option (Int × Hp)} {a1 : Int} (X : aX x cX12_mosts wsX12_mosts RX12 7 rm_X12_mosts) (E : aE x shM none 3 r) (hk102 : ∀ (x2 : Int) (σ : Hp), k102 (x2, σ) = some r → aS x shM 7 102 [(0, vR 0), (2, vI x2)] [] σ) : ∀ (n : Nat) (x2 : Int) (x3 : Int) (x4 : Int) (x5 : Int) (σ : Hp) (h : F_M_mosts_160 k102 a1 n (x2, x3, x4, x5, σ) = some r), aS x shM 7 160 [(0, vR 0), (2, vI x2), (3, vI x3), (4, vI x4), (5, vI x5)] [] σ := by
  intro n
  induction n with
  | zero => intro x2 x3 x4 x5 σ h; cases h
  | succ n ih => intro x2 x3 x4 x5 σ h; exact w_X12_mosts_160_b (a1 := a1) (k160 := F_M_mosts_160 k102 a1 n) X E hk102 ih x2 x3 x4 x5 σ h
set_option maxRecDepth 100000 in
set_option maxHeartbeats 4000000 in
theorem w_X12_mosts_119_b {x : aC} {r : Int × Hp} {k102 : Int × Hp → Option (Int × Hp)} {k119 : Int × Int × Hp → Option (Int × Hp)} {a1 : Int} (X : aX x cX12_mosts wsX12_mosts RX12 7 rm_X12_mosts) (E : aE x shM none 3 r) (hk102 : ∀ (x2 : Int) (σ : Hp), k102 (x2, σ) = some r → aS x shM 7 102 [(0, vR 0), (2, vI x2)] [] σ) (hk119 : ∀ (x2 : Int) (x3 : Int) (σ : Hp), k119 (x2, x3, σ) = some r → aS x shM 7 119 [(0, vR 0), (2, vI x2), (3, vI x3)] [] σ) (x2 : Int) (x3 : Int) (σ : Hp) (h : F_M_mosts_119_b k102 k119 a1 x2 x3 σ = some r) : aS x shM 7 119 [(0, vR 0), (2, vI x2), (3, vI x3)] [] σ := by
  unfold F_M_mosts_119_b at h
  refine A_iload_n X 1 rfl rfl dX12_mosts_119 ?_
  refine A_iload_n X 2 rfl rfl dX12_mosts_120 ?_
  refine A_ishr X dX12_mosts_121 ?_
  refine A_iconst X dX12_mosts_122 (z := 1) (by decide) ?_
  refine A_iand X dX12_mosts_123 ?_
  refine A_if_ne X (tgt := 133) (by decide) dX12_mosts_124 (fun c16 => ?_) (fun c16 => ?_)
  · replace h := ifF h c16
    refine A_iload_n X 1 rfl rfl dX12_mosts_133 ?_
    refine A_iconst X dX12_mosts_134 (z := 1) (by decide) ?_
    refine A_iload_n X 2 rfl rfl dX12_mosts_135 ?_
    refine A_ishl X dX12_mosts_136 ?_
    refine A_iconst X dX12_mosts_137 (z := (-1)) (by decide) ?_
    refine A_ixor X dX12_mosts_138 ?_
    refine A_iand X dX12_mosts_139 ?_
    refine A_istoreN X (L' := fun y4_17 => [(4, vI y4_17), (0, vR 0), (2, vI x2), (3, vI x3)]) (by decide) (fun _ => rfl) dX12_mosts_140 (fun y4_17 hy => ?_)
    replace h := ltD h y4_17 hy
    clear hy
    refine A_aload_n X 1 rfl rfl dX12_mosts_142 ?_
    refine A_getR X fg_X12_mosts_171 shM_0 (k := 52) rfl (by decide) dX12_mosts_143 ?_
    refine A_iload_n X 2 rfl rfl dX12_mosts_146 ?_
    refine A_aload_n X 1 rfl rfl dX12_mosts_147 ?_
    refine A_getR X fg_X12_mosts_171 shM_0 (k := 52) rfl (by decide) dX12_mosts_148 ?_
    refine A_iload X 0 rfl dX12_mosts_151 ?_
    obtain ⟨g18, h⟩ := gdD h
    refine A_iald X g18 shM_32 dX12_mosts_153 ?_
    obtain ⟨g19, h⟩ := gdD h
    refine A_iast X g19 shM_32 dX12_mosts_154 (fun s20 hy => ?_)
    replace h := ltD h s20 hy
    clear hy
    refine A_iload_n X 3 rfl rfl dX12_mosts_155 ?_
    refine A_iconst X dX12_mosts_156 (z := 1) (by decide) ?_
    refine A_iadd X dX12_mosts_157 ?_
    refine A_istoreN X (L' := fun y5_21 => [(5, vI y5_21), (4, vI y4_17), (0, vR 0), (2, vI x2), (3, vI x3)]) (by decide) (fun _ => rfl) dX12_mosts_158 (fun y5_21 hy => ?_)
    replace h := ltD h y5_21 hy
    clear hy
    refine A_sub [2, 3, 4, 1, 0] rfl (L' := [(0, vR 0), (2, vI x2), (3, vI x3), (4, vI y4_17), (5, vI y5_21)]) rfl ?_
    exact w_X12_mosts_160 (a1 := a1) X E hk102 FU x2 x3 y4_17 y5_21 s20 h
  · replace h := ifT h c16
    refine A_iinc X (L' := fun y3_22 => [(3, vI y3_22), (0, vR 0), (2, vI x2)]) 2 rfl (by decide) (fun _ => rfl) dX12_mosts_127 (by decide) (fun y3_22 hy => ?_)
    replace h := ltD h y3_22 hy
    clear hy
    refine A_goto X (tgt := 119) (by decide) dX12_mosts_130 ?_
    refine A_sub [1, 2, 0] rfl (L' := [(0, vR 0), (2, vI x2), (3, vI y3_22)]) rfl ?_
    exact hk119 x2 y3_22 σ h
set_option maxRecDepth 100000 in
set_option maxHeartbeats 4000000 in
theorem w_X12_mosts_119 {x : aC} {r : Int × Hp} {k102 : Int × Hp → Option (Int × Hp)} {a1 : Int} (X : aX x cX12_mosts wsX12_mosts RX12 7 rm_X12_mosts) (E : aE x shM none 3 r) (hk102 : ∀ (x2 : Int) (σ : Hp), k102 (x2, σ) = some r → aS x shM 7 102 [(0, vR 0), (2, vI x2)] [] σ) : ∀ (n : Nat) (x2 : Int) (x3 : Int) (σ : Hp) (h : F_M_mosts_119 k102 a1 n (x2, x3, σ) = some r), aS x shM 7 119 [(0, vR 0), (2, vI x2), (3, vI x3)] [] σ := by
  intro n
  induction n with
  | zero => intro x2 x3 σ h; cases h
  | succ n ih => intro x2 x3 σ h; exact w_X12_mosts_119_b (a1 := a1) (k119 := F_M_mosts_119 k102 a1 n) X E hk102 ih x2 x3 σ h
set_option maxRecDepth 100000 in
set_option maxHeartbeats 4000000 in
theorem w_X12_mosts_102_b {x : aC} {r : Int × Hp} {k102 : Int × Hp → Option (Int × Hp)} {a1 : Int} (X : aX x cX12_mosts wsX12_mosts RX12 7 rm_X12_mosts) (E : aE x shM none 3 r) (hk102 : ∀ (x2 : Int) (σ : Hp), k102 (x2, σ) = some r → aS x shM 7 102 [(0, vR 0), (2, vI x2)] [] σ) (x2 : Int) (σ : Hp) (h : F_M_mosts_102_b k102 a1 x2 σ = some r) : aS x shM 7 102 [(0, vR 0), (2, vI x2)] [] σ := by
  unfold F_M_mosts_102_b at h
  refine A_iload_n X 1 rfl rfl dX12_mosts_102 ?_
  refine A_iconst X dX12_mosts_103 (z := 1) (by decide) ?_
  refine A_aload_n X 0 rfl rfl dX12_mosts_104 ?_
  refine A_getR X fg_X12_mosts_51 shM_0 (k := 13) rfl (by decide) dX12_mosts_105 ?_
  refine A_aload_n X 0 rfl rfl dX12_mosts_108 ?_
  refine A_getI X fg_X12_mosts_48 shM_0 (k := 12) rfl (by decide) dX12_mosts_109 ?_
  obtain ⟨g23, h⟩ := gdD h
  refine A_iald X g23 shM_2 dX12_mosts_112 ?_
  refine A_ishl X dX12_mosts_113 ?_
  refine A_icmp_ge X (tgt := 271) (by decide) dX12_mosts_114 (fun c24 => ?_) (fun c24 => ?_)
  · replace h := ifT h c24
    exact A_return X E h dX12_mosts_271
  · replace h := ifF h c24
    refine A_iconst X dX12_mosts_117 (z := 0) (by decide) ?_
    refine A_istore_n X (L' := [(3, vI 0), (0, vR 0), (2, vI x2)]) rfl (by decide) rfl dX12_mosts_118 ?_
    refine A_sub [1, 2, 0] rfl (L' := [(0, vR 0), (2, vI x2), (3, vI 0)]) rfl ?_
    exact w_X12_mosts_119 (a1 := a1) X E hk102 FU x2 0 σ h
set_option maxRecDepth 100000 in
set_option maxHeartbeats 4000000 in
theorem w_X12_mosts_102 {x : aC} {r : Int × Hp} {a1 : Int} (X : aX x cX12_mosts wsX12_mosts RX12 7 rm_X12_mosts) (E : aE x shM none 3 r) : ∀ (n : Nat) (x2 : Int) (σ : Hp) (h : F_M_mosts_102 a1 n (x2, σ) = some r), aS x shM 7 102 [(0, vR 0), (2, vI x2)] [] σ := by
  intro n
  induction n with
  | zero => intro x2 σ h; cases h
  | succ n ih => intro x2 σ h; exact w_X12_mosts_102_b (a1 := a1) (k102 := F_M_mosts_102 a1 n) X E ih x2 σ h
set_option maxRecDepth 100000 in
set_option maxHeartbeats 4000000 in
theorem w_X12_mosts_26_b {x : aC} {r : Int × Hp} {k26 : Int × Hp → Option (Int × Hp)} {a1 : Int} (X : aX x cX12_mosts wsX12_mosts RX12 7 rm_X12_mosts) (E : aE x shM none 3 r) (hk26 : ∀ (x2 : Int) (σ : Hp), k26 (x2, σ) = some r → aS x shM 7 26 [(0, vR 0), (2, vI x2)] [] σ) (x2 : Int) (σ : Hp) (h : F_M_mosts_26_b k26 a1 x2 σ = some r) : aS x shM 7 26 [(0, vR 0), (2, vI x2)] [] σ := by
  unfold F_M_mosts_26_b at h
  refine A_iload_n X 1 rfl rfl dX12_mosts_26 ?_
  refine A_aload_n X 0 rfl rfl dX12_mosts_27 ?_
  refine A_getR X fg_X12_mosts_54 shM_0 (k := 14) rfl (by decide) dX12_mosts_28 ?_
  refine A_aload_n X 0 rfl rfl dX12_mosts_31 ?_
  refine A_getI X fg_X12_mosts_48 shM_0 (k := 12) rfl (by decide) dX12_mosts_32 ?_
  obtain ⟨g25, h⟩ := gdD h
  refine A_iald X g25 shM_3 dX12_mosts_35 ?_
  refine A_icmp_ge X (tgt := 93) (by decide) dX12_mosts_36 (fun c26 => ?_) (fun c26 => ?_)
  · replace h := ifT h c26
    refine A_aload_n X 0 rfl rfl dX12_mosts_93 ?_
    refine A_getR X fg_X12_mosts_171 shM_0 (k := 52) rfl (by decide) dX12_mosts_94 ?_
    refine A_iconst X dX12_mosts_97 (z := 0) (by decide) ?_
    refine A_iconst X dX12_mosts_98 (z := 0) (by decide) ?_
    refine A_iast X (by decide) shM_32 dX12_mosts_99 (fun s27 hy => ?_)
    replace h := ltD h s27 hy
    clear hy
    refine A_iconst X dX12_mosts_100 (z := 1) (by decide) ?_
    refine A_istore_n X (L' := [(2, vI 1), (0, vR 0)]) rfl (by decide) rfl dX12_mosts_101 ?_
    refine A_sub [1, 0] rfl (L' := [(0, vR 0), (2, vI 1)]) rfl ?_
    exact w_X12_mosts_102 (a1 := a1) X E FU 1 s27 h
  · replace h := ifF h c26
    refine A_aload_n X 0 rfl rfl dX12_mosts_39 ?_
    refine A_getR X fg_X12_mosts_174 shM_0 (k := 53) rfl (by decide) dX12_mosts_40 ?_
    refine A_bipush X dX12_mosts_43 (z := 12) (by decide) ?_
    refine A_aload_n X 0 rfl rfl dX12_mosts_45 ?_
    refine A_iload_n X 1 rfl rfl dX12_mosts_46 ?_
    obtain ⟨v28, s29, e30, h⟩ := clD h
    refine A_callV_I (na := 1) X (m_X12_first e30) gX12_mosts_X12_first rfl ⟨rfl, rfl⟩ (by decide +kernel) rfl ⟨Nat.le_of_ble_eq_true rfl, Nat.le_of_ble_eq_true rfl⟩ shM_0 (by decide) rfl rfl (Nat.le_of_ble_eq_true rfl) dX12_mosts_47 ?_
    refine A_imul X dX12_mosts_50 ?_
    refine A_aload_n X 0 rfl rfl dX12_mosts_51 ?_
    refine A_iload_n X 1 rfl rfl dX12_mosts_52 ?_
    obtain ⟨v31, s32, e33, h⟩ := clD h
    refine A_callV_I (na := 1) X (m_X12_second e33) gX12_mosts_X12_second rfl ⟨rfl, rfl⟩ (by decide +kernel) rfl ⟨Nat.le_of_ble_eq_true rfl, Nat.le_of_ble_eq_true rfl⟩ shM_0 (by decide) rfl rfl (Nat.le_of_ble_eq_true rfl) dX12_mosts_53 ?_
    refine A_iadd X dX12_mosts_56 ?_
    refine A_aload_n X 0 rfl rfl dX12_mosts_57 ?_
    refine A_iload_n X 1 rfl rfl dX12_mosts_58 ?_
    obtain ⟨v34, s35, e36, h⟩ := clD h
    refine A_callV_I (na := 1) X (m_X12_gainOf e36) gX12_mosts_X12_gainOf rfl ⟨rfl, rfl⟩ (by decide +kernel) rfl ⟨Nat.le_of_ble_eq_true rfl, Nat.le_of_ble_eq_true rfl⟩ shM_0 (by decide) rfl rfl (Nat.le_of_ble_eq_true rfl) dX12_mosts_59 ?_
    obtain ⟨g37, h⟩ := gdD h
    refine A_iast X g37 shM_33 dX12_mosts_62 (fun s38 hy => ?_)
    replace h := ltD h s38 hy
    clear hy
    refine A_aload_n X 0 rfl rfl dX12_mosts_63 ?_
    refine A_getR X fg_X12_mosts_174 shM_0 (k := 53) rfl (by decide) dX12_mosts_64 ?_
    refine A_bipush X dX12_mosts_67 (z := 12) (by decide) ?_
    refine A_aload_n X 0 rfl rfl dX12_mosts_69 ?_
    refine A_iload_n X 1 rfl rfl dX12_mosts_70 ?_
    obtain ⟨v39, s40, e41, h⟩ := clD h
    refine A_callV_I (na := 1) X (m_X12_second e41) gX12_mosts_X12_second rfl ⟨rfl, rfl⟩ (by decide +kernel) rfl ⟨Nat.le_of_ble_eq_true rfl, Nat.le_of_ble_eq_true rfl⟩ shM_0 (by decide) rfl rfl (Nat.le_of_ble_eq_true rfl) dX12_mosts_71 ?_
    refine A_imul X dX12_mosts_74 ?_
    refine A_aload_n X 0 rfl rfl dX12_mosts_75 ?_
    refine A_iload_n X 1 rfl rfl dX12_mosts_76 ?_
    obtain ⟨v42, s43, e44, h⟩ := clD h
    refine A_callV_I (na := 1) X (m_X12_first e44) gX12_mosts_X12_first rfl ⟨rfl, rfl⟩ (by decide +kernel) rfl ⟨Nat.le_of_ble_eq_true rfl, Nat.le_of_ble_eq_true rfl⟩ shM_0 (by decide) rfl rfl (Nat.le_of_ble_eq_true rfl) dX12_mosts_77 ?_
    refine A_iadd X dX12_mosts_80 ?_
    refine A_aload_n X 0 rfl rfl dX12_mosts_81 ?_
    refine A_iload_n X 1 rfl rfl dX12_mosts_82 ?_
    obtain ⟨v45, s46, e47, h⟩ := clD h
    refine A_callV_I (na := 1) X (m_X12_gainOf e47) gX12_mosts_X12_gainOf rfl ⟨rfl, rfl⟩ (by decide +kernel) rfl ⟨Nat.le_of_ble_eq_true rfl, Nat.le_of_ble_eq_true rfl⟩ shM_0 (by decide) rfl rfl (Nat.le_of_ble_eq_true rfl) dX12_mosts_83 ?_
    obtain ⟨g48, h⟩ := gdD h
    refine A_iast X g48 shM_33 dX12_mosts_86 (fun s49 hy => ?_)
    replace h := ltD h s49 hy
    clear hy
    refine A_iinc X (L' := fun y2_50 => [(2, vI y2_50), (0, vR 0)]) 1 rfl (by decide) (fun _ => rfl) dX12_mosts_87 (by decide) (fun y2_50 hy => ?_)
    replace h := ltD h y2_50 hy
    clear hy
    refine A_goto X (tgt := 26) (by decide) dX12_mosts_90 ?_
    refine A_sub [1, 0] rfl (L' := [(0, vR 0), (2, vI y2_50)]) rfl ?_
    exact hk26 y2_50 s49 h
set_option maxRecDepth 100000 in
set_option maxHeartbeats 4000000 in
theorem w_X12_mosts_26 {x : aC} {r : Int × Hp} {a1 : Int} (X : aX x cX12_mosts wsX12_mosts RX12 7 rm_X12_mosts) (E : aE x shM none 3 r) : ∀ (n : Nat) (x2 : Int) (σ : Hp) (h : F_M_mosts_26 a1 n (x2, σ) = some r), aS x shM 7 26 [(0, vR 0), (2, vI x2)] [] σ := by
  intro n
  induction n with
  | zero => intro x2 σ h; cases h
  | succ n ih => intro x2 σ h; exact w_X12_mosts_26_b (a1 := a1) (k26 := F_M_mosts_26 a1 n) X E ih x2 σ h
set_option maxRecDepth 100000 in
set_option maxHeartbeats 4000000 in
theorem w_X12_mosts_2_b {x : aC} {r : Int × Hp} {k2 : Int × Hp → Option (Int × Hp)} {a1 : Int} (X : aX x cX12_mosts wsX12_mosts RX12 7 rm_X12_mosts) (E : aE x shM none 3 r) (hk2 : ∀ (x2 : Int) (σ : Hp), k2 (x2, σ) = some r → aS x shM 7 2 [(0, vR 0), (1, vI a1), (2, vI x2)] [] σ) (x2 : Int) (σ : Hp) (h : F_M_mosts_2_b k2 a1 x2 σ = some r) : aS x shM 7 2 [(0, vR 0), (1, vI a1), (2, vI x2)] [] σ := by
  unfold F_M_mosts_2_b at h
  refine A_iload_n X 2 rfl rfl dX12_mosts_2 ?_
  refine A_sipush X dX12_mosts_3 (z := 144) (by decide) ?_
  refine A_icmp_ge X (tgt := 22) (by decide) dX12_mosts_6 (fun c51 => ?_) (fun c51 => ?_)
  · replace h := ifT h c51
    refine A_iload_n X 1 rfl rfl dX12_mosts_22 ?_
    refine A_iconst X dX12_mosts_23 (z := 1) (by decide) ?_
    refine A_iadd X dX12_mosts_24 ?_
    refine A_istore_nN X (L' := fun y2_52 => [(2, vI y2_52), (0, vR 0), (1, vI a1)]) rfl (by decide) (fun _ => rfl) dX12_mosts_25 (fun y2_52 hy => ?_)
    replace h := ltD h y2_52 hy
    clear hy
    refine A_sub [1, 0] rfl (L' := [(0, vR 0), (2, vI y2_52)]) rfl ?_
    exact w_X12_mosts_26 (a1 := a1) X E FU y2_52 σ h
  · replace h := ifF h c51
    refine A_aload_n X 0 rfl rfl dX12_mosts_9 ?_
    refine A_getR X fg_X12_mosts_174 shM_0 (k := 53) rfl (by decide) dX12_mosts_10 ?_
    refine A_iload_n X 2 rfl rfl dX12_mosts_13 ?_
    refine A_iconst X dX12_mosts_14 (z := 0) (by decide) ?_
    obtain ⟨g53, h⟩ := gdD h
    refine A_iast X g53 shM_33 dX12_mosts_15 (fun s54 hy => ?_)
    replace h := ltD h s54 hy
    clear hy
    refine A_iinc X (L' := fun y2_55 => [(2, vI y2_55), (0, vR 0), (1, vI a1)]) 2 rfl (by decide) (fun _ => rfl) dX12_mosts_16 (by decide) (fun y2_55 hy => ?_)
    replace h := ltD h y2_55 hy
    clear hy
    refine A_goto X (tgt := 2) (by decide) dX12_mosts_19 ?_
    refine A_sub [1, 2, 0] rfl (L' := [(0, vR 0), (1, vI a1), (2, vI y2_55)]) rfl ?_
    exact hk2 y2_55 s54 h
set_option maxRecDepth 100000 in
set_option maxHeartbeats 4000000 in
theorem w_X12_mosts_2 {x : aC} {r : Int × Hp} {a1 : Int} (X : aX x cX12_mosts wsX12_mosts RX12 7 rm_X12_mosts) (E : aE x shM none 3 r) : ∀ (n : Nat) (x2 : Int) (σ : Hp) (h : F_M_mosts_2 a1 n (x2, σ) = some r), aS x shM 7 2 [(0, vR 0), (1, vI a1), (2, vI x2)] [] σ := by
  intro n
  induction n with
  | zero => intro x2 σ h; cases h
  | succ n ih => intro x2 σ h; exact w_X12_mosts_2_b (a1 := a1) (k2 := F_M_mosts_2 a1 n) X E ih x2 σ h
set_option maxRecDepth 100000 in
set_option maxHeartbeats 4000000 in
theorem m_X12_mosts {l : Launch} {g : aG} {a1 : Int} {σ : Hp} {r : Int × Hp} (h : F_M_mosts a1 σ = some r) : aMet l g shM yX12_mosts wsX12_mosts rm_X12_mosts [vR 0, vI a1] σ 3 r := by
  unfold F_M_mosts at h
  refine aMet_of (bytes := cX12_mosts) (maxL := 7) (ret := none) (by decide +kernel) rfl (Nat.le_of_ble_eq_true rfl) ⟨rfl, rfl⟩ (fun x e1 e2 X E => ?_)
  subst e1; subst e2
  have X : aX x cX12_mosts wsX12_mosts RX12 7 rm_X12_mosts := X
  show aS x shM 7 0 [(0, vR 0), (1, vI a1)] [] σ
  refine A_iconst X dX12_mosts_0 (z := 0) (by decide) ?_
  refine A_istore_n X (L' := [(2, vI 0), (0, vR 0), (1, vI a1)]) rfl (by decide) rfl dX12_mosts_1 ?_
  refine A_sub [1, 2, 0] rfl (L' := [(0, vR 0), (1, vI a1), (2, vI 0)]) rfl ?_
  exact w_X12_mosts_2 (a1 := a1) X E FU 0 σ h
abbrev rm_X12_away : Room := { frames := 6, cells := 0, slots := 0, locals := 143 }
theorem in_X12_away_12 : ∀ w ∈ u_ws RX12 TX12 75, w ∈ wsX12_away := fun w h => List.mem_cons_of_mem _ (List.mem_append_right _ h)
theorem fg_X12_away_51 : aFl wsX12_away RX12 51 12 13 := ⟨RX12, TX12, 75, rfl, in_X12_away_12, by decide, (List.mem_of_getElem? (i := 2) rfl), rfl⟩
theorem fg_X12_away_48 : aFl wsX12_away RX12 48 12 12 := ⟨RX12, TX12, 75, rfl, in_X12_away_12, by decide, (List.mem_of_getElem? (i := 3) rfl), rfl⟩
theorem fg_X12_away_213 : aFl wsX12_away RX12 213 12 66 := ⟨RX12, TX12, 75, rfl, in_X12_away_12, by decide, (List.mem_of_getElem? (i := 4) rfl), rfl⟩
theorem fg_X12_away_171 : aFl wsX12_away RX12 171 12 52 := ⟨RX12, TX12, 75, rfl, in_X12_away_12, by decide, (List.mem_of_getElem? (i := 1) rfl), rfl⟩
set_option maxRecDepth 100000 in
set_option maxHeartbeats 4000000 in
theorem w_X12_away_74 {x : aC} {r : Int × Hp} {k30 : Int × Int × Int × Hp → Option (Int × Hp)} (X : aX x cX12_away wsX12_away RX12 5 rm_X12_away) (E : aE x shM (some .int) 0 r) (hk30 : ∀ (x1 : Int) (x2 : Int) (x4 : Int) (σ : Hp), k30 (x1, x2, x4, σ) = some r → aS x shM 5 30 [(0, vR 0), (1, vI x1), (2, vL x2), (4, vI x4)] [] σ) (x1 : Int) (x4 : Int) (t2 : Int) (t1 : Int) (σ : Hp) (h : F_M_away_74 k30 x1 x4 t2 t1 σ = some r) : aS x shM 5 74 [(0, vR 0), (1, vI x1), (4, vI x4)] [vL t2, vL t1] σ := by
  unfold F_M_away_74 at h
  refine A_ladd X dX12_away_74 ?_
  refine A_lstore_nN X (L' := fun y2_1 => [(2, vL y2_1), (0, vR 0), (1, vI x1), (4, vI x4)]) rfl (by decide) (fun _ => rfl) dX12_away_75 (fun y2_1 hy => ?_)
  replace h := ltD h y2_1 hy
  clear hy
  refine A_iinc X (L' := fun y4_2 => [(4, vI y4_2), (2, vL y2_1), (0, vR 0), (1, vI x1)]) 3 rfl (by decide) (fun _ => rfl) dX12_away_76 (by decide) (fun y4_2 hy => ?_)
  replace h := ltD h y4_2 hy
  clear hy
  refine A_goto X (tgt := 30) (by decide) dX12_away_79 ?_
  refine A_sub [2, 3, 1, 0] rfl (L' := [(0, vR 0), (1, vI x1), (2, vL y2_1), (4, vI y4_2)]) rfl ?_
  exact hk30 x1 y2_1 y4_2 σ h
set_option maxRecDepth 100000 in
set_option maxHeartbeats 4000000 in
theorem w_X12_away_30_b {x : aC} {r : Int × Hp} {k11 : Int × Hp → Option (Int × Hp)} {k30 : Int × Int × Int × Hp → Option (Int × Hp)} (X : aX x cX12_away wsX12_away RX12 5 rm_X12_away) (E : aE x shM (some .int) 0 r) (hk11 : ∀ (x1 : Int) (σ : Hp), k11 (x1, σ) = some r → aS x shM 5 11 [(0, vR 0), (1, vI x1)] [] σ) (hk30 : ∀ (x1 : Int) (x2 : Int) (x4 : Int) (σ : Hp), k30 (x1, x2, x4, σ) = some r → aS x shM 5 30 [(0, vR 0), (1, vI x1), (2, vL x2), (4, vI x4)] [] σ) (x1 : Int) (x2 : Int) (x4 : Int) (σ : Hp) (h : F_M_away_30_b k11 k30 x1 x2 x4 σ = some r) : aS x shM 5 30 [(0, vR 0), (1, vI x1), (2, vL x2), (4, vI x4)] [] σ := by
  unfold F_M_away_30_b at h
  refine A_iload X 3 rfl dX12_away_30 ?_
  refine A_aload_n X 0 rfl rfl dX12_away_32 ?_
  refine A_getR X fg_X12_away_51 shM_0 (k := 13) rfl (by decide) dX12_away_33 ?_
  refine A_aload_n X 0 rfl rfl dX12_away_36 ?_
  refine A_getI X fg_X12_away_48 shM_0 (k := 12) rfl (by decide) dX12_away_37 ?_
  obtain ⟨g3, h⟩ := gdD h
  refine A_iald X g3 shM_2 dX12_away_40 ?_
  refine A_icmp_ge X (tgt := 82) (by decide) dX12_away_41 (fun c4 => ?_) (fun c4 => ?_)
  · replace h := ifT h c4
    refine A_lload_n X 2 rfl rfl dX12_away_82 ?_
    refine A_lconst X dX12_away_83 (z := 0) (by decide) ?_
    refine A_lcmp X dX12_away_84 ?_
    refine A_if_le X (tgt := 90) (by decide) dX12_away_85 (fun c5 => ?_) (fun c5 => ?_)
    · replace h := ifT h c5
      refine A_iinc X (L' := fun y1_6 => [(1, vI y1_6), (0, vR 0), (2, vL x2), (4, vI x4)]) 1 rfl (by decide) (fun _ => rfl) dX12_away_90 (by decide) (fun y1_6 hy => ?_)
      replace h := ltD h y1_6 hy
      clear hy
      refine A_goto X (tgt := 11) (by decide) dX12_away_93 ?_
      refine A_sub [1, 0] rfl (L' := [(0, vR 0), (1, vI y1_6)]) rfl ?_
      exact hk11 y1_6 σ h
    · replace h := ifF h c5
      refine A_iload_n X 1 rfl rfl dX12_away_88 ?_
      exact A_ireturn X E h dX12_away_89
  · replace h := ifF h c4
    refine A_lload_n X 2 rfl rfl dX12_away_44 ?_
    refine A_iload_n X 1 rfl rfl dX12_away_45 ?_
    refine A_iload X 3 rfl dX12_away_46 ?_
    refine A_ishr X dX12_away_48 ?_
    refine A_iconst X dX12_away_49 (z := 1) (by decide) ?_
    refine A_iand X dX12_away_50 ?_
    refine A_iconst X dX12_away_51 (z := 1) (by decide) ?_
    refine A_icmp_ne X (tgt := 73) (by decide) dX12_away_52 (fun c7 => ?_) (fun c7 => ?_)
    · replace h := ifF h c7
      refine A_lconst X dX12_away_73 (z := 0) (by decide) ?_
      refine A_sub [0, 1, 3] rfl (L' := [(0, vR 0), (1, vI x1), (4, vI x4)]) rfl ?_
      exact w_X12_away_74 X E hk30 x1 x4 0 x2 σ h
    · replace h := ifT h c7
      refine A_aload_n X 0 rfl rfl dX12_away_55 ?_
      refine A_iload X 3 rfl dX12_away_56 ?_
      obtain ⟨v8, s9, e10, h⟩ := clD h
      refine A_callV_I (na := 1) X (m_X12_aloneOf e10) gX12_away_X12_aloneOf rfl ⟨rfl, rfl⟩ (by decide +kernel) rfl ⟨Nat.le_of_ble_eq_true rfl, Nat.le_of_ble_eq_true rfl⟩ shM_0 (by decide) rfl rfl (Nat.le_of_ble_eq_true rfl) dX12_away_58 ?_
      refine A_i2l X dX12_away_61 ?_
      refine A_aload_n X 0 rfl rfl dX12_away_62 ?_
      refine A_getR X fg_X12_away_213 shM_0 (k := 66) rfl (by decide) dX12_away_63 ?_
      refine A_iload X 3 rfl dX12_away_66 ?_
      obtain ⟨g11, h⟩ := gdD h
      refine A_lald X g11 shM_45 dX12_away_68 ?_
      refine A_lsub X dX12_away_69 ?_
      refine A_goto X (tgt := 74) (by decide) dX12_away_70 ?_
      refine A_sub [0, 1, 3] rfl (L' := [(0, vR 0), (1, vI x1), (4, vI x4)]) rfl ?_
      exact w_X12_away_74 X E hk30 x1 x4 (lsub v8 (s9 45 x4.toNat)) x2 s9 h
set_option maxRecDepth 100000 in
set_option maxHeartbeats 4000000 in
theorem w_X12_away_30 {x : aC} {r : Int × Hp} {k11 : Int × Hp → Option (Int × Hp)} (X : aX x cX12_away wsX12_away RX12 5 rm_X12_away) (E : aE x shM (some .int) 0 r) (hk11 : ∀ (x1 : Int) (σ : Hp), k11 (x1, σ) = some r → aS x shM 5 11 [(0, vR 0), (1, vI x1)] [] σ) : ∀ (n : Nat) (x1 : Int) (x2 : Int) (x4 : Int) (σ : Hp) (h : F_M_away_30 k11 n (x1, x2, x4, σ) = some r), aS x shM 5 30 [(0, vR 0), (1, vI x1), (2, vL x2), (4, vI x4)] [] σ := by
  intro n
  induction n with
  | zero => intro x1 x2 x4 σ h; cases h
  | succ n ih => intro x1 x2 x4 σ h; exact w_X12_away_30_b (k30 := F_M_away_30 k11 n) X E hk11 ih x1 x2 x4 σ h
set_option maxRecDepth 100000 in
set_option maxHeartbeats 4000000 in
theorem w_X12_away_11_b {x : aC} {r : Int × Hp} {k11 : Int × Hp → Option (Int × Hp)} (X : aX x cX12_away wsX12_away RX12 5 rm_X12_away) (E : aE x shM (some .int) 0 r) (hk11 : ∀ (x1 : Int) (σ : Hp), k11 (x1, σ) = some r → aS x shM 5 11 [(0, vR 0), (1, vI x1)] [] σ) (x1 : Int) (σ : Hp) (h : F_M_away_11_b k11 x1 σ = some r) : aS x shM 5 11 [(0, vR 0), (1, vI x1)] [] σ := by
  unfold F_M_away_11_b at h
  refine A_iload_n X 1 rfl rfl dX12_away_11 ?_
  refine A_aload_n X 0 rfl rfl dX12_away_12 ?_
  obtain ⟨v12, s13, e14, h⟩ := clD h
  refine A_callV_I (na := 0) X (m_X12_all e14) gX12_away_X12_all rfl ⟨rfl, rfl⟩ (by decide +kernel) rfl ⟨Nat.le_of_ble_eq_true rfl, Nat.le_of_ble_eq_true rfl⟩ shM_0 (by decide) rfl rfl (Nat.le_of_ble_eq_true rfl) dX12_away_13 ?_
  refine A_icmp_gt X (tgt := 96) (by decide) dX12_away_16 (fun c15 => ?_) (fun c15 => ?_)
  · replace h := ifT h c15
    refine A_iconst X dX12_away_96 (z := 0) (by decide) ?_
    exact A_ireturn X E h dX12_away_97
  · replace h := ifF h c15
    refine A_aload_n X 0 rfl rfl dX12_away_19 ?_
    refine A_getR X fg_X12_away_171 shM_0 (k := 52) rfl (by decide) dX12_away_20 ?_
    refine A_iload_n X 1 rfl rfl dX12_away_23 ?_
    obtain ⟨g16, h⟩ := gdD h
    refine A_iald X g16 shM_32 dX12_away_24 ?_
    refine A_i2l X dX12_away_25 ?_
    refine A_lstore_nN X (L' := fun y2_17 => [(2, vL y2_17), (0, vR 0), (1, vI x1)]) rfl (by decide) (fun _ => rfl) dX12_away_26 (fun y2_17 hy => ?_)
    replace h := ltD h y2_17 hy
    clear hy
    refine A_iconst X dX12_away_27 (z := 0) (by decide) ?_
    refine A_istore X (L' := [(4, vI 0), (2, vL y2_17), (0, vR 0), (1, vI x1)]) (by decide) rfl dX12_away_28 ?_
    refine A_sub [2, 3, 1, 0] rfl (L' := [(0, vR 0), (1, vI x1), (2, vL y2_17), (4, vI 0)]) rfl ?_
    exact w_X12_away_30 X E hk11 FU x1 y2_17 0 s13 h
set_option maxRecDepth 100000 in
set_option maxHeartbeats 4000000 in
theorem w_X12_away_11 {x : aC} {r : Int × Hp} (X : aX x cX12_away wsX12_away RX12 5 rm_X12_away) (E : aE x shM (some .int) 0 r) : ∀ (n : Nat) (x1 : Int) (σ : Hp) (h : F_M_away_11 n (x1, σ) = some r), aS x shM 5 11 [(0, vR 0), (1, vI x1)] [] σ := by
  intro n
  induction n with
  | zero => intro x1 σ h; cases h
  | succ n ih => intro x1 σ h; exact w_X12_away_11_b (k11 := F_M_away_11 n) X E ih x1 σ h
set_option maxRecDepth 100000 in
set_option maxHeartbeats 4000000 in
theorem m_X12_away {l : Launch} {g : aG} {σ : Hp} {r : Int × Hp} (h : F_M_away σ = some r) : aMet l g shM yX12_away wsX12_away rm_X12_away [vR 0] σ 0 r := by
  unfold F_M_away at h
  refine aMet_of (bytes := cX12_away) (maxL := 5) (ret := (some .int)) (by decide +kernel) rfl (Nat.le_of_ble_eq_true rfl) ⟨rfl, rfl⟩ (fun x e1 e2 X E => ?_)
  subst e1; subst e2
  have X : aX x cX12_away wsX12_away RX12 5 rm_X12_away := X
  show aS x shM 5 0 [(0, vR 0)] [] σ
  refine A_aload_n X 0 rfl rfl dX12_away_0 ?_
  obtain ⟨v18, s19, e20, h⟩ := clD h
  refine A_callV_V (na := 0) X (m_X12_laysAll e20) gX12_away_X12_laysAll rfl ⟨rfl, rfl⟩ (by decide +kernel) rfl ⟨Nat.le_of_ble_eq_true rfl, Nat.le_of_ble_eq_true rfl⟩ shM_0 (by decide) rfl rfl (Nat.le_of_ble_eq_true rfl) dX12_away_1 ?_
  refine A_aload_n X 0 rfl rfl dX12_away_4 ?_
  refine A_iconst X dX12_away_5 (z := (-1)) (by decide) ?_
  obtain ⟨v21, s22, e23, h⟩ := clD h
  refine A_callV_V (na := 1) X (m_X12_mosts e23) gX12_away_X12_mosts rfl ⟨rfl, rfl⟩ (by decide +kernel) rfl ⟨Nat.le_of_ble_eq_true rfl, Nat.le_of_ble_eq_true rfl⟩ shM_0 (by decide) rfl rfl (Nat.le_of_ble_eq_true rfl) dX12_away_6 ?_
  refine A_iconst X dX12_away_9 (z := 1) (by decide) ?_
  refine A_istore_n X (L' := [(1, vI 1), (0, vR 0)]) rfl (by decide) rfl dX12_away_10 ?_
  refine A_sub [1, 0] rfl (L' := [(0, vR 0), (1, vI 1)]) rfl ?_
  exact w_X12_away_11 X E FU 1 s22 h
abbrev rm_X12_blame : Room := { frames := 0, cells := 0, slots := 0, locals := 0 }
theorem in_X12_blame_12 : ∀ w ∈ u_ws RX12 TX12 75, w ∈ wsX12_blame := fun w h => List.mem_cons_of_mem _ (List.mem_append_right _ h)
theorem fg_X12_blame_36 : aFl wsX12_blame RX12 36 12 8 := ⟨RX12, TX12, 75, rfl, in_X12_blame_12, by decide, (List.mem_of_getElem? (i := 1) rfl), rfl⟩
theorem fp_X12_blame_36 : aFp wsX12_blame RX12 36 12 8 .int := ⟨RX12, TX12, 75, tyX12, rfl, in_X12_blame_12, by decide, (List.mem_of_getElem? (i := 1) rfl), rfl, tyX12_ok, nmX12, rfl, rfl⟩
theorem fp_X12_blame_39 : aFp wsX12_blame RX12 39 12 9 .int := ⟨RX12, TX12, 75, tyX12, rfl, in_X12_blame_12, by decide, (List.mem_of_getElem? (i := 2) rfl), rfl, tyX12_ok, nmX12, rfl, rfl⟩
set_option maxRecDepth 100000 in
set_option maxHeartbeats 4000000 in
theorem m_X12_blame {l : Launch} {g : aG} {a1 : Int} {a2 : Int} {σ : Hp} {r : Int × Hp} (h : F_M_blame a1 a2 σ = some r) : aMet l g shM yX12_blame wsX12_blame rm_X12_blame [vR 0, vI a1, vI a2] σ 3 r := by
  unfold F_M_blame at h
  refine aMet_of (bytes := cX12_blame) (maxL := 3) (ret := none) (by decide +kernel) rfl (Nat.le_of_ble_eq_true rfl) ⟨rfl, rfl⟩ (fun x e1 e2 X E => ?_)
  subst e1; subst e2
  have X : aX x cX12_blame wsX12_blame RX12 3 rm_X12_blame := X
  show aS x shM 3 0 [(0, vR 0), (1, vI a1), (2, vI a2)] [] σ
  refine A_aload_n X 0 rfl rfl dX12_blame_0 ?_
  refine A_getI X fg_X12_blame_36 shM_0 (k := 8) rfl (by decide) dX12_blame_1 ?_
  refine A_if_le X (tgt := 8) (by decide) dX12_blame_4 (fun c1 => ?_) (fun c1 => ?_)
  · replace h := ifT h c1
    refine A_aload_n X 0 rfl rfl dX12_blame_8 ?_
    refine A_iload_n X 1 rfl rfl dX12_blame_9 ?_
    refine A_putI X fp_X12_blame_36 shM_0 (k := 8) rfl (by decide) dX12_blame_10 (fun s2 hy => ?_)
    replace h := ltD h s2 hy
    clear hy
    refine A_aload_n X 0 rfl rfl dX12_blame_13 ?_
    refine A_iload_n X 2 rfl rfl dX12_blame_14 ?_
    refine A_putI X fp_X12_blame_39 shM_0 (k := 9) rfl (by decide) dX12_blame_15 (fun s3 hy => ?_)
    replace h := ltD h s3 hy
    clear hy
    exact A_return X E h dX12_blame_18
  · replace h := ifF h c1
    exact A_return X E h dX12_blame_7
abbrev rm_X12_lone : Room := { frames := 1, cells := 0, slots := 0, locals := 21 }
theorem in_X12_lone_12 : ∀ w ∈ u_ws RX12 TX12 75, w ∈ wsX12_lone := fun w h => List.mem_cons_of_mem _ (List.mem_append_right _ h)
theorem fg_X12_lone_51 : aFl wsX12_lone RX12 51 12 13 := ⟨RX12, TX12, 75, rfl, in_X12_lone_12, by decide, (List.mem_of_getElem? (i := 1) rfl), rfl⟩
theorem fg_X12_lone_48 : aFl wsX12_lone RX12 48 12 12 := ⟨RX12, TX12, 75, rfl, in_X12_lone_12, by decide, (List.mem_of_getElem? (i := 2) rfl), rfl⟩
theorem fg_X12_lone_213 : aFl wsX12_lone RX12 213 12 66 := ⟨RX12, TX12, 75, rfl, in_X12_lone_12, by decide, (List.mem_of_getElem? (i := 3) rfl), rfl⟩
set_option maxRecDepth 100000 in
set_option maxHeartbeats 4000000 in
theorem w_X12_lone_2_b {x : aC} {r : Int × Hp} {k2 : Int × Hp → Option (Int × Hp)} (X : aX x cX12_lone wsX12_lone RX12 2 rm_X12_lone) (E : aE x shM (some .int) 0 r) (hk2 : ∀ (x1 : Int) (σ : Hp), k2 (x1, σ) = some r → aS x shM 2 2 [(0, vR 0), (1, vI x1)] [] σ) (x1 : Int) (σ : Hp) (h : F_M_lone_2_b k2 x1 σ = some r) : aS x shM 2 2 [(0, vR 0), (1, vI x1)] [] σ := by
  unfold F_M_lone_2_b at h
  refine A_iload_n X 1 rfl rfl dX12_lone_2 ?_
  refine A_aload_n X 0 rfl rfl dX12_lone_3 ?_
  refine A_getR X fg_X12_lone_51 shM_0 (k := 13) rfl (by decide) dX12_lone_4 ?_
  refine A_aload_n X 0 rfl rfl dX12_lone_7 ?_
  refine A_getI X fg_X12_lone_48 shM_0 (k := 12) rfl (by decide) dX12_lone_8 ?_
  obtain ⟨g1, h⟩ := gdD h
  refine A_iald X g1 shM_2 dX12_lone_11 ?_
  refine A_icmp_ge X (tgt := 39) (by decide) dX12_lone_12 (fun c2 => ?_) (fun c2 => ?_)
  · replace h := ifT h c2
    refine A_iconst X dX12_lone_39 (z := (-1)) (by decide) ?_
    exact A_ireturn X E h dX12_lone_40
  · replace h := ifF h c2
    refine A_aload_n X 0 rfl rfl dX12_lone_15 ?_
    refine A_getR X fg_X12_lone_213 shM_0 (k := 66) rfl (by decide) dX12_lone_16 ?_
    refine A_iload_n X 1 rfl rfl dX12_lone_19 ?_
    obtain ⟨g3, h⟩ := gdD h
    refine A_lald X g3 shM_45 dX12_lone_20 ?_
    refine A_aload_n X 0 rfl rfl dX12_lone_21 ?_
    refine A_iload_n X 1 rfl rfl dX12_lone_22 ?_
    obtain ⟨v4, s5, e6, h⟩ := clD h
    refine A_callV_I (na := 1) X (m_X12_aloneOf e6) gX12_lone_X12_aloneOf rfl ⟨rfl, rfl⟩ (by decide +kernel) rfl ⟨Nat.le_of_ble_eq_true rfl, Nat.le_of_ble_eq_true rfl⟩ shM_0 (by decide) rfl rfl (Nat.le_of_ble_eq_true rfl) dX12_lone_23 ?_
    refine A_i2l X dX12_lone_26 ?_
    refine A_lcmp X dX12_lone_27 ?_
    refine A_if_ge X (tgt := 33) (by decide) dX12_lone_28 (fun c7 => ?_) (fun c7 => ?_)
    · replace h := ifT h c7
      refine A_iinc X (L' := fun y1_8 => [(1, vI y1_8), (0, vR 0)]) 1 rfl (by decide) (fun _ => rfl) dX12_lone_33 (by decide) (fun y1_8 hy => ?_)
      replace h := ltD h y1_8 hy
      clear hy
      refine A_goto X (tgt := 2) (by decide) dX12_lone_36 ?_
      refine A_sub [1, 0] rfl (L' := [(0, vR 0), (1, vI y1_8)]) rfl ?_
      exact hk2 y1_8 s5 h
    · replace h := ifF h c7
      refine A_iload_n X 1 rfl rfl dX12_lone_31 ?_
      exact A_ireturn X E h dX12_lone_32
set_option maxRecDepth 100000 in
set_option maxHeartbeats 4000000 in
theorem w_X12_lone_2 {x : aC} {r : Int × Hp} (X : aX x cX12_lone wsX12_lone RX12 2 rm_X12_lone) (E : aE x shM (some .int) 0 r) : ∀ (n : Nat) (x1 : Int) (σ : Hp) (h : F_M_lone_2 n (x1, σ) = some r), aS x shM 2 2 [(0, vR 0), (1, vI x1)] [] σ := by
  intro n
  induction n with
  | zero => intro x1 σ h; cases h
  | succ n ih => intro x1 σ h; exact w_X12_lone_2_b (k2 := F_M_lone_2 n) X E ih x1 σ h
set_option maxRecDepth 100000 in
set_option maxHeartbeats 4000000 in
theorem m_X12_lone {l : Launch} {g : aG} {σ : Hp} {r : Int × Hp} (h : F_M_lone σ = some r) : aMet l g shM yX12_lone wsX12_lone rm_X12_lone [vR 0] σ 0 r := by
  unfold F_M_lone at h
  refine aMet_of (bytes := cX12_lone) (maxL := 2) (ret := (some .int)) (by decide +kernel) rfl (Nat.le_of_ble_eq_true rfl) ⟨rfl, rfl⟩ (fun x e1 e2 X E => ?_)
  subst e1; subst e2
  have X : aX x cX12_lone wsX12_lone RX12 2 rm_X12_lone := X
  show aS x shM 2 0 [(0, vR 0)] [] σ
  refine A_iconst X dX12_lone_0 (z := 0) (by decide) ?_
  refine A_istore_n X (L' := [(1, vI 0), (0, vR 0)]) rfl (by decide) rfl dX12_lone_1 ?_
  refine A_sub [1, 0] rfl (L' := [(0, vR 0), (1, vI 0)]) rfl ?_
  exact w_X12_lone_2 X E FU 0 σ h
abbrev rm_X12_breaks : Room := { frames := 6, cells := 0, slots := 0, locals := 143 }
theorem in_X12_breaks_12 : ∀ w ∈ u_ws RX12 TX12 75, w ∈ wsX12_breaks := fun w h => List.mem_cons_of_mem _ (List.mem_append_right _ h)
theorem fg_X12_breaks_54 : aFl wsX12_breaks RX12 54 12 14 := ⟨RX12, TX12, 75, rfl, in_X12_breaks_12, by decide, (List.mem_of_getElem? (i := 1) rfl), rfl⟩
theorem fg_X12_breaks_48 : aFl wsX12_breaks RX12 48 12 12 := ⟨RX12, TX12, 75, rfl, in_X12_breaks_12, by decide, (List.mem_of_getElem? (i := 2) rfl), rfl⟩
theorem fg_X12_breaks_162 : aFl wsX12_breaks RX12 162 12 49 := ⟨RX12, TX12, 75, rfl, in_X12_breaks_12, by decide, (List.mem_of_getElem? (i := 3) rfl), rfl⟩
theorem fg_X12_breaks_213 : aFl wsX12_breaks RX12 213 12 66 := ⟨RX12, TX12, 75, rfl, in_X12_breaks_12, by decide, (List.mem_of_getElem? (i := 4) rfl), rfl⟩
theorem fg_X12_breaks_165 : aFl wsX12_breaks RX12 165 12 50 := ⟨RX12, TX12, 75, rfl, in_X12_breaks_12, by decide, (List.mem_of_getElem? (i := 5) rfl), rfl⟩
set_option maxRecDepth 100000 in
set_option maxHeartbeats 4000000 in
theorem w_X12_breaks_77 {x : aC} {r : Int × Hp} {k21 : Int × Hp → Option (Int × Hp)} (X : aX x cX12_breaks wsX12_breaks RX12 3 rm_X12_breaks) (E : aE x shM (some .int) 0 r) (hk21 : ∀ (x2 : Int) (σ : Hp), k21 (x2, σ) = some r → aS x shM 3 21 [(0, vR 0), (2, vI x2)] [] σ) (x2 : Int) (σ : Hp) (h : F_M_breaks_77 k21 x2 σ = some r) : aS x shM 3 77 [(0, vR 0), (2, vI x2)] [] σ := by
  unfold F_M_breaks_77 at h
  refine A_iinc X (L' := fun y2_1 => [(2, vI y2_1), (0, vR 0)]) 1 rfl (by decide) (fun _ => rfl) dX12_breaks_77 (by decide) (fun y2_1 hy => ?_)
  replace h := ltD h y2_1 hy
  clear hy
  refine A_goto X (tgt := 21) (by decide) dX12_breaks_80 ?_
  refine A_sub [1, 0] rfl (L' := [(0, vR 0), (2, vI y2_1)]) rfl ?_
  exact hk21 y2_1 σ h
set_option maxRecDepth 100000 in
set_option maxHeartbeats 4000000 in
theorem w_X12_breaks_21_b {x : aC} {r : Int × Hp} {k21 : Int × Hp → Option (Int × Hp)} (X : aX x cX12_breaks wsX12_breaks RX12 3 rm_X12_breaks) (E : aE x shM (some .int) 0 r) (hk21 : ∀ (x2 : Int) (σ : Hp), k21 (x2, σ) = some r → aS x shM 3 21 [(0, vR 0), (2, vI x2)] [] σ) (x2 : Int) (σ : Hp) (h : F_M_breaks_21_b k21 x2 σ = some r) : aS x shM 3 21 [(0, vR 0), (2, vI x2)] [] σ := by
  unfold F_M_breaks_21_b at h
  refine A_iload_n X 1 rfl rfl dX12_breaks_21 ?_
  refine A_aload_n X 0 rfl rfl dX12_breaks_22 ?_
  refine A_getR X fg_X12_breaks_54 shM_0 (k := 14) rfl (by decide) dX12_breaks_23 ?_
  refine A_aload_n X 0 rfl rfl dX12_breaks_26 ?_
  refine A_getI X fg_X12_breaks_48 shM_0 (k := 12) rfl (by decide) dX12_breaks_27 ?_
  obtain ⟨g2, h⟩ := gdD h
  refine A_iald X g2 shM_3 dX12_breaks_30 ?_
  refine A_icmp_ge X (tgt := 83) (by decide) dX12_breaks_31 (fun c3 => ?_) (fun c3 => ?_)
  · replace h := ifT h c3
    refine A_iconst X dX12_breaks_83 (z := (-1)) (by decide) ?_
    exact A_ireturn X E h dX12_breaks_84
  · replace h := ifF h c3
    refine A_aload_n X 0 rfl rfl dX12_breaks_34 ?_
    refine A_getR X fg_X12_breaks_162 shM_0 (k := 49) rfl (by decide) dX12_breaks_35 ?_
    refine A_iload_n X 1 rfl rfl dX12_breaks_38 ?_
    obtain ⟨g4, h⟩ := gdD h
    refine A_zald X g4 shM_29 dX12_breaks_39 ?_
    refine A_if_eq X (tgt := 77) (by decide) dX12_breaks_40 (fun c5 => ?_) (fun c5 => ?_)
    · replace h := ifT h c5
      exact w_X12_breaks_77 X E hk21 x2 σ h
    · replace h := ifF h c5
      refine A_aload_n X 0 rfl rfl dX12_breaks_43 ?_
      refine A_getR X fg_X12_breaks_213 shM_0 (k := 66) rfl (by decide) dX12_breaks_44 ?_
      refine A_aload_n X 0 rfl rfl dX12_breaks_47 ?_
      refine A_iload_n X 1 rfl rfl dX12_breaks_48 ?_
      obtain ⟨v6, s7, e8, h⟩ := clD h
      refine A_callV_I (na := 1) X (m_X12_first e8) gX12_breaks_X12_first rfl ⟨rfl, rfl⟩ (by decide +kernel) rfl ⟨Nat.le_of_ble_eq_true rfl, Nat.le_of_ble_eq_true rfl⟩ shM_0 (by decide) rfl rfl (Nat.le_of_ble_eq_true rfl) dX12_breaks_49 ?_
      obtain ⟨g9, h⟩ := gdD h
      refine A_lald X g9 shM_45 dX12_breaks_52 ?_
      refine A_aload_n X 0 rfl rfl dX12_breaks_53 ?_
      refine A_getR X fg_X12_breaks_213 shM_0 (k := 66) rfl (by decide) dX12_breaks_54 ?_
      refine A_aload_n X 0 rfl rfl dX12_breaks_57 ?_
      refine A_iload_n X 1 rfl rfl dX12_breaks_58 ?_
      obtain ⟨v10, s11, e12, h⟩ := clD h
      refine A_callV_I (na := 1) X (m_X12_second e12) gX12_breaks_X12_second rfl ⟨rfl, rfl⟩ (by decide +kernel) rfl ⟨Nat.le_of_ble_eq_true rfl, Nat.le_of_ble_eq_true rfl⟩ shM_0 (by decide) rfl rfl (Nat.le_of_ble_eq_true rfl) dX12_breaks_59 ?_
      obtain ⟨g13, h⟩ := gdD h
      refine A_lald X g13 shM_45 dX12_breaks_62 ?_
      refine A_ladd X dX12_breaks_63 ?_
      refine A_aload_n X 0 rfl rfl dX12_breaks_64 ?_
      refine A_getR X fg_X12_breaks_165 shM_0 (k := 50) rfl (by decide) dX12_breaks_65 ?_
      refine A_iload_n X 1 rfl rfl dX12_breaks_68 ?_
      obtain ⟨g14, h⟩ := gdD h
      refine A_iald X g14 shM_30 dX12_breaks_69 ?_
      refine A_i2l X dX12_breaks_70 ?_
      refine A_lcmp X dX12_breaks_71 ?_
      refine A_if_ge X (tgt := 77) (by decide) dX12_breaks_72 (fun c15 => ?_) (fun c15 => ?_)
      · replace h := ifT h c15
        exact w_X12_breaks_77 X E hk21 x2 s11 h
      · replace h := ifF h c15
        refine A_iload_n X 1 rfl rfl dX12_breaks_75 ?_
        exact A_ireturn X E h dX12_breaks_76
set_option maxRecDepth 100000 in
set_option maxHeartbeats 4000000 in
theorem w_X12_breaks_21 {x : aC} {r : Int × Hp} (X : aX x cX12_breaks wsX12_breaks RX12 3 rm_X12_breaks) (E : aE x shM (some .int) 0 r) : ∀ (n : Nat) (x2 : Int) (σ : Hp) (h : F_M_breaks_21 n (x2, σ) = some r), aS x shM 3 21 [(0, vR 0), (2, vI x2)] [] σ := by
  intro n
  induction n with
  | zero => intro x2 σ h; cases h
  | succ n ih => intro x2 σ h; exact w_X12_breaks_21_b (k21 := F_M_breaks_21 n) X E ih x2 σ h
set_option maxRecDepth 100000 in
set_option maxHeartbeats 4000000 in
theorem m_X12_breaks {l : Launch} {g : aG} {σ : Hp} {r : Int × Hp} (h : F_M_breaks σ = some r) : aMet l g shM yX12_breaks wsX12_breaks rm_X12_breaks [vR 0] σ 0 r := by
  unfold F_M_breaks at h
  refine aMet_of (bytes := cX12_breaks) (maxL := 3) (ret := (some .int)) (by decide +kernel) rfl (Nat.le_of_ble_eq_true rfl) ⟨rfl, rfl⟩ (fun x e1 e2 X E => ?_)
  subst e1; subst e2
  have X : aX x cX12_breaks wsX12_breaks RX12 3 rm_X12_breaks := X
  show aS x shM 3 0 [(0, vR 0)] [] σ
  refine A_aload_n X 0 rfl rfl dX12_breaks_0 ?_
  obtain ⟨v16, s17, e18, h⟩ := clD h
  refine A_callV_V (na := 0) X (m_X12_laysAll e18) gX12_breaks_X12_laysAll rfl ⟨rfl, rfl⟩ (by decide +kernel) rfl ⟨Nat.le_of_ble_eq_true rfl, Nat.le_of_ble_eq_true rfl⟩ shM_0 (by decide) rfl rfl (Nat.le_of_ble_eq_true rfl) dX12_breaks_1 ?_
  refine A_aload_n X 0 rfl rfl dX12_breaks_4 ?_
  obtain ⟨v19, s20, e21, h⟩ := clD h
  refine A_callV_I (na := 0) X (m_X12_lone e21) gX12_breaks_X12_lone rfl ⟨rfl, rfl⟩ (by decide +kernel) rfl ⟨Nat.le_of_ble_eq_true rfl, Nat.le_of_ble_eq_true rfl⟩ shM_0 (by decide) rfl rfl (Nat.le_of_ble_eq_true rfl) dX12_breaks_5 ?_
  refine A_istore_n X (L' := [(1, vI v19), (0, vR 0)]) rfl (by decide) rfl dX12_breaks_8 ?_
  refine A_iload_n X 0 rfl rfl dX12_breaks_9 ?_
  refine A_iconst X dX12_breaks_10 (z := (-1)) (by decide) ?_
  refine A_icmp_eq X (tgt := 19) (by decide) dX12_breaks_11 (fun c22 => ?_) (fun c22 => ?_)
  · replace h := ifT h c22
    refine A_iconst X dX12_breaks_19 (z := 0) (by decide) ?_
    refine A_istore_n X (L' := [(2, vI 0), (1, vI v19), (0, vR 0)]) rfl (by decide) rfl dX12_breaks_20 ?_
    refine A_sub [2, 0] rfl (L' := [(0, vR 0), (2, vI 0)]) rfl ?_
    exact w_X12_breaks_21 X E FU 0 s20 h
  · replace h := ifF h c22
    refine A_bipush X dX12_breaks_14 (z := 100) (by decide) ?_
    refine A_iload_n X 0 rfl rfl dX12_breaks_16 ?_
    refine A_iadd X dX12_breaks_17 ?_
    exact A_ireturn X E h dX12_breaks_18
abbrev rm_X12_isWho : Room := { frames := 1, cells := 0, slots := 0, locals := 22 }
theorem in_X12_isWho_12 : ∀ w ∈ u_ws RX12 TX12 75, w ∈ wsX12_isWho := fun w h => List.mem_cons_of_mem _ (List.mem_append_right _ h)
theorem fg_X12_isWho_51 : aFl wsX12_isWho RX12 51 12 13 := ⟨RX12, TX12, 75, rfl, in_X12_isWho_12, by decide, (List.mem_of_getElem? (i := 1) rfl), rfl⟩
theorem fg_X12_isWho_48 : aFl wsX12_isWho RX12 48 12 12 := ⟨RX12, TX12, 75, rfl, in_X12_isWho_12, by decide, (List.mem_of_getElem? (i := 2) rfl), rfl⟩
set_option maxRecDepth 100000 in
set_option maxHeartbeats 4000000 in
theorem m_X12_isWho {l : Launch} {g : aG} {a1 : Int} {σ : Hp} {r : Int × Hp} (h : F_M_isWho a1 σ = some r) : aMet l g shM yX12_isWho wsX12_isWho rm_X12_isWho [vR 0, vI a1] σ 0 r := by
  unfold F_M_isWho at h
  refine aMet_of (bytes := cX12_isWho) (maxL := 2) (ret := (some .boolean)) (by decide +kernel) rfl (Nat.le_of_ble_eq_true rfl) ⟨rfl, rfl⟩ (fun x e1 e2 X E => ?_)
  subst e1; subst e2
  have X : aX x cX12_isWho wsX12_isWho RX12 2 rm_X12_isWho := X
  show aS x shM 2 0 [(0, vR 0), (1, vI a1)] [] σ
  refine A_iload_n X 1 rfl rfl dX12_isWho_0 ?_
  refine A_iconst X dX12_isWho_1 (z := 0) (by decide) ?_
  refine A_aload_n X 0 rfl rfl dX12_isWho_2 ?_
  refine A_getR X fg_X12_isWho_51 shM_0 (k := 13) rfl (by decide) dX12_isWho_3 ?_
  refine A_aload_n X 0 rfl rfl dX12_isWho_6 ?_
  refine A_getI X fg_X12_isWho_48 shM_0 (k := 12) rfl (by decide) dX12_isWho_7 ?_
  obtain ⟨g1, h⟩ := gdD h
  refine A_iald X g1 shM_2 dX12_isWho_10 ?_
  refine A_iconst X dX12_isWho_11 (z := 1) (by decide) ?_
  refine A_isub X dX12_isWho_12 ?_
  obtain ⟨v2, s3, e4, h⟩ := clD h
  refine A_callS_I (na := 3) X (m_X12_is e4) gX12_isWho_X12_is rfl ⟨rfl, rfl⟩ (by decide +kernel) rfl ⟨Nat.le_of_ble_eq_true rfl, Nat.le_of_ble_eq_true rfl⟩ rfl (Nat.le_of_ble_eq_true rfl) dX12_isWho_13 ?_
  obtain ⟨g5, h⟩ := gdD h
  exact A_zreturn X g5 E h dX12_isWho_16
abbrev rm_X12_otherOn : Room := { frames := 1, cells := 0, slots := 0, locals := 21 }
set_option maxRecDepth 100000 in
set_option maxHeartbeats 4000000 in
theorem w_X12_otherOn_22 {x : aC} {r : Int × Hp} {a1 : Int} {a2 : Int} (X : aX x cX12_otherOn wsX12_otherOn RX12 3 rm_X12_otherOn) (E : aE x shM (some .int) 0 r) (t1 : Int) (σ : Hp) (h : F_M_otherOn_22 a1 a2 t1 σ = some r) : aS x shM 3 22 [] [vI t1] σ := by
  unfold F_M_otherOn_22 at h
  exact A_ireturn X E h dX12_otherOn_22
set_option maxRecDepth 100000 in
set_option maxHeartbeats 4000000 in
theorem m_X12_otherOn {l : Launch} {g : aG} {a1 : Int} {a2 : Int} {σ : Hp} {r : Int × Hp} (h : F_M_otherOn a1 a2 σ = some r) : aMet l g shM yX12_otherOn wsX12_otherOn rm_X12_otherOn [vR 0, vI a1, vI a2] σ 0 r := by
  unfold F_M_otherOn at h
  refine aMet_of (bytes := cX12_otherOn) (maxL := 3) (ret := (some .int)) (by decide +kernel) rfl (Nat.le_of_ble_eq_true rfl) ⟨rfl, rfl⟩ (fun x e1 e2 X E => ?_)
  subst e1; subst e2
  have X : aX x cX12_otherOn wsX12_otherOn RX12 3 rm_X12_otherOn := X
  show aS x shM 3 0 [(0, vR 0), (1, vI a1), (2, vI a2)] [] σ
  refine A_aload_n X 0 rfl rfl dX12_otherOn_0 ?_
  refine A_iload_n X 1 rfl rfl dX12_otherOn_1 ?_
  obtain ⟨v1, s2, e3, h⟩ := clD h
  refine A_callV_I (na := 1) X (m_X12_first e3) gX12_otherOn_X12_first rfl ⟨rfl, rfl⟩ (by decide +kernel) rfl ⟨Nat.le_of_ble_eq_true rfl, Nat.le_of_ble_eq_true rfl⟩ shM_0 (by decide) rfl rfl (Nat.le_of_ble_eq_true rfl) dX12_otherOn_2 ?_
  refine A_iload_n X 2 rfl rfl dX12_otherOn_5 ?_
  refine A_icmp_ne X (tgt := 17) (by decide) dX12_otherOn_6 (fun c4 => ?_) (fun c4 => ?_)
  · replace h := ifF h c4
    refine A_aload_n X 0 rfl rfl dX12_otherOn_17 ?_
    refine A_iload_n X 1 rfl rfl dX12_otherOn_18 ?_
    obtain ⟨v5, s6, e7, h⟩ := clD h
    refine A_callV_I (na := 1) X (m_X12_first e7) gX12_otherOn_X12_first rfl ⟨rfl, rfl⟩ (by decide +kernel) rfl ⟨Nat.le_of_ble_eq_true rfl, Nat.le_of_ble_eq_true rfl⟩ shM_0 (by decide) rfl rfl (Nat.le_of_ble_eq_true rfl) dX12_otherOn_19 ?_
    refine A_sub [] rfl (L' := []) rfl ?_
    exact w_X12_otherOn_22 (a1 := a1) (a2 := a2) X E v5 s6 h
  · replace h := ifT h c4
    refine A_aload_n X 0 rfl rfl dX12_otherOn_9 ?_
    refine A_iload_n X 1 rfl rfl dX12_otherOn_10 ?_
    obtain ⟨v8, s9, e10, h⟩ := clD h
    refine A_callV_I (na := 1) X (m_X12_second e10) gX12_otherOn_X12_second rfl ⟨rfl, rfl⟩ (by decide +kernel) rfl ⟨Nat.le_of_ble_eq_true rfl, Nat.le_of_ble_eq_true rfl⟩ shM_0 (by decide) rfl rfl (Nat.le_of_ble_eq_true rfl) dX12_otherOn_11 ?_
    refine A_goto X (tgt := 22) (by decide) dX12_otherOn_14 ?_
    refine A_sub [] rfl (L' := []) rfl ?_
    exact w_X12_otherOn_22 (a1 := a1) (a2 := a2) X E v8 s9 h
abbrev rm_X12_elseOf : Room := { frames := 2, cells := 0, slots := 0, locals := 43 }
theorem in_X12_elseOf_12 : ∀ w ∈ u_ws RX12 TX12 75, w ∈ wsX12_elseOf := fun w h => List.mem_cons_of_mem _ (List.mem_append_right _ h)
theorem fg_X12_elseOf_165 : aFl wsX12_elseOf RX12 165 12 50 := ⟨RX12, TX12, 75, rfl, in_X12_elseOf_12, by decide, (List.mem_of_getElem? (i := 5) rfl), rfl⟩
theorem fg_X12_elseOf_213 : aFl wsX12_elseOf RX12 213 12 66 := ⟨RX12, TX12, 75, rfl, in_X12_elseOf_12, by decide, (List.mem_of_getElem? (i := 6) rfl), rfl⟩
theorem fg_X12_elseOf_54 : aFl wsX12_elseOf RX12 54 12 14 := ⟨RX12, TX12, 75, rfl, in_X12_elseOf_12, by decide, (List.mem_of_getElem? (i := 1) rfl), rfl⟩
theorem fg_X12_elseOf_48 : aFl wsX12_elseOf RX12 48 12 12 := ⟨RX12, TX12, 75, rfl, in_X12_elseOf_12, by decide, (List.mem_of_getElem? (i := 2) rfl), rfl⟩
theorem fg_X12_elseOf_162 : aFl wsX12_elseOf RX12 162 12 49 := ⟨RX12, TX12, 75, rfl, in_X12_elseOf_12, by decide, (List.mem_of_getElem? (i := 3) rfl), rfl⟩
theorem fg_X12_elseOf_210 : aFl wsX12_elseOf RX12 210 12 65 := ⟨RX12, TX12, 75, rfl, in_X12_elseOf_12, by decide, (List.mem_of_getElem? (i := 4) rfl), rfl⟩
set_option maxRecDepth 100000 in
set_option maxHeartbeats 4000000 in
theorem w_X12_elseOf_105 {x : aC} {r : Int × Hp} {k10 : Int × Int × Hp → Option (Int × Hp)} {a1 : Int} (X : aX x cX12_elseOf wsX12_elseOf RX12 7 rm_X12_elseOf) (E : aE x shM (some .long) 1 r) (hk10 : ∀ (x2 : Int) (x4 : Int) (σ : Hp), k10 (x2, x4, σ) = some r → aS x shM 7 10 [(0, vR 0), (1, vI a1), (2, vL x2), (4, vI x4)] [] σ) (x2 : Int) (x4 : Int) (σ : Hp) (h : F_M_elseOf_105 k10 a1 x2 x4 σ = some r) : aS x shM 7 105 [(0, vR 0), (1, vI a1), (2, vL x2), (4, vI x4)] [] σ := by
  unfold F_M_elseOf_105 at h
  refine A_iinc X (L' := fun y4_1 => [(4, vI y4_1), (0, vR 0), (1, vI a1), (2, vL x2)]) 3 rfl (by decide) (fun _ => rfl) dX12_elseOf_105 (by decide) (fun y4_1 hy => ?_)
  replace h := ltD h y4_1 hy
  clear hy
  refine A_goto X (tgt := 10) (by decide) dX12_elseOf_108 ?_
  refine A_sub [1, 2, 3, 0] rfl (L' := [(0, vR 0), (1, vI a1), (2, vL x2), (4, vI y4_1)]) rfl ?_
  exact hk10 x2 y4_1 σ h
set_option maxRecDepth 100000 in
set_option maxHeartbeats 4000000 in
theorem w_X12_elseOf_104 {x : aC} {r : Int × Hp} {k10 : Int × Int × Hp → Option (Int × Hp)} {a1 : Int} (X : aX x cX12_elseOf wsX12_elseOf RX12 7 rm_X12_elseOf) (E : aE x shM (some .long) 1 r) (hk10 : ∀ (x2 : Int) (x4 : Int) (σ : Hp), k10 (x2, x4, σ) = some r → aS x shM 7 10 [(0, vR 0), (1, vI a1), (2, vL x2), (4, vI x4)] [] σ) (x4 : Int) (t1 : Int) (σ : Hp) (h : F_M_elseOf_104 k10 a1 x4 t1 σ = some r) : aS x shM 7 104 [(0, vR 0), (1, vI a1), (4, vI x4)] [vL t1] σ := by
  unfold F_M_elseOf_104 at h
  refine A_lstore_n X (L' := [(2, vL t1), (0, vR 0), (1, vI a1), (4, vI x4)]) rfl (by decide) rfl dX12_elseOf_104 ?_
  refine A_sub [1, 2, 0, 3] rfl (L' := [(0, vR 0), (1, vI a1), (2, vL t1), (4, vI x4)]) rfl ?_
  exact w_X12_elseOf_105 (a1 := a1) X E hk10 t1 x4 σ h
set_option maxRecDepth 100000 in
set_option maxHeartbeats 4000000 in
theorem w_X12_elseOf_68 {x : aC} {r : Int × Hp} {k10 : Int × Int × Hp → Option (Int × Hp)} {a1 : Int} (X : aX x cX12_elseOf wsX12_elseOf RX12 7 rm_X12_elseOf) (E : aE x shM (some .long) 1 r) (hk10 : ∀ (x2 : Int) (x4 : Int) (σ : Hp), k10 (x2, x4, σ) = some r → aS x shM 7 10 [(0, vR 0), (1, vI a1), (2, vL x2), (4, vI x4)] [] σ) (x2 : Int) (x4 : Int) (σ : Hp) (h : F_M_elseOf_68 k10 a1 x2 x4 σ = some r) : aS x shM 7 68 [(0, vR 0), (1, vI a1), (2, vL x2), (4, vI x4)] [] σ := by
  unfold F_M_elseOf_68 at h
  refine A_aload_n X 0 rfl rfl dX12_elseOf_68 ?_
  refine A_getR X fg_X12_elseOf_165 shM_0 (k := 50) rfl (by decide) dX12_elseOf_69 ?_
  refine A_iload X 3 rfl dX12_elseOf_72 ?_
  obtain ⟨g2, h⟩ := gdD h
  refine A_iald X g2 shM_30 dX12_elseOf_74 ?_
  refine A_i2l X dX12_elseOf_75 ?_
  refine A_aload_n X 0 rfl rfl dX12_elseOf_76 ?_
  refine A_getR X fg_X12_elseOf_213 shM_0 (k := 66) rfl (by decide) dX12_elseOf_77 ?_
  refine A_aload_n X 0 rfl rfl dX12_elseOf_80 ?_
  refine A_iload X 3 rfl dX12_elseOf_81 ?_
  refine A_iload_n X 1 rfl rfl dX12_elseOf_83 ?_
  obtain ⟨v3, s4, e5, h⟩ := clD h
  refine A_callV_I (na := 2) X (m_X12_otherOn e5) gX12_elseOf_X12_otherOn rfl ⟨rfl, rfl⟩ (by decide +kernel) rfl ⟨Nat.le_of_ble_eq_true rfl, Nat.le_of_ble_eq_true rfl⟩ shM_0 (by decide) rfl rfl (Nat.le_of_ble_eq_true rfl) dX12_elseOf_84 ?_
  obtain ⟨g6, h⟩ := gdD h
  refine A_lald X g6 shM_45 dX12_elseOf_87 ?_
  refine A_lsub X dX12_elseOf_88 ?_
  refine A_lstoreN X (L' := fun y5_7 => [(5, vL y5_7), (0, vR 0), (1, vI a1), (2, vL x2), (4, vI x4)]) (by decide) (fun _ => rfl) dX12_elseOf_89 (fun y5_7 hy => ?_)
  replace h := ltD h y5_7 hy
  clear hy
  refine A_lload X 0 rfl dX12_elseOf_91 ?_
  refine A_lload_n X 3 rfl rfl dX12_elseOf_93 ?_
  refine A_lcmp X dX12_elseOf_94 ?_
  refine A_if_le X (tgt := 103) (by decide) dX12_elseOf_95 (fun c8 => ?_) (fun c8 => ?_)
  · replace h := ifT h c8
    refine A_lload_n X 3 rfl rfl dX12_elseOf_103 ?_
    refine A_sub [1, 2, 4] rfl (L' := [(0, vR 0), (1, vI a1), (4, vI x4)]) rfl ?_
    exact w_X12_elseOf_104 (a1 := a1) X E hk10 x4 x2 s4 h
  · replace h := ifF h c8
    refine A_lload X 0 rfl dX12_elseOf_98 ?_
    refine A_goto X (tgt := 104) (by decide) dX12_elseOf_100 ?_
    refine A_sub [1, 2, 4] rfl (L' := [(0, vR 0), (1, vI a1), (4, vI x4)]) rfl ?_
    exact w_X12_elseOf_104 (a1 := a1) X E hk10 x4 y5_7 s4 h
set_option maxRecDepth 100000 in
set_option maxHeartbeats 4000000 in
theorem w_X12_elseOf_10_b {x : aC} {r : Int × Hp} {k10 : Int × Int × Hp → Option (Int × Hp)} {a1 : Int} (X : aX x cX12_elseOf wsX12_elseOf RX12 7 rm_X12_elseOf) (E : aE x shM (some .long) 1 r) (hk10 : ∀ (x2 : Int) (x4 : Int) (σ : Hp), k10 (x2, x4, σ) = some r → aS x shM 7 10 [(0, vR 0), (1, vI a1), (2, vL x2), (4, vI x4)] [] σ) (x2 : Int) (x4 : Int) (σ : Hp) (h : F_M_elseOf_10_b k10 a1 x2 x4 σ = some r) : aS x shM 7 10 [(0, vR 0), (1, vI a1), (2, vL x2), (4, vI x4)] [] σ := by
  unfold F_M_elseOf_10_b at h
  refine A_iload X 3 rfl dX12_elseOf_10 ?_
  refine A_aload_n X 0 rfl rfl dX12_elseOf_12 ?_
  refine A_getR X fg_X12_elseOf_54 shM_0 (k := 14) rfl (by decide) dX12_elseOf_13 ?_
  refine A_aload_n X 0 rfl rfl dX12_elseOf_16 ?_
  refine A_getI X fg_X12_elseOf_48 shM_0 (k := 12) rfl (by decide) dX12_elseOf_17 ?_
  obtain ⟨g9, h⟩ := gdD h
  refine A_iald X g9 shM_3 dX12_elseOf_20 ?_
  refine A_icmp_ge X (tgt := 111) (by decide) dX12_elseOf_21 (fun c10 => ?_) (fun c10 => ?_)
  · replace h := ifT h c10
    refine A_lload_n X 2 rfl rfl dX12_elseOf_111 ?_
    exact A_lreturn X E h dX12_elseOf_112
  · replace h := ifF h c10
    refine A_aload_n X 0 rfl rfl dX12_elseOf_24 ?_
    refine A_getR X fg_X12_elseOf_162 shM_0 (k := 49) rfl (by decide) dX12_elseOf_25 ?_
    refine A_iload X 3 rfl dX12_elseOf_28 ?_
    obtain ⟨g11, h⟩ := gdD h
    refine A_zald X g11 shM_29 dX12_elseOf_30 ?_
    refine A_if_eq X (tgt := 105) (by decide) dX12_elseOf_31 (fun c12 => ?_) (fun c12 => ?_)
    · replace h := ifT h c12
      exact w_X12_elseOf_105 (a1 := a1) X E hk10 x2 x4 σ h
    · replace h := ifF h c12
      refine A_iload X 3 rfl dX12_elseOf_34 ?_
      refine A_aload_n X 0 rfl rfl dX12_elseOf_36 ?_
      refine A_getR X fg_X12_elseOf_210 shM_0 (k := 65) rfl (by decide) dX12_elseOf_37 ?_
      refine A_iload_n X 1 rfl rfl dX12_elseOf_40 ?_
      obtain ⟨g13, h⟩ := gdD h
      refine A_iald X g13 shM_44 dX12_elseOf_41 ?_
      refine A_icmp_eq X (tgt := 105) (by decide) dX12_elseOf_42 (fun c14 => ?_) (fun c14 => ?_)
      · replace h := ifT h c14
        exact w_X12_elseOf_105 (a1 := a1) X E hk10 x2 x4 σ h
      · replace h := ifF h c14
        refine A_aload_n X 0 rfl rfl dX12_elseOf_45 ?_
        refine A_iload X 3 rfl dX12_elseOf_46 ?_
        obtain ⟨v15, s16, e17, h⟩ := clD h
        refine A_callV_I (na := 1) X (m_X12_first e17) gX12_elseOf_X12_first rfl ⟨rfl, rfl⟩ (by decide +kernel) rfl ⟨Nat.le_of_ble_eq_true rfl, Nat.le_of_ble_eq_true rfl⟩ shM_0 (by decide) rfl rfl (Nat.le_of_ble_eq_true rfl) dX12_elseOf_48 ?_
        refine A_iload_n X 1 rfl rfl dX12_elseOf_51 ?_
        refine A_icmp_eq X (tgt := 68) (by decide) dX12_elseOf_52 (fun c18 => ?_) (fun c18 => ?_)
        · replace h := ifT h c18
          exact w_X12_elseOf_68 (a1 := a1) X E hk10 x2 x4 s16 h
        · replace h := ifF h c18
          refine A_aload_n X 0 rfl rfl dX12_elseOf_55 ?_
          refine A_iload X 3 rfl dX12_elseOf_56 ?_
          obtain ⟨v19, s20, e21, h⟩ := clD h
          refine A_callV_I (na := 1) X (m_X12_second e21) gX12_elseOf_X12_second rfl ⟨rfl, rfl⟩ (by decide +kernel) rfl ⟨Nat.le_of_ble_eq_true rfl, Nat.le_of_ble_eq_true rfl⟩ shM_0 (by decide) rfl rfl (Nat.le_of_ble_eq_true rfl) dX12_elseOf_58 ?_
          refine A_iload_n X 1 rfl rfl dX12_elseOf_61 ?_
          refine A_icmp_eq X (tgt := 68) (by decide) dX12_elseOf_62 (fun c22 => ?_) (fun c22 => ?_)
          · replace h := ifT h c22
            exact w_X12_elseOf_68 (a1 := a1) X E hk10 x2 x4 s20 h
          · replace h := ifF h c22
            refine A_goto X (tgt := 105) (by decide) dX12_elseOf_65 ?_
            exact w_X12_elseOf_105 (a1 := a1) X E hk10 x2 x4 s20 h
set_option maxRecDepth 100000 in
set_option maxHeartbeats 4000000 in
theorem w_X12_elseOf_10 {x : aC} {r : Int × Hp} {a1 : Int} (X : aX x cX12_elseOf wsX12_elseOf RX12 7 rm_X12_elseOf) (E : aE x shM (some .long) 1 r) : ∀ (n : Nat) (x2 : Int) (x4 : Int) (σ : Hp) (h : F_M_elseOf_10 a1 n (x2, x4, σ) = some r), aS x shM 7 10 [(0, vR 0), (1, vI a1), (2, vL x2), (4, vI x4)] [] σ := by
  intro n
  induction n with
  | zero => intro x2 x4 σ h; cases h
  | succ n ih => intro x2 x4 σ h; exact w_X12_elseOf_10_b (a1 := a1) (k10 := F_M_elseOf_10 a1 n) X E ih x2 x4 σ h
set_option maxRecDepth 100000 in
set_option maxHeartbeats 4000000 in
theorem m_X12_elseOf {l : Launch} {g : aG} {a1 : Int} {σ : Hp} {r : Int × Hp} (h : F_M_elseOf a1 σ = some r) : aMet l g shM yX12_elseOf wsX12_elseOf rm_X12_elseOf [vR 0, vI a1] σ 1 r := by
  unfold F_M_elseOf at h
  refine aMet_of (bytes := cX12_elseOf) (maxL := 7) (ret := (some .long)) (by decide +kernel) rfl (Nat.le_of_ble_eq_true rfl) ⟨rfl, rfl⟩ (fun x e1 e2 X E => ?_)
  subst e1; subst e2
  have X : aX x cX12_elseOf wsX12_elseOf RX12 7 rm_X12_elseOf := X
  show aS x shM 7 0 [(0, vR 0), (1, vI a1)] [] σ
  refine A_aload_n X 0 rfl rfl dX12_elseOf_0 ?_
  refine A_iload_n X 1 rfl rfl dX12_elseOf_1 ?_
  obtain ⟨v23, s24, e25, h⟩ := clD h
  refine A_callV_I (na := 1) X (m_X12_aloneOf e25) gX12_elseOf_X12_aloneOf rfl ⟨rfl, rfl⟩ (by decide +kernel) rfl ⟨Nat.le_of_ble_eq_true rfl, Nat.le_of_ble_eq_true rfl⟩ shM_0 (by decide) rfl rfl (Nat.le_of_ble_eq_true rfl) dX12_elseOf_2 ?_
  refine A_i2l X dX12_elseOf_5 ?_
  refine A_lstore_n X (L' := [(2, vL v23), (0, vR 0), (1, vI a1)]) rfl (by decide) rfl dX12_elseOf_6 ?_
  refine A_iconst X dX12_elseOf_7 (z := 0) (by decide) ?_
  refine A_istore X (L' := [(4, vI 0), (2, vL v23), (0, vR 0), (1, vI a1)]) (by decide) rfl dX12_elseOf_8 ?_
  refine A_sub [2, 3, 1, 0] rfl (L' := [(0, vR 0), (1, vI a1), (2, vL v23), (4, vI 0)]) rfl ?_
  exact w_X12_elseOf_10 (a1 := a1) X E FU v23 0 s24 h
abbrev rm_X12_turnsTo : Room := { frames := 3, cells := 0, slots := 0, locals := 69 }
theorem in_X12_turnsTo_12 : ∀ w ∈ u_ws RX12 TX12 75, w ∈ wsX12_turnsTo := fun w h => List.mem_cons_of_mem _ (List.mem_append_right _ h)
theorem fg_X12_turnsTo_165 : aFl wsX12_turnsTo RX12 165 12 50 := ⟨RX12, TX12, 75, rfl, in_X12_turnsTo_12, by decide, (List.mem_of_getElem? (i := 5) rfl), rfl⟩
theorem fg_X12_turnsTo_213 : aFl wsX12_turnsTo RX12 213 12 66 := ⟨RX12, TX12, 75, rfl, in_X12_turnsTo_12, by decide, (List.mem_of_getElem? (i := 6) rfl), rfl⟩
theorem fg_X12_turnsTo_54 : aFl wsX12_turnsTo RX12 54 12 14 := ⟨RX12, TX12, 75, rfl, in_X12_turnsTo_12, by decide, (List.mem_of_getElem? (i := 1) rfl), rfl⟩
theorem fg_X12_turnsTo_48 : aFl wsX12_turnsTo RX12 48 12 12 := ⟨RX12, TX12, 75, rfl, in_X12_turnsTo_12, by decide, (List.mem_of_getElem? (i := 2) rfl), rfl⟩
theorem fg_X12_turnsTo_162 : aFl wsX12_turnsTo RX12 162 12 49 := ⟨RX12, TX12, 75, rfl, in_X12_turnsTo_12, by decide, (List.mem_of_getElem? (i := 3) rfl), rfl⟩
theorem fg_X12_turnsTo_210 : aFl wsX12_turnsTo RX12 210 12 65 := ⟨RX12, TX12, 75, rfl, in_X12_turnsTo_12, by decide, (List.mem_of_getElem? (i := 4) rfl), rfl⟩
set_option maxRecDepth 100000 in
set_option maxHeartbeats 4000000 in
theorem w_X12_turnsTo_128 {x : aC} {r : Int × Hp} {k12 : Int × Int × Int × Hp → Option (Int × Hp)} {a1 : Int} (X : aX x cX12_turnsTo wsX12_turnsTo RX12 7 rm_X12_turnsTo) (E : aE x shM (some .int) 0 r) (hk12 : ∀ (x2 : Int) (x4 : Int) (x5 : Int) (σ : Hp), k12 (x2, x4, x5, σ) = some r → aS x shM 7 12 [(0, vR 0), (1, vI a1), (2, vL x2), (4, vI x4), (5, vI x5)] [] σ) (x2 : Int) (x4 : Int) (x5 : Int) (σ : Hp) (h : F_M_turnsTo_128 k12 a1 x2 x4 x5 σ = some r) : aS x shM 7 128 [(0, vR 0), (1, vI a1), (2, vL x2), (4, vI x4), (5, vI x5)] [] σ := by
  unfold F_M_turnsTo_128 at h
  refine A_iinc X (L' := fun y5_1 => [(5, vI y5_1), (0, vR 0), (1, vI a1), (2, vL x2), (4, vI x4)]) 4 rfl (by decide) (fun _ => rfl) dX12_turnsTo_128 (by decide) (fun y5_1 hy => ?_)
  replace h := ltD h y5_1 hy
  clear hy
  refine A_goto X (tgt := 12) (by decide) dX12_turnsTo_131 ?_
  refine A_sub [1, 2, 3, 4, 0] rfl (L' := [(0, vR 0), (1, vI a1), (2, vL x2), (4, vI x4), (5, vI y5_1)]) rfl ?_
  exact hk12 x2 x4 y5_1 σ h
set_option maxRecDepth 100000 in
set_option maxHeartbeats 4000000 in
theorem w_X12_turnsTo_124 {x : aC} {r : Int × Hp} {k12 : Int × Int × Int × Hp → Option (Int × Hp)} {a1 : Int} (X : aX x cX12_turnsTo wsX12_turnsTo RX12 7 rm_X12_turnsTo) (E : aE x shM (some .int) 0 r) (hk12 : ∀ (x2 : Int) (x4 : Int) (x5 : Int) (σ : Hp), k12 (x2, x4, x5, σ) = some r → aS x shM 7 12 [(0, vR 0), (1, vI a1), (2, vL x2), (4, vI x4), (5, vI x5)] [] σ) (x2 : Int) (x5 : Int) (x6 : Int) (σ : Hp) (h : F_M_turnsTo_124 k12 a1 x2 x5 x6 σ = some r) : aS x shM 7 124 [(0, vR 0), (1, vI a1), (2, vL x2), (5, vI x5), (6, vI x6)] [] σ := by
  unfold F_M_turnsTo_124 at h
  refine A_iload X 4 rfl dX12_turnsTo_124 ?_
  refine A_istore X (L' := [(4, vI x6), (0, vR 0), (1, vI a1), (2, vL x2), (5, vI x5), (6, vI x6)]) (by decide) rfl dX12_turnsTo_126 ?_
  refine A_sub [1, 2, 3, 0, 4] rfl (L' := [(0, vR 0), (1, vI a1), (2, vL x2), (4, vI x6), (5, vI x5)]) rfl ?_
  exact w_X12_turnsTo_128 (a1 := a1) X E hk12 x2 x6 x5 σ h
set_option maxRecDepth 100000 in
set_option maxHeartbeats 4000000 in
theorem w_X12_turnsTo_81 {x : aC} {r : Int × Hp} {k12 : Int × Int × Int × Hp → Option (Int × Hp)} {a1 : Int} (X : aX x cX12_turnsTo wsX12_turnsTo RX12 7 rm_X12_turnsTo) (E : aE x shM (some .int) 0 r) (hk12 : ∀ (x2 : Int) (x4 : Int) (x5 : Int) (σ : Hp), k12 (x2, x4, x5, σ) = some r → aS x shM 7 12 [(0, vR 0), (1, vI a1), (2, vL x2), (4, vI x4), (5, vI x5)] [] σ) (x2 : Int) (x4 : Int) (x5 : Int) (σ : Hp) (h : F_M_turnsTo_81 k12 a1 x2 x4 x5 σ = some r) : aS x shM 7 81 [(0, vR 0), (1, vI a1), (2, vL x2), (4, vI x4), (5, vI x5)] [] σ := by
  unfold F_M_turnsTo_81 at h
  refine A_aload_n X 0 rfl rfl dX12_turnsTo_81 ?_
  refine A_iload X 4 rfl dX12_turnsTo_82 ?_
  refine A_iload_n X 1 rfl rfl dX12_turnsTo_84 ?_
  obtain ⟨v2, s3, e4, h⟩ := clD h
  refine A_callV_I (na := 2) X (m_X12_otherOn e4) gX12_turnsTo_X12_otherOn rfl ⟨rfl, rfl⟩ (by decide +kernel) rfl ⟨Nat.le_of_ble_eq_true rfl, Nat.le_of_ble_eq_true rfl⟩ shM_0 (by decide) rfl rfl (Nat.le_of_ble_eq_true rfl) dX12_turnsTo_85 ?_
  refine A_istore X (L' := [(6, vI v2), (0, vR 0), (1, vI a1), (2, vL x2), (4, vI x4), (5, vI x5)]) (by decide) rfl dX12_turnsTo_88 ?_
  refine A_aload_n X 1 rfl rfl dX12_turnsTo_90 ?_
  refine A_getR X fg_X12_turnsTo_165 shM_0 (k := 50) rfl (by decide) dX12_turnsTo_91 ?_
  refine A_iload X 5 rfl dX12_turnsTo_94 ?_
  obtain ⟨g5, h⟩ := gdD h
  refine A_iald X g5 shM_30 dX12_turnsTo_96 ?_
  refine A_i2l X dX12_turnsTo_97 ?_
  refine A_aload_n X 1 rfl rfl dX12_turnsTo_98 ?_
  refine A_getR X fg_X12_turnsTo_213 shM_0 (k := 66) rfl (by decide) dX12_turnsTo_99 ?_
  refine A_iload X 0 rfl dX12_turnsTo_102 ?_
  obtain ⟨g6, h⟩ := gdD h
  refine A_lald X g6 shM_45 dX12_turnsTo_104 ?_
  refine A_lsub X dX12_turnsTo_105 ?_
  refine A_lload_n X 3 rfl rfl dX12_turnsTo_106 ?_
  refine A_lcmp X dX12_turnsTo_107 ?_
  refine A_if_ne X (tgt := 128) (by decide) dX12_turnsTo_108 (fun c7 => ?_) (fun c7 => ?_)
  · replace h := ifF h c7
    refine A_sub [1, 2, 3, 4, 5] rfl (L' := [(0, vR 0), (1, vI a1), (2, vL x2), (4, vI x4), (5, vI x5)]) rfl ?_
    exact w_X12_turnsTo_128 (a1 := a1) X E hk12 x2 x4 x5 s3 h
  · replace h := ifT h c7
    refine A_iload X 4 rfl dX12_turnsTo_111 ?_
    refine A_iconst X dX12_turnsTo_113 (z := (-1)) (by decide) ?_
    refine A_icmp_eq X (tgt := 124) (by decide) dX12_turnsTo_114 (fun c8 => ?_) (fun c8 => ?_)
    · replace h := ifT h c8
      refine A_sub [1, 2, 3, 5, 0] rfl (L' := [(0, vR 0), (1, vI a1), (2, vL x2), (5, vI x5), (6, vI v2)]) rfl ?_
      exact w_X12_turnsTo_124 (a1 := a1) X E hk12 x2 x5 v2 s3 h
    · replace h := ifF h c8
      refine A_iload X 0 rfl dX12_turnsTo_117 ?_
      refine A_iload X 4 rfl dX12_turnsTo_119 ?_
      refine A_icmp_ge X (tgt := 128) (by decide) dX12_turnsTo_121 (fun c9 => ?_) (fun c9 => ?_)
      · replace h := ifT h c9
        refine A_sub [1, 2, 3, 4, 5] rfl (L' := [(0, vR 0), (1, vI a1), (2, vL x2), (4, vI x4), (5, vI x5)]) rfl ?_
        exact w_X12_turnsTo_128 (a1 := a1) X E hk12 x2 x4 x5 s3 h
      · replace h := ifF h c9
        refine A_sub [1, 2, 3, 5, 0] rfl (L' := [(0, vR 0), (1, vI a1), (2, vL x2), (5, vI x5), (6, vI v2)]) rfl ?_
        exact w_X12_turnsTo_124 (a1 := a1) X E hk12 x2 x5 v2 s3 h
set_option maxRecDepth 100000 in
set_option maxHeartbeats 4000000 in
theorem w_X12_turnsTo_134 {x : aC} {r : Int × Hp} {a1 : Int} (X : aX x cX12_turnsTo wsX12_turnsTo RX12 7 rm_X12_turnsTo) (E : aE x shM (some .int) 0 r) (x4 : Int) (σ : Hp) (h : F_M_turnsTo_134 a1 x4 σ = some r) : aS x shM 7 134 [(4, vI x4)] [] σ := by
  unfold F_M_turnsTo_134 at h
  refine A_iload X 0 rfl dX12_turnsTo_134 ?_
  exact A_ireturn X E h dX12_turnsTo_136
set_option maxRecDepth 100000 in
set_option maxHeartbeats 4000000 in
theorem w_X12_turnsTo_12_b {x : aC} {r : Int × Hp} {k12 : Int × Int × Int × Hp → Option (Int × Hp)} {a1 : Int} (X : aX x cX12_turnsTo wsX12_turnsTo RX12 7 rm_X12_turnsTo) (E : aE x shM (some .int) 0 r) (hk12 : ∀ (x2 : Int) (x4 : Int) (x5 : Int) (σ : Hp), k12 (x2, x4, x5, σ) = some r → aS x shM 7 12 [(0, vR 0), (1, vI a1), (2, vL x2), (4, vI x4), (5, vI x5)] [] σ) (x2 : Int) (x4 : Int) (x5 : Int) (σ : Hp) (h : F_M_turnsTo_12_b k12 a1 x2 x4 x5 σ = some r) : aS x shM 7 12 [(0, vR 0), (1, vI a1), (2, vL x2), (4, vI x4), (5, vI x5)] [] σ := by
  unfold F_M_turnsTo_12_b at h
  refine A_iload X 4 rfl dX12_turnsTo_12 ?_
  refine A_aload_n X 0 rfl rfl dX12_turnsTo_14 ?_
  refine A_getR X fg_X12_turnsTo_54 shM_0 (k := 14) rfl (by decide) dX12_turnsTo_15 ?_
  refine A_aload_n X 0 rfl rfl dX12_turnsTo_18 ?_
  refine A_getI X fg_X12_turnsTo_48 shM_0 (k := 12) rfl (by decide) dX12_turnsTo_19 ?_
  obtain ⟨g10, h⟩ := gdD h
  refine A_iald X g10 shM_3 dX12_turnsTo_22 ?_
  refine A_icmp_ge X (tgt := 134) (by decide) dX12_turnsTo_23 (fun c11 => ?_) (fun c11 => ?_)
  · replace h := ifT h c11
    refine A_sub [3] rfl (L' := [(4, vI x4)]) rfl ?_
    exact w_X12_turnsTo_134 (a1 := a1) X E x4 σ h
  · replace h := ifF h c11
    refine A_lload_n X 2 rfl rfl dX12_turnsTo_26 ?_
    refine A_aload_n X 0 rfl rfl dX12_turnsTo_27 ?_
    refine A_iload_n X 1 rfl rfl dX12_turnsTo_28 ?_
    obtain ⟨v12, s13, e14, h⟩ := clD h
    refine A_callV_I (na := 1) X (m_X12_aloneOf e14) gX12_turnsTo_X12_aloneOf rfl ⟨rfl, rfl⟩ (by decide +kernel) rfl ⟨Nat.le_of_ble_eq_true rfl, Nat.le_of_ble_eq_true rfl⟩ shM_0 (by decide) rfl rfl (Nat.le_of_ble_eq_true rfl) dX12_turnsTo_29 ?_
    refine A_i2l X dX12_turnsTo_32 ?_
    refine A_lcmp X dX12_turnsTo_33 ?_
    refine A_if_le X (tgt := 134) (by decide) dX12_turnsTo_34 (fun c15 => ?_) (fun c15 => ?_)
    · replace h := ifT h c15
      refine A_sub [3] rfl (L' := [(4, vI x4)]) rfl ?_
      exact w_X12_turnsTo_134 (a1 := a1) X E x4 s13 h
    · replace h := ifF h c15
      refine A_aload_n X 0 rfl rfl dX12_turnsTo_37 ?_
      refine A_getR X fg_X12_turnsTo_162 shM_0 (k := 49) rfl (by decide) dX12_turnsTo_38 ?_
      refine A_iload X 4 rfl dX12_turnsTo_41 ?_
      obtain ⟨g16, h⟩ := gdD h
      refine A_zald X g16 shM_29 dX12_turnsTo_43 ?_
      refine A_if_eq X (tgt := 128) (by decide) dX12_turnsTo_44 (fun c17 => ?_) (fun c17 => ?_)
      · replace h := ifT h c17
        exact w_X12_turnsTo_128 (a1 := a1) X E hk12 x2 x4 x5 s13 h
      · replace h := ifF h c17
        refine A_iload X 4 rfl dX12_turnsTo_47 ?_
        refine A_aload_n X 0 rfl rfl dX12_turnsTo_49 ?_
        refine A_getR X fg_X12_turnsTo_210 shM_0 (k := 65) rfl (by decide) dX12_turnsTo_50 ?_
        refine A_iload_n X 1 rfl rfl dX12_turnsTo_53 ?_
        obtain ⟨g18, h⟩ := gdD h
        refine A_iald X g18 shM_44 dX12_turnsTo_54 ?_
        refine A_icmp_eq X (tgt := 128) (by decide) dX12_turnsTo_55 (fun c19 => ?_) (fun c19 => ?_)
        · replace h := ifT h c19
          exact w_X12_turnsTo_128 (a1 := a1) X E hk12 x2 x4 x5 s13 h
        · replace h := ifF h c19
          refine A_aload_n X 0 rfl rfl dX12_turnsTo_58 ?_
          refine A_iload X 4 rfl dX12_turnsTo_59 ?_
          obtain ⟨v20, s21, e22, h⟩ := clD h
          refine A_callV_I (na := 1) X (m_X12_first e22) gX12_turnsTo_X12_first rfl ⟨rfl, rfl⟩ (by decide +kernel) rfl ⟨Nat.le_of_ble_eq_true rfl, Nat.le_of_ble_eq_true rfl⟩ shM_0 (by decide) rfl rfl (Nat.le_of_ble_eq_true rfl) dX12_turnsTo_61 ?_
          refine A_iload_n X 1 rfl rfl dX12_turnsTo_64 ?_
          refine A_icmp_eq X (tgt := 81) (by decide) dX12_turnsTo_65 (fun c23 => ?_) (fun c23 => ?_)
          · replace h := ifT h c23
            exact w_X12_turnsTo_81 (a1 := a1) X E hk12 x2 x4 x5 s21 h
          · replace h := ifF h c23
            refine A_aload_n X 0 rfl rfl dX12_turnsTo_68 ?_
            refine A_iload X 4 rfl dX12_turnsTo_69 ?_
            obtain ⟨v24, s25, e26, h⟩ := clD h
            refine A_callV_I (na := 1) X (m_X12_second e26) gX12_turnsTo_X12_second rfl ⟨rfl, rfl⟩ (by decide +kernel) rfl ⟨Nat.le_of_ble_eq_true rfl, Nat.le_of_ble_eq_true rfl⟩ shM_0 (by decide) rfl rfl (Nat.le_of_ble_eq_true rfl) dX12_turnsTo_71 ?_
            refine A_iload_n X 1 rfl rfl dX12_turnsTo_74 ?_
            refine A_icmp_eq X (tgt := 81) (by decide) dX12_turnsTo_75 (fun c27 => ?_) (fun c27 => ?_)
            · replace h := ifT h c27
              exact w_X12_turnsTo_81 (a1 := a1) X E hk12 x2 x4 x5 s25 h
            · replace h := ifF h c27
              refine A_goto X (tgt := 128) (by decide) dX12_turnsTo_78 ?_
              exact w_X12_turnsTo_128 (a1 := a1) X E hk12 x2 x4 x5 s25 h
set_option maxRecDepth 100000 in
set_option maxHeartbeats 4000000 in
theorem w_X12_turnsTo_12 {x : aC} {r : Int × Hp} {a1 : Int} (X : aX x cX12_turnsTo wsX12_turnsTo RX12 7 rm_X12_turnsTo) (E : aE x shM (some .int) 0 r) : ∀ (n : Nat) (x2 : Int) (x4 : Int) (x5 : Int) (σ : Hp) (h : F_M_turnsTo_12 a1 n (x2, x4, x5, σ) = some r), aS x shM 7 12 [(0, vR 0), (1, vI a1), (2, vL x2), (4, vI x4), (5, vI x5)] [] σ := by
  intro n
  induction n with
  | zero => intro x2 x4 x5 σ h; cases h
  | succ n ih => intro x2 x4 x5 σ h; exact w_X12_turnsTo_12_b (a1 := a1) (k12 := F_M_turnsTo_12 a1 n) X E ih x2 x4 x5 σ h
set_option maxRecDepth 100000 in
set_option maxHeartbeats 4000000 in
theorem m_X12_turnsTo {l : Launch} {g : aG} {a1 : Int} {σ : Hp} {r : Int × Hp} (h : F_M_turnsTo a1 σ = some r) : aMet l g shM yX12_turnsTo wsX12_turnsTo rm_X12_turnsTo [vR 0, vI a1] σ 0 r := by
  unfold F_M_turnsTo at h
  refine aMet_of (bytes := cX12_turnsTo) (maxL := 7) (ret := (some .int)) (by decide +kernel) rfl (Nat.le_of_ble_eq_true rfl) ⟨rfl, rfl⟩ (fun x e1 e2 X E => ?_)
  subst e1; subst e2
  have X : aX x cX12_turnsTo wsX12_turnsTo RX12 7 rm_X12_turnsTo := X
  show aS x shM 7 0 [(0, vR 0), (1, vI a1)] [] σ
  refine A_aload_n X 0 rfl rfl dX12_turnsTo_0 ?_
  refine A_iload_n X 1 rfl rfl dX12_turnsTo_1 ?_
  obtain ⟨v28, s29, e30, h⟩ := clD h
  refine A_callV_L (na := 1) X (m_X12_elseOf e30) gX12_turnsTo_X12_elseOf rfl ⟨rfl, rfl⟩ (by decide +kernel) rfl ⟨Nat.le_of_ble_eq_true rfl, Nat.le_of_ble_eq_true rfl⟩ shM_0 (by decide) rfl rfl (Nat.le_of_ble_eq_true rfl) dX12_turnsTo_2 ?_
  refine A_lstore_n X (L' := [(2, vL v28), (0, vR 0), (1, vI a1)]) rfl (by decide) rfl dX12_turnsTo_5 ?_
  refine A_iconst X dX12_turnsTo_6 (z := (-1)) (by decide) ?_
  refine A_istore X (L' := [(4, vI (-1)), (2, vL v28), (0, vR 0), (1, vI a1)]) (by decide) rfl dX12_turnsTo_7 ?_
  refine A_iconst X dX12_turnsTo_9 (z := 0) (by decide) ?_
  refine A_istore X (L' := [(5, vI 0), (4, vI (-1)), (2, vL v28), (0, vR 0), (1, vI a1)]) (by decide) rfl dX12_turnsTo_10 ?_
  refine A_sub [3, 4, 2, 1, 0] rfl (L' := [(0, vR 0), (1, vI a1), (2, vL v28), (4, vI (-1)), (5, vI 0)]) rfl ?_
  exact w_X12_turnsTo_12 (a1 := a1) X E FU v28 (-1) 0 s29 h
abbrev rm_X12_chain : Room := { frames := 6, cells := 0, slots := 0, locals := 143 }
set_option maxRecDepth 100000 in
set_option maxHeartbeats 4000000 in
theorem w_X12_chain_12 {x : aC} {r : Int × Hp} {a1 : Int} {a2 : Int} (X : aX x cX12_chain wsX12_chain RX12 6 rm_X12_chain) (E : aE x shM (some .int) 0 r) (σ : Hp) (h : F_M_chain_12 a1 a2 σ = some r) : aS x shM 6 12 [] [] σ := by
  unfold F_M_chain_12 at h
  refine A_iconst X dX12_chain_12 (z := (-1)) (by decide) ?_
  exact A_ireturn X E h dX12_chain_13
set_option maxRecDepth 100000 in
set_option maxHeartbeats 4000000 in
theorem w_X12_chain_71 {x : aC} {r : Int × Hp} {a1 : Int} {a2 : Int} (X : aX x cX12_chain wsX12_chain RX12 6 rm_X12_chain) (E : aE x shM (some .int) 0 r) (σ : Hp) (h : F_M_chain_71 a1 a2 σ = some r) : aS x shM 6 71 [] [] σ := by
  unfold F_M_chain_71 at h
  refine A_iconst X dX12_chain_71 (z := (-1)) (by decide) ?_
  exact A_ireturn X E h dX12_chain_72
set_option maxRecDepth 100000 in
set_option maxHeartbeats 4000000 in
theorem w_X12_chain_26_b {x : aC} {r : Int × Hp} {k26 : Int × Int × Int × Hp → Option (Int × Hp)} {a1 : Int} {a2 : Int} (X : aX x cX12_chain wsX12_chain RX12 6 rm_X12_chain) (E : aE x shM (some .int) 0 r) (hk26 : ∀ (x3 : Int) (x4 : Int) (x5 : Int) (σ : Hp), k26 (x3, x4, x5, σ) = some r → aS x shM 6 26 [(0, vR 0), (2, vI a2), (3, vI x3), (4, vI x4), (5, vI x5)] [] σ) (x3 : Int) (x4 : Int) (x5 : Int) (σ : Hp) (h : F_M_chain_26_b k26 a1 a2 x3 x4 x5 σ = some r) : aS x shM 6 26 [(0, vR 0), (2, vI a2), (3, vI x3), (4, vI x4), (5, vI x5)] [] σ := by
  unfold F_M_chain_26_b at h
  refine A_iload X 3 rfl dX12_chain_26 ?_
  refine A_iconst X dX12_chain_28 (z := (-1)) (by decide) ?_
  refine A_icmp_eq X (tgt := 71) (by decide) dX12_chain_29 (fun c1 => ?_) (fun c1 => ?_)
  · replace h := ifT h c1
    refine A_sub [] rfl (L' := []) rfl ?_
    exact w_X12_chain_71 (a1 := a1) (a2 := a2) X E σ h
  · replace h := ifF h c1
    refine A_iload_n X 2 rfl rfl dX12_chain_32 ?_
    refine A_iload X 3 rfl dX12_chain_33 ?_
    refine A_ishr X dX12_chain_35 ?_
    refine A_iconst X dX12_chain_36 (z := 1) (by decide) ?_
    refine A_iand X dX12_chain_37 ?_
    refine A_if_ne X (tgt := 71) (by decide) dX12_chain_38 (fun c2 => ?_) (fun c2 => ?_)
    · replace h := ifF h c2
      refine A_sub [] rfl (L' := []) rfl ?_
      exact w_X12_chain_71 (a1 := a1) (a2 := a2) X E σ h
    · replace h := ifT h c2
      refine A_iload X 4 rfl dX12_chain_41 ?_
      refine A_iload_n X 1 rfl rfl dX12_chain_43 ?_
      refine A_icmp_ne X (tgt := 50) (by decide) dX12_chain_44 (fun c3 => ?_) (fun c3 => ?_)
      · replace h := ifF h c3
        refine A_iload_n X 2 rfl rfl dX12_chain_50 ?_
        refine A_iconst X dX12_chain_51 (z := 1) (by decide) ?_
        refine A_iload X 3 rfl dX12_chain_52 ?_
        refine A_ishl X dX12_chain_54 ?_
        refine A_ior X dX12_chain_55 ?_
        refine A_istore_nN X (L' := fun y3_4 => [(3, vI y3_4), (0, vR 0), (2, vI a2), (4, vI x4), (5, vI x5)]) rfl (by decide) (fun _ => rfl) dX12_chain_56 (fun y3_4 hy => ?_)
        replace h := ltD h y3_4 hy
        clear hy
        refine A_iinc X (L' := fun y5_5 => [(5, vI y5_5), (3, vI y3_4), (0, vR 0), (2, vI a2), (4, vI x4)]) 4 rfl (by decide) (fun _ => rfl) dX12_chain_57 (by decide) (fun y5_5 hy => ?_)
        replace h := ltD h y5_5 hy
        clear hy
        refine A_aload_n X 2 rfl rfl dX12_chain_60 ?_
        refine A_iload X 4 rfl dX12_chain_61 ?_
        obtain ⟨v6, s7, e8, h⟩ := clD h
        refine A_callV_I (na := 1) X (m_X12_turnsTo e8) gX12_chain_X12_turnsTo rfl ⟨rfl, rfl⟩ (by decide +kernel) rfl ⟨Nat.le_of_ble_eq_true rfl, Nat.le_of_ble_eq_true rfl⟩ shM_0 (by decide) rfl rfl (Nat.le_of_ble_eq_true rfl) dX12_chain_63 ?_
        refine A_istore X (L' := [(4, vI v6), (5, vI y5_5), (3, vI y3_4), (0, vR 0), (2, vI a2)]) (by decide) rfl dX12_chain_66 ?_
        refine A_goto X (tgt := 26) (by decide) dX12_chain_68 ?_
        refine A_sub [3, 4, 2, 0, 1] rfl (L' := [(0, vR 0), (2, vI a2), (3, vI y3_4), (4, vI v6), (5, vI y5_5)]) rfl ?_
        exact hk26 y3_4 v6 y5_5 s7 h
      · replace h := ifT h c3
        refine A_iload X 3 rfl dX12_chain_47 ?_
        exact A_ireturn X E h dX12_chain_49
set_option maxRecDepth 100000 in
set_option maxHeartbeats 4000000 in
theorem w_X12_chain_26 {x : aC} {r : Int × Hp} {a1 : Int} {a2 : Int} (X : aX x cX12_chain wsX12_chain RX12 6 rm_X12_chain) (E : aE x shM (some .int) 0 r) : ∀ (n : Nat) (x3 : Int) (x4 : Int) (x5 : Int) (σ : Hp) (h : F_M_chain_26 a1 a2 n (x3, x4, x5, σ) = some r), aS x shM 6 26 [(0, vR 0), (2, vI a2), (3, vI x3), (4, vI x4), (5, vI x5)] [] σ := by
  intro n
  induction n with
  | zero => intro x3 x4 x5 σ h; cases h
  | succ n ih => intro x3 x4 x5 σ h; exact w_X12_chain_26_b (a1 := a1) (a2 := a2) (k26 := F_M_chain_26 a1 a2 n) X E ih x3 x4 x5 σ h
set_option maxRecDepth 100000 in
set_option maxHeartbeats 4000000 in
theorem m_X12_chain {l : Launch} {g : aG} {a1 : Int} {a2 : Int} {σ : Hp} {r : Int × Hp} (h : F_M_chain a1 a2 σ = some r) : aMet l g shM yX12_chain wsX12_chain rm_X12_chain [vR 0, vI a1, vI a2] σ 0 r := by
  unfold F_M_chain at h
  refine aMet_of (bytes := cX12_chain) (maxL := 6) (ret := (some .int)) (by decide +kernel) rfl (Nat.le_of_ble_eq_true rfl) ⟨rfl, rfl⟩ (fun x e1 e2 X E => ?_)
  subst e1; subst e2
  have X : aX x cX12_chain wsX12_chain RX12 6 rm_X12_chain := X
  show aS x shM 6 0 [(0, vR 0), (1, vI a1), (2, vI a2)] [] σ
  refine A_aload_n X 0 rfl rfl dX12_chain_0 ?_
  refine A_iload_n X 1 rfl rfl dX12_chain_1 ?_
  obtain ⟨v9, s10, e11, h⟩ := clD h
  refine A_callV_I (na := 1) X (m_X12_isWho e11) gX12_chain_X12_isWho rfl ⟨rfl, rfl⟩ (by decide +kernel) rfl ⟨Nat.le_of_ble_eq_true rfl, Nat.le_of_ble_eq_true rfl⟩ shM_0 (by decide) rfl rfl (Nat.le_of_ble_eq_true rfl) dX12_chain_2 ?_
  refine A_if_eq X (tgt := 12) (by decide) dX12_chain_5 (fun c12 => ?_) (fun c12 => ?_)
  · replace h := ifT h c12
    refine A_sub [] rfl (L' := []) rfl ?_
    exact w_X12_chain_12 (a1 := a1) (a2 := a2) X E s10 h
  · replace h := ifF h c12
    refine A_iload_n X 2 rfl rfl dX12_chain_8 ?_
    refine A_if_ge X (tgt := 14) (by decide) dX12_chain_9 (fun c13 => ?_) (fun c13 => ?_)
    · replace h := ifT h c13
      refine A_aload_n X 0 rfl rfl dX12_chain_14 ?_
      obtain ⟨v14, s15, e16, h⟩ := clD h
      refine A_callV_V (na := 0) X (m_X12_laysAll e16) gX12_chain_X12_laysAll rfl ⟨rfl, rfl⟩ (by decide +kernel) rfl ⟨Nat.le_of_ble_eq_true rfl, Nat.le_of_ble_eq_true rfl⟩ shM_0 (by decide) rfl rfl (Nat.le_of_ble_eq_true rfl) dX12_chain_15 ?_
      refine A_iconst X dX12_chain_18 (z := 0) (by decide) ?_
      refine A_istore_n X (L' := [(3, vI 0), (0, vR 0), (1, vI a1), (2, vI a2)]) rfl (by decide) rfl dX12_chain_19 ?_
      refine A_iload_n X 2 rfl rfl dX12_chain_20 ?_
      refine A_istore X (L' := [(4, vI a1), (3, vI 0), (0, vR 0), (1, vI a1), (2, vI a2)]) (by decide) rfl dX12_chain_21 ?_
      refine A_iconst X dX12_chain_23 (z := 0) (by decide) ?_
      refine A_istore X (L' := [(5, vI 0), (4, vI a1), (3, vI 0), (0, vR 0), (1, vI a1), (2, vI a2)]) (by decide) rfl dX12_chain_24 ?_
      refine A_sub [3, 5, 2, 1, 0] rfl (L' := [(0, vR 0), (2, vI a2), (3, vI 0), (4, vI a1), (5, vI 0)]) rfl ?_
      exact w_X12_chain_26 (a1 := a1) (a2 := a2) X E FU 0 a1 0 s15 h
    · replace h := ifF h c13
      refine A_sub [] rfl (L' := []) rfl ?_
      exact w_X12_chain_12 (a1 := a1) (a2 := a2) X E s10 h
abbrev rm_X12_finds : Room := { frames := 3, cells := 0, slots := 0, locals := 69 }
theorem in_X12_finds_12 : ∀ w ∈ u_ws RX12 TX12 75, w ∈ wsX12_finds := fun w h => List.mem_cons_of_mem _ (List.mem_append_right _ h)
theorem fg_X12_finds_54 : aFl wsX12_finds RX12 54 12 14 := ⟨RX12, TX12, 75, rfl, in_X12_finds_12, by decide, (List.mem_of_getElem? (i := 4) rfl), rfl⟩
theorem fg_X12_finds_48 : aFl wsX12_finds RX12 48 12 12 := ⟨RX12, TX12, 75, rfl, in_X12_finds_12, by decide, (List.mem_of_getElem? (i := 5) rfl), rfl⟩
theorem fg_X12_finds_171 : aFl wsX12_finds RX12 171 12 52 := ⟨RX12, TX12, 75, rfl, in_X12_finds_12, by decide, (List.mem_of_getElem? (i := 3) rfl), rfl⟩
theorem fg_X12_finds_186 : aFl wsX12_finds RX12 186 12 57 := ⟨RX12, TX12, 75, rfl, in_X12_finds_12, by decide, (List.mem_of_getElem? (i := 6) rfl), rfl⟩
theorem fg_X12_finds_183 : aFl wsX12_finds RX12 183 12 56 := ⟨RX12, TX12, 75, rfl, in_X12_finds_12, by decide, (List.mem_of_getElem? (i := 1) rfl), rfl⟩
theorem fp_X12_finds_183 : aFp wsX12_finds RX12 183 12 56 .int := ⟨RX12, TX12, 75, tyX12, rfl, in_X12_finds_12, by decide, (List.mem_of_getElem? (i := 1) rfl), rfl, tyX12_ok, nmX12, rfl, rfl⟩
theorem fg_X12_finds_189 : aFl wsX12_finds RX12 189 12 58 := ⟨RX12, TX12, 75, rfl, in_X12_finds_12, by decide, (List.mem_of_getElem? (i := 2) rfl), rfl⟩
set_option maxRecDepth 100000 in
set_option maxHeartbeats 4000000 in
theorem w_X12_finds_186 {x : aC} {r : Int × Hp} {k48 : Int × Int × Int × Hp → Option (Int × Hp)} (X : aX x cX12_finds wsX12_finds RX12 6 rm_X12_finds) (E : aE x shM none 3 r) (hk48 : ∀ (x1 : Int) (x2 : Int) (x3 : Int) (σ : Hp), k48 (x1, x2, x3, σ) = some r → aS x shM 6 48 [(0, vR 0), (1, vI x1), (2, vI x2), (3, vI x3)] [] σ) (x1 : Int) (x2 : Int) (x3 : Int) (σ : Hp) (h : F_M_finds_186 k48 x1 x2 x3 σ = some r) : aS x shM 6 186 [(0, vR 0), (1, vI x1), (2, vI x2), (3, vI x3)] [] σ := by
  unfold F_M_finds_186 at h
  refine A_iinc X (L' := fun y3_1 => [(3, vI y3_1), (0, vR 0), (1, vI x1), (2, vI x2)]) 3 rfl (by decide) (fun _ => rfl) dX12_finds_186 (by decide) (fun y3_1 hy => ?_)
  replace h := ltD h y3_1 hy
  clear hy
  refine A_goto X (tgt := 48) (by decide) dX12_finds_189 ?_
  refine A_sub [1, 2, 3, 0] rfl (L' := [(0, vR 0), (1, vI x1), (2, vI x2), (3, vI y3_1)]) rfl ?_
  exact hk48 x1 x2 y3_1 σ h
set_option maxRecDepth 100000 in
set_option maxHeartbeats 4000000 in
theorem w_X12_finds_192 {x : aC} {r : Int × Hp} (X : aX x cX12_finds wsX12_finds RX12 6 rm_X12_finds) (E : aE x shM none 3 r) (σ : Hp) (h : F_M_finds_192 σ = some r) : aS x shM 6 192 [] [] σ := by
  unfold F_M_finds_192 at h
  exact A_return X E h dX12_finds_192
set_option maxRecDepth 100000 in
set_option maxHeartbeats 4000000 in
theorem w_X12_finds_48_b {x : aC} {r : Int × Hp} {k48 : Int × Int × Int × Hp → Option (Int × Hp)} (X : aX x cX12_finds wsX12_finds RX12 6 rm_X12_finds) (E : aE x shM none 3 r) (hk48 : ∀ (x1 : Int) (x2 : Int) (x3 : Int) (σ : Hp), k48 (x1, x2, x3, σ) = some r → aS x shM 6 48 [(0, vR 0), (1, vI x1), (2, vI x2), (3, vI x3)] [] σ) (x1 : Int) (x2 : Int) (x3 : Int) (σ : Hp) (h : F_M_finds_48_b k48 x1 x2 x3 σ = some r) : aS x shM 6 48 [(0, vR 0), (1, vI x1), (2, vI x2), (3, vI x3)] [] σ := by
  unfold F_M_finds_48_b at h
  refine A_iload_n X 3 rfl rfl dX12_finds_48 ?_
  refine A_aload_n X 0 rfl rfl dX12_finds_49 ?_
  refine A_getR X fg_X12_finds_54 shM_0 (k := 14) rfl (by decide) dX12_finds_50 ?_
  refine A_aload_n X 0 rfl rfl dX12_finds_53 ?_
  refine A_getI X fg_X12_finds_48 shM_0 (k := 12) rfl (by decide) dX12_finds_54 ?_
  obtain ⟨g2, h⟩ := gdD h
  refine A_iald X g2 shM_3 dX12_finds_57 ?_
  refine A_icmp_ge X (tgt := 192) (by decide) dX12_finds_58 (fun c3 => ?_) (fun c3 => ?_)
  · replace h := ifT h c3
    refine A_sub [] rfl (L' := []) rfl ?_
    exact w_X12_finds_192 X E σ h
  · replace h := ifF h c3
    refine A_iload_n X 1 rfl rfl dX12_finds_61 ?_
    refine A_if_le X (tgt := 192) (by decide) dX12_finds_62 (fun c4 => ?_) (fun c4 => ?_)
    · replace h := ifT h c4
      refine A_sub [] rfl (L' := []) rfl ?_
      exact w_X12_finds_192 X E σ h
    · replace h := ifF h c4
      refine A_iconst X dX12_finds_65 (z := 1) (by decide) ?_
      refine A_aload_n X 0 rfl rfl dX12_finds_66 ?_
      refine A_iload_n X 3 rfl rfl dX12_finds_67 ?_
      obtain ⟨v5, s6, e7, h⟩ := clD h
      refine A_callV_I (na := 1) X (m_X12_first e7) gX12_finds_X12_first rfl ⟨rfl, rfl⟩ (by decide +kernel) rfl ⟨Nat.le_of_ble_eq_true rfl, Nat.le_of_ble_eq_true rfl⟩ shM_0 (by decide) rfl rfl (Nat.le_of_ble_eq_true rfl) dX12_finds_68 ?_
      refine A_ishl X dX12_finds_71 ?_
      refine A_iconst X dX12_finds_72 (z := 1) (by decide) ?_
      refine A_aload_n X 0 rfl rfl dX12_finds_73 ?_
      refine A_iload_n X 3 rfl rfl dX12_finds_74 ?_
      obtain ⟨v8, s9, e10, h⟩ := clD h
      refine A_callV_I (na := 1) X (m_X12_second e10) gX12_finds_X12_second rfl ⟨rfl, rfl⟩ (by decide +kernel) rfl ⟨Nat.le_of_ble_eq_true rfl, Nat.le_of_ble_eq_true rfl⟩ shM_0 (by decide) rfl rfl (Nat.le_of_ble_eq_true rfl) dX12_finds_75 ?_
      refine A_ishl X dX12_finds_78 ?_
      refine A_ior X dX12_finds_79 ?_
      refine A_istoreN X (L' := fun y4_11 => [(4, vI y4_11), (0, vR 0), (1, vI x1), (2, vI x2), (3, vI x3)]) (by decide) (fun _ => rfl) dX12_finds_80 (fun y4_11 hy => ?_)
      replace h := ltD h y4_11 hy
      clear hy
      refine A_aload_n X 1 rfl rfl dX12_finds_82 ?_
      refine A_iload_n X 4 rfl rfl dX12_finds_83 ?_
      obtain ⟨v12, s13, e14, h⟩ := clD h
      refine A_callV_I (na := 1) X (m_X12_gainOf e14) gX12_finds_X12_gainOf rfl ⟨rfl, rfl⟩ (by decide +kernel) rfl ⟨Nat.le_of_ble_eq_true rfl, Nat.le_of_ble_eq_true rfl⟩ shM_0 (by decide) rfl rfl (Nat.le_of_ble_eq_true rfl) dX12_finds_84 ?_
      refine A_istore X (L' := [(5, vI v12), (4, vI y4_11), (0, vR 0), (1, vI x1), (2, vI x2), (3, vI x3)]) (by decide) rfl dX12_finds_87 ?_
      refine A_iload X 0 rfl dX12_finds_89 ?_
      refine A_if_eq X (tgt := 186) (by decide) dX12_finds_91 (fun c15 => ?_) (fun c15 => ?_)
      · replace h := ifT h c15
        refine A_sub [2, 3, 4, 5] rfl (L' := [(0, vR 0), (1, vI x1), (2, vI x2), (3, vI x3)]) rfl ?_
        exact w_X12_finds_186 X E hk48 x1 x2 x3 s13 h
      · replace h := ifF h c15
        refine A_iload_n X 4 rfl rfl dX12_finds_94 ?_
        refine A_iload X 1 rfl dX12_finds_95 ?_
        refine A_iand X dX12_finds_97 ?_
        refine A_iload X 1 rfl dX12_finds_98 ?_
        refine A_icmp_eq X (tgt := 106) (by decide) dX12_finds_100 (fun c16 => ?_) (fun c16 => ?_)
        · replace h := ifT h c16
          refine A_aload_n X 2 rfl rfl dX12_finds_106 ?_
          refine A_iload_n X 5 rfl rfl dX12_finds_107 ?_
          obtain ⟨v17, s18, e19, h⟩ := clD h
          refine A_callV_V (na := 1) X (m_X12_mosts e19) gX12_finds_X12_mosts rfl ⟨rfl, rfl⟩ (by decide +kernel) rfl ⟨Nat.le_of_ble_eq_true rfl, Nat.le_of_ble_eq_true rfl⟩ shM_0 (by decide) rfl rfl (Nat.le_of_ble_eq_true rfl) dX12_finds_108 ?_
          refine A_iload X 0 rfl dX12_finds_111 ?_
          refine A_aload_n X 2 rfl rfl dX12_finds_113 ?_
          refine A_getR X fg_X12_finds_171 shM_0 (k := 52) rfl (by decide) dX12_finds_114 ?_
          refine A_iload_n X 4 rfl rfl dX12_finds_117 ?_
          refine A_iload X 1 rfl dX12_finds_118 ?_
          refine A_iconst X dX12_finds_120 (z := (-1)) (by decide) ?_
          refine A_ixor X dX12_finds_121 ?_
          refine A_iand X dX12_finds_122 ?_
          obtain ⟨g20, h⟩ := gdD h
          refine A_iald X g20 shM_32 dX12_finds_123 ?_
          refine A_iadd X dX12_finds_124 ?_
          refine A_iload_n X 3 rfl rfl dX12_finds_125 ?_
          refine A_icmp_eq X (tgt := 132) (by decide) dX12_finds_126 (fun c21 => ?_) (fun c21 => ?_)
          · replace h := ifT h c21
            refine A_aload_n X 2 rfl rfl dX12_finds_132 ?_
            refine A_getR X fg_X12_finds_186 shM_0 (k := 57) rfl (by decide) dX12_finds_133 ?_
            refine A_aload_n X 2 rfl rfl dX12_finds_136 ?_
            refine A_getI X fg_X12_finds_183 shM_0 (k := 56) rfl (by decide) dX12_finds_137 ?_
            refine A_iload_n X 5 rfl rfl dX12_finds_140 ?_
            obtain ⟨g22, h⟩ := gdD h
            refine A_iast X g22 shM_36 dX12_finds_141 (fun s23 hy => ?_)
            replace h := ltD h s23 hy
            clear hy
            refine A_aload_n X 2 rfl rfl dX12_finds_142 ?_
            refine A_dup X (by show ¬ (2 : Nat) = 1; decide) dX12_finds_143 ?_
            refine A_getI X fg_X12_finds_183 shM_0 (k := 56) rfl (by decide) dX12_finds_144 ?_
            refine A_iconst X dX12_finds_147 (z := 1) (by decide) ?_
            refine A_iadd X dX12_finds_148 ?_
            refine A_putI X fp_X12_finds_183 shM_0 (k := 56) rfl (by decide) dX12_finds_149 (fun s24 hy => ?_)
            replace h := ltD h s24 hy
            clear hy
            refine A_iload_n X 3 rfl rfl dX12_finds_152 ?_
            refine A_iload X 0 rfl dX12_finds_153 ?_
            refine A_isub X dX12_finds_155 ?_
            refine A_istore_nN X (L' := fun y1_25 => [(1, vI y1_25), (5, vI v12), (4, vI y4_11), (0, vR 0), (2, vI x2), (3, vI x3)]) rfl (by decide) (fun _ => rfl) dX12_finds_156 (fun y1_25 hy => ?_)
            replace h := ltD h y1_25 hy
            clear hy
            refine A_iload_n X 4 rfl rfl dX12_finds_157 ?_
            refine A_iload X 2 rfl dX12_finds_158 ?_
            refine A_iconst X dX12_finds_160 (z := (-1)) (by decide) ?_
            refine A_ixor X dX12_finds_161 ?_
            refine A_iand X dX12_finds_162 ?_
            refine A_istore_nN X (L' := fun y2_26 => [(2, vI y2_26), (1, vI y1_25), (5, vI v12), (4, vI y4_11), (0, vR 0), (3, vI x3)]) rfl (by decide) (fun _ => rfl) dX12_finds_163 (fun y2_26 hy => ?_)
            replace h := ltD h y2_26 hy
            clear hy
            refine A_aload_n X 4 rfl rfl dX12_finds_164 ?_
            refine A_getR X fg_X12_finds_189 shM_0 (k := 58) rfl (by decide) dX12_finds_165 ?_
            refine A_aload_n X 4 rfl rfl dX12_finds_168 ?_
            refine A_iload_n X 5 rfl rfl dX12_finds_169 ?_
            obtain ⟨v27, s28, e29, h⟩ := clD h
            refine A_callV_I (na := 1) X (m_X12_first e29) gX12_finds_X12_first rfl ⟨rfl, rfl⟩ (by decide +kernel) rfl ⟨Nat.le_of_ble_eq_true rfl, Nat.le_of_ble_eq_true rfl⟩ shM_0 (by decide) rfl rfl (Nat.le_of_ble_eq_true rfl) dX12_finds_170 ?_
            refine A_iload_n X 5 rfl rfl dX12_finds_173 ?_
            obtain ⟨g30, h⟩ := gdD h
            refine A_iast X g30 shM_37 dX12_finds_174 (fun s31 hy => ?_)
            replace h := ltD h s31 hy
            clear hy
            refine A_aload_n X 4 rfl rfl dX12_finds_175 ?_
            refine A_getR X fg_X12_finds_189 shM_0 (k := 58) rfl (by decide) dX12_finds_176 ?_
            refine A_aload_n X 4 rfl rfl dX12_finds_179 ?_
            refine A_iload_n X 5 rfl rfl dX12_finds_180 ?_
            obtain ⟨v32, s33, e34, h⟩ := clD h
            refine A_callV_I (na := 1) X (m_X12_second e34) gX12_finds_X12_second rfl ⟨rfl, rfl⟩ (by decide +kernel) rfl ⟨Nat.le_of_ble_eq_true rfl, Nat.le_of_ble_eq_true rfl⟩ shM_0 (by decide) rfl rfl (Nat.le_of_ble_eq_true rfl) dX12_finds_181 ?_
            refine A_iload_n X 5 rfl rfl dX12_finds_184 ?_
            obtain ⟨g35, h⟩ := gdD h
            refine A_iast X g35 shM_37 dX12_finds_185 (fun s36 hy => ?_)
            replace h := ltD h s36 hy
            clear hy
            refine A_sub [4, 1, 0, 5] rfl (L' := [(0, vR 0), (1, vI y1_25), (2, vI y2_26), (3, vI x3)]) rfl ?_
            exact w_X12_finds_186 X E hk48 y1_25 y2_26 x3 s36 h
          · replace h := ifF h c21
            refine A_goto X (tgt := 186) (by decide) dX12_finds_129 ?_
            refine A_sub [2, 3, 4, 5] rfl (L' := [(0, vR 0), (1, vI x1), (2, vI x2), (3, vI x3)]) rfl ?_
            exact w_X12_finds_186 X E hk48 x1 x2 x3 s18 h
        · replace h := ifF h c16
          refine A_goto X (tgt := 186) (by decide) dX12_finds_103 ?_
          refine A_sub [2, 3, 4, 5] rfl (L' := [(0, vR 0), (1, vI x1), (2, vI x2), (3, vI x3)]) rfl ?_
          exact w_X12_finds_186 X E hk48 x1 x2 x3 s13 h
set_option maxRecDepth 100000 in
set_option maxHeartbeats 4000000 in
theorem w_X12_finds_48 {x : aC} {r : Int × Hp} (X : aX x cX12_finds wsX12_finds RX12 6 rm_X12_finds) (E : aE x shM none 3 r) : ∀ (n : Nat) (x1 : Int) (x2 : Int) (x3 : Int) (σ : Hp) (h : F_M_finds_48 n (x1, x2, x3, σ) = some r), aS x shM 6 48 [(0, vR 0), (1, vI x1), (2, vI x2), (3, vI x3)] [] σ := by
  intro n
  induction n with
  | zero => intro x1 x2 x3 σ h; cases h
  | succ n ih => intro x1 x2 x3 σ h; exact w_X12_finds_48_b (k48 := F_M_finds_48 n) X E ih x1 x2 x3 σ h
set_option maxRecDepth 100000 in
set_option maxHeartbeats 4000000 in
theorem w_X12_finds_7_b {x : aC} {r : Int × Hp} {k7 : Int × Hp → Option (Int × Hp)} (X : aX x cX12_finds wsX12_finds RX12 6 rm_X12_finds) (E : aE x shM none 3 r) (hk7 : ∀ (x1 : Int) (σ : Hp), k7 (x1, σ) = some r → aS x shM 6 7 [(0, vR 0), (1, vI x1)] [] σ) (x1 : Int) (σ : Hp) (h : F_M_finds_7_b k7 x1 σ = some r) : aS x shM 6 7 [(0, vR 0), (1, vI x1)] [] σ := by
  unfold F_M_finds_7_b at h
  refine A_iload_n X 1 rfl rfl dX12_finds_7 ?_
  refine A_bipush X dX12_finds_8 (z := 12) (by decide) ?_
  refine A_icmp_ge X (tgt := 26) (by decide) dX12_finds_10 (fun c37 => ?_) (fun c37 => ?_)
  · replace h := ifT h c37
    refine A_aload_n X 0 rfl rfl dX12_finds_26 ?_
    refine A_iconst X dX12_finds_27 (z := (-1)) (by decide) ?_
    obtain ⟨v38, s39, e40, h⟩ := clD h
    refine A_callV_V (na := 1) X (m_X12_mosts e40) gX12_finds_X12_mosts rfl ⟨rfl, rfl⟩ (by decide +kernel) rfl ⟨Nat.le_of_ble_eq_true rfl, Nat.le_of_ble_eq_true rfl⟩ shM_0 (by decide) rfl rfl (Nat.le_of_ble_eq_true rfl) dX12_finds_28 ?_
    refine A_aload_n X 0 rfl rfl dX12_finds_31 ?_
    refine A_getR X fg_X12_finds_171 shM_0 (k := 52) rfl (by decide) dX12_finds_32 ?_
    refine A_aload_n X 0 rfl rfl dX12_finds_35 ?_
    obtain ⟨v41, s42, e43, h⟩ := clD h
    refine A_callV_I (na := 0) X (m_X12_all e43) gX12_finds_X12_all rfl ⟨rfl, rfl⟩ (by decide +kernel) rfl ⟨Nat.le_of_ble_eq_true rfl, Nat.le_of_ble_eq_true rfl⟩ shM_0 (by decide) rfl rfl (Nat.le_of_ble_eq_true rfl) dX12_finds_36 ?_
    obtain ⟨g44, h⟩ := gdD h
    refine A_iald X g44 shM_32 dX12_finds_39 ?_
    refine A_istore_nN X (L' := fun y1_45 => [(1, vI y1_45), (0, vR 0)]) rfl (by decide) (fun _ => rfl) dX12_finds_40 (fun y1_45 hy => ?_)
    replace h := ltD h y1_45 hy
    clear hy
    refine A_aload_n X 1 rfl rfl dX12_finds_41 ?_
    obtain ⟨v46, s47, e48, h⟩ := clD h
    refine A_callV_I (na := 0) X (m_X12_all e48) gX12_finds_X12_all rfl ⟨rfl, rfl⟩ (by decide +kernel) rfl ⟨Nat.le_of_ble_eq_true rfl, Nat.le_of_ble_eq_true rfl⟩ shM_0 (by decide) rfl rfl (Nat.le_of_ble_eq_true rfl) dX12_finds_42 ?_
    refine A_istore_n X (L' := [(2, vI v46), (1, vI y1_45), (0, vR 0)]) rfl (by decide) rfl dX12_finds_45 ?_
    refine A_iconst X dX12_finds_46 (z := 0) (by decide) ?_
    refine A_istore_n X (L' := [(3, vI 0), (2, vI v46), (1, vI y1_45), (0, vR 0)]) rfl (by decide) rfl dX12_finds_47 ?_
    refine A_sub [3, 2, 1, 0] rfl (L' := [(0, vR 0), (1, vI y1_45), (2, vI v46), (3, vI 0)]) rfl ?_
    exact w_X12_finds_48 X E FU y1_45 v46 0 s47 h
  · replace h := ifF h c37
    refine A_aload_n X 0 rfl rfl dX12_finds_13 ?_
    refine A_getR X fg_X12_finds_189 shM_0 (k := 58) rfl (by decide) dX12_finds_14 ?_
    refine A_iload_n X 1 rfl rfl dX12_finds_17 ?_
    refine A_iconst X dX12_finds_18 (z := (-1)) (by decide) ?_
    obtain ⟨g49, h⟩ := gdD h
    refine A_iast X g49 shM_37 dX12_finds_19 (fun s50 hy => ?_)
    replace h := ltD h s50 hy
    clear hy
    refine A_iinc X (L' := fun y1_51 => [(1, vI y1_51), (0, vR 0)]) 1 rfl (by decide) (fun _ => rfl) dX12_finds_20 (by decide) (fun y1_51 hy => ?_)
    replace h := ltD h y1_51 hy
    clear hy
    refine A_goto X (tgt := 7) (by decide) dX12_finds_23 ?_
    refine A_sub [1, 0] rfl (L' := [(0, vR 0), (1, vI y1_51)]) rfl ?_
    exact hk7 y1_51 s50 h
set_option maxRecDepth 100000 in
set_option maxHeartbeats 4000000 in
theorem w_X12_finds_7 {x : aC} {r : Int × Hp} (X : aX x cX12_finds wsX12_finds RX12 6 rm_X12_finds) (E : aE x shM none 3 r) : ∀ (n : Nat) (x1 : Int) (σ : Hp) (h : F_M_finds_7 n (x1, σ) = some r), aS x shM 6 7 [(0, vR 0), (1, vI x1)] [] σ := by
  intro n
  induction n with
  | zero => intro x1 σ h; cases h
  | succ n ih => intro x1 σ h; exact w_X12_finds_7_b (k7 := F_M_finds_7 n) X E ih x1 σ h
set_option maxRecDepth 100000 in
set_option maxHeartbeats 4000000 in
theorem m_X12_finds {l : Launch} {g : aG} {σ : Hp} {r : Int × Hp} (h : F_M_finds σ = some r) : aMet l g shM yX12_finds wsX12_finds rm_X12_finds [vR 0] σ 3 r := by
  unfold F_M_finds at h
  refine aMet_of (bytes := cX12_finds) (maxL := 6) (ret := none) (by decide +kernel) rfl (Nat.le_of_ble_eq_true rfl) ⟨rfl, rfl⟩ (fun x e1 e2 X E => ?_)
  subst e1; subst e2
  have X : aX x cX12_finds wsX12_finds RX12 6 rm_X12_finds := X
  show aS x shM 6 0 [(0, vR 0)] [] σ
  refine A_aload_n X 0 rfl rfl dX12_finds_0 ?_
  refine A_iconst X dX12_finds_1 (z := 0) (by decide) ?_
  refine A_putI X fp_X12_finds_183 shM_0 (k := 56) rfl (by decide) dX12_finds_2 (fun s52 hy => ?_)
  replace h := ltD h s52 hy
  clear hy
  refine A_iconst X dX12_finds_5 (z := 0) (by decide) ?_
  refine A_istore_n X (L' := [(1, vI 0), (0, vR 0)]) rfl (by decide) rfl dX12_finds_6 ?_
  refine A_sub [1, 0] rfl (L' := [(0, vR 0), (1, vI 0)]) rfl ?_
  exact w_X12_finds_7 X E FU 0 s52 h
abbrev rm_X12_together : Room := { frames := 1, cells := 0, slots := 0, locals := 24 }
set_option maxRecDepth 100000 in
set_option maxHeartbeats 4000000 in
theorem m_X12_together {l : Launch} {g : aG} {a1 : Int} {a2 : Int} {a3 : Int} {σ : Hp} {r : Int × Hp} (h : F_M_together a1 a2 a3 σ = some r) : aMet l g shM yX12_together wsX12_together rm_X12_together [vR 0, vI a1, vI a2, vL a3] σ 3 r := by
  unfold F_M_together at h
  refine aMet_of (bytes := cX12_together) (maxL := 5) (ret := none) (by decide +kernel) rfl (Nat.le_of_ble_eq_true rfl) ⟨rfl, rfl⟩ (fun x e1 e2 X E => ?_)
  subst e1; subst e2
  have X : aX x cX12_together wsX12_together RX12 5 rm_X12_together := X
  show aS x shM 5 0 [(0, vR 0), (1, vI a1), (2, vI a2), (3, vL a3)] [] σ
  refine A_aload_n X 0 rfl rfl dX12_together_0 ?_
  refine A_iconst X dX12_together_1 (z := 2) (by decide) ?_
  refine A_iload_n X 2 rfl rfl dX12_together_2 ?_
  refine A_imul X dX12_together_3 ?_
  refine A_iconst X dX12_together_4 (z := 2) (by decide) ?_
  refine A_iload_n X 1 rfl rfl dX12_together_5 ?_
  refine A_imul X dX12_together_6 ?_
  refine A_iconst X dX12_together_7 (z := 1) (by decide) ?_
  refine A_iadd X dX12_together_8 ?_
  refine A_lload_n X 3 rfl rfl dX12_together_9 ?_
  refine A_lneg X dX12_together_10 ?_
  obtain ⟨v1, s2, e3, h⟩ := clD h
  refine A_callV_V (na := 3) X (m_X12_bound e3) gX12_together_X12_bound rfl ⟨rfl, rfl⟩ (by decide +kernel) rfl ⟨Nat.le_of_ble_eq_true rfl, Nat.le_of_ble_eq_true rfl⟩ shM_0 (by decide) rfl rfl (Nat.le_of_ble_eq_true rfl) dX12_together_11 ?_
  refine A_aload_n X 0 rfl rfl dX12_together_14 ?_
  refine A_iconst X dX12_together_15 (z := 2) (by decide) ?_
  refine A_iload_n X 1 rfl rfl dX12_together_16 ?_
  refine A_imul X dX12_together_17 ?_
  refine A_iconst X dX12_together_18 (z := 2) (by decide) ?_
  refine A_iload_n X 2 rfl rfl dX12_together_19 ?_
  refine A_imul X dX12_together_20 ?_
  refine A_iconst X dX12_together_21 (z := 1) (by decide) ?_
  refine A_iadd X dX12_together_22 ?_
  refine A_lload_n X 3 rfl rfl dX12_together_23 ?_
  refine A_lneg X dX12_together_24 ?_
  obtain ⟨v4, s5, e6, h⟩ := clD h
  refine A_callV_V (na := 3) X (m_X12_bound e6) gX12_together_X12_bound rfl ⟨rfl, rfl⟩ (by decide +kernel) rfl ⟨Nat.le_of_ble_eq_true rfl, Nat.le_of_ble_eq_true rfl⟩ shM_0 (by decide) rfl rfl (Nat.le_of_ble_eq_true rfl) dX12_together_25 ?_
  exact A_return X E h dX12_together_28
abbrev rm_X12_notMore : Room := { frames := 1, cells := 0, slots := 0, locals := 24 }
set_option maxRecDepth 100000 in
set_option maxHeartbeats 4000000 in
theorem m_X12_notMore {l : Launch} {g : aG} {a1 : Int} {a2 : Int} {a3 : Int} {σ : Hp} {r : Int × Hp} (h : F_M_notMore a1 a2 a3 σ = some r) : aMet l g shM yX12_notMore wsX12_notMore rm_X12_notMore [vR 0, vI a1, vI a2, vL a3] σ 3 r := by
  unfold F_M_notMore at h
  refine aMet_of (bytes := cX12_notMore) (maxL := 5) (ret := none) (by decide +kernel) rfl (Nat.le_of_ble_eq_true rfl) ⟨rfl, rfl⟩ (fun x e1 e2 X E => ?_)
  subst e1; subst e2
  have X : aX x cX12_notMore wsX12_notMore RX12 5 rm_X12_notMore := X
  show aS x shM 5 0 [(0, vR 0), (1, vI a1), (2, vI a2), (3, vL a3)] [] σ
  refine A_aload_n X 0 rfl rfl dX12_notMore_0 ?_
  refine A_iconst X dX12_notMore_1 (z := 2) (by decide) ?_
  refine A_iload_n X 2 rfl rfl dX12_notMore_2 ?_
  refine A_imul X dX12_notMore_3 ?_
  refine A_iconst X dX12_notMore_4 (z := 1) (by decide) ?_
  refine A_iadd X dX12_notMore_5 ?_
  refine A_iconst X dX12_notMore_6 (z := 2) (by decide) ?_
  refine A_iload_n X 1 rfl rfl dX12_notMore_7 ?_
  refine A_imul X dX12_notMore_8 ?_
  refine A_lload_n X 3 rfl rfl dX12_notMore_9 ?_
  obtain ⟨v1, s2, e3, h⟩ := clD h
  refine A_callV_V (na := 3) X (m_X12_bound e3) gX12_notMore_X12_bound rfl ⟨rfl, rfl⟩ (by decide +kernel) rfl ⟨Nat.le_of_ble_eq_true rfl, Nat.le_of_ble_eq_true rfl⟩ shM_0 (by decide) rfl rfl (Nat.le_of_ble_eq_true rfl) dX12_notMore_10 ?_
  refine A_aload_n X 0 rfl rfl dX12_notMore_13 ?_
  refine A_iconst X dX12_notMore_14 (z := 2) (by decide) ?_
  refine A_iload_n X 1 rfl rfl dX12_notMore_15 ?_
  refine A_imul X dX12_notMore_16 ?_
  refine A_iconst X dX12_notMore_17 (z := 1) (by decide) ?_
  refine A_iadd X dX12_notMore_18 ?_
  refine A_iconst X dX12_notMore_19 (z := 2) (by decide) ?_
  refine A_iload_n X 2 rfl rfl dX12_notMore_20 ?_
  refine A_imul X dX12_notMore_21 ?_
  refine A_lload_n X 3 rfl rfl dX12_notMore_22 ?_
  obtain ⟨v4, s5, e6, h⟩ := clD h
  refine A_callV_V (na := 3) X (m_X12_bound e6) gX12_notMore_X12_bound rfl ⟨rfl, rfl⟩ (by decide +kernel) rfl ⟨Nat.le_of_ble_eq_true rfl, Nat.le_of_ble_eq_true rfl⟩ shM_0 (by decide) rfl rfl (Nat.le_of_ble_eq_true rfl) dX12_notMore_23 ?_
  exact A_return X E h dX12_notMore_26

