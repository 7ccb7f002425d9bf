abbrev rm_X0_add : Room := { frames := 0, cells := 0, slots := 0, locals := 0 }
theorem in_X0_add_0 : ∀ w ∈ u_ws RX0 TX0 4, w ∈ wsX0_add := fun w h => List.mem_cons_of_mem _ (List.mem_append_right _ h)
theorem fg_X0_add_21 : aFl wsX0_add RX0 21 0 3 := ⟨RX0, TX0, 4, rfl, in_X0_add_0, by decide, (List.mem_of_getElem? (i := 1) rfl), rfl⟩
theorem fg_X0_add_9 : aFl wsX0_add RX0 9 0 0 := ⟨RX0, TX0, 4, rfl, in_X0_add_0, by decide, (List.mem_of_getElem? (i := 2) rfl), rfl⟩
theorem fg_X0_add_15 : aFl wsX0_add RX0 15 0 1 := ⟨RX0, TX0, 4, rfl, in_X0_add_0, by decide, (List.mem_of_getElem? (i := 3) rfl), rfl⟩
theorem fg_X0_add_18 : aFl wsX0_add RX0 18 0 2 := ⟨RX0, TX0, 4, rfl, in_X0_add_0, by decide, (List.mem_of_getElem? (i := 4) rfl), rfl⟩
theorem fp_X0_add_21 : aFp wsX0_add RX0 21 0 3 .int := ⟨RX0, TX0, 4, tyX0, rfl, in_X0_add_0, by decide, (List.mem_of_getElem? (i := 1) rfl), rfl, tyX0_ok, nmX0, rfl, rfl⟩
set_option maxRecDepth 100000 in
set_option maxHeartbeats 4000000 in
theorem m_X0_add {l : Launch} {g : aG} {a1 : Int} {a2 : Int} {σ : Hp} {r : Int × Hp} (h : F_Acts_add a1 a2 σ = some r) : aMet l g shC yX0_add wsX0_add rm_X0_add [vR 46, vI a1, vI a2] σ 0 r := by
  unfold F_Acts_add at h
  refine aMet_of (bytes := cX0_add) (maxL := 3) (ret := (some .int)) (by decide +kernel) rfl (Nat.le_of_ble_eq_true rfl) ⟨rfl, rfl⟩ (fun x e1 e2 X E => ?_)
  subst e1; subst e2
  have X : aX x cX0_add wsX0_add RX0 3 rm_X0_add := X
  show aS x shC 3 0 [(0, vR 46), (1, vI a1), (2, vI a2)] [] σ
  refine A_aload_n X 0 rfl rfl dX0_add_0 ?_
  refine A_getI X fg_X0_add_21 shC_46 (k := 3) rfl (by decide) dX0_add_1 ?_
  refine A_sipush X dX0_add_4 (z := 200) (by decide) ?_
  refine A_icmp_lt X (tgt := 12) (by decide) dX0_add_7 (fun c1 => ?_) (fun c1 => ?_)
  · replace h := ifT h c1
    refine A_aload_n X 0 rfl rfl dX0_add_12 ?_
    refine A_getR X fg_X0_add_9 shC_46 (k := 0) rfl (by decide) dX0_add_13 ?_
    refine A_aload_n X 0 rfl rfl dX0_add_16 ?_
    refine A_getI X fg_X0_add_21 shC_46 (k := 3) rfl (by decide) dX0_add_17 ?_
    refine A_iload_n X 1 rfl rfl dX0_add_20 ?_
    obtain ⟨g2, h⟩ := gdD h
    refine A_iast X g2 shC_47 dX0_add_21 (fun s3 hy => ?_)
    replace h := ltD h s3 hy
    clear hy
    refine A_aload_n X 0 rfl rfl dX0_add_22 ?_
    refine A_getR X fg_X0_add_15 shC_46 (k := 1) rfl (by decide) dX0_add_23 ?_
    refine A_aload_n X 0 rfl rfl dX0_add_26 ?_
    refine A_getI X fg_X0_add_21 shC_46 (k := 3) rfl (by decide) dX0_add_27 ?_
    refine A_iload_n X 2 rfl rfl dX0_add_30 ?_
    obtain ⟨g4, h⟩ := gdD h
    refine A_iast X g4 shC_48 dX0_add_31 (fun s5 hy => ?_)
    replace h := ltD h s5 hy
    clear hy
    refine A_aload_n X 0 rfl rfl dX0_add_32 ?_
    refine A_getR X fg_X0_add_18 shC_46 (k := 2) rfl (by decide) dX0_add_33 ?_
    refine A_aload_n X 0 rfl rfl dX0_add_36 ?_
    refine A_getI X fg_X0_add_21 shC_46 (k := 3) rfl (by decide) dX0_add_37 ?_
    refine A_iconst X dX0_add_40 (z := 0) (by decide) ?_
    obtain ⟨g6, h⟩ := gdD h
    refine A_iast X g6 shC_49 dX0_add_41 (fun s7 hy => ?_)
    replace h := ltD h s7 hy
    clear hy
    refine A_aload_n X 0 rfl rfl dX0_add_42 ?_
    refine A_dup X (by show ¬ (2 : Nat) = 1; decide) dX0_add_43 ?_
    refine A_getI X fg_X0_add_21 shC_46 (k := 3) rfl (by decide) dX0_add_44 ?_
    refine A_iconst X dX0_add_47 (z := 1) (by decide) ?_
    refine A_iadd X dX0_add_48 ?_
    refine A_putI X fp_X0_add_21 shC_46 (k := 3) rfl (by decide) dX0_add_49 (fun s8 hy => ?_)
    replace h := ltD h s8 hy
    clear hy
    refine A_aload_n X 0 rfl rfl dX0_add_52 ?_
    refine A_getI X fg_X0_add_21 shC_46 (k := 3) rfl (by decide) dX0_add_53 ?_
    exact A_ireturn X E h dX0_add_56
  · replace h := ifF h c1
    refine A_iconst X dX0_add_10 (z := (-1)) (by decide) ?_
    exact A_ireturn X E h dX0_add_11
abbrev rm_X0_annulled : Room := { frames := 1, cells := 0, slots := 0, locals := 22 }
theorem in_X0_annulled_0 : ∀ w ∈ u_ws RX0 TX0 4, w ∈ wsX0_annulled := fun w h => List.mem_cons_of_mem _ (List.mem_append_right _ h)
theorem fg_X0_annulled_21 : aFl wsX0_annulled RX0 21 0 3 := ⟨RX0, TX0, 4, rfl, in_X0_annulled_0, by decide, (List.mem_of_getElem? (i := 1) rfl), rfl⟩
theorem fg_X0_annulled_9 : aFl wsX0_annulled RX0 9 0 0 := ⟨RX0, TX0, 4, rfl, in_X0_annulled_0, by decide, (List.mem_of_getElem? (i := 2) rfl), rfl⟩
theorem fg_X0_annulled_18 : aFl wsX0_annulled RX0 18 0 2 := ⟨RX0, TX0, 4, rfl, in_X0_annulled_0, by decide, (List.mem_of_getElem? (i := 3) rfl), rfl⟩
set_option maxRecDepth 100000 in
set_option maxHeartbeats 4000000 in
theorem w_X0_annulled_36 {x : aC} {r : Int × Hp} {a1 : Int} (X : aX x cX0_annulled wsX0_annulled RX0 3 rm_X0_annulled) (E : aE x shC (some .int) 0 r) (σ : Hp) (h : F_Acts_annulled_36 a1 σ = some r) : aS x shC 3 36 [] [] σ := by
  unfold F_Acts_annulled_36 at h
  refine A_iconst X dX0_annulled_36 (z := (-1)) (by decide) ?_
  exact A_ireturn X E h dX0_annulled_37
set_option maxRecDepth 100000 in
set_option maxHeartbeats 4000000 in
theorem w_X0_annulled_59 {x : aC} {r : Int × Hp} {a1 : Int} (X : aX x cX0_annulled wsX0_annulled RX0 3 rm_X0_annulled) (E : aE x shC (some .int) 0 r) (x2 : Int) (σ : Hp) (h : F_Acts_annulled_59 a1 x2 σ = some r) : aS x shC 3 59 [(2, vI x2)] [] σ := by
  unfold F_Acts_annulled_59 at h
  refine A_iload_n X 0 rfl rfl dX0_annulled_59 ?_
  exact A_ireturn X E h dX0_annulled_60
set_option maxRecDepth 100000 in
set_option maxHeartbeats 4000000 in
theorem m_X0_annulled {l : Launch} {g : aG} {a1 : Int} {σ : Hp} {r : Int × Hp} (h : F_Acts_annulled a1 σ = some r) : aMet l g shC yX0_annulled wsX0_annulled rm_X0_annulled [vR 46, vI a1] σ 0 r := by
  unfold F_Acts_annulled at h
  refine aMet_of (bytes := cX0_annulled) (maxL := 3) (ret := (some .int)) (by decide +kernel) rfl (Nat.le_of_ble_eq_true rfl) ⟨rfl, rfl⟩ (fun x e1 e2 X E => ?_)
  subst e1; subst e2
  have X : aX x cX0_annulled wsX0_annulled RX0 3 rm_X0_annulled := X
  show aS x shC 3 0 [(0, vR 46), (1, vI a1)] [] σ
  refine A_iload_n X 1 rfl rfl dX0_annulled_0 ?_
  refine A_iconst X dX0_annulled_1 (z := 1) (by decide) ?_
  refine A_icmp_lt X (tgt := 36) (by decide) dX0_annulled_2 (fun c1 => ?_) (fun c1 => ?_)
  · replace h := ifT h c1
    refine A_sub [] rfl (L' := []) rfl ?_
    exact w_X0_annulled_36 (a1 := a1) X E σ h
  · replace h := ifF h c1
    refine A_iload_n X 1 rfl rfl dX0_annulled_5 ?_
    refine A_aload_n X 0 rfl rfl dX0_annulled_6 ?_
    refine A_getI X fg_X0_annulled_21 shC_46 (k := 3) rfl (by decide) dX0_annulled_7 ?_
    refine A_icmp_gt X (tgt := 36) (by decide) dX0_annulled_10 (fun c2 => ?_) (fun c2 => ?_)
    · replace h := ifT h c2
      refine A_sub [] rfl (L' := []) rfl ?_
      exact w_X0_annulled_36 (a1 := a1) X E σ h
    · replace h := ifF h c2
      refine A_aload_n X 0 rfl rfl dX0_annulled_13 ?_
      refine A_getR X fg_X0_annulled_9 shC_46 (k := 0) rfl (by decide) dX0_annulled_14 ?_
      refine A_iload_n X 1 rfl rfl dX0_annulled_17 ?_
      refine A_iconst X dX0_annulled_18 (z := 1) (by decide) ?_
      refine A_isub X dX0_annulled_19 ?_
      obtain ⟨g3, h⟩ := gdD h
      refine A_iald X g3 shC_47 dX0_annulled_20 ?_
      refine A_iconst X dX0_annulled_21 (z := (-1)) (by decide) ?_
      refine A_icmp_eq X (tgt := 36) (by decide) dX0_annulled_22 (fun c4 => ?_) (fun c4 => ?_)
      · replace h := ifT h c4
        refine A_sub [] rfl (L' := []) rfl ?_
        exact w_X0_annulled_36 (a1 := a1) X E σ h
      · replace h := ifF h c4
        refine A_aload_n X 0 rfl rfl dX0_annulled_25 ?_
        refine A_getR X fg_X0_annulled_18 shC_46 (k := 2) rfl (by decide) dX0_annulled_26 ?_
        refine A_iload_n X 1 rfl rfl dX0_annulled_29 ?_
        refine A_iconst X dX0_annulled_30 (z := 1) (by decide) ?_
        refine A_isub X dX0_annulled_31 ?_
        obtain ⟨g5, h⟩ := gdD h
        refine A_iald X g5 shC_49 dX0_annulled_32 ?_
        refine A_if_eq X (tgt := 38) (by decide) dX0_annulled_33 (fun c6 => ?_) (fun c6 => ?_)
        · replace h := ifT h c6
          refine A_aload_n X 0 rfl rfl dX0_annulled_38 ?_
          refine A_iconst X dX0_annulled_39 (z := (-1)) (by decide) ?_
          refine A_iconst X dX0_annulled_40 (z := 0) (by decide) ?_
          obtain ⟨v7, s8, e9, h⟩ := clD h
          refine A_callV_I (na := 2) X (m_X0_add e9) gX0_annulled_X0_add rfl ⟨rfl, rfl⟩ (by decide +kernel) rfl ⟨Nat.le_of_ble_eq_true rfl, Nat.le_of_ble_eq_true rfl⟩ shC_46 (by decide) rfl rfl (Nat.le_of_ble_eq_true rfl) dX0_annulled_41 ?_
          refine A_istore_n X (L' := [(2, vI v7), (0, vR 46), (1, vI a1)]) rfl (by decide) rfl dX0_annulled_44 ?_
          refine A_iload_n X 0 rfl rfl dX0_annulled_45 ?_
          refine A_iconst X dX0_annulled_46 (z := (-1)) (by decide) ?_
          refine A_icmp_eq X (tgt := 59) (by decide) dX0_annulled_47 (fun c10 => ?_) (fun c10 => ?_)
          · replace h := ifT h c10
            refine A_sub [0] rfl (L' := [(2, vI v7)]) rfl ?_
            exact w_X0_annulled_59 (a1 := a1) X E v7 s8 h
          · replace h := ifF h c10
            refine A_aload_n X 1 rfl rfl dX0_annulled_50 ?_
            refine A_getR X fg_X0_annulled_18 shC_46 (k := 2) rfl (by decide) dX0_annulled_51 ?_
            refine A_iload_n X 2 rfl rfl dX0_annulled_54 ?_
            refine A_iconst X dX0_annulled_55 (z := 1) (by decide) ?_
            refine A_isub X dX0_annulled_56 ?_
            refine A_iload_n X 0 rfl rfl dX0_annulled_57 ?_
            obtain ⟨g11, h⟩ := gdD h
            refine A_iast X g11 shC_49 dX0_annulled_58 (fun s12 hy => ?_)
            replace h := ltD h s12 hy
            clear hy
            refine A_sub [0] rfl (L' := [(2, vI v7)]) rfl ?_
            exact w_X0_annulled_59 (a1 := a1) X E v7 s12 h
        · replace h := ifF h c6
          refine A_sub [] rfl (L' := []) rfl ?_
          exact w_X0_annulled_36 (a1 := a1) X E σ h
abbrev rm_X0_clear : Room := { frames := 0, cells := 0, slots := 0, locals := 0 }
theorem in_X0_clear_0 : ∀ w ∈ u_ws RX0 TX0 4, w ∈ wsX0_clear := fun w h => List.mem_cons_of_mem _ (List.mem_append_right _ h)
theorem fp_X0_clear_21 : aFp wsX0_clear RX0 21 0 3 .int := ⟨RX0, TX0, 4, tyX0, rfl, in_X0_clear_0, by decide, (List.mem_of_getElem? (i := 1) rfl), rfl, tyX0_ok, nmX0, rfl, rfl⟩
set_option maxRecDepth 100000 in
set_option maxHeartbeats 4000000 in
theorem m_X0_clear {l : Launch} {g : aG} {σ : Hp} {r : Int × Hp} (h : F_Acts_clear σ = some r) : aMet l g shC yX0_clear wsX0_clear rm_X0_clear [vR 46] σ 3 r := by
  unfold F_Acts_clear at h
  refine aMet_of (bytes := cX0_clear) (maxL := 1) (ret := none) (by decide +kernel) rfl (Nat.le_of_ble_eq_true rfl) ⟨rfl, rfl⟩ (fun x e1 e2 X E => ?_)
  subst e1; subst e2
  have X : aX x cX0_clear wsX0_clear RX0 1 rm_X0_clear := X
  show aS x shC 1 0 [(0, vR 46)] [] σ
  refine A_aload_n X 0 rfl rfl dX0_clear_0 ?_
  refine A_iconst X dX0_clear_1 (z := 0) (by decide) ?_
  refine A_putI X fp_X0_clear_21 shC_46 (k := 3) rfl (by decide) dX0_clear_2 (fun s1 hy => ?_)
  replace h := ltD h s1 hy
  clear hy
  exact A_return X E h dX0_clear_5
abbrev rm_X0_knownWorth : Room := { frames := 1, cells := 0, slots := 0, locals := 23 }
theorem in_X0_knownWorth_0 : ∀ w ∈ u_ws RX0 TX0 4, w ∈ wsX0_knownWorth := fun w h => List.mem_cons_of_mem _ (List.mem_append_right _ h)
theorem fg_X0_knownWorth_9 : aFl wsX0_knownWorth RX0 9 0 0 := ⟨RX0, TX0, 4, rfl, in_X0_knownWorth_0, by decide, (List.mem_of_getElem? (i := 7) rfl), rfl⟩
theorem fg_X0_knownWorth_15 : aFl wsX0_knownWorth RX0 15 0 1 := ⟨RX0, TX0, 4, rfl, in_X0_knownWorth_0, by decide, (List.mem_of_getElem? (i := 8) rfl), rfl⟩
theorem fg_X0_knownWorth_18 : aFl wsX0_knownWorth RX0 18 0 2 := ⟨RX0, TX0, 4, rfl, in_X0_knownWorth_0, by decide, (List.mem_of_getElem? (i := 6) rfl), rfl⟩
theorem fg_X0_knownWorth_21 : aFl wsX0_knownWorth RX0 21 0 3 := ⟨RX0, TX0, 4, rfl, in_X0_knownWorth_0, by decide, (List.mem_of_getElem? (i := 1) rfl), rfl⟩
set_option maxRecDepth 100000 in
set_option maxHeartbeats 4000000 in
theorem w_X0_knownWorth_63 {x : aC} {r : Int × Hp} {k11 : Int × Hp → Option (Int × Hp)} {a1 : Int} {a2 : Int} (X : aX x cX0_knownWorth wsX0_knownWorth RX0 5 rm_X0_knownWorth) (E : aE x shC (some .int) 0 r) (hk11 : ∀ (x3 : Int) (σ : Hp), k11 (x3, σ) = some r → aS x shC 5 11 [(0, vR 46), (1, vI a1), (2, vI a2), (3, vI x3)] [] σ) (x3 : Int) (σ : Hp) (h : F_Acts_knownWorth_63 k11 a1 a2 x3 σ = some r) : aS x shC 5 63 [(0, vR 46), (1, vI a1), (2, vI a2), (3, vI x3)] [] σ := by
  unfold F_Acts_knownWorth_63 at h
  refine A_iinc X (L' := fun y3_1 => [(3, vI y3_1), (0, vR 46), (1, vI a1), (2, vI a2)]) 3 rfl (by decide) (fun _ => rfl) dX0_knownWorth_63 (by decide) (fun y3_1 hy => ?_)
  replace h := ltD h y3_1 hy
  clear hy
  refine A_goto X (tgt := 11) (by decide) dX0_knownWorth_66 ?_
  refine A_sub [1, 2, 3, 0] rfl (L' := [(0, vR 46), (1, vI a1), (2, vI a2), (3, vI y3_1)]) rfl ?_
  exact hk11 y3_1 σ h
set_option maxRecDepth 100000 in
set_option maxHeartbeats 4000000 in
theorem w_X0_knownWorth_39 {x : aC} {r : Int × Hp} {k11 : Int × Hp → Option (Int × Hp)} {a1 : Int} {a2 : Int} (X : aX x cX0_knownWorth wsX0_knownWorth RX0 5 rm_X0_knownWorth) (E : aE x shC (some .int) 0 r) (hk11 : ∀ (x3 : Int) (σ : Hp), k11 (x3, σ) = some r → aS x shC 5 11 [(0, vR 46), (1, vI a1), (2, vI a2), (3, vI x3)] [] σ) (x3 : Int) (t1 : Int) (σ : Hp) (h : F_Acts_knownWorth_39 k11 a1 a2 x3 t1 σ = some r) : aS x shC 5 39 [(0, vR 46), (1, vI a1), (2, vI a2), (3, vI x3)] [vI t1] σ := by
  unfold F_Acts_knownWorth_39 at h
  refine A_istore X (L' := [(4, vI t1), (0, vR 46), (1, vI a1), (2, vI a2), (3, vI x3)]) (by decide) rfl dX0_knownWorth_39 ?_
  refine A_aload_n X 1 rfl rfl dX0_knownWorth_41 ?_
  refine A_getR X fg_X0_knownWorth_9 shC_46 (k := 0) rfl (by decide) dX0_knownWorth_42 ?_
  refine A_iload_n X 4 rfl rfl dX0_knownWorth_45 ?_
  obtain ⟨g2, h⟩ := gdD h
  refine A_iald X g2 shC_47 dX0_knownWorth_46 ?_
  refine A_iload_n X 2 rfl rfl dX0_knownWorth_47 ?_
  refine A_icmp_ne X (tgt := 63) (by decide) dX0_knownWorth_48 (fun c3 => ?_) (fun c3 => ?_)
  · replace h := ifF h c3
    refine A_sub [1, 2, 3, 4] rfl (L' := [(0, vR 46), (1, vI a1), (2, vI a2), (3, vI x3)]) rfl ?_
    exact w_X0_knownWorth_63 (a1 := a1) (a2 := a2) X E hk11 x3 σ h
  · replace h := ifT h c3
    refine A_iload X 0 rfl dX0_knownWorth_51 ?_
    refine A_if_ne X (tgt := 63) (by decide) dX0_knownWorth_53 (fun c4 => ?_) (fun c4 => ?_)
    · replace h := ifF h c4
      refine A_sub [1, 2, 3, 4] rfl (L' := [(0, vR 46), (1, vI a1), (2, vI a2), (3, vI x3)]) rfl ?_
      exact w_X0_knownWorth_63 (a1 := a1) (a2 := a2) X E hk11 x3 σ h
    · replace h := ifT h c4
      refine A_aload_n X 1 rfl rfl dX0_knownWorth_56 ?_
      refine A_getR X fg_X0_knownWorth_15 shC_46 (k := 1) rfl (by decide) dX0_knownWorth_57 ?_
      refine A_iload_n X 4 rfl rfl dX0_knownWorth_60 ?_
      obtain ⟨g5, h⟩ := gdD h
      refine A_iald X g5 shC_48 dX0_knownWorth_61 ?_
      exact A_ireturn X E h dX0_knownWorth_62
set_option maxRecDepth 100000 in
set_option maxHeartbeats 4000000 in
theorem w_X0_knownWorth_38 {x : aC} {r : Int × Hp} {k11 : Int × Hp → Option (Int × Hp)} {a1 : Int} {a2 : Int} (X : aX x cX0_knownWorth wsX0_knownWorth RX0 5 rm_X0_knownWorth) (E : aE x shC (some .int) 0 r) (hk11 : ∀ (x3 : Int) (σ : Hp), k11 (x3, σ) = some r → aS x shC 5 11 [(0, vR 46), (1, vI a1), (2, vI a2), (3, vI x3)] [] σ) (x3 : Int) (σ : Hp) (h : F_Acts_knownWorth_38 k11 a1 a2 x3 σ = some r) : aS x shC 5 38 [(0, vR 46), (1, vI a1), (2, vI a2), (3, vI x3)] [] σ := by
  unfold F_Acts_knownWorth_38 at h
  refine A_iconst X dX0_knownWorth_38 (z := 0) (by decide) ?_
  exact w_X0_knownWorth_39 (a1 := a1) (a2 := a2) X E hk11 x3 0 σ h
set_option maxRecDepth 100000 in
set_option maxHeartbeats 4000000 in
theorem w_X0_knownWorth_11_b {x : aC} {r : Int × Hp} {k11 : Int × Hp → Option (Int × Hp)} {a1 : Int} {a2 : Int} (X : aX x cX0_knownWorth wsX0_knownWorth RX0 5 rm_X0_knownWorth) (E : aE x shC (some .int) 0 r) (hk11 : ∀ (x3 : Int) (σ : Hp), k11 (x3, σ) = some r → aS x shC 5 11 [(0, vR 46), (1, vI a1), (2, vI a2), (3, vI x3)] [] σ) (x3 : Int) (σ : Hp) (h : F_Acts_knownWorth_11_b k11 a1 a2 x3 σ = some r) : aS x shC 5 11 [(0, vR 46), (1, vI a1), (2, vI a2), (3, vI x3)] [] σ := by
  unfold F_Acts_knownWorth_11_b at h
  refine A_iload_n X 3 rfl rfl dX0_knownWorth_11 ?_
  refine A_if_lt X (tgt := 69) (by decide) dX0_knownWorth_12 (fun c6 => ?_) (fun c6 => ?_)
  · replace h := ifT h c6
    refine A_bipush X dX0_knownWorth_69 (z := (-2)) (by decide) ?_
    exact A_ireturn X E h dX0_knownWorth_71
  · replace h := ifF h c6
    refine A_aload_n X 0 rfl rfl dX0_knownWorth_15 ?_
    refine A_getR X fg_X0_knownWorth_18 shC_46 (k := 2) rfl (by decide) dX0_knownWorth_16 ?_
    refine A_iload_n X 3 rfl rfl dX0_knownWorth_19 ?_
    obtain ⟨g7, h⟩ := gdD h
    refine A_iald X g7 shC_49 dX0_knownWorth_20 ?_
    refine A_if_eq X (tgt := 38) (by decide) dX0_knownWorth_21 (fun c8 => ?_) (fun c8 => ?_)
    · replace h := ifT h c8
      exact w_X0_knownWorth_38 (a1 := a1) (a2 := a2) X E hk11 x3 σ h
    · replace h := ifF h c8
      refine A_aload_n X 0 rfl rfl dX0_knownWorth_24 ?_
      refine A_getR X fg_X0_knownWorth_18 shC_46 (k := 2) rfl (by decide) dX0_knownWorth_25 ?_
      refine A_iload_n X 3 rfl rfl dX0_knownWorth_28 ?_
      obtain ⟨g9, h⟩ := gdD h
      refine A_iald X g9 shC_49 dX0_knownWorth_29 ?_
      refine A_iload_n X 2 rfl rfl dX0_knownWorth_30 ?_
      refine A_icmp_gt X (tgt := 38) (by decide) dX0_knownWorth_31 (fun c10 => ?_) (fun c10 => ?_)
      · replace h := ifT h c10
        exact w_X0_knownWorth_38 (a1 := a1) (a2 := a2) X E hk11 x3 σ h
      · replace h := ifF h c10
        refine A_iconst X dX0_knownWorth_34 (z := 1) (by decide) ?_
        refine A_goto X (tgt := 39) (by decide) dX0_knownWorth_35 ?_
        exact w_X0_knownWorth_39 (a1 := a1) (a2 := a2) X E hk11 x3 1 σ h
set_option maxRecDepth 100000 in
set_option maxHeartbeats 4000000 in
theorem w_X0_knownWorth_11 {x : aC} {r : Int × Hp} {a1 : Int} {a2 : Int} (X : aX x cX0_knownWorth wsX0_knownWorth RX0 5 rm_X0_knownWorth) (E : aE x shC (some .int) 0 r) : ∀ (n : Nat) (x3 : Int) (σ : Hp) (h : F_Acts_knownWorth_11 a1 a2 n (x3, σ) = some r), aS x shC 5 11 [(0, vR 46), (1, vI a1), (2, vI a2), (3, vI x3)] [] σ := by
  intro n
  induction n with
  | zero => intro x3 σ h; cases h
  | succ n ih => intro x3 σ h; exact w_X0_knownWorth_11_b (a1 := a1) (a2 := a2) (k11 := F_Acts_knownWorth_11 a1 a2 n) X E ih x3 σ h
set_option maxRecDepth 100000 in
set_option maxHeartbeats 4000000 in
theorem m_X0_knownWorth {l : Launch} {g : aG} {a1 : Int} {a2 : Int} {σ : Hp} {r : Int × Hp} (h : F_Acts_knownWorth a1 a2 σ = some r) : aMet l g shC yX0_knownWorth wsX0_knownWorth rm_X0_knownWorth [vR 46, vI a1, vI a2] σ 0 r := by
  unfold F_Acts_knownWorth at h
  refine aMet_of (bytes := cX0_knownWorth) (maxL := 5) (ret := (some .int)) (by decide +kernel) rfl (Nat.le_of_ble_eq_true rfl) ⟨rfl, rfl⟩ (fun x e1 e2 X E => ?_)
  subst e1; subst e2
  have X : aX x cX0_knownWorth wsX0_knownWorth RX0 5 rm_X0_knownWorth := X
  show aS x shC 5 0 [(0, vR 46), (1, vI a1), (2, vI a2)] [] σ
  refine A_iload_n X 2 rfl rfl dX0_knownWorth_0 ?_
  refine A_aload_n X 0 rfl rfl dX0_knownWorth_1 ?_
  refine A_getI X fg_X0_knownWorth_21 shC_46 (k := 3) rfl (by decide) dX0_knownWorth_2 ?_
  refine A_mmin X (List.mem_of_getElem? (i := 2) rfl) (List.mem_of_getElem? (i := 3) rfl) (List.mem_of_getElem? (i := 4) rfl) (List.mem_of_getElem? (i := 5) rfl) (Nat.le_of_ble_eq_true rfl) (Nat.le_of_ble_eq_true rfl) dX0_knownWorth_5 ?_
  refine A_iconst X dX0_knownWorth_8 (z := 1) (by decide) ?_
  refine A_isub X dX0_knownWorth_9 ?_
  refine A_istore_nN X (L' := fun y3_11 => [(3, vI y3_11), (0, vR 46), (1, vI a1), (2, vI a2)]) rfl (by decide) (fun _ => rfl) dX0_knownWorth_10 (fun y3_11 hy => ?_)
  replace h := ltD h y3_11 hy
  clear hy
  refine A_sub [1, 2, 3, 0] rfl (L' := [(0, vR 46), (1, vI a1), (2, vI a2), (3, vI y3_11)]) rfl ?_
  exact w_X0_knownWorth_11 (a1 := a1) (a2 := a2) X E FU y3_11 σ h
abbrev rm_X10_gainOf : Room := { frames := 0, cells := 0, slots := 0, locals := 0 }
theorem in_X10_gainOf_10 : ∀ w ∈ u_ws RX10 TX10 3, w ∈ wsX10_gainOf := fun w h => List.mem_cons_of_mem _ (List.mem_append_left _ (List.mem_append_right _ h))
theorem fg_X10_gainOf_15 : aFl wsX10_gainOf RX10 15 10 1 := ⟨RX10, TX10, 3, rfl, in_X10_gainOf_10, by decide, (List.mem_of_getElem? (i := 1) rfl), rfl⟩
theorem fg_X10_gainOf_19 : aFl wsX10_gainOf RX10 19 10 2 := ⟨RX10, TX10, 3, rfl, in_X10_gainOf_10, by decide, (List.mem_of_getElem? (i := 2) rfl), rfl⟩
theorem in_X10_gainOf_6 : ∀ w ∈ u_ws RX6 TX6 20, w ∈ wsX10_gainOf := fun w h => List.mem_cons_of_mem _ (List.mem_append_right _ h)
theorem fg_X10_gainOf_41 : aFl wsX10_gainOf RX10 41 6 1 := ⟨RX6, TX6, 20, rfl, in_X10_gainOf_6, by decide, (List.mem_of_getElem? (i := 3) rfl), rfl⟩
theorem fg_X10_gainOf_44 : aFl wsX10_gainOf RX10 44 6 2 := ⟨RX6, TX6, 20, rfl, in_X10_gainOf_6, by decide, (List.mem_of_getElem? (i := 4) rfl), rfl⟩
theorem fg_X10_gainOf_47 : aFl wsX10_gainOf RX10 47 6 3 := ⟨RX6, TX6, 20, rfl, in_X10_gainOf_6, by decide, (List.mem_of_getElem? (i := 5) rfl), rfl⟩
set_option maxRecDepth 100000 in
set_option maxHeartbeats 4000000 in
theorem m_X10_gainOf {l : Launch} {g : aG} {a1 : Int} {σ : Hp} {r : Int × Hp} (h : F_View_gainOf a1 σ = some r) : aMet l g shC yX10_gainOf wsX10_gainOf rm_X10_gainOf [vR 88, vI a1] σ 0 r := by
  unfold F_View_gainOf at h
  refine aMet_of (bytes := cX10_gainOf) (maxL := 2) (ret := (some .int)) (by decide +kernel) rfl (Nat.le_of_ble_eq_true rfl) ⟨rfl, rfl⟩ (fun x e1 e2 X E => ?_)
  subst e1; subst e2
  have X : aX x cX10_gainOf wsX10_gainOf RX10 2 rm_X10_gainOf := X
  show aS x shC 2 0 [(0, vR 88), (1, vI a1)] [] σ
  refine A_aload_n X 0 rfl rfl dX10_gainOf_0 ?_
  refine A_getR X fg_X10_gainOf_15 shC_88 (k := 1) rfl (by decide) dX10_gainOf_1 ?_
  refine A_iload_n X 1 rfl rfl dX10_gainOf_4 ?_
  obtain ⟨g1, h⟩ := gdD h
  refine A_iald X g1 shC_90 dX10_gainOf_5 ?_
  refine A_aload_n X 0 rfl rfl dX10_gainOf_6 ?_
  refine A_getV X fg_X10_gainOf_19 shC_88 (k := 2) rfl (by decide) dX10_gainOf_7 ?_
  obtain ⟨q2, hy⟩ : ∃ y, y = (σ 88 2).toNat := ⟨_, rfl⟩
  replace h := ltD h q2 hy
  rw [← hy]
  clear hy
  obtain ⟨g3, h⟩ := gdD h
  refine A_getR X fg_X10_gainOf_41 (shNet g3) (k := 1) rfl (by decide) dX10_gainOf_10 ?_
  refine A_aload_n X 0 rfl rfl dX10_gainOf_13 ?_
  refine A_getV X fg_X10_gainOf_19 shC_88 (k := 2) rfl (by decide) dX10_gainOf_14 ?_
  obtain ⟨q4, hy⟩ : ∃ y, y = (σ 88 2).toNat := ⟨_, rfl⟩
  replace h := ltD h q4 hy
  rw [← hy]
  clear hy
  obtain ⟨g5, h⟩ := gdD h
  refine A_getR X fg_X10_gainOf_44 (shNet g5) (k := 2) rfl (by decide) dX10_gainOf_17 ?_
  refine A_iload_n X 1 rfl rfl dX10_gainOf_20 ?_
  obtain ⟨g6, h⟩ := gdD h
  refine A_iald X g6 (shNet_first g5) dX10_gainOf_21 ?_
  obtain ⟨g7, h⟩ := gdD h
  refine A_iald X g7 (shNet_alone g3) dX10_gainOf_22 ?_
  refine A_isub X dX10_gainOf_23 ?_
  refine A_aload_n X 0 rfl rfl dX10_gainOf_24 ?_
  refine A_getV X fg_X10_gainOf_19 shC_88 (k := 2) rfl (by decide) dX10_gainOf_25 ?_
  obtain ⟨q8, hy⟩ : ∃ y, y = (σ 88 2).toNat := ⟨_, rfl⟩
  replace h := ltD h q8 hy
  rw [← hy]
  clear hy
  obtain ⟨g9, h⟩ := gdD h
  refine A_getR X fg_X10_gainOf_41 (shNet g9) (k := 1) rfl (by decide) dX10_gainOf_28 ?_
  refine A_aload_n X 0 rfl rfl dX10_gainOf_31 ?_
  refine A_getV X fg_X10_gainOf_19 shC_88 (k := 2) rfl (by decide) dX10_gainOf_32 ?_
  obtain ⟨q10, hy⟩ : ∃ y, y = (σ 88 2).toNat := ⟨_, rfl⟩
  replace h := ltD h q10 hy
  rw [← hy]
  clear hy
  obtain ⟨g11, h⟩ := gdD h
  refine A_getR X fg_X10_gainOf_47 (shNet g11) (k := 3) rfl (by decide) dX10_gainOf_35 ?_
  refine A_iload_n X 1 rfl rfl dX10_gainOf_38 ?_
  obtain ⟨g12, h⟩ := gdD h
  refine A_iald X g12 (shNet_second g11) dX10_gainOf_39 ?_
  obtain ⟨g13, h⟩ := gdD h
  refine A_iald X g13 (shNet_alone g9) dX10_gainOf_40 ?_
  refine A_isub X dX10_gainOf_41 ?_
  exact A_ireturn X E h dX10_gainOf_42
abbrev rm_X6_push : Room := { frames := 0, cells := 0, slots := 0, locals := 0 }
theorem in_X6_push_6 : ∀ w ∈ u_ws RX6 TX6 20, w ∈ wsX6_push := fun w h => List.mem_cons_of_mem _ (List.mem_append_right _ h)
theorem fg_X6_push_96 : aFl wsX6_push RX6 96 6 13 := ⟨RX6, TX6, 20, rfl, in_X6_push_6, by decide, (List.mem_of_getElem? (i := 1) rfl), rfl⟩
theorem fg_X6_push_51 : aFl wsX6_push RX6 51 6 12 := ⟨RX6, TX6, 20, rfl, in_X6_push_6, by decide, (List.mem_of_getElem? (i := 2) rfl), rfl⟩
theorem fp_X6_push_96 : aFp wsX6_push RX6 96 6 13 .int := ⟨RX6, TX6, 20, tyX6, rfl, in_X6_push_6, by decide, (List.mem_of_getElem? (i := 1) rfl), rfl, tyX6_ok, nmX6, rfl, rfl⟩
set_option maxRecDepth 100000 in
set_option maxHeartbeats 4000000 in
theorem w_X6_push_29 {x : aC} {r : Int × Hp} {this : Nat} {a1 : Int} (X : aX x cX6_push wsX6_push RX6 2 rm_X6_push) (E : aE x shC none 3 r) (ht : isNet this) (σ : Hp) (h : F_Net_push_29 this a1 σ = some r) : aS x shC 2 29 [] [] σ := by
  unfold F_Net_push_29 at h
  exact A_return X E h dX6_push_29
set_option maxRecDepth 100000 in
set_option maxHeartbeats 4000000 in
theorem m_X6_push {l : Launch} {g : aG} {this : Nat} {a1 : Int} {σ : Hp} {r : Int × Hp} (h : F_Net_push this a1 σ = some r) : aMet l g shC yX6_push wsX6_push rm_X6_push [vR this, vI a1] σ 3 r := by
  unfold F_Net_push at h
  obtain ⟨ht, h⟩ := gdD h
  refine aMet_of (bytes := cX6_push) (maxL := 2) (ret := none) (by decide +kernel) rfl (Nat.le_of_ble_eq_true rfl) ⟨rfl, rfl⟩ (fun x e1 e2 X E => ?_)
  subst e1; subst e2
  have X : aX x cX6_push wsX6_push RX6 2 rm_X6_push := X
  show aS x shC 2 0 [(0, vR this), (1, vI a1)] [] σ
  refine A_aload_n X 0 rfl rfl dX6_push_0 ?_
  refine A_getI X fg_X6_push_96 (shNet ht) (k := 13) rfl (by decide) dX6_push_1 ?_
  refine A_bipush X dX6_push_4 (z := 64) (by decide) ?_
  refine A_icmp_ge X (tgt := 29) (by decide) dX6_push_6 (fun c1 => ?_) (fun c1 => ?_)
  · replace h := ifT h c1
    refine A_sub [] rfl (L' := []) rfl ?_
    exact w_X6_push_29 (this := this) (a1 := a1) X E ht σ h
  · replace h := ifF h c1
    refine A_aload_n X 0 rfl rfl dX6_push_9 ?_
    refine A_getR X fg_X6_push_51 (shNet ht) (k := 12) rfl (by decide) dX6_push_10 ?_
    refine A_aload_n X 0 rfl rfl dX6_push_13 ?_
    refine A_getI X fg_X6_push_96 (shNet ht) (k := 13) rfl (by decide) dX6_push_14 ?_
    refine A_iload_n X 1 rfl rfl dX6_push_17 ?_
    obtain ⟨g2, h⟩ := gdD h
    refine A_iast X g2 (shNet_stack ht) dX6_push_18 (fun s3 hy => ?_)
    replace h := ltD h s3 hy
    clear hy
    refine A_aload_n X 0 rfl rfl dX6_push_19 ?_
    refine A_dup X (by show ¬ (2 : Nat) = 1; decide) dX6_push_20 ?_
    refine A_getI X fg_X6_push_96 (shNet ht) (k := 13) rfl (by decide) dX6_push_21 ?_
    refine A_iconst X dX6_push_24 (z := 1) (by decide) ?_
    refine A_iadd X dX6_push_25 ?_
    refine A_putI X fp_X6_push_96 (shNet ht) (k := 13) rfl (by decide) dX6_push_26 (fun s4 hy => ?_)
    replace h := ltD h s4 hy
    clear hy
    refine A_sub [] rfl (L' := []) rfl ?_
    exact w_X6_push_29 (this := this) (a1 := a1) X E ht s4 h
abbrev rm_X6_pop : Room := { frames := 0, cells := 0, slots := 0, locals := 0 }
theorem in_X6_pop_6 : ∀ w ∈ u_ws RX6 TX6 20, w ∈ wsX6_pop := fun w h => List.mem_cons_of_mem _ (List.mem_append_right _ h)
theorem fg_X6_pop_96 : aFl wsX6_pop RX6 96 6 13 := ⟨RX6, TX6, 20, rfl, in_X6_pop_6, by decide, (List.mem_of_getElem? (i := 1) rfl), rfl⟩
theorem fp_X6_pop_96 : aFp wsX6_pop RX6 96 6 13 .int := ⟨RX6, TX6, 20, tyX6, rfl, in_X6_pop_6, by decide, (List.mem_of_getElem? (i := 1) rfl), rfl, tyX6_ok, nmX6, rfl, rfl⟩
theorem fg_X6_pop_51 : aFl wsX6_pop RX6 51 6 12 := ⟨RX6, TX6, 20, rfl, in_X6_pop_6, by decide, (List.mem_of_getElem? (i := 2) rfl), rfl⟩
set_option maxRecDepth 100000 in
set_option maxHeartbeats 4000000 in
theorem m_X6_pop {l : Launch} {g : aG} {this : Nat} {σ : Hp} {r : Int × Hp} (h : F_Net_pop this σ = some r) : aMet l g shC yX6_pop wsX6_pop rm_X6_pop [vR this] σ 0 r := by
  unfold F_Net_pop at h
  obtain ⟨ht, h⟩ := gdD h
  refine aMet_of (bytes := cX6_pop) (maxL := 1) (ret := (some .int)) (by decide +kernel) rfl (Nat.le_of_ble_eq_true rfl) ⟨rfl, rfl⟩ (fun x e1 e2 X E => ?_)
  subst e1; subst e2
  have X : aX x cX6_pop wsX6_pop RX6 1 rm_X6_pop := X
  show aS x shC 1 0 [(0, vR this)] [] σ
  refine A_aload_n X 0 rfl rfl dX6_pop_0 ?_
  refine A_getI X fg_X6_pop_96 (shNet ht) (k := 13) rfl (by decide) dX6_pop_1 ?_
  refine A_if_le X (tgt := 27) (by decide) dX6_pop_4 (fun c1 => ?_) (fun c1 => ?_)
  · replace h := ifT h c1
    refine A_iconst X dX6_pop_27 (z := 0) (by decide) ?_
    exact A_ireturn X E h dX6_pop_28
  · replace h := ifF h c1
    refine A_aload_n X 0 rfl rfl dX6_pop_7 ?_
    refine A_dup X (by show ¬ (2 : Nat) = 1; decide) dX6_pop_8 ?_
    refine A_getI X fg_X6_pop_96 (shNet ht) (k := 13) rfl (by decide) dX6_pop_9 ?_
    refine A_iconst X dX6_pop_12 (z := 1) (by decide) ?_
    refine A_isub X dX6_pop_13 ?_
    refine A_putI X fp_X6_pop_96 (shNet ht) (k := 13) rfl (by decide) dX6_pop_14 (fun s2 hy => ?_)
    replace h := ltD h s2 hy
    clear hy
    refine A_aload_n X 0 rfl rfl dX6_pop_17 ?_
    refine A_getR X fg_X6_pop_51 (shNet ht) (k := 12) rfl (by decide) dX6_pop_18 ?_
    refine A_aload_n X 0 rfl rfl dX6_pop_21 ?_
    refine A_getI X fg_X6_pop_96 (shNet ht) (k := 13) rfl (by decide) dX6_pop_22 ?_
    obtain ⟨g3, h⟩ := gdD h
    refine A_iald X g3 (shNet_stack ht) dX6_pop_25 ?_
    exact A_ireturn X E h dX6_pop_26
abbrev rm_X6_capped : Room := { frames := 0, cells := 0, slots := 0, locals := 0 }
set_option maxRecDepth 100000 in
set_option maxHeartbeats 4000000 in
theorem w_X6_capped_29 {x : aC} {r : Int × Hp} {a0 : Int} (X : aX x cX6_capped wsX6_capped RX6 2 rm_X6_capped) (E : aE x shC (some .int) 0 r) (t1 : Int) (σ : Hp) (h : F_Net_capped_29 a0 t1 σ = some r) : aS x shC 2 29 [] [vL t1] σ := by
  unfold F_Net_capped_29 at h
  refine A_l2i X dX6_capped_29 ?_
  exact A_ireturn X E h dX6_capped_30
set_option maxRecDepth 100000 in
set_option maxHeartbeats 4000000 in
theorem m_X6_capped {l : Launch} {g : aG} {a0 : Int} {σ : Hp} {r : Int × Hp} (h : F_Net_capped a0 σ = some r) : aMet l g shC yX6_capped wsX6_capped rm_X6_capped [vL a0] σ 0 r := by
  unfold F_Net_capped at h
  refine aMet_of (bytes := cX6_capped) (maxL := 2) (ret := (some .int)) (by decide +kernel) rfl (Nat.le_of_ble_eq_true rfl) ⟨rfl, rfl⟩ (fun x e1 e2 X E => ?_)
  subst e1; subst e2
  have X : aX x cX6_capped wsX6_capped RX6 2 rm_X6_capped := X
  show aS x shC 2 0 [(0, vL a0)] [] σ
  refine A_lload_n X 0 rfl rfl dX6_capped_0 ?_
  refine A_ldc2 X (v := (1000000000)) (List.mem_of_getElem? (i := 1) rfl) dX6_capped_1 (z := 1000000000) (by decide +kernel) ?_
  refine A_lcmp X dX6_capped_4 ?_
  refine A_if_le X (tgt := 14) (by decide) dX6_capped_5 (fun c1 => ?_) (fun c1 => ?_)
  · replace h := ifT h c1
    refine A_lload_n X 0 rfl rfl dX6_capped_14 ?_
    refine A_ldc2 X (v := (-1000000000)) (List.mem_of_getElem? (i := 2) rfl) dX6_capped_15 (z := (-1000000000)) (by decide +kernel) ?_
    refine A_lcmp X dX6_capped_18 ?_
    refine A_if_ge X (tgt := 28) (by decide) dX6_capped_19 (fun c2 => ?_) (fun c2 => ?_)
    · replace h := ifT h c2
      refine A_lload_n X 0 rfl rfl dX6_capped_28 ?_
      refine A_sub [] rfl (L' := []) rfl ?_
      exact w_X6_capped_29 (a0 := a0) X E a0 σ h
    · replace h := ifF h c2
      refine A_ldc2 X (v := (-1000000000)) (List.mem_of_getElem? (i := 2) rfl) dX6_capped_22 (z := (-1000000000)) (by decide +kernel) ?_
      refine A_goto X (tgt := 29) (by decide) dX6_capped_25 ?_
      refine A_sub [] rfl (L' := []) rfl ?_
      exact w_X6_capped_29 (a0 := a0) X E (-1000000000) σ h
  · replace h := ifF h c1
    refine A_ldc2 X (v := (1000000000)) (List.mem_of_getElem? (i := 1) rfl) dX6_capped_8 (z := 1000000000) (by decide +kernel) ?_
    refine A_goto X (tgt := 29) (by decide) dX6_capped_11 ?_
    refine A_sub [] rfl (L' := []) rfl ?_
    exact w_X6_capped_29 (a0 := a0) X E 1000000000 σ h
abbrev rm_X6_joined : Room := { frames := 1, cells := 0, slots := 0, locals := 23 }
set_option maxRecDepth 100000 in
set_option maxHeartbeats 4000000 in
theorem w_X6_joined_140 {x : aC} {r : Int × Hp} {a0 : Int} {a1 : Int} {a2 : Int} (X : aX x cX6_joined wsX6_joined RX6 3 rm_X6_joined) (E : aE x shC (some .int) 0 r) (t1 : Int) (σ : Hp) (h : F_Net_joined_140 a0 a1 a2 t1 σ = some r) : aS x shC 3 140 [] [vI t1] σ := by
  unfold F_Net_joined_140 at h
  exact A_ireturn X E h dX6_joined_140
set_option maxRecDepth 100000 in
set_option maxHeartbeats 4000000 in
theorem w_X6_joined_154 {x : aC} {r : Int × Hp} {a0 : Int} {a1 : Int} {a2 : Int} (X : aX x cX6_joined wsX6_joined RX6 3 rm_X6_joined) (E : aE x shC (some .int) 0 r) (t1 : Int) (σ : Hp) (h : F_Net_joined_154 a0 a1 a2 t1 σ = some r) : aS x shC 3 154 [] [vI t1] σ := by
  unfold F_Net_joined_154 at h
  exact A_ireturn X E h dX6_joined_154
set_option maxRecDepth 100000 in
set_option maxHeartbeats 4000000 in
theorem w_X6_joined_165 {x : aC} {r : Int × Hp} {a0 : Int} {a1 : Int} {a2 : Int} (X : aX x cX6_joined wsX6_joined RX6 3 rm_X6_joined) (E : aE x shC (some .int) 0 r) (t1 : Int) (σ : Hp) (h : F_Net_joined_165 a0 a1 a2 t1 σ = some r) : aS x shC 3 165 [] [vI t1] σ := by
  unfold F_Net_joined_165 at h
  exact A_ireturn X E h dX6_joined_165
set_option maxRecDepth 100000 in
set_option maxHeartbeats 4000000 in
theorem w_X6_joined_176 {x : aC} {r : Int × Hp} {a0 : Int} {a1 : Int} {a2 : Int} (X : aX x cX6_joined wsX6_joined RX6 3 rm_X6_joined) (E : aE x shC (some .int) 0 r) (t1 : Int) (σ : Hp) (h : F_Net_joined_176 a0 a1 a2 t1 σ = some r) : aS x shC 3 176 [] [vI t1] σ := by
  unfold F_Net_joined_176 at h
  exact A_ireturn X E h dX6_joined_176
set_option maxRecDepth 100000 in
set_option maxHeartbeats 4000000 in
theorem w_X6_joined_187 {x : aC} {r : Int × Hp} {a0 : Int} {a1 : Int} {a2 : Int} (X : aX x cX6_joined wsX6_joined RX6 3 rm_X6_joined) (E : aE x shC (some .int) 0 r) (t1 : Int) (σ : Hp) (h : F_Net_joined_187 a0 a1 a2 t1 σ = some r) : aS x shC 3 187 [] [vI t1] σ := by
  unfold F_Net_joined_187 at h
  exact A_ireturn X E h dX6_joined_187
set_option maxRecDepth 100000 in
set_option maxHeartbeats 4000000 in
theorem m_X6_joined {l : Launch} {g : aG} {a0 : Int} {a1 : Int} {a2 : Int} {σ : Hp} {r : Int × Hp} (h : F_Net_joined a0 a1 a2 σ = some r) : aMet l g shC yX6_joined wsX6_joined rm_X6_joined [vI a0, vI a1, vI a2] σ 0 r := by
  unfold F_Net_joined at h
  refine aMet_of (bytes := cX6_joined) (maxL := 3) (ret := (some .int)) (by decide +kernel) rfl (Nat.le_of_ble_eq_true rfl) ⟨rfl, rfl⟩ (fun x e1 e2 X E => ?_)
  subst e1; subst e2
  have X : aX x cX6_joined wsX6_joined RX6 3 rm_X6_joined := X
  show aS x shC 3 0 [(0, vI a0), (1, vI a1), (2, vI a2)] [] σ
  refine A_iload_n X 0 rfl rfl dX6_joined_0 ?_
  by_cases c1 : a0 = 37
  · replace h := ifT h c1
    refine A_lsw X (off := 140) (tgt := 141) (by decide) (by rw [c1]; rfl) (by decide) dX6_joined_1 ?_
    refine A_iload_n X 2 rfl rfl dX6_joined_141 ?_
    refine A_if_ne X (tgt := 149) (by decide) dX6_joined_142 (fun c2 => ?_) (fun c2 => ?_)
    · replace h := ifF h c2
      refine A_iload_n X 1 rfl rfl dX6_joined_149 ?_
      refine A_iload_n X 2 rfl rfl dX6_joined_150 ?_
      obtain ⟨v3, s4, e5, h⟩ := clD h
      refine A_callS_I (na := 2) X (m_J9_floorMod_7cf53 e5) gX6_joined_J9_floorMod_7cf53 rfl ⟨rfl, rfl⟩ (by decide +kernel) rfl ⟨Nat.le_of_ble_eq_true rfl, Nat.le_of_ble_eq_true rfl⟩ rfl (Nat.le_of_ble_eq_true rfl) dX6_joined_151 ?_
      refine A_sub [] rfl (L' := []) rfl ?_
      exact w_X6_joined_154 (a0 := a0) (a1 := a1) (a2 := a2) X E v3 s4 h
    · replace h := ifT h c2
      refine A_iconst X dX6_joined_145 (z := 0) (by decide) ?_
      refine A_goto X (tgt := 154) (by decide) dX6_joined_146 ?_
      refine A_sub [] rfl (L' := []) rfl ?_
      exact w_X6_joined_154 (a0 := a0) (a1 := a1) (a2 := a2) X E 0 σ h
  replace h := ifF h c1
  by_cases c6 : a0 = 42
  · replace h := ifT h c6
    refine A_lsw X (off := 117) (tgt := 118) (by decide) (by rw [c6]; rfl) (by decide) dX6_joined_1 ?_
    refine A_iload_n X 1 rfl rfl dX6_joined_118 ?_
    refine A_i2l X dX6_joined_119 ?_
    refine A_iload_n X 2 rfl rfl dX6_joined_120 ?_
    refine A_i2l X dX6_joined_121 ?_
    refine A_lmul X dX6_joined_122 ?_
    obtain ⟨v7, s8, e9, h⟩ := clD h
    refine A_callS_I (na := 1) X (m_X6_capped e9) gX6_joined_X6_capped rfl ⟨rfl, rfl⟩ (by decide +kernel) rfl ⟨Nat.le_of_ble_eq_true rfl, Nat.le_of_ble_eq_true rfl⟩ rfl (Nat.le_of_ble_eq_true rfl) dX6_joined_123 ?_
    exact A_ireturn X E h dX6_joined_126
  replace h := ifF h c6
  by_cases c10 : a0 = 43
  · replace h := ifT h c10
    refine A_lsw X (off := 99) (tgt := 100) (by decide) (by rw [c10]; rfl) (by decide) dX6_joined_1 ?_
    refine A_iload_n X 1 rfl rfl dX6_joined_100 ?_
    refine A_i2l X dX6_joined_101 ?_
    refine A_iload_n X 2 rfl rfl dX6_joined_102 ?_
    refine A_i2l X dX6_joined_103 ?_
    refine A_ladd X dX6_joined_104 ?_
    obtain ⟨v11, s12, e13, h⟩ := clD h
    refine A_callS_I (na := 1) X (m_X6_capped e13) gX6_joined_X6_capped rfl ⟨rfl, rfl⟩ (by decide +kernel) rfl ⟨Nat.le_of_ble_eq_true rfl, Nat.le_of_ble_eq_true rfl⟩ rfl (Nat.le_of_ble_eq_true rfl) dX6_joined_105 ?_
    exact A_ireturn X E h dX6_joined_108
  replace h := ifF h c10
  by_cases c14 : a0 = 45
  · replace h := ifT h c14
    refine A_lsw X (off := 108) (tgt := 109) (by decide) (by rw [c14]; rfl) (by decide) dX6_joined_1 ?_
    refine A_iload_n X 1 rfl rfl dX6_joined_109 ?_
    refine A_i2l X dX6_joined_110 ?_
    refine A_iload_n X 2 rfl rfl dX6_joined_111 ?_
    refine A_i2l X dX6_joined_112 ?_
    refine A_lsub X dX6_joined_113 ?_
    obtain ⟨v15, s16, e17, h⟩ := clD h
    refine A_callS_I (na := 1) X (m_X6_capped e17) gX6_joined_X6_capped rfl ⟨rfl, rfl⟩ (by decide +kernel) rfl ⟨Nat.le_of_ble_eq_true rfl, Nat.le_of_ble_eq_true rfl⟩ rfl (Nat.le_of_ble_eq_true rfl) dX6_joined_114 ?_
    exact A_ireturn X E h dX6_joined_117
  replace h := ifF h c14
  by_cases c18 : a0 = 47
  · replace h := ifT h c18
    refine A_lsw X (off := 126) (tgt := 127) (by decide) (by rw [c18]; rfl) (by decide) dX6_joined_1 ?_
    refine A_iload_n X 2 rfl rfl dX6_joined_127 ?_
    refine A_if_ne X (tgt := 135) (by decide) dX6_joined_128 (fun c19 => ?_) (fun c19 => ?_)
    · replace h := ifF h c19
      refine A_iload_n X 1 rfl rfl dX6_joined_135 ?_
      refine A_iload_n X 2 rfl rfl dX6_joined_136 ?_
      obtain ⟨v20, s21, e22, h⟩ := clD h
      refine A_callS_I (na := 2) X (m_J9_floorDiv_7cf53 e22) gX6_joined_J9_floorDiv_7cf53 rfl ⟨rfl, rfl⟩ (by decide +kernel) rfl ⟨Nat.le_of_ble_eq_true rfl, Nat.le_of_ble_eq_true rfl⟩ rfl (Nat.le_of_ble_eq_true rfl) dX6_joined_137 ?_
      refine A_sub [] rfl (L' := []) rfl ?_
      exact w_X6_joined_140 (a0 := a0) (a1 := a1) (a2 := a2) X E v20 s21 h
    · replace h := ifT h c19
      refine A_iconst X dX6_joined_131 (z := 0) (by decide) ?_
      refine A_goto X (tgt := 140) (by decide) dX6_joined_132 ?_
      refine A_sub [] rfl (L' := []) rfl ?_
      exact w_X6_joined_140 (a0 := a0) (a1 := a1) (a2 := a2) X E 0 σ h
  replace h := ifF h c18
  by_cases c23 : a0 = 60
  · replace h := ifT h c23
    refine A_lsw X (off := 154) (tgt := 155) (by decide) (by rw [c23]; rfl) (by decide) dX6_joined_1 ?_
    refine A_iload_n X 1 rfl rfl dX6_joined_155 ?_
    refine A_iload_n X 2 rfl rfl dX6_joined_156 ?_
    refine A_icmp_ge X (tgt := 164) (by decide) dX6_joined_157 (fun c24 => ?_) (fun c24 => ?_)
    · replace h := ifT h c24
      refine A_iconst X dX6_joined_164 (z := 0) (by decide) ?_
      refine A_sub [] rfl (L' := []) rfl ?_
      exact w_X6_joined_165 (a0 := a0) (a1 := a1) (a2 := a2) X E 0 σ h
    · replace h := ifF h c24
      refine A_iconst X dX6_joined_160 (z := 1) (by decide) ?_
      refine A_goto X (tgt := 165) (by decide) dX6_joined_161 ?_
      refine A_sub [] rfl (L' := []) rfl ?_
      exact w_X6_joined_165 (a0 := a0) (a1 := a1) (a2 := a2) X E 1 σ h
  replace h := ifF h c23
  by_cases c25 : a0 = 61
  · replace h := ifT h c25
    refine A_lsw X (off := 176) (tgt := 177) (by decide) (by rw [c25]; rfl) (by decide) dX6_joined_1 ?_
    refine A_iload_n X 1 rfl rfl dX6_joined_177 ?_
    refine A_iload_n X 2 rfl rfl dX6_joined_178 ?_
    refine A_icmp_ne X (tgt := 186) (by decide) dX6_joined_179 (fun c26 => ?_) (fun c26 => ?_)
    · replace h := ifF h c26
      refine A_iconst X dX6_joined_186 (z := 0) (by decide) ?_
      refine A_sub [] rfl (L' := []) rfl ?_
      exact w_X6_joined_187 (a0 := a0) (a1 := a1) (a2 := a2) X E 0 σ h
    · replace h := ifT h c26
      refine A_iconst X dX6_joined_182 (z := 1) (by decide) ?_
      refine A_goto X (tgt := 187) (by decide) dX6_joined_183 ?_
      refine A_sub [] rfl (L' := []) rfl ?_
      exact w_X6_joined_187 (a0 := a0) (a1 := a1) (a2 := a2) X E 1 σ h
  replace h := ifF h c25
  by_cases c27 : a0 = 62
  · replace h := ifT h c27
    refine A_lsw X (off := 165) (tgt := 166) (by decide) (by rw [c27]; rfl) (by decide) dX6_joined_1 ?_
    refine A_iload_n X 1 rfl rfl dX6_joined_166 ?_
    refine A_iload_n X 2 rfl rfl dX6_joined_167 ?_
    refine A_icmp_le X (tgt := 175) (by decide) dX6_joined_168 (fun c28 => ?_) (fun c28 => ?_)
    · replace h := ifT h c28
      refine A_iconst X dX6_joined_175 (z := 0) (by decide) ?_
      refine A_sub [] rfl (L' := []) rfl ?_
      exact w_X6_joined_176 (a0 := a0) (a1 := a1) (a2 := a2) X E 0 σ h
    · replace h := ifF h c28
      refine A_iconst X dX6_joined_171 (z := 1) (by decide) ?_
      refine A_goto X (tgt := 176) (by decide) dX6_joined_172 ?_
      refine A_sub [] rfl (L' := []) rfl ?_
      exact w_X6_joined_176 (a0 := a0) (a1 := a1) (a2 := a2) X E 1 σ h
  replace h := ifF h c27
  by_cases c29 : a0 = 265
  · replace h := ifT h c29
    refine A_lsw X (off := 199) (tgt := 200) (by decide) (by rw [c29]; rfl) (by decide) dX6_joined_1 ?_
    refine A_iload_n X 1 rfl rfl dX6_joined_200 ?_
    refine A_iload_n X 2 rfl rfl dX6_joined_201 ?_
    refine A_iand X dX6_joined_202 ?_
    exact A_ireturn X E h dX6_joined_203
  replace h := ifF h c29
  by_cases c30 : a0 = 271
  · replace h := ifT h c30
    refine A_lsw X (off := 187) (tgt := 188) (by decide) (by rw [c30]; rfl) (by decide) dX6_joined_1 ?_
    refine A_iload_n X 1 rfl rfl dX6_joined_188 ?_
    refine A_iload_n X 2 rfl rfl dX6_joined_189 ?_
    refine A_mmin X (List.mem_of_getElem? (i := 1) rfl) (List.mem_of_getElem? (i := 2) rfl) (List.mem_of_getElem? (i := 3) rfl) (List.mem_of_getElem? (i := 4) rfl) (Nat.le_of_ble_eq_true rfl) (Nat.le_of_ble_eq_true rfl) dX6_joined_190 ?_
    exact A_ireturn X E h dX6_joined_193
  replace h := ifF h c30
  by_cases c31 : a0 = 272
  · replace h := ifT h c31
    refine A_lsw X (off := 193) (tgt := 194) (by decide) (by rw [c31]; rfl) (by decide) dX6_joined_1 ?_
    refine A_iload_n X 1 rfl rfl dX6_joined_194 ?_
    refine A_iload_n X 2 rfl rfl dX6_joined_195 ?_
    refine A_mmax X (List.mem_of_getElem? (i := 5) rfl) (List.mem_of_getElem? (i := 6) rfl) (List.mem_of_getElem? (i := 3) rfl) (List.mem_of_getElem? (i := 7) rfl) (Nat.le_of_ble_eq_true rfl) (Nat.le_of_ble_eq_true rfl) dX6_joined_196 ?_
    exact A_ireturn X E h dX6_joined_199
  replace h := ifF h c31
  refine A_lsw X (off := 203) (tgt := 204) (by decide) (lsw_out (by simp; omega)) (by decide) dX6_joined_1 ?_
  refine A_iload_n X 1 rfl rfl dX6_joined_204 ?_
  refine A_iload_n X 2 rfl rfl dX6_joined_205 ?_
  refine A_ior X dX6_joined_206 ?_
  exact A_ireturn X E h dX6_joined_207
abbrev rm_X6_step : Room := { frames := 2, cells := 0, slots := 0, locals := 45 }
set_option maxRecDepth 100000 in
set_option maxHeartbeats 4000000 in
theorem w_X6_step_110 {x : aC} {r : Int × Hp} {this : Nat} {a1 : Int} {a2 : Int} (X : aX x cX6_step wsX6_step RX6 4 rm_X6_step) (E : aE x shC none 3 r) (ht : isNet this) (σ : Hp) (h : F_Net_step_110 this a1 a2 σ = some r) : aS x shC 4 110 [] [] σ := by
  unfold F_Net_step_110 at h
  exact A_return X E h dX6_step_110
set_option maxRecDepth 100000 in
set_option maxHeartbeats 4000000 in
theorem w_X6_step_79 {x : aC} {r : Int × Hp} {this : Nat} {a1 : Int} {a2 : Int} (X : aX x cX6_step wsX6_step RX6 4 rm_X6_step) (E : aE x shC none 3 r) (ht : isNet this) (σ : Hp) (h : F_Net_step_79 this a1 a2 σ = some r) : aS x shC 4 79 [(0, vR this), (1, vI a1)] [] σ := by
  unfold F_Net_step_79 at h
  refine A_iload_n X 1 rfl rfl dX6_step_79 ?_
  refine A_if_lt X (tgt := 91) (by decide) dX6_step_80 (fun c1 => ?_) (fun c1 => ?_)
  · replace h := ifT h c1
    refine A_aload_n X 0 rfl rfl dX6_step_91 ?_
    obtain ⟨v2, s3, e4, h⟩ := clD h
    refine A_callV_I (na := 0) X (m_X6_pop e4) gX6_step_X6_pop rfl ⟨rfl, rfl⟩ (by decide +kernel) rfl ⟨Nat.le_of_ble_eq_true rfl, Nat.le_of_ble_eq_true rfl⟩ (shNet ht) (by decide) rfl rfl (Nat.le_of_ble_eq_true rfl) dX6_step_92 ?_
    refine A_istore_n X (L' := [(3, vI v2), (0, vR this), (1, vI a1)]) rfl (by decide) rfl dX6_step_95 ?_
    refine A_aload_n X 1 rfl rfl dX6_step_96 ?_
    refine A_iload_n X 2 rfl rfl dX6_step_97 ?_
    refine A_ineg X dX6_step_98 ?_
    refine A_aload_n X 1 rfl rfl dX6_step_99 ?_
    obtain ⟨v5, s6, e7, h⟩ := clD h
    refine A_callV_I (na := 0) X (m_X6_pop e7) gX6_step_X6_pop rfl ⟨rfl, rfl⟩ (by decide +kernel) rfl ⟨Nat.le_of_ble_eq_true rfl, Nat.le_of_ble_eq_true rfl⟩ (shNet ht) (by decide) rfl rfl (Nat.le_of_ble_eq_true rfl) dX6_step_100 ?_
    refine A_iload_n X 0 rfl rfl dX6_step_103 ?_
    obtain ⟨v8, s9, e10, h⟩ := clD h
    refine A_callS_I (na := 3) X (m_X6_joined e10) gX6_step_X6_joined rfl ⟨rfl, rfl⟩ (by decide +kernel) rfl ⟨Nat.le_of_ble_eq_true rfl, Nat.le_of_ble_eq_true rfl⟩ rfl (Nat.le_of_ble_eq_true rfl) dX6_step_104 ?_
    obtain ⟨v11, s12, e13, h⟩ := clD h
    refine A_callV_V (na := 1) X (m_X6_push e13) gX6_step_X6_push rfl ⟨rfl, rfl⟩ (by decide +kernel) rfl ⟨Nat.le_of_ble_eq_true rfl, Nat.le_of_ble_eq_true rfl⟩ (shNet ht) (by decide) rfl rfl (Nat.le_of_ble_eq_true rfl) dX6_step_107 ?_
    refine A_sub [] rfl (L' := []) rfl ?_
    exact w_X6_step_110 (this := this) (a1 := a1) (a2 := a2) X E ht s12 h
  · replace h := ifF h c1
    refine A_aload_n X 0 rfl rfl dX6_step_83 ?_
    refine A_iload_n X 1 rfl rfl dX6_step_84 ?_
    obtain ⟨v14, s15, e16, h⟩ := clD h
    refine A_callV_V (na := 1) X (m_X6_push e16) gX6_step_X6_push rfl ⟨rfl, rfl⟩ (by decide +kernel) rfl ⟨Nat.le_of_ble_eq_true rfl, Nat.le_of_ble_eq_true rfl⟩ (shNet ht) (by decide) rfl rfl (Nat.le_of_ble_eq_true rfl) dX6_step_85 ?_
    refine A_goto X (tgt := 110) (by decide) dX6_step_88 ?_
    refine A_sub [] rfl (L' := []) rfl ?_
    exact w_X6_step_110 (this := this) (a1 := a1) (a2 := a2) X E ht s15 h
set_option maxRecDepth 100000 in
set_option maxHeartbeats 4000000 in
theorem m_X6_step {l : Launch} {g : aG} {this : Nat} {a1 : Int} {a2 : Int} {σ : Hp} {r : Int × Hp} (h : F_Net_step this a1 a2 σ = some r) : aMet l g shC yX6_step wsX6_step rm_X6_step [vR this, vI a1, vI a2] σ 3 r := by
  unfold F_Net_step at h
  obtain ⟨ht, h⟩ := gdD h
  refine aMet_of (bytes := cX6_step) (maxL := 4) (ret := none) (by decide +kernel) rfl (Nat.le_of_ble_eq_true rfl) ⟨rfl, rfl⟩ (fun x e1 e2 X E => ?_)
  subst e1; subst e2
  have X : aX x cX6_step wsX6_step RX6 4 rm_X6_step := X
  show aS x shC 4 0 [(0, vR this), (1, vI a1), (2, vI a2)] [] σ
  refine A_iload_n X 1 rfl rfl dX6_step_0 ?_
  refine A_ineg X dX6_step_1 ?_
  by_cases c17 : (ineg a1) = 266
  · replace h := ifT h c17
    refine A_tIn X (j := 266) (tgt := 66) c17 (by decide) (by decide) rfl (by decide) dX6_step_2 ?_
    refine A_aload_n X 0 rfl rfl dX6_step_66 ?_
    refine A_iconst X dX6_step_67 (z := 1) (by decide) ?_
    refine A_aload_n X 0 rfl rfl dX6_step_68 ?_
    obtain ⟨v18, s19, e20, h⟩ := clD h
    refine A_callV_I (na := 0) X (m_X6_pop e20) gX6_step_X6_pop rfl ⟨rfl, rfl⟩ (by decide +kernel) rfl ⟨Nat.le_of_ble_eq_true rfl, Nat.le_of_ble_eq_true rfl⟩ (shNet ht) (by decide) rfl rfl (Nat.le_of_ble_eq_true rfl) dX6_step_69 ?_
    refine A_isub X dX6_step_72 ?_
    obtain ⟨v21, s22, e23, h⟩ := clD h
    refine A_callV_V (na := 1) X (m_X6_push e23) gX6_step_X6_push rfl ⟨rfl, rfl⟩ (by decide +kernel) rfl ⟨Nat.le_of_ble_eq_true rfl, Nat.le_of_ble_eq_true rfl⟩ (shNet ht) (by decide) rfl rfl (Nat.le_of_ble_eq_true rfl) dX6_step_73 ?_
    refine A_goto X (tgt := 110) (by decide) dX6_step_76 ?_
    refine A_sub [] rfl (L' := []) rfl ?_
    exact w_X6_step_110 (this := this) (a1 := a1) (a2 := a2) X E ht s22 h
  replace h := ifF h c17
  by_cases c24 : (ineg a1) = 267
  · replace h := ifT h c24
    refine A_tIn X (j := 267) (tgt := 79) c24 (by decide) (by decide) rfl (by decide) dX6_step_2 ?_
    refine A_sub [0, 1] rfl (L' := [(0, vR this), (1, vI a1)]) rfl ?_
    exact w_X6_step_79 (this := this) (a1 := a1) (a2 := a2) X E ht σ h
  replace h := ifF h c24
  by_cases c25 : (ineg a1) = 268
  · replace h := ifT h c25
    refine A_tIn X (j := 268) (tgt := 36) c25 (by decide) (by decide) rfl (by decide) dX6_step_2 ?_
    refine A_aload_n X 0 rfl rfl dX6_step_36 ?_
    refine A_iload_n X 2 rfl rfl dX6_step_37 ?_
    obtain ⟨v26, s27, e28, h⟩ := clD h
    refine A_callV_V (na := 1) X (m_X6_push e28) gX6_step_X6_push rfl ⟨rfl, rfl⟩ (by decide +kernel) rfl ⟨Nat.le_of_ble_eq_true rfl, Nat.le_of_ble_eq_true rfl⟩ (shNet ht) (by decide) rfl rfl (Nat.le_of_ble_eq_true rfl) dX6_step_38 ?_
    refine A_goto X (tgt := 110) (by decide) dX6_step_41 ?_
    refine A_sub [] rfl (L' := []) rfl ?_
    exact w_X6_step_110 (this := this) (a1 := a1) (a2 := a2) X E ht s27 h
  replace h := ifF h c25
  by_cases c29 : (ineg a1) = 269
  · replace h := ifT h c29
    refine A_tIn X (j := 269) (tgt := 44) c29 (by decide) (by decide) rfl (by decide) dX6_step_2 ?_
    refine A_aload_n X 0 rfl rfl dX6_step_44 ?_
    refine A_iload_n X 2 rfl rfl dX6_step_45 ?_
    refine A_bipush X dX6_step_46 (z := 7) (by decide) ?_
    refine A_idiv X (by decide) dX6_step_48 ?_
    obtain ⟨v30, s31, e32, h⟩ := clD h
    refine A_callV_V (na := 1) X (m_X6_push e32) gX6_step_X6_push rfl ⟨rfl, rfl⟩ (by decide +kernel) rfl ⟨Nat.le_of_ble_eq_true rfl, Nat.le_of_ble_eq_true rfl⟩ (shNet ht) (by decide) rfl rfl (Nat.le_of_ble_eq_true rfl) dX6_step_49 ?_
    refine A_goto X (tgt := 110) (by decide) dX6_step_52 ?_
    refine A_sub [] rfl (L' := []) rfl ?_
    exact w_X6_step_110 (this := this) (a1 := a1) (a2 := a2) X E ht s31 h
  replace h := ifF h c29
  by_cases c33 : (ineg a1) = 270
  · replace h := ifT h c33
    refine A_tIn X (j := 270) (tgt := 55) c33 (by decide) (by decide) rfl (by decide) dX6_step_2 ?_
    refine A_aload_n X 0 rfl rfl dX6_step_55 ?_
    refine A_iload_n X 2 rfl rfl dX6_step_56 ?_
    refine A_bipush X dX6_step_57 (z := 7) (by decide) ?_
    refine A_irem X (by decide) dX6_step_59 ?_
    obtain ⟨v34, s35, e36, h⟩ := clD h
    refine A_callV_V (na := 1) X (m_X6_push e36) gX6_step_X6_push rfl ⟨rfl, rfl⟩ (by decide +kernel) rfl ⟨Nat.le_of_ble_eq_true rfl, Nat.le_of_ble_eq_true rfl⟩ (shNet ht) (by decide) rfl rfl (Nat.le_of_ble_eq_true rfl) dX6_step_60 ?_
    refine A_goto X (tgt := 110) (by decide) dX6_step_63 ?_
    refine A_sub [] rfl (L' := []) rfl ?_
    exact w_X6_step_110 (this := this) (a1 := a1) (a2 := a2) X E ht s35 h
  replace h := ifF h c33
  refine A_tOut X (tgt := 79) (by omega) (by decide) dX6_step_2 ?_
  refine A_sub [0, 1] rfl (L' := [(0, vR this), (1, vI a1)]) rfl ?_
  exact w_X6_step_79 (this := this) (a1 := a1) (a2 := a2) X E ht σ h
abbrev rm_X6_reckoned : Room := { frames := 3, cells := 0, slots := 0, locals := 68 }
theorem in_X6_reckoned_6 : ∀ w ∈ u_ws RX6 TX6 20, w ∈ wsX6_reckoned := fun w h => List.mem_cons_of_mem _ (List.mem_append_right _ h)
theorem fg_X6_reckoned_48 : aFl wsX6_reckoned RX6 48 6 11 := ⟨RX6, TX6, 20, rfl, in_X6_reckoned_6, by decide, (List.mem_of_getElem? (i := 2) rfl), rfl⟩
theorem fp_X6_reckoned_96 : aFp wsX6_reckoned RX6 96 6 13 .int := ⟨RX6, TX6, 20, tyX6, rfl, in_X6_reckoned_6, by decide, (List.mem_of_getElem? (i := 1) rfl), rfl, tyX6_ok, nmX6, rfl, rfl⟩
set_option maxRecDepth 100000 in
set_option maxHeartbeats 4000000 in
theorem w_X6_reckoned_40 {x : aC} {r : Int × Hp} {this : Nat} {a1 : Int} {a2 : Int} {a3 : Int} (X : aX x cX6_reckoned wsX6_reckoned RX6 5 rm_X6_reckoned) (E : aE x shC (some .int) 0 r) (ht : isNet this) (σ : Hp) (h : F_Net_reckoned_40 this a1 a2 a3 σ = some r) : aS x shC 5 40 [(0, vR this)] [] σ := by
  unfold F_Net_reckoned_40 at h
  refine A_aload_n X 0 rfl rfl dX6_reckoned_40 ?_
  obtain ⟨v1, s2, e3, h⟩ := clD h
  refine A_callV_I (na := 0) X (m_X6_pop e3) gX6_reckoned_X6_pop rfl ⟨rfl, rfl⟩ (by decide +kernel) rfl ⟨Nat.le_of_ble_eq_true rfl, Nat.le_of_ble_eq_true rfl⟩ (shNet ht) (by decide) rfl rfl (Nat.le_of_ble_eq_true rfl) dX6_reckoned_41 ?_
  exact A_ireturn X E h dX6_reckoned_44
set_option maxRecDepth 100000 in
set_option maxHeartbeats 4000000 in
theorem w_X6_reckoned_8_b {x : aC} {r : Int × Hp} {k8 : Int × Hp → Option (Int × Hp)} {this : Nat} {a1 : Int} {a2 : Int} {a3 : Int} (X : aX x cX6_reckoned wsX6_reckoned RX6 5 rm_X6_reckoned) (E : aE x shC (some .int) 0 r) (hk8 : ∀ (x4 : Int) (σ : Hp), k8 (x4, σ) = some r → aS x shC 5 8 [(0, vR this), (2, vI a2), (3, vI a3), (4, vI x4)] [] σ) (ht : isNet this) (x4 : Int) (σ : Hp) (h : F_Net_reckoned_8_b k8 this a1 a2 a3 x4 σ = some r) : aS x shC 5 8 [(0, vR this), (2, vI a2), (3, vI a3), (4, vI x4)] [] σ := by
  unfold F_Net_reckoned_8_b at h
  refine A_iload X 3 rfl dX6_reckoned_8 ?_
  refine A_iload_n X 1 rfl rfl dX6_reckoned_10 ?_
  refine A_icmp_ge X (tgt := 40) (by decide) dX6_reckoned_11 (fun c4 => ?_) (fun c4 => ?_)
  · replace h := ifT h c4
    refine A_sub [0] rfl (L' := [(0, vR this)]) rfl ?_
    exact w_X6_reckoned_40 (this := this) (a1 := a1) (a2 := a2) (a3 := a3) X E ht σ h
  · replace h := ifF h c4
    refine A_iload X 3 rfl dX6_reckoned_14 ?_
    refine A_sipush X dX6_reckoned_16 (z := 900) (by decide) ?_
    refine A_icmp_ge X (tgt := 40) (by decide) dX6_reckoned_19 (fun c5 => ?_) (fun c5 => ?_)
    · replace h := ifT h c5
      refine A_sub [0] rfl (L' := [(0, vR this)]) rfl ?_
      exact w_X6_reckoned_40 (this := this) (a1 := a1) (a2 := a2) (a3 := a3) X E ht σ h
    · replace h := ifF h c5
      refine A_aload_n X 0 rfl rfl dX6_reckoned_22 ?_
      refine A_aload_n X 0 rfl rfl dX6_reckoned_23 ?_
      refine A_getR X fg_X6_reckoned_48 (shNet ht) (k := 11) rfl (by decide) dX6_reckoned_24 ?_
      refine A_iload X 3 rfl dX6_reckoned_27 ?_
      obtain ⟨g6, h⟩ := gdD h
      refine A_iald X g6 (shNet_code ht) dX6_reckoned_29 ?_
      refine A_iload_n X 2 rfl rfl dX6_reckoned_30 ?_
      obtain ⟨v7, s8, e9, h⟩ := clD h
      refine A_callV_V (na := 2) X (m_X6_step e9) gX6_reckoned_X6_step rfl ⟨rfl, rfl⟩ (by decide +kernel) rfl ⟨Nat.le_of_ble_eq_true rfl, Nat.le_of_ble_eq_true rfl⟩ (shNet ht) (by decide) rfl rfl (Nat.le_of_ble_eq_true rfl) dX6_reckoned_31 ?_
      refine A_iinc X (L' := fun y4_10 => [(4, vI y4_10), (0, vR this), (2, vI a2), (3, vI a3)]) 3 rfl (by decide) (fun _ => rfl) dX6_reckoned_34 (by decide) (fun y4_10 hy => ?_)
      replace h := ltD h y4_10 hy
      clear hy
      refine A_goto X (tgt := 8) (by decide) dX6_reckoned_37 ?_
      refine A_sub [1, 2, 3, 0] rfl (L' := [(0, vR this), (2, vI a2), (3, vI a3), (4, vI y4_10)]) rfl ?_
      exact hk8 y4_10 s8 h
set_option maxRecDepth 100000 in
set_option maxHeartbeats 4000000 in
theorem w_X6_reckoned_8 {x : aC} {r : Int × Hp} {this : Nat} {a1 : Int} {a2 : Int} {a3 : Int} (X : aX x cX6_reckoned wsX6_reckoned RX6 5 rm_X6_reckoned) (E : aE x shC (some .int) 0 r) (ht : isNet this) : ∀ (n : Nat) (x4 : Int) (σ : Hp) (h : F_Net_reckoned_8 this a1 a2 a3 n (x4, σ) = some r), aS x shC 5 8 [(0, vR this), (2, vI a2), (3, vI a3), (4, vI x4)] [] σ := by
  intro n
  induction n with
  | zero => intro x4 σ h; cases h
  | succ n ih => intro x4 σ h; exact w_X6_reckoned_8_b (this := this) (a1 := a1) (a2 := a2) (a3 := a3) (k8 := F_Net_reckoned_8 this a1 a2 a3 n) X E ih ht x4 σ h
set_option maxRecDepth 100000 in
set_option maxHeartbeats 4000000 in
theorem m_X6_reckoned {l : Launch} {g : aG} {this : Nat} {a1 : Int} {a2 : Int} {a3 : Int} {σ : Hp} {r : Int × Hp} (h : F_Net_reckoned this a1 a2 a3 σ = some r) : aMet l g shC yX6_reckoned wsX6_reckoned rm_X6_reckoned [vR this, vI a1, vI a2, vI a3] σ 0 r := by
  unfold F_Net_reckoned at h
  obtain ⟨ht, h⟩ := gdD h
  refine aMet_of (bytes := cX6_reckoned) (maxL := 5) (ret := (some .int)) (by decide +kernel) rfl (Nat.le_of_ble_eq_true rfl) ⟨rfl, rfl⟩ (fun x e1 e2 X E => ?_)
  subst e1; subst e2
  have X : aX x cX6_reckoned wsX6_reckoned RX6 5 rm_X6_reckoned := X
  show aS x shC 5 0 [(0, vR this), (1, vI a1), (2, vI a2), (3, vI a3)] [] σ
  refine A_aload_n X 0 rfl rfl dX6_reckoned_0 ?_
  refine A_iconst X dX6_reckoned_1 (z := 0) (by decide) ?_
  refine A_putI X fp_X6_reckoned_96 (shNet ht) (k := 13) rfl (by decide) dX6_reckoned_2 (fun s11 hy => ?_)
  replace h := ltD h s11 hy
  clear hy
  refine A_iload_n X 1 rfl rfl dX6_reckoned_5 ?_
  refine A_istore X (L' := [(4, vI a1), (0, vR this), (1, vI a1), (2, vI a2), (3, vI a3)]) (by decide) rfl dX6_reckoned_6 ?_
  refine A_sub [1, 3, 4, 0] rfl (L' := [(0, vR this), (2, vI a2), (3, vI a3), (4, vI a1)]) rfl ?_
  exact w_X6_reckoned_8 (this := this) (a1 := a1) (a2 := a2) (a3 := a3) X E ht FU a1 s11 h
abbrev rm_X6_worthOn : Room := { frames := 4, cells := 0, slots := 0, locals := 92 }
theorem in_X6_worthOn_6 : ∀ w ∈ u_ws RX6 TX6 20, w ∈ wsX6_worthOn := fun w h => List.mem_cons_of_mem _ (List.mem_append_right _ h)
theorem fg_X6_worthOn_27 : aFl wsX6_worthOn RX6 27 6 5 := ⟨RX6, TX6, 20, rfl, in_X6_worthOn_6, by decide, (List.mem_of_getElem? (i := 3) rfl), rfl⟩
theorem fg_X6_worthOn_30 : aFl wsX6_worthOn RX6 30 6 6 := ⟨RX6, TX6, 20, rfl, in_X6_worthOn_6, by decide, (List.mem_of_getElem? (i := 1) rfl), rfl⟩
theorem fg_X6_worthOn_33 : aFl wsX6_worthOn RX6 33 6 7 := ⟨RX6, TX6, 20, rfl, in_X6_worthOn_6, by decide, (List.mem_of_getElem? (i := 2) rfl), rfl⟩
set_option maxRecDepth 100000 in
set_option maxHeartbeats 4000000 in
theorem w_X6_worthOn_47 {x : aC} {r : Int × Hp} {this : Nat} {a1 : Int} {a2 : Int} (X : aX x cX6_worthOn wsX6_worthOn RX6 4 rm_X6_worthOn) (E : aE x shC (some .int) 0 r) (ht : isNet this) (σ : Hp) (h : F_Net_worthOn_47 this a1 a2 σ = some r) : aS x shC 4 47 [(0, vR this), (1, vI a1), (2, vI a2)] [] σ := by
  unfold F_Net_worthOn_47 at h
  refine A_aload_n X 0 rfl rfl dX6_worthOn_47 ?_
  refine A_aload_n X 0 rfl rfl dX6_worthOn_48 ?_
  refine A_getR X fg_X6_worthOn_27 (shNet ht) (k := 5) rfl (by decide) dX6_worthOn_49 ?_
  refine A_iload_n X 1 rfl rfl dX6_worthOn_52 ?_
  obtain ⟨g1, h⟩ := gdD h
  refine A_iald X g1 (shNet_sumFrom ht) dX6_worthOn_53 ?_
  refine A_aload_n X 0 rfl rfl dX6_worthOn_54 ?_
  refine A_getR X fg_X6_worthOn_30 (shNet ht) (k := 6) rfl (by decide) dX6_worthOn_55 ?_
  refine A_iload_n X 1 rfl rfl dX6_worthOn_58 ?_
  obtain ⟨g2, h⟩ := gdD h
  refine A_iald X g2 (shNet_testFrom ht) dX6_worthOn_59 ?_
  refine A_iload_n X 2 rfl rfl dX6_worthOn_60 ?_
  obtain ⟨v3, s4, e5, h⟩ := clD h
  refine A_callV_I (na := 3) X (m_X6_reckoned e5) gX6_worthOn_X6_reckoned rfl ⟨rfl, rfl⟩ (by decide +kernel) rfl ⟨Nat.le_of_ble_eq_true rfl, Nat.le_of_ble_eq_true rfl⟩ (shNet ht) (by decide) rfl rfl (Nat.le_of_ble_eq_true rfl) dX6_worthOn_61 ?_
  refine A_iconst X dX6_worthOn_64 (z := 0) (by decide) ?_
  refine A_mmax X (List.mem_of_getElem? (i := 4) rfl) (List.mem_of_getElem? (i := 5) rfl) (List.mem_of_getElem? (i := 6) rfl) (List.mem_of_getElem? (i := 7) rfl) (Nat.le_of_ble_eq_true rfl) (Nat.le_of_ble_eq_true rfl) dX6_worthOn_65 ?_
  refine A_ldc X (v := (100000)) (List.mem_of_getElem? (i := 8) rfl) dX6_worthOn_68 (z := 100000) (by decide) ?_
  refine A_mmin X (List.mem_of_getElem? (i := 9) rfl) (List.mem_of_getElem? (i := 10) rfl) (List.mem_of_getElem? (i := 6) rfl) (List.mem_of_getElem? (i := 11) rfl) (Nat.le_of_ble_eq_true rfl) (Nat.le_of_ble_eq_true rfl) dX6_worthOn_70 ?_
  exact A_ireturn X E h dX6_worthOn_73
set_option maxRecDepth 100000 in
set_option maxHeartbeats 4000000 in
theorem w_X6_worthOn_20 {x : aC} {r : Int × Hp} {this : Nat} {a1 : Int} {a2 : Int} (X : aX x cX6_worthOn wsX6_worthOn RX6 4 rm_X6_worthOn) (E : aE x shC (some .int) 0 r) (ht : isNet this) (t1 : Int) (σ : Hp) (h : F_Net_worthOn_20 this a1 a2 t1 σ = some r) : aS x shC 4 20 [(0, vR this), (1, vI a1), (2, vI a2)] [vI t1] σ := by
  unfold F_Net_worthOn_20 at h
  refine A_istore_n X (L' := [(3, vI t1), (0, vR this), (1, vI a1), (2, vI a2)]) rfl (by decide) rfl dX6_worthOn_20 ?_
  refine A_iload_n X 0 rfl rfl dX6_worthOn_21 ?_
  refine A_if_eq X (tgt := 47) (by decide) dX6_worthOn_22 (fun c6 => ?_) (fun c6 => ?_)
  · replace h := ifT h c6
    refine A_sub [1, 2, 3] rfl (L' := [(0, vR this), (1, vI a1), (2, vI a2)]) rfl ?_
    exact w_X6_worthOn_47 (this := this) (a1 := a1) (a2 := a2) X E ht σ h
  · replace h := ifF h c6
    refine A_aload_n X 1 rfl rfl dX6_worthOn_25 ?_
    refine A_aload_n X 1 rfl rfl dX6_worthOn_26 ?_
    refine A_getR X fg_X6_worthOn_30 (shNet ht) (k := 6) rfl (by decide) dX6_worthOn_27 ?_
    refine A_iload_n X 2 rfl rfl dX6_worthOn_30 ?_
    obtain ⟨g7, h⟩ := gdD h
    refine A_iald X g7 (shNet_testFrom ht) dX6_worthOn_31 ?_
    refine A_aload_n X 1 rfl rfl dX6_worthOn_32 ?_
    refine A_getR X fg_X6_worthOn_33 (shNet ht) (k := 7) rfl (by decide) dX6_worthOn_33 ?_
    refine A_iload_n X 2 rfl rfl dX6_worthOn_36 ?_
    obtain ⟨g8, h⟩ := gdD h
    refine A_iald X g8 (shNet_testTo ht) dX6_worthOn_37 ?_
    refine A_iload_n X 3 rfl rfl dX6_worthOn_38 ?_
    obtain ⟨v9, s10, e11, h⟩ := clD h
    refine A_callV_I (na := 3) X (m_X6_reckoned e11) gX6_worthOn_X6_reckoned rfl ⟨rfl, rfl⟩ (by decide +kernel) rfl ⟨Nat.le_of_ble_eq_true rfl, Nat.le_of_ble_eq_true rfl⟩ (shNet ht) (by decide) rfl rfl (Nat.le_of_ble_eq_true rfl) dX6_worthOn_39 ?_
    refine A_if_ne X (tgt := 47) (by decide) dX6_worthOn_42 (fun c12 => ?_) (fun c12 => ?_)
    · replace h := ifF h c12
      refine A_sub [1, 2, 3] rfl (L' := [(0, vR this), (1, vI a1), (2, vI a2)]) rfl ?_
      exact w_X6_worthOn_47 (this := this) (a1 := a1) (a2 := a2) X E ht s10 h
    · replace h := ifT h c12
      refine A_iconst X dX6_worthOn_45 (z := (-1)) (by decide) ?_
      exact A_ireturn X E h dX6_worthOn_46
set_option maxRecDepth 100000 in
set_option maxHeartbeats 4000000 in
theorem m_X6_worthOn {l : Launch} {g : aG} {this : Nat} {a1 : Int} {a2 : Int} {σ : Hp} {r : Int × Hp} (h : F_Net_worthOn this a1 a2 σ = some r) : aMet l g shC yX6_worthOn wsX6_worthOn rm_X6_worthOn [vR this, vI a1, vI a2] σ 0 r := by
  unfold F_Net_worthOn at h
  obtain ⟨ht, h⟩ := gdD h
  refine aMet_of (bytes := cX6_worthOn) (maxL := 4) (ret := (some .int)) (by decide +kernel) rfl (Nat.le_of_ble_eq_true rfl) ⟨rfl, rfl⟩ (fun x e1 e2 X E => ?_)
  subst e1; subst e2
  have X : aX x cX6_worthOn wsX6_worthOn RX6 4 rm_X6_worthOn := X
  show aS x shC 4 0 [(0, vR this), (1, vI a1), (2, vI a2)] [] σ
  refine A_aload_n X 0 rfl rfl dX6_worthOn_0 ?_
  refine A_getR X fg_X6_worthOn_30 (shNet ht) (k := 6) rfl (by decide) dX6_worthOn_1 ?_
  refine A_iload_n X 1 rfl rfl dX6_worthOn_4 ?_
  obtain ⟨g13, h⟩ := gdD h
  refine A_iald X g13 (shNet_testFrom ht) dX6_worthOn_5 ?_
  refine A_aload_n X 0 rfl rfl dX6_worthOn_6 ?_
  refine A_getR X fg_X6_worthOn_33 (shNet ht) (k := 7) rfl (by decide) dX6_worthOn_7 ?_
  refine A_iload_n X 1 rfl rfl dX6_worthOn_10 ?_
  obtain ⟨g14, h⟩ := gdD h
  refine A_iald X g14 (shNet_testTo ht) dX6_worthOn_11 ?_
  refine A_icmp_ge X (tgt := 19) (by decide) dX6_worthOn_12 (fun c15 => ?_) (fun c15 => ?_)
  · replace h := ifT h c15
    refine A_iconst X dX6_worthOn_19 (z := 0) (by decide) ?_
    exact w_X6_worthOn_20 (this := this) (a1 := a1) (a2 := a2) X E ht 0 σ h
  · replace h := ifF h c15
    refine A_iconst X dX6_worthOn_15 (z := 1) (by decide) ?_
    refine A_goto X (tgt := 20) (by decide) dX6_worthOn_16 ?_
    exact w_X6_worthOn_20 (this := this) (a1 := a1) (a2 := a2) X E ht 1 σ h
abbrev rm_X6_madeWith : Room := { frames := 0, cells := 0, slots := 0, locals := 0 }
theorem in_X6_madeWith_6 : ∀ w ∈ u_ws RX6 TX6 20, w ∈ wsX6_madeWith := fun w h => List.mem_cons_of_mem _ (List.mem_append_right _ h)
theorem fg_X6_madeWith_18 : aFl wsX6_madeWith RX6 18 6 2 := ⟨RX6, TX6, 20, rfl, in_X6_madeWith_6, by decide, (List.mem_of_getElem? (i := 1) rfl), rfl⟩
theorem fg_X6_madeWith_21 : aFl wsX6_madeWith RX6 21 6 3 := ⟨RX6, TX6, 20, rfl, in_X6_madeWith_6, by decide, (List.mem_of_getElem? (i := 2) rfl), rfl⟩
theorem fg_X6_madeWith_41 : aFl wsX6_madeWith RX6 41 6 9 := ⟨RX6, TX6, 20, rfl, in_X6_madeWith_6, by decide, (List.mem_of_getElem? (i := 3) rfl), rfl⟩
set_option maxRecDepth 100000 in
set_option maxHeartbeats 4000000 in
theorem m_X6_madeWith {l : Launch} {g : aG} {this : Nat} {a1 : Int} {a2 : Int} {σ : Hp} {r : Int × Hp} (h : F_Net_madeWith this a1 a2 σ = some r) : aMet l g shC yX6_madeWith wsX6_madeWith rm_X6_madeWith [vR this, vI a1, vI a2] σ 0 r := by
  unfold F_Net_madeWith at h
  obtain ⟨ht, h⟩ := gdD h
  refine aMet_of (bytes := cX6_madeWith) (maxL := 5) (ret := (some .int)) (by decide +kernel) rfl (Nat.le_of_ble_eq_true rfl) ⟨rfl, rfl⟩ (fun x e1 e2 X E => ?_)
  subst e1; subst e2
  have X : aX x cX6_madeWith wsX6_madeWith RX6 5 rm_X6_madeWith := X
  show aS x shC 5 0 [(0, vR this), (1, vI a1), (2, vI a2)] [] σ
  refine A_aload_n X 0 rfl rfl dX6_madeWith_0 ?_
  refine A_getR X fg_X6_madeWith_18 (shNet ht) (k := 2) rfl (by decide) dX6_madeWith_1 ?_
  refine A_iload_n X 1 rfl rfl dX6_madeWith_4 ?_
  obtain ⟨g1, h⟩ := gdD h
  refine A_iald X g1 (shNet_first ht) dX6_madeWith_5 ?_
  refine A_istore_nN X (L' := fun y3_2 => [(3, vI y3_2), (0, vR this), (1, vI a1), (2, vI a2)]) rfl (by decide) (fun _ => rfl) dX6_madeWith_6 (fun y3_2 hy => ?_)
  replace h := ltD h y3_2 hy
  clear hy
  refine A_aload_n X 1 rfl rfl dX6_madeWith_7 ?_
  refine A_getR X fg_X6_madeWith_21 (shNet ht) (k := 3) rfl (by decide) dX6_madeWith_8 ?_
  refine A_iload_n X 2 rfl rfl dX6_madeWith_11 ?_
  obtain ⟨g3, h⟩ := gdD h
  refine A_iald X g3 (shNet_second ht) dX6_madeWith_12 ?_
  refine A_istoreN X (L' := fun y4_4 => [(4, vI y4_4), (3, vI y3_2), (0, vR this), (1, vI a1), (2, vI a2)]) (by decide) (fun _ => rfl) dX6_madeWith_13 (fun y4_4 hy => ?_)
  replace h := ltD h y4_4 hy
  clear hy
  refine A_iload_n X 4 rfl rfl dX6_madeWith_15 ?_
  refine A_aload_n X 2 rfl rfl dX6_madeWith_16 ?_
  refine A_getR X fg_X6_madeWith_41 (shNet ht) (k := 9) rfl (by decide) dX6_madeWith_17 ?_
  refine A_iload_n X 1 rfl rfl dX6_madeWith_20 ?_
  obtain ⟨g5, h⟩ := gdD h
  refine A_aald X g5 (shNet_taste ht) dX6_madeWith_21 ?_
  refine A_iload X 0 rfl dX6_madeWith_22 ?_
  obtain ⟨g6, h⟩ := gdD h
  refine A_iald X g6 (shNet_taste_r ht g5) dX6_madeWith_24 ?_
  refine A_iadd X dX6_madeWith_25 ?_
  refine A_aload_n X 2 rfl rfl dX6_madeWith_26 ?_
  refine A_getR X fg_X6_madeWith_41 (shNet ht) (k := 9) rfl (by decide) dX6_madeWith_27 ?_
  refine A_iload X 0 rfl dX6_madeWith_30 ?_
  obtain ⟨g7, h⟩ := gdD h
  refine A_aald X g7 (shNet_taste ht) dX6_madeWith_32 ?_
  refine A_iload_n X 1 rfl rfl dX6_madeWith_33 ?_
  obtain ⟨g8, h⟩ := gdD h
  refine A_iald X g8 (shNet_taste_r ht g7) dX6_madeWith_34 ?_
  refine A_iadd X dX6_madeWith_35 ?_
  exact A_ireturn X E h dX6_madeWith_36
abbrev rm_X10_look : Room := { frames := 5, cells := 0, slots := 0, locals := 115 }
theorem in_X10_look_10 : ∀ w ∈ u_ws RX10 TX10 3, w ∈ wsX10_look := fun w h => List.mem_cons_of_mem _ (List.mem_append_left _ (List.mem_append_left _ (List.mem_append_right _ h)))
theorem fg_X10_look_15 : aFl wsX10_look RX10 15 10 1 := ⟨RX10, TX10, 3, rfl, in_X10_look_10, by decide, (List.mem_of_getElem? (i := 4) rfl), rfl⟩
theorem fg_X10_look_19 : aFl wsX10_look RX10 19 10 2 := ⟨RX10, TX10, 3, rfl, in_X10_look_10, by decide, (List.mem_of_getElem? (i := 1) rfl), rfl⟩
theorem fg_X10_look_9 : aFl wsX10_look RX10 9 10 0 := ⟨RX10, TX10, 3, rfl, in_X10_look_10, by decide, (List.mem_of_getElem? (i := 3) rfl), rfl⟩
theorem in_X10_look_6 : ∀ w ∈ u_ws RX6 TX6 20, w ∈ wsX10_look := fun w h => List.mem_cons_of_mem _ (List.mem_append_left _ (List.mem_append_right _ h))
theorem fg_X10_look_23 : aFl wsX10_look RX10 23 6 16 := ⟨RX6, TX6, 20, rfl, in_X10_look_6, by decide, (List.mem_of_getElem? (i := 2) rfl), rfl⟩
theorem fp_X10_look_19 : aFp wsX10_look RX10 19 10 2 (.object "RoadDeals$Net") := ⟨RX10, TX10, 3, tyX10, rfl, in_X10_look_10, by decide, (List.mem_of_getElem? (i := 1) rfl), rfl, tyX10_ok, nmX10, rfl, rfl⟩
set_option maxRecDepth 100000 in
set_option maxHeartbeats 4000000 in
theorem w_X10_look_94 {x : aC} {r : Int × Hp} {k8 : Int × Hp → Option (Int × Hp)} {a1 : Nat} {a3 : Int} {a4 : Int} (X : aX x cX10_look wsX10_look RX10 7 rm_X10_look) (E : aE x shC none 3 r) (hk8 : ∀ (x5 : Int) (σ : Hp), k8 (x5, σ) = some r → aS x shC 7 8 [(0, vR 88), (2, vR 46), (3, vI a3), (4, vI a4), (5, vI x5)] [] σ) (ha1 : isNet a1) (x5 : Int) (t3 : Int) (t2 : Int) (σ : Hp) (h : F_View_look_94 k8 a1 a3 a4 x5 t3 t2 σ = some r) : aS x shC 7 94 [(0, vR 88), (2, vR 46), (3, vI a3), (4, vI a4), (5, vI x5)] [vI t3, vI t2, vR 90] σ := by
  unfold F_View_look_94 at h
  obtain ⟨g1, h⟩ := gdD h
  refine A_iast X g1 shC_90 dX10_look_94 (fun s2 hy => ?_)
  replace h := ltD h s2 hy
  clear hy
  refine A_iinc X (L' := fun y5_3 => [(5, vI y5_3), (0, vR 88), (2, vR 46), (3, vI a3), (4, vI a4)]) 4 rfl (by decide) (fun _ => rfl) dX10_look_95 (by decide) (fun y5_3 hy => ?_)
  replace h := ltD h y5_3 hy
  clear hy
  refine A_goto X (tgt := 8) (by decide) dX10_look_98 ?_
  refine A_sub [1, 2, 3, 4, 0] rfl (L' := [(0, vR 88), (2, vR 46), (3, vI a3), (4, vI a4), (5, vI y5_3)]) rfl ?_
  exact hk8 y5_3 s2 h
set_option maxRecDepth 100000 in
set_option maxHeartbeats 4000000 in
theorem w_X10_look_66 {x : aC} {r : Int × Hp} {k8 : Int × Hp → Option (Int × Hp)} {a1 : Nat} {a3 : Int} {a4 : Int} (X : aX x cX10_look wsX10_look RX10 7 rm_X10_look) (E : aE x shC none 3 r) (hk8 : ∀ (x5 : Int) (σ : Hp), k8 (x5, σ) = some r → aS x shC 7 8 [(0, vR 88), (2, vR 46), (3, vI a3), (4, vI a4), (5, vI x5)] [] σ) (ha1 : isNet a1) (x5 : Int) (x6 : Int) (t3 : Int) (t2 : Int) (σ : Hp) (h : F_View_look_66 k8 a1 a3 a4 x5 x6 t3 t2 σ = some r) : aS x shC 7 66 [(0, vR 88), (2, vR 46), (3, vI a3), (4, vI a4), (5, vI x5), (6, vI x6)] [vI t3, vI t2, vR 89] σ := by
  unfold F_View_look_66 at h
  obtain ⟨g4, h⟩ := gdD h
  refine A_zast X g4 shC_89 dX10_look_66 (fun s5 hy => ?_)
  replace h := ltD h s5 hy
  clear hy
  refine A_aload_n X 0 rfl rfl dX10_look_67 ?_
  refine A_getR X fg_X10_look_15 shC_88 (k := 1) rfl (by decide) dX10_look_68 ?_
  refine A_iload X 4 rfl dX10_look_71 ?_
  refine A_iload X 5 rfl dX10_look_73 ?_
  refine A_iconst X dX10_look_75 (z := (-1)) (by decide) ?_
  refine A_icmp_ne X (tgt := 83) (by decide) dX10_look_76 (fun c6 => ?_) (fun c6 => ?_)
  · replace h := ifF h c6
    refine A_aload_n X 0 rfl rfl dX10_look_83 ?_
    refine A_getV X fg_X10_look_19 shC_88 (k := 2) rfl (by decide) dX10_look_84 ?_
    obtain ⟨q7, hy⟩ : ∃ y, y = (s5 88 2).toNat := ⟨_, rfl⟩
    replace h := ltD h q7 hy
    rw [← hy]
    clear hy
    obtain ⟨g8, h⟩ := gdD h
    refine A_iload X 4 rfl dX10_look_87 ?_
    refine A_iload X 5 rfl dX10_look_89 ?_
    obtain ⟨v9, s10, e11, h⟩ := clD h
    refine A_callV_I (na := 2) X (m_X6_madeWith e11) gX10_look_X6_madeWith rfl ⟨rfl, rfl⟩ (by decide +kernel) rfl ⟨Nat.le_of_ble_eq_true rfl, Nat.le_of_ble_eq_true rfl⟩ (shNet g8) (by decide) rfl rfl (Nat.le_of_ble_eq_true rfl) dX10_look_91 ?_
    refine A_sub [0, 1, 2, 3, 4] rfl (L' := [(0, vR 88), (2, vR 46), (3, vI a3), (4, vI a4), (5, vI x5)]) rfl ?_
    exact w_X10_look_94 (a1 := a1) (a3 := a3) (a4 := a4) X E hk8 ha1 x5 v9 x5 s10 h
  · replace h := ifT h c6
    refine A_iconst X dX10_look_79 (z := 0) (by decide) ?_
    refine A_goto X (tgt := 94) (by decide) dX10_look_80 ?_
    refine A_sub [0, 1, 2, 3, 4] rfl (L' := [(0, vR 88), (2, vR 46), (3, vI a3), (4, vI a4), (5, vI x5)]) rfl ?_
    exact w_X10_look_94 (a1 := a1) (a3 := a3) (a4 := a4) X E hk8 ha1 x5 0 x5 s5 h
set_option maxRecDepth 100000 in
set_option maxHeartbeats 4000000 in
theorem w_X10_look_49 {x : aC} {r : Int × Hp} {k8 : Int × Hp → Option (Int × Hp)} {a1 : Nat} {a3 : Int} {a4 : Int} (X : aX x cX10_look wsX10_look RX10 7 rm_X10_look) (E : aE x shC none 3 r) (hk8 : ∀ (x5 : Int) (σ : Hp), k8 (x5, σ) = some r → aS x shC 7 8 [(0, vR 88), (2, vR 46), (3, vI a3), (4, vI a4), (5, vI x5)] [] σ) (ha1 : isNet a1) (x5 : Int) (x6 : Int) (σ : Hp) (h : F_View_look_49 k8 a1 a3 a4 x5 x6 σ = some r) : aS x shC 7 49 [(0, vR 88), (2, vR 46), (3, vI a3), (4, vI a4), (5, vI x5), (6, vI x6)] [] σ := by
  unfold F_View_look_49 at h
  refine A_aload_n X 0 rfl rfl dX10_look_49 ?_
  refine A_getR X fg_X10_look_9 shC_88 (k := 0) rfl (by decide) dX10_look_50 ?_
  refine A_iload X 4 rfl dX10_look_53 ?_
  refine A_iload X 5 rfl dX10_look_55 ?_
  refine A_iconst X dX10_look_57 (z := (-1)) (by decide) ?_
  refine A_icmp_eq X (tgt := 65) (by decide) dX10_look_58 (fun c12 => ?_) (fun c12 => ?_)
  · replace h := ifT h c12
    refine A_iconst X dX10_look_65 (z := 0) (by decide) ?_
    exact w_X10_look_66 (a1 := a1) (a3 := a3) (a4 := a4) X E hk8 ha1 x5 x6 0 x5 σ h
  · replace h := ifF h c12
    refine A_iconst X dX10_look_61 (z := 1) (by decide) ?_
    refine A_goto X (tgt := 66) (by decide) dX10_look_62 ?_
    exact w_X10_look_66 (a1 := a1) (a3 := a3) (a4 := a4) X E hk8 ha1 x5 x6 1 x5 σ h
set_option maxRecDepth 100000 in
set_option maxHeartbeats 4000000 in
theorem w_X10_look_8_b {x : aC} {r : Int × Hp} {k8 : Int × Hp → Option (Int × Hp)} {a1 : Nat} {a3 : Int} {a4 : Int} (X : aX x cX10_look wsX10_look RX10 7 rm_X10_look) (E : aE x shC none 3 r) (hk8 : ∀ (x5 : Int) (σ : Hp), k8 (x5, σ) = some r → aS x shC 7 8 [(0, vR 88), (2, vR 46), (3, vI a3), (4, vI a4), (5, vI x5)] [] σ) (ha1 : isNet a1) (x5 : Int) (σ : Hp) (h : F_View_look_8_b k8 a1 a3 a4 x5 σ = some r) : aS x shC 7 8 [(0, vR 88), (2, vR 46), (3, vI a3), (4, vI a4), (5, vI x5)] [] σ := by
  unfold F_View_look_8_b at h
  refine A_iload X 4 rfl dX10_look_8 ?_
  refine A_aload_n X 0 rfl rfl dX10_look_10 ?_
  refine A_getV X fg_X10_look_19 shC_88 (k := 2) rfl (by decide) dX10_look_11 ?_
  obtain ⟨q13, hy⟩ : ∃ y, y = (σ 88 2).toNat := ⟨_, rfl⟩
  replace h := ltD h q13 hy
  rw [← hy]
  clear hy
  obtain ⟨g14, h⟩ := gdD h
  refine A_getI X fg_X10_look_23 (shNet g14) (k := 16) rfl (by decide) dX10_look_14 ?_
  refine A_icmp_ge X (tgt := 101) (by decide) dX10_look_17 (fun c15 => ?_) (fun c15 => ?_)
  · replace h := ifT h c15
    exact A_return X E h dX10_look_101
  · replace h := ifF h c15
    refine A_aload_n X 1 rfl rfl dX10_look_20 ?_
    refine A_iload X 4 rfl dX10_look_21 ?_
    refine A_iload_n X 2 rfl rfl dX10_look_23 ?_
    obtain ⟨v16, s17, e18, h⟩ := clD h
    refine A_callV_I (na := 2) X (m_X0_knownWorth e18) gX10_look_X0_knownWorth rfl ⟨rfl, rfl⟩ (by decide +kernel) rfl ⟨Nat.le_of_ble_eq_true rfl, Nat.le_of_ble_eq_true rfl⟩ shC_46 (by decide) rfl rfl (Nat.le_of_ble_eq_true rfl) dX10_look_24 ?_
    refine A_istore X (L' := [(6, vI v16), (0, vR 88), (2, vR 46), (3, vI a3), (4, vI a4), (5, vI x5)]) (by decide) rfl dX10_look_27 ?_
    refine A_iload X 0 rfl dX10_look_29 ?_
    refine A_bipush X dX10_look_31 (z := (-2)) (by decide) ?_
    refine A_icmp_ne X (tgt := 49) (by decide) dX10_look_33 (fun c19 => ?_) (fun c19 => ?_)
    · replace h := ifF h c19
      refine A_sub [1, 2, 3, 4, 5, 0] rfl (L' := [(0, vR 88), (2, vR 46), (3, vI a3), (4, vI a4), (5, vI x5), (6, vI v16)]) rfl ?_
      exact w_X10_look_49 (a1 := a1) (a3 := a3) (a4 := a4) X E hk8 ha1 x5 v16 s17 h
    · replace h := ifT h c19
      refine A_aload_n X 1 rfl rfl dX10_look_36 ?_
      refine A_getV X fg_X10_look_19 shC_88 (k := 2) rfl (by decide) dX10_look_37 ?_
      obtain ⟨q20, hy⟩ : ∃ y, y = (s17 88 2).toNat := ⟨_, rfl⟩
      replace h := ltD h q20 hy
      rw [← hy]
      clear hy
      obtain ⟨g21, h⟩ := gdD h
      refine A_iload X 5 rfl dX10_look_40 ?_
      refine A_iload X 4 rfl dX10_look_42 ?_
      obtain ⟨v22, s23, e24, h⟩ := clD h
      refine A_callV_I (na := 2) X (m_X6_worthOn e24) gX10_look_X6_worthOn rfl ⟨rfl, rfl⟩ (by decide +kernel) rfl ⟨Nat.le_of_ble_eq_true rfl, Nat.le_of_ble_eq_true rfl⟩ (shNet g21) (by decide) rfl rfl (Nat.le_of_ble_eq_true rfl) dX10_look_44 ?_
      refine A_istore X (L' := [(6, vI v22), (0, vR 88), (2, vR 46), (3, vI a3), (4, vI a4), (5, vI x5)]) (by decide) rfl dX10_look_47 ?_
      refine A_sub [1, 2, 3, 4, 5, 0] rfl (L' := [(0, vR 88), (2, vR 46), (3, vI a3), (4, vI a4), (5, vI x5), (6, vI v22)]) rfl ?_
      exact w_X10_look_49 (a1 := a1) (a3 := a3) (a4 := a4) X E hk8 ha1 x5 v22 s23 h
set_option maxRecDepth 100000 in
set_option maxHeartbeats 4000000 in
theorem w_X10_look_8 {x : aC} {r : Int × Hp} {a1 : Nat} {a3 : Int} {a4 : Int} (X : aX x cX10_look wsX10_look RX10 7 rm_X10_look) (E : aE x shC none 3 r) (ha1 : isNet a1) : ∀ (n : Nat) (x5 : Int) (σ : Hp) (h : F_View_look_8 a1 a3 a4 n (x5, σ) = some r), aS x shC 7 8 [(0, vR 88), (2, vR 46), (3, vI a3), (4, vI a4), (5, vI x5)] [] σ := by
  intro n
  induction n with
  | zero => intro x5 σ h; cases h
  | succ n ih => intro x5 σ h; exact w_X10_look_8_b (a1 := a1) (a3 := a3) (a4 := a4) (k8 := F_View_look_8 a1 a3 a4 n) X E ih ha1 x5 σ h
set_option maxRecDepth 100000 in
set_option maxHeartbeats 4000000 in
theorem m_X10_look {l : Launch} {g : aG} {a1 : Nat} {a3 : Int} {a4 : Int} {σ : Hp} {r : Int × Hp} (h : F_View_look a1 a3 a4 σ = some r) : aMet l g shC yX10_look wsX10_look rm_X10_look [vR 88, vR a1, vR 46, vI a3, vI a4] σ 3 r := by
  unfold F_View_look at h
  obtain ⟨ha1, h⟩ := gdD h
  refine aMet_of (bytes := cX10_look) (maxL := 7) (ret := none) (by decide +kernel) rfl (Nat.le_of_ble_eq_true rfl) ⟨rfl, rfl⟩ (fun x e1 e2 X E => ?_)
  subst e1; subst e2
  have X : aX x cX10_look wsX10_look RX10 7 rm_X10_look := X
  show aS x shC 7 0 [(0, vR 88), (1, vR a1), (2, vR 46), (3, vI a3), (4, vI a4)] [] σ
  refine A_aload_n X 0 rfl rfl dX10_look_0 ?_
  refine A_aload_n X 1 rfl rfl dX10_look_1 ?_
  refine A_putV X (bNet ha1) fp_X10_look_19 shC_88 (k := 2) rfl (by decide) dX10_look_2 (fun s25 hy => ?_)
  replace h := ltD h s25 hy
  clear hy
  refine A_iconst X dX10_look_5 (z := 0) (by decide) ?_
  refine A_istore X (L' := [(5, vI 0), (0, vR 88), (1, vR a1), (2, vR 46), (3, vI a3), (4, vI a4)]) (by decide) rfl dX10_look_6 ?_
  refine A_sub [1, 3, 4, 5, 0] rfl (L' := [(0, vR 88), (2, vR 46), (3, vI a3), (4, vI a4), (5, vI 0)]) rfl ?_
  exact w_X10_look_8 (a1 := a1) (a3 := a3) (a4 := a4) X E ha1 FU 0 s25 h
abbrev rm_X6_gainWith : Room := { frames := 1, cells := 0, slots := 0, locals := 24 }
theorem in_X6_gainWith_6 : ∀ w ∈ u_ws RX6 TX6 20, w ∈ wsX6_gainWith := fun w h => List.mem_cons_of_mem _ (List.mem_append_right _ h)
theorem fg_X6_gainWith_15 : aFl wsX6_gainWith RX6 15 6 1 := ⟨RX6, TX6, 20, rfl, in_X6_gainWith_6, by decide, (List.mem_of_getElem? (i := 1) rfl), rfl⟩
theorem fg_X6_gainWith_18 : aFl wsX6_gainWith RX6 18 6 2 := ⟨RX6, TX6, 20, rfl, in_X6_gainWith_6, by decide, (List.mem_of_getElem? (i := 2) rfl), rfl⟩
theorem fg_X6_gainWith_21 : aFl wsX6_gainWith RX6 21 6 3 := ⟨RX6, TX6, 20, rfl, in_X6_gainWith_6, by decide, (List.mem_of_getElem? (i := 3) rfl), rfl⟩
set_option maxRecDepth 100000 in
set_option maxHeartbeats 4000000 in
theorem m_X6_gainWith {l : Launch} {g : aG} {this : Nat} {a1 : Int} {a2 : Int} {σ : Hp} {r : Int × Hp} (h : F_Net_gainWith this a1 a2 σ = some r) : aMet l g shC yX6_gainWith wsX6_gainWith rm_X6_gainWith [vR this, vI a1, vI a2] σ 0 r := by
  unfold F_Net_gainWith at h
  obtain ⟨ht, h⟩ := gdD h
  refine aMet_of (bytes := cX6_gainWith) (maxL := 3) (ret := (some .int)) (by decide +kernel) rfl (Nat.le_of_ble_eq_true rfl) ⟨rfl, rfl⟩ (fun x e1 e2 X E => ?_)
  subst e1; subst e2
  have X : aX x cX6_gainWith wsX6_gainWith RX6 3 rm_X6_gainWith := X
  show aS x shC 3 0 [(0, vR this), (1, vI a1), (2, vI a2)] [] σ
  refine A_aload_n X 0 rfl rfl dX6_gainWith_0 ?_
  refine A_iload_n X 1 rfl rfl dX6_gainWith_1 ?_
  refine A_iload_n X 2 rfl rfl dX6_gainWith_2 ?_
  obtain ⟨v1, s2, e3, h⟩ := clD h
  refine A_callV_I (na := 2) X (m_X6_madeWith e3) gX6_gainWith_X6_madeWith rfl ⟨rfl, rfl⟩ (by decide +kernel) rfl ⟨Nat.le_of_ble_eq_true rfl, Nat.le_of_ble_eq_true rfl⟩ (shNet ht) (by decide) rfl rfl (Nat.le_of_ble_eq_true rfl) dX6_gainWith_3 ?_
  refine A_aload_n X 0 rfl rfl dX6_gainWith_6 ?_
  refine A_getR X fg_X6_gainWith_15 (shNet ht) (k := 1) rfl (by decide) dX6_gainWith_7 ?_
  refine A_aload_n X 0 rfl rfl dX6_gainWith_10 ?_
  refine A_getR X fg_X6_gainWith_18 (shNet ht) (k := 2) rfl (by decide) dX6_gainWith_11 ?_
  refine A_iload_n X 1 rfl rfl dX6_gainWith_14 ?_
  obtain ⟨g4, h⟩ := gdD h
  refine A_iald X g4 (shNet_first ht) dX6_gainWith_15 ?_
  obtain ⟨g5, h⟩ := gdD h
  refine A_iald X g5 (shNet_alone ht) dX6_gainWith_16 ?_
  refine A_isub X dX6_gainWith_17 ?_
  refine A_aload_n X 0 rfl rfl dX6_gainWith_18 ?_
  refine A_getR X fg_X6_gainWith_15 (shNet ht) (k := 1) rfl (by decide) dX6_gainWith_19 ?_
  refine A_aload_n X 0 rfl rfl dX6_gainWith_22 ?_
  refine A_getR X fg_X6_gainWith_21 (shNet ht) (k := 3) rfl (by decide) dX6_gainWith_23 ?_
  refine A_iload_n X 1 rfl rfl dX6_gainWith_26 ?_
  obtain ⟨g6, h⟩ := gdD h
  refine A_iald X g6 (shNet_second ht) dX6_gainWith_27 ?_
  obtain ⟨g7, h⟩ := gdD h
  refine A_iald X g7 (shNet_alone ht) dX6_gainWith_28 ?_
  refine A_isub X dX6_gainWith_29 ?_
  exact A_ireturn X E h dX6_gainWith_30
abbrev rm_X6_everybody : Room := { frames := 0, cells := 0, slots := 0, locals := 0 }
theorem in_X6_everybody_6 : ∀ w ∈ u_ws RX6 TX6 20, w ∈ wsX6_everybody := fun w h => List.mem_cons_of_mem _ (List.mem_append_right _ h)
theorem fg_X6_everybody_60 : aFl wsX6_everybody RX6 60 6 15 := ⟨RX6, TX6, 20, rfl, in_X6_everybody_6, by decide, (List.mem_of_getElem? (i := 1) rfl), rfl⟩
set_option maxRecDepth 100000 in
set_option maxHeartbeats 4000000 in
theorem m_X6_everybody {l : Launch} {g : aG} {this : Nat} {σ : Hp} {r : Int × Hp} (h : F_Net_everybody this σ = some r) : aMet l g shC yX6_everybody wsX6_everybody rm_X6_everybody [vR this] σ 0 r := by
  unfold F_Net_everybody at h
  obtain ⟨ht, h⟩ := gdD h
  refine aMet_of (bytes := cX6_everybody) (maxL := 1) (ret := (some .int)) (by decide +kernel) rfl (Nat.le_of_ble_eq_true rfl) ⟨rfl, rfl⟩ (fun x e1 e2 X E => ?_)
  subst e1; subst e2
  have X : aX x cX6_everybody wsX6_everybody RX6 1 rm_X6_everybody := X
  show aS x shC 1 0 [(0, vR this)] [] σ
  refine A_iconst X dX6_everybody_0 (z := 1) (by decide) ?_
  refine A_aload_n X 0 rfl rfl dX6_everybody_1 ?_
  refine A_getI X fg_X6_everybody_60 (shNet ht) (k := 15) rfl (by decide) dX6_everybody_2 ?_
  refine A_ishl X dX6_everybody_5 ?_
  refine A_iconst X dX6_everybody_6 (z := 1) (by decide) ?_
  refine A_isub X dX6_everybody_7 ?_
  exact A_ireturn X E h dX6_everybody_8
abbrev rm_X6_pairOf : Room := { frames := 0, cells := 0, slots := 0, locals := 0 }
theorem in_X6_pairOf_6 : ∀ w ∈ u_ws RX6 TX6 20, w ∈ wsX6_pairOf := fun w h => List.mem_cons_of_mem _ (List.mem_append_right _ h)
theorem fg_X6_pairOf_18 : aFl wsX6_pairOf RX6 18 6 2 := ⟨RX6, TX6, 20, rfl, in_X6_pairOf_6, by decide, (List.mem_of_getElem? (i := 1) rfl), rfl⟩
theorem fg_X6_pairOf_21 : aFl wsX6_pairOf RX6 21 6 3 := ⟨RX6, TX6, 20, rfl, in_X6_pairOf_6, by decide, (List.mem_of_getElem? (i := 2) rfl), rfl⟩
set_option maxRecDepth 100000 in
set_option maxHeartbeats 4000000 in
theorem m_X6_pairOf {l : Launch} {g : aG} {this : Nat} {a1 : Int} {σ : Hp} {r : Int × Hp} (h : F_Net_pairOf this a1 σ = some r) : aMet l g shC yX6_pairOf wsX6_pairOf rm_X6_pairOf [vR this, vI a1] σ 0 r := by
  unfold F_Net_pairOf at h
  obtain ⟨ht, h⟩ := gdD h
  refine aMet_of (bytes := cX6_pairOf) (maxL := 2) (ret := (some .int)) (by decide +kernel) rfl (Nat.le_of_ble_eq_true rfl) ⟨rfl, rfl⟩ (fun x e1 e2 X E => ?_)
  subst e1; subst e2
  have X : aX x cX6_pairOf wsX6_pairOf RX6 2 rm_X6_pairOf := X
  show aS x shC 2 0 [(0, vR this), (1, vI a1)] [] σ
  refine A_iconst X dX6_pairOf_0 (z := 1) (by decide) ?_
  refine A_aload_n X 0 rfl rfl dX6_pairOf_1 ?_
  refine A_getR X fg_X6_pairOf_18 (shNet ht) (k := 2) rfl (by decide) dX6_pairOf_2 ?_
  refine A_iload_n X 1 rfl rfl dX6_pairOf_5 ?_
  obtain ⟨g1, h⟩ := gdD h
  refine A_iald X g1 (shNet_first ht) dX6_pairOf_6 ?_
  refine A_ishl X dX6_pairOf_7 ?_
  refine A_iconst X dX6_pairOf_8 (z := 1) (by decide) ?_
  refine A_aload_n X 0 rfl rfl dX6_pairOf_9 ?_
  refine A_getR X fg_X6_pairOf_21 (shNet ht) (k := 3) rfl (by decide) dX6_pairOf_10 ?_
  refine A_iload_n X 1 rfl rfl dX6_pairOf_13 ?_
  obtain ⟨g2, h⟩ := gdD h
  refine A_iald X g2 (shNet_second ht) dX6_pairOf_14 ?_
  refine A_ishl X dX6_pairOf_15 ?_
  refine A_ior X dX6_pairOf_16 ?_
  exact A_ireturn X E h dX6_pairOf_17
abbrev rm_X2_cut : Room := { frames := 0, cells := 0, slots := 0, locals := 0 }
theorem in_X2_cut_2 : ∀ w ∈ u_ws RX2 TX2 2, w ∈ wsX2_cut := fun w h => List.mem_cons_of_mem _ (List.mem_append_right _ h)
theorem fg_X2_cut_21 : aFl wsX2_cut RX2 21 2 1 := ⟨RX2, TX2, 2, rfl, in_X2_cut_2, by decide, (List.mem_of_getElem? (i := 1) rfl), rfl⟩
theorem fp_X2_cut_21 : aFp wsX2_cut RX2 21 2 1 .int := ⟨RX2, TX2, 2, tyX2, rfl, in_X2_cut_2, by decide, (List.mem_of_getElem? (i := 1) rfl), rfl, tyX2_ok, nmX2, rfl, rfl⟩
set_option maxRecDepth 100000 in
set_option maxHeartbeats 4000000 in
theorem w_X2_cut_12 {x : aC} {r : Int × Hp} {this : Nat} {a1 : Int} (X : aX x cX2_cut wsX2_cut RX2 2 rm_X2_cut) (E : aE x shC (some .boolean) 0 r) (ht : isBytes this) (σ : Hp) (h : F_Bytes_cut_12 this a1 σ = some r) : aS x shC 2 12 [] [] σ := by
  unfold F_Bytes_cut_12 at h
  refine A_iconst X dX2_cut_12 (z := 0) (by decide) ?_
  exact A_zreturn X (Or.inl rfl) E h dX2_cut_13
set_option maxRecDepth 100000 in
set_option maxHeartbeats 4000000 in
theorem m_X2_cut {l : Launch} {g : aG} {this : Nat} {a1 : Int} {σ : Hp} {r : Int × Hp} (h : F_Bytes_cut this a1 σ = some r) : aMet l g shC yX2_cut wsX2_cut rm_X2_cut [vR this, vI a1] σ 0 r := by
  unfold F_Bytes_cut at h
  obtain ⟨ht, h⟩ := gdD h
  refine aMet_of (bytes := cX2_cut) (maxL := 2) (ret := (some .boolean)) (by decide +kernel) rfl (Nat.le_of_ble_eq_true rfl) ⟨rfl, rfl⟩ (fun x e1 e2 X E => ?_)
  subst e1; subst e2
  have X : aX x cX2_cut wsX2_cut RX2 2 rm_X2_cut := X
  show aS x shC 2 0 [(0, vR this), (1, vI a1)] [] σ
  refine A_iload_n X 1 rfl rfl dX2_cut_0 ?_
  refine A_if_lt X (tgt := 12) (by decide) dX2_cut_1 (fun c1 => ?_) (fun c1 => ?_)
  · replace h := ifT h c1
    refine A_sub [] rfl (L' := []) rfl ?_
    exact w_X2_cut_12 (this := this) (a1 := a1) X E ht σ h
  · replace h := ifF h c1
    refine A_iload_n X 1 rfl rfl dX2_cut_4 ?_
    refine A_aload_n X 0 rfl rfl dX2_cut_5 ?_
    refine A_getI X fg_X2_cut_21 (shBytes ht) (k := 1) rfl (by decide) dX2_cut_6 ?_
    refine A_icmp_le X (tgt := 14) (by decide) dX2_cut_9 (fun c2 => ?_) (fun c2 => ?_)
    · replace h := ifT h c2
      refine A_aload_n X 0 rfl rfl dX2_cut_14 ?_
      refine A_iload_n X 1 rfl rfl dX2_cut_15 ?_
      refine A_putI X fp_X2_cut_21 (shBytes ht) (k := 1) rfl (by decide) dX2_cut_16 (fun s3 hy => ?_)
      replace h := ltD h s3 hy
      clear hy
      refine A_iconst X dX2_cut_19 (z := 1) (by decide) ?_
      exact A_zreturn X (Or.inr rfl) E h dX2_cut_20
    · replace h := ifF h c2
      refine A_sub [] rfl (L' := []) rfl ?_
      exact w_X2_cut_12 (this := this) (a1 := a1) X E ht σ h
abbrev rm_X5_begin : Room := { frames := 1, cells := 0, slots := 0, locals := 23 }
theorem in_X5_begin_5 : ∀ w ∈ u_ws RX5 TX5 8, w ∈ wsX5_begin := fun w h => List.mem_cons_of_mem _ (List.mem_append_right _ h)
theorem fg_X5_begin_42 : aFl wsX5_begin RX5 42 5 7 := ⟨RX5, TX5, 8, rfl, in_X5_begin_5, by decide, (List.mem_of_getElem? (i := 5) rfl), rfl⟩
theorem fg_X5_begin_13 : aFl wsX5_begin RX5 13 5 0 := ⟨RX5, TX5, 8, rfl, in_X5_begin_5, by decide, (List.mem_of_getElem? (i := 6) rfl), rfl⟩
theorem fp_X5_begin_42 : aFp wsX5_begin RX5 42 5 7 .int := ⟨RX5, TX5, 8, tyX5, rfl, in_X5_begin_5, by decide, (List.mem_of_getElem? (i := 5) rfl), rfl, tyX5_ok, nmX5, rfl, rfl⟩
set_option maxRecDepth 100000 in
set_option maxHeartbeats 4000000 in
theorem w_X5_begin_12_b {x : aC} {r : Int × Hp} {k12 : Int × Hp → Option (Int × Hp)} {a1 : Int} (X : aX x cX5_begin wsX5_begin RX5 3 rm_X5_begin) (E : aE x shC none 3 r) (hk12 : ∀ (x2 : Int) (σ : Hp), k12 (x2, σ) = some r → aS x shC 3 12 [(0, vR 91), (2, vI x2)] [] σ) (x2 : Int) (σ : Hp) (h : F_Mat_begin_12_b k12 a1 x2 σ = some r) : aS x shC 3 12 [(0, vR 91), (2, vI x2)] [] σ := by
  unfold F_Mat_begin_12_b at h
  refine A_iload_n X 1 rfl rfl dX5_begin_12 ?_
  refine A_aload_n X 0 rfl rfl dX5_begin_13 ?_
  refine A_getI X fg_X5_begin_42 shC_91 (k := 7) rfl (by decide) dX5_begin_14 ?_
  refine A_icmp_gt X (tgt := 36) (by decide) dX5_begin_17 (fun c1 => ?_) (fun c1 => ?_)
  · replace h := ifT h c1
    exact A_return X E h dX5_begin_36
  · replace h := ifF h c1
    refine A_aload_n X 0 rfl rfl dX5_begin_20 ?_
    refine A_getR X fg_X5_begin_13 shC_91 (k := 0) rfl (by decide) dX5_begin_21 ?_
    refine A_iload_n X 1 rfl rfl dX5_begin_24 ?_
    obtain ⟨g2, h⟩ := gdD h
    refine A_aald X g2 shC_92 dX5_begin_25 ?_
    refine A_iconst X dX5_begin_26 (z := 0) (by decide) ?_
    obtain ⟨v3, s4, e5, h⟩ := clD h
    refine A_callS_V (na := 2) X (m_J7_fill_53178 e5) gX5_begin_J7_fill_53178 rfl ⟨rfl, rfl⟩ (by decide +kernel) rfl ⟨Nat.le_of_ble_eq_true rfl, Nat.le_of_ble_eq_true rfl⟩ rfl (Nat.le_of_ble_eq_true rfl) dX5_begin_27 ?_
    refine A_iinc X (L' := fun y2_6 => [(2, vI y2_6), (0, vR 91)]) 1 rfl (by decide) (fun _ => rfl) dX5_begin_30 (by decide) (fun y2_6 hy => ?_)
    replace h := ltD h y2_6 hy
    clear hy
    refine A_goto X (tgt := 12) (by decide) dX5_begin_33 ?_
    refine A_sub [1, 0] rfl (L' := [(0, vR 91), (2, vI y2_6)]) rfl ?_
    exact hk12 y2_6 s4 h
set_option maxRecDepth 100000 in
set_option maxHeartbeats 4000000 in
theorem w_X5_begin_12 {x : aC} {r : Int × Hp} {a1 : Int} (X : aX x cX5_begin wsX5_begin RX5 3 rm_X5_begin) (E : aE x shC none 3 r) : ∀ (n : Nat) (x2 : Int) (σ : Hp) (h : F_Mat_begin_12 a1 n (x2, σ) = some r), aS x shC 3 12 [(0, vR 91), (2, vI x2)] [] σ := by
  intro n
  induction n with
  | zero => intro x2 σ h; cases h
  | succ n ih => intro x2 σ h; exact w_X5_begin_12_b (a1 := a1) (k12 := F_Mat_begin_12 a1 n) X E ih x2 σ h
set_option maxRecDepth 100000 in
set_option maxHeartbeats 4000000 in
theorem m_X5_begin {l : Launch} {g : aG} {a1 : Int} {σ : Hp} {r : Int × Hp} (h : F_Mat_begin a1 σ = some r) : aMet l g shC yX5_begin wsX5_begin rm_X5_begin [vR 91, vI a1] σ 3 r := by
  unfold F_Mat_begin at h
  refine aMet_of (bytes := cX5_begin) (maxL := 3) (ret := none) (by decide +kernel) rfl (Nat.le_of_ble_eq_true rfl) ⟨rfl, rfl⟩ (fun x e1 e2 X E => ?_)
  subst e1; subst e2
  have X : aX x cX5_begin wsX5_begin RX5 3 rm_X5_begin := X
  show aS x shC 3 0 [(0, vR 91), (1, vI a1)] [] σ
  refine A_aload_n X 0 rfl rfl dX5_begin_0 ?_
  refine A_iload_n X 1 rfl rfl dX5_begin_1 ?_
  refine A_bipush X dX5_begin_2 (z := 12) (by decide) ?_
  refine A_mmin X (List.mem_of_getElem? (i := 1) rfl) (List.mem_of_getElem? (i := 2) rfl) (List.mem_of_getElem? (i := 3) rfl) (List.mem_of_getElem? (i := 4) rfl) (Nat.le_of_ble_eq_true rfl) (Nat.le_of_ble_eq_true rfl) dX5_begin_4 ?_
  refine A_putI X fp_X5_begin_42 shC_91 (k := 7) rfl (by decide) dX5_begin_7 (fun s7 hy => ?_)
  replace h := ltD h s7 hy
  clear hy
  refine A_iconst X dX5_begin_10 (z := 0) (by decide) ?_
  refine A_istore_n X (L' := [(2, vI 0), (0, vR 91), (1, vI a1)]) rfl (by decide) rfl dX5_begin_11 ?_
  refine A_sub [1, 0] rfl (L' := [(0, vR 91), (2, vI 0)]) rfl ?_
  exact w_X5_begin_12 (a1 := a1) X E FU 0 s7 h
abbrev rm_X5_weigh : Room := { frames := 0, cells := 0, slots := 0, locals := 0 }
theorem in_X5_weigh_5 : ∀ w ∈ u_ws RX5 TX5 8, w ∈ wsX5_weigh := fun w h => List.mem_cons_of_mem _ (List.mem_append_right _ h)
theorem fg_X5_weigh_13 : aFl wsX5_weigh RX5 13 5 0 := ⟨RX5, TX5, 8, rfl, in_X5_weigh_5, by decide, (List.mem_of_getElem? (i := 1) rfl), rfl⟩
set_option maxRecDepth 100000 in
set_option maxHeartbeats 4000000 in
theorem m_X5_weigh {l : Launch} {g : aG} {a1 : Int} {a2 : Int} {a3 : Int} {σ : Hp} {r : Int × Hp} (h : F_Mat_weigh a1 a2 a3 σ = some r) : aMet l g shC yX5_weigh wsX5_weigh rm_X5_weigh [vR 91, vI a1, vI a2, vI a3] σ 3 r := by
  unfold F_Mat_weigh at h
  refine aMet_of (bytes := cX5_weigh) (maxL := 4) (ret := none) (by decide +kernel) rfl (Nat.le_of_ble_eq_true rfl) ⟨rfl, rfl⟩ (fun x e1 e2 X E => ?_)
  subst e1; subst e2
  have X : aX x cX5_weigh wsX5_weigh RX5 4 rm_X5_weigh := X
  show aS x shC 4 0 [(0, vR 91), (1, vI a1), (2, vI a2), (3, vI a3)] [] σ
  refine A_aload_n X 0 rfl rfl dX5_weigh_0 ?_
  refine A_getR X fg_X5_weigh_13 shC_91 (k := 0) rfl (by decide) dX5_weigh_1 ?_
  refine A_iload_n X 1 rfl rfl dX5_weigh_4 ?_
  refine A_iconst X dX5_weigh_5 (z := 1) (by decide) ?_
  refine A_iadd X dX5_weigh_6 ?_
  obtain ⟨g1, h⟩ := gdD h
  refine A_aald X g1 shC_92 dX5_weigh_7 ?_
  refine A_iload_n X 2 rfl rfl dX5_weigh_8 ?_
  refine A_iconst X dX5_weigh_9 (z := 1) (by decide) ?_
  refine A_iadd X dX5_weigh_10 ?_
  refine A_iload_n X 3 rfl rfl dX5_weigh_11 ?_
  obtain ⟨g2, h⟩ := gdD h
  refine A_iast X g2 (shMat_weight_r g1) dX5_weigh_12 (fun s3 hy => ?_)
  replace h := ltD h s3 hy
  clear hy
  refine A_aload_n X 0 rfl rfl dX5_weigh_13 ?_
  refine A_getR X fg_X5_weigh_13 shC_91 (k := 0) rfl (by decide) dX5_weigh_14 ?_
  refine A_iload_n X 2 rfl rfl dX5_weigh_17 ?_
  refine A_iconst X dX5_weigh_18 (z := 1) (by decide) ?_
  refine A_iadd X dX5_weigh_19 ?_
  obtain ⟨g4, h⟩ := gdD h
  refine A_aald X g4 shC_92 dX5_weigh_20 ?_
  refine A_iload_n X 1 rfl rfl dX5_weigh_21 ?_
  refine A_iconst X dX5_weigh_22 (z := 1) (by decide) ?_
  refine A_iadd X dX5_weigh_23 ?_
  refine A_iload_n X 3 rfl rfl dX5_weigh_24 ?_
  obtain ⟨g5, h⟩ := gdD h
  refine A_iast X g5 (shMat_weight_r g4) dX5_weigh_25 (fun s6 hy => ?_)
  replace h := ltD h s6 hy
  clear hy
  exact A_return X E h dX5_weigh_26
abbrev rm_X5_shiftPrices : Room := { frames := 0, cells := 0, slots := 0, locals := 0 }
theorem in_X5_shiftPrices_5 : ∀ w ∈ u_ws RX5 TX5 8, w ∈ wsX5_shiftPrices := fun w h => List.mem_cons_of_mem _ (List.mem_append_right _ h)
theorem fg_X5_shiftPrices_42 : aFl wsX5_shiftPrices RX5 42 5 7 := ⟨RX5, TX5, 8, rfl, in_X5_shiftPrices_5, by decide, (List.mem_of_getElem? (i := 1) rfl), rfl⟩
theorem fg_X5_shiftPrices_32 : aFl wsX5_shiftPrices RX5 32 5 6 := ⟨RX5, TX5, 8, rfl, in_X5_shiftPrices_5, by decide, (List.mem_of_getElem? (i := 2) rfl), rfl⟩
theorem fg_X5_shiftPrices_29 : aFl wsX5_shiftPrices RX5 29 5 5 := ⟨RX5, TX5, 8, rfl, in_X5_shiftPrices_5, by decide, (List.mem_of_getElem? (i := 6) rfl), rfl⟩
theorem fg_X5_shiftPrices_16 : aFl wsX5_shiftPrices RX5 16 5 1 := ⟨RX5, TX5, 8, rfl, in_X5_shiftPrices_5, by decide, (List.mem_of_getElem? (i := 3) rfl), rfl⟩
theorem fg_X5_shiftPrices_23 : aFl wsX5_shiftPrices RX5 23 5 3 := ⟨RX5, TX5, 8, rfl, in_X5_shiftPrices_5, by decide, (List.mem_of_getElem? (i := 4) rfl), rfl⟩
theorem fg_X5_shiftPrices_20 : aFl wsX5_shiftPrices RX5 20 5 2 := ⟨RX5, TX5, 8, rfl, in_X5_shiftPrices_5, by decide, (List.mem_of_getElem? (i := 5) rfl), rfl⟩
set_option maxRecDepth 100000 in
set_option maxHeartbeats 4000000 in
theorem w_X5_shiftPrices_57 {x : aC} {r : Int × Hp} {k2 : Int × Hp → Option (Int × Hp)} {a1 : Int} (X : aX x cX5_shiftPrices wsX5_shiftPrices RX5 3 rm_X5_shiftPrices) (E : aE x shC none 3 r) (hk2 : ∀ (x2 : Int) (σ : Hp), k2 (x2, σ) = some r → aS x shC 3 2 [(0, vR 91), (1, vI a1), (2, vI x2)] [] σ) (x2 : Int) (σ : Hp) (h : F_Mat_shiftPrices_57 k2 a1 x2 σ = some r) : aS x shC 3 57 [(0, vR 91), (1, vI a1), (2, vI x2)] [] σ := by
  unfold F_Mat_shiftPrices_57 at h
  refine A_iinc X (L' := fun y2_1 => [(2, vI y2_1), (0, vR 91), (1, vI a1)]) 2 rfl (by decide) (fun _ => rfl) dX5_shiftPrices_57 (by decide) (fun y2_1 hy => ?_)
  replace h := ltD h y2_1 hy
  clear hy
  refine A_goto X (tgt := 2) (by decide) dX5_shiftPrices_60 ?_
  refine A_sub [1, 2, 0] rfl (L' := [(0, vR 91), (1, vI a1), (2, vI y2_1)]) rfl ?_
  exact hk2 y2_1 σ h
set_option maxRecDepth 100000 in
set_option maxHeartbeats 4000000 in
theorem w_X5_shiftPrices_2_b {x : aC} {r : Int × Hp} {k2 : Int × Hp → Option (Int × Hp)} {a1 : Int} (X : aX x cX5_shiftPrices wsX5_shiftPrices RX5 3 rm_X5_shiftPrices) (E : aE x shC none 3 r) (hk2 : ∀ (x2 : Int) (σ : Hp), k2 (x2, σ) = some r → aS x shC 3 2 [(0, vR 91), (1, vI a1), (2, vI x2)] [] σ) (x2 : Int) (σ : Hp) (h : F_Mat_shiftPrices_2_b k2 a1 x2 σ = some r) : aS x shC 3 2 [(0, vR 91), (1, vI a1), (2, vI x2)] [] σ := by
  unfold F_Mat_shiftPrices_2_b at h
  refine A_iload_n X 2 rfl rfl dX5_shiftPrices_2 ?_
  refine A_aload_n X 0 rfl rfl dX5_shiftPrices_3 ?_
  refine A_getI X fg_X5_shiftPrices_42 shC_91 (k := 7) rfl (by decide) dX5_shiftPrices_4 ?_
  refine A_icmp_gt X (tgt := 63) (by decide) dX5_shiftPrices_7 (fun c2 => ?_) (fun c2 => ?_)
  · replace h := ifT h c2
    exact A_return X E h dX5_shiftPrices_63
  · replace h := ifF h c2
    refine A_aload_n X 0 rfl rfl dX5_shiftPrices_10 ?_
    refine A_getR X fg_X5_shiftPrices_32 shC_91 (k := 6) rfl (by decide) dX5_shiftPrices_11 ?_
    refine A_iload_n X 2 rfl rfl dX5_shiftPrices_14 ?_
    obtain ⟨g3, h⟩ := gdD h
    refine A_zald X g3 shC_111 dX5_shiftPrices_15 ?_
    refine A_if_eq X (tgt := 47) (by decide) dX5_shiftPrices_16 (fun c4 => ?_) (fun c4 => ?_)
    · replace h := ifT h c4
      refine A_aload_n X 0 rfl rfl dX5_shiftPrices_47 ?_
      refine A_getR X fg_X5_shiftPrices_29 shC_91 (k := 5) rfl (by decide) dX5_shiftPrices_48 ?_
      refine A_iload_n X 2 rfl rfl dX5_shiftPrices_51 ?_
      refine A_dup2 X (by show ¬ (0 : Nat) = 1; decide) (by show ¬ (2 : Nat) = 1; decide) dX5_shiftPrices_52 ?_
      obtain ⟨g5, h⟩ := gdD h
      refine A_iald X g5 shC_110 dX5_shiftPrices_53 ?_
      refine A_iload_n X 1 rfl rfl dX5_shiftPrices_54 ?_
      refine A_isub X dX5_shiftPrices_55 ?_
      obtain ⟨g6, h⟩ := gdD h
      refine A_iast X g6 shC_110 dX5_shiftPrices_56 (fun s7 hy => ?_)
      replace h := ltD h s7 hy
      clear hy
      exact w_X5_shiftPrices_57 (a1 := a1) X E hk2 x2 s7 h
    · replace h := ifF h c4
      refine A_aload_n X 0 rfl rfl dX5_shiftPrices_19 ?_
      refine A_getR X fg_X5_shiftPrices_16 shC_91 (k := 1) rfl (by decide) dX5_shiftPrices_20 ?_
      refine A_aload_n X 0 rfl rfl dX5_shiftPrices_23 ?_
      refine A_getR X fg_X5_shiftPrices_23 shC_91 (k := 3) rfl (by decide) dX5_shiftPrices_24 ?_
      refine A_iload_n X 2 rfl rfl dX5_shiftPrices_27 ?_
      obtain ⟨g8, h⟩ := gdD h
      refine A_iald X g8 shC_108 dX5_shiftPrices_28 ?_
      refine A_dup2 X (by show ¬ (0 : Nat) = 1; decide) (by show ¬ (2 : Nat) = 1; decide) dX5_shiftPrices_29 ?_
      obtain ⟨g9, h⟩ := gdD h
      refine A_iald X g9 shC_106 dX5_shiftPrices_30 ?_
      refine A_iload_n X 1 rfl rfl dX5_shiftPrices_31 ?_
      refine A_iadd X dX5_shiftPrices_32 ?_
      obtain ⟨g10, h⟩ := gdD h
      refine A_iast X g10 shC_106 dX5_shiftPrices_33 (fun s11 hy => ?_)
      replace h := ltD h s11 hy
      clear hy
      refine A_aload_n X 0 rfl rfl dX5_shiftPrices_34 ?_
      refine A_getR X fg_X5_shiftPrices_20 shC_91 (k := 2) rfl (by decide) dX5_shiftPrices_35 ?_
      refine A_iload_n X 2 rfl rfl dX5_shiftPrices_38 ?_
      refine A_dup2 X (by show ¬ (0 : Nat) = 1; decide) (by show ¬ (2 : Nat) = 1; decide) dX5_shiftPrices_39 ?_
      obtain ⟨g12, h⟩ := gdD h
      refine A_iald X g12 shC_107 dX5_shiftPrices_40 ?_
      refine A_iload_n X 1 rfl rfl dX5_shiftPrices_41 ?_
      refine A_isub X dX5_shiftPrices_42 ?_
      obtain ⟨g13, h⟩ := gdD h
      refine A_iast X g13 shC_107 dX5_shiftPrices_43 (fun s14 hy => ?_)
      replace h := ltD h s14 hy
      clear hy
      refine A_goto X (tgt := 57) (by decide) dX5_shiftPrices_44 ?_
      exact w_X5_shiftPrices_57 (a1 := a1) X E hk2 x2 s14 h
set_option maxRecDepth 100000 in
set_option maxHeartbeats 4000000 in
theorem w_X5_shiftPrices_2 {x : aC} {r : Int × Hp} {a1 : Int} (X : aX x cX5_shiftPrices wsX5_shiftPrices RX5 3 rm_X5_shiftPrices) (E : aE x shC none 3 r) : ∀ (n : Nat) (x2 : Int) (σ : Hp) (h : F_Mat_shiftPrices_2 a1 n (x2, σ) = some r), aS x shC 3 2 [(0, vR 91), (1, vI a1), (2, vI x2)] [] σ := by
  intro n
  induction n with
  | zero => intro x2 σ h; cases h
  | succ n ih => intro x2 σ h; exact w_X5_shiftPrices_2_b (a1 := a1) (k2 := F_Mat_shiftPrices_2 a1 n) X E ih x2 σ h
set_option maxRecDepth 100000 in
set_option maxHeartbeats 4000000 in
theorem m_X5_shiftPrices {l : Launch} {g : aG} {a1 : Int} {σ : Hp} {r : Int × Hp} (h : F_Mat_shiftPrices a1 σ = some r) : aMet l g shC yX5_shiftPrices wsX5_shiftPrices rm_X5_shiftPrices [vR 91, vI a1] σ 3 r := by
  unfold F_Mat_shiftPrices at h
  refine aMet_of (bytes := cX5_shiftPrices) (maxL := 3) (ret := none) (by decide +kernel) rfl (Nat.le_of_ble_eq_true rfl) ⟨rfl, rfl⟩ (fun x e1 e2 X E => ?_)
  subst e1; subst e2
  have X : aX x cX5_shiftPrices wsX5_shiftPrices RX5 3 rm_X5_shiftPrices := X
  show aS x shC 3 0 [(0, vR 91), (1, vI a1)] [] σ
  refine A_iconst X dX5_shiftPrices_0 (z := 0) (by decide) ?_
  refine A_istore_n X (L' := [(2, vI 0), (0, vR 91), (1, vI a1)]) rfl (by decide) rfl dX5_shiftPrices_1 ?_
  refine A_sub [1, 2, 0] rfl (L' := [(0, vR 91), (1, vI a1), (2, vI 0)]) rfl ?_
  exact w_X5_shiftPrices_2 (a1 := a1) X E FU 0 σ h
abbrev rm_X5_nextColumn : Room := { frames := 1, cells := 0, slots := 0, locals := 22 }
theorem in_X5_nextColumn_5 : ∀ w ∈ u_ws RX5 TX5 8, w ∈ wsX5_nextColumn := fun w h => List.mem_cons_of_mem _ (List.mem_append_right _ h)
theorem fg_X5_nextColumn_29 : aFl wsX5_nextColumn RX5 29 5 5 := ⟨RX5, TX5, 8, rfl, in_X5_nextColumn_5, by decide, (List.mem_of_getElem? (i := 8) rfl), rfl⟩
theorem fg_X5_nextColumn_42 : aFl wsX5_nextColumn RX5 42 5 7 := ⟨RX5, TX5, 8, rfl, in_X5_nextColumn_5, by decide, (List.mem_of_getElem? (i := 4) rfl), rfl⟩
theorem fg_X5_nextColumn_32 : aFl wsX5_nextColumn RX5 32 5 6 := ⟨RX5, TX5, 8, rfl, in_X5_nextColumn_5, by decide, (List.mem_of_getElem? (i := 1) rfl), rfl⟩
theorem fg_X5_nextColumn_13 : aFl wsX5_nextColumn RX5 13 5 0 := ⟨RX5, TX5, 8, rfl, in_X5_nextColumn_5, by decide, (List.mem_of_getElem? (i := 5) rfl), rfl⟩
theorem fg_X5_nextColumn_16 : aFl wsX5_nextColumn RX5 16 5 1 := ⟨RX5, TX5, 8, rfl, in_X5_nextColumn_5, by decide, (List.mem_of_getElem? (i := 6) rfl), rfl⟩
theorem fg_X5_nextColumn_20 : aFl wsX5_nextColumn RX5 20 5 2 := ⟨RX5, TX5, 8, rfl, in_X5_nextColumn_5, by decide, (List.mem_of_getElem? (i := 7) rfl), rfl⟩
theorem fg_X5_nextColumn_26 : aFl wsX5_nextColumn RX5 26 5 4 := ⟨RX5, TX5, 8, rfl, in_X5_nextColumn_5, by decide, (List.mem_of_getElem? (i := 9) rfl), rfl⟩
theorem fg_X5_nextColumn_23 : aFl wsX5_nextColumn RX5 23 5 3 := ⟨RX5, TX5, 8, rfl, in_X5_nextColumn_5, by decide, (List.mem_of_getElem? (i := 2) rfl), rfl⟩
set_option maxRecDepth 100000 in
set_option maxHeartbeats 4000000 in
theorem w_X5_nextColumn_122 {x : aC} {r : Int × Hp} {k23 : Int × Int × Int × Int × Hp → Option (Int × Hp)} {a1 : Int} (X : aX x cX5_nextColumn wsX5_nextColumn RX5 7 rm_X5_nextColumn) (E : aE x shC (some .int) 0 r) (hk23 : ∀ (x2 : Int) (x3 : Int) (x4 : Int) (x5 : Int) (σ : Hp), k23 (x2, x3, x4, x5, σ) = some r → aS x shC 7 23 [(0, vR 91), (1, vI a1), (2, vI x2), (3, vI x3), (4, vI x4), (5, vI x5)] [] σ) (x2 : Int) (x3 : Int) (x4 : Int) (x5 : Int) (σ : Hp) (h : F_Mat_nextColumn_122 k23 a1 x2 x3 x4 x5 σ = some r) : aS x shC 7 122 [(0, vR 91), (1, vI a1), (2, vI x2), (3, vI x3), (4, vI x4), (5, vI x5)] [] σ := by
  unfold F_Mat_nextColumn_122 at h
  refine A_iinc X (L' := fun y5_1 => [(5, vI y5_1), (0, vR 91), (1, vI a1), (2, vI x2), (3, vI x3), (4, vI x4)]) 5 rfl (by decide) (fun _ => rfl) dX5_nextColumn_122 (by decide) (fun y5_1 hy => ?_)
  replace h := ltD h y5_1 hy
  clear hy
  refine A_goto X (tgt := 23) (by decide) dX5_nextColumn_125 ?_
  refine A_sub [1, 2, 3, 4, 5, 0] rfl (L' := [(0, vR 91), (1, vI a1), (2, vI x2), (3, vI x3), (4, vI x4), (5, vI y5_1)]) rfl ?_
  exact hk23 x2 x3 x4 y5_1 σ h
set_option maxRecDepth 100000 in
set_option maxHeartbeats 4000000 in
theorem w_X5_nextColumn_98 {x : aC} {r : Int × Hp} {k23 : Int × Int × Int × Int × Hp → Option (Int × Hp)} {a1 : Int} (X : aX x cX5_nextColumn wsX5_nextColumn RX5 7 rm_X5_nextColumn) (E : aE x shC (some .int) 0 r) (hk23 : ∀ (x2 : Int) (x3 : Int) (x4 : Int) (x5 : Int) (σ : Hp), k23 (x2, x3, x4, x5, σ) = some r → aS x shC 7 23 [(0, vR 91), (1, vI a1), (2, vI x2), (3, vI x3), (4, vI x4), (5, vI x5)] [] σ) (x2 : Int) (x3 : Int) (x4 : Int) (x5 : Int) (σ : Hp) (h : F_Mat_nextColumn_98 k23 a1 x2 x3 x4 x5 σ = some r) : aS x shC 7 98 [(0, vR 91), (1, vI a1), (2, vI x2), (3, vI x3), (4, vI x4), (5, vI x5)] [] σ := by
  unfold F_Mat_nextColumn_98 at h
  refine A_aload_n X 0 rfl rfl dX5_nextColumn_98 ?_
  refine A_getR X fg_X5_nextColumn_29 shC_91 (k := 5) rfl (by decide) dX5_nextColumn_99 ?_
  refine A_iload X 5 rfl dX5_nextColumn_102 ?_
  obtain ⟨g2, h⟩ := gdD h
  refine A_iald X g2 shC_110 dX5_nextColumn_104 ?_
  refine A_iload X 4 rfl dX5_nextColumn_105 ?_
  refine A_icmp_ge X (tgt := 122) (by decide) dX5_nextColumn_107 (fun c3 => ?_) (fun c3 => ?_)
  · replace h := ifT h c3
    exact w_X5_nextColumn_122 (a1 := a1) X E hk23 x2 x3 x4 x5 σ h
  · replace h := ifF h c3
    refine A_aload_n X 0 rfl rfl dX5_nextColumn_110 ?_
    refine A_getR X fg_X5_nextColumn_29 shC_91 (k := 5) rfl (by decide) dX5_nextColumn_111 ?_
    refine A_iload X 5 rfl dX5_nextColumn_114 ?_
    obtain ⟨g4, h⟩ := gdD h
    refine A_iald X g4 shC_110 dX5_nextColumn_116 ?_
    refine A_istoreN X (L' := fun y4_5 => [(4, vI y4_5), (0, vR 91), (1, vI a1), (2, vI x2), (3, vI x3), (5, vI x5)]) (by decide) (fun _ => rfl) dX5_nextColumn_117 (fun y4_5 hy => ?_)
    replace h := ltD h y4_5 hy
    clear hy
    refine A_iload X 5 rfl dX5_nextColumn_119 ?_
    refine A_istore_n X (L' := [(3, vI x5), (4, vI y4_5), (0, vR 91), (1, vI a1), (2, vI x2), (5, vI x5)]) rfl (by decide) rfl dX5_nextColumn_121 ?_
    refine A_sub [2, 3, 4, 0, 1, 5] rfl (L' := [(0, vR 91), (1, vI a1), (2, vI x2), (3, vI x5), (4, vI y4_5), (5, vI x5)]) rfl ?_
    exact w_X5_nextColumn_122 (a1 := a1) X E hk23 x2 x5 y4_5 x5 σ h
set_option maxRecDepth 100000 in
set_option maxHeartbeats 4000000 in
theorem w_X5_nextColumn_23_b {x : aC} {r : Int × Hp} {k23 : Int × Int × Int × Int × Hp → Option (Int × Hp)} {a1 : Int} (X : aX x cX5_nextColumn wsX5_nextColumn RX5 7 rm_X5_nextColumn) (E : aE x shC (some .int) 0 r) (hk23 : ∀ (x2 : Int) (x3 : Int) (x4 : Int) (x5 : Int) (σ : Hp), k23 (x2, x3, x4, x5, σ) = some r → aS x shC 7 23 [(0, vR 91), (1, vI a1), (2, vI x2), (3, vI x3), (4, vI x4), (5, vI x5)] [] σ) (x2 : Int) (x3 : Int) (x4 : Int) (x5 : Int) (σ : Hp) (h : F_Mat_nextColumn_23_b k23 a1 x2 x3 x4 x5 σ = some r) : aS x shC 7 23 [(0, vR 91), (1, vI a1), (2, vI x2), (3, vI x3), (4, vI x4), (5, vI x5)] [] σ := by
  unfold F_Mat_nextColumn_23_b at h
  refine A_iload X 5 rfl dX5_nextColumn_23 ?_
  refine A_aload_n X 0 rfl rfl dX5_nextColumn_25 ?_
  refine A_getI X fg_X5_nextColumn_42 shC_91 (k := 7) rfl (by decide) dX5_nextColumn_26 ?_
  refine A_icmp_gt X (tgt := 128) (by decide) dX5_nextColumn_29 (fun c6 => ?_) (fun c6 => ?_)
  · replace h := ifT h c6
    refine A_aload_n X 0 rfl rfl dX5_nextColumn_128 ?_
    refine A_iload X 4 rfl dX5_nextColumn_129 ?_
    obtain ⟨v7, s8, e9, h⟩ := clD h
    refine A_callV_V (na := 1) X (m_X5_shiftPrices e9) gX5_nextColumn_X5_shiftPrices rfl ⟨rfl, rfl⟩ (by decide +kernel) rfl ⟨Nat.le_of_ble_eq_true rfl, Nat.le_of_ble_eq_true rfl⟩ shC_91 (by decide) rfl rfl (Nat.le_of_ble_eq_true rfl) dX5_nextColumn_131 ?_
    refine A_iload_n X 3 rfl rfl dX5_nextColumn_134 ?_
    exact A_ireturn X E h dX5_nextColumn_135
  · replace h := ifF h c6
    refine A_aload_n X 0 rfl rfl dX5_nextColumn_32 ?_
    refine A_getR X fg_X5_nextColumn_32 shC_91 (k := 6) rfl (by decide) dX5_nextColumn_33 ?_
    refine A_iload X 5 rfl dX5_nextColumn_36 ?_
    obtain ⟨g10, h⟩ := gdD h
    refine A_zald X g10 shC_111 dX5_nextColumn_38 ?_
    refine A_if_ne X (tgt := 122) (by decide) dX5_nextColumn_39 (fun c11 => ?_) (fun c11 => ?_)
    · replace h := ifF h c11
      exact w_X5_nextColumn_122 (a1 := a1) X E hk23 x2 x3 x4 x5 σ h
    · replace h := ifT h c11
      refine A_aload_n X 0 rfl rfl dX5_nextColumn_42 ?_
      refine A_getR X fg_X5_nextColumn_13 shC_91 (k := 0) rfl (by decide) dX5_nextColumn_43 ?_
      refine A_iload_n X 2 rfl rfl dX5_nextColumn_46 ?_
      obtain ⟨g12, h⟩ := gdD h
      refine A_aald X g12 shC_92 dX5_nextColumn_47 ?_
      refine A_iload X 5 rfl dX5_nextColumn_48 ?_
      obtain ⟨g13, h⟩ := gdD h
      refine A_iald X g13 (shMat_weight_r g12) dX5_nextColumn_50 ?_
      refine A_ineg X dX5_nextColumn_51 ?_
      refine A_aload_n X 0 rfl rfl dX5_nextColumn_52 ?_
      refine A_getR X fg_X5_nextColumn_16 shC_91 (k := 1) rfl (by decide) dX5_nextColumn_53 ?_
      refine A_iload_n X 2 rfl rfl dX5_nextColumn_56 ?_
      obtain ⟨g14, h⟩ := gdD h
      refine A_iald X g14 shC_106 dX5_nextColumn_57 ?_
      refine A_isub X dX5_nextColumn_58 ?_
      refine A_aload_n X 0 rfl rfl dX5_nextColumn_59 ?_
      refine A_getR X fg_X5_nextColumn_20 shC_91 (k := 2) rfl (by decide) dX5_nextColumn_60 ?_
      refine A_iload X 5 rfl dX5_nextColumn_63 ?_
      obtain ⟨g15, h⟩ := gdD h
      refine A_iald X g15 shC_107 dX5_nextColumn_65 ?_
      refine A_isub X dX5_nextColumn_66 ?_
      refine A_istoreN X (L' := fun y6_16 => [(6, vI y6_16), (0, vR 91), (1, vI a1), (2, vI x2), (3, vI x3), (4, vI x4), (5, vI x5)]) (by decide) (fun _ => rfl) dX5_nextColumn_67 (fun y6_16 hy => ?_)
      replace h := ltD h y6_16 hy
      clear hy
      refine A_iload X 0 rfl dX5_nextColumn_69 ?_
      refine A_aload_n X 1 rfl rfl dX5_nextColumn_71 ?_
      refine A_getR X fg_X5_nextColumn_29 shC_91 (k := 5) rfl (by decide) dX5_nextColumn_72 ?_
      refine A_iload X 6 rfl dX5_nextColumn_75 ?_
      obtain ⟨g17, h⟩ := gdD h
      refine A_iald X g17 shC_110 dX5_nextColumn_77 ?_
      refine A_icmp_ge X (tgt := 98) (by decide) dX5_nextColumn_78 (fun c18 => ?_) (fun c18 => ?_)
      · replace h := ifT h c18
        refine A_sub [1, 2, 3, 4, 5, 6] rfl (L' := [(0, vR 91), (1, vI a1), (2, vI x2), (3, vI x3), (4, vI x4), (5, vI x5)]) rfl ?_
        exact w_X5_nextColumn_98 (a1 := a1) X E hk23 x2 x3 x4 x5 σ h
      · replace h := ifF h c18
        refine A_aload_n X 1 rfl rfl dX5_nextColumn_81 ?_
        refine A_getR X fg_X5_nextColumn_29 shC_91 (k := 5) rfl (by decide) dX5_nextColumn_82 ?_
        refine A_iload X 6 rfl dX5_nextColumn_85 ?_
        refine A_iload X 0 rfl dX5_nextColumn_87 ?_
        obtain ⟨g19, h⟩ := gdD h
        refine A_iast X g19 shC_110 dX5_nextColumn_89 (fun s20 hy => ?_)
        replace h := ltD h s20 hy
        clear hy
        refine A_aload_n X 1 rfl rfl dX5_nextColumn_90 ?_
        refine A_getR X fg_X5_nextColumn_26 shC_91 (k := 4) rfl (by decide) dX5_nextColumn_91 ?_
        refine A_iload X 6 rfl dX5_nextColumn_94 ?_
        refine A_iload_n X 2 rfl rfl dX5_nextColumn_96 ?_
        obtain ⟨g21, h⟩ := gdD h
        refine A_iast X g21 shC_109 dX5_nextColumn_97 (fun s22 hy => ?_)
        replace h := ltD h s22 hy
        clear hy
        refine A_sub [1, 2, 3, 4, 5, 6] rfl (L' := [(0, vR 91), (1, vI a1), (2, vI x2), (3, vI x3), (4, vI x4), (5, vI x5)]) rfl ?_
        exact w_X5_nextColumn_98 (a1 := a1) X E hk23 x2 x3 x4 x5 s22 h
set_option maxRecDepth 100000 in
set_option maxHeartbeats 4000000 in
theorem w_X5_nextColumn_23 {x : aC} {r : Int × Hp} {a1 : Int} (X : aX x cX5_nextColumn wsX5_nextColumn RX5 7 rm_X5_nextColumn) (E : aE x shC (some .int) 0 r) : ∀ (n : Nat) (x2 : Int) (x3 : Int) (x4 : Int) (x5 : Int) (σ : Hp) (h : F_Mat_nextColumn_23 a1 n (x2, x3, x4, x5, σ) = some r), aS x shC 7 23 [(0, vR 91), (1, vI a1), (2, vI x2), (3, vI x3), (4, vI x4), (5, vI x5)] [] σ := by
  intro n
  induction n with
  | zero => intro x2 x3 x4 x5 σ h; cases h
  | succ n ih => intro x2 x3 x4 x5 σ h; exact w_X5_nextColumn_23_b (a1 := a1) (k23 := F_Mat_nextColumn_23 a1 n) X E ih x2 x3 x4 x5 σ h
set_option maxRecDepth 100000 in
set_option maxHeartbeats 4000000 in
theorem m_X5_nextColumn {l : Launch} {g : aG} {a1 : Int} {σ : Hp} {r : Int × Hp} (h : F_Mat_nextColumn a1 σ = some r) : aMet l g shC yX5_nextColumn wsX5_nextColumn rm_X5_nextColumn [vR 91, vI a1] σ 0 r := by
  unfold F_Mat_nextColumn at h
  refine aMet_of (bytes := cX5_nextColumn) (maxL := 7) (ret := (some .int)) (by decide +kernel) rfl (Nat.le_of_ble_eq_true rfl) ⟨rfl, rfl⟩ (fun x e1 e2 X E => ?_)
  subst e1; subst e2
  have X : aX x cX5_nextColumn wsX5_nextColumn RX5 7 rm_X5_nextColumn := X
  show aS x shC 7 0 [(0, vR 91), (1, vI a1)] [] σ
  refine A_aload_n X 0 rfl rfl dX5_nextColumn_0 ?_
  refine A_getR X fg_X5_nextColumn_32 shC_91 (k := 6) rfl (by decide) dX5_nextColumn_1 ?_
  refine A_iload_n X 1 rfl rfl dX5_nextColumn_4 ?_
  refine A_iconst X dX5_nextColumn_5 (z := 1) (by decide) ?_
  obtain ⟨g23, h⟩ := gdD h
  refine A_zast X g23 shC_111 dX5_nextColumn_6 (fun s24 hy => ?_)
  replace h := ltD h s24 hy
  clear hy
  refine A_aload_n X 0 rfl rfl dX5_nextColumn_7 ?_
  refine A_getR X fg_X5_nextColumn_23 shC_91 (k := 3) rfl (by decide) dX5_nextColumn_8 ?_
  refine A_iload_n X 1 rfl rfl dX5_nextColumn_11 ?_
  obtain ⟨g25, h⟩ := gdD h
  refine A_iald X g25 shC_108 dX5_nextColumn_12 ?_
  refine A_istore_nN X (L' := fun y2_26 => [(2, vI y2_26), (0, vR 91), (1, vI a1)]) rfl (by decide) (fun _ => rfl) dX5_nextColumn_13 (fun y2_26 hy => ?_)
  replace h := ltD h y2_26 hy
  clear hy
  refine A_iconst X dX5_nextColumn_14 (z := 0) (by decide) ?_
  refine A_istore_n X (L' := [(3, vI 0), (2, vI y2_26), (0, vR 91), (1, vI a1)]) rfl (by decide) rfl dX5_nextColumn_15 ?_
  refine A_ldc X (v := (1000000000)) (List.mem_of_getElem? (i := 3) rfl) dX5_nextColumn_16 (z := 1000000000) (by decide) ?_
  refine A_istore X (L' := [(4, vI 1000000000), (3, vI 0), (2, vI y2_26), (0, vR 91), (1, vI a1)]) (by decide) rfl dX5_nextColumn_18 ?_
  refine A_iconst X dX5_nextColumn_20 (z := 1) (by decide) ?_
  refine A_istore X (L' := [(5, vI 1), (4, vI 1000000000), (3, vI 0), (2, vI y2_26), (0, vR 91), (1, vI a1)]) (by decide) rfl dX5_nextColumn_21 ?_
  refine A_sub [4, 5, 3, 2, 1, 0] rfl (L' := [(0, vR 91), (1, vI a1), (2, vI y2_26), (3, vI 0), (4, vI 1000000000), (5, vI 1)]) rfl ?_
  exact w_X5_nextColumn_23 (a1 := a1) X E FU y2_26 0 1000000000 1 s24 h
abbrev rm_X5_place : Room := { frames := 2, cells := 0, slots := 0, locals := 48 }
theorem in_X5_place_5 : ∀ w ∈ u_ws RX5 TX5 8, w ∈ wsX5_place := fun w h => List.mem_cons_of_mem _ (List.mem_append_right _ h)
theorem fg_X5_place_42 : aFl wsX5_place RX5 42 5 7 := ⟨RX5, TX5, 8, rfl, in_X5_place_5, by decide, (List.mem_of_getElem? (i := 2) rfl), rfl⟩
theorem fg_X5_place_23 : aFl wsX5_place RX5 23 5 3 := ⟨RX5, TX5, 8, rfl, in_X5_place_5, by decide, (List.mem_of_getElem? (i := 1) rfl), rfl⟩
theorem fg_X5_place_26 : aFl wsX5_place RX5 26 5 4 := ⟨RX5, TX5, 8, rfl, in_X5_place_5, by decide, (List.mem_of_getElem? (i := 6) rfl), rfl⟩
theorem fg_X5_place_29 : aFl wsX5_place RX5 29 5 5 := ⟨RX5, TX5, 8, rfl, in_X5_place_5, by decide, (List.mem_of_getElem? (i := 3) rfl), rfl⟩
theorem fg_X5_place_32 : aFl wsX5_place RX5 32 5 6 := ⟨RX5, TX5, 8, rfl, in_X5_place_5, by decide, (List.mem_of_getElem? (i := 5) rfl), rfl⟩
set_option maxRecDepth 100000 in
set_option maxHeartbeats 4000000 in
theorem w_X5_place_118 {x : aC} {r : Int × Hp} {a1 : Int} (X : aX x cX5_place wsX5_place RX5 4 rm_X5_place) (E : aE x shC none 3 r) (σ : Hp) (h : F_Mat_place_118 a1 σ = some r) : aS x shC 4 118 [] [] σ := by
  unfold F_Mat_place_118 at h
  exact A_return X E h dX5_place_118
set_option maxRecDepth 100000 in
set_option maxHeartbeats 4000000 in
theorem w_X5_place_76_b {x : aC} {r : Int × Hp} {k76 : Int × Int × Hp → Option (Int × Hp)} {a1 : Int} (X : aX x cX5_place wsX5_place RX5 4 rm_X5_place) (E : aE x shC none 3 r) (hk76 : ∀ (x2 : Int) (x3 : Int) (σ : Hp), k76 (x2, x3, σ) = some r → aS x shC 4 76 [(0, vR 91), (2, vI x2), (3, vI x3)] [] σ) (x2 : Int) (x3 : Int) (σ : Hp) (h : F_Mat_place_76_b k76 a1 x2 x3 σ = some r) : aS x shC 4 76 [(0, vR 91), (2, vI x2), (3, vI x3)] [] σ := by
  unfold F_Mat_place_76_b at h
  refine A_iload_n X 2 rfl rfl dX5_place_76 ?_
  refine A_aload_n X 0 rfl rfl dX5_place_77 ?_
  refine A_getI X fg_X5_place_42 shC_91 (k := 7) rfl (by decide) dX5_place_78 ?_
  refine A_icmp_gt X (tgt := 118) (by decide) dX5_place_81 (fun c1 => ?_) (fun c1 => ?_)
  · replace h := ifT h c1
    refine A_sub [] rfl (L' := []) rfl ?_
    exact w_X5_place_118 (a1 := a1) X E σ h
  · replace h := ifF h c1
    refine A_iload_n X 1 rfl rfl dX5_place_84 ?_
    refine A_if_eq X (tgt := 118) (by decide) dX5_place_85 (fun c2 => ?_) (fun c2 => ?_)
    · replace h := ifT h c2
      refine A_sub [] rfl (L' := []) rfl ?_
      exact w_X5_place_118 (a1 := a1) X E σ h
    · replace h := ifF h c2
      refine A_aload_n X 0 rfl rfl dX5_place_88 ?_
      refine A_getR X fg_X5_place_23 shC_91 (k := 3) rfl (by decide) dX5_place_89 ?_
      refine A_iload_n X 1 rfl rfl dX5_place_92 ?_
      refine A_aload_n X 0 rfl rfl dX5_place_93 ?_
      refine A_getR X fg_X5_place_23 shC_91 (k := 3) rfl (by decide) dX5_place_94 ?_
      refine A_aload_n X 0 rfl rfl dX5_place_97 ?_
      refine A_getR X fg_X5_place_26 shC_91 (k := 4) rfl (by decide) dX5_place_98 ?_
      refine A_iload_n X 1 rfl rfl dX5_place_101 ?_
      obtain ⟨g3, h⟩ := gdD h
      refine A_iald X g3 shC_109 dX5_place_102 ?_
      obtain ⟨g4, h⟩ := gdD h
      refine A_iald X g4 shC_108 dX5_place_103 ?_
      obtain ⟨g5, h⟩ := gdD h
      refine A_iast X g5 shC_108 dX5_place_104 (fun s6 hy => ?_)
      replace h := ltD h s6 hy
      clear hy
      refine A_aload_n X 0 rfl rfl dX5_place_105 ?_
      refine A_getR X fg_X5_place_26 shC_91 (k := 4) rfl (by decide) dX5_place_106 ?_
      refine A_iload_n X 1 rfl rfl dX5_place_109 ?_
      obtain ⟨g7, h⟩ := gdD h
      refine A_iald X g7 shC_109 dX5_place_110 ?_
      refine A_istore_nN X (L' := fun y2_8 => [(2, vI y2_8), (0, vR 91), (3, vI x3)]) rfl (by decide) (fun _ => rfl) dX5_place_111 (fun y2_8 hy => ?_)
      replace h := ltD h y2_8 hy
      clear hy
      refine A_iinc X (L' := fun y3_9 => [(3, vI y3_9), (2, vI y2_8), (0, vR 91)]) 2 rfl (by decide) (fun _ => rfl) dX5_place_112 (by decide) (fun y3_9 hy => ?_)
      replace h := ltD h y3_9 hy
      clear hy
      refine A_goto X (tgt := 76) (by decide) dX5_place_115 ?_
      refine A_sub [2, 1, 0] rfl (L' := [(0, vR 91), (2, vI y2_8), (3, vI y3_9)]) rfl ?_
      exact hk76 y2_8 y3_9 s6 h
set_option maxRecDepth 100000 in
set_option maxHeartbeats 4000000 in
theorem w_X5_place_76 {x : aC} {r : Int × Hp} {a1 : Int} (X : aX x cX5_place wsX5_place RX5 4 rm_X5_place) (E : aE x shC none 3 r) : ∀ (n : Nat) (x2 : Int) (x3 : Int) (σ : Hp) (h : F_Mat_place_76 a1 n (x2, x3, σ) = some r), aS x shC 4 76 [(0, vR 91), (2, vI x2), (3, vI x3)] [] σ := by
  intro n
  induction n with
  | zero => intro x2 x3 σ h; cases h
  | succ n ih => intro x2 x3 σ h; exact w_X5_place_76_b (a1 := a1) (k76 := F_Mat_place_76 a1 n) X E ih x2 x3 σ h
set_option maxRecDepth 100000 in
set_option maxHeartbeats 4000000 in
theorem w_X5_place_74 {x : aC} {r : Int × Hp} {a1 : Int} (X : aX x cX5_place wsX5_place RX5 4 rm_X5_place) (E : aE x shC none 3 r) (x2 : Int) (σ : Hp) (h : F_Mat_place_74 a1 x2 σ = some r) : aS x shC 4 74 [(0, vR 91), (2, vI x2)] [] σ := by
  unfold F_Mat_place_74 at h
  refine A_iconst X dX5_place_74 (z := 0) (by decide) ?_
  refine A_istore_n X (L' := [(3, vI 0), (0, vR 91), (2, vI x2)]) rfl (by decide) rfl dX5_place_75 ?_
  refine A_sub [1, 2, 0] rfl (L' := [(0, vR 91), (2, vI x2), (3, vI 0)]) rfl ?_
  exact w_X5_place_76 (a1 := a1) X E FU x2 0 σ h
set_option maxRecDepth 100000 in
set_option maxHeartbeats 4000000 in
theorem w_X5_place_42_b {x : aC} {r : Int × Hp} {k42 : Int × Int × Hp → Option (Int × Hp)} {a1 : Int} (X : aX x cX5_place wsX5_place RX5 4 rm_X5_place) (E : aE x shC none 3 r) (hk42 : ∀ (x2 : Int) (x3 : Int) (σ : Hp), k42 (x2, x3, σ) = some r → aS x shC 4 42 [(0, vR 91), (2, vI x2), (3, vI x3)] [] σ) (x2 : Int) (x3 : Int) (σ : Hp) (h : F_Mat_place_42_b k42 a1 x2 x3 σ = some r) : aS x shC 4 42 [(0, vR 91), (2, vI x2), (3, vI x3)] [] σ := by
  unfold F_Mat_place_42_b at h
  refine A_iload_n X 2 rfl rfl dX5_place_42 ?_
  refine A_aload_n X 0 rfl rfl dX5_place_43 ?_
  refine A_getI X fg_X5_place_42 shC_91 (k := 7) rfl (by decide) dX5_place_44 ?_
  refine A_icmp_gt X (tgt := 74) (by decide) dX5_place_47 (fun c10 => ?_) (fun c10 => ?_)
  · replace h := ifT h c10
    refine A_sub [0, 1] rfl (L' := [(0, vR 91), (2, vI x2)]) rfl ?_
    exact w_X5_place_74 (a1 := a1) X E x2 σ h
  · replace h := ifF h c10
    refine A_aload_n X 0 rfl rfl dX5_place_50 ?_
    refine A_iload_n X 1 rfl rfl dX5_place_51 ?_
    obtain ⟨v11, s12, e13, h⟩ := clD h
    refine A_callV_I (na := 1) X (m_X5_nextColumn e13) gX5_place_X5_nextColumn rfl ⟨rfl, rfl⟩ (by decide +kernel) rfl ⟨Nat.le_of_ble_eq_true rfl, Nat.le_of_ble_eq_true rfl⟩ shC_91 (by decide) rfl rfl (Nat.le_of_ble_eq_true rfl) dX5_place_52 ?_
    refine A_istore_n X (L' := [(2, vI v11), (0, vR 91), (3, vI x3)]) rfl (by decide) rfl dX5_place_55 ?_
    refine A_aload_n X 1 rfl rfl dX5_place_56 ?_
    refine A_getR X fg_X5_place_23 shC_91 (k := 3) rfl (by decide) dX5_place_57 ?_
    refine A_iload_n X 0 rfl rfl dX5_place_60 ?_
    obtain ⟨g14, h⟩ := gdD h
    refine A_iald X g14 shC_108 dX5_place_61 ?_
    refine A_if_ne X (tgt := 68) (by decide) dX5_place_62 (fun c15 => ?_) (fun c15 => ?_)
    · replace h := ifF h c15
      refine A_iinc X (L' := fun y3_16 => [(3, vI y3_16), (2, vI v11), (0, vR 91)]) 2 rfl (by decide) (fun _ => rfl) dX5_place_68 (by decide) (fun y3_16 hy => ?_)
      replace h := ltD h y3_16 hy
      clear hy
      refine A_goto X (tgt := 42) (by decide) dX5_place_71 ?_
      refine A_sub [2, 1, 0] rfl (L' := [(0, vR 91), (2, vI v11), (3, vI y3_16)]) rfl ?_
      exact hk42 v11 y3_16 s12 h
    · replace h := ifT h c15
      refine A_goto X (tgt := 74) (by decide) dX5_place_65 ?_
      refine A_sub [1, 0] rfl (L' := [(0, vR 91), (2, vI v11)]) rfl ?_
      exact w_X5_place_74 (a1 := a1) X E v11 s12 h
set_option maxRecDepth 100000 in
set_option maxHeartbeats 4000000 in
theorem w_X5_place_42 {x : aC} {r : Int × Hp} {a1 : Int} (X : aX x cX5_place wsX5_place RX5 4 rm_X5_place) (E : aE x shC none 3 r) : ∀ (n : Nat) (x2 : Int) (x3 : Int) (σ : Hp) (h : F_Mat_place_42 a1 n (x2, x3, σ) = some r), aS x shC 4 42 [(0, vR 91), (2, vI x2), (3, vI x3)] [] σ := by
  intro n
  induction n with
  | zero => intro x2 x3 σ h; cases h
  | succ n ih => intro x2 x3 σ h; exact w_X5_place_42_b (a1 := a1) (k42 := F_Mat_place_42 a1 n) X E ih x2 x3 σ h
set_option maxRecDepth 100000 in
set_option maxHeartbeats 4000000 in
theorem w_X5_place_9_b {x : aC} {r : Int × Hp} {k9 : Int × Hp → Option (Int × Hp)} {a1 : Int} (X : aX x cX5_place wsX5_place RX5 4 rm_X5_place) (E : aE x shC none 3 r) (hk9 : ∀ (x2 : Int) (σ : Hp), k9 (x2, σ) = some r → aS x shC 4 9 [(0, vR 91), (2, vI x2)] [] σ) (x2 : Int) (σ : Hp) (h : F_Mat_place_9_b k9 a1 x2 σ = some r) : aS x shC 4 9 [(0, vR 91), (2, vI x2)] [] σ := by
  unfold F_Mat_place_9_b at h
  refine A_iload_n X 1 rfl rfl dX5_place_9 ?_
  refine A_aload_n X 0 rfl rfl dX5_place_10 ?_
  refine A_getI X fg_X5_place_42 shC_91 (k := 7) rfl (by decide) dX5_place_11 ?_
  refine A_icmp_gt X (tgt := 38) (by decide) dX5_place_14 (fun c17 => ?_) (fun c17 => ?_)
  · replace h := ifT h c17
    refine A_iconst X dX5_place_38 (z := 0) (by decide) ?_
    refine A_istore_n X (L' := [(2, vI 0), (0, vR 91)]) rfl (by decide) rfl dX5_place_39 ?_
    refine A_iconst X dX5_place_40 (z := 0) (by decide) ?_
    refine A_istore_n X (L' := [(3, vI 0), (2, vI 0), (0, vR 91)]) rfl (by decide) rfl dX5_place_41 ?_
    refine A_sub [2, 1, 0] rfl (L' := [(0, vR 91), (2, vI 0), (3, vI 0)]) rfl ?_
    exact w_X5_place_42 (a1 := a1) X E FU 0 0 σ h
  · replace h := ifF h c17
    refine A_aload_n X 0 rfl rfl dX5_place_17 ?_
    refine A_getR X fg_X5_place_29 shC_91 (k := 5) rfl (by decide) dX5_place_18 ?_
    refine A_iload_n X 1 rfl rfl dX5_place_21 ?_
    refine A_ldc X (v := (1000000000)) (List.mem_of_getElem? (i := 4) rfl) dX5_place_22 (z := 1000000000) (by decide) ?_
    obtain ⟨g18, h⟩ := gdD h
    refine A_iast X g18 shC_110 dX5_place_24 (fun s19 hy => ?_)
    replace h := ltD h s19 hy
    clear hy
    refine A_aload_n X 0 rfl rfl dX5_place_25 ?_
    refine A_getR X fg_X5_place_32 shC_91 (k := 6) rfl (by decide) dX5_place_26 ?_
    refine A_iload_n X 1 rfl rfl dX5_place_29 ?_
    refine A_iconst X dX5_place_30 (z := 0) (by decide) ?_
    obtain ⟨g20, h⟩ := gdD h
    refine A_zast X g20 shC_111 dX5_place_31 (fun s21 hy => ?_)
    replace h := ltD h s21 hy
    clear hy
    refine A_iinc X (L' := fun y2_22 => [(2, vI y2_22), (0, vR 91)]) 1 rfl (by decide) (fun _ => rfl) dX5_place_32 (by decide) (fun y2_22 hy => ?_)
    replace h := ltD h y2_22 hy
    clear hy
    refine A_goto X (tgt := 9) (by decide) dX5_place_35 ?_
    refine A_sub [1, 0] rfl (L' := [(0, vR 91), (2, vI y2_22)]) rfl ?_
    exact hk9 y2_22 s21 h
set_option maxRecDepth 100000 in
set_option maxHeartbeats 4000000 in
theorem w_X5_place_9 {x : aC} {r : Int × Hp} {a1 : Int} (X : aX x cX5_place wsX5_place RX5 4 rm_X5_place) (E : aE x shC none 3 r) : ∀ (n : Nat) (x2 : Int) (σ : Hp) (h : F_Mat_place_9 a1 n (x2, σ) = some r), aS x shC 4 9 [(0, vR 91), (2, vI x2)] [] σ := by
  intro n
  induction n with
  | zero => intro x2 σ h; cases h
  | succ n ih => intro x2 σ h; exact w_X5_place_9_b (a1 := a1) (k9 := F_Mat_place_9 a1 n) X E ih x2 σ h
set_option maxRecDepth 100000 in
set_option maxHeartbeats 4000000 in
theorem m_X5_place {l : Launch} {g : aG} {a1 : Int} {σ : Hp} {r : Int × Hp} (h : F_Mat_place a1 σ = some r) : aMet l g shC yX5_place wsX5_place rm_X5_place [vR 91, vI a1] σ 3 r := by
  unfold F_Mat_place at h
  refine aMet_of (bytes := cX5_place) (maxL := 4) (ret := none) (by decide +kernel) rfl (Nat.le_of_ble_eq_true rfl) ⟨rfl, rfl⟩ (fun x e1 e2 X E => ?_)
  subst e1; subst e2
  have X : aX x cX5_place wsX5_place RX5 4 rm_X5_place := X
  show aS x shC 4 0 [(0, vR 91), (1, vI a1)] [] σ
  refine A_aload_n X 0 rfl rfl dX5_place_0 ?_
  refine A_getR X fg_X5_place_23 shC_91 (k := 3) rfl (by decide) dX5_place_1 ?_
  refine A_iconst X dX5_place_4 (z := 0) (by decide) ?_
  refine A_iload_n X 1 rfl rfl dX5_place_5 ?_
  refine A_iast X (by decide) shC_108 dX5_place_6 (fun s23 hy => ?_)
  replace h := ltD h s23 hy
  clear hy
  refine A_iconst X dX5_place_7 (z := 0) (by decide) ?_
  refine A_istore_n X (L' := [(2, vI 0), (0, vR 91), (1, vI a1)]) rfl (by decide) rfl dX5_place_8 ?_
  refine A_sub [1, 0] rfl (L' := [(0, vR 91), (2, vI 0)]) rfl ?_
  exact w_X5_place_9 (a1 := a1) X E FU 0 s23 h
abbrev rm_X5_greatest : Room := { frames := 3, cells := 0, slots := 0, locals := 71 }
theorem in_X5_greatest_5 : ∀ w ∈ u_ws RX5 TX5 8, w ∈ wsX5_greatest := fun w h => List.mem_cons_of_mem _ (List.mem_append_right _ h)
theorem fg_X5_greatest_42 : aFl wsX5_greatest RX5 42 5 7 := ⟨RX5, TX5, 8, rfl, in_X5_greatest_5, by decide, (List.mem_of_getElem? (i := 4) rfl), rfl⟩
theorem fg_X5_greatest_13 : aFl wsX5_greatest RX5 13 5 0 := ⟨RX5, TX5, 8, rfl, in_X5_greatest_5, by decide, (List.mem_of_getElem? (i := 5) rfl), rfl⟩
theorem fg_X5_greatest_23 : aFl wsX5_greatest RX5 23 5 3 := ⟨RX5, TX5, 8, rfl, in_X5_greatest_5, by decide, (List.mem_of_getElem? (i := 3) rfl), rfl⟩
theorem fg_X5_greatest_16 : aFl wsX5_greatest RX5 16 5 1 := ⟨RX5, TX5, 8, rfl, in_X5_greatest_5, by decide, (List.mem_of_getElem? (i := 1) rfl), rfl⟩
theorem fg_X5_greatest_20 : aFl wsX5_greatest RX5 20 5 2 := ⟨RX5, TX5, 8, rfl, in_X5_greatest_5, by decide, (List.mem_of_getElem? (i := 2) rfl), rfl⟩
set_option maxRecDepth 100000 in
set_option maxHeartbeats 4000000 in
theorem w_X5_greatest_49_b {x : aC} {r : Int × Hp} {k49 : Int × Int × Hp → Option (Int × Hp)} (X : aX x cX5_greatest wsX5_greatest RX5 3 rm_X5_greatest) (E : aE x shC (some .int) 0 r) (hk49 : ∀ (x1 : Int) (x2 : Int) (σ : Hp), k49 (x1, x2, σ) = some r → aS x shC 3 49 [(0, vR 91), (1, vI x1), (2, vI x2)] [] σ) (x1 : Int) (x2 : Int) (σ : Hp) (h : F_Mat_greatest_49_b k49 x1 x2 σ = some r) : aS x shC 3 49 [(0, vR 91), (1, vI x1), (2, vI x2)] [] σ := by
  unfold F_Mat_greatest_49_b at h
  refine A_iload_n X 2 rfl rfl dX5_greatest_49 ?_
  refine A_aload_n X 0 rfl rfl dX5_greatest_50 ?_
  refine A_getI X fg_X5_greatest_42 shC_91 (k := 7) rfl (by decide) dX5_greatest_51 ?_
  refine A_icmp_gt X (tgt := 79) (by decide) dX5_greatest_54 (fun c1 => ?_) (fun c1 => ?_)
  · replace h := ifT h c1
    refine A_iload_n X 1 rfl rfl dX5_greatest_79 ?_
    exact A_ireturn X E h dX5_greatest_80
  · replace h := ifF h c1
    refine A_iload_n X 1 rfl rfl dX5_greatest_57 ?_
    refine A_aload_n X 0 rfl rfl dX5_greatest_58 ?_
    refine A_getR X fg_X5_greatest_13 shC_91 (k := 0) rfl (by decide) dX5_greatest_59 ?_
    refine A_aload_n X 0 rfl rfl dX5_greatest_62 ?_
    refine A_getR X fg_X5_greatest_23 shC_91 (k := 3) rfl (by decide) dX5_greatest_63 ?_
    refine A_iload_n X 2 rfl rfl dX5_greatest_66 ?_
    obtain ⟨g2, h⟩ := gdD h
    refine A_iald X g2 shC_108 dX5_greatest_67 ?_
    obtain ⟨g3, h⟩ := gdD h
    refine A_aald X g3 shC_92 dX5_greatest_68 ?_
    refine A_iload_n X 2 rfl rfl dX5_greatest_69 ?_
    obtain ⟨g4, h⟩ := gdD h
    refine A_iald X g4 (shMat_weight_r g3) dX5_greatest_70 ?_
    refine A_iadd X dX5_greatest_71 ?_
    refine A_istore_nN X (L' := fun y1_5 => [(1, vI y1_5), (0, vR 91), (2, vI x2)]) rfl (by decide) (fun _ => rfl) dX5_greatest_72 (fun y1_5 hy => ?_)
    replace h := ltD h y1_5 hy
    clear hy
    refine A_iinc X (L' := fun y2_6 => [(2, vI y2_6), (1, vI y1_5), (0, vR 91)]) 2 rfl (by decide) (fun _ => rfl) dX5_greatest_73 (by decide) (fun y2_6 hy => ?_)
    replace h := ltD h y2_6 hy
    clear hy
    refine A_goto X (tgt := 49) (by decide) dX5_greatest_76 ?_
    refine A_sub [2, 1, 0] rfl (L' := [(0, vR 91), (1, vI y1_5), (2, vI y2_6)]) rfl ?_
    exact hk49 y1_5 y2_6 σ h
set_option maxRecDepth 100000 in
set_option maxHeartbeats 4000000 in
theorem w_X5_greatest_49 {x : aC} {r : Int × Hp} (X : aX x cX5_greatest wsX5_greatest RX5 3 rm_X5_greatest) (E : aE x shC (some .int) 0 r) : ∀ (n : Nat) (x1 : Int) (x2 : Int) (σ : Hp) (h : F_Mat_greatest_49 n (x1, x2, σ) = some r), aS x shC 3 49 [(0, vR 91), (1, vI x1), (2, vI x2)] [] σ := by
  intro n
  induction n with
  | zero => intro x1 x2 σ h; cases h
  | succ n ih => intro x1 x2 σ h; exact w_X5_greatest_49_b (k49 := F_Mat_greatest_49 n) X E ih x1 x2 σ h
set_option maxRecDepth 100000 in
set_option maxHeartbeats 4000000 in
theorem w_X5_greatest_26_b {x : aC} {r : Int × Hp} {k26 : Int × Hp → Option (Int × Hp)} (X : aX x cX5_greatest wsX5_greatest RX5 3 rm_X5_greatest) (E : aE x shC (some .int) 0 r) (hk26 : ∀ (x1 : Int) (σ : Hp), k26 (x1, σ) = some r → aS x shC 3 26 [(0, vR 91), (1, vI x1)] [] σ) (x1 : Int) (σ : Hp) (h : F_Mat_greatest_26_b k26 x1 σ = some r) : aS x shC 3 26 [(0, vR 91), (1, vI x1)] [] σ := by
  unfold F_Mat_greatest_26_b at h
  refine A_iload_n X 1 rfl rfl dX5_greatest_26 ?_
  refine A_aload_n X 0 rfl rfl dX5_greatest_27 ?_
  refine A_getI X fg_X5_greatest_42 shC_91 (k := 7) rfl (by decide) dX5_greatest_28 ?_
  refine A_icmp_gt X (tgt := 45) (by decide) dX5_greatest_31 (fun c7 => ?_) (fun c7 => ?_)
  · replace h := ifT h c7
    refine A_iconst X dX5_greatest_45 (z := 0) (by decide) ?_
    refine A_istore_n X (L' := [(1, vI 0), (0, vR 91)]) rfl (by decide) rfl dX5_greatest_46 ?_
    refine A_iconst X dX5_greatest_47 (z := 1) (by decide) ?_
    refine A_istore_n X (L' := [(2, vI 1), (1, vI 0), (0, vR 91)]) rfl (by decide) rfl dX5_greatest_48 ?_
    refine A_sub [2, 1, 0] rfl (L' := [(0, vR 91), (1, vI 0), (2, vI 1)]) rfl ?_
    exact w_X5_greatest_49 X E FU 0 1 σ h
  · replace h := ifF h c7
    refine A_aload_n X 0 rfl rfl dX5_greatest_34 ?_
    refine A_iload_n X 1 rfl rfl dX5_greatest_35 ?_
    obtain ⟨v8, s9, e10, h⟩ := clD h
    refine A_callV_V (na := 1) X (m_X5_place e10) gX5_greatest_X5_place rfl ⟨rfl, rfl⟩ (by decide +kernel) rfl ⟨Nat.le_of_ble_eq_true rfl, Nat.le_of_ble_eq_true rfl⟩ shC_91 (by decide) rfl rfl (Nat.le_of_ble_eq_true rfl) dX5_greatest_36 ?_
    refine A_iinc X (L' := fun y1_11 => [(1, vI y1_11), (0, vR 91)]) 1 rfl (by decide) (fun _ => rfl) dX5_greatest_39 (by decide) (fun y1_11 hy => ?_)
    replace h := ltD h y1_11 hy
    clear hy
    refine A_goto X (tgt := 26) (by decide) dX5_greatest_42 ?_
    refine A_sub [1, 0] rfl (L' := [(0, vR 91), (1, vI y1_11)]) rfl ?_
    exact hk26 y1_11 s9 h
set_option maxRecDepth 100000 in
set_option maxHeartbeats 4000000 in
theorem w_X5_greatest_26 {x : aC} {r : Int × Hp} (X : aX x cX5_greatest wsX5_greatest RX5 3 rm_X5_greatest) (E : aE x shC (some .int) 0 r) : ∀ (n : Nat) (x1 : Int) (σ : Hp) (h : F_Mat_greatest_26 n (x1, σ) = some r), aS x shC 3 26 [(0, vR 91), (1, vI x1)] [] σ := by
  intro n
  induction n with
  | zero => intro x1 σ h; cases h
  | succ n ih => intro x1 σ h; exact w_X5_greatest_26_b (k26 := F_Mat_greatest_26 n) X E ih x1 σ h
set_option maxRecDepth 100000 in
set_option maxHeartbeats 4000000 in
theorem m_X5_greatest {l : Launch} {g : aG} {σ : Hp} {r : Int × Hp} (h : F_Mat_greatest σ = some r) : aMet l g shC yX5_greatest wsX5_greatest rm_X5_greatest [vR 91] σ 0 r := by
  unfold F_Mat_greatest at h
  refine aMet_of (bytes := cX5_greatest) (maxL := 3) (ret := (some .int)) (by decide +kernel) rfl (Nat.le_of_ble_eq_true rfl) ⟨rfl, rfl⟩ (fun x e1 e2 X E => ?_)
  subst e1; subst e2
  have X : aX x cX5_greatest wsX5_greatest RX5 3 rm_X5_greatest := X
  show aS x shC 3 0 [(0, vR 91)] [] σ
  refine A_aload_n X 0 rfl rfl dX5_greatest_0 ?_
  refine A_getR X fg_X5_greatest_16 shC_91 (k := 1) rfl (by decide) dX5_greatest_1 ?_
  refine A_iconst X dX5_greatest_4 (z := 0) (by decide) ?_
  obtain ⟨v12, s13, e14, h⟩ := clD h
  refine A_callS_V (na := 2) X (m_J7_fill_53178 e14) gX5_greatest_J7_fill_53178 rfl ⟨rfl, rfl⟩ (by decide +kernel) rfl ⟨Nat.le_of_ble_eq_true rfl, Nat.le_of_ble_eq_true rfl⟩ rfl (Nat.le_of_ble_eq_true rfl) dX5_greatest_5 ?_
  refine A_aload_n X 0 rfl rfl dX5_greatest_8 ?_
  refine A_getR X fg_X5_greatest_20 shC_91 (k := 2) rfl (by decide) dX5_greatest_9 ?_
  refine A_iconst X dX5_greatest_12 (z := 0) (by decide) ?_
  obtain ⟨v15, s16, e17, h⟩ := clD h
  refine A_callS_V (na := 2) X (m_J7_fill_53178 e17) gX5_greatest_J7_fill_53178 rfl ⟨rfl, rfl⟩ (by decide +kernel) rfl ⟨Nat.le_of_ble_eq_true rfl, Nat.le_of_ble_eq_true rfl⟩ rfl (Nat.le_of_ble_eq_true rfl) dX5_greatest_13 ?_
  refine A_aload_n X 0 rfl rfl dX5_greatest_16 ?_
  refine A_getR X fg_X5_greatest_23 shC_91 (k := 3) rfl (by decide) dX5_greatest_17 ?_
  refine A_iconst X dX5_greatest_20 (z := 0) (by decide) ?_
  obtain ⟨v18, s19, e20, h⟩ := clD h
  refine A_callS_V (na := 2) X (m_J7_fill_53178 e20) gX5_greatest_J7_fill_53178 rfl ⟨rfl, rfl⟩ (by decide +kernel) rfl ⟨Nat.le_of_ble_eq_true rfl, Nat.le_of_ble_eq_true rfl⟩ rfl (Nat.le_of_ble_eq_true rfl) dX5_greatest_21 ?_
  refine A_iconst X dX5_greatest_24 (z := 1) (by decide) ?_
  refine A_istore_n X (L' := [(1, vI 1), (0, vR 91)]) rfl (by decide) rfl dX5_greatest_25 ?_
  refine A_sub [1, 0] rfl (L' := [(0, vR 91), (1, vI 1)]) rfl ?_
  exact w_X5_greatest_26 X E FU 1 s19 h
abbrev rm_X1_begin : Room := { frames := 1, cells := 0, slots := 0, locals := 23 }
theorem in_X1_begin_1 : ∀ w ∈ u_ws RX1 TX1 2, w ∈ wsX1_begin := fun w h => List.mem_cons_of_mem _ (List.mem_append_right _ h)
theorem fg_X1_begin_11 : aFl wsX1_begin RX1 11 1 0 := ⟨RX1, TX1, 2, rfl, in_X1_begin_1, by decide, (List.mem_of_getElem? (i := 6) rfl), rfl⟩
theorem fg_X1_begin_22 : aFl wsX1_begin RX1 22 1 1 := ⟨RX1, TX1, 2, rfl, in_X1_begin_1, by decide, (List.mem_of_getElem? (i := 5) rfl), rfl⟩
theorem fp_X1_begin_22 : aFp wsX1_begin RX1 22 1 1 .int := ⟨RX1, TX1, 2, tyX1, rfl, in_X1_begin_1, by decide, (List.mem_of_getElem? (i := 5) rfl), rfl, tyX1_ok, nmX1, rfl, rfl⟩
set_option maxRecDepth 100000 in
set_option maxHeartbeats 4000000 in
theorem w_X1_begin_50_b {x : aC} {r : Int × Hp} {k50 : Int × Hp → Option (Int × Hp)} {this : Nat} {a1 : Int} (X : aX x cX1_begin wsX1_begin RX1 3 rm_X1_begin) (E : aE x shC none 3 r) (hk50 : ∀ (x2 : Int) (σ : Hp), k50 (x2, σ) = some r → aS x shC 3 50 [(0, vR this), (1, vI a1), (2, vI x2)] [] σ) (ht : isBounds this) (x2 : Int) (σ : Hp) (h : F_Bounds_begin_50_b k50 this a1 x2 σ = some r) : aS x shC 3 50 [(0, vR this), (1, vI a1), (2, vI x2)] [] σ := by
  unfold F_Bounds_begin_50_b at h
  refine A_iload_n X 2 rfl rfl dX1_begin_50 ?_
  refine A_iload_n X 1 rfl rfl dX1_begin_51 ?_
  refine A_icmp_ge X (tgt := 76) (by decide) dX1_begin_52 (fun c1 => ?_) (fun c1 => ?_)
  · replace h := ifT h c1
    exact A_return X E h dX1_begin_76
  · replace h := ifF h c1
    refine A_aload_n X 0 rfl rfl dX1_begin_55 ?_
    refine A_getR X fg_X1_begin_11 (shBounds ht) (k := 0) rfl (by decide) dX1_begin_56 ?_
    refine A_iconst X dX1_begin_59 (z := 2) (by decide) ?_
    refine A_iload_n X 2 rfl rfl dX1_begin_60 ?_
    refine A_imul X dX1_begin_61 ?_
    refine A_iconst X dX1_begin_62 (z := 1) (by decide) ?_
    refine A_iadd X dX1_begin_63 ?_
    obtain ⟨g2, h⟩ := gdD h
    refine A_aald X g2 (shBounds_bound ht) dX1_begin_64 ?_
    refine A_iconst X dX1_begin_65 (z := 2) (by decide) ?_
    refine A_iload_n X 2 rfl rfl dX1_begin_66 ?_
    refine A_imul X dX1_begin_67 ?_
    refine A_iconst X dX1_begin_68 (z := 0) (by decide) ?_
    obtain ⟨g3, h⟩ := gdD h
    refine A_iast X g3 (shBounds_bound_r ht g2) dX1_begin_69 (fun s4 hy => ?_)
    replace h := ltD h s4 hy
    clear hy
    refine A_iinc X (L' := fun y2_5 => [(2, vI y2_5), (0, vR this), (1, vI a1)]) 2 rfl (by decide) (fun _ => rfl) dX1_begin_70 (by decide) (fun y2_5 hy => ?_)
    replace h := ltD h y2_5 hy
    clear hy
    refine A_goto X (tgt := 50) (by decide) dX1_begin_73 ?_
    refine A_sub [1, 2, 0] rfl (L' := [(0, vR this), (1, vI a1), (2, vI y2_5)]) rfl ?_
    exact hk50 y2_5 s4 h
set_option maxRecDepth 100000 in
set_option maxHeartbeats 4000000 in
theorem w_X1_begin_50 {x : aC} {r : Int × Hp} {this : Nat} {a1 : Int} (X : aX x cX1_begin wsX1_begin RX1 3 rm_X1_begin) (E : aE x shC none 3 r) (ht : isBounds this) : ∀ (n : Nat) (x2 : Int) (σ : Hp) (h : F_Bounds_begin_50 this a1 n (x2, σ) = some r), aS x shC 3 50 [(0, vR this), (1, vI a1), (2, vI x2)] [] σ := by
  intro n
  induction n with
  | zero => intro x2 σ h; cases h
  | succ n ih => intro x2 σ h; exact w_X1_begin_50_b (this := this) (a1 := a1) (k50 := F_Bounds_begin_50 this a1 n) X E ih ht x2 σ h
set_option maxRecDepth 100000 in
set_option maxHeartbeats 4000000 in
theorem w_X1_begin_14_b {x : aC} {r : Int × Hp} {k14 : Int × Hp → Option (Int × Hp)} {this : Nat} {a1 : Int} (X : aX x cX1_begin wsX1_begin RX1 3 rm_X1_begin) (E : aE x shC none 3 r) (hk14 : ∀ (x2 : Int) (σ : Hp), k14 (x2, σ) = some r → aS x shC 3 14 [(0, vR this), (1, vI a1), (2, vI x2)] [] σ) (ht : isBounds this) (x2 : Int) (σ : Hp) (h : F_Bounds_begin_14_b k14 this a1 x2 σ = some r) : aS x shC 3 14 [(0, vR this), (1, vI a1), (2, vI x2)] [] σ := by
  unfold F_Bounds_begin_14_b at h
  refine A_iload_n X 2 rfl rfl dX1_begin_14 ?_
  refine A_aload_n X 0 rfl rfl dX1_begin_15 ?_
  refine A_getI X fg_X1_begin_22 (shBounds ht) (k := 1) rfl (by decide) dX1_begin_16 ?_
  refine A_icmp_ge X (tgt := 48) (by decide) dX1_begin_19 (fun c6 => ?_) (fun c6 => ?_)
  · replace h := ifT h c6
    refine A_iconst X dX1_begin_48 (z := 0) (by decide) ?_
    refine A_istore_n X (L' := [(2, vI 0), (0, vR this), (1, vI a1)]) rfl (by decide) rfl dX1_begin_49 ?_
    refine A_sub [1, 2, 0] rfl (L' := [(0, vR this), (1, vI a1), (2, vI 0)]) rfl ?_
    exact w_X1_begin_50 (this := this) (a1 := a1) X E ht FU 0 σ h
  · replace h := ifF h c6
    refine A_aload_n X 0 rfl rfl dX1_begin_22 ?_
    refine A_getR X fg_X1_begin_11 (shBounds ht) (k := 0) rfl (by decide) dX1_begin_23 ?_
    refine A_iload_n X 2 rfl rfl dX1_begin_26 ?_
    obtain ⟨g7, h⟩ := gdD h
    refine A_aald X g7 (shBounds_bound ht) dX1_begin_27 ?_
    refine A_ldc X (v := (1000000000)) (List.mem_of_getElem? (i := 7) rfl) dX1_begin_28 (z := 1000000000) (by decide) ?_
    obtain ⟨v8, s9, e10, h⟩ := clD h
    refine A_callS_V (na := 2) X (m_J7_fill_53178 e10) gX1_begin_J7_fill_53178 rfl ⟨rfl, rfl⟩ (by decide +kernel) rfl ⟨Nat.le_of_ble_eq_true rfl, Nat.le_of_ble_eq_true rfl⟩ rfl (Nat.le_of_ble_eq_true rfl) dX1_begin_30 ?_
    refine A_aload_n X 0 rfl rfl dX1_begin_33 ?_
    refine A_getR X fg_X1_begin_11 (shBounds ht) (k := 0) rfl (by decide) dX1_begin_34 ?_
    refine A_iload_n X 2 rfl rfl dX1_begin_37 ?_
    obtain ⟨g11, h⟩ := gdD h
    refine A_aald X g11 (shBounds_bound ht) dX1_begin_38 ?_
    refine A_iload_n X 2 rfl rfl dX1_begin_39 ?_
    refine A_iconst X dX1_begin_40 (z := 0) (by decide) ?_
    obtain ⟨g12, h⟩ := gdD h
    refine A_iast X g12 (shBounds_bound_r ht g11) dX1_begin_41 (fun s13 hy => ?_)
    replace h := ltD h s13 hy
    clear hy
    refine A_iinc X (L' := fun y2_14 => [(2, vI y2_14), (0, vR this), (1, vI a1)]) 2 rfl (by decide) (fun _ => rfl) dX1_begin_42 (by decide) (fun y2_14 hy => ?_)
    replace h := ltD h y2_14 hy
    clear hy
    refine A_goto X (tgt := 14) (by decide) dX1_begin_45 ?_
    refine A_sub [1, 2, 0] rfl (L' := [(0, vR this), (1, vI a1), (2, vI y2_14)]) rfl ?_
    exact hk14 y2_14 s13 h
set_option maxRecDepth 100000 in
set_option maxHeartbeats 4000000 in
theorem w_X1_begin_14 {x : aC} {r : Int × Hp} {this : Nat} {a1 : Int} (X : aX x cX1_begin wsX1_begin RX1 3 rm_X1_begin) (E : aE x shC none 3 r) (ht : isBounds this) : ∀ (n : Nat) (x2 : Int) (σ : Hp) (h : F_Bounds_begin_14 this a1 n (x2, σ) = some r), aS x shC 3 14 [(0, vR this), (1, vI a1), (2, vI x2)] [] σ := by
  intro n
  induction n with
  | zero => intro x2 σ h; cases h
  | succ n ih => intro x2 σ h; exact w_X1_begin_14_b (this := this) (a1 := a1) (k14 := F_Bounds_begin_14 this a1 n) X E ih ht x2 σ h
set_option maxRecDepth 100000 in
set_option maxHeartbeats 4000000 in
theorem m_X1_begin {l : Launch} {g : aG} {this : Nat} {a1 : Int} {σ : Hp} {r : Int × Hp} (h : F_Bounds_begin this a1 σ = some r) : aMet l g shC yX1_begin wsX1_begin rm_X1_begin [vR this, vI a1] σ 3 r := by
  unfold F_Bounds_begin at h
  obtain ⟨ht, h⟩ := gdD h
  refine aMet_of (bytes := cX1_begin) (maxL := 3) (ret := none) (by decide +kernel) rfl (Nat.le_of_ble_eq_true rfl) ⟨rfl, rfl⟩ (fun x e1 e2 X E => ?_)
  subst e1; subst e2
  have X : aX x cX1_begin wsX1_begin RX1 3 rm_X1_begin := X
  show aS x shC 3 0 [(0, vR this), (1, vI a1)] [] σ
  refine A_aload_n X 0 rfl rfl dX1_begin_0 ?_
  refine A_iconst X dX1_begin_1 (z := 2) (by decide) ?_
  refine A_iload_n X 1 rfl rfl dX1_begin_2 ?_
  refine A_imul X dX1_begin_3 ?_
  refine A_bipush X dX1_begin_4 (z := 24) (by decide) ?_
  refine A_mmin X (List.mem_of_getElem? (i := 1) rfl) (List.mem_of_getElem? (i := 2) rfl) (List.mem_of_getElem? (i := 3) rfl) (List.mem_of_getElem? (i := 4) rfl) (Nat.le_of_ble_eq_true rfl) (Nat.le_of_ble_eq_true rfl) dX1_begin_6 ?_
  refine A_putI X fp_X1_begin_22 (shBounds ht) (k := 1) rfl (by decide) dX1_begin_9 (fun s15 hy => ?_)
  replace h := ltD h s15 hy
  clear hy
  refine A_iconst X dX1_begin_12 (z := 0) (by decide) ?_
  refine A_istore_n X (L' := [(2, vI 0), (0, vR this), (1, vI a1)]) rfl (by decide) rfl dX1_begin_13 ?_
  refine A_sub [1, 2, 0] rfl (L' := [(0, vR this), (1, vI a1), (2, vI 0)]) rfl ?_
  exact w_X1_begin_14 (this := this) (a1 := a1) X E ht FU 0 s15 h
abbrev rm_X1_atLeast : Room := { frames := 0, cells := 0, slots := 0, locals := 0 }
theorem in_X1_atLeast_1 : ∀ w ∈ u_ws RX1 TX1 2, w ∈ wsX1_atLeast := fun w h => List.mem_cons_of_mem _ (List.mem_append_right _ h)
theorem fg_X1_atLeast_11 : aFl wsX1_atLeast RX1 11 1 0 := ⟨RX1, TX1, 2, rfl, in_X1_atLeast_1, by decide, (List.mem_of_getElem? (i := 1) rfl), rfl⟩
set_option maxRecDepth 100000 in
set_option maxHeartbeats 4000000 in
theorem m_X1_atLeast {l : Launch} {g : aG} {this : Nat} {a1 : Int} {a2 : Int} {a3 : Int} {σ : Hp} {r : Int × Hp} (h : F_Bounds_atLeast this a1 a2 a3 σ = some r) : aMet l g shC yX1_atLeast wsX1_atLeast rm_X1_atLeast [vR this, vI a1, vI a2, vI a3] σ 3 r := by
  unfold F_Bounds_atLeast at h
  obtain ⟨ht, h⟩ := gdD h
  refine aMet_of (bytes := cX1_atLeast) (maxL := 4) (ret := none) (by decide +kernel) rfl (Nat.le_of_ble_eq_true rfl) ⟨rfl, rfl⟩ (fun x e1 e2 X E => ?_)
  subst e1; subst e2
  have X : aX x cX1_atLeast wsX1_atLeast RX1 4 rm_X1_atLeast := X
  show aS x shC 4 0 [(0, vR this), (1, vI a1), (2, vI a2), (3, vI a3)] [] σ
  refine A_aload_n X 0 rfl rfl dX1_atLeast_0 ?_
  refine A_getR X fg_X1_atLeast_11 (shBounds ht) (k := 0) rfl (by decide) dX1_atLeast_1 ?_
  refine A_iconst X dX1_atLeast_4 (z := 2) (by decide) ?_
  refine A_iload_n X 1 rfl rfl dX1_atLeast_5 ?_
  refine A_imul X dX1_atLeast_6 ?_
  refine A_iconst X dX1_atLeast_7 (z := 1) (by decide) ?_
  refine A_iadd X dX1_atLeast_8 ?_
  obtain ⟨g1, h⟩ := gdD h
  refine A_aald X g1 (shBounds_bound ht) dX1_atLeast_9 ?_
  refine A_iconst X dX1_atLeast_10 (z := 2) (by decide) ?_
  refine A_iload_n X 2 rfl rfl dX1_atLeast_11 ?_
  refine A_imul X dX1_atLeast_12 ?_
  refine A_iload_n X 3 rfl rfl dX1_atLeast_13 ?_
  refine A_ineg X dX1_atLeast_14 ?_
  obtain ⟨g2, h⟩ := gdD h
  refine A_iast X g2 (shBounds_bound_r ht g1) dX1_atLeast_15 (fun s3 hy => ?_)
  replace h := ltD h s3 hy
  clear hy
  refine A_aload_n X 0 rfl rfl dX1_atLeast_16 ?_
  refine A_getR X fg_X1_atLeast_11 (shBounds ht) (k := 0) rfl (by decide) dX1_atLeast_17 ?_
  refine A_iconst X dX1_atLeast_20 (z := 2) (by decide) ?_
  refine A_iload_n X 2 rfl rfl dX1_atLeast_21 ?_
  refine A_imul X dX1_atLeast_22 ?_
  refine A_iconst X dX1_atLeast_23 (z := 1) (by decide) ?_
  refine A_iadd X dX1_atLeast_24 ?_
  obtain ⟨g4, h⟩ := gdD h
  refine A_aald X g4 (shBounds_bound ht) dX1_atLeast_25 ?_
  refine A_iconst X dX1_atLeast_26 (z := 2) (by decide) ?_
  refine A_iload_n X 1 rfl rfl dX1_atLeast_27 ?_
  refine A_imul X dX1_atLeast_28 ?_
  refine A_iload_n X 3 rfl rfl dX1_atLeast_29 ?_
  refine A_ineg X dX1_atLeast_30 ?_
  obtain ⟨g5, h⟩ := gdD h
  refine A_iast X g5 (shBounds_bound_r ht g4) dX1_atLeast_31 (fun s6 hy => ?_)
  replace h := ltD h s6 hy
  clear hy
  exact A_return X E h dX1_atLeast_32
abbrev rm_X1_atMost : Room := { frames := 0, cells := 0, slots := 0, locals := 0 }
theorem in_X1_atMost_1 : ∀ w ∈ u_ws RX1 TX1 2, w ∈ wsX1_atMost := fun w h => List.mem_cons_of_mem _ (List.mem_append_right _ h)
theorem fg_X1_atMost_11 : aFl wsX1_atMost RX1 11 1 0 := ⟨RX1, TX1, 2, rfl, in_X1_atMost_1, by decide, (List.mem_of_getElem? (i := 1) rfl), rfl⟩
set_option maxRecDepth 100000 in
set_option maxHeartbeats 4000000 in
theorem m_X1_atMost {l : Launch} {g : aG} {this : Nat} {a1 : Int} {a2 : Int} {a3 : Int} {σ : Hp} {r : Int × Hp} (h : F_Bounds_atMost this a1 a2 a3 σ = some r) : aMet l g shC yX1_atMost wsX1_atMost rm_X1_atMost [vR this, vI a1, vI a2, vI a3] σ 3 r := by
  unfold F_Bounds_atMost at h
  obtain ⟨ht, h⟩ := gdD h
  refine aMet_of (bytes := cX1_atMost) (maxL := 4) (ret := none) (by decide +kernel) rfl (Nat.le_of_ble_eq_true rfl) ⟨rfl, rfl⟩ (fun x e1 e2 X E => ?_)
  subst e1; subst e2
  have X : aX x cX1_atMost wsX1_atMost RX1 4 rm_X1_atMost := X
  show aS x shC 4 0 [(0, vR this), (1, vI a1), (2, vI a2), (3, vI a3)] [] σ
  refine A_aload_n X 0 rfl rfl dX1_atMost_0 ?_
  refine A_getR X fg_X1_atMost_11 (shBounds ht) (k := 0) rfl (by decide) dX1_atMost_1 ?_
  refine A_iconst X dX1_atMost_4 (z := 2) (by decide) ?_
  refine A_iload_n X 1 rfl rfl dX1_atMost_5 ?_
  refine A_imul X dX1_atMost_6 ?_
  obtain ⟨g1, h⟩ := gdD h
  refine A_aald X g1 (shBounds_bound ht) dX1_atMost_7 ?_
  refine A_iconst X dX1_atMost_8 (z := 2) (by decide) ?_
  refine A_iload_n X 2 rfl rfl dX1_atMost_9 ?_
  refine A_imul X dX1_atMost_10 ?_
  refine A_iconst X dX1_atMost_11 (z := 1) (by decide) ?_
  refine A_iadd X dX1_atMost_12 ?_
  refine A_iload_n X 3 rfl rfl dX1_atMost_13 ?_
  obtain ⟨g2, h⟩ := gdD h
  refine A_iast X g2 (shBounds_bound_r ht g1) dX1_atMost_14 (fun s3 hy => ?_)
  replace h := ltD h s3 hy
  clear hy
  refine A_aload_n X 0 rfl rfl dX1_atMost_15 ?_
  refine A_getR X fg_X1_atMost_11 (shBounds ht) (k := 0) rfl (by decide) dX1_atMost_16 ?_
  refine A_iconst X dX1_atMost_19 (z := 2) (by decide) ?_
  refine A_iload_n X 2 rfl rfl dX1_atMost_20 ?_
  refine A_imul X dX1_atMost_21 ?_
  obtain ⟨g4, h⟩ := gdD h
  refine A_aald X g4 (shBounds_bound ht) dX1_atMost_22 ?_
  refine A_iconst X dX1_atMost_23 (z := 2) (by decide) ?_
  refine A_iload_n X 1 rfl rfl dX1_atMost_24 ?_
  refine A_imul X dX1_atMost_25 ?_
  refine A_iconst X dX1_atMost_26 (z := 1) (by decide) ?_
  refine A_iadd X dX1_atMost_27 ?_
  refine A_iload_n X 3 rfl rfl dX1_atMost_28 ?_
  obtain ⟨g5, h⟩ := gdD h
  refine A_iast X g5 (shBounds_bound_r ht g4) dX1_atMost_29 (fun s6 hy => ?_)
  replace h := ltD h s6 hy
  clear hy
  exact A_return X E h dX1_atMost_30
abbrev rm_X1_nothingFor : Room := { frames := 0, cells := 0, slots := 0, locals := 0 }
theorem in_X1_nothingFor_1 : ∀ w ∈ u_ws RX1 TX1 2, w ∈ wsX1_nothingFor := fun w h => List.mem_cons_of_mem _ (List.mem_append_right _ h)
theorem fg_X1_nothingFor_11 : aFl wsX1_nothingFor RX1 11 1 0 := ⟨RX1, TX1, 2, rfl, in_X1_nothingFor_1, by decide, (List.mem_of_getElem? (i := 1) rfl), rfl⟩
set_option maxRecDepth 100000 in
set_option maxHeartbeats 4000000 in
theorem m_X1_nothingFor {l : Launch} {g : aG} {this : Nat} {a1 : Int} {σ : Hp} {r : Int × Hp} (h : F_Bounds_nothingFor this a1 σ = some r) : aMet l g shC yX1_nothingFor wsX1_nothingFor rm_X1_nothingFor [vR this, vI a1] σ 3 r := by
  unfold F_Bounds_nothingFor at h
  obtain ⟨ht, h⟩ := gdD h
  refine aMet_of (bytes := cX1_nothingFor) (maxL := 2) (ret := none) (by decide +kernel) rfl (Nat.le_of_ble_eq_true rfl) ⟨rfl, rfl⟩ (fun x e1 e2 X E => ?_)
  subst e1; subst e2
  have X : aX x cX1_nothingFor wsX1_nothingFor RX1 2 rm_X1_nothingFor := X
  show aS x shC 2 0 [(0, vR this), (1, vI a1)] [] σ
  refine A_aload_n X 0 rfl rfl dX1_nothingFor_0 ?_
  refine A_getR X fg_X1_nothingFor_11 (shBounds ht) (k := 0) rfl (by decide) dX1_nothingFor_1 ?_
  refine A_iconst X dX1_nothingFor_4 (z := 2) (by decide) ?_
  refine A_iload_n X 1 rfl rfl dX1_nothingFor_5 ?_
  refine A_imul X dX1_nothingFor_6 ?_
  obtain ⟨g1, h⟩ := gdD h
  refine A_aald X g1 (shBounds_bound ht) dX1_nothingFor_7 ?_
  refine A_iconst X dX1_nothingFor_8 (z := 2) (by decide) ?_
  refine A_iload_n X 1 rfl rfl dX1_nothingFor_9 ?_
  refine A_imul X dX1_nothingFor_10 ?_
  refine A_iconst X dX1_nothingFor_11 (z := 1) (by decide) ?_
  refine A_iadd X dX1_nothingFor_12 ?_
  refine A_iconst X dX1_nothingFor_13 (z := 0) (by decide) ?_
  obtain ⟨g2, h⟩ := gdD h
  refine A_iast X g2 (shBounds_bound_r ht g1) dX1_nothingFor_14 (fun s3 hy => ?_)
  replace h := ltD h s3 hy
  clear hy
  exact A_return X E h dX1_nothingFor_15
abbrev rm_X1_close : Room := { frames := 0, cells := 0, slots := 0, locals := 0 }
theorem in_X1_close_1 : ∀ w ∈ u_ws RX1 TX1 2, w ∈ wsX1_close := fun w h => List.mem_cons_of_mem _ (List.mem_append_right _ h)
theorem fg_X1_close_22 : aFl wsX1_close RX1 22 1 1 := ⟨RX1, TX1, 2, rfl, in_X1_close_1, by decide, (List.mem_of_getElem? (i := 1) rfl), rfl⟩
theorem fg_X1_close_11 : aFl wsX1_close RX1 11 1 0 := ⟨RX1, TX1, 2, rfl, in_X1_close_1, by decide, (List.mem_of_getElem? (i := 2) rfl), rfl⟩
set_option maxRecDepth 100000 in
set_option maxHeartbeats 4000000 in
theorem w_X1_close_94 {x : aC} {r : Int × Hp} {k32 : Int × Int × Int × Int × Hp → Option (Int × Hp)} {this : Nat} (X : aX x cX1_close wsX1_close RX1 6 rm_X1_close) (E : aE x shC none 3 r) (hk32 : ∀ (x1 : Int) (x2 : Int) (x3 : Int) (x4 : Int) (σ : Hp), k32 (x1, x2, x3, x4, σ) = some r → aS x shC 6 32 [(0, vR this), (1, vI x1), (2, vI x2), (3, vI x3), (4, vI x4)] [] σ) (ht : isBounds this) (x1 : Int) (x2 : Int) (x3 : Int) (x4 : Int) (σ : Hp) (h : F_Bounds_close_94 k32 this x1 x2 x3 x4 σ = some r) : aS x shC 6 94 [(0, vR this), (1, vI x1), (2, vI x2), (3, vI x3), (4, vI x4)] [] σ := by
  unfold F_Bounds_close_94 at h
  refine A_iinc X (L' := fun y4_1 => [(4, vI y4_1), (0, vR this), (1, vI x1), (2, vI x2), (3, vI x3)]) 4 rfl (by decide) (fun _ => rfl) dX1_close_94 (by decide) (fun y4_1 hy => ?_)
  replace h := ltD h y4_1 hy
  clear hy
  refine A_goto X (tgt := 32) (by decide) dX1_close_97 ?_
  refine A_sub [1, 2, 3, 4, 0] rfl (L' := [(0, vR this), (1, vI x1), (2, vI x2), (3, vI x3), (4, vI y4_1)]) rfl ?_
  exact hk32 x1 x2 x3 y4_1 σ h
set_option maxRecDepth 100000 in
set_option maxHeartbeats 4000000 in
theorem w_X1_close_100 {x : aC} {r : Int × Hp} {k12 : Int × Int × Hp → Option (Int × Hp)} {this : Nat} (X : aX x cX1_close wsX1_close RX1 6 rm_X1_close) (E : aE x shC none 3 r) (hk12 : ∀ (x1 : Int) (x2 : Int) (σ : Hp), k12 (x1, x2, σ) = some r → aS x shC 6 12 [(0, vR this), (1, vI x1), (2, vI x2)] [] σ) (ht : isBounds this) (x1 : Int) (x2 : Int) (σ : Hp) (h : F_Bounds_close_100 k12 this x1 x2 σ = some r) : aS x shC 6 100 [(0, vR this), (1, vI x1), (2, vI x2)] [] σ := by
  unfold F_Bounds_close_100 at h
  refine A_iinc X (L' := fun y2_2 => [(2, vI y2_2), (0, vR this), (1, vI x1)]) 2 rfl (by decide) (fun _ => rfl) dX1_close_100 (by decide) (fun y2_2 hy => ?_)
  replace h := ltD h y2_2 hy
  clear hy
  refine A_goto X (tgt := 12) (by decide) dX1_close_103 ?_
  refine A_sub [1, 2, 0] rfl (L' := [(0, vR this), (1, vI x1), (2, vI y2_2)]) rfl ?_
  exact hk12 x1 y2_2 σ h
set_option maxRecDepth 100000 in
set_option maxHeartbeats 4000000 in
theorem w_X1_close_32_b {x : aC} {r : Int × Hp} {k12 : Int × Int × Hp → Option (Int × Hp)} {k32 : Int × Int × Int × Int × Hp → Option (Int × Hp)} {this : Nat} (X : aX x cX1_close wsX1_close RX1 6 rm_X1_close) (E : aE x shC none 3 r) (hk12 : ∀ (x1 : Int) (x2 : Int) (σ : Hp), k12 (x1, x2, σ) = some r → aS x shC 6 12 [(0, vR this), (1, vI x1), (2, vI x2)] [] σ) (hk32 : ∀ (x1 : Int) (x2 : Int) (x3 : Int) (x4 : Int) (σ : Hp), k32 (x1, x2, x3, x4, σ) = some r → aS x shC 6 32 [(0, vR this), (1, vI x1), (2, vI x2), (3, vI x3), (4, vI x4)] [] σ) (ht : isBounds this) (x1 : Int) (x2 : Int) (x3 : Int) (x4 : Int) (σ : Hp) (h : F_Bounds_close_32_b k12 k32 this x1 x2 x3 x4 σ = some r) : aS x shC 6 32 [(0, vR this), (1, vI x1), (2, vI x2), (3, vI x3), (4, vI x4)] [] σ := by
  unfold F_Bounds_close_32_b at h
  refine A_iload_n X 3 rfl rfl dX1_close_32 ?_
  refine A_ldc X (v := (1000000000)) (List.mem_of_getElem? (i := 3) rfl) dX1_close_33 (z := 1000000000) (by decide) ?_
  refine A_icmp_eq X (tgt := 100) (by decide) dX1_close_35 (fun c3 => ?_) (fun c3 => ?_)
  · replace h := ifT h c3
    refine A_sub [0, 1, 2] rfl (L' := [(0, vR this), (1, vI x1), (2, vI x2)]) rfl ?_
    exact w_X1_close_100 (this := this) X E hk12 ht x1 x2 σ h
  · replace h := ifF h c3
    refine A_iload X 4 rfl dX1_close_38 ?_
    refine A_aload_n X 0 rfl rfl dX1_close_40 ?_
    refine A_getI X fg_X1_close_22 (shBounds ht) (k := 1) rfl (by decide) dX1_close_41 ?_
    refine A_icmp_ge X (tgt := 100) (by decide) dX1_close_44 (fun c4 => ?_) (fun c4 => ?_)
    · replace h := ifT h c4
      refine A_sub [0, 1, 2] rfl (L' := [(0, vR this), (1, vI x1), (2, vI x2)]) rfl ?_
      exact w_X1_close_100 (this := this) X E hk12 ht x1 x2 σ h
    · replace h := ifF h c4
      refine A_aload_n X 0 rfl rfl dX1_close_47 ?_
      refine A_getR X fg_X1_close_11 (shBounds ht) (k := 0) rfl (by decide) dX1_close_48 ?_
      refine A_iload_n X 1 rfl rfl dX1_close_51 ?_
      obtain ⟨g5, h⟩ := gdD h
      refine A_aald X g5 (shBounds_bound ht) dX1_close_52 ?_
      refine A_iload X 4 rfl dX1_close_53 ?_
      obtain ⟨g6, h⟩ := gdD h
      refine A_iald X g6 (shBounds_bound_r ht g5) dX1_close_55 ?_
      refine A_istoreN X (L' := fun y5_7 => [(5, vI y5_7), (0, vR this), (1, vI x1), (2, vI x2), (3, vI x3), (4, vI x4)]) (by decide) (fun _ => rfl) dX1_close_56 (fun y5_7 hy => ?_)
      replace h := ltD h y5_7 hy
      clear hy
      refine A_iload X 0 rfl dX1_close_58 ?_
      refine A_ldc X (v := (1000000000)) (List.mem_of_getElem? (i := 3) rfl) dX1_close_60 (z := 1000000000) (by decide) ?_
      refine A_icmp_eq X (tgt := 94) (by decide) dX1_close_62 (fun c8 => ?_) (fun c8 => ?_)
      · replace h := ifT h c8
        refine A_sub [1, 2, 3, 4, 5] rfl (L' := [(0, vR this), (1, vI x1), (2, vI x2), (3, vI x3), (4, vI x4)]) rfl ?_
        exact w_X1_close_94 (this := this) X E hk32 ht x1 x2 x3 x4 σ h
      · replace h := ifF h c8
        refine A_iload_n X 4 rfl rfl dX1_close_65 ?_
        refine A_iload X 0 rfl dX1_close_66 ?_
        refine A_iadd X dX1_close_68 ?_
        refine A_aload_n X 1 rfl rfl dX1_close_69 ?_
        refine A_getR X fg_X1_close_11 (shBounds ht) (k := 0) rfl (by decide) dX1_close_70 ?_
        refine A_iload_n X 3 rfl rfl dX1_close_73 ?_
        obtain ⟨g9, h⟩ := gdD h
        refine A_aald X g9 (shBounds_bound ht) dX1_close_74 ?_
        refine A_iload X 5 rfl dX1_close_75 ?_
        obtain ⟨g10, h⟩ := gdD h
        refine A_iald X g10 (shBounds_bound_r ht g9) dX1_close_77 ?_
        refine A_icmp_ge X (tgt := 94) (by decide) dX1_close_78 (fun c11 => ?_) (fun c11 => ?_)
        · replace h := ifT h c11
          refine A_sub [1, 2, 3, 4, 5] rfl (L' := [(0, vR this), (1, vI x1), (2, vI x2), (3, vI x3), (4, vI x4)]) rfl ?_
          exact w_X1_close_94 (this := this) X E hk32 ht x1 x2 x3 x4 σ h
        · replace h := ifF h c11
          refine A_aload_n X 1 rfl rfl dX1_close_81 ?_
          refine A_getR X fg_X1_close_11 (shBounds ht) (k := 0) rfl (by decide) dX1_close_82 ?_
          refine A_iload_n X 3 rfl rfl dX1_close_85 ?_
          obtain ⟨g12, h⟩ := gdD h
          refine A_aald X g12 (shBounds_bound ht) dX1_close_86 ?_
          refine A_iload X 5 rfl dX1_close_87 ?_
          refine A_iload_n X 4 rfl rfl dX1_close_89 ?_
          refine A_iload X 0 rfl dX1_close_90 ?_
          refine A_iadd X dX1_close_92 ?_
          obtain ⟨g13, h⟩ := gdD h
          refine A_iast X g13 (shBounds_bound_r ht g12) dX1_close_93 (fun s14 hy => ?_)
          replace h := ltD h s14 hy
          clear hy
          refine A_sub [1, 2, 3, 4, 5] rfl (L' := [(0, vR this), (1, vI x1), (2, vI x2), (3, vI x3), (4, vI x4)]) rfl ?_
          exact w_X1_close_94 (this := this) X E hk32 ht x1 x2 x3 x4 s14 h
set_option maxRecDepth 100000 in
set_option maxHeartbeats 4000000 in
theorem w_X1_close_32 {x : aC} {r : Int × Hp} {k12 : Int × Int × Hp → Option (Int × Hp)} {this : Nat} (X : aX x cX1_close wsX1_close RX1 6 rm_X1_close) (E : aE x shC none 3 r) (hk12 : ∀ (x1 : Int) (x2 : Int) (σ : Hp), k12 (x1, x2, σ) = some r → aS x shC 6 12 [(0, vR this), (1, vI x1), (2, vI x2)] [] σ) (ht : isBounds this) : ∀ (n : Nat) (x1 : Int) (x2 : Int) (x3 : Int) (x4 : Int) (σ : Hp) (h : F_Bounds_close_32 k12 this n (x1, x2, x3, x4, σ) = some r), aS x shC 6 32 [(0, vR this), (1, vI x1), (2, vI x2), (3, vI x3), (4, vI x4)] [] σ := by
  intro n
  induction n with
  | zero => intro x1 x2 x3 x4 σ h; cases h
  | succ n ih => intro x1 x2 x3 x4 σ h; exact w_X1_close_32_b (this := this) (k32 := F_Bounds_close_32 k12 this n) X E hk12 ih ht x1 x2 x3 x4 σ h
set_option maxRecDepth 100000 in
set_option maxHeartbeats 4000000 in
theorem w_X1_close_12_b {x : aC} {r : Int × Hp} {k2 : Int × Hp → Option (Int × Hp)} {k12 : Int × Int × Hp → Option (Int × Hp)} {this : Nat} (X : aX x cX1_close wsX1_close RX1 6 rm_X1_close) (E : aE x shC none 3 r) (hk2 : ∀ (x1 : Int) (σ : Hp), k2 (x1, σ) = some r → aS x shC 6 2 [(0, vR this), (1, vI x1)] [] σ) (hk12 : ∀ (x1 : Int) (x2 : Int) (σ : Hp), k12 (x1, x2, σ) = some r → aS x shC 6 12 [(0, vR this), (1, vI x1), (2, vI x2)] [] σ) (ht : isBounds this) (x1 : Int) (x2 : Int) (σ : Hp) (h : F_Bounds_close_12_b k2 k12 this x1 x2 σ = some r) : aS x shC 6 12 [(0, vR this), (1, vI x1), (2, vI x2)] [] σ := by
  unfold F_Bounds_close_12_b at h
  refine A_iload_n X 2 rfl rfl dX1_close_12 ?_
  refine A_aload_n X 0 rfl rfl dX1_close_13 ?_
  refine A_getI X fg_X1_close_22 (shBounds ht) (k := 1) rfl (by decide) dX1_close_14 ?_
  refine A_icmp_ge X (tgt := 106) (by decide) dX1_close_17 (fun c15 => ?_) (fun c15 => ?_)
  · replace h := ifT h c15
    refine A_iinc X (L' := fun y1_16 => [(1, vI y1_16), (0, vR this), (2, vI x2)]) 1 rfl (by decide) (fun _ => rfl) dX1_close_106 (by decide) (fun y1_16 hy => ?_)
    replace h := ltD h y1_16 hy
    clear hy
    refine A_goto X (tgt := 2) (by decide) dX1_close_109 ?_
    refine A_sub [1, 0] rfl (L' := [(0, vR this), (1, vI y1_16)]) rfl ?_
    exact hk2 y1_16 σ h
  · replace h := ifF h c15
    refine A_aload_n X 0 rfl rfl dX1_close_20 ?_
    refine A_getR X fg_X1_close_11 (shBounds ht) (k := 0) rfl (by decide) dX1_close_21 ?_
    refine A_iload_n X 2 rfl rfl dX1_close_24 ?_
    obtain ⟨g17, h⟩ := gdD h
    refine A_aald X g17 (shBounds_bound ht) dX1_close_25 ?_
    refine A_iload_n X 1 rfl rfl dX1_close_26 ?_
    obtain ⟨g18, h⟩ := gdD h
    refine A_iald X g18 (shBounds_bound_r ht g17) dX1_close_27 ?_
    refine A_istore_nN X (L' := fun y3_19 => [(3, vI y3_19), (0, vR this), (1, vI x1), (2, vI x2)]) rfl (by decide) (fun _ => rfl) dX1_close_28 (fun y3_19 hy => ?_)
    replace h := ltD h y3_19 hy
    clear hy
    refine A_iconst X dX1_close_29 (z := 0) (by decide) ?_
    refine A_istore X (L' := [(4, vI 0), (3, vI y3_19), (0, vR this), (1, vI x1), (2, vI x2)]) (by decide) rfl dX1_close_30 ?_
    refine A_sub [2, 3, 4, 1, 0] rfl (L' := [(0, vR this), (1, vI x1), (2, vI x2), (3, vI y3_19), (4, vI 0)]) rfl ?_
    exact w_X1_close_32 (this := this) X E hk12 ht FU x1 x2 y3_19 0 σ h
set_option maxRecDepth 100000 in
set_option maxHeartbeats 4000000 in
theorem w_X1_close_12 {x : aC} {r : Int × Hp} {k2 : Int × Hp → Option (Int × Hp)} {this : Nat} (X : aX x cX1_close wsX1_close RX1 6 rm_X1_close) (E : aE x shC none 3 r) (hk2 : ∀ (x1 : Int) (σ : Hp), k2 (x1, σ) = some r → aS x shC 6 2 [(0, vR this), (1, vI x1)] [] σ) (ht : isBounds this) : ∀ (n : Nat) (x1 : Int) (x2 : Int) (σ : Hp) (h : F_Bounds_close_12 k2 this n (x1, x2, σ) = some r), aS x shC 6 12 [(0, vR this), (1, vI x1), (2, vI x2)] [] σ := by
  intro n
  induction n with
  | zero => intro x1 x2 σ h; cases h
  | succ n ih => intro x1 x2 σ h; exact w_X1_close_12_b (this := this) (k12 := F_Bounds_close_12 k2 this n) X E hk2 ih ht x1 x2 σ h
set_option maxRecDepth 100000 in
set_option maxHeartbeats 4000000 in
theorem w_X1_close_2_b {x : aC} {r : Int × Hp} {k2 : Int × Hp → Option (Int × Hp)} {this : Nat} (X : aX x cX1_close wsX1_close RX1 6 rm_X1_close) (E : aE x shC none 3 r) (hk2 : ∀ (x1 : Int) (σ : Hp), k2 (x1, σ) = some r → aS x shC 6 2 [(0, vR this), (1, vI x1)] [] σ) (ht : isBounds this) (x1 : Int) (σ : Hp) (h : F_Bounds_close_2_b k2 this x1 σ = some r) : aS x shC 6 2 [(0, vR this), (1, vI x1)] [] σ := by
  unfold F_Bounds_close_2_b at h
  refine A_iload_n X 1 rfl rfl dX1_close_2 ?_
  refine A_aload_n X 0 rfl rfl dX1_close_3 ?_
  refine A_getI X fg_X1_close_22 (shBounds ht) (k := 1) rfl (by decide) dX1_close_4 ?_
  refine A_icmp_ge X (tgt := 112) (by decide) dX1_close_7 (fun c20 => ?_) (fun c20 => ?_)
  · replace h := ifT h c20
    exact A_return X E h dX1_close_112
  · replace h := ifF h c20
    refine A_iconst X dX1_close_10 (z := 0) (by decide) ?_
    refine A_istore_n X (L' := [(2, vI 0), (0, vR this), (1, vI x1)]) rfl (by decide) rfl dX1_close_11 ?_
    refine A_sub [1, 2, 0] rfl (L' := [(0, vR this), (1, vI x1), (2, vI 0)]) rfl ?_
    exact w_X1_close_12 (this := this) X E hk2 ht FU x1 0 σ h
set_option maxRecDepth 100000 in
set_option maxHeartbeats 4000000 in
theorem w_X1_close_2 {x : aC} {r : Int × Hp} {this : Nat} (X : aX x cX1_close wsX1_close RX1 6 rm_X1_close) (E : aE x shC none 3 r) (ht : isBounds this) : ∀ (n : Nat) (x1 : Int) (σ : Hp) (h : F_Bounds_close_2 this n (x1, σ) = some r), aS x shC 6 2 [(0, vR this), (1, vI x1)] [] σ := by
  intro n
  induction n with
  | zero => intro x1 σ h; cases h
  | succ n ih => intro x1 σ h; exact w_X1_close_2_b (this := this) (k2 := F_Bounds_close_2 this n) X E ih ht x1 σ h
set_option maxRecDepth 100000 in
set_option maxHeartbeats 4000000 in
theorem m_X1_close {l : Launch} {g : aG} {this : Nat} {σ : Hp} {r : Int × Hp} (h : F_Bounds_close this σ = some r) : aMet l g shC yX1_close wsX1_close rm_X1_close [vR this] σ 3 r := by
  unfold F_Bounds_close at h
  obtain ⟨ht, h⟩ := gdD h
  refine aMet_of (bytes := cX1_close) (maxL := 6) (ret := none) (by decide +kernel) rfl (Nat.le_of_ble_eq_true rfl) ⟨rfl, rfl⟩ (fun x e1 e2 X E => ?_)
  subst e1; subst e2
  have X : aX x cX1_close wsX1_close RX1 6 rm_X1_close := X
  show aS x shC 6 0 [(0, vR this)] [] σ
  refine A_iconst X dX1_close_0 (z := 0) (by decide) ?_
  refine A_istore_n X (L' := [(1, vI 0), (0, vR this)]) rfl (by decide) rfl dX1_close_1 ?_
  refine A_sub [1, 0] rfl (L' := [(0, vR this), (1, vI 0)]) rfl ?_
  exact w_X1_close_2 (this := this) X E ht FU 0 σ h
abbrev rm_X1_twiceMost : Room := { frames := 0, cells := 0, slots := 0, locals := 0 }
theorem in_X1_twiceMost_1 : ∀ w ∈ u_ws RX1 TX1 2, w ∈ wsX1_twiceMost := fun w h => List.mem_cons_of_mem _ (List.mem_append_right _ h)
theorem fg_X1_twiceMost_11 : aFl wsX1_twiceMost RX1 11 1 0 := ⟨RX1, TX1, 2, rfl, in_X1_twiceMost_1, by decide, (List.mem_of_getElem? (i := 1) rfl), rfl⟩
set_option maxRecDepth 100000 in
set_option maxHeartbeats 4000000 in
theorem m_X1_twiceMost {l : Launch} {g : aG} {this : Nat} {a1 : Int} {σ : Hp} {r : Int × Hp} (h : F_Bounds_twiceMost this a1 σ = some r) : aMet l g shC yX1_twiceMost wsX1_twiceMost rm_X1_twiceMost [vR this, vI a1] σ 0 r := by
  unfold F_Bounds_twiceMost at h
  obtain ⟨ht, h⟩ := gdD h
  refine aMet_of (bytes := cX1_twiceMost) (maxL := 2) (ret := (some .int)) (by decide +kernel) rfl (Nat.le_of_ble_eq_true rfl) ⟨rfl, rfl⟩ (fun x e1 e2 X E => ?_)
  subst e1; subst e2
  have X : aX x cX1_twiceMost wsX1_twiceMost RX1 2 rm_X1_twiceMost := X
  show aS x shC 2 0 [(0, vR this), (1, vI a1)] [] σ
  refine A_aload_n X 0 rfl rfl dX1_twiceMost_0 ?_
  refine A_getR X fg_X1_twiceMost_11 (shBounds ht) (k := 0) rfl (by decide) dX1_twiceMost_1 ?_
  refine A_iconst X dX1_twiceMost_4 (z := 2) (by decide) ?_
  refine A_iload_n X 1 rfl rfl dX1_twiceMost_5 ?_
  refine A_imul X dX1_twiceMost_6 ?_
  obtain ⟨g1, h⟩ := gdD h
  refine A_aald X g1 (shBounds_bound ht) dX1_twiceMost_7 ?_
  refine A_iconst X dX1_twiceMost_8 (z := 2) (by decide) ?_
  refine A_iload_n X 1 rfl rfl dX1_twiceMost_9 ?_
  refine A_imul X dX1_twiceMost_10 ?_
  refine A_iconst X dX1_twiceMost_11 (z := 1) (by decide) ?_
  refine A_iadd X dX1_twiceMost_12 ?_
  obtain ⟨g2, h⟩ := gdD h
  refine A_iald X g2 (shBounds_bound_r ht g1) dX1_twiceMost_13 ?_
  exact A_ireturn X E h dX1_twiceMost_14
abbrev rm_X1_twiceLeast : Room := { frames := 0, cells := 0, slots := 0, locals := 0 }
theorem in_X1_twiceLeast_1 : ∀ w ∈ u_ws RX1 TX1 2, w ∈ wsX1_twiceLeast := fun w h => List.mem_cons_of_mem _ (List.mem_append_right _ h)
theorem fg_X1_twiceLeast_11 : aFl wsX1_twiceLeast RX1 11 1 0 := ⟨RX1, TX1, 2, rfl, in_X1_twiceLeast_1, by decide, (List.mem_of_getElem? (i := 1) rfl), rfl⟩
set_option maxRecDepth 100000 in
set_option maxHeartbeats 4000000 in
theorem m_X1_twiceLeast {l : Launch} {g : aG} {this : Nat} {a1 : Int} {σ : Hp} {r : Int × Hp} (h : F_Bounds_twiceLeast this a1 σ = some r) : aMet l g shC yX1_twiceLeast wsX1_twiceLeast rm_X1_twiceLeast [vR this, vI a1] σ 0 r := by
  unfold F_Bounds_twiceLeast at h
  obtain ⟨ht, h⟩ := gdD h
  refine aMet_of (bytes := cX1_twiceLeast) (maxL := 2) (ret := (some .int)) (by decide +kernel) rfl (Nat.le_of_ble_eq_true rfl) ⟨rfl, rfl⟩ (fun x e1 e2 X E => ?_)
  subst e1; subst e2
  have X : aX x cX1_twiceLeast wsX1_twiceLeast RX1 2 rm_X1_twiceLeast := X
  show aS x shC 2 0 [(0, vR this), (1, vI a1)] [] σ
  refine A_aload_n X 0 rfl rfl dX1_twiceLeast_0 ?_
  refine A_getR X fg_X1_twiceLeast_11 (shBounds ht) (k := 0) rfl (by decide) dX1_twiceLeast_1 ?_
  refine A_iconst X dX1_twiceLeast_4 (z := 2) (by decide) ?_
  refine A_iload_n X 1 rfl rfl dX1_twiceLeast_5 ?_
  refine A_imul X dX1_twiceLeast_6 ?_
  refine A_iconst X dX1_twiceLeast_7 (z := 1) (by decide) ?_
  refine A_iadd X dX1_twiceLeast_8 ?_
  obtain ⟨g1, h⟩ := gdD h
  refine A_aald X g1 (shBounds_bound ht) dX1_twiceLeast_9 ?_
  refine A_iconst X dX1_twiceLeast_10 (z := 2) (by decide) ?_
  refine A_iload_n X 1 rfl rfl dX1_twiceLeast_11 ?_
  refine A_imul X dX1_twiceLeast_12 ?_
  obtain ⟨g2, h⟩ := gdD h
  refine A_iald X g2 (shBounds_bound_r ht g1) dX1_twiceLeast_13 ?_
  refine A_ineg X dX1_twiceLeast_14 ?_
  exact A_ireturn X E h dX1_twiceLeast_15
abbrev rm_X2_hasRoom : Room := { frames := 0, cells := 0, slots := 0, locals := 0 }
theorem in_X2_hasRoom_2 : ∀ w ∈ u_ws RX2 TX2 2, w ∈ wsX2_hasRoom := fun w h => List.mem_cons_of_mem _ (List.mem_append_right _ h)
theorem fg_X2_hasRoom_21 : aFl wsX2_hasRoom RX2 21 2 1 := ⟨RX2, TX2, 2, rfl, in_X2_hasRoom_2, by decide, (List.mem_of_getElem? (i := 1) rfl), rfl⟩
theorem fg_X2_hasRoom_15 : aFl wsX2_hasRoom RX2 15 2 0 := ⟨RX2, TX2, 2, rfl, in_X2_hasRoom_2, by decide, (List.mem_of_getElem? (i := 2) rfl), rfl⟩
set_option maxRecDepth 100000 in
set_option maxHeartbeats 4000000 in
theorem w_X2_hasRoom_19 {x : aC} {r : Int × Hp} {this : Nat} {a1 : Int} (X : aX x cX2_hasRoom wsX2_hasRoom RX2 2 rm_X2_hasRoom) (E : aE x shC (some .boolean) 0 r) (ht : isBytes this) (t1 : Int) (σ : Hp) (h : F_Bytes_hasRoom_19 this a1 t1 σ = some r) : aS x shC 2 19 [] [vI t1] σ := by
  unfold F_Bytes_hasRoom_19 at h
  obtain ⟨g1, h⟩ := gdD h
  exact A_zreturn X g1 E h dX2_hasRoom_19
set_option maxRecDepth 100000 in
set_option maxHeartbeats 4000000 in
theorem m_X2_hasRoom {l : Launch} {g : aG} {this : Nat} {a1 : Int} {σ : Hp} {r : Int × Hp} (h : F_Bytes_hasRoom this a1 σ = some r) : aMet l g shC yX2_hasRoom wsX2_hasRoom rm_X2_hasRoom [vR this, vI a1] σ 0 r := by
  unfold F_Bytes_hasRoom at h
  obtain ⟨ht, h⟩ := gdD h
  refine aMet_of (bytes := cX2_hasRoom) (maxL := 2) (ret := (some .boolean)) (by decide +kernel) rfl (Nat.le_of_ble_eq_true rfl) ⟨rfl, rfl⟩ (fun x e1 e2 X E => ?_)
  subst e1; subst e2
  have X : aX x cX2_hasRoom wsX2_hasRoom RX2 2 rm_X2_hasRoom := X
  show aS x shC 2 0 [(0, vR this), (1, vI a1)] [] σ
  refine A_aload_n X 0 rfl rfl dX2_hasRoom_0 ?_
  refine A_getI X fg_X2_hasRoom_21 (shBytes ht) (k := 1) rfl (by decide) dX2_hasRoom_1 ?_
  refine A_iload_n X 1 rfl rfl dX2_hasRoom_4 ?_
  refine A_iadd X dX2_hasRoom_5 ?_
  refine A_aload_n X 0 rfl rfl dX2_hasRoom_6 ?_
  refine A_getR X fg_X2_hasRoom_15 (shBytes ht) (k := 0) rfl (by decide) dX2_hasRoom_7 ?_
  refine A_alen102 X (shC_len _) (shBytes_row ht) dX2_hasRoom_10 ?_
  refine A_icmp_gt X (tgt := 18) (by decide) dX2_hasRoom_11 (fun c2 => ?_) (fun c2 => ?_)
  · replace h := ifT h c2
    refine A_iconst X dX2_hasRoom_18 (z := 0) (by decide) ?_
    refine A_sub [] rfl (L' := []) rfl ?_
    exact w_X2_hasRoom_19 (this := this) (a1 := a1) X E ht 0 σ h
  · replace h := ifF h c2
    refine A_iconst X dX2_hasRoom_14 (z := 1) (by decide) ?_
    refine A_goto X (tgt := 19) (by decide) dX2_hasRoom_15 ?_
    refine A_sub [] rfl (L' := []) rfl ?_
    exact w_X2_hasRoom_19 (this := this) (a1 := a1) X E ht 1 σ h
abbrev rm_X2_put : Room := { frames := 0, cells := 0, slots := 0, locals := 0 }
theorem in_X2_put_2 : ∀ w ∈ u_ws RX2 TX2 2, w ∈ wsX2_put := fun w h => List.mem_cons_of_mem _ (List.mem_append_right _ h)
theorem fg_X2_put_21 : aFl wsX2_put RX2 21 2 1 := ⟨RX2, TX2, 2, rfl, in_X2_put_2, by decide, (List.mem_of_getElem? (i := 1) rfl), rfl⟩
theorem fg_X2_put_15 : aFl wsX2_put RX2 15 2 0 := ⟨RX2, TX2, 2, rfl, in_X2_put_2, by decide, (List.mem_of_getElem? (i := 2) rfl), rfl⟩
theorem fp_X2_put_21 : aFp wsX2_put RX2 21 2 1 .int := ⟨RX2, TX2, 2, tyX2, rfl, in_X2_put_2, by decide, (List.mem_of_getElem? (i := 1) rfl), rfl, tyX2_ok, nmX2, rfl, rfl⟩
set_option maxRecDepth 100000 in
set_option maxHeartbeats 4000000 in
theorem w_X2_put_33 {x : aC} {r : Int × Hp} {this : Nat} {a1 : Int} (X : aX x cX2_put wsX2_put RX2 2 rm_X2_put) (E : aE x shC none 3 r) (ht : isBytes this) (σ : Hp) (h : F_Bytes_put_33 this a1 σ = some r) : aS x shC 2 33 [] [] σ := by
  unfold F_Bytes_put_33 at h
  exact A_return X E h dX2_put_33
set_option maxRecDepth 100000 in
set_option maxHeartbeats 4000000 in
theorem m_X2_put {l : Launch} {g : aG} {this : Nat} {a1 : Int} {σ : Hp} {r : Int × Hp} (h : F_Bytes_put this a1 σ = some r) : aMet l g shC yX2_put wsX2_put rm_X2_put [vR this, vI a1] σ 3 r := by
  unfold F_Bytes_put at h
  obtain ⟨ht, h⟩ := gdD h
  refine aMet_of (bytes := cX2_put) (maxL := 2) (ret := none) (by decide +kernel) rfl (Nat.le_of_ble_eq_true rfl) ⟨rfl, rfl⟩ (fun x e1 e2 X E => ?_)
  subst e1; subst e2
  have X : aX x cX2_put wsX2_put RX2 2 rm_X2_put := X
  show aS x shC 2 0 [(0, vR this), (1, vI a1)] [] σ
  refine A_aload_n X 0 rfl rfl dX2_put_0 ?_
  refine A_getI X fg_X2_put_21 (shBytes ht) (k := 1) rfl (by decide) dX2_put_1 ?_
  refine A_aload_n X 0 rfl rfl dX2_put_4 ?_
  refine A_getR X fg_X2_put_15 (shBytes ht) (k := 0) rfl (by decide) dX2_put_5 ?_
  refine A_alen102 X (shC_len _) (shBytes_row ht) dX2_put_8 ?_
  refine A_icmp_ge X (tgt := 33) (by decide) dX2_put_9 (fun c1 => ?_) (fun c1 => ?_)
  · replace h := ifT h c1
    refine A_sub [] rfl (L' := []) rfl ?_
    exact w_X2_put_33 (this := this) (a1 := a1) X E ht σ h
  · replace h := ifF h c1
    refine A_aload_n X 0 rfl rfl dX2_put_12 ?_
    refine A_getR X fg_X2_put_15 (shBytes ht) (k := 0) rfl (by decide) dX2_put_13 ?_
    refine A_aload_n X 0 rfl rfl dX2_put_16 ?_
    refine A_getI X fg_X2_put_21 (shBytes ht) (k := 1) rfl (by decide) dX2_put_17 ?_
    refine A_iload_n X 1 rfl rfl dX2_put_20 ?_
    refine A_i2b X dX2_put_21 ?_
    obtain ⟨g2, h⟩ := gdD h
    refine A_bast X g2 (shBytes_row ht) dX2_put_22 (fun s3 hy => ?_)
    replace h := ltD h s3 hy
    clear hy
    refine A_aload_n X 0 rfl rfl dX2_put_23 ?_
    refine A_dup X (by show ¬ (2 : Nat) = 1; decide) dX2_put_24 ?_
    refine A_getI X fg_X2_put_21 (shBytes ht) (k := 1) rfl (by decide) dX2_put_25 ?_
    refine A_iconst X dX2_put_28 (z := 1) (by decide) ?_
    refine A_iadd X dX2_put_29 ?_
    refine A_putI X fp_X2_put_21 (shBytes ht) (k := 1) rfl (by decide) dX2_put_30 (fun s4 hy => ?_)
    replace h := ltD h s4 hy
    clear hy
    refine A_sub [] rfl (L' := []) rfl ?_
    exact w_X2_put_33 (this := this) (a1 := a1) X E ht s4 h
abbrev rm_X2_putTwo : Room := { frames := 1, cells := 0, slots := 0, locals := 21 }
set_option maxRecDepth 100000 in
set_option maxHeartbeats 4000000 in
theorem m_X2_putTwo {l : Launch} {g : aG} {this : Nat} {a1 : Int} {σ : Hp} {r : Int × Hp} (h : F_Bytes_putTwo this a1 σ = some r) : aMet l g shC yX2_putTwo wsX2_putTwo rm_X2_putTwo [vR this, vI a1] σ 3 r := by
  unfold F_Bytes_putTwo at h
  obtain ⟨ht, h⟩ := gdD h
  refine aMet_of (bytes := cX2_putTwo) (maxL := 2) (ret := none) (by decide +kernel) rfl (Nat.le_of_ble_eq_true rfl) ⟨rfl, rfl⟩ (fun x e1 e2 X E => ?_)
  subst e1; subst e2
  have X : aX x cX2_putTwo wsX2_putTwo RX2 2 rm_X2_putTwo := X
  show aS x shC 2 0 [(0, vR this), (1, vI a1)] [] σ
  refine A_aload_n X 0 rfl rfl dX2_putTwo_0 ?_
  refine A_iload_n X 1 rfl rfl dX2_putTwo_1 ?_
  refine A_bipush X dX2_putTwo_2 (z := 8) (by decide) ?_
  refine A_ishr X dX2_putTwo_4 ?_
  obtain ⟨v1, s2, e3, h⟩ := clD h
  refine A_callV_V (na := 1) X (m_X2_put e3) gX2_putTwo_X2_put rfl ⟨rfl, rfl⟩ (by decide +kernel) rfl ⟨Nat.le_of_ble_eq_true rfl, Nat.le_of_ble_eq_true rfl⟩ (shBytes ht) (by decide) rfl rfl (Nat.le_of_ble_eq_true rfl) dX2_putTwo_5 ?_
  refine A_aload_n X 0 rfl rfl dX2_putTwo_8 ?_
  refine A_iload_n X 1 rfl rfl dX2_putTwo_9 ?_
  obtain ⟨v4, s5, e6, h⟩ := clD h
  refine A_callV_V (na := 1) X (m_X2_put e6) gX2_putTwo_X2_put rfl ⟨rfl, rfl⟩ (by decide +kernel) rfl ⟨Nat.le_of_ble_eq_true rfl, Nat.le_of_ble_eq_true rfl⟩ (shBytes ht) (by decide) rfl rfl (Nat.le_of_ble_eq_true rfl) dX2_putTwo_10 ?_
  exact A_return X E h dX2_putTwo_13
abbrev rm_X2_putNumber : Room := { frames := 2, cells := 0, slots := 0, locals := 42 }
set_option maxRecDepth 100000 in
set_option maxHeartbeats 4000000 in
theorem m_X2_putNumber {l : Launch} {g : aG} {this : Nat} {a1 : Int} {σ : Hp} {r : Int × Hp} (h : F_Bytes_putNumber this a1 σ = some r) : aMet l g shC yX2_putNumber wsX2_putNumber rm_X2_putNumber [vR this, vI a1] σ 3 r := by
  unfold F_Bytes_putNumber at h
  obtain ⟨ht, h⟩ := gdD h
  refine aMet_of (bytes := cX2_putNumber) (maxL := 2) (ret := none) (by decide +kernel) rfl (Nat.le_of_ble_eq_true rfl) ⟨rfl, rfl⟩ (fun x e1 e2 X E => ?_)
  subst e1; subst e2
  have X : aX x cX2_putNumber wsX2_putNumber RX2 2 rm_X2_putNumber := X
  show aS x shC 2 0 [(0, vR this), (1, vI a1)] [] σ
  refine A_aload_n X 0 rfl rfl dX2_putNumber_0 ?_
  refine A_iload_n X 1 rfl rfl dX2_putNumber_1 ?_
  refine A_bipush X dX2_putNumber_2 (z := 16) (by decide) ?_
  refine A_ishr X dX2_putNumber_4 ?_
  obtain ⟨v1, s2, e3, h⟩ := clD h
  refine A_callV_V (na := 1) X (m_X2_putTwo e3) gX2_putNumber_X2_putTwo rfl ⟨rfl, rfl⟩ (by decide +kernel) rfl ⟨Nat.le_of_ble_eq_true rfl, Nat.le_of_ble_eq_true rfl⟩ (shBytes ht) (by decide) rfl rfl (Nat.le_of_ble_eq_true rfl) dX2_putNumber_5 ?_
  refine A_aload_n X 0 rfl rfl dX2_putNumber_8 ?_
  refine A_iload_n X 1 rfl rfl dX2_putNumber_9 ?_
  obtain ⟨v4, s5, e6, h⟩ := clD h
  refine A_callV_V (na := 1) X (m_X2_putTwo e6) gX2_putNumber_X2_putTwo rfl ⟨rfl, rfl⟩ (by decide +kernel) rfl ⟨Nat.le_of_ble_eq_true rfl, Nat.le_of_ble_eq_true rfl⟩ (shBytes ht) (by decide) rfl rfl (Nat.le_of_ble_eq_true rfl) dX2_putNumber_10 ?_
  exact A_return X E h dX2_putNumber_13
abbrev rm_X2_size : Room := { frames := 0, cells := 0, slots := 0, locals := 0 }
theorem in_X2_size_2 : ∀ w ∈ u_ws RX2 TX2 2, w ∈ wsX2_size := fun w h => List.mem_cons_of_mem _ (List.mem_append_right _ h)
theorem fg_X2_size_21 : aFl wsX2_size RX2 21 2 1 := ⟨RX2, TX2, 2, rfl, in_X2_size_2, by decide, (List.mem_of_getElem? (i := 1) rfl), rfl⟩
set_option maxRecDepth 100000 in
set_option maxHeartbeats 4000000 in
theorem m_X2_size {l : Launch} {g : aG} {this : Nat} {σ : Hp} {r : Int × Hp} (h : F_Bytes_size this σ = some r) : aMet l g shC yX2_size wsX2_size rm_X2_size [vR this] σ 0 r := by
  unfold F_Bytes_size at h
  obtain ⟨ht, h⟩ := gdD h
  refine aMet_of (bytes := cX2_size) (maxL := 1) (ret := (some .int)) (by decide +kernel) rfl (Nat.le_of_ble_eq_true rfl) ⟨rfl, rfl⟩ (fun x e1 e2 X E => ?_)
  subst e1; subst e2
  have X : aX x cX2_size wsX2_size RX2 1 rm_X2_size := X
  show aS x shC 1 0 [(0, vR this)] [] σ
  refine A_aload_n X 0 rfl rfl dX2_size_0 ?_
  refine A_getI X fg_X2_size_21 (shBytes ht) (k := 1) rfl (by decide) dX2_size_1 ?_
  exact A_ireturn X E h dX2_size_4
abbrev rm_X2_at : Room := { frames := 0, cells := 0, slots := 0, locals := 0 }
theorem in_X2_at_2 : ∀ w ∈ u_ws RX2 TX2 2, w ∈ wsX2_at := fun w h => List.mem_cons_of_mem _ (List.mem_append_right _ h)
theorem fg_X2_at_21 : aFl wsX2_at RX2 21 2 1 := ⟨RX2, TX2, 2, rfl, in_X2_at_2, by decide, (List.mem_of_getElem? (i := 1) rfl), rfl⟩
theorem fg_X2_at_15 : aFl wsX2_at RX2 15 2 0 := ⟨RX2, TX2, 2, rfl, in_X2_at_2, by decide, (List.mem_of_getElem? (i := 2) rfl), rfl⟩
set_option maxRecDepth 100000 in
set_option maxHeartbeats 4000000 in
theorem w_X2_at_26 {x : aC} {r : Int × Hp} {this : Nat} {a1 : Int} (X : aX x cX2_at wsX2_at RX2 2 rm_X2_at) (E : aE x shC (some .int) 0 r) (ht : isBytes this) (t1 : Int) (σ : Hp) (h : F_Bytes_at_26 this a1 t1 σ = some r) : aS x shC 2 26 [] [vI t1] σ := by
  unfold F_Bytes_at_26 at h
  exact A_ireturn X E h dX2_at_26
set_option maxRecDepth 100000 in
set_option maxHeartbeats 4000000 in
theorem w_X2_at_25 {x : aC} {r : Int × Hp} {this : Nat} {a1 : Int} (X : aX x cX2_at wsX2_at RX2 2 rm_X2_at) (E : aE x shC (some .int) 0 r) (ht : isBytes this) (σ : Hp) (h : F_Bytes_at_25 this a1 σ = some r) : aS x shC 2 25 [] [] σ := by
  unfold F_Bytes_at_25 at h
  refine A_iconst X dX2_at_25 (z := (-1)) (by decide) ?_
  exact w_X2_at_26 (this := this) (a1 := a1) X E ht (-1) σ h
set_option maxRecDepth 100000 in
set_option maxHeartbeats 4000000 in
theorem m_X2_at {l : Launch} {g : aG} {this : Nat} {a1 : Int} {σ : Hp} {r : Int × Hp} (h : F_Bytes_at this a1 σ = some r) : aMet l g shC yX2_at wsX2_at rm_X2_at [vR this, vI a1] σ 0 r := by
  unfold F_Bytes_at at h
  obtain ⟨ht, h⟩ := gdD h
  refine aMet_of (bytes := cX2_at) (maxL := 2) (ret := (some .int)) (by decide +kernel) rfl (Nat.le_of_ble_eq_true rfl) ⟨rfl, rfl⟩ (fun x e1 e2 X E => ?_)
  subst e1; subst e2
  have X : aX x cX2_at wsX2_at RX2 2 rm_X2_at := X
  show aS x shC 2 0 [(0, vR this), (1, vI a1)] [] σ
  refine A_iload_n X 1 rfl rfl dX2_at_0 ?_
  refine A_if_lt X (tgt := 25) (by decide) dX2_at_1 (fun c1 => ?_) (fun c1 => ?_)
  · replace h := ifT h c1
    refine A_sub [] rfl (L' := []) rfl ?_
    exact w_X2_at_25 (this := this) (a1 := a1) X E ht σ h
  · replace h := ifF h c1
    refine A_iload_n X 1 rfl rfl dX2_at_4 ?_
    refine A_aload_n X 0 rfl rfl dX2_at_5 ?_
    refine A_getI X fg_X2_at_21 (shBytes ht) (k := 1) rfl (by decide) dX2_at_6 ?_
    refine A_icmp_ge X (tgt := 25) (by decide) dX2_at_9 (fun c2 => ?_) (fun c2 => ?_)
    · replace h := ifT h c2
      refine A_sub [] rfl (L' := []) rfl ?_
      exact w_X2_at_25 (this := this) (a1 := a1) X E ht σ h
    · replace h := ifF h c2
      refine A_aload_n X 0 rfl rfl dX2_at_12 ?_
      refine A_getR X fg_X2_at_15 (shBytes ht) (k := 0) rfl (by decide) dX2_at_13 ?_
      refine A_iload_n X 1 rfl rfl dX2_at_16 ?_
      obtain ⟨g3, h⟩ := gdD h
      refine A_bald X g3 (shBytes_row ht) dX2_at_17 ?_
      refine A_sipush X dX2_at_18 (z := 255) (by decide) ?_
      refine A_iand X dX2_at_21 ?_
      refine A_goto X (tgt := 26) (by decide) dX2_at_22 ?_
      refine A_sub [] rfl (L' := []) rfl ?_
      exact w_X2_at_26 (this := this) (a1 := a1) X E ht (iand (σ (this + 1) a1.toNat) 255) σ h
abbrev rm_X2_checkOf : Room := { frames := 1, cells := 0, slots := 0, locals := 21 }
set_option maxRecDepth 100000 in
set_option maxHeartbeats 4000000 in
theorem w_X2_checkOf_4_b {x : aC} {r : Int × Hp} {k4 : Int × Int × Hp → Option (Int × Hp)} {this : Nat} {a1 : Int} (X : aX x cX2_checkOf wsX2_checkOf RX2 4 rm_X2_checkOf) (E : aE x shC (some .int) 0 r) (hk4 : ∀ (x2 : Int) (x3 : Int) (σ : Hp), k4 (x2, x3, σ) = some r → aS x shC 4 4 [(0, vR this), (1, vI a1), (2, vI x2), (3, vI x3)] [] σ) (ht : isBytes this) (x2 : Int) (x3 : Int) (σ : Hp) (h : F_Bytes_checkOf_4_b k4 this a1 x2 x3 σ = some r) : aS x shC 4 4 [(0, vR this), (1, vI a1), (2, vI x2), (3, vI x3)] [] σ := by
  unfold F_Bytes_checkOf_4_b at h
  refine A_iload_n X 3 rfl rfl dX2_checkOf_4 ?_
  refine A_iload_n X 1 rfl rfl dX2_checkOf_5 ?_
  refine A_icmp_ge X (tgt := 29) (by decide) dX2_checkOf_6 (fun c1 => ?_) (fun c1 => ?_)
  · replace h := ifT h c1
    refine A_iload_n X 2 rfl rfl dX2_checkOf_29 ?_
    exact A_ireturn X E h dX2_checkOf_30
  · replace h := ifF h c1
    refine A_bipush X dX2_checkOf_9 (z := 31) (by decide) ?_
    refine A_iload_n X 2 rfl rfl dX2_checkOf_11 ?_
    refine A_imul X dX2_checkOf_12 ?_
    refine A_aload_n X 0 rfl rfl dX2_checkOf_13 ?_
    refine A_iload_n X 3 rfl rfl dX2_checkOf_14 ?_
    obtain ⟨v2, s3, e4, h⟩ := clD h
    refine A_callV_I (na := 1) X (m_X2_at e4) gX2_checkOf_X2_at rfl ⟨rfl, rfl⟩ (by decide +kernel) rfl ⟨Nat.le_of_ble_eq_true rfl, Nat.le_of_ble_eq_true rfl⟩ (shBytes ht) (by decide) rfl rfl (Nat.le_of_ble_eq_true rfl) dX2_checkOf_15 ?_
    refine A_iadd X dX2_checkOf_18 ?_
    refine A_ldc X (v := (65521)) (List.mem_of_getElem? (i := 1) rfl) dX2_checkOf_19 (z := 65521) (by decide) ?_
    refine A_irem X (by decide) dX2_checkOf_21 ?_
    refine A_istore_nN X (L' := fun y2_5 => [(2, vI y2_5), (0, vR this), (1, vI a1), (3, vI x3)]) rfl (by decide) (fun _ => rfl) dX2_checkOf_22 (fun y2_5 hy => ?_)
    replace h := ltD h y2_5 hy
    clear hy
    refine A_iinc X (L' := fun y3_6 => [(3, vI y3_6), (2, vI y2_5), (0, vR this), (1, vI a1)]) 3 rfl (by decide) (fun _ => rfl) dX2_checkOf_23 (by decide) (fun y3_6 hy => ?_)
    replace h := ltD h y3_6 hy
    clear hy
    refine A_goto X (tgt := 4) (by decide) dX2_checkOf_26 ?_
    refine A_sub [2, 3, 1, 0] rfl (L' := [(0, vR this), (1, vI a1), (2, vI y2_5), (3, vI y3_6)]) rfl ?_
    exact hk4 y2_5 y3_6 s3 h
set_option maxRecDepth 100000 in
set_option maxHeartbeats 4000000 in
theorem w_X2_checkOf_4 {x : aC} {r : Int × Hp} {this : Nat} {a1 : Int} (X : aX x cX2_checkOf wsX2_checkOf RX2 4 rm_X2_checkOf) (E : aE x shC (some .int) 0 r) (ht : isBytes this) : ∀ (n : Nat) (x2 : Int) (x3 : Int) (σ : Hp) (h : F_Bytes_checkOf_4 this a1 n (x2, x3, σ) = some r), aS x shC 4 4 [(0, vR this), (1, vI a1), (2, vI x2), (3, vI x3)] [] σ := by
  intro n
  induction n with
  | zero => intro x2 x3 σ h; cases h
  | succ n ih => intro x2 x3 σ h; exact w_X2_checkOf_4_b (this := this) (a1 := a1) (k4 := F_Bytes_checkOf_4 this a1 n) X E ih ht x2 x3 σ h
set_option maxRecDepth 100000 in
set_option maxHeartbeats 4000000 in
theorem m_X2_checkOf {l : Launch} {g : aG} {this : Nat} {a1 : Int} {σ : Hp} {r : Int × Hp} (h : F_Bytes_checkOf this a1 σ = some r) : aMet l g shC yX2_checkOf wsX2_checkOf rm_X2_checkOf [vR this, vI a1] σ 0 r := by
  unfold F_Bytes_checkOf at h
  obtain ⟨ht, h⟩ := gdD h
  refine aMet_of (bytes := cX2_checkOf) (maxL := 4) (ret := (some .int)) (by decide +kernel) rfl (Nat.le_of_ble_eq_true rfl) ⟨rfl, rfl⟩ (fun x e1 e2 X E => ?_)
  subst e1; subst e2
  have X : aX x cX2_checkOf wsX2_checkOf RX2 4 rm_X2_checkOf := X
  show aS x shC 4 0 [(0, vR this), (1, vI a1)] [] σ
  refine A_iconst X dX2_checkOf_0 (z := 1) (by decide) ?_
  refine A_istore_n X (L' := [(2, vI 1), (0, vR this), (1, vI a1)]) rfl (by decide) rfl dX2_checkOf_1 ?_
  refine A_iconst X dX2_checkOf_2 (z := 0) (by decide) ?_
  refine A_istore_n X (L' := [(3, vI 0), (2, vI 1), (0, vR this), (1, vI a1)]) rfl (by decide) rfl dX2_checkOf_3 ?_
  refine A_sub [2, 3, 1, 0] rfl (L' := [(0, vR this), (1, vI a1), (2, vI 1), (3, vI 0)]) rfl ?_
  exact w_X2_checkOf_4 (this := this) (a1 := a1) X E ht FU 1 0 σ h
abbrev rm_X6_letterOf : Room := { frames := 0, cells := 0, slots := 0, locals := 0 }
theorem in_X6_letterOf_6 : ∀ w ∈ u_ws RX6 TX6 20, w ∈ wsX6_letterOf := fun w h => List.mem_cons_of_mem _ (List.mem_append_right _ h)
theorem fg_X6_letterOf_9 : aFl wsX6_letterOf RX6 9 6 0 := ⟨RX6, TX6, 20, rfl, in_X6_letterOf_6, by decide, (List.mem_of_getElem? (i := 1) rfl), rfl⟩
set_option maxRecDepth 100000 in
set_option maxHeartbeats 4000000 in
theorem w_X6_letterOf_62 {x : aC} {r : Int × Hp} {this : Nat} {a1 : Int} {a2 : Int} (X : aX x cX6_letterOf wsX6_letterOf RX6 4 rm_X6_letterOf) (E : aE x shC (some .int) 0 r) (ht : isNet this) (t1 : Int) (σ : Hp) (h : F_Net_letterOf_62 this a1 a2 t1 σ = some r) : aS x shC 4 62 [] [vI t1] σ := by
  unfold F_Net_letterOf_62 at h
  exact A_ireturn X E h dX6_letterOf_62
set_option maxRecDepth 100000 in
set_option maxHeartbeats 4000000 in
theorem w_X6_letterOf_61 {x : aC} {r : Int × Hp} {this : Nat} {a1 : Int} {a2 : Int} (X : aX x cX6_letterOf wsX6_letterOf RX6 4 rm_X6_letterOf) (E : aE x shC (some .int) 0 r) (ht : isNet this) (σ : Hp) (h : F_Net_letterOf_61 this a1 a2 σ = some r) : aS x shC 4 61 [] [] σ := by
  unfold F_Net_letterOf_61 at h
  refine A_iconst X dX6_letterOf_61 (z := (-1)) (by decide) ?_
  exact w_X6_letterOf_62 (this := this) (a1 := a1) (a2 := a2) X E ht (-1) σ h
set_option maxRecDepth 100000 in
set_option maxHeartbeats 4000000 in
theorem w_X6_letterOf_27 {x : aC} {r : Int × Hp} {this : Nat} {a1 : Int} {a2 : Int} (X : aX x cX6_letterOf wsX6_letterOf RX6 4 rm_X6_letterOf) (E : aE x shC (some .int) 0 r) (ht : isNet this) (x3 : Int) (σ : Hp) (h : F_Net_letterOf_27 this a1 a2 x3 σ = some r) : aS x shC 4 27 [(0, vR this), (1, vI a1), (2, vI a2), (3, vI x3)] [] σ := by
  unfold F_Net_letterOf_27 at h
  refine A_iload_n X 2 rfl rfl dX6_letterOf_27 ?_
  refine A_if_lt X (tgt := 61) (by decide) dX6_letterOf_28 (fun c1 => ?_) (fun c1 => ?_)
  · replace h := ifT h c1
    refine A_sub [] rfl (L' := []) rfl ?_
    exact w_X6_letterOf_61 (this := this) (a1 := a1) (a2 := a2) X E ht σ h
  · replace h := ifF h c1
    refine A_iload_n X 2 rfl rfl dX6_letterOf_31 ?_
    refine A_iload_n X 3 rfl rfl dX6_letterOf_32 ?_
    refine A_icmp_ge X (tgt := 61) (by decide) dX6_letterOf_33 (fun c2 => ?_) (fun c2 => ?_)
    · replace h := ifT h c2
      refine A_sub [] rfl (L' := []) rfl ?_
      exact w_X6_letterOf_61 (this := this) (a1 := a1) (a2 := a2) X E ht σ h
    · replace h := ifF h c2
      refine A_aload_n X 0 rfl rfl dX6_letterOf_36 ?_
      refine A_getR X fg_X6_letterOf_9 (shNet ht) (k := 0) rfl (by decide) dX6_letterOf_37 ?_
      refine A_iload_n X 1 rfl rfl dX6_letterOf_40 ?_
      obtain ⟨g3, h⟩ := gdD h
      refine A_iald X g3 (shNet_names ht) dX6_letterOf_41 ?_
      refine A_iconst X dX6_letterOf_42 (z := 5) (by decide) ?_
      refine A_iload_n X 3 rfl rfl dX6_letterOf_43 ?_
      refine A_iconst X dX6_letterOf_44 (z := 1) (by decide) ?_
      refine A_isub X dX6_letterOf_45 ?_
      refine A_iload_n X 2 rfl rfl dX6_letterOf_46 ?_
      refine A_isub X dX6_letterOf_47 ?_
      refine A_imul X dX6_letterOf_48 ?_
      refine A_ishr X dX6_letterOf_49 ?_
      refine A_bipush X dX6_letterOf_50 (z := 31) (by decide) ?_
      refine A_iand X dX6_letterOf_52 ?_
      refine A_bipush X dX6_letterOf_53 (z := 97) (by decide) ?_
      refine A_iadd X dX6_letterOf_55 ?_
      refine A_iconst X dX6_letterOf_56 (z := 1) (by decide) ?_
      refine A_isub X dX6_letterOf_57 ?_
      refine A_goto X (tgt := 62) (by decide) dX6_letterOf_58 ?_
      refine A_sub [] rfl (L' := []) rfl ?_
      exact w_X6_letterOf_62 (this := this) (a1 := a1) (a2 := a2) X E ht (isub (iadd (iand (ishr (σ (this + 1) a1.toNat) (imul 5 (isub (isub x3 1) a2))) 31) 97) 1) σ h
set_option maxRecDepth 100000 in
set_option maxHeartbeats 4000000 in
theorem w_X6_letterOf_2_b {x : aC} {r : Int × Hp} {k2 : Int × Hp → Option (Int × Hp)} {this : Nat} {a1 : Int} {a2 : Int} (X : aX x cX6_letterOf wsX6_letterOf RX6 4 rm_X6_letterOf) (E : aE x shC (some .int) 0 r) (hk2 : ∀ (x3 : Int) (σ : Hp), k2 (x3, σ) = some r → aS x shC 4 2 [(0, vR this), (1, vI a1), (2, vI a2), (3, vI x3)] [] σ) (ht : isNet this) (x3 : Int) (σ : Hp) (h : F_Net_letterOf_2_b k2 this a1 a2 x3 σ = some r) : aS x shC 4 2 [(0, vR this), (1, vI a1), (2, vI a2), (3, vI x3)] [] σ := by
  unfold F_Net_letterOf_2_b at h
  refine A_iload_n X 3 rfl rfl dX6_letterOf_2 ?_
  refine A_bipush X dX6_letterOf_3 (z := 6) (by decide) ?_
  refine A_icmp_ge X (tgt := 27) (by decide) dX6_letterOf_5 (fun c4 => ?_) (fun c4 => ?_)
  · replace h := ifT h c4
    exact w_X6_letterOf_27 (this := this) (a1 := a1) (a2 := a2) X E ht x3 σ h
  · replace h := ifF h c4
    refine A_aload_n X 0 rfl rfl dX6_letterOf_8 ?_
    refine A_getR X fg_X6_letterOf_9 (shNet ht) (k := 0) rfl (by decide) dX6_letterOf_9 ?_
    refine A_iload_n X 1 rfl rfl dX6_letterOf_12 ?_
    obtain ⟨g5, h⟩ := gdD h
    refine A_iald X g5 (shNet_names ht) dX6_letterOf_13 ?_
    refine A_iconst X dX6_letterOf_14 (z := 5) (by decide) ?_
    refine A_iload_n X 3 rfl rfl dX6_letterOf_15 ?_
    refine A_imul X dX6_letterOf_16 ?_
    refine A_ishr X dX6_letterOf_17 ?_
    refine A_if_eq X (tgt := 27) (by decide) dX6_letterOf_18 (fun c6 => ?_) (fun c6 => ?_)
    · replace h := ifT h c6
      exact w_X6_letterOf_27 (this := this) (a1 := a1) (a2 := a2) X E ht x3 σ h
    · replace h := ifF h c6
      refine A_iinc X (L' := fun y3_7 => [(3, vI y3_7), (0, vR this), (1, vI a1), (2, vI a2)]) 3 rfl (by decide) (fun _ => rfl) dX6_letterOf_21 (by decide) (fun y3_7 hy => ?_)
      replace h := ltD h y3_7 hy
      clear hy
      refine A_goto X (tgt := 2) (by decide) dX6_letterOf_24 ?_
      refine A_sub [1, 2, 3, 0] rfl (L' := [(0, vR this), (1, vI a1), (2, vI a2), (3, vI y3_7)]) rfl ?_
      exact hk2 y3_7 σ h
set_option maxRecDepth 100000 in
set_option maxHeartbeats 4000000 in
theorem w_X6_letterOf_2 {x : aC} {r : Int × Hp} {this : Nat} {a1 : Int} {a2 : Int} (X : aX x cX6_letterOf wsX6_letterOf RX6 4 rm_X6_letterOf) (E : aE x shC (some .int) 0 r) (ht : isNet this) : ∀ (n : Nat) (x3 : Int) (σ : Hp) (h : F_Net_letterOf_2 this a1 a2 n (x3, σ) = some r), aS x shC 4 2 [(0, vR this), (1, vI a1), (2, vI a2), (3, vI x3)] [] σ := by
  intro n
  induction n with
  | zero => intro x3 σ h; cases h
  | succ n ih => intro x3 σ h; exact w_X6_letterOf_2_b (this := this) (a1 := a1) (a2 := a2) (k2 := F_Net_letterOf_2 this a1 a2 n) X E ih ht x3 σ h
set_option maxRecDepth 100000 in
set_option maxHeartbeats 4000000 in
theorem m_X6_letterOf {l : Launch} {g : aG} {this : Nat} {a1 : Int} {a2 : Int} {σ : Hp} {r : Int × Hp} (h : F_Net_letterOf this a1 a2 σ = some r) : aMet l g shC yX6_letterOf wsX6_letterOf rm_X6_letterOf [vR this, vI a1, vI a2] σ 0 r := by
  unfold F_Net_letterOf at h
  obtain ⟨ht, h⟩ := gdD h
  refine aMet_of (bytes := cX6_letterOf) (maxL := 4) (ret := (some .int)) (by decide +kernel) rfl (Nat.le_of_ble_eq_true rfl) ⟨rfl, rfl⟩ (fun x e1 e2 X E => ?_)
  subst e1; subst e2
  have X : aX x cX6_letterOf wsX6_letterOf RX6 4 rm_X6_letterOf := X
  show aS x shC 4 0 [(0, vR this), (1, vI a1), (2, vI a2)] [] σ
  refine A_iconst X dX6_letterOf_0 (z := 0) (by decide) ?_
  refine A_istore_n X (L' := [(3, vI 0), (0, vR this), (1, vI a1), (2, vI a2)]) rfl (by decide) rfl dX6_letterOf_1 ?_
  refine A_sub [1, 2, 3, 0] rfl (L' := [(0, vR this), (1, vI a1), (2, vI a2), (3, vI 0)]) rfl ?_
  exact w_X6_letterOf_2 (this := this) (a1 := a1) (a2 := a2) X E ht FU 0 σ h
abbrev rm_X2_twoAt : Room := { frames := 1, cells := 0, slots := 0, locals := 21 }
set_option maxRecDepth 100000 in
set_option maxHeartbeats 4000000 in
theorem m_X2_twoAt {l : Launch} {g : aG} {this : Nat} {a1 : Int} {σ : Hp} {r : Int × Hp} (h : F_Bytes_twoAt this a1 σ = some r) : aMet l g shC yX2_twoAt wsX2_twoAt rm_X2_twoAt [vR this, vI a1] σ 0 r := by
  unfold F_Bytes_twoAt at h
  obtain ⟨ht, h⟩ := gdD h
  refine aMet_of (bytes := cX2_twoAt) (maxL := 2) (ret := (some .int)) (by decide +kernel) rfl (Nat.le_of_ble_eq_true rfl) ⟨rfl, rfl⟩ (fun x e1 e2 X E => ?_)
  subst e1; subst e2
  have X : aX x cX2_twoAt wsX2_twoAt RX2 2 rm_X2_twoAt := X
  show aS x shC 2 0 [(0, vR this), (1, vI a1)] [] σ
  refine A_aload_n X 0 rfl rfl dX2_twoAt_0 ?_
  refine A_iload_n X 1 rfl rfl dX2_twoAt_1 ?_
  obtain ⟨v1, s2, e3, h⟩ := clD h
  refine A_callV_I (na := 1) X (m_X2_at e3) gX2_twoAt_X2_at rfl ⟨rfl, rfl⟩ (by decide +kernel) rfl ⟨Nat.le_of_ble_eq_true rfl, Nat.le_of_ble_eq_true rfl⟩ (shBytes ht) (by decide) rfl rfl (Nat.le_of_ble_eq_true rfl) dX2_twoAt_2 ?_
  refine A_bipush X dX2_twoAt_5 (z := 8) (by decide) ?_
  refine A_ishl X dX2_twoAt_7 ?_
  refine A_aload_n X 0 rfl rfl dX2_twoAt_8 ?_
  refine A_iload_n X 1 rfl rfl dX2_twoAt_9 ?_
  refine A_iconst X dX2_twoAt_10 (z := 1) (by decide) ?_
  refine A_iadd X dX2_twoAt_11 ?_
  obtain ⟨v4, s5, e6, h⟩ := clD h
  refine A_callV_I (na := 1) X (m_X2_at e6) gX2_twoAt_X2_at rfl ⟨rfl, rfl⟩ (by decide +kernel) rfl ⟨Nat.le_of_ble_eq_true rfl, Nat.le_of_ble_eq_true rfl⟩ (shBytes ht) (by decide) rfl rfl (Nat.le_of_ble_eq_true rfl) dX2_twoAt_12 ?_
  refine A_iadd X dX2_twoAt_15 ?_
  exact A_ireturn X E h dX2_twoAt_16
abbrev rm_X2_numberAt : Room := { frames := 2, cells := 0, slots := 0, locals := 42 }
set_option maxRecDepth 100000 in
set_option maxHeartbeats 4000000 in
theorem m_X2_numberAt {l : Launch} {g : aG} {this : Nat} {a1 : Int} {σ : Hp} {r : Int × Hp} (h : F_Bytes_numberAt this a1 σ = some r) : aMet l g shC yX2_numberAt wsX2_numberAt rm_X2_numberAt [vR this, vI a1] σ 0 r := by
  unfold F_Bytes_numberAt at h
  obtain ⟨ht, h⟩ := gdD h
  refine aMet_of (bytes := cX2_numberAt) (maxL := 2) (ret := (some .int)) (by decide +kernel) rfl (Nat.le_of_ble_eq_true rfl) ⟨rfl, rfl⟩ (fun x e1 e2 X E => ?_)
  subst e1; subst e2
  have X : aX x cX2_numberAt wsX2_numberAt RX2 2 rm_X2_numberAt := X
  show aS x shC 2 0 [(0, vR this), (1, vI a1)] [] σ
  refine A_aload_n X 0 rfl rfl dX2_numberAt_0 ?_
  refine A_iload_n X 1 rfl rfl dX2_numberAt_1 ?_
  obtain ⟨v1, s2, e3, h⟩ := clD h
  refine A_callV_I (na := 1) X (m_X2_twoAt e3) gX2_numberAt_X2_twoAt rfl ⟨rfl, rfl⟩ (by decide +kernel) rfl ⟨Nat.le_of_ble_eq_true rfl, Nat.le_of_ble_eq_true rfl⟩ (shBytes ht) (by decide) rfl rfl (Nat.le_of_ble_eq_true rfl) dX2_numberAt_2 ?_
  refine A_bipush X dX2_numberAt_5 (z := 16) (by decide) ?_
  refine A_ishl X dX2_numberAt_7 ?_
  refine A_aload_n X 0 rfl rfl dX2_numberAt_8 ?_
  refine A_iload_n X 1 rfl rfl dX2_numberAt_9 ?_
  refine A_iconst X dX2_numberAt_10 (z := 2) (by decide) ?_
  refine A_iadd X dX2_numberAt_11 ?_
  obtain ⟨v4, s5, e6, h⟩ := clD h
  refine A_callV_I (na := 1) X (m_X2_twoAt e6) gX2_numberAt_X2_twoAt rfl ⟨rfl, rfl⟩ (by decide +kernel) rfl ⟨Nat.le_of_ble_eq_true rfl, Nat.le_of_ble_eq_true rfl⟩ (shBytes ht) (by decide) rfl rfl (Nat.le_of_ble_eq_true rfl) dX2_numberAt_12 ?_
  refine A_iadd X dX2_numberAt_15 ?_
  exact A_ireturn X E h dX2_numberAt_16
abbrev rm_X6_clear : Room := { frames := 1, cells := 0, slots := 0, locals := 23 }
theorem in_X6_clear_6 : ∀ w ∈ u_ws RX6 TX6 20, w ∈ wsX6_clear := fun w h => List.mem_cons_of_mem _ (List.mem_append_right _ h)
theorem fg_X6_clear_44 : aFl wsX6_clear RX6 44 6 10 := ⟨RX6, TX6, 20, rfl, in_X6_clear_6, by decide, (List.mem_of_getElem? (i := 10) rfl), rfl⟩
theorem fg_X6_clear_38 : aFl wsX6_clear RX6 38 6 8 := ⟨RX6, TX6, 20, rfl, in_X6_clear_6, by decide, (List.mem_of_getElem? (i := 8) rfl), rfl⟩
theorem fg_X6_clear_41 : aFl wsX6_clear RX6 41 6 9 := ⟨RX6, TX6, 20, rfl, in_X6_clear_6, by decide, (List.mem_of_getElem? (i := 9) rfl), rfl⟩
theorem fp_X6_clear_60 : aFp wsX6_clear RX6 60 6 15 .int := ⟨RX6, TX6, 20, tyX6, rfl, in_X6_clear_6, by decide, (List.mem_of_getElem? (i := 1) rfl), rfl, tyX6_ok, nmX6, rfl, rfl⟩
theorem fp_X6_clear_64 : aFp wsX6_clear RX6 64 6 16 .int := ⟨RX6, TX6, 20, tyX6, rfl, in_X6_clear_6, by decide, (List.mem_of_getElem? (i := 2) rfl), rfl, tyX6_ok, nmX6, rfl, rfl⟩
theorem fp_X6_clear_67 : aFp wsX6_clear RX6 67 6 17 .int := ⟨RX6, TX6, 20, tyX6, rfl, in_X6_clear_6, by decide, (List.mem_of_getElem? (i := 3) rfl), rfl, tyX6_ok, nmX6, rfl, rfl⟩
theorem fp_X6_clear_70 : aFp wsX6_clear RX6 70 6 18 .int := ⟨RX6, TX6, 20, tyX6, rfl, in_X6_clear_6, by decide, (List.mem_of_getElem? (i := 4) rfl), rfl, tyX6_ok, nmX6, rfl, rfl⟩
theorem fp_X6_clear_73 : aFp wsX6_clear RX6 73 6 19 .int := ⟨RX6, TX6, 20, tyX6, rfl, in_X6_clear_6, by decide, (List.mem_of_getElem? (i := 5) rfl), rfl, tyX6_ok, nmX6, rfl, rfl⟩
theorem fp_X6_clear_76 : aFp wsX6_clear RX6 76 6 14 .int := ⟨RX6, TX6, 20, tyX6, rfl, in_X6_clear_6, by decide, (List.mem_of_getElem? (i := 6) rfl), rfl, tyX6_ok, nmX6, rfl, rfl⟩
theorem fg_X6_clear_24 : aFl wsX6_clear RX6 24 6 4 := ⟨RX6, TX6, 20, rfl, in_X6_clear_6, by decide, (List.mem_of_getElem? (i := 7) rfl), rfl⟩
set_option maxRecDepth 100000 in
set_option maxHeartbeats 4000000 in
theorem w_X6_clear_74_b {x : aC} {r : Int × Hp} {k74 : Int × Hp → Option (Int × Hp)} {this : Nat} (X : aX x cX6_clear wsX6_clear RX6 2 rm_X6_clear) (E : aE x shC none 3 r) (hk74 : ∀ (x1 : Int) (σ : Hp), k74 (x1, σ) = some r → aS x shC 2 74 [(0, vR this), (1, vI x1)] [] σ) (ht : isNet this) (x1 : Int) (σ : Hp) (h : F_Net_clear_74_b k74 this x1 σ = some r) : aS x shC 2 74 [(0, vR this), (1, vI x1)] [] σ := by
  unfold F_Net_clear_74_b at h
  refine A_iload_n X 1 rfl rfl dX6_clear_74 ?_
  refine A_aload_n X 0 rfl rfl dX6_clear_75 ?_
  refine A_getR X fg_X6_clear_44 (shNet ht) (k := 10) rfl (by decide) dX6_clear_76 ?_
  refine A_alen103 X (by decide) (shNet_tasteTold ht) dX6_clear_79 ?_
  refine A_icmp_ge X (tgt := 96) (by decide) dX6_clear_80 (fun c1 => ?_) (fun c1 => ?_)
  · replace h := ifT h c1
    exact A_return X E h dX6_clear_96
  · replace h := ifF h c1
    refine A_aload_n X 0 rfl rfl dX6_clear_83 ?_
    refine A_getR X fg_X6_clear_44 (shNet ht) (k := 10) rfl (by decide) dX6_clear_84 ?_
    refine A_iload_n X 1 rfl rfl dX6_clear_87 ?_
    refine A_iconst X dX6_clear_88 (z := 0) (by decide) ?_
    obtain ⟨g2, h⟩ := gdD h
    refine A_zast X g2 (shNet_tasteTold ht) dX6_clear_89 (fun s3 hy => ?_)
    replace h := ltD h s3 hy
    clear hy
    refine A_iinc X (L' := fun y1_4 => [(1, vI y1_4), (0, vR this)]) 1 rfl (by decide) (fun _ => rfl) dX6_clear_90 (by decide) (fun y1_4 hy => ?_)
    replace h := ltD h y1_4 hy
    clear hy
    refine A_goto X (tgt := 74) (by decide) dX6_clear_93 ?_
    refine A_sub [1, 0] rfl (L' := [(0, vR this), (1, vI y1_4)]) rfl ?_
    exact hk74 y1_4 s3 h
set_option maxRecDepth 100000 in
set_option maxHeartbeats 4000000 in
theorem w_X6_clear_74 {x : aC} {r : Int × Hp} {this : Nat} (X : aX x cX6_clear wsX6_clear RX6 2 rm_X6_clear) (E : aE x shC none 3 r) (ht : isNet this) : ∀ (n : Nat) (x1 : Int) (σ : Hp) (h : F_Net_clear_74 this n (x1, σ) = some r), aS x shC 2 74 [(0, vR this), (1, vI x1)] [] σ := by
  intro n
  induction n with
  | zero => intro x1 σ h; cases h
  | succ n ih => intro x1 σ h; exact w_X6_clear_74_b (this := this) (k74 := F_Net_clear_74 this n) X E ih ht x1 σ h
set_option maxRecDepth 100000 in
set_option maxHeartbeats 4000000 in
theorem w_X6_clear_40_b {x : aC} {r : Int × Hp} {k40 : Int × Hp → Option (Int × Hp)} {this : Nat} (X : aX x cX6_clear wsX6_clear RX6 2 rm_X6_clear) (E : aE x shC none 3 r) (hk40 : ∀ (x1 : Int) (σ : Hp), k40 (x1, σ) = some r → aS x shC 2 40 [(0, vR this), (1, vI x1)] [] σ) (ht : isNet this) (x1 : Int) (σ : Hp) (h : F_Net_clear_40_b k40 this x1 σ = some r) : aS x shC 2 40 [(0, vR this), (1, vI x1)] [] σ := by
  unfold F_Net_clear_40_b at h
  refine A_iload_n X 1 rfl rfl dX6_clear_40 ?_
  refine A_bipush X dX6_clear_41 (z := 12) (by decide) ?_
  refine A_icmp_ge X (tgt := 72) (by decide) dX6_clear_43 (fun c5 => ?_) (fun c5 => ?_)
  · replace h := ifT h c5
    refine A_iconst X dX6_clear_72 (z := 0) (by decide) ?_
    refine A_istore_n X (L' := [(1, vI 0), (0, vR this)]) rfl (by decide) rfl dX6_clear_73 ?_
    refine A_sub [1, 0] rfl (L' := [(0, vR this), (1, vI 0)]) rfl ?_
    exact w_X6_clear_74 (this := this) X E ht FU 0 σ h
  · replace h := ifF h c5
    refine A_aload_n X 0 rfl rfl dX6_clear_46 ?_
    refine A_getR X fg_X6_clear_38 (shNet ht) (k := 8) rfl (by decide) dX6_clear_47 ?_
    refine A_iload_n X 1 rfl rfl dX6_clear_50 ?_
    obtain ⟨g6, h⟩ := gdD h
    refine A_aald X g6 (shNet_roadOf ht) dX6_clear_51 ?_
    refine A_iconst X dX6_clear_52 (z := (-1)) (by decide) ?_
    obtain ⟨v7, s8, e9, h⟩ := clD h
    refine A_callS_V (na := 2) X (m_J7_fill_53178 e9) gX6_clear_J7_fill_53178 rfl ⟨rfl, rfl⟩ (by decide +kernel) rfl ⟨Nat.le_of_ble_eq_true rfl, Nat.le_of_ble_eq_true rfl⟩ rfl (Nat.le_of_ble_eq_true rfl) dX6_clear_53 ?_
    refine A_aload_n X 0 rfl rfl dX6_clear_56 ?_
    refine A_getR X fg_X6_clear_41 (shNet ht) (k := 9) rfl (by decide) dX6_clear_57 ?_
    refine A_iload_n X 1 rfl rfl dX6_clear_60 ?_
    obtain ⟨g10, h⟩ := gdD h
    refine A_aald X g10 (shNet_taste ht) dX6_clear_61 ?_
    refine A_iconst X dX6_clear_62 (z := 0) (by decide) ?_
    obtain ⟨v11, s12, e13, h⟩ := clD h
    refine A_callS_V (na := 2) X (m_J7_fill_53178 e13) gX6_clear_J7_fill_53178 rfl ⟨rfl, rfl⟩ (by decide +kernel) rfl ⟨Nat.le_of_ble_eq_true rfl, Nat.le_of_ble_eq_true rfl⟩ rfl (Nat.le_of_ble_eq_true rfl) dX6_clear_63 ?_
    refine A_iinc X (L' := fun y1_14 => [(1, vI y1_14), (0, vR this)]) 1 rfl (by decide) (fun _ => rfl) dX6_clear_66 (by decide) (fun y1_14 hy => ?_)
    replace h := ltD h y1_14 hy
    clear hy
    refine A_goto X (tgt := 40) (by decide) dX6_clear_69 ?_
    refine A_sub [1, 0] rfl (L' := [(0, vR this), (1, vI y1_14)]) rfl ?_
    exact hk40 y1_14 s12 h
set_option maxRecDepth 100000 in
set_option maxHeartbeats 4000000 in
theorem w_X6_clear_40 {x : aC} {r : Int × Hp} {this : Nat} (X : aX x cX6_clear wsX6_clear RX6 2 rm_X6_clear) (E : aE x shC none 3 r) (ht : isNet this) : ∀ (n : Nat) (x1 : Int) (σ : Hp) (h : F_Net_clear_40 this n (x1, σ) = some r), aS x shC 2 40 [(0, vR this), (1, vI x1)] [] σ := by
  intro n
  induction n with
  | zero => intro x1 σ h; cases h
  | succ n ih => intro x1 σ h; exact w_X6_clear_40_b (this := this) (k40 := F_Net_clear_40 this n) X E ih ht x1 σ h
set_option maxRecDepth 100000 in
set_option maxHeartbeats 4000000 in
theorem m_X6_clear {l : Launch} {g : aG} {this : Nat} {σ : Hp} {r : Int × Hp} (h : F_Net_clear this σ = some r) : aMet l g shC yX6_clear wsX6_clear rm_X6_clear [vR this] σ 3 r := by
  unfold F_Net_clear at h
  obtain ⟨ht, h⟩ := gdD h
  refine aMet_of (bytes := cX6_clear) (maxL := 2) (ret := none) (by decide +kernel) rfl (Nat.le_of_ble_eq_true rfl) ⟨rfl, rfl⟩ (fun x e1 e2 X E => ?_)
  subst e1; subst e2
  have X : aX x cX6_clear wsX6_clear RX6 2 rm_X6_clear := X
  show aS x shC 2 0 [(0, vR this)] [] σ
  refine A_aload_n X 0 rfl rfl dX6_clear_0 ?_
  refine A_iconst X dX6_clear_1 (z := 0) (by decide) ?_
  refine A_putI X fp_X6_clear_60 (shNet ht) (k := 15) rfl (by decide) dX6_clear_2 (fun s15 hy => ?_)
  replace h := ltD h s15 hy
  clear hy
  refine A_aload_n X 0 rfl rfl dX6_clear_5 ?_
  refine A_iconst X dX6_clear_6 (z := 0) (by decide) ?_
  refine A_putI X fp_X6_clear_64 (shNet ht) (k := 16) rfl (by decide) dX6_clear_7 (fun s16 hy => ?_)
  replace h := ltD h s16 hy
  clear hy
  refine A_aload_n X 0 rfl rfl dX6_clear_10 ?_
  refine A_iconst X dX6_clear_11 (z := 0) (by decide) ?_
  refine A_putI X fp_X6_clear_67 (shNet ht) (k := 17) rfl (by decide) dX6_clear_12 (fun s17 hy => ?_)
  replace h := ltD h s17 hy
  clear hy
  refine A_aload_n X 0 rfl rfl dX6_clear_15 ?_
  refine A_iconst X dX6_clear_16 (z := 0) (by decide) ?_
  refine A_putI X fp_X6_clear_70 (shNet ht) (k := 18) rfl (by decide) dX6_clear_17 (fun s18 hy => ?_)
  replace h := ltD h s18 hy
  clear hy
  refine A_aload_n X 0 rfl rfl dX6_clear_20 ?_
  refine A_iconst X dX6_clear_21 (z := 0) (by decide) ?_
  refine A_putI X fp_X6_clear_73 (shNet ht) (k := 19) rfl (by decide) dX6_clear_22 (fun s19 hy => ?_)
  replace h := ltD h s19 hy
  clear hy
  refine A_aload_n X 0 rfl rfl dX6_clear_25 ?_
  refine A_iconst X dX6_clear_26 (z := 0) (by decide) ?_
  refine A_putI X fp_X6_clear_76 (shNet ht) (k := 14) rfl (by decide) dX6_clear_27 (fun s20 hy => ?_)
  replace h := ltD h s20 hy
  clear hy
  refine A_aload_n X 0 rfl rfl dX6_clear_30 ?_
  refine A_getR X fg_X6_clear_24 (shNet ht) (k := 4) rfl (by decide) dX6_clear_31 ?_
  refine A_iconst X dX6_clear_34 (z := 0) (by decide) ?_
  obtain ⟨v21, s22, e23, h⟩ := clD h
  refine A_callS_V (na := 2) X (m_J7_fill_53178 e23) gX6_clear_J7_fill_53178 rfl ⟨rfl, rfl⟩ (by decide +kernel) rfl ⟨Nat.le_of_ble_eq_true rfl, Nat.le_of_ble_eq_true rfl⟩ rfl (Nat.le_of_ble_eq_true rfl) dX6_clear_35 ?_
  refine A_iconst X dX6_clear_38 (z := 0) (by decide) ?_
  refine A_istore_n X (L' := [(1, vI 0), (0, vR this)]) rfl (by decide) rfl dX6_clear_39 ?_
  refine A_sub [1, 0] rfl (L' := [(0, vR this), (1, vI 0)]) rfl ?_
  exact w_X6_clear_40 (this := this) X E ht FU 0 s22 h
abbrev rm_X9_isLong : Room := { frames := 0, cells := 0, slots := 0, locals := 0 }
set_option maxRecDepth 100000 in
set_option maxHeartbeats 4000000 in
theorem w_X9_isLong_12 {x : aC} {r : Int × Hp} {a0 : Int} (X : aX x cX9_isLong wsX9_isLong RX9 1 rm_X9_isLong) (E : aE x shC (some .boolean) 0 r) (t1 : Int) (σ : Hp) (h : F_Scn_isLong_12 a0 t1 σ = some r) : aS x shC 1 12 [] [vI t1] σ := by
  unfold F_Scn_isLong_12 at h
  obtain ⟨g1, h⟩ := gdD h
  exact A_zreturn X g1 E h dX9_isLong_12
set_option maxRecDepth 100000 in
set_option maxHeartbeats 4000000 in
theorem m_X9_isLong {l : Launch} {g : aG} {a0 : Int} {σ : Hp} {r : Int × Hp} (h : F_Scn_isLong a0 σ = some r) : aMet l g shC yX9_isLong wsX9_isLong rm_X9_isLong [vI a0] σ 0 r := by
  unfold F_Scn_isLong at h
  refine aMet_of (bytes := cX9_isLong) (maxL := 1) (ret := (some .boolean)) (by decide +kernel) rfl (Nat.le_of_ble_eq_true rfl) ⟨rfl, rfl⟩ (fun x e1 e2 X E => ?_)
  subst e1; subst e2
  have X : aX x cX9_isLong wsX9_isLong RX9 1 rm_X9_isLong := X
  show aS x shC 1 0 [(0, vI a0)] [] σ
  refine A_iload_n X 0 rfl rfl dX9_isLong_0 ?_
  refine A_sipush X dX9_isLong_1 (z := 256) (by decide) ?_
  refine A_icmp_lt X (tgt := 11) (by decide) dX9_isLong_4 (fun c2 => ?_) (fun c2 => ?_)
  · replace h := ifT h c2
    refine A_iconst X dX9_isLong_11 (z := 0) (by decide) ?_
    refine A_sub [] rfl (L' := []) rfl ?_
    exact w_X9_isLong_12 (a0 := a0) X E 0 σ h
  · replace h := ifF h c2
    refine A_iconst X dX9_isLong_7 (z := 1) (by decide) ?_
    refine A_goto X (tgt := 12) (by decide) dX9_isLong_8 ?_
    refine A_sub [] rfl (L' := []) rfl ?_
    exact w_X9_isLong_12 (a0 := a0) X E 1 σ h
abbrev rm_X9_isBlank : Room := { frames := 0, cells := 0, slots := 0, locals := 0 }
set_option maxRecDepth 100000 in
set_option maxHeartbeats 4000000 in
theorem w_X9_isBlank_17 {x : aC} {r : Int × Hp} {a0 : Int} (X : aX x cX9_isBlank wsX9_isBlank RX9 1 rm_X9_isBlank) (E : aE x shC (some .boolean) 0 r) (t1 : Int) (σ : Hp) (h : F_Scn_isBlank_17 a0 t1 σ = some r) : aS x shC 1 17 [] [vI t1] σ := by
  unfold F_Scn_isBlank_17 at h
  obtain ⟨g1, h⟩ := gdD h
  exact A_zreturn X g1 E h dX9_isBlank_17
set_option maxRecDepth 100000 in
set_option maxHeartbeats 4000000 in
theorem w_X9_isBlank_12 {x : aC} {r : Int × Hp} {a0 : Int} (X : aX x cX9_isBlank wsX9_isBlank RX9 1 rm_X9_isBlank) (E : aE x shC (some .boolean) 0 r) (σ : Hp) (h : F_Scn_isBlank_12 a0 σ = some r) : aS x shC 1 12 [] [] σ := by
  unfold F_Scn_isBlank_12 at h
  refine A_iconst X dX9_isBlank_12 (z := 1) (by decide) ?_
  refine A_goto X (tgt := 17) (by decide) dX9_isBlank_13 ?_
  exact w_X9_isBlank_17 (a0 := a0) X E 1 σ h
set_option maxRecDepth 100000 in
set_option maxHeartbeats 4000000 in
theorem m_X9_isBlank {l : Launch} {g : aG} {a0 : Int} {σ : Hp} {r : Int × Hp} (h : F_Scn_isBlank a0 σ = some r) : aMet l g shC yX9_isBlank wsX9_isBlank rm_X9_isBlank [vI a0] σ 0 r := by
  unfold F_Scn_isBlank at h
  refine aMet_of (bytes := cX9_isBlank) (maxL := 1) (ret := (some .boolean)) (by decide +kernel) rfl (Nat.le_of_ble_eq_true rfl) ⟨rfl, rfl⟩ (fun x e1 e2 X E => ?_)
  subst e1; subst e2
  have X : aX x cX9_isBlank wsX9_isBlank RX9 1 rm_X9_isBlank := X
  show aS x shC 1 0 [(0, vI a0)] [] σ
  refine A_iload_n X 0 rfl rfl dX9_isBlank_0 ?_
  refine A_bipush X dX9_isBlank_1 (z := 10) (by decide) ?_
  refine A_icmp_eq X (tgt := 12) (by decide) dX9_isBlank_3 (fun c2 => ?_) (fun c2 => ?_)
  · replace h := ifT h c2
    refine A_sub [] rfl (L' := []) rfl ?_
    exact w_X9_isBlank_12 (a0 := a0) X E σ h
  · replace h := ifF h c2
    refine A_iload_n X 0 rfl rfl dX9_isBlank_6 ?_
    refine A_bipush X dX9_isBlank_7 (z := 32) (by decide) ?_
    refine A_icmp_ne X (tgt := 16) (by decide) dX9_isBlank_9 (fun c3 => ?_) (fun c3 => ?_)
    · replace h := ifF h c3
      refine A_iconst X dX9_isBlank_16 (z := 0) (by decide) ?_
      refine A_sub [] rfl (L' := []) rfl ?_
      exact w_X9_isBlank_17 (a0 := a0) X E 0 σ h
    · replace h := ifT h c3
      refine A_sub [] rfl (L' := []) rfl ?_
      exact w_X9_isBlank_12 (a0 := a0) X E σ h
abbrev rm_X9_isLetter : Room := { frames := 0, cells := 0, slots := 0, locals := 0 }
set_option maxRecDepth 100000 in
set_option maxHeartbeats 4000000 in
theorem w_X9_isLetter_17 {x : aC} {r : Int × Hp} {a0 : Int} (X : aX x cX9_isLetter wsX9_isLetter RX9 1 rm_X9_isLetter) (E : aE x shC (some .boolean) 0 r) (t1 : Int) (σ : Hp) (h : F_Scn_isLetter_17 a0 t1 σ = some r) : aS x shC 1 17 [] [vI t1] σ := by
  unfold F_Scn_isLetter_17 at h
  obtain ⟨g1, h⟩ := gdD h
  exact A_zreturn X g1 E h dX9_isLetter_17
set_option maxRecDepth 100000 in
set_option maxHeartbeats 4000000 in
theorem w_X9_isLetter_16 {x : aC} {r : Int × Hp} {a0 : Int} (X : aX x cX9_isLetter wsX9_isLetter RX9 1 rm_X9_isLetter) (E : aE x shC (some .boolean) 0 r) (σ : Hp) (h : F_Scn_isLetter_16 a0 σ = some r) : aS x shC 1 16 [] [] σ := by
  unfold F_Scn_isLetter_16 at h
  refine A_iconst X dX9_isLetter_16 (z := 0) (by decide) ?_
  exact w_X9_isLetter_17 (a0 := a0) X E 0 σ h
set_option maxRecDepth 100000 in
set_option maxHeartbeats 4000000 in
theorem m_X9_isLetter {l : Launch} {g : aG} {a0 : Int} {σ : Hp} {r : Int × Hp} (h : F_Scn_isLetter a0 σ = some r) : aMet l g shC yX9_isLetter wsX9_isLetter rm_X9_isLetter [vI a0] σ 0 r := by
  unfold F_Scn_isLetter at h
  refine aMet_of (bytes := cX9_isLetter) (maxL := 1) (ret := (some .boolean)) (by decide +kernel) rfl (Nat.le_of_ble_eq_true rfl) ⟨rfl, rfl⟩ (fun x e1 e2 X E => ?_)
  subst e1; subst e2
  have X : aX x cX9_isLetter wsX9_isLetter RX9 1 rm_X9_isLetter := X
  show aS x shC 1 0 [(0, vI a0)] [] σ
  refine A_iload_n X 0 rfl rfl dX9_isLetter_0 ?_
  refine A_bipush X dX9_isLetter_1 (z := 97) (by decide) ?_
  refine A_icmp_lt X (tgt := 16) (by decide) dX9_isLetter_3 (fun c2 => ?_) (fun c2 => ?_)
  · replace h := ifT h c2
    refine A_sub [] rfl (L' := []) rfl ?_
    exact w_X9_isLetter_16 (a0 := a0) X E σ h
  · replace h := ifF h c2
    refine A_iload_n X 0 rfl rfl dX9_isLetter_6 ?_
    refine A_bipush X dX9_isLetter_7 (z := 122) (by decide) ?_
    refine A_icmp_gt X (tgt := 16) (by decide) dX9_isLetter_9 (fun c3 => ?_) (fun c3 => ?_)
    · replace h := ifT h c3
      refine A_sub [] rfl (L' := []) rfl ?_
      exact w_X9_isLetter_16 (a0 := a0) X E σ h
    · replace h := ifF h c3
      refine A_iconst X dX9_isLetter_12 (z := 1) (by decide) ?_
      refine A_goto X (tgt := 17) (by decide) dX9_isLetter_13 ?_
      refine A_sub [] rfl (L' := []) rfl ?_
      exact w_X9_isLetter_17 (a0 := a0) X E 1 σ h
abbrev rm_X9_isDigit : Room := { frames := 0, cells := 0, slots := 0, locals := 0 }
set_option maxRecDepth 100000 in
set_option maxHeartbeats 4000000 in
theorem w_X9_isDigit_17 {x : aC} {r : Int × Hp} {a0 : Int} (X : aX x cX9_isDigit wsX9_isDigit RX9 1 rm_X9_isDigit) (E : aE x shC (some .boolean) 0 r) (t1 : Int) (σ : Hp) (h : F_Scn_isDigit_17 a0 t1 σ = some r) : aS x shC 1 17 [] [vI t1] σ := by
  unfold F_Scn_isDigit_17 at h
  obtain ⟨g1, h⟩ := gdD h
  exact A_zreturn X g1 E h dX9_isDigit_17
set_option maxRecDepth 100000 in
set_option maxHeartbeats 4000000 in
theorem w_X9_isDigit_16 {x : aC} {r : Int × Hp} {a0 : Int} (X : aX x cX9_isDigit wsX9_isDigit RX9 1 rm_X9_isDigit) (E : aE x shC (some .boolean) 0 r) (σ : Hp) (h : F_Scn_isDigit_16 a0 σ = some r) : aS x shC 1 16 [] [] σ := by
  unfold F_Scn_isDigit_16 at h
  refine A_iconst X dX9_isDigit_16 (z := 0) (by decide) ?_
  exact w_X9_isDigit_17 (a0 := a0) X E 0 σ h
set_option maxRecDepth 100000 in
set_option maxHeartbeats 4000000 in
theorem m_X9_isDigit {l : Launch} {g : aG} {a0 : Int} {σ : Hp} {r : Int × Hp} (h : F_Scn_isDigit a0 σ = some r) : aMet l g shC yX9_isDigit wsX9_isDigit rm_X9_isDigit [vI a0] σ 0 r := by
  unfold F_Scn_isDigit at h
  refine aMet_of (bytes := cX9_isDigit) (maxL := 1) (ret := (some .boolean)) (by decide +kernel) rfl (Nat.le_of_ble_eq_true rfl) ⟨rfl, rfl⟩ (fun x e1 e2 X E => ?_)
  subst e1; subst e2
  have X : aX x cX9_isDigit wsX9_isDigit RX9 1 rm_X9_isDigit := X
  show aS x shC 1 0 [(0, vI a0)] [] σ
  refine A_iload_n X 0 rfl rfl dX9_isDigit_0 ?_
  refine A_bipush X dX9_isDigit_1 (z := 48) (by decide) ?_
  refine A_icmp_lt X (tgt := 16) (by decide) dX9_isDigit_3 (fun c2 => ?_) (fun c2 => ?_)
  · replace h := ifT h c2
    refine A_sub [] rfl (L' := []) rfl ?_
    exact w_X9_isDigit_16 (a0 := a0) X E σ h
  · replace h := ifF h c2
    refine A_iload_n X 0 rfl rfl dX9_isDigit_6 ?_
    refine A_bipush X dX9_isDigit_7 (z := 57) (by decide) ?_
    refine A_icmp_gt X (tgt := 16) (by decide) dX9_isDigit_9 (fun c3 => ?_) (fun c3 => ?_)
    · replace h := ifT h c3
      refine A_sub [] rfl (L' := []) rfl ?_
      exact w_X9_isDigit_16 (a0 := a0) X E σ h
    · replace h := ifF h c3
      refine A_iconst X dX9_isDigit_12 (z := 1) (by decide) ?_
      refine A_goto X (tgt := 17) (by decide) dX9_isDigit_13 ?_
      refine A_sub [] rfl (L' := []) rfl ?_
      exact w_X9_isDigit_17 (a0 := a0) X E 1 σ h
abbrev rm_X9_packed : Room := { frames := 0, cells := 0, slots := 0, locals := 0 }
set_option maxRecDepth 100000 in
set_option maxHeartbeats 4000000 in
theorem m_X9_packed {l : Launch} {g : aG} {a0 : Int} {a1 : Int} {σ : Hp} {r : Int × Hp} (h : F_Scn_packed a0 a1 σ = some r) : aMet l g shC yX9_packed wsX9_packed rm_X9_packed [vI a0, vI a1] σ 0 r := by
  unfold F_Scn_packed at h
  refine aMet_of (bytes := cX9_packed) (maxL := 2) (ret := (some .int)) (by decide +kernel) rfl (Nat.le_of_ble_eq_true rfl) ⟨rfl, rfl⟩ (fun x e1 e2 X E => ?_)
  subst e1; subst e2
  have X : aX x cX9_packed wsX9_packed RX9 2 rm_X9_packed := X
  show aS x shC 2 0 [(0, vI a0), (1, vI a1)] [] σ
  refine A_iload_n X 0 rfl rfl dX9_packed_0 ?_
  refine A_bipush X dX9_packed_1 (z := 32) (by decide) ?_
  refine A_imul X dX9_packed_3 ?_
  refine A_iload_n X 1 rfl rfl dX9_packed_4 ?_
  refine A_iadd X dX9_packed_5 ?_
  refine A_bipush X dX9_packed_6 (z := 97) (by decide) ?_
  refine A_isub X dX9_packed_8 ?_
  refine A_iconst X dX9_packed_9 (z := 1) (by decide) ?_
  refine A_iadd X dX9_packed_10 ?_
  exact A_ireturn X E h dX9_packed_11
abbrev rm_X9_kindOfWord : Room := { frames := 4, cells := 0, slots := 0, locals := 100 }
set_option maxRecDepth 100000 in
set_option maxHeartbeats 4000000 in
theorem w_X9_kindOfWord_54 {x : aC} {r : Int × Hp} {k8 : Int × Int × Int × Hp → Option (Int × Hp)} {a0 : Int} (X : aX x cX9_kindOfWord wsX9_kindOfWord RX9 5 rm_X9_kindOfWord) (E : aE x shC (some .int) 0 r) (hk8 : ∀ (x1 : Int) (x2 : Int) (x3 : Int) (σ : Hp), k8 (x1, x2, x3, σ) = some r → aS x shC 5 8 [(0, vI a0), (1, vI x1), (2, vI x2), (3, vI x3)] [] σ) (x1 : Int) (x2 : Int) (x3 : Int) (σ : Hp) (h : F_Scn_kindOfWord_54 k8 a0 x1 x2 x3 σ = some r) : aS x shC 5 54 [(0, vI a0), (1, vI x1), (2, vI x2), (3, vI x3)] [] σ := by
  unfold F_Scn_kindOfWord_54 at h
  refine A_iinc X (L' := fun y3_1 => [(3, vI y3_1), (0, vI a0), (1, vI x1), (2, vI x2)]) 3 rfl (by decide) (fun _ => rfl) dX9_kindOfWord_54 (by decide) (fun y3_1 hy => ?_)
  replace h := ltD h y3_1 hy
  clear hy
  refine A_goto X (tgt := 8) (by decide) dX9_kindOfWord_57 ?_
  refine A_sub [1, 2, 3, 0] rfl (L' := [(0, vI a0), (1, vI x1), (2, vI x2), (3, vI y3_1)]) rfl ?_
  exact hk8 x1 x2 y3_1 σ h
set_option maxRecDepth 100000 in
set_option maxHeartbeats 4000000 in
theorem w_X9_kindOfWord_8_b {x : aC} {r : Int × Hp} {k8 : Int × Int × Int × Hp → Option (Int × Hp)} {a0 : Int} (X : aX x cX9_kindOfWord wsX9_kindOfWord RX9 5 rm_X9_kindOfWord) (E : aE x shC (some .int) 0 r) (hk8 : ∀ (x1 : Int) (x2 : Int) (x3 : Int) (σ : Hp), k8 (x1, x2, x3, σ) = some r → aS x shC 5 8 [(0, vI a0), (1, vI x1), (2, vI x2), (3, vI x3)] [] σ) (x1 : Int) (x2 : Int) (x3 : Int) (σ : Hp) (h : F_Scn_kindOfWord_8_b k8 a0 x1 x2 x3 σ = some r) : aS x shC 5 8 [(0, vI a0), (1, vI x1), (2, vI x2), (3, vI x3)] [] σ := by
  unfold F_Scn_kindOfWord_8_b at h
  refine A_iload_n X 3 rfl rfl dX9_kindOfWord_8 ?_
  refine A_strlen X ⟨Nat.le_of_ble_eq_true rfl, Nat.le_of_ble_eq_true rfl⟩ (Nat.le_of_ble_eq_true rfl) dX9_kindOfWord_9 dX9_kindOfWord_11 ?_
  refine A_icmp_ge X (tgt := 60) (by decide) dX9_kindOfWord_14 (fun c2 => ?_) (fun c2 => ?_)
  · replace h := ifT h c2
    refine A_sipush X dX9_kindOfWord_60 (z := 280) (by decide) ?_
    exact A_ireturn X E h dX9_kindOfWord_63
  · replace h := ifF h c2
    obtain ⟨g3, h⟩ := gdD h
    refine A_strat X ⟨Nat.le_of_ble_eq_true rfl, Nat.le_of_ble_eq_true rfl⟩ (Nat.le_of_ble_eq_true rfl) 3 rfl g3 dX9_kindOfWord_17 dX9_kindOfWord_19 dX9_kindOfWord_20 ?_
    refine A_istoreN X (L' := fun y4_4 => [(4, vI y4_4), (0, vI a0), (1, vI x1), (2, vI x2), (3, vI x3)]) (by decide) (fun _ => rfl) dX9_kindOfWord_23 (fun y4_4 hy => ?_)
    replace h := ltD h y4_4 hy
    clear hy
    refine A_iload X 0 rfl dX9_kindOfWord_25 ?_
    refine A_bipush X dX9_kindOfWord_27 (z := 32) (by decide) ?_
    refine A_icmp_eq X (tgt := 42) (by decide) dX9_kindOfWord_29 (fun c5 => ?_) (fun c5 => ?_)
    · replace h := ifT h c5
      refine A_iload_n X 2 rfl rfl dX9_kindOfWord_42 ?_
      refine A_iload_n X 1 rfl rfl dX9_kindOfWord_43 ?_
      refine A_icmp_ne X (tgt := 49) (by decide) dX9_kindOfWord_44 (fun c6 => ?_) (fun c6 => ?_)
      · replace h := ifF h c6
        refine A_iconst X dX9_kindOfWord_49 (z := 0) (by decide) ?_
        refine A_istore_n X (L' := [(1, vI 0), (4, vI y4_4), (0, vI a0), (2, vI x2), (3, vI x3)]) rfl (by decide) rfl dX9_kindOfWord_50 ?_
        refine A_iinc X (L' := fun y2_7 => [(2, vI y2_7), (1, vI 0), (4, vI y4_4), (0, vI a0), (3, vI x3)]) 3 rfl (by decide) (fun _ => rfl) dX9_kindOfWord_51 (by decide) (fun y2_7 hy => ?_)
        replace h := ltD h y2_7 hy
        clear hy
        refine A_sub [3, 1, 0, 4] rfl (L' := [(0, vI a0), (1, vI 0), (2, vI y2_7), (3, vI x3)]) rfl ?_
        exact w_X9_kindOfWord_54 (a0 := a0) X E hk8 0 y2_7 x3 σ h
      · replace h := ifT h c6
        refine A_iload_n X 3 rfl rfl dX9_kindOfWord_47 ?_
        exact A_ireturn X E h dX9_kindOfWord_48
    · replace h := ifF h c5
      refine A_iload_n X 2 rfl rfl dX9_kindOfWord_32 ?_
      refine A_iload X 0 rfl dX9_kindOfWord_33 ?_
      obtain ⟨v8, s9, e10, h⟩ := clD h
      refine A_callS_I (na := 2) X (m_X9_packed e10) gX9_kindOfWord_X9_packed rfl ⟨rfl, rfl⟩ (by decide +kernel) rfl ⟨Nat.le_of_ble_eq_true rfl, Nat.le_of_ble_eq_true rfl⟩ rfl (Nat.le_of_ble_eq_true rfl) dX9_kindOfWord_35 ?_
      refine A_istore_n X (L' := [(1, vI v8), (4, vI y4_4), (0, vI a0), (2, vI x2), (3, vI x3)]) rfl (by decide) rfl dX9_kindOfWord_38 ?_
      refine A_goto X (tgt := 54) (by decide) dX9_kindOfWord_39 ?_
      refine A_sub [2, 0, 3, 4] rfl (L' := [(0, vI a0), (1, vI v8), (2, vI x2), (3, vI x3)]) rfl ?_
      exact w_X9_kindOfWord_54 (a0 := a0) X E hk8 v8 x2 x3 s9 h
set_option maxRecDepth 100000 in
set_option maxHeartbeats 4000000 in
theorem w_X9_kindOfWord_8 {x : aC} {r : Int × Hp} {a0 : Int} (X : aX x cX9_kindOfWord wsX9_kindOfWord RX9 5 rm_X9_kindOfWord) (E : aE x shC (some .int) 0 r) : ∀ (n : Nat) (x1 : Int) (x2 : Int) (x3 : Int) (σ : Hp) (h : F_Scn_kindOfWord_8 a0 n (x1, x2, x3, σ) = some r), aS x shC 5 8 [(0, vI a0), (1, vI x1), (2, vI x2), (3, vI x3)] [] σ := by
  intro n
  induction n with
  | zero => intro x1 x2 x3 σ h; cases h
  | succ n ih => intro x1 x2 x3 σ h; exact w_X9_kindOfWord_8_b (a0 := a0) (k8 := F_Scn_kindOfWord_8 a0 n) X E ih x1 x2 x3 σ h
set_option maxRecDepth 100000 in
set_option maxHeartbeats 4000000 in
theorem m_X9_kindOfWord {l : Launch} {g : aG} {a0 : Int} {σ : Hp} {r : Int × Hp} (h : F_Scn_kindOfWord a0 σ = some r) : aMet l g shC yX9_kindOfWord wsX9_kindOfWord rm_X9_kindOfWord [vI a0] σ 0 r := by
  unfold F_Scn_kindOfWord at h
  refine aMet_of (bytes := cX9_kindOfWord) (maxL := 5) (ret := (some .int)) (by decide +kernel) rfl (Nat.le_of_ble_eq_true rfl) ⟨rfl, rfl⟩ (fun x e1 e2 X E => ?_)
  subst e1; subst e2
  have X : aX x cX9_kindOfWord wsX9_kindOfWord RX9 5 rm_X9_kindOfWord := X
  show aS x shC 5 0 [(0, vI a0)] [] σ
  refine A_iconst X dX9_kindOfWord_0 (z := 0) (by decide) ?_
  refine A_istore_n X (L' := [(1, vI 0), (0, vI a0)]) rfl (by decide) rfl dX9_kindOfWord_1 ?_
  refine A_sipush X dX9_kindOfWord_2 (z := 256) (by decide) ?_
  refine A_istore_n X (L' := [(2, vI 256), (1, vI 0), (0, vI a0)]) rfl (by decide) rfl dX9_kindOfWord_5 ?_
  refine A_iconst X dX9_kindOfWord_6 (z := 0) (by decide) ?_
  refine A_istore_n X (L' := [(3, vI 0), (2, vI 256), (1, vI 0), (0, vI a0)]) rfl (by decide) rfl dX9_kindOfWord_7 ?_
  refine A_sub [3, 2, 1, 0] rfl (L' := [(0, vI a0), (1, vI 0), (2, vI 256), (3, vI 0)]) rfl ?_
  exact w_X9_kindOfWord_8 (a0 := a0) X E FU 0 256 0 σ h
abbrev rm_X9_misfitIf : Room := { frames := 0, cells := 0, slots := 0, locals := 0 }
theorem in_X9_misfitIf_9 : ∀ w ∈ u_ws RX9 TX9 9, w ∈ wsX9_misfitIf := fun w h => List.mem_cons_of_mem _ (List.mem_append_right _ h)
theorem fp_X9_misfitIf_29 : aFp wsX9_misfitIf RX9 29 9 5 .int := ⟨RX9, TX9, 9, tyX9, rfl, in_X9_misfitIf_9, by decide, (List.mem_of_getElem? (i := 1) rfl), rfl, tyX9_ok, nmX9, rfl, rfl⟩
theorem fg_X9_misfitIf_32 : aFl wsX9_misfitIf RX9 32 9 8 := ⟨RX9, TX9, 9, rfl, in_X9_misfitIf_9, by decide, (List.mem_of_getElem? (i := 2) rfl), rfl⟩
theorem fp_X9_misfitIf_38 : aFp wsX9_misfitIf RX9 38 9 6 .int := ⟨RX9, TX9, 9, tyX9, rfl, in_X9_misfitIf_9, by decide, (List.mem_of_getElem? (i := 3) rfl), rfl, tyX9_ok, nmX9, rfl, rfl⟩
set_option maxRecDepth 100000 in
set_option maxHeartbeats 4000000 in
theorem w_X9_misfitIf_18 {x : aC} {r : Int × Hp} {a1 : Int} (X : aX x cX9_misfitIf wsX9_misfitIf RX9 2 rm_X9_misfitIf) (E : aE x shC none 3 r) (σ : Hp) (h : F_Scn_misfitIf_18 a1 σ = some r) : aS x shC 2 18 [] [] σ := by
  unfold F_Scn_misfitIf_18 at h
  exact A_return X E h dX9_misfitIf_18
set_option maxRecDepth 100000 in
set_option maxHeartbeats 4000000 in
theorem m_X9_misfitIf {l : Launch} {g : aG} {a1 : Int} {σ : Hp} {r : Int × Hp} (h : F_Scn_misfitIf a1 σ = some r) : aMet l g shC yX9_misfitIf wsX9_misfitIf rm_X9_misfitIf [vR 42, vI a1] σ 3 r := by
  unfold F_Scn_misfitIf at h
  refine aMet_of (bytes := cX9_misfitIf) (maxL := 2) (ret := none) (by decide +kernel) rfl (Nat.le_of_ble_eq_true rfl) ⟨rfl, rfl⟩ (fun x e1 e2 X E => ?_)
  subst e1; subst e2
  have X : aX x cX9_misfitIf wsX9_misfitIf RX9 2 rm_X9_misfitIf := X
  show aS x shC 2 0 [(0, vR 42), (1, vI a1)] [] σ
  refine A_iload_n X 1 rfl rfl dX9_misfitIf_0 ?_
  refine A_if_eq X (tgt := 18) (by decide) dX9_misfitIf_1 (fun c1 => ?_) (fun c1 => ?_)
  · replace h := ifT h c1
    refine A_sub [] rfl (L' := []) rfl ?_
    exact w_X9_misfitIf_18 (a1 := a1) X E σ h
  · replace h := ifF h c1
    refine A_aload_n X 0 rfl rfl dX9_misfitIf_4 ?_
    refine A_bipush X dX9_misfitIf_5 (z := (-2)) (by decide) ?_
    refine A_putI X fp_X9_misfitIf_29 shC_42 (k := 5) rfl (by decide) dX9_misfitIf_7 (fun s2 hy => ?_)
    replace h := ltD h s2 hy
    clear hy
    refine A_aload_n X 0 rfl rfl dX9_misfitIf_10 ?_
    refine A_aload_n X 0 rfl rfl dX9_misfitIf_11 ?_
    refine A_getI X fg_X9_misfitIf_32 shC_42 (k := 8) rfl (by decide) dX9_misfitIf_12 ?_
    refine A_putI X fp_X9_misfitIf_38 shC_42 (k := 6) rfl (by decide) dX9_misfitIf_15 (fun s3 hy => ?_)
    replace h := ltD h s3 hy
    clear hy
    refine A_sub [] rfl (L' := []) rfl ?_
    exact w_X9_misfitIf_18 (a1 := a1) X E s3 h
abbrev rm_X9_takeWord : Room := { frames := 5, cells := 0, slots := 0, locals := 124 }
theorem in_X9_takeWord_9 : ∀ w ∈ u_ws RX9 TX9 9, w ∈ wsX9_takeWord := fun w h => List.mem_cons_of_mem _ (List.mem_append_left _ (List.mem_append_right _ h))
theorem fg_X9_takeWord_41 : aFl wsX9_takeWord RX9 41 9 7 := ⟨RX9, TX9, 9, rfl, in_X9_takeWord_9, by decide, (List.mem_of_getElem? (i := 1) rfl), rfl⟩
theorem fp_X9_takeWord_29 : aFp wsX9_takeWord RX9 29 9 5 .int := ⟨RX9, TX9, 9, tyX9, rfl, in_X9_takeWord_9, by decide, (List.mem_of_getElem? (i := 5) rfl), rfl, tyX9_ok, nmX9, rfl, rfl⟩
theorem fg_X9_takeWord_21 : aFl wsX9_takeWord RX9 21 9 0 := ⟨RX9, TX9, 9, rfl, in_X9_takeWord_9, by decide, (List.mem_of_getElem? (i := 4) rfl), rfl⟩
theorem fg_X9_takeWord_32 : aFl wsX9_takeWord RX9 32 9 8 := ⟨RX9, TX9, 9, rfl, in_X9_takeWord_9, by decide, (List.mem_of_getElem? (i := 3) rfl), rfl⟩
theorem fp_X9_takeWord_41 : aFp wsX9_takeWord RX9 41 9 7 .int := ⟨RX9, TX9, 9, tyX9, rfl, in_X9_takeWord_9, by decide, (List.mem_of_getElem? (i := 1) rfl), rfl, tyX9_ok, nmX9, rfl, rfl⟩
theorem fp_X9_takeWord_32 : aFp wsX9_takeWord RX9 32 9 8 .int := ⟨RX9, TX9, 9, tyX9, rfl, in_X9_takeWord_9, by decide, (List.mem_of_getElem? (i := 3) rfl), rfl, tyX9_ok, nmX9, rfl, rfl⟩
theorem fg_X9_takeWord_38 : aFl wsX9_takeWord RX9 38 9 6 := ⟨RX9, TX9, 9, rfl, in_X9_takeWord_9, by decide, (List.mem_of_getElem? (i := 2) rfl), rfl⟩
set_option maxRecDepth 100000 in
set_option maxHeartbeats 4000000 in
theorem w_X9_takeWord_76 {x : aC} {r : Int × Hp} (X : aX x cX9_takeWord wsX9_takeWord RX9 2 rm_X9_takeWord) (E : aE x shC none 3 r) (σ : Hp) (h : F_Scn_takeWord_76 σ = some r) : aS x shC 2 76 [(0, vR 42)] [] σ := by
  unfold F_Scn_takeWord_76 at h
  refine A_aload_n X 0 rfl rfl dX9_takeWord_76 ?_
  refine A_aload_n X 0 rfl rfl dX9_takeWord_77 ?_
  refine A_getI X fg_X9_takeWord_41 shC_42 (k := 7) rfl (by decide) dX9_takeWord_78 ?_
  obtain ⟨v1, s2, e3, h⟩ := clD h
  refine A_callS_I (na := 1) X (m_X9_kindOfWord e3) gX9_takeWord_X9_kindOfWord rfl ⟨rfl, rfl⟩ (by decide +kernel) rfl ⟨Nat.le_of_ble_eq_true rfl, Nat.le_of_ble_eq_true rfl⟩ rfl (Nat.le_of_ble_eq_true rfl) dX9_takeWord_81 ?_
  refine A_putI X fp_X9_takeWord_29 shC_42 (k := 5) rfl (by decide) dX9_takeWord_84 (fun s4 hy => ?_)
  replace h := ltD h s4 hy
  clear hy
  refine A_aload_n X 0 rfl rfl dX9_takeWord_87 ?_
  refine A_aload_n X 0 rfl rfl dX9_takeWord_88 ?_
  refine A_getA X fg_X9_takeWord_21 shC_42 (k := 0) rfl (by decide) dX9_takeWord_89 ?_
  refine A_aload_n X 0 rfl rfl dX9_takeWord_92 ?_
  refine A_getI X fg_X9_takeWord_32 shC_42 (k := 8) rfl (by decide) dX9_takeWord_93 ?_
  obtain ⟨v5, s6, e7, h⟩ := clD h
  refine A_callV_I (na := 1) X (m_X2_at e7) gX9_takeWord_X2_at rfl ⟨rfl, rfl⟩ (by decide +kernel) rfl ⟨Nat.le_of_ble_eq_true rfl, Nat.le_of_ble_eq_true rfl⟩ shC_1 (by decide) rfl rfl (Nat.le_of_ble_eq_true rfl) dX9_takeWord_96 ?_
  obtain ⟨v8, s9, e10, h⟩ := clD h
  refine A_callS_I (na := 1) X (m_X9_isLetter e10) gX9_takeWord_X9_isLetter rfl ⟨rfl, rfl⟩ (by decide +kernel) rfl ⟨Nat.le_of_ble_eq_true rfl, Nat.le_of_ble_eq_true rfl⟩ rfl (Nat.le_of_ble_eq_true rfl) dX9_takeWord_99 ?_
  obtain ⟨v11, s12, e13, h⟩ := clD h
  refine A_callV_V (na := 1) X (m_X9_misfitIf e13) gX9_takeWord_X9_misfitIf rfl ⟨rfl, rfl⟩ (by decide +kernel) rfl ⟨Nat.le_of_ble_eq_true rfl, Nat.le_of_ble_eq_true rfl⟩ shC_42 (by decide) rfl rfl (Nat.le_of_ble_eq_true rfl) dX9_takeWord_102 ?_
  exact A_return X E h dX9_takeWord_105
set_option maxRecDepth 100000 in
set_option maxHeartbeats 4000000 in
theorem w_X9_takeWord_15_b {x : aC} {r : Int × Hp} {k15 : Int × Hp → Option (Int × Hp)} (X : aX x cX9_takeWord wsX9_takeWord RX9 2 rm_X9_takeWord) (E : aE x shC none 3 r) (hk15 : ∀ (x1 : Int) (σ : Hp), k15 (x1, σ) = some r → aS x shC 2 15 [(0, vR 42), (1, vI x1)] [] σ) (x1 : Int) (σ : Hp) (h : F_Scn_takeWord_15_b k15 x1 σ = some r) : aS x shC 2 15 [(0, vR 42), (1, vI x1)] [] σ := by
  unfold F_Scn_takeWord_15_b at h
  refine A_iload_n X 1 rfl rfl dX9_takeWord_15 ?_
  refine A_bipush X dX9_takeWord_16 (z := 6) (by decide) ?_
  refine A_icmp_ge X (tgt := 76) (by decide) dX9_takeWord_18 (fun c14 => ?_) (fun c14 => ?_)
  · replace h := ifT h c14
    refine A_sub [0] rfl (L' := [(0, vR 42)]) rfl ?_
    exact w_X9_takeWord_76 X E σ h
  · replace h := ifF h c14
    refine A_aload_n X 0 rfl rfl dX9_takeWord_21 ?_
    refine A_getA X fg_X9_takeWord_21 shC_42 (k := 0) rfl (by decide) dX9_takeWord_22 ?_
    refine A_aload_n X 0 rfl rfl dX9_takeWord_25 ?_
    refine A_getI X fg_X9_takeWord_32 shC_42 (k := 8) rfl (by decide) dX9_takeWord_26 ?_
    obtain ⟨v15, s16, e17, h⟩ := clD h
    refine A_callV_I (na := 1) X (m_X2_at e17) gX9_takeWord_X2_at rfl ⟨rfl, rfl⟩ (by decide +kernel) rfl ⟨Nat.le_of_ble_eq_true rfl, Nat.le_of_ble_eq_true rfl⟩ shC_1 (by decide) rfl rfl (Nat.le_of_ble_eq_true rfl) dX9_takeWord_29 ?_
    obtain ⟨v18, s19, e20, h⟩ := clD h
    refine A_callS_I (na := 1) X (m_X9_isLetter e20) gX9_takeWord_X9_isLetter rfl ⟨rfl, rfl⟩ (by decide +kernel) rfl ⟨Nat.le_of_ble_eq_true rfl, Nat.le_of_ble_eq_true rfl⟩ rfl (Nat.le_of_ble_eq_true rfl) dX9_takeWord_32 ?_
    refine A_if_eq X (tgt := 76) (by decide) dX9_takeWord_35 (fun c21 => ?_) (fun c21 => ?_)
    · replace h := ifT h c21
      refine A_sub [0] rfl (L' := [(0, vR 42)]) rfl ?_
      exact w_X9_takeWord_76 X E s19 h
    · replace h := ifF h c21
      refine A_aload_n X 0 rfl rfl dX9_takeWord_38 ?_
      refine A_aload_n X 0 rfl rfl dX9_takeWord_39 ?_
      refine A_getI X fg_X9_takeWord_41 shC_42 (k := 7) rfl (by decide) dX9_takeWord_40 ?_
      refine A_aload_n X 0 rfl rfl dX9_takeWord_43 ?_
      refine A_getA X fg_X9_takeWord_21 shC_42 (k := 0) rfl (by decide) dX9_takeWord_44 ?_
      refine A_aload_n X 0 rfl rfl dX9_takeWord_47 ?_
      refine A_getI X fg_X9_takeWord_32 shC_42 (k := 8) rfl (by decide) dX9_takeWord_48 ?_
      obtain ⟨v22, s23, e24, h⟩ := clD h
      refine A_callV_I (na := 1) X (m_X2_at e24) gX9_takeWord_X2_at rfl ⟨rfl, rfl⟩ (by decide +kernel) rfl ⟨Nat.le_of_ble_eq_true rfl, Nat.le_of_ble_eq_true rfl⟩ shC_1 (by decide) rfl rfl (Nat.le_of_ble_eq_true rfl) dX9_takeWord_51 ?_
      obtain ⟨v25, s26, e27, h⟩ := clD h
      refine A_callS_I (na := 2) X (m_X9_packed e27) gX9_takeWord_X9_packed rfl ⟨rfl, rfl⟩ (by decide +kernel) rfl ⟨Nat.le_of_ble_eq_true rfl, Nat.le_of_ble_eq_true rfl⟩ rfl (Nat.le_of_ble_eq_true rfl) dX9_takeWord_54 ?_
      refine A_putI X fp_X9_takeWord_41 shC_42 (k := 7) rfl (by decide) dX9_takeWord_57 (fun s28 hy => ?_)
      replace h := ltD h s28 hy
      clear hy
      refine A_aload_n X 0 rfl rfl dX9_takeWord_60 ?_
      refine A_dup X (by show ¬ (2 : Nat) = 1; decide) dX9_takeWord_61 ?_
      refine A_getI X fg_X9_takeWord_32 shC_42 (k := 8) rfl (by decide) dX9_takeWord_62 ?_
      refine A_iconst X dX9_takeWord_65 (z := 1) (by decide) ?_
      refine A_iadd X dX9_takeWord_66 ?_
      refine A_putI X fp_X9_takeWord_32 shC_42 (k := 8) rfl (by decide) dX9_takeWord_67 (fun s29 hy => ?_)
      replace h := ltD h s29 hy
      clear hy
      refine A_iinc X (L' := fun y1_30 => [(1, vI y1_30), (0, vR 42)]) 1 rfl (by decide) (fun _ => rfl) dX9_takeWord_70 (by decide) (fun y1_30 hy => ?_)
      replace h := ltD h y1_30 hy
      clear hy
      refine A_goto X (tgt := 15) (by decide) dX9_takeWord_73 ?_
      refine A_sub [1, 0] rfl (L' := [(0, vR 42), (1, vI y1_30)]) rfl ?_
      exact hk15 y1_30 s29 h
set_option maxRecDepth 100000 in
set_option maxHeartbeats 4000000 in
theorem w_X9_takeWord_15 {x : aC} {r : Int × Hp} (X : aX x cX9_takeWord wsX9_takeWord RX9 2 rm_X9_takeWord) (E : aE x shC none 3 r) : ∀ (n : Nat) (x1 : Int) (σ : Hp) (h : F_Scn_takeWord_15 n (x1, σ) = some r), aS x shC 2 15 [(0, vR 42), (1, vI x1)] [] σ := by
  intro n
  induction n with
  | zero => intro x1 σ h; cases h
  | succ n ih => intro x1 σ h; exact w_X9_takeWord_15_b (k15 := F_Scn_takeWord_15 n) X E ih x1 σ h
set_option maxRecDepth 100000 in
set_option maxHeartbeats 4000000 in
theorem m_X9_takeWord {l : Launch} {g : aG} {σ : Hp} {r : Int × Hp} (h : F_Scn_takeWord σ = some r) : aMet l g shC yX9_takeWord wsX9_takeWord rm_X9_takeWord [vR 42] σ 3 r := by
  unfold F_Scn_takeWord at h
  refine aMet_of (bytes := cX9_takeWord) (maxL := 2) (ret := none) (by decide +kernel) rfl (Nat.le_of_ble_eq_true rfl) ⟨rfl, rfl⟩ (fun x e1 e2 X E => ?_)
  subst e1; subst e2
  have X : aX x cX9_takeWord wsX9_takeWord RX9 2 rm_X9_takeWord := X
  show aS x shC 2 0 [(0, vR 42)] [] σ
  refine A_aload_n X 0 rfl rfl dX9_takeWord_0 ?_
  refine A_iconst X dX9_takeWord_1 (z := 0) (by decide) ?_
  refine A_putI X fp_X9_takeWord_41 shC_42 (k := 7) rfl (by decide) dX9_takeWord_2 (fun s31 hy => ?_)
  replace h := ltD h s31 hy
  clear hy
  refine A_aload_n X 0 rfl rfl dX9_takeWord_5 ?_
  refine A_aload_n X 0 rfl rfl dX9_takeWord_6 ?_
  refine A_getI X fg_X9_takeWord_38 shC_42 (k := 6) rfl (by decide) dX9_takeWord_7 ?_
  refine A_putI X fp_X9_takeWord_32 shC_42 (k := 8) rfl (by decide) dX9_takeWord_10 (fun s32 hy => ?_)
  replace h := ltD h s32 hy
  clear hy
  refine A_iconst X dX9_takeWord_13 (z := 0) (by decide) ?_
  refine A_istore_n X (L' := [(1, vI 0), (0, vR 42)]) rfl (by decide) rfl dX9_takeWord_14 ?_
  refine A_sub [1, 0] rfl (L' := [(0, vR 42), (1, vI 0)]) rfl ?_
  exact w_X9_takeWord_15 X E FU 0 s32 h
abbrev rm_X9_takeNumber : Room := { frames := 1, cells := 0, slots := 0, locals := 21 }
theorem in_X9_takeNumber_9 : ∀ w ∈ u_ws RX9 TX9 9, w ∈ wsX9_takeNumber := fun w h => List.mem_cons_of_mem _ (List.mem_append_left _ (List.mem_append_right _ h))
theorem fp_X9_takeNumber_29 : aFp wsX9_takeNumber RX9 29 9 5 .int := ⟨RX9, TX9, 9, tyX9, rfl, in_X9_takeNumber_9, by decide, (List.mem_of_getElem? (i := 5) rfl), rfl, tyX9_ok, nmX9, rfl, rfl⟩
theorem fg_X9_takeNumber_21 : aFl wsX9_takeNumber RX9 21 9 0 := ⟨RX9, TX9, 9, rfl, in_X9_takeNumber_9, by decide, (List.mem_of_getElem? (i := 4) rfl), rfl⟩
theorem fg_X9_takeNumber_32 : aFl wsX9_takeNumber RX9 32 9 8 := ⟨RX9, TX9, 9, rfl, in_X9_takeNumber_9, by decide, (List.mem_of_getElem? (i := 3) rfl), rfl⟩
theorem fg_X9_takeNumber_41 : aFl wsX9_takeNumber RX9 41 9 7 := ⟨RX9, TX9, 9, rfl, in_X9_takeNumber_9, by decide, (List.mem_of_getElem? (i := 1) rfl), rfl⟩
theorem fp_X9_takeNumber_41 : aFp wsX9_takeNumber RX9 41 9 7 .int := ⟨RX9, TX9, 9, tyX9, rfl, in_X9_takeNumber_9, by decide, (List.mem_of_getElem? (i := 1) rfl), rfl, tyX9_ok, nmX9, rfl, rfl⟩
theorem fp_X9_takeNumber_32 : aFp wsX9_takeNumber RX9 32 9 8 .int := ⟨RX9, TX9, 9, tyX9, rfl, in_X9_takeNumber_9, by decide, (List.mem_of_getElem? (i := 3) rfl), rfl, tyX9_ok, nmX9, rfl, rfl⟩
theorem fg_X9_takeNumber_38 : aFl wsX9_takeNumber RX9 38 9 6 := ⟨RX9, TX9, 9, rfl, in_X9_takeNumber_9, by decide, (List.mem_of_getElem? (i := 2) rfl), rfl⟩
set_option maxRecDepth 100000 in
set_option maxHeartbeats 4000000 in
theorem w_X9_takeNumber_79 {x : aC} {r : Int × Hp} (X : aX x cX9_takeNumber wsX9_takeNumber RX9 2 rm_X9_takeNumber) (E : aE x shC none 3 r) (σ : Hp) (h : F_Scn_takeNumber_79 σ = some r) : aS x shC 2 79 [(0, vR 42)] [] σ := by
  unfold F_Scn_takeNumber_79 at h
  refine A_aload_n X 0 rfl rfl dX9_takeNumber_79 ?_
  refine A_sipush X dX9_takeNumber_80 (z := 281) (by decide) ?_
  refine A_putI X fp_X9_takeNumber_29 shC_42 (k := 5) rfl (by decide) dX9_takeNumber_83 (fun s1 hy => ?_)
  replace h := ltD h s1 hy
  clear hy
  refine A_aload_n X 0 rfl rfl dX9_takeNumber_86 ?_
  refine A_aload_n X 0 rfl rfl dX9_takeNumber_87 ?_
  refine A_getA X fg_X9_takeNumber_21 shC_42 (k := 0) rfl (by decide) dX9_takeNumber_88 ?_
  refine A_aload_n X 0 rfl rfl dX9_takeNumber_91 ?_
  refine A_getI X fg_X9_takeNumber_32 shC_42 (k := 8) rfl (by decide) dX9_takeNumber_92 ?_
  obtain ⟨v2, s3, e4, h⟩ := clD h
  refine A_callV_I (na := 1) X (m_X2_at e4) gX9_takeNumber_X2_at rfl ⟨rfl, rfl⟩ (by decide +kernel) rfl ⟨Nat.le_of_ble_eq_true rfl, Nat.le_of_ble_eq_true rfl⟩ shC_1 (by decide) rfl rfl (Nat.le_of_ble_eq_true rfl) dX9_takeNumber_95 ?_
  obtain ⟨v5, s6, e7, h⟩ := clD h
  refine A_callS_I (na := 1) X (m_X9_isDigit e7) gX9_takeNumber_X9_isDigit rfl ⟨rfl, rfl⟩ (by decide +kernel) rfl ⟨Nat.le_of_ble_eq_true rfl, Nat.le_of_ble_eq_true rfl⟩ rfl (Nat.le_of_ble_eq_true rfl) dX9_takeNumber_98 ?_
  obtain ⟨v8, s9, e10, h⟩ := clD h
  refine A_callV_V (na := 1) X (m_X9_misfitIf e10) gX9_takeNumber_X9_misfitIf rfl ⟨rfl, rfl⟩ (by decide +kernel) rfl ⟨Nat.le_of_ble_eq_true rfl, Nat.le_of_ble_eq_true rfl⟩ shC_42 (by decide) rfl rfl (Nat.le_of_ble_eq_true rfl) dX9_takeNumber_101 ?_
  exact A_return X E h dX9_takeNumber_104
set_option maxRecDepth 100000 in
set_option maxHeartbeats 4000000 in
theorem w_X9_takeNumber_15_b {x : aC} {r : Int × Hp} {k15 : Int × Hp → Option (Int × Hp)} (X : aX x cX9_takeNumber wsX9_takeNumber RX9 2 rm_X9_takeNumber) (E : aE x shC none 3 r) (hk15 : ∀ (x1 : Int) (σ : Hp), k15 (x1, σ) = some r → aS x shC 2 15 [(0, vR 42), (1, vI x1)] [] σ) (x1 : Int) (σ : Hp) (h : F_Scn_takeNumber_15_b k15 x1 σ = some r) : aS x shC 2 15 [(0, vR 42), (1, vI x1)] [] σ := by
  unfold F_Scn_takeNumber_15_b at h
  refine A_iload_n X 1 rfl rfl dX9_takeNumber_15 ?_
  refine A_iconst X dX9_takeNumber_16 (z := 4) (by decide) ?_
  refine A_icmp_ge X (tgt := 79) (by decide) dX9_takeNumber_17 (fun c11 => ?_) (fun c11 => ?_)
  · replace h := ifT h c11
    refine A_sub [0] rfl (L' := [(0, vR 42)]) rfl ?_
    exact w_X9_takeNumber_79 X E σ h
  · replace h := ifF h c11
    refine A_aload_n X 0 rfl rfl dX9_takeNumber_20 ?_
    refine A_getA X fg_X9_takeNumber_21 shC_42 (k := 0) rfl (by decide) dX9_takeNumber_21 ?_
    refine A_aload_n X 0 rfl rfl dX9_takeNumber_24 ?_
    refine A_getI X fg_X9_takeNumber_32 shC_42 (k := 8) rfl (by decide) dX9_takeNumber_25 ?_
    obtain ⟨v12, s13, e14, h⟩ := clD h
    refine A_callV_I (na := 1) X (m_X2_at e14) gX9_takeNumber_X2_at rfl ⟨rfl, rfl⟩ (by decide +kernel) rfl ⟨Nat.le_of_ble_eq_true rfl, Nat.le_of_ble_eq_true rfl⟩ shC_1 (by decide) rfl rfl (Nat.le_of_ble_eq_true rfl) dX9_takeNumber_28 ?_
    obtain ⟨v15, s16, e17, h⟩ := clD h
    refine A_callS_I (na := 1) X (m_X9_isDigit e17) gX9_takeNumber_X9_isDigit rfl ⟨rfl, rfl⟩ (by decide +kernel) rfl ⟨Nat.le_of_ble_eq_true rfl, Nat.le_of_ble_eq_true rfl⟩ rfl (Nat.le_of_ble_eq_true rfl) dX9_takeNumber_31 ?_
    refine A_if_eq X (tgt := 79) (by decide) dX9_takeNumber_34 (fun c18 => ?_) (fun c18 => ?_)
    · replace h := ifT h c18
      refine A_sub [0] rfl (L' := [(0, vR 42)]) rfl ?_
      exact w_X9_takeNumber_79 X E s16 h
    · replace h := ifF h c18
      refine A_aload_n X 0 rfl rfl dX9_takeNumber_37 ?_
      refine A_bipush X dX9_takeNumber_38 (z := 10) (by decide) ?_
      refine A_aload_n X 0 rfl rfl dX9_takeNumber_40 ?_
      refine A_getI X fg_X9_takeNumber_41 shC_42 (k := 7) rfl (by decide) dX9_takeNumber_41 ?_
      refine A_imul X dX9_takeNumber_44 ?_
      refine A_aload_n X 0 rfl rfl dX9_takeNumber_45 ?_
      refine A_getA X fg_X9_takeNumber_21 shC_42 (k := 0) rfl (by decide) dX9_takeNumber_46 ?_
      refine A_aload_n X 0 rfl rfl dX9_takeNumber_49 ?_
      refine A_getI X fg_X9_takeNumber_32 shC_42 (k := 8) rfl (by decide) dX9_takeNumber_50 ?_
      obtain ⟨v19, s20, e21, h⟩ := clD h
      refine A_callV_I (na := 1) X (m_X2_at e21) gX9_takeNumber_X2_at rfl ⟨rfl, rfl⟩ (by decide +kernel) rfl ⟨Nat.le_of_ble_eq_true rfl, Nat.le_of_ble_eq_true rfl⟩ shC_1 (by decide) rfl rfl (Nat.le_of_ble_eq_true rfl) dX9_takeNumber_53 ?_
      refine A_iadd X dX9_takeNumber_56 ?_
      refine A_bipush X dX9_takeNumber_57 (z := 48) (by decide) ?_
      refine A_isub X dX9_takeNumber_59 ?_
      refine A_putI X fp_X9_takeNumber_41 shC_42 (k := 7) rfl (by decide) dX9_takeNumber_60 (fun s22 hy => ?_)
      replace h := ltD h s22 hy
      clear hy
      refine A_aload_n X 0 rfl rfl dX9_takeNumber_63 ?_
      refine A_dup X (by show ¬ (2 : Nat) = 1; decide) dX9_takeNumber_64 ?_
      refine A_getI X fg_X9_takeNumber_32 shC_42 (k := 8) rfl (by decide) dX9_takeNumber_65 ?_
      refine A_iconst X dX9_takeNumber_68 (z := 1) (by decide) ?_
      refine A_iadd X dX9_takeNumber_69 ?_
      refine A_putI X fp_X9_takeNumber_32 shC_42 (k := 8) rfl (by decide) dX9_takeNumber_70 (fun s23 hy => ?_)
      replace h := ltD h s23 hy
      clear hy
      refine A_iinc X (L' := fun y1_24 => [(1, vI y1_24), (0, vR 42)]) 1 rfl (by decide) (fun _ => rfl) dX9_takeNumber_73 (by decide) (fun y1_24 hy => ?_)
      replace h := ltD h y1_24 hy
      clear hy
      refine A_goto X (tgt := 15) (by decide) dX9_takeNumber_76 ?_
      refine A_sub [1, 0] rfl (L' := [(0, vR 42), (1, vI y1_24)]) rfl ?_
      exact hk15 y1_24 s23 h
set_option maxRecDepth 100000 in
set_option maxHeartbeats 4000000 in
theorem w_X9_takeNumber_15 {x : aC} {r : Int × Hp} (X : aX x cX9_takeNumber wsX9_takeNumber RX9 2 rm_X9_takeNumber) (E : aE x shC none 3 r) : ∀ (n : Nat) (x1 : Int) (σ : Hp) (h : F_Scn_takeNumber_15 n (x1, σ) = some r), aS x shC 2 15 [(0, vR 42), (1, vI x1)] [] σ := by
  intro n
  induction n with
  | zero => intro x1 σ h; cases h
  | succ n ih => intro x1 σ h; exact w_X9_takeNumber_15_b (k15 := F_Scn_takeNumber_15 n) X E ih x1 σ h
set_option maxRecDepth 100000 in
set_option maxHeartbeats 4000000 in
theorem m_X9_takeNumber {l : Launch} {g : aG} {σ : Hp} {r : Int × Hp} (h : F_Scn_takeNumber σ = some r) : aMet l g shC yX9_takeNumber wsX9_takeNumber rm_X9_takeNumber [vR 42] σ 3 r := by
  unfold F_Scn_takeNumber at h
  refine aMet_of (bytes := cX9_takeNumber) (maxL := 2) (ret := none) (by decide +kernel) rfl (Nat.le_of_ble_eq_true rfl) ⟨rfl, rfl⟩ (fun x e1 e2 X E => ?_)
  subst e1; subst e2
  have X : aX x cX9_takeNumber wsX9_takeNumber RX9 2 rm_X9_takeNumber := X
  show aS x shC 2 0 [(0, vR 42)] [] σ
  refine A_aload_n X 0 rfl rfl dX9_takeNumber_0 ?_
  refine A_iconst X dX9_takeNumber_1 (z := 0) (by decide) ?_
  refine A_putI X fp_X9_takeNumber_41 shC_42 (k := 7) rfl (by decide) dX9_takeNumber_2 (fun s25 hy => ?_)
  replace h := ltD h s25 hy
  clear hy
  refine A_aload_n X 0 rfl rfl dX9_takeNumber_5 ?_
  refine A_aload_n X 0 rfl rfl dX9_takeNumber_6 ?_
  refine A_getI X fg_X9_takeNumber_38 shC_42 (k := 6) rfl (by decide) dX9_takeNumber_7 ?_
  refine A_putI X fp_X9_takeNumber_32 shC_42 (k := 8) rfl (by decide) dX9_takeNumber_10 (fun s26 hy => ?_)
  replace h := ltD h s26 hy
  clear hy
  refine A_iconst X dX9_takeNumber_13 (z := 0) (by decide) ?_
  refine A_istore_n X (L' := [(1, vI 0), (0, vR 42)]) rfl (by decide) rfl dX9_takeNumber_14 ?_
  refine A_sub [1, 0] rfl (L' := [(0, vR 42), (1, vI 0)]) rfl ?_
  exact w_X9_takeNumber_15 X E FU 0 s26 h
abbrev rm_X9_takeNext : Room := { frames := 6, cells := 0, slots := 0, locals := 145 }
theorem in_X9_takeNext_9 : ∀ w ∈ u_ws RX9 TX9 9, w ∈ wsX9_takeNext := fun w h => List.mem_cons_of_mem _ (List.mem_append_left _ (List.mem_append_right _ h))
theorem fp_X9_takeNext_29 : aFp wsX9_takeNext RX9 29 9 5 .int := ⟨RX9, TX9, 9, tyX9, rfl, in_X9_takeNext_9, by decide, (List.mem_of_getElem? (i := 1) rfl), rfl, tyX9_ok, nmX9, rfl, rfl⟩
theorem fg_X9_takeNext_38 : aFl wsX9_takeNext RX9 38 9 6 := ⟨RX9, TX9, 9, rfl, in_X9_takeNext_9, by decide, (List.mem_of_getElem? (i := 3) rfl), rfl⟩
theorem fp_X9_takeNext_32 : aFp wsX9_takeNext RX9 32 9 8 .int := ⟨RX9, TX9, 9, tyX9, rfl, in_X9_takeNext_9, by decide, (List.mem_of_getElem? (i := 2) rfl), rfl, tyX9_ok, nmX9, rfl, rfl⟩
theorem fg_X9_takeNext_21 : aFl wsX9_takeNext RX9 21 9 0 := ⟨RX9, TX9, 9, rfl, in_X9_takeNext_9, by decide, (List.mem_of_getElem? (i := 4) rfl), rfl⟩
theorem fp_X9_takeNext_38 : aFp wsX9_takeNext RX9 38 9 6 .int := ⟨RX9, TX9, 9, tyX9, rfl, in_X9_takeNext_9, by decide, (List.mem_of_getElem? (i := 3) rfl), rfl, tyX9_ok, nmX9, rfl, rfl⟩
theorem fg_X9_takeNext_29 : aFl wsX9_takeNext RX9 29 9 5 := ⟨RX9, TX9, 9, rfl, in_X9_takeNext_9, by decide, (List.mem_of_getElem? (i := 1) rfl), rfl⟩
theorem fg_X9_takeNext_32 : aFl wsX9_takeNext RX9 32 9 8 := ⟨RX9, TX9, 9, rfl, in_X9_takeNext_9, by decide, (List.mem_of_getElem? (i := 2) rfl), rfl⟩
set_option maxRecDepth 100000 in
set_option maxHeartbeats 4000000 in
theorem w_X9_takeNext_178 {x : aC} {r : Int × Hp} (X : aX x cX9_takeNext wsX9_takeNext RX9 5 rm_X9_takeNext) (E : aE x shC none 3 r) (σ : Hp) (h : F_Scn_takeNext_178 σ = some r) : aS x shC 5 178 [] [] σ := by
  unfold F_Scn_takeNext_178 at h
  exact A_return X E h dX9_takeNext_178
set_option maxRecDepth 100000 in
set_option maxHeartbeats 4000000 in
theorem w_X9_takeNext_137 {x : aC} {r : Int × Hp} (X : aX x cX9_takeNext wsX9_takeNext RX9 5 rm_X9_takeNext) (E : aE x shC none 3 r) (x3 : Int) (x4 : Int) (σ : Hp) (h : F_Scn_takeNext_137 x3 x4 σ = some r) : aS x shC 5 137 [(0, vR 42), (3, vI x3), (4, vI x4)] [] σ := by
  unfold F_Scn_takeNext_137 at h
  refine A_iload_n X 1 rfl rfl dX9_takeNext_137 ?_
  obtain ⟨v1, s2, e3, h⟩ := clD h
  refine A_callS_I (na := 1) X (m_X9_isLetter e3) gX9_takeNext_X9_isLetter rfl ⟨rfl, rfl⟩ (by decide +kernel) rfl ⟨Nat.le_of_ble_eq_true rfl, Nat.le_of_ble_eq_true rfl⟩ rfl (Nat.le_of_ble_eq_true rfl) dX9_takeNext_138 ?_
  refine A_if_eq X (tgt := 151) (by decide) dX9_takeNext_141 (fun c4 => ?_) (fun c4 => ?_)
  · replace h := ifT h c4
    refine A_iload X 2 rfl dX9_takeNext_151 ?_
    refine A_if_eq X (tgt := 163) (by decide) dX9_takeNext_153 (fun c5 => ?_) (fun c5 => ?_)
    · replace h := ifT h c5
      refine A_aload_n X 0 rfl rfl dX9_takeNext_163 ?_
      refine A_iload_n X 1 rfl rfl dX9_takeNext_164 ?_
      refine A_putI X fp_X9_takeNext_29 shC_42 (k := 5) rfl (by decide) dX9_takeNext_165 (fun s6 hy => ?_)
      replace h := ltD h s6 hy
      clear hy
      refine A_aload_n X 0 rfl rfl dX9_takeNext_168 ?_
      refine A_aload_n X 0 rfl rfl dX9_takeNext_169 ?_
      refine A_getI X fg_X9_takeNext_38 shC_42 (k := 6) rfl (by decide) dX9_takeNext_170 ?_
      refine A_iconst X dX9_takeNext_173 (z := 1) (by decide) ?_
      refine A_iadd X dX9_takeNext_174 ?_
      refine A_putI X fp_X9_takeNext_32 shC_42 (k := 8) rfl (by decide) dX9_takeNext_175 (fun s7 hy => ?_)
      replace h := ltD h s7 hy
      clear hy
      refine A_sub [] rfl (L' := []) rfl ?_
      exact w_X9_takeNext_178 X E s7 h
    · replace h := ifF h c5
      refine A_aload_n X 0 rfl rfl dX9_takeNext_156 ?_
      obtain ⟨v8, s9, e10, h⟩ := clD h
      refine A_callV_V (na := 0) X (m_X9_takeNumber e10) gX9_takeNext_X9_takeNumber rfl ⟨rfl, rfl⟩ (by decide +kernel) rfl ⟨Nat.le_of_ble_eq_true rfl, Nat.le_of_ble_eq_true rfl⟩ shC_42 (by decide) rfl rfl (Nat.le_of_ble_eq_true rfl) dX9_takeNext_157 ?_
      refine A_goto X (tgt := 178) (by decide) dX9_takeNext_160 ?_
      refine A_sub [] rfl (L' := []) rfl ?_
      exact w_X9_takeNext_178 X E s9 h
  · replace h := ifF h c4
    refine A_aload_n X 0 rfl rfl dX9_takeNext_144 ?_
    obtain ⟨v11, s12, e13, h⟩ := clD h
    refine A_callV_V (na := 0) X (m_X9_takeWord e13) gX9_takeNext_X9_takeWord rfl ⟨rfl, rfl⟩ (by decide +kernel) rfl ⟨Nat.le_of_ble_eq_true rfl, Nat.le_of_ble_eq_true rfl⟩ shC_42 (by decide) rfl rfl (Nat.le_of_ble_eq_true rfl) dX9_takeNext_145 ?_
    refine A_goto X (tgt := 178) (by decide) dX9_takeNext_148 ?_
    refine A_sub [] rfl (L' := []) rfl ?_
    exact w_X9_takeNext_178 X E s12 h
set_option maxRecDepth 100000 in
set_option maxHeartbeats 4000000 in
theorem w_X9_takeNext_96 {x : aC} {r : Int × Hp} (X : aX x cX9_takeNext wsX9_takeNext RX9 5 rm_X9_takeNext) (E : aE x shC none 3 r) (x1 : Int) (x2 : Int) (x3 : Int) (t1 : Int) (σ : Hp) (h : F_Scn_takeNext_96 x1 x2 x3 t1 σ = some r) : aS x shC 5 96 [(0, vR 42), (1, vI x1), (2, vI x2), (3, vI x3)] [vI t1] σ := by
  unfold F_Scn_takeNext_96 at h
  refine A_istore X (L' := [(4, vI t1), (0, vR 42), (1, vI x1), (2, vI x2), (3, vI x3)]) (by decide) rfl dX9_takeNext_96 ?_
  refine A_iload_n X 4 rfl rfl dX9_takeNext_98 ?_
  refine A_iconst X dX9_takeNext_99 (z := (-1)) (by decide) ?_
  refine A_icmp_ne X (tgt := 111) (by decide) dX9_takeNext_100 (fun c14 => ?_) (fun c14 => ?_)
  · replace h := ifF h c14
    refine A_iload_n X 2 rfl rfl dX9_takeNext_111 ?_
    refine A_if_eq X (tgt := 137) (by decide) dX9_takeNext_112 (fun c15 => ?_) (fun c15 => ?_)
    · replace h := ifT h c15
      refine A_sub [1, 4, 0] rfl (L' := [(0, vR 42), (3, vI x3), (4, vI t1)]) rfl ?_
      exact w_X9_takeNext_137 X E x3 t1 σ h
    · replace h := ifF h c15
      refine A_iload X 0 rfl dX9_takeNext_115 ?_
      refine A_if_eq X (tgt := 137) (by decide) dX9_takeNext_117 (fun c16 => ?_) (fun c16 => ?_)
      · replace h := ifT h c16
        refine A_sub [1, 4, 0] rfl (L' := [(0, vR 42), (3, vI x3), (4, vI t1)]) rfl ?_
        exact w_X9_takeNext_137 X E x3 t1 σ h
      · replace h := ifF h c16
        refine A_aload_n X 1 rfl rfl dX9_takeNext_120 ?_
        refine A_getI X fg_X9_takeNext_38 shC_42 (k := 6) rfl (by decide) dX9_takeNext_121 ?_
        refine A_iload_n X 3 rfl rfl dX9_takeNext_124 ?_
        refine A_icmp_ne X (tgt := 137) (by decide) dX9_takeNext_125 (fun c17 => ?_) (fun c17 => ?_)
        · replace h := ifF h c17
          refine A_sub [1, 4, 0] rfl (L' := [(0, vR 42), (3, vI x3), (4, vI t1)]) rfl ?_
          exact w_X9_takeNext_137 X E x3 t1 σ h
        · replace h := ifT h c17
          refine A_aload_n X 1 rfl rfl dX9_takeNext_128 ?_
          refine A_bipush X dX9_takeNext_129 (z := (-2)) (by decide) ?_
          refine A_putI X fp_X9_takeNext_29 shC_42 (k := 5) rfl (by decide) dX9_takeNext_131 (fun s18 hy => ?_)
          replace h := ltD h s18 hy
          clear hy
          refine A_goto X (tgt := 178) (by decide) dX9_takeNext_134 ?_
          refine A_sub [] rfl (L' := []) rfl ?_
          exact w_X9_takeNext_178 X E s18 h
  · replace h := ifT h c14
    refine A_aload_n X 1 rfl rfl dX9_takeNext_103 ?_
    refine A_iconst X dX9_takeNext_104 (z := (-1)) (by decide) ?_
    refine A_putI X fp_X9_takeNext_29 shC_42 (k := 5) rfl (by decide) dX9_takeNext_105 (fun s19 hy => ?_)
    replace h := ltD h s19 hy
    clear hy
    refine A_goto X (tgt := 178) (by decide) dX9_takeNext_108 ?_
    refine A_sub [] rfl (L' := []) rfl ?_
    exact w_X9_takeNext_178 X E s19 h
set_option maxRecDepth 100000 in
set_option maxHeartbeats 4000000 in
theorem w_X9_takeNext_91 {x : aC} {r : Int × Hp} (X : aX x cX9_takeNext wsX9_takeNext RX9 5 rm_X9_takeNext) (E : aE x shC none 3 r) (x1 : Int) (x2 : Int) (x3 : Int) (σ : Hp) (h : F_Scn_takeNext_91 x1 x2 x3 σ = some r) : aS x shC 5 91 [(0, vR 42), (1, vI x1), (2, vI x2), (3, vI x3)] [] σ := by
  unfold F_Scn_takeNext_91 at h
  refine A_iconst X dX9_takeNext_91 (z := 1) (by decide) ?_
  refine A_goto X (tgt := 96) (by decide) dX9_takeNext_92 ?_
  exact w_X9_takeNext_96 X E x1 x2 x3 1 σ h
set_option maxRecDepth 100000 in
set_option maxHeartbeats 4000000 in
theorem w_X9_takeNext_65 {x : aC} {r : Int × Hp} (X : aX x cX9_takeNext wsX9_takeNext RX9 5 rm_X9_takeNext) (E : aE x shC none 3 r) (x1 : Int) (x2 : Int) (σ : Hp) (h : F_Scn_takeNext_65 x1 x2 σ = some r) : aS x shC 5 65 [(0, vR 42), (1, vI x1), (2, vI x2)] [] σ := by
  unfold F_Scn_takeNext_65 at h
  refine A_aload_n X 0 rfl rfl dX9_takeNext_65 ?_
  refine A_getA X fg_X9_takeNext_21 shC_42 (k := 0) rfl (by decide) dX9_takeNext_66 ?_
  refine A_aload_n X 0 rfl rfl dX9_takeNext_69 ?_
  refine A_getI X fg_X9_takeNext_38 shC_42 (k := 6) rfl (by decide) dX9_takeNext_70 ?_
  obtain ⟨v20, s21, e22, h⟩ := clD h
  refine A_callV_I (na := 1) X (m_X2_at e22) gX9_takeNext_X2_at rfl ⟨rfl, rfl⟩ (by decide +kernel) rfl ⟨Nat.le_of_ble_eq_true rfl, Nat.le_of_ble_eq_true rfl⟩ shC_1 (by decide) rfl rfl (Nat.le_of_ble_eq_true rfl) dX9_takeNext_73 ?_
  refine A_istore_n X (L' := [(3, vI v20), (0, vR 42), (1, vI x1), (2, vI x2)]) rfl (by decide) rfl dX9_takeNext_76 ?_
  refine A_iload_n X 0 rfl rfl dX9_takeNext_77 ?_
  obtain ⟨v23, s24, e25, h⟩ := clD h
  refine A_callS_I (na := 1) X (m_X9_isLetter e25) gX9_takeNext_X9_isLetter rfl ⟨rfl, rfl⟩ (by decide +kernel) rfl ⟨Nat.le_of_ble_eq_true rfl, Nat.le_of_ble_eq_true rfl⟩ rfl (Nat.le_of_ble_eq_true rfl) dX9_takeNext_78 ?_
  refine A_if_ne X (tgt := 91) (by decide) dX9_takeNext_81 (fun c26 => ?_) (fun c26 => ?_)
  · replace h := ifF h c26
    refine A_sub [1, 2, 3, 0] rfl (L' := [(0, vR 42), (1, vI x1), (2, vI x2), (3, vI v20)]) rfl ?_
    exact w_X9_takeNext_91 X E x1 x2 v20 s24 h
  · replace h := ifT h c26
    refine A_iload_n X 0 rfl rfl dX9_takeNext_84 ?_
    obtain ⟨v27, s28, e29, h⟩ := clD h
    refine A_callS_I (na := 1) X (m_X9_isDigit e29) gX9_takeNext_X9_isDigit rfl ⟨rfl, rfl⟩ (by decide +kernel) rfl ⟨Nat.le_of_ble_eq_true rfl, Nat.le_of_ble_eq_true rfl⟩ rfl (Nat.le_of_ble_eq_true rfl) dX9_takeNext_85 ?_
    refine A_if_eq X (tgt := 95) (by decide) dX9_takeNext_88 (fun c30 => ?_) (fun c30 => ?_)
    · replace h := ifT h c30
      refine A_iconst X dX9_takeNext_95 (z := 0) (by decide) ?_
      refine A_sub [1, 2, 3, 0] rfl (L' := [(0, vR 42), (1, vI x1), (2, vI x2), (3, vI v20)]) rfl ?_
      exact w_X9_takeNext_96 X E x1 x2 v20 0 s28 h
    · replace h := ifF h c30
      refine A_sub [1, 2, 3, 0] rfl (L' := [(0, vR 42), (1, vI x1), (2, vI x2), (3, vI v20)]) rfl ?_
      exact w_X9_takeNext_91 X E x1 x2 v20 s28 h
set_option maxRecDepth 100000 in
set_option maxHeartbeats 4000000 in
theorem w_X9_takeNext_21_b {x : aC} {r : Int × Hp} {k21 : Int × Int × Hp → Option (Int × Hp)} (X : aX x cX9_takeNext wsX9_takeNext RX9 5 rm_X9_takeNext) (E : aE x shC none 3 r) (hk21 : ∀ (x1 : Int) (x2 : Int) (σ : Hp), k21 (x1, x2, σ) = some r → aS x shC 5 21 [(0, vR 42), (1, vI x1), (2, vI x2)] [] σ) (x1 : Int) (x2 : Int) (σ : Hp) (h : F_Scn_takeNext_21_b k21 x1 x2 σ = some r) : aS x shC 5 21 [(0, vR 42), (1, vI x1), (2, vI x2)] [] σ := by
  unfold F_Scn_takeNext_21_b at h
  refine A_aload_n X 0 rfl rfl dX9_takeNext_21 ?_
  refine A_getI X fg_X9_takeNext_38 shC_42 (k := 6) rfl (by decide) dX9_takeNext_22 ?_
  refine A_aload_n X 0 rfl rfl dX9_takeNext_25 ?_
  refine A_getA X fg_X9_takeNext_21 shC_42 (k := 0) rfl (by decide) dX9_takeNext_26 ?_
  obtain ⟨v31, s32, e33, h⟩ := clD h
  refine A_callV_I (na := 0) X (m_X2_size e33) gX9_takeNext_X2_size rfl ⟨rfl, rfl⟩ (by decide +kernel) rfl ⟨Nat.le_of_ble_eq_true rfl, Nat.le_of_ble_eq_true rfl⟩ shC_1 (by decide) rfl rfl (Nat.le_of_ble_eq_true rfl) dX9_takeNext_29 ?_
  refine A_icmp_ge X (tgt := 65) (by decide) dX9_takeNext_32 (fun c34 => ?_) (fun c34 => ?_)
  · replace h := ifT h c34
    exact w_X9_takeNext_65 X E x1 x2 s32 h
  · replace h := ifF h c34
    refine A_aload_n X 0 rfl rfl dX9_takeNext_35 ?_
    refine A_getA X fg_X9_takeNext_21 shC_42 (k := 0) rfl (by decide) dX9_takeNext_36 ?_
    refine A_aload_n X 0 rfl rfl dX9_takeNext_39 ?_
    refine A_getI X fg_X9_takeNext_38 shC_42 (k := 6) rfl (by decide) dX9_takeNext_40 ?_
    obtain ⟨v35, s36, e37, h⟩ := clD h
    refine A_callV_I (na := 1) X (m_X2_at e37) gX9_takeNext_X2_at rfl ⟨rfl, rfl⟩ (by decide +kernel) rfl ⟨Nat.le_of_ble_eq_true rfl, Nat.le_of_ble_eq_true rfl⟩ shC_1 (by decide) rfl rfl (Nat.le_of_ble_eq_true rfl) dX9_takeNext_43 ?_
    obtain ⟨v38, s39, e40, h⟩ := clD h
    refine A_callS_I (na := 1) X (m_X9_isBlank e40) gX9_takeNext_X9_isBlank rfl ⟨rfl, rfl⟩ (by decide +kernel) rfl ⟨Nat.le_of_ble_eq_true rfl, Nat.le_of_ble_eq_true rfl⟩ rfl (Nat.le_of_ble_eq_true rfl) dX9_takeNext_46 ?_
    refine A_if_eq X (tgt := 65) (by decide) dX9_takeNext_49 (fun c41 => ?_) (fun c41 => ?_)
    · replace h := ifT h c41
      exact w_X9_takeNext_65 X E x1 x2 s39 h
    · replace h := ifF h c41
      refine A_aload_n X 0 rfl rfl dX9_takeNext_52 ?_
      refine A_dup X (by show ¬ (2 : Nat) = 1; decide) dX9_takeNext_53 ?_
      refine A_getI X fg_X9_takeNext_38 shC_42 (k := 6) rfl (by decide) dX9_takeNext_54 ?_
      refine A_iconst X dX9_takeNext_57 (z := 1) (by decide) ?_
      refine A_iadd X dX9_takeNext_58 ?_
      refine A_putI X fp_X9_takeNext_38 shC_42 (k := 6) rfl (by decide) dX9_takeNext_59 (fun s42 hy => ?_)
      replace h := ltD h s42 hy
      clear hy
      refine A_goto X (tgt := 21) (by decide) dX9_takeNext_62 ?_
      exact hk21 x1 x2 s42 h
set_option maxRecDepth 100000 in
set_option maxHeartbeats 4000000 in
theorem w_X9_takeNext_21 {x : aC} {r : Int × Hp} (X : aX x cX9_takeNext wsX9_takeNext RX9 5 rm_X9_takeNext) (E : aE x shC none 3 r) : ∀ (n : Nat) (x1 : Int) (x2 : Int) (σ : Hp) (h : F_Scn_takeNext_21 n (x1, x2, σ) = some r), aS x shC 5 21 [(0, vR 42), (1, vI x1), (2, vI x2)] [] σ := by
  intro n
  induction n with
  | zero => intro x1 x2 σ h; cases h
  | succ n ih => intro x1 x2 σ h; exact w_X9_takeNext_21_b (k21 := F_Scn_takeNext_21 n) X E ih x1 x2 σ h
set_option maxRecDepth 100000 in
set_option maxHeartbeats 4000000 in
theorem m_X9_takeNext {l : Launch} {g : aG} {σ : Hp} {r : Int × Hp} (h : F_Scn_takeNext σ = some r) : aMet l g shC yX9_takeNext wsX9_takeNext rm_X9_takeNext [vR 42] σ 3 r := by
  unfold F_Scn_takeNext at h
  refine aMet_of (bytes := cX9_takeNext) (maxL := 5) (ret := none) (by decide +kernel) rfl (Nat.le_of_ble_eq_true rfl) ⟨rfl, rfl⟩ (fun x e1 e2 X E => ?_)
  subst e1; subst e2
  have X : aX x cX9_takeNext wsX9_takeNext RX9 5 rm_X9_takeNext := X
  show aS x shC 5 0 [(0, vR 42)] [] σ
  refine A_aload_n X 0 rfl rfl dX9_takeNext_0 ?_
  refine A_getI X fg_X9_takeNext_29 shC_42 (k := 5) rfl (by decide) dX9_takeNext_1 ?_
  obtain ⟨v43, s44, e45, h⟩ := clD h
  refine A_callS_I (na := 1) X (m_X9_isLong e45) gX9_takeNext_X9_isLong rfl ⟨rfl, rfl⟩ (by decide +kernel) rfl ⟨Nat.le_of_ble_eq_true rfl, Nat.le_of_ble_eq_true rfl⟩ rfl (Nat.le_of_ble_eq_true rfl) dX9_takeNext_4 ?_
  refine A_istore_n X (L' := [(1, vI v43), (0, vR 42)]) rfl (by decide) rfl dX9_takeNext_7 ?_
  refine A_aload_n X 1 rfl rfl dX9_takeNext_8 ?_
  refine A_getI X fg_X9_takeNext_32 shC_42 (k := 8) rfl (by decide) dX9_takeNext_9 ?_
  refine A_istore_nN X (L' := fun y2_46 => [(2, vI y2_46), (1, vI v43), (0, vR 42)]) rfl (by decide) (fun _ => rfl) dX9_takeNext_12 (fun y2_46 hy => ?_)
  replace h := ltD h y2_46 hy
  clear hy
  refine A_aload_n X 2 rfl rfl dX9_takeNext_13 ?_
  refine A_aload_n X 2 rfl rfl dX9_takeNext_14 ?_
  refine A_getI X fg_X9_takeNext_32 shC_42 (k := 8) rfl (by decide) dX9_takeNext_15 ?_
  refine A_putI X fp_X9_takeNext_38 shC_42 (k := 6) rfl (by decide) dX9_takeNext_18 (fun s47 hy => ?_)
  replace h := ltD h s47 hy
  clear hy
  refine A_sub [2, 1, 0] rfl (L' := [(0, vR 42), (1, vI v43), (2, vI y2_46)]) rfl ?_
  exact w_X9_takeNext_21 X E FU v43 y2_46 s47 h
abbrev rm_X9_scan : Room := { frames := 7, cells := 0, slots := 0, locals := 169 }
theorem in_X9_scan_9 : ∀ w ∈ u_ws RX9 TX9 9, w ∈ wsX9_scan := fun w h => List.mem_cons_of_mem _ (List.mem_append_left _ (List.mem_append_right _ h))
theorem fg_X9_scan_9 : aFl wsX9_scan RX9 9 9 1 := ⟨RX9, TX9, 9, rfl, in_X9_scan_9, by decide, (List.mem_of_getElem? (i := 4) rfl), rfl⟩
theorem fg_X9_scan_29 : aFl wsX9_scan RX9 29 9 5 := ⟨RX9, TX9, 9, rfl, in_X9_scan_9, by decide, (List.mem_of_getElem? (i := 2) rfl), rfl⟩
theorem fg_X9_scan_15 : aFl wsX9_scan RX9 15 9 2 := ⟨RX9, TX9, 9, rfl, in_X9_scan_9, by decide, (List.mem_of_getElem? (i := 5) rfl), rfl⟩
theorem fg_X9_scan_38 : aFl wsX9_scan RX9 38 9 6 := ⟨RX9, TX9, 9, rfl, in_X9_scan_9, by decide, (List.mem_of_getElem? (i := 6) rfl), rfl⟩
theorem fg_X9_scan_18 : aFl wsX9_scan RX9 18 9 3 := ⟨RX9, TX9, 9, rfl, in_X9_scan_9, by decide, (List.mem_of_getElem? (i := 7) rfl), rfl⟩
theorem fg_X9_scan_41 : aFl wsX9_scan RX9 41 9 7 := ⟨RX9, TX9, 9, rfl, in_X9_scan_9, by decide, (List.mem_of_getElem? (i := 8) rfl), rfl⟩
theorem fp_X9_scan_25 : aFp wsX9_scan RX9 25 9 4 .int := ⟨RX9, TX9, 9, tyX9, rfl, in_X9_scan_9, by decide, (List.mem_of_getElem? (i := 1) rfl), rfl, tyX9_ok, nmX9, rfl, rfl⟩
theorem fp_X9_scan_29 : aFp wsX9_scan RX9 29 9 5 .int := ⟨RX9, TX9, 9, tyX9, rfl, in_X9_scan_9, by decide, (List.mem_of_getElem? (i := 2) rfl), rfl, tyX9_ok, nmX9, rfl, rfl⟩
theorem fp_X9_scan_32 : aFp wsX9_scan RX9 32 9 8 .int := ⟨RX9, TX9, 9, tyX9, rfl, in_X9_scan_9, by decide, (List.mem_of_getElem? (i := 3) rfl), rfl, tyX9_ok, nmX9, rfl, rfl⟩
set_option maxRecDepth 100000 in
set_option maxHeartbeats 4000000 in
theorem w_X9_scan_81 {x : aC} {r : Int × Hp} (X : aX x cX9_scan wsX9_scan RX9 2 rm_X9_scan) (E : aE x shC none 3 r) (σ : Hp) (h : F_Scn_scan_81 σ = some r) : aS x shC 2 81 [] [] σ := by
  unfold F_Scn_scan_81 at h
  exact A_return X E h dX9_scan_81
set_option maxRecDepth 100000 in
set_option maxHeartbeats 4000000 in
theorem w_X9_scan_17_b {x : aC} {r : Int × Hp} {k17 : Int × Hp → Option (Int × Hp)} (X : aX x cX9_scan wsX9_scan RX9 2 rm_X9_scan) (E : aE x shC none 3 r) (hk17 : ∀ (x1 : Int) (σ : Hp), k17 (x1, σ) = some r → aS x shC 2 17 [(0, vR 42), (1, vI x1)] [] σ) (x1 : Int) (σ : Hp) (h : F_Scn_scan_17_b k17 x1 σ = some r) : aS x shC 2 17 [(0, vR 42), (1, vI x1)] [] σ := by
  unfold F_Scn_scan_17_b at h
  refine A_iload_n X 1 rfl rfl dX9_scan_17 ?_
  refine A_sipush X dX9_scan_18 (z := 900) (by decide) ?_
  refine A_icmp_gt X (tgt := 81) (by decide) dX9_scan_21 (fun c1 => ?_) (fun c1 => ?_)
  · replace h := ifT h c1
    refine A_sub [] rfl (L' := []) rfl ?_
    exact w_X9_scan_81 X E σ h
  · replace h := ifF h c1
    refine A_aload_n X 0 rfl rfl dX9_scan_24 ?_
    obtain ⟨v2, s3, e4, h⟩ := clD h
    refine A_callV_V (na := 0) X (m_X9_takeNext e4) gX9_scan_X9_takeNext rfl ⟨rfl, rfl⟩ (by decide +kernel) rfl ⟨Nat.le_of_ble_eq_true rfl, Nat.le_of_ble_eq_true rfl⟩ shC_42 (by decide) rfl rfl (Nat.le_of_ble_eq_true rfl) dX9_scan_25 ?_
    refine A_aload_n X 0 rfl rfl dX9_scan_28 ?_
    refine A_getR X fg_X9_scan_9 shC_42 (k := 1) rfl (by decide) dX9_scan_29 ?_
    refine A_iload_n X 1 rfl rfl dX9_scan_32 ?_
    refine A_aload_n X 0 rfl rfl dX9_scan_33 ?_
    refine A_getI X fg_X9_scan_29 shC_42 (k := 5) rfl (by decide) dX9_scan_34 ?_
    obtain ⟨g5, h⟩ := gdD h
    refine A_iast X g5 shC_43 dX9_scan_37 (fun s6 hy => ?_)
    replace h := ltD h s6 hy
    clear hy
    refine A_aload_n X 0 rfl rfl dX9_scan_38 ?_
    refine A_getR X fg_X9_scan_15 shC_42 (k := 2) rfl (by decide) dX9_scan_39 ?_
    refine A_iload_n X 1 rfl rfl dX9_scan_42 ?_
    refine A_aload_n X 0 rfl rfl dX9_scan_43 ?_
    refine A_getI X fg_X9_scan_38 shC_42 (k := 6) rfl (by decide) dX9_scan_44 ?_
    obtain ⟨g7, h⟩ := gdD h
    refine A_iast X g7 shC_44 dX9_scan_47 (fun s8 hy => ?_)
    replace h := ltD h s8 hy
    clear hy
    refine A_aload_n X 0 rfl rfl dX9_scan_48 ?_
    refine A_getR X fg_X9_scan_18 shC_42 (k := 3) rfl (by decide) dX9_scan_49 ?_
    refine A_iload_n X 1 rfl rfl dX9_scan_52 ?_
    refine A_aload_n X 0 rfl rfl dX9_scan_53 ?_
    refine A_getI X fg_X9_scan_41 shC_42 (k := 7) rfl (by decide) dX9_scan_54 ?_
    obtain ⟨g9, h⟩ := gdD h
    refine A_iast X g9 shC_45 dX9_scan_57 (fun s10 hy => ?_)
    replace h := ltD h s10 hy
    clear hy
    refine A_aload_n X 0 rfl rfl dX9_scan_58 ?_
    refine A_iload_n X 1 rfl rfl dX9_scan_59 ?_
    refine A_iconst X dX9_scan_60 (z := 1) (by decide) ?_
    refine A_iadd X dX9_scan_61 ?_
    refine A_putI X fp_X9_scan_25 shC_42 (k := 4) rfl (by decide) dX9_scan_62 (fun s11 hy => ?_)
    replace h := ltD h s11 hy
    clear hy
    refine A_aload_n X 0 rfl rfl dX9_scan_65 ?_
    refine A_getI X fg_X9_scan_29 shC_42 (k := 5) rfl (by decide) dX9_scan_66 ?_
    refine A_if_ge X (tgt := 75) (by decide) dX9_scan_69 (fun c12 => ?_) (fun c12 => ?_)
    · replace h := ifT h c12
      refine A_iinc X (L' := fun y1_13 => [(1, vI y1_13), (0, vR 42)]) 1 rfl (by decide) (fun _ => rfl) dX9_scan_75 (by decide) (fun y1_13 hy => ?_)
      replace h := ltD h y1_13 hy
      clear hy
      refine A_goto X (tgt := 17) (by decide) dX9_scan_78 ?_
      refine A_sub [1, 0] rfl (L' := [(0, vR 42), (1, vI y1_13)]) rfl ?_
      exact hk17 y1_13 s11 h
    · replace h := ifF h c12
      refine A_goto X (tgt := 81) (by decide) dX9_scan_72 ?_
      refine A_sub [] rfl (L' := []) rfl ?_
      exact w_X9_scan_81 X E s11 h
set_option maxRecDepth 100000 in
set_option maxHeartbeats 4000000 in
theorem w_X9_scan_17 {x : aC} {r : Int × Hp} (X : aX x cX9_scan wsX9_scan RX9 2 rm_X9_scan) (E : aE x shC none 3 r) : ∀ (n : Nat) (x1 : Int) (σ : Hp) (h : F_Scn_scan_17 n (x1, σ) = some r), aS x shC 2 17 [(0, vR 42), (1, vI x1)] [] σ := by
  intro n
  induction n with
  | zero => intro x1 σ h; cases h
  | succ n ih => intro x1 σ h; exact w_X9_scan_17_b (k17 := F_Scn_scan_17 n) X E ih x1 σ h
set_option maxRecDepth 100000 in
set_option maxHeartbeats 4000000 in
theorem m_X9_scan {l : Launch} {g : aG} {σ : Hp} {r : Int × Hp} (h : F_Scn_scan σ = some r) : aMet l g shC yX9_scan wsX9_scan rm_X9_scan [vR 42] σ 3 r := by
  unfold F_Scn_scan at h
  refine aMet_of (bytes := cX9_scan) (maxL := 2) (ret := none) (by decide +kernel) rfl (Nat.le_of_ble_eq_true rfl) ⟨rfl, rfl⟩ (fun x e1 e2 X E => ?_)
  subst e1; subst e2
  have X : aX x cX9_scan wsX9_scan RX9 2 rm_X9_scan := X
  show aS x shC 2 0 [(0, vR 42)] [] σ
  refine A_aload_n X 0 rfl rfl dX9_scan_0 ?_
  refine A_iconst X dX9_scan_1 (z := 0) (by decide) ?_
  refine A_putI X fp_X9_scan_25 shC_42 (k := 4) rfl (by decide) dX9_scan_2 (fun s14 hy => ?_)
  replace h := ltD h s14 hy
  clear hy
  refine A_aload_n X 0 rfl rfl dX9_scan_5 ?_
  refine A_iconst X dX9_scan_6 (z := (-1)) (by decide) ?_
  refine A_putI X fp_X9_scan_29 shC_42 (k := 5) rfl (by decide) dX9_scan_7 (fun s15 hy => ?_)
  replace h := ltD h s15 hy
  clear hy
  refine A_aload_n X 0 rfl rfl dX9_scan_10 ?_
  refine A_iconst X dX9_scan_11 (z := 0) (by decide) ?_
  refine A_putI X fp_X9_scan_32 shC_42 (k := 8) rfl (by decide) dX9_scan_12 (fun s16 hy => ?_)
  replace h := ltD h s16 hy
  clear hy
  refine A_iconst X dX9_scan_15 (z := 0) (by decide) ?_
  refine A_istore_n X (L' := [(1, vI 0), (0, vR 42)]) rfl (by decide) rfl dX9_scan_16 ?_
  refine A_sub [1, 0] rfl (L' := [(0, vR 42), (1, vI 0)]) rfl ?_
  exact w_X9_scan_17 X E FU 0 s16 h
abbrev rm_X9_kindAt : Room := { frames := 0, cells := 0, slots := 0, locals := 0 }
theorem in_X9_kindAt_9 : ∀ w ∈ u_ws RX9 TX9 9, w ∈ wsX9_kindAt := fun w h => List.mem_cons_of_mem _ (List.mem_append_right _ h)
theorem fg_X9_kindAt_25 : aFl wsX9_kindAt RX9 25 9 4 := ⟨RX9, TX9, 9, rfl, in_X9_kindAt_9, by decide, (List.mem_of_getElem? (i := 1) rfl), rfl⟩
theorem fg_X9_kindAt_9 : aFl wsX9_kindAt RX9 9 9 1 := ⟨RX9, TX9, 9, rfl, in_X9_kindAt_9, by decide, (List.mem_of_getElem? (i := 2) rfl), rfl⟩
set_option maxRecDepth 100000 in
set_option maxHeartbeats 4000000 in
theorem w_X9_kindAt_22 {x : aC} {r : Int × Hp} {a1 : Int} (X : aX x cX9_kindAt wsX9_kindAt RX9 2 rm_X9_kindAt) (E : aE x shC (some .int) 0 r) (t1 : Int) (σ : Hp) (h : F_Scn_kindAt_22 a1 t1 σ = some r) : aS x shC 2 22 [] [vI t1] σ := by
  unfold F_Scn_kindAt_22 at h
  exact A_ireturn X E h dX9_kindAt_22
set_option maxRecDepth 100000 in
set_option maxHeartbeats 4000000 in
theorem w_X9_kindAt_21 {x : aC} {r : Int × Hp} {a1 : Int} (X : aX x cX9_kindAt wsX9_kindAt RX9 2 rm_X9_kindAt) (E : aE x shC (some .int) 0 r) (σ : Hp) (h : F_Scn_kindAt_21 a1 σ = some r) : aS x shC 2 21 [] [] σ := by
  unfold F_Scn_kindAt_21 at h
  refine A_iconst X dX9_kindAt_21 (z := (-1)) (by decide) ?_
  exact w_X9_kindAt_22 (a1 := a1) X E (-1) σ h
set_option maxRecDepth 100000 in
set_option maxHeartbeats 4000000 in
theorem m_X9_kindAt {l : Launch} {g : aG} {a1 : Int} {σ : Hp} {r : Int × Hp} (h : F_Scn_kindAt a1 σ = some r) : aMet l g shC yX9_kindAt wsX9_kindAt rm_X9_kindAt [vR 42, vI a1] σ 0 r := by
  unfold F_Scn_kindAt at h
  refine aMet_of (bytes := cX9_kindAt) (maxL := 2) (ret := (some .int)) (by decide +kernel) rfl (Nat.le_of_ble_eq_true rfl) ⟨rfl, rfl⟩ (fun x e1 e2 X E => ?_)
  subst e1; subst e2
  have X : aX x cX9_kindAt wsX9_kindAt RX9 2 rm_X9_kindAt := X
  show aS x shC 2 0 [(0, vR 42), (1, vI a1)] [] σ
  refine A_iload_n X 1 rfl rfl dX9_kindAt_0 ?_
  refine A_if_lt X (tgt := 21) (by decide) dX9_kindAt_1 (fun c1 => ?_) (fun c1 => ?_)
  · replace h := ifT h c1
    refine A_sub [] rfl (L' := []) rfl ?_
    exact w_X9_kindAt_21 (a1 := a1) X E σ h
  · replace h := ifF h c1
    refine A_iload_n X 1 rfl rfl dX9_kindAt_4 ?_
    refine A_aload_n X 0 rfl rfl dX9_kindAt_5 ?_
    refine A_getI X fg_X9_kindAt_25 shC_42 (k := 4) rfl (by decide) dX9_kindAt_6 ?_
    refine A_icmp_ge X (tgt := 21) (by decide) dX9_kindAt_9 (fun c2 => ?_) (fun c2 => ?_)
    · replace h := ifT h c2
      refine A_sub [] rfl (L' := []) rfl ?_
      exact w_X9_kindAt_21 (a1 := a1) X E σ h
    · replace h := ifF h c2
      refine A_aload_n X 0 rfl rfl dX9_kindAt_12 ?_
      refine A_getR X fg_X9_kindAt_9 shC_42 (k := 1) rfl (by decide) dX9_kindAt_13 ?_
      refine A_iload_n X 1 rfl rfl dX9_kindAt_16 ?_
      obtain ⟨g3, h⟩ := gdD h
      refine A_iald X g3 shC_43 dX9_kindAt_17 ?_
      refine A_goto X (tgt := 22) (by decide) dX9_kindAt_18 ?_
      refine A_sub [] rfl (L' := []) rfl ?_
      exact w_X9_kindAt_22 (a1 := a1) X E (σ 43 a1.toNat) σ h
abbrev rm_X9_startAt : Room := { frames := 0, cells := 0, slots := 0, locals := 0 }
theorem in_X9_startAt_9 : ∀ w ∈ u_ws RX9 TX9 9, w ∈ wsX9_startAt := fun w h => List.mem_cons_of_mem _ (List.mem_append_right _ h)
theorem fg_X9_startAt_25 : aFl wsX9_startAt RX9 25 9 4 := ⟨RX9, TX9, 9, rfl, in_X9_startAt_9, by decide, (List.mem_of_getElem? (i := 1) rfl), rfl⟩
theorem fg_X9_startAt_15 : aFl wsX9_startAt RX9 15 9 2 := ⟨RX9, TX9, 9, rfl, in_X9_startAt_9, by decide, (List.mem_of_getElem? (i := 2) rfl), rfl⟩
set_option maxRecDepth 100000 in
set_option maxHeartbeats 4000000 in
theorem w_X9_startAt_22 {x : aC} {r : Int × Hp} {a1 : Int} (X : aX x cX9_startAt wsX9_startAt RX9 2 rm_X9_startAt) (E : aE x shC (some .int) 0 r) (t1 : Int) (σ : Hp) (h : F_Scn_startAt_22 a1 t1 σ = some r) : aS x shC 2 22 [] [vI t1] σ := by
  unfold F_Scn_startAt_22 at h
  exact A_ireturn X E h dX9_startAt_22
set_option maxRecDepth 100000 in
set_option maxHeartbeats 4000000 in
theorem w_X9_startAt_21 {x : aC} {r : Int × Hp} {a1 : Int} (X : aX x cX9_startAt wsX9_startAt RX9 2 rm_X9_startAt) (E : aE x shC (some .int) 0 r) (σ : Hp) (h : F_Scn_startAt_21 a1 σ = some r) : aS x shC 2 21 [] [] σ := by
  unfold F_Scn_startAt_21 at h
  refine A_iconst X dX9_startAt_21 (z := (-1)) (by decide) ?_
  exact w_X9_startAt_22 (a1 := a1) X E (-1) σ h
set_option maxRecDepth 100000 in
set_option maxHeartbeats 4000000 in
theorem m_X9_startAt {l : Launch} {g : aG} {a1 : Int} {σ : Hp} {r : Int × Hp} (h : F_Scn_startAt a1 σ = some r) : aMet l g shC yX9_startAt wsX9_startAt rm_X9_startAt [vR 42, vI a1] σ 0 r := by
  unfold F_Scn_startAt at h
  refine aMet_of (bytes := cX9_startAt) (maxL := 2) (ret := (some .int)) (by decide +kernel) rfl (Nat.le_of_ble_eq_true rfl) ⟨rfl, rfl⟩ (fun x e1 e2 X E => ?_)
  subst e1; subst e2
  have X : aX x cX9_startAt wsX9_startAt RX9 2 rm_X9_startAt := X
  show aS x shC 2 0 [(0, vR 42), (1, vI a1)] [] σ
  refine A_iload_n X 1 rfl rfl dX9_startAt_0 ?_
  refine A_if_lt X (tgt := 21) (by decide) dX9_startAt_1 (fun c1 => ?_) (fun c1 => ?_)
  · replace h := ifT h c1
    refine A_sub [] rfl (L' := []) rfl ?_
    exact w_X9_startAt_21 (a1 := a1) X E σ h
  · replace h := ifF h c1
    refine A_iload_n X 1 rfl rfl dX9_startAt_4 ?_
    refine A_aload_n X 0 rfl rfl dX9_startAt_5 ?_
    refine A_getI X fg_X9_startAt_25 shC_42 (k := 4) rfl (by decide) dX9_startAt_6 ?_
    refine A_icmp_ge X (tgt := 21) (by decide) dX9_startAt_9 (fun c2 => ?_) (fun c2 => ?_)
    · replace h := ifT h c2
      refine A_sub [] rfl (L' := []) rfl ?_
      exact w_X9_startAt_21 (a1 := a1) X E σ h
    · replace h := ifF h c2
      refine A_aload_n X 0 rfl rfl dX9_startAt_12 ?_
      refine A_getR X fg_X9_startAt_15 shC_42 (k := 2) rfl (by decide) dX9_startAt_13 ?_
      refine A_iload_n X 1 rfl rfl dX9_startAt_16 ?_
      obtain ⟨g3, h⟩ := gdD h
      refine A_iald X g3 shC_44 dX9_startAt_17 ?_
      refine A_goto X (tgt := 22) (by decide) dX9_startAt_18 ?_
      refine A_sub [] rfl (L' := []) rfl ?_
      exact w_X9_startAt_22 (a1 := a1) X E (σ 44 a1.toNat) σ h
abbrev rm_X9_valueAt : Room := { frames := 0, cells := 0, slots := 0, locals := 0 }
theorem in_X9_valueAt_9 : ∀ w ∈ u_ws RX9 TX9 9, w ∈ wsX9_valueAt := fun w h => List.mem_cons_of_mem _ (List.mem_append_right _ h)
theorem fg_X9_valueAt_25 : aFl wsX9_valueAt RX9 25 9 4 := ⟨RX9, TX9, 9, rfl, in_X9_valueAt_9, by decide, (List.mem_of_getElem? (i := 1) rfl), rfl⟩
theorem fg_X9_valueAt_18 : aFl wsX9_valueAt RX9 18 9 3 := ⟨RX9, TX9, 9, rfl, in_X9_valueAt_9, by decide, (List.mem_of_getElem? (i := 2) rfl), rfl⟩
set_option maxRecDepth 100000 in
set_option maxHeartbeats 4000000 in
theorem w_X9_valueAt_22 {x : aC} {r : Int × Hp} {a1 : Int} (X : aX x cX9_valueAt wsX9_valueAt RX9 2 rm_X9_valueAt) (E : aE x shC (some .int) 0 r) (t1 : Int) (σ : Hp) (h : F_Scn_valueAt_22 a1 t1 σ = some r) : aS x shC 2 22 [] [vI t1] σ := by
  unfold F_Scn_valueAt_22 at h
  exact A_ireturn X E h dX9_valueAt_22
set_option maxRecDepth 100000 in
set_option maxHeartbeats 4000000 in
theorem w_X9_valueAt_21 {x : aC} {r : Int × Hp} {a1 : Int} (X : aX x cX9_valueAt wsX9_valueAt RX9 2 rm_X9_valueAt) (E : aE x shC (some .int) 0 r) (σ : Hp) (h : F_Scn_valueAt_21 a1 σ = some r) : aS x shC 2 21 [] [] σ := by
  unfold F_Scn_valueAt_21 at h
  refine A_iconst X dX9_valueAt_21 (z := 0) (by decide) ?_
  exact w_X9_valueAt_22 (a1 := a1) X E 0 σ h
set_option maxRecDepth 100000 in
set_option maxHeartbeats 4000000 in
theorem m_X9_valueAt {l : Launch} {g : aG} {a1 : Int} {σ : Hp} {r : Int × Hp} (h : F_Scn_valueAt a1 σ = some r) : aMet l g shC yX9_valueAt wsX9_valueAt rm_X9_valueAt [vR 42, vI a1] σ 0 r := by
  unfold F_Scn_valueAt at h
  refine aMet_of (bytes := cX9_valueAt) (maxL := 2) (ret := (some .int)) (by decide +kernel) rfl (Nat.le_of_ble_eq_true rfl) ⟨rfl, rfl⟩ (fun x e1 e2 X E => ?_)
  subst e1; subst e2
  have X : aX x cX9_valueAt wsX9_valueAt RX9 2 rm_X9_valueAt := X
  show aS x shC 2 0 [(0, vR 42), (1, vI a1)] [] σ
  refine A_iload_n X 1 rfl rfl dX9_valueAt_0 ?_
  refine A_if_lt X (tgt := 21) (by decide) dX9_valueAt_1 (fun c1 => ?_) (fun c1 => ?_)
  · replace h := ifT h c1
    refine A_sub [] rfl (L' := []) rfl ?_
    exact w_X9_valueAt_21 (a1 := a1) X E σ h
  · replace h := ifF h c1
    refine A_iload_n X 1 rfl rfl dX9_valueAt_4 ?_
    refine A_aload_n X 0 rfl rfl dX9_valueAt_5 ?_
    refine A_getI X fg_X9_valueAt_25 shC_42 (k := 4) rfl (by decide) dX9_valueAt_6 ?_
    refine A_icmp_ge X (tgt := 21) (by decide) dX9_valueAt_9 (fun c2 => ?_) (fun c2 => ?_)
    · replace h := ifT h c2
      refine A_sub [] rfl (L' := []) rfl ?_
      exact w_X9_valueAt_21 (a1 := a1) X E σ h
    · replace h := ifF h c2
      refine A_aload_n X 0 rfl rfl dX9_valueAt_12 ?_
      refine A_getR X fg_X9_valueAt_18 shC_42 (k := 3) rfl (by decide) dX9_valueAt_13 ?_
      refine A_iload_n X 1 rfl rfl dX9_valueAt_16 ?_
      obtain ⟨g3, h⟩ := gdD h
      refine A_iald X g3 shC_45 dX9_valueAt_17 ?_
      refine A_goto X (tgt := 22) (by decide) dX9_valueAt_18 ?_
      refine A_sub [] rfl (L' := []) rfl ?_
      exact w_X9_valueAt_22 (a1 := a1) X E (σ 45 a1.toNat) σ h
abbrev rm_X6_whoIs : Room := { frames := 0, cells := 0, slots := 0, locals := 0 }
theorem in_X6_whoIs_6 : ∀ w ∈ u_ws RX6 TX6 20, w ∈ wsX6_whoIs := fun w h => List.mem_cons_of_mem _ (List.mem_append_right _ h)
theorem fg_X6_whoIs_60 : aFl wsX6_whoIs RX6 60 6 15 := ⟨RX6, TX6, 20, rfl, in_X6_whoIs_6, by decide, (List.mem_of_getElem? (i := 1) rfl), rfl⟩
theorem fg_X6_whoIs_9 : aFl wsX6_whoIs RX6 9 6 0 := ⟨RX6, TX6, 20, rfl, in_X6_whoIs_6, by decide, (List.mem_of_getElem? (i := 2) rfl), rfl⟩
set_option maxRecDepth 100000 in
set_option maxHeartbeats 4000000 in
theorem w_X6_whoIs_2_b {x : aC} {r : Int × Hp} {k2 : Int × Hp → Option (Int × Hp)} {this : Nat} {a1 : Int} (X : aX x cX6_whoIs wsX6_whoIs RX6 3 rm_X6_whoIs) (E : aE x shC (some .int) 0 r) (hk2 : ∀ (x2 : Int) (σ : Hp), k2 (x2, σ) = some r → aS x shC 3 2 [(0, vR this), (1, vI a1), (2, vI x2)] [] σ) (ht : isNet this) (x2 : Int) (σ : Hp) (h : F_Net_whoIs_2_b k2 this a1 x2 σ = some r) : aS x shC 3 2 [(0, vR this), (1, vI a1), (2, vI x2)] [] σ := by
  unfold F_Net_whoIs_2_b at h
  refine A_iload_n X 2 rfl rfl dX6_whoIs_2 ?_
  refine A_aload_n X 0 rfl rfl dX6_whoIs_3 ?_
  refine A_getI X fg_X6_whoIs_60 (shNet ht) (k := 15) rfl (by decide) dX6_whoIs_4 ?_
  refine A_icmp_ge X (tgt := 28) (by decide) dX6_whoIs_7 (fun c1 => ?_) (fun c1 => ?_)
  · replace h := ifT h c1
    refine A_iconst X dX6_whoIs_28 (z := (-1)) (by decide) ?_
    exact A_ireturn X E h dX6_whoIs_29
  · replace h := ifF h c1
    refine A_aload_n X 0 rfl rfl dX6_whoIs_10 ?_
    refine A_getR X fg_X6_whoIs_9 (shNet ht) (k := 0) rfl (by decide) dX6_whoIs_11 ?_
    refine A_iload_n X 2 rfl rfl dX6_whoIs_14 ?_
    obtain ⟨g2, h⟩ := gdD h
    refine A_iald X g2 (shNet_names ht) dX6_whoIs_15 ?_
    refine A_iload_n X 1 rfl rfl dX6_whoIs_16 ?_
    refine A_icmp_ne X (tgt := 22) (by decide) dX6_whoIs_17 (fun c3 => ?_) (fun c3 => ?_)
    · replace h := ifF h c3
      refine A_iinc X (L' := fun y2_4 => [(2, vI y2_4), (0, vR this), (1, vI a1)]) 2 rfl (by decide) (fun _ => rfl) dX6_whoIs_22 (by decide) (fun y2_4 hy => ?_)
      replace h := ltD h y2_4 hy
      clear hy
      refine A_goto X (tgt := 2) (by decide) dX6_whoIs_25 ?_
      refine A_sub [1, 2, 0] rfl (L' := [(0, vR this), (1, vI a1), (2, vI y2_4)]) rfl ?_
      exact hk2 y2_4 σ h
    · replace h := ifT h c3
      refine A_iload_n X 2 rfl rfl dX6_whoIs_20 ?_
      exact A_ireturn X E h dX6_whoIs_21
set_option maxRecDepth 100000 in
set_option maxHeartbeats 4000000 in
theorem w_X6_whoIs_2 {x : aC} {r : Int × Hp} {this : Nat} {a1 : Int} (X : aX x cX6_whoIs wsX6_whoIs RX6 3 rm_X6_whoIs) (E : aE x shC (some .int) 0 r) (ht : isNet this) : ∀ (n : Nat) (x2 : Int) (σ : Hp) (h : F_Net_whoIs_2 this a1 n (x2, σ) = some r), aS x shC 3 2 [(0, vR this), (1, vI a1), (2, vI x2)] [] σ := by
  intro n
  induction n with
  | zero => intro x2 σ h; cases h
  | succ n ih => intro x2 σ h; exact w_X6_whoIs_2_b (this := this) (a1 := a1) (k2 := F_Net_whoIs_2 this a1 n) X E ih ht x2 σ h
set_option maxRecDepth 100000 in
set_option maxHeartbeats 4000000 in
theorem m_X6_whoIs {l : Launch} {g : aG} {this : Nat} {a1 : Int} {σ : Hp} {r : Int × Hp} (h : F_Net_whoIs this a1 σ = some r) : aMet l g shC yX6_whoIs wsX6_whoIs rm_X6_whoIs [vR this, vI a1] σ 0 r := by
  unfold F_Net_whoIs at h
  obtain ⟨ht, h⟩ := gdD h
  refine aMet_of (bytes := cX6_whoIs) (maxL := 3) (ret := (some .int)) (by decide +kernel) rfl (Nat.le_of_ble_eq_true rfl) ⟨rfl, rfl⟩ (fun x e1 e2 X E => ?_)
  subst e1; subst e2
  have X : aX x cX6_whoIs wsX6_whoIs RX6 3 rm_X6_whoIs := X
  show aS x shC 3 0 [(0, vR this), (1, vI a1)] [] σ
  refine A_iconst X dX6_whoIs_0 (z := 0) (by decide) ?_
  refine A_istore_n X (L' := [(2, vI 0), (0, vR this), (1, vI a1)]) rfl (by decide) rfl dX6_whoIs_1 ?_
  refine A_sub [1, 2, 0] rfl (L' := [(0, vR this), (1, vI a1), (2, vI 0)]) rfl ?_
  exact w_X6_whoIs_2 (this := this) (a1 := a1) X E ht FU 0 σ h
abbrev rm_X6_addWho : Room := { frames := 0, cells := 0, slots := 0, locals := 0 }
theorem in_X6_addWho_6 : ∀ w ∈ u_ws RX6 TX6 20, w ∈ wsX6_addWho := fun w h => List.mem_cons_of_mem _ (List.mem_append_right _ h)
theorem fg_X6_addWho_60 : aFl wsX6_addWho RX6 60 6 15 := ⟨RX6, TX6, 20, rfl, in_X6_addWho_6, by decide, (List.mem_of_getElem? (i := 1) rfl), rfl⟩
theorem fg_X6_addWho_9 : aFl wsX6_addWho RX6 9 6 0 := ⟨RX6, TX6, 20, rfl, in_X6_addWho_6, by decide, (List.mem_of_getElem? (i := 2) rfl), rfl⟩
theorem fg_X6_addWho_15 : aFl wsX6_addWho RX6 15 6 1 := ⟨RX6, TX6, 20, rfl, in_X6_addWho_6, by decide, (List.mem_of_getElem? (i := 3) rfl), rfl⟩
theorem fp_X6_addWho_60 : aFp wsX6_addWho RX6 60 6 15 .int := ⟨RX6, TX6, 20, tyX6, rfl, in_X6_addWho_6, by decide, (List.mem_of_getElem? (i := 1) rfl), rfl, tyX6_ok, nmX6, rfl, rfl⟩
set_option maxRecDepth 100000 in
set_option maxHeartbeats 4000000 in
theorem w_X6_addWho_39 {x : aC} {r : Int × Hp} {this : Nat} {a1 : Int} {a2 : Int} (X : aX x cX6_addWho wsX6_addWho RX6 3 rm_X6_addWho) (E : aE x shC none 3 r) (ht : isNet this) (σ : Hp) (h : F_Net_addWho_39 this a1 a2 σ = some r) : aS x shC 3 39 [] [] σ := by
  unfold F_Net_addWho_39 at h
  exact A_return X E h dX6_addWho_39
set_option maxRecDepth 100000 in
set_option maxHeartbeats 4000000 in
theorem m_X6_addWho {l : Launch} {g : aG} {this : Nat} {a1 : Int} {a2 : Int} {σ : Hp} {r : Int × Hp} (h : F_Net_addWho this a1 a2 σ = some r) : aMet l g shC yX6_addWho wsX6_addWho rm_X6_addWho [vR this, vI a1, vI a2] σ 3 r := by
  unfold F_Net_addWho at h
  obtain ⟨ht, h⟩ := gdD h
  refine aMet_of (bytes := cX6_addWho) (maxL := 3) (ret := none) (by decide +kernel) rfl (Nat.le_of_ble_eq_true rfl) ⟨rfl, rfl⟩ (fun x e1 e2 X E => ?_)
  subst e1; subst e2
  have X : aX x cX6_addWho wsX6_addWho RX6 3 rm_X6_addWho := X
  show aS x shC 3 0 [(0, vR this), (1, vI a1), (2, vI a2)] [] σ
  refine A_aload_n X 0 rfl rfl dX6_addWho_0 ?_
  refine A_getI X fg_X6_addWho_60 (shNet ht) (k := 15) rfl (by decide) dX6_addWho_1 ?_
  refine A_bipush X dX6_addWho_4 (z := 12) (by decide) ?_
  refine A_icmp_ge X (tgt := 39) (by decide) dX6_addWho_6 (fun c1 => ?_) (fun c1 => ?_)
  · replace h := ifT h c1
    refine A_sub [] rfl (L' := []) rfl ?_
    exact w_X6_addWho_39 (this := this) (a1 := a1) (a2 := a2) X E ht σ h
  · replace h := ifF h c1
    refine A_aload_n X 0 rfl rfl dX6_addWho_9 ?_
    refine A_getR X fg_X6_addWho_9 (shNet ht) (k := 0) rfl (by decide) dX6_addWho_10 ?_
    refine A_aload_n X 0 rfl rfl dX6_addWho_13 ?_
    refine A_getI X fg_X6_addWho_60 (shNet ht) (k := 15) rfl (by decide) dX6_addWho_14 ?_
    refine A_iload_n X 1 rfl rfl dX6_addWho_17 ?_
    obtain ⟨g2, h⟩ := gdD h
    refine A_iast X g2 (shNet_names ht) dX6_addWho_18 (fun s3 hy => ?_)
    replace h := ltD h s3 hy
    clear hy
    refine A_aload_n X 0 rfl rfl dX6_addWho_19 ?_
    refine A_getR X fg_X6_addWho_15 (shNet ht) (k := 1) rfl (by decide) dX6_addWho_20 ?_
    refine A_aload_n X 0 rfl rfl dX6_addWho_23 ?_
    refine A_getI X fg_X6_addWho_60 (shNet ht) (k := 15) rfl (by decide) dX6_addWho_24 ?_
    refine A_iload_n X 2 rfl rfl dX6_addWho_27 ?_
    obtain ⟨g4, h⟩ := gdD h
    refine A_iast X g4 (shNet_alone ht) dX6_addWho_28 (fun s5 hy => ?_)
    replace h := ltD h s5 hy
    clear hy
    refine A_aload_n X 0 rfl rfl dX6_addWho_29 ?_
    refine A_dup X (by show ¬ (2 : Nat) = 1; decide) dX6_addWho_30 ?_
    refine A_getI X fg_X6_addWho_60 (shNet ht) (k := 15) rfl (by decide) dX6_addWho_31 ?_
    refine A_iconst X dX6_addWho_34 (z := 1) (by decide) ?_
    refine A_iadd X dX6_addWho_35 ?_
    refine A_putI X fp_X6_addWho_60 (shNet ht) (k := 15) rfl (by decide) dX6_addWho_36 (fun s6 hy => ?_)
    replace h := ltD h s6 hy
    clear hy
    refine A_sub [] rfl (L' := []) rfl ?_
    exact w_X6_addWho_39 (this := this) (a1 := a1) (a2 := a2) X E ht s6 h
abbrev rm_X6_beginRoad : Room := { frames := 0, cells := 0, slots := 0, locals := 0 }
theorem in_X6_beginRoad_6 : ∀ w ∈ u_ws RX6 TX6 20, w ∈ wsX6_beginRoad := fun w h => List.mem_cons_of_mem _ (List.mem_append_right _ h)
theorem fg_X6_beginRoad_64 : aFl wsX6_beginRoad RX6 64 6 16 := ⟨RX6, TX6, 20, rfl, in_X6_beginRoad_6, by decide, (List.mem_of_getElem? (i := 1) rfl), rfl⟩
theorem fg_X6_beginRoad_18 : aFl wsX6_beginRoad RX6 18 6 2 := ⟨RX6, TX6, 20, rfl, in_X6_beginRoad_6, by decide, (List.mem_of_getElem? (i := 2) rfl), rfl⟩
theorem fg_X6_beginRoad_21 : aFl wsX6_beginRoad RX6 21 6 3 := ⟨RX6, TX6, 20, rfl, in_X6_beginRoad_6, by decide, (List.mem_of_getElem? (i := 3) rfl), rfl⟩
set_option maxRecDepth 100000 in
set_option maxHeartbeats 4000000 in
theorem w_X6_beginRoad_29 {x : aC} {r : Int × Hp} {this : Nat} {a1 : Int} {a2 : Int} (X : aX x cX6_beginRoad wsX6_beginRoad RX6 3 rm_X6_beginRoad) (E : aE x shC none 3 r) (ht : isNet this) (σ : Hp) (h : F_Net_beginRoad_29 this a1 a2 σ = some r) : aS x shC 3 29 [] [] σ := by
  unfold F_Net_beginRoad_29 at h
  exact A_return X E h dX6_beginRoad_29
set_option maxRecDepth 100000 in
set_option maxHeartbeats 4000000 in
theorem m_X6_beginRoad {l : Launch} {g : aG} {this : Nat} {a1 : Int} {a2 : Int} {σ : Hp} {r : Int × Hp} (h : F_Net_beginRoad this a1 a2 σ = some r) : aMet l g shC yX6_beginRoad wsX6_beginRoad rm_X6_beginRoad [vR this, vI a1, vI a2] σ 3 r := by
  unfold F_Net_beginRoad at h
  obtain ⟨ht, h⟩ := gdD h
  refine aMet_of (bytes := cX6_beginRoad) (maxL := 3) (ret := none) (by decide +kernel) rfl (Nat.le_of_ble_eq_true rfl) ⟨rfl, rfl⟩ (fun x e1 e2 X E => ?_)
  subst e1; subst e2
  have X : aX x cX6_beginRoad wsX6_beginRoad RX6 3 rm_X6_beginRoad := X
  show aS x shC 3 0 [(0, vR this), (1, vI a1), (2, vI a2)] [] σ
  refine A_aload_n X 0 rfl rfl dX6_beginRoad_0 ?_
  refine A_getI X fg_X6_beginRoad_64 (shNet ht) (k := 16) rfl (by decide) dX6_beginRoad_1 ?_
  refine A_bipush X dX6_beginRoad_4 (z := 30) (by decide) ?_
  refine A_icmp_ge X (tgt := 29) (by decide) dX6_beginRoad_6 (fun c1 => ?_) (fun c1 => ?_)
  · replace h := ifT h c1
    refine A_sub [] rfl (L' := []) rfl ?_
    exact w_X6_beginRoad_29 (this := this) (a1 := a1) (a2 := a2) X E ht σ h
  · replace h := ifF h c1
    refine A_aload_n X 0 rfl rfl dX6_beginRoad_9 ?_
    refine A_getR X fg_X6_beginRoad_18 (shNet ht) (k := 2) rfl (by decide) dX6_beginRoad_10 ?_
    refine A_aload_n X 0 rfl rfl dX6_beginRoad_13 ?_
    refine A_getI X fg_X6_beginRoad_64 (shNet ht) (k := 16) rfl (by decide) dX6_beginRoad_14 ?_
    refine A_iload_n X 1 rfl rfl dX6_beginRoad_17 ?_
    obtain ⟨g2, h⟩ := gdD h
    refine A_iast X g2 (shNet_first ht) dX6_beginRoad_18 (fun s3 hy => ?_)
    replace h := ltD h s3 hy
    clear hy
    refine A_aload_n X 0 rfl rfl dX6_beginRoad_19 ?_
    refine A_getR X fg_X6_beginRoad_21 (shNet ht) (k := 3) rfl (by decide) dX6_beginRoad_20 ?_
    refine A_aload_n X 0 rfl rfl dX6_beginRoad_23 ?_
    refine A_getI X fg_X6_beginRoad_64 (shNet ht) (k := 16) rfl (by decide) dX6_beginRoad_24 ?_
    refine A_iload_n X 2 rfl rfl dX6_beginRoad_27 ?_
    obtain ⟨g4, h⟩ := gdD h
    refine A_iast X g4 (shNet_second ht) dX6_beginRoad_28 (fun s5 hy => ?_)
    replace h := ltD h s5 hy
    clear hy
    refine A_sub [] rfl (L' := []) rfl ?_
    exact w_X6_beginRoad_29 (this := this) (a1 := a1) (a2 := a2) X E ht s5 h
abbrev rm_X6_emit : Room := { frames := 0, cells := 0, slots := 0, locals := 0 }
theorem in_X6_emit_6 : ∀ w ∈ u_ws RX6 TX6 20, w ∈ wsX6_emit := fun w h => List.mem_cons_of_mem _ (List.mem_append_right _ h)
theorem fg_X6_emit_76 : aFl wsX6_emit RX6 76 6 14 := ⟨RX6, TX6, 20, rfl, in_X6_emit_6, by decide, (List.mem_of_getElem? (i := 1) rfl), rfl⟩
theorem fg_X6_emit_48 : aFl wsX6_emit RX6 48 6 11 := ⟨RX6, TX6, 20, rfl, in_X6_emit_6, by decide, (List.mem_of_getElem? (i := 2) rfl), rfl⟩
theorem fp_X6_emit_76 : aFp wsX6_emit RX6 76 6 14 .int := ⟨RX6, TX6, 20, tyX6, rfl, in_X6_emit_6, by decide, (List.mem_of_getElem? (i := 1) rfl), rfl, tyX6_ok, nmX6, rfl, rfl⟩
set_option maxRecDepth 100000 in
set_option maxHeartbeats 4000000 in
theorem w_X6_emit_30 {x : aC} {r : Int × Hp} {this : Nat} {a1 : Int} (X : aX x cX6_emit wsX6_emit RX6 2 rm_X6_emit) (E : aE x shC none 3 r) (ht : isNet this) (σ : Hp) (h : F_Net_emit_30 this a1 σ = some r) : aS x shC 2 30 [] [] σ := by
  unfold F_Net_emit_30 at h
  exact A_return X E h dX6_emit_30
set_option maxRecDepth 100000 in
set_option maxHeartbeats 4000000 in
theorem m_X6_emit {l : Launch} {g : aG} {this : Nat} {a1 : Int} {σ : Hp} {r : Int × Hp} (h : F_Net_emit this a1 σ = some r) : aMet l g shC yX6_emit wsX6_emit rm_X6_emit [vR this, vI a1] σ 3 r := by
  unfold F_Net_emit at h
  obtain ⟨ht, h⟩ := gdD h
  refine aMet_of (bytes := cX6_emit) (maxL := 2) (ret := none) (by decide +kernel) rfl (Nat.le_of_ble_eq_true rfl) ⟨rfl, rfl⟩ (fun x e1 e2 X E => ?_)
  subst e1; subst e2
  have X : aX x cX6_emit wsX6_emit RX6 2 rm_X6_emit := X
  show aS x shC 2 0 [(0, vR this), (1, vI a1)] [] σ
  refine A_aload_n X 0 rfl rfl dX6_emit_0 ?_
  refine A_getI X fg_X6_emit_76 (shNet ht) (k := 14) rfl (by decide) dX6_emit_1 ?_
  refine A_sipush X dX6_emit_4 (z := 900) (by decide) ?_
  refine A_icmp_ge X (tgt := 30) (by decide) dX6_emit_7 (fun c1 => ?_) (fun c1 => ?_)
  · replace h := ifT h c1
    refine A_sub [] rfl (L' := []) rfl ?_
    exact w_X6_emit_30 (this := this) (a1 := a1) X E ht σ h
  · replace h := ifF h c1
    refine A_aload_n X 0 rfl rfl dX6_emit_10 ?_
    refine A_getR X fg_X6_emit_48 (shNet ht) (k := 11) rfl (by decide) dX6_emit_11 ?_
    refine A_aload_n X 0 rfl rfl dX6_emit_14 ?_
    refine A_getI X fg_X6_emit_76 (shNet ht) (k := 14) rfl (by decide) dX6_emit_15 ?_
    refine A_iload_n X 1 rfl rfl dX6_emit_18 ?_
    obtain ⟨g2, h⟩ := gdD h
    refine A_iast X g2 (shNet_code ht) dX6_emit_19 (fun s3 hy => ?_)
    replace h := ltD h s3 hy
    clear hy
    refine A_aload_n X 0 rfl rfl dX6_emit_20 ?_
    refine A_dup X (by show ¬ (2 : Nat) = 1; decide) dX6_emit_21 ?_
    refine A_getI X fg_X6_emit_76 (shNet ht) (k := 14) rfl (by decide) dX6_emit_22 ?_
    refine A_iconst X dX6_emit_25 (z := 1) (by decide) ?_
    refine A_iadd X dX6_emit_26 ?_
    refine A_putI X fp_X6_emit_76 (shNet ht) (k := 14) rfl (by decide) dX6_emit_27 (fun s4 hy => ?_)
    replace h := ltD h s4 hy
    clear hy
    refine A_sub [] rfl (L' := []) rfl ?_
    exact w_X6_emit_30 (this := this) (a1 := a1) X E ht s4 h
abbrev rm_X6_endRoad : Room := { frames := 0, cells := 0, slots := 0, locals := 0 }
theorem in_X6_endRoad_6 : ∀ w ∈ u_ws RX6 TX6 20, w ∈ wsX6_endRoad := fun w h => List.mem_cons_of_mem _ (List.mem_append_right _ h)
theorem fg_X6_endRoad_64 : aFl wsX6_endRoad RX6 64 6 16 := ⟨RX6, TX6, 20, rfl, in_X6_endRoad_6, by decide, (List.mem_of_getElem? (i := 1) rfl), rfl⟩
theorem fg_X6_endRoad_27 : aFl wsX6_endRoad RX6 27 6 5 := ⟨RX6, TX6, 20, rfl, in_X6_endRoad_6, by decide, (List.mem_of_getElem? (i := 2) rfl), rfl⟩
theorem fg_X6_endRoad_30 : aFl wsX6_endRoad RX6 30 6 6 := ⟨RX6, TX6, 20, rfl, in_X6_endRoad_6, by decide, (List.mem_of_getElem? (i := 3) rfl), rfl⟩
theorem fg_X6_endRoad_33 : aFl wsX6_endRoad RX6 33 6 7 := ⟨RX6, TX6, 20, rfl, in_X6_endRoad_6, by decide, (List.mem_of_getElem? (i := 4) rfl), rfl⟩
theorem fg_X6_endRoad_76 : aFl wsX6_endRoad RX6 76 6 14 := ⟨RX6, TX6, 20, rfl, in_X6_endRoad_6, by decide, (List.mem_of_getElem? (i := 5) rfl), rfl⟩
theorem fg_X6_endRoad_38 : aFl wsX6_endRoad RX6 38 6 8 := ⟨RX6, TX6, 20, rfl, in_X6_endRoad_6, by decide, (List.mem_of_getElem? (i := 6) rfl), rfl⟩
theorem fg_X6_endRoad_18 : aFl wsX6_endRoad RX6 18 6 2 := ⟨RX6, TX6, 20, rfl, in_X6_endRoad_6, by decide, (List.mem_of_getElem? (i := 7) rfl), rfl⟩
theorem fg_X6_endRoad_21 : aFl wsX6_endRoad RX6 21 6 3 := ⟨RX6, TX6, 20, rfl, in_X6_endRoad_6, by decide, (List.mem_of_getElem? (i := 8) rfl), rfl⟩
theorem fp_X6_endRoad_64 : aFp wsX6_endRoad RX6 64 6 16 .int := ⟨RX6, TX6, 20, tyX6, rfl, in_X6_endRoad_6, by decide, (List.mem_of_getElem? (i := 1) rfl), rfl, tyX6_ok, nmX6, rfl, rfl⟩
set_option maxRecDepth 100000 in
set_option maxHeartbeats 4000000 in
theorem w_X6_endRoad_108 {x : aC} {r : Int × Hp} {this : Nat} {a1 : Int} {a2 : Int} (X : aX x cX6_endRoad wsX6_endRoad RX6 3 rm_X6_endRoad) (E : aE x shC none 3 r) (ht : isNet this) (σ : Hp) (h : F_Net_endRoad_108 this a1 a2 σ = some r) : aS x shC 3 108 [] [] σ := by
  unfold F_Net_endRoad_108 at h
  exact A_return X E h dX6_endRoad_108
set_option maxRecDepth 100000 in
set_option maxHeartbeats 4000000 in
theorem m_X6_endRoad {l : Launch} {g : aG} {this : Nat} {a1 : Int} {a2 : Int} {σ : Hp} {r : Int × Hp} (h : F_Net_endRoad this a1 a2 σ = some r) : aMet l g shC yX6_endRoad wsX6_endRoad rm_X6_endRoad [vR this, vI a1, vI a2] σ 3 r := by
  unfold F_Net_endRoad at h
  obtain ⟨ht, h⟩ := gdD h
  refine aMet_of (bytes := cX6_endRoad) (maxL := 3) (ret := none) (by decide +kernel) rfl (Nat.le_of_ble_eq_true rfl) ⟨rfl, rfl⟩ (fun x e1 e2 X E => ?_)
  subst e1; subst e2
  have X : aX x cX6_endRoad wsX6_endRoad RX6 3 rm_X6_endRoad := X
  show aS x shC 3 0 [(0, vR this), (1, vI a1), (2, vI a2)] [] σ
  refine A_aload_n X 0 rfl rfl dX6_endRoad_0 ?_
  refine A_getI X fg_X6_endRoad_64 (shNet ht) (k := 16) rfl (by decide) dX6_endRoad_1 ?_
  refine A_bipush X dX6_endRoad_4 (z := 30) (by decide) ?_
  refine A_icmp_ge X (tgt := 108) (by decide) dX6_endRoad_6 (fun c1 => ?_) (fun c1 => ?_)
  · replace h := ifT h c1
    refine A_sub [] rfl (L' := []) rfl ?_
    exact w_X6_endRoad_108 (this := this) (a1 := a1) (a2 := a2) X E ht σ h
  · replace h := ifF h c1
    refine A_aload_n X 0 rfl rfl dX6_endRoad_9 ?_
    refine A_getR X fg_X6_endRoad_27 (shNet ht) (k := 5) rfl (by decide) dX6_endRoad_10 ?_
    refine A_aload_n X 0 rfl rfl dX6_endRoad_13 ?_
    refine A_getI X fg_X6_endRoad_64 (shNet ht) (k := 16) rfl (by decide) dX6_endRoad_14 ?_
    refine A_iload_n X 1 rfl rfl dX6_endRoad_17 ?_
    obtain ⟨g2, h⟩ := gdD h
    refine A_iast X g2 (shNet_sumFrom ht) dX6_endRoad_18 (fun s3 hy => ?_)
    replace h := ltD h s3 hy
    clear hy
    refine A_aload_n X 0 rfl rfl dX6_endRoad_19 ?_
    refine A_getR X fg_X6_endRoad_30 (shNet ht) (k := 6) rfl (by decide) dX6_endRoad_20 ?_
    refine A_aload_n X 0 rfl rfl dX6_endRoad_23 ?_
    refine A_getI X fg_X6_endRoad_64 (shNet ht) (k := 16) rfl (by decide) dX6_endRoad_24 ?_
    refine A_iload_n X 2 rfl rfl dX6_endRoad_27 ?_
    obtain ⟨g4, h⟩ := gdD h
    refine A_iast X g4 (shNet_testFrom ht) dX6_endRoad_28 (fun s5 hy => ?_)
    replace h := ltD h s5 hy
    clear hy
    refine A_aload_n X 0 rfl rfl dX6_endRoad_29 ?_
    refine A_getR X fg_X6_endRoad_33 (shNet ht) (k := 7) rfl (by decide) dX6_endRoad_30 ?_
    refine A_aload_n X 0 rfl rfl dX6_endRoad_33 ?_
    refine A_getI X fg_X6_endRoad_64 (shNet ht) (k := 16) rfl (by decide) dX6_endRoad_34 ?_
    refine A_aload_n X 0 rfl rfl dX6_endRoad_37 ?_
    refine A_getI X fg_X6_endRoad_76 (shNet ht) (k := 14) rfl (by decide) dX6_endRoad_38 ?_
    obtain ⟨g6, h⟩ := gdD h
    refine A_iast X g6 (shNet_testTo ht) dX6_endRoad_41 (fun s7 hy => ?_)
    replace h := ltD h s7 hy
    clear hy
    refine A_aload_n X 0 rfl rfl dX6_endRoad_42 ?_
    refine A_getR X fg_X6_endRoad_38 (shNet ht) (k := 8) rfl (by decide) dX6_endRoad_43 ?_
    refine A_aload_n X 0 rfl rfl dX6_endRoad_46 ?_
    refine A_getR X fg_X6_endRoad_18 (shNet ht) (k := 2) rfl (by decide) dX6_endRoad_47 ?_
    refine A_aload_n X 0 rfl rfl dX6_endRoad_50 ?_
    refine A_getI X fg_X6_endRoad_64 (shNet ht) (k := 16) rfl (by decide) dX6_endRoad_51 ?_
    obtain ⟨g8, h⟩ := gdD h
    refine A_iald X g8 (shNet_first ht) dX6_endRoad_54 ?_
    obtain ⟨g9, h⟩ := gdD h
    refine A_aald X g9 (shNet_roadOf ht) dX6_endRoad_55 ?_
    refine A_aload_n X 0 rfl rfl dX6_endRoad_56 ?_
    refine A_getR X fg_X6_endRoad_21 (shNet ht) (k := 3) rfl (by decide) dX6_endRoad_57 ?_
    refine A_aload_n X 0 rfl rfl dX6_endRoad_60 ?_
    refine A_getI X fg_X6_endRoad_64 (shNet ht) (k := 16) rfl (by decide) dX6_endRoad_61 ?_
    obtain ⟨g10, h⟩ := gdD h
    refine A_iald X g10 (shNet_second ht) dX6_endRoad_64 ?_
    refine A_aload_n X 0 rfl rfl dX6_endRoad_65 ?_
    refine A_getI X fg_X6_endRoad_64 (shNet ht) (k := 16) rfl (by decide) dX6_endRoad_66 ?_
    obtain ⟨g11, h⟩ := gdD h
    refine A_iast X g11 (shNet_roadOf_r ht g9) dX6_endRoad_69 (fun s12 hy => ?_)
    replace h := ltD h s12 hy
    clear hy
    refine A_aload_n X 0 rfl rfl dX6_endRoad_70 ?_
    refine A_getR X fg_X6_endRoad_38 (shNet ht) (k := 8) rfl (by decide) dX6_endRoad_71 ?_
    refine A_aload_n X 0 rfl rfl dX6_endRoad_74 ?_
    refine A_getR X fg_X6_endRoad_21 (shNet ht) (k := 3) rfl (by decide) dX6_endRoad_75 ?_
    refine A_aload_n X 0 rfl rfl dX6_endRoad_78 ?_
    refine A_getI X fg_X6_endRoad_64 (shNet ht) (k := 16) rfl (by decide) dX6_endRoad_79 ?_
    obtain ⟨g13, h⟩ := gdD h
    refine A_iald X g13 (shNet_second ht) dX6_endRoad_82 ?_
    obtain ⟨g14, h⟩ := gdD h
    refine A_aald X g14 (shNet_roadOf ht) dX6_endRoad_83 ?_
    refine A_aload_n X 0 rfl rfl dX6_endRoad_84 ?_
    refine A_getR X fg_X6_endRoad_18 (shNet ht) (k := 2) rfl (by decide) dX6_endRoad_85 ?_
    refine A_aload_n X 0 rfl rfl dX6_endRoad_88 ?_
    refine A_getI X fg_X6_endRoad_64 (shNet ht) (k := 16) rfl (by decide) dX6_endRoad_89 ?_
    obtain ⟨g15, h⟩ := gdD h
    refine A_iald X g15 (shNet_first ht) dX6_endRoad_92 ?_
    refine A_aload_n X 0 rfl rfl dX6_endRoad_93 ?_
    refine A_getI X fg_X6_endRoad_64 (shNet ht) (k := 16) rfl (by decide) dX6_endRoad_94 ?_
    obtain ⟨g16, h⟩ := gdD h
    refine A_iast X g16 (shNet_roadOf_r ht g14) dX6_endRoad_97 (fun s17 hy => ?_)
    replace h := ltD h s17 hy
    clear hy
    refine A_aload_n X 0 rfl rfl dX6_endRoad_98 ?_
    refine A_dup X (by show ¬ (2 : Nat) = 1; decide) dX6_endRoad_99 ?_
    refine A_getI X fg_X6_endRoad_64 (shNet ht) (k := 16) rfl (by decide) dX6_endRoad_100 ?_
    refine A_iconst X dX6_endRoad_103 (z := 1) (by decide) ?_
    refine A_iadd X dX6_endRoad_104 ?_
    refine A_putI X fp_X6_endRoad_64 (shNet ht) (k := 16) rfl (by decide) dX6_endRoad_105 (fun s18 hy => ?_)
    replace h := ltD h s18 hy
    clear hy
    refine A_sub [] rfl (L' := []) rfl ?_
    exact w_X6_endRoad_108 (this := this) (a1 := a1) (a2 := a2) X E ht s18 h
abbrev rm_X6_addTaste : Room := { frames := 0, cells := 0, slots := 0, locals := 0 }
theorem in_X6_addTaste_6 : ∀ w ∈ u_ws RX6 TX6 20, w ∈ wsX6_addTaste := fun w h => List.mem_cons_of_mem _ (List.mem_append_right _ h)
theorem fg_X6_addTaste_41 : aFl wsX6_addTaste RX6 41 6 9 := ⟨RX6, TX6, 20, rfl, in_X6_addTaste_6, by decide, (List.mem_of_getElem? (i := 1) rfl), rfl⟩
theorem fg_X6_addTaste_44 : aFl wsX6_addTaste RX6 44 6 10 := ⟨RX6, TX6, 20, rfl, in_X6_addTaste_6, by decide, (List.mem_of_getElem? (i := 2) rfl), rfl⟩
theorem fg_X6_addTaste_67 : aFl wsX6_addTaste RX6 67 6 17 := ⟨RX6, TX6, 20, rfl, in_X6_addTaste_6, by decide, (List.mem_of_getElem? (i := 3) rfl), rfl⟩
theorem fp_X6_addTaste_67 : aFp wsX6_addTaste RX6 67 6 17 .int := ⟨RX6, TX6, 20, tyX6, rfl, in_X6_addTaste_6, by decide, (List.mem_of_getElem? (i := 3) rfl), rfl, tyX6_ok, nmX6, rfl, rfl⟩
set_option maxRecDepth 100000 in
set_option maxHeartbeats 4000000 in
theorem m_X6_addTaste {l : Launch} {g : aG} {this : Nat} {a1 : Int} {a2 : Int} {a3 : Int} {σ : Hp} {r : Int × Hp} (h : F_Net_addTaste this a1 a2 a3 σ = some r) : aMet l g shC yX6_addTaste wsX6_addTaste rm_X6_addTaste [vR this, vI a1, vI a2, vI a3] σ 3 r := by
  unfold F_Net_addTaste at h
  obtain ⟨ht, h⟩ := gdD h
  refine aMet_of (bytes := cX6_addTaste) (maxL := 4) (ret := none) (by decide +kernel) rfl (Nat.le_of_ble_eq_true rfl) ⟨rfl, rfl⟩ (fun x e1 e2 X E => ?_)
  subst e1; subst e2
  have X : aX x cX6_addTaste wsX6_addTaste RX6 4 rm_X6_addTaste := X
  show aS x shC 4 0 [(0, vR this), (1, vI a1), (2, vI a2), (3, vI a3)] [] σ
  refine A_aload_n X 0 rfl rfl dX6_addTaste_0 ?_
  refine A_getR X fg_X6_addTaste_41 (shNet ht) (k := 9) rfl (by decide) dX6_addTaste_1 ?_
  refine A_iload_n X 1 rfl rfl dX6_addTaste_4 ?_
  obtain ⟨g1, h⟩ := gdD h
  refine A_aald X g1 (shNet_taste ht) dX6_addTaste_5 ?_
  refine A_iload_n X 2 rfl rfl dX6_addTaste_6 ?_
  refine A_iload_n X 3 rfl rfl dX6_addTaste_7 ?_
  obtain ⟨g2, h⟩ := gdD h
  refine A_iast X g2 (shNet_taste_r ht g1) dX6_addTaste_8 (fun s3 hy => ?_)
  replace h := ltD h s3 hy
  clear hy
  refine A_aload_n X 0 rfl rfl dX6_addTaste_9 ?_
  refine A_getR X fg_X6_addTaste_44 (shNet ht) (k := 10) rfl (by decide) dX6_addTaste_10 ?_
  refine A_iload_n X 1 rfl rfl dX6_addTaste_13 ?_
  refine A_bipush X dX6_addTaste_14 (z := 12) (by decide) ?_
  refine A_imul X dX6_addTaste_16 ?_
  refine A_iload_n X 2 rfl rfl dX6_addTaste_17 ?_
  refine A_iadd X dX6_addTaste_18 ?_
  refine A_iconst X dX6_addTaste_19 (z := 1) (by decide) ?_
  obtain ⟨g4, h⟩ := gdD h
  refine A_zast X g4 (shNet_tasteTold ht) dX6_addTaste_20 (fun s5 hy => ?_)
  replace h := ltD h s5 hy
  clear hy
  refine A_aload_n X 0 rfl rfl dX6_addTaste_21 ?_
  refine A_dup X (by show ¬ (2 : Nat) = 1; decide) dX6_addTaste_22 ?_
  refine A_getI X fg_X6_addTaste_67 (shNet ht) (k := 17) rfl (by decide) dX6_addTaste_23 ?_
  refine A_iconst X dX6_addTaste_26 (z := 1) (by decide) ?_
  refine A_iadd X dX6_addTaste_27 ?_
  refine A_putI X fp_X6_addTaste_67 (shNet ht) (k := 17) rfl (by decide) dX6_addTaste_28 (fun s6 hy => ?_)
  replace h := ltD h s6 hy
  clear hy
  exact A_return X E h dX6_addTaste_31
abbrev rm_X6_addDoubt : Room := { frames := 0, cells := 0, slots := 0, locals := 0 }
theorem in_X6_addDoubt_6 : ∀ w ∈ u_ws RX6 TX6 20, w ∈ wsX6_addDoubt := fun w h => List.mem_cons_of_mem _ (List.mem_append_right _ h)
theorem fg_X6_addDoubt_38 : aFl wsX6_addDoubt RX6 38 6 8 := ⟨RX6, TX6, 20, rfl, in_X6_addDoubt_6, by decide, (List.mem_of_getElem? (i := 1) rfl), rfl⟩
theorem fg_X6_addDoubt_24 : aFl wsX6_addDoubt RX6 24 6 4 := ⟨RX6, TX6, 20, rfl, in_X6_addDoubt_6, by decide, (List.mem_of_getElem? (i := 2) rfl), rfl⟩
theorem fg_X6_addDoubt_70 : aFl wsX6_addDoubt RX6 70 6 18 := ⟨RX6, TX6, 20, rfl, in_X6_addDoubt_6, by decide, (List.mem_of_getElem? (i := 3) rfl), rfl⟩
theorem fp_X6_addDoubt_70 : aFp wsX6_addDoubt RX6 70 6 18 .int := ⟨RX6, TX6, 20, tyX6, rfl, in_X6_addDoubt_6, by decide, (List.mem_of_getElem? (i := 3) rfl), rfl, tyX6_ok, nmX6, rfl, rfl⟩
set_option maxRecDepth 100000 in
set_option maxHeartbeats 4000000 in
theorem w_X6_addDoubt_34 {x : aC} {r : Int × Hp} {this : Nat} {a1 : Int} {a2 : Int} {a3 : Int} (X : aX x cX6_addDoubt wsX6_addDoubt RX6 5 rm_X6_addDoubt) (E : aE x shC none 3 r) (ht : isNet this) (σ : Hp) (h : F_Net_addDoubt_34 this a1 a2 a3 σ = some r) : aS x shC 5 34 [] [] σ := by
  unfold F_Net_addDoubt_34 at h
  exact A_return X E h dX6_addDoubt_34
set_option maxRecDepth 100000 in
set_option maxHeartbeats 4000000 in
theorem m_X6_addDoubt {l : Launch} {g : aG} {this : Nat} {a1 : Int} {a2 : Int} {a3 : Int} {σ : Hp} {r : Int × Hp} (h : F_Net_addDoubt this a1 a2 a3 σ = some r) : aMet l g shC yX6_addDoubt wsX6_addDoubt rm_X6_addDoubt [vR this, vI a1, vI a2, vI a3] σ 3 r := by
  unfold F_Net_addDoubt at h
  obtain ⟨ht, h⟩ := gdD h
  refine aMet_of (bytes := cX6_addDoubt) (maxL := 5) (ret := none) (by decide +kernel) rfl (Nat.le_of_ble_eq_true rfl) ⟨rfl, rfl⟩ (fun x e1 e2 X E => ?_)
  subst e1; subst e2
  have X : aX x cX6_addDoubt wsX6_addDoubt RX6 5 rm_X6_addDoubt := X
  show aS x shC 5 0 [(0, vR this), (1, vI a1), (2, vI a2), (3, vI a3)] [] σ
  refine A_aload_n X 0 rfl rfl dX6_addDoubt_0 ?_
  refine A_getR X fg_X6_addDoubt_38 (shNet ht) (k := 8) rfl (by decide) dX6_addDoubt_1 ?_
  refine A_iload_n X 1 rfl rfl dX6_addDoubt_4 ?_
  obtain ⟨g1, h⟩ := gdD h
  refine A_aald X g1 (shNet_roadOf ht) dX6_addDoubt_5 ?_
  refine A_iload_n X 2 rfl rfl dX6_addDoubt_6 ?_
  obtain ⟨g2, h⟩ := gdD h
  refine A_iald X g2 (shNet_roadOf_r ht g1) dX6_addDoubt_7 ?_
  refine A_istoreN X (L' := fun y4_3 => [(4, vI y4_3), (0, vR this), (1, vI a1), (2, vI a2), (3, vI a3)]) (by decide) (fun _ => rfl) dX6_addDoubt_8 (fun y4_3 hy => ?_)
  replace h := ltD h y4_3 hy
  clear hy
  refine A_iload X 0 rfl dX6_addDoubt_10 ?_
  refine A_iconst X dX6_addDoubt_12 (z := (-1)) (by decide) ?_
  refine A_icmp_eq X (tgt := 34) (by decide) dX6_addDoubt_13 (fun c4 => ?_) (fun c4 => ?_)
  · replace h := ifT h c4
    refine A_sub [] rfl (L' := []) rfl ?_
    exact w_X6_addDoubt_34 (this := this) (a1 := a1) (a2 := a2) (a3 := a3) X E ht σ h
  · replace h := ifF h c4
    refine A_aload_n X 1 rfl rfl dX6_addDoubt_16 ?_
    refine A_getR X fg_X6_addDoubt_24 (shNet ht) (k := 4) rfl (by decide) dX6_addDoubt_17 ?_
    refine A_iload X 0 rfl dX6_addDoubt_20 ?_
    refine A_iload_n X 4 rfl rfl dX6_addDoubt_22 ?_
    obtain ⟨g5, h⟩ := gdD h
    refine A_iast X g5 (shNet_doubt ht) dX6_addDoubt_23 (fun s6 hy => ?_)
    replace h := ltD h s6 hy
    clear hy
    refine A_aload_n X 1 rfl rfl dX6_addDoubt_24 ?_
    refine A_dup X (by show ¬ (2 : Nat) = 1; decide) dX6_addDoubt_25 ?_
    refine A_getI X fg_X6_addDoubt_70 (shNet ht) (k := 18) rfl (by decide) dX6_addDoubt_26 ?_
    refine A_iconst X dX6_addDoubt_29 (z := 1) (by decide) ?_
    refine A_iadd X dX6_addDoubt_30 ?_
    refine A_putI X fp_X6_addDoubt_70 (shNet ht) (k := 18) rfl (by decide) dX6_addDoubt_31 (fun s7 hy => ?_)
    replace h := ltD h s7 hy
    clear hy
    refine A_sub [] rfl (L' := []) rfl ?_
    exact w_X6_addDoubt_34 (this := this) (a1 := a1) (a2 := a2) (a3 := a3) X E ht s7 h
abbrev rm_X1_tighter : Room := { frames := 1, cells := 0, slots := 0, locals := 23 }
set_option maxRecDepth 100000 in
set_option maxHeartbeats 4000000 in
theorem w_X1_tighter_17 {x : aC} {r : Int × Hp} {a0 : Int} {a1 : Int} (X : aX x cX1_tighter wsX1_tighter RX1 2 rm_X1_tighter) (E : aE x shC (some .int) 0 r) (t1 : Int) (σ : Hp) (h : F_Bounds_tighter_17 a0 a1 t1 σ = some r) : aS x shC 2 17 [] [vI t1] σ := by
  unfold F_Bounds_tighter_17 at h
  exact A_ireturn X E h dX1_tighter_17
set_option maxRecDepth 100000 in
set_option maxHeartbeats 4000000 in
theorem m_X1_tighter {l : Launch} {g : aG} {a0 : Int} {a1 : Int} {σ : Hp} {r : Int × Hp} (h : F_Bounds_tighter a0 a1 σ = some r) : aMet l g shC yX1_tighter wsX1_tighter rm_X1_tighter [vI a0, vI a1] σ 0 r := by
  unfold F_Bounds_tighter at h
  refine aMet_of (bytes := cX1_tighter) (maxL := 2) (ret := (some .int)) (by decide +kernel) rfl (Nat.le_of_ble_eq_true rfl) ⟨rfl, rfl⟩ (fun x e1 e2 X E => ?_)
  subst e1; subst e2
  have X : aX x cX1_tighter wsX1_tighter RX1 2 rm_X1_tighter := X
  show aS x shC 2 0 [(0, vI a0), (1, vI a1)] [] σ
  refine A_iload_n X 0 rfl rfl dX1_tighter_0 ?_
  refine A_ldc X (v := (1000000000)) (List.mem_of_getElem? (i := 1) rfl) dX1_tighter_1 (z := 1000000000) (by decide) ?_
  refine A_icmp_ne X (tgt := 10) (by decide) dX1_tighter_3 (fun c1 => ?_) (fun c1 => ?_)
  · replace h := ifF h c1
    refine A_iconst X dX1_tighter_10 (z := 2) (by decide) ?_
    refine A_iload_n X 0 rfl rfl dX1_tighter_11 ?_
    refine A_imul X dX1_tighter_12 ?_
    refine A_iload_n X 1 rfl rfl dX1_tighter_13 ?_
    refine A_mmin X (List.mem_of_getElem? (i := 2) rfl) (List.mem_of_getElem? (i := 3) rfl) (List.mem_of_getElem? (i := 4) rfl) (List.mem_of_getElem? (i := 5) rfl) (Nat.le_of_ble_eq_true rfl) (Nat.le_of_ble_eq_true rfl) dX1_tighter_14 ?_
    refine A_sub [] rfl (L' := []) rfl ?_
    exact w_X1_tighter_17 (a0 := a0) (a1 := a1) X E (imin (imul 2 a0) a1) σ h
  · replace h := ifT h c1
    refine A_iload_n X 1 rfl rfl dX1_tighter_6 ?_
    refine A_goto X (tgt := 17) (by decide) dX1_tighter_7 ?_
    refine A_sub [] rfl (L' := []) rfl ?_
    exact w_X1_tighter_17 (a0 := a0) (a1 := a1) X E a1 σ h
abbrev rm_X1_twiceMostAhead : Room := { frames := 2, cells := 0, slots := 0, locals := 44 }
theorem in_X1_twiceMostAhead_1 : ∀ w ∈ u_ws RX1 TX1 2, w ∈ wsX1_twiceMostAhead := fun w h => List.mem_cons_of_mem _ (List.mem_append_right _ h)
theorem fg_X1_twiceMostAhead_11 : aFl wsX1_twiceMostAhead RX1 11 1 0 := ⟨RX1, TX1, 2, rfl, in_X1_twiceMostAhead_1, by decide, (List.mem_of_getElem? (i := 1) rfl), rfl⟩
set_option maxRecDepth 100000 in
set_option maxHeartbeats 4000000 in
theorem m_X1_twiceMostAhead {l : Launch} {g : aG} {this : Nat} {a1 : Int} {a2 : Int} {σ : Hp} {r : Int × Hp} (h : F_Bounds_twiceMostAhead this a1 a2 σ = some r) : aMet l g shC yX1_twiceMostAhead wsX1_twiceMostAhead rm_X1_twiceMostAhead [vR this, vI a1, vI a2] σ 0 r := by
  unfold F_Bounds_twiceMostAhead at h
  obtain ⟨ht, h⟩ := gdD h
  refine aMet_of (bytes := cX1_twiceMostAhead) (maxL := 3) (ret := (some .int)) (by decide +kernel) rfl (Nat.le_of_ble_eq_true rfl) ⟨rfl, rfl⟩ (fun x e1 e2 X E => ?_)
  subst e1; subst e2
  have X : aX x cX1_twiceMostAhead wsX1_twiceMostAhead RX1 3 rm_X1_twiceMostAhead := X
  show aS x shC 3 0 [(0, vR this), (1, vI a1), (2, vI a2)] [] σ
  refine A_aload_n X 0 rfl rfl dX1_twiceMostAhead_0 ?_
  refine A_getR X fg_X1_twiceMostAhead_11 (shBounds ht) (k := 0) rfl (by decide) dX1_twiceMostAhead_1 ?_
  refine A_iconst X dX1_twiceMostAhead_4 (z := 2) (by decide) ?_
  refine A_iload_n X 1 rfl rfl dX1_twiceMostAhead_5 ?_
  refine A_imul X dX1_twiceMostAhead_6 ?_
  obtain ⟨g1, h⟩ := gdD h
  refine A_aald X g1 (shBounds_bound ht) dX1_twiceMostAhead_7 ?_
  refine A_iconst X dX1_twiceMostAhead_8 (z := 2) (by decide) ?_
  refine A_iload_n X 2 rfl rfl dX1_twiceMostAhead_9 ?_
  refine A_imul X dX1_twiceMostAhead_10 ?_
  obtain ⟨g2, h⟩ := gdD h
  refine A_iald X g2 (shBounds_bound_r ht g1) dX1_twiceMostAhead_11 ?_
  refine A_aload_n X 0 rfl rfl dX1_twiceMostAhead_12 ?_
  refine A_iload_n X 1 rfl rfl dX1_twiceMostAhead_13 ?_
  obtain ⟨v3, s4, e5, h⟩ := clD h
  refine A_callV_I (na := 1) X (m_X1_twiceMost e5) gX1_twiceMostAhead_X1_twiceMost rfl ⟨rfl, rfl⟩ (by decide +kernel) rfl ⟨Nat.le_of_ble_eq_true rfl, Nat.le_of_ble_eq_true rfl⟩ (shBounds ht) (by decide) rfl rfl (Nat.le_of_ble_eq_true rfl) dX1_twiceMostAhead_14 ?_
  refine A_aload_n X 0 rfl rfl dX1_twiceMostAhead_17 ?_
  refine A_iload_n X 2 rfl rfl dX1_twiceMostAhead_18 ?_
  obtain ⟨v6, s7, e8, h⟩ := clD h
  refine A_callV_I (na := 1) X (m_X1_twiceLeast e8) gX1_twiceMostAhead_X1_twiceLeast rfl ⟨rfl, rfl⟩ (by decide +kernel) rfl ⟨Nat.le_of_ble_eq_true rfl, Nat.le_of_ble_eq_true rfl⟩ (shBounds ht) (by decide) rfl rfl (Nat.le_of_ble_eq_true rfl) dX1_twiceMostAhead_19 ?_
  refine A_isub X dX1_twiceMostAhead_22 ?_
  obtain ⟨v9, s10, e11, h⟩ := clD h
  refine A_callS_I (na := 2) X (m_X1_tighter e11) gX1_twiceMostAhead_X1_tighter rfl ⟨rfl, rfl⟩ (by decide +kernel) rfl ⟨Nat.le_of_ble_eq_true rfl, Nat.le_of_ble_eq_true rfl⟩ rfl (Nat.le_of_ble_eq_true rfl) dX1_twiceMostAhead_23 ?_
  exact A_ireturn X E h dX1_twiceMostAhead_26
abbrev rm_X1_twiceMostSum : Room := { frames := 2, cells := 0, slots := 0, locals := 44 }
theorem in_X1_twiceMostSum_1 : ∀ w ∈ u_ws RX1 TX1 2, w ∈ wsX1_twiceMostSum := fun w h => List.mem_cons_of_mem _ (List.mem_append_right _ h)
theorem fg_X1_twiceMostSum_11 : aFl wsX1_twiceMostSum RX1 11 1 0 := ⟨RX1, TX1, 2, rfl, in_X1_twiceMostSum_1, by decide, (List.mem_of_getElem? (i := 1) rfl), rfl⟩
set_option maxRecDepth 100000 in
set_option maxHeartbeats 4000000 in
theorem m_X1_twiceMostSum {l : Launch} {g : aG} {this : Nat} {a1 : Int} {a2 : Int} {σ : Hp} {r : Int × Hp} (h : F_Bounds_twiceMostSum this a1 a2 σ = some r) : aMet l g shC yX1_twiceMostSum wsX1_twiceMostSum rm_X1_twiceMostSum [vR this, vI a1, vI a2] σ 0 r := by
  unfold F_Bounds_twiceMostSum at h
  obtain ⟨ht, h⟩ := gdD h
  refine aMet_of (bytes := cX1_twiceMostSum) (maxL := 3) (ret := (some .int)) (by decide +kernel) rfl (Nat.le_of_ble_eq_true rfl) ⟨rfl, rfl⟩ (fun x e1 e2 X E => ?_)
  subst e1; subst e2
  have X : aX x cX1_twiceMostSum wsX1_twiceMostSum RX1 3 rm_X1_twiceMostSum := X
  show aS x shC 3 0 [(0, vR this), (1, vI a1), (2, vI a2)] [] σ
  refine A_aload_n X 0 rfl rfl dX1_twiceMostSum_0 ?_
  refine A_getR X fg_X1_twiceMostSum_11 (shBounds ht) (k := 0) rfl (by decide) dX1_twiceMostSum_1 ?_
  refine A_iconst X dX1_twiceMostSum_4 (z := 2) (by decide) ?_
  refine A_iload_n X 1 rfl rfl dX1_twiceMostSum_5 ?_
  refine A_imul X dX1_twiceMostSum_6 ?_
  obtain ⟨g1, h⟩ := gdD h
  refine A_aald X g1 (shBounds_bound ht) dX1_twiceMostSum_7 ?_
  refine A_iconst X dX1_twiceMostSum_8 (z := 2) (by decide) ?_
  refine A_iload_n X 2 rfl rfl dX1_twiceMostSum_9 ?_
  refine A_imul X dX1_twiceMostSum_10 ?_
  refine A_iconst X dX1_twiceMostSum_11 (z := 1) (by decide) ?_
  refine A_iadd X dX1_twiceMostSum_12 ?_
  obtain ⟨g2, h⟩ := gdD h
  refine A_iald X g2 (shBounds_bound_r ht g1) dX1_twiceMostSum_13 ?_
  refine A_aload_n X 0 rfl rfl dX1_twiceMostSum_14 ?_
  refine A_iload_n X 1 rfl rfl dX1_twiceMostSum_15 ?_
  obtain ⟨v3, s4, e5, h⟩ := clD h
  refine A_callV_I (na := 1) X (m_X1_twiceMost e5) gX1_twiceMostSum_X1_twiceMost rfl ⟨rfl, rfl⟩ (by decide +kernel) rfl ⟨Nat.le_of_ble_eq_true rfl, Nat.le_of_ble_eq_true rfl⟩ (shBounds ht) (by decide) rfl rfl (Nat.le_of_ble_eq_true rfl) dX1_twiceMostSum_16 ?_
  refine A_aload_n X 0 rfl rfl dX1_twiceMostSum_19 ?_
  refine A_iload_n X 2 rfl rfl dX1_twiceMostSum_20 ?_
  obtain ⟨v6, s7, e8, h⟩ := clD h
  refine A_callV_I (na := 1) X (m_X1_twiceMost e8) gX1_twiceMostSum_X1_twiceMost rfl ⟨rfl, rfl⟩ (by decide +kernel) rfl ⟨Nat.le_of_ble_eq_true rfl, Nat.le_of_ble_eq_true rfl⟩ (shBounds ht) (by decide) rfl rfl (Nat.le_of_ble_eq_true rfl) dX1_twiceMostSum_21 ?_
  refine A_iadd X dX1_twiceMostSum_24 ?_
  obtain ⟨v9, s10, e11, h⟩ := clD h
  refine A_callS_I (na := 2) X (m_X1_tighter e11) gX1_twiceMostSum_X1_tighter rfl ⟨rfl, rfl⟩ (by decide +kernel) rfl ⟨Nat.le_of_ble_eq_true rfl, Nat.le_of_ble_eq_true rfl⟩ rfl (Nat.le_of_ble_eq_true rfl) dX1_twiceMostSum_25 ?_
  exact A_ireturn X E h dX1_twiceMostSum_28
abbrev rm_X1_twiceLeastSum : Room := { frames := 2, cells := 0, slots := 0, locals := 44 }
theorem in_X1_twiceLeastSum_1 : ∀ w ∈ u_ws RX1 TX1 2, w ∈ wsX1_twiceLeastSum := fun w h => List.mem_cons_of_mem _ (List.mem_append_right _ h)
theorem fg_X1_twiceLeastSum_11 : aFl wsX1_twiceLeastSum RX1 11 1 0 := ⟨RX1, TX1, 2, rfl, in_X1_twiceLeastSum_1, by decide, (List.mem_of_getElem? (i := 1) rfl), rfl⟩
set_option maxRecDepth 100000 in
set_option maxHeartbeats 4000000 in
theorem m_X1_twiceLeastSum {l : Launch} {g : aG} {this : Nat} {a1 : Int} {a2 : Int} {σ : Hp} {r : Int × Hp} (h : F_Bounds_twiceLeastSum this a1 a2 σ = some r) : aMet l g shC yX1_twiceLeastSum wsX1_twiceLeastSum rm_X1_twiceLeastSum [vR this, vI a1, vI a2] σ 0 r := by
  unfold F_Bounds_twiceLeastSum at h
  obtain ⟨ht, h⟩ := gdD h
  refine aMet_of (bytes := cX1_twiceLeastSum) (maxL := 3) (ret := (some .int)) (by decide +kernel) rfl (Nat.le_of_ble_eq_true rfl) ⟨rfl, rfl⟩ (fun x e1 e2 X E => ?_)
  subst e1; subst e2
  have X : aX x cX1_twiceLeastSum wsX1_twiceLeastSum RX1 3 rm_X1_twiceLeastSum := X
  show aS x shC 3 0 [(0, vR this), (1, vI a1), (2, vI a2)] [] σ
  refine A_aload_n X 0 rfl rfl dX1_twiceLeastSum_0 ?_
  refine A_getR X fg_X1_twiceLeastSum_11 (shBounds ht) (k := 0) rfl (by decide) dX1_twiceLeastSum_1 ?_
  refine A_iconst X dX1_twiceLeastSum_4 (z := 2) (by decide) ?_
  refine A_iload_n X 1 rfl rfl dX1_twiceLeastSum_5 ?_
  refine A_imul X dX1_twiceLeastSum_6 ?_
  refine A_iconst X dX1_twiceLeastSum_7 (z := 1) (by decide) ?_
  refine A_iadd X dX1_twiceLeastSum_8 ?_
  obtain ⟨g1, h⟩ := gdD h
  refine A_aald X g1 (shBounds_bound ht) dX1_twiceLeastSum_9 ?_
  refine A_iconst X dX1_twiceLeastSum_10 (z := 2) (by decide) ?_
  refine A_iload_n X 2 rfl rfl dX1_twiceLeastSum_11 ?_
  refine A_imul X dX1_twiceLeastSum_12 ?_
  obtain ⟨g2, h⟩ := gdD h
  refine A_iald X g2 (shBounds_bound_r ht g1) dX1_twiceLeastSum_13 ?_
  refine A_aload_n X 0 rfl rfl dX1_twiceLeastSum_14 ?_
  refine A_iload_n X 1 rfl rfl dX1_twiceLeastSum_15 ?_
  obtain ⟨v3, s4, e5, h⟩ := clD h
  refine A_callV_I (na := 1) X (m_X1_twiceLeast e5) gX1_twiceLeastSum_X1_twiceLeast rfl ⟨rfl, rfl⟩ (by decide +kernel) rfl ⟨Nat.le_of_ble_eq_true rfl, Nat.le_of_ble_eq_true rfl⟩ (shBounds ht) (by decide) rfl rfl (Nat.le_of_ble_eq_true rfl) dX1_twiceLeastSum_16 ?_
  refine A_ineg X dX1_twiceLeastSum_19 ?_
  refine A_aload_n X 0 rfl rfl dX1_twiceLeastSum_20 ?_
  refine A_iload_n X 2 rfl rfl dX1_twiceLeastSum_21 ?_
  obtain ⟨v6, s7, e8, h⟩ := clD h
  refine A_callV_I (na := 1) X (m_X1_twiceLeast e8) gX1_twiceLeastSum_X1_twiceLeast rfl ⟨rfl, rfl⟩ (by decide +kernel) rfl ⟨Nat.le_of_ble_eq_true rfl, Nat.le_of_ble_eq_true rfl⟩ (shBounds ht) (by decide) rfl rfl (Nat.le_of_ble_eq_true rfl) dX1_twiceLeastSum_22 ?_
  refine A_isub X dX1_twiceLeastSum_25 ?_
  obtain ⟨v9, s10, e11, h⟩ := clD h
  refine A_callS_I (na := 2) X (m_X1_tighter e11) gX1_twiceLeastSum_X1_tighter rfl ⟨rfl, rfl⟩ (by decide +kernel) rfl ⟨Nat.le_of_ble_eq_true rfl, Nat.le_of_ble_eq_true rfl⟩ rfl (Nat.le_of_ble_eq_true rfl) dX1_twiceLeastSum_26 ?_
  refine A_ineg X dX1_twiceLeastSum_29 ?_
  exact A_ireturn X E h dX1_twiceLeastSum_30

