abbrev rm_X12_isTest : Room := { frames := 0, cells := 0, slots := 0, locals := 0 }
set_option maxRecDepth 100000 in
set_option maxHeartbeats 4000000 in
theorem w_X12_isTest_15 {x : aC} {r : Int × Hp} {a0 : Int} (X : aX x cX12_isTest wsX12_isTest RX12 1 rm_X12_isTest) (E : aE x shM (some .boolean) 0 r) (t1 : Int) (σ : Hp) (h : F_M_isTest_15 a0 t1 σ = some r) : aS x shM 1 15 [] [vI t1] σ := by
  unfold F_M_isTest_15 at h
  obtain ⟨g1, h⟩ := gdD h
  exact A_zreturn X g1 E h dX12_isTest_15
set_option maxRecDepth 100000 in
set_option maxHeartbeats 4000000 in
theorem w_X12_isTest_10 {x : aC} {r : Int × Hp} {a0 : Int} (X : aX x cX12_isTest wsX12_isTest RX12 1 rm_X12_isTest) (E : aE x shM (some .boolean) 0 r) (σ : Hp) (h : F_M_isTest_10 a0 σ = some r) : aS x shM 1 10 [] [] σ := by
  unfold F_M_isTest_10 at h
  refine A_iconst X dX12_isTest_10 (z := 1) (by decide) ?_
  refine A_goto X (tgt := 15) (by decide) dX12_isTest_11 ?_
  exact w_X12_isTest_15 (a0 := a0) X E 1 σ h
set_option maxRecDepth 100000 in
set_option maxHeartbeats 4000000 in
theorem m_X12_isTest {l : Launch} {g : aG} {a0 : Int} {σ : Hp} {r : Int × Hp} (h : F_M_isTest a0 σ = some r) : aMet l g shM yX12_isTest wsX12_isTest rm_X12_isTest [vI a0] σ 0 r := by
  unfold F_M_isTest at h
  refine aMet_of (bytes := cX12_isTest) (maxL := 1) (ret := (some .boolean)) (by decide +kernel) rfl (Nat.le_of_ble_eq_true rfl) ⟨rfl, rfl⟩ (fun x e1 e2 X E => ?_)
  subst e1; subst e2
  have X : aX x cX12_isTest wsX12_isTest RX12 1 rm_X12_isTest := X
  show aS x shM 1 0 [(0, vI a0)] [] σ
  refine A_iload_n X 0 rfl rfl dX12_isTest_0 ?_
  refine A_iconst X dX12_isTest_1 (z := 1) (by decide) ?_
  refine A_icmp_eq X (tgt := 10) (by decide) dX12_isTest_2 (fun c2 => ?_) (fun c2 => ?_)
  · replace h := ifT h c2
    refine A_sub [] rfl (L' := []) rfl ?_
    exact w_X12_isTest_10 (a0 := a0) X E σ h
  · replace h := ifF h c2
    refine A_iload_n X 0 rfl rfl dX12_isTest_5 ?_
    refine A_iconst X dX12_isTest_6 (z := 5) (by decide) ?_
    refine A_icmp_ne X (tgt := 14) (by decide) dX12_isTest_7 (fun c3 => ?_) (fun c3 => ?_)
    · replace h := ifF h c3
      refine A_iconst X dX12_isTest_14 (z := 0) (by decide) ?_
      refine A_sub [] rfl (L' := []) rfl ?_
      exact w_X12_isTest_15 (a0 := a0) X E 0 σ h
    · replace h := ifT h c3
      refine A_sub [] rfl (L' := []) rfl ?_
      exact w_X12_isTest_10 (a0 := a0) X E σ h
abbrev rm_X12_isSign : Room := { frames := 0, cells := 0, slots := 0, locals := 0 }
theorem in_X12_isSign_12 : ∀ w ∈ u_ws RX12 TX12 75, w ∈ wsX12_isSign := fun w h => List.mem_cons_of_mem _ (List.mem_append_right _ h)
theorem fg_X12_isSign_20 : aFl wsX12_isSign RX12 20 12 3 := ⟨RX12, TX12, 75, rfl, in_X12_isSign_12, by decide, (List.mem_of_getElem? (i := 1) rfl), rfl⟩
theorem fg_X12_isSign_29 : aFl wsX12_isSign RX12 29 12 6 := ⟨RX12, TX12, 75, rfl, in_X12_isSign_12, by decide, (List.mem_of_getElem? (i := 2) rfl), rfl⟩
set_option maxRecDepth 100000 in
set_option maxHeartbeats 4000000 in
theorem w_X12_isSign_21 {x : aC} {r : Int × Hp} {a1 : Int} (X : aX x cX12_isSign wsX12_isSign RX12 2 rm_X12_isSign) (E : aE x shM (some .boolean) 0 r) (t1 : Int) (σ : Hp) (h : F_M_isSign_21 a1 t1 σ = some r) : aS x shM 2 21 [] [vI t1] σ := by
  unfold F_M_isSign_21 at h
  obtain ⟨g1, h⟩ := gdD h
  exact A_zreturn X g1 E h dX12_isSign_21
set_option maxRecDepth 100000 in
set_option maxHeartbeats 4000000 in
theorem w_X12_isSign_20 {x : aC} {r : Int × Hp} {a1 : Int} (X : aX x cX12_isSign wsX12_isSign RX12 2 rm_X12_isSign) (E : aE x shM (some .boolean) 0 r) (σ : Hp) (h : F_M_isSign_20 a1 σ = some r) : aS x shM 2 20 [] [] σ := by
  unfold F_M_isSign_20 at h
  refine A_iconst X dX12_isSign_20 (z := 0) (by decide) ?_
  exact w_X12_isSign_21 (a1 := a1) X E 0 σ h
set_option maxRecDepth 100000 in
set_option maxHeartbeats 4000000 in
theorem m_X12_isSign {l : Launch} {g : aG} {a1 : Int} {σ : Hp} {r : Int × Hp} (h : F_M_isSign a1 σ = some r) : aMet l g shM yX12_isSign wsX12_isSign rm_X12_isSign [vR 0, vI a1] σ 0 r := by
  unfold F_M_isSign at h
  refine aMet_of (bytes := cX12_isSign) (maxL := 2) (ret := (some .boolean)) (by decide +kernel) rfl (Nat.le_of_ble_eq_true rfl) ⟨rfl, rfl⟩ (fun x e1 e2 X E => ?_)
  subst e1; subst e2
  have X : aX x cX12_isSign wsX12_isSign RX12 2 rm_X12_isSign := X
  show aS x shM 2 0 [(0, vR 0), (1, vI a1)] [] σ
  refine A_aload_n X 0 rfl rfl dX12_isSign_0 ?_
  refine A_getI X fg_X12_isSign_20 shM_0 (k := 3) rfl (by decide) dX12_isSign_1 ?_
  refine A_iconst X dX12_isSign_4 (z := 3) (by decide) ?_
  refine A_icmp_ne X (tgt := 20) (by decide) dX12_isSign_5 (fun c2 => ?_) (fun c2 => ?_)
  · replace h := ifF h c2
    refine A_sub [] rfl (L' := []) rfl ?_
    exact w_X12_isSign_20 (a1 := a1) X E σ h
  · replace h := ifT h c2
    refine A_aload_n X 0 rfl rfl dX12_isSign_8 ?_
    refine A_getI X fg_X12_isSign_29 shM_0 (k := 6) rfl (by decide) dX12_isSign_9 ?_
    refine A_iload_n X 1 rfl rfl dX12_isSign_12 ?_
    refine A_icmp_ne X (tgt := 20) (by decide) dX12_isSign_13 (fun c3 => ?_) (fun c3 => ?_)
    · replace h := ifF h c3
      refine A_sub [] rfl (L' := []) rfl ?_
      exact w_X12_isSign_20 (a1 := a1) X E σ h
    · replace h := ifT h c3
      refine A_iconst X dX12_isSign_16 (z := 1) (by decide) ?_
      refine A_goto X (tgt := 21) (by decide) dX12_isSign_17 ?_
      refine A_sub [] rfl (L' := []) rfl ?_
      exact w_X12_isSign_21 (a1 := a1) X E 1 σ h
abbrev rm_X12_rank : Room := { frames := 0, cells := 0, slots := 0, locals := 0 }
set_option maxRecDepth 100000 in
set_option maxHeartbeats 4000000 in
theorem w_X12_rank_70 {x : aC} {r : Int × Hp} {a0 : Int} (X : aX x cX12_rank wsX12_rank RX12 1 rm_X12_rank) (E : aE x shM (some .int) 0 r) (t1 : Int) (σ : Hp) (h : F_M_rank_70 a0 t1 σ = some r) : aS x shM 1 70 [] [vI t1] σ := by
  unfold F_M_rank_70 at h
  exact A_ireturn X E h dX12_rank_70
set_option maxRecDepth 100000 in
set_option maxHeartbeats 4000000 in
theorem w_X12_rank_48 {x : aC} {r : Int × Hp} {a0 : Int} (X : aX x cX12_rank wsX12_rank RX12 1 rm_X12_rank) (E : aE x shM (some .int) 0 r) (σ : Hp) (h : F_M_rank_48 a0 σ = some r) : aS x shM 1 48 [] [] σ := by
  unfold F_M_rank_48 at h
  refine A_iconst X dX12_rank_48 (z := 4) (by decide) ?_
  refine A_goto X (tgt := 70) (by decide) dX12_rank_49 ?_
  exact w_X12_rank_70 (a0 := a0) X E 4 σ h
set_option maxRecDepth 100000 in
set_option maxHeartbeats 4000000 in
theorem w_X12_rank_64 {x : aC} {r : Int × Hp} {a0 : Int} (X : aX x cX12_rank wsX12_rank RX12 1 rm_X12_rank) (E : aE x shM (some .int) 0 r) (σ : Hp) (h : F_M_rank_64 a0 σ = some r) : aS x shM 1 64 [] [] σ := by
  unfold F_M_rank_64 at h
  refine A_iconst X dX12_rank_64 (z := 5) (by decide) ?_
  refine A_goto X (tgt := 70) (by decide) dX12_rank_65 ?_
  exact w_X12_rank_70 (a0 := a0) X E 5 σ h
set_option maxRecDepth 100000 in
set_option maxHeartbeats 4000000 in
theorem m_X12_rank {l : Launch} {g : aG} {a0 : Int} {σ : Hp} {r : Int × Hp} (h : F_M_rank a0 σ = some r) : aMet l g shM yX12_rank wsX12_rank rm_X12_rank [vI a0] σ 0 r := by
  unfold F_M_rank at h
  refine aMet_of (bytes := cX12_rank) (maxL := 1) (ret := (some .int)) (by decide +kernel) rfl (Nat.le_of_ble_eq_true rfl) ⟨rfl, rfl⟩ (fun x e1 e2 X E => ?_)
  subst e1; subst e2
  have X : aX x cX12_rank wsX12_rank RX12 1 rm_X12_rank := X
  show aS x shM 1 0 [(0, vI a0)] [] σ
  refine A_iload_n X 0 rfl rfl dX12_rank_0 ?_
  refine A_bipush X dX12_rank_1 (z := 17) (by decide) ?_
  refine A_icmp_ne X (tgt := 10) (by decide) dX12_rank_3 (fun c1 => ?_) (fun c1 => ?_)
  · replace h := ifF h c1
    refine A_iload_n X 0 rfl rfl dX12_rank_10 ?_
    refine A_bipush X dX12_rank_11 (z := 16) (by decide) ?_
    refine A_icmp_ne X (tgt := 20) (by decide) dX12_rank_13 (fun c2 => ?_) (fun c2 => ?_)
    · replace h := ifF h c2
      refine A_iload_n X 0 rfl rfl dX12_rank_20 ?_
      refine A_bipush X dX12_rank_21 (z := 18) (by decide) ?_
      refine A_icmp_ne X (tgt := 30) (by decide) dX12_rank_23 (fun c3 => ?_) (fun c3 => ?_)
      · replace h := ifF h c3
        refine A_iload_n X 0 rfl rfl dX12_rank_30 ?_
        refine A_bipush X dX12_rank_31 (z := 13) (by decide) ?_
        refine A_icmp_eq X (tgt := 48) (by decide) dX12_rank_33 (fun c4 => ?_) (fun c4 => ?_)
        · replace h := ifT h c4
          refine A_sub [] rfl (L' := []) rfl ?_
          exact w_X12_rank_48 (a0 := a0) X E σ h
        · replace h := ifF h c4
          refine A_iload_n X 0 rfl rfl dX12_rank_36 ?_
          refine A_bipush X dX12_rank_37 (z := 14) (by decide) ?_
          refine A_icmp_eq X (tgt := 48) (by decide) dX12_rank_39 (fun c5 => ?_) (fun c5 => ?_)
          · replace h := ifT h c5
            refine A_sub [] rfl (L' := []) rfl ?_
            exact w_X12_rank_48 (a0 := a0) X E σ h
          · replace h := ifF h c5
            refine A_iload_n X 0 rfl rfl dX12_rank_42 ?_
            refine A_bipush X dX12_rank_43 (z := 15) (by decide) ?_
            refine A_icmp_ne X (tgt := 52) (by decide) dX12_rank_45 (fun c6 => ?_) (fun c6 => ?_)
            · replace h := ifF h c6
              refine A_iload_n X 0 rfl rfl dX12_rank_52 ?_
              refine A_bipush X dX12_rank_53 (z := 6) (by decide) ?_
              refine A_icmp_eq X (tgt := 64) (by decide) dX12_rank_55 (fun c7 => ?_) (fun c7 => ?_)
              · replace h := ifT h c7
                refine A_sub [] rfl (L' := []) rfl ?_
                exact w_X12_rank_64 (a0 := a0) X E σ h
              · replace h := ifF h c7
                refine A_iload_n X 0 rfl rfl dX12_rank_58 ?_
                refine A_bipush X dX12_rank_59 (z := 7) (by decide) ?_
                refine A_icmp_ne X (tgt := 68) (by decide) dX12_rank_61 (fun c8 => ?_) (fun c8 => ?_)
                · replace h := ifF h c8
                  refine A_bipush X dX12_rank_68 (z := 6) (by decide) ?_
                  refine A_sub [] rfl (L' := []) rfl ?_
                  exact w_X12_rank_70 (a0 := a0) X E 6 σ h
                · replace h := ifT h c8
                  refine A_sub [] rfl (L' := []) rfl ?_
                  exact w_X12_rank_64 (a0 := a0) X E σ h
            · replace h := ifT h c6
              refine A_sub [] rfl (L' := []) rfl ?_
              exact w_X12_rank_48 (a0 := a0) X E σ h
      · replace h := ifT h c3
        refine A_iconst X dX12_rank_26 (z := 3) (by decide) ?_
        refine A_goto X (tgt := 70) (by decide) dX12_rank_27 ?_
        refine A_sub [] rfl (L' := []) rfl ?_
        exact w_X12_rank_70 (a0 := a0) X E 3 σ h
    · replace h := ifT h c2
      refine A_iconst X dX12_rank_16 (z := 2) (by decide) ?_
      refine A_goto X (tgt := 70) (by decide) dX12_rank_17 ?_
      refine A_sub [] rfl (L' := []) rfl ?_
      exact w_X12_rank_70 (a0 := a0) X E 2 σ h
  · replace h := ifT h c1
    refine A_iconst X dX12_rank_6 (z := 1) (by decide) ?_
    refine A_goto X (tgt := 70) (by decide) dX12_rank_7 ?_
    refine A_sub [] rfl (L' := []) rfl ?_
    exact w_X12_rank_70 (a0 := a0) X E 1 σ h
abbrev rm_X12_joins : Room := { frames := 1, cells := 0, slots := 0, locals := 22 }
theorem in_X12_joins_12 : ∀ w ∈ u_ws RX12 TX12 75, w ∈ wsX12_joins := fun w h => List.mem_cons_of_mem _ (List.mem_append_right _ h)
theorem fg_X12_joins_134 : aFl wsX12_joins RX12 134 12 40 := ⟨RX12, TX12, 75, rfl, in_X12_joins_12, by decide, (List.mem_of_getElem? (i := 1) rfl), rfl⟩
theorem fg_X12_joins_122 : aFl wsX12_joins RX12 122 12 36 := ⟨RX12, TX12, 75, rfl, in_X12_joins_12, by decide, (List.mem_of_getElem? (i := 2) rfl), rfl⟩
theorem fg_X12_joins_125 : aFl wsX12_joins RX12 125 12 37 := ⟨RX12, TX12, 75, rfl, in_X12_joins_12, by decide, (List.mem_of_getElem? (i := 3) rfl), rfl⟩
theorem fg_X12_joins_131 : aFl wsX12_joins RX12 131 12 39 := ⟨RX12, TX12, 75, rfl, in_X12_joins_12, by decide, (List.mem_of_getElem? (i := 4) rfl), rfl⟩
theorem fp_X12_joins_134 : aFp wsX12_joins RX12 134 12 40 .int := ⟨RX12, TX12, 75, tyX12, rfl, in_X12_joins_12, by decide, (List.mem_of_getElem? (i := 1) rfl), rfl, tyX12_ok, nmX12, rfl, rfl⟩
set_option maxRecDepth 100000 in
set_option maxHeartbeats 4000000 in
theorem w_X12_joins_63 {x : aC} {r : Int × Hp} {a1 : Int} (X : aX x cX12_joins wsX12_joins RX12 2 rm_X12_joins) (E : aE x shM none 3 r) (σ : Hp) (h : F_M_joins_63 a1 σ = some r) : aS x shM 2 63 [] [] σ := by
  unfold F_M_joins_63 at h
  exact A_return X E h dX12_joins_63
set_option maxRecDepth 100000 in
set_option maxHeartbeats 4000000 in
theorem w_X12_joins_0_b {x : aC} {r : Int × Hp} {k0 : Hp → Option (Int × Hp)} {a1 : Int} (X : aX x cX12_joins wsX12_joins RX12 2 rm_X12_joins) (E : aE x shM none 3 r) (hk0 : ∀ (σ : Hp), k0 σ = some r → aS x shM 2 0 [(0, vR 0), (1, vI a1)] [] σ) (σ : Hp) (h : F_M_joins_0_b k0 a1 σ = some r) : aS x shM 2 0 [(0, vR 0), (1, vI a1)] [] σ := by
  unfold F_M_joins_0_b at h
  refine A_aload_n X 0 rfl rfl dX12_joins_0 ?_
  refine A_getI X fg_X12_joins_134 shM_0 (k := 40) rfl (by decide) dX12_joins_1 ?_
  refine A_aload_n X 0 rfl rfl dX12_joins_4 ?_
  refine A_getR X fg_X12_joins_122 shM_0 (k := 36) rfl (by decide) dX12_joins_5 ?_
  refine A_aload_n X 0 rfl rfl dX12_joins_8 ?_
  refine A_getI X fg_X12_joins_125 shM_0 (k := 37) rfl (by decide) dX12_joins_9 ?_
  refine A_iconst X dX12_joins_12 (z := 1) (by decide) ?_
  refine A_isub X dX12_joins_13 ?_
  obtain ⟨g1, h⟩ := gdD h
  refine A_iald X g1 shM_23 dX12_joins_14 ?_
  refine A_icmp_le X (tgt := 63) (by decide) dX12_joins_15 (fun c2 => ?_) (fun c2 => ?_)
  · replace h := ifT h c2
    refine A_sub [] rfl (L' := []) rfl ?_
    exact w_X12_joins_63 (a1 := a1) X E σ h
  · replace h := ifF h c2
    refine A_aload_n X 0 rfl rfl dX12_joins_18 ?_
    refine A_getR X fg_X12_joins_131 shM_0 (k := 39) rfl (by decide) dX12_joins_19 ?_
    refine A_aload_n X 0 rfl rfl dX12_joins_22 ?_
    refine A_getI X fg_X12_joins_134 shM_0 (k := 40) rfl (by decide) dX12_joins_23 ?_
    refine A_iconst X dX12_joins_26 (z := 1) (by decide) ?_
    refine A_isub X dX12_joins_27 ?_
    obtain ⟨g3, h⟩ := gdD h
    refine A_iald X g3 shM_24 dX12_joins_28 ?_
    obtain ⟨v4, s5, e6, h⟩ := clD h
    refine A_callS_I (na := 1) X (m_X12_rank e6) gX12_joins_X12_rank rfl ⟨rfl, rfl⟩ (by decide +kernel) rfl ⟨Nat.le_of_ble_eq_true rfl, Nat.le_of_ble_eq_true rfl⟩ rfl (Nat.le_of_ble_eq_true rfl) dX12_joins_29 ?_
    refine A_iload_n X 1 rfl rfl dX12_joins_32 ?_
    refine A_icmp_lt X (tgt := 63) (by decide) dX12_joins_33 (fun c7 => ?_) (fun c7 => ?_)
    · replace h := ifT h c7
      refine A_sub [] rfl (L' := []) rfl ?_
      exact w_X12_joins_63 (a1 := a1) X E s5 h
    · replace h := ifF h c7
      refine A_aload_n X 0 rfl rfl dX12_joins_36 ?_
      refine A_dup X (by show ¬ (2 : Nat) = 1; decide) dX12_joins_37 ?_
      refine A_getI X fg_X12_joins_134 shM_0 (k := 40) rfl (by decide) dX12_joins_38 ?_
      refine A_iconst X dX12_joins_41 (z := 1) (by decide) ?_
      refine A_isub X dX12_joins_42 ?_
      refine A_putI X fp_X12_joins_134 shM_0 (k := 40) rfl (by decide) dX12_joins_43 (fun s8 hy => ?_)
      replace h := ltD h s8 hy
      clear hy
      refine A_aload_n X 0 rfl rfl dX12_joins_46 ?_
      refine A_aload_n X 0 rfl rfl dX12_joins_47 ?_
      refine A_getR X fg_X12_joins_131 shM_0 (k := 39) rfl (by decide) dX12_joins_48 ?_
      refine A_aload_n X 0 rfl rfl dX12_joins_51 ?_
      refine A_getI X fg_X12_joins_134 shM_0 (k := 40) rfl (by decide) dX12_joins_52 ?_
      obtain ⟨g9, h⟩ := gdD h
      refine A_iald X g9 shM_24 dX12_joins_55 ?_
      refine A_iconst X dX12_joins_56 (z := 0) (by decide) ?_
      obtain ⟨v10, s11, e12, h⟩ := clD h
      refine A_callV_V (na := 2) X (m_X12_add e12) gX12_joins_X12_add rfl ⟨rfl, rfl⟩ (by decide +kernel) rfl ⟨Nat.le_of_ble_eq_true rfl, Nat.le_of_ble_eq_true rfl⟩ shM_0 (by decide) rfl rfl (Nat.le_of_ble_eq_true rfl) dX12_joins_57 ?_
      refine A_goto X (tgt := 0) (by decide) dX12_joins_60 ?_
      exact hk0 s11 h
set_option maxRecDepth 100000 in
set_option maxHeartbeats 4000000 in
theorem w_X12_joins_0 {x : aC} {r : Int × Hp} {a1 : Int} (X : aX x cX12_joins wsX12_joins RX12 2 rm_X12_joins) (E : aE x shM none 3 r) : ∀ (n : Nat) (σ : Hp) (h : F_M_joins_0 a1 n σ = some r), aS x shM 2 0 [(0, vR 0), (1, vI a1)] [] σ := by
  intro n
  induction n with
  | zero => intro σ h; cases h
  | succ n ih => intro σ h; exact w_X12_joins_0_b (a1 := a1) (k0 := F_M_joins_0 a1 n) X E ih σ h
set_option maxRecDepth 100000 in
set_option maxHeartbeats 4000000 in
theorem m_X12_joins {l : Launch} {g : aG} {a1 : Int} {σ : Hp} {r : Int × Hp} (h : F_M_joins a1 σ = some r) : aMet l g shM yX12_joins wsX12_joins rm_X12_joins [vR 0, vI a1] σ 3 r := by
  unfold F_M_joins at h
  refine aMet_of (bytes := cX12_joins) (maxL := 2) (ret := none) (by decide +kernel) rfl (Nat.le_of_ble_eq_true rfl) ⟨rfl, rfl⟩ (fun x e1 e2 X E => ?_)
  subst e1; subst e2
  have X : aX x cX12_joins wsX12_joins RX12 2 rm_X12_joins := X
  show aS x shM 2 0 [(0, vR 0), (1, vI a1)] [] σ
  exact w_X12_joins_0 (a1 := a1) X E FU σ h
abbrev rm_X12_holdsBack : Room := { frames := 0, cells := 0, slots := 0, locals := 0 }
theorem in_X12_holdsBack_12 : ∀ w ∈ u_ws RX12 TX12 75, w ∈ wsX12_holdsBack := fun w h => List.mem_cons_of_mem _ (List.mem_append_right _ h)
theorem fg_X12_holdsBack_131 : aFl wsX12_holdsBack RX12 131 12 39 := ⟨RX12, TX12, 75, rfl, in_X12_holdsBack_12, by decide, (List.mem_of_getElem? (i := 1) rfl), rfl⟩
theorem fg_X12_holdsBack_134 : aFl wsX12_holdsBack RX12 134 12 40 := ⟨RX12, TX12, 75, rfl, in_X12_holdsBack_12, by decide, (List.mem_of_getElem? (i := 2) rfl), rfl⟩
theorem fp_X12_holdsBack_134 : aFp wsX12_holdsBack RX12 134 12 40 .int := ⟨RX12, TX12, 75, tyX12, rfl, in_X12_holdsBack_12, by decide, (List.mem_of_getElem? (i := 2) rfl), rfl, tyX12_ok, nmX12, rfl, rfl⟩
set_option maxRecDepth 100000 in
set_option maxHeartbeats 4000000 in
theorem m_X12_holdsBack {l : Launch} {g : aG} {a1 : Int} {σ : Hp} {r : Int × Hp} (h : F_M_holdsBack a1 σ = some r) : aMet l g shM yX12_holdsBack wsX12_holdsBack rm_X12_holdsBack [vR 0, vI a1] σ 3 r := by
  unfold F_M_holdsBack at h
  refine aMet_of (bytes := cX12_holdsBack) (maxL := 2) (ret := none) (by decide +kernel) rfl (Nat.le_of_ble_eq_true rfl) ⟨rfl, rfl⟩ (fun x e1 e2 X E => ?_)
  subst e1; subst e2
  have X : aX x cX12_holdsBack wsX12_holdsBack RX12 2 rm_X12_holdsBack := X
  show aS x shM 2 0 [(0, vR 0), (1, vI a1)] [] σ
  refine A_aload_n X 0 rfl rfl dX12_holdsBack_0 ?_
  refine A_getR X fg_X12_holdsBack_131 shM_0 (k := 39) rfl (by decide) dX12_holdsBack_1 ?_
  refine A_aload_n X 0 rfl rfl dX12_holdsBack_4 ?_
  refine A_getI X fg_X12_holdsBack_134 shM_0 (k := 40) rfl (by decide) dX12_holdsBack_5 ?_
  refine A_iload_n X 1 rfl rfl dX12_holdsBack_8 ?_
  obtain ⟨g1, h⟩ := gdD h
  refine A_iast X g1 shM_24 dX12_holdsBack_9 (fun s2 hy => ?_)
  replace h := ltD h s2 hy
  clear hy
  refine A_aload_n X 0 rfl rfl dX12_holdsBack_10 ?_
  refine A_dup X (by show ¬ (2 : Nat) = 1; decide) dX12_holdsBack_11 ?_
  refine A_getI X fg_X12_holdsBack_134 shM_0 (k := 40) rfl (by decide) dX12_holdsBack_12 ?_
  refine A_iconst X dX12_holdsBack_15 (z := 1) (by decide) ?_
  refine A_iadd X dX12_holdsBack_16 ?_
  refine A_putI X fp_X12_holdsBack_134 shM_0 (k := 40) rfl (by decide) dX12_holdsBack_17 (fun s3 hy => ?_)
  replace h := ltD h s3 hy
  clear hy
  exact A_return X E h dX12_holdsBack_20
abbrev rm_X12_isWord : Room := { frames := 0, cells := 0, slots := 0, locals := 0 }
theorem in_X12_isWord_12 : ∀ w ∈ u_ws RX12 TX12 75, w ∈ wsX12_isWord := fun w h => List.mem_cons_of_mem _ (List.mem_append_right _ h)
theorem fg_X12_isWord_20 : aFl wsX12_isWord RX12 20 12 3 := ⟨RX12, TX12, 75, rfl, in_X12_isWord_12, by decide, (List.mem_of_getElem? (i := 1) rfl), rfl⟩
theorem fg_X12_isWord_32 : aFl wsX12_isWord RX12 32 12 7 := ⟨RX12, TX12, 75, rfl, in_X12_isWord_12, by decide, (List.mem_of_getElem? (i := 2) rfl), rfl⟩
set_option maxRecDepth 100000 in
set_option maxHeartbeats 4000000 in
theorem w_X12_isWord_22 {x : aC} {r : Int × Hp} {a1 : Int} (X : aX x cX12_isWord wsX12_isWord RX12 3 rm_X12_isWord) (E : aE x shM (some .boolean) 0 r) (t1 : Int) (σ : Hp) (h : F_M_isWord_22 a1 t1 σ = some r) : aS x shM 3 22 [] [vI t1] σ := by
  unfold F_M_isWord_22 at h
  obtain ⟨g1, h⟩ := gdD h
  exact A_zreturn X g1 E h dX12_isWord_22
set_option maxRecDepth 100000 in
set_option maxHeartbeats 4000000 in
theorem w_X12_isWord_21 {x : aC} {r : Int × Hp} {a1 : Int} (X : aX x cX12_isWord wsX12_isWord RX12 3 rm_X12_isWord) (E : aE x shM (some .boolean) 0 r) (σ : Hp) (h : F_M_isWord_21 a1 σ = some r) : aS x shM 3 21 [] [] σ := by
  unfold F_M_isWord_21 at h
  refine A_iconst X dX12_isWord_21 (z := 0) (by decide) ?_
  exact w_X12_isWord_22 (a1 := a1) X E 0 σ h
set_option maxRecDepth 100000 in
set_option maxHeartbeats 4000000 in
theorem m_X12_isWord {l : Launch} {g : aG} {a1 : Int} {σ : Hp} {r : Int × Hp} (h : F_M_isWord a1 σ = some r) : aMet l g shM yX12_isWord wsX12_isWord rm_X12_isWord [vR 0, vL a1] σ 0 r := by
  unfold F_M_isWord at h
  refine aMet_of (bytes := cX12_isWord) (maxL := 3) (ret := (some .boolean)) (by decide +kernel) rfl (Nat.le_of_ble_eq_true rfl) ⟨rfl, rfl⟩ (fun x e1 e2 X E => ?_)
  subst e1; subst e2
  have X : aX x cX12_isWord wsX12_isWord RX12 3 rm_X12_isWord := X
  show aS x shM 3 0 [(0, vR 0), (1, vL a1)] [] σ
  refine A_aload_n X 0 rfl rfl dX12_isWord_0 ?_
  refine A_getI X fg_X12_isWord_20 shM_0 (k := 3) rfl (by decide) dX12_isWord_1 ?_
  refine A_iconst X dX12_isWord_4 (z := 1) (by decide) ?_
  refine A_icmp_ne X (tgt := 21) (by decide) dX12_isWord_5 (fun c2 => ?_) (fun c2 => ?_)
  · replace h := ifF h c2
    refine A_sub [] rfl (L' := []) rfl ?_
    exact w_X12_isWord_21 (a1 := a1) X E σ h
  · replace h := ifT h c2
    refine A_aload_n X 0 rfl rfl dX12_isWord_8 ?_
    refine A_getL X fg_X12_isWord_32 shM_0 (k := 7) rfl (by decide) dX12_isWord_9 ?_
    refine A_lload_n X 1 rfl rfl dX12_isWord_12 ?_
    refine A_lcmp X dX12_isWord_13 ?_
    refine A_if_ne X (tgt := 21) (by decide) dX12_isWord_14 (fun c3 => ?_) (fun c3 => ?_)
    · replace h := ifF h c3
      refine A_sub [] rfl (L' := []) rfl ?_
      exact w_X12_isWord_21 (a1 := a1) X E σ h
    · replace h := ifT h c3
      refine A_iconst X dX12_isWord_17 (z := 1) (by decide) ?_
      refine A_goto X (tgt := 22) (by decide) dX12_isWord_18 ?_
      refine A_sub [] rfl (L' := []) rfl ?_
      exact w_X12_isWord_22 (a1 := a1) X E 1 σ h
abbrev rm_X12_goesOn : Room := { frames := 2, cells := 0, slots := 0, locals := 47 }
theorem in_X12_goesOn_12 : ∀ w ∈ u_ws RX12 TX12 75, w ∈ wsX12_goesOn := fun w h => List.mem_cons_of_mem _ (List.mem_append_right _ h)
theorem fp_X12_goesOn_137 : aFp wsX12_goesOn RX12 137 12 41 .boolean := ⟨RX12, TX12, 75, tyX12, rfl, in_X12_goesOn_12, by decide, (List.mem_of_getElem? (i := 4) rfl), rfl, tyX12_ok, nmX12, rfl, rfl⟩
theorem fg_X12_goesOn_113 : aFl wsX12_goesOn RX12 113 12 33 := ⟨RX12, TX12, 75, rfl, in_X12_goesOn_12, by decide, (List.mem_of_getElem? (i := 3) rfl), rfl⟩
theorem fg_X12_goesOn_116 : aFl wsX12_goesOn RX12 116 12 34 := ⟨RX12, TX12, 75, rfl, in_X12_goesOn_12, by decide, (List.mem_of_getElem? (i := 9) rfl), rfl⟩
theorem fg_X12_goesOn_36 : aFl wsX12_goesOn RX12 36 12 8 := ⟨RX12, TX12, 75, rfl, in_X12_goesOn_12, by decide, (List.mem_of_getElem? (i := 8) rfl), rfl⟩
theorem fg_X12_goesOn_23 : aFl wsX12_goesOn RX12 23 12 4 := ⟨RX12, TX12, 75, rfl, in_X12_goesOn_12, by decide, (List.mem_of_getElem? (i := 7) rfl), rfl⟩
theorem fg_X12_goesOn_110 : aFl wsX12_goesOn RX12 110 12 32 := ⟨RX12, TX12, 75, rfl, in_X12_goesOn_12, by decide, (List.mem_of_getElem? (i := 2) rfl), rfl⟩
theorem fg_X12_goesOn_125 : aFl wsX12_goesOn RX12 125 12 37 := ⟨RX12, TX12, 75, rfl, in_X12_goesOn_12, by decide, (List.mem_of_getElem? (i := 1) rfl), rfl⟩
theorem fp_X12_goesOn_125 : aFp wsX12_goesOn RX12 125 12 37 .int := ⟨RX12, TX12, 75, tyX12, rfl, in_X12_goesOn_12, by decide, (List.mem_of_getElem? (i := 1) rfl), rfl, tyX12_ok, nmX12, rfl, rfl⟩
theorem fg_X12_goesOn_128 : aFl wsX12_goesOn RX12 128 12 38 := ⟨RX12, TX12, 75, rfl, in_X12_goesOn_12, by decide, (List.mem_of_getElem? (i := 10) rfl), rfl⟩
theorem fp_X12_goesOn_128 : aFp wsX12_goesOn RX12 128 12 38 .int := ⟨RX12, TX12, 75, tyX12, rfl, in_X12_goesOn_12, by decide, (List.mem_of_getElem? (i := 10) rfl), rfl, tyX12_ok, nmX12, rfl, rfl⟩
theorem fg_X12_goesOn_119 : aFl wsX12_goesOn RX12 119 12 35 := ⟨RX12, TX12, 75, rfl, in_X12_goesOn_12, by decide, (List.mem_of_getElem? (i := 11) rfl), rfl⟩
set_option maxRecDepth 100000 in
set_option maxHeartbeats 4000000 in
theorem w_X12_goesOn_161 {x : aC} {r : Int × Hp} (X : aX x cX12_goesOn wsX12_goesOn RX12 5 rm_X12_goesOn) (E : aE x shM (some .boolean) 0 r) (t2 : Int) (σ : Hp) (h : F_M_goesOn_161 t2 σ = some r) : aS x shM 5 161 [(0, vR 0)] [vI t2, vR 0] σ := by
  unfold F_M_goesOn_161 at h
  obtain ⟨v1, s2, e3, h⟩ := clD h
  refine A_callV_V (na := 1) X (m_X12_holdsBack e3) gX12_goesOn_X12_holdsBack rfl ⟨rfl, rfl⟩ (by decide +kernel) rfl ⟨Nat.le_of_ble_eq_true rfl, Nat.le_of_ble_eq_true rfl⟩ shM_0 (by decide) rfl rfl (Nat.le_of_ble_eq_true rfl) dX12_goesOn_161 ?_
  refine A_aload_n X 0 rfl rfl dX12_goesOn_164 ?_
  obtain ⟨v4, s5, e6, h⟩ := clD h
  refine A_callV_V (na := 0) X (m_X12_next e6) gX12_goesOn_X12_next rfl ⟨rfl, rfl⟩ (by decide +kernel) rfl ⟨Nat.le_of_ble_eq_true rfl, Nat.le_of_ble_eq_true rfl⟩ shM_0 (by decide) rfl rfl (Nat.le_of_ble_eq_true rfl) dX12_goesOn_165 ?_
  refine A_aload_n X 0 rfl rfl dX12_goesOn_168 ?_
  refine A_iconst X dX12_goesOn_169 (z := 0) (by decide) ?_
  refine A_putZ X (Or.inl rfl) fp_X12_goesOn_137 shM_0 (k := 41) rfl (by decide) dX12_goesOn_170 (fun s7 hy => ?_)
  replace h := ltD h s7 hy
  clear hy
  refine A_iconst X dX12_goesOn_173 (z := 1) (by decide) ?_
  exact A_zreturn X (Or.inr rfl) E h dX12_goesOn_174
set_option maxRecDepth 100000 in
set_option maxHeartbeats 4000000 in
theorem w_X12_goesOn_99 {x : aC} {r : Int × Hp} (X : aX x cX12_goesOn wsX12_goesOn RX12 5 rm_X12_goesOn) (E : aE x shM (some .boolean) 0 r) (t2 : Int) (σ : Hp) (h : F_M_goesOn_99 t2 σ = some r) : aS x shM 5 99 [(0, vR 0)] [vI t2, vR 0] σ := by
  unfold F_M_goesOn_99 at h
  obtain ⟨v8, s9, e10, h⟩ := clD h
  refine A_callV_V (na := 1) X (m_X12_joins e10) gX12_goesOn_X12_joins rfl ⟨rfl, rfl⟩ (by decide +kernel) rfl ⟨Nat.le_of_ble_eq_true rfl, Nat.le_of_ble_eq_true rfl⟩ shM_0 (by decide) rfl rfl (Nat.le_of_ble_eq_true rfl) dX12_goesOn_99 ?_
  refine A_aload_n X 0 rfl rfl dX12_goesOn_102 ?_
  refine A_aload_n X 0 rfl rfl dX12_goesOn_103 ?_
  refine A_bipush X dX12_goesOn_104 (z := 43) (by decide) ?_
  obtain ⟨v11, s12, e13, h⟩ := clD h
  refine A_callV_I (na := 1) X (m_X12_isSign e13) gX12_goesOn_X12_isSign rfl ⟨rfl, rfl⟩ (by decide +kernel) rfl ⟨Nat.le_of_ble_eq_true rfl, Nat.le_of_ble_eq_true rfl⟩ shM_0 (by decide) rfl rfl (Nat.le_of_ble_eq_true rfl) dX12_goesOn_106 ?_
  refine A_if_eq X (tgt := 117) (by decide) dX12_goesOn_109 (fun c14 => ?_) (fun c14 => ?_)
  · replace h := ifT h c14
    refine A_aload_n X 0 rfl rfl dX12_goesOn_117 ?_
    refine A_bipush X dX12_goesOn_118 (z := 45) (by decide) ?_
    obtain ⟨v15, s16, e17, h⟩ := clD h
    refine A_callV_I (na := 1) X (m_X12_isSign e17) gX12_goesOn_X12_isSign rfl ⟨rfl, rfl⟩ (by decide +kernel) rfl ⟨Nat.le_of_ble_eq_true rfl, Nat.le_of_ble_eq_true rfl⟩ shM_0 (by decide) rfl rfl (Nat.le_of_ble_eq_true rfl) dX12_goesOn_120 ?_
    refine A_if_eq X (tgt := 131) (by decide) dX12_goesOn_123 (fun c18 => ?_) (fun c18 => ?_)
    · replace h := ifT h c18
      refine A_aload_n X 0 rfl rfl dX12_goesOn_131 ?_
      refine A_bipush X dX12_goesOn_132 (z := 42) (by decide) ?_
      obtain ⟨v19, s20, e21, h⟩ := clD h
      refine A_callV_I (na := 1) X (m_X12_isSign e21) gX12_goesOn_X12_isSign rfl ⟨rfl, rfl⟩ (by decide +kernel) rfl ⟨Nat.le_of_ble_eq_true rfl, Nat.le_of_ble_eq_true rfl⟩ shM_0 (by decide) rfl rfl (Nat.le_of_ble_eq_true rfl) dX12_goesOn_134 ?_
      refine A_if_eq X (tgt := 145) (by decide) dX12_goesOn_137 (fun c22 => ?_) (fun c22 => ?_)
      · replace h := ifT h c22
        refine A_aload_n X 0 rfl rfl dX12_goesOn_145 ?_
        refine A_bipush X dX12_goesOn_146 (z := 47) (by decide) ?_
        obtain ⟨v23, s24, e25, h⟩ := clD h
        refine A_callV_I (na := 1) X (m_X12_isSign e25) gX12_goesOn_X12_isSign rfl ⟨rfl, rfl⟩ (by decide +kernel) rfl ⟨Nat.le_of_ble_eq_true rfl, Nat.le_of_ble_eq_true rfl⟩ shM_0 (by decide) rfl rfl (Nat.le_of_ble_eq_true rfl) dX12_goesOn_148 ?_
        refine A_if_eq X (tgt := 159) (by decide) dX12_goesOn_151 (fun c26 => ?_) (fun c26 => ?_)
        · replace h := ifT h c26
          refine A_bipush X dX12_goesOn_159 (z := 10) (by decide) ?_
          exact w_X12_goesOn_161 X E 10 s24 h
        · replace h := ifF h c26
          refine A_bipush X dX12_goesOn_154 (z := 9) (by decide) ?_
          refine A_goto X (tgt := 161) (by decide) dX12_goesOn_156 ?_
          exact w_X12_goesOn_161 X E 9 s24 h
      · replace h := ifF h c22
        refine A_bipush X dX12_goesOn_140 (z := 8) (by decide) ?_
        refine A_goto X (tgt := 161) (by decide) dX12_goesOn_142 ?_
        exact w_X12_goesOn_161 X E 8 s20 h
    · replace h := ifF h c18
      refine A_bipush X dX12_goesOn_126 (z := 7) (by decide) ?_
      refine A_goto X (tgt := 161) (by decide) dX12_goesOn_128 ?_
      exact w_X12_goesOn_161 X E 7 s16 h
  · replace h := ifF h c14
    refine A_bipush X dX12_goesOn_112 (z := 6) (by decide) ?_
    refine A_goto X (tgt := 161) (by decide) dX12_goesOn_114 ?_
    exact w_X12_goesOn_161 X E 6 s12 h
set_option maxRecDepth 100000 in
set_option maxHeartbeats 4000000 in
theorem w_X12_goesOn_93 {x : aC} {r : Int × Hp} (X : aX x cX12_goesOn wsX12_goesOn RX12 5 rm_X12_goesOn) (E : aE x shM (some .boolean) 0 r) (σ : Hp) (h : F_M_goesOn_93 σ = some r) : aS x shM 5 93 [(0, vR 0)] [vR 0] σ := by
  unfold F_M_goesOn_93 at h
  refine A_iconst X dX12_goesOn_93 (z := 5) (by decide) ?_
  refine A_goto X (tgt := 99) (by decide) dX12_goesOn_94 ?_
  exact w_X12_goesOn_99 X E 5 σ h
set_option maxRecDepth 100000 in
set_option maxHeartbeats 4000000 in
theorem w_X12_goesOn_74 {x : aC} {r : Int × Hp} (X : aX x cX12_goesOn wsX12_goesOn RX12 5 rm_X12_goesOn) (E : aE x shM (some .boolean) 0 r) (σ : Hp) (h : F_M_goesOn_74 σ = some r) : aS x shM 5 74 [(0, vR 0)] [] σ := by
  unfold F_M_goesOn_74 at h
  refine A_aload_n X 0 rfl rfl dX12_goesOn_74 ?_
  refine A_aload_n X 0 rfl rfl dX12_goesOn_75 ?_
  refine A_bipush X dX12_goesOn_76 (z := 43) (by decide) ?_
  obtain ⟨v27, s28, e29, h⟩ := clD h
  refine A_callV_I (na := 1) X (m_X12_isSign e29) gX12_goesOn_X12_isSign rfl ⟨rfl, rfl⟩ (by decide +kernel) rfl ⟨Nat.le_of_ble_eq_true rfl, Nat.le_of_ble_eq_true rfl⟩ shM_0 (by decide) rfl rfl (Nat.le_of_ble_eq_true rfl) dX12_goesOn_78 ?_
  refine A_if_ne X (tgt := 93) (by decide) dX12_goesOn_81 (fun c30 => ?_) (fun c30 => ?_)
  · replace h := ifF h c30
    exact w_X12_goesOn_93 X E s28 h
  · replace h := ifT h c30
    refine A_aload_n X 0 rfl rfl dX12_goesOn_84 ?_
    refine A_bipush X dX12_goesOn_85 (z := 45) (by decide) ?_
    obtain ⟨v31, s32, e33, h⟩ := clD h
    refine A_callV_I (na := 1) X (m_X12_isSign e33) gX12_goesOn_X12_isSign rfl ⟨rfl, rfl⟩ (by decide +kernel) rfl ⟨Nat.le_of_ble_eq_true rfl, Nat.le_of_ble_eq_true rfl⟩ shM_0 (by decide) rfl rfl (Nat.le_of_ble_eq_true rfl) dX12_goesOn_87 ?_
    refine A_if_eq X (tgt := 97) (by decide) dX12_goesOn_90 (fun c34 => ?_) (fun c34 => ?_)
    · replace h := ifT h c34
      refine A_bipush X dX12_goesOn_97 (z := 6) (by decide) ?_
      exact w_X12_goesOn_99 X E 6 s32 h
    · replace h := ifF h c34
      exact w_X12_goesOn_93 X E s32 h
set_option maxRecDepth 100000 in
set_option maxHeartbeats 4000000 in
theorem w_X12_goesOn_251 {x : aC} {r : Int × Hp} (X : aX x cX12_goesOn wsX12_goesOn RX12 5 rm_X12_goesOn) (E : aE x shM (some .boolean) 0 r) (x1 : Int) (t2 : Int) (σ : Hp) (h : F_M_goesOn_251 x1 t2 σ = some r) : aS x shM 5 251 [(0, vR 0), (1, vI x1)] [vI t2, vR 0] σ := by
  unfold F_M_goesOn_251 at h
  obtain ⟨v35, s36, e37, h⟩ := clD h
  refine A_callV_V (na := 1) X (m_X12_holdsBack e37) gX12_goesOn_X12_holdsBack rfl ⟨rfl, rfl⟩ (by decide +kernel) rfl ⟨Nat.le_of_ble_eq_true rfl, Nat.le_of_ble_eq_true rfl⟩ shM_0 (by decide) rfl rfl (Nat.le_of_ble_eq_true rfl) dX12_goesOn_251 ?_
  refine A_aload_n X 0 rfl rfl dX12_goesOn_254 ?_
  refine A_getR X fg_X12_goesOn_113 shM_0 (k := 33) rfl (by decide) dX12_goesOn_255 ?_
  refine A_iload_n X 1 rfl rfl dX12_goesOn_258 ?_
  refine A_iconst X dX12_goesOn_259 (z := 1) (by decide) ?_
  obtain ⟨g38, h⟩ := gdD h
  refine A_iast X g38 shM_20 dX12_goesOn_260 (fun s39 hy => ?_)
  replace h := ltD h s39 hy
  clear hy
  refine A_aload_n X 0 rfl rfl dX12_goesOn_261 ?_
  obtain ⟨v40, s41, e42, h⟩ := clD h
  refine A_callV_V (na := 0) X (m_X12_next e42) gX12_goesOn_X12_next rfl ⟨rfl, rfl⟩ (by decide +kernel) rfl ⟨Nat.le_of_ble_eq_true rfl, Nat.le_of_ble_eq_true rfl⟩ shM_0 (by decide) rfl rfl (Nat.le_of_ble_eq_true rfl) dX12_goesOn_262 ?_
  refine A_aload_n X 0 rfl rfl dX12_goesOn_265 ?_
  refine A_iconst X dX12_goesOn_266 (z := 0) (by decide) ?_
  refine A_putZ X (Or.inl rfl) fp_X12_goesOn_137 shM_0 (k := 41) rfl (by decide) dX12_goesOn_267 (fun s43 hy => ?_)
  replace h := ltD h s43 hy
  clear hy
  refine A_iconst X dX12_goesOn_270 (z := 1) (by decide) ?_
  exact A_zreturn X (Or.inr rfl) E h dX12_goesOn_271
set_option maxRecDepth 100000 in
set_option maxHeartbeats 4000000 in
theorem w_X12_goesOn_215 {x : aC} {r : Int × Hp} (X : aX x cX12_goesOn wsX12_goesOn RX12 5 rm_X12_goesOn) (E : aE x shM (some .boolean) 0 r) (x1 : Int) (σ : Hp) (h : F_M_goesOn_215 x1 σ = some r) : aS x shM 5 215 [(0, vR 0), (1, vI x1)] [] σ := by
  unfold F_M_goesOn_215 at h
  refine A_aload_n X 0 rfl rfl dX12_goesOn_215 ?_
  refine A_iconst X dX12_goesOn_216 (z := 5) (by decide) ?_
  obtain ⟨v44, s45, e46, h⟩ := clD h
  refine A_callV_V (na := 1) X (m_X12_joins e46) gX12_goesOn_X12_joins rfl ⟨rfl, rfl⟩ (by decide +kernel) rfl ⟨Nat.le_of_ble_eq_true rfl, Nat.le_of_ble_eq_true rfl⟩ shM_0 (by decide) rfl rfl (Nat.le_of_ble_eq_true rfl) dX12_goesOn_217 ?_
  refine A_aload_n X 0 rfl rfl dX12_goesOn_220 ?_
  refine A_aload_n X 0 rfl rfl dX12_goesOn_221 ?_
  refine A_bipush X dX12_goesOn_222 (z := 60) (by decide) ?_
  obtain ⟨v47, s48, e49, h⟩ := clD h
  refine A_callV_I (na := 1) X (m_X12_isSign e49) gX12_goesOn_X12_isSign rfl ⟨rfl, rfl⟩ (by decide +kernel) rfl ⟨Nat.le_of_ble_eq_true rfl, Nat.le_of_ble_eq_true rfl⟩ shM_0 (by decide) rfl rfl (Nat.le_of_ble_eq_true rfl) dX12_goesOn_224 ?_
  refine A_if_eq X (tgt := 235) (by decide) dX12_goesOn_227 (fun c50 => ?_) (fun c50 => ?_)
  · replace h := ifT h c50
    refine A_aload_n X 0 rfl rfl dX12_goesOn_235 ?_
    refine A_bipush X dX12_goesOn_236 (z := 62) (by decide) ?_
    obtain ⟨v51, s52, e53, h⟩ := clD h
    refine A_callV_I (na := 1) X (m_X12_isSign e53) gX12_goesOn_X12_isSign rfl ⟨rfl, rfl⟩ (by decide +kernel) rfl ⟨Nat.le_of_ble_eq_true rfl, Nat.le_of_ble_eq_true rfl⟩ shM_0 (by decide) rfl rfl (Nat.le_of_ble_eq_true rfl) dX12_goesOn_238 ?_
    refine A_if_eq X (tgt := 249) (by decide) dX12_goesOn_241 (fun c54 => ?_) (fun c54 => ?_)
    · replace h := ifT h c54
      refine A_bipush X dX12_goesOn_249 (z := 15) (by decide) ?_
      exact w_X12_goesOn_251 X E x1 15 s52 h
    · replace h := ifF h c54
      refine A_bipush X dX12_goesOn_244 (z := 14) (by decide) ?_
      refine A_goto X (tgt := 251) (by decide) dX12_goesOn_246 ?_
      exact w_X12_goesOn_251 X E x1 14 s52 h
  · replace h := ifF h c50
    refine A_bipush X dX12_goesOn_230 (z := 13) (by decide) ?_
    refine A_goto X (tgt := 251) (by decide) dX12_goesOn_232 ?_
    exact w_X12_goesOn_251 X E x1 13 s48 h
set_option maxRecDepth 100000 in
set_option maxHeartbeats 4000000 in
theorem w_X12_goesOn_359 {x : aC} {r : Int × Hp} (X : aX x cX12_goesOn wsX12_goesOn RX12 5 rm_X12_goesOn) (E : aE x shM (some .boolean) 0 r) (x1 : Int) (t2 : Int) (σ : Hp) (h : F_M_goesOn_359 x1 t2 σ = some r) : aS x shM 5 359 [(0, vR 0), (1, vI x1)] [vI t2, vR 0] σ := by
  unfold F_M_goesOn_359 at h
  obtain ⟨v55, s56, e57, h⟩ := clD h
  refine A_callV_V (na := 1) X (m_X12_holdsBack e57) gX12_goesOn_X12_holdsBack rfl ⟨rfl, rfl⟩ (by decide +kernel) rfl ⟨Nat.le_of_ble_eq_true rfl, Nat.le_of_ble_eq_true rfl⟩ shM_0 (by decide) rfl rfl (Nat.le_of_ble_eq_true rfl) dX12_goesOn_359 ?_
  refine A_aload_n X 0 rfl rfl dX12_goesOn_362 ?_
  refine A_getR X fg_X12_goesOn_113 shM_0 (k := 33) rfl (by decide) dX12_goesOn_363 ?_
  refine A_iload_n X 1 rfl rfl dX12_goesOn_366 ?_
  refine A_iconst X dX12_goesOn_367 (z := 0) (by decide) ?_
  obtain ⟨g58, h⟩ := gdD h
  refine A_iast X g58 shM_20 dX12_goesOn_368 (fun s59 hy => ?_)
  replace h := ltD h s59 hy
  clear hy
  refine A_aload_n X 0 rfl rfl dX12_goesOn_369 ?_
  refine A_getR X fg_X12_goesOn_116 shM_0 (k := 34) rfl (by decide) dX12_goesOn_370 ?_
  refine A_iload_n X 1 rfl rfl dX12_goesOn_373 ?_
  refine A_iconst X dX12_goesOn_374 (z := 1) (by decide) ?_
  obtain ⟨g60, h⟩ := gdD h
  refine A_zast X g60 shM_21 dX12_goesOn_375 (fun s61 hy => ?_)
  replace h := ltD h s61 hy
  clear hy
  refine A_aload_n X 0 rfl rfl dX12_goesOn_376 ?_
  obtain ⟨v62, s63, e64, h⟩ := clD h
  refine A_callV_V (na := 0) X (m_X12_next e64) gX12_goesOn_X12_next rfl ⟨rfl, rfl⟩ (by decide +kernel) rfl ⟨Nat.le_of_ble_eq_true rfl, Nat.le_of_ble_eq_true rfl⟩ shM_0 (by decide) rfl rfl (Nat.le_of_ble_eq_true rfl) dX12_goesOn_377 ?_
  refine A_aload_n X 0 rfl rfl dX12_goesOn_380 ?_
  refine A_iconst X dX12_goesOn_381 (z := 0) (by decide) ?_
  refine A_putZ X (Or.inl rfl) fp_X12_goesOn_137 shM_0 (k := 41) rfl (by decide) dX12_goesOn_382 (fun s65 hy => ?_)
  replace h := ltD h s65 hy
  clear hy
  refine A_iconst X dX12_goesOn_385 (z := 1) (by decide) ?_
  exact A_zreturn X (Or.inr rfl) E h dX12_goesOn_386
set_option maxRecDepth 100000 in
set_option maxHeartbeats 4000000 in
theorem w_X12_goesOn_343 {x : aC} {r : Int × Hp} (X : aX x cX12_goesOn wsX12_goesOn RX12 5 rm_X12_goesOn) (E : aE x shM (some .boolean) 0 r) (x1 : Int) (x4 : Int) (t2 : Int) (σ : Hp) (h : F_M_goesOn_343 x1 x4 t2 σ = some r) : aS x shM 5 343 [(0, vR 0), (1, vI x1), (4, vI x4)] [vI t2, vR 0] σ := by
  unfold F_M_goesOn_343 at h
  obtain ⟨v66, s67, e68, h⟩ := clD h
  refine A_callV_V (na := 1) X (m_X12_joins e68) gX12_goesOn_X12_joins rfl ⟨rfl, rfl⟩ (by decide +kernel) rfl ⟨Nat.le_of_ble_eq_true rfl, Nat.le_of_ble_eq_true rfl⟩ shM_0 (by decide) rfl rfl (Nat.le_of_ble_eq_true rfl) dX12_goesOn_343 ?_
  refine A_aload_n X 0 rfl rfl dX12_goesOn_346 ?_
  refine A_iload X 2 rfl dX12_goesOn_347 ?_
  refine A_if_eq X (tgt := 357) (by decide) dX12_goesOn_349 (fun c69 => ?_) (fun c69 => ?_)
  · replace h := ifT h c69
    refine A_bipush X dX12_goesOn_357 (z := 17) (by decide) ?_
    refine A_sub [0, 1] rfl (L' := [(0, vR 0), (1, vI x1)]) rfl ?_
    exact w_X12_goesOn_359 X E x1 17 s67 h
  · replace h := ifF h c69
    refine A_bipush X dX12_goesOn_352 (z := 16) (by decide) ?_
    refine A_goto X (tgt := 359) (by decide) dX12_goesOn_354 ?_
    refine A_sub [0, 1] rfl (L' := [(0, vR 0), (1, vI x1)]) rfl ?_
    exact w_X12_goesOn_359 X E x1 16 s67 h
set_option maxRecDepth 100000 in
set_option maxHeartbeats 4000000 in
theorem w_X12_goesOn_314 {x : aC} {r : Int × Hp} (X : aX x cX12_goesOn wsX12_goesOn RX12 5 rm_X12_goesOn) (E : aE x shM (some .boolean) 0 r) (x1 : Int) (σ : Hp) (h : F_M_goesOn_314 x1 σ = some r) : aS x shM 5 314 [(0, vR 0), (1, vI x1)] [] σ := by
  unfold F_M_goesOn_314 at h
  refine A_aload_n X 0 rfl rfl dX12_goesOn_314 ?_
  refine A_getI X fg_X12_goesOn_36 shM_0 (k := 8) rfl (by decide) dX12_goesOn_315 ?_
  refine A_if_le X (tgt := 323) (by decide) dX12_goesOn_318 (fun c70 => ?_) (fun c70 => ?_)
  · replace h := ifT h c70
    refine A_aload_n X 0 rfl rfl dX12_goesOn_323 ?_
    refine A_ldc2 X (v := (6385252)) (List.mem_of_getElem? (i := 5) rfl) dX12_goesOn_324 (z := 6385252) (by decide +kernel) ?_
    obtain ⟨v71, s72, e73, h⟩ := clD h
    refine A_callV_I (na := 1) X (m_X12_isWord e73) gX12_goesOn_X12_isWord rfl ⟨rfl, rfl⟩ (by decide +kernel) rfl ⟨Nat.le_of_ble_eq_true rfl, Nat.le_of_ble_eq_true rfl⟩ shM_0 (by decide) rfl rfl (Nat.le_of_ble_eq_true rfl) dX12_goesOn_327 ?_
    refine A_istore X (L' := [(4, vI v71), (0, vR 0), (1, vI x1)]) (by decide) rfl dX12_goesOn_330 ?_
    refine A_aload_n X 1 rfl rfl dX12_goesOn_332 ?_
    refine A_iload X 0 rfl dX12_goesOn_333 ?_
    refine A_if_eq X (tgt := 342) (by decide) dX12_goesOn_335 (fun c74 => ?_) (fun c74 => ?_)
    · replace h := ifT h c74
      refine A_iconst X dX12_goesOn_342 (z := 1) (by decide) ?_
      refine A_sub [1, 2, 0] rfl (L' := [(0, vR 0), (1, vI x1), (4, vI v71)]) rfl ?_
      exact w_X12_goesOn_343 X E x1 v71 1 s72 h
    · replace h := ifF h c74
      refine A_iconst X dX12_goesOn_338 (z := 2) (by decide) ?_
      refine A_goto X (tgt := 343) (by decide) dX12_goesOn_339 ?_
      refine A_sub [1, 2, 0] rfl (L' := [(0, vR 0), (1, vI x1), (4, vI v71)]) rfl ?_
      exact w_X12_goesOn_343 X E x1 v71 2 s72 h
  · replace h := ifF h c70
    refine A_iconst X dX12_goesOn_321 (z := 0) (by decide) ?_
    exact A_zreturn X (Or.inl rfl) E h dX12_goesOn_322
set_option maxRecDepth 100000 in
set_option maxHeartbeats 4000000 in
theorem w_X12_goesOn_296 {x : aC} {r : Int × Hp} (X : aX x cX12_goesOn wsX12_goesOn RX12 5 rm_X12_goesOn) (E : aE x shM (some .boolean) 0 r) (x1 : Int) (σ : Hp) (h : F_M_goesOn_296 x1 σ = some r) : aS x shM 5 296 [(0, vR 0), (1, vI x1)] [] σ := by
  unfold F_M_goesOn_296 at h
  refine A_aload_n X 0 rfl rfl dX12_goesOn_296 ?_
  refine A_getR X fg_X12_goesOn_113 shM_0 (k := 33) rfl (by decide) dX12_goesOn_297 ?_
  refine A_iload_n X 1 rfl rfl dX12_goesOn_300 ?_
  obtain ⟨g75, h⟩ := gdD h
  refine A_iald X g75 shM_20 dX12_goesOn_301 ?_
  refine A_if_ne X (tgt := 314) (by decide) dX12_goesOn_302 (fun c76 => ?_) (fun c76 => ?_)
  · replace h := ifF h c76
    exact w_X12_goesOn_314 X E x1 σ h
  · replace h := ifT h c76
    refine A_aload_n X 0 rfl rfl dX12_goesOn_305 ?_
    refine A_iconst X dX12_goesOn_306 (z := 1) (by decide) ?_
    refine A_aload_n X 0 rfl rfl dX12_goesOn_307 ?_
    refine A_getI X fg_X12_goesOn_23 shM_0 (k := 4) rfl (by decide) dX12_goesOn_308 ?_
    obtain ⟨v77, s78, e79, h⟩ := clD h
    refine A_callV_V (na := 2) X (m_X12_blame e79) gX12_goesOn_X12_blame rfl ⟨rfl, rfl⟩ (by decide +kernel) rfl ⟨Nat.le_of_ble_eq_true rfl, Nat.le_of_ble_eq_true rfl⟩ shM_0 (by decide) rfl rfl (Nat.le_of_ble_eq_true rfl) dX12_goesOn_311 ?_
    exact w_X12_goesOn_314 X E x1 s78 h
set_option maxRecDepth 100000 in
set_option maxHeartbeats 4000000 in
theorem w_X12_goesOn_426 {x : aC} {r : Int × Hp} (X : aX x cX12_goesOn wsX12_goesOn RX12 5 rm_X12_goesOn) (E : aE x shM (some .boolean) 0 r) (σ : Hp) (h : F_M_goesOn_426 σ = some r) : aS x shM 5 426 [] [] σ := by
  unfold F_M_goesOn_426 at h
  refine A_iconst X dX12_goesOn_426 (z := 0) (by decide) ?_
  exact A_zreturn X (Or.inl rfl) E h dX12_goesOn_427
set_option maxRecDepth 100000 in
set_option maxHeartbeats 4000000 in
theorem w_X12_goesOn_451 {x : aC} {r : Int × Hp} (X : aX x cX12_goesOn wsX12_goesOn RX12 5 rm_X12_goesOn) (E : aE x shM (some .boolean) 0 r) (x1 : Int) (σ : Hp) (h : F_M_goesOn_451 x1 σ = some r) : aS x shM 5 451 [(0, vR 0), (1, vI x1)] [] σ := by
  unfold F_M_goesOn_451 at h
  refine A_aload_n X 0 rfl rfl dX12_goesOn_451 ?_
  refine A_getI X fg_X12_goesOn_36 shM_0 (k := 8) rfl (by decide) dX12_goesOn_452 ?_
  refine A_if_le X (tgt := 460) (by decide) dX12_goesOn_455 (fun c80 => ?_) (fun c80 => ?_)
  · replace h := ifT h c80
    refine A_aload_n X 0 rfl rfl dX12_goesOn_460 ?_
    refine A_iconst X dX12_goesOn_461 (z := 1) (by decide) ?_
    obtain ⟨v81, s82, e83, h⟩ := clD h
    refine A_callV_V (na := 1) X (m_X12_joins e83) gX12_goesOn_X12_joins rfl ⟨rfl, rfl⟩ (by decide +kernel) rfl ⟨Nat.le_of_ble_eq_true rfl, Nat.le_of_ble_eq_true rfl⟩ shM_0 (by decide) rfl rfl (Nat.le_of_ble_eq_true rfl) dX12_goesOn_462 ?_
    refine A_aload_n X 0 rfl rfl dX12_goesOn_465 ?_
    refine A_getR X fg_X12_goesOn_110 shM_0 (k := 32) rfl (by decide) dX12_goesOn_466 ?_
    refine A_iload_n X 1 rfl rfl dX12_goesOn_469 ?_
    refine A_iconst X dX12_goesOn_470 (z := 4) (by decide) ?_
    obtain ⟨g84, h⟩ := gdD h
    refine A_iast X g84 shM_19 dX12_goesOn_471 (fun s85 hy => ?_)
    replace h := ltD h s85 hy
    clear hy
    refine A_aload_n X 0 rfl rfl dX12_goesOn_472 ?_
    obtain ⟨v86, s87, e88, h⟩ := clD h
    refine A_callV_V (na := 0) X (m_X12_next e88) gX12_goesOn_X12_next rfl ⟨rfl, rfl⟩ (by decide +kernel) rfl ⟨Nat.le_of_ble_eq_true rfl, Nat.le_of_ble_eq_true rfl⟩ shM_0 (by decide) rfl rfl (Nat.le_of_ble_eq_true rfl) dX12_goesOn_473 ?_
    refine A_aload_n X 0 rfl rfl dX12_goesOn_476 ?_
    refine A_iconst X dX12_goesOn_477 (z := 0) (by decide) ?_
    refine A_putZ X (Or.inl rfl) fp_X12_goesOn_137 shM_0 (k := 41) rfl (by decide) dX12_goesOn_478 (fun s89 hy => ?_)
    replace h := ltD h s89 hy
    clear hy
    refine A_iconst X dX12_goesOn_481 (z := 1) (by decide) ?_
    exact A_zreturn X (Or.inr rfl) E h dX12_goesOn_482
  · replace h := ifF h c80
    refine A_iconst X dX12_goesOn_458 (z := 0) (by decide) ?_
    exact A_zreturn X (Or.inl rfl) E h dX12_goesOn_459
set_option maxRecDepth 100000 in
set_option maxHeartbeats 4000000 in
theorem w_X12_goesOn_578 {x : aC} {r : Int × Hp} (X : aX x cX12_goesOn wsX12_goesOn RX12 5 rm_X12_goesOn) (E : aE x shM (some .boolean) 0 r) (σ : Hp) (h : F_M_goesOn_578 σ = some r) : aS x shM 5 578 [(0, vR 0)] [] σ := by
  unfold F_M_goesOn_578 at h
  refine A_aload_n X 0 rfl rfl dX12_goesOn_578 ?_
  obtain ⟨v90, s91, e92, h⟩ := clD h
  refine A_callV_V (na := 0) X (m_X12_next e92) gX12_goesOn_X12_next rfl ⟨rfl, rfl⟩ (by decide +kernel) rfl ⟨Nat.le_of_ble_eq_true rfl, Nat.le_of_ble_eq_true rfl⟩ shM_0 (by decide) rfl rfl (Nat.le_of_ble_eq_true rfl) dX12_goesOn_579 ?_
  refine A_iconst X dX12_goesOn_582 (z := 1) (by decide) ?_
  exact A_zreturn X (Or.inr rfl) E h dX12_goesOn_583
set_option maxRecDepth 100000 in
set_option maxHeartbeats 4000000 in
theorem w_X12_goesOn_561 {x : aC} {r : Int × Hp} (X : aX x cX12_goesOn wsX12_goesOn RX12 5 rm_X12_goesOn) (E : aE x shM (some .boolean) 0 r) (x2 : Int) (σ : Hp) (h : F_M_goesOn_561 x2 σ = some r) : aS x shM 5 561 [(0, vR 0), (2, vI x2)] [] σ := by
  unfold F_M_goesOn_561 at h
  refine A_iload_n X 1 rfl rfl dX12_goesOn_561 ?_
  refine A_iconst X dX12_goesOn_562 (z := 5) (by decide) ?_
  refine A_icmp_ne X (tgt := 578) (by decide) dX12_goesOn_563 (fun c93 => ?_) (fun c93 => ?_)
  · replace h := ifF h c93
    refine A_sub [0] rfl (L' := [(0, vR 0)]) rfl ?_
    exact w_X12_goesOn_578 X E σ h
  · replace h := ifT h c93
    refine A_aload_n X 0 rfl rfl dX12_goesOn_566 ?_
    refine A_getR X fg_X12_goesOn_113 shM_0 (k := 33) rfl (by decide) dX12_goesOn_567 ?_
    refine A_aload_n X 0 rfl rfl dX12_goesOn_570 ?_
    refine A_getI X fg_X12_goesOn_125 shM_0 (k := 37) rfl (by decide) dX12_goesOn_571 ?_
    refine A_iconst X dX12_goesOn_574 (z := 1) (by decide) ?_
    refine A_isub X dX12_goesOn_575 ?_
    refine A_iconst X dX12_goesOn_576 (z := 2) (by decide) ?_
    obtain ⟨g94, h⟩ := gdD h
    refine A_iast X g94 shM_20 dX12_goesOn_577 (fun s95 hy => ?_)
    replace h := ltD h s95 hy
    clear hy
    refine A_sub [0] rfl (L' := [(0, vR 0)]) rfl ?_
    exact w_X12_goesOn_578 X E s95 h
set_option maxRecDepth 100000 in
set_option maxHeartbeats 4000000 in
theorem w_X12_goesOn_511 {x : aC} {r : Int × Hp} (X : aX x cX12_goesOn wsX12_goesOn RX12 5 rm_X12_goesOn) (E : aE x shM (some .boolean) 0 r) (x1 : Int) (x2 : Int) (σ : Hp) (h : F_M_goesOn_511 x1 x2 σ = some r) : aS x shM 5 511 [(0, vR 0), (1, vI x1), (2, vI x2)] [] σ := by
  unfold F_M_goesOn_511 at h
  refine A_aload_n X 0 rfl rfl dX12_goesOn_511 ?_
  refine A_getI X fg_X12_goesOn_36 shM_0 (k := 8) rfl (by decide) dX12_goesOn_512 ?_
  refine A_if_le X (tgt := 520) (by decide) dX12_goesOn_515 (fun c96 => ?_) (fun c96 => ?_)
  · replace h := ifT h c96
    refine A_aload_n X 0 rfl rfl dX12_goesOn_520 ?_
    refine A_iconst X dX12_goesOn_521 (z := 1) (by decide) ?_
    obtain ⟨v97, s98, e99, h⟩ := clD h
    refine A_callV_V (na := 1) X (m_X12_joins e99) gX12_goesOn_X12_joins rfl ⟨rfl, rfl⟩ (by decide +kernel) rfl ⟨Nat.le_of_ble_eq_true rfl, Nat.le_of_ble_eq_true rfl⟩ shM_0 (by decide) rfl rfl (Nat.le_of_ble_eq_true rfl) dX12_goesOn_522 ?_
    refine A_aload_n X 0 rfl rfl dX12_goesOn_525 ?_
    refine A_dup X (by show ¬ (2 : Nat) = 1; decide) dX12_goesOn_526 ?_
    refine A_getI X fg_X12_goesOn_125 shM_0 (k := 37) rfl (by decide) dX12_goesOn_527 ?_
    refine A_iconst X dX12_goesOn_530 (z := 1) (by decide) ?_
    refine A_isub X dX12_goesOn_531 ?_
    refine A_putI X fp_X12_goesOn_125 shM_0 (k := 37) rfl (by decide) dX12_goesOn_532 (fun s100 hy => ?_)
    replace h := ltD h s100 hy
    clear hy
    refine A_aload_n X 0 rfl rfl dX12_goesOn_535 ?_
    refine A_dup X (by show ¬ (2 : Nat) = 1; decide) dX12_goesOn_536 ?_
    refine A_getI X fg_X12_goesOn_128 shM_0 (k := 38) rfl (by decide) dX12_goesOn_537 ?_
    refine A_iconst X dX12_goesOn_540 (z := 1) (by decide) ?_
    refine A_isub X dX12_goesOn_541 ?_
    refine A_putI X fp_X12_goesOn_128 shM_0 (k := 38) rfl (by decide) dX12_goesOn_542 (fun s101 hy => ?_)
    replace h := ltD h s101 hy
    clear hy
    refine A_iload_n X 2 rfl rfl dX12_goesOn_545 ?_
    refine A_iconst X dX12_goesOn_546 (z := 4) (by decide) ?_
    refine A_icmp_ne X (tgt := 561) (by decide) dX12_goesOn_547 (fun c102 => ?_) (fun c102 => ?_)
    · replace h := ifF h c102
      refine A_sub [0, 2] rfl (L' := [(0, vR 0), (2, vI x2)]) rfl ?_
      exact w_X12_goesOn_561 X E x2 s101 h
    · replace h := ifT h c102
      refine A_aload_n X 0 rfl rfl dX12_goesOn_550 ?_
      refine A_aload_n X 0 rfl rfl dX12_goesOn_551 ?_
      refine A_getR X fg_X12_goesOn_119 shM_0 (k := 35) rfl (by decide) dX12_goesOn_552 ?_
      refine A_iload_n X 1 rfl rfl dX12_goesOn_555 ?_
      obtain ⟨g103, h⟩ := gdD h
      refine A_iald X g103 shM_22 dX12_goesOn_556 ?_
      refine A_iconst X dX12_goesOn_557 (z := 0) (by decide) ?_
      obtain ⟨v104, s105, e106, h⟩ := clD h
      refine A_callV_V (na := 2) X (m_X12_add e106) gX12_goesOn_X12_add rfl ⟨rfl, rfl⟩ (by decide +kernel) rfl ⟨Nat.le_of_ble_eq_true rfl, Nat.le_of_ble_eq_true rfl⟩ shM_0 (by decide) rfl rfl (Nat.le_of_ble_eq_true rfl) dX12_goesOn_558 ?_
      refine A_sub [0, 2] rfl (L' := [(0, vR 0), (2, vI x2)]) rfl ?_
      exact w_X12_goesOn_561 X E x2 s105 h
  · replace h := ifF h c96
    refine A_iconst X dX12_goesOn_518 (z := 0) (by decide) ?_
    exact A_zreturn X (Or.inl rfl) E h dX12_goesOn_519
set_option maxRecDepth 100000 in
set_option maxHeartbeats 4000000 in
theorem w_X12_goesOn_496 {x : aC} {r : Int × Hp} (X : aX x cX12_goesOn wsX12_goesOn RX12 5 rm_X12_goesOn) (E : aE x shM (some .boolean) 0 r) (x1 : Int) (x2 : Int) (t2 : Int) (σ : Hp) (h : F_M_goesOn_496 x1 x2 t2 σ = some r) : aS x shM 5 496 [(0, vR 0), (1, vI x1), (2, vI x2)] [vI t2, vR 0] σ := by
  unfold F_M_goesOn_496 at h
  obtain ⟨v107, s108, e109, h⟩ := clD h
  refine A_callV_I (na := 1) X (m_X12_isSign e109) gX12_goesOn_X12_isSign rfl ⟨rfl, rfl⟩ (by decide +kernel) rfl ⟨Nat.le_of_ble_eq_true rfl, Nat.le_of_ble_eq_true rfl⟩ shM_0 (by decide) rfl rfl (Nat.le_of_ble_eq_true rfl) dX12_goesOn_496 ?_
  refine A_if_ne X (tgt := 511) (by decide) dX12_goesOn_499 (fun c110 => ?_) (fun c110 => ?_)
  · replace h := ifF h c110
    exact w_X12_goesOn_511 X E x1 x2 s108 h
  · replace h := ifT h c110
    refine A_aload_n X 0 rfl rfl dX12_goesOn_502 ?_
    refine A_iconst X dX12_goesOn_503 (z := 1) (by decide) ?_
    refine A_aload_n X 0 rfl rfl dX12_goesOn_504 ?_
    refine A_getI X fg_X12_goesOn_23 shM_0 (k := 4) rfl (by decide) dX12_goesOn_505 ?_
    obtain ⟨v111, s112, e113, h⟩ := clD h
    refine A_callV_V (na := 2) X (m_X12_blame e113) gX12_goesOn_X12_blame rfl ⟨rfl, rfl⟩ (by decide +kernel) rfl ⟨Nat.le_of_ble_eq_true rfl, Nat.le_of_ble_eq_true rfl⟩ shM_0 (by decide) rfl rfl (Nat.le_of_ble_eq_true rfl) dX12_goesOn_508 ?_
    exact w_X12_goesOn_511 X E x1 x2 s112 h
set_option maxRecDepth 100000 in
set_option maxHeartbeats 4000000 in
theorem w_X12_goesOn_409 {x : aC} {r : Int × Hp} (X : aX x cX12_goesOn wsX12_goesOn RX12 5 rm_X12_goesOn) (E : aE x shM (some .boolean) 0 r) (x1 : Int) (x2 : Int) (σ : Hp) (h : F_M_goesOn_409 x1 x2 σ = some r) : aS x shM 5 409 [(0, vR 0), (1, vI x1), (2, vI x2)] [] σ := by
  unfold F_M_goesOn_409 at h
  refine A_iload_n X 2 rfl rfl dX12_goesOn_409 ?_
  refine A_iconst X dX12_goesOn_410 (z := 2) (by decide) ?_
  refine A_icmp_ge X (tgt := 428) (by decide) dX12_goesOn_411 (fun c114 => ?_) (fun c114 => ?_)
  · replace h := ifT h c114
    refine A_iload_n X 2 rfl rfl dX12_goesOn_428 ?_
    refine A_iconst X dX12_goesOn_429 (z := 3) (by decide) ?_
    refine A_icmp_ne X (tgt := 483) (by decide) dX12_goesOn_430 (fun c115 => ?_) (fun c115 => ?_)
    · replace h := ifF h c115
      refine A_aload_n X 0 rfl rfl dX12_goesOn_483 ?_
      refine A_iload_n X 2 rfl rfl dX12_goesOn_484 ?_
      refine A_iconst X dX12_goesOn_485 (z := 5) (by decide) ?_
      refine A_icmp_ne X (tgt := 494) (by decide) dX12_goesOn_486 (fun c116 => ?_) (fun c116 => ?_)
      · replace h := ifF h c116
        refine A_bipush X dX12_goesOn_494 (z := 41) (by decide) ?_
        exact w_X12_goesOn_496 X E x1 x2 41 σ h
      · replace h := ifT h c116
        refine A_bipush X dX12_goesOn_489 (z := 93) (by decide) ?_
        refine A_goto X (tgt := 496) (by decide) dX12_goesOn_491 ?_
        exact w_X12_goesOn_496 X E x1 x2 93 σ h
    · replace h := ifT h c115
      refine A_aload_n X 0 rfl rfl dX12_goesOn_433 ?_
      refine A_bipush X dX12_goesOn_434 (z := 44) (by decide) ?_
      obtain ⟨v117, s118, e119, h⟩ := clD h
      refine A_callV_I (na := 1) X (m_X12_isSign e119) gX12_goesOn_X12_isSign rfl ⟨rfl, rfl⟩ (by decide +kernel) rfl ⟨Nat.le_of_ble_eq_true rfl, Nat.le_of_ble_eq_true rfl⟩ shM_0 (by decide) rfl rfl (Nat.le_of_ble_eq_true rfl) dX12_goesOn_436 ?_
      refine A_if_ne X (tgt := 451) (by decide) dX12_goesOn_439 (fun c120 => ?_) (fun c120 => ?_)
      · replace h := ifF h c120
        refine A_sub [0, 1] rfl (L' := [(0, vR 0), (1, vI x1)]) rfl ?_
        exact w_X12_goesOn_451 X E x1 s118 h
      · replace h := ifT h c120
        refine A_aload_n X 0 rfl rfl dX12_goesOn_442 ?_
        refine A_iconst X dX12_goesOn_443 (z := 1) (by decide) ?_
        refine A_aload_n X 0 rfl rfl dX12_goesOn_444 ?_
        refine A_getI X fg_X12_goesOn_23 shM_0 (k := 4) rfl (by decide) dX12_goesOn_445 ?_
        obtain ⟨v121, s122, e123, h⟩ := clD h
        refine A_callV_V (na := 2) X (m_X12_blame e123) gX12_goesOn_X12_blame rfl ⟨rfl, rfl⟩ (by decide +kernel) rfl ⟨Nat.le_of_ble_eq_true rfl, Nat.le_of_ble_eq_true rfl⟩ shM_0 (by decide) rfl rfl (Nat.le_of_ble_eq_true rfl) dX12_goesOn_448 ?_
        refine A_sub [0, 1] rfl (L' := [(0, vR 0), (1, vI x1)]) rfl ?_
        exact w_X12_goesOn_451 X E x1 s122 h
  · replace h := ifF h c114
    refine A_aload_n X 0 rfl rfl dX12_goesOn_414 ?_
    refine A_getI X fg_X12_goesOn_36 shM_0 (k := 8) rfl (by decide) dX12_goesOn_415 ?_
    refine A_if_ne X (tgt := 426) (by decide) dX12_goesOn_418 (fun c124 => ?_) (fun c124 => ?_)
    · replace h := ifF h c124
      refine A_sub [] rfl (L' := []) rfl ?_
      exact w_X12_goesOn_426 X E σ h
    · replace h := ifT h c124
      refine A_aload_n X 0 rfl rfl dX12_goesOn_421 ?_
      refine A_iconst X dX12_goesOn_422 (z := 1) (by decide) ?_
      obtain ⟨v125, s126, e127, h⟩ := clD h
      refine A_callV_V (na := 1) X (m_X12_joins e127) gX12_goesOn_X12_joins rfl ⟨rfl, rfl⟩ (by decide +kernel) rfl ⟨Nat.le_of_ble_eq_true rfl, Nat.le_of_ble_eq_true rfl⟩ shM_0 (by decide) rfl rfl (Nat.le_of_ble_eq_true rfl) dX12_goesOn_423 ?_
      refine A_sub [] rfl (L' := []) rfl ?_
      exact w_X12_goesOn_426 X E s126 h
set_option maxRecDepth 100000 in
set_option maxHeartbeats 4000000 in
theorem w_X12_goesOn_387 {x : aC} {r : Int × Hp} (X : aX x cX12_goesOn wsX12_goesOn RX12 5 rm_X12_goesOn) (E : aE x shM (some .boolean) 0 r) (x1 : Int) (x2 : Int) (x3 : Int) (σ : Hp) (h : F_M_goesOn_387 x1 x2 x3 σ = some r) : aS x shM 5 387 [(0, vR 0), (1, vI x1), (2, vI x2), (3, vI x3)] [] σ := by
  unfold F_M_goesOn_387 at h
  refine A_iload_n X 3 rfl rfl dX12_goesOn_387 ?_
  refine A_if_eq X (tgt := 409) (by decide) dX12_goesOn_388 (fun c128 => ?_) (fun c128 => ?_)
  · replace h := ifT h c128
    refine A_sub [0, 1, 2] rfl (L' := [(0, vR 0), (1, vI x1), (2, vI x2)]) rfl ?_
    exact w_X12_goesOn_409 X E x1 x2 σ h
  · replace h := ifF h c128
    refine A_aload_n X 0 rfl rfl dX12_goesOn_391 ?_
    refine A_getR X fg_X12_goesOn_113 shM_0 (k := 33) rfl (by decide) dX12_goesOn_392 ?_
    refine A_iload_n X 1 rfl rfl dX12_goesOn_395 ?_
    obtain ⟨g129, h⟩ := gdD h
    refine A_iald X g129 shM_20 dX12_goesOn_396 ?_
    refine A_if_ne X (tgt := 409) (by decide) dX12_goesOn_397 (fun c130 => ?_) (fun c130 => ?_)
    · replace h := ifF h c130
      refine A_sub [0, 1, 2] rfl (L' := [(0, vR 0), (1, vI x1), (2, vI x2)]) rfl ?_
      exact w_X12_goesOn_409 X E x1 x2 σ h
    · replace h := ifT h c130
      refine A_aload_n X 0 rfl rfl dX12_goesOn_400 ?_
      refine A_iconst X dX12_goesOn_401 (z := 1) (by decide) ?_
      refine A_aload_n X 0 rfl rfl dX12_goesOn_402 ?_
      refine A_getI X fg_X12_goesOn_23 shM_0 (k := 4) rfl (by decide) dX12_goesOn_403 ?_
      obtain ⟨v131, s132, e133, h⟩ := clD h
      refine A_callV_V (na := 2) X (m_X12_blame e133) gX12_goesOn_X12_blame rfl ⟨rfl, rfl⟩ (by decide +kernel) rfl ⟨Nat.le_of_ble_eq_true rfl, Nat.le_of_ble_eq_true rfl⟩ shM_0 (by decide) rfl rfl (Nat.le_of_ble_eq_true rfl) dX12_goesOn_406 ?_
      refine A_sub [0, 1, 2] rfl (L' := [(0, vR 0), (1, vI x1), (2, vI x2)]) rfl ?_
      exact w_X12_goesOn_409 X E x1 x2 s132 h
set_option maxRecDepth 100000 in
set_option maxHeartbeats 4000000 in
theorem w_X12_goesOn_272 {x : aC} {r : Int × Hp} (X : aX x cX12_goesOn wsX12_goesOn RX12 5 rm_X12_goesOn) (E : aE x shM (some .boolean) 0 r) (x1 : Int) (x2 : Int) (x3 : Int) (σ : Hp) (h : F_M_goesOn_272 x1 x2 x3 σ = some r) : aS x shM 5 272 [(0, vR 0), (1, vI x1), (2, vI x2), (3, vI x3)] [] σ := by
  unfold F_M_goesOn_272 at h
  refine A_iload_n X 3 rfl rfl dX12_goesOn_272 ?_
  refine A_if_eq X (tgt := 387) (by decide) dX12_goesOn_273 (fun c134 => ?_) (fun c134 => ?_)
  · replace h := ifT h c134
    exact w_X12_goesOn_387 X E x1 x2 x3 σ h
  · replace h := ifF h c134
    refine A_aload_n X 0 rfl rfl dX12_goesOn_276 ?_
    refine A_ldc2 X (v := (6385252)) (List.mem_of_getElem? (i := 5) rfl) dX12_goesOn_277 (z := 6385252) (by decide +kernel) ?_
    obtain ⟨v135, s136, e137, h⟩ := clD h
    refine A_callV_I (na := 1) X (m_X12_isWord e137) gX12_goesOn_X12_isWord rfl ⟨rfl, rfl⟩ (by decide +kernel) rfl ⟨Nat.le_of_ble_eq_true rfl, Nat.le_of_ble_eq_true rfl⟩ shM_0 (by decide) rfl rfl (Nat.le_of_ble_eq_true rfl) dX12_goesOn_280 ?_
    refine A_if_ne X (tgt := 296) (by decide) dX12_goesOn_283 (fun c138 => ?_) (fun c138 => ?_)
    · replace h := ifF h c138
      refine A_sub [0, 1] rfl (L' := [(0, vR 0), (1, vI x1)]) rfl ?_
      exact w_X12_goesOn_296 X E x1 s136 h
    · replace h := ifT h c138
      refine A_aload_n X 0 rfl rfl dX12_goesOn_286 ?_
      refine A_ldc2 X (v := (28530)) (List.mem_of_getElem? (i := 6) rfl) dX12_goesOn_287 (z := 28530) (by decide +kernel) ?_
      obtain ⟨v139, s140, e141, h⟩ := clD h
      refine A_callV_I (na := 1) X (m_X12_isWord e141) gX12_goesOn_X12_isWord rfl ⟨rfl, rfl⟩ (by decide +kernel) rfl ⟨Nat.le_of_ble_eq_true rfl, Nat.le_of_ble_eq_true rfl⟩ shM_0 (by decide) rfl rfl (Nat.le_of_ble_eq_true rfl) dX12_goesOn_290 ?_
      refine A_if_eq X (tgt := 387) (by decide) dX12_goesOn_293 (fun c142 => ?_) (fun c142 => ?_)
      · replace h := ifT h c142
        exact w_X12_goesOn_387 X E x1 x2 x3 s140 h
      · replace h := ifF h c142
        refine A_sub [0, 1] rfl (L' := [(0, vR 0), (1, vI x1)]) rfl ?_
        exact w_X12_goesOn_296 X E x1 s140 h
set_option maxRecDepth 100000 in
set_option maxHeartbeats 4000000 in
theorem w_X12_goesOn_175 {x : aC} {r : Int × Hp} (X : aX x cX12_goesOn wsX12_goesOn RX12 5 rm_X12_goesOn) (E : aE x shM (some .boolean) 0 r) (x1 : Int) (x2 : Int) (x3 : Int) (σ : Hp) (h : F_M_goesOn_175 x1 x2 x3 σ = some r) : aS x shM 5 175 [(0, vR 0), (1, vI x1), (2, vI x2), (3, vI x3)] [] σ := by
  unfold F_M_goesOn_175 at h
  refine A_iload_n X 3 rfl rfl dX12_goesOn_175 ?_
  refine A_if_eq X (tgt := 272) (by decide) dX12_goesOn_176 (fun c143 => ?_) (fun c143 => ?_)
  · replace h := ifT h c143
    exact w_X12_goesOn_272 X E x1 x2 x3 σ h
  · replace h := ifF h c143
    refine A_aload_n X 0 rfl rfl dX12_goesOn_179 ?_
    refine A_getR X fg_X12_goesOn_113 shM_0 (k := 33) rfl (by decide) dX12_goesOn_180 ?_
    refine A_iload_n X 1 rfl rfl dX12_goesOn_183 ?_
    obtain ⟨g144, h⟩ := gdD h
    refine A_iald X g144 shM_20 dX12_goesOn_184 ?_
    refine A_if_ne X (tgt := 272) (by decide) dX12_goesOn_185 (fun c145 => ?_) (fun c145 => ?_)
    · replace h := ifF h c145
      exact w_X12_goesOn_272 X E x1 x2 x3 σ h
    · replace h := ifT h c145
      refine A_aload_n X 0 rfl rfl dX12_goesOn_188 ?_
      refine A_bipush X dX12_goesOn_189 (z := 60) (by decide) ?_
      obtain ⟨v146, s147, e148, h⟩ := clD h
      refine A_callV_I (na := 1) X (m_X12_isSign e148) gX12_goesOn_X12_isSign rfl ⟨rfl, rfl⟩ (by decide +kernel) rfl ⟨Nat.le_of_ble_eq_true rfl, Nat.le_of_ble_eq_true rfl⟩ shM_0 (by decide) rfl rfl (Nat.le_of_ble_eq_true rfl) dX12_goesOn_191 ?_
      refine A_if_ne X (tgt := 215) (by decide) dX12_goesOn_194 (fun c149 => ?_) (fun c149 => ?_)
      · replace h := ifF h c149
        refine A_sub [0, 1] rfl (L' := [(0, vR 0), (1, vI x1)]) rfl ?_
        exact w_X12_goesOn_215 X E x1 s147 h
      · replace h := ifT h c149
        refine A_aload_n X 0 rfl rfl dX12_goesOn_197 ?_
        refine A_bipush X dX12_goesOn_198 (z := 62) (by decide) ?_
        obtain ⟨v150, s151, e152, h⟩ := clD h
        refine A_callV_I (na := 1) X (m_X12_isSign e152) gX12_goesOn_X12_isSign rfl ⟨rfl, rfl⟩ (by decide +kernel) rfl ⟨Nat.le_of_ble_eq_true rfl, Nat.le_of_ble_eq_true rfl⟩ shM_0 (by decide) rfl rfl (Nat.le_of_ble_eq_true rfl) dX12_goesOn_200 ?_
        refine A_if_ne X (tgt := 215) (by decide) dX12_goesOn_203 (fun c153 => ?_) (fun c153 => ?_)
        · replace h := ifF h c153
          refine A_sub [0, 1] rfl (L' := [(0, vR 0), (1, vI x1)]) rfl ?_
          exact w_X12_goesOn_215 X E x1 s151 h
        · replace h := ifT h c153
          refine A_aload_n X 0 rfl rfl dX12_goesOn_206 ?_
          refine A_bipush X dX12_goesOn_207 (z := 61) (by decide) ?_
          obtain ⟨v154, s155, e156, h⟩ := clD h
          refine A_callV_I (na := 1) X (m_X12_isSign e156) gX12_goesOn_X12_isSign rfl ⟨rfl, rfl⟩ (by decide +kernel) rfl ⟨Nat.le_of_ble_eq_true rfl, Nat.le_of_ble_eq_true rfl⟩ shM_0 (by decide) rfl rfl (Nat.le_of_ble_eq_true rfl) dX12_goesOn_209 ?_
          refine A_if_eq X (tgt := 272) (by decide) dX12_goesOn_212 (fun c157 => ?_) (fun c157 => ?_)
          · replace h := ifT h c157
            exact w_X12_goesOn_272 X E x1 x2 x3 s155 h
          · replace h := ifF h c157
            refine A_sub [0, 1] rfl (L' := [(0, vR 0), (1, vI x1)]) rfl ?_
            exact w_X12_goesOn_215 X E x1 s155 h
set_option maxRecDepth 100000 in
set_option maxHeartbeats 4000000 in
theorem m_X12_goesOn {l : Launch} {g : aG} {σ : Hp} {r : Int × Hp} (h : F_M_goesOn σ = some r) : aMet l g shM yX12_goesOn wsX12_goesOn rm_X12_goesOn [vR 0] σ 0 r := by
  unfold F_M_goesOn at h
  refine aMet_of (bytes := cX12_goesOn) (maxL := 5) (ret := (some .boolean)) (by decide +kernel) rfl (Nat.le_of_ble_eq_true rfl) ⟨rfl, rfl⟩ (fun x e1 e2 X E => ?_)
  subst e1; subst e2
  have X : aX x cX12_goesOn wsX12_goesOn RX12 5 rm_X12_goesOn := X
  show aS x shM 5 0 [(0, vR 0)] [] σ
  refine A_aload_n X 0 rfl rfl dX12_goesOn_0 ?_
  refine A_getI X fg_X12_goesOn_125 shM_0 (k := 37) rfl (by decide) dX12_goesOn_1 ?_
  refine A_iconst X dX12_goesOn_4 (z := 1) (by decide) ?_
  refine A_isub X dX12_goesOn_5 ?_
  refine A_istore_nN X (L' := fun y1_158 => [(1, vI y1_158), (0, vR 0)]) rfl (by decide) (fun _ => rfl) dX12_goesOn_6 (fun y1_158 hy => ?_)
  replace h := ltD h y1_158 hy
  clear hy
  refine A_aload_n X 1 rfl rfl dX12_goesOn_7 ?_
  refine A_getR X fg_X12_goesOn_110 shM_0 (k := 32) rfl (by decide) dX12_goesOn_8 ?_
  refine A_iload_n X 0 rfl rfl dX12_goesOn_11 ?_
  obtain ⟨g159, h⟩ := gdD h
  refine A_iald X g159 shM_19 dX12_goesOn_12 ?_
  refine A_istore_nN X (L' := fun y2_160 => [(2, vI y2_160), (1, vI y1_158), (0, vR 0)]) rfl (by decide) (fun _ => rfl) dX12_goesOn_13 (fun y2_160 hy => ?_)
  replace h := ltD h y2_160 hy
  clear hy
  refine A_iload_n X 0 rfl rfl dX12_goesOn_14 ?_
  obtain ⟨v161, s162, e163, h⟩ := clD h
  refine A_callS_I (na := 1) X (m_X12_isTest e163) gX12_goesOn_X12_isTest rfl ⟨rfl, rfl⟩ (by decide +kernel) rfl ⟨Nat.le_of_ble_eq_true rfl, Nat.le_of_ble_eq_true rfl⟩ rfl (Nat.le_of_ble_eq_true rfl) dX12_goesOn_15 ?_
  refine A_istore_n X (L' := [(3, vI v161), (2, vI y2_160), (1, vI y1_158), (0, vR 0)]) rfl (by decide) rfl dX12_goesOn_18 ?_
  refine A_aload_n X 3 rfl rfl dX12_goesOn_19 ?_
  refine A_getR X fg_X12_goesOn_113 shM_0 (k := 33) rfl (by decide) dX12_goesOn_20 ?_
  refine A_iload_n X 2 rfl rfl dX12_goesOn_23 ?_
  obtain ⟨g164, h⟩ := gdD h
  refine A_iald X g164 shM_20 dX12_goesOn_24 ?_
  refine A_iconst X dX12_goesOn_25 (z := 2) (by decide) ?_
  refine A_icmp_ge X (tgt := 175) (by decide) dX12_goesOn_26 (fun c165 => ?_) (fun c165 => ?_)
  · replace h := ifT h c165
    refine A_sub [3, 2, 1, 0] rfl (L' := [(0, vR 0), (1, vI y1_158), (2, vI y2_160), (3, vI v161)]) rfl ?_
    exact w_X12_goesOn_175 X E y1_158 y2_160 v161 s162 h
  · replace h := ifF h c165
    refine A_aload_n X 3 rfl rfl dX12_goesOn_29 ?_
    refine A_bipush X dX12_goesOn_30 (z := 43) (by decide) ?_
    obtain ⟨v166, s167, e168, h⟩ := clD h
    refine A_callV_I (na := 1) X (m_X12_isSign e168) gX12_goesOn_X12_isSign rfl ⟨rfl, rfl⟩ (by decide +kernel) rfl ⟨Nat.le_of_ble_eq_true rfl, Nat.le_of_ble_eq_true rfl⟩ shM_0 (by decide) rfl rfl (Nat.le_of_ble_eq_true rfl) dX12_goesOn_32 ?_
    refine A_if_ne X (tgt := 74) (by decide) dX12_goesOn_35 (fun c169 => ?_) (fun c169 => ?_)
    · replace h := ifF h c169
      refine A_sub [3] rfl (L' := [(0, vR 0)]) rfl ?_
      exact w_X12_goesOn_74 X E s167 h
    · replace h := ifT h c169
      refine A_aload_n X 3 rfl rfl dX12_goesOn_38 ?_
      refine A_bipush X dX12_goesOn_39 (z := 45) (by decide) ?_
      obtain ⟨v170, s171, e172, h⟩ := clD h
      refine A_callV_I (na := 1) X (m_X12_isSign e172) gX12_goesOn_X12_isSign rfl ⟨rfl, rfl⟩ (by decide +kernel) rfl ⟨Nat.le_of_ble_eq_true rfl, Nat.le_of_ble_eq_true rfl⟩ shM_0 (by decide) rfl rfl (Nat.le_of_ble_eq_true rfl) dX12_goesOn_41 ?_
      refine A_if_ne X (tgt := 74) (by decide) dX12_goesOn_44 (fun c173 => ?_) (fun c173 => ?_)
      · replace h := ifF h c173
        refine A_sub [3] rfl (L' := [(0, vR 0)]) rfl ?_
        exact w_X12_goesOn_74 X E s171 h
      · replace h := ifT h c173
        refine A_aload_n X 3 rfl rfl dX12_goesOn_47 ?_
        refine A_bipush X dX12_goesOn_48 (z := 42) (by decide) ?_
        obtain ⟨v174, s175, e176, h⟩ := clD h
        refine A_callV_I (na := 1) X (m_X12_isSign e176) gX12_goesOn_X12_isSign rfl ⟨rfl, rfl⟩ (by decide +kernel) rfl ⟨Nat.le_of_ble_eq_true rfl, Nat.le_of_ble_eq_true rfl⟩ shM_0 (by decide) rfl rfl (Nat.le_of_ble_eq_true rfl) dX12_goesOn_50 ?_
        refine A_if_ne X (tgt := 74) (by decide) dX12_goesOn_53 (fun c177 => ?_) (fun c177 => ?_)
        · replace h := ifF h c177
          refine A_sub [3] rfl (L' := [(0, vR 0)]) rfl ?_
          exact w_X12_goesOn_74 X E s175 h
        · replace h := ifT h c177
          refine A_aload_n X 3 rfl rfl dX12_goesOn_56 ?_
          refine A_bipush X dX12_goesOn_57 (z := 47) (by decide) ?_
          obtain ⟨v178, s179, e180, h⟩ := clD h
          refine A_callV_I (na := 1) X (m_X12_isSign e180) gX12_goesOn_X12_isSign rfl ⟨rfl, rfl⟩ (by decide +kernel) rfl ⟨Nat.le_of_ble_eq_true rfl, Nat.le_of_ble_eq_true rfl⟩ shM_0 (by decide) rfl rfl (Nat.le_of_ble_eq_true rfl) dX12_goesOn_59 ?_
          refine A_if_ne X (tgt := 74) (by decide) dX12_goesOn_62 (fun c181 => ?_) (fun c181 => ?_)
          · replace h := ifF h c181
            refine A_sub [3] rfl (L' := [(0, vR 0)]) rfl ?_
            exact w_X12_goesOn_74 X E s179 h
          · replace h := ifT h c181
            refine A_aload_n X 3 rfl rfl dX12_goesOn_65 ?_
            refine A_bipush X dX12_goesOn_66 (z := 37) (by decide) ?_
            obtain ⟨v182, s183, e184, h⟩ := clD h
            refine A_callV_I (na := 1) X (m_X12_isSign e184) gX12_goesOn_X12_isSign rfl ⟨rfl, rfl⟩ (by decide +kernel) rfl ⟨Nat.le_of_ble_eq_true rfl, Nat.le_of_ble_eq_true rfl⟩ shM_0 (by decide) rfl rfl (Nat.le_of_ble_eq_true rfl) dX12_goesOn_68 ?_
            refine A_if_eq X (tgt := 175) (by decide) dX12_goesOn_71 (fun c185 => ?_) (fun c185 => ?_)
            · replace h := ifT h c185
              refine A_sub [3, 2, 1, 0] rfl (L' := [(0, vR 0), (1, vI y1_158), (2, vI y2_160), (3, vI v161)]) rfl ?_
              exact w_X12_goesOn_175 X E y1_158 y2_160 v161 s183 h
            · replace h := ifF h c185
              refine A_sub [3] rfl (L' := [(0, vR 0)]) rfl ?_
              exact w_X12_goesOn_74 X E s183 h
abbrev rm_X12_isDeal : Room := { frames := 0, cells := 0, slots := 0, locals := 0 }
theorem in_X12_isDeal_12 : ∀ w ∈ u_ws RX12 TX12 75, w ∈ wsX12_isDeal := fun w h => List.mem_cons_of_mem _ (List.mem_append_right _ h)
theorem fg_X12_isDeal_204 : aFl wsX12_isDeal RX12 204 12 63 := ⟨RX12, TX12, 75, rfl, in_X12_isDeal_12, by decide, (List.mem_of_getElem? (i := 1) rfl), rfl⟩
theorem fg_X12_isDeal_162 : aFl wsX12_isDeal RX12 162 12 49 := ⟨RX12, TX12, 75, rfl, in_X12_isDeal_12, by decide, (List.mem_of_getElem? (i := 2) rfl), rfl⟩
set_option maxRecDepth 100000 in
set_option maxHeartbeats 4000000 in
theorem w_X12_isDeal_23 {x : aC} {r : Int × Hp} {a1 : Int} (X : aX x cX12_isDeal wsX12_isDeal RX12 2 rm_X12_isDeal) (E : aE x shM (some .boolean) 0 r) (t1 : Int) (σ : Hp) (h : F_M_isDeal_23 a1 t1 σ = some r) : aS x shM 2 23 [] [vI t1] σ := by
  unfold F_M_isDeal_23 at h
  obtain ⟨g1, h⟩ := gdD h
  exact A_zreturn X g1 E h dX12_isDeal_23
set_option maxRecDepth 100000 in
set_option maxHeartbeats 4000000 in
theorem w_X12_isDeal_22 {x : aC} {r : Int × Hp} {a1 : Int} (X : aX x cX12_isDeal wsX12_isDeal RX12 2 rm_X12_isDeal) (E : aE x shM (some .boolean) 0 r) (σ : Hp) (h : F_M_isDeal_22 a1 σ = some r) : aS x shM 2 22 [] [] σ := by
  unfold F_M_isDeal_22 at h
  refine A_iconst X dX12_isDeal_22 (z := 0) (by decide) ?_
  exact w_X12_isDeal_23 (a1 := a1) X E 0 σ h
set_option maxRecDepth 100000 in
set_option maxHeartbeats 4000000 in
theorem m_X12_isDeal {l : Launch} {g : aG} {a1 : Int} {σ : Hp} {r : Int × Hp} (h : F_M_isDeal a1 σ = some r) : aMet l g shM yX12_isDeal wsX12_isDeal rm_X12_isDeal [vR 0, vI a1] σ 0 r := by
  unfold F_M_isDeal at h
  refine aMet_of (bytes := cX12_isDeal) (maxL := 2) (ret := (some .boolean)) (by decide +kernel) rfl (Nat.le_of_ble_eq_true rfl) ⟨rfl, rfl⟩ (fun x e1 e2 X E => ?_)
  subst e1; subst e2
  have X : aX x cX12_isDeal wsX12_isDeal RX12 2 rm_X12_isDeal := X
  show aS x shM 2 0 [(0, vR 0), (1, vI a1)] [] σ
  refine A_aload_n X 0 rfl rfl dX12_isDeal_0 ?_
  refine A_getR X fg_X12_isDeal_204 shM_0 (k := 63) rfl (by decide) dX12_isDeal_1 ?_
  refine A_iload_n X 1 rfl rfl dX12_isDeal_4 ?_
  obtain ⟨g2, h⟩ := gdD h
  refine A_zald X g2 shM_42 dX12_isDeal_5 ?_
  refine A_if_eq X (tgt := 22) (by decide) dX12_isDeal_6 (fun c3 => ?_) (fun c3 => ?_)
  · replace h := ifT h c3
    refine A_sub [] rfl (L' := []) rfl ?_
    exact w_X12_isDeal_22 (a1 := a1) X E σ h
  · replace h := ifF h c3
    refine A_aload_n X 0 rfl rfl dX12_isDeal_9 ?_
    refine A_getR X fg_X12_isDeal_162 shM_0 (k := 49) rfl (by decide) dX12_isDeal_10 ?_
    refine A_iload_n X 1 rfl rfl dX12_isDeal_13 ?_
    obtain ⟨g4, h⟩ := gdD h
    refine A_zald X g4 shM_29 dX12_isDeal_14 ?_
    refine A_if_eq X (tgt := 22) (by decide) dX12_isDeal_15 (fun c5 => ?_) (fun c5 => ?_)
    · replace h := ifT h c5
      refine A_sub [] rfl (L' := []) rfl ?_
      exact w_X12_isDeal_22 (a1 := a1) X E σ h
    · replace h := ifF h c5
      refine A_iconst X dX12_isDeal_18 (z := 1) (by decide) ?_
      refine A_goto X (tgt := 23) (by decide) dX12_isDeal_19 ?_
      refine A_sub [] rfl (L' := []) rfl ?_
      exact w_X12_isDeal_23 (a1 := a1) X E 1 σ h
abbrev rm_X12_keeps : Room := { frames := 1, cells := 0, slots := 0, locals := 21 }
theorem in_X12_keeps_12 : ∀ w ∈ u_ws RX12 TX12 75, w ∈ wsX12_keeps := fun w h => List.mem_cons_of_mem _ (List.mem_append_right _ h)
theorem fg_X12_keeps_219 : aFl wsX12_keeps RX12 219 12 68 := ⟨RX12, TX12, 75, rfl, in_X12_keeps_12, by decide, (List.mem_of_getElem? (i := 3) rfl), rfl⟩
theorem fg_X12_keeps_54 : aFl wsX12_keeps RX12 54 12 14 := ⟨RX12, TX12, 75, rfl, in_X12_keeps_12, by decide, (List.mem_of_getElem? (i := 1) rfl), rfl⟩
theorem fg_X12_keeps_48 : aFl wsX12_keeps RX12 48 12 12 := ⟨RX12, TX12, 75, rfl, in_X12_keeps_12, by decide, (List.mem_of_getElem? (i := 2) rfl), rfl⟩
theorem fg_X12_keeps_207 : aFl wsX12_keeps RX12 207 12 64 := ⟨RX12, TX12, 75, rfl, in_X12_keeps_12, by decide, (List.mem_of_getElem? (i := 4) rfl), rfl⟩
set_option maxRecDepth 100000 in
set_option maxHeartbeats 4000000 in
theorem w_X12_keeps_48 {x : aC} {r : Int × Hp} {k4 : Int × Int × Hp → Option (Int × Hp)} {a1 : Int} (X : aX x cX12_keeps wsX12_keeps RX12 4 rm_X12_keeps) (E : aE x shM none 3 r) (hk4 : ∀ (x2 : Int) (x3 : Int) (σ : Hp), k4 (x2, x3, σ) = some r → aS x shM 4 4 [(0, vR 0), (1, vI a1), (2, vI x2), (3, vI x3)] [] σ) (x2 : Int) (x3 : Int) (σ : Hp) (h : F_M_keeps_48 k4 a1 x2 x3 σ = some r) : aS x shM 4 48 [(0, vR 0), (1, vI a1), (2, vI x2), (3, vI x3)] [] σ := by
  unfold F_M_keeps_48 at h
  refine A_iinc X (L' := fun y3_1 => [(3, vI y3_1), (0, vR 0), (1, vI a1), (2, vI x2)]) 3 rfl (by decide) (fun _ => rfl) dX12_keeps_48 (by decide) (fun y3_1 hy => ?_)
  replace h := ltD h y3_1 hy
  clear hy
  refine A_goto X (tgt := 4) (by decide) dX12_keeps_51 ?_
  refine A_sub [1, 2, 3, 0] rfl (L' := [(0, vR 0), (1, vI a1), (2, vI x2), (3, vI y3_1)]) rfl ?_
  exact hk4 x2 y3_1 σ h
set_option maxRecDepth 100000 in
set_option maxHeartbeats 4000000 in
theorem w_X12_keeps_56_b {x : aC} {r : Int × Hp} {k56 : Int × Hp → Option (Int × Hp)} {a1 : Int} (X : aX x cX12_keeps wsX12_keeps RX12 4 rm_X12_keeps) (E : aE x shM none 3 r) (hk56 : ∀ (x3 : Int) (σ : Hp), k56 (x3, σ) = some r → aS x shM 4 56 [(0, vR 0), (1, vI a1), (3, vI x3)] [] σ) (x3 : Int) (σ : Hp) (h : F_M_keeps_56_b k56 a1 x3 σ = some r) : aS x shM 4 56 [(0, vR 0), (1, vI a1), (3, vI x3)] [] σ := by
  unfold F_M_keeps_56_b at h
  refine A_iload_n X 2 rfl rfl dX12_keeps_56 ?_
  refine A_bipush X dX12_keeps_57 (z := 6) (by decide) ?_
  refine A_icmp_ge X (tgt := 80) (by decide) dX12_keeps_59 (fun c2 => ?_) (fun c2 => ?_)
  · replace h := ifT h c2
    exact A_return X E h dX12_keeps_80
  · replace h := ifF h c2
    refine A_aload_n X 0 rfl rfl dX12_keeps_62 ?_
    refine A_getR X fg_X12_keeps_219 shM_0 (k := 68) rfl (by decide) dX12_keeps_63 ?_
    refine A_bipush X dX12_keeps_66 (z := 6) (by decide) ?_
    refine A_iload_n X 1 rfl rfl dX12_keeps_68 ?_
    refine A_imul X dX12_keeps_69 ?_
    refine A_iload_n X 2 rfl rfl dX12_keeps_70 ?_
    refine A_iadd X dX12_keeps_71 ?_
    refine A_iconst X dX12_keeps_72 (z := 0) (by decide) ?_
    obtain ⟨g3, h⟩ := gdD h
    refine A_iast X g3 shM_46 dX12_keeps_73 (fun s4 hy => ?_)
    replace h := ltD h s4 hy
    clear hy
    refine A_iinc X (L' := fun y3_5 => [(3, vI y3_5), (0, vR 0), (1, vI a1)]) 2 rfl (by decide) (fun _ => rfl) dX12_keeps_74 (by decide) (fun y3_5 hy => ?_)
    replace h := ltD h y3_5 hy
    clear hy
    refine A_goto X (tgt := 56) (by decide) dX12_keeps_77 ?_
    refine A_sub [1, 2, 0] rfl (L' := [(0, vR 0), (1, vI a1), (3, vI y3_5)]) rfl ?_
    exact hk56 y3_5 s4 h
set_option maxRecDepth 100000 in
set_option maxHeartbeats 4000000 in
theorem w_X12_keeps_56 {x : aC} {r : Int × Hp} {a1 : Int} (X : aX x cX12_keeps wsX12_keeps RX12 4 rm_X12_keeps) (E : aE x shM none 3 r) : ∀ (n : Nat) (x3 : Int) (σ : Hp) (h : F_M_keeps_56 a1 n (x3, σ) = some r), aS x shM 4 56 [(0, vR 0), (1, vI a1), (3, vI x3)] [] σ := by
  intro n
  induction n with
  | zero => intro x3 σ h; cases h
  | succ n ih => intro x3 σ h; exact w_X12_keeps_56_b (a1 := a1) (k56 := F_M_keeps_56 a1 n) X E ih x3 σ h
set_option maxRecDepth 100000 in
set_option maxHeartbeats 4000000 in
theorem w_X12_keeps_4_b {x : aC} {r : Int × Hp} {k4 : Int × Int × Hp → Option (Int × Hp)} {a1 : Int} (X : aX x cX12_keeps wsX12_keeps RX12 4 rm_X12_keeps) (E : aE x shM none 3 r) (hk4 : ∀ (x2 : Int) (x3 : Int) (σ : Hp), k4 (x2, x3, σ) = some r → aS x shM 4 4 [(0, vR 0), (1, vI a1), (2, vI x2), (3, vI x3)] [] σ) (x2 : Int) (x3 : Int) (σ : Hp) (h : F_M_keeps_4_b k4 a1 x2 x3 σ = some r) : aS x shM 4 4 [(0, vR 0), (1, vI a1), (2, vI x2), (3, vI x3)] [] σ := by
  unfold F_M_keeps_4_b at h
  refine A_iload_n X 3 rfl rfl dX12_keeps_4 ?_
  refine A_aload_n X 0 rfl rfl dX12_keeps_5 ?_
  refine A_getR X fg_X12_keeps_54 shM_0 (k := 14) rfl (by decide) dX12_keeps_6 ?_
  refine A_aload_n X 0 rfl rfl dX12_keeps_9 ?_
  refine A_getI X fg_X12_keeps_48 shM_0 (k := 12) rfl (by decide) dX12_keeps_10 ?_
  obtain ⟨g6, h⟩ := gdD h
  refine A_iald X g6 shM_3 dX12_keeps_13 ?_
  refine A_icmp_ge X (tgt := 54) (by decide) dX12_keeps_14 (fun c7 => ?_) (fun c7 => ?_)
  · replace h := ifT h c7
    refine A_iload_n X 2 rfl rfl dX12_keeps_54 ?_
    refine A_istore_n X (L' := [(3, vI x2), (0, vR 0), (1, vI a1), (2, vI x2)]) rfl (by decide) rfl dX12_keeps_55 ?_
    refine A_sub [1, 2, 0] rfl (L' := [(0, vR 0), (1, vI a1), (3, vI x2)]) rfl ?_
    exact w_X12_keeps_56 (a1 := a1) X E FU x2 σ h
  · replace h := ifF h c7
    refine A_aload_n X 0 rfl rfl dX12_keeps_17 ?_
    refine A_iload_n X 3 rfl rfl dX12_keeps_18 ?_
    obtain ⟨v8, s9, e10, h⟩ := clD h
    refine A_callV_I (na := 1) X (m_X12_isDeal e10) gX12_keeps_X12_isDeal rfl ⟨rfl, rfl⟩ (by decide +kernel) rfl ⟨Nat.le_of_ble_eq_true rfl, Nat.le_of_ble_eq_true rfl⟩ shM_0 (by decide) rfl rfl (Nat.le_of_ble_eq_true rfl) dX12_keeps_19 ?_
    refine A_if_ne X (tgt := 28) (by decide) dX12_keeps_22 (fun c11 => ?_) (fun c11 => ?_)
    · replace h := ifF h c11
      refine A_aload_n X 0 rfl rfl dX12_keeps_28 ?_
      refine A_getR X fg_X12_keeps_219 shM_0 (k := 68) rfl (by decide) dX12_keeps_29 ?_
      refine A_bipush X dX12_keeps_32 (z := 6) (by decide) ?_
      refine A_iload_n X 1 rfl rfl dX12_keeps_34 ?_
      refine A_imul X dX12_keeps_35 ?_
      refine A_iload_n X 2 rfl rfl dX12_keeps_36 ?_
      refine A_iadd X dX12_keeps_37 ?_
      refine A_aload_n X 0 rfl rfl dX12_keeps_38 ?_
      refine A_getR X fg_X12_keeps_207 shM_0 (k := 64) rfl (by decide) dX12_keeps_39 ?_
      refine A_iload_n X 3 rfl rfl dX12_keeps_42 ?_
      obtain ⟨g12, h⟩ := gdD h
      refine A_iald X g12 shM_43 dX12_keeps_43 ?_
      obtain ⟨g13, h⟩ := gdD h
      refine A_iast X g13 shM_46 dX12_keeps_44 (fun s14 hy => ?_)
      replace h := ltD h s14 hy
      clear hy
      refine A_iinc X (L' := fun y2_15 => [(2, vI y2_15), (0, vR 0), (1, vI a1), (3, vI x3)]) 2 rfl (by decide) (fun _ => rfl) dX12_keeps_45 (by decide) (fun y2_15 hy => ?_)
      replace h := ltD h y2_15 hy
      clear hy
      refine A_sub [1, 2, 0, 3] rfl (L' := [(0, vR 0), (1, vI a1), (2, vI y2_15), (3, vI x3)]) rfl ?_
      exact w_X12_keeps_48 (a1 := a1) X E hk4 y2_15 x3 s14 h
    · replace h := ifT h c11
      refine A_goto X (tgt := 48) (by decide) dX12_keeps_25 ?_
      exact w_X12_keeps_48 (a1 := a1) X E hk4 x2 x3 s9 h
set_option maxRecDepth 100000 in
set_option maxHeartbeats 4000000 in
theorem w_X12_keeps_4 {x : aC} {r : Int × Hp} {a1 : Int} (X : aX x cX12_keeps wsX12_keeps RX12 4 rm_X12_keeps) (E : aE x shM none 3 r) : ∀ (n : Nat) (x2 : Int) (x3 : Int) (σ : Hp) (h : F_M_keeps_4 a1 n (x2, x3, σ) = some r), aS x shM 4 4 [(0, vR 0), (1, vI a1), (2, vI x2), (3, vI x3)] [] σ := by
  intro n
  induction n with
  | zero => intro x2 x3 σ h; cases h
  | succ n ih => intro x2 x3 σ h; exact w_X12_keeps_4_b (a1 := a1) (k4 := F_M_keeps_4 a1 n) X E ih x2 x3 σ h
set_option maxRecDepth 100000 in
set_option maxHeartbeats 4000000 in
theorem m_X12_keeps {l : Launch} {g : aG} {a1 : Int} {σ : Hp} {r : Int × Hp} (h : F_M_keeps a1 σ = some r) : aMet l g shM yX12_keeps wsX12_keeps rm_X12_keeps [vR 0, vI a1] σ 3 r := by
  unfold F_M_keeps at h
  refine aMet_of (bytes := cX12_keeps) (maxL := 4) (ret := none) (by decide +kernel) rfl (Nat.le_of_ble_eq_true rfl) ⟨rfl, rfl⟩ (fun x e1 e2 X E => ?_)
  subst e1; subst e2
  have X : aX x cX12_keeps wsX12_keeps RX12 4 rm_X12_keeps := X
  show aS x shM 4 0 [(0, vR 0), (1, vI a1)] [] σ
  refine A_iconst X dX12_keeps_0 (z := 0) (by decide) ?_
  refine A_istore_n X (L' := [(2, vI 0), (0, vR 0), (1, vI a1)]) rfl (by decide) rfl dX12_keeps_1 ?_
  refine A_iconst X dX12_keeps_2 (z := 0) (by decide) ?_
  refine A_istore_n X (L' := [(3, vI 0), (2, vI 0), (0, vR 0), (1, vI a1)]) rfl (by decide) rfl dX12_keeps_3 ?_
  refine A_sub [2, 3, 1, 0] rfl (L' := [(0, vR 0), (1, vI a1), (2, vI 0), (3, vI 0)]) rfl ?_
  exact w_X12_keeps_4 (a1 := a1) X E FU 0 0 σ h
abbrev rm_X12_isLike : Room := { frames := 0, cells := 0, slots := 0, locals := 0 }
theorem in_X12_isLike_12 : ∀ w ∈ u_ws RX12 TX12 75, w ∈ wsX12_isLike := fun w h => List.mem_cons_of_mem _ (List.mem_append_right _ h)
theorem fg_X12_isLike_219 : aFl wsX12_isLike RX12 219 12 68 := ⟨RX12, TX12, 75, rfl, in_X12_isLike_12, by decide, (List.mem_of_getElem? (i := 1) rfl), rfl⟩
set_option maxRecDepth 100000 in
set_option maxHeartbeats 4000000 in
theorem w_X12_isLike_2_b {x : aC} {r : Int × Hp} {k2 : Int × Hp → Option (Int × Hp)} {a1 : Int} {a2 : Int} (X : aX x cX12_isLike wsX12_isLike RX12 4 rm_X12_isLike) (E : aE x shM (some .boolean) 0 r) (hk2 : ∀ (x3 : Int) (σ : Hp), k2 (x3, σ) = some r → aS x shM 4 2 [(0, vR 0), (1, vI a1), (2, vI a2), (3, vI x3)] [] σ) (x3 : Int) (σ : Hp) (h : F_M_isLike_2_b k2 a1 a2 x3 σ = some r) : aS x shM 4 2 [(0, vR 0), (1, vI a1), (2, vI a2), (3, vI x3)] [] σ := by
  unfold F_M_isLike_2_b at h
  refine A_iload_n X 3 rfl rfl dX12_isLike_2 ?_
  refine A_bipush X dX12_isLike_3 (z := 6) (by decide) ?_
  refine A_icmp_ge X (tgt := 41) (by decide) dX12_isLike_5 (fun c1 => ?_) (fun c1 => ?_)
  · replace h := ifT h c1
    refine A_iconst X dX12_isLike_41 (z := 1) (by decide) ?_
    exact A_zreturn X (Or.inr rfl) E h dX12_isLike_42
  · replace h := ifF h c1
    refine A_aload_n X 0 rfl rfl dX12_isLike_8 ?_
    refine A_getR X fg_X12_isLike_219 shM_0 (k := 68) rfl (by decide) dX12_isLike_9 ?_
    refine A_bipush X dX12_isLike_12 (z := 6) (by decide) ?_
    refine A_iload_n X 1 rfl rfl dX12_isLike_14 ?_
    refine A_imul X dX12_isLike_15 ?_
    refine A_iload_n X 3 rfl rfl dX12_isLike_16 ?_
    refine A_iadd X dX12_isLike_17 ?_
    obtain ⟨g2, h⟩ := gdD h
    refine A_iald X g2 shM_46 dX12_isLike_18 ?_
    refine A_aload_n X 0 rfl rfl dX12_isLike_19 ?_
    refine A_getR X fg_X12_isLike_219 shM_0 (k := 68) rfl (by decide) dX12_isLike_20 ?_
    refine A_bipush X dX12_isLike_23 (z := 6) (by decide) ?_
    refine A_iload_n X 2 rfl rfl dX12_isLike_25 ?_
    refine A_imul X dX12_isLike_26 ?_
    refine A_iload_n X 3 rfl rfl dX12_isLike_27 ?_
    refine A_iadd X dX12_isLike_28 ?_
    obtain ⟨g3, h⟩ := gdD h
    refine A_iald X g3 shM_46 dX12_isLike_29 ?_
    refine A_icmp_eq X (tgt := 35) (by decide) dX12_isLike_30 (fun c4 => ?_) (fun c4 => ?_)
    · replace h := ifT h c4
      refine A_iinc X (L' := fun y3_5 => [(3, vI y3_5), (0, vR 0), (1, vI a1), (2, vI a2)]) 3 rfl (by decide) (fun _ => rfl) dX12_isLike_35 (by decide) (fun y3_5 hy => ?_)
      replace h := ltD h y3_5 hy
      clear hy
      refine A_goto X (tgt := 2) (by decide) dX12_isLike_38 ?_
      refine A_sub [1, 2, 3, 0] rfl (L' := [(0, vR 0), (1, vI a1), (2, vI a2), (3, vI y3_5)]) rfl ?_
      exact hk2 y3_5 σ h
    · replace h := ifF h c4
      refine A_iconst X dX12_isLike_33 (z := 0) (by decide) ?_
      exact A_zreturn X (Or.inl rfl) E h dX12_isLike_34
set_option maxRecDepth 100000 in
set_option maxHeartbeats 4000000 in
theorem w_X12_isLike_2 {x : aC} {r : Int × Hp} {a1 : Int} {a2 : Int} (X : aX x cX12_isLike wsX12_isLike RX12 4 rm_X12_isLike) (E : aE x shM (some .boolean) 0 r) : ∀ (n : Nat) (x3 : Int) (σ : Hp) (h : F_M_isLike_2 a1 a2 n (x3, σ) = some r), aS x shM 4 2 [(0, vR 0), (1, vI a1), (2, vI a2), (3, vI x3)] [] σ := by
  intro n
  induction n with
  | zero => intro x3 σ h; cases h
  | succ n ih => intro x3 σ h; exact w_X12_isLike_2_b (a1 := a1) (a2 := a2) (k2 := F_M_isLike_2 a1 a2 n) X E ih x3 σ h
set_option maxRecDepth 100000 in
set_option maxHeartbeats 4000000 in
theorem m_X12_isLike {l : Launch} {g : aG} {a1 : Int} {a2 : Int} {σ : Hp} {r : Int × Hp} (h : F_M_isLike a1 a2 σ = some r) : aMet l g shM yX12_isLike wsX12_isLike rm_X12_isLike [vR 0, vI a1, vI a2] σ 0 r := by
  unfold F_M_isLike at h
  refine aMet_of (bytes := cX12_isLike) (maxL := 4) (ret := (some .boolean)) (by decide +kernel) rfl (Nat.le_of_ble_eq_true rfl) ⟨rfl, rfl⟩ (fun x e1 e2 X E => ?_)
  subst e1; subst e2
  have X : aX x cX12_isLike wsX12_isLike RX12 4 rm_X12_isLike := X
  show aS x shM 4 0 [(0, vR 0), (1, vI a1), (2, vI a2)] [] σ
  refine A_iconst X dX12_isLike_0 (z := 0) (by decide) ?_
  refine A_istore_n X (L' := [(3, vI 0), (0, vR 0), (1, vI a1), (2, vI a2)]) rfl (by decide) rfl dX12_isLike_1 ?_
  refine A_sub [1, 2, 3, 0] rfl (L' := [(0, vR 0), (1, vI a1), (2, vI a2), (3, vI 0)]) rfl ?_
  exact w_X12_isLike_2 (a1 := a1) (a2 := a2) X E FU 0 σ h
abbrev rm_X12_haggle : Room := { frames := 6, cells := 0, slots := 0, locals := 143 }
theorem in_X12_haggle_12 : ∀ w ∈ u_ws RX12 TX12 75, w ∈ wsX12_haggle := fun w h => List.mem_cons_of_mem _ (List.mem_append_right _ h)
theorem fp_X12_haggle_216 : aFp wsX12_haggle RX12 216 12 67 .int := ⟨RX12, TX12, 75, tyX12, rfl, in_X12_haggle_12, by decide, (List.mem_of_getElem? (i := 6) rfl), rfl, tyX12_ok, nmX12, rfl, rfl⟩
theorem fg_X12_haggle_54 : aFl wsX12_haggle RX12 54 12 14 := ⟨RX12, TX12, 75, rfl, in_X12_haggle_12, by decide, (List.mem_of_getElem? (i := 1) rfl), rfl⟩
theorem fg_X12_haggle_48 : aFl wsX12_haggle RX12 48 12 12 := ⟨RX12, TX12, 75, rfl, in_X12_haggle_12, by decide, (List.mem_of_getElem? (i := 2) rfl), rfl⟩
theorem fg_X12_haggle_207 : aFl wsX12_haggle RX12 207 12 64 := ⟨RX12, TX12, 75, rfl, in_X12_haggle_12, by decide, (List.mem_of_getElem? (i := 3) rfl), rfl⟩
set_option maxRecDepth 100000 in
set_option maxHeartbeats 4000000 in
theorem w_X12_haggle_105 {x : aC} {r : Int × Hp} {k31 : Int × Int × Hp → Option (Int × Hp)} {a1 : Int} (X : aX x cX12_haggle wsX12_haggle RX12 6 rm_X12_haggle) (E : aE x shM (some .int) 0 r) (hk31 : ∀ (x2 : Int) (x3 : Int) (σ : Hp), k31 (x2, x3, σ) = some r → aS x shM 6 31 [(0, vR 0), (1, vI a1), (2, vI x2), (3, vI x3)] [] σ) (x2 : Int) (x3 : Int) (σ : Hp) (h : F_M_haggle_105 k31 a1 x2 x3 σ = some r) : aS x shM 6 105 [(0, vR 0), (1, vI a1), (2, vI x2), (3, vI x3)] [] σ := by
  unfold F_M_haggle_105 at h
  refine A_iinc X (L' := fun y3_1 => [(3, vI y3_1), (0, vR 0), (1, vI a1), (2, vI x2)]) 3 rfl (by decide) (fun _ => rfl) dX12_haggle_105 (by decide) (fun y3_1 hy => ?_)
  replace h := ltD h y3_1 hy
  clear hy
  refine A_goto X (tgt := 31) (by decide) dX12_haggle_108 ?_
  refine A_sub [1, 2, 3, 0] rfl (L' := [(0, vR 0), (1, vI a1), (2, vI x2), (3, vI y3_1)]) rfl ?_
  exact hk31 x2 y3_1 σ h
set_option maxRecDepth 100000 in
set_option maxHeartbeats 4000000 in
theorem w_X12_haggle_99 {x : aC} {r : Int × Hp} {k31 : Int × Int × Hp → Option (Int × Hp)} {a1 : Int} (X : aX x cX12_haggle wsX12_haggle RX12 6 rm_X12_haggle) (E : aE x shM (some .int) 0 r) (hk31 : ∀ (x2 : Int) (x3 : Int) (σ : Hp), k31 (x2, x3, σ) = some r → aS x shM 6 31 [(0, vR 0), (1, vI a1), (2, vI x2), (3, vI x3)] [] σ) (x2 : Int) (x3 : Int) (t3 : Int) (t2 : Int) (σ : Hp) (h : F_M_haggle_99 k31 a1 x2 x3 t3 t2 σ = some r) : aS x shM 6 99 [(0, vR 0), (1, vI a1), (2, vI x2), (3, vI x3)] [vL t3, vI t2, vR 43] σ := by
  unfold F_M_haggle_99 at h
  refine A_l2i X dX12_haggle_99 ?_
  obtain ⟨g2, h⟩ := gdD h
  refine A_iast X g2 shM_43 dX12_haggle_100 (fun s3 hy => ?_)
  replace h := ltD h s3 hy
  clear hy
  refine A_aload_n X 0 rfl rfl dX12_haggle_101 ?_
  obtain ⟨v4, s5, e6, h⟩ := clD h
  refine A_callV_V (na := 0) X (m_X12_shares e6) gX12_haggle_X12_shares rfl ⟨rfl, rfl⟩ (by decide +kernel) rfl ⟨Nat.le_of_ble_eq_true rfl, Nat.le_of_ble_eq_true rfl⟩ shM_0 (by decide) rfl rfl (Nat.le_of_ble_eq_true rfl) dX12_haggle_102 ?_
  exact w_X12_haggle_105 (a1 := a1) X E hk31 x2 x3 s5 h
set_option maxRecDepth 100000 in
set_option maxHeartbeats 4000000 in
theorem w_X12_haggle_149 {x : aC} {r : Int × Hp} {a1 : Int} (X : aX x cX12_haggle wsX12_haggle RX12 6 rm_X12_haggle) (E : aE x shM (some .int) 0 r) (x2 : Int) (t2 : Int) (σ : Hp) (h : F_M_haggle_149 a1 x2 t2 σ = some r) : aS x shM 6 149 [(2, vI x2)] [vI t2, vR 0] σ := by
  unfold F_M_haggle_149 at h
  refine A_putI X fp_X12_haggle_216 shM_0 (k := 67) rfl (by decide) dX12_haggle_149 (fun s7 hy => ?_)
  replace h := ltD h s7 hy
  clear hy
  refine A_iload_n X 0 rfl rfl dX12_haggle_152 ?_
  exact A_ireturn X E h dX12_haggle_153
set_option maxRecDepth 100000 in
set_option maxHeartbeats 4000000 in
theorem w_X12_haggle_120_b {x : aC} {r : Int × Hp} {k24 : Int × Hp → Option (Int × Hp)} {k120 : Int × Int × Hp → Option (Int × Hp)} {a1 : Int} (X : aX x cX12_haggle wsX12_haggle RX12 6 rm_X12_haggle) (E : aE x shM (some .int) 0 r) (hk24 : ∀ (x2 : Int) (σ : Hp), k24 (x2, σ) = some r → aS x shM 6 24 [(0, vR 0), (1, vI a1), (2, vI x2)] [] σ) (hk120 : ∀ (x2 : Int) (x3 : Int) (σ : Hp), k120 (x2, x3, σ) = some r → aS x shM 6 120 [(0, vR 0), (1, vI a1), (2, vI x2), (3, vI x3)] [] σ) (x2 : Int) (x3 : Int) (σ : Hp) (h : F_M_haggle_120_b k24 k120 a1 x2 x3 σ = some r) : aS x shM 6 120 [(0, vR 0), (1, vI a1), (2, vI x2), (3, vI x3)] [] σ := by
  unfold F_M_haggle_120_b at h
  refine A_iload_n X 3 rfl rfl dX12_haggle_120 ?_
  refine A_if_lt X (tgt := 160) (by decide) dX12_haggle_121 (fun c8 => ?_) (fun c8 => ?_)
  · replace h := ifT h c8
    refine A_iinc X (L' := fun y2_9 => [(2, vI y2_9), (0, vR 0), (1, vI a1), (3, vI x3)]) 2 rfl (by decide) (fun _ => rfl) dX12_haggle_160 (by decide) (fun y2_9 hy => ?_)
    replace h := ltD h y2_9 hy
    clear hy
    refine A_goto X (tgt := 24) (by decide) dX12_haggle_163 ?_
    refine A_sub [1, 2, 0] rfl (L' := [(0, vR 0), (1, vI a1), (2, vI y2_9)]) rfl ?_
    exact hk24 y2_9 σ h
  · replace h := ifF h c8
    refine A_aload_n X 0 rfl rfl dX12_haggle_124 ?_
    refine A_iload_n X 2 rfl rfl dX12_haggle_125 ?_
    refine A_iload_n X 3 rfl rfl dX12_haggle_126 ?_
    obtain ⟨v10, s11, e12, h⟩ := clD h
    refine A_callV_I (na := 2) X (m_X12_isLike e12) gX12_haggle_X12_isLike rfl ⟨rfl, rfl⟩ (by decide +kernel) rfl ⟨Nat.le_of_ble_eq_true rfl, Nat.le_of_ble_eq_true rfl⟩ shM_0 (by decide) rfl rfl (Nat.le_of_ble_eq_true rfl) dX12_haggle_127 ?_
    refine A_if_ne X (tgt := 136) (by decide) dX12_haggle_130 (fun c13 => ?_) (fun c13 => ?_)
    · replace h := ifF h c13
      refine A_aload_n X 0 rfl rfl dX12_haggle_136 ?_
      refine A_iload_n X 3 rfl rfl dX12_haggle_137 ?_
      refine A_iload_n X 2 rfl rfl dX12_haggle_138 ?_
      refine A_iconst X dX12_haggle_139 (z := 1) (by decide) ?_
      refine A_isub X dX12_haggle_140 ?_
      refine A_icmp_ne X (tgt := 148) (by decide) dX12_haggle_141 (fun c14 => ?_) (fun c14 => ?_)
      · replace h := ifF h c14
        refine A_iconst X dX12_haggle_148 (z := 1) (by decide) ?_
        refine A_sub [2] rfl (L' := [(2, vI x2)]) rfl ?_
        exact w_X12_haggle_149 (a1 := a1) X E x2 1 s11 h
      · replace h := ifT h c14
        refine A_iconst X dX12_haggle_144 (z := 0) (by decide) ?_
        refine A_goto X (tgt := 149) (by decide) dX12_haggle_145 ?_
        refine A_sub [2] rfl (L' := [(2, vI x2)]) rfl ?_
        exact w_X12_haggle_149 (a1 := a1) X E x2 0 s11 h
    · replace h := ifT h c13
      refine A_goto X (tgt := 154) (by decide) dX12_haggle_133 ?_
      refine A_iinc X (L' := fun y3_15 => [(3, vI y3_15), (0, vR 0), (1, vI a1), (2, vI x2)]) 3 rfl (by decide) (fun _ => rfl) dX12_haggle_154 (by decide) (fun y3_15 hy => ?_)
      replace h := ltD h y3_15 hy
      clear hy
      refine A_goto X (tgt := 120) (by decide) dX12_haggle_157 ?_
      refine A_sub [1, 2, 3, 0] rfl (L' := [(0, vR 0), (1, vI a1), (2, vI x2), (3, vI y3_15)]) rfl ?_
      exact hk120 x2 y3_15 s11 h
set_option maxRecDepth 100000 in
set_option maxHeartbeats 4000000 in
theorem w_X12_haggle_120 {x : aC} {r : Int × Hp} {k24 : Int × Hp → Option (Int × Hp)} {a1 : Int} (X : aX x cX12_haggle wsX12_haggle RX12 6 rm_X12_haggle) (E : aE x shM (some .int) 0 r) (hk24 : ∀ (x2 : Int) (σ : Hp), k24 (x2, σ) = some r → aS x shM 6 24 [(0, vR 0), (1, vI a1), (2, vI x2)] [] σ) : ∀ (n : Nat) (x2 : Int) (x3 : Int) (σ : Hp) (h : F_M_haggle_120 k24 a1 n (x2, x3, σ) = some r), aS x shM 6 120 [(0, vR 0), (1, vI a1), (2, vI x2), (3, vI x3)] [] σ := by
  intro n
  induction n with
  | zero => intro x2 x3 σ h; cases h
  | succ n ih => intro x2 x3 σ h; exact w_X12_haggle_120_b (a1 := a1) (k120 := F_M_haggle_120 k24 a1 n) X E hk24 ih x2 x3 σ h
set_option maxRecDepth 100000 in
set_option maxHeartbeats 4000000 in
theorem w_X12_haggle_31_b {x : aC} {r : Int × Hp} {k24 : Int × Hp → Option (Int × Hp)} {k31 : Int × Int × Hp → Option (Int × Hp)} {a1 : Int} (X : aX x cX12_haggle wsX12_haggle RX12 6 rm_X12_haggle) (E : aE x shM (some .int) 0 r) (hk24 : ∀ (x2 : Int) (σ : Hp), k24 (x2, σ) = some r → aS x shM 6 24 [(0, vR 0), (1, vI a1), (2, vI x2)] [] σ) (hk31 : ∀ (x2 : Int) (x3 : Int) (σ : Hp), k31 (x2, x3, σ) = some r → aS x shM 6 31 [(0, vR 0), (1, vI a1), (2, vI x2), (3, vI x3)] [] σ) (x2 : Int) (x3 : Int) (σ : Hp) (h : F_M_haggle_31_b k24 k31 a1 x2 x3 σ = some r) : aS x shM 6 31 [(0, vR 0), (1, vI a1), (2, vI x2), (3, vI x3)] [] σ := by
  unfold F_M_haggle_31_b at h
  refine A_iload_n X 3 rfl rfl dX12_haggle_31 ?_
  refine A_aload_n X 0 rfl rfl dX12_haggle_32 ?_
  refine A_getR X fg_X12_haggle_54 shM_0 (k := 14) rfl (by decide) dX12_haggle_33 ?_
  refine A_aload_n X 0 rfl rfl dX12_haggle_36 ?_
  refine A_getI X fg_X12_haggle_48 shM_0 (k := 12) rfl (by decide) dX12_haggle_37 ?_
  obtain ⟨g16, h⟩ := gdD h
  refine A_iald X g16 shM_3 dX12_haggle_40 ?_
  refine A_icmp_ge X (tgt := 111) (by decide) dX12_haggle_41 (fun c17 => ?_) (fun c17 => ?_)
  · replace h := ifT h c17
    refine A_aload_n X 0 rfl rfl dX12_haggle_111 ?_
    refine A_iload_n X 2 rfl rfl dX12_haggle_112 ?_
    obtain ⟨v18, s19, e20, h⟩ := clD h
    refine A_callV_V (na := 1) X (m_X12_keeps e20) gX12_haggle_X12_keeps rfl ⟨rfl, rfl⟩ (by decide +kernel) rfl ⟨Nat.le_of_ble_eq_true rfl, Nat.le_of_ble_eq_true rfl⟩ shM_0 (by decide) rfl rfl (Nat.le_of_ble_eq_true rfl) dX12_haggle_113 ?_
    refine A_iload_n X 2 rfl rfl dX12_haggle_116 ?_
    refine A_iconst X dX12_haggle_117 (z := 1) (by decide) ?_
    refine A_isub X dX12_haggle_118 ?_
    refine A_istore_nN X (L' := fun y3_21 => [(3, vI y3_21), (0, vR 0), (1, vI a1), (2, vI x2)]) rfl (by decide) (fun _ => rfl) dX12_haggle_119 (fun y3_21 hy => ?_)
    replace h := ltD h y3_21 hy
    clear hy
    refine A_sub [1, 2, 3, 0] rfl (L' := [(0, vR 0), (1, vI a1), (2, vI x2), (3, vI y3_21)]) rfl ?_
    exact w_X12_haggle_120 (a1 := a1) X E hk24 FU x2 y3_21 s19 h
  · replace h := ifF h c17
    refine A_aload_n X 0 rfl rfl dX12_haggle_44 ?_
    refine A_iload_n X 3 rfl rfl dX12_haggle_45 ?_
    obtain ⟨v22, s23, e24, h⟩ := clD h
    refine A_callV_I (na := 1) X (m_X12_isDeal e24) gX12_haggle_X12_isDeal rfl ⟨rfl, rfl⟩ (by decide +kernel) rfl ⟨Nat.le_of_ble_eq_true rfl, Nat.le_of_ble_eq_true rfl⟩ shM_0 (by decide) rfl rfl (Nat.le_of_ble_eq_true rfl) dX12_haggle_46 ?_
    refine A_if_ne X (tgt := 55) (by decide) dX12_haggle_49 (fun c25 => ?_) (fun c25 => ?_)
    · replace h := ifF h c25
      refine A_aload_n X 0 rfl rfl dX12_haggle_55 ?_
      refine A_iload_n X 3 rfl rfl dX12_haggle_56 ?_
      obtain ⟨v26, s27, e28, h⟩ := clD h
      refine A_callV_L (na := 1) X (m_X12_evenOf e28) gX12_haggle_X12_evenOf rfl ⟨rfl, rfl⟩ (by decide +kernel) rfl ⟨Nat.le_of_ble_eq_true rfl, Nat.le_of_ble_eq_true rfl⟩ shM_0 (by decide) rfl rfl (Nat.le_of_ble_eq_true rfl) dX12_haggle_57 ?_
      refine A_lstore X (L' := [(4, vL v26), (0, vR 0), (1, vI a1), (2, vI x2), (3, vI x3)]) (by decide) rfl dX12_haggle_60 ?_
      refine A_aload_n X 1 rfl rfl dX12_haggle_62 ?_
      refine A_getR X fg_X12_haggle_207 shM_0 (k := 64) rfl (by decide) dX12_haggle_63 ?_
      refine A_iload_n X 4 rfl rfl dX12_haggle_66 ?_
      refine A_lload X 0 rfl dX12_haggle_67 ?_
      refine A_ldc2 X (v := (1000000)) (List.mem_of_getElem? (i := 4) rfl) dX12_haggle_69 (z := 1000000) (by decide +kernel) ?_
      refine A_lcmp X dX12_haggle_72 ?_
      refine A_if_le X (tgt := 82) (by decide) dX12_haggle_73 (fun c29 => ?_) (fun c29 => ?_)
      · replace h := ifT h c29
        refine A_lload X 0 rfl dX12_haggle_82 ?_
        refine A_ldc2 X (v := (-1000000)) (List.mem_of_getElem? (i := 5) rfl) dX12_haggle_84 (z := (-1000000)) (by decide +kernel) ?_
        refine A_lcmp X dX12_haggle_87 ?_
        refine A_if_ge X (tgt := 97) (by decide) dX12_haggle_88 (fun c30 => ?_) (fun c30 => ?_)
        · replace h := ifT h c30
          refine A_lload X 0 rfl dX12_haggle_97 ?_
          refine A_sub [1, 2, 3, 4] rfl (L' := [(0, vR 0), (1, vI a1), (2, vI x2), (3, vI x3)]) rfl ?_
          exact w_X12_haggle_99 (a1 := a1) X E hk31 x2 x3 v26 x3 s27 h
        · replace h := ifF h c30
          refine A_ldc2 X (v := (-1000000)) (List.mem_of_getElem? (i := 5) rfl) dX12_haggle_91 (z := (-1000000)) (by decide +kernel) ?_
          refine A_goto X (tgt := 99) (by decide) dX12_haggle_94 ?_
          refine A_sub [1, 2, 3, 4] rfl (L' := [(0, vR 0), (1, vI a1), (2, vI x2), (3, vI x3)]) rfl ?_
          exact w_X12_haggle_99 (a1 := a1) X E hk31 x2 x3 (-1000000) x3 s27 h
      · replace h := ifF h c29
        refine A_ldc2 X (v := (1000000)) (List.mem_of_getElem? (i := 4) rfl) dX12_haggle_76 (z := 1000000) (by decide +kernel) ?_
        refine A_goto X (tgt := 99) (by decide) dX12_haggle_79 ?_
        refine A_sub [1, 2, 3, 4] rfl (L' := [(0, vR 0), (1, vI a1), (2, vI x2), (3, vI x3)]) rfl ?_
        exact w_X12_haggle_99 (a1 := a1) X E hk31 x2 x3 1000000 x3 s27 h
    · replace h := ifT h c25
      refine A_goto X (tgt := 105) (by decide) dX12_haggle_52 ?_
      exact w_X12_haggle_105 (a1 := a1) X E hk31 x2 x3 s23 h
set_option maxRecDepth 100000 in
set_option maxHeartbeats 4000000 in
theorem w_X12_haggle_31 {x : aC} {r : Int × Hp} {k24 : Int × Hp → Option (Int × Hp)} {a1 : Int} (X : aX x cX12_haggle wsX12_haggle RX12 6 rm_X12_haggle) (E : aE x shM (some .int) 0 r) (hk24 : ∀ (x2 : Int) (σ : Hp), k24 (x2, σ) = some r → aS x shM 6 24 [(0, vR 0), (1, vI a1), (2, vI x2)] [] σ) : ∀ (n : Nat) (x2 : Int) (x3 : Int) (σ : Hp) (h : F_M_haggle_31 k24 a1 n (x2, x3, σ) = some r), aS x shM 6 31 [(0, vR 0), (1, vI a1), (2, vI x2), (3, vI x3)] [] σ := by
  intro n
  induction n with
  | zero => intro x2 x3 σ h; cases h
  | succ n ih => intro x2 x3 σ h; exact w_X12_haggle_31_b (a1 := a1) (k31 := F_M_haggle_31 k24 a1 n) X E hk24 ih x2 x3 σ h
set_option maxRecDepth 100000 in
set_option maxHeartbeats 4000000 in
theorem w_X12_haggle_24_b {x : aC} {r : Int × Hp} {k24 : Int × Hp → Option (Int × Hp)} {a1 : Int} (X : aX x cX12_haggle wsX12_haggle RX12 6 rm_X12_haggle) (E : aE x shM (some .int) 0 r) (hk24 : ∀ (x2 : Int) (σ : Hp), k24 (x2, σ) = some r → aS x shM 6 24 [(0, vR 0), (1, vI a1), (2, vI x2)] [] σ) (x2 : Int) (σ : Hp) (h : F_M_haggle_24_b k24 a1 x2 σ = some r) : aS x shM 6 24 [(0, vR 0), (1, vI a1), (2, vI x2)] [] σ := by
  unfold F_M_haggle_24_b at h
  refine A_iload_n X 2 rfl rfl dX12_haggle_24 ?_
  refine A_iload_n X 1 rfl rfl dX12_haggle_25 ?_
  refine A_icmp_gt X (tgt := 166) (by decide) dX12_haggle_26 (fun c31 => ?_) (fun c31 => ?_)
  · replace h := ifT h c31
    refine A_aload_n X 0 rfl rfl dX12_haggle_166 ?_
    refine A_iconst X dX12_haggle_167 (z := 2) (by decide) ?_
    refine A_putI X fp_X12_haggle_216 shM_0 (k := 67) rfl (by decide) dX12_haggle_168 (fun s32 hy => ?_)
    replace h := ltD h s32 hy
    clear hy
    refine A_bipush X dX12_haggle_171 (z := (-2)) (by decide) ?_
    refine A_iload_n X 1 rfl rfl dX12_haggle_173 ?_
    refine A_isub X dX12_haggle_174 ?_
    exact A_ireturn X E h dX12_haggle_175
  · replace h := ifF h c31
    refine A_iconst X dX12_haggle_29 (z := 0) (by decide) ?_
    refine A_istore_n X (L' := [(3, vI 0), (0, vR 0), (1, vI a1), (2, vI x2)]) rfl (by decide) rfl dX12_haggle_30 ?_
    refine A_sub [1, 2, 3, 0] rfl (L' := [(0, vR 0), (1, vI a1), (2, vI x2), (3, vI 0)]) rfl ?_
    exact w_X12_haggle_31 (a1 := a1) X E hk24 FU x2 0 σ h
set_option maxRecDepth 100000 in
set_option maxHeartbeats 4000000 in
theorem w_X12_haggle_24 {x : aC} {r : Int × Hp} {a1 : Int} (X : aX x cX12_haggle wsX12_haggle RX12 6 rm_X12_haggle) (E : aE x shM (some .int) 0 r) : ∀ (n : Nat) (x2 : Int) (σ : Hp) (h : F_M_haggle_24 a1 n (x2, σ) = some r), aS x shM 6 24 [(0, vR 0), (1, vI a1), (2, vI x2)] [] σ := by
  intro n
  induction n with
  | zero => intro x2 σ h; cases h
  | succ n ih => intro x2 σ h; exact w_X12_haggle_24_b (a1 := a1) (k24 := F_M_haggle_24 a1 n) X E ih x2 σ h
set_option maxRecDepth 100000 in
set_option maxHeartbeats 4000000 in
theorem m_X12_haggle {l : Launch} {g : aG} {a1 : Int} {σ : Hp} {r : Int × Hp} (h : F_M_haggle a1 σ = some r) : aMet l g shM yX12_haggle wsX12_haggle rm_X12_haggle [vR 0, vI a1] σ 0 r := by
  unfold F_M_haggle at h
  refine aMet_of (bytes := cX12_haggle) (maxL := 6) (ret := (some .int)) (by decide +kernel) rfl (Nat.le_of_ble_eq_true rfl) ⟨rfl, rfl⟩ (fun x e1 e2 X E => ?_)
  subst e1; subst e2
  have X : aX x cX12_haggle wsX12_haggle RX12 6 rm_X12_haggle := X
  show aS x shM 6 0 [(0, vR 0), (1, vI a1)] [] σ
  refine A_iload_n X 1 rfl rfl dX12_haggle_0 ?_
  refine A_iconst X dX12_haggle_1 (z := 1) (by decide) ?_
  refine A_sipush X dX12_haggle_2 (z := 1000) (by decide) ?_
  obtain ⟨v33, s34, e35, h⟩ := clD h
  refine A_callS_I (na := 3) X (m_X12_is e35) gX12_haggle_X12_is rfl ⟨rfl, rfl⟩ (by decide +kernel) rfl ⟨Nat.le_of_ble_eq_true rfl, Nat.le_of_ble_eq_true rfl⟩ rfl (Nat.le_of_ble_eq_true rfl) dX12_haggle_5 ?_
  refine A_if_ne X (tgt := 13) (by decide) dX12_haggle_8 (fun c36 => ?_) (fun c36 => ?_)
  · replace h := ifF h c36
    refine A_aload_n X 0 rfl rfl dX12_haggle_13 ?_
    obtain ⟨v37, s38, e39, h⟩ := clD h
    refine A_callV_V (na := 0) X (m_X12_laysAll e39) gX12_haggle_X12_laysAll rfl ⟨rfl, rfl⟩ (by decide +kernel) rfl ⟨Nat.le_of_ble_eq_true rfl, Nat.le_of_ble_eq_true rfl⟩ shM_0 (by decide) rfl rfl (Nat.le_of_ble_eq_true rfl) dX12_haggle_14 ?_
    refine A_aload_n X 0 rfl rfl dX12_haggle_17 ?_
    refine A_iconst X dX12_haggle_18 (z := 0) (by decide) ?_
    obtain ⟨v40, s41, e42, h⟩ := clD h
    refine A_callV_V (na := 1) X (m_X12_keeps e42) gX12_haggle_X12_keeps rfl ⟨rfl, rfl⟩ (by decide +kernel) rfl ⟨Nat.le_of_ble_eq_true rfl, Nat.le_of_ble_eq_true rfl⟩ shM_0 (by decide) rfl rfl (Nat.le_of_ble_eq_true rfl) dX12_haggle_19 ?_
    refine A_iconst X dX12_haggle_22 (z := 1) (by decide) ?_
    refine A_istore_n X (L' := [(2, vI 1), (0, vR 0), (1, vI a1)]) rfl (by decide) rfl dX12_haggle_23 ?_
    refine A_sub [1, 2, 0] rfl (L' := [(0, vR 0), (1, vI a1), (2, vI 1)]) rfl ?_
    exact w_X12_haggle_24 (a1 := a1) X E FU 1 s41 h
  · replace h := ifT h c36
    refine A_iconst X dX12_haggle_11 (z := (-1)) (by decide) ?_
    exact A_ireturn X E h dX12_haggle_12
abbrev rm_X12_has : Room := { frames := 1, cells := 0, slots := 0, locals := 22 }
theorem in_X12_has_12 : ∀ w ∈ u_ws RX12 TX12 75, w ∈ wsX12_has := fun w h => List.mem_cons_of_mem _ (List.mem_append_right _ h)
theorem fg_X12_has_51 : aFl wsX12_has RX12 51 12 13 := ⟨RX12, TX12, 75, rfl, in_X12_has_12, by decide, (List.mem_of_getElem? (i := 1) rfl), rfl⟩
theorem fg_X12_has_48 : aFl wsX12_has RX12 48 12 12 := ⟨RX12, TX12, 75, rfl, in_X12_has_12, by decide, (List.mem_of_getElem? (i := 2) rfl), rfl⟩
theorem fg_X12_has_54 : aFl wsX12_has RX12 54 12 14 := ⟨RX12, TX12, 75, rfl, in_X12_has_12, by decide, (List.mem_of_getElem? (i := 3) rfl), rfl⟩
theorem fg_X12_has_57 : aFl wsX12_has RX12 57 12 15 := ⟨RX12, TX12, 75, rfl, in_X12_has_12, by decide, (List.mem_of_getElem? (i := 4) rfl), rfl⟩
theorem fg_X12_has_60 : aFl wsX12_has RX12 60 12 16 := ⟨RX12, TX12, 75, rfl, in_X12_has_12, by decide, (List.mem_of_getElem? (i := 5) rfl), rfl⟩
theorem fg_X12_has_144 : aFl wsX12_has RX12 144 12 43 := ⟨RX12, TX12, 75, rfl, in_X12_has_12, by decide, (List.mem_of_getElem? (i := 6) rfl), rfl⟩
theorem fg_X12_has_141 : aFl wsX12_has RX12 141 12 42 := ⟨RX12, TX12, 75, rfl, in_X12_has_12, by decide, (List.mem_of_getElem? (i := 7) rfl), rfl⟩
set_option maxRecDepth 100000 in
set_option maxHeartbeats 4000000 in
theorem m_X12_has {l : Launch} {g : aG} {a1 : Int} {σ : Hp} {r : Int × Hp} (h : F_M_has a1 σ = some r) : aMet l g shM yX12_has wsX12_has rm_X12_has [vR 0, vI a1] σ 0 r := by
  unfold F_M_has at h
  refine aMet_of (bytes := cX12_has) (maxL := 2) (ret := (some .int)) (by decide +kernel) rfl (Nat.le_of_ble_eq_true rfl) ⟨rfl, rfl⟩ (fun x e1 e2 X E => ?_)
  subst e1; subst e2
  have X : aX x cX12_has wsX12_has RX12 2 rm_X12_has := X
  show aS x shM 2 0 [(0, vR 0), (1, vI a1)] [] σ
  refine A_iload_n X 1 rfl rfl dX12_has_0 ?_
  by_cases c1 : a1 = 0
  · replace h := ifT h c1
    refine A_tIn X (j := 0) (tgt := 48) c1 (by decide) (by decide) rfl (by decide) dX12_has_1 ?_
    refine A_aload_n X 0 rfl rfl dX12_has_48 ?_
    refine A_getR X fg_X12_has_51 shM_0 (k := 13) rfl (by decide) dX12_has_49 ?_
    refine A_aload_n X 0 rfl rfl dX12_has_52 ?_
    refine A_getI X fg_X12_has_48 shM_0 (k := 12) rfl (by decide) dX12_has_53 ?_
    obtain ⟨g2, h⟩ := gdD h
    refine A_iald X g2 shM_2 dX12_has_56 ?_
    exact A_ireturn X E h dX12_has_57
  replace h := ifF h c1
  by_cases c3 : a1 = 1
  · replace h := ifT h c3
    refine A_tIn X (j := 1) (tgt := 58) c3 (by decide) (by decide) rfl (by decide) dX12_has_1 ?_
    refine A_aload_n X 0 rfl rfl dX12_has_58 ?_
    refine A_getR X fg_X12_has_54 shM_0 (k := 14) rfl (by decide) dX12_has_59 ?_
    refine A_aload_n X 0 rfl rfl dX12_has_62 ?_
    refine A_getI X fg_X12_has_48 shM_0 (k := 12) rfl (by decide) dX12_has_63 ?_
    obtain ⟨g4, h⟩ := gdD h
    refine A_iald X g4 shM_3 dX12_has_66 ?_
    exact A_ireturn X E h dX12_has_67
  replace h := ifF h c3
  by_cases c5 : a1 = 2
  · replace h := ifT h c5
    refine A_tIn X (j := 2) (tgt := 68) c5 (by decide) (by decide) rfl (by decide) dX12_has_1 ?_
    refine A_aload_n X 0 rfl rfl dX12_has_68 ?_
    refine A_getR X fg_X12_has_57 shM_0 (k := 15) rfl (by decide) dX12_has_69 ?_
    refine A_aload_n X 0 rfl rfl dX12_has_72 ?_
    refine A_getI X fg_X12_has_48 shM_0 (k := 12) rfl (by decide) dX12_has_73 ?_
    obtain ⟨g6, h⟩ := gdD h
    refine A_iald X g6 shM_4 dX12_has_76 ?_
    exact A_ireturn X E h dX12_has_77
  replace h := ifF h c5
  by_cases c7 : a1 = 3
  · replace h := ifT h c7
    refine A_tIn X (j := 3) (tgt := 78) c7 (by decide) (by decide) rfl (by decide) dX12_has_1 ?_
    refine A_aload_n X 0 rfl rfl dX12_has_78 ?_
    refine A_getR X fg_X12_has_60 shM_0 (k := 16) rfl (by decide) dX12_has_79 ?_
    refine A_aload_n X 0 rfl rfl dX12_has_82 ?_
    refine A_getI X fg_X12_has_48 shM_0 (k := 12) rfl (by decide) dX12_has_83 ?_
    obtain ⟨g8, h⟩ := gdD h
    refine A_iald X g8 shM_5 dX12_has_86 ?_
    exact A_ireturn X E h dX12_has_87
  replace h := ifF h c7
  by_cases c9 : a1 = 4
  · replace h := ifT h c9
    refine A_tIn X (j := 4) (tgt := 88) c9 (by decide) (by decide) rfl (by decide) dX12_has_1 ?_
    refine A_aload_n X 0 rfl rfl dX12_has_88 ?_
    refine A_getI X fg_X12_has_144 shM_0 (k := 43) rfl (by decide) dX12_has_89 ?_
    exact A_ireturn X E h dX12_has_92
  replace h := ifF h c9
  by_cases c10 : a1 = 5
  · replace h := ifT h c10
    refine A_tIn X (j := 5) (tgt := 93) c10 (by decide) (by decide) rfl (by decide) dX12_has_1 ?_
    refine A_aload_n X 0 rfl rfl dX12_has_93 ?_
    obtain ⟨v11, s12, e13, h⟩ := clD h
    refine A_callV_I (na := 0) X (m_X12_now e13) gX12_has_X12_now rfl ⟨rfl, rfl⟩ (by decide +kernel) rfl ⟨Nat.le_of_ble_eq_true rfl, Nat.le_of_ble_eq_true rfl⟩ shM_0 (by decide) rfl rfl (Nat.le_of_ble_eq_true rfl) dX12_has_94 ?_
    exact A_ireturn X E h dX12_has_97
  replace h := ifF h c10
  by_cases c14 : a1 = 6
  · replace h := ifT h c14
    refine A_tIn X (j := 6) (tgt := 98) c14 (by decide) (by decide) rfl (by decide) dX12_has_1 ?_
    refine A_aload_n X 0 rfl rfl dX12_has_98 ?_
    obtain ⟨v15, s16, e17, h⟩ := clD h
    refine A_callV_I (na := 0) X (m_X12_deals e17) gX12_has_X12_deals rfl ⟨rfl, rfl⟩ (by decide +kernel) rfl ⟨Nat.le_of_ble_eq_true rfl, Nat.le_of_ble_eq_true rfl⟩ shM_0 (by decide) rfl rfl (Nat.le_of_ble_eq_true rfl) dX12_has_99 ?_
    exact A_ireturn X E h dX12_has_102
  replace h := ifF h c14
  by_cases c18 : a1 = 7
  · replace h := ifT h c18
    refine A_tIn X (j := 7) (tgt := 103) c18 (by decide) (by decide) rfl (by decide) dX12_has_1 ?_
    refine A_aload_n X 0 rfl rfl dX12_has_103 ?_
    refine A_getI X fg_X12_has_141 shM_0 (k := 42) rfl (by decide) dX12_has_104 ?_
    exact A_ireturn X E h dX12_has_107
  replace h := ifF h c18
  refine A_tOut X (tgt := 108) (by omega) (by decide) dX12_has_1 ?_
  refine A_iconst X dX12_has_108 (z := (-1)) (by decide) ?_
  exact A_ireturn X E h dX12_has_109
abbrev rm_X12_writes : Room := { frames := 0, cells := 0, slots := 0, locals := 0 }
theorem in_X12_writes_12 : ∀ w ∈ u_ws RX12 TX12 75, w ∈ wsX12_writes := fun w h => List.mem_cons_of_mem _ (List.mem_append_right _ h)
theorem fg_X12_writes_231 : aFl wsX12_writes RX12 231 12 72 := ⟨RX12, TX12, 75, rfl, in_X12_writes_12, by decide, (List.mem_of_getElem? (i := 1) rfl), rfl⟩
theorem fg_X12_writes_228 : aFl wsX12_writes RX12 228 12 71 := ⟨RX12, TX12, 75, rfl, in_X12_writes_12, by decide, (List.mem_of_getElem? (i := 2) rfl), rfl⟩
theorem fp_X12_writes_228 : aFp wsX12_writes RX12 228 12 71 .int := ⟨RX12, TX12, 75, tyX12, rfl, in_X12_writes_12, by decide, (List.mem_of_getElem? (i := 2) rfl), rfl, tyX12_ok, nmX12, rfl, rfl⟩
set_option maxRecDepth 100000 in
set_option maxHeartbeats 4000000 in
theorem m_X12_writes {l : Launch} {g : aG} {a1 : Int} {σ : Hp} {r : Int × Hp} (h : F_M_writes a1 σ = some r) : aMet l g shM yX12_writes wsX12_writes rm_X12_writes [vR 0, vI a1] σ 3 r := by
  unfold F_M_writes at h
  refine aMet_of (bytes := cX12_writes) (maxL := 2) (ret := none) (by decide +kernel) rfl (Nat.le_of_ble_eq_true rfl) ⟨rfl, rfl⟩ (fun x e1 e2 X E => ?_)
  subst e1; subst e2
  have X : aX x cX12_writes wsX12_writes RX12 2 rm_X12_writes := X
  show aS x shM 2 0 [(0, vR 0), (1, vI a1)] [] σ
  refine A_aload_n X 0 rfl rfl dX12_writes_0 ?_
  refine A_getR X fg_X12_writes_231 shM_0 (k := 72) rfl (by decide) dX12_writes_1 ?_
  refine A_aload_n X 0 rfl rfl dX12_writes_4 ?_
  refine A_getI X fg_X12_writes_228 shM_0 (k := 71) rfl (by decide) dX12_writes_5 ?_
  refine A_iload_n X 1 rfl rfl dX12_writes_8 ?_
  refine A_sipush X dX12_writes_9 (z := 255) (by decide) ?_
  refine A_iand X dX12_writes_12 ?_
  obtain ⟨g1, h⟩ := gdD h
  refine A_iast X g1 shM_49 dX12_writes_13 (fun s2 hy => ?_)
  replace h := ltD h s2 hy
  clear hy
  refine A_aload_n X 0 rfl rfl dX12_writes_14 ?_
  refine A_dup X (by show ¬ (2 : Nat) = 1; decide) dX12_writes_15 ?_
  refine A_getI X fg_X12_writes_228 shM_0 (k := 71) rfl (by decide) dX12_writes_16 ?_
  refine A_iconst X dX12_writes_19 (z := 1) (by decide) ?_
  refine A_iadd X dX12_writes_20 ?_
  refine A_putI X fp_X12_writes_228 shM_0 (k := 71) rfl (by decide) dX12_writes_21 (fun s3 hy => ?_)
  replace h := ltD h s3 hy
  clear hy
  exact A_return X E h dX12_writes_24
abbrev rm_X12_image : Room := { frames := 1, cells := 0, slots := 0, locals := 21 }
theorem in_X12_image_12 : ∀ w ∈ u_ws RX12 TX12 75, w ∈ wsX12_image := fun w h => List.mem_cons_of_mem _ (List.mem_append_right _ h)
theorem fg_X12_image_204 : aFl wsX12_image RX12 204 12 63 := ⟨RX12, TX12, 75, rfl, in_X12_image_12, by decide, (List.mem_of_getElem? (i := 5) rfl), rfl⟩
theorem fg_X12_image_207 : aFl wsX12_image RX12 207 12 64 := ⟨RX12, TX12, 75, rfl, in_X12_image_12, by decide, (List.mem_of_getElem? (i := 6) rfl), rfl⟩
theorem fg_X12_image_228 : aFl wsX12_image RX12 228 12 71 := ⟨RX12, TX12, 75, rfl, in_X12_image_12, by decide, (List.mem_of_getElem? (i := 1) rfl), rfl⟩
theorem fg_X12_image_231 : aFl wsX12_image RX12 231 12 72 := ⟨RX12, TX12, 75, rfl, in_X12_image_12, by decide, (List.mem_of_getElem? (i := 7) rfl), rfl⟩
theorem fg_X12_image_54 : aFl wsX12_image RX12 54 12 14 := ⟨RX12, TX12, 75, rfl, in_X12_image_12, by decide, (List.mem_of_getElem? (i := 2) rfl), rfl⟩
theorem fg_X12_image_48 : aFl wsX12_image RX12 48 12 12 := ⟨RX12, TX12, 75, rfl, in_X12_image_12, by decide, (List.mem_of_getElem? (i := 3) rfl), rfl⟩
theorem fp_X12_image_228 : aFp wsX12_image RX12 228 12 71 .int := ⟨RX12, TX12, 75, tyX12, rfl, in_X12_image_12, by decide, (List.mem_of_getElem? (i := 1) rfl), rfl, tyX12_ok, nmX12, rfl, rfl⟩
theorem fg_X12_image_141 : aFl wsX12_image RX12 141 12 42 := ⟨RX12, TX12, 75, rfl, in_X12_image_12, by decide, (List.mem_of_getElem? (i := 4) rfl), rfl⟩
set_option maxRecDepth 100000 in
set_option maxHeartbeats 4000000 in
theorem w_X12_image_106 {x : aC} {r : Int × Hp} {k39 : Int × Hp → Option (Int × Hp)} (X : aX x cX12_image wsX12_image RX12 3 rm_X12_image) (E : aE x shM (some .int) 0 r) (hk39 : ∀ (x1 : Int) (σ : Hp), k39 (x1, σ) = some r → aS x shM 3 39 [(0, vR 0), (1, vI x1)] [] σ) (x1 : Int) (σ : Hp) (h : F_M_image_106 k39 x1 σ = some r) : aS x shM 3 106 [(0, vR 0), (1, vI x1)] [] σ := by
  unfold F_M_image_106 at h
  refine A_iinc X (L' := fun y1_1 => [(1, vI y1_1), (0, vR 0)]) 1 rfl (by decide) (fun _ => rfl) dX12_image_106 (by decide) (fun y1_1 hy => ?_)
  replace h := ltD h y1_1 hy
  clear hy
  refine A_goto X (tgt := 39) (by decide) dX12_image_109 ?_
  refine A_sub [1, 0] rfl (L' := [(0, vR 0), (1, vI y1_1)]) rfl ?_
  exact hk39 y1_1 σ h
set_option maxRecDepth 100000 in
set_option maxHeartbeats 4000000 in
theorem w_X12_image_75_b {x : aC} {r : Int × Hp} {k39 : Int × Hp → Option (Int × Hp)} {k75 : Int × Int × Hp → Option (Int × Hp)} (X : aX x cX12_image wsX12_image RX12 3 rm_X12_image) (E : aE x shM (some .int) 0 r) (hk39 : ∀ (x1 : Int) (σ : Hp), k39 (x1, σ) = some r → aS x shM 3 39 [(0, vR 0), (1, vI x1)] [] σ) (hk75 : ∀ (x1 : Int) (x2 : Int) (σ : Hp), k75 (x1, x2, σ) = some r → aS x shM 3 75 [(0, vR 0), (1, vI x1), (2, vI x2)] [] σ) (x1 : Int) (x2 : Int) (σ : Hp) (h : F_M_image_75_b k39 k75 x1 x2 σ = some r) : aS x shM 3 75 [(0, vR 0), (1, vI x1), (2, vI x2)] [] σ := by
  unfold F_M_image_75_b at h
  refine A_iload_n X 2 rfl rfl dX12_image_75 ?_
  refine A_if_lt X (tgt := 106) (by decide) dX12_image_76 (fun c2 => ?_) (fun c2 => ?_)
  · replace h := ifT h c2
    refine A_sub [0, 1] rfl (L' := [(0, vR 0), (1, vI x1)]) rfl ?_
    exact w_X12_image_106 X E hk39 x1 σ h
  · replace h := ifF h c2
    refine A_aload_n X 0 rfl rfl dX12_image_79 ?_
    refine A_getR X fg_X12_image_204 shM_0 (k := 63) rfl (by decide) dX12_image_80 ?_
    refine A_iload_n X 1 rfl rfl dX12_image_83 ?_
    obtain ⟨g3, h⟩ := gdD h
    refine A_zald X g3 shM_42 dX12_image_84 ?_
    refine A_if_eq X (tgt := 106) (by decide) dX12_image_85 (fun c4 => ?_) (fun c4 => ?_)
    · replace h := ifT h c4
      refine A_sub [0, 1] rfl (L' := [(0, vR 0), (1, vI x1)]) rfl ?_
      exact w_X12_image_106 X E hk39 x1 σ h
    · replace h := ifF h c4
      refine A_aload_n X 0 rfl rfl dX12_image_88 ?_
      refine A_aload_n X 0 rfl rfl dX12_image_89 ?_
      refine A_getR X fg_X12_image_207 shM_0 (k := 64) rfl (by decide) dX12_image_90 ?_
      refine A_iload_n X 1 rfl rfl dX12_image_93 ?_
      obtain ⟨g5, h⟩ := gdD h
      refine A_iald X g5 shM_43 dX12_image_94 ?_
      refine A_iload_n X 2 rfl rfl dX12_image_95 ?_
      refine A_ishr X dX12_image_96 ?_
      obtain ⟨v6, s7, e8, h⟩ := clD h
      refine A_callV_V (na := 1) X (m_X12_writes e8) gX12_image_X12_writes rfl ⟨rfl, rfl⟩ (by decide +kernel) rfl ⟨Nat.le_of_ble_eq_true rfl, Nat.le_of_ble_eq_true rfl⟩ shM_0 (by decide) rfl rfl (Nat.le_of_ble_eq_true rfl) dX12_image_97 ?_
      refine A_iinc X (L' := fun y2_9 => [(2, vI y2_9), (0, vR 0), (1, vI x1)]) 2 rfl (by decide) (fun _ => rfl) dX12_image_100 (by decide) (fun y2_9 hy => ?_)
      replace h := ltD h y2_9 hy
      clear hy
      refine A_goto X (tgt := 75) (by decide) dX12_image_103 ?_
      refine A_sub [1, 2, 0] rfl (L' := [(0, vR 0), (1, vI x1), (2, vI y2_9)]) rfl ?_
      exact hk75 x1 y2_9 s7 h
set_option maxRecDepth 100000 in
set_option maxHeartbeats 4000000 in
theorem w_X12_image_75 {x : aC} {r : Int × Hp} {k39 : Int × Hp → Option (Int × Hp)} (X : aX x cX12_image wsX12_image RX12 3 rm_X12_image) (E : aE x shM (some .int) 0 r) (hk39 : ∀ (x1 : Int) (σ : Hp), k39 (x1, σ) = some r → aS x shM 3 39 [(0, vR 0), (1, vI x1)] [] σ) : ∀ (n : Nat) (x1 : Int) (x2 : Int) (σ : Hp) (h : F_M_image_75 k39 n (x1, x2, σ) = some r), aS x shM 3 75 [(0, vR 0), (1, vI x1), (2, vI x2)] [] σ := by
  intro n
  induction n with
  | zero => intro x1 x2 σ h; cases h
  | succ n ih => intro x1 x2 σ h; exact w_X12_image_75_b (k75 := F_M_image_75 k39 n) X E hk39 ih x1 x2 σ h
set_option maxRecDepth 100000 in
set_option maxHeartbeats 4000000 in
theorem w_X12_image_69 {x : aC} {r : Int × Hp} {k39 : Int × Hp → Option (Int × Hp)} (X : aX x cX12_image wsX12_image RX12 3 rm_X12_image) (E : aE x shM (some .int) 0 r) (hk39 : ∀ (x1 : Int) (σ : Hp), k39 (x1, σ) = some r → aS x shM 3 39 [(0, vR 0), (1, vI x1)] [] σ) (x1 : Int) (t2 : Int) (σ : Hp) (h : F_M_image_69 k39 x1 t2 σ = some r) : aS x shM 3 69 [(0, vR 0), (1, vI x1)] [vI t2, vR 0] σ := by
  unfold F_M_image_69 at h
  obtain ⟨v10, s11, e12, h⟩ := clD h
  refine A_callV_V (na := 1) X (m_X12_writes e12) gX12_image_X12_writes rfl ⟨rfl, rfl⟩ (by decide +kernel) rfl ⟨Nat.le_of_ble_eq_true rfl, Nat.le_of_ble_eq_true rfl⟩ shM_0 (by decide) rfl rfl (Nat.le_of_ble_eq_true rfl) dX12_image_69 ?_
  refine A_bipush X dX12_image_72 (z := 24) (by decide) ?_
  refine A_istore_n X (L' := [(2, vI 24), (0, vR 0), (1, vI x1)]) rfl (by decide) rfl dX12_image_74 ?_
  refine A_sub [1, 2, 0] rfl (L' := [(0, vR 0), (1, vI x1), (2, vI 24)]) rfl ?_
  exact w_X12_image_75 X E hk39 FU x1 24 s11 h
set_option maxRecDepth 100000 in
set_option maxHeartbeats 4000000 in
theorem w_X12_image_116_b {x : aC} {r : Int × Hp} {k116 : Int × Int × Hp → Option (Int × Hp)} (X : aX x cX12_image wsX12_image RX12 3 rm_X12_image) (E : aE x shM (some .int) 0 r) (hk116 : ∀ (x1 : Int) (x2 : Int) (σ : Hp), k116 (x1, x2, σ) = some r → aS x shM 3 116 [(0, vR 0), (1, vI x1), (2, vI x2)] [] σ) (x1 : Int) (x2 : Int) (σ : Hp) (h : F_M_image_116_b k116 x1 x2 σ = some r) : aS x shM 3 116 [(0, vR 0), (1, vI x1), (2, vI x2)] [] σ := by
  unfold F_M_image_116_b at h
  refine A_iload_n X 2 rfl rfl dX12_image_116 ?_
  refine A_aload_n X 0 rfl rfl dX12_image_117 ?_
  refine A_getI X fg_X12_image_228 shM_0 (k := 71) rfl (by decide) dX12_image_118 ?_
  refine A_icmp_ge X (tgt := 146) (by decide) dX12_image_121 (fun c13 => ?_) (fun c13 => ?_)
  · replace h := ifT h c13
    refine A_aload_n X 0 rfl rfl dX12_image_146 ?_
    refine A_iload_n X 1 rfl rfl dX12_image_147 ?_
    refine A_bipush X dX12_image_148 (z := 8) (by decide) ?_
    refine A_ishr X dX12_image_150 ?_
    obtain ⟨v14, s15, e16, h⟩ := clD h
    refine A_callV_V (na := 1) X (m_X12_writes e16) gX12_image_X12_writes rfl ⟨rfl, rfl⟩ (by decide +kernel) rfl ⟨Nat.le_of_ble_eq_true rfl, Nat.le_of_ble_eq_true rfl⟩ shM_0 (by decide) rfl rfl (Nat.le_of_ble_eq_true rfl) dX12_image_151 ?_
    refine A_aload_n X 0 rfl rfl dX12_image_154 ?_
    refine A_iload_n X 1 rfl rfl dX12_image_155 ?_
    obtain ⟨v17, s18, e19, h⟩ := clD h
    refine A_callV_V (na := 1) X (m_X12_writes e19) gX12_image_X12_writes rfl ⟨rfl, rfl⟩ (by decide +kernel) rfl ⟨Nat.le_of_ble_eq_true rfl, Nat.le_of_ble_eq_true rfl⟩ shM_0 (by decide) rfl rfl (Nat.le_of_ble_eq_true rfl) dX12_image_156 ?_
    refine A_aload_n X 0 rfl rfl dX12_image_159 ?_
    refine A_getI X fg_X12_image_228 shM_0 (k := 71) rfl (by decide) dX12_image_160 ?_
    exact A_ireturn X E h dX12_image_163
  · replace h := ifF h c13
    refine A_bipush X dX12_image_124 (z := 31) (by decide) ?_
    refine A_iload_n X 1 rfl rfl dX12_image_126 ?_
    refine A_imul X dX12_image_127 ?_
    refine A_aload_n X 0 rfl rfl dX12_image_128 ?_
    refine A_getR X fg_X12_image_231 shM_0 (k := 72) rfl (by decide) dX12_image_129 ?_
    refine A_iload_n X 2 rfl rfl dX12_image_132 ?_
    obtain ⟨g20, h⟩ := gdD h
    refine A_iald X g20 shM_49 dX12_image_133 ?_
    refine A_iadd X dX12_image_134 ?_
    refine A_ldcw X (v := (65521)) (List.mem_of_getElem? (i := 8) rfl) dX12_image_135 (z := 65521) (by decide) ?_
    refine A_irem X (by decide) dX12_image_138 ?_
    refine A_istore_nN X (L' := fun y1_21 => [(1, vI y1_21), (0, vR 0), (2, vI x2)]) rfl (by decide) (fun _ => rfl) dX12_image_139 (fun y1_21 hy => ?_)
    replace h := ltD h y1_21 hy
    clear hy
    refine A_iinc X (L' := fun y2_22 => [(2, vI y2_22), (1, vI y1_21), (0, vR 0)]) 2 rfl (by decide) (fun _ => rfl) dX12_image_140 (by decide) (fun y2_22 hy => ?_)
    replace h := ltD h y2_22 hy
    clear hy
    refine A_goto X (tgt := 116) (by decide) dX12_image_143 ?_
    refine A_sub [2, 1, 0] rfl (L' := [(0, vR 0), (1, vI y1_21), (2, vI y2_22)]) rfl ?_
    exact hk116 y1_21 y2_22 σ h
set_option maxRecDepth 100000 in
set_option maxHeartbeats 4000000 in
theorem w_X12_image_116 {x : aC} {r : Int × Hp} (X : aX x cX12_image wsX12_image RX12 3 rm_X12_image) (E : aE x shM (some .int) 0 r) : ∀ (n : Nat) (x1 : Int) (x2 : Int) (σ : Hp) (h : F_M_image_116 n (x1, x2, σ) = some r), aS x shM 3 116 [(0, vR 0), (1, vI x1), (2, vI x2)] [] σ := by
  intro n
  induction n with
  | zero => intro x1 x2 σ h; cases h
  | succ n ih => intro x1 x2 σ h; exact w_X12_image_116_b (k116 := F_M_image_116 n) X E ih x1 x2 σ h
set_option maxRecDepth 100000 in
set_option maxHeartbeats 4000000 in
theorem w_X12_image_39_b {x : aC} {r : Int × Hp} {k39 : Int × Hp → Option (Int × Hp)} (X : aX x cX12_image wsX12_image RX12 3 rm_X12_image) (E : aE x shM (some .int) 0 r) (hk39 : ∀ (x1 : Int) (σ : Hp), k39 (x1, σ) = some r → aS x shM 3 39 [(0, vR 0), (1, vI x1)] [] σ) (x1 : Int) (σ : Hp) (h : F_M_image_39_b k39 x1 σ = some r) : aS x shM 3 39 [(0, vR 0), (1, vI x1)] [] σ := by
  unfold F_M_image_39_b at h
  refine A_iload_n X 1 rfl rfl dX12_image_39 ?_
  refine A_aload_n X 0 rfl rfl dX12_image_40 ?_
  refine A_getR X fg_X12_image_54 shM_0 (k := 14) rfl (by decide) dX12_image_41 ?_
  refine A_aload_n X 0 rfl rfl dX12_image_44 ?_
  refine A_getI X fg_X12_image_48 shM_0 (k := 12) rfl (by decide) dX12_image_45 ?_
  obtain ⟨g23, h⟩ := gdD h
  refine A_iald X g23 shM_3 dX12_image_48 ?_
  refine A_icmp_ge X (tgt := 112) (by decide) dX12_image_49 (fun c24 => ?_) (fun c24 => ?_)
  · replace h := ifT h c24
    refine A_iconst X dX12_image_112 (z := 1) (by decide) ?_
    refine A_istore_n X (L' := [(1, vI 1), (0, vR 0)]) rfl (by decide) rfl dX12_image_113 ?_
    refine A_iconst X dX12_image_114 (z := 0) (by decide) ?_
    refine A_istore_n X (L' := [(2, vI 0), (1, vI 1), (0, vR 0)]) rfl (by decide) rfl dX12_image_115 ?_
    refine A_sub [2, 1, 0] rfl (L' := [(0, vR 0), (1, vI 1), (2, vI 0)]) rfl ?_
    exact w_X12_image_116 X E FU 1 0 σ h
  · replace h := ifF h c24
    refine A_aload_n X 0 rfl rfl dX12_image_52 ?_
    refine A_aload_n X 0 rfl rfl dX12_image_53 ?_
    refine A_getR X fg_X12_image_204 shM_0 (k := 63) rfl (by decide) dX12_image_54 ?_
    refine A_iload_n X 1 rfl rfl dX12_image_57 ?_
    obtain ⟨g25, h⟩ := gdD h
    refine A_zald X g25 shM_42 dX12_image_58 ?_
    refine A_if_eq X (tgt := 66) (by decide) dX12_image_59 (fun c26 => ?_) (fun c26 => ?_)
    · replace h := ifT h c26
      refine A_sipush X dX12_image_66 (z := 255) (by decide) ?_
      exact w_X12_image_69 X E hk39 x1 255 σ h
    · replace h := ifF h c26
      refine A_iconst X dX12_image_62 (z := 1) (by decide) ?_
      refine A_goto X (tgt := 69) (by decide) dX12_image_63 ?_
      exact w_X12_image_69 X E hk39 x1 1 σ h
set_option maxRecDepth 100000 in
set_option maxHeartbeats 4000000 in
theorem w_X12_image_39 {x : aC} {r : Int × Hp} (X : aX x cX12_image wsX12_image RX12 3 rm_X12_image) (E : aE x shM (some .int) 0 r) : ∀ (n : Nat) (x1 : Int) (σ : Hp) (h : F_M_image_39 n (x1, σ) = some r), aS x shM 3 39 [(0, vR 0), (1, vI x1)] [] σ := by
  intro n
  induction n with
  | zero => intro x1 σ h; cases h
  | succ n ih => intro x1 σ h; exact w_X12_image_39_b (k39 := F_M_image_39 n) X E ih x1 σ h
set_option maxRecDepth 100000 in
set_option maxHeartbeats 4000000 in
theorem m_X12_image {l : Launch} {g : aG} {σ : Hp} {r : Int × Hp} (h : F_M_image σ = some r) : aMet l g shM yX12_image wsX12_image rm_X12_image [vR 0] σ 0 r := by
  unfold F_M_image at h
  refine aMet_of (bytes := cX12_image) (maxL := 3) (ret := (some .int)) (by decide +kernel) rfl (Nat.le_of_ble_eq_true rfl) ⟨rfl, rfl⟩ (fun x e1 e2 X E => ?_)
  subst e1; subst e2
  have X : aX x cX12_image wsX12_image RX12 3 rm_X12_image := X
  show aS x shM 3 0 [(0, vR 0)] [] σ
  refine A_aload_n X 0 rfl rfl dX12_image_0 ?_
  refine A_iconst X dX12_image_1 (z := 0) (by decide) ?_
  refine A_putI X fp_X12_image_228 shM_0 (k := 71) rfl (by decide) dX12_image_2 (fun s27 hy => ?_)
  replace h := ltD h s27 hy
  clear hy
  refine A_aload_n X 0 rfl rfl dX12_image_5 ?_
  refine A_aload_n X 0 rfl rfl dX12_image_6 ?_
  refine A_getR X fg_X12_image_54 shM_0 (k := 14) rfl (by decide) dX12_image_7 ?_
  refine A_aload_n X 0 rfl rfl dX12_image_10 ?_
  refine A_getI X fg_X12_image_48 shM_0 (k := 12) rfl (by decide) dX12_image_11 ?_
  obtain ⟨g28, h⟩ := gdD h
  refine A_iald X g28 shM_3 dX12_image_14 ?_
  obtain ⟨v29, s30, e31, h⟩ := clD h
  refine A_callV_V (na := 1) X (m_X12_writes e31) gX12_image_X12_writes rfl ⟨rfl, rfl⟩ (by decide +kernel) rfl ⟨Nat.le_of_ble_eq_true rfl, Nat.le_of_ble_eq_true rfl⟩ shM_0 (by decide) rfl rfl (Nat.le_of_ble_eq_true rfl) dX12_image_15 ?_
  refine A_aload_n X 0 rfl rfl dX12_image_18 ?_
  refine A_aload_n X 0 rfl rfl dX12_image_19 ?_
  refine A_getI X fg_X12_image_141 shM_0 (k := 42) rfl (by decide) dX12_image_20 ?_
  refine A_bipush X dX12_image_23 (z := 8) (by decide) ?_
  refine A_ishr X dX12_image_25 ?_
  obtain ⟨v32, s33, e34, h⟩ := clD h
  refine A_callV_V (na := 1) X (m_X12_writes e34) gX12_image_X12_writes rfl ⟨rfl, rfl⟩ (by decide +kernel) rfl ⟨Nat.le_of_ble_eq_true rfl, Nat.le_of_ble_eq_true rfl⟩ shM_0 (by decide) rfl rfl (Nat.le_of_ble_eq_true rfl) dX12_image_26 ?_
  refine A_aload_n X 0 rfl rfl dX12_image_29 ?_
  refine A_aload_n X 0 rfl rfl dX12_image_30 ?_
  refine A_getI X fg_X12_image_141 shM_0 (k := 42) rfl (by decide) dX12_image_31 ?_
  obtain ⟨v35, s36, e37, h⟩ := clD h
  refine A_callV_V (na := 1) X (m_X12_writes e37) gX12_image_X12_writes rfl ⟨rfl, rfl⟩ (by decide +kernel) rfl ⟨Nat.le_of_ble_eq_true rfl, Nat.le_of_ble_eq_true rfl⟩ shM_0 (by decide) rfl rfl (Nat.le_of_ble_eq_true rfl) dX12_image_34 ?_
  refine A_iconst X dX12_image_37 (z := 0) (by decide) ?_
  refine A_istore_n X (L' := [(1, vI 0), (0, vR 0)]) rfl (by decide) rfl dX12_image_38 ?_
  refine A_sub [1, 0] rfl (L' := [(0, vR 0), (1, vI 0)]) rfl ?_
  exact w_X12_image_39 X E FU 0 s36 h
abbrev rm_X12_word : Room := { frames := 0, cells := 0, slots := 0, locals := 0 }
theorem in_X12_word_12 : ∀ w ∈ u_ws RX12 TX12 75, w ∈ wsX12_word := fun w h => List.mem_cons_of_mem _ (List.mem_append_right _ h)
theorem fg_X12_word_7 : aFl wsX12_word RX12 7 12 0 := ⟨RX12, TX12, 75, rfl, in_X12_word_12, by decide, (List.mem_of_getElem? (i := 1) rfl), rfl⟩
set_option maxRecDepth 100000 in
set_option maxHeartbeats 4000000 in
theorem m_X12_word {l : Launch} {g : aG} {a1 : Int} {σ : Hp} {r : Int × Hp} (h : F_M_word a1 σ = some r) : aMet l g shM yX12_word wsX12_word rm_X12_word [vR 0, vI a1] σ 0 r := by
  unfold F_M_word at h
  refine aMet_of (bytes := cX12_word) (maxL := 2) (ret := (some .int)) (by decide +kernel) rfl (Nat.le_of_ble_eq_true rfl) ⟨rfl, rfl⟩ (fun x e1 e2 X E => ?_)
  subst e1; subst e2
  have X : aX x cX12_word wsX12_word RX12 2 rm_X12_word := X
  show aS x shM 2 0 [(0, vR 0), (1, vI a1)] [] σ
  refine A_aload_n X 0 rfl rfl dX12_word_0 ?_
  refine A_getR X fg_X12_word_7 shM_0 (k := 0) rfl (by decide) dX12_word_1 ?_
  refine A_iload_n X 1 rfl rfl dX12_word_4 ?_
  obtain ⟨g1, h⟩ := gdD h
  refine A_iald X g1 shM_1 dX12_word_5 ?_
  refine A_bipush X dX12_word_6 (z := 24) (by decide) ?_
  refine A_ishl X dX12_word_8 ?_
  refine A_aload_n X 0 rfl rfl dX12_word_9 ?_
  refine A_getR X fg_X12_word_7 shM_0 (k := 0) rfl (by decide) dX12_word_10 ?_
  refine A_iload_n X 1 rfl rfl dX12_word_13 ?_
  refine A_iconst X dX12_word_14 (z := 1) (by decide) ?_
  refine A_iadd X dX12_word_15 ?_
  obtain ⟨g2, h⟩ := gdD h
  refine A_iald X g2 shM_1 dX12_word_16 ?_
  refine A_bipush X dX12_word_17 (z := 16) (by decide) ?_
  refine A_ishl X dX12_word_19 ?_
  refine A_ior X dX12_word_20 ?_
  refine A_aload_n X 0 rfl rfl dX12_word_21 ?_
  refine A_getR X fg_X12_word_7 shM_0 (k := 0) rfl (by decide) dX12_word_22 ?_
  refine A_iload_n X 1 rfl rfl dX12_word_25 ?_
  refine A_iconst X dX12_word_26 (z := 2) (by decide) ?_
  refine A_iadd X dX12_word_27 ?_
  obtain ⟨g3, h⟩ := gdD h
  refine A_iald X g3 shM_1 dX12_word_28 ?_
  refine A_bipush X dX12_word_29 (z := 8) (by decide) ?_
  refine A_ishl X dX12_word_31 ?_
  refine A_ior X dX12_word_32 ?_
  refine A_aload_n X 0 rfl rfl dX12_word_33 ?_
  refine A_getR X fg_X12_word_7 shM_0 (k := 0) rfl (by decide) dX12_word_34 ?_
  refine A_iload_n X 1 rfl rfl dX12_word_37 ?_
  refine A_iconst X dX12_word_38 (z := 3) (by decide) ?_
  refine A_iadd X dX12_word_39 ?_
  obtain ⟨g4, h⟩ := gdD h
  refine A_iald X g4 shM_1 dX12_word_40 ?_
  refine A_ior X dX12_word_41 ?_
  exact A_ireturn X E h dX12_word_42
abbrev rm_X12_isImage : Room := { frames := 1, cells := 0, slots := 0, locals := 22 }
theorem in_X12_isImage_12 : ∀ w ∈ u_ws RX12 TX12 75, w ∈ wsX12_isImage := fun w h => List.mem_cons_of_mem _ (List.mem_append_right _ h)
theorem fg_X12_isImage_234 : aFl wsX12_isImage RX12 234 12 73 := ⟨RX12, TX12, 75, rfl, in_X12_isImage_12, by decide, (List.mem_of_getElem? (i := 5) rfl), rfl⟩
theorem fg_X12_isImage_237 : aFl wsX12_isImage RX12 237 12 74 := ⟨RX12, TX12, 75, rfl, in_X12_isImage_12, by decide, (List.mem_of_getElem? (i := 6) rfl), rfl⟩
theorem fg_X12_isImage_7 : aFl wsX12_isImage RX12 7 12 0 := ⟨RX12, TX12, 75, rfl, in_X12_isImage_12, by decide, (List.mem_of_getElem? (i := 1) rfl), rfl⟩
theorem fg_X12_isImage_54 : aFl wsX12_isImage RX12 54 12 14 := ⟨RX12, TX12, 75, rfl, in_X12_isImage_12, by decide, (List.mem_of_getElem? (i := 2) rfl), rfl⟩
theorem fg_X12_isImage_48 : aFl wsX12_isImage RX12 48 12 12 := ⟨RX12, TX12, 75, rfl, in_X12_isImage_12, by decide, (List.mem_of_getElem? (i := 3) rfl), rfl⟩
set_option maxRecDepth 100000 in
set_option maxHeartbeats 4000000 in
theorem w_X12_isImage_46 {x : aC} {r : Int × Hp} {a1 : Int} (X : aX x cX12_isImage wsX12_isImage RX12 7 rm_X12_isImage) (E : aE x shM (some .boolean) 0 r) (σ : Hp) (h : F_M_isImage_46 a1 σ = some r) : aS x shM 7 46 [] [] σ := by
  unfold F_M_isImage_46 at h
  refine A_iconst X dX12_isImage_46 (z := 0) (by decide) ?_
  exact A_zreturn X (Or.inl rfl) E h dX12_isImage_47
set_option maxRecDepth 100000 in
set_option maxHeartbeats 4000000 in
theorem w_X12_isImage_273 {x : aC} {r : Int × Hp} {a1 : Int} (X : aX x cX12_isImage wsX12_isImage RX12 7 rm_X12_isImage) (E : aE x shM (some .boolean) 0 r) (σ : Hp) (h : F_M_isImage_273 a1 σ = some r) : aS x shM 7 273 [] [] σ := by
  unfold F_M_isImage_273 at h
  refine A_iconst X dX12_isImage_273 (z := 0) (by decide) ?_
  exact A_zreturn X (Or.inl rfl) E h dX12_isImage_274
set_option maxRecDepth 100000 in
set_option maxHeartbeats 4000000 in
theorem w_X12_isImage_282 {x : aC} {r : Int × Hp} {k116 : Int × Int × Int × Hp → Option (Int × Hp)} {a1 : Int} (X : aX x cX12_isImage wsX12_isImage RX12 7 rm_X12_isImage) (E : aE x shM (some .boolean) 0 r) (hk116 : ∀ (x3 : Int) (x4 : Int) (x5 : Int) (σ : Hp), k116 (x3, x4, x5, σ) = some r → aS x shM 7 116 [(0, vR 0), (1, vI a1), (3, vI x3), (4, vI x4), (5, vI x5)] [] σ) (x3 : Int) (x4 : Int) (x5 : Int) (σ : Hp) (h : F_M_isImage_282 k116 a1 x3 x4 x5 σ = some r) : aS x shM 7 282 [(0, vR 0), (1, vI a1), (3, vI x3), (4, vI x4), (5, vI x5)] [] σ := by
  unfold F_M_isImage_282 at h
  refine A_iinc X (L' := fun y5_1 => [(5, vI y5_1), (0, vR 0), (1, vI a1), (3, vI x3), (4, vI x4)]) 4 rfl (by decide) (fun _ => rfl) dX12_isImage_282 (by decide) (fun y5_1 hy => ?_)
  replace h := ltD h y5_1 hy
  clear hy
  refine A_goto X (tgt := 116) (by decide) dX12_isImage_285 ?_
  refine A_sub [1, 2, 3, 4, 0] rfl (L' := [(0, vR 0), (1, vI a1), (3, vI x3), (4, vI x4), (5, vI y5_1)]) rfl ?_
  exact hk116 x3 x4 y5_1 σ h
set_option maxRecDepth 100000 in
set_option maxHeartbeats 4000000 in
theorem w_X12_isImage_185 {x : aC} {r : Int × Hp} {k116 : Int × Int × Int × Hp → Option (Int × Hp)} {a1 : Int} (X : aX x cX12_isImage wsX12_isImage RX12 7 rm_X12_isImage) (E : aE x shM (some .boolean) 0 r) (hk116 : ∀ (x3 : Int) (x4 : Int) (x5 : Int) (σ : Hp), k116 (x3, x4, x5, σ) = some r → aS x shM 7 116 [(0, vR 0), (1, vI a1), (3, vI x3), (4, vI x4), (5, vI x5)] [] σ) (x3 : Int) (x4 : Int) (x5 : Int) (σ : Hp) (h : F_M_isImage_185 k116 a1 x3 x4 x5 σ = some r) : aS x shM 7 185 [(0, vR 0), (1, vI a1), (3, vI x3), (4, vI x4), (5, vI x5)] [] σ := by
  unfold F_M_isImage_185 at h
  refine A_iinc X (L' := fun y3_2 => [(3, vI y3_2), (0, vR 0), (1, vI a1), (4, vI x4), (5, vI x5)]) 2 rfl (by decide) (fun _ => rfl) dX12_isImage_185 (by decide) (fun y3_2 hy => ?_)
  replace h := ltD h y3_2 hy
  clear hy
  refine A_aload_n X 1 rfl rfl dX12_isImage_188 ?_
  refine A_getR X fg_X12_isImage_234 shM_0 (k := 73) rfl (by decide) dX12_isImage_189 ?_
  refine A_iload X 4 rfl dX12_isImage_192 ?_
  obtain ⟨g3, h⟩ := gdD h
  refine A_zald X g3 shM_50 dX12_isImage_194 ?_
  refine A_if_ne X (tgt := 201) (by decide) dX12_isImage_195 (fun c4 => ?_) (fun c4 => ?_)
  · replace h := ifF h c4
    refine A_iload_n X 0 rfl rfl dX12_isImage_201 ?_
    refine A_iconst X dX12_isImage_202 (z := 4) (by decide) ?_
    refine A_iadd X dX12_isImage_203 ?_
    refine A_iload_n X 2 rfl rfl dX12_isImage_204 ?_
    refine A_iconst X dX12_isImage_205 (z := 2) (by decide) ?_
    refine A_isub X dX12_isImage_206 ?_
    refine A_icmp_le X (tgt := 212) (by decide) dX12_isImage_207 (fun c5 => ?_) (fun c5 => ?_)
    · replace h := ifT h c5
      refine A_aload_n X 1 rfl rfl dX12_isImage_212 ?_
      refine A_getR X fg_X12_isImage_237 shM_0 (k := 74) rfl (by decide) dX12_isImage_213 ?_
      refine A_iload X 4 rfl dX12_isImage_216 ?_
      refine A_aload_n X 1 rfl rfl dX12_isImage_218 ?_
      refine A_iload_n X 0 rfl rfl dX12_isImage_219 ?_
      obtain ⟨v6, s7, e8, h⟩ := clD h
      refine A_callV_I (na := 1) X (m_X12_word e8) gX12_isImage_X12_word rfl ⟨rfl, rfl⟩ (by decide +kernel) rfl ⟨Nat.le_of_ble_eq_true rfl, Nat.le_of_ble_eq_true rfl⟩ shM_0 (by decide) rfl rfl (Nat.le_of_ble_eq_true rfl) dX12_isImage_220 ?_
      obtain ⟨g9, h⟩ := gdD h
      refine A_iast X g9 shM_51 dX12_isImage_223 (fun s10 hy => ?_)
      replace h := ltD h s10 hy
      clear hy
      refine A_iinc X (L' := fun y3_11 => [(3, vI y3_11), (0, vR 0), (1, vI a1), (4, vI x4), (5, vI x5)]) 0 rfl (by decide) (fun _ => rfl) dX12_isImage_224 (by decide) (fun y3_11 hy => ?_)
      replace h := ltD h y3_11 hy
      clear hy
      refine A_iconst X dX12_isImage_227 (z := 1) (by decide) ?_
      refine A_aload_n X 1 rfl rfl dX12_isImage_228 ?_
      refine A_iload X 4 rfl dX12_isImage_229 ?_
      obtain ⟨v12, s13, e14, h⟩ := clD h
      refine A_callV_I (na := 1) X (m_X12_first e14) gX12_isImage_X12_first rfl ⟨rfl, rfl⟩ (by decide +kernel) rfl ⟨Nat.le_of_ble_eq_true rfl, Nat.le_of_ble_eq_true rfl⟩ shM_0 (by decide) rfl rfl (Nat.le_of_ble_eq_true rfl) dX12_isImage_231 ?_
      refine A_ishl X dX12_isImage_234 ?_
      refine A_iconst X dX12_isImage_235 (z := 1) (by decide) ?_
      refine A_aload_n X 1 rfl rfl dX12_isImage_236 ?_
      refine A_iload X 4 rfl dX12_isImage_237 ?_
      obtain ⟨v15, s16, e17, h⟩ := clD h
      refine A_callV_I (na := 1) X (m_X12_second e17) gX12_isImage_X12_second rfl ⟨rfl, rfl⟩ (by decide +kernel) rfl ⟨Nat.le_of_ble_eq_true rfl, Nat.le_of_ble_eq_true rfl⟩ shM_0 (by decide) rfl rfl (Nat.le_of_ble_eq_true rfl) dX12_isImage_239 ?_
      refine A_ishl X dX12_isImage_242 ?_
      refine A_ior X dX12_isImage_243 ?_
      refine A_istoreN X (L' := fun y6_18 => [(6, vI y6_18), (3, vI y3_11), (0, vR 0), (1, vI a1), (4, vI x4), (5, vI x5)]) (by decide) (fun _ => rfl) dX12_isImage_244 (fun y6_18 hy => ?_)
      replace h := ltD h y6_18 hy
      clear hy
      refine A_iload X 4 rfl dX12_isImage_246 ?_
      refine A_iload X 0 rfl dX12_isImage_248 ?_
      refine A_iand X dX12_isImage_250 ?_
      refine A_if_ne X (tgt := 273) (by decide) dX12_isImage_251 (fun c19 => ?_) (fun c19 => ?_)
      · replace h := ifF h c19
        refine A_sub [] rfl (L' := []) rfl ?_
        exact w_X12_isImage_273 (a1 := a1) X E s16 h
      · replace h := ifT h c19
        refine A_aload_n X 2 rfl rfl dX12_isImage_254 ?_
        refine A_getR X fg_X12_isImage_237 shM_0 (k := 74) rfl (by decide) dX12_isImage_255 ?_
        refine A_iload X 5 rfl dX12_isImage_258 ?_
        obtain ⟨g20, h⟩ := gdD h
        refine A_iald X g20 shM_51 dX12_isImage_260 ?_
        refine A_ldcw X (v := (-1000000)) (List.mem_of_getElem? (i := 7) rfl) dX12_isImage_261 (z := (-1000000)) (by decide) ?_
        refine A_ldcw X (v := (1000000)) (List.mem_of_getElem? (i := 8) rfl) dX12_isImage_264 (z := 1000000) (by decide) ?_
        obtain ⟨v21, s22, e23, h⟩ := clD h
        refine A_callS_I (na := 3) X (m_X12_is e23) gX12_isImage_X12_is rfl ⟨rfl, rfl⟩ (by decide +kernel) rfl ⟨Nat.le_of_ble_eq_true rfl, Nat.le_of_ble_eq_true rfl⟩ rfl (Nat.le_of_ble_eq_true rfl) dX12_isImage_267 ?_
        refine A_if_ne X (tgt := 275) (by decide) dX12_isImage_270 (fun c24 => ?_) (fun c24 => ?_)
        · replace h := ifF h c24
          refine A_iload X 4 rfl dX12_isImage_275 ?_
          refine A_iload X 0 rfl dX12_isImage_277 ?_
          refine A_ior X dX12_isImage_279 ?_
          refine A_istoreN X (L' := fun y4_25 => [(4, vI y4_25), (6, vI y6_18), (3, vI y3_11), (0, vR 0), (1, vI a1), (5, vI x5)]) (by decide) (fun _ => rfl) dX12_isImage_280 (fun y4_25 hy => ?_)
          replace h := ltD h y4_25 hy
          clear hy
          refine A_sub [3, 4, 2, 0, 5] rfl (L' := [(0, vR 0), (1, vI a1), (3, vI y3_11), (4, vI y4_25), (5, vI x5)]) rfl ?_
          exact w_X12_isImage_282 (a1 := a1) X E hk116 y3_11 y4_25 x5 s22 h
        · replace h := ifT h c24
          refine A_sub [] rfl (L' := []) rfl ?_
          exact w_X12_isImage_273 (a1 := a1) X E s22 h
    · replace h := ifF h c5
      refine A_iconst X dX12_isImage_210 (z := 0) (by decide) ?_
      exact A_zreturn X (Or.inl rfl) E h dX12_isImage_211
  · replace h := ifT h c4
    refine A_goto X (tgt := 282) (by decide) dX12_isImage_198 ?_
    refine A_sub [1, 2, 0, 3, 4] rfl (L' := [(0, vR 0), (1, vI a1), (3, vI y3_2), (4, vI x4), (5, vI x5)]) rfl ?_
    exact w_X12_isImage_282 (a1 := a1) X E hk116 y3_2 x4 x5 σ h
set_option maxRecDepth 100000 in
set_option maxHeartbeats 4000000 in
theorem w_X12_isImage_160 {x : aC} {r : Int × Hp} {k116 : Int × Int × Int × Hp → Option (Int × Hp)} {a1 : Int} (X : aX x cX12_isImage wsX12_isImage RX12 7 rm_X12_isImage) (E : aE x shM (some .boolean) 0 r) (hk116 : ∀ (x3 : Int) (x4 : Int) (x5 : Int) (σ : Hp), k116 (x3, x4, x5, σ) = some r → aS x shM 7 116 [(0, vR 0), (1, vI a1), (3, vI x3), (4, vI x4), (5, vI x5)] [] σ) (x3 : Int) (x4 : Int) (x5 : Int) (t3 : Int) (t2 : Int) (σ : Hp) (h : F_M_isImage_160 k116 a1 x3 x4 x5 t3 t2 σ = some r) : aS x shM 7 160 [(0, vR 0), (1, vI a1), (3, vI x3), (4, vI x4), (5, vI x5)] [vI t3, vI t2, vR 50] σ := by
  unfold F_M_isImage_160 at h
  obtain ⟨g26, h⟩ := gdD h
  refine A_zast X g26 shM_50 dX12_isImage_160 (fun s27 hy => ?_)
  replace h := ltD h s27 hy
  clear hy
  refine A_aload_n X 0 rfl rfl dX12_isImage_161 ?_
  refine A_getR X fg_X12_isImage_7 shM_0 (k := 0) rfl (by decide) dX12_isImage_162 ?_
  refine A_iload_n X 2 rfl rfl dX12_isImage_165 ?_
  obtain ⟨g28, h⟩ := gdD h
  refine A_iald X g28 shM_1 dX12_isImage_166 ?_
  refine A_iconst X dX12_isImage_167 (z := 1) (by decide) ?_
  refine A_icmp_eq X (tgt := 185) (by decide) dX12_isImage_168 (fun c29 => ?_) (fun c29 => ?_)
  · replace h := ifT h c29
    exact w_X12_isImage_185 (a1 := a1) X E hk116 x3 x4 x5 s27 h
  · replace h := ifF h c29
    refine A_aload_n X 0 rfl rfl dX12_isImage_171 ?_
    refine A_getR X fg_X12_isImage_7 shM_0 (k := 0) rfl (by decide) dX12_isImage_172 ?_
    refine A_iload_n X 2 rfl rfl dX12_isImage_175 ?_
    obtain ⟨g30, h⟩ := gdD h
    refine A_iald X g30 shM_1 dX12_isImage_176 ?_
    refine A_sipush X dX12_isImage_177 (z := 255) (by decide) ?_
    refine A_icmp_eq X (tgt := 185) (by decide) dX12_isImage_180 (fun c31 => ?_) (fun c31 => ?_)
    · replace h := ifT h c31
      exact w_X12_isImage_185 (a1 := a1) X E hk116 x3 x4 x5 s27 h
    · replace h := ifF h c31
      refine A_iconst X dX12_isImage_183 (z := 0) (by decide) ?_
      exact A_zreturn X (Or.inl rfl) E h dX12_isImage_184
set_option maxRecDepth 100000 in
set_option maxHeartbeats 4000000 in
theorem w_X12_isImage_300 {x : aC} {r : Int × Hp} {a1 : Int} (X : aX x cX12_isImage wsX12_isImage RX12 7 rm_X12_isImage) (E : aE x shM (some .boolean) 0 r) (t1 : Int) (σ : Hp) (h : F_M_isImage_300 a1 t1 σ = some r) : aS x shM 7 300 [] [vI t1] σ := by
  unfold F_M_isImage_300 at h
  obtain ⟨g32, h⟩ := gdD h
  exact A_zreturn X g32 E h dX12_isImage_300
set_option maxRecDepth 100000 in
set_option maxHeartbeats 4000000 in
theorem w_X12_isImage_116_b {x : aC} {r : Int × Hp} {k116 : Int × Int × Int × Hp → Option (Int × Hp)} {a1 : Int} (X : aX x cX12_isImage wsX12_isImage RX12 7 rm_X12_isImage) (E : aE x shM (some .boolean) 0 r) (hk116 : ∀ (x3 : Int) (x4 : Int) (x5 : Int) (σ : Hp), k116 (x3, x4, x5, σ) = some r → aS x shM 7 116 [(0, vR 0), (1, vI a1), (3, vI x3), (4, vI x4), (5, vI x5)] [] σ) (x3 : Int) (x4 : Int) (x5 : Int) (σ : Hp) (h : F_M_isImage_116_b k116 a1 x3 x4 x5 σ = some r) : aS x shM 7 116 [(0, vR 0), (1, vI a1), (3, vI x3), (4, vI x4), (5, vI x5)] [] σ := by
  unfold F_M_isImage_116_b at h
  refine A_iload X 4 rfl dX12_isImage_116 ?_
  refine A_aload_n X 0 rfl rfl dX12_isImage_118 ?_
  refine A_getR X fg_X12_isImage_54 shM_0 (k := 14) rfl (by decide) dX12_isImage_119 ?_
  refine A_aload_n X 0 rfl rfl dX12_isImage_122 ?_
  refine A_getI X fg_X12_isImage_48 shM_0 (k := 12) rfl (by decide) dX12_isImage_123 ?_
  obtain ⟨g33, h⟩ := gdD h
  refine A_iald X g33 shM_3 dX12_isImage_126 ?_
  refine A_icmp_ge X (tgt := 288) (by decide) dX12_isImage_127 (fun c34 => ?_) (fun c34 => ?_)
  · replace h := ifT h c34
    refine A_iload_n X 2 rfl rfl dX12_isImage_288 ?_
    refine A_iload_n X 1 rfl rfl dX12_isImage_289 ?_
    refine A_iconst X dX12_isImage_290 (z := 2) (by decide) ?_
    refine A_isub X dX12_isImage_291 ?_
    refine A_icmp_ne X (tgt := 299) (by decide) dX12_isImage_292 (fun c35 => ?_) (fun c35 => ?_)
    · replace h := ifF h c35
      refine A_iconst X dX12_isImage_299 (z := 0) (by decide) ?_
      refine A_sub [] rfl (L' := []) rfl ?_
      exact w_X12_isImage_300 (a1 := a1) X E 0 σ h
    · replace h := ifT h c35
      refine A_iconst X dX12_isImage_295 (z := 1) (by decide) ?_
      refine A_goto X (tgt := 300) (by decide) dX12_isImage_296 ?_
      refine A_sub [] rfl (L' := []) rfl ?_
      exact w_X12_isImage_300 (a1 := a1) X E 1 σ h
  · replace h := ifF h c34
    refine A_iload_n X 2 rfl rfl dX12_isImage_130 ?_
    refine A_iload_n X 1 rfl rfl dX12_isImage_131 ?_
    refine A_iconst X dX12_isImage_132 (z := 2) (by decide) ?_
    refine A_isub X dX12_isImage_133 ?_
    refine A_icmp_lt X (tgt := 139) (by decide) dX12_isImage_134 (fun c36 => ?_) (fun c36 => ?_)
    · replace h := ifT h c36
      refine A_aload_n X 0 rfl rfl dX12_isImage_139 ?_
      refine A_getR X fg_X12_isImage_234 shM_0 (k := 73) rfl (by decide) dX12_isImage_140 ?_
      refine A_iload X 4 rfl dX12_isImage_143 ?_
      refine A_aload_n X 0 rfl rfl dX12_isImage_145 ?_
      refine A_getR X fg_X12_isImage_7 shM_0 (k := 0) rfl (by decide) dX12_isImage_146 ?_
      refine A_iload_n X 2 rfl rfl dX12_isImage_149 ?_
      obtain ⟨g37, h⟩ := gdD h
      refine A_iald X g37 shM_1 dX12_isImage_150 ?_
      refine A_iconst X dX12_isImage_151 (z := 1) (by decide) ?_
      refine A_icmp_ne X (tgt := 159) (by decide) dX12_isImage_152 (fun c38 => ?_) (fun c38 => ?_)
      · replace h := ifF h c38
        refine A_iconst X dX12_isImage_159 (z := 0) (by decide) ?_
        exact w_X12_isImage_160 (a1 := a1) X E hk116 x3 x4 x5 0 x5 σ h
      · replace h := ifT h c38
        refine A_iconst X dX12_isImage_155 (z := 1) (by decide) ?_
        refine A_goto X (tgt := 160) (by decide) dX12_isImage_156 ?_
        exact w_X12_isImage_160 (a1 := a1) X E hk116 x3 x4 x5 1 x5 σ h
    · replace h := ifF h c36
      refine A_iconst X dX12_isImage_137 (z := 0) (by decide) ?_
      exact A_zreturn X (Or.inl rfl) E h dX12_isImage_138
set_option maxRecDepth 100000 in
set_option maxHeartbeats 4000000 in
theorem w_X12_isImage_116 {x : aC} {r : Int × Hp} {a1 : Int} (X : aX x cX12_isImage wsX12_isImage RX12 7 rm_X12_isImage) (E : aE x shM (some .boolean) 0 r) : ∀ (n : Nat) (x3 : Int) (x4 : Int) (x5 : Int) (σ : Hp) (h : F_M_isImage_116 a1 n (x3, x4, x5, σ) = some r), aS x shM 7 116 [(0, vR 0), (1, vI a1), (3, vI x3), (4, vI x4), (5, vI x5)] [] σ := by
  intro n
  induction n with
  | zero => intro x3 x4 x5 σ h; cases h
  | succ n ih => intro x3 x4 x5 σ h; exact w_X12_isImage_116_b (a1 := a1) (k116 := F_M_isImage_116 a1 n) X E ih x3 x4 x5 σ h
set_option maxRecDepth 100000 in
set_option maxHeartbeats 4000000 in
theorem w_X12_isImage_52_b {x : aC} {r : Int × Hp} {k52 : Int × Int × Hp → Option (Int × Hp)} {a1 : Int} (X : aX x cX12_isImage wsX12_isImage RX12 7 rm_X12_isImage) (E : aE x shM (some .boolean) 0 r) (hk52 : ∀ (x2 : Int) (x3 : Int) (σ : Hp), k52 (x2, x3, σ) = some r → aS x shM 7 52 [(0, vR 0), (1, vI a1), (2, vI x2), (3, vI x3)] [] σ) (x2 : Int) (x3 : Int) (σ : Hp) (h : F_M_isImage_52_b k52 a1 x2 x3 σ = some r) : aS x shM 7 52 [(0, vR 0), (1, vI a1), (2, vI x2), (3, vI x3)] [] σ := by
  unfold F_M_isImage_52_b at h
  refine A_iload_n X 3 rfl rfl dX12_isImage_52 ?_
  refine A_iload_n X 1 rfl rfl dX12_isImage_53 ?_
  refine A_iconst X dX12_isImage_54 (z := 2) (by decide) ?_
  refine A_isub X dX12_isImage_55 ?_
  refine A_icmp_ge X (tgt := 81) (by decide) dX12_isImage_56 (fun c39 => ?_) (fun c39 => ?_)
  · replace h := ifT h c39
    refine A_iload_n X 2 rfl rfl dX12_isImage_81 ?_
    refine A_sipush X dX12_isImage_82 (z := 256) (by decide) ?_
    refine A_aload_n X 0 rfl rfl dX12_isImage_85 ?_
    refine A_getR X fg_X12_isImage_7 shM_0 (k := 0) rfl (by decide) dX12_isImage_86 ?_
    refine A_iload_n X 1 rfl rfl dX12_isImage_89 ?_
    refine A_iconst X dX12_isImage_90 (z := 2) (by decide) ?_
    refine A_isub X dX12_isImage_91 ?_
    obtain ⟨g40, h⟩ := gdD h
    refine A_iald X g40 shM_1 dX12_isImage_92 ?_
    refine A_imul X dX12_isImage_93 ?_
    refine A_aload_n X 0 rfl rfl dX12_isImage_94 ?_
    refine A_getR X fg_X12_isImage_7 shM_0 (k := 0) rfl (by decide) dX12_isImage_95 ?_
    refine A_iload_n X 1 rfl rfl dX12_isImage_98 ?_
    refine A_iconst X dX12_isImage_99 (z := 1) (by decide) ?_
    refine A_isub X dX12_isImage_100 ?_
    obtain ⟨g41, h⟩ := gdD h
    refine A_iald X g41 shM_1 dX12_isImage_101 ?_
    refine A_iadd X dX12_isImage_102 ?_
    refine A_icmp_eq X (tgt := 108) (by decide) dX12_isImage_103 (fun c42 => ?_) (fun c42 => ?_)
    · replace h := ifT h c42
      refine A_iconst X dX12_isImage_108 (z := 3) (by decide) ?_
      refine A_istore_n X (L' := [(3, vI 3), (0, vR 0), (1, vI a1), (2, vI x2)]) rfl (by decide) rfl dX12_isImage_109 ?_
      refine A_iconst X dX12_isImage_110 (z := 0) (by decide) ?_
      refine A_istore X (L' := [(4, vI 0), (3, vI 3), (0, vR 0), (1, vI a1), (2, vI x2)]) (by decide) rfl dX12_isImage_111 ?_
      refine A_iconst X dX12_isImage_113 (z := 0) (by decide) ?_
      refine A_istore X (L' := [(5, vI 0), (4, vI 0), (3, vI 3), (0, vR 0), (1, vI a1), (2, vI x2)]) (by decide) rfl dX12_isImage_114 ?_
      refine A_sub [3, 4, 2, 1, 0] rfl (L' := [(0, vR 0), (1, vI a1), (3, vI 3), (4, vI 0), (5, vI 0)]) rfl ?_
      exact w_X12_isImage_116 (a1 := a1) X E FU 3 0 0 σ h
    · replace h := ifF h c42
      refine A_iconst X dX12_isImage_106 (z := 0) (by decide) ?_
      exact A_zreturn X (Or.inl rfl) E h dX12_isImage_107
  · replace h := ifF h c39
    refine A_bipush X dX12_isImage_59 (z := 31) (by decide) ?_
    refine A_iload_n X 2 rfl rfl dX12_isImage_61 ?_
    refine A_imul X dX12_isImage_62 ?_
    refine A_aload_n X 0 rfl rfl dX12_isImage_63 ?_
    refine A_getR X fg_X12_isImage_7 shM_0 (k := 0) rfl (by decide) dX12_isImage_64 ?_
    refine A_iload_n X 3 rfl rfl dX12_isImage_67 ?_
    obtain ⟨g43, h⟩ := gdD h
    refine A_iald X g43 shM_1 dX12_isImage_68 ?_
    refine A_iadd X dX12_isImage_69 ?_
    refine A_ldcw X (v := (65521)) (List.mem_of_getElem? (i := 4) rfl) dX12_isImage_70 (z := 65521) (by decide) ?_
    refine A_irem X (by decide) dX12_isImage_73 ?_
    refine A_istore_nN X (L' := fun y2_44 => [(2, vI y2_44), (0, vR 0), (1, vI a1), (3, vI x3)]) rfl (by decide) (fun _ => rfl) dX12_isImage_74 (fun y2_44 hy => ?_)
    replace h := ltD h y2_44 hy
    clear hy
    refine A_iinc X (L' := fun y3_45 => [(3, vI y3_45), (2, vI y2_44), (0, vR 0), (1, vI a1)]) 3 rfl (by decide) (fun _ => rfl) dX12_isImage_75 (by decide) (fun y3_45 hy => ?_)
    replace h := ltD h y3_45 hy
    clear hy
    refine A_goto X (tgt := 52) (by decide) dX12_isImage_78 ?_
    refine A_sub [2, 3, 1, 0] rfl (L' := [(0, vR 0), (1, vI a1), (2, vI y2_44), (3, vI y3_45)]) rfl ?_
    exact hk52 y2_44 y3_45 σ h
set_option maxRecDepth 100000 in
set_option maxHeartbeats 4000000 in
theorem w_X12_isImage_52 {x : aC} {r : Int × Hp} {a1 : Int} (X : aX x cX12_isImage wsX12_isImage RX12 7 rm_X12_isImage) (E : aE x shM (some .boolean) 0 r) : ∀ (n : Nat) (x2 : Int) (x3 : Int) (σ : Hp) (h : F_M_isImage_52 a1 n (x2, x3, σ) = some r), aS x shM 7 52 [(0, vR 0), (1, vI a1), (2, vI x2), (3, vI x3)] [] σ := by
  intro n
  induction n with
  | zero => intro x2 x3 σ h; cases h
  | succ n ih => intro x2 x3 σ h; exact w_X12_isImage_52_b (a1 := a1) (k52 := F_M_isImage_52 a1 n) X E ih x2 x3 σ h
set_option maxRecDepth 100000 in
set_option maxHeartbeats 4000000 in
theorem m_X12_isImage {l : Launch} {g : aG} {a1 : Int} {σ : Hp} {r : Int × Hp} (h : F_M_isImage a1 σ = some r) : aMet l g shM yX12_isImage wsX12_isImage rm_X12_isImage [vR 0, vI a1] σ 0 r := by
  unfold F_M_isImage at h
  refine aMet_of (bytes := cX12_isImage) (maxL := 7) (ret := (some .boolean)) (by decide +kernel) rfl (Nat.le_of_ble_eq_true rfl) ⟨rfl, rfl⟩ (fun x e1 e2 X E => ?_)
  subst e1; subst e2
  have X : aX x cX12_isImage wsX12_isImage RX12 7 rm_X12_isImage := X
  show aS x shM 7 0 [(0, vR 0), (1, vI a1)] [] σ
  refine A_iload_n X 1 rfl rfl dX12_isImage_0 ?_
  refine A_iconst X dX12_isImage_1 (z := 5) (by decide) ?_
  refine A_icmp_lt X (tgt := 46) (by decide) dX12_isImage_2 (fun c46 => ?_) (fun c46 => ?_)
  · replace h := ifT h c46
    refine A_sub [] rfl (L' := []) rfl ?_
    exact w_X12_isImage_46 (a1 := a1) X E σ h
  · replace h := ifF h c46
    refine A_aload_n X 0 rfl rfl dX12_isImage_5 ?_
    refine A_getR X fg_X12_isImage_7 shM_0 (k := 0) rfl (by decide) dX12_isImage_6 ?_
    refine A_iconst X dX12_isImage_9 (z := 0) (by decide) ?_
    refine A_iald X (by decide) shM_1 dX12_isImage_10 ?_
    refine A_aload_n X 0 rfl rfl dX12_isImage_11 ?_
    refine A_getR X fg_X12_isImage_54 shM_0 (k := 14) rfl (by decide) dX12_isImage_12 ?_
    refine A_aload_n X 0 rfl rfl dX12_isImage_15 ?_
    refine A_getI X fg_X12_isImage_48 shM_0 (k := 12) rfl (by decide) dX12_isImage_16 ?_
    obtain ⟨g47, h⟩ := gdD h
    refine A_iald X g47 shM_3 dX12_isImage_19 ?_
    refine A_icmp_ne X (tgt := 46) (by decide) dX12_isImage_20 (fun c48 => ?_) (fun c48 => ?_)
    · replace h := ifF h c48
      refine A_sub [] rfl (L' := []) rfl ?_
      exact w_X12_isImage_46 (a1 := a1) X E σ h
    · replace h := ifT h c48
      refine A_sipush X dX12_isImage_23 (z := 256) (by decide) ?_
      refine A_aload_n X 0 rfl rfl dX12_isImage_26 ?_
      refine A_getR X fg_X12_isImage_7 shM_0 (k := 0) rfl (by decide) dX12_isImage_27 ?_
      refine A_iconst X dX12_isImage_30 (z := 1) (by decide) ?_
      refine A_iald X (by decide) shM_1 dX12_isImage_31 ?_
      refine A_imul X dX12_isImage_32 ?_
      refine A_aload_n X 0 rfl rfl dX12_isImage_33 ?_
      refine A_getR X fg_X12_isImage_7 shM_0 (k := 0) rfl (by decide) dX12_isImage_34 ?_
      refine A_iconst X dX12_isImage_37 (z := 2) (by decide) ?_
      refine A_iald X (by decide) shM_1 dX12_isImage_38 ?_
      refine A_iadd X dX12_isImage_39 ?_
      refine A_sipush X dX12_isImage_40 (z := 999) (by decide) ?_
      refine A_icmp_le X (tgt := 48) (by decide) dX12_isImage_43 (fun c49 => ?_) (fun c49 => ?_)
      · replace h := ifT h c49
        refine A_iconst X dX12_isImage_48 (z := 1) (by decide) ?_
        refine A_istore_n X (L' := [(2, vI 1), (0, vR 0), (1, vI a1)]) rfl (by decide) rfl dX12_isImage_49 ?_
        refine A_iconst X dX12_isImage_50 (z := 0) (by decide) ?_
        refine A_istore_n X (L' := [(3, vI 0), (2, vI 1), (0, vR 0), (1, vI a1)]) rfl (by decide) rfl dX12_isImage_51 ?_
        refine A_sub [2, 3, 1, 0] rfl (L' := [(0, vR 0), (1, vI a1), (2, vI 1), (3, vI 0)]) rfl ?_
        exact w_X12_isImage_52 (a1 := a1) X E FU 1 0 σ h
      · replace h := ifF h c49
        refine A_sub [] rfl (L' := []) rfl ?_
        exact w_X12_isImage_46 (a1 := a1) X E σ h
abbrev rm_X12_letter : Room := { frames := 2, cells := 0, slots := 0, locals := 43 }
theorem in_X12_letter_12 : ∀ w ∈ u_ws RX12 TX12 75, w ∈ wsX12_letter := fun w h => List.mem_cons_of_mem _ (List.mem_append_right _ h)
theorem fg_X12_letter_63 : aFl wsX12_letter RX12 63 12 17 := ⟨RX12, TX12, 75, rfl, in_X12_letter_12, by decide, (List.mem_of_getElem? (i := 1) rfl), rfl⟩
theorem fg_X12_letter_48 : aFl wsX12_letter RX12 48 12 12 := ⟨RX12, TX12, 75, rfl, in_X12_letter_12, by decide, (List.mem_of_getElem? (i := 2) rfl), rfl⟩
set_option maxRecDepth 100000 in
set_option maxHeartbeats 4000000 in
theorem w_X12_letter_81 {x : aC} {r : Int × Hp} {a1 : Int} {a2 : Int} (X : aX x cX12_letter wsX12_letter RX12 8 rm_X12_letter) (E : aE x shM (some .int) 0 r) (t1 : Int) (σ : Hp) (h : F_M_letter_81 a1 a2 t1 σ = some r) : aS x shM 8 81 [] [vI t1] σ := by
  unfold F_M_letter_81 at h
  exact A_ireturn X E h dX12_letter_81
set_option maxRecDepth 100000 in
set_option maxHeartbeats 4000000 in
theorem w_X12_letter_61 {x : aC} {r : Int × Hp} {a1 : Int} {a2 : Int} (X : aX x cX12_letter wsX12_letter RX12 8 rm_X12_letter) (E : aE x shM (some .int) 0 r) (σ : Hp) (h : F_M_letter_61 a1 a2 σ = some r) : aS x shM 8 61 [] [] σ := by
  unfold F_M_letter_61 at h
  refine A_iconst X dX12_letter_61 (z := (-1)) (by decide) ?_
  refine A_goto X (tgt := 81) (by decide) dX12_letter_62 ?_
  exact w_X12_letter_81 (a1 := a1) (a2 := a2) X E (-1) σ h
set_option maxRecDepth 100000 in
set_option maxHeartbeats 4000000 in
theorem w_X12_letter_31_b {x : aC} {r : Int × Hp} {k31 : Int × Int × Int × Hp → Option (Int × Hp)} {a1 : Int} {a2 : Int} (X : aX x cX12_letter wsX12_letter RX12 8 rm_X12_letter) (E : aE x shM (some .int) 0 r) (hk31 : ∀ (x3 : Int) (x5 : Int) (x6 : Int) (σ : Hp), k31 (x3, x5, x6, σ) = some r → aS x shM 8 31 [(2, vI a2), (3, vL x3), (5, vI x5), (6, vL x6)] [] σ) (x3 : Int) (x5 : Int) (x6 : Int) (σ : Hp) (h : F_M_letter_31_b k31 a1 a2 x3 x5 x6 σ = some r) : aS x shM 8 31 [(2, vI a2), (3, vL x3), (5, vI x5), (6, vL x6)] [] σ := by
  unfold F_M_letter_31_b at h
  refine A_lload X 3 rfl dX12_letter_31 ?_
  refine A_lconst X dX12_letter_33 (z := 0) (by decide) ?_
  refine A_lcmp X dX12_letter_34 ?_
  refine A_if_eq X (tgt := 51) (by decide) dX12_letter_35 (fun c1 => ?_) (fun c1 => ?_)
  · replace h := ifT h c1
    refine A_iload_n X 0 rfl rfl dX12_letter_51 ?_
    refine A_if_lt X (tgt := 61) (by decide) dX12_letter_52 (fun c2 => ?_) (fun c2 => ?_)
    · replace h := ifT h c2
      refine A_sub [] rfl (L' := []) rfl ?_
      exact w_X12_letter_61 (a1 := a1) (a2 := a2) X E σ h
    · replace h := ifF h c2
      refine A_iload_n X 0 rfl rfl dX12_letter_55 ?_
      refine A_iload X 2 rfl dX12_letter_56 ?_
      refine A_icmp_lt X (tgt := 65) (by decide) dX12_letter_58 (fun c3 => ?_) (fun c3 => ?_)
      · replace h := ifT h c3
        refine A_lload_n X 1 rfl rfl dX12_letter_65 ?_
        refine A_bipush X dX12_letter_66 (z := 8) (by decide) ?_
        refine A_iload X 2 rfl dX12_letter_68 ?_
        refine A_iconst X dX12_letter_70 (z := 1) (by decide) ?_
        refine A_isub X dX12_letter_71 ?_
        refine A_iload_n X 0 rfl rfl dX12_letter_72 ?_
        refine A_isub X dX12_letter_73 ?_
        refine A_imul X dX12_letter_74 ?_
        refine A_lushr X dX12_letter_75 ?_
        refine A_ldc2 X (v := (255)) (List.mem_of_getElem? (i := 3) rfl) dX12_letter_76 (z := 255) (by decide +kernel) ?_
        refine A_land X dX12_letter_79 ?_
        refine A_l2i X dX12_letter_80 ?_
        refine A_sub [] rfl (L' := []) rfl ?_
        exact w_X12_letter_81 (a1 := a1) (a2 := a2) X E (w32 (land (lushr x3 (imul 8 (isub (isub x5 1) a2))) 255)) σ h
      · replace h := ifF h c3
        refine A_sub [] rfl (L' := []) rfl ?_
        exact w_X12_letter_61 (a1 := a1) (a2 := a2) X E σ h
  · replace h := ifF h c1
    refine A_iinc X (L' := fun y5_4 => [(5, vI y5_4), (2, vI a2), (3, vL x3), (6, vL x6)]) 2 rfl (by decide) (fun _ => rfl) dX12_letter_38 (by decide) (fun y5_4 hy => ?_)
    replace h := ltD h y5_4 hy
    clear hy
    refine A_lload X 3 rfl dX12_letter_41 ?_
    refine A_bipush X dX12_letter_43 (z := 8) (by decide) ?_
    refine A_lushr X dX12_letter_45 ?_
    refine A_lstoreN X (L' := fun y6_5 => [(6, vL y6_5), (5, vI y5_4), (2, vI a2), (3, vL x3)]) (by decide) (fun _ => rfl) dX12_letter_46 (fun y6_5 hy => ?_)
    replace h := ltD h y6_5 hy
    clear hy
    refine A_goto X (tgt := 31) (by decide) dX12_letter_48 ?_
    refine A_sub [2, 3, 1, 0] rfl (L' := [(2, vI a2), (3, vL x3), (5, vI y5_4), (6, vL y6_5)]) rfl ?_
    exact hk31 x3 y5_4 y6_5 σ h
set_option maxRecDepth 100000 in
set_option maxHeartbeats 4000000 in
theorem w_X12_letter_31 {x : aC} {r : Int × Hp} {a1 : Int} {a2 : Int} (X : aX x cX12_letter wsX12_letter RX12 8 rm_X12_letter) (E : aE x shM (some .int) 0 r) : ∀ (n : Nat) (x3 : Int) (x5 : Int) (x6 : Int) (σ : Hp) (h : F_M_letter_31 a1 a2 n (x3, x5, x6, σ) = some r), aS x shM 8 31 [(2, vI a2), (3, vL x3), (5, vI x5), (6, vL x6)] [] σ := by
  intro n
  induction n with
  | zero => intro x3 x5 x6 σ h; cases h
  | succ n ih => intro x3 x5 x6 σ h; exact w_X12_letter_31_b (a1 := a1) (a2 := a2) (k31 := F_M_letter_31 a1 a2 n) X E ih x3 x5 x6 σ h
set_option maxRecDepth 100000 in
set_option maxHeartbeats 4000000 in
theorem m_X12_letter {l : Launch} {g : aG} {a1 : Int} {a2 : Int} {σ : Hp} {r : Int × Hp} (h : F_M_letter a1 a2 σ = some r) : aMet l g shM yX12_letter wsX12_letter rm_X12_letter [vR 0, vI a1, vI a2] σ 0 r := by
  unfold F_M_letter at h
  refine aMet_of (bytes := cX12_letter) (maxL := 8) (ret := (some .int)) (by decide +kernel) rfl (Nat.le_of_ble_eq_true rfl) ⟨rfl, rfl⟩ (fun x e1 e2 X E => ?_)
  subst e1; subst e2
  have X : aX x cX12_letter wsX12_letter RX12 8 rm_X12_letter := X
  show aS x shM 8 0 [(0, vR 0), (1, vI a1), (2, vI a2)] [] σ
  refine A_aload_n X 0 rfl rfl dX12_letter_0 ?_
  refine A_iload_n X 1 rfl rfl dX12_letter_1 ?_
  obtain ⟨v6, s7, e8, h⟩ := clD h
  refine A_callV_I (na := 1) X (m_X12_isWho e8) gX12_letter_X12_isWho rfl ⟨rfl, rfl⟩ (by decide +kernel) rfl ⟨Nat.le_of_ble_eq_true rfl, Nat.le_of_ble_eq_true rfl⟩ shM_0 (by decide) rfl rfl (Nat.le_of_ble_eq_true rfl) dX12_letter_2 ?_
  refine A_if_ne X (tgt := 10) (by decide) dX12_letter_5 (fun c9 => ?_) (fun c9 => ?_)
  · replace h := ifF h c9
    refine A_aload_n X 0 rfl rfl dX12_letter_10 ?_
    refine A_getR X fg_X12_letter_63 shM_0 (k := 17) rfl (by decide) dX12_letter_11 ?_
    refine A_bipush X dX12_letter_14 (z := 12) (by decide) ?_
    refine A_aload_n X 0 rfl rfl dX12_letter_16 ?_
    refine A_getI X fg_X12_letter_48 shM_0 (k := 12) rfl (by decide) dX12_letter_17 ?_
    refine A_imul X dX12_letter_20 ?_
    refine A_iload_n X 1 rfl rfl dX12_letter_21 ?_
    refine A_iadd X dX12_letter_22 ?_
    obtain ⟨g10, h⟩ := gdD h
    refine A_lald X g10 shM_6 dX12_letter_23 ?_
    refine A_lstore_nN X (L' := fun y3_11 => [(3, vL y3_11), (0, vR 0), (1, vI a1), (2, vI a2)]) rfl (by decide) (fun _ => rfl) dX12_letter_24 (fun y3_11 hy => ?_)
    replace h := ltD h y3_11 hy
    clear hy
    refine A_iconst X dX12_letter_25 (z := 0) (by decide) ?_
    refine A_istore X (L' := [(5, vI 0), (3, vL y3_11), (0, vR 0), (1, vI a1), (2, vI a2)]) (by decide) rfl dX12_letter_26 ?_
    refine A_lload_n X 1 rfl rfl dX12_letter_28 ?_
    refine A_lstore X (L' := [(6, vL y3_11), (5, vI 0), (3, vL y3_11), (0, vR 0), (1, vI a1), (2, vI a2)]) (by decide) rfl dX12_letter_29 ?_
    refine A_sub [5, 2, 1, 0] rfl (L' := [(2, vI a2), (3, vL y3_11), (5, vI 0), (6, vL y3_11)]) rfl ?_
    exact w_X12_letter_31 (a1 := a1) (a2 := a2) X E FU y3_11 0 y3_11 s7 h
  · replace h := ifT h c9
    refine A_iconst X dX12_letter_8 (z := (-1)) (by decide) ?_
    exact A_ireturn X E h dX12_letter_9
abbrev rm_X12_made : Room := { frames := 5, cells := 0, slots := 0, locals := 123 }
theorem in_X12_made_12 : ∀ w ∈ u_ws RX12 TX12 75, w ∈ wsX12_made := fun w h => List.mem_cons_of_mem _ (List.mem_append_right _ h)
theorem fg_X12_made_162 : aFl wsX12_made RX12 162 12 49 := ⟨RX12, TX12, 75, rfl, in_X12_made_12, by decide, (List.mem_of_getElem? (i := 2) rfl), rfl⟩
theorem fg_X12_made_88 : aFl wsX12_made RX12 88 12 25 := ⟨RX12, TX12, 75, rfl, in_X12_made_12, by decide, (List.mem_of_getElem? (i := 4) rfl), rfl⟩
theorem fg_X12_made_48 : aFl wsX12_made RX12 48 12 12 := ⟨RX12, TX12, 75, rfl, in_X12_made_12, by decide, (List.mem_of_getElem? (i := 5) rfl), rfl⟩
theorem fg_X12_made_165 : aFl wsX12_made RX12 165 12 50 := ⟨RX12, TX12, 75, rfl, in_X12_made_12, by decide, (List.mem_of_getElem? (i := 3) rfl), rfl⟩
set_option maxRecDepth 100000 in
set_option maxHeartbeats 4000000 in
theorem w_X12_made_17 {x : aC} {r : Int × Hp} {a1 : Int} {a2 : Int} (X : aX x cX12_made wsX12_made RX12 3 rm_X12_made) (E : aE x shM (some .int) 0 r) (σ : Hp) (h : F_M_made_17 a1 a2 σ = some r) : aS x shM 3 17 [] [] σ := by
  unfold F_M_made_17 at h
  refine A_ldcw X (v := (-2000000000)) (List.mem_of_getElem? (i := 1) rfl) dX12_made_17 (z := (-2000000000)) (by decide) ?_
  exact A_ireturn X E h dX12_made_20
set_option maxRecDepth 100000 in
set_option maxHeartbeats 4000000 in
theorem w_X12_made_80 {x : aC} {r : Int × Hp} {a1 : Int} {a2 : Int} (X : aX x cX12_made wsX12_made RX12 3 rm_X12_made) (E : aE x shM (some .int) 0 r) (t1 : Int) (σ : Hp) (h : F_M_made_80 a1 a2 t1 σ = some r) : aS x shM 3 80 [] [vI t1] σ := by
  unfold F_M_made_80 at h
  exact A_ireturn X E h dX12_made_80
set_option maxRecDepth 100000 in
set_option maxHeartbeats 4000000 in
theorem m_X12_made {l : Launch} {g : aG} {a1 : Int} {a2 : Int} {σ : Hp} {r : Int × Hp} (h : F_M_made a1 a2 σ = some r) : aMet l g shM yX12_made wsX12_made rm_X12_made [vR 0, vI a1, vI a2] σ 0 r := by
  unfold F_M_made at h
  refine aMet_of (bytes := cX12_made) (maxL := 3) (ret := (some .int)) (by decide +kernel) rfl (Nat.le_of_ble_eq_true rfl) ⟨rfl, rfl⟩ (fun x e1 e2 X E => ?_)
  subst e1; subst e2
  have X : aX x cX12_made wsX12_made RX12 3 rm_X12_made := X
  show aS x shM 3 0 [(0, vR 0), (1, vI a1), (2, vI a2)] [] σ
  refine A_aload_n X 0 rfl rfl dX12_made_0 ?_
  refine A_iload_n X 1 rfl rfl dX12_made_1 ?_
  obtain ⟨v1, s2, e3, h⟩ := clD h
  refine A_callV_I (na := 1) X (m_X12_isRoad e3) gX12_made_X12_isRoad rfl ⟨rfl, rfl⟩ (by decide +kernel) rfl ⟨Nat.le_of_ble_eq_true rfl, Nat.le_of_ble_eq_true rfl⟩ shM_0 (by decide) rfl rfl (Nat.le_of_ble_eq_true rfl) dX12_made_2 ?_
  refine A_if_eq X (tgt := 17) (by decide) dX12_made_5 (fun c4 => ?_) (fun c4 => ?_)
  · replace h := ifT h c4
    refine A_sub [] rfl (L' := []) rfl ?_
    exact w_X12_made_17 (a1 := a1) (a2 := a2) X E s2 h
  · replace h := ifF h c4
    refine A_iload_n X 2 rfl rfl dX12_made_8 ?_
    refine A_iconst X dX12_made_9 (z := 0) (by decide) ?_
    refine A_iconst X dX12_made_10 (z := 2) (by decide) ?_
    obtain ⟨v5, s6, e7, h⟩ := clD h
    refine A_callS_I (na := 3) X (m_X12_is e7) gX12_made_X12_is rfl ⟨rfl, rfl⟩ (by decide +kernel) rfl ⟨Nat.le_of_ble_eq_true rfl, Nat.le_of_ble_eq_true rfl⟩ rfl (Nat.le_of_ble_eq_true rfl) dX12_made_11 ?_
    refine A_if_ne X (tgt := 21) (by decide) dX12_made_14 (fun c8 => ?_) (fun c8 => ?_)
    · replace h := ifF h c8
      refine A_aload_n X 0 rfl rfl dX12_made_21 ?_
      refine A_iconst X dX12_made_22 (z := (-1)) (by decide) ?_
      refine A_iconst X dX12_made_23 (z := 0) (by decide) ?_
      obtain ⟨v9, s10, e11, h⟩ := clD h
      refine A_callV_V (na := 2) X (m_X12_lays e11) gX12_made_X12_lays rfl ⟨rfl, rfl⟩ (by decide +kernel) rfl ⟨Nat.le_of_ble_eq_true rfl, Nat.le_of_ble_eq_true rfl⟩ shM_0 (by decide) rfl rfl (Nat.le_of_ble_eq_true rfl) dX12_made_24 ?_
      refine A_aload_n X 0 rfl rfl dX12_made_27 ?_
      refine A_getR X fg_X12_made_162 shM_0 (k := 49) rfl (by decide) dX12_made_28 ?_
      refine A_iload_n X 1 rfl rfl dX12_made_31 ?_
      obtain ⟨g12, h⟩ := gdD h
      refine A_zald X g12 shM_29 dX12_made_32 ?_
      refine A_if_ne X (tgt := 40) (by decide) dX12_made_33 (fun c13 => ?_) (fun c13 => ?_)
      · replace h := ifF h c13
        refine A_iload_n X 2 rfl rfl dX12_made_40 ?_
        refine A_if_ne X (tgt := 53) (by decide) dX12_made_41 (fun c14 => ?_) (fun c14 => ?_)
        · replace h := ifF h c14
          refine A_iload_n X 2 rfl rfl dX12_made_53 ?_
          refine A_iconst X dX12_made_54 (z := 1) (by decide) ?_
          refine A_icmp_ne X (tgt := 66) (by decide) dX12_made_55 (fun c15 => ?_) (fun c15 => ?_)
          · replace h := ifF h c15
            refine A_aload_n X 0 rfl rfl dX12_made_66 ?_
            refine A_getR X fg_X12_made_88 shM_0 (k := 25) rfl (by decide) dX12_made_67 ?_
            refine A_bipush X dX12_made_70 (z := 30) (by decide) ?_
            refine A_aload_n X 0 rfl rfl dX12_made_72 ?_
            refine A_getI X fg_X12_made_48 shM_0 (k := 12) rfl (by decide) dX12_made_73 ?_
            refine A_imul X dX12_made_76 ?_
            refine A_iload_n X 1 rfl rfl dX12_made_77 ?_
            refine A_iadd X dX12_made_78 ?_
            obtain ⟨g16, h⟩ := gdD h
            refine A_iald X g16 shM_14 dX12_made_79 ?_
            refine A_sub [] rfl (L' := []) rfl ?_
            exact w_X12_made_80 (a1 := a1) (a2 := a2) X E (s10 14 (iadd (imul 30 (s10 0 12)) a1).toNat) s10 h
          · replace h := ifT h c15
            refine A_aload_n X 0 rfl rfl dX12_made_58 ?_
            refine A_iload_n X 1 rfl rfl dX12_made_59 ?_
            obtain ⟨v17, s18, e19, h⟩ := clD h
            refine A_callV_I (na := 1) X (m_X12_gainOf e19) gX12_made_X12_gainOf rfl ⟨rfl, rfl⟩ (by decide +kernel) rfl ⟨Nat.le_of_ble_eq_true rfl, Nat.le_of_ble_eq_true rfl⟩ shM_0 (by decide) rfl rfl (Nat.le_of_ble_eq_true rfl) dX12_made_60 ?_
            refine A_goto X (tgt := 80) (by decide) dX12_made_63 ?_
            refine A_sub [] rfl (L' := []) rfl ?_
            exact w_X12_made_80 (a1 := a1) (a2 := a2) X E v17 s18 h
        · replace h := ifT h c14
          refine A_aload_n X 0 rfl rfl dX12_made_44 ?_
          refine A_getR X fg_X12_made_165 shM_0 (k := 50) rfl (by decide) dX12_made_45 ?_
          refine A_iload_n X 1 rfl rfl dX12_made_48 ?_
          obtain ⟨g20, h⟩ := gdD h
          refine A_iald X g20 shM_30 dX12_made_49 ?_
          refine A_goto X (tgt := 80) (by decide) dX12_made_50 ?_
          refine A_sub [] rfl (L' := []) rfl ?_
          exact w_X12_made_80 (a1 := a1) (a2 := a2) X E (s10 30 a1.toNat) s10 h
      · replace h := ifT h c13
        refine A_ldcw X (v := (-2000000000)) (List.mem_of_getElem? (i := 1) rfl) dX12_made_36 (z := (-2000000000)) (by decide) ?_
        exact A_ireturn X E h dX12_made_39
    · replace h := ifT h c8
      refine A_sub [] rfl (L' := []) rfl ?_
      exact w_X12_made_17 (a1 := a1) (a2 := a2) X E s6 h
abbrev rm_X12_money : Room := { frames := 6, cells := 0, slots := 0, locals := 143 }
theorem in_X12_money_12 : ∀ w ∈ u_ws RX12 TX12 75, w ∈ wsX12_money := fun w h => List.mem_cons_of_mem _ (List.mem_append_right _ h)
theorem fg_X12_money_210 : aFl wsX12_money RX12 210 12 65 := ⟨RX12, TX12, 75, rfl, in_X12_money_12, by decide, (List.mem_of_getElem? (i := 2) rfl), rfl⟩
theorem fg_X12_money_213 : aFl wsX12_money RX12 213 12 66 := ⟨RX12, TX12, 75, rfl, in_X12_money_12, by decide, (List.mem_of_getElem? (i := 3) rfl), rfl⟩
theorem fg_X12_money_91 : aFl wsX12_money RX12 91 12 26 := ⟨RX12, TX12, 75, rfl, in_X12_money_12, by decide, (List.mem_of_getElem? (i := 4) rfl), rfl⟩
theorem fg_X12_money_48 : aFl wsX12_money RX12 48 12 12 := ⟨RX12, TX12, 75, rfl, in_X12_money_12, by decide, (List.mem_of_getElem? (i := 5) rfl), rfl⟩
set_option maxRecDepth 100000 in
set_option maxHeartbeats 4000000 in
theorem w_X12_money_70 {x : aC} {r : Int × Hp} {a1 : Int} (X : aX x cX12_money wsX12_money RX12 3 rm_X12_money) (E : aE x shM (some .int) 0 r) (t1 : Int) (σ : Hp) (h : F_M_money_70 a1 t1 σ = some r) : aS x shM 3 70 [] [vL t1] σ := by
  unfold F_M_money_70 at h
  refine A_l2i X dX12_money_70 ?_
  exact A_ireturn X E h dX12_money_71
set_option maxRecDepth 100000 in
set_option maxHeartbeats 4000000 in
theorem m_X12_money {l : Launch} {g : aG} {a1 : Int} {σ : Hp} {r : Int × Hp} (h : F_M_money a1 σ = some r) : aMet l g shM yX12_money wsX12_money rm_X12_money [vR 0, vI a1] σ 0 r := by
  unfold F_M_money at h
  refine aMet_of (bytes := cX12_money) (maxL := 3) (ret := (some .int)) (by decide +kernel) rfl (Nat.le_of_ble_eq_true rfl) ⟨rfl, rfl⟩ (fun x e1 e2 X E => ?_)
  subst e1; subst e2
  have X : aX x cX12_money wsX12_money RX12 3 rm_X12_money := X
  show aS x shM 3 0 [(0, vR 0), (1, vI a1)] [] σ
  refine A_aload_n X 0 rfl rfl dX12_money_0 ?_
  refine A_iload_n X 1 rfl rfl dX12_money_1 ?_
  obtain ⟨v1, s2, e3, h⟩ := clD h
  refine A_callV_I (na := 1) X (m_X12_isWho e3) gX12_money_X12_isWho rfl ⟨rfl, rfl⟩ (by decide +kernel) rfl ⟨Nat.le_of_ble_eq_true rfl, Nat.le_of_ble_eq_true rfl⟩ shM_0 (by decide) rfl rfl (Nat.le_of_ble_eq_true rfl) dX12_money_2 ?_
  refine A_if_ne X (tgt := 12) (by decide) dX12_money_5 (fun c4 => ?_) (fun c4 => ?_)
  · replace h := ifF h c4
    refine A_aload_n X 0 rfl rfl dX12_money_12 ?_
    obtain ⟨v5, s6, e7, h⟩ := clD h
    refine A_callV_V (na := 0) X (m_X12_laysAll e7) gX12_money_X12_laysAll rfl ⟨rfl, rfl⟩ (by decide +kernel) rfl ⟨Nat.le_of_ble_eq_true rfl, Nat.le_of_ble_eq_true rfl⟩ shM_0 (by decide) rfl rfl (Nat.le_of_ble_eq_true rfl) dX12_money_13 ?_
    refine A_aload_n X 0 rfl rfl dX12_money_16 ?_
    refine A_getR X fg_X12_money_210 shM_0 (k := 65) rfl (by decide) dX12_money_17 ?_
    refine A_iload_n X 1 rfl rfl dX12_money_20 ?_
    obtain ⟨g8, h⟩ := gdD h
    refine A_iald X g8 shM_44 dX12_money_21 ?_
    refine A_istore_nN X (L' := fun y2_9 => [(2, vI y2_9), (0, vR 0), (1, vI a1)]) rfl (by decide) (fun _ => rfl) dX12_money_22 (fun y2_9 hy => ?_)
    replace h := ltD h y2_9 hy
    clear hy
    refine A_iload_n X 0 rfl rfl dX12_money_23 ?_
    refine A_iconst X dX12_money_24 (z := (-1)) (by decide) ?_
    refine A_icmp_ne X (tgt := 37) (by decide) dX12_money_25 (fun c10 => ?_) (fun c10 => ?_)
    · replace h := ifF h c10
      refine A_aload_n X 1 rfl rfl dX12_money_37 ?_
      refine A_getR X fg_X12_money_213 shM_0 (k := 66) rfl (by decide) dX12_money_38 ?_
      refine A_iload_n X 2 rfl rfl dX12_money_41 ?_
      obtain ⟨g11, h⟩ := gdD h
      refine A_lald X g11 shM_45 dX12_money_42 ?_
      refine A_aload_n X 1 rfl rfl dX12_money_43 ?_
      refine A_getR X fg_X12_money_91 shM_0 (k := 26) rfl (by decide) dX12_money_44 ?_
      refine A_sipush X dX12_money_47 (z := 144) (by decide) ?_
      refine A_aload_n X 1 rfl rfl dX12_money_50 ?_
      refine A_getI X fg_X12_money_48 shM_0 (k := 12) rfl (by decide) dX12_money_51 ?_
      refine A_imul X dX12_money_54 ?_
      refine A_bipush X dX12_money_55 (z := 12) (by decide) ?_
      refine A_iload_n X 2 rfl rfl dX12_money_57 ?_
      refine A_imul X dX12_money_58 ?_
      refine A_iadd X dX12_money_59 ?_
      refine A_aload_n X 1 rfl rfl dX12_money_60 ?_
      refine A_iload_n X 0 rfl rfl dX12_money_61 ?_
      refine A_iload_n X 2 rfl rfl dX12_money_62 ?_
      obtain ⟨v12, s13, e14, h⟩ := clD h
      refine A_callV_I (na := 2) X (m_X12_otherOn e14) gX12_money_X12_otherOn rfl ⟨rfl, rfl⟩ (by decide +kernel) rfl ⟨Nat.le_of_ble_eq_true rfl, Nat.le_of_ble_eq_true rfl⟩ shM_0 (by decide) rfl rfl (Nat.le_of_ble_eq_true rfl) dX12_money_63 ?_
      refine A_iadd X dX12_money_66 ?_
      obtain ⟨g15, h⟩ := gdD h
      refine A_iald X g15 shM_15 dX12_money_67 ?_
      refine A_i2l X dX12_money_68 ?_
      refine A_lsub X dX12_money_69 ?_
      refine A_sub [] rfl (L' := []) rfl ?_
      exact w_X12_money_70 (a1 := a1) X E (lsub (s6 45 a1.toNat) (s13 15 (iadd (iadd (imul 144 (s6 0 12)) (imul 12 a1)) v12).toNat)) s13 h
    · replace h := ifT h c10
      refine A_aload_n X 1 rfl rfl dX12_money_28 ?_
      refine A_getR X fg_X12_money_213 shM_0 (k := 66) rfl (by decide) dX12_money_29 ?_
      refine A_iload_n X 2 rfl rfl dX12_money_32 ?_
      obtain ⟨g16, h⟩ := gdD h
      refine A_lald X g16 shM_45 dX12_money_33 ?_
      refine A_goto X (tgt := 70) (by decide) dX12_money_34 ?_
      refine A_sub [] rfl (L' := []) rfl ?_
      exact w_X12_money_70 (a1 := a1) X E (s6 45 a1.toNat) s6 h
  · replace h := ifT h c4
    refine A_ldcw X (v := (-2000000000)) (List.mem_of_getElem? (i := 1) rfl) dX12_money_8 (z := (-2000000000)) (by decide) ?_
    exact A_ireturn X E h dX12_money_11
abbrev rm_X12_most : Room := { frames := 5, cells := 0, slots := 0, locals := 123 }
theorem in_X12_most_12 : ∀ w ∈ u_ws RX12 TX12 75, w ∈ wsX12_most := fun w h => List.mem_cons_of_mem _ (List.mem_append_right _ h)
theorem fg_X12_most_171 : aFl wsX12_most RX12 171 12 52 := ⟨RX12, TX12, 75, rfl, in_X12_most_12, by decide, (List.mem_of_getElem? (i := 2) rfl), rfl⟩
theorem fg_X12_most_168 : aFl wsX12_most RX12 168 12 51 := ⟨RX12, TX12, 75, rfl, in_X12_most_12, by decide, (List.mem_of_getElem? (i := 1) rfl), rfl⟩
set_option maxRecDepth 100000 in
set_option maxHeartbeats 4000000 in
theorem m_X12_most {l : Launch} {g : aG} {a1 : Int} {σ : Hp} {r : Int × Hp} (h : F_M_most a1 σ = some r) : aMet l g shM yX12_most wsX12_most rm_X12_most [vR 0, vI a1] σ 0 r := by
  unfold F_M_most at h
  refine aMet_of (bytes := cX12_most) (maxL := 2) (ret := (some .int)) (by decide +kernel) rfl (Nat.le_of_ble_eq_true rfl) ⟨rfl, rfl⟩ (fun x e1 e2 X E => ?_)
  subst e1; subst e2
  have X : aX x cX12_most wsX12_most RX12 2 rm_X12_most := X
  show aS x shM 2 0 [(0, vR 0), (1, vI a1)] [] σ
  refine A_aload_n X 0 rfl rfl dX12_most_0 ?_
  refine A_iconst X dX12_most_1 (z := (-1)) (by decide) ?_
  refine A_iconst X dX12_most_2 (z := 0) (by decide) ?_
  obtain ⟨v1, s2, e3, h⟩ := clD h
  refine A_callV_V (na := 2) X (m_X12_lays e3) gX12_most_X12_lays rfl ⟨rfl, rfl⟩ (by decide +kernel) rfl ⟨Nat.le_of_ble_eq_true rfl, Nat.le_of_ble_eq_true rfl⟩ shM_0 (by decide) rfl rfl (Nat.le_of_ble_eq_true rfl) dX12_most_3 ?_
  refine A_iload_n X 1 rfl rfl dX12_most_6 ?_
  refine A_if_eq X (tgt := 19) (by decide) dX12_most_7 (fun c4 => ?_) (fun c4 => ?_)
  · replace h := ifT h c4
    refine A_aload_n X 0 rfl rfl dX12_most_19 ?_
    refine A_iconst X dX12_most_20 (z := (-1)) (by decide) ?_
    obtain ⟨v5, s6, e7, h⟩ := clD h
    refine A_callV_V (na := 1) X (m_X12_mosts e7) gX12_most_X12_mosts rfl ⟨rfl, rfl⟩ (by decide +kernel) rfl ⟨Nat.le_of_ble_eq_true rfl, Nat.le_of_ble_eq_true rfl⟩ shM_0 (by decide) rfl rfl (Nat.le_of_ble_eq_true rfl) dX12_most_21 ?_
    refine A_aload_n X 0 rfl rfl dX12_most_24 ?_
    refine A_getR X fg_X12_most_171 shM_0 (k := 52) rfl (by decide) dX12_most_25 ?_
    refine A_aload_n X 0 rfl rfl dX12_most_28 ?_
    obtain ⟨v8, s9, e10, h⟩ := clD h
    refine A_callV_I (na := 0) X (m_X12_all e10) gX12_most_X12_all rfl ⟨rfl, rfl⟩ (by decide +kernel) rfl ⟨Nat.le_of_ble_eq_true rfl, Nat.le_of_ble_eq_true rfl⟩ shM_0 (by decide) rfl rfl (Nat.le_of_ble_eq_true rfl) dX12_most_29 ?_
    obtain ⟨g11, h⟩ := gdD h
    refine A_iald X g11 shM_32 dX12_most_32 ?_
    exact A_ireturn X E h dX12_most_33
  · replace h := ifF h c4
    refine A_aload_n X 0 rfl rfl dX12_most_10 ?_
    refine A_aload_n X 0 rfl rfl dX12_most_11 ?_
    refine A_getR X fg_X12_most_168 shM_0 (k := 51) rfl (by decide) dX12_most_12 ?_
    obtain ⟨v12, s13, e14, h⟩ := clD h
    refine A_callV_I (na := 1) X (m_X12_doubles e14) gX12_most_X12_doubles rfl ⟨rfl, rfl⟩ (by decide +kernel) rfl ⟨Nat.le_of_ble_eq_true rfl, Nat.le_of_ble_eq_true rfl⟩ shM_0 (by decide) rfl rfl (Nat.le_of_ble_eq_true rfl) dX12_most_15 ?_
    exact A_ireturn X E h dX12_most_18
abbrev rm_X12_moves : Room := { frames := 6, cells := 0, slots := 0, locals := 151 }
set_option maxRecDepth 100000 in
set_option maxHeartbeats 4000000 in
theorem w_X12_moves_30 {x : aC} {r : Int × Hp} {a1 : Int} {a2 : Int} (X : aX x cX12_moves wsX12_moves RX12 3 rm_X12_moves) (E : aE x shM (some .int) 0 r) (t1 : Int) (σ : Hp) (h : F_M_moves_30 a1 a2 t1 σ = some r) : aS x shM 3 30 [] [vI t1] σ := by
  unfold F_M_moves_30 at h
  exact A_ireturn X E h dX12_moves_30
set_option maxRecDepth 100000 in
set_option maxHeartbeats 4000000 in
theorem w_X12_moves_29 {x : aC} {r : Int × Hp} {a1 : Int} {a2 : Int} (X : aX x cX12_moves wsX12_moves RX12 3 rm_X12_moves) (E : aE x shM (some .int) 0 r) (σ : Hp) (h : F_M_moves_29 a1 a2 σ = some r) : aS x shM 3 29 [] [] σ := by
  unfold F_M_moves_29 at h
  refine A_iconst X dX12_moves_29 (z := (-1)) (by decide) ?_
  exact w_X12_moves_30 (a1 := a1) (a2 := a2) X E (-1) σ h
set_option maxRecDepth 100000 in
set_option maxHeartbeats 4000000 in
theorem m_X12_moves {l : Launch} {g : aG} {a1 : Int} {a2 : Int} {σ : Hp} {r : Int × Hp} (h : F_M_moves a1 a2 σ = some r) : aMet l g shM yX12_moves wsX12_moves rm_X12_moves [vR 0, vI a1, vI a2] σ 0 r := by
  unfold F_M_moves at h
  refine aMet_of (bytes := cX12_moves) (maxL := 3) (ret := (some .int)) (by decide +kernel) rfl (Nat.le_of_ble_eq_true rfl) ⟨rfl, rfl⟩ (fun x e1 e2 X E => ?_)
  subst e1; subst e2
  have X : aX x cX12_moves wsX12_moves RX12 3 rm_X12_moves := X
  show aS x shM 3 0 [(0, vR 0), (1, vI a1), (2, vI a2)] [] σ
  refine A_aload_n X 0 rfl rfl dX12_moves_0 ?_
  refine A_iload_n X 1 rfl rfl dX12_moves_1 ?_
  obtain ⟨v1, s2, e3, h⟩ := clD h
  refine A_callV_I (na := 1) X (m_X12_isRoad e3) gX12_moves_X12_isRoad rfl ⟨rfl, rfl⟩ (by decide +kernel) rfl ⟨Nat.le_of_ble_eq_true rfl, Nat.le_of_ble_eq_true rfl⟩ shM_0 (by decide) rfl rfl (Nat.le_of_ble_eq_true rfl) dX12_moves_2 ?_
  refine A_if_eq X (tgt := 29) (by decide) dX12_moves_5 (fun c4 => ?_) (fun c4 => ?_)
  · replace h := ifT h c4
    refine A_sub [] rfl (L' := []) rfl ?_
    exact w_X12_moves_29 (a1 := a1) (a2 := a2) X E s2 h
  · replace h := ifF h c4
    refine A_iload_n X 2 rfl rfl dX12_moves_8 ?_
    refine A_iconst X dX12_moves_9 (z := (-1)) (by decide) ?_
    refine A_ldcw X (v := (100000)) (List.mem_of_getElem? (i := 1) rfl) dX12_moves_10 (z := 100000) (by decide) ?_
    obtain ⟨v5, s6, e7, h⟩ := clD h
    refine A_callS_I (na := 3) X (m_X12_is e7) gX12_moves_X12_is rfl ⟨rfl, rfl⟩ (by decide +kernel) rfl ⟨Nat.le_of_ble_eq_true rfl, Nat.le_of_ble_eq_true rfl⟩ rfl (Nat.le_of_ble_eq_true rfl) dX12_moves_13 ?_
    refine A_if_eq X (tgt := 29) (by decide) dX12_moves_16 (fun c8 => ?_) (fun c8 => ?_)
    · replace h := ifT h c8
      refine A_sub [] rfl (L' := []) rfl ?_
      exact w_X12_moves_29 (a1 := a1) (a2 := a2) X E s6 h
    · replace h := ifF h c8
      refine A_aload_n X 0 rfl rfl dX12_moves_19 ?_
      refine A_iload_n X 1 rfl rfl dX12_moves_20 ?_
      refine A_iload_n X 2 rfl rfl dX12_moves_21 ?_
      refine A_iconst X dX12_moves_22 (z := 0) (by decide) ?_
      obtain ⟨v9, s10, e11, h⟩ := clD h
      refine A_callV_I (na := 3) X (m_X12_changes e11) gX12_moves_X12_changes rfl ⟨rfl, rfl⟩ (by decide +kernel) rfl ⟨Nat.le_of_ble_eq_true rfl, Nat.le_of_ble_eq_true rfl⟩ shM_0 (by decide) rfl rfl (Nat.le_of_ble_eq_true rfl) dX12_moves_23 ?_
      refine A_goto X (tgt := 30) (by decide) dX12_moves_26 ?_
      refine A_sub [] rfl (L' := []) rfl ?_
      exact w_X12_moves_30 (a1 := a1) (a2 := a2) X E v9 s10 h
abbrev rm_X12_must : Room := { frames := 2, cells := 0, slots := 0, locals := 47 }
theorem in_X12_must_12 : ∀ w ∈ u_ws RX12 TX12 75, w ∈ wsX12_must := fun w h => List.mem_cons_of_mem _ (List.mem_append_right _ h)
theorem fg_X12_must_36 : aFl wsX12_must RX12 36 12 8 := ⟨RX12, TX12, 75, rfl, in_X12_must_12, by decide, (List.mem_of_getElem? (i := 2) rfl), rfl⟩
theorem fg_X12_must_23 : aFl wsX12_must RX12 23 12 4 := ⟨RX12, TX12, 75, rfl, in_X12_must_12, by decide, (List.mem_of_getElem? (i := 1) rfl), rfl⟩
set_option maxRecDepth 100000 in
set_option maxHeartbeats 4000000 in
theorem w_X12_must_28 {x : aC} {r : Int × Hp} {a1 : Int} (X : aX x cX12_must wsX12_must RX12 2 rm_X12_must) (E : aE x shM none 3 r) (σ : Hp) (h : F_M_must_28 a1 σ = some r) : aS x shM 2 28 [] [] σ := by
  unfold F_M_must_28 at h
  exact A_return X E h dX12_must_28
set_option maxRecDepth 100000 in
set_option maxHeartbeats 4000000 in
theorem w_X12_must_17 {x : aC} {r : Int × Hp} {a1 : Int} (X : aX x cX12_must wsX12_must RX12 2 rm_X12_must) (E : aE x shM none 3 r) (σ : Hp) (h : F_M_must_17 a1 σ = some r) : aS x shM 2 17 [(0, vR 0)] [] σ := by
  unfold F_M_must_17 at h
  refine A_aload_n X 0 rfl rfl dX12_must_17 ?_
  refine A_getI X fg_X12_must_36 shM_0 (k := 8) rfl (by decide) dX12_must_18 ?_
  refine A_if_ne X (tgt := 28) (by decide) dX12_must_21 (fun c1 => ?_) (fun c1 => ?_)
  · replace h := ifF h c1
    refine A_sub [] rfl (L' := []) rfl ?_
    exact w_X12_must_28 (a1 := a1) X E σ h
  · replace h := ifT h c1
    refine A_aload_n X 0 rfl rfl dX12_must_24 ?_
    obtain ⟨v2, s3, e4, h⟩ := clD h
    refine A_callV_V (na := 0) X (m_X12_next e4) gX12_must_X12_next rfl ⟨rfl, rfl⟩ (by decide +kernel) rfl ⟨Nat.le_of_ble_eq_true rfl, Nat.le_of_ble_eq_true rfl⟩ shM_0 (by decide) rfl rfl (Nat.le_of_ble_eq_true rfl) dX12_must_25 ?_
    refine A_sub [] rfl (L' := []) rfl ?_
    exact w_X12_must_28 (a1 := a1) X E s3 h
set_option maxRecDepth 100000 in
set_option maxHeartbeats 4000000 in
theorem m_X12_must {l : Launch} {g : aG} {a1 : Int} {σ : Hp} {r : Int × Hp} (h : F_M_must a1 σ = some r) : aMet l g shM yX12_must wsX12_must rm_X12_must [vR 0, vI a1] σ 3 r := by
  unfold F_M_must at h
  refine aMet_of (bytes := cX12_must) (maxL := 2) (ret := none) (by decide +kernel) rfl (Nat.le_of_ble_eq_true rfl) ⟨rfl, rfl⟩ (fun x e1 e2 X E => ?_)
  subst e1; subst e2
  have X : aX x cX12_must wsX12_must RX12 2 rm_X12_must := X
  show aS x shM 2 0 [(0, vR 0), (1, vI a1)] [] σ
  refine A_aload_n X 0 rfl rfl dX12_must_0 ?_
  refine A_iload_n X 1 rfl rfl dX12_must_1 ?_
  obtain ⟨v5, s6, e7, h⟩ := clD h
  refine A_callV_I (na := 1) X (m_X12_isSign e7) gX12_must_X12_isSign rfl ⟨rfl, rfl⟩ (by decide +kernel) rfl ⟨Nat.le_of_ble_eq_true rfl, Nat.le_of_ble_eq_true rfl⟩ shM_0 (by decide) rfl rfl (Nat.le_of_ble_eq_true rfl) dX12_must_2 ?_
  refine A_if_ne X (tgt := 17) (by decide) dX12_must_5 (fun c8 => ?_) (fun c8 => ?_)
  · replace h := ifF h c8
    refine A_sub [0] rfl (L' := [(0, vR 0)]) rfl ?_
    exact w_X12_must_17 (a1 := a1) X E s6 h
  · replace h := ifT h c8
    refine A_aload_n X 0 rfl rfl dX12_must_8 ?_
    refine A_iconst X dX12_must_9 (z := 1) (by decide) ?_
    refine A_aload_n X 0 rfl rfl dX12_must_10 ?_
    refine A_getI X fg_X12_must_23 shM_0 (k := 4) rfl (by decide) dX12_must_11 ?_
    obtain ⟨v9, s10, e11, h⟩ := clD h
    refine A_callV_V (na := 2) X (m_X12_blame e11) gX12_must_X12_blame rfl ⟨rfl, rfl⟩ (by decide +kernel) rfl ⟨Nat.le_of_ble_eq_true rfl, Nat.le_of_ble_eq_true rfl⟩ shM_0 (by decide) rfl rfl (Nat.le_of_ble_eq_true rfl) dX12_must_14 ?_
    refine A_sub [0] rfl (L' := [(0, vR 0)]) rfl ?_
    exact w_X12_must_17 (a1 := a1) X E s10 h
abbrev rm_X12_must_ : Room := { frames := 2, cells := 0, slots := 0, locals := 47 }
theorem in_X12_must__12 : ∀ w ∈ u_ws RX12 TX12 75, w ∈ wsX12_must_ := fun w h => List.mem_cons_of_mem _ (List.mem_append_right _ h)
theorem fg_X12_must__36 : aFl wsX12_must_ RX12 36 12 8 := ⟨RX12, TX12, 75, rfl, in_X12_must__12, by decide, (List.mem_of_getElem? (i := 1) rfl), rfl⟩
theorem fg_X12_must__23 : aFl wsX12_must_ RX12 23 12 4 := ⟨RX12, TX12, 75, rfl, in_X12_must__12, by decide, (List.mem_of_getElem? (i := 2) rfl), rfl⟩
set_option maxRecDepth 100000 in
set_option maxHeartbeats 4000000 in
theorem w_X12_must__36 {x : aC} {r : Int × Hp} {a1 : Int} (X : aX x cX12_must_ wsX12_must_ RX12 3 rm_X12_must_) (E : aE x shM none 3 r) (σ : Hp) (h : F_M_must__36 a1 σ = some r) : aS x shM 3 36 [] [] σ := by
  unfold F_M_must__36 at h
  exact A_return X E h dX12_must__36
set_option maxRecDepth 100000 in
set_option maxHeartbeats 4000000 in
theorem w_X12_must__25 {x : aC} {r : Int × Hp} {a1 : Int} (X : aX x cX12_must_ wsX12_must_ RX12 3 rm_X12_must_) (E : aE x shM none 3 r) (σ : Hp) (h : F_M_must__25 a1 σ = some r) : aS x shM 3 25 [(0, vR 0)] [] σ := by
  unfold F_M_must__25 at h
  refine A_aload_n X 0 rfl rfl dX12_must__25 ?_
  refine A_getI X fg_X12_must__36 shM_0 (k := 8) rfl (by decide) dX12_must__26 ?_
  refine A_if_ne X (tgt := 36) (by decide) dX12_must__29 (fun c1 => ?_) (fun c1 => ?_)
  · replace h := ifF h c1
    refine A_sub [] rfl (L' := []) rfl ?_
    exact w_X12_must__36 (a1 := a1) X E σ h
  · replace h := ifT h c1
    refine A_aload_n X 0 rfl rfl dX12_must__32 ?_
    obtain ⟨v2, s3, e4, h⟩ := clD h
    refine A_callV_V (na := 0) X (m_X12_next e4) gX12_must__X12_next rfl ⟨rfl, rfl⟩ (by decide +kernel) rfl ⟨Nat.le_of_ble_eq_true rfl, Nat.le_of_ble_eq_true rfl⟩ shM_0 (by decide) rfl rfl (Nat.le_of_ble_eq_true rfl) dX12_must__33 ?_
    refine A_sub [] rfl (L' := []) rfl ?_
    exact w_X12_must__36 (a1 := a1) X E s3 h
set_option maxRecDepth 100000 in
set_option maxHeartbeats 4000000 in
theorem m_X12_must_ {l : Launch} {g : aG} {a1 : Int} {σ : Hp} {r : Int × Hp} (h : F_M_must_ a1 σ = some r) : aMet l g shM yX12_must_ wsX12_must_ rm_X12_must_ [vR 0, vL a1] σ 3 r := by
  unfold F_M_must_ at h
  refine aMet_of (bytes := cX12_must_) (maxL := 3) (ret := none) (by decide +kernel) rfl (Nat.le_of_ble_eq_true rfl) ⟨rfl, rfl⟩ (fun x e1 e2 X E => ?_)
  subst e1; subst e2
  have X : aX x cX12_must_ wsX12_must_ RX12 3 rm_X12_must_ := X
  show aS x shM 3 0 [(0, vR 0), (1, vL a1)] [] σ
  refine A_aload_n X 0 rfl rfl dX12_must__0 ?_
  refine A_getI X fg_X12_must__36 shM_0 (k := 8) rfl (by decide) dX12_must__1 ?_
  refine A_if_le X (tgt := 8) (by decide) dX12_must__4 (fun c5 => ?_) (fun c5 => ?_)
  · replace h := ifT h c5
    refine A_aload_n X 0 rfl rfl dX12_must__8 ?_
    refine A_lload_n X 1 rfl rfl dX12_must__9 ?_
    obtain ⟨v6, s7, e8, h⟩ := clD h
    refine A_callV_I (na := 1) X (m_X12_isWord e8) gX12_must__X12_isWord rfl ⟨rfl, rfl⟩ (by decide +kernel) rfl ⟨Nat.le_of_ble_eq_true rfl, Nat.le_of_ble_eq_true rfl⟩ shM_0 (by decide) rfl rfl (Nat.le_of_ble_eq_true rfl) dX12_must__10 ?_
    refine A_if_ne X (tgt := 25) (by decide) dX12_must__13 (fun c9 => ?_) (fun c9 => ?_)
    · replace h := ifF h c9
      refine A_sub [0] rfl (L' := [(0, vR 0)]) rfl ?_
      exact w_X12_must__25 (a1 := a1) X E s7 h
    · replace h := ifT h c9
      refine A_aload_n X 0 rfl rfl dX12_must__16 ?_
      refine A_iconst X dX12_must__17 (z := 1) (by decide) ?_
      refine A_aload_n X 0 rfl rfl dX12_must__18 ?_
      refine A_getI X fg_X12_must__23 shM_0 (k := 4) rfl (by decide) dX12_must__19 ?_
      obtain ⟨v10, s11, e12, h⟩ := clD h
      refine A_callV_V (na := 2) X (m_X12_blame e12) gX12_must__X12_blame rfl ⟨rfl, rfl⟩ (by decide +kernel) rfl ⟨Nat.le_of_ble_eq_true rfl, Nat.le_of_ble_eq_true rfl⟩ shM_0 (by decide) rfl rfl (Nat.le_of_ble_eq_true rfl) dX12_must__22 ?_
      refine A_sub [0] rfl (L' := [(0, vR 0)]) rfl ?_
      exact w_X12_must__25 (a1 := a1) X E s11 h
  · replace h := ifF h c5
    exact A_return X E h dX12_must__7
abbrev rm_X12_octet : Room := { frames := 0, cells := 0, slots := 0, locals := 0 }
theorem in_X12_octet_12 : ∀ w ∈ u_ws RX12 TX12 75, w ∈ wsX12_octet := fun w h => List.mem_cons_of_mem _ (List.mem_append_right _ h)
theorem fg_X12_octet_228 : aFl wsX12_octet RX12 228 12 71 := ⟨RX12, TX12, 75, rfl, in_X12_octet_12, by decide, (List.mem_of_getElem? (i := 1) rfl), rfl⟩
theorem fg_X12_octet_231 : aFl wsX12_octet RX12 231 12 72 := ⟨RX12, TX12, 75, rfl, in_X12_octet_12, by decide, (List.mem_of_getElem? (i := 2) rfl), rfl⟩
set_option maxRecDepth 100000 in
set_option maxHeartbeats 4000000 in
theorem w_X12_octet_22 {x : aC} {r : Int × Hp} {a1 : Int} (X : aX x cX12_octet wsX12_octet RX12 2 rm_X12_octet) (E : aE x shM (some .int) 0 r) (t1 : Int) (σ : Hp) (h : F_M_octet_22 a1 t1 σ = some r) : aS x shM 2 22 [] [vI t1] σ := by
  unfold F_M_octet_22 at h
  exact A_ireturn X E h dX12_octet_22
set_option maxRecDepth 100000 in
set_option maxHeartbeats 4000000 in
theorem w_X12_octet_21 {x : aC} {r : Int × Hp} {a1 : Int} (X : aX x cX12_octet wsX12_octet RX12 2 rm_X12_octet) (E : aE x shM (some .int) 0 r) (σ : Hp) (h : F_M_octet_21 a1 σ = some r) : aS x shM 2 21 [] [] σ := by
  unfold F_M_octet_21 at h
  refine A_iconst X dX12_octet_21 (z := (-1)) (by decide) ?_
  exact w_X12_octet_22 (a1 := a1) X E (-1) σ h
set_option maxRecDepth 100000 in
set_option maxHeartbeats 4000000 in
theorem m_X12_octet {l : Launch} {g : aG} {a1 : Int} {σ : Hp} {r : Int × Hp} (h : F_M_octet a1 σ = some r) : aMet l g shM yX12_octet wsX12_octet rm_X12_octet [vR 0, vI a1] σ 0 r := by
  unfold F_M_octet at h
  refine aMet_of (bytes := cX12_octet) (maxL := 2) (ret := (some .int)) (by decide +kernel) rfl (Nat.le_of_ble_eq_true rfl) ⟨rfl, rfl⟩ (fun x e1 e2 X E => ?_)
  subst e1; subst e2
  have X : aX x cX12_octet wsX12_octet RX12 2 rm_X12_octet := X
  show aS x shM 2 0 [(0, vR 0), (1, vI a1)] [] σ
  refine A_iload_n X 1 rfl rfl dX12_octet_0 ?_
  refine A_if_lt X (tgt := 21) (by decide) dX12_octet_1 (fun c1 => ?_) (fun c1 => ?_)
  · replace h := ifT h c1
    refine A_sub [] rfl (L' := []) rfl ?_
    exact w_X12_octet_21 (a1 := a1) X E σ h
  · replace h := ifF h c1
    refine A_iload_n X 1 rfl rfl dX12_octet_4 ?_
    refine A_aload_n X 0 rfl rfl dX12_octet_5 ?_
    refine A_getI X fg_X12_octet_228 shM_0 (k := 71) rfl (by decide) dX12_octet_6 ?_
    refine A_icmp_ge X (tgt := 21) (by decide) dX12_octet_9 (fun c2 => ?_) (fun c2 => ?_)
    · replace h := ifT h c2
      refine A_sub [] rfl (L' := []) rfl ?_
      exact w_X12_octet_21 (a1 := a1) X E σ h
    · replace h := ifF h c2
      refine A_aload_n X 0 rfl rfl dX12_octet_12 ?_
      refine A_getR X fg_X12_octet_231 shM_0 (k := 72) rfl (by decide) dX12_octet_13 ?_
      refine A_iload_n X 1 rfl rfl dX12_octet_16 ?_
      obtain ⟨g3, h⟩ := gdD h
      refine A_iald X g3 shM_49 dX12_octet_17 ?_
      refine A_goto X (tgt := 22) (by decide) dX12_octet_18 ?_
      refine A_sub [] rfl (L' := []) rfl ?_
      exact w_X12_octet_22 (a1 := a1) X E (σ 49 a1.toNat) σ h
abbrev rm_X12_of : Room := { frames := 5, cells := 0, slots := 0, locals := 123 }
theorem in_X12_of_12 : ∀ w ∈ u_ws RX12 TX12 75, w ∈ wsX12_of := fun w h => List.mem_cons_of_mem _ (List.mem_append_right _ h)
theorem fg_X12_of_171 : aFl wsX12_of RX12 171 12 52 := ⟨RX12, TX12, 75, rfl, in_X12_of_12, by decide, (List.mem_of_getElem? (i := 1) rfl), rfl⟩
set_option maxRecDepth 100000 in
set_option maxHeartbeats 4000000 in
theorem w_X12_of_12 {x : aC} {r : Int × Hp} {a1 : Int} (X : aX x cX12_of wsX12_of RX12 2 rm_X12_of) (E : aE x shM (some .int) 0 r) (σ : Hp) (h : F_M_of_12 a1 σ = some r) : aS x shM 2 12 [] [] σ := by
  unfold F_M_of_12 at h
  refine A_iconst X dX12_of_12 (z := (-1)) (by decide) ?_
  exact A_ireturn X E h dX12_of_13
set_option maxRecDepth 100000 in
set_option maxHeartbeats 4000000 in
theorem m_X12_of {l : Launch} {g : aG} {a1 : Int} {σ : Hp} {r : Int × Hp} (h : F_M_of a1 σ = some r) : aMet l g shM yX12_of wsX12_of rm_X12_of [vR 0, vI a1] σ 0 r := by
  unfold F_M_of at h
  refine aMet_of (bytes := cX12_of) (maxL := 2) (ret := (some .int)) (by decide +kernel) rfl (Nat.le_of_ble_eq_true rfl) ⟨rfl, rfl⟩ (fun x e1 e2 X E => ?_)
  subst e1; subst e2
  have X : aX x cX12_of wsX12_of RX12 2 rm_X12_of := X
  show aS x shM 2 0 [(0, vR 0), (1, vI a1)] [] σ
  refine A_iload_n X 1 rfl rfl dX12_of_0 ?_
  refine A_if_lt X (tgt := 12) (by decide) dX12_of_1 (fun c1 => ?_) (fun c1 => ?_)
  · replace h := ifT h c1
    refine A_sub [] rfl (L' := []) rfl ?_
    exact w_X12_of_12 (a1 := a1) X E σ h
  · replace h := ifF h c1
    refine A_iload_n X 1 rfl rfl dX12_of_4 ?_
    refine A_aload_n X 0 rfl rfl dX12_of_5 ?_
    obtain ⟨v2, s3, e4, h⟩ := clD h
    refine A_callV_I (na := 0) X (m_X12_all e4) gX12_of_X12_all rfl ⟨rfl, rfl⟩ (by decide +kernel) rfl ⟨Nat.le_of_ble_eq_true rfl, Nat.le_of_ble_eq_true rfl⟩ shM_0 (by decide) rfl rfl (Nat.le_of_ble_eq_true rfl) dX12_of_6 ?_
    refine A_icmp_le X (tgt := 14) (by decide) dX12_of_9 (fun c5 => ?_) (fun c5 => ?_)
    · replace h := ifT h c5
      refine A_aload_n X 0 rfl rfl dX12_of_14 ?_
      refine A_iconst X dX12_of_15 (z := (-1)) (by decide) ?_
      refine A_iconst X dX12_of_16 (z := 0) (by decide) ?_
      obtain ⟨v6, s7, e8, h⟩ := clD h
      refine A_callV_V (na := 2) X (m_X12_lays e8) gX12_of_X12_lays rfl ⟨rfl, rfl⟩ (by decide +kernel) rfl ⟨Nat.le_of_ble_eq_true rfl, Nat.le_of_ble_eq_true rfl⟩ shM_0 (by decide) rfl rfl (Nat.le_of_ble_eq_true rfl) dX12_of_17 ?_
      refine A_aload_n X 0 rfl rfl dX12_of_20 ?_
      refine A_iconst X dX12_of_21 (z := (-1)) (by decide) ?_
      obtain ⟨v9, s10, e11, h⟩ := clD h
      refine A_callV_V (na := 1) X (m_X12_mosts e11) gX12_of_X12_mosts rfl ⟨rfl, rfl⟩ (by decide +kernel) rfl ⟨Nat.le_of_ble_eq_true rfl, Nat.le_of_ble_eq_true rfl⟩ shM_0 (by decide) rfl rfl (Nat.le_of_ble_eq_true rfl) dX12_of_22 ?_
      refine A_aload_n X 0 rfl rfl dX12_of_25 ?_
      refine A_getR X fg_X12_of_171 shM_0 (k := 52) rfl (by decide) dX12_of_26 ?_
      refine A_iload_n X 1 rfl rfl dX12_of_29 ?_
      obtain ⟨g12, h⟩ := gdD h
      refine A_iald X g12 shM_32 dX12_of_30 ?_
      exact A_ireturn X E h dX12_of_31
    · replace h := ifF h c5
      refine A_sub [] rfl (L' := []) rfl ?_
      exact w_X12_of_12 (a1 := a1) X E s3 h
abbrev rm_X12_on : Room := { frames := 2, cells := 0, slots := 0, locals := 48 }
theorem in_X12_on_12 : ∀ w ∈ u_ws RX12 TX12 75, w ∈ wsX12_on := fun w h => List.mem_cons_of_mem _ (List.mem_append_right _ h)
theorem fg_X12_on_54 : aFl wsX12_on RX12 54 12 14 := ⟨RX12, TX12, 75, rfl, in_X12_on_12, by decide, (List.mem_of_getElem? (i := 4) rfl), rfl⟩
theorem fg_X12_on_48 : aFl wsX12_on RX12 48 12 12 := ⟨RX12, TX12, 75, rfl, in_X12_on_12, by decide, (List.mem_of_getElem? (i := 5) rfl), rfl⟩
theorem fg_X12_on_204 : aFl wsX12_on RX12 204 12 63 := ⟨RX12, TX12, 75, rfl, in_X12_on_12, by decide, (List.mem_of_getElem? (i := 6) rfl), rfl⟩
theorem fg_X12_on_234 : aFl wsX12_on RX12 234 12 73 := ⟨RX12, TX12, 75, rfl, in_X12_on_12, by decide, (List.mem_of_getElem? (i := 7) rfl), rfl⟩
theorem fg_X12_on_207 : aFl wsX12_on RX12 207 12 64 := ⟨RX12, TX12, 75, rfl, in_X12_on_12, by decide, (List.mem_of_getElem? (i := 8) rfl), rfl⟩
theorem fg_X12_on_237 : aFl wsX12_on RX12 237 12 74 := ⟨RX12, TX12, 75, rfl, in_X12_on_12, by decide, (List.mem_of_getElem? (i := 9) rfl), rfl⟩
theorem fg_X12_on_13 : aFl wsX12_on RX12 13 12 1 := ⟨RX12, TX12, 75, rfl, in_X12_on_12, by decide, (List.mem_of_getElem? (i := 1) rfl), rfl⟩
theorem fp_X12_on_13 : aFp wsX12_on RX12 13 12 1 .int := ⟨RX12, TX12, 75, tyX12, rfl, in_X12_on_12, by decide, (List.mem_of_getElem? (i := 1) rfl), rfl, tyX12_ok, nmX12, rfl, rfl⟩
theorem fg_X12_on_7 : aFl wsX12_on RX12 7 12 0 := ⟨RX12, TX12, 75, rfl, in_X12_on_12, by decide, (List.mem_of_getElem? (i := 2) rfl), rfl⟩
theorem fp_X12_on_141 : aFp wsX12_on RX12 141 12 42 .int := ⟨RX12, TX12, 75, tyX12, rfl, in_X12_on_12, by decide, (List.mem_of_getElem? (i := 3) rfl), rfl, tyX12_ok, nmX12, rfl, rfl⟩
set_option maxRecDepth 100000 in
set_option maxHeartbeats 4000000 in
theorem w_X12_on_43_b {x : aC} {r : Int × Hp} {k43 : Int × Hp → Option (Int × Hp)} (X : aX x cX12_on wsX12_on RX12 3 rm_X12_on) (E : aE x shM (some .boolean) 0 r) (hk43 : ∀ (x2 : Int) (σ : Hp), k43 (x2, σ) = some r → aS x shM 3 43 [(0, vR 0), (2, vI x2)] [] σ) (x2 : Int) (σ : Hp) (h : F_M_on_43_b k43 x2 σ = some r) : aS x shM 3 43 [(0, vR 0), (2, vI x2)] [] σ := by
  unfold F_M_on_43_b at h
  refine A_iload_n X 1 rfl rfl dX12_on_43 ?_
  refine A_aload_n X 0 rfl rfl dX12_on_44 ?_
  refine A_getR X fg_X12_on_54 shM_0 (k := 14) rfl (by decide) dX12_on_45 ?_
  refine A_aload_n X 0 rfl rfl dX12_on_48 ?_
  refine A_getI X fg_X12_on_48 shM_0 (k := 12) rfl (by decide) dX12_on_49 ?_
  obtain ⟨g1, h⟩ := gdD h
  refine A_iald X g1 shM_3 dX12_on_52 ?_
  refine A_icmp_ge X (tgt := 86) (by decide) dX12_on_53 (fun c2 => ?_) (fun c2 => ?_)
  · replace h := ifT h c2
    refine A_iconst X dX12_on_86 (z := 1) (by decide) ?_
    exact A_zreturn X (Or.inr rfl) E h dX12_on_87
  · replace h := ifF h c2
    refine A_aload_n X 0 rfl rfl dX12_on_56 ?_
    refine A_getR X fg_X12_on_204 shM_0 (k := 63) rfl (by decide) dX12_on_57 ?_
    refine A_iload_n X 1 rfl rfl dX12_on_60 ?_
    refine A_aload_n X 0 rfl rfl dX12_on_61 ?_
    refine A_getR X fg_X12_on_234 shM_0 (k := 73) rfl (by decide) dX12_on_62 ?_
    refine A_iload_n X 1 rfl rfl dX12_on_65 ?_
    obtain ⟨g3, h⟩ := gdD h
    refine A_zald X g3 shM_50 dX12_on_66 ?_
    obtain ⟨g4, h⟩ := gdD h
    refine A_zast X g4 shM_42 dX12_on_67 (fun s5 hy => ?_)
    replace h := ltD h s5 hy
    clear hy
    refine A_aload_n X 0 rfl rfl dX12_on_68 ?_
    refine A_getR X fg_X12_on_207 shM_0 (k := 64) rfl (by decide) dX12_on_69 ?_
    refine A_iload_n X 1 rfl rfl dX12_on_72 ?_
    refine A_aload_n X 0 rfl rfl dX12_on_73 ?_
    refine A_getR X fg_X12_on_237 shM_0 (k := 74) rfl (by decide) dX12_on_74 ?_
    refine A_iload_n X 1 rfl rfl dX12_on_77 ?_
    obtain ⟨g6, h⟩ := gdD h
    refine A_iald X g6 shM_51 dX12_on_78 ?_
    obtain ⟨g7, h⟩ := gdD h
    refine A_iast X g7 shM_43 dX12_on_79 (fun s8 hy => ?_)
    replace h := ltD h s8 hy
    clear hy
    refine A_iinc X (L' := fun y2_9 => [(2, vI y2_9), (0, vR 0)]) 1 rfl (by decide) (fun _ => rfl) dX12_on_80 (by decide) (fun y2_9 hy => ?_)
    replace h := ltD h y2_9 hy
    clear hy
    refine A_goto X (tgt := 43) (by decide) dX12_on_83 ?_
    refine A_sub [1, 0] rfl (L' := [(0, vR 0), (2, vI y2_9)]) rfl ?_
    exact hk43 y2_9 s8 h
set_option maxRecDepth 100000 in
set_option maxHeartbeats 4000000 in
theorem w_X12_on_43 {x : aC} {r : Int × Hp} (X : aX x cX12_on wsX12_on RX12 3 rm_X12_on) (E : aE x shM (some .boolean) 0 r) : ∀ (n : Nat) (x2 : Int) (σ : Hp) (h : F_M_on_43 n (x2, σ) = some r), aS x shM 3 43 [(0, vR 0), (2, vI x2)] [] σ := by
  intro n
  induction n with
  | zero => intro x2 σ h; cases h
  | succ n ih => intro x2 σ h; exact w_X12_on_43_b (k43 := F_M_on_43 n) X E ih x2 σ h
set_option maxRecDepth 100000 in
set_option maxHeartbeats 4000000 in
theorem m_X12_on {l : Launch} {g : aG} {σ : Hp} {r : Int × Hp} (h : F_M_on σ = some r) : aMet l g shM yX12_on wsX12_on rm_X12_on [vR 0] σ 0 r := by
  unfold F_M_on at h
  refine aMet_of (bytes := cX12_on) (maxL := 3) (ret := (some .boolean)) (by decide +kernel) rfl (Nat.le_of_ble_eq_true rfl) ⟨rfl, rfl⟩ (fun x e1 e2 X E => ?_)
  subst e1; subst e2
  have X : aX x cX12_on wsX12_on RX12 3 rm_X12_on := X
  show aS x shM 3 0 [(0, vR 0)] [] σ
  refine A_aload_n X 0 rfl rfl dX12_on_0 ?_
  refine A_getI X fg_X12_on_13 shM_0 (k := 1) rfl (by decide) dX12_on_1 ?_
  refine A_istore_nN X (L' := fun y1_10 => [(1, vI y1_10), (0, vR 0)]) rfl (by decide) (fun _ => rfl) dX12_on_4 (fun y1_10 hy => ?_)
  replace h := ltD h y1_10 hy
  clear hy
  refine A_aload_n X 1 rfl rfl dX12_on_5 ?_
  refine A_iconst X dX12_on_6 (z := 0) (by decide) ?_
  refine A_putI X fp_X12_on_13 shM_0 (k := 1) rfl (by decide) dX12_on_7 (fun s11 hy => ?_)
  replace h := ltD h s11 hy
  clear hy
  refine A_aload_n X 1 rfl rfl dX12_on_10 ?_
  refine A_iload_n X 0 rfl rfl dX12_on_11 ?_
  obtain ⟨v12, s13, e14, h⟩ := clD h
  refine A_callV_I (na := 1) X (m_X12_isImage e14) gX12_on_X12_isImage rfl ⟨rfl, rfl⟩ (by decide +kernel) rfl ⟨Nat.le_of_ble_eq_true rfl, Nat.le_of_ble_eq_true rfl⟩ shM_0 (by decide) rfl rfl (Nat.le_of_ble_eq_true rfl) dX12_on_12 ?_
  refine A_if_ne X (tgt := 20) (by decide) dX12_on_15 (fun c15 => ?_) (fun c15 => ?_)
  · replace h := ifF h c15
    refine A_aload_n X 1 rfl rfl dX12_on_20 ?_
    refine A_sipush X dX12_on_21 (z := 256) (by decide) ?_
    refine A_aload_n X 1 rfl rfl dX12_on_24 ?_
    refine A_getR X fg_X12_on_7 shM_0 (k := 0) rfl (by decide) dX12_on_25 ?_
    refine A_iconst X dX12_on_28 (z := 1) (by decide) ?_
    refine A_iald X (by decide) shM_1 dX12_on_29 ?_
    refine A_imul X dX12_on_30 ?_
    refine A_aload_n X 1 rfl rfl dX12_on_31 ?_
    refine A_getR X fg_X12_on_7 shM_0 (k := 0) rfl (by decide) dX12_on_32 ?_
    refine A_iconst X dX12_on_35 (z := 2) (by decide) ?_
    refine A_iald X (by decide) shM_1 dX12_on_36 ?_
    refine A_iadd X dX12_on_37 ?_
    refine A_putI X fp_X12_on_141 shM_0 (k := 42) rfl (by decide) dX12_on_38 (fun s16 hy => ?_)
    replace h := ltD h s16 hy
    clear hy
    refine A_iconst X dX12_on_41 (z := 0) (by decide) ?_
    refine A_istore_n X (L' := [(2, vI 0), (1, vI y1_10), (0, vR 0)]) rfl (by decide) rfl dX12_on_42 ?_
    refine A_sub [2, 0] rfl (L' := [(0, vR 0), (2, vI 0)]) rfl ?_
    exact w_X12_on_43 X E FU 0 s16 h
  · replace h := ifT h c15
    refine A_iconst X dX12_on_18 (z := 0) (by decide) ?_
    exact A_zreturn X (Or.inl rfl) E h dX12_on_19
abbrev rm_X12_pushes : Room := { frames := 0, cells := 0, slots := 0, locals := 0 }
theorem in_X12_pushes_12 : ∀ w ∈ u_ws RX12 TX12 75, w ∈ wsX12_pushes := fun w h => List.mem_cons_of_mem _ (List.mem_append_right _ h)
theorem fg_X12_pushes_110 : aFl wsX12_pushes RX12 110 12 32 := ⟨RX12, TX12, 75, rfl, in_X12_pushes_12, by decide, (List.mem_of_getElem? (i := 1) rfl), rfl⟩
theorem fg_X12_pushes_125 : aFl wsX12_pushes RX12 125 12 37 := ⟨RX12, TX12, 75, rfl, in_X12_pushes_12, by decide, (List.mem_of_getElem? (i := 2) rfl), rfl⟩
theorem fg_X12_pushes_113 : aFl wsX12_pushes RX12 113 12 33 := ⟨RX12, TX12, 75, rfl, in_X12_pushes_12, by decide, (List.mem_of_getElem? (i := 3) rfl), rfl⟩
theorem fg_X12_pushes_116 : aFl wsX12_pushes RX12 116 12 34 := ⟨RX12, TX12, 75, rfl, in_X12_pushes_12, by decide, (List.mem_of_getElem? (i := 4) rfl), rfl⟩
theorem fg_X12_pushes_122 : aFl wsX12_pushes RX12 122 12 36 := ⟨RX12, TX12, 75, rfl, in_X12_pushes_12, by decide, (List.mem_of_getElem? (i := 5) rfl), rfl⟩
theorem fg_X12_pushes_134 : aFl wsX12_pushes RX12 134 12 40 := ⟨RX12, TX12, 75, rfl, in_X12_pushes_12, by decide, (List.mem_of_getElem? (i := 6) rfl), rfl⟩
theorem fp_X12_pushes_125 : aFp wsX12_pushes RX12 125 12 37 .int := ⟨RX12, TX12, 75, tyX12, rfl, in_X12_pushes_12, by decide, (List.mem_of_getElem? (i := 2) rfl), rfl, tyX12_ok, nmX12, rfl, rfl⟩
set_option maxRecDepth 100000 in
set_option maxHeartbeats 4000000 in
theorem m_X12_pushes {l : Launch} {g : aG} {a1 : Int} {σ : Hp} {r : Int × Hp} (h : F_M_pushes a1 σ = some r) : aMet l g shM yX12_pushes wsX12_pushes rm_X12_pushes [vR 0, vI a1] σ 3 r := by
  unfold F_M_pushes at h
  refine aMet_of (bytes := cX12_pushes) (maxL := 2) (ret := none) (by decide +kernel) rfl (Nat.le_of_ble_eq_true rfl) ⟨rfl, rfl⟩ (fun x e1 e2 X E => ?_)
  subst e1; subst e2
  have X : aX x cX12_pushes wsX12_pushes RX12 2 rm_X12_pushes := X
  show aS x shM 2 0 [(0, vR 0), (1, vI a1)] [] σ
  refine A_aload_n X 0 rfl rfl dX12_pushes_0 ?_
  refine A_getR X fg_X12_pushes_110 shM_0 (k := 32) rfl (by decide) dX12_pushes_1 ?_
  refine A_aload_n X 0 rfl rfl dX12_pushes_4 ?_
  refine A_getI X fg_X12_pushes_125 shM_0 (k := 37) rfl (by decide) dX12_pushes_5 ?_
  refine A_iload_n X 1 rfl rfl dX12_pushes_8 ?_
  obtain ⟨g1, h⟩ := gdD h
  refine A_iast X g1 shM_19 dX12_pushes_9 (fun s2 hy => ?_)
  replace h := ltD h s2 hy
  clear hy
  refine A_aload_n X 0 rfl rfl dX12_pushes_10 ?_
  refine A_getR X fg_X12_pushes_113 shM_0 (k := 33) rfl (by decide) dX12_pushes_11 ?_
  refine A_aload_n X 0 rfl rfl dX12_pushes_14 ?_
  refine A_getI X fg_X12_pushes_125 shM_0 (k := 37) rfl (by decide) dX12_pushes_15 ?_
  refine A_iconst X dX12_pushes_18 (z := 0) (by decide) ?_
  obtain ⟨g3, h⟩ := gdD h
  refine A_iast X g3 shM_20 dX12_pushes_19 (fun s4 hy => ?_)
  replace h := ltD h s4 hy
  clear hy
  refine A_aload_n X 0 rfl rfl dX12_pushes_20 ?_
  refine A_getR X fg_X12_pushes_116 shM_0 (k := 34) rfl (by decide) dX12_pushes_21 ?_
  refine A_aload_n X 0 rfl rfl dX12_pushes_24 ?_
  refine A_getI X fg_X12_pushes_125 shM_0 (k := 37) rfl (by decide) dX12_pushes_25 ?_
  refine A_iconst X dX12_pushes_28 (z := 1) (by decide) ?_
  obtain ⟨g5, h⟩ := gdD h
  refine A_zast X g5 shM_21 dX12_pushes_29 (fun s6 hy => ?_)
  replace h := ltD h s6 hy
  clear hy
  refine A_aload_n X 0 rfl rfl dX12_pushes_30 ?_
  refine A_getR X fg_X12_pushes_122 shM_0 (k := 36) rfl (by decide) dX12_pushes_31 ?_
  refine A_aload_n X 0 rfl rfl dX12_pushes_34 ?_
  refine A_getI X fg_X12_pushes_125 shM_0 (k := 37) rfl (by decide) dX12_pushes_35 ?_
  refine A_aload_n X 0 rfl rfl dX12_pushes_38 ?_
  refine A_getI X fg_X12_pushes_134 shM_0 (k := 40) rfl (by decide) dX12_pushes_39 ?_
  obtain ⟨g7, h⟩ := gdD h
  refine A_iast X g7 shM_23 dX12_pushes_42 (fun s8 hy => ?_)
  replace h := ltD h s8 hy
  clear hy
  refine A_aload_n X 0 rfl rfl dX12_pushes_43 ?_
  refine A_dup X (by show ¬ (2 : Nat) = 1; decide) dX12_pushes_44 ?_
  refine A_getI X fg_X12_pushes_125 shM_0 (k := 37) rfl (by decide) dX12_pushes_45 ?_
  refine A_iconst X dX12_pushes_48 (z := 1) (by decide) ?_
  refine A_iadd X dX12_pushes_49 ?_
  refine A_putI X fp_X12_pushes_125 shM_0 (k := 37) rfl (by decide) dX12_pushes_50 (fun s9 hy => ?_)
  replace h := ltD h s9 hy
  clear hy
  exact A_return X E h dX12_pushes_53
abbrev rm_X12_opens : Room := { frames := 2, cells := 0, slots := 0, locals := 47 }
theorem in_X12_opens_12 : ∀ w ∈ u_ws RX12 TX12 75, w ∈ wsX12_opens := fun w h => List.mem_cons_of_mem _ (List.mem_append_right _ h)
theorem fg_X12_opens_36 : aFl wsX12_opens RX12 36 12 8 := ⟨RX12, TX12, 75, rfl, in_X12_opens_12, by decide, (List.mem_of_getElem? (i := 3) rfl), rfl⟩
theorem fg_X12_opens_128 : aFl wsX12_opens RX12 128 12 38 := ⟨RX12, TX12, 75, rfl, in_X12_opens_12, by decide, (List.mem_of_getElem? (i := 1) rfl), rfl⟩
theorem fp_X12_opens_128 : aFp wsX12_opens RX12 128 12 38 .int := ⟨RX12, TX12, 75, tyX12, rfl, in_X12_opens_12, by decide, (List.mem_of_getElem? (i := 1) rfl), rfl, tyX12_ok, nmX12, rfl, rfl⟩
theorem fg_X12_opens_23 : aFl wsX12_opens RX12 23 12 4 := ⟨RX12, TX12, 75, rfl, in_X12_opens_12, by decide, (List.mem_of_getElem? (i := 2) rfl), rfl⟩
set_option maxRecDepth 100000 in
set_option maxHeartbeats 4000000 in
theorem w_X12_opens_18 {x : aC} {r : Int × Hp} {a1 : Int} (X : aX x cX12_opens wsX12_opens RX12 2 rm_X12_opens) (E : aE x shM none 3 r) (σ : Hp) (h : F_M_opens_18 a1 σ = some r) : aS x shM 2 18 [(0, vR 0), (1, vI a1)] [] σ := by
  unfold F_M_opens_18 at h
  refine A_aload_n X 0 rfl rfl dX12_opens_18 ?_
  refine A_getI X fg_X12_opens_36 shM_0 (k := 8) rfl (by decide) dX12_opens_19 ?_
  refine A_if_le X (tgt := 26) (by decide) dX12_opens_22 (fun c1 => ?_) (fun c1 => ?_)
  · replace h := ifT h c1
    refine A_aload_n X 0 rfl rfl dX12_opens_26 ?_
    refine A_dup X (by show ¬ (2 : Nat) = 1; decide) dX12_opens_27 ?_
    refine A_getI X fg_X12_opens_128 shM_0 (k := 38) rfl (by decide) dX12_opens_28 ?_
    refine A_iconst X dX12_opens_31 (z := 1) (by decide) ?_
    refine A_iadd X dX12_opens_32 ?_
    refine A_putI X fp_X12_opens_128 shM_0 (k := 38) rfl (by decide) dX12_opens_33 (fun s2 hy => ?_)
    replace h := ltD h s2 hy
    clear hy
    refine A_aload_n X 0 rfl rfl dX12_opens_36 ?_
    obtain ⟨v3, s4, e5, h⟩ := clD h
    refine A_callV_V (na := 0) X (m_X12_next e5) gX12_opens_X12_next rfl ⟨rfl, rfl⟩ (by decide +kernel) rfl ⟨Nat.le_of_ble_eq_true rfl, Nat.le_of_ble_eq_true rfl⟩ shM_0 (by decide) rfl rfl (Nat.le_of_ble_eq_true rfl) dX12_opens_37 ?_
    refine A_aload_n X 0 rfl rfl dX12_opens_40 ?_
    refine A_iload_n X 1 rfl rfl dX12_opens_41 ?_
    obtain ⟨v6, s7, e8, h⟩ := clD h
    refine A_callV_V (na := 1) X (m_X12_pushes e8) gX12_opens_X12_pushes rfl ⟨rfl, rfl⟩ (by decide +kernel) rfl ⟨Nat.le_of_ble_eq_true rfl, Nat.le_of_ble_eq_true rfl⟩ shM_0 (by decide) rfl rfl (Nat.le_of_ble_eq_true rfl) dX12_opens_42 ?_
    exact A_return X E h dX12_opens_45
  · replace h := ifF h c1
    exact A_return X E h dX12_opens_25
set_option maxRecDepth 100000 in
set_option maxHeartbeats 4000000 in
theorem m_X12_opens {l : Launch} {g : aG} {a1 : Int} {σ : Hp} {r : Int × Hp} (h : F_M_opens a1 σ = some r) : aMet l g shM yX12_opens wsX12_opens rm_X12_opens [vR 0, vI a1] σ 3 r := by
  unfold F_M_opens at h
  refine aMet_of (bytes := cX12_opens) (maxL := 2) (ret := none) (by decide +kernel) rfl (Nat.le_of_ble_eq_true rfl) ⟨rfl, rfl⟩ (fun x e1 e2 X E => ?_)
  subst e1; subst e2
  have X : aX x cX12_opens wsX12_opens RX12 2 rm_X12_opens := X
  show aS x shM 2 0 [(0, vR 0), (1, vI a1)] [] σ
  refine A_aload_n X 0 rfl rfl dX12_opens_0 ?_
  refine A_getI X fg_X12_opens_128 shM_0 (k := 38) rfl (by decide) dX12_opens_1 ?_
  refine A_bipush X dX12_opens_4 (z := 8) (by decide) ?_
  refine A_icmp_ne X (tgt := 18) (by decide) dX12_opens_6 (fun c9 => ?_) (fun c9 => ?_)
  · replace h := ifF h c9
    exact w_X12_opens_18 (a1 := a1) X E σ h
  · replace h := ifT h c9
    refine A_aload_n X 0 rfl rfl dX12_opens_9 ?_
    refine A_iconst X dX12_opens_10 (z := 5) (by decide) ?_
    refine A_aload_n X 0 rfl rfl dX12_opens_11 ?_
    refine A_getI X fg_X12_opens_23 shM_0 (k := 4) rfl (by decide) dX12_opens_12 ?_
    obtain ⟨v10, s11, e12, h⟩ := clD h
    refine A_callV_V (na := 2) X (m_X12_blame e12) gX12_opens_X12_blame rfl ⟨rfl, rfl⟩ (by decide +kernel) rfl ⟨Nat.le_of_ble_eq_true rfl, Nat.le_of_ble_eq_true rfl⟩ shM_0 (by decide) rfl rfl (Nat.le_of_ble_eq_true rfl) dX12_opens_15 ?_
    exact w_X12_opens_18 (a1 := a1) X E s11 h
abbrev rm_X12_other : Room := { frames := 6, cells := 0, slots := 0, locals := 143 }
set_option maxRecDepth 100000 in
set_option maxHeartbeats 4000000 in
theorem w_X12_other_36 {x : aC} {r : Int × Hp} {a1 : Int} {a2 : Int} (X : aX x cX12_other wsX12_other RX12 5 rm_X12_other) (E : aE x shM (some .int) 0 r) (t1 : Int) (σ : Hp) (h : F_M_other_36 a1 a2 t1 σ = some r) : aS x shM 5 36 [] [vI t1] σ := by
  unfold F_M_other_36 at h
  exact A_ireturn X E h dX12_other_36
set_option maxRecDepth 100000 in
set_option maxHeartbeats 4000000 in
theorem m_X12_other {l : Launch} {g : aG} {a1 : Int} {a2 : Int} {σ : Hp} {r : Int × Hp} (h : F_M_other a1 a2 σ = some r) : aMet l g shM yX12_other wsX12_other rm_X12_other [vR 0, vI a1, vI a2] σ 0 r := by
  unfold F_M_other at h
  refine aMet_of (bytes := cX12_other) (maxL := 5) (ret := (some .int)) (by decide +kernel) rfl (Nat.le_of_ble_eq_true rfl) ⟨rfl, rfl⟩ (fun x e1 e2 X E => ?_)
  subst e1; subst e2
  have X : aX x cX12_other wsX12_other RX12 5 rm_X12_other := X
  show aS x shM 5 0 [(0, vR 0), (1, vI a1), (2, vI a2)] [] σ
  refine A_aload_n X 0 rfl rfl dX12_other_0 ?_
  refine A_iload_n X 1 rfl rfl dX12_other_1 ?_
  obtain ⟨v1, s2, e3, h⟩ := clD h
  refine A_callV_I (na := 1) X (m_X12_isWho e3) gX12_other_X12_isWho rfl ⟨rfl, rfl⟩ (by decide +kernel) rfl ⟨Nat.le_of_ble_eq_true rfl, Nat.le_of_ble_eq_true rfl⟩ shM_0 (by decide) rfl rfl (Nat.le_of_ble_eq_true rfl) dX12_other_2 ?_
  refine A_if_ne X (tgt := 12) (by decide) dX12_other_5 (fun c4 => ?_) (fun c4 => ?_)
  · replace h := ifF h c4
    refine A_aload_n X 0 rfl rfl dX12_other_12 ?_
    obtain ⟨v5, s6, e7, h⟩ := clD h
    refine A_callV_V (na := 0) X (m_X12_laysAll e7) gX12_other_X12_laysAll rfl ⟨rfl, rfl⟩ (by decide +kernel) rfl ⟨Nat.le_of_ble_eq_true rfl, Nat.le_of_ble_eq_true rfl⟩ shM_0 (by decide) rfl rfl (Nat.le_of_ble_eq_true rfl) dX12_other_13 ?_
    refine A_aload_n X 0 rfl rfl dX12_other_16 ?_
    refine A_iload_n X 1 rfl rfl dX12_other_17 ?_
    obtain ⟨v8, s9, e10, h⟩ := clD h
    refine A_callV_L (na := 1) X (m_X12_elseOf e10) gX12_other_X12_elseOf rfl ⟨rfl, rfl⟩ (by decide +kernel) rfl ⟨Nat.le_of_ble_eq_true rfl, Nat.le_of_ble_eq_true rfl⟩ shM_0 (by decide) rfl rfl (Nat.le_of_ble_eq_true rfl) dX12_other_18 ?_
    refine A_lstore_n X (L' := [(3, vL v8), (0, vR 0), (1, vI a1), (2, vI a2)]) rfl (by decide) rfl dX12_other_21 ?_
    refine A_iload_n X 3 rfl rfl dX12_other_22 ?_
    refine A_if_eq X (tgt := 34) (by decide) dX12_other_23 (fun c11 => ?_) (fun c11 => ?_)
    · replace h := ifT h c11
      refine A_lload_n X 0 rfl rfl dX12_other_34 ?_
      refine A_l2i X dX12_other_35 ?_
      refine A_sub [] rfl (L' := []) rfl ?_
      exact w_X12_other_36 (a1 := a1) (a2 := a2) X E (w32 v8) s9 h
    · replace h := ifF h c11
      refine A_aload_n X 1 rfl rfl dX12_other_26 ?_
      refine A_iload_n X 2 rfl rfl dX12_other_27 ?_
      obtain ⟨v12, s13, e14, h⟩ := clD h
      refine A_callV_I (na := 1) X (m_X12_turnsTo e14) gX12_other_X12_turnsTo rfl ⟨rfl, rfl⟩ (by decide +kernel) rfl ⟨Nat.le_of_ble_eq_true rfl, Nat.le_of_ble_eq_true rfl⟩ shM_0 (by decide) rfl rfl (Nat.le_of_ble_eq_true rfl) dX12_other_28 ?_
      refine A_goto X (tgt := 36) (by decide) dX12_other_31 ?_
      refine A_sub [] rfl (L' := []) rfl ?_
      exact w_X12_other_36 (a1 := a1) (a2 := a2) X E v12 s13 h
  · replace h := ifT h c4
    refine A_ldcw X (v := (-2000000000)) (List.mem_of_getElem? (i := 1) rfl) dX12_other_8 (z := (-2000000000)) (by decide) ?_
    exact A_ireturn X E h dX12_other_11
abbrev rm_X12_part : Room := { frames := 3, cells := 0, slots := 0, locals := 68 }
theorem in_X12_part_12 : ∀ w ∈ u_ws RX12 TX12 75, w ∈ wsX12_part := fun w h => List.mem_cons_of_mem _ (List.mem_append_right _ h)
theorem fg_X12_part_36 : aFl wsX12_part RX12 36 12 8 := ⟨RX12, TX12, 75, rfl, in_X12_part_12, by decide, (List.mem_of_getElem? (i := 10) rfl), rfl⟩
theorem fg_X12_part_119 : aFl wsX12_part RX12 119 12 35 := ⟨RX12, TX12, 75, rfl, in_X12_part_12, by decide, (List.mem_of_getElem? (i := 11) rfl), rfl⟩
theorem fg_X12_part_125 : aFl wsX12_part RX12 125 12 37 := ⟨RX12, TX12, 75, rfl, in_X12_part_12, by decide, (List.mem_of_getElem? (i := 1) rfl), rfl⟩
theorem fg_X12_part_23 : aFl wsX12_part RX12 23 12 4 := ⟨RX12, TX12, 75, rfl, in_X12_part_12, by decide, (List.mem_of_getElem? (i := 9) rfl), rfl⟩
theorem fg_X12_part_29 : aFl wsX12_part RX12 29 12 6 := ⟨RX12, TX12, 75, rfl, in_X12_part_12, by decide, (List.mem_of_getElem? (i := 17) rfl), rfl⟩
theorem fg_X12_part_20 : aFl wsX12_part RX12 20 12 3 := ⟨RX12, TX12, 75, rfl, in_X12_part_12, by decide, (List.mem_of_getElem? (i := 16) rfl), rfl⟩
theorem fg_X12_part_113 : aFl wsX12_part RX12 113 12 33 := ⟨RX12, TX12, 75, rfl, in_X12_part_12, by decide, (List.mem_of_getElem? (i := 6) rfl), rfl⟩
theorem fg_X12_part_116 : aFl wsX12_part RX12 116 12 34 := ⟨RX12, TX12, 75, rfl, in_X12_part_12, by decide, (List.mem_of_getElem? (i := 3) rfl), rfl⟩
theorem fg_X12_part_110 : aFl wsX12_part RX12 110 12 32 := ⟨RX12, TX12, 75, rfl, in_X12_part_12, by decide, (List.mem_of_getElem? (i := 2) rfl), rfl⟩
set_option maxRecDepth 100000 in
set_option maxHeartbeats 4000000 in
theorem w_X12_part_220 {x : aC} {r : Int × Hp} (X : aX x cX12_part wsX12_part RX12 4 rm_X12_part) (E : aE x shM (some .boolean) 0 r) (σ : Hp) (h : F_M_part_220 σ = some r) : aS x shM 4 220 [] [] σ := by
  unfold F_M_part_220 at h
  refine A_iconst X dX12_part_220 (z := 0) (by decide) ?_
  exact A_zreturn X (Or.inl rfl) E h dX12_part_221
set_option maxRecDepth 100000 in
set_option maxHeartbeats 4000000 in
theorem w_X12_part_196 {x : aC} {r : Int × Hp} (X : aX x cX12_part wsX12_part RX12 4 rm_X12_part) (E : aE x shM (some .boolean) 0 r) (x3 : Int) (σ : Hp) (h : F_M_part_196 x3 σ = some r) : aS x shM 4 196 [(0, vR 0), (3, vI x3)] [] σ := by
  unfold F_M_part_196 at h
  refine A_aload_n X 0 rfl rfl dX12_part_196 ?_
  refine A_iconst X dX12_part_197 (z := 3) (by decide) ?_
  obtain ⟨v1, s2, e3, h⟩ := clD h
  refine A_callV_V (na := 1) X (m_X12_opens e3) gX12_part_X12_opens rfl ⟨rfl, rfl⟩ (by decide +kernel) rfl ⟨Nat.le_of_ble_eq_true rfl, Nat.le_of_ble_eq_true rfl⟩ shM_0 (by decide) rfl rfl (Nat.le_of_ble_eq_true rfl) dX12_part_198 ?_
  refine A_aload_n X 0 rfl rfl dX12_part_201 ?_
  refine A_getI X fg_X12_part_36 shM_0 (k := 8) rfl (by decide) dX12_part_202 ?_
  refine A_if_ne X (tgt := 220) (by decide) dX12_part_205 (fun c4 => ?_) (fun c4 => ?_)
  · replace h := ifF h c4
    refine A_sub [] rfl (L' := []) rfl ?_
    exact w_X12_part_220 X E s2 h
  · replace h := ifT h c4
    refine A_aload_n X 0 rfl rfl dX12_part_208 ?_
    refine A_getR X fg_X12_part_119 shM_0 (k := 35) rfl (by decide) dX12_part_209 ?_
    refine A_aload_n X 0 rfl rfl dX12_part_212 ?_
    refine A_getI X fg_X12_part_125 shM_0 (k := 37) rfl (by decide) dX12_part_213 ?_
    refine A_iconst X dX12_part_216 (z := 1) (by decide) ?_
    refine A_isub X dX12_part_217 ?_
    refine A_iload_n X 1 rfl rfl dX12_part_218 ?_
    obtain ⟨g5, h⟩ := gdD h
    refine A_iast X g5 shM_22 dX12_part_219 (fun s6 hy => ?_)
    replace h := ltD h s6 hy
    clear hy
    refine A_sub [] rfl (L' := []) rfl ?_
    exact w_X12_part_220 X E s6 h
set_option maxRecDepth 100000 in
set_option maxHeartbeats 4000000 in
theorem w_X12_part_173 {x : aC} {r : Int × Hp} (X : aX x cX12_part wsX12_part RX12 4 rm_X12_part) (E : aE x shM (some .boolean) 0 r) (t1 : Int) (σ : Hp) (h : F_M_part_173 t1 σ = some r) : aS x shM 4 173 [(0, vR 0)] [vI t1] σ := by
  unfold F_M_part_173 at h
  refine A_istore_n X (L' := [(3, vI t1), (0, vR 0)]) rfl (by decide) rfl dX12_part_173 ?_
  refine A_aload_n X 1 rfl rfl dX12_part_174 ?_
  obtain ⟨v7, s8, e9, h⟩ := clD h
  refine A_callV_V (na := 0) X (m_X12_next e9) gX12_part_X12_next rfl ⟨rfl, rfl⟩ (by decide +kernel) rfl ⟨Nat.le_of_ble_eq_true rfl, Nat.le_of_ble_eq_true rfl⟩ shM_0 (by decide) rfl rfl (Nat.le_of_ble_eq_true rfl) dX12_part_175 ?_
  refine A_aload_n X 1 rfl rfl dX12_part_178 ?_
  refine A_bipush X dX12_part_179 (z := 40) (by decide) ?_
  obtain ⟨v10, s11, e12, h⟩ := clD h
  refine A_callV_I (na := 1) X (m_X12_isSign e12) gX12_part_X12_isSign rfl ⟨rfl, rfl⟩ (by decide +kernel) rfl ⟨Nat.le_of_ble_eq_true rfl, Nat.le_of_ble_eq_true rfl⟩ shM_0 (by decide) rfl rfl (Nat.le_of_ble_eq_true rfl) dX12_part_181 ?_
  refine A_if_ne X (tgt := 196) (by decide) dX12_part_184 (fun c13 => ?_) (fun c13 => ?_)
  · replace h := ifF h c13
    refine A_sub [1, 0] rfl (L' := [(0, vR 0), (3, vI t1)]) rfl ?_
    exact w_X12_part_196 X E t1 s11 h
  · replace h := ifT h c13
    refine A_aload_n X 1 rfl rfl dX12_part_187 ?_
    refine A_iconst X dX12_part_188 (z := 1) (by decide) ?_
    refine A_aload_n X 1 rfl rfl dX12_part_189 ?_
    refine A_getI X fg_X12_part_23 shM_0 (k := 4) rfl (by decide) dX12_part_190 ?_
    obtain ⟨v14, s15, e16, h⟩ := clD h
    refine A_callV_V (na := 2) X (m_X12_blame e16) gX12_part_X12_blame rfl ⟨rfl, rfl⟩ (by decide +kernel) rfl ⟨Nat.le_of_ble_eq_true rfl, Nat.le_of_ble_eq_true rfl⟩ shM_0 (by decide) rfl rfl (Nat.le_of_ble_eq_true rfl) dX12_part_193 ?_
    refine A_sub [1, 0] rfl (L' := [(0, vR 0), (3, vI t1)]) rfl ?_
    exact w_X12_part_196 X E t1 s15 h
set_option maxRecDepth 100000 in
set_option maxHeartbeats 4000000 in
theorem w_X12_part_156 {x : aC} {r : Int × Hp} (X : aX x cX12_part wsX12_part RX12 4 rm_X12_part) (E : aE x shM (some .boolean) 0 r) (σ : Hp) (h : F_M_part_156 σ = some r) : aS x shM 4 156 [(0, vR 0)] [] σ := by
  unfold F_M_part_156 at h
  refine A_aload_n X 0 rfl rfl dX12_part_156 ?_
  refine A_ldc2 X (v := (7170414)) (List.mem_of_getElem? (i := 7) rfl) dX12_part_157 (z := 7170414) (by decide +kernel) ?_
  obtain ⟨v17, s18, e19, h⟩ := clD h
  refine A_callV_I (na := 1) X (m_X12_isWord e19) gX12_part_X12_isWord rfl ⟨rfl, rfl⟩ (by decide +kernel) rfl ⟨Nat.le_of_ble_eq_true rfl, Nat.le_of_ble_eq_true rfl⟩ shM_0 (by decide) rfl rfl (Nat.le_of_ble_eq_true rfl) dX12_part_160 ?_
  refine A_if_eq X (tgt := 171) (by decide) dX12_part_163 (fun c20 => ?_) (fun c20 => ?_)
  · replace h := ifT h c20
    refine A_bipush X dX12_part_171 (z := 12) (by decide) ?_
    exact w_X12_part_173 X E 12 s18 h
  · replace h := ifF h c20
    refine A_bipush X dX12_part_166 (z := 11) (by decide) ?_
    refine A_goto X (tgt := 173) (by decide) dX12_part_168 ?_
    exact w_X12_part_173 X E 11 s18 h
set_option maxRecDepth 100000 in
set_option maxHeartbeats 4000000 in
theorem w_X12_part_266 {x : aC} {r : Int × Hp} (X : aX x cX12_part wsX12_part RX12 4 rm_X12_part) (E : aE x shM (some .boolean) 0 r) (σ : Hp) (h : F_M_part_266 σ = some r) : aS x shM 4 266 [] [] σ := by
  unfold F_M_part_266 at h
  refine A_iconst X dX12_part_266 (z := 1) (by decide) ?_
  exact A_zreturn X (Or.inr rfl) E h dX12_part_267
set_option maxRecDepth 100000 in
set_option maxHeartbeats 4000000 in
theorem w_X12_part_255 {x : aC} {r : Int × Hp} (X : aX x cX12_part wsX12_part RX12 4 rm_X12_part) (E : aE x shM (some .boolean) 0 r) (σ : Hp) (h : F_M_part_255 σ = some r) : aS x shM 4 255 [(0, vR 0)] [] σ := by
  unfold F_M_part_255 at h
  refine A_aload_n X 0 rfl rfl dX12_part_255 ?_
  refine A_getI X fg_X12_part_36 shM_0 (k := 8) rfl (by decide) dX12_part_256 ?_
  refine A_if_ne X (tgt := 266) (by decide) dX12_part_259 (fun c21 => ?_) (fun c21 => ?_)
  · replace h := ifF h c21
    refine A_sub [] rfl (L' := []) rfl ?_
    exact w_X12_part_266 X E σ h
  · replace h := ifT h c21
    refine A_aload_n X 0 rfl rfl dX12_part_262 ?_
    obtain ⟨v22, s23, e24, h⟩ := clD h
    refine A_callV_V (na := 0) X (m_X12_next e24) gX12_part_X12_next rfl ⟨rfl, rfl⟩ (by decide +kernel) rfl ⟨Nat.le_of_ble_eq_true rfl, Nat.le_of_ble_eq_true rfl⟩ shM_0 (by decide) rfl rfl (Nat.le_of_ble_eq_true rfl) dX12_part_263 ?_
    refine A_sub [] rfl (L' := []) rfl ?_
    exact w_X12_part_266 X E s23 h
set_option maxRecDepth 100000 in
set_option maxHeartbeats 4000000 in
theorem w_X12_part_356 {x : aC} {r : Int × Hp} (X : aX x cX12_part wsX12_part RX12 4 rm_X12_part) (E : aE x shM (some .boolean) 0 r) (t3 : Int) (t2 : Int) (σ : Hp) (h : F_M_part_356 t3 t2 σ = some r) : aS x shM 4 356 [(0, vR 0)] [vI t3, vI t2, vR 0] σ := by
  unfold F_M_part_356 at h
  obtain ⟨v25, s26, e27, h⟩ := clD h
  refine A_callV_V (na := 2) X (m_X12_add e27) gX12_part_X12_add rfl ⟨rfl, rfl⟩ (by decide +kernel) rfl ⟨Nat.le_of_ble_eq_true rfl, Nat.le_of_ble_eq_true rfl⟩ shM_0 (by decide) rfl rfl (Nat.le_of_ble_eq_true rfl) dX12_part_356 ?_
  refine A_aload_n X 0 rfl rfl dX12_part_359 ?_
  obtain ⟨v28, s29, e30, h⟩ := clD h
  refine A_callV_V (na := 0) X (m_X12_next e30) gX12_part_X12_next rfl ⟨rfl, rfl⟩ (by decide +kernel) rfl ⟨Nat.le_of_ble_eq_true rfl, Nat.le_of_ble_eq_true rfl⟩ shM_0 (by decide) rfl rfl (Nat.le_of_ble_eq_true rfl) dX12_part_360 ?_
  refine A_iconst X dX12_part_363 (z := 1) (by decide) ?_
  exact A_zreturn X (Or.inr rfl) E h dX12_part_364
set_option maxRecDepth 100000 in
set_option maxHeartbeats 4000000 in
theorem w_X12_part_333 {x : aC} {r : Int × Hp} (X : aX x cX12_part wsX12_part RX12 4 rm_X12_part) (E : aE x shM (some .boolean) 0 r) (x3 : Int) (σ : Hp) (h : F_M_part_333 x3 σ = some r) : aS x shM 4 333 [(0, vR 0), (3, vI x3)] [] σ := by
  unfold F_M_part_333 at h
  refine A_aload_n X 0 rfl rfl dX12_part_333 ?_
  refine A_getI X fg_X12_part_36 shM_0 (k := 8) rfl (by decide) dX12_part_334 ?_
  refine A_if_le X (tgt := 342) (by decide) dX12_part_337 (fun c31 => ?_) (fun c31 => ?_)
  · replace h := ifT h c31
    refine A_aload_n X 0 rfl rfl dX12_part_342 ?_
    refine A_iload_n X 1 rfl rfl dX12_part_343 ?_
    refine A_iload_n X 1 rfl rfl dX12_part_344 ?_
    refine A_if_ne X (tgt := 355) (by decide) dX12_part_345 (fun c32 => ?_) (fun c32 => ?_)
    · replace h := ifF h c32
      refine A_iconst X dX12_part_355 (z := 0) (by decide) ?_
      refine A_sub [0] rfl (L' := [(0, vR 0)]) rfl ?_
      exact w_X12_part_356 X E 0 x3 σ h
    · replace h := ifT h c32
      refine A_aload_n X 0 rfl rfl dX12_part_348 ?_
      refine A_getI X fg_X12_part_29 shM_0 (k := 6) rfl (by decide) dX12_part_349 ?_
      refine A_goto X (tgt := 356) (by decide) dX12_part_352 ?_
      refine A_sub [0] rfl (L' := [(0, vR 0)]) rfl ?_
      exact w_X12_part_356 X E (σ 0 6) x3 σ h
  · replace h := ifF h c31
    refine A_iconst X dX12_part_340 (z := 1) (by decide) ?_
    exact A_zreturn X (Or.inr rfl) E h dX12_part_341
set_option maxRecDepth 100000 in
set_option maxHeartbeats 4000000 in
theorem w_X12_part_311 {x : aC} {r : Int × Hp} (X : aX x cX12_part wsX12_part RX12 4 rm_X12_part) (E : aE x shM (some .boolean) 0 r) (t1 : Int) (σ : Hp) (h : F_M_part_311 t1 σ = some r) : aS x shM 4 311 [(0, vR 0)] [vI t1] σ := by
  unfold F_M_part_311 at h
  refine A_istore_n X (L' := [(3, vI t1), (0, vR 0)]) rfl (by decide) rfl dX12_part_311 ?_
  refine A_iload_n X 0 rfl rfl dX12_part_312 ?_
  refine A_if_ne X (tgt := 333) (by decide) dX12_part_313 (fun c33 => ?_) (fun c33 => ?_)
  · replace h := ifF h c33
    refine A_sub [1, 0] rfl (L' := [(0, vR 0), (3, vI t1)]) rfl ?_
    exact w_X12_part_333 X E t1 σ h
  · replace h := ifT h c33
    refine A_aload_n X 1 rfl rfl dX12_part_316 ?_
    refine A_getI X fg_X12_part_20 shM_0 (k := 3) rfl (by decide) dX12_part_317 ?_
    refine A_iconst X dX12_part_320 (z := 2) (by decide) ?_
    refine A_icmp_eq X (tgt := 333) (by decide) dX12_part_321 (fun c34 => ?_) (fun c34 => ?_)
    · replace h := ifT h c34
      refine A_sub [1, 0] rfl (L' := [(0, vR 0), (3, vI t1)]) rfl ?_
      exact w_X12_part_333 X E t1 σ h
    · replace h := ifF h c34
      refine A_aload_n X 1 rfl rfl dX12_part_324 ?_
      refine A_iconst X dX12_part_325 (z := 1) (by decide) ?_
      refine A_aload_n X 1 rfl rfl dX12_part_326 ?_
      refine A_getI X fg_X12_part_23 shM_0 (k := 4) rfl (by decide) dX12_part_327 ?_
      obtain ⟨v35, s36, e37, h⟩ := clD h
      refine A_callV_V (na := 2) X (m_X12_blame e37) gX12_part_X12_blame rfl ⟨rfl, rfl⟩ (by decide +kernel) rfl ⟨Nat.le_of_ble_eq_true rfl, Nat.le_of_ble_eq_true rfl⟩ shM_0 (by decide) rfl rfl (Nat.le_of_ble_eq_true rfl) dX12_part_330 ?_
      refine A_sub [1, 0] rfl (L' := [(0, vR 0), (3, vI t1)]) rfl ?_
      exact w_X12_part_333 X E t1 s36 h
set_option maxRecDepth 100000 in
set_option maxHeartbeats 4000000 in
theorem w_X12_part_120 {x : aC} {r : Int × Hp} (X : aX x cX12_part wsX12_part RX12 4 rm_X12_part) (E : aE x shM (some .boolean) 0 r) (σ : Hp) (h : F_M_part_120 σ = some r) : aS x shM 4 120 [(0, vR 0)] [] σ := by
  unfold F_M_part_120 at h
  refine A_aload_n X 0 rfl rfl dX12_part_120 ?_
  refine A_bipush X dX12_part_121 (z := 40) (by decide) ?_
  obtain ⟨v38, s39, e40, h⟩ := clD h
  refine A_callV_I (na := 1) X (m_X12_isSign e40) gX12_part_X12_isSign rfl ⟨rfl, rfl⟩ (by decide +kernel) rfl ⟨Nat.le_of_ble_eq_true rfl, Nat.le_of_ble_eq_true rfl⟩ shM_0 (by decide) rfl rfl (Nat.le_of_ble_eq_true rfl) dX12_part_123 ?_
  refine A_if_eq X (tgt := 136) (by decide) dX12_part_126 (fun c41 => ?_) (fun c41 => ?_)
  · replace h := ifT h c41
    refine A_aload_n X 0 rfl rfl dX12_part_136 ?_
    refine A_ldc2 X (v := (7170414)) (List.mem_of_getElem? (i := 7) rfl) dX12_part_137 (z := 7170414) (by decide +kernel) ?_
    obtain ⟨v42, s43, e44, h⟩ := clD h
    refine A_callV_I (na := 1) X (m_X12_isWord e44) gX12_part_X12_isWord rfl ⟨rfl, rfl⟩ (by decide +kernel) rfl ⟨Nat.le_of_ble_eq_true rfl, Nat.le_of_ble_eq_true rfl⟩ shM_0 (by decide) rfl rfl (Nat.le_of_ble_eq_true rfl) dX12_part_140 ?_
    refine A_if_ne X (tgt := 156) (by decide) dX12_part_143 (fun c45 => ?_) (fun c45 => ?_)
    · replace h := ifF h c45
      exact w_X12_part_156 X E s43 h
    · replace h := ifT h c45
      refine A_aload_n X 0 rfl rfl dX12_part_146 ?_
      refine A_ldc2 X (v := (7168376)) (List.mem_of_getElem? (i := 8) rfl) dX12_part_147 (z := 7168376) (by decide +kernel) ?_
      obtain ⟨v46, s47, e48, h⟩ := clD h
      refine A_callV_I (na := 1) X (m_X12_isWord e48) gX12_part_X12_isWord rfl ⟨rfl, rfl⟩ (by decide +kernel) rfl ⟨Nat.le_of_ble_eq_true rfl, Nat.le_of_ble_eq_true rfl⟩ shM_0 (by decide) rfl rfl (Nat.le_of_ble_eq_true rfl) dX12_part_150 ?_
      refine A_if_eq X (tgt := 222) (by decide) dX12_part_153 (fun c49 => ?_) (fun c49 => ?_)
      · replace h := ifT h c49
        refine A_aload_n X 0 rfl rfl dX12_part_222 ?_
        refine A_ldc2 X (v := (418431069797)) (List.mem_of_getElem? (i := 12) rfl) dX12_part_223 (z := 418431069797) (by decide +kernel) ?_
        obtain ⟨v50, s51, e52, h⟩ := clD h
        refine A_callV_I (na := 1) X (m_X12_isWord e52) gX12_part_X12_isWord rfl ⟨rfl, rfl⟩ (by decide +kernel) rfl ⟨Nat.le_of_ble_eq_true rfl, Nat.le_of_ble_eq_true rfl⟩ shM_0 (by decide) rfl rfl (Nat.le_of_ble_eq_true rfl) dX12_part_226 ?_
        refine A_if_eq X (tgt := 268) (by decide) dX12_part_229 (fun c53 => ?_) (fun c53 => ?_)
        · replace h := ifT h c53
          refine A_aload_n X 0 rfl rfl dX12_part_268 ?_
          refine A_ldc2 X (v := (6578553)) (List.mem_of_getElem? (i := 13) rfl) dX12_part_269 (z := 6578553) (by decide +kernel) ?_
          obtain ⟨v54, s55, e56, h⟩ := clD h
          refine A_callV_I (na := 1) X (m_X12_isWord e56) gX12_part_X12_isWord rfl ⟨rfl, rfl⟩ (by decide +kernel) rfl ⟨Nat.le_of_ble_eq_true rfl, Nat.le_of_ble_eq_true rfl⟩ shM_0 (by decide) rfl rfl (Nat.le_of_ble_eq_true rfl) dX12_part_272 ?_
          refine A_if_eq X (tgt := 282) (by decide) dX12_part_275 (fun c57 => ?_) (fun c57 => ?_)
          · replace h := ifT h c57
            refine A_aload_n X 0 rfl rfl dX12_part_282 ?_
            refine A_ldc2 X (v := (2003133803)) (List.mem_of_getElem? (i := 14) rfl) dX12_part_283 (z := 2003133803) (by decide +kernel) ?_
            obtain ⟨v58, s59, e60, h⟩ := clD h
            refine A_callV_I (na := 1) X (m_X12_isWord e60) gX12_part_X12_isWord rfl ⟨rfl, rfl⟩ (by decide +kernel) rfl ⟨Nat.le_of_ble_eq_true rfl, Nat.le_of_ble_eq_true rfl⟩ shM_0 (by decide) rfl rfl (Nat.le_of_ble_eq_true rfl) dX12_part_286 ?_
            refine A_if_eq X (tgt := 296) (by decide) dX12_part_289 (fun c61 => ?_) (fun c61 => ?_)
            · replace h := ifT h c61
              refine A_aload_n X 0 rfl rfl dX12_part_296 ?_
              refine A_ldc2 X (v := (2003067257)) (List.mem_of_getElem? (i := 15) rfl) dX12_part_297 (z := 2003067257) (by decide +kernel) ?_
              obtain ⟨v62, s63, e64, h⟩ := clD h
              refine A_callV_I (na := 1) X (m_X12_isWord e64) gX12_part_X12_isWord rfl ⟨rfl, rfl⟩ (by decide +kernel) rfl ⟨Nat.le_of_ble_eq_true rfl, Nat.le_of_ble_eq_true rfl⟩ shM_0 (by decide) rfl rfl (Nat.le_of_ble_eq_true rfl) dX12_part_300 ?_
              refine A_if_eq X (tgt := 310) (by decide) dX12_part_303 (fun c65 => ?_) (fun c65 => ?_)
              · replace h := ifT h c65
                refine A_iconst X dX12_part_310 (z := 0) (by decide) ?_
                exact w_X12_part_311 X E 0 s63 h
              · replace h := ifF h c65
                refine A_iconst X dX12_part_306 (z := 3) (by decide) ?_
                refine A_goto X (tgt := 311) (by decide) dX12_part_307 ?_
                exact w_X12_part_311 X E 3 s63 h
            · replace h := ifF h c61
              refine A_iconst X dX12_part_292 (z := 2) (by decide) ?_
              refine A_goto X (tgt := 311) (by decide) dX12_part_293 ?_
              exact w_X12_part_311 X E 2 s59 h
          · replace h := ifF h c57
            refine A_iconst X dX12_part_278 (z := 1) (by decide) ?_
            refine A_goto X (tgt := 311) (by decide) dX12_part_279 ?_
            exact w_X12_part_311 X E 1 s55 h
        · replace h := ifF h c53
          refine A_aload_n X 0 rfl rfl dX12_part_232 ?_
          obtain ⟨v66, s67, e68, h⟩ := clD h
          refine A_callV_V (na := 0) X (m_X12_next e68) gX12_part_X12_next rfl ⟨rfl, rfl⟩ (by decide +kernel) rfl ⟨Nat.le_of_ble_eq_true rfl, Nat.le_of_ble_eq_true rfl⟩ shM_0 (by decide) rfl rfl (Nat.le_of_ble_eq_true rfl) dX12_part_233 ?_
          refine A_aload_n X 0 rfl rfl dX12_part_236 ?_
          refine A_iconst X dX12_part_237 (z := (-1)) (by decide) ?_
          obtain ⟨v69, s70, e71, h⟩ := clD h
          refine A_callV_I (na := 1) X (m_X12_whoRead e71) gX12_part_X12_whoRead rfl ⟨rfl, rfl⟩ (by decide +kernel) rfl ⟨Nat.le_of_ble_eq_true rfl, Nat.le_of_ble_eq_true rfl⟩ shM_0 (by decide) rfl rfl (Nat.le_of_ble_eq_true rfl) dX12_part_238 ?_
          refine A_istore_n X (L' := [(3, vI v69), (0, vR 0)]) rfl (by decide) rfl dX12_part_241 ?_
          refine A_aload_n X 1 rfl rfl dX12_part_242 ?_
          refine A_getI X fg_X12_part_36 shM_0 (k := 8) rfl (by decide) dX12_part_243 ?_
          refine A_if_ne X (tgt := 255) (by decide) dX12_part_246 (fun c72 => ?_) (fun c72 => ?_)
          · replace h := ifF h c72
            refine A_sub [1] rfl (L' := [(0, vR 0)]) rfl ?_
            exact w_X12_part_255 X E s70 h
          · replace h := ifT h c72
            refine A_aload_n X 1 rfl rfl dX12_part_249 ?_
            refine A_iconst X dX12_part_250 (z := 4) (by decide) ?_
            refine A_iload_n X 0 rfl rfl dX12_part_251 ?_
            obtain ⟨v73, s74, e75, h⟩ := clD h
            refine A_callV_V (na := 2) X (m_X12_add e75) gX12_part_X12_add rfl ⟨rfl, rfl⟩ (by decide +kernel) rfl ⟨Nat.le_of_ble_eq_true rfl, Nat.le_of_ble_eq_true rfl⟩ shM_0 (by decide) rfl rfl (Nat.le_of_ble_eq_true rfl) dX12_part_252 ?_
            refine A_sub [1] rfl (L' := [(0, vR 0)]) rfl ?_
            exact w_X12_part_255 X E s74 h
      · replace h := ifF h c49
        exact w_X12_part_156 X E s47 h
  · replace h := ifF h c41
    refine A_aload_n X 0 rfl rfl dX12_part_129 ?_
    refine A_iconst X dX12_part_130 (z := 2) (by decide) ?_
    obtain ⟨v76, s77, e78, h⟩ := clD h
    refine A_callV_V (na := 1) X (m_X12_opens e78) gX12_part_X12_opens rfl ⟨rfl, rfl⟩ (by decide +kernel) rfl ⟨Nat.le_of_ble_eq_true rfl, Nat.le_of_ble_eq_true rfl⟩ shM_0 (by decide) rfl rfl (Nat.le_of_ble_eq_true rfl) dX12_part_131 ?_
    refine A_iconst X dX12_part_134 (z := 0) (by decide) ?_
    exact A_zreturn X (Or.inl rfl) E h dX12_part_135
set_option maxRecDepth 100000 in
set_option maxHeartbeats 4000000 in
theorem w_X12_part_87 {x : aC} {r : Int × Hp} (X : aX x cX12_part wsX12_part RX12 4 rm_X12_part) (E : aE x shM (some .boolean) 0 r) (x1 : Int) (x2 : Int) (σ : Hp) (h : F_M_part_87 x1 x2 σ = some r) : aS x shM 4 87 [(0, vR 0), (1, vI x1), (2, vI x2)] [] σ := by
  unfold F_M_part_87 at h
  refine A_iload_n X 2 rfl rfl dX12_part_87 ?_
  refine A_if_eq X (tgt := 120) (by decide) dX12_part_88 (fun c79 => ?_) (fun c79 => ?_)
  · replace h := ifT h c79
    refine A_sub [0] rfl (L' := [(0, vR 0)]) rfl ?_
    exact w_X12_part_120 X E σ h
  · replace h := ifF h c79
    refine A_aload_n X 0 rfl rfl dX12_part_91 ?_
    refine A_ldc2 X (v := (6384748)) (List.mem_of_getElem? (i := 5) rfl) dX12_part_92 (z := 6384748) (by decide +kernel) ?_
    obtain ⟨v80, s81, e82, h⟩ := clD h
    refine A_callV_I (na := 1) X (m_X12_isWord e82) gX12_part_X12_isWord rfl ⟨rfl, rfl⟩ (by decide +kernel) rfl ⟨Nat.le_of_ble_eq_true rfl, Nat.le_of_ble_eq_true rfl⟩ shM_0 (by decide) rfl rfl (Nat.le_of_ble_eq_true rfl) dX12_part_95 ?_
    refine A_if_eq X (tgt := 120) (by decide) dX12_part_98 (fun c83 => ?_) (fun c83 => ?_)
    · replace h := ifT h c83
      refine A_sub [0] rfl (L' := [(0, vR 0)]) rfl ?_
      exact w_X12_part_120 X E s81 h
    · replace h := ifF h c83
      refine A_aload_n X 0 rfl rfl dX12_part_101 ?_
      refine A_iconst X dX12_part_102 (z := 5) (by decide) ?_
      refine A_iconst X dX12_part_103 (z := 0) (by decide) ?_
      obtain ⟨v84, s85, e86, h⟩ := clD h
      refine A_callV_V (na := 2) X (m_X12_add e86) gX12_part_X12_add rfl ⟨rfl, rfl⟩ (by decide +kernel) rfl ⟨Nat.le_of_ble_eq_true rfl, Nat.le_of_ble_eq_true rfl⟩ shM_0 (by decide) rfl rfl (Nat.le_of_ble_eq_true rfl) dX12_part_104 ?_
      refine A_aload_n X 0 rfl rfl dX12_part_107 ?_
      refine A_getR X fg_X12_part_113 shM_0 (k := 33) rfl (by decide) dX12_part_108 ?_
      refine A_iload_n X 1 rfl rfl dX12_part_111 ?_
      refine A_iconst X dX12_part_112 (z := 2) (by decide) ?_
      obtain ⟨g87, h⟩ := gdD h
      refine A_iast X g87 shM_20 dX12_part_113 (fun s88 hy => ?_)
      replace h := ltD h s88 hy
      clear hy
      refine A_aload_n X 0 rfl rfl dX12_part_114 ?_
      obtain ⟨v89, s90, e91, h⟩ := clD h
      refine A_callV_V (na := 0) X (m_X12_next e91) gX12_part_X12_next rfl ⟨rfl, rfl⟩ (by decide +kernel) rfl ⟨Nat.le_of_ble_eq_true rfl, Nat.le_of_ble_eq_true rfl⟩ shM_0 (by decide) rfl rfl (Nat.le_of_ble_eq_true rfl) dX12_part_115 ?_
      refine A_iconst X dX12_part_118 (z := 1) (by decide) ?_
      exact A_zreturn X (Or.inr rfl) E h dX12_part_119
set_option maxRecDepth 100000 in
set_option maxHeartbeats 4000000 in
theorem w_X12_part_60 {x : aC} {r : Int × Hp} (X : aX x cX12_part wsX12_part RX12 4 rm_X12_part) (E : aE x shM (some .boolean) 0 r) (x1 : Int) (x2 : Int) (σ : Hp) (h : F_M_part_60 x1 x2 σ = some r) : aS x shM 4 60 [(0, vR 0), (1, vI x1), (2, vI x2)] [] σ := by
  unfold F_M_part_60 at h
  refine A_aload_n X 0 rfl rfl dX12_part_60 ?_
  refine A_getR X fg_X12_part_116 shM_0 (k := 34) rfl (by decide) dX12_part_61 ?_
  refine A_iload_n X 1 rfl rfl dX12_part_64 ?_
  refine A_iconst X dX12_part_65 (z := 0) (by decide) ?_
  obtain ⟨g92, h⟩ := gdD h
  refine A_zast X g92 shM_21 dX12_part_66 (fun s93 hy => ?_)
  replace h := ltD h s93 hy
  clear hy
  refine A_iload_n X 2 rfl rfl dX12_part_67 ?_
  refine A_if_eq X (tgt := 87) (by decide) dX12_part_68 (fun c94 => ?_) (fun c94 => ?_)
  · replace h := ifT h c94
    exact w_X12_part_87 X E x1 x2 s93 h
  · replace h := ifF h c94
    refine A_aload_n X 0 rfl rfl dX12_part_71 ?_
    refine A_bipush X dX12_part_72 (z := 91) (by decide) ?_
    obtain ⟨v95, s96, e97, h⟩ := clD h
    refine A_callV_I (na := 1) X (m_X12_isSign e97) gX12_part_X12_isSign rfl ⟨rfl, rfl⟩ (by decide +kernel) rfl ⟨Nat.le_of_ble_eq_true rfl, Nat.le_of_ble_eq_true rfl⟩ shM_0 (by decide) rfl rfl (Nat.le_of_ble_eq_true rfl) dX12_part_74 ?_
    refine A_if_eq X (tgt := 87) (by decide) dX12_part_77 (fun c98 => ?_) (fun c98 => ?_)
    · replace h := ifT h c98
      exact w_X12_part_87 X E x1 x2 s96 h
    · replace h := ifF h c98
      refine A_aload_n X 0 rfl rfl dX12_part_80 ?_
      refine A_iconst X dX12_part_81 (z := 5) (by decide) ?_
      obtain ⟨v99, s100, e101, h⟩ := clD h
      refine A_callV_V (na := 1) X (m_X12_opens e101) gX12_part_X12_opens rfl ⟨rfl, rfl⟩ (by decide +kernel) rfl ⟨Nat.le_of_ble_eq_true rfl, Nat.le_of_ble_eq_true rfl⟩ shM_0 (by decide) rfl rfl (Nat.le_of_ble_eq_true rfl) dX12_part_82 ?_
      refine A_iconst X dX12_part_85 (z := 0) (by decide) ?_
      exact A_zreturn X (Or.inl rfl) E h dX12_part_86
set_option maxRecDepth 100000 in
set_option maxHeartbeats 4000000 in
theorem w_X12_part_33 {x : aC} {r : Int × Hp} (X : aX x cX12_part wsX12_part RX12 4 rm_X12_part) (E : aE x shM (some .boolean) 0 r) (x1 : Int) (t1 : Int) (σ : Hp) (h : F_M_part_33 x1 t1 σ = some r) : aS x shM 4 33 [(0, vR 0), (1, vI x1)] [vI t1] σ := by
  unfold F_M_part_33 at h
  refine A_istore_n X (L' := [(2, vI t1), (0, vR 0), (1, vI x1)]) rfl (by decide) rfl dX12_part_33 ?_
  refine A_iload_n X 0 rfl rfl dX12_part_34 ?_
  refine A_if_eq X (tgt := 60) (by decide) dX12_part_35 (fun c102 => ?_) (fun c102 => ?_)
  · replace h := ifT h c102
    refine A_sub [1, 2, 0] rfl (L' := [(0, vR 0), (1, vI x1), (2, vI t1)]) rfl ?_
    exact w_X12_part_60 X E x1 t1 σ h
  · replace h := ifF h c102
    refine A_aload_n X 1 rfl rfl dX12_part_38 ?_
    refine A_ldc2 X (v := (7237492)) (List.mem_of_getElem? (i := 4) rfl) dX12_part_39 (z := 7237492) (by decide +kernel) ?_
    obtain ⟨v103, s104, e105, h⟩ := clD h
    refine A_callV_I (na := 1) X (m_X12_isWord e105) gX12_part_X12_isWord rfl ⟨rfl, rfl⟩ (by decide +kernel) rfl ⟨Nat.le_of_ble_eq_true rfl, Nat.le_of_ble_eq_true rfl⟩ shM_0 (by decide) rfl rfl (Nat.le_of_ble_eq_true rfl) dX12_part_42 ?_
    refine A_if_eq X (tgt := 60) (by decide) dX12_part_45 (fun c106 => ?_) (fun c106 => ?_)
    · replace h := ifT h c106
      refine A_sub [1, 2, 0] rfl (L' := [(0, vR 0), (1, vI x1), (2, vI t1)]) rfl ?_
      exact w_X12_part_60 X E x1 t1 s104 h
    · replace h := ifF h c106
      refine A_aload_n X 1 rfl rfl dX12_part_48 ?_
      refine A_bipush X dX12_part_49 (z := 18) (by decide) ?_
      obtain ⟨v107, s108, e109, h⟩ := clD h
      refine A_callV_V (na := 1) X (m_X12_holdsBack e109) gX12_part_X12_holdsBack rfl ⟨rfl, rfl⟩ (by decide +kernel) rfl ⟨Nat.le_of_ble_eq_true rfl, Nat.le_of_ble_eq_true rfl⟩ shM_0 (by decide) rfl rfl (Nat.le_of_ble_eq_true rfl) dX12_part_51 ?_
      refine A_aload_n X 1 rfl rfl dX12_part_54 ?_
      obtain ⟨v110, s111, e112, h⟩ := clD h
      refine A_callV_V (na := 0) X (m_X12_next e112) gX12_part_X12_next rfl ⟨rfl, rfl⟩ (by decide +kernel) rfl ⟨Nat.le_of_ble_eq_true rfl, Nat.le_of_ble_eq_true rfl⟩ shM_0 (by decide) rfl rfl (Nat.le_of_ble_eq_true rfl) dX12_part_55 ?_
      refine A_iconst X dX12_part_58 (z := 0) (by decide) ?_
      exact A_zreturn X (Or.inl rfl) E h dX12_part_59
set_option maxRecDepth 100000 in
set_option maxHeartbeats 4000000 in
theorem w_X12_part_32 {x : aC} {r : Int × Hp} (X : aX x cX12_part wsX12_part RX12 4 rm_X12_part) (E : aE x shM (some .boolean) 0 r) (x1 : Int) (σ : Hp) (h : F_M_part_32 x1 σ = some r) : aS x shM 4 32 [(0, vR 0), (1, vI x1)] [] σ := by
  unfold F_M_part_32 at h
  refine A_iconst X dX12_part_32 (z := 0) (by decide) ?_
  exact w_X12_part_33 X E x1 0 σ h
set_option maxRecDepth 100000 in
set_option maxHeartbeats 4000000 in
theorem m_X12_part {l : Launch} {g : aG} {σ : Hp} {r : Int × Hp} (h : F_M_part σ = some r) : aMet l g shM yX12_part wsX12_part rm_X12_part [vR 0] σ 0 r := by
  unfold F_M_part at h
  refine aMet_of (bytes := cX12_part) (maxL := 4) (ret := (some .boolean)) (by decide +kernel) rfl (Nat.le_of_ble_eq_true rfl) ⟨rfl, rfl⟩ (fun x e1 e2 X E => ?_)
  subst e1; subst e2
  have X : aX x cX12_part wsX12_part RX12 4 rm_X12_part := X
  show aS x shM 4 0 [(0, vR 0)] [] σ
  refine A_aload_n X 0 rfl rfl dX12_part_0 ?_
  refine A_getI X fg_X12_part_125 shM_0 (k := 37) rfl (by decide) dX12_part_1 ?_
  refine A_iconst X dX12_part_4 (z := 1) (by decide) ?_
  refine A_isub X dX12_part_5 ?_
  refine A_istore_nN X (L' := fun y1_113 => [(1, vI y1_113), (0, vR 0)]) rfl (by decide) (fun _ => rfl) dX12_part_6 (fun y1_113 hy => ?_)
  replace h := ltD h y1_113 hy
  clear hy
  refine A_aload_n X 1 rfl rfl dX12_part_7 ?_
  refine A_getR X fg_X12_part_110 shM_0 (k := 32) rfl (by decide) dX12_part_8 ?_
  refine A_iload_n X 0 rfl rfl dX12_part_11 ?_
  obtain ⟨g114, h⟩ := gdD h
  refine A_iald X g114 shM_19 dX12_part_12 ?_
  obtain ⟨v115, s116, e117, h⟩ := clD h
  refine A_callS_I (na := 1) X (m_X12_isTest e117) gX12_part_X12_isTest rfl ⟨rfl, rfl⟩ (by decide +kernel) rfl ⟨Nat.le_of_ble_eq_true rfl, Nat.le_of_ble_eq_true rfl⟩ rfl (Nat.le_of_ble_eq_true rfl) dX12_part_13 ?_
  refine A_if_eq X (tgt := 32) (by decide) dX12_part_16 (fun c118 => ?_) (fun c118 => ?_)
  · replace h := ifT h c118
    refine A_sub [1, 0] rfl (L' := [(0, vR 0), (1, vI y1_113)]) rfl ?_
    exact w_X12_part_32 X E y1_113 s116 h
  · replace h := ifF h c118
    refine A_aload_n X 1 rfl rfl dX12_part_19 ?_
    refine A_getR X fg_X12_part_116 shM_0 (k := 34) rfl (by decide) dX12_part_20 ?_
    refine A_iload_n X 0 rfl rfl dX12_part_23 ?_
    obtain ⟨g119, h⟩ := gdD h
    refine A_zald X g119 shM_21 dX12_part_24 ?_
    refine A_if_eq X (tgt := 32) (by decide) dX12_part_25 (fun c120 => ?_) (fun c120 => ?_)
    · replace h := ifT h c120
      refine A_sub [1, 0] rfl (L' := [(0, vR 0), (1, vI y1_113)]) rfl ?_
      exact w_X12_part_32 X E y1_113 s116 h
    · replace h := ifF h c120
      refine A_iconst X dX12_part_28 (z := 1) (by decide) ?_
      refine A_goto X (tgt := 33) (by decide) dX12_part_29 ?_
      refine A_sub [1, 0] rfl (L' := [(0, vR 0), (1, vI y1_113)]) rfl ?_
      exact w_X12_part_33 X E y1_113 1 s116 h

