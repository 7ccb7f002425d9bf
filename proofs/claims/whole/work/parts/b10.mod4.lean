abbrev rm_X12_pays : Room := { frames := 6, cells := 0, slots := 0, locals := 151 }
set_option maxRecDepth 100000 in
set_option maxHeartbeats 4000000 in
theorem w_X12_pays_19 {x : aC} {r : Int × Hp} {a1 : Int} (X : aX x cX12_pays wsX12_pays RX12 2 rm_X12_pays) (E : aE x shM (some .int) 0 r) (t1 : Int) (σ : Hp) (h : F_M_pays_19 a1 t1 σ = some r) : aS x shM 2 19 [] [vI t1] σ := by
  unfold F_M_pays_19 at h
  exact A_ireturn X E h dX12_pays_19
set_option maxRecDepth 100000 in
set_option maxHeartbeats 4000000 in
theorem m_X12_pays {l : Launch} {g : aG} {a1 : Int} {σ : Hp} {r : Int × Hp} (h : F_M_pays a1 σ = some r) : aMet l g shM yX12_pays wsX12_pays rm_X12_pays [vR 0, vI a1] σ 0 r := by
  unfold F_M_pays at h
  refine aMet_of (bytes := cX12_pays) (maxL := 2) (ret := (some .int)) (by decide +kernel) rfl (Nat.le_of_ble_eq_true rfl) ⟨rfl, rfl⟩ (fun x e1 e2 X E => ?_)
  subst e1; subst e2
  have X : aX x cX12_pays wsX12_pays RX12 2 rm_X12_pays := X
  show aS x shM 2 0 [(0, vR 0), (1, vI a1)] [] σ
  refine A_aload_n X 0 rfl rfl dX12_pays_0 ?_
  refine A_iload_n X 1 rfl rfl dX12_pays_1 ?_
  obtain ⟨v1, s2, e3, h⟩ := clD h
  refine A_callV_I (na := 1) X (m_X12_isRoad e3) gX12_pays_X12_isRoad rfl ⟨rfl, rfl⟩ (by decide +kernel) rfl ⟨Nat.le_of_ble_eq_true rfl, Nat.le_of_ble_eq_true rfl⟩ shM_0 (by decide) rfl rfl (Nat.le_of_ble_eq_true rfl) dX12_pays_2 ?_
  refine A_if_eq X (tgt := 18) (by decide) dX12_pays_5 (fun c4 => ?_) (fun c4 => ?_)
  · replace h := ifT h c4
    refine A_iconst X dX12_pays_18 (z := (-1)) (by decide) ?_
    refine A_sub [] rfl (L' := []) rfl ?_
    exact w_X12_pays_19 (a1 := a1) X E (-1) s2 h
  · replace h := ifF h c4
    refine A_aload_n X 0 rfl rfl dX12_pays_8 ?_
    refine A_iload_n X 1 rfl rfl dX12_pays_9 ?_
    refine A_iconst X dX12_pays_10 (z := (-1)) (by decide) ?_
    refine A_iconst X dX12_pays_11 (z := 1) (by decide) ?_
    obtain ⟨v5, s6, e7, h⟩ := clD h
    refine A_callV_I (na := 3) X (m_X12_changes e7) gX12_pays_X12_changes rfl ⟨rfl, rfl⟩ (by decide +kernel) rfl ⟨Nat.le_of_ble_eq_true rfl, Nat.le_of_ble_eq_true rfl⟩ shM_0 (by decide) rfl rfl (Nat.le_of_ble_eq_true rfl) dX12_pays_12 ?_
    refine A_goto X (tgt := 19) (by decide) dX12_pays_15 ?_
    refine A_sub [] rfl (L' := []) rfl ?_
    exact w_X12_pays_19 (a1 := a1) X E v5 s6 h
abbrev rm_X12_price : Room := { frames := 5, cells := 0, slots := 0, locals := 123 }
theorem in_X12_price_12 : ∀ w ∈ u_ws RX12 TX12 75, w ∈ wsX12_price := fun w h => List.mem_cons_of_mem _ (List.mem_append_right _ h)
theorem fg_X12_price_171 : aFl wsX12_price RX12 171 12 52 := ⟨RX12, TX12, 75, rfl, in_X12_price_12, by decide, (List.mem_of_getElem? (i := 1) rfl), rfl⟩
theorem fg_X12_price_91 : aFl wsX12_price RX12 91 12 26 := ⟨RX12, TX12, 75, rfl, in_X12_price_12, by decide, (List.mem_of_getElem? (i := 2) rfl), rfl⟩
theorem fg_X12_price_48 : aFl wsX12_price RX12 48 12 12 := ⟨RX12, TX12, 75, rfl, in_X12_price_12, by decide, (List.mem_of_getElem? (i := 3) rfl), rfl⟩
set_option maxRecDepth 100000 in
set_option maxHeartbeats 4000000 in
theorem w_X12_price_129 {x : aC} {r : Int × Hp} {a1 : Int} (X : aX x cX12_price wsX12_price RX12 5 rm_X12_price) (E : aE x shM (some .int) 0 r) (t1 : Int) (σ : Hp) (h : F_M_price_129 a1 t1 σ = some r) : aS x shM 5 129 [] [vI t1] σ := by
  unfold F_M_price_129 at h
  exact A_ireturn X E h dX12_price_129
set_option maxRecDepth 100000 in
set_option maxHeartbeats 4000000 in
theorem m_X12_price {l : Launch} {g : aG} {a1 : Int} {σ : Hp} {r : Int × Hp} (h : F_M_price a1 σ = some r) : aMet l g shM yX12_price wsX12_price rm_X12_price [vR 0, vI a1] σ 0 r := by
  unfold F_M_price at h
  refine aMet_of (bytes := cX12_price) (maxL := 5) (ret := (some .int)) (by decide +kernel) rfl (Nat.le_of_ble_eq_true rfl) ⟨rfl, rfl⟩ (fun x e1 e2 X E => ?_)
  subst e1; subst e2
  have X : aX x cX12_price wsX12_price RX12 5 rm_X12_price := X
  show aS x shM 5 0 [(0, vR 0), (1, vI a1)] [] σ
  refine A_aload_n X 0 rfl rfl dX12_price_0 ?_
  refine A_iload_n X 1 rfl rfl dX12_price_1 ?_
  obtain ⟨v1, s2, e3, h⟩ := clD h
  refine A_callV_I (na := 1) X (m_X12_isRoad e3) gX12_price_X12_isRoad rfl ⟨rfl, rfl⟩ (by decide +kernel) rfl ⟨Nat.le_of_ble_eq_true rfl, Nat.le_of_ble_eq_true rfl⟩ shM_0 (by decide) rfl rfl (Nat.le_of_ble_eq_true rfl) dX12_price_2 ?_
  refine A_if_ne X (tgt := 10) (by decide) dX12_price_5 (fun c4 => ?_) (fun c4 => ?_)
  · replace h := ifF h c4
    refine A_aload_n X 0 rfl rfl dX12_price_10 ?_
    refine A_iload_n X 1 rfl rfl dX12_price_11 ?_
    refine A_iconst X dX12_price_12 (z := (-1)) (by decide) ?_
    obtain ⟨v5, s6, e7, h⟩ := clD h
    refine A_callV_V (na := 2) X (m_X12_lays e7) gX12_price_X12_lays rfl ⟨rfl, rfl⟩ (by decide +kernel) rfl ⟨Nat.le_of_ble_eq_true rfl, Nat.le_of_ble_eq_true rfl⟩ shM_0 (by decide) rfl rfl (Nat.le_of_ble_eq_true rfl) dX12_price_13 ?_
    refine A_aload_n X 0 rfl rfl dX12_price_16 ?_
    refine A_iconst X dX12_price_17 (z := (-1)) (by decide) ?_
    obtain ⟨v8, s9, e10, h⟩ := clD h
    refine A_callV_V (na := 1) X (m_X12_mosts e10) gX12_price_X12_mosts rfl ⟨rfl, rfl⟩ (by decide +kernel) rfl ⟨Nat.le_of_ble_eq_true rfl, Nat.le_of_ble_eq_true rfl⟩ shM_0 (by decide) rfl rfl (Nat.le_of_ble_eq_true rfl) dX12_price_18 ?_
    refine A_aload_n X 0 rfl rfl dX12_price_21 ?_
    refine A_iload_n X 1 rfl rfl dX12_price_22 ?_
    obtain ⟨v11, s12, e13, h⟩ := clD h
    refine A_callV_I (na := 1) X (m_X12_first e13) gX12_price_X12_first rfl ⟨rfl, rfl⟩ (by decide +kernel) rfl ⟨Nat.le_of_ble_eq_true rfl, Nat.le_of_ble_eq_true rfl⟩ shM_0 (by decide) rfl rfl (Nat.le_of_ble_eq_true rfl) dX12_price_23 ?_
    refine A_istore_n X (L' := [(2, vI v11), (0, vR 0), (1, vI a1)]) rfl (by decide) rfl dX12_price_26 ?_
    refine A_aload_n X 1 rfl rfl dX12_price_27 ?_
    refine A_iload_n X 2 rfl rfl dX12_price_28 ?_
    obtain ⟨v14, s15, e16, h⟩ := clD h
    refine A_callV_I (na := 1) X (m_X12_second e16) gX12_price_X12_second rfl ⟨rfl, rfl⟩ (by decide +kernel) rfl ⟨Nat.le_of_ble_eq_true rfl, Nat.le_of_ble_eq_true rfl⟩ shM_0 (by decide) rfl rfl (Nat.le_of_ble_eq_true rfl) dX12_price_29 ?_
    refine A_istore_n X (L' := [(3, vI v14), (2, vI v11), (0, vR 0), (1, vI a1)]) rfl (by decide) rfl dX12_price_32 ?_
    refine A_aload_n X 2 rfl rfl dX12_price_33 ?_
    refine A_getR X fg_X12_price_171 shM_0 (k := 52) rfl (by decide) dX12_price_34 ?_
    refine A_aload_n X 2 rfl rfl dX12_price_37 ?_
    obtain ⟨v17, s18, e19, h⟩ := clD h
    refine A_callV_I (na := 0) X (m_X12_all e19) gX12_price_X12_all rfl ⟨rfl, rfl⟩ (by decide +kernel) rfl ⟨Nat.le_of_ble_eq_true rfl, Nat.le_of_ble_eq_true rfl⟩ shM_0 (by decide) rfl rfl (Nat.le_of_ble_eq_true rfl) dX12_price_38 ?_
    obtain ⟨g20, h⟩ := gdD h
    refine A_iald X g20 shM_32 dX12_price_41 ?_
    refine A_aload_n X 2 rfl rfl dX12_price_42 ?_
    refine A_getR X fg_X12_price_171 shM_0 (k := 52) rfl (by decide) dX12_price_43 ?_
    refine A_aload_n X 2 rfl rfl dX12_price_46 ?_
    obtain ⟨v21, s22, e23, h⟩ := clD h
    refine A_callV_I (na := 0) X (m_X12_all e23) gX12_price_X12_all rfl ⟨rfl, rfl⟩ (by decide +kernel) rfl ⟨Nat.le_of_ble_eq_true rfl, Nat.le_of_ble_eq_true rfl⟩ shM_0 (by decide) rfl rfl (Nat.le_of_ble_eq_true rfl) dX12_price_47 ?_
    refine A_iconst X dX12_price_50 (z := 1) (by decide) ?_
    refine A_iload_n X 1 rfl rfl dX12_price_51 ?_
    refine A_ishl X dX12_price_52 ?_
    refine A_iconst X dX12_price_53 (z := 1) (by decide) ?_
    refine A_iload_n X 0 rfl rfl dX12_price_54 ?_
    refine A_ishl X dX12_price_55 ?_
    refine A_ior X dX12_price_56 ?_
    refine A_iconst X dX12_price_57 (z := (-1)) (by decide) ?_
    refine A_ixor X dX12_price_58 ?_
    refine A_iand X dX12_price_59 ?_
    obtain ⟨g24, h⟩ := gdD h
    refine A_iald X g24 shM_32 dX12_price_60 ?_
    refine A_isub X dX12_price_61 ?_
    refine A_aload_n X 2 rfl rfl dX12_price_62 ?_
    refine A_iload_n X 1 rfl rfl dX12_price_63 ?_
    obtain ⟨v25, s26, e27, h⟩ := clD h
    refine A_callV_I (na := 1) X (m_X12_aloneOf e27) gX12_price_X12_aloneOf rfl ⟨rfl, rfl⟩ (by decide +kernel) rfl ⟨Nat.le_of_ble_eq_true rfl, Nat.le_of_ble_eq_true rfl⟩ shM_0 (by decide) rfl rfl (Nat.le_of_ble_eq_true rfl) dX12_price_64 ?_
    refine A_iadd X dX12_price_67 ?_
    refine A_aload_n X 2 rfl rfl dX12_price_68 ?_
    refine A_iload_n X 0 rfl rfl dX12_price_69 ?_
    obtain ⟨v28, s29, e30, h⟩ := clD h
    refine A_callV_I (na := 1) X (m_X12_aloneOf e30) gX12_price_X12_aloneOf rfl ⟨rfl, rfl⟩ (by decide +kernel) rfl ⟨Nat.le_of_ble_eq_true rfl, Nat.le_of_ble_eq_true rfl⟩ shM_0 (by decide) rfl rfl (Nat.le_of_ble_eq_true rfl) dX12_price_70 ?_
    refine A_iadd X dX12_price_73 ?_
    refine A_aload_n X 2 rfl rfl dX12_price_74 ?_
    refine A_getR X fg_X12_price_91 shM_0 (k := 26) rfl (by decide) dX12_price_75 ?_
    refine A_sipush X dX12_price_78 (z := 144) (by decide) ?_
    refine A_aload_n X 2 rfl rfl dX12_price_81 ?_
    refine A_getI X fg_X12_price_48 shM_0 (k := 12) rfl (by decide) dX12_price_82 ?_
    refine A_imul X dX12_price_85 ?_
    refine A_bipush X dX12_price_86 (z := 12) (by decide) ?_
    refine A_iload_n X 1 rfl rfl dX12_price_88 ?_
    refine A_imul X dX12_price_89 ?_
    refine A_iadd X dX12_price_90 ?_
    refine A_iload_n X 0 rfl rfl dX12_price_91 ?_
    refine A_iadd X dX12_price_92 ?_
    obtain ⟨g31, h⟩ := gdD h
    refine A_iald X g31 shM_15 dX12_price_93 ?_
    refine A_isub X dX12_price_94 ?_
    refine A_aload_n X 2 rfl rfl dX12_price_95 ?_
    refine A_getR X fg_X12_price_91 shM_0 (k := 26) rfl (by decide) dX12_price_96 ?_
    refine A_sipush X dX12_price_99 (z := 144) (by decide) ?_
    refine A_aload_n X 2 rfl rfl dX12_price_102 ?_
    refine A_getI X fg_X12_price_48 shM_0 (k := 12) rfl (by decide) dX12_price_103 ?_
    refine A_imul X dX12_price_106 ?_
    refine A_bipush X dX12_price_107 (z := 12) (by decide) ?_
    refine A_iload_n X 0 rfl rfl dX12_price_109 ?_
    refine A_imul X dX12_price_110 ?_
    refine A_iadd X dX12_price_111 ?_
    refine A_iload_n X 1 rfl rfl dX12_price_112 ?_
    refine A_iadd X dX12_price_113 ?_
    obtain ⟨g32, h⟩ := gdD h
    refine A_iald X g32 shM_15 dX12_price_114 ?_
    refine A_isub X dX12_price_115 ?_
    refine A_istoreN X (L' := fun y4_33 => [(4, vI y4_33), (3, vI v14), (2, vI v11), (0, vR 0), (1, vI a1)]) (by decide) (fun _ => rfl) dX12_price_116 (fun y4_33 hy => ?_)
    replace h := ltD h y4_33 hy
    clear hy
    refine A_iload X 0 rfl dX12_price_118 ?_
    refine A_if_ge X (tgt := 127) (by decide) dX12_price_120 (fun c34 => ?_) (fun c34 => ?_)
    · replace h := ifT h c34
      refine A_iload X 0 rfl dX12_price_127 ?_
      refine A_sub [] rfl (L' := []) rfl ?_
      exact w_X12_price_129 (a1 := a1) X E y4_33 s29 h
    · replace h := ifF h c34
      refine A_iconst X dX12_price_123 (z := 0) (by decide) ?_
      refine A_goto X (tgt := 129) (by decide) dX12_price_124 ?_
      refine A_sub [] rfl (L' := []) rfl ?_
      exact w_X12_price_129 (a1 := a1) X E 0 s29 h
  · replace h := ifT h c4
    refine A_iconst X dX12_price_8 (z := (-1)) (by decide) ?_
    exact A_ireturn X E h dX12_price_9
abbrev rm_X12_reads : Room := { frames := 4, cells := 0, slots := 0, locals := 91 }
theorem in_X12_reads_12 : ∀ w ∈ u_ws RX12 TX12 75, w ∈ wsX12_reads := fun w h => List.mem_cons_of_mem _ (List.mem_append_right _ h)
theorem fg_X12_reads_36 : aFl wsX12_reads RX12 36 12 8 := ⟨RX12, TX12, 75, rfl, in_X12_reads_12, by decide, (List.mem_of_getElem? (i := 1) rfl), rfl⟩
theorem fg_X12_reads_137 : aFl wsX12_reads RX12 137 12 41 := ⟨RX12, TX12, 75, rfl, in_X12_reads_12, by decide, (List.mem_of_getElem? (i := 5) rfl), rfl⟩
theorem fp_X12_reads_137 : aFp wsX12_reads RX12 137 12 41 .boolean := ⟨RX12, TX12, 75, tyX12, rfl, in_X12_reads_12, by decide, (List.mem_of_getElem? (i := 5) rfl), rfl, tyX12_ok, nmX12, rfl, rfl⟩
theorem fp_X12_reads_125 : aFp wsX12_reads RX12 125 12 37 .int := ⟨RX12, TX12, 75, tyX12, rfl, in_X12_reads_12, by decide, (List.mem_of_getElem? (i := 2) rfl), rfl, tyX12_ok, nmX12, rfl, rfl⟩
theorem fp_X12_reads_128 : aFp wsX12_reads RX12 128 12 38 .int := ⟨RX12, TX12, 75, tyX12, rfl, in_X12_reads_12, by decide, (List.mem_of_getElem? (i := 3) rfl), rfl, tyX12_ok, nmX12, rfl, rfl⟩
theorem fp_X12_reads_134 : aFp wsX12_reads RX12 134 12 40 .int := ⟨RX12, TX12, 75, tyX12, rfl, in_X12_reads_12, by decide, (List.mem_of_getElem? (i := 4) rfl), rfl, tyX12_ok, nmX12, rfl, rfl⟩
set_option maxRecDepth 100000 in
set_option maxHeartbeats 4000000 in
theorem w_X12_reads_86 {x : aC} {r : Int × Hp} {k43 : Int × Hp → Option (Int × Hp)} {a1 : Int} (X : aX x cX12_reads wsX12_reads RX12 3 rm_X12_reads) (E : aE x shM none 3 r) (hk43 : ∀ (x2 : Int) (σ : Hp), k43 (x2, σ) = some r → aS x shM 3 43 [(0, vR 0), (2, vI x2)] [] σ) (t1 : Int) (σ : Hp) (h : F_M_reads_86 k43 a1 t1 σ = some r) : aS x shM 3 86 [(0, vR 0)] [vI t1] σ := by
  unfold F_M_reads_86 at h
  refine A_istore_n X (L' := [(2, vI t1), (0, vR 0)]) rfl (by decide) rfl dX12_reads_86 ?_
  refine A_goto X (tgt := 43) (by decide) dX12_reads_87 ?_
  refine A_sub [1, 0] rfl (L' := [(0, vR 0), (2, vI t1)]) rfl ?_
  exact hk43 t1 σ h
set_option maxRecDepth 100000 in
set_option maxHeartbeats 4000000 in
theorem w_X12_reads_85 {x : aC} {r : Int × Hp} {k43 : Int × Hp → Option (Int × Hp)} {a1 : Int} (X : aX x cX12_reads wsX12_reads RX12 3 rm_X12_reads) (E : aE x shM none 3 r) (hk43 : ∀ (x2 : Int) (σ : Hp), k43 (x2, σ) = some r → aS x shM 3 43 [(0, vR 0), (2, vI x2)] [] σ) (σ : Hp) (h : F_M_reads_85 k43 a1 σ = some r) : aS x shM 3 85 [(0, vR 0)] [] σ := by
  unfold F_M_reads_85 at h
  refine A_iconst X dX12_reads_85 (z := 0) (by decide) ?_
  exact w_X12_reads_86 (a1 := a1) X E hk43 0 σ h
set_option maxRecDepth 100000 in
set_option maxHeartbeats 4000000 in
theorem w_X12_reads_70 {x : aC} {r : Int × Hp} {k43 : Int × Hp → Option (Int × Hp)} {a1 : Int} (X : aX x cX12_reads wsX12_reads RX12 3 rm_X12_reads) (E : aE x shM none 3 r) (hk43 : ∀ (x2 : Int) (σ : Hp), k43 (x2, σ) = some r → aS x shM 3 43 [(0, vR 0), (2, vI x2)] [] σ) (x2 : Int) (σ : Hp) (h : F_M_reads_70 k43 a1 x2 σ = some r) : aS x shM 3 70 [(0, vR 0), (2, vI x2)] [] σ := by
  unfold F_M_reads_70 at h
  refine A_iload_n X 1 rfl rfl dX12_reads_70 ?_
  refine A_if_eq X (tgt := 85) (by decide) dX12_reads_71 (fun c1 => ?_) (fun c1 => ?_)
  · replace h := ifT h c1
    refine A_sub [0] rfl (L' := [(0, vR 0)]) rfl ?_
    exact w_X12_reads_85 (a1 := a1) X E hk43 σ h
  · replace h := ifF h c1
    refine A_aload_n X 0 rfl rfl dX12_reads_74 ?_
    refine A_getI X fg_X12_reads_36 shM_0 (k := 8) rfl (by decide) dX12_reads_75 ?_
    refine A_if_ne X (tgt := 85) (by decide) dX12_reads_78 (fun c2 => ?_) (fun c2 => ?_)
    · replace h := ifF h c2
      refine A_sub [0] rfl (L' := [(0, vR 0)]) rfl ?_
      exact w_X12_reads_85 (a1 := a1) X E hk43 σ h
    · replace h := ifT h c2
      refine A_iconst X dX12_reads_81 (z := 1) (by decide) ?_
      refine A_goto X (tgt := 86) (by decide) dX12_reads_82 ?_
      refine A_sub [0] rfl (L' := [(0, vR 0)]) rfl ?_
      exact w_X12_reads_86 (a1 := a1) X E hk43 1 σ h
set_option maxRecDepth 100000 in
set_option maxHeartbeats 4000000 in
theorem w_X12_reads_43_b {x : aC} {r : Int × Hp} {k43 : Int × Hp → Option (Int × Hp)} {a1 : Int} (X : aX x cX12_reads wsX12_reads RX12 3 rm_X12_reads) (E : aE x shM none 3 r) (hk43 : ∀ (x2 : Int) (σ : Hp), k43 (x2, σ) = some r → aS x shM 3 43 [(0, vR 0), (2, vI x2)] [] σ) (x2 : Int) (σ : Hp) (h : F_M_reads_43_b k43 a1 x2 σ = some r) : aS x shM 3 43 [(0, vR 0), (2, vI x2)] [] σ := by
  unfold F_M_reads_43_b at h
  refine A_iload_n X 1 rfl rfl dX12_reads_43 ?_
  refine A_if_eq X (tgt := 90) (by decide) dX12_reads_44 (fun c3 => ?_) (fun c3 => ?_)
  · replace h := ifT h c3
    exact A_return X E h dX12_reads_90
  · replace h := ifF h c3
    refine A_aload_n X 0 rfl rfl dX12_reads_47 ?_
    refine A_getI X fg_X12_reads_137 shM_0 (k := 41) rfl (by decide) dX12_reads_48 ?_
    refine A_if_ne X (tgt := 65) (by decide) dX12_reads_51 (fun c4 => ?_) (fun c4 => ?_)
    · replace h := ifF h c4
      refine A_aload_n X 0 rfl rfl dX12_reads_65 ?_
      obtain ⟨v5, s6, e7, h⟩ := clD h
      refine A_callV_I (na := 0) X (m_X12_goesOn e7) gX12_reads_X12_goesOn rfl ⟨rfl, rfl⟩ (by decide +kernel) rfl ⟨Nat.le_of_ble_eq_true rfl, Nat.le_of_ble_eq_true rfl⟩ shM_0 (by decide) rfl rfl (Nat.le_of_ble_eq_true rfl) dX12_reads_66 ?_
      refine A_istore_n X (L' := [(2, vI v5), (0, vR 0)]) rfl (by decide) rfl dX12_reads_69 ?_
      refine A_sub [1, 0] rfl (L' := [(0, vR 0), (2, vI v5)]) rfl ?_
      exact w_X12_reads_70 (a1 := a1) X E hk43 v5 s6 h
    · replace h := ifT h c4
      refine A_aload_n X 0 rfl rfl dX12_reads_54 ?_
      refine A_aload_n X 0 rfl rfl dX12_reads_55 ?_
      obtain ⟨v8, s9, e10, h⟩ := clD h
      refine A_callV_I (na := 0) X (m_X12_part e10) gX12_reads_X12_part rfl ⟨rfl, rfl⟩ (by decide +kernel) rfl ⟨Nat.le_of_ble_eq_true rfl, Nat.le_of_ble_eq_true rfl⟩ shM_0 (by decide) rfl rfl (Nat.le_of_ble_eq_true rfl) dX12_reads_56 ?_
      obtain ⟨g12, h⟩ := gdD h
      refine A_putZ X g12 fp_X12_reads_137 shM_0 (k := 41) rfl (by decide) dX12_reads_59 (fun s11 hy => ?_)
      replace h := ltD h s11 hy
      clear hy
      refine A_goto X (tgt := 70) (by decide) dX12_reads_62 ?_
      exact w_X12_reads_70 (a1 := a1) X E hk43 x2 s11 h
set_option maxRecDepth 100000 in
set_option maxHeartbeats 4000000 in
theorem w_X12_reads_43 {x : aC} {r : Int × Hp} {a1 : Int} (X : aX x cX12_reads wsX12_reads RX12 3 rm_X12_reads) (E : aE x shM none 3 r) : ∀ (n : Nat) (x2 : Int) (σ : Hp) (h : F_M_reads_43 a1 n (x2, σ) = some r), aS x shM 3 43 [(0, vR 0), (2, vI x2)] [] σ := by
  intro n
  induction n with
  | zero => intro x2 σ h; cases h
  | succ n ih => intro x2 σ h; exact w_X12_reads_43_b (a1 := a1) (k43 := F_M_reads_43 a1 n) X E ih x2 σ h
set_option maxRecDepth 100000 in
set_option maxHeartbeats 4000000 in
theorem w_X12_reads_38 {x : aC} {r : Int × Hp} {a1 : Int} (X : aX x cX12_reads wsX12_reads RX12 3 rm_X12_reads) (E : aE x shM none 3 r) (t2 : Int) (σ : Hp) (h : F_M_reads_38 a1 t2 σ = some r) : aS x shM 3 38 [(0, vR 0)] [vI t2, vR 0] σ := by
  unfold F_M_reads_38 at h
  obtain ⟨v13, s14, e15, h⟩ := clD h
  refine A_callV_V (na := 1) X (m_X12_pushes e15) gX12_reads_X12_pushes rfl ⟨rfl, rfl⟩ (by decide +kernel) rfl ⟨Nat.le_of_ble_eq_true rfl, Nat.le_of_ble_eq_true rfl⟩ shM_0 (by decide) rfl rfl (Nat.le_of_ble_eq_true rfl) dX12_reads_38 ?_
  refine A_iconst X dX12_reads_41 (z := 1) (by decide) ?_
  refine A_istore_n X (L' := [(2, vI 1), (0, vR 0)]) rfl (by decide) rfl dX12_reads_42 ?_
  refine A_sub [1, 0] rfl (L' := [(0, vR 0), (2, vI 1)]) rfl ?_
  exact w_X12_reads_43 (a1 := a1) X E FU 1 s14 h
set_option maxRecDepth 100000 in
set_option maxHeartbeats 4000000 in
theorem m_X12_reads {l : Launch} {g : aG} {a1 : Int} {σ : Hp} {r : Int × Hp} (h : F_M_reads a1 σ = some r) : aMet l g shM yX12_reads wsX12_reads rm_X12_reads [vR 0, vI a1] σ 3 r := by
  unfold F_M_reads at h
  refine aMet_of (bytes := cX12_reads) (maxL := 3) (ret := none) (by decide +kernel) rfl (Nat.le_of_ble_eq_true rfl) ⟨rfl, rfl⟩ (fun x e1 e2 X E => ?_)
  subst e1; subst e2
  have X : aX x cX12_reads wsX12_reads RX12 3 rm_X12_reads := X
  show aS x shM 3 0 [(0, vR 0), (1, vI a1)] [] σ
  refine A_aload_n X 0 rfl rfl dX12_reads_0 ?_
  refine A_getI X fg_X12_reads_36 shM_0 (k := 8) rfl (by decide) dX12_reads_1 ?_
  refine A_if_le X (tgt := 8) (by decide) dX12_reads_4 (fun c16 => ?_) (fun c16 => ?_)
  · replace h := ifT h c16
    refine A_aload_n X 0 rfl rfl dX12_reads_8 ?_
    refine A_iconst X dX12_reads_9 (z := 0) (by decide) ?_
    refine A_putI X fp_X12_reads_125 shM_0 (k := 37) rfl (by decide) dX12_reads_10 (fun s17 hy => ?_)
    replace h := ltD h s17 hy
    clear hy
    refine A_aload_n X 0 rfl rfl dX12_reads_13 ?_
    refine A_iconst X dX12_reads_14 (z := 0) (by decide) ?_
    refine A_putI X fp_X12_reads_128 shM_0 (k := 38) rfl (by decide) dX12_reads_15 (fun s18 hy => ?_)
    replace h := ltD h s18 hy
    clear hy
    refine A_aload_n X 0 rfl rfl dX12_reads_18 ?_
    refine A_iconst X dX12_reads_19 (z := 0) (by decide) ?_
    refine A_putI X fp_X12_reads_134 shM_0 (k := 40) rfl (by decide) dX12_reads_20 (fun s19 hy => ?_)
    replace h := ltD h s19 hy
    clear hy
    refine A_aload_n X 0 rfl rfl dX12_reads_23 ?_
    refine A_iconst X dX12_reads_24 (z := 0) (by decide) ?_
    refine A_putZ X (Or.inl rfl) fp_X12_reads_137 shM_0 (k := 41) rfl (by decide) dX12_reads_25 (fun s20 hy => ?_)
    replace h := ltD h s20 hy
    clear hy
    refine A_aload_n X 0 rfl rfl dX12_reads_28 ?_
    refine A_iload_n X 1 rfl rfl dX12_reads_29 ?_
    refine A_if_eq X (tgt := 37) (by decide) dX12_reads_30 (fun c21 => ?_) (fun c21 => ?_)
    · replace h := ifT h c21
      refine A_iconst X dX12_reads_37 (z := 0) (by decide) ?_
      refine A_sub [0] rfl (L' := [(0, vR 0)]) rfl ?_
      exact w_X12_reads_38 (a1 := a1) X E 0 s20 h
    · replace h := ifF h c21
      refine A_iconst X dX12_reads_33 (z := 1) (by decide) ?_
      refine A_goto X (tgt := 38) (by decide) dX12_reads_34 ?_
      refine A_sub [0] rfl (L' := [(0, vR 0)]) rfl ?_
      exact w_X12_reads_38 (a1 := a1) X E 1 s20 h
  · replace h := ifF h c16
    exact A_return X E h dX12_reads_7
abbrev rm_X12_road : Room := { frames := 5, cells := 0, slots := 0, locals := 113 }
theorem in_X12_road_12 : ∀ w ∈ u_ws RX12 TX12 75, w ∈ wsX12_road := fun w h => List.mem_cons_of_mem _ (List.mem_append_right _ h)
theorem fg_X12_road_85 : aFl wsX12_road RX12 85 12 24 := ⟨RX12, TX12, 75, rfl, in_X12_road_12, by decide, (List.mem_of_getElem? (i := 13) rfl), rfl⟩
theorem fg_X12_road_104 : aFl wsX12_road RX12 104 12 30 := ⟨RX12, TX12, 75, rfl, in_X12_road_12, by decide, (List.mem_of_getElem? (i := 9) rfl), rfl⟩
theorem fg_X12_road_88 : aFl wsX12_road RX12 88 12 25 := ⟨RX12, TX12, 75, rfl, in_X12_road_12, by decide, (List.mem_of_getElem? (i := 14) rfl), rfl⟩
theorem fg_X12_road_36 : aFl wsX12_road RX12 36 12 8 := ⟨RX12, TX12, 75, rfl, in_X12_road_12, by decide, (List.mem_of_getElem? (i := 3) rfl), rfl⟩
theorem fg_X12_road_54 : aFl wsX12_road RX12 54 12 14 := ⟨RX12, TX12, 75, rfl, in_X12_road_12, by decide, (List.mem_of_getElem? (i := 1) rfl), rfl⟩
theorem fg_X12_road_107 : aFl wsX12_road RX12 107 12 31 := ⟨RX12, TX12, 75, rfl, in_X12_road_12, by decide, (List.mem_of_getElem? (i := 2) rfl), rfl⟩
theorem fg_X12_road_76 : aFl wsX12_road RX12 76 12 21 := ⟨RX12, TX12, 75, rfl, in_X12_road_12, by decide, (List.mem_of_getElem? (i := 8) rfl), rfl⟩
theorem fg_X12_road_79 : aFl wsX12_road RX12 79 12 22 := ⟨RX12, TX12, 75, rfl, in_X12_road_12, by decide, (List.mem_of_getElem? (i := 10) rfl), rfl⟩
theorem fg_X12_road_82 : aFl wsX12_road RX12 82 12 23 := ⟨RX12, TX12, 75, rfl, in_X12_road_12, by decide, (List.mem_of_getElem? (i := 11) rfl), rfl⟩
theorem fg_X12_road_73 : aFl wsX12_road RX12 73 12 20 := ⟨RX12, TX12, 75, rfl, in_X12_road_12, by decide, (List.mem_of_getElem? (i := 5) rfl), rfl⟩
theorem fg_X12_road_70 : aFl wsX12_road RX12 70 12 19 := ⟨RX12, TX12, 75, rfl, in_X12_road_12, by decide, (List.mem_of_getElem? (i := 4) rfl), rfl⟩
theorem fg_X12_road_23 : aFl wsX12_road RX12 23 12 4 := ⟨RX12, TX12, 75, rfl, in_X12_road_12, by decide, (List.mem_of_getElem? (i := 6) rfl), rfl⟩
set_option maxRecDepth 100000 in
set_option maxHeartbeats 4000000 in
theorem w_X12_road_239 {x : aC} {r : Int × Hp} (X : aX x cX12_road wsX12_road RX12 2 rm_X12_road) (E : aE x shM none 3 r) (σ : Hp) (h : F_M_road_239 σ = some r) : aS x shM 2 239 [] [] σ := by
  unfold F_M_road_239 at h
  exact A_return X E h dX12_road_239
set_option maxRecDepth 100000 in
set_option maxHeartbeats 4000000 in
theorem w_X12_road_202 {x : aC} {r : Int × Hp} (X : aX x cX12_road wsX12_road RX12 2 rm_X12_road) (E : aE x shM none 3 r) (x1 : Int) (σ : Hp) (h : F_M_road_202 x1 σ = some r) : aS x shM 2 202 [(0, vR 0), (1, vI x1)] [] σ := by
  unfold F_M_road_202 at h
  refine A_aload_n X 0 rfl rfl dX12_road_202 ?_
  refine A_getR X fg_X12_road_85 shM_0 (k := 24) rfl (by decide) dX12_road_203 ?_
  refine A_iload_n X 1 rfl rfl dX12_road_206 ?_
  refine A_aload_n X 0 rfl rfl dX12_road_207 ?_
  refine A_getI X fg_X12_road_104 shM_0 (k := 30) rfl (by decide) dX12_road_208 ?_
  obtain ⟨g1, h⟩ := gdD h
  refine A_iast X g1 shM_13 dX12_road_211 (fun s2 hy => ?_)
  replace h := ltD h s2 hy
  clear hy
  refine A_aload_n X 0 rfl rfl dX12_road_212 ?_
  refine A_getR X fg_X12_road_88 shM_0 (k := 25) rfl (by decide) dX12_road_213 ?_
  refine A_iload_n X 1 rfl rfl dX12_road_216 ?_
  refine A_iconst X dX12_road_217 (z := 0) (by decide) ?_
  obtain ⟨g3, h⟩ := gdD h
  refine A_iast X g3 shM_14 dX12_road_218 (fun s4 hy => ?_)
  replace h := ltD h s4 hy
  clear hy
  refine A_aload_n X 0 rfl rfl dX12_road_219 ?_
  refine A_getI X fg_X12_road_36 shM_0 (k := 8) rfl (by decide) dX12_road_220 ?_
  refine A_if_ne X (tgt := 239) (by decide) dX12_road_223 (fun c5 => ?_) (fun c5 => ?_)
  · replace h := ifF h c5
    refine A_sub [] rfl (L' := []) rfl ?_
    exact w_X12_road_239 X E s4 h
  · replace h := ifT h c5
    refine A_aload_n X 0 rfl rfl dX12_road_226 ?_
    refine A_getR X fg_X12_road_54 shM_0 (k := 14) rfl (by decide) dX12_road_227 ?_
    refine A_aload_n X 0 rfl rfl dX12_road_230 ?_
    refine A_getI X fg_X12_road_107 shM_0 (k := 31) rfl (by decide) dX12_road_231 ?_
    refine A_dup2 X (by show ¬ (0 : Nat) = 1; decide) (by show ¬ (2 : Nat) = 1; decide) dX12_road_234 ?_
    obtain ⟨g6, h⟩ := gdD h
    refine A_iald X g6 shM_3 dX12_road_235 ?_
    refine A_iconst X dX12_road_236 (z := 1) (by decide) ?_
    refine A_iadd X dX12_road_237 ?_
    obtain ⟨g7, h⟩ := gdD h
    refine A_iast X g7 shM_3 dX12_road_238 (fun s8 hy => ?_)
    replace h := ltD h s8 hy
    clear hy
    refine A_sub [] rfl (L' := []) rfl ?_
    exact w_X12_road_239 X E s8 h
set_option maxRecDepth 100000 in
set_option maxHeartbeats 4000000 in
theorem w_X12_road_134 {x : aC} {r : Int × Hp} (X : aX x cX12_road wsX12_road RX12 2 rm_X12_road) (E : aE x shM none 3 r) (x1 : Int) (σ : Hp) (h : F_M_road_134 x1 σ = some r) : aS x shM 2 134 [(0, vR 0), (1, vI x1)] [] σ := by
  unfold F_M_road_134 at h
  refine A_aload_n X 0 rfl rfl dX12_road_134 ?_
  refine A_ldc2 X (v := (512970880104)) (List.mem_of_getElem? (i := 7) rfl) dX12_road_135 (z := 512970880104) (by decide +kernel) ?_
  obtain ⟨v9, s10, e11, h⟩ := clD h
  refine A_callV_V (na := 1) X (m_X12_must_ e11) gX12_road_X12_must_ rfl ⟨rfl, rfl⟩ (by decide +kernel) rfl ⟨Nat.le_of_ble_eq_true rfl, Nat.le_of_ble_eq_true rfl⟩ shM_0 (by decide) rfl rfl (Nat.le_of_ble_eq_true rfl) dX12_road_138 ?_
  refine A_aload_n X 0 rfl rfl dX12_road_141 ?_
  refine A_getR X fg_X12_road_76 shM_0 (k := 21) rfl (by decide) dX12_road_142 ?_
  refine A_iload_n X 1 rfl rfl dX12_road_145 ?_
  refine A_aload_n X 0 rfl rfl dX12_road_146 ?_
  refine A_getI X fg_X12_road_104 shM_0 (k := 30) rfl (by decide) dX12_road_147 ?_
  obtain ⟨g12, h⟩ := gdD h
  refine A_iast X g12 shM_10 dX12_road_150 (fun s13 hy => ?_)
  replace h := ltD h s13 hy
  clear hy
  refine A_aload_n X 0 rfl rfl dX12_road_151 ?_
  refine A_iconst X dX12_road_152 (z := 0) (by decide) ?_
  obtain ⟨v14, s15, e16, h⟩ := clD h
  refine A_callV_V (na := 1) X (m_X12_reads e16) gX12_road_X12_reads rfl ⟨rfl, rfl⟩ (by decide +kernel) rfl ⟨Nat.le_of_ble_eq_true rfl, Nat.le_of_ble_eq_true rfl⟩ shM_0 (by decide) rfl rfl (Nat.le_of_ble_eq_true rfl) dX12_road_153 ?_
  refine A_aload_n X 0 rfl rfl dX12_road_156 ?_
  refine A_getR X fg_X12_road_79 shM_0 (k := 22) rfl (by decide) dX12_road_157 ?_
  refine A_iload_n X 1 rfl rfl dX12_road_160 ?_
  refine A_aload_n X 0 rfl rfl dX12_road_161 ?_
  refine A_getI X fg_X12_road_104 shM_0 (k := 30) rfl (by decide) dX12_road_162 ?_
  obtain ⟨g17, h⟩ := gdD h
  refine A_iast X g17 shM_11 dX12_road_165 (fun s18 hy => ?_)
  replace h := ltD h s18 hy
  clear hy
  refine A_aload_n X 0 rfl rfl dX12_road_166 ?_
  refine A_getR X fg_X12_road_82 shM_0 (k := 23) rfl (by decide) dX12_road_167 ?_
  refine A_iload_n X 1 rfl rfl dX12_road_170 ?_
  refine A_aload_n X 0 rfl rfl dX12_road_171 ?_
  refine A_getI X fg_X12_road_104 shM_0 (k := 30) rfl (by decide) dX12_road_172 ?_
  obtain ⟨g19, h⟩ := gdD h
  refine A_iast X g19 shM_12 dX12_road_175 (fun s20 hy => ?_)
  replace h := ltD h s20 hy
  clear hy
  refine A_aload_n X 0 rfl rfl dX12_road_176 ?_
  refine A_getI X fg_X12_road_36 shM_0 (k := 8) rfl (by decide) dX12_road_177 ?_
  refine A_if_ne X (tgt := 202) (by decide) dX12_road_180 (fun c21 => ?_) (fun c21 => ?_)
  · replace h := ifF h c21
    exact w_X12_road_202 X E x1 s20 h
  · replace h := ifT h c21
    refine A_aload_n X 0 rfl rfl dX12_road_183 ?_
    refine A_ldc2 X (v := (2003330414)) (List.mem_of_getElem? (i := 12) rfl) dX12_road_184 (z := 2003330414) (by decide +kernel) ?_
    obtain ⟨v22, s23, e24, h⟩ := clD h
    refine A_callV_I (na := 1) X (m_X12_isWord e24) gX12_road_X12_isWord rfl ⟨rfl, rfl⟩ (by decide +kernel) rfl ⟨Nat.le_of_ble_eq_true rfl, Nat.le_of_ble_eq_true rfl⟩ shM_0 (by decide) rfl rfl (Nat.le_of_ble_eq_true rfl) dX12_road_187 ?_
    refine A_if_eq X (tgt := 202) (by decide) dX12_road_190 (fun c25 => ?_) (fun c25 => ?_)
    · replace h := ifT h c25
      exact w_X12_road_202 X E x1 s23 h
    · replace h := ifF h c25
      refine A_aload_n X 0 rfl rfl dX12_road_193 ?_
      obtain ⟨v26, s27, e28, h⟩ := clD h
      refine A_callV_V (na := 0) X (m_X12_next e28) gX12_road_X12_next rfl ⟨rfl, rfl⟩ (by decide +kernel) rfl ⟨Nat.le_of_ble_eq_true rfl, Nat.le_of_ble_eq_true rfl⟩ shM_0 (by decide) rfl rfl (Nat.le_of_ble_eq_true rfl) dX12_road_194 ?_
      refine A_aload_n X 0 rfl rfl dX12_road_197 ?_
      refine A_iconst X dX12_road_198 (z := 1) (by decide) ?_
      obtain ⟨v29, s30, e31, h⟩ := clD h
      refine A_callV_V (na := 1) X (m_X12_reads e31) gX12_road_X12_reads rfl ⟨rfl, rfl⟩ (by decide +kernel) rfl ⟨Nat.le_of_ble_eq_true rfl, Nat.le_of_ble_eq_true rfl⟩ shM_0 (by decide) rfl rfl (Nat.le_of_ble_eq_true rfl) dX12_road_199 ?_
      exact w_X12_road_202 X E x1 s30 h
set_option maxRecDepth 100000 in
set_option maxHeartbeats 4000000 in
theorem w_X12_road_123 {x : aC} {r : Int × Hp} (X : aX x cX12_road wsX12_road RX12 2 rm_X12_road) (E : aE x shM none 3 r) (x1 : Int) (σ : Hp) (h : F_M_road_123 x1 σ = some r) : aS x shM 2 123 [(0, vR 0), (1, vI x1)] [] σ := by
  unfold F_M_road_123 at h
  refine A_aload_n X 0 rfl rfl dX12_road_123 ?_
  refine A_getI X fg_X12_road_36 shM_0 (k := 8) rfl (by decide) dX12_road_124 ?_
  refine A_if_ne X (tgt := 134) (by decide) dX12_road_127 (fun c32 => ?_) (fun c32 => ?_)
  · replace h := ifF h c32
    exact w_X12_road_134 X E x1 σ h
  · replace h := ifT h c32
    refine A_aload_n X 0 rfl rfl dX12_road_130 ?_
    obtain ⟨v33, s34, e35, h⟩ := clD h
    refine A_callV_V (na := 0) X (m_X12_next e35) gX12_road_X12_next rfl ⟨rfl, rfl⟩ (by decide +kernel) rfl ⟨Nat.le_of_ble_eq_true rfl, Nat.le_of_ble_eq_true rfl⟩ shM_0 (by decide) rfl rfl (Nat.le_of_ble_eq_true rfl) dX12_road_131 ?_
    exact w_X12_road_134 X E x1 s34 h
set_option maxRecDepth 100000 in
set_option maxHeartbeats 4000000 in
theorem w_X12_road_71 {x : aC} {r : Int × Hp} (X : aX x cX12_road wsX12_road RX12 2 rm_X12_road) (E : aE x shM none 3 r) (x1 : Int) (σ : Hp) (h : F_M_road_71 x1 σ = some r) : aS x shM 2 71 [(0, vR 0), (1, vI x1)] [] σ := by
  unfold F_M_road_71 at h
  refine A_aload_n X 0 rfl rfl dX12_road_71 ?_
  refine A_getR X fg_X12_road_73 shM_0 (k := 20) rfl (by decide) dX12_road_72 ?_
  refine A_iload_n X 1 rfl rfl dX12_road_75 ?_
  refine A_aload_n X 0 rfl rfl dX12_road_76 ?_
  refine A_aload_n X 0 rfl rfl dX12_road_77 ?_
  refine A_getR X fg_X12_road_70 shM_0 (k := 19) rfl (by decide) dX12_road_78 ?_
  refine A_iload_n X 1 rfl rfl dX12_road_81 ?_
  obtain ⟨g36, h⟩ := gdD h
  refine A_iald X g36 shM_8 dX12_road_82 ?_
  obtain ⟨v37, s38, e39, h⟩ := clD h
  refine A_callV_I (na := 1) X (m_X12_whoRead e39) gX12_road_X12_whoRead rfl ⟨rfl, rfl⟩ (by decide +kernel) rfl ⟨Nat.le_of_ble_eq_true rfl, Nat.le_of_ble_eq_true rfl⟩ shM_0 (by decide) rfl rfl (Nat.le_of_ble_eq_true rfl) dX12_road_83 ?_
  obtain ⟨g40, h⟩ := gdD h
  refine A_iast X g40 shM_9 dX12_road_86 (fun s41 hy => ?_)
  replace h := ltD h s41 hy
  clear hy
  refine A_aload_n X 0 rfl rfl dX12_road_87 ?_
  refine A_getI X fg_X12_road_36 shM_0 (k := 8) rfl (by decide) dX12_road_88 ?_
  refine A_if_ne X (tgt := 123) (by decide) dX12_road_91 (fun c42 => ?_) (fun c42 => ?_)
  · replace h := ifF h c42
    exact w_X12_road_123 X E x1 s41 h
  · replace h := ifT h c42
    refine A_aload_n X 0 rfl rfl dX12_road_94 ?_
    refine A_aload_n X 0 rfl rfl dX12_road_95 ?_
    refine A_getR X fg_X12_road_70 shM_0 (k := 19) rfl (by decide) dX12_road_96 ?_
    refine A_iload_n X 1 rfl rfl dX12_road_99 ?_
    obtain ⟨g43, h⟩ := gdD h
    refine A_iald X g43 shM_8 dX12_road_100 ?_
    refine A_aload_n X 0 rfl rfl dX12_road_101 ?_
    refine A_getR X fg_X12_road_73 shM_0 (k := 20) rfl (by decide) dX12_road_102 ?_
    refine A_iload_n X 1 rfl rfl dX12_road_105 ?_
    obtain ⟨g44, h⟩ := gdD h
    refine A_iald X g44 shM_9 dX12_road_106 ?_
    obtain ⟨v45, s46, e47, h⟩ := clD h
    refine A_callV_I (na := 2) X (m_X12_roadOf e47) gX12_road_X12_roadOf rfl ⟨rfl, rfl⟩ (by decide +kernel) rfl ⟨Nat.le_of_ble_eq_true rfl, Nat.le_of_ble_eq_true rfl⟩ shM_0 (by decide) rfl rfl (Nat.le_of_ble_eq_true rfl) dX12_road_107 ?_
    refine A_iconst X dX12_road_110 (z := (-1)) (by decide) ?_
    refine A_icmp_eq X (tgt := 123) (by decide) dX12_road_111 (fun c48 => ?_) (fun c48 => ?_)
    · replace h := ifT h c48
      exact w_X12_road_123 X E x1 s46 h
    · replace h := ifF h c48
      refine A_aload_n X 0 rfl rfl dX12_road_114 ?_
      refine A_iconst X dX12_road_115 (z := 2) (by decide) ?_
      refine A_aload_n X 0 rfl rfl dX12_road_116 ?_
      refine A_getI X fg_X12_road_23 shM_0 (k := 4) rfl (by decide) dX12_road_117 ?_
      obtain ⟨v49, s50, e51, h⟩ := clD h
      refine A_callV_V (na := 2) X (m_X12_blame e51) gX12_road_X12_blame rfl ⟨rfl, rfl⟩ (by decide +kernel) rfl ⟨Nat.le_of_ble_eq_true rfl, Nat.le_of_ble_eq_true rfl⟩ shM_0 (by decide) rfl rfl (Nat.le_of_ble_eq_true rfl) dX12_road_120 ?_
      exact w_X12_road_123 X E x1 s50 h
set_option maxRecDepth 100000 in
set_option maxHeartbeats 4000000 in
theorem w_X12_road_20 {x : aC} {r : Int × Hp} (X : aX x cX12_road wsX12_road RX12 2 rm_X12_road) (E : aE x shM none 3 r) (t2 : Int) (σ : Hp) (h : F_M_road_20 t2 σ = some r) : aS x shM 2 20 [(0, vR 0)] [vI t2, vR 0] σ := by
  unfold F_M_road_20 at h
  obtain ⟨v52, s53, e54, h⟩ := clD h
  refine A_callV_V (na := 1) X (m_X12_counts e54) gX12_road_X12_counts rfl ⟨rfl, rfl⟩ (by decide +kernel) rfl ⟨Nat.le_of_ble_eq_true rfl, Nat.le_of_ble_eq_true rfl⟩ shM_0 (by decide) rfl rfl (Nat.le_of_ble_eq_true rfl) dX12_road_20 ?_
  refine A_aload_n X 0 rfl rfl dX12_road_23 ?_
  refine A_getI X fg_X12_road_36 shM_0 (k := 8) rfl (by decide) dX12_road_24 ?_
  refine A_if_le X (tgt := 31) (by decide) dX12_road_27 (fun c55 => ?_) (fun c55 => ?_)
  · replace h := ifT h c55
    refine A_bipush X dX12_road_31 (z := 30) (by decide) ?_
    refine A_aload_n X 0 rfl rfl dX12_road_33 ?_
    refine A_getI X fg_X12_road_107 shM_0 (k := 31) rfl (by decide) dX12_road_34 ?_
    refine A_imul X dX12_road_37 ?_
    refine A_aload_n X 0 rfl rfl dX12_road_38 ?_
    refine A_getR X fg_X12_road_54 shM_0 (k := 14) rfl (by decide) dX12_road_39 ?_
    refine A_aload_n X 0 rfl rfl dX12_road_42 ?_
    refine A_getI X fg_X12_road_107 shM_0 (k := 31) rfl (by decide) dX12_road_43 ?_
    obtain ⟨g56, h⟩ := gdD h
    refine A_iald X g56 shM_3 dX12_road_46 ?_
    refine A_iadd X dX12_road_47 ?_
    refine A_istore_nN X (L' := fun y1_57 => [(1, vI y1_57), (0, vR 0)]) rfl (by decide) (fun _ => rfl) dX12_road_48 (fun y1_57 hy => ?_)
    replace h := ltD h y1_57 hy
    clear hy
    refine A_aload_n X 1 rfl rfl dX12_road_49 ?_
    refine A_getR X fg_X12_road_70 shM_0 (k := 19) rfl (by decide) dX12_road_50 ?_
    refine A_iload_n X 0 rfl rfl dX12_road_53 ?_
    refine A_aload_n X 1 rfl rfl dX12_road_54 ?_
    refine A_iconst X dX12_road_55 (z := (-1)) (by decide) ?_
    obtain ⟨v58, s59, e60, h⟩ := clD h
    refine A_callV_I (na := 1) X (m_X12_whoRead e60) gX12_road_X12_whoRead rfl ⟨rfl, rfl⟩ (by decide +kernel) rfl ⟨Nat.le_of_ble_eq_true rfl, Nat.le_of_ble_eq_true rfl⟩ shM_0 (by decide) rfl rfl (Nat.le_of_ble_eq_true rfl) dX12_road_56 ?_
    obtain ⟨g61, h⟩ := gdD h
    refine A_iast X g61 shM_8 dX12_road_59 (fun s62 hy => ?_)
    replace h := ltD h s62 hy
    clear hy
    refine A_aload_n X 1 rfl rfl dX12_road_60 ?_
    refine A_getI X fg_X12_road_36 shM_0 (k := 8) rfl (by decide) dX12_road_61 ?_
    refine A_if_ne X (tgt := 71) (by decide) dX12_road_64 (fun c63 => ?_) (fun c63 => ?_)
    · replace h := ifF h c63
      refine A_sub [1, 0] rfl (L' := [(0, vR 0), (1, vI y1_57)]) rfl ?_
      exact w_X12_road_71 X E y1_57 s62 h
    · replace h := ifT h c63
      refine A_aload_n X 1 rfl rfl dX12_road_67 ?_
      obtain ⟨v64, s65, e66, h⟩ := clD h
      refine A_callV_V (na := 0) X (m_X12_next e66) gX12_road_X12_next rfl ⟨rfl, rfl⟩ (by decide +kernel) rfl ⟨Nat.le_of_ble_eq_true rfl, Nat.le_of_ble_eq_true rfl⟩ shM_0 (by decide) rfl rfl (Nat.le_of_ble_eq_true rfl) dX12_road_68 ?_
      refine A_sub [1, 0] rfl (L' := [(0, vR 0), (1, vI y1_57)]) rfl ?_
      exact w_X12_road_71 X E y1_57 s65 h
  · replace h := ifF h c55
    exact A_return X E h dX12_road_30
set_option maxRecDepth 100000 in
set_option maxHeartbeats 4000000 in
theorem m_X12_road {l : Launch} {g : aG} {σ : Hp} {r : Int × Hp} (h : F_M_road σ = some r) : aMet l g shM yX12_road wsX12_road rm_X12_road [vR 0] σ 3 r := by
  unfold F_M_road at h
  refine aMet_of (bytes := cX12_road) (maxL := 2) (ret := none) (by decide +kernel) rfl (Nat.le_of_ble_eq_true rfl) ⟨rfl, rfl⟩ (fun x e1 e2 X E => ?_)
  subst e1; subst e2
  have X : aX x cX12_road wsX12_road RX12 2 rm_X12_road := X
  show aS x shM 2 0 [(0, vR 0)] [] σ
  refine A_aload_n X 0 rfl rfl dX12_road_0 ?_
  refine A_aload_n X 0 rfl rfl dX12_road_1 ?_
  refine A_getR X fg_X12_road_54 shM_0 (k := 14) rfl (by decide) dX12_road_2 ?_
  refine A_aload_n X 0 rfl rfl dX12_road_5 ?_
  refine A_getI X fg_X12_road_107 shM_0 (k := 31) rfl (by decide) dX12_road_6 ?_
  obtain ⟨g67, h⟩ := gdD h
  refine A_iald X g67 shM_3 dX12_road_9 ?_
  refine A_bipush X dX12_road_10 (z := 30) (by decide) ?_
  refine A_icmp_ne X (tgt := 19) (by decide) dX12_road_12 (fun c68 => ?_) (fun c68 => ?_)
  · replace h := ifF h c68
    refine A_iconst X dX12_road_19 (z := 0) (by decide) ?_
    exact w_X12_road_20 X E 0 σ h
  · replace h := ifT h c68
    refine A_iconst X dX12_road_15 (z := 1) (by decide) ?_
    refine A_goto X (tgt := 20) (by decide) dX12_road_16 ?_
    exact w_X12_road_20 X E 1 σ h
abbrev rm_X12_road_ : Room := { frames := 2, cells := 0, slots := 0, locals := 43 }
set_option maxRecDepth 100000 in
set_option maxHeartbeats 4000000 in
theorem w_X12_road__38 {x : aC} {r : Int × Hp} {a1 : Int} {a2 : Int} (X : aX x cX12_road_ wsX12_road_ RX12 3 rm_X12_road_) (E : aE x shM (some .int) 0 r) (t1 : Int) (σ : Hp) (h : F_M_road__38 a1 a2 t1 σ = some r) : aS x shM 3 38 [] [vI t1] σ := by
  unfold F_M_road__38 at h
  exact A_ireturn X E h dX12_road__38
set_option maxRecDepth 100000 in
set_option maxHeartbeats 4000000 in
theorem w_X12_road__17 {x : aC} {r : Int × Hp} {a1 : Int} {a2 : Int} (X : aX x cX12_road_ wsX12_road_ RX12 3 rm_X12_road_) (E : aE x shM (some .int) 0 r) (σ : Hp) (h : F_M_road__17 a1 a2 σ = some r) : aS x shM 3 17 [] [] σ := by
  unfold F_M_road__17 at h
  refine A_iconst X dX12_road__17 (z := (-1)) (by decide) ?_
  refine A_goto X (tgt := 38) (by decide) dX12_road__18 ?_
  exact w_X12_road__38 (a1 := a1) (a2 := a2) X E (-1) σ h
set_option maxRecDepth 100000 in
set_option maxHeartbeats 4000000 in
theorem m_X12_road_ {l : Launch} {g : aG} {a1 : Int} {a2 : Int} {σ : Hp} {r : Int × Hp} (h : F_M_road_ a1 a2 σ = some r) : aMet l g shM yX12_road_ wsX12_road_ rm_X12_road_ [vR 0, vI a1, vI a2] σ 0 r := by
  unfold F_M_road_ at h
  refine aMet_of (bytes := cX12_road_) (maxL := 3) (ret := (some .int)) (by decide +kernel) rfl (Nat.le_of_ble_eq_true rfl) ⟨rfl, rfl⟩ (fun x e1 e2 X E => ?_)
  subst e1; subst e2
  have X : aX x cX12_road_ wsX12_road_ RX12 3 rm_X12_road_ := X
  show aS x shM 3 0 [(0, vR 0), (1, vI a1), (2, vI a2)] [] σ
  refine A_aload_n X 0 rfl rfl dX12_road__0 ?_
  refine A_iload_n X 1 rfl rfl dX12_road__1 ?_
  obtain ⟨v1, s2, e3, h⟩ := clD h
  refine A_callV_I (na := 1) X (m_X12_isRoad e3) gX12_road__X12_isRoad rfl ⟨rfl, rfl⟩ (by decide +kernel) rfl ⟨Nat.le_of_ble_eq_true rfl, Nat.le_of_ble_eq_true rfl⟩ shM_0 (by decide) rfl rfl (Nat.le_of_ble_eq_true rfl) dX12_road__2 ?_
  refine A_if_eq X (tgt := 17) (by decide) dX12_road__5 (fun c4 => ?_) (fun c4 => ?_)
  · replace h := ifT h c4
    refine A_sub [] rfl (L' := []) rfl ?_
    exact w_X12_road__17 (a1 := a1) (a2 := a2) X E s2 h
  · replace h := ifF h c4
    refine A_iload_n X 2 rfl rfl dX12_road__8 ?_
    refine A_iconst X dX12_road__9 (z := 0) (by decide) ?_
    refine A_iconst X dX12_road__10 (z := 1) (by decide) ?_
    obtain ⟨v5, s6, e7, h⟩ := clD h
    refine A_callS_I (na := 3) X (m_X12_is e7) gX12_road__X12_is rfl ⟨rfl, rfl⟩ (by decide +kernel) rfl ⟨Nat.le_of_ble_eq_true rfl, Nat.le_of_ble_eq_true rfl⟩ rfl (Nat.le_of_ble_eq_true rfl) dX12_road__11 ?_
    refine A_if_ne X (tgt := 21) (by decide) dX12_road__14 (fun c8 => ?_) (fun c8 => ?_)
    · replace h := ifF h c8
      refine A_iload_n X 2 rfl rfl dX12_road__21 ?_
      refine A_if_ne X (tgt := 33) (by decide) dX12_road__22 (fun c9 => ?_) (fun c9 => ?_)
      · replace h := ifF h c9
        refine A_aload_n X 0 rfl rfl dX12_road__33 ?_
        refine A_iload_n X 1 rfl rfl dX12_road__34 ?_
        obtain ⟨v10, s11, e12, h⟩ := clD h
        refine A_callV_I (na := 1) X (m_X12_second e12) gX12_road__X12_second rfl ⟨rfl, rfl⟩ (by decide +kernel) rfl ⟨Nat.le_of_ble_eq_true rfl, Nat.le_of_ble_eq_true rfl⟩ shM_0 (by decide) rfl rfl (Nat.le_of_ble_eq_true rfl) dX12_road__35 ?_
        refine A_sub [] rfl (L' := []) rfl ?_
        exact w_X12_road__38 (a1 := a1) (a2 := a2) X E v10 s11 h
      · replace h := ifT h c9
        refine A_aload_n X 0 rfl rfl dX12_road__25 ?_
        refine A_iload_n X 1 rfl rfl dX12_road__26 ?_
        obtain ⟨v13, s14, e15, h⟩ := clD h
        refine A_callV_I (na := 1) X (m_X12_first e15) gX12_road__X12_first rfl ⟨rfl, rfl⟩ (by decide +kernel) rfl ⟨Nat.le_of_ble_eq_true rfl, Nat.le_of_ble_eq_true rfl⟩ shM_0 (by decide) rfl rfl (Nat.le_of_ble_eq_true rfl) dX12_road__27 ?_
        refine A_goto X (tgt := 38) (by decide) dX12_road__30 ?_
        refine A_sub [] rfl (L' := []) rfl ?_
        exact w_X12_road__38 (a1 := a1) (a2 := a2) X E v13 s14 h
    · replace h := ifT h c8
      refine A_sub [] rfl (L' := []) rfl ?_
      exact w_X12_road__17 (a1 := a1) (a2 := a2) X E s6 h
abbrev rm_X12_row : Room := { frames := 5, cells := 0, slots := 0, locals := 123 }
theorem in_X12_row_12 : ∀ w ∈ u_ws RX12 TX12 75, w ∈ wsX12_row := fun w h => List.mem_cons_of_mem _ (List.mem_append_right _ h)
theorem fg_X12_row_183 : aFl wsX12_row RX12 183 12 56 := ⟨RX12, TX12, 75, rfl, in_X12_row_12, by decide, (List.mem_of_getElem? (i := 1) rfl), rfl⟩
theorem fg_X12_row_186 : aFl wsX12_row RX12 186 12 57 := ⟨RX12, TX12, 75, rfl, in_X12_row_12, by decide, (List.mem_of_getElem? (i := 2) rfl), rfl⟩
set_option maxRecDepth 100000 in
set_option maxHeartbeats 4000000 in
theorem w_X12_row_32 {x : aC} {r : Int × Hp} {a1 : Int} (X : aX x cX12_row wsX12_row RX12 2 rm_X12_row) (E : aE x shM (some .int) 0 r) (t1 : Int) (σ : Hp) (h : F_M_row_32 a1 t1 σ = some r) : aS x shM 2 32 [] [vI t1] σ := by
  unfold F_M_row_32 at h
  exact A_ireturn X E h dX12_row_32
set_option maxRecDepth 100000 in
set_option maxHeartbeats 4000000 in
theorem w_X12_row_22 {x : aC} {r : Int × Hp} {a1 : Int} (X : aX x cX12_row wsX12_row RX12 2 rm_X12_row) (E : aE x shM (some .int) 0 r) (σ : Hp) (h : F_M_row_22 a1 σ = some r) : aS x shM 2 22 [] [] σ := by
  unfold F_M_row_22 at h
  refine A_iconst X dX12_row_22 (z := (-1)) (by decide) ?_
  refine A_goto X (tgt := 32) (by decide) dX12_row_23 ?_
  exact w_X12_row_32 (a1 := a1) X E (-1) σ h
set_option maxRecDepth 100000 in
set_option maxHeartbeats 4000000 in
theorem m_X12_row {l : Launch} {g : aG} {a1 : Int} {σ : Hp} {r : Int × Hp} (h : F_M_row a1 σ = some r) : aMet l g shM yX12_row wsX12_row rm_X12_row [vR 0, vI a1] σ 0 r := by
  unfold F_M_row at h
  refine aMet_of (bytes := cX12_row) (maxL := 2) (ret := (some .int)) (by decide +kernel) rfl (Nat.le_of_ble_eq_true rfl) ⟨rfl, rfl⟩ (fun x e1 e2 X E => ?_)
  subst e1; subst e2
  have X : aX x cX12_row wsX12_row RX12 2 rm_X12_row := X
  show aS x shM 2 0 [(0, vR 0), (1, vI a1)] [] σ
  refine A_aload_n X 0 rfl rfl dX12_row_0 ?_
  refine A_iconst X dX12_row_1 (z := (-1)) (by decide) ?_
  refine A_iconst X dX12_row_2 (z := 0) (by decide) ?_
  obtain ⟨v1, s2, e3, h⟩ := clD h
  refine A_callV_V (na := 2) X (m_X12_lays e3) gX12_row_X12_lays rfl ⟨rfl, rfl⟩ (by decide +kernel) rfl ⟨Nat.le_of_ble_eq_true rfl, Nat.le_of_ble_eq_true rfl⟩ shM_0 (by decide) rfl rfl (Nat.le_of_ble_eq_true rfl) dX12_row_3 ?_
  refine A_aload_n X 0 rfl rfl dX12_row_6 ?_
  obtain ⟨v4, s5, e6, h⟩ := clD h
  refine A_callV_V (na := 0) X (m_X12_finds e6) gX12_row_X12_finds rfl ⟨rfl, rfl⟩ (by decide +kernel) rfl ⟨Nat.le_of_ble_eq_true rfl, Nat.le_of_ble_eq_true rfl⟩ shM_0 (by decide) rfl rfl (Nat.le_of_ble_eq_true rfl) dX12_row_7 ?_
  refine A_iload_n X 1 rfl rfl dX12_row_10 ?_
  refine A_if_lt X (tgt := 22) (by decide) dX12_row_11 (fun c7 => ?_) (fun c7 => ?_)
  · replace h := ifT h c7
    refine A_sub [] rfl (L' := []) rfl ?_
    exact w_X12_row_22 (a1 := a1) X E s5 h
  · replace h := ifF h c7
    refine A_iload_n X 1 rfl rfl dX12_row_14 ?_
    refine A_aload_n X 0 rfl rfl dX12_row_15 ?_
    refine A_getI X fg_X12_row_183 shM_0 (k := 56) rfl (by decide) dX12_row_16 ?_
    refine A_icmp_lt X (tgt := 26) (by decide) dX12_row_19 (fun c8 => ?_) (fun c8 => ?_)
    · replace h := ifT h c8
      refine A_aload_n X 0 rfl rfl dX12_row_26 ?_
      refine A_getR X fg_X12_row_186 shM_0 (k := 57) rfl (by decide) dX12_row_27 ?_
      refine A_iload_n X 1 rfl rfl dX12_row_30 ?_
      obtain ⟨g9, h⟩ := gdD h
      refine A_iald X g9 shM_36 dX12_row_31 ?_
      refine A_sub [] rfl (L' := []) rfl ?_
      exact w_X12_row_32 (a1 := a1) X E (s5 36 a1.toNat) s5 h
    · replace h := ifF h c8
      refine A_sub [] rfl (L' := []) rfl ?_
      exact w_X12_row_22 (a1 := a1) X E s5 h
abbrev rm_X12_share : Room := { frames := 6, cells := 0, slots := 0, locals := 143 }
theorem in_X12_share_12 : ∀ w ∈ u_ws RX12 TX12 75, w ∈ wsX12_share := fun w h => List.mem_cons_of_mem _ (List.mem_append_right _ h)
theorem fg_X12_share_213 : aFl wsX12_share RX12 213 12 66 := ⟨RX12, TX12, 75, rfl, in_X12_share_12, by decide, (List.mem_of_getElem? (i := 2) rfl), rfl⟩
set_option maxRecDepth 100000 in
set_option maxHeartbeats 4000000 in
theorem m_X12_share {l : Launch} {g : aG} {a1 : Int} {σ : Hp} {r : Int × Hp} (h : F_M_share a1 σ = some r) : aMet l g shM yX12_share wsX12_share rm_X12_share [vR 0, vI a1] σ 0 r := by
  unfold F_M_share at h
  refine aMet_of (bytes := cX12_share) (maxL := 2) (ret := (some .int)) (by decide +kernel) rfl (Nat.le_of_ble_eq_true rfl) ⟨rfl, rfl⟩ (fun x e1 e2 X E => ?_)
  subst e1; subst e2
  have X : aX x cX12_share wsX12_share RX12 2 rm_X12_share := X
  show aS x shM 2 0 [(0, vR 0), (1, vI a1)] [] σ
  refine A_aload_n X 0 rfl rfl dX12_share_0 ?_
  refine A_iload_n X 1 rfl rfl dX12_share_1 ?_
  obtain ⟨v1, s2, e3, h⟩ := clD h
  refine A_callV_I (na := 1) X (m_X12_isWho e3) gX12_share_X12_isWho rfl ⟨rfl, rfl⟩ (by decide +kernel) rfl ⟨Nat.le_of_ble_eq_true rfl, Nat.le_of_ble_eq_true rfl⟩ shM_0 (by decide) rfl rfl (Nat.le_of_ble_eq_true rfl) dX12_share_2 ?_
  refine A_if_ne X (tgt := 12) (by decide) dX12_share_5 (fun c4 => ?_) (fun c4 => ?_)
  · replace h := ifF h c4
    refine A_aload_n X 0 rfl rfl dX12_share_12 ?_
    obtain ⟨v5, s6, e7, h⟩ := clD h
    refine A_callV_V (na := 0) X (m_X12_laysAll e7) gX12_share_X12_laysAll rfl ⟨rfl, rfl⟩ (by decide +kernel) rfl ⟨Nat.le_of_ble_eq_true rfl, Nat.le_of_ble_eq_true rfl⟩ shM_0 (by decide) rfl rfl (Nat.le_of_ble_eq_true rfl) dX12_share_13 ?_
    refine A_aload_n X 0 rfl rfl dX12_share_16 ?_
    refine A_getR X fg_X12_share_213 shM_0 (k := 66) rfl (by decide) dX12_share_17 ?_
    refine A_iload_n X 1 rfl rfl dX12_share_20 ?_
    obtain ⟨g8, h⟩ := gdD h
    refine A_lald X g8 shM_45 dX12_share_21 ?_
    refine A_l2i X dX12_share_22 ?_
    exact A_ireturn X E h dX12_share_23
  · replace h := ifT h c4
    refine A_ldcw X (v := (-2000000000)) (List.mem_of_getElem? (i := 1) rfl) dX12_share_8 (z := (-2000000000)) (by decide) ?_
    exact A_ireturn X E h dX12_share_11
abbrev rm_X12_who : Room := { frames := 3, cells := 0, slots := 0, locals := 69 }
theorem in_X12_who_12 : ∀ w ∈ u_ws RX12 TX12 75, w ∈ wsX12_who := fun w h => List.mem_cons_of_mem _ (List.mem_append_right _ h)
theorem fg_X12_who_36 : aFl wsX12_who RX12 36 12 8 := ⟨RX12, TX12, 75, rfl, in_X12_who_12, by decide, (List.mem_of_getElem? (i := 3) rfl), rfl⟩
theorem fg_X12_who_107 : aFl wsX12_who RX12 107 12 31 := ⟨RX12, TX12, 75, rfl, in_X12_who_12, by decide, (List.mem_of_getElem? (i := 2) rfl), rfl⟩
theorem fg_X12_who_51 : aFl wsX12_who RX12 51 12 13 := ⟨RX12, TX12, 75, rfl, in_X12_who_12, by decide, (List.mem_of_getElem? (i := 1) rfl), rfl⟩
theorem fg_X12_who_63 : aFl wsX12_who RX12 63 12 17 := ⟨RX12, TX12, 75, rfl, in_X12_who_12, by decide, (List.mem_of_getElem? (i := 7) rfl), rfl⟩
theorem fg_X12_who_32 : aFl wsX12_who RX12 32 12 7 := ⟨RX12, TX12, 75, rfl, in_X12_who_12, by decide, (List.mem_of_getElem? (i := 5) rfl), rfl⟩
theorem fg_X12_who_67 : aFl wsX12_who RX12 67 12 18 := ⟨RX12, TX12, 75, rfl, in_X12_who_12, by decide, (List.mem_of_getElem? (i := 9) rfl), rfl⟩
theorem fg_X12_who_23 : aFl wsX12_who RX12 23 12 4 := ⟨RX12, TX12, 75, rfl, in_X12_who_12, by decide, (List.mem_of_getElem? (i := 6) rfl), rfl⟩
theorem fg_X12_who_20 : aFl wsX12_who RX12 20 12 3 := ⟨RX12, TX12, 75, rfl, in_X12_who_12, by decide, (List.mem_of_getElem? (i := 4) rfl), rfl⟩
set_option maxRecDepth 100000 in
set_option maxHeartbeats 4000000 in
theorem w_X12_who_164 {x : aC} {r : Int × Hp} (X : aX x cX12_who wsX12_who RX12 2 rm_X12_who) (E : aE x shM none 3 r) (σ : Hp) (h : F_M_who_164 σ = some r) : aS x shM 2 164 [] [] σ := by
  unfold F_M_who_164 at h
  exact A_return X E h dX12_who_164
set_option maxRecDepth 100000 in
set_option maxHeartbeats 4000000 in
theorem w_X12_who_87 {x : aC} {r : Int × Hp} (X : aX x cX12_who wsX12_who RX12 2 rm_X12_who) (E : aE x shM none 3 r) (σ : Hp) (h : F_M_who_87 σ = some r) : aS x shM 2 87 [(0, vR 0)] [] σ := by
  unfold F_M_who_87 at h
  refine A_aload_n X 0 rfl rfl dX12_who_87 ?_
  refine A_getI X fg_X12_who_36 shM_0 (k := 8) rfl (by decide) dX12_who_88 ?_
  refine A_if_le X (tgt := 95) (by decide) dX12_who_91 (fun c1 => ?_) (fun c1 => ?_)
  · replace h := ifT h c1
    refine A_bipush X dX12_who_95 (z := 12) (by decide) ?_
    refine A_aload_n X 0 rfl rfl dX12_who_97 ?_
    refine A_getI X fg_X12_who_107 shM_0 (k := 31) rfl (by decide) dX12_who_98 ?_
    refine A_imul X dX12_who_101 ?_
    refine A_aload_n X 0 rfl rfl dX12_who_102 ?_
    refine A_getR X fg_X12_who_51 shM_0 (k := 13) rfl (by decide) dX12_who_103 ?_
    refine A_aload_n X 0 rfl rfl dX12_who_106 ?_
    refine A_getI X fg_X12_who_107 shM_0 (k := 31) rfl (by decide) dX12_who_107 ?_
    obtain ⟨g2, h⟩ := gdD h
    refine A_iald X g2 shM_2 dX12_who_110 ?_
    refine A_iadd X dX12_who_111 ?_
    refine A_istore_nN X (L' := fun y1_3 => [(1, vI y1_3), (0, vR 0)]) rfl (by decide) (fun _ => rfl) dX12_who_112 (fun y1_3 hy => ?_)
    replace h := ltD h y1_3 hy
    clear hy
    refine A_aload_n X 1 rfl rfl dX12_who_113 ?_
    refine A_getR X fg_X12_who_63 shM_0 (k := 17) rfl (by decide) dX12_who_114 ?_
    refine A_iload_n X 0 rfl rfl dX12_who_117 ?_
    refine A_aload_n X 1 rfl rfl dX12_who_118 ?_
    refine A_getL X fg_X12_who_32 shM_0 (k := 7) rfl (by decide) dX12_who_119 ?_
    obtain ⟨g4, h⟩ := gdD h
    refine A_last X g4 shM_6 dX12_who_122 (fun s5 hy => ?_)
    replace h := ltD h s5 hy
    clear hy
    refine A_aload_n X 1 rfl rfl dX12_who_123 ?_
    obtain ⟨v6, s7, e8, h⟩ := clD h
    refine A_callV_V (na := 0) X (m_X12_next e8) gX12_who_X12_next rfl ⟨rfl, rfl⟩ (by decide +kernel) rfl ⟨Nat.le_of_ble_eq_true rfl, Nat.le_of_ble_eq_true rfl⟩ shM_0 (by decide) rfl rfl (Nat.le_of_ble_eq_true rfl) dX12_who_124 ?_
    refine A_aload_n X 1 rfl rfl dX12_who_127 ?_
    refine A_ldc2 X (v := (418431069797)) (List.mem_of_getElem? (i := 8) rfl) dX12_who_128 (z := 418431069797) (by decide +kernel) ?_
    obtain ⟨v9, s10, e11, h⟩ := clD h
    refine A_callV_V (na := 1) X (m_X12_must_ e11) gX12_who_X12_must_ rfl ⟨rfl, rfl⟩ (by decide +kernel) rfl ⟨Nat.le_of_ble_eq_true rfl, Nat.le_of_ble_eq_true rfl⟩ shM_0 (by decide) rfl rfl (Nat.le_of_ble_eq_true rfl) dX12_who_131 ?_
    refine A_aload_n X 1 rfl rfl dX12_who_134 ?_
    refine A_getR X fg_X12_who_67 shM_0 (k := 18) rfl (by decide) dX12_who_135 ?_
    refine A_iload_n X 0 rfl rfl dX12_who_138 ?_
    refine A_aload_n X 1 rfl rfl dX12_who_139 ?_
    obtain ⟨v12, s13, e14, h⟩ := clD h
    refine A_callV_I (na := 0) X (m_X12_number e14) gX12_who_X12_number rfl ⟨rfl, rfl⟩ (by decide +kernel) rfl ⟨Nat.le_of_ble_eq_true rfl, Nat.le_of_ble_eq_true rfl⟩ shM_0 (by decide) rfl rfl (Nat.le_of_ble_eq_true rfl) dX12_who_140 ?_
    obtain ⟨g15, h⟩ := gdD h
    refine A_iast X g15 shM_7 dX12_who_143 (fun s16 hy => ?_)
    replace h := ltD h s16 hy
    clear hy
    refine A_aload_n X 1 rfl rfl dX12_who_144 ?_
    refine A_getI X fg_X12_who_36 shM_0 (k := 8) rfl (by decide) dX12_who_145 ?_
    refine A_if_ne X (tgt := 164) (by decide) dX12_who_148 (fun c17 => ?_) (fun c17 => ?_)
    · replace h := ifF h c17
      refine A_sub [] rfl (L' := []) rfl ?_
      exact w_X12_who_164 X E s16 h
    · replace h := ifT h c17
      refine A_aload_n X 1 rfl rfl dX12_who_151 ?_
      refine A_getR X fg_X12_who_51 shM_0 (k := 13) rfl (by decide) dX12_who_152 ?_
      refine A_aload_n X 1 rfl rfl dX12_who_155 ?_
      refine A_getI X fg_X12_who_107 shM_0 (k := 31) rfl (by decide) dX12_who_156 ?_
      refine A_dup2 X (by show ¬ (0 : Nat) = 1; decide) (by show ¬ (2 : Nat) = 1; decide) dX12_who_159 ?_
      obtain ⟨g18, h⟩ := gdD h
      refine A_iald X g18 shM_2 dX12_who_160 ?_
      refine A_iconst X dX12_who_161 (z := 1) (by decide) ?_
      refine A_iadd X dX12_who_162 ?_
      obtain ⟨g19, h⟩ := gdD h
      refine A_iast X g19 shM_2 dX12_who_163 (fun s20 hy => ?_)
      replace h := ltD h s20 hy
      clear hy
      refine A_sub [] rfl (L' := []) rfl ?_
      exact w_X12_who_164 X E s20 h
  · replace h := ifF h c1
    exact A_return X E h dX12_who_94
set_option maxRecDepth 100000 in
set_option maxHeartbeats 4000000 in
theorem w_X12_who_59 {x : aC} {r : Int × Hp} (X : aX x cX12_who wsX12_who RX12 2 rm_X12_who) (E : aE x shM none 3 r) (σ : Hp) (h : F_M_who_59 σ = some r) : aS x shM 2 59 [(0, vR 0)] [] σ := by
  unfold F_M_who_59 at h
  refine A_aload_n X 0 rfl rfl dX12_who_59 ?_
  refine A_getI X fg_X12_who_36 shM_0 (k := 8) rfl (by decide) dX12_who_60 ?_
  refine A_if_ne X (tgt := 87) (by decide) dX12_who_63 (fun c21 => ?_) (fun c21 => ?_)
  · replace h := ifF h c21
    exact w_X12_who_87 X E σ h
  · replace h := ifT h c21
    refine A_aload_n X 0 rfl rfl dX12_who_66 ?_
    refine A_aload_n X 0 rfl rfl dX12_who_67 ?_
    refine A_getL X fg_X12_who_32 shM_0 (k := 7) rfl (by decide) dX12_who_68 ?_
    obtain ⟨v22, s23, e24, h⟩ := clD h
    refine A_callV_I (na := 1) X (m_X12_whoOf e24) gX12_who_X12_whoOf rfl ⟨rfl, rfl⟩ (by decide +kernel) rfl ⟨Nat.le_of_ble_eq_true rfl, Nat.le_of_ble_eq_true rfl⟩ shM_0 (by decide) rfl rfl (Nat.le_of_ble_eq_true rfl) dX12_who_71 ?_
    refine A_iconst X dX12_who_74 (z := (-1)) (by decide) ?_
    refine A_icmp_eq X (tgt := 87) (by decide) dX12_who_75 (fun c25 => ?_) (fun c25 => ?_)
    · replace h := ifT h c25
      exact w_X12_who_87 X E s23 h
    · replace h := ifF h c25
      refine A_aload_n X 0 rfl rfl dX12_who_78 ?_
      refine A_iconst X dX12_who_79 (z := 2) (by decide) ?_
      refine A_aload_n X 0 rfl rfl dX12_who_80 ?_
      refine A_getI X fg_X12_who_23 shM_0 (k := 4) rfl (by decide) dX12_who_81 ?_
      obtain ⟨v26, s27, e28, h⟩ := clD h
      refine A_callV_V (na := 2) X (m_X12_blame e28) gX12_who_X12_blame rfl ⟨rfl, rfl⟩ (by decide +kernel) rfl ⟨Nat.le_of_ble_eq_true rfl, Nat.le_of_ble_eq_true rfl⟩ shM_0 (by decide) rfl rfl (Nat.le_of_ble_eq_true rfl) dX12_who_84 ?_
      exact w_X12_who_87 X E s27 h
set_option maxRecDepth 100000 in
set_option maxHeartbeats 4000000 in
theorem w_X12_who_50 {x : aC} {r : Int × Hp} (X : aX x cX12_who wsX12_who RX12 2 rm_X12_who) (E : aE x shM none 3 r) (σ : Hp) (h : F_M_who_50 σ = some r) : aS x shM 2 50 [(0, vR 0)] [] σ := by
  unfold F_M_who_50 at h
  refine A_aload_n X 0 rfl rfl dX12_who_50 ?_
  refine A_iconst X dX12_who_51 (z := 1) (by decide) ?_
  refine A_aload_n X 0 rfl rfl dX12_who_52 ?_
  refine A_getI X fg_X12_who_23 shM_0 (k := 4) rfl (by decide) dX12_who_53 ?_
  obtain ⟨v29, s30, e31, h⟩ := clD h
  refine A_callV_V (na := 2) X (m_X12_blame e31) gX12_who_X12_blame rfl ⟨rfl, rfl⟩ (by decide +kernel) rfl ⟨Nat.le_of_ble_eq_true rfl, Nat.le_of_ble_eq_true rfl⟩ shM_0 (by decide) rfl rfl (Nat.le_of_ble_eq_true rfl) dX12_who_56 ?_
  exact w_X12_who_59 X E s30 h
set_option maxRecDepth 100000 in
set_option maxHeartbeats 4000000 in
theorem w_X12_who_20 {x : aC} {r : Int × Hp} (X : aX x cX12_who wsX12_who RX12 2 rm_X12_who) (E : aE x shM none 3 r) (t2 : Int) (σ : Hp) (h : F_M_who_20 t2 σ = some r) : aS x shM 2 20 [(0, vR 0)] [vI t2, vR 0] σ := by
  unfold F_M_who_20 at h
  obtain ⟨v32, s33, e34, h⟩ := clD h
  refine A_callV_V (na := 1) X (m_X12_counts e34) gX12_who_X12_counts rfl ⟨rfl, rfl⟩ (by decide +kernel) rfl ⟨Nat.le_of_ble_eq_true rfl, Nat.le_of_ble_eq_true rfl⟩ shM_0 (by decide) rfl rfl (Nat.le_of_ble_eq_true rfl) dX12_who_20 ?_
  refine A_aload_n X 0 rfl rfl dX12_who_23 ?_
  refine A_getI X fg_X12_who_36 shM_0 (k := 8) rfl (by decide) dX12_who_24 ?_
  refine A_if_le X (tgt := 31) (by decide) dX12_who_27 (fun c35 => ?_) (fun c35 => ?_)
  · replace h := ifT h c35
    refine A_aload_n X 0 rfl rfl dX12_who_31 ?_
    refine A_getI X fg_X12_who_20 shM_0 (k := 3) rfl (by decide) dX12_who_32 ?_
    refine A_iconst X dX12_who_35 (z := 1) (by decide) ?_
    refine A_icmp_ne X (tgt := 50) (by decide) dX12_who_36 (fun c36 => ?_) (fun c36 => ?_)
    · replace h := ifF h c36
      exact w_X12_who_50 X E s33 h
    · replace h := ifT h c36
      refine A_aload_n X 0 rfl rfl dX12_who_39 ?_
      refine A_aload_n X 0 rfl rfl dX12_who_40 ?_
      refine A_getL X fg_X12_who_32 shM_0 (k := 7) rfl (by decide) dX12_who_41 ?_
      obtain ⟨v37, s38, e39, h⟩ := clD h
      refine A_callV_I (na := 1) X (m_X12_isOwn e39) gX12_who_X12_isOwn rfl ⟨rfl, rfl⟩ (by decide +kernel) rfl ⟨Nat.le_of_ble_eq_true rfl, Nat.le_of_ble_eq_true rfl⟩ shM_0 (by decide) rfl rfl (Nat.le_of_ble_eq_true rfl) dX12_who_44 ?_
      refine A_if_eq X (tgt := 59) (by decide) dX12_who_47 (fun c40 => ?_) (fun c40 => ?_)
      · replace h := ifT h c40
        exact w_X12_who_59 X E s38 h
      · replace h := ifF h c40
        exact w_X12_who_50 X E s38 h
  · replace h := ifF h c35
    exact A_return X E h dX12_who_30
set_option maxRecDepth 100000 in
set_option maxHeartbeats 4000000 in
theorem m_X12_who {l : Launch} {g : aG} {σ : Hp} {r : Int × Hp} (h : F_M_who σ = some r) : aMet l g shM yX12_who wsX12_who rm_X12_who [vR 0] σ 3 r := by
  unfold F_M_who at h
  refine aMet_of (bytes := cX12_who) (maxL := 2) (ret := none) (by decide +kernel) rfl (Nat.le_of_ble_eq_true rfl) ⟨rfl, rfl⟩ (fun x e1 e2 X E => ?_)
  subst e1; subst e2
  have X : aX x cX12_who wsX12_who RX12 2 rm_X12_who := X
  show aS x shM 2 0 [(0, vR 0)] [] σ
  refine A_aload_n X 0 rfl rfl dX12_who_0 ?_
  refine A_aload_n X 0 rfl rfl dX12_who_1 ?_
  refine A_getR X fg_X12_who_51 shM_0 (k := 13) rfl (by decide) dX12_who_2 ?_
  refine A_aload_n X 0 rfl rfl dX12_who_5 ?_
  refine A_getI X fg_X12_who_107 shM_0 (k := 31) rfl (by decide) dX12_who_6 ?_
  obtain ⟨g41, h⟩ := gdD h
  refine A_iald X g41 shM_2 dX12_who_9 ?_
  refine A_bipush X dX12_who_10 (z := 12) (by decide) ?_
  refine A_icmp_ne X (tgt := 19) (by decide) dX12_who_12 (fun c42 => ?_) (fun c42 => ?_)
  · replace h := ifF h c42
    refine A_iconst X dX12_who_19 (z := 0) (by decide) ?_
    exact w_X12_who_20 X E 0 σ h
  · replace h := ifT h c42
    refine A_iconst X dX12_who_15 (z := 1) (by decide) ?_
    refine A_goto X (tgt := 20) (by decide) dX12_who_16 ?_
    exact w_X12_who_20 X E 1 σ h
abbrev rm_X12_taste : Room := { frames := 3, cells := 0, slots := 0, locals := 68 }
theorem in_X12_taste_12 : ∀ w ∈ u_ws RX12 TX12 75, w ∈ wsX12_taste := fun w h => List.mem_cons_of_mem _ (List.mem_append_right _ h)
theorem fg_X12_taste_57 : aFl wsX12_taste RX12 57 12 15 := ⟨RX12, TX12, 75, rfl, in_X12_taste_12, by decide, (List.mem_of_getElem? (i := 1) rfl), rfl⟩
theorem fg_X12_taste_107 : aFl wsX12_taste RX12 107 12 31 := ⟨RX12, TX12, 75, rfl, in_X12_taste_12, by decide, (List.mem_of_getElem? (i := 2) rfl), rfl⟩
theorem fg_X12_taste_36 : aFl wsX12_taste RX12 36 12 8 := ⟨RX12, TX12, 75, rfl, in_X12_taste_12, by decide, (List.mem_of_getElem? (i := 3) rfl), rfl⟩
theorem fg_X12_taste_94 : aFl wsX12_taste RX12 94 12 27 := ⟨RX12, TX12, 75, rfl, in_X12_taste_12, by decide, (List.mem_of_getElem? (i := 4) rfl), rfl⟩
theorem fg_X12_taste_91 : aFl wsX12_taste RX12 91 12 26 := ⟨RX12, TX12, 75, rfl, in_X12_taste_12, by decide, (List.mem_of_getElem? (i := 7) rfl), rfl⟩
theorem fg_X12_taste_23 : aFl wsX12_taste RX12 23 12 4 := ⟨RX12, TX12, 75, rfl, in_X12_taste_12, by decide, (List.mem_of_getElem? (i := 5) rfl), rfl⟩
set_option maxRecDepth 100000 in
set_option maxHeartbeats 4000000 in
theorem w_X12_taste_178 {x : aC} {r : Int × Hp} (X : aX x cX12_taste wsX12_taste RX12 6 rm_X12_taste) (E : aE x shM none 3 r) (t3 : Int) (t2 : Int) (σ : Hp) (h : F_M_taste_178 t3 t2 σ = some r) : aS x shM 6 178 [(0, vR 0)] [vI t3, vI t2, vR 15] σ := by
  unfold F_M_taste_178 at h
  obtain ⟨g1, h⟩ := gdD h
  refine A_iast X g1 shM_15 dX12_taste_178 (fun s2 hy => ?_)
  replace h := ltD h s2 hy
  clear hy
  refine A_aload_n X 0 rfl rfl dX12_taste_179 ?_
  refine A_getR X fg_X12_taste_57 shM_0 (k := 15) rfl (by decide) dX12_taste_180 ?_
  refine A_aload_n X 0 rfl rfl dX12_taste_183 ?_
  refine A_getI X fg_X12_taste_107 shM_0 (k := 31) rfl (by decide) dX12_taste_184 ?_
  refine A_dup2 X (by show ¬ (0 : Nat) = 1; decide) (by show ¬ (2 : Nat) = 1; decide) dX12_taste_187 ?_
  obtain ⟨g3, h⟩ := gdD h
  refine A_iald X g3 shM_4 dX12_taste_188 ?_
  refine A_iconst X dX12_taste_189 (z := 1) (by decide) ?_
  refine A_iadd X dX12_taste_190 ?_
  obtain ⟨g4, h⟩ := gdD h
  refine A_iast X g4 shM_4 dX12_taste_191 (fun s5 hy => ?_)
  replace h := ltD h s5 hy
  clear hy
  exact A_return X E h dX12_taste_192
set_option maxRecDepth 100000 in
set_option maxHeartbeats 4000000 in
theorem w_X12_taste_139 {x : aC} {r : Int × Hp} (X : aX x cX12_taste wsX12_taste RX12 6 rm_X12_taste) (E : aE x shM none 3 r) (x3 : Int) (x4 : Int) (σ : Hp) (h : F_M_taste_139 x3 x4 σ = some r) : aS x shM 6 139 [(0, vR 0), (3, vI x3), (4, vI x4)] [] σ := by
  unfold F_M_taste_139 at h
  refine A_aload_n X 0 rfl rfl dX12_taste_139 ?_
  obtain ⟨v6, s7, e8, h⟩ := clD h
  refine A_callV_I (na := 0) X (m_X12_number e8) gX12_taste_X12_number rfl ⟨rfl, rfl⟩ (by decide +kernel) rfl ⟨Nat.le_of_ble_eq_true rfl, Nat.le_of_ble_eq_true rfl⟩ shM_0 (by decide) rfl rfl (Nat.le_of_ble_eq_true rfl) dX12_taste_140 ?_
  refine A_istore X (L' := [(5, vI v6), (0, vR 0), (3, vI x3), (4, vI x4)]) (by decide) rfl dX12_taste_143 ?_
  refine A_aload_n X 1 rfl rfl dX12_taste_145 ?_
  refine A_getI X fg_X12_taste_36 shM_0 (k := 8) rfl (by decide) dX12_taste_146 ?_
  refine A_if_le X (tgt := 153) (by decide) dX12_taste_149 (fun c9 => ?_) (fun c9 => ?_)
  · replace h := ifT h c9
    refine A_aload_n X 1 rfl rfl dX12_taste_153 ?_
    refine A_getR X fg_X12_taste_94 shM_0 (k := 27) rfl (by decide) dX12_taste_154 ?_
    refine A_iload_n X 2 rfl rfl dX12_taste_157 ?_
    refine A_iconst X dX12_taste_158 (z := 1) (by decide) ?_
    obtain ⟨g10, h⟩ := gdD h
    refine A_zast X g10 shM_16 dX12_taste_159 (fun s11 hy => ?_)
    replace h := ltD h s11 hy
    clear hy
    refine A_aload_n X 1 rfl rfl dX12_taste_160 ?_
    refine A_getR X fg_X12_taste_91 shM_0 (k := 26) rfl (by decide) dX12_taste_161 ?_
    refine A_iload_n X 2 rfl rfl dX12_taste_164 ?_
    refine A_iload X 3 rfl dX12_taste_165 ?_
    refine A_if_eq X (tgt := 176) (by decide) dX12_taste_167 (fun c12 => ?_) (fun c12 => ?_)
    · replace h := ifT h c12
      refine A_iload X 0 rfl dX12_taste_176 ?_
      refine A_sub [1] rfl (L' := [(0, vR 0)]) rfl ?_
      exact w_X12_taste_178 X E v6 x3 s11 h
    · replace h := ifF h c12
      refine A_iload X 0 rfl dX12_taste_170 ?_
      refine A_ineg X dX12_taste_172 ?_
      refine A_goto X (tgt := 178) (by decide) dX12_taste_173 ?_
      refine A_sub [1] rfl (L' := [(0, vR 0)]) rfl ?_
      exact w_X12_taste_178 X E (ineg v6) x3 s11 h
  · replace h := ifF h c9
    exact A_return X E h dX12_taste_152
set_option maxRecDepth 100000 in
set_option maxHeartbeats 4000000 in
theorem w_X12_taste_128 {x : aC} {r : Int × Hp} (X : aX x cX12_taste wsX12_taste RX12 6 rm_X12_taste) (E : aE x shM none 3 r) (x3 : Int) (t1 : Int) (σ : Hp) (h : F_M_taste_128 x3 t1 σ = some r) : aS x shM 6 128 [(0, vR 0), (3, vI x3)] [vI t1] σ := by
  unfold F_M_taste_128 at h
  refine A_istore X (L' := [(4, vI t1), (0, vR 0), (3, vI x3)]) (by decide) rfl dX12_taste_128 ?_
  refine A_iload X 0 rfl dX12_taste_130 ?_
  refine A_if_eq X (tgt := 139) (by decide) dX12_taste_132 (fun c13 => ?_) (fun c13 => ?_)
  · replace h := ifT h c13
    refine A_sub [1, 2, 0] rfl (L' := [(0, vR 0), (3, vI x3), (4, vI t1)]) rfl ?_
    exact w_X12_taste_139 X E x3 t1 σ h
  · replace h := ifF h c13
    refine A_aload_n X 1 rfl rfl dX12_taste_135 ?_
    obtain ⟨v14, s15, e16, h⟩ := clD h
    refine A_callV_V (na := 0) X (m_X12_next e16) gX12_taste_X12_next rfl ⟨rfl, rfl⟩ (by decide +kernel) rfl ⟨Nat.le_of_ble_eq_true rfl, Nat.le_of_ble_eq_true rfl⟩ shM_0 (by decide) rfl rfl (Nat.le_of_ble_eq_true rfl) dX12_taste_136 ?_
    refine A_sub [1, 2, 0] rfl (L' := [(0, vR 0), (3, vI x3), (4, vI t1)]) rfl ?_
    exact w_X12_taste_139 X E x3 t1 s15 h
set_option maxRecDepth 100000 in
set_option maxHeartbeats 4000000 in
theorem w_X12_taste_127 {x : aC} {r : Int × Hp} (X : aX x cX12_taste wsX12_taste RX12 6 rm_X12_taste) (E : aE x shM none 3 r) (x3 : Int) (σ : Hp) (h : F_M_taste_127 x3 σ = some r) : aS x shM 6 127 [(0, vR 0), (3, vI x3)] [] σ := by
  unfold F_M_taste_127 at h
  refine A_iconst X dX12_taste_127 (z := 0) (by decide) ?_
  exact w_X12_taste_128 X E x3 0 σ h
set_option maxRecDepth 100000 in
set_option maxHeartbeats 4000000 in
theorem w_X12_taste_106 {x : aC} {r : Int × Hp} (X : aX x cX12_taste wsX12_taste RX12 6 rm_X12_taste) (E : aE x shM none 3 r) (x3 : Int) (σ : Hp) (h : F_M_taste_106 x3 σ = some r) : aS x shM 6 106 [(0, vR 0), (3, vI x3)] [] σ := by
  unfold F_M_taste_106 at h
  refine A_aload_n X 0 rfl rfl dX12_taste_106 ?_
  refine A_getI X fg_X12_taste_36 shM_0 (k := 8) rfl (by decide) dX12_taste_107 ?_
  refine A_if_ne X (tgt := 127) (by decide) dX12_taste_110 (fun c17 => ?_) (fun c17 => ?_)
  · replace h := ifF h c17
    exact w_X12_taste_127 X E x3 σ h
  · replace h := ifT h c17
    refine A_aload_n X 0 rfl rfl dX12_taste_113 ?_
    refine A_ldc2 X (v := (1818588019)) (List.mem_of_getElem? (i := 6) rfl) dX12_taste_114 (z := 1818588019) (by decide +kernel) ?_
    obtain ⟨v18, s19, e20, h⟩ := clD h
    refine A_callV_I (na := 1) X (m_X12_isWord e20) gX12_taste_X12_isWord rfl ⟨rfl, rfl⟩ (by decide +kernel) rfl ⟨Nat.le_of_ble_eq_true rfl, Nat.le_of_ble_eq_true rfl⟩ shM_0 (by decide) rfl rfl (Nat.le_of_ble_eq_true rfl) dX12_taste_117 ?_
    refine A_if_eq X (tgt := 127) (by decide) dX12_taste_120 (fun c21 => ?_) (fun c21 => ?_)
    · replace h := ifT h c21
      exact w_X12_taste_127 X E x3 s19 h
    · replace h := ifF h c21
      refine A_iconst X dX12_taste_123 (z := 1) (by decide) ?_
      refine A_goto X (tgt := 128) (by decide) dX12_taste_124 ?_
      exact w_X12_taste_128 X E x3 1 s19 h
set_option maxRecDepth 100000 in
set_option maxHeartbeats 4000000 in
theorem w_X12_taste_95 {x : aC} {r : Int × Hp} (X : aX x cX12_taste wsX12_taste RX12 6 rm_X12_taste) (E : aE x shM none 3 r) (x3 : Int) (σ : Hp) (h : F_M_taste_95 x3 σ = some r) : aS x shM 6 95 [(0, vR 0), (3, vI x3)] [] σ := by
  unfold F_M_taste_95 at h
  refine A_aload_n X 0 rfl rfl dX12_taste_95 ?_
  refine A_getI X fg_X12_taste_36 shM_0 (k := 8) rfl (by decide) dX12_taste_96 ?_
  refine A_if_ne X (tgt := 106) (by decide) dX12_taste_99 (fun c22 => ?_) (fun c22 => ?_)
  · replace h := ifF h c22
    exact w_X12_taste_106 X E x3 σ h
  · replace h := ifT h c22
    refine A_aload_n X 0 rfl rfl dX12_taste_102 ?_
    obtain ⟨v23, s24, e25, h⟩ := clD h
    refine A_callV_V (na := 0) X (m_X12_next e25) gX12_taste_X12_next rfl ⟨rfl, rfl⟩ (by decide +kernel) rfl ⟨Nat.le_of_ble_eq_true rfl, Nat.le_of_ble_eq_true rfl⟩ shM_0 (by decide) rfl rfl (Nat.le_of_ble_eq_true rfl) dX12_taste_103 ?_
    exact w_X12_taste_106 X E x3 s24 h
set_option maxRecDepth 100000 in
set_option maxHeartbeats 4000000 in
theorem w_X12_taste_48 {x : aC} {r : Int × Hp} (X : aX x cX12_taste wsX12_taste RX12 6 rm_X12_taste) (E : aE x shM none 3 r) (x1 : Int) (σ : Hp) (h : F_M_taste_48 x1 σ = some r) : aS x shM 6 48 [(0, vR 0), (1, vI x1)] [] σ := by
  unfold F_M_taste_48 at h
  refine A_aload_n X 0 rfl rfl dX12_taste_48 ?_
  refine A_iload_n X 1 rfl rfl dX12_taste_49 ?_
  obtain ⟨v26, s27, e28, h⟩ := clD h
  refine A_callV_I (na := 1) X (m_X12_whoRead e28) gX12_taste_X12_whoRead rfl ⟨rfl, rfl⟩ (by decide +kernel) rfl ⟨Nat.le_of_ble_eq_true rfl, Nat.le_of_ble_eq_true rfl⟩ shM_0 (by decide) rfl rfl (Nat.le_of_ble_eq_true rfl) dX12_taste_50 ?_
  refine A_istore_n X (L' := [(2, vI v26), (0, vR 0), (1, vI x1)]) rfl (by decide) rfl dX12_taste_53 ?_
  refine A_sipush X dX12_taste_54 (z := 144) (by decide) ?_
  refine A_aload_n X 1 rfl rfl dX12_taste_57 ?_
  refine A_getI X fg_X12_taste_107 shM_0 (k := 31) rfl (by decide) dX12_taste_58 ?_
  refine A_imul X dX12_taste_61 ?_
  refine A_bipush X dX12_taste_62 (z := 12) (by decide) ?_
  refine A_iload_n X 2 rfl rfl dX12_taste_64 ?_
  refine A_imul X dX12_taste_65 ?_
  refine A_iadd X dX12_taste_66 ?_
  refine A_iload_n X 0 rfl rfl dX12_taste_67 ?_
  refine A_iadd X dX12_taste_68 ?_
  refine A_istore_nN X (L' := fun y3_29 => [(3, vI y3_29), (2, vI v26), (0, vR 0), (1, vI x1)]) rfl (by decide) (fun _ => rfl) dX12_taste_69 (fun y3_29 hy => ?_)
  replace h := ltD h y3_29 hy
  clear hy
  refine A_aload_n X 2 rfl rfl dX12_taste_70 ?_
  refine A_getI X fg_X12_taste_36 shM_0 (k := 8) rfl (by decide) dX12_taste_71 ?_
  refine A_if_ne X (tgt := 95) (by decide) dX12_taste_74 (fun c30 => ?_) (fun c30 => ?_)
  · replace h := ifF h c30
    refine A_sub [2, 0] rfl (L' := [(0, vR 0), (3, vI y3_29)]) rfl ?_
    exact w_X12_taste_95 X E y3_29 s27 h
  · replace h := ifT h c30
    refine A_aload_n X 2 rfl rfl dX12_taste_77 ?_
    refine A_getR X fg_X12_taste_94 shM_0 (k := 27) rfl (by decide) dX12_taste_78 ?_
    refine A_iload_n X 0 rfl rfl dX12_taste_81 ?_
    obtain ⟨g31, h⟩ := gdD h
    refine A_zald X g31 shM_16 dX12_taste_82 ?_
    refine A_if_eq X (tgt := 95) (by decide) dX12_taste_83 (fun c32 => ?_) (fun c32 => ?_)
    · replace h := ifT h c32
      refine A_sub [2, 0] rfl (L' := [(0, vR 0), (3, vI y3_29)]) rfl ?_
      exact w_X12_taste_95 X E y3_29 s27 h
    · replace h := ifF h c32
      refine A_aload_n X 2 rfl rfl dX12_taste_86 ?_
      refine A_iconst X dX12_taste_87 (z := 2) (by decide) ?_
      refine A_aload_n X 2 rfl rfl dX12_taste_88 ?_
      refine A_getI X fg_X12_taste_23 shM_0 (k := 4) rfl (by decide) dX12_taste_89 ?_
      obtain ⟨v33, s34, e35, h⟩ := clD h
      refine A_callV_V (na := 2) X (m_X12_blame e35) gX12_taste_X12_blame rfl ⟨rfl, rfl⟩ (by decide +kernel) rfl ⟨Nat.le_of_ble_eq_true rfl, Nat.le_of_ble_eq_true rfl⟩ shM_0 (by decide) rfl rfl (Nat.le_of_ble_eq_true rfl) dX12_taste_92 ?_
      refine A_sub [2, 0] rfl (L' := [(0, vR 0), (3, vI y3_29)]) rfl ?_
      exact w_X12_taste_95 X E y3_29 s34 h
set_option maxRecDepth 100000 in
set_option maxHeartbeats 4000000 in
theorem w_X12_taste_20 {x : aC} {r : Int × Hp} (X : aX x cX12_taste wsX12_taste RX12 6 rm_X12_taste) (E : aE x shM none 3 r) (t2 : Int) (σ : Hp) (h : F_M_taste_20 t2 σ = some r) : aS x shM 6 20 [(0, vR 0)] [vI t2, vR 0] σ := by
  unfold F_M_taste_20 at h
  obtain ⟨v36, s37, e38, h⟩ := clD h
  refine A_callV_V (na := 1) X (m_X12_counts e38) gX12_taste_X12_counts rfl ⟨rfl, rfl⟩ (by decide +kernel) rfl ⟨Nat.le_of_ble_eq_true rfl, Nat.le_of_ble_eq_true rfl⟩ shM_0 (by decide) rfl rfl (Nat.le_of_ble_eq_true rfl) dX12_taste_20 ?_
  refine A_aload_n X 0 rfl rfl dX12_taste_23 ?_
  refine A_getI X fg_X12_taste_36 shM_0 (k := 8) rfl (by decide) dX12_taste_24 ?_
  refine A_if_le X (tgt := 31) (by decide) dX12_taste_27 (fun c39 => ?_) (fun c39 => ?_)
  · replace h := ifT h c39
    refine A_aload_n X 0 rfl rfl dX12_taste_31 ?_
    refine A_iconst X dX12_taste_32 (z := (-1)) (by decide) ?_
    obtain ⟨v40, s41, e42, h⟩ := clD h
    refine A_callV_I (na := 1) X (m_X12_whoRead e42) gX12_taste_X12_whoRead rfl ⟨rfl, rfl⟩ (by decide +kernel) rfl ⟨Nat.le_of_ble_eq_true rfl, Nat.le_of_ble_eq_true rfl⟩ shM_0 (by decide) rfl rfl (Nat.le_of_ble_eq_true rfl) dX12_taste_33 ?_
    refine A_istore_n X (L' := [(1, vI v40), (0, vR 0)]) rfl (by decide) rfl dX12_taste_36 ?_
    refine A_aload_n X 1 rfl rfl dX12_taste_37 ?_
    refine A_getI X fg_X12_taste_36 shM_0 (k := 8) rfl (by decide) dX12_taste_38 ?_
    refine A_if_ne X (tgt := 48) (by decide) dX12_taste_41 (fun c43 => ?_) (fun c43 => ?_)
    · replace h := ifF h c43
      refine A_sub [1, 0] rfl (L' := [(0, vR 0), (1, vI v40)]) rfl ?_
      exact w_X12_taste_48 X E v40 s41 h
    · replace h := ifT h c43
      refine A_aload_n X 1 rfl rfl dX12_taste_44 ?_
      obtain ⟨v44, s45, e46, h⟩ := clD h
      refine A_callV_V (na := 0) X (m_X12_next e46) gX12_taste_X12_next rfl ⟨rfl, rfl⟩ (by decide +kernel) rfl ⟨Nat.le_of_ble_eq_true rfl, Nat.le_of_ble_eq_true rfl⟩ shM_0 (by decide) rfl rfl (Nat.le_of_ble_eq_true rfl) dX12_taste_45 ?_
      refine A_sub [1, 0] rfl (L' := [(0, vR 0), (1, vI v40)]) rfl ?_
      exact w_X12_taste_48 X E v40 s45 h
  · replace h := ifF h c39
    exact A_return X E h dX12_taste_30
set_option maxRecDepth 100000 in
set_option maxHeartbeats 4000000 in
theorem m_X12_taste {l : Launch} {g : aG} {σ : Hp} {r : Int × Hp} (h : F_M_taste σ = some r) : aMet l g shM yX12_taste wsX12_taste rm_X12_taste [vR 0] σ 3 r := by
  unfold F_M_taste at h
  refine aMet_of (bytes := cX12_taste) (maxL := 6) (ret := none) (by decide +kernel) rfl (Nat.le_of_ble_eq_true rfl) ⟨rfl, rfl⟩ (fun x e1 e2 X E => ?_)
  subst e1; subst e2
  have X : aX x cX12_taste wsX12_taste RX12 6 rm_X12_taste := X
  show aS x shM 6 0 [(0, vR 0)] [] σ
  refine A_aload_n X 0 rfl rfl dX12_taste_0 ?_
  refine A_aload_n X 0 rfl rfl dX12_taste_1 ?_
  refine A_getR X fg_X12_taste_57 shM_0 (k := 15) rfl (by decide) dX12_taste_2 ?_
  refine A_aload_n X 0 rfl rfl dX12_taste_5 ?_
  refine A_getI X fg_X12_taste_107 shM_0 (k := 31) rfl (by decide) dX12_taste_6 ?_
  obtain ⟨g47, h⟩ := gdD h
  refine A_iald X g47 shM_4 dX12_taste_9 ?_
  refine A_bipush X dX12_taste_10 (z := 24) (by decide) ?_
  refine A_icmp_ne X (tgt := 19) (by decide) dX12_taste_12 (fun c48 => ?_) (fun c48 => ?_)
  · replace h := ifF h c48
    refine A_iconst X dX12_taste_19 (z := 0) (by decide) ?_
    exact w_X12_taste_20 X E 0 σ h
  · replace h := ifT h c48
    refine A_iconst X dX12_taste_15 (z := 1) (by decide) ?_
    refine A_goto X (tgt := 20) (by decide) dX12_taste_16 ?_
    exact w_X12_taste_20 X E 1 σ h
abbrev rm_X12_statement : Room := { frames := 6, cells := 0, slots := 0, locals := 134 }
theorem in_X12_statement_12 : ∀ w ∈ u_ws RX12 TX12 75, w ∈ wsX12_statement := fun w h => List.mem_cons_of_mem _ (List.mem_append_right _ h)
theorem fg_X12_statement_36 : aFl wsX12_statement RX12 36 12 8 := ⟨RX12, TX12, 75, rfl, in_X12_statement_12, by decide, (List.mem_of_getElem? (i := 6) rfl), rfl⟩
theorem fg_X12_statement_23 : aFl wsX12_statement RX12 23 12 4 := ⟨RX12, TX12, 75, rfl, in_X12_statement_12, by decide, (List.mem_of_getElem? (i := 5) rfl), rfl⟩
set_option maxRecDepth 100000 in
set_option maxHeartbeats 4000000 in
theorem w_X12_statement_90 {x : aC} {r : Int × Hp} (X : aX x cX12_statement wsX12_statement RX12 1 rm_X12_statement) (E : aE x shM none 3 r) (σ : Hp) (h : F_M_statement_90 σ = some r) : aS x shM 1 90 [] [] σ := by
  unfold F_M_statement_90 at h
  exact A_return X E h dX12_statement_90
set_option maxRecDepth 100000 in
set_option maxHeartbeats 4000000 in
theorem w_X12_statement_77 {x : aC} {r : Int × Hp} (X : aX x cX12_statement wsX12_statement RX12 1 rm_X12_statement) (E : aE x shM none 3 r) (σ : Hp) (h : F_M_statement_77 σ = some r) : aS x shM 1 77 [(0, vR 0)] [] σ := by
  unfold F_M_statement_77 at h
  refine A_aload_n X 0 rfl rfl dX12_statement_77 ?_
  refine A_getI X fg_X12_statement_36 shM_0 (k := 8) rfl (by decide) dX12_statement_78 ?_
  refine A_if_ne X (tgt := 90) (by decide) dX12_statement_81 (fun c1 => ?_) (fun c1 => ?_)
  · replace h := ifF h c1
    refine A_sub [] rfl (L' := []) rfl ?_
    exact w_X12_statement_90 X E σ h
  · replace h := ifT h c1
    refine A_aload_n X 0 rfl rfl dX12_statement_84 ?_
    refine A_bipush X dX12_statement_85 (z := 59) (by decide) ?_
    obtain ⟨v2, s3, e4, h⟩ := clD h
    refine A_callV_V (na := 1) X (m_X12_must e4) gX12_statement_X12_must rfl ⟨rfl, rfl⟩ (by decide +kernel) rfl ⟨Nat.le_of_ble_eq_true rfl, Nat.le_of_ble_eq_true rfl⟩ shM_0 (by decide) rfl rfl (Nat.le_of_ble_eq_true rfl) dX12_statement_87 ?_
    refine A_sub [] rfl (L' := []) rfl ?_
    exact w_X12_statement_90 X E s3 h
set_option maxRecDepth 100000 in
set_option maxHeartbeats 4000000 in
theorem m_X12_statement {l : Launch} {g : aG} {σ : Hp} {r : Int × Hp} (h : F_M_statement σ = some r) : aMet l g shM yX12_statement wsX12_statement rm_X12_statement [vR 0] σ 3 r := by
  unfold F_M_statement at h
  refine aMet_of (bytes := cX12_statement) (maxL := 1) (ret := none) (by decide +kernel) rfl (Nat.le_of_ble_eq_true rfl) ⟨rfl, rfl⟩ (fun x e1 e2 X E => ?_)
  subst e1; subst e2
  have X : aX x cX12_statement wsX12_statement RX12 1 rm_X12_statement := X
  show aS x shM 1 0 [(0, vR 0)] [] σ
  refine A_aload_n X 0 rfl rfl dX12_statement_0 ?_
  refine A_ldc2 X (v := (7825519)) (List.mem_of_getElem? (i := 1) rfl) dX12_statement_1 (z := 7825519) (by decide +kernel) ?_
  obtain ⟨v5, s6, e7, h⟩ := clD h
  refine A_callV_I (na := 1) X (m_X12_isWord e7) gX12_statement_X12_isWord rfl ⟨rfl, rfl⟩ (by decide +kernel) rfl ⟨Nat.le_of_ble_eq_true rfl, Nat.le_of_ble_eq_true rfl⟩ shM_0 (by decide) rfl rfl (Nat.le_of_ble_eq_true rfl) dX12_statement_4 ?_
  refine A_if_eq X (tgt := 17) (by decide) dX12_statement_7 (fun c8 => ?_) (fun c8 => ?_)
  · replace h := ifT h c8
    refine A_aload_n X 0 rfl rfl dX12_statement_17 ?_
    refine A_ldc2 X (v := (1919902052)) (List.mem_of_getElem? (i := 2) rfl) dX12_statement_18 (z := 1919902052) (by decide +kernel) ?_
    obtain ⟨v9, s10, e11, h⟩ := clD h
    refine A_callV_I (na := 1) X (m_X12_isWord e11) gX12_statement_X12_isWord rfl ⟨rfl, rfl⟩ (by decide +kernel) rfl ⟨Nat.le_of_ble_eq_true rfl, Nat.le_of_ble_eq_true rfl⟩ shM_0 (by decide) rfl rfl (Nat.le_of_ble_eq_true rfl) dX12_statement_21 ?_
    refine A_if_eq X (tgt := 34) (by decide) dX12_statement_24 (fun c12 => ?_) (fun c12 => ?_)
    · replace h := ifT h c12
      refine A_aload_n X 0 rfl rfl dX12_statement_34 ?_
      refine A_ldc2 X (v := (499851162725)) (List.mem_of_getElem? (i := 3) rfl) dX12_statement_35 (z := 499851162725) (by decide +kernel) ?_
      obtain ⟨v13, s14, e15, h⟩ := clD h
      refine A_callV_I (na := 1) X (m_X12_isWord e15) gX12_statement_X12_isWord rfl ⟨rfl, rfl⟩ (by decide +kernel) rfl ⟨Nat.le_of_ble_eq_true rfl, Nat.le_of_ble_eq_true rfl⟩ shM_0 (by decide) rfl rfl (Nat.le_of_ble_eq_true rfl) dX12_statement_38 ?_
      refine A_if_eq X (tgt := 51) (by decide) dX12_statement_41 (fun c16 => ?_) (fun c16 => ?_)
      · replace h := ifT h c16
        refine A_aload_n X 0 rfl rfl dX12_statement_51 ?_
        refine A_ldc2 X (v := (431366693492)) (List.mem_of_getElem? (i := 4) rfl) dX12_statement_52 (z := 431366693492) (by decide +kernel) ?_
        obtain ⟨v17, s18, e19, h⟩ := clD h
        refine A_callV_I (na := 1) X (m_X12_isWord e19) gX12_statement_X12_isWord rfl ⟨rfl, rfl⟩ (by decide +kernel) rfl ⟨Nat.le_of_ble_eq_true rfl, Nat.le_of_ble_eq_true rfl⟩ shM_0 (by decide) rfl rfl (Nat.le_of_ble_eq_true rfl) dX12_statement_55 ?_
        refine A_if_eq X (tgt := 68) (by decide) dX12_statement_58 (fun c20 => ?_) (fun c20 => ?_)
        · replace h := ifT h c20
          refine A_aload_n X 0 rfl rfl dX12_statement_68 ?_
          refine A_iconst X dX12_statement_69 (z := 1) (by decide) ?_
          refine A_aload_n X 0 rfl rfl dX12_statement_70 ?_
          refine A_getI X fg_X12_statement_23 shM_0 (k := 4) rfl (by decide) dX12_statement_71 ?_
          obtain ⟨v21, s22, e23, h⟩ := clD h
          refine A_callV_V (na := 2) X (m_X12_blame e23) gX12_statement_X12_blame rfl ⟨rfl, rfl⟩ (by decide +kernel) rfl ⟨Nat.le_of_ble_eq_true rfl, Nat.le_of_ble_eq_true rfl⟩ shM_0 (by decide) rfl rfl (Nat.le_of_ble_eq_true rfl) dX12_statement_74 ?_
          exact w_X12_statement_77 X E s22 h
        · replace h := ifF h c20
          refine A_aload_n X 0 rfl rfl dX12_statement_61 ?_
          obtain ⟨v24, s25, e26, h⟩ := clD h
          refine A_callV_V (na := 0) X (m_X12_doubt e26) gX12_statement_X12_doubt rfl ⟨rfl, rfl⟩ (by decide +kernel) rfl ⟨Nat.le_of_ble_eq_true rfl, Nat.le_of_ble_eq_true rfl⟩ shM_0 (by decide) rfl rfl (Nat.le_of_ble_eq_true rfl) dX12_statement_62 ?_
          refine A_goto X (tgt := 77) (by decide) dX12_statement_65 ?_
          exact w_X12_statement_77 X E s25 h
      · replace h := ifF h c16
        refine A_aload_n X 0 rfl rfl dX12_statement_44 ?_
        obtain ⟨v27, s28, e29, h⟩ := clD h
        refine A_callV_V (na := 0) X (m_X12_taste e29) gX12_statement_X12_taste rfl ⟨rfl, rfl⟩ (by decide +kernel) rfl ⟨Nat.le_of_ble_eq_true rfl, Nat.le_of_ble_eq_true rfl⟩ shM_0 (by decide) rfl rfl (Nat.le_of_ble_eq_true rfl) dX12_statement_45 ?_
        refine A_goto X (tgt := 77) (by decide) dX12_statement_48 ?_
        exact w_X12_statement_77 X E s28 h
    · replace h := ifF h c12
      refine A_aload_n X 0 rfl rfl dX12_statement_27 ?_
      obtain ⟨v30, s31, e32, h⟩ := clD h
      refine A_callV_V (na := 0) X (m_X12_road e32) gX12_statement_X12_road rfl ⟨rfl, rfl⟩ (by decide +kernel) rfl ⟨Nat.le_of_ble_eq_true rfl, Nat.le_of_ble_eq_true rfl⟩ shM_0 (by decide) rfl rfl (Nat.le_of_ble_eq_true rfl) dX12_statement_28 ?_
      refine A_goto X (tgt := 77) (by decide) dX12_statement_31 ?_
      exact w_X12_statement_77 X E s31 h
  · replace h := ifF h c8
    refine A_aload_n X 0 rfl rfl dX12_statement_10 ?_
    obtain ⟨v33, s34, e35, h⟩ := clD h
    refine A_callV_V (na := 0) X (m_X12_who e35) gX12_statement_X12_who rfl ⟨rfl, rfl⟩ (by decide +kernel) rfl ⟨Nat.le_of_ble_eq_true rfl, Nat.le_of_ble_eq_true rfl⟩ shM_0 (by decide) rfl rfl (Nat.le_of_ble_eq_true rfl) dX12_statement_11 ?_
    refine A_goto X (tgt := 77) (by decide) dX12_statement_14 ?_
    exact w_X12_statement_77 X E s34 h
abbrev rm_X12_surely : Room := { frames := 6, cells := 0, slots := 0, locals := 143 }
theorem in_X12_surely_12 : ∀ w ∈ u_ws RX12 TX12 75, w ∈ wsX12_surely := fun w h => List.mem_cons_of_mem _ (List.mem_append_right _ h)
theorem fg_X12_surely_54 : aFl wsX12_surely RX12 54 12 14 := ⟨RX12, TX12, 75, rfl, in_X12_surely_12, by decide, (List.mem_of_getElem? (i := 1) rfl), rfl⟩
theorem fg_X12_surely_48 : aFl wsX12_surely RX12 48 12 12 := ⟨RX12, TX12, 75, rfl, in_X12_surely_12, by decide, (List.mem_of_getElem? (i := 2) rfl), rfl⟩
theorem fg_X12_surely_162 : aFl wsX12_surely RX12 162 12 49 := ⟨RX12, TX12, 75, rfl, in_X12_surely_12, by decide, (List.mem_of_getElem? (i := 3) rfl), rfl⟩
theorem fg_X12_surely_204 : aFl wsX12_surely RX12 204 12 63 := ⟨RX12, TX12, 75, rfl, in_X12_surely_12, by decide, (List.mem_of_getElem? (i := 4) rfl), rfl⟩
theorem fg_X12_surely_213 : aFl wsX12_surely RX12 213 12 66 := ⟨RX12, TX12, 75, rfl, in_X12_surely_12, by decide, (List.mem_of_getElem? (i := 5) rfl), rfl⟩
theorem fg_X12_surely_165 : aFl wsX12_surely RX12 165 12 50 := ⟨RX12, TX12, 75, rfl, in_X12_surely_12, by decide, (List.mem_of_getElem? (i := 6) rfl), rfl⟩
theorem fg_X12_surely_88 : aFl wsX12_surely RX12 88 12 25 := ⟨RX12, TX12, 75, rfl, in_X12_surely_12, by decide, (List.mem_of_getElem? (i := 7) rfl), rfl⟩
set_option maxRecDepth 100000 in
set_option maxHeartbeats 4000000 in
theorem w_X12_surely_140 {x : aC} {r : Int × Hp} {k18 : Int × Int × Hp → Option (Int × Hp)} (X : aX x cX12_surely wsX12_surely RX12 5 rm_X12_surely) (E : aE x shM (some .int) 0 r) (hk18 : ∀ (x1 : Int) (x2 : Int) (σ : Hp), k18 (x1, x2, σ) = some r → aS x shM 5 18 [(0, vR 0), (1, vI x1), (2, vI x2)] [] σ) (x1 : Int) (x2 : Int) (σ : Hp) (h : F_M_surely_140 k18 x1 x2 σ = some r) : aS x shM 5 140 [(0, vR 0), (1, vI x1), (2, vI x2)] [] σ := by
  unfold F_M_surely_140 at h
  refine A_iinc X (L' := fun y2_1 => [(2, vI y2_1), (0, vR 0), (1, vI x1)]) 2 rfl (by decide) (fun _ => rfl) dX12_surely_140 (by decide) (fun y2_1 hy => ?_)
  replace h := ltD h y2_1 hy
  clear hy
  refine A_goto X (tgt := 18) (by decide) dX12_surely_143 ?_
  refine A_sub [1, 2, 0] rfl (L' := [(0, vR 0), (1, vI x1), (2, vI y2_1)]) rfl ?_
  exact hk18 x1 y2_1 σ h
set_option maxRecDepth 100000 in
set_option maxHeartbeats 4000000 in
theorem w_X12_surely_139 {x : aC} {r : Int × Hp} {k18 : Int × Int × Hp → Option (Int × Hp)} (X : aX x cX12_surely wsX12_surely RX12 5 rm_X12_surely) (E : aE x shM (some .int) 0 r) (hk18 : ∀ (x1 : Int) (x2 : Int) (σ : Hp), k18 (x1, x2, σ) = some r → aS x shM 5 18 [(0, vR 0), (1, vI x1), (2, vI x2)] [] σ) (x2 : Int) (t1 : Int) (σ : Hp) (h : F_M_surely_139 k18 x2 t1 σ = some r) : aS x shM 5 139 [(0, vR 0), (2, vI x2)] [vI t1] σ := by
  unfold F_M_surely_139 at h
  refine A_istore_n X (L' := [(1, vI t1), (0, vR 0), (2, vI x2)]) rfl (by decide) rfl dX12_surely_139 ?_
  refine A_sub [1, 0, 2] rfl (L' := [(0, vR 0), (1, vI t1), (2, vI x2)]) rfl ?_
  exact w_X12_surely_140 X E hk18 t1 x2 σ h
set_option maxRecDepth 100000 in
set_option maxHeartbeats 4000000 in
theorem w_X12_surely_138 {x : aC} {r : Int × Hp} {k18 : Int × Int × Hp → Option (Int × Hp)} (X : aX x cX12_surely wsX12_surely RX12 5 rm_X12_surely) (E : aE x shM (some .int) 0 r) (hk18 : ∀ (x1 : Int) (x2 : Int) (σ : Hp), k18 (x1, x2, σ) = some r → aS x shM 5 18 [(0, vR 0), (1, vI x1), (2, vI x2)] [] σ) (x2 : Int) (σ : Hp) (h : F_M_surely_138 k18 x2 σ = some r) : aS x shM 5 138 [(0, vR 0), (2, vI x2)] [] σ := by
  unfold F_M_surely_138 at h
  refine A_iconst X dX12_surely_138 (z := 0) (by decide) ?_
  exact w_X12_surely_139 X E hk18 x2 0 σ h
set_option maxRecDepth 100000 in
set_option maxHeartbeats 4000000 in
theorem w_X12_surely_155 {x : aC} {r : Int × Hp} (X : aX x cX12_surely wsX12_surely RX12 5 rm_X12_surely) (E : aE x shM (some .int) 0 r) (t1 : Int) (σ : Hp) (h : F_M_surely_155 t1 σ = some r) : aS x shM 5 155 [] [vI t1] σ := by
  unfold F_M_surely_155 at h
  exact A_ireturn X E h dX12_surely_155
set_option maxRecDepth 100000 in
set_option maxHeartbeats 4000000 in
theorem w_X12_surely_18_b {x : aC} {r : Int × Hp} {k18 : Int × Int × Hp → Option (Int × Hp)} (X : aX x cX12_surely wsX12_surely RX12 5 rm_X12_surely) (E : aE x shM (some .int) 0 r) (hk18 : ∀ (x1 : Int) (x2 : Int) (σ : Hp), k18 (x1, x2, σ) = some r → aS x shM 5 18 [(0, vR 0), (1, vI x1), (2, vI x2)] [] σ) (x1 : Int) (x2 : Int) (σ : Hp) (h : F_M_surely_18_b k18 x1 x2 σ = some r) : aS x shM 5 18 [(0, vR 0), (1, vI x1), (2, vI x2)] [] σ := by
  unfold F_M_surely_18_b at h
  refine A_iload_n X 2 rfl rfl dX12_surely_18 ?_
  refine A_aload_n X 0 rfl rfl dX12_surely_19 ?_
  refine A_getR X fg_X12_surely_54 shM_0 (k := 14) rfl (by decide) dX12_surely_20 ?_
  refine A_aload_n X 0 rfl rfl dX12_surely_23 ?_
  refine A_getI X fg_X12_surely_48 shM_0 (k := 12) rfl (by decide) dX12_surely_24 ?_
  obtain ⟨g2, h⟩ := gdD h
  refine A_iald X g2 shM_3 dX12_surely_27 ?_
  refine A_icmp_ge X (tgt := 146) (by decide) dX12_surely_28 (fun c3 => ?_) (fun c3 => ?_)
  · replace h := ifT h c3
    refine A_iload_n X 1 rfl rfl dX12_surely_146 ?_
    refine A_if_eq X (tgt := 154) (by decide) dX12_surely_147 (fun c4 => ?_) (fun c4 => ?_)
    · replace h := ifT h c4
      refine A_iconst X dX12_surely_154 (z := 1) (by decide) ?_
      refine A_sub [] rfl (L' := []) rfl ?_
      exact w_X12_surely_155 X E 1 σ h
    · replace h := ifF h c4
      refine A_iconst X dX12_surely_150 (z := 2) (by decide) ?_
      refine A_goto X (tgt := 155) (by decide) dX12_surely_151 ?_
      refine A_sub [] rfl (L' := []) rfl ?_
      exact w_X12_surely_155 X E 2 σ h
  · replace h := ifF h c3
    refine A_aload_n X 0 rfl rfl dX12_surely_31 ?_
    refine A_getR X fg_X12_surely_162 shM_0 (k := 49) rfl (by decide) dX12_surely_32 ?_
    refine A_iload_n X 2 rfl rfl dX12_surely_35 ?_
    obtain ⟨g5, h⟩ := gdD h
    refine A_zald X g5 shM_29 dX12_surely_36 ?_
    refine A_if_eq X (tgt := 140) (by decide) dX12_surely_37 (fun c6 => ?_) (fun c6 => ?_)
    · replace h := ifT h c6
      exact w_X12_surely_140 X E hk18 x1 x2 σ h
    · replace h := ifF h c6
      refine A_aload_n X 0 rfl rfl dX12_surely_40 ?_
      refine A_getR X fg_X12_surely_204 shM_0 (k := 63) rfl (by decide) dX12_surely_41 ?_
      refine A_iload_n X 2 rfl rfl dX12_surely_44 ?_
      obtain ⟨g7, h⟩ := gdD h
      refine A_zald X g7 shM_42 dX12_surely_45 ?_
      refine A_if_eq X (tgt := 52) (by decide) dX12_surely_46 (fun c8 => ?_) (fun c8 => ?_)
      · replace h := ifT h c8
        refine A_aload_n X 0 rfl rfl dX12_surely_52 ?_
        refine A_getR X fg_X12_surely_213 shM_0 (k := 66) rfl (by decide) dX12_surely_53 ?_
        refine A_aload_n X 0 rfl rfl dX12_surely_56 ?_
        refine A_iload_n X 2 rfl rfl dX12_surely_57 ?_
        obtain ⟨v9, s10, e11, h⟩ := clD h
        refine A_callV_I (na := 1) X (m_X12_first e11) gX12_surely_X12_first rfl ⟨rfl, rfl⟩ (by decide +kernel) rfl ⟨Nat.le_of_ble_eq_true rfl, Nat.le_of_ble_eq_true rfl⟩ shM_0 (by decide) rfl rfl (Nat.le_of_ble_eq_true rfl) dX12_surely_58 ?_
        obtain ⟨g12, h⟩ := gdD h
        refine A_lald X g12 shM_45 dX12_surely_61 ?_
        refine A_aload_n X 0 rfl rfl dX12_surely_62 ?_
        refine A_getR X fg_X12_surely_213 shM_0 (k := 66) rfl (by decide) dX12_surely_63 ?_
        refine A_aload_n X 0 rfl rfl dX12_surely_66 ?_
        refine A_iload_n X 2 rfl rfl dX12_surely_67 ?_
        obtain ⟨v13, s14, e15, h⟩ := clD h
        refine A_callV_I (na := 1) X (m_X12_second e15) gX12_surely_X12_second rfl ⟨rfl, rfl⟩ (by decide +kernel) rfl ⟨Nat.le_of_ble_eq_true rfl, Nat.le_of_ble_eq_true rfl⟩ shM_0 (by decide) rfl rfl (Nat.le_of_ble_eq_true rfl) dX12_surely_68 ?_
        obtain ⟨g16, h⟩ := gdD h
        refine A_lald X g16 shM_45 dX12_surely_71 ?_
        refine A_ladd X dX12_surely_72 ?_
        refine A_lstore_nN X (L' := fun y3_17 => [(3, vL y3_17), (0, vR 0), (1, vI x1), (2, vI x2)]) rfl (by decide) (fun _ => rfl) dX12_surely_73 (fun y3_17 hy => ?_)
        replace h := ltD h y3_17 hy
        clear hy
        refine A_lload_n X 0 rfl rfl dX12_surely_74 ?_
        refine A_aload_n X 1 rfl rfl dX12_surely_75 ?_
        refine A_getR X fg_X12_surely_165 shM_0 (k := 50) rfl (by decide) dX12_surely_76 ?_
        refine A_iload_n X 3 rfl rfl dX12_surely_79 ?_
        obtain ⟨g18, h⟩ := gdD h
        refine A_iald X g18 shM_30 dX12_surely_80 ?_
        refine A_aload_n X 1 rfl rfl dX12_surely_81 ?_
        refine A_getR X fg_X12_surely_88 shM_0 (k := 25) rfl (by decide) dX12_surely_82 ?_
        refine A_bipush X dX12_surely_85 (z := 30) (by decide) ?_
        refine A_aload_n X 1 rfl rfl dX12_surely_87 ?_
        refine A_getI X fg_X12_surely_48 shM_0 (k := 12) rfl (by decide) dX12_surely_88 ?_
        refine A_imul X dX12_surely_91 ?_
        refine A_iload_n X 3 rfl rfl dX12_surely_92 ?_
        refine A_iadd X dX12_surely_93 ?_
        obtain ⟨g19, h⟩ := gdD h
        refine A_iald X g19 shM_14 dX12_surely_94 ?_
        refine A_isub X dX12_surely_95 ?_
        refine A_i2l X dX12_surely_96 ?_
        refine A_lcmp X dX12_surely_97 ?_
        refine A_if_ge X (tgt := 103) (by decide) dX12_surely_98 (fun c20 => ?_) (fun c20 => ?_)
        · replace h := ifT h c20
          refine A_iload_n X 2 rfl rfl dX12_surely_103 ?_
          refine A_if_eq X (tgt := 138) (by decide) dX12_surely_104 (fun c21 => ?_) (fun c21 => ?_)
          · replace h := ifT h c21
            refine A_sub [1, 3] rfl (L' := [(0, vR 0), (2, vI x2)]) rfl ?_
            exact w_X12_surely_138 X E hk18 x2 s14 h
          · replace h := ifF h c21
            refine A_lload_n X 0 rfl rfl dX12_surely_107 ?_
            refine A_aload_n X 1 rfl rfl dX12_surely_108 ?_
            refine A_getR X fg_X12_surely_165 shM_0 (k := 50) rfl (by decide) dX12_surely_109 ?_
            refine A_iload_n X 3 rfl rfl dX12_surely_112 ?_
            obtain ⟨g22, h⟩ := gdD h
            refine A_iald X g22 shM_30 dX12_surely_113 ?_
            refine A_aload_n X 1 rfl rfl dX12_surely_114 ?_
            refine A_getR X fg_X12_surely_88 shM_0 (k := 25) rfl (by decide) dX12_surely_115 ?_
            refine A_bipush X dX12_surely_118 (z := 30) (by decide) ?_
            refine A_aload_n X 1 rfl rfl dX12_surely_120 ?_
            refine A_getI X fg_X12_surely_48 shM_0 (k := 12) rfl (by decide) dX12_surely_121 ?_
            refine A_imul X dX12_surely_124 ?_
            refine A_iload_n X 3 rfl rfl dX12_surely_125 ?_
            refine A_iadd X dX12_surely_126 ?_
            obtain ⟨g23, h⟩ := gdD h
            refine A_iald X g23 shM_14 dX12_surely_127 ?_
            refine A_iadd X dX12_surely_128 ?_
            refine A_i2l X dX12_surely_129 ?_
            refine A_lcmp X dX12_surely_130 ?_
            refine A_if_lt X (tgt := 138) (by decide) dX12_surely_131 (fun c24 => ?_) (fun c24 => ?_)
            · replace h := ifT h c24
              refine A_sub [1, 3] rfl (L' := [(0, vR 0), (2, vI x2)]) rfl ?_
              exact w_X12_surely_138 X E hk18 x2 s14 h
            · replace h := ifF h c24
              refine A_iconst X dX12_surely_134 (z := 1) (by decide) ?_
              refine A_goto X (tgt := 139) (by decide) dX12_surely_135 ?_
              refine A_sub [1, 3] rfl (L' := [(0, vR 0), (2, vI x2)]) rfl ?_
              exact w_X12_surely_139 X E hk18 x2 1 s14 h
        · replace h := ifF h c20
          refine A_iconst X dX12_surely_101 (z := 0) (by decide) ?_
          exact A_ireturn X E h dX12_surely_102
      · replace h := ifF h c8
        refine A_goto X (tgt := 140) (by decide) dX12_surely_49 ?_
        exact w_X12_surely_140 X E hk18 x1 x2 σ h
set_option maxRecDepth 100000 in
set_option maxHeartbeats 4000000 in
theorem w_X12_surely_18 {x : aC} {r : Int × Hp} (X : aX x cX12_surely wsX12_surely RX12 5 rm_X12_surely) (E : aE x shM (some .int) 0 r) : ∀ (n : Nat) (x1 : Int) (x2 : Int) (σ : Hp) (h : F_M_surely_18 n (x1, x2, σ) = some r), aS x shM 5 18 [(0, vR 0), (1, vI x1), (2, vI x2)] [] σ := by
  intro n
  induction n with
  | zero => intro x1 x2 σ h; cases h
  | succ n ih => intro x1 x2 σ h; exact w_X12_surely_18_b (k18 := F_M_surely_18 n) X E ih x1 x2 σ h
set_option maxRecDepth 100000 in
set_option maxHeartbeats 4000000 in
theorem m_X12_surely {l : Launch} {g : aG} {σ : Hp} {r : Int × Hp} (h : F_M_surely σ = some r) : aMet l g shM yX12_surely wsX12_surely rm_X12_surely [vR 0] σ 0 r := by
  unfold F_M_surely at h
  refine aMet_of (bytes := cX12_surely) (maxL := 5) (ret := (some .int)) (by decide +kernel) rfl (Nat.le_of_ble_eq_true rfl) ⟨rfl, rfl⟩ (fun x e1 e2 X E => ?_)
  subst e1; subst e2
  have X : aX x cX12_surely wsX12_surely RX12 5 rm_X12_surely := X
  show aS x shM 5 0 [(0, vR 0)] [] σ
  refine A_aload_n X 0 rfl rfl dX12_surely_0 ?_
  obtain ⟨v25, s26, e27, h⟩ := clD h
  refine A_callV_V (na := 0) X (m_X12_laysAll e27) gX12_surely_X12_laysAll rfl ⟨rfl, rfl⟩ (by decide +kernel) rfl ⟨Nat.le_of_ble_eq_true rfl, Nat.le_of_ble_eq_true rfl⟩ shM_0 (by decide) rfl rfl (Nat.le_of_ble_eq_true rfl) dX12_surely_1 ?_
  refine A_aload_n X 0 rfl rfl dX12_surely_4 ?_
  obtain ⟨v28, s29, e30, h⟩ := clD h
  refine A_callV_I (na := 0) X (m_X12_lone e30) gX12_surely_X12_lone rfl ⟨rfl, rfl⟩ (by decide +kernel) rfl ⟨Nat.le_of_ble_eq_true rfl, Nat.le_of_ble_eq_true rfl⟩ shM_0 (by decide) rfl rfl (Nat.le_of_ble_eq_true rfl) dX12_surely_5 ?_
  refine A_iconst X dX12_surely_8 (z := (-1)) (by decide) ?_
  refine A_icmp_eq X (tgt := 14) (by decide) dX12_surely_9 (fun c31 => ?_) (fun c31 => ?_)
  · replace h := ifT h c31
    refine A_iconst X dX12_surely_14 (z := 1) (by decide) ?_
    refine A_istore_n X (L' := [(1, vI 1), (0, vR 0)]) rfl (by decide) rfl dX12_surely_15 ?_
    refine A_iconst X dX12_surely_16 (z := 0) (by decide) ?_
    refine A_istore_n X (L' := [(2, vI 0), (1, vI 1), (0, vR 0)]) rfl (by decide) rfl dX12_surely_17 ?_
    refine A_sub [2, 1, 0] rfl (L' := [(0, vR 0), (1, vI 1), (2, vI 0)]) rfl ?_
    exact w_X12_surely_18 X E FU 1 0 s29 h
  · replace h := ifF h c31
    refine A_iconst X dX12_surely_12 (z := 0) (by decide) ?_
    exact A_ireturn X E h dX12_surely_13
abbrev rm_X12_text : Room := { frames := 7, cells := 0, slots := 0, locals := 154 }
theorem in_X12_text_12 : ∀ w ∈ u_ws RX12 TX12 75, w ∈ wsX12_text := fun w h => List.mem_cons_of_mem _ (List.mem_append_right _ h)
theorem fg_X12_text_204 : aFl wsX12_text RX12 204 12 63 := ⟨RX12, TX12, 75, rfl, in_X12_text_12, by decide, (List.mem_of_getElem? (i := 20) rfl), rfl⟩
theorem fg_X12_text_36 : aFl wsX12_text RX12 36 12 8 := ⟨RX12, TX12, 75, rfl, in_X12_text_12, by decide, (List.mem_of_getElem? (i := 4) rfl), rfl⟩
theorem fp_X12_text_42 : aFp wsX12_text RX12 42 12 10 .int := ⟨RX12, TX12, 75, tyX12, rfl, in_X12_text_12, by decide, (List.mem_of_getElem? (i := 16) rfl), rfl, tyX12_ok, nmX12, rfl, rfl⟩
theorem fg_X12_text_39 : aFl wsX12_text RX12 39 12 9 := ⟨RX12, TX12, 75, rfl, in_X12_text_12, by decide, (List.mem_of_getElem? (i := 5) rfl), rfl⟩
theorem fp_X12_text_45 : aFp wsX12_text RX12 45 12 11 .int := ⟨RX12, TX12, 75, tyX12, rfl, in_X12_text_12, by decide, (List.mem_of_getElem? (i := 17) rfl), rfl, tyX12_ok, nmX12, rfl, rfl⟩
theorem fg_X12_text_107 : aFl wsX12_text RX12 107 12 31 := ⟨RX12, TX12, 75, rfl, in_X12_text_12, by decide, (List.mem_of_getElem? (i := 7) rfl), rfl⟩
theorem fp_X12_text_48 : aFp wsX12_text RX12 48 12 12 .int := ⟨RX12, TX12, 75, tyX12, rfl, in_X12_text_12, by decide, (List.mem_of_getElem? (i := 6) rfl), rfl, tyX12_ok, nmX12, rfl, rfl⟩
theorem fp_X12_text_144 : aFp wsX12_text RX12 144 12 43 .int := ⟨RX12, TX12, 75, tyX12, rfl, in_X12_text_12, by decide, (List.mem_of_getElem? (i := 18) rfl), rfl, tyX12_ok, nmX12, rfl, rfl⟩
theorem fp_X12_text_147 : aFp wsX12_text RX12 147 12 44 .int := ⟨RX12, TX12, 75, tyX12, rfl, in_X12_text_12, by decide, (List.mem_of_getElem? (i := 19) rfl), rfl, tyX12_ok, nmX12, rfl, rfl⟩
theorem fg_X12_text_20 : aFl wsX12_text RX12 20 12 3 := ⟨RX12, TX12, 75, rfl, in_X12_text_12, by decide, (List.mem_of_getElem? (i := 15) rfl), rfl⟩
theorem fg_X12_text_91 : aFl wsX12_text RX12 91 12 26 := ⟨RX12, TX12, 75, rfl, in_X12_text_12, by decide, (List.mem_of_getElem? (i := 13) rfl), rfl⟩
theorem fg_X12_text_94 : aFl wsX12_text RX12 94 12 27 := ⟨RX12, TX12, 75, rfl, in_X12_text_12, by decide, (List.mem_of_getElem? (i := 14) rfl), rfl⟩
theorem fg_X12_text_13 : aFl wsX12_text RX12 13 12 1 := ⟨RX12, TX12, 75, rfl, in_X12_text_12, by decide, (List.mem_of_getElem? (i := 1) rfl), rfl⟩
theorem fp_X12_text_17 : aFp wsX12_text RX12 17 12 2 .int := ⟨RX12, TX12, 75, tyX12, rfl, in_X12_text_12, by decide, (List.mem_of_getElem? (i := 2) rfl), rfl, tyX12_ok, nmX12, rfl, rfl⟩
theorem fp_X12_text_13 : aFp wsX12_text RX12 13 12 1 .int := ⟨RX12, TX12, 75, tyX12, rfl, in_X12_text_12, by decide, (List.mem_of_getElem? (i := 1) rfl), rfl, tyX12_ok, nmX12, rfl, rfl⟩
theorem fp_X12_text_26 : aFp wsX12_text RX12 26 12 5 .int := ⟨RX12, TX12, 75, tyX12, rfl, in_X12_text_12, by decide, (List.mem_of_getElem? (i := 3) rfl), rfl, tyX12_ok, nmX12, rfl, rfl⟩
theorem fp_X12_text_36 : aFp wsX12_text RX12 36 12 8 .int := ⟨RX12, TX12, 75, tyX12, rfl, in_X12_text_12, by decide, (List.mem_of_getElem? (i := 4) rfl), rfl, tyX12_ok, nmX12, rfl, rfl⟩
theorem fp_X12_text_39 : aFp wsX12_text RX12 39 12 9 .int := ⟨RX12, TX12, 75, tyX12, rfl, in_X12_text_12, by decide, (List.mem_of_getElem? (i := 5) rfl), rfl, tyX12_ok, nmX12, rfl, rfl⟩
theorem fg_X12_text_48 : aFl wsX12_text RX12 48 12 12 := ⟨RX12, TX12, 75, rfl, in_X12_text_12, by decide, (List.mem_of_getElem? (i := 6) rfl), rfl⟩
theorem fp_X12_text_107 : aFp wsX12_text RX12 107 12 31 .int := ⟨RX12, TX12, 75, tyX12, rfl, in_X12_text_12, by decide, (List.mem_of_getElem? (i := 7) rfl), rfl, tyX12_ok, nmX12, rfl, rfl⟩
theorem fg_X12_text_51 : aFl wsX12_text RX12 51 12 13 := ⟨RX12, TX12, 75, rfl, in_X12_text_12, by decide, (List.mem_of_getElem? (i := 8) rfl), rfl⟩
theorem fg_X12_text_54 : aFl wsX12_text RX12 54 12 14 := ⟨RX12, TX12, 75, rfl, in_X12_text_12, by decide, (List.mem_of_getElem? (i := 9) rfl), rfl⟩
theorem fg_X12_text_57 : aFl wsX12_text RX12 57 12 15 := ⟨RX12, TX12, 75, rfl, in_X12_text_12, by decide, (List.mem_of_getElem? (i := 10) rfl), rfl⟩
theorem fg_X12_text_60 : aFl wsX12_text RX12 60 12 16 := ⟨RX12, TX12, 75, rfl, in_X12_text_12, by decide, (List.mem_of_getElem? (i := 11) rfl), rfl⟩
theorem fp_X12_text_104 : aFp wsX12_text RX12 104 12 30 .int := ⟨RX12, TX12, 75, tyX12, rfl, in_X12_text_12, by decide, (List.mem_of_getElem? (i := 12) rfl), rfl, tyX12_ok, nmX12, rfl, rfl⟩
set_option maxRecDepth 100000 in
set_option maxHeartbeats 4000000 in
theorem w_X12_text_203_b {x : aC} {r : Int × Hp} {k203 : Int × Int × Hp → Option (Int × Hp)} (X : aX x cX12_text wsX12_text RX12 3 rm_X12_text) (E : aE x shM (some .int) 0 r) (hk203 : ∀ (x1 : Int) (x2 : Int) (σ : Hp), k203 (x1, x2, σ) = some r → aS x shM 3 203 [(0, vR 0), (1, vI x1), (2, vI x2)] [] σ) (x1 : Int) (x2 : Int) (σ : Hp) (h : F_M_text_203_b k203 x1 x2 σ = some r) : aS x shM 3 203 [(0, vR 0), (1, vI x1), (2, vI x2)] [] σ := by
  unfold F_M_text_203_b at h
  refine A_iload_n X 2 rfl rfl dX12_text_203 ?_
  refine A_bipush X dX12_text_204 (z := 30) (by decide) ?_
  refine A_icmp_ge X (tgt := 222) (by decide) dX12_text_206 (fun c1 => ?_) (fun c1 => ?_)
  · replace h := ifT h c1
    refine A_iload_n X 1 rfl rfl dX12_text_222 ?_
    exact A_ireturn X E h dX12_text_223
  · replace h := ifF h c1
    refine A_aload_n X 0 rfl rfl dX12_text_209 ?_
    refine A_getR X fg_X12_text_204 shM_0 (k := 63) rfl (by decide) dX12_text_210 ?_
    refine A_iload_n X 2 rfl rfl dX12_text_213 ?_
    refine A_iconst X dX12_text_214 (z := 0) (by decide) ?_
    obtain ⟨g2, h⟩ := gdD h
    refine A_zast X g2 shM_42 dX12_text_215 (fun s3 hy => ?_)
    replace h := ltD h s3 hy
    clear hy
    refine A_iinc X (L' := fun y2_4 => [(2, vI y2_4), (0, vR 0), (1, vI x1)]) 2 rfl (by decide) (fun _ => rfl) dX12_text_216 (by decide) (fun y2_4 hy => ?_)
    replace h := ltD h y2_4 hy
    clear hy
    refine A_goto X (tgt := 203) (by decide) dX12_text_219 ?_
    refine A_sub [1, 2, 0] rfl (L' := [(0, vR 0), (1, vI x1), (2, vI y2_4)]) rfl ?_
    exact hk203 x1 y2_4 s3 h
set_option maxRecDepth 100000 in
set_option maxHeartbeats 4000000 in
theorem w_X12_text_203 {x : aC} {r : Int × Hp} (X : aX x cX12_text wsX12_text RX12 3 rm_X12_text) (E : aE x shM (some .int) 0 r) : ∀ (n : Nat) (x1 : Int) (x2 : Int) (σ : Hp) (h : F_M_text_203 n (x1, x2, σ) = some r), aS x shM 3 203 [(0, vR 0), (1, vI x1), (2, vI x2)] [] σ := by
  intro n
  induction n with
  | zero => intro x1 x2 σ h; cases h
  | succ n ih => intro x1 x2 σ h; exact w_X12_text_203_b (k203 := F_M_text_203 n) X E ih x1 x2 σ h
set_option maxRecDepth 100000 in
set_option maxHeartbeats 4000000 in
theorem w_X12_text_158 {x : aC} {r : Int × Hp} (X : aX x cX12_text wsX12_text RX12 3 rm_X12_text) (E : aE x shM (some .int) 0 r) (x1 : Int) (σ : Hp) (h : F_M_text_158 x1 σ = some r) : aS x shM 3 158 [(0, vR 0), (1, vI x1)] [] σ := by
  unfold F_M_text_158 at h
  refine A_aload_n X 0 rfl rfl dX12_text_158 ?_
  refine A_aload_n X 0 rfl rfl dX12_text_159 ?_
  refine A_getI X fg_X12_text_36 shM_0 (k := 8) rfl (by decide) dX12_text_160 ?_
  refine A_putI X fp_X12_text_42 shM_0 (k := 10) rfl (by decide) dX12_text_163 (fun s5 hy => ?_)
  replace h := ltD h s5 hy
  clear hy
  refine A_aload_n X 0 rfl rfl dX12_text_166 ?_
  refine A_aload_n X 0 rfl rfl dX12_text_167 ?_
  refine A_getI X fg_X12_text_39 shM_0 (k := 9) rfl (by decide) dX12_text_168 ?_
  refine A_putI X fp_X12_text_45 shM_0 (k := 11) rfl (by decide) dX12_text_171 (fun s6 hy => ?_)
  replace h := ltD h s6 hy
  clear hy
  refine A_aload_n X 0 rfl rfl dX12_text_174 ?_
  refine A_getI X fg_X12_text_36 shM_0 (k := 8) rfl (by decide) dX12_text_175 ?_
  refine A_if_le X (tgt := 183) (by decide) dX12_text_178 (fun c7 => ?_) (fun c7 => ?_)
  · replace h := ifT h c7
    refine A_aload_n X 0 rfl rfl dX12_text_183 ?_
    refine A_aload_n X 0 rfl rfl dX12_text_184 ?_
    refine A_getI X fg_X12_text_107 shM_0 (k := 31) rfl (by decide) dX12_text_185 ?_
    refine A_putI X fp_X12_text_48 shM_0 (k := 12) rfl (by decide) dX12_text_188 (fun s8 hy => ?_)
    replace h := ltD h s8 hy
    clear hy
    refine A_aload_n X 0 rfl rfl dX12_text_191 ?_
    refine A_iconst X dX12_text_192 (z := 0) (by decide) ?_
    refine A_putI X fp_X12_text_144 shM_0 (k := 43) rfl (by decide) dX12_text_193 (fun s9 hy => ?_)
    replace h := ltD h s9 hy
    clear hy
    refine A_aload_n X 0 rfl rfl dX12_text_196 ?_
    refine A_iconst X dX12_text_197 (z := (-1)) (by decide) ?_
    refine A_putI X fp_X12_text_147 shM_0 (k := 44) rfl (by decide) dX12_text_198 (fun s10 hy => ?_)
    replace h := ltD h s10 hy
    clear hy
    refine A_iconst X dX12_text_201 (z := 0) (by decide) ?_
    refine A_istore_n X (L' := [(2, vI 0), (0, vR 0), (1, vI x1)]) rfl (by decide) rfl dX12_text_202 ?_
    refine A_sub [1, 2, 0] rfl (L' := [(0, vR 0), (1, vI x1), (2, vI 0)]) rfl ?_
    exact w_X12_text_203 X E FU x1 0 s10 h
  · replace h := ifF h c7
    refine A_iconst X dX12_text_181 (z := (-1)) (by decide) ?_
    exact A_ireturn X E h dX12_text_182
set_option maxRecDepth 100000 in
set_option maxHeartbeats 4000000 in
theorem w_X12_text_134_b {x : aC} {r : Int × Hp} {k134 : Int × Hp → Option (Int × Hp)} (X : aX x cX12_text wsX12_text RX12 3 rm_X12_text) (E : aE x shM (some .int) 0 r) (hk134 : ∀ (x1 : Int) (σ : Hp), k134 (x1, σ) = some r → aS x shM 3 134 [(0, vR 0), (1, vI x1)] [] σ) (x1 : Int) (σ : Hp) (h : F_M_text_134_b k134 x1 σ = some r) : aS x shM 3 134 [(0, vR 0), (1, vI x1)] [] σ := by
  unfold F_M_text_134_b at h
  refine A_aload_n X 0 rfl rfl dX12_text_134 ?_
  refine A_getI X fg_X12_text_36 shM_0 (k := 8) rfl (by decide) dX12_text_135 ?_
  refine A_if_ne X (tgt := 158) (by decide) dX12_text_138 (fun c11 => ?_) (fun c11 => ?_)
  · replace h := ifF h c11
    exact w_X12_text_158 X E x1 σ h
  · replace h := ifT h c11
    refine A_aload_n X 0 rfl rfl dX12_text_141 ?_
    refine A_getI X fg_X12_text_20 shM_0 (k := 3) rfl (by decide) dX12_text_142 ?_
    refine A_if_eq X (tgt := 158) (by decide) dX12_text_145 (fun c12 => ?_) (fun c12 => ?_)
    · replace h := ifT h c12
      exact w_X12_text_158 X E x1 σ h
    · replace h := ifF h c12
      refine A_aload_n X 0 rfl rfl dX12_text_148 ?_
      obtain ⟨v13, s14, e15, h⟩ := clD h
      refine A_callV_V (na := 0) X (m_X12_statement e15) gX12_text_X12_statement rfl ⟨rfl, rfl⟩ (by decide +kernel) rfl ⟨Nat.le_of_ble_eq_true rfl, Nat.le_of_ble_eq_true rfl⟩ shM_0 (by decide) rfl rfl (Nat.le_of_ble_eq_true rfl) dX12_text_149 ?_
      refine A_iinc X (L' := fun y1_16 => [(1, vI y1_16), (0, vR 0)]) 1 rfl (by decide) (fun _ => rfl) dX12_text_152 (by decide) (fun y1_16 hy => ?_)
      replace h := ltD h y1_16 hy
      clear hy
      refine A_goto X (tgt := 134) (by decide) dX12_text_155 ?_
      refine A_sub [1, 0] rfl (L' := [(0, vR 0), (1, vI y1_16)]) rfl ?_
      exact hk134 y1_16 s14 h
set_option maxRecDepth 100000 in
set_option maxHeartbeats 4000000 in
theorem w_X12_text_134 {x : aC} {r : Int × Hp} (X : aX x cX12_text wsX12_text RX12 3 rm_X12_text) (E : aE x shM (some .int) 0 r) : ∀ (n : Nat) (x1 : Int) (σ : Hp) (h : F_M_text_134 n (x1, σ) = some r), aS x shM 3 134 [(0, vR 0), (1, vI x1)] [] σ := by
  intro n
  induction n with
  | zero => intro x1 σ h; cases h
  | succ n ih => intro x1 σ h; exact w_X12_text_134_b (k134 := F_M_text_134 n) X E ih x1 σ h
set_option maxRecDepth 100000 in
set_option maxHeartbeats 4000000 in
theorem w_X12_text_92_b {x : aC} {r : Int × Hp} {k92 : Int × Hp → Option (Int × Hp)} (X : aX x cX12_text wsX12_text RX12 3 rm_X12_text) (E : aE x shM (some .int) 0 r) (hk92 : ∀ (x1 : Int) (σ : Hp), k92 (x1, σ) = some r → aS x shM 3 92 [(0, vR 0), (1, vI x1)] [] σ) (x1 : Int) (σ : Hp) (h : F_M_text_92_b k92 x1 σ = some r) : aS x shM 3 92 [(0, vR 0), (1, vI x1)] [] σ := by
  unfold F_M_text_92_b at h
  refine A_iload_n X 1 rfl rfl dX12_text_92 ?_
  refine A_sipush X dX12_text_93 (z := 144) (by decide) ?_
  refine A_aload_n X 0 rfl rfl dX12_text_96 ?_
  refine A_getI X fg_X12_text_107 shM_0 (k := 31) rfl (by decide) dX12_text_97 ?_
  refine A_imul X dX12_text_100 ?_
  refine A_sipush X dX12_text_101 (z := 144) (by decide) ?_
  refine A_iadd X dX12_text_104 ?_
  refine A_icmp_ge X (tgt := 128) (by decide) dX12_text_105 (fun c17 => ?_) (fun c17 => ?_)
  · replace h := ifT h c17
    refine A_iconst X dX12_text_128 (z := 0) (by decide) ?_
    refine A_istore_n X (L' := [(1, vI 0), (0, vR 0)]) rfl (by decide) rfl dX12_text_129 ?_
    refine A_aload_n X 1 rfl rfl dX12_text_130 ?_
    obtain ⟨v18, s19, e20, h⟩ := clD h
    refine A_callV_V (na := 0) X (m_X12_next e20) gX12_text_X12_next rfl ⟨rfl, rfl⟩ (by decide +kernel) rfl ⟨Nat.le_of_ble_eq_true rfl, Nat.le_of_ble_eq_true rfl⟩ shM_0 (by decide) rfl rfl (Nat.le_of_ble_eq_true rfl) dX12_text_131 ?_
    refine A_sub [1, 0] rfl (L' := [(0, vR 0), (1, vI 0)]) rfl ?_
    exact w_X12_text_134 X E FU 0 s19 h
  · replace h := ifF h c17
    refine A_aload_n X 0 rfl rfl dX12_text_108 ?_
    refine A_getR X fg_X12_text_91 shM_0 (k := 26) rfl (by decide) dX12_text_109 ?_
    refine A_iload_n X 1 rfl rfl dX12_text_112 ?_
    refine A_iconst X dX12_text_113 (z := 0) (by decide) ?_
    obtain ⟨g21, h⟩ := gdD h
    refine A_iast X g21 shM_15 dX12_text_114 (fun s22 hy => ?_)
    replace h := ltD h s22 hy
    clear hy
    refine A_aload_n X 0 rfl rfl dX12_text_115 ?_
    refine A_getR X fg_X12_text_94 shM_0 (k := 27) rfl (by decide) dX12_text_116 ?_
    refine A_iload_n X 1 rfl rfl dX12_text_119 ?_
    refine A_iconst X dX12_text_120 (z := 0) (by decide) ?_
    obtain ⟨g23, h⟩ := gdD h
    refine A_zast X g23 shM_16 dX12_text_121 (fun s24 hy => ?_)
    replace h := ltD h s24 hy
    clear hy
    refine A_iinc X (L' := fun y1_25 => [(1, vI y1_25), (0, vR 0)]) 1 rfl (by decide) (fun _ => rfl) dX12_text_122 (by decide) (fun y1_25 hy => ?_)
    replace h := ltD h y1_25 hy
    clear hy
    refine A_goto X (tgt := 92) (by decide) dX12_text_125 ?_
    refine A_sub [1, 0] rfl (L' := [(0, vR 0), (1, vI y1_25)]) rfl ?_
    exact hk92 y1_25 s24 h
set_option maxRecDepth 100000 in
set_option maxHeartbeats 4000000 in
theorem w_X12_text_92 {x : aC} {r : Int × Hp} (X : aX x cX12_text wsX12_text RX12 3 rm_X12_text) (E : aE x shM (some .int) 0 r) : ∀ (n : Nat) (x1 : Int) (σ : Hp) (h : F_M_text_92 n (x1, σ) = some r), aS x shM 3 92 [(0, vR 0), (1, vI x1)] [] σ := by
  intro n
  induction n with
  | zero => intro x1 σ h; cases h
  | succ n ih => intro x1 σ h; exact w_X12_text_92_b (k92 := F_M_text_92 n) X E ih x1 σ h
set_option maxRecDepth 100000 in
set_option maxHeartbeats 4000000 in
theorem m_X12_text {l : Launch} {g : aG} {σ : Hp} {r : Int × Hp} (h : F_M_text σ = some r) : aMet l g shM yX12_text wsX12_text rm_X12_text [vR 0] σ 0 r := by
  unfold F_M_text at h
  refine aMet_of (bytes := cX12_text) (maxL := 3) (ret := (some .int)) (by decide +kernel) rfl (Nat.le_of_ble_eq_true rfl) ⟨rfl, rfl⟩ (fun x e1 e2 X E => ?_)
  subst e1; subst e2
  have X : aX x cX12_text wsX12_text RX12 3 rm_X12_text := X
  show aS x shM 3 0 [(0, vR 0)] [] σ
  refine A_aload_n X 0 rfl rfl dX12_text_0 ?_
  refine A_aload_n X 0 rfl rfl dX12_text_1 ?_
  refine A_getI X fg_X12_text_13 shM_0 (k := 1) rfl (by decide) dX12_text_2 ?_
  refine A_putI X fp_X12_text_17 shM_0 (k := 2) rfl (by decide) dX12_text_5 (fun s26 hy => ?_)
  replace h := ltD h s26 hy
  clear hy
  refine A_aload_n X 0 rfl rfl dX12_text_8 ?_
  refine A_iconst X dX12_text_9 (z := 0) (by decide) ?_
  refine A_putI X fp_X12_text_13 shM_0 (k := 1) rfl (by decide) dX12_text_10 (fun s27 hy => ?_)
  replace h := ltD h s27 hy
  clear hy
  refine A_aload_n X 0 rfl rfl dX12_text_13 ?_
  refine A_iconst X dX12_text_14 (z := 0) (by decide) ?_
  refine A_putI X fp_X12_text_26 shM_0 (k := 5) rfl (by decide) dX12_text_15 (fun s28 hy => ?_)
  replace h := ltD h s28 hy
  clear hy
  refine A_aload_n X 0 rfl rfl dX12_text_18 ?_
  refine A_iconst X dX12_text_19 (z := 0) (by decide) ?_
  refine A_putI X fp_X12_text_36 shM_0 (k := 8) rfl (by decide) dX12_text_20 (fun s29 hy => ?_)
  replace h := ltD h s29 hy
  clear hy
  refine A_aload_n X 0 rfl rfl dX12_text_23 ?_
  refine A_iconst X dX12_text_24 (z := (-1)) (by decide) ?_
  refine A_putI X fp_X12_text_39 shM_0 (k := 9) rfl (by decide) dX12_text_25 (fun s30 hy => ?_)
  replace h := ltD h s30 hy
  clear hy
  refine A_aload_n X 0 rfl rfl dX12_text_28 ?_
  refine A_iconst X dX12_text_29 (z := 1) (by decide) ?_
  refine A_aload_n X 0 rfl rfl dX12_text_30 ?_
  refine A_getI X fg_X12_text_48 shM_0 (k := 12) rfl (by decide) dX12_text_31 ?_
  refine A_isub X dX12_text_34 ?_
  refine A_putI X fp_X12_text_107 shM_0 (k := 31) rfl (by decide) dX12_text_35 (fun s31 hy => ?_)
  replace h := ltD h s31 hy
  clear hy
  refine A_aload_n X 0 rfl rfl dX12_text_38 ?_
  refine A_getR X fg_X12_text_51 shM_0 (k := 13) rfl (by decide) dX12_text_39 ?_
  refine A_aload_n X 0 rfl rfl dX12_text_42 ?_
  refine A_getI X fg_X12_text_107 shM_0 (k := 31) rfl (by decide) dX12_text_43 ?_
  refine A_iconst X dX12_text_46 (z := 0) (by decide) ?_
  obtain ⟨g32, h⟩ := gdD h
  refine A_iast X g32 shM_2 dX12_text_47 (fun s33 hy => ?_)
  replace h := ltD h s33 hy
  clear hy
  refine A_aload_n X 0 rfl rfl dX12_text_48 ?_
  refine A_getR X fg_X12_text_54 shM_0 (k := 14) rfl (by decide) dX12_text_49 ?_
  refine A_aload_n X 0 rfl rfl dX12_text_52 ?_
  refine A_getI X fg_X12_text_107 shM_0 (k := 31) rfl (by decide) dX12_text_53 ?_
  refine A_iconst X dX12_text_56 (z := 0) (by decide) ?_
  obtain ⟨g34, h⟩ := gdD h
  refine A_iast X g34 shM_3 dX12_text_57 (fun s35 hy => ?_)
  replace h := ltD h s35 hy
  clear hy
  refine A_aload_n X 0 rfl rfl dX12_text_58 ?_
  refine A_getR X fg_X12_text_57 shM_0 (k := 15) rfl (by decide) dX12_text_59 ?_
  refine A_aload_n X 0 rfl rfl dX12_text_62 ?_
  refine A_getI X fg_X12_text_107 shM_0 (k := 31) rfl (by decide) dX12_text_63 ?_
  refine A_iconst X dX12_text_66 (z := 0) (by decide) ?_
  obtain ⟨g36, h⟩ := gdD h
  refine A_iast X g36 shM_4 dX12_text_67 (fun s37 hy => ?_)
  replace h := ltD h s37 hy
  clear hy
  refine A_aload_n X 0 rfl rfl dX12_text_68 ?_
  refine A_getR X fg_X12_text_60 shM_0 (k := 16) rfl (by decide) dX12_text_69 ?_
  refine A_aload_n X 0 rfl rfl dX12_text_72 ?_
  refine A_getI X fg_X12_text_107 shM_0 (k := 31) rfl (by decide) dX12_text_73 ?_
  refine A_iconst X dX12_text_76 (z := 0) (by decide) ?_
  obtain ⟨g38, h⟩ := gdD h
  refine A_iast X g38 shM_5 dX12_text_77 (fun s39 hy => ?_)
  replace h := ltD h s39 hy
  clear hy
  refine A_aload_n X 0 rfl rfl dX12_text_78 ?_
  refine A_iconst X dX12_text_79 (z := 0) (by decide) ?_
  refine A_putI X fp_X12_text_104 shM_0 (k := 30) rfl (by decide) dX12_text_80 (fun s40 hy => ?_)
  replace h := ltD h s40 hy
  clear hy
  refine A_sipush X dX12_text_83 (z := 144) (by decide) ?_
  refine A_aload_n X 0 rfl rfl dX12_text_86 ?_
  refine A_getI X fg_X12_text_107 shM_0 (k := 31) rfl (by decide) dX12_text_87 ?_
  refine A_imul X dX12_text_90 ?_
  refine A_istore_nN X (L' := fun y1_41 => [(1, vI y1_41), (0, vR 0)]) rfl (by decide) (fun _ => rfl) dX12_text_91 (fun y1_41 hy => ?_)
  replace h := ltD h y1_41 hy
  clear hy
  refine A_sub [1, 0] rfl (L' := [(0, vR 0), (1, vI y1_41)]) rfl ?_
  exact w_X12_text_92 X E FU y1_41 s40 h
abbrev rm_X12_two : Room := { frames := 5, cells := 0, slots := 0, locals := 123 }
set_option maxRecDepth 100000 in
set_option maxHeartbeats 4000000 in
theorem w_X12_two_21 {x : aC} {r : Int × Hp} {a1 : Int} {a2 : Int} {a3 : Int} {a4 : Int} (X : aX x cX12_two wsX12_two RX12 6 rm_X12_two) (E : aE x shM (some .int) 0 r) (σ : Hp) (h : F_M_two_21 a1 a2 a3 a4 σ = some r) : aS x shM 6 21 [] [] σ := by
  unfold F_M_two_21 at h
  refine A_ldcw X (v := (-2000000000)) (List.mem_of_getElem? (i := 1) rfl) dX12_two_21 (z := (-2000000000)) (by decide) ?_
  exact A_ireturn X E h dX12_two_24
set_option maxRecDepth 100000 in
set_option maxHeartbeats 4000000 in
theorem w_X12_two_86 {x : aC} {r : Int × Hp} {a1 : Int} {a2 : Int} {a3 : Int} {a4 : Int} (X : aX x cX12_two wsX12_two RX12 6 rm_X12_two) (E : aE x shM (some .int) 0 r) (t1 : Int) (σ : Hp) (h : F_M_two_86 a1 a2 a3 a4 t1 σ = some r) : aS x shM 6 86 [] [vL t1] σ := by
  unfold F_M_two_86 at h
  refine A_l2i X dX12_two_86 ?_
  exact A_ireturn X E h dX12_two_87
set_option maxRecDepth 100000 in
set_option maxHeartbeats 4000000 in
theorem w_X12_two_57 {x : aC} {r : Int × Hp} {a1 : Int} {a2 : Int} {a3 : Int} {a4 : Int} (X : aX x cX12_two wsX12_two RX12 6 rm_X12_two) (E : aE x shM (some .int) 0 r) (t1 : Int) (σ : Hp) (h : F_M_two_57 a1 a2 a3 a4 t1 σ = some r) : aS x shM 6 57 [(0, vR 0), (1, vI a1), (4, vI a4)] [vI t1] σ := by
  unfold F_M_two_57 at h
  refine A_istore X (L' := [(5, vI t1), (0, vR 0), (1, vI a1), (4, vI a4)]) (by decide) rfl dX12_two_57 ?_
  refine A_iload X 3 rfl dX12_two_59 ?_
  refine A_if_eq X (tgt := 76) (by decide) dX12_two_61 (fun c1 => ?_) (fun c1 => ?_)
  · replace h := ifT h c1
    refine A_aload_n X 1 rfl rfl dX12_two_76 ?_
    refine A_iconst X dX12_two_77 (z := 2) (by decide) ?_
    refine A_iload_n X 2 rfl rfl dX12_two_78 ?_
    refine A_imul X dX12_two_79 ?_
    refine A_iload X 0 rfl dX12_two_80 ?_
    obtain ⟨v2, s3, e4, h⟩ := clD h
    refine A_callV_L (na := 2) X (m_X12_apart e4) gX12_two_X12_apart rfl ⟨rfl, rfl⟩ (by decide +kernel) rfl ⟨Nat.le_of_ble_eq_true rfl, Nat.le_of_ble_eq_true rfl⟩ shM_0 (by decide) rfl rfl (Nat.le_of_ble_eq_true rfl) dX12_two_82 ?_
    refine A_lneg X dX12_two_85 ?_
    refine A_sub [] rfl (L' := []) rfl ?_
    exact w_X12_two_86 (a1 := a1) (a2 := a2) (a3 := a3) (a4 := a4) X E (lneg v2) s3 h
  · replace h := ifF h c1
    refine A_aload_n X 1 rfl rfl dX12_two_64 ?_
    refine A_iload X 0 rfl dX12_two_65 ?_
    refine A_iconst X dX12_two_67 (z := 2) (by decide) ?_
    refine A_iload_n X 2 rfl rfl dX12_two_68 ?_
    refine A_imul X dX12_two_69 ?_
    obtain ⟨v5, s6, e7, h⟩ := clD h
    refine A_callV_L (na := 2) X (m_X12_apart e7) gX12_two_X12_apart rfl ⟨rfl, rfl⟩ (by decide +kernel) rfl ⟨Nat.le_of_ble_eq_true rfl, Nat.le_of_ble_eq_true rfl⟩ shM_0 (by decide) rfl rfl (Nat.le_of_ble_eq_true rfl) dX12_two_70 ?_
    refine A_goto X (tgt := 86) (by decide) dX12_two_73 ?_
    refine A_sub [] rfl (L' := []) rfl ?_
    exact w_X12_two_86 (a1 := a1) (a2 := a2) (a3 := a3) (a4 := a4) X E v5 s6 h
set_option maxRecDepth 100000 in
set_option maxHeartbeats 4000000 in
theorem m_X12_two {l : Launch} {g : aG} {a1 : Int} {a2 : Int} {a3 : Int} {a4 : Int} {σ : Hp} {r : Int × Hp} (h : F_M_two a1 a2 a3 a4 σ = some r) : aMet l g shM yX12_two wsX12_two rm_X12_two [vR 0, vI a1, vI a2, vI a3, vI a4] σ 0 r := by
  unfold F_M_two at h
  refine aMet_of (bytes := cX12_two) (maxL := 6) (ret := (some .int)) (by decide +kernel) rfl (Nat.le_of_ble_eq_true rfl) ⟨rfl, rfl⟩ (fun x e1 e2 X E => ?_)
  subst e1; subst e2
  have X : aX x cX12_two wsX12_two RX12 6 rm_X12_two := X
  show aS x shM 6 0 [(0, vR 0), (1, vI a1), (2, vI a2), (3, vI a3), (4, vI a4)] [] σ
  refine A_aload_n X 0 rfl rfl dX12_two_0 ?_
  refine A_iload_n X 1 rfl rfl dX12_two_1 ?_
  obtain ⟨v8, s9, e10, h⟩ := clD h
  refine A_callV_I (na := 1) X (m_X12_isWho e10) gX12_two_X12_isWho rfl ⟨rfl, rfl⟩ (by decide +kernel) rfl ⟨Nat.le_of_ble_eq_true rfl, Nat.le_of_ble_eq_true rfl⟩ shM_0 (by decide) rfl rfl (Nat.le_of_ble_eq_true rfl) dX12_two_2 ?_
  refine A_if_eq X (tgt := 21) (by decide) dX12_two_5 (fun c11 => ?_) (fun c11 => ?_)
  · replace h := ifT h c11
    refine A_sub [] rfl (L' := []) rfl ?_
    exact w_X12_two_21 (a1 := a1) (a2 := a2) (a3 := a3) (a4 := a4) X E s9 h
  · replace h := ifF h c11
    refine A_aload_n X 0 rfl rfl dX12_two_8 ?_
    refine A_iload_n X 2 rfl rfl dX12_two_9 ?_
    obtain ⟨v12, s13, e14, h⟩ := clD h
    refine A_callV_I (na := 1) X (m_X12_isWho e14) gX12_two_X12_isWho rfl ⟨rfl, rfl⟩ (by decide +kernel) rfl ⟨Nat.le_of_ble_eq_true rfl, Nat.le_of_ble_eq_true rfl⟩ shM_0 (by decide) rfl rfl (Nat.le_of_ble_eq_true rfl) dX12_two_10 ?_
    refine A_if_eq X (tgt := 21) (by decide) dX12_two_13 (fun c15 => ?_) (fun c15 => ?_)
    · replace h := ifT h c15
      refine A_sub [] rfl (L' := []) rfl ?_
      exact w_X12_two_21 (a1 := a1) (a2 := a2) (a3 := a3) (a4 := a4) X E s13 h
    · replace h := ifF h c15
      refine A_iload_n X 1 rfl rfl dX12_two_16 ?_
      refine A_iload_n X 2 rfl rfl dX12_two_17 ?_
      refine A_icmp_ne X (tgt := 25) (by decide) dX12_two_18 (fun c16 => ?_) (fun c16 => ?_)
      · replace h := ifF h c16
        refine A_aload_n X 0 rfl rfl dX12_two_25 ?_
        refine A_iconst X dX12_two_26 (z := (-1)) (by decide) ?_
        refine A_iconst X dX12_two_27 (z := 0) (by decide) ?_
        obtain ⟨v17, s18, e19, h⟩ := clD h
        refine A_callV_V (na := 2) X (m_X12_lays e19) gX12_two_X12_lays rfl ⟨rfl, rfl⟩ (by decide +kernel) rfl ⟨Nat.le_of_ble_eq_true rfl, Nat.le_of_ble_eq_true rfl⟩ shM_0 (by decide) rfl rfl (Nat.le_of_ble_eq_true rfl) dX12_two_28 ?_
        refine A_aload_n X 0 rfl rfl dX12_two_31 ?_
        obtain ⟨v20, s21, e22, h⟩ := clD h
        refine A_callV_I (na := 0) X (m_X12_ends e22) gX12_two_X12_ends rfl ⟨rfl, rfl⟩ (by decide +kernel) rfl ⟨Nat.le_of_ble_eq_true rfl, Nat.le_of_ble_eq_true rfl⟩ shM_0 (by decide) rfl rfl (Nat.le_of_ble_eq_true rfl) dX12_two_32 ?_
        refine A_if_ne X (tgt := 42) (by decide) dX12_two_35 (fun c23 => ?_) (fun c23 => ?_)
        · replace h := ifF h c23
          refine A_iload_n X 3 rfl rfl dX12_two_42 ?_
          refine A_if_eq X (tgt := 52) (by decide) dX12_two_43 (fun c24 => ?_) (fun c24 => ?_)
          · replace h := ifT h c24
            refine A_iconst X dX12_two_52 (z := 2) (by decide) ?_
            refine A_iload_n X 2 rfl rfl dX12_two_53 ?_
            refine A_imul X dX12_two_54 ?_
            refine A_iconst X dX12_two_55 (z := 1) (by decide) ?_
            refine A_iadd X dX12_two_56 ?_
            refine A_sub [0, 1, 4] rfl (L' := [(0, vR 0), (1, vI a1), (4, vI a4)]) rfl ?_
            exact w_X12_two_57 (a1 := a1) (a2 := a2) (a3 := a3) (a4 := a4) X E (iadd (imul 2 a2) 1) s21 h
          · replace h := ifF h c24
            refine A_iconst X dX12_two_46 (z := 2) (by decide) ?_
            refine A_iload_n X 2 rfl rfl dX12_two_47 ?_
            refine A_imul X dX12_two_48 ?_
            refine A_goto X (tgt := 57) (by decide) dX12_two_49 ?_
            refine A_sub [0, 1, 4] rfl (L' := [(0, vR 0), (1, vI a1), (4, vI a4)]) rfl ?_
            exact w_X12_two_57 (a1 := a1) (a2 := a2) (a3 := a3) (a4 := a4) X E (imul 2 a2) s21 h
        · replace h := ifT h c23
          refine A_ldcw X (v := (-2000000000)) (List.mem_of_getElem? (i := 1) rfl) dX12_two_38 (z := (-2000000000)) (by decide) ?_
          exact A_ireturn X E h dX12_two_41
      · replace h := ifT h c16
        refine A_sub [] rfl (L' := []) rfl ?_
        exact w_X12_two_21 (a1 := a1) (a2 := a2) (a3 := a3) (a4 := a4) X E s13 h
abbrev rm_X12_undeal : Room := { frames := 2, cells := 0, slots := 0, locals := 43 }
theorem in_X12_undeal_12 : ∀ w ∈ u_ws RX12 TX12 75, w ∈ wsX12_undeal := fun w h => List.mem_cons_of_mem _ (List.mem_append_right _ h)
theorem fg_X12_undeal_204 : aFl wsX12_undeal RX12 204 12 63 := ⟨RX12, TX12, 75, rfl, in_X12_undeal_12, by decide, (List.mem_of_getElem? (i := 1) rfl), rfl⟩
set_option maxRecDepth 100000 in
set_option maxHeartbeats 4000000 in
theorem w_X12_undeal_17 {x : aC} {r : Int × Hp} {a1 : Int} (X : aX x cX12_undeal wsX12_undeal RX12 2 rm_X12_undeal) (E : aE x shM (some .int) 0 r) (σ : Hp) (h : F_M_undeal_17 a1 σ = some r) : aS x shM 2 17 [] [] σ := by
  unfold F_M_undeal_17 at h
  refine A_iconst X dX12_undeal_17 (z := (-1)) (by decide) ?_
  exact A_ireturn X E h dX12_undeal_18
set_option maxRecDepth 100000 in
set_option maxHeartbeats 4000000 in
theorem m_X12_undeal {l : Launch} {g : aG} {a1 : Int} {σ : Hp} {r : Int × Hp} (h : F_M_undeal a1 σ = some r) : aMet l g shM yX12_undeal wsX12_undeal rm_X12_undeal [vR 0, vI a1] σ 0 r := by
  unfold F_M_undeal at h
  refine aMet_of (bytes := cX12_undeal) (maxL := 2) (ret := (some .int)) (by decide +kernel) rfl (Nat.le_of_ble_eq_true rfl) ⟨rfl, rfl⟩ (fun x e1 e2 X E => ?_)
  subst e1; subst e2
  have X : aX x cX12_undeal wsX12_undeal RX12 2 rm_X12_undeal := X
  show aS x shM 2 0 [(0, vR 0), (1, vI a1)] [] σ
  refine A_aload_n X 0 rfl rfl dX12_undeal_0 ?_
  refine A_iload_n X 1 rfl rfl dX12_undeal_1 ?_
  obtain ⟨v1, s2, e3, h⟩ := clD h
  refine A_callV_I (na := 1) X (m_X12_isRoad e3) gX12_undeal_X12_isRoad rfl ⟨rfl, rfl⟩ (by decide +kernel) rfl ⟨Nat.le_of_ble_eq_true rfl, Nat.le_of_ble_eq_true rfl⟩ shM_0 (by decide) rfl rfl (Nat.le_of_ble_eq_true rfl) dX12_undeal_2 ?_
  refine A_if_eq X (tgt := 17) (by decide) dX12_undeal_5 (fun c4 => ?_) (fun c4 => ?_)
  · replace h := ifT h c4
    refine A_sub [] rfl (L' := []) rfl ?_
    exact w_X12_undeal_17 (a1 := a1) X E s2 h
  · replace h := ifF h c4
    refine A_aload_n X 0 rfl rfl dX12_undeal_8 ?_
    refine A_getR X fg_X12_undeal_204 shM_0 (k := 63) rfl (by decide) dX12_undeal_9 ?_
    refine A_iload_n X 1 rfl rfl dX12_undeal_12 ?_
    obtain ⟨g5, h⟩ := gdD h
    refine A_zald X g5 shM_42 dX12_undeal_13 ?_
    refine A_if_ne X (tgt := 19) (by decide) dX12_undeal_14 (fun c6 => ?_) (fun c6 => ?_)
    · replace h := ifF h c6
      refine A_aload_n X 0 rfl rfl dX12_undeal_19 ?_
      refine A_getR X fg_X12_undeal_204 shM_0 (k := 63) rfl (by decide) dX12_undeal_20 ?_
      refine A_iload_n X 1 rfl rfl dX12_undeal_23 ?_
      refine A_iconst X dX12_undeal_24 (z := 0) (by decide) ?_
      obtain ⟨g7, h⟩ := gdD h
      refine A_zast X g7 shM_42 dX12_undeal_25 (fun s8 hy => ?_)
      replace h := ltD h s8 hy
      clear hy
      refine A_aload_n X 0 rfl rfl dX12_undeal_26 ?_
      obtain ⟨v9, s10, e11, h⟩ := clD h
      refine A_callV_I (na := 0) X (m_X12_deals e11) gX12_undeal_X12_deals rfl ⟨rfl, rfl⟩ (by decide +kernel) rfl ⟨Nat.le_of_ble_eq_true rfl, Nat.le_of_ble_eq_true rfl⟩ shM_0 (by decide) rfl rfl (Nat.le_of_ble_eq_true rfl) dX12_undeal_27 ?_
      exact A_ireturn X E h dX12_undeal_30
    · replace h := ifT h c6
      refine A_sub [] rfl (L' := []) rfl ?_
      exact w_X12_undeal_17 (a1 := a1) X E s2 h
abbrev rm_X12_uneven : Room := { frames := 6, cells := 0, slots := 0, locals := 143 }
theorem in_X12_uneven_12 : ∀ w ∈ u_ws RX12 TX12 75, w ∈ wsX12_uneven := fun w h => List.mem_cons_of_mem _ (List.mem_append_right _ h)
theorem fg_X12_uneven_54 : aFl wsX12_uneven RX12 54 12 14 := ⟨RX12, TX12, 75, rfl, in_X12_uneven_12, by decide, (List.mem_of_getElem? (i := 1) rfl), rfl⟩
theorem fg_X12_uneven_48 : aFl wsX12_uneven RX12 48 12 12 := ⟨RX12, TX12, 75, rfl, in_X12_uneven_12, by decide, (List.mem_of_getElem? (i := 2) rfl), rfl⟩
theorem fg_X12_uneven_207 : aFl wsX12_uneven RX12 207 12 64 := ⟨RX12, TX12, 75, rfl, in_X12_uneven_12, by decide, (List.mem_of_getElem? (i := 3) rfl), rfl⟩
set_option maxRecDepth 100000 in
set_option maxHeartbeats 4000000 in
theorem w_X12_uneven_45 {x : aC} {r : Int × Hp} {k6 : Int × Hp → Option (Int × Hp)} (X : aX x cX12_uneven wsX12_uneven RX12 2 rm_X12_uneven) (E : aE x shM (some .int) 0 r) (hk6 : ∀ (x1 : Int) (σ : Hp), k6 (x1, σ) = some r → aS x shM 2 6 [(0, vR 0), (1, vI x1)] [] σ) (x1 : Int) (σ : Hp) (h : F_M_uneven_45 k6 x1 σ = some r) : aS x shM 2 45 [(0, vR 0), (1, vI x1)] [] σ := by
  unfold F_M_uneven_45 at h
  refine A_iinc X (L' := fun y1_1 => [(1, vI y1_1), (0, vR 0)]) 1 rfl (by decide) (fun _ => rfl) dX12_uneven_45 (by decide) (fun y1_1 hy => ?_)
  replace h := ltD h y1_1 hy
  clear hy
  refine A_goto X (tgt := 6) (by decide) dX12_uneven_48 ?_
  refine A_sub [1, 0] rfl (L' := [(0, vR 0), (1, vI y1_1)]) rfl ?_
  exact hk6 y1_1 σ h
set_option maxRecDepth 100000 in
set_option maxHeartbeats 4000000 in
theorem w_X12_uneven_6_b {x : aC} {r : Int × Hp} {k6 : Int × Hp → Option (Int × Hp)} (X : aX x cX12_uneven wsX12_uneven RX12 2 rm_X12_uneven) (E : aE x shM (some .int) 0 r) (hk6 : ∀ (x1 : Int) (σ : Hp), k6 (x1, σ) = some r → aS x shM 2 6 [(0, vR 0), (1, vI x1)] [] σ) (x1 : Int) (σ : Hp) (h : F_M_uneven_6_b k6 x1 σ = some r) : aS x shM 2 6 [(0, vR 0), (1, vI x1)] [] σ := by
  unfold F_M_uneven_6_b at h
  refine A_iload_n X 1 rfl rfl dX12_uneven_6 ?_
  refine A_aload_n X 0 rfl rfl dX12_uneven_7 ?_
  refine A_getR X fg_X12_uneven_54 shM_0 (k := 14) rfl (by decide) dX12_uneven_8 ?_
  refine A_aload_n X 0 rfl rfl dX12_uneven_11 ?_
  refine A_getI X fg_X12_uneven_48 shM_0 (k := 12) rfl (by decide) dX12_uneven_12 ?_
  obtain ⟨g2, h⟩ := gdD h
  refine A_iald X g2 shM_3 dX12_uneven_15 ?_
  refine A_icmp_ge X (tgt := 51) (by decide) dX12_uneven_16 (fun c3 => ?_) (fun c3 => ?_)
  · replace h := ifT h c3
    refine A_iconst X dX12_uneven_51 (z := (-1)) (by decide) ?_
    exact A_ireturn X E h dX12_uneven_52
  · replace h := ifF h c3
    refine A_aload_n X 0 rfl rfl dX12_uneven_19 ?_
    refine A_iload_n X 1 rfl rfl dX12_uneven_20 ?_
    obtain ⟨v4, s5, e6, h⟩ := clD h
    refine A_callV_I (na := 1) X (m_X12_isDeal e6) gX12_uneven_X12_isDeal rfl ⟨rfl, rfl⟩ (by decide +kernel) rfl ⟨Nat.le_of_ble_eq_true rfl, Nat.le_of_ble_eq_true rfl⟩ shM_0 (by decide) rfl rfl (Nat.le_of_ble_eq_true rfl) dX12_uneven_21 ?_
    refine A_if_eq X (tgt := 45) (by decide) dX12_uneven_24 (fun c7 => ?_) (fun c7 => ?_)
    · replace h := ifT h c7
      exact w_X12_uneven_45 X E hk6 x1 s5 h
    · replace h := ifF h c7
      refine A_aload_n X 0 rfl rfl dX12_uneven_27 ?_
      refine A_getR X fg_X12_uneven_207 shM_0 (k := 64) rfl (by decide) dX12_uneven_28 ?_
      refine A_iload_n X 1 rfl rfl dX12_uneven_31 ?_
      obtain ⟨g8, h⟩ := gdD h
      refine A_iald X g8 shM_43 dX12_uneven_32 ?_
      refine A_i2l X dX12_uneven_33 ?_
      refine A_aload_n X 0 rfl rfl dX12_uneven_34 ?_
      refine A_iload_n X 1 rfl rfl dX12_uneven_35 ?_
      obtain ⟨v9, s10, e11, h⟩ := clD h
      refine A_callV_L (na := 1) X (m_X12_evenOf e11) gX12_uneven_X12_evenOf rfl ⟨rfl, rfl⟩ (by decide +kernel) rfl ⟨Nat.le_of_ble_eq_true rfl, Nat.le_of_ble_eq_true rfl⟩ shM_0 (by decide) rfl rfl (Nat.le_of_ble_eq_true rfl) dX12_uneven_36 ?_
      refine A_lcmp X dX12_uneven_39 ?_
      refine A_if_eq X (tgt := 45) (by decide) dX12_uneven_40 (fun c12 => ?_) (fun c12 => ?_)
      · replace h := ifT h c12
        exact w_X12_uneven_45 X E hk6 x1 s10 h
      · replace h := ifF h c12
        refine A_iload_n X 1 rfl rfl dX12_uneven_43 ?_
        exact A_ireturn X E h dX12_uneven_44
set_option maxRecDepth 100000 in
set_option maxHeartbeats 4000000 in
theorem w_X12_uneven_6 {x : aC} {r : Int × Hp} (X : aX x cX12_uneven wsX12_uneven RX12 2 rm_X12_uneven) (E : aE x shM (some .int) 0 r) : ∀ (n : Nat) (x1 : Int) (σ : Hp) (h : F_M_uneven_6 n (x1, σ) = some r), aS x shM 2 6 [(0, vR 0), (1, vI x1)] [] σ := by
  intro n
  induction n with
  | zero => intro x1 σ h; cases h
  | succ n ih => intro x1 σ h; exact w_X12_uneven_6_b (k6 := F_M_uneven_6 n) X E ih x1 σ h
set_option maxRecDepth 100000 in
set_option maxHeartbeats 4000000 in
theorem m_X12_uneven {l : Launch} {g : aG} {σ : Hp} {r : Int × Hp} (h : F_M_uneven σ = some r) : aMet l g shM yX12_uneven wsX12_uneven rm_X12_uneven [vR 0] σ 0 r := by
  unfold F_M_uneven at h
  refine aMet_of (bytes := cX12_uneven) (maxL := 2) (ret := (some .int)) (by decide +kernel) rfl (Nat.le_of_ble_eq_true rfl) ⟨rfl, rfl⟩ (fun x e1 e2 X E => ?_)
  subst e1; subst e2
  have X : aX x cX12_uneven wsX12_uneven RX12 2 rm_X12_uneven := X
  show aS x shM 2 0 [(0, vR 0)] [] σ
  refine A_aload_n X 0 rfl rfl dX12_uneven_0 ?_
  obtain ⟨v13, s14, e15, h⟩ := clD h
  refine A_callV_V (na := 0) X (m_X12_laysAll e15) gX12_uneven_X12_laysAll rfl ⟨rfl, rfl⟩ (by decide +kernel) rfl ⟨Nat.le_of_ble_eq_true rfl, Nat.le_of_ble_eq_true rfl⟩ shM_0 (by decide) rfl rfl (Nat.le_of_ble_eq_true rfl) dX12_uneven_1 ?_
  refine A_iconst X dX12_uneven_4 (z := 0) (by decide) ?_
  refine A_istore_n X (L' := [(1, vI 0), (0, vR 0)]) rfl (by decide) rfl dX12_uneven_5 ?_
  refine A_sub [1, 0] rfl (L' := [(0, vR 0), (1, vI 0)]) rfl ?_
  exact w_X12_uneven_6 X E FU 0 s14 h
abbrev rm_X12_ways : Room := { frames := 5, cells := 0, slots := 0, locals := 123 }
theorem in_X12_ways_12 : ∀ w ∈ u_ws RX12 TX12 75, w ∈ wsX12_ways := fun w h => List.mem_cons_of_mem _ (List.mem_append_right _ h)
theorem fg_X12_ways_51 : aFl wsX12_ways RX12 51 12 13 := ⟨RX12, TX12, 75, rfl, in_X12_ways_12, by decide, (List.mem_of_getElem? (i := 3) rfl), rfl⟩
theorem fg_X12_ways_48 : aFl wsX12_ways RX12 48 12 12 := ⟨RX12, TX12, 75, rfl, in_X12_ways_12, by decide, (List.mem_of_getElem? (i := 4) rfl), rfl⟩
theorem fg_X12_ways_201 : aFl wsX12_ways RX12 201 12 62 := ⟨RX12, TX12, 75, rfl, in_X12_ways_12, by decide, (List.mem_of_getElem? (i := 1) rfl), rfl⟩
theorem fg_X12_ways_174 : aFl wsX12_ways RX12 174 12 53 := ⟨RX12, TX12, 75, rfl, in_X12_ways_12, by decide, (List.mem_of_getElem? (i := 5) rfl), rfl⟩
theorem fg_X12_ways_171 : aFl wsX12_ways RX12 171 12 52 := ⟨RX12, TX12, 75, rfl, in_X12_ways_12, by decide, (List.mem_of_getElem? (i := 2) rfl), rfl⟩
set_option maxRecDepth 100000 in
set_option maxHeartbeats 4000000 in
theorem w_X12_ways_186 {x : aC} {r : Int × Hp} {k88 : Int × Int × Int × Int × Hp → Option (Int × Hp)} (X : aX x cX12_ways wsX12_ways RX12 5 rm_X12_ways) (E : aE x shM (some .int) 0 r) (hk88 : ∀ (x1 : Int) (x2 : Int) (x3 : Int) (x4 : Int) (σ : Hp), k88 (x1, x2, x3, x4, σ) = some r → aS x shM 5 88 [(0, vR 0), (1, vI x1), (2, vI x2), (3, vI x3), (4, vI x4)] [] σ) (x1 : Int) (x2 : Int) (x3 : Int) (x4 : Int) (σ : Hp) (h : F_M_ways_186 k88 x1 x2 x3 x4 σ = some r) : aS x shM 5 186 [(0, vR 0), (1, vI x1), (2, vI x2), (3, vI x3), (4, vI x4)] [] σ := by
  unfold F_M_ways_186 at h
  refine A_iinc X (L' := fun y4_1 => [(4, vI y4_1), (0, vR 0), (1, vI x1), (2, vI x2), (3, vI x3)]) 4 rfl (by decide) (fun _ => rfl) dX12_ways_186 (by decide) (fun y4_1 hy => ?_)
  replace h := ltD h y4_1 hy
  clear hy
  refine A_goto X (tgt := 88) (by decide) dX12_ways_189 ?_
  refine A_sub [1, 2, 3, 4, 0] rfl (L' := [(0, vR 0), (1, vI x1), (2, vI x2), (3, vI x3), (4, vI y4_1)]) rfl ?_
  exact hk88 x1 x2 x3 y4_1 σ h
set_option maxRecDepth 100000 in
set_option maxHeartbeats 4000000 in
theorem w_X12_ways_222 {x : aC} {r : Int × Hp} {k20 : Int × Hp → Option (Int × Hp)} (X : aX x cX12_ways wsX12_ways RX12 5 rm_X12_ways) (E : aE x shM (some .int) 0 r) (hk20 : ∀ (x1 : Int) (σ : Hp), k20 (x1, σ) = some r → aS x shM 5 20 [(0, vR 0), (1, vI x1)] [] σ) (x1 : Int) (t3 : Int) (t2 : Int) (σ : Hp) (h : F_M_ways_222 k20 x1 t3 t2 σ = some r) : aS x shM 5 222 [(0, vR 0), (1, vI x1)] [vL t3, vI t2, vR 41] σ := by
  unfold F_M_ways_222 at h
  obtain ⟨g2, h⟩ := gdD h
  refine A_last X g2 shM_41 dX12_ways_222 (fun s3 hy => ?_)
  replace h := ltD h s3 hy
  clear hy
  refine A_iinc X (L' := fun y1_4 => [(1, vI y1_4), (0, vR 0)]) 1 rfl (by decide) (fun _ => rfl) dX12_ways_223 (by decide) (fun y1_4 hy => ?_)
  replace h := ltD h y1_4 hy
  clear hy
  refine A_goto X (tgt := 20) (by decide) dX12_ways_226 ?_
  refine A_sub [1, 0] rfl (L' := [(0, vR 0), (1, vI y1_4)]) rfl ?_
  exact hk20 y1_4 s3 h
set_option maxRecDepth 100000 in
set_option maxHeartbeats 4000000 in
theorem w_X12_ways_88_b {x : aC} {r : Int × Hp} {k20 : Int × Hp → Option (Int × Hp)} {k88 : Int × Int × Int × Int × Hp → Option (Int × Hp)} (X : aX x cX12_ways wsX12_ways RX12 5 rm_X12_ways) (E : aE x shM (some .int) 0 r) (hk20 : ∀ (x1 : Int) (σ : Hp), k20 (x1, σ) = some r → aS x shM 5 20 [(0, vR 0), (1, vI x1)] [] σ) (hk88 : ∀ (x1 : Int) (x2 : Int) (x3 : Int) (x4 : Int) (σ : Hp), k88 (x1, x2, x3, x4, σ) = some r → aS x shM 5 88 [(0, vR 0), (1, vI x1), (2, vI x2), (3, vI x3), (4, vI x4)] [] σ) (x1 : Int) (x2 : Int) (x3 : Int) (x4 : Int) (σ : Hp) (h : F_M_ways_88_b k20 k88 x1 x2 x3 x4 σ = some r) : aS x shM 5 88 [(0, vR 0), (1, vI x1), (2, vI x2), (3, vI x3), (4, vI x4)] [] σ := by
  unfold F_M_ways_88_b at h
  refine A_iload X 4 rfl dX12_ways_88 ?_
  refine A_aload_n X 0 rfl rfl dX12_ways_90 ?_
  refine A_getR X fg_X12_ways_51 shM_0 (k := 13) rfl (by decide) dX12_ways_91 ?_
  refine A_aload_n X 0 rfl rfl dX12_ways_94 ?_
  refine A_getI X fg_X12_ways_48 shM_0 (k := 12) rfl (by decide) dX12_ways_95 ?_
  obtain ⟨g5, h⟩ := gdD h
  refine A_iald X g5 shM_2 dX12_ways_98 ?_
  refine A_icmp_ge X (tgt := 192) (by decide) dX12_ways_99 (fun c6 => ?_) (fun c6 => ?_)
  · replace h := ifT h c6
    refine A_aload_n X 0 rfl rfl dX12_ways_192 ?_
    refine A_getR X fg_X12_ways_201 shM_0 (k := 62) rfl (by decide) dX12_ways_193 ?_
    refine A_iload_n X 1 rfl rfl dX12_ways_196 ?_
    refine A_aload_n X 0 rfl rfl dX12_ways_197 ?_
    refine A_getR X fg_X12_ways_201 shM_0 (k := 62) rfl (by decide) dX12_ways_198 ?_
    refine A_iload_n X 1 rfl rfl dX12_ways_201 ?_
    obtain ⟨g7, h⟩ := gdD h
    refine A_lald X g7 shM_41 dX12_ways_202 ?_
    refine A_ldc2 X (v := (1000000000)) (List.mem_of_getElem? (i := 6) rfl) dX12_ways_203 (z := 1000000000) (by decide +kernel) ?_
    refine A_lcmp X dX12_ways_206 ?_
    refine A_if_le X (tgt := 216) (by decide) dX12_ways_207 (fun c8 => ?_) (fun c8 => ?_)
    · replace h := ifT h c8
      refine A_aload_n X 0 rfl rfl dX12_ways_216 ?_
      refine A_getR X fg_X12_ways_201 shM_0 (k := 62) rfl (by decide) dX12_ways_217 ?_
      refine A_iload_n X 1 rfl rfl dX12_ways_220 ?_
      obtain ⟨g9, h⟩ := gdD h
      refine A_lald X g9 shM_41 dX12_ways_221 ?_
      refine A_sub [0, 1] rfl (L' := [(0, vR 0), (1, vI x1)]) rfl ?_
      exact w_X12_ways_222 X E hk20 x1 (σ 41 x1.toNat) x1 σ h
    · replace h := ifF h c8
      refine A_ldc2 X (v := (1000000000)) (List.mem_of_getElem? (i := 6) rfl) dX12_ways_210 (z := 1000000000) (by decide +kernel) ?_
      refine A_goto X (tgt := 222) (by decide) dX12_ways_213 ?_
      refine A_sub [0, 1] rfl (L' := [(0, vR 0), (1, vI x1)]) rfl ?_
      exact w_X12_ways_222 X E hk20 x1 1000000000 x1 σ h
  · replace h := ifF h c6
    refine A_iload_n X 3 rfl rfl dX12_ways_102 ?_
    refine A_iload X 4 rfl dX12_ways_103 ?_
    refine A_ishr X dX12_ways_105 ?_
    refine A_iconst X dX12_ways_106 (z := 1) (by decide) ?_
    refine A_iand X dX12_ways_107 ?_
    refine A_if_eq X (tgt := 186) (by decide) dX12_ways_108 (fun c10 => ?_) (fun c10 => ?_)
    · replace h := ifT h c10
      exact w_X12_ways_186 X E hk88 x1 x2 x3 x4 σ h
    · replace h := ifF h c10
      refine A_aload_n X 0 rfl rfl dX12_ways_111 ?_
      refine A_getR X fg_X12_ways_174 shM_0 (k := 53) rfl (by decide) dX12_ways_112 ?_
      refine A_bipush X dX12_ways_115 (z := 12) (by decide) ?_
      refine A_iload_n X 2 rfl rfl dX12_ways_117 ?_
      refine A_imul X dX12_ways_118 ?_
      refine A_iload X 4 rfl dX12_ways_119 ?_
      refine A_iadd X dX12_ways_121 ?_
      obtain ⟨g11, h⟩ := gdD h
      refine A_iald X g11 shM_33 dX12_ways_122 ?_
      refine A_if_eq X (tgt := 186) (by decide) dX12_ways_123 (fun c12 => ?_) (fun c12 => ?_)
      · replace h := ifT h c12
        exact w_X12_ways_186 X E hk88 x1 x2 x3 x4 σ h
      · replace h := ifF h c12
        refine A_aload_n X 0 rfl rfl dX12_ways_126 ?_
        refine A_getR X fg_X12_ways_174 shM_0 (k := 53) rfl (by decide) dX12_ways_127 ?_
        refine A_bipush X dX12_ways_130 (z := 12) (by decide) ?_
        refine A_iload_n X 2 rfl rfl dX12_ways_132 ?_
        refine A_imul X dX12_ways_133 ?_
        refine A_iload X 4 rfl dX12_ways_134 ?_
        refine A_iadd X dX12_ways_136 ?_
        obtain ⟨g13, h⟩ := gdD h
        refine A_iald X g13 shM_33 dX12_ways_137 ?_
        refine A_aload_n X 0 rfl rfl dX12_ways_138 ?_
        refine A_getR X fg_X12_ways_171 shM_0 (k := 52) rfl (by decide) dX12_ways_139 ?_
        refine A_iload_n X 3 rfl rfl dX12_ways_142 ?_
        refine A_iconst X dX12_ways_143 (z := 1) (by decide) ?_
        refine A_iload X 4 rfl dX12_ways_144 ?_
        refine A_ishl X dX12_ways_146 ?_
        refine A_iconst X dX12_ways_147 (z := (-1)) (by decide) ?_
        refine A_ixor X dX12_ways_148 ?_
        refine A_iand X dX12_ways_149 ?_
        obtain ⟨g14, h⟩ := gdD h
        refine A_iald X g14 shM_32 dX12_ways_150 ?_
        refine A_iadd X dX12_ways_151 ?_
        refine A_aload_n X 0 rfl rfl dX12_ways_152 ?_
        refine A_getR X fg_X12_ways_171 shM_0 (k := 52) rfl (by decide) dX12_ways_153 ?_
        refine A_iload_n X 1 rfl rfl dX12_ways_156 ?_
        obtain ⟨g15, h⟩ := gdD h
        refine A_iald X g15 shM_32 dX12_ways_157 ?_
        refine A_icmp_eq X (tgt := 164) (by decide) dX12_ways_158 (fun c16 => ?_) (fun c16 => ?_)
        · replace h := ifT h c16
          refine A_aload_n X 0 rfl rfl dX12_ways_164 ?_
          refine A_getR X fg_X12_ways_201 shM_0 (k := 62) rfl (by decide) dX12_ways_165 ?_
          refine A_iload_n X 1 rfl rfl dX12_ways_168 ?_
          refine A_dup2 X (by show ¬ (0 : Nat) = 1; decide) (by show ¬ (2 : Nat) = 1; decide) dX12_ways_169 ?_
          obtain ⟨g17, h⟩ := gdD h
          refine A_lald X g17 shM_41 dX12_ways_170 ?_
          refine A_aload_n X 0 rfl rfl dX12_ways_171 ?_
          refine A_getR X fg_X12_ways_201 shM_0 (k := 62) rfl (by decide) dX12_ways_172 ?_
          refine A_iload_n X 3 rfl rfl dX12_ways_175 ?_
          refine A_iconst X dX12_ways_176 (z := 1) (by decide) ?_
          refine A_iload X 4 rfl dX12_ways_177 ?_
          refine A_ishl X dX12_ways_179 ?_
          refine A_iconst X dX12_ways_180 (z := (-1)) (by decide) ?_
          refine A_ixor X dX12_ways_181 ?_
          refine A_iand X dX12_ways_182 ?_
          obtain ⟨g18, h⟩ := gdD h
          refine A_lald X g18 shM_41 dX12_ways_183 ?_
          refine A_ladd X dX12_ways_184 ?_
          obtain ⟨g19, h⟩ := gdD h
          refine A_last X g19 shM_41 dX12_ways_185 (fun s20 hy => ?_)
          replace h := ltD h s20 hy
          clear hy
          exact w_X12_ways_186 X E hk88 x1 x2 x3 x4 s20 h
        · replace h := ifF h c16
          refine A_goto X (tgt := 186) (by decide) dX12_ways_161 ?_
          exact w_X12_ways_186 X E hk88 x1 x2 x3 x4 σ h
set_option maxRecDepth 100000 in
set_option maxHeartbeats 4000000 in
theorem w_X12_ways_88 {x : aC} {r : Int × Hp} {k20 : Int × Hp → Option (Int × Hp)} (X : aX x cX12_ways wsX12_ways RX12 5 rm_X12_ways) (E : aE x shM (some .int) 0 r) (hk20 : ∀ (x1 : Int) (σ : Hp), k20 (x1, σ) = some r → aS x shM 5 20 [(0, vR 0), (1, vI x1)] [] σ) : ∀ (n : Nat) (x1 : Int) (x2 : Int) (x3 : Int) (x4 : Int) (σ : Hp) (h : F_M_ways_88 k20 n (x1, x2, x3, x4, σ) = some r), aS x shM 5 88 [(0, vR 0), (1, vI x1), (2, vI x2), (3, vI x3), (4, vI x4)] [] σ := by
  intro n
  induction n with
  | zero => intro x1 x2 x3 x4 σ h; cases h
  | succ n ih => intro x1 x2 x3 x4 σ h; exact w_X12_ways_88_b (k88 := F_M_ways_88 k20 n) X E hk20 ih x1 x2 x3 x4 σ h
set_option maxRecDepth 100000 in
set_option maxHeartbeats 4000000 in
theorem w_X12_ways_82 {x : aC} {r : Int × Hp} {k20 : Int × Hp → Option (Int × Hp)} (X : aX x cX12_ways wsX12_ways RX12 5 rm_X12_ways) (E : aE x shM (some .int) 0 r) (hk20 : ∀ (x1 : Int) (σ : Hp), k20 (x1, σ) = some r → aS x shM 5 20 [(0, vR 0), (1, vI x1)] [] σ) (x1 : Int) (x2 : Int) (x3 : Int) (t3 : Int) (t2 : Int) (σ : Hp) (h : F_M_ways_82 k20 x1 x2 x3 t3 t2 σ = some r) : aS x shM 5 82 [(0, vR 0), (1, vI x1), (2, vI x2), (3, vI x3)] [vL t3, vI t2, vR 41] σ := by
  unfold F_M_ways_82 at h
  obtain ⟨g21, h⟩ := gdD h
  refine A_last X g21 shM_41 dX12_ways_82 (fun s22 hy => ?_)
  replace h := ltD h s22 hy
  clear hy
  refine A_iload_n X 2 rfl rfl dX12_ways_83 ?_
  refine A_iconst X dX12_ways_84 (z := 1) (by decide) ?_
  refine A_iadd X dX12_ways_85 ?_
  refine A_istoreN X (L' := fun y4_23 => [(4, vI y4_23), (0, vR 0), (1, vI x1), (2, vI x2), (3, vI x3)]) (by decide) (fun _ => rfl) dX12_ways_86 (fun y4_23 hy => ?_)
  replace h := ltD h y4_23 hy
  clear hy
  refine A_sub [1, 2, 3, 4, 0] rfl (L' := [(0, vR 0), (1, vI x1), (2, vI x2), (3, vI x3), (4, vI y4_23)]) rfl ?_
  exact w_X12_ways_88 X E hk20 FU x1 x2 x3 y4_23 s22 h
set_option maxRecDepth 100000 in
set_option maxHeartbeats 4000000 in
theorem w_X12_ways_30_b {x : aC} {r : Int × Hp} {k20 : Int × Hp → Option (Int × Hp)} {k30 : Int × Int × Hp → Option (Int × Hp)} (X : aX x cX12_ways wsX12_ways RX12 5 rm_X12_ways) (E : aE x shM (some .int) 0 r) (hk20 : ∀ (x1 : Int) (σ : Hp), k20 (x1, σ) = some r → aS x shM 5 20 [(0, vR 0), (1, vI x1)] [] σ) (hk30 : ∀ (x1 : Int) (x2 : Int) (σ : Hp), k30 (x1, x2, σ) = some r → aS x shM 5 30 [(0, vR 0), (1, vI x1), (2, vI x2)] [] σ) (x1 : Int) (x2 : Int) (σ : Hp) (h : F_M_ways_30_b k20 k30 x1 x2 σ = some r) : aS x shM 5 30 [(0, vR 0), (1, vI x1), (2, vI x2)] [] σ := by
  unfold F_M_ways_30_b at h
  refine A_iload_n X 1 rfl rfl dX12_ways_30 ?_
  refine A_iload_n X 2 rfl rfl dX12_ways_31 ?_
  refine A_ishr X dX12_ways_32 ?_
  refine A_iconst X dX12_ways_33 (z := 1) (by decide) ?_
  refine A_iand X dX12_ways_34 ?_
  refine A_if_ne X (tgt := 44) (by decide) dX12_ways_35 (fun c24 => ?_) (fun c24 => ?_)
  · replace h := ifF h c24
    refine A_iload_n X 1 rfl rfl dX12_ways_44 ?_
    refine A_iconst X dX12_ways_45 (z := 1) (by decide) ?_
    refine A_iload_n X 2 rfl rfl dX12_ways_46 ?_
    refine A_ishl X dX12_ways_47 ?_
    refine A_iconst X dX12_ways_48 (z := (-1)) (by decide) ?_
    refine A_ixor X dX12_ways_49 ?_
    refine A_iand X dX12_ways_50 ?_
    refine A_istore_nN X (L' := fun y3_25 => [(3, vI y3_25), (0, vR 0), (1, vI x1), (2, vI x2)]) rfl (by decide) (fun _ => rfl) dX12_ways_51 (fun y3_25 hy => ?_)
    replace h := ltD h y3_25 hy
    clear hy
    refine A_aload_n X 1 rfl rfl dX12_ways_52 ?_
    refine A_getR X fg_X12_ways_201 shM_0 (k := 62) rfl (by decide) dX12_ways_53 ?_
    refine A_iload_n X 2 rfl rfl dX12_ways_56 ?_
    refine A_aload_n X 1 rfl rfl dX12_ways_57 ?_
    refine A_getR X fg_X12_ways_171 shM_0 (k := 52) rfl (by decide) dX12_ways_58 ?_
    refine A_iload_n X 0 rfl rfl dX12_ways_61 ?_
    obtain ⟨g26, h⟩ := gdD h
    refine A_iald X g26 shM_32 dX12_ways_62 ?_
    refine A_aload_n X 1 rfl rfl dX12_ways_63 ?_
    refine A_getR X fg_X12_ways_171 shM_0 (k := 52) rfl (by decide) dX12_ways_64 ?_
    refine A_iload_n X 2 rfl rfl dX12_ways_67 ?_
    obtain ⟨g27, h⟩ := gdD h
    refine A_iald X g27 shM_32 dX12_ways_68 ?_
    refine A_icmp_ne X (tgt := 81) (by decide) dX12_ways_69 (fun c28 => ?_) (fun c28 => ?_)
    · replace h := ifF h c28
      refine A_lconst X dX12_ways_81 (z := 0) (by decide) ?_
      refine A_sub [1, 2, 3, 0] rfl (L' := [(0, vR 0), (1, vI x1), (2, vI x2), (3, vI y3_25)]) rfl ?_
      exact w_X12_ways_82 X E hk20 x1 x2 y3_25 0 x1 σ h
    · replace h := ifT h c28
      refine A_aload_n X 1 rfl rfl dX12_ways_72 ?_
      refine A_getR X fg_X12_ways_201 shM_0 (k := 62) rfl (by decide) dX12_ways_73 ?_
      refine A_iload_n X 0 rfl rfl dX12_ways_76 ?_
      obtain ⟨g29, h⟩ := gdD h
      refine A_lald X g29 shM_41 dX12_ways_77 ?_
      refine A_goto X (tgt := 82) (by decide) dX12_ways_78 ?_
      refine A_sub [1, 2, 3, 0] rfl (L' := [(0, vR 0), (1, vI x1), (2, vI x2), (3, vI y3_25)]) rfl ?_
      exact w_X12_ways_82 X E hk20 x1 x2 y3_25 (σ 41 y3_25.toNat) x1 σ h
  · replace h := ifT h c24
    refine A_iinc X (L' := fun y2_30 => [(2, vI y2_30), (0, vR 0), (1, vI x1)]) 2 rfl (by decide) (fun _ => rfl) dX12_ways_38 (by decide) (fun y2_30 hy => ?_)
    replace h := ltD h y2_30 hy
    clear hy
    refine A_goto X (tgt := 30) (by decide) dX12_ways_41 ?_
    refine A_sub [1, 2, 0] rfl (L' := [(0, vR 0), (1, vI x1), (2, vI y2_30)]) rfl ?_
    exact hk30 x1 y2_30 σ h
set_option maxRecDepth 100000 in
set_option maxHeartbeats 4000000 in
theorem w_X12_ways_30 {x : aC} {r : Int × Hp} {k20 : Int × Hp → Option (Int × Hp)} (X : aX x cX12_ways wsX12_ways RX12 5 rm_X12_ways) (E : aE x shM (some .int) 0 r) (hk20 : ∀ (x1 : Int) (σ : Hp), k20 (x1, σ) = some r → aS x shM 5 20 [(0, vR 0), (1, vI x1)] [] σ) : ∀ (n : Nat) (x1 : Int) (x2 : Int) (σ : Hp) (h : F_M_ways_30 k20 n (x1, x2, σ) = some r), aS x shM 5 30 [(0, vR 0), (1, vI x1), (2, vI x2)] [] σ := by
  intro n
  induction n with
  | zero => intro x1 x2 σ h; cases h
  | succ n ih => intro x1 x2 σ h; exact w_X12_ways_30_b (k30 := F_M_ways_30 k20 n) X E hk20 ih x1 x2 σ h
set_option maxRecDepth 100000 in
set_option maxHeartbeats 4000000 in
theorem w_X12_ways_20_b {x : aC} {r : Int × Hp} {k20 : Int × Hp → Option (Int × Hp)} (X : aX x cX12_ways wsX12_ways RX12 5 rm_X12_ways) (E : aE x shM (some .int) 0 r) (hk20 : ∀ (x1 : Int) (σ : Hp), k20 (x1, σ) = some r → aS x shM 5 20 [(0, vR 0), (1, vI x1)] [] σ) (x1 : Int) (σ : Hp) (h : F_M_ways_20_b k20 x1 σ = some r) : aS x shM 5 20 [(0, vR 0), (1, vI x1)] [] σ := by
  unfold F_M_ways_20_b at h
  refine A_iload_n X 1 rfl rfl dX12_ways_20 ?_
  refine A_aload_n X 0 rfl rfl dX12_ways_21 ?_
  obtain ⟨v31, s32, e33, h⟩ := clD h
  refine A_callV_I (na := 0) X (m_X12_all e33) gX12_ways_X12_all rfl ⟨rfl, rfl⟩ (by decide +kernel) rfl ⟨Nat.le_of_ble_eq_true rfl, Nat.le_of_ble_eq_true rfl⟩ shM_0 (by decide) rfl rfl (Nat.le_of_ble_eq_true rfl) dX12_ways_22 ?_
  refine A_icmp_gt X (tgt := 229) (by decide) dX12_ways_25 (fun c34 => ?_) (fun c34 => ?_)
  · replace h := ifT h c34
    refine A_aload_n X 0 rfl rfl dX12_ways_229 ?_
    refine A_getR X fg_X12_ways_201 shM_0 (k := 62) rfl (by decide) dX12_ways_230 ?_
    refine A_aload_n X 0 rfl rfl dX12_ways_233 ?_
    obtain ⟨v35, s36, e37, h⟩ := clD h
    refine A_callV_I (na := 0) X (m_X12_all e37) gX12_ways_X12_all rfl ⟨rfl, rfl⟩ (by decide +kernel) rfl ⟨Nat.le_of_ble_eq_true rfl, Nat.le_of_ble_eq_true rfl⟩ shM_0 (by decide) rfl rfl (Nat.le_of_ble_eq_true rfl) dX12_ways_234 ?_
    obtain ⟨g38, h⟩ := gdD h
    refine A_lald X g38 shM_41 dX12_ways_237 ?_
    refine A_l2i X dX12_ways_238 ?_
    exact A_ireturn X E h dX12_ways_239
  · replace h := ifF h c34
    refine A_iconst X dX12_ways_28 (z := 0) (by decide) ?_
    refine A_istore_n X (L' := [(2, vI 0), (0, vR 0), (1, vI x1)]) rfl (by decide) rfl dX12_ways_29 ?_
    refine A_sub [1, 2, 0] rfl (L' := [(0, vR 0), (1, vI x1), (2, vI 0)]) rfl ?_
    exact w_X12_ways_30 X E hk20 FU x1 0 s32 h
set_option maxRecDepth 100000 in
set_option maxHeartbeats 4000000 in
theorem w_X12_ways_20 {x : aC} {r : Int × Hp} (X : aX x cX12_ways wsX12_ways RX12 5 rm_X12_ways) (E : aE x shM (some .int) 0 r) : ∀ (n : Nat) (x1 : Int) (σ : Hp) (h : F_M_ways_20 n (x1, σ) = some r), aS x shM 5 20 [(0, vR 0), (1, vI x1)] [] σ := by
  intro n
  induction n with
  | zero => intro x1 σ h; cases h
  | succ n ih => intro x1 σ h; exact w_X12_ways_20_b (k20 := F_M_ways_20 n) X E ih x1 σ h
set_option maxRecDepth 100000 in
set_option maxHeartbeats 4000000 in
theorem m_X12_ways {l : Launch} {g : aG} {σ : Hp} {r : Int × Hp} (h : F_M_ways σ = some r) : aMet l g shM yX12_ways wsX12_ways rm_X12_ways [vR 0] σ 0 r := by
  unfold F_M_ways at h
  refine aMet_of (bytes := cX12_ways) (maxL := 5) (ret := (some .int)) (by decide +kernel) rfl (Nat.le_of_ble_eq_true rfl) ⟨rfl, rfl⟩ (fun x e1 e2 X E => ?_)
  subst e1; subst e2
  have X : aX x cX12_ways wsX12_ways RX12 5 rm_X12_ways := X
  show aS x shM 5 0 [(0, vR 0)] [] σ
  refine A_aload_n X 0 rfl rfl dX12_ways_0 ?_
  refine A_iconst X dX12_ways_1 (z := (-1)) (by decide) ?_
  refine A_iconst X dX12_ways_2 (z := 0) (by decide) ?_
  obtain ⟨v39, s40, e41, h⟩ := clD h
  refine A_callV_V (na := 2) X (m_X12_lays e41) gX12_ways_X12_lays rfl ⟨rfl, rfl⟩ (by decide +kernel) rfl ⟨Nat.le_of_ble_eq_true rfl, Nat.le_of_ble_eq_true rfl⟩ shM_0 (by decide) rfl rfl (Nat.le_of_ble_eq_true rfl) dX12_ways_3 ?_
  refine A_aload_n X 0 rfl rfl dX12_ways_6 ?_
  refine A_iconst X dX12_ways_7 (z := (-1)) (by decide) ?_
  obtain ⟨v42, s43, e44, h⟩ := clD h
  refine A_callV_V (na := 1) X (m_X12_mosts e44) gX12_ways_X12_mosts rfl ⟨rfl, rfl⟩ (by decide +kernel) rfl ⟨Nat.le_of_ble_eq_true rfl, Nat.le_of_ble_eq_true rfl⟩ shM_0 (by decide) rfl rfl (Nat.le_of_ble_eq_true rfl) dX12_ways_8 ?_
  refine A_aload_n X 0 rfl rfl dX12_ways_11 ?_
  refine A_getR X fg_X12_ways_201 shM_0 (k := 62) rfl (by decide) dX12_ways_12 ?_
  refine A_iconst X dX12_ways_15 (z := 0) (by decide) ?_
  refine A_lconst X dX12_ways_16 (z := 1) (by decide) ?_
  refine A_last X (by decide) shM_41 dX12_ways_17 (fun s45 hy => ?_)
  replace h := ltD h s45 hy
  clear hy
  refine A_iconst X dX12_ways_18 (z := 1) (by decide) ?_
  refine A_istore_n X (L' := [(1, vI 1), (0, vR 0)]) rfl (by decide) rfl dX12_ways_19 ?_
  refine A_sub [1, 0] rfl (L' := [(0, vR 0), (1, vI 1)]) rfl ?_
  exact w_X12_ways_20 X E FU 1 s45 h
abbrev rm_X12_worth : Room := { frames := 2, cells := 0, slots := 0, locals := 43 }
set_option maxRecDepth 100000 in
set_option maxHeartbeats 4000000 in
theorem w_X12_worth_30 {x : aC} {r : Int × Hp} {a1 : Int} {a2 : Int} (X : aX x cX12_worth wsX12_worth RX12 3 rm_X12_worth) (E : aE x shM (some .int) 0 r) (t1 : Int) (σ : Hp) (h : F_M_worth_30 a1 a2 t1 σ = some r) : aS x shM 3 30 [] [vI t1] σ := by
  unfold F_M_worth_30 at h
  exact A_ireturn X E h dX12_worth_30
set_option maxRecDepth 100000 in
set_option maxHeartbeats 4000000 in
theorem w_X12_worth_29 {x : aC} {r : Int × Hp} {a1 : Int} {a2 : Int} (X : aX x cX12_worth wsX12_worth RX12 3 rm_X12_worth) (E : aE x shM (some .int) 0 r) (σ : Hp) (h : F_M_worth_29 a1 a2 σ = some r) : aS x shM 3 29 [] [] σ := by
  unfold F_M_worth_29 at h
  refine A_iconst X dX12_worth_29 (z := (-1)) (by decide) ?_
  exact w_X12_worth_30 (a1 := a1) (a2 := a2) X E (-1) σ h
set_option maxRecDepth 100000 in
set_option maxHeartbeats 4000000 in
theorem m_X12_worth {l : Launch} {g : aG} {a1 : Int} {a2 : Int} {σ : Hp} {r : Int × Hp} (h : F_M_worth a1 a2 σ = some r) : aMet l g shM yX12_worth wsX12_worth rm_X12_worth [vR 0, vI a1, vI a2] σ 0 r := by
  unfold F_M_worth at h
  refine aMet_of (bytes := cX12_worth) (maxL := 3) (ret := (some .int)) (by decide +kernel) rfl (Nat.le_of_ble_eq_true rfl) ⟨rfl, rfl⟩ (fun x e1 e2 X E => ?_)
  subst e1; subst e2
  have X : aX x cX12_worth wsX12_worth RX12 3 rm_X12_worth := X
  show aS x shM 3 0 [(0, vR 0), (1, vI a1), (2, vI a2)] [] σ
  refine A_aload_n X 0 rfl rfl dX12_worth_0 ?_
  refine A_iload_n X 1 rfl rfl dX12_worth_1 ?_
  obtain ⟨v1, s2, e3, h⟩ := clD h
  refine A_callV_I (na := 1) X (m_X12_isRoad e3) gX12_worth_X12_isRoad rfl ⟨rfl, rfl⟩ (by decide +kernel) rfl ⟨Nat.le_of_ble_eq_true rfl, Nat.le_of_ble_eq_true rfl⟩ shM_0 (by decide) rfl rfl (Nat.le_of_ble_eq_true rfl) dX12_worth_2 ?_
  refine A_if_eq X (tgt := 29) (by decide) dX12_worth_5 (fun c4 => ?_) (fun c4 => ?_)
  · replace h := ifT h c4
    refine A_sub [] rfl (L' := []) rfl ?_
    exact w_X12_worth_29 (a1 := a1) (a2 := a2) X E s2 h
  · replace h := ifF h c4
    refine A_iload_n X 2 rfl rfl dX12_worth_8 ?_
    refine A_bipush X dX12_worth_9 (z := (-2)) (by decide) ?_
    refine A_ldcw X (v := (100000)) (List.mem_of_getElem? (i := 1) rfl) dX12_worth_11 (z := 100000) (by decide) ?_
    obtain ⟨v5, s6, e7, h⟩ := clD h
    refine A_callS_I (na := 3) X (m_X12_is e7) gX12_worth_X12_is rfl ⟨rfl, rfl⟩ (by decide +kernel) rfl ⟨Nat.le_of_ble_eq_true rfl, Nat.le_of_ble_eq_true rfl⟩ rfl (Nat.le_of_ble_eq_true rfl) dX12_worth_14 ?_
    refine A_if_eq X (tgt := 29) (by decide) dX12_worth_17 (fun c8 => ?_) (fun c8 => ?_)
    · replace h := ifT h c8
      refine A_sub [] rfl (L' := []) rfl ?_
      exact w_X12_worth_29 (a1 := a1) (a2 := a2) X E s6 h
    · replace h := ifF h c8
      refine A_aload_n X 0 rfl rfl dX12_worth_20 ?_
      refine A_iload_n X 1 rfl rfl dX12_worth_21 ?_
      refine A_iload_n X 2 rfl rfl dX12_worth_22 ?_
      obtain ⟨v9, s10, e11, h⟩ := clD h
      refine A_callV_I (na := 2) X (m_X12_enter e11) gX12_worth_X12_enter rfl ⟨rfl, rfl⟩ (by decide +kernel) rfl ⟨Nat.le_of_ble_eq_true rfl, Nat.le_of_ble_eq_true rfl⟩ shM_0 (by decide) rfl rfl (Nat.le_of_ble_eq_true rfl) dX12_worth_23 ?_
      refine A_goto X (tgt := 30) (by decide) dX12_worth_26 ?_
      refine A_sub [] rfl (L' := []) rfl ?_
      exact w_X12_worth_30 (a1 := a1) (a2 := a2) X E v9 s10 h

