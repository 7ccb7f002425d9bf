abbrev rm_X3_part : Room := { frames := 0, cells := 0, slots := 0, locals := 0 }
theorem in_X3_part_3 : ∀ w ∈ u_ws RX3 TX3 11, w ∈ wsX3_part := fun w h => List.mem_cons_of_mem _ (List.mem_append_left _ (List.mem_append_left _ (List.mem_append_right _ h)))
theorem fg_X3_part_22 : aFl wsX3_part RX3 22 3 4 := ⟨RX3, TX3, 11, rfl, in_X3_part_3, by decide, (List.mem_of_getElem? (i := 1) rfl), rfl⟩
theorem fg_X3_part_41 : aFl wsX3_part RX3 41 3 6 := ⟨RX3, TX3, 11, rfl, in_X3_part_3, by decide, (List.mem_of_getElem? (i := 2) rfl), rfl⟩
theorem in_X3_part_6 : ∀ w ∈ u_ws RX6 TX6 20, w ∈ wsX3_part := fun w h => List.mem_cons_of_mem _ (List.mem_append_left _ (List.mem_append_right _ h))
theorem fg_X3_part_74 : aFl wsX3_part RX3 74 6 2 := ⟨RX6, TX6, 20, rfl, in_X3_part_6, by decide, (List.mem_of_getElem? (i := 3) rfl), rfl⟩
theorem fg_X3_part_75 : aFl wsX3_part RX3 75 6 3 := ⟨RX6, TX6, 20, rfl, in_X3_part_6, by decide, (List.mem_of_getElem? (i := 4) rfl), rfl⟩
theorem fg_X3_part_31 : aFl wsX3_part RX3 31 3 5 := ⟨RX3, TX3, 11, rfl, in_X3_part_3, by decide, (List.mem_of_getElem? (i := 5) rfl), rfl⟩
theorem in_X3_part_10 : ∀ w ∈ u_ws RX10 TX10 3, w ∈ wsX3_part := fun w h => List.mem_cons_of_mem _ (List.mem_append_right _ h)
theorem fg_X3_part_81 : aFl wsX3_part RX3 81 10 1 := ⟨RX10, TX10, 3, rfl, in_X3_part_10, by decide, (List.mem_of_getElem? (i := 6) rfl), rfl⟩
set_option maxRecDepth 100000 in
set_option maxHeartbeats 4000000 in
theorem m_X3_part {l : Launch} {g : aG} {a1 : Int} {a2 : Int} {σ : Hp} {r : Int × Hp} (h : F_Deals_part a1 a2 σ = some r) : aMet l g shC yX3_part wsX3_part rm_X3_part [vR 173, vI a1, vI a2] σ 3 r := by
  unfold F_Deals_part at h
  refine aMet_of (bytes := cX3_part) (maxL := 3) (ret := none) (by decide +kernel) rfl (Nat.le_of_ble_eq_true rfl) ⟨rfl, rfl⟩ (fun x e1 e2 X E => ?_)
  subst e1; subst e2
  have X : aX x cX3_part wsX3_part RX3 3 rm_X3_part := X
  show aS x shC 3 0 [(0, vR 173), (1, vI a1), (2, vI a2)] [] σ
  refine A_aload_n X 0 rfl rfl dX3_part_0 ?_
  refine A_getR X fg_X3_part_22 shC_173 (k := 4) rfl (by decide) dX3_part_1 ?_
  refine A_aload_n X 0 rfl rfl dX3_part_4 ?_
  refine A_getV X fg_X3_part_41 shC_173 (k := 6) rfl (by decide) dX3_part_5 ?_
  obtain ⟨q1, hy⟩ : ∃ y, y = (σ 173 6).toNat := ⟨_, rfl⟩
  replace h := ltD h q1 hy
  rw [← hy]
  clear hy
  obtain ⟨g2, h⟩ := gdD h
  refine A_getR X fg_X3_part_74 (shNet g2) (k := 2) rfl (by decide) dX3_part_8 ?_
  refine A_iload_n X 1 rfl rfl dX3_part_11 ?_
  obtain ⟨g3, h⟩ := gdD h
  refine A_iald X g3 (shNet_first g2) dX3_part_12 ?_
  refine A_iload_n X 2 rfl rfl dX3_part_13 ?_
  obtain ⟨g4, h⟩ := gdD h
  refine A_iast X g4 shC_177 dX3_part_14 (fun s5 hy => ?_)
  replace h := ltD h s5 hy
  clear hy
  refine A_aload_n X 0 rfl rfl dX3_part_15 ?_
  refine A_getR X fg_X3_part_22 shC_173 (k := 4) rfl (by decide) dX3_part_16 ?_
  refine A_aload_n X 0 rfl rfl dX3_part_19 ?_
  refine A_getV X fg_X3_part_41 shC_173 (k := 6) rfl (by decide) dX3_part_20 ?_
  obtain ⟨q6, hy⟩ : ∃ y, y = (s5 173 6).toNat := ⟨_, rfl⟩
  replace h := ltD h q6 hy
  rw [← hy]
  clear hy
  obtain ⟨g7, h⟩ := gdD h
  refine A_getR X fg_X3_part_75 (shNet g7) (k := 3) rfl (by decide) dX3_part_23 ?_
  refine A_iload_n X 1 rfl rfl dX3_part_26 ?_
  obtain ⟨g8, h⟩ := gdD h
  refine A_iald X g8 (shNet_second g7) dX3_part_27 ?_
  refine A_aload_n X 0 rfl rfl dX3_part_28 ?_
  refine A_getA X fg_X3_part_31 shC_173 (k := 5) rfl (by decide) dX3_part_29 ?_
  refine A_getR X fg_X3_part_81 shC_88 (k := 1) rfl (by decide) dX3_part_32 ?_
  refine A_iload_n X 1 rfl rfl dX3_part_35 ?_
  obtain ⟨g9, h⟩ := gdD h
  refine A_iald X g9 shC_90 dX3_part_36 ?_
  refine A_iload_n X 2 rfl rfl dX3_part_37 ?_
  refine A_isub X dX3_part_38 ?_
  obtain ⟨g10, h⟩ := gdD h
  refine A_iast X g10 shC_177 dX3_part_39 (fun s11 hy => ?_)
  replace h := ltD h s11 hy
  clear hy
  exact A_return X E h dX3_part_40
abbrev rm_X3_settle : Room := { frames := 1, cells := 0, slots := 0, locals := 22 }
theorem in_X3_settle_3 : ∀ w ∈ u_ws RX3 TX3 11, w ∈ wsX3_settle := fun w h => List.mem_cons_of_mem _ (List.mem_append_left _ (List.mem_append_left _ (List.mem_append_right _ h)))
theorem fg_X3_settle_41 : aFl wsX3_settle RX3 41 3 6 := ⟨RX3, TX3, 11, rfl, in_X3_settle_3, by decide, (List.mem_of_getElem? (i := 3) rfl), rfl⟩
theorem in_X3_settle_6 : ∀ w ∈ u_ws RX6 TX6 20, w ∈ wsX3_settle := fun w h => List.mem_cons_of_mem _ (List.mem_append_right _ h)
theorem fg_X3_settle_53 : aFl wsX3_settle RX3 53 6 16 := ⟨RX6, TX6, 20, rfl, in_X3_settle_6, by decide, (List.mem_of_getElem? (i := 9) rfl), rfl⟩
theorem fg_X3_settle_9 : aFl wsX3_settle RX3 9 3 0 := ⟨RX3, TX3, 11, rfl, in_X3_settle_3, by decide, (List.mem_of_getElem? (i := 10) rfl), rfl⟩
theorem fg_X3_settle_31 : aFl wsX3_settle RX3 31 3 5 := ⟨RX3, TX3, 11, rfl, in_X3_settle_3, by decide, (List.mem_of_getElem? (i := 1) rfl), rfl⟩
theorem in_X3_settle_10 : ∀ w ∈ u_ws RX10 TX10 3, w ∈ wsX3_settle := fun w h => List.mem_cons_of_mem _ (List.mem_append_left _ (List.mem_append_right _ h))
theorem fg_X3_settle_71 : aFl wsX3_settle RX3 71 10 0 := ⟨RX10, TX10, 3, rfl, in_X3_settle_10, by decide, (List.mem_of_getElem? (i := 11) rfl), rfl⟩
theorem fg_X3_settle_62 : aFl wsX3_settle RX3 62 3 8 := ⟨RX3, TX3, 11, rfl, in_X3_settle_3, by decide, (List.mem_of_getElem? (i := 4) rfl), rfl⟩
theorem fg_X3_settle_19 : aFl wsX3_settle RX3 19 3 3 := ⟨RX3, TX3, 11, rfl, in_X3_settle_3, by decide, (List.mem_of_getElem? (i := 6) rfl), rfl⟩
theorem fg_X3_settle_74 : aFl wsX3_settle RX3 74 6 2 := ⟨RX6, TX6, 20, rfl, in_X3_settle_6, by decide, (List.mem_of_getElem? (i := 12) rfl), rfl⟩
theorem fg_X3_settle_75 : aFl wsX3_settle RX3 75 6 3 := ⟨RX6, TX6, 20, rfl, in_X3_settle_6, by decide, (List.mem_of_getElem? (i := 13) rfl), rfl⟩
theorem fg_X3_settle_15 : aFl wsX3_settle RX3 15 3 1 := ⟨RX3, TX3, 11, rfl, in_X3_settle_3, by decide, (List.mem_of_getElem? (i := 14) rfl), rfl⟩
theorem fg_X3_settle_25 : aFl wsX3_settle RX3 25 3 7 := ⟨RX3, TX3, 11, rfl, in_X3_settle_3, by decide, (List.mem_of_getElem? (i := 15) rfl), rfl⟩
theorem fp_X3_settle_62 : aFp wsX3_settle RX3 62 3 8 .int := ⟨RX3, TX3, 11, tyX3, rfl, in_X3_settle_3, by decide, (List.mem_of_getElem? (i := 4) rfl), rfl, tyX3_ok, nmX3, rfl, rfl⟩
theorem fg_X3_settle_65 : aFl wsX3_settle RX3 65 6 15 := ⟨RX6, TX6, 20, rfl, in_X3_settle_6, by decide, (List.mem_of_getElem? (i := 5) rfl), rfl⟩
theorem fg_X3_settle_22 : aFl wsX3_settle RX3 22 3 4 := ⟨RX3, TX3, 11, rfl, in_X3_settle_3, by decide, (List.mem_of_getElem? (i := 7) rfl), rfl⟩
theorem fg_X3_settle_68 : aFl wsX3_settle RX3 68 6 1 := ⟨RX6, TX6, 20, rfl, in_X3_settle_6, by decide, (List.mem_of_getElem? (i := 8) rfl), rfl⟩
theorem fg_X3_settle_35 : aFl wsX3_settle RX3 35 10 2 := ⟨RX10, TX10, 3, rfl, in_X3_settle_10, by decide, (List.mem_of_getElem? (i := 2) rfl), rfl⟩
theorem fp_X3_settle_41 : aFp wsX3_settle RX3 41 3 6 (.object "RoadDeals$Net") := ⟨RX3, TX3, 11, tyX3, rfl, in_X3_settle_3, by decide, (List.mem_of_getElem? (i := 3) rfl), rfl, tyX3_ok, nmX3, rfl, rfl⟩
set_option maxRecDepth 100000 in
set_option maxHeartbeats 4000000 in
theorem w_X3_settle_161 {x : aC} {r : Int × Hp} {k59 : Int × Hp → Option (Int × Hp)} (X : aX x cX3_settle wsX3_settle RX3 2 rm_X3_settle) (E : aE x shC none 3 r) (hk59 : ∀ (x1 : Int) (σ : Hp), k59 (x1, σ) = some r → aS x shC 2 59 [(0, vR 173), (1, vI x1)] [] σ) (x1 : Int) (σ : Hp) (h : F_Deals_settle_161 k59 x1 σ = some r) : aS x shC 2 161 [(0, vR 173), (1, vI x1)] [] σ := by
  unfold F_Deals_settle_161 at h
  refine A_iinc X (L' := fun y1_1 => [(1, vI y1_1), (0, vR 173)]) 1 rfl (by decide) (fun _ => rfl) dX3_settle_161 (by decide) (fun y1_1 hy => ?_)
  replace h := ltD h y1_1 hy
  clear hy
  refine A_goto X (tgt := 59) (by decide) dX3_settle_164 ?_
  refine A_sub [1, 0] rfl (L' := [(0, vR 173), (1, vI y1_1)]) rfl ?_
  exact hk59 y1_1 σ h
set_option maxRecDepth 100000 in
set_option maxHeartbeats 4000000 in
theorem w_X3_settle_59_b {x : aC} {r : Int × Hp} {k59 : Int × Hp → Option (Int × Hp)} (X : aX x cX3_settle wsX3_settle RX3 2 rm_X3_settle) (E : aE x shC none 3 r) (hk59 : ∀ (x1 : Int) (σ : Hp), k59 (x1, σ) = some r → aS x shC 2 59 [(0, vR 173), (1, vI x1)] [] σ) (x1 : Int) (σ : Hp) (h : F_Deals_settle_59_b k59 x1 σ = some r) : aS x shC 2 59 [(0, vR 173), (1, vI x1)] [] σ := by
  unfold F_Deals_settle_59_b at h
  refine A_iload_n X 1 rfl rfl dX3_settle_59 ?_
  refine A_aload_n X 0 rfl rfl dX3_settle_60 ?_
  refine A_getV X fg_X3_settle_41 shC_173 (k := 6) rfl (by decide) dX3_settle_61 ?_
  obtain ⟨q2, hy⟩ : ∃ y, y = (σ 173 6).toNat := ⟨_, rfl⟩
  replace h := ltD h q2 hy
  rw [← hy]
  clear hy
  obtain ⟨g3, h⟩ := gdD h
  refine A_getI X fg_X3_settle_53 (shNet g3) (k := 16) rfl (by decide) dX3_settle_64 ?_
  refine A_icmp_ge X (tgt := 167) (by decide) dX3_settle_67 (fun c4 => ?_) (fun c4 => ?_)
  · replace h := ifT h c4
    exact A_return X E h dX3_settle_167
  · replace h := ifF h c4
    refine A_aload_n X 0 rfl rfl dX3_settle_70 ?_
    refine A_getR X fg_X3_settle_9 shC_173 (k := 0) rfl (by decide) dX3_settle_71 ?_
    refine A_iload_n X 1 rfl rfl dX3_settle_74 ?_
    obtain ⟨g5, h⟩ := gdD h
    refine A_zald X g5 shC_174 dX3_settle_75 ?_
    refine A_if_eq X (tgt := 161) (by decide) dX3_settle_76 (fun c6 => ?_) (fun c6 => ?_)
    · replace h := ifT h c6
      exact w_X3_settle_161 X E hk59 x1 σ h
    · replace h := ifF h c6
      refine A_aload_n X 0 rfl rfl dX3_settle_79 ?_
      refine A_getA X fg_X3_settle_31 shC_173 (k := 5) rfl (by decide) dX3_settle_80 ?_
      refine A_getR X fg_X3_settle_71 shC_88 (k := 0) rfl (by decide) dX3_settle_83 ?_
      refine A_iload_n X 1 rfl rfl dX3_settle_86 ?_
      obtain ⟨g7, h⟩ := gdD h
      refine A_zald X g7 shC_89 dX3_settle_87 ?_
      refine A_if_eq X (tgt := 161) (by decide) dX3_settle_88 (fun c8 => ?_) (fun c8 => ?_)
      · replace h := ifT h c8
        exact w_X3_settle_161 X E hk59 x1 σ h
      · replace h := ifF h c8
        refine A_aload_n X 0 rfl rfl dX3_settle_91 ?_
        refine A_getI X fg_X3_settle_62 shC_173 (k := 8) rfl (by decide) dX3_settle_92 ?_
        refine A_bipush X dX3_settle_95 (z := 6) (by decide) ?_
        refine A_icmp_ge X (tgt := 161) (by decide) dX3_settle_97 (fun c9 => ?_) (fun c9 => ?_)
        · replace h := ifT h c9
          exact w_X3_settle_161 X E hk59 x1 σ h
        · replace h := ifF h c9
          refine A_aload_n X 0 rfl rfl dX3_settle_100 ?_
          refine A_getR X fg_X3_settle_19 shC_173 (k := 3) rfl (by decide) dX3_settle_101 ?_
          refine A_aload_n X 0 rfl rfl dX3_settle_104 ?_
          refine A_getV X fg_X3_settle_41 shC_173 (k := 6) rfl (by decide) dX3_settle_105 ?_
          obtain ⟨q10, hy⟩ : ∃ y, y = (σ 173 6).toNat := ⟨_, rfl⟩
          replace h := ltD h q10 hy
          rw [← hy]
          clear hy
          obtain ⟨g11, h⟩ := gdD h
          refine A_getR X fg_X3_settle_74 (shNet g11) (k := 2) rfl (by decide) dX3_settle_108 ?_
          refine A_iload_n X 1 rfl rfl dX3_settle_111 ?_
          obtain ⟨g12, h⟩ := gdD h
          refine A_iald X g12 (shNet_first g11) dX3_settle_112 ?_
          refine A_iload_n X 1 rfl rfl dX3_settle_113 ?_
          obtain ⟨g13, h⟩ := gdD h
          refine A_iast X g13 shC_176 dX3_settle_114 (fun s14 hy => ?_)
          replace h := ltD h s14 hy
          clear hy
          refine A_aload_n X 0 rfl rfl dX3_settle_115 ?_
          refine A_getR X fg_X3_settle_19 shC_173 (k := 3) rfl (by decide) dX3_settle_116 ?_
          refine A_aload_n X 0 rfl rfl dX3_settle_119 ?_
          refine A_getV X fg_X3_settle_41 shC_173 (k := 6) rfl (by decide) dX3_settle_120 ?_
          obtain ⟨q15, hy⟩ : ∃ y, y = (s14 173 6).toNat := ⟨_, rfl⟩
          replace h := ltD h q15 hy
          rw [← hy]
          clear hy
          obtain ⟨g16, h⟩ := gdD h
          refine A_getR X fg_X3_settle_75 (shNet g16) (k := 3) rfl (by decide) dX3_settle_123 ?_
          refine A_iload_n X 1 rfl rfl dX3_settle_126 ?_
          obtain ⟨g17, h⟩ := gdD h
          refine A_iald X g17 (shNet_second g16) dX3_settle_127 ?_
          refine A_iload_n X 1 rfl rfl dX3_settle_128 ?_
          obtain ⟨g18, h⟩ := gdD h
          refine A_iast X g18 shC_176 dX3_settle_129 (fun s19 hy => ?_)
          replace h := ltD h s19 hy
          clear hy
          refine A_aload_n X 0 rfl rfl dX3_settle_130 ?_
          refine A_iload_n X 1 rfl rfl dX3_settle_131 ?_
          refine A_aload_n X 0 rfl rfl dX3_settle_132 ?_
          refine A_getR X fg_X3_settle_15 shC_173 (k := 1) rfl (by decide) dX3_settle_133 ?_
          refine A_iload_n X 1 rfl rfl dX3_settle_136 ?_
          obtain ⟨g20, h⟩ := gdD h
          refine A_iald X g20 shC_175 dX3_settle_137 ?_
          obtain ⟨v21, s22, e23, h⟩ := clD h
          refine A_callV_V (na := 2) X (m_X3_part e23) gX3_settle_X3_part rfl ⟨rfl, rfl⟩ (by decide +kernel) rfl ⟨Nat.le_of_ble_eq_true rfl, Nat.le_of_ble_eq_true rfl⟩ shC_173 (by decide) rfl rfl (Nat.le_of_ble_eq_true rfl) dX3_settle_138 ?_
          refine A_aload_n X 0 rfl rfl dX3_settle_141 ?_
          refine A_getR X fg_X3_settle_25 shC_173 (k := 7) rfl (by decide) dX3_settle_142 ?_
          refine A_aload_n X 0 rfl rfl dX3_settle_145 ?_
          refine A_getI X fg_X3_settle_62 shC_173 (k := 8) rfl (by decide) dX3_settle_146 ?_
          refine A_iload_n X 1 rfl rfl dX3_settle_149 ?_
          obtain ⟨g24, h⟩ := gdD h
          refine A_iast X g24 shC_178 dX3_settle_150 (fun s25 hy => ?_)
          replace h := ltD h s25 hy
          clear hy
          refine A_aload_n X 0 rfl rfl dX3_settle_151 ?_
          refine A_dup X (by show ¬ (2 : Nat) = 1; decide) dX3_settle_152 ?_
          refine A_getI X fg_X3_settle_62 shC_173 (k := 8) rfl (by decide) dX3_settle_153 ?_
          refine A_iconst X dX3_settle_156 (z := 1) (by decide) ?_
          refine A_iadd X dX3_settle_157 ?_
          refine A_putI X fp_X3_settle_62 shC_173 (k := 8) rfl (by decide) dX3_settle_158 (fun s26 hy => ?_)
          replace h := ltD h s26 hy
          clear hy
          exact w_X3_settle_161 X E hk59 x1 s26 h
set_option maxRecDepth 100000 in
set_option maxHeartbeats 4000000 in
theorem w_X3_settle_59 {x : aC} {r : Int × Hp} (X : aX x cX3_settle wsX3_settle RX3 2 rm_X3_settle) (E : aE x shC none 3 r) : ∀ (n : Nat) (x1 : Int) (σ : Hp) (h : F_Deals_settle_59 n (x1, σ) = some r), aS x shC 2 59 [(0, vR 173), (1, vI x1)] [] σ := by
  intro n
  induction n with
  | zero => intro x1 σ h; cases h
  | succ n ih => intro x1 σ h; exact w_X3_settle_59_b (k59 := F_Deals_settle_59 n) X E ih x1 σ h
set_option maxRecDepth 100000 in
set_option maxHeartbeats 4000000 in
theorem w_X3_settle_18_b {x : aC} {r : Int × Hp} {k18 : Int × Hp → Option (Int × Hp)} (X : aX x cX3_settle wsX3_settle RX3 2 rm_X3_settle) (E : aE x shC none 3 r) (hk18 : ∀ (x1 : Int) (σ : Hp), k18 (x1, σ) = some r → aS x shC 2 18 [(0, vR 173), (1, vI x1)] [] σ) (x1 : Int) (σ : Hp) (h : F_Deals_settle_18_b k18 x1 σ = some r) : aS x shC 2 18 [(0, vR 173), (1, vI x1)] [] σ := by
  unfold F_Deals_settle_18_b at h
  refine A_iload_n X 1 rfl rfl dX3_settle_18 ?_
  refine A_aload_n X 0 rfl rfl dX3_settle_19 ?_
  refine A_getV X fg_X3_settle_41 shC_173 (k := 6) rfl (by decide) dX3_settle_20 ?_
  obtain ⟨q27, hy⟩ : ∃ y, y = (σ 173 6).toNat := ⟨_, rfl⟩
  replace h := ltD h q27 hy
  rw [← hy]
  clear hy
  obtain ⟨g28, h⟩ := gdD h
  refine A_getI X fg_X3_settle_65 (shNet g28) (k := 15) rfl (by decide) dX3_settle_23 ?_
  refine A_icmp_ge X (tgt := 57) (by decide) dX3_settle_26 (fun c29 => ?_) (fun c29 => ?_)
  · replace h := ifT h c29
    refine A_iconst X dX3_settle_57 (z := 0) (by decide) ?_
    refine A_istore_n X (L' := [(1, vI 0), (0, vR 173)]) rfl (by decide) rfl dX3_settle_58 ?_
    refine A_sub [1, 0] rfl (L' := [(0, vR 173), (1, vI 0)]) rfl ?_
    exact w_X3_settle_59 X E FU 0 σ h
  · replace h := ifF h c29
    refine A_aload_n X 0 rfl rfl dX3_settle_29 ?_
    refine A_getR X fg_X3_settle_19 shC_173 (k := 3) rfl (by decide) dX3_settle_30 ?_
    refine A_iload_n X 1 rfl rfl dX3_settle_33 ?_
    refine A_iconst X dX3_settle_34 (z := (-1)) (by decide) ?_
    obtain ⟨g30, h⟩ := gdD h
    refine A_iast X g30 shC_176 dX3_settle_35 (fun s31 hy => ?_)
    replace h := ltD h s31 hy
    clear hy
    refine A_aload_n X 0 rfl rfl dX3_settle_36 ?_
    refine A_getR X fg_X3_settle_22 shC_173 (k := 4) rfl (by decide) dX3_settle_37 ?_
    refine A_iload_n X 1 rfl rfl dX3_settle_40 ?_
    refine A_aload_n X 0 rfl rfl dX3_settle_41 ?_
    refine A_getV X fg_X3_settle_41 shC_173 (k := 6) rfl (by decide) dX3_settle_42 ?_
    obtain ⟨q32, hy⟩ : ∃ y, y = (s31 173 6).toNat := ⟨_, rfl⟩
    replace h := ltD h q32 hy
    rw [← hy]
    clear hy
    obtain ⟨g33, h⟩ := gdD h
    refine A_getR X fg_X3_settle_68 (shNet g33) (k := 1) rfl (by decide) dX3_settle_45 ?_
    refine A_iload_n X 1 rfl rfl dX3_settle_48 ?_
    obtain ⟨g34, h⟩ := gdD h
    refine A_iald X g34 (shNet_alone g33) dX3_settle_49 ?_
    obtain ⟨g35, h⟩ := gdD h
    refine A_iast X g35 shC_177 dX3_settle_50 (fun s36 hy => ?_)
    replace h := ltD h s36 hy
    clear hy
    refine A_iinc X (L' := fun y1_37 => [(1, vI y1_37), (0, vR 173)]) 1 rfl (by decide) (fun _ => rfl) dX3_settle_51 (by decide) (fun y1_37 hy => ?_)
    replace h := ltD h y1_37 hy
    clear hy
    refine A_goto X (tgt := 18) (by decide) dX3_settle_54 ?_
    refine A_sub [1, 0] rfl (L' := [(0, vR 173), (1, vI y1_37)]) rfl ?_
    exact hk18 y1_37 s36 h
set_option maxRecDepth 100000 in
set_option maxHeartbeats 4000000 in
theorem w_X3_settle_18 {x : aC} {r : Int × Hp} (X : aX x cX3_settle wsX3_settle RX3 2 rm_X3_settle) (E : aE x shC none 3 r) : ∀ (n : Nat) (x1 : Int) (σ : Hp) (h : F_Deals_settle_18 n (x1, σ) = some r), aS x shC 2 18 [(0, vR 173), (1, vI x1)] [] σ := by
  intro n
  induction n with
  | zero => intro x1 σ h; cases h
  | succ n ih => intro x1 σ h; exact w_X3_settle_18_b (k18 := F_Deals_settle_18 n) X E ih x1 σ h
set_option maxRecDepth 100000 in
set_option maxHeartbeats 4000000 in
theorem m_X3_settle {l : Launch} {g : aG} {σ : Hp} {r : Int × Hp} (h : F_Deals_settle σ = some r) : aMet l g shC yX3_settle wsX3_settle rm_X3_settle [vR 173] σ 3 r := by
  unfold F_Deals_settle at h
  refine aMet_of (bytes := cX3_settle) (maxL := 2) (ret := none) (by decide +kernel) rfl (Nat.le_of_ble_eq_true rfl) ⟨rfl, rfl⟩ (fun x e1 e2 X E => ?_)
  subst e1; subst e2
  have X : aX x cX3_settle wsX3_settle RX3 2 rm_X3_settle := X
  show aS x shC 2 0 [(0, vR 173)] [] σ
  refine A_aload_n X 0 rfl rfl dX3_settle_0 ?_
  refine A_aload_n X 0 rfl rfl dX3_settle_1 ?_
  refine A_getA X fg_X3_settle_31 shC_173 (k := 5) rfl (by decide) dX3_settle_2 ?_
  refine A_getV X fg_X3_settle_35 shC_88 (k := 2) rfl (by decide) dX3_settle_5 ?_
  obtain ⟨q38, hy⟩ : ∃ y, y = (σ 88 2).toNat := ⟨_, rfl⟩
  replace h := ltD h q38 hy
  rw [← hy]
  clear hy
  obtain ⟨g39, h⟩ := gdD h
  refine A_putV X (bNet g39) fp_X3_settle_41 shC_173 (k := 6) rfl (by decide) dX3_settle_8 (fun s40 hy => ?_)
  replace h := ltD h s40 hy
  clear hy
  refine A_aload_n X 0 rfl rfl dX3_settle_11 ?_
  refine A_iconst X dX3_settle_12 (z := 0) (by decide) ?_
  refine A_putI X fp_X3_settle_62 shC_173 (k := 8) rfl (by decide) dX3_settle_13 (fun s41 hy => ?_)
  replace h := ltD h s41 hy
  clear hy
  refine A_iconst X dX3_settle_16 (z := 0) (by decide) ?_
  refine A_istore_n X (L' := [(1, vI 0), (0, vR 173)]) rfl (by decide) rfl dX3_settle_17 ?_
  refine A_sub [1, 0] rfl (L' := [(0, vR 173), (1, vI 0)]) rfl ?_
  exact w_X3_settle_18 X E FU 0 s41 h
abbrev rm_X7_gainOfTwo : Room := { frames := 0, cells := 0, slots := 0, locals := 0 }
theorem in_X7_gainOfTwo_7 : ∀ w ∈ u_ws RX7 TX7 11, w ∈ wsX7_gainOfTwo := fun w h => List.mem_cons_of_mem _ (List.mem_append_left _ (List.mem_append_right _ h))
theorem fg_X7_gainOfTwo_42 : aFl wsX7_gainOfTwo RX7 42 7 7 := ⟨RX7, TX7, 11, rfl, in_X7_gainOfTwo_7, by decide, (List.mem_of_getElem? (i := 1) rfl), rfl⟩
theorem in_X7_gainOfTwo_6 : ∀ w ∈ u_ws RX6 TX6 20, w ∈ wsX7_gainOfTwo := fun w h => List.mem_cons_of_mem _ (List.mem_append_right _ h)
theorem fg_X7_gainOfTwo_83 : aFl wsX7_gainOfTwo RX7 83 6 8 := ⟨RX6, TX6, 20, rfl, in_X7_gainOfTwo_6, by decide, (List.mem_of_getElem? (i := 2) rfl), rfl⟩
theorem fg_X7_gainOfTwo_22 : aFl wsX7_gainOfTwo RX7 22 7 4 := ⟨RX7, TX7, 11, rfl, in_X7_gainOfTwo_7, by decide, (List.mem_of_getElem? (i := 3) rfl), rfl⟩
set_option maxRecDepth 100000 in
set_option maxHeartbeats 4000000 in
theorem w_X7_gainOfTwo_27 {x : aC} {r : Int × Hp} {this : Nat} {a1 : Int} {a2 : Int} (X : aX x cX7_gainOfTwo wsX7_gainOfTwo RX7 4 rm_X7_gainOfTwo) (E : aE x shC (some .int) 0 r) (ht : isPlan this) (t1 : Int) (σ : Hp) (h : F_Plan_gainOfTwo_27 this a1 a2 t1 σ = some r) : aS x shC 4 27 [] [vI t1] σ := by
  unfold F_Plan_gainOfTwo_27 at h
  exact A_ireturn X E h dX7_gainOfTwo_27
set_option maxRecDepth 100000 in
set_option maxHeartbeats 4000000 in
theorem m_X7_gainOfTwo {l : Launch} {g : aG} {this : Nat} {a1 : Int} {a2 : Int} {σ : Hp} {r : Int × Hp} (h : F_Plan_gainOfTwo this a1 a2 σ = some r) : aMet l g shC yX7_gainOfTwo wsX7_gainOfTwo rm_X7_gainOfTwo [vR this, vI a1, vI a2] σ 0 r := by
  unfold F_Plan_gainOfTwo at h
  obtain ⟨ht, h⟩ := gdD h
  refine aMet_of (bytes := cX7_gainOfTwo) (maxL := 4) (ret := (some .int)) (by decide +kernel) rfl (Nat.le_of_ble_eq_true rfl) ⟨rfl, rfl⟩ (fun x e1 e2 X E => ?_)
  subst e1; subst e2
  have X : aX x cX7_gainOfTwo wsX7_gainOfTwo RX7 4 rm_X7_gainOfTwo := X
  show aS x shC 4 0 [(0, vR this), (1, vI a1), (2, vI a2)] [] σ
  refine A_aload_n X 0 rfl rfl dX7_gainOfTwo_0 ?_
  refine A_getV X fg_X7_gainOfTwo_42 (shPlan ht) (k := 7) rfl (by decide) dX7_gainOfTwo_1 ?_
  obtain ⟨q1, hy⟩ : ∃ y, y = (σ this 7).toNat := ⟨_, rfl⟩
  replace h := ltD h q1 hy
  rw [← hy]
  clear hy
  obtain ⟨g2, h⟩ := gdD h
  refine A_getR X fg_X7_gainOfTwo_83 (shNet g2) (k := 8) rfl (by decide) dX7_gainOfTwo_4 ?_
  refine A_iload_n X 1 rfl rfl dX7_gainOfTwo_7 ?_
  obtain ⟨g3, h⟩ := gdD h
  refine A_aald X g3 (shNet_roadOf g2) dX7_gainOfTwo_8 ?_
  refine A_iload_n X 2 rfl rfl dX7_gainOfTwo_9 ?_
  obtain ⟨g4, h⟩ := gdD h
  refine A_iald X g4 (shNet_roadOf_r g2 g3) dX7_gainOfTwo_10 ?_
  refine A_istore_nN X (L' := fun y3_5 => [(3, vI y3_5), (0, vR this), (1, vI a1), (2, vI a2)]) rfl (by decide) (fun _ => rfl) dX7_gainOfTwo_11 (fun y3_5 hy => ?_)
  replace h := ltD h y3_5 hy
  clear hy
  refine A_iload_n X 0 rfl rfl dX7_gainOfTwo_12 ?_
  refine A_iconst X dX7_gainOfTwo_13 (z := (-1)) (by decide) ?_
  refine A_icmp_ne X (tgt := 21) (by decide) dX7_gainOfTwo_14 (fun c6 => ?_) (fun c6 => ?_)
  · replace h := ifF h c6
    refine A_aload_n X 1 rfl rfl dX7_gainOfTwo_21 ?_
    refine A_getR X fg_X7_gainOfTwo_22 (shPlan ht) (k := 4) rfl (by decide) dX7_gainOfTwo_22 ?_
    refine A_iload_n X 0 rfl rfl dX7_gainOfTwo_25 ?_
    obtain ⟨g7, h⟩ := gdD h
    refine A_iald X g7 (shPlan_gain ht) dX7_gainOfTwo_26 ?_
    refine A_sub [] rfl (L' := []) rfl ?_
    exact w_X7_gainOfTwo_27 (this := this) (a1 := a1) (a2 := a2) X E ht (σ (this + 28) y3_5.toNat) σ h
  · replace h := ifT h c6
    refine A_iconst X dX7_gainOfTwo_17 (z := 0) (by decide) ?_
    refine A_goto X (tgt := 27) (by decide) dX7_gainOfTwo_18 ?_
    refine A_sub [] rfl (L' := []) rfl ?_
    exact w_X7_gainOfTwo_27 (this := this) (a1 := a1) (a2 := a2) X E ht 0 σ h
abbrev rm_X7_fillBest : Room := { frames := 1, cells := 0, slots := 0, locals := 70 }
theorem in_X7_fillBest_7 : ∀ w ∈ u_ws RX7 TX7 11, w ∈ wsX7_fillBest := fun w h => List.mem_cons_of_mem _ (List.mem_append_left _ (List.mem_append_right _ h))
theorem fg_X7_fillBest_18 : aFl wsX7_fillBest RX7 18 7 3 := ⟨RX7, TX7, 11, rfl, in_X7_fillBest_7, by decide, (List.mem_of_getElem? (i := 1) rfl), rfl⟩
set_option maxRecDepth 100000 in
set_option maxHeartbeats 4000000 in
theorem w_X7_fillBest_97 {x : aC} {r : Int × Hp} {k44 : Int × Int × Int × Int × Int × Hp → Option (Int × Hp)} {this : Nat} {a1 : Int} (X : aX x cX7_fillBest wsX7_fillBest RX7 7 rm_X7_fillBest) (E : aE x shC none 3 r) (hk44 : ∀ (x2 : Int) (x3 : Int) (x4 : Int) (x5 : Int) (x6 : Int) (σ : Hp), k44 (x2, x3, x4, x5, x6, σ) = some r → aS x shC 7 44 [(0, vR this), (1, vI a1), (2, vI x2), (3, vI x3), (4, vI x4), (5, vI x5), (6, vI x6)] [] σ) (ht : isPlan this) (x2 : Int) (x3 : Int) (x4 : Int) (x5 : Int) (x6 : Int) (σ : Hp) (h : F_Plan_fillBest_97 k44 this a1 x2 x3 x4 x5 x6 σ = some r) : aS x shC 7 97 [(0, vR this), (1, vI a1), (2, vI x2), (3, vI x3), (4, vI x4), (5, vI x5), (6, vI x6)] [] σ := by
  unfold F_Plan_fillBest_97 at h
  refine A_iinc X (L' := fun y6_1 => [(6, vI y6_1), (0, vR this), (1, vI a1), (2, vI x2), (3, vI x3), (4, vI x4), (5, vI x5)]) 6 rfl (by decide) (fun _ => rfl) dX7_fillBest_97 (by decide) (fun y6_1 hy => ?_)
  replace h := ltD h y6_1 hy
  clear hy
  refine A_goto X (tgt := 44) (by decide) dX7_fillBest_100 ?_
  refine A_sub [1, 2, 3, 4, 5, 6, 0] rfl (L' := [(0, vR this), (1, vI a1), (2, vI x2), (3, vI x3), (4, vI x4), (5, vI x5), (6, vI y6_1)]) rfl ?_
  exact hk44 x2 x3 x4 x5 y6_1 σ h
set_option maxRecDepth 100000 in
set_option maxHeartbeats 4000000 in
theorem w_X7_fillBest_103 {x : aC} {r : Int × Hp} {k20 : Int × Int × Hp → Option (Int × Hp)} {this : Nat} {a1 : Int} (X : aX x cX7_fillBest wsX7_fillBest RX7 7 rm_X7_fillBest) (E : aE x shC none 3 r) (hk20 : ∀ (x2 : Int) (x3 : Int) (σ : Hp), k20 (x2, x3, σ) = some r → aS x shC 7 20 [(0, vR this), (1, vI a1), (2, vI x2), (3, vI x3)] [] σ) (ht : isPlan this) (x2 : Int) (x3 : Int) (σ : Hp) (h : F_Plan_fillBest_103 k20 this a1 x2 x3 σ = some r) : aS x shC 7 103 [(0, vR this), (1, vI a1), (2, vI x2), (3, vI x3)] [] σ := by
  unfold F_Plan_fillBest_103 at h
  refine A_iinc X (L' := fun y3_2 => [(3, vI y3_2), (0, vR this), (1, vI a1), (2, vI x2)]) 3 rfl (by decide) (fun _ => rfl) dX7_fillBest_103 (by decide) (fun y3_2 hy => ?_)
  replace h := ltD h y3_2 hy
  clear hy
  refine A_goto X (tgt := 20) (by decide) dX7_fillBest_106 ?_
  refine A_sub [1, 2, 3, 0] rfl (L' := [(0, vR this), (1, vI a1), (2, vI x2), (3, vI y3_2)]) rfl ?_
  exact hk20 x2 y3_2 σ h
set_option maxRecDepth 100000 in
set_option maxHeartbeats 4000000 in
theorem w_X7_fillBest_44_b {x : aC} {r : Int × Hp} {k20 : Int × Int × Hp → Option (Int × Hp)} {k44 : Int × Int × Int × Int × Int × Hp → Option (Int × Hp)} {this : Nat} {a1 : Int} (X : aX x cX7_fillBest wsX7_fillBest RX7 7 rm_X7_fillBest) (E : aE x shC none 3 r) (hk20 : ∀ (x2 : Int) (x3 : Int) (σ : Hp), k20 (x2, x3, σ) = some r → aS x shC 7 20 [(0, vR this), (1, vI a1), (2, vI x2), (3, vI x3)] [] σ) (hk44 : ∀ (x2 : Int) (x3 : Int) (x4 : Int) (x5 : Int) (x6 : Int) (σ : Hp), k44 (x2, x3, x4, x5, x6, σ) = some r → aS x shC 7 44 [(0, vR this), (1, vI a1), (2, vI x2), (3, vI x3), (4, vI x4), (5, vI x5), (6, vI x6)] [] σ) (ht : isPlan this) (x2 : Int) (x3 : Int) (x4 : Int) (x5 : Int) (x6 : Int) (σ : Hp) (h : F_Plan_fillBest_44_b k20 k44 this a1 x2 x3 x4 x5 x6 σ = some r) : aS x shC 7 44 [(0, vR this), (1, vI a1), (2, vI x2), (3, vI x3), (4, vI x4), (5, vI x5), (6, vI x6)] [] σ := by
  unfold F_Plan_fillBest_44_b at h
  refine A_iload X 4 rfl dX7_fillBest_44 ?_
  refine A_if_le X (tgt := 103) (by decide) dX7_fillBest_46 (fun c3 => ?_) (fun c3 => ?_)
  · replace h := ifT h c3
    refine A_sub [0, 1, 2, 3] rfl (L' := [(0, vR this), (1, vI a1), (2, vI x2), (3, vI x3)]) rfl ?_
    exact w_X7_fillBest_103 (this := this) (a1 := a1) X E hk20 ht x2 x3 σ h
  · replace h := ifF h c3
    refine A_iload X 6 rfl dX7_fillBest_49 ?_
    refine A_iconst X dX7_fillBest_51 (z := 2) (by decide) ?_
    refine A_iload_n X 2 rfl rfl dX7_fillBest_52 ?_
    refine A_imul X dX7_fillBest_53 ?_
    refine A_icmp_ge X (tgt := 103) (by decide) dX7_fillBest_54 (fun c4 => ?_) (fun c4 => ?_)
    · replace h := ifT h c4
      refine A_sub [0, 1, 2, 3] rfl (L' := [(0, vR this), (1, vI a1), (2, vI x2), (3, vI x3)]) rfl ?_
      exact w_X7_fillBest_103 (this := this) (a1 := a1) X E hk20 ht x2 x3 σ h
    · replace h := ifF h c4
      refine A_iload X 6 rfl dX7_fillBest_57 ?_
      refine A_iload X 5 rfl dX7_fillBest_59 ?_
      refine A_iand X dX7_fillBest_61 ?_
      refine A_iload X 5 rfl dX7_fillBest_62 ?_
      refine A_icmp_ne X (tgt := 97) (by decide) dX7_fillBest_64 (fun c5 => ?_) (fun c5 => ?_)
      · replace h := ifF h c5
        exact w_X7_fillBest_97 (this := this) (a1 := a1) X E hk44 ht x2 x3 x4 x5 x6 σ h
      · replace h := ifT h c5
        refine A_aload_n X 0 rfl rfl dX7_fillBest_67 ?_
        refine A_getR X fg_X7_fillBest_18 (shPlan ht) (k := 3) rfl (by decide) dX7_fillBest_68 ?_
        refine A_iload X 6 rfl dX7_fillBest_71 ?_
        refine A_aload_n X 0 rfl rfl dX7_fillBest_73 ?_
        refine A_getR X fg_X7_fillBest_18 (shPlan ht) (k := 3) rfl (by decide) dX7_fillBest_74 ?_
        refine A_iload X 6 rfl dX7_fillBest_77 ?_
        obtain ⟨g6, h⟩ := gdD h
        refine A_iald X g6 (shPlan_best ht) dX7_fillBest_79 ?_
        refine A_aload_n X 0 rfl rfl dX7_fillBest_80 ?_
        refine A_getR X fg_X7_fillBest_18 (shPlan ht) (k := 3) rfl (by decide) dX7_fillBest_81 ?_
        refine A_iload X 6 rfl dX7_fillBest_84 ?_
        refine A_iload X 5 rfl dX7_fillBest_86 ?_
        refine A_isub X dX7_fillBest_88 ?_
        obtain ⟨g7, h⟩ := gdD h
        refine A_iald X g7 (shPlan_best ht) dX7_fillBest_89 ?_
        refine A_iload X 4 rfl dX7_fillBest_90 ?_
        refine A_iadd X dX7_fillBest_92 ?_
        refine A_mmax X (List.mem_of_getElem? (i := 6) rfl) (List.mem_of_getElem? (i := 7) rfl) (List.mem_of_getElem? (i := 8) rfl) (List.mem_of_getElem? (i := 9) rfl) (Nat.le_of_ble_eq_true rfl) (Nat.le_of_ble_eq_true rfl) dX7_fillBest_93 ?_
        obtain ⟨g8, h⟩ := gdD h
        refine A_iast X g8 (shPlan_best ht) dX7_fillBest_96 (fun s9 hy => ?_)
        replace h := ltD h s9 hy
        clear hy
        exact w_X7_fillBest_97 (this := this) (a1 := a1) X E hk44 ht x2 x3 x4 x5 x6 s9 h
set_option maxRecDepth 100000 in
set_option maxHeartbeats 4000000 in
theorem w_X7_fillBest_44 {x : aC} {r : Int × Hp} {k20 : Int × Int × Hp → Option (Int × Hp)} {this : Nat} {a1 : Int} (X : aX x cX7_fillBest wsX7_fillBest RX7 7 rm_X7_fillBest) (E : aE x shC none 3 r) (hk20 : ∀ (x2 : Int) (x3 : Int) (σ : Hp), k20 (x2, x3, σ) = some r → aS x shC 7 20 [(0, vR this), (1, vI a1), (2, vI x2), (3, vI x3)] [] σ) (ht : isPlan this) : ∀ (n : Nat) (x2 : Int) (x3 : Int) (x4 : Int) (x5 : Int) (x6 : Int) (σ : Hp) (h : F_Plan_fillBest_44 k20 this a1 n (x2, x3, x4, x5, x6, σ) = some r), aS x shC 7 44 [(0, vR this), (1, vI a1), (2, vI x2), (3, vI x3), (4, vI x4), (5, vI x5), (6, vI x6)] [] σ := by
  intro n
  induction n with
  | zero => intro x2 x3 x4 x5 x6 σ h; cases h
  | succ n ih => intro x2 x3 x4 x5 x6 σ h; exact w_X7_fillBest_44_b (this := this) (a1 := a1) (k44 := F_Plan_fillBest_44 k20 this a1 n) X E hk20 ih ht x2 x3 x4 x5 x6 σ h
set_option maxRecDepth 100000 in
set_option maxHeartbeats 4000000 in
theorem w_X7_fillBest_20_b {x : aC} {r : Int × Hp} {k20 : Int × Int × Hp → Option (Int × Hp)} {this : Nat} {a1 : Int} (X : aX x cX7_fillBest wsX7_fillBest RX7 7 rm_X7_fillBest) (E : aE x shC none 3 r) (hk20 : ∀ (x2 : Int) (x3 : Int) (σ : Hp), k20 (x2, x3, σ) = some r → aS x shC 7 20 [(0, vR this), (1, vI a1), (2, vI x2), (3, vI x3)] [] σ) (ht : isPlan this) (x2 : Int) (x3 : Int) (σ : Hp) (h : F_Plan_fillBest_20_b k20 this a1 x2 x3 σ = some r) : aS x shC 7 20 [(0, vR this), (1, vI a1), (2, vI x2), (3, vI x3)] [] σ := by
  unfold F_Plan_fillBest_20_b at h
  refine A_iload_n X 3 rfl rfl dX7_fillBest_20 ?_
  refine A_iload_n X 1 rfl rfl dX7_fillBest_21 ?_
  refine A_icmp_ge X (tgt := 109) (by decide) dX7_fillBest_22 (fun c10 => ?_) (fun c10 => ?_)
  · replace h := ifT h c10
    exact A_return X E h dX7_fillBest_109
  · replace h := ifF h c10
    refine A_aload_n X 0 rfl rfl dX7_fillBest_25 ?_
    refine A_iload_n X 3 rfl rfl dX7_fillBest_26 ?_
    refine A_iload_n X 1 rfl rfl dX7_fillBest_27 ?_
    obtain ⟨v11, s12, e13, h⟩ := clD h
    refine A_callV_I (na := 2) X (m_X7_gainOfTwo e13) gX7_fillBest_X7_gainOfTwo rfl ⟨rfl, rfl⟩ (by decide +kernel) rfl ⟨Nat.le_of_ble_eq_true rfl, Nat.le_of_ble_eq_true rfl⟩ (shPlan ht) (by decide) rfl rfl (Nat.le_of_ble_eq_true rfl) dX7_fillBest_28 ?_
    refine A_istore X (L' := [(4, vI v11), (0, vR this), (1, vI a1), (2, vI x2), (3, vI x3)]) (by decide) rfl dX7_fillBest_31 ?_
    refine A_iload_n X 3 rfl rfl dX7_fillBest_33 ?_
    refine A_iconst X dX7_fillBest_34 (z := 1) (by decide) ?_
    refine A_iload_n X 4 rfl rfl dX7_fillBest_35 ?_
    refine A_ishl X dX7_fillBest_36 ?_
    refine A_ior X dX7_fillBest_37 ?_
    refine A_istoreN X (L' := fun y5_14 => [(5, vI y5_14), (4, vI v11), (0, vR this), (1, vI a1), (2, vI x2), (3, vI x3)]) (by decide) (fun _ => rfl) dX7_fillBest_38 (fun y5_14 hy => ?_)
    replace h := ltD h y5_14 hy
    clear hy
    refine A_iload X 0 rfl dX7_fillBest_40 ?_
    refine A_istore X (L' := [(6, vI y5_14), (5, vI y5_14), (4, vI v11), (0, vR this), (1, vI a1), (2, vI x2), (3, vI x3)]) (by decide) rfl dX7_fillBest_42 ?_
    refine A_sub [3, 4, 5, 6, 2, 1, 0] rfl (L' := [(0, vR this), (1, vI a1), (2, vI x2), (3, vI x3), (4, vI v11), (5, vI y5_14), (6, vI y5_14)]) rfl ?_
    exact w_X7_fillBest_44 (this := this) (a1 := a1) X E hk20 ht FU x2 x3 v11 y5_14 y5_14 s12 h
set_option maxRecDepth 100000 in
set_option maxHeartbeats 4000000 in
theorem w_X7_fillBest_20 {x : aC} {r : Int × Hp} {this : Nat} {a1 : Int} (X : aX x cX7_fillBest wsX7_fillBest RX7 7 rm_X7_fillBest) (E : aE x shC none 3 r) (ht : isPlan this) : ∀ (n : Nat) (x2 : Int) (x3 : Int) (σ : Hp) (h : F_Plan_fillBest_20 this a1 n (x2, x3, σ) = some r), aS x shC 7 20 [(0, vR this), (1, vI a1), (2, vI x2), (3, vI x3)] [] σ := by
  intro n
  induction n with
  | zero => intro x2 x3 σ h; cases h
  | succ n ih => intro x2 x3 σ h; exact w_X7_fillBest_20_b (this := this) (a1 := a1) (k20 := F_Plan_fillBest_20 this a1 n) X E ih ht x2 x3 σ h
set_option maxRecDepth 100000 in
set_option maxHeartbeats 4000000 in
theorem m_X7_fillBest {l : Launch} {g : aG} {this : Nat} {a1 : Int} {σ : Hp} {r : Int × Hp} (h : F_Plan_fillBest this a1 σ = some r) : aMet l g shC yX7_fillBest wsX7_fillBest rm_X7_fillBest [vR this, vI a1] σ 3 r := by
  unfold F_Plan_fillBest at h
  obtain ⟨ht, h⟩ := gdD h
  refine aMet_of (bytes := cX7_fillBest) (maxL := 7) (ret := none) (by decide +kernel) rfl (Nat.le_of_ble_eq_true rfl) ⟨rfl, rfl⟩ (fun x e1 e2 X E => ?_)
  subst e1; subst e2
  have X : aX x cX7_fillBest wsX7_fillBest RX7 7 rm_X7_fillBest := X
  show aS x shC 7 0 [(0, vR this), (1, vI a1)] [] σ
  refine A_iconst X dX7_fillBest_0 (z := 1) (by decide) ?_
  refine A_iload_n X 1 rfl rfl dX7_fillBest_1 ?_
  refine A_ishl X dX7_fillBest_2 ?_
  refine A_istore_nN X (L' := fun y2_15 => [(2, vI y2_15), (0, vR this), (1, vI a1)]) rfl (by decide) (fun _ => rfl) dX7_fillBest_3 (fun y2_15 hy => ?_)
  replace h := ltD h y2_15 hy
  clear hy
  refine A_aload_n X 1 rfl rfl dX7_fillBest_4 ?_
  refine A_getR X fg_X7_fillBest_18 (shPlan ht) (k := 3) rfl (by decide) dX7_fillBest_5 ?_
  refine A_iconst X dX7_fillBest_8 (z := 0) (by decide) ?_
  refine A_aload_n X 1 rfl rfl dX7_fillBest_9 ?_
  refine A_getR X fg_X7_fillBest_18 (shPlan ht) (k := 3) rfl (by decide) dX7_fillBest_10 ?_
  refine A_iload_n X 0 rfl rfl dX7_fillBest_13 ?_
  refine A_iload_n X 0 rfl rfl dX7_fillBest_14 ?_
  obtain ⟨g16, h⟩ := gdD h
  refine A_copy X g16 (shPlan_best ht) (List.mem_of_getElem? (i := 2) rfl) (List.mem_of_getElem? (i := 3) rfl) (List.mem_of_getElem? (i := 4) rfl) (List.mem_of_getElem? (i := 5) rfl) (Nat.le_of_ble_eq_true rfl) (Nat.le_of_ble_eq_true rfl) dX7_fillBest_15 (fun s17 hy => ?_)
  replace h := ltD h s17 hy
  clear hy
  refine A_iconst X dX7_fillBest_18 (z := 0) (by decide) ?_
  refine A_istore_n X (L' := [(3, vI 0), (2, vI y2_15), (0, vR this), (1, vI a1)]) rfl (by decide) rfl dX7_fillBest_19 ?_
  refine A_sub [2, 3, 1, 0] rfl (L' := [(0, vR this), (1, vI a1), (2, vI y2_15), (3, vI 0)]) rfl ?_
  exact w_X7_fillBest_20 (this := this) (a1 := a1) X E ht FU y2_15 0 s17 h
abbrev rm_X7_fillRow : Room := { frames := 1, cells := 0, slots := 0, locals := 21 }
theorem in_X7_fillRow_7 : ∀ w ∈ u_ws RX7 TX7 11, w ∈ wsX7_fillRow := fun w h => List.mem_cons_of_mem _ (List.mem_append_left _ (List.mem_append_right _ h))
theorem fg_X7_fillRow_96 : aFl wsX7_fillRow RX7 96 7 6 := ⟨RX7, TX7, 11, rfl, in_X7_fillRow_7, by decide, (List.mem_of_getElem? (i := 1) rfl), rfl⟩
theorem fg_X7_fillRow_25 : aFl wsX7_fillRow RX7 25 7 5 := ⟨RX7, TX7, 11, rfl, in_X7_fillRow_7, by decide, (List.mem_of_getElem? (i := 5) rfl), rfl⟩
theorem fg_X7_fillRow_18 : aFl wsX7_fillRow RX7 18 7 3 := ⟨RX7, TX7, 11, rfl, in_X7_fillRow_7, by decide, (List.mem_of_getElem? (i := 6) rfl), rfl⟩
theorem fg_X7_fillRow_22 : aFl wsX7_fillRow RX7 22 7 4 := ⟨RX7, TX7, 11, rfl, in_X7_fillRow_7, by decide, (List.mem_of_getElem? (i := 4) rfl), rfl⟩
theorem fp_X7_fillRow_96 : aFp wsX7_fillRow RX7 96 7 6 .int := ⟨RX7, TX7, 11, tyX7, rfl, in_X7_fillRow_7, by decide, (List.mem_of_getElem? (i := 1) rfl), rfl, tyX7_ok, nmX7, rfl, rfl⟩
theorem fg_X7_fillRow_42 : aFl wsX7_fillRow RX7 42 7 7 := ⟨RX7, TX7, 11, rfl, in_X7_fillRow_7, by decide, (List.mem_of_getElem? (i := 2) rfl), rfl⟩
theorem in_X7_fillRow_6 : ∀ w ∈ u_ws RX6 TX6 20, w ∈ wsX7_fillRow := fun w h => List.mem_cons_of_mem _ (List.mem_append_right _ h)
theorem fg_X7_fillRow_43 : aFl wsX7_fillRow RX7 43 6 16 := ⟨RX6, TX6, 20, rfl, in_X7_fillRow_6, by decide, (List.mem_of_getElem? (i := 3) rfl), rfl⟩
set_option maxRecDepth 100000 in
set_option maxHeartbeats 4000000 in
theorem w_X7_fillRow_123 {x : aC} {r : Int × Hp} {k15 : Int × Int × Hp → Option (Int × Hp)} {this : Nat} (X : aX x cX7_fillRow wsX7_fillRow RX7 5 rm_X7_fillRow) (E : aE x shC none 3 r) (hk15 : ∀ (x1 : Int) (x2 : Int) (σ : Hp), k15 (x1, x2, σ) = some r → aS x shC 5 15 [(0, vR this), (1, vI x1), (2, vI x2)] [] σ) (ht : isPlan this) (x1 : Int) (x2 : Int) (σ : Hp) (h : F_Plan_fillRow_123 k15 this x1 x2 σ = some r) : aS x shC 5 123 [(0, vR this), (1, vI x1), (2, vI x2)] [] σ := by
  unfold F_Plan_fillRow_123 at h
  refine A_iinc X (L' := fun y2_1 => [(2, vI y2_1), (0, vR this), (1, vI x1)]) 2 rfl (by decide) (fun _ => rfl) dX7_fillRow_123 (by decide) (fun y2_1 hy => ?_)
  replace h := ltD h y2_1 hy
  clear hy
  refine A_goto X (tgt := 15) (by decide) dX7_fillRow_126 ?_
  refine A_sub [1, 2, 0] rfl (L' := [(0, vR this), (1, vI x1), (2, vI y2_1)]) rfl ?_
  exact hk15 x1 y2_1 σ h
set_option maxRecDepth 100000 in
set_option maxHeartbeats 4000000 in
theorem w_X7_fillRow_56 {x : aC} {r : Int × Hp} {k15 : Int × Int × Hp → Option (Int × Hp)} {this : Nat} (X : aX x cX7_fillRow wsX7_fillRow RX7 5 rm_X7_fillRow) (E : aE x shC none 3 r) (hk15 : ∀ (x1 : Int) (x2 : Int) (σ : Hp), k15 (x1, x2, σ) = some r → aS x shC 5 15 [(0, vR this), (1, vI x1), (2, vI x2)] [] σ) (ht : isPlan this) (x1 : Int) (x2 : Int) (x3 : Int) (t1 : Int) (σ : Hp) (h : F_Plan_fillRow_56 k15 this x1 x2 x3 t1 σ = some r) : aS x shC 5 56 [(0, vR this), (1, vI x1), (2, vI x2), (3, vI x3)] [vI t1] σ := by
  unfold F_Plan_fillRow_56 at h
  refine A_istore X (L' := [(4, vI t1), (0, vR this), (1, vI x1), (2, vI x2), (3, vI x3)]) (by decide) rfl dX7_fillRow_56 ?_
  refine A_iload X 0 rfl dX7_fillRow_58 ?_
  refine A_if_eq X (tgt := 123) (by decide) dX7_fillRow_60 (fun c2 => ?_) (fun c2 => ?_)
  · replace h := ifT h c2
    refine A_sub [1, 2, 3] rfl (L' := [(0, vR this), (1, vI x1), (2, vI x2)]) rfl ?_
    exact w_X7_fillRow_123 (this := this) X E hk15 ht x1 x2 σ h
  · replace h := ifF h c2
    refine A_aload_n X 1 rfl rfl dX7_fillRow_63 ?_
    refine A_getI X fg_X7_fillRow_96 (shPlan ht) (k := 6) rfl (by decide) dX7_fillRow_64 ?_
    refine A_aload_n X 1 rfl rfl dX7_fillRow_67 ?_
    refine A_getR X fg_X7_fillRow_25 (shPlan ht) (k := 5) rfl (by decide) dX7_fillRow_68 ?_
    refine A_alen100 X (by decide) (shPlan_row ht) dX7_fillRow_71 ?_
    refine A_icmp_ge X (tgt := 123) (by decide) dX7_fillRow_72 (fun c3 => ?_) (fun c3 => ?_)
    · replace h := ifT h c3
      refine A_sub [1, 2, 3] rfl (L' := [(0, vR this), (1, vI x1), (2, vI x2)]) rfl ?_
      exact w_X7_fillRow_123 (this := this) X E hk15 ht x1 x2 σ h
    · replace h := ifF h c3
      refine A_aload_n X 1 rfl rfl dX7_fillRow_75 ?_
      refine A_getR X fg_X7_fillRow_18 (shPlan ht) (k := 3) rfl (by decide) dX7_fillRow_76 ?_
      refine A_iload_n X 2 rfl rfl dX7_fillRow_79 ?_
      refine A_iload_n X 4 rfl rfl dX7_fillRow_80 ?_
      refine A_isub X dX7_fillRow_81 ?_
      obtain ⟨g4, h⟩ := gdD h
      refine A_iald X g4 (shPlan_best ht) dX7_fillRow_82 ?_
      refine A_aload_n X 1 rfl rfl dX7_fillRow_83 ?_
      refine A_getR X fg_X7_fillRow_22 (shPlan ht) (k := 4) rfl (by decide) dX7_fillRow_84 ?_
      refine A_iload_n X 3 rfl rfl dX7_fillRow_87 ?_
      obtain ⟨g5, h⟩ := gdD h
      refine A_iald X g5 (shPlan_gain ht) dX7_fillRow_88 ?_
      refine A_iadd X dX7_fillRow_89 ?_
      refine A_aload_n X 1 rfl rfl dX7_fillRow_90 ?_
      refine A_getR X fg_X7_fillRow_18 (shPlan ht) (k := 3) rfl (by decide) dX7_fillRow_91 ?_
      refine A_iload_n X 2 rfl rfl dX7_fillRow_94 ?_
      obtain ⟨g6, h⟩ := gdD h
      refine A_iald X g6 (shPlan_best ht) dX7_fillRow_95 ?_
      refine A_icmp_ne X (tgt := 123) (by decide) dX7_fillRow_96 (fun c7 => ?_) (fun c7 => ?_)
      · replace h := ifF h c7
        refine A_sub [1, 2, 3] rfl (L' := [(0, vR this), (1, vI x1), (2, vI x2)]) rfl ?_
        exact w_X7_fillRow_123 (this := this) X E hk15 ht x1 x2 σ h
      · replace h := ifT h c7
        refine A_aload_n X 1 rfl rfl dX7_fillRow_99 ?_
        refine A_getR X fg_X7_fillRow_25 (shPlan ht) (k := 5) rfl (by decide) dX7_fillRow_100 ?_
        refine A_aload_n X 1 rfl rfl dX7_fillRow_103 ?_
        refine A_getI X fg_X7_fillRow_96 (shPlan ht) (k := 6) rfl (by decide) dX7_fillRow_104 ?_
        refine A_iload_n X 3 rfl rfl dX7_fillRow_107 ?_
        obtain ⟨g8, h⟩ := gdD h
        refine A_iast X g8 (shPlan_row ht) dX7_fillRow_108 (fun s9 hy => ?_)
        replace h := ltD h s9 hy
        clear hy
        refine A_aload_n X 1 rfl rfl dX7_fillRow_109 ?_
        refine A_dup X (by show ¬ (2 : Nat) = 1; decide) dX7_fillRow_110 ?_
        refine A_getI X fg_X7_fillRow_96 (shPlan ht) (k := 6) rfl (by decide) dX7_fillRow_111 ?_
        refine A_iconst X dX7_fillRow_114 (z := 1) (by decide) ?_
        refine A_iadd X dX7_fillRow_115 ?_
        refine A_putI X fp_X7_fillRow_96 (shPlan ht) (k := 6) rfl (by decide) dX7_fillRow_116 (fun s10 hy => ?_)
        replace h := ltD h s10 hy
        clear hy
        refine A_iload_n X 2 rfl rfl dX7_fillRow_119 ?_
        refine A_iload_n X 4 rfl rfl dX7_fillRow_120 ?_
        refine A_isub X dX7_fillRow_121 ?_
        refine A_istore_nN X (L' := fun y1_11 => [(1, vI y1_11), (4, vI t1), (0, vR this), (2, vI x2), (3, vI x3)]) rfl (by decide) (fun _ => rfl) dX7_fillRow_122 (fun y1_11 hy => ?_)
        replace h := ltD h y1_11 hy
        clear hy
        refine A_sub [2, 0, 3] rfl (L' := [(0, vR this), (1, vI y1_11), (2, vI x2)]) rfl ?_
        exact w_X7_fillRow_123 (this := this) X E hk15 ht y1_11 x2 s10 h
set_option maxRecDepth 100000 in
set_option maxHeartbeats 4000000 in
theorem w_X7_fillRow_55 {x : aC} {r : Int × Hp} {k15 : Int × Int × Hp → Option (Int × Hp)} {this : Nat} (X : aX x cX7_fillRow wsX7_fillRow RX7 5 rm_X7_fillRow) (E : aE x shC none 3 r) (hk15 : ∀ (x1 : Int) (x2 : Int) (σ : Hp), k15 (x1, x2, σ) = some r → aS x shC 5 15 [(0, vR this), (1, vI x1), (2, vI x2)] [] σ) (ht : isPlan this) (x1 : Int) (x2 : Int) (x3 : Int) (σ : Hp) (h : F_Plan_fillRow_55 k15 this x1 x2 x3 σ = some r) : aS x shC 5 55 [(0, vR this), (1, vI x1), (2, vI x2), (3, vI x3)] [] σ := by
  unfold F_Plan_fillRow_55 at h
  refine A_iconst X dX7_fillRow_55 (z := 0) (by decide) ?_
  exact w_X7_fillRow_56 (this := this) X E hk15 ht x1 x2 x3 0 σ h
set_option maxRecDepth 100000 in
set_option maxHeartbeats 4000000 in
theorem w_X7_fillRow_15_b {x : aC} {r : Int × Hp} {k15 : Int × Int × Hp → Option (Int × Hp)} {this : Nat} (X : aX x cX7_fillRow wsX7_fillRow RX7 5 rm_X7_fillRow) (E : aE x shC none 3 r) (hk15 : ∀ (x1 : Int) (x2 : Int) (σ : Hp), k15 (x1, x2, σ) = some r → aS x shC 5 15 [(0, vR this), (1, vI x1), (2, vI x2)] [] σ) (ht : isPlan this) (x1 : Int) (x2 : Int) (σ : Hp) (h : F_Plan_fillRow_15_b k15 this x1 x2 σ = some r) : aS x shC 5 15 [(0, vR this), (1, vI x1), (2, vI x2)] [] σ := by
  unfold F_Plan_fillRow_15_b at h
  refine A_iload_n X 2 rfl rfl dX7_fillRow_15 ?_
  refine A_aload_n X 0 rfl rfl dX7_fillRow_16 ?_
  refine A_getV X fg_X7_fillRow_42 (shPlan ht) (k := 7) rfl (by decide) dX7_fillRow_17 ?_
  obtain ⟨q12, hy⟩ : ∃ y, y = (σ this 7).toNat := ⟨_, rfl⟩
  replace h := ltD h q12 hy
  rw [← hy]
  clear hy
  obtain ⟨g13, h⟩ := gdD h
  refine A_getI X fg_X7_fillRow_43 (shNet g13) (k := 16) rfl (by decide) dX7_fillRow_20 ?_
  refine A_icmp_ge X (tgt := 129) (by decide) dX7_fillRow_23 (fun c14 => ?_) (fun c14 => ?_)
  · replace h := ifT h c14
    exact A_return X E h dX7_fillRow_129
  · replace h := ifF h c14
    refine A_aload_n X 0 rfl rfl dX7_fillRow_26 ?_
    refine A_getV X fg_X7_fillRow_42 (shPlan ht) (k := 7) rfl (by decide) dX7_fillRow_27 ?_
    obtain ⟨q15, hy⟩ : ∃ y, y = (σ this 7).toNat := ⟨_, rfl⟩
    replace h := ltD h q15 hy
    rw [← hy]
    clear hy
    obtain ⟨g16, h⟩ := gdD h
    refine A_iload_n X 2 rfl rfl dX7_fillRow_30 ?_
    obtain ⟨v17, s18, e19, h⟩ := clD h
    refine A_callV_I (na := 1) X (m_X6_pairOf e19) gX7_fillRow_X6_pairOf rfl ⟨rfl, rfl⟩ (by decide +kernel) rfl ⟨Nat.le_of_ble_eq_true rfl, Nat.le_of_ble_eq_true rfl⟩ (shNet g16) (by decide) rfl rfl (Nat.le_of_ble_eq_true rfl) dX7_fillRow_31 ?_
    refine A_istore_n X (L' := [(3, vI v17), (0, vR this), (1, vI x1), (2, vI x2)]) rfl (by decide) rfl dX7_fillRow_34 ?_
    refine A_aload_n X 1 rfl rfl dX7_fillRow_35 ?_
    refine A_getR X fg_X7_fillRow_22 (shPlan ht) (k := 4) rfl (by decide) dX7_fillRow_36 ?_
    refine A_iload_n X 3 rfl rfl dX7_fillRow_39 ?_
    obtain ⟨g20, h⟩ := gdD h
    refine A_iald X g20 (shPlan_gain ht) dX7_fillRow_40 ?_
    refine A_if_le X (tgt := 55) (by decide) dX7_fillRow_41 (fun c21 => ?_) (fun c21 => ?_)
    · replace h := ifT h c21
      refine A_sub [1, 2, 3, 0] rfl (L' := [(0, vR this), (1, vI x1), (2, vI x2), (3, vI v17)]) rfl ?_
      exact w_X7_fillRow_55 (this := this) X E hk15 ht x1 x2 v17 s18 h
    · replace h := ifF h c21
      refine A_iload_n X 2 rfl rfl dX7_fillRow_44 ?_
      refine A_iload_n X 0 rfl rfl dX7_fillRow_45 ?_
      refine A_iand X dX7_fillRow_46 ?_
      refine A_iload_n X 0 rfl rfl dX7_fillRow_47 ?_
      refine A_icmp_ne X (tgt := 55) (by decide) dX7_fillRow_48 (fun c22 => ?_) (fun c22 => ?_)
      · replace h := ifF h c22
        refine A_sub [1, 2, 3, 0] rfl (L' := [(0, vR this), (1, vI x1), (2, vI x2), (3, vI v17)]) rfl ?_
        exact w_X7_fillRow_55 (this := this) X E hk15 ht x1 x2 v17 s18 h
      · replace h := ifT h c22
        refine A_iconst X dX7_fillRow_51 (z := 1) (by decide) ?_
        refine A_goto X (tgt := 56) (by decide) dX7_fillRow_52 ?_
        refine A_sub [1, 2, 3, 0] rfl (L' := [(0, vR this), (1, vI x1), (2, vI x2), (3, vI v17)]) rfl ?_
        exact w_X7_fillRow_56 (this := this) X E hk15 ht x1 x2 v17 1 s18 h
set_option maxRecDepth 100000 in
set_option maxHeartbeats 4000000 in
theorem w_X7_fillRow_15 {x : aC} {r : Int × Hp} {this : Nat} (X : aX x cX7_fillRow wsX7_fillRow RX7 5 rm_X7_fillRow) (E : aE x shC none 3 r) (ht : isPlan this) : ∀ (n : Nat) (x1 : Int) (x2 : Int) (σ : Hp) (h : F_Plan_fillRow_15 this n (x1, x2, σ) = some r), aS x shC 5 15 [(0, vR this), (1, vI x1), (2, vI x2)] [] σ := by
  intro n
  induction n with
  | zero => intro x1 x2 σ h; cases h
  | succ n ih => intro x1 x2 σ h; exact w_X7_fillRow_15_b (this := this) (k15 := F_Plan_fillRow_15 this n) X E ih ht x1 x2 σ h
set_option maxRecDepth 100000 in
set_option maxHeartbeats 4000000 in
theorem m_X7_fillRow {l : Launch} {g : aG} {this : Nat} {σ : Hp} {r : Int × Hp} (h : F_Plan_fillRow this σ = some r) : aMet l g shC yX7_fillRow wsX7_fillRow rm_X7_fillRow [vR this] σ 3 r := by
  unfold F_Plan_fillRow at h
  obtain ⟨ht, h⟩ := gdD h
  refine aMet_of (bytes := cX7_fillRow) (maxL := 5) (ret := none) (by decide +kernel) rfl (Nat.le_of_ble_eq_true rfl) ⟨rfl, rfl⟩ (fun x e1 e2 X E => ?_)
  subst e1; subst e2
  have X : aX x cX7_fillRow wsX7_fillRow RX7 5 rm_X7_fillRow := X
  show aS x shC 5 0 [(0, vR this)] [] σ
  refine A_aload_n X 0 rfl rfl dX7_fillRow_0 ?_
  refine A_iconst X dX7_fillRow_1 (z := 0) (by decide) ?_
  refine A_putI X fp_X7_fillRow_96 (shPlan ht) (k := 6) rfl (by decide) dX7_fillRow_2 (fun s23 hy => ?_)
  replace h := ltD h s23 hy
  clear hy
  refine A_aload_n X 0 rfl rfl dX7_fillRow_5 ?_
  refine A_getV X fg_X7_fillRow_42 (shPlan ht) (k := 7) rfl (by decide) dX7_fillRow_6 ?_
  obtain ⟨q24, hy⟩ : ∃ y, y = (s23 this 7).toNat := ⟨_, rfl⟩
  replace h := ltD h q24 hy
  rw [← hy]
  clear hy
  obtain ⟨g25, h⟩ := gdD h
  obtain ⟨v26, s27, e28, h⟩ := clD h
  refine A_callV_I (na := 0) X (m_X6_everybody e28) gX7_fillRow_X6_everybody rfl ⟨rfl, rfl⟩ (by decide +kernel) rfl ⟨Nat.le_of_ble_eq_true rfl, Nat.le_of_ble_eq_true rfl⟩ (shNet g25) (by decide) rfl rfl (Nat.le_of_ble_eq_true rfl) dX7_fillRow_9 ?_
  refine A_istore_n X (L' := [(1, vI v26), (0, vR this)]) rfl (by decide) rfl dX7_fillRow_12 ?_
  refine A_iconst X dX7_fillRow_13 (z := 0) (by decide) ?_
  refine A_istore_n X (L' := [(2, vI 0), (1, vI v26), (0, vR this)]) rfl (by decide) rfl dX7_fillRow_14 ?_
  refine A_sub [2, 1, 0] rfl (L' := [(0, vR this), (1, vI v26), (2, vI 0)]) rfl ?_
  exact w_X7_fillRow_15 (this := this) X E ht FU v26 0 s27 h
abbrev rm_X7_take : Room := { frames := 2, cells := 0, slots := 0, locals := 96 }
theorem in_X7_take_7 : ∀ w ∈ u_ws RX7 TX7 11, w ∈ wsX7_take := fun w h => List.mem_cons_of_mem _ (List.mem_append_left _ (List.mem_append_left _ (List.mem_append_right _ h)))
theorem fg_X7_take_22 : aFl wsX7_take RX7 22 7 4 := ⟨RX7, TX7, 11, rfl, in_X7_take_7, by decide, (List.mem_of_getElem? (i := 6) rfl), rfl⟩
theorem fg_X7_take_42 : aFl wsX7_take RX7 42 7 7 := ⟨RX7, TX7, 11, rfl, in_X7_take_7, by decide, (List.mem_of_getElem? (i := 3) rfl), rfl⟩
theorem in_X7_take_6 : ∀ w ∈ u_ws RX6 TX6 20, w ∈ wsX7_take := fun w h => List.mem_cons_of_mem _ (List.mem_append_right _ h)
theorem fg_X7_take_66 : aFl wsX7_take RX7 66 6 15 := ⟨RX6, TX6, 20, rfl, in_X7_take_6, by decide, (List.mem_of_getElem? (i := 11) rfl), rfl⟩
theorem fp_X7_take_76 : aFp wsX7_take RX7 76 7 9 .boolean := ⟨RX7, TX7, 11, tyX7, rfl, in_X7_take_7, by decide, (List.mem_of_getElem? (i := 12) rfl), rfl, tyX7_ok, nmX7, rfl, rfl⟩
theorem fp_X7_take_80 : aFp wsX7_take RX7 80 7 10 .boolean := ⟨RX7, TX7, 11, tyX7, rfl, in_X7_take_7, by decide, (List.mem_of_getElem? (i := 13) rfl), rfl, tyX7_ok, nmX7, rfl, rfl⟩
theorem fg_X7_take_43 : aFl wsX7_take RX7 43 6 16 := ⟨RX6, TX6, 20, rfl, in_X7_take_6, by decide, (List.mem_of_getElem? (i := 4) rfl), rfl⟩
theorem fg_X7_take_28 : aFl wsX7_take RX7 28 7 0 := ⟨RX7, TX7, 11, rfl, in_X7_take_7, by decide, (List.mem_of_getElem? (i := 1) rfl), rfl⟩
theorem in_X7_take_10 : ∀ w ∈ u_ws RX10 TX10 3, w ∈ wsX7_take := fun w h => List.mem_cons_of_mem _ (List.mem_append_left _ (List.mem_append_right _ h))
theorem fg_X7_take_49 : aFl wsX7_take RX7 49 10 0 := ⟨RX10, TX10, 3, rfl, in_X7_take_10, by decide, (List.mem_of_getElem? (i := 5) rfl), rfl⟩
theorem fg_X7_take_36 : aFl wsX7_take RX7 36 10 2 := ⟨RX10, TX10, 3, rfl, in_X7_take_10, by decide, (List.mem_of_getElem? (i := 2) rfl), rfl⟩
theorem fp_X7_take_42 : aFp wsX7_take RX7 42 7 7 (.object "RoadDeals$Net") := ⟨RX7, TX7, 11, tyX7, rfl, in_X7_take_7, by decide, (List.mem_of_getElem? (i := 3) rfl), rfl, tyX7_ok, nmX7, rfl, rfl⟩
set_option maxRecDepth 100000 in
set_option maxHeartbeats 4000000 in
theorem w_X7_take_75 {x : aC} {r : Int × Hp} {k13 : Int × Hp → Option (Int × Hp)} {this : Nat} {a1 : Int} {a2 : Int} (X : aX x cX7_take wsX7_take RX7 5 rm_X7_take) (E : aE x shC none 3 r) (hk13 : ∀ (x3 : Int) (σ : Hp), k13 (x3, σ) = some r → aS x shC 5 13 [(0, vR this), (1, vI a1), (2, vI a2), (3, vI x3)] [] σ) (ht : isPlan this) (x3 : Int) (x4 : Int) (σ : Hp) (h : F_Plan_take_75 k13 this a1 a2 x3 x4 σ = some r) : aS x shC 5 75 [(0, vR this), (1, vI a1), (2, vI a2), (3, vI x3), (4, vI x4)] [] σ := by
  unfold F_Plan_take_75 at h
  refine A_aload_n X 0 rfl rfl dX7_take_75 ?_
  refine A_getR X fg_X7_take_22 (shPlan ht) (k := 4) rfl (by decide) dX7_take_76 ?_
  refine A_iload_n X 3 rfl rfl dX7_take_79 ?_
  refine A_iconst X dX7_take_80 (z := 0) (by decide) ?_
  refine A_iload X 4 rfl dX7_take_81 ?_
  refine A_mmax X (List.mem_of_getElem? (i := 7) rfl) (List.mem_of_getElem? (i := 8) rfl) (List.mem_of_getElem? (i := 9) rfl) (List.mem_of_getElem? (i := 10) rfl) (Nat.le_of_ble_eq_true rfl) (Nat.le_of_ble_eq_true rfl) dX7_take_83 ?_
  obtain ⟨g1, h⟩ := gdD h
  refine A_iast X g1 (shPlan_gain ht) dX7_take_86 (fun s2 hy => ?_)
  replace h := ltD h s2 hy
  clear hy
  refine A_iinc X (L' := fun y3_3 => [(3, vI y3_3), (0, vR this), (1, vI a1), (2, vI a2), (4, vI x4)]) 3 rfl (by decide) (fun _ => rfl) dX7_take_87 (by decide) (fun y3_3 hy => ?_)
  replace h := ltD h y3_3 hy
  clear hy
  refine A_goto X (tgt := 13) (by decide) dX7_take_90 ?_
  refine A_sub [1, 2, 3, 0] rfl (L' := [(0, vR this), (1, vI a1), (2, vI a2), (3, vI y3_3)]) rfl ?_
  exact hk13 y3_3 s2 h
set_option maxRecDepth 100000 in
set_option maxHeartbeats 4000000 in
theorem w_X7_take_73 {x : aC} {r : Int × Hp} {k13 : Int × Hp → Option (Int × Hp)} {this : Nat} {a1 : Int} {a2 : Int} (X : aX x cX7_take wsX7_take RX7 5 rm_X7_take) (E : aE x shC none 3 r) (hk13 : ∀ (x3 : Int) (σ : Hp), k13 (x3, σ) = some r → aS x shC 5 13 [(0, vR this), (1, vI a1), (2, vI a2), (3, vI x3)] [] σ) (ht : isPlan this) (x3 : Int) (t1 : Int) (σ : Hp) (h : F_Plan_take_73 k13 this a1 a2 x3 t1 σ = some r) : aS x shC 5 73 [(0, vR this), (1, vI a1), (2, vI a2), (3, vI x3)] [vI t1] σ := by
  unfold F_Plan_take_73 at h
  refine A_istore X (L' := [(4, vI t1), (0, vR this), (1, vI a1), (2, vI a2), (3, vI x3)]) (by decide) rfl dX7_take_73 ?_
  refine A_sub [1, 2, 3, 4, 0] rfl (L' := [(0, vR this), (1, vI a1), (2, vI a2), (3, vI x3), (4, vI t1)]) rfl ?_
  exact w_X7_take_75 (this := this) (a1 := a1) (a2 := a2) X E hk13 ht x3 t1 σ h
set_option maxRecDepth 100000 in
set_option maxHeartbeats 4000000 in
theorem w_X7_take_48 {x : aC} {r : Int × Hp} {k13 : Int × Hp → Option (Int × Hp)} {this : Nat} {a1 : Int} {a2 : Int} (X : aX x cX7_take wsX7_take RX7 5 rm_X7_take) (E : aE x shC none 3 r) (hk13 : ∀ (x3 : Int) (σ : Hp), k13 (x3, σ) = some r → aS x shC 5 13 [(0, vR this), (1, vI a1), (2, vI a2), (3, vI x3)] [] σ) (ht : isPlan this) (x3 : Int) (t1 : Int) (σ : Hp) (h : F_Plan_take_48 k13 this a1 a2 x3 t1 σ = some r) : aS x shC 5 48 [(0, vR this), (1, vI a1), (2, vI a2), (3, vI x3)] [vI t1] σ := by
  unfold F_Plan_take_48 at h
  refine A_istore X (L' := [(4, vI t1), (0, vR this), (1, vI a1), (2, vI a2), (3, vI x3)]) (by decide) rfl dX7_take_48 ?_
  refine A_iload_n X 4 rfl rfl dX7_take_50 ?_
  refine A_iload_n X 2 rfl rfl dX7_take_51 ?_
  refine A_icmp_ne X (tgt := 75) (by decide) dX7_take_52 (fun c4 => ?_) (fun c4 => ?_)
  · replace h := ifF h c4
    refine A_sub [1, 2, 3, 4, 0] rfl (L' := [(0, vR this), (1, vI a1), (2, vI a2), (3, vI x3), (4, vI t1)]) rfl ?_
    exact w_X7_take_75 (this := this) (a1 := a1) (a2 := a2) X E hk13 ht x3 t1 σ h
  · replace h := ifT h c4
    refine A_iload_n X 3 rfl rfl dX7_take_55 ?_
    refine A_iconst X dX7_take_56 (z := (-1)) (by decide) ?_
    refine A_icmp_ne X (tgt := 64) (by decide) dX7_take_57 (fun c5 => ?_) (fun c5 => ?_)
    · replace h := ifF h c5
      refine A_aload_n X 1 rfl rfl dX7_take_64 ?_
      refine A_getV X fg_X7_take_42 (shPlan ht) (k := 7) rfl (by decide) dX7_take_65 ?_
      obtain ⟨q6, hy⟩ : ∃ y, y = (σ this 7).toNat := ⟨_, rfl⟩
      replace h := ltD h q6 hy
      rw [← hy]
      clear hy
      obtain ⟨g7, h⟩ := gdD h
      refine A_iload_n X 4 rfl rfl dX7_take_68 ?_
      refine A_iload_n X 3 rfl rfl dX7_take_69 ?_
      obtain ⟨v8, s9, e10, h⟩ := clD h
      refine A_callV_I (na := 2) X (m_X6_gainWith e10) gX7_take_X6_gainWith rfl ⟨rfl, rfl⟩ (by decide +kernel) rfl ⟨Nat.le_of_ble_eq_true rfl, Nat.le_of_ble_eq_true rfl⟩ (shNet g7) (by decide) rfl rfl (Nat.le_of_ble_eq_true rfl) dX7_take_70 ?_
      refine A_sub [1, 2, 3, 4] rfl (L' := [(0, vR this), (1, vI a1), (2, vI a2), (3, vI x3)]) rfl ?_
      exact w_X7_take_73 (this := this) (a1 := a1) (a2 := a2) X E hk13 ht x3 v8 s9 h
    · replace h := ifT h c5
      refine A_iconst X dX7_take_60 (z := 0) (by decide) ?_
      refine A_goto X (tgt := 73) (by decide) dX7_take_61 ?_
      refine A_sub [1, 2, 3, 4] rfl (L' := [(0, vR this), (1, vI a1), (2, vI a2), (3, vI x3)]) rfl ?_
      exact w_X7_take_73 (this := this) (a1 := a1) (a2 := a2) X E hk13 ht x3 0 σ h
set_option maxRecDepth 100000 in
set_option maxHeartbeats 4000000 in
theorem w_X7_take_95_b {x : aC} {r : Int × Hp} {k95 : Int × Hp → Option (Int × Hp)} {this : Nat} {a1 : Int} {a2 : Int} (X : aX x cX7_take wsX7_take RX7 5 rm_X7_take) (E : aE x shC none 3 r) (hk95 : ∀ (x3 : Int) (σ : Hp), k95 (x3, σ) = some r → aS x shC 5 95 [(0, vR this), (3, vI x3)] [] σ) (ht : isPlan this) (x3 : Int) (σ : Hp) (h : F_Plan_take_95_b k95 this a1 a2 x3 σ = some r) : aS x shC 5 95 [(0, vR this), (3, vI x3)] [] σ := by
  unfold F_Plan_take_95_b at h
  refine A_iload_n X 1 rfl rfl dX7_take_95 ?_
  refine A_aload_n X 0 rfl rfl dX7_take_96 ?_
  refine A_getV X fg_X7_take_42 (shPlan ht) (k := 7) rfl (by decide) dX7_take_97 ?_
  obtain ⟨q11, hy⟩ : ∃ y, y = (σ this 7).toNat := ⟨_, rfl⟩
  replace h := ltD h q11 hy
  rw [← hy]
  clear hy
  obtain ⟨g12, h⟩ := gdD h
  refine A_getI X fg_X7_take_66 (shNet g12) (k := 15) rfl (by decide) dX7_take_100 ?_
  refine A_icmp_ge X (tgt := 117) (by decide) dX7_take_103 (fun c13 => ?_) (fun c13 => ?_)
  · replace h := ifT h c13
    refine A_aload_n X 0 rfl rfl dX7_take_117 ?_
    obtain ⟨v14, s15, e16, h⟩ := clD h
    refine A_callV_V (na := 0) X (m_X7_fillRow e16) gX7_take_X7_fillRow rfl ⟨rfl, rfl⟩ (by decide +kernel) rfl ⟨Nat.le_of_ble_eq_true rfl, Nat.le_of_ble_eq_true rfl⟩ (shPlan ht) (by decide) rfl rfl (Nat.le_of_ble_eq_true rfl) dX7_take_118 ?_
    refine A_aload_n X 0 rfl rfl dX7_take_121 ?_
    refine A_iconst X dX7_take_122 (z := 1) (by decide) ?_
    refine A_putZ X (Or.inr rfl) fp_X7_take_76 (shPlan ht) (k := 9) rfl (by decide) dX7_take_123 (fun s17 hy => ?_)
    replace h := ltD h s17 hy
    clear hy
    refine A_aload_n X 0 rfl rfl dX7_take_126 ?_
    refine A_iconst X dX7_take_127 (z := 1) (by decide) ?_
    refine A_putZ X (Or.inr rfl) fp_X7_take_80 (shPlan ht) (k := 10) rfl (by decide) dX7_take_128 (fun s18 hy => ?_)
    replace h := ltD h s18 hy
    clear hy
    exact A_return X E h dX7_take_131
  · replace h := ifF h c13
    refine A_aload_n X 0 rfl rfl dX7_take_106 ?_
    refine A_iload_n X 1 rfl rfl dX7_take_107 ?_
    obtain ⟨v19, s20, e21, h⟩ := clD h
    refine A_callV_V (na := 1) X (m_X7_fillBest e21) gX7_take_X7_fillBest rfl ⟨rfl, rfl⟩ (by decide +kernel) rfl ⟨Nat.le_of_ble_eq_true rfl, Nat.le_of_ble_eq_true rfl⟩ (shPlan ht) (by decide) rfl rfl (Nat.le_of_ble_eq_true rfl) dX7_take_108 ?_
    refine A_iinc X (L' := fun y3_22 => [(3, vI y3_22), (0, vR this)]) 1 rfl (by decide) (fun _ => rfl) dX7_take_111 (by decide) (fun y3_22 hy => ?_)
    replace h := ltD h y3_22 hy
    clear hy
    refine A_goto X (tgt := 95) (by decide) dX7_take_114 ?_
    refine A_sub [1, 0] rfl (L' := [(0, vR this), (3, vI y3_22)]) rfl ?_
    exact hk95 y3_22 s20 h
set_option maxRecDepth 100000 in
set_option maxHeartbeats 4000000 in
theorem w_X7_take_95 {x : aC} {r : Int × Hp} {this : Nat} {a1 : Int} {a2 : Int} (X : aX x cX7_take wsX7_take RX7 5 rm_X7_take) (E : aE x shC none 3 r) (ht : isPlan this) : ∀ (n : Nat) (x3 : Int) (σ : Hp) (h : F_Plan_take_95 this a1 a2 n (x3, σ) = some r), aS x shC 5 95 [(0, vR this), (3, vI x3)] [] σ := by
  intro n
  induction n with
  | zero => intro x3 σ h; cases h
  | succ n ih => intro x3 σ h; exact w_X7_take_95_b (this := this) (a1 := a1) (a2 := a2) (k95 := F_Plan_take_95 this a1 a2 n) X E ih ht x3 σ h
set_option maxRecDepth 100000 in
set_option maxHeartbeats 4000000 in
theorem w_X7_take_13_b {x : aC} {r : Int × Hp} {k13 : Int × Hp → Option (Int × Hp)} {this : Nat} {a1 : Int} {a2 : Int} (X : aX x cX7_take wsX7_take RX7 5 rm_X7_take) (E : aE x shC none 3 r) (hk13 : ∀ (x3 : Int) (σ : Hp), k13 (x3, σ) = some r → aS x shC 5 13 [(0, vR this), (1, vI a1), (2, vI a2), (3, vI x3)] [] σ) (ht : isPlan this) (x3 : Int) (σ : Hp) (h : F_Plan_take_13_b k13 this a1 a2 x3 σ = some r) : aS x shC 5 13 [(0, vR this), (1, vI a1), (2, vI a2), (3, vI x3)] [] σ := by
  unfold F_Plan_take_13_b at h
  refine A_iload_n X 3 rfl rfl dX7_take_13 ?_
  refine A_aload_n X 0 rfl rfl dX7_take_14 ?_
  refine A_getV X fg_X7_take_42 (shPlan ht) (k := 7) rfl (by decide) dX7_take_15 ?_
  obtain ⟨q23, hy⟩ : ∃ y, y = (σ this 7).toNat := ⟨_, rfl⟩
  replace h := ltD h q23 hy
  rw [← hy]
  clear hy
  obtain ⟨g24, h⟩ := gdD h
  refine A_getI X fg_X7_take_43 (shNet g24) (k := 16) rfl (by decide) dX7_take_18 ?_
  refine A_icmp_ge X (tgt := 93) (by decide) dX7_take_21 (fun c25 => ?_) (fun c25 => ?_)
  · replace h := ifT h c25
    refine A_iconst X dX7_take_93 (z := 0) (by decide) ?_
    refine A_istore_n X (L' := [(3, vI 0), (0, vR this), (1, vI a1), (2, vI a2)]) rfl (by decide) rfl dX7_take_94 ?_
    refine A_sub [1, 0] rfl (L' := [(0, vR this), (3, vI 0)]) rfl ?_
    exact w_X7_take_95 (this := this) (a1 := a1) (a2 := a2) X E ht FU 0 σ h
  · replace h := ifF h c25
    refine A_aload_n X 0 rfl rfl dX7_take_24 ?_
    refine A_getA X fg_X7_take_28 (shPlan ht) (k := 0) rfl (by decide) dX7_take_25 ?_
    refine A_getR X fg_X7_take_49 shC_88 (k := 0) rfl (by decide) dX7_take_28 ?_
    refine A_iload_n X 3 rfl rfl dX7_take_31 ?_
    obtain ⟨g26, h⟩ := gdD h
    refine A_zald X g26 shC_89 dX7_take_32 ?_
    refine A_if_eq X (tgt := 47) (by decide) dX7_take_33 (fun c27 => ?_) (fun c27 => ?_)
    · replace h := ifT h c27
      refine A_iconst X dX7_take_47 (z := 0) (by decide) ?_
      exact w_X7_take_48 (this := this) (a1 := a1) (a2 := a2) X E hk13 ht x3 0 σ h
    · replace h := ifF h c27
      refine A_aload_n X 0 rfl rfl dX7_take_36 ?_
      refine A_getA X fg_X7_take_28 (shPlan ht) (k := 0) rfl (by decide) dX7_take_37 ?_
      refine A_iload_n X 3 rfl rfl dX7_take_40 ?_
      obtain ⟨v28, s29, e30, h⟩ := clD h
      refine A_callV_I (na := 1) X (m_X10_gainOf e30) gX7_take_X10_gainOf rfl ⟨rfl, rfl⟩ (by decide +kernel) rfl ⟨Nat.le_of_ble_eq_true rfl, Nat.le_of_ble_eq_true rfl⟩ shC_88 (by decide) rfl rfl (Nat.le_of_ble_eq_true rfl) dX7_take_41 ?_
      refine A_goto X (tgt := 48) (by decide) dX7_take_44 ?_
      exact w_X7_take_48 (this := this) (a1 := a1) (a2 := a2) X E hk13 ht x3 v28 s29 h
set_option maxRecDepth 100000 in
set_option maxHeartbeats 4000000 in
theorem w_X7_take_13 {x : aC} {r : Int × Hp} {this : Nat} {a1 : Int} {a2 : Int} (X : aX x cX7_take wsX7_take RX7 5 rm_X7_take) (E : aE x shC none 3 r) (ht : isPlan this) : ∀ (n : Nat) (x3 : Int) (σ : Hp) (h : F_Plan_take_13 this a1 a2 n (x3, σ) = some r), aS x shC 5 13 [(0, vR this), (1, vI a1), (2, vI a2), (3, vI x3)] [] σ := by
  intro n
  induction n with
  | zero => intro x3 σ h; cases h
  | succ n ih => intro x3 σ h; exact w_X7_take_13_b (this := this) (a1 := a1) (a2 := a2) (k13 := F_Plan_take_13 this a1 a2 n) X E ih ht x3 σ h
set_option maxRecDepth 100000 in
set_option maxHeartbeats 4000000 in
theorem m_X7_take {l : Launch} {g : aG} {this : Nat} {a1 : Int} {a2 : Int} {σ : Hp} {r : Int × Hp} (h : F_Plan_take this a1 a2 σ = some r) : aMet l g shC yX7_take wsX7_take rm_X7_take [vR this, vI a1, vI a2] σ 3 r := by
  unfold F_Plan_take at h
  obtain ⟨ht, h⟩ := gdD h
  refine aMet_of (bytes := cX7_take) (maxL := 5) (ret := none) (by decide +kernel) rfl (Nat.le_of_ble_eq_true rfl) ⟨rfl, rfl⟩ (fun x e1 e2 X E => ?_)
  subst e1; subst e2
  have X : aX x cX7_take wsX7_take RX7 5 rm_X7_take := X
  show aS x shC 5 0 [(0, vR this), (1, vI a1), (2, vI a2)] [] σ
  refine A_aload_n X 0 rfl rfl dX7_take_0 ?_
  refine A_aload_n X 0 rfl rfl dX7_take_1 ?_
  refine A_getA X fg_X7_take_28 (shPlan ht) (k := 0) rfl (by decide) dX7_take_2 ?_
  refine A_getV X fg_X7_take_36 shC_88 (k := 2) rfl (by decide) dX7_take_5 ?_
  obtain ⟨q31, hy⟩ : ∃ y, y = (σ 88 2).toNat := ⟨_, rfl⟩
  replace h := ltD h q31 hy
  rw [← hy]
  clear hy
  obtain ⟨g32, h⟩ := gdD h
  refine A_putV X (bNet g32) fp_X7_take_42 (shPlan ht) (k := 7) rfl (by decide) dX7_take_8 (fun s33 hy => ?_)
  replace h := ltD h s33 hy
  clear hy
  refine A_iconst X dX7_take_11 (z := 0) (by decide) ?_
  refine A_istore_n X (L' := [(3, vI 0), (0, vR this), (1, vI a1), (2, vI a2)]) rfl (by decide) rfl dX7_take_12 ?_
  refine A_sub [1, 2, 3, 0] rfl (L' := [(0, vR this), (1, vI a1), (2, vI a2), (3, vI 0)]) rfl ?_
  exact w_X7_take_13 (this := this) (a1 := a1) (a2 := a2) X E ht FU 0 s33 h
abbrev rm_X7_mostOf : Room := { frames := 0, cells := 0, slots := 0, locals := 0 }
theorem in_X7_mostOf_7 : ∀ w ∈ u_ws RX7 TX7 11, w ∈ wsX7_mostOf := fun w h => List.mem_cons_of_mem _ (List.mem_append_right _ h)
theorem fg_X7_mostOf_18 : aFl wsX7_mostOf RX7 18 7 3 := ⟨RX7, TX7, 11, rfl, in_X7_mostOf_7, by decide, (List.mem_of_getElem? (i := 1) rfl), rfl⟩
set_option maxRecDepth 100000 in
set_option maxHeartbeats 4000000 in
theorem w_X7_mostOf_21 {x : aC} {r : Int × Hp} {this : Nat} {a1 : Int} (X : aX x cX7_mostOf wsX7_mostOf RX7 2 rm_X7_mostOf) (E : aE x shC (some .int) 0 r) (ht : isPlan this) (t1 : Int) (σ : Hp) (h : F_Plan_mostOf_21 this a1 t1 σ = some r) : aS x shC 2 21 [] [vI t1] σ := by
  unfold F_Plan_mostOf_21 at h
  exact A_ireturn X E h dX7_mostOf_21
set_option maxRecDepth 100000 in
set_option maxHeartbeats 4000000 in
theorem w_X7_mostOf_20 {x : aC} {r : Int × Hp} {this : Nat} {a1 : Int} (X : aX x cX7_mostOf wsX7_mostOf RX7 2 rm_X7_mostOf) (E : aE x shC (some .int) 0 r) (ht : isPlan this) (σ : Hp) (h : F_Plan_mostOf_20 this a1 σ = some r) : aS x shC 2 20 [] [] σ := by
  unfold F_Plan_mostOf_20 at h
  refine A_iconst X dX7_mostOf_20 (z := 0) (by decide) ?_
  exact w_X7_mostOf_21 (this := this) (a1 := a1) X E ht 0 σ h
set_option maxRecDepth 100000 in
set_option maxHeartbeats 4000000 in
theorem m_X7_mostOf {l : Launch} {g : aG} {this : Nat} {a1 : Int} {σ : Hp} {r : Int × Hp} (h : F_Plan_mostOf this a1 σ = some r) : aMet l g shC yX7_mostOf wsX7_mostOf rm_X7_mostOf [vR this, vI a1] σ 0 r := by
  unfold F_Plan_mostOf at h
  obtain ⟨ht, h⟩ := gdD h
  refine aMet_of (bytes := cX7_mostOf) (maxL := 2) (ret := (some .int)) (by decide +kernel) rfl (Nat.le_of_ble_eq_true rfl) ⟨rfl, rfl⟩ (fun x e1 e2 X E => ?_)
  subst e1; subst e2
  have X : aX x cX7_mostOf wsX7_mostOf RX7 2 rm_X7_mostOf := X
  show aS x shC 2 0 [(0, vR this), (1, vI a1)] [] σ
  refine A_iload_n X 1 rfl rfl dX7_mostOf_0 ?_
  refine A_if_lt X (tgt := 20) (by decide) dX7_mostOf_1 (fun c1 => ?_) (fun c1 => ?_)
  · replace h := ifT h c1
    refine A_sub [] rfl (L' := []) rfl ?_
    exact w_X7_mostOf_20 (this := this) (a1 := a1) X E ht σ h
  · replace h := ifF h c1
    refine A_iload_n X 1 rfl rfl dX7_mostOf_4 ?_
    refine A_sipush X dX7_mostOf_5 (z := 4096) (by decide) ?_
    refine A_icmp_ge X (tgt := 20) (by decide) dX7_mostOf_8 (fun c2 => ?_) (fun c2 => ?_)
    · replace h := ifT h c2
      refine A_sub [] rfl (L' := []) rfl ?_
      exact w_X7_mostOf_20 (this := this) (a1 := a1) X E ht σ h
    · replace h := ifF h c2
      refine A_aload_n X 0 rfl rfl dX7_mostOf_11 ?_
      refine A_getR X fg_X7_mostOf_18 (shPlan ht) (k := 3) rfl (by decide) dX7_mostOf_12 ?_
      refine A_iload_n X 1 rfl rfl dX7_mostOf_15 ?_
      obtain ⟨g3, h⟩ := gdD h
      refine A_iald X g3 (shPlan_best ht) dX7_mostOf_16 ?_
      refine A_goto X (tgt := 21) (by decide) dX7_mostOf_17 ?_
      refine A_sub [] rfl (L' := []) rfl ?_
      exact w_X7_mostOf_21 (this := this) (a1 := a1) X E ht (σ (this + 27) a1.toNat) σ h
abbrev rm_X3_leastAway : Room := { frames := 1, cells := 0, slots := 0, locals := 21 }
theorem in_X3_leastAway_3 : ∀ w ∈ u_ws RX3 TX3 11, w ∈ wsX3_leastAway := fun w h => List.mem_cons_of_mem _ (List.mem_append_left _ (List.mem_append_left _ (List.mem_append_right _ h)))
theorem fg_X3_leastAway_41 : aFl wsX3_leastAway RX3 41 3 6 := ⟨RX3, TX3, 11, rfl, in_X3_leastAway_3, by decide, (List.mem_of_getElem? (i := 1) rfl), rfl⟩
theorem in_X3_leastAway_6 : ∀ w ∈ u_ws RX6 TX6 20, w ∈ wsX3_leastAway := fun w h => List.mem_cons_of_mem _ (List.mem_append_left _ (List.mem_append_right _ h))
theorem fg_X3_leastAway_65 : aFl wsX3_leastAway RX3 65 6 15 := ⟨RX6, TX6, 20, rfl, in_X3_leastAway_6, by decide, (List.mem_of_getElem? (i := 2) rfl), rfl⟩
theorem fg_X3_leastAway_68 : aFl wsX3_leastAway RX3 68 6 1 := ⟨RX6, TX6, 20, rfl, in_X3_leastAway_6, by decide, (List.mem_of_getElem? (i := 3) rfl), rfl⟩
theorem fg_X3_leastAway_22 : aFl wsX3_leastAway RX3 22 3 4 := ⟨RX3, TX3, 11, rfl, in_X3_leastAway_3, by decide, (List.mem_of_getElem? (i := 4) rfl), rfl⟩
set_option maxRecDepth 100000 in
set_option maxHeartbeats 4000000 in
theorem w_X3_leastAway_64 {x : aC} {r : Int × Hp} {k22 : Int × Int × Int × Hp → Option (Int × Hp)} (X : aX x cX3_leastAway wsX3_leastAway RX3 5 rm_X3_leastAway) (E : aE x shC (some .int) 0 r) (hk22 : ∀ (x2 : Int) (x3 : Int) (x4 : Int) (σ : Hp), k22 (x2, x3, x4, σ) = some r → aS x shC 5 22 [(0, vR 173), (1, vR 112), (2, vI x2), (3, vI x3), (4, vI x4)] [] σ) (x2 : Int) (x3 : Int) (x4 : Int) (σ : Hp) (h : F_Deals_leastAway_64 k22 x2 x3 x4 σ = some r) : aS x shC 5 64 [(0, vR 173), (1, vR 112), (2, vI x2), (3, vI x3), (4, vI x4)] [] σ := by
  unfold F_Deals_leastAway_64 at h
  refine A_iinc X (L' := fun y4_1 => [(4, vI y4_1), (0, vR 173), (1, vR 112), (2, vI x2), (3, vI x3)]) 4 rfl (by decide) (fun _ => rfl) dX3_leastAway_64 (by decide) (fun y4_1 hy => ?_)
  replace h := ltD h y4_1 hy
  clear hy
  refine A_goto X (tgt := 22) (by decide) dX3_leastAway_67 ?_
  refine A_sub [1, 2, 3, 4, 0] rfl (L' := [(0, vR 173), (1, vR 112), (2, vI x2), (3, vI x3), (4, vI y4_1)]) rfl ?_
  exact hk22 x2 x3 y4_1 σ h
set_option maxRecDepth 100000 in
set_option maxHeartbeats 4000000 in
theorem w_X3_leastAway_22_b {x : aC} {r : Int × Hp} {k2 : Int × Hp → Option (Int × Hp)} {k22 : Int × Int × Int × Hp → Option (Int × Hp)} (X : aX x cX3_leastAway wsX3_leastAway RX3 5 rm_X3_leastAway) (E : aE x shC (some .int) 0 r) (hk2 : ∀ (x2 : Int) (σ : Hp), k2 (x2, σ) = some r → aS x shC 5 2 [(0, vR 173), (1, vR 112), (2, vI x2)] [] σ) (hk22 : ∀ (x2 : Int) (x3 : Int) (x4 : Int) (σ : Hp), k22 (x2, x3, x4, σ) = some r → aS x shC 5 22 [(0, vR 173), (1, vR 112), (2, vI x2), (3, vI x3), (4, vI x4)] [] σ) (x2 : Int) (x3 : Int) (x4 : Int) (σ : Hp) (h : F_Deals_leastAway_22_b k2 k22 x2 x3 x4 σ = some r) : aS x shC 5 22 [(0, vR 173), (1, vR 112), (2, vI x2), (3, vI x3), (4, vI x4)] [] σ := by
  unfold F_Deals_leastAway_22_b at h
  refine A_iload X 4 rfl dX3_leastAway_22 ?_
  refine A_aload_n X 0 rfl rfl dX3_leastAway_24 ?_
  refine A_getV X fg_X3_leastAway_41 shC_173 (k := 6) rfl (by decide) dX3_leastAway_25 ?_
  obtain ⟨q2, hy⟩ : ∃ y, y = (σ 173 6).toNat := ⟨_, rfl⟩
  replace h := ltD h q2 hy
  rw [← hy]
  clear hy
  obtain ⟨g3, h⟩ := gdD h
  refine A_getI X fg_X3_leastAway_65 (shNet g3) (k := 15) rfl (by decide) dX3_leastAway_28 ?_
  refine A_icmp_ge X (tgt := 70) (by decide) dX3_leastAway_31 (fun c4 => ?_) (fun c4 => ?_)
  · replace h := ifT h c4
    refine A_iload_n X 3 rfl rfl dX3_leastAway_70 ?_
    refine A_if_le X (tgt := 76) (by decide) dX3_leastAway_71 (fun c5 => ?_) (fun c5 => ?_)
    · replace h := ifT h c5
      refine A_iinc X (L' := fun y2_6 => [(2, vI y2_6), (0, vR 173), (1, vR 112), (3, vI x3), (4, vI x4)]) 2 rfl (by decide) (fun _ => rfl) dX3_leastAway_76 (by decide) (fun y2_6 hy => ?_)
      replace h := ltD h y2_6 hy
      clear hy
      refine A_goto X (tgt := 2) (by decide) dX3_leastAway_79 ?_
      refine A_sub [1, 2, 0] rfl (L' := [(0, vR 173), (1, vR 112), (2, vI y2_6)]) rfl ?_
      exact hk2 y2_6 σ h
    · replace h := ifF h c5
      refine A_iload_n X 2 rfl rfl dX3_leastAway_74 ?_
      exact A_ireturn X E h dX3_leastAway_75
  · replace h := ifF h c4
    refine A_iload_n X 2 rfl rfl dX3_leastAway_34 ?_
    refine A_iload X 4 rfl dX3_leastAway_35 ?_
    refine A_ishr X dX3_leastAway_37 ?_
    refine A_iconst X dX3_leastAway_38 (z := 1) (by decide) ?_
    refine A_iand X dX3_leastAway_39 ?_
    refine A_if_eq X (tgt := 64) (by decide) dX3_leastAway_40 (fun c7 => ?_) (fun c7 => ?_)
    · replace h := ifT h c7
      exact w_X3_leastAway_64 X E hk22 x2 x3 x4 σ h
    · replace h := ifF h c7
      refine A_iload_n X 3 rfl rfl dX3_leastAway_43 ?_
      refine A_aload_n X 0 rfl rfl dX3_leastAway_44 ?_
      refine A_getV X fg_X3_leastAway_41 shC_173 (k := 6) rfl (by decide) dX3_leastAway_45 ?_
      obtain ⟨q8, hy⟩ : ∃ y, y = (σ 173 6).toNat := ⟨_, rfl⟩
      replace h := ltD h q8 hy
      rw [← hy]
      clear hy
      obtain ⟨g9, h⟩ := gdD h
      refine A_getR X fg_X3_leastAway_68 (shNet g9) (k := 1) rfl (by decide) dX3_leastAway_48 ?_
      refine A_iload X 4 rfl dX3_leastAway_51 ?_
      obtain ⟨g10, h⟩ := gdD h
      refine A_iald X g10 (shNet_alone g9) dX3_leastAway_53 ?_
      refine A_aload_n X 0 rfl rfl dX3_leastAway_54 ?_
      refine A_getR X fg_X3_leastAway_22 shC_173 (k := 4) rfl (by decide) dX3_leastAway_55 ?_
      refine A_iload X 4 rfl dX3_leastAway_58 ?_
      obtain ⟨g11, h⟩ := gdD h
      refine A_iald X g11 shC_177 dX3_leastAway_60 ?_
      refine A_isub X dX3_leastAway_61 ?_
      refine A_iadd X dX3_leastAway_62 ?_
      refine A_istore_nN X (L' := fun y3_12 => [(3, vI y3_12), (0, vR 173), (1, vR 112), (2, vI x2), (4, vI x4)]) rfl (by decide) (fun _ => rfl) dX3_leastAway_63 (fun y3_12 hy => ?_)
      replace h := ltD h y3_12 hy
      clear hy
      refine A_sub [1, 2, 3, 0, 4] rfl (L' := [(0, vR 173), (1, vR 112), (2, vI x2), (3, vI y3_12), (4, vI x4)]) rfl ?_
      exact w_X3_leastAway_64 X E hk22 x2 y3_12 x4 σ h
set_option maxRecDepth 100000 in
set_option maxHeartbeats 4000000 in
theorem w_X3_leastAway_22 {x : aC} {r : Int × Hp} {k2 : Int × Hp → Option (Int × Hp)} (X : aX x cX3_leastAway wsX3_leastAway RX3 5 rm_X3_leastAway) (E : aE x shC (some .int) 0 r) (hk2 : ∀ (x2 : Int) (σ : Hp), k2 (x2, σ) = some r → aS x shC 5 2 [(0, vR 173), (1, vR 112), (2, vI x2)] [] σ) : ∀ (n : Nat) (x2 : Int) (x3 : Int) (x4 : Int) (σ : Hp) (h : F_Deals_leastAway_22 k2 n (x2, x3, x4, σ) = some r), aS x shC 5 22 [(0, vR 173), (1, vR 112), (2, vI x2), (3, vI x3), (4, vI x4)] [] σ := by
  intro n
  induction n with
  | zero => intro x2 x3 x4 σ h; cases h
  | succ n ih => intro x2 x3 x4 σ h; exact w_X3_leastAway_22_b (k22 := F_Deals_leastAway_22 k2 n) X E hk2 ih x2 x3 x4 σ h
set_option maxRecDepth 100000 in
set_option maxHeartbeats 4000000 in
theorem w_X3_leastAway_2_b {x : aC} {r : Int × Hp} {k2 : Int × Hp → Option (Int × Hp)} (X : aX x cX3_leastAway wsX3_leastAway RX3 5 rm_X3_leastAway) (E : aE x shC (some .int) 0 r) (hk2 : ∀ (x2 : Int) (σ : Hp), k2 (x2, σ) = some r → aS x shC 5 2 [(0, vR 173), (1, vR 112), (2, vI x2)] [] σ) (x2 : Int) (σ : Hp) (h : F_Deals_leastAway_2_b k2 x2 σ = some r) : aS x shC 5 2 [(0, vR 173), (1, vR 112), (2, vI x2)] [] σ := by
  unfold F_Deals_leastAway_2_b at h
  refine A_iload_n X 2 rfl rfl dX3_leastAway_2 ?_
  refine A_aload_n X 0 rfl rfl dX3_leastAway_3 ?_
  refine A_getV X fg_X3_leastAway_41 shC_173 (k := 6) rfl (by decide) dX3_leastAway_4 ?_
  obtain ⟨q13, hy⟩ : ∃ y, y = (σ 173 6).toNat := ⟨_, rfl⟩
  replace h := ltD h q13 hy
  rw [← hy]
  clear hy
  obtain ⟨g14, h⟩ := gdD h
  obtain ⟨v15, s16, e17, h⟩ := clD h
  refine A_callV_I (na := 0) X (m_X6_everybody e17) gX3_leastAway_X6_everybody rfl ⟨rfl, rfl⟩ (by decide +kernel) rfl ⟨Nat.le_of_ble_eq_true rfl, Nat.le_of_ble_eq_true rfl⟩ (shNet g14) (by decide) rfl rfl (Nat.le_of_ble_eq_true rfl) dX3_leastAway_7 ?_
  refine A_icmp_gt X (tgt := 82) (by decide) dX3_leastAway_10 (fun c18 => ?_) (fun c18 => ?_)
  · replace h := ifT h c18
    refine A_iconst X dX3_leastAway_82 (z := 0) (by decide) ?_
    exact A_ireturn X E h dX3_leastAway_83
  · replace h := ifF h c18
    refine A_aload_n X 1 rfl rfl dX3_leastAway_13 ?_
    refine A_iload_n X 2 rfl rfl dX3_leastAway_14 ?_
    obtain ⟨v19, s20, e21, h⟩ := clD h
    refine A_callV_I (na := 1) X (m_X7_mostOf e21) gX3_leastAway_X7_mostOf rfl ⟨rfl, rfl⟩ (by decide +kernel) rfl ⟨Nat.le_of_ble_eq_true rfl, Nat.le_of_ble_eq_true rfl⟩ shC_112 (by decide) rfl rfl (Nat.le_of_ble_eq_true rfl) dX3_leastAway_15 ?_
    refine A_istore_n X (L' := [(3, vI v19), (0, vR 173), (1, vR 112), (2, vI x2)]) rfl (by decide) rfl dX3_leastAway_18 ?_
    refine A_iconst X dX3_leastAway_19 (z := 0) (by decide) ?_
    refine A_istore X (L' := [(4, vI 0), (3, vI v19), (0, vR 173), (1, vR 112), (2, vI x2)]) (by decide) rfl dX3_leastAway_20 ?_
    refine A_sub [2, 3, 4, 1, 0] rfl (L' := [(0, vR 173), (1, vR 112), (2, vI x2), (3, vI v19), (4, vI 0)]) rfl ?_
    exact w_X3_leastAway_22 X E hk2 FU x2 v19 0 s20 h
set_option maxRecDepth 100000 in
set_option maxHeartbeats 4000000 in
theorem w_X3_leastAway_2 {x : aC} {r : Int × Hp} (X : aX x cX3_leastAway wsX3_leastAway RX3 5 rm_X3_leastAway) (E : aE x shC (some .int) 0 r) : ∀ (n : Nat) (x2 : Int) (σ : Hp) (h : F_Deals_leastAway_2 n (x2, σ) = some r), aS x shC 5 2 [(0, vR 173), (1, vR 112), (2, vI x2)] [] σ := by
  intro n
  induction n with
  | zero => intro x2 σ h; cases h
  | succ n ih => intro x2 σ h; exact w_X3_leastAway_2_b (k2 := F_Deals_leastAway_2 n) X E ih x2 σ h
set_option maxRecDepth 100000 in
set_option maxHeartbeats 4000000 in
theorem m_X3_leastAway {l : Launch} {g : aG} {σ : Hp} {r : Int × Hp} (h : F_Deals_leastAway σ = some r) : aMet l g shC yX3_leastAway wsX3_leastAway rm_X3_leastAway [vR 173, vR 112] σ 0 r := by
  unfold F_Deals_leastAway at h
  refine aMet_of (bytes := cX3_leastAway) (maxL := 5) (ret := (some .int)) (by decide +kernel) rfl (Nat.le_of_ble_eq_true rfl) ⟨rfl, rfl⟩ (fun x e1 e2 X E => ?_)
  subst e1; subst e2
  have X : aX x cX3_leastAway wsX3_leastAway RX3 5 rm_X3_leastAway := X
  show aS x shC 5 0 [(0, vR 173), (1, vR 112)] [] σ
  refine A_iconst X dX3_leastAway_0 (z := 1) (by decide) ?_
  refine A_istore_n X (L' := [(2, vI 1), (0, vR 173), (1, vR 112)]) rfl (by decide) rfl dX3_leastAway_1 ?_
  refine A_sub [1, 2, 0] rfl (L' := [(0, vR 173), (1, vR 112), (2, vI 1)]) rfl ?_
  exact w_X3_leastAway_2 X E FU 1 σ h
abbrev rm_X3_firstLone : Room := { frames := 0, cells := 0, slots := 0, locals := 0 }
theorem in_X3_firstLone_3 : ∀ w ∈ u_ws RX3 TX3 11, w ∈ wsX3_firstLone := fun w h => List.mem_cons_of_mem _ (List.mem_append_left _ (List.mem_append_right _ h))
theorem fg_X3_firstLone_41 : aFl wsX3_firstLone RX3 41 3 6 := ⟨RX3, TX3, 11, rfl, in_X3_firstLone_3, by decide, (List.mem_of_getElem? (i := 1) rfl), rfl⟩
theorem in_X3_firstLone_6 : ∀ w ∈ u_ws RX6 TX6 20, w ∈ wsX3_firstLone := fun w h => List.mem_cons_of_mem _ (List.mem_append_right _ h)
theorem fg_X3_firstLone_65 : aFl wsX3_firstLone RX3 65 6 15 := ⟨RX6, TX6, 20, rfl, in_X3_firstLone_6, by decide, (List.mem_of_getElem? (i := 2) rfl), rfl⟩
theorem fg_X3_firstLone_22 : aFl wsX3_firstLone RX3 22 3 4 := ⟨RX3, TX3, 11, rfl, in_X3_firstLone_3, by decide, (List.mem_of_getElem? (i := 3) rfl), rfl⟩
theorem fg_X3_firstLone_68 : aFl wsX3_firstLone RX3 68 6 1 := ⟨RX6, TX6, 20, rfl, in_X3_firstLone_6, by decide, (List.mem_of_getElem? (i := 4) rfl), rfl⟩
set_option maxRecDepth 100000 in
set_option maxHeartbeats 4000000 in
theorem w_X3_firstLone_2_b {x : aC} {r : Int × Hp} {k2 : Int × Hp → Option (Int × Hp)} (X : aX x cX3_firstLone wsX3_firstLone RX3 2 rm_X3_firstLone) (E : aE x shC (some .int) 0 r) (hk2 : ∀ (x1 : Int) (σ : Hp), k2 (x1, σ) = some r → aS x shC 2 2 [(0, vR 173), (1, vI x1)] [] σ) (x1 : Int) (σ : Hp) (h : F_Deals_firstLone_2_b k2 x1 σ = some r) : aS x shC 2 2 [(0, vR 173), (1, vI x1)] [] σ := by
  unfold F_Deals_firstLone_2_b at h
  refine A_iload_n X 1 rfl rfl dX3_firstLone_2 ?_
  refine A_aload_n X 0 rfl rfl dX3_firstLone_3 ?_
  refine A_getV X fg_X3_firstLone_41 shC_173 (k := 6) rfl (by decide) dX3_firstLone_4 ?_
  obtain ⟨q1, hy⟩ : ∃ y, y = (σ 173 6).toNat := ⟨_, rfl⟩
  replace h := ltD h q1 hy
  rw [← hy]
  clear hy
  obtain ⟨g2, h⟩ := gdD h
  refine A_getI X fg_X3_firstLone_65 (shNet g2) (k := 15) rfl (by decide) dX3_firstLone_7 ?_
  refine A_icmp_ge X (tgt := 39) (by decide) dX3_firstLone_10 (fun c3 => ?_) (fun c3 => ?_)
  · replace h := ifT h c3
    refine A_iconst X dX3_firstLone_39 (z := (-1)) (by decide) ?_
    exact A_ireturn X E h dX3_firstLone_40
  · replace h := ifF h c3
    refine A_aload_n X 0 rfl rfl dX3_firstLone_13 ?_
    refine A_getR X fg_X3_firstLone_22 shC_173 (k := 4) rfl (by decide) dX3_firstLone_14 ?_
    refine A_iload_n X 1 rfl rfl dX3_firstLone_17 ?_
    obtain ⟨g4, h⟩ := gdD h
    refine A_iald X g4 shC_177 dX3_firstLone_18 ?_
    refine A_aload_n X 0 rfl rfl dX3_firstLone_19 ?_
    refine A_getV X fg_X3_firstLone_41 shC_173 (k := 6) rfl (by decide) dX3_firstLone_20 ?_
    obtain ⟨q5, hy⟩ : ∃ y, y = (σ 173 6).toNat := ⟨_, rfl⟩
    replace h := ltD h q5 hy
    rw [← hy]
    clear hy
    obtain ⟨g6, h⟩ := gdD h
    refine A_getR X fg_X3_firstLone_68 (shNet g6) (k := 1) rfl (by decide) dX3_firstLone_23 ?_
    refine A_iload_n X 1 rfl rfl dX3_firstLone_26 ?_
    obtain ⟨g7, h⟩ := gdD h
    refine A_iald X g7 (shNet_alone g6) dX3_firstLone_27 ?_
    refine A_icmp_ge X (tgt := 33) (by decide) dX3_firstLone_28 (fun c8 => ?_) (fun c8 => ?_)
    · replace h := ifT h c8
      refine A_iinc X (L' := fun y1_9 => [(1, vI y1_9), (0, vR 173)]) 1 rfl (by decide) (fun _ => rfl) dX3_firstLone_33 (by decide) (fun y1_9 hy => ?_)
      replace h := ltD h y1_9 hy
      clear hy
      refine A_goto X (tgt := 2) (by decide) dX3_firstLone_36 ?_
      refine A_sub [1, 0] rfl (L' := [(0, vR 173), (1, vI y1_9)]) rfl ?_
      exact hk2 y1_9 σ h
    · replace h := ifF h c8
      refine A_iload_n X 1 rfl rfl dX3_firstLone_31 ?_
      exact A_ireturn X E h dX3_firstLone_32
set_option maxRecDepth 100000 in
set_option maxHeartbeats 4000000 in
theorem w_X3_firstLone_2 {x : aC} {r : Int × Hp} (X : aX x cX3_firstLone wsX3_firstLone RX3 2 rm_X3_firstLone) (E : aE x shC (some .int) 0 r) : ∀ (n : Nat) (x1 : Int) (σ : Hp) (h : F_Deals_firstLone_2 n (x1, σ) = some r), aS x shC 2 2 [(0, vR 173), (1, vI x1)] [] σ := by
  intro n
  induction n with
  | zero => intro x1 σ h; cases h
  | succ n ih => intro x1 σ h; exact w_X3_firstLone_2_b (k2 := F_Deals_firstLone_2 n) X E ih x1 σ h
set_option maxRecDepth 100000 in
set_option maxHeartbeats 4000000 in
theorem m_X3_firstLone {l : Launch} {g : aG} {σ : Hp} {r : Int × Hp} (h : F_Deals_firstLone σ = some r) : aMet l g shC yX3_firstLone wsX3_firstLone rm_X3_firstLone [vR 173] σ 0 r := by
  unfold F_Deals_firstLone at h
  refine aMet_of (bytes := cX3_firstLone) (maxL := 2) (ret := (some .int)) (by decide +kernel) rfl (Nat.le_of_ble_eq_true rfl) ⟨rfl, rfl⟩ (fun x e1 e2 X E => ?_)
  subst e1; subst e2
  have X : aX x cX3_firstLone wsX3_firstLone RX3 2 rm_X3_firstLone := X
  show aS x shC 2 0 [(0, vR 173)] [] σ
  refine A_iconst X dX3_firstLone_0 (z := 0) (by decide) ?_
  refine A_istore_n X (L' := [(1, vI 0), (0, vR 173)]) rfl (by decide) rfl dX3_firstLone_1 ?_
  refine A_sub [1, 0] rfl (L' := [(0, vR 173), (1, vI 0)]) rfl ?_
  exact w_X3_firstLone_2 X E FU 0 σ h
abbrev rm_X3_firstShort : Room := { frames := 0, cells := 0, slots := 0, locals := 0 }
theorem in_X3_firstShort_3 : ∀ w ∈ u_ws RX3 TX3 11, w ∈ wsX3_firstShort := fun w h => List.mem_cons_of_mem _ (List.mem_append_left _ (List.mem_append_left _ (List.mem_append_right _ h)))
theorem fg_X3_firstShort_31 : aFl wsX3_firstShort RX3 31 3 5 := ⟨RX3, TX3, 11, rfl, in_X3_firstShort_3, by decide, (List.mem_of_getElem? (i := 4) rfl), rfl⟩
theorem in_X3_firstShort_10 : ∀ w ∈ u_ws RX10 TX10 3, w ∈ wsX3_firstShort := fun w h => List.mem_cons_of_mem _ (List.mem_append_right _ h)
theorem fg_X3_firstShort_71 : aFl wsX3_firstShort RX3 71 10 0 := ⟨RX10, TX10, 3, rfl, in_X3_firstShort_10, by decide, (List.mem_of_getElem? (i := 8) rfl), rfl⟩
theorem fg_X3_firstShort_22 : aFl wsX3_firstShort RX3 22 3 4 := ⟨RX3, TX3, 11, rfl, in_X3_firstShort_3, by decide, (List.mem_of_getElem? (i := 9) rfl), rfl⟩
theorem fg_X3_firstShort_41 : aFl wsX3_firstShort RX3 41 3 6 := ⟨RX3, TX3, 11, rfl, in_X3_firstShort_3, by decide, (List.mem_of_getElem? (i := 1) rfl), rfl⟩
theorem in_X3_firstShort_6 : ∀ w ∈ u_ws RX6 TX6 20, w ∈ wsX3_firstShort := fun w h => List.mem_cons_of_mem _ (List.mem_append_left _ (List.mem_append_right _ h))
theorem fg_X3_firstShort_75 : aFl wsX3_firstShort RX3 75 6 3 := ⟨RX6, TX6, 20, rfl, in_X3_firstShort_6, by decide, (List.mem_of_getElem? (i := 10) rfl), rfl⟩
theorem fg_X3_firstShort_53 : aFl wsX3_firstShort RX3 53 6 16 := ⟨RX6, TX6, 20, rfl, in_X3_firstShort_6, by decide, (List.mem_of_getElem? (i := 2) rfl), rfl⟩
theorem fg_X3_firstShort_74 : aFl wsX3_firstShort RX3 74 6 2 := ⟨RX6, TX6, 20, rfl, in_X3_firstShort_6, by decide, (List.mem_of_getElem? (i := 3) rfl), rfl⟩
theorem fg_X3_firstShort_81 : aFl wsX3_firstShort RX3 81 10 1 := ⟨RX10, TX10, 3, rfl, in_X3_firstShort_10, by decide, (List.mem_of_getElem? (i := 5) rfl), rfl⟩
theorem fg_X3_firstShort_104 : aFl wsX3_firstShort RX3 104 6 4 := ⟨RX6, TX6, 20, rfl, in_X3_firstShort_6, by decide, (List.mem_of_getElem? (i := 6) rfl), rfl⟩
theorem fg_X3_firstShort_19 : aFl wsX3_firstShort RX3 19 3 3 := ⟨RX3, TX3, 11, rfl, in_X3_firstShort_3, by decide, (List.mem_of_getElem? (i := 7) rfl), rfl⟩
set_option maxRecDepth 100000 in
set_option maxHeartbeats 4000000 in
theorem w_X3_firstShort_108 {x : aC} {r : Int × Hp} {k2 : Int × Hp → Option (Int × Hp)} {a1 : Int} (X : aX x cX3_firstShort wsX3_firstShort RX3 6 rm_X3_firstShort) (E : aE x shC (some .int) 0 r) (hk2 : ∀ (x2 : Int) (σ : Hp), k2 (x2, σ) = some r → aS x shC 6 2 [(0, vR 173), (1, vI a1), (2, vI x2)] [] σ) (x2 : Int) (σ : Hp) (h : F_Deals_firstShort_108 k2 a1 x2 σ = some r) : aS x shC 6 108 [(0, vR 173), (1, vI a1), (2, vI x2)] [] σ := by
  unfold F_Deals_firstShort_108 at h
  refine A_iinc X (L' := fun y2_1 => [(2, vI y2_1), (0, vR 173), (1, vI a1)]) 2 rfl (by decide) (fun _ => rfl) dX3_firstShort_108 (by decide) (fun y2_1 hy => ?_)
  replace h := ltD h y2_1 hy
  clear hy
  refine A_goto X (tgt := 2) (by decide) dX3_firstShort_111 ?_
  refine A_sub [1, 2, 0] rfl (L' := [(0, vR 173), (1, vI a1), (2, vI y2_1)]) rfl ?_
  exact hk2 y2_1 σ h
set_option maxRecDepth 100000 in
set_option maxHeartbeats 4000000 in
theorem w_X3_firstShort_61 {x : aC} {r : Int × Hp} {k2 : Int × Hp → Option (Int × Hp)} {a1 : Int} (X : aX x cX3_firstShort wsX3_firstShort RX3 6 rm_X3_firstShort) (E : aE x shC (some .int) 0 r) (hk2 : ∀ (x2 : Int) (σ : Hp), k2 (x2, σ) = some r → aS x shC 6 2 [(0, vR 173), (1, vI a1), (2, vI x2)] [] σ) (x2 : Int) (x3 : Int) (x4 : Int) (t1 : Int) (σ : Hp) (h : F_Deals_firstShort_61 k2 a1 x2 x3 x4 t1 σ = some r) : aS x shC 6 61 [(0, vR 173), (1, vI a1), (2, vI x2), (3, vI x3), (4, vI x4)] [vI t1] σ := by
  unfold F_Deals_firstShort_61 at h
  refine A_istore X (L' := [(5, vI t1), (0, vR 173), (1, vI a1), (2, vI x2), (3, vI x3), (4, vI x4)]) (by decide) rfl dX3_firstShort_61 ?_
  refine A_aload_n X 1 rfl rfl dX3_firstShort_63 ?_
  refine A_getA X fg_X3_firstShort_31 shC_173 (k := 5) rfl (by decide) dX3_firstShort_64 ?_
  refine A_getR X fg_X3_firstShort_71 shC_88 (k := 0) rfl (by decide) dX3_firstShort_67 ?_
  refine A_iload_n X 3 rfl rfl dX3_firstShort_70 ?_
  obtain ⟨g2, h⟩ := gdD h
  refine A_zald X g2 shC_89 dX3_firstShort_71 ?_
  refine A_if_eq X (tgt := 108) (by decide) dX3_firstShort_72 (fun c3 => ?_) (fun c3 => ?_)
  · replace h := ifT h c3
    refine A_sub [1, 2, 3] rfl (L' := [(0, vR 173), (1, vI a1), (2, vI x2)]) rfl ?_
    exact w_X3_firstShort_108 (a1 := a1) X E hk2 x2 σ h
  · replace h := ifF h c3
    refine A_iload X 0 rfl dX3_firstShort_75 ?_
    refine A_if_ne X (tgt := 108) (by decide) dX3_firstShort_77 (fun c4 => ?_) (fun c4 => ?_)
    · replace h := ifF h c4
      refine A_sub [1, 2, 3] rfl (L' := [(0, vR 173), (1, vI a1), (2, vI x2)]) rfl ?_
      exact w_X3_firstShort_108 (a1 := a1) X E hk2 x2 σ h
    · replace h := ifT h c4
      refine A_aload_n X 1 rfl rfl dX3_firstShort_80 ?_
      refine A_getR X fg_X3_firstShort_22 shC_173 (k := 4) rfl (by decide) dX3_firstShort_81 ?_
      refine A_iload_n X 4 rfl rfl dX3_firstShort_84 ?_
      obtain ⟨g5, h⟩ := gdD h
      refine A_iald X g5 shC_177 dX3_firstShort_85 ?_
      refine A_aload_n X 1 rfl rfl dX3_firstShort_86 ?_
      refine A_getR X fg_X3_firstShort_22 shC_173 (k := 4) rfl (by decide) dX3_firstShort_87 ?_
      refine A_aload_n X 1 rfl rfl dX3_firstShort_90 ?_
      refine A_getV X fg_X3_firstShort_41 shC_173 (k := 6) rfl (by decide) dX3_firstShort_91 ?_
      obtain ⟨q6, hy⟩ : ∃ y, y = (σ 173 6).toNat := ⟨_, rfl⟩
      replace h := ltD h q6 hy
      rw [← hy]
      clear hy
      obtain ⟨g7, h⟩ := gdD h
      refine A_getR X fg_X3_firstShort_75 (shNet g7) (k := 3) rfl (by decide) dX3_firstShort_94 ?_
      refine A_iload_n X 3 rfl rfl dX3_firstShort_97 ?_
      obtain ⟨g8, h⟩ := gdD h
      refine A_iald X g8 (shNet_second g7) dX3_firstShort_98 ?_
      obtain ⟨g9, h⟩ := gdD h
      refine A_iald X g9 shC_177 dX3_firstShort_99 ?_
      refine A_iadd X dX3_firstShort_100 ?_
      refine A_iload X 5 rfl dX3_firstShort_101 ?_
      refine A_icmp_ge X (tgt := 108) (by decide) dX3_firstShort_103 (fun c10 => ?_) (fun c10 => ?_)
      · replace h := ifT h c10
        refine A_sub [1, 2, 3] rfl (L' := [(0, vR 173), (1, vI a1), (2, vI x2)]) rfl ?_
        exact w_X3_firstShort_108 (a1 := a1) X E hk2 x2 σ h
      · replace h := ifF h c10
        refine A_iload_n X 3 rfl rfl dX3_firstShort_106 ?_
        exact A_ireturn X E h dX3_firstShort_107
set_option maxRecDepth 100000 in
set_option maxHeartbeats 4000000 in
theorem w_X3_firstShort_2_b {x : aC} {r : Int × Hp} {k2 : Int × Hp → Option (Int × Hp)} {a1 : Int} (X : aX x cX3_firstShort wsX3_firstShort RX3 6 rm_X3_firstShort) (E : aE x shC (some .int) 0 r) (hk2 : ∀ (x2 : Int) (σ : Hp), k2 (x2, σ) = some r → aS x shC 6 2 [(0, vR 173), (1, vI a1), (2, vI x2)] [] σ) (x2 : Int) (σ : Hp) (h : F_Deals_firstShort_2_b k2 a1 x2 σ = some r) : aS x shC 6 2 [(0, vR 173), (1, vI a1), (2, vI x2)] [] σ := by
  unfold F_Deals_firstShort_2_b at h
  refine A_iload_n X 2 rfl rfl dX3_firstShort_2 ?_
  refine A_aload_n X 0 rfl rfl dX3_firstShort_3 ?_
  refine A_getV X fg_X3_firstShort_41 shC_173 (k := 6) rfl (by decide) dX3_firstShort_4 ?_
  obtain ⟨q11, hy⟩ : ∃ y, y = (σ 173 6).toNat := ⟨_, rfl⟩
  replace h := ltD h q11 hy
  rw [← hy]
  clear hy
  obtain ⟨g12, h⟩ := gdD h
  refine A_getI X fg_X3_firstShort_53 (shNet g12) (k := 16) rfl (by decide) dX3_firstShort_7 ?_
  refine A_icmp_ge X (tgt := 114) (by decide) dX3_firstShort_10 (fun c13 => ?_) (fun c13 => ?_)
  · replace h := ifT h c13
    refine A_iconst X dX3_firstShort_114 (z := (-1)) (by decide) ?_
    exact A_ireturn X E h dX3_firstShort_115
  · replace h := ifF h c13
    refine A_aload_n X 0 rfl rfl dX3_firstShort_13 ?_
    refine A_getV X fg_X3_firstShort_41 shC_173 (k := 6) rfl (by decide) dX3_firstShort_14 ?_
    obtain ⟨q14, hy⟩ : ∃ y, y = (σ 173 6).toNat := ⟨_, rfl⟩
    replace h := ltD h q14 hy
    rw [← hy]
    clear hy
    obtain ⟨g15, h⟩ := gdD h
    refine A_getR X fg_X3_firstShort_74 (shNet g15) (k := 2) rfl (by decide) dX3_firstShort_17 ?_
    refine A_iload_n X 2 rfl rfl dX3_firstShort_20 ?_
    obtain ⟨g16, h⟩ := gdD h
    refine A_iald X g16 (shNet_first g15) dX3_firstShort_21 ?_
    refine A_istore_nN X (L' := fun y3_17 => [(3, vI y3_17), (0, vR 173), (1, vI a1), (2, vI x2)]) rfl (by decide) (fun _ => rfl) dX3_firstShort_22 (fun y3_17 hy => ?_)
    replace h := ltD h y3_17 hy
    clear hy
    refine A_aload_n X 1 rfl rfl dX3_firstShort_23 ?_
    refine A_getA X fg_X3_firstShort_31 shC_173 (k := 5) rfl (by decide) dX3_firstShort_24 ?_
    refine A_getR X fg_X3_firstShort_81 shC_88 (k := 1) rfl (by decide) dX3_firstShort_27 ?_
    refine A_iload_n X 3 rfl rfl dX3_firstShort_30 ?_
    obtain ⟨g18, h⟩ := gdD h
    refine A_iald X g18 shC_90 dX3_firstShort_31 ?_
    refine A_iload_n X 2 rfl rfl dX3_firstShort_32 ?_
    refine A_aload_n X 1 rfl rfl dX3_firstShort_33 ?_
    refine A_getV X fg_X3_firstShort_41 shC_173 (k := 6) rfl (by decide) dX3_firstShort_34 ?_
    obtain ⟨q19, hy⟩ : ∃ y, y = (σ 173 6).toNat := ⟨_, rfl⟩
    replace h := ltD h q19 hy
    rw [← hy]
    clear hy
    obtain ⟨g20, h⟩ := gdD h
    refine A_getR X fg_X3_firstShort_104 (shNet g20) (k := 4) rfl (by decide) dX3_firstShort_37 ?_
    refine A_iload_n X 3 rfl rfl dX3_firstShort_40 ?_
    obtain ⟨g21, h⟩ := gdD h
    refine A_iald X g21 (shNet_doubt g20) dX3_firstShort_41 ?_
    refine A_imul X dX3_firstShort_42 ?_
    refine A_iadd X dX3_firstShort_43 ?_
    refine A_istoreN X (L' := fun y4_22 => [(4, vI y4_22), (3, vI y3_17), (0, vR 173), (1, vI a1), (2, vI x2)]) (by decide) (fun _ => rfl) dX3_firstShort_44 (fun y4_22 hy => ?_)
    replace h := ltD h y4_22 hy
    clear hy
    refine A_aload_n X 2 rfl rfl dX3_firstShort_46 ?_
    refine A_getR X fg_X3_firstShort_19 shC_173 (k := 3) rfl (by decide) dX3_firstShort_47 ?_
    refine A_iload_n X 1 rfl rfl dX3_firstShort_50 ?_
    obtain ⟨g23, h⟩ := gdD h
    refine A_iald X g23 shC_176 dX3_firstShort_51 ?_
    refine A_iload_n X 4 rfl rfl dX3_firstShort_52 ?_
    refine A_icmp_ne X (tgt := 60) (by decide) dX3_firstShort_53 (fun c24 => ?_) (fun c24 => ?_)
    · replace h := ifF h c24
      refine A_iconst X dX3_firstShort_60 (z := 0) (by decide) ?_
      refine A_sub [2, 3, 4, 1, 0] rfl (L' := [(0, vR 173), (1, vI a1), (2, vI x2), (3, vI y3_17), (4, vI y4_22)]) rfl ?_
      exact w_X3_firstShort_61 (a1 := a1) X E hk2 x2 y3_17 y4_22 0 σ h
    · replace h := ifT h c24
      refine A_iconst X dX3_firstShort_56 (z := 1) (by decide) ?_
      refine A_goto X (tgt := 61) (by decide) dX3_firstShort_57 ?_
      refine A_sub [2, 3, 4, 1, 0] rfl (L' := [(0, vR 173), (1, vI a1), (2, vI x2), (3, vI y3_17), (4, vI y4_22)]) rfl ?_
      exact w_X3_firstShort_61 (a1 := a1) X E hk2 x2 y3_17 y4_22 1 σ h
set_option maxRecDepth 100000 in
set_option maxHeartbeats 4000000 in
theorem w_X3_firstShort_2 {x : aC} {r : Int × Hp} {a1 : Int} (X : aX x cX3_firstShort wsX3_firstShort RX3 6 rm_X3_firstShort) (E : aE x shC (some .int) 0 r) : ∀ (n : Nat) (x2 : Int) (σ : Hp) (h : F_Deals_firstShort_2 a1 n (x2, σ) = some r), aS x shC 6 2 [(0, vR 173), (1, vI a1), (2, vI x2)] [] σ := by
  intro n
  induction n with
  | zero => intro x2 σ h; cases h
  | succ n ih => intro x2 σ h; exact w_X3_firstShort_2_b (a1 := a1) (k2 := F_Deals_firstShort_2 a1 n) X E ih x2 σ h
set_option maxRecDepth 100000 in
set_option maxHeartbeats 4000000 in
theorem m_X3_firstShort {l : Launch} {g : aG} {a1 : Int} {σ : Hp} {r : Int × Hp} (h : F_Deals_firstShort a1 σ = some r) : aMet l g shC yX3_firstShort wsX3_firstShort rm_X3_firstShort [vR 173, vI a1] σ 0 r := by
  unfold F_Deals_firstShort at h
  refine aMet_of (bytes := cX3_firstShort) (maxL := 6) (ret := (some .int)) (by decide +kernel) rfl (Nat.le_of_ble_eq_true rfl) ⟨rfl, rfl⟩ (fun x e1 e2 X E => ?_)
  subst e1; subst e2
  have X : aX x cX3_firstShort wsX3_firstShort RX3 6 rm_X3_firstShort := X
  show aS x shC 6 0 [(0, vR 173), (1, vI a1)] [] σ
  refine A_iconst X dX3_firstShort_0 (z := 0) (by decide) ?_
  refine A_istore_n X (L' := [(2, vI 0), (0, vR 173), (1, vI a1)]) rfl (by decide) rfl dX3_firstShort_1 ?_
  refine A_sub [1, 2, 0] rfl (L' := [(0, vR 173), (1, vI a1), (2, vI 0)]) rfl ?_
  exact w_X3_firstShort_2 (a1 := a1) X E FU 0 σ h
abbrev rm_X3_offer : Room := { frames := 0, cells := 0, slots := 0, locals := 0 }
theorem in_X3_offer_3 : ∀ w ∈ u_ws RX3 TX3 11, w ∈ wsX3_offer := fun w h => List.mem_cons_of_mem _ (List.mem_append_left _ (List.mem_append_left _ (List.mem_append_right _ h)))
theorem fg_X3_offer_41 : aFl wsX3_offer RX3 41 3 6 := ⟨RX3, TX3, 11, rfl, in_X3_offer_3, by decide, (List.mem_of_getElem? (i := 1) rfl), rfl⟩
theorem in_X3_offer_6 : ∀ w ∈ u_ws RX6 TX6 20, w ∈ wsX3_offer := fun w h => List.mem_cons_of_mem _ (List.mem_append_left _ (List.mem_append_right _ h))
theorem fg_X3_offer_88 : aFl wsX3_offer RX3 88 6 8 := ⟨RX6, TX6, 20, rfl, in_X3_offer_6, by decide, (List.mem_of_getElem? (i := 2) rfl), rfl⟩
theorem fg_X3_offer_19 : aFl wsX3_offer RX3 19 3 3 := ⟨RX3, TX3, 11, rfl, in_X3_offer_3, by decide, (List.mem_of_getElem? (i := 3) rfl), rfl⟩
theorem fg_X3_offer_31 : aFl wsX3_offer RX3 31 3 5 := ⟨RX3, TX3, 11, rfl, in_X3_offer_3, by decide, (List.mem_of_getElem? (i := 4) rfl), rfl⟩
theorem in_X3_offer_10 : ∀ w ∈ u_ws RX10 TX10 3, w ∈ wsX3_offer := fun w h => List.mem_cons_of_mem _ (List.mem_append_right _ h)
theorem fg_X3_offer_71 : aFl wsX3_offer RX3 71 10 0 := ⟨RX10, TX10, 3, rfl, in_X3_offer_10, by decide, (List.mem_of_getElem? (i := 5) rfl), rfl⟩
theorem fg_X3_offer_81 : aFl wsX3_offer RX3 81 10 1 := ⟨RX10, TX10, 3, rfl, in_X3_offer_10, by decide, (List.mem_of_getElem? (i := 7) rfl), rfl⟩
theorem fg_X3_offer_22 : aFl wsX3_offer RX3 22 3 4 := ⟨RX3, TX3, 11, rfl, in_X3_offer_3, by decide, (List.mem_of_getElem? (i := 8) rfl), rfl⟩
set_option maxRecDepth 100000 in
set_option maxHeartbeats 4000000 in
theorem w_X3_offer_39 {x : aC} {r : Int × Hp} {a1 : Int} {a2 : Int} (X : aX x cX3_offer wsX3_offer RX3 4 rm_X3_offer) (E : aE x shC (some .int) 0 r) (σ : Hp) (h : F_Deals_offer_39 a1 a2 σ = some r) : aS x shC 4 39 [] [] σ := by
  unfold F_Deals_offer_39 at h
  refine A_ldc X (v := (-2000000000)) (List.mem_of_getElem? (i := 6) rfl) dX3_offer_39 (z := (-2000000000)) (by decide) ?_
  exact A_ireturn X E h dX3_offer_41
set_option maxRecDepth 100000 in
set_option maxHeartbeats 4000000 in
theorem m_X3_offer {l : Launch} {g : aG} {a1 : Int} {a2 : Int} {σ : Hp} {r : Int × Hp} (h : F_Deals_offer a1 a2 σ = some r) : aMet l g shC yX3_offer wsX3_offer rm_X3_offer [vR 173, vI a1, vI a2] σ 0 r := by
  unfold F_Deals_offer at h
  refine aMet_of (bytes := cX3_offer) (maxL := 4) (ret := (some .int)) (by decide +kernel) rfl (Nat.le_of_ble_eq_true rfl) ⟨rfl, rfl⟩ (fun x e1 e2 X E => ?_)
  subst e1; subst e2
  have X : aX x cX3_offer wsX3_offer RX3 4 rm_X3_offer := X
  show aS x shC 4 0 [(0, vR 173), (1, vI a1), (2, vI a2)] [] σ
  refine A_aload_n X 0 rfl rfl dX3_offer_0 ?_
  refine A_getV X fg_X3_offer_41 shC_173 (k := 6) rfl (by decide) dX3_offer_1 ?_
  obtain ⟨q1, hy⟩ : ∃ y, y = (σ 173 6).toNat := ⟨_, rfl⟩
  replace h := ltD h q1 hy
  rw [← hy]
  clear hy
  obtain ⟨g2, h⟩ := gdD h
  refine A_getR X fg_X3_offer_88 (shNet g2) (k := 8) rfl (by decide) dX3_offer_4 ?_
  refine A_iload_n X 1 rfl rfl dX3_offer_7 ?_
  obtain ⟨g3, h⟩ := gdD h
  refine A_aald X g3 (shNet_roadOf g2) dX3_offer_8 ?_
  refine A_iload_n X 2 rfl rfl dX3_offer_9 ?_
  obtain ⟨g4, h⟩ := gdD h
  refine A_iald X g4 (shNet_roadOf_r g2 g3) dX3_offer_10 ?_
  refine A_istore_nN X (L' := fun y3_5 => [(3, vI y3_5), (0, vR 173), (1, vI a1), (2, vI a2)]) rfl (by decide) (fun _ => rfl) dX3_offer_11 (fun y3_5 hy => ?_)
  replace h := ltD h y3_5 hy
  clear hy
  refine A_iload_n X 0 rfl rfl dX3_offer_12 ?_
  refine A_iconst X dX3_offer_13 (z := (-1)) (by decide) ?_
  refine A_icmp_eq X (tgt := 39) (by decide) dX3_offer_14 (fun c6 => ?_) (fun c6 => ?_)
  · replace h := ifT h c6
    refine A_sub [] rfl (L' := []) rfl ?_
    exact w_X3_offer_39 (a1 := a1) (a2 := a2) X E σ h
  · replace h := ifF h c6
    refine A_iload_n X 0 rfl rfl dX3_offer_17 ?_
    refine A_aload_n X 1 rfl rfl dX3_offer_18 ?_
    refine A_getR X fg_X3_offer_19 shC_173 (k := 3) rfl (by decide) dX3_offer_19 ?_
    refine A_iload_n X 2 rfl rfl dX3_offer_22 ?_
    obtain ⟨g7, h⟩ := gdD h
    refine A_iald X g7 shC_176 dX3_offer_23 ?_
    refine A_icmp_eq X (tgt := 39) (by decide) dX3_offer_24 (fun c8 => ?_) (fun c8 => ?_)
    · replace h := ifT h c8
      refine A_sub [] rfl (L' := []) rfl ?_
      exact w_X3_offer_39 (a1 := a1) (a2 := a2) X E σ h
    · replace h := ifF h c8
      refine A_aload_n X 1 rfl rfl dX3_offer_27 ?_
      refine A_getA X fg_X3_offer_31 shC_173 (k := 5) rfl (by decide) dX3_offer_28 ?_
      refine A_getR X fg_X3_offer_71 shC_88 (k := 0) rfl (by decide) dX3_offer_31 ?_
      refine A_iload_n X 0 rfl rfl dX3_offer_34 ?_
      obtain ⟨g9, h⟩ := gdD h
      refine A_zald X g9 shC_89 dX3_offer_35 ?_
      refine A_if_ne X (tgt := 42) (by decide) dX3_offer_36 (fun c10 => ?_) (fun c10 => ?_)
      · replace h := ifF h c10
        refine A_aload_n X 1 rfl rfl dX3_offer_42 ?_
        refine A_getA X fg_X3_offer_31 shC_173 (k := 5) rfl (by decide) dX3_offer_43 ?_
        refine A_getR X fg_X3_offer_81 shC_88 (k := 1) rfl (by decide) dX3_offer_46 ?_
        refine A_iload_n X 0 rfl rfl dX3_offer_49 ?_
        obtain ⟨g11, h⟩ := gdD h
        refine A_iald X g11 shC_90 dX3_offer_50 ?_
        refine A_aload_n X 1 rfl rfl dX3_offer_51 ?_
        refine A_getR X fg_X3_offer_22 shC_173 (k := 4) rfl (by decide) dX3_offer_52 ?_
        refine A_iload_n X 3 rfl rfl dX3_offer_55 ?_
        obtain ⟨g12, h⟩ := gdD h
        refine A_iald X g12 shC_177 dX3_offer_56 ?_
        refine A_isub X dX3_offer_57 ?_
        exact A_ireturn X E h dX3_offer_58
      · replace h := ifT h c10
        refine A_sub [] rfl (L' := []) rfl ?_
        exact w_X3_offer_39 (a1 := a1) (a2 := a2) X E σ h
abbrev rm_X3_turnsTo : Room := { frames := 1, cells := 0, slots := 0, locals := 23 }
theorem in_X3_turnsTo_3 : ∀ w ∈ u_ws RX3 TX3 11, w ∈ wsX3_turnsTo := fun w h => List.mem_cons_of_mem _ (List.mem_append_left _ (List.mem_append_left _ (List.mem_append_right _ h)))
theorem fg_X3_turnsTo_41 : aFl wsX3_turnsTo RX3 41 3 6 := ⟨RX3, TX3, 11, rfl, in_X3_turnsTo_3, by decide, (List.mem_of_getElem? (i := 1) rfl), rfl⟩
theorem in_X3_turnsTo_6 : ∀ w ∈ u_ws RX6 TX6 20, w ∈ wsX3_turnsTo := fun w h => List.mem_cons_of_mem _ (List.mem_append_left _ (List.mem_append_right _ h))
theorem fg_X3_turnsTo_65 : aFl wsX3_turnsTo RX3 65 6 15 := ⟨RX6, TX6, 20, rfl, in_X3_turnsTo_6, by decide, (List.mem_of_getElem? (i := 3) rfl), rfl⟩
theorem fg_X3_turnsTo_68 : aFl wsX3_turnsTo RX3 68 6 1 := ⟨RX6, TX6, 20, rfl, in_X3_turnsTo_6, by decide, (List.mem_of_getElem? (i := 2) rfl), rfl⟩
set_option maxRecDepth 100000 in
set_option maxHeartbeats 4000000 in
theorem w_X3_turnsTo_48 {x : aC} {r : Int × Hp} {k15 : Int × Int × Int × Hp → Option (Int × Hp)} {a1 : Int} (X : aX x cX3_turnsTo wsX3_turnsTo RX3 6 rm_X3_turnsTo) (E : aE x shC (some .int) 0 r) (hk15 : ∀ (x2 : Int) (x3 : Int) (x4 : Int) (σ : Hp), k15 (x2, x3, x4, σ) = some r → aS x shC 6 15 [(0, vR 173), (1, vI a1), (2, vI x2), (3, vI x3), (4, vI x4)] [] σ) (x2 : Int) (x3 : Int) (x4 : Int) (σ : Hp) (h : F_Deals_turnsTo_48 k15 a1 x2 x3 x4 σ = some r) : aS x shC 6 48 [(0, vR 173), (1, vI a1), (2, vI x2), (3, vI x3), (4, vI x4)] [] σ := by
  unfold F_Deals_turnsTo_48 at h
  refine A_iinc X (L' := fun y4_1 => [(4, vI y4_1), (0, vR 173), (1, vI a1), (2, vI x2), (3, vI x3)]) 4 rfl (by decide) (fun _ => rfl) dX3_turnsTo_48 (by decide) (fun y4_1 hy => ?_)
  replace h := ltD h y4_1 hy
  clear hy
  refine A_goto X (tgt := 15) (by decide) dX3_turnsTo_51 ?_
  refine A_sub [1, 2, 3, 4, 0] rfl (L' := [(0, vR 173), (1, vI a1), (2, vI x2), (3, vI x3), (4, vI y4_1)]) rfl ?_
  exact hk15 x2 x3 y4_1 σ h
set_option maxRecDepth 100000 in
set_option maxHeartbeats 4000000 in
theorem w_X3_turnsTo_15_b {x : aC} {r : Int × Hp} {k15 : Int × Int × Int × Hp → Option (Int × Hp)} {a1 : Int} (X : aX x cX3_turnsTo wsX3_turnsTo RX3 6 rm_X3_turnsTo) (E : aE x shC (some .int) 0 r) (hk15 : ∀ (x2 : Int) (x3 : Int) (x4 : Int) (σ : Hp), k15 (x2, x3, x4, σ) = some r → aS x shC 6 15 [(0, vR 173), (1, vI a1), (2, vI x2), (3, vI x3), (4, vI x4)] [] σ) (x2 : Int) (x3 : Int) (x4 : Int) (σ : Hp) (h : F_Deals_turnsTo_15_b k15 a1 x2 x3 x4 σ = some r) : aS x shC 6 15 [(0, vR 173), (1, vI a1), (2, vI x2), (3, vI x3), (4, vI x4)] [] σ := by
  unfold F_Deals_turnsTo_15_b at h
  refine A_iload X 4 rfl dX3_turnsTo_15 ?_
  refine A_aload_n X 0 rfl rfl dX3_turnsTo_17 ?_
  refine A_getV X fg_X3_turnsTo_41 shC_173 (k := 6) rfl (by decide) dX3_turnsTo_18 ?_
  obtain ⟨q2, hy⟩ : ∃ y, y = (σ 173 6).toNat := ⟨_, rfl⟩
  replace h := ltD h q2 hy
  rw [← hy]
  clear hy
  obtain ⟨g3, h⟩ := gdD h
  refine A_getI X fg_X3_turnsTo_65 (shNet g3) (k := 15) rfl (by decide) dX3_turnsTo_21 ?_
  refine A_icmp_ge X (tgt := 54) (by decide) dX3_turnsTo_24 (fun c4 => ?_) (fun c4 => ?_)
  · replace h := ifT h c4
    refine A_iload_n X 2 rfl rfl dX3_turnsTo_54 ?_
    exact A_ireturn X E h dX3_turnsTo_55
  · replace h := ifF h c4
    refine A_aload_n X 0 rfl rfl dX3_turnsTo_27 ?_
    refine A_iload_n X 1 rfl rfl dX3_turnsTo_28 ?_
    refine A_iload X 4 rfl dX3_turnsTo_29 ?_
    obtain ⟨v5, s6, e7, h⟩ := clD h
    refine A_callV_I (na := 2) X (m_X3_offer e7) gX3_turnsTo_X3_offer rfl ⟨rfl, rfl⟩ (by decide +kernel) rfl ⟨Nat.le_of_ble_eq_true rfl, Nat.le_of_ble_eq_true rfl⟩ shC_173 (by decide) rfl rfl (Nat.le_of_ble_eq_true rfl) dX3_turnsTo_31 ?_
    refine A_istore X (L' := [(5, vI v5), (0, vR 173), (1, vI a1), (2, vI x2), (3, vI x3), (4, vI x4)]) (by decide) rfl dX3_turnsTo_34 ?_
    refine A_iload X 0 rfl dX3_turnsTo_36 ?_
    refine A_iload_n X 4 rfl rfl dX3_turnsTo_38 ?_
    refine A_icmp_le X (tgt := 48) (by decide) dX3_turnsTo_39 (fun c8 => ?_) (fun c8 => ?_)
    · replace h := ifT h c8
      refine A_sub [1, 2, 3, 4, 5] rfl (L' := [(0, vR 173), (1, vI a1), (2, vI x2), (3, vI x3), (4, vI x4)]) rfl ?_
      exact w_X3_turnsTo_48 (a1 := a1) X E hk15 x2 x3 x4 s6 h
    · replace h := ifF h c8
      refine A_iload X 0 rfl dX3_turnsTo_42 ?_
      refine A_istore_n X (L' := [(3, vI v5), (5, vI v5), (0, vR 173), (1, vI a1), (2, vI x2), (4, vI x4)]) rfl (by decide) rfl dX3_turnsTo_44 ?_
      refine A_iload X 5 rfl dX3_turnsTo_45 ?_
      refine A_istore_n X (L' := [(2, vI x4), (3, vI v5), (5, vI v5), (0, vR 173), (1, vI a1), (4, vI x4)]) rfl (by decide) rfl dX3_turnsTo_47 ?_
      refine A_sub [3, 4, 0, 1, 5] rfl (L' := [(0, vR 173), (1, vI a1), (2, vI x4), (3, vI v5), (4, vI x4)]) rfl ?_
      exact w_X3_turnsTo_48 (a1 := a1) X E hk15 x4 v5 x4 s6 h
set_option maxRecDepth 100000 in
set_option maxHeartbeats 4000000 in
theorem w_X3_turnsTo_15 {x : aC} {r : Int × Hp} {a1 : Int} (X : aX x cX3_turnsTo wsX3_turnsTo RX3 6 rm_X3_turnsTo) (E : aE x shC (some .int) 0 r) : ∀ (n : Nat) (x2 : Int) (x3 : Int) (x4 : Int) (σ : Hp) (h : F_Deals_turnsTo_15 a1 n (x2, x3, x4, σ) = some r), aS x shC 6 15 [(0, vR 173), (1, vI a1), (2, vI x2), (3, vI x3), (4, vI x4)] [] σ := by
  intro n
  induction n with
  | zero => intro x2 x3 x4 σ h; cases h
  | succ n ih => intro x2 x3 x4 σ h; exact w_X3_turnsTo_15_b (a1 := a1) (k15 := F_Deals_turnsTo_15 a1 n) X E ih x2 x3 x4 σ h
set_option maxRecDepth 100000 in
set_option maxHeartbeats 4000000 in
theorem m_X3_turnsTo {l : Launch} {g : aG} {a1 : Int} {σ : Hp} {r : Int × Hp} (h : F_Deals_turnsTo a1 σ = some r) : aMet l g shC yX3_turnsTo wsX3_turnsTo rm_X3_turnsTo [vR 173, vI a1] σ 0 r := by
  unfold F_Deals_turnsTo at h
  refine aMet_of (bytes := cX3_turnsTo) (maxL := 6) (ret := (some .int)) (by decide +kernel) rfl (Nat.le_of_ble_eq_true rfl) ⟨rfl, rfl⟩ (fun x e1 e2 X E => ?_)
  subst e1; subst e2
  have X : aX x cX3_turnsTo wsX3_turnsTo RX3 6 rm_X3_turnsTo := X
  show aS x shC 6 0 [(0, vR 173), (1, vI a1)] [] σ
  refine A_iconst X dX3_turnsTo_0 (z := (-1)) (by decide) ?_
  refine A_istore_n X (L' := [(2, vI (-1)), (0, vR 173), (1, vI a1)]) rfl (by decide) rfl dX3_turnsTo_1 ?_
  refine A_aload_n X 1 rfl rfl dX3_turnsTo_2 ?_
  refine A_getV X fg_X3_turnsTo_41 shC_173 (k := 6) rfl (by decide) dX3_turnsTo_3 ?_
  obtain ⟨q9, hy⟩ : ∃ y, y = (σ 173 6).toNat := ⟨_, rfl⟩
  replace h := ltD h q9 hy
  rw [← hy]
  clear hy
  obtain ⟨g10, h⟩ := gdD h
  refine A_getR X fg_X3_turnsTo_68 (shNet g10) (k := 1) rfl (by decide) dX3_turnsTo_6 ?_
  refine A_iload_n X 2 rfl rfl dX3_turnsTo_9 ?_
  obtain ⟨g11, h⟩ := gdD h
  refine A_iald X g11 (shNet_alone g10) dX3_turnsTo_10 ?_
  refine A_istore_nN X (L' := fun y3_12 => [(3, vI y3_12), (2, vI (-1)), (0, vR 173), (1, vI a1)]) rfl (by decide) (fun _ => rfl) dX3_turnsTo_11 (fun y3_12 hy => ?_)
  replace h := ltD h y3_12 hy
  clear hy
  refine A_iconst X dX3_turnsTo_12 (z := 0) (by decide) ?_
  refine A_istore X (L' := [(4, vI 0), (3, vI y3_12), (2, vI (-1)), (0, vR 173), (1, vI a1)]) (by decide) rfl dX3_turnsTo_13 ?_
  refine A_sub [3, 4, 2, 1, 0] rfl (L' := [(0, vR 173), (1, vI a1), (2, vI (-1)), (3, vI y3_12), (4, vI 0)]) rfl ?_
  exact w_X3_turnsTo_15 (a1 := a1) X E FU (-1) y3_12 0 σ h
abbrev rm_X3_chainOf : Room := { frames := 2, cells := 0, slots := 0, locals := 48 }
theorem in_X3_chainOf_3 : ∀ w ∈ u_ws RX3 TX3 11, w ∈ wsX3_chainOf := fun w h => List.mem_cons_of_mem _ (List.mem_append_left _ (List.mem_append_left _ (List.mem_append_right _ h)))
theorem fg_X3_chainOf_41 : aFl wsX3_chainOf RX3 41 3 6 := ⟨RX3, TX3, 11, rfl, in_X3_chainOf_3, by decide, (List.mem_of_getElem? (i := 1) rfl), rfl⟩
theorem in_X3_chainOf_6 : ∀ w ∈ u_ws RX6 TX6 20, w ∈ wsX3_chainOf := fun w h => List.mem_cons_of_mem _ (List.mem_append_left _ (List.mem_append_right _ h))
theorem fg_X3_chainOf_65 : aFl wsX3_chainOf RX3 65 6 15 := ⟨RX6, TX6, 20, rfl, in_X3_chainOf_6, by decide, (List.mem_of_getElem? (i := 2) rfl), rfl⟩
set_option maxRecDepth 100000 in
set_option maxHeartbeats 4000000 in
theorem w_X3_chainOf_51 {x : aC} {r : Int × Hp} {a1 : Int} {a2 : Int} (X : aX x cX3_chainOf wsX3_chainOf RX3 6 rm_X3_chainOf) (E : aE x shC (some .int) 0 r) (σ : Hp) (h : F_Deals_chainOf_51 a1 a2 σ = some r) : aS x shC 6 51 [] [] σ := by
  unfold F_Deals_chainOf_51 at h
  refine A_iconst X dX3_chainOf_51 (z := (-1)) (by decide) ?_
  exact A_ireturn X E h dX3_chainOf_52
set_option maxRecDepth 100000 in
set_option maxHeartbeats 4000000 in
theorem w_X3_chainOf_76 {x : aC} {r : Int × Hp} {a1 : Int} {a2 : Int} (X : aX x cX3_chainOf wsX3_chainOf RX3 6 rm_X3_chainOf) (E : aE x shC (some .int) 0 r) (t1 : Int) (σ : Hp) (h : F_Deals_chainOf_76 a1 a2 t1 σ = some r) : aS x shC 6 76 [] [vI t1] σ := by
  unfold F_Deals_chainOf_76 at h
  exact A_ireturn X E h dX3_chainOf_76
set_option maxRecDepth 100000 in
set_option maxHeartbeats 4000000 in
theorem w_X3_chainOf_59 {x : aC} {r : Int × Hp} {a1 : Int} {a2 : Int} (X : aX x cX3_chainOf wsX3_chainOf RX3 6 rm_X3_chainOf) (E : aE x shC (some .int) 0 r) (x4 : Int) (σ : Hp) (h : F_Deals_chainOf_59 a1 a2 x4 σ = some r) : aS x shC 6 59 [(0, vR 173), (2, vI a2), (4, vI x4)] [] σ := by
  unfold F_Deals_chainOf_59 at h
  refine A_iload_n X 1 rfl rfl dX3_chainOf_59 ?_
  refine A_aload_n X 0 rfl rfl dX3_chainOf_60 ?_
  refine A_getV X fg_X3_chainOf_41 shC_173 (k := 6) rfl (by decide) dX3_chainOf_61 ?_
  obtain ⟨q1, hy⟩ : ∃ y, y = (σ 173 6).toNat := ⟨_, rfl⟩
  replace h := ltD h q1 hy
  rw [← hy]
  clear hy
  obtain ⟨g2, h⟩ := gdD h
  refine A_getI X fg_X3_chainOf_65 (shNet g2) (k := 15) rfl (by decide) dX3_chainOf_64 ?_
  refine A_icmp_ge X (tgt := 75) (by decide) dX3_chainOf_67 (fun c3 => ?_) (fun c3 => ?_)
  · replace h := ifT h c3
    refine A_iconst X dX3_chainOf_75 (z := (-1)) (by decide) ?_
    refine A_sub [] rfl (L' := []) rfl ?_
    exact w_X3_chainOf_76 (a1 := a1) (a2 := a2) X E (-1) σ h
  · replace h := ifF h c3
    refine A_iload X 2 rfl dX3_chainOf_70 ?_
    refine A_goto X (tgt := 76) (by decide) dX3_chainOf_72 ?_
    refine A_sub [] rfl (L' := []) rfl ?_
    exact w_X3_chainOf_76 (a1 := a1) (a2 := a2) X E x4 σ h
set_option maxRecDepth 100000 in
set_option maxHeartbeats 4000000 in
theorem w_X3_chainOf_8_b {x : aC} {r : Int × Hp} {k8 : Int × Int × Int × Hp → Option (Int × Hp)} {a1 : Int} {a2 : Int} (X : aX x cX3_chainOf wsX3_chainOf RX3 6 rm_X3_chainOf) (E : aE x shC (some .int) 0 r) (hk8 : ∀ (x3 : Int) (x4 : Int) (x5 : Int) (σ : Hp), k8 (x3, x4, x5, σ) = some r → aS x shC 6 8 [(0, vR 173), (2, vI a2), (3, vI x3), (4, vI x4), (5, vI x5)] [] σ) (x3 : Int) (x4 : Int) (x5 : Int) (σ : Hp) (h : F_Deals_chainOf_8_b k8 a1 a2 x3 x4 x5 σ = some r) : aS x shC 6 8 [(0, vR 173), (2, vI a2), (3, vI x3), (4, vI x4), (5, vI x5)] [] σ := by
  unfold F_Deals_chainOf_8_b at h
  refine A_iload X 4 rfl dX3_chainOf_8 ?_
  refine A_iload_n X 1 rfl rfl dX3_chainOf_10 ?_
  refine A_icmp_ge X (tgt := 59) (by decide) dX3_chainOf_11 (fun c4 => ?_) (fun c4 => ?_)
  · replace h := ifT h c4
    refine A_sub [0, 1, 3] rfl (L' := [(0, vR 173), (2, vI a2), (4, vI x4)]) rfl ?_
    exact w_X3_chainOf_59 (a1 := a1) (a2 := a2) X E x4 σ h
  · replace h := ifF h c4
    refine A_iload X 4 rfl dX3_chainOf_14 ?_
    refine A_bipush X dX3_chainOf_16 (z := 12) (by decide) ?_
    refine A_icmp_ge X (tgt := 59) (by decide) dX3_chainOf_18 (fun c5 => ?_) (fun c5 => ?_)
    · replace h := ifT h c5
      refine A_sub [0, 1, 3] rfl (L' := [(0, vR 173), (2, vI a2), (4, vI x4)]) rfl ?_
      exact w_X3_chainOf_59 (a1 := a1) (a2 := a2) X E x4 σ h
    · replace h := ifF h c5
      refine A_iload_n X 2 rfl rfl dX3_chainOf_21 ?_
      refine A_iconst X dX3_chainOf_22 (z := 1) (by decide) ?_
      refine A_iload X 3 rfl dX3_chainOf_23 ?_
      refine A_ishl X dX3_chainOf_25 ?_
      refine A_ior X dX3_chainOf_26 ?_
      refine A_istore_nN X (L' := fun y3_6 => [(3, vI y3_6), (0, vR 173), (2, vI a2), (4, vI x4), (5, vI x5)]) rfl (by decide) (fun _ => rfl) dX3_chainOf_27 (fun y3_6 hy => ?_)
      replace h := ltD h y3_6 hy
      clear hy
      refine A_aload_n X 1 rfl rfl dX3_chainOf_28 ?_
      refine A_iload X 3 rfl dX3_chainOf_29 ?_
      obtain ⟨v7, s8, e9, h⟩ := clD h
      refine A_callV_I (na := 1) X (m_X3_turnsTo e9) gX3_chainOf_X3_turnsTo rfl ⟨rfl, rfl⟩ (by decide +kernel) rfl ⟨Nat.le_of_ble_eq_true rfl, Nat.le_of_ble_eq_true rfl⟩ shC_173 (by decide) rfl rfl (Nat.le_of_ble_eq_true rfl) dX3_chainOf_31 ?_
      refine A_istore X (L' := [(4, vI v7), (3, vI y3_6), (0, vR 173), (2, vI a2), (5, vI x5)]) (by decide) rfl dX3_chainOf_34 ?_
      refine A_iload X 0 rfl dX3_chainOf_36 ?_
      refine A_iconst X dX3_chainOf_38 (z := (-1)) (by decide) ?_
      refine A_icmp_eq X (tgt := 51) (by decide) dX3_chainOf_39 (fun c10 => ?_) (fun c10 => ?_)
      · replace h := ifT h c10
        refine A_sub [] rfl (L' := []) rfl ?_
        exact w_X3_chainOf_51 (a1 := a1) (a2 := a2) X E s8 h
      · replace h := ifF h c10
        refine A_iload_n X 1 rfl rfl dX3_chainOf_42 ?_
        refine A_iload X 0 rfl dX3_chainOf_43 ?_
        refine A_ishr X dX3_chainOf_45 ?_
        refine A_iconst X dX3_chainOf_46 (z := 1) (by decide) ?_
        refine A_iand X dX3_chainOf_47 ?_
        refine A_if_eq X (tgt := 53) (by decide) dX3_chainOf_48 (fun c11 => ?_) (fun c11 => ?_)
        · replace h := ifT h c11
          refine A_iinc X (L' := fun y5_12 => [(5, vI y5_12), (4, vI v7), (3, vI y3_6), (0, vR 173), (2, vI a2)]) 4 rfl (by decide) (fun _ => rfl) dX3_chainOf_53 (by decide) (fun y5_12 hy => ?_)
          replace h := ltD h y5_12 hy
          clear hy
          refine A_goto X (tgt := 8) (by decide) dX3_chainOf_56 ?_
          refine A_sub [3, 4, 2, 1, 0] rfl (L' := [(0, vR 173), (2, vI a2), (3, vI y3_6), (4, vI v7), (5, vI y5_12)]) rfl ?_
          exact hk8 y3_6 v7 y5_12 s8 h
        · replace h := ifF h c11
          refine A_sub [] rfl (L' := []) rfl ?_
          exact w_X3_chainOf_51 (a1 := a1) (a2 := a2) X E s8 h
set_option maxRecDepth 100000 in
set_option maxHeartbeats 4000000 in
theorem w_X3_chainOf_8 {x : aC} {r : Int × Hp} {a1 : Int} {a2 : Int} (X : aX x cX3_chainOf wsX3_chainOf RX3 6 rm_X3_chainOf) (E : aE x shC (some .int) 0 r) : ∀ (n : Nat) (x3 : Int) (x4 : Int) (x5 : Int) (σ : Hp) (h : F_Deals_chainOf_8 a1 a2 n (x3, x4, x5, σ) = some r), aS x shC 6 8 [(0, vR 173), (2, vI a2), (3, vI x3), (4, vI x4), (5, vI x5)] [] σ := by
  intro n
  induction n with
  | zero => intro x3 x4 x5 σ h; cases h
  | succ n ih => intro x3 x4 x5 σ h; exact w_X3_chainOf_8_b (a1 := a1) (a2 := a2) (k8 := F_Deals_chainOf_8 a1 a2 n) X E ih x3 x4 x5 σ h
set_option maxRecDepth 100000 in
set_option maxHeartbeats 4000000 in
theorem m_X3_chainOf {l : Launch} {g : aG} {a1 : Int} {a2 : Int} {σ : Hp} {r : Int × Hp} (h : F_Deals_chainOf a1 a2 σ = some r) : aMet l g shC yX3_chainOf wsX3_chainOf rm_X3_chainOf [vR 173, vI a1, vI a2] σ 0 r := by
  unfold F_Deals_chainOf at h
  refine aMet_of (bytes := cX3_chainOf) (maxL := 6) (ret := (some .int)) (by decide +kernel) rfl (Nat.le_of_ble_eq_true rfl) ⟨rfl, rfl⟩ (fun x e1 e2 X E => ?_)
  subst e1; subst e2
  have X : aX x cX3_chainOf wsX3_chainOf RX3 6 rm_X3_chainOf := X
  show aS x shC 6 0 [(0, vR 173), (1, vI a1), (2, vI a2)] [] σ
  refine A_iconst X dX3_chainOf_0 (z := 0) (by decide) ?_
  refine A_istore_n X (L' := [(3, vI 0), (0, vR 173), (1, vI a1), (2, vI a2)]) rfl (by decide) rfl dX3_chainOf_1 ?_
  refine A_iload_n X 2 rfl rfl dX3_chainOf_2 ?_
  refine A_istore X (L' := [(4, vI a1), (3, vI 0), (0, vR 173), (1, vI a1), (2, vI a2)]) (by decide) rfl dX3_chainOf_3 ?_
  refine A_iconst X dX3_chainOf_5 (z := 0) (by decide) ?_
  refine A_istore X (L' := [(5, vI 0), (4, vI a1), (3, vI 0), (0, vR 173), (1, vI a1), (2, vI a2)]) (by decide) rfl dX3_chainOf_6 ?_
  refine A_sub [3, 5, 2, 1, 0] rfl (L' := [(0, vR 173), (2, vI a2), (3, vI 0), (4, vI a1), (5, vI 0)]) rfl ?_
  exact w_X3_chainOf_8 (a1 := a1) (a2 := a2) X E FU 0 a1 0 σ h
abbrev rm_X3_put : Room := { frames := 0, cells := 0, slots := 0, locals := 0 }
theorem in_X3_put_3 : ∀ w ∈ u_ws RX3 TX3 11, w ∈ wsX3_put := fun w h => List.mem_cons_of_mem _ (List.mem_append_right _ h)
theorem fg_X3_put_15 : aFl wsX3_put RX3 15 3 1 := ⟨RX3, TX3, 11, rfl, in_X3_put_3, by decide, (List.mem_of_getElem? (i := 3) rfl), rfl⟩
theorem fg_X3_put_9 : aFl wsX3_put RX3 9 3 0 := ⟨RX3, TX3, 11, rfl, in_X3_put_3, by decide, (List.mem_of_getElem? (i := 1) rfl), rfl⟩
theorem fg_X3_put_42 : aFl wsX3_put RX3 42 3 2 := ⟨RX3, TX3, 11, rfl, in_X3_put_3, by decide, (List.mem_of_getElem? (i := 2) rfl), rfl⟩
theorem fp_X3_put_42 : aFp wsX3_put RX3 42 3 2 .int := ⟨RX3, TX3, 11, tyX3, rfl, in_X3_put_3, by decide, (List.mem_of_getElem? (i := 2) rfl), rfl, tyX3_ok, nmX3, rfl, rfl⟩
set_option maxRecDepth 100000 in
set_option maxHeartbeats 4000000 in
theorem w_X3_put_26 {x : aC} {r : Int × Hp} {a1 : Int} {a2 : Int} (X : aX x cX3_put wsX3_put RX3 3 rm_X3_put) (E : aE x shC none 3 r) (σ : Hp) (h : F_Deals_put_26 a1 a2 σ = some r) : aS x shC 3 26 [(0, vR 173), (1, vI a1), (2, vI a2)] [] σ := by
  unfold F_Deals_put_26 at h
  refine A_aload_n X 0 rfl rfl dX3_put_26 ?_
  refine A_getR X fg_X3_put_15 shC_173 (k := 1) rfl (by decide) dX3_put_27 ?_
  refine A_iload_n X 1 rfl rfl dX3_put_30 ?_
  refine A_iload_n X 2 rfl rfl dX3_put_31 ?_
  obtain ⟨g1, h⟩ := gdD h
  refine A_iast X g1 shC_175 dX3_put_32 (fun s2 hy => ?_)
  replace h := ltD h s2 hy
  clear hy
  exact A_return X E h dX3_put_33
set_option maxRecDepth 100000 in
set_option maxHeartbeats 4000000 in
theorem m_X3_put {l : Launch} {g : aG} {a1 : Int} {a2 : Int} {σ : Hp} {r : Int × Hp} (h : F_Deals_put a1 a2 σ = some r) : aMet l g shC yX3_put wsX3_put rm_X3_put [vR 173, vI a1, vI a2] σ 3 r := by
  unfold F_Deals_put at h
  refine aMet_of (bytes := cX3_put) (maxL := 3) (ret := none) (by decide +kernel) rfl (Nat.le_of_ble_eq_true rfl) ⟨rfl, rfl⟩ (fun x e1 e2 X E => ?_)
  subst e1; subst e2
  have X : aX x cX3_put wsX3_put RX3 3 rm_X3_put := X
  show aS x shC 3 0 [(0, vR 173), (1, vI a1), (2, vI a2)] [] σ
  refine A_aload_n X 0 rfl rfl dX3_put_0 ?_
  refine A_getR X fg_X3_put_9 shC_173 (k := 0) rfl (by decide) dX3_put_1 ?_
  refine A_iload_n X 1 rfl rfl dX3_put_4 ?_
  obtain ⟨g3, h⟩ := gdD h
  refine A_zald X g3 shC_174 dX3_put_5 ?_
  refine A_if_ne X (tgt := 26) (by decide) dX3_put_6 (fun c4 => ?_) (fun c4 => ?_)
  · replace h := ifF h c4
    exact w_X3_put_26 (a1 := a1) (a2 := a2) X E σ h
  · replace h := ifT h c4
    refine A_aload_n X 0 rfl rfl dX3_put_9 ?_
    refine A_getR X fg_X3_put_9 shC_173 (k := 0) rfl (by decide) dX3_put_10 ?_
    refine A_iload_n X 1 rfl rfl dX3_put_13 ?_
    refine A_iconst X dX3_put_14 (z := 1) (by decide) ?_
    obtain ⟨g5, h⟩ := gdD h
    refine A_zast X g5 shC_174 dX3_put_15 (fun s6 hy => ?_)
    replace h := ltD h s6 hy
    clear hy
    refine A_aload_n X 0 rfl rfl dX3_put_16 ?_
    refine A_dup X (by show ¬ (2 : Nat) = 1; decide) dX3_put_17 ?_
    refine A_getI X fg_X3_put_42 shC_173 (k := 2) rfl (by decide) dX3_put_18 ?_
    refine A_iconst X dX3_put_21 (z := 1) (by decide) ?_
    refine A_iadd X dX3_put_22 ?_
    refine A_putI X fp_X3_put_42 shC_173 (k := 2) rfl (by decide) dX3_put_23 (fun s7 hy => ?_)
    replace h := ltD h s7 hy
    clear hy
    exact w_X3_put_26 (a1 := a1) (a2 := a2) X E s7 h
abbrev rm_X3_tell : Room := { frames := 1, cells := 0, slots := 0, locals := 22 }
theorem in_X3_tell_6 : ∀ w ∈ u_ws RX6 TX6 20, w ∈ wsX3_tell := fun w h => List.mem_cons_of_mem _ (List.mem_append_left _ (List.mem_append_right _ h))
theorem fg_X3_tell_53 : aFl wsX3_tell RX3 53 6 16 := ⟨RX6, TX6, 20, rfl, in_X3_tell_6, by decide, (List.mem_of_getElem? (i := 1) rfl), rfl⟩
theorem in_X3_tell_3 : ∀ w ∈ u_ws RX3 TX3 11, w ∈ wsX3_tell := fun w h => List.mem_cons_of_mem _ (List.mem_append_right _ h)
theorem fg_X3_tell_9 : aFl wsX3_tell RX3 9 3 0 := ⟨RX3, TX3, 11, rfl, in_X3_tell_3, by decide, (List.mem_of_getElem? (i := 2) rfl), rfl⟩
set_option maxRecDepth 100000 in
set_option maxHeartbeats 4000000 in
theorem w_X3_tell_42 {x : aC} {r : Int × Hp} {k6 : Int × Int × Hp → Option (Int × Hp)} {a1 : Nat} {a2 : Int} {a3 : Int} (X : aX x cX3_tell wsX3_tell RX3 6 rm_X3_tell) (E : aE x shC (some .boolean) 0 r) (hk6 : ∀ (x4 : Int) (x5 : Int) (σ : Hp), k6 (x4, x5, σ) = some r → aS x shC 6 6 [(0, vR 173), (1, vR a1), (2, vI a2), (3, vI a3), (4, vI x4), (5, vI x5)] [] σ) (ha1 : isNet a1) (x4 : Int) (x5 : Int) (σ : Hp) (h : F_Deals_tell_42 k6 a1 a2 a3 x4 x5 σ = some r) : aS x shC 6 42 [(0, vR 173), (1, vR a1), (2, vI a2), (3, vI a3), (4, vI x4), (5, vI x5)] [] σ := by
  unfold F_Deals_tell_42 at h
  refine A_iinc X (L' := fun y5_1 => [(5, vI y5_1), (0, vR 173), (1, vR a1), (2, vI a2), (3, vI a3), (4, vI x4)]) 5 rfl (by decide) (fun _ => rfl) dX3_tell_42 (by decide) (fun y5_1 hy => ?_)
  replace h := ltD h y5_1 hy
  clear hy
  refine A_goto X (tgt := 6) (by decide) dX3_tell_45 ?_
  refine A_sub [1, 2, 3, 4, 5, 0] rfl (L' := [(0, vR 173), (1, vR a1), (2, vI a2), (3, vI a3), (4, vI x4), (5, vI y5_1)]) rfl ?_
  exact hk6 x4 y5_1 σ h
set_option maxRecDepth 100000 in
set_option maxHeartbeats 4000000 in
theorem w_X3_tell_6_b {x : aC} {r : Int × Hp} {k6 : Int × Int × Hp → Option (Int × Hp)} {a1 : Nat} {a2 : Int} {a3 : Int} (X : aX x cX3_tell wsX3_tell RX3 6 rm_X3_tell) (E : aE x shC (some .boolean) 0 r) (hk6 : ∀ (x4 : Int) (x5 : Int) (σ : Hp), k6 (x4, x5, σ) = some r → aS x shC 6 6 [(0, vR 173), (1, vR a1), (2, vI a2), (3, vI a3), (4, vI x4), (5, vI x5)] [] σ) (ha1 : isNet a1) (x4 : Int) (x5 : Int) (σ : Hp) (h : F_Deals_tell_6_b k6 a1 a2 a3 x4 x5 σ = some r) : aS x shC 6 6 [(0, vR 173), (1, vR a1), (2, vI a2), (3, vI a3), (4, vI x4), (5, vI x5)] [] σ := by
  unfold F_Deals_tell_6_b at h
  refine A_iload X 5 rfl dX3_tell_6 ?_
  refine A_aload_n X 1 rfl rfl dX3_tell_8 ?_
  refine A_getI X fg_X3_tell_53 (shNet ha1) (k := 16) rfl (by decide) dX3_tell_9 ?_
  refine A_icmp_ge X (tgt := 48) (by decide) dX3_tell_12 (fun c2 => ?_) (fun c2 => ?_)
  · replace h := ifT h c2
    refine A_iload X 4 rfl dX3_tell_48 ?_
    refine A_aload_n X 1 rfl rfl dX3_tell_50 ?_
    refine A_iload_n X 2 rfl rfl dX3_tell_51 ?_
    obtain ⟨v3, s4, e5, h⟩ := clD h
    refine A_callV_I (na := 1) X (m_X6_pairOf e5) gX3_tell_X6_pairOf rfl ⟨rfl, rfl⟩ (by decide +kernel) rfl ⟨Nat.le_of_ble_eq_true rfl, Nat.le_of_ble_eq_true rfl⟩ (shNet ha1) (by decide) rfl rfl (Nat.le_of_ble_eq_true rfl) dX3_tell_52 ?_
    refine A_iand X dX3_tell_55 ?_
    refine A_if_eq X (tgt := 61) (by decide) dX3_tell_56 (fun c6 => ?_) (fun c6 => ?_)
    · replace h := ifT h c6
      refine A_aload_n X 0 rfl rfl dX3_tell_61 ?_
      refine A_iload_n X 2 rfl rfl dX3_tell_62 ?_
      refine A_iload_n X 3 rfl rfl dX3_tell_63 ?_
      obtain ⟨v7, s8, e9, h⟩ := clD h
      refine A_callV_V (na := 2) X (m_X3_put e9) gX3_tell_X3_put rfl ⟨rfl, rfl⟩ (by decide +kernel) rfl ⟨Nat.le_of_ble_eq_true rfl, Nat.le_of_ble_eq_true rfl⟩ shC_173 (by decide) rfl rfl (Nat.le_of_ble_eq_true rfl) dX3_tell_64 ?_
      refine A_iconst X dX3_tell_67 (z := 1) (by decide) ?_
      exact A_zreturn X (Or.inr rfl) E h dX3_tell_68
    · replace h := ifF h c6
      refine A_iconst X dX3_tell_59 (z := 0) (by decide) ?_
      exact A_zreturn X (Or.inl rfl) E h dX3_tell_60
  · replace h := ifF h c2
    refine A_aload_n X 0 rfl rfl dX3_tell_15 ?_
    refine A_getR X fg_X3_tell_9 shC_173 (k := 0) rfl (by decide) dX3_tell_16 ?_
    refine A_iload X 5 rfl dX3_tell_19 ?_
    obtain ⟨g10, h⟩ := gdD h
    refine A_zald X g10 shC_174 dX3_tell_21 ?_
    refine A_if_eq X (tgt := 42) (by decide) dX3_tell_22 (fun c11 => ?_) (fun c11 => ?_)
    · replace h := ifT h c11
      exact w_X3_tell_42 (a1 := a1) (a2 := a2) (a3 := a3) X E hk6 ha1 x4 x5 σ h
    · replace h := ifF h c11
      refine A_iload X 5 rfl dX3_tell_25 ?_
      refine A_iload_n X 2 rfl rfl dX3_tell_27 ?_
      refine A_icmp_eq X (tgt := 42) (by decide) dX3_tell_28 (fun c12 => ?_) (fun c12 => ?_)
      · replace h := ifT h c12
        exact w_X3_tell_42 (a1 := a1) (a2 := a2) (a3 := a3) X E hk6 ha1 x4 x5 σ h
      · replace h := ifF h c12
        refine A_iload X 4 rfl dX3_tell_31 ?_
        refine A_aload_n X 1 rfl rfl dX3_tell_33 ?_
        refine A_iload X 5 rfl dX3_tell_34 ?_
        obtain ⟨v13, s14, e15, h⟩ := clD h
        refine A_callV_I (na := 1) X (m_X6_pairOf e15) gX3_tell_X6_pairOf rfl ⟨rfl, rfl⟩ (by decide +kernel) rfl ⟨Nat.le_of_ble_eq_true rfl, Nat.le_of_ble_eq_true rfl⟩ (shNet ha1) (by decide) rfl rfl (Nat.le_of_ble_eq_true rfl) dX3_tell_36 ?_
        refine A_ior X dX3_tell_39 ?_
        refine A_istoreN X (L' := fun y4_16 => [(4, vI y4_16), (0, vR 173), (1, vR a1), (2, vI a2), (3, vI a3), (5, vI x5)]) (by decide) (fun _ => rfl) dX3_tell_40 (fun y4_16 hy => ?_)
        replace h := ltD h y4_16 hy
        clear hy
        refine A_sub [1, 2, 3, 4, 0, 5] rfl (L' := [(0, vR 173), (1, vR a1), (2, vI a2), (3, vI a3), (4, vI y4_16), (5, vI x5)]) rfl ?_
        exact w_X3_tell_42 (a1 := a1) (a2 := a2) (a3 := a3) X E hk6 ha1 y4_16 x5 s14 h
set_option maxRecDepth 100000 in
set_option maxHeartbeats 4000000 in
theorem w_X3_tell_6 {x : aC} {r : Int × Hp} {a1 : Nat} {a2 : Int} {a3 : Int} (X : aX x cX3_tell wsX3_tell RX3 6 rm_X3_tell) (E : aE x shC (some .boolean) 0 r) (ha1 : isNet a1) : ∀ (n : Nat) (x4 : Int) (x5 : Int) (σ : Hp) (h : F_Deals_tell_6 a1 a2 a3 n (x4, x5, σ) = some r), aS x shC 6 6 [(0, vR 173), (1, vR a1), (2, vI a2), (3, vI a3), (4, vI x4), (5, vI x5)] [] σ := by
  intro n
  induction n with
  | zero => intro x4 x5 σ h; cases h
  | succ n ih => intro x4 x5 σ h; exact w_X3_tell_6_b (a1 := a1) (a2 := a2) (a3 := a3) (k6 := F_Deals_tell_6 a1 a2 a3 n) X E ih ha1 x4 x5 σ h
set_option maxRecDepth 100000 in
set_option maxHeartbeats 4000000 in
theorem m_X3_tell {l : Launch} {g : aG} {a1 : Nat} {a2 : Int} {a3 : Int} {σ : Hp} {r : Int × Hp} (h : F_Deals_tell a1 a2 a3 σ = some r) : aMet l g shC yX3_tell wsX3_tell rm_X3_tell [vR 173, vR a1, vI a2, vI a3] σ 0 r := by
  unfold F_Deals_tell at h
  obtain ⟨ha1, h⟩ := gdD h
  refine aMet_of (bytes := cX3_tell) (maxL := 6) (ret := (some .boolean)) (by decide +kernel) rfl (Nat.le_of_ble_eq_true rfl) ⟨rfl, rfl⟩ (fun x e1 e2 X E => ?_)
  subst e1; subst e2
  have X : aX x cX3_tell wsX3_tell RX3 6 rm_X3_tell := X
  show aS x shC 6 0 [(0, vR 173), (1, vR a1), (2, vI a2), (3, vI a3)] [] σ
  refine A_iconst X dX3_tell_0 (z := 0) (by decide) ?_
  refine A_istore X (L' := [(4, vI 0), (0, vR 173), (1, vR a1), (2, vI a2), (3, vI a3)]) (by decide) rfl dX3_tell_1 ?_
  refine A_iconst X dX3_tell_3 (z := 0) (by decide) ?_
  refine A_istore X (L' := [(5, vI 0), (4, vI 0), (0, vR 173), (1, vR a1), (2, vI a2), (3, vI a3)]) (by decide) rfl dX3_tell_4 ?_
  refine A_sub [2, 3, 4, 5, 1, 0] rfl (L' := [(0, vR 173), (1, vR a1), (2, vI a2), (3, vI a3), (4, vI 0), (5, vI 0)]) rfl ?_
  exact w_X3_tell_6 (a1 := a1) (a2 := a2) (a3 := a3) X E ha1 FU 0 0 σ h
abbrev rm_X3_clear : Room := { frames := 0, cells := 0, slots := 0, locals := 0 }
theorem in_X3_clear_3 : ∀ w ∈ u_ws RX3 TX3 11, w ∈ wsX3_clear := fun w h => List.mem_cons_of_mem _ (List.mem_append_right _ h)
theorem fp_X3_clear_42 : aFp wsX3_clear RX3 42 3 2 .int := ⟨RX3, TX3, 11, tyX3, rfl, in_X3_clear_3, by decide, (List.mem_of_getElem? (i := 2) rfl), rfl, tyX3_ok, nmX3, rfl, rfl⟩
theorem fg_X3_clear_9 : aFl wsX3_clear RX3 9 3 0 := ⟨RX3, TX3, 11, rfl, in_X3_clear_3, by decide, (List.mem_of_getElem? (i := 1) rfl), rfl⟩
set_option maxRecDepth 100000 in
set_option maxHeartbeats 4000000 in
theorem w_X3_clear_2_b {x : aC} {r : Int × Hp} {k2 : Int × Hp → Option (Int × Hp)} (X : aX x cX3_clear wsX3_clear RX3 2 rm_X3_clear) (E : aE x shC none 3 r) (hk2 : ∀ (x1 : Int) (σ : Hp), k2 (x1, σ) = some r → aS x shC 2 2 [(0, vR 173), (1, vI x1)] [] σ) (x1 : Int) (σ : Hp) (h : F_Deals_clear_2_b k2 x1 σ = some r) : aS x shC 2 2 [(0, vR 173), (1, vI x1)] [] σ := by
  unfold F_Deals_clear_2_b at h
  refine A_iload_n X 1 rfl rfl dX3_clear_2 ?_
  refine A_bipush X dX3_clear_3 (z := 30) (by decide) ?_
  refine A_icmp_ge X (tgt := 21) (by decide) dX3_clear_5 (fun c1 => ?_) (fun c1 => ?_)
  · replace h := ifT h c1
    refine A_aload_n X 0 rfl rfl dX3_clear_21 ?_
    refine A_iconst X dX3_clear_22 (z := 0) (by decide) ?_
    refine A_putI X fp_X3_clear_42 shC_173 (k := 2) rfl (by decide) dX3_clear_23 (fun s2 hy => ?_)
    replace h := ltD h s2 hy
    clear hy
    exact A_return X E h dX3_clear_26
  · replace h := ifF h c1
    refine A_aload_n X 0 rfl rfl dX3_clear_8 ?_
    refine A_getR X fg_X3_clear_9 shC_173 (k := 0) rfl (by decide) dX3_clear_9 ?_
    refine A_iload_n X 1 rfl rfl dX3_clear_12 ?_
    refine A_iconst X dX3_clear_13 (z := 0) (by decide) ?_
    obtain ⟨g3, h⟩ := gdD h
    refine A_zast X g3 shC_174 dX3_clear_14 (fun s4 hy => ?_)
    replace h := ltD h s4 hy
    clear hy
    refine A_iinc X (L' := fun y1_5 => [(1, vI y1_5), (0, vR 173)]) 1 rfl (by decide) (fun _ => rfl) dX3_clear_15 (by decide) (fun y1_5 hy => ?_)
    replace h := ltD h y1_5 hy
    clear hy
    refine A_goto X (tgt := 2) (by decide) dX3_clear_18 ?_
    refine A_sub [1, 0] rfl (L' := [(0, vR 173), (1, vI y1_5)]) rfl ?_
    exact hk2 y1_5 s4 h
set_option maxRecDepth 100000 in
set_option maxHeartbeats 4000000 in
theorem w_X3_clear_2 {x : aC} {r : Int × Hp} (X : aX x cX3_clear wsX3_clear RX3 2 rm_X3_clear) (E : aE x shC none 3 r) : ∀ (n : Nat) (x1 : Int) (σ : Hp) (h : F_Deals_clear_2 n (x1, σ) = some r), aS x shC 2 2 [(0, vR 173), (1, vI x1)] [] σ := by
  intro n
  induction n with
  | zero => intro x1 σ h; cases h
  | succ n ih => intro x1 σ h; exact w_X3_clear_2_b (k2 := F_Deals_clear_2 n) X E ih x1 σ h
set_option maxRecDepth 100000 in
set_option maxHeartbeats 4000000 in
theorem m_X3_clear {l : Launch} {g : aG} {σ : Hp} {r : Int × Hp} (h : F_Deals_clear σ = some r) : aMet l g shC yX3_clear wsX3_clear rm_X3_clear [vR 173] σ 3 r := by
  unfold F_Deals_clear at h
  refine aMet_of (bytes := cX3_clear) (maxL := 2) (ret := none) (by decide +kernel) rfl (Nat.le_of_ble_eq_true rfl) ⟨rfl, rfl⟩ (fun x e1 e2 X E => ?_)
  subst e1; subst e2
  have X : aX x cX3_clear wsX3_clear RX3 2 rm_X3_clear := X
  show aS x shC 2 0 [(0, vR 173)] [] σ
  refine A_iconst X dX3_clear_0 (z := 0) (by decide) ?_
  refine A_istore_n X (L' := [(1, vI 0), (0, vR 173)]) rfl (by decide) rfl dX3_clear_1 ?_
  refine A_sub [1, 0] rfl (L' := [(0, vR 173), (1, vI 0)]) rfl ?_
  exact w_X3_clear_2 X E FU 0 σ h
abbrev rm_X7_twiceWithHalves : Room := { frames := 4, cells := 0, slots := 0, locals := 93 }
theorem in_X7_twiceWithHalves_7 : ∀ w ∈ u_ws RX7 TX7 11, w ∈ wsX7_twiceWithHalves := fun w h => List.mem_cons_of_mem _ (List.mem_append_left _ (List.mem_append_left _ (List.mem_append_right _ h)))
theorem fg_X7_twiceWithHalves_132 : aFl wsX7_twiceWithHalves RX7 132 7 8 := ⟨RX7, TX7, 11, rfl, in_X7_twiceWithHalves_7, by decide, (List.mem_of_getElem? (i := 9) rfl), rfl⟩
theorem fg_X7_twiceWithHalves_42 : aFl wsX7_twiceWithHalves RX7 42 7 7 := ⟨RX7, TX7, 11, rfl, in_X7_twiceWithHalves_7, by decide, (List.mem_of_getElem? (i := 3) rfl), rfl⟩
theorem in_X7_twiceWithHalves_6 : ∀ w ∈ u_ws RX6 TX6 20, w ∈ wsX7_twiceWithHalves := fun w h => List.mem_cons_of_mem _ (List.mem_append_left _ (List.mem_append_right _ h))
theorem fg_X7_twiceWithHalves_43 : aFl wsX7_twiceWithHalves RX7 43 6 16 := ⟨RX6, TX6, 20, rfl, in_X7_twiceWithHalves_6, by decide, (List.mem_of_getElem? (i := 5) rfl), rfl⟩
theorem fg_X7_twiceWithHalves_32 : aFl wsX7_twiceWithHalves RX7 32 7 1 := ⟨RX7, TX7, 11, rfl, in_X7_twiceWithHalves_7, by decide, (List.mem_of_getElem? (i := 2) rfl), rfl⟩
theorem fp_X7_twiceWithHalves_132 : aFp wsX7_twiceWithHalves RX7 132 7 8 .int := ⟨RX7, TX7, 11, tyX7, rfl, in_X7_twiceWithHalves_7, by decide, (List.mem_of_getElem? (i := 9) rfl), rfl, tyX7_ok, nmX7, rfl, rfl⟩
theorem fp_X7_twiceWithHalves_76 : aFp wsX7_twiceWithHalves RX7 76 7 9 .boolean := ⟨RX7, TX7, 11, tyX7, rfl, in_X7_twiceWithHalves_7, by decide, (List.mem_of_getElem? (i := 1) rfl), rfl, tyX7_ok, nmX7, rfl, rfl⟩
theorem fg_X7_twiceWithHalves_119 : aFl wsX7_twiceWithHalves RX7 119 6 2 := ⟨RX6, TX6, 20, rfl, in_X7_twiceWithHalves_6, by decide, (List.mem_of_getElem? (i := 6) rfl), rfl⟩
theorem fg_X7_twiceWithHalves_122 : aFl wsX7_twiceWithHalves RX7 122 6 3 := ⟨RX6, TX6, 20, rfl, in_X7_twiceWithHalves_6, by decide, (List.mem_of_getElem? (i := 7) rfl), rfl⟩
theorem fg_X7_twiceWithHalves_22 : aFl wsX7_twiceWithHalves RX7 22 7 4 := ⟨RX7, TX7, 11, rfl, in_X7_twiceWithHalves_7, by decide, (List.mem_of_getElem? (i := 8) rfl), rfl⟩
theorem fg_X7_twiceWithHalves_76 : aFl wsX7_twiceWithHalves RX7 76 7 9 := ⟨RX7, TX7, 11, rfl, in_X7_twiceWithHalves_7, by decide, (List.mem_of_getElem? (i := 1) rfl), rfl⟩
theorem fg_X7_twiceWithHalves_66 : aFl wsX7_twiceWithHalves RX7 66 6 15 := ⟨RX6, TX6, 20, rfl, in_X7_twiceWithHalves_6, by decide, (List.mem_of_getElem? (i := 4) rfl), rfl⟩
set_option maxRecDepth 100000 in
set_option maxHeartbeats 4000000 in
theorem w_X7_twiceWithHalves_87 {x : aC} {r : Int × Hp} {this : Nat} (X : aX x cX7_twiceWithHalves wsX7_twiceWithHalves RX7 2 rm_X7_twiceWithHalves) (E : aE x shC (some .int) 0 r) (ht : isPlan this) (σ : Hp) (h : F_Plan_twiceWithHalves_87 this σ = some r) : aS x shC 2 87 [(0, vR this)] [] σ := by
  unfold F_Plan_twiceWithHalves_87 at h
  refine A_aload_n X 0 rfl rfl dX7_twiceWithHalves_87 ?_
  refine A_getI X fg_X7_twiceWithHalves_132 (shPlan ht) (k := 8) rfl (by decide) dX7_twiceWithHalves_88 ?_
  exact A_ireturn X E h dX7_twiceWithHalves_91
set_option maxRecDepth 100000 in
set_option maxHeartbeats 4000000 in
theorem w_X7_twiceWithHalves_23_b {x : aC} {r : Int × Hp} {k23 : Int × Hp → Option (Int × Hp)} {this : Nat} (X : aX x cX7_twiceWithHalves wsX7_twiceWithHalves RX7 2 rm_X7_twiceWithHalves) (E : aE x shC (some .int) 0 r) (hk23 : ∀ (x1 : Int) (σ : Hp), k23 (x1, σ) = some r → aS x shC 2 23 [(0, vR this), (1, vI x1)] [] σ) (ht : isPlan this) (x1 : Int) (σ : Hp) (h : F_Plan_twiceWithHalves_23_b k23 this x1 σ = some r) : aS x shC 2 23 [(0, vR this), (1, vI x1)] [] σ := by
  unfold F_Plan_twiceWithHalves_23_b at h
  refine A_iload_n X 1 rfl rfl dX7_twiceWithHalves_23 ?_
  refine A_aload_n X 0 rfl rfl dX7_twiceWithHalves_24 ?_
  refine A_getV X fg_X7_twiceWithHalves_42 (shPlan ht) (k := 7) rfl (by decide) dX7_twiceWithHalves_25 ?_
  obtain ⟨q1, hy⟩ : ∃ y, y = (σ this 7).toNat := ⟨_, rfl⟩
  replace h := ltD h q1 hy
  rw [← hy]
  clear hy
  obtain ⟨g2, h⟩ := gdD h
  refine A_getI X fg_X7_twiceWithHalves_43 (shNet g2) (k := 16) rfl (by decide) dX7_twiceWithHalves_28 ?_
  refine A_icmp_ge X (tgt := 71) (by decide) dX7_twiceWithHalves_31 (fun c3 => ?_) (fun c3 => ?_)
  · replace h := ifT h c3
    refine A_aload_n X 0 rfl rfl dX7_twiceWithHalves_71 ?_
    refine A_aload_n X 0 rfl rfl dX7_twiceWithHalves_72 ?_
    refine A_getA X fg_X7_twiceWithHalves_32 (shPlan ht) (k := 1) rfl (by decide) dX7_twiceWithHalves_73 ?_
    obtain ⟨v4, s5, e6, h⟩ := clD h
    refine A_callV_I (na := 0) X (m_X5_greatest e6) gX7_twiceWithHalves_X5_greatest rfl ⟨rfl, rfl⟩ (by decide +kernel) rfl ⟨Nat.le_of_ble_eq_true rfl, Nat.le_of_ble_eq_true rfl⟩ shC_91 (by decide) rfl rfl (Nat.le_of_ble_eq_true rfl) dX7_twiceWithHalves_76 ?_
    refine A_putI X fp_X7_twiceWithHalves_132 (shPlan ht) (k := 8) rfl (by decide) dX7_twiceWithHalves_79 (fun s7 hy => ?_)
    replace h := ltD h s7 hy
    clear hy
    refine A_aload_n X 0 rfl rfl dX7_twiceWithHalves_82 ?_
    refine A_iconst X dX7_twiceWithHalves_83 (z := 0) (by decide) ?_
    refine A_putZ X (Or.inl rfl) fp_X7_twiceWithHalves_76 (shPlan ht) (k := 9) rfl (by decide) dX7_twiceWithHalves_84 (fun s8 hy => ?_)
    replace h := ltD h s8 hy
    clear hy
    refine A_sub [0] rfl (L' := [(0, vR this)]) rfl ?_
    exact w_X7_twiceWithHalves_87 (this := this) X E ht s8 h
  · replace h := ifF h c3
    refine A_aload_n X 0 rfl rfl dX7_twiceWithHalves_34 ?_
    refine A_getA X fg_X7_twiceWithHalves_32 (shPlan ht) (k := 1) rfl (by decide) dX7_twiceWithHalves_35 ?_
    refine A_aload_n X 0 rfl rfl dX7_twiceWithHalves_38 ?_
    refine A_getV X fg_X7_twiceWithHalves_42 (shPlan ht) (k := 7) rfl (by decide) dX7_twiceWithHalves_39 ?_
    obtain ⟨q9, hy⟩ : ∃ y, y = (σ this 7).toNat := ⟨_, rfl⟩
    replace h := ltD h q9 hy
    rw [← hy]
    clear hy
    obtain ⟨g10, h⟩ := gdD h
    refine A_getR X fg_X7_twiceWithHalves_119 (shNet g10) (k := 2) rfl (by decide) dX7_twiceWithHalves_42 ?_
    refine A_iload_n X 1 rfl rfl dX7_twiceWithHalves_45 ?_
    obtain ⟨g11, h⟩ := gdD h
    refine A_iald X g11 (shNet_first g10) dX7_twiceWithHalves_46 ?_
    refine A_aload_n X 0 rfl rfl dX7_twiceWithHalves_47 ?_
    refine A_getV X fg_X7_twiceWithHalves_42 (shPlan ht) (k := 7) rfl (by decide) dX7_twiceWithHalves_48 ?_
    obtain ⟨q12, hy⟩ : ∃ y, y = (σ this 7).toNat := ⟨_, rfl⟩
    replace h := ltD h q12 hy
    rw [← hy]
    clear hy
    obtain ⟨g13, h⟩ := gdD h
    refine A_getR X fg_X7_twiceWithHalves_122 (shNet g13) (k := 3) rfl (by decide) dX7_twiceWithHalves_51 ?_
    refine A_iload_n X 1 rfl rfl dX7_twiceWithHalves_54 ?_
    obtain ⟨g14, h⟩ := gdD h
    refine A_iald X g14 (shNet_second g13) dX7_twiceWithHalves_55 ?_
    refine A_aload_n X 0 rfl rfl dX7_twiceWithHalves_56 ?_
    refine A_getR X fg_X7_twiceWithHalves_22 (shPlan ht) (k := 4) rfl (by decide) dX7_twiceWithHalves_57 ?_
    refine A_iload_n X 1 rfl rfl dX7_twiceWithHalves_60 ?_
    obtain ⟨g15, h⟩ := gdD h
    refine A_iald X g15 (shPlan_gain ht) dX7_twiceWithHalves_61 ?_
    obtain ⟨v16, s17, e18, h⟩ := clD h
    refine A_callV_V (na := 3) X (m_X5_weigh e18) gX7_twiceWithHalves_X5_weigh rfl ⟨rfl, rfl⟩ (by decide +kernel) rfl ⟨Nat.le_of_ble_eq_true rfl, Nat.le_of_ble_eq_true rfl⟩ shC_91 (by decide) rfl rfl (Nat.le_of_ble_eq_true rfl) dX7_twiceWithHalves_62 ?_
    refine A_iinc X (L' := fun y1_19 => [(1, vI y1_19), (0, vR this)]) 1 rfl (by decide) (fun _ => rfl) dX7_twiceWithHalves_65 (by decide) (fun y1_19 hy => ?_)
    replace h := ltD h y1_19 hy
    clear hy
    refine A_goto X (tgt := 23) (by decide) dX7_twiceWithHalves_68 ?_
    refine A_sub [1, 0] rfl (L' := [(0, vR this), (1, vI y1_19)]) rfl ?_
    exact hk23 y1_19 s17 h
set_option maxRecDepth 100000 in
set_option maxHeartbeats 4000000 in
theorem w_X7_twiceWithHalves_23 {x : aC} {r : Int × Hp} {this : Nat} (X : aX x cX7_twiceWithHalves wsX7_twiceWithHalves RX7 2 rm_X7_twiceWithHalves) (E : aE x shC (some .int) 0 r) (ht : isPlan this) : ∀ (n : Nat) (x1 : Int) (σ : Hp) (h : F_Plan_twiceWithHalves_23 this n (x1, σ) = some r), aS x shC 2 23 [(0, vR this), (1, vI x1)] [] σ := by
  intro n
  induction n with
  | zero => intro x1 σ h; cases h
  | succ n ih => intro x1 σ h; exact w_X7_twiceWithHalves_23_b (this := this) (k23 := F_Plan_twiceWithHalves_23 this n) X E ih ht x1 σ h
set_option maxRecDepth 100000 in
set_option maxHeartbeats 4000000 in
theorem m_X7_twiceWithHalves {l : Launch} {g : aG} {this : Nat} {σ : Hp} {r : Int × Hp} (h : F_Plan_twiceWithHalves this σ = some r) : aMet l g shC yX7_twiceWithHalves wsX7_twiceWithHalves rm_X7_twiceWithHalves [vR this] σ 0 r := by
  unfold F_Plan_twiceWithHalves at h
  obtain ⟨ht, h⟩ := gdD h
  refine aMet_of (bytes := cX7_twiceWithHalves) (maxL := 2) (ret := (some .int)) (by decide +kernel) rfl (Nat.le_of_ble_eq_true rfl) ⟨rfl, rfl⟩ (fun x e1 e2 X E => ?_)
  subst e1; subst e2
  have X : aX x cX7_twiceWithHalves wsX7_twiceWithHalves RX7 2 rm_X7_twiceWithHalves := X
  show aS x shC 2 0 [(0, vR this)] [] σ
  refine A_aload_n X 0 rfl rfl dX7_twiceWithHalves_0 ?_
  refine A_getI X fg_X7_twiceWithHalves_76 (shPlan ht) (k := 9) rfl (by decide) dX7_twiceWithHalves_1 ?_
  refine A_if_eq X (tgt := 87) (by decide) dX7_twiceWithHalves_4 (fun c20 => ?_) (fun c20 => ?_)
  · replace h := ifT h c20
    exact w_X7_twiceWithHalves_87 (this := this) X E ht σ h
  · replace h := ifF h c20
    refine A_aload_n X 0 rfl rfl dX7_twiceWithHalves_7 ?_
    refine A_getA X fg_X7_twiceWithHalves_32 (shPlan ht) (k := 1) rfl (by decide) dX7_twiceWithHalves_8 ?_
    refine A_aload_n X 0 rfl rfl dX7_twiceWithHalves_11 ?_
    refine A_getV X fg_X7_twiceWithHalves_42 (shPlan ht) (k := 7) rfl (by decide) dX7_twiceWithHalves_12 ?_
    obtain ⟨q21, hy⟩ : ∃ y, y = (σ this 7).toNat := ⟨_, rfl⟩
    replace h := ltD h q21 hy
    rw [← hy]
    clear hy
    obtain ⟨g22, h⟩ := gdD h
    refine A_getI X fg_X7_twiceWithHalves_66 (shNet g22) (k := 15) rfl (by decide) dX7_twiceWithHalves_15 ?_
    obtain ⟨v23, s24, e25, h⟩ := clD h
    refine A_callV_V (na := 1) X (m_X5_begin e25) gX7_twiceWithHalves_X5_begin rfl ⟨rfl, rfl⟩ (by decide +kernel) rfl ⟨Nat.le_of_ble_eq_true rfl, Nat.le_of_ble_eq_true rfl⟩ shC_91 (by decide) rfl rfl (Nat.le_of_ble_eq_true rfl) dX7_twiceWithHalves_18 ?_
    refine A_iconst X dX7_twiceWithHalves_21 (z := 0) (by decide) ?_
    refine A_istore_n X (L' := [(1, vI 0), (0, vR this)]) rfl (by decide) rfl dX7_twiceWithHalves_22 ?_
    refine A_sub [1, 0] rfl (L' := [(0, vR this), (1, vI 0)]) rfl ?_
    exact w_X7_twiceWithHalves_23 (this := this) X E ht FU 0 s24 h
abbrev rm_X7_hasEnds : Room := { frames := 5, cells := 0, slots := 0, locals := 114 }
theorem in_X7_hasEnds_7 : ∀ w ∈ u_ws RX7 TX7 11, w ∈ wsX7_hasEnds := fun w h => List.mem_cons_of_mem _ (List.mem_append_left _ (List.mem_append_left _ (List.mem_append_right _ h)))
theorem fg_X7_hasEnds_18 : aFl wsX7_hasEnds RX7 18 7 3 := ⟨RX7, TX7, 11, rfl, in_X7_hasEnds_7, by decide, (List.mem_of_getElem? (i := 1) rfl), rfl⟩
theorem fg_X7_hasEnds_42 : aFl wsX7_hasEnds RX7 42 7 7 := ⟨RX7, TX7, 11, rfl, in_X7_hasEnds_7, by decide, (List.mem_of_getElem? (i := 2) rfl), rfl⟩
set_option maxRecDepth 100000 in
set_option maxHeartbeats 4000000 in
theorem w_X7_hasEnds_26 {x : aC} {r : Int × Hp} {this : Nat} (X : aX x cX7_hasEnds wsX7_hasEnds RX7 1 rm_X7_hasEnds) (E : aE x shC (some .boolean) 0 r) (ht : isPlan this) (t1 : Int) (σ : Hp) (h : F_Plan_hasEnds_26 this t1 σ = some r) : aS x shC 1 26 [] [vI t1] σ := by
  unfold F_Plan_hasEnds_26 at h
  obtain ⟨g1, h⟩ := gdD h
  exact A_zreturn X g1 E h dX7_hasEnds_26
set_option maxRecDepth 100000 in
set_option maxHeartbeats 4000000 in
theorem m_X7_hasEnds {l : Launch} {g : aG} {this : Nat} {σ : Hp} {r : Int × Hp} (h : F_Plan_hasEnds this σ = some r) : aMet l g shC yX7_hasEnds wsX7_hasEnds rm_X7_hasEnds [vR this] σ 0 r := by
  unfold F_Plan_hasEnds at h
  obtain ⟨ht, h⟩ := gdD h
  refine aMet_of (bytes := cX7_hasEnds) (maxL := 1) (ret := (some .boolean)) (by decide +kernel) rfl (Nat.le_of_ble_eq_true rfl) ⟨rfl, rfl⟩ (fun x e1 e2 X E => ?_)
  subst e1; subst e2
  have X : aX x cX7_hasEnds wsX7_hasEnds RX7 1 rm_X7_hasEnds := X
  show aS x shC 1 0 [(0, vR this)] [] σ
  refine A_iconst X dX7_hasEnds_0 (z := 2) (by decide) ?_
  refine A_aload_n X 0 rfl rfl dX7_hasEnds_1 ?_
  refine A_getR X fg_X7_hasEnds_18 (shPlan ht) (k := 3) rfl (by decide) dX7_hasEnds_2 ?_
  refine A_aload_n X 0 rfl rfl dX7_hasEnds_5 ?_
  refine A_getV X fg_X7_hasEnds_42 (shPlan ht) (k := 7) rfl (by decide) dX7_hasEnds_6 ?_
  obtain ⟨q2, hy⟩ : ∃ y, y = (σ this 7).toNat := ⟨_, rfl⟩
  replace h := ltD h q2 hy
  rw [← hy]
  clear hy
  obtain ⟨g3, h⟩ := gdD h
  obtain ⟨v4, s5, e6, h⟩ := clD h
  refine A_callV_I (na := 0) X (m_X6_everybody e6) gX7_hasEnds_X6_everybody rfl ⟨rfl, rfl⟩ (by decide +kernel) rfl ⟨Nat.le_of_ble_eq_true rfl, Nat.le_of_ble_eq_true rfl⟩ (shNet g3) (by decide) rfl rfl (Nat.le_of_ble_eq_true rfl) dX7_hasEnds_9 ?_
  obtain ⟨g7, h⟩ := gdD h
  refine A_iald X g7 (shPlan_best ht) dX7_hasEnds_12 ?_
  refine A_imul X dX7_hasEnds_13 ?_
  refine A_aload_n X 0 rfl rfl dX7_hasEnds_14 ?_
  obtain ⟨v8, s9, e10, h⟩ := clD h
  refine A_callV_I (na := 0) X (m_X7_twiceWithHalves e10) gX7_hasEnds_X7_twiceWithHalves rfl ⟨rfl, rfl⟩ (by decide +kernel) rfl ⟨Nat.le_of_ble_eq_true rfl, Nat.le_of_ble_eq_true rfl⟩ (shPlan ht) (by decide) rfl rfl (Nat.le_of_ble_eq_true rfl) dX7_hasEnds_15 ?_
  refine A_icmp_ne X (tgt := 25) (by decide) dX7_hasEnds_18 (fun c11 => ?_) (fun c11 => ?_)
  · replace h := ifF h c11
    refine A_iconst X dX7_hasEnds_25 (z := 0) (by decide) ?_
    refine A_sub [] rfl (L' := []) rfl ?_
    exact w_X7_hasEnds_26 (this := this) X E ht 0 s9 h
  · replace h := ifT h c11
    refine A_iconst X dX7_hasEnds_21 (z := 1) (by decide) ?_
    refine A_goto X (tgt := 26) (by decide) dX7_hasEnds_22 ?_
    refine A_sub [] rfl (L' := []) rfl ?_
    exact w_X7_hasEnds_26 (this := this) X E ht 1 s9 h
abbrev rm_X7_freshBounds : Room := { frames := 2, cells := 0, slots := 0, locals := 45 }
theorem in_X7_freshBounds_7 : ∀ w ∈ u_ws RX7 TX7 11, w ∈ wsX7_freshBounds := fun w h => List.mem_cons_of_mem _ (List.mem_append_left _ (List.mem_append_left _ (List.mem_append_right _ h)))
theorem fg_X7_freshBounds_42 : aFl wsX7_freshBounds RX7 42 7 7 := ⟨RX7, TX7, 11, rfl, in_X7_freshBounds_7, by decide, (List.mem_of_getElem? (i := 3) rfl), rfl⟩
theorem in_X7_freshBounds_6 : ∀ w ∈ u_ws RX6 TX6 20, w ∈ wsX7_freshBounds := fun w h => List.mem_cons_of_mem _ (List.mem_append_left _ (List.mem_append_right _ h))
theorem fg_X7_freshBounds_66 : aFl wsX7_freshBounds RX7 66 6 15 := ⟨RX6, TX6, 20, rfl, in_X7_freshBounds_6, by decide, (List.mem_of_getElem? (i := 4) rfl), rfl⟩
theorem fg_X7_freshBounds_12 : aFl wsX7_freshBounds RX7 12 7 2 := ⟨RX7, TX7, 11, rfl, in_X7_freshBounds_7, by decide, (List.mem_of_getElem? (i := 2) rfl), rfl⟩
theorem fp_X7_freshBounds_80 : aFp wsX7_freshBounds RX7 80 7 10 .boolean := ⟨RX7, TX7, 11, tyX7, rfl, in_X7_freshBounds_7, by decide, (List.mem_of_getElem? (i := 1) rfl), rfl, tyX7_ok, nmX7, rfl, rfl⟩
theorem fg_X7_freshBounds_96 : aFl wsX7_freshBounds RX7 96 7 6 := ⟨RX7, TX7, 11, rfl, in_X7_freshBounds_7, by decide, (List.mem_of_getElem? (i := 9) rfl), rfl⟩
theorem fg_X7_freshBounds_119 : aFl wsX7_freshBounds RX7 119 6 2 := ⟨RX6, TX6, 20, rfl, in_X7_freshBounds_6, by decide, (List.mem_of_getElem? (i := 7) rfl), rfl⟩
theorem fg_X7_freshBounds_25 : aFl wsX7_freshBounds RX7 25 7 5 := ⟨RX7, TX7, 11, rfl, in_X7_freshBounds_7, by decide, (List.mem_of_getElem? (i := 10) rfl), rfl⟩
theorem fg_X7_freshBounds_122 : aFl wsX7_freshBounds RX7 122 6 3 := ⟨RX6, TX6, 20, rfl, in_X7_freshBounds_6, by decide, (List.mem_of_getElem? (i := 8) rfl), rfl⟩
theorem fg_X7_freshBounds_22 : aFl wsX7_freshBounds RX7 22 7 4 := ⟨RX7, TX7, 11, rfl, in_X7_freshBounds_7, by decide, (List.mem_of_getElem? (i := 6) rfl), rfl⟩
theorem fg_X7_freshBounds_43 : aFl wsX7_freshBounds RX7 43 6 16 := ⟨RX6, TX6, 20, rfl, in_X7_freshBounds_6, by decide, (List.mem_of_getElem? (i := 5) rfl), rfl⟩
theorem fg_X7_freshBounds_80 : aFl wsX7_freshBounds RX7 80 7 10 := ⟨RX7, TX7, 11, rfl, in_X7_freshBounds_7, by decide, (List.mem_of_getElem? (i := 1) rfl), rfl⟩
set_option maxRecDepth 100000 in
set_option maxHeartbeats 4000000 in
theorem w_X7_freshBounds_83 {x : aC} {r : Int × Hp} {k32 : Int × Int × Hp → Option (Int × Hp)} {this : Nat} (X : aX x cX7_freshBounds wsX7_freshBounds RX7 3 rm_X7_freshBounds) (E : aE x shC none 3 r) (hk32 : ∀ (x1 : Int) (x2 : Int) (σ : Hp), k32 (x1, x2, σ) = some r → aS x shC 3 32 [(0, vR this), (1, vI x1), (2, vI x2)] [] σ) (ht : isPlan this) (x1 : Int) (x2 : Int) (σ : Hp) (h : F_Plan_freshBounds_83 k32 this x1 x2 σ = some r) : aS x shC 3 83 [(0, vR this), (1, vI x1), (2, vI x2)] [] σ := by
  unfold F_Plan_freshBounds_83 at h
  refine A_iinc X (L' := fun y2_1 => [(2, vI y2_1), (0, vR this), (1, vI x1)]) 2 rfl (by decide) (fun _ => rfl) dX7_freshBounds_83 (by decide) (fun y2_1 hy => ?_)
  replace h := ltD h y2_1 hy
  clear hy
  refine A_goto X (tgt := 32) (by decide) dX7_freshBounds_86 ?_
  refine A_sub [1, 2, 0] rfl (L' := [(0, vR this), (1, vI x1), (2, vI y2_1)]) rfl ?_
  exact hk32 x1 y2_1 σ h
set_option maxRecDepth 100000 in
set_option maxHeartbeats 4000000 in
theorem w_X7_freshBounds_196 {x : aC} {r : Int × Hp} {k169 : Int × Int × Hp → Option (Int × Hp)} {this : Nat} (X : aX x cX7_freshBounds wsX7_freshBounds RX7 3 rm_X7_freshBounds) (E : aE x shC none 3 r) (hk169 : ∀ (x1 : Int) (x2 : Int) (σ : Hp), k169 (x1, x2, σ) = some r → aS x shC 3 169 [(0, vR this), (1, vI x1), (2, vI x2)] [] σ) (ht : isPlan this) (x1 : Int) (x2 : Int) (σ : Hp) (h : F_Plan_freshBounds_196 k169 this x1 x2 σ = some r) : aS x shC 3 196 [(0, vR this), (1, vI x1), (2, vI x2)] [] σ := by
  unfold F_Plan_freshBounds_196 at h
  refine A_iinc X (L' := fun y2_2 => [(2, vI y2_2), (0, vR this), (1, vI x1)]) 2 rfl (by decide) (fun _ => rfl) dX7_freshBounds_196 (by decide) (fun y2_2 hy => ?_)
  replace h := ltD h y2_2 hy
  clear hy
  refine A_goto X (tgt := 169) (by decide) dX7_freshBounds_199 ?_
  refine A_sub [1, 2, 0] rfl (L' := [(0, vR this), (1, vI x1), (2, vI y2_2)]) rfl ?_
  exact hk169 x1 y2_2 σ h
set_option maxRecDepth 100000 in
set_option maxHeartbeats 4000000 in
theorem w_X7_freshBounds_169_b {x : aC} {r : Int × Hp} {k169 : Int × Int × Hp → Option (Int × Hp)} {this : Nat} (X : aX x cX7_freshBounds wsX7_freshBounds RX7 3 rm_X7_freshBounds) (E : aE x shC none 3 r) (hk169 : ∀ (x1 : Int) (x2 : Int) (σ : Hp), k169 (x1, x2, σ) = some r → aS x shC 3 169 [(0, vR this), (1, vI x1), (2, vI x2)] [] σ) (ht : isPlan this) (x1 : Int) (x2 : Int) (σ : Hp) (h : F_Plan_freshBounds_169_b k169 this x1 x2 σ = some r) : aS x shC 3 169 [(0, vR this), (1, vI x1), (2, vI x2)] [] σ := by
  unfold F_Plan_freshBounds_169_b at h
  refine A_iload_n X 2 rfl rfl dX7_freshBounds_169 ?_
  refine A_aload_n X 0 rfl rfl dX7_freshBounds_170 ?_
  refine A_getV X fg_X7_freshBounds_42 (shPlan ht) (k := 7) rfl (by decide) dX7_freshBounds_171 ?_
  obtain ⟨q3, hy⟩ : ∃ y, y = (σ this 7).toNat := ⟨_, rfl⟩
  replace h := ltD h q3 hy
  rw [← hy]
  clear hy
  obtain ⟨g4, h⟩ := gdD h
  refine A_getI X fg_X7_freshBounds_66 (shNet g4) (k := 15) rfl (by decide) dX7_freshBounds_174 ?_
  refine A_icmp_ge X (tgt := 202) (by decide) dX7_freshBounds_177 (fun c5 => ?_) (fun c5 => ?_)
  · replace h := ifT h c5
    refine A_aload_n X 0 rfl rfl dX7_freshBounds_202 ?_
    refine A_getR X fg_X7_freshBounds_12 (shPlan ht) (k := 2) rfl (by decide) dX7_freshBounds_203 ?_
    obtain ⟨v6, s7, e8, h⟩ := clD h
    refine A_callV_V (na := 0) X (m_X1_close e8) gX7_freshBounds_X1_close rfl ⟨rfl, rfl⟩ (by decide +kernel) rfl ⟨Nat.le_of_ble_eq_true rfl, Nat.le_of_ble_eq_true rfl⟩ (shBounds (isPlan_bounds ht)) (by decide) rfl rfl (Nat.le_of_ble_eq_true rfl) dX7_freshBounds_206 ?_
    refine A_aload_n X 0 rfl rfl dX7_freshBounds_209 ?_
    refine A_iconst X dX7_freshBounds_210 (z := 0) (by decide) ?_
    refine A_putZ X (Or.inl rfl) fp_X7_freshBounds_80 (shPlan ht) (k := 10) rfl (by decide) dX7_freshBounds_211 (fun s9 hy => ?_)
    replace h := ltD h s9 hy
    clear hy
    exact A_return X E h dX7_freshBounds_214
  · replace h := ifF h c5
    refine A_iload_n X 1 rfl rfl dX7_freshBounds_180 ?_
    refine A_iload_n X 2 rfl rfl dX7_freshBounds_181 ?_
    refine A_ishr X dX7_freshBounds_182 ?_
    refine A_iconst X dX7_freshBounds_183 (z := 1) (by decide) ?_
    refine A_iand X dX7_freshBounds_184 ?_
    refine A_if_eq X (tgt := 196) (by decide) dX7_freshBounds_185 (fun c10 => ?_) (fun c10 => ?_)
    · replace h := ifT h c10
      exact w_X7_freshBounds_196 (this := this) X E hk169 ht x1 x2 σ h
    · replace h := ifF h c10
      refine A_aload_n X 0 rfl rfl dX7_freshBounds_188 ?_
      refine A_getR X fg_X7_freshBounds_12 (shPlan ht) (k := 2) rfl (by decide) dX7_freshBounds_189 ?_
      refine A_iload_n X 2 rfl rfl dX7_freshBounds_192 ?_
      obtain ⟨v11, s12, e13, h⟩ := clD h
      refine A_callV_V (na := 1) X (m_X1_nothingFor e13) gX7_freshBounds_X1_nothingFor rfl ⟨rfl, rfl⟩ (by decide +kernel) rfl ⟨Nat.le_of_ble_eq_true rfl, Nat.le_of_ble_eq_true rfl⟩ (shBounds (isPlan_bounds ht)) (by decide) rfl rfl (Nat.le_of_ble_eq_true rfl) dX7_freshBounds_193 ?_
      exact w_X7_freshBounds_196 (this := this) X E hk169 ht x1 x2 s12 h
set_option maxRecDepth 100000 in
set_option maxHeartbeats 4000000 in
theorem w_X7_freshBounds_169 {x : aC} {r : Int × Hp} {this : Nat} (X : aX x cX7_freshBounds wsX7_freshBounds RX7 3 rm_X7_freshBounds) (E : aE x shC none 3 r) (ht : isPlan this) : ∀ (n : Nat) (x1 : Int) (x2 : Int) (σ : Hp) (h : F_Plan_freshBounds_169 this n (x1, x2, σ) = some r), aS x shC 3 169 [(0, vR this), (1, vI x1), (2, vI x2)] [] σ := by
  intro n
  induction n with
  | zero => intro x1 x2 σ h; cases h
  | succ n ih => intro x1 x2 σ h; exact w_X7_freshBounds_169_b (this := this) (k169 := F_Plan_freshBounds_169 this n) X E ih ht x1 x2 σ h
set_option maxRecDepth 100000 in
set_option maxHeartbeats 4000000 in
theorem w_X7_freshBounds_91_b {x : aC} {r : Int × Hp} {k91 : Int × Int × Hp → Option (Int × Hp)} {this : Nat} (X : aX x cX7_freshBounds wsX7_freshBounds RX7 3 rm_X7_freshBounds) (E : aE x shC none 3 r) (hk91 : ∀ (x1 : Int) (x2 : Int) (σ : Hp), k91 (x1, x2, σ) = some r → aS x shC 3 91 [(0, vR this), (1, vI x1), (2, vI x2)] [] σ) (ht : isPlan this) (x1 : Int) (x2 : Int) (σ : Hp) (h : F_Plan_freshBounds_91_b k91 this x1 x2 σ = some r) : aS x shC 3 91 [(0, vR this), (1, vI x1), (2, vI x2)] [] σ := by
  unfold F_Plan_freshBounds_91_b at h
  refine A_iload_n X 2 rfl rfl dX7_freshBounds_91 ?_
  refine A_aload_n X 0 rfl rfl dX7_freshBounds_92 ?_
  refine A_getI X fg_X7_freshBounds_96 (shPlan ht) (k := 6) rfl (by decide) dX7_freshBounds_93 ?_
  refine A_icmp_ge X (tgt := 167) (by decide) dX7_freshBounds_96 (fun c14 => ?_) (fun c14 => ?_)
  · replace h := ifT h c14
    refine A_iconst X dX7_freshBounds_167 (z := 0) (by decide) ?_
    refine A_istore_n X (L' := [(2, vI 0), (0, vR this), (1, vI x1)]) rfl (by decide) rfl dX7_freshBounds_168 ?_
    refine A_sub [1, 2, 0] rfl (L' := [(0, vR this), (1, vI x1), (2, vI 0)]) rfl ?_
    exact w_X7_freshBounds_169 (this := this) X E ht FU x1 0 σ h
  · replace h := ifF h c14
    refine A_aload_n X 0 rfl rfl dX7_freshBounds_99 ?_
    refine A_getR X fg_X7_freshBounds_12 (shPlan ht) (k := 2) rfl (by decide) dX7_freshBounds_100 ?_
    refine A_aload_n X 0 rfl rfl dX7_freshBounds_103 ?_
    refine A_getV X fg_X7_freshBounds_42 (shPlan ht) (k := 7) rfl (by decide) dX7_freshBounds_104 ?_
    obtain ⟨q15, hy⟩ : ∃ y, y = (σ this 7).toNat := ⟨_, rfl⟩
    replace h := ltD h q15 hy
    rw [← hy]
    clear hy
    obtain ⟨g16, h⟩ := gdD h
    refine A_getR X fg_X7_freshBounds_119 (shNet g16) (k := 2) rfl (by decide) dX7_freshBounds_107 ?_
    refine A_aload_n X 0 rfl rfl dX7_freshBounds_110 ?_
    refine A_getR X fg_X7_freshBounds_25 (shPlan ht) (k := 5) rfl (by decide) dX7_freshBounds_111 ?_
    refine A_iload_n X 2 rfl rfl dX7_freshBounds_114 ?_
    obtain ⟨g17, h⟩ := gdD h
    refine A_iald X g17 (shPlan_row ht) dX7_freshBounds_115 ?_
    obtain ⟨g18, h⟩ := gdD h
    refine A_iald X g18 (shNet_first g16) dX7_freshBounds_116 ?_
    refine A_aload_n X 0 rfl rfl dX7_freshBounds_117 ?_
    refine A_getV X fg_X7_freshBounds_42 (shPlan ht) (k := 7) rfl (by decide) dX7_freshBounds_118 ?_
    obtain ⟨q19, hy⟩ : ∃ y, y = (σ this 7).toNat := ⟨_, rfl⟩
    replace h := ltD h q19 hy
    rw [← hy]
    clear hy
    obtain ⟨g20, h⟩ := gdD h
    refine A_getR X fg_X7_freshBounds_122 (shNet g20) (k := 3) rfl (by decide) dX7_freshBounds_121 ?_
    refine A_aload_n X 0 rfl rfl dX7_freshBounds_124 ?_
    refine A_getR X fg_X7_freshBounds_25 (shPlan ht) (k := 5) rfl (by decide) dX7_freshBounds_125 ?_
    refine A_iload_n X 2 rfl rfl dX7_freshBounds_128 ?_
    obtain ⟨g21, h⟩ := gdD h
    refine A_iald X g21 (shPlan_row ht) dX7_freshBounds_129 ?_
    obtain ⟨g22, h⟩ := gdD h
    refine A_iald X g22 (shNet_second g20) dX7_freshBounds_130 ?_
    refine A_aload_n X 0 rfl rfl dX7_freshBounds_131 ?_
    refine A_getR X fg_X7_freshBounds_22 (shPlan ht) (k := 4) rfl (by decide) dX7_freshBounds_132 ?_
    refine A_aload_n X 0 rfl rfl dX7_freshBounds_135 ?_
    refine A_getR X fg_X7_freshBounds_25 (shPlan ht) (k := 5) rfl (by decide) dX7_freshBounds_136 ?_
    refine A_iload_n X 2 rfl rfl dX7_freshBounds_139 ?_
    obtain ⟨g23, h⟩ := gdD h
    refine A_iald X g23 (shPlan_row ht) dX7_freshBounds_140 ?_
    obtain ⟨g24, h⟩ := gdD h
    refine A_iald X g24 (shPlan_gain ht) dX7_freshBounds_141 ?_
    obtain ⟨v25, s26, e27, h⟩ := clD h
    refine A_callV_V (na := 3) X (m_X1_atMost e27) gX7_freshBounds_X1_atMost rfl ⟨rfl, rfl⟩ (by decide +kernel) rfl ⟨Nat.le_of_ble_eq_true rfl, Nat.le_of_ble_eq_true rfl⟩ (shBounds (isPlan_bounds ht)) (by decide) rfl rfl (Nat.le_of_ble_eq_true rfl) dX7_freshBounds_142 ?_
    refine A_iload_n X 1 rfl rfl dX7_freshBounds_145 ?_
    refine A_aload_n X 0 rfl rfl dX7_freshBounds_146 ?_
    refine A_getV X fg_X7_freshBounds_42 (shPlan ht) (k := 7) rfl (by decide) dX7_freshBounds_147 ?_
    obtain ⟨q28, hy⟩ : ∃ y, y = (s26 this 7).toNat := ⟨_, rfl⟩
    replace h := ltD h q28 hy
    rw [← hy]
    clear hy
    obtain ⟨g29, h⟩ := gdD h
    refine A_aload_n X 0 rfl rfl dX7_freshBounds_150 ?_
    refine A_getR X fg_X7_freshBounds_25 (shPlan ht) (k := 5) rfl (by decide) dX7_freshBounds_151 ?_
    refine A_iload_n X 2 rfl rfl dX7_freshBounds_154 ?_
    obtain ⟨g30, h⟩ := gdD h
    refine A_iald X g30 (shPlan_row ht) dX7_freshBounds_155 ?_
    obtain ⟨v31, s32, e33, h⟩ := clD h
    refine A_callV_I (na := 1) X (m_X6_pairOf e33) gX7_freshBounds_X6_pairOf rfl ⟨rfl, rfl⟩ (by decide +kernel) rfl ⟨Nat.le_of_ble_eq_true rfl, Nat.le_of_ble_eq_true rfl⟩ (shNet g29) (by decide) rfl rfl (Nat.le_of_ble_eq_true rfl) dX7_freshBounds_156 ?_
    refine A_isub X dX7_freshBounds_159 ?_
    refine A_istore_nN X (L' := fun y1_34 => [(1, vI y1_34), (0, vR this), (2, vI x2)]) rfl (by decide) (fun _ => rfl) dX7_freshBounds_160 (fun y1_34 hy => ?_)
    replace h := ltD h y1_34 hy
    clear hy
    refine A_iinc X (L' := fun y2_35 => [(2, vI y2_35), (1, vI y1_34), (0, vR this)]) 2 rfl (by decide) (fun _ => rfl) dX7_freshBounds_161 (by decide) (fun y2_35 hy => ?_)
    replace h := ltD h y2_35 hy
    clear hy
    refine A_goto X (tgt := 91) (by decide) dX7_freshBounds_164 ?_
    refine A_sub [2, 1, 0] rfl (L' := [(0, vR this), (1, vI y1_34), (2, vI y2_35)]) rfl ?_
    exact hk91 y1_34 y2_35 s32 h
set_option maxRecDepth 100000 in
set_option maxHeartbeats 4000000 in
theorem w_X7_freshBounds_91 {x : aC} {r : Int × Hp} {this : Nat} (X : aX x cX7_freshBounds wsX7_freshBounds RX7 3 rm_X7_freshBounds) (E : aE x shC none 3 r) (ht : isPlan this) : ∀ (n : Nat) (x1 : Int) (x2 : Int) (σ : Hp) (h : F_Plan_freshBounds_91 this n (x1, x2, σ) = some r), aS x shC 3 91 [(0, vR this), (1, vI x1), (2, vI x2)] [] σ := by
  intro n
  induction n with
  | zero => intro x1 x2 σ h; cases h
  | succ n ih => intro x1 x2 σ h; exact w_X7_freshBounds_91_b (this := this) (k91 := F_Plan_freshBounds_91 this n) X E ih ht x1 x2 σ h
set_option maxRecDepth 100000 in
set_option maxHeartbeats 4000000 in
theorem w_X7_freshBounds_32_b {x : aC} {r : Int × Hp} {k32 : Int × Int × Hp → Option (Int × Hp)} {this : Nat} (X : aX x cX7_freshBounds wsX7_freshBounds RX7 3 rm_X7_freshBounds) (E : aE x shC none 3 r) (hk32 : ∀ (x1 : Int) (x2 : Int) (σ : Hp), k32 (x1, x2, σ) = some r → aS x shC 3 32 [(0, vR this), (1, vI x1), (2, vI x2)] [] σ) (ht : isPlan this) (x1 : Int) (x2 : Int) (σ : Hp) (h : F_Plan_freshBounds_32_b k32 this x1 x2 σ = some r) : aS x shC 3 32 [(0, vR this), (1, vI x1), (2, vI x2)] [] σ := by
  unfold F_Plan_freshBounds_32_b at h
  refine A_iload_n X 2 rfl rfl dX7_freshBounds_32 ?_
  refine A_aload_n X 0 rfl rfl dX7_freshBounds_33 ?_
  refine A_getV X fg_X7_freshBounds_42 (shPlan ht) (k := 7) rfl (by decide) dX7_freshBounds_34 ?_
  obtain ⟨q36, hy⟩ : ∃ y, y = (σ this 7).toNat := ⟨_, rfl⟩
  replace h := ltD h q36 hy
  rw [← hy]
  clear hy
  obtain ⟨g37, h⟩ := gdD h
  refine A_getI X fg_X7_freshBounds_43 (shNet g37) (k := 16) rfl (by decide) dX7_freshBounds_37 ?_
  refine A_icmp_ge X (tgt := 89) (by decide) dX7_freshBounds_40 (fun c38 => ?_) (fun c38 => ?_)
  · replace h := ifT h c38
    refine A_iconst X dX7_freshBounds_89 (z := 0) (by decide) ?_
    refine A_istore_n X (L' := [(2, vI 0), (0, vR this), (1, vI x1)]) rfl (by decide) rfl dX7_freshBounds_90 ?_
    refine A_sub [1, 2, 0] rfl (L' := [(0, vR this), (1, vI x1), (2, vI 0)]) rfl ?_
    exact w_X7_freshBounds_91 (this := this) X E ht FU x1 0 σ h
  · replace h := ifF h c38
    refine A_aload_n X 0 rfl rfl dX7_freshBounds_43 ?_
    refine A_getR X fg_X7_freshBounds_22 (shPlan ht) (k := 4) rfl (by decide) dX7_freshBounds_44 ?_
    refine A_iload_n X 2 rfl rfl dX7_freshBounds_47 ?_
    obtain ⟨g39, h⟩ := gdD h
    refine A_iald X g39 (shPlan_gain ht) dX7_freshBounds_48 ?_
    refine A_if_le X (tgt := 83) (by decide) dX7_freshBounds_49 (fun c40 => ?_) (fun c40 => ?_)
    · replace h := ifT h c40
      exact w_X7_freshBounds_83 (this := this) X E hk32 ht x1 x2 σ h
    · replace h := ifF h c40
      refine A_aload_n X 0 rfl rfl dX7_freshBounds_52 ?_
      refine A_getR X fg_X7_freshBounds_12 (shPlan ht) (k := 2) rfl (by decide) dX7_freshBounds_53 ?_
      refine A_aload_n X 0 rfl rfl dX7_freshBounds_56 ?_
      refine A_getV X fg_X7_freshBounds_42 (shPlan ht) (k := 7) rfl (by decide) dX7_freshBounds_57 ?_
      obtain ⟨q41, hy⟩ : ∃ y, y = (σ this 7).toNat := ⟨_, rfl⟩
      replace h := ltD h q41 hy
      rw [← hy]
      clear hy
      obtain ⟨g42, h⟩ := gdD h
      refine A_getR X fg_X7_freshBounds_119 (shNet g42) (k := 2) rfl (by decide) dX7_freshBounds_60 ?_
      refine A_iload_n X 2 rfl rfl dX7_freshBounds_63 ?_
      obtain ⟨g43, h⟩ := gdD h
      refine A_iald X g43 (shNet_first g42) dX7_freshBounds_64 ?_
      refine A_aload_n X 0 rfl rfl dX7_freshBounds_65 ?_
      refine A_getV X fg_X7_freshBounds_42 (shPlan ht) (k := 7) rfl (by decide) dX7_freshBounds_66 ?_
      obtain ⟨q44, hy⟩ : ∃ y, y = (σ this 7).toNat := ⟨_, rfl⟩
      replace h := ltD h q44 hy
      rw [← hy]
      clear hy
      obtain ⟨g45, h⟩ := gdD h
      refine A_getR X fg_X7_freshBounds_122 (shNet g45) (k := 3) rfl (by decide) dX7_freshBounds_69 ?_
      refine A_iload_n X 2 rfl rfl dX7_freshBounds_72 ?_
      obtain ⟨g46, h⟩ := gdD h
      refine A_iald X g46 (shNet_second g45) dX7_freshBounds_73 ?_
      refine A_aload_n X 0 rfl rfl dX7_freshBounds_74 ?_
      refine A_getR X fg_X7_freshBounds_22 (shPlan ht) (k := 4) rfl (by decide) dX7_freshBounds_75 ?_
      refine A_iload_n X 2 rfl rfl dX7_freshBounds_78 ?_
      obtain ⟨g47, h⟩ := gdD h
      refine A_iald X g47 (shPlan_gain ht) dX7_freshBounds_79 ?_
      obtain ⟨v48, s49, e50, h⟩ := clD h
      refine A_callV_V (na := 3) X (m_X1_atLeast e50) gX7_freshBounds_X1_atLeast rfl ⟨rfl, rfl⟩ (by decide +kernel) rfl ⟨Nat.le_of_ble_eq_true rfl, Nat.le_of_ble_eq_true rfl⟩ (shBounds (isPlan_bounds ht)) (by decide) rfl rfl (Nat.le_of_ble_eq_true rfl) dX7_freshBounds_80 ?_
      exact w_X7_freshBounds_83 (this := this) X E hk32 ht x1 x2 s49 h
set_option maxRecDepth 100000 in
set_option maxHeartbeats 4000000 in
theorem w_X7_freshBounds_32 {x : aC} {r : Int × Hp} {this : Nat} (X : aX x cX7_freshBounds wsX7_freshBounds RX7 3 rm_X7_freshBounds) (E : aE x shC none 3 r) (ht : isPlan this) : ∀ (n : Nat) (x1 : Int) (x2 : Int) (σ : Hp) (h : F_Plan_freshBounds_32 this n (x1, x2, σ) = some r), aS x shC 3 32 [(0, vR this), (1, vI x1), (2, vI x2)] [] σ := by
  intro n
  induction n with
  | zero => intro x1 x2 σ h; cases h
  | succ n ih => intro x1 x2 σ h; exact w_X7_freshBounds_32_b (this := this) (k32 := F_Plan_freshBounds_32 this n) X E ih ht x1 x2 σ h
set_option maxRecDepth 100000 in
set_option maxHeartbeats 4000000 in
theorem m_X7_freshBounds {l : Launch} {g : aG} {this : Nat} {σ : Hp} {r : Int × Hp} (h : F_Plan_freshBounds this σ = some r) : aMet l g shC yX7_freshBounds wsX7_freshBounds rm_X7_freshBounds [vR this] σ 3 r := by
  unfold F_Plan_freshBounds at h
  obtain ⟨ht, h⟩ := gdD h
  refine aMet_of (bytes := cX7_freshBounds) (maxL := 3) (ret := none) (by decide +kernel) rfl (Nat.le_of_ble_eq_true rfl) ⟨rfl, rfl⟩ (fun x e1 e2 X E => ?_)
  subst e1; subst e2
  have X : aX x cX7_freshBounds wsX7_freshBounds RX7 3 rm_X7_freshBounds := X
  show aS x shC 3 0 [(0, vR this)] [] σ
  refine A_aload_n X 0 rfl rfl dX7_freshBounds_0 ?_
  refine A_getI X fg_X7_freshBounds_80 (shPlan ht) (k := 10) rfl (by decide) dX7_freshBounds_1 ?_
  refine A_if_ne X (tgt := 8) (by decide) dX7_freshBounds_4 (fun c51 => ?_) (fun c51 => ?_)
  · replace h := ifF h c51
    refine A_aload_n X 0 rfl rfl dX7_freshBounds_8 ?_
    refine A_getR X fg_X7_freshBounds_12 (shPlan ht) (k := 2) rfl (by decide) dX7_freshBounds_9 ?_
    refine A_aload_n X 0 rfl rfl dX7_freshBounds_12 ?_
    refine A_getV X fg_X7_freshBounds_42 (shPlan ht) (k := 7) rfl (by decide) dX7_freshBounds_13 ?_
    obtain ⟨q52, hy⟩ : ∃ y, y = (σ this 7).toNat := ⟨_, rfl⟩
    replace h := ltD h q52 hy
    rw [← hy]
    clear hy
    obtain ⟨g53, h⟩ := gdD h
    refine A_getI X fg_X7_freshBounds_66 (shNet g53) (k := 15) rfl (by decide) dX7_freshBounds_16 ?_
    obtain ⟨v54, s55, e56, h⟩ := clD h
    refine A_callV_V (na := 1) X (m_X1_begin e56) gX7_freshBounds_X1_begin rfl ⟨rfl, rfl⟩ (by decide +kernel) rfl ⟨Nat.le_of_ble_eq_true rfl, Nat.le_of_ble_eq_true rfl⟩ (shBounds (isPlan_bounds ht)) (by decide) rfl rfl (Nat.le_of_ble_eq_true rfl) dX7_freshBounds_19 ?_
    refine A_aload_n X 0 rfl rfl dX7_freshBounds_22 ?_
    refine A_getV X fg_X7_freshBounds_42 (shPlan ht) (k := 7) rfl (by decide) dX7_freshBounds_23 ?_
    obtain ⟨q57, hy⟩ : ∃ y, y = (s55 this 7).toNat := ⟨_, rfl⟩
    replace h := ltD h q57 hy
    rw [← hy]
    clear hy
    obtain ⟨g58, h⟩ := gdD h
    obtain ⟨v59, s60, e61, h⟩ := clD h
    refine A_callV_I (na := 0) X (m_X6_everybody e61) gX7_freshBounds_X6_everybody rfl ⟨rfl, rfl⟩ (by decide +kernel) rfl ⟨Nat.le_of_ble_eq_true rfl, Nat.le_of_ble_eq_true rfl⟩ (shNet g58) (by decide) rfl rfl (Nat.le_of_ble_eq_true rfl) dX7_freshBounds_26 ?_
    refine A_istore_n X (L' := [(1, vI v59), (0, vR this)]) rfl (by decide) rfl dX7_freshBounds_29 ?_
    refine A_iconst X dX7_freshBounds_30 (z := 0) (by decide) ?_
    refine A_istore_n X (L' := [(2, vI 0), (1, vI v59), (0, vR this)]) rfl (by decide) rfl dX7_freshBounds_31 ?_
    refine A_sub [2, 1, 0] rfl (L' := [(0, vR this), (1, vI v59), (2, vI 0)]) rfl ?_
    exact w_X7_freshBounds_32 (this := this) X E ht FU v59 0 s60 h
  · replace h := ifT h c51
    exact A_return X E h dX7_freshBounds_7
abbrev rm_X7_endOf : Room := { frames := 3, cells := 0, slots := 0, locals := 67 }
theorem in_X7_endOf_7 : ∀ w ∈ u_ws RX7 TX7 11, w ∈ wsX7_endOf := fun w h => List.mem_cons_of_mem _ (List.mem_append_left _ (List.mem_append_left _ (List.mem_append_right _ h)))
theorem fg_X7_endOf_42 : aFl wsX7_endOf RX7 42 7 7 := ⟨RX7, TX7, 11, rfl, in_X7_endOf_7, by decide, (List.mem_of_getElem? (i := 2) rfl), rfl⟩
theorem in_X7_endOf_6 : ∀ w ∈ u_ws RX6 TX6 20, w ∈ wsX7_endOf := fun w h => List.mem_cons_of_mem _ (List.mem_append_left _ (List.mem_append_right _ h))
theorem fg_X7_endOf_147 : aFl wsX7_endOf RX7 147 6 1 := ⟨RX6, TX6, 20, rfl, in_X7_endOf_6, by decide, (List.mem_of_getElem? (i := 3) rfl), rfl⟩
theorem fg_X7_endOf_12 : aFl wsX7_endOf RX7 12 7 2 := ⟨RX7, TX7, 11, rfl, in_X7_endOf_7, by decide, (List.mem_of_getElem? (i := 1) rfl), rfl⟩
set_option maxRecDepth 100000 in
set_option maxHeartbeats 4000000 in
theorem w_X7_endOf_27 {x : aC} {r : Int × Hp} {this : Nat} {a1 : Int} {a2 : Int} (X : aX x cX7_endOf wsX7_endOf RX7 4 rm_X7_endOf) (E : aE x shC (some .int) 0 r) (ht : isPlan this) (t1 : Int) (σ : Hp) (h : F_Plan_endOf_27 this a1 a2 t1 σ = some r) : aS x shC 4 27 [(0, vR this), (1, vI a1)] [vI t1] σ := by
  unfold F_Plan_endOf_27 at h
  refine A_istore_n X (L' := [(3, vI t1), (0, vR this), (1, vI a1)]) rfl (by decide) rfl dX7_endOf_27 ?_
  refine A_iconst X dX7_endOf_28 (z := 2) (by decide) ?_
  refine A_aload_n X 1 rfl rfl dX7_endOf_29 ?_
  refine A_getV X fg_X7_endOf_42 (shPlan ht) (k := 7) rfl (by decide) dX7_endOf_30 ?_
  obtain ⟨q1, hy⟩ : ∃ y, y = (σ this 7).toNat := ⟨_, rfl⟩
  replace h := ltD h q1 hy
  rw [← hy]
  clear hy
  obtain ⟨g2, h⟩ := gdD h
  refine A_getR X fg_X7_endOf_147 (shNet g2) (k := 1) rfl (by decide) dX7_endOf_33 ?_
  refine A_iload_n X 2 rfl rfl dX7_endOf_36 ?_
  obtain ⟨g3, h⟩ := gdD h
  refine A_iald X g3 (shNet_alone g2) dX7_endOf_37 ?_
  refine A_imul X dX7_endOf_38 ?_
  refine A_iload_n X 0 rfl rfl dX7_endOf_39 ?_
  refine A_iadd X dX7_endOf_40 ?_
  exact A_ireturn X E h dX7_endOf_41
set_option maxRecDepth 100000 in
set_option maxHeartbeats 4000000 in
theorem m_X7_endOf {l : Launch} {g : aG} {this : Nat} {a1 : Int} {a2 : Int} {σ : Hp} {r : Int × Hp} (h : F_Plan_endOf this a1 a2 σ = some r) : aMet l g shC yX7_endOf wsX7_endOf rm_X7_endOf [vR this, vI a1, vI a2] σ 0 r := by
  unfold F_Plan_endOf at h
  obtain ⟨ht, h⟩ := gdD h
  refine aMet_of (bytes := cX7_endOf) (maxL := 4) (ret := (some .int)) (by decide +kernel) rfl (Nat.le_of_ble_eq_true rfl) ⟨rfl, rfl⟩ (fun x e1 e2 X E => ?_)
  subst e1; subst e2
  have X : aX x cX7_endOf wsX7_endOf RX7 4 rm_X7_endOf := X
  show aS x shC 4 0 [(0, vR this), (1, vI a1), (2, vI a2)] [] σ
  refine A_aload_n X 0 rfl rfl dX7_endOf_0 ?_
  obtain ⟨v4, s5, e6, h⟩ := clD h
  refine A_callV_V (na := 0) X (m_X7_freshBounds e6) gX7_endOf_X7_freshBounds rfl ⟨rfl, rfl⟩ (by decide +kernel) rfl ⟨Nat.le_of_ble_eq_true rfl, Nat.le_of_ble_eq_true rfl⟩ (shPlan ht) (by decide) rfl rfl (Nat.le_of_ble_eq_true rfl) dX7_endOf_1 ?_
  refine A_iload_n X 2 rfl rfl dX7_endOf_4 ?_
  refine A_if_eq X (tgt := 19) (by decide) dX7_endOf_5 (fun c7 => ?_) (fun c7 => ?_)
  · replace h := ifT h c7
    refine A_aload_n X 0 rfl rfl dX7_endOf_19 ?_
    refine A_getR X fg_X7_endOf_12 (shPlan ht) (k := 2) rfl (by decide) dX7_endOf_20 ?_
    refine A_iload_n X 1 rfl rfl dX7_endOf_23 ?_
    obtain ⟨v8, s9, e10, h⟩ := clD h
    refine A_callV_I (na := 1) X (m_X1_twiceLeast e10) gX7_endOf_X1_twiceLeast rfl ⟨rfl, rfl⟩ (by decide +kernel) rfl ⟨Nat.le_of_ble_eq_true rfl, Nat.le_of_ble_eq_true rfl⟩ (shBounds (isPlan_bounds ht)) (by decide) rfl rfl (Nat.le_of_ble_eq_true rfl) dX7_endOf_24 ?_
    refine A_sub [0, 1] rfl (L' := [(0, vR this), (1, vI a1)]) rfl ?_
    exact w_X7_endOf_27 (this := this) (a1 := a1) (a2 := a2) X E ht v8 s9 h
  · replace h := ifF h c7
    refine A_aload_n X 0 rfl rfl dX7_endOf_8 ?_
    refine A_getR X fg_X7_endOf_12 (shPlan ht) (k := 2) rfl (by decide) dX7_endOf_9 ?_
    refine A_iload_n X 1 rfl rfl dX7_endOf_12 ?_
    obtain ⟨v11, s12, e13, h⟩ := clD h
    refine A_callV_I (na := 1) X (m_X1_twiceMost e13) gX7_endOf_X1_twiceMost rfl ⟨rfl, rfl⟩ (by decide +kernel) rfl ⟨Nat.le_of_ble_eq_true rfl, Nat.le_of_ble_eq_true rfl⟩ (shBounds (isPlan_bounds ht)) (by decide) rfl rfl (Nat.le_of_ble_eq_true rfl) dX7_endOf_13 ?_
    refine A_goto X (tgt := 27) (by decide) dX7_endOf_16 ?_
    refine A_sub [0, 1] rfl (L' := [(0, vR this), (1, vI a1)]) rfl ?_
    exact w_X7_endOf_27 (this := this) (a1 := a1) (a2 := a2) X E ht v11 s12 h
abbrev rm_X3_withAlone : Room := { frames := 1, cells := 0, slots := 0, locals := 23 }
theorem in_X3_withAlone_3 : ∀ w ∈ u_ws RX3 TX3 11, w ∈ wsX3_withAlone := fun w h => List.mem_cons_of_mem _ (List.mem_append_left _ (List.mem_append_right _ h))
theorem fg_X3_withAlone_41 : aFl wsX3_withAlone RX3 41 3 6 := ⟨RX3, TX3, 11, rfl, in_X3_withAlone_3, by decide, (List.mem_of_getElem? (i := 1) rfl), rfl⟩
theorem in_X3_withAlone_6 : ∀ w ∈ u_ws RX6 TX6 20, w ∈ wsX3_withAlone := fun w h => List.mem_cons_of_mem _ (List.mem_append_right _ h)
theorem fg_X3_withAlone_68 : aFl wsX3_withAlone RX3 68 6 1 := ⟨RX6, TX6, 20, rfl, in_X3_withAlone_6, by decide, (List.mem_of_getElem? (i := 2) rfl), rfl⟩
theorem fg_X3_withAlone_22 : aFl wsX3_withAlone RX3 22 3 4 := ⟨RX3, TX3, 11, rfl, in_X3_withAlone_3, by decide, (List.mem_of_getElem? (i := 3) rfl), rfl⟩
set_option maxRecDepth 100000 in
set_option maxHeartbeats 4000000 in
theorem m_X3_withAlone {l : Launch} {g : aG} {a1 : Int} {σ : Hp} {r : Int × Hp} (h : F_Deals_withAlone a1 σ = some r) : aMet l g shC yX3_withAlone wsX3_withAlone rm_X3_withAlone [vR 173, vI a1] σ 0 r := by
  unfold F_Deals_withAlone at h
  refine aMet_of (bytes := cX3_withAlone) (maxL := 2) (ret := (some .int)) (by decide +kernel) rfl (Nat.le_of_ble_eq_true rfl) ⟨rfl, rfl⟩ (fun x e1 e2 X E => ?_)
  subst e1; subst e2
  have X : aX x cX3_withAlone wsX3_withAlone RX3 2 rm_X3_withAlone := X
  show aS x shC 2 0 [(0, vR 173), (1, vI a1)] [] σ
  refine A_aload_n X 0 rfl rfl dX3_withAlone_0 ?_
  refine A_getV X fg_X3_withAlone_41 shC_173 (k := 6) rfl (by decide) dX3_withAlone_1 ?_
  obtain ⟨q1, hy⟩ : ∃ y, y = (σ 173 6).toNat := ⟨_, rfl⟩
  replace h := ltD h q1 hy
  rw [← hy]
  clear hy
  obtain ⟨g2, h⟩ := gdD h
  refine A_getR X fg_X3_withAlone_68 (shNet g2) (k := 1) rfl (by decide) dX3_withAlone_4 ?_
  refine A_iload_n X 1 rfl rfl dX3_withAlone_7 ?_
  obtain ⟨g3, h⟩ := gdD h
  refine A_iald X g3 (shNet_alone g2) dX3_withAlone_8 ?_
  refine A_aload_n X 0 rfl rfl dX3_withAlone_9 ?_
  refine A_getR X fg_X3_withAlone_22 shC_173 (k := 4) rfl (by decide) dX3_withAlone_10 ?_
  refine A_iload_n X 1 rfl rfl dX3_withAlone_13 ?_
  obtain ⟨g4, h⟩ := gdD h
  refine A_iald X g4 shC_177 dX3_withAlone_14 ?_
  refine A_mmax X (List.mem_of_getElem? (i := 4) rfl) (List.mem_of_getElem? (i := 5) rfl) (List.mem_of_getElem? (i := 6) rfl) (List.mem_of_getElem? (i := 7) rfl) (Nat.le_of_ble_eq_true rfl) (Nat.le_of_ble_eq_true rfl) dX3_withAlone_15 ?_
  exact A_ireturn X E h dX3_withAlone_18
abbrev rm_X3_twiceGift : Room := { frames := 4, cells := 0, slots := 0, locals := 93 }
theorem in_X3_twiceGift_3 : ∀ w ∈ u_ws RX3 TX3 11, w ∈ wsX3_twiceGift := fun w h => List.mem_cons_of_mem _ (List.mem_append_left _ (List.mem_append_left _ (List.mem_append_left _ (List.mem_append_right _ h))))
theorem fg_X3_twiceGift_41 : aFl wsX3_twiceGift RX3 41 3 6 := ⟨RX3, TX3, 11, rfl, in_X3_twiceGift_3, by decide, (List.mem_of_getElem? (i := 1) rfl), rfl⟩
theorem in_X3_twiceGift_6 : ∀ w ∈ u_ws RX6 TX6 20, w ∈ wsX3_twiceGift := fun w h => List.mem_cons_of_mem _ (List.mem_append_left _ (List.mem_append_left _ (List.mem_append_right _ h)))
theorem fg_X3_twiceGift_53 : aFl wsX3_twiceGift RX3 53 6 16 := ⟨RX6, TX6, 20, rfl, in_X3_twiceGift_6, by decide, (List.mem_of_getElem? (i := 4) rfl), rfl⟩
theorem fg_X3_twiceGift_74 : aFl wsX3_twiceGift RX3 74 6 2 := ⟨RX6, TX6, 20, rfl, in_X3_twiceGift_6, by decide, (List.mem_of_getElem? (i := 5) rfl), rfl⟩
theorem fg_X3_twiceGift_75 : aFl wsX3_twiceGift RX3 75 6 3 := ⟨RX6, TX6, 20, rfl, in_X3_twiceGift_6, by decide, (List.mem_of_getElem? (i := 6) rfl), rfl⟩
theorem fg_X3_twiceGift_31 : aFl wsX3_twiceGift RX3 31 3 5 := ⟨RX3, TX3, 11, rfl, in_X3_twiceGift_3, by decide, (List.mem_of_getElem? (i := 7) rfl), rfl⟩
theorem in_X3_twiceGift_10 : ∀ w ∈ u_ws RX10 TX10 3, w ∈ wsX3_twiceGift := fun w h => List.mem_cons_of_mem _ (List.mem_append_left _ (List.mem_append_right _ h))
theorem fg_X3_twiceGift_71 : aFl wsX3_twiceGift RX3 71 10 0 := ⟨RX10, TX10, 3, rfl, in_X3_twiceGift_10, by decide, (List.mem_of_getElem? (i := 8) rfl), rfl⟩
theorem fg_X3_twiceGift_81 : aFl wsX3_twiceGift RX3 81 10 1 := ⟨RX10, TX10, 3, rfl, in_X3_twiceGift_10, by decide, (List.mem_of_getElem? (i := 9) rfl), rfl⟩
theorem fg_X3_twiceGift_65 : aFl wsX3_twiceGift RX3 65 6 15 := ⟨RX6, TX6, 20, rfl, in_X3_twiceGift_6, by decide, (List.mem_of_getElem? (i := 2) rfl), rfl⟩
theorem fg_X3_twiceGift_22 : aFl wsX3_twiceGift RX3 22 3 4 := ⟨RX3, TX3, 11, rfl, in_X3_twiceGift_3, by decide, (List.mem_of_getElem? (i := 3) rfl), rfl⟩
set_option maxRecDepth 100000 in
set_option maxHeartbeats 4000000 in
theorem w_X3_twiceGift_121 {x : aC} {r : Int × Hp} {k49 : Int × Int × Hp → Option (Int × Hp)} (X : aX x cX3_twiceGift wsX3_twiceGift RX3 7 rm_X3_twiceGift) (E : aE x shC (some .int) 0 r) (hk49 : ∀ (x2 : Int) (x3 : Int) (σ : Hp), k49 (x2, x3, σ) = some r → aS x shC 7 49 [(0, vR 173), (1, vR 91), (2, vI x2), (3, vI x3)] [] σ) (x2 : Int) (x3 : Int) (x4 : Int) (x5 : Int) (t1 : Int) (σ : Hp) (h : F_Deals_twiceGift_121 k49 x2 x3 x4 x5 t1 σ = some r) : aS x shC 7 121 [(0, vR 173), (1, vR 91), (2, vI x2), (3, vI x3), (4, vI x4), (5, vI x5)] [vI t1] σ := by
  unfold F_Deals_twiceGift_121 at h
  refine A_istore X (L' := [(6, vI t1), (0, vR 173), (1, vR 91), (2, vI x2), (3, vI x3), (4, vI x4), (5, vI x5)]) (by decide) rfl dX3_twiceGift_121 ?_
  refine A_aload_n X 2 rfl rfl dX3_twiceGift_123 ?_
  refine A_iload X 5 rfl dX3_twiceGift_124 ?_
  refine A_iload X 6 rfl dX3_twiceGift_126 ?_
  refine A_iconst X dX3_twiceGift_128 (z := 0) (by decide) ?_
  refine A_iload X 0 rfl dX3_twiceGift_129 ?_
  refine A_mmax X (List.mem_of_getElem? (i := 10) rfl) (List.mem_of_getElem? (i := 11) rfl) (List.mem_of_getElem? (i := 12) rfl) (List.mem_of_getElem? (i := 13) rfl) (Nat.le_of_ble_eq_true rfl) (Nat.le_of_ble_eq_true rfl) dX3_twiceGift_131 ?_
  obtain ⟨v1, s2, e3, h⟩ := clD h
  refine A_callV_V (na := 3) X (m_X5_weigh e3) gX3_twiceGift_X5_weigh rfl ⟨rfl, rfl⟩ (by decide +kernel) rfl ⟨Nat.le_of_ble_eq_true rfl, Nat.le_of_ble_eq_true rfl⟩ shC_91 (by decide) rfl rfl (Nat.le_of_ble_eq_true rfl) dX3_twiceGift_134 ?_
  refine A_iinc X (L' := fun y3_4 => [(3, vI y3_4), (6, vI t1), (0, vR 173), (1, vR 91), (2, vI x2), (4, vI x4), (5, vI x5)]) 4 rfl (by decide) (fun _ => rfl) dX3_twiceGift_137 (by decide) (fun y3_4 hy => ?_)
  replace h := ltD h y3_4 hy
  clear hy
  refine A_goto X (tgt := 49) (by decide) dX3_twiceGift_140 ?_
  refine A_sub [2, 3, 4, 0] rfl (L' := [(0, vR 173), (1, vR 91), (2, vI x2), (3, vI y3_4)]) rfl ?_
  exact hk49 x2 y3_4 s2 h
set_option maxRecDepth 100000 in
set_option maxHeartbeats 4000000 in
theorem w_X3_twiceGift_49_b {x : aC} {r : Int × Hp} {k49 : Int × Int × Hp → Option (Int × Hp)} (X : aX x cX3_twiceGift wsX3_twiceGift RX3 7 rm_X3_twiceGift) (E : aE x shC (some .int) 0 r) (hk49 : ∀ (x2 : Int) (x3 : Int) (σ : Hp), k49 (x2, x3, σ) = some r → aS x shC 7 49 [(0, vR 173), (1, vR 91), (2, vI x2), (3, vI x3)] [] σ) (x2 : Int) (x3 : Int) (σ : Hp) (h : F_Deals_twiceGift_49_b k49 x2 x3 σ = some r) : aS x shC 7 49 [(0, vR 173), (1, vR 91), (2, vI x2), (3, vI x3)] [] σ := by
  unfold F_Deals_twiceGift_49_b at h
  refine A_iload_n X 3 rfl rfl dX3_twiceGift_49 ?_
  refine A_aload_n X 0 rfl rfl dX3_twiceGift_50 ?_
  refine A_getV X fg_X3_twiceGift_41 shC_173 (k := 6) rfl (by decide) dX3_twiceGift_51 ?_
  obtain ⟨q5, hy⟩ : ∃ y, y = (σ 173 6).toNat := ⟨_, rfl⟩
  replace h := ltD h q5 hy
  rw [← hy]
  clear hy
  obtain ⟨g6, h⟩ := gdD h
  refine A_getI X fg_X3_twiceGift_53 (shNet g6) (k := 16) rfl (by decide) dX3_twiceGift_54 ?_
  refine A_icmp_ge X (tgt := 143) (by decide) dX3_twiceGift_57 (fun c7 => ?_) (fun c7 => ?_)
  · replace h := ifT h c7
    refine A_iconst X dX3_twiceGift_143 (z := 2) (by decide) ?_
    refine A_iload_n X 2 rfl rfl dX3_twiceGift_144 ?_
    refine A_imul X dX3_twiceGift_145 ?_
    refine A_aload_n X 1 rfl rfl dX3_twiceGift_146 ?_
    obtain ⟨v8, s9, e10, h⟩ := clD h
    refine A_callV_I (na := 0) X (m_X5_greatest e10) gX3_twiceGift_X5_greatest rfl ⟨rfl, rfl⟩ (by decide +kernel) rfl ⟨Nat.le_of_ble_eq_true rfl, Nat.le_of_ble_eq_true rfl⟩ shC_91 (by decide) rfl rfl (Nat.le_of_ble_eq_true rfl) dX3_twiceGift_147 ?_
    refine A_iadd X dX3_twiceGift_150 ?_
    exact A_ireturn X E h dX3_twiceGift_151
  · replace h := ifF h c7
    refine A_aload_n X 0 rfl rfl dX3_twiceGift_60 ?_
    refine A_getV X fg_X3_twiceGift_41 shC_173 (k := 6) rfl (by decide) dX3_twiceGift_61 ?_
    obtain ⟨q11, hy⟩ : ∃ y, y = (σ 173 6).toNat := ⟨_, rfl⟩
    replace h := ltD h q11 hy
    rw [← hy]
    clear hy
    obtain ⟨g12, h⟩ := gdD h
    refine A_getR X fg_X3_twiceGift_74 (shNet g12) (k := 2) rfl (by decide) dX3_twiceGift_64 ?_
    refine A_iload_n X 3 rfl rfl dX3_twiceGift_67 ?_
    obtain ⟨g13, h⟩ := gdD h
    refine A_iald X g13 (shNet_first g12) dX3_twiceGift_68 ?_
    refine A_istoreN X (L' := fun y4_14 => [(4, vI y4_14), (0, vR 173), (1, vR 91), (2, vI x2), (3, vI x3)]) (by decide) (fun _ => rfl) dX3_twiceGift_69 (fun y4_14 hy => ?_)
    replace h := ltD h y4_14 hy
    clear hy
    refine A_aload_n X 1 rfl rfl dX3_twiceGift_71 ?_
    refine A_getV X fg_X3_twiceGift_41 shC_173 (k := 6) rfl (by decide) dX3_twiceGift_72 ?_
    obtain ⟨q15, hy⟩ : ∃ y, y = (σ 173 6).toNat := ⟨_, rfl⟩
    replace h := ltD h q15 hy
    rw [← hy]
    clear hy
    obtain ⟨g16, h⟩ := gdD h
    refine A_getR X fg_X3_twiceGift_75 (shNet g16) (k := 3) rfl (by decide) dX3_twiceGift_75 ?_
    refine A_iload_n X 4 rfl rfl dX3_twiceGift_78 ?_
    obtain ⟨g17, h⟩ := gdD h
    refine A_iald X g17 (shNet_second g16) dX3_twiceGift_79 ?_
    refine A_istoreN X (L' := fun y5_18 => [(5, vI y5_18), (4, vI y4_14), (0, vR 173), (1, vR 91), (2, vI x2), (3, vI x3)]) (by decide) (fun _ => rfl) dX3_twiceGift_80 (fun y5_18 hy => ?_)
    replace h := ltD h y5_18 hy
    clear hy
    refine A_aload_n X 2 rfl rfl dX3_twiceGift_82 ?_
    refine A_getA X fg_X3_twiceGift_31 shC_173 (k := 5) rfl (by decide) dX3_twiceGift_83 ?_
    refine A_getR X fg_X3_twiceGift_71 shC_88 (k := 0) rfl (by decide) dX3_twiceGift_86 ?_
    refine A_iload_n X 5 rfl rfl dX3_twiceGift_89 ?_
    obtain ⟨g19, h⟩ := gdD h
    refine A_zald X g19 shC_89 dX3_twiceGift_90 ?_
    refine A_if_eq X (tgt := 120) (by decide) dX3_twiceGift_91 (fun c20 => ?_) (fun c20 => ?_)
    · replace h := ifT h c20
      refine A_iconst X dX3_twiceGift_120 (z := 0) (by decide) ?_
      refine A_sub [2, 3, 4, 5, 1, 0] rfl (L' := [(0, vR 173), (1, vR 91), (2, vI x2), (3, vI x3), (4, vI y4_14), (5, vI y5_18)]) rfl ?_
      exact w_X3_twiceGift_121 X E hk49 x2 x3 y4_14 y5_18 0 σ h
    · replace h := ifF h c20
      refine A_aload_n X 2 rfl rfl dX3_twiceGift_94 ?_
      refine A_getA X fg_X3_twiceGift_31 shC_173 (k := 5) rfl (by decide) dX3_twiceGift_95 ?_
      refine A_getR X fg_X3_twiceGift_81 shC_88 (k := 1) rfl (by decide) dX3_twiceGift_98 ?_
      refine A_iload_n X 5 rfl rfl dX3_twiceGift_101 ?_
      obtain ⟨g21, h⟩ := gdD h
      refine A_iald X g21 shC_90 dX3_twiceGift_102 ?_
      refine A_aload_n X 2 rfl rfl dX3_twiceGift_103 ?_
      refine A_iload X 1 rfl dX3_twiceGift_104 ?_
      obtain ⟨v22, s23, e24, h⟩ := clD h
      refine A_callV_I (na := 1) X (m_X3_withAlone e24) gX3_twiceGift_X3_withAlone rfl ⟨rfl, rfl⟩ (by decide +kernel) rfl ⟨Nat.le_of_ble_eq_true rfl, Nat.le_of_ble_eq_true rfl⟩ shC_173 (by decide) rfl rfl (Nat.le_of_ble_eq_true rfl) dX3_twiceGift_106 ?_
      refine A_isub X dX3_twiceGift_109 ?_
      refine A_aload_n X 2 rfl rfl dX3_twiceGift_110 ?_
      refine A_iload X 0 rfl dX3_twiceGift_111 ?_
      obtain ⟨v25, s26, e27, h⟩ := clD h
      refine A_callV_I (na := 1) X (m_X3_withAlone e27) gX3_twiceGift_X3_withAlone rfl ⟨rfl, rfl⟩ (by decide +kernel) rfl ⟨Nat.le_of_ble_eq_true rfl, Nat.le_of_ble_eq_true rfl⟩ shC_173 (by decide) rfl rfl (Nat.le_of_ble_eq_true rfl) dX3_twiceGift_113 ?_
      refine A_isub X dX3_twiceGift_116 ?_
      refine A_goto X (tgt := 121) (by decide) dX3_twiceGift_117 ?_
      refine A_sub [2, 3, 4, 5, 1, 0] rfl (L' := [(0, vR 173), (1, vR 91), (2, vI x2), (3, vI x3), (4, vI y4_14), (5, vI y5_18)]) rfl ?_
      exact w_X3_twiceGift_121 X E hk49 x2 x3 y4_14 y5_18 (isub (isub (σ 90 x3.toNat) v22) v25) s26 h
set_option maxRecDepth 100000 in
set_option maxHeartbeats 4000000 in
theorem w_X3_twiceGift_49 {x : aC} {r : Int × Hp} (X : aX x cX3_twiceGift wsX3_twiceGift RX3 7 rm_X3_twiceGift) (E : aE x shC (some .int) 0 r) : ∀ (n : Nat) (x2 : Int) (x3 : Int) (σ : Hp) (h : F_Deals_twiceGift_49 n (x2, x3, σ) = some r), aS x shC 7 49 [(0, vR 173), (1, vR 91), (2, vI x2), (3, vI x3)] [] σ := by
  intro n
  induction n with
  | zero => intro x2 x3 σ h; cases h
  | succ n ih => intro x2 x3 σ h; exact w_X3_twiceGift_49_b (k49 := F_Deals_twiceGift_49 n) X E ih x2 x3 σ h
set_option maxRecDepth 100000 in
set_option maxHeartbeats 4000000 in
theorem w_X3_twiceGift_15_b {x : aC} {r : Int × Hp} {k15 : Int × Int × Hp → Option (Int × Hp)} (X : aX x cX3_twiceGift wsX3_twiceGift RX3 7 rm_X3_twiceGift) (E : aE x shC (some .int) 0 r) (hk15 : ∀ (x2 : Int) (x3 : Int) (σ : Hp), k15 (x2, x3, σ) = some r → aS x shC 7 15 [(0, vR 173), (1, vR 91), (2, vI x2), (3, vI x3)] [] σ) (x2 : Int) (x3 : Int) (σ : Hp) (h : F_Deals_twiceGift_15_b k15 x2 x3 σ = some r) : aS x shC 7 15 [(0, vR 173), (1, vR 91), (2, vI x2), (3, vI x3)] [] σ := by
  unfold F_Deals_twiceGift_15_b at h
  refine A_iload_n X 3 rfl rfl dX3_twiceGift_15 ?_
  refine A_aload_n X 0 rfl rfl dX3_twiceGift_16 ?_
  refine A_getV X fg_X3_twiceGift_41 shC_173 (k := 6) rfl (by decide) dX3_twiceGift_17 ?_
  obtain ⟨q28, hy⟩ : ∃ y, y = (σ 173 6).toNat := ⟨_, rfl⟩
  replace h := ltD h q28 hy
  rw [← hy]
  clear hy
  obtain ⟨g29, h⟩ := gdD h
  refine A_getI X fg_X3_twiceGift_65 (shNet g29) (k := 15) rfl (by decide) dX3_twiceGift_20 ?_
  refine A_icmp_ge X (tgt := 47) (by decide) dX3_twiceGift_23 (fun c30 => ?_) (fun c30 => ?_)
  · replace h := ifT h c30
    refine A_iconst X dX3_twiceGift_47 (z := 0) (by decide) ?_
    refine A_istore_n X (L' := [(3, vI 0), (0, vR 173), (1, vR 91), (2, vI x2)]) rfl (by decide) rfl dX3_twiceGift_48 ?_
    refine A_sub [1, 2, 3, 0] rfl (L' := [(0, vR 173), (1, vR 91), (2, vI x2), (3, vI 0)]) rfl ?_
    exact w_X3_twiceGift_49 X E FU x2 0 σ h
  · replace h := ifF h c30
    refine A_iload_n X 2 rfl rfl dX3_twiceGift_26 ?_
    refine A_aload_n X 0 rfl rfl dX3_twiceGift_27 ?_
    refine A_iload_n X 3 rfl rfl dX3_twiceGift_28 ?_
    obtain ⟨v31, s32, e33, h⟩ := clD h
    refine A_callV_I (na := 1) X (m_X3_withAlone e33) gX3_twiceGift_X3_withAlone rfl ⟨rfl, rfl⟩ (by decide +kernel) rfl ⟨Nat.le_of_ble_eq_true rfl, Nat.le_of_ble_eq_true rfl⟩ shC_173 (by decide) rfl rfl (Nat.le_of_ble_eq_true rfl) dX3_twiceGift_29 ?_
    refine A_aload_n X 0 rfl rfl dX3_twiceGift_32 ?_
    refine A_getR X fg_X3_twiceGift_22 shC_173 (k := 4) rfl (by decide) dX3_twiceGift_33 ?_
    refine A_iload_n X 3 rfl rfl dX3_twiceGift_36 ?_
    obtain ⟨g34, h⟩ := gdD h
    refine A_iald X g34 shC_177 dX3_twiceGift_37 ?_
    refine A_isub X dX3_twiceGift_38 ?_
    refine A_iadd X dX3_twiceGift_39 ?_
    refine A_istore_nN X (L' := fun y2_35 => [(2, vI y2_35), (0, vR 173), (1, vR 91), (3, vI x3)]) rfl (by decide) (fun _ => rfl) dX3_twiceGift_40 (fun y2_35 hy => ?_)
    replace h := ltD h y2_35 hy
    clear hy
    refine A_iinc X (L' := fun y3_36 => [(3, vI y3_36), (2, vI y2_35), (0, vR 173), (1, vR 91)]) 3 rfl (by decide) (fun _ => rfl) dX3_twiceGift_41 (by decide) (fun y3_36 hy => ?_)
    replace h := ltD h y3_36 hy
    clear hy
    refine A_goto X (tgt := 15) (by decide) dX3_twiceGift_44 ?_
    refine A_sub [2, 3, 1, 0] rfl (L' := [(0, vR 173), (1, vR 91), (2, vI y2_35), (3, vI y3_36)]) rfl ?_
    exact hk15 y2_35 y3_36 s32 h
set_option maxRecDepth 100000 in
set_option maxHeartbeats 4000000 in
theorem w_X3_twiceGift_15 {x : aC} {r : Int × Hp} (X : aX x cX3_twiceGift wsX3_twiceGift RX3 7 rm_X3_twiceGift) (E : aE x shC (some .int) 0 r) : ∀ (n : Nat) (x2 : Int) (x3 : Int) (σ : Hp) (h : F_Deals_twiceGift_15 n (x2, x3, σ) = some r), aS x shC 7 15 [(0, vR 173), (1, vR 91), (2, vI x2), (3, vI x3)] [] σ := by
  intro n
  induction n with
  | zero => intro x2 x3 σ h; cases h
  | succ n ih => intro x2 x3 σ h; exact w_X3_twiceGift_15_b (k15 := F_Deals_twiceGift_15 n) X E ih x2 x3 σ h
set_option maxRecDepth 100000 in
set_option maxHeartbeats 4000000 in
theorem m_X3_twiceGift {l : Launch} {g : aG} {σ : Hp} {r : Int × Hp} (h : F_Deals_twiceGift σ = some r) : aMet l g shC yX3_twiceGift wsX3_twiceGift rm_X3_twiceGift [vR 173, vR 91] σ 0 r := by
  unfold F_Deals_twiceGift at h
  refine aMet_of (bytes := cX3_twiceGift) (maxL := 7) (ret := (some .int)) (by decide +kernel) rfl (Nat.le_of_ble_eq_true rfl) ⟨rfl, rfl⟩ (fun x e1 e2 X E => ?_)
  subst e1; subst e2
  have X : aX x cX3_twiceGift wsX3_twiceGift RX3 7 rm_X3_twiceGift := X
  show aS x shC 7 0 [(0, vR 173), (1, vR 91)] [] σ
  refine A_iconst X dX3_twiceGift_0 (z := 0) (by decide) ?_
  refine A_istore_n X (L' := [(2, vI 0), (0, vR 173), (1, vR 91)]) rfl (by decide) rfl dX3_twiceGift_1 ?_
  refine A_aload_n X 2 rfl rfl dX3_twiceGift_2 ?_
  refine A_aload_n X 1 rfl rfl dX3_twiceGift_3 ?_
  refine A_getV X fg_X3_twiceGift_41 shC_173 (k := 6) rfl (by decide) dX3_twiceGift_4 ?_
  obtain ⟨q37, hy⟩ : ∃ y, y = (σ 173 6).toNat := ⟨_, rfl⟩
  replace h := ltD h q37 hy
  rw [← hy]
  clear hy
  obtain ⟨g38, h⟩ := gdD h
  refine A_getI X fg_X3_twiceGift_65 (shNet g38) (k := 15) rfl (by decide) dX3_twiceGift_7 ?_
  obtain ⟨v39, s40, e41, h⟩ := clD h
  refine A_callV_V (na := 1) X (m_X5_begin e41) gX3_twiceGift_X5_begin rfl ⟨rfl, rfl⟩ (by decide +kernel) rfl ⟨Nat.le_of_ble_eq_true rfl, Nat.le_of_ble_eq_true rfl⟩ shC_91 (by decide) rfl rfl (Nat.le_of_ble_eq_true rfl) dX3_twiceGift_10 ?_
  refine A_iconst X dX3_twiceGift_13 (z := 0) (by decide) ?_
  refine A_istore_n X (L' := [(3, vI 0), (2, vI 0), (0, vR 173), (1, vR 91)]) rfl (by decide) rfl dX3_twiceGift_14 ?_
  refine A_sub [2, 3, 1, 0] rfl (L' := [(0, vR 173), (1, vR 91), (2, vI 0), (3, vI 0)]) rfl ?_
  exact w_X3_twiceGift_15 X E FU 0 0 s40 h
abbrev rm_X3_keep : Room := { frames := 0, cells := 0, slots := 0, locals := 0 }
theorem in_X3_keep_3 : ∀ w ∈ u_ws RX3 TX3 11, w ∈ wsX3_keep := fun w h => List.mem_cons_of_mem _ (List.mem_append_right _ h)
theorem fg_X3_keep_62 : aFl wsX3_keep RX3 62 3 8 := ⟨RX3, TX3, 11, rfl, in_X3_keep_3, by decide, (List.mem_of_getElem? (i := 1) rfl), rfl⟩
theorem fg_X3_keep_28 : aFl wsX3_keep RX3 28 3 9 := ⟨RX3, TX3, 11, rfl, in_X3_keep_3, by decide, (List.mem_of_getElem? (i := 2) rfl), rfl⟩
theorem fg_X3_keep_15 : aFl wsX3_keep RX3 15 3 1 := ⟨RX3, TX3, 11, rfl, in_X3_keep_3, by decide, (List.mem_of_getElem? (i := 3) rfl), rfl⟩
theorem fg_X3_keep_25 : aFl wsX3_keep RX3 25 3 7 := ⟨RX3, TX3, 11, rfl, in_X3_keep_3, by decide, (List.mem_of_getElem? (i := 4) rfl), rfl⟩
set_option maxRecDepth 100000 in
set_option maxHeartbeats 4000000 in
theorem w_X3_keep_2_b {x : aC} {r : Int × Hp} {k2 : Int × Hp → Option (Int × Hp)} {a1 : Int} (X : aX x cX3_keep wsX3_keep RX3 3 rm_X3_keep) (E : aE x shC none 3 r) (hk2 : ∀ (x2 : Int) (σ : Hp), k2 (x2, σ) = some r → aS x shC 3 2 [(0, vR 173), (1, vI a1), (2, vI x2)] [] σ) (x2 : Int) (σ : Hp) (h : F_Deals_keep_2_b k2 a1 x2 σ = some r) : aS x shC 3 2 [(0, vR 173), (1, vI a1), (2, vI x2)] [] σ := by
  unfold F_Deals_keep_2_b at h
  refine A_iload_n X 2 rfl rfl dX3_keep_2 ?_
  refine A_aload_n X 0 rfl rfl dX3_keep_3 ?_
  refine A_getI X fg_X3_keep_62 shC_173 (k := 8) rfl (by decide) dX3_keep_4 ?_
  refine A_icmp_ge X (tgt := 38) (by decide) dX3_keep_7 (fun c1 => ?_) (fun c1 => ?_)
  · replace h := ifT h c1
    exact A_return X E h dX3_keep_38
  · replace h := ifF h c1
    refine A_aload_n X 0 rfl rfl dX3_keep_10 ?_
    refine A_getR X fg_X3_keep_28 shC_173 (k := 9) rfl (by decide) dX3_keep_11 ?_
    refine A_iload_n X 1 rfl rfl dX3_keep_14 ?_
    refine A_bipush X dX3_keep_15 (z := 6) (by decide) ?_
    refine A_imul X dX3_keep_17 ?_
    refine A_iload_n X 2 rfl rfl dX3_keep_18 ?_
    refine A_iadd X dX3_keep_19 ?_
    refine A_aload_n X 0 rfl rfl dX3_keep_20 ?_
    refine A_getR X fg_X3_keep_15 shC_173 (k := 1) rfl (by decide) dX3_keep_21 ?_
    refine A_aload_n X 0 rfl rfl dX3_keep_24 ?_
    refine A_getR X fg_X3_keep_25 shC_173 (k := 7) rfl (by decide) dX3_keep_25 ?_
    refine A_iload_n X 2 rfl rfl dX3_keep_28 ?_
    obtain ⟨g2, h⟩ := gdD h
    refine A_iald X g2 shC_178 dX3_keep_29 ?_
    obtain ⟨g3, h⟩ := gdD h
    refine A_iald X g3 shC_175 dX3_keep_30 ?_
    obtain ⟨g4, h⟩ := gdD h
    refine A_iast X g4 shC_179 dX3_keep_31 (fun s5 hy => ?_)
    replace h := ltD h s5 hy
    clear hy
    refine A_iinc X (L' := fun y2_6 => [(2, vI y2_6), (0, vR 173), (1, vI a1)]) 2 rfl (by decide) (fun _ => rfl) dX3_keep_32 (by decide) (fun y2_6 hy => ?_)
    replace h := ltD h y2_6 hy
    clear hy
    refine A_goto X (tgt := 2) (by decide) dX3_keep_35 ?_
    refine A_sub [1, 2, 0] rfl (L' := [(0, vR 173), (1, vI a1), (2, vI y2_6)]) rfl ?_
    exact hk2 y2_6 s5 h
set_option maxRecDepth 100000 in
set_option maxHeartbeats 4000000 in
theorem w_X3_keep_2 {x : aC} {r : Int × Hp} {a1 : Int} (X : aX x cX3_keep wsX3_keep RX3 3 rm_X3_keep) (E : aE x shC none 3 r) : ∀ (n : Nat) (x2 : Int) (σ : Hp) (h : F_Deals_keep_2 a1 n (x2, σ) = some r), aS x shC 3 2 [(0, vR 173), (1, vI a1), (2, vI x2)] [] σ := by
  intro n
  induction n with
  | zero => intro x2 σ h; cases h
  | succ n ih => intro x2 σ h; exact w_X3_keep_2_b (a1 := a1) (k2 := F_Deals_keep_2 a1 n) X E ih x2 σ h
set_option maxRecDepth 100000 in
set_option maxHeartbeats 4000000 in
theorem m_X3_keep {l : Launch} {g : aG} {a1 : Int} {σ : Hp} {r : Int × Hp} (h : F_Deals_keep a1 σ = some r) : aMet l g shC yX3_keep wsX3_keep rm_X3_keep [vR 173, vI a1] σ 3 r := by
  unfold F_Deals_keep at h
  refine aMet_of (bytes := cX3_keep) (maxL := 3) (ret := none) (by decide +kernel) rfl (Nat.le_of_ble_eq_true rfl) ⟨rfl, rfl⟩ (fun x e1 e2 X E => ?_)
  subst e1; subst e2
  have X : aX x cX3_keep wsX3_keep RX3 3 rm_X3_keep := X
  show aS x shC 3 0 [(0, vR 173), (1, vI a1)] [] σ
  refine A_iconst X dX3_keep_0 (z := 0) (by decide) ?_
  refine A_istore_n X (L' := [(2, vI 0), (0, vR 173), (1, vI a1)]) rfl (by decide) rfl dX3_keep_1 ?_
  refine A_sub [1, 2, 0] rfl (L' := [(0, vR 173), (1, vI a1), (2, vI 0)]) rfl ?_
  exact w_X3_keep_2 (a1 := a1) X E FU 0 σ h
abbrev rm_X3_elseOf : Room := { frames := 1, cells := 0, slots := 0, locals := 23 }
theorem in_X3_elseOf_3 : ∀ w ∈ u_ws RX3 TX3 11, w ∈ wsX3_elseOf := fun w h => List.mem_cons_of_mem _ (List.mem_append_left _ (List.mem_append_left _ (List.mem_append_right _ h)))
theorem fg_X3_elseOf_41 : aFl wsX3_elseOf RX3 41 3 6 := ⟨RX3, TX3, 11, rfl, in_X3_elseOf_3, by decide, (List.mem_of_getElem? (i := 1) rfl), rfl⟩
theorem in_X3_elseOf_6 : ∀ w ∈ u_ws RX6 TX6 20, w ∈ wsX3_elseOf := fun w h => List.mem_cons_of_mem _ (List.mem_append_left _ (List.mem_append_right _ h))
theorem fg_X3_elseOf_65 : aFl wsX3_elseOf RX3 65 6 15 := ⟨RX6, TX6, 20, rfl, in_X3_elseOf_6, by decide, (List.mem_of_getElem? (i := 3) rfl), rfl⟩
theorem fg_X3_elseOf_68 : aFl wsX3_elseOf RX3 68 6 1 := ⟨RX6, TX6, 20, rfl, in_X3_elseOf_6, by decide, (List.mem_of_getElem? (i := 2) rfl), rfl⟩
set_option maxRecDepth 100000 in
set_option maxHeartbeats 4000000 in
theorem w_X3_elseOf_12_b {x : aC} {r : Int × Hp} {k12 : Int × Int × Hp → Option (Int × Hp)} {a1 : Int} (X : aX x cX3_elseOf wsX3_elseOf RX3 4 rm_X3_elseOf) (E : aE x shC (some .int) 0 r) (hk12 : ∀ (x2 : Int) (x3 : Int) (σ : Hp), k12 (x2, x3, σ) = some r → aS x shC 4 12 [(0, vR 173), (1, vI a1), (2, vI x2), (3, vI x3)] [] σ) (x2 : Int) (x3 : Int) (σ : Hp) (h : F_Deals_elseOf_12_b k12 a1 x2 x3 σ = some r) : aS x shC 4 12 [(0, vR 173), (1, vI a1), (2, vI x2), (3, vI x3)] [] σ := by
  unfold F_Deals_elseOf_12_b at h
  refine A_iload_n X 3 rfl rfl dX3_elseOf_12 ?_
  refine A_aload_n X 0 rfl rfl dX3_elseOf_13 ?_
  refine A_getV X fg_X3_elseOf_41 shC_173 (k := 6) rfl (by decide) dX3_elseOf_14 ?_
  obtain ⟨q1, hy⟩ : ∃ y, y = (σ 173 6).toNat := ⟨_, rfl⟩
  replace h := ltD h q1 hy
  rw [← hy]
  clear hy
  obtain ⟨g2, h⟩ := gdD h
  refine A_getI X fg_X3_elseOf_65 (shNet g2) (k := 15) rfl (by decide) dX3_elseOf_17 ?_
  refine A_icmp_ge X (tgt := 40) (by decide) dX3_elseOf_20 (fun c3 => ?_) (fun c3 => ?_)
  · replace h := ifT h c3
    refine A_iload_n X 2 rfl rfl dX3_elseOf_40 ?_
    exact A_ireturn X E h dX3_elseOf_41
  · replace h := ifF h c3
    refine A_iload_n X 2 rfl rfl dX3_elseOf_23 ?_
    refine A_aload_n X 0 rfl rfl dX3_elseOf_24 ?_
    refine A_iload_n X 1 rfl rfl dX3_elseOf_25 ?_
    refine A_iload_n X 3 rfl rfl dX3_elseOf_26 ?_
    obtain ⟨v4, s5, e6, h⟩ := clD h
    refine A_callV_I (na := 2) X (m_X3_offer e6) gX3_elseOf_X3_offer rfl ⟨rfl, rfl⟩ (by decide +kernel) rfl ⟨Nat.le_of_ble_eq_true rfl, Nat.le_of_ble_eq_true rfl⟩ shC_173 (by decide) rfl rfl (Nat.le_of_ble_eq_true rfl) dX3_elseOf_27 ?_
    refine A_mmax X (List.mem_of_getElem? (i := 4) rfl) (List.mem_of_getElem? (i := 5) rfl) (List.mem_of_getElem? (i := 6) rfl) (List.mem_of_getElem? (i := 7) rfl) (Nat.le_of_ble_eq_true rfl) (Nat.le_of_ble_eq_true rfl) dX3_elseOf_30 ?_
    refine A_istore_nN X (L' := fun y2_7 => [(2, vI y2_7), (0, vR 173), (1, vI a1), (3, vI x3)]) rfl (by decide) (fun _ => rfl) dX3_elseOf_33 (fun y2_7 hy => ?_)
    replace h := ltD h y2_7 hy
    clear hy
    refine A_iinc X (L' := fun y3_8 => [(3, vI y3_8), (2, vI y2_7), (0, vR 173), (1, vI a1)]) 3 rfl (by decide) (fun _ => rfl) dX3_elseOf_34 (by decide) (fun y3_8 hy => ?_)
    replace h := ltD h y3_8 hy
    clear hy
    refine A_goto X (tgt := 12) (by decide) dX3_elseOf_37 ?_
    refine A_sub [2, 3, 1, 0] rfl (L' := [(0, vR 173), (1, vI a1), (2, vI y2_7), (3, vI y3_8)]) rfl ?_
    exact hk12 y2_7 y3_8 s5 h
set_option maxRecDepth 100000 in
set_option maxHeartbeats 4000000 in
theorem w_X3_elseOf_12 {x : aC} {r : Int × Hp} {a1 : Int} (X : aX x cX3_elseOf wsX3_elseOf RX3 4 rm_X3_elseOf) (E : aE x shC (some .int) 0 r) : ∀ (n : Nat) (x2 : Int) (x3 : Int) (σ : Hp) (h : F_Deals_elseOf_12 a1 n (x2, x3, σ) = some r), aS x shC 4 12 [(0, vR 173), (1, vI a1), (2, vI x2), (3, vI x3)] [] σ := by
  intro n
  induction n with
  | zero => intro x2 x3 σ h; cases h
  | succ n ih => intro x2 x3 σ h; exact w_X3_elseOf_12_b (a1 := a1) (k12 := F_Deals_elseOf_12 a1 n) X E ih x2 x3 σ h
set_option maxRecDepth 100000 in
set_option maxHeartbeats 4000000 in
theorem m_X3_elseOf {l : Launch} {g : aG} {a1 : Int} {σ : Hp} {r : Int × Hp} (h : F_Deals_elseOf a1 σ = some r) : aMet l g shC yX3_elseOf wsX3_elseOf rm_X3_elseOf [vR 173, vI a1] σ 0 r := by
  unfold F_Deals_elseOf at h
  refine aMet_of (bytes := cX3_elseOf) (maxL := 4) (ret := (some .int)) (by decide +kernel) rfl (Nat.le_of_ble_eq_true rfl) ⟨rfl, rfl⟩ (fun x e1 e2 X E => ?_)
  subst e1; subst e2
  have X : aX x cX3_elseOf wsX3_elseOf RX3 4 rm_X3_elseOf := X
  show aS x shC 4 0 [(0, vR 173), (1, vI a1)] [] σ
  refine A_aload_n X 0 rfl rfl dX3_elseOf_0 ?_
  refine A_getV X fg_X3_elseOf_41 shC_173 (k := 6) rfl (by decide) dX3_elseOf_1 ?_
  obtain ⟨q9, hy⟩ : ∃ y, y = (σ 173 6).toNat := ⟨_, rfl⟩
  replace h := ltD h q9 hy
  rw [← hy]
  clear hy
  obtain ⟨g10, h⟩ := gdD h
  refine A_getR X fg_X3_elseOf_68 (shNet g10) (k := 1) rfl (by decide) dX3_elseOf_4 ?_
  refine A_iload_n X 1 rfl rfl dX3_elseOf_7 ?_
  obtain ⟨g11, h⟩ := gdD h
  refine A_iald X g11 (shNet_alone g10) dX3_elseOf_8 ?_
  refine A_istore_nN X (L' := fun y2_12 => [(2, vI y2_12), (0, vR 173), (1, vI a1)]) rfl (by decide) (fun _ => rfl) dX3_elseOf_9 (fun y2_12 hy => ?_)
  replace h := ltD h y2_12 hy
  clear hy
  refine A_iconst X dX3_elseOf_10 (z := 0) (by decide) ?_
  refine A_istore_n X (L' := [(3, vI 0), (2, vI y2_12), (0, vR 173), (1, vI a1)]) rfl (by decide) rfl dX3_elseOf_11 ?_
  refine A_sub [2, 3, 1, 0] rfl (L' := [(0, vR 173), (1, vI a1), (2, vI y2_12), (3, vI 0)]) rfl ?_
  exact w_X3_elseOf_12 (a1 := a1) X E FU y2_12 0 σ h
abbrev rm_X3_evenFirst : Room := { frames := 2, cells := 0, slots := 0, locals := 46 }
theorem in_X3_evenFirst_3 : ∀ w ∈ u_ws RX3 TX3 11, w ∈ wsX3_evenFirst := fun w h => List.mem_cons_of_mem _ (List.mem_append_left _ (List.mem_append_left _ (List.mem_append_right _ h)))
theorem fg_X3_evenFirst_41 : aFl wsX3_evenFirst RX3 41 3 6 := ⟨RX3, TX3, 11, rfl, in_X3_evenFirst_3, by decide, (List.mem_of_getElem? (i := 1) rfl), rfl⟩
theorem in_X3_evenFirst_6 : ∀ w ∈ u_ws RX6 TX6 20, w ∈ wsX3_evenFirst := fun w h => List.mem_cons_of_mem _ (List.mem_append_left _ (List.mem_append_right _ h))
theorem fg_X3_evenFirst_74 : aFl wsX3_evenFirst RX3 74 6 2 := ⟨RX6, TX6, 20, rfl, in_X3_evenFirst_6, by decide, (List.mem_of_getElem? (i := 2) rfl), rfl⟩
theorem fg_X3_evenFirst_31 : aFl wsX3_evenFirst RX3 31 3 5 := ⟨RX3, TX3, 11, rfl, in_X3_evenFirst_3, by decide, (List.mem_of_getElem? (i := 3) rfl), rfl⟩
theorem in_X3_evenFirst_10 : ∀ w ∈ u_ws RX10 TX10 3, w ∈ wsX3_evenFirst := fun w h => List.mem_cons_of_mem _ (List.mem_append_right _ h)
theorem fg_X3_evenFirst_81 : aFl wsX3_evenFirst RX3 81 10 1 := ⟨RX10, TX10, 3, rfl, in_X3_evenFirst_10, by decide, (List.mem_of_getElem? (i := 4) rfl), rfl⟩
theorem fg_X3_evenFirst_75 : aFl wsX3_evenFirst RX3 75 6 3 := ⟨RX6, TX6, 20, rfl, in_X3_evenFirst_6, by decide, (List.mem_of_getElem? (i := 5) rfl), rfl⟩
set_option maxRecDepth 100000 in
set_option maxHeartbeats 4000000 in
theorem m_X3_evenFirst {l : Launch} {g : aG} {a1 : Int} {σ : Hp} {r : Int × Hp} (h : F_Deals_evenFirst a1 σ = some r) : aMet l g shC yX3_evenFirst wsX3_evenFirst rm_X3_evenFirst [vR 173, vI a1] σ 0 r := by
  unfold F_Deals_evenFirst at h
  refine aMet_of (bytes := cX3_evenFirst) (maxL := 4) (ret := (some .int)) (by decide +kernel) rfl (Nat.le_of_ble_eq_true rfl) ⟨rfl, rfl⟩ (fun x e1 e2 X E => ?_)
  subst e1; subst e2
  have X : aX x cX3_evenFirst wsX3_evenFirst RX3 4 rm_X3_evenFirst := X
  show aS x shC 4 0 [(0, vR 173), (1, vI a1)] [] σ
  refine A_aload_n X 0 rfl rfl dX3_evenFirst_0 ?_
  refine A_aload_n X 0 rfl rfl dX3_evenFirst_1 ?_
  refine A_getV X fg_X3_evenFirst_41 shC_173 (k := 6) rfl (by decide) dX3_evenFirst_2 ?_
  obtain ⟨q1, hy⟩ : ∃ y, y = (σ 173 6).toNat := ⟨_, rfl⟩
  replace h := ltD h q1 hy
  rw [← hy]
  clear hy
  obtain ⟨g2, h⟩ := gdD h
  refine A_getR X fg_X3_evenFirst_74 (shNet g2) (k := 2) rfl (by decide) dX3_evenFirst_5 ?_
  refine A_iload_n X 1 rfl rfl dX3_evenFirst_8 ?_
  obtain ⟨g3, h⟩ := gdD h
  refine A_iald X g3 (shNet_first g2) dX3_evenFirst_9 ?_
  obtain ⟨v4, s5, e6, h⟩ := clD h
  refine A_callV_I (na := 1) X (m_X3_elseOf e6) gX3_evenFirst_X3_elseOf rfl ⟨rfl, rfl⟩ (by decide +kernel) rfl ⟨Nat.le_of_ble_eq_true rfl, Nat.le_of_ble_eq_true rfl⟩ shC_173 (by decide) rfl rfl (Nat.le_of_ble_eq_true rfl) dX3_evenFirst_10 ?_
  refine A_istore_n X (L' := [(2, vI v4), (0, vR 173), (1, vI a1)]) rfl (by decide) rfl dX3_evenFirst_13 ?_
  refine A_aload_n X 1 rfl rfl dX3_evenFirst_14 ?_
  refine A_getA X fg_X3_evenFirst_31 shC_173 (k := 5) rfl (by decide) dX3_evenFirst_15 ?_
  refine A_getR X fg_X3_evenFirst_81 shC_88 (k := 1) rfl (by decide) dX3_evenFirst_18 ?_
  refine A_iload_n X 2 rfl rfl dX3_evenFirst_21 ?_
  obtain ⟨g7, h⟩ := gdD h
  refine A_iald X g7 shC_90 dX3_evenFirst_22 ?_
  refine A_iload_n X 0 rfl rfl dX3_evenFirst_23 ?_
  refine A_isub X dX3_evenFirst_24 ?_
  refine A_aload_n X 1 rfl rfl dX3_evenFirst_25 ?_
  refine A_aload_n X 1 rfl rfl dX3_evenFirst_26 ?_
  refine A_getV X fg_X3_evenFirst_41 shC_173 (k := 6) rfl (by decide) dX3_evenFirst_27 ?_
  obtain ⟨q8, hy⟩ : ∃ y, y = (s5 173 6).toNat := ⟨_, rfl⟩
  replace h := ltD h q8 hy
  rw [← hy]
  clear hy
  obtain ⟨g9, h⟩ := gdD h
  refine A_getR X fg_X3_evenFirst_75 (shNet g9) (k := 3) rfl (by decide) dX3_evenFirst_30 ?_
  refine A_iload_n X 2 rfl rfl dX3_evenFirst_33 ?_
  obtain ⟨g10, h⟩ := gdD h
  refine A_iald X g10 (shNet_second g9) dX3_evenFirst_34 ?_
  obtain ⟨v11, s12, e13, h⟩ := clD h
  refine A_callV_I (na := 1) X (m_X3_elseOf e13) gX3_evenFirst_X3_elseOf rfl ⟨rfl, rfl⟩ (by decide +kernel) rfl ⟨Nat.le_of_ble_eq_true rfl, Nat.le_of_ble_eq_true rfl⟩ shC_173 (by decide) rfl rfl (Nat.le_of_ble_eq_true rfl) dX3_evenFirst_35 ?_
  refine A_isub X dX3_evenFirst_38 ?_
  refine A_istore_nN X (L' := fun y3_14 => [(3, vI y3_14), (2, vI v4), (0, vR 173), (1, vI a1)]) rfl (by decide) (fun _ => rfl) dX3_evenFirst_39 (fun y3_14 hy => ?_)
  replace h := ltD h y3_14 hy
  clear hy
  refine A_iload_n X 1 rfl rfl dX3_evenFirst_40 ?_
  refine A_iload_n X 0 rfl rfl dX3_evenFirst_41 ?_
  refine A_iconst X dX3_evenFirst_42 (z := 2) (by decide) ?_
  obtain ⟨v15, s16, e17, h⟩ := clD h
  refine A_callS_I (na := 2) X (m_J9_floorDiv_7cf53 e17) gX3_evenFirst_J9_floorDiv_7cf53 rfl ⟨rfl, rfl⟩ (by decide +kernel) rfl ⟨Nat.le_of_ble_eq_true rfl, Nat.le_of_ble_eq_true rfl⟩ rfl (Nat.le_of_ble_eq_true rfl) dX3_evenFirst_43 ?_
  refine A_iadd X dX3_evenFirst_46 ?_
  exact A_ireturn X E h dX3_evenFirst_47
abbrev rm_X3_turnRound : Room := { frames := 3, cells := 0, slots := 0, locals := 69 }
theorem in_X3_turnRound_3 : ∀ w ∈ u_ws RX3 TX3 11, w ∈ wsX3_turnRound := fun w h => List.mem_cons_of_mem _ (List.mem_append_left _ (List.mem_append_left _ (List.mem_append_right _ h)))
theorem fg_X3_turnRound_62 : aFl wsX3_turnRound RX3 62 3 8 := ⟨RX3, TX3, 11, rfl, in_X3_turnRound_3, by decide, (List.mem_of_getElem? (i := 1) rfl), rfl⟩
theorem fg_X3_turnRound_25 : aFl wsX3_turnRound RX3 25 3 7 := ⟨RX3, TX3, 11, rfl, in_X3_turnRound_3, by decide, (List.mem_of_getElem? (i := 2) rfl), rfl⟩
theorem fg_X3_turnRound_15 : aFl wsX3_turnRound RX3 15 3 1 := ⟨RX3, TX3, 11, rfl, in_X3_turnRound_3, by decide, (List.mem_of_getElem? (i := 3) rfl), rfl⟩
set_option maxRecDepth 100000 in
set_option maxHeartbeats 4000000 in
theorem w_X3_turnRound_2_b {x : aC} {r : Int × Hp} {k2 : Int × Hp → Option (Int × Hp)} (X : aX x cX3_turnRound wsX3_turnRound RX3 4 rm_X3_turnRound) (E : aE x shC none 3 r) (hk2 : ∀ (x1 : Int) (σ : Hp), k2 (x1, σ) = some r → aS x shC 4 2 [(0, vR 173), (1, vI x1)] [] σ) (x1 : Int) (σ : Hp) (h : F_Deals_turnRound_2_b k2 x1 σ = some r) : aS x shC 4 2 [(0, vR 173), (1, vI x1)] [] σ := by
  unfold F_Deals_turnRound_2_b at h
  refine A_iload_n X 1 rfl rfl dX3_turnRound_2 ?_
  refine A_aload_n X 0 rfl rfl dX3_turnRound_3 ?_
  refine A_getI X fg_X3_turnRound_62 shC_173 (k := 8) rfl (by decide) dX3_turnRound_4 ?_
  refine A_icmp_ge X (tgt := 57) (by decide) dX3_turnRound_7 (fun c1 => ?_) (fun c1 => ?_)
  · replace h := ifT h c1
    exact A_return X E h dX3_turnRound_57
  · replace h := ifF h c1
    refine A_aload_n X 0 rfl rfl dX3_turnRound_10 ?_
    refine A_getR X fg_X3_turnRound_25 shC_173 (k := 7) rfl (by decide) dX3_turnRound_11 ?_
    refine A_iload_n X 1 rfl rfl dX3_turnRound_14 ?_
    obtain ⟨g2, h⟩ := gdD h
    refine A_iald X g2 shC_178 dX3_turnRound_15 ?_
    refine A_istore_nN X (L' := fun y2_3 => [(2, vI y2_3), (0, vR 173), (1, vI x1)]) rfl (by decide) (fun _ => rfl) dX3_turnRound_16 (fun y2_3 hy => ?_)
    replace h := ltD h y2_3 hy
    clear hy
    refine A_aload_n X 1 rfl rfl dX3_turnRound_17 ?_
    refine A_iload_n X 0 rfl rfl dX3_turnRound_18 ?_
    obtain ⟨v4, s5, e6, h⟩ := clD h
    refine A_callV_I (na := 1) X (m_X3_evenFirst e6) gX3_turnRound_X3_evenFirst rfl ⟨rfl, rfl⟩ (by decide +kernel) rfl ⟨Nat.le_of_ble_eq_true rfl, Nat.le_of_ble_eq_true rfl⟩ shC_173 (by decide) rfl rfl (Nat.le_of_ble_eq_true rfl) dX3_turnRound_19 ?_
    refine A_istore_n X (L' := [(3, vI v4), (2, vI y2_3), (0, vR 173), (1, vI x1)]) rfl (by decide) rfl dX3_turnRound_22 ?_
    refine A_aload_n X 2 rfl rfl dX3_turnRound_23 ?_
    refine A_getR X fg_X3_turnRound_15 shC_173 (k := 1) rfl (by decide) dX3_turnRound_24 ?_
    refine A_iload_n X 1 rfl rfl dX3_turnRound_27 ?_
    refine A_iload_n X 0 rfl rfl dX3_turnRound_28 ?_
    refine A_ldc X (v := (-1000000)) (List.mem_of_getElem? (i := 4) rfl) dX3_turnRound_29 (z := (-1000000)) (by decide) ?_
    refine A_mmax X (List.mem_of_getElem? (i := 5) rfl) (List.mem_of_getElem? (i := 6) rfl) (List.mem_of_getElem? (i := 7) rfl) (List.mem_of_getElem? (i := 8) rfl) (Nat.le_of_ble_eq_true rfl) (Nat.le_of_ble_eq_true rfl) dX3_turnRound_31 ?_
    refine A_ldc X (v := (1000000)) (List.mem_of_getElem? (i := 9) rfl) dX3_turnRound_34 (z := 1000000) (by decide) ?_
    refine A_mmin X (List.mem_of_getElem? (i := 10) rfl) (List.mem_of_getElem? (i := 11) rfl) (List.mem_of_getElem? (i := 7) rfl) (List.mem_of_getElem? (i := 12) rfl) (Nat.le_of_ble_eq_true rfl) (Nat.le_of_ble_eq_true rfl) dX3_turnRound_36 ?_
    obtain ⟨g7, h⟩ := gdD h
    refine A_iast X g7 shC_175 dX3_turnRound_39 (fun s8 hy => ?_)
    replace h := ltD h s8 hy
    clear hy
    refine A_aload_n X 2 rfl rfl dX3_turnRound_40 ?_
    refine A_iload_n X 1 rfl rfl dX3_turnRound_41 ?_
    refine A_aload_n X 2 rfl rfl dX3_turnRound_42 ?_
    refine A_getR X fg_X3_turnRound_15 shC_173 (k := 1) rfl (by decide) dX3_turnRound_43 ?_
    refine A_iload_n X 1 rfl rfl dX3_turnRound_46 ?_
    obtain ⟨g9, h⟩ := gdD h
    refine A_iald X g9 shC_175 dX3_turnRound_47 ?_
    obtain ⟨v10, s11, e12, h⟩ := clD h
    refine A_callV_V (na := 2) X (m_X3_part e12) gX3_turnRound_X3_part rfl ⟨rfl, rfl⟩ (by decide +kernel) rfl ⟨Nat.le_of_ble_eq_true rfl, Nat.le_of_ble_eq_true rfl⟩ shC_173 (by decide) rfl rfl (Nat.le_of_ble_eq_true rfl) dX3_turnRound_48 ?_
    refine A_iinc X (L' := fun y1_13 => [(1, vI y1_13), (3, vI v4), (2, vI y2_3), (0, vR 173)]) 3 rfl (by decide) (fun _ => rfl) dX3_turnRound_51 (by decide) (fun y1_13 hy => ?_)
    replace h := ltD h y1_13 hy
    clear hy
    refine A_goto X (tgt := 2) (by decide) dX3_turnRound_54 ?_
    refine A_sub [3, 0] rfl (L' := [(0, vR 173), (1, vI y1_13)]) rfl ?_
    exact hk2 y1_13 s11 h
set_option maxRecDepth 100000 in
set_option maxHeartbeats 4000000 in
theorem w_X3_turnRound_2 {x : aC} {r : Int × Hp} (X : aX x cX3_turnRound wsX3_turnRound RX3 4 rm_X3_turnRound) (E : aE x shC none 3 r) : ∀ (n : Nat) (x1 : Int) (σ : Hp) (h : F_Deals_turnRound_2 n (x1, σ) = some r), aS x shC 4 2 [(0, vR 173), (1, vI x1)] [] σ := by
  intro n
  induction n with
  | zero => intro x1 σ h; cases h
  | succ n ih => intro x1 σ h; exact w_X3_turnRound_2_b (k2 := F_Deals_turnRound_2 n) X E ih x1 σ h
set_option maxRecDepth 100000 in
set_option maxHeartbeats 4000000 in
theorem m_X3_turnRound {l : Launch} {g : aG} {σ : Hp} {r : Int × Hp} (h : F_Deals_turnRound σ = some r) : aMet l g shC yX3_turnRound wsX3_turnRound rm_X3_turnRound [vR 173] σ 3 r := by
  unfold F_Deals_turnRound at h
  refine aMet_of (bytes := cX3_turnRound) (maxL := 4) (ret := none) (by decide +kernel) rfl (Nat.le_of_ble_eq_true rfl) ⟨rfl, rfl⟩ (fun x e1 e2 X E => ?_)
  subst e1; subst e2
  have X : aX x cX3_turnRound wsX3_turnRound RX3 4 rm_X3_turnRound := X
  show aS x shC 4 0 [(0, vR 173)] [] σ
  refine A_iconst X dX3_turnRound_0 (z := 0) (by decide) ?_
  refine A_istore_n X (L' := [(1, vI 0), (0, vR 173)]) rfl (by decide) rfl dX3_turnRound_1 ?_
  refine A_sub [1, 0] rfl (L' := [(0, vR 173), (1, vI 0)]) rfl ?_
  exact w_X3_turnRound_2 X E FU 0 σ h
abbrev rm_X3_isAsBehind : Room := { frames := 0, cells := 0, slots := 0, locals := 0 }
theorem in_X3_isAsBehind_3 : ∀ w ∈ u_ws RX3 TX3 11, w ∈ wsX3_isAsBehind := fun w h => List.mem_cons_of_mem _ (List.mem_append_right _ h)
theorem fg_X3_isAsBehind_62 : aFl wsX3_isAsBehind RX3 62 3 8 := ⟨RX3, TX3, 11, rfl, in_X3_isAsBehind_3, by decide, (List.mem_of_getElem? (i := 1) rfl), rfl⟩
theorem fg_X3_isAsBehind_28 : aFl wsX3_isAsBehind RX3 28 3 9 := ⟨RX3, TX3, 11, rfl, in_X3_isAsBehind_3, by decide, (List.mem_of_getElem? (i := 2) rfl), rfl⟩
theorem fg_X3_isAsBehind_15 : aFl wsX3_isAsBehind RX3 15 3 1 := ⟨RX3, TX3, 11, rfl, in_X3_isAsBehind_3, by decide, (List.mem_of_getElem? (i := 3) rfl), rfl⟩
theorem fg_X3_isAsBehind_25 : aFl wsX3_isAsBehind RX3 25 3 7 := ⟨RX3, TX3, 11, rfl, in_X3_isAsBehind_3, by decide, (List.mem_of_getElem? (i := 4) rfl), rfl⟩
set_option maxRecDepth 100000 in
set_option maxHeartbeats 4000000 in
theorem w_X3_isAsBehind_2_b {x : aC} {r : Int × Hp} {k2 : Int × Hp → Option (Int × Hp)} {a1 : Int} (X : aX x cX3_isAsBehind wsX3_isAsBehind RX3 3 rm_X3_isAsBehind) (E : aE x shC (some .boolean) 0 r) (hk2 : ∀ (x2 : Int) (σ : Hp), k2 (x2, σ) = some r → aS x shC 3 2 [(0, vR 173), (1, vI a1), (2, vI x2)] [] σ) (x2 : Int) (σ : Hp) (h : F_Deals_isAsBehind_2_b k2 a1 x2 σ = some r) : aS x shC 3 2 [(0, vR 173), (1, vI a1), (2, vI x2)] [] σ := by
  unfold F_Deals_isAsBehind_2_b at h
  refine A_iload_n X 2 rfl rfl dX3_isAsBehind_2 ?_
  refine A_aload_n X 0 rfl rfl dX3_isAsBehind_3 ?_
  refine A_getI X fg_X3_isAsBehind_62 shC_173 (k := 8) rfl (by decide) dX3_isAsBehind_4 ?_
  refine A_icmp_ge X (tgt := 43) (by decide) dX3_isAsBehind_7 (fun c1 => ?_) (fun c1 => ?_)
  · replace h := ifT h c1
    refine A_iconst X dX3_isAsBehind_43 (z := 1) (by decide) ?_
    exact A_zreturn X (Or.inr rfl) E h dX3_isAsBehind_44
  · replace h := ifF h c1
    refine A_aload_n X 0 rfl rfl dX3_isAsBehind_10 ?_
    refine A_getR X fg_X3_isAsBehind_28 shC_173 (k := 9) rfl (by decide) dX3_isAsBehind_11 ?_
    refine A_iload_n X 1 rfl rfl dX3_isAsBehind_14 ?_
    refine A_bipush X dX3_isAsBehind_15 (z := 6) (by decide) ?_
    refine A_imul X dX3_isAsBehind_17 ?_
    refine A_iload_n X 2 rfl rfl dX3_isAsBehind_18 ?_
    refine A_iadd X dX3_isAsBehind_19 ?_
    obtain ⟨g2, h⟩ := gdD h
    refine A_iald X g2 shC_179 dX3_isAsBehind_20 ?_
    refine A_aload_n X 0 rfl rfl dX3_isAsBehind_21 ?_
    refine A_getR X fg_X3_isAsBehind_15 shC_173 (k := 1) rfl (by decide) dX3_isAsBehind_22 ?_
    refine A_aload_n X 0 rfl rfl dX3_isAsBehind_25 ?_
    refine A_getR X fg_X3_isAsBehind_25 shC_173 (k := 7) rfl (by decide) dX3_isAsBehind_26 ?_
    refine A_iload_n X 2 rfl rfl dX3_isAsBehind_29 ?_
    obtain ⟨g3, h⟩ := gdD h
    refine A_iald X g3 shC_178 dX3_isAsBehind_30 ?_
    obtain ⟨g4, h⟩ := gdD h
    refine A_iald X g4 shC_175 dX3_isAsBehind_31 ?_
    refine A_icmp_eq X (tgt := 37) (by decide) dX3_isAsBehind_32 (fun c5 => ?_) (fun c5 => ?_)
    · replace h := ifT h c5
      refine A_iinc X (L' := fun y2_6 => [(2, vI y2_6), (0, vR 173), (1, vI a1)]) 2 rfl (by decide) (fun _ => rfl) dX3_isAsBehind_37 (by decide) (fun y2_6 hy => ?_)
      replace h := ltD h y2_6 hy
      clear hy
      refine A_goto X (tgt := 2) (by decide) dX3_isAsBehind_40 ?_
      refine A_sub [1, 2, 0] rfl (L' := [(0, vR 173), (1, vI a1), (2, vI y2_6)]) rfl ?_
      exact hk2 y2_6 σ h
    · replace h := ifF h c5
      refine A_iconst X dX3_isAsBehind_35 (z := 0) (by decide) ?_
      exact A_zreturn X (Or.inl rfl) E h dX3_isAsBehind_36
set_option maxRecDepth 100000 in
set_option maxHeartbeats 4000000 in
theorem w_X3_isAsBehind_2 {x : aC} {r : Int × Hp} {a1 : Int} (X : aX x cX3_isAsBehind wsX3_isAsBehind RX3 3 rm_X3_isAsBehind) (E : aE x shC (some .boolean) 0 r) : ∀ (n : Nat) (x2 : Int) (σ : Hp) (h : F_Deals_isAsBehind_2 a1 n (x2, σ) = some r), aS x shC 3 2 [(0, vR 173), (1, vI a1), (2, vI x2)] [] σ := by
  intro n
  induction n with
  | zero => intro x2 σ h; cases h
  | succ n ih => intro x2 σ h; exact w_X3_isAsBehind_2_b (a1 := a1) (k2 := F_Deals_isAsBehind_2 a1 n) X E ih x2 σ h
set_option maxRecDepth 100000 in
set_option maxHeartbeats 4000000 in
theorem m_X3_isAsBehind {l : Launch} {g : aG} {a1 : Int} {σ : Hp} {r : Int × Hp} (h : F_Deals_isAsBehind a1 σ = some r) : aMet l g shC yX3_isAsBehind wsX3_isAsBehind rm_X3_isAsBehind [vR 173, vI a1] σ 0 r := by
  unfold F_Deals_isAsBehind at h
  refine aMet_of (bytes := cX3_isAsBehind) (maxL := 3) (ret := (some .boolean)) (by decide +kernel) rfl (Nat.le_of_ble_eq_true rfl) ⟨rfl, rfl⟩ (fun x e1 e2 X E => ?_)
  subst e1; subst e2
  have X : aX x cX3_isAsBehind wsX3_isAsBehind RX3 3 rm_X3_isAsBehind := X
  show aS x shC 3 0 [(0, vR 173), (1, vI a1)] [] σ
  refine A_iconst X dX3_isAsBehind_0 (z := 0) (by decide) ?_
  refine A_istore_n X (L' := [(2, vI 0), (0, vR 173), (1, vI a1)]) rfl (by decide) rfl dX3_isAsBehind_1 ?_
  refine A_sub [1, 2, 0] rfl (L' := [(0, vR 173), (1, vI a1), (2, vI 0)]) rfl ?_
  exact w_X3_isAsBehind_2 (a1 := a1) X E FU 0 σ h
abbrev rm_X3_turnRounds : Room := { frames := 4, cells := 0, slots := 0, locals := 92 }
theorem in_X3_turnRounds_3 : ∀ w ∈ u_ws RX3 TX3 11, w ∈ wsX3_turnRounds := fun w h => List.mem_cons_of_mem _ (List.mem_append_left _ (List.mem_append_left _ (List.mem_append_right _ h)))
theorem fp_X3_turnRounds_132 : aFp wsX3_turnRounds RX3 132 3 10 .int := ⟨RX3, TX3, 11, tyX3, rfl, in_X3_turnRounds_3, by decide, (List.mem_of_getElem? (i := 1) rfl), rfl, tyX3_ok, nmX3, rfl, rfl⟩
set_option maxRecDepth 100000 in
set_option maxHeartbeats 4000000 in
theorem w_X3_turnRounds_49_b {x : aC} {r : Int × Hp} {k7 : Int × Hp → Option (Int × Hp)} {k49 : Int × Int × Hp → Option (Int × Hp)} {a1 : Int} (X : aX x cX3_turnRounds wsX3_turnRounds RX3 4 rm_X3_turnRounds) (E : aE x shC (some .int) 0 r) (hk7 : ∀ (x2 : Int) (σ : Hp), k7 (x2, σ) = some r → aS x shC 4 7 [(0, vR 173), (1, vI a1), (2, vI x2)] [] σ) (hk49 : ∀ (x2 : Int) (x3 : Int) (σ : Hp), k49 (x2, x3, σ) = some r → aS x shC 4 49 [(0, vR 173), (1, vI a1), (2, vI x2), (3, vI x3)] [] σ) (x2 : Int) (x3 : Int) (σ : Hp) (h : F_Deals_turnRounds_49_b k7 k49 a1 x2 x3 σ = some r) : aS x shC 4 49 [(0, vR 173), (1, vI a1), (2, vI x2), (3, vI x3)] [] σ := by
  unfold F_Deals_turnRounds_49_b at h
  refine A_iload_n X 3 rfl rfl dX3_turnRounds_49 ?_
  refine A_if_lt X (tgt := 74) (by decide) dX3_turnRounds_50 (fun c1 => ?_) (fun c1 => ?_)
  · replace h := ifT h c1
    refine A_aload_n X 0 rfl rfl dX3_turnRounds_74 ?_
    refine A_iload_n X 2 rfl rfl dX3_turnRounds_75 ?_
    obtain ⟨v2, s3, e4, h⟩ := clD h
    refine A_callV_V (na := 1) X (m_X3_keep e4) gX3_turnRounds_X3_keep rfl ⟨rfl, rfl⟩ (by decide +kernel) rfl ⟨Nat.le_of_ble_eq_true rfl, Nat.le_of_ble_eq_true rfl⟩ shC_173 (by decide) rfl rfl (Nat.le_of_ble_eq_true rfl) dX3_turnRounds_76 ?_
    refine A_iinc X (L' := fun y2_5 => [(2, vI y2_5), (0, vR 173), (1, vI a1), (3, vI x3)]) 2 rfl (by decide) (fun _ => rfl) dX3_turnRounds_79 (by decide) (fun y2_5 hy => ?_)
    replace h := ltD h y2_5 hy
    clear hy
    refine A_goto X (tgt := 7) (by decide) dX3_turnRounds_82 ?_
    refine A_sub [1, 2, 0] rfl (L' := [(0, vR 173), (1, vI a1), (2, vI y2_5)]) rfl ?_
    exact hk7 y2_5 s3 h
  · replace h := ifF h c1
    refine A_aload_n X 0 rfl rfl dX3_turnRounds_53 ?_
    refine A_iload_n X 3 rfl rfl dX3_turnRounds_54 ?_
    obtain ⟨v6, s7, e8, h⟩ := clD h
    refine A_callV_I (na := 1) X (m_X3_isAsBehind e8) gX3_turnRounds_X3_isAsBehind rfl ⟨rfl, rfl⟩ (by decide +kernel) rfl ⟨Nat.le_of_ble_eq_true rfl, Nat.le_of_ble_eq_true rfl⟩ shC_173 (by decide) rfl rfl (Nat.le_of_ble_eq_true rfl) dX3_turnRounds_55 ?_
    refine A_if_eq X (tgt := 68) (by decide) dX3_turnRounds_58 (fun c9 => ?_) (fun c9 => ?_)
    · replace h := ifT h c9
      refine A_iinc X (L' := fun y3_10 => [(3, vI y3_10), (0, vR 173), (1, vI a1), (2, vI x2)]) 3 rfl (by decide) (fun _ => rfl) dX3_turnRounds_68 (by decide) (fun y3_10 hy => ?_)
      replace h := ltD h y3_10 hy
      clear hy
      refine A_goto X (tgt := 49) (by decide) dX3_turnRounds_71 ?_
      refine A_sub [1, 2, 3, 0] rfl (L' := [(0, vR 173), (1, vI a1), (2, vI x2), (3, vI y3_10)]) rfl ?_
      exact hk49 x2 y3_10 s7 h
    · replace h := ifF h c9
      refine A_aload_n X 0 rfl rfl dX3_turnRounds_61 ?_
      refine A_iconst X dX3_turnRounds_62 (z := 1) (by decide) ?_
      refine A_putI X fp_X3_turnRounds_132 shC_173 (k := 10) rfl (by decide) dX3_turnRounds_63 (fun s11 hy => ?_)
      replace h := ltD h s11 hy
      clear hy
      refine A_iload_n X 2 rfl rfl dX3_turnRounds_66 ?_
      exact A_ireturn X E h dX3_turnRounds_67
set_option maxRecDepth 100000 in
set_option maxHeartbeats 4000000 in
theorem w_X3_turnRounds_49 {x : aC} {r : Int × Hp} {k7 : Int × Hp → Option (Int × Hp)} {a1 : Int} (X : aX x cX3_turnRounds wsX3_turnRounds RX3 4 rm_X3_turnRounds) (E : aE x shC (some .int) 0 r) (hk7 : ∀ (x2 : Int) (σ : Hp), k7 (x2, σ) = some r → aS x shC 4 7 [(0, vR 173), (1, vI a1), (2, vI x2)] [] σ) : ∀ (n : Nat) (x2 : Int) (x3 : Int) (σ : Hp) (h : F_Deals_turnRounds_49 k7 a1 n (x2, x3, σ) = some r), aS x shC 4 49 [(0, vR 173), (1, vI a1), (2, vI x2), (3, vI x3)] [] σ := by
  intro n
  induction n with
  | zero => intro x2 x3 σ h; cases h
  | succ n ih => intro x2 x3 σ h; exact w_X3_turnRounds_49_b (a1 := a1) (k49 := F_Deals_turnRounds_49 k7 a1 n) X E hk7 ih x2 x3 σ h
set_option maxRecDepth 100000 in
set_option maxHeartbeats 4000000 in
theorem w_X3_turnRounds_85 {x : aC} {r : Int × Hp} {a1 : Int} (X : aX x cX3_turnRounds wsX3_turnRounds RX3 4 rm_X3_turnRounds) (E : aE x shC (some .int) 0 r) (σ : Hp) (h : F_Deals_turnRounds_85 a1 σ = some r) : aS x shC 4 85 [(1, vI a1)] [] σ := by
  unfold F_Deals_turnRounds_85 at h
  refine A_iload_n X 0 rfl rfl dX3_turnRounds_85 ?_
  exact A_ireturn X E h dX3_turnRounds_86
set_option maxRecDepth 100000 in
set_option maxHeartbeats 4000000 in
theorem w_X3_turnRounds_7_b {x : aC} {r : Int × Hp} {k7 : Int × Hp → Option (Int × Hp)} {a1 : Int} (X : aX x cX3_turnRounds wsX3_turnRounds RX3 4 rm_X3_turnRounds) (E : aE x shC (some .int) 0 r) (hk7 : ∀ (x2 : Int) (σ : Hp), k7 (x2, σ) = some r → aS x shC 4 7 [(0, vR 173), (1, vI a1), (2, vI x2)] [] σ) (x2 : Int) (σ : Hp) (h : F_Deals_turnRounds_7_b k7 a1 x2 σ = some r) : aS x shC 4 7 [(0, vR 173), (1, vI a1), (2, vI x2)] [] σ := by
  unfold F_Deals_turnRounds_7_b at h
  refine A_iload_n X 2 rfl rfl dX3_turnRounds_7 ?_
  refine A_iload_n X 1 rfl rfl dX3_turnRounds_8 ?_
  refine A_icmp_gt X (tgt := 85) (by decide) dX3_turnRounds_9 (fun c12 => ?_) (fun c12 => ?_)
  · replace h := ifT h c12
    refine A_sub [1] rfl (L' := [(1, vI a1)]) rfl ?_
    exact w_X3_turnRounds_85 (a1 := a1) X E σ h
  · replace h := ifF h c12
    refine A_iload_n X 2 rfl rfl dX3_turnRounds_12 ?_
    refine A_sipush X dX3_turnRounds_13 (z := 1000) (by decide) ?_
    refine A_icmp_gt X (tgt := 85) (by decide) dX3_turnRounds_16 (fun c13 => ?_) (fun c13 => ?_)
    · replace h := ifT h c13
      refine A_sub [1] rfl (L' := [(1, vI a1)]) rfl ?_
      exact w_X3_turnRounds_85 (a1 := a1) X E σ h
    · replace h := ifF h c13
      refine A_aload_n X 0 rfl rfl dX3_turnRounds_19 ?_
      obtain ⟨v14, s15, e16, h⟩ := clD h
      refine A_callV_V (na := 0) X (m_X3_turnRound e16) gX3_turnRounds_X3_turnRound rfl ⟨rfl, rfl⟩ (by decide +kernel) rfl ⟨Nat.le_of_ble_eq_true rfl, Nat.le_of_ble_eq_true rfl⟩ shC_173 (by decide) rfl rfl (Nat.le_of_ble_eq_true rfl) dX3_turnRounds_20 ?_
      refine A_aload_n X 0 rfl rfl dX3_turnRounds_23 ?_
      refine A_iconst X dX3_turnRounds_24 (z := 2) (by decide) ?_
      refine A_putI X fp_X3_turnRounds_132 shC_173 (k := 10) rfl (by decide) dX3_turnRounds_25 (fun s17 hy => ?_)
      replace h := ltD h s17 hy
      clear hy
      refine A_aload_n X 0 rfl rfl dX3_turnRounds_28 ?_
      refine A_iload_n X 2 rfl rfl dX3_turnRounds_29 ?_
      refine A_iconst X dX3_turnRounds_30 (z := 1) (by decide) ?_
      refine A_isub X dX3_turnRounds_31 ?_
      obtain ⟨v18, s19, e20, h⟩ := clD h
      refine A_callV_I (na := 1) X (m_X3_isAsBehind e20) gX3_turnRounds_X3_isAsBehind rfl ⟨rfl, rfl⟩ (by decide +kernel) rfl ⟨Nat.le_of_ble_eq_true rfl, Nat.le_of_ble_eq_true rfl⟩ shC_173 (by decide) rfl rfl (Nat.le_of_ble_eq_true rfl) dX3_turnRounds_32 ?_
      refine A_if_eq X (tgt := 45) (by decide) dX3_turnRounds_35 (fun c21 => ?_) (fun c21 => ?_)
      · replace h := ifT h c21
        refine A_iload_n X 2 rfl rfl dX3_turnRounds_45 ?_
        refine A_iconst X dX3_turnRounds_46 (z := 2) (by decide) ?_
        refine A_isub X dX3_turnRounds_47 ?_
        refine A_istore_nN X (L' := fun y3_22 => [(3, vI y3_22), (0, vR 173), (1, vI a1), (2, vI x2)]) rfl (by decide) (fun _ => rfl) dX3_turnRounds_48 (fun y3_22 hy => ?_)
        replace h := ltD h y3_22 hy
        clear hy
        refine A_sub [1, 2, 3, 0] rfl (L' := [(0, vR 173), (1, vI a1), (2, vI x2), (3, vI y3_22)]) rfl ?_
        exact w_X3_turnRounds_49 (a1 := a1) X E hk7 FU x2 y3_22 s19 h
      · replace h := ifF h c21
        refine A_aload_n X 0 rfl rfl dX3_turnRounds_38 ?_
        refine A_iconst X dX3_turnRounds_39 (z := 0) (by decide) ?_
        refine A_putI X fp_X3_turnRounds_132 shC_173 (k := 10) rfl (by decide) dX3_turnRounds_40 (fun s23 hy => ?_)
        replace h := ltD h s23 hy
        clear hy
        refine A_iload_n X 2 rfl rfl dX3_turnRounds_43 ?_
        exact A_ireturn X E h dX3_turnRounds_44
set_option maxRecDepth 100000 in
set_option maxHeartbeats 4000000 in
theorem w_X3_turnRounds_7 {x : aC} {r : Int × Hp} {a1 : Int} (X : aX x cX3_turnRounds wsX3_turnRounds RX3 4 rm_X3_turnRounds) (E : aE x shC (some .int) 0 r) : ∀ (n : Nat) (x2 : Int) (σ : Hp) (h : F_Deals_turnRounds_7 a1 n (x2, σ) = some r), aS x shC 4 7 [(0, vR 173), (1, vI a1), (2, vI x2)] [] σ := by
  intro n
  induction n with
  | zero => intro x2 σ h; cases h
  | succ n ih => intro x2 σ h; exact w_X3_turnRounds_7_b (a1 := a1) (k7 := F_Deals_turnRounds_7 a1 n) X E ih x2 σ h
set_option maxRecDepth 100000 in
set_option maxHeartbeats 4000000 in
theorem m_X3_turnRounds {l : Launch} {g : aG} {a1 : Int} {σ : Hp} {r : Int × Hp} (h : F_Deals_turnRounds a1 σ = some r) : aMet l g shC yX3_turnRounds wsX3_turnRounds rm_X3_turnRounds [vR 173, vI a1] σ 0 r := by
  unfold F_Deals_turnRounds at h
  refine aMet_of (bytes := cX3_turnRounds) (maxL := 4) (ret := (some .int)) (by decide +kernel) rfl (Nat.le_of_ble_eq_true rfl) ⟨rfl, rfl⟩ (fun x e1 e2 X E => ?_)
  subst e1; subst e2
  have X : aX x cX3_turnRounds wsX3_turnRounds RX3 4 rm_X3_turnRounds := X
  show aS x shC 4 0 [(0, vR 173), (1, vI a1)] [] σ
  refine A_aload_n X 0 rfl rfl dX3_turnRounds_0 ?_
  refine A_iconst X dX3_turnRounds_1 (z := 0) (by decide) ?_
  obtain ⟨v24, s25, e26, h⟩ := clD h
  refine A_callV_V (na := 1) X (m_X3_keep e26) gX3_turnRounds_X3_keep rfl ⟨rfl, rfl⟩ (by decide +kernel) rfl ⟨Nat.le_of_ble_eq_true rfl, Nat.le_of_ble_eq_true rfl⟩ shC_173 (by decide) rfl rfl (Nat.le_of_ble_eq_true rfl) dX3_turnRounds_2 ?_
  refine A_iconst X dX3_turnRounds_5 (z := 1) (by decide) ?_
  refine A_istore_n X (L' := [(2, vI 1), (0, vR 173), (1, vI a1)]) rfl (by decide) rfl dX3_turnRounds_6 ?_
  refine A_sub [1, 2, 0] rfl (L' := [(0, vR 173), (1, vI a1), (2, vI 1)]) rfl ?_
  exact w_X3_turnRounds_7 (a1 := a1) X E FU 1 s25 h
abbrev rm_X4_write : Room := { frames := 3, cells := 0, slots := 0, locals := 63 }
theorem in_X4_write_6 : ∀ w ∈ u_ws RX6 TX6 20, w ∈ wsX4_write := fun w h => List.mem_cons_of_mem _ (List.mem_append_left _ (List.mem_append_left _ (List.mem_append_right _ h)))
theorem fg_X4_write_32 : aFl wsX4_write RX4 32 6 16 := ⟨RX6, TX6, 20, rfl, in_X4_write_6, by decide, (List.mem_of_getElem? (i := 2) rfl), rfl⟩
theorem in_X4_write_4 : ∀ w ∈ u_ws RX4 TX4 4, w ∈ wsX4_write := fun w h => List.mem_cons_of_mem _ (List.mem_append_left _ (List.mem_append_left _ (List.mem_append_left _ (List.mem_append_right _ h))))
theorem fg_X4_write_14 : aFl wsX4_write RX4 14 4 0 := ⟨RX4, TX4, 4, rfl, in_X4_write_4, by decide, (List.mem_of_getElem? (i := 1) rfl), rfl⟩
theorem in_X4_write_3 : ∀ w ∈ u_ws RX3 TX3 11, w ∈ wsX4_write := fun w h => List.mem_cons_of_mem _ (List.mem_append_left _ (List.mem_append_right _ h))
theorem fg_X4_write_44 : aFl wsX4_write RX4 44 3 0 := ⟨RX3, TX3, 11, rfl, in_X4_write_3, by decide, (List.mem_of_getElem? (i := 3) rfl), rfl⟩
theorem fg_X4_write_47 : aFl wsX4_write RX4 47 3 1 := ⟨RX3, TX3, 11, rfl, in_X4_write_3, by decide, (List.mem_of_getElem? (i := 4) rfl), rfl⟩
set_option maxRecDepth 100000 in
set_option maxHeartbeats 4000000 in
theorem w_X4_write_85 {x : aC} {r : Int × Hp} {k31 : Int × Hp → Option (Int × Hp)} {a1 : Nat} {a2 : Int} (X : aX x cX4_write wsX4_write RX4 5 rm_X4_write) (E : aE x shC (some .int) 0 r) (hk31 : ∀ (x4 : Int) (σ : Hp), k31 (x4, σ) = some r → aS x shC 5 31 [(0, vR 180), (1, vR a1), (3, vR 173), (4, vI x4)] [] σ) (ha1 : isNet a1) (x4 : Int) (σ : Hp) (h : F_Img_write_85 k31 a1 a2 x4 σ = some r) : aS x shC 5 85 [(0, vR 180), (1, vR a1), (3, vR 173), (4, vI x4)] [] σ := by
  unfold F_Img_write_85 at h
  refine A_iinc X (L' := fun y4_1 => [(4, vI y4_1), (0, vR 180), (1, vR a1), (3, vR 173)]) 3 rfl (by decide) (fun _ => rfl) dX4_write_85 (by decide) (fun y4_1 hy => ?_)
  replace h := ltD h y4_1 hy
  clear hy
  refine A_goto X (tgt := 31) (by decide) dX4_write_88 ?_
  refine A_sub [1, 2, 3, 0] rfl (L' := [(0, vR 180), (1, vR a1), (3, vR 173), (4, vI y4_1)]) rfl ?_
  exact hk31 y4_1 σ h
set_option maxRecDepth 100000 in
set_option maxHeartbeats 4000000 in
theorem w_X4_write_31_b {x : aC} {r : Int × Hp} {k31 : Int × Hp → Option (Int × Hp)} {a1 : Nat} {a2 : Int} (X : aX x cX4_write wsX4_write RX4 5 rm_X4_write) (E : aE x shC (some .int) 0 r) (hk31 : ∀ (x4 : Int) (σ : Hp), k31 (x4, σ) = some r → aS x shC 5 31 [(0, vR 180), (1, vR a1), (3, vR 173), (4, vI x4)] [] σ) (ha1 : isNet a1) (x4 : Int) (σ : Hp) (h : F_Img_write_31_b k31 a1 a2 x4 σ = some r) : aS x shC 5 31 [(0, vR 180), (1, vR a1), (3, vR 173), (4, vI x4)] [] σ := by
  unfold F_Img_write_31_b at h
  refine A_iload X 3 rfl dX4_write_31 ?_
  refine A_aload_n X 1 rfl rfl dX4_write_33 ?_
  refine A_getI X fg_X4_write_32 (shNet ha1) (k := 16) rfl (by decide) dX4_write_34 ?_
  refine A_icmp_ge X (tgt := 91) (by decide) dX4_write_37 (fun c2 => ?_) (fun c2 => ?_)
  · replace h := ifT h c2
    refine A_aload_n X 0 rfl rfl dX4_write_91 ?_
    refine A_getR X fg_X4_write_14 shC_180 (k := 0) rfl (by decide) dX4_write_92 ?_
    refine A_aload_n X 0 rfl rfl dX4_write_95 ?_
    refine A_getR X fg_X4_write_14 shC_180 (k := 0) rfl (by decide) dX4_write_96 ?_
    refine A_aload_n X 0 rfl rfl dX4_write_99 ?_
    refine A_getR X fg_X4_write_14 shC_180 (k := 0) rfl (by decide) dX4_write_100 ?_
    obtain ⟨v3, s4, e5, h⟩ := clD h
    refine A_callV_I (na := 0) X (m_X2_size e5) gX4_write_X2_size rfl ⟨rfl, rfl⟩ (by decide +kernel) rfl ⟨Nat.le_of_ble_eq_true rfl, Nat.le_of_ble_eq_true rfl⟩ shC_181 (by decide) rfl rfl (Nat.le_of_ble_eq_true rfl) dX4_write_103 ?_
    obtain ⟨v6, s7, e8, h⟩ := clD h
    refine A_callV_I (na := 1) X (m_X2_checkOf e8) gX4_write_X2_checkOf rfl ⟨rfl, rfl⟩ (by decide +kernel) rfl ⟨Nat.le_of_ble_eq_true rfl, Nat.le_of_ble_eq_true rfl⟩ shC_181 (by decide) rfl rfl (Nat.le_of_ble_eq_true rfl) dX4_write_106 ?_
    obtain ⟨v9, s10, e11, h⟩ := clD h
    refine A_callV_V (na := 1) X (m_X2_putTwo e11) gX4_write_X2_putTwo rfl ⟨rfl, rfl⟩ (by decide +kernel) rfl ⟨Nat.le_of_ble_eq_true rfl, Nat.le_of_ble_eq_true rfl⟩ shC_181 (by decide) rfl rfl (Nat.le_of_ble_eq_true rfl) dX4_write_109 ?_
    refine A_aload_n X 0 rfl rfl dX4_write_112 ?_
    refine A_getR X fg_X4_write_14 shC_180 (k := 0) rfl (by decide) dX4_write_113 ?_
    obtain ⟨v12, s13, e14, h⟩ := clD h
    refine A_callV_I (na := 0) X (m_X2_size e14) gX4_write_X2_size rfl ⟨rfl, rfl⟩ (by decide +kernel) rfl ⟨Nat.le_of_ble_eq_true rfl, Nat.le_of_ble_eq_true rfl⟩ shC_181 (by decide) rfl rfl (Nat.le_of_ble_eq_true rfl) dX4_write_116 ?_
    exact A_ireturn X E h dX4_write_119
  · replace h := ifF h c2
    refine A_aload_n X 2 rfl rfl dX4_write_40 ?_
    refine A_getR X fg_X4_write_44 shC_173 (k := 0) rfl (by decide) dX4_write_41 ?_
    refine A_iload X 3 rfl dX4_write_44 ?_
    obtain ⟨g15, h⟩ := gdD h
    refine A_zald X g15 shC_174 dX4_write_46 ?_
    refine A_if_eq X (tgt := 75) (by decide) dX4_write_47 (fun c16 => ?_) (fun c16 => ?_)
    · replace h := ifT h c16
      refine A_aload_n X 0 rfl rfl dX4_write_75 ?_
      refine A_getR X fg_X4_write_14 shC_180 (k := 0) rfl (by decide) dX4_write_76 ?_
      refine A_sipush X dX4_write_79 (z := 255) (by decide) ?_
      obtain ⟨v17, s18, e19, h⟩ := clD h
      refine A_callV_V (na := 1) X (m_X2_put e19) gX4_write_X2_put rfl ⟨rfl, rfl⟩ (by decide +kernel) rfl ⟨Nat.le_of_ble_eq_true rfl, Nat.le_of_ble_eq_true rfl⟩ shC_181 (by decide) rfl rfl (Nat.le_of_ble_eq_true rfl) dX4_write_82 ?_
      exact w_X4_write_85 (a1 := a1) (a2 := a2) X E hk31 ha1 x4 s18 h
    · replace h := ifF h c16
      refine A_aload_n X 0 rfl rfl dX4_write_50 ?_
      refine A_getR X fg_X4_write_14 shC_180 (k := 0) rfl (by decide) dX4_write_51 ?_
      refine A_iconst X dX4_write_54 (z := 1) (by decide) ?_
      obtain ⟨v20, s21, e22, h⟩ := clD h
      refine A_callV_V (na := 1) X (m_X2_put e22) gX4_write_X2_put rfl ⟨rfl, rfl⟩ (by decide +kernel) rfl ⟨Nat.le_of_ble_eq_true rfl, Nat.le_of_ble_eq_true rfl⟩ shC_181 (by decide) rfl rfl (Nat.le_of_ble_eq_true rfl) dX4_write_55 ?_
      refine A_aload_n X 0 rfl rfl dX4_write_58 ?_
      refine A_getR X fg_X4_write_14 shC_180 (k := 0) rfl (by decide) dX4_write_59 ?_
      refine A_aload_n X 2 rfl rfl dX4_write_62 ?_
      refine A_getR X fg_X4_write_47 shC_173 (k := 1) rfl (by decide) dX4_write_63 ?_
      refine A_iload X 3 rfl dX4_write_66 ?_
      obtain ⟨g23, h⟩ := gdD h
      refine A_iald X g23 shC_175 dX4_write_68 ?_
      obtain ⟨v24, s25, e26, h⟩ := clD h
      refine A_callV_V (na := 1) X (m_X2_putNumber e26) gX4_write_X2_putNumber rfl ⟨rfl, rfl⟩ (by decide +kernel) rfl ⟨Nat.le_of_ble_eq_true rfl, Nat.le_of_ble_eq_true rfl⟩ shC_181 (by decide) rfl rfl (Nat.le_of_ble_eq_true rfl) dX4_write_69 ?_
      refine A_goto X (tgt := 85) (by decide) dX4_write_72 ?_
      exact w_X4_write_85 (a1 := a1) (a2 := a2) X E hk31 ha1 x4 s25 h
set_option maxRecDepth 100000 in
set_option maxHeartbeats 4000000 in
theorem w_X4_write_31 {x : aC} {r : Int × Hp} {a1 : Nat} {a2 : Int} (X : aX x cX4_write wsX4_write RX4 5 rm_X4_write) (E : aE x shC (some .int) 0 r) (ha1 : isNet a1) : ∀ (n : Nat) (x4 : Int) (σ : Hp) (h : F_Img_write_31 a1 a2 n (x4, σ) = some r), aS x shC 5 31 [(0, vR 180), (1, vR a1), (3, vR 173), (4, vI x4)] [] σ := by
  intro n
  induction n with
  | zero => intro x4 σ h; cases h
  | succ n ih => intro x4 σ h; exact w_X4_write_31_b (a1 := a1) (a2 := a2) (k31 := F_Img_write_31 a1 a2 n) X E ih ha1 x4 σ h
set_option maxRecDepth 100000 in
set_option maxHeartbeats 4000000 in
theorem m_X4_write {l : Launch} {g : aG} {a1 : Nat} {a2 : Int} {σ : Hp} {r : Int × Hp} (h : F_Img_write a1 a2 σ = some r) : aMet l g shC yX4_write wsX4_write rm_X4_write [vR 180, vR a1, vI a2, vR 173] σ 0 r := by
  unfold F_Img_write at h
  obtain ⟨ha1, h⟩ := gdD h
  refine aMet_of (bytes := cX4_write) (maxL := 5) (ret := (some .int)) (by decide +kernel) rfl (Nat.le_of_ble_eq_true rfl) ⟨rfl, rfl⟩ (fun x e1 e2 X E => ?_)
  subst e1; subst e2
  have X : aX x cX4_write wsX4_write RX4 5 rm_X4_write := X
  show aS x shC 5 0 [(0, vR 180), (1, vR a1), (2, vI a2), (3, vR 173)] [] σ
  refine A_aload_n X 0 rfl rfl dX4_write_0 ?_
  refine A_getR X fg_X4_write_14 shC_180 (k := 0) rfl (by decide) dX4_write_1 ?_
  refine A_iconst X dX4_write_4 (z := 0) (by decide) ?_
  obtain ⟨v27, s28, e29, h⟩ := clD h
  refine A_callV_I (na := 1) X (m_X2_cut e29) gX4_write_X2_cut rfl ⟨rfl, rfl⟩ (by decide +kernel) rfl ⟨Nat.le_of_ble_eq_true rfl, Nat.le_of_ble_eq_true rfl⟩ shC_181 (by decide) rfl rfl (Nat.le_of_ble_eq_true rfl) dX4_write_5 ?_
  refine A_pop X (by show ¬ (0 : Nat) = 1; decide) dX4_write_8 ?_
  refine A_aload_n X 0 rfl rfl dX4_write_9 ?_
  refine A_getR X fg_X4_write_14 shC_180 (k := 0) rfl (by decide) dX4_write_10 ?_
  refine A_aload_n X 1 rfl rfl dX4_write_13 ?_
  refine A_getI X fg_X4_write_32 (shNet ha1) (k := 16) rfl (by decide) dX4_write_14 ?_
  obtain ⟨v30, s31, e32, h⟩ := clD h
  refine A_callV_V (na := 1) X (m_X2_put e32) gX4_write_X2_put rfl ⟨rfl, rfl⟩ (by decide +kernel) rfl ⟨Nat.le_of_ble_eq_true rfl, Nat.le_of_ble_eq_true rfl⟩ shC_181 (by decide) rfl rfl (Nat.le_of_ble_eq_true rfl) dX4_write_17 ?_
  refine A_aload_n X 0 rfl rfl dX4_write_20 ?_
  refine A_getR X fg_X4_write_14 shC_180 (k := 0) rfl (by decide) dX4_write_21 ?_
  refine A_iload_n X 2 rfl rfl dX4_write_24 ?_
  obtain ⟨v33, s34, e35, h⟩ := clD h
  refine A_callV_V (na := 1) X (m_X2_putTwo e35) gX4_write_X2_putTwo rfl ⟨rfl, rfl⟩ (by decide +kernel) rfl ⟨Nat.le_of_ble_eq_true rfl, Nat.le_of_ble_eq_true rfl⟩ shC_181 (by decide) rfl rfl (Nat.le_of_ble_eq_true rfl) dX4_write_25 ?_
  refine A_iconst X dX4_write_28 (z := 0) (by decide) ?_
  refine A_istore X (L' := [(4, vI 0), (0, vR 180), (1, vR a1), (2, vI a2), (3, vR 173)]) (by decide) rfl dX4_write_29 ?_
  refine A_sub [1, 2, 4, 0] rfl (L' := [(0, vR 180), (1, vR a1), (3, vR 173), (4, vI 0)]) rfl ?_
  exact w_X4_write_31 (a1 := a1) (a2 := a2) X E ha1 FU 0 s34 h
abbrev rm_X3_moneyOf : Room := { frames := 0, cells := 0, slots := 0, locals := 0 }
theorem in_X3_moneyOf_3 : ∀ w ∈ u_ws RX3 TX3 11, w ∈ wsX3_moneyOf := fun w h => List.mem_cons_of_mem _ (List.mem_append_left _ (List.mem_append_right _ h))
theorem fg_X3_moneyOf_19 : aFl wsX3_moneyOf RX3 19 3 3 := ⟨RX3, TX3, 11, rfl, in_X3_moneyOf_3, by decide, (List.mem_of_getElem? (i := 1) rfl), rfl⟩
theorem fg_X3_moneyOf_41 : aFl wsX3_moneyOf RX3 41 3 6 := ⟨RX3, TX3, 11, rfl, in_X3_moneyOf_3, by decide, (List.mem_of_getElem? (i := 3) rfl), rfl⟩
theorem in_X3_moneyOf_6 : ∀ w ∈ u_ws RX6 TX6 20, w ∈ wsX3_moneyOf := fun w h => List.mem_cons_of_mem _ (List.mem_append_right _ h)
theorem fg_X3_moneyOf_74 : aFl wsX3_moneyOf RX3 74 6 2 := ⟨RX6, TX6, 20, rfl, in_X3_moneyOf_6, by decide, (List.mem_of_getElem? (i := 4) rfl), rfl⟩
theorem fg_X3_moneyOf_75 : aFl wsX3_moneyOf RX3 75 6 3 := ⟨RX6, TX6, 20, rfl, in_X3_moneyOf_6, by decide, (List.mem_of_getElem? (i := 5) rfl), rfl⟩
theorem fg_X3_moneyOf_22 : aFl wsX3_moneyOf RX3 22 3 4 := ⟨RX3, TX3, 11, rfl, in_X3_moneyOf_3, by decide, (List.mem_of_getElem? (i := 2) rfl), rfl⟩
theorem fg_X3_moneyOf_84 : aFl wsX3_moneyOf RX3 84 6 9 := ⟨RX6, TX6, 20, rfl, in_X3_moneyOf_6, by decide, (List.mem_of_getElem? (i := 6) rfl), rfl⟩
set_option maxRecDepth 100000 in
set_option maxHeartbeats 4000000 in
theorem m_X3_moneyOf {l : Launch} {g : aG} {a1 : Int} {σ : Hp} {r : Int × Hp} (h : F_Deals_moneyOf a1 σ = some r) : aMet l g shC yX3_moneyOf wsX3_moneyOf rm_X3_moneyOf [vR 173, vI a1] σ 0 r := by
  unfold F_Deals_moneyOf at h
  refine aMet_of (bytes := cX3_moneyOf) (maxL := 4) (ret := (some .int)) (by decide +kernel) rfl (Nat.le_of_ble_eq_true rfl) ⟨rfl, rfl⟩ (fun x e1 e2 X E => ?_)
  subst e1; subst e2
  have X : aX x cX3_moneyOf wsX3_moneyOf RX3 4 rm_X3_moneyOf := X
  show aS x shC 4 0 [(0, vR 173), (1, vI a1)] [] σ
  refine A_aload_n X 0 rfl rfl dX3_moneyOf_0 ?_
  refine A_getR X fg_X3_moneyOf_19 shC_173 (k := 3) rfl (by decide) dX3_moneyOf_1 ?_
  refine A_iload_n X 1 rfl rfl dX3_moneyOf_4 ?_
  obtain ⟨g1, h⟩ := gdD h
  refine A_iald X g1 shC_176 dX3_moneyOf_5 ?_
  refine A_istore_nN X (L' := fun y2_2 => [(2, vI y2_2), (0, vR 173), (1, vI a1)]) rfl (by decide) (fun _ => rfl) dX3_moneyOf_6 (fun y2_2 hy => ?_)
  replace h := ltD h y2_2 hy
  clear hy
  refine A_iload_n X 0 rfl rfl dX3_moneyOf_7 ?_
  refine A_iconst X dX3_moneyOf_8 (z := (-1)) (by decide) ?_
  refine A_icmp_ne X (tgt := 19) (by decide) dX3_moneyOf_9 (fun c3 => ?_) (fun c3 => ?_)
  · replace h := ifF h c3
    refine A_aload_n X 1 rfl rfl dX3_moneyOf_19 ?_
    refine A_getV X fg_X3_moneyOf_41 shC_173 (k := 6) rfl (by decide) dX3_moneyOf_20 ?_
    obtain ⟨q4, hy⟩ : ∃ y, y = (σ 173 6).toNat := ⟨_, rfl⟩
    replace h := ltD h q4 hy
    rw [← hy]
    clear hy
    obtain ⟨g5, h⟩ := gdD h
    refine A_getR X fg_X3_moneyOf_74 (shNet g5) (k := 2) rfl (by decide) dX3_moneyOf_23 ?_
    refine A_iload_n X 0 rfl rfl dX3_moneyOf_26 ?_
    obtain ⟨g6, h⟩ := gdD h
    refine A_iald X g6 (shNet_first g5) dX3_moneyOf_27 ?_
    refine A_aload_n X 1 rfl rfl dX3_moneyOf_28 ?_
    refine A_getV X fg_X3_moneyOf_41 shC_173 (k := 6) rfl (by decide) dX3_moneyOf_29 ?_
    obtain ⟨q7, hy⟩ : ∃ y, y = (σ 173 6).toNat := ⟨_, rfl⟩
    replace h := ltD h q7 hy
    rw [← hy]
    clear hy
    obtain ⟨g8, h⟩ := gdD h
    refine A_getR X fg_X3_moneyOf_75 (shNet g8) (k := 3) rfl (by decide) dX3_moneyOf_32 ?_
    refine A_iload_n X 0 rfl rfl dX3_moneyOf_35 ?_
    obtain ⟨g9, h⟩ := gdD h
    refine A_iald X g9 (shNet_second g8) dX3_moneyOf_36 ?_
    refine A_iadd X dX3_moneyOf_37 ?_
    refine A_iload_n X 2 rfl rfl dX3_moneyOf_38 ?_
    refine A_isub X dX3_moneyOf_39 ?_
    refine A_istore_nN X (L' := fun y3_10 => [(3, vI y3_10), (2, vI y2_2), (0, vR 173), (1, vI a1)]) rfl (by decide) (fun _ => rfl) dX3_moneyOf_40 (fun y3_10 hy => ?_)
    replace h := ltD h y3_10 hy
    clear hy
    refine A_aload_n X 2 rfl rfl dX3_moneyOf_41 ?_
    refine A_getR X fg_X3_moneyOf_22 shC_173 (k := 4) rfl (by decide) dX3_moneyOf_42 ?_
    refine A_iload_n X 3 rfl rfl dX3_moneyOf_45 ?_
    obtain ⟨g11, h⟩ := gdD h
    refine A_iald X g11 shC_177 dX3_moneyOf_46 ?_
    refine A_aload_n X 2 rfl rfl dX3_moneyOf_47 ?_
    refine A_getV X fg_X3_moneyOf_41 shC_173 (k := 6) rfl (by decide) dX3_moneyOf_48 ?_
    obtain ⟨q12, hy⟩ : ∃ y, y = (σ 173 6).toNat := ⟨_, rfl⟩
    replace h := ltD h q12 hy
    rw [← hy]
    clear hy
    obtain ⟨g13, h⟩ := gdD h
    refine A_getR X fg_X3_moneyOf_84 (shNet g13) (k := 9) rfl (by decide) dX3_moneyOf_51 ?_
    refine A_iload_n X 3 rfl rfl dX3_moneyOf_54 ?_
    obtain ⟨g14, h⟩ := gdD h
    refine A_aald X g14 (shNet_taste g13) dX3_moneyOf_55 ?_
    refine A_iload_n X 0 rfl rfl dX3_moneyOf_56 ?_
    obtain ⟨g15, h⟩ := gdD h
    refine A_iald X g15 (shNet_taste_r g13 g14) dX3_moneyOf_57 ?_
    refine A_isub X dX3_moneyOf_58 ?_
    exact A_ireturn X E h dX3_moneyOf_59
  · replace h := ifT h c3
    refine A_aload_n X 1 rfl rfl dX3_moneyOf_12 ?_
    refine A_getR X fg_X3_moneyOf_22 shC_173 (k := 4) rfl (by decide) dX3_moneyOf_13 ?_
    refine A_iload_n X 2 rfl rfl dX3_moneyOf_16 ?_
    obtain ⟨g16, h⟩ := gdD h
    refine A_iald X g16 shC_177 dX3_moneyOf_17 ?_
    exact A_ireturn X E h dX3_moneyOf_18
abbrev rm_X4_readDeals : Room := { frames := 3, cells := 0, slots := 0, locals := 63 }
theorem in_X4_readDeals_4 : ∀ w ∈ u_ws RX4 TX4 4, w ∈ wsX4_readDeals := fun w h => List.mem_cons_of_mem _ (List.mem_append_left _ (List.mem_append_left _ (List.mem_append_right _ h)))
theorem fg_X4_readDeals_24 : aFl wsX4_readDeals RX4 24 4 2 := ⟨RX4, TX4, 4, rfl, in_X4_readDeals_4, by decide, (List.mem_of_getElem? (i := 3) rfl), rfl⟩
theorem fg_X4_readDeals_20 : aFl wsX4_readDeals RX4 20 4 1 := ⟨RX4, TX4, 4, rfl, in_X4_readDeals_4, by decide, (List.mem_of_getElem? (i := 1) rfl), rfl⟩
theorem in_X4_readDeals_6 : ∀ w ∈ u_ws RX6 TX6 20, w ∈ wsX4_readDeals := fun w h => List.mem_cons_of_mem _ (List.mem_append_left _ (List.mem_append_right _ h))
theorem fg_X4_readDeals_32 : aFl wsX4_readDeals RX4 32 6 16 := ⟨RX6, TX6, 20, rfl, in_X4_readDeals_6, by decide, (List.mem_of_getElem? (i := 2) rfl), rfl⟩
set_option maxRecDepth 100000 in
set_option maxHeartbeats 4000000 in
theorem w_X4_readDeals_117 {x : aC} {r : Int × Hp} {a2 : Nat} (X : aX x cX4_readDeals wsX4_readDeals RX4 7 rm_X4_readDeals) (E : aE x shC (some .int) 0 r) (ha2 : isNet a2) (σ : Hp) (h : F_Img_readDeals_117 a2 σ = some r) : aS x shC 7 117 [] [] σ := by
  unfold F_Img_readDeals_117 at h
  refine A_iconst X dX4_readDeals_117 (z := (-1)) (by decide) ?_
  exact A_ireturn X E h dX4_readDeals_118
set_option maxRecDepth 100000 in
set_option maxHeartbeats 4000000 in
theorem w_X4_readDeals_161 {x : aC} {r : Int × Hp} {k8 : Int × Int × Int × Hp → Option (Int × Hp)} {a2 : Nat} (X : aX x cX4_readDeals wsX4_readDeals RX4 7 rm_X4_readDeals) (E : aE x shC (some .int) 0 r) (hk8 : ∀ (x3 : Int) (x4 : Int) (x5 : Int) (σ : Hp), k8 (x3, x4, x5, σ) = some r → aS x shC 7 8 [(0, vR 180), (1, vR 1), (2, vR a2), (3, vI x3), (4, vI x4), (5, vI x5)] [] σ) (ha2 : isNet a2) (x3 : Int) (x4 : Int) (x5 : Int) (σ : Hp) (h : F_Img_readDeals_161 k8 a2 x3 x4 x5 σ = some r) : aS x shC 7 161 [(0, vR 180), (1, vR 1), (2, vR a2), (3, vI x3), (4, vI x4), (5, vI x5)] [] σ := by
  unfold F_Img_readDeals_161 at h
  refine A_iinc X (L' := fun y5_1 => [(5, vI y5_1), (0, vR 180), (1, vR 1), (2, vR a2), (3, vI x3), (4, vI x4)]) 5 rfl (by decide) (fun _ => rfl) dX4_readDeals_161 (by decide) (fun y5_1 hy => ?_)
  replace h := ltD h y5_1 hy
  clear hy
  refine A_goto X (tgt := 8) (by decide) dX4_readDeals_164 ?_
  refine A_sub [1, 2, 3, 4, 5, 0] rfl (L' := [(0, vR 180), (1, vR 1), (2, vR a2), (3, vI x3), (4, vI x4), (5, vI y5_1)]) rfl ?_
  exact hk8 x3 x4 y5_1 σ h
set_option maxRecDepth 100000 in
set_option maxHeartbeats 4000000 in
theorem w_X4_readDeals_86 {x : aC} {r : Int × Hp} {k8 : Int × Int × Int × Hp → Option (Int × Hp)} {a2 : Nat} (X : aX x cX4_readDeals wsX4_readDeals RX4 7 rm_X4_readDeals) (E : aE x shC (some .int) 0 r) (hk8 : ∀ (x3 : Int) (x4 : Int) (x5 : Int) (σ : Hp), k8 (x3, x4, x5, σ) = some r → aS x shC 7 8 [(0, vR 180), (1, vR 1), (2, vR a2), (3, vI x3), (4, vI x4), (5, vI x5)] [] σ) (ha2 : isNet a2) (x3 : Int) (x4 : Int) (x5 : Int) (t1 : Int) (σ : Hp) (h : F_Img_readDeals_86 k8 a2 x3 x4 x5 t1 σ = some r) : aS x shC 7 86 [(0, vR 180), (1, vR 1), (2, vR a2), (3, vI x3), (4, vI x4), (5, vI x5)] [vI t1] σ := by
  unfold F_Img_readDeals_86 at h
  refine A_istore X (L' := [(6, vI t1), (0, vR 180), (1, vR 1), (2, vR a2), (3, vI x3), (4, vI x4), (5, vI x5)]) (by decide) rfl dX4_readDeals_86 ?_
  refine A_iload X 0 rfl dX4_readDeals_88 ?_
  refine A_if_eq X (tgt := 117) (by decide) dX4_readDeals_90 (fun c2 => ?_) (fun c2 => ?_)
  · replace h := ifT h c2
    refine A_sub [] rfl (L' := []) rfl ?_
    exact w_X4_readDeals_117 (a2 := a2) X E ha2 σ h
  · replace h := ifF h c2
    refine A_aload_n X 1 rfl rfl dX4_readDeals_93 ?_
    refine A_getR X fg_X4_readDeals_24 shC_180 (k := 2) rfl (by decide) dX4_readDeals_94 ?_
    refine A_iload X 6 rfl dX4_readDeals_97 ?_
    obtain ⟨g3, h⟩ := gdD h
    refine A_iald X g3 shC_184 dX4_readDeals_99 ?_
    refine A_ldc X (v := (-1000000)) (List.mem_of_getElem? (i := 4) rfl) dX4_readDeals_100 (z := (-1000000)) (by decide) ?_
    refine A_icmp_lt X (tgt := 117) (by decide) dX4_readDeals_102 (fun c4 => ?_) (fun c4 => ?_)
    · replace h := ifT h c4
      refine A_sub [] rfl (L' := []) rfl ?_
      exact w_X4_readDeals_117 (a2 := a2) X E ha2 σ h
    · replace h := ifF h c4
      refine A_aload_n X 1 rfl rfl dX4_readDeals_105 ?_
      refine A_getR X fg_X4_readDeals_24 shC_180 (k := 2) rfl (by decide) dX4_readDeals_106 ?_
      refine A_iload X 6 rfl dX4_readDeals_109 ?_
      obtain ⟨g5, h⟩ := gdD h
      refine A_iald X g5 shC_184 dX4_readDeals_111 ?_
      refine A_ldc X (v := (1000000)) (List.mem_of_getElem? (i := 5) rfl) dX4_readDeals_112 (z := 1000000) (by decide) ?_
      refine A_icmp_le X (tgt := 119) (by decide) dX4_readDeals_114 (fun c6 => ?_) (fun c6 => ?_)
      · replace h := ifT h c6
        refine A_iload X 5 rfl dX4_readDeals_119 ?_
        refine A_aload_n X 3 rfl rfl dX4_readDeals_121 ?_
        refine A_iload X 6 rfl dX4_readDeals_122 ?_
        obtain ⟨v7, s8, e9, h⟩ := clD h
        refine A_callV_I (na := 1) X (m_X6_pairOf e9) gX4_readDeals_X6_pairOf rfl ⟨rfl, rfl⟩ (by decide +kernel) rfl ⟨Nat.le_of_ble_eq_true rfl, Nat.le_of_ble_eq_true rfl⟩ (shNet ha2) (by decide) rfl rfl (Nat.le_of_ble_eq_true rfl) dX4_readDeals_124 ?_
        refine A_ior X dX4_readDeals_127 ?_
        refine A_istoreN X (L' := fun y4_10 => [(4, vI y4_10), (6, vI t1), (0, vR 180), (1, vR 1), (2, vR a2), (3, vI x3), (5, vI x5)]) (by decide) (fun _ => rfl) dX4_readDeals_128 (fun y4_10 hy => ?_)
        replace h := ltD h y4_10 hy
        clear hy
        refine A_iinc X (L' := fun y3_11 => [(3, vI y3_11), (4, vI y4_10), (6, vI t1), (0, vR 180), (1, vR 1), (2, vR a2), (5, vI x5)]) 5 rfl (by decide) (fun _ => rfl) dX4_readDeals_130 (by decide) (fun y3_11 hy => ?_)
        replace h := ltD h y3_11 hy
        clear hy
        refine A_goto X (tgt := 161) (by decide) dX4_readDeals_133 ?_
        refine A_sub [3, 4, 5, 0, 1, 6] rfl (L' := [(0, vR 180), (1, vR 1), (2, vR a2), (3, vI y3_11), (4, vI y4_10), (5, vI x5)]) rfl ?_
        exact w_X4_readDeals_161 (a2 := a2) X E hk8 ha2 y3_11 y4_10 x5 s8 h
      · replace h := ifF h c6
        refine A_sub [] rfl (L' := []) rfl ?_
        exact w_X4_readDeals_117 (a2 := a2) X E ha2 σ h
set_option maxRecDepth 100000 in
set_option maxHeartbeats 4000000 in
theorem w_X4_readDeals_44 {x : aC} {r : Int × Hp} {k8 : Int × Int × Int × Hp → Option (Int × Hp)} {a2 : Nat} (X : aX x cX4_readDeals wsX4_readDeals RX4 7 rm_X4_readDeals) (E : aE x shC (some .int) 0 r) (hk8 : ∀ (x3 : Int) (x4 : Int) (x5 : Int) (σ : Hp), k8 (x3, x4, x5, σ) = some r → aS x shC 7 8 [(0, vR 180), (1, vR 1), (2, vR a2), (3, vI x3), (4, vI x4), (5, vI x5)] [] σ) (ha2 : isNet a2) (x3 : Int) (x4 : Int) (x5 : Int) (t3 : Int) (t2 : Int) (σ : Hp) (h : F_Img_readDeals_44 k8 a2 x3 x4 x5 t3 t2 σ = some r) : aS x shC 7 44 [(0, vR 180), (1, vR 1), (2, vR a2), (3, vI x3), (4, vI x4), (5, vI x5)] [vI t3, vI t2, vR 183] σ := by
  unfold F_Img_readDeals_44 at h
  obtain ⟨g12, h⟩ := gdD h
  refine A_zast X g12 shC_183 dX4_readDeals_44 (fun s13 hy => ?_)
  replace h := ltD h s13 hy
  clear hy
  refine A_aload_n X 0 rfl rfl dX4_readDeals_45 ?_
  refine A_getR X fg_X4_readDeals_20 shC_180 (k := 1) rfl (by decide) dX4_readDeals_46 ?_
  refine A_iload X 5 rfl dX4_readDeals_49 ?_
  obtain ⟨g14, h⟩ := gdD h
  refine A_zald X g14 shC_183 dX4_readDeals_51 ?_
  refine A_if_eq X (tgt := 136) (by decide) dX4_readDeals_52 (fun c15 => ?_) (fun c15 => ?_)
  · replace h := ifT h c15
    refine A_iload X 5 rfl dX4_readDeals_136 ?_
    refine A_aload_n X 2 rfl rfl dX4_readDeals_138 ?_
    refine A_getI X fg_X4_readDeals_32 (shNet ha2) (k := 16) rfl (by decide) dX4_readDeals_139 ?_
    refine A_icmp_ge X (tgt := 161) (by decide) dX4_readDeals_142 (fun c16 => ?_) (fun c16 => ?_)
    · replace h := ifT h c16
      exact w_X4_readDeals_161 (a2 := a2) X E hk8 ha2 x3 x4 x5 s13 h
    · replace h := ifF h c16
      refine A_aload_n X 1 rfl rfl dX4_readDeals_145 ?_
      refine A_iload_n X 3 rfl rfl dX4_readDeals_146 ?_
      obtain ⟨v17, s18, e19, h⟩ := clD h
      refine A_callV_I (na := 1) X (m_X2_at e19) gX4_readDeals_X2_at rfl ⟨rfl, rfl⟩ (by decide +kernel) rfl ⟨Nat.le_of_ble_eq_true rfl, Nat.le_of_ble_eq_true rfl⟩ shC_1 (by decide) rfl rfl (Nat.le_of_ble_eq_true rfl) dX4_readDeals_147 ?_
      refine A_sipush X dX4_readDeals_150 (z := 255) (by decide) ?_
      refine A_icmp_eq X (tgt := 158) (by decide) dX4_readDeals_153 (fun c20 => ?_) (fun c20 => ?_)
      · replace h := ifT h c20
        refine A_iinc X (L' := fun y3_21 => [(3, vI y3_21), (0, vR 180), (1, vR 1), (2, vR a2), (4, vI x4), (5, vI x5)]) 3 rfl (by decide) (fun _ => rfl) dX4_readDeals_158 (by decide) (fun y3_21 hy => ?_)
        replace h := ltD h y3_21 hy
        clear hy
        refine A_sub [1, 2, 3, 0, 4, 5] rfl (L' := [(0, vR 180), (1, vR 1), (2, vR a2), (3, vI y3_21), (4, vI x4), (5, vI x5)]) rfl ?_
        exact w_X4_readDeals_161 (a2 := a2) X E hk8 ha2 y3_21 x4 x5 s18 h
      · replace h := ifF h c20
        refine A_iconst X dX4_readDeals_156 (z := (-1)) (by decide) ?_
        exact A_ireturn X E h dX4_readDeals_157
  · replace h := ifF h c15
    refine A_aload_n X 0 rfl rfl dX4_readDeals_55 ?_
    refine A_getR X fg_X4_readDeals_24 shC_180 (k := 2) rfl (by decide) dX4_readDeals_56 ?_
    refine A_iload X 5 rfl dX4_readDeals_59 ?_
    refine A_aload_n X 1 rfl rfl dX4_readDeals_61 ?_
    refine A_iload_n X 3 rfl rfl dX4_readDeals_62 ?_
    refine A_iconst X dX4_readDeals_63 (z := 1) (by decide) ?_
    refine A_iadd X dX4_readDeals_64 ?_
    obtain ⟨v22, s23, e24, h⟩ := clD h
    refine A_callV_I (na := 1) X (m_X2_numberAt e24) gX4_readDeals_X2_numberAt rfl ⟨rfl, rfl⟩ (by decide +kernel) rfl ⟨Nat.le_of_ble_eq_true rfl, Nat.le_of_ble_eq_true rfl⟩ shC_1 (by decide) rfl rfl (Nat.le_of_ble_eq_true rfl) dX4_readDeals_65 ?_
    obtain ⟨g25, h⟩ := gdD h
    refine A_iast X g25 shC_184 dX4_readDeals_68 (fun s26 hy => ?_)
    replace h := ltD h s26 hy
    clear hy
    refine A_iload X 4 rfl dX4_readDeals_69 ?_
    refine A_aload_n X 2 rfl rfl dX4_readDeals_71 ?_
    refine A_iload X 5 rfl dX4_readDeals_72 ?_
    obtain ⟨v27, s28, e29, h⟩ := clD h
    refine A_callV_I (na := 1) X (m_X6_pairOf e29) gX4_readDeals_X6_pairOf rfl ⟨rfl, rfl⟩ (by decide +kernel) rfl ⟨Nat.le_of_ble_eq_true rfl, Nat.le_of_ble_eq_true rfl⟩ (shNet ha2) (by decide) rfl rfl (Nat.le_of_ble_eq_true rfl) dX4_readDeals_74 ?_
    refine A_iand X dX4_readDeals_77 ?_
    refine A_if_ne X (tgt := 85) (by decide) dX4_readDeals_78 (fun c30 => ?_) (fun c30 => ?_)
    · replace h := ifF h c30
      refine A_iconst X dX4_readDeals_85 (z := 0) (by decide) ?_
      exact w_X4_readDeals_86 (a2 := a2) X E hk8 ha2 x3 x4 x5 0 s28 h
    · replace h := ifT h c30
      refine A_iconst X dX4_readDeals_81 (z := 1) (by decide) ?_
      refine A_goto X (tgt := 86) (by decide) dX4_readDeals_82 ?_
      exact w_X4_readDeals_86 (a2 := a2) X E hk8 ha2 x3 x4 x5 1 s28 h
set_option maxRecDepth 100000 in
set_option maxHeartbeats 4000000 in
theorem w_X4_readDeals_43 {x : aC} {r : Int × Hp} {k8 : Int × Int × Int × Hp → Option (Int × Hp)} {a2 : Nat} (X : aX x cX4_readDeals wsX4_readDeals RX4 7 rm_X4_readDeals) (E : aE x shC (some .int) 0 r) (hk8 : ∀ (x3 : Int) (x4 : Int) (x5 : Int) (σ : Hp), k8 (x3, x4, x5, σ) = some r → aS x shC 7 8 [(0, vR 180), (1, vR 1), (2, vR a2), (3, vI x3), (4, vI x4), (5, vI x5)] [] σ) (ha2 : isNet a2) (x3 : Int) (x4 : Int) (x5 : Int) (t2 : Int) (σ : Hp) (h : F_Img_readDeals_43 k8 a2 x3 x4 x5 t2 σ = some r) : aS x shC 7 43 [(0, vR 180), (1, vR 1), (2, vR a2), (3, vI x3), (4, vI x4), (5, vI x5)] [vI t2, vR 183] σ := by
  unfold F_Img_readDeals_43 at h
  refine A_iconst X dX4_readDeals_43 (z := 0) (by decide) ?_
  exact w_X4_readDeals_44 (a2 := a2) X E hk8 ha2 x3 x4 x5 0 t2 σ h
set_option maxRecDepth 100000 in
set_option maxHeartbeats 4000000 in
theorem w_X4_readDeals_8_b {x : aC} {r : Int × Hp} {k8 : Int × Int × Int × Hp → Option (Int × Hp)} {a2 : Nat} (X : aX x cX4_readDeals wsX4_readDeals RX4 7 rm_X4_readDeals) (E : aE x shC (some .int) 0 r) (hk8 : ∀ (x3 : Int) (x4 : Int) (x5 : Int) (σ : Hp), k8 (x3, x4, x5, σ) = some r → aS x shC 7 8 [(0, vR 180), (1, vR 1), (2, vR a2), (3, vI x3), (4, vI x4), (5, vI x5)] [] σ) (ha2 : isNet a2) (x3 : Int) (x4 : Int) (x5 : Int) (σ : Hp) (h : F_Img_readDeals_8_b k8 a2 x3 x4 x5 σ = some r) : aS x shC 7 8 [(0, vR 180), (1, vR 1), (2, vR a2), (3, vI x3), (4, vI x4), (5, vI x5)] [] σ := by
  unfold F_Img_readDeals_8_b at h
  refine A_iload X 5 rfl dX4_readDeals_8 ?_
  refine A_bipush X dX4_readDeals_10 (z := 30) (by decide) ?_
  refine A_icmp_ge X (tgt := 167) (by decide) dX4_readDeals_12 (fun c31 => ?_) (fun c31 => ?_)
  · replace h := ifT h c31
    refine A_iload_n X 3 rfl rfl dX4_readDeals_167 ?_
    exact A_ireturn X E h dX4_readDeals_168
  · replace h := ifF h c31
    refine A_aload_n X 0 rfl rfl dX4_readDeals_15 ?_
    refine A_getR X fg_X4_readDeals_20 shC_180 (k := 1) rfl (by decide) dX4_readDeals_16 ?_
    refine A_iload X 5 rfl dX4_readDeals_19 ?_
    refine A_iload X 5 rfl dX4_readDeals_21 ?_
    refine A_aload_n X 2 rfl rfl dX4_readDeals_23 ?_
    refine A_getI X fg_X4_readDeals_32 (shNet ha2) (k := 16) rfl (by decide) dX4_readDeals_24 ?_
    refine A_icmp_ge X (tgt := 43) (by decide) dX4_readDeals_27 (fun c32 => ?_) (fun c32 => ?_)
    · replace h := ifT h c32
      exact w_X4_readDeals_43 (a2 := a2) X E hk8 ha2 x3 x4 x5 x5 σ h
    · replace h := ifF h c32
      refine A_aload_n X 1 rfl rfl dX4_readDeals_30 ?_
      refine A_iload_n X 3 rfl rfl dX4_readDeals_31 ?_
      obtain ⟨v33, s34, e35, h⟩ := clD h
      refine A_callV_I (na := 1) X (m_X2_at e35) gX4_readDeals_X2_at rfl ⟨rfl, rfl⟩ (by decide +kernel) rfl ⟨Nat.le_of_ble_eq_true rfl, Nat.le_of_ble_eq_true rfl⟩ shC_1 (by decide) rfl rfl (Nat.le_of_ble_eq_true rfl) dX4_readDeals_32 ?_
      refine A_iconst X dX4_readDeals_35 (z := 1) (by decide) ?_
      refine A_icmp_ne X (tgt := 43) (by decide) dX4_readDeals_36 (fun c36 => ?_) (fun c36 => ?_)
      · replace h := ifF h c36
        exact w_X4_readDeals_43 (a2 := a2) X E hk8 ha2 x3 x4 x5 x5 s34 h
      · replace h := ifT h c36
        refine A_iconst X dX4_readDeals_39 (z := 1) (by decide) ?_
        refine A_goto X (tgt := 44) (by decide) dX4_readDeals_40 ?_
        exact w_X4_readDeals_44 (a2 := a2) X E hk8 ha2 x3 x4 x5 1 x5 s34 h
set_option maxRecDepth 100000 in
set_option maxHeartbeats 4000000 in
theorem w_X4_readDeals_8 {x : aC} {r : Int × Hp} {a2 : Nat} (X : aX x cX4_readDeals wsX4_readDeals RX4 7 rm_X4_readDeals) (E : aE x shC (some .int) 0 r) (ha2 : isNet a2) : ∀ (n : Nat) (x3 : Int) (x4 : Int) (x5 : Int) (σ : Hp) (h : F_Img_readDeals_8 a2 n (x3, x4, x5, σ) = some r), aS x shC 7 8 [(0, vR 180), (1, vR 1), (2, vR a2), (3, vI x3), (4, vI x4), (5, vI x5)] [] σ := by
  intro n
  induction n with
  | zero => intro x3 x4 x5 σ h; cases h
  | succ n ih => intro x3 x4 x5 σ h; exact w_X4_readDeals_8_b (a2 := a2) (k8 := F_Img_readDeals_8 a2 n) X E ih ha2 x3 x4 x5 σ h
set_option maxRecDepth 100000 in
set_option maxHeartbeats 4000000 in
theorem m_X4_readDeals {l : Launch} {g : aG} {a2 : Nat} {σ : Hp} {r : Int × Hp} (h : F_Img_readDeals a2 σ = some r) : aMet l g shC yX4_readDeals wsX4_readDeals rm_X4_readDeals [vR 180, vR 1, vR a2] σ 0 r := by
  unfold F_Img_readDeals at h
  obtain ⟨ha2, h⟩ := gdD h
  refine aMet_of (bytes := cX4_readDeals) (maxL := 7) (ret := (some .int)) (by decide +kernel) rfl (Nat.le_of_ble_eq_true rfl) ⟨rfl, rfl⟩ (fun x e1 e2 X E => ?_)
  subst e1; subst e2
  have X : aX x cX4_readDeals wsX4_readDeals RX4 7 rm_X4_readDeals := X
  show aS x shC 7 0 [(0, vR 180), (1, vR 1), (2, vR a2)] [] σ
  refine A_iconst X dX4_readDeals_0 (z := 3) (by decide) ?_
  refine A_istore_n X (L' := [(3, vI 3), (0, vR 180), (1, vR 1), (2, vR a2)]) rfl (by decide) rfl dX4_readDeals_1 ?_
  refine A_iconst X dX4_readDeals_2 (z := 0) (by decide) ?_
  refine A_istore X (L' := [(4, vI 0), (3, vI 3), (0, vR 180), (1, vR 1), (2, vR a2)]) (by decide) rfl dX4_readDeals_3 ?_
  refine A_iconst X dX4_readDeals_5 (z := 0) (by decide) ?_
  refine A_istore X (L' := [(5, vI 0), (4, vI 0), (3, vI 3), (0, vR 180), (1, vR 1), (2, vR a2)]) (by decide) rfl dX4_readDeals_6 ?_
  refine A_sub [3, 4, 5, 2, 1, 0] rfl (L' := [(0, vR 180), (1, vR 1), (2, vR a2), (3, vI 3), (4, vI 0), (5, vI 0)]) rfl ?_
  exact w_X4_readDeals_8 (a2 := a2) X E ha2 FU 3 0 0 σ h
abbrev rm_X4_read : Room := { frames := 4, cells := 0, slots := 0, locals := 89 }
theorem in_X4_read_6 : ∀ w ∈ u_ws RX6 TX6 20, w ∈ wsX4_read := fun w h => List.mem_cons_of_mem _ (List.mem_append_left _ (List.mem_append_left _ (List.mem_append_right _ h)))
theorem fg_X4_read_32 : aFl wsX4_read RX4 32 6 16 := ⟨RX6, TX6, 20, rfl, in_X4_read_6, by decide, (List.mem_of_getElem? (i := 1) rfl), rfl⟩
theorem in_X4_read_4 : ∀ w ∈ u_ws RX4 TX4 4, w ∈ wsX4_read := fun w h => List.mem_cons_of_mem _ (List.mem_append_left _ (List.mem_append_right _ h))
theorem fp_X4_read_65 : aFp wsX4_read RX4 65 4 3 .int := ⟨RX4, TX4, 4, tyX4, rfl, in_X4_read_4, by decide, (List.mem_of_getElem? (i := 2) rfl), rfl, tyX4_ok, nmX4, rfl, rfl⟩
theorem fg_X4_read_65 : aFl wsX4_read RX4 65 4 3 := ⟨RX4, TX4, 4, rfl, in_X4_read_4, by decide, (List.mem_of_getElem? (i := 2) rfl), rfl⟩
set_option maxRecDepth 100000 in
set_option maxHeartbeats 4000000 in
theorem w_X4_read_20 {x : aC} {r : Int × Hp} {a2 : Nat} (X : aX x cX4_read wsX4_read RX4 4 rm_X4_read) (E : aE x shC (some .boolean) 0 r) (ha2 : isNet a2) (σ : Hp) (h : F_Img_read_20 a2 σ = some r) : aS x shC 4 20 [] [] σ := by
  unfold F_Img_read_20 at h
  refine A_iconst X dX4_read_20 (z := 0) (by decide) ?_
  exact A_zreturn X (Or.inl rfl) E h dX4_read_21
set_option maxRecDepth 100000 in
set_option maxHeartbeats 4000000 in
theorem w_X4_read_81 {x : aC} {r : Int × Hp} {a2 : Nat} (X : aX x cX4_read wsX4_read RX4 4 rm_X4_read) (E : aE x shC (some .boolean) 0 r) (ha2 : isNet a2) (t1 : Int) (σ : Hp) (h : F_Img_read_81 a2 t1 σ = some r) : aS x shC 4 81 [] [vI t1] σ := by
  unfold F_Img_read_81 at h
  obtain ⟨g1, h⟩ := gdD h
  exact A_zreturn X g1 E h dX4_read_81
set_option maxRecDepth 100000 in
set_option maxHeartbeats 4000000 in
theorem w_X4_read_80 {x : aC} {r : Int × Hp} {a2 : Nat} (X : aX x cX4_read wsX4_read RX4 4 rm_X4_read) (E : aE x shC (some .boolean) 0 r) (ha2 : isNet a2) (σ : Hp) (h : F_Img_read_80 a2 σ = some r) : aS x shC 4 80 [] [] σ := by
  unfold F_Img_read_80 at h
  refine A_iconst X dX4_read_80 (z := 0) (by decide) ?_
  exact w_X4_read_81 (a2 := a2) X E ha2 0 σ h
set_option maxRecDepth 100000 in
set_option maxHeartbeats 4000000 in
theorem m_X4_read {l : Launch} {g : aG} {a2 : Nat} {σ : Hp} {r : Int × Hp} (h : F_Img_read a2 σ = some r) : aMet l g shC yX4_read wsX4_read rm_X4_read [vR 180, vR 1, vR a2] σ 0 r := by
  unfold F_Img_read at h
  obtain ⟨ha2, h⟩ := gdD h
  refine aMet_of (bytes := cX4_read) (maxL := 4) (ret := (some .boolean)) (by decide +kernel) rfl (Nat.le_of_ble_eq_true rfl) ⟨rfl, rfl⟩ (fun x e1 e2 X E => ?_)
  subst e1; subst e2
  have X : aX x cX4_read wsX4_read RX4 4 rm_X4_read := X
  show aS x shC 4 0 [(0, vR 180), (1, vR 1), (2, vR a2)] [] σ
  refine A_aload_n X 1 rfl rfl dX4_read_0 ?_
  refine A_iconst X dX4_read_1 (z := 0) (by decide) ?_
  obtain ⟨v2, s3, e4, h⟩ := clD h
  refine A_callV_I (na := 1) X (m_X2_at e4) gX4_read_X2_at rfl ⟨rfl, rfl⟩ (by decide +kernel) rfl ⟨Nat.le_of_ble_eq_true rfl, Nat.le_of_ble_eq_true rfl⟩ shC_1 (by decide) rfl rfl (Nat.le_of_ble_eq_true rfl) dX4_read_2 ?_
  refine A_aload_n X 2 rfl rfl dX4_read_5 ?_
  refine A_getI X fg_X4_read_32 (shNet ha2) (k := 16) rfl (by decide) dX4_read_6 ?_
  refine A_icmp_ne X (tgt := 20) (by decide) dX4_read_9 (fun c5 => ?_) (fun c5 => ?_)
  · replace h := ifF h c5
    refine A_sub [] rfl (L' := []) rfl ?_
    exact w_X4_read_20 (a2 := a2) X E ha2 s3 h
  · replace h := ifT h c5
    refine A_aload_n X 1 rfl rfl dX4_read_12 ?_
    obtain ⟨v6, s7, e8, h⟩ := clD h
    refine A_callV_I (na := 0) X (m_X2_size e8) gX4_read_X2_size rfl ⟨rfl, rfl⟩ (by decide +kernel) rfl ⟨Nat.le_of_ble_eq_true rfl, Nat.le_of_ble_eq_true rfl⟩ shC_1 (by decide) rfl rfl (Nat.le_of_ble_eq_true rfl) dX4_read_13 ?_
    refine A_iconst X dX4_read_16 (z := 5) (by decide) ?_
    refine A_icmp_ge X (tgt := 22) (by decide) dX4_read_17 (fun c9 => ?_) (fun c9 => ?_)
    · replace h := ifT h c9
      refine A_aload_n X 0 rfl rfl dX4_read_22 ?_
      refine A_aload_n X 1 rfl rfl dX4_read_23 ?_
      refine A_iconst X dX4_read_24 (z := 1) (by decide) ?_
      obtain ⟨v10, s11, e12, h⟩ := clD h
      refine A_callV_I (na := 1) X (m_X2_twoAt e12) gX4_read_X2_twoAt rfl ⟨rfl, rfl⟩ (by decide +kernel) rfl ⟨Nat.le_of_ble_eq_true rfl, Nat.le_of_ble_eq_true rfl⟩ shC_1 (by decide) rfl rfl (Nat.le_of_ble_eq_true rfl) dX4_read_25 ?_
      refine A_putI X fp_X4_read_65 shC_180 (k := 3) rfl (by decide) dX4_read_28 (fun s13 hy => ?_)
      replace h := ltD h s13 hy
      clear hy
      refine A_aload_n X 0 rfl rfl dX4_read_31 ?_
      refine A_aload_n X 1 rfl rfl dX4_read_32 ?_
      refine A_aload_n X 2 rfl rfl dX4_read_33 ?_
      obtain ⟨v14, s15, e16, h⟩ := clD h
      refine A_callV_I (na := 2) X (m_X4_readDeals e16) gX4_read_X4_readDeals rfl ⟨rfl, rfl⟩ (by decide +kernel) rfl ⟨Nat.le_of_ble_eq_true rfl, Nat.le_of_ble_eq_true rfl⟩ shC_180 (by decide) rfl rfl (Nat.le_of_ble_eq_true rfl) dX4_read_34 ?_
      refine A_istore_n X (L' := [(3, vI v14), (0, vR 180), (1, vR 1), (2, vR a2)]) rfl (by decide) rfl dX4_read_37 ?_
      refine A_aload_n X 1 rfl rfl dX4_read_38 ?_
      refine A_getI X fg_X4_read_65 shC_180 (k := 3) rfl (by decide) dX4_read_39 ?_
      refine A_sipush X dX4_read_42 (z := 999) (by decide) ?_
      refine A_icmp_gt X (tgt := 80) (by decide) dX4_read_45 (fun c17 => ?_) (fun c17 => ?_)
      · replace h := ifT h c17
        refine A_sub [] rfl (L' := []) rfl ?_
        exact w_X4_read_80 (a2 := a2) X E ha2 s15 h
      · replace h := ifF h c17
        refine A_iload_n X 0 rfl rfl dX4_read_48 ?_
        refine A_iconst X dX4_read_49 (z := (-1)) (by decide) ?_
        refine A_icmp_eq X (tgt := 80) (by decide) dX4_read_50 (fun c18 => ?_) (fun c18 => ?_)
        · replace h := ifT h c18
          refine A_sub [] rfl (L' := []) rfl ?_
          exact w_X4_read_80 (a2 := a2) X E ha2 s15 h
        · replace h := ifF h c18
          refine A_aload_n X 2 rfl rfl dX4_read_53 ?_
          obtain ⟨v19, s20, e21, h⟩ := clD h
          refine A_callV_I (na := 0) X (m_X2_size e21) gX4_read_X2_size rfl ⟨rfl, rfl⟩ (by decide +kernel) rfl ⟨Nat.le_of_ble_eq_true rfl, Nat.le_of_ble_eq_true rfl⟩ shC_1 (by decide) rfl rfl (Nat.le_of_ble_eq_true rfl) dX4_read_54 ?_
          refine A_iload_n X 0 rfl rfl dX4_read_57 ?_
          refine A_iconst X dX4_read_58 (z := 2) (by decide) ?_
          refine A_iadd X dX4_read_59 ?_
          refine A_icmp_ne X (tgt := 80) (by decide) dX4_read_60 (fun c22 => ?_) (fun c22 => ?_)
          · replace h := ifF h c22
            refine A_sub [] rfl (L' := []) rfl ?_
            exact w_X4_read_80 (a2 := a2) X E ha2 s20 h
          · replace h := ifT h c22
            refine A_aload_n X 2 rfl rfl dX4_read_63 ?_
            refine A_iload_n X 0 rfl rfl dX4_read_64 ?_
            obtain ⟨v23, s24, e25, h⟩ := clD h
            refine A_callV_I (na := 1) X (m_X2_twoAt e25) gX4_read_X2_twoAt rfl ⟨rfl, rfl⟩ (by decide +kernel) rfl ⟨Nat.le_of_ble_eq_true rfl, Nat.le_of_ble_eq_true rfl⟩ shC_1 (by decide) rfl rfl (Nat.le_of_ble_eq_true rfl) dX4_read_65 ?_
            refine A_aload_n X 2 rfl rfl dX4_read_68 ?_
            refine A_iload_n X 0 rfl rfl dX4_read_69 ?_
            obtain ⟨v26, s27, e28, h⟩ := clD h
            refine A_callV_I (na := 1) X (m_X2_checkOf e28) gX4_read_X2_checkOf rfl ⟨rfl, rfl⟩ (by decide +kernel) rfl ⟨Nat.le_of_ble_eq_true rfl, Nat.le_of_ble_eq_true rfl⟩ shC_1 (by decide) rfl rfl (Nat.le_of_ble_eq_true rfl) dX4_read_70 ?_
            refine A_icmp_ne X (tgt := 80) (by decide) dX4_read_73 (fun c29 => ?_) (fun c29 => ?_)
            · replace h := ifF h c29
              refine A_sub [] rfl (L' := []) rfl ?_
              exact w_X4_read_80 (a2 := a2) X E ha2 s27 h
            · replace h := ifT h c29
              refine A_iconst X dX4_read_76 (z := 1) (by decide) ?_
              refine A_goto X (tgt := 81) (by decide) dX4_read_77 ?_
              refine A_sub [] rfl (L' := []) rfl ?_
              exact w_X4_read_81 (a2 := a2) X E ha2 1 s27 h
    · replace h := ifF h c9
      refine A_sub [] rfl (L' := []) rfl ?_
      exact w_X4_read_20 (a2 := a2) X E ha2 s7 h
abbrev rm_X3_become : Room := { frames := 1, cells := 0, slots := 0, locals := 22 }
set_option maxRecDepth 100000 in
set_option maxHeartbeats 4000000 in
theorem w_X3_become_26 {x : aC} {r : Int × Hp} {k6 : Int × Hp → Option (Int × Hp)} (X : aX x cX3_become wsX3_become RX3 4 rm_X3_become) (E : aE x shC none 3 r) (hk6 : ∀ (x3 : Int) (σ : Hp), k6 (x3, σ) = some r → aS x shC 4 6 [(0, vR 173), (1, vR 183), (2, vR 184), (3, vI x3)] [] σ) (x3 : Int) (σ : Hp) (h : F_Deals_become_26 k6 x3 σ = some r) : aS x shC 4 26 [(0, vR 173), (1, vR 183), (2, vR 184), (3, vI x3)] [] σ := by
  unfold F_Deals_become_26 at h
  refine A_iinc X (L' := fun y3_1 => [(3, vI y3_1), (0, vR 173), (1, vR 183), (2, vR 184)]) 3 rfl (by decide) (fun _ => rfl) dX3_become_26 (by decide) (fun y3_1 hy => ?_)
  replace h := ltD h y3_1 hy
  clear hy
  refine A_goto X (tgt := 6) (by decide) dX3_become_29 ?_
  refine A_sub [1, 2, 3, 0] rfl (L' := [(0, vR 173), (1, vR 183), (2, vR 184), (3, vI y3_1)]) rfl ?_
  exact hk6 y3_1 σ h
set_option maxRecDepth 100000 in
set_option maxHeartbeats 4000000 in
theorem w_X3_become_6_b {x : aC} {r : Int × Hp} {k6 : Int × Hp → Option (Int × Hp)} (X : aX x cX3_become wsX3_become RX3 4 rm_X3_become) (E : aE x shC none 3 r) (hk6 : ∀ (x3 : Int) (σ : Hp), k6 (x3, σ) = some r → aS x shC 4 6 [(0, vR 173), (1, vR 183), (2, vR 184), (3, vI x3)] [] σ) (x3 : Int) (σ : Hp) (h : F_Deals_become_6_b k6 x3 σ = some r) : aS x shC 4 6 [(0, vR 173), (1, vR 183), (2, vR 184), (3, vI x3)] [] σ := by
  unfold F_Deals_become_6_b at h
  refine A_iload_n X 3 rfl rfl dX3_become_6 ?_
  refine A_bipush X dX3_become_7 (z := 30) (by decide) ?_
  refine A_icmp_ge X (tgt := 32) (by decide) dX3_become_9 (fun c2 => ?_) (fun c2 => ?_)
  · replace h := ifT h c2
    exact A_return X E h dX3_become_32
  · replace h := ifF h c2
    refine A_aload_n X 1 rfl rfl dX3_become_12 ?_
    refine A_iload_n X 3 rfl rfl dX3_become_13 ?_
    obtain ⟨g3, h⟩ := gdD h
    refine A_zald X g3 shC_183 dX3_become_14 ?_
    refine A_if_eq X (tgt := 26) (by decide) dX3_become_15 (fun c4 => ?_) (fun c4 => ?_)
    · replace h := ifT h c4
      exact w_X3_become_26 X E hk6 x3 σ h
    · replace h := ifF h c4
      refine A_aload_n X 0 rfl rfl dX3_become_18 ?_
      refine A_iload_n X 3 rfl rfl dX3_become_19 ?_
      refine A_aload_n X 2 rfl rfl dX3_become_20 ?_
      refine A_iload_n X 3 rfl rfl dX3_become_21 ?_
      obtain ⟨g5, h⟩ := gdD h
      refine A_iald X g5 shC_184 dX3_become_22 ?_
      obtain ⟨v6, s7, e8, h⟩ := clD h
      refine A_callV_V (na := 2) X (m_X3_put e8) gX3_become_X3_put rfl ⟨rfl, rfl⟩ (by decide +kernel) rfl ⟨Nat.le_of_ble_eq_true rfl, Nat.le_of_ble_eq_true rfl⟩ shC_173 (by decide) rfl rfl (Nat.le_of_ble_eq_true rfl) dX3_become_23 ?_
      exact w_X3_become_26 X E hk6 x3 s7 h
set_option maxRecDepth 100000 in
set_option maxHeartbeats 4000000 in
theorem w_X3_become_6 {x : aC} {r : Int × Hp} (X : aX x cX3_become wsX3_become RX3 4 rm_X3_become) (E : aE x shC none 3 r) : ∀ (n : Nat) (x3 : Int) (σ : Hp) (h : F_Deals_become_6 n (x3, σ) = some r), aS x shC 4 6 [(0, vR 173), (1, vR 183), (2, vR 184), (3, vI x3)] [] σ := by
  intro n
  induction n with
  | zero => intro x3 σ h; cases h
  | succ n ih => intro x3 σ h; exact w_X3_become_6_b (k6 := F_Deals_become_6 n) X E ih x3 σ h
set_option maxRecDepth 100000 in
set_option maxHeartbeats 4000000 in
theorem m_X3_become {l : Launch} {g : aG} {σ : Hp} {r : Int × Hp} (h : F_Deals_become σ = some r) : aMet l g shC yX3_become wsX3_become rm_X3_become [vR 173, vR 183, vR 184] σ 3 r := by
  unfold F_Deals_become at h
  refine aMet_of (bytes := cX3_become) (maxL := 4) (ret := none) (by decide +kernel) rfl (Nat.le_of_ble_eq_true rfl) ⟨rfl, rfl⟩ (fun x e1 e2 X E => ?_)
  subst e1; subst e2
  have X : aX x cX3_become wsX3_become RX3 4 rm_X3_become := X
  show aS x shC 4 0 [(0, vR 173), (1, vR 183), (2, vR 184)] [] σ
  refine A_aload_n X 0 rfl rfl dX3_become_0 ?_
  obtain ⟨v9, s10, e11, h⟩ := clD h
  refine A_callV_V (na := 0) X (m_X3_clear e11) gX3_become_X3_clear rfl ⟨rfl, rfl⟩ (by decide +kernel) rfl ⟨Nat.le_of_ble_eq_true rfl, Nat.le_of_ble_eq_true rfl⟩ shC_173 (by decide) rfl rfl (Nat.le_of_ble_eq_true rfl) dX3_become_1 ?_
  refine A_iconst X dX3_become_4 (z := 0) (by decide) ?_
  refine A_istore_n X (L' := [(3, vI 0), (0, vR 173), (1, vR 183), (2, vR 184)]) rfl (by decide) rfl dX3_become_5 ?_
  refine A_sub [1, 2, 3, 0] rfl (L' := [(0, vR 173), (1, vR 183), (2, vR 184), (3, vI 0)]) rfl ?_
  exact w_X3_become_6 X E FU 0 s10 h
abbrev rm_X7_aheadEnd : Room := { frames := 3, cells := 0, slots := 0, locals := 67 }
theorem in_X7_aheadEnd_7 : ∀ w ∈ u_ws RX7 TX7 11, w ∈ wsX7_aheadEnd := fun w h => List.mem_cons_of_mem _ (List.mem_append_left _ (List.mem_append_left _ (List.mem_append_right _ h)))
theorem fg_X7_aheadEnd_42 : aFl wsX7_aheadEnd RX7 42 7 7 := ⟨RX7, TX7, 11, rfl, in_X7_aheadEnd_7, by decide, (List.mem_of_getElem? (i := 2) rfl), rfl⟩
theorem in_X7_aheadEnd_6 : ∀ w ∈ u_ws RX6 TX6 20, w ∈ wsX7_aheadEnd := fun w h => List.mem_cons_of_mem _ (List.mem_append_left _ (List.mem_append_right _ h))
theorem fg_X7_aheadEnd_147 : aFl wsX7_aheadEnd RX7 147 6 1 := ⟨RX6, TX6, 20, rfl, in_X7_aheadEnd_6, by decide, (List.mem_of_getElem? (i := 3) rfl), rfl⟩
theorem fg_X7_aheadEnd_12 : aFl wsX7_aheadEnd RX7 12 7 2 := ⟨RX7, TX7, 11, rfl, in_X7_aheadEnd_7, by decide, (List.mem_of_getElem? (i := 1) rfl), rfl⟩
set_option maxRecDepth 100000 in
set_option maxHeartbeats 4000000 in
theorem w_X7_aheadEnd_30 {x : aC} {r : Int × Hp} {this : Nat} {a1 : Int} {a2 : Int} {a3 : Int} (X : aX x cX7_aheadEnd wsX7_aheadEnd RX7 5 rm_X7_aheadEnd) (E : aE x shC (some .int) 0 r) (ht : isPlan this) (t1 : Int) (σ : Hp) (h : F_Plan_aheadEnd_30 this a1 a2 a3 t1 σ = some r) : aS x shC 5 30 [(0, vR this), (1, vI a1), (2, vI a2)] [vI t1] σ := by
  unfold F_Plan_aheadEnd_30 at h
  refine A_istore X (L' := [(4, vI t1), (0, vR this), (1, vI a1), (2, vI a2)]) (by decide) rfl dX7_aheadEnd_30 ?_
  refine A_iconst X dX7_aheadEnd_32 (z := 2) (by decide) ?_
  refine A_aload_n X 1 rfl rfl dX7_aheadEnd_33 ?_
  refine A_getV X fg_X7_aheadEnd_42 (shPlan ht) (k := 7) rfl (by decide) dX7_aheadEnd_34 ?_
  obtain ⟨q1, hy⟩ : ∃ y, y = (σ this 7).toNat := ⟨_, rfl⟩
  replace h := ltD h q1 hy
  rw [← hy]
  clear hy
  obtain ⟨g2, h⟩ := gdD h
  refine A_getR X fg_X7_aheadEnd_147 (shNet g2) (k := 1) rfl (by decide) dX7_aheadEnd_37 ?_
  refine A_iload_n X 2 rfl rfl dX7_aheadEnd_40 ?_
  obtain ⟨g3, h⟩ := gdD h
  refine A_iald X g3 (shNet_alone g2) dX7_aheadEnd_41 ?_
  refine A_aload_n X 1 rfl rfl dX7_aheadEnd_42 ?_
  refine A_getV X fg_X7_aheadEnd_42 (shPlan ht) (k := 7) rfl (by decide) dX7_aheadEnd_43 ?_
  obtain ⟨q4, hy⟩ : ∃ y, y = (σ this 7).toNat := ⟨_, rfl⟩
  replace h := ltD h q4 hy
  rw [← hy]
  clear hy
  obtain ⟨g5, h⟩ := gdD h
  refine A_getR X fg_X7_aheadEnd_147 (shNet g5) (k := 1) rfl (by decide) dX7_aheadEnd_46 ?_
  refine A_iload_n X 3 rfl rfl dX7_aheadEnd_49 ?_
  obtain ⟨g6, h⟩ := gdD h
  refine A_iald X g6 (shNet_alone g5) dX7_aheadEnd_50 ?_
  refine A_isub X dX7_aheadEnd_51 ?_
  refine A_imul X dX7_aheadEnd_52 ?_
  refine A_iload X 0 rfl dX7_aheadEnd_53 ?_
  refine A_iadd X dX7_aheadEnd_55 ?_
  exact A_ireturn X E h dX7_aheadEnd_56
set_option maxRecDepth 100000 in
set_option maxHeartbeats 4000000 in
theorem m_X7_aheadEnd {l : Launch} {g : aG} {this : Nat} {a1 : Int} {a2 : Int} {a3 : Int} {σ : Hp} {r : Int × Hp} (h : F_Plan_aheadEnd this a1 a2 a3 σ = some r) : aMet l g shC yX7_aheadEnd wsX7_aheadEnd rm_X7_aheadEnd [vR this, vI a1, vI a2, vI a3] σ 0 r := by
  unfold F_Plan_aheadEnd at h
  obtain ⟨ht, h⟩ := gdD h
  refine aMet_of (bytes := cX7_aheadEnd) (maxL := 5) (ret := (some .int)) (by decide +kernel) rfl (Nat.le_of_ble_eq_true rfl) ⟨rfl, rfl⟩ (fun x e1 e2 X E => ?_)
  subst e1; subst e2
  have X : aX x cX7_aheadEnd wsX7_aheadEnd RX7 5 rm_X7_aheadEnd := X
  show aS x shC 5 0 [(0, vR this), (1, vI a1), (2, vI a2), (3, vI a3)] [] σ
  refine A_aload_n X 0 rfl rfl dX7_aheadEnd_0 ?_
  obtain ⟨v7, s8, e9, h⟩ := clD h
  refine A_callV_V (na := 0) X (m_X7_freshBounds e9) gX7_aheadEnd_X7_freshBounds rfl ⟨rfl, rfl⟩ (by decide +kernel) rfl ⟨Nat.le_of_ble_eq_true rfl, Nat.le_of_ble_eq_true rfl⟩ (shPlan ht) (by decide) rfl rfl (Nat.le_of_ble_eq_true rfl) dX7_aheadEnd_1 ?_
  refine A_iload_n X 3 rfl rfl dX7_aheadEnd_4 ?_
  refine A_if_eq X (tgt := 20) (by decide) dX7_aheadEnd_5 (fun c10 => ?_) (fun c10 => ?_)
  · replace h := ifT h c10
    refine A_aload_n X 0 rfl rfl dX7_aheadEnd_20 ?_
    refine A_getR X fg_X7_aheadEnd_12 (shPlan ht) (k := 2) rfl (by decide) dX7_aheadEnd_21 ?_
    refine A_iload_n X 2 rfl rfl dX7_aheadEnd_24 ?_
    refine A_iload_n X 1 rfl rfl dX7_aheadEnd_25 ?_
    obtain ⟨v11, s12, e13, h⟩ := clD h
    refine A_callV_I (na := 2) X (m_X1_twiceMostAhead e13) gX7_aheadEnd_X1_twiceMostAhead rfl ⟨rfl, rfl⟩ (by decide +kernel) rfl ⟨Nat.le_of_ble_eq_true rfl, Nat.le_of_ble_eq_true rfl⟩ (shBounds (isPlan_bounds ht)) (by decide) rfl rfl (Nat.le_of_ble_eq_true rfl) dX7_aheadEnd_26 ?_
    refine A_ineg X dX7_aheadEnd_29 ?_
    refine A_sub [0, 1, 2] rfl (L' := [(0, vR this), (1, vI a1), (2, vI a2)]) rfl ?_
    exact w_X7_aheadEnd_30 (this := this) (a1 := a1) (a2 := a2) (a3 := a3) X E ht (ineg v11) s12 h
  · replace h := ifF h c10
    refine A_aload_n X 0 rfl rfl dX7_aheadEnd_8 ?_
    refine A_getR X fg_X7_aheadEnd_12 (shPlan ht) (k := 2) rfl (by decide) dX7_aheadEnd_9 ?_
    refine A_iload_n X 1 rfl rfl dX7_aheadEnd_12 ?_
    refine A_iload_n X 2 rfl rfl dX7_aheadEnd_13 ?_
    obtain ⟨v14, s15, e16, h⟩ := clD h
    refine A_callV_I (na := 2) X (m_X1_twiceMostAhead e16) gX7_aheadEnd_X1_twiceMostAhead rfl ⟨rfl, rfl⟩ (by decide +kernel) rfl ⟨Nat.le_of_ble_eq_true rfl, Nat.le_of_ble_eq_true rfl⟩ (shBounds (isPlan_bounds ht)) (by decide) rfl rfl (Nat.le_of_ble_eq_true rfl) dX7_aheadEnd_14 ?_
    refine A_goto X (tgt := 30) (by decide) dX7_aheadEnd_17 ?_
    refine A_sub [0, 1, 2] rfl (L' := [(0, vR this), (1, vI a1), (2, vI a2)]) rfl ?_
    exact w_X7_aheadEnd_30 (this := this) (a1 := a1) (a2 := a2) (a3 := a3) X E ht v14 s15 h
abbrev rm_X7_bothEnd : Room := { frames := 3, cells := 0, slots := 0, locals := 67 }
theorem in_X7_bothEnd_7 : ∀ w ∈ u_ws RX7 TX7 11, w ∈ wsX7_bothEnd := fun w h => List.mem_cons_of_mem _ (List.mem_append_left _ (List.mem_append_left _ (List.mem_append_right _ h)))
theorem fg_X7_bothEnd_42 : aFl wsX7_bothEnd RX7 42 7 7 := ⟨RX7, TX7, 11, rfl, in_X7_bothEnd_7, by decide, (List.mem_of_getElem? (i := 2) rfl), rfl⟩
theorem in_X7_bothEnd_6 : ∀ w ∈ u_ws RX6 TX6 20, w ∈ wsX7_bothEnd := fun w h => List.mem_cons_of_mem _ (List.mem_append_left _ (List.mem_append_right _ h))
theorem fg_X7_bothEnd_147 : aFl wsX7_bothEnd RX7 147 6 1 := ⟨RX6, TX6, 20, rfl, in_X7_bothEnd_6, by decide, (List.mem_of_getElem? (i := 3) rfl), rfl⟩
theorem fg_X7_bothEnd_12 : aFl wsX7_bothEnd RX7 12 7 2 := ⟨RX7, TX7, 11, rfl, in_X7_bothEnd_7, by decide, (List.mem_of_getElem? (i := 1) rfl), rfl⟩
set_option maxRecDepth 100000 in
set_option maxHeartbeats 4000000 in
theorem w_X7_bothEnd_29 {x : aC} {r : Int × Hp} {this : Nat} {a1 : Int} {a2 : Int} {a3 : Int} (X : aX x cX7_bothEnd wsX7_bothEnd RX7 5 rm_X7_bothEnd) (E : aE x shC (some .int) 0 r) (ht : isPlan this) (t1 : Int) (σ : Hp) (h : F_Plan_bothEnd_29 this a1 a2 a3 t1 σ = some r) : aS x shC 5 29 [(0, vR this), (1, vI a1), (2, vI a2)] [vI t1] σ := by
  unfold F_Plan_bothEnd_29 at h
  refine A_istore X (L' := [(4, vI t1), (0, vR this), (1, vI a1), (2, vI a2)]) (by decide) rfl dX7_bothEnd_29 ?_
  refine A_iconst X dX7_bothEnd_31 (z := 2) (by decide) ?_
  refine A_aload_n X 1 rfl rfl dX7_bothEnd_32 ?_
  refine A_getV X fg_X7_bothEnd_42 (shPlan ht) (k := 7) rfl (by decide) dX7_bothEnd_33 ?_
  obtain ⟨q1, hy⟩ : ∃ y, y = (σ this 7).toNat := ⟨_, rfl⟩
  replace h := ltD h q1 hy
  rw [← hy]
  clear hy
  obtain ⟨g2, h⟩ := gdD h
  refine A_getR X fg_X7_bothEnd_147 (shNet g2) (k := 1) rfl (by decide) dX7_bothEnd_36 ?_
  refine A_iload_n X 2 rfl rfl dX7_bothEnd_39 ?_
  obtain ⟨g3, h⟩ := gdD h
  refine A_iald X g3 (shNet_alone g2) dX7_bothEnd_40 ?_
  refine A_aload_n X 1 rfl rfl dX7_bothEnd_41 ?_
  refine A_getV X fg_X7_bothEnd_42 (shPlan ht) (k := 7) rfl (by decide) dX7_bothEnd_42 ?_
  obtain ⟨q4, hy⟩ : ∃ y, y = (σ this 7).toNat := ⟨_, rfl⟩
  replace h := ltD h q4 hy
  rw [← hy]
  clear hy
  obtain ⟨g5, h⟩ := gdD h
  refine A_getR X fg_X7_bothEnd_147 (shNet g5) (k := 1) rfl (by decide) dX7_bothEnd_45 ?_
  refine A_iload_n X 3 rfl rfl dX7_bothEnd_48 ?_
  obtain ⟨g6, h⟩ := gdD h
  refine A_iald X g6 (shNet_alone g5) dX7_bothEnd_49 ?_
  refine A_iadd X dX7_bothEnd_50 ?_
  refine A_imul X dX7_bothEnd_51 ?_
  refine A_iload X 0 rfl dX7_bothEnd_52 ?_
  refine A_iadd X dX7_bothEnd_54 ?_
  exact A_ireturn X E h dX7_bothEnd_55
set_option maxRecDepth 100000 in
set_option maxHeartbeats 4000000 in
theorem m_X7_bothEnd {l : Launch} {g : aG} {this : Nat} {a1 : Int} {a2 : Int} {a3 : Int} {σ : Hp} {r : Int × Hp} (h : F_Plan_bothEnd this a1 a2 a3 σ = some r) : aMet l g shC yX7_bothEnd wsX7_bothEnd rm_X7_bothEnd [vR this, vI a1, vI a2, vI a3] σ 0 r := by
  unfold F_Plan_bothEnd at h
  obtain ⟨ht, h⟩ := gdD h
  refine aMet_of (bytes := cX7_bothEnd) (maxL := 5) (ret := (some .int)) (by decide +kernel) rfl (Nat.le_of_ble_eq_true rfl) ⟨rfl, rfl⟩ (fun x e1 e2 X E => ?_)
  subst e1; subst e2
  have X : aX x cX7_bothEnd wsX7_bothEnd RX7 5 rm_X7_bothEnd := X
  show aS x shC 5 0 [(0, vR this), (1, vI a1), (2, vI a2), (3, vI a3)] [] σ
  refine A_aload_n X 0 rfl rfl dX7_bothEnd_0 ?_
  obtain ⟨v7, s8, e9, h⟩ := clD h
  refine A_callV_V (na := 0) X (m_X7_freshBounds e9) gX7_bothEnd_X7_freshBounds rfl ⟨rfl, rfl⟩ (by decide +kernel) rfl ⟨Nat.le_of_ble_eq_true rfl, Nat.le_of_ble_eq_true rfl⟩ (shPlan ht) (by decide) rfl rfl (Nat.le_of_ble_eq_true rfl) dX7_bothEnd_1 ?_
  refine A_iload_n X 3 rfl rfl dX7_bothEnd_4 ?_
  refine A_if_eq X (tgt := 20) (by decide) dX7_bothEnd_5 (fun c10 => ?_) (fun c10 => ?_)
  · replace h := ifT h c10
    refine A_aload_n X 0 rfl rfl dX7_bothEnd_20 ?_
    refine A_getR X fg_X7_bothEnd_12 (shPlan ht) (k := 2) rfl (by decide) dX7_bothEnd_21 ?_
    refine A_iload_n X 1 rfl rfl dX7_bothEnd_24 ?_
    refine A_iload_n X 2 rfl rfl dX7_bothEnd_25 ?_
    obtain ⟨v11, s12, e13, h⟩ := clD h
    refine A_callV_I (na := 2) X (m_X1_twiceLeastSum e13) gX7_bothEnd_X1_twiceLeastSum rfl ⟨rfl, rfl⟩ (by decide +kernel) rfl ⟨Nat.le_of_ble_eq_true rfl, Nat.le_of_ble_eq_true rfl⟩ (shBounds (isPlan_bounds ht)) (by decide) rfl rfl (Nat.le_of_ble_eq_true rfl) dX7_bothEnd_26 ?_
    refine A_sub [0, 1, 2] rfl (L' := [(0, vR this), (1, vI a1), (2, vI a2)]) rfl ?_
    exact w_X7_bothEnd_29 (this := this) (a1 := a1) (a2 := a2) (a3 := a3) X E ht v11 s12 h
  · replace h := ifF h c10
    refine A_aload_n X 0 rfl rfl dX7_bothEnd_8 ?_
    refine A_getR X fg_X7_bothEnd_12 (shPlan ht) (k := 2) rfl (by decide) dX7_bothEnd_9 ?_
    refine A_iload_n X 1 rfl rfl dX7_bothEnd_12 ?_
    refine A_iload_n X 2 rfl rfl dX7_bothEnd_13 ?_
    obtain ⟨v14, s15, e16, h⟩ := clD h
    refine A_callV_I (na := 2) X (m_X1_twiceMostSum e16) gX7_bothEnd_X1_twiceMostSum rfl ⟨rfl, rfl⟩ (by decide +kernel) rfl ⟨Nat.le_of_ble_eq_true rfl, Nat.le_of_ble_eq_true rfl⟩ (shBounds (isPlan_bounds ht)) (by decide) rfl rfl (Nat.le_of_ble_eq_true rfl) dX7_bothEnd_14 ?_
    refine A_goto X (tgt := 29) (by decide) dX7_bothEnd_17 ?_
    refine A_sub [0, 1, 2] rfl (L' := [(0, vR this), (1, vI a1), (2, vI a2)]) rfl ?_
    exact w_X7_bothEnd_29 (this := this) (a1 := a1) (a2 := a2) (a3 := a3) X E ht v14 s15 h
abbrev rm_X3_drop : Room := { frames := 0, cells := 0, slots := 0, locals := 0 }
theorem in_X3_drop_3 : ∀ w ∈ u_ws RX3 TX3 11, w ∈ wsX3_drop := fun w h => List.mem_cons_of_mem _ (List.mem_append_right _ h)
theorem fg_X3_drop_9 : aFl wsX3_drop RX3 9 3 0 := ⟨RX3, TX3, 11, rfl, in_X3_drop_3, by decide, (List.mem_of_getElem? (i := 1) rfl), rfl⟩
theorem fg_X3_drop_42 : aFl wsX3_drop RX3 42 3 2 := ⟨RX3, TX3, 11, rfl, in_X3_drop_3, by decide, (List.mem_of_getElem? (i := 2) rfl), rfl⟩
theorem fp_X3_drop_42 : aFp wsX3_drop RX3 42 3 2 .int := ⟨RX3, TX3, 11, tyX3, rfl, in_X3_drop_3, by decide, (List.mem_of_getElem? (i := 2) rfl), rfl, tyX3_ok, nmX3, rfl, rfl⟩
set_option maxRecDepth 100000 in
set_option maxHeartbeats 4000000 in
theorem m_X3_drop {l : Launch} {g : aG} {a1 : Int} {σ : Hp} {r : Int × Hp} (h : F_Deals_drop a1 σ = some r) : aMet l g shC yX3_drop wsX3_drop rm_X3_drop [vR 173, vI a1] σ 0 r := by
  unfold F_Deals_drop at h
  refine aMet_of (bytes := cX3_drop) (maxL := 2) (ret := (some .boolean)) (by decide +kernel) rfl (Nat.le_of_ble_eq_true rfl) ⟨rfl, rfl⟩ (fun x e1 e2 X E => ?_)
  subst e1; subst e2
  have X : aX x cX3_drop wsX3_drop RX3 2 rm_X3_drop := X
  show aS x shC 2 0 [(0, vR 173), (1, vI a1)] [] σ
  refine A_aload_n X 0 rfl rfl dX3_drop_0 ?_
  refine A_getR X fg_X3_drop_9 shC_173 (k := 0) rfl (by decide) dX3_drop_1 ?_
  refine A_iload_n X 1 rfl rfl dX3_drop_4 ?_
  obtain ⟨g1, h⟩ := gdD h
  refine A_zald X g1 shC_174 dX3_drop_5 ?_
  refine A_if_ne X (tgt := 11) (by decide) dX3_drop_6 (fun c2 => ?_) (fun c2 => ?_)
  · replace h := ifF h c2
    refine A_aload_n X 0 rfl rfl dX3_drop_11 ?_
    refine A_getR X fg_X3_drop_9 shC_173 (k := 0) rfl (by decide) dX3_drop_12 ?_
    refine A_iload_n X 1 rfl rfl dX3_drop_15 ?_
    refine A_iconst X dX3_drop_16 (z := 0) (by decide) ?_
    obtain ⟨g3, h⟩ := gdD h
    refine A_zast X g3 shC_174 dX3_drop_17 (fun s4 hy => ?_)
    replace h := ltD h s4 hy
    clear hy
    refine A_aload_n X 0 rfl rfl dX3_drop_18 ?_
    refine A_dup X (by show ¬ (2 : Nat) = 1; decide) dX3_drop_19 ?_
    refine A_getI X fg_X3_drop_42 shC_173 (k := 2) rfl (by decide) dX3_drop_20 ?_
    refine A_iconst X dX3_drop_23 (z := 1) (by decide) ?_
    refine A_isub X dX3_drop_24 ?_
    refine A_putI X fp_X3_drop_42 shC_173 (k := 2) rfl (by decide) dX3_drop_25 (fun s5 hy => ?_)
    replace h := ltD h s5 hy
    clear hy
    refine A_iconst X dX3_drop_28 (z := 1) (by decide) ?_
    exact A_zreturn X (Or.inr rfl) E h dX3_drop_29
  · replace h := ifT h c2
    refine A_iconst X dX3_drop_9 (z := 0) (by decide) ?_
    exact A_zreturn X (Or.inl rfl) E h dX3_drop_10
abbrev rm_X3_firstUneven : Room := { frames := 3, cells := 0, slots := 0, locals := 69 }
theorem in_X3_firstUneven_3 : ∀ w ∈ u_ws RX3 TX3 11, w ∈ wsX3_firstUneven := fun w h => List.mem_cons_of_mem _ (List.mem_append_left _ (List.mem_append_left _ (List.mem_append_right _ h)))
theorem fg_X3_firstUneven_62 : aFl wsX3_firstUneven RX3 62 3 8 := ⟨RX3, TX3, 11, rfl, in_X3_firstUneven_3, by decide, (List.mem_of_getElem? (i := 1) rfl), rfl⟩
theorem fg_X3_firstUneven_15 : aFl wsX3_firstUneven RX3 15 3 1 := ⟨RX3, TX3, 11, rfl, in_X3_firstUneven_3, by decide, (List.mem_of_getElem? (i := 2) rfl), rfl⟩
theorem fg_X3_firstUneven_25 : aFl wsX3_firstUneven RX3 25 3 7 := ⟨RX3, TX3, 11, rfl, in_X3_firstUneven_3, by decide, (List.mem_of_getElem? (i := 3) rfl), rfl⟩
set_option maxRecDepth 100000 in
set_option maxHeartbeats 4000000 in
theorem w_X3_firstUneven_2_b {x : aC} {r : Int × Hp} {k2 : Int × Hp → Option (Int × Hp)} (X : aX x cX3_firstUneven wsX3_firstUneven RX3 2 rm_X3_firstUneven) (E : aE x shC (some .int) 0 r) (hk2 : ∀ (x1 : Int) (σ : Hp), k2 (x1, σ) = some r → aS x shC 2 2 [(0, vR 173), (1, vI x1)] [] σ) (x1 : Int) (σ : Hp) (h : F_Deals_firstUneven_2_b k2 x1 σ = some r) : aS x shC 2 2 [(0, vR 173), (1, vI x1)] [] σ := by
  unfold F_Deals_firstUneven_2_b at h
  refine A_iload_n X 1 rfl rfl dX3_firstUneven_2 ?_
  refine A_aload_n X 0 rfl rfl dX3_firstUneven_3 ?_
  refine A_getI X fg_X3_firstUneven_62 shC_173 (k := 8) rfl (by decide) dX3_firstUneven_4 ?_
  refine A_icmp_ge X (tgt := 47) (by decide) dX3_firstUneven_7 (fun c1 => ?_) (fun c1 => ?_)
  · replace h := ifT h c1
    refine A_iconst X dX3_firstUneven_47 (z := (-1)) (by decide) ?_
    exact A_ireturn X E h dX3_firstUneven_48
  · replace h := ifF h c1
    refine A_aload_n X 0 rfl rfl dX3_firstUneven_10 ?_
    refine A_getR X fg_X3_firstUneven_15 shC_173 (k := 1) rfl (by decide) dX3_firstUneven_11 ?_
    refine A_aload_n X 0 rfl rfl dX3_firstUneven_14 ?_
    refine A_getR X fg_X3_firstUneven_25 shC_173 (k := 7) rfl (by decide) dX3_firstUneven_15 ?_
    refine A_iload_n X 1 rfl rfl dX3_firstUneven_18 ?_
    obtain ⟨g2, h⟩ := gdD h
    refine A_iald X g2 shC_178 dX3_firstUneven_19 ?_
    obtain ⟨g3, h⟩ := gdD h
    refine A_iald X g3 shC_175 dX3_firstUneven_20 ?_
    refine A_aload_n X 0 rfl rfl dX3_firstUneven_21 ?_
    refine A_aload_n X 0 rfl rfl dX3_firstUneven_22 ?_
    refine A_getR X fg_X3_firstUneven_25 shC_173 (k := 7) rfl (by decide) dX3_firstUneven_23 ?_
    refine A_iload_n X 1 rfl rfl dX3_firstUneven_26 ?_
    obtain ⟨g4, h⟩ := gdD h
    refine A_iald X g4 shC_178 dX3_firstUneven_27 ?_
    obtain ⟨v5, s6, e7, h⟩ := clD h
    refine A_callV_I (na := 1) X (m_X3_evenFirst e7) gX3_firstUneven_X3_evenFirst rfl ⟨rfl, rfl⟩ (by decide +kernel) rfl ⟨Nat.le_of_ble_eq_true rfl, Nat.le_of_ble_eq_true rfl⟩ shC_173 (by decide) rfl rfl (Nat.le_of_ble_eq_true rfl) dX3_firstUneven_28 ?_
    refine A_icmp_eq X (tgt := 41) (by decide) dX3_firstUneven_31 (fun c8 => ?_) (fun c8 => ?_)
    · replace h := ifT h c8
      refine A_iinc X (L' := fun y1_9 => [(1, vI y1_9), (0, vR 173)]) 1 rfl (by decide) (fun _ => rfl) dX3_firstUneven_41 (by decide) (fun y1_9 hy => ?_)
      replace h := ltD h y1_9 hy
      clear hy
      refine A_goto X (tgt := 2) (by decide) dX3_firstUneven_44 ?_
      refine A_sub [1, 0] rfl (L' := [(0, vR 173), (1, vI y1_9)]) rfl ?_
      exact hk2 y1_9 s6 h
    · replace h := ifF h c8
      refine A_aload_n X 0 rfl rfl dX3_firstUneven_34 ?_
      refine A_getR X fg_X3_firstUneven_25 shC_173 (k := 7) rfl (by decide) dX3_firstUneven_35 ?_
      refine A_iload_n X 1 rfl rfl dX3_firstUneven_38 ?_
      obtain ⟨g10, h⟩ := gdD h
      refine A_iald X g10 shC_178 dX3_firstUneven_39 ?_
      exact A_ireturn X E h dX3_firstUneven_40
set_option maxRecDepth 100000 in
set_option maxHeartbeats 4000000 in
theorem w_X3_firstUneven_2 {x : aC} {r : Int × Hp} (X : aX x cX3_firstUneven wsX3_firstUneven RX3 2 rm_X3_firstUneven) (E : aE x shC (some .int) 0 r) : ∀ (n : Nat) (x1 : Int) (σ : Hp) (h : F_Deals_firstUneven_2 n (x1, σ) = some r), aS x shC 2 2 [(0, vR 173), (1, vI x1)] [] σ := by
  intro n
  induction n with
  | zero => intro x1 σ h; cases h
  | succ n ih => intro x1 σ h; exact w_X3_firstUneven_2_b (k2 := F_Deals_firstUneven_2 n) X E ih x1 σ h
set_option maxRecDepth 100000 in
set_option maxHeartbeats 4000000 in
theorem m_X3_firstUneven {l : Launch} {g : aG} {σ : Hp} {r : Int × Hp} (h : F_Deals_firstUneven σ = some r) : aMet l g shC yX3_firstUneven wsX3_firstUneven rm_X3_firstUneven [vR 173] σ 0 r := by
  unfold F_Deals_firstUneven at h
  refine aMet_of (bytes := cX3_firstUneven) (maxL := 2) (ret := (some .int)) (by decide +kernel) rfl (Nat.le_of_ble_eq_true rfl) ⟨rfl, rfl⟩ (fun x e1 e2 X E => ?_)
  subst e1; subst e2
  have X : aX x cX3_firstUneven wsX3_firstUneven RX3 2 rm_X3_firstUneven := X
  show aS x shC 2 0 [(0, vR 173)] [] σ
  refine A_iconst X dX3_firstUneven_0 (z := 0) (by decide) ?_
  refine A_istore_n X (L' := [(1, vI 0), (0, vR 173)]) rfl (by decide) rfl dX3_firstUneven_1 ?_
  refine A_sub [1, 0] rfl (L' := [(0, vR 173), (1, vI 0)]) rfl ?_
  exact w_X3_firstUneven_2 X E FU 0 σ h
abbrev rm_X7_addWays : Room := { frames := 1, cells := 0, slots := 0, locals := 23 }
theorem in_X7_addWays_7 : ∀ w ∈ u_ws RX7 TX7 11, w ∈ wsX7_addWays := fun w h => List.mem_cons_of_mem _ (List.mem_append_left _ (List.mem_append_right _ h))
theorem fg_X7_addWays_18 : aFl wsX7_addWays RX7 18 7 3 := ⟨RX7, TX7, 11, rfl, in_X7_addWays_7, by decide, (List.mem_of_getElem? (i := 1) rfl), rfl⟩
set_option maxRecDepth 100000 in
set_option maxHeartbeats 4000000 in
theorem w_X7_addWays_88 {x : aC} {r : Int × Hp} {k21 : Int × Int × Int × Hp → Option (Int × Hp)} {this : Nat} {a2 : Int} {a3 : Int} (X : aX x cX7_addWays wsX7_addWays RX7 7 rm_X7_addWays) (E : aE x shC none 3 r) (hk21 : ∀ (x4 : Int) (x5 : Int) (x6 : Int) (σ : Hp), k21 (x4, x5, x6, σ) = some r → aS x shC 7 21 [(0, vR this), (1, vR 172), (3, vI a3), (4, vI x4), (5, vI x5), (6, vI x6)] [] σ) (ht : isPlan this) (x4 : Int) (x5 : Int) (x6 : Int) (σ : Hp) (h : F_Plan_addWays_88 k21 this a2 a3 x4 x5 x6 σ = some r) : aS x shC 7 88 [(0, vR this), (1, vR 172), (3, vI a3), (4, vI x4), (5, vI x5), (6, vI x6)] [] σ := by
  unfold F_Plan_addWays_88 at h
  refine A_iinc X (L' := fun y6_1 => [(6, vI y6_1), (0, vR this), (1, vR 172), (3, vI a3), (4, vI x4), (5, vI x5)]) 5 rfl (by decide) (fun _ => rfl) dX7_addWays_88 (by decide) (fun y6_1 hy => ?_)
  replace h := ltD h y6_1 hy
  clear hy
  refine A_goto X (tgt := 21) (by decide) dX7_addWays_91 ?_
  refine A_sub [1, 2, 3, 4, 5, 0] rfl (L' := [(0, vR this), (1, vR 172), (3, vI a3), (4, vI x4), (5, vI x5), (6, vI y6_1)]) rfl ?_
  exact hk21 x4 x5 y6_1 σ h
set_option maxRecDepth 100000 in
set_option maxHeartbeats 4000000 in
theorem w_X7_addWays_94 {x : aC} {r : Int × Hp} {this : Nat} {a2 : Int} {a3 : Int} (X : aX x cX7_addWays wsX7_addWays RX7 7 rm_X7_addWays) (E : aE x shC none 3 r) (ht : isPlan this) (σ : Hp) (h : F_Plan_addWays_94 this a2 a3 σ = some r) : aS x shC 7 94 [] [] σ := by
  unfold F_Plan_addWays_94 at h
  exact A_return X E h dX7_addWays_94
set_option maxRecDepth 100000 in
set_option maxHeartbeats 4000000 in
theorem w_X7_addWays_21_b {x : aC} {r : Int × Hp} {k21 : Int × Int × Int × Hp → Option (Int × Hp)} {this : Nat} {a2 : Int} {a3 : Int} (X : aX x cX7_addWays wsX7_addWays RX7 7 rm_X7_addWays) (E : aE x shC none 3 r) (hk21 : ∀ (x4 : Int) (x5 : Int) (x6 : Int) (σ : Hp), k21 (x4, x5, x6, σ) = some r → aS x shC 7 21 [(0, vR this), (1, vR 172), (3, vI a3), (4, vI x4), (5, vI x5), (6, vI x6)] [] σ) (ht : isPlan this) (x4 : Int) (x5 : Int) (x6 : Int) (σ : Hp) (h : F_Plan_addWays_21_b k21 this a2 a3 x4 x5 x6 σ = some r) : aS x shC 7 21 [(0, vR this), (1, vR 172), (3, vI a3), (4, vI x4), (5, vI x5), (6, vI x6)] [] σ := by
  unfold F_Plan_addWays_21_b at h
  refine A_iload X 3 rfl dX7_addWays_21 ?_
  refine A_if_le X (tgt := 94) (by decide) dX7_addWays_23 (fun c2 => ?_) (fun c2 => ?_)
  · replace h := ifT h c2
    refine A_sub [] rfl (L' := []) rfl ?_
    exact w_X7_addWays_94 (this := this) (a2 := a2) (a3 := a3) X E ht σ h
  · replace h := ifF h c2
    refine A_iload X 5 rfl dX7_addWays_26 ?_
    refine A_iconst X dX7_addWays_28 (z := 2) (by decide) ?_
    refine A_iload_n X 2 rfl rfl dX7_addWays_29 ?_
    refine A_ishl X dX7_addWays_30 ?_
    refine A_icmp_ge X (tgt := 94) (by decide) dX7_addWays_31 (fun c3 => ?_) (fun c3 => ?_)
    · replace h := ifT h c3
      refine A_sub [] rfl (L' := []) rfl ?_
      exact w_X7_addWays_94 (this := this) (a2 := a2) (a3 := a3) X E ht σ h
    · replace h := ifF h c3
      refine A_iload X 5 rfl dX7_addWays_34 ?_
      refine A_iload X 4 rfl dX7_addWays_36 ?_
      refine A_iand X dX7_addWays_38 ?_
      refine A_iload X 4 rfl dX7_addWays_39 ?_
      refine A_icmp_ne X (tgt := 88) (by decide) dX7_addWays_41 (fun c4 => ?_) (fun c4 => ?_)
      · replace h := ifF h c4
        exact w_X7_addWays_88 (this := this) (a2 := a2) (a3 := a3) X E hk21 ht x4 x5 x6 σ h
      · replace h := ifT h c4
        refine A_aload_n X 0 rfl rfl dX7_addWays_44 ?_
        refine A_getR X fg_X7_addWays_18 (shPlan ht) (k := 3) rfl (by decide) dX7_addWays_45 ?_
        refine A_iload X 5 rfl dX7_addWays_48 ?_
        refine A_iload X 4 rfl dX7_addWays_50 ?_
        refine A_isub X dX7_addWays_52 ?_
        obtain ⟨g5, h⟩ := gdD h
        refine A_iald X g5 (shPlan_best ht) dX7_addWays_53 ?_
        refine A_iload X 3 rfl dX7_addWays_54 ?_
        refine A_iadd X dX7_addWays_56 ?_
        refine A_aload_n X 0 rfl rfl dX7_addWays_57 ?_
        refine A_getR X fg_X7_addWays_18 (shPlan ht) (k := 3) rfl (by decide) dX7_addWays_58 ?_
        refine A_iload X 5 rfl dX7_addWays_61 ?_
        obtain ⟨g6, h⟩ := gdD h
        refine A_iald X g6 (shPlan_best ht) dX7_addWays_63 ?_
        refine A_icmp_ne X (tgt := 88) (by decide) dX7_addWays_64 (fun c7 => ?_) (fun c7 => ?_)
        · replace h := ifF h c7
          exact w_X7_addWays_88 (this := this) (a2 := a2) (a3 := a3) X E hk21 ht x4 x5 x6 σ h
        · replace h := ifT h c7
          refine A_aload_n X 1 rfl rfl dX7_addWays_67 ?_
          refine A_iload X 5 rfl dX7_addWays_68 ?_
          refine A_ldc X (v := (1000000000)) (List.mem_of_getElem? (i := 2) rfl) dX7_addWays_70 (z := 1000000000) (by decide) ?_
          refine A_aload_n X 1 rfl rfl dX7_addWays_72 ?_
          refine A_iload X 5 rfl dX7_addWays_73 ?_
          obtain ⟨g8, h⟩ := gdD h
          refine A_iald X g8 shC_172 dX7_addWays_75 ?_
          refine A_aload_n X 1 rfl rfl dX7_addWays_76 ?_
          refine A_iload X 5 rfl dX7_addWays_77 ?_
          refine A_iload X 4 rfl dX7_addWays_79 ?_
          refine A_isub X dX7_addWays_81 ?_
          obtain ⟨g9, h⟩ := gdD h
          refine A_iald X g9 shC_172 dX7_addWays_82 ?_
          refine A_iadd X dX7_addWays_83 ?_
          refine A_mmin X (List.mem_of_getElem? (i := 3) rfl) (List.mem_of_getElem? (i := 4) rfl) (List.mem_of_getElem? (i := 5) rfl) (List.mem_of_getElem? (i := 6) rfl) (Nat.le_of_ble_eq_true rfl) (Nat.le_of_ble_eq_true rfl) dX7_addWays_84 ?_
          obtain ⟨g10, h⟩ := gdD h
          refine A_iast X g10 shC_172 dX7_addWays_87 (fun s11 hy => ?_)
          replace h := ltD h s11 hy
          clear hy
          exact w_X7_addWays_88 (this := this) (a2 := a2) (a3 := a3) X E hk21 ht x4 x5 x6 s11 h
set_option maxRecDepth 100000 in
set_option maxHeartbeats 4000000 in
theorem w_X7_addWays_21 {x : aC} {r : Int × Hp} {this : Nat} {a2 : Int} {a3 : Int} (X : aX x cX7_addWays wsX7_addWays RX7 7 rm_X7_addWays) (E : aE x shC none 3 r) (ht : isPlan this) : ∀ (n : Nat) (x4 : Int) (x5 : Int) (x6 : Int) (σ : Hp) (h : F_Plan_addWays_21 this a2 a3 n (x4, x5, x6, σ) = some r), aS x shC 7 21 [(0, vR this), (1, vR 172), (3, vI a3), (4, vI x4), (5, vI x5), (6, vI x6)] [] σ := by
  intro n
  induction n with
  | zero => intro x4 x5 x6 σ h; cases h
  | succ n ih => intro x4 x5 x6 σ h; exact w_X7_addWays_21_b (this := this) (a2 := a2) (a3 := a3) (k21 := F_Plan_addWays_21 this a2 a3 n) X E ih ht x4 x5 x6 σ h
set_option maxRecDepth 100000 in
set_option maxHeartbeats 4000000 in
theorem m_X7_addWays {l : Launch} {g : aG} {this : Nat} {a2 : Int} {a3 : Int} {σ : Hp} {r : Int × Hp} (h : F_Plan_addWays this a2 a3 σ = some r) : aMet l g shC yX7_addWays wsX7_addWays rm_X7_addWays [vR this, vR 172, vI a2, vI a3] σ 3 r := by
  unfold F_Plan_addWays at h
  obtain ⟨ht, h⟩ := gdD h
  refine aMet_of (bytes := cX7_addWays) (maxL := 7) (ret := none) (by decide +kernel) rfl (Nat.le_of_ble_eq_true rfl) ⟨rfl, rfl⟩ (fun x e1 e2 X E => ?_)
  subst e1; subst e2
  have X : aX x cX7_addWays wsX7_addWays RX7 7 rm_X7_addWays := X
  show aS x shC 7 0 [(0, vR this), (1, vR 172), (2, vI a2), (3, vI a3)] [] σ
  refine A_aload_n X 0 rfl rfl dX7_addWays_0 ?_
  refine A_iload_n X 2 rfl rfl dX7_addWays_1 ?_
  refine A_iload_n X 3 rfl rfl dX7_addWays_2 ?_
  obtain ⟨v12, s13, e14, h⟩ := clD h
  refine A_callV_I (na := 2) X (m_X7_gainOfTwo e14) gX7_addWays_X7_gainOfTwo rfl ⟨rfl, rfl⟩ (by decide +kernel) rfl ⟨Nat.le_of_ble_eq_true rfl, Nat.le_of_ble_eq_true rfl⟩ (shPlan ht) (by decide) rfl rfl (Nat.le_of_ble_eq_true rfl) dX7_addWays_3 ?_
  refine A_istore X (L' := [(4, vI v12), (0, vR this), (1, vR 172), (2, vI a2), (3, vI a3)]) (by decide) rfl dX7_addWays_6 ?_
  refine A_iconst X dX7_addWays_8 (z := 1) (by decide) ?_
  refine A_iload_n X 4 rfl rfl dX7_addWays_9 ?_
  refine A_ishl X dX7_addWays_10 ?_
  refine A_iconst X dX7_addWays_11 (z := 1) (by decide) ?_
  refine A_iload_n X 3 rfl rfl dX7_addWays_12 ?_
  refine A_ishl X dX7_addWays_13 ?_
  refine A_ior X dX7_addWays_14 ?_
  refine A_istoreN X (L' := fun y5_15 => [(5, vI y5_15), (4, vI v12), (0, vR this), (1, vR 172), (2, vI a2), (3, vI a3)]) (by decide) (fun _ => rfl) dX7_addWays_15 (fun y5_15 hy => ?_)
  replace h := ltD h y5_15 hy
  clear hy
  refine A_iload X 0 rfl dX7_addWays_17 ?_
  refine A_istore X (L' := [(6, vI y5_15), (5, vI y5_15), (4, vI v12), (0, vR this), (1, vR 172), (2, vI a2), (3, vI a3)]) (by decide) rfl dX7_addWays_19 ?_
  refine A_sub [3, 4, 6, 2, 1, 0] rfl (L' := [(0, vR this), (1, vR 172), (3, vI a3), (4, vI v12), (5, vI y5_15), (6, vI y5_15)]) rfl ?_
  exact w_X7_addWays_21 (this := this) (a2 := a2) (a3 := a3) X E ht FU v12 y5_15 y5_15 s13 h
abbrev rm_X7_countWays : Room := { frames := 2, cells := 0, slots := 0, locals := 49 }
theorem in_X7_countWays_7 : ∀ w ∈ u_ws RX7 TX7 11, w ∈ wsX7_countWays := fun w h => List.mem_cons_of_mem _ (List.mem_append_left _ (List.mem_append_right _ h))
theorem fg_X7_countWays_18 : aFl wsX7_countWays RX7 18 7 3 := ⟨RX7, TX7, 11, rfl, in_X7_countWays_7, by decide, (List.mem_of_getElem? (i := 3) rfl), rfl⟩
theorem fg_X7_countWays_42 : aFl wsX7_countWays RX7 42 7 7 := ⟨RX7, TX7, 11, rfl, in_X7_countWays_7, by decide, (List.mem_of_getElem? (i := 1) rfl), rfl⟩
theorem in_X7_countWays_6 : ∀ w ∈ u_ws RX6 TX6 20, w ∈ wsX7_countWays := fun w h => List.mem_cons_of_mem _ (List.mem_append_right _ h)
theorem fg_X7_countWays_66 : aFl wsX7_countWays RX7 66 6 15 := ⟨RX6, TX6, 20, rfl, in_X7_countWays_6, by decide, (List.mem_of_getElem? (i := 2) rfl), rfl⟩
set_option maxRecDepth 100000 in
set_option maxHeartbeats 4000000 in
theorem w_X7_countWays_64 {x : aC} {r : Int × Hp} {k24 : Int × Int × Int × Hp → Option (Int × Hp)} {this : Nat} (X : aX x cX7_countWays wsX7_countWays RX7 5 rm_X7_countWays) (E : aE x shC (some .int) 0 r) (hk24 : ∀ (x2 : Int) (x3 : Int) (x4 : Int) (σ : Hp), k24 (x2, x3, x4, σ) = some r → aS x shC 5 24 [(0, vR this), (1, vR 172), (2, vI x2), (3, vI x3), (4, vI x4)] [] σ) (ht : isPlan this) (x2 : Int) (x3 : Int) (x4 : Int) (t3 : Int) (t2 : Int) (σ : Hp) (h : F_Plan_countWays_64 k24 this x2 x3 x4 t3 t2 σ = some r) : aS x shC 5 64 [(0, vR this), (1, vR 172), (2, vI x2), (3, vI x3), (4, vI x4)] [vI t3, vI t2, vR 172] σ := by
  unfold F_Plan_countWays_64 at h
  obtain ⟨g1, h⟩ := gdD h
  refine A_iast X g1 shC_172 dX7_countWays_64 (fun s2 hy => ?_)
  replace h := ltD h s2 hy
  clear hy
  refine A_iinc X (L' := fun y4_3 => [(4, vI y4_3), (0, vR this), (1, vR 172), (2, vI x2), (3, vI x3)]) 4 rfl (by decide) (fun _ => rfl) dX7_countWays_65 (by decide) (fun y4_3 hy => ?_)
  replace h := ltD h y4_3 hy
  clear hy
  refine A_goto X (tgt := 24) (by decide) dX7_countWays_68 ?_
  refine A_sub [1, 2, 3, 4, 0] rfl (L' := [(0, vR this), (1, vR 172), (2, vI x2), (3, vI x3), (4, vI y4_3)]) rfl ?_
  exact hk24 x2 x3 y4_3 s2 h
set_option maxRecDepth 100000 in
set_option maxHeartbeats 4000000 in
theorem w_X7_countWays_74_b {x : aC} {r : Int × Hp} {k6 : Int × Hp → Option (Int × Hp)} {k74 : Int × Int × Hp → Option (Int × Hp)} {this : Nat} (X : aX x cX7_countWays wsX7_countWays RX7 5 rm_X7_countWays) (E : aE x shC (some .int) 0 r) (hk6 : ∀ (x2 : Int) (σ : Hp), k6 (x2, σ) = some r → aS x shC 5 6 [(0, vR this), (1, vR 172), (2, vI x2)] [] σ) (hk74 : ∀ (x2 : Int) (x4 : Int) (σ : Hp), k74 (x2, x4, σ) = some r → aS x shC 5 74 [(0, vR this), (1, vR 172), (2, vI x2), (4, vI x4)] [] σ) (ht : isPlan this) (x2 : Int) (x4 : Int) (σ : Hp) (h : F_Plan_countWays_74_b k6 k74 this x2 x4 σ = some r) : aS x shC 5 74 [(0, vR this), (1, vR 172), (2, vI x2), (4, vI x4)] [] σ := by
  unfold F_Plan_countWays_74_b at h
  refine A_iload X 3 rfl dX7_countWays_74 ?_
  refine A_iload_n X 2 rfl rfl dX7_countWays_76 ?_
  refine A_icmp_ge X (tgt := 94) (by decide) dX7_countWays_77 (fun c4 => ?_) (fun c4 => ?_)
  · replace h := ifT h c4
    refine A_iinc X (L' := fun y2_5 => [(2, vI y2_5), (0, vR this), (1, vR 172), (4, vI x4)]) 2 rfl (by decide) (fun _ => rfl) dX7_countWays_94 (by decide) (fun y2_5 hy => ?_)
    replace h := ltD h y2_5 hy
    clear hy
    refine A_goto X (tgt := 6) (by decide) dX7_countWays_97 ?_
    refine A_sub [1, 2, 0] rfl (L' := [(0, vR this), (1, vR 172), (2, vI y2_5)]) rfl ?_
    exact hk6 y2_5 σ h
  · replace h := ifF h c4
    refine A_aload_n X 0 rfl rfl dX7_countWays_80 ?_
    refine A_aload_n X 1 rfl rfl dX7_countWays_81 ?_
    refine A_iload X 3 rfl dX7_countWays_82 ?_
    refine A_iload_n X 2 rfl rfl dX7_countWays_84 ?_
    obtain ⟨v6, s7, e8, h⟩ := clD h
    refine A_callV_V (na := 3) X (m_X7_addWays e8) gX7_countWays_X7_addWays rfl ⟨rfl, rfl⟩ (by decide +kernel) rfl ⟨Nat.le_of_ble_eq_true rfl, Nat.le_of_ble_eq_true rfl⟩ (shPlan ht) (by decide) rfl rfl (Nat.le_of_ble_eq_true rfl) dX7_countWays_85 ?_
    refine A_iinc X (L' := fun y4_9 => [(4, vI y4_9), (0, vR this), (1, vR 172), (2, vI x2)]) 3 rfl (by decide) (fun _ => rfl) dX7_countWays_88 (by decide) (fun y4_9 hy => ?_)
    replace h := ltD h y4_9 hy
    clear hy
    refine A_goto X (tgt := 74) (by decide) dX7_countWays_91 ?_
    refine A_sub [1, 2, 3, 0] rfl (L' := [(0, vR this), (1, vR 172), (2, vI x2), (4, vI y4_9)]) rfl ?_
    exact hk74 x2 y4_9 s7 h
set_option maxRecDepth 100000 in
set_option maxHeartbeats 4000000 in
theorem w_X7_countWays_74 {x : aC} {r : Int × Hp} {k6 : Int × Hp → Option (Int × Hp)} {this : Nat} (X : aX x cX7_countWays wsX7_countWays RX7 5 rm_X7_countWays) (E : aE x shC (some .int) 0 r) (hk6 : ∀ (x2 : Int) (σ : Hp), k6 (x2, σ) = some r → aS x shC 5 6 [(0, vR this), (1, vR 172), (2, vI x2)] [] σ) (ht : isPlan this) : ∀ (n : Nat) (x2 : Int) (x4 : Int) (σ : Hp) (h : F_Plan_countWays_74 k6 this n (x2, x4, σ) = some r), aS x shC 5 74 [(0, vR this), (1, vR 172), (2, vI x2), (4, vI x4)] [] σ := by
  intro n
  induction n with
  | zero => intro x2 x4 σ h; cases h
  | succ n ih => intro x2 x4 σ h; exact w_X7_countWays_74_b (this := this) (k74 := F_Plan_countWays_74 k6 this n) X E hk6 ih ht x2 x4 σ h
set_option maxRecDepth 100000 in
set_option maxHeartbeats 4000000 in
theorem w_X7_countWays_24_b {x : aC} {r : Int × Hp} {k6 : Int × Hp → Option (Int × Hp)} {k24 : Int × Int × Int × Hp → Option (Int × Hp)} {this : Nat} (X : aX x cX7_countWays wsX7_countWays RX7 5 rm_X7_countWays) (E : aE x shC (some .int) 0 r) (hk6 : ∀ (x2 : Int) (σ : Hp), k6 (x2, σ) = some r → aS x shC 5 6 [(0, vR this), (1, vR 172), (2, vI x2)] [] σ) (hk24 : ∀ (x2 : Int) (x3 : Int) (x4 : Int) (σ : Hp), k24 (x2, x3, x4, σ) = some r → aS x shC 5 24 [(0, vR this), (1, vR 172), (2, vI x2), (3, vI x3), (4, vI x4)] [] σ) (ht : isPlan this) (x2 : Int) (x3 : Int) (x4 : Int) (σ : Hp) (h : F_Plan_countWays_24_b k6 k24 this x2 x3 x4 σ = some r) : aS x shC 5 24 [(0, vR this), (1, vR 172), (2, vI x2), (3, vI x3), (4, vI x4)] [] σ := by
  unfold F_Plan_countWays_24_b at h
  refine A_iload X 4 rfl dX7_countWays_24 ?_
  refine A_iconst X dX7_countWays_26 (z := 2) (by decide) ?_
  refine A_iload_n X 3 rfl rfl dX7_countWays_27 ?_
  refine A_imul X dX7_countWays_28 ?_
  refine A_icmp_ge X (tgt := 71) (by decide) dX7_countWays_29 (fun c10 => ?_) (fun c10 => ?_)
  · replace h := ifT h c10
    refine A_iconst X dX7_countWays_71 (z := 0) (by decide) ?_
    refine A_istore X (L' := [(4, vI 0), (0, vR this), (1, vR 172), (2, vI x2), (3, vI x3)]) (by decide) rfl dX7_countWays_72 ?_
    refine A_sub [1, 2, 3, 0] rfl (L' := [(0, vR this), (1, vR 172), (2, vI x2), (4, vI 0)]) rfl ?_
    exact w_X7_countWays_74 (this := this) X E hk6 ht FU x2 0 σ h
  · replace h := ifF h c10
    refine A_aload_n X 1 rfl rfl dX7_countWays_32 ?_
    refine A_iload X 4 rfl dX7_countWays_33 ?_
    refine A_aload_n X 0 rfl rfl dX7_countWays_35 ?_
    refine A_getR X fg_X7_countWays_18 (shPlan ht) (k := 3) rfl (by decide) dX7_countWays_36 ?_
    refine A_iload X 4 rfl dX7_countWays_39 ?_
    refine A_iload_n X 3 rfl rfl dX7_countWays_41 ?_
    refine A_isub X dX7_countWays_42 ?_
    obtain ⟨g11, h⟩ := gdD h
    refine A_iald X g11 (shPlan_best ht) dX7_countWays_43 ?_
    refine A_aload_n X 0 rfl rfl dX7_countWays_44 ?_
    refine A_getR X fg_X7_countWays_18 (shPlan ht) (k := 3) rfl (by decide) dX7_countWays_45 ?_
    refine A_iload X 4 rfl dX7_countWays_48 ?_
    obtain ⟨g12, h⟩ := gdD h
    refine A_iald X g12 (shPlan_best ht) dX7_countWays_50 ?_
    refine A_icmp_ne X (tgt := 63) (by decide) dX7_countWays_51 (fun c13 => ?_) (fun c13 => ?_)
    · replace h := ifF h c13
      refine A_iconst X dX7_countWays_63 (z := 0) (by decide) ?_
      exact w_X7_countWays_64 (this := this) X E hk24 ht x2 x3 x4 0 x4 σ h
    · replace h := ifT h c13
      refine A_aload_n X 1 rfl rfl dX7_countWays_54 ?_
      refine A_iload X 4 rfl dX7_countWays_55 ?_
      refine A_iload_n X 3 rfl rfl dX7_countWays_57 ?_
      refine A_isub X dX7_countWays_58 ?_
      obtain ⟨g14, h⟩ := gdD h
      refine A_iald X g14 shC_172 dX7_countWays_59 ?_
      refine A_goto X (tgt := 64) (by decide) dX7_countWays_60 ?_
      exact w_X7_countWays_64 (this := this) X E hk24 ht x2 x3 x4 (σ 172 (isub x4 x3).toNat) x4 σ h
set_option maxRecDepth 100000 in
set_option maxHeartbeats 4000000 in
theorem w_X7_countWays_24 {x : aC} {r : Int × Hp} {k6 : Int × Hp → Option (Int × Hp)} {this : Nat} (X : aX x cX7_countWays wsX7_countWays RX7 5 rm_X7_countWays) (E : aE x shC (some .int) 0 r) (hk6 : ∀ (x2 : Int) (σ : Hp), k6 (x2, σ) = some r → aS x shC 5 6 [(0, vR this), (1, vR 172), (2, vI x2)] [] σ) (ht : isPlan this) : ∀ (n : Nat) (x2 : Int) (x3 : Int) (x4 : Int) (σ : Hp) (h : F_Plan_countWays_24 k6 this n (x2, x3, x4, σ) = some r), aS x shC 5 24 [(0, vR this), (1, vR 172), (2, vI x2), (3, vI x3), (4, vI x4)] [] σ := by
  intro n
  induction n with
  | zero => intro x2 x3 x4 σ h; cases h
  | succ n ih => intro x2 x3 x4 σ h; exact w_X7_countWays_24_b (this := this) (k24 := F_Plan_countWays_24 k6 this n) X E hk6 ih ht x2 x3 x4 σ h
set_option maxRecDepth 100000 in
set_option maxHeartbeats 4000000 in
theorem w_X7_countWays_6_b {x : aC} {r : Int × Hp} {k6 : Int × Hp → Option (Int × Hp)} {this : Nat} (X : aX x cX7_countWays wsX7_countWays RX7 5 rm_X7_countWays) (E : aE x shC (some .int) 0 r) (hk6 : ∀ (x2 : Int) (σ : Hp), k6 (x2, σ) = some r → aS x shC 5 6 [(0, vR this), (1, vR 172), (2, vI x2)] [] σ) (ht : isPlan this) (x2 : Int) (σ : Hp) (h : F_Plan_countWays_6_b k6 this x2 σ = some r) : aS x shC 5 6 [(0, vR this), (1, vR 172), (2, vI x2)] [] σ := by
  unfold F_Plan_countWays_6_b at h
  refine A_iload_n X 2 rfl rfl dX7_countWays_6 ?_
  refine A_aload_n X 0 rfl rfl dX7_countWays_7 ?_
  refine A_getV X fg_X7_countWays_42 (shPlan ht) (k := 7) rfl (by decide) dX7_countWays_8 ?_
  obtain ⟨q15, hy⟩ : ∃ y, y = (σ this 7).toNat := ⟨_, rfl⟩
  replace h := ltD h q15 hy
  rw [← hy]
  clear hy
  obtain ⟨g16, h⟩ := gdD h
  refine A_getI X fg_X7_countWays_66 (shNet g16) (k := 15) rfl (by decide) dX7_countWays_11 ?_
  refine A_icmp_ge X (tgt := 100) (by decide) dX7_countWays_14 (fun c17 => ?_) (fun c17 => ?_)
  · replace h := ifT h c17
    refine A_aload_n X 1 rfl rfl dX7_countWays_100 ?_
    refine A_aload_n X 0 rfl rfl dX7_countWays_101 ?_
    refine A_getV X fg_X7_countWays_42 (shPlan ht) (k := 7) rfl (by decide) dX7_countWays_102 ?_
    obtain ⟨q18, hy⟩ : ∃ y, y = (σ this 7).toNat := ⟨_, rfl⟩
    replace h := ltD h q18 hy
    rw [← hy]
    clear hy
    obtain ⟨g19, h⟩ := gdD h
    obtain ⟨v20, s21, e22, h⟩ := clD h
    refine A_callV_I (na := 0) X (m_X6_everybody e22) gX7_countWays_X6_everybody rfl ⟨rfl, rfl⟩ (by decide +kernel) rfl ⟨Nat.le_of_ble_eq_true rfl, Nat.le_of_ble_eq_true rfl⟩ (shNet g19) (by decide) rfl rfl (Nat.le_of_ble_eq_true rfl) dX7_countWays_105 ?_
    obtain ⟨g23, h⟩ := gdD h
    refine A_iald X g23 shC_172 dX7_countWays_108 ?_
    exact A_ireturn X E h dX7_countWays_109
  · replace h := ifF h c17
    refine A_iconst X dX7_countWays_17 (z := 1) (by decide) ?_
    refine A_iload_n X 2 rfl rfl dX7_countWays_18 ?_
    refine A_ishl X dX7_countWays_19 ?_
    refine A_istore_nN X (L' := fun y3_24 => [(3, vI y3_24), (0, vR this), (1, vR 172), (2, vI x2)]) rfl (by decide) (fun _ => rfl) dX7_countWays_20 (fun y3_24 hy => ?_)
    replace h := ltD h y3_24 hy
    clear hy
    refine A_iload_n X 0 rfl rfl dX7_countWays_21 ?_
    refine A_istore X (L' := [(4, vI y3_24), (3, vI y3_24), (0, vR this), (1, vR 172), (2, vI x2)]) (by decide) rfl dX7_countWays_22 ?_
    refine A_sub [2, 3, 4, 1, 0] rfl (L' := [(0, vR this), (1, vR 172), (2, vI x2), (3, vI y3_24), (4, vI y3_24)]) rfl ?_
    exact w_X7_countWays_24 (this := this) X E hk6 ht FU x2 y3_24 y3_24 σ h
set_option maxRecDepth 100000 in
set_option maxHeartbeats 4000000 in
theorem w_X7_countWays_6 {x : aC} {r : Int × Hp} {this : Nat} (X : aX x cX7_countWays wsX7_countWays RX7 5 rm_X7_countWays) (E : aE x shC (some .int) 0 r) (ht : isPlan this) : ∀ (n : Nat) (x2 : Int) (σ : Hp) (h : F_Plan_countWays_6 this n (x2, σ) = some r), aS x shC 5 6 [(0, vR this), (1, vR 172), (2, vI x2)] [] σ := by
  intro n
  induction n with
  | zero => intro x2 σ h; cases h
  | succ n ih => intro x2 σ h; exact w_X7_countWays_6_b (this := this) (k6 := F_Plan_countWays_6 this n) X E ih ht x2 σ h
set_option maxRecDepth 100000 in
set_option maxHeartbeats 4000000 in
theorem m_X7_countWays {l : Launch} {g : aG} {this : Nat} {σ : Hp} {r : Int × Hp} (h : F_Plan_countWays this σ = some r) : aMet l g shC yX7_countWays wsX7_countWays rm_X7_countWays [vR this, vR 172] σ 0 r := by
  unfold F_Plan_countWays at h
  obtain ⟨ht, h⟩ := gdD h
  refine aMet_of (bytes := cX7_countWays) (maxL := 5) (ret := (some .int)) (by decide +kernel) rfl (Nat.le_of_ble_eq_true rfl) ⟨rfl, rfl⟩ (fun x e1 e2 X E => ?_)
  subst e1; subst e2
  have X : aX x cX7_countWays wsX7_countWays RX7 5 rm_X7_countWays := X
  show aS x shC 5 0 [(0, vR this), (1, vR 172)] [] σ
  refine A_aload_n X 1 rfl rfl dX7_countWays_0 ?_
  refine A_iconst X dX7_countWays_1 (z := 0) (by decide) ?_
  refine A_iconst X dX7_countWays_2 (z := 1) (by decide) ?_
  refine A_iast X (by decide) shC_172 dX7_countWays_3 (fun s25 hy => ?_)
  replace h := ltD h s25 hy
  clear hy
  refine A_iconst X dX7_countWays_4 (z := 0) (by decide) ?_
  refine A_istore_n X (L' := [(2, vI 0), (0, vR this), (1, vR 172)]) rfl (by decide) rfl dX7_countWays_5 ?_
  refine A_sub [1, 2, 0] rfl (L' := [(0, vR this), (1, vR 172), (2, vI 0)]) rfl ?_
  exact w_X7_countWays_6 (this := this) X E ht FU 0 s25 h

