abbrev rm_X8_isTooMany : Room := { frames := 0, cells := 0, slots := 0, locals := 0 }
theorem in_X8_isTooMany_8 : ∀ w ∈ u_ws RX8 TX8 8, w ∈ wsX8_isTooMany := fun w h => List.mem_cons_of_mem _ (List.mem_append_left _ (List.mem_append_right _ h))
theorem fg_X8_isTooMany_47 : aFl wsX8_isTooMany RX8 47 8 3 := ⟨RX8, TX8, 8, rfl, in_X8_isTooMany_8, by decide, (List.mem_of_getElem? (i := 1) rfl), rfl⟩
theorem fg_X8_isTooMany_12 : aFl wsX8_isTooMany RX8 12 8 1 := ⟨RX8, TX8, 8, rfl, in_X8_isTooMany_8, by decide, (List.mem_of_getElem? (i := 2) rfl), rfl⟩
theorem in_X8_isTooMany_6 : ∀ w ∈ u_ws RX6 TX6 20, w ∈ wsX8_isTooMany := fun w h => List.mem_cons_of_mem _ (List.mem_append_right _ h)
theorem fg_X8_isTooMany_76 : aFl wsX8_isTooMany RX8 76 6 15 := ⟨RX6, TX6, 20, rfl, in_X8_isTooMany_6, by decide, (List.mem_of_getElem? (i := 3) rfl), rfl⟩
theorem fg_X8_isTooMany_79 : aFl wsX8_isTooMany RX8 79 6 16 := ⟨RX6, TX6, 20, rfl, in_X8_isTooMany_6, by decide, (List.mem_of_getElem? (i := 4) rfl), rfl⟩
theorem fg_X8_isTooMany_82 : aFl wsX8_isTooMany RX8 82 6 17 := ⟨RX6, TX6, 20, rfl, in_X8_isTooMany_6, by decide, (List.mem_of_getElem? (i := 5) rfl), rfl⟩
theorem fg_X8_isTooMany_85 : aFl wsX8_isTooMany RX8 85 6 18 := ⟨RX6, TX6, 20, rfl, in_X8_isTooMany_6, by decide, (List.mem_of_getElem? (i := 6) rfl), rfl⟩
set_option maxRecDepth 100000 in
set_option maxHeartbeats 4000000 in
theorem w_X8_isTooMany_69 {x : aC} {r : Int × Hp} (X : aX x cX8_isTooMany wsX8_isTooMany RX8 1 rm_X8_isTooMany) (E : aE x shC (some .boolean) 0 r) (t1 : Int) (σ : Hp) (h : F_Rdr_isTooMany_69 t1 σ = some r) : aS x shC 1 69 [] [vI t1] σ := by
  unfold F_Rdr_isTooMany_69 at h
  obtain ⟨g1, h⟩ := gdD h
  exact A_zreturn X g1 E h dX8_isTooMany_69
set_option maxRecDepth 100000 in
set_option maxHeartbeats 4000000 in
theorem w_X8_isTooMany_87 {x : aC} {r : Int × Hp} (X : aX x cX8_isTooMany wsX8_isTooMany RX8 1 rm_X8_isTooMany) (E : aE x shC (some .boolean) 0 r) (t1 : Int) (σ : Hp) (h : F_Rdr_isTooMany_87 t1 σ = some r) : aS x shC 1 87 [] [vI t1] σ := by
  unfold F_Rdr_isTooMany_87 at h
  obtain ⟨g2, h⟩ := gdD h
  exact A_zreturn X g2 E h dX8_isTooMany_87
set_option maxRecDepth 100000 in
set_option maxHeartbeats 4000000 in
theorem w_X8_isTooMany_105 {x : aC} {r : Int × Hp} (X : aX x cX8_isTooMany wsX8_isTooMany RX8 1 rm_X8_isTooMany) (E : aE x shC (some .boolean) 0 r) (t1 : Int) (σ : Hp) (h : F_Rdr_isTooMany_105 t1 σ = some r) : aS x shC 1 105 [] [vI t1] σ := by
  unfold F_Rdr_isTooMany_105 at h
  obtain ⟨g3, h⟩ := gdD h
  exact A_zreturn X g3 E h dX8_isTooMany_105
set_option maxRecDepth 100000 in
set_option maxHeartbeats 4000000 in
theorem w_X8_isTooMany_123 {x : aC} {r : Int × Hp} (X : aX x cX8_isTooMany wsX8_isTooMany RX8 1 rm_X8_isTooMany) (E : aE x shC (some .boolean) 0 r) (t1 : Int) (σ : Hp) (h : F_Rdr_isTooMany_123 t1 σ = some r) : aS x shC 1 123 [] [vI t1] σ := by
  unfold F_Rdr_isTooMany_123 at h
  obtain ⟨g4, h⟩ := gdD h
  exact A_zreturn X g4 E h dX8_isTooMany_123
set_option maxRecDepth 100000 in
set_option maxHeartbeats 4000000 in
theorem w_X8_isTooMany_124 {x : aC} {r : Int × Hp} (X : aX x cX8_isTooMany wsX8_isTooMany RX8 1 rm_X8_isTooMany) (E : aE x shC (some .boolean) 0 r) (σ : Hp) (h : F_Rdr_isTooMany_124 σ = some r) : aS x shC 1 124 [] [] σ := by
  unfold F_Rdr_isTooMany_124 at h
  refine A_iconst X dX8_isTooMany_124 (z := 0) (by decide) ?_
  exact A_zreturn X (Or.inl rfl) E h dX8_isTooMany_125
set_option maxRecDepth 100000 in
set_option maxHeartbeats 4000000 in
theorem m_X8_isTooMany {l : Launch} {g : aG} {σ : Hp} {r : Int × Hp} (h : F_Rdr_isTooMany σ = some r) : aMet l g shC yX8_isTooMany wsX8_isTooMany rm_X8_isTooMany [vR 3] σ 0 r := by
  unfold F_Rdr_isTooMany at h
  refine aMet_of (bytes := cX8_isTooMany) (maxL := 1) (ret := (some .boolean)) (by decide +kernel) rfl (Nat.le_of_ble_eq_true rfl) ⟨rfl, rfl⟩ (fun x e1 e2 X E => ?_)
  subst e1; subst e2
  have X : aX x cX8_isTooMany wsX8_isTooMany RX8 1 rm_X8_isTooMany := X
  show aS x shC 1 0 [(0, vR 3)] [] σ
  refine A_aload_n X 0 rfl rfl dX8_isTooMany_0 ?_
  refine A_getI X fg_X8_isTooMany_47 shC_3 (k := 3) rfl (by decide) dX8_isTooMany_1 ?_
  by_cases c5 : (σ 3 3) = 256
  · replace h := ifT h c5
    refine A_tIn X (j := 256) (tgt := 52) c5 (by decide) (by decide) rfl (by decide) dX8_isTooMany_4 ?_
    refine A_aload_n X 0 rfl rfl dX8_isTooMany_52 ?_
    refine A_getV X fg_X8_isTooMany_12 shC_3 (k := 1) rfl (by decide) dX8_isTooMany_53 ?_
    obtain ⟨q6, hy⟩ : ∃ y, y = (σ 3 1).toNat := ⟨_, rfl⟩
    replace h := ltD h q6 hy
    rw [← hy]
    clear hy
    obtain ⟨g7, h⟩ := gdD h
    refine A_getI X fg_X8_isTooMany_76 (shNet g7) (k := 15) rfl (by decide) dX8_isTooMany_56 ?_
    refine A_bipush X dX8_isTooMany_59 (z := 12) (by decide) ?_
    refine A_icmp_lt X (tgt := 68) (by decide) dX8_isTooMany_61 (fun c8 => ?_) (fun c8 => ?_)
    · replace h := ifT h c8
      refine A_iconst X dX8_isTooMany_68 (z := 0) (by decide) ?_
      refine A_sub [] rfl (L' := []) rfl ?_
      exact w_X8_isTooMany_69 X E 0 σ h
    · replace h := ifF h c8
      refine A_iconst X dX8_isTooMany_64 (z := 1) (by decide) ?_
      refine A_goto X (tgt := 69) (by decide) dX8_isTooMany_65 ?_
      refine A_sub [] rfl (L' := []) rfl ?_
      exact w_X8_isTooMany_69 X E 1 σ h
  replace h := ifF h c5
  by_cases c9 : (σ 3 3) = 257
  · replace h := ifT h c9
    refine A_tIn X (j := 257) (tgt := 124) c9 (by decide) (by decide) rfl (by decide) dX8_isTooMany_4 ?_
    refine A_sub [] rfl (L' := []) rfl ?_
    exact w_X8_isTooMany_124 X E σ h
  replace h := ifF h c9
  by_cases c10 : (σ 3 3) = 258
  · replace h := ifT h c10
    refine A_tIn X (j := 258) (tgt := 70) c10 (by decide) (by decide) rfl (by decide) dX8_isTooMany_4 ?_
    refine A_aload_n X 0 rfl rfl dX8_isTooMany_70 ?_
    refine A_getV X fg_X8_isTooMany_12 shC_3 (k := 1) rfl (by decide) dX8_isTooMany_71 ?_
    obtain ⟨q11, hy⟩ : ∃ y, y = (σ 3 1).toNat := ⟨_, rfl⟩
    replace h := ltD h q11 hy
    rw [← hy]
    clear hy
    obtain ⟨g12, h⟩ := gdD h
    refine A_getI X fg_X8_isTooMany_79 (shNet g12) (k := 16) rfl (by decide) dX8_isTooMany_74 ?_
    refine A_bipush X dX8_isTooMany_77 (z := 30) (by decide) ?_
    refine A_icmp_lt X (tgt := 86) (by decide) dX8_isTooMany_79 (fun c13 => ?_) (fun c13 => ?_)
    · replace h := ifT h c13
      refine A_iconst X dX8_isTooMany_86 (z := 0) (by decide) ?_
      refine A_sub [] rfl (L' := []) rfl ?_
      exact w_X8_isTooMany_87 X E 0 σ h
    · replace h := ifF h c13
      refine A_iconst X dX8_isTooMany_82 (z := 1) (by decide) ?_
      refine A_goto X (tgt := 87) (by decide) dX8_isTooMany_83 ?_
      refine A_sub [] rfl (L' := []) rfl ?_
      exact w_X8_isTooMany_87 X E 1 σ h
  replace h := ifF h c10
  by_cases c14 : (σ 3 3) = 259
  · replace h := ifT h c14
    refine A_tIn X (j := 259) (tgt := 124) c14 (by decide) (by decide) rfl (by decide) dX8_isTooMany_4 ?_
    refine A_sub [] rfl (L' := []) rfl ?_
    exact w_X8_isTooMany_124 X E σ h
  replace h := ifF h c14
  by_cases c15 : (σ 3 3) = 260
  · replace h := ifT h c15
    refine A_tIn X (j := 260) (tgt := 124) c15 (by decide) (by decide) rfl (by decide) dX8_isTooMany_4 ?_
    refine A_sub [] rfl (L' := []) rfl ?_
    exact w_X8_isTooMany_124 X E σ h
  replace h := ifF h c15
  by_cases c16 : (σ 3 3) = 261
  · replace h := ifT h c16
    refine A_tIn X (j := 261) (tgt := 88) c16 (by decide) (by decide) rfl (by decide) dX8_isTooMany_4 ?_
    refine A_aload_n X 0 rfl rfl dX8_isTooMany_88 ?_
    refine A_getV X fg_X8_isTooMany_12 shC_3 (k := 1) rfl (by decide) dX8_isTooMany_89 ?_
    obtain ⟨q17, hy⟩ : ∃ y, y = (σ 3 1).toNat := ⟨_, rfl⟩
    replace h := ltD h q17 hy
    rw [← hy]
    clear hy
    obtain ⟨g18, h⟩ := gdD h
    refine A_getI X fg_X8_isTooMany_82 (shNet g18) (k := 17) rfl (by decide) dX8_isTooMany_92 ?_
    refine A_bipush X dX8_isTooMany_95 (z := 24) (by decide) ?_
    refine A_icmp_lt X (tgt := 104) (by decide) dX8_isTooMany_97 (fun c19 => ?_) (fun c19 => ?_)
    · replace h := ifT h c19
      refine A_iconst X dX8_isTooMany_104 (z := 0) (by decide) ?_
      refine A_sub [] rfl (L' := []) rfl ?_
      exact w_X8_isTooMany_105 X E 0 σ h
    · replace h := ifF h c19
      refine A_iconst X dX8_isTooMany_100 (z := 1) (by decide) ?_
      refine A_goto X (tgt := 105) (by decide) dX8_isTooMany_101 ?_
      refine A_sub [] rfl (L' := []) rfl ?_
      exact w_X8_isTooMany_105 X E 1 σ h
  replace h := ifF h c16
  by_cases c20 : (σ 3 3) = 262
  · replace h := ifT h c20
    refine A_tIn X (j := 262) (tgt := 124) c20 (by decide) (by decide) rfl (by decide) dX8_isTooMany_4 ?_
    refine A_sub [] rfl (L' := []) rfl ?_
    exact w_X8_isTooMany_124 X E σ h
  replace h := ifF h c20
  by_cases c21 : (σ 3 3) = 263
  · replace h := ifT h c21
    refine A_tIn X (j := 263) (tgt := 106) c21 (by decide) (by decide) rfl (by decide) dX8_isTooMany_4 ?_
    refine A_aload_n X 0 rfl rfl dX8_isTooMany_106 ?_
    refine A_getV X fg_X8_isTooMany_12 shC_3 (k := 1) rfl (by decide) dX8_isTooMany_107 ?_
    obtain ⟨q22, hy⟩ : ∃ y, y = (σ 3 1).toNat := ⟨_, rfl⟩
    replace h := ltD h q22 hy
    rw [← hy]
    clear hy
    obtain ⟨g23, h⟩ := gdD h
    refine A_getI X fg_X8_isTooMany_85 (shNet g23) (k := 18) rfl (by decide) dX8_isTooMany_110 ?_
    refine A_bipush X dX8_isTooMany_113 (z := 24) (by decide) ?_
    refine A_icmp_lt X (tgt := 122) (by decide) dX8_isTooMany_115 (fun c24 => ?_) (fun c24 => ?_)
    · replace h := ifT h c24
      refine A_iconst X dX8_isTooMany_122 (z := 0) (by decide) ?_
      refine A_sub [] rfl (L' := []) rfl ?_
      exact w_X8_isTooMany_123 X E 0 σ h
    · replace h := ifF h c24
      refine A_iconst X dX8_isTooMany_118 (z := 1) (by decide) ?_
      refine A_goto X (tgt := 123) (by decide) dX8_isTooMany_119 ?_
      refine A_sub [] rfl (L' := []) rfl ?_
      exact w_X8_isTooMany_123 X E 1 σ h
  replace h := ifF h c21
  refine A_tOut X (tgt := 124) (by omega) (by decide) dX8_isTooMany_4 ?_
  refine A_sub [] rfl (L' := []) rfl ?_
  exact w_X8_isTooMany_124 X E σ h
abbrev rm_X8_fail : Room := { frames := 1, cells := 0, slots := 0, locals := 21 }
theorem in_X8_fail_8 : ∀ w ∈ u_ws RX8 TX8 8, w ∈ wsX8_fail := fun w h => List.mem_cons_of_mem _ (List.mem_append_left _ (List.mem_append_right _ h))
theorem fp_X8_fail_34 : aFp wsX8_fail RX8 34 8 6 .int := ⟨RX8, TX8, 8, tyX8, rfl, in_X8_fail_8, by decide, (List.mem_of_getElem? (i := 1) rfl), rfl, tyX8_ok, nmX8, rfl, rfl⟩
theorem fg_X8_fail_27 : aFl wsX8_fail RX8 27 8 0 := ⟨RX8, TX8, 8, rfl, in_X8_fail_8, by decide, (List.mem_of_getElem? (i := 2) rfl), rfl⟩
theorem fg_X8_fail_40 : aFl wsX8_fail RX8 40 8 2 := ⟨RX8, TX8, 8, rfl, in_X8_fail_8, by decide, (List.mem_of_getElem? (i := 3) rfl), rfl⟩
theorem fp_X8_fail_18 : aFp wsX8_fail RX8 18 8 7 .int := ⟨RX8, TX8, 8, tyX8, rfl, in_X8_fail_8, by decide, (List.mem_of_getElem? (i := 4) rfl), rfl, tyX8_ok, nmX8, rfl, rfl⟩
set_option maxRecDepth 100000 in
set_option maxHeartbeats 4000000 in
theorem m_X8_fail {l : Launch} {g : aG} {a1 : Int} {σ : Hp} {r : Int × Hp} (h : F_Rdr_fail a1 σ = some r) : aMet l g shC yX8_fail wsX8_fail rm_X8_fail [vR 3, vI a1] σ 0 r := by
  unfold F_Rdr_fail at h
  refine aMet_of (bytes := cX8_fail) (maxL := 2) (ret := (some .boolean)) (by decide +kernel) rfl (Nat.le_of_ble_eq_true rfl) ⟨rfl, rfl⟩ (fun x e1 e2 X E => ?_)
  subst e1; subst e2
  have X : aX x cX8_fail wsX8_fail RX8 2 rm_X8_fail := X
  show aS x shC 2 0 [(0, vR 3), (1, vI a1)] [] σ
  refine A_aload_n X 0 rfl rfl dX8_fail_0 ?_
  refine A_iload_n X 1 rfl rfl dX8_fail_1 ?_
  refine A_putI X fp_X8_fail_34 shC_3 (k := 6) rfl (by decide) dX8_fail_2 (fun s1 hy => ?_)
  replace h := ltD h s1 hy
  clear hy
  refine A_aload_n X 0 rfl rfl dX8_fail_5 ?_
  refine A_aload_n X 0 rfl rfl dX8_fail_6 ?_
  refine A_getR X fg_X8_fail_27 shC_3 (k := 0) rfl (by decide) dX8_fail_7 ?_
  refine A_aload_n X 0 rfl rfl dX8_fail_10 ?_
  refine A_getI X fg_X8_fail_40 shC_3 (k := 2) rfl (by decide) dX8_fail_11 ?_
  obtain ⟨v2, s3, e4, h⟩ := clD h
  refine A_callV_I (na := 1) X (m_X9_startAt e4) gX8_fail_X9_startAt rfl ⟨rfl, rfl⟩ (by decide +kernel) rfl ⟨Nat.le_of_ble_eq_true rfl, Nat.le_of_ble_eq_true rfl⟩ shC_42 (by decide) rfl rfl (Nat.le_of_ble_eq_true rfl) dX8_fail_14 ?_
  refine A_putI X fp_X8_fail_18 shC_3 (k := 7) rfl (by decide) dX8_fail_17 (fun s5 hy => ?_)
  replace h := ltD h s5 hy
  clear hy
  refine A_iconst X dX8_fail_20 (z := 0) (by decide) ?_
  exact A_zreturn X (Or.inl rfl) E h dX8_fail_21
abbrev rm_X8_step : Room := { frames := 1, cells := 0, slots := 0, locals := 21 }
theorem in_X8_step_8 : ∀ w ∈ u_ws RX8 TX8 8, w ∈ wsX8_step := fun w h => List.mem_cons_of_mem _ (List.mem_append_left _ (List.mem_append_right _ h))
theorem fg_X8_step_40 : aFl wsX8_step RX8 40 8 2 := ⟨RX8, TX8, 8, rfl, in_X8_step_8, by decide, (List.mem_of_getElem? (i := 1) rfl), rfl⟩
theorem fp_X8_step_40 : aFp wsX8_step RX8 40 8 2 .int := ⟨RX8, TX8, 8, tyX8, rfl, in_X8_step_8, by decide, (List.mem_of_getElem? (i := 1) rfl), rfl, tyX8_ok, nmX8, rfl, rfl⟩
theorem fg_X8_step_27 : aFl wsX8_step RX8 27 8 0 := ⟨RX8, TX8, 8, rfl, in_X8_step_8, by decide, (List.mem_of_getElem? (i := 2) rfl), rfl⟩
theorem fp_X8_step_47 : aFp wsX8_step RX8 47 8 3 .int := ⟨RX8, TX8, 8, tyX8, rfl, in_X8_step_8, by decide, (List.mem_of_getElem? (i := 3) rfl), rfl, tyX8_ok, nmX8, rfl, rfl⟩
set_option maxRecDepth 100000 in
set_option maxHeartbeats 4000000 in
theorem m_X8_step {l : Launch} {g : aG} {σ : Hp} {r : Int × Hp} (h : F_Rdr_step σ = some r) : aMet l g shC yX8_step wsX8_step rm_X8_step [vR 3] σ 3 r := by
  unfold F_Rdr_step at h
  refine aMet_of (bytes := cX8_step) (maxL := 1) (ret := none) (by decide +kernel) rfl (Nat.le_of_ble_eq_true rfl) ⟨rfl, rfl⟩ (fun x e1 e2 X E => ?_)
  subst e1; subst e2
  have X : aX x cX8_step wsX8_step RX8 1 rm_X8_step := X
  show aS x shC 1 0 [(0, vR 3)] [] σ
  refine A_aload_n X 0 rfl rfl dX8_step_0 ?_
  refine A_dup X (by show ¬ (2 : Nat) = 1; decide) dX8_step_1 ?_
  refine A_getI X fg_X8_step_40 shC_3 (k := 2) rfl (by decide) dX8_step_2 ?_
  refine A_iconst X dX8_step_5 (z := 1) (by decide) ?_
  refine A_iadd X dX8_step_6 ?_
  refine A_putI X fp_X8_step_40 shC_3 (k := 2) rfl (by decide) dX8_step_7 (fun s1 hy => ?_)
  replace h := ltD h s1 hy
  clear hy
  refine A_aload_n X 0 rfl rfl dX8_step_10 ?_
  refine A_aload_n X 0 rfl rfl dX8_step_11 ?_
  refine A_getR X fg_X8_step_27 shC_3 (k := 0) rfl (by decide) dX8_step_12 ?_
  refine A_aload_n X 0 rfl rfl dX8_step_15 ?_
  refine A_getI X fg_X8_step_40 shC_3 (k := 2) rfl (by decide) dX8_step_16 ?_
  obtain ⟨v2, s3, e4, h⟩ := clD h
  refine A_callV_I (na := 1) X (m_X9_kindAt e4) gX8_step_X9_kindAt rfl ⟨rfl, rfl⟩ (by decide +kernel) rfl ⟨Nat.le_of_ble_eq_true rfl, Nat.le_of_ble_eq_true rfl⟩ shC_42 (by decide) rfl rfl (Nat.le_of_ble_eq_true rfl) dX8_step_19 ?_
  refine A_putI X fp_X8_step_47 shC_3 (k := 3) rfl (by decide) dX8_step_22 (fun s5 hy => ?_)
  replace h := ltD h s5 hy
  clear hy
  exact A_return X E h dX8_step_25
abbrev rm_X8_skip : Room := { frames := 2, cells := 0, slots := 0, locals := 42 }
theorem in_X8_skip_8 : ∀ w ∈ u_ws RX8 TX8 8, w ∈ wsX8_skip := fun w h => List.mem_cons_of_mem _ (List.mem_append_left _ (List.mem_append_right _ h))
theorem fg_X8_skip_47 : aFl wsX8_skip RX8 47 8 3 := ⟨RX8, TX8, 8, rfl, in_X8_skip_8, by decide, (List.mem_of_getElem? (i := 1) rfl), rfl⟩
set_option maxRecDepth 100000 in
set_option maxHeartbeats 4000000 in
theorem m_X8_skip {l : Launch} {g : aG} {a1 : Int} {σ : Hp} {r : Int × Hp} (h : F_Rdr_skip a1 σ = some r) : aMet l g shC yX8_skip wsX8_skip rm_X8_skip [vR 3, vI a1] σ 0 r := by
  unfold F_Rdr_skip at h
  refine aMet_of (bytes := cX8_skip) (maxL := 2) (ret := (some .boolean)) (by decide +kernel) rfl (Nat.le_of_ble_eq_true rfl) ⟨rfl, rfl⟩ (fun x e1 e2 X E => ?_)
  subst e1; subst e2
  have X : aX x cX8_skip wsX8_skip RX8 2 rm_X8_skip := X
  show aS x shC 2 0 [(0, vR 3), (1, vI a1)] [] σ
  refine A_aload_n X 0 rfl rfl dX8_skip_0 ?_
  refine A_getI X fg_X8_skip_47 shC_3 (k := 3) rfl (by decide) dX8_skip_1 ?_
  refine A_iload_n X 1 rfl rfl dX8_skip_4 ?_
  refine A_icmp_eq X (tgt := 14) (by decide) dX8_skip_5 (fun c1 => ?_) (fun c1 => ?_)
  · replace h := ifT h c1
    refine A_aload_n X 0 rfl rfl dX8_skip_14 ?_
    obtain ⟨v2, s3, e4, h⟩ := clD h
    refine A_callV_V (na := 0) X (m_X8_step e4) gX8_skip_X8_step rfl ⟨rfl, rfl⟩ (by decide +kernel) rfl ⟨Nat.le_of_ble_eq_true rfl, Nat.le_of_ble_eq_true rfl⟩ shC_3 (by decide) rfl rfl (Nat.le_of_ble_eq_true rfl) dX8_skip_15 ?_
    refine A_iconst X dX8_skip_18 (z := 1) (by decide) ?_
    exact A_zreturn X (Or.inr rfl) E h dX8_skip_19
  · replace h := ifF h c1
    refine A_aload_n X 0 rfl rfl dX8_skip_8 ?_
    refine A_iconst X dX8_skip_9 (z := 1) (by decide) ?_
    obtain ⟨v5, s6, e7, h⟩ := clD h
    refine A_callV_I (na := 1) X (m_X8_fail e7) gX8_skip_X8_fail rfl ⟨rfl, rfl⟩ (by decide +kernel) rfl ⟨Nat.le_of_ble_eq_true rfl, Nat.le_of_ble_eq_true rfl⟩ shC_3 (by decide) rfl rfl (Nat.le_of_ble_eq_true rfl) dX8_skip_10 ?_
    obtain ⟨g8, h⟩ := gdD h
    exact A_zreturn X g8 E h dX8_skip_13
abbrev rm_X8_number : Room := { frames := 2, cells := 0, slots := 0, locals := 42 }
theorem in_X8_number_8 : ∀ w ∈ u_ws RX8 TX8 8, w ∈ wsX8_number := fun w h => List.mem_cons_of_mem _ (List.mem_append_left _ (List.mem_append_right _ h))
theorem fg_X8_number_47 : aFl wsX8_number RX8 47 8 3 := ⟨RX8, TX8, 8, rfl, in_X8_number_8, by decide, (List.mem_of_getElem? (i := 1) rfl), rfl⟩
theorem fg_X8_number_27 : aFl wsX8_number RX8 27 8 0 := ⟨RX8, TX8, 8, rfl, in_X8_number_8, by decide, (List.mem_of_getElem? (i := 2) rfl), rfl⟩
theorem fg_X8_number_40 : aFl wsX8_number RX8 40 8 2 := ⟨RX8, TX8, 8, rfl, in_X8_number_8, by decide, (List.mem_of_getElem? (i := 3) rfl), rfl⟩
set_option maxRecDepth 100000 in
set_option maxHeartbeats 4000000 in
theorem m_X8_number {l : Launch} {g : aG} {σ : Hp} {r : Int × Hp} (h : F_Rdr_number σ = some r) : aMet l g shC yX8_number wsX8_number rm_X8_number [vR 3] σ 0 r := by
  unfold F_Rdr_number at h
  refine aMet_of (bytes := cX8_number) (maxL := 2) (ret := (some .int)) (by decide +kernel) rfl (Nat.le_of_ble_eq_true rfl) ⟨rfl, rfl⟩ (fun x e1 e2 X E => ?_)
  subst e1; subst e2
  have X : aX x cX8_number wsX8_number RX8 2 rm_X8_number := X
  show aS x shC 2 0 [(0, vR 3)] [] σ
  refine A_aload_n X 0 rfl rfl dX8_number_0 ?_
  refine A_getI X fg_X8_number_47 shC_3 (k := 3) rfl (by decide) dX8_number_1 ?_
  refine A_sipush X dX8_number_4 (z := 281) (by decide) ?_
  refine A_icmp_eq X (tgt := 18) (by decide) dX8_number_7 (fun c1 => ?_) (fun c1 => ?_)
  · replace h := ifT h c1
    refine A_aload_n X 0 rfl rfl dX8_number_18 ?_
    refine A_getR X fg_X8_number_27 shC_3 (k := 0) rfl (by decide) dX8_number_19 ?_
    refine A_aload_n X 0 rfl rfl dX8_number_22 ?_
    refine A_getI X fg_X8_number_40 shC_3 (k := 2) rfl (by decide) dX8_number_23 ?_
    obtain ⟨v2, s3, e4, h⟩ := clD h
    refine A_callV_I (na := 1) X (m_X9_valueAt e4) gX8_number_X9_valueAt rfl ⟨rfl, rfl⟩ (by decide +kernel) rfl ⟨Nat.le_of_ble_eq_true rfl, Nat.le_of_ble_eq_true rfl⟩ shC_42 (by decide) rfl rfl (Nat.le_of_ble_eq_true rfl) dX8_number_26 ?_
    refine A_istore_n X (L' := [(1, vI v2), (0, vR 3)]) rfl (by decide) rfl dX8_number_29 ?_
    refine A_aload_n X 1 rfl rfl dX8_number_30 ?_
    obtain ⟨v5, s6, e7, h⟩ := clD h
    refine A_callV_V (na := 0) X (m_X8_step e7) gX8_number_X8_step rfl ⟨rfl, rfl⟩ (by decide +kernel) rfl ⟨Nat.le_of_ble_eq_true rfl, Nat.le_of_ble_eq_true rfl⟩ shC_3 (by decide) rfl rfl (Nat.le_of_ble_eq_true rfl) dX8_number_31 ?_
    refine A_iload_n X 0 rfl rfl dX8_number_34 ?_
    exact A_ireturn X E h dX8_number_35
  · replace h := ifF h c1
    refine A_aload_n X 0 rfl rfl dX8_number_10 ?_
    refine A_iconst X dX8_number_11 (z := 1) (by decide) ?_
    obtain ⟨v8, s9, e10, h⟩ := clD h
    refine A_callV_I (na := 1) X (m_X8_fail e10) gX8_number_X8_fail rfl ⟨rfl, rfl⟩ (by decide +kernel) rfl ⟨Nat.le_of_ble_eq_true rfl, Nat.le_of_ble_eq_true rfl⟩ shC_3 (by decide) rfl rfl (Nat.le_of_ble_eq_true rfl) dX8_number_12 ?_
    refine A_pop X (by show ¬ (0 : Nat) = 1; decide) dX8_number_15 ?_
    refine A_iconst X dX8_number_16 (z := (-1)) (by decide) ?_
    exact A_ireturn X E h dX8_number_17
abbrev rm_X8_whoLives : Room := { frames := 3, cells := 0, slots := 0, locals := 63 }
theorem in_X8_whoLives_8 : ∀ w ∈ u_ws RX8 TX8 8, w ∈ wsX8_whoLives := fun w h => List.mem_cons_of_mem _ (List.mem_append_left _ (List.mem_append_left _ (List.mem_append_right _ h)))
theorem fg_X8_whoLives_47 : aFl wsX8_whoLives RX8 47 8 3 := ⟨RX8, TX8, 8, rfl, in_X8_whoLives_8, by decide, (List.mem_of_getElem? (i := 1) rfl), rfl⟩
theorem fg_X8_whoLives_27 : aFl wsX8_whoLives RX8 27 8 0 := ⟨RX8, TX8, 8, rfl, in_X8_whoLives_8, by decide, (List.mem_of_getElem? (i := 2) rfl), rfl⟩
theorem fg_X8_whoLives_40 : aFl wsX8_whoLives RX8 40 8 2 := ⟨RX8, TX8, 8, rfl, in_X8_whoLives_8, by decide, (List.mem_of_getElem? (i := 3) rfl), rfl⟩
theorem fg_X8_whoLives_12 : aFl wsX8_whoLives RX8 12 8 1 := ⟨RX8, TX8, 8, rfl, in_X8_whoLives_8, by decide, (List.mem_of_getElem? (i := 4) rfl), rfl⟩
set_option maxRecDepth 100000 in
set_option maxHeartbeats 4000000 in
theorem m_X8_whoLives {l : Launch} {g : aG} {σ : Hp} {r : Int × Hp} (h : F_Rdr_whoLives σ = some r) : aMet l g shC yX8_whoLives wsX8_whoLives rm_X8_whoLives [vR 3] σ 0 r := by
  unfold F_Rdr_whoLives at h
  refine aMet_of (bytes := cX8_whoLives) (maxL := 3) (ret := (some .boolean)) (by decide +kernel) rfl (Nat.le_of_ble_eq_true rfl) ⟨rfl, rfl⟩ (fun x e1 e2 X E => ?_)
  subst e1; subst e2
  have X : aX x cX8_whoLives wsX8_whoLives RX8 3 rm_X8_whoLives := X
  show aS x shC 3 0 [(0, vR 3)] [] σ
  refine A_aload_n X 0 rfl rfl dX8_whoLives_0 ?_
  obtain ⟨v1, s2, e3, h⟩ := clD h
  refine A_callV_V (na := 0) X (m_X8_step e3) gX8_whoLives_X8_step rfl ⟨rfl, rfl⟩ (by decide +kernel) rfl ⟨Nat.le_of_ble_eq_true rfl, Nat.le_of_ble_eq_true rfl⟩ shC_3 (by decide) rfl rfl (Nat.le_of_ble_eq_true rfl) dX8_whoLives_1 ?_
  refine A_aload_n X 0 rfl rfl dX8_whoLives_4 ?_
  refine A_getI X fg_X8_whoLives_47 shC_3 (k := 3) rfl (by decide) dX8_whoLives_5 ?_
  refine A_sipush X dX8_whoLives_8 (z := 280) (by decide) ?_
  refine A_icmp_eq X (tgt := 20) (by decide) dX8_whoLives_11 (fun c4 => ?_) (fun c4 => ?_)
  · replace h := ifT h c4
    refine A_aload_n X 0 rfl rfl dX8_whoLives_20 ?_
    refine A_getR X fg_X8_whoLives_27 shC_3 (k := 0) rfl (by decide) dX8_whoLives_21 ?_
    refine A_aload_n X 0 rfl rfl dX8_whoLives_24 ?_
    refine A_getI X fg_X8_whoLives_40 shC_3 (k := 2) rfl (by decide) dX8_whoLives_25 ?_
    obtain ⟨v5, s6, e7, h⟩ := clD h
    refine A_callV_I (na := 1) X (m_X9_valueAt e7) gX8_whoLives_X9_valueAt rfl ⟨rfl, rfl⟩ (by decide +kernel) rfl ⟨Nat.le_of_ble_eq_true rfl, Nat.le_of_ble_eq_true rfl⟩ shC_42 (by decide) rfl rfl (Nat.le_of_ble_eq_true rfl) dX8_whoLives_28 ?_
    refine A_istore_n X (L' := [(1, vI v5), (0, vR 3)]) rfl (by decide) rfl dX8_whoLives_31 ?_
    refine A_aload_n X 1 rfl rfl dX8_whoLives_32 ?_
    refine A_getV X fg_X8_whoLives_12 shC_3 (k := 1) rfl (by decide) dX8_whoLives_33 ?_
    obtain ⟨q8, hy⟩ : ∃ y, y = (s6 3 1).toNat := ⟨_, rfl⟩
    replace h := ltD h q8 hy
    rw [← hy]
    clear hy
    obtain ⟨g9, h⟩ := gdD h
    refine A_iload_n X 0 rfl rfl dX8_whoLives_36 ?_
    obtain ⟨v10, s11, e12, h⟩ := clD h
    refine A_callV_I (na := 1) X (m_X6_whoIs e12) gX8_whoLives_X6_whoIs rfl ⟨rfl, rfl⟩ (by decide +kernel) rfl ⟨Nat.le_of_ble_eq_true rfl, Nat.le_of_ble_eq_true rfl⟩ (shNet g9) (by decide) rfl rfl (Nat.le_of_ble_eq_true rfl) dX8_whoLives_37 ?_
    refine A_iconst X dX8_whoLives_40 (z := (-1)) (by decide) ?_
    refine A_icmp_eq X (tgt := 50) (by decide) dX8_whoLives_41 (fun c13 => ?_) (fun c13 => ?_)
    · replace h := ifT h c13
      refine A_aload_n X 1 rfl rfl dX8_whoLives_50 ?_
      obtain ⟨v14, s15, e16, h⟩ := clD h
      refine A_callV_V (na := 0) X (m_X8_step e16) gX8_whoLives_X8_step rfl ⟨rfl, rfl⟩ (by decide +kernel) rfl ⟨Nat.le_of_ble_eq_true rfl, Nat.le_of_ble_eq_true rfl⟩ shC_3 (by decide) rfl rfl (Nat.le_of_ble_eq_true rfl) dX8_whoLives_51 ?_
      refine A_aload_n X 1 rfl rfl dX8_whoLives_54 ?_
      refine A_sipush X dX8_whoLives_55 (z := 257) (by decide) ?_
      obtain ⟨v17, s18, e19, h⟩ := clD h
      refine A_callV_I (na := 1) X (m_X8_skip e19) gX8_whoLives_X8_skip rfl ⟨rfl, rfl⟩ (by decide +kernel) rfl ⟨Nat.le_of_ble_eq_true rfl, Nat.le_of_ble_eq_true rfl⟩ shC_3 (by decide) rfl rfl (Nat.le_of_ble_eq_true rfl) dX8_whoLives_58 ?_
      refine A_if_ne X (tgt := 66) (by decide) dX8_whoLives_61 (fun c20 => ?_) (fun c20 => ?_)
      · replace h := ifF h c20
        refine A_aload_n X 1 rfl rfl dX8_whoLives_66 ?_
        obtain ⟨v21, s22, e23, h⟩ := clD h
        refine A_callV_I (na := 0) X (m_X8_number e23) gX8_whoLives_X8_number rfl ⟨rfl, rfl⟩ (by decide +kernel) rfl ⟨Nat.le_of_ble_eq_true rfl, Nat.le_of_ble_eq_true rfl⟩ shC_3 (by decide) rfl rfl (Nat.le_of_ble_eq_true rfl) dX8_whoLives_67 ?_
        refine A_istore_n X (L' := [(2, vI v21), (1, vI v5), (0, vR 3)]) rfl (by decide) rfl dX8_whoLives_70 ?_
        refine A_iload_n X 0 rfl rfl dX8_whoLives_71 ?_
        refine A_iconst X dX8_whoLives_72 (z := (-1)) (by decide) ?_
        refine A_icmp_ne X (tgt := 78) (by decide) dX8_whoLives_73 (fun c24 => ?_) (fun c24 => ?_)
        · replace h := ifF h c24
          refine A_aload_n X 2 rfl rfl dX8_whoLives_78 ?_
          refine A_getV X fg_X8_whoLives_12 shC_3 (k := 1) rfl (by decide) dX8_whoLives_79 ?_
          obtain ⟨q25, hy⟩ : ∃ y, y = (s22 3 1).toNat := ⟨_, rfl⟩
          replace h := ltD h q25 hy
          rw [← hy]
          clear hy
          obtain ⟨g26, h⟩ := gdD h
          refine A_iload_n X 1 rfl rfl dX8_whoLives_82 ?_
          refine A_iload_n X 0 rfl rfl dX8_whoLives_83 ?_
          obtain ⟨v27, s28, e29, h⟩ := clD h
          refine A_callV_V (na := 2) X (m_X6_addWho e29) gX8_whoLives_X6_addWho rfl ⟨rfl, rfl⟩ (by decide +kernel) rfl ⟨Nat.le_of_ble_eq_true rfl, Nat.le_of_ble_eq_true rfl⟩ (shNet g26) (by decide) rfl rfl (Nat.le_of_ble_eq_true rfl) dX8_whoLives_84 ?_
          refine A_iconst X dX8_whoLives_87 (z := 1) (by decide) ?_
          exact A_zreturn X (Or.inr rfl) E h dX8_whoLives_88
        · replace h := ifT h c24
          refine A_iconst X dX8_whoLives_76 (z := 0) (by decide) ?_
          exact A_zreturn X (Or.inl rfl) E h dX8_whoLives_77
      · replace h := ifT h c20
        refine A_iconst X dX8_whoLives_64 (z := 0) (by decide) ?_
        exact A_zreturn X (Or.inl rfl) E h dX8_whoLives_65
    · replace h := ifF h c13
      refine A_aload_n X 1 rfl rfl dX8_whoLives_44 ?_
      refine A_iconst X dX8_whoLives_45 (z := 2) (by decide) ?_
      obtain ⟨v30, s31, e32, h⟩ := clD h
      refine A_callV_I (na := 1) X (m_X8_fail e32) gX8_whoLives_X8_fail rfl ⟨rfl, rfl⟩ (by decide +kernel) rfl ⟨Nat.le_of_ble_eq_true rfl, Nat.le_of_ble_eq_true rfl⟩ shC_3 (by decide) rfl rfl (Nat.le_of_ble_eq_true rfl) dX8_whoLives_46 ?_
      obtain ⟨g33, h⟩ := gdD h
      exact A_zreturn X g33 E h dX8_whoLives_49
  · replace h := ifF h c4
    refine A_aload_n X 0 rfl rfl dX8_whoLives_14 ?_
    refine A_iconst X dX8_whoLives_15 (z := 1) (by decide) ?_
    obtain ⟨v34, s35, e36, h⟩ := clD h
    refine A_callV_I (na := 1) X (m_X8_fail e36) gX8_whoLives_X8_fail rfl ⟨rfl, rfl⟩ (by decide +kernel) rfl ⟨Nat.le_of_ble_eq_true rfl, Nat.le_of_ble_eq_true rfl⟩ shC_3 (by decide) rfl rfl (Nat.le_of_ble_eq_true rfl) dX8_whoLives_16 ?_
    obtain ⟨g37, h⟩ := gdD h
    exact A_zreturn X g37 E h dX8_whoLives_19
abbrev rm_X8_somebody : Room := { frames := 2, cells := 0, slots := 0, locals := 42 }
theorem in_X8_somebody_8 : ∀ w ∈ u_ws RX8 TX8 8, w ∈ wsX8_somebody := fun w h => List.mem_cons_of_mem _ (List.mem_append_left _ (List.mem_append_left _ (List.mem_append_right _ h)))
theorem fg_X8_somebody_47 : aFl wsX8_somebody RX8 47 8 3 := ⟨RX8, TX8, 8, rfl, in_X8_somebody_8, by decide, (List.mem_of_getElem? (i := 1) rfl), rfl⟩
theorem fg_X8_somebody_12 : aFl wsX8_somebody RX8 12 8 1 := ⟨RX8, TX8, 8, rfl, in_X8_somebody_8, by decide, (List.mem_of_getElem? (i := 2) rfl), rfl⟩
theorem fg_X8_somebody_27 : aFl wsX8_somebody RX8 27 8 0 := ⟨RX8, TX8, 8, rfl, in_X8_somebody_8, by decide, (List.mem_of_getElem? (i := 3) rfl), rfl⟩
theorem fg_X8_somebody_40 : aFl wsX8_somebody RX8 40 8 2 := ⟨RX8, TX8, 8, rfl, in_X8_somebody_8, by decide, (List.mem_of_getElem? (i := 4) rfl), rfl⟩
set_option maxRecDepth 100000 in
set_option maxHeartbeats 4000000 in
theorem w_X8_somebody_48 {x : aC} {r : Int × Hp} (X : aX x cX8_somebody wsX8_somebody RX8 2 rm_X8_somebody) (E : aE x shC (some .int) 0 r) (x1 : Int) (σ : Hp) (h : F_Rdr_somebody_48 x1 σ = some r) : aS x shC 2 48 [(1, vI x1)] [] σ := by
  unfold F_Rdr_somebody_48 at h
  refine A_iload_n X 0 rfl rfl dX8_somebody_48 ?_
  exact A_ireturn X E h dX8_somebody_49
set_option maxRecDepth 100000 in
set_option maxHeartbeats 4000000 in
theorem m_X8_somebody {l : Launch} {g : aG} {σ : Hp} {r : Int × Hp} (h : F_Rdr_somebody σ = some r) : aMet l g shC yX8_somebody wsX8_somebody rm_X8_somebody [vR 3] σ 0 r := by
  unfold F_Rdr_somebody at h
  refine aMet_of (bytes := cX8_somebody) (maxL := 2) (ret := (some .int)) (by decide +kernel) rfl (Nat.le_of_ble_eq_true rfl) ⟨rfl, rfl⟩ (fun x e1 e2 X E => ?_)
  subst e1; subst e2
  have X : aX x cX8_somebody wsX8_somebody RX8 2 rm_X8_somebody := X
  show aS x shC 2 0 [(0, vR 3)] [] σ
  refine A_aload_n X 0 rfl rfl dX8_somebody_0 ?_
  refine A_getI X fg_X8_somebody_47 shC_3 (k := 3) rfl (by decide) dX8_somebody_1 ?_
  refine A_sipush X dX8_somebody_4 (z := 280) (by decide) ?_
  refine A_icmp_eq X (tgt := 18) (by decide) dX8_somebody_7 (fun c1 => ?_) (fun c1 => ?_)
  · replace h := ifT h c1
    refine A_aload_n X 0 rfl rfl dX8_somebody_18 ?_
    refine A_getV X fg_X8_somebody_12 shC_3 (k := 1) rfl (by decide) dX8_somebody_19 ?_
    obtain ⟨q2, hy⟩ : ∃ y, y = (σ 3 1).toNat := ⟨_, rfl⟩
    replace h := ltD h q2 hy
    rw [← hy]
    clear hy
    obtain ⟨g3, h⟩ := gdD h
    refine A_aload_n X 0 rfl rfl dX8_somebody_22 ?_
    refine A_getR X fg_X8_somebody_27 shC_3 (k := 0) rfl (by decide) dX8_somebody_23 ?_
    refine A_aload_n X 0 rfl rfl dX8_somebody_26 ?_
    refine A_getI X fg_X8_somebody_40 shC_3 (k := 2) rfl (by decide) dX8_somebody_27 ?_
    obtain ⟨v4, s5, e6, h⟩ := clD h
    refine A_callV_I (na := 1) X (m_X9_valueAt e6) gX8_somebody_X9_valueAt rfl ⟨rfl, rfl⟩ (by decide +kernel) rfl ⟨Nat.le_of_ble_eq_true rfl, Nat.le_of_ble_eq_true rfl⟩ shC_42 (by decide) rfl rfl (Nat.le_of_ble_eq_true rfl) dX8_somebody_30 ?_
    obtain ⟨v7, s8, e9, h⟩ := clD h
    refine A_callV_I (na := 1) X (m_X6_whoIs e9) gX8_somebody_X6_whoIs rfl ⟨rfl, rfl⟩ (by decide +kernel) rfl ⟨Nat.le_of_ble_eq_true rfl, Nat.le_of_ble_eq_true rfl⟩ (shNet g3) (by decide) rfl rfl (Nat.le_of_ble_eq_true rfl) dX8_somebody_33 ?_
    refine A_istore_n X (L' := [(1, vI v7), (0, vR 3)]) rfl (by decide) rfl dX8_somebody_36 ?_
    refine A_iload_n X 0 rfl rfl dX8_somebody_37 ?_
    refine A_iconst X dX8_somebody_38 (z := (-1)) (by decide) ?_
    refine A_icmp_ne X (tgt := 48) (by decide) dX8_somebody_39 (fun c10 => ?_) (fun c10 => ?_)
    · replace h := ifF h c10
      refine A_sub [0] rfl (L' := [(1, vI v7)]) rfl ?_
      exact w_X8_somebody_48 X E v7 s8 h
    · replace h := ifT h c10
      refine A_aload_n X 1 rfl rfl dX8_somebody_42 ?_
      refine A_iconst X dX8_somebody_43 (z := 3) (by decide) ?_
      obtain ⟨v11, s12, e13, h⟩ := clD h
      refine A_callV_I (na := 1) X (m_X8_fail e13) gX8_somebody_X8_fail rfl ⟨rfl, rfl⟩ (by decide +kernel) rfl ⟨Nat.le_of_ble_eq_true rfl, Nat.le_of_ble_eq_true rfl⟩ shC_3 (by decide) rfl rfl (Nat.le_of_ble_eq_true rfl) dX8_somebody_44 ?_
      refine A_pop X (by show ¬ (0 : Nat) = 1; decide) dX8_somebody_47 ?_
      refine A_sub [0] rfl (L' := [(1, vI v7)]) rfl ?_
      exact w_X8_somebody_48 X E v7 s12 h
  · replace h := ifF h c1
    refine A_aload_n X 0 rfl rfl dX8_somebody_10 ?_
    refine A_iconst X dX8_somebody_11 (z := 1) (by decide) ?_
    obtain ⟨v14, s15, e16, h⟩ := clD h
    refine A_callV_I (na := 1) X (m_X8_fail e16) gX8_somebody_X8_fail rfl ⟨rfl, rfl⟩ (by decide +kernel) rfl ⟨Nat.le_of_ble_eq_true rfl, Nat.le_of_ble_eq_true rfl⟩ shC_3 (by decide) rfl rfl (Nat.le_of_ble_eq_true rfl) dX8_somebody_12 ?_
    refine A_pop X (by show ¬ (0 : Nat) = 1; decide) dX8_somebody_15 ?_
    refine A_iconst X dX8_somebody_16 (z := (-1)) (by decide) ?_
    exact A_ireturn X E h dX8_somebody_17
abbrev rm_X8_twoNames : Room := { frames := 3, cells := 0, slots := 0, locals := 63 }
theorem in_X8_twoNames_8 : ∀ w ∈ u_ws RX8 TX8 8, w ∈ wsX8_twoNames := fun w h => List.mem_cons_of_mem _ (List.mem_append_left _ (List.mem_append_left _ (List.mem_append_right _ h)))
theorem fg_X8_twoNames_12 : aFl wsX8_twoNames RX8 12 8 1 := ⟨RX8, TX8, 8, rfl, in_X8_twoNames_8, by decide, (List.mem_of_getElem? (i := 3) rfl), rfl⟩
theorem in_X8_twoNames_6 : ∀ w ∈ u_ws RX6 TX6 20, w ∈ wsX8_twoNames := fun w h => List.mem_cons_of_mem _ (List.mem_append_left _ (List.mem_append_right _ h))
theorem fg_X8_twoNames_143 : aFl wsX8_twoNames RX8 143 6 10 := ⟨RX6, TX6, 20, rfl, in_X8_twoNames_6, by decide, (List.mem_of_getElem? (i := 5) rfl), rfl⟩
theorem fg_X8_twoNames_111 : aFl wsX8_twoNames RX8 111 8 4 := ⟨RX8, TX8, 8, rfl, in_X8_twoNames_8, by decide, (List.mem_of_getElem? (i := 1) rfl), rfl⟩
theorem fg_X8_twoNames_114 : aFl wsX8_twoNames RX8 114 8 5 := ⟨RX8, TX8, 8, rfl, in_X8_twoNames_8, by decide, (List.mem_of_getElem? (i := 2) rfl), rfl⟩
theorem fp_X8_twoNames_111 : aFp wsX8_twoNames RX8 111 8 4 .int := ⟨RX8, TX8, 8, tyX8, rfl, in_X8_twoNames_8, by decide, (List.mem_of_getElem? (i := 1) rfl), rfl, tyX8_ok, nmX8, rfl, rfl⟩
theorem fp_X8_twoNames_114 : aFp wsX8_twoNames RX8 114 8 5 .int := ⟨RX8, TX8, 8, tyX8, rfl, in_X8_twoNames_8, by decide, (List.mem_of_getElem? (i := 2) rfl), rfl, tyX8_ok, nmX8, rfl, rfl⟩
theorem fg_X8_twoNames_139 : aFl wsX8_twoNames RX8 139 6 8 := ⟨RX6, TX6, 20, rfl, in_X8_twoNames_6, by decide, (List.mem_of_getElem? (i := 4) rfl), rfl⟩
set_option maxRecDepth 100000 in
set_option maxHeartbeats 4000000 in
theorem w_X8_twoNames_131 {x : aC} {r : Int × Hp} {a1 : Int} (X : aX x cX8_twoNames wsX8_twoNames RX8 4 rm_X8_twoNames) (E : aE x shC (some .boolean) 0 r) (σ : Hp) (h : F_Rdr_twoNames_131 a1 σ = some r) : aS x shC 4 131 [(0, vR 3)] [] σ := by
  unfold F_Rdr_twoNames_131 at h
  refine A_aload_n X 0 rfl rfl dX8_twoNames_131 ?_
  refine A_iconst X dX8_twoNames_132 (z := 2) (by decide) ?_
  obtain ⟨v1, s2, e3, h⟩ := clD h
  refine A_callV_I (na := 1) X (m_X8_fail e3) gX8_twoNames_X8_fail rfl ⟨rfl, rfl⟩ (by decide +kernel) rfl ⟨Nat.le_of_ble_eq_true rfl, Nat.le_of_ble_eq_true rfl⟩ shC_3 (by decide) rfl rfl (Nat.le_of_ble_eq_true rfl) dX8_twoNames_133 ?_
  obtain ⟨g4, h⟩ := gdD h
  exact A_zreturn X g4 E h dX8_twoNames_136
set_option maxRecDepth 100000 in
set_option maxHeartbeats 4000000 in
theorem w_X8_twoNames_154 {x : aC} {r : Int × Hp} {a1 : Int} (X : aX x cX8_twoNames wsX8_twoNames RX8 4 rm_X8_twoNames) (E : aE x shC (some .boolean) 0 r) (σ : Hp) (h : F_Rdr_twoNames_154 a1 σ = some r) : aS x shC 4 154 [(0, vR 3)] [] σ := by
  unfold F_Rdr_twoNames_154 at h
  refine A_aload_n X 0 rfl rfl dX8_twoNames_154 ?_
  obtain ⟨v5, s6, e7, h⟩ := clD h
  refine A_callV_V (na := 0) X (m_X8_step e7) gX8_twoNames_X8_step rfl ⟨rfl, rfl⟩ (by decide +kernel) rfl ⟨Nat.le_of_ble_eq_true rfl, Nat.le_of_ble_eq_true rfl⟩ shC_3 (by decide) rfl rfl (Nat.le_of_ble_eq_true rfl) dX8_twoNames_155 ?_
  refine A_iconst X dX8_twoNames_158 (z := 1) (by decide) ?_
  exact A_zreturn X (Or.inr rfl) E h dX8_twoNames_159
set_option maxRecDepth 100000 in
set_option maxHeartbeats 4000000 in
theorem w_X8_twoNames_137 {x : aC} {r : Int × Hp} {a1 : Int} (X : aX x cX8_twoNames wsX8_twoNames RX8 4 rm_X8_twoNames) (E : aE x shC (some .boolean) 0 r) (x2 : Int) (σ : Hp) (h : F_Rdr_twoNames_137 a1 x2 σ = some r) : aS x shC 4 137 [(0, vR 3), (1, vI a1), (2, vI x2)] [] σ := by
  unfold F_Rdr_twoNames_137 at h
  refine A_iload_n X 1 rfl rfl dX8_twoNames_137 ?_
  refine A_sipush X dX8_twoNames_138 (z := 263) (by decide) ?_
  refine A_icmp_ne X (tgt := 154) (by decide) dX8_twoNames_141 (fun c8 => ?_) (fun c8 => ?_)
  · replace h := ifF h c8
    refine A_sub [0] rfl (L' := [(0, vR 3)]) rfl ?_
    exact w_X8_twoNames_154 (a1 := a1) X E σ h
  · replace h := ifT h c8
    refine A_iload_n X 2 rfl rfl dX8_twoNames_144 ?_
    refine A_if_ne X (tgt := 154) (by decide) dX8_twoNames_145 (fun c9 => ?_) (fun c9 => ?_)
    · replace h := ifF h c9
      refine A_sub [0] rfl (L' := [(0, vR 3)]) rfl ?_
      exact w_X8_twoNames_154 (a1 := a1) X E σ h
    · replace h := ifT h c9
      refine A_aload_n X 0 rfl rfl dX8_twoNames_148 ?_
      refine A_iconst X dX8_twoNames_149 (z := 3) (by decide) ?_
      obtain ⟨v10, s11, e12, h⟩ := clD h
      refine A_callV_I (na := 1) X (m_X8_fail e12) gX8_twoNames_X8_fail rfl ⟨rfl, rfl⟩ (by decide +kernel) rfl ⟨Nat.le_of_ble_eq_true rfl, Nat.le_of_ble_eq_true rfl⟩ shC_3 (by decide) rfl rfl (Nat.le_of_ble_eq_true rfl) dX8_twoNames_150 ?_
      obtain ⟨g13, h⟩ := gdD h
      exact A_zreturn X g13 E h dX8_twoNames_153
set_option maxRecDepth 100000 in
set_option maxHeartbeats 4000000 in
theorem w_X8_twoNames_120 {x : aC} {r : Int × Hp} {a1 : Int} (X : aX x cX8_twoNames wsX8_twoNames RX8 4 rm_X8_twoNames) (E : aE x shC (some .boolean) 0 r) (x2 : Int) (x3 : Int) (σ : Hp) (h : F_Rdr_twoNames_120 a1 x2 x3 σ = some r) : aS x shC 4 120 [(0, vR 3), (1, vI a1), (2, vI x2), (3, vI x3)] [] σ := by
  unfold F_Rdr_twoNames_120 at h
  refine A_iload_n X 1 rfl rfl dX8_twoNames_120 ?_
  refine A_sipush X dX8_twoNames_121 (z := 261) (by decide) ?_
  refine A_icmp_ne X (tgt := 137) (by decide) dX8_twoNames_124 (fun c14 => ?_) (fun c14 => ?_)
  · replace h := ifF h c14
    refine A_sub [0, 1, 2] rfl (L' := [(0, vR 3), (1, vI a1), (2, vI x2)]) rfl ?_
    exact w_X8_twoNames_137 (a1 := a1) X E x2 σ h
  · replace h := ifT h c14
    refine A_iload_n X 3 rfl rfl dX8_twoNames_127 ?_
    refine A_if_eq X (tgt := 137) (by decide) dX8_twoNames_128 (fun c15 => ?_) (fun c15 => ?_)
    · replace h := ifT h c15
      refine A_sub [0, 1, 2] rfl (L' := [(0, vR 3), (1, vI a1), (2, vI x2)]) rfl ?_
      exact w_X8_twoNames_137 (a1 := a1) X E x2 σ h
    · replace h := ifF h c15
      refine A_sub [0] rfl (L' := [(0, vR 3)]) rfl ?_
      exact w_X8_twoNames_131 (a1 := a1) X E σ h
set_option maxRecDepth 100000 in
set_option maxHeartbeats 4000000 in
theorem w_X8_twoNames_87 {x : aC} {r : Int × Hp} {a1 : Int} (X : aX x cX8_twoNames wsX8_twoNames RX8 4 rm_X8_twoNames) (E : aE x shC (some .boolean) 0 r) (t1 : Int) (σ : Hp) (h : F_Rdr_twoNames_87 a1 t1 σ = some r) : aS x shC 4 87 [(0, vR 3), (1, vI a1)] [vI t1] σ := by
  unfold F_Rdr_twoNames_87 at h
  refine A_istore_n X (L' := [(2, vI t1), (0, vR 3), (1, vI a1)]) rfl (by decide) rfl dX8_twoNames_87 ?_
  refine A_aload_n X 1 rfl rfl dX8_twoNames_88 ?_
  refine A_getV X fg_X8_twoNames_12 shC_3 (k := 1) rfl (by decide) dX8_twoNames_89 ?_
  obtain ⟨q16, hy⟩ : ∃ y, y = (σ 3 1).toNat := ⟨_, rfl⟩
  replace h := ltD h q16 hy
  rw [← hy]
  clear hy
  obtain ⟨g17, h⟩ := gdD h
  refine A_getR X fg_X8_twoNames_143 (shNet g17) (k := 10) rfl (by decide) dX8_twoNames_92 ?_
  refine A_aload_n X 1 rfl rfl dX8_twoNames_95 ?_
  refine A_getI X fg_X8_twoNames_111 shC_3 (k := 4) rfl (by decide) dX8_twoNames_96 ?_
  refine A_bipush X dX8_twoNames_99 (z := 12) (by decide) ?_
  refine A_imul X dX8_twoNames_101 ?_
  refine A_aload_n X 1 rfl rfl dX8_twoNames_102 ?_
  refine A_getI X fg_X8_twoNames_114 shC_3 (k := 5) rfl (by decide) dX8_twoNames_103 ?_
  refine A_iadd X dX8_twoNames_106 ?_
  obtain ⟨g18, h⟩ := gdD h
  refine A_zald X g18 (shNet_tasteTold g17) dX8_twoNames_107 ?_
  refine A_istore_nN X (L' := fun y3_19 => [(3, vI y3_19), (2, vI t1), (0, vR 3), (1, vI a1)]) rfl (by decide) (fun _ => rfl) dX8_twoNames_108 (fun y3_19 hy => ?_)
  replace h := ltD h y3_19 hy
  clear hy
  refine A_iload_n X 3 rfl rfl dX8_twoNames_109 ?_
  refine A_sipush X dX8_twoNames_110 (z := 258) (by decide) ?_
  refine A_icmp_ne X (tgt := 120) (by decide) dX8_twoNames_113 (fun c20 => ?_) (fun c20 => ?_)
  · replace h := ifF h c20
    refine A_sub [2, 3, 1, 0] rfl (L' := [(0, vR 3), (1, vI a1), (2, vI t1), (3, vI y3_19)]) rfl ?_
    exact w_X8_twoNames_120 (a1 := a1) X E t1 y3_19 σ h
  · replace h := ifT h c20
    refine A_iload_n X 1 rfl rfl dX8_twoNames_116 ?_
    refine A_if_ne X (tgt := 131) (by decide) dX8_twoNames_117 (fun c21 => ?_) (fun c21 => ?_)
    · replace h := ifF h c21
      refine A_sub [2] rfl (L' := [(0, vR 3)]) rfl ?_
      exact w_X8_twoNames_131 (a1 := a1) X E σ h
    · replace h := ifT h c21
      refine A_sub [2, 3, 1, 0] rfl (L' := [(0, vR 3), (1, vI a1), (2, vI t1), (3, vI y3_19)]) rfl ?_
      exact w_X8_twoNames_120 (a1 := a1) X E t1 y3_19 σ h
set_option maxRecDepth 100000 in
set_option maxHeartbeats 4000000 in
theorem m_X8_twoNames {l : Launch} {g : aG} {a1 : Int} {σ : Hp} {r : Int × Hp} (h : F_Rdr_twoNames a1 σ = some r) : aMet l g shC yX8_twoNames wsX8_twoNames rm_X8_twoNames [vR 3, vI a1] σ 0 r := by
  unfold F_Rdr_twoNames at h
  refine aMet_of (bytes := cX8_twoNames) (maxL := 4) (ret := (some .boolean)) (by decide +kernel) rfl (Nat.le_of_ble_eq_true rfl) ⟨rfl, rfl⟩ (fun x e1 e2 X E => ?_)
  subst e1; subst e2
  have X : aX x cX8_twoNames wsX8_twoNames RX8 4 rm_X8_twoNames := X
  show aS x shC 4 0 [(0, vR 3), (1, vI a1)] [] σ
  refine A_aload_n X 0 rfl rfl dX8_twoNames_0 ?_
  obtain ⟨v22, s23, e24, h⟩ := clD h
  refine A_callV_V (na := 0) X (m_X8_step e24) gX8_twoNames_X8_step rfl ⟨rfl, rfl⟩ (by decide +kernel) rfl ⟨Nat.le_of_ble_eq_true rfl, Nat.le_of_ble_eq_true rfl⟩ shC_3 (by decide) rfl rfl (Nat.le_of_ble_eq_true rfl) dX8_twoNames_1 ?_
  refine A_aload_n X 0 rfl rfl dX8_twoNames_4 ?_
  refine A_aload_n X 0 rfl rfl dX8_twoNames_5 ?_
  obtain ⟨v25, s26, e27, h⟩ := clD h
  refine A_callV_I (na := 0) X (m_X8_somebody e27) gX8_twoNames_X8_somebody rfl ⟨rfl, rfl⟩ (by decide +kernel) rfl ⟨Nat.le_of_ble_eq_true rfl, Nat.le_of_ble_eq_true rfl⟩ shC_3 (by decide) rfl rfl (Nat.le_of_ble_eq_true rfl) dX8_twoNames_6 ?_
  refine A_putI X fp_X8_twoNames_111 shC_3 (k := 4) rfl (by decide) dX8_twoNames_9 (fun s28 hy => ?_)
  replace h := ltD h s28 hy
  clear hy
  refine A_aload_n X 0 rfl rfl dX8_twoNames_12 ?_
  refine A_getI X fg_X8_twoNames_111 shC_3 (k := 4) rfl (by decide) dX8_twoNames_13 ?_
  refine A_iconst X dX8_twoNames_16 (z := (-1)) (by decide) ?_
  refine A_icmp_ne X (tgt := 22) (by decide) dX8_twoNames_17 (fun c29 => ?_) (fun c29 => ?_)
  · replace h := ifF h c29
    refine A_aload_n X 0 rfl rfl dX8_twoNames_22 ?_
    obtain ⟨v30, s31, e32, h⟩ := clD h
    refine A_callV_V (na := 0) X (m_X8_step e32) gX8_twoNames_X8_step rfl ⟨rfl, rfl⟩ (by decide +kernel) rfl ⟨Nat.le_of_ble_eq_true rfl, Nat.le_of_ble_eq_true rfl⟩ shC_3 (by decide) rfl rfl (Nat.le_of_ble_eq_true rfl) dX8_twoNames_23 ?_
    refine A_aload_n X 0 rfl rfl dX8_twoNames_26 ?_
    refine A_aload_n X 0 rfl rfl dX8_twoNames_27 ?_
    obtain ⟨v33, s34, e35, h⟩ := clD h
    refine A_callV_I (na := 0) X (m_X8_somebody e35) gX8_twoNames_X8_somebody rfl ⟨rfl, rfl⟩ (by decide +kernel) rfl ⟨Nat.le_of_ble_eq_true rfl, Nat.le_of_ble_eq_true rfl⟩ shC_3 (by decide) rfl rfl (Nat.le_of_ble_eq_true rfl) dX8_twoNames_28 ?_
    refine A_putI X fp_X8_twoNames_114 shC_3 (k := 5) rfl (by decide) dX8_twoNames_31 (fun s36 hy => ?_)
    replace h := ltD h s36 hy
    clear hy
    refine A_aload_n X 0 rfl rfl dX8_twoNames_34 ?_
    refine A_getI X fg_X8_twoNames_114 shC_3 (k := 5) rfl (by decide) dX8_twoNames_35 ?_
    refine A_iconst X dX8_twoNames_38 (z := (-1)) (by decide) ?_
    refine A_icmp_ne X (tgt := 44) (by decide) dX8_twoNames_39 (fun c37 => ?_) (fun c37 => ?_)
    · replace h := ifF h c37
      refine A_aload_n X 0 rfl rfl dX8_twoNames_44 ?_
      refine A_getI X fg_X8_twoNames_111 shC_3 (k := 4) rfl (by decide) dX8_twoNames_45 ?_
      refine A_aload_n X 0 rfl rfl dX8_twoNames_48 ?_
      refine A_getI X fg_X8_twoNames_114 shC_3 (k := 5) rfl (by decide) dX8_twoNames_49 ?_
      refine A_icmp_ne X (tgt := 61) (by decide) dX8_twoNames_52 (fun c38 => ?_) (fun c38 => ?_)
      · replace h := ifF h c38
        refine A_aload_n X 0 rfl rfl dX8_twoNames_61 ?_
        refine A_getV X fg_X8_twoNames_12 shC_3 (k := 1) rfl (by decide) dX8_twoNames_62 ?_
        obtain ⟨q39, hy⟩ : ∃ y, y = (s36 3 1).toNat := ⟨_, rfl⟩
        replace h := ltD h q39 hy
        rw [← hy]
        clear hy
        obtain ⟨g40, h⟩ := gdD h
        refine A_getR X fg_X8_twoNames_139 (shNet g40) (k := 8) rfl (by decide) dX8_twoNames_65 ?_
        refine A_aload_n X 0 rfl rfl dX8_twoNames_68 ?_
        refine A_getI X fg_X8_twoNames_111 shC_3 (k := 4) rfl (by decide) dX8_twoNames_69 ?_
        obtain ⟨g41, h⟩ := gdD h
        refine A_aald X g41 (shNet_roadOf g40) dX8_twoNames_72 ?_
        refine A_aload_n X 0 rfl rfl dX8_twoNames_73 ?_
        refine A_getI X fg_X8_twoNames_114 shC_3 (k := 5) rfl (by decide) dX8_twoNames_74 ?_
        obtain ⟨g42, h⟩ := gdD h
        refine A_iald X g42 (shNet_roadOf_r g40 g41) dX8_twoNames_77 ?_
        refine A_iconst X dX8_twoNames_78 (z := (-1)) (by decide) ?_
        refine A_icmp_eq X (tgt := 86) (by decide) dX8_twoNames_79 (fun c43 => ?_) (fun c43 => ?_)
        · replace h := ifT h c43
          refine A_iconst X dX8_twoNames_86 (z := 0) (by decide) ?_
          exact w_X8_twoNames_87 (a1 := a1) X E 0 s36 h
        · replace h := ifF h c43
          refine A_iconst X dX8_twoNames_82 (z := 1) (by decide) ?_
          refine A_goto X (tgt := 87) (by decide) dX8_twoNames_83 ?_
          exact w_X8_twoNames_87 (a1 := a1) X E 1 s36 h
      · replace h := ifT h c38
        refine A_aload_n X 0 rfl rfl dX8_twoNames_55 ?_
        refine A_iconst X dX8_twoNames_56 (z := 3) (by decide) ?_
        obtain ⟨v44, s45, e46, h⟩ := clD h
        refine A_callV_I (na := 1) X (m_X8_fail e46) gX8_twoNames_X8_fail rfl ⟨rfl, rfl⟩ (by decide +kernel) rfl ⟨Nat.le_of_ble_eq_true rfl, Nat.le_of_ble_eq_true rfl⟩ shC_3 (by decide) rfl rfl (Nat.le_of_ble_eq_true rfl) dX8_twoNames_57 ?_
        obtain ⟨g47, h⟩ := gdD h
        exact A_zreturn X g47 E h dX8_twoNames_60
    · replace h := ifT h c37
      refine A_iconst X dX8_twoNames_42 (z := 0) (by decide) ?_
      exact A_zreturn X (Or.inl rfl) E h dX8_twoNames_43
  · replace h := ifT h c29
    refine A_iconst X dX8_twoNames_20 (z := 0) (by decide) ?_
    exact A_zreturn X (Or.inl rfl) E h dX8_twoNames_21
abbrev rm_X8_tasteIs : Room := { frames := 4, cells := 0, slots := 0, locals := 86 }
theorem in_X8_tasteIs_8 : ∀ w ∈ u_ws RX8 TX8 8, w ∈ wsX8_tasteIs := fun w h => List.mem_cons_of_mem _ (List.mem_append_left _ (List.mem_append_left _ (List.mem_append_right _ h)))
theorem fg_X8_tasteIs_12 : aFl wsX8_tasteIs RX8 12 8 1 := ⟨RX8, TX8, 8, rfl, in_X8_tasteIs_8, by decide, (List.mem_of_getElem? (i := 2) rfl), rfl⟩
theorem fg_X8_tasteIs_111 : aFl wsX8_tasteIs RX8 111 8 4 := ⟨RX8, TX8, 8, rfl, in_X8_tasteIs_8, by decide, (List.mem_of_getElem? (i := 3) rfl), rfl⟩
theorem fg_X8_tasteIs_114 : aFl wsX8_tasteIs RX8 114 8 5 := ⟨RX8, TX8, 8, rfl, in_X8_tasteIs_8, by decide, (List.mem_of_getElem? (i := 4) rfl), rfl⟩
theorem fg_X8_tasteIs_47 : aFl wsX8_tasteIs RX8 47 8 3 := ⟨RX8, TX8, 8, rfl, in_X8_tasteIs_8, by decide, (List.mem_of_getElem? (i := 1) rfl), rfl⟩
set_option maxRecDepth 100000 in
set_option maxHeartbeats 4000000 in
theorem w_X8_tasteIs_70 {x : aC} {r : Int × Hp} (X : aX x cX8_tasteIs wsX8_tasteIs RX8 3 rm_X8_tasteIs) (E : aE x shC (some .boolean) 0 r) (t4 : Int) (t3 : Int) (t2 : Int) (t1 : Nat) (σ : Hp) (ht1 : isNet t1) (h : F_Rdr_tasteIs_70 t4 t3 t2 t1 σ = some r) : aS x shC 3 70 [] [vI t4, vI t3, vI t2, vR t1] σ := by
  unfold F_Rdr_tasteIs_70 at h
  obtain ⟨v1, s2, e3, h⟩ := clD h
  refine A_callV_V (na := 3) X (m_X6_addTaste e3) gX8_tasteIs_X6_addTaste rfl ⟨rfl, rfl⟩ (by decide +kernel) rfl ⟨Nat.le_of_ble_eq_true rfl, Nat.le_of_ble_eq_true rfl⟩ (shNet ht1) (by decide) rfl rfl (Nat.le_of_ble_eq_true rfl) dX8_tasteIs_70 ?_
  refine A_iconst X dX8_tasteIs_73 (z := 1) (by decide) ?_
  exact A_zreturn X (Or.inr rfl) E h dX8_tasteIs_74
set_option maxRecDepth 100000 in
set_option maxHeartbeats 4000000 in
theorem w_X8_tasteIs_36 {x : aC} {r : Int × Hp} (X : aX x cX8_tasteIs wsX8_tasteIs RX8 3 rm_X8_tasteIs) (E : aE x shC (some .boolean) 0 r) (x1 : Int) (σ : Hp) (h : F_Rdr_tasteIs_36 x1 σ = some r) : aS x shC 3 36 [(0, vR 3), (1, vI x1)] [] σ := by
  unfold F_Rdr_tasteIs_36 at h
  refine A_aload_n X 0 rfl rfl dX8_tasteIs_36 ?_
  obtain ⟨v4, s5, e6, h⟩ := clD h
  refine A_callV_I (na := 0) X (m_X8_number e6) gX8_tasteIs_X8_number rfl ⟨rfl, rfl⟩ (by decide +kernel) rfl ⟨Nat.le_of_ble_eq_true rfl, Nat.le_of_ble_eq_true rfl⟩ shC_3 (by decide) rfl rfl (Nat.le_of_ble_eq_true rfl) dX8_tasteIs_37 ?_
  refine A_istore_n X (L' := [(2, vI v4), (0, vR 3), (1, vI x1)]) rfl (by decide) rfl dX8_tasteIs_40 ?_
  refine A_iload_n X 0 rfl rfl dX8_tasteIs_41 ?_
  refine A_iconst X dX8_tasteIs_42 (z := (-1)) (by decide) ?_
  refine A_icmp_ne X (tgt := 48) (by decide) dX8_tasteIs_43 (fun c7 => ?_) (fun c7 => ?_)
  · replace h := ifF h c7
    refine A_aload_n X 1 rfl rfl dX8_tasteIs_48 ?_
    refine A_getV X fg_X8_tasteIs_12 shC_3 (k := 1) rfl (by decide) dX8_tasteIs_49 ?_
    obtain ⟨q8, hy⟩ : ∃ y, y = (s5 3 1).toNat := ⟨_, rfl⟩
    replace h := ltD h q8 hy
    rw [← hy]
    clear hy
    obtain ⟨g9, h⟩ := gdD h
    refine A_aload_n X 1 rfl rfl dX8_tasteIs_52 ?_
    refine A_getI X fg_X8_tasteIs_111 shC_3 (k := 4) rfl (by decide) dX8_tasteIs_53 ?_
    refine A_aload_n X 1 rfl rfl dX8_tasteIs_56 ?_
    refine A_getI X fg_X8_tasteIs_114 shC_3 (k := 5) rfl (by decide) dX8_tasteIs_57 ?_
    refine A_iload_n X 2 rfl rfl dX8_tasteIs_60 ?_
    refine A_if_eq X (tgt := 69) (by decide) dX8_tasteIs_61 (fun c10 => ?_) (fun c10 => ?_)
    · replace h := ifT h c10
      refine A_iload_n X 0 rfl rfl dX8_tasteIs_69 ?_
      refine A_sub [] rfl (L' := []) rfl ?_
      exact w_X8_tasteIs_70 X E v4 (s5 3 5) (s5 3 4) q8 s5 g9 h
    · replace h := ifF h c10
      refine A_iload_n X 0 rfl rfl dX8_tasteIs_64 ?_
      refine A_ineg X dX8_tasteIs_65 ?_
      refine A_goto X (tgt := 70) (by decide) dX8_tasteIs_66 ?_
      refine A_sub [] rfl (L' := []) rfl ?_
      exact w_X8_tasteIs_70 X E (ineg v4) (s5 3 5) (s5 3 4) q8 s5 g9 h
  · replace h := ifT h c7
    refine A_iconst X dX8_tasteIs_46 (z := 0) (by decide) ?_
    exact A_zreturn X (Or.inl rfl) E h dX8_tasteIs_47
set_option maxRecDepth 100000 in
set_option maxHeartbeats 4000000 in
theorem w_X8_tasteIs_27 {x : aC} {r : Int × Hp} (X : aX x cX8_tasteIs wsX8_tasteIs RX8 3 rm_X8_tasteIs) (E : aE x shC (some .boolean) 0 r) (t1 : Int) (σ : Hp) (h : F_Rdr_tasteIs_27 t1 σ = some r) : aS x shC 3 27 [(0, vR 3)] [vI t1] σ := by
  unfold F_Rdr_tasteIs_27 at h
  refine A_istore_n X (L' := [(1, vI t1), (0, vR 3)]) rfl (by decide) rfl dX8_tasteIs_27 ?_
  refine A_iload_n X 0 rfl rfl dX8_tasteIs_28 ?_
  refine A_if_eq X (tgt := 36) (by decide) dX8_tasteIs_29 (fun c11 => ?_) (fun c11 => ?_)
  · replace h := ifT h c11
    refine A_sub [1, 0] rfl (L' := [(0, vR 3), (1, vI t1)]) rfl ?_
    exact w_X8_tasteIs_36 X E t1 σ h
  · replace h := ifF h c11
    refine A_aload_n X 1 rfl rfl dX8_tasteIs_32 ?_
    obtain ⟨v12, s13, e14, h⟩ := clD h
    refine A_callV_V (na := 0) X (m_X8_step e14) gX8_tasteIs_X8_step rfl ⟨rfl, rfl⟩ (by decide +kernel) rfl ⟨Nat.le_of_ble_eq_true rfl, Nat.le_of_ble_eq_true rfl⟩ shC_3 (by decide) rfl rfl (Nat.le_of_ble_eq_true rfl) dX8_tasteIs_33 ?_
    refine A_sub [1, 0] rfl (L' := [(0, vR 3), (1, vI t1)]) rfl ?_
    exact w_X8_tasteIs_36 X E t1 s13 h
set_option maxRecDepth 100000 in
set_option maxHeartbeats 4000000 in
theorem m_X8_tasteIs {l : Launch} {g : aG} {σ : Hp} {r : Int × Hp} (h : F_Rdr_tasteIs σ = some r) : aMet l g shC yX8_tasteIs wsX8_tasteIs rm_X8_tasteIs [vR 3] σ 0 r := by
  unfold F_Rdr_tasteIs at h
  refine aMet_of (bytes := cX8_tasteIs) (maxL := 3) (ret := (some .boolean)) (by decide +kernel) rfl (Nat.le_of_ble_eq_true rfl) ⟨rfl, rfl⟩ (fun x e1 e2 X E => ?_)
  subst e1; subst e2
  have X : aX x cX8_tasteIs wsX8_tasteIs RX8 3 rm_X8_tasteIs := X
  show aS x shC 3 0 [(0, vR 3)] [] σ
  refine A_aload_n X 0 rfl rfl dX8_tasteIs_0 ?_
  refine A_sipush X dX8_tasteIs_1 (z := 261) (by decide) ?_
  obtain ⟨v15, s16, e17, h⟩ := clD h
  refine A_callV_I (na := 1) X (m_X8_twoNames e17) gX8_tasteIs_X8_twoNames rfl ⟨rfl, rfl⟩ (by decide +kernel) rfl ⟨Nat.le_of_ble_eq_true rfl, Nat.le_of_ble_eq_true rfl⟩ shC_3 (by decide) rfl rfl (Nat.le_of_ble_eq_true rfl) dX8_tasteIs_4 ?_
  refine A_if_ne X (tgt := 12) (by decide) dX8_tasteIs_7 (fun c18 => ?_) (fun c18 => ?_)
  · replace h := ifF h c18
    refine A_aload_n X 0 rfl rfl dX8_tasteIs_12 ?_
    refine A_getI X fg_X8_tasteIs_47 shC_3 (k := 3) rfl (by decide) dX8_tasteIs_13 ?_
    refine A_sipush X dX8_tasteIs_16 (z := 262) (by decide) ?_
    refine A_icmp_ne X (tgt := 26) (by decide) dX8_tasteIs_19 (fun c19 => ?_) (fun c19 => ?_)
    · replace h := ifF h c19
      refine A_iconst X dX8_tasteIs_26 (z := 0) (by decide) ?_
      exact w_X8_tasteIs_27 X E 0 s16 h
    · replace h := ifT h c19
      refine A_iconst X dX8_tasteIs_22 (z := 1) (by decide) ?_
      refine A_goto X (tgt := 27) (by decide) dX8_tasteIs_23 ?_
      exact w_X8_tasteIs_27 X E 1 s16 h
  · replace h := ifT h c18
    refine A_iconst X dX8_tasteIs_10 (z := 0) (by decide) ?_
    exact A_zreturn X (Or.inl rfl) E h dX8_tasteIs_11
abbrev rm_X8_doubtIs : Room := { frames := 4, cells := 0, slots := 0, locals := 86 }
theorem in_X8_doubtIs_8 : ∀ w ∈ u_ws RX8 TX8 8, w ∈ wsX8_doubtIs := fun w h => List.mem_cons_of_mem _ (List.mem_append_left _ (List.mem_append_left _ (List.mem_append_right _ h)))
theorem fg_X8_doubtIs_12 : aFl wsX8_doubtIs RX8 12 8 1 := ⟨RX8, TX8, 8, rfl, in_X8_doubtIs_8, by decide, (List.mem_of_getElem? (i := 1) rfl), rfl⟩
theorem fg_X8_doubtIs_111 : aFl wsX8_doubtIs RX8 111 8 4 := ⟨RX8, TX8, 8, rfl, in_X8_doubtIs_8, by decide, (List.mem_of_getElem? (i := 2) rfl), rfl⟩
theorem fg_X8_doubtIs_114 : aFl wsX8_doubtIs RX8 114 8 5 := ⟨RX8, TX8, 8, rfl, in_X8_doubtIs_8, by decide, (List.mem_of_getElem? (i := 3) rfl), rfl⟩
set_option maxRecDepth 100000 in
set_option maxHeartbeats 4000000 in
theorem m_X8_doubtIs {l : Launch} {g : aG} {σ : Hp} {r : Int × Hp} (h : F_Rdr_doubtIs σ = some r) : aMet l g shC yX8_doubtIs wsX8_doubtIs rm_X8_doubtIs [vR 3] σ 0 r := by
  unfold F_Rdr_doubtIs at h
  refine aMet_of (bytes := cX8_doubtIs) (maxL := 2) (ret := (some .boolean)) (by decide +kernel) rfl (Nat.le_of_ble_eq_true rfl) ⟨rfl, rfl⟩ (fun x e1 e2 X E => ?_)
  subst e1; subst e2
  have X : aX x cX8_doubtIs wsX8_doubtIs RX8 2 rm_X8_doubtIs := X
  show aS x shC 2 0 [(0, vR 3)] [] σ
  refine A_aload_n X 0 rfl rfl dX8_doubtIs_0 ?_
  refine A_sipush X dX8_doubtIs_1 (z := 263) (by decide) ?_
  obtain ⟨v1, s2, e3, h⟩ := clD h
  refine A_callV_I (na := 1) X (m_X8_twoNames e3) gX8_doubtIs_X8_twoNames rfl ⟨rfl, rfl⟩ (by decide +kernel) rfl ⟨Nat.le_of_ble_eq_true rfl, Nat.le_of_ble_eq_true rfl⟩ shC_3 (by decide) rfl rfl (Nat.le_of_ble_eq_true rfl) dX8_doubtIs_4 ?_
  refine A_if_ne X (tgt := 12) (by decide) dX8_doubtIs_7 (fun c4 => ?_) (fun c4 => ?_)
  · replace h := ifF h c4
    refine A_aload_n X 0 rfl rfl dX8_doubtIs_12 ?_
    obtain ⟨v5, s6, e7, h⟩ := clD h
    refine A_callV_I (na := 0) X (m_X8_number e7) gX8_doubtIs_X8_number rfl ⟨rfl, rfl⟩ (by decide +kernel) rfl ⟨Nat.le_of_ble_eq_true rfl, Nat.le_of_ble_eq_true rfl⟩ shC_3 (by decide) rfl rfl (Nat.le_of_ble_eq_true rfl) dX8_doubtIs_13 ?_
    refine A_istore_n X (L' := [(1, vI v5), (0, vR 3)]) rfl (by decide) rfl dX8_doubtIs_16 ?_
    refine A_iload_n X 0 rfl rfl dX8_doubtIs_17 ?_
    refine A_iconst X dX8_doubtIs_18 (z := (-1)) (by decide) ?_
    refine A_icmp_ne X (tgt := 24) (by decide) dX8_doubtIs_19 (fun c8 => ?_) (fun c8 => ?_)
    · replace h := ifF h c8
      refine A_aload_n X 1 rfl rfl dX8_doubtIs_24 ?_
      refine A_getV X fg_X8_doubtIs_12 shC_3 (k := 1) rfl (by decide) dX8_doubtIs_25 ?_
      obtain ⟨q9, hy⟩ : ∃ y, y = (s6 3 1).toNat := ⟨_, rfl⟩
      replace h := ltD h q9 hy
      rw [← hy]
      clear hy
      obtain ⟨g10, h⟩ := gdD h
      refine A_aload_n X 1 rfl rfl dX8_doubtIs_28 ?_
      refine A_getI X fg_X8_doubtIs_111 shC_3 (k := 4) rfl (by decide) dX8_doubtIs_29 ?_
      refine A_aload_n X 1 rfl rfl dX8_doubtIs_32 ?_
      refine A_getI X fg_X8_doubtIs_114 shC_3 (k := 5) rfl (by decide) dX8_doubtIs_33 ?_
      refine A_iload_n X 0 rfl rfl dX8_doubtIs_36 ?_
      obtain ⟨v11, s12, e13, h⟩ := clD h
      refine A_callV_V (na := 3) X (m_X6_addDoubt e13) gX8_doubtIs_X6_addDoubt rfl ⟨rfl, rfl⟩ (by decide +kernel) rfl ⟨Nat.le_of_ble_eq_true rfl, Nat.le_of_ble_eq_true rfl⟩ (shNet g10) (by decide) rfl rfl (Nat.le_of_ble_eq_true rfl) dX8_doubtIs_37 ?_
      refine A_iconst X dX8_doubtIs_40 (z := 1) (by decide) ?_
      exact A_zreturn X (Or.inr rfl) E h dX8_doubtIs_41
    · replace h := ifT h c8
      refine A_iconst X dX8_doubtIs_22 (z := 0) (by decide) ?_
      exact A_zreturn X (Or.inl rfl) E h dX8_doubtIs_23
  · replace h := ifT h c4
    refine A_iconst X dX8_doubtIs_10 (z := 0) (by decide) ?_
    exact A_zreturn X (Or.inl rfl) E h dX8_doubtIs_11
abbrev rm_X8_exchange : Room := { frames := 0, cells := 0, slots := 0, locals := 0 }
theorem in_X8_exchange_8 : ∀ w ∈ u_ws RX8 TX8 8, w ∈ wsX8_exchange := fun w h => List.mem_cons_of_mem _ (List.mem_append_right _ h)
theorem fg_X8_exchange_12 : aFl wsX8_exchange RX8 12 8 1 := ⟨RX8, TX8, 8, rfl, in_X8_exchange_8, by decide, (List.mem_of_getElem? (i := 1) rfl), rfl⟩
theorem fp_X8_exchange_12 : aFp wsX8_exchange RX8 12 8 1 (.object "RoadDeals$Net") := ⟨RX8, TX8, 8, tyX8, rfl, in_X8_exchange_8, by decide, (List.mem_of_getElem? (i := 1) rfl), rfl, tyX8_ok, nmX8, rfl, rfl⟩
set_option maxRecDepth 100000 in
set_option maxHeartbeats 4000000 in
theorem m_X8_exchange {l : Launch} {g : aG} {a1 : Nat} {σ : Hp} {r : Int × Hp} (h : F_Rdr_exchange a1 σ = some r) : aMet l g shC yX8_exchange wsX8_exchange rm_X8_exchange [vR 3, vR a1] σ 2 r := by
  unfold F_Rdr_exchange at h
  obtain ⟨ha1, h⟩ := gdD h
  refine aMet_of (bytes := cX8_exchange) (maxL := 3) (ret := (some (.object "RoadDeals$Net"))) (by decide +kernel) rfl (Nat.le_of_ble_eq_true rfl) ⟨rfl, rfl⟩ (fun x e1 e2 X E => ?_)
  subst e1; subst e2
  have X : aX x cX8_exchange wsX8_exchange RX8 3 rm_X8_exchange := X
  show aS x shC 3 0 [(0, vR 3), (1, vR a1)] [] σ
  refine A_aload_n X 0 rfl rfl dX8_exchange_0 ?_
  refine A_getV X fg_X8_exchange_12 shC_3 (k := 1) rfl (by decide) dX8_exchange_1 ?_
  obtain ⟨q1, hy⟩ : ∃ y, y = (σ 3 1).toNat := ⟨_, rfl⟩
  replace h := ltD h q1 hy
  rw [← hy]
  clear hy
  obtain ⟨g2, h⟩ := gdD h
  refine A_astore_n X (L' := [(2, vR q1), (0, vR 3), (1, vR a1)]) rfl (by decide) rfl dX8_exchange_4 ?_
  refine A_aload_n X 1 rfl rfl dX8_exchange_5 ?_
  refine A_aload_n X 2 rfl rfl dX8_exchange_6 ?_
  refine A_putV X (bNet ha1) fp_X8_exchange_12 shC_3 (k := 1) rfl (by decide) dX8_exchange_7 (fun s3 hy => ?_)
  replace h := ltD h s3 hy
  clear hy
  refine A_aload_n X 0 rfl rfl dX8_exchange_10 ?_
  exact A_areturn X E h dX8_exchange_11
abbrev rm_X8_opens : Room := { frames := 2, cells := 0, slots := 0, locals := 42 }
theorem in_X8_opens_8 : ∀ w ∈ u_ws RX8 TX8 8, w ∈ wsX8_opens := fun w h => List.mem_cons_of_mem _ (List.mem_append_left _ (List.mem_append_right _ h))
theorem fg_X8_opens_47 : aFl wsX8_opens RX8 47 8 3 := ⟨RX8, TX8, 8, rfl, in_X8_opens_8, by decide, (List.mem_of_getElem? (i := 1) rfl), rfl⟩
set_option maxRecDepth 100000 in
set_option maxHeartbeats 4000000 in
theorem m_X8_opens {l : Launch} {g : aG} {a1 : Int} {a2 : Int} {σ : Hp} {r : Int × Hp} (h : F_Rdr_opens a1 a2 σ = some r) : aMet l g shC yX8_opens wsX8_opens rm_X8_opens [vR 3, vI a1, vI a2] σ 0 r := by
  unfold F_Rdr_opens at h
  refine aMet_of (bytes := cX8_opens) (maxL := 3) (ret := (some .boolean)) (by decide +kernel) rfl (Nat.le_of_ble_eq_true rfl) ⟨rfl, rfl⟩ (fun x e1 e2 X E => ?_)
  subst e1; subst e2
  have X : aX x cX8_opens wsX8_opens RX8 3 rm_X8_opens := X
  show aS x shC 3 0 [(0, vR 3), (1, vI a1), (2, vI a2)] [] σ
  refine A_aload_n X 0 rfl rfl dX8_opens_0 ?_
  refine A_getI X fg_X8_opens_47 shC_3 (k := 3) rfl (by decide) dX8_opens_1 ?_
  refine A_iload_n X 1 rfl rfl dX8_opens_4 ?_
  refine A_icmp_eq X (tgt := 14) (by decide) dX8_opens_5 (fun c1 => ?_) (fun c1 => ?_)
  · replace h := ifT h c1
    refine A_iload_n X 2 rfl rfl dX8_opens_14 ?_
    refine A_bipush X dX8_opens_15 (z := 8) (by decide) ?_
    refine A_icmp_lt X (tgt := 26) (by decide) dX8_opens_17 (fun c2 => ?_) (fun c2 => ?_)
    · replace h := ifT h c2
      refine A_aload_n X 0 rfl rfl dX8_opens_26 ?_
      obtain ⟨v3, s4, e5, h⟩ := clD h
      refine A_callV_V (na := 0) X (m_X8_step e5) gX8_opens_X8_step rfl ⟨rfl, rfl⟩ (by decide +kernel) rfl ⟨Nat.le_of_ble_eq_true rfl, Nat.le_of_ble_eq_true rfl⟩ shC_3 (by decide) rfl rfl (Nat.le_of_ble_eq_true rfl) dX8_opens_27 ?_
      refine A_iconst X dX8_opens_30 (z := 1) (by decide) ?_
      exact A_zreturn X (Or.inr rfl) E h dX8_opens_31
    · replace h := ifF h c2
      refine A_aload_n X 0 rfl rfl dX8_opens_20 ?_
      refine A_iconst X dX8_opens_21 (z := 5) (by decide) ?_
      obtain ⟨v6, s7, e8, h⟩ := clD h
      refine A_callV_I (na := 1) X (m_X8_fail e8) gX8_opens_X8_fail rfl ⟨rfl, rfl⟩ (by decide +kernel) rfl ⟨Nat.le_of_ble_eq_true rfl, Nat.le_of_ble_eq_true rfl⟩ shC_3 (by decide) rfl rfl (Nat.le_of_ble_eq_true rfl) dX8_opens_22 ?_
      obtain ⟨g9, h⟩ := gdD h
      exact A_zreturn X g9 E h dX8_opens_25
  · replace h := ifF h c1
    refine A_aload_n X 0 rfl rfl dX8_opens_8 ?_
    refine A_iconst X dX8_opens_9 (z := 1) (by decide) ?_
    obtain ⟨v10, s11, e12, h⟩ := clD h
    refine A_callV_I (na := 1) X (m_X8_fail e12) gX8_opens_X8_fail rfl ⟨rfl, rfl⟩ (by decide +kernel) rfl ⟨Nat.le_of_ble_eq_true rfl, Nat.le_of_ble_eq_true rfl⟩ shC_3 (by decide) rfl rfl (Nat.le_of_ble_eq_true rfl) dX8_opens_10 ?_
    obtain ⟨g13, h⟩ := gdD h
    exact A_zreturn X g13 E h dX8_opens_13
def yg (n : Nat) : MethodName := match n with
  | 0 => yX8_test
  | 1 => yX8_both
  | 2 => yX8_fact
  | 3 => yX8_sum
  | 4 => yX8_product
  | _ => yX8_part
def wg (n : Nat) : List Cond := match n with
  | 0 => wsX8_test
  | 1 => wsX8_both
  | 2 => wsX8_fact
  | 3 => wsX8_sum
  | 4 => wsX8_product
  | _ => wsX8_part
abbrev rmg (d : Nat) : Room := { frames := d + 9, cells := 0, slots := 0, locals := 60 * d + 400 }
theorem in_X8_test_8 : ∀ w ∈ u_ws RX8 TX8 8, w ∈ wsX8_test := fun w h => List.mem_cons_of_mem _ (List.mem_append_left _ (List.mem_append_left _ (List.mem_append_right _ h)))
theorem fg_X8_test_47 : aFl wsX8_test RX8 47 8 3 := ⟨RX8, TX8, 8, rfl, in_X8_test_8, by decide, (List.mem_of_getElem? (i := 1) rfl), rfl⟩
theorem fg_X8_test_12 : aFl wsX8_test RX8 12 8 1 := ⟨RX8, TX8, 8, rfl, in_X8_test_8, by decide, (List.mem_of_getElem? (i := 2) rfl), rfl⟩
set_option maxRecDepth 100000 in
set_option maxHeartbeats 4000000 in
theorem w_X8_test_59 {x : aC} {r : Int × Hp} {dd : Nat} {rec : Nat → Int → Hp → Option (Int × Hp)} {a1 : Int} (hrec : ∀ (n : Nat) (o : Int) (σ : Hp) (r : Int × Hp), rec n o σ = some r → aMet (xl x) (xg x) shC (yg n) (wg n) (rmg dd) [vR 3, vI o] σ 0 r) (X : aX x cX8_test wsX8_test RX8 3 (rmg (dd + 1))) (E : aE x shC (some .boolean) 0 r) (σ : Hp) (h : F_Rdr_test_59 rec a1 σ = some r) : aS x shC 3 59 [] [] σ := by
  unfold F_Rdr_test_59 at h
  refine A_iconst X dX8_test_59 (z := 1) (by decide) ?_
  exact A_zreturn X (Or.inr rfl) E h dX8_test_60
set_option maxRecDepth 100000 in
set_option maxHeartbeats 4000000 in
theorem w_X8_test_12_b {x : aC} {r : Int × Hp} {dd : Nat} {rec : Nat → Int → Hp → Option (Int × Hp)} {k12 : Int × Hp → Option (Int × Hp)} {a1 : Int} (hrec : ∀ (n : Nat) (o : Int) (σ : Hp) (r : Int × Hp), rec n o σ = some r → aMet (xl x) (xg x) shC (yg n) (wg n) (rmg dd) [vR 3, vI o] σ 0 r) (X : aX x cX8_test wsX8_test RX8 3 (rmg (dd + 1))) (E : aE x shC (some .boolean) 0 r) (hk12 : ∀ (x2 : Int) (σ : Hp), k12 (x2, σ) = some r → aS x shC 3 12 [(0, vR 3), (1, vI a1), (2, vI x2)] [] σ) (x2 : Int) (σ : Hp) (h : F_Rdr_test_12_b rec k12 a1 x2 σ = some r) : aS x shC 3 12 [(0, vR 3), (1, vI a1), (2, vI x2)] [] σ := by
  unfold F_Rdr_test_12_b at h
  refine A_iload_n X 2 rfl rfl dX8_test_12 ?_
  refine A_sipush X dX8_test_13 (z := 900) (by decide) ?_
  refine A_icmp_ge X (tgt := 59) (by decide) dX8_test_16 (fun c1 => ?_) (fun c1 => ?_)
  · replace h := ifT h c1
    refine A_sub [] rfl (L' := []) rfl ?_
    exact w_X8_test_59 (a1 := a1) hrec X E σ h
  · replace h := ifF h c1
    refine A_aload_n X 0 rfl rfl dX8_test_19 ?_
    refine A_getI X fg_X8_test_47 shC_3 (k := 3) rfl (by decide) dX8_test_20 ?_
    refine A_sipush X dX8_test_23 (z := 264) (by decide) ?_
    refine A_icmp_ne X (tgt := 59) (by decide) dX8_test_26 (fun c2 => ?_) (fun c2 => ?_)
    · replace h := ifF h c2
      refine A_sub [] rfl (L' := []) rfl ?_
      exact w_X8_test_59 (a1 := a1) hrec X E σ h
    · replace h := ifT h c2
      refine A_aload_n X 0 rfl rfl dX8_test_29 ?_
      obtain ⟨v3, s4, e5, h⟩ := clD h
      refine A_callV_V (na := 0) X (m_X8_step e5) gX8_test_X8_step rfl ⟨rfl, rfl⟩ (by decide +kernel) rfl ⟨by show 1 + 1 ≤ dd + 1 + 9; omega, by show 8 + (1 + 11) + 21 ≤ 60 * (dd + 1) + 400; omega⟩ shC_3 (by decide) rfl rfl (Nat.le_of_ble_eq_true rfl) dX8_test_30 ?_
      refine A_aload_n X 0 rfl rfl dX8_test_33 ?_
      refine A_iload_n X 1 rfl rfl dX8_test_34 ?_
      obtain ⟨v6, s7, e8, h⟩ := clD h
      refine A_callV_I (na := 1) X (hrec _ _ _ _ e8) gX8_test_X8_both rfl ⟨rfl, rfl⟩ (by decide +kernel) rfl ⟨by show dd + 9 + 1 ≤ dd + 1 + 9; omega, by show 8 + (3 + 11) + (60 * dd + 400) ≤ 60 * (dd + 1) + 400; omega⟩ shC_3 (by decide) rfl rfl (Nat.le_of_ble_eq_true rfl) dX8_test_35 ?_
      refine A_if_ne X (tgt := 43) (by decide) dX8_test_38 (fun c9 => ?_) (fun c9 => ?_)
      · replace h := ifF h c9
        refine A_aload_n X 0 rfl rfl dX8_test_43 ?_
        refine A_getV X fg_X8_test_12 shC_3 (k := 1) rfl (by decide) dX8_test_44 ?_
        obtain ⟨q10, hy⟩ : ∃ y, y = (s7 3 1).toNat := ⟨_, rfl⟩
        replace h := ltD h q10 hy
        rw [← hy]
        clear hy
        obtain ⟨g11, h⟩ := gdD h
        refine A_sipush X dX8_test_47 (z := (-264)) (by decide) ?_
        obtain ⟨v12, s13, e14, h⟩ := clD h
        refine A_callV_V (na := 1) X (m_X6_emit e14) gX8_test_X6_emit rfl ⟨rfl, rfl⟩ (by decide +kernel) rfl ⟨by show 0 + 1 ≤ dd + 1 + 9; omega, by show 8 + (2 + 11) + 0 ≤ 60 * (dd + 1) + 400; omega⟩ (shNet g11) (by decide) rfl rfl (Nat.le_of_ble_eq_true rfl) dX8_test_50 ?_
        refine A_iinc X (L' := fun y2_15 => [(2, vI y2_15), (0, vR 3), (1, vI a1)]) 2 rfl (by decide) (fun _ => rfl) dX8_test_53 (by decide) (fun y2_15 hy => ?_)
        replace h := ltD h y2_15 hy
        clear hy
        refine A_goto X (tgt := 12) (by decide) dX8_test_56 ?_
        refine A_sub [1, 2, 0] rfl (L' := [(0, vR 3), (1, vI a1), (2, vI y2_15)]) rfl ?_
        exact hk12 y2_15 s13 h
      · replace h := ifT h c9
        refine A_iconst X dX8_test_41 (z := 0) (by decide) ?_
        exact A_zreturn X (Or.inl rfl) E h dX8_test_42
set_option maxRecDepth 100000 in
set_option maxHeartbeats 4000000 in
theorem w_X8_test_12 {x : aC} {r : Int × Hp} {dd : Nat} {rec : Nat → Int → Hp → Option (Int × Hp)} {a1 : Int} (hrec : ∀ (n : Nat) (o : Int) (σ : Hp) (r : Int × Hp), rec n o σ = some r → aMet (xl x) (xg x) shC (yg n) (wg n) (rmg dd) [vR 3, vI o] σ 0 r) (X : aX x cX8_test wsX8_test RX8 3 (rmg (dd + 1))) (E : aE x shC (some .boolean) 0 r) : ∀ (n : Nat) (x2 : Int) (σ : Hp) (h : F_Rdr_test_12 rec a1 n (x2, σ) = some r), aS x shC 3 12 [(0, vR 3), (1, vI a1), (2, vI x2)] [] σ := by
  intro n
  induction n with
  | zero => intro x2 σ h; cases h
  | succ n ih => intro x2 σ h; exact w_X8_test_12_b (a1 := a1) (k12 := F_Rdr_test_12 rec a1 n) hrec X E ih x2 σ h
set_option maxRecDepth 100000 in
set_option maxHeartbeats 4000000 in
theorem m_X8_test {l : Launch} {g : aG} {dd : Nat} {rec : Nat → Int → Hp → Option (Int × Hp)} {a1 : Int} {σ : Hp} {r : Int × Hp} (hrec : ∀ (n : Nat) (o : Int) (σ : Hp) (r : Int × Hp), rec n o σ = some r → aMet l g shC (yg n) (wg n) (rmg dd) [vR 3, vI o] σ 0 r) (h : F_Rdr_test rec a1 σ = some r) : aMet l g shC yX8_test wsX8_test (rmg (dd + 1)) [vR 3, vI a1] σ 0 r := by
  unfold F_Rdr_test at h
  refine aMet_of (bytes := cX8_test) (maxL := 3) (ret := (some .boolean)) (by decide +kernel) rfl (Nat.le_of_ble_eq_true rfl) ⟨rfl, rfl⟩ (fun x e1 e2 X E => ?_)
  subst e1; subst e2
  have X : aX x cX8_test wsX8_test RX8 3 (rmg (dd + 1)) := X
  show aS x shC 3 0 [(0, vR 3), (1, vI a1)] [] σ
  refine A_aload_n X 0 rfl rfl dX8_test_0 ?_
  refine A_iload_n X 1 rfl rfl dX8_test_1 ?_
  obtain ⟨v16, s17, e18, h⟩ := clD h
  refine A_callV_I (na := 1) X (hrec _ _ _ _ e18) gX8_test_X8_both rfl ⟨rfl, rfl⟩ (by decide +kernel) rfl ⟨by show dd + 9 + 1 ≤ dd + 1 + 9; omega, by show 8 + (3 + 11) + (60 * dd + 400) ≤ 60 * (dd + 1) + 400; omega⟩ shC_3 (by decide) rfl rfl (Nat.le_of_ble_eq_true rfl) dX8_test_2 ?_
  refine A_if_ne X (tgt := 10) (by decide) dX8_test_5 (fun c19 => ?_) (fun c19 => ?_)
  · replace h := ifF h c19
    refine A_iconst X dX8_test_10 (z := 0) (by decide) ?_
    refine A_istore_n X (L' := [(2, vI 0), (0, vR 3), (1, vI a1)]) rfl (by decide) rfl dX8_test_11 ?_
    refine A_sub [1, 2, 0] rfl (L' := [(0, vR 3), (1, vI a1), (2, vI 0)]) rfl ?_
    exact w_X8_test_12 (a1 := a1) hrec X E FU 0 s17 h
  · replace h := ifT h c19
    refine A_iconst X dX8_test_8 (z := 0) (by decide) ?_
    exact A_zreturn X (Or.inl rfl) E h dX8_test_9
theorem in_X8_both_8 : ∀ w ∈ u_ws RX8 TX8 8, w ∈ wsX8_both := fun w h => List.mem_cons_of_mem _ (List.mem_append_left _ (List.mem_append_left _ (List.mem_append_right _ h)))
theorem fg_X8_both_47 : aFl wsX8_both RX8 47 8 3 := ⟨RX8, TX8, 8, rfl, in_X8_both_8, by decide, (List.mem_of_getElem? (i := 1) rfl), rfl⟩
theorem fg_X8_both_12 : aFl wsX8_both RX8 12 8 1 := ⟨RX8, TX8, 8, rfl, in_X8_both_8, by decide, (List.mem_of_getElem? (i := 2) rfl), rfl⟩
set_option maxRecDepth 100000 in
set_option maxHeartbeats 4000000 in
theorem w_X8_both_59 {x : aC} {r : Int × Hp} {dd : Nat} {rec : Nat → Int → Hp → Option (Int × Hp)} {a1 : Int} (hrec : ∀ (n : Nat) (o : Int) (σ : Hp) (r : Int × Hp), rec n o σ = some r → aMet (xl x) (xg x) shC (yg n) (wg n) (rmg dd) [vR 3, vI o] σ 0 r) (X : aX x cX8_both wsX8_both RX8 3 (rmg (dd + 1))) (E : aE x shC (some .boolean) 0 r) (σ : Hp) (h : F_Rdr_both_59 rec a1 σ = some r) : aS x shC 3 59 [] [] σ := by
  unfold F_Rdr_both_59 at h
  refine A_iconst X dX8_both_59 (z := 1) (by decide) ?_
  exact A_zreturn X (Or.inr rfl) E h dX8_both_60
set_option maxRecDepth 100000 in
set_option maxHeartbeats 4000000 in
theorem w_X8_both_12_b {x : aC} {r : Int × Hp} {dd : Nat} {rec : Nat → Int → Hp → Option (Int × Hp)} {k12 : Int × Hp → Option (Int × Hp)} {a1 : Int} (hrec : ∀ (n : Nat) (o : Int) (σ : Hp) (r : Int × Hp), rec n o σ = some r → aMet (xl x) (xg x) shC (yg n) (wg n) (rmg dd) [vR 3, vI o] σ 0 r) (X : aX x cX8_both wsX8_both RX8 3 (rmg (dd + 1))) (E : aE x shC (some .boolean) 0 r) (hk12 : ∀ (x2 : Int) (σ : Hp), k12 (x2, σ) = some r → aS x shC 3 12 [(0, vR 3), (1, vI a1), (2, vI x2)] [] σ) (x2 : Int) (σ : Hp) (h : F_Rdr_both_12_b rec k12 a1 x2 σ = some r) : aS x shC 3 12 [(0, vR 3), (1, vI a1), (2, vI x2)] [] σ := by
  unfold F_Rdr_both_12_b at h
  refine A_iload_n X 2 rfl rfl dX8_both_12 ?_
  refine A_sipush X dX8_both_13 (z := 900) (by decide) ?_
  refine A_icmp_ge X (tgt := 59) (by decide) dX8_both_16 (fun c1 => ?_) (fun c1 => ?_)
  · replace h := ifT h c1
    refine A_sub [] rfl (L' := []) rfl ?_
    exact w_X8_both_59 (a1 := a1) hrec X E σ h
  · replace h := ifF h c1
    refine A_aload_n X 0 rfl rfl dX8_both_19 ?_
    refine A_getI X fg_X8_both_47 shC_3 (k := 3) rfl (by decide) dX8_both_20 ?_
    refine A_sipush X dX8_both_23 (z := 265) (by decide) ?_
    refine A_icmp_ne X (tgt := 59) (by decide) dX8_both_26 (fun c2 => ?_) (fun c2 => ?_)
    · replace h := ifF h c2
      refine A_sub [] rfl (L' := []) rfl ?_
      exact w_X8_both_59 (a1 := a1) hrec X E σ h
    · replace h := ifT h c2
      refine A_aload_n X 0 rfl rfl dX8_both_29 ?_
      obtain ⟨v3, s4, e5, h⟩ := clD h
      refine A_callV_V (na := 0) X (m_X8_step e5) gX8_both_X8_step rfl ⟨rfl, rfl⟩ (by decide +kernel) rfl ⟨by show 1 + 1 ≤ dd + 1 + 9; omega, by show 8 + (1 + 11) + 21 ≤ 60 * (dd + 1) + 400; omega⟩ shC_3 (by decide) rfl rfl (Nat.le_of_ble_eq_true rfl) dX8_both_30 ?_
      refine A_aload_n X 0 rfl rfl dX8_both_33 ?_
      refine A_iload_n X 1 rfl rfl dX8_both_34 ?_
      obtain ⟨v6, s7, e8, h⟩ := clD h
      refine A_callV_I (na := 1) X (hrec _ _ _ _ e8) gX8_both_X8_fact rfl ⟨rfl, rfl⟩ (by decide +kernel) rfl ⟨by show dd + 9 + 1 ≤ dd + 1 + 9; omega, by show 8 + (4 + 11) + (60 * dd + 400) ≤ 60 * (dd + 1) + 400; omega⟩ shC_3 (by decide) rfl rfl (Nat.le_of_ble_eq_true rfl) dX8_both_35 ?_
      refine A_if_ne X (tgt := 43) (by decide) dX8_both_38 (fun c9 => ?_) (fun c9 => ?_)
      · replace h := ifF h c9
        refine A_aload_n X 0 rfl rfl dX8_both_43 ?_
        refine A_getV X fg_X8_both_12 shC_3 (k := 1) rfl (by decide) dX8_both_44 ?_
        obtain ⟨q10, hy⟩ : ∃ y, y = (s7 3 1).toNat := ⟨_, rfl⟩
        replace h := ltD h q10 hy
        rw [← hy]
        clear hy
        obtain ⟨g11, h⟩ := gdD h
        refine A_sipush X dX8_both_47 (z := (-265)) (by decide) ?_
        obtain ⟨v12, s13, e14, h⟩ := clD h
        refine A_callV_V (na := 1) X (m_X6_emit e14) gX8_both_X6_emit rfl ⟨rfl, rfl⟩ (by decide +kernel) rfl ⟨by show 0 + 1 ≤ dd + 1 + 9; omega, by show 8 + (2 + 11) + 0 ≤ 60 * (dd + 1) + 400; omega⟩ (shNet g11) (by decide) rfl rfl (Nat.le_of_ble_eq_true rfl) dX8_both_50 ?_
        refine A_iinc X (L' := fun y2_15 => [(2, vI y2_15), (0, vR 3), (1, vI a1)]) 2 rfl (by decide) (fun _ => rfl) dX8_both_53 (by decide) (fun y2_15 hy => ?_)
        replace h := ltD h y2_15 hy
        clear hy
        refine A_goto X (tgt := 12) (by decide) dX8_both_56 ?_
        refine A_sub [1, 2, 0] rfl (L' := [(0, vR 3), (1, vI a1), (2, vI y2_15)]) rfl ?_
        exact hk12 y2_15 s13 h
      · replace h := ifT h c9
        refine A_iconst X dX8_both_41 (z := 0) (by decide) ?_
        exact A_zreturn X (Or.inl rfl) E h dX8_both_42
set_option maxRecDepth 100000 in
set_option maxHeartbeats 4000000 in
theorem w_X8_both_12 {x : aC} {r : Int × Hp} {dd : Nat} {rec : Nat → Int → Hp → Option (Int × Hp)} {a1 : Int} (hrec : ∀ (n : Nat) (o : Int) (σ : Hp) (r : Int × Hp), rec n o σ = some r → aMet (xl x) (xg x) shC (yg n) (wg n) (rmg dd) [vR 3, vI o] σ 0 r) (X : aX x cX8_both wsX8_both RX8 3 (rmg (dd + 1))) (E : aE x shC (some .boolean) 0 r) : ∀ (n : Nat) (x2 : Int) (σ : Hp) (h : F_Rdr_both_12 rec a1 n (x2, σ) = some r), aS x shC 3 12 [(0, vR 3), (1, vI a1), (2, vI x2)] [] σ := by
  intro n
  induction n with
  | zero => intro x2 σ h; cases h
  | succ n ih => intro x2 σ h; exact w_X8_both_12_b (a1 := a1) (k12 := F_Rdr_both_12 rec a1 n) hrec X E ih x2 σ h
set_option maxRecDepth 100000 in
set_option maxHeartbeats 4000000 in
theorem m_X8_both {l : Launch} {g : aG} {dd : Nat} {rec : Nat → Int → Hp → Option (Int × Hp)} {a1 : Int} {σ : Hp} {r : Int × Hp} (hrec : ∀ (n : Nat) (o : Int) (σ : Hp) (r : Int × Hp), rec n o σ = some r → aMet l g shC (yg n) (wg n) (rmg dd) [vR 3, vI o] σ 0 r) (h : F_Rdr_both rec a1 σ = some r) : aMet l g shC yX8_both wsX8_both (rmg (dd + 1)) [vR 3, vI a1] σ 0 r := by
  unfold F_Rdr_both at h
  refine aMet_of (bytes := cX8_both) (maxL := 3) (ret := (some .boolean)) (by decide +kernel) rfl (Nat.le_of_ble_eq_true rfl) ⟨rfl, rfl⟩ (fun x e1 e2 X E => ?_)
  subst e1; subst e2
  have X : aX x cX8_both wsX8_both RX8 3 (rmg (dd + 1)) := X
  show aS x shC 3 0 [(0, vR 3), (1, vI a1)] [] σ
  refine A_aload_n X 0 rfl rfl dX8_both_0 ?_
  refine A_iload_n X 1 rfl rfl dX8_both_1 ?_
  obtain ⟨v16, s17, e18, h⟩ := clD h
  refine A_callV_I (na := 1) X (hrec _ _ _ _ e18) gX8_both_X8_fact rfl ⟨rfl, rfl⟩ (by decide +kernel) rfl ⟨by show dd + 9 + 1 ≤ dd + 1 + 9; omega, by show 8 + (4 + 11) + (60 * dd + 400) ≤ 60 * (dd + 1) + 400; omega⟩ shC_3 (by decide) rfl rfl (Nat.le_of_ble_eq_true rfl) dX8_both_2 ?_
  refine A_if_ne X (tgt := 10) (by decide) dX8_both_5 (fun c19 => ?_) (fun c19 => ?_)
  · replace h := ifF h c19
    refine A_iconst X dX8_both_10 (z := 0) (by decide) ?_
    refine A_istore_n X (L' := [(2, vI 0), (0, vR 3), (1, vI a1)]) rfl (by decide) rfl dX8_both_11 ?_
    refine A_sub [1, 2, 0] rfl (L' := [(0, vR 3), (1, vI a1), (2, vI 0)]) rfl ?_
    exact w_X8_both_12 (a1 := a1) hrec X E FU 0 s17 h
  · replace h := ifT h c19
    refine A_iconst X dX8_both_8 (z := 0) (by decide) ?_
    exact A_zreturn X (Or.inl rfl) E h dX8_both_9
theorem in_X8_fact_8 : ∀ w ∈ u_ws RX8 TX8 8, w ∈ wsX8_fact := fun w h => List.mem_cons_of_mem _ (List.mem_append_left _ (List.mem_append_left _ (List.mem_append_right _ h)))
theorem fg_X8_fact_12 : aFl wsX8_fact RX8 12 8 1 := ⟨RX8, TX8, 8, rfl, in_X8_fact_8, by decide, (List.mem_of_getElem? (i := 2) rfl), rfl⟩
theorem fg_X8_fact_47 : aFl wsX8_fact RX8 47 8 3 := ⟨RX8, TX8, 8, rfl, in_X8_fact_8, by decide, (List.mem_of_getElem? (i := 1) rfl), rfl⟩
set_option maxRecDepth 100000 in
set_option maxHeartbeats 4000000 in
theorem w_X8_fact_30 {x : aC} {r : Int × Hp} {dd : Nat} {rec : Nat → Int → Hp → Option (Int × Hp)} {k4 : Int × Int × Hp → Option (Int × Hp)} {a1 : Int} (hrec : ∀ (n : Nat) (o : Int) (σ : Hp) (r : Int × Hp), rec n o σ = some r → aMet (xl x) (xg x) shC (yg n) (wg n) (rmg dd) [vR 3, vI o] σ 0 r) (X : aX x cX8_fact wsX8_fact RX8 4 (rmg (dd + 1))) (E : aE x shC (some .boolean) 0 r) (hk4 : ∀ (x2 : Int) (x3 : Int) (σ : Hp), k4 (x2, x3, σ) = some r → aS x shC 4 4 [(0, vR 3), (1, vI a1), (2, vI x2), (3, vI x3)] [] σ) (x3 : Int) (t1 : Int) (σ : Hp) (h : F_Rdr_fact_30 rec k4 a1 x3 t1 σ = some r) : aS x shC 4 30 [(0, vR 3), (1, vI a1), (3, vI x3)] [vI t1] σ := by
  unfold F_Rdr_fact_30 at h
  refine A_istore_n X (L' := [(2, vI t1), (0, vR 3), (1, vI a1), (3, vI x3)]) rfl (by decide) rfl dX8_fact_30 ?_
  refine A_aload_n X 1 rfl rfl dX8_fact_31 ?_
  obtain ⟨v1, s2, e3, h⟩ := clD h
  refine A_callV_V (na := 0) X (m_X8_step e3) gX8_fact_X8_step rfl ⟨rfl, rfl⟩ (by decide +kernel) rfl ⟨by show 1 + 1 ≤ dd + 1 + 9; omega, by show 8 + (1 + 11) + 21 ≤ 60 * (dd + 1) + 400; omega⟩ shC_3 (by decide) rfl rfl (Nat.le_of_ble_eq_true rfl) dX8_fact_32 ?_
  refine A_iinc X (L' := fun y3_4 => [(3, vI y3_4), (2, vI t1), (0, vR 3), (1, vI a1)]) 3 rfl (by decide) (fun _ => rfl) dX8_fact_35 (by decide) (fun y3_4 hy => ?_)
  replace h := ltD h y3_4 hy
  clear hy
  refine A_goto X (tgt := 4) (by decide) dX8_fact_38 ?_
  refine A_sub [2, 3, 1, 0] rfl (L' := [(0, vR 3), (1, vI a1), (2, vI t1), (3, vI y3_4)]) rfl ?_
  exact hk4 t1 y3_4 s2 h
set_option maxRecDepth 100000 in
set_option maxHeartbeats 4000000 in
theorem w_X8_fact_79 {x : aC} {r : Int × Hp} {dd : Nat} {rec : Nat → Int → Hp → Option (Int × Hp)} {a1 : Int} (hrec : ∀ (n : Nat) (o : Int) (σ : Hp) (r : Int × Hp), rec n o σ = some r → aMet (xl x) (xg x) shC (yg n) (wg n) (rmg dd) [vR 3, vI o] σ 0 r) (X : aX x cX8_fact wsX8_fact RX8 4 (rmg (dd + 1))) (E : aE x shC (some .boolean) 0 r) (σ : Hp) (h : F_Rdr_fact_79 rec a1 σ = some r) : aS x shC 4 79 [] [] σ := by
  unfold F_Rdr_fact_79 at h
  refine A_iconst X dX8_fact_79 (z := 0) (by decide) ?_
  exact A_zreturn X (Or.inl rfl) E h dX8_fact_80
set_option maxRecDepth 100000 in
set_option maxHeartbeats 4000000 in
theorem w_X8_fact_182 {x : aC} {r : Int × Hp} {dd : Nat} {rec : Nat → Int → Hp → Option (Int × Hp)} {a1 : Int} (hrec : ∀ (n : Nat) (o : Int) (σ : Hp) (r : Int × Hp), rec n o σ = some r → aMet (xl x) (xg x) shC (yg n) (wg n) (rmg dd) [vR 3, vI o] σ 0 r) (X : aX x cX8_fact wsX8_fact RX8 4 (rmg (dd + 1))) (E : aE x shC (some .boolean) 0 r) (σ : Hp) (h : F_Rdr_fact_182 rec a1 σ = some r) : aS x shC 4 182 [] [] σ := by
  unfold F_Rdr_fact_182 at h
  refine A_iconst X dX8_fact_182 (z := 1) (by decide) ?_
  exact A_zreturn X (Or.inr rfl) E h dX8_fact_183
set_option maxRecDepth 100000 in
set_option maxHeartbeats 4000000 in
theorem w_X8_fact_168 {x : aC} {r : Int × Hp} {dd : Nat} {rec : Nat → Int → Hp → Option (Int × Hp)} {a1 : Int} (hrec : ∀ (n : Nat) (o : Int) (σ : Hp) (r : Int × Hp), rec n o σ = some r → aMet (xl x) (xg x) shC (yg n) (wg n) (rmg dd) [vR 3, vI o] σ 0 r) (X : aX x cX8_fact wsX8_fact RX8 4 (rmg (dd + 1))) (E : aE x shC (some .boolean) 0 r) (x2 : Int) (σ : Hp) (h : F_Rdr_fact_168 rec a1 x2 σ = some r) : aS x shC 4 168 [(0, vR 3), (2, vI x2)] [] σ := by
  unfold F_Rdr_fact_168 at h
  refine A_iload_n X 1 rfl rfl dX8_fact_168 ?_
  refine A_if_eq X (tgt := 182) (by decide) dX8_fact_169 (fun c5 => ?_) (fun c5 => ?_)
  · replace h := ifT h c5
    refine A_sub [] rfl (L' := []) rfl ?_
    exact w_X8_fact_182 (a1 := a1) hrec X E σ h
  · replace h := ifF h c5
    refine A_aload_n X 0 rfl rfl dX8_fact_172 ?_
    refine A_getV X fg_X8_fact_12 shC_3 (k := 1) rfl (by decide) dX8_fact_173 ?_
    obtain ⟨q6, hy⟩ : ∃ y, y = (σ 3 1).toNat := ⟨_, rfl⟩
    replace h := ltD h q6 hy
    rw [← hy]
    clear hy
    obtain ⟨g7, h⟩ := gdD h
    refine A_sipush X dX8_fact_176 (z := (-266)) (by decide) ?_
    obtain ⟨v8, s9, e10, h⟩ := clD h
    refine A_callV_V (na := 1) X (m_X6_emit e10) gX8_fact_X6_emit rfl ⟨rfl, rfl⟩ (by decide +kernel) rfl ⟨by show 0 + 1 ≤ dd + 1 + 9; omega, by show 8 + (2 + 11) + 0 ≤ 60 * (dd + 1) + 400; omega⟩ (shNet g7) (by decide) rfl rfl (Nat.le_of_ble_eq_true rfl) dX8_fact_179 ?_
    refine A_sub [] rfl (L' := []) rfl ?_
    exact w_X8_fact_182 (a1 := a1) hrec X E s9 h
set_option maxRecDepth 100000 in
set_option maxHeartbeats 4000000 in
theorem w_X8_fact_145 {x : aC} {r : Int × Hp} {dd : Nat} {rec : Nat → Int → Hp → Option (Int × Hp)} {a1 : Int} (hrec : ∀ (n : Nat) (o : Int) (σ : Hp) (r : Int × Hp), rec n o σ = some r → aMet (xl x) (xg x) shC (yg n) (wg n) (rmg dd) [vR 3, vI o] σ 0 r) (X : aX x cX8_fact wsX8_fact RX8 4 (rmg (dd + 1))) (E : aE x shC (some .boolean) 0 r) (x2 : Int) (x3 : Int) (σ : Hp) (h : F_Rdr_fact_145 rec a1 x2 x3 σ = some r) : aS x shC 4 145 [(0, vR 3), (1, vI a1), (2, vI x2), (3, vI x3)] [] σ := by
  unfold F_Rdr_fact_145 at h
  refine A_aload_n X 0 rfl rfl dX8_fact_145 ?_
  obtain ⟨v11, s12, e13, h⟩ := clD h
  refine A_callV_V (na := 0) X (m_X8_step e13) gX8_fact_X8_step rfl ⟨rfl, rfl⟩ (by decide +kernel) rfl ⟨by show 1 + 1 ≤ dd + 1 + 9; omega, by show 8 + (1 + 11) + 21 ≤ 60 * (dd + 1) + 400; omega⟩ shC_3 (by decide) rfl rfl (Nat.le_of_ble_eq_true rfl) dX8_fact_146 ?_
  refine A_aload_n X 0 rfl rfl dX8_fact_149 ?_
  refine A_iload_n X 1 rfl rfl dX8_fact_150 ?_
  obtain ⟨v14, s15, e16, h⟩ := clD h
  refine A_callV_I (na := 1) X (hrec _ _ _ _ e16) gX8_fact_X8_sum rfl ⟨rfl, rfl⟩ (by decide +kernel) rfl ⟨by show dd + 9 + 1 ≤ dd + 1 + 9; omega, by show 8 + (4 + 11) + (60 * dd + 400) ≤ 60 * (dd + 1) + 400; omega⟩ shC_3 (by decide) rfl rfl (Nat.le_of_ble_eq_true rfl) dX8_fact_151 ?_
  refine A_if_ne X (tgt := 159) (by decide) dX8_fact_154 (fun c17 => ?_) (fun c17 => ?_)
  · replace h := ifF h c17
    refine A_aload_n X 0 rfl rfl dX8_fact_159 ?_
    refine A_getV X fg_X8_fact_12 shC_3 (k := 1) rfl (by decide) dX8_fact_160 ?_
    obtain ⟨q18, hy⟩ : ∃ y, y = (s15 3 1).toNat := ⟨_, rfl⟩
    replace h := ltD h q18 hy
    rw [← hy]
    clear hy
    obtain ⟨g19, h⟩ := gdD h
    refine A_iload_n X 3 rfl rfl dX8_fact_163 ?_
    refine A_ineg X dX8_fact_164 ?_
    obtain ⟨v20, s21, e22, h⟩ := clD h
    refine A_callV_V (na := 1) X (m_X6_emit e22) gX8_fact_X6_emit rfl ⟨rfl, rfl⟩ (by decide +kernel) rfl ⟨by show 0 + 1 ≤ dd + 1 + 9; omega, by show 8 + (2 + 11) + 0 ≤ 60 * (dd + 1) + 400; omega⟩ (shNet g19) (by decide) rfl rfl (Nat.le_of_ble_eq_true rfl) dX8_fact_165 ?_
    refine A_sub [0, 2] rfl (L' := [(0, vR 3), (2, vI x2)]) rfl ?_
    exact w_X8_fact_168 (a1 := a1) hrec X E x2 s21 h
  · replace h := ifT h c17
    refine A_iconst X dX8_fact_157 (z := 0) (by decide) ?_
    exact A_zreturn X (Or.inl rfl) E h dX8_fact_158
set_option maxRecDepth 100000 in
set_option maxHeartbeats 4000000 in
theorem w_X8_fact_41 {x : aC} {r : Int × Hp} {dd : Nat} {rec : Nat → Int → Hp → Option (Int × Hp)} {a1 : Int} (hrec : ∀ (n : Nat) (o : Int) (σ : Hp) (r : Int × Hp), rec n o σ = some r → aMet (xl x) (xg x) shC (yg n) (wg n) (rmg dd) [vR 3, vI o] σ 0 r) (X : aX x cX8_fact wsX8_fact RX8 4 (rmg (dd + 1))) (E : aE x shC (some .boolean) 0 r) (x2 : Int) (σ : Hp) (h : F_Rdr_fact_41 rec a1 x2 σ = some r) : aS x shC 4 41 [(0, vR 3), (1, vI a1), (2, vI x2)] [] σ := by
  unfold F_Rdr_fact_41 at h
  refine A_aload_n X 0 rfl rfl dX8_fact_41 ?_
  refine A_getI X fg_X8_fact_47 shC_3 (k := 3) rfl (by decide) dX8_fact_42 ?_
  refine A_bipush X dX8_fact_45 (z := 91) (by decide) ?_
  refine A_icmp_ne X (tgt := 81) (by decide) dX8_fact_47 (fun c23 => ?_) (fun c23 => ?_)
  · replace h := ifF h c23
    refine A_aload_n X 0 rfl rfl dX8_fact_81 ?_
    refine A_getI X fg_X8_fact_47 shC_3 (k := 3) rfl (by decide) dX8_fact_82 ?_
    refine A_sipush X dX8_fact_85 (z := 267) (by decide) ?_
    refine A_icmp_ne X (tgt := 106) (by decide) dX8_fact_88 (fun c24 => ?_) (fun c24 => ?_)
    · replace h := ifF h c24
      refine A_aload_n X 0 rfl rfl dX8_fact_106 ?_
      refine A_iload_n X 1 rfl rfl dX8_fact_107 ?_
      obtain ⟨v25, s26, e27, h⟩ := clD h
      refine A_callV_I (na := 1) X (hrec _ _ _ _ e27) gX8_fact_X8_sum rfl ⟨rfl, rfl⟩ (by decide +kernel) rfl ⟨by show dd + 9 + 1 ≤ dd + 1 + 9; omega, by show 8 + (4 + 11) + (60 * dd + 400) ≤ 60 * (dd + 1) + 400; omega⟩ shC_3 (by decide) rfl rfl (Nat.le_of_ble_eq_true rfl) dX8_fact_108 ?_
      refine A_if_ne X (tgt := 116) (by decide) dX8_fact_111 (fun c28 => ?_) (fun c28 => ?_)
      · replace h := ifF h c28
        refine A_aload_n X 0 rfl rfl dX8_fact_116 ?_
        refine A_getI X fg_X8_fact_47 shC_3 (k := 3) rfl (by decide) dX8_fact_117 ?_
        refine A_istore_nN X (L' := fun y3_29 => [(3, vI y3_29), (0, vR 3), (1, vI a1), (2, vI x2)]) rfl (by decide) (fun _ => rfl) dX8_fact_120 (fun y3_29 hy => ?_)
        replace h := ltD h y3_29 hy
        clear hy
        refine A_iload_n X 0 rfl rfl dX8_fact_121 ?_
        refine A_bipush X dX8_fact_122 (z := 60) (by decide) ?_
        refine A_icmp_eq X (tgt := 145) (by decide) dX8_fact_124 (fun c30 => ?_) (fun c30 => ?_)
        · replace h := ifT h c30
          refine A_sub [1, 2, 3, 0] rfl (L' := [(0, vR 3), (1, vI a1), (2, vI x2), (3, vI y3_29)]) rfl ?_
          exact w_X8_fact_145 (a1 := a1) hrec X E x2 y3_29 s26 h
        · replace h := ifF h c30
          refine A_iload_n X 0 rfl rfl dX8_fact_127 ?_
          refine A_bipush X dX8_fact_128 (z := 62) (by decide) ?_
          refine A_icmp_eq X (tgt := 145) (by decide) dX8_fact_130 (fun c31 => ?_) (fun c31 => ?_)
          · replace h := ifT h c31
            refine A_sub [1, 2, 3, 0] rfl (L' := [(0, vR 3), (1, vI a1), (2, vI x2), (3, vI y3_29)]) rfl ?_
            exact w_X8_fact_145 (a1 := a1) hrec X E x2 y3_29 s26 h
          · replace h := ifF h c31
            refine A_iload_n X 0 rfl rfl dX8_fact_133 ?_
            refine A_bipush X dX8_fact_134 (z := 61) (by decide) ?_
            refine A_icmp_eq X (tgt := 145) (by decide) dX8_fact_136 (fun c32 => ?_) (fun c32 => ?_)
            · replace h := ifT h c32
              refine A_sub [1, 2, 3, 0] rfl (L' := [(0, vR 3), (1, vI a1), (2, vI x2), (3, vI y3_29)]) rfl ?_
              exact w_X8_fact_145 (a1 := a1) hrec X E x2 y3_29 s26 h
            · replace h := ifF h c32
              refine A_aload_n X 1 rfl rfl dX8_fact_139 ?_
              refine A_iconst X dX8_fact_140 (z := 1) (by decide) ?_
              obtain ⟨v33, s34, e35, h⟩ := clD h
              refine A_callV_I (na := 1) X (m_X8_fail e35) gX8_fact_X8_fail rfl ⟨rfl, rfl⟩ (by decide +kernel) rfl ⟨by show 1 + 1 ≤ dd + 1 + 9; omega, by show 8 + (2 + 11) + 21 ≤ 60 * (dd + 1) + 400; omega⟩ shC_3 (by decide) rfl rfl (Nat.le_of_ble_eq_true rfl) dX8_fact_141 ?_
              obtain ⟨g36, h⟩ := gdD h
              exact A_zreturn X g36 E h dX8_fact_144
      · replace h := ifT h c28
        refine A_iconst X dX8_fact_114 (z := 0) (by decide) ?_
        exact A_zreturn X (Or.inl rfl) E h dX8_fact_115
    · replace h := ifT h c24
      refine A_aload_n X 0 rfl rfl dX8_fact_91 ?_
      refine A_getV X fg_X8_fact_12 shC_3 (k := 1) rfl (by decide) dX8_fact_92 ?_
      obtain ⟨q37, hy⟩ : ∃ y, y = (σ 3 1).toNat := ⟨_, rfl⟩
      replace h := ltD h q37 hy
      rw [← hy]
      clear hy
      obtain ⟨g38, h⟩ := gdD h
      refine A_iconst X dX8_fact_95 (z := 1) (by decide) ?_
      obtain ⟨v39, s40, e41, h⟩ := clD h
      refine A_callV_V (na := 1) X (m_X6_emit e41) gX8_fact_X6_emit rfl ⟨rfl, rfl⟩ (by decide +kernel) rfl ⟨by show 0 + 1 ≤ dd + 1 + 9; omega, by show 8 + (2 + 11) + 0 ≤ 60 * (dd + 1) + 400; omega⟩ (shNet g38) (by decide) rfl rfl (Nat.le_of_ble_eq_true rfl) dX8_fact_96 ?_
      refine A_aload_n X 0 rfl rfl dX8_fact_99 ?_
      obtain ⟨v42, s43, e44, h⟩ := clD h
      refine A_callV_V (na := 0) X (m_X8_step e44) gX8_fact_X8_step rfl ⟨rfl, rfl⟩ (by decide +kernel) rfl ⟨by show 1 + 1 ≤ dd + 1 + 9; omega, by show 8 + (1 + 11) + 21 ≤ 60 * (dd + 1) + 400; omega⟩ shC_3 (by decide) rfl rfl (Nat.le_of_ble_eq_true rfl) dX8_fact_100 ?_
      refine A_goto X (tgt := 168) (by decide) dX8_fact_103 ?_
      refine A_sub [0, 2] rfl (L' := [(0, vR 3), (2, vI x2)]) rfl ?_
      exact w_X8_fact_168 (a1 := a1) hrec X E x2 s43 h
  · replace h := ifT h c23
    refine A_aload_n X 0 rfl rfl dX8_fact_50 ?_
    refine A_bipush X dX8_fact_51 (z := 91) (by decide) ?_
    refine A_iload_n X 1 rfl rfl dX8_fact_53 ?_
    obtain ⟨v45, s46, e47, h⟩ := clD h
    refine A_callV_I (na := 2) X (m_X8_opens e47) gX8_fact_X8_opens rfl ⟨rfl, rfl⟩ (by decide +kernel) rfl ⟨by show 2 + 1 ≤ dd + 1 + 9; omega, by show 8 + (3 + 11) + 42 ≤ 60 * (dd + 1) + 400; omega⟩ shC_3 (by decide) rfl rfl (Nat.le_of_ble_eq_true rfl) dX8_fact_54 ?_
    refine A_if_eq X (tgt := 79) (by decide) dX8_fact_57 (fun c48 => ?_) (fun c48 => ?_)
    · replace h := ifT h c48
      refine A_sub [] rfl (L' := []) rfl ?_
      exact w_X8_fact_79 (a1 := a1) hrec X E s46 h
    · replace h := ifF h c48
      refine A_aload_n X 0 rfl rfl dX8_fact_60 ?_
      refine A_iload_n X 1 rfl rfl dX8_fact_61 ?_
      refine A_iconst X dX8_fact_62 (z := 1) (by decide) ?_
      refine A_iadd X dX8_fact_63 ?_
      obtain ⟨v49, s50, e51, h⟩ := clD h
      refine A_callV_I (na := 1) X (hrec _ _ _ _ e51) gX8_fact_X8_test rfl ⟨rfl, rfl⟩ (by decide +kernel) rfl ⟨by show dd + 9 + 1 ≤ dd + 1 + 9; omega, by show 8 + (3 + 11) + (60 * dd + 400) ≤ 60 * (dd + 1) + 400; omega⟩ shC_3 (by decide) rfl rfl (Nat.le_of_ble_eq_true rfl) dX8_fact_64 ?_
      refine A_if_eq X (tgt := 79) (by decide) dX8_fact_67 (fun c52 => ?_) (fun c52 => ?_)
      · replace h := ifT h c52
        refine A_sub [] rfl (L' := []) rfl ?_
        exact w_X8_fact_79 (a1 := a1) hrec X E s50 h
      · replace h := ifF h c52
        refine A_aload_n X 0 rfl rfl dX8_fact_70 ?_
        refine A_bipush X dX8_fact_71 (z := 93) (by decide) ?_
        obtain ⟨v53, s54, e55, h⟩ := clD h
        refine A_callV_I (na := 1) X (m_X8_skip e55) gX8_fact_X8_skip rfl ⟨rfl, rfl⟩ (by decide +kernel) rfl ⟨by show 2 + 1 ≤ dd + 1 + 9; omega, by show 8 + (2 + 11) + 42 ≤ 60 * (dd + 1) + 400; omega⟩ shC_3 (by decide) rfl rfl (Nat.le_of_ble_eq_true rfl) dX8_fact_73 ?_
        refine A_if_ne X (tgt := 168) (by decide) dX8_fact_76 (fun c56 => ?_) (fun c56 => ?_)
        · replace h := ifF h c56
          refine A_sub [0, 2] rfl (L' := [(0, vR 3), (2, vI x2)]) rfl ?_
          exact w_X8_fact_168 (a1 := a1) hrec X E x2 s54 h
        · replace h := ifT h c56
          refine A_sub [] rfl (L' := []) rfl ?_
          exact w_X8_fact_79 (a1 := a1) hrec X E s54 h
set_option maxRecDepth 100000 in
set_option maxHeartbeats 4000000 in
theorem w_X8_fact_4_b {x : aC} {r : Int × Hp} {dd : Nat} {rec : Nat → Int → Hp → Option (Int × Hp)} {k4 : Int × Int × Hp → Option (Int × Hp)} {a1 : Int} (hrec : ∀ (n : Nat) (o : Int) (σ : Hp) (r : Int × Hp), rec n o σ = some r → aMet (xl x) (xg x) shC (yg n) (wg n) (rmg dd) [vR 3, vI o] σ 0 r) (X : aX x cX8_fact wsX8_fact RX8 4 (rmg (dd + 1))) (E : aE x shC (some .boolean) 0 r) (hk4 : ∀ (x2 : Int) (x3 : Int) (σ : Hp), k4 (x2, x3, σ) = some r → aS x shC 4 4 [(0, vR 3), (1, vI a1), (2, vI x2), (3, vI x3)] [] σ) (x2 : Int) (x3 : Int) (σ : Hp) (h : F_Rdr_fact_4_b rec k4 a1 x2 x3 σ = some r) : aS x shC 4 4 [(0, vR 3), (1, vI a1), (2, vI x2), (3, vI x3)] [] σ := by
  unfold F_Rdr_fact_4_b at h
  refine A_iload_n X 3 rfl rfl dX8_fact_4 ?_
  refine A_sipush X dX8_fact_5 (z := 900) (by decide) ?_
  refine A_icmp_ge X (tgt := 41) (by decide) dX8_fact_8 (fun c57 => ?_) (fun c57 => ?_)
  · replace h := ifT h c57
    refine A_sub [0, 1, 2] rfl (L' := [(0, vR 3), (1, vI a1), (2, vI x2)]) rfl ?_
    exact w_X8_fact_41 (a1 := a1) hrec X E x2 σ h
  · replace h := ifF h c57
    refine A_aload_n X 0 rfl rfl dX8_fact_11 ?_
    refine A_getI X fg_X8_fact_47 shC_3 (k := 3) rfl (by decide) dX8_fact_12 ?_
    refine A_sipush X dX8_fact_15 (z := 266) (by decide) ?_
    refine A_icmp_ne X (tgt := 41) (by decide) dX8_fact_18 (fun c58 => ?_) (fun c58 => ?_)
    · replace h := ifF h c58
      refine A_sub [0, 1, 2] rfl (L' := [(0, vR 3), (1, vI a1), (2, vI x2)]) rfl ?_
      exact w_X8_fact_41 (a1 := a1) hrec X E x2 σ h
    · replace h := ifT h c58
      refine A_iload_n X 2 rfl rfl dX8_fact_21 ?_
      refine A_if_ne X (tgt := 29) (by decide) dX8_fact_22 (fun c59 => ?_) (fun c59 => ?_)
      · replace h := ifF h c59
        refine A_iconst X dX8_fact_29 (z := 0) (by decide) ?_
        refine A_sub [0, 1, 3] rfl (L' := [(0, vR 3), (1, vI a1), (3, vI x3)]) rfl ?_
        exact w_X8_fact_30 (a1 := a1) hrec X E hk4 x3 0 σ h
      · replace h := ifT h c59
        refine A_iconst X dX8_fact_25 (z := 1) (by decide) ?_
        refine A_goto X (tgt := 30) (by decide) dX8_fact_26 ?_
        refine A_sub [0, 1, 3] rfl (L' := [(0, vR 3), (1, vI a1), (3, vI x3)]) rfl ?_
        exact w_X8_fact_30 (a1 := a1) hrec X E hk4 x3 1 σ h
set_option maxRecDepth 100000 in
set_option maxHeartbeats 4000000 in
theorem w_X8_fact_4 {x : aC} {r : Int × Hp} {dd : Nat} {rec : Nat → Int → Hp → Option (Int × Hp)} {a1 : Int} (hrec : ∀ (n : Nat) (o : Int) (σ : Hp) (r : Int × Hp), rec n o σ = some r → aMet (xl x) (xg x) shC (yg n) (wg n) (rmg dd) [vR 3, vI o] σ 0 r) (X : aX x cX8_fact wsX8_fact RX8 4 (rmg (dd + 1))) (E : aE x shC (some .boolean) 0 r) : ∀ (n : Nat) (x2 : Int) (x3 : Int) (σ : Hp) (h : F_Rdr_fact_4 rec a1 n (x2, x3, σ) = some r), aS x shC 4 4 [(0, vR 3), (1, vI a1), (2, vI x2), (3, vI x3)] [] σ := by
  intro n
  induction n with
  | zero => intro x2 x3 σ h; cases h
  | succ n ih => intro x2 x3 σ h; exact w_X8_fact_4_b (a1 := a1) (k4 := F_Rdr_fact_4 rec a1 n) hrec X E ih x2 x3 σ h
set_option maxRecDepth 100000 in
set_option maxHeartbeats 4000000 in
theorem m_X8_fact {l : Launch} {g : aG} {dd : Nat} {rec : Nat → Int → Hp → Option (Int × Hp)} {a1 : Int} {σ : Hp} {r : Int × Hp} (hrec : ∀ (n : Nat) (o : Int) (σ : Hp) (r : Int × Hp), rec n o σ = some r → aMet l g shC (yg n) (wg n) (rmg dd) [vR 3, vI o] σ 0 r) (h : F_Rdr_fact rec a1 σ = some r) : aMet l g shC yX8_fact wsX8_fact (rmg (dd + 1)) [vR 3, vI a1] σ 0 r := by
  unfold F_Rdr_fact at h
  refine aMet_of (bytes := cX8_fact) (maxL := 4) (ret := (some .boolean)) (by decide +kernel) rfl (Nat.le_of_ble_eq_true rfl) ⟨rfl, rfl⟩ (fun x e1 e2 X E => ?_)
  subst e1; subst e2
  have X : aX x cX8_fact wsX8_fact RX8 4 (rmg (dd + 1)) := X
  show aS x shC 4 0 [(0, vR 3), (1, vI a1)] [] σ
  refine A_iconst X dX8_fact_0 (z := 0) (by decide) ?_
  refine A_istore_n X (L' := [(2, vI 0), (0, vR 3), (1, vI a1)]) rfl (by decide) rfl dX8_fact_1 ?_
  refine A_iconst X dX8_fact_2 (z := 0) (by decide) ?_
  refine A_istore_n X (L' := [(3, vI 0), (2, vI 0), (0, vR 3), (1, vI a1)]) rfl (by decide) rfl dX8_fact_3 ?_
  refine A_sub [2, 3, 1, 0] rfl (L' := [(0, vR 3), (1, vI a1), (2, vI 0), (3, vI 0)]) rfl ?_
  exact w_X8_fact_4 (a1 := a1) hrec X E FU 0 0 σ h
theorem in_X8_sum_8 : ∀ w ∈ u_ws RX8 TX8 8, w ∈ wsX8_sum := fun w h => List.mem_cons_of_mem _ (List.mem_append_left _ (List.mem_append_left _ (List.mem_append_right _ h)))
theorem fg_X8_sum_47 : aFl wsX8_sum RX8 47 8 3 := ⟨RX8, TX8, 8, rfl, in_X8_sum_8, by decide, (List.mem_of_getElem? (i := 1) rfl), rfl⟩
theorem fg_X8_sum_12 : aFl wsX8_sum RX8 12 8 1 := ⟨RX8, TX8, 8, rfl, in_X8_sum_8, by decide, (List.mem_of_getElem? (i := 2) rfl), rfl⟩
set_option maxRecDepth 100000 in
set_option maxHeartbeats 4000000 in
theorem w_X8_sum_37 {x : aC} {r : Int × Hp} {dd : Nat} {rec : Nat → Int → Hp → Option (Int × Hp)} {k12 : Int × Hp → Option (Int × Hp)} {a1 : Int} (hrec : ∀ (n : Nat) (o : Int) (σ : Hp) (r : Int × Hp), rec n o σ = some r → aMet (xl x) (xg x) shC (yg n) (wg n) (rmg dd) [vR 3, vI o] σ 0 r) (X : aX x cX8_sum wsX8_sum RX8 4 (rmg (dd + 1))) (E : aE x shC (some .boolean) 0 r) (hk12 : ∀ (x2 : Int) (σ : Hp), k12 (x2, σ) = some r → aS x shC 4 12 [(0, vR 3), (1, vI a1), (2, vI x2)] [] σ) (x2 : Int) (σ : Hp) (h : F_Rdr_sum_37 rec k12 a1 x2 σ = some r) : aS x shC 4 37 [(0, vR 3), (1, vI a1), (2, vI x2)] [] σ := by
  unfold F_Rdr_sum_37 at h
  refine A_aload_n X 0 rfl rfl dX8_sum_37 ?_
  refine A_getI X fg_X8_sum_47 shC_3 (k := 3) rfl (by decide) dX8_sum_38 ?_
  refine A_istore_nN X (L' := fun y3_1 => [(3, vI y3_1), (0, vR 3), (1, vI a1), (2, vI x2)]) rfl (by decide) (fun _ => rfl) dX8_sum_41 (fun y3_1 hy => ?_)
  replace h := ltD h y3_1 hy
  clear hy
  refine A_aload_n X 1 rfl rfl dX8_sum_42 ?_
  obtain ⟨v2, s3, e4, h⟩ := clD h
  refine A_callV_V (na := 0) X (m_X8_step e4) gX8_sum_X8_step rfl ⟨rfl, rfl⟩ (by decide +kernel) rfl ⟨by show 1 + 1 ≤ dd + 1 + 9; omega, by show 8 + (1 + 11) + 21 ≤ 60 * (dd + 1) + 400; omega⟩ shC_3 (by decide) rfl rfl (Nat.le_of_ble_eq_true rfl) dX8_sum_43 ?_
  refine A_aload_n X 1 rfl rfl dX8_sum_46 ?_
  refine A_iload_n X 2 rfl rfl dX8_sum_47 ?_
  obtain ⟨v5, s6, e7, h⟩ := clD h
  refine A_callV_I (na := 1) X (hrec _ _ _ _ e7) gX8_sum_X8_product rfl ⟨rfl, rfl⟩ (by decide +kernel) rfl ⟨by show dd + 9 + 1 ≤ dd + 1 + 9; omega, by show 8 + (4 + 11) + (60 * dd + 400) ≤ 60 * (dd + 1) + 400; omega⟩ shC_3 (by decide) rfl rfl (Nat.le_of_ble_eq_true rfl) dX8_sum_48 ?_
  refine A_if_ne X (tgt := 56) (by decide) dX8_sum_51 (fun c8 => ?_) (fun c8 => ?_)
  · replace h := ifF h c8
    refine A_aload_n X 1 rfl rfl dX8_sum_56 ?_
    refine A_getV X fg_X8_sum_12 shC_3 (k := 1) rfl (by decide) dX8_sum_57 ?_
    obtain ⟨q9, hy⟩ : ∃ y, y = (s6 3 1).toNat := ⟨_, rfl⟩
    replace h := ltD h q9 hy
    rw [← hy]
    clear hy
    obtain ⟨g10, h⟩ := gdD h
    refine A_iload_n X 0 rfl rfl dX8_sum_60 ?_
    refine A_ineg X dX8_sum_61 ?_
    obtain ⟨v11, s12, e13, h⟩ := clD h
    refine A_callV_V (na := 1) X (m_X6_emit e13) gX8_sum_X6_emit rfl ⟨rfl, rfl⟩ (by decide +kernel) rfl ⟨by show 0 + 1 ≤ dd + 1 + 9; omega, by show 8 + (2 + 11) + 0 ≤ 60 * (dd + 1) + 400; omega⟩ (shNet g10) (by decide) rfl rfl (Nat.le_of_ble_eq_true rfl) dX8_sum_62 ?_
    refine A_iinc X (L' := fun y2_14 => [(2, vI y2_14), (3, vI y3_1), (0, vR 3), (1, vI a1)]) 3 rfl (by decide) (fun _ => rfl) dX8_sum_65 (by decide) (fun y2_14 hy => ?_)
    replace h := ltD h y2_14 hy
    clear hy
    refine A_goto X (tgt := 12) (by decide) dX8_sum_68 ?_
    refine A_sub [2, 3, 0] rfl (L' := [(0, vR 3), (1, vI a1), (2, vI y2_14)]) rfl ?_
    exact hk12 y2_14 s12 h
  · replace h := ifT h c8
    refine A_iconst X dX8_sum_54 (z := 0) (by decide) ?_
    exact A_zreturn X (Or.inl rfl) E h dX8_sum_55
set_option maxRecDepth 100000 in
set_option maxHeartbeats 4000000 in
theorem w_X8_sum_71 {x : aC} {r : Int × Hp} {dd : Nat} {rec : Nat → Int → Hp → Option (Int × Hp)} {a1 : Int} (hrec : ∀ (n : Nat) (o : Int) (σ : Hp) (r : Int × Hp), rec n o σ = some r → aMet (xl x) (xg x) shC (yg n) (wg n) (rmg dd) [vR 3, vI o] σ 0 r) (X : aX x cX8_sum wsX8_sum RX8 4 (rmg (dd + 1))) (E : aE x shC (some .boolean) 0 r) (σ : Hp) (h : F_Rdr_sum_71 rec a1 σ = some r) : aS x shC 4 71 [] [] σ := by
  unfold F_Rdr_sum_71 at h
  refine A_iconst X dX8_sum_71 (z := 1) (by decide) ?_
  exact A_zreturn X (Or.inr rfl) E h dX8_sum_72
set_option maxRecDepth 100000 in
set_option maxHeartbeats 4000000 in
theorem w_X8_sum_12_b {x : aC} {r : Int × Hp} {dd : Nat} {rec : Nat → Int → Hp → Option (Int × Hp)} {k12 : Int × Hp → Option (Int × Hp)} {a1 : Int} (hrec : ∀ (n : Nat) (o : Int) (σ : Hp) (r : Int × Hp), rec n o σ = some r → aMet (xl x) (xg x) shC (yg n) (wg n) (rmg dd) [vR 3, vI o] σ 0 r) (X : aX x cX8_sum wsX8_sum RX8 4 (rmg (dd + 1))) (E : aE x shC (some .boolean) 0 r) (hk12 : ∀ (x2 : Int) (σ : Hp), k12 (x2, σ) = some r → aS x shC 4 12 [(0, vR 3), (1, vI a1), (2, vI x2)] [] σ) (x2 : Int) (σ : Hp) (h : F_Rdr_sum_12_b rec k12 a1 x2 σ = some r) : aS x shC 4 12 [(0, vR 3), (1, vI a1), (2, vI x2)] [] σ := by
  unfold F_Rdr_sum_12_b at h
  refine A_iload_n X 2 rfl rfl dX8_sum_12 ?_
  refine A_sipush X dX8_sum_13 (z := 900) (by decide) ?_
  refine A_icmp_ge X (tgt := 71) (by decide) dX8_sum_16 (fun c15 => ?_) (fun c15 => ?_)
  · replace h := ifT h c15
    refine A_sub [] rfl (L' := []) rfl ?_
    exact w_X8_sum_71 (a1 := a1) hrec X E σ h
  · replace h := ifF h c15
    refine A_aload_n X 0 rfl rfl dX8_sum_19 ?_
    refine A_getI X fg_X8_sum_47 shC_3 (k := 3) rfl (by decide) dX8_sum_20 ?_
    refine A_bipush X dX8_sum_23 (z := 43) (by decide) ?_
    refine A_icmp_eq X (tgt := 37) (by decide) dX8_sum_25 (fun c16 => ?_) (fun c16 => ?_)
    · replace h := ifT h c16
      exact w_X8_sum_37 (a1 := a1) hrec X E hk12 x2 σ h
    · replace h := ifF h c16
      refine A_aload_n X 0 rfl rfl dX8_sum_28 ?_
      refine A_getI X fg_X8_sum_47 shC_3 (k := 3) rfl (by decide) dX8_sum_29 ?_
      refine A_bipush X dX8_sum_32 (z := 45) (by decide) ?_
      refine A_icmp_ne X (tgt := 71) (by decide) dX8_sum_34 (fun c17 => ?_) (fun c17 => ?_)
      · replace h := ifF h c17
        refine A_sub [] rfl (L' := []) rfl ?_
        exact w_X8_sum_71 (a1 := a1) hrec X E σ h
      · replace h := ifT h c17
        exact w_X8_sum_37 (a1 := a1) hrec X E hk12 x2 σ h
set_option maxRecDepth 100000 in
set_option maxHeartbeats 4000000 in
theorem w_X8_sum_12 {x : aC} {r : Int × Hp} {dd : Nat} {rec : Nat → Int → Hp → Option (Int × Hp)} {a1 : Int} (hrec : ∀ (n : Nat) (o : Int) (σ : Hp) (r : Int × Hp), rec n o σ = some r → aMet (xl x) (xg x) shC (yg n) (wg n) (rmg dd) [vR 3, vI o] σ 0 r) (X : aX x cX8_sum wsX8_sum RX8 4 (rmg (dd + 1))) (E : aE x shC (some .boolean) 0 r) : ∀ (n : Nat) (x2 : Int) (σ : Hp) (h : F_Rdr_sum_12 rec a1 n (x2, σ) = some r), aS x shC 4 12 [(0, vR 3), (1, vI a1), (2, vI x2)] [] σ := by
  intro n
  induction n with
  | zero => intro x2 σ h; cases h
  | succ n ih => intro x2 σ h; exact w_X8_sum_12_b (a1 := a1) (k12 := F_Rdr_sum_12 rec a1 n) hrec X E ih x2 σ h
set_option maxRecDepth 100000 in
set_option maxHeartbeats 4000000 in
theorem m_X8_sum {l : Launch} {g : aG} {dd : Nat} {rec : Nat → Int → Hp → Option (Int × Hp)} {a1 : Int} {σ : Hp} {r : Int × Hp} (hrec : ∀ (n : Nat) (o : Int) (σ : Hp) (r : Int × Hp), rec n o σ = some r → aMet l g shC (yg n) (wg n) (rmg dd) [vR 3, vI o] σ 0 r) (h : F_Rdr_sum rec a1 σ = some r) : aMet l g shC yX8_sum wsX8_sum (rmg (dd + 1)) [vR 3, vI a1] σ 0 r := by
  unfold F_Rdr_sum at h
  refine aMet_of (bytes := cX8_sum) (maxL := 4) (ret := (some .boolean)) (by decide +kernel) rfl (Nat.le_of_ble_eq_true rfl) ⟨rfl, rfl⟩ (fun x e1 e2 X E => ?_)
  subst e1; subst e2
  have X : aX x cX8_sum wsX8_sum RX8 4 (rmg (dd + 1)) := X
  show aS x shC 4 0 [(0, vR 3), (1, vI a1)] [] σ
  refine A_aload_n X 0 rfl rfl dX8_sum_0 ?_
  refine A_iload_n X 1 rfl rfl dX8_sum_1 ?_
  obtain ⟨v18, s19, e20, h⟩ := clD h
  refine A_callV_I (na := 1) X (hrec _ _ _ _ e20) gX8_sum_X8_product rfl ⟨rfl, rfl⟩ (by decide +kernel) rfl ⟨by show dd + 9 + 1 ≤ dd + 1 + 9; omega, by show 8 + (4 + 11) + (60 * dd + 400) ≤ 60 * (dd + 1) + 400; omega⟩ shC_3 (by decide) rfl rfl (Nat.le_of_ble_eq_true rfl) dX8_sum_2 ?_
  refine A_if_ne X (tgt := 10) (by decide) dX8_sum_5 (fun c21 => ?_) (fun c21 => ?_)
  · replace h := ifF h c21
    refine A_iconst X dX8_sum_10 (z := 0) (by decide) ?_
    refine A_istore_n X (L' := [(2, vI 0), (0, vR 3), (1, vI a1)]) rfl (by decide) rfl dX8_sum_11 ?_
    refine A_sub [1, 2, 0] rfl (L' := [(0, vR 3), (1, vI a1), (2, vI 0)]) rfl ?_
    exact w_X8_sum_12 (a1 := a1) hrec X E FU 0 s19 h
  · replace h := ifT h c21
    refine A_iconst X dX8_sum_8 (z := 0) (by decide) ?_
    exact A_zreturn X (Or.inl rfl) E h dX8_sum_9
theorem in_X8_product_8 : ∀ w ∈ u_ws RX8 TX8 8, w ∈ wsX8_product := fun w h => List.mem_cons_of_mem _ (List.mem_append_left _ (List.mem_append_left _ (List.mem_append_right _ h)))
theorem fg_X8_product_47 : aFl wsX8_product RX8 47 8 3 := ⟨RX8, TX8, 8, rfl, in_X8_product_8, by decide, (List.mem_of_getElem? (i := 1) rfl), rfl⟩
theorem fg_X8_product_12 : aFl wsX8_product RX8 12 8 1 := ⟨RX8, TX8, 8, rfl, in_X8_product_8, by decide, (List.mem_of_getElem? (i := 2) rfl), rfl⟩
set_option maxRecDepth 100000 in
set_option maxHeartbeats 4000000 in
theorem w_X8_product_46 {x : aC} {r : Int × Hp} {dd : Nat} {rec : Nat → Int → Hp → Option (Int × Hp)} {k12 : Int × Hp → Option (Int × Hp)} {a1 : Int} (hrec : ∀ (n : Nat) (o : Int) (σ : Hp) (r : Int × Hp), rec n o σ = some r → aMet (xl x) (xg x) shC (yg n) (wg n) (rmg dd) [vR 3, vI o] σ 0 r) (X : aX x cX8_product wsX8_product RX8 4 (rmg (dd + 1))) (E : aE x shC (some .boolean) 0 r) (hk12 : ∀ (x2 : Int) (σ : Hp), k12 (x2, σ) = some r → aS x shC 4 12 [(0, vR 3), (1, vI a1), (2, vI x2)] [] σ) (x2 : Int) (σ : Hp) (h : F_Rdr_product_46 rec k12 a1 x2 σ = some r) : aS x shC 4 46 [(0, vR 3), (1, vI a1), (2, vI x2)] [] σ := by
  unfold F_Rdr_product_46 at h
  refine A_aload_n X 0 rfl rfl dX8_product_46 ?_
  refine A_getI X fg_X8_product_47 shC_3 (k := 3) rfl (by decide) dX8_product_47 ?_
  refine A_istore_nN X (L' := fun y3_1 => [(3, vI y3_1), (0, vR 3), (1, vI a1), (2, vI x2)]) rfl (by decide) (fun _ => rfl) dX8_product_50 (fun y3_1 hy => ?_)
  replace h := ltD h y3_1 hy
  clear hy
  refine A_aload_n X 1 rfl rfl dX8_product_51 ?_
  obtain ⟨v2, s3, e4, h⟩ := clD h
  refine A_callV_V (na := 0) X (m_X8_step e4) gX8_product_X8_step rfl ⟨rfl, rfl⟩ (by decide +kernel) rfl ⟨by show 1 + 1 ≤ dd + 1 + 9; omega, by show 8 + (1 + 11) + 21 ≤ 60 * (dd + 1) + 400; omega⟩ shC_3 (by decide) rfl rfl (Nat.le_of_ble_eq_true rfl) dX8_product_52 ?_
  refine A_aload_n X 1 rfl rfl dX8_product_55 ?_
  refine A_iload_n X 2 rfl rfl dX8_product_56 ?_
  obtain ⟨v5, s6, e7, h⟩ := clD h
  refine A_callV_I (na := 1) X (hrec _ _ _ _ e7) gX8_product_X8_part rfl ⟨rfl, rfl⟩ (by decide +kernel) rfl ⟨by show dd + 9 + 1 ≤ dd + 1 + 9; omega, by show 8 + (4 + 11) + (60 * dd + 400) ≤ 60 * (dd + 1) + 400; omega⟩ shC_3 (by decide) rfl rfl (Nat.le_of_ble_eq_true rfl) dX8_product_57 ?_
  refine A_if_ne X (tgt := 65) (by decide) dX8_product_60 (fun c8 => ?_) (fun c8 => ?_)
  · replace h := ifF h c8
    refine A_aload_n X 1 rfl rfl dX8_product_65 ?_
    refine A_getV X fg_X8_product_12 shC_3 (k := 1) rfl (by decide) dX8_product_66 ?_
    obtain ⟨q9, hy⟩ : ∃ y, y = (s6 3 1).toNat := ⟨_, rfl⟩
    replace h := ltD h q9 hy
    rw [← hy]
    clear hy
    obtain ⟨g10, h⟩ := gdD h
    refine A_iload_n X 0 rfl rfl dX8_product_69 ?_
    refine A_ineg X dX8_product_70 ?_
    obtain ⟨v11, s12, e13, h⟩ := clD h
    refine A_callV_V (na := 1) X (m_X6_emit e13) gX8_product_X6_emit rfl ⟨rfl, rfl⟩ (by decide +kernel) rfl ⟨by show 0 + 1 ≤ dd + 1 + 9; omega, by show 8 + (2 + 11) + 0 ≤ 60 * (dd + 1) + 400; omega⟩ (shNet g10) (by decide) rfl rfl (Nat.le_of_ble_eq_true rfl) dX8_product_71 ?_
    refine A_iinc X (L' := fun y2_14 => [(2, vI y2_14), (3, vI y3_1), (0, vR 3), (1, vI a1)]) 3 rfl (by decide) (fun _ => rfl) dX8_product_74 (by decide) (fun y2_14 hy => ?_)
    replace h := ltD h y2_14 hy
    clear hy
    refine A_goto X (tgt := 12) (by decide) dX8_product_77 ?_
    refine A_sub [2, 3, 0] rfl (L' := [(0, vR 3), (1, vI a1), (2, vI y2_14)]) rfl ?_
    exact hk12 y2_14 s12 h
  · replace h := ifT h c8
    refine A_iconst X dX8_product_63 (z := 0) (by decide) ?_
    exact A_zreturn X (Or.inl rfl) E h dX8_product_64
set_option maxRecDepth 100000 in
set_option maxHeartbeats 4000000 in
theorem w_X8_product_80 {x : aC} {r : Int × Hp} {dd : Nat} {rec : Nat → Int → Hp → Option (Int × Hp)} {a1 : Int} (hrec : ∀ (n : Nat) (o : Int) (σ : Hp) (r : Int × Hp), rec n o σ = some r → aMet (xl x) (xg x) shC (yg n) (wg n) (rmg dd) [vR 3, vI o] σ 0 r) (X : aX x cX8_product wsX8_product RX8 4 (rmg (dd + 1))) (E : aE x shC (some .boolean) 0 r) (σ : Hp) (h : F_Rdr_product_80 rec a1 σ = some r) : aS x shC 4 80 [] [] σ := by
  unfold F_Rdr_product_80 at h
  refine A_iconst X dX8_product_80 (z := 1) (by decide) ?_
  exact A_zreturn X (Or.inr rfl) E h dX8_product_81
set_option maxRecDepth 100000 in
set_option maxHeartbeats 4000000 in
theorem w_X8_product_12_b {x : aC} {r : Int × Hp} {dd : Nat} {rec : Nat → Int → Hp → Option (Int × Hp)} {k12 : Int × Hp → Option (Int × Hp)} {a1 : Int} (hrec : ∀ (n : Nat) (o : Int) (σ : Hp) (r : Int × Hp), rec n o σ = some r → aMet (xl x) (xg x) shC (yg n) (wg n) (rmg dd) [vR 3, vI o] σ 0 r) (X : aX x cX8_product wsX8_product RX8 4 (rmg (dd + 1))) (E : aE x shC (some .boolean) 0 r) (hk12 : ∀ (x2 : Int) (σ : Hp), k12 (x2, σ) = some r → aS x shC 4 12 [(0, vR 3), (1, vI a1), (2, vI x2)] [] σ) (x2 : Int) (σ : Hp) (h : F_Rdr_product_12_b rec k12 a1 x2 σ = some r) : aS x shC 4 12 [(0, vR 3), (1, vI a1), (2, vI x2)] [] σ := by
  unfold F_Rdr_product_12_b at h
  refine A_iload_n X 2 rfl rfl dX8_product_12 ?_
  refine A_sipush X dX8_product_13 (z := 900) (by decide) ?_
  refine A_icmp_ge X (tgt := 80) (by decide) dX8_product_16 (fun c15 => ?_) (fun c15 => ?_)
  · replace h := ifT h c15
    refine A_sub [] rfl (L' := []) rfl ?_
    exact w_X8_product_80 (a1 := a1) hrec X E σ h
  · replace h := ifF h c15
    refine A_aload_n X 0 rfl rfl dX8_product_19 ?_
    refine A_getI X fg_X8_product_47 shC_3 (k := 3) rfl (by decide) dX8_product_20 ?_
    refine A_bipush X dX8_product_23 (z := 42) (by decide) ?_
    refine A_icmp_eq X (tgt := 46) (by decide) dX8_product_25 (fun c16 => ?_) (fun c16 => ?_)
    · replace h := ifT h c16
      exact w_X8_product_46 (a1 := a1) hrec X E hk12 x2 σ h
    · replace h := ifF h c16
      refine A_aload_n X 0 rfl rfl dX8_product_28 ?_
      refine A_getI X fg_X8_product_47 shC_3 (k := 3) rfl (by decide) dX8_product_29 ?_
      refine A_bipush X dX8_product_32 (z := 47) (by decide) ?_
      refine A_icmp_eq X (tgt := 46) (by decide) dX8_product_34 (fun c17 => ?_) (fun c17 => ?_)
      · replace h := ifT h c17
        exact w_X8_product_46 (a1 := a1) hrec X E hk12 x2 σ h
      · replace h := ifF h c17
        refine A_aload_n X 0 rfl rfl dX8_product_37 ?_
        refine A_getI X fg_X8_product_47 shC_3 (k := 3) rfl (by decide) dX8_product_38 ?_
        refine A_bipush X dX8_product_41 (z := 37) (by decide) ?_
        refine A_icmp_ne X (tgt := 80) (by decide) dX8_product_43 (fun c18 => ?_) (fun c18 => ?_)
        · replace h := ifF h c18
          refine A_sub [] rfl (L' := []) rfl ?_
          exact w_X8_product_80 (a1 := a1) hrec X E σ h
        · replace h := ifT h c18
          exact w_X8_product_46 (a1 := a1) hrec X E hk12 x2 σ h
set_option maxRecDepth 100000 in
set_option maxHeartbeats 4000000 in
theorem w_X8_product_12 {x : aC} {r : Int × Hp} {dd : Nat} {rec : Nat → Int → Hp → Option (Int × Hp)} {a1 : Int} (hrec : ∀ (n : Nat) (o : Int) (σ : Hp) (r : Int × Hp), rec n o σ = some r → aMet (xl x) (xg x) shC (yg n) (wg n) (rmg dd) [vR 3, vI o] σ 0 r) (X : aX x cX8_product wsX8_product RX8 4 (rmg (dd + 1))) (E : aE x shC (some .boolean) 0 r) : ∀ (n : Nat) (x2 : Int) (σ : Hp) (h : F_Rdr_product_12 rec a1 n (x2, σ) = some r), aS x shC 4 12 [(0, vR 3), (1, vI a1), (2, vI x2)] [] σ := by
  intro n
  induction n with
  | zero => intro x2 σ h; cases h
  | succ n ih => intro x2 σ h; exact w_X8_product_12_b (a1 := a1) (k12 := F_Rdr_product_12 rec a1 n) hrec X E ih x2 σ h
set_option maxRecDepth 100000 in
set_option maxHeartbeats 4000000 in
theorem m_X8_product {l : Launch} {g : aG} {dd : Nat} {rec : Nat → Int → Hp → Option (Int × Hp)} {a1 : Int} {σ : Hp} {r : Int × Hp} (hrec : ∀ (n : Nat) (o : Int) (σ : Hp) (r : Int × Hp), rec n o σ = some r → aMet l g shC (yg n) (wg n) (rmg dd) [vR 3, vI o] σ 0 r) (h : F_Rdr_product rec a1 σ = some r) : aMet l g shC yX8_product wsX8_product (rmg (dd + 1)) [vR 3, vI a1] σ 0 r := by
  unfold F_Rdr_product at h
  refine aMet_of (bytes := cX8_product) (maxL := 4) (ret := (some .boolean)) (by decide +kernel) rfl (Nat.le_of_ble_eq_true rfl) ⟨rfl, rfl⟩ (fun x e1 e2 X E => ?_)
  subst e1; subst e2
  have X : aX x cX8_product wsX8_product RX8 4 (rmg (dd + 1)) := X
  show aS x shC 4 0 [(0, vR 3), (1, vI a1)] [] σ
  refine A_aload_n X 0 rfl rfl dX8_product_0 ?_
  refine A_iload_n X 1 rfl rfl dX8_product_1 ?_
  obtain ⟨v19, s20, e21, h⟩ := clD h
  refine A_callV_I (na := 1) X (hrec _ _ _ _ e21) gX8_product_X8_part rfl ⟨rfl, rfl⟩ (by decide +kernel) rfl ⟨by show dd + 9 + 1 ≤ dd + 1 + 9; omega, by show 8 + (4 + 11) + (60 * dd + 400) ≤ 60 * (dd + 1) + 400; omega⟩ shC_3 (by decide) rfl rfl (Nat.le_of_ble_eq_true rfl) dX8_product_2 ?_
  refine A_if_ne X (tgt := 10) (by decide) dX8_product_5 (fun c22 => ?_) (fun c22 => ?_)
  · replace h := ifF h c22
    refine A_iconst X dX8_product_10 (z := 0) (by decide) ?_
    refine A_istore_n X (L' := [(2, vI 0), (0, vR 3), (1, vI a1)]) rfl (by decide) rfl dX8_product_11 ?_
    refine A_sub [1, 2, 0] rfl (L' := [(0, vR 3), (1, vI a1), (2, vI 0)]) rfl ?_
    exact w_X8_product_12 (a1 := a1) hrec X E FU 0 s20 h
  · replace h := ifT h c22
    refine A_iconst X dX8_product_8 (z := 0) (by decide) ?_
    exact A_zreturn X (Or.inl rfl) E h dX8_product_9
theorem in_X8_part_8 : ∀ w ∈ u_ws RX8 TX8 8, w ∈ wsX8_part := fun w h => List.mem_cons_of_mem _ (List.mem_append_left _ (List.mem_append_left _ (List.mem_append_right _ h)))
theorem fg_X8_part_12 : aFl wsX8_part RX8 12 8 1 := ⟨RX8, TX8, 8, rfl, in_X8_part_8, by decide, (List.mem_of_getElem? (i := 2) rfl), rfl⟩
theorem fg_X8_part_47 : aFl wsX8_part RX8 47 8 3 := ⟨RX8, TX8, 8, rfl, in_X8_part_8, by decide, (List.mem_of_getElem? (i := 1) rfl), rfl⟩
theorem in_X8_part_6 : ∀ w ∈ u_ws RX6 TX6 20, w ∈ wsX8_part := fun w h => List.mem_cons_of_mem _ (List.mem_append_left _ (List.mem_append_right _ h))
theorem fg_X8_part_167 : aFl wsX8_part RX8 167 6 1 := ⟨RX6, TX6, 20, rfl, in_X8_part_6, by decide, (List.mem_of_getElem? (i := 5) rfl), rfl⟩
theorem fg_X8_part_27 : aFl wsX8_part RX8 27 8 0 := ⟨RX8, TX8, 8, rfl, in_X8_part_8, by decide, (List.mem_of_getElem? (i := 3) rfl), rfl⟩
theorem fg_X8_part_40 : aFl wsX8_part RX8 40 8 2 := ⟨RX8, TX8, 8, rfl, in_X8_part_8, by decide, (List.mem_of_getElem? (i := 4) rfl), rfl⟩
set_option maxRecDepth 100000 in
set_option maxHeartbeats 4000000 in
theorem w_X8_part_104 {x : aC} {r : Int × Hp} {dd : Nat} {rec : Nat → Int → Hp → Option (Int × Hp)} {a1 : Int} (hrec : ∀ (n : Nat) (o : Int) (σ : Hp) (r : Int × Hp), rec n o σ = some r → aMet (xl x) (xg x) shC (yg n) (wg n) (rmg dd) [vR 3, vI o] σ 0 r) (X : aX x cX8_part wsX8_part RX8 4 (rmg (dd + 1))) (E : aE x shC (some .boolean) 0 r) (x2 : Int) (σ : Hp) (h : F_Rdr_part_104 rec a1 x2 σ = some r) : aS x shC 4 104 [(0, vR 3), (2, vI x2)] [] σ := by
  unfold F_Rdr_part_104 at h
  refine A_aload_n X 0 rfl rfl dX8_part_104 ?_
  refine A_getV X fg_X8_part_12 shC_3 (k := 1) rfl (by decide) dX8_part_105 ?_
  obtain ⟨q1, hy⟩ : ∃ y, y = (σ 3 1).toNat := ⟨_, rfl⟩
  replace h := ltD h q1 hy
  rw [← hy]
  clear hy
  obtain ⟨g2, h⟩ := gdD h
  refine A_iload_n X 1 rfl rfl dX8_part_108 ?_
  refine A_ineg X dX8_part_109 ?_
  obtain ⟨v3, s4, e5, h⟩ := clD h
  refine A_callV_V (na := 1) X (m_X6_emit e5) gX8_part_X6_emit rfl ⟨rfl, rfl⟩ (by decide +kernel) rfl ⟨by show 0 + 1 ≤ dd + 1 + 9; omega, by show 8 + (2 + 11) + 0 ≤ 60 * (dd + 1) + 400; omega⟩ (shNet g2) (by decide) rfl rfl (Nat.le_of_ble_eq_true rfl) dX8_part_110 ?_
  refine A_aload_n X 0 rfl rfl dX8_part_113 ?_
  obtain ⟨v6, s7, e8, h⟩ := clD h
  refine A_callV_V (na := 0) X (m_X8_step e8) gX8_part_X8_step rfl ⟨rfl, rfl⟩ (by decide +kernel) rfl ⟨by show 1 + 1 ≤ dd + 1 + 9; omega, by show 8 + (1 + 11) + 21 ≤ 60 * (dd + 1) + 400; omega⟩ shC_3 (by decide) rfl rfl (Nat.le_of_ble_eq_true rfl) dX8_part_114 ?_
  refine A_iconst X dX8_part_117 (z := 1) (by decide) ?_
  exact A_zreturn X (Or.inr rfl) E h dX8_part_118
set_option maxRecDepth 100000 in
set_option maxHeartbeats 4000000 in
theorem w_X8_part_191 {x : aC} {r : Int × Hp} {dd : Nat} {rec : Nat → Int → Hp → Option (Int × Hp)} {a1 : Int} (hrec : ∀ (n : Nat) (o : Int) (σ : Hp) (r : Int × Hp), rec n o σ = some r → aMet (xl x) (xg x) shC (yg n) (wg n) (rmg dd) [vR 3, vI o] σ 0 r) (X : aX x cX8_part wsX8_part RX8 4 (rmg (dd + 1))) (E : aE x shC (some .boolean) 0 r) (t1 : Int) (σ : Hp) (h : F_Rdr_part_191 rec a1 t1 σ = some r) : aS x shC 4 191 [] [vI t1] σ := by
  unfold F_Rdr_part_191 at h
  obtain ⟨g9, h⟩ := gdD h
  exact A_zreturn X g9 E h dX8_part_191
set_option maxRecDepth 100000 in
set_option maxHeartbeats 4000000 in
theorem w_X8_part_190 {x : aC} {r : Int × Hp} {dd : Nat} {rec : Nat → Int → Hp → Option (Int × Hp)} {a1 : Int} (hrec : ∀ (n : Nat) (o : Int) (σ : Hp) (r : Int × Hp), rec n o σ = some r → aMet (xl x) (xg x) shC (yg n) (wg n) (rmg dd) [vR 3, vI o] σ 0 r) (X : aX x cX8_part wsX8_part RX8 4 (rmg (dd + 1))) (E : aE x shC (some .boolean) 0 r) (σ : Hp) (h : F_Rdr_part_190 rec a1 σ = some r) : aS x shC 4 190 [] [] σ := by
  unfold F_Rdr_part_190 at h
  refine A_iconst X dX8_part_190 (z := 0) (by decide) ?_
  exact w_X8_part_191 (a1 := a1) hrec X E 0 σ h
set_option maxRecDepth 100000 in
set_option maxHeartbeats 4000000 in
theorem w_X8_part_244 {x : aC} {r : Int × Hp} {dd : Nat} {rec : Nat → Int → Hp → Option (Int × Hp)} {a1 : Int} (hrec : ∀ (n : Nat) (o : Int) (σ : Hp) (r : Int × Hp), rec n o σ = some r → aMet (xl x) (xg x) shC (yg n) (wg n) (rmg dd) [vR 3, vI o] σ 0 r) (X : aX x cX8_part wsX8_part RX8 4 (rmg (dd + 1))) (E : aE x shC (some .boolean) 0 r) (σ : Hp) (h : F_Rdr_part_244 rec a1 σ = some r) : aS x shC 4 244 [] [] σ := by
  unfold F_Rdr_part_244 at h
  refine A_iconst X dX8_part_244 (z := 0) (by decide) ?_
  exact A_zreturn X (Or.inl rfl) E h dX8_part_245
set_option maxRecDepth 100000 in
set_option maxHeartbeats 4000000 in
theorem w_X8_part_192 {x : aC} {r : Int × Hp} {dd : Nat} {rec : Nat → Int → Hp → Option (Int × Hp)} {a1 : Int} (hrec : ∀ (n : Nat) (o : Int) (σ : Hp) (r : Int × Hp), rec n o σ = some r → aMet (xl x) (xg x) shC (yg n) (wg n) (rmg dd) [vR 3, vI o] σ 0 r) (X : aX x cX8_part wsX8_part RX8 4 (rmg (dd + 1))) (E : aE x shC (some .boolean) 0 r) (x2 : Int) (σ : Hp) (h : F_Rdr_part_192 rec a1 x2 σ = some r) : aS x shC 4 192 [(0, vR 3), (1, vI a1), (2, vI x2)] [] σ := by
  unfold F_Rdr_part_192 at h
  refine A_aload_n X 0 rfl rfl dX8_part_192 ?_
  obtain ⟨v10, s11, e12, h⟩ := clD h
  refine A_callV_V (na := 0) X (m_X8_step e12) gX8_part_X8_step rfl ⟨rfl, rfl⟩ (by decide +kernel) rfl ⟨by show 1 + 1 ≤ dd + 1 + 9; omega, by show 8 + (1 + 11) + 21 ≤ 60 * (dd + 1) + 400; omega⟩ shC_3 (by decide) rfl rfl (Nat.le_of_ble_eq_true rfl) dX8_part_193 ?_
  refine A_aload_n X 0 rfl rfl dX8_part_196 ?_
  refine A_bipush X dX8_part_197 (z := 40) (by decide) ?_
  refine A_iload_n X 1 rfl rfl dX8_part_199 ?_
  obtain ⟨v13, s14, e15, h⟩ := clD h
  refine A_callV_I (na := 2) X (m_X8_opens e15) gX8_part_X8_opens rfl ⟨rfl, rfl⟩ (by decide +kernel) rfl ⟨by show 2 + 1 ≤ dd + 1 + 9; omega, by show 8 + (3 + 11) + 42 ≤ 60 * (dd + 1) + 400; omega⟩ shC_3 (by decide) rfl rfl (Nat.le_of_ble_eq_true rfl) dX8_part_200 ?_
  refine A_if_eq X (tgt := 244) (by decide) dX8_part_203 (fun c16 => ?_) (fun c16 => ?_)
  · replace h := ifT h c16
    refine A_sub [] rfl (L' := []) rfl ?_
    exact w_X8_part_244 (a1 := a1) hrec X E s14 h
  · replace h := ifF h c16
    refine A_aload_n X 0 rfl rfl dX8_part_206 ?_
    refine A_iload_n X 1 rfl rfl dX8_part_207 ?_
    refine A_iconst X dX8_part_208 (z := 1) (by decide) ?_
    refine A_iadd X dX8_part_209 ?_
    obtain ⟨v17, s18, e19, h⟩ := clD h
    refine A_callV_I (na := 1) X (hrec _ _ _ _ e19) gX8_part_X8_sum rfl ⟨rfl, rfl⟩ (by decide +kernel) rfl ⟨by show dd + 9 + 1 ≤ dd + 1 + 9; omega, by show 8 + (4 + 11) + (60 * dd + 400) ≤ 60 * (dd + 1) + 400; omega⟩ shC_3 (by decide) rfl rfl (Nat.le_of_ble_eq_true rfl) dX8_part_210 ?_
    refine A_if_eq X (tgt := 244) (by decide) dX8_part_213 (fun c20 => ?_) (fun c20 => ?_)
    · replace h := ifT h c20
      refine A_sub [] rfl (L' := []) rfl ?_
      exact w_X8_part_244 (a1 := a1) hrec X E s18 h
    · replace h := ifF h c20
      refine A_aload_n X 0 rfl rfl dX8_part_216 ?_
      refine A_bipush X dX8_part_217 (z := 44) (by decide) ?_
      obtain ⟨v21, s22, e23, h⟩ := clD h
      refine A_callV_I (na := 1) X (m_X8_skip e23) gX8_part_X8_skip rfl ⟨rfl, rfl⟩ (by decide +kernel) rfl ⟨by show 2 + 1 ≤ dd + 1 + 9; omega, by show 8 + (2 + 11) + 42 ≤ 60 * (dd + 1) + 400; omega⟩ shC_3 (by decide) rfl rfl (Nat.le_of_ble_eq_true rfl) dX8_part_219 ?_
      refine A_if_eq X (tgt := 244) (by decide) dX8_part_222 (fun c24 => ?_) (fun c24 => ?_)
      · replace h := ifT h c24
        refine A_sub [] rfl (L' := []) rfl ?_
        exact w_X8_part_244 (a1 := a1) hrec X E s22 h
      · replace h := ifF h c24
        refine A_aload_n X 0 rfl rfl dX8_part_225 ?_
        refine A_iload_n X 1 rfl rfl dX8_part_226 ?_
        refine A_iconst X dX8_part_227 (z := 1) (by decide) ?_
        refine A_iadd X dX8_part_228 ?_
        obtain ⟨v25, s26, e27, h⟩ := clD h
        refine A_callV_I (na := 1) X (hrec _ _ _ _ e27) gX8_part_X8_sum rfl ⟨rfl, rfl⟩ (by decide +kernel) rfl ⟨by show dd + 9 + 1 ≤ dd + 1 + 9; omega, by show 8 + (4 + 11) + (60 * dd + 400) ≤ 60 * (dd + 1) + 400; omega⟩ shC_3 (by decide) rfl rfl (Nat.le_of_ble_eq_true rfl) dX8_part_229 ?_
        refine A_if_eq X (tgt := 244) (by decide) dX8_part_232 (fun c28 => ?_) (fun c28 => ?_)
        · replace h := ifT h c28
          refine A_sub [] rfl (L' := []) rfl ?_
          exact w_X8_part_244 (a1 := a1) hrec X E s26 h
        · replace h := ifF h c28
          refine A_aload_n X 0 rfl rfl dX8_part_235 ?_
          refine A_bipush X dX8_part_236 (z := 41) (by decide) ?_
          obtain ⟨v29, s30, e31, h⟩ := clD h
          refine A_callV_I (na := 1) X (m_X8_skip e31) gX8_part_X8_skip rfl ⟨rfl, rfl⟩ (by decide +kernel) rfl ⟨by show 2 + 1 ≤ dd + 1 + 9; omega, by show 8 + (2 + 11) + 42 ≤ 60 * (dd + 1) + 400; omega⟩ shC_3 (by decide) rfl rfl (Nat.le_of_ble_eq_true rfl) dX8_part_238 ?_
          refine A_if_ne X (tgt := 246) (by decide) dX8_part_241 (fun c32 => ?_) (fun c32 => ?_)
          · replace h := ifF h c32
            refine A_aload_n X 0 rfl rfl dX8_part_246 ?_
            refine A_getV X fg_X8_part_12 shC_3 (k := 1) rfl (by decide) dX8_part_247 ?_
            obtain ⟨q33, hy⟩ : ∃ y, y = (s30 3 1).toNat := ⟨_, rfl⟩
            replace h := ltD h q33 hy
            rw [← hy]
            clear hy
            obtain ⟨g34, h⟩ := gdD h
            refine A_iload_n X 2 rfl rfl dX8_part_250 ?_
            refine A_ineg X dX8_part_251 ?_
            obtain ⟨v35, s36, e37, h⟩ := clD h
            refine A_callV_V (na := 1) X (m_X6_emit e37) gX8_part_X6_emit rfl ⟨rfl, rfl⟩ (by decide +kernel) rfl ⟨by show 0 + 1 ≤ dd + 1 + 9; omega, by show 8 + (2 + 11) + 0 ≤ 60 * (dd + 1) + 400; omega⟩ (shNet g34) (by decide) rfl rfl (Nat.le_of_ble_eq_true rfl) dX8_part_252 ?_
            refine A_iconst X dX8_part_255 (z := 1) (by decide) ?_
            exact A_zreturn X (Or.inr rfl) E h dX8_part_256
          · replace h := ifT h c32
            refine A_sub [] rfl (L' := []) rfl ?_
            exact w_X8_part_244 (a1 := a1) hrec X E s30 h
set_option maxRecDepth 100000 in
set_option maxHeartbeats 4000000 in
theorem m_X8_part {l : Launch} {g : aG} {dd : Nat} {rec : Nat → Int → Hp → Option (Int × Hp)} {a1 : Int} {σ : Hp} {r : Int × Hp} (hrec : ∀ (n : Nat) (o : Int) (σ : Hp) (r : Int × Hp), rec n o σ = some r → aMet l g shC (yg n) (wg n) (rmg dd) [vR 3, vI o] σ 0 r) (h : F_Rdr_part rec a1 σ = some r) : aMet l g shC yX8_part wsX8_part (rmg (dd + 1)) [vR 3, vI a1] σ 0 r := by
  unfold F_Rdr_part at h
  refine aMet_of (bytes := cX8_part) (maxL := 4) (ret := (some .boolean)) (by decide +kernel) rfl (Nat.le_of_ble_eq_true rfl) ⟨rfl, rfl⟩ (fun x e1 e2 X E => ?_)
  subst e1; subst e2
  have X : aX x cX8_part wsX8_part RX8 4 (rmg (dd + 1)) := X
  show aS x shC 4 0 [(0, vR 3), (1, vI a1)] [] σ
  refine A_aload_n X 0 rfl rfl dX8_part_0 ?_
  refine A_getI X fg_X8_part_47 shC_3 (k := 3) rfl (by decide) dX8_part_1 ?_
  refine A_istore_nN X (L' := fun y2_38 => [(2, vI y2_38), (0, vR 3), (1, vI a1)]) rfl (by decide) (fun _ => rfl) dX8_part_4 (fun y2_38 hy => ?_)
  replace h := ltD h y2_38 hy
  clear hy
  refine A_iload_n X 0 rfl rfl dX8_part_5 ?_
  by_cases c39 : y2_38 = 40
  · replace h := ifT h c39
    refine A_lsw X (off := 151) (tgt := 157) (by decide) (by rw [c39]; rfl) (by decide) dX8_part_6 ?_
    refine A_aload_n X 1 rfl rfl dX8_part_157 ?_
    refine A_bipush X dX8_part_158 (z := 40) (by decide) ?_
    refine A_iload_n X 2 rfl rfl dX8_part_160 ?_
    obtain ⟨v40, s41, e42, h⟩ := clD h
    refine A_callV_I (na := 2) X (m_X8_opens e42) gX8_part_X8_opens rfl ⟨rfl, rfl⟩ (by decide +kernel) rfl ⟨by show 2 + 1 ≤ dd + 1 + 9; omega, by show 8 + (3 + 11) + 42 ≤ 60 * (dd + 1) + 400; omega⟩ shC_3 (by decide) rfl rfl (Nat.le_of_ble_eq_true rfl) dX8_part_161 ?_
    refine A_if_eq X (tgt := 190) (by decide) dX8_part_164 (fun c43 => ?_) (fun c43 => ?_)
    · replace h := ifT h c43
      refine A_sub [] rfl (L' := []) rfl ?_
      exact w_X8_part_190 (a1 := a1) hrec X E s41 h
    · replace h := ifF h c43
      refine A_aload_n X 1 rfl rfl dX8_part_167 ?_
      refine A_iload_n X 2 rfl rfl dX8_part_168 ?_
      refine A_iconst X dX8_part_169 (z := 1) (by decide) ?_
      refine A_iadd X dX8_part_170 ?_
      obtain ⟨v44, s45, e46, h⟩ := clD h
      refine A_callV_I (na := 1) X (hrec _ _ _ _ e46) gX8_part_X8_sum rfl ⟨rfl, rfl⟩ (by decide +kernel) rfl ⟨by show dd + 9 + 1 ≤ dd + 1 + 9; omega, by show 8 + (4 + 11) + (60 * dd + 400) ≤ 60 * (dd + 1) + 400; omega⟩ shC_3 (by decide) rfl rfl (Nat.le_of_ble_eq_true rfl) dX8_part_171 ?_
      refine A_if_eq X (tgt := 190) (by decide) dX8_part_174 (fun c47 => ?_) (fun c47 => ?_)
      · replace h := ifT h c47
        refine A_sub [] rfl (L' := []) rfl ?_
        exact w_X8_part_190 (a1 := a1) hrec X E s45 h
      · replace h := ifF h c47
        refine A_aload_n X 1 rfl rfl dX8_part_177 ?_
        refine A_bipush X dX8_part_178 (z := 41) (by decide) ?_
        obtain ⟨v48, s49, e50, h⟩ := clD h
        refine A_callV_I (na := 1) X (m_X8_skip e50) gX8_part_X8_skip rfl ⟨rfl, rfl⟩ (by decide +kernel) rfl ⟨by show 2 + 1 ≤ dd + 1 + 9; omega, by show 8 + (2 + 11) + 42 ≤ 60 * (dd + 1) + 400; omega⟩ shC_3 (by decide) rfl rfl (Nat.le_of_ble_eq_true rfl) dX8_part_180 ?_
        refine A_if_eq X (tgt := 190) (by decide) dX8_part_183 (fun c51 => ?_) (fun c51 => ?_)
        · replace h := ifT h c51
          refine A_sub [] rfl (L' := []) rfl ?_
          exact w_X8_part_190 (a1 := a1) hrec X E s49 h
        · replace h := ifF h c51
          refine A_iconst X dX8_part_186 (z := 1) (by decide) ?_
          refine A_goto X (tgt := 191) (by decide) dX8_part_187 ?_
          refine A_sub [] rfl (L' := []) rfl ?_
          exact w_X8_part_191 (a1 := a1) hrec X E 1 s49 h
  replace h := ifF h c39
  by_cases c52 : y2_38 = 257
  · replace h := ifT h c52
    refine A_lsw X (off := 113) (tgt := 119) (by decide) (by rw [c52]; rfl) (by decide) dX8_part_6 ?_
    refine A_aload_n X 1 rfl rfl dX8_part_119 ?_
    obtain ⟨v53, s54, e55, h⟩ := clD h
    refine A_callV_V (na := 0) X (m_X8_step e55) gX8_part_X8_step rfl ⟨rfl, rfl⟩ (by decide +kernel) rfl ⟨by show 1 + 1 ≤ dd + 1 + 9; omega, by show 8 + (1 + 11) + 21 ≤ 60 * (dd + 1) + 400; omega⟩ shC_3 (by decide) rfl rfl (Nat.le_of_ble_eq_true rfl) dX8_part_120 ?_
    refine A_aload_n X 1 rfl rfl dX8_part_123 ?_
    obtain ⟨v56, s57, e58, h⟩ := clD h
    refine A_callV_I (na := 0) X (m_X8_somebody e58) gX8_part_X8_somebody rfl ⟨rfl, rfl⟩ (by decide +kernel) rfl ⟨by show 2 + 1 ≤ dd + 1 + 9; omega, by show 8 + (2 + 11) + 42 ≤ 60 * (dd + 1) + 400; omega⟩ shC_3 (by decide) rfl rfl (Nat.le_of_ble_eq_true rfl) dX8_part_124 ?_
    refine A_istore_n X (L' := [(3, vI v56), (2, vI y2_38), (0, vR 3), (1, vI a1)]) rfl (by decide) rfl dX8_part_127 ?_
    refine A_iload_n X 0 rfl rfl dX8_part_128 ?_
    refine A_iconst X dX8_part_129 (z := (-1)) (by decide) ?_
    refine A_icmp_ne X (tgt := 135) (by decide) dX8_part_130 (fun c59 => ?_) (fun c59 => ?_)
    · replace h := ifF h c59
      refine A_aload_n X 2 rfl rfl dX8_part_135 ?_
      refine A_getV X fg_X8_part_12 shC_3 (k := 1) rfl (by decide) dX8_part_136 ?_
      obtain ⟨q60, hy⟩ : ∃ y, y = (s57 3 1).toNat := ⟨_, rfl⟩
      replace h := ltD h q60 hy
      rw [← hy]
      clear hy
      obtain ⟨g61, h⟩ := gdD h
      refine A_aload_n X 2 rfl rfl dX8_part_139 ?_
      refine A_getV X fg_X8_part_12 shC_3 (k := 1) rfl (by decide) dX8_part_140 ?_
      obtain ⟨q62, hy⟩ : ∃ y, y = (s57 3 1).toNat := ⟨_, rfl⟩
      replace h := ltD h q62 hy
      rw [← hy]
      clear hy
      obtain ⟨g63, h⟩ := gdD h
      refine A_getR X fg_X8_part_167 (shNet g63) (k := 1) rfl (by decide) dX8_part_143 ?_
      refine A_iload_n X 0 rfl rfl dX8_part_146 ?_
      obtain ⟨g64, h⟩ := gdD h
      refine A_iald X g64 (shNet_alone g63) dX8_part_147 ?_
      obtain ⟨v65, s66, e67, h⟩ := clD h
      refine A_callV_V (na := 1) X (m_X6_emit e67) gX8_part_X6_emit rfl ⟨rfl, rfl⟩ (by decide +kernel) rfl ⟨by show 0 + 1 ≤ dd + 1 + 9; omega, by show 8 + (2 + 11) + 0 ≤ 60 * (dd + 1) + 400; omega⟩ (shNet g61) (by decide) rfl rfl (Nat.le_of_ble_eq_true rfl) dX8_part_148 ?_
      refine A_aload_n X 2 rfl rfl dX8_part_151 ?_
      obtain ⟨v68, s69, e70, h⟩ := clD h
      refine A_callV_V (na := 0) X (m_X8_step e70) gX8_part_X8_step rfl ⟨rfl, rfl⟩ (by decide +kernel) rfl ⟨by show 1 + 1 ≤ dd + 1 + 9; omega, by show 8 + (1 + 11) + 21 ≤ 60 * (dd + 1) + 400; omega⟩ shC_3 (by decide) rfl rfl (Nat.le_of_ble_eq_true rfl) dX8_part_152 ?_
      refine A_iconst X dX8_part_155 (z := 1) (by decide) ?_
      exact A_zreturn X (Or.inr rfl) E h dX8_part_156
    · replace h := ifT h c59
      refine A_iconst X dX8_part_133 (z := 0) (by decide) ?_
      exact A_zreturn X (Or.inl rfl) E h dX8_part_134
  replace h := ifF h c52
  by_cases c71 : y2_38 = 268
  · replace h := ifT h c71
    refine A_lsw X (off := 98) (tgt := 104) (by decide) (by rw [c71]; rfl) (by decide) dX8_part_6 ?_
    refine A_sub [1, 0] rfl (L' := [(0, vR 3), (2, vI y2_38)]) rfl ?_
    exact w_X8_part_104 (a1 := a1) hrec X E y2_38 σ h
  replace h := ifF h c71
  by_cases c72 : y2_38 = 269
  · replace h := ifT h c72
    refine A_lsw X (off := 98) (tgt := 104) (by decide) (by rw [c72]; rfl) (by decide) dX8_part_6 ?_
    refine A_sub [1, 0] rfl (L' := [(0, vR 3), (2, vI y2_38)]) rfl ?_
    exact w_X8_part_104 (a1 := a1) hrec X E y2_38 σ h
  replace h := ifF h c72
  by_cases c73 : y2_38 = 270
  · replace h := ifT h c73
    refine A_lsw X (off := 98) (tgt := 104) (by decide) (by rw [c73]; rfl) (by decide) dX8_part_6 ?_
    refine A_sub [1, 0] rfl (L' := [(0, vR 3), (2, vI y2_38)]) rfl ?_
    exact w_X8_part_104 (a1 := a1) hrec X E y2_38 σ h
  replace h := ifF h c73
  by_cases c74 : y2_38 = 271
  · replace h := ifT h c74
    refine A_lsw X (off := 186) (tgt := 192) (by decide) (by rw [c74]; rfl) (by decide) dX8_part_6 ?_
    refine A_sub [1, 2, 0] rfl (L' := [(0, vR 3), (1, vI a1), (2, vI y2_38)]) rfl ?_
    exact w_X8_part_192 (a1 := a1) hrec X E y2_38 σ h
  replace h := ifF h c74
  by_cases c75 : y2_38 = 272
  · replace h := ifT h c75
    refine A_lsw X (off := 186) (tgt := 192) (by decide) (by rw [c75]; rfl) (by decide) dX8_part_6 ?_
    refine A_sub [1, 2, 0] rfl (L' := [(0, vR 3), (1, vI a1), (2, vI y2_38)]) rfl ?_
    exact w_X8_part_192 (a1 := a1) hrec X E y2_38 σ h
  replace h := ifF h c75
  by_cases c76 : y2_38 = 281
  · replace h := ifT h c76
    refine A_lsw X (off := 74) (tgt := 80) (by decide) (by rw [c76]; rfl) (by decide) dX8_part_6 ?_
    refine A_aload_n X 1 rfl rfl dX8_part_80 ?_
    refine A_getV X fg_X8_part_12 shC_3 (k := 1) rfl (by decide) dX8_part_81 ?_
    obtain ⟨q77, hy⟩ : ∃ y, y = (σ 3 1).toNat := ⟨_, rfl⟩
    replace h := ltD h q77 hy
    rw [← hy]
    clear hy
    obtain ⟨g78, h⟩ := gdD h
    refine A_aload_n X 1 rfl rfl dX8_part_84 ?_
    refine A_getR X fg_X8_part_27 shC_3 (k := 0) rfl (by decide) dX8_part_85 ?_
    refine A_aload_n X 1 rfl rfl dX8_part_88 ?_
    refine A_getI X fg_X8_part_40 shC_3 (k := 2) rfl (by decide) dX8_part_89 ?_
    obtain ⟨v79, s80, e81, h⟩ := clD h
    refine A_callV_I (na := 1) X (m_X9_valueAt e81) gX8_part_X9_valueAt rfl ⟨rfl, rfl⟩ (by decide +kernel) rfl ⟨by show 0 + 1 ≤ dd + 1 + 9; omega, by show 8 + (2 + 11) + 0 ≤ 60 * (dd + 1) + 400; omega⟩ shC_42 (by decide) rfl rfl (Nat.le_of_ble_eq_true rfl) dX8_part_92 ?_
    obtain ⟨v82, s83, e84, h⟩ := clD h
    refine A_callV_V (na := 1) X (m_X6_emit e84) gX8_part_X6_emit rfl ⟨rfl, rfl⟩ (by decide +kernel) rfl ⟨by show 0 + 1 ≤ dd + 1 + 9; omega, by show 8 + (2 + 11) + 0 ≤ 60 * (dd + 1) + 400; omega⟩ (shNet g78) (by decide) rfl rfl (Nat.le_of_ble_eq_true rfl) dX8_part_95 ?_
    refine A_aload_n X 1 rfl rfl dX8_part_98 ?_
    obtain ⟨v85, s86, e87, h⟩ := clD h
    refine A_callV_V (na := 0) X (m_X8_step e87) gX8_part_X8_step rfl ⟨rfl, rfl⟩ (by decide +kernel) rfl ⟨by show 1 + 1 ≤ dd + 1 + 9; omega, by show 8 + (1 + 11) + 21 ≤ 60 * (dd + 1) + 400; omega⟩ shC_3 (by decide) rfl rfl (Nat.le_of_ble_eq_true rfl) dX8_part_99 ?_
    refine A_iconst X dX8_part_102 (z := 1) (by decide) ?_
    exact A_zreturn X (Or.inr rfl) E h dX8_part_103
  replace h := ifF h c76
  refine A_lsw X (off := 251) (tgt := 257) (by decide) (lsw_out (by simp; omega)) (by decide) dX8_part_6 ?_
  refine A_aload_n X 1 rfl rfl dX8_part_257 ?_
  refine A_iconst X dX8_part_258 (z := 1) (by decide) ?_
  obtain ⟨v88, s89, e90, h⟩ := clD h
  refine A_callV_I (na := 1) X (m_X8_fail e90) gX8_part_X8_fail rfl ⟨rfl, rfl⟩ (by decide +kernel) rfl ⟨by show 1 + 1 ≤ dd + 1 + 9; omega, by show 8 + (2 + 11) + 21 ≤ 60 * (dd + 1) + 400; omega⟩ shC_3 (by decide) rfl rfl (Nat.le_of_ble_eq_true rfl) dX8_part_259 ?_
  obtain ⟨g91, h⟩ := gdD h
  exact A_zreturn X g91 E h dX8_part_262
set_option maxRecDepth 100000 in
set_option maxHeartbeats 4000000 in
theorem m_rd {l : Launch} {g : aG} : ∀ {d n : Nat} {o : Int} {σ : Hp} {r : Int × Hp}, F_rd d n o σ = some r → aMet l g shC (yg n) (wg n) (rmg d) [vR 3, vI o] σ 0 r := by
  intro d
  induction d with
  | zero => intro n o σ r h; cases h
  | succ d ih =>
    intro n o σ r h
    have hrec := fun (n : Nat) (o : Int) (σ : Hp) (r : Int × Hp) (h : F_rd d n o σ = some r) => ih h
    match n, h with
    | 0, h => exact m_X8_test hrec h
    | 1, h => exact m_X8_both hrec h
    | 2, h => exact m_X8_fact hrec h
    | 3, h => exact m_X8_sum hrec h
    | 4, h => exact m_X8_product hrec h
    | n + 5, h => exact m_X8_part hrec h
abbrev rm_X8_roadGoes : Room := { frames := 50, cells := 0, slots := 0, locals := 2823 }
theorem in_X8_roadGoes_8 : ∀ w ∈ u_ws RX8 TX8 8, w ∈ wsX8_roadGoes := fun w h => List.mem_cons_of_mem _ (List.mem_append_left _ (List.mem_append_left _ (List.mem_append_right _ h)))
theorem fg_X8_roadGoes_12 : aFl wsX8_roadGoes RX8 12 8 1 := ⟨RX8, TX8, 8, rfl, in_X8_roadGoes_8, by decide, (List.mem_of_getElem? (i := 1) rfl), rfl⟩
theorem in_X8_roadGoes_6 : ∀ w ∈ u_ws RX6 TX6 20, w ∈ wsX8_roadGoes := fun w h => List.mem_cons_of_mem _ (List.mem_append_left _ (List.mem_append_right _ h))
theorem fg_X8_roadGoes_108 : aFl wsX8_roadGoes RX8 108 6 14 := ⟨RX6, TX6, 20, rfl, in_X8_roadGoes_6, by decide, (List.mem_of_getElem? (i := 2) rfl), rfl⟩
theorem fg_X8_roadGoes_111 : aFl wsX8_roadGoes RX8 111 8 4 := ⟨RX8, TX8, 8, rfl, in_X8_roadGoes_8, by decide, (List.mem_of_getElem? (i := 3) rfl), rfl⟩
theorem fg_X8_roadGoes_114 : aFl wsX8_roadGoes RX8 114 8 5 := ⟨RX8, TX8, 8, rfl, in_X8_roadGoes_8, by decide, (List.mem_of_getElem? (i := 4) rfl), rfl⟩
theorem fg_X8_roadGoes_47 : aFl wsX8_roadGoes RX8 47 8 3 := ⟨RX8, TX8, 8, rfl, in_X8_roadGoes_8, by decide, (List.mem_of_getElem? (i := 5) rfl), rfl⟩
set_option maxRecDepth 100000 in
set_option maxHeartbeats 4000000 in
theorem w_X8_roadGoes_20 {x : aC} {r : Int × Hp} (X : aX x cX8_roadGoes wsX8_roadGoes RX8 3 rm_X8_roadGoes) (E : aE x shC (some .boolean) 0 r) (σ : Hp) (h : F_Rdr_roadGoes_20 σ = some r) : aS x shC 3 20 [] [] σ := by
  unfold F_Rdr_roadGoes_20 at h
  refine A_iconst X dX8_roadGoes_20 (z := 0) (by decide) ?_
  exact A_zreturn X (Or.inl rfl) E h dX8_roadGoes_21
set_option maxRecDepth 100000 in
set_option maxHeartbeats 4000000 in
theorem w_X8_roadGoes_87 {x : aC} {r : Int × Hp} (X : aX x cX8_roadGoes wsX8_roadGoes RX8 3 rm_X8_roadGoes) (E : aE x shC (some .boolean) 0 r) (x1 : Int) (x2 : Int) (σ : Hp) (h : F_Rdr_roadGoes_87 x1 x2 σ = some r) : aS x shC 3 87 [(0, vR 3), (1, vI x1), (2, vI x2)] [] σ := by
  unfold F_Rdr_roadGoes_87 at h
  refine A_aload_n X 0 rfl rfl dX8_roadGoes_87 ?_
  refine A_getV X fg_X8_roadGoes_12 shC_3 (k := 1) rfl (by decide) dX8_roadGoes_88 ?_
  obtain ⟨q1, hy⟩ : ∃ y, y = (σ 3 1).toNat := ⟨_, rfl⟩
  replace h := ltD h q1 hy
  rw [← hy]
  clear hy
  obtain ⟨g2, h⟩ := gdD h
  refine A_iload_n X 1 rfl rfl dX8_roadGoes_91 ?_
  refine A_iload_n X 2 rfl rfl dX8_roadGoes_92 ?_
  obtain ⟨v3, s4, e5, h⟩ := clD h
  refine A_callV_V (na := 2) X (m_X6_endRoad e5) gX8_roadGoes_X6_endRoad rfl ⟨rfl, rfl⟩ (by decide +kernel) rfl ⟨Nat.le_of_ble_eq_true rfl, Nat.le_of_ble_eq_true rfl⟩ (shNet g2) (by decide) rfl rfl (Nat.le_of_ble_eq_true rfl) dX8_roadGoes_93 ?_
  refine A_iconst X dX8_roadGoes_96 (z := 1) (by decide) ?_
  exact A_zreturn X (Or.inr rfl) E h dX8_roadGoes_97
set_option maxRecDepth 100000 in
set_option maxHeartbeats 4000000 in
theorem m_X8_roadGoes {l : Launch} {g : aG} {σ : Hp} {r : Int × Hp} (h : F_Rdr_roadGoes σ = some r) : aMet l g shC yX8_roadGoes wsX8_roadGoes rm_X8_roadGoes [vR 3] σ 0 r := by
  unfold F_Rdr_roadGoes at h
  refine aMet_of (bytes := cX8_roadGoes) (maxL := 3) (ret := (some .boolean)) (by decide +kernel) rfl (Nat.le_of_ble_eq_true rfl) ⟨rfl, rfl⟩ (fun x e1 e2 X E => ?_)
  subst e1; subst e2
  have X : aX x cX8_roadGoes wsX8_roadGoes RX8 3 rm_X8_roadGoes := X
  show aS x shC 3 0 [(0, vR 3)] [] σ
  refine A_aload_n X 0 rfl rfl dX8_roadGoes_0 ?_
  refine A_sipush X dX8_roadGoes_1 (z := 258) (by decide) ?_
  obtain ⟨v6, s7, e8, h⟩ := clD h
  refine A_callV_I (na := 1) X (m_X8_twoNames e8) gX8_roadGoes_X8_twoNames rfl ⟨rfl, rfl⟩ (by decide +kernel) rfl ⟨Nat.le_of_ble_eq_true rfl, Nat.le_of_ble_eq_true rfl⟩ shC_3 (by decide) rfl rfl (Nat.le_of_ble_eq_true rfl) dX8_roadGoes_4 ?_
  refine A_if_eq X (tgt := 20) (by decide) dX8_roadGoes_7 (fun c9 => ?_) (fun c9 => ?_)
  · replace h := ifT h c9
    refine A_sub [] rfl (L' := []) rfl ?_
    exact w_X8_roadGoes_20 X E s7 h
  · replace h := ifF h c9
    refine A_aload_n X 0 rfl rfl dX8_roadGoes_10 ?_
    refine A_sipush X dX8_roadGoes_11 (z := 259) (by decide) ?_
    obtain ⟨v10, s11, e12, h⟩ := clD h
    refine A_callV_I (na := 1) X (m_X8_skip e12) gX8_roadGoes_X8_skip rfl ⟨rfl, rfl⟩ (by decide +kernel) rfl ⟨Nat.le_of_ble_eq_true rfl, Nat.le_of_ble_eq_true rfl⟩ shC_3 (by decide) rfl rfl (Nat.le_of_ble_eq_true rfl) dX8_roadGoes_14 ?_
    refine A_if_ne X (tgt := 22) (by decide) dX8_roadGoes_17 (fun c13 => ?_) (fun c13 => ?_)
    · replace h := ifF h c13
      refine A_aload_n X 0 rfl rfl dX8_roadGoes_22 ?_
      refine A_getV X fg_X8_roadGoes_12 shC_3 (k := 1) rfl (by decide) dX8_roadGoes_23 ?_
      obtain ⟨q14, hy⟩ : ∃ y, y = (s11 3 1).toNat := ⟨_, rfl⟩
      replace h := ltD h q14 hy
      rw [← hy]
      clear hy
      obtain ⟨g15, h⟩ := gdD h
      refine A_getI X fg_X8_roadGoes_108 (shNet g15) (k := 14) rfl (by decide) dX8_roadGoes_26 ?_
      refine A_istore_nN X (L' := fun y1_16 => [(1, vI y1_16), (0, vR 3)]) rfl (by decide) (fun _ => rfl) dX8_roadGoes_29 (fun y1_16 hy => ?_)
      replace h := ltD h y1_16 hy
      clear hy
      refine A_aload_n X 1 rfl rfl dX8_roadGoes_30 ?_
      refine A_getV X fg_X8_roadGoes_12 shC_3 (k := 1) rfl (by decide) dX8_roadGoes_31 ?_
      obtain ⟨q17, hy⟩ : ∃ y, y = (s11 3 1).toNat := ⟨_, rfl⟩
      replace h := ltD h q17 hy
      rw [← hy]
      clear hy
      obtain ⟨g18, h⟩ := gdD h
      refine A_aload_n X 1 rfl rfl dX8_roadGoes_34 ?_
      refine A_getI X fg_X8_roadGoes_111 shC_3 (k := 4) rfl (by decide) dX8_roadGoes_35 ?_
      refine A_aload_n X 1 rfl rfl dX8_roadGoes_38 ?_
      refine A_getI X fg_X8_roadGoes_114 shC_3 (k := 5) rfl (by decide) dX8_roadGoes_39 ?_
      obtain ⟨v19, s20, e21, h⟩ := clD h
      refine A_callV_V (na := 2) X (m_X6_beginRoad e21) gX8_roadGoes_X6_beginRoad rfl ⟨rfl, rfl⟩ (by decide +kernel) rfl ⟨Nat.le_of_ble_eq_true rfl, Nat.le_of_ble_eq_true rfl⟩ (shNet g18) (by decide) rfl rfl (Nat.le_of_ble_eq_true rfl) dX8_roadGoes_42 ?_
      refine A_aload_n X 1 rfl rfl dX8_roadGoes_45 ?_
      refine A_iconst X dX8_roadGoes_46 (z := 0) (by decide) ?_
      obtain ⟨v22, s23, e24, h⟩ := clD h
      refine A_callV_I (na := 1) X (m_rd e24) gX8_roadGoes_X8_sum rfl ⟨rfl, rfl⟩ (by decide +kernel) rfl ⟨Nat.le_of_ble_eq_true rfl, Nat.le_of_ble_eq_true rfl⟩ shC_3 (by decide) rfl rfl (Nat.le_of_ble_eq_true rfl) dX8_roadGoes_47 ?_
      refine A_if_ne X (tgt := 55) (by decide) dX8_roadGoes_50 (fun c25 => ?_) (fun c25 => ?_)
      · replace h := ifF h c25
        refine A_aload_n X 1 rfl rfl dX8_roadGoes_55 ?_
        refine A_getV X fg_X8_roadGoes_12 shC_3 (k := 1) rfl (by decide) dX8_roadGoes_56 ?_
        obtain ⟨q26, hy⟩ : ∃ y, y = (s23 3 1).toNat := ⟨_, rfl⟩
        replace h := ltD h q26 hy
        rw [← hy]
        clear hy
        obtain ⟨g27, h⟩ := gdD h
        refine A_getI X fg_X8_roadGoes_108 (shNet g27) (k := 14) rfl (by decide) dX8_roadGoes_59 ?_
        refine A_istore_nN X (L' := fun y2_28 => [(2, vI y2_28), (1, vI y1_16), (0, vR 3)]) rfl (by decide) (fun _ => rfl) dX8_roadGoes_62 (fun y2_28 hy => ?_)
        replace h := ltD h y2_28 hy
        clear hy
        refine A_aload_n X 2 rfl rfl dX8_roadGoes_63 ?_
        refine A_getI X fg_X8_roadGoes_47 shC_3 (k := 3) rfl (by decide) dX8_roadGoes_64 ?_
        refine A_sipush X dX8_roadGoes_67 (z := 260) (by decide) ?_
        refine A_icmp_ne X (tgt := 87) (by decide) dX8_roadGoes_70 (fun c29 => ?_) (fun c29 => ?_)
        · replace h := ifF h c29
          refine A_sub [2, 1, 0] rfl (L' := [(0, vR 3), (1, vI y1_16), (2, vI y2_28)]) rfl ?_
          exact w_X8_roadGoes_87 X E y1_16 y2_28 s23 h
        · replace h := ifT h c29
          refine A_aload_n X 2 rfl rfl dX8_roadGoes_73 ?_
          obtain ⟨v30, s31, e32, h⟩ := clD h
          refine A_callV_V (na := 0) X (m_X8_step e32) gX8_roadGoes_X8_step rfl ⟨rfl, rfl⟩ (by decide +kernel) rfl ⟨Nat.le_of_ble_eq_true rfl, Nat.le_of_ble_eq_true rfl⟩ shC_3 (by decide) rfl rfl (Nat.le_of_ble_eq_true rfl) dX8_roadGoes_74 ?_
          refine A_aload_n X 2 rfl rfl dX8_roadGoes_77 ?_
          refine A_iconst X dX8_roadGoes_78 (z := 0) (by decide) ?_
          obtain ⟨v33, s34, e35, h⟩ := clD h
          refine A_callV_I (na := 1) X (m_rd e35) gX8_roadGoes_X8_test rfl ⟨rfl, rfl⟩ (by decide +kernel) rfl ⟨Nat.le_of_ble_eq_true rfl, Nat.le_of_ble_eq_true rfl⟩ shC_3 (by decide) rfl rfl (Nat.le_of_ble_eq_true rfl) dX8_roadGoes_79 ?_
          refine A_if_ne X (tgt := 87) (by decide) dX8_roadGoes_82 (fun c36 => ?_) (fun c36 => ?_)
          · replace h := ifF h c36
            refine A_sub [2, 1, 0] rfl (L' := [(0, vR 3), (1, vI y1_16), (2, vI y2_28)]) rfl ?_
            exact w_X8_roadGoes_87 X E y1_16 y2_28 s34 h
          · replace h := ifT h c36
            refine A_iconst X dX8_roadGoes_85 (z := 0) (by decide) ?_
            exact A_zreturn X (Or.inl rfl) E h dX8_roadGoes_86
      · replace h := ifT h c25
        refine A_iconst X dX8_roadGoes_53 (z := 0) (by decide) ?_
        exact A_zreturn X (Or.inl rfl) E h dX8_roadGoes_54
    · replace h := ifT h c13
      refine A_sub [] rfl (L' := []) rfl ?_
      exact w_X8_roadGoes_20 X E s11 h
abbrev rm_X8_read : Room := { frames := 51, cells := 0, slots := 0, locals := 2845 }
theorem in_X8_read_8 : ∀ w ∈ u_ws RX8 TX8 8, w ∈ wsX8_read := fun w h => List.mem_cons_of_mem _ (List.mem_append_left _ (List.mem_append_left _ (List.mem_append_left _ (List.mem_append_right _ h))))
theorem fg_X8_read_12 : aFl wsX8_read RX8 12 8 1 := ⟨RX8, TX8, 8, rfl, in_X8_read_8, by decide, (List.mem_of_getElem? (i := 1) rfl), rfl⟩
theorem in_X8_read_6 : ∀ w ∈ u_ws RX6 TX6 20, w ∈ wsX8_read := fun w h => List.mem_cons_of_mem _ (List.mem_append_left _ (List.mem_append_left _ (List.mem_append_right _ h)))
theorem fg_X8_read_73 : aFl wsX8_read RX8 73 6 19 := ⟨RX6, TX6, 20, rfl, in_X8_read_6, by decide, (List.mem_of_getElem? (i := 7) rfl), rfl⟩
theorem fp_X8_read_73 : aFp wsX8_read RX8 73 6 19 .int := ⟨RX6, TX6, 20, tyX6, rfl, in_X8_read_6, by decide, (List.mem_of_getElem? (i := 7) rfl), rfl, tyX6_ok, nmX6, rfl, rfl⟩
theorem fg_X8_read_47 : aFl wsX8_read RX8 47 8 3 := ⟨RX8, TX8, 8, rfl, in_X8_read_8, by decide, (List.mem_of_getElem? (i := 6) rfl), rfl⟩
theorem fp_X8_read_34 : aFp wsX8_read RX8 34 8 6 .int := ⟨RX8, TX8, 8, tyX8, rfl, in_X8_read_8, by decide, (List.mem_of_getElem? (i := 2) rfl), rfl, tyX8_ok, nmX8, rfl, rfl⟩
theorem fp_X8_read_18 : aFp wsX8_read RX8 18 8 7 .int := ⟨RX8, TX8, 8, tyX8, rfl, in_X8_read_8, by decide, (List.mem_of_getElem? (i := 3) rfl), rfl, tyX8_ok, nmX8, rfl, rfl⟩
theorem fg_X8_read_27 : aFl wsX8_read RX8 27 8 0 := ⟨RX8, TX8, 8, rfl, in_X8_read_8, by decide, (List.mem_of_getElem? (i := 4) rfl), rfl⟩
theorem fp_X8_read_40 : aFp wsX8_read RX8 40 8 2 .int := ⟨RX8, TX8, 8, tyX8, rfl, in_X8_read_8, by decide, (List.mem_of_getElem? (i := 5) rfl), rfl, tyX8_ok, nmX8, rfl, rfl⟩
theorem fp_X8_read_47 : aFp wsX8_read RX8 47 8 3 .int := ⟨RX8, TX8, 8, tyX8, rfl, in_X8_read_8, by decide, (List.mem_of_getElem? (i := 6) rfl), rfl, tyX8_ok, nmX8, rfl, rfl⟩
set_option maxRecDepth 100000 in
set_option maxHeartbeats 4000000 in
theorem w_X8_read_156 {x : aC} {r : Int × Hp} (X : aX x cX8_read wsX8_read RX8 3 rm_X8_read) (E : aE x shC (some .boolean) 0 r) (σ : Hp) (h : F_Rdr_read_156 σ = some r) : aS x shC 3 156 [(0, vR 3)] [] σ := by
  unfold F_Rdr_read_156 at h
  refine A_aload_n X 0 rfl rfl dX8_read_156 ?_
  refine A_iconst X dX8_read_157 (z := 1) (by decide) ?_
  obtain ⟨v1, s2, e3, h⟩ := clD h
  refine A_callV_I (na := 1) X (m_X8_fail e3) gX8_read_X8_fail rfl ⟨rfl, rfl⟩ (by decide +kernel) rfl ⟨Nat.le_of_ble_eq_true rfl, Nat.le_of_ble_eq_true rfl⟩ shC_3 (by decide) rfl rfl (Nat.le_of_ble_eq_true rfl) dX8_read_158 ?_
  obtain ⟨g4, h⟩ := gdD h
  exact A_zreturn X g4 E h dX8_read_161
set_option maxRecDepth 100000 in
set_option maxHeartbeats 4000000 in
theorem w_X8_read_175 {x : aC} {r : Int × Hp} (X : aX x cX8_read wsX8_read RX8 3 rm_X8_read) (E : aE x shC (some .boolean) 0 r) (σ : Hp) (h : F_Rdr_read_175 σ = some r) : aS x shC 3 175 [] [] σ := by
  unfold F_Rdr_read_175 at h
  refine A_iconst X dX8_read_175 (z := 0) (by decide) ?_
  exact A_zreturn X (Or.inl rfl) E h dX8_read_176
set_option maxRecDepth 100000 in
set_option maxHeartbeats 4000000 in
theorem w_X8_read_162 {x : aC} {r : Int × Hp} {k43 : Int × Hp → Option (Int × Hp)} (X : aX x cX8_read wsX8_read RX8 3 rm_X8_read) (E : aE x shC (some .boolean) 0 r) (hk43 : ∀ (x1 : Int) (σ : Hp), k43 (x1, σ) = some r → aS x shC 3 43 [(0, vR 3), (1, vI x1)] [] σ) (x1 : Int) (x2 : Int) (σ : Hp) (h : F_Rdr_read_162 k43 x1 x2 σ = some r) : aS x shC 3 162 [(0, vR 3), (1, vI x1), (2, vI x2)] [] σ := by
  unfold F_Rdr_read_162 at h
  refine A_iload_n X 2 rfl rfl dX8_read_162 ?_
  refine A_if_eq X (tgt := 175) (by decide) dX8_read_163 (fun c5 => ?_) (fun c5 => ?_)
  · replace h := ifT h c5
    refine A_sub [] rfl (L' := []) rfl ?_
    exact w_X8_read_175 X E σ h
  · replace h := ifF h c5
    refine A_aload_n X 0 rfl rfl dX8_read_166 ?_
    refine A_bipush X dX8_read_167 (z := 59) (by decide) ?_
    obtain ⟨v6, s7, e8, h⟩ := clD h
    refine A_callV_I (na := 1) X (m_X8_skip e8) gX8_read_X8_skip rfl ⟨rfl, rfl⟩ (by decide +kernel) rfl ⟨Nat.le_of_ble_eq_true rfl, Nat.le_of_ble_eq_true rfl⟩ shC_3 (by decide) rfl rfl (Nat.le_of_ble_eq_true rfl) dX8_read_169 ?_
    refine A_if_ne X (tgt := 177) (by decide) dX8_read_172 (fun c9 => ?_) (fun c9 => ?_)
    · replace h := ifF h c9
      refine A_aload_n X 0 rfl rfl dX8_read_177 ?_
      refine A_getV X fg_X8_read_12 shC_3 (k := 1) rfl (by decide) dX8_read_178 ?_
      obtain ⟨q10, hy⟩ : ∃ y, y = (s7 3 1).toNat := ⟨_, rfl⟩
      replace h := ltD h q10 hy
      rw [← hy]
      clear hy
      obtain ⟨g11, h⟩ := gdD h
      refine A_dup X (by show ¬ (2 : Nat) = 1; decide) dX8_read_181 ?_
      refine A_getI X fg_X8_read_73 (shNet g11) (k := 19) rfl (by decide) dX8_read_182 ?_
      refine A_iconst X dX8_read_185 (z := 1) (by decide) ?_
      refine A_iadd X dX8_read_186 ?_
      refine A_putI X fp_X8_read_73 (shNet g11) (k := 19) rfl (by decide) dX8_read_187 (fun s12 hy => ?_)
      replace h := ltD h s12 hy
      clear hy
      refine A_iinc X (L' := fun y1_13 => [(1, vI y1_13), (0, vR 3), (2, vI x2)]) 1 rfl (by decide) (fun _ => rfl) dX8_read_190 (by decide) (fun y1_13 hy => ?_)
      replace h := ltD h y1_13 hy
      clear hy
      refine A_goto X (tgt := 43) (by decide) dX8_read_193 ?_
      refine A_sub [1, 0] rfl (L' := [(0, vR 3), (1, vI y1_13)]) rfl ?_
      exact hk43 y1_13 s12 h
    · replace h := ifT h c9
      refine A_sub [] rfl (L' := []) rfl ?_
      exact w_X8_read_175 X E s7 h
set_option maxRecDepth 100000 in
set_option maxHeartbeats 4000000 in
theorem w_X8_read_196 {x : aC} {r : Int × Hp} (X : aX x cX8_read wsX8_read RX8 3 rm_X8_read) (E : aE x shC (some .boolean) 0 r) (σ : Hp) (h : F_Rdr_read_196 σ = some r) : aS x shC 3 196 [] [] σ := by
  unfold F_Rdr_read_196 at h
  refine A_iconst X dX8_read_196 (z := 1) (by decide) ?_
  exact A_zreturn X (Or.inr rfl) E h dX8_read_197
set_option maxRecDepth 100000 in
set_option maxHeartbeats 4000000 in
theorem w_X8_read_43_b {x : aC} {r : Int × Hp} {k43 : Int × Hp → Option (Int × Hp)} (X : aX x cX8_read wsX8_read RX8 3 rm_X8_read) (E : aE x shC (some .boolean) 0 r) (hk43 : ∀ (x1 : Int) (σ : Hp), k43 (x1, σ) = some r → aS x shC 3 43 [(0, vR 3), (1, vI x1)] [] σ) (x1 : Int) (σ : Hp) (h : F_Rdr_read_43_b k43 x1 σ = some r) : aS x shC 3 43 [(0, vR 3), (1, vI x1)] [] σ := by
  unfold F_Rdr_read_43_b at h
  refine A_iload_n X 1 rfl rfl dX8_read_43 ?_
  refine A_sipush X dX8_read_44 (z := 900) (by decide) ?_
  refine A_icmp_ge X (tgt := 196) (by decide) dX8_read_47 (fun c14 => ?_) (fun c14 => ?_)
  · replace h := ifT h c14
    refine A_sub [] rfl (L' := []) rfl ?_
    exact w_X8_read_196 X E σ h
  · replace h := ifF h c14
    refine A_aload_n X 0 rfl rfl dX8_read_50 ?_
    refine A_getI X fg_X8_read_47 shC_3 (k := 3) rfl (by decide) dX8_read_51 ?_
    refine A_iconst X dX8_read_54 (z := (-1)) (by decide) ?_
    refine A_icmp_eq X (tgt := 196) (by decide) dX8_read_55 (fun c15 => ?_) (fun c15 => ?_)
    · replace h := ifT h c15
      refine A_sub [] rfl (L' := []) rfl ?_
      exact w_X8_read_196 X E σ h
    · replace h := ifF h c15
      refine A_aload_n X 0 rfl rfl dX8_read_58 ?_
      obtain ⟨v16, s17, e18, h⟩ := clD h
      refine A_callV_I (na := 0) X (m_X8_isTooMany e18) gX8_read_X8_isTooMany rfl ⟨rfl, rfl⟩ (by decide +kernel) rfl ⟨Nat.le_of_ble_eq_true rfl, Nat.le_of_ble_eq_true rfl⟩ shC_3 (by decide) rfl rfl (Nat.le_of_ble_eq_true rfl) dX8_read_59 ?_
      refine A_if_eq X (tgt := 71) (by decide) dX8_read_62 (fun c19 => ?_) (fun c19 => ?_)
      · replace h := ifT h c19
        refine A_iconst X dX8_read_71 (z := 0) (by decide) ?_
        refine A_istore_n X (L' := [(2, vI 0), (0, vR 3), (1, vI x1)]) rfl (by decide) rfl dX8_read_72 ?_
        refine A_aload_n X 1 rfl rfl dX8_read_73 ?_
        refine A_getI X fg_X8_read_47 shC_3 (k := 3) rfl (by decide) dX8_read_74 ?_
        by_cases c20 : (s17 3 3) = 256
        · replace h := ifT h c20
          refine A_tIn X (j := 256) (tgt := 124) c20 (by decide) (by decide) rfl (by decide) dX8_read_77 ?_
          refine A_aload_n X 1 rfl rfl dX8_read_124 ?_
          obtain ⟨v21, s22, e23, h⟩ := clD h
          refine A_callV_I (na := 0) X (m_X8_whoLives e23) gX8_read_X8_whoLives rfl ⟨rfl, rfl⟩ (by decide +kernel) rfl ⟨Nat.le_of_ble_eq_true rfl, Nat.le_of_ble_eq_true rfl⟩ shC_3 (by decide) rfl rfl (Nat.le_of_ble_eq_true rfl) dX8_read_125 ?_
          refine A_istore_n X (L' := [(2, vI v21), (0, vR 3), (1, vI x1)]) rfl (by decide) rfl dX8_read_128 ?_
          refine A_goto X (tgt := 162) (by decide) dX8_read_129 ?_
          refine A_sub [1, 2, 0] rfl (L' := [(0, vR 3), (1, vI x1), (2, vI v21)]) rfl ?_
          exact w_X8_read_162 X E hk43 x1 v21 s22 h
        replace h := ifF h c20
        by_cases c24 : (s17 3 3) = 257
        · replace h := ifT h c24
          refine A_tIn X (j := 257) (tgt := 156) c24 (by decide) (by decide) rfl (by decide) dX8_read_77 ?_
          refine A_sub [1] rfl (L' := [(0, vR 3)]) rfl ?_
          exact w_X8_read_156 X E s17 h
        replace h := ifF h c24
        by_cases c25 : (s17 3 3) = 258
        · replace h := ifT h c25
          refine A_tIn X (j := 258) (tgt := 132) c25 (by decide) (by decide) rfl (by decide) dX8_read_77 ?_
          refine A_aload_n X 1 rfl rfl dX8_read_132 ?_
          obtain ⟨v26, s27, e28, h⟩ := clD h
          refine A_callV_I (na := 0) X (m_X8_roadGoes e28) gX8_read_X8_roadGoes rfl ⟨rfl, rfl⟩ (by decide +kernel) rfl ⟨Nat.le_of_ble_eq_true rfl, Nat.le_of_ble_eq_true rfl⟩ shC_3 (by decide) rfl rfl (Nat.le_of_ble_eq_true rfl) dX8_read_133 ?_
          refine A_istore_n X (L' := [(2, vI v26), (0, vR 3), (1, vI x1)]) rfl (by decide) rfl dX8_read_136 ?_
          refine A_goto X (tgt := 162) (by decide) dX8_read_137 ?_
          refine A_sub [1, 2, 0] rfl (L' := [(0, vR 3), (1, vI x1), (2, vI v26)]) rfl ?_
          exact w_X8_read_162 X E hk43 x1 v26 s27 h
        replace h := ifF h c25
        by_cases c29 : (s17 3 3) = 259
        · replace h := ifT h c29
          refine A_tIn X (j := 259) (tgt := 156) c29 (by decide) (by decide) rfl (by decide) dX8_read_77 ?_
          refine A_sub [1] rfl (L' := [(0, vR 3)]) rfl ?_
          exact w_X8_read_156 X E s17 h
        replace h := ifF h c29
        by_cases c30 : (s17 3 3) = 260
        · replace h := ifT h c30
          refine A_tIn X (j := 260) (tgt := 156) c30 (by decide) (by decide) rfl (by decide) dX8_read_77 ?_
          refine A_sub [1] rfl (L' := [(0, vR 3)]) rfl ?_
          exact w_X8_read_156 X E s17 h
        replace h := ifF h c30
        by_cases c31 : (s17 3 3) = 261
        · replace h := ifT h c31
          refine A_tIn X (j := 261) (tgt := 140) c31 (by decide) (by decide) rfl (by decide) dX8_read_77 ?_
          refine A_aload_n X 1 rfl rfl dX8_read_140 ?_
          obtain ⟨v32, s33, e34, h⟩ := clD h
          refine A_callV_I (na := 0) X (m_X8_tasteIs e34) gX8_read_X8_tasteIs rfl ⟨rfl, rfl⟩ (by decide +kernel) rfl ⟨Nat.le_of_ble_eq_true rfl, Nat.le_of_ble_eq_true rfl⟩ shC_3 (by decide) rfl rfl (Nat.le_of_ble_eq_true rfl) dX8_read_141 ?_
          refine A_istore_n X (L' := [(2, vI v32), (0, vR 3), (1, vI x1)]) rfl (by decide) rfl dX8_read_144 ?_
          refine A_goto X (tgt := 162) (by decide) dX8_read_145 ?_
          refine A_sub [1, 2, 0] rfl (L' := [(0, vR 3), (1, vI x1), (2, vI v32)]) rfl ?_
          exact w_X8_read_162 X E hk43 x1 v32 s33 h
        replace h := ifF h c31
        by_cases c35 : (s17 3 3) = 262
        · replace h := ifT h c35
          refine A_tIn X (j := 262) (tgt := 156) c35 (by decide) (by decide) rfl (by decide) dX8_read_77 ?_
          refine A_sub [1] rfl (L' := [(0, vR 3)]) rfl ?_
          exact w_X8_read_156 X E s17 h
        replace h := ifF h c35
        by_cases c36 : (s17 3 3) = 263
        · replace h := ifT h c36
          refine A_tIn X (j := 263) (tgt := 148) c36 (by decide) (by decide) rfl (by decide) dX8_read_77 ?_
          refine A_aload_n X 1 rfl rfl dX8_read_148 ?_
          obtain ⟨v37, s38, e39, h⟩ := clD h
          refine A_callV_I (na := 0) X (m_X8_doubtIs e39) gX8_read_X8_doubtIs rfl ⟨rfl, rfl⟩ (by decide +kernel) rfl ⟨Nat.le_of_ble_eq_true rfl, Nat.le_of_ble_eq_true rfl⟩ shC_3 (by decide) rfl rfl (Nat.le_of_ble_eq_true rfl) dX8_read_149 ?_
          refine A_istore_n X (L' := [(2, vI v37), (0, vR 3), (1, vI x1)]) rfl (by decide) rfl dX8_read_152 ?_
          refine A_goto X (tgt := 162) (by decide) dX8_read_153 ?_
          refine A_sub [1, 2, 0] rfl (L' := [(0, vR 3), (1, vI x1), (2, vI v37)]) rfl ?_
          exact w_X8_read_162 X E hk43 x1 v37 s38 h
        replace h := ifF h c36
        refine A_tOut X (tgt := 156) (by omega) (by decide) dX8_read_77 ?_
        refine A_sub [1] rfl (L' := [(0, vR 3)]) rfl ?_
        exact w_X8_read_156 X E s17 h
      · replace h := ifF h c19
        refine A_aload_n X 0 rfl rfl dX8_read_65 ?_
        refine A_iconst X dX8_read_66 (z := 5) (by decide) ?_
        obtain ⟨v40, s41, e42, h⟩ := clD h
        refine A_callV_I (na := 1) X (m_X8_fail e42) gX8_read_X8_fail rfl ⟨rfl, rfl⟩ (by decide +kernel) rfl ⟨Nat.le_of_ble_eq_true rfl, Nat.le_of_ble_eq_true rfl⟩ shC_3 (by decide) rfl rfl (Nat.le_of_ble_eq_true rfl) dX8_read_67 ?_
        obtain ⟨g43, h⟩ := gdD h
        exact A_zreturn X g43 E h dX8_read_70
set_option maxRecDepth 100000 in
set_option maxHeartbeats 4000000 in
theorem w_X8_read_43 {x : aC} {r : Int × Hp} (X : aX x cX8_read wsX8_read RX8 3 rm_X8_read) (E : aE x shC (some .boolean) 0 r) : ∀ (n : Nat) (x1 : Int) (σ : Hp) (h : F_Rdr_read_43 n (x1, σ) = some r), aS x shC 3 43 [(0, vR 3), (1, vI x1)] [] σ := by
  intro n
  induction n with
  | zero => intro x1 σ h; cases h
  | succ n ih => intro x1 σ h; exact w_X8_read_43_b (k43 := F_Rdr_read_43 n) X E ih x1 σ h
set_option maxRecDepth 100000 in
set_option maxHeartbeats 4000000 in
theorem m_X8_read {l : Launch} {g : aG} {σ : Hp} {r : Int × Hp} (h : F_Rdr_read σ = some r) : aMet l g shC yX8_read wsX8_read rm_X8_read [vR 3] σ 0 r := by
  unfold F_Rdr_read at h
  refine aMet_of (bytes := cX8_read) (maxL := 3) (ret := (some .boolean)) (by decide +kernel) rfl (Nat.le_of_ble_eq_true rfl) ⟨rfl, rfl⟩ (fun x e1 e2 X E => ?_)
  subst e1; subst e2
  have X : aX x cX8_read wsX8_read RX8 3 rm_X8_read := X
  show aS x shC 3 0 [(0, vR 3)] [] σ
  refine A_aload_n X 0 rfl rfl dX8_read_0 ?_
  refine A_getV X fg_X8_read_12 shC_3 (k := 1) rfl (by decide) dX8_read_1 ?_
  obtain ⟨q44, hy⟩ : ∃ y, y = (σ 3 1).toNat := ⟨_, rfl⟩
  replace h := ltD h q44 hy
  rw [← hy]
  clear hy
  obtain ⟨g45, h⟩ := gdD h
  obtain ⟨v46, s47, e48, h⟩ := clD h
  refine A_callV_V (na := 0) X (m_X6_clear e48) gX8_read_X6_clear rfl ⟨rfl, rfl⟩ (by decide +kernel) rfl ⟨Nat.le_of_ble_eq_true rfl, Nat.le_of_ble_eq_true rfl⟩ (shNet g45) (by decide) rfl rfl (Nat.le_of_ble_eq_true rfl) dX8_read_4 ?_
  refine A_aload_n X 0 rfl rfl dX8_read_7 ?_
  refine A_iconst X dX8_read_8 (z := 0) (by decide) ?_
  refine A_putI X fp_X8_read_34 shC_3 (k := 6) rfl (by decide) dX8_read_9 (fun s49 hy => ?_)
  replace h := ltD h s49 hy
  clear hy
  refine A_aload_n X 0 rfl rfl dX8_read_12 ?_
  refine A_iconst X dX8_read_13 (z := (-1)) (by decide) ?_
  refine A_putI X fp_X8_read_18 shC_3 (k := 7) rfl (by decide) dX8_read_14 (fun s50 hy => ?_)
  replace h := ltD h s50 hy
  clear hy
  refine A_aload_n X 0 rfl rfl dX8_read_17 ?_
  refine A_getR X fg_X8_read_27 shC_3 (k := 0) rfl (by decide) dX8_read_18 ?_
  obtain ⟨v51, s52, e53, h⟩ := clD h
  refine A_callV_V (na := 0) X (m_X9_scan e53) gX8_read_X9_scan rfl ⟨rfl, rfl⟩ (by decide +kernel) rfl ⟨Nat.le_of_ble_eq_true rfl, Nat.le_of_ble_eq_true rfl⟩ shC_42 (by decide) rfl rfl (Nat.le_of_ble_eq_true rfl) dX8_read_21 ?_
  refine A_aload_n X 0 rfl rfl dX8_read_24 ?_
  refine A_iconst X dX8_read_25 (z := 0) (by decide) ?_
  refine A_putI X fp_X8_read_40 shC_3 (k := 2) rfl (by decide) dX8_read_26 (fun s54 hy => ?_)
  replace h := ltD h s54 hy
  clear hy
  refine A_aload_n X 0 rfl rfl dX8_read_29 ?_
  refine A_aload_n X 0 rfl rfl dX8_read_30 ?_
  refine A_getR X fg_X8_read_27 shC_3 (k := 0) rfl (by decide) dX8_read_31 ?_
  refine A_iconst X dX8_read_34 (z := 0) (by decide) ?_
  obtain ⟨v55, s56, e57, h⟩ := clD h
  refine A_callV_I (na := 1) X (m_X9_kindAt e57) gX8_read_X9_kindAt rfl ⟨rfl, rfl⟩ (by decide +kernel) rfl ⟨Nat.le_of_ble_eq_true rfl, Nat.le_of_ble_eq_true rfl⟩ shC_42 (by decide) rfl rfl (Nat.le_of_ble_eq_true rfl) dX8_read_35 ?_
  refine A_putI X fp_X8_read_47 shC_3 (k := 3) rfl (by decide) dX8_read_38 (fun s58 hy => ?_)
  replace h := ltD h s58 hy
  clear hy
  refine A_iconst X dX8_read_41 (z := 0) (by decide) ?_
  refine A_istore_n X (L' := [(1, vI 0), (0, vR 3)]) rfl (by decide) rfl dX8_read_42 ?_
  refine A_sub [1, 0] rfl (L' := [(0, vR 3), (1, vI 0)]) rfl ?_
  exact w_X8_read_43 X E FU 0 s58 h

