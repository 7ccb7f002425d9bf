abbrev rm_J7_fill_53178 : Room := { frames := 0, cells := 0, slots := 0, locals := 0 }
set_option maxRecDepth 100000 in
set_option maxHeartbeats 4000000 in
theorem w_J7_fill_53178_5_b {x : aC} {r : Int × Hp} {sh : aSh} {k5 : Int × Int × Hp → Option (Int × Hp)} {a0 : Nat} {a1 : Int} (X : aX x cJ7_fill_53178 wsJ7_fill_53178 RJ7 4 rm_J7_fill_53178) (E : aE x sh none 3 r) (hk5 : ∀ (x2 : Int) (x3 : Int) (σ : Hp), k5 (x2, x3, σ) = some r → aS x sh 4 5 [(0, vR a0), (1, vI a1), (2, vI x2), (3, vI x3)] [] σ) (ha0 : iaB sh a0 = true) (x2 : Int) (x3 : Int) (σ : Hp) (h : F_J_fill_53178_5_b sh k5 a0 a1 x2 x3 σ = some r) : aS x sh 4 5 [(0, vR a0), (1, vI a1), (2, vI x2), (3, vI x3)] [] σ := by
  unfold F_J_fill_53178_5_b at h
  refine A_iload_n X 2 rfl rfl dJ7_fill_53178_5 ?_
  refine A_iload_n X 3 rfl rfl dJ7_fill_53178_6 ?_
  refine A_icmp_ge X (tgt := 20) (by decide) dJ7_fill_53178_7 (fun c1 => ?_) (fun c1 => ?_)
  · replace h := ifT h c1
    exact A_return X E h dJ7_fill_53178_20
  · replace h := ifF h c1
    refine A_aload_n X 0 rfl rfl dJ7_fill_53178_10 ?_
    refine A_iload_n X 2 rfl rfl dJ7_fill_53178_11 ?_
    refine A_iload_n X 1 rfl rfl dJ7_fill_53178_12 ?_
    obtain ⟨g2, h⟩ := gdD h
    refine A_iast X g2 (iaB_sh ha0) dJ7_fill_53178_13 (fun s3 hy => ?_)
    replace h := ltD h s3 hy
    clear hy
    refine A_iinc X (L' := fun y2_4 => [(2, vI y2_4), (0, vR a0), (1, vI a1), (3, vI x3)]) 2 rfl (by decide) (fun _ => rfl) dJ7_fill_53178_14 (by decide) (fun y2_4 hy => ?_)
    replace h := ltD h y2_4 hy
    clear hy
    refine A_goto X (tgt := 5) (by decide) dJ7_fill_53178_17 ?_
    refine A_sub [1, 2, 0, 3] rfl (L' := [(0, vR a0), (1, vI a1), (2, vI y2_4), (3, vI x3)]) rfl ?_
    exact hk5 y2_4 x3 s3 h
set_option maxRecDepth 100000 in
set_option maxHeartbeats 4000000 in
theorem w_J7_fill_53178_5 {x : aC} {r : Int × Hp} {sh : aSh} {a0 : Nat} {a1 : Int} (X : aX x cJ7_fill_53178 wsJ7_fill_53178 RJ7 4 rm_J7_fill_53178) (E : aE x sh none 3 r) (ha0 : iaB sh a0 = true) : ∀ (n : Nat) (x2 : Int) (x3 : Int) (σ : Hp) (h : F_J_fill_53178_5 sh a0 a1 n (x2, x3, σ) = some r), aS x sh 4 5 [(0, vR a0), (1, vI a1), (2, vI x2), (3, vI x3)] [] σ := by
  intro n
  induction n with
  | zero => intro x2 x3 σ h; cases h
  | succ n ih => intro x2 x3 σ h; exact w_J7_fill_53178_5_b (a0 := a0) (a1 := a1) (k5 := F_J_fill_53178_5 sh a0 a1 n) X E ih ha0 x2 x3 σ h
set_option maxRecDepth 100000 in
set_option maxHeartbeats 4000000 in
theorem m_J7_fill_53178 {l : Launch} {g : aG} {sh : aSh} {a0 : Nat} {a1 : Int} {σ : Hp} {r : Int × Hp} (h : F_J_fill_53178 sh a0 a1 σ = some r) : aMet l g sh yJ7_fill_53178 wsJ7_fill_53178 rm_J7_fill_53178 [vR a0, vI a1] σ 3 r := by
  unfold F_J_fill_53178 at h
  obtain ⟨ha0, h⟩ := gdD h
  refine aMet_ofF (bytes := cJ7_fill_53178) (maxL := 4) (ret := none) (by decide +kernel) rfl (Nat.le_of_ble_eq_true rfl) ⟨rfl, rfl⟩ (fun x e1 e2 X E => ?_)
  subst e1; subst e2
  have X : aX x cJ7_fill_53178 wsJ7_fill_53178 RJ7 4 rm_J7_fill_53178 := X
  show aS x sh 4 0 [(0, vR a0), (1, vI a1)] [] σ
  refine A_iconst X dJ7_fill_53178_0 (z := 0) (by decide) ?_
  refine A_istore_n X (L' := [(2, vI 0), (0, vR a0), (1, vI a1)]) rfl (by decide) rfl dJ7_fill_53178_1 ?_
  refine A_aload_n X 1 rfl rfl dJ7_fill_53178_2 ?_
  refine A_alen100 X (iaB_len ha0) (iaB_sh ha0) dJ7_fill_53178_3 ?_
  refine A_istore_nN X (L' := fun y3_5 => [(3, vI y3_5), (2, vI 0), (0, vR a0), (1, vI a1)]) rfl (by decide) (fun _ => rfl) dJ7_fill_53178_4 (fun y3_5 hy => ?_)
  replace h := ltD h y3_5 hy
  clear hy
  refine A_sub [2, 3, 1, 0] rfl (L' := [(0, vR a0), (1, vI a1), (2, vI 0), (3, vI y3_5)]) rfl ?_
  exact w_J7_fill_53178_5 (a0 := a0) (a1 := a1) X E ha0 FU 0 y3_5 σ h
abbrev rm_J9_floorDiv_7cf53 : Room := { frames := 0, cells := 0, slots := 0, locals := 0 }
set_option maxRecDepth 100000 in
set_option maxHeartbeats 4000000 in
theorem w_J9_floorDiv_7cf53_21 {x : aC} {r : Int × Hp} {sh : aSh} {a0 : Int} {a1 : Int} (X : aX x cJ9_floorDiv_7cf53 wsJ9_floorDiv_7cf53 RJ9 3 rm_J9_floorDiv_7cf53) (E : aE x sh (some .int) 0 r) (x2 : Int) (σ : Hp) (h : F_J_floorDiv_7cf53_21 sh a0 a1 x2 σ = some r) : aS x sh 3 21 [(2, vI x2)] [] σ := by
  unfold F_J_floorDiv_7cf53_21 at h
  refine A_iload_n X 0 rfl rfl dJ9_floorDiv_7cf53_21 ?_
  exact A_ireturn X E h dJ9_floorDiv_7cf53_22
set_option maxRecDepth 100000 in
set_option maxHeartbeats 4000000 in
theorem m_J9_floorDiv_7cf53 {l : Launch} {g : aG} {sh : aSh} {a0 : Int} {a1 : Int} {σ : Hp} {r : Int × Hp} (h : F_J_floorDiv_7cf53 sh a0 a1 σ = some r) : aMet l g sh yJ9_floorDiv_7cf53 wsJ9_floorDiv_7cf53 rm_J9_floorDiv_7cf53 [vI a0, vI a1] σ 0 r := by
  unfold F_J_floorDiv_7cf53 at h
  refine aMet_ofF (bytes := cJ9_floorDiv_7cf53) (maxL := 3) (ret := (some .int)) (by decide +kernel) rfl (Nat.le_of_ble_eq_true rfl) ⟨rfl, rfl⟩ (fun x e1 e2 X E => ?_)
  subst e1; subst e2
  have X : aX x cJ9_floorDiv_7cf53 wsJ9_floorDiv_7cf53 RJ9 3 rm_J9_floorDiv_7cf53 := X
  show aS x sh 3 0 [(0, vI a0), (1, vI a1)] [] σ
  refine A_iload_n X 0 rfl rfl dJ9_floorDiv_7cf53_0 ?_
  refine A_iload_n X 1 rfl rfl dJ9_floorDiv_7cf53_1 ?_
  obtain ⟨g1, h⟩ := gdD h
  refine A_idiv X g1 dJ9_floorDiv_7cf53_2 ?_
  refine A_istore_nN X (L' := fun y2_2 => [(2, vI y2_2), (0, vI a0), (1, vI a1)]) rfl (by decide) (fun _ => rfl) dJ9_floorDiv_7cf53_3 (fun y2_2 hy => ?_)
  replace h := ltD h y2_2 hy
  clear hy
  refine A_iload_n X 1 rfl rfl dJ9_floorDiv_7cf53_4 ?_
  refine A_iload_n X 2 rfl rfl dJ9_floorDiv_7cf53_5 ?_
  refine A_ixor X dJ9_floorDiv_7cf53_6 ?_
  refine A_if_ge X (tgt := 21) (by decide) dJ9_floorDiv_7cf53_7 (fun c3 => ?_) (fun c3 => ?_)
  · replace h := ifT h c3
    refine A_sub [0] rfl (L' := [(2, vI y2_2)]) rfl ?_
    exact w_J9_floorDiv_7cf53_21 (a0 := a0) (a1 := a1) X E y2_2 σ h
  · replace h := ifF h c3
    refine A_iload_n X 0 rfl rfl dJ9_floorDiv_7cf53_10 ?_
    refine A_iload_n X 2 rfl rfl dJ9_floorDiv_7cf53_11 ?_
    refine A_imul X dJ9_floorDiv_7cf53_12 ?_
    refine A_iload_n X 1 rfl rfl dJ9_floorDiv_7cf53_13 ?_
    refine A_icmp_eq X (tgt := 21) (by decide) dJ9_floorDiv_7cf53_14 (fun c4 => ?_) (fun c4 => ?_)
    · replace h := ifT h c4
      refine A_sub [0] rfl (L' := [(2, vI y2_2)]) rfl ?_
      exact w_J9_floorDiv_7cf53_21 (a0 := a0) (a1 := a1) X E y2_2 σ h
    · replace h := ifF h c4
      refine A_iload_n X 0 rfl rfl dJ9_floorDiv_7cf53_17 ?_
      refine A_iconst X dJ9_floorDiv_7cf53_18 (z := 1) (by decide) ?_
      refine A_isub X dJ9_floorDiv_7cf53_19 ?_
      exact A_ireturn X E h dJ9_floorDiv_7cf53_20
abbrev rm_J9_floorMod_7cf53 : Room := { frames := 0, cells := 0, slots := 0, locals := 0 }
set_option maxRecDepth 100000 in
set_option maxHeartbeats 4000000 in
theorem w_J9_floorMod_7cf53_18 {x : aC} {r : Int × Hp} {sh : aSh} {a0 : Int} {a1 : Int} (X : aX x cJ9_floorMod_7cf53 wsJ9_floorMod_7cf53 RJ9 3 rm_J9_floorMod_7cf53) (E : aE x sh (some .int) 0 r) (x2 : Int) (σ : Hp) (h : F_J_floorMod_7cf53_18 sh a0 a1 x2 σ = some r) : aS x sh 3 18 [(2, vI x2)] [] σ := by
  unfold F_J_floorMod_7cf53_18 at h
  refine A_iload_n X 0 rfl rfl dJ9_floorMod_7cf53_18 ?_
  exact A_ireturn X E h dJ9_floorMod_7cf53_19
set_option maxRecDepth 100000 in
set_option maxHeartbeats 4000000 in
theorem m_J9_floorMod_7cf53 {l : Launch} {g : aG} {sh : aSh} {a0 : Int} {a1 : Int} {σ : Hp} {r : Int × Hp} (h : F_J_floorMod_7cf53 sh a0 a1 σ = some r) : aMet l g sh yJ9_floorMod_7cf53 wsJ9_floorMod_7cf53 rm_J9_floorMod_7cf53 [vI a0, vI a1] σ 0 r := by
  unfold F_J_floorMod_7cf53 at h
  refine aMet_ofF (bytes := cJ9_floorMod_7cf53) (maxL := 3) (ret := (some .int)) (by decide +kernel) rfl (Nat.le_of_ble_eq_true rfl) ⟨rfl, rfl⟩ (fun x e1 e2 X E => ?_)
  subst e1; subst e2
  have X : aX x cJ9_floorMod_7cf53 wsJ9_floorMod_7cf53 RJ9 3 rm_J9_floorMod_7cf53 := X
  show aS x sh 3 0 [(0, vI a0), (1, vI a1)] [] σ
  refine A_iload_n X 0 rfl rfl dJ9_floorMod_7cf53_0 ?_
  refine A_iload_n X 1 rfl rfl dJ9_floorMod_7cf53_1 ?_
  obtain ⟨g1, h⟩ := gdD h
  refine A_irem X g1 dJ9_floorMod_7cf53_2 ?_
  refine A_istore_nN X (L' := fun y2_2 => [(2, vI y2_2), (0, vI a0), (1, vI a1)]) rfl (by decide) (fun _ => rfl) dJ9_floorMod_7cf53_3 (fun y2_2 hy => ?_)
  replace h := ltD h y2_2 hy
  clear hy
  refine A_iload_n X 1 rfl rfl dJ9_floorMod_7cf53_4 ?_
  refine A_iload_n X 2 rfl rfl dJ9_floorMod_7cf53_5 ?_
  refine A_ixor X dJ9_floorMod_7cf53_6 ?_
  refine A_if_ge X (tgt := 18) (by decide) dJ9_floorMod_7cf53_7 (fun c3 => ?_) (fun c3 => ?_)
  · replace h := ifT h c3
    refine A_sub [0] rfl (L' := [(2, vI y2_2)]) rfl ?_
    exact w_J9_floorMod_7cf53_18 (a0 := a0) (a1 := a1) X E y2_2 σ h
  · replace h := ifF h c3
    refine A_iload_n X 0 rfl rfl dJ9_floorMod_7cf53_10 ?_
    refine A_if_eq X (tgt := 18) (by decide) dJ9_floorMod_7cf53_11 (fun c4 => ?_) (fun c4 => ?_)
    · replace h := ifT h c4
      refine A_sub [0] rfl (L' := [(2, vI y2_2)]) rfl ?_
      exact w_J9_floorMod_7cf53_18 (a0 := a0) (a1 := a1) X E y2_2 σ h
    · replace h := ifF h c4
      refine A_iload_n X 0 rfl rfl dJ9_floorMod_7cf53_14 ?_
      refine A_iload_n X 2 rfl rfl dJ9_floorMod_7cf53_15 ?_
      refine A_iadd X dJ9_floorMod_7cf53_16 ?_
      exact A_ireturn X E h dJ9_floorMod_7cf53_17

