/-! a text's beginning, on both sides; the check's end -/
section TextStart
variable {σ τ t u : Hp} {f : Nat → Int} {N nn b : Nat}
def RdF (nn : Nat) (σ s : Hp) : Prop := (∀ q, q ≠ 3 → (q < nn ∨ nn + 37 < q) → (q < 42 ∨ 45 < q) → s q = σ q) ∧ ∀ i, i < 2 ∨ 7 < i → s 3 i = σ 3 i
theorem C_readStart (hn : nn = 50 ∨ nn = 4) (hb : byC σ f N) (h31 : σ 3 1 = (nn : Int)) : ∃ s cnt, F_Rdr_read σ = F_Rdr_read_43 FU (0, s) ∧ ScnC s f N cnt ∧ AtC s f N cnt 0 ∧ s 3 1 = (nn : Int) ∧ (∀ i, 14 ≤ i → i ≤ 19 → s nn i = 0) ∧ (∀ i, i < 30 → s (nn + 5) i = 0) ∧ (∀ a i, a < 12 → i < 12 → s (nn + 9 + 1 + a) i = -1 ∧ s (nn + 22 + 1 + a) i = 0) ∧ (∀ i, i < 144 → s (nn + 35) i = 0) ∧ RdF nn σ s := by
  have hin : isNet nn := hn
  obtain ⟨z1, s1, e1, ⟨k1, k1'⟩, k2, k3, k4, k5⟩ := C_netClear (s := σ) hn
  have k5' : ∀ q, q ≠ 3 → (q < nn ∨ nn + 37 < q) → s1 q = σ q := fun q a1 a2 => k5 q (by omega) (by omega) (by omega)
  have s13 : s1 3 = σ 3 := by
    refine k5 3 (by omega) (by omega) ?_
    omega
  have q0 : ∀ q, q ≠ 3 → hset (hset s1 3 6 0) 3 7 (-1) q = s1 q := fun q hq => by rw [hset_obj _ _ _ _ hq, hset_obj _ _ _ _ hq]
  have p6 : hset (hset s1 3 6 0) 3 7 (-1) 3 6 = 0 := by rw [hset_get, if_neg (by decide), hset_same]
  have p7 : hset (hset s1 3 6 0) 3 7 (-1) 3 7 = -1 := hset_same _ _ _ _
  have pi : ∀ i, i ≠ 6 → i ≠ 7 → hset (hset s1 3 6 0) 3 7 (-1) 3 i = s1 3 i := fun i a1 a2 => by rw [hset_get, if_neg (by omega), hset_get, if_neg (by omega)]
  have hR : F_Rdr_read σ = cl2 (F_Scn_scan (hset (hset s1 3 6 0) 3 7 (-1))) fun _ s52 => cl2 (F_Scn_kindAt 0 (hset s52 3 2 0)) fun v55 s56 => F_Rdr_read_43 FU (0, hset s56 3 3 v55) := by
    unfold F_Rdr_read
    rw [h31, lt_eq, Int.toNat_natCast, gd_pos hin, e1, cl2_some]
    rfl
  generalize hset (hset s1 3 6 0) 3 7 (-1) = s2 at q0 p6 p7 pi hR
  have hb2 : byC s2 f N := ⟨by rw [q0 1 (by decide), k5' 1 (by decide) (by omega)]; exact hb.1, hb.2.1, fun j => by rw [q0 2 (by decide), k5' 2 (by decide) (by omega)]; exact hb.2.2 j⟩
  obtain ⟨z3, s3, e3, ⟨cnt, hS⟩, hf⟩ := C_scan hb2
  obtain ⟨c1, c2, c3, c4, c5, c6⟩ := id hS
  have hkA : F_Scn_kindAt 0 (hset s3 3 2 0) = some (kd f N 0, hset s3 3 2 0) := by
    have g : (0 : Int) ≤ 0 ∧ (0 : Int) < 901 := by decide
    have e42 : hset s3 3 2 0 42 = s3 42 := hset_obj _ _ _ _ (by decide)
    have e43 : hset s3 3 2 0 43 = s3 43 := hset_obj _ _ _ _ (by decide)
    have e4 := (c4 0 (by omega)).2.1
    unfold F_Scn_kindAt F_Scn_kindAt_22
    rw [if_neg (by decide), e42, c1, if_neg (by omega), gd_pos g, e43]
    show some (s3 43 0, _) = _
    rw [e4]
    rfl
  rw [e3, cl2_some, hkA, cl2_some] at hR
  have s3q : ∀ q, q ≠ 3 → (q < 42 ∨ 45 < q) → hset (hset s3 3 2 0) 3 3 (kd f N 0) q = s1 q := fun q a1 a2 => by rw [hset_obj _ _ _ _ a1, hset_obj _ _ _ _ a1, hf q (by omega) (by omega) (by omega) (by omega), q0 q a1]
  have s33 : ∀ i, i ≠ 2 → i ≠ 3 → hset (hset s3 3 2 0) 3 3 (kd f N 0) 3 i = s2 3 i := fun i a1 a2 => by rw [hset_get, if_neg (by omega), hset_get, if_neg (by omega), hf 3 (by decide) (by decide) (by decide) (by decide)]
  have s32 : hset (hset s3 3 2 0) 3 3 (kd f N 0) 3 2 = 0 := by rw [hset_get, if_neg (by decide), hset_same]
  have s3k : hset (hset s3 3 2 0) 3 3 (kd f N 0) 3 3 = kd f N 0 := hset_same _ _ _ _
  have hS' : ScnC (hset (hset s3 3 2 0) 3 3 (kd f N 0)) f N cnt := ScnC_cg hS (fun q a1 a2 => by rw [hset_obj _ _ _ _ (by omega), hset_obj _ _ _ _ (by omega)])
  refine ⟨_, cnt, hR, hS', ⟨0, by omega, rfl, s32, s3k, by rw [s33 6 (by decide) (by decide)]; exact p6, by rw [s33 7 (by decide) (by decide)]; exact p7⟩, by rw [s33 1 (by decide) (by decide), pi 1 (by decide) (by decide), s13]; exact h31, fun i a1 a2 => by rw [s3q nn (by omega) (by omega)]; exact k1 i a1 a2, fun i hi => by rw [s3q _ (by omega) (by omega)]; exact k2 i hi, fun a i ha hi => by rw [s3q _ (by omega) (by omega), s3q _ (by omega) (by omega)]; exact k3 a i ha hi, fun i hi => by rw [s3q _ (by omega) (by omega)]; exact k4 i hi, fun q a1 a2 a3 => by rw [s3q q a1 a3, k5' q a1 a2], fun i hi => by rw [s33 i (by omega) (by omega), pi i (by omega) (by omega), s13]⟩
/-- what a text leaves as it was: the check -/
def TmF (b : Nat) (t0 t : Hp) : Prop := (∀ q, q ≠ 0 → (q < 2 ∨ 24 < q) → t q = t0 q) ∧ (∀ i, xmI i → i ≠ 1 → i ≠ 2 → i ≠ 31 → t 0 i = t0 0 i) ∧ ∀ q, 2 ≤ q → q ≤ 18 → ∀ i, (i < bkS q * b ∨ bkS q * b + bkS q ≤ i) → t q i = t0 q i
theorem TmF_rfl : TmF b t t := ⟨fun _ _ _ => rfl, fun _ _ _ _ _ => rfl, fun _ _ _ _ _ => rfl⟩
theorem TmF_trans {w : Hp} (h : TmF b t u) (h2 : TmF b u w) : TmF b t w := ⟨fun q a c => by rw [h2.1 q a c, h.1 q a c], fun i a c e g => by rw [h2.2.1 i a c e g, h.2.1 i a c e g], fun q a c i hi => by rw [h2.2.2 q a c i hi, h.2.2 q a c i hi]⟩
theorem TmF_tf (h : TfM b t u) : TmF b t u := ⟨h.1, fun i a _ _ _ => h.2.1 i a, h.2.2⟩
theorem TmF_set (h : TmF b t u) {q i : Nat} {x : Int} (hq : (2 ≤ q ∧ q ≤ 18 ∧ bkS q * b ≤ i ∧ i < bkS q * b + bkS q) ∨ (q = 0 ∧ (i = 1 ∨ i = 2 ∨ i = 30 ∨ i = 31 ∨ (3 ≤ i ∧ i ≤ 9)))) : TmF b t (hset u q i x) := by
  refine ⟨fun q' a c => by rw [hset_obj _ _ _ _ (by omega)]; exact h.1 q' a c, fun j hj j1 j2 j3 => ?_, fun q' a c j hj => ?_⟩
  · have hj' := hj
    unfold xmI nxI at hj'
    rw [hset_get, if_neg (by omega)]
    exact h.2.1 j hj j1 j2 j3
  · rw [hset_get, if_neg]
    · exact h.2.2 q' a c j hj
    · rintro ⟨e1, e2⟩
      subst e1 e2
      omega
def MSt (b N : Nat) (τ u : Hp) : Prop := (u 0 1 = 0 ∧ u 0 2 = (N : Int) ∧ u 0 5 = 0 ∧ u 0 8 = 0 ∧ u 0 9 = -1 ∧ u 0 30 = 0 ∧ u 0 31 = (b : Int)) ∧ (u 2 b = 0 ∧ u 3 b = 0 ∧ u 4 b = 0 ∧ u 5 b = 0) ∧ (∀ i, i < 144 → u 15 (144 * b + i) = 0 ∧ u 16 (144 * b + i) = 0) ∧ TmF b τ u
theorem M_textStart {Q : Int → Hp → Prop} {b0 : Nat} (hb0 : b0 < 2) (hb : b = 1 - b0) (h12 : τ 0 12 = (b0 : Int)) (h1 : τ 0 1 = (N : Int)) (K : ∀ u, MSt b N τ u → wp (cl2 (F_M_next u) fun _ s19 => F_M_text_134 FU (0, s19)) Q) : wp (F_M_text τ) Q := by
  have hb2 : (0 : Int) ≤ (b : Int) ∧ (b : Int) < 2 := by omega
  have eb : isub 1 (b0 : Int) = (b : Int) := by rw [isub_ok (by omega)]; omega
  have e144 : imul 144 (b : Int) = ((144 * b : Nat) : Int) := by rw [imul_ok (by omega)]; omega
  obtain ⟨t1, ht1⟩ : ∃ t1, t1 = hset (hset (hset (hset (hset (hset τ 0 2 (N : Int)) 0 1 0) 0 5 0) 0 8 0) 0 9 (-1)) 0 31 (b : Int) := ⟨_, rfl⟩
  have a12 : hset (hset (hset (hset (hset τ 0 2 (N : Int)) 0 1 0) 0 5 0) 0 8 0) 0 9 (-1) 0 12 = (b0 : Int) := by
    rw [hset_get, if_neg (by decide), hset_get, if_neg (by decide), hset_get, if_neg (by decide), hset_get, if_neg (by decide), hset_get, if_neg (by decide)]
    exact h12
  have a0 : t1 0 1 = 0 ∧ t1 0 2 = (N : Int) ∧ t1 0 5 = 0 ∧ t1 0 8 = 0 ∧ t1 0 9 = -1 ∧ t1 0 31 = (b : Int) := by
    rw [ht1]
    simp only [hset_get, Nat.reduceEqDiff, and_false, and_true, true_and, if_true, if_false, and_self]
  have f1 : TmF b τ t1 := by
    rw [ht1]
    exact TmF_set (TmF_set (TmF_set (TmF_set (TmF_set (TmF_set TmF_rfl (by omega)) (by omega)) (by omega)) (by omega)) (by omega)) (by omega)
  have e1 : F_M_text τ = F_M_text_92 FU (((144 * b : Nat) : Int), hset (hset (hset (hset (hset t1 2 b 0) 3 b 0) 4 b 0) 5 b 0) 0 30 0) := by
    unfold F_M_text
    rw [h1, lt_eq, lt_eq, lt_eq, lt_eq, lt_eq, a12, eb, ← ht1, lt_eq, a0.2.2.2.2.2, gd_pos hb2, Int.toNat_natCast, lt_eq, hset_obj (q := 2) (q' := 0) _ _ _ (by decide), a0.2.2.2.2.2, gd_pos hb2, Int.toNat_natCast, lt_eq, hset_obj (q := 3) (q' := 0) _ _ _ (by decide), hset_obj (q := 2) (q' := 0) _ _ _ (by decide), a0.2.2.2.2.2, gd_pos hb2, Int.toNat_natCast, lt_eq, hset_obj (q := 4) (q' := 0) _ _ _ (by decide), hset_obj (q := 3) (q' := 0) _ _ _ (by decide), hset_obj (q := 2) (q' := 0) _ _ _ (by decide), a0.2.2.2.2.2, gd_pos hb2, Int.toNat_natCast, lt_eq, lt_eq]
    have e2 : hset (hset (hset (hset (hset t1 2 b 0) 3 b 0) 4 b 0) 5 b 0) 0 30 0 0 31 = (b : Int) := by
      rw [hset_get, if_neg (by decide), hset_obj _ _ _ _ (by decide), hset_obj _ _ _ _ (by decide), hset_obj _ _ _ _ (by decide), hset_obj _ _ _ _ (by decide)]
      exact a0.2.2.2.2.2
    rw [e2, e144, lt_eq]
  clear e144
  obtain ⟨t2, ht2⟩ : ∃ t2, t2 = hset (hset (hset (hset (hset t1 2 b 0) 3 b 0) 4 b 0) 5 b 0) 0 30 0 := ⟨_, rfl⟩
  rw [← ht2] at e1
  have b0' : ∀ i, i ≠ 30 → t2 0 i = t1 0 i := fun i hi => by rw [ht2, hset_get, if_neg (by omega), hset_obj _ _ _ _ (by decide), hset_obj _ _ _ _ (by decide), hset_obj _ _ _ _ (by decide), hset_obj _ _ _ _ (by decide)]
  have b30 : t2 0 30 = 0 := by rw [ht2, hset_same]
  have bq : t2 2 b = 0 ∧ t2 3 b = 0 ∧ t2 4 b = 0 ∧ t2 5 b = 0 := by
    rw [ht2]
    simp only [hset_get, Nat.reduceEqDiff, and_false, false_and, and_true, true_and, if_true, if_false, and_self]
  have f2 : TmF b τ t2 := by
    rw [ht2]
    have k1 : ∀ q, 2 ≤ q → q ≤ 5 → 2 ≤ q ∧ q ≤ 18 ∧ bkS q * b ≤ b ∧ b < bkS q * b + bkS q := fun q a1 a2 => by
      have e : bkS q = 1 := by unfold bkS; rw [if_pos a2]
      rw [e]
      omega
    exact TmF_set (TmF_set (TmF_set (TmF_set (TmF_set f1 (Or.inl (k1 2 (by decide) (by decide)))) (Or.inl (k1 3 (by decide) (by decide)))) (Or.inl (k1 4 (by decide) (by decide)))) (Or.inl (k1 5 (by decide) (by decide)))) (by omega)
  clear ht1 ht2 f1
  rw [e1]
  unfold F_M_text_92
  refine wp_loop (fun a : Int × Hp => ∃ k : Nat, k ≤ 144 ∧ a.1 = ((144 * b + k : Nat) : Int) ∧ (∀ i, i < k → a.2 15 (144 * b + i) = 0 ∧ a.2 16 (144 * b + i) = 0) ∧ (∀ q, q ≠ 15 → q ≠ 16 → a.2 q = t2 q) ∧ TmF b t2 a.2) (fun a => (300 - a.1).toNat) ?_ FU _ ?_ ?_
  · intro a K' hp ih
    obtain ⟨x, v⟩ := a
    obtain ⟨k, hk, e2, hz, hf, hm⟩ := hp
    dsimp only at e2 hz hf hm ih ⊢
    subst e2
    have v31 : v 0 31 = (b : Int) := by rw [hf 0 (by decide) (by decide), b0' 31 (by decide)]; exact a0.2.2.2.2.2
    have e3 : iadd (imul 144 (b : Int)) 144 = ((144 * b + 144 : Nat) : Int) := by
      rw [imul_ok (by omega), iadd_ok (by omega)]
      omega
    unfold F_M_text_92_b
    rw [v31, e3]
    clear e3
    refine wp_if (fun c => ?_) (fun c => ?_)
    · have ek : k = 144 := by omega
      subst ek
      have v0 : ∀ i, v 0 i = t2 0 i := fun i => by rw [hf 0 (by decide) (by decide)]
      refine K v ⟨⟨?_, ?_, ?_, ?_, ?_, ?_, v31⟩, ⟨?_, ?_, ?_, ?_⟩, hz, TmF_trans f2 hm⟩
      · rw [v0, b0' 1 (by decide)]; exact a0.1
      · rw [v0, b0' 2 (by decide)]; exact a0.2.1
      · rw [v0, b0' 5 (by decide)]; exact a0.2.2.1
      · rw [v0, b0' 8 (by decide)]; exact a0.2.2.2.1
      · rw [v0, b0' 9 (by decide)]; exact a0.2.2.2.2.1
      · rw [v0]; exact b30
      · rw [hf 2 (by decide) (by decide)]; exact bq.1
      · rw [hf 3 (by decide) (by decide)]; exact bq.2.1
      · rw [hf 4 (by decide) (by decide)]; exact bq.2.2.1
      · rw [hf 5 (by decide) (by decide)]; exact bq.2.2.2
    · have g : (0 : Int) ≤ ((144 * b + k : Nat) : Int) ∧ ((144 * b + k : Nat) : Int) < 288 := by omega
      have e4 : iadd ((144 * b + k : Nat) : Int) 1 = ((144 * b + (k + 1) : Nat) : Int) := by rw [iadd_ok (by omega)]; omega
      rw [gd_pos g, lt_eq, gd_pos g, lt_eq, Int.toNat_natCast, e4, lt_eq, z1_eq (Or.inl rfl)]
      clear e4
      refine ih _ ⟨k + 1, by omega, rfl, fun i hi => ?_, fun q a1 a2 => ?_, TmF_set (TmF_set hm (Or.inl ⟨by decide, by decide, by show 144 * b ≤ _; omega, by show _ < 144 * b + 144; omega⟩)) (Or.inl ⟨by decide, by decide, by show 144 * b ≤ _; omega, by show _ < 144 * b + 144; omega⟩)⟩ (by dsimp only; omega)
      · dsimp only
        rw [hset_obj _ _ _ _ (by decide), hset_row, hset_row, hset_obj _ _ _ _ (by decide)]
        dsimp only
        by_cases e : i = k
        · rw [if_pos (by omega), if_pos (by omega)]
          exact ⟨rfl, rfl⟩
        · rw [if_neg (by omega), if_neg (by omega)]
          exact hz i (by omega)
      · dsimp only
        rw [hset_obj _ _ _ _ a2, hset_obj _ _ _ _ a1]
        exact hf q a1 a2
  · exact ⟨0, by omega, rfl, fun i h => absurd h (by omega), fun _ _ _ => rfl, TmF_rfl⟩
  · rw [FU_eq]
    show (300 - ((144 * b : Nat) : Int)).toNat < 20000
    omega
theorem M_158_bad (h : 0 < t 0 8) (x : Int) : F_M_text_158 x t = some (-1, hset (hset t 0 10 (t 0 8)) 0 11 (t 0 9)) := by
  unfold F_M_text_158
  have e9 : hset t 0 10 (t 0 8) 0 9 = t 0 9 := by rw [hset_get, if_neg (by decide)]
  have e8 : hset (hset t 0 10 (t 0 8)) 0 11 (t 0 9) 0 8 = t 0 8 := by rw [hset_get, if_neg (by decide), hset_get, if_neg (by decide)]
  rw [lt_eq, e9, lt_eq, e8, if_neg (by omega)]
theorem M_158_ok (h8 : t 0 8 = 0) (x : Int) : wp (F_M_text_158 x t) (fun z u => z = x ∧ (u 0 10 = 0 ∧ u 0 11 = t 0 9 ∧ u 0 12 = t 0 31 ∧ u 0 43 = 0 ∧ u 0 44 = -1) ∧ (∀ i, i ≠ 10 → i ≠ 11 → i ≠ 12 → i ≠ 43 → i ≠ 44 → u 0 i = t 0 i) ∧ (∀ r, r < 30 → u 42 r = 0) ∧ ∀ q, q ≠ 0 → q ≠ 42 → u q = t q) := by
  unfold F_M_text_158
  have e9 : hset t 0 10 (t 0 8) 0 9 = t 0 9 := by rw [hset_get, if_neg (by decide)]
  have e8 : hset (hset t 0 10 (t 0 8)) 0 11 (t 0 9) 0 8 = t 0 8 := by rw [hset_get, if_neg (by decide), hset_get, if_neg (by decide)]
  have e31 : hset (hset t 0 10 (t 0 8)) 0 11 (t 0 9) 0 31 = t 0 31 := by rw [hset_get, if_neg (by decide), hset_get, if_neg (by decide)]
  rw [lt_eq, e9, lt_eq, e8, if_pos (by omega), e31, lt_eq, lt_eq, lt_eq]
  obtain ⟨v, hv⟩ : ∃ v, v = hset (hset (hset (hset (hset t 0 10 (t 0 8)) 0 11 (t 0 9)) 0 12 (t 0 31)) 0 43 0) 0 44 (-1) := ⟨_, rfl⟩
  have a0 : v 0 10 = 0 ∧ v 0 11 = t 0 9 ∧ v 0 12 = t 0 31 ∧ v 0 43 = 0 ∧ v 0 44 = -1 := by
    rw [hv]
    simp only [hset_get, Nat.reduceEqDiff, and_false, and_true, true_and, if_true, if_false, and_self, h8]
  have a1 : ∀ i, i ≠ 10 → i ≠ 11 → i ≠ 12 → i ≠ 43 → i ≠ 44 → v 0 i = t 0 i := fun i i1 i2 i3 i4 i5 => by
    rw [hv, hset_get, if_neg (by omega), hset_get, if_neg (by omega), hset_get, if_neg (by omega), hset_get, if_neg (by omega), hset_get, if_neg (by omega)]
  have aq : ∀ q, q ≠ 0 → v q = t q := fun q hq => by rw [hv, hset_obj _ _ _ _ hq, hset_obj _ _ _ _ hq, hset_obj _ _ _ _ hq, hset_obj _ _ _ _ hq, hset_obj _ _ _ _ hq]
  rw [← hv]
  unfold F_M_text_203
  refine wp_loop (fun a : Int × Int × Hp => ∃ k : Nat, k ≤ 30 ∧ a.1 = x ∧ a.2.1 = (k : Int) ∧ (∀ r, r < k → a.2.2 42 r = 0) ∧ ∀ q, q ≠ 42 → a.2.2 q = v q) (fun a => (30 - a.2.1).toNat) ?_ FU _ ?_ ?_
  · intro a K hp ih
    obtain ⟨x1, x2, u⟩ := a
    obtain ⟨k, hk, e1, e2, hz, hf⟩ := hp
    dsimp only at e1 e2 hz hf ih ⊢
    subst e1 e2
    unfold F_M_text_203_b
    refine wp_if (fun c => wp_ret ⟨rfl, by rw [hf 0 (by decide)]; exact a0, fun i i1 i2 i3 i4 i5 => by rw [hf 0 (by decide)]; exact a1 i i1 i2 i3 i4 i5, fun r hr => hz r (by omega), fun q i1 i2 => by rw [hf q i2, aq q i1]⟩) (fun c => ?_)
    rw [gd_pos (by omega), lt_eq, lt_eq, Int.toNat_natCast, iadd_ok (by omega), z1_eq (Or.inl rfl)]
    refine ih _ ⟨k + 1, by omega, rfl, by simp, fun r hr => ?_, fun q hq => ?_⟩ (by dsimp only; omega)
    · dsimp only
      rw [hset_row]
      dsimp only
      by_cases e : r = k
      · rw [if_pos e]
      · rw [if_neg e]; exact hz r (by omega)
    · dsimp only
      rw [hset_obj _ _ _ _ hq]; exact hf q hq
  · exact ⟨0, by omega, rfl, rfl, fun r h => absurd h (by omega), fun _ _ => rfl⟩
  · rw [FU_eq]
    show (30 - (0 : Int)).toNat < 20000
    omega
end TextStart
