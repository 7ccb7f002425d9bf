/-! the check's next -/
section Next
variable {τ t : Hp} {f : Nat → Int} {N : Nat}
theorem lshl_8 {a : Int} (ha : 0 ≤ a ∧ a < 36028797018963968) : lshl a 8 = a * 256 := by
  have e2 : (((Int32.ofInt 8).toInt64 &&& 63).toBitVec.smod 64).toNat = 8 := by decide
  have e : (Int64.ofInt a <<< ((Int32.ofInt 8).toInt64 &&& 63)).toBitVec.toNat = a.toNat * 256 := by
    show ((Int64.ofInt a).toBitVec <<< (((Int32.ofInt 8).toInt64 &&& 63).toBitVec.smod 64).toNat).toNat = _
    rw [e2, BitVec.toNat_shiftLeft, Nat.shiftLeft_eq, i64_nat (by omega)]
    exact Nat.mod_eq_of_lt (by omega)
  unfold lshl
  generalize Int64.ofInt a <<< ((Int32.ofInt 8).toInt64 &&& 63) = z at e
  show z.toBitVec.toInt = _
  rw [BitVec.toInt_eq_toNat_of_lt (by rw [e]; omega), e]
  omega
theorem lor_sum {a c : Int} (ha : 0 ≤ a ∧ a < 36028797018963968) (hc : 0 ≤ c ∧ c < 256) : lor (a * 256) c = a * 256 + c := by
  have e : (Int64.ofInt (a * 256) ||| Int64.ofInt c).toBitVec.toNat = a.toNat * 256 + c.toNat := by
    rw [Int64.toBitVec_or, BitVec.toNat_or, i64_nat (by omega), i64_nat (by omega)]
    have h := Nat.two_pow_add_eq_or_of_lt (i := 8) (b := c.toNat) (by omega) a.toNat
    have e1 : 2 ^ 8 * a.toNat = a.toNat * 256 := by omega
    have e2 : (a * 256).toNat = a.toNat * 256 := by omega
    rw [e1] at h
    rw [e2, ← h]
  unfold lor
  generalize Int64.ofInt (a * 256) ||| Int64.ofInt c = z at e
  show z.toBitVec.toInt = _
  rw [BitVec.toInt_eq_toNat_of_lt (by rw [e]; omega), e]
  omega
theorem M_isLetter (c : Int) : F_M_isLetter c τ = some (if isLt c then 1 else 0, τ) := by
  unfold F_M_isLetter F_M_isLetter_16 F_M_isLetter_17
  by_cases h : c < 97
  · rw [if_pos h, if_neg (fun z => by omega)]; rfl
  · rw [if_neg h]
    by_cases h2 : 122 < c
    · rw [if_pos h2, if_neg (fun z => by omega)]; rfl
    · rw [if_neg h2, if_pos ⟨by omega, by omega⟩]; rfl
theorem M_isDigit (c : Int) : F_M_isDigit c τ = some (if isDg c then 1 else 0, τ) := by
  unfold F_M_isDigit F_M_isDigit_16 F_M_isDigit_17
  by_cases h : c < 48
  · rw [if_pos h, if_neg (fun z => by omega)]; rfl
  · rw [if_neg h]
    by_cases h2 : 57 < c
    · rw [if_pos h2, if_neg (fun z => by omega)]; rfl
    · rw [if_neg h2, if_pos ⟨by omega, by omega⟩]; rfl
theorem pk8_wR {q k : Nat} (h : isLt (f (q + k))) : pk8 (wR f q (k + 1)) = pk8 (wR f q k) * 256 + f (q + k) := by
  show pk8 (wR f q k) * 256 + (((((f (q + k) - 96).toNat : Nat) : Int)) + 96) = _
  omega
def byM (t : Hp) (f : Nat → Int) (N : Nat) : Prop := t 0 2 = (N : Int) ∧ N ≤ 900 ∧ ∀ k, k < 900 → t 1 k = f k
def nxI (i : Nat) : Prop := i ≠ 3 ∧ i ≠ 4 ∧ i ≠ 5 ∧ i ≠ 6 ∧ i ≠ 7 ∧ i ≠ 8 ∧ i ≠ 9
def nxF (τ t : Hp) : Prop := (∀ q, q ≠ 0 → t q = τ q) ∧ ∀ i, nxI i → t 0 i = τ 0 i
theorem nxF_rfl : nxF t t := ⟨fun _ _ => rfl, fun _ _ => rfl⟩
theorem nxF_set {i : Nat} {v : Int} (h : nxF τ t) (hi : 3 ≤ i ∧ i ≤ 9) : nxF τ (hset t 0 i v) := ⟨fun q a => by rw [hset_obj _ _ _ _ a]; exact h.1 q a, fun j hj => by unfold nxI at hj; rw [hset_get, if_neg (by omega)]; exact h.2 j hj⟩
theorem nxF_trans {u : Hp} (h : nxF τ t) (h2 : nxF t u) : nxF τ u := ⟨fun q a => by rw [h2.1 q a, h.1 q a], fun i a => by rw [h2.2 i a, h.2 i a]⟩
theorem nxF_by (h : nxF τ t) (hb : byM τ f N) : byM t f N := ⟨by rw [h.2 2 (by unfold nxI; decide)]; exact hb.1, hb.2.1, fun k hk => by rw [h.1 1 (by decide)]; exact hb.2.2 k hk⟩
/-- a fault is told only if there is none -/
def flB (t : Hp) (k : Int) (p : Int) : Hp := if t 0 8 ≤ 0 then hset (hset t 0 8 k) 0 9 p else t
theorem M_blame (k p : Int) : F_M_blame k p t = some (0, flB t k p) := by
  unfold F_M_blame flB
  by_cases h : t 0 8 ≤ 0
  · rw [if_pos h, if_pos h, lt_eq, lt_eq]
  · rw [if_neg h, if_neg h]
theorem flB_F {k p : Int} (h : nxF τ t) : nxF τ (flB t k p) := by
  unfold flB
  split
  · exact nxF_set (nxF_set h (by omega)) (by omega)
  · exact h
theorem flB_i {k p : Int} {i : Nat} (hi : i ≠ 8 ∧ i ≠ 9) : flB t k p 0 i = t 0 i := by
  unfold flB
  split
  · rw [hset_get, if_neg (by omega), hset_get, if_neg (by omega)]
  · rfl
theorem rnL_is {q k : Nat} (hk : k < 7) (h1 : ∀ j, j < k → q + j < N ∧ isLt (f (q + j))) (h2 : ¬ (q + k < N ∧ isLt (f (q + k)))) : rnL f N q = k := by
  obtain ⟨r1, r2, r3⟩ := rnL_at (f := f) (N := N) q
  rcases Nat.lt_trichotomy (rnL f N q) k with x | x | x
  · exact absurd (h1 _ x) (r3 (by omega))
  · exact x
  · exact absurd (r2 k x) h2
theorem rnL_7 {q : Nat} (h1 : ∀ j, j < 7 → q + j < N ∧ isLt (f (q + j))) : rnL f N q = 7 := by
  obtain ⟨r1, r2, r3⟩ := rnL_at (f := f) (N := N) q
  by_cases x : rnL f N q < 7
  · exact absurd (h1 _ x) (r3 x)
  · omega
theorem rnD_is {q k : Nat} (hk : k < 5) (h1 : ∀ j, j < k → q + j < N ∧ isDg (f (q + j))) (h2 : ¬ (q + k < N ∧ isDg (f (q + k)))) : rnD f N q = k := by
  obtain ⟨r1, r2, r3⟩ := rnD_at (f := f) (N := N) q
  rcases Nat.lt_trichotomy (rnD f N q) k with x | x | x
  · exact absurd (h1 _ x) (r3 (by omega))
  · exact x
  · exact absurd (r2 k x) h2
theorem rnD_5 {q : Nat} (h1 : ∀ j, j < 5 → q + j < N ∧ isDg (f (q + j))) : rnD f N q = 5 := by
  obtain ⟨r1, r2, r3⟩ := rnD_at (f := f) (N := N) q
  by_cases x : rnD f N q < 5
  · exact absurd (h1 _ x) (r3 x)
  · omega
/-- the fault as a run of n has it: glued ahead of all, then too long at most -/
def flt (t : Hp) (g : Prop) (q n most : Nat) : Prop := (g → t 0 8 = 1 ∧ t 0 9 = (q : Nat)) ∧ (¬ g → (n ≤ most → t 0 8 = 0 ∧ t 0 9 = -1) ∧ (most < n → t 0 8 = 1 ∧ t 0 9 = ((q + most : Nat) : Int)))
theorem M_runL (hb : byM t f N) {q : Nat} (hq : q ≤ N) {g : Prop} (h : flt t g q 0 6) (h7 : t 0 7 = 0) (h6 : t 0 6 = 0) (x3 : Int) (h3 : x3 = 0) :
    wp (F_M_next_200 FU (q, 1, x3, 6, 0, t)) (fun _ u => ∃ n, flt u g q n 6 ∧ (∀ j, j < n → q + j < N ∧ isLt (f (q + j))) ∧ ¬ (q + n < N ∧ isLt (f (q + n))) ∧ u 0 5 = ((q + n : Nat) : Int) ∧ u 0 7 = pk8 (wR f q (min n 6)) ∧ nxF t u ∧ u 0 3 = t 0 3 ∧ u 0 4 = t 0 4) := by
  have hN := hb.2.1
  unfold F_M_next_200
  refine wp_loop (fun a : Int × Int × Int × Int × Int × Hp => ∃ n : Nat, q + n ≤ N ∧ a.1 = ((q + n : Nat) : Int) ∧ a.2.1 = 1 ∧ a.2.2.1 = 0 ∧ a.2.2.2.1 = 6 ∧ a.2.2.2.2.1 = (n : Int) ∧ flt a.2.2.2.2.2 g q n 6 ∧ (∀ j, j < n → q + j < N ∧ isLt (f (q + j))) ∧ a.2.2.2.2.2 0 7 = pk8 (wR f q (min n 6)) ∧ nxF t a.2.2.2.2.2 ∧ a.2.2.2.2.2 0 3 = t 0 3 ∧ a.2.2.2.2.2 0 4 = t 0 4) (fun a => (1000 - a.1).toNat) ?_ FU _ ?_ ?_
  · intro a K hp ih
    obtain ⟨y1, y2, y3, y4, y5, u⟩ := a
    obtain ⟨n, hn, e1, e2, e3, e4, e5, hfl, hr, e7, hf, k3, k4⟩ := hp
    dsimp only at e1 e2 e3 e4 e5 hfl e7 hf k3 k4 ih ⊢
    subst e1 e2 e3 e4 e5
    have hbu := nxF_by hf hb
    have stop : ¬ (q + n < N ∧ isLt (f (q + n))) → wp (F_M_next_323 ((q + n : Nat) : Int) u) (fun _ u => ∃ n, flt u g q n 6 ∧ (∀ j, j < n → q + j < N ∧ isLt (f (q + j))) ∧ ¬ (q + n < N ∧ isLt (f (q + n))) ∧ u 0 5 = ((q + n : Nat) : Int) ∧ u 0 7 = pk8 (wR f q (min n 6)) ∧ nxF t u ∧ u 0 3 = t 0 3 ∧ u 0 4 = t 0 4) := by
      intro hno
      unfold F_M_next_323
      rw [lt_eq]
      refine wp_ret ⟨n, ?_, hr, hno, hset_same _ _ _ _, ?_, nxF_set hf (by omega), ?_, ?_⟩
      · unfold flt
        rw [hset_get, if_neg (by decide), hset_get, if_neg (by decide)]
        exact hfl
      · rw [hset_get, if_neg (by decide)]; exact e7
      · rw [hset_get, if_neg (by decide)]; exact k3
      · rw [hset_get, if_neg (by decide)]; exact k4
    unfold F_M_next_200_b
    rw [hbu.1]
    refine wp_if (fun c => stop (fun z => by omega)) (fun c => ?_)
    rw [if_neg (by decide), gd_pos (by omega), Int.toNat_natCast, hbu.2.2 _ (by omega), M_isLetter, cl2_some]
    by_cases cl : isLt (f (q + n))
    · rw [if_pos cl, if_neg (by decide)]
      have hr2 : ∀ j, j < n + 1 → q + j < N ∧ isLt (f (q + j)) := fun j hj => by
        by_cases e : j = n
        · rw [e]; exact ⟨by omega, cl⟩
        · exact hr j (by omega)
      have next : ∀ v : Hp, flt v g q (n + 1) 6 → v 0 7 = pk8 (wR f q (min (n + 1) 6)) → nxF t v → v 0 3 = t 0 3 → v 0 4 = t 0 4 → wp (F_M_next_314 K ((q + n : Nat) : Int) 1 0 6 n v) (fun _ u => ∃ n, flt u g q n 6 ∧ (∀ j, j < n → q + j < N ∧ isLt (f (q + j))) ∧ ¬ (q + n < N ∧ isLt (f (q + n))) ∧ u 0 5 = ((q + n : Nat) : Int) ∧ u 0 7 = pk8 (wR f q (min n 6)) ∧ nxF t u ∧ u 0 3 = t 0 3 ∧ u 0 4 = t 0 4) := by
        intro v v1 v2 v3 v4 v5
        unfold F_M_next_314
        rw [iadd_ok (by omega), iadd_ok (by omega), lt_eq, lt_eq]
        exact ih _ ⟨n + 1, by omega, by dsimp only; omega, rfl, rfl, rfl, by simp, v1, hr2, v2, v3, v4, v5⟩ (by dsimp only; omega)
      unfold F_M_next_239
      by_cases c6 : n = 6
      · subst c6
        rw [if_pos (c := ((6 : Nat) : Int) = 6) rfl, M_blame, cl2_some]
        unfold F_M_next_252 F_M_next_282
        rw [if_pos (by decide), if_pos (by decide)]
        refine next _ ?_ (by rw [flB_i (by decide)]; exact e7) (flB_F hf) (by rw [flB_i (by decide)]; exact k3) (by rw [flB_i (by decide)]; exact k4)
        refine ⟨fun hg => ?_, fun hg => ⟨fun z => by omega, fun _ => ?_⟩⟩
        · have := hfl.1 hg
          unfold flB
          rw [if_neg (by omega)]
          exact this
        · have := (hfl.2 hg).1 (by omega)
          unfold flB
          rw [if_pos (by omega), hset_get, if_neg (by decide), hset_same, hset_same]
          exact ⟨rfl, rfl⟩
      · rw [if_neg (by omega)]
        unfold F_M_next_252 F_M_next_282
        by_cases c7 : n < 6
        · have hd : ndig (wR f q n) := wR_dig _ (fun j hj => (hr j hj).2)
          have hp8 := pk8_rng _ hd
          rw [wR_len] at hp8
          have h256 : (256 : Int) ^ n ≤ 1099511627776 := by
            have : n = 0 ∨ n = 1 ∨ n = 2 ∨ n = 3 ∨ n = 4 ∨ n = 5 := by omega
            rcases this with rfl | rfl | rfl | rfl | rfl | rfl <;> decide
          have em : min n 6 = n := by omega
          have em2 : min (n + 1) 6 = n + 1 := by omega
          rw [em] at e7
          rw [if_neg (by omega), if_neg (by decide), gd_pos (by omega), Int.toNat_natCast, hbu.2.2 _ (by omega), e7, lshl_8 (by omega), lor_sum (by omega) (by omega), lt_eq, if_neg (by omega), if_pos rfl]
          refine next _ ?_ (by rw [hset_same, em2, pk8_wR cl]) (nxF_set hf (by omega)) (by rw [hset_get, if_neg (by decide)]; exact k3) (by rw [hset_get, if_neg (by decide)]; exact k4)
          unfold flt
          rw [hset_get, if_neg (by decide), hset_get, if_neg (by decide)]
          exact ⟨hfl.1, fun hg => ⟨fun _ => (hfl.2 hg).1 (by omega), fun z => by omega⟩⟩
        · have em : min n 6 = 6 := by omega
          have em2 : min (n + 1) 6 = 6 := by omega
          rw [if_pos (by omega), if_pos (by omega)]
          refine next _ ⟨hfl.1, fun hg => ⟨fun z => by omega, fun _ => (hfl.2 hg).2 (by omega)⟩⟩ (by rw [em2, ← em]; exact e7) hf k3 k4
    · rw [if_neg cl, if_pos rfl]
      exact stop (fun z => cl z.2)
  · refine ⟨0, by omega, rfl, rfl, h3, rfl, rfl, h, fun j hj => absurd hj (by omega), ?_, nxF_rfl, rfl, rfl⟩
    dsimp only
    rw [h7]
    rfl
  · rw [FU_eq]
    dsimp only
    omega
theorem M_runD (hb : byM t f N) {q : Nat} (hq : q ≤ N) {g : Prop} (h : flt t g q 0 4) (h6 : t 0 6 = 0) :
    wp (F_M_next_200 FU (q, 0, 1, 4, 0, t)) (fun _ u => ∃ n, flt u g q n 4 ∧ (∀ j, j < n → q + j < N ∧ isDg (f (q + j))) ∧ ¬ (q + n < N ∧ isDg (f (q + n))) ∧ u 0 5 = ((q + n : Nat) : Int) ∧ u 0 6 = nR f q (min n 4) ∧ nxF t u ∧ u 0 3 = t 0 3 ∧ u 0 4 = t 0 4) := by
  have hN := hb.2.1
  unfold F_M_next_200
  refine wp_loop (fun a : Int × Int × Int × Int × Int × Hp => ∃ n : Nat, q + n ≤ N ∧ a.1 = ((q + n : Nat) : Int) ∧ a.2.1 = 0 ∧ a.2.2.1 = 1 ∧ a.2.2.2.1 = 4 ∧ a.2.2.2.2.1 = (n : Int) ∧ flt a.2.2.2.2.2 g q n 4 ∧ (∀ j, j < n → q + j < N ∧ isDg (f (q + j))) ∧ a.2.2.2.2.2 0 6 = nR f q (min n 4) ∧ nxF t a.2.2.2.2.2 ∧ a.2.2.2.2.2 0 3 = t 0 3 ∧ a.2.2.2.2.2 0 4 = t 0 4) (fun a => (1000 - a.1).toNat) ?_ FU _ ?_ ?_
  · intro a K hp ih
    obtain ⟨y1, y2, y3, y4, y5, u⟩ := a
    obtain ⟨n, hn, e1, e2, e3, e4, e5, hfl, hr, e7, hf, k3, k4⟩ := hp
    dsimp only at e1 e2 e3 e4 e5 hfl e7 hf k3 k4 ih ⊢
    subst e1 e2 e3 e4 e5
    have hbu := nxF_by hf hb
    have stop : ¬ (q + n < N ∧ isDg (f (q + n))) → wp (F_M_next_323 ((q + n : Nat) : Int) u) (fun _ u => ∃ n, flt u g q n 4 ∧ (∀ j, j < n → q + j < N ∧ isDg (f (q + j))) ∧ ¬ (q + n < N ∧ isDg (f (q + n))) ∧ u 0 5 = ((q + n : Nat) : Int) ∧ u 0 6 = nR f q (min n 4) ∧ nxF t u ∧ u 0 3 = t 0 3 ∧ u 0 4 = t 0 4) := by
      intro hno
      unfold F_M_next_323
      rw [lt_eq]
      refine wp_ret ⟨n, ?_, hr, hno, hset_same _ _ _ _, ?_, nxF_set hf (by omega), ?_, ?_⟩
      · unfold flt
        rw [hset_get, if_neg (by decide), hset_get, if_neg (by decide)]
        exact hfl
      · rw [hset_get, if_neg (by decide)]; exact e7
      · rw [hset_get, if_neg (by decide)]; exact k3
      · rw [hset_get, if_neg (by decide)]; exact k4
    unfold F_M_next_200_b
    rw [hbu.1]
    refine wp_if (fun c => stop (fun z => by omega)) (fun c => ?_)
    rw [if_pos rfl, gd_pos (by omega), Int.toNat_natCast, hbu.2.2 _ (by omega), M_isDigit, cl2_some]
    by_cases cl : isDg (f (q + n))
    · rw [if_pos cl, if_neg (by decide)]
      have hr2 : ∀ j, j < n + 1 → q + j < N ∧ isDg (f (q + j)) := fun j hj => by
        by_cases e : j = n
        · rw [e]; exact ⟨by omega, cl⟩
        · exact hr j (by omega)
      have next : ∀ v : Hp, flt v g q (n + 1) 4 → v 0 6 = nR f q (min (n + 1) 4) → nxF t v → v 0 3 = t 0 3 → v 0 4 = t 0 4 → wp (F_M_next_314 K ((q + n : Nat) : Int) 0 1 4 n v) (fun _ u => ∃ n, flt u g q n 4 ∧ (∀ j, j < n → q + j < N ∧ isDg (f (q + j))) ∧ ¬ (q + n < N ∧ isDg (f (q + n))) ∧ u 0 5 = ((q + n : Nat) : Int) ∧ u 0 6 = nR f q (min n 4) ∧ nxF t u ∧ u 0 3 = t 0 3 ∧ u 0 4 = t 0 4) := by
        intro v v1 v2 v3 v4 v5
        unfold F_M_next_314
        rw [iadd_ok (by omega), iadd_ok (by omega), lt_eq, lt_eq]
        exact ih _ ⟨n + 1, by omega, by dsimp only; omega, rfl, rfl, rfl, by simp, v1, hr2, v2, v3, v4, v5⟩ (by dsimp only; omega)
      unfold F_M_next_239
      by_cases c6 : n = 4
      · subst c6
        rw [if_pos (c := ((4 : Nat) : Int) = 4) rfl, M_blame, cl2_some]
        unfold F_M_next_252 F_M_next_282
        rw [if_pos (by decide), if_pos (by decide)]
        refine next _ ?_ (by rw [flB_i (by decide)]; exact e7) (flB_F hf) (by rw [flB_i (by decide)]; exact k3) (by rw [flB_i (by decide)]; exact k4)
        refine ⟨fun hg => ?_, fun hg => ⟨fun z => by omega, fun _ => ?_⟩⟩
        · have := hfl.1 hg
          unfold flB
          rw [if_neg (by omega)]
          exact this
        · have := (hfl.2 hg).1 (by omega)
          unfold flB
          rw [if_pos (by omega), hset_get, if_neg (by decide), hset_same, hset_same]
          exact ⟨rfl, rfl⟩
      · rw [if_neg (by omega)]
        unfold F_M_next_252 F_M_next_282
        by_cases c7 : n < 4
        · have hp8 := nR_rng (f := f) (q := q) n (fun j hj => (hr j hj).2) (by omega)
          have h256 : (10 : Int) ^ n ≤ 1000 := by
            have : n = 0 ∨ n = 1 ∨ n = 2 ∨ n = 3 := by omega
            rcases this with rfl | rfl | rfl | rfl <;> decide
          have em : min n 4 = n := by omega
          have em2 : min (n + 1) 4 = n + 1 := by omega
          rw [em] at e7
          rw [if_neg (by omega), if_pos rfl, if_neg (by omega), if_neg (by decide), gd_pos (by omega), Int.toNat_natCast, hbu.2.2 _ (by omega), e7, imul_ok (by omega), iadd_ok (a := 10 * nR f q n) (by omega), isub_ok (by omega), lt_eq]
          refine next _ ?_ (by rw [hset_same, em2]; rfl) (nxF_set hf (by omega)) (by rw [hset_get, if_neg (by decide)]; exact k3) (by rw [hset_get, if_neg (by decide)]; exact k4)
          unfold flt
          rw [hset_get, if_neg (by decide), hset_get, if_neg (by decide)]
          exact ⟨hfl.1, fun hg => ⟨fun _ => (hfl.2 hg).1 (by omega), fun z => by omega⟩⟩
        · have em : min n 4 = 4 := by omega
          have em2 : min (n + 1) 4 = 4 := by omega
          rw [if_pos (by omega), if_pos (by omega)]
          refine next _ ⟨hfl.1, fun hg => ⟨fun z => by omega, fun _ => (hfl.2 hg).2 (by omega)⟩⟩ (by rw [em2, ← em]; exact e7) hf k3 k4
    · rw [if_neg cl, if_pos rfl]
      exact stop (fun z => cl z.2)
  · refine ⟨0, by omega, rfl, rfl, rfl, rfl, rfl, h, fun j hj => absurd hj (by omega), ?_, nxF_rfl, rfl, rfl⟩
    dsimp only
    rw [h6]
    rfl
  · rw [FU_eq]
    dsimp only
    omega
/-- what the check has of the token at p; a misfit is a fault at once -/
def AtM (t : Hp) (f : Nat → Int) (N p : Nat) : Prop := (kd f N p ≠ -2 ∧ (t 0 8 = 0 ∧ t 0 9 = -1) ∧ t 0 4 = (st f N p : Nat) ∧ (kd f N p = -1 → t 0 3 = 0) ∧ (256 ≤ kd f N p → kd f N p ≠ 281 → t 0 3 = 1 ∧ t 0 7 = pk8 (wd f N p)) ∧ (kd f N p = 281 → t 0 3 = 2 ∧ t 0 6 = nv f N p) ∧ (0 ≤ kd f N p → kd f N p < 256 → t 0 3 = 3 ∧ t 0 6 = kd f N p) ∧ (0 ≤ kd f N p → t 0 5 = (en f N p : Nat))) ∨ (kd f N p = -2 ∧ t 0 8 = 1 ∧ t 0 9 = (st f N p : Nat))
theorem M_next (hok : okF f) (hb : byM t f N) {p : Nat} (hp : p ≤ N) (h5 : t 0 5 = p) (h8 : t 0 8 = 0) (h9 : t 0 9 = -1) : wp (F_M_next t) (fun _ u => AtM u f N p ∧ nxF t u) := by
  have hN := hb.2.1
  obtain ⟨⟨k1, k2, k3⟩, k4⟩ := sk_at (f := f) hp
  have hcs := tok_cases (f := f) hok hp
  unfold F_M_next F_M_next_5
  rw [h5, lt_eq]
  refine wp_loop (fun a : Int × Hp => ∃ r : Nat, p ≤ r ∧ r ≤ N ∧ sk f N r = sk f N p ∧ a.1 = (r : Int) ∧ a.2 = t) (fun a => (1000 - a.1).toNat) ?_ FU _ ?_ ?_
  · intro a K hq ih
    obtain ⟨x, u⟩ := a
    obtain ⟨r, r1, r2, r3, e1, e2⟩ := hq
    dsimp only at e1 e2 ih ⊢
    subst e1 e2
    have go : sk f N p = r → wp (F_M_next_41 r u) (fun _ v => AtM v f N p ∧ nxF u v) := by
      intro er
      rw [er] at hcs
      unfold F_M_next_41
      rw [lt_eq, lt_eq, lt_eq]
      generalize hw : hset (hset (hset u 0 4 r) 0 5 r) 0 3 0 = w
      have hfw : nxF u w := by
        rw [← hw]
        exact nxF_set (nxF_set (nxF_set nxF_rfl (by omega)) (by omega)) (by omega)
      have w4 : w 0 4 = (r : Nat) := by rw [← hw, hset_get, if_neg (by decide), hset_get, if_neg (by decide), hset_same]
      have w3 : w 0 3 = 0 := by rw [← hw, hset_same]
      have w8 : w 0 8 = 0 := by rw [← hw, hset_get, if_neg (by decide), hset_get, if_neg (by decide), hset_get, if_neg (by decide)]; exact h8
      have w9 : w 0 9 = -1 := by rw [← hw, hset_get, if_neg (by decide), hset_get, if_neg (by decide), hset_get, if_neg (by decide)]; exact h9
      have hbw := nxF_by hfw hb
      rw [hbw.1]
      refine wp_if (fun c => ?_) (fun c => ?_)
      · have hr : r < N := by omega
        have hfr := hok r
        rw [gd_pos (by omega), Int.toNat_natCast, hbw.2.2 _ (by omega), M_isLetter, cl2_some, gd_pos (by omega), hbw.2.2 _ (by omega), M_isDigit, cl2_some]
        have main : ∀ (v : Hp), nxF u v → v 0 4 = (r : Nat) → flt v (tkg f r) r 0 6 → wp (F_M_next_131 r (if isLt (f r) then 1 else 0) (if isDg (f r) then 1 else 0) v) (fun _ v => AtM v f N p ∧ nxF u v) := by
          intro v hfv v4 hfl
          unfold F_M_next_131
          rw [lt_eq, lt_eq, lt_eq, lt_eq, iadd_ok (by omega)]
          generalize hy : hset (hset (hset (hset v 0 6 0) 0 7 0) 0 3 3) 0 5 ((r : Int) + 1) = y
          have hfy : nxF u y := by
            rw [← hy]
            exact nxF_set (nxF_set (nxF_set (nxF_set hfv (by omega)) (by omega)) (by omega)) (by omega)
          have hby := nxF_by hfy hb
          have yi : ∀ i, i ≠ 3 → i ≠ 5 → i ≠ 6 → i ≠ 7 → y 0 i = v 0 i := fun i a1 a2 a3 a4 => by rw [← hy, hset_get, if_neg (by omega), hset_get, if_neg (by omega), hset_get, if_neg (by omega), hset_get, if_neg (by omega)]
          have y3 : y 0 3 = 3 := by rw [← hy, hset_get, if_neg (by decide), hset_same]
          have y5 : y 0 5 = (r : Int) + 1 := by rw [← hy, hset_same]
          have y6 : y 0 6 = 0 := by rw [← hy, hset_get, if_neg (by decide), hset_get, if_neg (by decide), hset_get, if_neg (by decide), hset_same]
          have y7 : y 0 7 = 0 := by rw [← hy, hset_get, if_neg (by decide), hset_get, if_neg (by decide), hset_same]
          by_cases cl : isLt (f r)
          · have cd : ¬ isDg (f r) := fun z => by omega
            rw [if_pos cl, if_neg (by decide), if_neg cd]
            unfold F_M_next_172 F_M_next_182 F_M_next_195
            rw [if_neg (by decide), lt_eq, if_neg (by decide)]
            have hfz : nxF u (hset y 0 3 1) := nxF_set hfy (by omega)
            have flz : flt (hset y 0 3 1) (tkg f r) r 0 6 := by
              unfold flt
              rw [hset_get, if_neg (by decide), hset_get, if_neg (by decide), yi 8 (by decide) (by decide) (by decide) (by decide), yi 9 (by decide) (by decide) (by decide) (by decide)]
              exact hfl
            refine wp_mono (M_runL (nxF_by hfz hb) r2 (g := tkg f r) flz (by rw [hset_get, if_neg (by decide)]; exact y7) (by rw [hset_get, if_neg (by decide)]; exact y6) 0 rfl) (fun _ x hx => ?_)
            obtain ⟨n, x1, x2, x3, x5, x7, xf, xe3, xe4⟩ := hx
            refine ⟨?_, nxF_trans hfz xf⟩
            rw [hset_same] at xe3
            rw [hset_get, if_neg (by decide), yi 4 (by decide) (by decide) (by decide) (by decide), v4] at xe4
            rcases hcs with ⟨a1, _⟩ | ⟨a1, a2, a3, a4⟩ | ⟨a1, a2, a3, a4, a5, a6⟩ | ⟨a1, a2, a3, a4, a5, a6, a7⟩ | ⟨a1, a2, a3, _⟩ | ⟨a1, a2, a3, _⟩ | ⟨a1, a2, a3, _⟩
            · omega
            · have := x1.1 a2
              exact Or.inr ⟨a3, this.1, by rw [this.2, a4]⟩
            · have h7 : 6 < n := by
                apply Classical.byContradiction
                intro z
                have := rnL_is (by omega) x2 x3
                omega
              have := (x1.2 a2).2 h7
              exact Or.inr ⟨a5, this.1, by rw [this.2, a6]⟩
            · have hn6 : n ≤ 6 := by
                apply Classical.byContradiction
                intro z
                have := rnL_7 (f := f) (N := N) (q := r) (fun j hj => x2 j (by omega))
                omega
              have en' := rnL_is (by omega) x2 x3
              have hk := kdW_rng (wd f N p)
              have hmin : min n 6 = n := by omega
              refine Or.inl ⟨by omega, (x1.2 a2).1 hn6, by rw [xe4, a6], fun z => by omega, fun _ _ => ⟨xe3, ?_⟩, fun z => by omega, fun _ z => by omega, fun _ => by rw [x5, a7, en']⟩
              rw [x7, hmin]
              unfold wd
              rw [er, en']
            · exact absurd cl a3
            · exact absurd cl a3
            · exact absurd cl a3
          · rw [if_neg cl, if_pos rfl]
            by_cases cd : isDg (f r)
            · rw [if_pos cd, if_neg (by decide)]
              unfold F_M_next_172 F_M_next_182 F_M_next_195
              rw [if_pos rfl, lt_eq, if_pos rfl]
              have hfz : nxF u (hset y 0 3 2) := nxF_set hfy (by omega)
              have flz : flt (hset y 0 3 2) (tkg f r) r 0 4 := by
                unfold flt
                rw [hset_get, if_neg (by decide), hset_get, if_neg (by decide), yi 8 (by decide) (by decide) (by decide) (by decide), yi 9 (by decide) (by decide) (by decide) (by decide)]
                exact ⟨hfl.1, fun hg => ⟨fun _ => (hfl.2 hg).1 (by omega), fun z => by omega⟩⟩
              refine wp_mono (M_runD (nxF_by hfz hb) r2 (g := tkg f r) flz (by rw [hset_get, if_neg (by decide)]; exact y6)) (fun _ x hx => ?_)
              obtain ⟨n, x1, x2, x3, x5, x7, xf, xe3, xe4⟩ := hx
              refine ⟨?_, nxF_trans hfz xf⟩
              rw [hset_same] at xe3
              rw [hset_get, if_neg (by decide), yi 4 (by decide) (by decide) (by decide) (by decide), v4] at xe4
              rcases hcs with ⟨a1, _⟩ | ⟨a1, a2, a3, a4⟩ | ⟨a1, a2, a3, _⟩ | ⟨a1, a2, a3, _⟩ | ⟨a1, a2, a3, a4, a5, a6, a7⟩ | ⟨a1, a2, a3, a4, a5, a6, a7, a8⟩ | ⟨a1, a2, a3, a4, _⟩
              · omega
              · have := x1.1 a2
                exact Or.inr ⟨a3, this.1, by rw [this.2, a4]⟩
              · exact absurd a3 cl
              · exact absurd a3 cl
              · have h7 : 4 < n := by
                  apply Classical.byContradiction
                  intro z
                  have := rnD_is (by omega) x2 x3
                  omega
                have := (x1.2 a2).2 h7
                exact Or.inr ⟨a6, this.1, by rw [this.2, a7]⟩
              · have hn6 : n ≤ 4 := by
                  apply Classical.byContradiction
                  intro z
                  have := rnD_5 (f := f) (N := N) (q := r) (fun j hj => x2 j (by omega))
                  omega
                have en' := rnD_is (by omega) x2 x3
                have hmin : min n 4 = n := by omega
                refine Or.inl ⟨by omega, (x1.2 a2).1 hn6, by rw [xe4, a7], fun z => by omega, fun _ z => absurd a6 z, fun _ => ⟨xe3, ?_⟩, fun _ z => by omega, fun _ => by rw [x5, a8, en']⟩
                rw [x7, hmin]
                unfold nv
                rw [er, en']
              · exact absurd cd a4
            · rw [if_neg cd, if_pos rfl, gd_pos (by omega), lt_eq, Int.toNat_natCast, hby.2.2 _ (by omega)]
              have ng : ¬ tkg f r := fun z => z.1.elim cl cd
              have hff := (hfl.2 ng).1 (by omega)
              rcases hcs with ⟨a1, _⟩ | ⟨a1, a2, _⟩ | ⟨a1, a2, a3, _⟩ | ⟨a1, a2, a3, _⟩ | ⟨a1, a2, a3, a4, _⟩ | ⟨a1, a2, a3, a4, _⟩ | ⟨a1, a2, a3, a4, a5, a6, a7, a8⟩
              · omega
              · exact absurd a2 ng
              · exact absurd a3 cl
              · exact absurd a3 cl
              · exact absurd a4 cd
              · exact absurd a4 cd
              · refine wp_ret ⟨Or.inl ⟨by omega, ?_, ?_, fun z => by omega, fun z => by omega, fun z => by omega, fun _ _ => ⟨?_, by rw [hset_same, a5]⟩, fun _ => ?_⟩, nxF_set hfy (by omega)⟩
                · rw [hset_get, if_neg (by decide), hset_get, if_neg (by decide), yi 8 (by decide) (by decide) (by decide) (by decide), yi 9 (by decide) (by decide) (by decide) (by decide)]
                  exact hff
                · rw [hset_get, if_neg (by decide), yi 4 (by decide) (by decide) (by decide) (by decide), v4, a7]
                · rw [hset_get, if_neg (by decide)]; exact y3
                · rw [hset_get, if_neg (by decide), y5, a8]
                  omega
        have nofl : ¬ tkg f r → flt w (tkg f r) r 0 6 := fun ng => ⟨fun z => absurd z ng, fun _ => ⟨fun _ => ⟨w8, w9⟩, fun z => by omega⟩⟩
        have glue : isLD (f r) → wp (F_M_next_93 r (if isLt (f r) then 1 else 0) (if isDg (f r) then 1 else 0) w) (fun _ v => AtM v f N p ∧ nxF u v) := by
          intro hld
          unfold F_M_next_93
          refine wp_if (fun c0 => main w hfw w4 (nofl (fun z => by have := z.2.1; omega))) (fun c0 => ?_)
          have er1 : isub (r : Int) 1 = ((r - 1 : Nat) : Int) := by rw [isub_ok (by omega)]; omega
          rw [er1]
          clear er1
          have flx : tkg f r → flt (flB w 1 (r : Nat)) (tkg f r) r 0 6 := fun hg => ⟨fun _ => by
            unfold flB
            rw [if_pos (by omega), hset_get, if_neg (by decide), hset_same, hset_same]
            exact ⟨rfl, rfl⟩, fun z => absurd hg z⟩
          have fault : tkg f r → wp (F_M_next_125 r (if isLt (f r) then 1 else 0) (if isDg (f r) then 1 else 0) w) (fun _ v => AtM v f N p ∧ nxF u v) := by
            intro hg
            unfold F_M_next_125
            rw [M_blame, cl2_some]
            exact main _ (flB_F hfw) (by rw [flB_i (by decide)]; exact w4) (flx hg)
          rw [gd_pos (by omega), Int.toNat_natCast, hbw.2.2 _ (by omega), M_isLetter, cl2_some]
          by_cases c1 : isLt (f (r - 1))
          · rw [if_pos c1, if_neg (by decide)]
            exact fault ⟨hld, by omega, Or.inl c1⟩
          · rw [if_neg c1, if_pos rfl, gd_pos (by omega), hbw.2.2 _ (by omega), M_isDigit, cl2_some]
            by_cases c2 : isDg (f (r - 1))
            · rw [if_pos c2, if_neg (by decide)]
              exact fault ⟨hld, by omega, Or.inr c2⟩
            · rw [if_neg c2, if_pos rfl]
              exact main w hfw w4 (nofl (fun z => z.2.2.elim c1 c2))
        by_cases cl : isLt (f r)
        · have h1 : (if isLt (f r) then (1 : Int) else 0) ≠ 0 := by rw [if_pos cl]; decide
          rw [if_neg h1]
          exact glue (Or.inl cl)
        · have h1 : (if isLt (f r) then (1 : Int) else 0) = 0 := by rw [if_neg cl]
          rw [if_pos h1]
          by_cases cd : isDg (f r)
          · have h2 : (if isDg (f r) then (1 : Int) else 0) ≠ 0 := by rw [if_pos cd]; decide
            rw [if_neg h2]
            exact glue (Or.inr cd)
          · have h2 : (if isDg (f r) then (1 : Int) else 0) = 0 := by rw [if_neg cd]
            rw [if_pos h2]
            exact main w hfw w4 (nofl (fun z => z.1.elim cl cd))
      · have hr : r = N := by omega
        rcases hcs with ⟨a1, a2, a3⟩ | ⟨a1, _⟩ | ⟨a1, _⟩ | ⟨a1, _⟩ | ⟨a1, _⟩ | ⟨a1, _⟩ | ⟨a1, _⟩
        · exact wp_ret ⟨Or.inl ⟨by omega, ⟨w8, w9⟩, by rw [w4, a3, hr], fun _ => w3, fun z => by omega, fun z => by omega, fun z => by omega, fun z => by omega⟩, hfw⟩
        all_goals omega
    unfold F_M_next_5_b F_M_next_35
    rw [hb.1]
    refine wp_if (fun c => ?_) (fun c => ?_)
    · refine go ?_
      rw [← r3, sk_st (fun z => by omega)]
    · have adv : isBl (f r) → wp (lt (iadd (r : Int) 1) fun y1_1 => K (y1_1, u)) (fun _ v => AtM v f N p ∧ nxF u v) := by
        intro cb
        rw [lt_eq, iadd_ok (by omega)]
        refine ih _ ⟨r + 1, by omega, by omega, ?_, by simp, rfl⟩ (by dsimp only; omega)
        rw [← r3, ← sk_bl ⟨by omega, cb⟩]
      rw [gd_pos (by omega), Int.toNat_natCast, hb.2.2 _ (by omega)]
      refine wp_if (fun c1 => adv (Or.inl c1)) (fun c1 => ?_)
      rw [gd_pos (by omega)]
      refine wp_if (fun c2 => adv (Or.inr c2)) (fun c2 => ?_)
      refine go ?_
      rw [← r3, sk_st (fun z => z.2.elim c1 c2)]
  · exact ⟨p, Nat.le_refl _, hp, rfl, rfl, rfl⟩
  · rw [FU_eq]
    dsimp only
    omega
end Next
