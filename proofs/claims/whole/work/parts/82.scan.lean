/-! the class's scanner -/
section Scan
variable {σ s : Hp} {f : Nat → Int} {N : Nat}
def byC (s : Hp) (f : Nat → Int) (N : Nat) : Prop := s 1 1 = (N : Int) ∧ N ≤ 900 ∧ ∀ j, s 2 j % 256 = f j
theorem byC.ok (h : byC s f N) : okF f := fun k => by rw [← h.2.2 k]; omega
theorem C_by (h : byC s f N) (k : Nat) : F_Bytes_at 1 k s = some (bAt f N k, s) := by
  rw [C_atA h.1 h.2.1, show (fun j => s 2 j % 256) = f from funext h.2.2]
def scF (σ s : Hp) : Prop := (∀ q, q ≠ 42 → s q = σ q) ∧ ∀ i, i ≠ 5 → i ≠ 6 → i ≠ 7 → i ≠ 8 → s 42 i = σ 42 i
theorem scF_rfl : scF s s := ⟨fun _ _ => rfl, fun _ _ _ _ _ => rfl⟩
theorem scF_set {i : Nat} {v : Int} (h : scF σ s) (hi : i = 5 ∨ i = 6 ∨ i = 7 ∨ i = 8) : scF σ (hset s 42 i v) := ⟨fun q a => by rw [hset_obj _ _ _ _ a]; exact h.1 q a, fun j a b c d => by rw [hset_get, if_neg (by omega)]; exact h.2 j a b c d⟩
theorem scF_by (h : scF σ s) (hb : byC σ f N) : byC s f N := ⟨by rw [h.1 1 (by decide)]; exact hb.1, hb.2.1, fun j => by rw [h.1 2 (by decide)]; exact hb.2.2 j⟩
theorem scF_trans {t : Hp} (h : scF σ s) (h2 : scF s t) : scF σ t := ⟨fun q a => by rw [h2.1 q a, h.1 q a], fun i a b c d => by rw [h2.2 i a b c d, h.2 i a b c d]⟩
theorem C_isLong (c : Int) : F_Scn_isLong c σ = some (if 256 ≤ c then 1 else 0, σ) := by
  unfold F_Scn_isLong F_Scn_isLong_12
  by_cases h : c < 256
  · rw [if_pos h, if_neg (by omega)]; rfl
  · rw [if_neg h, if_pos (by omega)]; rfl
theorem C_isBlank (c : Int) : F_Scn_isBlank c σ = some (if isBl c then 1 else 0, σ) := by
  unfold F_Scn_isBlank F_Scn_isBlank_12 F_Scn_isBlank_17
  by_cases h : c = 10
  · rw [if_pos h, if_pos (Or.inr h)]; rfl
  · rw [if_neg h]
    by_cases h2 : c = 32
    · rw [if_pos h2, if_pos (Or.inl h2)]; rfl
    · rw [if_neg h2, if_neg (fun z => z.elim h2 h)]; rfl
theorem C_isLetter (c : Int) : F_Scn_isLetter c σ = some (if isLt c then 1 else 0, σ) := by
  unfold F_Scn_isLetter F_Scn_isLetter_16 F_Scn_isLetter_17
  by_cases h : c < 97
  · rw [if_pos h, if_neg (fun z => by omega)]; rfl
  · rw [if_neg h]
    by_cases h2 : 122 < c
    · rw [if_pos h2, if_neg (fun z => by omega)]; rfl
    · rw [if_neg h2, if_pos ⟨by omega, by omega⟩]; rfl
theorem C_isDigit (c : Int) : F_Scn_isDigit c σ = some (if isDg c then 1 else 0, σ) := by
  unfold F_Scn_isDigit F_Scn_isDigit_16 F_Scn_isDigit_17
  by_cases h : c < 48
  · rw [if_pos h, if_neg (fun z => by omega)]; rfl
  · rw [if_neg h]
    by_cases h2 : 57 < c
    · rw [if_pos h2, if_neg (fun z => by omega)]; rfl
    · rw [if_neg h2, if_pos ⟨by omega, by omega⟩]; rfl
theorem pk5_wR {q k : Nat} (h : isLt (f (q + k))) : pk5 (wR f q (k + 1)) = pk5 (wR f q k) * 32 + f (q + k) - 96 := by
  show pk5 (wR f q k) * 32 + (((f (q + k) - 96).toNat : Nat) : Int) = _
  omega
theorem C_takeWord (hb : byC s f N) {q : Nat} (h6 : s 42 6 = q) :
    wp (F_Scn_takeWord s) (fun _ u => u 42 5 = (if rnL f N q = 7 then -2 else kdW (wR f q (rnL f N q))) ∧ u 42 6 = ((if rnL f N q = 7 then q + 6 else q : Nat) : Int) ∧ (rnL f N q ≠ 7 → u 42 8 = ((q + rnL f N q : Nat) : Int) ∧ u 42 7 = pk5 (wR f q (rnL f N q))) ∧ scF s u) := by
  obtain ⟨r1, r2, r3⟩ := rnL_at (f := f) (N := N) q
  have tail : ∀ (k : Nat) (u : Hp), k = min (rnL f N q) 6 → u 42 8 = ((q + k : Nat) : Int) → u 42 7 = pk5 (wR f q k) → u 42 6 = q → scF s u → wp (F_Scn_takeWord_76 u) (fun _ u => u 42 5 = (if rnL f N q = 7 then -2 else kdW (wR f q (rnL f N q))) ∧ u 42 6 = ((if rnL f N q = 7 then q + 6 else q : Nat) : Int) ∧ (rnL f N q ≠ 7 → u 42 8 = ((q + rnL f N q : Nat) : Int) ∧ u 42 7 = pk5 (wR f q (rnL f N q))) ∧ scF s u) := by
    intro k u hk e8 e7 e6 hf
    have hd : ndig (wR f q k) := wR_dig _ (fun j hj => (r2 j (by omega)).2)
    have hf1 := scF_set (i := 5) (v := kdW (wR f q k)) hf (Or.inl rfl)
    unfold F_Scn_takeWord_76
    rw [e7, C_kindOf hd, cl2_some, lt_eq, hset_get, if_neg (by decide), e8, C_by (scF_by hf1 hb), cl2_some, C_isLetter, cl2_some]
    unfold F_Scn_misfitIf F_Scn_misfitIf_18
    by_cases c : rnL f N q = 7
    · have ek : k = 6 := by omega
      have hl := r2 6 (by omega)
      have hb6 : bAt f N (q + k) = f (q + 6) := by rw [ek]; exact bAt_in hl.1
      rw [hb6, if_pos hl.2, if_neg (by decide), lt_eq, lt_eq, cl2_some]
      refine wp_ret ⟨?_, ?_, fun z => absurd c z, scF_set (scF_set hf1 (Or.inl rfl)) (Or.inr (Or.inl rfl))⟩
      · rw [hset_get, if_neg (by decide), hset_same, if_pos c]
      · rw [hset_same, hset_get, if_neg (by decide), hset_get, if_neg (by decide), e8, if_pos c, ek]
    · have ek : k = rnL f N q := by omega
      have hn : ¬ isLt (bAt f N (q + k)) := by
        intro z
        rw [ek] at z
        unfold bAt at z
        by_cases c2 : q + rnL f N q < N
        · rw [if_pos c2] at z
          exact r3 (by omega) ⟨c2, z⟩
        · rw [if_neg c2] at z
          omega
      rw [if_neg hn, if_pos rfl, cl2_some]
      refine wp_ret ⟨?_, ?_, fun _ => ⟨?_, ?_⟩, hf1⟩
      · rw [hset_same, if_neg c, ek]
      · rw [hset_get, if_neg (by decide), if_neg c]; exact e6
      · rw [hset_get, if_neg (by decide), ← ek]; exact e8
      · rw [hset_get, if_neg (by decide), ← ek]; exact e7
  unfold F_Scn_takeWord F_Scn_takeWord_15
  rw [lt_eq, lt_eq]
  refine wp_loop (fun a : Int × Hp => ∃ k : Nat, k ≤ min (rnL f N q) 6 ∧ a.1 = (k : Int) ∧ a.2 42 8 = ((q + k : Nat) : Int) ∧ a.2 42 7 = pk5 (wR f q k) ∧ a.2 42 6 = q ∧ scF s a.2) (fun a => (30 - a.1).toNat) ?_ FU _ ?_ ?_
  · intro a K hp ih
    obtain ⟨x, u⟩ := a
    obtain ⟨k, hk, e1, e8, e7, e6, hf⟩ := hp
    dsimp only at e1 e8 e7 e6 hf ih ⊢
    subst e1
    unfold F_Scn_takeWord_15_b
    refine wp_if (fun c => tail k u (by omega) e8 e7 e6 hf) (fun c => ?_)
    rw [e8, C_by (scF_by hf hb), cl2_some, C_isLetter, cl2_some]
    by_cases ck : k < rnL f N q
    · have hl := r2 k ck
      have hd : ndig (wR f q k) := wR_dig _ (fun j hj => (r2 j (by omega)).2)
      have hr := pk5_rng _ hd
      rw [wR_len] at hr
      have h32 : (32 : Int) ^ k ≤ 33554432 := by
        have : k = 0 ∨ k = 1 ∨ k = 2 ∨ k = 3 ∨ k = 4 ∨ k = 5 := by omega
        rcases this with rfl | rfl | rfl | rfl | rfl | rfl <;> decide
      have hbk : bAt f N (q + k) = f (q + k) := bAt_in hl.1
      have hlt := hl.2
      unfold F_Scn_packed
      rw [hbk, if_pos hl.2, if_neg (by decide), e8, C_by (scF_by hf hb), cl2_some, hbk, cl2_some, e7, lt_eq, lt_eq, hset_get, if_neg (by decide), e8, imul_ok (by omega), iadd_ok (a := pk5 (wR f q k) * 32) (by omega), isub_ok (by omega), iadd_ok (a := pk5 (wR f q k) * 32 + f (q + k) - 97) (by omega), iadd_ok (a := ((q + k : Nat) : Int)) (by have := hb.2.1; omega), lt_eq, iadd_ok (by omega)]
      refine ih _ ⟨k + 1, by omega, by simp, ?_, ?_, ?_, scF_set (scF_set hf (Or.inr (Or.inr (Or.inl rfl)))) (Or.inr (Or.inr (Or.inr rfl)))⟩ (by dsimp only; omega)
      · dsimp only
        rw [hset_same]
        omega
      · dsimp only
        rw [hset_get, if_neg (by decide), hset_same, pk5_wR hlt]
        omega
      · dsimp only
        rw [hset_get, if_neg (by decide), hset_get, if_neg (by decide)]; exact e6
    · have ek : k = rnL f N q := by omega
      have hn : ¬ isLt (bAt f N (q + k)) := by
        intro z
        rw [ek] at z
        unfold bAt at z
        by_cases c2 : q + rnL f N q < N
        · rw [if_pos c2] at z
          exact r3 (by omega) ⟨c2, z⟩
        · rw [if_neg c2] at z
          omega
      rw [if_neg hn, if_pos rfl]
      exact tail k u (by omega) e8 e7 e6 hf
  · refine ⟨0, by omega, rfl, ?_, ?_, ?_, scF_set (scF_set scF_rfl (Or.inr (Or.inr (Or.inl rfl)))) (Or.inr (Or.inr (Or.inr rfl)))⟩
    · dsimp only
      rw [hset_same, hset_get, if_neg (by decide)]; exact h6
    · dsimp only
      rw [hset_get, if_neg (by decide), hset_same]; rfl
    · dsimp only
      rw [hset_get, if_neg (by decide), hset_get, if_neg (by decide)]; exact h6
  · rw [FU_eq]
    show (30 - (0 : Int)).toNat < 20000
    omega
theorem C_takeNumber (hb : byC s f N) {q : Nat} (h6 : s 42 6 = q) :
    wp (F_Scn_takeNumber s) (fun _ u => u 42 5 = (if rnD f N q = 5 then -2 else 281) ∧ u 42 6 = ((if rnD f N q = 5 then q + 4 else q : Nat) : Int) ∧ (rnD f N q ≠ 5 → u 42 8 = ((q + rnD f N q : Nat) : Int) ∧ u 42 7 = nR f q (rnD f N q)) ∧ scF s u) := by
  obtain ⟨r1, r2, r3⟩ := rnD_at (f := f) (N := N) q
  have tail : ∀ (k : Nat) (u : Hp), k = min (rnD f N q) 4 → u 42 8 = ((q + k : Nat) : Int) → u 42 7 = nR f q k → u 42 6 = q → scF s u → wp (F_Scn_takeNumber_79 u) (fun _ u => u 42 5 = (if rnD f N q = 5 then -2 else 281) ∧ u 42 6 = ((if rnD f N q = 5 then q + 4 else q : Nat) : Int) ∧ (rnD f N q ≠ 5 → u 42 8 = ((q + rnD f N q : Nat) : Int) ∧ u 42 7 = nR f q (rnD f N q)) ∧ scF s u) := by
    intro k u hk e8 e7 e6 hf
    have hf1 := scF_set (i := 5) (v := 281) hf (Or.inl rfl)
    unfold F_Scn_takeNumber_79
    rw [lt_eq, hset_get, if_neg (by decide), e8, C_by (scF_by hf1 hb), cl2_some, C_isDigit, cl2_some]
    unfold F_Scn_misfitIf F_Scn_misfitIf_18
    by_cases c : rnD f N q = 5
    · have ek : k = 4 := by omega
      have hl := r2 4 (by omega)
      have hb6 : bAt f N (q + k) = f (q + 4) := by rw [ek]; exact bAt_in hl.1
      rw [hb6, if_pos hl.2, if_neg (by decide), lt_eq, lt_eq, cl2_some]
      refine wp_ret ⟨?_, ?_, fun z => absurd c z, scF_set (scF_set hf1 (Or.inl rfl)) (Or.inr (Or.inl rfl))⟩
      · rw [hset_get, if_neg (by decide), hset_same, if_pos c]
      · rw [hset_same, hset_get, if_neg (by decide), hset_get, if_neg (by decide), e8, if_pos c, ek]
    · have ek : k = rnD f N q := by omega
      have hn : ¬ isDg (bAt f N (q + k)) := by
        intro z
        rw [ek] at z
        unfold bAt at z
        by_cases c2 : q + rnD f N q < N
        · rw [if_pos c2] at z
          exact r3 (by omega) ⟨c2, z⟩
        · rw [if_neg c2] at z
          omega
      rw [if_neg hn, if_pos rfl, cl2_some]
      refine wp_ret ⟨?_, ?_, fun _ => ⟨?_, ?_⟩, hf1⟩
      · rw [hset_same, if_neg c]
      · rw [hset_get, if_neg (by decide), if_neg c]; exact e6
      · rw [hset_get, if_neg (by decide), ← ek]; exact e8
      · rw [hset_get, if_neg (by decide), ← ek]; exact e7
  unfold F_Scn_takeNumber F_Scn_takeNumber_15
  rw [lt_eq, lt_eq]
  refine wp_loop (fun a : Int × Hp => ∃ k : Nat, k ≤ min (rnD f N q) 4 ∧ a.1 = (k : Int) ∧ a.2 42 8 = ((q + k : Nat) : Int) ∧ a.2 42 7 = nR f q k ∧ a.2 42 6 = q ∧ scF s a.2) (fun a => (30 - a.1).toNat) ?_ FU _ ?_ ?_
  · intro a K hp ih
    obtain ⟨x, u⟩ := a
    obtain ⟨k, hk, e1, e8, e7, e6, hf⟩ := hp
    dsimp only at e1 e8 e7 e6 hf ih ⊢
    subst e1
    unfold F_Scn_takeNumber_15_b
    refine wp_if (fun c => tail k u (by omega) e8 e7 e6 hf) (fun c => ?_)
    rw [e8, C_by (scF_by hf hb), cl2_some, C_isDigit, cl2_some]
    by_cases ck : k < rnD f N q
    · have hl := r2 k ck
      have hr := nR_rng (f := f) (q := q) k (fun j hj => (r2 j (by omega)).2) (by omega)
      have h10 : (10 : Int) ^ k ≤ 10000 := by
        have : k = 0 ∨ k = 1 ∨ k = 2 ∨ k = 3 := by omega
        rcases this with rfl | rfl | rfl | rfl <;> decide
      have hbk : bAt f N (q + k) = f (q + k) := bAt_in hl.1
      have hlt := hl.2
      rw [hbk, if_pos hl.2, if_neg (by decide), e8, C_by (scF_by hf hb), cl2_some, hbk, e7, lt_eq, lt_eq, hset_get, if_neg (by decide), e8, imul_ok (by omega), iadd_ok (a := 10 * nR f q k) (by omega), isub_ok (by omega), iadd_ok (a := ((q + k : Nat) : Int)) (by have := hb.2.1; omega), lt_eq, iadd_ok (by omega)]
      refine ih _ ⟨k + 1, by omega, by simp, ?_, ?_, ?_, scF_set (scF_set hf (Or.inr (Or.inr (Or.inl rfl)))) (Or.inr (Or.inr (Or.inr rfl)))⟩ (by dsimp only; omega)
      · dsimp only
        rw [hset_same]
        omega
      · dsimp only
        rw [hset_get, if_neg (by decide), hset_same]
        rfl
      · dsimp only
        rw [hset_get, if_neg (by decide), hset_get, if_neg (by decide)]; exact e6
    · have ek : k = rnD f N q := by omega
      have hn : ¬ isDg (bAt f N (q + k)) := by
        intro z
        rw [ek] at z
        unfold bAt at z
        by_cases c2 : q + rnD f N q < N
        · rw [if_pos c2] at z
          exact r3 (by omega) ⟨c2, z⟩
        · rw [if_neg c2] at z
          omega
      rw [if_neg hn, if_pos rfl]
      exact tail k u (by omega) e8 e7 e6 hf
  · refine ⟨0, by omega, rfl, ?_, ?_, ?_, scF_set (scF_set scF_rfl (Or.inr (Or.inr (Or.inl rfl)))) (Or.inr (Or.inr (Or.inr rfl)))⟩
    · dsimp only
      rw [hset_same, hset_get, if_neg (by decide)]; exact h6
    · dsimp only
      rw [hset_get, if_neg (by decide), hset_same]; rfl
    · dsimp only
      rw [hset_get, if_neg (by decide), hset_get, if_neg (by decide)]; exact h6
  · rw [FU_eq]
    show (30 - (0 : Int)).toNat < 20000
    omega
/-- what the class has of the token at p -/
def tkC (u : Hp) (f : Nat → Int) (N p : Nat) : Prop := u 42 5 = kd f N p ∧ u 42 6 = (st f N p : Nat) ∧ (0 ≤ kd f N p → u 42 8 = (en f N p : Nat)) ∧ (256 ≤ kd f N p → kd f N p ≠ 281 → u 42 7 = pk5 (wd f N p)) ∧ (kd f N p = 281 → u 42 7 = nv f N p)
theorem C_takeNext (hb : byC s f N) {p : Nat} (hp : p ≤ N) (h8 : s 42 8 = p) (h5 : 256 ≤ s 42 5 ↔ 0 < p ∧ isLD (f (p - 1))) : wp (F_Scn_takeNext s) (fun _ u => tkC u f N p ∧ scF s u) := by
  have hok := hb.ok
  have hN := hb.2.1
  obtain ⟨⟨k1, k2, k3⟩, k4⟩ := sk_at (f := f) hp
  unfold F_Scn_takeNext F_Scn_takeNext_21
  rw [C_isLong, cl2_some, lt_eq, lt_eq, h8]
  refine wp_loop (fun a : Int × Int × Hp => ∃ r : Nat, p ≤ r ∧ r ≤ N ∧ sk f N r = sk f N p ∧ a.1 = (if 256 ≤ s 42 5 then 1 else 0) ∧ a.2.1 = (p : Int) ∧ a.2.2 42 6 = (r : Int) ∧ scF s a.2.2) (fun a => (1000 - a.2.2 42 6).toNat) ?_ FU _ ?_ ?_
  · intro a K hq ih
    obtain ⟨x, y, u⟩ := a
    obtain ⟨r, r1, r2, r3, e1, e2, e6, hf⟩ := hq
    dsimp only at e1 e2 e6 hf ih ⊢
    subst e1 e2
    have hbu := scF_by hf hb
    have go : sk f N p = r → wp (F_Scn_takeNext_65 (if 256 ≤ s 42 5 then 1 else 0) p u) (fun _ u => tkC u f N p ∧ scF s u) := by
      intro er
      have hcs := tok_cases (f := f) hok hp
      rw [er] at hcs
      unfold F_Scn_takeNext_65 F_Scn_takeNext_91
      rw [e6, C_by hbu, cl2_some, C_isLetter, cl2_some]
      have mid : ∀ m : Int, m = (if isLD (bAt f N r) then 1 else 0) → wp (F_Scn_takeNext_96 (if 256 ≤ s 42 5 then 1 else 0) p (bAt f N r) m u) (fun _ u => tkC u f N p ∧ scF s u) := by
        intro m hm
        unfold F_Scn_takeNext_96 F_Scn_takeNext_178
        by_cases cN : r = N
        · have hbN : bAt f N r = -1 := if_neg (by omega)
          rw [hbN, if_pos rfl, lt_eq]
          rcases hcs with ⟨a1, a2, a3⟩ | ⟨a1, _⟩ | ⟨a1, _⟩ | ⟨a1, _⟩ | ⟨a1, _⟩ | ⟨a1, _⟩ | ⟨a1, _⟩
          · refine wp_ret ⟨⟨by rw [hset_same, a2], by rw [hset_get, if_neg (by decide), e6, a3, cN], fun z => by omega, fun z => by omega, fun z => by omega⟩, scF_set hf (Or.inl rfl)⟩
          all_goals omega
        · have hbr : bAt f N r = f r := bAt_in (by omega)
          have hfr := hok r
          rw [hbr] at hm ⊢
          rw [if_neg (by omega)]
          have fin : ¬ tkg f r → wp (F_Scn_takeNext_137 (f r) m u) (fun _ u => tkC u f N p ∧ scF s u) := by
            intro ng
            unfold F_Scn_takeNext_137 F_Scn_takeNext_178
            rw [C_isLetter, cl2_some]
            by_cases cl : isLt (f r)
            · rw [if_pos cl, if_neg (by decide)]
              refine wp_cl (C_takeWord hbu e6) (fun _ v hv => wp_ret ⟨?_, scF_trans hf hv.2.2.2⟩)
              obtain ⟨v1, v2, v3, v4⟩ := hv
              rcases hcs with ⟨a1, _⟩ | ⟨a1, a2, _⟩ | ⟨a1, a2, a3, a4, a5, a6⟩ | ⟨a1, a2, a3, a4, a5, a6, a7⟩ | ⟨a1, a2, a3, _⟩ | ⟨a1, a2, a3, _⟩ | ⟨a1, a2, a3, _⟩
              · omega
              · exact absurd a2 ng
              · rw [if_pos a4] at v1 v2
                exact ⟨by rw [v1, a5], by rw [v2, a6], fun z => by omega, fun z => by omega, fun z => by omega⟩
              · rw [if_neg (by omega)] at v1 v2
                have v3 := v3 (by omega)
                have hk := kdW_rng (wd f N p)
                refine ⟨?_, by rw [v2, a6], fun _ => by rw [v3.1, a7], fun _ _ => ?_, fun z => by omega⟩
                · rw [v1, a5]; unfold wd; rw [er]
                · rw [v3.2]; unfold wd; rw [er]
              · exact absurd cl a3
              · exact absurd cl a3
              · exact absurd cl a3
            · rw [if_neg cl, if_pos rfl]
              by_cases cd : isDg (f r)
              · rw [hm, if_pos (Or.inr cd), if_neg (by decide)]
                refine wp_cl (C_takeNumber hbu e6) (fun _ v hv => wp_ret ⟨?_, scF_trans hf hv.2.2.2⟩)
                obtain ⟨v1, v2, v3, v4⟩ := hv
                rcases hcs with ⟨a1, _⟩ | ⟨a1, a2, _⟩ | ⟨a1, a2, a3, _⟩ | ⟨a1, a2, a3, _⟩ | ⟨a1, a2, a3, a4, a5, a6, a7⟩ | ⟨a1, a2, a3, a4, a5, a6, a7, a8⟩ | ⟨a1, a2, a3, a4, _⟩
                · omega
                · exact absurd a2 ng
                · exact absurd a3 cl
                · exact absurd a3 cl
                · rw [if_pos a5] at v1 v2
                  exact ⟨by rw [v1, a6], by rw [v2, a7], fun z => by omega, fun z => by omega, fun z => by omega⟩
                · rw [if_neg (by omega)] at v1 v2
                  have v3 := v3 (by omega)
                  refine ⟨by rw [v1, a6], by rw [v2, a7], fun _ => by rw [v3.1, a8], fun _ z => absurd a6 z, fun _ => ?_⟩
                  rw [v3.2]; unfold nv; rw [er]
                · exact absurd cd a4
              · rw [hm, if_neg (c := isLD (f r)) (fun z => z.elim cl cd), if_pos rfl, lt_eq, lt_eq, hset_get, if_neg (by decide), e6, iadd_ok (by omega)]
                rcases hcs with ⟨a1, _⟩ | ⟨a1, a2, _⟩ | ⟨a1, a2, a3, _⟩ | ⟨a1, a2, a3, _⟩ | ⟨a1, a2, a3, a4, _⟩ | ⟨a1, a2, a3, a4, _⟩ | ⟨a1, a2, a3, a4, a5, a6, a7, a8⟩
                · omega
                · exact absurd a2 ng
                · exact absurd a3 cl
                · exact absurd a3 cl
                · exact absurd a4 cd
                · exact absurd a4 cd
                · refine wp_ret ⟨⟨by rw [hset_get, if_neg (by decide), hset_same, a5], by rw [hset_get, if_neg (by decide), hset_get, if_neg (by decide), e6, a7], fun _ => by rw [hset_same, a8]; omega, fun z => by omega, fun z => by omega⟩, scF_set (scF_set hf (Or.inl rfl)) (Or.inr (Or.inr (Or.inr rfl)))⟩
          by_cases cg : tkg f r
          · have hs : 256 ≤ s 42 5 ∧ r = p := by
              have ep : r = p := by
                apply Classical.byContradiction
                intro z
                have := k3 (r - 1) (by omega) (by omega)
                have h2 := cg.2.2
                unfold isLD at h2
                omega
              exact ⟨h5.mpr ⟨by have := cg.2.1; omega, by rw [← ep]; exact cg.2.2⟩, ep⟩
            rw [if_pos hs.1, if_neg (by decide), hm, if_pos cg.1, if_neg (by decide), e6, if_pos (by omega), lt_eq]
            rcases hcs with ⟨a1, _⟩ | ⟨a1, a2, a3, a4⟩ | ⟨a1, a2, _⟩ | ⟨a1, a2, _⟩ | ⟨a1, a2, _⟩ | ⟨a1, a2, _⟩ | ⟨a1, a2, _⟩
            · omega
            · exact wp_ret ⟨⟨by rw [hset_same, a3], by rw [hset_get, if_neg (by decide), e6, a4], fun z => by omega, fun z => by omega, fun z => by omega⟩, scF_set hf (Or.inl rfl)⟩
            all_goals exact absurd cg a2
          · by_cases c5 : 256 ≤ s 42 5
            · rw [if_pos c5, if_neg (by decide)]
              refine wp_if (fun c6 => fin cg) (fun c6 => ?_)
              rw [e6]
              refine wp_if (fun c7 => ?_) (fun c7 => fin cg)
              have hld : isLD (f r) := Classical.byContradiction (fun z => c6 (by rw [hm, if_neg z]))
              have h9 := h5.mp c5
              have ep : r = p := by omega
              exact absurd ⟨hld, by omega, by rw [ep]; exact h9.2⟩ cg
            · rw [if_neg c5, if_pos rfl]
              exact fin cg
      by_cases cl : isLt (bAt f N r)
      · rw [if_pos cl, if_neg (by decide)]
        exact mid 1 (by rw [if_pos (Or.inl cl)])
      · rw [if_neg cl, if_pos rfl, C_isDigit, cl2_some]
        by_cases cd : isDg (bAt f N r)
        · rw [if_pos cd, if_neg (by decide)]
          exact mid 1 (by rw [if_pos (Or.inr cd)])
        · rw [if_neg cd, if_pos rfl]
          exact mid 0 (by rw [if_neg (fun z => z.elim cl cd)])
    unfold F_Scn_takeNext_21_b F_Bytes_size
    rw [gd_pos (show isBytes 1 by decide), cl2_some, hbu.1, e6]
    refine wp_if (fun c => ?_) (fun c => ?_)
    · refine go ?_
      rw [← r3, sk_st (fun z => by omega)]
    · rw [C_by hbu, cl2_some, C_isBlank, cl2_some]
      have hbr : bAt f N r = f r := bAt_in (by omega)
      rw [hbr]
      by_cases cb : isBl (f r)
      · rw [if_pos cb, if_neg (by decide), lt_eq, iadd_ok (by omega)]
        refine ih _ ⟨r + 1, by omega, by omega, ?_, rfl, rfl, ?_, scF_set hf (Or.inr (Or.inl rfl))⟩ ?_
        · rw [← r3, ← sk_bl ⟨by omega, cb⟩]
        · dsimp only
          rw [hset_same]
          omega
        · dsimp only
          rw [hset_same, e6]
          omega
      · rw [if_neg cb, if_pos rfl]
        refine go ?_
        rw [← r3, sk_st (fun z => cb z.2)]
  · refine ⟨p, Nat.le_refl _, hp, rfl, rfl, rfl, ?_, scF_set scF_rfl (Or.inr (Or.inl rfl))⟩
    dsimp only
    rw [hset_same]
  · rw [FU_eq]
    dsimp only
    rw [hset_same]
    omega
/-! the places one behind another -/
def pP (f : Nat → Int) (N : Nat) : Nat → Nat
  | 0 => 0
  | i + 1 => en f N (pP f N i)
/-- the class's rows of tokens -/
def ScnC (s : Hp) (f : Nat → Int) (N cnt : Nat) : Prop := s 42 4 = (cnt : Int) ∧ 1 ≤ cnt ∧ cnt ≤ 901 ∧ (∀ i, i < cnt → pP f N i ≤ N ∧ s 43 i = kd f N (pP f N i) ∧ s 44 i = (st f N (pP f N i) : Nat) ∧ (256 ≤ kd f N (pP f N i) → kd f N (pP f N i) ≠ 281 → s 45 i = pk5 (wd f N (pP f N i))) ∧ (kd f N (pP f N i) = 281 → s 45 i = nv f N (pP f N i))) ∧ kd f N (pP f N (cnt - 1)) < 0 ∧ ∀ i, i + 1 < cnt → 0 ≤ kd f N (pP f N i)
def snF (σ s : Hp) : Prop := ∀ q, q ≠ 42 → q ≠ 43 → q ≠ 44 → q ≠ 45 → s q = σ q
theorem C_scan (hb : byC s f N) : wp (F_Scn_scan s) (fun _ u => (∃ cnt, ScnC u f N cnt) ∧ snF s u) := by
  have hok := hb.ok
  have hN := hb.2.1
  unfold F_Scn_scan F_Scn_scan_17
  rw [lt_eq, lt_eq, lt_eq]
  refine wp_loop (fun a : Int × Hp => ∃ n : Nat, n ≤ 901 ∧ a.1 = (n : Int) ∧ n ≤ pP f N n ∧ pP f N n ≤ N ∧ a.2 42 8 = (pP f N n : Nat) ∧ (256 ≤ a.2 42 5 ↔ 0 < pP f N n ∧ isLD (f (pP f N n - 1))) ∧ snF s a.2 ∧ ∀ i, i < n → 0 ≤ kd f N (pP f N i) ∧ pP f N i ≤ N ∧ a.2 43 i = kd f N (pP f N i) ∧ a.2 44 i = (st f N (pP f N i) : Nat) ∧ (256 ≤ kd f N (pP f N i) → kd f N (pP f N i) ≠ 281 → a.2 45 i = pk5 (wd f N (pP f N i))) ∧ (kd f N (pP f N i) = 281 → a.2 45 i = nv f N (pP f N i))) (fun a => (1000 - a.1).toNat) ?_ FU _ ?_ ?_
  · intro a K hq ih
    obtain ⟨x, u⟩ := a
    obtain ⟨n, hn, e1, hp1, hp2, h8, h5, hf, hr⟩ := hq
    dsimp only at e1 h8 h5 hf hr ih ⊢
    subst e1
    have hbu : byC u f N := ⟨by rw [hf 1 (by decide) (by decide) (by decide) (by decide)]; exact hb.1, hN, fun j => by rw [hf 2 (by decide) (by decide) (by decide) (by decide)]; exact hb.2.2 j⟩
    unfold F_Scn_scan_17_b F_Scn_scan_81
    rw [if_neg (by omega)]
    refine wp_cl (C_takeNext hbu hp2 h8 h5) (fun _ v hv => ?_)
    obtain ⟨⟨v1, v2, v3, v4, v5⟩, hfv⟩ := hv
    have g : (0 : Int) ≤ (n : Int) ∧ (n : Int) < 901 := by omega
    rw [gd_pos g, lt_eq, gd_pos g, lt_eq, gd_pos g, lt_eq, Int.toNat_natCast, iadd_ok (by omega), lt_eq]
    have e6 : (hset v 43 n (v 42 5)) 42 6 = v 42 6 := by rw [hset_obj _ _ _ _ (by decide)]
    have e7 : (hset (hset v 43 n (v 42 5)) 44 n (v 42 6)) 42 7 = v 42 7 := by rw [hset_obj _ _ _ _ (by decide), hset_obj _ _ _ _ (by decide)]
    rw [e6, e7]
    generalize hw : hset (hset (hset (hset v 43 n (v 42 5)) 44 n (v 42 6)) 45 n (v 42 7)) 42 4 ((n : Int) + 1) = w
    have ev : ∀ i, i ≠ 4 → w 42 i = v 42 i := fun i hi => by
      rw [← hw, hset_get, if_neg (by omega), hset_obj _ _ _ _ (by decide), hset_obj _ _ _ _ (by decide), hset_obj _ _ _ _ (by decide)]
    have e5 := ev 5 (by decide)
    have e8 := ev 8 (by decide)
    rw [e5]
    have hfw : snF s w := fun q a1 a2 a3 a4 => by rw [← hw, hset_obj _ _ _ _ a1, hset_obj _ _ _ _ a4, hset_obj _ _ _ _ a3, hset_obj _ _ _ _ a2, hfv.1 q a1]; exact hf q a1 a2 a3 a4
    have w4 : w 42 4 = (n : Int) + 1 := by rw [← hw, hset_same]
    have w43 : ∀ i, w 43 i = if i = n then v 42 5 else u 43 i := fun i => by rw [← hw, hset_obj _ _ _ _ (by decide), hset_obj _ _ _ _ (by decide), hset_obj _ _ _ _ (by decide), hset_row, hfv.1 43 (by decide)]
    have w44 : ∀ i, w 44 i = if i = n then v 42 6 else u 44 i := fun i => by rw [← hw, hset_obj _ _ _ _ (by decide), hset_obj _ _ _ _ (by decide), hset_row, hset_obj _ _ _ _ (by decide), hfv.1 44 (by decide)]
    have w45 : ∀ i, w 45 i = if i = n then v 42 7 else u 45 i := fun i => by rw [← hw, hset_obj _ _ _ _ (by decide), hset_row, hset_obj _ _ _ _ (by decide), hset_obj _ _ _ _ (by decide), hfv.1 45 (by decide)]
    have rows : ∀ i, i < n + 1 → pP f N i ≤ N ∧ w 43 i = kd f N (pP f N i) ∧ w 44 i = (st f N (pP f N i) : Nat) ∧ (256 ≤ kd f N (pP f N i) → kd f N (pP f N i) ≠ 281 → w 45 i = pk5 (wd f N (pP f N i))) ∧ (kd f N (pP f N i) = 281 → w 45 i = nv f N (pP f N i)) := by
      intro i hi
      rw [w43, w44, w45]
      by_cases e : i = n
      · subst e
        rw [if_pos rfl, if_pos rfl, if_pos rfl]
        exact ⟨hp2, v1, v2, v4, v5⟩
      · rw [if_neg e, if_neg e, if_neg e]
        exact (hr i (by omega)).2
    rw [v1]
    refine wp_if (fun c => ?_) (fun c => ?_)
    · obtain ⟨⟨t1, t2, t3⟩, t4⟩ := tok_en hok hp2 c
      rw [lt_eq]
      refine ih _ ⟨n + 1, by omega, by simp, by show n + 1 ≤ en f N (pP f N n); omega, t2, ?_, ?_, hfw, fun i hi => ?_⟩ (by dsimp only; omega)
      · dsimp only
        rw [e8]; exact v3 c
      · dsimp only
        rw [e5, v1]
        show _ ↔ 0 < en f N (pP f N n) ∧ isLD (f (en f N (pP f N n) - 1))
        rw [t4]
        exact ⟨fun z => ⟨by omega, z⟩, fun z => z.2⟩
      · refine ⟨?_, rows i hi⟩
        by_cases e : i = n
        · rw [e]; exact c
        · exact (hr i (by omega)).1
    · refine wp_ret ⟨⟨n + 1, by rw [w4]; rfl, by omega, by omega, rows, ?_, fun i hi => (hr i (by omega)).1⟩, hfw⟩
      rw [Nat.add_sub_cancel]
      omega
  · refine ⟨0, by omega, rfl, Nat.le_refl _, Nat.zero_le _, ?_, ?_, fun q a1 a2 a3 a4 => ?_, fun i h => absurd h (by omega)⟩
    · dsimp only
      rw [hset_same]; rfl
    · dsimp only
      rw [hset_get, if_neg (by decide), hset_same]
      exact ⟨fun z => absurd z (by decide), fun z => absurd z.1 (Nat.lt_irrefl _)⟩
    · dsimp only
      rw [hset_obj _ _ _ _ a1, hset_obj _ _ _ _ a1, hset_obj _ _ _ _ a1]
  · rw [FU_eq]
    show (1000 - (0 : Int)).toNat < 20000
    omega
end Scan
