/-! what stands in a text: words, numbers, signs by their places -/
section Tok
variable {f : Nat → Int} {N : Nat}
abbrev isLt (c : Int) : Prop := 97 ≤ c ∧ c ≤ 122
abbrev isDg (c : Int) : Prop := 48 ≤ c ∧ c ≤ 57
abbrev isBl (c : Int) : Prop := c = 32 ∨ c = 10
abbrev isLD (c : Int) : Prop := isLt c ∨ isDg c
def skB (f : Nat → Int) (N : Nat) : Nat → Nat → Nat
  | 0, p => p
  | k + 1, p => if p < N ∧ isBl (f p) then skB f N k (p + 1) else p
/-- the first place from p on that is no blank -/
def sk (f : Nat → Int) (N p : Nat) : Nat := skB f N (N - p) p
theorem sk_bl {p : Nat} (h : p < N ∧ isBl (f p)) : sk f N p = sk f N (p + 1) := by
  unfold sk
  have e : N - p = (N - (p + 1)) + 1 := by omega
  rw [e]
  show (if p < N ∧ isBl (f p) then skB f N (N - (p + 1)) (p + 1) else p) = _
  rw [if_pos h]
theorem sk_st {p : Nat} (h : ¬ (p < N ∧ isBl (f p))) : sk f N p = p := by
  unfold sk
  rcases e : N - p with _ | k
  · rfl
  · show (if p < N ∧ isBl (f p) then skB f N k (p + 1) else p) = _
    rw [if_neg h]
theorem sk_spec : ∀ (k p : Nat), p + k = N → (p ≤ sk f N p ∧ sk f N p ≤ N ∧ (∀ q, p ≤ q → q < sk f N p → isBl (f q))) ∧ ¬ (sk f N p < N ∧ isBl (f (sk f N p)))
  | 0, p, h => by
    have : ¬ (p < N ∧ isBl (f p)) := fun z => by omega
    rw [sk_st this]
    exact ⟨⟨Nat.le_refl _, by omega, fun q a b => by omega⟩, this⟩
  | k + 1, p, h => by
    by_cases c : p < N ∧ isBl (f p)
    · rw [sk_bl c]
      obtain ⟨⟨a1, a2, a3⟩, a4⟩ := sk_spec k (p + 1) (by omega)
      refine ⟨⟨by omega, a2, fun q b1 b2 => ?_⟩, a4⟩
      by_cases e : q = p
      · rw [e]; exact c.2
      · exact a3 q (by omega) b2
    · rw [sk_st c]
      exact ⟨⟨Nat.le_refl _, by omega, fun q a b => by omega⟩, c⟩
theorem sk_at {p : Nat} (h : p ≤ N) : (p ≤ sk f N p ∧ sk f N p ≤ N ∧ (∀ q, p ≤ q → q < sk f N p → isBl (f q))) ∧ ¬ (sk f N p < N ∧ isBl (f (sk f N p))) := sk_spec (N - p) p (by omega)
/-- how many stand side by side, k at most -/
def rnB (g : Int → Bool) (f : Nat → Int) (N : Nat) : Nat → Nat → Nat
  | 0, _ => 0
  | k + 1, p => if p < N ∧ g (f p) = true then rnB g f N k (p + 1) + 1 else 0
theorem rnB_spec (g : Int → Bool) : ∀ k p, rnB g f N k p ≤ k ∧ (∀ j, j < rnB g f N k p → p + j < N ∧ g (f (p + j)) = true) ∧ (rnB g f N k p < k → ¬ (p + rnB g f N k p < N ∧ g (f (p + rnB g f N k p)) = true))
  | 0, p => ⟨Nat.le_refl _, fun j h => absurd h (Nat.not_lt_zero _), fun h => absurd h (Nat.not_lt_zero _)⟩
  | k + 1, p => by
    obtain ⟨a1, a2, a3⟩ := rnB_spec g k (p + 1)
    have e : rnB g f N (k + 1) p = if p < N ∧ g (f p) = true then rnB g f N k (p + 1) + 1 else 0 := rfl
    rw [e]
    by_cases c : p < N ∧ g (f p) = true
    · rw [if_pos c]
      refine ⟨by omega, fun j hj => ?_, fun h => ?_⟩
      · by_cases ej : j = 0
        · rw [ej]; exact c
        · obtain ⟨i, rfl⟩ : ∃ i, j = i + 1 := ⟨j - 1, by omega⟩
          have := a2 i (by omega)
          rw [show p + (i + 1) = p + 1 + i by omega]
          exact this
      · have := a3 (by omega)
        rw [show p + (rnB g f N k (p + 1) + 1) = p + 1 + rnB g f N k (p + 1) by omega]
        exact this
    · rw [if_neg c]
      exact ⟨by omega, fun j h => absurd h (Nat.not_lt_zero _), fun _ => c⟩
def ltB (c : Int) : Bool := decide (isLt c)
def dgB (c : Int) : Bool := decide (isDg c)
def rnL (f : Nat → Int) (N q : Nat) : Nat := rnB ltB f N 7 q
def rnD (f : Nat → Int) (N q : Nat) : Nat := rnB dgB f N 5 q
theorem rnL_at (q : Nat) : rnL f N q ≤ 7 ∧ (∀ j, j < rnL f N q → q + j < N ∧ isLt (f (q + j))) ∧ (rnL f N q < 7 → ¬ (q + rnL f N q < N ∧ isLt (f (q + rnL f N q)))) := by
  obtain ⟨a1, a2, a3⟩ := rnB_spec (f := f) (N := N) ltB 7 q
  exact ⟨a1, fun j hj => ⟨(a2 j hj).1, of_decide_eq_true (a2 j hj).2⟩, fun h z => a3 h ⟨z.1, decide_eq_true z.2⟩⟩
theorem rnD_at (q : Nat) : rnD f N q ≤ 5 ∧ (∀ j, j < rnD f N q → q + j < N ∧ isDg (f (q + j))) ∧ (rnD f N q < 5 → ¬ (q + rnD f N q < N ∧ isDg (f (q + rnD f N q)))) := by
  obtain ⟨a1, a2, a3⟩ := rnB_spec (f := f) (N := N) dgB 5 q
  exact ⟨a1, fun j hj => ⟨(a2 j hj).1, of_decide_eq_true (a2 j hj).2⟩, fun h z => a3 h ⟨z.1, decide_eq_true z.2⟩⟩
theorem rnL_pos {q : Nat} (h : q < N) (h2 : isLt (f q)) : 1 ≤ rnL f N q := by
  apply Classical.byContradiction
  intro c
  have e : rnL f N q = 0 := by omega
  have := (rnL_at (f := f) (N := N) q).2.2 (by omega)
  rw [e] at this
  exact this ⟨h, h2⟩
theorem rnD_pos {q : Nat} (h : q < N) (h2 : isDg (f q)) : 1 ≤ rnD f N q := by
  apply Classical.byContradiction
  intro c
  have e : rnD f N q = 0 := by omega
  have := (rnD_at (f := f) (N := N) q).2.2 (by omega)
  rw [e] at this
  exact this ⟨h, h2⟩
/-- the letters from q on, the last one first -/
def wR (f : Nat → Int) (q : Nat) : Nat → List Nat
  | 0 => []
  | k + 1 => (f (q + k) - 96).toNat :: wR f q k
def nR (f : Nat → Int) (q : Nat) : Nat → Int
  | 0 => 0
  | k + 1 => 10 * nR f q k + f (q + k) - 48
theorem wR_len (q : Nat) : ∀ k, (wR f q k).length = k
  | 0 => rfl
  | k + 1 => by
    show (wR f q k).length + 1 = k + 1
    rw [wR_len q k]
theorem wR_dig {q : Nat} : ∀ k, (∀ j, j < k → isLt (f (q + j))) → ndig (wR f q k)
  | 0, _ => fun x hx => by cases hx
  | k + 1, h => fun x hx => by
    have h' : x ∈ (f (q + k) - 96).toNat :: wR f q k := hx
    rcases List.mem_cons.mp h' with e | e
    · have := h k (by omega)
      omega
    · exact wR_dig k (fun j hj => h j (by omega)) x e
theorem nR_rng {q : Nat} : ∀ k, (∀ j, j < k → isDg (f (q + j))) → k ≤ 4 → 0 ≤ nR f q k ∧ nR f q k < 10 ^ k
  | 0, _, _ => by
    show (0 : Int) ≤ 0 ∧ (0 : Int) < 10 ^ 0
    decide
  | k + 1, h, hk => by
    have ih := nR_rng k (fun j hj => h j (by omega)) (by omega)
    have hd := h k (by omega)
    have e : nR f q (k + 1) = 10 * nR f q k + f (q + k) - 48 := rfl
    have ep : (10 : Int) ^ (k + 1) = 10 ^ k * 10 := Int.pow_succ ..
    rw [e, ep]
    omega
/-- a letter or a digit right behind another one -/
abbrev tkg (f : Nat → Int) (q : Nat) : Prop := isLD (f q) ∧ 0 < q ∧ isLD (f (q - 1))
def kdq (f : Nat → Int) (N q : Nat) : Int := if N ≤ q then -1 else if tkg f q then -2 else if isLt (f q) then (if rnL f N q = 7 then -2 else kdW (wR f q (rnL f N q))) else if isDg (f q) then (if rnD f N q = 5 then -2 else 281) else f q
def stq (f : Nat → Int) (N q : Nat) : Nat := if N ≤ q then q else if tkg f q then q else if isLt (f q) then (if rnL f N q = 7 then q + 6 else q) else if isDg (f q) then (if rnD f N q = 5 then q + 4 else q) else q
def enq (f : Nat → Int) (N q : Nat) : Nat := if isLt (f q) then q + rnL f N q else if isDg (f q) then q + rnD f N q else q + 1
def kd (f : Nat → Int) (N p : Nat) : Int := kdq f N (sk f N p)
def st (f : Nat → Int) (N p : Nat) : Nat := stq f N (sk f N p)
def en (f : Nat → Int) (N p : Nat) : Nat := enq f N (sk f N p)
def wd (f : Nat → Int) (N p : Nat) : List Nat := wR f (sk f N p) (rnL f N (sk f N p))
def nv (f : Nat → Int) (N p : Nat) : Int := nR f (sk f N p) (rnD f N (sk f N p))
def okF (f : Nat → Int) : Prop := ∀ k, 0 ≤ f k ∧ f k < 256
/-- what stands at p, case by case -/
theorem tok_cases (hf : okF f) {p : Nat} (hp : p ≤ N) :
    (sk f N p = N ∧ kd f N p = -1 ∧ st f N p = N) ∨
    (sk f N p < N ∧ tkg f (sk f N p) ∧ kd f N p = -2 ∧ st f N p = sk f N p) ∨
    (sk f N p < N ∧ ¬ tkg f (sk f N p) ∧ isLt (f (sk f N p)) ∧ rnL f N (sk f N p) = 7 ∧ kd f N p = -2 ∧ st f N p = sk f N p + 6) ∨
    (sk f N p < N ∧ ¬ tkg f (sk f N p) ∧ isLt (f (sk f N p)) ∧ (1 ≤ rnL f N (sk f N p) ∧ rnL f N (sk f N p) ≤ 6) ∧ kd f N p = kdW (wd f N p) ∧ st f N p = sk f N p ∧ en f N p = sk f N p + rnL f N (sk f N p)) ∨
    (sk f N p < N ∧ ¬ tkg f (sk f N p) ∧ ¬ isLt (f (sk f N p)) ∧ isDg (f (sk f N p)) ∧ rnD f N (sk f N p) = 5 ∧ kd f N p = -2 ∧ st f N p = sk f N p + 4) ∨
    (sk f N p < N ∧ ¬ tkg f (sk f N p) ∧ ¬ isLt (f (sk f N p)) ∧ isDg (f (sk f N p)) ∧ (1 ≤ rnD f N (sk f N p) ∧ rnD f N (sk f N p) ≤ 4) ∧ kd f N p = 281 ∧ st f N p = sk f N p ∧ en f N p = sk f N p + rnD f N (sk f N p)) ∨
    (sk f N p < N ∧ ¬ tkg f (sk f N p) ∧ ¬ isLt (f (sk f N p)) ∧ ¬ isDg (f (sk f N p)) ∧ kd f N p = f (sk f N p) ∧ (0 ≤ kd f N p ∧ kd f N p < 256) ∧ st f N p = sk f N p ∧ en f N p = sk f N p + 1) := by
  have hs := (sk_at (f := f) hp).1
  unfold kd st en kdq stq enq
  by_cases c0 : N ≤ sk f N p
  · rw [if_pos c0, if_pos c0]
    have e : sk f N p = N := by omega
    exact Or.inl ⟨e, rfl, e⟩
  · have c0' : sk f N p < N := by omega
    rw [if_neg c0, if_neg c0]
    by_cases c1 : tkg f (sk f N p)
    · rw [if_pos c1, if_pos c1]
      exact Or.inr (Or.inl ⟨c0', c1, rfl, rfl⟩)
    · rw [if_neg c1, if_neg c1]
      by_cases c2 : isLt (f (sk f N p))
      · rw [if_pos c2, if_pos c2, if_pos c2]
        have h1 := rnL_pos c0' c2
        have h2 := (rnL_at (f := f) (N := N) (sk f N p)).1
        by_cases c3 : rnL f N (sk f N p) = 7
        · rw [if_pos c3, if_pos c3]
          exact Or.inr (Or.inr (Or.inl ⟨c0', c1, c2, c3, rfl, rfl⟩))
        · rw [if_neg c3, if_neg c3]
          exact Or.inr (Or.inr (Or.inr (Or.inl ⟨c0', c1, c2, by omega, rfl, rfl, rfl⟩)))
      · rw [if_neg c2, if_neg c2, if_neg c2]
        by_cases c4 : isDg (f (sk f N p))
        · rw [if_pos c4, if_pos c4, if_pos c4]
          have h1 := rnD_pos c0' c4
          have h2 := (rnD_at (f := f) (N := N) (sk f N p)).1
          by_cases c3 : rnD f N (sk f N p) = 5
          · rw [if_pos c3, if_pos c3]
            exact Or.inr (Or.inr (Or.inr (Or.inr (Or.inl ⟨c0', c1, c2, c4, c3, rfl, rfl⟩))))
          · rw [if_neg c3, if_neg c3]
            exact Or.inr (Or.inr (Or.inr (Or.inr (Or.inr (Or.inl ⟨c0', c1, c2, c4, by omega, rfl, rfl, rfl⟩)))))
        · rw [if_neg c4, if_neg c4, if_neg c4]
          exact Or.inr (Or.inr (Or.inr (Or.inr (Or.inr (Or.inr ⟨c0', c1, c2, c4, rfl, hf _, rfl, rfl⟩)))))
theorem tok_en (hf : okF f) {p : Nat} (hp : p ≤ N) (h : 0 ≤ kd f N p) : (p < en f N p ∧ en f N p ≤ N ∧ sk f N p < en f N p) ∧ (256 ≤ kd f N p ↔ isLD (f (en f N p - 1))) := by
  have hs := (sk_at (f := f) hp).1
  rcases tok_cases hf hp with ⟨a1, a2, a3⟩ | ⟨a1, a2, a3, a4⟩ | ⟨a1, a2, a3, a4, a5, a6⟩ | ⟨a1, a2, a3, a4, a5, a6, a7⟩ | ⟨a1, a2, a3, a4, a5, a6, a7⟩ | ⟨a1, a2, a3, a4, a5, a6, a7, a8⟩ | ⟨a1, a2, a3, a4, a5, a6, a7, a8⟩
  · omega
  · omega
  · omega
  · have h1 := (rnL_at (f := f) (N := N) (sk f N p)).2.1 (rnL f N (sk f N p) - 1) (by omega)
    have hk := kdW_rng (wd f N p)
    have e : sk f N p + (rnL f N (sk f N p) - 1) = en f N p - 1 := by omega
    rw [e] at h1
    exact ⟨⟨by omega, by omega, by omega⟩, ⟨fun _ => Or.inl h1.2, fun _ => by omega⟩⟩
  · omega
  · have h1 := (rnD_at (f := f) (N := N) (sk f N p)).2.1 (rnD f N (sk f N p) - 1) (by omega)
    have e : sk f N p + (rnD f N (sk f N p) - 1) = en f N p - 1 := by omega
    rw [e] at h1
    exact ⟨⟨by omega, by omega, by omega⟩, ⟨fun _ => Or.inr h1.2, fun _ => by omega⟩⟩
  · have e : en f N p - 1 = sk f N p := by omega
    rw [e]
    exact ⟨⟨by omega, by omega, by omega⟩, ⟨fun _ => by omega, fun z => absurd z (fun z => z.elim a3 a4)⟩⟩
theorem wd_ok (hf : okF f) {p : Nat} (hp : p ≤ N) (h : 256 ≤ kd f N p) (h2 : kd f N p ≠ 281) : nmOk (wd f N p) ∧ ndig (wd f N p) ∧ kd f N p = kdW (wd f N p) := by
  rcases tok_cases hf hp with ⟨a1, a2, a3⟩ | ⟨a1, a2, a3, a4⟩ | ⟨a1, a2, a3, a4, a5, a6⟩ | ⟨a1, a2, a3, a4, a5, a6, a7⟩ | ⟨a1, a2, a3, a4, a5, a6, a7⟩ | ⟨a1, a2, a3, a4, a5, a6, a7, a8⟩ | ⟨a1, a2, a3, a4, a5, a6, a7, a8⟩
  · omega
  · omega
  · omega
  · have hd : ndig (wd f N p) := wR_dig _ (fun j hj => ((rnL_at (f := f) (N := N) (sk f N p)).2.1 j hj).2)
    have hl : (wd f N p).length = rnL f N (sk f N p) := wR_len _ _
    exact ⟨⟨by omega, by omega, hd⟩, hd, a5⟩
  · omega
  · omega
  · omega
theorem nv_rng (hf : okF f) {p : Nat} (hp : p ≤ N) (h : kd f N p = 281) : 0 ≤ nv f N p ∧ nv f N p ≤ 9999 := by
  rcases tok_cases hf hp with ⟨a1, a2, a3⟩ | ⟨a1, a2, a3, a4⟩ | ⟨a1, a2, a3, a4, a5, a6⟩ | ⟨a1, a2, a3, a4, a5, a6, a7⟩ | ⟨a1, a2, a3, a4, a5, a6, a7⟩ | ⟨a1, a2, a3, a4, a5, a6, a7, a8⟩ | ⟨a1, a2, a3, a4, a5, a6, a7, a8⟩
  · omega
  · omega
  · omega
  · have := kdW_rng (wd f N p)
    omega
  · omega
  · have hr := nR_rng (f := f) (q := sk f N p) (rnD f N (sk f N p)) (fun j hj => ((rnD_at (f := f) (N := N) (sk f N p)).2.1 j hj).2) a5.2
    have : (10 : Int) ^ (rnD f N (sk f N p)) ≤ 10 ^ 4 := by
      have h5 := a5.2
      generalize rnD f N (sk f N p) = m at h5
      have : m = 0 ∨ m = 1 ∨ m = 2 ∨ m = 3 ∨ m = 4 := by omega
      rcases this with rfl | rfl | rfl | rfl | rfl <;> decide
    have e4 : (10 : Int) ^ 4 = 10000 := by decide
    unfold nv
    omega
  · omega
end Tok
