/-! SHORTEST PATHS over all as steps between: what they come to -/
def fwS (I : Int) (D : Nat → Nat → Int) (k a b : Nat) : Int := if D a k < I ∧ D k b < I ∧ D a k + D k b < D a b then D a k + D k b else D a b
def FWn (I : Int) (w : Nat → Nat → Int) : Nat → Nat → Nat → Int
  | 0 => w
  | k + 1 => fwS I (FWn I w k) k
theorem FWn_succ (I : Int) (w : Nat → Nat → Int) (k a b : Nat) : FWn I w (k + 1) a b = fwS I (FWn I w k) k a b := rfl
theorem fwS_le (I : Int) (D : Nat → Nat → Int) (k a b : Nat) : fwS I D k a b ≤ D a b := by
  unfold fwS
  split <;> omega
theorem FWn_mono (I : Int) (w : Nat → Nat → Int) (a b : Nat) : ∀ {k m : Nat}, k ≤ m → FWn I w m a b ≤ FWn I w k a b := by
  intro k m h
  induction m with
  | zero => rw [show k = 0 by omega]; exact Int.le_refl _
  | succ m ih =>
    by_cases e : k = m + 1
    · rw [e]; exact Int.le_refl _
    · exact Int.le_trans (fwS_le I _ m a b) (ih (by omega))
/-- what lies below twice the edges and keeps the triangle lies below twice the paths -/
theorem FW_low {I J : Int} {w e : Nat → Nat → Int} {n : Nat} (h1 : ∀ a b, a < n → b < n → w a b < I → e a b < J ∧ e a b ≤ 2 * w a b) (h2 : ∀ a k b, a < n → k < n → b < n → e a k < J → e k b < J → e a b < J ∧ e a b ≤ e a k + e k b) (hw : ∀ a b, w a b ≤ I) :
    ∀ k, k ≤ n → ∀ a b, a < n → b < n → FWn I w k a b < I → e a b < J ∧ e a b ≤ 2 * FWn I w k a b
  | 0, _, a, b, ha, hb, h => h1 a b ha hb h
  | k + 1, hk, a, b, ha, hb, h => by
    have ih := FW_low h1 h2 hw k (by omega)
    rw [FWn_succ] at h ⊢
    unfold fwS at h ⊢
    split
    · rename_i c
      have e1 := ih a k ha (by omega) c.1
      have e2 := ih k b (by omega) hb c.2.1
      have e3 := h2 a k b ha (by omega) hb e1.1 e2.1
      exact ⟨e3.1, by omega⟩
    · rename_i c
      rw [if_neg c] at h
      exact ih a b ha hb h
def cnF (I : Int) (D : Nat → Nat → Int) (k a b : Nat) : Nat := sm k (fun j => if D a j < I ∧ D j b < I then 1 else 0)
theorem cnF_le (I : Int) (D : Nat → Nat → Int) (a b : Nat) : ∀ k, cnF I D k a b ≤ k
  | 0 => Nat.le_refl _
  | k + 1 => by
    have := cnF_le I D a b k
    show cnF I D k a b + (if D a k < I ∧ D k b < I then 1 else 0) ≤ k + 1
    split <;> omega
theorem sm_mono {f g : Nat → Nat} : ∀ {n : Nat}, (∀ u, u < n → f u ≤ g u) → sm n f ≤ sm n g
  | 0, _ => Nat.le_refl _
  | n + 1, h => by
    have := sm_mono (n := n) (fun u hu => h u (by omega))
    have := h n (by omega)
    show sm n f + f n ≤ sm n g + g n
    omega
/-- paths as they stand when k are steps between -/
def FWok (I L : Int) (n : Nat) (D : Nat → Nat → Int) (k : Nat) : Prop := (∀ a, a < n → D a a = 0) ∧ (∀ a b, a < n → b < n → D a b ≤ I) ∧
  (∀ a j b, a < n → j < k → b < n → D a j < I → D j b < I → D a b < I ∧ D a b ≤ D a j + D j b) ∧ ∀ a b, a < n → b < n → D a b < I → D a b ≤ L * (1 + (cnF I D k a b : Int))
theorem FW_step {I L : Int} {n k : Nat} {D : Nat → Nat → Int} (hn : n ≤ 24) (hL : 0 ≤ L) (hI : 100 * L < I) (hI0 : 0 < I) (h : FWok I L n D k) (hk : k < n) (hd : ∀ a, a < n → 0 ≤ fwS I D k a a) : FWok I L n (fwS I D k) (k + 1) := by
  obtain ⟨d0, dI, tr, ub⟩ := h
  have dk := d0 k hk
  have small : ∀ a b, a < n → b < n → D a b < I → D a b ≤ 25 * L := fun a b ha hb h => by
    have h1 := ub a b ha hb h
    have h2 := cnF_le I D a b k
    have h3 : L * (1 + (cnF I D k a b : Int)) ≤ L * 25 := Int.mul_le_mul_of_nonneg_left (by omega) hL
    omega
  -- what is finite behind the step
  have fin : ∀ a b, a < n → b < n → (fwS I D k a b < I ↔ (D a b < I ∨ (D a k < I ∧ D k b < I))) := fun a b ha hb => by
    unfold fwS
    constructor
    · intro h
      split at h
      · rename_i c; exact Or.inr ⟨c.1, c.2.1⟩
      · exact Or.inl h
    · rintro (h | ⟨h1, h2⟩)
      · split <;> omega
      · have s1 := small a k ha hk h1
        have s2 := small k b hk hb h2
        split
        · omega
        · rename_i c
          have : ¬ (D a k + D k b < D a b) := fun z => c ⟨h1, h2, z⟩
          omega
  have colk : ∀ a, a < n → fwS I D k a k = D a k := fun a ha => by
    unfold fwS
    rw [if_neg (fun z => by have := z.2.2; omega)]
  have rowk : ∀ b, b < n → fwS I D k k b = D k b := fun b hb => by
    unfold fwS
    rw [if_neg (fun z => by have := z.2.2; omega)]
  have via : ∀ a b, a < n → b < n → D a k < I → D k b < I → fwS I D k a b ≤ D a k + D k b := fun a b ha hb h1 h2 => by
    unfold fwS
    split
    · omega
    · rename_i c
      have : ¬ (D a k + D k b < D a b) := fun z => c ⟨h1, h2, z⟩
      omega
  have val : ∀ a b, fwS I D k a b = D a b ∨ (D a k < I ∧ D k b < I ∧ fwS I D k a b = D a k + D k b) := fun a b => by
    unfold fwS
    split
    · rename_i c; exact Or.inr ⟨c.1, c.2.1, rfl⟩
    · exact Or.inl rfl
  refine ⟨fun a ha => ?_, fun a b ha hb => Int.le_trans (fwS_le I D k a b) (dI a b ha hb), fun a j b ha hj hb h1 h2 => ?_, fun a b ha hb h => ?_⟩
  · have := hd a ha
    have := fwS_le I D k a a
    have := d0 a ha
    omega
  · by_cases ej : j = k
    · subst ej
      rw [colk a ha] at h1 ⊢
      rw [rowk b hb] at h2 ⊢
      exact ⟨(fin a b ha hb).mpr (Or.inr ⟨h1, h2⟩), via a b ha hb h1 h2⟩
    · have hjk : j < k := by omega
      have hjn : j < n := by omega
      have le := fwS_le I D k a b
      rcases val a j with e1 | ⟨p1, p2, e1⟩ <;> rcases val j b with e2 | ⟨q1, q2, e2⟩
      · rw [e1] at h1 ⊢
        rw [e2] at h2 ⊢
        have t := tr a j b ha hjk hb h1 h2
        exact ⟨by omega, by omega⟩
      · rw [e1] at h1 ⊢
        have t := tr a j k ha hjk hk h1 q1
        have v := via a b ha hb t.1 q2
        exact ⟨(fin a b ha hb).mpr (Or.inr ⟨t.1, q2⟩), by omega⟩
      · rw [e2] at h2 ⊢
        have t := tr k j b hk hjk hb p2 h2
        have v := via a b ha hb p1 t.1
        exact ⟨(fin a b ha hb).mpr (Or.inr ⟨p1, t.1⟩), by omega⟩
      · have t := tr k j k hk hjk hk p2 q1
        have v := via a b ha hb p1 q2
        exact ⟨(fin a b ha hb).mpr (Or.inr ⟨p1, q2⟩), by omega⟩
  · have hsum : cnF I (fwS I D k) (k + 1) a b = cnF I (fwS I D k) k a b + (if fwS I D k a k < I ∧ fwS I D k k b < I then 1 else 0) := rfl
    by_cases hab : D a b < I
    · have h1 := ub a b ha hb hab
      have h2 : cnF I D k a b ≤ cnF I (fwS I D k) k a b := sm_mono (fun j hj => by
        by_cases c : D a j < I ∧ D j b < I
        · rw [if_pos c, if_pos ⟨(fin a j ha (by omega)).mpr (Or.inl c.1), (fin j b (by omega) hb).mpr (Or.inl c.2)⟩]
          exact Nat.le_refl _
        · rw [if_neg c]; exact Nat.zero_le _)
      have h3 : L * (1 + (cnF I D k a b : Int)) ≤ L * (1 + (cnF I (fwS I D k) (k + 1) a b : Int)) := Int.mul_le_mul_of_nonneg_left (by omega) hL
      have := fwS_le I D k a b
      omega
    · obtain ⟨p1, p2⟩ := ((fin a b ha hb).mp h).resolve_left hab
      have e : fwS I D k a b = D a k + D k b := by
        rcases val a b with e | e
        · rw [e] at h; exact absurd h hab
        · exact e.2.2
      have u1 := ub a k ha hk p1
      have u2 := ub k b hk hb p2
      have h2 : cnF I D k a k + cnF I D k k b ≤ cnF I (fwS I D k) k a b := by
        unfold cnF
        rw [← sm_add]
        refine sm_mono (fun j hj => ?_)
        by_cases c1 : D a j < I ∧ D j k < I
        · by_cases c2 : D k j < I ∧ D j b < I
          · exact absurd (tr a j b ha hj hb c1.1 c2.2).1 hab
          · show (if D a j < I ∧ D j k < I then 1 else 0) + (if D k j < I ∧ D j b < I then 1 else 0) ≤ _
            rw [if_pos c1, if_neg c2, if_pos ⟨(fin a j ha (by omega)).mpr (Or.inl c1.1), (fin j b (by omega) hb).mpr (Or.inr ⟨c1.2, p2⟩)⟩]
            exact Nat.le_refl _
        · show (if D a j < I ∧ D j k < I then 1 else 0) + (if D k j < I ∧ D j b < I then 1 else 0) ≤ _
          rw [if_neg c1]
          by_cases c2 : D k j < I ∧ D j b < I
          · rw [if_pos c2, if_pos ⟨(fin a j ha (by omega)).mpr (Or.inr ⟨p1, c2.1⟩), (fin j b (by omega) hb).mpr (Or.inl c2.2)⟩]
            exact Nat.le_refl _
          · rw [if_neg c2]; exact Nat.zero_le _
      have h3 : cnF I (fwS I D k) (k + 1) a b = cnF I (fwS I D k) k a b + 1 := by
        rw [hsum, colk a ha, rowk b hb, if_pos ⟨p1, p2⟩]
      have h4 : L * (1 + ((cnF I D k a k : Int)) + (1 + (cnF I D k k b : Int))) ≤ L * (1 + (cnF I (fwS I D k) (k + 1) a b : Int)) := Int.mul_le_mul_of_nonneg_left (by omega) hL
      rw [Int.mul_add] at h4
      omega
/-- where nothing falls below 0 on the way -/
theorem FW_all {I L : Int} {n : Nat} {w : Nat → Nat → Int} (hn : n ≤ 24) (hL : 0 ≤ L) (hI : 100 * L < I) (hI0 : 0 < I) (hw0 : ∀ a, a < n → w a a = 0) (hwI : ∀ a b, a < n → b < n → w a b ≤ I) (hwL : ∀ a b, a < n → b < n → w a b < I → w a b ≤ L)
    {m : Nat} (hd : ∀ k, k ≤ m → ∀ a, a < n → 0 ≤ FWn I w k a a) : ∀ k, k ≤ m → k ≤ n → FWok I L n (FWn I w k) k
  | 0, _, _ => ⟨hw0, hwI, fun a j b _ h => absurd h (by omega), fun a b ha hb h => by
      show w a b ≤ L * (1 + ((0 : Nat) : Int))
      have := hwL a b ha hb h
      simp
      exact this⟩
  | k + 1, h1, h2 => FW_step hn hL hI hI0 (FW_all hn hL hI hI0 hw0 hwI hwL hd k (by omega) (by omega)) (by omega) (fun a ha => hd (k + 1) h1 a ha)
/-- from below: at most doubled a step -/
theorem FW_lb {I L : Int} {n : Nat} {w : Nat → Nat → Int} (hL : 0 ≤ L) (hw : ∀ a b, a < n → b < n → -L ≤ w a b) : ∀ k, k ≤ n → ∀ a b, a < n → b < n → -(L * 2 ^ k) ≤ FWn I w k a b
  | 0, _, a, b, ha, hb => by
    have := hw a b ha hb
    show -(L * 2 ^ 0) ≤ w a b
    simp
    exact this
  | k + 1, hk, a, b, ha, hb => by
    have ih := FW_lb hL hw (I := I) k (by omega)
    have h1 := ih a k ha (by omega)
    have h2 := ih k b (by omega) hb
    have h3 := ih a b ha hb
    have e : L * 2 ^ (k + 1) = L * 2 ^ k + L * 2 ^ k := by rw [Int.pow_succ, ← Int.mul_assoc]; omega
    have p : 0 ≤ L * 2 ^ k := Int.mul_nonneg hL (Int.pow_nonneg (by decide))
    rw [FWn_succ, e]
    unfold fwS
    split <;> omega
