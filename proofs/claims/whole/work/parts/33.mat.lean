/-! ASSIGNMENTS: sums, the class's search by program -/
def si : Nat → (Nat → Int) → Int
  | 0, _ => 0
  | n + 1, f => si n f + f n
theorem si_congr {f f' : Nat → Int} : ∀ {n : Nat}, (∀ u, u < n → f u = f' u) → si n f = si n f'
  | 0, _ => rfl
  | n + 1, h => by
    show si n f + f n = si n f' + f' n
    rw [si_congr (fun u hu => h u (by omega)), h n (by omega)]
theorem si_add {f f' : Nat → Int} : ∀ {n : Nat}, si n (fun u => f u + f' u) = si n f + si n f'
  | 0 => rfl
  | n + 1 => by
    show si n (fun u => f u + f' u) + (f n + f' n) = si n f + f n + (si n f' + f' n)
    rw [si_add]
    omega
theorem si_pick {f : Nat → Int} {v : Nat} : ∀ {n : Nat}, v < n → si n f = f v + si n (fun u => if u = v then 0 else f u)
  | 0, h => absurd h (by omega)
  | n + 1, h => by
    show si n f + f n = f v + (si n (fun u => if u = v then 0 else f u) + if n = v then 0 else f n)
    by_cases e : n = v
    · subst e
      rw [if_pos rfl, si_congr (f' := fun u => if u = n then 0 else f u) (fun u hu => by rw [if_neg (by omega)])]
      omega
    · rw [if_neg e, si_pick (by omega : v < n)]
      omega
theorem si_le {f f' : Nat → Int} : ∀ {n : Nat}, (∀ u, u < n → f u ≤ f' u) → si n f ≤ si n f'
  | 0, _ => Int.le_refl _
  | n + 1, h => by
    have := si_le (n := n) (f := f) (f' := f') (fun u hu => h u (by omega))
    have := h n (by omega)
    show si n f + f n ≤ si n f' + f' n
    omega
theorem si_const {c : Int} : ∀ {n : Nat}, si n (fun _ => c) = c * n
  | 0 => by show (0 : Int) = c * ((0 : Nat) : Int); simp
  | n + 1 => by
    show si n (fun _ => c) + c = c * ((n + 1 : Nat) : Int)
    rw [si_const, Int.natCast_add, Int.mul_add]
    simp
def inIm (p : Nat → Nat) : Nat → Nat → Bool
  | 0, _ => false
  | m + 1, x => p m == x || inIm p m x
theorem inIm_iff {p : Nat → Nat} {x : Nat} : ∀ {m : Nat}, inIm p m x = true ↔ ∃ j, j < m ∧ p j = x
  | 0 => ⟨fun h => (by cases h), fun ⟨j, h, _⟩ => absurd h (by omega)⟩
  | m + 1 => by
    show (p m == x || inIm p m x) = true ↔ _
    rw [Bool.or_eq_true, inIm_iff (m := m)]
    constructor
    · rintro (h | ⟨j, h1, h2⟩)
      · exact ⟨m, by omega, by simpa using h⟩
      · exact ⟨j, by omega, h2⟩
    · rintro ⟨j, h1, h2⟩
      by_cases e : j = m
      · subst e; exact Or.inl (by simpa using h2)
      · exact Or.inr ⟨j, by omega, h2⟩
theorem si_im {p : Nat → Nat} {f : Nat → Int} {n : Nat} : ∀ {m : Nat}, (∀ j, j < m → p j < n) → (∀ i j, i < m → j < m → i ≠ j → p i ≠ p j) → si m (fun j => f (p j)) = si n (fun x => if inIm p m x = true then f x else 0)
  | 0, _, _ => by
    show (0 : Int) = si n (fun x => if false = true then f x else 0)
    rw [si_congr (f' := fun _ => 0) (fun u _ => if_neg (by decide)), si_const]
    simp
  | m + 1, h1, h2 => by
    show si m (fun j => f (p j)) + f (p m) = _
    rw [si_im (m := m) (n := n) (fun j hj => h1 j (by omega)) (fun i j hi hj => h2 i j (by omega) (by omega)), si_pick (v := p m) (f := fun x => if inIm p (m + 1) x = true then f x else 0) (h1 m (by omega)), si_pick (v := p m) (f := fun x => if inIm p m x = true then f x else 0) (h1 m (by omega))]
    have a1 : inIm p (m + 1) (p m) = true := inIm_iff.mpr ⟨m, by omega, rfl⟩
    have a2 : ¬ inIm p m (p m) = true := fun z => by
      obtain ⟨j, g1, g2⟩ := inIm_iff.mp z
      exact h2 j m (by omega) (by omega) (by omega) g2
    rw [if_pos a1, if_neg a2]
    have e : si n (fun u => if u = p m then 0 else if inIm p (m + 1) u = true then f u else 0) = si n (fun u => if u = p m then 0 else if inIm p m u = true then f u else 0) := by
      apply si_congr
      intro u hu
      by_cases e : u = p m
      · rw [if_pos e, if_pos e]
      · rw [if_neg e, if_neg e]
        by_cases e2 : inIm p m u = true
        · obtain ⟨j, g1, g2⟩ := inIm_iff.mp e2
          rw [if_pos e2, if_pos (inIm_iff.mpr ⟨j, by omega, g2⟩)]
        · rw [if_neg e2, if_neg (fun z => by
            obtain ⟨j, g1, g2⟩ := inIm_iff.mp z
            by_cases ej : j = m
            · subst ej; exact e g2.symm
            · exact e2 (inIm_iff.mpr ⟨j, by omega, g2⟩))]
    rw [e]
    omega
def isPerm (n : Nat) (p : Nat → Nat) : Prop := (∀ j, j < n → p j < n) ∧ ∀ i j, i < n → j < n → i ≠ j → p i ≠ p j
theorem si_perm {p : Nat → Nat} {n : Nat} (h : isPerm n p) (f : Nat → Int) : si n (fun j => f (p j)) = si n f := by
  have all : ∀ x, x < n → inIm p n x = true := fun x hx => by
    apply Decidable.byContradiction
    intro hn
    have h1 := si_im (f := fun _ => 1) h.1 h.2
    rw [si_const, si_pick (v := x) (f := fun x => if inIm p n x = true then 1 else 0) hx, if_neg hn] at h1
    have h2 : si n (fun u => if u = x then 0 else if inIm p n u = true then (1 : Int) else 0) ≤ si n (fun u => if u = x then 0 else 1) := si_le (fun u _ => by split <;> (try split) <;> omega)
    have h3 := si_pick (v := x) (f := fun _ => (1 : Int)) hx
    rw [si_const] at h3
    omega
  rw [si_im h.1 h.2]
  exact si_congr (fun u hu => if_pos (all u hu))
/-- v is the greatest sum of an assignment: there is one of it, and prices that show that none is greater -/
def cert (W : Nat) (wt : Nat → Nat → Int) (z : Int) : Prop := (∃ p, isPerm W p ∧ z = si W (fun j => wt (p j) j)) ∧ ∃ U V : Nat → Int, (∀ i j, i < W → j < W → wt i j ≤ U i + V j) ∧ si W U + si W V = z
/-! the class's search -/
theorem J_fill {sh : aSh} {q n : Nat} {v : Int} (hq : iaB sh q = true) (hn : lenOf sh q = n) (hb : n < 10000) (σ : Hp) : wp (F_J_fill_53178 sh q v σ) (fun _ s => (∀ a, a ≠ q → s a = σ a) ∧ ∀ i, i < n → s q i = v) := by
  unfold F_J_fill_53178
  rw [gd_pos hq, hn, lt_eq]
  unfold F_J_fill_53178_5
  refine wp_loop (fun a : Int × Int × Hp => ∃ m : Nat, m ≤ n ∧ a.1 = (m : Int) ∧ a.2.1 = (n : Int) ∧ (∀ x, x ≠ q → a.2.2 x = σ x) ∧ ∀ i, i < m → a.2.2 q i = v) (fun a => ((n : Int) - a.1).toNat) ?_ FU _ ?_ ?_
  · intro a k hp ih
    obtain ⟨x, y, s⟩ := a
    obtain ⟨m, hm, e0, e1, h1, h2⟩ := hp
    dsimp only at e0 e1 h1 h2 ih ⊢
    subst e0 e1
    unfold F_J_fill_53178_5_b
    refine wp_if (fun c => wp_ret ⟨h1, fun i hi => h2 i (by omega)⟩) (fun c => ?_)
    rw [hn, gd_pos (by omega), lt_eq, lt_eq, Int.toNat_natCast, iadd_ok (by omega)]
    refine ih _ ⟨m + 1, by omega, by simp, rfl, fun x hx => by rw [← h1 x hx]; exact hset_obj _ _ _ _ hx, fun i hi => ?_⟩ (by dsimp only; omega)
    show hset s q m v q i = v
    rw [hset_get]
    split
    · rfl
    · exact h2 i (by omega)
  · exact ⟨0, by omega, rfl, rfl, fun _ _ => rfl, fun i hi => absurd hi (by omega)⟩
  · rw [FU_eq]
    show ((n : Int) - 0).toNat < 20000
    omega
section Mat
variable {w : Nat → Nat → Int} {W r : Nat}
def matF (σ s : Hp) : Prop := (∀ q, q < 106 ∨ 111 < q → s q = σ q)
theorem C_shift {s : Hp} {D : Int} (hW : W ≤ 12) (h7 : s 91 7 = W) (hrc : ∀ j, j ≤ W → s 111 j = 0 ∨ s 111 j = 1) (hra : ∀ j, j ≤ W → s 111 j = 1 → 0 ≤ s 108 j ∧ s 108 j ≤ 12)
    (hinj : ∀ i j, i ≤ W → j ≤ W → s 111 i = 1 → s 111 j = 1 → i ≠ j → s 108 i ≠ s 108 j) (hD : -10000000 ≤ D ∧ D ≤ 10000000) (hu : ∀ j, j ≤ W → s 111 j = 1 → -10000000 ≤ s 106 (s 108 j).toNat ∧ s 106 (s 108 j).toNat ≤ 10000000)
    (hv : ∀ j, 1 ≤ j → j ≤ W → -10000000 ≤ s 107 j ∧ s 107 j ≤ 10000000) (hs : ∀ j, 1 ≤ j → j ≤ W → s 111 j = 0 → -10000000 ≤ s 110 j ∧ s 110 j ≤ 1000000000) (h0 : s 111 0 = 1) :
    wp (F_Mat_shiftPrices D s) (fun _ t => (∀ q, q ≠ 106 → q ≠ 107 → q ≠ 110 → t q = s q) ∧ (∀ j, 1 ≤ j → j ≤ W → t 107 j = if s 111 j = 0 then s 107 j else s 107 j - D) ∧ (∀ j, 1 ≤ j → j ≤ W → s 111 j = 0 → t 110 j = s 110 j - D) ∧
      ∀ i : Nat, ((∃ j, j ≤ W ∧ s 111 j = 1 ∧ s 108 j = i) → t 106 i = s 106 i + D) ∧ ((¬ ∃ j, j ≤ W ∧ s 111 j = 1 ∧ s 108 j = i) → t 106 i = s 106 i)) := by
  unfold F_Mat_shiftPrices F_Mat_shiftPrices_2
  refine wp_loop (fun a : Int × Hp => ∃ m : Nat, m ≤ W + 1 ∧ a.1 = (m : Int) ∧ (∀ q, q ≠ 106 → q ≠ 107 → q ≠ 110 → a.2 q = s q) ∧ (∀ j, 1 ≤ j → j ≤ W → a.2 107 j = if s 111 j = 0 ∨ m ≤ j then s 107 j else s 107 j - D) ∧ (∀ j, 1 ≤ j → j ≤ W → s 111 j = 0 → a.2 110 j = if m ≤ j then s 110 j else s 110 j - D) ∧
    ∀ i : Nat, ((∃ j, j < m ∧ s 111 j = 1 ∧ s 108 j = i) → a.2 106 i = s 106 i + D) ∧ ((¬ ∃ j, j < m ∧ s 111 j = 1 ∧ s 108 j = i) → a.2 106 i = s 106 i)) (fun a => (300 - a.1).toNat) ?_ FU _ ?_ ?_
  · intro a k hp ih
    obtain ⟨x, t⟩ := a
    obtain ⟨m, hm, e0, hf, h107, h110, h106⟩ := hp
    dsimp only at e0 hf h107 h110 h106 ih ⊢
    subst e0
    unfold F_Mat_shiftPrices_2_b F_Mat_shiftPrices_57
    rw [hf 91 (by decide) (by decide) (by decide), h7]
    refine wp_if (fun c => ?_) (fun c => ?_)
    · have em : m = W + 1 := by omega
      subst em
      refine wp_ret ⟨hf, fun j h1 h2 => ?_, fun j h1 h2 h3 => ?_, fun i => ?_⟩
      · rw [h107 j h1 h2]
        by_cases e : s 111 j = 0
        · rw [if_pos (Or.inl e), if_pos e]
        · rw [if_neg (fun z => z.elim e (by omega)), if_neg e]
      · rw [h110 j h1 h2 h3, if_neg (by omega)]
      · refine ⟨fun ⟨j, g1, g2, g3⟩ => (h106 i).1 ⟨j, by omega, g2, g3⟩, fun z => (h106 i).2 (fun ⟨j, g1, g2, g3⟩ => z ⟨j, by omega, g2, g3⟩)⟩
    · have hmW : m ≤ W := by omega
      have g13 : (0 : Int) ≤ (m : Int) ∧ (m : Int) < 13 := by omega
      rw [gd_pos g13, Int.toNat_natCast, hf 111 (by decide) (by decide) (by decide), hf 108 (by decide) (by decide) (by decide)]
      refine wp_if (fun c2 => ?_) (fun c2 => ?_)
      · have hm0 : m ≠ 0 := fun z => by rw [z, h0] at c2; cases c2
        rw [gd_pos g13, gd_pos g13, lt_eq, lt_eq, iadd_ok (by omega), h110 m (by omega) hmW c2, if_pos (Nat.le_refl _)]
        have b1 := hs m (by omega) hmW c2
        rw [isub_ok (by omega)]
        refine ih _ ⟨m + 1, by omega, by simp, fun q a1 a2 a3 => by rw [← hf q a1 a2 a3]; exact hset_obj _ _ _ _ a3, fun j h1 h2 => ?_, fun j h1 h2 h3 => ?_, fun i => ?_⟩ (by dsimp only; omega)
        · show hset t 110 m (s 110 m - D) 107 j = _
          rw [hset_obj _ _ _ _ (by decide), h107 j h1 h2]
          by_cases e : j = m
          · subst e
            rw [if_pos (Or.inl c2), if_pos (Or.inl c2)]
          · by_cases e2 : s 111 j = 0 ∨ m ≤ j
            · rw [if_pos e2, if_pos (e2.elim Or.inl (fun z => Or.inr (by omega)))]
            · rw [if_neg e2, if_neg (fun z => e2 (z.elim Or.inl (fun z => Or.inr (by omega))))]
        · show hset t 110 m (s 110 m - D) 110 j = _
          rw [hset_get]
          by_cases e : j = m
          · subst e
            rw [if_pos ⟨rfl, rfl⟩, if_neg (by omega)]
          · rw [if_neg (fun z => e z.2), h110 j h1 h2 h3]
            by_cases e2 : m ≤ j
            · rw [if_pos e2, if_pos (by omega)]
            · rw [if_neg e2, if_neg (by omega)]
        · show ((∃ j, j < m + 1 ∧ s 111 j = 1 ∧ s 108 j = i) → hset t 110 m (s 110 m - D) 106 i = _) ∧ ((¬ ∃ j, j < m + 1 ∧ s 111 j = 1 ∧ s 108 j = i) → hset t 110 m (s 110 m - D) 106 i = _)
          rw [hset_obj _ _ _ _ (by decide)]
          refine ⟨fun ⟨j, g1, g2, g3⟩ => (h106 i).1 ⟨j, ?_, g2, g3⟩, fun z => (h106 i).2 (fun ⟨j, g1, g2, g3⟩ => z ⟨j, by omega, g2, g3⟩)⟩
          by_cases e : j = m
          · subst e; rw [c2] at g2; cases g2
          · omega
      · have r1 : s 111 m = 1 := (hrc m hmW).resolve_left c2
        have hram := hra m hmW r1
        have u1 := hu m hmW r1
        have hno : ¬ ∃ j, j < m ∧ s 111 j = 1 ∧ s 108 j = ((s 108 m).toNat : Nat) := by
          rintro ⟨j, g1, g2, g3⟩
          exact hinj j m (by omega) hmW g2 r1 (by omega) (by omega)
        have u0 := (h106 (s 108 m).toNat).2 hno
        rw [gd_pos g13, gd_pos (by omega), gd_pos (by omega), u0, iadd_ok (by omega), lt_eq, gd_pos g13, gd_pos g13, hset_obj _ _ _ _ (show (107 : Nat) ≠ 106 by decide), lt_eq, lt_eq, iadd_ok (by omega)]
        refine ih _ ⟨m + 1, by omega, by simp, fun q a1 a2 a3 => by rw [← hf q a1 a2 a3]; show hset (hset t 106 _ _) 107 _ _ q = _; rw [hset_obj _ _ _ _ a2, hset_obj _ _ _ _ a1], fun j h1 h2 => ?_, fun j h1 h2 h3 => ?_, fun i => ?_⟩ (by dsimp only; omega)
        · show hset (hset t 106 (s 108 m).toNat (s 106 (s 108 m).toNat + D)) 107 m (isub (t 107 m) D) 107 j = _
          rw [hset_get]
          by_cases e : j = m
          · subst e
            have b1 := hv j h1 h2
            rw [if_pos ⟨rfl, rfl⟩, if_neg (fun z => z.elim c2 (by omega)), h107 j h1 h2, if_pos (Or.inr (Nat.le_refl _)), isub_ok (by omega)]
          · rw [if_neg (fun z => e z.2), hset_obj _ _ _ _ (by decide), h107 j h1 h2]
            by_cases e2 : s 111 j = 0 ∨ m ≤ j
            · rw [if_pos e2, if_pos (e2.elim Or.inl (fun z => Or.inr (by omega)))]
            · rw [if_neg e2, if_neg (fun z => e2 (z.elim Or.inl (fun z => Or.inr (by omega))))]
        · show hset (hset t 106 (s 108 m).toNat (s 106 (s 108 m).toNat + D)) 107 m (isub (t 107 m) D) 110 j = _
          rw [hset_obj _ _ _ _ (by decide), hset_obj _ _ _ _ (by decide), h110 j h1 h2 h3]
          have e : j ≠ m := fun z => by rw [z, r1] at h3; cases h3
          by_cases e2 : m ≤ j
          · rw [if_pos e2, if_pos (by omega)]
          · rw [if_neg e2, if_neg (by omega)]
        · show ((∃ j, j < m + 1 ∧ s 111 j = 1 ∧ s 108 j = i) → hset (hset t 106 (s 108 m).toNat (s 106 (s 108 m).toNat + D)) 107 m (isub (t 107 m) D) 106 i = _) ∧ ((¬ ∃ j, j < m + 1 ∧ s 111 j = 1 ∧ s 108 j = i) → hset (hset t 106 (s 108 m).toNat (s 106 (s 108 m).toNat + D)) 107 m (isub (t 107 m) D) 106 i = _)
          rw [hset_obj _ _ _ _ (by decide), hset_get]
          by_cases e : i = (s 108 m).toNat
          · rw [if_pos ⟨rfl, e⟩, e]
            exact ⟨fun _ => rfl, fun z => absurd ⟨m, by omega, r1, by omega⟩ z⟩
          · rw [if_neg (fun z => e z.2)]
            refine ⟨fun ⟨j, g1, g2, g3⟩ => (h106 i).1 ⟨j, ?_, g2, g3⟩, fun z => (h106 i).2 (fun ⟨j, g1, g2, g3⟩ => z ⟨j, by omega, g2, g3⟩)⟩
            by_cases ej : j = m
            · subst ej; omega
            · omega
  · exact ⟨0, by omega, rfl, fun _ _ _ _ => rfl, fun j h1 h2 => by rw [if_pos (Or.inr (by omega))], fun j h1 h2 h3 => by rw [if_pos (by omega)], fun i => ⟨fun ⟨j, g1, _⟩ => absurd g1 (by omega), fun _ => rfl⟩⟩
  · rw [FU_eq]
    show (300 - (0 : Int)).toNat < 20000
    omega
end Mat
