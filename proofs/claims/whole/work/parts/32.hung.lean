/-! ASSIGNMENTS: the invariant of the class's search, as numbers alone -/
def lss (w : Nat → Nat → Int) (u v : Nat → Int) (i : Int) (j : Nat) : Int := -(w i.toNat j) - u i.toNat - v j
def wOk (w : Nat → Nat → Int) : Prop := ∀ i j, 0 ≤ w i j ∧ w i j ≤ 119998
/-- who stands where: the rows below r, each at one column -/
def RA (W r : Nat) (ra : Nat → Int) : Prop := (∀ j, 1 ≤ j → j ≤ W → 0 ≤ ra j ∧ ra j < r) ∧ (∀ i j, 1 ≤ i → i ≤ W → 1 ≤ j → j ≤ W → i ≠ j → ra i ≠ 0 → ra i ≠ ra j) ∧ sm W (fun j => if ra (j + 1) = 0 then 0 else 1) + 1 = r
def HP (w : Nat → Nat → Int) (W r : Nat) (u v ra : Nat → Int) : Prop := RA W r ra ∧ (∀ i j, 1 ≤ i → i < r → 1 ≤ j → j ≤ W → w i j + u i + v j ≤ 0) ∧
  (∀ j, 1 ≤ j → j ≤ W → ra j ≠ 0 → lss w u v (ra j) j = 0) ∧ (∀ j, 1 ≤ j → j ≤ W → v j ≤ 0 ∧ -119998 * ((r : Int) - 1) ≤ v j ∧ (ra j = 0 → v j = 0)) ∧ ∀ i, r ≤ i → i ≤ W → u i = 0
/-- behind k calls of nextColumn: c is the next one -/
def PS (w : Nat → Nat → Int) (W r k : Nat) (u v ra sl bf rc : Nat → Int) (od : Nat → Nat) (c : Nat) : Prop := RA W r ra ∧ r ≤ W ∧ ra 0 = r ∧
  (∀ i j, 1 ≤ i → i ≤ r → (i = r → 1 ≤ k) → 1 ≤ j → j ≤ W → w i j + u i + v j ≤ 0) ∧ (∀ j, 1 ≤ j → j ≤ W → ra j ≠ 0 → lss w u v (ra j) j = 0) ∧
  (∀ j, 1 ≤ j → j ≤ W → v j ≤ 0 ∧ -119998 * ((r : Int) - 1) - (u r + 119998) ≤ v j ∧ (ra j = 0 → v j = 0)) ∧ (∀ i, r < i → i ≤ W → u i = 0) ∧ (-119998 ≤ u r ∧ u r ≤ 0) ∧ (k = 0 → u r = 0 ∧ ∀ j, 1 ≤ j → j ≤ W → -119998 * ((r : Int) - 1) ≤ v j) ∧
  ((∀ j, j ≤ W → rc j = 0 ∨ rc j = 1) ∧ (1 ≤ k → rc 0 = 1) ∧ (∀ j, 1 ≤ j → j ≤ W → rc j = 1 → ra j ≠ 0) ∧ sm (W + 1) (fun j => if rc j = 0 then 0 else 1) = k) ∧
  (∀ j, 1 ≤ j → j ≤ W → rc j = 0 → (∀ q, q ≤ W → rc q = 1 → sl j ≤ lss w u v (ra q) j) ∧ ((k = 0 ∧ sl j = 1000000000) ∨ (1 ≤ k ∧ ∃ q : Nat, q ≤ W ∧ bf j = q ∧ rc q = 1 ∧ sl j = lss w u v (ra q) j))) ∧
  ((∀ j, 1 ≤ j → j ≤ W → rc j = 1 → ∃ q : Nat, q ≤ W ∧ bf j = q ∧ rc q = 1 ∧ od q < od j ∧ lss w u v (ra q) j = 0) ∧ od 0 = 0 ∧ ∀ j, j ≤ W → rc j = 1 → od j < k) ∧
  c ≤ W ∧ rc c = 0 ∧ (k = 0 → c = 0) ∧ (1 ≤ k → 1 ≤ c ∧ sl c = 0)
section Hung
variable {w : Nat → Nat → Int} {W r k c : Nat} {u v ra sl bf rc : Nat → Int} {od : Nat → Nat}
theorem sm_one {n : Nat} : sm n (fun _ => 1) = n := by
  induction n with
  | zero => rfl
  | succ n ih => show sm n (fun _ => 1) + 1 = n + 1; rw [ih]
/-- some column stands free -/
theorem RA.free (h : RA W r ra) (hr : r ≤ W) : ∃ j, 1 ≤ j ∧ j ≤ W ∧ ra j = 0 := by
  apply Classical.byContradiction
  intro hn
  have e : sm W (fun j => if ra (j + 1) = 0 then 0 else 1) = sm W (fun _ => 1) := sm_congr (fun j hj => if_neg (fun z => hn ⟨j + 1, by omega, by omega, z⟩))
  have h2 := h.2.2
  rw [e, sm_one] at h2
  omega
theorem PS.free (h : PS w W r k u v ra sl bf rc od c) : ∃ j, 1 ≤ j ∧ j ≤ W ∧ ra j = 0 ∧ rc j = 0 := by
  obtain ⟨hR, hrW, h0, hf, ht, hv, hu, hD, hD0, ⟨hc1, hc2, hc3, hc4⟩, hs, htr, hc⟩ := h
  obtain ⟨j, h1, h2, h3⟩ := hR.free hrW
  refine ⟨j, h1, h2, h3, ?_⟩
  rcases hc1 j h2 with h | h
  · exact h
  · exact absurd h3 (hc3 j h1 h2 h)
theorem PS.kW (h : PS w W r k u v ra sl bf rc od c) : k ≤ W := by
  obtain ⟨j, h1, h2, h3, h4⟩ := h.free
  obtain ⟨hR, hrW, h0, hf, ht, hv, hu, hD, hD0, ⟨hc1, hc2, hc3, hc4⟩, hs, htr, hc⟩ := h
  have e : sm (W + 1) (fun j => if rc j = 0 then 0 else 1) ≤ W := by
    rw [sm_pick (v := j) (by omega), if_pos h4, Nat.zero_add]
    have : sm (W + 1) (fun x => if x = j then 0 else if rc x = 0 then 0 else 1) + 1 ≤ sm (W + 1) (fun _ => 1) := by
      rw [sm_pick (f := fun _ => 1) (v := j) (by omega)]
      have hle : ∀ n, sm n (fun x => if x = j then 0 else if rc x = 0 then 0 else 1) ≤ sm n (fun u => if u = j then 0 else 1) := by
        intro n
        induction n with
        | zero => exact Nat.le_refl _
        | succ n ih =>
          show sm n _ + (if n = j then 0 else if rc n = 0 then 0 else 1) ≤ sm n _ + (if n = j then 0 else 1)
          split
          · omega
          · split <;> omega
      have := hle (W + 1)
      omega
    rw [sm_one] at this
    omega
  omega
/-- one more call: c reached, the slacks looked at, prices shifted by the least -/
theorem PS_next (hw : wOk w) (hW12 : W ≤ 12) (h : PS w W r k u v ra sl bf rc od c) (hc : ra c ≠ 0) {u2 v2 sl1 sl2 bf1 rc1 : Nat → Int} {nx : Nat} {D : Int}
    (hrc : ∀ j, j ≤ W → rc1 j = if j = c then 1 else rc j)
    (hsl : ∀ j, 1 ≤ j → j ≤ W → rc1 j = 0 → sl1 j = if sl j ≤ lss w u v (ra c) j then sl j else lss w u v (ra c) j)
    (hbf : ∀ j, 1 ≤ j → j ≤ W → bf1 j = if rc1 j = 0 ∧ ¬ sl j ≤ lss w u v (ra c) j then (c : Int) else bf j)
    (hnx : 1 ≤ nx ∧ nx ≤ W ∧ rc1 nx = 0 ∧ sl1 nx = D) (hD : ∀ j, 1 ≤ j → j ≤ W → rc1 j = 0 → D ≤ sl1 j)
    (hu2 : ∀ i : Nat, 1 ≤ i → ((∃ j, j ≤ W ∧ rc1 j = 1 ∧ ra j = i) → u2 i = u i + D) ∧ ((¬ ∃ j, j ≤ W ∧ rc1 j = 1 ∧ ra j = i) → u2 i = u i))
    (hv2 : ∀ j, 1 ≤ j → j ≤ W → v2 j = if rc1 j = 0 then v j else v j - D) (hs2 : ∀ j, 1 ≤ j → j ≤ W → rc1 j = 0 → sl2 j = sl1 j - D) :
    PS w W r (k + 1) u2 v2 ra sl2 bf1 rc1 (fun x => if x = c then k else od x) nx := by
  have hfree := h.free
  obtain ⟨hR, hrW, h0, hf, ht, hv, hu, hDD, hD0, ⟨hc1, hc2, hc3, hc4⟩, hs, ⟨tr1, tr2, tr3⟩, hcW, hcc, hck0, hck1⟩ := h
  have hr1 : 1 ≤ r := by have := hR.2.2; omega
  have rcc : rc1 c = 1 := by rw [hrc c hcW, if_pos rfl]
  have rc01 : ∀ j, j ≤ W → rc1 j = 0 ∨ rc1 j = 1 := fun j hj => by
    rw [hrc j hj]
    split
    · exact Or.inr rfl
    · exact hc1 j hj
  have rcold : ∀ j, j ≤ W → rc1 j = 0 → rc j = 0 := fun j hj h1 => by
    rw [hrc j hj] at h1
    split at h1
    · cases h1
    · exact h1
  have rcor : ∀ j, j ≤ W → rc1 j = 1 → j = c ∨ rc j = 1 := fun j hj h1 => by
    rw [hrc j hj] at h1
    split at h1
    · rename_i e; exact Or.inl e
    · exact Or.inr h1
  have rcup : ∀ j, j ≤ W → rc j = 1 → rc1 j = 1 := fun j hj h1 => by
    rw [hrc j hj]
    split
    · rfl
    · exact h1
  have rc0 : rc1 0 = 1 := by
    by_cases e : k = 0
    · rw [hrc 0 (by omega), if_pos (hck0 e).symm]
    · exact rcup 0 (by omega) (hc2 (by omega))
  -- rows of reached columns
  have rar : ∀ j, j ≤ W → rc1 j = 1 → 1 ≤ ra j ∧ ra j ≤ r := fun j hj h1 => by
    by_cases e : j = 0
    · subst e; rw [h0]; omega
    · have h2 := hR.1 j (by omega) hj
      have h3 : ra j ≠ 0 := by
        rcases rcor j hj h1 with e1 | e1
        · rw [e1]; exact hc
        · exact hc3 j (by omega) hj e1
      omega
  have up : ∀ j, j ≤ W → rc1 j = 1 → u2 (ra j).toNat = u (ra j).toNat + D := fun j hj h1 => by
    have h2 := rar j hj h1
    exact (hu2 (ra j).toNat (by omega)).1 ⟨j, hj, h1, by omega⟩
  have ur : u2 r = u r + D := by
    have := up 0 (by omega) rc0
    rw [h0] at this
    exact this
  -- the new slacks
  have sl1le : ∀ j, 1 ≤ j → j ≤ W → rc1 j = 0 → ∀ q, q ≤ W → rc1 q = 1 → sl1 j ≤ lss w u v (ra q) j := fun j h1 h2 h3 q hq h4 => by
    rw [hsl j h1 h2 h3]
    rcases rcor q hq h4 with e | e
    · subst e
      split <;> omega
    · have := (hs j h1 h2 (rcold j h2 h3)).1 q hq e
      split <;> omega
  have sl1at : ∀ j, 1 ≤ j → j ≤ W → rc1 j = 0 → ∃ q : Nat, q ≤ W ∧ bf1 j = q ∧ rc1 q = 1 ∧ sl1 j = lss w u v (ra q) j := fun j h1 h2 h3 => by
    by_cases e : sl j ≤ lss w u v (ra c) j
    · rw [hbf j h1 h2, hsl j h1 h2 h3, if_pos e, if_neg (fun z => z.2 e)]
      rcases (hs j h1 h2 (rcold j h2 h3)).2 with ⟨e1, e2⟩ | ⟨e1, q, g1, g2, g3, g4⟩
      · exfalso
        have hc0 := hck0 e1
        have h9 := hv j h1 h2
        have hw9 := hw r j
        rw [e2] at e
        unfold lss at e
        rw [hc0, h0] at e
        have hur := (hD0 e1).1
        have e : (1000000000 : Int) ≤ -(w r j) - u r - v j := e
        have hr13 : (r : Int) - 1 ≤ r := by omega
        omega
      · exact ⟨q, g1, g2, rcup q g1 g3, g4⟩
    · rw [hbf j h1 h2, hsl j h1 h2 h3, if_neg e, if_pos ⟨h3, e⟩]
      exact ⟨c, hcW, rfl, rcc, rfl⟩
  -- the least is no less than 0 but at the first call
  have Dnn : 1 ≤ k → 0 ≤ D := fun hk => by
    obtain ⟨q, g1, g2, g3, g4⟩ := sl1at nx hnx.1 hnx.2.1 hnx.2.2.1
    have h2 := rar q g1 g3
    have h3 := hf (ra q).toNat nx (by omega) (by omega) (fun _ => hk) hnx.1 hnx.2.1
    rw [hnx.2.2.2] at g4
    unfold lss at g4
    omega
  have only0 : k = 0 → ∀ j, 1 ≤ j → j ≤ W → rc1 j = 0 := fun hk j h1 h2 => by
    rcases rc01 j h2 with e | e
    · exact e
    · exfalso
      rcases rcor j h2 e with e1 | e1
      · have := hck0 hk; omega
      · have hz : sm (W + 1) (fun j => if rc j = 0 then 0 else 1) = 0 := by rw [hc4, hk]
        have := sm_ge (f := fun j => if rc j = 0 then 0 else 1) (v := j) (n := W + 1) (by omega)
        rw [hz] at this
        have this : (if rc j = 0 then 0 else 1) ≤ 0 := this
        rw [if_neg (by rw [e1]; decide)] at this
        omega
  have DB : -119998 ≤ u r + D ∧ u r + D ≤ 0 := by
    constructor
    · by_cases hk : k = 0
      · obtain ⟨q, g1, g2, g3, g4⟩ := sl1at nx hnx.1 hnx.2.1 hnx.2.2.1
        have eq0 : q = 0 := by
          apply Decidable.byContradiction
          intro hq
          have := only0 hk q (by omega) g1
          rw [this] at g3
          cases g3
        subst eq0
        rw [hnx.2.2.2, h0] at g4
        have h9 := hv nx hnx.1 hnx.2.1
        have hw9 := hw r nx
        have g4 : D = -(w r nx) - u r - v nx := g4
        omega
      · have := Dnn (by omega)
        omega
    · obtain ⟨j, f1, f2, f3, f4⟩ := hfree
      have hj : rc1 j = 0 := by
        rcases rc01 j f2 with e | e
        · exact e
        · have := rar j f2 e
          omega
      have h2 := hD j f1 f2 hj
      have h3 := sl1le j f1 f2 hj 0 (by omega) rc0
      rw [h0] at h3
      have h3 : sl1 j ≤ -(w r j) - u r - v j := h3
      have h4 := (hv j f1 f2).2.2 f3
      have hw9 := hw r j
      omega
  -- losses behind the shift
  have l11 : ∀ q j, q ≤ W → rc1 q = 1 → 1 ≤ j → j ≤ W → rc1 j = 1 → lss w u2 v2 (ra q) j = lss w u v (ra q) j := fun q j h1 h2 h3 h4 h5 => by
    unfold lss
    rw [up q h1 h2, hv2 j h3 h4, if_neg (by rw [h5]; decide)]
    omega
  have l10 : ∀ q j, q ≤ W → rc1 q = 1 → 1 ≤ j → j ≤ W → rc1 j = 0 → lss w u2 v2 (ra q) j = lss w u v (ra q) j - D := fun q j h1 h2 h3 h4 h5 => by
    unfold lss
    rw [up q h1 h2, hv2 j h3 h4, if_pos h5]
    omega
  refine ⟨hR, hrW, h0, ?_, ?_, ?_, ?_, by rw [ur]; exact DB, fun z => absurd z (by omega), ⟨rc01, fun _ => rc0, ?_, ?_⟩, ?_, ⟨?_, ?_, ?_⟩, hnx.2.1, hnx.2.2.1, fun z => absurd z (by omega), fun _ => ⟨hnx.1, ?_⟩⟩
  · intro i j h1 h2 _ h4 h5
    by_cases ei : ∃ q, q ≤ W ∧ rc1 q = 1 ∧ ra q = i
    · obtain ⟨q, g1, g2, g3⟩ := ei
      have e1 := (hu2 i h1).1 ⟨q, g1, g2, g3⟩
      rcases rc01 j h5 with e | e
      · have h9 := sl1le j h4 h5 e q g1 g2
        have h8 := hD j h4 h5 e
        unfold lss at h9
        rw [g3] at h9
        have h9 : sl1 j ≤ -(w i j) - u i - v j := h9
        rw [e1, hv2 j h4 h5, if_pos e]
        omega
      · have hk : 1 ≤ k := by
          apply Decidable.byContradiction
          intro hk
          have := only0 (by omega) j h4 h5
          rw [this] at e
          cases e
        have h9 := hf i j h1 h2 (fun _ => hk) h4 h5
        rw [e1, hv2 j h4 h5, if_neg (by rw [e]; decide)]
        omega
    · have e1 := (hu2 i h1).2 ei
      have hir : i ≠ r := fun e => ei ⟨0, by omega, rc0, by rw [h0, e]⟩
      have h9 := hf i j h1 h2 (fun e => absurd e hir) h4 h5
      rw [e1, hv2 j h4 h5]
      split
      · omega
      · rename_i e
        have hk : 1 ≤ k := by
          apply Decidable.byContradiction
          intro hk
          exact e (only0 (by omega) j h4 h5)
        have := Dnn hk
        omega
  · intro j h1 h2 h3
    rcases rc01 j h2 with e | e
    · have hn : ¬ ∃ q, q ≤ W ∧ rc1 q = 1 ∧ ra q = ((ra j).toNat : Nat) := by
        rintro ⟨q, g1, g2, g3⟩
        have h9 := hR.1 j h1 h2
        have g3 : ra q = ra j := by omega
        by_cases eq : q = 0
        · rw [eq, h0] at g3
          omega
        · by_cases ej : q = j
          · rw [ej, e] at g2
            cases g2
          · exact hR.2.1 j q h1 h2 (by omega) g1 (fun z => ej z.symm) h3 g3.symm
      have e1 := (hu2 (ra j).toNat (by have := hR.1 j h1 h2; omega)).2 hn
      unfold lss
      rw [e1, hv2 j h1 h2, if_pos e]
      exact ht j h1 h2 h3
    · rw [l11 j j h2 e h1 h2 e]
      exact ht j h1 h2 h3
  · intro j h1 h2
    have h9 := hv j h1 h2
    rw [hv2 j h1 h2, ur]
    rcases rc01 j h2 with e | e
    · rw [if_pos e]
      refine ⟨h9.1, ?_, h9.2.2⟩
      by_cases hk : k = 0
      · have h8 := (hD0 hk).2 j h1 h2
        omega
      · have := Dnn (by omega)
        omega
    · have hk : 1 ≤ k := by
        apply Decidable.byContradiction
        intro hk
        have := only0 (by omega) j h1 h2
        rw [this] at e
        cases e
      have hd := Dnn hk
      rw [if_neg (by rw [e]; decide)]
      refine ⟨by omega, by omega, fun z => ?_⟩
      have := rar j h2 e
      omega
  · intro i hi hiW
    have hn : ¬ ∃ q, q ≤ W ∧ rc1 q = 1 ∧ ra q = i := by
      rintro ⟨q, g1, g2, g3⟩
      have := rar q g1 g2
      omega
    rw [(hu2 i (by omega)).2 hn]
    exact hu i hi hiW
  · intro j h1 h2 h3
    have := rar j h2 h3
    omega
  · rw [sm_pick (v := c) (by omega), if_neg (by rw [rcc]; decide)]
    have e : sm (W + 1) (fun x => if x = c then 0 else if rc1 x = 0 then 0 else 1) = sm (W + 1) (fun x => if rc x = 0 then 0 else 1) := by
      apply sm_congr
      intro x hx
      by_cases e : x = c
      · rw [if_pos e, e, if_pos hcc]
      · rw [if_neg e, hrc x (by omega), if_neg e]
    rw [e, hc4]
    omega
  · intro j h1 h2 h3
    refine ⟨fun q hq h4 => ?_, Or.inr ⟨by omega, ?_⟩⟩
    · rw [hs2 j h1 h2 h3, l10 q j hq h4 h1 h2 h3]
      have := sl1le j h1 h2 h3 q hq h4
      omega
    · obtain ⟨q, g1, g2, g3, g4⟩ := sl1at j h1 h2 h3
      refine ⟨q, g1, g2, g3, ?_⟩
      rw [hs2 j h1 h2 h3, l10 q j g1 g3 h1 h2 h3, g4]
  · intro j h1 h2 h3
    rcases rcor j h2 h3 with e | e
    · subst e
      have hk : 1 ≤ k := by
        apply Decidable.byContradiction
        intro hk
        have := hck0 (by omega)
        omega
      rcases (hs j h1 h2 hcc).2 with ⟨e1, _⟩ | ⟨_, q, g1, g2, g3, g4⟩
      · omega
      · have hq : q ≠ j := fun z => by rw [z, hcc] at g3; cases g3
        refine ⟨q, g1, ?_, rcup q g1 g3, ?_, ?_⟩
        · rw [hbf j h1 h2, if_neg (fun z => by have z1 := z.1; rw [rcc] at z1; cases z1)]
          exact g2
        · show (if q = j then k else od q) < if j = j then k else od j
          rw [if_neg hq, if_pos rfl]
          exact tr3 q g1 g3
        · rw [l11 q j g1 (rcup q g1 g3) h1 h2 rcc, ← g4]
          exact (hck1 hk).2
    · have hjc : j ≠ c := fun z => by rw [z, hcc] at e; cases e
      obtain ⟨q, g1, g2, g3, g4, g5⟩ := tr1 j h1 h2 e
      have hq : q ≠ c := fun z => by rw [z, hcc] at g3; cases g3
      refine ⟨q, g1, ?_, rcup q g1 g3, ?_, ?_⟩
      · rw [hbf j h1 h2, if_neg (fun z => by have z1 := z.1; rw [h3] at z1; cases z1)]
        exact g2
      · show (if q = c then k else od q) < if j = c then k else od j
        rw [if_neg hq, if_neg hjc]
        exact g4
      · rw [l11 q j g1 (rcup q g1 g3) h1 h2 h3]
        exact g5
  · show (if 0 = c then k else od 0) = 0
    split
    · rename_i e
      apply Decidable.byContradiction
      intro hk
      have := hck1 (by omega)
      omega
    · exact tr2
  · intro j h1 h2
    show (if j = c then k else od j) < k + 1
    split
    · omega
    · rename_i e
      have := tr3 j h1 ((rcor j h1 h2).resolve_left e)
      omega
  · rw [hs2 nx hnx.1 hnx.2.1 hnx.2.2.1, hnx.2.2.2]
    omega
end Hung
