/-! MATCHINGS counted by their sums: the count may be taken at any one of the set -/
def sm : Nat → (Nat → Nat) → Nat
  | 0, _ => 0
  | n + 1, f => sm n f + f n
theorem sm_congr {f f' : Nat → Nat} : ∀ {n : Nat}, (∀ u, u < n → f u = f' u) → sm n f = sm n f'
  | 0, _ => rfl
  | n + 1, h => by
    show sm n f + f n = sm n f' + f' n
    rw [sm_congr (fun u hu => h u (by omega)), h n (by omega)]
theorem sm_zero {f : Nat → Nat} : ∀ {n : Nat}, (∀ u, u < n → f u = 0) → sm n f = 0
  | 0, _ => rfl
  | n + 1, h => by
    show sm n f + f n = 0
    rw [sm_zero (fun u hu => h u (by omega)), h n (by omega)]
theorem sm_add {f f' : Nat → Nat} : ∀ {n : Nat}, sm n (fun u => f u + f' u) = sm n f + sm n f'
  | 0 => rfl
  | n + 1 => by
    show sm n (fun u => f u + f' u) + (f n + f' n) = sm n f + f n + (sm n f' + f' n)
    rw [sm_add]
    omega
theorem sm_swap {f : Nat → Nat → Nat} {m : Nat} : ∀ {n : Nat}, sm n (fun u => sm m (fun w => f u w)) = sm m (fun w => sm n (fun u => f u w))
  | 0 => by
    show 0 = sm m (fun w => 0)
    rw [sm_zero (fun _ _ => rfl)]
  | n + 1 => by
    show sm n (fun u => sm m (fun w => f u w)) + sm m (fun w => f n w) = sm m (fun w => sm n (fun u => f u w) + f n w)
    rw [sm_add, sm_swap]
theorem sm_pick {f : Nat → Nat} {v : Nat} : ∀ {n : Nat}, v < n → sm n f = f v + sm n (fun u => if u = v then 0 else f u)
  | 0, h => absurd h (by omega)
  | n + 1, h => by
    show sm n f + f n = f v + (sm n (fun u => if u = v then 0 else f u) + if n = v then 0 else f n)
    by_cases e : n = v
    · subst e
      rw [if_pos rfl, sm_congr (f' := fun u => if u = n then 0 else f u) (fun u hu => by rw [if_neg (by omega)])]
      omega
    · rw [if_neg e, sm_pick (by omega : v < n)]
      omega
theorem sm_pos {f : Nat → Nat} : ∀ {n : Nat}, sm n f ≠ 0 → ∃ u, u < n ∧ f u ≠ 0
  | 0, h => absurd rfl h
  | n + 1, h => by
    have h : sm n f + f n ≠ 0 := h
    by_cases e : f n = 0
    · obtain ⟨u, h1, h2⟩ := sm_pos (n := n) (f := f) (by omega)
      exact ⟨u, by omega, h2⟩
    · exact ⟨n, by omega, e⟩
theorem sm_ge {f : Nat → Nat} {v n : Nat} (h : v < n) : f v ≤ sm n f := by
  rw [sm_pick h]
  omega
def rmv (S : Nat → Bool) (u : Nat) : Nat → Bool := fun x => S x && !(x == u)
theorem rmv_comm (S : Nat → Bool) (u v : Nat) : rmv (rmv S u) v = rmv (rmv S v) u := by
  funext x
  unfold rmv
  cases S x <;> cases x == u <;> cases x == v <;> rfl
theorem rmv_at {S : Nat → Bool} {u x : Nat} : rmv S u x = true ↔ S x = true ∧ x ≠ u := by
  unfold rmv
  simp
def Nm (g : Nat → Nat → Int) : Nat → (Nat → Bool) → Int → Nat
  | 0, _, k => if k = 0 then 1 else 0
  | n + 1, S, k => Nm g n S k + (if S n = true then sm n (fun u => if S u = true ∧ 0 < g u n then Nm g n (rmv S u) (k - g u n) else 0) else 0)
theorem Nm_in {g : Nat → Nat → Int} {n : Nat} {S : Nat → Bool} {k : Int} (h : S n = true) : Nm g (n + 1) S k = Nm g n S k + sm n (fun u => if S u = true ∧ 0 < g u n then Nm g n (rmv S u) (k - g u n) else 0) := by
  show Nm g n S k + (if S n = true then _ else 0) = _
  rw [if_pos h]
theorem Nm_out {g : Nat → Nat → Int} {n : Nat} {S : Nat → Bool} {k : Int} (h : ¬ S n = true) : Nm g (n + 1) S k = Nm g n S k := by
  show Nm g n S k + (if S n = true then _ else 0) = _
  rw [if_neg h, Nat.add_zero]
theorem Nm_congr {g g' : Nat → Nat → Int} : ∀ {n : Nat} {S S' : Nat → Bool} {k : Int}, (∀ x, x < n → S x = S' x) → (∀ x y, x < n → y < n → S x = true → S y = true → g x y = g' x y) → Nm g n S k = Nm g' n S' k
  | 0, _, _, _, _, _ => rfl
  | n + 1, S, S', k, h, hg => by
    have e := h n (by omega)
    by_cases q : S n = true
    · rw [Nm_in q, Nm_in (by rw [← e]; exact q), Nm_congr (fun x hx => h x (by omega)) (fun x y hx hy => hg x y (by omega) (by omega))]
      congr 1
      apply sm_congr
      intro u hu
      rw [h u (by omega)]
      by_cases c : S' u = true
      · rw [hg u n (by omega) (by omega) (by rw [h u (by omega)]; exact c) q]
        by_cases c2 : S' u = true ∧ 0 < g' u n
        · rw [if_pos c2, if_pos c2]
          apply Nm_congr
          · intro x hx
            unfold rmv
            rw [h x (by omega)]
          · intro x y hx hy h1 h2
            exact hg x y (by omega) (by omega) (rmv_at.mp h1).1 (rmv_at.mp h2).1
        · rw [if_neg c2, if_neg c2]
      · rw [if_neg (fun z => c z.1), if_neg (fun z => c z.1)]
    · rw [Nm_out q, Nm_out (by rw [← e]; exact q)]
      exact Nm_congr (fun x hx => h x (by omega)) (fun x y hx hy => hg x y (by omega) (by omega))
theorem Nm_any {g : Nat → Nat → Int} (hg : ∀ x y, g x y = g y x) : ∀ {n : Nat} {S : Nat → Bool} {v : Nat} {k : Int}, v < n → S v = true →
    Nm g n S k = Nm g n (rmv S v) k + sm n (fun u => if S u = true ∧ u ≠ v ∧ 0 < g u v then Nm g n (rmv (rmv S v) u) (k - g u v) else 0)
  | 0, _, _, _, h, _ => absurd h (by omega)
  | n + 1, S, v, k, h, hv => by
    have out : ∀ {T : Nat → Bool} {k' : Int}, ¬ T n = true → Nm g (n + 1) T k' = Nm g n T k' := fun q => Nm_out q
    by_cases e : v = n
    · subst e
      rw [Nm_in hv, out (fun z => (rmv_at.mp z).2 rfl), Nm_congr (S' := rmv S v) (g' := g) (S := S) (fun x hx => by unfold rmv; rw [show (x == v) = false by simpa using (by omega : x ≠ v)]; simp) (fun _ _ _ _ _ _ => rfl)]
      congr 1
      show _ = sm v _ + (if S v = true ∧ v ≠ v ∧ _ then _ else 0)
      rw [if_neg (fun z => z.2.1 rfl), Nat.add_zero]
      apply sm_congr
      intro u hu
      by_cases c : S u = true ∧ 0 < g u v
      · rw [if_pos c, if_pos ⟨c.1, by omega, c.2⟩, out (fun z => (rmv_at.mp (rmv_at.mp z).1).2 rfl), rmv_comm]
        apply Nm_congr
        · intro x hx
          show rmv S u x = rmv (rmv S u) v x
          unfold rmv
          rw [show (x == v) = false by simpa using (by omega : x ≠ v)]
          simp
        · exact fun _ _ _ _ _ _ => rfl
      · rw [if_neg c, if_neg (fun z => c ⟨z.1, z.2.2⟩)]
    · have hvn : v < n := by omega
      by_cases q : S n = true
      · rw [Nm_in q, Nm_any hg hvn hv, sm_pick (v := v) (f := fun u => if S u = true ∧ 0 < g u n then Nm g n (rmv S u) (k - g u n) else 0) hvn, Nm_in (S := rmv S v) (rmv_at.mpr ⟨q, by omega⟩)]
        have e1 : sm n (fun u => if u = v then 0 else if S u = true ∧ 0 < g u n then Nm g n (rmv S u) (k - g u n) else 0)
            = sm n (fun u => (if rmv S v u = true ∧ 0 < g u n then Nm g n (rmv (rmv S v) u) (k - g u n) else 0) + sm n (fun w => if (S u = true ∧ u ≠ v ∧ 0 < g u n) ∧ S w = true ∧ w ≠ v ∧ w ≠ u ∧ 0 < g w v then Nm g n (rmv (rmv (rmv S v) w) u) (k - g u n - g w v) else 0)) := by
          apply sm_congr
          intro u hu
          by_cases c : u = v
          · rw [if_pos c, if_neg (fun z => (rmv_at.mp z.1).2 c), sm_zero (fun w _ => if_neg (fun z => z.1.2.1 c))]
          · rw [if_neg c]
            by_cases c2 : S u = true ∧ 0 < g u n
            · rw [if_pos c2, if_pos ⟨rmv_at.mpr ⟨c2.1, c⟩, c2.2⟩, Nm_any hg hvn (rmv_at.mpr ⟨hv, fun z => c z.symm⟩), rmv_comm S u v]
              congr 1
              apply sm_congr
              intro w hw
              by_cases c3 : S w = true ∧ w ≠ v ∧ w ≠ u ∧ 0 < g w v
              · rw [if_pos ⟨rmv_at.mpr ⟨c3.1, c3.2.2.1⟩, c3.2.1, c3.2.2.2⟩, if_pos ⟨⟨c2.1, c, c2.2⟩, c3⟩, rmv_comm (rmv S v) u w]
              · rw [if_neg (fun z => c3 ⟨(rmv_at.mp z.1).1, z.2.1, (rmv_at.mp z.1).2, z.2.2⟩), if_neg (fun z => c3 z.2)]
            · rw [if_neg c2, if_neg (fun z => c2 ⟨(rmv_at.mp z.1).1, z.2⟩), sm_zero (fun w _ => if_neg (fun z => c2 ⟨z.1.1, z.1.2.2⟩))]
        have e2 : sm (n + 1) (fun u => if S u = true ∧ u ≠ v ∧ 0 < g u v then Nm g (n + 1) (rmv (rmv S v) u) (k - g u v) else 0)
            = sm n (fun w => (if S w = true ∧ w ≠ v ∧ 0 < g w v then Nm g n (rmv (rmv S v) w) (k - g w v) else 0) + sm n (fun u => if (S u = true ∧ u ≠ v ∧ 0 < g u n) ∧ S w = true ∧ w ≠ v ∧ w ≠ u ∧ 0 < g w v then Nm g n (rmv (rmv (rmv S v) w) u) (k - g u n - g w v) else 0))
              + (if S v = true ∧ 0 < g v n then Nm g n (rmv S v) (k - g v n) else 0) := by
          show sm n _ + _ = _
          congr 1
          · apply sm_congr
            intro w hw
            by_cases c : S w = true ∧ w ≠ v ∧ 0 < g w v
            · rw [if_pos c, if_pos c, Nm_in (S := rmv (rmv S v) w) (rmv_at.mpr ⟨rmv_at.mpr ⟨q, by omega⟩, by omega⟩)]
              congr 1
              apply sm_congr
              intro u hu
              by_cases c3 : (S u = true ∧ u ≠ v ∧ 0 < g u n) ∧ w ≠ u
              · rw [if_pos ⟨rmv_at.mpr ⟨rmv_at.mpr ⟨c3.1.1, c3.1.2.1⟩, fun z => c3.2 z.symm⟩, c3.1.2.2⟩, if_pos ⟨c3.1, c.1, c.2.1, c3.2, c.2.2⟩]
                congr 1
                omega
              · rw [if_neg (fun z => c3 ⟨⟨(rmv_at.mp (rmv_at.mp z.1).1).1, (rmv_at.mp (rmv_at.mp z.1).1).2, z.2⟩, fun y => (rmv_at.mp z.1).2 y.symm⟩), if_neg (fun z => c3 ⟨z.1, z.2.2.2.1⟩)]
            · rw [if_neg c, if_neg c, sm_zero (fun u _ => if_neg (fun z => c ⟨z.2.1, z.2.2.1, z.2.2.2.2⟩))]
          · show (if S n = true ∧ n ≠ v ∧ 0 < g n v then Nm g (n + 1) (rmv (rmv S v) n) (k - g n v) else 0) = _
            by_cases c : 0 < g v n
            · rw [if_pos ⟨q, by omega, by rw [hg]; exact c⟩, if_pos ⟨hv, c⟩, out (fun z => (rmv_at.mp z).2 rfl), hg n v]
              apply Nm_congr
              · intro x hx
                show rmv (rmv S v) n x = rmv S v x
                unfold rmv
                rw [show (x == n) = false by simpa using (by omega : x ≠ n)]
                simp
              · exact fun _ _ _ _ _ _ => rfl
            · rw [if_neg (fun z => c (by rw [hg]; exact z.2.2)), if_neg (fun z => c z.2)]
        change Nm g n (rmv S v) k + sm n _ + ((if S v = true ∧ 0 < g v n then Nm g n (rmv S v) (k - g v n) else 0) + sm n (fun u => if u = v then 0 else if S u = true ∧ 0 < g u n then Nm g n (rmv S u) (k - g u n) else 0)) = _
        rw [e1, e2, sm_add, sm_add, sm_swap]
        omega
      · rw [out q, out (fun z => q (rmv_at.mp z).1), Nm_any hg hvn hv]
        congr 1
        show _ = sm n _ + (if S n = true ∧ _ then _ else 0)
        rw [if_neg (fun z => q z.1), Nat.add_zero]
        apply sm_congr
        intro u hu
        rw [out (fun z => q (rmv_at.mp (rmv_at.mp z).1).1)]
/-- the greatest sum that occurs -/
def Top (f : Int → Nat) (b : Int) : Prop := f b ≠ 0 ∧ ∀ k, f k ≠ 0 → k ≤ b
theorem Top_uniq {f : Int → Nat} {a b : Int} (h : Top f a) (h2 : Top f b) : a = b := by
  have := h.2 b h2.1
  have := h2.2 a h.1
  omega
theorem Nm_0 {g : Nat → Nat → Int} : ∀ {n : Nat} {S : Nat → Bool}, Nm g n S 0 ≠ 0
  | 0, _ => by
    show (if (0 : Int) = 0 then 1 else 0) ≠ 0
    rw [if_pos rfl]
    decide
  | n + 1, S => by
    show Nm g n S 0 + _ ≠ 0
    have := Nm_0 (g := g) (n := n) (S := S)
    omega
theorem Nm_nn {g : Nat → Nat → Int} : ∀ {n : Nat} {S : Nat → Bool} {k : Int}, Nm g n S k ≠ 0 → 0 ≤ k
  | 0, _, k, h => by
    by_cases e : k = 0
    · omega
    · exact absurd (show Nm g 0 _ k = 0 from if_neg e) h
  | n + 1, S, k, h => by
    by_cases q : S n = true
    · rw [Nm_in q] at h
      by_cases e : Nm g n S k = 0
      · rw [e, Nat.zero_add] at h
        obtain ⟨u, h1, h2⟩ := sm_pos h
        by_cases c : S u = true ∧ 0 < g u n
        · rw [if_pos c] at h2
          have := Nm_nn h2
          omega
        · rw [if_neg c] at h2
          exact absurd rfl h2
      · exact Nm_nn e
    · rw [Nm_out q] at h
      exact Nm_nn h
