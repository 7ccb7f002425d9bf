/-! how many rows make the most: one recurrence, whoever is taken first -/
section WaysR
variable {g : Nat → Nat → Int} {W : Nat}
/-- the rows of the most among m -/
def Nw (g : Nat → Nat → Int) (W m : Nat) : Nat := Nm g W (bt m) (bF g W m)
theorem Nm_at {t : Nat} {b : Int} (ht : t < 2 ^ W) (h : bF g W t ≤ b) : Nm g W (bt t) b = if bF g W t = b then Nw g W t else 0 := by
  by_cases e : bF g W t = b
  · rw [if_pos e, ← e]
    rfl
  · rw [if_neg e]
    apply Classical.byContradiction
    intro q
    have := (bF_ok g W t ht).2 b q
    omega
theorem sub2_bt {m v u : Nat} (hv : m.testBit v = true) (hu : m.testBit u = true) (huv : u ≠ v) : bt (m - 2 ^ v - 2 ^ u) = rmv (rmv (bt m) v) u ∧ 2 ^ v + 2 ^ u ≤ m := by
  obtain ⟨h1, h2⟩ := sub_bt hv
  have h3 : (m - 2 ^ v).testBit u = true := by
    have : bt (m - 2 ^ v) u = true := by
      rw [h1]
      exact rmv_at.mpr ⟨hu, huv⟩
    exact this
  obtain ⟨h4, h5⟩ := sub_bt h3
  exact ⟨by rw [h4, h1], by omega⟩
theorem ways_rec (hg : ∀ x y, g x y = g y x) {m v : Nat} (hm : m < 2 ^ W) (hv : v < W) (hb : m.testBit v = true) :
    Nw g W m = (if bF g W (m - 2 ^ v) = bF g W m then Nw g W (m - 2 ^ v) else 0) + sm W (fun u => if bt m u = true ∧ u ≠ v ∧ 0 < g u v then (if bF g W (m - 2 ^ v - 2 ^ u) + g u v = bF g W m then Nw g W (m - 2 ^ v - 2 ^ u) else 0) else 0) ∧
    bF g W (m - 2 ^ v) ≤ bF g W m ∧ ∀ u, u < W → bt m u = true → u ≠ v → 0 < g u v → bF g W (m - 2 ^ v - 2 ^ u) + g u v ≤ bF g W m := by
  obtain ⟨s1, s2⟩ := sub_bt hb
  have T := bF_ok g W m hm
  have pv := Nat.two_pow_pos v
  have le1 : bF g W (m - 2 ^ v) ≤ bF g W m := by
    refine T.2 _ ?_
    have q := (bF_ok g W (m - 2 ^ v) (by omega)).1
    rw [Nm_any hg (S := bt m) (v := v) hv hb, ← s1]
    omega
  have le2 : ∀ u, u < W → bt m u = true → u ≠ v → 0 < g u v → bF g W (m - 2 ^ v - 2 ^ u) + g u v ≤ bF g W m := fun u hu h1 h2 h3 => by
    obtain ⟨r1, r2⟩ := sub2_bt hb h1 h2
    have pu := Nat.two_pow_pos u
    refine T.2 _ ?_
    have q := (bF_ok g W (m - 2 ^ v - 2 ^ u) (by omega)).1
    rw [Nm_any hg (S := bt m) (v := v) hv hb]
    have G := sm_ge (f := fun x => if bt m x = true ∧ x ≠ v ∧ 0 < g x v then Nm g W (rmv (rmv (bt m) v) x) (bF g W (m - 2 ^ v - 2 ^ u) + g u v - g x v) else 0) hu
    rw [if_pos ⟨h1, h2, h3⟩, ← r1, show bF g W (m - 2 ^ v - 2 ^ u) + g u v - g u v = bF g W (m - 2 ^ v - 2 ^ u) by omega] at G
    omega
  refine ⟨?_, le1, le2⟩
  show Nm g W (bt m) (bF g W m) = _
  rw [Nm_any hg (S := bt m) (v := v) hv hb, ← s1, Nm_at (by omega) le1]
  congr 1
  refine sm_congr (fun u hu => ?_)
  by_cases c : bt m u = true ∧ u ≠ v ∧ 0 < g u v
  · rw [if_pos c, if_pos c]
    obtain ⟨r1, r2⟩ := sub2_bt hb c.1 c.2.1
    have pu := Nat.two_pow_pos u
    rw [← s1] at r1
    have l2 := le2 u hu c.1 c.2.1 c.2.2
    rw [← r1, Nm_at (by omega) (by omega)]
    by_cases e : bF g W (m - 2 ^ v - 2 ^ u) + g u v = bF g W m
    · rw [if_pos e, if_pos (by omega)]
    · rw [if_neg e, if_neg (by omega)]
  · rw [if_neg c, if_neg c]
theorem Nw_0 : Nw g W 0 = 1 ∧ bF g W 0 = 0 := by
  have hp := Nat.two_pow_pos W
  have T := bF_ok g W 0 hp
  have e : ∀ n k, Nm g n (bt 0) k = if k = 0 then 1 else 0 := by
    intro n
    induction n with
    | zero => intro k; rfl
    | succ n ih =>
      intro k
      rw [Nm_out (by unfold bt; simp), ih]
  have z : bF g W 0 = 0 := by
    apply Classical.byContradiction
    intro c
    have := T.1
    rw [e, if_neg c] at this
    exact this rfl
  refine ⟨?_, z⟩
  unfold Nw
  rw [e, z, if_pos rfl]
/-- capped -/
def cap (x : Nat) : Int := min 1000000000 (x : Int)
theorem cap_add (x y : Nat) : min 1000000000 (cap x + cap y) = cap (x + y) := by
  unfold cap
  omega
theorem cap_rng (x : Nat) : 0 ≤ cap x ∧ cap x ≤ 1000000000 := by
  unfold cap
  omega
end WaysR
