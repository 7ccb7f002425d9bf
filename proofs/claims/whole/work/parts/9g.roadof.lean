/-! the road of two, looked up by the check -/
section RoadOf
variable {t : Hp} {b : Nat} {d : ND}
theorem M_roadOf (hd : NDok d) (hN : NetB t b d) (h31 : t 0 31 = (b : Int)) {x y : Nat} : wp (F_M_roadOf (x : Int) (y : Int) t) (fun z t' => t' = t ∧ ((rdO d x y (dR d) = -1 ∧ z = -1) ∨ ∃ r : Nat, r < dR d ∧ rdO d x y (dR d) = (r : Int) ∧ z = ((30 * b + r : Nat) : Int))) := by
  obtain ⟨hb, _, h3, _, _, _, hr, _⟩ := hN
  have hR : dR d ≤ 30 := hd.2.1
  have e0 : imul 30 (b : Int) = ((30 * b + 0 : Nat) : Int) := by rw [imul_ok (by omega)]; omega
  unfold F_M_roadOf F_M_roadOf_8
  rw [h31, e0]
  clear e0
  refine wp_lt (wp_loop (fun a => a.2 = t ∧ ∃ i : Nat, a.1 = ((30 * b + i : Nat) : Int) ∧ i ≤ dR d ∧ ∀ q, q < i → ¬ isPr d q x y) (fun a => 60 - a.1.toNat) ?_ _ _ ⟨rfl, 0, rfl, Nat.zero_le _, fun q h => absurd h (Nat.not_lt_zero _)⟩ (by rw [FU_eq]; dsimp only; omega))
  rintro ⟨x3, s1⟩ k ⟨e, i, hi, hiR, hq⟩ hk
  dsimp only at e hi hk ⊢
  subst e hi
  have hb2 : (0 : Int) ≤ (b : Int) ∧ (b : Int) < 2 := by omega
  have e1 : iadd (imul 30 (b : Int)) (dR d : Int) = ((30 * b + dR d : Nat) : Int) := by
    rw [imul_ok (by omega), iadd_ok (by omega)]
    omega
  unfold F_M_roadOf_8_b
  rw [h31, gd_pos hb2, Int.toNat_natCast, h3, e1]
  clear e1
  refine wp_if (fun c => wp_ret ⟨rfl, Or.inl ⟨?_, rfl⟩⟩) (fun c => ?_)
  · have ei : i = dR d := by omega
    subst ei
    rcases rdO_cases d x y (dR d) with ⟨z1, _⟩ | ⟨q, z1, z2, z3⟩
    · exact z1
    · exact absurd z3 (hq q z1)
  have hi : i < dR d := by omega
  have hbd : (0 : Int) ≤ ((30 * b + i : Nat) : Int) ∧ ((30 * b + i : Nat) : Int) < 60 := by omega
  have hri := hr i hi
  have found : isPr d i x y → wp (F_M_roadOf_69 (x : Int) (y : Int) ((30 * b + i : Nat) : Int) s1) (fun z t' => t' = s1 ∧ ((rdO d x y (dR d) = -1 ∧ z = -1) ∨ ∃ r : Nat, r < dR d ∧ rdO d x y (dR d) = (r : Int) ∧ z = ((30 * b + r : Nat) : Int))) := fun hp => by
    unfold F_M_roadOf_69
    exact wp_ret ⟨rfl, Or.inr ⟨i, hi, rdO_of hd hi hp, rfl⟩⟩
  have next : ¬ isPr d i x y → wp (F_M_roadOf_71 k (x : Int) (y : Int) ((30 * b + i : Nat) : Int) s1) (fun z t' => t' = s1 ∧ ((rdO d x y (dR d) = -1 ∧ z = -1) ∨ ∃ r : Nat, r < dR d ∧ rdO d x y (dR d) = (r : Int) ∧ z = ((30 * b + r : Nat) : Int))) := fun hp => by
    have e2 : iadd ((30 * b + i : Nat) : Int) 1 = ((30 * b + (i + 1) : Nat) : Int) := by rw [iadd_ok (by omega)]; omega
    unfold F_M_roadOf_71
    rw [e2]
    clear e2
    refine wp_lt (hk _ ⟨rfl, i + 1, rfl, by omega, fun q hq1 => ?_⟩ (by dsimp only; omega))
    by_cases e : q = i
    · rw [e]; exact hp
    · exact hq q (by omega)
  have other : ¬ (fs d i = x ∧ sn d i = y) → wp (F_M_roadOf_49 k (x : Int) (y : Int) ((30 * b + i : Nat) : Int) s1) (fun z t' => t' = s1 ∧ ((rdO d x y (dR d) = -1 ∧ z = -1) ∨ ∃ r : Nat, r < dR d ∧ rdO d x y (dR d) = (r : Int) ∧ z = ((30 * b + r : Nat) : Int))) := fun hp => by
    unfold F_M_roadOf_49
    refine wp_gd hbd ?_
    rw [Int.toNat_natCast, hri.1]
    refine wp_if (fun c1 => wp_gd hbd ?_) (fun c1 => next ?_)
    · rw [hri.2.1]
      refine wp_if (fun c2 => found (Or.inr ⟨by omega, by omega⟩)) (fun c2 => next ?_)
      rintro (z | z)
      · exact hp z
      · exact c2 (by rw [z.2])
    · rintro (z | z)
      · exact hp z
      · exact c1 (by rw [z.1])
  refine wp_gd hbd ?_
  rw [Int.toNat_natCast, hri.1]
  refine wp_if (fun c1 => wp_gd hbd ?_) (fun c1 => other (fun z => c1 (by rw [z.1])))
  rw [hri.2.1]
  exact wp_if (fun c2 => found (Or.inl ⟨by omega, by omega⟩)) (fun c2 => other (fun z => c2 (by rw [z.2])))
end RoadOf
