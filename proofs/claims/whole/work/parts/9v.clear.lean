/-! the class: a net made empty -/
section NetClear
variable {s : Hp} {nn : Nat}
theorem C_clear74 (hn : nn = 50 ∨ nn = 4) : wp (F_Net_clear_74 nn FU (0, s)) (fun _ u => (∀ i, i < 144 → u (nn + 35) i = 0) ∧ ∀ q, q ≠ nn + 35 → u q = s q) := by
  unfold F_Net_clear_74
  refine wp_loop (fun a : Int × Hp => ∃ k : Nat, k ≤ 144 ∧ a.1 = (k : Int) ∧ (∀ r, r < k → a.2 (nn + 35) r = 0) ∧ ∀ q, q ≠ nn + 35 → a.2 q = s q) (fun a => (144 - a.1).toNat) ?_ FU _ ?_ ?_
  · intro a K hp ih
    obtain ⟨x, u⟩ := a
    obtain ⟨k, hk, e1, hz, hf⟩ := hp
    dsimp only at e1 hz hf ih ⊢
    subst e1
    unfold F_Net_clear_74_b
    rw [show (Int.ofNat 144 : Int) = 144 from rfl]
    refine wp_if (fun c => wp_ret ⟨fun r hr => hz r (by omega), hf⟩) (fun c => ?_)
    rw [gd_pos (by omega), lt_eq, lt_eq, Int.toNat_natCast, iadd_ok (by omega), z1_eq (Or.inl rfl)]
    refine ih _ ⟨k + 1, by omega, by simp, fun r hr => ?_, fun q hq => ?_⟩ (by dsimp only; omega)
    · dsimp only
      rw [hset_row]
      dsimp only
      by_cases e : r = k
      · rw [if_pos e]
      · rw [if_neg e]; exact hz r (by omega)
    · dsimp only
      rw [hset_obj _ _ _ _ hq]; exact hf q hq
  · exact ⟨0, by omega, rfl, fun r h => absurd h (by omega), fun _ _ => rfl⟩
  · rw [FU_eq]
    show (144 - (0 : Int)).toNat < 20000
    omega
theorem net_rows (hn : nn = 50 ∨ nn = 4) : ∀ a, a < 12 → (iaB shC (nn + 9 + 1 + a) = true ∧ lenOf shC (nn + 9 + 1 + a) = 12) ∧ iaB shC (nn + 22 + 1 + a) = true ∧ lenOf shC (nn + 22 + 1 + a) = 12 := by
  rcases hn with rfl | rfl
  · decide
  · decide
theorem net_row5 (hn : nn = 50 ∨ nn = 4) : iaB shC (nn + 5) = true ∧ lenOf shC (nn + 5) = 30 := by
  rcases hn with rfl | rfl
  · decide
  · decide
def nclF (nn : Nat) (s u : Hp) : Prop := ∀ q, q ≠ nn → q ≠ nn + 5 → (q < nn + 10 ∨ q = nn + 22 ∨ nn + 35 < q) → u q = s q
theorem C_netClear (hn : nn = 50 ∨ nn = 4) : wp (F_Net_clear nn s) (fun _ u => ((∀ i, 14 ≤ i → i ≤ 19 → u nn i = 0) ∧ ∀ i, i < 14 ∨ 19 < i → u nn i = s nn i) ∧ (∀ i, i < 30 → u (nn + 5) i = 0) ∧ (∀ a i, a < 12 → i < 12 → u (nn + 9 + 1 + a) i = -1 ∧ u (nn + 22 + 1 + a) i = 0) ∧ (∀ i, i < 144 → u (nn + 35) i = 0) ∧ nclF nn s u) := by
  have hin : isNet nn := hn
  have h5 := net_row5 hn
  have hr := net_rows hn
  unfold F_Net_clear
  rw [gd_pos hin, lt_eq, lt_eq, lt_eq, lt_eq, lt_eq, lt_eq]
  have e0 : ∀ i, hset (hset (hset (hset (hset (hset s nn 15 0) nn 16 0) nn 17 0) nn 18 0) nn 19 0) nn 14 0 nn i = if 14 ≤ i ∧ i ≤ 19 then 0 else s nn i := fun i => by
    simp only [hset_row]
    by_cases c : 14 ≤ i ∧ i ≤ 19
    · rw [if_pos c]
      by_cases c1 : i = 14
      · rw [if_pos c1]
      rw [if_neg c1]
      by_cases c2 : i = 19
      · rw [if_pos c2]
      rw [if_neg c2]
      by_cases c3 : i = 18
      · rw [if_pos c3]
      rw [if_neg c3]
      by_cases c4 : i = 17
      · rw [if_pos c4]
      rw [if_neg c4]
      by_cases c5 : i = 16
      · rw [if_pos c5]
      rw [if_neg c5, if_pos (by omega)]
    · rw [if_neg c, if_neg (by omega), if_neg (by omega), if_neg (by omega), if_neg (by omega), if_neg (by omega), if_neg (by omega)]
  have eq : ∀ q, q ≠ nn → hset (hset (hset (hset (hset (hset s nn 15 0) nn 16 0) nn 17 0) nn 18 0) nn 19 0) nn 14 0 q = s q := fun q hq => by rw [hset_obj _ _ _ _ hq, hset_obj _ _ _ _ hq, hset_obj _ _ _ _ hq, hset_obj _ _ _ _ hq, hset_obj _ _ _ _ hq, hset_obj _ _ _ _ hq]
  generalize hset (hset (hset (hset (hset (hset s nn 15 0) nn 16 0) nn 17 0) nn 18 0) nn 19 0) nn 14 0 = s1 at e0 eq
  refine wp_cl (J_fill h5.1 h5.2 (by decide) s1) (fun _ s2 h2 => ?_)
  obtain ⟨h2q, h2v⟩ := h2
  unfold F_Net_clear_40
  refine wp_loop (fun a : Int × Hp => ∃ k : Nat, k ≤ 12 ∧ a.1 = (k : Int) ∧ (∀ a' i, a' < k → i < 12 → a.2 (nn + 9 + 1 + a') i = -1 ∧ a.2 (nn + 22 + 1 + a') i = 0) ∧ ∀ q, (q < nn + 10 ∨ q = nn + 22 ∨ nn + 34 < q) → a.2 q = s2 q) (fun a => (12 - a.1).toNat) ?_ FU _ ?_ ?_
  · intro a K hp ih
    obtain ⟨x, u⟩ := a
    obtain ⟨k, hk, e1, hz, hf⟩ := hp
    dsimp only at e1 hz hf ih ⊢
    subst e1
    unfold F_Net_clear_40_b
    refine wp_if (fun c => ?_) (fun c => ?_)
    · refine wp_mono (C_clear74 hn) (fun _ v hv => ?_)
      obtain ⟨v1, v2⟩ := hv
      have ek : k = 12 := by omega
      subst ek
      refine ⟨⟨fun i i1 i2 => ?_, fun i hi => ?_⟩, fun i hi => ?_, fun a i ha hi => ?_, v1, fun q q1 q2 q3 => ?_⟩
      · rw [v2 nn (by omega), hf nn (by omega), h2q nn (by omega), e0, if_pos ⟨i1, i2⟩]
      · rw [v2 nn (by omega), hf nn (by omega), h2q nn (by omega), e0, if_neg (by omega)]
      · rw [v2 _ (by omega), hf _ (by omega)]; exact h2v i hi
      · rw [v2 _ (by omega), v2 _ (by omega)]; exact hz a i ha hi
      · rw [v2 q (by omega), hf q (by omega), h2q q q2, eq q q1]
    · have hk12 : k < 12 := by omega
      have g : (0 : Int) ≤ (k : Int) ∧ (k : Int) < 12 := by omega
      have r := hr k hk12
      rw [gd_pos g, Int.toNat_natCast]
      refine wp_cl (J_fill r.1.1 r.1.2 (by decide) u) (fun _ u2 hu2 => ?_)
      rw [gd_pos g]
      refine wp_cl (J_fill r.2.1 r.2.2 (by decide) u2) (fun _ u3 hu3 => ?_)
      rw [lt_eq, iadd_ok (by omega)]
      refine ih _ ⟨k + 1, by omega, by simp, fun a' i ha' hi => ?_, fun q hq => ?_⟩ (by dsimp only; omega)
      · dsimp only
        by_cases e : a' = k
        · subst e
          exact ⟨by rw [hu3.1 _ (by omega)]; exact hu2.2 i hi, hu3.2 i hi⟩
        · rw [hu3.1 _ (by omega), hu2.1 _ (by omega), hu3.1 _ (by omega), hu2.1 _ (by omega)]
          exact hz a' i (by omega) hi
      · dsimp only
        rw [hu3.1 q (by omega), hu2.1 q (by omega)]; exact hf q hq
  · exact ⟨0, by omega, rfl, fun a' i h => absurd h (by omega), fun _ _ => rfl⟩
  · rw [FU_eq]
    show (12 - (0 : Int)).toNat < 20000
    omega
end NetClear
