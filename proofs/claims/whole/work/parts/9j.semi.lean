/-! the semicolon -/
section Semi
variable {s t : Hp} {f : Nat → Int} {N cnt nn b p v c cm : Nat} {d : ND}
theorem ToC_19 (h : ToC s nn d v c) {s' : Hp} (hTn : TnF nn c s s') (h14 : s' nn 14 = (c : Int)) (hn : nn = 50 ∨ nn = 4) : ToC (hset s' nn 19 ((v + 1 : Nat) : Int)) nn d (v + 1) c := by
  obtain ⟨⟨a1, a2, a3, a4, a5, a6, a7, a8, a9⟩, b1, b2, b3, b4⟩ := h
  have hq : ∀ q, nn + 1 ≤ q → q ≤ nn + 35 → hset s' nn 19 ((v + 1 : Nat) : Int) q = s q := fun q i1 i2 => by rw [hset_obj _ _ _ _ (by omega), hTn.1 q (by omega) (by omega) (by omega)]
  have h0 : ∀ i, i ≠ 19 → i ≠ 14 → hset s' nn 19 ((v + 1 : Nat) : Int) nn i = s nn i := fun i i1 i2 => by rw [hset_get, if_neg (fun y => i1 y.2), hTn.2.1 i i2]
  have h36 : ∀ k, k < c → hset s' nn 19 ((v + 1 : Nat) : Int) (nn + 36) k = s (nn + 36) k := fun k hk => by rw [hset_obj _ _ _ _ (by omega), hTn.2.2.1 k hk]
  refine ⟨⟨a1, by rw [h0 15 (by decide) (by decide)]; exact a2, by rw [h0 16 (by decide) (by decide)]; exact a3, by rw [h0 17 (by decide) (by decide)]; exact a4, by rw [h0 18 (by decide) (by decide)]; exact a5, fun w hw => ?_, fun r hr => ?_, fun i j hi hj => ?_, fun i j hi hj => ?_⟩, fun w hw => ?_, by rw [hset_get, if_neg (by omega)]; exact h14, hset_same _ _ _ _, fun r hr => ?_⟩
  · rw [hq _ (by omega) (by omega)]; exact a6 w hw
  · rw [hq _ (by omega) (by omega), hq _ (by omega) (by omega), hq _ (by omega) (by omega)]; exact a7 r hr
  · rw [hq _ (by omega) (by omega)]; exact a8 i j hi hj
  · rw [hq _ (by omega) (by omega)]; exact a9 i j hi hj
  · rw [hq _ (by omega) (by omega)]; exact b1 w hw
  · obtain ⟨c0, c1, c2, ⟨e1, e2, e3, e4⟩, r1, r2, r3⟩ := b4 r hr
    refine ⟨c0, c1, c2, ⟨by rw [hq _ (by omega) (by omega)]; exact e1, by rw [hq _ (by omega) (by omega)]; exact e2, by rw [hq _ (by omega) (by omega)]; exact e3, e4⟩, RC_congr r1 (fun k hk => h36 k (by have := RoC_le r2 r3; omega)), fun z => RC_congr (r2 z) (fun k hk => h36 k (by omega)), r3⟩
theorem ToM_cg (h : ToM t b d cm) {t' : Hp} (h0 : ∀ i, i = 30 ∨ i = 31 → t' 0 i = t 0 i) (q' : ∀ q, 2 ≤ q ∧ q ≤ 18 → t' q = t q) : ToM t' b d cm := by
  obtain ⟨⟨a1, a2, a3, a4, a5, a6, a7, a8⟩, b1, b2, b3, b4⟩ := h
  refine ⟨⟨a1, by rw [q' 2 (by decide)]; exact a2, by rw [q' 3 (by decide)]; exact a3, by rw [q' 4 (by decide)]; exact a4, by rw [q' 5 (by decide)]; exact a5, fun w hw => by rw [q' 7 (by decide)]; exact a6 w hw, fun r hr => by rw [q' 8 (by decide), q' 9 (by decide), q' 14 (by decide)]; exact a7 r hr, fun i j hi hj => by rw [q' 15 (by decide)]; exact a8 i j hi hj⟩, fun w hw => by rw [q' 6 (by decide)]; exact b1 w hw, by rw [h0 30 (Or.inl rfl)]; exact b2, by rw [h0 31 (Or.inr rfl)]; exact b3, fun r hr => ?_⟩
  obtain ⟨c0, c1, c2, e1, r1, r2, r3⟩ := b4 r hr
  exact ⟨c0, c1, c2, by rw [q' 10 (by decide), q' 11 (by decide), q' 12 (by decide), q' 13 (by decide)]; exact e1, RM_congr r1 (fun k _ => by rw [q' 17 (by decide), q' 18 (by decide)]; exact ⟨rfl, rfl⟩) (Nat.le_refl _) (fun _ _ => rfl), fun z => RM_congr (r2 z) (fun k _ => by rw [q' 17 (by decide), q' 18 (by decide)]; exact ⟨rfl, rfl⟩) (Nat.le_refl _) (fun _ _ => rfl), r3⟩
end Semi
