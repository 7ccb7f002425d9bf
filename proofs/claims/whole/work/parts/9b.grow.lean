/-! somebody more -/
section Grow
variable {s t : Hp} {f : Nat → Int} {N cnt nn b p v c cm : Nat} {d : ND}
def addW (d : ND) (L : List Nat) (a : Int) : ND := ((dW d + 1, dR d), fs d, sn d, (fun w => if w = dW d then a else al d w), ta d, db d, (sv d, ts d, tv d), (fun w => if w = dW d then L else nm d w), (dT d, dD d))
theorem rdO_addW {L : List Nat} {a : Int} (x y : Nat) : ∀ r, rdO (addW d L a) x y r = rdO d x y r
  | 0 => rfl
  | r + 1 => by
    show (if (fs d r = x ∧ sn d r = y) ∨ (fs d r = y ∧ sn d r = x) then (r : Int) else rdO (addW d L a) x y r) = if (fs d r = x ∧ sn d r = y) ∨ (fs d r = y ∧ sn d r = x) then (r : Int) else rdO d x y r
    rw [rdO_addW x y r]
theorem okD_addW (h : okD d) {L : List Nat} {a : Int} (hW : dW d < 12) (hL : nmOk L) (ha : 0 ≤ a ∧ a ≤ 9999) : okD (addW d L a) := by
  obtain ⟨⟨h1, h2, h3, h4, h5, h6⟩, h7, h8⟩ := h
  refine ⟨⟨by show dW d + 1 ≤ 12; omega, h2, fun r hr => ?_, fun w hw => ?_, h5, h6⟩, fun w hw => ?_, h8⟩
  · have g := h3 r hr
    exact ⟨by show fs d r < dW d + 1; omega, by show sn d r < dW d + 1; omega, g.2.2.1, by rw [rdO_addW]; exact g.2.2.2⟩
  · have hw : w < dW d + 1 := hw
    show 0 ≤ (if w = dW d then a else al d w) ∧ (if w = dW d then a else al d w) ≤ 9999
    by_cases e : w = dW d
    · rw [if_pos e]; exact ha
    · rw [if_neg e]; exact h4 w (by omega)
  · have hw : w < dW d + 1 := hw
    show nmOk (if w = dW d then L else nm d w)
    by_cases e : w = dW d
    · rw [if_pos e]; exact hL
    · rw [if_neg e]; exact h7 w (by omega)
theorem RoC_le {r c1 c2 : Nat} (r2 : ts d r = true → RC s nn c1 c2 [tv d r]) (r3 : ts d r = false → c1 = c2) : c1 ≤ c2 := by
  cases e : ts d r with
  | true =>
    have := (r2 e).1
    omega
  | false => rw [r3 e]; exact Nat.le_refl _
theorem ToC_addW (h : ToC s nn d v c) {L : List Nat} {a : Int} {s' : Hp} (h1 : ∀ i, s' (nn + 1) i = if i = dW d then pk5 L else s (nn + 1) i) (h2 : ∀ i, s' (nn + 2) i = if i = dW d then a else s (nn + 2) i) (h15 : s' nn 15 = ((dW d + 1 : Nat) : Int)) (h0 : ∀ i, i ≠ 15 → i ≠ 13 → s' nn i = s nn i) (hq : ∀ q, nn + 3 ≤ q → q ≤ nn + 35 → s' q = s q) (h36 : ∀ k, k < c → s' (nn + 36) k = s (nn + 36) k) : ToC s' nn (addW d L a) v c := by
  obtain ⟨⟨a1, a2, a3, a4, a5, a6, a7, a8, a9⟩, b1, b2, b3, b4⟩ := h
  refine ⟨⟨a1, h15, by rw [h0 16 (by decide) (by decide)]; exact a3, by rw [h0 17 (by decide) (by decide)]; exact a4, by rw [h0 18 (by decide) (by decide)]; exact a5, fun w hw => ?_, fun r hr => ?_, fun x y hx hy => ?_, fun x y hx hy => ?_⟩, fun w hw => ?_, by rw [h0 14 (by decide) (by decide)]; exact b2, by rw [h0 19 (by decide) (by decide)]; exact b3, fun r hr => ?_⟩
  · have hw : w < dW d + 1 := hw
    rw [h2]
    show _ = if w = dW d then a else al d w
    by_cases e : w = dW d
    · rw [if_pos e, if_pos e]
    · rw [if_neg e, if_neg e]; exact a6 w (by omega)
  · rw [hq _ (by omega) (by omega), hq _ (by omega) (by omega), hq _ (by omega) (by omega)]
    exact a7 r hr
  · rw [hq _ (by omega) (by omega), a8 x y hx hy]
    exact (rdO_addW x y _).symm
  · rw [hq _ (by omega) (by omega)]
    exact a9 x y hx hy
  · have hw : w < dW d + 1 := hw
    rw [h1]
    show _ = pk5 (if w = dW d then L else nm d w)
    by_cases e : w = dW d
    · rw [if_pos e, if_pos e]
    · rw [if_neg e, if_neg e]; exact b1 w (by omega)
  · obtain ⟨c0, c1, c2, ⟨e1, e2, e3, e4⟩, r1, r2, r3⟩ := b4 r hr
    refine ⟨c0, c1, c2, ⟨by rw [hq _ (by omega) (by omega)]; exact e1, by rw [hq _ (by omega) (by omega)]; exact e2, by rw [hq _ (by omega) (by omega)]; exact e3, e4⟩, RC_congr r1 (fun k hk => h36 k (by have := RoC_le r2 r3; omega)), fun z => RC_congr (r2 z) (fun k hk => h36 k (by omega)), r3⟩
theorem ToM_addW (h : ToM t b d cm) {L : List Nat} {a : Int} {t' : Hp} (h2 : t' 2 b = ((dW d + 1 : Nat) : Int)) (h6 : ∀ w, w < 12 → t' 6 (12 * b + w) = if w = dW d then pk8 L else t 6 (12 * b + w)) (h7 : ∀ w, w < 12 → t' 7 (12 * b + w) = if w = dW d then a else t 7 (12 * b + w)) (hW : dW d < 12) (h0 : ∀ i, i = 30 ∨ i = 31 → t' 0 i = t 0 i) (hq : ∀ q, (3 ≤ q ∧ q ≤ 5) ∨ (8 ≤ q ∧ q ≤ 18) → t' q = t q) : ToM t' b (addW d L a) cm := by
  obtain ⟨⟨a1, a2, a3, a4, a5, a6, a7, a8⟩, b1, b2, b3, b4⟩ := h
  have hal : ∀ w, w < dW d → al (addW d L a) w = al d w := fun w hw => by
    show (if w = dW d then a else al d w) = al d w
    rw [if_neg (by omega)]
  refine ⟨⟨a1, h2, by rw [hq 3 (by omega)]; exact a3, by rw [hq 4 (by omega)]; exact a4, by rw [hq 5 (by omega)]; exact a5, fun w hw => ?_, fun r hr => ?_, fun x y hx hy => ?_⟩, fun w hw => ?_, by rw [h0 30 (Or.inl rfl)]; exact b2, by rw [h0 31 (Or.inr rfl)]; exact b3, fun r hr => ?_⟩
  · have hw : w < dW d + 1 := hw
    rw [h7 w (by omega)]
    show _ = if w = dW d then a else al d w
    by_cases e : w = dW d
    · rw [if_pos e, if_pos e]
    · rw [if_neg e, if_neg e]; exact a6 w (by omega)
  · rw [hq 8 (by omega), hq 9 (by omega), hq 14 (by omega)]
    exact a7 r hr
  · rw [hq 15 (by omega)]
    exact a8 x y hx hy
  · have hw : w < dW d + 1 := hw
    rw [h6 w (by omega)]
    show _ = pk8 (if w = dW d then L else nm d w)
    by_cases e : w = dW d
    · rw [if_pos e, if_pos e]
    · rw [if_neg e, if_neg e]; exact b1 w (by omega)
  · obtain ⟨c0, c1, c2, e1, r1, r2, r3⟩ := b4 r hr
    refine ⟨c0, c1, c2, by rw [hq 10 (by omega), hq 11 (by omega), hq 12 (by omega), hq 13 (by omega)]; exact e1, RM_congr r1 (fun k _ => by rw [hq 17 (by omega), hq 18 (by omega)]; exact ⟨rfl, rfl⟩) (by show dW d ≤ dW d + 1; omega) hal, fun z => RM_congr (r2 z) (fun k _ => by rw [hq 17 (by omega), hq 18 (by omega)]; exact ⟨rfl, rfl⟩) (by show dW d ≤ dW d + 1; omega) hal, r3⟩
end Grow
