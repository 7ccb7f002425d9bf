/-! a road more -/
section AddR
variable {s t s4 u : Hp} {f : Nat → Int} {N cnt nn b p v c cm R x y c1 ce cm1 cm2 : Nat} {d : ND} {V V2 : FV} {hT : Bool}
def addR (d : ND) (x y : Nat) (V : FV) (hT : Bool) (V2 : FV) : ND := ((dW d, dR d + 1), (fun r => if r = dR d then x else fs d r), (fun r => if r = dR d then y else sn d r), al d, ta d, (fun r => if r = dR d then 0 else db d r), ((fun r => if r = dR d then V else sv d r), (fun r => if r = dR d then hT else ts d r), (fun r => if r = dR d then V2 else tv d r)), nm d, (dT d, dD d))
theorem addR_old {r : Nat} (hr : r < dR d) : fs (addR d x y V hT V2) r = fs d r ∧ sn (addR d x y V hT V2) r = sn d r ∧ db (addR d x y V hT V2) r = db d r ∧ sv (addR d x y V hT V2) r = sv d r ∧ ts (addR d x y V hT V2) r = ts d r ∧ tv (addR d x y V hT V2) r = tv d r := by
  have e : ¬ r = dR d := by omega
  exact ⟨if_neg e, if_neg e, if_neg e, if_neg e, if_neg e, if_neg e⟩
theorem addR_new : fs (addR d x y V hT V2) (dR d) = x ∧ sn (addR d x y V hT V2) (dR d) = y ∧ db (addR d x y V hT V2) (dR d) = 0 ∧ sv (addR d x y V hT V2) (dR d) = V ∧ ts (addR d x y V hT V2) (dR d) = hT ∧ tv (addR d x y V hT V2) (dR d) = V2 := ⟨if_pos rfl, if_pos rfl, if_pos rfl, if_pos rfl, if_pos rfl, if_pos rfl⟩
theorem rdO_addR (i j : Nat) : ∀ r, r ≤ dR d → rdO (addR d x y V hT V2) i j r = rdO d i j r
  | 0, _ => rfl
  | r + 1, h => by
    have o := addR_old (d := d) (x := x) (y := y) (V := V) (hT := hT) (V2 := V2) (r := r) (by omega)
    show (if (fs (addR d x y V hT V2) r = i ∧ sn (addR d x y V hT V2) r = j) ∨ (fs (addR d x y V hT V2) r = j ∧ sn (addR d x y V hT V2) r = i) then (r : Int) else rdO (addR d x y V hT V2) i j r) = if (fs d r = i ∧ sn d r = j) ∨ (fs d r = j ∧ sn d r = i) then (r : Int) else rdO d i j r
    rw [rdO_addR i j r (by omega), o.1, o.2.1]
theorem rdO_addR2 (i j : Nat) : rdO (addR d x y V hT V2) i j (dR d + 1) = if (x = i ∧ y = j) ∨ (x = j ∧ y = i) then (dR d : Int) else rdO d i j (dR d) := by
  have o := addR_new (d := d) (x := x) (y := y) (V := V) (hT := hT) (V2 := V2)
  show (if (fs (addR d x y V hT V2) (dR d) = i ∧ sn (addR d x y V hT V2) (dR d) = j) ∨ (fs (addR d x y V hT V2) (dR d) = j ∧ sn (addR d x y V hT V2) (dR d) = i) then (dR d : Int) else rdO (addR d x y V hT V2) i j (dR d)) = _
  rw [rdO_addR i j (dR d) (Nat.le_refl _), o.1, o.2.1]
theorem okD_addR (h : okD d) (hR : dR d < 30) (hx : x < dW d) (hy : y < dW d) (hne : x ≠ y) (hno : rdO d x y (dR d) = -1) : okD (addR d x y V hT V2) := by
  obtain ⟨⟨h1, h2, h3, h4, h5, h6⟩, h7, h8, h9⟩ := h
  refine ⟨⟨h1, by show dR d + 1 ≤ 30; omega, fun r hr => ?_, h4, h5, fun r hr => ?_⟩, h7, h8, h9⟩
  · have hr : r < dR d + 1 := hr
    by_cases e : r = dR d
    · subst e
      have o := addR_new (d := d) (x := x) (y := y) (V := V) (hT := hT) (V2 := V2)
      rw [o.1, o.2.1]
      exact ⟨hx, hy, hne, by rw [rdO_addR x y _ (Nat.le_refl _)]; exact hno⟩
    · have o := addR_old (d := d) (x := x) (y := y) (V := V) (hT := hT) (V2 := V2) (r := r) (by omega)
      have g := h3 r (by omega)
      rw [o.1, o.2.1]
      exact ⟨g.1, g.2.1, g.2.2.1, by rw [rdO_addR _ _ r (by omega)]; exact g.2.2.2⟩
  · have hr : r < dR d + 1 := hr
    by_cases e : r = dR d
    · subst e
      rw [(addR_new (d := d) (x := x) (y := y) (V := V) (hT := hT) (V2 := V2)).2.2.1]
      exact ⟨by decide, by decide⟩
    · rw [(addR_old (d := d) (x := x) (y := y) (V := V) (hT := hT) (V2 := V2) (r := r) (by omega)).2.2.1]
      exact h6 r (by omega)
/-- the cells behind a road's end: the class -/
theorem edR_0 (i : Nat) (hi : i ≠ 16) : edR nn R x y c c1 s nn i = s nn i := by
  unfold edR
  rw [hset_get, if_neg (fun z => hi z.2), hset_obj _ _ _ _ (by omega), hset_obj _ _ _ _ (by omega), hset_obj _ _ _ _ (by omega), hset_obj _ _ _ _ (by omega), hset_obj _ _ _ _ (by omega)]
theorem edR_16 : edR nn R x y c c1 s nn 16 = ((R + 1 : Nat) : Int) := hset_same _ _ _ _
theorem edR_q {q : Nat} (h0 : q ≠ nn) (h6 : q ≠ nn + 6) (h7 : q ≠ nn + 7) (h8 : q ≠ nn + 8) (hx : q ≠ nn + 9 + 1 + x) (hy : q ≠ nn + 9 + 1 + y) : edR nn R x y c c1 s q = s q := by
  unfold edR
  rw [hset_obj _ _ _ _ h0, hset_obj _ _ _ _ hy, hset_obj _ _ _ _ hx, hset_obj _ _ _ _ h8, hset_obj _ _ _ _ h7, hset_obj _ _ _ _ h6]
theorem edR_6 (r : Nat) : edR nn R x y c c1 s (nn + 6) r = (if r = R then (c : Int) else s (nn + 6) r) ∧ edR nn R x y c c1 s (nn + 7) r = (if r = R then (c1 : Int) else s (nn + 7) r) ∧ edR nn R x y c c1 s (nn + 8) r = (if r = R then s nn 14 else s (nn + 8) r) := by
  unfold edR
  refine ⟨?_, ?_, ?_⟩
  · rw [hset_obj _ _ _ _ (by omega), hset_obj _ _ _ _ (by omega), hset_obj _ _ _ _ (by omega), hset_obj _ _ _ _ (by omega), hset_obj _ _ _ _ (by omega), hset_row]
  · rw [hset_obj _ _ _ _ (by omega), hset_obj _ _ _ _ (by omega), hset_obj _ _ _ _ (by omega), hset_obj _ _ _ _ (by omega), hset_row]
    dsimp only
    rw [hset_obj _ _ _ _ (by omega)]
  · rw [hset_obj _ _ _ _ (by omega), hset_obj _ _ _ _ (by omega), hset_obj _ _ _ _ (by omega), hset_row]
    dsimp only
    rw [hset_obj _ _ _ _ (by omega), hset_obj _ _ _ _ (by omega)]
theorem edR_t {i j : Nat} (hi : i < 12) : edR nn R x y c c1 s (nn + 9 + 1 + i) j = if (x = i ∧ y = j) ∨ (x = j ∧ y = i) then (R : Int) else s (nn + 9 + 1 + i) j := by
  unfold edR
  rw [hset_obj _ _ _ _ (by omega), hset_get, hset_get, hset_obj _ _ _ _ (by omega), hset_obj _ _ _ _ (by omega), hset_obj _ _ _ _ (by omega)]
  by_cases a : y = i ∧ x = j
  · rw [if_pos (c := nn + 9 + 1 + i = nn + 9 + 1 + y ∧ j = x) (by omega), if_pos (Or.inr ⟨a.2, a.1⟩)]
  · rw [if_neg (c := nn + 9 + 1 + i = nn + 9 + 1 + y ∧ j = x) (by omega)]
    by_cases a2 : x = i ∧ y = j
    · rw [if_pos (by omega), if_pos (Or.inl a2)]
    · rw [if_neg (by omega), if_neg (by omega)]
theorem ToC_addR (hn : nn = 50 ∨ nn = 4) (hR : dR d < 30) (hx : x < 12) (hy : y < 12) (h : ToC s nn d v c) (hz : Zer s nn d) (hg : GC nn (dR d) c s s4) (h14 : s4 nn 14 = (ce : Int)) (e3 : s4 (nn + 3) (dR d) = (x : Int)) (e4 : s4 (nn + 4) (dR d) = (y : Int)) (hc : RC s4 nn c c1 [V] ∧ (hT = true → RC s4 nn c1 ce [V2]) ∧ (hT = false → c1 = ce)) : ToC (edR nn (dR d) x y c c1 s4) nn (addR d x y V hT V2) v ce := by
  obtain ⟨⟨a1, a2, a3, a4, a5, a6, a7, a8, a9⟩, b1, b2, b3, b4⟩ := h
  have hcc : c ≤ c1 := by have := hc.1.1; omega
  have hce : c1 ≤ ce := by
    cases e : hT with
    | true => have := (hc.2.1 e).1; omega
    | false => rw [hc.2.2 e]; exact Nat.le_refl _
  have k0 : ∀ i, i ≠ 14 → i ≠ 16 → edR nn (dR d) x y c c1 s4 nn i = s nn i := fun i i1 i2 => by rw [edR_0 i i2, hg.2.2.1 i i1]
  have kq : ∀ q, nn < q → q ≤ nn + 35 → q ≠ nn + 3 → q ≠ nn + 4 → q ≠ nn + 6 → q ≠ nn + 7 → q ≠ nn + 8 → (q ≤ nn + 9 ∨ nn + 22 ≤ q) → edR nn (dR d) x y c c1 s4 q = s q := fun q i1 i2 i3 i4 i5 i6 i7 i8 => by rw [edR_q (by omega) i5 i6 i7 (by omega) (by omega), hg.1 q (by omega) (by omega) (by omega) i3 i4]
  have k36 : ∀ k, edR nn (dR d) x y c c1 s4 (nn + 36) k = s4 (nn + 36) k := fun k => by rw [edR_q (by omega) (by omega) (by omega) (by omega) (by omega) (by omega)]
  have k34 : ∀ r, edR nn (dR d) x y c c1 s4 (nn + 3) r = s4 (nn + 3) r ∧ edR nn (dR d) x y c c1 s4 (nn + 4) r = s4 (nn + 4) r := fun r => by
    rw [edR_q (by omega) (by omega) (by omega) (by omega) (by omega) (by omega), edR_q (by omega) (by omega) (by omega) (by omega) (by omega) (by omega)]
    exact ⟨rfl, rfl⟩
  refine ⟨⟨a1, by rw [k0 15 (by decide) (by decide)]; exact a2, edR_16, by rw [k0 17 (by decide) (by decide)]; exact a4, by rw [k0 18 (by decide) (by decide)]; exact a5, fun w hw => ?_, fun r hr => ?_, fun i j hi hj => ?_, fun i j hi hj => ?_⟩, fun w hw => ?_, by rw [edR_0 14 (by decide)]; exact h14, by rw [k0 19 (by decide) (by decide)]; exact b3, fun r hr => ?_⟩
  · rw [kq _ (by omega) (by omega) (by omega) (by omega) (by omega) (by omega) (by omega) (by omega)]; exact a6 w hw
  · have hr : r < dR d + 1 := hr
    rw [(k34 r).1, (k34 r).2, kq (nn + 5) (by omega) (by omega) (by omega) (by omega) (by omega) (by omega) (by omega) (by omega)]
    by_cases e : r = dR d
    · subst e
      have o := addR_new (d := d) (x := x) (y := y) (V := V) (hT := hT) (V2 := V2)
      rw [o.1, o.2.1, o.2.2.1, e3, e4, hz _ (Nat.le_refl _) hR]
      exact ⟨rfl, rfl, rfl⟩
    · have o := addR_old (d := d) (x := x) (y := y) (V := V) (hT := hT) (V2 := V2) (r := r) (by omega)
      have g := a7 r (by omega)
      rw [o.1, o.2.1, o.2.2.1, (hg.2.1 r e).1, (hg.2.1 r e).2]
      exact g
  · rw [edR_t hi, hg.1 _ (by omega) (by omega) (by omega) (by omega) (by omega), a8 i j hi hj]
    exact (rdO_addR2 i j).symm
  · rw [kq _ (by omega) (by omega) (by omega) (by omega) (by omega) (by omega) (by omega) (by omega)]; exact a9 i j hi hj
  · rw [kq _ (by omega) (by omega) (by omega) (by omega) (by omega) (by omega) (by omega) (by omega)]; exact b1 w hw
  · have hr : r < dR d + 1 := hr
    have k6 := edR_6 (nn := nn) (R := dR d) (x := x) (y := y) (c := c) (c1 := c1) (s := s4) r
    by_cases e : r = dR d
    · subst e
      have o := addR_new (d := d) (x := x) (y := y) (V := V) (hT := hT) (V2 := V2)
      rw [if_pos rfl, if_pos rfl, if_pos rfl] at k6
      refine ⟨c, c1, ce, ⟨k6.1, k6.2.1, by rw [k6.2.2]; exact h14, Nat.le_refl _⟩, ?_, ?_, ?_⟩
      · rw [o.2.2.2.1]; exact RC_congr hc.1 (fun k _ => k36 k)
      · rw [o.2.2.2.2.1, o.2.2.2.2.2]; exact fun z => RC_congr (hc.2.1 z) (fun k _ => k36 k)
      · rw [o.2.2.2.2.1]; exact hc.2.2
    · have o := addR_old (d := d) (x := x) (y := y) (V := V) (hT := hT) (V2 := V2) (r := r) (by omega)
      obtain ⟨d0, d1, d2, ⟨f1, f2, f3, f4⟩, r1, r2, r3⟩ := b4 r (by omega)
      have r4 := RoC_le r2 r3
      rw [if_neg e, if_neg e, if_neg e] at k6
      refine ⟨d0, d1, d2, ⟨by rw [k6.1, hg.1 _ (by omega) (by omega) (by omega) (by omega) (by omega)]; exact f1, by rw [k6.2.1, hg.1 _ (by omega) (by omega) (by omega) (by omega) (by omega)]; exact f2, by rw [k6.2.2, hg.1 _ (by omega) (by omega) (by omega) (by omega) (by omega)]; exact f3, by omega⟩, ?_, ?_, ?_⟩
      · rw [o.2.2.2.1]; exact RC_congr r1 (fun k hk => by rw [k36]; exact hg.2.2.2.1 k (by omega))
      · rw [o.2.2.2.2.1, o.2.2.2.2.2]; exact fun z => RC_congr (r2 z) (fun k hk => by rw [k36]; exact hg.2.2.2.1 k (by omega))
      · rw [o.2.2.2.2.1]; exact r3
theorem ToM_addR (hR : dR d < 30) (h : ToM t b d cm) (hg : GM 8 b (30 * b + dR d) cm t u) (h8 : u 8 (30 * b + dR d) = (x : Int)) (h9 : u 9 (30 * b + dR d) = (y : Int)) (hcl : u 0 30 = (cm2 : Int) ∧ u 10 (30 * b + dR d) = (cm : Int) ∧ u 11 (30 * b + dR d) = (cm1 : Int) ∧ u 12 (30 * b + dR d) = (cm1 : Int) ∧ u 13 (30 * b + dR d) = (cm2 : Int) ∧ u 14 (30 * b + dR d) = 0) (hc : RM u b (dW d) (al d) cm cm1 [V] ∧ (hT = true → RM u b (dW d) (al d) cm1 cm2 [V2]) ∧ (hT = false → cm1 = cm2)) : ToM (hset u 3 b ((dR d + 1 : Nat) : Int)) b (addR d x y V hT V2) cm2 := by
  obtain ⟨⟨a1, a2, a3, a4, a5, a6, a7, a8⟩, b1, b2, b3, b4⟩ := h
  have hcc : cm ≤ cm1 := by have := hc.1.1; omega
  have hce : cm1 ≤ cm2 := by
    cases e : hT with
    | true => have := (hc.2.1 e).1; omega
    | false => rw [hc.2.2 e]; exact Nat.le_refl _
  have kq : ∀ q, q ≠ 3 → hset u 3 b ((dR d + 1 : Nat) : Int) q = u q := fun q i1 => hset_obj _ _ _ _ i1
  have g0 : ∀ q, q ≠ 0 → (q < 8 ∨ (14 < q ∧ q < 17) ∨ 24 < q) → u q = t q := hg.1
  have g1 : ∀ q, 8 ≤ q → q ≤ 14 → ∀ r, r ≠ dR d → u q (30 * b + r) = t q (30 * b + r) := fun q i1 i2 r i3 => hg.2.1 q i1 i2 _ (Or.inl (by omega))
  have u31 : u 0 31 = t 0 31 := hg.2.2.1 31 (by unfold xmI nxI; decide)
  refine ⟨⟨a1, by rw [kq 2 (by decide), g0 2 (by decide) (by omega)]; exact a2, hset_same _ _ _ _, by rw [kq 4 (by decide), g0 4 (by decide) (by omega)]; exact a4, by rw [kq 5 (by decide), g0 5 (by decide) (by omega)]; exact a5, fun w hw => ?_, fun r hr => ?_, fun i j hi hj => ?_⟩, fun w hw => ?_, by rw [kq 0 (by decide)]; exact hcl.1, by rw [kq 0 (by decide), u31]; exact b3, fun r hr => ?_⟩
  · rw [kq 7 (by decide), g0 7 (by decide) (by omega)]; exact a6 w hw
  · have hr : r < dR d + 1 := hr
    rw [kq 8 (by decide), kq 9 (by decide), kq 14 (by decide)]
    by_cases e : r = dR d
    · subst e
      have o := addR_new (d := d) (x := x) (y := y) (V := V) (hT := hT) (V2 := V2)
      rw [o.1, o.2.1, o.2.2.1]
      exact ⟨h8, h9, hcl.2.2.2.2.2⟩
    · have o := addR_old (d := d) (x := x) (y := y) (V := V) (hT := hT) (V2 := V2) (r := r) (by omega)
      rw [o.1, o.2.1, o.2.2.1, g1 8 (by decide) (by decide) r e, g1 9 (by decide) (by decide) r e, g1 14 (by decide) (by decide) r e]
      exact a7 r (by omega)
  · rw [kq 15 (by decide), g0 15 (by decide) (by omega)]; exact a8 i j hi hj
  · rw [kq 6 (by decide), g0 6 (by decide) (by omega)]; exact b1 w hw
  · have hr : r < dR d + 1 := hr
    unfold RoM
    rw [kq 10 (by decide), kq 11 (by decide), kq 12 (by decide), kq 13 (by decide)]
    by_cases e : r = dR d
    · subst e
      have o := addR_new (d := d) (x := x) (y := y) (V := V) (hT := hT) (V2 := V2)
      refine ⟨cm, cm1, cm2, ⟨hcl.2.1, hcl.2.2.1, hcl.2.2.2.1, hcl.2.2.2.2.1, Nat.le_refl _⟩, ?_, ?_, ?_⟩
      · rw [o.2.2.2.1]; exact RM_cg hc.1 (kq 17 (by decide)) (kq 18 (by decide))
      · rw [o.2.2.2.2.1, o.2.2.2.2.2]; exact fun z => RM_cg (hc.2.1 z) (kq 17 (by decide)) (kq 18 (by decide))
      · rw [o.2.2.2.2.1]; exact hc.2.2
    · have o := addR_old (d := d) (x := x) (y := y) (V := V) (hT := hT) (V2 := V2) (r := r) (by omega)
      obtain ⟨d0, d1, d2, ⟨f1, f2, f3, f4, f5⟩, r1, r2, r3⟩ := b4 r (by omega)
      have r4 : d1 ≤ d2 := by
        cases e : ts d r with
        | true => have := (r2 e).1; omega
        | false => rw [r3 e]; exact Nat.le_refl _
      refine ⟨d0, d1, d2, ⟨by rw [g1 10 (by decide) (by decide) r e]; exact f1, by rw [g1 11 (by decide) (by decide) r e]; exact f2, by rw [g1 12 (by decide) (by decide) r e]; exact f3, by rw [g1 13 (by decide) (by decide) r e]; exact f4, by omega⟩, ?_, ?_, ?_⟩
      · rw [o.2.2.2.1]; exact RM_congr r1 (fun k hk => by rw [kq 17 (by decide), kq 18 (by decide)]; exact hg.2.2.2 _ (Or.inl (by omega))) (Nat.le_refl _) (fun _ _ => rfl)
      · rw [o.2.2.2.2.1, o.2.2.2.2.2]; exact fun z => RM_congr (r2 z) (fun k hk => by rw [kq 17 (by decide), kq 18 (by decide)]; exact hg.2.2.2 _ (Or.inl (by omega))) (Nat.le_refl _) (fun _ _ => rfl)
      · rw [o.2.2.2.2.1]; exact r3
end AddR
