/-! a doubt told -/
section DoubtB
variable {s t : Hp} {f : Nat → Int} {N cnt nn b p v c cm : Nat} {d : ND}
def addU (d : ND) (r : Nat) (a : Int) : ND := ((dW d, dR d), fs d, sn d, al d, ta d, (fun q => if q = r then a else db d q), (sv d, ts d, tv d), nm d, (dT d, dD d + 1))
theorem rdO_addU {r0 : Nat} {a : Int} (i j : Nat) : ∀ r, rdO (addU d r0 a) i j r = rdO d i j r
  | 0 => rfl
  | r + 1 => by
    show (if (fs d r = i ∧ sn d r = j) ∨ (fs d r = j ∧ sn d r = i) then (r : Int) else rdO (addU d r0 a) i j r) = if (fs d r = i ∧ sn d r = j) ∨ (fs d r = j ∧ sn d r = i) then (r : Int) else rdO d i j r
    rw [rdO_addU i j r]
theorem okD_addU (h : okD d) (hT : dD d < 24) {r0 : Nat} {a : Int} (ha : 0 ≤ a ∧ a ≤ 9999) : okD (addU d r0 a) := by
  obtain ⟨⟨h1, h2, h3, h4, h5, h6⟩, h7, h8, h9⟩ := h
  refine ⟨⟨h1, h2, fun r hr => ?_, h4, h5, fun r hr => ?_⟩, h7, h8, hT⟩
  · have g := h3 r hr
    exact ⟨g.1, g.2.1, g.2.2.1, by rw [rdO_addU]; exact g.2.2.2⟩
  · show 0 ≤ (if r = r0 then a else db d r) ∧ (if r = r0 then a else db d r) ≤ 9999
    by_cases e : r = r0
    · rw [if_pos e]; exact ha
    · rw [if_neg e]; exact h6 r hr
theorem ToC_addU (h : ToC s nn d v c) {r0 : Nat} {a : Int} {s' : Hp} (hrow : ∀ i, s' (nn + 5) i = if i = r0 then a else s (nn + 5) i) (h18 : s' nn 18 = ((dD d + 1 : Nat) : Int)) (h0 : ∀ i, i ≠ 18 → s' nn i = s nn i) (hq : ∀ q, nn + 1 ≤ q → q ≤ nn + 35 → q ≠ nn + 5 → s' q = s q) (h36 : ∀ k, k < c → s' (nn + 36) k = s (nn + 36) k) : ToC s' nn (addU d r0 a) v c := by
  obtain ⟨⟨a1, a2, a3, a4, a5, a6, a7, a8, a9⟩, b1, b2, b3, b4⟩ := h
  refine ⟨⟨a1, by rw [h0 15 (by decide)]; exact a2, by rw [h0 16 (by decide)]; exact a3, by rw [h0 17 (by decide)]; exact a4, h18, fun w hw => ?_, fun r hr => ?_, fun i j hi hj => ?_, fun i j hi hj => ?_⟩, fun w hw => ?_, by rw [h0 14 (by decide)]; exact b2, by rw [h0 19 (by decide)]; exact b3, fun r hr => ?_⟩
  · rw [hq _ (by omega) (by omega) (by omega)]; exact a6 w hw
  · rw [hq _ (by omega) (by omega) (by omega), hq _ (by omega) (by omega) (by omega), hrow]
    have g := a7 r hr
    refine ⟨g.1, g.2.1, ?_⟩
    show _ = if r = r0 then a else db d r
    by_cases e : r = r0
    · rw [if_pos e, if_pos e]
    · rw [if_neg e, if_neg e]; exact g.2.2
  · rw [hq _ (by omega) (by omega) (by omega), a8 i j hi hj]
    exact (rdO_addU i j _).symm
  · rw [hq _ (by omega) (by omega) (by omega)]; exact a9 i j hi hj
  · rw [hq _ (by omega) (by omega) (by omega)]; exact b1 w hw
  · obtain ⟨c0, c1, c2, ⟨e1, e2, e3, e4⟩, r1, r2, r3⟩ := b4 r hr
    refine ⟨c0, c1, c2, ⟨by rw [hq _ (by omega) (by omega) (by omega)]; exact e1, by rw [hq _ (by omega) (by omega) (by omega)]; exact e2, by rw [hq _ (by omega) (by omega) (by omega)]; exact e3, e4⟩, RC_congr r1 (fun k hk => h36 k (by have := RoC_le r2 r3; omega)), fun z => RC_congr (r2 z) (fun k hk => h36 k (by omega)), r3⟩
theorem ToM_addU (h : ToM t b d cm) {r0 : Nat} {a : Int} {t' : Hp} (h14 : ∀ r, t' 14 (30 * b + r) = if r = r0 then a else t 14 (30 * b + r)) (h5 : t' 5 b = ((dD d + 1 : Nat) : Int)) (h0 : ∀ i, i = 30 ∨ i = 31 → t' 0 i = t 0 i) (hq : ∀ q, 2 ≤ q → q ≤ 18 → q ≠ 5 → q ≠ 14 → t' q = t q) : ToM t' b (addU d r0 a) cm := by
  obtain ⟨⟨a1, a2, a3, a4, a5, a6, a7, a8⟩, b1, b2, b3, b4⟩ := h
  have q' := fun q (h1 : 2 ≤ q ∧ q ≤ 18 ∧ q ≠ 5 ∧ q ≠ 14) => hq q h1.1 h1.2.1 h1.2.2.1 h1.2.2.2
  refine ⟨⟨a1, by rw [q' 2 (by decide)]; exact a2, by rw [q' 3 (by decide)]; exact a3, by rw [q' 4 (by decide)]; exact a4, h5, fun w hw => by rw [q' 7 (by decide)]; exact a6 w hw, fun r hr => ?_, fun i j hi hj => by rw [q' 15 (by decide)]; exact a8 i j hi hj⟩, fun w hw => by rw [q' 6 (by decide)]; exact b1 w hw, by rw [h0 30 (Or.inl rfl)]; exact b2, by rw [h0 31 (Or.inr rfl)]; exact b3, fun r hr => ?_⟩
  · rw [q' 8 (by decide), q' 9 (by decide), h14]
    have g := a7 r hr
    refine ⟨g.1, g.2.1, ?_⟩
    show _ = if r = r0 then a else db d r
    by_cases e : r = r0
    · rw [if_pos e, if_pos e]
    · rw [if_neg e, if_neg e]; exact g.2.2
  · obtain ⟨c0, c1, c2, e1, r1, r2, r3⟩ := b4 r hr
    refine ⟨c0, c1, c2, by rw [q' 10 (by decide), q' 11 (by decide), q' 12 (by decide), q' 13 (by decide)]; exact e1, RM_congr r1 (fun k _ => by rw [q' 17 (by decide), q' 18 (by decide)]; exact ⟨rfl, rfl⟩) (Nat.le_refl _) (fun _ _ => rfl), fun z => RM_congr (r2 z) (fun k _ => by rw [q' 17 (by decide), q' 18 (by decide)]; exact ⟨rfl, rfl⟩) (Nat.le_refl _) (fun _ _ => rfl), r3⟩
theorem doubt_104_bad (h : 0 < t 0 8) {x3 : Int} : F_M_doubt_104 x3 t = some (0, t) := by
  unfold F_M_doubt_104
  rw [number_bad h, cl2_some, if_neg (by omega)]
theorem doubt_93_bad (h : 0 < t 0 8) {x3 : Int} : F_M_doubt_93 x3 t = some (0, t) := by
  unfold F_M_doubt_93
  rw [if_neg (by omega), doubt_104_bad h]
theorem doubt_71_bad (h : 0 < t 0 8) {x3 : Int} : F_M_doubt_71 x3 t = some (0, t) := by
  unfold F_M_doubt_71
  rw [if_neg (by omega), doubt_93_bad h]
theorem doubt_48_bad (h : 0 < t 0 8) {x1 : Int} : F_M_doubt_48 x1 t = some (0, t) := by
  have e : F_M_whoRead x1 t = some (0, t) := by
    unfold F_M_whoRead
    rw [if_neg (by omega)]
  unfold F_M_doubt_48
  rw [e, cl2_some, if_neg (by omega), doubt_71_bad h]
theorem twoNames_doubt {nn w1 w2 : Nat} {s36 : Hp} (hin : isNet nn) (h1 : (s36 3 1).toNat = nn) (h4 : s36 3 4 = (w1 : Int)) (h5 : s36 3 5 = (w2 : Int)) (hw1 : w1 < 12) (hw2 : w2 < 12) (t1 : Int) : F_Rdr_twoNames_87 263 t1 s36 = if t1 = 0 then (cl2 (F_Rdr_fail 3 s36) fun v1 s2 => gd (v1 = 0 ∨ v1 = 1) <| some (v1, s2)) else cl2 (F_Rdr_step s36) fun _ s6 => some (1, s6) := by
  have hb : (0 : Int) ≤ ((12 * w1 + w2 : Nat) : Int) ∧ ((12 * w1 + w2 : Nat) : Int) < 144 := by omega
  have e1 : iadd (imul (w1 : Int) 12) (w2 : Int) = ((12 * w1 + w2 : Nat) : Int) := by
    rw [imul_ok (by omega), iadd_ok (by omega)]
    omega
  unfold F_Rdr_twoNames_87
  rw [lt_eq, h1, gd_pos hin, h4, h5, e1, gd_pos hb, lt_eq, Int.toNat_natCast, if_neg (by decide)]
  clear e1
  unfold F_Rdr_twoNames_120 F_Rdr_twoNames_137 F_Rdr_twoNames_154
  rw [if_neg (by decide), if_pos rfl]
end DoubtB
