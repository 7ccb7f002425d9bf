/-! a road's end, on both sides -/
section RoadE
variable {X : Cx} {s t u : Hp} {p c cm R y w1 w2 : Nat}
theorem road_202_bad (h : 0 < t 0 8) (hy : y < 60) : F_M_road_202 (y : Int) t = some (0, hset (hset t 13 y (t 0 30)) 14 y 0) := by
  have hb : (0 : Int) ≤ (y : Int) ∧ (y : Int) < 60 := by omega
  unfold F_M_road_202 F_M_road_239
  rw [gd_pos hb, lt_eq, gd_pos hb, lt_eq, Int.toNat_natCast, hset_obj (q := 14) (q' := 0) _ _ _ (by decide), hset_obj (q := 13) (q' := 0) _ _ _ (by decide), if_neg (by omega)]
theorem road_202_ok (h : t 0 8 = 0) (hy : y < 60) {b : Nat} (hb : b < 2) (h31 : t 0 31 = (b : Int)) (h3 : t 3 b = (R : Int)) (hR : R < 30) : F_M_road_202 (y : Int) t = some (0, hset (hset (hset t 13 y (t 0 30)) 14 y 0) 3 b ((R + 1 : Nat) : Int)) := by
  have hyb : (0 : Int) ≤ (y : Int) ∧ (y : Int) < 60 := by omega
  have hbb : (0 : Int) ≤ (b : Int) ∧ (b : Int) < 2 := by omega
  have e1 : iadd (R : Int) 1 = ((R + 1 : Nat) : Int) := by rw [iadd_ok (by omega)]; omega
  have e0 : hset (hset t 13 y (t 0 30)) 14 y 0 0 = t 0 := by rw [hset_obj _ _ _ _ (by decide), hset_obj _ _ _ _ (by decide)]
  have e3 : hset (hset t 13 y (t 0 30)) 14 y 0 3 = t 3 := by rw [hset_obj _ _ _ _ (by decide), hset_obj _ _ _ _ (by decide)]
  unfold F_M_road_202 F_M_road_239
  rw [gd_pos hyb, lt_eq, gd_pos hyb, lt_eq, Int.toNat_natCast, e0, if_pos h, h31, gd_pos hbb, gd_pos hbb, lt_eq, Int.toNat_natCast, e3, h3, e1]
theorem must__bad (h : 0 < t 0 8) {w : Int} : F_M_must_ w t = some (0, t) := by
  unfold F_M_must_
  rw [if_neg (by omega)]
theorem road_134_bad (h : 0 < t 0 8) (hy : y < 60) (b cm : Nat) : ∃ u, F_M_road_134 (y : Int) t = some (0, u) ∧ GM 10 b y cm t u ∧ u 0 8 = t 0 8 ∧ u 0 9 = t 0 9 := by
  have hb : (0 : Int) ≤ (y : Int) ∧ (y : Int) < 60 := by omega
  have e0 : ∀ (u : Hp) (q : Nat) (x : Int), q ≠ 0 → hset u q y x 0 = u 0 := fun u q x hq => by rw [hset_obj _ _ _ _ (fun z => hq z.symm)]
  unfold F_M_road_134
  rw [must__bad h, cl2_some, gd_pos hb, lt_eq, Int.toNat_natCast, reads_bad (by rw [e0 _ _ _ (by decide)]; exact h), cl2_some, gd_pos hb, lt_eq, gd_pos hb, lt_eq, e0 _ _ _ (by decide), e0 _ _ _ (by decide), e0 _ _ _ (by decide), if_neg (by omega), road_202_bad (by rw [e0 _ _ _ (by decide), e0 _ _ _ (by decide), e0 _ _ _ (by decide)]; exact h) hy]
  refine ⟨_, rfl, GM_set (GM_set (GM_set (GM_set (GM_set GM_rfl (by decide)) (by decide)) (by decide)) (by decide)) (by decide), ?_, ?_⟩
  · rw [e0 _ _ _ (by decide), e0 _ _ _ (by decide), e0 _ _ _ (by decide), e0 _ _ _ (by decide), e0 _ _ _ (by decide)]
  · rw [e0 _ _ _ (by decide), e0 _ _ _ (by decide), e0 _ _ _ (by decide), e0 _ _ _ (by decide), e0 _ _ _ (by decide)]
theorem road_123_bad (h : 0 < t 0 8) (hy : y < 60) (b cm : Nat) : ∃ u, F_M_road_123 (y : Int) t = some (0, u) ∧ GM 10 b y cm t u ∧ u 0 8 = t 0 8 ∧ u 0 9 = t 0 9 := by
  unfold F_M_road_123
  rw [if_neg (by omega)]
  exact road_134_bad h hy b cm
theorem road_71_bad (h : 0 < t 0 8) (hy : y < 60) (b cm : Nat) : ∃ u, F_M_road_71 (y : Int) t = some (0, u) ∧ GM 8 b y cm t u ∧ u 0 8 = t 0 8 ∧ u 0 9 = t 0 9 := by
  have hb : (0 : Int) ≤ (y : Int) ∧ (y : Int) < 60 := by omega
  have e : ∀ x, F_M_whoRead x t = some (0, t) := fun x => by
    unfold F_M_whoRead
    rw [if_neg (by omega)]
  have e0 : hset t 9 y 0 0 = t 0 := by rw [hset_obj _ _ _ _ (by decide)]
  obtain ⟨u, h1, h2, h3, h4⟩ := road_123_bad (t := hset t 9 y 0) (by rw [e0]; exact h) hy b cm
  rw [e0] at h3 h4
  refine ⟨u, ?_, GM_trans (GM_set GM_rfl (by decide)) (GM_lo h2 (by decide)), h3, h4⟩
  unfold F_M_road_71
  rw [gd_pos hb, e, cl2_some, gd_pos hb, lt_eq, Int.toNat_natCast, e0, if_neg (by omega), h1]
def edR (nn R w1 w2 c c1 : Nat) (s : Hp) : Hp := hset (hset (hset (hset (hset (hset s (nn + 6) R (c : Int)) (nn + 7) R (c1 : Int)) (nn + 8) R (s nn 14)) (nn + 9 + 1 + w1) w2 (R : Int)) (nn + 9 + 1 + w2) w1 (R : Int)) nn 16 ((R + 1 : Nat) : Int)
theorem roadGoes_87 {nn c1 : Nat} (hin : isNet nn) (h1 : (s 3 1).toNat = nn) (h16 : s nn 16 = (R : Int)) (hR : R < 30) (h3 : s (nn + 3) R = (w1 : Int)) (h4 : s (nn + 4) R = (w2 : Int)) (hw1 : w1 < 12) (hw2 : w2 < 12) : F_Rdr_roadGoes_87 (c : Int) (c1 : Int) s = some (1, edR nn R w1 w2 c c1 s) := by
  have hb : (0 : Int) ≤ (R : Int) ∧ (R : Int) < 30 := by omega
  have n30 : ¬ (30 : Int) ≤ (R : Int) := by omega
  have b1 : (0 : Int) ≤ (w1 : Int) ∧ (w1 : Int) < 12 := by omega
  have b2 : (0 : Int) ≤ (w2 : Int) ∧ (w2 : Int) < 12 := by omega
  have e1 : iadd (R : Int) 1 = ((R + 1 : Nat) : Int) := by rw [iadd_ok (by omega)]; omega
  have o6 : nn ≠ nn + 6 := by omega
  have o7 : nn ≠ nn + 7 := by omega
  have o8 : nn ≠ nn + 8 := by omega
  have oa : nn ≠ nn + 9 + 1 + w1 := by omega
  have ob : nn ≠ nn + 9 + 1 + w2 := by omega
  have p1 : nn + 3 ≠ nn + 6 := by omega
  have p2 : nn + 3 ≠ nn + 7 := by omega
  have p3 : nn + 3 ≠ nn + 8 := by omega
  have p4 : nn + 3 ≠ nn + 9 + 1 + w1 := by omega
  have q1 : nn + 4 ≠ nn + 6 := by omega
  have q2 : nn + 4 ≠ nn + 7 := by omega
  have q3 : nn + 4 ≠ nn + 8 := by omega
  have q4 : nn + 4 ≠ nn + 9 + 1 + w1 := by omega
  unfold F_Rdr_roadGoes_87 F_Net_endRoad F_Net_endRoad_108 edR
  rw [lt_eq, h1, gd_pos hin, gd_pos hin, h16, if_neg n30, gd_pos hb, lt_eq, Int.toNat_natCast, hset_obj _ _ _ _ o6, h16, gd_pos hb, lt_eq, Int.toNat_natCast, hset_obj _ _ _ _ o7, hset_obj _ _ _ _ o6, h16, gd_pos hb, lt_eq, Int.toNat_natCast, hset_obj _ _ _ _ o8, hset_obj _ _ _ _ o7, hset_obj _ _ _ _ o6, h16, gd_pos hb, Int.toNat_natCast, hset_obj _ _ _ _ p3, hset_obj _ _ _ _ p2, hset_obj _ _ _ _ p1, h3, gd_pos b1, gd_pos hb, hset_obj _ _ _ _ q3, hset_obj _ _ _ _ q2, hset_obj _ _ _ _ q1, h4, gd_pos b2, lt_eq, Int.toNat_natCast, Int.toNat_natCast, hset_obj _ _ _ _ oa, hset_obj _ _ _ _ o8, hset_obj _ _ _ _ o7, hset_obj _ _ _ _ o6, h16, gd_pos hb, Int.toNat_natCast, hset_obj _ _ _ _ q4, hset_obj _ _ _ _ q3, hset_obj _ _ _ _ q2, hset_obj _ _ _ _ q1, h4, gd_pos b2, gd_pos hb, hset_obj _ _ _ _ p4, hset_obj _ _ _ _ p3, hset_obj _ _ _ _ p2, hset_obj _ _ _ _ p1, h3, gd_pos b1, lt_eq, Int.toNat_natCast, Int.toNat_natCast, lt_eq, hset_obj _ _ _ _ ob, hset_obj _ _ _ _ oa, hset_obj _ _ _ _ o8, hset_obj _ _ _ _ o7, hset_obj _ _ _ _ o6, h16, e1, cl2_some]
/-- what a road's sum and test (and its end) come to, on both sides -/
def RFin (X : Cx) (s t : Hp) (p c cm R y w1 w2 : Nat) (g h : Option (Int × Hp)) : Prop := ∃ z s' t', g = some (z, s') ∧ h = some (0, t') ∧
  ((z = 0 ∧ GC (xn X) R c s s' ∧ GM 10 (xb X) y cm t t' ∧ ∃ k pl, s' 3 6 = k ∧ s' 3 7 = pl ∧ t' 0 8 = k ∧ t' 0 9 = pl ∧ 0 < k) ∨
   (z = 1 ∧ ∃ (s4 u : Hp) (pe ce c1 cm1 cm2 : Nat) (V V2 : FV) (hT : Bool), GC (xn X) R c s s4 ∧ s' = edR (xn X) R w1 w2 c c1 s4 ∧ s4 (xn X) 14 = (ce : Int) ∧ (s4 (xn X + 3) R = (w1 : Int) ∧ s4 (xn X + 4) R = (w2 : Int)) ∧ AtC s4 (xf X) (xN X) (xkQ X) pe ∧ (p < pe ∧ pe ≤ xN X) ∧ GM 10 (xb X) y cm t u ∧
     ((kX X pe = -2 ∧ t' = u ∧ u 0 8 = 1 ∧ u 0 9 = (sX X pe : Nat)) ∨
      (TkM u (xf X) (xN X) pe ∧ t' = hset u 3 (xb X) ((R + 1 : Nat) : Int) ∧ (u 0 30 = (cm2 : Int) ∧ u 10 y = (cm : Int) ∧ u 11 y = (cm1 : Int) ∧ u 12 y = (cm1 : Int) ∧ u 13 y = (cm2 : Int) ∧ u 14 y = 0) ∧ (RC s4 (xn X) c c1 [V] ∧ (hT = true → RC s4 (xn X) c1 ce [V2]) ∧ (hT = false → c1 = ce)) ∧ (RM u (xb X) (xW X) (xlQ X) cm cm1 [V] ∧ (hT = true → RM u (xb X) (xW X) (xlQ X) cm1 cm2 [V2]) ∧ (hT = false → cm1 = cm2)) ∧ ce ≤ pe ∧ cm2 ≤ pe))))
theorem RM_cg {b W c0 c1 : Nat} {al : Nat → Int} {Ws : List FV} {t' : Hp} (h : RM t b W al c0 c1 Ws) (h17 : t' 17 = t 17) (h18 : t' 18 = t 18) : RM t' b W al c0 c1 Ws := RM_congr h (fun k _ => by rw [h17, h18]; exact ⟨rfl, rfl⟩) (Nat.le_refl _) (fun _ _ => rfl)
theorem road_last {s4 u0 : Hp} {pe ce c1 cm1 cm2 : Nat} {V V2 : FV} {hT : Bool} (hn : isNet (xn X)) (hb : xb X < 2) (hR : R < 30) (hy : y = 30 * xb X + R) (hg : GC (xn X) R c s s4) (h31c : s 3 1 = (xn X : Int)) (h16 : s (xn X) 16 = (R : Int)) (hw1 : w1 < 12) (hw2 : w2 < 12) (e3 : s4 (xn X + 3) R = (w1 : Int)) (e4 : s4 (xn X + 4) R = (w2 : Int)) (h14 : s4 (xn X) 14 = (ce : Int)) (hA : AtC s4 (xf X) (xN X) (xkQ X) pe) (hpe : p < pe ∧ pe ≤ xN X) (hm : GM 10 (xb X) y cm t u0) (h31 : t 0 31 = (xb X : Int)) (h3 : t 3 (xb X) = (R : Int))
    (hM : (kX X pe = -2 ∧ u0 0 8 = 1 ∧ u0 0 9 = (sX X pe : Nat)) ∨ (TkM u0 (xf X) (xN X) pe ∧ (u0 0 30 = (cm2 : Int) ∧ u0 10 y = (cm : Int) ∧ u0 11 y = (cm1 : Int) ∧ u0 12 y = (cm1 : Int)) ∧ (RC s4 (xn X) c c1 [V] ∧ (hT = true → RC s4 (xn X) c1 ce [V2]) ∧ (hT = false → c1 = ce)) ∧ (RM u0 (xb X) (xW X) (xlQ X) cm cm1 [V] ∧ (hT = true → RM u0 (xb X) (xW X) (xlQ X) cm1 cm2 [V2]) ∧ (hT = false → cm1 = cm2)) ∧ ce ≤ pe ∧ cm2 ≤ pe)) :
    RFin X s t p c cm R y w1 w2 (F_Rdr_roadGoes_87 (c : Int) (c1 : Int) s4) (F_M_road_202 (y : Int) u0) := by
  have hn' : xn X = 50 ∨ xn X = 4 := hn
  have g1 : (s4 3 1).toNat = xn X := by
    rw [hg.2.2.2.2 1 (by omega), h31c]
    exact Int.toNat_natCast _
  have g16 : s4 (xn X) 16 = (R : Int) := by rw [hg.2.2.1 16 (by decide)]; exact h16
  have u31 : u0 0 31 = (xb X : Int) := by rw [hm.2.2.1 31 (by unfold xmI nxI; decide)]; exact h31
  have u3 : u0 3 (xb X) = (R : Int) := by rw [hm.1 3 (by decide) (by omega)]; exact h3
  have e0 : hset (hset u0 13 y (u0 0 30)) 14 y 0 0 = u0 0 := by rw [hset_obj _ _ _ _ (by decide), hset_obj _ _ _ _ (by decide)]
  have hq : ∀ q, q ≠ 13 → q ≠ 14 → hset (hset u0 13 y (u0 0 30)) 14 y 0 q = u0 q := fun q a1 a2 => by rw [hset_obj _ _ _ _ a2, hset_obj _ _ _ _ a1]
  have hm2 : GM 10 (xb X) y cm t (hset (hset u0 13 y (u0 0 30)) 14 y 0) := GM_set (GM_set hm (by decide)) (by decide)
  have hcl := roadGoes_87 (c := c) (c1 := c1) hn g1 g16 hR e3 e4 hw1 hw2
  rcases hM with ⟨m1, m2, m3⟩ | ⟨m1, ⟨m2, m3, m4, m5⟩, m6, ⟨m7, m8, m9⟩, m10, m11⟩
  · exact ⟨1, _, _, hcl, road_202_bad (by omega) (by omega), Or.inr ⟨rfl, s4, _, pe, ce, c1, cm1, cm2, V, V2, hT, hg, rfl, h14, ⟨e3, e4⟩, hA, hpe, hm2, Or.inl ⟨m1, rfl, by rw [e0]; exact m2, by rw [e0]; exact m3⟩⟩⟩
  · refine ⟨1, _, _, hcl, road_202_ok m1.2.1.1 (by omega) hb u31 u3 hR, Or.inr ⟨rfl, s4, _, pe, ce, c1, cm1, cm2, V, V2, hT, hg, rfl, h14, ⟨e3, e4⟩, hA, hpe, hm2, Or.inr ⟨TkM_congr m1 (fun i _ _ => by rw [e0]), rfl, ⟨by rw [e0]; exact m2, by rw [hq 10 (by decide) (by decide)]; exact m3, by rw [hq 11 (by decide) (by decide)]; exact m4, by rw [hq 12 (by decide) (by decide)]; exact m5, ?_, hset_same _ _ _ _⟩, m6, ⟨RM_cg m7 (hq 17 (by decide) (by decide)) (hq 18 (by decide) (by decide)), fun z => RM_cg (m8 z) (hq 17 (by decide) (by decide)) (hq 18 (by decide) (by decide)), m9⟩, m10, m11⟩⟩⟩
    rw [hset_obj _ _ _ _ (by decide), hset_same]
    exact m2
end RoadE
