/-! a road's sum and test, on both sides -/
section RoadS
variable {X : Cx} {s t : Hp} {p c cm R y w1 w2 : Nat}
theorem road_when {s23 t18 : Hp} {p1 c1 cm1 : Nat} {V : FV} (hok : okF (xf X)) (hN : xN X ≤ 900) (hfc : FixC s23 (xf X) (xN X) (xkQ X) (xn X) (xW X) (xlQ X) (xmQ X)) (hfm : FixM t18 (xf X) (xN X) (xb X) (xW X) (xlQ X) (xmQ X)) (hR : R < 30) (hy : y = 30 * xb X + R) (hg : GC (xn X) R c s s23) (h31c : s 3 1 = (xn X : Int)) (h16 : s (xn X) 16 = (R : Int)) (hw1 : w1 < 12) (hw2 : w2 < 12) (e3 : s23 (xn X + 3) R = (w1 : Int)) (e4 : s23 (xn X + 4) R = (w2 : Int)) (h14 : s23 (xn X) 14 = (c1 : Int)) (hA : AtC s23 (xf X) (xN X) (xkQ X) p1) (hp1 : p < p1 ∧ p1 ≤ xN X) (hc1 : c ≤ c1 ∧ c1 ≤ p1) (hcm1 : cm ≤ cm1 ∧ cm1 ≤ p1) (hm : GM 10 (xb X) y cm t t18) (h31 : t 0 31 = (xb X : Int)) (h3 : t 3 (xb X) = (R : Int)) (hT : TkM t18 (xf X) (xN X) p1) (h30 : t18 0 30 = (cm1 : Int) ∧ t18 10 y = (cm : Int) ∧ t18 11 y = (cm1 : Int) ∧ t18 12 y = (cm1 : Int)) (hRC : RC s23 (xn X) c c1 [V]) (hRM : RM t18 (xb X) (xW X) (xlQ X) cm cm1 [V]) (hk : kX X p1 = 260) :
    RFin X s t p c cm R y w1 w2 (cl2 (F_Rdr_step s23) fun _ s31 => cl2 (F_rd 40 0 0 s31) fun v33 s34 => if v33 = 0 then some (0, s34) else F_Rdr_roadGoes_87 (c : Int) (c1 : Int) s34) (cl2 (F_M_next t18) fun _ s27 => cl2 (F_M_reads 1 s27) fun _ s30 => F_M_road_202 (y : Int) s30) := by
  have hn : xn X = 50 ∨ xn X = 4 := hfc.1
  have hb := hfm.1
  have hZ : FX (reT X c1 cm1 s23 t18 1) := ⟨hok, hN, hfc, hfm⟩
  have hC : CSt (reT X c1 cm1 s23 t18 1) s23 p1 c1 [] := ⟨exF_rfl, hA, h14, RC_nil (by show c1 ≤ 900; omega), hp1.2⟩
  have hh : ChS (reT X c1 cm1 s23 t18 1) t18 p1 := ⟨xmF_rfl, Or.inr hT⟩
  obtain ⟨s31, z, t27, e1, hC2, m1, hh2, n2⟩ := both_next hZ hC hh (by show 0 ≤ kX X p1; omega)
  have he := eX_ok hZ hp1.2 (by show 0 ≤ kX X p1; omega)
  have i30 : t27 0 30 = (cm1 : Int) := by rw [n2.2 30 (by unfold nxI; decide)]; exact h30.1
  have i31 : t27 0 31 = (xb X : Int) := by rw [n2.2 31 (by unfold nxI; decide), hm.2.2.1 31 (by unfold xmI nxI; decide)]; exact h31
  rw [e1, cl2_some, m1, cl2_some]
  rcases reads_any hZ (n0 := 0) (Or.inr ⟨rfl, rfl⟩) hC2 (by omega) hh2 i30 (by show cm1 ≤ _; omega) i31 with ⟨s', k, pl, u, e2, hcf, m2, hu⟩ | ⟨s', u, e2, m2, p2, c2, cm2, V2, hC3, hc2, hp2, hvr, hxu, hM⟩
  · have m2' : F_M_reads 1 t27 = some (0, u) := m2
    rw [e2, cl2_some, if_pos rfl, m2', cl2_some, road_202_bad (by have := hu.2.1; have := hu.2.2.2; omega) (by omega)]
    have hex : exF (xn X) c1 s23 s' := hcf.1
    have hxu : xmF (900 * xb X + cm1, 900 * xb X + 900) t18 u := hu.1
    refine ⟨0, s', _, rfl, rfl, Or.inl ⟨rfl, GC_trans hg (GC_tn hn (TnF_ex hex) hc1.1), GM_set (GM_set (GM_trans hm (GM_xm hxu hcm1.1)) (by decide)) (by decide), k, pl, hcf.2.1, hcf.2.2, ?_, ?_, hu.2.2.2⟩⟩
    · rw [hset_obj _ _ _ _ (by decide), hset_obj _ _ _ _ (by decide)]; exact hu.2.1
    · rw [hset_obj _ _ _ _ (by decide), hset_obj _ _ _ _ (by decide)]; exact hu.2.2.1
  · have m2' : F_M_reads 1 t27 = some (0, u) := m2
    rw [e2, cl2_some, if_neg (by decide), m2', cl2_some]
    have hex : exF (xn X) c1 s23 s' := hC3.1
    have hxu' : xmF (900 * xb X + cm1, 900 * xb X + 900) t18 u := hxu
    have hp2' : eX X p1 < p2 := hp2
    have he' : p1 < eX X p1 := he.1
    have g3 : s' (xn X + 3) R = (w1 : Int) := by rw [hex.1 _ (by omega) (by omega) (by omega)]; exact e3
    have g4 : s' (xn X + 4) R = (w2 : Int) := by rw [hex.1 _ (by omega) (by omega) (by omega)]; exact e4
    refine road_last (V := V) (V2 := V2) (hT := true) (cm1 := cm1) (cm2 := cm2) hfc.1 hb hR hy (GC_trans hg (GC_tn hn (TnF_ex hex) hc1.1)) h31c h16 hw1 hw2 g3 g4 hC3.2.2.1 hC3.2.1 ⟨by omega, hC3.2.2.2.2⟩ (GM_trans hm (GM_xm hxu' hcm1.1)) h31 h3 ?_
    rcases hM with ⟨a1, a2, a3⟩ | ⟨a1, a2, a3, a4⟩
    · exact Or.inl ⟨a1, a2, a3⟩
    · refine Or.inr ⟨a1, ⟨a2, ?_, ?_, ?_⟩, ⟨RC_congr hRC (fun k hk => hex.2.2.2 k hk), fun _ => hC3.2.2.2.1, fun y => absurd y (by decide)⟩, ⟨RM_congr hRM (fun k hk => hxu'.2.2 _ (by dsimp only; omega)) (Nat.le_refl _) (fun _ _ => rfl), fun _ => a3, fun y => absurd y (by decide)⟩, hc2, a4⟩
      · rw [hxu'.1 10 (by decide) (by decide)]; exact h30.2.1
      · rw [hxu'.1 11 (by decide) (by decide)]; exact h30.2.2.1
      · rw [hxu'.1 12 (by decide) (by decide)]; exact h30.2.2.2
/-- the class behind a road's names -/
def roC (σ : Hp) : Option (Int × Hp) := cl2 (F_Rdr_skip 259 σ) fun v10 s11 => if v10 = 0 then F_Rdr_roadGoes_20 s11 else lt (s11 3 1).toNat fun q14 => gd (isNet q14) <| lt (s11 q14 14) fun y1_16 => lt (s11 3 1).toNat fun q17 => gd (isNet q17) <| cl2 (F_Net_beginRoad q17 (s11 3 4) (s11 3 5) s11) fun _ s20 => cl2 (F_rd 40 3 0 s20) fun v22 s23 => if v22 = 0 then some (0, s23) else lt (s23 3 1).toNat fun q26 => gd (isNet q26) <| lt (s23 q26 14) fun y2_28 => if s23 3 3 = 260 then cl2 (F_Rdr_step s23) fun _ s31 => cl2 (F_rd 40 0 0 s31) fun v33 s34 => if v33 = 0 then some (0, s34) else F_Rdr_roadGoes_87 y1_16 y2_28 s34 else F_Rdr_roadGoes_87 y1_16 y2_28 s23
theorem begin_road {nn : Nat} (hin : isNet nn) (h16 : s nn 16 = (R : Int)) (hR : R < 30) : F_Net_beginRoad nn (w1 : Int) (w2 : Int) s = some (0, hset (hset s (nn + 3) R (w1 : Int)) (nn + 4) R (w2 : Int)) := by
  have hb : (0 : Int) ≤ (R : Int) ∧ (R : Int) < 30 := by omega
  have n30 : ¬ (30 : Int) ≤ (R : Int) := by omega
  have o3 : nn ≠ nn + 3 := by omega
  unfold F_Net_beginRoad F_Net_beginRoad_29
  rw [gd_pos hin, h16, if_neg n30, gd_pos hb, lt_eq, Int.toNat_natCast, hset_obj _ _ _ _ o3, h16, gd_pos hb, lt_eq, Int.toNat_natCast]
theorem road_134_go {u : Hp} (hy : y < 60) (h : F_M_must_ 512970880104 t = some (0, u)) : F_M_road_134 (y : Int) t = cl2 (F_M_reads 0 (hset u 10 y (u 0 30))) fun _ s15 => if (hset (hset s15 11 y (s15 0 30)) 12 y (s15 0 30)) 0 8 = 0 then (cl2 (F_M_isWord 2003330414 (hset (hset s15 11 y (s15 0 30)) 12 y (s15 0 30))) fun v22 s23 => if v22 = 0 then F_M_road_202 (y : Int) s23 else cl2 (F_M_next s23) fun _ s27 => cl2 (F_M_reads 1 s27) fun _ s30 => F_M_road_202 (y : Int) s30) else F_M_road_202 (y : Int) (hset (hset s15 11 y (s15 0 30)) 12 y (s15 0 30)) := by
  have hb : (0 : Int) ≤ (y : Int) ∧ (y : Int) < 60 := by omega
  unfold F_M_road_134
  rw [h, cl2_some, gd_pos hb, lt_eq, Int.toNat_natCast]
  congr 1
  funext _ s15
  rw [gd_pos hb, lt_eq, gd_pos hb, lt_eq, hset_obj (q := 11) (q' := 0) _ _ _ (by decide)]
theorem road_sum (hX : FX X) (hxs : xsQ X = s) (hxt : xt X = t) (hxc : xcQ X = c) (hxd : xd X = cm) (hC : CSt X s p c []) (hh : ChS X t p) (hcp : c ≤ p) (hcmp : cm ≤ p) (h30 : t 0 30 = (cm : Int)) (h31 : t 0 31 = (xb X : Int)) (h3 : t 3 (xb X) = (R : Int)) (h16 : s (xn X) 16 = (R : Int)) (hR : R < 30) (hy : y = 30 * xb X + R) (h4 : s 3 4 = (w1 : Int)) (h5 : s 3 5 = (w2 : Int)) (hw1 : w1 < 12) (hw2 : w2 < 12) : RFin X s t p c cm R y w1 w2 (roC s) (F_M_road_134 (y : Int) t) := by
  have hN := hX.2.1
  have hp := hC.2.2.2.2
  have hb := hX.2.2.2.1
  have h31c : s 3 1 = (xn X : Int) := (hC.fix hX).2.2.1
  have hw := both_word hX hC hh wcWorth
  by_cases c259 : kX X p = 259
  · obtain ⟨s11, t1, e1, hC1, m1, hh1, n1⟩ := hw.2 c259
    have he := eX_ok hX hp (by omega)
    have hp1 := hC1.2.2.2.2
    have hfx := hC1.fix hX
    have hn : xn X = 50 ∨ xn X = 4 := hfx.1
    have hin : isNet (xn X) := hfx.1
    have hex1 : exF (xn X) c s s11 := by
      have := hC1.1
      rw [hxs, hxc] at this
      exact this
    have hm1 : FixM t1 (xf X) (xN X) (xb X) (xW X) (xlQ X) (xmQ X) := xmF_fix hh1.1 hX.2.2.2
    have g31 : (s11 3 1).toNat = xn X := by rw [hfx.2.2.1]; exact Int.toNat_natCast _
    have g14 : s11 (xn X) 14 = (c : Int) := hC1.2.2.1
    have g16 : s11 (xn X) 16 = (R : Int) := by rw [hex1.2.2.1 16 (by decide)]; exact h16
    have g4 : s11 3 4 = (w1 : Int) := by rw [hex1.2.1 4 (by decide) (by decide) (by decide) (by decide)]; exact h4
    have g5 : s11 3 5 = (w2 : Int) := by rw [hex1.2.1 5 (by decide) (by decide) (by decide) (by decide)]; exact h5
    have i30 : t1 0 30 = (cm : Int) := by rw [n1.2 30 (by unfold nxI; decide)]; exact h30
    have i31 : t1 0 31 = (xb X : Int) := by rw [n1.2 31 (by unfold nxI; decide)]; exact h31
    have hG : roC s = cl2 (F_rd 40 3 0 (hset (hset s11 (xn X + 3) R (w1 : Int)) (xn X + 4) R (w2 : Int))) fun v22 s23 => if v22 = 0 then some (0, s23) else lt (s23 3 1).toNat fun q26 => gd (isNet q26) <| lt (s23 q26 14) fun y2_28 => if s23 3 3 = 260 then cl2 (F_Rdr_step s23) fun _ s31 => cl2 (F_rd 40 0 0 s31) fun v33 s34 => if v33 = 0 then some (0, s34) else F_Rdr_roadGoes_87 (c : Int) y2_28 s34 else F_Rdr_roadGoes_87 (c : Int) y2_28 s23 := by
      unfold roC
      rw [e1, cl2_some, if_neg (by decide), lt_eq, g31, gd_pos hin, lt_eq, g14, lt_eq, gd_pos hin, g4, g5, begin_road hin g16 hR, cl2_some]
    have hgc1 : GC (xn X) R c s (hset (hset s11 (xn X + 3) R (w1 : Int)) (xn X + 4) R (w2 : Int)) := GC_set hn (GC_set hn (GC_tn hn (TnF_ex hex1) (Nat.le_refl _)) (Or.inl rfl)) (Or.inr rfl)
    have v3 : hset (hset s11 (xn X + 3) R (w1 : Int)) (xn X + 4) R (w2 : Int) (xn X + 3) R = (w1 : Int) := by rw [hset_get, if_neg (by omega), hset_same]
    have v4 : hset (hset s11 (xn X + 3) R (w1 : Int)) (xn X + 4) R (w2 : Int) (xn X + 4) R = (w2 : Int) := hset_same _ _ _ _
    have vq : ∀ q, q ≠ xn X + 3 → q ≠ xn X + 4 → hset (hset s11 (xn X + 3) R (w1 : Int)) (xn X + 4) R (w2 : Int) q = s11 q := fun q a1 a2 => by rw [hset_obj _ _ _ _ a2, hset_obj _ _ _ _ a1]
    generalize hset (hset s11 (xn X + 3) R (w1 : Int)) (xn X + 4) R (w2 : Int) = s20 at hG hgc1 v3 v4 vq
    have hM := road_134_go (y := y) (by omega) m1
    have hgm1 : GM 10 (xb X) y cm t (hset t1 10 y (t1 0 30)) := GM_set (GM_nx n1) (by decide)
    have x10 : hset t1 10 y (t1 0 30) 10 y = (cm : Int) := by rw [hset_same]; exact i30
    have xq : ∀ q, q ≠ 10 → hset t1 10 y (t1 0 30) q = t1 q := fun q a1 => hset_obj _ _ _ _ a1
    have hfm13 : FixM (hset t1 10 y (t1 0 30)) (xf X) (xN X) (xb X) (xW X) (xlQ X) (xmQ X) := FixM_8 hm1 (by decide)
    have hTk13 : kX X (eX X p) ≠ -2 → TkM (hset t1 10 y (t1 0 30)) (xf X) (xN X) (eX X p) := fun z => TkM_8 (hh1.tk hX hp1 z).2.2 (by decide)
    generalize hset t1 10 y (t1 0 30) = t13 at hM hgm1 x10 xq hfm13 hTk13
    have hfc20 : FixC s20 (xf X) (xN X) (xkQ X) (xn X) (xW X) (xlQ X) (xmQ X) := by
      obtain ⟨f1, f2, f3, f4, f5⟩ := hfx
      exact ⟨f1, ScnC_cg f2 (fun q a1 a2 => vq q (by omega) (by omega)), by rw [vq 3 (by omega) (by omega)]; exact f3, by rw [vq _ (by omega) (by omega)]; exact f4, fun w hw => by rw [vq _ (by omega) (by omega), vq _ (by omega) (by omega)]; exact f5 w hw⟩
    have hX1 : FX (reT X c cm s20 t13 0) := ⟨hX.1, hX.2.1, hfc20, hfm13⟩
    have hA20 : AtC s20 (xf X) (xN X) (xkQ X) (eX X p) := AtC_cg hC1.2.1 (vq 3 (by omega) (by omega))
    have hC20 : CSt (reT X c cm s20 t13 0) s20 (eX X p) c [] := ⟨exF_rfl, hA20, by show s20 (xn X) 14 = _; rw [vq _ (by omega) (by omega)]; exact g14, RC_nil (by show c ≤ 900; omega), hp1⟩
    have hh13 : ChS (reT X c cm s20 t13 0) t13 (eX X p) := by
      refine ⟨xmF_rfl, ?_⟩
      by_cases cmf : kX X (eX X p) = -2
      · have hbd := hh1.bad cmf
        exact Or.inl ⟨cmf, by rw [xq 0 (by decide)]; exact hbd.1, by rw [xq 0 (by decide)]; exact hbd.2⟩
      · exact Or.inr (hTk13 cmf)
    rcases reads_any hX1 (n0 := 3) (Or.inl ⟨rfl, rfl⟩) hC20 (by omega) hh13 (by rw [xq 0 (by decide)]; exact i30) (by show cm ≤ _; omega) (by rw [xq 0 (by decide)]; exact i31) with ⟨s', k, pl, u, e2, hcf, m2, hu⟩ | ⟨s', u, e2, m2, p2, c2, cm2, V, hC3, hc2, hp2, hvr, hxu, hRd⟩
    · have m2' : F_M_reads 0 t13 = some (0, u) := m2
      have h0 : hset (hset u 11 y (u 0 30)) 12 y (u 0 30) 0 = u 0 := by rw [hset_obj _ _ _ _ (by decide), hset_obj _ _ _ _ (by decide)]
      have hbad : 0 < hset (hset u 11 y (u 0 30)) 12 y (u 0 30) 0 8 := by rw [h0]; have := hu.2.1; have := hu.2.2.2; omega
      rw [e2, cl2_some, if_pos rfl] at hG
      rw [m2', cl2_some, if_neg (by omega), road_202_bad hbad (by omega)] at hM
      have hex : exF (xn X) c s20 s' := hcf.1
      have hxu : xmF (900 * xb X + cm, 900 * xb X + 900) t13 u := hu.1
      refine ⟨0, s', _, hG, hM, Or.inl ⟨rfl, GC_trans hgc1 (GC_tn hn (TnF_ex hex) (Nat.le_refl _)), GM_set (GM_set (GM_set (GM_set (GM_trans hgm1 (GM_xm hxu (Nat.le_refl _))) (by decide)) (by decide)) (by decide)) (by decide), k, pl, hcf.2.1, hcf.2.2, ?_, ?_, hu.2.2.2⟩⟩
      · rw [hset_obj _ _ _ _ (by decide), hset_obj _ _ _ _ (by decide), h0]; exact hu.2.1
      · rw [hset_obj _ _ _ _ (by decide), hset_obj _ _ _ _ (by decide), h0]; exact hu.2.2.1
    · have m2' : F_M_reads 0 t13 = some (0, u) := m2
      have hex : exF (xn X) c s20 s' := hC3.1
      have hxu' : xmF (900 * xb X + cm, 900 * xb X + 900) t13 u := hxu
      have hp2' : eX X p < p2 := hp2
      have hRC := hC3.2.2.2.1
      have hfc' := exF_fix hex hfc20
      have k31 : (s' 3 1).toNat = xn X := by rw [hfc'.2.2.1]; exact Int.toNat_natCast _
      have k14 : s' (xn X) 14 = (c2 : Int) := hC3.2.2.1
      have k33 : s' 3 3 = kX X p2 := hC3.k
      have k3 : s' (xn X + 3) R = (w1 : Int) := by rw [hex.1 _ (by omega) (by omega) (by omega)]; exact v3
      have k4 : s' (xn X + 4) R = (w2 : Int) := by rw [hex.1 _ (by omega) (by omega) (by omega)]; exact v4
      rw [e2, cl2_some, if_neg (by decide), lt_eq, k31, gd_pos hin, lt_eq, k14, k33] at hG
      rw [m2', cl2_some] at hM
      have hgc2 := GC_trans hgc1 (GC_tn (R := R) hn (TnF_ex hex) (Nat.le_refl c))
      have hgm2 : GM 10 (xb X) y cm t (hset (hset u 11 y (u 0 30)) 12 y (u 0 30)) := GM_set (GM_set (GM_trans hgm1 (GM_xm hxu' (Nat.le_refl _))) (by decide)) (by decide)
      have h0 : hset (hset u 11 y (u 0 30)) 12 y (u 0 30) 0 = u 0 := by rw [hset_obj _ _ _ _ (by decide), hset_obj _ _ _ _ (by decide)]
      have hq : ∀ q, q ≠ 11 → q ≠ 12 → hset (hset u 11 y (u 0 30)) 12 y (u 0 30) q = u q := fun q a1 a2 => by rw [hset_obj _ _ _ _ a2, hset_obj _ _ _ _ a1]
      have h11 : hset (hset u 11 y (u 0 30)) 12 y (u 0 30) 11 y = u 0 30 := by rw [hset_get, if_neg (by omega), hset_same]
      have h12 : hset (hset u 11 y (u 0 30)) 12 y (u 0 30) 12 y = u 0 30 := hset_same _ _ _ _
      generalize hset (hset u 11 y (u 0 30)) 12 y (u 0 30) = t18 at hM hgm2 h0 hq h11 h12
      rcases hRd with ⟨a1, a2, a3⟩ | ⟨a1, a2, a3, a4⟩
      · have a1' : kX X p2 = -2 := a1
        rw [if_neg (by omega)] at hG
        rw [if_neg (by rw [h0]; omega)] at hM
        rw [hG, hM]
        exact road_last (V := V) (V2 := V) (hT := false) (cm1 := cm2) (cm2 := cm2) hin hb hR hy hgc2 h31c h16 hw1 hw2 k3 k4 k14 hC3.2.1 ⟨by omega, hC3.2.2.2.2⟩ hgm2 h31 h3 (Or.inl ⟨a1', by rw [h0]; exact a2, by rw [h0]; exact a3⟩)
      · have a1' : TkM u (xf X) (xN X) p2 := a1
        have b1 : TkM t18 (xf X) (xN X) p2 := TkM_congr a1' (fun i _ _ => by rw [h0])
        have b2 : t18 0 30 = (cm2 : Int) ∧ t18 10 y = (cm : Int) ∧ t18 11 y = (cm2 : Int) ∧ t18 12 y = (cm2 : Int) := ⟨by rw [h0]; exact a2, by rw [hq 10 (by decide) (by decide), hxu'.1 10 (by decide) (by decide)]; exact x10, by rw [h11]; exact a2, by rw [h12]; exact a2⟩
        have b3 : RM t18 (xb X) (xW X) (xlQ X) cm cm2 [V] := RM_cg a3 (hq 17 (by decide) (by decide)) (hq 18 (by decide) (by decide))
        have hfm18 : FixM t18 (xf X) (xN X) (xb X) (xW X) (xlQ X) (xmQ X) := by
          obtain ⟨f1, ⟨f2, f3, f4⟩, f5, f6, f7⟩ := xmF_fix hxu' hfm13
          exact ⟨f1, ⟨by rw [h0]; exact f2, f3, fun k hk => by rw [hq 1 (by decide) (by decide)]; exact f4 k hk⟩, by rw [h0]; exact f5, by rw [hq 2 (by decide) (by decide)]; exact f6, fun w hw => by rw [hq 6 (by decide) (by decide), hq 7 (by decide) (by decide)]; exact f7 w hw⟩
        have T18 : TK (reT X c cm s' t18 0) t18 p2 := ⟨⟨hX.1, hX.2.1, hfc', hfm18⟩, hC3.2.2.2.2, b1⟩
        rw [if_pos (by rw [h0]; exact a1'.2.1.1)] at hM
        by_cases c260 : kX X p2 = 260
        · rw [if_pos c260] at hG
          rw [T18.wY c260 wcWhen, cl2_some, if_neg (by decide)] at hM
          rw [hG, hM]
          exact road_when hX.1 hN hfc' hfm18 hR hy hgc2 h31c h16 hw1 hw2 k3 k4 k14 hC3.2.1 ⟨by omega, hC3.2.2.2.2⟩ ⟨by have := hRC.1; have : c + 1 ≤ c2 := this; omega, hc2⟩ ⟨by have := b3.1; omega, a4⟩ hgm2 h31 h3 b1 b2 hRC b3 c260
        · rw [if_neg c260] at hG
          rw [T18.wN c260 wcWhen, cl2_some, if_pos rfl] at hM
          rw [hG, hM]
          exact road_last (V := V) (V2 := V) (hT := false) (cm1 := cm2) (cm2 := cm2) hin hb hR hy hgc2 h31c h16 hw1 hw2 k3 k4 k14 hC3.2.1 ⟨by omega, hC3.2.2.2.2⟩ hgm2 h31 h3 (Or.inr ⟨b1, b2, ⟨hRC, fun y => absurd y (by decide), fun _ => rfl⟩, ⟨b3, fun y => absurd y (by decide), fun _ => rfl⟩, hc2, a4⟩)
  · obtain ⟨s', u, e1, hf, m1, hu⟩ := hw.1 c259
    have hn : xn X = 50 ∨ xn X = 4 := (hC.fix hX).1
    have hex : exF (xn X) c s s' := by
      have := hf.1
      rw [hxs, hxc] at this
      exact this
    have hxu : xmF (900 * xb X + cm, 900 * xb X + 900) t u := by
      have := hu.1
      unfold xP at this
      rw [hxt, hxd] at this
      exact this
    have hM := road_134_go (y := y) (by omega) m1
    have h0 : hset u 10 y (u 0 30) 0 = u 0 := hset_obj _ _ _ _ (by decide)
    have hg10 : GM 10 (xb X) y cm t (hset u 10 y (u 0 30)) := GM_set (GM_xm hxu (Nat.le_refl _)) (by decide)
    generalize hset u 10 y (u 0 30) = u1 at hM h0 hg10
    have h1 : hset (hset u1 11 y (u1 0 30)) 12 y (u1 0 30) 0 = u1 0 := by rw [hset_obj _ _ _ _ (by decide), hset_obj _ _ _ _ (by decide)]
    have hu8 := hu.2.1
    rw [reads_bad (by rw [h0]; omega), cl2_some, if_neg (by rw [h1, h0]; omega), road_202_bad (by rw [h1, h0]; omega) (by omega)] at hM
    refine ⟨0, s', _, ?_, hM, Or.inl ⟨rfl, GC_tn hn (TnF_ex hex) (Nat.le_refl _), GM_set (GM_set (GM_set (GM_set hg10 (by decide)) (by decide)) (by decide)) (by decide), 1, _, hf.2.1, hf.2.2, ?_, ?_, by decide⟩⟩
    · unfold roC F_Rdr_roadGoes_20
      rw [e1, cl2_some, if_pos rfl]
    · rw [hset_obj _ _ _ _ (by decide), hset_obj _ _ _ _ (by decide), h1, h0]; exact hu.2.1
    · rw [hset_obj _ _ _ _ (by decide), hset_obj _ _ _ _ (by decide), h1, h0]; exact hu.2.2.1
end RoadS
