/-! a road told, on both sides -/
section RoadT
variable {s t : Hp} {f : Nat → Int} {N cnt nn b p v c cm : Nat} {d : ND}
/-- a statement's outcome -/
def StO (f : Nat → Int) (N cnt nn b : Nat) (s t : Hp) (d : ND) (v p : Nat) (g h : Option (Int × Hp)) : Prop :=
  ∃ z s' t', g = some (z, s') ∧ h = some (0, t') ∧ TfC nn s s' ∧ TfM b t t' ∧ ((z = 0 ∧ ∃ k pl, s' 3 6 = k ∧ s' 3 7 = pl ∧ t' 0 8 = k ∧ t' 0 9 = pl ∧ 0 < k) ∨ (z = 1 ∧ ∃ p', kd f N p' = -2 ∧ AtC s' f N cnt p' ∧ ScnC s' f N cnt ∧ t' 0 8 = 1 ∧ t' 0 9 = (st f N p' : Nat)) ∨ (z = 1 ∧ ∃ d' c' cm' p', TxI f N cnt nn b s' t' d' v c' cm' p' ∧ p < p'))
theorem road_make (h : TxI f N cnt nn b s t d v c cm p) (hR : dR d < 30) {s6 t3 : Hp} {p3 w1 w2 : Nat} {g hh : Option (Int × Hp)} (hT6 : TnF nn c s s6) (hM3 : GM 8 b (30 * b + dR d) cm t t3) (h8 : t3 8 (30 * b + dR d) = (w1 : Int)) (h9 : t3 9 (30 * b + dR d) = (w2 : Int)) (hp3 : p ≤ p3) (hw1 : w1 < dW d) (hw2 : w2 < dW d) (hne : w1 ≠ w2) (hno : rdO d w1 w2 (dR d) = -1) (hF : RFin (cxT f N cnt nn b s t d c cm 0) s6 t3 p3 c cm (dR d) (30 * b + dR d) w1 w2 g hh) : StO f N cnt nn b s t d v p g hh := by
  obtain ⟨⟨g1, g2, g3, g4, g5⟩, ⟨g6, g7, g8⟩, g9, g10, ⟨gC, gM, gc, gcm⟩, gT, gt, gz⟩ := h
  have hn : nn = 50 ∨ nn = 4 := g5
  have hW : dW d ≤ 12 := g10.1.1
  obtain ⟨z, s', t', e1, e2, hr⟩ := hF
  refine ⟨z, s', t', e1, e2, ?_⟩
  rcases hr with ⟨hz, hg, hm, hk⟩ | ⟨hz, s4, u, pe, ce, c1, cm1, cm2, V, V2, hT, hg, hs', h14, ⟨e3, e4⟩, hA, ⟨hp, hpN⟩, hm, hr⟩
  · have hg' : GC nn (dR d) c s6 s' := hg
    have hm' : GM 10 b (30 * b + dR d) cm t3 t' := hm
    exact ⟨(GC_trans (GC_tn hn hT6 (Nat.le_refl _)) hg').tf, (GM_trans hM3 (GM_lo hm' (by decide))).tf hR, Or.inl ⟨hz, hk⟩⟩
  have hg' : GC nn (dR d) c s6 s4 := hg
  have hm' : GM 10 b (30 * b + dR d) cm t3 u := hm
  have hgs : GC nn (dR d) c s s4 := GC_trans (GC_tn hn hT6 (Nat.le_refl _)) hg'
  have hmt : GM 8 b (30 * b + dR d) cm t u := GM_trans hM3 (GM_lo hm' (by decide))
  have hs'' : s' = edR nn (dR d) w1 w2 c c1 s4 := hs'
  have hpN' : pe ≤ N := hpN
  clear hs' hg hm
  have hfC : TfC nn s s' := by
    rw [hs'']
    unfold edR
    exact TfC_set (TfC_set (TfC_set (TfC_set (TfC_set (TfC_set hgs.tf (by omega) (by omega)) (by omega) (by omega)) (by omega) (by omega)) (by omega) (by omega)) (by omega) (by omega)) (by omega) (by omega)
  have k3 : s' 3 = s4 3 := by rw [hs'']; exact edR_q (by omega) (by omega) (by omega) (by omega) (by omega) (by omega)
  have kq : ∀ q, 42 ≤ q → q ≤ 45 → s' q = s q := fun q a1 a2 => by rw [hs'', edR_q (by omega) (by omega) (by omega) (by omega) (by omega) (by omega), hgs.1 q (by omega) (by omega) (by omega) (by omega) (by omega)]
  have hAt : AtC s' f N cnt pe := AtC_cg hA k3
  have hSc : ScnC s' f N cnt := ScnC_cg g6 kq
  rcases hr with ⟨m1, m2, m3, m4⟩ | ⟨m1, m2, m3, m4, m5, m6, m7⟩
  · subst m2
    exact ⟨hfC, hmt.tf hR, Or.inr (Or.inl ⟨hz, pe, m1, hAt, hSc, m3, m4⟩)⟩
  · have m2' : t' = hset u 3 b ((dR d + 1 : Nat) : Int) := m2
    have kM : ∀ q, q ≠ 3 → t' q = u q := fun q a => by rw [m2']; exact hset_obj _ _ _ _ a
    have hC2 : ToC s' nn (addR d w1 w2 V hT V2) v ce := by
      rw [hs'']
      exact ToC_addR hn hR (by omega) (by omega) gC gz hgs h14 e3 e4 m4
    have u8 : u 8 (30 * b + dR d) = (w1 : Int) := by rw [hm'.2.1 8 (by decide) (by decide) _ (Or.inr (by decide))]; exact h8
    have u9 : u 9 (30 * b + dR d) = (w2 : Int) := by rw [hm'.2.1 9 (by decide) (by decide) _ (Or.inr (by decide))]; exact h9
    have hM2 : ToM t' b (addR d w1 w2 V hT V2) cm2 := by
      rw [m2']
      exact ToM_addR hR gM hmt u8 u9 m3 m5
    have hfM : TfM b t t' := by
      rw [m2']
      exact TfM_set (hmt.tf hR) (Or.inl ⟨by decide, by decide, by show 1 * b ≤ _; omega, by show _ < 1 * b + 1; omega⟩)
    refine ⟨hfC, hfM, Or.inr (Or.inr ⟨hz, addR d w1 w2 V hT V2, ce, cm2, pe, ⟨⟨g1, g2, hpN', g4, g5⟩, ⟨hSc, ?_, hAt⟩, ⟨?_, g9.2.1, fun k hk => ?_⟩, okD_addR g10 hR hw1 hw2 hne hno, ⟨hC2, hM2, m6, m7⟩, fun i hi => ?_, ?_, fun q i1 i2 => ?_⟩, by omega⟩)⟩
    · rw [k3, hgs.2.2.2.2 1 (by omega)]
      exact g7
    · rw [kM 0 (by decide), hmt.2.2.1 2 (by unfold xmI nxI; decide)]
      exact g9.1
    · rw [kM 1 (by decide), hmt.1 1 (by decide) (by omega)]
      exact g9.2.2 k hk
    · rw [kM 16 (by decide), hmt.1 16 (by decide) (by omega), hs'', edR_q (by omega) (by omega) (by omega) (by omega) (by omega) (by omega), hgs.1 _ (by omega) (by omega) (by omega) (by omega) (by omega)]
      exact gT i hi
    · exact TkM_congr m1 (fun i _ _ => by rw [kM 0 (by decide)])
    · have i1 : dR d + 1 ≤ q := i1
      rw [hs'', edR_q (by omega) (by omega) (by omega) (by omega) (by omega) (by omega), hgs.1 _ (by omega) (by omega) (by omega) (by omega) (by omega)]
      exact gz q (by omega) i2
theorem St_road (h : TxI f N cnt nn b s t d v c cm p) (hk0 : kd f N p = 258) (hR : dR d < 30) : Stm f N cnt nn b s t d v p F_Rdr_roadGoes F_M_road := by
  have hX := h.fx 0
  have hC := h.cs 0
  have hh := h.ch 0
  obtain ⟨⟨g1, g2, g3, g4, g5⟩, ⟨g6, g7, g8⟩, g9, g10, ⟨gC, gM, gc, gcm⟩, gT, gt, gz⟩ := id h
  have hn : nn = 50 ∨ nn = 4 := g5
  have hkp : kX (cxT f N cnt nn b s t d c cm 0) p = 258 := hk0
  have T := hh.tk hX g3 (by omega)
  obtain ⟨y, hy⟩ : ∃ y, y = 30 * b + dR d := ⟨_, rfl⟩
  have hy60 : y < 60 := by omega
  have hyb : (0 : Int) ≤ (y : Int) ∧ (y : Int) < 60 := by omega
  obtain ⟨z0, t1, m1, n1, hh1, hr⟩ := names2r (s := s) (t := t) (c := c) hX rfl rfl rfl hC hh (by omega) y
  have hb2 : (0 : Int) ≤ (b : Int) ∧ (b : Int) < 2 := by omega
  have t131 : t1 0 31 = (b : Int) := by rw [n1.2 31 (by unfold nxI; decide)]; exact gM.2.2.2.1
  have t13 : t1 3 b = (dR d : Int) := by rw [n1.1 3 (by decide)]; exact gM.1.2.2.1
  have h30n : ¬ (dR d : Int) = 30 := by omega
  have ey : iadd (imul 30 (b : Int)) (dR d : Int) = (y : Int) := by
    rw [imul_ok (by omega), iadd_ok (by omega)]
    omega
  have hgm1 : GM 8 b y cm t t1 := GM_nx n1
  have hH : F_M_road t = if t1 0 8 ≤ 0 then (cl2 (F_M_whoRead (-1) t1) fun v58 s59 => if s59 0 8 = 0 then (cl2 (F_M_next (hset s59 8 y v58)) fun _ s65 => F_M_road_71 (y : Int) s65) else F_M_road_71 (y : Int) (hset s59 8 y v58)) else some (0, t1) := by
    have h3 : t 3 b = dR d := gM.1.2.2.1
    unfold F_M_road F_M_road_20 F_M_counts F_M_counts_13 F_M_counts_24
    rw [gM.2.2.2.1, gd_pos hb2, Int.toNat_natCast, h3, if_neg h30n, if_pos rfl, if_pos T.f8.1, m1, cl2_some, cl2_some, t131, gd_pos hb2, Int.toNat_natCast, t13, ey, lt_eq]
    by_cases c8 : t1 0 8 ≤ 0
    · rw [if_pos c8, if_pos c8]
      refine congrArg (cl2 _) ?_
      funext v58 s59
      rw [gd_pos hyb, lt_eq, Int.toNat_natCast, hset_obj (q := 8) (q' := 0) _ _ _ (by decide)]
    · rw [if_neg c8, if_neg c8]
  clear ey
  have hGbad : ∀ {s' : Hp}, F_Rdr_twoNames 258 s = some (0, s') → F_Rdr_roadGoes s = some (0, s') := fun e => by
    unfold F_Rdr_roadGoes F_Rdr_roadGoes_20
    rw [e, cl2_some, if_pos rfl]
  have gmf : ∀ {u : Hp}, GM 8 b y cm t u → TfM b t u := fun {u} g => by
    rw [hy] at g
    exact g.tf hR
  rcases hr with ⟨s', k, pl, u, e1, hcl, e2, hcf, hu⟩ | ⟨w1, z1, t2, hw1, h8, e2, m2, n2, hr⟩
  · have hxu : xmF (900 * b + cm, 900 * b + 900) t u := hcf.1
    have hgu : GM 8 b y cm t u := GM_xm hxu (Nat.le_refl _)
    have hu8 := hcf.2.1
    have hk := hcf.2.2.2
    by_cases c8 : t1 0 8 ≤ 0
    · have q0 : hset u 8 y 0 0 = u 0 := hset_obj _ _ _ _ (by decide)
      obtain ⟨u2, a1, a2, a3, a4⟩ := road_71_bad (t := hset u 8 y 0) (by rw [q0]; omega) hy60 b cm
      rw [q0] at a3 a4
      rw [if_pos c8, e2, cl2_some, if_neg (by omega), a1] at hH
      exact ⟨0, s', u2, hGbad e1, hH, hcl.1.tf, gmf (GM_trans (GM_set hgu (by decide)) a2), Or.inl ⟨rfl, k, pl, hcl.2.1, hcl.2.2, by rw [a3]; exact hu8, by rw [a4]; exact hcf.2.2.1, hk⟩⟩
    · rw [if_neg c8] at hH
      have e := hu (by omega)
      subst e
      exact ⟨0, s', u, hGbad e1, hH, hcl.1.tf, gmf hgu, Or.inl ⟨rfl, k, pl, hcl.2.1, hcl.2.2, hu8, hcf.2.2.1, hk⟩⟩
  rw [if_pos (by omega), e2, cl2_some, if_pos h8, m2, cl2_some] at hH
  have hgm2 : GM 8 b y cm t t2 := GM_trans (GM_set hgm1 (by decide)) (GM_nx n2)
  have t28 : t2 8 y = (w1 : Int) := by rw [n2.1 8 (by decide), hset_same]
  have hw1' : w1 < dW d := hw1
  have hW : dW d ≤ 12 := g10.1.1
  have hH2 : F_M_road t = cl2 (F_M_whoRead (w1 : Int) t2) fun v37 s38 => if s38 0 8 = 0 then (gd (0 ≤ (y : Int) ∧ (y : Int) < 60) <| gd (0 ≤ (y : Int) ∧ (y : Int) < 60) <| cl2 (F_M_roadOf ((hset s38 9 y v37) 8 y) ((hset s38 9 y v37) 9 y) (hset s38 9 y v37)) fun v45 s46 => if v45 = -1 then F_M_road_123 (y : Int) s46 else cl2 (F_M_blame 2 (s46 0 4) s46) fun _ s50 => F_M_road_123 (y : Int) s50) else F_M_road_123 (y : Int) (hset s38 9 y v37) := by
    rw [hH]
    unfold F_M_road_71
    rw [gd_pos hyb, Int.toNat_natCast, t28]
    congr 1
    funext v37 s38
    rw [gd_pos hyb, lt_eq, hset_obj (q := 9) (q' := 0) _ _ _ (by decide)]
  clear hH
  rcases hr with ⟨s', k, pl, u, e1, hcl, e3, hu8, hu9, hk, hxu⟩ | ⟨w2, s36, hw2, hne, e3, c280, hT2, hpp, hp2, hA, h14, h34, h35, hTn, e4⟩
  · have hxu' : xmF (900 * b + cm, 900 * b + 900) t2 u := hxu
    have q0 : hset u 9 y 0 0 = u 0 := hset_obj _ _ _ _ (by decide)
    obtain ⟨u2, a1, a2, a3, a4⟩ := road_123_bad (t := hset u 9 y 0) (by rw [q0]; omega) hy60 b cm
    rw [q0] at a3 a4
    rw [e3, cl2_some, if_neg (by omega), a1] at hH2
    exact ⟨0, s', u2, hGbad e1, hH2, hcl.1.tf, gmf (GM_trans (GM_set (GM_trans hgm2 (GM_xm hxu' (Nat.le_refl _))) (by decide)) (GM_lo a2 (by decide))), Or.inl ⟨rfl, k, pl, hcl.2.1, hcl.2.2, by rw [a3]; exact hu8, by rw [a4]; exact hu9, hk⟩⟩
  have hfix := hC.fix hX
  have hw2' : w2 < dW d := hw2
  have hTn' : TnF nn c s s36 := hTn
  have hf36 := FixC_tn hfix hTn
  have h31n : (s36 3 1).toNat = nn := by
    rw [hTn'.2.2.2 1 (by omega), g7]
    exact Int.toNat_natCast _
  have hrow : s36 (nn + 9 + 1 + w1) w2 = rdO d w1 w2 (dR d) := by
    rw [hTn'.1 _ (by omega) (by omega) (by omega)]
    exact gC.1.2.2.2.2.2.2.2.1 w1 w2 (by omega) (by omega)
  have e4' : F_Rdr_twoNames 258 s = if rdO d w1 w2 (dR d) = -1 then F_Rdr_twoNames_87 258 0 s36 else F_Rdr_twoNames_87 258 1 s36 := by
    rw [← hrow]
    exact e4
  clear e4
  rw [twoNames_road g5 h31n h34 h35 (by omega) (by omega), twoNames_road g5 h31n h34 h35 (by omega) (by omega), if_pos (c := (0 : Int) = 0) rfl, if_neg (c := (1 : Int) = 0) (by decide)] at e4'
  have hT2' : TkM t2 f N (eX (cxT f N cnt nn b s t d c cm 0) (eX (cxT f N cnt nn b s t d c cm 0) p)) := hT2
  have hgm3 : GM 8 b y cm t (hset t2 9 y (w2 : Int)) := GM_set hgm2 (by decide)
  have t38 : hset t2 9 y (w2 : Int) 8 y = (w1 : Int) := by rw [hset_obj _ _ _ _ (by decide)]; exact t28
  have t39 : hset t2 9 y (w2 : Int) 9 y = (w2 : Int) := hset_same _ _ _ _
  have hT3 : TkM (hset t2 9 y (w2 : Int)) f N (eX (cxT f N cnt nn b s t d c cm 0) (eX (cxT f N cnt nn b s t d c cm 0) p)) := TkM_8 hT2' (by decide)
  have t330 : hset t2 9 y (w2 : Int) 0 30 = (cm : Int) := by
    rw [hset_obj _ _ _ _ (by decide), n2.2 30 (by unfold nxI; decide), hset_obj _ _ _ _ (by decide), n1.2 30 (by unfold nxI; decide)]
    exact gM.2.2.1
  rw [e3, cl2_some, if_pos hT2'.2.1.1, gd_pos hyb, gd_pos hyb, t38, t39] at hH2
  generalize hset t2 9 y (w2 : Int) = t41 at hgm3 t38 t39 hT3 hH2 t330
  have q31 : t41 0 31 = (b : Int) := by rw [hgm3.2.2.1 31 (by unfold xmI nxI; decide)]; exact gM.2.2.2.1
  have hNB : NetB t41 b d := by
    obtain ⟨a1, a2, a3, a4, a5, a6, a7, a8⟩ := gM.1
    exact ⟨a1, by rw [hgm3.1 2 (by decide) (by omega)]; exact a2, by rw [hgm3.1 3 (by decide) (by omega)]; exact a3, by rw [hgm3.1 4 (by decide) (by omega)]; exact a4, by rw [hgm3.1 5 (by decide) (by omega)]; exact a5, fun w hw => by rw [hgm3.1 7 (by decide) (by omega)]; exact a6 w hw, fun r hr => by rw [hgm3.2.1 8 (by decide) (by decide) _ (Or.inl (by omega)), hgm3.2.1 9 (by decide) (by decide) _ (Or.inl (by omega)), hgm3.2.1 14 (by decide) (by decide) _ (Or.inl (by omega))]; exact a7 r hr, fun i j hi hj => by rw [hgm3.1 15 (by decide) (by omega)]; exact a8 i j hi hj⟩
  obtain ⟨zr, t41', er, er2, hz⟩ := M_roadOf g10.1 hNB q31 (x := w1) (y := w2)
  subst er2
  rw [er, cl2_some] at hH2
  have hm41 : FixM t41' f N b (dW d) (al d) (nm d) := ⟨g4, ⟨by rw [hgm3.2.2.1 2 (by unfold xmI nxI; decide)]; exact g9.1, g9.2.1, fun k hk => by rw [hgm3.1 1 (by decide) (by omega)]; exact g9.2.2 k hk⟩, q31, by rw [hgm3.1 2 (by decide) (by omega)]; exact gM.1.2.1, fun w hw => by rw [hgm3.1 6 (by decide) (by omega), hgm3.1 7 (by decide) (by omega)]; exact ⟨gM.2.1 w hw, gM.1.2.2.2.2.2.1 w hw⟩⟩
  have hX36 : FX (reT (cxT f N cnt nn b s t d c cm 0) c cm s36 t41' 0) := ⟨hX.1, hX.2.1, hf36, hm41⟩
  have hC36 : CSt (reT (cxT f N cnt nn b s t d c cm 0) c cm s36 t41' 0) s36 (eX (cxT f N cnt nn b s t d c cm 0) (eX (cxT f N cnt nn b s t d c cm 0) p)) c [] := ⟨exF_rfl, hA, h14, RC_nil (by show c ≤ 900; omega), hp2⟩
  have hh36 : ChS (reT (cxT f N cnt nn b s t d c cm 0) c cm s36 t41' 0) t41' (eX (cxT f N cnt nn b s t d c cm 0) (eX (cxT f N cnt nn b s t d c cm 0) p)) := ⟨xmF_rfl, Or.inr hT3⟩
  have T41 := hh36.tk hX36 hp2 (by show kX (cxT f N cnt nn b s t d c cm 0) _ ≠ -2; omega)
  rcases hz with ⟨hz1, hz2⟩ | ⟨r, hr1, hr2, hr3⟩
  · rw [if_pos hz1] at e4'
    rw [if_pos hz2] at hH2
    obtain ⟨s6, z3, t3, e6, hC6, m6, hh6, n6⟩ := both_next hX36 hC36 hh36 (by show 0 ≤ kX (cxT f N cnt nn b s t d c cm 0) _; omega)
    have he2 := eX_ok hX36 hp2 (by show 0 ≤ kX (cxT f N cnt nn b s t d c cm 0) _; omega)
    have hp3 := hC6.2.2.2.2
    rw [e6, cl2_some] at e4'
    unfold F_M_road_123 at hH2
    rw [if_pos T41.f8.1, m6, cl2_some] at hH2
    have hG : F_Rdr_roadGoes s = roC s6 := by
      unfold F_Rdr_roadGoes
      rw [e4', cl2_some, if_neg (by decide)]
      rfl
    have hex6 : exF nn c s36 s6 := hC6.1
    have hT6 : TnF nn c s s6 := TnF_trans hTn' (TnF_ex hex6)
    have hgm6 : GM 8 b y cm t t3 := GM_trans hgm3 (GM_nx n6)
    have hfc6 := hC6.fix hX36
    have hm6 : FixM t3 f N b (dW d) (al d) (nm d) := xmF_fix hh6.1 hX36.2.2.2
    have hX6 : FX (reT (cxT f N cnt nn b s t d c cm 0) c cm s6 t3 0) := ⟨hX.1, hX.2.1, hfc6, hm6⟩
    have hC6' : CSt (reT (cxT f N cnt nn b s t d c cm 0) c cm s6 t3 0) s6 (eX (reT (cxT f N cnt nn b s t d c cm 0) c cm s36 t41' 0) (eX (cxT f N cnt nn b s t d c cm 0) (eX (cxT f N cnt nn b s t d c cm 0) p))) c [] := ⟨exF_rfl, hC6.2.1, hC6.2.2.1, RC_nil (by show c ≤ 900; omega), hp3⟩
    have hh6' : ChS (reT (cxT f N cnt nn b s t d c cm 0) c cm s6 t3 0) t3 (eX (reT (cxT f N cnt nn b s t d c cm 0) c cm s36 t41' 0) (eX (cxT f N cnt nn b s t d c cm 0) (eX (cxT f N cnt nn b s t d c cm 0) p))) := ⟨xmF_rfl, hh6.2⟩
    have u38 : t3 8 y = (w1 : Int) := by rw [n6.1 8 (by decide)]; exact t38
    have u39 : t3 9 y = (w2 : Int) := by rw [n6.1 9 (by decide)]; exact t39
    have u330 : t3 0 30 = (cm : Int) := by
      rw [n6.2 30 (by unfold nxI; decide)]
      exact t330
    have j31 : t3 0 31 = (b : Int) := by rw [n6.2 31 (by unfold nxI; decide)]; exact q31
    have j3 : t3 3 b = (dR d : Int) := by rw [n6.1 3 (by decide), hgm3.1 3 (by decide) (by omega)]; exact gM.1.2.2.1
    have j16 : s6 nn 16 = (dR d : Int) := by rw [hT6.2.1 16 (by decide)]; exact gC.1.2.2.1
    have j4 : s6 3 4 = (w1 : Int) := by rw [hex6.2.1 4 (by decide) (by decide) (by decide) (by decide)]; exact h34
    have j5 : s6 3 5 = (w2 : Int) := by rw [hex6.2.1 5 (by decide) (by decide) (by decide) (by decide)]; exact h35
    have hRF := road_sum (s := s6) (t := t3) (c := c) (cm := cm) (w1 := w1) (w2 := w2) (R := dR d) (y := y) hX6 rfl rfl rfl rfl hC6' hh6' (by omega) (by omega) u330 j31 j3 j16 hR hy j4 j5 (by omega) (by omega)
    rw [hy] at hRF hgm6 u38 u39 hH2
    have hfin := road_make h hR hT6 hgm6 u38 u39 (p3 := eX (reT (cxT f N cnt nn b s t d c cm 0) c cm s36 t41' 0) (eX (cxT f N cnt nn b s t d c cm 0) (eX (cxT f N cnt nn b s t d c cm 0) p))) (by omega) hw1' hw2' hne hz1 hRF
    rw [← hG, ← hH2] at hfin
    exact hfin
  · rw [if_neg (by omega)] at e4' hH2
    obtain ⟨s', e7, hf⟩ := hC36.fail hX36 2
    have hf' : exF nn c s36 s' := hf.1
    rw [e7, cl2_some, gd_pos (Or.inl rfl)] at e4'
    have hgb : GM 8 b y cm t (BL (reT (cxT f N cnt nn b s t d c cm 0) c cm s36 t41' 0) t41' (eX (cxT f N cnt nn b s t d c cm 0) (eX (cxT f N cnt nn b s t d c cm 0) p)) 2) := GM_trans hgm3 (GM_xm (cm' := cm) (BL_xm xmF_rfl) (Nat.le_refl _))
    obtain ⟨u2, a1, a2, a3, a4⟩ := road_123_bad (t := BL (reT (cxT f N cnt nn b s t d c cm 0) c cm s36 t41' 0) t41' (eX (cxT f N cnt nn b s t d c cm 0) (eX (cxT f N cnt nn b s t d c cm 0) p)) 2) (by rw [BL_8.1]; decide) hy60 b cm
    rw [T41.bl, cl2_some, a1] at hH2
    exact ⟨0, s', u2, hGbad e4', hH2, (TnF_trans hTn' (TnF_ex hf')).tf, gmf (GM_trans hgb (GM_lo a2 (by decide))), Or.inl ⟨rfl, 2, _, hf.2.1, hf.2.2, by rw [a3]; exact BL_8.1, by rw [a4]; exact BL_8.2, by decide⟩⟩
end RoadT
