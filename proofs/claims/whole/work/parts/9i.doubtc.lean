/-! a doubt told: all of it -/
section DoubtC
variable {s t : Hp} {f : Nat → Int} {N cnt nn b p v c cm : Nat} {d : ND}
theorem St_doubt (h : TxI f N cnt nn b s t d v c cm p) (hk0 : kd f N p = 263) (hT : dD d < 24) : Stm f N cnt nn b s t d v p F_Rdr_doubtIs F_M_doubt := by
  have hX := h.fx 0
  have hC := h.cs 0
  have hh := h.ch 0
  obtain ⟨⟨g1, g2, g3, g4, g5⟩, ⟨g6, g7, g8⟩, g9, g10, ⟨gC, gM, gc, gcm⟩, gT, gt, gz⟩ := h
  have hn : nn = 50 ∨ nn = 4 := g5
  have hkp : kX (cxT f N cnt nn b s t d c cm 0) p = 263 := hk0
  have T := hh.tk hX g3 (by omega)
  obtain ⟨z0, t1, m1, n1, hh1, hr⟩ := names2 (s := s) (c := c) hX rfl rfl hC hh (by omega) 263
  have hfm1 : TfM b t t1 := TfM_xm hh1.1
  have hH : F_M_doubt t = if t1 0 8 ≤ 0 then (cl2 (F_M_whoRead (-1) t1) fun v40 s41 => if s41 0 8 = 0 then (cl2 (F_M_next s41) fun _ s45 => F_M_doubt_48 v40 s45) else F_M_doubt_48 v40 s41) else some (0, t1) := by
    have h5 : t 5 b = dD d := gM.1.2.2.2.2.1
    have hb : (0 : Int) ≤ (b : Int) ∧ (b : Int) < 2 := by omega
    unfold F_M_doubt F_M_doubt_20 F_M_counts F_M_counts_13 F_M_counts_24
    rw [gM.2.2.2.1, gd_pos hb, Int.toNat_natCast, h5, if_neg (by omega), if_pos rfl, if_pos T.f8.1, m1, cl2_some, cl2_some]
  have hGbad : ∀ {s' : Hp}, F_Rdr_twoNames 263 s = some (0, s') → F_Rdr_doubtIs s = some (0, s') := fun e => by
    unfold F_Rdr_doubtIs
    rw [e, cl2_some, if_pos rfl]
  rcases hr with ⟨s', k, pl, u, e1, hcl, e2, hcf, hu⟩ | ⟨w1, z1, t2, hw1, h8, e2, m2, n2, hr⟩
  · by_cases c8 : t1 0 8 ≤ 0
    · rw [if_pos c8, e2, cl2_some, if_neg (by have := hcf.2.1; have := hcf.2.2.2; omega), doubt_48_bad (by have := hcf.2.1; have := hcf.2.2.2; omega)] at hH
      exact ⟨0, s', u, hGbad e1, hH, hcl.1.tf, TfM_xm hcf.1, Or.inl ⟨rfl, k, pl, hcl.2.1, hcl.2.2, hcf.2.1, hcf.2.2.1, hcf.2.2.2⟩⟩
    · rw [if_neg c8] at hH
      have e := hu (by omega)
      subst e
      exact ⟨0, s', u, hGbad e1, hH, hcl.1.tf, TfM_xm hcf.1, Or.inl ⟨rfl, k, pl, hcl.2.1, hcl.2.2, hcf.2.1, hcf.2.2.1, hcf.2.2.2⟩⟩
  rw [if_pos (by omega), e2, cl2_some, if_pos h8, m2, cl2_some] at hH
  unfold F_M_doubt_48 at hH
  rcases hr with ⟨s', k, pl, u, e1, hcl, e3, hcf⟩ | ⟨w2, s36, hw2, hne, e3, c280, hh2, hpp, hp2, hA, h14, h34, h35, hTn, e4⟩
  · rw [e3, cl2_some, if_neg (by have := hcf.2.1; have := hcf.2.2.2; omega), doubt_71_bad (by have := hcf.2.1; have := hcf.2.2.2; omega)] at hH
    exact ⟨0, s', u, hGbad e1, hH, hcl.1.tf, TfM_xm hcf.1, Or.inl ⟨rfl, k, pl, hcl.2.1, hcl.2.2, hcf.2.1, hcf.2.2.1, hcf.2.2.2⟩⟩
  have hfix := hC.fix hX
  have hW : dW d ≤ 12 := g10.1.1
  have hw1' : w1 < 12 := by
    have : w1 < dW d := hw1
    omega
  have hw2' : w2 < 12 := by
    have : w2 < dW d := hw2
    omega
  have hTn' : TnF nn c s s36 := hTn
  have hf36 := FixC_tn hfix hTn
  have h31n : (s36 3 1).toNat = nn := by
    rw [hTn'.2.2.2 1 (by omega), g7]
    exact Int.toNat_natCast _
  have hrow : s36 (nn + 9 + 1 + w1) w2 = rdO d w1 w2 (dR d) := by
    rw [hTn'.1 _ (by omega) (by omega) (by omega)]
    exact gC.1.2.2.2.2.2.2.2.1 w1 w2 hw1' hw2'
  have e4' : F_Rdr_twoNames 263 s = if rdO d w1 w2 (dR d) = -1 then F_Rdr_twoNames_87 263 0 s36 else F_Rdr_twoNames_87 263 1 s36 := by
    rw [← hrow]
    exact e4
  clear e4
  rw [twoNames_doubt g5 h31n h34 h35 hw1' hw2', twoNames_doubt g5 h31n h34 h35 hw1' hw2', if_pos (c := (0 : Int) = 0) rfl, if_neg (c := (1 : Int) = 0) (by decide)] at e4'
  have hX36 : FX (reC (cxT f N cnt nn b s t d c cm 0) c s36) := ⟨hX.1, hX.2.1, hf36, hX.2.2.2⟩
  have hC36 : CSt (reC (cxT f N cnt nn b s t d c cm 0) c s36) s36 (eX (cxT f N cnt nn b s t d c cm 0) (eX (cxT f N cnt nn b s t d c cm 0) p)) c [] := ⟨exF_rfl, hA, h14, RC_nil (by show c ≤ 900; omega), hp2⟩
  have hh36 : ChS (reC (cxT f N cnt nn b s t d c cm 0) c s36) t2 (eX (cxT f N cnt nn b s t d c cm 0) (eX (cxT f N cnt nn b s t d c cm 0) p)) := hh2
  have T2 := hh2.tk hX hp2 (by omega)
  have q31 : t2 0 31 = (b : Int) := by
    rw [n2.2 31 (by unfold nxI; decide), n1.2 31 (by unfold nxI; decide)]
    exact gM.2.2.2.1
  have tq2 : ∀ q, q ≠ 0 → t2 q = t q := fun q h => by rw [n2.1 q h, n1.1 q h]
  have hNB : NetB t2 b d := by
    obtain ⟨a1, a2, a3, a4, a5, a6, a7, a8⟩ := gM.1
    exact ⟨a1, by rw [tq2 2 (by decide)]; exact a2, by rw [tq2 3 (by decide)]; exact a3, by rw [tq2 4 (by decide)]; exact a4, by rw [tq2 5 (by decide)]; exact a5, fun w hw => by rw [tq2 7 (by decide)]; exact a6 w hw, fun r hr => by rw [tq2 8 (by decide), tq2 9 (by decide), tq2 14 (by decide)]; exact a7 r hr, fun i j hi hj => by rw [tq2 15 (by decide)]; exact a8 i j hi hj⟩
  obtain ⟨zr, t2', er, er2, hz⟩ := M_roadOf g10.1 hNB q31 (x := w1) (y := w2)
  subst er2
  rw [e3, cl2_some, if_pos (by rw [T2.f8.1]; decide), er, cl2_some] at hH
  unfold F_M_doubt_71 at hH
  rw [if_pos T2.f8.1] at hH
  rcases hz with ⟨hz1, hz2⟩ | ⟨r, hr1, hr2, hr3⟩
  · rw [if_pos hz1] at e4'
    rw [if_pos hz2, T2.bl, cl2_some, doubt_93_bad (by rw [BL_8.1]; decide)] at hH
    obtain ⟨s', e7, hf⟩ := hC36.fail hX36 3
    have hf' : exF nn c s36 s' := hf.1
    rw [e7, cl2_some, gd_pos (Or.inl rfl)] at e4'
    exact ⟨0, s', _, hGbad e4', hH, (TnF_trans hTn' (TnF_ex hf')).tf, TfM_xm (BL_xm hh2.1), Or.inl ⟨rfl, 3, _, hf.2.1, hf.2.2, BL_8.1, BL_8.2, by decide⟩⟩
  have hR30 : dR d ≤ 30 := g10.1.2.1
  rw [if_neg (by omega)] at e4'
  rw [if_neg (by omega)] at hH
  obtain ⟨s6, z3, t3, e6, hC6, m6, hh6, n6⟩ := both_next hX36 hC36 hh36 (by show 0 ≤ kX (cxT f N cnt nn b s t d c cm 0) _; omega)
  have he2 := eX_ok hX36 hp2 (by show 0 ≤ kX (cxT f N cnt nn b s t d c cm 0) _; omega)
  have hp3 := hC6.2.2.2.2
  rw [e6, cl2_some] at e4'
  unfold F_M_doubt_93 at hH
  rw [if_pos T2.f8.1, m6, cl2_some] at hH
  have hG : F_Rdr_doubtIs s = cl2 (F_Rdr_number s6) fun v5 s7 => if v5 = -1 then some (0, s7) else gd (isNet (s7 3 1).toNat) <| cl2 (F_Net_addDoubt (s7 3 1).toNat (s7 3 4) (s7 3 5) v5 s7) fun _ s12 => some (1, s12) := by
    unfold F_Rdr_doubtIs
    rw [e4', cl2_some, if_neg (by decide)]
    rfl
  have hnu := both_number hX36 hC6 hh6
  unfold F_M_doubt_104 at hH
  by_cases c281 : kX (reC (cxT f N cnt nn b s t d c cm 0) c s36) (eX (reC (cxT f N cnt nn b s t d c cm 0) c s36) (eX (cxT f N cnt nn b s t d c cm 0) (eX (cxT f N cnt nn b s t d c cm 0) p))) = 281
  · obtain ⟨s9, t9, e9, hC9, m9, hh9, n9, a0, a9⟩ := hnu.2 c281
    have he3 := eX_ok hX36 hp3 (by omega)
    have hp4 := hC9.2.2.2.2
    generalize nv (xf (reC (cxT f N cnt nn b s t d c cm 0) c s36)) (xN (reC (cxT f N cnt nn b s t d c cm 0) c s36)) (eX (reC (cxT f N cnt nn b s t d c cm 0) c s36) (eX (cxT f N cnt nn b s t d c cm 0) (eX (cxT f N cnt nn b s t d c cm 0) p))) = a at e9 m9 a0 a9
    have hex9 : exF nn c s36 s9 := hC9.1
    have hT9 : TnF nn c s s9 := TnF_trans hTn' (TnF_ex hex9)
    have k34 : s9 3 4 = (w1 : Int) := by rw [hex9.2.1 4 (by decide) (by decide) (by decide) (by decide)]; exact h34
    have k35 : s9 3 5 = (w2 : Int) := by rw [hex9.2.1 5 (by decide) (by decide) (by decide) (by decide)]; exact h35
    have k1 : (s9 3 1).toNat = nn := by
      rw [hT9.2.2.2 1 (by omega), g7]
      exact Int.toNat_natCast _
    have b1 : (0 : Int) ≤ (w1 : Int) ∧ (w1 : Int) < 12 := by omega
    have b2 : (0 : Int) ≤ (w2 : Int) ∧ (w2 : Int) < 12 := by omega
    have b3 : (0 : Int) ≤ (r : Int) ∧ (r : Int) < 30 := by omega
    have rn : ¬ (r : Int) = -1 := by omega
    have an : ¬ a = -1 := by omega
    have row9 : s9 (nn + 9 + 1 + w1) w2 = (r : Int) := by rw [hex9.1 _ (by omega) (by omega) (by omega), hrow, hr2]
    have s18 : s9 nn 18 = (dD d : Int) := by rw [hT9.2.1 18 (by decide)]; exact gC.1.2.2.2.2.1
    have o1 : nn ≠ nn + 5 := by omega
    have hadd : F_Net_addDoubt nn (w1 : Int) (w2 : Int) a s9 = some (0, hset (hset s9 (nn + 5) r a) nn 18 ((dD d + 1 : Nat) : Int)) := by
      have e18 : iadd (dD d : Int) 1 = ((dD d + 1 : Nat) : Int) := by rw [iadd_ok (by omega)]; omega
      unfold F_Net_addDoubt F_Net_addDoubt_34
      rw [gd_pos g5, gd_pos b1, gd_pos b2, lt_eq, Int.toNat_natCast, Int.toNat_natCast, row9, if_neg rn, gd_pos b3, lt_eq, Int.toNat_natCast, hset_obj _ _ _ _ o1, s18, e18, lt_eq]
    rw [e9, cl2_some, if_neg an, k1, gd_pos g5, k34, k35, hadd, cl2_some] at hG
    rw [m9, cl2_some] at hH
    obtain ⟨s', hs2⟩ : ∃ s', s' = hset (hset s9 (nn + 5) r a) nn 18 ((dD d + 1 : Nat) : Int) := ⟨_, rfl⟩
    rw [← hs2] at hG
    have sq : ∀ q, q ≠ nn → q ≠ nn + 5 → s' q = s9 q := fun q i1 i2 => by rw [hs2, hset_obj _ _ _ _ i1, hset_obj _ _ _ _ i2]
    have hfC : TfC nn s s' := by
      rw [hs2]
      exact TfC_set (TfC_set hT9.tf (by omega) (by omega)) (by omega) (by omega)
    have hAt : AtC s' f N cnt _ := AtC_cg hC9.2.1 (sq 3 (by omega) (by omega))
    have hSc : ScnC s' f N cnt := ScnC_cg g6 (fun q i1 i2 => by rw [sq q (by omega) (by omega), hT9.1 q (by omega) (by omega) (by omega)])
    have hf9 : TfM b t t9 := TfM_xm hh9.1
    by_cases cmf : kX (reC (cxT f N cnt nn b s t d c cm 0) c s36) (eX (reC (cxT f N cnt nn b s t d c cm 0) c s36) (eX (reC (cxT f N cnt nn b s t d c cm 0) c s36) (eX (cxT f N cnt nn b s t d c cm 0) (eX (cxT f N cnt nn b s t d c cm 0) p)))) = -2
    · have hb9 := hh9.bad cmf
      rw [if_neg (by omega)] at hH
      exact ⟨1, s', t9, hG, hH, hfC, hf9, Or.inr (Or.inl ⟨rfl, _, cmf, hAt, hSc, hb9.1, hb9.2⟩)⟩
    · have T9 := hh9.tk hX36 hp4 cmf
      have tq : ∀ q, q ≠ 0 → t9 q = t q := fun q h => by rw [n9.1 q h, n6.1 q h, tq2 q h]
      have t0 : ∀ i, nxI i → t9 0 i = t 0 i := fun i h => by rw [n9.2 i h, n6.2 i h, n2.2 i h, n1.2 i h]
      have t931 : t9 0 31 = (b : Int) := by rw [t0 31 (by unfold nxI; decide)]; exact gM.2.2.2.1
      have hb : (0 : Int) ≤ (b : Int) ∧ (b : Int) < 2 := by omega
      have hrb : (0 : Int) ≤ ((30 * b + r : Nat) : Int) ∧ ((30 * b + r : Nat) : Int) < 60 := by omega
      have t95 : t9 5 b = (dD d : Int) := by rw [tq 5 (by decide)]; exact gM.1.2.2.2.2.1
      have eH2 : F_M_doubt t = some (0, hset (hset t9 14 (30 * b + r) a) 5 b ((dD d + 1 : Nat) : Int)) := by
        have e18 : iadd (dD d : Int) 1 = ((dD d + 1 : Nat) : Int) := by rw [iadd_ok (by omega)]; omega
        rw [hH, if_pos (by rw [T9.f8.1]; decide), hr3, gd_pos hrb, lt_eq, Int.toNat_natCast, hset_obj (q := 14) (q' := 0) _ _ _ (by decide), t931, gd_pos hb, gd_pos hb, Int.toNat_natCast, hset_obj (q := 14) (q' := 5) _ _ _ (by decide), t95, e18, lt_eq]
      obtain ⟨t', ht2⟩ : ∃ t', t' = hset (hset t9 14 (30 * b + r) a) 5 b ((dD d + 1 : Nat) : Int) := ⟨_, rfl⟩
      rw [← ht2] at eH2
      have uq : ∀ q, q ≠ 5 → q ≠ 14 → t' q = t9 q := fun q i1 i2 => by rw [ht2, hset_obj _ _ _ _ i1, hset_obj _ _ _ _ i2]
      have hfM : TfM b t t' := by
        rw [ht2]
        exact TfM_set (TfM_set hf9 (Or.inl ⟨by decide, by decide, by show 30 * b ≤ _; omega, by show _ < 30 * b + 30; omega⟩)) (Or.inl ⟨by decide, by decide, by show 1 * b ≤ _; omega, by show _ < 1 * b + 1; omega⟩)
      refine ⟨1, s', t', hG, eH2, hfC, hfM, Or.inr (Or.inr ⟨rfl, addU d r a, c, cm, _, ⟨⟨g1, g2, hp4, g4, g5⟩, ⟨hSc, ?_, hAt⟩, ⟨?_, g9.2.1, fun k hk => ?_⟩, okD_addU g10 hT ⟨a0, a9⟩, ⟨ToC_addU gC (fun i => ?_) ?_ (fun i i1 => ?_) (fun q i1 i2 i3 => ?_) (fun k hk => ?_), ToM_addU gM (fun i => ?_) ?_ (fun i hi => ?_) (fun q i1 i2 i3 i4 => ?_), by omega, by omega⟩, fun i hi => ?_, ?_, fun q i1 i2 => ?_⟩, by omega⟩)⟩
      · rw [sq 3 (by omega) (by omega), hT9.2.2.2 1 (by omega)]
        exact g7
      · rw [uq 0 (by decide) (by decide), t0 2 (by unfold nxI; decide)]
        exact g9.1
      · rw [uq 1 (by decide) (by decide), tq 1 (by decide)]
        exact g9.2.2 k hk
      · rw [hs2, hset_obj _ _ _ _ (by omega), hset_row, hT9.1 _ (by omega) (by omega) (by omega)]
      · rw [hs2, hset_same]
      · rw [hs2, hset_get, if_neg (by omega), hset_obj _ _ _ _ (by omega)]
        by_cases c14 : i = 14
        · rw [c14]
          have x2' : s9 nn 14 = (c : Int) := hC9.2.2.1
          rw [x2', gC.2.2.1]
        · rw [hT9.2.1 i c14]
      · rw [sq q (by omega) (by omega), hT9.1 q (by omega) (by omega) (by omega)]
      · rw [sq _ (by omega) (by omega), hT9.2.2.1 k hk]
      · rw [ht2, hset_obj _ _ _ _ (by decide), hset_row, tq 14 (by decide)]
        dsimp only
        by_cases e : i = r
        · rw [if_pos e, if_pos (by omega)]
        · rw [if_neg e, if_neg (by omega)]
      · rw [ht2, hset_same]
      · rcases hi with rfl | rfl
        · rw [uq 0 (by decide) (by decide), t0 30 (by unfold nxI; decide)]
        · rw [uq 0 (by decide) (by decide), t0 31 (by unfold nxI; decide)]
      · rw [uq q (by omega) (by omega), tq q (by omega)]
      · rw [sq _ (by omega) (by omega), hT9.1 _ (by omega) (by omega) (by omega), uq 16 (by decide) (by decide), tq 16 (by decide)]
        exact gT i hi
      · exact TkM_congr T9.2.2 (fun i _ _ => by rw [uq 0 (by decide) (by decide)])
      · have i1 : dR d ≤ q := i1
        rw [hs2, hset_obj _ _ _ _ (by omega), hset_row, hT9.1 _ (by omega) (by omega) (by omega)]
        dsimp only
        rw [if_neg (by omega)]
        exact gz q i1 i2
  · obtain ⟨s7, u, z, e7, hf, m7, hcf⟩ := hnu.1 c281
    have hf' : exF nn c s36 s7 := hf.1
    have hb8 := hcf.2.1
    rw [m7, cl2_some, if_neg (by omega)] at hH
    rw [e7, cl2_some, if_pos rfl] at hG
    exact ⟨0, s7, u, hG, hH, (TnF_trans hTn' (TnF_ex hf')).tf, TfM_xm hcf.1, Or.inl ⟨rfl, 1, _, hf.2.1, hf.2.2, hcf.2.1, hcf.2.2.1, by decide⟩⟩
end DoubtC
