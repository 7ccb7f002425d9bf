/-! a taste told: all of it -/
section TasteC
variable {s t : Hp} {f : Nat → Int} {N cnt nn b p v c cm : Nat} {d : ND}
theorem ToC_addT (h : ToC s nn d v c) {x y : Nat} {a : Int} {s' : Hp} (hrow : ∀ i j, i < 12 → j < 12 → s' (nn + 22 + 1 + i) j = if i = x ∧ j = y then a else s (nn + 22 + 1 + i) j) (h17 : s' nn 17 = ((dT d + 1 : Nat) : Int)) (h0 : ∀ i, i ≠ 17 → s' nn i = s nn i) (hq : ∀ q, nn + 1 ≤ q → q ≤ nn + 21 → s' q = s q) (h36 : ∀ k, k < c → s' (nn + 36) k = s (nn + 36) k) : ToC s' nn (addT d x y a) v c := by
  obtain ⟨⟨a1, a2, a3, a4, a5, a6, a7, a8, a9⟩, b1, b2, b3, b4⟩ := h
  refine ⟨⟨a1, by rw [h0 15 (by decide)]; exact a2, by rw [h0 16 (by decide)]; exact a3, h17, by rw [h0 18 (by decide)]; exact a5, fun w hw => ?_, fun r hr => ?_, fun i j hi hj => ?_, fun i j hi hj => ?_⟩, fun w hw => ?_, by rw [h0 14 (by decide)]; exact b2, by rw [h0 19 (by decide)]; exact b3, fun r hr => ?_⟩
  · rw [hq _ (by omega) (by omega)]; exact a6 w hw
  · rw [hq _ (by omega) (by omega), hq _ (by omega) (by omega), hq _ (by omega) (by omega)]; exact a7 r hr
  · rw [hq _ (by omega) (by omega), a8 i j hi hj]
    exact (rdO_addT i j _).symm
  · rw [hrow i j hi hj]
    show _ = if i = x ∧ j = y then a else ta d i j
    by_cases e : i = x ∧ j = y
    · rw [if_pos e, if_pos e]
    · rw [if_neg e, if_neg e]; exact a9 i j hi hj
  · rw [hq _ (by omega) (by omega)]; exact b1 w hw
  · obtain ⟨c0, c1, c2, ⟨e1, e2, e3, e4⟩, r1, r2, r3⟩ := b4 r hr
    refine ⟨c0, c1, c2, ⟨by rw [hq _ (by omega) (by omega)]; exact e1, by rw [hq _ (by omega) (by omega)]; exact e2, by rw [hq _ (by omega) (by omega)]; exact e3, e4⟩, RC_congr r1 (fun k hk => h36 k (by have := RoC_le r2 r3; omega)), fun z => RC_congr (r2 z) (fun k hk => h36 k (by omega)), r3⟩
theorem ToM_addT (h : ToM t b d cm) {x y : Nat} {a : Int} {t' : Hp} (h15 : ∀ i j, i < 12 → j < 12 → t' 15 (144 * b + 12 * i + j) = if i = x ∧ j = y then a else t 15 (144 * b + 12 * i + j)) (h4 : t' 4 b = ((dT d + 1 : Nat) : Int)) (h0 : ∀ i, i = 30 ∨ i = 31 → t' 0 i = t 0 i) (hq : ∀ q, (2 ≤ q ∧ q ≤ 3) ∨ (5 ≤ q ∧ q ≤ 14) ∨ q = 17 ∨ q = 18 → t' q = t q) : ToM t' b (addT d x y a) cm := by
  obtain ⟨⟨a1, a2, a3, a4, a5, a6, a7, a8⟩, b1, b2, b3, b4⟩ := h
  refine ⟨⟨a1, by rw [hq 2 (by omega)]; exact a2, by rw [hq 3 (by omega)]; exact a3, h4, by rw [hq 5 (by omega)]; exact a5, fun w hw => by rw [hq 7 (by omega)]; exact a6 w hw, fun r hr => by rw [hq 8 (by omega), hq 9 (by omega), hq 14 (by omega)]; exact a7 r hr, fun i j hi hj => ?_⟩, fun w hw => by rw [hq 6 (by omega)]; exact b1 w hw, by rw [h0 30 (Or.inl rfl)]; exact b2, by rw [h0 31 (Or.inr rfl)]; exact b3, fun r hr => ?_⟩
  · rw [h15 i j hi hj]
    show _ = if i = x ∧ j = y then a else ta d i j
    by_cases e : i = x ∧ j = y
    · rw [if_pos e, if_pos e]
    · rw [if_neg e, if_neg e]; exact a8 i j hi hj
  · obtain ⟨c0, c1, c2, e1, r1, r2, r3⟩ := b4 r hr
    refine ⟨c0, c1, c2, by rw [hq 10 (by omega), hq 11 (by omega), hq 12 (by omega), hq 13 (by omega)]; exact e1, RM_congr r1 (fun k _ => by rw [hq 17 (by omega), hq 18 (by omega)]; exact ⟨rfl, rfl⟩) (Nat.le_refl _) (fun _ _ => rfl), fun z => RM_congr (r2 z) (fun k _ => by rw [hq 17 (by omega), hq 18 (by omega)]; exact ⟨rfl, rfl⟩) (Nat.le_refl _) (fun _ _ => rfl), r3⟩
theorem St_taste (h : TxI f N cnt nn b s t d v c cm p) (hk0 : kd f N p = 261) (hT : dT d < 24) : Stm f N cnt nn b s t d v p F_Rdr_tasteIs F_M_taste := by
  have hX := h.fx 0
  have hC := h.cs 0
  have hh := h.ch 0
  obtain ⟨⟨g1, g2, g3, g4, g5⟩, ⟨g6, g7, g8⟩, g9, g10, ⟨gC, gM, gc, gcm⟩, gT, gt, gz⟩ := h
  have hn : nn = 50 ∨ nn = 4 := g5
  have hkp : kX (cxT f N cnt nn b s t d c cm 0) p = 261 := hk0
  have T := hh.tk hX g3 (by omega)
  obtain ⟨z0, t1, m1, n1, hh1, hr⟩ := names2 (s := s) (c := c) hX rfl rfl hC hh (by omega) 261
  have hfm1 : TfM b t t1 := TfM_xm hh1.1
  have hH : F_M_taste t = if t1 0 8 ≤ 0 then (cl2 (F_M_whoRead (-1) t1) fun v40 s41 => if s41 0 8 = 0 then (cl2 (F_M_next s41) fun _ s45 => F_M_taste_48 v40 s45) else F_M_taste_48 v40 s41) else some (0, t1) := by
    have h4 : t 4 b = dT d := gM.1.2.2.2.1
    have hb : (0 : Int) ≤ (b : Int) ∧ (b : Int) < 2 := by omega
    unfold F_M_taste F_M_taste_20 F_M_counts F_M_counts_13 F_M_counts_24
    rw [gM.2.2.2.1, gd_pos hb, Int.toNat_natCast, h4, if_neg (by omega), if_pos rfl, if_pos T.f8.1, m1, cl2_some, cl2_some]
  have hGbad : ∀ {s' : Hp}, F_Rdr_twoNames 261 s = some (0, s') → F_Rdr_tasteIs s = some (0, s') := fun e => by
    unfold F_Rdr_tasteIs
    rw [e, cl2_some, if_pos rfl]
  rcases hr with ⟨s', k, pl, u, e1, hcl, e2, hcf, hu⟩ | ⟨w1, z1, t2, hw1, h8, e2, m2, n2, hr⟩
  · by_cases c8 : t1 0 8 ≤ 0
    · rw [if_pos c8, e2, cl2_some, if_neg (by have := hcf.2.1; have := hcf.2.2.2; omega), taste_48_bad (by have := hcf.2.1; have := hcf.2.2.2; omega)] at hH
      exact ⟨0, s', u, hGbad e1, hH, hcl.1.tf, TfM_xm hcf.1, Or.inl ⟨rfl, k, pl, hcl.2.1, hcl.2.2, hcf.2.1, hcf.2.2.1, hcf.2.2.2⟩⟩
    · rw [if_neg c8] at hH
      have e := hu (by omega)
      subst e
      exact ⟨0, s', u, hGbad e1, hH, hcl.1.tf, TfM_xm hcf.1, Or.inl ⟨rfl, k, pl, hcl.2.1, hcl.2.2, hcf.2.1, hcf.2.2.1, hcf.2.2.2⟩⟩
  rw [if_pos (by omega), e2, cl2_some, if_pos h8, m2, cl2_some] at hH
  unfold F_M_taste_48 at hH
  rcases hr with ⟨s', k, pl, u, e1, hcl, e3, hcf⟩ | ⟨w2, s36, hw2, hne, e3, c280, hh2, hpp, hp2, hA, h14, h34, h35, hTn, e4⟩
  · rw [e3, cl2_some, lt_eq, if_neg (by have := hcf.2.1; have := hcf.2.2.2; omega), taste_95_bad (by have := hcf.2.1; have := hcf.2.2.2; omega)] at hH
    exact ⟨0, s', u, hGbad e1, hH, hcl.1.tf, TfM_xm hcf.1, Or.inl ⟨rfl, k, pl, hcl.2.1, hcl.2.2, hcf.2.1, hcf.2.2.1, hcf.2.2.2⟩⟩
  have hfix := hC.fix hX
  have hW : dW d ≤ 12 := g10.1.1
  have hw1' : w1 < 12 := by
    have : w1 < dW d := hw1
    omega
  have hw2' : w2 < 12 := by
    have : w2 < dW d := hw2
    omega
  have hTn' : TnF nn c s s36 := hTn
  have hf36 := FixC_tn hfix hTn
  have h31n : (s36 3 1).toNat = nn := by
    rw [hTn'.2.2.2 1 (by omega), g7]
    exact Int.toNat_natCast _
  rw [twoNames_taste (c := 0) g5 h31n h34 h35 hw1' hw2', twoNames_taste (c := 0) g5 h31n h34 h35 hw1' hw2'] at e4
  rw [ite_self] at e4
  have hX36 : FX (reC (cxT f N cnt nn b s t d c cm 0) c s36) := ⟨hX.1, hX.2.1, hf36, hX.2.2.2⟩
  have hC36 : CSt (reC (cxT f N cnt nn b s t d c cm 0) c s36) s36 (eX (cxT f N cnt nn b s t d c cm 0) (eX (cxT f N cnt nn b s t d c cm 0) p)) c [] := ⟨exF_rfl, hA, h14, RC_nil (by show c ≤ 900; omega), hp2⟩
  have hh36 : ChS (reC (cxT f N cnt nn b s t d c cm 0) c s36) t2 (eX (cxT f N cnt nn b s t d c cm 0) (eX (cxT f N cnt nn b s t d c cm 0) p)) := hh2
  have T2 := hh2.tk hX hp2 (by omega)
  have q31 : t2 0 31 = (b : Int) := by
    rw [n2.2 31 (by unfold nxI; decide), n1.2 31 (by unfold nxI; decide)]
    exact gM.2.2.2.1
  have hyb : (0 : Int) ≤ ((144 * b + (12 * w1 + w2) : Nat) : Int) ∧ ((144 * b + (12 * w1 + w2) : Nat) : Int) < 288 := by omega
  have hbl : F_M_taste t = if t2 16 (144 * b + (12 * w1 + w2)) = 0 then F_M_taste_95 ((144 * b + (12 * w1 + w2) : Nat) : Int) t2 else cl2 (F_M_blame 2 (t2 0 4) t2) fun _ s34 => F_M_taste_95 ((144 * b + (12 * w1 + w2) : Nat) : Int) s34 := by
    have e5 : iadd (iadd (imul 144 (b : Int)) (imul 12 (w1 : Int))) (w2 : Int) = ((144 * b + (12 * w1 + w2) : Nat) : Int) := by
      rw [imul_ok (by omega), imul_ok (by omega), iadd_ok (a := 144 * (b : Int)) (b := 12 * (w1 : Int)) (by omega), iadd_ok (by omega)]
      omega
    rw [hH, e3, cl2_some, lt_eq, q31, e5, if_pos T2.f8.1, gd_pos hyb, Int.toNat_natCast]
  clear hH
  have htold : t2 16 (144 * b + (12 * w1 + w2)) = s36 (nn + 35) (12 * w1 + w2) := by
    rw [n2.1 16 (by decide), n1.1 16 (by decide), hTn'.1 _ (by omega) (by omega) (by omega)]
    exact (gT _ (by omega)).symm
  rw [htold] at hbl
  by_cases ctold : s36 (nn + 35) (12 * w1 + w2) = 0
  · rw [if_pos ctold] at e4 hbl
    obtain ⟨s6, z3, t3, e6, hC6, m6, hh6, n6⟩ := both_next hX36 hC36 hh36 (by show 0 ≤ kX (cxT f N cnt nn b s t d c cm 0) _; omega)
    have he2 := eX_ok hX36 hp2 (by show 0 ≤ kX (cxT f N cnt nn b s t d c cm 0) _; omega)
    have hp3 := hC6.2.2.2.2
    rw [e6, cl2_some] at e4
    unfold F_M_taste_95 at hbl
    rw [if_pos T2.f8.1, m6, cl2_some] at hbl
    have hG : F_Rdr_tasteIs s = if kX (reC (cxT f N cnt nn b s t d c cm 0) c s36) (eX (reC (cxT f N cnt nn b s t d c cm 0) c s36) (eX (cxT f N cnt nn b s t d c cm 0) (eX (cxT f N cnt nn b s t d c cm 0) p))) = 262 then F_Rdr_tasteIs_27 1 s6 else F_Rdr_tasteIs_27 0 s6 := by
      unfold F_Rdr_tasteIs
      rw [e4, cl2_some, if_neg (by decide), hC6.k]
    have hfin : ∀ (x : Int) (s8 t8 : Hp) (p4 : Nat), (x = 0 ∨ x = 1) → CSt (reC (cxT f N cnt nn b s t d c cm 0) c s36) s8 p4 c [] → ChS (reC (cxT f N cnt nn b s t d c cm 0) c s36) t8 p4 → nxF t2 t8 → p ≤ p4 → F_Rdr_tasteIs s = F_Rdr_tasteIs_36 x s8 → F_M_taste t = F_M_taste_139 ((144 * b + (12 * w1 + w2) : Nat) : Int) x t8 → Stm f N cnt nn b s t d v p F_Rdr_tasteIs F_M_taste := by
      intro x s8 t8 p4 hx hC8 hh8 n8 hp4 eG eH
      have k31 : t8 0 31 = (b : Int) := by rw [n8.2 31 (by unfold nxI; decide)]; exact q31
      have hex8 : exF nn c s36 s8 := hC8.1
      obtain ⟨z, s', t', f1, f2, hr⟩ := taste_fin hX36 hC8 hh8 (by rw [hex8.2.1 4 (by decide) (by decide) (by decide) (by decide)]; exact h34) (by rw [hex8.2.1 5 (by decide) (by decide) (by decide) (by decide)]; exact h35) h34 h35 hw1' hw2' x hx k31
      rcases hr with ⟨hz, hf, hcf⟩ | ⟨hz, p5, a, s9, t9, hp5, hp5N, ha, hC9, hs', hh9, n9, hr⟩
      · have hfe : exF nn c s36 s' := hf.1
        exact ⟨z, s', t', eG.trans f1, eH.trans f2, (TnF_trans hTn' (TnF_ex hfe)).tf, TfM_xm hcf.1, Or.inl ⟨hz, 1, _, hf.2.1, hf.2.2, hcf.2.1, hcf.2.2.1, by decide⟩⟩
      have hex9 : exF nn c s36 s9 := hC9.1
      have hT9 : TnF nn c s s9 := TnF_trans hTn' (TnF_ex hex9)
      have hs2 : s' = hset (hset (hset s9 (nn + 22 + 1 + w1) w2 a) (nn + 35) (12 * w1 + w2) 1) nn 17 (iadd (s9 nn 17) 1) := hs'
      have s17 : s9 nn 17 = (dT d : Int) := by rw [hT9.2.1 17 (by decide)]; exact gC.1.2.2.2.1
      have e17 : iadd (s9 nn 17) 1 = ((dT d + 1 : Nat) : Int) := by rw [s17, iadd_ok (by omega)]; omega
      rw [e17] at hs2
      clear e17
      have sq : ∀ q, q ≠ nn → q ≠ nn + 22 + 1 + w1 → q ≠ nn + 35 → s' q = s9 q := fun q i1 i2 i3 => by rw [hs2, hset_obj _ _ _ _ i1, hset_obj _ _ _ _ i3, hset_obj _ _ _ _ i2]
      have hfC : TfC nn s s' := by
        rw [hs2]
        exact TfC_set (TfC_set (TfC_set hT9.tf (by omega) (by omega)) (by omega) (by omega)) (by omega) (by omega)
      have hAt : AtC s' f N cnt p5 := AtC_cg hC9.2.1 (sq 3 (by omega) (by omega) (by omega))
      have hSc : ScnC s' f N cnt := ScnC_cg g6 (fun q i1 i2 => by rw [sq q (by omega) (by omega) (by omega), hT9.1 q (by omega) (by omega) (by omega)])
      have hf9 : TfM b t t9 := TfM_xm hh9.1
      rcases hr with ⟨m5, rfl⟩ | ⟨m5, ht'⟩
      · have hb9 := hh9.bad m5
        exact ⟨z, s', _, eG.trans f1, eH.trans f2, hfC, hf9, Or.inr (Or.inl ⟨hz, p5, m5, hAt, hSc, hb9.1, hb9.2⟩)⟩
      · have T9 := hh9.tk hX36 hp5N m5
        have tq : ∀ q, q ≠ 0 → t9 q = t q := fun q h => by rw [n9.1 q h, n8.1 q h, n2.1 q h, n1.1 q h]
        have t0 : ∀ i, nxI i → t9 0 i = t 0 i := fun i h => by rw [n9.2 i h, n8.2 i h, n2.2 i h, n1.2 i h]
        have e4' : iadd (t9 4 b) 1 = ((dT d + 1 : Nat) : Int) := by
          have h4 : t9 4 b = (dT d : Int) := by rw [tq 4 (by decide)]; exact gM.1.2.2.2.1
          rw [h4, iadd_ok (by omega)]
          omega
        have ht2 : t' = hset (hset (hset t9 16 (144 * b + (12 * w1 + w2)) 1) 15 (144 * b + (12 * w1 + w2)) a) 4 b (iadd (t9 4 b) 1) := ht'
        rw [e4'] at ht2
        clear e4' ht'
        have uq : ∀ q, q ≠ 4 → q ≠ 15 → q ≠ 16 → t' q = t9 q := fun q i1 i2 i3 => by rw [ht2, hset_obj _ _ _ _ i1, hset_obj _ _ _ _ i2, hset_obj _ _ _ _ i3]
        have hfM : TfM b t t' := by
          rw [ht2]
          exact TfM_set (TfM_set (TfM_set hf9 (Or.inl ⟨by decide, by decide, by show 144 * b ≤ _; omega, by show _ < 144 * b + 144; omega⟩)) (Or.inl ⟨by decide, by decide, by show 144 * b ≤ _; omega, by show _ < 144 * b + 144; omega⟩)) (Or.inl ⟨by decide, by decide, by show 1 * b ≤ _; omega, by show _ < 1 * b + 1; omega⟩)
        refine ⟨z, s', t', eG.trans f1, eH.trans f2, hfC, hfM, Or.inr (Or.inr ⟨hz, addT d w1 w2 a, c, cm, p5, ⟨⟨g1, g2, hp5N, g4, g5⟩, ⟨hSc, ?_, hAt⟩, ⟨?_, g9.2.1, fun k hk => ?_⟩, okD_addT g10 hT ha, ⟨ToC_addT gC (fun i j hi hj => ?_) ?_ (fun i i1 => ?_) (fun q i1 i2 => ?_) (fun k hk => ?_), ToM_addT gM (fun i j hi hj => ?_) ?_ (fun i hi => ?_) (fun q hq => ?_), by omega, by omega⟩, fun i hi => ?_, ?_, fun r i1 i2 => ?_⟩, by omega⟩)⟩
        · rw [sq 3 (by omega) (by omega) (by omega), hT9.2.2.2 1 (by omega)]
          exact g7
        · rw [uq 0 (by decide) (by decide) (by decide), t0 2 (by unfold nxI; decide)]
          exact g9.1
        · rw [uq 1 (by decide) (by decide) (by decide), tq 1 (by decide)]
          exact g9.2.2 k hk
        · by_cases ei : i = w1
          · rw [hs2, hset_obj _ _ _ _ (by omega), hset_obj _ _ _ _ (by omega), ei, hset_row, hT9.1 _ (by omega) (by omega) (by omega)]
            dsimp only
            by_cases ej : j = w2
            · rw [if_pos ej, if_pos ⟨rfl, ej⟩]
            · rw [if_neg ej, if_neg (fun y => ej y.2)]
          · rw [sq _ (by omega) (by omega) (by omega), hT9.1 _ (by omega) (by omega) (by omega), if_neg (fun y => ei y.1)]
        · rw [hs2, hset_same]
        · rw [hs2, hset_get, if_neg (by omega), hset_obj _ _ _ _ (by omega), hset_obj _ _ _ _ (by omega)]
          by_cases c14 : i = 14
          · rw [c14]
            have x2' : s9 nn 14 = (c : Int) := hC9.2.2.1
            rw [x2', gC.2.2.1]
          · rw [hT9.2.1 i c14]
        · rw [sq q (by omega) (by omega) (by omega), hT9.1 q (by omega) (by omega) (by omega)]
        · rw [sq _ (by omega) (by omega) (by omega), hT9.2.2.1 k hk]
        · rw [ht2, hset_obj _ _ _ _ (by decide), hset_row, hset_obj _ _ _ _ (by decide), tq 15 (by decide)]
          dsimp only
          by_cases e : i = w1 ∧ j = w2
          · rw [if_pos e, if_pos (by omega)]
          · rw [if_neg e, if_neg (by omega)]
        · rw [ht2, hset_same]
        · rcases hi with rfl | rfl
          · rw [uq 0 (by decide) (by decide) (by decide), t0 30 (by unfold nxI; decide)]
          · rw [uq 0 (by decide) (by decide) (by decide), t0 31 (by unfold nxI; decide)]
        · rw [uq q (by omega) (by omega) (by omega), tq q (by omega)]
        · rw [hs2, hset_obj _ _ _ _ (by omega), hset_row, hset_obj _ _ _ _ (by omega), hT9.1 _ (by omega) (by omega) (by omega), ht2, hset_obj _ _ _ _ (by decide), hset_obj _ _ _ _ (by decide), hset_row, tq 16 (by decide)]
          dsimp only
          by_cases e : i = 12 * w1 + w2
          · rw [if_pos e, if_pos (by omega)]
          · rw [if_neg e, if_neg (by omega)]
            exact gT i hi
        · exact TkM_congr T9.2.2 (fun i _ _ => by rw [uq 0 (by decide) (by decide) (by decide)])
        · rw [sq _ (by omega) (by omega) (by omega), hT9.1 _ (by omega) (by omega) (by omega)]
          exact gz r i1 i2
    have hpp3 : p ≤ eX (reC (cxT f N cnt nn b s t d c cm 0) c s36) (eX (cxT f N cnt nn b s t d c cm 0) (eX (cxT f N cnt nn b s t d c cm 0) p)) := by omega
    by_cases c262 : kX (reC (cxT f N cnt nn b s t d c cm 0) c s36) (eX (reC (cxT f N cnt nn b s t d c cm 0) c s36) (eX (cxT f N cnt nn b s t d c cm 0) (eX (cxT f N cnt nn b s t d c cm 0) p))) = 262
    · obtain ⟨s8, z8, t8, e8, hC8, m8, hh8, n8⟩ := both_next hX36 hC6 hh6 (by omega)
      have he3 := eX_ok hX36 hp3 (by omega)
      have T3 := hh6.tk hX36 hp3 (by omega)
      refine hfin 1 s8 t8 _ (Or.inr rfl) hC8 hh8 (nxF_trans n6 n8) (by omega) ?_ ?_
      · rw [hG, if_pos c262]
        unfold F_Rdr_tasteIs_27
        rw [if_neg (by decide), e8, cl2_some]
      · rw [hbl]
        unfold F_M_taste_106 F_M_taste_128
        rw [if_pos T3.f8.1, T3.wY c262 wcLess, cl2_some, if_neg (by decide), if_neg (by decide), m8, cl2_some]
    · refine hfin 0 s6 t3 _ (Or.inl rfl) hC6 hh6 n6 hpp3 ?_ ?_
      · rw [hG, if_neg c262]
        unfold F_Rdr_tasteIs_27
        rw [if_pos rfl]
      · rw [hbl]
        by_cases cm6 : kX (reC (cxT f N cnt nn b s t d c cm 0) c s36) (eX (reC (cxT f N cnt nn b s t d c cm 0) c s36) (eX (cxT f N cnt nn b s t d c cm 0) (eX (cxT f N cnt nn b s t d c cm 0) p))) = -2
        · have hb6 := hh6.bad cm6
          rw [taste_106_bad (by omega), taste_139_bad (by omega)]
        · have T3 := hh6.tk hX36 hp3 cm6
          unfold F_M_taste_106 F_M_taste_127 F_M_taste_128
          rw [if_pos T3.f8.1, T3.wN c262 wcLess, cl2_some, if_pos rfl, if_pos rfl]
  · rw [if_neg ctold] at e4 hbl
    obtain ⟨s', e7, hf⟩ := hC36.fail hX36 2
    have hf' : exF nn c s36 s' := hf.1
    rw [e7, cl2_some, gd_pos (Or.inl rfl)] at e4
    rw [T2.bl, cl2_some, taste_95_bad (by rw [BL_8.1]; decide)] at hbl
    exact ⟨0, s', _, hGbad e4, hbl, (TnF_trans hTn' (TnF_ex hf')).tf, TfM_xm (BL_xm hh2.1), Or.inl ⟨rfl, 2, _, hf.2.1, hf.2.2, BL_8.1, BL_8.2, by decide⟩⟩
end TasteC
