/-! both sides: a part, all of it -/
section PartC
variable {X : Cx}
def Hide (P : Prop) : Prop := P
theorem hide {P : Prop} (h : P) : Hide P := h
theorem Hide.s {P : Prop} (h : Hide P) : P := h
theorem SPp_round {o : Nat} {rec : Nat → Int → Hp → Option (Int × Hp)} (hX : FX X) (ho : o ≤ 8) (hrec : o < 8 → SPg X (rec 3 (iadd (o : Int) 1)) 3 (o + 1)) {s t : Hp} {p c e : Nat} {Ws : List FV} {F ph bg : Int} {base : Nat} {B : List FV} {O : List Op} (hC : CSt X s p c Ws) (hce : c + e ≤ p) (hP : PSw X t p p 0 (o + 1) F ph bg base B O []) (hSt : StP X t p (o + 1) F ph bg base B O) (hpre' : (ph = 0 ∨ ph = 1) ∧ (bg = 0 ∨ ¬ (F = 1 ∨ F = 5) ∨ (kX X p ≠ 266 ∧ kX X p ≠ 91 ∧ kX X p ≠ 267))) (hlen : Ws.length + 3 * (8 - o) + (6 - 5) ≤ 64) (c40 : kX X p = 40) : SimR X (F_Rdr_part rec (o : Int)) (rkn 5) (exN 5 ph) s p e Ws 1 t (o + 1) F base B O := by
  have hk := hC.k
  have hp := hC.2.2.2.2
  have hN := hX.2.1
  have hnet := hC.net hX
  have hfix := hC.fix hX
  have fin : ∀ {z : Int} {s' : Hp} {k pl : Int}, z = 0 → CF X s' k pl → FOt X 1 t p k pl → ((z = 0 ∧ ∃ k pl, CF X s' k pl ∧ FOt X 1 t p k pl) ∨ (z = 1 ∧ SUC X 0 (rkn 5) (exN 5 ph) p e Ws 1 t (o + 1) F base B O s')) := fun h1 h2 h3 => Or.inl ⟨h1, _, _, h2, h3⟩
  have ha := P_arith hX hP hpre'.2
  have hts : lwF t (hset t 21 (o + 1 - 1) 0) (o + 1) base := lwF_set lwF_rfl (by omega) (by omega)
  -- a round bracket
  have he := eX_ok hX hp (by omega)
  have hR := R_open hX hSt hpre'.2 c40
  have hop := (C_opensX hX hC (k := 40) (by decide) (o := o)).2 c40
  by_cases c8 : o < 8
  · obtain ⟨s1, e1, hC1⟩ := hop.2 c8
    obtain ⟨x1, t1, hL1, hK1, hlow⟩ := hR.2 (by omega)
    have h2 := hrec c8 s1 t1 x1 (eX X p) c e Ws 2 0 1 (base + O.length) (wsO B O) [] hC1 (by omega) hK1 ⟨Or.inl rfl, Or.inr (Or.inl (by decide))⟩ True.intro (by omega)
    show wp (F_Rdr_part rec (o : Int) s) _
    unfold F_Rdr_part
    rw [lt_eq, hk, if_pos c40, e1, cl2_some, if_neg (by decide)]
    refine wp_cl h2 (fun z s7 hz => ?_)
    rcases hz with ⟨rfl, k2, pl, hcf, hfo⟩ | ⟨rfl, hS⟩
    · rw [if_pos rfl]
      unfold F_Rdr_part_190 F_Rdr_part_191
      exact wp_gd (Or.inl rfl) (wp_ret (fin rfl hcf (FOt_more hL1 (by omega) hfo)))
    · rw [if_neg (by decide)]
      obtain ⟨p2, c2, n, V1, ph', hC2, hce2, hv2, hn2, hex, hvr, hbad, hgood⟩ := close_suc hX (Va := fun _ => 0) (op := 0) (Or.inl rfl) (by decide) (fun ph' k V h => ⟨Or.inl (fun y => (sgn_ar.mp y).elim (h.2.1 (Or.inr rfl)) (h.2.2.1 rfl)), fun y => absurd y (by decide)⟩) hS ha.2 hlow hts (Or.inl ⟨by decide, rfl⟩)
      have hsk := C_skipX hX hC2 (k := 41) (by decide)
      by_cases c41 : kX X p2 = 41
      · obtain ⟨s8, e8, hC8⟩ := hsk.2 c41
        obtain ⟨x3, t3, hL3, hK3⟩ := hgood c41
        have he2 := eX_ok hX hC2.2.2.2.2 (by omega)
        rw [e8, cl2_some, if_neg (by decide)]
        unfold F_Rdr_part_191
        exact wp_gd (Or.inr rfl) (wp_ret (Or.inr ⟨rfl, suc_leaf hX (by omega) hC8 (by omega) (by omega) (by omega) (LSt_trans hL1 hL3) hK3 hvr⟩))
      · obtain ⟨s8, e8, hf8⟩ := hsk.1 c41
        rw [e8, cl2_some, if_pos rfl]
        unfold F_Rdr_part_190 F_Rdr_part_191
        exact wp_gd (Or.inl rfl) (wp_ret (fin rfl hf8 (FOt_more hL1 (by omega) (hbad c41))))
  · obtain ⟨s1, e1, hf1⟩ := hop.1 c8
    refine ⟨0, s1, ?_, fin rfl hf1 (hR.1 (by omega))⟩
    unfold F_Rdr_part
    rw [lt_eq, hk, if_pos c40, e1, cl2_some, if_pos rfl]
    unfold F_Rdr_part_190 F_Rdr_part_191
    exact gd_pos (Or.inl rfl)
theorem SPp_alone {o : Nat} {rec : Nat → Int → Hp → Option (Int × Hp)} (hX : FX X) (ho : o ≤ 8) (hrec : o < 8 → SPg X (rec 3 (iadd (o : Int) 1)) 3 (o + 1)) {s t : Hp} {p c e : Nat} {Ws : List FV} {F ph bg : Int} {base : Nat} {B : List FV} {O : List Op} (hC : CSt X s p c Ws) (hce : c + e ≤ p) (hP : PSw X t p p 0 (o + 1) F ph bg base B O []) (hSt : StP X t p (o + 1) F ph bg base B O) (hpre' : (ph = 0 ∨ ph = 1) ∧ (bg = 0 ∨ ¬ (F = 1 ∨ F = 5) ∨ (kX X p ≠ 266 ∧ kX X p ≠ 91 ∧ kX X p ≠ 267))) (hlen : Ws.length + 3 * (8 - o) + (6 - 5) ≤ 64) (c40 : ¬ kX X p = 40) (c257 : kX X p = 257) : SimR X (F_Rdr_part rec (o : Int)) (rkn 5) (exN 5 ph) s p e Ws 1 t (o + 1) F base B O := by
  have hk := hC.k
  have hp := hC.2.2.2.2
  have hN := hX.2.1
  have hnet := hC.net hX
  have hfix := hC.fix hX
  have fin : ∀ {z : Int} {s' : Hp} {k pl : Int}, z = 0 → CF X s' k pl → FOt X 1 t p k pl → ((z = 0 ∧ ∃ k pl, CF X s' k pl ∧ FOt X 1 t p k pl) ∨ (z = 1 ∧ SUC X 0 (rkn 5) (exN 5 ph) p e Ws 1 t (o + 1) F base B O s')) := fun h1 h2 h3 => Or.inl ⟨h1, _, _, h2, h3⟩
  have ha := P_arith hX hP hpre'.2
  have hts : lwF t (hset t 21 (o + 1 - 1) 0) (o + 1) base := lwF_set lwF_rfl (by omega) (by omega)
  -- alone
  have he := eX_ok hX hp (by omega)
  obtain ⟨s1, e1, hC1⟩ := hC.step hX (by omega)
  have hR := R_alone hX hSt hpre'.2 c257
  have hsb := C_somebody hX hC1
  have hG : F_Rdr_part rec (o : Int) s = cl2 (F_Rdr_somebody s1) fun v56 s57 => if v56 = (-1) then some (0, s57) else lt (s57 3 1).toNat fun q60 => gd (isNet q60) <| lt (s57 3 1).toNat fun q62 => gd (isNet q62) <| gd (0 ≤ v56 ∧ v56 < (12 : Int)) <| cl2 (F_Net_emit q60 (s57 (q62 + 2) v56.toNat) s57) fun v65 s66 => cl2 (F_Rdr_step s66) fun v68 s69 => some (1, s69) := by
    unfold F_Rdr_part
    rw [lt_eq, hk, if_neg c40, if_pos c257, e1, cl2_some]
  by_cases c280 : kX X (eX X p) = 280
  · obtain ⟨z, hz, hz1, hz2⟩ := hsb.2 c280
    have hRz := hR.2 c280 z hz
    by_cases cz : z = -1
    · obtain ⟨s2, e2, hf2⟩ := hz1 cz
      refine ⟨0, s2, ?_, fin rfl hf2 (hRz.1 cz)⟩
      rw [hG, e2, cl2_some, if_pos rfl]
    · have e2 := hz2 cz
      obtain ⟨x1, t1, hL1, hK1⟩ := hRz.2 cz
      obtain ⟨w, w1, w2, w3, w4⟩ := hz.resolve_left (fun y => cz y.1)
      subst w2
      have hf1 := hC1.fix hX
      have hal := hf1.2.2.2.2 w w1
      have hW := hf1.2.2.2.1.2
      have hnet1 := hC1.net hX
      have hp1 := hC1.2.2.2.2
      have he2 := eX_ok hX hp1 (by omega)
      obtain ⟨s3, e3, hC3⟩ := hC1.emit hX (by omega) (xlQ X w) (Ws' := Ws ++ [fun _ => xlQ X w]) (fun s' a1 a2 => RC_push hnet1.2 hC1.2.2.2.1 (by omega) (by omega) (by have := hal.2.2.2; omega) a1 a2)
      obtain ⟨s4, e4, hC4⟩ := hC3.step hX (by omega)
      refine ⟨1, s4, ?_, Or.inr ⟨rfl, suc_leaf hX (by omega) hC4 (by omega) (by omega) (by omega) hL1 hK1 (vr_con (by have := hal.2.2.2; omega))⟩⟩
      · rw [hG, e2, cl2_some, if_neg cz, lt_eq, hnet1.1, gd_pos hnet1.2, lt_eq, gd_pos hnet1.2, gd_pos (by omega), Int.toNat_natCast, hal.2.1, e3, cl2_some, e4, cl2_some]
  · obtain ⟨s2, e2, hf2⟩ := hsb.1 c280
    refine ⟨0, s2, ?_, fin rfl hf2 (hR.1 c280)⟩
    rw [hG, e2, cl2_some, if_pos rfl]
theorem SPp_mm {o : Nat} {rec : Nat → Int → Hp → Option (Int × Hp)} (hX : FX X) (ho : o ≤ 8) (hrec : o < 8 → SPg X (rec 3 (iadd (o : Int) 1)) 3 (o + 1)) {s t : Hp} {p c e : Nat} {Ws : List FV} {F ph bg : Int} {base : Nat} {B : List FV} {O : List Op} (hC : CSt X s p c Ws) (hce : c + e ≤ p) (hP : PSw X t p p 0 (o + 1) F ph bg base B O []) (hSt : StP X t p (o + 1) F ph bg base B O) (hpre' : (ph = 0 ∨ ph = 1) ∧ (bg = 0 ∨ ¬ (F = 1 ∨ F = 5) ∨ (kX X p ≠ 266 ∧ kX X p ≠ 91 ∧ kX X p ≠ 267))) (hlen : Ws.length + 3 * (8 - o) + (6 - 5) ≤ 64) (c40 : ¬ kX X p = 40) (c257 : ¬ kX X p = 257) (c271 : kX X p = 271 ∨ kX X p = 272) : SimR X (F_Rdr_part rec (o : Int)) (rkn 5) (exN 5 ph) s p e Ws 1 t (o + 1) F base B O := by
  have hk := hC.k
  have hp := hC.2.2.2.2
  have hN := hX.2.1
  have hnet := hC.net hX
  have hfix := hC.fix hX
  have fin : ∀ {z : Int} {s' : Hp} {k pl : Int}, z = 0 → CF X s' k pl → FOt X 1 t p k pl → ((z = 0 ∧ ∃ k pl, CF X s' k pl ∧ FOt X 1 t p k pl) ∨ (z = 1 ∧ SUC X 0 (rkn 5) (exN 5 ph) p e Ws 1 t (o + 1) F base B O s')) := fun h1 h2 h3 => Or.inl ⟨h1, _, _, h2, h3⟩
  have ha := P_arith hX hP hpre'.2
  have hts : lwF t (hset t 21 (o + 1 - 1) 0) (o + 1) base := lwF_set lwF_rfl (by omega) (by omega)
  -- the lesser, the greater
  have he := eX_ok hX hp (by omega)
  obtain ⟨s1, e1, hC1⟩ := hC.step hX (by omega)
  have hR := hide (R_mm hX hSt hpre'.2 c271)
  have hG : F_Rdr_part rec (o : Int) s = cl2 (F_Rdr_opens 40 (o : Int) s1) fun v13 s14 => if v13 = 0 then some (0, s14) else cl2 (rec 3 (iadd (o : Int) 1) s14) fun v17 s18 => if v17 = 0 then some (0, s18) else cl2 (F_Rdr_skip 44 s18) fun v21 s22 => if v21 = 0 then some (0, s22) else cl2 (rec 3 (iadd (o : Int) 1) s22) fun v25 s26 => if v25 = 0 then some (0, s26) else cl2 (F_Rdr_skip 41 s26) fun v29 s30 => if v29 = 0 then some (0, s30) else gd (isNet (s30 3 1).toNat) (cl2 (F_Net_emit (s30 3 1).toNat (ineg (kX X p)) s30) fun v35 s36 => some (1, s36)) := by
    have h192 : ∀ k : Int, F_Rdr_part_192 rec (o : Int) k s = cl2 (F_Rdr_opens 40 (o : Int) s1) fun v13 s14 => if v13 = 0 then some (0, s14) else cl2 (rec 3 (iadd (o : Int) 1) s14) fun v17 s18 => if v17 = 0 then some (0, s18) else cl2 (F_Rdr_skip 44 s18) fun v21 s22 => if v21 = 0 then some (0, s22) else cl2 (rec 3 (iadd (o : Int) 1) s22) fun v25 s26 => if v25 = 0 then some (0, s26) else cl2 (F_Rdr_skip 41 s26) fun v29 s30 => if v29 = 0 then some (0, s30) else gd (isNet (s30 3 1).toNat) (cl2 (F_Net_emit (s30 3 1).toNat (ineg k) s30) fun v35 s36 => some (1, s36)) := fun k => by
      unfold F_Rdr_part_192
      rw [e1, cl2_some]
      rfl
    unfold F_Rdr_part
    rw [lt_eq, hk, if_neg c40, if_neg c257, if_neg (by omega), if_neg (by omega), if_neg (by omega), h192]
    by_cases c : kX X p = 271
    · rw [if_pos c]
    · rw [if_neg c, if_pos (by omega)]
  show wp (F_Rdr_part rec (o : Int) s) _
  rw [hG]
  have hk0 : 0 ≤ kX X p := by omega
  have hk2 : kX X p ≠ -2 := by omega
  have h264 : ¬ (kX X p = 264 ∨ kX X p = 265) := by omega
  have hopc : 6 ≤ opc (kX X p) ∧ opc (kX X p) ≤ 17 := by
    rcases c271 with z | z <;> rw [z] <;> decide
  have h16 : opc (kX X p) ≠ 16 := by
    rcases c271 with z | z <;> rw [z] <;> decide
  have hng : ineg (kX X p) = -(kX X p) := by
    rcases c271 with z | z <;> rw [z] <;> decide
  have hsg : sgOk (kX X p) := by
    unfold sgOk
    omega
  clear hG hpre' c40 c257 c271 hSt
  replace h264 := hide h264
  replace h16 := hide h16
  replace hng := hide hng
  replace hk2 := hide hk2
  have hop := C_opensX hX hC1 (k := 40) (by decide) (o := o)
  by_cases c40' : kX X (eX X p) = 40
  · by_cases c8 : o < 8
    · obtain ⟨s2, e2, hC2⟩ := (hop.2 c40').2 c8
      obtain ⟨x1, t1, hL1, hK1, hlow, h22⟩ := (hR.s.2 c40').2 (by omega)
      have hp1 := hC1.2.2.2.2
      have he1 := eX_ok hX hp1 (by omega)
      rw [e2, cl2_some, if_neg (by decide)]
      have h2 := hrec c8 s2 t1 x1 (eX X (eX X p)) c e Ws 3 0 1 (base + O.length) (wsO B O) [] hC2 (by omega) hK1 ⟨Or.inl rfl, Or.inr (Or.inl (by decide))⟩ True.intro (by omega)
      refine wp_cl h2 (fun z s3 hz => ?_)
      rcases hz with ⟨rfl, k2, pl, hcf, hfo⟩ | ⟨rfl, hm0, p2, c2, V, m, x2, t2, O1, Xv, ph', hC3, hce3, hvp, hm, hLS, hK2, hw, hf, hr, hex⟩
      · rw [if_pos rfl]
        exact wp_ret (fin rfl hcf (FOt_more hL1 (by omega) hfo))
      rw [if_neg (by decide)]
      have hna : ¬ arK (kX X p2) := fun y => (sgn_ar.mp y).elim (hex.2.1 (Or.inr rfl)) (hex.2.2.1 rfl)
      have hph : ph' = 0 := hex.1.2
      subst hph
      have hvr : VR V := hex.1.1
      have hp2 := hC3.2.2.2.2
      have hsk := C_skipX hX hC3 (k := 44) (by decide)
      have hL2 := LSt_trans hL1 hLS
      by_cases c44 : kX X p2 = 44
      · obtain ⟨s4, e4, hC4⟩ := hsk.2 c44
        rw [e4, cl2_some, if_neg (by decide)]
        rcases hK2.2.2 with ⟨y1, _⟩ | ⟨hx2, hP2, h412⟩
        · omega
        subst hx2
        obtain ⟨x3, t3, hL3, hK3⟩ := (R_comma hX ⟨hK2.1, hP2, h412⟩ hna hw (rkG_le (by decide) O1 hr)).2 c44
        have he2 := eX_ok hX hp2 (by omega)
        have hl1 : (Ws ++ [V]).length = Ws.length + 1 := List.length_append
        rw [hf] at hK3
        have h3 := hrec c8 s4 t3 x3 (eX X p2) c2 (e + 1) (Ws ++ [V]) 4 0 0 (base + O.length) (wsO B O ++ [V]) [] hC4 (by omega) hK3.self ⟨Or.inl rfl, Or.inl rfl⟩ True.intro (by rw [hl1]; omega)
        have hL4 := LSt_trans hL2 hL3
        have hlw3 : lwF t1 t3 (o + 1 + 1) (base + O.length) := lwF_trans hK2.2.1 hK3.2.1
        refine wp_cl h3 (fun z s5 hz => ?_)
        rcases hz with ⟨rfl, k2, pl, hcf, hfo⟩ | ⟨rfl, hS⟩
        · rw [if_pos rfl]
          exact wp_ret (fin rfl hcf (FOt_more hL4 (by omega) hfo))
        rw [if_neg (by decide)]
        have h22' : t3 22 (o + 1) = opc (kX X p) := by
          have := hlw3.2.1
          have h22 := h22.resolve_left hm0
          rw [← h22]
          exact this
        obtain ⟨p4, c4, n4, V4, ph4, hC5, hce5, hv5, hn5, hex5, hvr5, hbad, hgood⟩ := close_suc hX (Va := V) (op := opc (kX X p)) (Or.inr (Or.inl rfl)) (by decide) (fun ph' k V h => ⟨Or.inl (fun y => (sgn_ar.mp y).elim (h.2.1 (Or.inr rfl)) (h.2.2.1 rfl)), fun y => absurd y (by decide)⟩) hS ha.2 (low_trans hlow (lw_low hlw3)) hts (Or.inr ⟨rfl, rfl, hvr, h22', hopc⟩)
        have hsk2 := C_skipX hX hC5 (k := 41) (by decide)
        by_cases c41 : kX X p4 = 41
        · obtain ⟨s6, e6, hC6⟩ := hsk2.2 c41
          obtain ⟨x5, t5, hL5, hK5⟩ := hgood c41
          have he4 := eX_ok hX hC5.2.2.2.2 (by omega)
          have hnet6 := hC6.net hX
          obtain ⟨s7, e7, hC7⟩ := hC6.emit hX (by omega) (-(kX X p)) (Ws' := Ws ++ [jnV (opc (kX X p)) V V4]) (fun s' a1 a2 => RC_op hnet6.2 hC6.2.2.2.1 (by omega) (by omega) hsg hvr hvr5 (fun z => absurd z h264.s) a1 a2)
          rw [e6, cl2_some, if_neg (by decide), hnet6.1, hng.s, e7, cl2_some]
          have hvj : VR (jnV (opc (kX X p)) V V4) := fun day hd => jn_r9 (hvr day hd) (hvr5 day hd) (fun y => absurd y h16.s)
          exact wp_gd hnet6.2 (wp_ret (Or.inr ⟨rfl, suc_leaf hX hk2.s hC7 (by omega) (by omega) (by omega) (LSt_trans hL4 hL5) hK5 hvj⟩))
        · obtain ⟨s6, e6, hf6⟩ := hsk2.1 c41
          rw [e6, cl2_some, if_pos rfl]
          exact wp_ret (fin rfl hf6 (FOt_more hL4 (by omega) (hbad c41)))
      · obtain ⟨s4, e4, hf4⟩ := hsk.1 c44
        rw [e4, cl2_some, if_pos rfl]
        refine wp_ret (fin rfl hf4 (FOt_more (p' := p2) hL2 (by omega) ?_))
        rcases hK2.2.2 with ⟨y1, y2, y3, y4⟩ | ⟨hx2, hP2, h412⟩
        · subst y2
          exact FOt_mis (k := 1) hp2 y3 y4 hK2.1
        · subst hx2
          exact (R_comma hX ⟨hK2.1, hP2, h412⟩ hna hw (rkG_le (by decide) O1 hr)).1 c44
    · obtain ⟨s2, e2, hf2⟩ := (hop.2 c40').1 c8
      rw [e2, cl2_some, if_pos rfl]
      exact wp_ret (fin rfl hf2 ((hR.s.2 c40').1 (by omega)))
  · obtain ⟨s2, e2, hf2⟩ := hop.1 c40'
    rw [e2, cl2_some, if_pos rfl]
    exact wp_ret (fin rfl hf2 (hR.s.1 c40'))
theorem SPp_leaf {o : Nat} {rec : Nat → Int → Hp → Option (Int × Hp)} (hX : FX X) (ho : o ≤ 8) (hrec : o < 8 → SPg X (rec 3 (iadd (o : Int) 1)) 3 (o + 1)) {s t : Hp} {p c e : Nat} {Ws : List FV} {F ph bg : Int} {base : Nat} {B : List FV} {O : List Op} (hC : CSt X s p c Ws) (hce : c + e ≤ p) (hP : PSw X t p p 0 (o + 1) F ph bg base B O []) (hSt : StP X t p (o + 1) F ph bg base B O) (hpre' : (ph = 0 ∨ ph = 1) ∧ (bg = 0 ∨ ¬ (F = 1 ∨ F = 5) ∨ (kX X p ≠ 266 ∧ kX X p ≠ 91 ∧ kX X p ≠ 267))) (hlen : Ws.length + 3 * (8 - o) + (6 - 5) ≤ 64) (c40 : ¬ kX X p = 40) (c257 : ¬ kX X p = 257) (c271 : ¬ (kX X p = 271 ∨ kX X p = 272)) (cl : kX X p = 281 ∨ kX X p = 268 ∨ kX X p = 269 ∨ kX X p = 270) : SimR X (F_Rdr_part rec (o : Int)) (rkn 5) (exN 5 ph) s p e Ws 1 t (o + 1) F base B O := by
  have hk := hC.k
  have hp := hC.2.2.2.2
  have hN := hX.2.1
  have hnet := hC.net hX
  have hfix := hC.fix hX
  have fin : ∀ {z : Int} {s' : Hp} {k pl : Int}, z = 0 → CF X s' k pl → FOt X 1 t p k pl → ((z = 0 ∧ ∃ k pl, CF X s' k pl ∧ FOt X 1 t p k pl) ∨ (z = 1 ∧ SUC X 0 (rkn 5) (exN 5 ph) p e Ws 1 t (o + 1) F base B O s')) := fun h1 h2 h3 => Or.inl ⟨h1, _, _, h2, h3⟩
  have ha := P_arith hX hP hpre'.2
  have hts : lwF t (hset t 21 (o + 1 - 1) 0) (o + 1) base := lwF_set lwF_rfl (by omega) (by omega)
  have he := eX_ok hX hp (by omega)
  obtain ⟨x1, t1, hL1, hK1⟩ := R_leaf hX hSt hpre'.2 cl
  by_cases c281 : kX X p = 281
  · have hnv := nv_rng hX.1 hp c281
    have hv := C_valueN hfix.2.1 hC.2.1 c281
    obtain ⟨s3, e3, hC3⟩ := hC.emit hX (by omega) (nv (xf X) (xN X) p) (Ws' := Ws ++ [lfV X p]) (fun s' a1 a2 => by
      have : lfV X p = fun _ => nv (xf X) (xN X) p := if_pos c281
      rw [this]
      exact RC_push hnet.2 hC.2.2.2.1 (by omega) (by omega) (by omega) a1 a2)
    obtain ⟨s4, e4, hC4⟩ := hC3.step hX (by omega)
    refine ⟨1, s4, ?_, Or.inr ⟨rfl, suc_leaf hX (by omega) hC4 (by omega) (by omega) (by omega) hL1 hK1 ?_⟩⟩
    · unfold F_Rdr_part
      rw [lt_eq, hk, if_neg c40, if_neg c257, if_neg (by omega), if_neg (by omega), if_neg (by omega), if_neg (by omega), if_neg (by omega), if_pos c281, lt_eq, hnet.1, gd_pos hnet.2, hv, cl2_some, e3, cl2_some, e4, cl2_some]
    · have : lfV X p = fun _ => nv (xf X) (xN X) p := if_pos c281
      rw [this]
      exact vr_con (by omega)
  · have cd : kX X p = 268 ∨ kX X p = 269 ∨ kX X p = 270 := cl.resolve_left c281
    have hlf : lfV X p = dyV (kX X p) := if_neg c281
    have hng : ineg (kX X p) = -(kX X p) := by
      rcases cd with z | z | z <;> rw [z] <;> decide
    obtain ⟨s3, e3, hC3⟩ := hC.emit hX (by omega) (-(kX X p)) (Ws' := Ws ++ [lfV X p]) (fun s' a1 a2 => by
      rw [hlf]
      exact RC_day hnet.2 hC.2.2.2.1 (by omega) (by omega) cd a1 a2)
    obtain ⟨s4, e4, hC4⟩ := hC3.step hX (by omega)
    have h104 : F_Rdr_part_104 rec (o : Int) (kX X p) s = some (1, s4) := by
      unfold F_Rdr_part_104
      rw [lt_eq, hnet.1, gd_pos hnet.2, hng, e3, cl2_some, e4, cl2_some]
    refine ⟨1, s4, ?_, Or.inr ⟨rfl, suc_leaf hX (by omega) hC4 (by omega) (by omega) (by omega) hL1 hK1 (by rw [hlf]; exact vr_dy)⟩⟩
    unfold F_Rdr_part
    rw [lt_eq, hk, if_neg c40, if_neg c257, h104]
    by_cases d1 : kX X p = 268
    · rw [if_pos d1]
    by_cases d2 : kX X p = 269
    · rw [if_neg d1, if_pos d2]
    · rw [if_neg d1, if_neg d2, if_pos (by omega)]
theorem SP_part {o : Nat} {rec : Nat → Int → Hp → Option (Int × Hp)} (hX : FX X) (ho : o ≤ 8) (hrec : o < 8 → SPg X (rec 3 (iadd (o : Int) 1)) 3 (o + 1)) : SPg X (F_Rdr_part rec (o : Int)) 5 o := by
  intro s t x p c e Ws F ph bg base B O hC hce hK hpre hhd hlen
  have hpre' : (ph = 0 ∨ ph = 1) ∧ (bg = 0 ∨ ¬ (F = 1 ∨ F = 5) ∨ (kX X p ≠ 266 ∧ kX X p ≠ 91 ∧ kX X p ≠ 267)) := hpre
  have hk := hC.k
  have hp := hC.2.2.2.2
  have hN := hX.2.1
  have hnet := hC.net hX
  have hfix := hC.fix hX
  have fin : ∀ {z : Int} {s' : Hp} {k pl : Int}, z = 0 → CF X s' k pl → FOt X x t p k pl → ((z = 0 ∧ ∃ k pl, CF X s' k pl ∧ FOt X x t p k pl) ∨ (z = 1 ∧ SUC X 0 (rkn 5) (exN 5 ph) p e Ws x t (o + 1) F base B O s')) := fun h1 h2 h3 => Or.inl ⟨h1, _, _, h2, h3⟩
  rcases hK.2.2 with ⟨m1, m2, m3, m4⟩ | ⟨hx1, hP, h41⟩
  · obtain ⟨s', e1, hf⟩ := hC.fail hX 1
    subst m2
    refine ⟨0, s', ?_, fin rfl hf (FOt_mis (k := 1) hp m3 m4 hK.1)⟩
    unfold F_Rdr_part
    rw [lt_eq, hk, m1, if_neg (by decide), if_neg (by decide), if_neg (by decide), if_neg (by decide), if_neg (by decide), if_neg (by decide), if_neg (by decide), if_neg (by decide), e1, cl2_some, gd_pos (Or.inl rfl)]
  subst hx1
  have hSt : StP X t p (o + 1) F ph bg base B O := ⟨hK.1, hP, h41⟩
  have ha := P_arith hX hP hpre'.2
  have hts : lwF t (hset t 21 (o + 1 - 1) 0) (o + 1) base := lwF_set lwF_rfl (by omega) (by omega)
  by_cases c40 : kX X p = 40
  · exact SPp_round hX ho hrec hC hce hP hSt hpre' hlen c40
  by_cases c257 : kX X p = 257
  · exact SPp_alone hX ho hrec hC hce hP hSt hpre' hlen c40 c257
  by_cases c271 : kX X p = 271 ∨ kX X p = 272
  · exact SPp_mm hX ho hrec hC hce hP hSt hpre' hlen c40 c257 c271
  by_cases cl : kX X p = 281 ∨ kX X p = 268 ∨ kX X p = 269 ∨ kX X p = 270
  · exact SPp_leaf hX ho hrec hC hce hP hSt hpre' hlen c40 c257 c271 cl
  · -- nothing that can stand there
    obtain ⟨s', e1, hf⟩ := hC.fail hX 1
    refine ⟨0, s', ?_, fin rfl hf (R_bad hX hSt hpre'.2 c40 (by omega) (by omega) c257 (by omega) (by omega) (by omega) (by omega))⟩
    unfold F_Rdr_part
    rw [lt_eq, hk, if_neg c40, if_neg c257, if_neg (by omega), if_neg (by omega), if_neg (by omega), if_neg (by omega), if_neg (by omega), if_neg (by omega), e1, cl2_some, gd_pos (Or.inl rfl)]
end PartC
