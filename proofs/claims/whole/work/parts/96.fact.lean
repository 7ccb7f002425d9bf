/-! both sides: a fact of a test -/
section FactB
variable {X : Cx}
theorem en_not (hX : FX X) {p : Nat} (hp : p ≤ xN X) (hk : kX X p = 266) : p + 3 ≤ eX X p := by
  have hw := wd_ok hX.1 hp (by show 256 ≤ kX X p; omega) (by show kX X p ≠ 281; omega)
  have e1 : kdW (wd (xf X) (xN X) p) = 256 + ((10 : Nat) : Int) := by
    rw [← hw.2.2]
    show kX X p = _
    omega
  have e2 := (kdW_iff (j := 10) (w := [20, 15, 14]) rfl).mp e1
  have e3 : rnL (xf X) (xN X) (sk (xf X) (xN X) p) = 3 := by
    have := wR_len (f := xf X) (sk (xf X) (xN X) p) (rnL (xf X) (xN X) (sk (xf X) (xN X) p))
    rw [← this]
    show (wd (xf X) (xN X) p).length = 3
    rw [e2]
    rfl
  have h1 := (rnL_at (f := xf X) (N := xN X) (sk (xf X) (xN X) p)).2.1 0 (by omega)
  have h2 := (sk_at (f := xf X) hp).1.1
  show p + 3 ≤ en (xf X) (xN X) p
  have h3 : isLt (xf X (sk (xf X) (xN X) p)) := h1.2
  unfold en enq
  rw [if_pos h3, e3]
  omega
theorem SPg_at {G : Hp → Option (Int × Hp)} {n o : Nat} (h : SPg X G n o) {s t : Hp} {x : Int} {p c e : Nat} {Ws : List FV} {F ph bg : Int} {base : Nat} {B : List FV} {O : List Op} (hC : CSt X s p c Ws) (hce : c + e ≤ p) (hK : KSt X t x t p 0 (o + 1) F ph bg base B O []) (hpre : preN n F ph bg (kX X p)) (hhd : hdL (rkn n) O) (hlen : Ws.length + 3 * (8 - o) + (6 - n) ≤ 64) : (∃ s', G s = some (0, s') ∧ ∃ k pl, CF X s' k pl ∧ FOt X x t p k pl) ∨ ∃ s', G s = some (1, s') ∧ SUC X 0 (rkn n) (exN n ph) p e Ws x t (o + 1) F base B O s' := by
  obtain ⟨z, s', e1, hz⟩ := h s t x p c e Ws F ph bg base B O hC hce hK hpre hhd hlen
  rcases hz with ⟨rfl, hz⟩ | ⟨rfl, hz⟩
  · exact Or.inl ⟨s', e1, hz⟩
  · exact Or.inr ⟨s', e1, hz⟩
def FCo (X : Cx) (rec : Nat → Int → Hp → Option (Int × Hp)) (o : Int) (x2 : Int) (s : Hp) (p e : Nat) (Ws : List FV) (x : Int) (t : Hp) (dp : Nat) (F : Int) (base : Nat) (B : List FV) (O : List Op) : Prop := (∃ s', F_Rdr_fact_41 rec o x2 s = some (0, s') ∧ ∃ k pl, CF X s' k pl ∧ FOt X x t p k pl) ∨ ∃ s', F_Rdr_fact_41 rec o x2 s = F_Rdr_fact_168 rec o x2 s' ∧ SUC X 0 3 (exN 2 0) p e Ws x t dp F base B O s'
theorem exN2 {ph' k : Int} {V : FV} (h1 : VB V) (h2 : (ph' = 1 ∧ ¬ arK k) ∨ ph' = 2) : exN 2 0 ph' k V := ⟨⟨h1, h2⟩, fun z => absurd z (by decide), fun z => absurd z (by decide), fun z => absurd z (by decide), fun z => absurd z (by decide)⟩
/-- a square bracket -/
theorem fact_sq {o : Nat} {rec : Nat → Int → Hp → Option (Int × Hp)} (hX : FX X) (ho : o ≤ 8) (hrec : o < 8 → SPg X (rec 0 (iadd (o : Int) 1)) 0 (o + 1)) {s t : Hp} {x2 : Int} {p c e : Nat} {Ws : List FV} {F : Int} {base : Nat} {B : List FV} {O : List Op} (hC : CSt X s p c Ws) (hce : c + e ≤ p) (hSt : StP X t p (o + 1) F 0 1 base B O) (hF : F = 1 ∨ F = 5) (hlen : Ws.length + 3 * (8 - o) + 4 ≤ 64) (hk : kX X p = 91) : FCo X rec o x2 s p e Ws 1 t (o + 1) F base B O := by
  have hp := hC.2.2.2.2
  have h33 := hC.k
  have he := eX_ok hX hp (by omega)
  have hR := R_square hX hSt hF hk
  have hop := (C_opensX hX hC (k := 91) (by decide) (o := o)).2 hk
  have hP1 := P_bg0 hSt.2.1
  have hts : lwF t (hset t 21 (o + 1 - 1) 0) (o + 1) base := lwF_set lwF_rfl (by omega) (by omega)
  by_cases c8 : o < 8
  · obtain ⟨s1, e1, hC1⟩ := hop.2 c8
    obtain ⟨x1, t1, hL1, hK1, hlow⟩ := hR.2 (by omega)
    have hG : F_Rdr_fact_41 rec o x2 s = cl2 (rec 0 (iadd (o : Int) 1) s1) fun v49 s50 => if v49 = 0 then some (0, s50) else cl2 (F_Rdr_skip 93 s50) fun v53 s54 => if v53 = 0 then some (0, s54) else F_Rdr_fact_168 rec o x2 s54 := by
      unfold F_Rdr_fact_41
      rw [h33, if_pos hk, e1, cl2_some, if_neg (by decide)]
      rfl
    rcases SPg_at (hrec c8) hC1 (e := e) (by omega) hK1 ⟨Or.inr rfl, rfl, rfl⟩ True.intro (by omega) with ⟨s2, e2, k, pl, hcf, hfo⟩ | ⟨s2, e2, hS⟩
    · exact Or.inl ⟨s2, by rw [hG, e2, cl2_some, if_pos rfl], k, pl, hcf, FOt_more hL1 (by omega) hfo⟩
    · obtain ⟨p2, c2, n, V1, ph', hC2, hce2, hv2, hn2, hex, hvr, hbad, hgood⟩ := close_suc hX (Va := fun _ => 0) (op := 0) (Or.inr (Or.inr rfl)) (by decide) (fun ph' k V h => ⟨by
          have h1 : (ph' = 1 ∧ ¬ arK k) ∨ ph' = 2 := h.1.2
          rcases h1 with y | y
          · exact Or.inl y.2
          · exact Or.inr (by omega), fun _ => ⟨by
          have h1 : (ph' = 1 ∧ ¬ arK k) ∨ ph' = 2 := h.1.2
          rcases h1 with y | y
          · omega
          · omega, fun y => h.2.2.2.2 rfl y, fun y => h.2.2.2.1 (by decide) y⟩⟩) hS hP1 hlow hts (Or.inl ⟨by decide, rfl⟩)
      have hsk := C_skipX hX hC2 (k := 93) (by decide)
      by_cases c93 : kX X p2 = 93
      · obtain ⟨s8, e8, hC8⟩ := hsk.2 c93
        obtain ⟨x3, t3, hL3, hK3⟩ := hgood c93
        have he2 := eX_ok hX hC2.2.2.2.2 (by omega)
        have hvb : VB V1 := hex.1.1
        exact Or.inr ⟨s8, by rw [hG, e2, cl2_some, if_neg (by decide), e8, cl2_some, if_neg (by decide)], by omega, eX X p2, c2, V1, 1 + (n + 1), x3, t3, [], V1, 2, hC8, by omega, by omega, by omega, LSt_trans hL1 hL3, hK3, hvr, rfl, True.intro, exN2 hvb (Or.inr rfl)⟩
      · obtain ⟨s8, e8, hf8⟩ := hsk.1 c93
        exact Or.inl ⟨s8, by rw [hG, e2, cl2_some, if_neg (by decide), e8, cl2_some, if_pos rfl], _, _, hf8, FOt_more hL1 (by omega) (hbad c93)⟩
  · obtain ⟨s1, e1, hf1⟩ := hop.1 c8
    refine Or.inl ⟨s1, ?_, _, _, hf1, hR.1 (by omega)⟩
    unfold F_Rdr_fact_41 F_Rdr_fact_79
    rw [h33, if_pos hk, e1, cl2_some, if_pos rfl]
/-- all -/
theorem fact_all {o : Nat} {rec : Nat → Int → Hp → Option (Int × Hp)} (hX : FX X) {s t : Hp} {x2 : Int} {p c e : Nat} {Ws : List FV} {F : Int} {base : Nat} {B : List FV} {O : List Op} (hC : CSt X s p c Ws) (hce : c + e ≤ p) (hSt : StP X t p (o + 1) F 0 1 base B O) (hF : F = 1 ∨ F = 5) (hlen : Ws.length + 3 * (8 - o) + 4 ≤ 64) (hk : kX X p = 267) : FCo X rec o x2 s p e Ws 1 t (o + 1) F base B O := by
  have hp := hC.2.2.2.2
  have hN := hX.2.1
  have h33 := hC.k
  have he := eX_ok hX hp (by omega)
  have hnet := hC.net hX
  obtain ⟨x1, t1, hL1, hK1⟩ := R_all hX hSt hF hk
  obtain ⟨s3, e3, hC3⟩ := hC.emit hX (by omega) 1 (Ws' := Ws ++ [fun _ => 1]) (fun s' a1 a2 => RC_push hnet.2 hC.2.2.2.1 (by omega) (by omega) (by decide) a1 a2)
  obtain ⟨s4, e4, hC4⟩ := hC3.step hX (by omega)
  have hvb : VB (fun _ => 1) := fun _ _ => Or.inr rfl
  refine Or.inr ⟨s4, ?_, by omega, eX X p, c + 1, fun _ => 1, 1, x1, t1, [], fun _ => 1, 2, hC4, by omega, by omega, by omega, hL1, hK1, hvb.vr, rfl, True.intro, exN2 hvb (Or.inr rfl)⟩
  unfold F_Rdr_fact_41
  rw [h33, if_neg (by omega), if_pos hk, lt_eq, hnet.1, gd_pos hnet.2, e3, cl2_some, e4, cl2_some]
/-- two sums -/
theorem fact_two {o : Nat} {rec : Nat → Int → Hp → Option (Int × Hp)} (hX : FX X) (hrec : SPg X (rec 3 (o : Int)) 3 o) {s t : Hp} {x x2 : Int} {p c e : Nat} {Ws : List FV} {F : Int} {base : Nat} {B : List FV} {O : List Op} (hC : CSt X s p c Ws) (hce : c + e ≤ p) (hK : KSt X t x t p 0 (o + 1) F 0 1 base B O []) (hF : F = 1 ∨ F = 5) (hlen : Ws.length + 3 * (8 - o) + 4 ≤ 64) (hhd : hdL 5 O) (hk : kX X p ≠ 266 ∧ kX X p ≠ 91 ∧ kX X p ≠ 267) : FCo X rec o x2 s p e Ws x t (o + 1) F base B O := by
  have hN := hX.2.1
  have h33 := hC.k
  have hG : F_Rdr_fact_41 rec o x2 s = cl2 (rec 3 (o : Int) s) fun v25 s26 => if v25 = 0 then some (0, s26) else if s26 3 3 = 60 then F_Rdr_fact_145 rec o x2 (s26 3 3) s26 else if s26 3 3 = 62 then F_Rdr_fact_145 rec o x2 (s26 3 3) s26 else if s26 3 3 = 61 then F_Rdr_fact_145 rec o x2 (s26 3 3) s26 else cl2 (F_Rdr_fail 1 s26) fun v33 s34 => gd (v33 = 0 ∨ v33 = 1) (some (v33, s34)) := by
    unfold F_Rdr_fact_41
    rw [h33, if_neg hk.2.1, if_neg hk.2.2]
    rfl
  rcases SPg_at hrec hC hce hK ⟨Or.inl rfl, Or.inr (Or.inr hk)⟩ hhd (by omega) with ⟨s1, e1, k, pl, hcf, hfo⟩ | ⟨s1, e1, hm0, p1, c1, V, m, x1, t1, O1, Xv, ph', hC1, hce1, hvp, hm, hLS, hK1, hw, hf, hr, hex⟩
  · exact Or.inl ⟨s1, by rw [hG, e1, cl2_some, if_pos rfl], k, pl, hcf, hfo⟩
  have hph : ph' = 0 := hex.1.2
  subst hph
  have hvr : VR V := hex.1.1
  have hna : ¬ arK (kX X p1) := fun y => (sgn_ar.mp y).elim (hex.2.1 (Or.inr rfl)) (hex.2.2.1 rfl)
  have hp1 := hC1.2.2.2.2
  have hk1 := hC1.k
  rw [e1, cl2_some, if_neg (by decide), hk1] at hG
  by_cases cc : kX X p1 = 60 ∨ kX X p1 = 62 ∨ kX X p1 = 61
  · have hG2 : F_Rdr_fact_41 rec o x2 s = F_Rdr_fact_145 rec o x2 (kX X p1) s1 := by
      rw [hG]
      by_cases d1 : kX X p1 = 60
      · rw [if_pos d1]
      by_cases d2 : kX X p1 = 62
      · rw [if_neg d1, if_pos d2]
      · rw [if_neg d1, if_neg d2, if_pos (by omega)]
    clear hG
    have he1 := eX_ok hX hp1 (by omega)
    obtain ⟨s2, e2, hC2⟩ := hC1.step hX (by omega)
    rcases hK1.2.2 with ⟨y1, _⟩ | ⟨hx1, hP1, h411⟩
    · omega
    subst hx1
    have hop := opc_cm cc
    obtain ⟨x3, t3, hL3, hK3⟩ := R_cmp hX ⟨hK1.1, hP1, h411⟩ hF cc hw hr hhd
    have hl1 : (Ws ++ [V]).length = Ws.length + 1 := List.length_append
    have hLm := LSt_trans hLS hL3
    rw [hf] at hK3
    have hng : ineg (kX X p1) = -(kX X p1) := by
      rcases cc with z | z | z <;> rw [z] <;> decide
    have hsg : sgOk (kX X p1) := by
      unfold sgOk
      omega
    have h264 : ¬ (kX X p1 = 264 ∨ kX X p1 = 265) := by omega
    have hb1 : opc (kX X p1) = 13 ∨ opc (kX X p1) = 14 ∨ opc (kX X p1) = 15 := by omega
    have hrk : rk (opc (kX X p1)) = 4 := hop.2
    have hr18 : opc (kX X p1) ≠ 18 := by omega
    have hr16 : opc (kX X p1) ≠ 16 := by omega
    rcases SPg_at hrec hC2 (e := e + 1) (by omega) hK3.self ⟨Or.inr rfl, Or.inl rfl⟩ (by show rk (opc (kX X p1)) < 5; omega) (by rw [hl1]; omega) with ⟨s4, e4, k, pl, hcf, hfo⟩ | ⟨s4, e4, _, p4, c4, V4, m4, x4, t4, O4, Xv4, ph4, hC4, hce4, hvp4, hm4, hLS4, hK4, hw4, hf4, hr4, hex4⟩
    · refine Or.inl ⟨s4, ?_, k, pl, hcf, FOt_more hLm (by omega) hfo⟩
      rw [hG2]
      unfold F_Rdr_fact_145
      rw [e2, cl2_some, e4, cl2_some, if_pos rfl]
    · have hvr4 : VR V4 := hex4.1.1
      have hph4 : ph4 = 1 := hex4.1.2
      subst hph4
      have hna4 : ¬ arK (kX X p4) := fun y => (sgn_ar.mp y).elim (hex4.2.1 (Or.inr rfl)) (hex4.2.2.1 rfl)
      have hnet4 := hC4.net hX
      have hp4 := hC4.2.2.2.2
      obtain ⟨s5, e5, hC5⟩ := hC4.emit hX (by omega) (-(kX X p1)) (Ws' := Ws ++ [jnV (opc (kX X p1)) V V4]) (fun s' a1 a2 => RC_op hnet4.2 hC4.2.2.2.1 (by omega) (by omega) hsg hvr hvr4 (fun z => absurd z h264) a1 a2)
      have hvb : VB (jnV (opc (kX X p1)) V V4) := fun day hd => jn_b01 (by omega)
      refine Or.inr ⟨s5, ?_, hm0, p4, c4 + 1, jnV (opc (kX X p1)) V V4, m + 1 + m4, x4, t4, O4 ++ [(opc (kX X p1), V)], Xv4, 1, hC5, by omega, by omega, by omega, LSt_trans hLm hLS4, ?_, ?_, ?_, ?_, exN2 hvb (Or.inl ⟨rfl, hna4⟩)⟩
      · rw [hG2]
        unfold F_Rdr_fact_145
        rw [e2, cl2_some, e4, cl2_some, if_neg (by decide), lt_eq, hnet4.1, gd_pos hnet4.2, hng, e5, cl2_some]
      · have e7 : O4 ++ [(opc (kX X p1), V)] ++ O = O4 ++ ((opc (kX X p1), V) :: O) := by
          rw [List.append_assoc]
          rfl
        rw [e7]
        exact hK4.of (lwF_trans hK1.2.1 hK3.2.1)
      · refine wfO_app O4 _ Xv4 hw4 ?_
        rw [hf4]
        refine ⟨hvr4, Or.inr ⟨hr18, by omega, hvr, fun z => absurd z hr16⟩, ?_⟩
        show VR (if opc (kX X p1) = 18 then ntV V4 else jnV (opc (kX X p1)) V V4)
        rw [if_neg hr18]
        exact hvb.vr
      · rw [fld_app, hf4]
        show (if opc (kX X p1) = 18 then ntV V4 else jnV (opc (kX X p1)) V V4) = _
        rw [if_neg hr18]
      · exact rkG_app O4 _ (rkG_le (by decide) O4 hr4) ⟨by show (3 : Int) ≤ rk (opc (kX X p1)); omega, True.intro⟩
  · obtain ⟨s2, e2, hf2⟩ := hC1.fail hX 1
    refine Or.inl ⟨s2, ?_, _, _, hf2, FOt_more (p' := p1) hLS (by omega) ?_⟩
    · rw [hG, if_neg (by omega), if_neg (by omega), if_neg (by omega), e2, cl2_some]
      exact gd_pos (Or.inl rfl)
    · rcases hK1.2.2 with ⟨y1, y2, y3, y4⟩ | ⟨hx1, hP1, h411⟩
      · subst y2
        exact FOt_mis (k := 1) hp1 y3 y4 hK1.1
      · subst hx1
        exact R_nofact hX ⟨hK1.1, hP1, h411⟩ hF hna (by omega)
end FactB
