/-! both sides: what is joined left to right -/
section Loops
variable {X : Cx} {s t u : Hp} {p q c : Nat} {Ws : List FV} {opd dp base : Nat} {F ph bg : Int} {B Xs : List FV} {O O1 : List Op} {Xv V : FV}
def preN (n : Nat) (F ph bg k : Int) : Prop := if n ≤ 2 then (F = 1 ∨ F = 5) ∧ ph = 0 ∧ bg = 1 else (ph = 0 ∨ ph = 1) ∧ (bg = 0 ∨ ¬ (F = 1 ∨ F = 5) ∨ (k ≠ 266 ∧ k ≠ 91 ∧ k ≠ 267))
def rkn (n : Nat) : Int := if n = 5 then 7 else if n = 4 then 6 else if n = 3 then 5 else if n = 2 then 3 else if n = 1 then 2 else 1
def sgn (n : Nat) (k : Int) : Prop := if n = 4 then k = 42 ∨ k = 47 ∨ k = 37 else if n = 3 then k = 43 ∨ k = 45 else if n = 1 then k = 265 else k = 264
def exN (n : Nat) (ph ph' k : Int) (V : FV) : Prop := (if n ≤ 2 then VB V ∧ ((ph' = 1 ∧ ¬ arK k) ∨ ph' = 2) else VR V ∧ ph' = ph) ∧ (n = 4 ∨ n = 3 → ¬ sgn 4 k) ∧ (n = 3 → ¬ sgn 3 k) ∧ (n ≤ 1 → ¬ sgn 1 k) ∧ (n = 0 → ¬ sgn 0 k)
def SPg (X : Cx) (G : Hp → Option (Int × Hp)) (n o : Nat) : Prop := ∀ (s t : Hp) (x : Int) (p c e : Nat) (Ws : List FV) (F ph bg : Int) (base : Nat) (B : List FV) (O : List Op), CSt X s p c Ws → c + e ≤ p → KSt X t x t p 0 (o + 1) F ph bg base B O [] → preN n F ph bg (kX X p) → hdL (rkn n) O → Ws.length + 3 * (8 - o) + (6 - n) ≤ 64 → SimR X G (rkn n) (exN n ph) s p e Ws x t (o + 1) F base B O
def lpN (n : Nat) : Prop := n = 4 ∨ n = 3 ∨ n = 1 ∨ n = 0
theorem sgn_ar {k : Int} : arK k ↔ sgn 4 k ∨ sgn 3 k := by
  unfold arK
  show _ ↔ (k = 42 ∨ k = 47 ∨ k = 37) ∨ (k = 43 ∨ k = 45)
  omega
theorem sgn_k {n : Nat} {k : Int} (hn : lpN n) (h : sgn n k) : (sgOk k ∧ opc k ≠ 18 ∧ (6 ≤ opc k ∧ opc k ≤ 17) ∧ rk (opc k) = rkn n ∧ rkn n < rkn (n + 1)) ∧ ineg k = -k ∧ 0 ≤ k := by
  rcases hn with rfl | rfl | rfl | rfl
  · have h : k = 42 ∨ k = 47 ∨ k = 37 := h
    rcases h with rfl | rfl | rfl <;> exact ⟨⟨by unfold sgOk; decide, by decide, by decide, by decide, by decide⟩, by decide, by decide⟩
  · have h : k = 43 ∨ k = 45 := h
    rcases h with rfl | rfl <;> exact ⟨⟨by unfold sgOk; decide, by decide, by decide, by decide, by decide⟩, by decide, by decide⟩
  · have h : k = 265 := h
    subst h
    exact ⟨⟨by unfold sgOk; decide, by decide, by decide, by decide, by decide⟩, by decide, by decide⟩
  · have h : k = 264 := h
    subst h
    exact ⟨⟨by unfold sgOk; decide, by decide, by decide, by decide, by decide⟩, by decide, by decide⟩
theorem hdL_le {r r' : Int} (h : r ≤ r') : ∀ (O : List Op), hdL r O → hdL r' O
  | [], _ => True.intro
  | e :: O, h1 => by
    have h1 : rk e.1 < r := h1
    show rk e.1 < r'
    omega
theorem preN_up {n : Nat} {k : Int} (hn : lpN n) (h : preN n F ph bg k) : preN (n + 1) F ph bg k := by
  rcases hn with rfl | rfl | rfl | rfl <;> exact h
/-- the check takes a sign -/
theorem R_go {n : Nat} (hX : FX X) (hn : lpN n) {ph0 : Int} {k0 : Int} (hpre : preN n F ph0 bg k0) (h : StG X t p dp F ph 0 base B (O1 ++ O) Xv) (hs : sgn n (kX X p)) (hex : exN (n + 1) ph0 ph (kX X p) V) (hw : wfO O1 Xv) (hr : rkG (rkn n) O1) (hh : hdL (rkn n) O) : ∃ x' t' bg', LSt X 1 1 t x' t' ∧ KSt X t x' t' (eX X p) 0 dp F ph0 bg' base B ((opc (kX X p), fld O1 Xv) :: O) [] ∧ ∀ k, preN (n + 1) F ph0 bg' k := by
  rcases hn with rfl | rfl | rfl | rfl
  · have hk : kX X p = 42 ∨ kX X p = 47 ∨ kX X p = 37 := hs
    have hph : ph = ph0 := hex.1.2
    subst hph
    have h6 : rkA (kX X p) = 6 := by unfold rkA; rw [if_neg (by omega)]
    have hp : ph = 0 ∨ ph = 1 := hpre.1
    obtain ⟨x', t', h1, h2⟩ := R_arith hX h (by unfold arK; omega) (by omega) hw (by rw [h6]; exact hr) (by rw [h6]; exact hh)
    exact ⟨x', t', 0, h1, h2, fun k => ⟨hpre.1, Or.inl rfl⟩⟩
  · have hk : kX X p = 43 ∨ kX X p = 45 := hs
    have hph : ph = ph0 := hex.1.2
    subst hph
    have h6 : rkA (kX X p) = 5 := by unfold rkA; rw [if_pos hk]
    have hp : ph = 0 ∨ ph = 1 := hpre.1
    obtain ⟨x', t', h1, h2⟩ := R_arith hX h (by unfold arK; omega) (by omega) hw (by rw [h6]; exact hr) (by rw [h6]; exact hh)
    exact ⟨x', t', 0, h1, h2, fun k => ⟨hpre.1, Or.inl rfl⟩⟩
  · have hk : kX X p = 265 := hs
    have hp : (F = 1 ∨ F = 5) ∧ ph0 = 0 ∧ bg = 1 := hpre
    have hph : ph ≠ 0 := by
      have := hex.1.2
      omega
    obtain ⟨x', t', h1, h2⟩ := R_lnk hX h hp.1 (Or.inl hk) hph (r := 2) (by rw [if_pos hk]) hw hr hh
    rw [hp.2.1]
    exact ⟨x', t', 1, h1, h2, fun k => ⟨hp.1, rfl, rfl⟩⟩
  · have hk : kX X p = 264 := hs
    have hp : (F = 1 ∨ F = 5) ∧ ph0 = 0 ∧ bg = 1 := hpre
    have hph : ph ≠ 0 := by
      have := hex.1.2
      omega
    obtain ⟨x', t', h1, h2⟩ := R_lnk hX h hp.1 (Or.inr hk) hph (r := 1) (by rw [if_neg (by omega)]) hw hr hh
    rw [hp.2.1]
    exact ⟨x', t', 1, h1, h2, fun k => ⟨hp.1, rfl, rfl⟩⟩
theorem ex_jn {n : Nat} {k ph0 ph1 ph2 k1 k2 : Int} {V V2 : FV} (hn : lpN n) (hs : sgn n k) (h1 : exN (n + 1) ph0 ph1 k1 V) (h2 : exN (n + 1) ph0 ph2 k2 V2) : exN (n + 1) ph0 ph2 k2 (jnV (opc k) V V2) ∧ VR V ∧ VR V2 ∧ (k = 264 ∨ k = 265 → VB V ∧ VB V2) ∧ (opc k = 16 → VB V ∧ VB V2) ∧ VR (jnV (opc k) V V2) := by
  rcases hn with rfl | rfl | rfl | rfl
  · have hk : k = 42 ∨ k = 47 ∨ k = 37 := hs
    have ho : opc k ≠ 16 := by rcases hk with rfl | rfl | rfl <;> decide
    have hv : VR (jnV (opc k) V V2) := fun day hd => jn_r9 (h1.1.1 day hd) (h2.1.1 day hd) (fun z => absurd z ho)
    exact ⟨⟨⟨hv, h2.1.2⟩, h2.2⟩, h1.1.1, h2.1.1, fun z => absurd z (by omega), fun z => absurd z ho, hv⟩
  · have hk : k = 43 ∨ k = 45 := hs
    have ho : opc k ≠ 16 := by rcases hk with rfl | rfl <;> decide
    have hv : VR (jnV (opc k) V V2) := fun day hd => jn_r9 (h1.1.1 day hd) (h2.1.1 day hd) (fun z => absurd z ho)
    exact ⟨⟨⟨hv, h2.1.2⟩, h2.2⟩, h1.1.1, h2.1.1, fun z => absurd z (by omega), fun z => absurd z ho, hv⟩
  · have hk : k = 265 := hs
    subst hk
    have b1 : VB V := h1.1.1
    have b2 : VB V2 := h2.1.1
    have hv : VB (jnV (opc 265) V V2) := fun day hd => jn_b01 (Or.inr (Or.inr (Or.inr (Or.inr ⟨rfl, b1 day hd, b2 day hd⟩))))
    exact ⟨⟨⟨hv, h2.1.2⟩, h2.2⟩, b1.vr, b2.vr, fun _ => ⟨b1, b2⟩, fun _ => ⟨b1, b2⟩, hv.vr⟩
  · have hk : k = 264 := hs
    subst hk
    have b1 : VB V := h1.1.1
    have b2 : VB V2 := h2.1.1
    have hv : VB (jnV (opc 264) V V2) := fun day hd => jn_b01 (Or.inr (Or.inr (Or.inr (Or.inl rfl))))
    exact ⟨⟨⟨hv, h2.1.2⟩, h2.2⟩, b1.vr, b2.vr, fun _ => ⟨b1, b2⟩, fun _ => ⟨b1, b2⟩, hv.vr⟩
theorem ex_end {n : Nat} {k ph0 ph1 : Int} (hn : lpN n) (hs : ¬ sgn n k) (h : exN (n + 1) ph0 ph1 k V) : exN n ph0 ph1 k V := by
  obtain ⟨h1, h2, h3, h4, h5⟩ := h
  rcases hn with rfl | rfl | rfl | rfl
  · exact ⟨h1, fun _ => hs, fun z => absurd z (by decide), fun z => absurd z (by decide), fun z => absurd z (by decide)⟩
  · exact ⟨h1, fun _ => h2 (Or.inl rfl), fun _ => hs, fun z => absurd z (by decide), fun z => absurd z (by decide)⟩
  · exact ⟨h1, fun z => absurd z (by decide), fun z => absurd z (by decide), fun _ => hs, fun z => absurd z (by decide)⟩
  · exact ⟨h1, fun z => absurd z (by decide), fun z => absurd z (by decide), fun _ => h4 (by decide), fun _ => hs⟩
/-- a loop of signs -/
theorem SP_loop {n o : Nat} {rec : Nat → Int → Hp → Option (Int × Hp)} {oi : Int} {G : Hp → Option (Int × Hp)} {body : (Int × Hp → Option (Int × Hp)) → Int × Hp → Option (Int × Hp)} (hX : FX X) (hn : lpN n) (hrec : SPg X (rec (n + 1) oi) (n + 1) o)
    (hG : ∀ s, G s = cl2 (rec (n + 1) oi s) fun v s' => if v = 0 then some (0, s') else loopF body FU (0, s'))
    (hb0 : ∀ k (x2 : Int) σ, x2 < 900 → ¬ sgn n (σ 3 3) → body k (x2, σ) = some (1, σ))
    (hb1 : ∀ k (x2 : Int) σ, x2 < 900 → sgn n (σ 3 3) → body k (x2, σ) = cl2 (F_Rdr_step σ) fun _ s4 => cl2 (rec (n + 1) oi s4) fun v6 s7 => if v6 = 0 then some (0, s7) else gd (isNet (s7 3 1).toNat) (cl2 (F_Net_emit (s7 3 1).toNat (-(σ 3 3)) s7) fun _ s13 => k (iadd x2 1, s13))) : SPg X G n o := by
  intro s t x p c e Ws F ph bg base B O hC hce hK hpre hhd hlen
  have hn4 : n ≤ 4 := by unfold lpN at hn; omega
  have hlt : rkn n < rkn (n + 1) := by
    rcases hn with rfl | rfl | rfl | rfl <;> decide
  have h1 := hrec s t x p c e Ws F ph bg base B O hC hce hK (preN_up hn hpre) (hdL_le (by omega) O hhd) (by omega)
  show wp (G s) _
  rw [hG]
  refine wp_cl h1 (fun z s' hz => ?_)
  rcases hz with ⟨rfl, k, pl, hcf, hfo⟩ | ⟨rfl, hS⟩
  · rw [if_pos rfl]
    exact wp_ret (Or.inl ⟨rfl, k, pl, hcf, hfo⟩)
  · rw [if_neg (by decide)]
    refine wp_loop (fun a => ∃ v : Nat, a.1 = (v : Int) ∧ SUC X v (rkn n) (exN (n + 1) ph) p e Ws x t (o + 1) F base B O a.2) (fun a => 900 - a.1.toNat) ?_ _ _ ⟨0, rfl, ?_⟩ (by rw [FU_eq]; dsimp only; omega)
    · rintro ⟨x2, σ⟩ k ⟨v, hv, hm0, p', c', V, m, x', t', O1, Xv, ph', hC', hce', hvp, hm, hLS, hK', hw, hf, hr, hex⟩ hk
      dsimp only at hv hC' hk ⊢
      subst hv
      have hp' := hC'.2.2.2.2
      have hN := hX.2.1
      have hv9 : (v : Int) < 900 := by omega
      have h33 : σ 3 3 = kX X p' := hC'.k
      by_cases hs : sgn n (kX X p')
      · rw [hb1 k _ σ hv9 (by rw [h33]; exact hs), h33]
        obtain ⟨⟨g1, g2, g3, g4, g5⟩, g6, g7⟩ := sgn_k hn hs
        obtain ⟨s4, e4, hC4⟩ := hC'.step hX g7
        rw [e4, cl2_some]
        rcases hK'.2.2 with ⟨m1, m2, m3⟩ | ⟨hx1, hP, h41⟩
        · omega
        subst hx1
        obtain ⟨x1, t1, bg', hL1, hK1, hpr⟩ := R_go hX hn hpre ⟨hK'.1, hP, h41⟩ hs hex hw hr hhd
        have he := eX_ok hX hp' g7
        have hl1 : (Ws ++ [V]).length = Ws.length + 1 := List.length_append
        have h2 := hrec s4 t1 x1 (eX X p') c' (e + 1) (Ws ++ [V]) F ph bg' base B ((opc (kX X p'), fld O1 Xv) :: O) hC4 (by omega) hK1.self (hpr _) (by show rk (opc (kX X p')) < rkn (n + 1); omega) (by rw [hl1]; omega)
        have hLm : LSt X (m + 1) x t x1 t1 := LSt_trans hLS hL1
        refine wp_cl h2 (fun z s7 hz => ?_)
        rcases hz with ⟨rfl, k2, pl, hcf, hfo⟩ | ⟨rfl, _, p2, c2, V2, m2, x2, t2, O2, Xv2, ph2, hC2, hce2, hvp2, hm2, hLS2, hK2, hw2, hf2, hr2, hex2⟩
        · rw [if_pos rfl]
          exact wp_ret (Or.inl ⟨rfl, k2, pl, hcf, FOt_more hLm (by omega) hfo⟩)
        · rw [if_neg (by decide)]
          have hnet := hC2.net hX
          have hp2 := hC2.2.2.2.2
          obtain ⟨j1, j2, j3, j4, j5, j6⟩ := ex_jn hn hs hex hex2
          obtain ⟨s13, e5, hC5⟩ := hC2.emit hX (by omega) (-(kX X p')) (Ws' := Ws ++ [jnV (opc (kX X p')) V V2]) (fun s' a1 a2 => RC_op hnet.2 hC2.2.2.2.1 (by omega) (by omega) g1 j2 j3 j4 a1 a2)
          refine wp_gd (by rw [hnet.1]; exact hnet.2) ?_
          rw [hnet.1, e5, cl2_some]
          have e6 : iadd (v : Int) 1 = ((v + 1 : Nat) : Int) := by rw [iadd_ok (by omega)]; omega
          rw [e6]
          clear e6
          refine hk _ ⟨v + 1, rfl, hm0, p2, c2 + 1, jnV (opc (kX X p')) V V2, m + 1 + m2, x2, t2, O2 ++ [(opc (kX X p'), V)], Xv2, ph2, hC5, by omega, by omega, by omega, LSt_trans hLm hLS2, ?_, ?_, ?_, ?_, j1⟩ (by dsimp only; omega)
          · have e7 : O2 ++ [(opc (kX X p'), V)] ++ O = O2 ++ ((opc (kX X p'), fld O1 Xv) :: O) := by
              rw [hf, List.append_assoc]
              rfl
            rw [e7]
            exact hK2.of (lwF_trans hK'.2.1 hK1.2.1)
          · refine wfO_app O2 _ Xv2 hw2 ?_
            rw [hf2]
            refine ⟨j3, Or.inr ⟨g2, g3, j2, j5⟩, ?_⟩
            show VR (if opc (kX X p') = 18 then ntV V2 else jnV (opc (kX X p')) V V2)
            rw [if_neg g2]
            exact j6
          · rw [fld_app, hf2]
            show (if opc (kX X p') = 18 then ntV V2 else jnV (opc (kX X p')) V V2) = _
            rw [if_neg g2]
          · exact rkG_app O2 _ (rkG_le (by omega) O2 hr2) ⟨by show rkn n ≤ rk (opc (kX X p')); omega, True.intro⟩
      · rw [hb0 k _ σ hv9 (by rw [h33]; exact hs)]
        exact wp_ret (Or.inr ⟨rfl, hm0, p', c', V, m, x', t', O1, Xv, ph', hC', hce', by omega, hm, hLS, hK', hw, hf, hr, ex_end hn hs hex⟩)
    · obtain ⟨hm0, p', c', V, m, x', t', O1, Xv, ph', hC', hce', hvp, hm, hLS, hK', hw, hf, hr, hex⟩ := hS
      exact ⟨hm0, p', c', V, m, x', t', O1, Xv, ph', hC', hce', hvp, hm, hLS, hK', hw, hf, rkG_le (by omega) O1 hr, hex⟩
end Loops
