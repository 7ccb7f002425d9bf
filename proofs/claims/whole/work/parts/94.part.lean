/-! both sides: a part -/
section PartB
variable {X : Cx} {s t u : Hp} {p q c : Nat} {Ws : List FV} {opd dp base : Nat} {F ph bg : Int} {B Xs : List FV} {O O1 : List Op} {Xv V : FV}
theorem C_skipX (hX : FX X) (hC : CSt X s p c Ws) {k : Int} (h0 : 0 ≤ k) : (kX X p ≠ k → ∃ s', F_Rdr_skip k s = some (0, s') ∧ CF X s' 1 (sX X p : Nat)) ∧ (kX X p = k → ∃ s', F_Rdr_skip k s = some (1, s') ∧ CSt X s' (eX X p) c Ws) := by
  have hk := hC.k
  refine ⟨fun g => ?_, fun g => ?_⟩
  · obtain ⟨s', e, h⟩ := hC.fail hX 1
    refine ⟨s', ?_, h⟩
    unfold F_Rdr_skip
    rw [hk, if_neg g, e, cl2_some, gd_pos (Or.inl rfl)]
  · obtain ⟨s', e, h⟩ := hC.step hX (by omega)
    refine ⟨s', ?_, h⟩
    unfold F_Rdr_skip
    rw [hk, if_pos g, e, cl2_some]
theorem C_opensX (hX : FX X) (hC : CSt X s p c Ws) {k : Int} (h0 : 0 ≤ k) {o : Nat} : (kX X p ≠ k → ∃ s', F_Rdr_opens k o s = some (0, s') ∧ CF X s' 1 (sX X p : Nat)) ∧ (kX X p = k → (¬ o < 8 → ∃ s', F_Rdr_opens k o s = some (0, s') ∧ CF X s' 5 (sX X p : Nat)) ∧ (o < 8 → ∃ s', F_Rdr_opens k o s = some (1, s') ∧ CSt X s' (eX X p) c Ws)) := by
  have hk := hC.k
  refine ⟨fun g => ?_, fun g => ⟨fun g2 => ?_, fun g2 => ?_⟩⟩
  · obtain ⟨s', e, h⟩ := hC.fail hX 1
    refine ⟨s', ?_, h⟩
    unfold F_Rdr_opens
    rw [hk, if_neg g, e, cl2_some, gd_pos (Or.inl rfl)]
  · obtain ⟨s', e, h⟩ := hC.fail hX 5
    refine ⟨s', ?_, h⟩
    unfold F_Rdr_opens
    rw [hk, if_pos g, if_neg (by omega), e, cl2_some, gd_pos (Or.inl rfl)]
  · obtain ⟨s', e, h⟩ := hC.step hX (by omega)
    refine ⟨s', ?_, h⟩
    unfold F_Rdr_opens
    rw [hk, if_pos g, if_pos (by omega), e, cl2_some]
/-- what stands in a bracket, and the bracket closed -/
theorem close_suc (hX : FX X) {tb ts t1 s7 : Hp} {x1 F0 ph0 F1 op r : Int} {p0 q0 o0 p1 e : Nat} {B0 B1 Xs0 : List FV} {Va : FV} {ex : Int → Int → FV → Prop} (hF : F1 = 2 ∨ F1 = 4 ∨ F1 = 5) (hr1 : 1 ≤ r) (hexn : ∀ ph' k V, ex ph' k V → (¬ arK k ∨ 2 ≤ ph') ∧ (F1 = 5 → ph' ≠ 0 ∧ k ≠ 264 ∧ k ≠ 265)) (hS : SUC X 0 r ex p1 e Ws x1 t1 (dp + 1) F1 (base + O.length) B1 [] s7)
    (hb : PSw X tb p0 q0 o0 dp F0 ph0 0 base B0 O Xs0) (hlow : lowF tb t1 dp (base + O.length)) (hts : lwF ts tb dp base)
    (hB : (F1 ≠ 4 ∧ B1 = wsO B0 O) ∨ (F1 = 4 ∧ B1 = wsO B0 O ++ [Va] ∧ VR Va ∧ t1 22 dp = op ∧ (6 ≤ op ∧ op ≤ 17))) :
    ∃ (p2 c2 n : Nat) (V1 : FV) (ph' : Int), CSt X s7 p2 c2 (Ws ++ [V1]) ∧ c2 + e ≤ p2 ∧ p1 < p2 ∧ n + p1 ≤ p2 ∧ ex ph' (kX X p2) V1 ∧ VR V1 ∧ (kX X p2 ≠ clS F1 → FOt X x1 t1 p1 1 (sX X p2 : Nat)) ∧ (kX X p2 = clS F1 → ∃ x3 t3, LSt X (n + 1) x1 t1 x3 t3 ∧ KSt X ts x3 t3 (eX X p2) 1 dp F0 (if F1 = 5 then 2 else ph0) 0 base B0 O [if F1 = 4 then jnV op Va V1 else V1]) := by
  obtain ⟨_, p2, c2, V, m, x2, t2, O1, Xv, ph', hC2, hce2, hvp, hm, hLS, hK2, hw, hf, hr, hex⟩ := hS
  have hvr : VR V := by
    rw [← hf]
    exact wfO_vr O1 Xv hw
  refine ⟨p2, c2, m, V, ph', hC2, hce2, by omega, hm, hex, hvr, ?_⟩
  have hp2 := hC2.2.2.2.2
  have hcl : 0 ≤ clS F1 := by
    unfold clS
    by_cases c : F1 = 5
    · rw [if_pos c]; decide
    · rw [if_neg c]; decide
  rcases hK2.2.2 with ⟨m1, m2, m3, m4⟩ | ⟨hx, hP, h41⟩
  · subst m2
    exact ⟨fun _ => FOt_more hLS hm (FOt_mis (k := 1) hp2 m3 m4 hK2.1), fun g => absurd g (by omega)⟩
  · subst hx
    have hex' := hexn _ _ _ hex
    have hlow2 : lowF tb t2 dp (base + O.length) := low_trans hlow (lw_low hK2.2.1)
    have h22 : t2 22 dp = t1 22 dp := hK2.2.1.2.1
    have hR := R_close hX (V := if F1 = 4 then jnV op Va V else V) hK2.1 hP h41 hw (rkG_le hr1 O1 hr) hF hex'.1 hex'.2 hb hlow2 hts (by
      rcases hB with ⟨n4, hB1⟩ | ⟨f4, hB1, hva, h22', hop⟩
      · exact Or.inl ⟨n4, hB1, by rw [if_neg n4, hf]⟩
      · exact Or.inr ⟨f4, Va, op, hB1, hva, by rw [h22, h22'], hop, by rw [if_pos f4, hf]⟩)
    refine ⟨fun g => FOt_more hLS hm (hR.1 g), fun g => ?_⟩
    obtain ⟨x3, t3, h1, h2⟩ := hR.2 g
    exact ⟨x3, t3, LSt_trans hLS h1, h2⟩
theorem suc_leaf (hX : FX X) {s' : Hp} {e p' c' n : Nat} {x' : Int} {t' : Hp} {V : FV} (hm0 : kX X p ≠ -2) (hC : CSt X s' p' c' (Ws ++ [V])) (hce : c' + e ≤ p') (hp : p < p') (hn : n + p ≤ p') {x : Int} (hL : LSt X n x t x' t') (hK : KSt X t x' t' p' 1 dp F ph 0 base B O [V]) (hV : VR V) : SUC X 0 (rkn 5) (exN 5 ph) p e Ws x t dp F base B O s' :=
  ⟨hm0, p', c', V, n, x', t', [], V, ph, hC, hce, by omega, hn, hL, hK, hV, rfl, True.intro, ⟨⟨hV, rfl⟩, fun z => absurd z (by decide), fun z => absurd z (by decide), fun z => absurd z (by decide), fun z => absurd z (by decide)⟩⟩
theorem vr_con {v : Int} (h : 0 ≤ v ∧ v ≤ 100000) : VR (fun _ => v) := fun _ _ => ⟨by dsimp only; omega, by dsimp only; omega⟩
theorem vr_dy {k : Int} : VR (dyV k) := fun day hd => by
  unfold dyV r9
  by_cases c1 : k = 268
  · rw [if_pos c1]; omega
  rw [if_neg c1]
  by_cases c2 : k = 269
  · rw [if_pos c2]; omega
  rw [if_neg c2]
  omega
end PartB
