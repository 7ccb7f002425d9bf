/-! moves and pays, the class's side -/
section Moves2
variable {σ τ : Hp} {n b : Nat} {d : ND} {A : AD} {kn : Int} {now day : Nat} {D : DL} {ow' : Nat → Int}
theorem InvAt.frO (h : InvAt σ τ n b d A kn now day D) {s : Hp} (h1 : ∀ q, q < 91 ∨ (111 < q ∧ q < 142) ∨ 171 < q → s q = σ q) (h2 : s 169 0 = 0) : InvAt s τ n b d A kn now day D := by
  have c6 := h.2.1.2.2.2.2.2.1
  have pp := h.2.1.2.2.2.2.2.2
  refine h.setC (fun q hq => h1 q ?_) (fun i _ => by rw [h1 0 (by omega)]) ⟨by rw [h1 88 (by omega)]; exact c6.1, fun r hr => by rw [h1 89 (by omega), h1 90 (by omega)]; exact c6.2 r hr⟩ (pp.congr h.1.1 (by rw [h1 0 (by omega)]) (fun q a x => h1 q (by omega)) h2)
  have := hq.1
  unfold keepC at this
  omega
/-- the plan now and an other beside it -/
def TP (s τ : Hp) (n b : Nat) (d : ND) (A : AD) (kn : Int) (now day : Nat) (D : DL) (ow' : Nat → Int) : Prop :=
  InvAt s τ n b d A kn now day D ∧ s 0 16 = 0 ∧ PlanC s 142 n d ow' ∧ TwOk s 142 d ow' ∧ BdOk s 142 d ow'
theorem two_congr {s t : Hp} (hd : NDok d) (hP : PlanC s 142 n d ow') (hT : TwOk s 142 d ow') (hB : BdOk s 142 d ow') (h : ∀ q, 142 ≤ q → t q = s q) : PlanC t 142 n d ow' ∧ TwOk t 142 d ow' ∧ BdOk t 142 d ow' := by
  refine ⟨hP.congr (fun q _ x y => h q (by omega)) (by rw [h 142 (by omega)]) (by rw [h 142 (by omega)]), ?_, ?_⟩
  · unfold TwOk at hT ⊢
    rw [h 142 (by omega)]
    exact hT
  · unfold BdOk at hB ⊢
    intro e u v hu hv
    rw [h 142 (by omega)] at e
    rw [h _ (by omega)]
    exact hB e u v hu hv
theorem TP.h112 (h : TP σ τ n b d A kn now day D ow') : wp (F_Plan_hasEnds 112 σ) (fun z s => (∃ v, cert (dW d) (gpd d (owd d A day now)) v ∧ v ≤ 1439976) ∧ (hasE d (owd d A day now) → z = 1) ∧ (¬ hasE d (owd d A day now) → z = 0) ∧ TP s τ n b d A kn now day D ow') := by
  obtain ⟨hI, h0, hP, hT, hB⟩ := h
  refine wp_mono (hI.hsE h0) (fun z s hs => ?_)
  obtain ⟨q1, q2, q3, q4, q5, q6⟩ := hs
  exact ⟨q1, q2, q3, q4, q5, two_congr hI.1.1 hP hT hB q6⟩
theorem TP.h142 (ho : owOk d ow') (h : TP σ τ n b d A kn now day D ow') : wp (F_Plan_hasEnds 142 σ) (fun z s => (∃ v, cert (dW d) (gpd d ow') v ∧ v ≤ 1439976) ∧ (hasE d ow' → z = 1) ∧ (¬ hasE d ow' → z = 0) ∧ TP s τ n b d A kn now day D ow') := by
  obtain ⟨hI, h0, hP, hT, hB⟩ := h
  have pp := hI.2.1.2.2.2.2.2.2
  have hW := hI.1.1.1
  refine wp_mono (C_hasE hI.1.1 ho (by decide) hI.2.1.1 hP hT) (fun z s hs => ?_)
  obtain ⟨q1, q2, q3, q4, q5, q6⟩ := hs
  refine ⟨q1, q2, q3, hI.frO (fun q hq => q5 q (by omega) (by omega)) (by rw [q5 169 (by omega) (by omega)]; exact pp.2.2.2), by rw [q5 0 (by omega) (by omega)]; exact h0, hP.congr (fun q a x y => q5 q a (by omega)) (q6 6 (by omega) (by omega)) (q6 7 (by omega) (by omega)), q4, fun e u v hu hv => ?_⟩
  rw [q5 _ (by omega) (by omega)]
  exact hB (by rw [← q6 10 (by omega) (by omega)]; exact e) u v hu hv
theorem TP.e112 (h : TP σ τ n b d A kn now day D ow') {X : Nat → Int} (hX : feasX d (owd d A day now) X) (hb : ∀ w, w < dW d → X w ≤ 2 * al d w + 1439976) {w : Nat} (hw : w < dW d) (g : Int) : wp (F_Plan_endOf 112 w g σ) (fun z s => z = endV d (owd d A day now) w g ∧ TP s τ n b d A kn now day D ow') := by
  obtain ⟨hI, h0, hP, hT, hB⟩ := h
  refine wp_mono (C_endOf hI.1.1 hI.oo (by decide) (hI.EC h0) hX hb (by omega) hw g) (fun z s hs => ?_)
  obtain ⟨q1, q2, q3⟩ := hs
  obtain ⟨q4, q5⟩ := hI.frs h0 q3 q2.2.2
  exact ⟨q1, q4, q5, two_congr hI.1.1 hP hT hB (fun q hq => q3.1 q (by omega))⟩
theorem TP.e142 (ho : owOk d ow') (h : TP σ τ n b d A kn now day D ow') {X : Nat → Int} (hX : feasX d ow' X) (hb : ∀ w, w < dW d → X w ≤ 2 * al d w + 1439976) {w : Nat} (hw : w < dW d) (g : Int) : wp (F_Plan_endOf 142 w g σ) (fun z s => z = endV d ow' w g ∧ TP s τ n b d A kn now day D ow') := by
  obtain ⟨hI, h0, hP, hT, hB⟩ := h
  have pp := hI.2.1.2.2.2.2.2.2
  refine wp_mono (C_endOf hI.1.1 ho (by decide) ⟨hI.2.1.1, hP, hB⟩ hX hb (by omega) hw g) (fun z s hs => ?_)
  obtain ⟨q1, q2, q3⟩ := hs
  refine ⟨q1, hI.frO (fun q hq => q3.1 q (by omega)) (by rw [q3.1 169 (by omega)]; exact pp.2.2.2), by rw [q3.1 0 (by omega)]; exact h0, q2.2.1, ?_, q2.2.2⟩
  unfold TwOk at hT ⊢
  rw [q3.2 9 (by omega), q3.2 8 (by omega)]
  exact hT
theorem C_between (ho : owOk d ow') (h : TP σ τ n b d A kn now day D ow') {X X' : Nat → Int} (hX : feasX d (owd d A day now) X) (hb : ∀ w, w < dW d → X w ≤ 2 * al d w + 1439976) (hX' : feasX d ow' X') (hb' : ∀ w, w < dW d → X' w ≤ 2 * al d w + 1439976) :
    wp (F_RD_movedBetween σ) (fun z s => z = ((mvS (chP d (owd d A day now) ow' 0) (dW d) : Nat) : Int) ∧ TP s τ n b d A kn now day D ow') := by
  have hW := h.1.1.1.1
  generalize eo : owd d A day now = ow at *
  unfold F_RD_movedBetween F_RD_movedBetween_4
  refine wp_loop (fun a : Int × Int × Hp => ∃ k : Nat, k ≤ dW d ∧ a.1 = ((mvS (chP d ow ow' 0) k : Nat) : Int) ∧ a.2.1 = (k : Int) ∧ TP a.2.2 τ n b d A kn now day D ow') (fun a => (300 - a.2.1).toNat) ?_ FU _ ?_ ?_
  · intro a K hp ih
    obtain ⟨x, y, s⟩ := a
    obtain ⟨k, hk, e0, e1, hs⟩ := hp
    dsimp only at e0 e1 hs ih ⊢
    subst e0 e1
    have hN := hs.1.2.1.1
    have hP := (hs.1.pln hs.2.1).1
    unfold F_RD_movedBetween_4_b
    rw [hP.1, lt_eq, Int.toNat_natCast, gd_pos hN.1, hN.2.1]
    refine wp_if (fun cc => ?_) (fun cc => ?_)
    · have ek : k = dW d := by omega
      subst ek
      exact wp_ret ⟨rfl, hs⟩
    · have hkW : k < dW d := by omega
      have no : ∀ t, TP t τ n b d A kn now day D ow' → ¬ chP d ow ow' 0 k = true → wp (F_RD_movedBetween_51 K ((mvS (chP d ow ow' 0) k : Nat) : Int) k t) (fun z s => z = ((mvS (chP d ow ow' 0) (dW d) : Nat) : Int) ∧ TP s τ n b d A kn now day D ow') := fun t ht hp => by
        unfold F_RD_movedBetween_51
        rw [lt_eq, iadd_ok (by omega)]
        exact ih _ ⟨k + 1, by omega, by rw [mvS_no hp], by show (k : Int) + 1 = ((k + 1 : Nat) : Int); omega, ht⟩ (by dsimp only; omega)
      have yes : ∀ t, TP t τ n b d A kn now day D ow' → chP d ow ow' 0 k = true → wp (F_RD_movedBetween_45 K ((mvS (chP d ow ow' 0) k : Nat) : Int) k t) (fun z s => z = ((mvS (chP d ow ow' 0) (dW d) : Nat) : Int) ∧ TP s τ n b d A kn now day D ow') := fun t ht hp => by
        unfold F_RD_movedBetween_45 F_RD_movedBetween_51
        rw [lt_eq, lt_eq, ior_bit _ (by omega), iadd_ok (by omega)]
        exact ih _ ⟨k + 1, by omega, by rw [mvS_yes hp], by show (k : Int) + 1 = ((k + 1 : Nat) : Int); omega, ht⟩ (by dsimp only; omega)
      subst eo
      refine wp_cl (hs.e112 hX hb hkW 0) (fun z1 s1 h1 => wp_cl (h1.2.e142 ho hX' hb' hkW 0) (fun z2 s2 h2 => ?_))
      rw [h1.1, h2.1]
      refine wp_if (fun c4 => ?_) (fun c4 => ?_)
      · refine wp_cl (h2.2.e112 hX hb hkW 1) (fun z3 s3 h3 => wp_cl (h3.2.e142 ho hX' hb' hkW 1) (fun z4 s4 h4 => ?_))
        rw [h3.1, h4.1]
        refine wp_if (fun c5 => ?_) (fun c5 => ?_)
        · refine no s4 h4.2 ?_
          unfold chP
          rw [if_pos rfl]
          simp [c4, c5]
        · refine yes s4 h4.2 ?_
          unfold chP
          rw [if_pos rfl]
          simp [Ne.symm c5]
      · refine yes s2 h2.2 ?_
        unfold chP
        rw [if_pos rfl]
        simp [Ne.symm c4]
  · exact ⟨0, by omega, rfl, rfl, h⟩
  · rw [FU_eq]
    show (300 - (0 : Int)).toNat < 20000
    omega
theorem C_paid (ho : owOk d ow') (h : TP σ τ n b d A kn now day D ow') {X X' : Nat → Int} (hX : feasX d (owd d A day now) X) (hb : ∀ w, w < dW d → X w ≤ 2 * al d w + 1439976) (hX' : feasX d ow' X') (hb' : ∀ w, w < dW d → X' w ≤ 2 * al d w + 1439976) (r : Int) :
    wp (F_RD_pays_48 r FU (0, 0, σ)) (fun z s => z = ((mvS (chP d (owd d A day now) ow' 1) (dW d) : Nat) : Int) ∧ TP s τ n b d A kn now day D ow') := by
  have hW := h.1.1.1.1
  generalize eo : owd d A day now = ow at *
  unfold F_RD_pays_48
  refine wp_loop (fun a : Int × Int × Hp => ∃ k : Nat, k ≤ dW d ∧ a.1 = ((mvS (chP d ow ow' 1) k : Nat) : Int) ∧ a.2.1 = (k : Int) ∧ TP a.2.2 τ n b d A kn now day D ow') (fun a => (300 - a.2.1).toNat) ?_ FU _ ?_ ?_
  · intro a K hp ih
    obtain ⟨x, y, s⟩ := a
    obtain ⟨k, hk, e0, e1, hs⟩ := hp
    dsimp only at e0 e1 hs ih ⊢
    subst e0 e1
    have hN := hs.1.2.1.1
    have h3 := hs.1.2.1.2.2.2.2.1.1
    unfold F_RD_pays_48_b
    rw [h3, lt_eq, Int.toNat_natCast, gd_pos hN.1, hN.2.1]
    refine wp_if (fun cc => ?_) (fun cc => ?_)
    · have ek : k = dW d := by omega
      subst ek
      exact wp_ret ⟨rfl, hs⟩
    · have hkW : k < dW d := by omega
      subst eo
      refine wp_cl (hs.e142 ho hX' hb' hkW 0) (fun z1 s1 h1 => wp_cl (h1.2.e112 hX hb hkW 0) (fun z2 s2 h2 => ?_))
      rw [h1.1, h2.1]
      unfold F_RD_pays_87
      refine wp_if (fun c4 => ?_) (fun c4 => ?_)
      · have hp : ¬ chP d (owd d A day now) ow' 1 k = true := by
          unfold chP
          rw [if_neg (by decide)]
          simp [c4]
        rw [lt_eq, iadd_ok (by omega)]
        exact ih _ ⟨k + 1, by omega, by rw [mvS_no hp], by show (k : Int) + 1 = ((k + 1 : Nat) : Int); omega, h2.2⟩ (by dsimp only; omega)
      · have hp : chP d (owd d A day now) ow' 1 k = true := by
          unfold chP
          rw [if_neg (by decide)]
          simp only [c4, decide_false, Bool.not_false]
        rw [lt_eq, lt_eq, ior_bit _ (by omega), iadd_ok (by omega)]
        exact ih _ ⟨k + 1, by omega, by rw [mvS_yes hp], by show (k : Int) + 1 = ((k + 1 : Nat) : Int); omega, h2.2⟩ (by dsimp only; omega)
  · exact ⟨0, by omega, rfl, rfl, h⟩
  · rw [FU_eq]
    show (300 - (0 : Int)).toNat < 20000
    omega
theorem InvAt.TP0 (h : InvAt σ τ n b d A kn now day D) (h0 : σ 0 16 = 0) {c w : Int} (hw : -1 ≤ w ∧ w ≤ 100000) : wp (F_Plan_take 142 c w σ) (fun _ s => TP s τ n b d A kn now day D (owc (owd d A day now) c w)) := by
  refine wp_mono (h.take142 (c := c) hw) (fun _ s hs => ?_)
  obtain ⟨q1, q2, q3, q4, q5⟩ := hs
  exact ⟨q1, by rw [q2]; exact h0, q3, fun e => absurd (q4.symm.trans e) (by decide), fun e => absurd (q5.symm.trans e) (by decide)⟩
theorem S_moves (σ τ : Hp) (a1 a2 : Int) (h : Inv σ τ) : ∃ (z : Int) (σ' τ' : Hp), F_RD_moves a1 a2 σ = some (z, σ') ∧ F_M_moves a1 a2 τ = some (z, τ') ∧ Inv σ' τ' := by
  obtain ⟨n, b, d, A, kn, now, day, D, hI⟩ := id h
  obtain ⟨⟨g1, g2, g3, g4, g5⟩, ⟨c1, c2, c3, c4, c5, c6, c7⟩, ⟨m1, m2, m3, m4, m5, m6⟩, _⟩ := id hI
  unfold F_RD_moves F_RD_moves_19 F_RD_moves_76 F_M_moves F_M_moves_29 F_M_moves_30
  rw [C_isRoad g1 c1 c5.1, cl2_some, M_isRoad g1 m1, cl2_some]
  by_cases c : 0 ≤ a1 ∧ a1 < dR d
  · rw [if_pos c, if_neg (c := (1 : Int) = 0) (by decide), if_neg (c := (1 : Int) = 0) (by decide), M_is, cl2_some]
    by_cases cw : -1 ≤ a2 ∧ a2 ≤ 100000
    · rw [if_neg (c := a2 < -1) (by omega), if_pos cw.2, if_pos cw, if_neg (c := (1 : Int) = 0) (by decide)]
      obtain ⟨z, s, e, hz, hIs, h0⟩ := C_planNow hI
      have ho' := owc_ok hIs.oo (c := a1) cw
      obtain ⟨z1, s1, e1, hT1⟩ := hIs.TP0 h0 (c := a1) cw
      obtain ⟨z2, s2, e2, ⟨v, hc, hv⟩, y2, n2, hT2⟩ := hT1.h112
      obtain ⟨z3, s3, e3, ⟨v', hc', hv'⟩, y3, n3, hT3⟩ := hT2.h142 ho'
      obtain ⟨z4, s4, e4, _, y4, n4, hT4⟩ := hT3.h112
      rw [e, cl2_some, gd_pos hz, e1, cl2_some, e2, cl2_some, e3, cl2_some]
      have fin : ∀ (V : Int) (s5 : Hp), TP s5 τ n b d A kn now day D (owc (owd d A day now) a1 a2) → chV d (owd d A day now) (owc (owd d A day now) a1 a2) 0 V → ∃ t, F_M_changes a1 a2 0 τ = some (V, t) ∧ Inv s5 t := fun V s5 h5 hV => by
        obtain ⟨zz, t, et, ez, hIt⟩ := M_changes (a3 := 0) h5.1 (c := a1) cw rfl rfl hc hv hc' hv' hV
        exact ⟨t, by rw [et, ez], n, b, d, A, kn, now, day, D, hIt⟩
      by_cases hE : hasE d (owd d A day now)
      · by_cases hE' : hasE d (owc (owd d A day now) a1 a2)
        · obtain ⟨X, hX, hb⟩ := hasE_bnd g1 hc hv hE
          obtain ⟨X', hX', hb'⟩ := hasE_bnd g1 hc' hv' hE'
          obtain ⟨z5, s5, e5, ez5, hT5⟩ := C_between ho' hT4 hX hb hX' hb'
          obtain ⟨t, et, hIt⟩ := fin z5 s5 hT5 ⟨fun _ _ => ez5, fun _ q => absurd hE' q, fun q => absurd hE q, fun q => absurd hE q⟩
          refine ⟨z5, s5, t, ?_, by rw [et, cl2_some], hIt⟩
          rw [y2 hE, y3 hE', if_pos rfl, e4, cl2_some, y4 hE, if_neg (by decide), e5, cl2_some]
        · obtain ⟨t, et, hIt⟩ := fin _ s3 hT3 ⟨fun _ q => absurd q hE', fun _ _ => (if_pos rfl).symm, fun q => absurd hE q, fun q => absurd hE q⟩
          refine ⟨_, s3, t, ?_, by rw [et, cl2_some], hIt⟩
          have c1s := hT3.1.2.1.1
          have c5s := hT3.1.2.1.2.2.2.2.1.1
          rw [y2 hE, n3 hE', if_neg (by decide), c5s, lt_eq, Int.toNat_natCast, gd_pos c1s.1, C_everybody g1 c1s, cl2_some]
      · by_cases hE' : hasE d (owc (owd d A day now) a1 a2)
        · obtain ⟨t, et, hIt⟩ := fin _ s3 hT3 ⟨fun q => absurd q hE, fun q => absurd q hE, fun _ _ => (if_pos rfl).symm, fun _ q => absurd hE' q⟩
          refine ⟨_, s3, t, ?_, by rw [et, cl2_some], hIt⟩
          have c1s := hT3.1.2.1.1
          have c5s := hT3.1.2.1.2.2.2.2.1.1
          rw [n2 hE, y3 hE', if_neg (by decide), c5s, lt_eq, Int.toNat_natCast, gd_pos c1s.1, C_everybody g1 c1s, cl2_some]
        · obtain ⟨t, et, hIt⟩ := fin 0 s4 hT4 ⟨fun q => absurd q hE, fun q => absurd q hE, fun _ q => absurd q hE', fun _ _ => rfl⟩
          refine ⟨0, s4, t, ?_, by rw [et, cl2_some], hIt⟩
          rw [n2 hE, n3 hE', if_pos rfl, e4, cl2_some, n4 hE, if_pos rfl]
    · rw [if_neg cw, if_pos (c := (0 : Int) = 0) rfl]
      by_cases q : a2 < -1
      · exact ⟨_, _, _, if_pos q, rfl, h⟩
      · exact ⟨_, _, _, by rw [if_neg q, if_neg (by omega)], rfl, h⟩
  · rw [if_neg c]
    exact ⟨_, _, _, if_pos rfl, if_pos rfl, h⟩
theorem S_pays (σ τ : Hp) (a1 : Int) (h : Inv σ τ) : ∃ (z : Int) (σ' τ' : Hp), F_RD_pays a1 σ = some (z, σ') ∧ F_M_pays a1 τ = some (z, τ') ∧ Inv σ' τ' := by
  obtain ⟨n, b, d, A, kn, now, day, D, hI⟩ := id h
  obtain ⟨⟨g1, g2, g3, g4, g5⟩, ⟨c1, c2, c3, c4, c5, c6, c7⟩, ⟨m1, m2, m3, m4, m5, m6⟩, _⟩ := id hI
  have cw : (-1 : Int) ≤ -1 ∧ (-1 : Int) ≤ 100000 := by decide
  unfold F_RD_pays F_RD_pays_41 F_M_pays F_M_pays_19
  rw [C_isRoad g1 c1 c5.1, cl2_some, M_isRoad g1 m1, cl2_some]
  by_cases c : 0 ≤ a1 ∧ a1 < dR d
  · rw [if_pos c, if_neg (c := (1 : Int) = 0) (by decide), if_neg (c := (1 : Int) = 0) (by decide)]
    obtain ⟨z, s, e, hz, hIs, h0⟩ := C_planNow hI
    have ho' := owc_ok hIs.oo (c := a1) cw
    obtain ⟨z1, s1, e1, hT1⟩ := hIs.TP0 h0 (c := a1) cw
    obtain ⟨z2, s2, e2, ⟨v, hc, hv⟩, y2, n2, hT2⟩ := hT1.h112
    obtain ⟨z3, s3, e3, ⟨v', hc', hv'⟩, y3, n3, hT3⟩ := hT2.h142 ho'
    rw [e, cl2_some, gd_pos hz, e1, cl2_some, e2, cl2_some]
    have fin : ∀ (V : Int) (s5 : Hp), TP s5 τ n b d A kn now day D (owc (owd d A day now) a1 (-1)) → chV d (owd d A day now) (owc (owd d A day now) a1 (-1)) 1 V → ∃ t, F_M_changes a1 (-1) 1 τ = some (V, t) ∧ Inv s5 t := fun V s5 h5 hV => by
      obtain ⟨zz, t, et, ez, hIt⟩ := M_changes (a3 := 1) h5.1 (c := a1) cw rfl rfl hc hv hc' hv' hV
      exact ⟨t, by rw [et, ez], n, b, d, A, kn, now, day, D, hIt⟩
    by_cases hE : hasE d (owd d A day now)
    · by_cases hE' : hasE d (owc (owd d A day now) a1 (-1))
      · obtain ⟨X, hX, hb⟩ := hasE_bnd g1 hc hv hE
        obtain ⟨X', hX', hb'⟩ := hasE_bnd g1 hc' hv' hE'
        obtain ⟨z5, s5, e5, ez5, hT5⟩ := C_paid ho' hT3 hX hb hX' hb' a1
        obtain ⟨t, et, hIt⟩ := fin z5 s5 hT5 ⟨fun _ _ => ez5, fun _ q => absurd hE' q, fun q => absurd hE q, fun q => absurd hE q⟩
        refine ⟨z5, s5, t, ?_, by rw [et, cl2_some], hIt⟩
        rw [y2 hE, if_neg (by decide), e3, cl2_some, y3 hE', if_neg (by decide), e5]
      · obtain ⟨t, et, hIt⟩ := fin 0 s3 hT3 ⟨fun _ q => absurd q hE', fun _ _ => (if_neg (by decide)).symm, fun q => absurd hE q, fun q => absurd hE q⟩
        refine ⟨0, s3, t, ?_, by rw [et, cl2_some], hIt⟩
        rw [y2 hE, if_neg (by decide), e3, cl2_some, n3 hE', if_pos rfl]
    · obtain ⟨t, et, hIt⟩ := fin 0 s2 hT2 ⟨fun q => absurd q hE, fun q => absurd q hE, fun _ _ => (if_neg (by decide)).symm, fun _ _ => rfl⟩
      refine ⟨0, s2, t, ?_, by rw [et, cl2_some], hIt⟩
      rw [n2 hE, if_pos rfl]
  · rw [if_neg c]
    exact ⟨_, _, _, if_pos rfl, if_pos rfl, h⟩
end Moves2
