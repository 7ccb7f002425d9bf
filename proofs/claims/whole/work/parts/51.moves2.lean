/-! moves and pays, the class's side -/
section Moves2
variable {σ τ : Hp} {n b : Nat} {d : ND} {A : AD} {kn : Int} {now day : Nat} {D : DL} {ow' : Nat → Int}
theorem InvAt.frO (h : InvAt σ τ n b d A kn now day D) {s : Hp} (h1 : ∀ q, q < 91 ∨ (111 < q ∧ q < 142) ∨ 171 < q → s q = σ q) (h2 : s 169 0 = 0) : InvAt s τ n b d A kn now day D := by
  have c6 := h.2.1.2.2.2.2.2.1
  have pp := h.2.1.2.2.2.2.2.2
  refine h.setC (fun q hq => h1 q ?_) (fun i _ => by rw [h1 0 (by omega)]) ⟨by rw [h1 88 (by omega)]; exact c6.1, fun r hr => by rw [h1 89 (by omega), h1 90 (by omega)]; exact c6.2 r hr⟩ (pp.congr h.1.1 (by rw [h1 0 (by omega)]) (fun q a x => h1 q (by omega)) h2)
  have := hq.1
  unfold keepC at this
  omega
/-- the plan now and an other beside it -/
def TP (s τ : Hp) (n b : Nat) (d : ND) (A : AD) (kn : Int) (now day : Nat) (D : DL) (ow' : Nat → Int) : Prop :=
  InvAt s τ n b d A kn now day D ∧ s 0 16 = 0 ∧ PlanC s 142 n d ow' ∧ TwOk s 142 d ow' ∧ BdOk s 142 d ow'
theorem two_congr {s t : Hp} (hd : NDok d) (hP : PlanC s 142 n d ow') (hT : TwOk s 142 d ow') (hB : BdOk s 142 d ow') (h : ∀ q, 142 ≤ q → t q = s q) : PlanC t 142 n d ow' ∧ TwOk t 142 d ow' ∧ BdOk t 142 d ow' := by
  refine ⟨hP.congr (fun q _ x y => h q (by omega)) (by rw [h 142 (by omega)]) (by rw [h 142 (by omega)]), ?_, ?_⟩
  · unfold TwOk at hT ⊢
    rw [h 142 (by omega)]
    exact hT
  · unfold BdOk at hB ⊢
    intro e u v hu hv
    rw [h 142 (by omega)] at e
    rw [h _ (by omega)]
    exact hB e u v hu hv
theorem TP.h112 (h : TP σ τ n b d A kn now day D ow') : wp (F_Plan_hasEnds 112 σ) (fun z s => (∃ v, cert (dW d) (gpd d (owd d A day now)) v ∧ v ≤ 1439976) ∧ (hasE d (owd d A day now) → z = 1) ∧ (¬ hasE d (owd d A day now) → z = 0) ∧ TP s τ n b d A kn now day D ow') := by
  obtain ⟨hI, h0, hP, hT, hB⟩ := h
  refine wp_mono (hI.hsE h0) (fun z s hs => ?_)
  obtain ⟨q1, q2, q3, q4, q5, q6⟩ := hs
  exact ⟨q1, q2, q3, q4, q5, two_congr hI.1.1 hP hT hB q6⟩
theorem TP.h142 (ho : owOk d ow') (h : TP σ τ n b d A kn now day D ow') : wp (F_Plan_hasEnds 142 σ) (fun z s => (∃ v, cert (dW d) (gpd d ow') v ∧ v ≤ 1439976) ∧ (hasE d ow' → z = 1) ∧ (¬ hasE d ow' → z = 0) ∧ TP s τ n b d A kn now day D ow') := by
  obtain ⟨hI, h0, hP, hT, hB⟩ := h
  have pp := hI.2.1.2.2.2.2.2.2
  have hW := hI.1.1.1
  refine wp_mono (C_hasE hI.1.1 ho (by decide) hI.2.1.1 hP hT) (fun z s hs => ?_)
  obtain ⟨q1, q2, q3, q4, q5, q6⟩ := hs
  refine ⟨q1, q2, q3, hI.frO (fun q hq => q5 q (by omega) (by omega)) (by rw [q5 169 (by omega) (by omega)]; exact pp.2.2.2), by rw [q5 0 (by omega) (by omega)]; exact h0, hP.congr (fun q a x y => q5 q a (by omega)) (q6 6 (by omega) (by omega)) (q6 7 (by omega) (by omega)), q4, fun e u v hu hv => ?_⟩
  rw [q5 _ (by omega) (by omega)]
  exact hB (by rw [← q6 10 (by omega) (by omega)]; exact e) u v hu hv
theorem TP.e112 (h : TP σ τ n b d A kn now day D ow') {X : Nat → Int} (hX : feasX d (owd d A day now) X) (hb : ∀ w, w < dW d → X w ≤ 2 * al d w + 1439976) {w : Nat} (hw : w < dW d) (g : Int) : wp (F_Plan_endOf 112 w g σ) (fun z s => z = endV d (owd d A day now) w g ∧ TP s τ n b d A kn now day D ow') := by
  obtain ⟨hI, h0, hP, hT, hB⟩ := h
  refine wp_mono (C_endOf hI.1.1 hI.oo (by decide) (hI.EC h0) hX hb (by omega) hw g) (fun z s hs => ?_)
  obtain ⟨q1, q2, q3⟩ := hs
  obtain ⟨q4, q5⟩ := hI.frs h0 q3 q2.2.2
  exact ⟨q1, q4, q5, two_congr hI.1.1 hP hT hB (fun q hq => q3.1 q (by omega))⟩
theorem TP.e142 (ho : owOk d ow') (h : TP σ τ n b d A kn now day D ow') {X : Nat → Int} (hX : feasX d ow' X) (hb : ∀ w, w < dW d → X w ≤ 2 * al d w + 1439976) {w : Nat} (hw : w < dW d) (g : Int) : wp (F_Plan_endOf 142 w g σ) (fun z s => z = endV d ow' w g ∧ TP s τ n b d A kn now day D ow') := by
  obtain ⟨hI, h0, hP, hT, hB⟩ := h
  have pp := hI.2.1.2.2.2.2.2.2
  refine wp_mono (C_endOf hI.1.1 ho (by decide) ⟨hI.2.1.1, hP, hB⟩ hX hb (by omega) hw g) (fun z s hs => ?_)
  obtain ⟨q1, q2, q3⟩ := hs
  refine ⟨q1, hI.frO (fun q hq => q3.1 q (by omega)) (by rw [q3.1 169 (by omega)]; exact pp.2.2.2), by rw [q3.1 0 (by omega)]; exact h0, q2.2.1, ?_, q2.2.2⟩
  unfold TwOk at hT ⊢
  rw [q3.2 9 (by omega), q3.2 8 (by omega)]
  exact hT
theorem C_between (ho : owOk d ow') (h : TP σ τ n b d A kn now day D ow') {X X' : Nat → Int} (hX : feasX d (owd d A day now) X) (hb : ∀ w, w < dW d → X w ≤ 2 * al d w + 1439976) (hX' : feasX d ow' X') (hb' : ∀ w, w < dW d → X' w ≤ 2 * al d w + 1439976) :
    wp (F_RD_movedBetween σ) (fun z s => z = ((mvS (chP d (owd d A day now) ow' 0) (dW d) : Nat) : Int) ∧ TP s τ n b d A kn now day D ow') := by
  have hW := h.1.1.1.1
  generalize eo : owd d A day now = ow at *
  unfold F_RD_movedBetween F_RD_movedBetween_4
  refine wp_loop (fun a : Int × Int × Hp => ∃ k : Nat, k ≤ dW d ∧ a.1 = ((mvS (chP d ow ow' 0) k : Nat) : Int) ∧ a.2.1 = (k : Int) ∧ TP a.2.2 τ n b d A kn now day D ow') (fun a => (300 - a.2.1).toNat) ?_ FU _ ?_ ?_
  · intro a K hp ih
    obtain ⟨x, y, s⟩ := a
    obtain ⟨k, hk, e0, e1, hs⟩ := hp
    dsimp only at e0 e1 hs ih ⊢
    subst e0 e1
    have hN := hs.1.2.1.1
    have hP := (hs.1.pln hs.2.1).1
    unfold F_RD_movedBetween_4_b
    rw [hP.1, lt_eq, Int.toNat_natCast, gd_pos hN.1, hN.2.1]
    refine wp_if (fun cc => ?_) (fun cc => ?_)
    · have ek : k = dW d := by omega
      subst ek
      exact wp_ret ⟨rfl, hs⟩
    · have hkW : k < dW d := by omega
      have no : ∀ t, TP t τ n b d A kn now day D ow' → ¬ chP d ow ow' 0 k = true → wp (F_RD_movedBetween_51 K ((mvS (chP d ow ow' 0) k : Nat) : Int) k t) (fun z s => z = ((mvS (chP d ow ow' 0) (dW d) : Nat) : Int) ∧ TP s τ n b d A kn now day D ow') := fun t ht hp => by
        unfold F_RD_movedBetween_51
        rw [lt_eq, iadd_ok (by omega)]
        exact ih _ ⟨k + 1, by omega, by rw [mvS_no hp], by show (k : Int) + 1 = ((k + 1 : Nat) : Int); omega, ht⟩ (by dsimp only; omega)
      have yes : ∀ t, TP t τ n b d A kn now day D ow' → chP d ow ow' 0 k = true → wp (F_RD_movedBetween_45 K ((mvS (chP d ow ow' 0) k : Nat) : Int) k t) (fun z s => z = ((mvS (chP d ow ow' 0) (dW d) : Nat) : Int) ∧ TP s τ n b d A kn now day D ow') := fun t ht hp => by
        unfold F_RD_movedBetween_45 F_RD_movedBetween_51
        rw [lt_eq, lt_eq, ior_bit _ (by omega), iadd_ok (by omega)]
        exact ih _ ⟨k + 1, by omega, by rw [mvS_yes hp], by show (k : Int) + 1 = ((k + 1 : Nat) : Int); omega, ht⟩ (by dsimp only; omega)
      subst eo
      refine wp_cl (hs.e112 hX hb hkW 0) (fun z1 s1 h1 => wp_cl (h1.2.e142 ho hX' hb' hkW 0) (fun z2 s2 h2 => ?_))
      rw [h1.1, h2.1]
      refine wp_if (fun c4 => ?_) (fun c4 => ?_)
      · refine wp_cl (h2.2.e112 hX hb hkW 1) (fun z3 s3 h3 => wp_cl (h3.2.e142 ho hX' hb' hkW 1) (fun z4 s4 h4 => ?_))
        rw [h3.1, h4.1]
        refine wp_if (fun c5 => ?_) (fun c5 => ?_)
        · refine no s4 h4.2 ?_
          unfold chP
          rw [if_pos rfl]
          simp [c4, c5]
        · refine yes s4 h4.2 ?_
          unfold chP
          rw [if_pos rfl]
          simp [Ne.symm c5]
      · refine yes s2 h2.2 ?_
        unfold chP
        rw [if_pos rfl]
        simp [Ne.symm c4]
  · exact ⟨0, by omega, rfl, rfl, h⟩
  · rw [FU_eq]
    show (300 - (0 : Int)).toNat < 20000
    omega
end Moves2
