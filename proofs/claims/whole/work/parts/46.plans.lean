/-! the calls that plan: of, row, most, price -/
section Plans
variable {σ τ : Hp} {n b : Nat} {d : ND} {A : AD} {kn : Int} {now day : Nat} {D : DL} {ow : Nat → Int}
theorem C_mostOf {s : Hp} {this : Nat} (hp : isPlan this) (hd : NDok d) (hP : PlanC s this n d ow) {m : Nat} (hm : m < 2 ^ dW d) : F_Plan_mostOf this m s = some (bR d ow 0 m, s) := by
  have h12 := pow_le12 hd.1
  unfold F_Plan_mostOf F_Plan_mostOf_21
  rw [gd_pos hp, if_neg (by omega), if_neg (by omega), gd_pos (by omega), Int.toNat_natCast, hP.2.2.1 m hm]
theorem C_planNow (h : InvAt σ τ n b d A kn now day D) : wp (F_RD_planNow σ) (fun z s => z.toNat = 112 ∧ InvAt s τ n b d A kn now day D ∧ s 0 16 = 0) := by
  obtain ⟨⟨g1, g2, g3, g4, g5⟩, ⟨c1, c2, c3, c4, c5, c6, p1, p2, p3, p4⟩, _⟩ := id h
  have ho := owd_ok (d := d) (day := day) g2 g3.le
  unfold F_RD_planNow F_RD_planNow_21
  refine wp_if (fun c => ?_) (fun c => ?_)
  · exact wp_ret ⟨rfl, h, c⟩
  · refine wp_cl (C_take g1 ho (by decide) c1 c6 (c := -1) (w := -1) (by omega) p3) (fun _ s hs => ?_)
    rw [owc_none] at hs
    obtain ⟨q1, q2, q3, q4, q5, q6⟩ := hs
    rw [lt_eq]
    refine wp_ret ⟨rfl, ?_, by rw [hset_same]⟩
    refine h.setC (fun q hq => ?_) (fun i hi => ?_) ?_ ⟨Or.inl (by rw [hset_same]), fun _ => ⟨?_, ?_, ?_⟩, ?_, ?_⟩
    · rw [hset_obj _ _ _ _ hq.2.1]
      exact q5 q (by omega) (by omega) (by omega) (by omega)
    · rw [hset_get, if_neg (by omega)]
      rw [q5 0 (by omega) (by omega) (by omega) (by omega)]
    · refine ⟨?_, fun r hr => ?_⟩
      · rw [hset_obj _ _ _ _ (by omega), q5 88 (by omega) (by omega) (by omega) (by omega)]; exact c6.1
      · rw [hset_obj _ _ _ _ (by omega), hset_obj _ _ _ _ (by omega), q5 89 (by omega) (by omega) (by omega) (by omega), q5 90 (by omega) (by omega) (by omega) (by omega)]; exact c6.2 r hr
    · exact q1.congr (fun q a _ _ => hset_obj _ _ _ _ (by omega)) (by rw [hset_obj _ _ _ _ (by omega)]) (by rw [hset_obj _ _ _ _ (by omega)])
    · intro e
      rw [hset_obj _ _ _ _ (by omega), q2] at e
      exact absurd e (by decide)
    · intro e
      rw [hset_obj _ _ _ _ (by omega), q3] at e
      exact absurd e (by decide)
    · rw [hset_obj _ _ _ _ (by omega)]; exact q4
    · rw [hset_obj _ _ _ _ (by omega), q5 169 (by omega) (by omega) (by omega) (by omega)]; exact p4
theorem InvAt.pln (h : InvAt σ τ n b d A kn now day D) (h0 : σ 0 16 = 0) : PlanC σ 112 n d (owd d A day now) ∧ TwOk σ 112 d (owd d A day now) ∧ BdOk σ 112 d (owd d A day now) := h.2.1.2.2.2.2.2.2.2.1 h0
theorem InvAt.oo (h : InvAt σ τ n b d A kn now day D) : owOk d (owd d A day now) := owd_ok h.1.2.1 h.1.2.2.1.le
/-- the check's lays and mosts -/
theorem InvAt.mosts (h : InvAt σ τ n b d A kn now day D) {c w : Int} (hw : -1 ≤ w ∧ w ≤ 100000) {ow : Nat → Int} (e : owc (owd d A day now) c w = ow) {k : Int → Hp → Option (Int × Hp)} {Q : Int → Hp → Prop}
    (hk : ∀ v t, InvAt σ t n b d A kn now day D → MostM t d ow 0 → ViewM1 t d ow → wp (k v t) Q) : wp (cl2 (F_M_lays c w τ) fun _ s => cl2 (F_M_mosts (-1) s) k) Q := by
  have hl := h.lays (c := c) (w := w) hw
  obtain ⟨⟨g1, g2, g3, g4, g5⟩, cc, ⟨m1, m2, m3, m4, m5, m6⟩, _⟩ := id h
  have ho := owc_ok h.oo (c := c) hw
  rw [e] at hl ho
  refine wp_cl hl (fun _ t ht => ?_)
  obtain ⟨⟨hv, _⟩, hf⟩ := ht
  have hm : NetM t b d := m1.congr (by rw [hf 0 (by omega)]) (fun q a b => hf q (by omega))
  have M := M_mosts (lo := 0) g1 hm ho hv (by omega)
  refine wp_cl M (fun v u hu => hk v u ?_ hu.1 ?_)
  · exact (h.frM (t := u) (fun q hq => by rw [hu.2 q (by omega), hf q (by omega)]))
  · intro r hr
    rw [hu.2 29 (by omega), hu.2 30 (by omega)]
    exact hv r hr
theorem S_of (σ τ : Hp) (a1 : Int) (h : Inv σ τ) : ∃ (z : Int) (σ' τ' : Hp), F_RD_of a1 σ = some (z, σ') ∧ F_M_of a1 τ = some (z, τ') ∧ Inv σ' τ' := by
  obtain ⟨n, b, d, A, kn, now, day, D, hI⟩ := id h
  obtain ⟨⟨g1, g2, g3, g4, g5⟩, ⟨c1, c2, c3, c4, c5, c6, c7⟩, ⟨m1, m2, m3, m4, m5, m6⟩, _⟩ := id hI
  have h12 := pow_le12 g1.1
  have hpp := Nat.two_pow_pos (dW d)
  unfold F_RD_of F_RD_of_26 F_RD_of_27 F_M_of F_M_of_12
  by_cases c : a1 < 0
  · exact ⟨_, _, _, if_pos c, if_pos c, h⟩
  · rw [if_neg c, if_neg c, c5.1, lt_eq, Int.toNat_natCast, gd_pos c1.1, C_everybody g1 c1, cl2_some, M_all g1 m1, cl2_some]
    by_cases c8 : ((2 ^ dW d - 1 : Nat) : Int) < a1
    · exact ⟨_, _, _, if_pos c8, if_neg (by omega), h⟩
    · obtain ⟨m, rfl⟩ : ∃ k : Nat, a1 = k := ⟨a1.toNat, by omega⟩
      have hm : m < 2 ^ dW d := by omega
      rw [if_neg c8, if_pos (by omega)]
      obtain ⟨z, s, e, hz, hIs, h0⟩ := C_planNow hI
      have hM := hIs.mosts (c := -1) (w := 0) (by omega) owc_none (k := fun _ s10 => gd (0 ≤ (m : Int) ∧ (m : Int) < (4096 : Int)) <| some (s10 32 (m : Int).toNat, s10)) (Q := fun v t => v = bR d (owd d A day now) 0 m ∧ InvAt s t n b d A kn now day D) (fun v t hI2 hm2 _ => by
        rw [gd_pos (by omega), Int.toNat_natCast]
        exact wp_ret ⟨hm2.1 m hm, hI2⟩)
      obtain ⟨z2, t, e2, hz2, hI2⟩ := hM
      rw [e, cl2_some, gd_pos hz, C_mostOf (by decide) g1 (hIs.pln h0).1 hm, cl2_some]
      exact ⟨_, _, _, rfl, by rw [← hz2]; exact e2, n, b, d, A, kn, now, day, D, hI2⟩
theorem S_row (σ τ : Hp) (a1 : Int) (h : Inv σ τ) : ∃ (z : Int) (σ' τ' : Hp), F_RD_row a1 σ = some (z, σ') ∧ F_M_row a1 τ = some (z, τ') ∧ Inv σ' τ' := by
  obtain ⟨n, b, d, A, kn, now, day, D, hI⟩ := id h
  obtain ⟨z, s, e, hz, hIs, h0⟩ := C_planNow hI
  have hl := hIs.lays (c := -1) (w := 0) (by omega)
  have ho := hIs.oo
  obtain ⟨⟨g1, g2, g3, g4, g5⟩, cc, ⟨m1, m2, m3, m4, m5, m6⟩, _⟩ := id hIs
  have hP := (hIs.pln h0).1
  rw [owc_none] at hl
  obtain ⟨v, t, e2, ⟨hv, _⟩, hf⟩ := hl
  have hm : NetM t b d := m1.congr (by rw [hf 0 (by omega)]) (fun q a b => hf q (by omega))
  obtain ⟨v3, u, e3, hR, hfu⟩ := M_finds g1 hm ho hv
  have hIu : InvAt s u n b d A kn now day D := hIs.setM (fun q hq => by
    unfold keepM at hq
    rw [hfu.1 q (by omega) (by omega) (by omega) (by omega) (by omega), hf q (by omega)]) (fun i hi => by
    unfold keepM0 at hi
    rw [hfu.2 i (by omega), hf 0 (by omega)])
  have hlen : (rwS d (owd d A day now) (dR d)).2.length ≤ 6 := by
    have := rwS_len (ow := owd d A day now) g1 (dR d) (Nat.le_refl _)
    omega
  unfold F_RD_row F_RD_row_26 F_RD_row_27 F_M_row F_M_row_22 F_M_row_32
  rw [e, cl2_some, gd_pos hz, e2, cl2_some, e3, cl2_some]
  by_cases c : a1 < 0
  · exact ⟨_, _, _, if_pos c, if_pos c, n, b, d, A, kn, now, day, D, hIu⟩
  · rw [if_neg c, if_neg c]
    obtain ⟨k, rfl⟩ : ∃ k : Nat, a1 = k := ⟨a1.toNat, by omega⟩
    rw [hP.2.2.2.1, hR.1]
    by_cases c2 : k < (rwS d (owd d A day now) (dR d)).2.length
    · refine ⟨_, _, _, by rw [if_neg (by omega), gd_pos (by omega), Int.toNat_natCast, hP.2.2.2.2 k c2], ?_, n, b, d, A, kn, now, day, D, hIu⟩
      rw [if_pos (by omega), gd_pos (by omega), Int.toNat_natCast, hR.2.1 k c2]
    · exact ⟨_, _, _, if_pos (by omega), if_neg (by omega), n, b, d, A, kn, now, day, D, hIu⟩
/-- a part of the plan now that keeps its two answers -/
theorem InvAt.setP (h : InvAt σ τ n b d A kn now day D) (h0 : σ 0 16 = 0) {s : Hp} (h1 : ∀ q, keepC q ∧ q ≠ 112 ∧ ¬ (113 ≤ q ∧ q ≤ 138) → s q = σ q) (h2 : ∀ q, 88 ≤ q ∧ q ≤ 90 → s q = σ q) (h3 : s 112 6 = σ 112 6) (h4 : s 112 7 = σ 112 7) (h5 : TwOk s 112 d (owd d A day now)) (h6 : BdOk s 112 d (owd d A day now)) (h7 : s 169 0 = 0) : InvAt s τ n b d A kn now day D := by
  have c6 := h.2.1.2.2.2.2.2.1
  have pp := h.2.1.2.2.2.2.2.2
  refine h.setC (fun q hq => h1 q ⟨hq.1, by omega, by omega⟩) (fun i _ => by rw [h1 0 ⟨Or.inl (by omega), by omega, by omega⟩]) ?_ ⟨?_, fun _ => ⟨?_, h5, h6⟩, ?_, h7⟩
  · refine ⟨by rw [h2 88 (by omega)]; exact c6.1, fun r hr => by rw [h2 89 (by omega), h2 90 (by omega)]; exact c6.2 r hr⟩
  · rw [h1 0 ⟨Or.inl (by omega), by omega, by omega⟩]; exact pp.1
  · exact (h.pln h0).1.congr (fun q a x y => h1 q ⟨Or.inr (Or.inl (by omega)), a, by omega⟩) h3 h4
  · rw [h1 139 ⟨Or.inr (Or.inl (by omega)), by omega, by omega⟩]; exact pp.2.2.1
theorem S_most (σ τ : Hp) (a1 : Int) (h : Inv σ τ) : ∃ (z : Int) (σ' τ' : Hp), F_RD_most a1 σ = some (z, σ') ∧ F_M_most a1 τ = some (z, τ') ∧ Inv σ' τ' := by
  obtain ⟨n, b, d, A, kn, now, day, D, hI⟩ := id h
  obtain ⟨z, s, e, hz, hIs, h0⟩ := C_planNow hI
  have ho := hIs.oo
  obtain ⟨⟨g1, g2, g3, g4, g5⟩, ⟨c1, c2, c3, c4, c5, c6, c7⟩, ⟨m1, m2, m3, m4, m5, m6⟩, _⟩ := id hIs
  obtain ⟨hP, hT, hB⟩ := hIs.pln h0
  have h12 := pow_le12 g1.1
  have hpp := Nat.two_pow_pos (dW d)
  have hm : 2 ^ dW d - 1 < 2 ^ dW d := by omega
  unfold F_RD_most F_RD_most_27 F_M_most
  rw [e, cl2_some, gd_pos hz]
  by_cases ca : a1 = 0
  · have hM := hIs.mosts (c := -1) (w := 0) (by omega) owc_none (k := fun _ s6 => cl2 (F_M_all s6) fun v8 s9 => gd (0 ≤ v8 ∧ v8 < (4096 : Int)) <| some (s9 32 v8.toNat, s9)) (Q := fun v t => v = bR d (owd d A day now) 0 (2 ^ dW d - 1) ∧ InvAt s t n b d A kn now day D) (fun v t hI2 hm2 _ => by
      rw [M_all g1 hI2.2.2.1.1, cl2_some, gd_pos (by omega), Int.toNat_natCast]
      exact wp_ret ⟨hm2.1 _ hm, hI2⟩)
    obtain ⟨z2, t, e2, hz2, hI2⟩ := hM
    refine ⟨_, _, _, by rw [if_pos ca, c5.1, lt_eq, Int.toNat_natCast, gd_pos c1.1, C_everybody g1 c1, cl2_some, C_mostOf (by decide) g1 hP hm, cl2_some], ?_, n, b, d, A, kn, now, day, D, hI2⟩
    rw [← hz2, ← e2]
    simp only [if_pos ca]
  · obtain ⟨v, s2, e2, hv, q9, q8, qf, qi⟩ := C_twice g1 ho (by decide) c1 hP hT
    have hIs2 : InvAt s2 τ n b d A kn now day D := hIs.setP h0 (fun q hq => qf q hq.2.1 (by have := hq.1; unfold keepC at this; omega)) (fun q hq => qf q (by omega) (by omega)) (qi 6 (by omega) (by omega)) (qi 7 (by omega) (by omega)) (fun _ => by rw [q8]; exact hv) (fun e10 u v hu hv => by
      rw [qf _ (by omega) (by omega)]
      exact hB (by rw [← qi 10 (by omega) (by omega)]; exact e10) u v hu hv) (by rw [qf 169 (by omega) (by omega)]; exact c7.2.2.2)
    have hl := hIs2.lays (c := -1) (w := 0) (by omega)
    rw [owc_none] at hl
    obtain ⟨v4, t, e4, ⟨hv4, hg4⟩, hf⟩ := hl
    have hmt : NetM t b d := m1.congr (by rw [hf 0 (by omega)]) (fun q a b => hf q (by omega))
    obtain ⟨v5, u, e5, hv5, _, _, hfu⟩ := M_doubles (q0 := 31) g1 hmt (wt := gpd d (owd d A day now)) (fun i j => gpd_rng g1 ho i j) (fun i j => gpd_sym d _ i j) (by decide) (by decide) (by omega) (fun a c ha hc => hg4 a c ha hc)
    refine ⟨v, s2, u, by rw [if_neg ca, e2, cl2_some], by rw [e4, cl2_some, if_neg ca, e5, cl2_some, hv5 v hv.1], n, b, d, A, kn, now, day, D, hIs2.frM (fun q hq => by rw [hfu q (by omega), hf q (by omega)])⟩
end Plans
