/-! the price of a road; the other plan -/
section Price
variable {σ τ : Hp} {n b : Nat} {d : ND} {A : AD} {kn : Int} {now day : Nat} {D : DL} {ow : Nat → Int}
theorem PlnC.congr {s : Hp} (hd : NDok d) (h : PlnC σ n d ow) (h0 : s 0 16 = σ 0 16) (h1 : ∀ q, 112 ≤ q → q ≤ 141 → s q = σ q) (h2 : s 169 0 = 0) : PlnC s n d ow := by
  obtain ⟨p1, p2, p3, p4⟩ := h
  refine ⟨by rw [h0]; exact p1, fun e => ?_, by rw [h1 139 (by omega) (by omega)]; exact p3, h2⟩
  obtain ⟨q1, q2, q3⟩ := p2 (by rw [← h0]; exact e)
  refine ⟨q1.congr (fun q _ x y => h1 q (by omega) (by omega)) (by rw [h1 112 (by omega) (by omega)]) (by rw [h1 112 (by omega) (by omega)]), ?_, ?_⟩
  · unfold TwOk
    rw [h1 112 (by omega) (by omega)]
    exact q2
  · unfold BdOk at q3 ⊢
    rw [h1 112 (by omega) (by omega)]
    intro e2 u v hu hv
    have hW := hd.1
    rw [h1 _ (by omega) (by omega)]
    exact q3 e2 u v hu hv
theorem InvAt.take142 (h : InvAt σ τ n b d A kn now day D) {c w : Int} (hw : -1 ≤ w ∧ w ≤ 100000) : wp (F_Plan_take 142 c w σ) (fun _ s => InvAt s τ n b d A kn now day D ∧ s 0 16 = σ 0 16 ∧ PlanC s 142 n d (owc (owd d A day now) c w) ∧ s 142 9 = 1 ∧ s 142 10 = 1) := by
  obtain ⟨⟨g1, g2, g3, g4, g5⟩, ⟨c1, c2, c3, c4, c5, c6, c7⟩, _⟩ := id h
  refine wp_mono (C_take g1 h.oo (by decide) c1 c6 (c := c) hw c7.2.2.2) (fun _ s hs => ?_)
  obtain ⟨q1, q2, q3, q4, q5, q6⟩ := hs
  have k : ∀ q, q ≤ 141 → s q = σ q := fun q a => q5 q (by omega) (by omega) (by omega) (by omega)
  refine ⟨h.setC (fun q hq => q5 q ?_ ?_ ?_ ?_) (fun i _ => by rw [k 0 (by omega)]) ⟨by rw [k 88 (by omega)]; exact c6.1, fun r hr => by rw [k 89 (by omega), k 90 (by omega)]; exact c6.2 r hr⟩ (c7.congr g1 (by rw [k 0 (by omega)]) (fun q a x => k q x) q4), by rw [k 0 (by omega)], q1, q2, q3⟩ <;>
    · have := hq.1
      unfold keepC at this
      omega
theorem prM_ior (hd : NDok d) {r : Nat} (hr : r < dR d) : ior (ishl 1 (fs d r)) (ishl 1 (sn d r)) = ((prM d r : Nat) : Int) := by
  have h1 := hd.2.2.1 r hr
  have hW := hd.1
  have p1 := pow_le12 (k := fs d r) (by omega)
  have p2 := pow_le12 (k := sn d r) (by omega)
  rw [ishl_1 (by omega), ishl_1 (by omega), Int.toNat_natCast, Int.toNat_natCast, ior_nn (by omega) (by omega), Int.toNat_natCast, Int.toNat_natCast]
  rfl
theorem prM_lt (hd : NDok d) {r : Nat} (hr : r < dR d) : prM d r < 2 ^ dW d := by
  have h1 := hd.2.2.1 r hr
  exact Nat.or_lt_two_pow (Nat.pow_lt_pow_right (by omega) h1.1) (Nat.pow_lt_pow_right (by omega) h1.2.1)
def rest (d : ND) (r : Nat) : Nat := (2 ^ dW d - 1) ^^^ ((2 ^ dW d - 1) &&& prM d r)
theorem rest_lt (d : ND) (r : Nat) : rest d r < 2 ^ dW d := by
  have hp := Nat.two_pow_pos (dW d)
  have h1 : (2 ^ dW d - 1) &&& prM d r ≤ 2 ^ dW d - 1 := Nat.and_le_left
  exact Nat.xor_lt_two_pow (by omega) (by omega)
theorem rest_eq (hd : NDok d) {r : Nat} (hr : r < dR d) : iand ((2 ^ dW d - 1 : Nat) : Int) (ixor ((prM d r : Nat) : Int) (-1)) = ((rest d r : Nat) : Int) := by
  have h12 := pow_le12 hd.1
  have := prM_lt hd hr
  rw [iandnot_nn (by omega) (by omega), Int.toNat_natCast, Int.toNat_natCast]
  rfl
theorem S_price (σ τ : Hp) (a1 : Int) (h : Inv σ τ) : ∃ (z : Int) (σ' τ' : Hp), F_RD_price a1 σ = some (z, σ') ∧ F_M_price a1 τ = some (z, τ') ∧ Inv σ' τ' := by
  obtain ⟨n, b, d, A, kn, now, day, D, hI⟩ := id h
  obtain ⟨v, s, e, hIs, h16, hP, _, _⟩ := hI.take142 (c := a1) (w := -1) (by omega)
  have ho' := owc_ok hI.oo (c := a1) (w := -1) (by omega)
  obtain ⟨⟨g1, g2, g3, g4, g5⟩, ⟨c1, c2, c3, c4, c5, c6, c7⟩, ⟨m1, m2, m3, m4, m5, m6⟩, _⟩ := id hI
  have c1' := hIs.2.1.1
  have c5' := hIs.2.1.2.2.2.2.1
  have h12 := pow_le12 g1.1
  have hpp := Nat.two_pow_pos (dW d)
  have hm : 2 ^ dW d - 1 < 2 ^ dW d := by omega
  unfold F_RD_price F_M_price F_M_price_129
  rw [C_isRoad g1 c1 c5.1, cl2_some, M_isRoad g1 m1, cl2_some]
  by_cases c : 0 ≤ a1 ∧ a1 < dR d
  · rw [if_pos c, if_neg (c := (1 : Int) = 0) (by decide), if_neg (c := (1 : Int) = 0) (by decide)]
    obtain ⟨r, rfl⟩ : ∃ k : Nat, a1 = k := ⟨a1.toNat, by omega⟩
    have hr : r < dR d := by omega
    have hp1 := g1.2.2.1 r hr
    have hW := g1.1
    have hR := g1.2.1
    have hrs := rest_lt d r
    have a1 := g1.2.2.2.1 _ hp1.1
    have a2 := g1.2.2.2.1 _ hp1.2.1
    have t1 := g1.2.2.2.2.1 (fs d r) (sn d r)
    have t2 := g1.2.2.2.2.1 (sn d r) (fs d r)
    have b1 := bR_rng (ow := owc (owd d A day now) r (-1)) g1 ho' 0 hm
    have b2 := bR_rng (ow := owc (owd d A day now) r (-1)) g1 ho' 0 hrs
    generalize hB1 : bR d (owc (owd d A day now) r (-1)) 0 (2 ^ dW d - 1) = B1 at b1
    generalize hB2 : bR d (owc (owd d A day now) r (-1)) 0 (rest d r) = B2 at b2
    have hb := m1.1
    have hM := hIs.mosts (c := r) (w := -1) (by omega) rfl (k := fun _ s9 => cl2 (F_M_first r s9) fun v11 s12 =>
      cl2 (F_M_second r s12) fun v14 s15 =>
      cl2 (F_M_all s15) fun v17 s18 =>
      gd (0 ≤ v17 ∧ v17 < (4096 : Int)) <|
      cl2 (F_M_all s18) fun v21 s22 =>
      gd (0 ≤ (iand v21 (ixor (ior (ishl 1 v11) (ishl 1 v14)) (-1))) ∧ (iand v21 (ixor (ior (ishl 1 v11) (ishl 1 v14)) (-1))) < (4096 : Int)) <|
      cl2 (F_M_aloneOf v11 s22) fun v25 s26 =>
      cl2 (F_M_aloneOf v14 s26) fun v28 s29 =>
      gd (0 ≤ (iadd (iadd (imul 144 (s29 0 12)) (imul 12 v11)) v14) ∧ (iadd (iadd (imul 144 (s29 0 12)) (imul 12 v11)) v14) < (288 : Int)) <|
      gd (0 ≤ (iadd (iadd (imul 144 (s29 0 12)) (imul 12 v14)) v11) ∧ (iadd (iadd (imul 144 (s29 0 12)) (imul 12 v14)) v11) < (288 : Int)) <|
      lt (isub (isub (iadd (iadd (isub (s18 32 v17.toNat) (s22 32 (iand v21 (ixor (ior (ishl 1 v11) (ishl 1 v14)) (-1))).toNat)) v25) v28) (s29 15 (iadd (iadd (imul 144 (s29 0 12)) (imul 12 v11)) v14).toNat)) (s29 15 (iadd (iadd (imul 144 (s29 0 12)) (imul 12 v14)) v11).toNat)) fun y4_33 =>
      (if 0 ≤ y4_33 then some (y4_33, s29) else some (0, s29)))
      (Q := fun v t => v = max 0 (B1 - B2 - (0 + ta d (fs d r) (sn d r) + ta d (sn d r) (fs d r) - al d (fs d r) - al d (sn d r))) ∧ InvAt s t n b d A kn now day D) (fun v t hI2 hm2 _ => by
        have m1t := hI2.2.2.1.1
        rw [M_first g1 m1t hr, cl2_some, M_second g1 m1t hr, cl2_some, M_all g1 m1t, cl2_some, gd_pos (by omega), M_all g1 m1t, cl2_some, prM_ior g1 hr, rest_eq g1 hr, gd_pos (by omega), M_aloneOf g1 m1t hp1.1, cl2_some, M_aloneOf g1 m1t hp1.2.1, cl2_some, m1t.2.1, ix144 hb (by omega) (by omega), ix144 hb (by omega) (by omega), gd_pos (by omega), gd_pos (by omega)]
        simp only [Int.toNat_natCast]
        rw [hm2.1 _ hm, hm2.1 _ hrs, hB1, hB2, m1t.2.2.2.2.2.2.2.2 _ _ (by omega) (by omega), m1t.2.2.2.2.2.2.2.2 _ _ (by omega) (by omega)]
        simp (disch := omega) only [iadd_ok, isub_ok]
        rw [lt_eq]
        refine wp_if (fun q => ?_) (fun q => ?_)
        · exact wp_ret ⟨by omega, hI2⟩
        · exact wp_ret ⟨by omega, hI2⟩)
    obtain ⟨z2, t, e2, hz2, hI2⟩ := hM
    rw [e, cl2_some, c5'.1, lt_eq, Int.toNat_natCast, gd_pos c1.1, C_everybody g1 c1', cl2_some, c5'.1, lt_eq, Int.toNat_natCast, gd_pos c1.1, C_pairOf g1 c1' hr, cl2_some, rest_eq g1 hr, lt_eq, C_mostOf (by decide) g1 hP hm, cl2_some, C_mostOf (by decide) g1 hP hrs, cl2_some, lt_eq, c5'.1, lt_eq, Int.toNat_natCast, gd_pos c1.1, C_gainWith g1 c1' hr (by omega), cl2_some, hB1, hB2, isub_ok (a := B1) (by omega), isub_ok (by omega), imax0]
    refine ⟨_, _, _, rfl, ?_, n, b, d, A, kn, now, day, D, hI2⟩
    rw [← hz2]
    exact e2
  · rw [if_neg c]
    exact ⟨_, _, _, if_pos rfl, if_pos rfl, h⟩
end Price
