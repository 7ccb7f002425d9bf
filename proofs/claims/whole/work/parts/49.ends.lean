/-! the calls that tell ends: end, two -/
section SEnds
variable {σ τ : Hp} {n b : Nat} {d : ND} {A : AD} {kn : Int} {now day : Nat} {D : DL}
theorem InvAt.hsE (h : InvAt σ τ n b d A kn now day D) (h0 : σ 0 16 = 0) :
    wp (F_Plan_hasEnds 112 σ) (fun z s => (∃ v, cert (dW d) (gpd d (owd d A day now)) v ∧ v ≤ 1439976) ∧ (hasE d (owd d A day now) → z = 1) ∧ (¬ hasE d (owd d A day now) → z = 0) ∧ InvAt s τ n b d A kn now day D ∧ s 0 16 = 0 ∧ ∀ q, 142 ≤ q → s q = σ q) := by
  obtain ⟨hP, hT, hB⟩ := h.pln h0
  have pp := h.2.1.2.2.2.2.2.2
  have hW := h.1.1.1
  refine wp_mono (C_hasE h.1.1 h.oo (by decide) h.2.1.1 hP hT) (fun z s hs => ?_)
  obtain ⟨q1, q2, q3, q4, q5, q6⟩ := hs
  refine ⟨q1, q2, q3, h.setP h0 (fun q hq => q5 q hq.2.1 (by have := hq.1; unfold keepC at this; omega)) (fun q hq => q5 q (by omega) (by omega)) (q6 6 (by omega) (by omega)) (q6 7 (by omega) (by omega)) q4 (fun e10 u v hu hv => ?_) (by rw [q5 169 (by omega) (by omega)]; exact pp.2.2.2), by rw [q5 0 (by omega) (by omega)]; exact h0, fun q hq => q5 q (by omega) (by omega)⟩
  rw [q5 _ (by omega) (by omega)]
  exact hB (by rw [← q6 10 (by omega) (by omega)]; exact e10) u v hu hv
theorem InvAt.frs (h : InvAt σ τ n b d A kn now day D) (h0 : σ 0 16 = 0) {s : Hp} (hf : frsF 112 σ s) (hB : BdOk s 112 d (owd d A day now)) : InvAt s τ n b d A kn now day D ∧ s 0 16 = 0 := by
  obtain ⟨hP, hT, _⟩ := h.pln h0
  have pp := h.2.1.2.2.2.2.2.2
  refine ⟨h.setP h0 (fun q hq => hf.1 q (by omega)) (fun q hq => hf.1 q (by omega)) (hf.2 6 (by omega)) (hf.2 7 (by omega)) ?_ hB (by rw [hf.1 169 (by omega)]; exact pp.2.2.2), by rw [hf.1 0 (by omega)]; exact h0⟩
  unfold TwOk at hT ⊢
  rw [hf.2 9 (by omega), hf.2 8 (by omega)]
  exact hT
theorem InvAt.EC (h : InvAt σ τ n b d A kn now day D) (h0 : σ 0 16 = 0) : EndsC σ 112 n d (owd d A day now) := ⟨h.2.1.1, (h.pln h0).1, (h.pln h0).2.2⟩
/-- the check's lays and ends -/
theorem InvAt.ends (h : InvAt σ τ n b d A kn now day D) {c w : Int} (hw : -1 ≤ w ∧ w ≤ 100000) {ow : Nat → Int} (e : owc (owd d A day now) c w = ow) {v : Int} (hc : cert (dW d) (gpd d ow) v) (hv : v ≤ 1439976) {k : Int → Hp → Option (Int × Hp)} {Q : Int → Hp → Prop}
    (hk : ∀ z t, InvAt σ t n b d A kn now day D → (∀ q, 39 ≤ q → t q = τ q) → (hasE d ow → z = 1 ∧ ∀ f u, f < 24 → u < 24 → t 38 (24 * f + u) = D2 d ow f u) → (¬ hasE d ow → z = 0) → wp (k z t) Q) : wp (cl2 (F_M_lays c w τ) fun _ s => cl2 (F_M_ends s) k) Q := by
  have hl := h.lays (c := c) (w := w) hw
  obtain ⟨⟨g1, g2, g3, g4, g5⟩, cc, ⟨m1, m2, m3, m4, m5, m6⟩, _⟩ := id h
  have ho := owc_ok h.oo (c := c) hw
  rw [e] at hl ho
  refine wp_cl hl (fun _ t ht => ?_)
  obtain ⟨⟨hv2, _⟩, hf⟩ := ht
  have hm : NetM t b d := m1.congr (by rw [hf 0 (by omega)]) (fun q a b => hf q (by omega))
  refine wp_cl (M_hasE g1 hm ho hv2 hc hv) (fun z u hu => hk z u ?_ (fun q hq => ?_) hu.2.1 hu.2.2)
  · refine h.setM (fun q hq => ?_) (fun i hi => ?_)
    · unfold keepM at hq
      rw [hu.1.1 q (by omega) (by omega) (by omega) (by omega) (by omega) (by omega), hf q (by omega)]
    · unfold keepM0 at hi
      rw [hu.1.2 i (by omega), hf 0 (by omega)]
  · rw [hu.1.1 q (by omega) (by omega) (by omega) (by omega) (by omega) (by omega), hf q (by omega)]
theorem S_end_ (σ τ : Hp) (a1 a2 : Int) (h : Inv σ τ) : ∃ (z : Int) (σ' τ' : Hp), F_RD_end_ a1 a2 σ = some (z, σ') ∧ F_M_end_ a1 a2 τ = some (z, τ') ∧ Inv σ' τ' := by
  obtain ⟨n, b, d, A, kn, now, day, D, hI⟩ := id h
  obtain ⟨z, s, e, hz, hIs, h0⟩ := C_planNow hI
  obtain ⟨⟨g1, g2, g3, g4, g5⟩, ⟨c1, c2, c3, c4, c5, c6, c7⟩, ⟨m1, m2, m3, m4, m5, m6⟩, _⟩ := id hIs
  have ho := hIs.oo
  unfold F_RD_end_ F_RD_end__29 F_RD_end__30 F_M_end_ F_M_end__42
  rw [e, cl2_some, gd_pos hz, C_isSomebody g1 c1 c5.1, cl2_some, M_isWho g1 m1, cl2_some]
  by_cases c : 0 ≤ a1 ∧ a1 < dW d
  · rw [if_pos c, if_neg (c := (1 : Int) = 0) (by decide), if_neg (c := (1 : Int) = 0) (by decide)]
    obtain ⟨w, rfl⟩ : ∃ k : Nat, a1 = k := ⟨a1.toNat, by omega⟩
    have hw : w < dW d := by omega
    obtain ⟨z2, s2, e2, ⟨v, hc, hv⟩, hz1, hz0, hI2, h02, _⟩ := hIs.hsE h0
    obtain ⟨_, hEE⟩ := dg_iff g1 ho hc hv
    rw [e2, cl2_some]
    by_cases hE : hasE d (owd d A day now)
    · obtain ⟨F2, F1⟩ := hEE hE
      obtain ⟨X, hX, hb⟩ := hasE_bnd g1 hc hv hE
      obtain ⟨z3, s3, e3, hz3, hEC, hf3⟩ := C_endOf g1 ho (by decide) (hI2.EC h02) hX hb (by omega) hw a2
      obtain ⟨hI3, h03⟩ := hI2.frs h02 hf3 hEC.2.2
      have M := hI3.ends (c := -1) (w := 0) (by omega) owc_none hc hv (k := fun v8 s9 => if v8 = 0 then some ((-1), s9) else if a2 = 0 then cl2 (F_M_leastOf w s9) fun v13 s14 => some (v13, s14) else cl2 (F_M_greatestOf w s9) fun v16 s17 => some (v16, s17)) (Q := fun z t => z = endV d (owd d A day now) w a2 ∧ InvAt s3 t n b d A kn now day D) (fun z t hIt _ h1 _ => by
        obtain ⟨hz, hD⟩ := h1 hE
        rw [hz, if_neg (by decide)]
        by_cases ca : a2 = 0
        · rw [if_pos ca, M_least g1 ho F1 F2 hD hw, cl2_some, ca]
          exact wp_ret ⟨rfl, hIt⟩
        · rw [if_neg ca, M_greatest g1 ho F1 F2 hD hw, cl2_some, endV_g w ca]
          exact wp_ret ⟨rfl, hIt⟩)
      obtain ⟨z4, t, e4, hz4, hI4⟩ := M
      rw [hz1 hE, if_neg (c := (1 : Int) = 0) (by decide), e3, cl2_some]
      refine ⟨_, _, _, rfl, ?_, n, b, d, A, kn, now, day, D, hI4⟩
      rw [hz3, ← hz4]
      exact e4
    · have M := hI2.ends (c := -1) (w := 0) (by omega) owc_none hc hv (k := fun v8 s9 => if v8 = 0 then some ((-1), s9) else if a2 = 0 then cl2 (F_M_leastOf w s9) fun v13 s14 => some (v13, s14) else cl2 (F_M_greatestOf w s9) fun v16 s17 => some (v16, s17)) (Q := fun z t => z = -1 ∧ InvAt s2 t n b d A kn now day D) (fun z t hIt _ _ h1 => by
        rw [h1 hE, if_pos rfl]
        exact wp_ret ⟨rfl, hIt⟩)
      obtain ⟨z4, t, e4, hz4, hI4⟩ := M
      rw [hz0 hE, if_pos rfl]
      refine ⟨_, _, _, rfl, ?_, n, b, d, A, kn, now, day, D, hI4⟩
      subst hz4
      exact e4
  · rw [if_neg c]
    exact ⟨_, _, _, if_pos rfl, if_pos rfl, n, b, d, A, kn, now, day, D, hIs⟩
theorem ix_apart {f t : Nat} (hf : f < 24) (ht : t < 24) : iadd (imul 24 (f : Int)) (t : Int) = ((24 * f + t : Nat) : Int) := by
  rw [imul_ok (by omega), iadd_ok (by omega)]
  omega
theorem bar_ix {t : Nat} (ht : t < 24) : isub (iadd (imul (idiv (t : Int) 2) 2) 1) (irem (t : Int) 2) = ((bar t : Nat) : Int) := by
  have e1 : idiv (t : Int) 2 = ((t / 2 : Nat) : Int) := by
    unfold idiv
    rw [Int.tdiv_eq_ediv_of_nonneg (by omega), w32_id (by omega)]
    omega
  have e2 : irem (t : Int) 2 = ((t % 2 : Nat) : Int) := by
    unfold irem
    rw [Int.tmod_eq_emod_of_nonneg (by omega)]
    omega
  rw [e1, e2, imul_ok (by omega), iadd_ok (by omega), isub_ok (by omega)]
  unfold bar
  split <;> omega
theorem bar_ix2 {f : Nat} (hf : f < 24) : isub (iadd (iadd (imul 24 (f : Int)) (imul (idiv (f : Int) 2) 2)) 1) (irem (f : Int) 2) = ((24 * f + bar f : Nat) : Int) := by
  have e1 : idiv (f : Int) 2 = ((f / 2 : Nat) : Int) := by
    unfold idiv
    rw [Int.tdiv_eq_ediv_of_nonneg (by omega), w32_id (by omega)]
    omega
  have e2 : irem (f : Int) 2 = ((f % 2 : Nat) : Int) := by
    unfold irem
    rw [Int.tmod_eq_emod_of_nonneg (by omega)]
    omega
  rw [e1, e2, imul_ok (a := 24) (by omega), imul_ok (by omega), iadd_ok (a := 24 * (f : Int)) (by omega), iadd_ok (by omega), isub_ok (by omega)]
  unfold bar
  split <;> omega
theorem M_apart_run {s : Hp} {f t : Nat} (hf : f < 24) (ht : t < 24) (hbf : bar f < 24) (hbt : bar t < 24) {x y z : Int} (hx : s 38 (24 * f + t) = x) (hy : s 38 (24 * bar t + t) = y) (hz : s 38 (24 * f + bar f) = z) (hy2 : y < I2) (hz2 : z < I2)
    (hsum : ladd y z = y + z) (hdb : x < I2 → lmul 2 x = 2 * x) : F_M_apart f t s = some (min (if x < I2 then 2 * x else I2) (y + z), s) := by
  have g1 : (0 : Int) ≤ ((24 * f + t : Nat) : Int) ∧ ((24 * f + t : Nat) : Int) < 576 := by omega
  have g2 : (0 : Int) ≤ ((24 * bar t + t : Nat) : Int) ∧ ((24 * bar t + t : Nat) : Int) < 576 := by omega
  have g3 : (0 : Int) ≤ ((24 * f + bar f : Nat) : Int) ∧ ((24 * f + bar f : Nat) : Int) < 576 := by omega
  have key : ∀ u : Int, F_M_apart_39 f t u s = some (min u (y + z), s) := fun u => by
    have ny : ¬ (0 ≤ lcmp y 1000000000000) := fun q => absurd (lcmp_ge.mp q) (Int.not_le.mpr hy2)
    have nz : ¬ (0 ≤ lcmp z 1000000000000) := fun q => absurd (lcmp_ge.mp q) (Int.not_le.mpr hz2)
    unfold F_M_apart_39 F_M_apart_115 F_M_apart_130
    rw [bar_ix ht, bar_ix2 hf, ix_apart hbt ht, gd_pos g2, lt_eq, gd_pos g3, lt_eq, Int.toNat_natCast, Int.toNat_natCast, hy, hz, if_neg ny, if_neg nz, hsum]
    by_cases c : u ≤ y + z
    · rw [if_pos (lcmp_ge.mpr c), Int.min_eq_left c]
    · rw [if_neg (fun q => c (lcmp_ge.mp q)), Int.min_eq_right (by omega)]
  unfold F_M_apart
  rw [ix_apart hf ht, gd_pos g1, gd_pos g1, Int.toNat_natCast, hx]
  by_cases c : x < I2
  · rw [if_neg (c := 0 ≤ lcmp x 1000000000000) (fun q => absurd (lcmp_ge.mp q) (Int.not_le.mpr c)), if_pos c, hdb c]
    exact key _
  · rw [if_pos (c := 0 ≤ lcmp x 1000000000000) (lcmp_ge.mpr (Int.not_lt.mp c)), if_neg c]
    exact key _
theorem M_apart {s : Hp} {ow : Nat → Int} (hd : NDok d) (ho : owOk d ow) (hF : D1ok d ow) (F2 : FWok I2 119998 24 (D2 d ow) 24) (hs : ∀ f t, f < 24 → t < 24 → s 38 (24 * f + t) = D2 d ow f t) {f t : Nat} (hf : f < 2 * dW d) (ht : t < 2 * dW d) :
    F_M_apart f t s = some (S1 d ow t f + 2 * sh d t - 2 * sh d f, s) := by
  have hW := hd.1
  have ea := apart_eq hd ho hF.1 F2 hf ht
  have u1 := unary hd ho hF.1 F2 ht
  have u2 := unary hd ho hF.1 F2 (bar_lt hf)
  rw [bar_bar] at u2
  have bt := bar_lt ht
  have bf := bar_lt hf
  have w1 : ∀ u, u < 2 * dW d → -10000000 ≤ D1 d ow u (bar u) ∧ D1 d ow u (bar u) ≤ 2999950 := fun u hu => by
    rcases Nat.mod_two_eq_zero_or_one u with q | q
    · obtain ⟨w, rfl⟩ : ∃ w, u = 2 * w := ⟨u / 2, by omega⟩
      rw [bar_e]
      exact (D1u hd ho hF (w := w) (by omega)).1
    · obtain ⟨w, rfl⟩ : ∃ w, u = 2 * w + 1 := ⟨u / 2, by omega⟩
      rw [bar_o]
      exact (D1u hd ho hF (w := w) (by omega)).2
  have l1 := w1 t ht
  have l2 := w1 (bar f) bf
  rw [bar_bar] at l2
  have r := S1_rng hd ho hF ht hf
  have shr : ∀ x, x < 2 * dW d → -9999 ≤ sh d x ∧ sh d x ≤ 9999 := fun x hx => by
    have := hd.2.2.2.1 (x / 2) (by omega)
    unfold sh
    split <;> omega
  have s1 := shr t ht
  have s2 := shr (bar f) bf
  have s3 := shr f hf
  have m1 := F2.2.2.2 f t (by omega) (by omega)
  have cb : (cnF I2 (D2 d ow) 24 f t : Int) ≤ 24 := by
    have := cnF_le I2 (D2 d ow) f t 24
    omega
  have lo : D2 d ow f t < I2 → -30000000 ≤ D2 d ow f t := fun h => by
    have := S1_D2 hd ho hF.1 hf ht h
    omega
  rw [M_apart_run (by omega) (by omega) (by omega) (by omega) (hs f t (by omega) (by omega)) (hs _ t (by omega) (by omega)) (hs f _ (by omega) (by omega)) u1.1 u2.1 (ladd_ok (by omega)) (fun h => lmul_ok (by have := m1 h; have := lo h; omega)), ea]
theorem S_two (σ τ : Hp) (a1 a2 a3 a4 : Int) (h3 : a3 = 0 ∨ a3 = 1) (h4 : a4 = 0 ∨ a4 = 1) (h : Inv σ τ) : ∃ (z : Int) (σ' τ' : Hp), F_RD_two a1 a2 a3 a4 σ = some (z, σ') ∧ F_M_two a1 a2 a3 a4 τ = some (z, τ') ∧ Inv σ' τ' := by
  obtain ⟨n, b, d, A, kn, now, day, D, hI⟩ := id h
  obtain ⟨⟨g1, g2, g3, g4, g5⟩, ⟨c1, c2, c3, c4, c5, c6, c7⟩, ⟨m1, m2, m3, m4, m5, m6⟩, _⟩ := id hI
  have hW := g1.1
  unfold F_RD_two F_RD_two_21 F_M_two F_M_two_21
  rw [C_isSomebody g1 c1 c5.1, cl2_some, M_isWho g1 m1, cl2_some]
  by_cases c : 0 ≤ a1 ∧ a1 < dW d
  · rw [if_pos c, if_neg (c := (1 : Int) = 0) (by decide), if_neg (c := (1 : Int) = 0) (by decide), C_isSomebody g1 c1 c5.1, cl2_some, M_isWho g1 m1, cl2_some]
    by_cases c2 : 0 ≤ a2 ∧ a2 < dW d
    · rw [if_pos c2, if_neg (c := (1 : Int) = 0) (by decide), if_neg (c := (1 : Int) = 0) (by decide)]
      by_cases c9 : a1 = a2
      · exact ⟨_, _, _, if_pos c9, if_pos c9, h⟩
      · rw [if_neg c9, if_neg c9]
        obtain ⟨w, rfl⟩ : ∃ k : Nat, a1 = k := ⟨a1.toNat, by omega⟩
        obtain ⟨v, rfl⟩ : ∃ k : Nat, a2 = k := ⟨a2.toNat, by omega⟩
        have hw : w < dW d := by omega
        have hv : v < dW d := by omega
        have aw := g1.2.2.2.1 w hw
        have av := g1.2.2.2.1 v hv
        obtain ⟨z, s, e, hz, hIs, h0⟩ := C_planNow hI
        have ho := hIs.oo
        obtain ⟨z2, s2, e2, ⟨v0, hc, hv0⟩, hz1, hz0, hI2, h02, _⟩ := hIs.hsE h0
        obtain ⟨_, hEE⟩ := dg_iff g1 ho hc hv0
        rw [e, cl2_some, gd_pos hz, e2, cl2_some]
        have i1 : imul 2 (v : Int) = ((2 * v : Nat) : Int) := by rw [imul_ok (by omega)]; omega
        have i2 : iadd ((2 * v : Nat) : Int) 1 = ((2 * v + 1 : Nat) : Int) := by rw [iadd_ok (by omega)]; omega
        have i3 : imul 2 (w : Int) = ((2 * w : Nat) : Int) := by rw [imul_ok (by omega)]; omega
        rw [i1, i2]
        by_cases hE : hasE d (owd d A day now)
        · obtain ⟨F2, F1⟩ := hEE hE
          obtain ⟨X, hX, hb⟩ := hasE_bnd g1 hc hv0 hE
          have q1 := S1_rng g1 ho F1 (u := 2 * w) (v := 2 * v + 1) (by omega) (by omega)
          have q2 := S1_rng g1 ho F1 (u := 2 * w + 1) (v := 2 * v) (by omega) (by omega)
          have q3 := S1_rng g1 ho F1 (u := 2 * w) (v := 2 * v) (by omega) (by omega)
          have q4 := S1_rng g1 ho F1 (u := 2 * v) (v := 2 * w) (by omega) (by omega)
          have sy := S1_sym g1 ho F1 (u := 2 * v + 1) (v := 2 * w) (by omega) (by omega)
          rw [bar_e, bar_o] at sy
          have sh1 : sh d (2 * v + 1) = -al d v := by
            unfold sh
            rw [if_neg (by omega), show (2 * v + 1) / 2 = v by omega]
          have sh2 : sh d (2 * v) = al d v := by
            unfold sh
            rw [if_pos (by omega), show (2 * v) / 2 = v by omega]
          have sh3 : sh d (2 * w) = al d w := by
            unfold sh
            rw [if_pos (by omega), show (2 * w) / 2 = w by omega]
          have hB3 : a3 = 0 ∨ a3 = 1 := h3
          have hB4 : a4 = 0 ∨ a4 = 1 := h4
          have M := fun (s3 : Hp) (hI3 : InvAt s3 τ n b d A kn now day D) => hI3.ends (c := -1) (w := 0) (by omega) owc_none hc hv0 (k := fun v20 s21 => if v20 = 0 then some ((-2000000000), s21) else if a3 = 0 then F_M_two_57 w v a3 a4 ((2 * v + 1 : Nat) : Int) s21 else F_M_two_57 w v a3 a4 ((2 * v : Nat) : Int) s21) (Q := fun z t => z = twoV d (owd d A day now) w v a3 a4 ∧ InvAt s3 t n b d A kn now day D) (fun z t hIt _ h1 _ => by
            obtain ⟨hz, hD⟩ := h1 hE
            have ap : ∀ f u, f < 2 * dW d → u < 2 * dW d → F_M_apart f u t = _ := fun f u hf hu => M_apart g1 ho F1 F2 hD hf hu
            rw [hz, if_neg (by decide)]
            unfold F_M_two_57 F_M_two_86 twoV
            rw [i3]
            rcases hB3 with ca | ca <;> rcases hB4 with cb | cb <;> subst ca <;> subst cb
            · simp only [if_true]
              rw [ap _ _ (by omega) (by omega), cl2_some, sh1, sh3, lneg_ok (by omega), w32_id (by omega)]
              exact wp_ret ⟨by omega, hIt⟩
            · simp only [if_true]
              rw [if_neg (c := (1 : Int) = 0) (by decide), if_neg (c := (1 : Int) = 0) (by decide), ap _ _ (by omega) (by omega), cl2_some, sh1, sh3, w32_id (by omega)]
              exact wp_ret ⟨by omega, hIt⟩
            · rw [if_neg (c := (1 : Int) = 0) (by decide), if_neg (c := (1 : Int) = 0) (by decide)]
              simp only [if_true]
              rw [ap _ _ (by omega) (by omega), cl2_some, sh2, sh3, lneg_ok (by omega), w32_id (by omega)]
              exact wp_ret ⟨by omega, hIt⟩
            · simp only [if_neg (show ¬ (1 : Int) = 0 by decide)]
              rw [ap _ _ (by omega) (by omega), cl2_some, sh2, sh3, w32_id (by omega)]
              exact wp_ret ⟨by omega, hIt⟩)
          rw [hz1 hE, if_neg (c := (1 : Int) = 0) (by decide)]
          rcases hB3 with ca | ca
          · obtain ⟨z3, s3, e3, hz3, hEC, hf3⟩ := C_both g1 ho (by decide) (hI2.EC h02) hX hb (by omega) hw hv a4
            obtain ⟨hI3, h03⟩ := hI2.frs h02 hf3 hEC.2.2
            obtain ⟨z4, t, e4, hz4, hI4⟩ := M s3 hI3
            refine ⟨z3, s3, t, ?_, ?_, n, b, d, A, kn, now, day, D, hI4⟩
            · rw [if_pos ca, e3]; rfl
            · rw [hz3]
              rw [hz4, ca] at e4
              rw [ca]
              exact e4
          · obtain ⟨z3, s3, e3, hz3, hEC, hf3⟩ := C_ahead g1 ho (by decide) (hI2.EC h02) hX hb (by omega) hw hv a4
            obtain ⟨hI3, h03⟩ := hI2.frs h02 hf3 hEC.2.2
            obtain ⟨z4, t, e4, hz4, hI4⟩ := M s3 hI3
            refine ⟨z3, s3, t, ?_, ?_, n, b, d, A, kn, now, day, D, hI4⟩
            · rw [if_neg (by omega), e3]; rfl
            · rw [hz3]
              rw [hz4, ca] at e4
              rw [ca]
              exact e4
        · have M := hI2.ends (c := -1) (w := 0) (by omega) owc_none hc hv0 (k := fun v20 s21 => if v20 = 0 then some ((-2000000000), s21) else if a3 = 0 then F_M_two_57 w v a3 a4 ((2 * v + 1 : Nat) : Int) s21 else F_M_two_57 w v a3 a4 ((2 * v : Nat) : Int) s21) (Q := fun z t => z = -2000000000 ∧ InvAt s2 t n b d A kn now day D) (fun z t hIt _ _ h1 => by
            rw [h1 hE, if_pos rfl]
            exact wp_ret ⟨rfl, hIt⟩)
          obtain ⟨z4, t, e4, hz4, hI4⟩ := M
          rw [hz0 hE, if_pos rfl]
          refine ⟨_, _, _, rfl, ?_, n, b, d, A, kn, now, day, D, hI4⟩
          subst hz4
          exact e4
    · rw [if_neg c2]
      exact ⟨_, _, _, if_pos rfl, if_pos rfl, h⟩
  · rw [if_neg c]
    exact ⟨_, _, _, if_pos rfl, if_pos rfl, h⟩
end SEnds
