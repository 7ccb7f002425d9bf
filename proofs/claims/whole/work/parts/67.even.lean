/-! even, uneven; away -/
section Even
variable {s t : Hp} {n b : Nat} {d : ND} {ow : Nat → Int} {D : DL}
def evV (d : ND) (ow : Nat → Int) (D : DL) (r : Nat) : Int := elV d ow D (fs d r) + flr (mkd d ow r - elV d ow D (fs d r) - elV d ow D (sn d r)) 2
theorem evV_rng (hd : NDok d) (ho : owOk d ow) (hD : DLok d D) {r : Nat} (hr : r < dR d) : -2000000 ≤ evV d ow D r ∧ evV d ow D r ≤ 2000000 := by
  have hp := hd.2.2.1 r hr
  have e1 := elV_rng hd ho hD hp.1
  have e2 := elV_rng hd ho hD hp.2.1
  have hm := mkd_rng hd ho hr
  unfold evV
  rw [flr_2]
  omega
theorem C_evenFirst (hd : NDok d) (ho : owOk d ow) (hD : DLok d D) (hN : NetC s n d) (hV : ViewC s n d ow) (hS : SetC s n d ow D) {r : Nat} (hr : r < dR d) (hop : ow r ≠ -1) : F_Deals_evenFirst r s = some (evV d ow D r, s) := by
  have hR := hd.2.1
  have hp := hd.2.2.1 r hr
  have e1 := elV_rng hd ho hD hp.1
  have e2 := elV_rng hd ho hD hp.2.1
  have hm := mkd_rng hd ho hr
  have g30 : (0 : Int) ≤ (r : Int) ∧ (r : Int) < 30 := by omega
  have n6 := hN.2.2.2.2.2.2.1 r hr
  have ev := flr_2 (mkd d ow r - elV d ow D (fs d r) - elV d ow D (sn d r))
  unfold F_Deals_evenFirst
  rw [hS.1, lt_eq, Int.toNat_natCast, gd_pos hN.1, gd_pos g30, Int.toNat_natCast, n6.1, C_elseOf hd ho hD hN hV hS hp.1, cl2_some, gd_pos g30, hS.1, lt_eq, Int.toNat_natCast, gd_pos hN.1, gd_pos g30, n6.2.1, C_elseOf hd ho hD hN hV hS hp.2.1, cl2_some, (hV.2 r hr).2, if_neg hop, lt_eq, isub_ok (a := mkd d ow r) (by omega), isub_ok (by omega), C_floorDiv _ _ (by omega) (by decide) (by decide), cl2_some, iadd_ok (by omega)]
  rfl
theorem M_evenOf (hd : NDok d) (ho : owOk d ow) (hD : DLok d D) (hN : NetM t b d) (hV : ViewM1 t d ow) (hS : ShM t d ow D) {r : Nat} (hr : r < dR d) : F_M_evenOf r t = some (evV d ow D r, t) := by
  have hR := hd.2.1
  have hp := hd.2.2.1 r hr
  have e1 := elV_rng hd ho hD hp.1
  have e2 := elV_rng hd ho hD hp.2.1
  have hm := mkd_rng hd ho hr
  have g30 : (0 : Int) ≤ (r : Int) ∧ (r : Int) < 30 := by omega
  have ev := flr_2 (mkd d ow r - elV d ow D (fs d r) - elV d ow D (sn d r))
  unfold F_M_evenOf
  rw [M_first hd hN hr, cl2_some, M_elseOf hd ho hD hN hV hS hp.1, cl2_some, M_second hd hN hr, cl2_some, M_elseOf hd ho hD hN hV hS hp.2.1, cl2_some, gd_pos g30, Int.toNat_natCast, (hV r hr).2, lsub_ok (a := mkd d ow r) (by omega), lsub_ok (by omega), M_over _ (by omega), cl2_some, ladd_ok (by omega)]
  rfl
theorem M_isDeal (hV : ViewM1 t d ow) (hT : ∀ r, r < 30 → t 42 r = (if D.1 r = true then 1 else 0)) (hd : NDok d) {r : Nat} (hr : r < dR d) : F_M_isDeal r t = some (if isDl ow D r then 1 else 0, t) := by
  have hR := hd.2.1
  have g30 : (0 : Int) ≤ (r : Int) ∧ (r : Int) < 30 := by omega
  unfold F_M_isDeal F_M_isDeal_22 F_M_isDeal_23
  rw [gd_pos g30, Int.toNat_natCast, hT r (by omega), gd_pos g30, (hV r hr).1]
  by_cases c : D.1 r = true
  · rw [if_pos c, if_neg (by decide)]
    by_cases c2 : ow r = -1
    · rw [if_pos c2, if_pos rfl, if_neg (fun z => z.2 c2)]
      rfl
    · rw [if_neg c2, if_neg (by decide), if_pos ⟨c, c2⟩]
      rfl
  · rw [if_neg c, if_pos rfl, if_neg (fun z => c z.1)]
    rfl
/-! the list of deals and the roads -/
theorem tl_pre {r : Nat} : ∀ {N : Nat}, r ≤ N → ∃ l, tlD ow D N = tlD ow D r ++ l
  | 0, h => ⟨[], by rw [show r = 0 by omega]; rfl⟩
  | N + 1, h => by
    by_cases e : r = N + 1
    · exact ⟨[], by rw [e, List.append_nil]⟩
    · obtain ⟨l, hl⟩ := tl_pre (N := N) (show r ≤ N by omega)
      rw [tlD_s]
      by_cases c : isDl ow D N
      · exact ⟨l ++ [N], by rw [if_pos c, hl, List.append_assoc]⟩
      · exact ⟨l, by rw [if_neg c]; exact hl⟩
theorem tl_le {r N : Nat} (h : r ≤ N) : (tlD ow D r).length ≤ (tlD ow D N).length := by
  obtain ⟨l, hl⟩ := tl_pre (ow := ow) (D := D) h
  rw [hl, List.length_append]
  omega
theorem tl_lt {r N : Nat} (h : r < N) (hd : isDl ow D r) : (tlD ow D r).length < (tlD ow D N).length := by
  have := tl_le (ow := ow) (D := D) (show r + 1 ≤ N by omega)
  rw [tlD_s, if_pos hd, List.length_append] at this
  have e : [r].length = 1 := rfl
  omega
theorem tl_idx {r N : Nat} (h : r < N) (hd : isDl ow D r) : (tlD ow D N)[(tlD ow D r).length]?.getD 0 = r := by
  obtain ⟨l, hl⟩ := tl_pre (ow := ow) (D := D) (show r + 1 ≤ N by omega)
  rw [hl, tlD_s, if_pos hd, List.append_assoc, List.getElem?_append_right (Nat.le_refl _), Nat.sub_self]
  rfl
theorem tl_next {N : Nat} : ∀ (k r : Nat), r + k = N → (tlD ow D r).length < (tlD ow D N).length → ∃ q, r ≤ q ∧ q < N ∧ isDl ow D q ∧ (∀ p, r ≤ p → p < q → ¬ isDl ow D p) ∧ tlD ow D q = tlD ow D r
  | 0, r, e, h => by
    have : r = N := by omega
    subst this
    omega
  | k + 1, r, e, h => by
    by_cases c : isDl ow D r
    · exact ⟨r, Nat.le_refl _, by omega, c, fun p h1 h2 => by omega, rfl⟩
    · have es : tlD ow D (r + 1) = tlD ow D r := by rw [tlD_s, if_neg c]
      obtain ⟨q, h1, h2, h3, h4, h5⟩ := tl_next (N := N) k (r + 1) (by omega) (by rw [es]; exact h)
      refine ⟨q, by omega, h2, h3, fun p p1 p2 => ?_, by rw [h5, es]⟩
      by_cases x : p = r
      · subst x; exact c
      · exact h4 p (by omega) p2
theorem tl_none {r N : Nat} (h : (tlD ow D N).length ≤ (tlD ow D r).length) : ∀ p, r ≤ p → p < N → ¬ isDl ow D p := by
  intro p h1 h2 hp
  have a := tl_lt (ow := ow) (D := D) h2 hp
  have c := tl_le (ow := ow) (D := D) h1
  omega
def unP (d : ND) (ow : Nat → Int) (D : DL) (r : Nat) : Prop := isDl ow D r ∧ D.2 r ≠ evV d ow D r
theorem C_firstUneven (hd : NDok d) (ho : owOk d ow) (hD : DLok d D) (hN : NetC s n d) (hV : ViewC s n d ow) (hS : SetC s n d ow D) (hT : ∀ r, D.1 r = true → s 175 r = D.2 r) : wp (F_Deals_firstUneven s) (fun z s' => IsFst (unP d ow D) (dR d) z ∧ s' = s) := by
  have hR := hd.2.1
  have h6 := tlD_len (ow := ow) hd hD (dR d) (Nat.le_refl _)
  unfold F_Deals_firstUneven F_Deals_firstUneven_2
  refine wp_loop (fun a : Int × Hp => ∃ r : Nat, r ≤ dR d ∧ a.1 = ((tlD ow D r).length : Nat) ∧ a.2 = s ∧ ∀ q, q < r → ¬ unP d ow D q) (fun a => (30 - a.1).toNat) ?_ FU _ ?_ ?_
  · intro a K hp ih
    obtain ⟨x, u⟩ := a
    obtain ⟨r, hr, e1, e2, hq⟩ := hp
    dsimp only at e1 e2 ih ⊢
    subst e1 e2
    unfold F_Deals_firstUneven_2_b
    rw [hS.2.2.1]
    refine wp_if (fun c => ?_) (fun c => ?_)
    · refine wp_ret ⟨Or.inl ⟨rfl, fun q hq2 => ?_⟩, rfl⟩
      by_cases e : q < r
      · exact hq q e
      · exact fun z => tl_none (r := r) (N := dR d) (by omega) q (by omega) hq2 z.1
    · obtain ⟨q, q1, q2, q3, q4, q5⟩ := tl_next (ow := ow) (D := D) (N := dR d) (dR d - r) r (by omega) (by omega)
      have hl := tl_lt (ow := ow) (D := D) q2 q3
      have hi := tl_idx (ow := ow) (D := D) q2 q3
      rw [q5] at hl hi
      have e178 := hS.2.2.2 _ hl
      rw [hi] at e178
      have g6 : (0 : Int) ≤ (((tlD ow D r).length : Nat) : Int) ∧ (((tlD ow D r).length : Nat) : Int) < 6 := by omega
      rw [gd_pos g6, Int.toNat_natCast, e178, gd_pos (by omega), gd_pos g6, C_evenFirst hd ho hD hN hV hS q2 q3.2, cl2_some, Int.toNat_natCast, hT q q3.1]
      refine wp_if (fun c2 => ?_) (fun c2 => ?_)
      · rw [lt_eq, iadd_ok (by omega)]
        refine ih _ ⟨q + 1, by omega, ?_, rfl, fun p hp => ?_⟩ (by dsimp only; omega)
        · dsimp only
          rw [tlD_s, if_pos q3, List.length_append, q5]
          show _ = (((tlD ow D r).length + 1 : Nat) : Int)
          omega
        · by_cases e : p < r
          · exact hq p e
          · by_cases e2 : p = q
            · subst e2
              exact fun z => z.2 c2
            · exact fun z => q4 p (by omega) (by omega) z.1
      · rw [gd_pos g6, e178]
        refine wp_ret ⟨Or.inr ⟨q, q2, rfl, ⟨q3, c2⟩, fun p hp => ?_⟩, rfl⟩
        by_cases e : p < r
        · exact hq p e
        · exact fun z => q4 p (by omega) hp z.1
  · exact ⟨0, by omega, rfl, rfl, fun q h => absurd h (by omega)⟩
  · rw [FU_eq]
    show (30 - (0 : Int)).toNat < 20000
    omega
theorem M_unevenF (hd : NDok d) (ho : owOk d ow) (hD : DLok d D) (hN : NetM t b d) (hV : ViewM1 t d ow) (hS : ShM t d ow D) (hT : ∀ r, r < 30 → t 42 r = (if D.1 r = true then 1 else 0) ∧ (D.1 r = true → t 43 r = D.2 r)) : wp (F_M_uneven_6 FU (0, t)) (fun z s' => IsFst (unP d ow D) (dR d) z ∧ s' = t) := by
  have hR := hd.2.1
  have hb := hN.1
  unfold F_M_uneven_6
  refine wp_loop (fun a : Int × Hp => ∃ k : Nat, k ≤ dR d ∧ a.1 = (k : Int) ∧ a.2 = t ∧ ∀ q, q < k → ¬ unP d ow D q) (fun a => (30 - a.1).toNat) ?_ FU _ ?_ ?_
  · intro a K hp ih
    obtain ⟨x, u⟩ := a
    obtain ⟨r, hr, e1, e2, hq⟩ := hp
    dsimp only at e1 e2 ih ⊢
    subst e1 e2
    unfold F_M_uneven_6_b F_M_uneven_45
    rw [hN.2.1, gd_pos (by omega), Int.toNat_natCast, hN.2.2.2.1]
    refine wp_if (fun c => ?_) (fun c => ?_)
    · have ek : r = dR d := by omega
      subst ek
      exact wp_ret ⟨Or.inl ⟨rfl, hq⟩, rfl⟩
    · have hrR : r < dR d := by omega
      have g30 : (0 : Int) ≤ (r : Int) ∧ (r : Int) < 30 := by omega
      have skip : ¬ unP d ow D r → wp (lt (iadd (r : Int) 1) fun y1_1 => K (y1_1, u)) (fun z s' => IsFst (unP d ow D) (dR d) z ∧ s' = u) := by
        intro no
        rw [lt_eq, iadd_ok (by omega)]
        refine ih _ ⟨r + 1, by omega, by simp, rfl, fun q hq2 => ?_⟩ (by dsimp only; omega)
        by_cases e : q = r
        · subst e
          exact no
        · exact hq q (by omega)
      rw [M_isDeal hV (fun r hr => (hT r hr).1) hd hrR, cl2_some]
      by_cases cd : isDl ow D r
      · rw [if_pos cd, if_neg (by decide), gd_pos g30, M_evenOf hd ho hD hN hV hS hrR, cl2_some, Int.toNat_natCast, (hT r (by omega)).2 cd.1]
        refine wp_if (fun c2 => ?_) (fun c2 => ?_)
        · exact skip (fun z => z.2 (lcmp_eq.mp c2))
        · exact wp_ret ⟨Or.inr ⟨r, hrR, rfl, ⟨cd, fun z => c2 (lcmp_eq.mpr z)⟩, hq⟩, rfl⟩
      · rw [if_neg cd, if_pos rfl]
        exact skip (fun z => cd z.1)
  · exact ⟨0, by omega, rfl, rfl, fun q h => absurd h (by omega)⟩
  · rw [FU_eq]
    show (30 - (0 : Int)).toNat < 20000
    omega
theorem S_uneven (σ τ : Hp) (h : Inv σ τ) : ∃ (z : Int) (σ' τ' : Hp), F_RD_uneven σ = some (z, σ') ∧ F_M_uneven τ = some (z, τ') ∧ Inv σ' τ' := by
  obtain ⟨n, b, d, A, kn, now, day, D, hI⟩ := id h
  obtain ⟨g1, g2, g3, g4, g5⟩ := hI.1
  have ho := hI.oo
  have hR := g1.2.1
  obtain ⟨z, s, e, hz, hIs, hS⟩ := C_dealsNow hI
  obtain ⟨z2, t, e2, hIt, hV, hSh⟩ := hIs.laysAll
  have d1 := hIt.2.2.2.1.1
  obtain ⟨l1, s1, f1, hl1, es⟩ := C_firstUneven g1 ho g5 hIs.2.1.1 hIs.2.1.2.2.2.2.2.1 hS (fun r hr => ((d1 r (by have := (g5.2 r hr).1; omega)).2.2 hr).1)
  obtain ⟨l2, t1, f2, hl2, et⟩ := M_unevenF g1 ho g5 hIt.2.2.1.1 hV hSh (fun r hr => ⟨(d1 r hr).2.1, fun y => ((d1 r hr).2.2 y).2⟩)
  have el := hl1.uniq hl2
  subst el es et
  unfold F_RD_uneven F_M_uneven
  rw [e, e2, cl2_some, cl2_some, gd_pos hz, f1, f2, cl2_some]
  exact ⟨_, _, _, rfl, rfl, n, b, d, A, kn, now, day, D, hIt⟩
/-! away -/
def lkR (d : ND) (ow : Nat → Int) (D : DL) (m : Nat) : Nat → Int
  | 0 => bR d ow 0 m
  | w + 1 => lkR d ow D m w + if bt m w = true then al d w - shv d ow D w else 0
theorem lkR_s (m w : Nat) : lkR d ow D m (w + 1) = lkR d ow D m w + if bt m w = true then al d w - shv d ow D w else 0 := rfl
theorem lkR_rng (hd : NDok d) (ho : owOk d ow) (hD : DLok d D) {m : Nat} (hm : m < 2 ^ dW d) : ∀ w, w ≤ dW d → -1200000 * (w : Int) ≤ lkR d ow D m w ∧ lkR d ow D m w ≤ 1439976 + 1200000 * (w : Int)
  | 0, _ => by
    have := bR_rng hd ho 0 hm
    show _ ≤ bR d ow 0 m ∧ bR d ow 0 m ≤ _
    omega
  | w + 1, h => by
    have ih := lkR_rng hd ho hD hm w (by omega)
    have a := hd.2.2.2.1 w (by omega)
    have c := shv_rng hd ho hD (w := w) (by omega)
    rw [lkR_s]
    split <;> omega
def awP (d : ND) (ow : Nat → Int) (D : DL) (m : Nat) : Prop := 1 ≤ m ∧ 0 < lkR d ow D m (dW d)
theorem C_leastAway (hd : NDok d) (ho : owOk d ow) (hD : DLok d D) (hN : NetC s n d) (hP : PlanC s 112 n d ow) (hS : SetC s n d ow D) : wp (F_Deals_leastAway s) (fun z s' => (∃ z', IsFst (awP d ow D) (2 ^ dW d) z' ∧ z = max z' 0) ∧ s' = s) := by
  have hW := hd.1
  have h12 := pow_le12 hd.1
  unfold F_Deals_leastAway F_Deals_leastAway_2
  refine wp_loop (fun a : Int × Hp => ∃ m : Nat, m ≤ 2 ^ dW d ∧ 1 ≤ m ∧ a.1 = (m : Int) ∧ a.2 = s ∧ ∀ q, q < m → ¬ awP d ow D q) (fun a => (4096 - a.1).toNat) ?_ FU _ ?_ ?_
  · intro a K hp ih
    obtain ⟨x, u⟩ := a
    obtain ⟨m, hm, h1, e1, e2, hq⟩ := hp
    dsimp only at e1 e2 ih ⊢
    subst e1 e2
    unfold F_Deals_leastAway_2_b
    rw [lt_eq, hS.1, Int.toNat_natCast, gd_pos hN.1, C_everybody hd hN, cl2_some]
    refine wp_if (fun c => ?_) (fun c => ?_)
    · have em : m = 2 ^ dW d := by omega
      refine wp_ret ⟨⟨-1, Or.inl ⟨rfl, ?_⟩, rfl⟩, rfl⟩
      rw [← em]
      exact hq
    · have hm2 : m < 2 ^ dW d := by omega
      rw [C_mostOf (by decide) hd hP hm2, cl2_some]
      unfold F_Deals_leastAway_22
      refine wp_loop (fun a : Int × Int × Int × Hp => ∃ w : Nat, w ≤ dW d ∧ a.1 = (m : Int) ∧ a.2.1 = lkR d ow D m w ∧ a.2.2.1 = (w : Int) ∧ a.2.2.2 = u) (fun a => (12 - a.2.2.1).toNat) ?_ FU _ ?_ ?_
      · intro a K2 hp ih2
        obtain ⟨y, v, x, u2⟩ := a
        obtain ⟨w, hw, e1, e2, e3, e4⟩ := hp
        dsimp only at e1 e2 e3 e4 ih2 ⊢
        subst e1 e2 e3 e4
        unfold F_Deals_leastAway_22_b F_Deals_leastAway_64
        rw [lt_eq, hS.1, Int.toNat_natCast, gd_pos hN.1, hN.2.1]
        refine wp_if (fun c => ?_) (fun c => ?_)
        · have ew : w = dW d := by omega
          subst ew
          refine wp_if (fun c => ?_) (fun c => ?_)
          · rw [lt_eq, iadd_ok (by omega)]
            refine ih _ ⟨m + 1, by omega, by omega, by simp, rfl, fun q hq2 => ?_⟩ (by dsimp only; omega)
            by_cases e : q = m
            · subst e
              exact fun z => by have := z.2; omega
            · exact hq q (by omega)
          · exact wp_ret ⟨⟨m, Or.inr ⟨m, hm2, rfl, ⟨h1, by omega⟩, hq⟩, by omega⟩, rfl⟩
        · have hwW : w < dW d := by omega
          have g12 : (0 : Int) ≤ (w : Int) ∧ (w : Int) < 12 := by omega
          have e177 : u2 177 w = shv d ow D w := (hS.2.1 w hwW).2
          have r1 := lkR_rng hd ho hD hm2 w (by omega)
          have r2 := lkR_rng hd ho hD hm2 (w + 1) (by omega)
          have a := hd.2.2.2.1 w (by omega)
          have c := shv_rng hd ho hD (w := w) (by omega)
          rw [bit_nat hW hm2 (by omega)]
          by_cases cb : bt m w = true
          · rw [if_pos cb, if_neg (by decide), lt_eq, gd_pos hN.1, gd_pos g12, gd_pos g12, Int.toNat_natCast, hN.2.2.2.2.2.1 w hwW, e177, isub_ok (by omega), iadd_ok (a := lkR d ow D m w) (by omega), lt_eq, lt_eq, iadd_ok (by omega)]
            refine ih2 _ ⟨w + 1, by omega, rfl, ?_, by simp, rfl⟩ (by dsimp only; omega)
            dsimp only
            rw [lkR_s, if_pos cb]
          · rw [if_neg cb, if_pos rfl, lt_eq, iadd_ok (by omega)]
            refine ih2 _ ⟨w + 1, by omega, rfl, ?_, by simp, rfl⟩ (by dsimp only; omega)
            dsimp only
            rw [lkR_s, if_neg cb]
            omega
      · exact ⟨0, by omega, rfl, rfl, rfl, rfl⟩
      · rw [FU_eq]
        show (12 - (0 : Int)).toNat < 20000
        omega
  · exact ⟨1, by omega, by omega, rfl, rfl, fun q h z => by have := z.1; omega⟩
  · rw [FU_eq]
    show (4096 - (1 : Int)).toNat < 20000
    omega
theorem M_awayF (hd : NDok d) (ho : owOk d ow) (hD : DLok d D) (hN : NetM t b d) (hM : ∀ m, m < 2 ^ dW d → t 32 m = bR d ow 0 m) (hS : ShM t d ow D) : wp (F_M_away_11 FU (1, t)) (fun z s' => (∃ z', IsFst (awP d ow D) (2 ^ dW d) z' ∧ z = max z' 0) ∧ s' = t) := by
  have hW := hd.1
  have hb := hN.1
  have h12 := pow_le12 hd.1
  unfold F_M_away_11
  refine wp_loop (fun a : Int × Hp => ∃ m : Nat, m ≤ 2 ^ dW d ∧ 1 ≤ m ∧ a.1 = (m : Int) ∧ a.2 = t ∧ ∀ q, q < m → ¬ awP d ow D q) (fun a => (4096 - a.1).toNat) ?_ FU _ ?_ ?_
  · intro a K hp ih
    obtain ⟨x, u⟩ := a
    obtain ⟨m, hm, h1, e1, e2, hq⟩ := hp
    dsimp only at e1 e2 ih ⊢
    subst e1 e2
    unfold F_M_away_11_b
    rw [M_all hd hN, cl2_some]
    refine wp_if (fun c => ?_) (fun c => ?_)
    · have em : m = 2 ^ dW d := by omega
      refine wp_ret ⟨⟨-1, Or.inl ⟨rfl, ?_⟩, rfl⟩, rfl⟩
      rw [← em]
      exact hq
    · have hm2 : m < 2 ^ dW d := by omega
      rw [gd_pos (by omega), lt_eq, Int.toNat_natCast, hM m hm2]
      unfold F_M_away_30
      refine wp_loop (fun a : Int × Int × Int × Hp => ∃ w : Nat, w ≤ dW d ∧ a.1 = (m : Int) ∧ a.2.1 = lkR d ow D m w ∧ a.2.2.1 = (w : Int) ∧ a.2.2.2 = u) (fun a => (12 - a.2.2.1).toNat) ?_ FU _ ?_ ?_
      · intro a K2 hp ih2
        obtain ⟨y, v, x, u2⟩ := a
        obtain ⟨w, hw, e1, e2, e3, e4⟩ := hp
        dsimp only at e1 e2 e3 e4 ih2 ⊢
        subst e1 e2 e3 e4
        unfold F_M_away_30_b F_M_away_74
        rw [hN.2.1, gd_pos (by omega), Int.toNat_natCast, hN.2.2.1]
        refine wp_if (fun c => ?_) (fun c => ?_)
        · have ew : w = dW d := by omega
          subst ew
          refine wp_if (fun c => ?_) (fun c => ?_)
          · have c := lcmp_le.mp c
            rw [lt_eq, iadd_ok (by omega)]
            refine ih _ ⟨m + 1, by omega, by omega, by simp, rfl, fun q hq2 => ?_⟩ (by dsimp only; omega)
            by_cases e : q = m
            · subst e
              exact fun z => by have := z.2; omega
            · exact hq q (by omega)
          · have c : 0 < lkR d ow D m (dW d) := by
              apply Classical.byContradiction
              intro y
              exact c (lcmp_le.mpr (by omega))
            exact wp_ret ⟨⟨m, Or.inr ⟨m, hm2, rfl, ⟨h1, c⟩, hq⟩, by omega⟩, rfl⟩
        · have hwW : w < dW d := by omega
          have g12 : (0 : Int) ≤ (w : Int) ∧ (w : Int) < 12 := by omega
          have e45 : u2 45 w = shv d ow D w := (hS w hwW).2
          have r1 := lkR_rng hd ho hD hm2 w (by omega)
          have r2 := lkR_rng hd ho hD hm2 (w + 1) (by omega)
          have a := hd.2.2.2.1 w (by omega)
          have c := shv_rng hd ho hD (w := w) (by omega)
          rw [bit_nat hW hm2 (by omega)]
          by_cases cb : bt m w = true
          · rw [if_pos cb, if_pos rfl, M_aloneOf hd hN hwW, cl2_some, gd_pos g12, Int.toNat_natCast, e45, lsub_ok (by omega), ladd_ok (by omega), lt_eq, lt_eq, iadd_ok (by omega)]
            refine ih2 _ ⟨w + 1, by omega, rfl, ?_, by simp, rfl⟩ (by dsimp only; omega)
            dsimp only
            rw [lkR_s, if_pos cb]
          · rw [if_neg cb, if_neg (by decide), ladd_ok (by omega), lt_eq, lt_eq, iadd_ok (by omega)]
            refine ih2 _ ⟨w + 1, by omega, rfl, ?_, by simp, rfl⟩ (by dsimp only; omega)
            dsimp only
            rw [lkR_s, if_neg cb]
      · exact ⟨0, by omega, rfl, rfl, rfl, rfl⟩
      · rw [FU_eq]
        show (12 - (0 : Int)).toNat < 20000
        omega
  · exact ⟨1, by omega, by omega, rfl, rfl, fun q h z => by have := z.1; omega⟩
  · rw [FU_eq]
    show (4096 - (1 : Int)).toNat < 20000
    omega
theorem wp_and {o : Option (Int × Hp)} {P Q : Int → Hp → Prop} (h : wp o P) (h' : wp o Q) : wp o (fun z s => P z s ∧ Q z s) := by
  obtain ⟨z, s, e, hp⟩ := h
  obtain ⟨z', s', e', hq⟩ := h'
  rw [e] at e'
  cases e'
  exact ⟨z, s, e, hp, hq⟩
end Even
section Away
variable {σ τ : Hp} {n b : Nat} {d : ND} {A : AD} {kn : Int} {now day : Nat} {D : DL}
theorem C_planFr (h : InvAt σ τ n b d A kn now day D) : wp (F_RD_planNow σ) (fun _ s => ∀ q, 173 ≤ q → s q = σ q) := by
  obtain ⟨⟨g1, g2, g3, g4, g5⟩, ⟨c1, c2, c3, c4, c5, c6, p1, p2, p3, p4⟩, _⟩ := id h
  have ho := owd_ok (d := d) (day := day) g2 g3.le
  unfold F_RD_planNow F_RD_planNow_21
  refine wp_if (fun c => ?_) (fun c => ?_)
  · exact wp_ret (fun _ _ => rfl)
  · refine wp_cl (C_take g1 ho (by decide) c1 c6 (c := -1) (w := -1) (by omega) p3) (fun _ s hs => ?_)
    rw [owc_none] at hs
    obtain ⟨q1, q2, q3, q4, q5, q6⟩ := hs
    rw [lt_eq]
    refine wp_ret (fun q hq => ?_)
    rw [hset_obj _ _ _ _ (by omega), q5 q (by omega) (by omega) (by omega) (by omega)]
theorem S_away (σ τ : Hp) (h : Inv σ τ) : ∃ (z : Int) (σ' τ' : Hp), F_RD_away σ = some (z, σ') ∧ F_M_away τ = some (z, τ') ∧ Inv σ' τ' := by
  obtain ⟨n, b, d, A, kn, now, day, D, hI⟩ := id h
  obtain ⟨g1, g2, g3, g4, g5⟩ := hI.1
  have ho := hI.oo
  obtain ⟨z, s, e, hz, hIs, hS⟩ := C_dealsNow hI
  obtain ⟨z3, s3, e3, ⟨hz3, hI3, h016⟩, hfr⟩ := wp_and (C_planNow hIs) (C_planFr hIs)
  obtain ⟨z2, t, e2, hIt, hV, hSh⟩ := hI3.laysAll
  have hS3 : SetC s3 n d (owd d A day now) D := by
    refine ⟨by rw [hfr 173 (by omega)]; exact hS.1, fun w hw => ?_, by rw [hfr 173 (by omega)]; exact hS.2.2.1, fun k hk => ?_⟩
    · rw [hfr 176 (by omega), hfr 177 (by omega)]; exact hS.2.1 w hw
    · rw [hfr 178 (by omega)]; exact hS.2.2.2 k hk
  obtain ⟨v4, t4, e4, hm4, hf4⟩ := M_mosts (lo := 0) g1 hIt.2.2.1.1 ho hV (by omega)
  have hI4 : InvAt s3 t4 n b d A kn now day D := hIt.frM (fun q hq => hf4 q (by omega))
  have hS4 : ShM t4 d (owd d A day now) D := fun w hw => by
    rw [hf4 44 (by omega), hf4 45 (by omega)]
    exact hSh w hw
  obtain ⟨l1, s1, f1, ⟨y1, hl1, m1⟩, es⟩ := C_leastAway g1 ho g5 hI3.2.1.1 (hI3.pln h016).1 hS3
  obtain ⟨l2, t1, f2, ⟨y2, hl2, m2⟩, et⟩ := M_awayF g1 ho g5 hI4.2.2.1.1 hm4.1 hS4
  have el := hl1.uniq hl2
  subst el es et m1
  unfold F_RD_away F_M_away
  have e4' : F_M_mosts (-1) t = some (v4, t1) := e4
  rw [e, e2, cl2_some, cl2_some, gd_pos hz, e3, e4', cl2_some, cl2_some, gd_pos hz3, f1, f2, cl2_some]
  exact ⟨_, _, _, rfl, by rw [m2], n, b, d, A, kn, now, day, D, hI4⟩
end Away
