/-! the class's plan of a view, one road's worth changed -/
section Plan
variable {d : ND} {ow : Nat → Int} {n this : Nat}
/-- what a plan holds -/
def PlanC (s : Hp) (this n : Nat) (d : ND) (ow : Nat → Int) : Prop := s this 7 = n ∧ (∀ r, r < dR d → s (this + 28) r = gnd d ow r) ∧ (∀ m, m < 2 ^ dW d → s (this + 27) m = bR d ow 0 m) ∧ s this 6 = ((rwS d ow (dR d)).2.length : Nat) ∧ ∀ k, k < (rwS d ow (dR d)).2.length → s (this + 29) k = (((rwS d ow (dR d)).2[k]?.getD 0 : Nat) : Int)
theorem bR_rng (hd : NDok d) (ho : owOk d ow) (lo : Nat) {m : Nat} (hm : m < 2 ^ dW d) : 0 ≤ bR d ow lo m ∧ bR d ow lo m ≤ 1439976 := bF_rng (gab_le hd ho lo) hd.1 hm
theorem C_gainOfTwo {s : Hp} (hd : NDok d) (hp : isPlan this) (hN : NetC s n d) (h7 : s this 7 = n) (hg : ∀ r, r < dR d → s (this + 28) r = gnd d ow r) {a c : Nat} (ha : a < 12) (hc : c < 12) : F_Plan_gainOfTwo this a c s = some (gpd d ow a c, s) := by
  have hR := hd.2.1
  have h9 := rdO_rng (d := d) (a := a) (c := c)
  unfold F_Plan_gainOfTwo F_Plan_gainOfTwo_27
  rw [gd_pos hp, lt_eq, h7, Int.toNat_natCast, gd_pos hN.1, gd_pos (by omega), gd_pos (by omega), lt_eq, Int.toNat_natCast, Int.toNat_natCast, hN.2.2.2.2.2.2.2.1 a c ha hc]
  unfold gpd
  by_cases h : rdO d a c (dR d) = -1
  · rw [if_pos h, if_pos h]
  · rw [if_neg h, if_neg h, gd_pos (by omega), hg _ (by omega)]
theorem View_gainOf {s : Hp} (hd : NDok d) (hN : NetC s n d) (hV : ViewC s n d ow) (ho : owOk d ow) {r : Nat} (hr : r < dR d) (hop : ow r ≠ -1) : F_View_gainOf r s = some (mkd d ow r - al d (fs d r) - al d (sn d r), s) := by
  have hR := hd.2.1
  have hp := hd.2.2.1 r hr
  have a1 := hd.2.2.2.1 _ hp.1
  have a2 := hd.2.2.2.1 _ hp.2.1
  have hm := mkd_rng hd ho hr
  have hW := hd.1
  obtain ⟨hn, e1, e2, e3, e4, e5, e6, e7, e8⟩ := hN
  have g30 : (0 : Int) ≤ (r : Int) ∧ (r : Int) < 30 := by omega
  unfold F_View_gainOf
  simp only [lt_eq, hV.1, Int.toNat_natCast, (e6 r hr).1, (e6 r hr).2.1, (hV.2 r hr).2, e5 _ hp.1, e5 _ hp.2.1, if_neg hop]
  rw [gd_pos g30, gd_pos hn, gd_pos hn, gd_pos g30, gd_pos (by omega), gd_pos hn, gd_pos hn, gd_pos g30, gd_pos (by omega)]
  simp (disch := omega) only [isub_ok]
theorem C_fillRow {s : Hp} (hd : NDok d) (ho : owOk d ow) (hp : isPlan this) (hN : NetC s n d) (h7 : s this 7 = n) (hg : ∀ r, r < dR d → s (this + 28) r = gnd d ow r) (hb : ∀ m, m < 2 ^ dW d → s (this + 27) m = bR d ow 0 m) :
    wp (F_Plan_fillRow this s) (fun _ t => PlanC t this n d ow ∧ (∀ q, q ≠ this → q ≠ this + 29 → t q = s q) ∧ ∀ i, i ≠ 6 → t this i = s this i) := by
  have hn := hN.1
  have hR := hd.2.1
  have hpw := pow_le12 hd.1
  have aw : ∀ t, (∀ q, q ≠ this → q ≠ this + 29 → t q = s q) → NetC t n d := fun t ht => hN.congr (fun i hi => by rw [ht n (by omega) (by omega)]) (fun q a1 a2 => ht q (by omega) (by omega))
  unfold F_Plan_fillRow
  have hN1 : NetC (hset s this 6 0) n d := aw _ (fun q a1 a2 => hset_obj _ _ _ _ a1)
  have h71 : hset s this 6 0 this 7 = n := by rw [hset_get, if_neg (fun z => absurd z.2 (by decide))]; exact h7
  rw [gd_pos hp, lt_eq, lt_eq, h71, Int.toNat_natCast, gd_pos hn, C_everybody hd hN1, cl2_some]
  unfold F_Plan_fillRow_15
  refine wp_loop (fun a : Int × Int × Hp => ∃ r : Nat, r ≤ dR d ∧ a.1 = (((rwS d ow r).1 : Nat) : Int) ∧ a.2.1 = (r : Int) ∧ a.2.2 this 6 = (((rwS d ow r).2.length : Nat) : Int) ∧ (∀ k, k < (rwS d ow r).2.length → a.2.2 (this + 29) k = (((rwS d ow r).2[k]?.getD 0 : Nat) : Int)) ∧ (∀ q, q ≠ this → q ≠ this + 29 → a.2.2 q = s q) ∧ ∀ i, i ≠ 6 → a.2.2 this i = s this i) (fun a => (300 - a.2.1).toNat) ?_ FU _ ?_ ?_
  · intro a k hP ih
    obtain ⟨x, y, t⟩ := a
    obtain ⟨r, hr, e0, e1, e2, e3, hq, hi⟩ := hP
    dsimp only at e0 e1 e2 e3 hq hi ih ⊢
    subst e0 e1
    have hNt := aw t hq
    have h7t : t this 7 = n := by rw [hi 7 (by decide)]; exact h7
    unfold F_Plan_fillRow_15_b
    rw [lt_eq, h7t, Int.toNat_natCast, gd_pos hn, hNt.2.2.1]
    refine wp_if (fun c => ?_) (fun c => ?_)
    · have er : r = dR d := by omega
      subst er
      refine wp_ret ⟨⟨h7t, fun r' h' => by rw [hq _ (by omega) (by omega)]; exact hg r' h', fun m hm => by rw [hq _ (by omega) (by omega)]; exact hb m hm, e2, e3⟩, hq, hi⟩
    · have hrR : r < dR d := by omega
      have ok := rwS_ok (ow := ow) hd r hr
      have ln := rwS_len (ow := ow) hd r hr
      have es : rwS d ow (r + 1) = if (rwS d ow r).1 &&& prM d r = prM d r ∧ 0 < gnd d ow r ∧ bR d ow 0 ((rwS d ow r).1 - prM d r) + gnd d ow r = bR d ow 0 (rwS d ow r).1 then ((rwS d ow r).1 - prM d r, (rwS d ow r).2 ++ [r]) else rwS d ow r := rfl
      generalize hst : rwS d ow r = st at es e2 e3 ok ln ih
      have g30 : (0 : Int) ≤ (r : Int) ∧ (r : Int) < 30 := by omega
      have hpr : prM d r < 10000 := by
        have h1 := hd.2.2.1 r hrR
        have h2 := pow_le12 (k := fs d r) (by have := hd.1; omega)
        have h3 := pow_le12 (k := sn d r) (by have := hd.1; omega)
        rw [prM_eq hd hrR]
        omega
      have skip : rwS d ow (r + 1) = st → wp (F_Plan_fillRow_123 k this ((st.1 : Nat) : Int) r t) (fun _ t => PlanC t this n d ow ∧ (∀ q, q ≠ this → q ≠ this + 29 → t q = s q) ∧ ∀ i, i ≠ 6 → t this i = s this i) := by
        intro e9
        unfold F_Plan_fillRow_123
        rw [lt_eq, iadd_ok (by omega)]
        refine ih _ ⟨r + 1, by omega, by rw [e9], by simp, by rw [e9]; exact e2, by rw [e9]; exact e3, hq, hi⟩ (by dsimp only; omega)
      have hgr : t (this + 28) r = gnd d ow r := by rw [hq _ (by omega) (by omega)]; exact hg r hrR
      have cnd : iand ((st.1 : Nat) : Int) ((prM d r : Nat) : Int) = ((prM d r : Nat) : Int) ↔ st.1 &&& prM d r = prM d r := by
        rw [iand_nn (by omega) (by omega), Int.toNat_natCast, Int.toNat_natCast]
        exact Int.ofNat_inj
      rw [lt_eq, gd_pos hn, C_pairOf hd hNt hrR, cl2_some, gd_pos g30, Int.toNat_natCast, hgr]
      refine wp_if (fun c2 => ?_) (fun c2 => ?_)
      · unfold F_Plan_fillRow_55 F_Plan_fillRow_56
        rw [if_pos rfl]
        exact skip (by rw [es, if_neg (fun z => absurd z.2.1 (by omega))])
      · refine wp_if (fun c3 => ?_) (fun c3 => ?_)
        · have hP := hasP_and.mp (cnd.mp c3)
          have hs := sub_pr hd hrR hP
          have len6 : st.2.length < 6 := by
            have := cntb_sub hd hrR hP
            omega
          unfold F_Plan_fillRow_56
          rw [if_neg (by decide), e2, if_neg (show ¬ ((Int.ofNat 6) ≤ ((st.2.length : Nat) : Int)) from fun z => by have : (6 : Int) ≤ ((st.2.length : Nat) : Int) := z; omega), isub_ok (by omega), show (st.1 : Int) - (prM d r : Int) = ((st.1 - prM d r : Nat) : Int) by omega, gd_pos (by omega), gd_pos g30, gd_pos (by omega), Int.toNat_natCast, Int.toNat_natCast, Int.toNat_natCast, hgr, hq (this + 27) (by omega) (by omega), hb _ (by omega), hb _ ok.1]
          have b1 := bR_rng hd ho 0 (m := st.1 - prM d r) (by omega)
          have g1 := gnd_rng hd ho hrR
          rw [iadd_ok (by omega)]
          refine wp_if (fun c4 => ?_) (fun c4 => ?_)
          · have e9 : rwS d ow (r + 1) = (st.1 - prM d r, st.2 ++ [r]) := by rw [es, if_pos ⟨cnd.mp c3, by omega, c4⟩]
            rw [gd_pos (by omega), Int.toNat_natCast, lt_eq, hset_obj _ _ _ _ (show this ≠ this + 29 by omega), e2, lt_eq, lt_eq]
            unfold F_Plan_fillRow_123
            rw [lt_eq, iadd_ok (by omega), iadd_ok (by omega)]
            refine ih _ ⟨r + 1, by omega, by rw [e9], by simp, ?_, fun k9 hk9 => ?_, fun q a1 a2 => ?_, fun i a1 => ?_⟩ (by dsimp only; omega)
            · show hset (hset t (this + 29) _ _) this 6 _ this 6 = _
              rw [hset_same, e9]
              show _ = (((st.2 ++ [r]).length : Nat) : Int)
              rw [List.length_append]
              show _ = ((st.2.length + 1 : Nat) : Int)
              omega
            · rw [e9] at hk9 ⊢
              have hk9 : k9 < (st.2 ++ [r]).length := hk9
              rw [List.length_append] at hk9
              have hk9 : k9 < st.2.length + 1 := hk9
              show hset (hset t (this + 29) st.2.length r) this 6 _ (this + 29) k9 = (((st.2 ++ [r])[k9]?.getD 0 : Nat) : Int)
              rw [hset_obj _ _ _ _ (show this + 29 ≠ this by omega), hset_get]
              by_cases e : k9 = st.2.length
              · subst e
                rw [if_pos ⟨rfl, rfl⟩, List.getElem?_append_right (Nat.le_refl _), Nat.sub_self]
                rfl
              · rw [if_neg (fun z => e z.2), List.getElem?_append_left (by omega)]
                exact e3 k9 (by omega)
            · show hset (hset t (this + 29) st.2.length r) this 6 _ q = s q
              rw [hset_obj _ _ _ _ a1, hset_obj _ _ _ _ a2]
              exact hq q a1 a2
            · show hset (hset t (this + 29) st.2.length r) this 6 _ this i = s this i
              rw [hset_get, if_neg (fun z => a1 z.2), hset_obj _ _ _ _ (show this ≠ this + 29 by omega)]
              exact hi i a1
          · exact skip (by rw [es, if_neg (fun z => c4 z.2.2)])
        · unfold F_Plan_fillRow_55 F_Plan_fillRow_56
          rw [if_pos rfl]
          exact skip (by rw [es, if_neg (fun z => c3 (cnd.mpr z.1))])
  · refine ⟨0, by omega, rfl, rfl, hset_same _ _ _ _, fun k hk => absurd hk (by show ¬ k < 0; omega), fun q a1 a2 => hset_obj _ _ _ _ a1, fun i a1 => ?_⟩
    show hset s this 6 0 this i = _
    rw [hset_get, if_neg (fun z => a1 z.2)]
  · rw [FU_eq]
    show (300 - (0 : Int)).toNat < 20000
    omega
/-- the whole of take -/
theorem C_take {σ : Hp} (hd : NDok d) (ho : owOk d ow) (hp : isPlan this) (hN : NetC σ n d) (hV : ViewC σ n d ow) {c w : Int} (hw : -1 ≤ w ∧ w ≤ 100000) (h0 : σ (this + 27) 0 = 0) :
    wp (F_Plan_take this c w σ) (fun _ t => PlanC t this n d (owc ow c w) ∧ t this 9 = 1 ∧ t this 10 = 1 ∧ t (this + 27) 0 = 0 ∧ (∀ q, q ≠ this → q ≠ this + 27 → q ≠ this + 28 → q ≠ this + 29 → t q = σ q) ∧ ∀ i, i ≠ 6 → i ≠ 7 → i ≠ 9 → i ≠ 10 → t this i = σ this i) := by
  have hn := hN.1
  have hR := hd.2.1
  have hW := hd.1
  have hok := owc_ok ho (c := c) hw
  generalize how : owc ow c w = ow' at hok
  unfold F_Plan_take
  rw [gd_pos hp, lt_eq, hV.1, Int.toNat_natCast, gd_pos hn, lt_eq]
  have aw : ∀ t : Hp, (∀ q, q ≠ this → q ≠ this + 27 → q ≠ this + 28 → q ≠ this + 29 → t q = σ q) → NetC t n d ∧ ViewC t n d ow := fun t ht =>
    ⟨hN.congr (fun i hi => by rw [ht n (by omega) (by omega) (by omega) (by omega)]) (fun q a1 a2 => ht q (by omega) (by omega) (by omega) (by omega)),
     by unfold ViewC; rw [ht 88 (by omega) (by omega) (by omega) (by omega), ht 89 (by omega) (by omega) (by omega) (by omega), ht 90 (by omega) (by omega) (by omega) (by omega)]; exact hV⟩
  -- behind the gains
  have rest : ∀ s : Hp, (∀ q, q ≠ this → q ≠ this + 27 → q ≠ this + 28 → q ≠ this + 29 → s q = σ q) → s (this + 27) 0 = 0 → s this 7 = n → (∀ i, i ≠ 6 → i ≠ 7 → i ≠ 9 → i ≠ 10 → s this i = σ this i) → (∀ r, r < dR d → s (this + 28) r = gnd d ow' r) → wp (F_Plan_take_95 this c w FU (0, s)) (fun _ t => PlanC t this n d ow' ∧ t this 9 = 1 ∧ t this 10 = 1 ∧ t (this + 27) 0 = 0 ∧ (∀ q, q ≠ this → q ≠ this + 27 → q ≠ this + 28 → q ≠ this + 29 → t q = σ q) ∧ ∀ i, i ≠ 6 → i ≠ 7 → i ≠ 9 → i ≠ 10 → t this i = σ this i) := by
    intro s hs hs0 hs7 hsi hsg
    unfold F_Plan_take_95
    refine wp_loop (fun a : Int × Hp => ∃ k : Nat, k ≤ dW d ∧ a.1 = (k : Int) ∧ (∀ q, q ≠ this + 27 → a.2 q = s q) ∧ BestOK (gpd d ow') k (a.2 (this + 27))) (fun a => (300 - a.1).toNat) ?_ FU _ ?_ ?_
    · intro a k9 hP ih
      obtain ⟨x, t⟩ := a
      obtain ⟨k, hk, e0, hq, hb⟩ := hP
      dsimp only at e0 hq hb ih ⊢
      subst e0
      have hqs : ∀ q, q ≠ this → q ≠ this + 27 → q ≠ this + 28 → q ≠ this + 29 → t q = σ q := fun q a1 a2 a3 a4 => by rw [hq q a2]; exact hs q a1 a2 a3 a4
      obtain ⟨hNt, hVt⟩ := aw t hqs
      have h7t : t this 7 = n := by rw [hq this (by omega)]; exact hs7
      have hgt : ∀ r, r < dR d → t (this + 28) r = gnd d ow' r := fun r hr => by rw [hq _ (by omega)]; exact hsg r hr
      unfold F_Plan_take_95_b
      rw [lt_eq, h7t, Int.toNat_natCast, gd_pos hn, hNt.2.1]
      refine wp_if (fun c2 => ?_) (fun c2 => ?_)
      · have ek : k = dW d := by omega
        subst ek
        refine wp_cl (C_fillRow hd hok hp hNt h7t hgt (fun m hm => ?_)) (fun z u hu => ?_)
        · rw [hb.eq hm]
          unfold bR
          rw [gab_0]
        · obtain ⟨⟨p1, p2, p3, p4, p5⟩, u2, u3⟩ := hu
          rw [lt_eq, lt_eq]
          have ob : ∀ q, q ≠ this → hset (hset u this 9 1) this 10 1 q = u q := fun q h => by rw [hset_obj _ _ _ _ h, hset_obj _ _ _ _ h]
          have oi : ∀ i, i ≠ 9 → i ≠ 10 → hset (hset u this 9 1) this 10 1 this i = u this i := fun i h1 h2 => by rw [hset_get, if_neg (fun z => h2 z.2), hset_get, if_neg (fun z => h1 z.2)]
          refine wp_ret ⟨⟨by rw [oi 7 (by decide) (by decide)]; exact p1, fun r hr => by rw [ob _ (by omega)]; exact p2 r hr, fun m hm => by rw [ob _ (by omega)]; exact p3 m hm, by rw [oi 6 (by decide) (by decide)]; exact p4, fun k hk => by rw [ob _ (by omega)]; exact p5 k hk⟩, ?_, hset_same _ _ _ _, ?_, fun q a1 a2 a3 a4 => by rw [ob q a1, u2 q a1 a4]; exact hqs q a1 a2 a3 a4, fun i a1 a2 a3 a4 => by rw [oi i a3 a4, u3 i a1, hq this (by omega)]; exact hsi i a1 a2 a3 a4⟩
          · rw [hset_get, if_neg (fun z => absurd z.2 (by decide)), hset_same]
          · rw [ob _ (by omega), u2 _ (by omega) (by omega)]
            rw [hb.eq (Nat.two_pow_pos _)]
            have h8 := bF_ok (gpd d ow') (dW d) 0 (Nat.two_pow_pos _)
            have z0 : ∀ n9 k9, Nm (gpd d ow') n9 (bt 0) k9 = if k9 = 0 then 1 else 0 := by
              intro n9
              induction n9 with
              | zero => intro k9; rfl
              | succ n9 ih9 =>
                intro k9
                rw [Nm_out (by unfold bt; rw [Nat.zero_testBit]; decide)]
                exact ih9 k9
            have h7 := h8.1
            rw [z0] at h7
            by_cases e : bF (gpd d ow') (dW d) 0 = 0
            · exact e
            · rw [if_neg e] at h7
              exact absurd rfl h7
      · refine wp_cl (C_fillBest (n := n) (gpd_le hd hok) hp (k := k) (by omega) (fun u hu o ho9 => ?_) hb) (fun z u hu => ?_)
        · refine C_gainOfTwo hd hp (hNt.congr (fun i hi => by rw [hu n (by omega)]) (fun q a1 a2 => hu q (by omega))) (by rw [hu this (by omega)]; exact h7t) (fun r hr => by rw [hu _ (by omega)]; exact hgt r hr) (by omega) (by omega)
        · rw [lt_eq, iadd_ok (by omega)]
          exact ih _ ⟨k + 1, by omega, by simp, fun q h => by rw [← hq q h]; exact hu.2 q h, hu.1⟩ (by dsimp only; omega)
    · refine ⟨0, by omega, rfl, fun q _ => rfl, fun m hm => ?_⟩
      have hm : m < 1 := hm
      have : m = 0 := by omega
      subst this
      show Top _ (s (this + 27) 0)
      rw [hs0]
      exact bF_ok (gpd d ow') 0 0 (by decide)
    · rw [FU_eq]
      show (300 - (0 : Int)).toNat < 20000
      omega
  unfold F_Plan_take_13
  refine wp_loop (fun a : Int × Hp => ∃ r : Nat, r ≤ dR d ∧ a.1 = (r : Int) ∧ (∀ q, q ≠ this → q ≠ this + 28 → a.2 q = σ q) ∧ a.2 this 7 = (n : Int) ∧ (∀ i, i ≠ 7 → a.2 this i = σ this i) ∧ ∀ r', r' < r → a.2 (this + 28) r' = gnd d ow' r') (fun a => (300 - a.1).toNat) ?_ FU _ ?_ ?_
  · intro a k hP ih
    obtain ⟨x, t⟩ := a
    obtain ⟨r, hr, e0, hq, h7, hi, hg⟩ := hP
    dsimp only at e0 hq h7 hi hg ih ⊢
    subst e0
    obtain ⟨hNt, hVt⟩ := aw t (fun q a1 a2 a3 a4 => hq q a1 a3)
    unfold F_Plan_take_13_b
    rw [lt_eq, h7, Int.toNat_natCast, gd_pos hn, hNt.2.2.1]
    refine wp_if (fun c2 => ?_) (fun c2 => ?_)
    · exact rest t (fun q a1 a2 a3 a4 => hq q a1 a3) (by rw [hq _ (by omega) (by omega)]; exact h0) h7 (fun i a1 a2 a3 a4 => hi i a2) (fun r' h' => hg r' (by omega))
    · have hrR : r < dR d := by omega
      have g30 : (0 : Int) ≤ (r : Int) ∧ (r : Int) < 30 := by omega
      have hpp := hd.2.2.1 r hrR
      have fin : ∀ v, max 0 v = gnd d ow' r → wp (F_Plan_take_75 k this c w r v t) (fun _ t => PlanC t this n d ow' ∧ t this 9 = 1 ∧ t this 10 = 1 ∧ t (this + 27) 0 = 0 ∧ (∀ q, q ≠ this → q ≠ this + 27 → q ≠ this + 28 → q ≠ this + 29 → t q = σ q) ∧ ∀ i, i ≠ 6 → i ≠ 7 → i ≠ 9 → i ≠ 10 → t this i = σ this i) := by
        intro v hv
        have e : imax 0 v = gnd d ow' r := by
          rw [← hv]
          unfold imax
          split <;> omega
        unfold F_Plan_take_75
        rw [gd_pos g30, lt_eq, lt_eq, Int.toNat_natCast, e, iadd_ok (by omega)]
        refine ih _ ⟨r + 1, by omega, by simp, fun q a1 a2 => ?_, ?_, fun i a1 => ?_, fun r' h' => ?_⟩ (by dsimp only; omega)
        · show hset t (this + 28) r _ q = σ q
          rw [hset_obj _ _ _ _ a2]
          exact hq q a1 a2
        · show hset t (this + 28) r _ this 7 = n
          rw [hset_obj _ _ _ _ (by omega)]
          exact h7
        · show hset t (this + 28) r _ this i = _
          rw [hset_obj _ _ _ _ (by omega)]
          exact hi i a1
        · show hset t (this + 28) r _ (this + 28) r' = _
          rw [hset_get]
          by_cases e : r' = r
          · subst e
            rw [if_pos ⟨rfl, rfl⟩]
          · rw [if_neg (fun z => e z.2)]
            exact hg r' (by omega)
      have told : ∀ v, max 0 v = gnd d ow r → wp (F_Plan_take_48 k this c w r v t) (fun _ t => PlanC t this n d ow' ∧ t this 9 = 1 ∧ t this 10 = 1 ∧ t (this + 27) 0 = 0 ∧ (∀ q, q ≠ this → q ≠ this + 27 → q ≠ this + 28 → q ≠ this + 29 → t q = σ q) ∧ ∀ i, i ≠ 6 → i ≠ 7 → i ≠ 9 → i ≠ 10 → t this i = σ this i) := by
        intro v hv
        unfold F_Plan_take_48
        refine wp_if (fun c3 => ?_) (fun c3 => ?_)
        · have eo : ow' r = w := by
            rw [← how]
            unfold owc
            rw [if_pos c3]
          unfold F_Plan_take_73
          refine wp_if (fun c4 => ?_) (fun c4 => ?_)
          · refine fin 0 ?_
            unfold gnd
            rw [if_pos (by omega)]
            omega
          · rw [lt_eq, h7, Int.toNat_natCast, gd_pos hn, C_gainWith hd hNt hrR hw, cl2_some]
            refine fin _ ?_
            unfold gnd mkd
            rw [if_neg (by omega), eo]
        · refine fin v ?_
          rw [hv]
          have eo : ow' r = ow r := by
            rw [← how]
            unfold owc
            rw [if_neg c3]
          unfold gnd mkd
          rw [eo]
      rw [gd_pos g30, Int.toNat_natCast, (hVt.2 r hrR).1]
      by_cases c5 : ow r = -1
      · rw [if_pos c5, if_pos rfl]
        refine told 0 ?_
        unfold gnd
        rw [if_pos c5]
        omega
      · rw [if_neg c5, if_neg (by decide), View_gainOf hd hNt hVt ho hrR c5, cl2_some]
        refine told _ ?_
        unfold gnd
        rw [if_neg c5]
  · refine ⟨0, by omega, rfl, fun q a1 a2 => hset_obj _ _ _ _ a1, by show hset σ this 7 (Int.ofNat n) this 7 = _; rw [hset_same]; rfl, fun i a1 => ?_, fun r' h' => absurd h' (by omega)⟩
    show hset σ this 7 (Int.ofNat n) this i = _
    rw [hset_get, if_neg (fun z => a1 z.2)]
  · rw [FU_eq]
    show (300 - (0 : Int)).toNat < 20000
    omega
end Plan
