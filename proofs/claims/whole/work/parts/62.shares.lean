/-! the check's shares; share, money -/
section Shares
variable {σ τ : Hp} {n b : Nat} {d : ND} {A : AD} {kn : Int} {now day : Nat} {D : DL} {ow : Nat → Int}
theorem InvAt.setE (h : InvAt σ τ n b d A kn now day D) {D' : DL} (hok : DLok d D') {s t : Hp} (h1 : ∀ q, q < 173 ∨ 179 < q → s q = σ q) (h2 : ∀ q, keepM q → q ≠ 42 → q ≠ 43 → t q = τ q) (h0 : ∀ i, keepM0 i → t 0 i = τ 0 i) (h3 : DlsI s t D') : InvAt s t n b d A kn now day D' := by
  obtain ⟨⟨g1, g2, g3, g4, g5⟩, ⟨c1, c2, c3, c4, c5, c6, c7⟩, m, ⟨d1, d2⟩, o1, o2, o3⟩ := id h
  have k : ∀ q, q ≤ 172 → s q = σ q := fun q hq => h1 q (by omega)
  have hn : n = 50 ∨ n = 4 := c1.1
  refine ⟨⟨g1, g2, g3, g4, hok⟩, ⟨c1.congr (fun i _ => by rw [k n (by omega)]) (fun q a x => k q (by omega)), c2.congr (fun q a x => k q (by omega)), fun w hw => ?_, ⟨?_, fun q hq => ?_⟩, ⟨?_, ?_, ?_, ?_⟩, ⟨?_, fun r hr => ?_⟩, c7.congr g1 (by rw [k 0 (by omega)]) (fun q a x => k q (by omega)) ?_⟩, m.congr (fun q hq => h2 q (by unfold keepM; omega) (by omega) (by omega)) (fun i hi => h0 i (by unfold keepM0; omega)), h3, ?_, ?_, ?_⟩
  · rw [k (n + 1) (by omega)]; exact c3 w hw
  · rw [k 46 (by omega)]; exact c4.1
  · rw [k 47 (by omega), k 48 (by omega), k 49 (by omega)]; exact c4.2 q hq
  · rw [k 0 (by omega)]; exact c5.1
  · rw [k 3 (by omega)]; exact c5.2.1
  · rw [k 0 (by omega)]; exact c5.2.2.1
  · rw [k 0 (by omega)]; exact c5.2.2.2
  · rw [k 88 (by omega)]; exact c6.1
  · rw [k 89 (by omega), k 90 (by omega)]; exact c6.2 r hr
  · rw [k 169 (by omega)]; exact c7.2.2.2
  · rw [k 0 (by omega), h0 10 (by unfold keepM0; omega), h0 11 (by unfold keepM0; omega), h0 67 (by unfold keepM0; omega)]; exact o1
  · rw [k 1 (by omega), k 2 (by omega), h0 1 (by unfold keepM0; omega), h2 1 (by unfold keepM; omega) (by omega) (by omega)]; exact o2
  · rw [h1 181 (by omega), h1 182 (by omega), h0 71 (by unfold keepM0; omega), h2 49 (by unfold keepM; omega) (by omega) (by omega)]; exact o3
theorem InvAt.setS (h : InvAt σ τ n b d A kn now day D) {s : Hp} (hs : setF σ s) : InvAt s τ n b d A kn now day D :=
  h.setE h.1.2.2.2.2 (fun q hq => hs.1 q (by omega) (by omega)) (fun _ _ _ _ => rfl) (fun _ _ => rfl) ⟨fun r hr => by rw [hs.1 174 (by omega) (by omega), hs.1 175 (by omega) (by omega)]; exact h.2.2.2.1.1 r hr, by rw [hs.2 2 (by omega) (by omega)]; exact h.2.2.2.1.2⟩
theorem C_dealsNow (h : InvAt σ τ n b d A kn now day D) : wp (F_RD_dealsNow σ) (fun z s => z.toNat = 173 ∧ InvAt s τ n b d A kn now day D ∧ SetC s n d (owd d A day now) D) := by
  obtain ⟨⟨g1, g2, g3, g4, g5⟩, ⟨c1, c2, c3, c4, c5, c6, c7⟩, m, ⟨d1, d2⟩, _⟩ := id h
  unfold F_RD_dealsNow
  refine wp_cl (C_settle g1 h.oo g5 c1 c6 (fun r hr => ⟨(d1 r hr).1, fun y => ((d1 r hr).2.2 y).1⟩)) (fun _ s hs => ?_)
  exact wp_ret ⟨rfl, h.setS hs.2, hs.1⟩
/-- the check as its shares tell -/
def ShAt (t : Hp) (d : ND) (ow : Nat → Int) (D : DL) (r : Nat) : Prop := ∀ w, w < dW d → t 44 w = dof d ow D w r ∧ t 45 w = hs d ow D w (dof d ow D w r)
abbrev ShM (t : Hp) (d : ND) (ow : Nat → Int) (D : DL) : Prop := ShAt t d ow D (dR d)
theorem M_shares (hd : NDok d) (ho : owOk d ow) (hD : DLok d D) (hN : NetM τ b d) (hV : ViewM1 τ d ow) (hT : ∀ r, r < 30 → τ 42 r = (if D.1 r = true then 1 else 0) ∧ (D.1 r = true → τ 43 r = D.2 r)) :
    wp (F_M_shares τ) (fun _ t => ShM t d ow D ∧ fr 44 45 τ t) := by
  have hR := hd.2.1
  have hW := hd.1
  have hb := hN.1
  have net : ∀ s', fr 44 45 τ s' → NetM s' b d := fun s' h' => hN.congr (by rw [h' 0 (by omega)]) (fun q a1 a2 => h' q (by omega))
  unfold F_M_shares F_M_shares_2
  refine wp_loop (fun a : Int × Hp => ∃ w : Nat, w ≤ dW d ∧ a.1 = (w : Int) ∧ fr 44 45 τ a.2 ∧ ∀ w', w' < w → a.2 44 w' = -1 ∧ a.2 45 w' = al d w') (fun a => (12 - a.1).toNat) ?_ FU _ ?_ ?_
  · intro a K hp ih
    obtain ⟨x, s⟩ := a
    obtain ⟨w, hw, e0, hf, hv⟩ := hp
    dsimp only at e0 hf hv ih ⊢
    subst e0
    have hNs := net s hf
    unfold F_M_shares_2_b
    rw [hNs.2.1, gd_pos (by omega), Int.toNat_natCast, hNs.2.2.1]
    refine wp_if (fun c => ?_) (fun c => ?_)
    · have ew : w = dW d := by omega
      subst ew
      clear ih
      unfold F_M_shares_42
      refine wp_loop (fun a : Int × Hp => ∃ r : Nat, r ≤ dR d ∧ a.1 = (r : Int) ∧ ShAt a.2 d ow D r ∧ fr 44 45 τ a.2) (fun a => (30 - a.1).toNat) ?_ FU _ ?_ ?_
      · intro a K hp ih
        obtain ⟨x, s⟩ := a
        obtain ⟨r, hr, e0, a2, hf⟩ := hp
        dsimp only at e0 a2 hf ih ⊢
        subst e0
        have hNs := net s hf
        unfold F_M_shares_42_b F_M_shares_140
        rw [hNs.2.1, gd_pos (by omega), Int.toNat_natCast, hNs.2.2.2.1]
        refine wp_if (fun c => ?_) (fun c => ?_)
        · have er : r = dR d := by omega
          subst er
          exact wp_ret ⟨a2, hf⟩
        · have hrR : r < dR d := by omega
          have g30 : (0 : Int) ≤ (r : Int) ∧ (r : Int) < 30 := by omega
          have hp := hd.2.2.1 r hrR
          have e42 : s 42 r = if D.1 r = true then 1 else 0 := by rw [hf 42 (by omega)]; exact (hT r (by omega)).1
          have skip : ¬ isDl ow D r → wp (lt (iadd (r : Int) 1) fun y1_1 => K (y1_1, s)) (fun _ s => ShM s d ow D ∧ fr 44 45 τ s) := by
            intro no
            rw [lt_eq, iadd_ok (by omega)]
            refine ih _ ⟨r + 1, by omega, by simp, fun w hw => ?_, hf⟩ (by dsimp only; omega)
            rw [dof_s, if_neg (fun z => no z.1)]
            exact a2 w hw
          rw [gd_pos g30, Int.toNat_natCast, e42]
          refine wp_if (fun c1 => ?_) (fun c1 => ?_)
          · refine skip (fun z => ?_)
            rw [if_pos z.1] at c1
            exact absurd c1 (by decide)
          have t1 : D.1 r = true := Classical.byContradiction (fun z => c1 (if_neg z))
          rw [gd_pos g30, hf 29 (by omega), (hV r hrR).1]
          refine wp_if (fun c2 => ?_) (fun c2 => ?_)
          · refine skip (fun z => ?_)
            rw [if_neg z.2] at c2
            exact absurd c2 (by decide)
          have t2 : ow r ≠ -1 := fun z => c2 (if_pos z)
          have tt : isDl ow D r := ⟨t1, t2⟩
          have g1 : (0 : Int) ≤ (fs d r : Int) ∧ (fs d r : Int) < 12 := by omega
          have g2 : (0 : Int) ≤ (sn d r : Int) ∧ (sn d r : Int) < 12 := by omega
          have hD2 := hD.2 r t1
          have hm := mkd_rng hd ho hrR
          have f1 := fr_set (q := 44) (i := fs d r) (v := (r : Int)) hf (by omega)
          have f2 := fr_set (q := 44) (i := sn d r) (v := (r : Int)) f1 (by omega)
          have f3 := fr_set (q := 45) (i := fs d r) (v := D.2 r) f2 (by omega)
          have f4 := fr_set (q := 45) (i := sn d r) (v := mkd d ow r - D.2 r) f3 (by omega)
          have e43 : ∀ u, fr 44 45 τ u → u 43 r = D.2 r := fun u hu => by rw [hu 43 (by omega)]; exact (hT r (by omega)).2 t1
          rw [M_first hd hNs hrR, cl2_some, gd_pos g1, lt_eq, Int.toNat_natCast, M_second hd (net _ f1) hrR, cl2_some, gd_pos g2, lt_eq, Int.toNat_natCast, M_first hd (net _ f2) hrR, cl2_some, gd_pos g30, gd_pos g1, lt_eq, Int.toNat_natCast, e43 _ f2, M_second hd (net _ f3) hrR, cl2_some, gd_pos g30, gd_pos g30, gd_pos g2, lt_eq, Int.toNat_natCast, e43 _ f3, f3 30 (by omega), (hV r hrR).2, lsub_ok (by omega), lt_eq, iadd_ok (by omega)]
          refine ih _ ⟨r + 1, by omega, by simp, fun w hw => ?_, f4⟩ (by dsimp only; omega)
          dsimp only
          rw [hset_obj (q' := 44) _ _ _ _ (by decide), hset_obj (q' := 44) _ _ _ _ (by decide), hset_row, hset_row, hset_row, hset_row, dof_s]
          simp only [hset_obj (q := 44) (q' := 45) _ _ _ (by decide)]
          by_cases x1 : w = sn d r
          · rw [if_pos x1, if_pos x1, if_pos (c := isDl ow D r ∧ atR d r w) ⟨tt, Or.inr x1.symm⟩]
            refine ⟨rfl, ?_⟩
            unfold hs
            rw [if_neg (by omega), Int.toNat_natCast, if_neg (fun z => hp.2.2.1 (z.trans x1))]
          · rw [if_neg x1, if_neg x1]
            by_cases x2 : w = fs d r
            · rw [if_pos x2, if_pos x2, if_pos (c := isDl ow D r ∧ atR d r w) ⟨tt, Or.inl x2.symm⟩]
              refine ⟨rfl, ?_⟩
              unfold hs
              rw [if_neg (by omega), Int.toNat_natCast, if_pos x2.symm]
            · rw [if_neg x2, if_neg x2, if_neg (c := isDl ow D r ∧ atR d r w) (fun z => z.2.elim (fun y => x2 y.symm) (fun y => x1 y.symm))]
              exact a2 w hw
      · exact ⟨0, by omega, rfl, fun w' hw' => hv w' hw', hf⟩
      · rw [FU_eq]
        show (30 - (0 : Int)).toNat < 20000
        omega
    · have hwW : w < dW d := by omega
      have g12 : (0 : Int) ≤ (w : Int) ∧ (w : Int) < 12 := by omega
      have f1 := fr_set (q := 44) (i := w) (v := -1) hf (by omega)
      rw [gd_pos g12, lt_eq, Int.toNat_natCast, M_aloneOf hd (net _ f1) hwW, cl2_some, gd_pos g12, lt_eq, lt_eq, iadd_ok (by omega)]
      refine ih _ ⟨w + 1, by omega, by simp, fr_set f1 (by omega), fun w' hw' => ?_⟩ (by dsimp only; omega)
      dsimp only
      rw [hset_obj (q := 45) (q' := 44) _ _ _ (by decide), hset_row, hset_row]
      by_cases e : w' = w
      · subst e
        simp
      · rw [hset_obj (q := 44) (q' := 45) _ _ _ (by decide)]
        simp only [if_neg e]
        exact hv w' (by omega)
  · exact ⟨0, by omega, rfl, fr_rfl, fun w' h' => absurd h' (by omega)⟩
  · rw [FU_eq]
    show (12 - (0 : Int)).toNat < 20000
    omega
theorem InvAt.frM2 {t : Hp} (h : InvAt σ τ n b d A kn now day D) (h1 : ∀ q, q < 28 ∨ (41 < q ∧ q < 44) ∨ 48 < q → t q = τ q) : InvAt σ t n b d A kn now day D :=
  h.setM (fun q hq => h1 q (by unfold keepM at hq; omega)) (fun i _ => by rw [h1 0 (by omega)])
theorem InvAt.laysAll (h : InvAt σ τ n b d A kn now day D) : wp (F_M_laysAll τ) (fun _ t => InvAt σ t n b d A kn now day D ∧ ViewM1 t d (owd d A day now) ∧ ShM t d (owd d A day now) D) := by
  have hl := h.lays (c := -1) (w := 0) (by omega)
  obtain ⟨⟨g1, g2, g3, g4, g5⟩, c, ⟨m1, m2, m3, m4, m5, m6⟩, ⟨d1, d2⟩, _⟩ := id h
  have ho := h.oo
  rw [owc_none] at hl
  unfold F_M_laysAll
  refine wp_cl hl (fun _ t ht => ?_)
  obtain ⟨⟨hv, _⟩, hf⟩ := ht
  have hm : NetM t b d := m1.congr (by rw [hf 0 (by omega)]) (fun q a b => hf q (by omega))
  refine wp_cl (M_shares g1 ho g5 hm hv (fun r hr => by
    rw [hf 42 (by omega), hf 43 (by omega)]
    exact ⟨(d1 r hr).2.1, fun y => ((d1 r hr).2.2 y).2⟩)) (fun _ u hu => ?_)
  refine wp_ret ⟨h.frM2 (fun q hq => by rw [hu.2 q (by omega), hf q (by omega)]), fun r hr => ?_, hu.1⟩
  rw [hu.2 29 (by omega), hu.2 30 (by omega)]
  exact hv r hr
theorem S_share (σ τ : Hp) (a1 : Int) (h : Inv σ τ) : ∃ (z : Int) (σ' τ' : Hp), F_RD_share a1 σ = some (z, σ') ∧ F_M_share a1 τ = some (z, τ') ∧ Inv σ' τ' := by
  obtain ⟨n, b, d, A, kn, now, day, D, hI⟩ := id h
  obtain ⟨⟨g1, g2, g3, g4, g5⟩, ⟨c1, c2, c3, c4, c5, c6, c7⟩, ⟨m1, m2, m3, m4, m5, m6⟩, _⟩ := id hI
  have hW := g1.1
  unfold F_RD_share F_RD_share_22 F_M_share
  rw [C_isSomebody g1 c1 c5.1, cl2_some, M_isWho g1 m1, cl2_some]
  by_cases c : 0 ≤ a1 ∧ a1 < dW d
  · rw [if_pos c, if_neg (c := (1 : Int) = 0) (by decide), if_neg (c := (1 : Int) = 0) (by decide)]
    obtain ⟨w, rfl⟩ : ∃ k : Nat, a1 = k := ⟨a1.toNat, by omega⟩
    have hw : w < dW d := by omega
    obtain ⟨z, s, e, hz, hIs, hS⟩ := C_dealsNow hI
    obtain ⟨z2, t, e2, hIt, hV, hSh⟩ := hIs.laysAll
    have hr := shv_rng g1 hI.oo g5 hw
    refine ⟨shv d (owd d A day now) D w, s, t, ?_, ?_, n, b, d, A, kn, now, day, D, hIt⟩
    · rw [e, cl2_some, gd_pos hz, gd_pos (by omega), Int.toNat_natCast, (hS.2.1 w hw).2]
      rfl
    · rw [e2, cl2_some, gd_pos (by omega), Int.toNat_natCast, (hSh w hw).2]
      show some (w32 (shv d (owd d A day now) D w), t) = _
      rw [w32_id (by omega)]
  · rw [if_neg c]
    exact ⟨_, _, _, if_pos rfl, if_pos rfl, h⟩
/-- the other one of a road -/
def oth (d : ND) (r w : Nat) : Nat := if fs d r = w then sn d r else fs d r
theorem M_otherOn (hd : NDok d) (hN : NetM τ b d) {r : Nat} (hr : r < dR d) (w : Nat) : F_M_otherOn r w τ = some ((oth d r w : Int), τ) := by
  unfold F_M_otherOn F_M_otherOn_22 oth
  rw [M_first hd hN hr, cl2_some]
  by_cases c : fs d r = w
  · rw [if_pos (by omega), if_pos c, M_second hd hN hr, cl2_some]
  · rw [if_neg (by omega), if_neg c, M_first hd hN hr, cl2_some]
theorem oth_lt (hd : NDok d) {r : Nat} (hr : r < dR d) (w : Nat) : oth d r w < dW d := by
  have h := hd.2.2.1 r hr
  unfold oth
  split
  · exact h.2.1
  · exact h.1
theorem oth_eq (hd : NDok d) {r : Nat} (hr : r < dR d) {w : Nat} (h : atR d r w) : isub (iadd (fs d r : Int) (sn d r)) w = (oth d r w : Int) := by
  have hf := hd.2.2.1 r hr
  have hW := hd.1
  rw [iadd_ok (by omega), isub_ok (by unfold atR at h; omega)]
  unfold oth
  rcases h with x | x
  · rw [if_pos x]; omega
  · rw [if_neg (by omega)]; omega
theorem S_money (σ τ : Hp) (a1 : Int) (h : Inv σ τ) : ∃ (z : Int) (σ' τ' : Hp), F_RD_money a1 σ = some (z, σ') ∧ F_M_money a1 τ = some (z, τ') ∧ Inv σ' τ' := by
  obtain ⟨n, b, d, A, kn, now, day, D, hI⟩ := id h
  obtain ⟨⟨g1, g2, g3, g4, g5⟩, ⟨c1, c2, c3, c4, c5, c6, c7⟩, ⟨m1, m2, m3, m4, m5, m6⟩, _⟩ := id hI
  have hW := g1.1
  have hR := g1.2.1
  unfold F_RD_money F_RD_money_21 F_M_money F_M_money_70
  rw [C_isSomebody g1 c1 c5.1, cl2_some, M_isWho g1 m1, cl2_some]
  by_cases c : 0 ≤ a1 ∧ a1 < dW d
  · rw [if_pos c, if_neg (c := (1 : Int) = 0) (by decide), if_neg (c := (1 : Int) = 0) (by decide)]
    obtain ⟨w, rfl⟩ : ∃ k : Nat, a1 = k := ⟨a1.toNat, by omega⟩
    have hw : w < dW d := by omega
    obtain ⟨z, s, e, hz, hIs, hS⟩ := C_dealsNow hI
    obtain ⟨z2, t, e2, hIt, hV, hSh⟩ := hIs.laysAll
    have hr := shv_rng g1 hI.oo g5 hw
    have gw : (0 : Int) ≤ (w : Int) ∧ (w : Int) < 12 := by omega
    have nC := hIs.2.1.1
    have nM := hIt.2.2.1.1
    have hb := nM.1
    have s177 : s 177 w = shv d (owd d A day now) D w := (hS.2.1 w hw).2
    have t45 : t 45 w = shv d (owd d A day now) D w := (hSh w hw).2
    rw [e, cl2_some, gd_pos hz, e2, cl2_some, gd_pos gw, Int.toNat_natCast]
    unfold F_Deals_moneyOf
    simp only [lt_eq]
    rw [gd_pos gw, Int.toNat_natCast, (hS.2.1 w hw).1, (hSh w hw).1, s177, t45]
    rcases dof_cases (d := d) (ow := owd d A day now) (D := D) w (dR d) with ⟨h1, h2⟩ | ⟨q, h1, h2, h3, h4⟩
    · rw [h1, if_pos rfl, if_pos rfl, gd_pos gw, gd_pos gw, cl2_some, w32_id (by omega)]
      exact ⟨_, _, _, rfl, rfl, n, b, d, A, kn, now, day, D, hIt⟩
    · have g30 : (0 : Int) ≤ (q : Int) ∧ (q : Int) < 30 := by omega
      have hf := g1.2.2.1 q h1
      have ol := oth_lt g1 h1 w
      have go : (0 : Int) ≤ (oth d q w : Int) ∧ (oth d q w : Int) < 12 := by omega
      have hta := g1.2.2.2.2.1 w (oth d q w)
      rw [h2, if_neg (by omega), if_neg (by omega), hS.1]
      simp only [lt_eq, Int.toNat_natCast, gd_pos nC.1, gd_pos g30, (nC.2.2.2.2.2.2.1 q h1).1, (nC.2.2.2.2.2.2.1 q h1).2.1, oth_eq g1 h1 h4, gd_pos gw, gd_pos go]
      rw [nC.2.2.2.2.2.2.2.2 w (oth d q w) (by omega) (by omega), M_otherOn g1 nM h1 w, cl2_some, cl2_some, nM.2.1, isub_ok (by omega)]
      refine ⟨_, _, _, rfl, ?_, n, b, d, A, kn, now, day, D, hIt⟩
      rw [ix144 hb (by omega) (by omega), gd_pos (by omega), Int.toNat_natCast, nM.2.2.2.2.2.2.2.2 w (oth d q w) (by omega) (by omega), lsub_ok (by omega), w32_id (by omega)]
  · rw [if_neg c]
    exact ⟨_, _, _, if_pos rfl, if_pos rfl, h⟩
end Shares
