/-! what each has, as the deals are told: the class's settle -/
section Settle
variable {n b : Nat} {d : ND} {ow : Nat → Int} {D : DL}
abbrev isDl (ow : Nat → Int) (D : DL) (r : Nat) : Prop := D.1 r = true ∧ ow r ≠ -1
abbrev atR (d : ND) (r w : Nat) : Prop := fs d r = w ∨ sn d r = w
/-- the road of one's deal, among the first ones -/
def dof (d : ND) (ow : Nat → Int) (D : DL) (w : Nat) : Nat → Int
  | 0 => -1
  | r + 1 => if isDl ow D r ∧ atR d r w then (r : Int) else dof d ow D w r
def hs (d : ND) (ow : Nat → Int) (D : DL) (w : Nat) (x : Int) : Int := if x = -1 then al d w else if fs d x.toNat = w then D.2 x.toNat else mkd d ow x.toNat - D.2 x.toNat
/-- what one has -/
def shv (d : ND) (ow : Nat → Int) (D : DL) (w : Nat) : Int := hs d ow D w (dof d ow D w (dR d))
def tlD (ow : Nat → Int) (D : DL) : Nat → List Nat
  | 0 => []
  | r + 1 => if isDl ow D r then tlD ow D r ++ [r] else tlD ow D r
theorem dof_s (w r : Nat) : dof d ow D w (r + 1) = if isDl ow D r ∧ atR d r w then (r : Int) else dof d ow D w r := rfl
theorem tlD_s (r : Nat) : tlD ow D (r + 1) = if isDl ow D r then tlD ow D r ++ [r] else tlD ow D r := rfl
theorem dof_cases (w : Nat) : ∀ r, (dof d ow D w r = -1 ∧ ∀ q, q < r → ¬ (isDl ow D q ∧ atR d q w)) ∨ ∃ q : Nat, q < r ∧ dof d ow D w r = q ∧ isDl ow D q ∧ atR d q w
  | 0 => Or.inl ⟨rfl, fun q h => absurd h (by omega)⟩
  | r + 1 => by
    rw [dof_s]
    by_cases h : isDl ow D r ∧ atR d r w
    · rw [if_pos h]
      exact Or.inr ⟨r, by omega, rfl, h.1, h.2⟩
    · rw [if_neg h]
      rcases dof_cases w r with ⟨h1, h2⟩ | ⟨q, h1, h2, h3⟩
      · refine Or.inl ⟨h1, fun q hq => ?_⟩
        by_cases e : q = r
        · subst e; exact h
        · exact h2 q (by omega)
      · exact Or.inr ⟨q, by omega, h2, h3⟩
theorem dl_uniq (hD : DLok d D) {q r w : Nat} (hq : D.1 q = true) (hr : D.1 r = true) (h1 : atR d q w) (h2 : atR d r w) : q = r := by
  apply Classical.byContradiction
  intro e
  have h := (hD.2 q hq).2.2.2 r hr (fun z => e z.symm)
  rcases h1 with a | a <;> rcases h2 with c | c
  · exact h.1 (a.trans c.symm)
  · exact h.2.1 (a.trans c.symm)
  · exact h.2.2.1 (a.trans c.symm)
  · exact h.2.2.2 (a.trans c.symm)
theorem dof_of (hD : DLok d D) {r w k : Nat} (hr : r < k) (h : isDl ow D r) (hw : atR d r w) : dof d ow D w k = r := by
  rcases dof_cases (d := d) (ow := ow) (D := D) w k with ⟨h1, h2⟩ | ⟨q, h1, h2, h3, h4⟩
  · exact absurd ⟨h, hw⟩ (h2 r hr)
  · rw [h2, dl_uniq hD h3.1 h.1 h4 hw]
theorem shv_first (hD : DLok d D) {r : Nat} (hr : r < dR d) (h : isDl ow D r) : shv d ow D (fs d r) = D.2 r := by
  unfold shv hs
  rw [dof_of hD hr h (Or.inl rfl), if_neg (by omega), Int.toNat_natCast, if_pos rfl]
theorem shv_second (hd : NDok d) (hD : DLok d D) {r : Nat} (hr : r < dR d) (h : isDl ow D r) : shv d ow D (sn d r) = mkd d ow r - D.2 r := by
  unfold shv hs
  rw [dof_of hD hr h (Or.inr rfl), if_neg (by omega), Int.toNat_natCast, if_neg (hd.2.2.1 r hr).2.2.1]
theorem hs_rng (hd : NDok d) (ho : owOk d ow) (hD : DLok d D) {w : Nat} (hw : w < dW d) {k : Nat} (hk : k ≤ dR d) : -1020000 ≤ hs d ow D w (dof d ow D w k) ∧ hs d ow D w (dof d ow D w k) ≤ 1119998 := by
  rcases dof_cases (d := d) (ow := ow) (D := D) w k with ⟨h1, h2⟩ | ⟨q, h1, h2, h3, h4⟩
  · rw [h1]
    have := hd.2.2.2.1 w hw
    unfold hs
    rw [if_pos rfl]
    omega
  · rw [h2]
    have a := hD.2 q h3.1
    have m := mkd_rng hd ho (r := q) (by omega)
    unfold hs
    rw [if_neg (by omega), Int.toNat_natCast]
    split <;> omega
theorem shv_rng (hd : NDok d) (ho : owOk d ow) (hD : DLok d D) {w : Nat} (hw : w < dW d) : -1020000 ≤ shv d ow D w ∧ shv d ow D w ≤ 1119998 := hs_rng hd ho hD hw (Nat.le_refl _)
theorem tlD_len (hd : NDok d) (hD : DLok d D) : ∀ r, r ≤ dR d → 2 * (tlD ow D r).length + sm 12 (fun w => if dof d ow D w r = -1 then 1 else 0) ≤ 12
  | 0, _ => by
    have : ∀ n, sm n (fun w => if dof d ow D w 0 = -1 then 1 else 0) ≤ n := by
      intro n
      induction n with
      | zero => exact Nat.le_refl _
      | succ n ih =>
        show sm n _ + (if _ then 1 else 0) ≤ n + 1
        split <;> omega
    have := this 12
    show 2 * 0 + _ ≤ 12
    omega
  | r + 1, hr => by
    have ih := tlD_len hd hD r (by omega)
    have hp := hd.2.2.1 r hr
    have hW := hd.1
    rw [tlD_s]
    by_cases c : isDl ow D r
    · rw [if_pos c, List.length_append]
      have old : ∀ w, atR d r w → dof d ow D w r = -1 := fun w hw => by
        rcases dof_cases (d := d) (ow := ow) (D := D) w r with ⟨h1, h2⟩ | ⟨q, h1, h2, h3, h4⟩
        · exact h1
        · have := dl_uniq hD h3.1 c.1 h4 hw
          omega
      rw [sm_pick (v := fs d r) (f := fun w => if dof d ow D w r = -1 then 1 else 0) (by omega), sm_pick (v := sn d r) (f := fun u => if u = fs d r then 0 else if dof d ow D u r = -1 then 1 else 0) (by omega)] at ih
      rw [if_neg (c := sn d r = fs d r) (fun z => hp.2.2.1 z.symm), if_pos (old _ (Or.inl rfl)), if_pos (old _ (Or.inr rfl))] at ih
      have e : sm 12 (fun w => if dof d ow D w (r + 1) = -1 then 1 else 0) = sm 12 (fun u => if u = sn d r then 0 else if u = fs d r then 0 else if dof d ow D u r = -1 then 1 else 0) := by
        apply sm_congr
        intro u hu
        rw [dof_s]
        by_cases e1 : u = sn d r
        · rw [if_pos e1, if_pos (c := isDl ow D r ∧ atR d r u) ⟨c, Or.inr e1.symm⟩, if_neg (by omega)]
        · rw [if_neg e1]
          by_cases e2 : u = fs d r
          · rw [if_pos e2, if_pos (c := isDl ow D r ∧ atR d r u) ⟨c, Or.inl e2.symm⟩, if_neg (by omega)]
          · rw [if_neg e2, if_neg (c := isDl ow D r ∧ atR d r u) (fun z => z.2.elim (fun y => e2 y.symm) (fun y => e1 y.symm))]
      rw [e]
      show 2 * ((tlD ow D r).length + 1) + _ ≤ 12
      omega
    · rw [if_neg c]
      have e : sm 12 (fun w => if dof d ow D w (r + 1) = -1 then 1 else 0) = sm 12 (fun w => if dof d ow D w r = -1 then 1 else 0) := by
        apply sm_congr
        intro u hu
        rw [dof_s, if_neg (c := isDl ow D r ∧ atR d r u) (fun z => c z.1)]
      rw [e]
      exact ih
theorem tlD_mem : ∀ r q, q ∈ tlD ow D r → q < r ∧ isDl ow D q
  | 0, q, h => by cases h
  | r + 1, q, h => by
    rw [tlD_s] at h
    by_cases c : isDl ow D r
    · rw [if_pos c] at h
      rcases List.mem_append.mp h with h | h
      · have := tlD_mem r q h
        exact ⟨by omega, this.2⟩
      · have := List.mem_singleton.mp h
        subst this
        exact ⟨by omega, c⟩
    · rw [if_neg c] at h
      have := tlD_mem r q h
      exact ⟨by omega, this.2⟩
theorem getD_at {l : List Nat} {k : Nat} (h : k < l.length) : l[k]?.getD 0 = l[k] := by
  rw [List.getElem?_eq_getElem h]
  rfl
theorem tlD_at {k : Nat} (h : k < (tlD ow D (dR d)).length) : (tlD ow D (dR d))[k]?.getD 0 < dR d ∧ isDl ow D ((tlD ow D (dR d))[k]?.getD 0) := by
  rw [getD_at h]
  exact tlD_mem _ _ (List.getElem_mem h)
/-- the class as settled -/
def SetAt (s : Hp) (n : Nat) (d : ND) (ow : Nat → Int) (D : DL) (r : Nat) : Prop := s 173 6 = n ∧ (∀ w, w < dW d → s 176 w = dof d ow D w r ∧ s 177 w = hs d ow D w (dof d ow D w r)) ∧ s 173 8 = ((tlD ow D r).length : Nat) ∧ ∀ k, k < (tlD ow D r).length → s 178 k = (((tlD ow D r)[k]?.getD 0 : Nat) : Int)
abbrev SetC (s : Hp) (n : Nat) (d : ND) (ow : Nat → Int) (D : DL) : Prop := SetAt s n d ow D (dR d)
def setF (σ s : Hp) : Prop := (∀ q, q ≠ 173 → q < 176 ∨ 178 < q → s q = σ q) ∧ ∀ i, i ≠ 6 → i ≠ 8 → s 173 i = σ 173 i
theorem setF_rfl {σ : Hp} : setF σ σ := ⟨fun _ _ _ => rfl, fun _ _ _ => rfl⟩
theorem setF_set {σ s : Hp} (h : setF σ s) {q i : Nat} {v : Int} (hq : 176 ≤ q ∧ q ≤ 178) : setF σ (hset s q i v) := ⟨fun q' a c => by rw [hset_obj _ _ _ _ (by omega)]; exact h.1 q' a c, fun i' a c => by rw [hset_obj _ _ _ _ (by omega)]; exact h.2 i' a c⟩
theorem setF_173 {σ s : Hp} (h : setF σ s) {i : Nat} {v : Int} (hi : i = 6 ∨ i = 8) : setF σ (hset s 173 i v) := ⟨fun q' a c => by rw [hset_obj _ _ _ _ a]; exact h.1 q' a c, fun i' a c => by rw [hset_get, if_neg (by omega)]; exact h.2 i' a c⟩
theorem setF_trans {σ s t : Hp} (h : setF σ s) (h2 : setF s t) : setF σ t := ⟨fun q a c => by rw [h2.1 q a c, h.1 q a c], fun i a c => by rw [h2.2 i a c, h.2 i a c]⟩
theorem setF_net {σ s : Hp} (h : setF σ s) (hN : NetC σ n d) : NetC s n d := by
  have hn : n = 50 ∨ n = 4 := hN.1
  exact hN.congr (fun i _ => by rw [h.1 n (by omega) (by omega)]) (fun q a c => h.1 q (by omega) (by omega))
theorem setF_view {σ s : Hp} (h : setF σ s) (hV : ViewC σ n d ow) : ViewC s n d ow := by
  refine ⟨by rw [h.1 88 (by omega) (by omega)]; exact hV.1, fun r hr => ?_⟩
  rw [h.1 89 (by omega) (by omega), h.1 90 (by omega) (by omega)]
  exact hV.2 r hr
theorem C_part {s : Hp} (hd : NDok d) (hN : NetC s n d) (h6 : s 173 6 = n) {r : Nat} (hr : r < dR d) (ho : owOk d ow) (h90 : s 90 r = mkd d ow r) {v : Int} (hv : -1000000 ≤ v ∧ v ≤ 1000000) :
    F_Deals_part r v s = some (0, hset (hset s 177 (fs d r) v) 177 (sn d r) (mkd d ow r - v)) := by
  have hR := hd.2.1
  have hW := hd.1
  have hm := mkd_rng hd ho hr
  obtain ⟨hn, e1, e2, e3, e4, e5, e6, e7, e8⟩ := hN
  have hf := hd.2.2.1 r hr
  have hn' : n = 50 ∨ n = 4 := hn
  have g30 : (0 : Int) ≤ (r : Int) ∧ (r : Int) < 30 := by omega
  have g1 : (0 : Int) ≤ (fs d r : Int) ∧ (fs d r : Int) < 12 := by omega
  have g2 : (0 : Int) ≤ (sn d r : Int) ∧ (sn d r : Int) < 12 := by omega
  have k5 : ∀ q i, q ≠ 177 → hset s 177 (fs d r) v q i = s q i := fun q i hq => by rw [hset_obj _ _ _ _ hq]
  unfold F_Deals_part
  simp only [lt_eq, h6, Int.toNat_natCast, gd_pos hn, gd_pos g30, (e6 r hr).1, gd_pos g1]
  rw [k5 173 6 (by decide), h6, Int.toNat_natCast, gd_pos hn, k5 _ _ (by omega), (e6 r hr).2.1, gd_pos g2, Int.toNat_natCast, k5 90 _ (by decide), h90, isub_ok (by omega)]
theorem C_settle {σ : Hp} (hd : NDok d) (ho : owOk d ow) (hD : DLok d D) (hN : NetC σ n d) (hV : ViewC σ n d ow) (hT : ∀ r, r < 30 → σ 174 r = (if D.1 r = true then 1 else 0) ∧ (D.1 r = true → σ 175 r = D.2 r)) :
    wp (F_Deals_settle σ) (fun _ s => SetC s n d ow D ∧ setF σ s) := by
  have hR := hd.2.1
  have hW := hd.1
  have hn : isNet n := hN.1
  have hn' : n = 50 ∨ n = 4 := hn
  unfold F_Deals_settle F_Deals_settle_18
  rw [hV.1, lt_eq, Int.toNat_natCast, gd_pos hn, lt_eq, lt_eq]
  refine wp_loop (fun a : Int × Hp => ∃ w : Nat, w ≤ dW d ∧ a.1 = (w : Int) ∧ a.2 173 6 = (n : Int) ∧ a.2 173 8 = 0 ∧ setF σ a.2 ∧ ∀ w', w' < w → a.2 176 w' = -1 ∧ a.2 177 w' = al d w') (fun a => (12 - a.1).toNat) ?_ FU _ ?_ ?_
  · intro a K hp ih
    obtain ⟨x, s⟩ := a
    obtain ⟨w, hw, e0, e6, e8, hf, hv⟩ := hp
    dsimp only at e0 e6 e8 hf hv ih ⊢
    subst e0
    have hNs := setF_net hf hN
    unfold F_Deals_settle_18_b
    rw [e6, lt_eq, Int.toNat_natCast, gd_pos hn, hNs.2.1]
    refine wp_if (fun c => ?_) (fun c => ?_)
    · have ew : w = dW d := by omega
      subst ew
      clear ih
      unfold F_Deals_settle_59
      refine wp_loop (fun a : Int × Hp => ∃ r : Nat, r ≤ dR d ∧ a.1 = (r : Int) ∧ SetAt a.2 n d ow D r ∧ setF σ a.2) (fun a => (30 - a.1).toNat) ?_ FU _ ?_ ?_
      · intro a K hp ih
        obtain ⟨x, s⟩ := a
        obtain ⟨r, hr, e0, ⟨a1, a2, a3, a4⟩, hf⟩ := hp
        dsimp only at e0 a1 a2 a3 a4 hf ih ⊢
        subst e0
        have hNs := setF_net hf hN
        have hVs := setF_view hf hV
        have hln := tlD_len (ow := ow) hd hD r hr
        unfold F_Deals_settle_59_b F_Deals_settle_161
        rw [a1, lt_eq, Int.toNat_natCast, gd_pos hn, hNs.2.2.1]
        refine wp_if (fun c => ?_) (fun c => ?_)
        · have er : r = dR d := by omega
          subst er
          exact wp_ret ⟨⟨a1, a2, a3, a4⟩, hf⟩
        · have hrR : r < dR d := by omega
          have g30 : (0 : Int) ≤ (r : Int) ∧ (r : Int) < 30 := by omega
          have hp := hd.2.2.1 r hrR
          have e174 : s 174 r = if D.1 r = true then 1 else 0 := by rw [hf.1 174 (by omega) (by omega)]; exact (hT r (by omega)).1
          have skip : ¬ isDl ow D r → wp (lt (iadd (r : Int) 1) fun y1_1 => K (y1_1, s)) (fun _ s => SetC s n d ow D ∧ setF σ s) := by
            intro no
            rw [lt_eq, iadd_ok (by omega)]
            refine ih _ ⟨r + 1, by omega, by simp, ⟨a1, fun w hw => ?_, ?_, fun k hk => ?_⟩, hf⟩ (by dsimp only; omega)
            · rw [dof_s, if_neg (fun z => no z.1)]
              exact a2 w hw
            · rw [tlD_s, if_neg no]
              exact a3
            · rw [tlD_s, if_neg no] at hk ⊢
              exact a4 k hk
          rw [gd_pos g30, Int.toNat_natCast, e174]
          refine wp_if (fun c1 => ?_) (fun c1 => ?_)
          · refine skip (fun z => ?_)
            rw [if_pos z.1] at c1
            exact absurd c1 (by decide)
          have t1 : D.1 r = true := Classical.byContradiction (fun z => c1 (if_neg z))
          rw [gd_pos g30, (hVs.2 r hrR).1]
          refine wp_if (fun c2 => ?_) (fun c2 => ?_)
          · refine skip (fun z => ?_)
            rw [if_neg z.2] at c2
            exact absurd c2 (by decide)
          have t2 : ow r ≠ -1 := fun z => c2 (if_pos z)
          have tt : isDl ow D r := ⟨t1, t2⟩
          have hln2 := tlD_len (ow := ow) hd hD (r + 1) (by omega)
          rw [tlD_s, if_pos tt, List.length_append] at hln2
          have hl1 : [r].length = 1 := rfl
          rw [a3, if_neg (by omega), lt_eq, gd_pos hn, gd_pos g30, (hNs.2.2.2.2.2.2.1 r hrR).1, gd_pos (by omega), Int.toNat_natCast, lt_eq]
          have k1 : ∀ q i, q ≠ 176 → hset s 176 (fs d r) r q i = s q i := fun q i hq => by rw [hset_obj _ _ _ _ hq]
          rw [k1 173 6 (by decide), a1, lt_eq, Int.toNat_natCast, gd_pos hn, gd_pos g30, k1 _ _ (by omega), (hNs.2.2.2.2.2.2.1 r hrR).2.1, gd_pos (by omega), Int.toNat_natCast, lt_eq, gd_pos g30]
          have k2 : ∀ q i, q ≠ 176 → hset (hset s 176 (fs d r) r) 176 (sn d r) r q i = s q i := fun q i hq => by rw [hset_obj _ _ _ _ hq]; exact k1 q i hq
          have hf2 : setF σ (hset (hset s 176 (fs d r) r) 176 (sn d r) r) := setF_set (setF_set hf (by omega)) (by omega)
          have hD2 := hD.2 r t1
          have e175 : s 175 r = D.2 r := by rw [hf.1 175 (by omega) (by omega)]; exact (hT r (by omega)).2 t1
          have e90 : s 90 r = mkd d ow r := by rw [(hVs.2 r hrR).2, if_neg t2]
          rw [k2 175 r (by decide), e175, C_part hd (setF_net hf2 hN) (by rw [k2 173 6 (by decide)]; exact a1) hrR ho (by rw [k2 90 r (by decide)]; exact e90) ⟨hD2.2.1, hD2.2.2.1⟩, cl2_some]
          generalize hu : hset (hset (hset (hset s 176 (fs d r) r) 176 (sn d r) r) 177 (fs d r) (D.2 r)) 177 (sn d r) (mkd d ow r - D.2 r) = u
          have ku : ∀ q i, q ≠ 176 → q ≠ 177 → u q i = s q i := fun q i h1 h2 => by rw [← hu, hset_obj _ _ _ _ h2, hset_obj _ _ _ _ h2]; exact k2 q i h1
          have ku6 : ∀ i, u 176 i = if i = sn d r then (r : Int) else if i = fs d r then (r : Int) else s 176 i := fun i => by
            rw [← hu, hset_obj _ _ _ _ (by decide), hset_obj _ _ _ _ (by decide), hset_row, hset_row]
          have ku7 : ∀ i, u 177 i = if i = sn d r then mkd d ow r - D.2 r else if i = fs d r then D.2 r else s 177 i := fun i => by
            rw [← hu, hset_row, hset_row]
            simp only [hset_obj (q := 176) (q' := 177) _ _ _ (by decide)]
          have hfu : setF σ u := by
            rw [← hu]
            exact setF_set (setF_set hf2 (by omega)) (by omega)
          rw [ku 173 8 (by decide) (by decide), a3, gd_pos (by omega), Int.toNat_natCast, lt_eq, lt_eq]
          have kk : (hset u 178 (tlD ow D r).length (r : Int)) 173 8 = ((tlD ow D r).length : Int) := by rw [hset_obj _ _ _ _ (by decide), ku 173 8 (by decide) (by decide)]; exact a3
          rw [kk, iadd_ok (by omega), lt_eq, iadd_ok (by omega)]
          refine ih _ ⟨r + 1, by omega, by simp, ⟨?_, fun w hw => ?_, ?_, fun k hk => ?_⟩, setF_173 (setF_set hfu (by omega)) (Or.inr rfl)⟩ (by dsimp only; omega)
          · dsimp only
            rw [hset_get, if_neg (by decide), hset_obj _ _ _ _ (by decide), ku 173 6 (by decide) (by decide)]
            exact a1
          · dsimp only
            rw [hset_obj _ _ _ _ (by decide), hset_obj _ _ _ _ (by decide), ku6, hset_obj _ _ _ _ (by decide), hset_obj _ _ _ _ (by decide), ku7, dof_s]
            by_cases x1 : w = sn d r
            · rw [if_pos x1, if_pos x1, if_pos (c := isDl ow D r ∧ atR d r w) ⟨tt, Or.inr x1.symm⟩]
              refine ⟨rfl, ?_⟩
              unfold hs
              rw [if_neg (by omega), Int.toNat_natCast, if_neg (fun z => hp.2.2.1 (z.trans x1))]
            · rw [if_neg x1, if_neg x1]
              by_cases x2 : w = fs d r
              · rw [if_pos x2, if_pos x2, if_pos (c := isDl ow D r ∧ atR d r w) ⟨tt, Or.inl x2.symm⟩]
                refine ⟨rfl, ?_⟩
                unfold hs
                rw [if_neg (by omega), Int.toNat_natCast, if_pos x2.symm]
              · rw [if_neg x2, if_neg x2, if_neg (c := isDl ow D r ∧ atR d r w) (fun z => z.2.elim (fun y => x2 y.symm) (fun y => x1 y.symm))]
                exact a2 w hw
          · dsimp only
            rw [hset_same, tlD_s, if_pos tt, List.length_append]
            show _ = (((tlD ow D r).length + 1 : Nat) : Int)
            omega
          · dsimp only
            rw [tlD_s, if_pos tt] at hk ⊢
            rw [List.length_append] at hk
            have hk : k < (tlD ow D r).length + 1 := hk
            rw [hset_obj _ _ _ _ (by decide), hset_row]
            by_cases e : k = (tlD ow D r).length
            · dsimp only
              rw [if_pos e, e, List.getElem?_append_right (Nat.le_refl _), Nat.sub_self]
              rfl
            · dsimp only
              rw [if_neg e, ku 178 k (by decide) (by decide), List.getElem?_append_left (by omega)]
              exact a4 k (by omega)
      · exact ⟨0, by omega, rfl, ⟨e6, fun w' hw' => hv w' hw', e8, fun k hk => absurd hk (Nat.not_lt_zero _)⟩, hf⟩
      · rw [FU_eq]
        show (30 - (0 : Int)).toNat < 20000
        omega
    · have hwW : w < dW d := by omega
      have g12 : (0 : Int) ≤ (w : Int) ∧ (w : Int) < 12 := by omega
      rw [gd_pos g12, lt_eq, Int.toNat_natCast, hset_obj (q := 176) (q' := 173) _ _ _ (by decide), e6, lt_eq, Int.toNat_natCast, gd_pos hn, gd_pos g12, gd_pos g12, hset_obj (q := 176) (q' := n + 2) _ _ _ (by omega), hNs.2.2.2.2.2.1 w hwW, lt_eq, lt_eq, iadd_ok (by omega)]
      refine ih _ ⟨w + 1, by omega, by simp, ?_, ?_, setF_set (setF_set hf (by omega)) (by omega), fun w' hw' => ?_⟩ (by dsimp only; omega)
      · dsimp only
        rw [hset_obj _ _ _ _ (by decide), hset_obj _ _ _ _ (by decide)]; exact e6
      · dsimp only
        rw [hset_obj _ _ _ _ (by decide), hset_obj _ _ _ _ (by decide)]; exact e8
      · dsimp only
        rw [hset_obj (q := 177) (q' := 176) _ _ _ (by decide), hset_row, hset_row]
        by_cases e : w' = w
        · subst e
          simp
        · rw [hset_obj (q := 176) (q' := 177) _ _ _ (by decide)]
          simp only [if_neg e]
          exact hv w' (by omega)
  · refine ⟨0, by omega, rfl, ?_, ?_, setF_173 (setF_173 setF_rfl (Or.inl rfl)) (Or.inr rfl), fun w' h' => absurd h' (by omega)⟩
    · dsimp only
      rw [hset_get, if_neg (by decide), hset_same]
      rfl
    · dsimp only
      rw [hset_same]
  · rw [FU_eq]
    show (12 - (0 : Int)).toNat < 20000
    omega
end Settle
