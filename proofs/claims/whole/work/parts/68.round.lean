/-! a round of turns, on both sides -/
section Round
variable {s t : Hp} {n b : Nat} {d : ND} {ow : Nat → Int} {D E : DL}
def clM (v : Int) : Int := if 1000000 < v then 1000000 else if v < -1000000 then -1000000 else v
theorem clM_rng (v : Int) : -1000000 ≤ clM v ∧ clM v ≤ 1000000 := by
  unfold clM
  split
  · omega
  · split <;> omega
def setDv (D : DL) (r : Nat) (v : Int) : DL := (D.1, fun q => if q = r then v else D.2 q)
/-- the turns of the first roads -/
def trR (d : ND) (ow : Nat → Int) : Nat → DL → DL
  | 0, D => D
  | r + 1, D => if isDl ow (trR d ow r D) r then setDv (trR d ow r D) r (clM (evV d ow (trR d ow r D) r)) else trR d ow r D
def itD (d : ND) (ow : Nat → Int) : Nat → DL → DL
  | 0, D => D
  | i + 1, D => trR d ow (dR d) (itD d ow i D)
theorem trR_s (r : Nat) : trR d ow (r + 1) D = if isDl ow (trR d ow r D) r then setDv (trR d ow r D) r (clM (evV d ow (trR d ow r D) r)) else trR d ow r D := rfl
theorem trR_1 : ∀ r, (trR d ow r D).1 = D.1
  | 0 => rfl
  | r + 1 => by
    have ih := trR_1 r
    rw [trR_s]
    split
    · exact ih
    · exact ih
theorem itD_1 : ∀ i, (itD d ow i D).1 = D.1
  | 0 => rfl
  | i + 1 => by
    show (trR d ow (dR d) (itD d ow i D)).1 = D.1
    rw [trR_1, itD_1 i]
theorem isDl_1 (h : E.1 = D.1) (r : Nat) : isDl ow E r ↔ isDl ow D r := by
  unfold isDl
  rw [h]
theorem tlD_1 (h : E.1 = D.1) : ∀ r, tlD ow E r = tlD ow D r
  | 0 => rfl
  | r + 1 => by
    rw [tlD_s, tlD_s, tlD_1 h r]
    by_cases c : isDl ow D r
    · rw [if_pos c, if_pos ((isDl_1 h r).mpr c)]
    · rw [if_neg c, if_neg (fun z => c ((isDl_1 h r).mp z))]
theorem dof_1 (h : E.1 = D.1) (w : Nat) : ∀ r, dof d ow E w r = dof d ow D w r
  | 0 => rfl
  | r + 1 => by
    rw [dof_s, dof_s, dof_1 h w r]
    by_cases c : isDl ow D r ∧ atR d r w
    · rw [if_pos c, if_pos ⟨(isDl_1 h r).mpr c.1, c.2⟩]
    · rw [if_neg c, if_neg (fun z => c ⟨(isDl_1 h r).mp z.1, z.2⟩)]
theorem DLok_set (hD : DLok d D) {r : Nat} {v : Int} (hv : -1000000 ≤ v ∧ v ≤ 1000000) : DLok d (setDv D r v) := by
  refine ⟨hD.1, fun q hq => ?_⟩
  have h := hD.2 q hq
  refine ⟨h.1, ?_, ?_, h.2.2.2⟩
  · show -1000000 ≤ (if q = r then v else D.2 q)
    split <;> omega
  · show (if q = r then v else D.2 q) ≤ 1000000
    split <;> omega
theorem DLok_tr (hD : DLok d D) : ∀ r, DLok d (trR d ow r D)
  | 0 => hD
  | r + 1 => by
    have ih := DLok_tr hD r
    rw [trR_s]
    split
    · exact DLok_set ih (clM_rng _)
    · exact ih
theorem DLok_it (hD : DLok d D) : ∀ i, DLok d (itD d ow i D)
  | 0 => hD
  | i + 1 => DLok_tr (DLok_it hD i) _
theorem trR_skip {r : Nat} : ∀ q, r ≤ q → (∀ p, r ≤ p → p < q → ¬ isDl ow D p) → trR d ow q D = trR d ow r D
  | 0, h, _ => by rw [show r = 0 by omega]
  | q + 1, h, hn => by
    by_cases e : r = q + 1
    · rw [e]
    · rw [trR_s, if_neg (fun z => hn q (by omega) (by omega) ((isDl_1 (trR_1 q) q).mp z))]
      exact trR_skip q (by omega) (fun p h1 h2 => hn p h1 (by omega))
theorem hs_set {q : Nat} {v : Int} {w : Nat} {x : Int} (h : x ≠ q) (hx : -1 ≤ x) : hs d ow (setDv D q v) w x = hs d ow D w x := by
  unfold hs
  by_cases c : x = -1
  · rw [if_pos c, if_pos c]
  · rw [if_neg c, if_neg c]
    have e : (setDv D q v).2 x.toNat = D.2 x.toNat := if_neg (by omega)
    rw [e]
theorem dof_rng (w k : Nat) : -1 ≤ dof d ow D w k := by
  rcases dof_cases (d := d) (ow := ow) (D := D) w k with ⟨h1, h2⟩ | ⟨q, h1, h2, h3, h4⟩ <;> omega
theorem hs_part (hd : NDok d) (hD : DLok d D) {q : Nat} (hq : q < dR d) (hdl : isDl ow D q) (v : Int) (w : Nat) : hs d ow (setDv D q v) w (dof d ow (setDv D q v) w (dR d)) = if w = sn d q then mkd d ow q - v else if w = fs d q then v else hs d ow D w (dof d ow D w (dR d)) := by
  have e : dof d ow (setDv D q v) w (dR d) = dof d ow D w (dR d) := dof_1 (E := setDv D q v) (D := D) rfl w _
  have hp := hd.2.2.1 q hq
  have ev : (setDv D q v).2 q = v := if_pos rfl
  rw [e]
  by_cases x1 : w = sn d q
  · rw [if_pos x1, dof_of hD hq hdl (Or.inr x1.symm)]
    unfold hs
    rw [if_neg (by omega), Int.toNat_natCast, if_neg (fun z => hp.2.2.1 (z.trans x1)), ev]
  · rw [if_neg x1]
    by_cases x2 : w = fs d q
    · rw [if_pos x2, dof_of hD hq hdl (Or.inl x2.symm)]
      unfold hs
      rw [if_neg (by omega), Int.toNat_natCast, if_pos x2.symm, ev]
    · rw [if_neg x2]
      refine hs_set (fun z => ?_) (dof_rng _ _)
      rcases dof_cases (d := d) (ow := ow) (D := D) w (dR d) with ⟨h1, h2⟩ | ⟨p, h1, h2, h3, h4⟩
      · omega
      · have : p = q := by omega
        subst this
        exact h4.elim (fun y => x2 y.symm) (fun y => x1 y.symm)
theorem SetC_part (hd : NDok d) (hD : DLok d D) (hS : SetC s n d ow D) {q : Nat} (hq : q < dR d) (hdl : isDl ow D q) (v : Int) : SetC (hset (hset (hset s 175 q v) 177 (fs d q) v) 177 (sn d q) (mkd d ow q - v)) n d ow (setDv D q v) := by
  have k : ∀ p i, p ≠ 175 → p ≠ 177 → hset (hset (hset s 175 q v) 177 (fs d q) v) 177 (sn d q) (mkd d ow q - v) p i = s p i := fun p i h1 h2 => by rw [hset_obj _ _ _ _ h2, hset_obj _ _ _ _ h2, hset_obj _ _ _ _ h1]
  have et : tlD ow (setDv D q v) (dR d) = tlD ow D (dR d) := tlD_1 (E := setDv D q v) (D := D) rfl _
  refine ⟨by rw [k _ _ (by decide) (by decide)]; exact hS.1, fun w hw => ⟨?_, ?_⟩, ?_, fun j hj => ?_⟩
  · rw [k _ _ (by decide) (by decide), dof_1 (E := setDv D q v) (D := D) rfl w]; exact (hS.2.1 w hw).1
  · rw [hs_part hd hD hq hdl, hset_row, hset_row, hset_obj (q := 175) (q' := 177) _ _ _ (by decide)]
    dsimp only
    by_cases x1 : w = sn d q
    · rw [if_pos x1, if_pos x1]
    · rw [if_neg x1, if_neg x1]
      by_cases x2 : w = fs d q
      · rw [if_pos x2, if_pos x2]
      · rw [if_neg x2, if_neg x2]
        exact (hS.2.1 w hw).2
  · rw [k _ _ (by decide) (by decide), et]; exact hS.2.2.1
  · rw [et] at hj ⊢
    rw [k _ _ (by decide) (by decide)]; exact hS.2.2.2 j hj
def tuF (σ s : Hp) : Prop := ∀ q, q ≠ 175 → q ≠ 177 → s q = σ q
theorem tuF_net {σ s : Hp} (h : tuF σ s) (hN : NetC σ n d) : NetC s n d := by
  have hn : n = 50 ∨ n = 4 := hN.1
  exact hN.congr (fun i _ => by rw [h n (by omega) (by omega)]) (fun q a c => h q (by omega) (by omega))
theorem tuF_view {σ s : Hp} (h : tuF σ s) (hV : ViewC σ n d ow) : ViewC s n d ow := by
  refine ⟨by rw [h 88 (by omega) (by omega)]; exact hV.1, fun r hr => ?_⟩
  rw [h 89 (by omega) (by omega), h 90 (by omega) (by omega)]
  exact hV.2 r hr
theorem clM_eq (v : Int) : imin (imax v (-1000000)) 1000000 = clM v := by
  unfold imin imax clM
  by_cases c : 1000000 < v
  · rw [if_pos c, if_neg (c := v < -1000000) (by omega), if_pos c]
  · rw [if_neg c]
    by_cases c2 : v < -1000000
    · rw [if_pos c2, if_neg (by decide)]
    · rw [if_neg c2, if_neg c]
theorem C_turnRound (hd : NDok d) (ho : owOk d ow) (hD : DLok d D) (hN : NetC s n d) (hV : ViewC s n d ow) (hS : SetC s n d ow D) (hT : ∀ r, D.1 r = true → s 175 r = D.2 r) :
    wp (F_Deals_turnRound s) (fun _ u => SetC u n d ow (trR d ow (dR d) D) ∧ (∀ r, D.1 r = true → u 175 r = (trR d ow (dR d) D).2 r) ∧ tuF s u) := by
  have hR := hd.2.1
  have h6 := tlD_len (ow := ow) hd hD (dR d) (Nat.le_refl _)
  unfold F_Deals_turnRound F_Deals_turnRound_2
  refine wp_loop (fun a : Int × Hp => ∃ r : Nat, r ≤ dR d ∧ a.1 = ((tlD ow D r).length : Nat) ∧ SetC a.2 n d ow (trR d ow r D) ∧ (∀ r', D.1 r' = true → a.2 175 r' = (trR d ow r D).2 r') ∧ tuF s a.2) (fun a => (30 - a.1).toNat) ?_ FU _ ?_ ?_
  · intro a K hp ih
    obtain ⟨x, u⟩ := a
    obtain ⟨r, hr, e1, hSu, hTu, hf⟩ := hp
    dsimp only at e1 hSu hTu hf ih ⊢
    subst e1
    unfold F_Deals_turnRound_2_b
    have e8 := hSu.2.2.1
    rw [tlD_1 (trR_1 r)] at e8
    rw [e8]
    refine wp_if (fun c => ?_) (fun c => ?_)
    · have e : trR d ow (dR d) D = trR d ow r D := trR_skip _ hr (tl_none (by omega))
      rw [e]
      exact wp_ret ⟨hSu, hTu, hf⟩
    · obtain ⟨q, q1, q2, q3, q4, q5⟩ := tl_next (ow := ow) (D := D) (N := dR d) (dR d - r) r (by omega) (by omega)
      have es : trR d ow q D = trR d ow r D := trR_skip _ q1 q4
      have hl := tl_lt (ow := ow) (D := D) q2 q3
      have hi := tl_idx (ow := ow) (D := D) q2 q3
      rw [q5] at hl hi
      rw [← es] at hSu hTu
      have e178 := hSu.2.2.2 _ (by rw [tlD_1 (trR_1 q)]; exact hl)
      rw [tlD_1 (trR_1 q), hi] at e178
      have hDq := DLok_tr (ow := ow) hD q
      have dq : isDl ow (trR d ow q D) q := (isDl_1 (trR_1 q) q).mpr q3
      have hV' := tuF_view hf hV
      have g6 : (0 : Int) ≤ (((tlD ow D r).length : Nat) : Int) ∧ (((tlD ow D r).length : Nat) : Int) < 6 := by omega
      have g30 : (0 : Int) ≤ (q : Int) ∧ (q : Int) < 30 := by omega
      have hcl := clM_rng (evV d ow (trR d ow q D) q)
      rw [gd_pos g6, Int.toNat_natCast, e178, lt_eq, C_evenFirst hd ho hDq (tuF_net hf hN) hV' hSu q2 q3.2, cl2_some, gd_pos g30, clM_eq, lt_eq, Int.toNat_natCast, gd_pos g30, hset_same]
      have hf1 : tuF s (hset u 175 q (clM (evV d ow (trR d ow q D) q))) := fun p h1 h2 => by rw [hset_obj _ _ _ _ h1]; exact hf p h1 h2
      rw [C_part hd (tuF_net hf1 hN) (by rw [hset_obj _ _ _ _ (by decide)]; exact hSu.1) q2 ho (by rw [hset_obj _ _ _ _ (by decide), (hV'.2 q q2).2, if_neg q3.2]) hcl, cl2_some, lt_eq, iadd_ok (by omega)]
      have e3 : trR d ow (q + 1) D = setDv (trR d ow q D) q (clM (evV d ow (trR d ow q D) q)) := by rw [trR_s, if_pos dq]
      refine ih _ ⟨q + 1, by omega, ?_, ?_, fun p hp => ?_, fun p h1 h2 => ?_⟩ (by dsimp only; omega)
      · dsimp only
        rw [tlD_s, if_pos q3, List.length_append, q5]
        show _ = (((tlD ow D r).length + 1 : Nat) : Int)
        omega
      · rw [e3]
        exact SetC_part hd hDq hSu q2 dq _
      · dsimp only
        rw [e3, hset_obj _ _ _ _ (by decide), hset_obj _ _ _ _ (by decide), hset_row]
        show _ = if p = q then clM (evV d ow (trR d ow q D) q) else (trR d ow q D).2 p
        dsimp only
        by_cases e : p = q
        · rw [if_pos e, if_pos e]
        · rw [if_neg e, if_neg e]
          exact hTu p hp
      · dsimp only
        rw [hset_obj _ _ _ _ h2, hset_obj _ _ _ _ h2]
        exact hf1 p h1 h2
  · exact ⟨0, by omega, rfl, hS, hT, fun _ _ _ => rfl⟩
  · rw [FU_eq]
    show (30 - (0 : Int)).toNat < 20000
    omega
end Round
