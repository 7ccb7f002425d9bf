/-! what one could have elsewhere, to whom one would turn -/
section Else
variable {s t : Hp} {n b : Nat} {d : ND} {ow : Nat → Int} {D : DL}
/-- a road on which one could be elsewhere -/
abbrev gdR (d : ND) (ow : Nat → Int) (D : DL) (w r : Nat) : Prop := ow r ≠ -1 ∧ (r : Int) ≠ dof d ow D w (dR d) ∧ atR d r w
def off (d : ND) (ow : Nat → Int) (D : DL) (w r : Nat) : Int := mkd d ow r - shv d ow D (oth d r w)
def elR (d : ND) (ow : Nat → Int) (D : DL) (w : Nat) : Nat → Int
  | 0 => al d w
  | r + 1 => if gdR d ow D w r then max (elR d ow D w r) (off d ow D w r) else elR d ow D w r
def elV (d : ND) (ow : Nat → Int) (D : DL) (w : Nat) : Int := elR d ow D w (dR d)
theorem elR_s (w r : Nat) : elR d ow D w (r + 1) = if gdR d ow D w r then max (elR d ow D w r) (off d ow D w r) else elR d ow D w r := rfl
theorem elR_ge (w : Nat) : ∀ r, al d w ≤ elR d ow D w r
  | 0 => Int.le_refl _
  | r + 1 => by
    have := elR_ge w r
    rw [elR_s]
    split <;> omega
theorem elR_up (w : Nat) : ∀ r q, q < r → gdR d ow D w q → off d ow D w q ≤ elR d ow D w r
  | 0, q, h, _ => absurd h (by omega)
  | r + 1, q, h, g => by
    rw [elR_s]
    by_cases e : q = r
    · subst e
      rw [if_pos g]
      omega
    · have := elR_up w r q (by omega) g
      split <;> omega
theorem elR_at (w : Nat) : ∀ r, elR d ow D w r = al d w ∨ ∃ q, q < r ∧ gdR d ow D w q ∧ elR d ow D w r = off d ow D w q
  | 0 => Or.inl rfl
  | r + 1 => by
    rw [elR_s]
    have ih := elR_at w r
    by_cases g : gdR d ow D w r
    · rw [if_pos g]
      by_cases c : elR d ow D w r ≤ off d ow D w r
      · exact Or.inr ⟨r, by omega, g, by omega⟩
      · rcases ih with h | ⟨q, h1, h2, h3⟩
        · exact Or.inl (by omega)
        · exact Or.inr ⟨q, by omega, h2, by omega⟩
    · rw [if_neg g]
      rcases ih with h | ⟨q, h1, h2, h3⟩
      · exact Or.inl h
      · exact Or.inr ⟨q, by omega, h2, h3⟩
theorem off_rng (hd : NDok d) (ho : owOk d ow) (hD : DLok d D) {r : Nat} (hr : r < dR d) (w : Nat) : -1139998 ≤ off d ow D w r ∧ off d ow D w r ≤ 1139998 := by
  have h1 := mkd_rng hd ho hr
  have h2 := shv_rng hd ho hD (oth_lt hd hr w)
  unfold off
  omega
theorem elR_rng (hd : NDok d) (ho : owOk d ow) (hD : DLok d D) {w r : Nat} (hw : w < dW d) (hr : r ≤ dR d) : 0 ≤ elR d ow D w r ∧ elR d ow D w r ≤ 1139998 := by
  have h1 := elR_ge (d := d) (ow := ow) (D := D) w r
  have h2 := hd.2.2.2.1 w hw
  rcases elR_at (d := d) (ow := ow) (D := D) w r with h | ⟨q, h3, h4, h5⟩
  · omega
  · have := off_rng hd ho hD (r := q) (by omega) w
    omega
theorem elV_rng (hd : NDok d) (ho : owOk d ow) (hD : DLok d D) {w : Nat} (hw : w < dW d) : 0 ≤ elV d ow D w ∧ elV d ow D w ≤ 1139998 := elR_rng hd ho hD hw (Nat.le_refl _)
theorem M_elseOf (hd : NDok d) (ho : owOk d ow) (hD : DLok d D) (hN : NetM t b d) (hV : ViewM1 t d ow) (hS : ShM t d ow D) {w : Nat} (hw : w < dW d) : F_M_elseOf w t = some (elV d ow D w, t) := by
  have hR := hd.2.1
  have hW := hd.1
  have hb := hN.1
  refine wp_get ?_
  unfold F_M_elseOf F_M_elseOf_10
  rw [M_aloneOf hd hN hw, cl2_some]
  refine wp_loop (fun a : Int × Int × Hp => ∃ r : Nat, r ≤ dR d ∧ a.1 = elR d ow D w r ∧ a.2.1 = (r : Int) ∧ a.2.2 = t) (fun a => (30 - a.2.1).toNat) ?_ FU _ ?_ ?_
  · intro a K hp ih
    obtain ⟨v, x, u⟩ := a
    obtain ⟨r, hr, e0, e1, e2⟩ := hp
    dsimp only at e0 e1 e2 ih ⊢
    subst e0 e1 e2
    unfold F_M_elseOf_10_b
    rw [hN.2.1, gd_pos (by omega), Int.toNat_natCast, hN.2.2.2.1]
    refine wp_if (fun c => ?_) (fun c => ?_)
    · have er : r = dR d := by omega
      subst er
      exact wp_ret ⟨rfl, rfl⟩
    · have hrR : r < dR d := by omega
      have g30 : (0 : Int) ≤ (r : Int) ∧ (r : Int) < 30 := by omega
      have g12 : (0 : Int) ≤ (w : Int) ∧ (w : Int) < 12 := by omega
      have skip : ¬ gdR d ow D w r → wp (F_M_elseOf_105 K w (elR d ow D w r) r u) (fun z s => z = elV d ow D w ∧ s = u) := by
        intro no
        unfold F_M_elseOf_105
        rw [lt_eq, iadd_ok (by omega)]
        refine ih _ ⟨r + 1, by omega, ?_, by simp, rfl⟩ (by dsimp only; omega)
        rw [elR_s, if_neg no]
      have take : gdR d ow D w r → wp (F_M_elseOf_68 K w (elR d ow D w r) r u) (fun z s => z = elV d ow D w ∧ s = u) := by
        intro g
        have ol := oth_lt hd hrR w
        have h1 := mkd_rng hd ho hrR
        have h2 := shv_rng hd ho hD ol
        have e45 : u 45 (oth d r w) = shv d ow D (oth d r w) := (hS _ ol).2
        have eo : off d ow D w r = mkd d ow r - shv d ow D (oth d r w) := rfl
        unfold F_M_elseOf_68 F_M_elseOf_104 F_M_elseOf_105
        rw [gd_pos g30, M_otherOn hd hN hrR, cl2_some, gd_pos (by omega), Int.toNat_natCast, Int.toNat_natCast, (hV r hrR).2, e45, lsub_ok (by omega), lt_eq, lt_eq, lt_eq, iadd_ok (by omega)]
        refine wp_if (fun c => ?_) (fun c => ?_)
        · have c := lcmp_le.mp c
          refine ih _ ⟨r + 1, by omega, ?_, by simp, rfl⟩ (by dsimp only; omega)
          dsimp only
          rw [elR_s, if_pos g]
          omega
        · have c : ¬ _ := fun z => c (lcmp_le.mpr z)
          refine ih _ ⟨r + 1, by omega, ?_, by simp, rfl⟩ (by dsimp only; omega)
          dsimp only
          rw [elR_s, if_pos g]
          omega
      rw [gd_pos g30, Int.toNat_natCast, (hV r hrR).1]
      refine wp_if (fun c1 => ?_) (fun c1 => ?_)
      · refine skip (fun z => ?_)
        rw [if_neg z.1] at c1
        exact absurd c1 (by decide)
      have t1 : ow r ≠ -1 := fun z => c1 (if_pos z)
      rw [gd_pos g12, Int.toNat_natCast, (hS w hw).1]
      refine wp_if (fun c2 => skip (fun z => z.2.1 c2)) (fun c2 => ?_)
      rw [M_first hd hN hrR, cl2_some]
      refine wp_if (fun c3 => take ⟨t1, c2, Or.inl (by omega)⟩) (fun c3 => ?_)
      rw [M_second hd hN hrR, cl2_some]
      refine wp_if (fun c4 => take ⟨t1, c2, Or.inr (by omega)⟩) (fun c4 => ?_)
      exact skip (fun z => z.2.2.elim (fun y => c3 (by omega)) (fun y => c4 (by omega)))
  · exact ⟨0, by omega, rfl, rfl, rfl⟩
  · rw [FU_eq]
    show (30 - (0 : Int)).toNat < 20000
    omega
/-- what the class's offer answers -/
def ofv (d : ND) (ow : Nat → Int) (D : DL) (w c : Nat) : Int := if rdO d w c (dR d) = -1 then -2000000000 else if rdO d w c (dR d) = dof d ow D w (dR d) then -2000000000 else if ow (rdO d w c (dR d)).toNat = -1 then -2000000000 else mkd d ow (rdO d w c (dR d)).toNat - shv d ow D c
theorem pr_oth (hd : NDok d) {r w : Nat} (hr : r < dR d) (h : atR d r w) : isPr d r w (oth d r w) := by
  unfold isPr oth
  rcases h with x | x
  · rw [if_pos x]; exact Or.inl ⟨x, rfl⟩
  · have := (hd.2.2.1 r hr).2.2.1
    rw [if_neg (by omega)]; exact Or.inr ⟨rfl, x⟩
theorem oth_pr (hd : NDok d) {r w c : Nat} (hr : r < dR d) (h : isPr d r w c) : oth d r w = c ∧ atR d r w := by
  have := (hd.2.2.1 r hr).2.2.1
  unfold oth
  rcases h with ⟨x, y⟩ | ⟨x, y⟩
  · rw [if_pos x]; exact ⟨y, Or.inl x⟩
  · rw [if_neg (by omega)]; exact ⟨x, Or.inr y⟩
theorem ofv_good (hd : NDok d) {w r : Nat} (hr : r < dR d) (g : gdR d ow D w r) : ofv d ow D w (oth d r w) = off d ow D w r := by
  unfold ofv
  rw [rdO_of hd hr (pr_oth hd hr g.2.2), if_neg (by omega), if_neg g.2.1, Int.toNat_natCast, if_neg g.1]
  rfl
theorem ofv_cases (hd : NDok d) (w c : Nat) : ofv d ow D w c = -2000000000 ∨ ∃ r, r < dR d ∧ gdR d ow D w r ∧ oth d r w = c ∧ ofv d ow D w c = off d ow D w r := by
  rcases rdO_cases d w c (dR d) with ⟨h1, h2⟩ | ⟨q, h1, h2, h3⟩
  · exact Or.inl (if_pos h1)
  · have ho := oth_pr hd h1 h3
    by_cases c1 : (q : Int) = dof d ow D w (dR d)
    · refine Or.inl ?_
      unfold ofv
      rw [h2, if_neg (by omega), if_pos c1]
    · by_cases c2 : ow q = -1
      · refine Or.inl ?_
        unfold ofv
        rw [h2, if_neg (by omega), if_neg c1, Int.toNat_natCast, if_pos c2]
      · have g : gdR d ow D w q := ⟨c2, c1, ho.2⟩
        refine Or.inr ⟨q, h1, g, ho.1, ?_⟩
        rw [← ho.1]
        exact ofv_good hd h1 g
theorem C_offer (hd : NDok d) (ho : owOk d ow) (hD : DLok d D) (hN : NetC s n d) (hV : ViewC s n d ow) (hS : SetC s n d ow D) {w c : Nat} (hw : w < dW d) (hc : c < dW d) : F_Deals_offer w c s = some (ofv d ow D w c, s) := by
  have hR := hd.2.1
  have hW := hd.1
  have g1 : (0 : Int) ≤ (w : Int) ∧ (w : Int) < 12 := by omega
  have g2 : (0 : Int) ≤ (c : Int) ∧ (c : Int) < 12 := by omega
  have e7 := hN.2.2.2.2.2.2.2.1 w c (by omega) (by omega)
  have s177 : s 177 c = shv d ow D c := (hS.2.1 c hc).2
  have hsr := shv_rng hd ho hD hc
  unfold F_Deals_offer F_Deals_offer_39 ofv
  simp only [lt_eq, hS.1, Int.toNat_natCast, gd_pos hN.1, gd_pos g1, gd_pos g2]
  rw [e7, (hS.2.1 w hw).1, s177]
  rcases rdO_cases d w c (dR d) with ⟨h1, h2⟩ | ⟨q, h1, h2, h3⟩
  · rw [h1, if_pos rfl, if_pos rfl]
  · have hm := mkd_rng hd ho h1
    rw [h2, if_neg (c := (q : Int) = -1) (by omega), if_neg (c := (q : Int) = -1) (by omega)]
    by_cases c1 : (q : Int) = dof d ow D w (dR d)
    · rw [if_pos c1, if_pos c1]
    · have g30 : (0 : Int) ≤ (q : Int) ∧ (q : Int) < 30 := by omega
      rw [if_neg c1, if_neg c1, gd_pos g30, gd_pos g30, Int.toNat_natCast, (hV.2 q h1).1, (hV.2 q h1).2]
      by_cases c2 : ow q = -1
      · rw [if_pos c2, if_pos rfl, if_pos c2]
      · rw [if_neg c2, if_neg (by decide), if_neg c2, if_neg c2, isub_ok (by omega)]
def elC (d : ND) (ow : Nat → Int) (D : DL) (w : Nat) : Nat → Int
  | 0 => al d w
  | k + 1 => max (elC d ow D w k) (ofv d ow D w k)
def toC (d : ND) (ow : Nat → Int) (D : DL) (w : Nat) : Nat → Int
  | 0 => -1
  | k + 1 => if ofv d ow D w k ≤ elC d ow D w k then toC d ow D w k else k
def toV (d : ND) (ow : Nat → Int) (D : DL) (w : Nat) : Int := toC d ow D w (dW d)
theorem elC_s (w k : Nat) : elC d ow D w (k + 1) = max (elC d ow D w k) (ofv d ow D w k) := rfl
theorem toC_s (w k : Nat) : toC d ow D w (k + 1) = if ofv d ow D w k ≤ elC d ow D w k then toC d ow D w k else k := rfl
theorem elC_up (w : Nat) : ∀ k j, j < k → ofv d ow D w j ≤ elC d ow D w k
  | 0, j, h => absurd h (by omega)
  | k + 1, j, h => by
    rw [elC_s]
    by_cases e : j = k
    · subst e; omega
    · have := elC_up w k j (by omega)
      omega
theorem elC_ge (w : Nat) : ∀ k, al d w ≤ elC d ow D w k
  | 0 => Int.le_refl _
  | k + 1 => by
    have := elC_ge w k
    rw [elC_s]
    omega
theorem toC_at (w : Nat) : ∀ k, (elC d ow D w k = al d w ∧ toC d ow D w k = -1) ∨ (al d w < elC d ow D w k ∧ ∃ j : Nat, j < k ∧ toC d ow D w k = j ∧ ofv d ow D w j = elC d ow D w k ∧ ∀ i, i < j → ofv d ow D w i < elC d ow D w k)
  | 0 => Or.inl ⟨rfl, rfl⟩
  | k + 1 => by
    have ih := toC_at w k
    rw [elC_s, toC_s]
    by_cases c : ofv d ow D w k ≤ elC d ow D w k
    · have e : max (elC d ow D w k) (ofv d ow D w k) = elC d ow D w k := by omega
      rw [if_pos c, e]
      rcases ih with h | ⟨h1, j, h2, h3, h4, h5⟩
      · exact Or.inl h
      · exact Or.inr ⟨h1, j, by omega, h3, h4, h5⟩
    · have e : max (elC d ow D w k) (ofv d ow D w k) = ofv d ow D w k := by omega
      rw [if_neg c, e]
      have := elC_ge (d := d) (ow := ow) (D := D) w k
      refine Or.inr ⟨by omega, k, by omega, rfl, rfl, fun i hi => ?_⟩
      have := elC_up (d := d) (ow := ow) (D := D) w k i hi
      omega
theorem elC_elV (hd : NDok d) (ho : owOk d ow) (hD : DLok d D) {w : Nat} (hw : w < dW d) : elC d ow D w (dW d) = elV d ow D w := by
  have h0 := hd.2.2.2.1 w hw
  have h1 : elC d ow D w (dW d) ≤ elV d ow D w := by
    rcases toC_at (d := d) (ow := ow) (D := D) w (dW d) with ⟨h, _⟩ | ⟨h1, j, h2, h3, h4, h5⟩
    · rw [h]
      exact elR_ge w _
    · rcases ofv_cases (ow := ow) (D := D) hd w j with h | ⟨r, x1, x2, x3, x4⟩
      · omega
      · rw [← h4, x4]
        exact elR_up w _ r x1 x2
  have h2 : elV d ow D w ≤ elC d ow D w (dW d) := by
    rcases elR_at (d := d) (ow := ow) (D := D) w (dR d) with h | ⟨q, x1, x2, x3⟩
    · have := elC_ge (d := d) (ow := ow) (D := D) w (dW d)
      unfold elV
      omega
    · have := elC_up (d := d) (ow := ow) (D := D) w (dW d) _ (oth_lt hd x1 w)
      rw [ofv_good hd x1 x2] at this
      unfold elV
      omega
  omega
theorem elC_rng (hd : NDok d) (ho : owOk d ow) (hD : DLok d D) {w k : Nat} (hw : w < dW d) : 0 ≤ elC d ow D w k ∧ elC d ow D w k ≤ 1139998 := by
  have h1 := elC_ge (d := d) (ow := ow) (D := D) w k
  have h2 := hd.2.2.2.1 w hw
  rcases toC_at (d := d) (ow := ow) (D := D) w k with ⟨h, _⟩ | ⟨h1, j, x2, x3, x4, x5⟩
  · omega
  · rcases ofv_cases (ow := ow) (D := D) hd w j with h | ⟨r, y1, y2, y3, y4⟩
    · omega
    · have := off_rng hd ho hD y1 w
      omega
theorem ofv_rng (hd : NDok d) (ho : owOk d ow) (hD : DLok d D) (w c : Nat) : -2000000000 ≤ ofv d ow D w c ∧ ofv d ow D w c ≤ 1139998 := by
  rcases ofv_cases (ow := ow) (D := D) hd w c with h | ⟨r, y1, y2, y3, y4⟩
  · omega
  · have := off_rng hd ho hD y1 w
    omega
theorem C_elseOf (hd : NDok d) (ho : owOk d ow) (hD : DLok d D) (hN : NetC s n d) (hV : ViewC s n d ow) (hS : SetC s n d ow D) {w : Nat} (hw : w < dW d) : F_Deals_elseOf w s = some (elV d ow D w, s) := by
  have hW := hd.1
  have g1 : (0 : Int) ≤ (w : Int) ∧ (w : Int) < 12 := by omega
  refine wp_get ?_
  unfold F_Deals_elseOf F_Deals_elseOf_12
  simp only [lt_eq, hS.1, Int.toNat_natCast, gd_pos hN.1, gd_pos g1]
  rw [hN.2.2.2.2.2.1 w hw]
  refine wp_loop (fun a : Int × Int × Hp => ∃ k : Nat, k ≤ dW d ∧ a.1 = elC d ow D w k ∧ a.2.1 = (k : Int) ∧ a.2.2 = s) (fun a => (12 - a.2.1).toNat) ?_ FU _ ?_ ?_
  · intro a K hp ih
    obtain ⟨v, x, u⟩ := a
    obtain ⟨k, hk, e0, e1, e2⟩ := hp
    dsimp only at e0 e1 e2 ih ⊢
    subst e0 e1 e2
    unfold F_Deals_elseOf_12_b
    simp only [lt_eq, hS.1, Int.toNat_natCast, gd_pos hN.1, hN.2.1]
    refine wp_if (fun c => ?_) (fun c => ?_)
    · have ek : k = dW d := by omega
      subst ek
      exact wp_ret ⟨elC_elV hd ho hD hw, rfl⟩
    · rw [C_offer hd ho hD hN hV hS hw (by omega), cl2_some, iadd_ok (by omega)]
      refine ih _ ⟨k + 1, by omega, ?_, by simp, rfl⟩ (by dsimp only; omega)
      dsimp only
      rw [elC_s]
      unfold imax
      split <;> omega
  · exact ⟨0, by omega, rfl, rfl, rfl⟩
  · rw [FU_eq]
    show (12 - (0 : Int)).toNat < 20000
    omega
theorem C_turnsTo (hd : NDok d) (ho : owOk d ow) (hD : DLok d D) (hN : NetC s n d) (hV : ViewC s n d ow) (hS : SetC s n d ow D) {w : Nat} (hw : w < dW d) : F_Deals_turnsTo w s = some (toV d ow D w, s) := by
  have hW := hd.1
  have g1 : (0 : Int) ≤ (w : Int) ∧ (w : Int) < 12 := by omega
  refine wp_get ?_
  unfold F_Deals_turnsTo F_Deals_turnsTo_15
  simp only [lt_eq, hS.1, Int.toNat_natCast, gd_pos hN.1, gd_pos g1]
  rw [hN.2.2.2.2.2.1 w hw]
  refine wp_loop (fun a : Int × Int × Int × Hp => ∃ k : Nat, k ≤ dW d ∧ a.1 = toC d ow D w k ∧ a.2.1 = elC d ow D w k ∧ a.2.2.1 = (k : Int) ∧ a.2.2.2 = s) (fun a => (12 - a.2.2.1).toNat) ?_ FU _ ?_ ?_
  · intro a K hp ih
    obtain ⟨z, v, x, u⟩ := a
    obtain ⟨k, hk, ez, e0, e1, e2⟩ := hp
    dsimp only at ez e0 e1 e2 ih ⊢
    subst ez e0 e1 e2
    unfold F_Deals_turnsTo_15_b F_Deals_turnsTo_48
    simp only [lt_eq, hS.1, Int.toNat_natCast, gd_pos hN.1, hN.2.1]
    refine wp_if (fun c => ?_) (fun c => ?_)
    · have ek : k = dW d := by omega
      subst ek
      exact wp_ret ⟨rfl, rfl⟩
    · rw [C_offer hd ho hD hN hV hS hw (by omega), cl2_some, iadd_ok (by omega)]
      refine wp_if (fun c2 => ?_) (fun c2 => ?_)
      · refine ih _ ⟨k + 1, by omega, ?_, ?_, by simp, rfl⟩ (by dsimp only; omega)
        · dsimp only; rw [toC_s, if_pos c2]
        · dsimp only; rw [elC_s]; omega
      · refine ih _ ⟨k + 1, by omega, ?_, ?_, by simp, rfl⟩ (by dsimp only; omega)
        · dsimp only; rw [toC_s, if_neg c2]
        · dsimp only; rw [elC_s]; omega
  · exact ⟨0, by omega, rfl, rfl, rfl, rfl⟩
  · rw [FU_eq]
    show (12 - (0 : Int)).toNat < 20000
    omega
theorem toV_rng (w : Nat) : toV d ow D w = -1 ∨ ∃ j : Nat, j < dW d ∧ toV d ow D w = j := by
  rcases toC_at (d := d) (ow := ow) (D := D) w (dW d) with ⟨_, h⟩ | ⟨h1, j, h2, h3, h4, h5⟩
  · exact Or.inl h
  · exact Or.inr ⟨j, h2, h3⟩
/-- the check's best among the first roads -/
def tbR (d : ND) (ow : Nat → Int) (D : DL) (w : Nat) : Nat → Int
  | 0 => -1
  | r + 1 => if gdR d ow D w r ∧ off d ow D w r = elV d ow D w ∧ (tbR d ow D w r = -1 ∨ (oth d r w : Int) < tbR d ow D w r) then oth d r w else tbR d ow D w r
theorem tbR_s (w r : Nat) : tbR d ow D w (r + 1) = if gdR d ow D w r ∧ off d ow D w r = elV d ow D w ∧ (tbR d ow D w r = -1 ∨ (oth d r w : Int) < tbR d ow D w r) then (oth d r w : Int) else tbR d ow D w r := rfl
theorem tbR_at (w : Nat) : ∀ r, (tbR d ow D w r = -1 ∧ ∀ q, q < r → gdR d ow D w q → off d ow D w q ≠ elV d ow D w) ∨ (∃ q, q < r ∧ gdR d ow D w q ∧ off d ow D w q = elV d ow D w ∧ tbR d ow D w r = (oth d q w : Int) ∧ ∀ p, p < r → gdR d ow D w p → off d ow D w p = elV d ow D w → oth d q w ≤ oth d p w)
  | 0 => Or.inl ⟨rfl, fun q h => absurd h (by omega)⟩
  | r + 1 => by
    have ih := tbR_at w r
    rw [tbR_s]
    by_cases g : gdR d ow D w r ∧ off d ow D w r = elV d ow D w
    · by_cases c : tbR d ow D w r = -1 ∨ (oth d r w : Int) < tbR d ow D w r
      · rw [if_pos ⟨g.1, g.2, c⟩]
        refine Or.inr ⟨r, by omega, g.1, g.2, rfl, fun p hp gp ep => ?_⟩
        by_cases e : p = r
        · rw [e]; exact Nat.le_refl _
        · rcases ih with ⟨h1, h2⟩ | ⟨q, h1, h2, h3, h4, h5⟩
          · exact absurd ep (h2 p (by omega) gp)
          · have := h5 p (by omega) gp ep
            omega
      · rw [if_neg (fun z => c z.2.2)]
        rcases ih with ⟨h1, h2⟩ | ⟨q, h1, h2, h3, h4, h5⟩
        · exact absurd (Or.inl h1) c
        · refine Or.inr ⟨q, by omega, h2, h3, h4, fun p hp gp ep => ?_⟩
          by_cases e : p = r
          · rw [e]
            apply Classical.byContradiction
            intro z
            exact c (Or.inr (by omega))
          · exact h5 p (by omega) gp ep
    · rw [if_neg (fun z => g ⟨z.1, z.2.1⟩)]
      rcases ih with ⟨h1, h2⟩ | ⟨q, h1, h2, h3, h4, h5⟩
      · refine Or.inl ⟨h1, fun q hq gq eq => ?_⟩
        by_cases e : q = r
        · subst e; exact g ⟨gq, eq⟩
        · exact h2 q (by omega) gq eq
      · refine Or.inr ⟨q, by omega, h2, h3, h4, fun p hp gp ep => ?_⟩
        by_cases e : p = r
        · subst e; exact absurd ⟨gp, ep⟩ g
        · exact h5 p (by omega) gp ep
theorem tbR_toV (hd : NDok d) (ho : owOk d ow) (hD : DLok d D) {w : Nat} (hw : w < dW d) (h : al d w < elV d ow D w) : tbR d ow D w (dR d) = toV d ow D w := by
  have h0 := hd.2.2.2.1 w hw
  have he := elC_elV hd ho hD hw
  rcases toC_at (d := d) (ow := ow) (D := D) w (dW d) with ⟨h1, h2⟩ | ⟨h1, j, h2, h3, h4, h5⟩
  · omega
  · rcases ofv_cases (ow := ow) (D := D) hd w j with x | ⟨r, x1, x2, x3, x4⟩
    · omega
    · rcases tbR_at (d := d) (ow := ow) (D := D) w (dR d) with ⟨y1, y2⟩ | ⟨q, y1, y2, y3, y4, y5⟩
      · exact absurd (by rw [← x4, h4, he]) (y2 r x1 x2)
      · have a := y5 r x1 x2 (by rw [← x4, h4, he])
        have c : ¬ oth d q w < j := fun z => by
          have := h5 _ z
          rw [ofv_good hd y1 y2] at this
          omega
        unfold toV
        rw [y4, h3]
        omega
theorem M_turnsTo (hd : NDok d) (ho : owOk d ow) (hD : DLok d D) (hN : NetM t b d) (hV : ViewM1 t d ow) (hS : ShM t d ow D) {w : Nat} (hw : w < dW d) : F_M_turnsTo w t = some (toV d ow D w, t) := by
  have hR := hd.2.1
  have hW := hd.1
  have hb := hN.1
  have hal := elR_ge (d := d) (ow := ow) (D := D) w (dR d)
  have her := elV_rng hd ho hD hw
  refine wp_get ?_
  unfold F_M_turnsTo F_M_turnsTo_12
  rw [M_elseOf hd ho hD hN hV hS hw, cl2_some]
  have none : ¬ al d w < elV d ow D w → (-1 : Int) = toV d ow D w := by
    intro z
    have he := elC_elV hd ho hD hw
    rcases toC_at (d := d) (ow := ow) (D := D) w (dW d) with ⟨h1, h2⟩ | ⟨h1, j, h2, h3, h4, h5⟩
    · exact h2.symm
    · omega
  refine wp_loop (fun a : Int × Int × Int × Hp => ∃ r : Nat, r ≤ dR d ∧ a.1 = elV d ow D w ∧ a.2.1 = (if al d w < elV d ow D w then tbR d ow D w r else -1) ∧ a.2.2.1 = (r : Int) ∧ a.2.2.2 = t) (fun a => (30 - a.2.2.1).toNat) ?_ FU _ ?_ ?_
  · intro a K hp ih
    obtain ⟨v, z, x, u⟩ := a
    obtain ⟨r, hr, e0, ez, e1, e2⟩ := hp
    dsimp only at e0 ez e1 e2 ih ⊢
    subst e0 e1 e2
    unfold F_M_turnsTo_12_b F_M_turnsTo_134
    rw [hN.2.1, gd_pos (by omega), Int.toNat_natCast, hN.2.2.2.1]
    refine wp_if (fun c => ?_) (fun c => ?_)
    · have er : r = dR d := by omega
      subst er
      refine wp_ret ⟨?_, rfl⟩
      rw [ez]
      by_cases q : al d w < elV d ow D w
      · rw [if_pos q]; exact tbR_toV hd ho hD hw q
      · rw [if_neg q]; exact none q
    · rw [M_aloneOf hd hN hw, cl2_some]
      refine wp_if (fun c => ?_) (fun c => ?_)
      · have c := lcmp_le.mp c
        refine wp_ret ⟨?_, rfl⟩
        rw [ez, if_neg (by omega)]
        exact none (by omega)
      · have q : al d w < elV d ow D w := by
          apply Classical.byContradiction
          intro y
          exact c (lcmp_le.mpr (by omega))
        rw [if_pos q] at ez
        subst ez
        have hrR : r < dR d := by omega
        have g30 : (0 : Int) ≤ (r : Int) ∧ (r : Int) < 30 := by omega
        have g12 : (0 : Int) ≤ (w : Int) ∧ (w : Int) < 12 := by omega
        have next : ∀ y, y = tbR d ow D w (r + 1) → wp (F_M_turnsTo_128 K w (elV d ow D w) y r u) (fun z s => z = toV d ow D w ∧ s = u) := by
          intro y hy
          unfold F_M_turnsTo_128
          rw [lt_eq, iadd_ok (by omega)]
          refine ih _ ⟨r + 1, by omega, rfl, ?_, by simp, rfl⟩ (by dsimp only; omega)
          dsimp only
          rw [if_pos q]
          exact hy
        have skip : ¬ gdR d ow D w r → wp (F_M_turnsTo_128 K w (elV d ow D w) (tbR d ow D w r) r u) (fun z s => z = toV d ow D w ∧ s = u) := by
          intro no
          refine next _ ?_
          rw [tbR_s, if_neg (fun z => no z.1)]
        have take : gdR d ow D w r → wp (F_M_turnsTo_81 K w (elV d ow D w) (tbR d ow D w r) r u) (fun z s => z = toV d ow D w ∧ s = u) := by
          intro g
          have ol := oth_lt hd hrR w
          have h1 := mkd_rng hd ho hrR
          have h2 := shv_rng hd ho hD ol
          have e45 : u 45 (oth d r w) = shv d ow D (oth d r w) := (hS _ ol).2
          have eo : off d ow D w r = mkd d ow r - shv d ow D (oth d r w) := rfl
          unfold F_M_turnsTo_81 F_M_turnsTo_124
          rw [M_otherOn hd hN hrR, cl2_some, gd_pos g30, gd_pos (by omega), Int.toNat_natCast, Int.toNat_natCast, (hV r hrR).2, e45, lsub_ok (by omega)]
          refine wp_if (fun c => ?_) (fun c => ?_)
          · have c := lcmp_eq.mp c
            refine wp_if (fun c2 => ?_) (fun c2 => ?_)
            · refine next _ ?_
              rw [tbR_s, if_pos ⟨g, by omega, Or.inl c2⟩]
            · refine wp_if (fun c3 => ?_) (fun c3 => ?_)
              · refine next _ ?_
                rw [tbR_s, if_neg (fun z => z.2.2.elim c2 (fun y => by omega))]
              · refine next _ ?_
                rw [tbR_s, if_pos ⟨g, by omega, Or.inr (by omega)⟩]
          · refine next _ ?_
            rw [tbR_s, if_neg (fun z => c (lcmp_eq.mpr (by omega)))]
        rw [gd_pos g30, Int.toNat_natCast, (hV r hrR).1]
        refine wp_if (fun c1 => ?_) (fun c1 => ?_)
        · refine skip (fun z => ?_)
          rw [if_neg z.1] at c1
          exact absurd c1 (by decide)
        have t1 : ow r ≠ -1 := fun z => c1 (if_pos z)
        rw [gd_pos g12, Int.toNat_natCast, (hS w hw).1]
        refine wp_if (fun c2 => skip (fun z => z.2.1 c2)) (fun c2 => ?_)
        rw [M_first hd hN hrR, cl2_some]
        refine wp_if (fun c3 => take ⟨t1, c2, Or.inl (by omega)⟩) (fun c3 => ?_)
        rw [M_second hd hN hrR, cl2_some]
        refine wp_if (fun c4 => take ⟨t1, c2, Or.inr (by omega)⟩) (fun c4 => ?_)
        exact skip (fun z => z.2.2.elim (fun y => c3 (by omega)) (fun y => c4 (by omega)))
  · refine ⟨0, by omega, rfl, ?_, rfl, rfl⟩
    dsimp only
    split <;> rfl
  · rw [FU_eq]
    show (30 - (0 : Int)).toNat < 20000
    omega
end Else
section Other
variable {σ τ : Hp} {n b : Nat} {d : ND} {A : AD} {kn : Int} {now day : Nat} {D : DL}
theorem S_other (σ τ : Hp) (a1 a2 : Int) (h : Inv σ τ) : ∃ (z : Int) (σ' τ' : Hp), F_RD_other a1 a2 σ = some (z, σ') ∧ F_M_other a1 a2 τ = some (z, τ') ∧ Inv σ' τ' := by
  obtain ⟨n, b, d, A, kn, now, day, D, hI⟩ := id h
  obtain ⟨⟨g1, g2, g3, g4, g5⟩, ⟨c1, c2, c3, c4, c5, c6, c7⟩, ⟨m1, m2, m3, m4, m5, m6⟩, _⟩ := id hI
  have ho := hI.oo
  unfold F_RD_other F_RD_other_34 F_M_other F_M_other_36
  rw [C_isSomebody g1 c1 c5.1, cl2_some, M_isWho g1 m1, cl2_some]
  by_cases c : 0 ≤ a1 ∧ a1 < dW d
  · rw [if_pos c, if_neg (c := (1 : Int) = 0) (by decide), if_neg (c := (1 : Int) = 0) (by decide)]
    obtain ⟨w, rfl⟩ : ∃ k : Nat, a1 = k := ⟨a1.toNat, by omega⟩
    have hw : w < dW d := by omega
    obtain ⟨z, s, e, hz, hIs, hS⟩ := C_dealsNow hI
    obtain ⟨z2, t, e2, hIt, hV, hSh⟩ := hIs.laysAll
    have nC := hIs.2.1.1
    have vC := hIs.2.1.2.2.2.2.2.1
    have nM := hIt.2.2.1.1
    have hr := elV_rng g1 ho g5 hw
    rw [e, e2, cl2_some, cl2_some, cl2_some, gd_pos hz, gd_pos hz, C_elseOf g1 ho g5 nC vC hS hw, cl2_some, C_turnsTo g1 ho g5 nC vC hS hw, cl2_some, M_elseOf g1 ho g5 nM hV hSh hw, cl2_some, M_turnsTo g1 ho g5 nM hV hSh hw, cl2_some, w32_id (by omega)]
    by_cases ca : a2 = 0
    · exact ⟨_, _, _, if_pos ca, if_pos ca, n, b, d, A, kn, now, day, D, hIt⟩
    · exact ⟨_, _, _, if_neg ca, if_neg ca, n, b, d, A, kn, now, day, D, hIt⟩
  · rw [if_neg c]
    exact ⟨_, _, _, if_pos rfl, if_pos rfl, h⟩
end Other
