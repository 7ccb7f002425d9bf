/-! dealRow -/
section DealRow
variable {s t : Hp} {n b : Nat} {d : ND} {ow : Nat → Int} {D : DL}
def rwG (d : ND) (ow : Nat → Int) (k : Nat) : Nat := (rwS d ow (dR d)).2[k]?.getD 0
def rwL (d : ND) (ow : Nat → Int) : Nat := (rwS d ow (dR d)).2.length
def djR (d : ND) (p q : Nat) : Prop := fs d p ≠ fs d q ∧ fs d p ≠ sn d q ∧ sn d p ≠ fs d q ∧ sn d p ≠ sn d q
theorem rw_props (hd : NDok d) : ∀ r, r ≤ dR d → (∀ k, k < (rwS d ow r).2.length → (rwS d ow r).2[k]?.getD 0 < r ∧ ¬ bt (rwS d ow r).1 (fs d ((rwS d ow r).2[k]?.getD 0)) = true ∧ ¬ bt (rwS d ow r).1 (sn d ((rwS d ow r).2[k]?.getD 0)) = true) ∧
    ∀ i k, i < k → k < (rwS d ow r).2.length → (rwS d ow r).2[i]?.getD 0 < (rwS d ow r).2[k]?.getD 0 ∧ djR d ((rwS d ow r).2[i]?.getD 0) ((rwS d ow r).2[k]?.getD 0)
  | 0, _ => ⟨fun k h => absurd h (Nat.not_lt_zero _), fun i k _ h => absurd h (Nat.not_lt_zero _)⟩
  | r + 1, hr => by
    obtain ⟨ih1, ih2⟩ := rw_props hd r (by omega)
    by_cases c : tkn d ow r
    · rw [rwS_t c]
      have hp := hasP_and.mp c.1
      have hb := (sub_pr hd (by omega) hp).1
      have at_old : ∀ k, k < (rwS d ow r).2.length → ((rwS d ow r).2 ++ [r])[k]?.getD 0 = (rwS d ow r).2[k]?.getD 0 := fun k hk => by rw [List.getElem?_append_left hk]
      have at_new : ((rwS d ow r).2 ++ [r])[(rwS d ow r).2.length]?.getD 0 = r := by
        rw [List.getElem?_append_right (Nat.le_refl _), Nat.sub_self]
        rfl
      have len : ((rwS d ow r).2 ++ [r]).length = (rwS d ow r).2.length + 1 := List.length_append
      have drop : ∀ x, ¬ bt (rwS d ow r).1 x = true → ¬ bt ((rwS d ow r).1 - prM d r) x = true := fun x h z => by
        rw [hb] at z
        exact h (rmv_at.mp (rmv_at.mp z).1).1
      dsimp only
      refine ⟨fun k hk => ?_, fun i k hik hk => ?_⟩
      · rw [len] at hk
        by_cases e : k = (rwS d ow r).2.length
        · rw [e, at_new]
          refine ⟨by omega, fun z => ?_, fun z => ?_⟩
          · rw [hb] at z
            exact (rmv_at.mp (rmv_at.mp z).1).2 rfl
          · rw [hb] at z
            exact (rmv_at.mp z).2 rfl
        · rw [at_old k (by omega)]
          have := ih1 k (by omega)
          exact ⟨by omega, drop _ this.2.1, drop _ this.2.2⟩
      · rw [len] at hk
        rw [at_old i (by omega)]
        by_cases e : k = (rwS d ow r).2.length
        · rw [e, at_new]
          have h := ih1 i (by omega)
          refine ⟨h.1, fun z => h.2.1 (by rw [z]; exact hp.1), fun z => h.2.1 (by rw [z]; exact hp.2), fun z => h.2.2 (by rw [z]; exact hp.1), fun z => h.2.2 (by rw [z]; exact hp.2)⟩
        · rw [at_old k (by omega)]
          exact ih2 i k hik (by omega)
    · rw [rwS_n c]
      exact ⟨fun k hk => ⟨by have := (ih1 k hk).1; omega, (ih1 k hk).2⟩, ih2⟩
theorem rwG_lt (hd : NDok d) {k : Nat} (hk : k < rwL d ow) : rwG d ow k < dR d := ((rw_props hd (dR d) (Nat.le_refl _)).1 k hk).1
theorem rwG_dj (hd : NDok d) {i k : Nat} (hi : i < k) (hk : k < rwL d ow) : rwG d ow i < rwG d ow k ∧ djR d (rwG d ow i) (rwG d ow k) := (rw_props hd (dR d) (Nat.le_refl _)).2 i k hi hk
theorem rwL_le (hd : NDok d) : rwL d ow ≤ 6 := by
  have := rwS_len (ow := ow) hd (dR d) (Nat.le_refl _)
  unfold rwL
  omega
def rwB (d : ND) (ow : Nat → Int) : Nat → Nat → Bool
  | 0, _ => false
  | k + 1, q => rwB d ow k q || (q == rwG d ow k)
def rwV (d : ND) (ow : Nat → Int) (q : Nat) : Int := al d (fs d q) + gnd d ow q / 2
def rwD (d : ND) (ow : Nat → Int) (k : Nat) : DL := (rwB d ow k, rwV d ow)
theorem rwB_iff (q : Nat) : ∀ k, rwB d ow k q = true ↔ ∃ i, i < k ∧ q = rwG d ow i
  | 0 => by
    constructor
    · intro h
      exact absurd h (show ¬ false = true by decide)
    · rintro ⟨i, h, _⟩
      omega
  | k + 1 => by
    show (rwB d ow k q || (q == rwG d ow k)) = true ↔ _
    rw [Bool.or_eq_true, rwB_iff q k, beq_iff_eq]
    constructor
    · rintro (⟨i, h1, h2⟩ | h)
      · exact ⟨i, by omega, h2⟩
      · exact ⟨k, by omega, h⟩
    · rintro ⟨i, h1, h2⟩
      by_cases e : i = k
      · subst e; exact Or.inr h2
      · exact Or.inl ⟨i, by omega, h2⟩
theorem rwD_add (k : Nat) : rwD d ow (k + 1) = addD (rwD d ow k) (rwG d ow k) (rwV d ow (rwG d ow k)) := by
  show (rwB d ow (k + 1), rwV d ow) = ((fun q => rwB d ow k q || (q == rwG d ow k)), fun q => if q = rwG d ow k then rwV d ow (rwG d ow k) else rwV d ow q)
  have e : rwV d ow = fun q => if q = rwG d ow k then rwV d ow (rwG d ow k) else rwV d ow q := by
    funext q
    by_cases c : q = rwG d ow k
    · rw [if_pos c, c]
    · rw [if_neg c]
  rw [← e]
  rfl
theorem rwD_free (hd : NDok d) {k : Nat} (hk : k < rwL d ow) : Free d (rwD d ow k) (rwG d ow k) := by
  intro q hq h1 h2
  obtain ⟨i, i1, i2⟩ := (rwB_iff q k).mp h1
  have := (rwG_dj hd i1 hk).2
  rw [i2]
  exact ⟨fun z => z.elim this.1 this.2.2.1, fun z => z.elim this.2.1 this.2.2.2⟩
theorem rwV_rng (hd : NDok d) (ho : owOk d ow) {q : Nat} (hq : q < dR d) : 0 ≤ rwV d ow q ∧ rwV d ow q ≤ 100000 := by
  have a := hd.2.2.2.1 _ (hd.2.2.1 q hq).1
  have g := gnd_rng hd ho hq
  unfold rwV
  omega
theorem DLok_rw (hd : NDok d) (ho : owOk d ow) (hD : DLok d D) : ∀ k, k ≤ rwL d ow → DLok d (rwD d ow k)
  | 0, _ => ⟨hD.1, fun r hr => absurd hr (show ¬ false = true by decide)⟩
  | k + 1, h => by
    have hg := rwG_lt (ow := ow) hd (k := k) (by omega)
    have hv := rwV_rng hd ho hg
    rw [rwD_add]
    exact DLok_add (DLok_rw hd ho hD k (by omega)) hg (rwD_free hd (by omega)) (by omega)
theorem dlN_rw (hd : NDok d) : ∀ k, k ≤ rwL d ow → dlN (rwD d ow k) 30 = k
  | 0, _ => by
    have : ∀ j, dlN (rwD d ow 0) j = 0 := by
      intro j
      induction j with
      | zero => rfl
      | succ j ih =>
        show dlN (rwD d ow 0) j + (if false = true then 1 else 0) = 0
        rw [ih]
        rfl
    exact this 30
  | k + 1, h => by
    have hg := rwG_lt (ow := ow) hd (k := k) (by omega)
    have hR := hd.2.1
    have no : ¬ (rwD d ow k).1 (rwG d ow k) = true := fun z => by
      obtain ⟨i, i1, i2⟩ := (rwB_iff _ k).mp z
      have := (rwG_dj hd i1 (show k < rwL d ow by omega)).1
      omega
    rw [rwD_add, dlN_add, dlN_rw hd k (by omega), if_neg no, if_pos (by omega)]
def nonD (D : DL) : Prop := ∀ r, D.1 r = false
theorem C_clear : wp (F_Deals_clear s) (fun _ u => (∀ r, r < 30 → u 174 r = 0) ∧ u 173 2 = 0 ∧ ptF s u) := by
  unfold F_Deals_clear F_Deals_clear_2
  refine wp_loop (fun a : Int × Hp => ∃ k : Nat, k ≤ 30 ∧ a.1 = (k : Int) ∧ (∀ r, r < k → a.2 174 r = 0) ∧ ∀ q, q ≠ 174 → a.2 q = s q) (fun a => (30 - a.1).toNat) ?_ FU _ ?_ ?_
  · intro a K hp ih
    obtain ⟨x, u⟩ := a
    obtain ⟨k, hk, e1, hz, hf⟩ := hp
    dsimp only at e1 hz hf ih ⊢
    subst e1
    unfold F_Deals_clear_2_b
    refine wp_if (fun c => ?_) (fun c => ?_)
    · rw [lt_eq]
      refine wp_ret ⟨fun r hr => by rw [hset_obj _ _ _ _ (by decide)]; exact hz r (by omega), hset_same _ _ _ _, fun q a1 a2 a3 => by rw [hset_obj _ _ _ _ a1]; exact hf q a2, fun i hi => by rw [hset_get, if_neg (by omega), hf 173 (by decide)]⟩
    · rw [gd_pos (by omega), lt_eq, lt_eq, Int.toNat_natCast, iadd_ok (by omega), z1_eq (Or.inl rfl)]
      refine ih _ ⟨k + 1, by omega, by simp, fun r hr => ?_, fun q hq => ?_⟩ (by dsimp only; omega)
      · dsimp only
        rw [hset_row]
        dsimp only
        by_cases e : r = k
        · rw [if_pos e]
        · rw [if_neg e]; exact hz r (by omega)
      · dsimp only
        rw [hset_obj _ _ _ _ hq]; exact hf q hq
  · exact ⟨0, by omega, rfl, fun r h => absurd h (by omega), fun _ _ => rfl⟩
  · rw [FU_eq]
    show (30 - (0 : Int)).toNat < 20000
    omega
theorem ptF_trans {u w : Hp} (h : ptF s u) (h2 : ptF u w) : ptF s w := ⟨fun q a b c => by rw [h2.1 q a b c, h.1 q a b c], fun i hi => by rw [h2.2 i hi, h.2 i hi]⟩
theorem half {g : Int} (h : 0 ≤ g ∧ g < 2147483648) : idiv g 2 = g / 2 := by
  unfold idiv
  rw [Int.tdiv_eq_ediv_of_nonneg h.1, w32_id (by omega)]
theorem C_rowF (hd : NDok d) (ho : owOk d ow) (hD : DLok d D) (hN : NetC s n d) (hP : PlanC s 112 n d ow) (h03 : s 0 3 = n) :
    wp (cl2 (F_Deals_clear s) fun _ s22 => F_RD_dealRow_14 FU (0, s22)) (fun z u => z = (rwL d ow : Nat) ∧ DlC u (rwD d ow (rwL d ow)) ∧ ptF s u) := by
  have hR := hd.2.1
  have hW := hd.1
  have h6 := rwL_le (ow := ow) hd
  refine wp_cl C_clear (fun _ s1 hs1 => ?_)
  unfold F_RD_dealRow_14
  refine wp_loop (fun a : Int × Hp => ∃ k : Nat, k ≤ rwL d ow ∧ a.1 = (k : Int) ∧ DlC a.2 (rwD d ow k) ∧ ptF s a.2) (fun a => (30 - a.1).toNat) ?_ FU _ ?_ ?_
  · intro a K hp ih
    obtain ⟨x, u⟩ := a
    obtain ⟨k, hk, e1, hC, hf⟩ := hp
    dsimp only at e1 hC hf ih ⊢
    subst e1
    have hNu := ptF_net hf hN
    have e6 : u 112 6 = (rwL d ow : Nat) := by rw [hf.1 112 (by decide) (by decide) (by decide)]; exact hP.2.2.2.1
    unfold F_RD_dealRow_14_b
    rw [e6]
    refine wp_if (fun c => ?_) (fun c => ?_)
    · have ek : k = rwL d ow := by omega
      subst ek
      refine wp_ret ⟨?_, hC, hf⟩
      rw [hC.2, dlN_rw hd _ hk]
    · have hkL : k < rwL d ow := by omega
      have hg := rwG_lt (ow := ow) hd hkL
      have hp := hd.2.2.1 _ hg
      have hgn := gnd_rng hd ho hg
      have a := hd.2.2.2.1 _ hp.1
      have hv := rwV_rng hd ho hg
      have e141 : u 141 k = (rwG d ow k : Nat) := by rw [hf.1 141 (by decide) (by decide) (by decide)]; exact hP.2.2.2.2 k hkL
      have e140 : u 140 (rwG d ow k) = gnd d ow (rwG d ow k) := by rw [hf.1 140 (by decide) (by decide) (by decide)]; exact hP.2.1 _ hg
      have e03 : u 0 3 = n := by rw [hf.1 0 (by decide) (by decide) (by decide)]; exact h03
      have g30 : (0 : Int) ≤ (rwG d ow k : Int) ∧ (rwG d ow k : Int) < 30 := by omega
      have g12 : (0 : Int) ≤ (fs d (rwG d ow k) : Int) ∧ (fs d (rwG d ow k) : Int) < 12 := by omega
      have n6 := hNu.2.2.2.2.2.2.1 _ hg
      have ev : rwV d ow (rwG d ow k) = al d (fs d (rwG d ow k)) + gnd d ow (rwG d ow k) / 2 := rfl
      rw [gd_pos (by omega), Int.toNat_natCast, e141, lt_eq, e03, lt_eq, Int.toNat_natCast, gd_pos hN.1, lt_eq, gd_pos hN.1, lt_eq, gd_pos hN.1, gd_pos g30, Int.toNat_natCast, n6.1, gd_pos g12, gd_pos g30, Int.toNat_natCast, hNu.2.2.2.2.2.1 _ hp.1, e140, half (by omega), iadd_ok (a := al d _) (by omega), ← ev]
      refine wp_cl (C_tell hd (DLok_rw hd ho hD k hk) hNu hC hg) (fun z w hz => ?_)
      rcases hz with ⟨z1, z2, z3, z4⟩ | ⟨z1, _⟩
      · rw [lt_eq, iadd_ok (by omega)]
        refine ih _ ⟨k + 1, by omega, by simp, ?_, ptF_trans hf z4⟩ (by dsimp only; omega)
        rw [rwD_add]
        exact z3
      · exact absurd (rwD_free hd hkL) z1
  · refine ⟨0, by omega, rfl, ⟨fun r hr => ⟨hs1.1 r hr, fun z => absurd z (show ¬ false = true by decide)⟩, ?_⟩, hs1.2.2⟩
    rw [dlN_rw hd 0 (by omega)]
    exact hs1.2.1
  · rw [FU_eq]
    show (30 - (0 : Int)).toNat < 20000
    omega
theorem M_rowF (hd : NDok d) (ho : owOk d ow) (hD : DLok d D) (hN : NetM t b d) (hV : ViewM1 t d ow) (hRow : RowM t d ow) :
    wp (F_M_dealRow_12 FU (0, t)) (fun z u => z = (rwL d ow : Nat) ∧ DlM u (rwD d ow (rwL d ow)) ∧ ∀ q, q ≠ 42 → q ≠ 43 → u q = t q) := by
  have hR := hd.2.1
  have hW := hd.1
  have h6 := rwL_le (ow := ow) hd
  have net : ∀ s' : Hp, (∀ q, q ≠ 42 → q ≠ 43 → s' q = t q) → NetM s' b d := fun s' h' => hN.congr (by rw [h' 0 (by decide) (by decide)]) (fun q a1 a2 => h' q (by omega) (by omega))
  unfold F_M_dealRow_12
  refine wp_loop (fun a : Int × Hp => ∃ k : Nat, k ≤ 30 ∧ a.1 = (k : Int) ∧ (∀ r, r < k → a.2 42 r = 0) ∧ ∀ q, q ≠ 42 → q ≠ 43 → a.2 q = t q) (fun a => (30 - a.1).toNat) ?_ FU _ ?_ ?_
  · intro a K hp ih
    obtain ⟨x, u⟩ := a
    obtain ⟨k, hk, e1, hz, hf⟩ := hp
    dsimp only at e1 hz hf ih ⊢
    subst e1
    unfold F_M_dealRow_12_b
    refine wp_if (fun c => ?_) (fun c => ?_)
    · have ek : k = 30 := by omega
      subst ek
      clear ih
      unfold F_M_dealRow_33
      refine wp_loop (fun a : Int × Hp => ∃ k : Nat, k ≤ rwL d ow ∧ a.1 = (k : Int) ∧ DlM a.2 (rwD d ow k) ∧ ∀ q, q ≠ 42 → q ≠ 43 → a.2 q = t q) (fun a => (30 - a.1).toNat) ?_ FU _ ?_ ?_
      · intro a K hp ih
        obtain ⟨x, u⟩ := a
        obtain ⟨k, hk, e1, hM, hf⟩ := hp
        dsimp only at e1 hM hf ih ⊢
        subst e1
        have e56 : u 0 56 = (rwL d ow : Nat) := by rw [hf 0 (by decide) (by decide)]; exact hRow.1
        unfold F_M_dealRow_33_b
        rw [e56]
        refine wp_if (fun c => ?_) (fun c => ?_)
        · have ek : k = rwL d ow := by omega
          subst ek
          exact wp_ret ⟨rfl, hM, hf⟩
        · have hkL : k < rwL d ow := by omega
          have hg := rwG_lt (ow := ow) hd hkL
          have hp := hd.2.2.1 _ hg
          have hgn := gnd_rng hd ho hg
          have a := hd.2.2.2.1 _ hp.1
          have hv := rwV_rng hd ho hg
          have e36 : u 36 k = (rwG d ow k : Nat) := by rw [hf 36 (by decide) (by decide)]; exact hRow.2.1 k hkL
          have g6 : (0 : Int) ≤ (k : Int) ∧ (k : Int) < 6 := by omega
          have g30 : (0 : Int) ≤ (rwG d ow k : Int) ∧ (rwG d ow k : Int) < 30 := by omega
          have ev : rwV d ow (rwG d ow k) = al d (fs d (rwG d ow k)) + gnd d ow (rwG d ow k) / 2 := rfl
          have hf1 : ∀ q, q ≠ 42 → q ≠ 43 → (hset u 42 (rwG d ow k) 1) q = t q := fun q a1 a2 => by rw [hset_obj _ _ _ _ a1]; exact hf q a1 a2
          have hN1 := net _ hf1
          have k36 : (hset u 42 (rwG d ow k) 1) 36 k = (rwG d ow k : Nat) := by rw [hset_obj _ _ _ _ (by decide)]; exact e36
          rw [gd_pos g6, Int.toNat_natCast, e36, gd_pos g30, lt_eq, Int.toNat_natCast, z1_eq (Or.inr rfl), gd_pos g6, gd_pos g6, k36, M_first hd hN1 hg, cl2_some, M_aloneOf hd hN1 hp.1, cl2_some, gd_pos g6, k36, M_gainOf hd hN1 ho hg (by rw [hf1 29 (by decide) (by decide)]; exact (hV _ hg).1) (by rw [hf1 30 (by decide) (by decide)]; exact (hV _ hg).2), cl2_some, gd_pos g30, lt_eq, lt_eq, Int.toNat_natCast, half (by omega), iadd_ok (a := al d _) (by omega), ← ev, iadd_ok (by omega)]
          refine ih _ ⟨k + 1, by omega, by simp, ?_, fun q a1 a2 => ?_⟩ (by dsimp only; omega)
          · rw [rwD_add]
            refine DlM_add hM (fun q => ?_) (fun q => ?_)
            · dsimp only
              rw [hset_obj _ _ _ _ (by decide), hset_row]
            · dsimp only
              rw [hset_row, hset_obj _ _ _ _ (by decide)]
          · dsimp only
            rw [hset_obj _ _ _ _ a2]; exact hf1 q a1 a2
      · exact ⟨0, by omega, rfl, fun r hr => ⟨hz r (by omega), fun z => absurd z (show ¬ false = true by decide)⟩, hf⟩
      · rw [FU_eq]
        show (30 - (0 : Int)).toNat < 20000
        omega
    · rw [gd_pos (by omega), lt_eq, lt_eq, Int.toNat_natCast, iadd_ok (by omega), z1_eq (Or.inl rfl)]
      refine ih _ ⟨k + 1, by omega, by simp, fun r hr => ?_, fun q a1 a2 => ?_⟩ (by dsimp only; omega)
      · dsimp only
        rw [hset_row]
        dsimp only
        by_cases e : r = k
        · rw [if_pos e]
        · rw [if_neg e]; exact hz r (by omega)
      · dsimp only
        rw [hset_obj _ _ _ _ a1]; exact hf q a1 a2
  · exact ⟨0, by omega, rfl, fun r h => absurd h (by omega), fun _ _ _ => rfl⟩
  · rw [FU_eq]
    show (30 - (0 : Int)).toNat < 20000
    omega
end DealRow
section DealRowS
theorem S_dealRow (σ τ : Hp) (h : Inv σ τ) : ∃ (z : Int) (σ' τ' : Hp), F_RD_dealRow σ = some (z, σ') ∧ F_M_dealRow τ = some (z, τ') ∧ Inv σ' τ' := by
  obtain ⟨n, b, d, A, kn, now, day, D, hI⟩ := id h
  obtain ⟨z, s, e, hz, hIs, h0⟩ := C_planNow hI
  have hl := hIs.lays (c := -1) (w := 0) (by omega)
  have ho := hIs.oo
  obtain ⟨g1, g2, g3, g4, g5⟩ := hIs.1
  have m1 := hIs.2.2.1.1
  rw [owc_none] at hl
  obtain ⟨v, t, e2, ⟨hv, _⟩, hf⟩ := hl
  have hm : NetM t b d := m1.congr (by rw [hf 0 (by omega)]) (fun q a b => hf q (by omega))
  obtain ⟨v3, u, e3, hR, hfu⟩ := M_finds g1 hm ho hv
  have hIu : InvAt s u n b d A kn now day D := hIs.setM (fun q hq => by
    unfold keepM at hq
    rw [hfu.1 q (by omega) (by omega) (by omega) (by omega) (by omega), hf q (by omega)]) (fun i hi => by
    unfold keepM0 at hi
    rw [hfu.2 i (by omega), hf 0 (by omega)])
  have hVu : ViewM1 u d (owd d A day now) := fun r hr => by
    rw [hfu.1 29 (by omega) (by omega) (by omega) (by omega) (by omega), hfu.1 30 (by omega) (by omega) (by omega) (by omega) (by omega)]
    exact hv r hr
  obtain ⟨z4, s4, e4, hz4, hC4, hf4⟩ := C_rowF g1 ho g5 hIu.2.1.1 (hIs.pln h0).1 hIu.2.1.2.2.2.2.1.1
  obtain ⟨z5, t5, e5, hz5, hM5, hf5⟩ := M_rowF g1 ho g5 hIu.2.2.1.1 hVu hR
  refine ⟨(rwL d (owd d A day now) : Nat), s4, t5, ?_, ?_, n, b, d, A, kn, now, day, rwD d (owd d A day now) (rwL d (owd d A day now)), ?_⟩
  · unfold F_RD_dealRow
    rw [e, cl2_some, gd_pos hz, e4, hz4]
  · unfold F_M_dealRow
    rw [e2, cl2_some, e3, cl2_some, e5, hz5]
  · exact hIu.setE (DLok_rw g1 ho g5 _ (Nat.le_refl _)) (fun q hq => hf4.1 q (by omega) (by omega) (by omega)) (fun q _ a1 a2 => hf5 q a1 a2) (fun i _ => by rw [hf5 0 (by decide) (by decide)]) (Dl_both hC4 hM5)
end DealRowS
