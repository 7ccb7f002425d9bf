/-! deal, dealRow -/
section Deal
variable {s t : Hp} {n b : Nat} {d : ND} {ow : Nat → Int} {D : DL}
abbrev frR (d : ND) (D : DL) (r q : Nat) : Prop := D.1 q = true → q ≠ r → ¬ atR d q (fs d r) ∧ ¬ atR d q (sn d r)
def Free (d : ND) (D : DL) (r : Nat) : Prop := ∀ q, q < dR d → frR d D r q
def tkM (d : ND) (D : DL) (r : Nat) : Nat → Nat
  | 0 => 0
  | k + 1 => if D.1 k = true ∧ k ≠ r then tkM d D r k ||| prM d k else tkM d D r k
theorem tkM_s (r k : Nat) : tkM d D r (k + 1) = if D.1 k = true ∧ k ≠ r then tkM d D r k ||| prM d k else tkM d D r k := rfl
theorem prM_bt (r x : Nat) : bt (prM d r) x = true ↔ atR d r x := by
  unfold bt prM
  rw [Nat.testBit_or, Nat.testBit_two_pow, Nat.testBit_two_pow]
  simp
theorem tkM_bt (r x : Nat) : ∀ k, bt (tkM d D r k) x = true ↔ ∃ q, q < k ∧ D.1 q = true ∧ q ≠ r ∧ atR d q x
  | 0 => by
    constructor
    · intro h
      have : bt 0 x = true := h
      unfold bt at this
      rw [Nat.zero_testBit] at this
      exact absurd this (by decide)
    · rintro ⟨q, h, _⟩
      omega
  | k + 1 => by
    have ih := tkM_bt r x k
    rw [tkM_s]
    by_cases c : D.1 k = true ∧ k ≠ r
    · rw [if_pos c]
      have e : bt (tkM d D r k ||| prM d k) x = (bt (tkM d D r k) x || bt (prM d k) x) := Nat.testBit_or _ _ _
      rw [e, Bool.or_eq_true, ih, prM_bt]
      constructor
      · rintro (⟨q, h1, h2, h3, h4⟩ | h)
        · exact ⟨q, by omega, h2, h3, h4⟩
        · exact ⟨k, by omega, c.1, c.2, h⟩
      · rintro ⟨q, h1, h2, h3, h4⟩
        by_cases e : q = k
        · subst e; exact Or.inr h4
        · exact Or.inl ⟨q, by omega, h2, h3, h4⟩
    · rw [if_neg c, ih]
      constructor
      · rintro ⟨q, h1, h2, h3, h4⟩
        exact ⟨q, by omega, h2, h3, h4⟩
      · rintro ⟨q, h1, h2, h3, h4⟩
        by_cases e : q = k
        · subst e; exact absurd ⟨h2, h3⟩ c
        · exact ⟨q, by omega, h2, h3, h4⟩
theorem prM_l12 (hd : NDok d) {r : Nat} (hr : r < dR d) : prM d r < 4096 := by
  have hp := hd.2.2.1 r hr
  have hW := hd.1
  have h1 : 2 ^ fs d r < 2 ^ 12 := Nat.pow_lt_pow_right (by decide) (by omega)
  have h2 : 2 ^ sn d r < 2 ^ 12 := Nat.pow_lt_pow_right (by decide) (by omega)
  exact Nat.or_lt_two_pow (n := 12) h1 h2
theorem tkM_lt (hd : NDok d) (r : Nat) : ∀ k, k ≤ dR d → tkM d D r k < 4096
  | 0, _ => by
    show 0 < 4096
    omega
  | k + 1, h => by
    have ih := tkM_lt hd r k (by omega)
    rw [tkM_s]
    split
    · exact Nat.or_lt_two_pow (n := 12) ih (prM_l12 hd (by omega))
    · exact ih
theorem and0 (m r : Nat) : m &&& prM d r = 0 ↔ ¬ bt m (fs d r) = true ∧ ¬ bt m (sn d r) = true := by
  constructor
  · intro h
    have key : ∀ x, atR d r x → ¬ bt m x = true := by
      intro x hx hb
      have h1 : (m &&& prM d r).testBit x = true := by
        rw [Nat.testBit_and]
        have h2 : (prM d r).testBit x = true := (prM_bt r x).mpr hx
        have h3 : m.testBit x = true := hb
        rw [h2, h3]
        rfl
      rw [h, Nat.zero_testBit] at h1
      exact absurd h1 (by decide)
    exact ⟨key _ (Or.inl rfl), key _ (Or.inr rfl)⟩
  · intro h
    apply Nat.eq_of_testBit_eq
    intro x
    rw [Nat.testBit_and, Nat.zero_testBit]
    by_cases c : (prM d r).testBit x = true
    · have h1 : ¬ m.testBit x = true := by
        rcases (prM_bt r x).mp c with e | e
        · rw [← e]; exact h.1
        · rw [← e]; exact h.2
      rw [Bool.not_eq_true] at h1
      rw [h1, Bool.false_and]
    · rw [Bool.not_eq_true] at c
      rw [c, Bool.and_false]
theorem free_and (r : Nat) : tkM d D r (dR d) &&& prM d r = 0 ↔ Free d D r := by
  rw [and0, tkM_bt, tkM_bt]
  constructor
  · intro h q hq h1 h2
    exact ⟨fun z => h.1 ⟨q, hq, h1, h2, z⟩, fun z => h.2 ⟨q, hq, h1, h2, z⟩⟩
  · intro h
    constructor
    · rintro ⟨q, h1, h2, h3, h4⟩
      exact (h q h1 h2 h3).1 h4
    · rintro ⟨q, h1, h2, h3, h4⟩
      exact (h q h1 h2 h3).2 h4
/-- one told more -/
def addD (D : DL) (r : Nat) (v : Int) : DL := ((fun q => D.1 q || (q == r)), fun q => if q = r then v else D.2 q)
theorem addD_at {r q : Nat} {v : Int} : (addD D r v).1 q = true ↔ D.1 q = true ∨ q = r := by
  show (D.1 q || (q == r)) = true ↔ _
  simp
theorem dlN_add {r : Nat} {v : Int} : ∀ k, dlN (addD D r v) k = dlN D k + if D.1 r = true then 0 else if r < k then 1 else 0
  | 0 => by
    show (0 : Nat) = 0 + _
    split
    · rfl
    · rw [if_neg (by omega)]
  | k + 1 => by
    have ih := dlN_add (r := r) (v := v) k
    show dlN (addD D r v) k + (if (addD D r v).1 k = true then 1 else 0) = dlN D k + (if D.1 k = true then 1 else 0) + _
    rw [ih]
    by_cases c : D.1 r = true
    · rw [if_pos c, if_pos c]
      by_cases e : D.1 k = true
      · rw [if_pos e, if_pos (addD_at.mpr (Or.inl e))]
      · rw [if_neg e, if_neg (fun z => (addD_at.mp z).elim e (fun y => e (by rw [y]; exact c)))]
    · rw [if_neg c, if_neg c]
      by_cases e : k = r
      · subst e
        rw [if_neg (by omega), if_pos (addD_at.mpr (Or.inr rfl)), if_neg c, if_pos (by omega)]
      · by_cases e2 : D.1 k = true
        · rw [if_pos e2, if_pos (addD_at.mpr (Or.inl e2))]
          by_cases l : r < k
          · rw [if_pos l, if_pos (by omega)]
          · rw [if_neg l, if_neg (by omega)]
        · rw [if_neg e2, if_neg (fun z => (addD_at.mp z).elim e2 e)]
          by_cases l : r < k
          · rw [if_pos l, if_pos (by omega)]
          · rw [if_neg l, if_neg (by omega)]
theorem DLok_add (hD : DLok d D) {r : Nat} (hr : r < dR d) (hF : Free d D r) {v : Int} (hv : -1000000 ≤ v ∧ v ≤ 1000000) : DLok d (addD D r v) := by
  refine ⟨hD.1, fun q hq => ?_⟩
  have ev : (addD D r v).2 q = if q = r then v else D.2 q := rfl
  have hqR : q < dR d := by
    rcases addD_at.mp hq with h | h
    · exact (hD.2 q h).1
    · omega
  refine ⟨hqR, ?_, ?_, fun p hp hne => ?_⟩
  · rw [ev]
    split
    · exact hv.1
    · rename_i c
      exact (hD.2 q ((addD_at.mp hq).resolve_right c)).2.1
  · rw [ev]
    split
    · exact hv.2
    · rename_i c
      exact (hD.2 q ((addD_at.mp hq).resolve_right c)).2.2.1
  · rcases addD_at.mp hq with h | h <;> rcases addD_at.mp hp with g | g
    · exact (hD.2 q h).2.2.2 p g hne
    · have f := hF q hqR h (by omega)
      rw [g]
      exact ⟨fun z => f.1 (Or.inl z), fun z => f.2 (Or.inl z), fun z => f.1 (Or.inr z), fun z => f.2 (Or.inr z)⟩
    · have f := hF p (hD.2 p g).1 g (by omega)
      rw [h]
      exact ⟨fun z => f.1 (Or.inl z.symm), fun z => f.1 (Or.inr z.symm), fun z => f.2 (Or.inl z.symm), fun z => f.2 (Or.inr z.symm)⟩
    · omega
def DlC (s : Hp) (D : DL) : Prop := (∀ r, r < 30 → s 174 r = (if D.1 r = true then 1 else 0) ∧ (D.1 r = true → s 175 r = D.2 r)) ∧ s 173 2 = dlN D 30
def DlM (t : Hp) (D : DL) : Prop := ∀ r, r < 30 → t 42 r = (if D.1 r = true then 1 else 0) ∧ (D.1 r = true → t 43 r = D.2 r)
theorem Dl_both (h : DlC s D) (g : DlM t D) : DlsI s t D := ⟨fun r hr => ⟨(h.1 r hr).1, (g r hr).1, fun y => ⟨(h.1 r hr).2 y, (g r hr).2 y⟩⟩, h.2⟩
theorem Dl_C (h : DlsI s t D) : DlC s D := ⟨fun r hr => ⟨(h.1 r hr).1, fun y => ((h.1 r hr).2.2 y).1⟩, h.2⟩
theorem Dl_M (h : DlsI s t D) : DlM t D := fun r hr => ⟨(h.1 r hr).2.1, fun y => ((h.1 r hr).2.2 y).2⟩
def ptF (s u : Hp) : Prop := (∀ q, q ≠ 173 → q ≠ 174 → q ≠ 175 → u q = s q) ∧ ∀ i, i ≠ 2 → u 173 i = s 173 i
theorem ptF_net {u : Hp} (h : ptF s u) (hN : NetC s n d) : NetC u n d := by
  have hn : n = 50 ∨ n = 4 := hN.1
  exact hN.congr (fun i _ => by rw [h.1 n (by omega) (by omega) (by omega)]) (fun q a c => h.1 q (by omega) (by omega) (by omega))
theorem C_put (hC : DlC s D) {r : Nat} (hr : r < 30) {v : Int} : ∃ u, F_Deals_put r v s = some (0, u) ∧ DlC u (addD D r v) ∧ ptF s u := by
  have g30 : (0 : Int) ≤ (r : Int) ∧ (r : Int) < 30 := by omega
  have hl := dlN_le D 30
  have hn := dlN_add (D := D) (r := r) (v := v) 30
  unfold F_Deals_put F_Deals_put_26
  rw [gd_pos g30, Int.toNat_natCast, (hC.1 r hr).1]
  have vals : ∀ u : Hp, (∀ q, u 174 q = if q = r then 1 else s 174 q) → (∀ q, u 175 q = if q = r then v else s 175 q) → u 173 2 = dlN (addD D r v) 30 → DlC u (addD D r v) := by
    intro u h1 h2 h3
    refine ⟨fun q hq => ?_, h3⟩
    rw [h1 q, h2 q]
    by_cases e : q = r
    · rw [if_pos e, if_pos (addD_at.mpr (Or.inr e)), if_pos e]
      refine ⟨rfl, fun _ => ?_⟩
      show v = if q = r then v else D.2 q
      rw [if_pos e]
    · rw [if_neg e, if_neg e, (hC.1 q hq).1]
      by_cases c : D.1 q = true
      · rw [if_pos c, if_pos (addD_at.mpr (Or.inl c))]
        refine ⟨rfl, fun _ => ?_⟩
        show s 175 q = if q = r then v else D.2 q
        rw [if_neg e]
        exact (hC.1 q hq).2 c
      · have no : ¬ (addD D r v).1 q = true := fun z => (addD_at.mp z).elim c e
        rw [if_neg c, if_neg no]
        exact ⟨rfl, fun z => absurd z no⟩
  by_cases c : D.1 r = true
  · rw [if_pos c, if_neg (by decide), gd_pos g30, lt_eq]
    refine ⟨_, rfl, vals _ (fun q => ?_) (fun q => ?_) ?_, fun q a1 a2 a3 => by rw [hset_obj _ _ _ _ a3], fun i hi => by rw [hset_obj _ _ _ _ (by decide)]⟩
    · rw [hset_obj _ _ _ _ (by decide)]
      by_cases e : q = r
      · rw [if_pos e, e, (hC.1 r hr).1, if_pos c]
      · rw [if_neg e]
    · rw [hset_row]
    · rw [hset_obj _ _ _ _ (by decide), hC.2, hn, if_pos c]
      rfl
  · rw [if_neg c, if_pos rfl, gd_pos g30, lt_eq, lt_eq, gd_pos g30, lt_eq, z1_eq (Or.inr rfl)]
    refine ⟨_, rfl, vals _ (fun q => ?_) (fun q => ?_) ?_, fun q a1 a2 a3 => by rw [hset_obj _ _ _ _ a3, hset_obj _ _ _ _ a1, hset_obj _ _ _ _ a2], fun i hi => by rw [hset_obj _ _ _ _ (by decide), hset_get, if_neg (by omega), hset_obj _ _ _ _ (by decide)]⟩
    · rw [hset_obj _ _ _ _ (by decide), hset_obj _ _ _ _ (by decide), hset_row]
    · rw [hset_row, hset_obj _ _ _ _ (by decide), hset_obj _ _ _ _ (by decide)]
    · rw [hset_obj _ _ _ _ (by decide), hset_same, hset_obj _ _ _ _ (by decide), hC.2, iadd_ok (by omega), hn, if_neg c, if_pos (by omega)]
      omega
theorem C_tell (hd : NDok d) (hD : DLok d D) (hN : NetC s n d) (hC : DlC s D) {r : Nat} (hr : r < dR d) {v : Int} :
    wp (F_Deals_tell n r v s) (fun z u => (Free d D r ∧ z = 1 ∧ DlC u (addD D r v) ∧ ptF s u) ∨ (¬ Free d D r ∧ z = 0 ∧ u = s)) := by
  have hR := hd.2.1
  unfold F_Deals_tell F_Deals_tell_6
  rw [gd_pos hN.1]
  refine wp_loop (fun a : Int × Int × Hp => ∃ k : Nat, k ≤ dR d ∧ a.1 = (tkM d D r k : Nat) ∧ a.2.1 = (k : Int) ∧ a.2.2 = s) (fun a => (30 - a.2.1).toNat) ?_ FU _ ?_ ?_
  · intro a K hp ih
    obtain ⟨x, y, u⟩ := a
    obtain ⟨k, hk, e0, e1, e2⟩ := hp
    dsimp only at e0 e1 e2 ih ⊢
    subst e0 e1 e2
    have ht := tkM_lt (D := D) hd r k hk
    unfold F_Deals_tell_6_b F_Deals_tell_42
    rw [hN.2.2.1]
    refine wp_if (fun c => ?_) (fun c => ?_)
    · have ek : k = dR d := by omega
      subst ek
      have hpl := prM_l12 hd hr
      rw [C_pairOf hd hN hr, cl2_some, iand_nn (by omega) (by omega), Int.toNat_natCast, Int.toNat_natCast]
      refine wp_if (fun c2 => ?_) (fun c2 => ?_)
      · obtain ⟨u2, e, h1, h2⟩ := C_put hC (r := r) (v := v) (by omega)
        rw [e, cl2_some]
        exact wp_ret (Or.inl ⟨(free_and r).mp (by omega), rfl, h1, h2⟩)
      · exact wp_ret (Or.inr ⟨fun z => c2 (by rw [(free_and r).mpr z]; rfl), rfl, rfl⟩)
    · have hkR : k < dR d := by omega
      have g30 : (0 : Int) ≤ (k : Int) ∧ (k : Int) < 30 := by omega
      rw [gd_pos g30, Int.toNat_natCast, (hC.1 k (by omega)).1]
      by_cases c1 : D.1 k = true
      · rw [if_pos c1, if_neg (by decide)]
        refine wp_if (fun c2 => ?_) (fun c2 => ?_)
        · rw [lt_eq, iadd_ok (by omega)]
          refine ih _ ⟨k + 1, by omega, ?_, by simp, rfl⟩ (by dsimp only; omega)
          dsimp only
          rw [tkM_s, if_neg (fun z => z.2 (by omega))]
        · have hpl := prM_l12 hd hkR
          rw [C_pairOf hd hN hkR, cl2_some, ior_nn (by omega) (by omega), Int.toNat_natCast, Int.toNat_natCast, lt_eq, lt_eq, iadd_ok (by omega)]
          refine ih _ ⟨k + 1, by omega, ?_, by simp, rfl⟩ (by dsimp only; omega)
          dsimp only
          rw [tkM_s, if_pos ⟨c1, by omega⟩]
      · rw [if_neg c1, if_pos rfl, lt_eq, iadd_ok (by omega)]
        refine ih _ ⟨k + 1, by omega, ?_, by simp, rfl⟩ (by dsimp only; omega)
        dsimp only
        rw [tkM_s, if_neg (fun z => c1 z.1)]
  · exact ⟨0, by omega, rfl, rfl, rfl⟩
  · rw [FU_eq]
    show (30 - (0 : Int)).toNat < 20000
    omega
theorem DlM_add (h : DlM t D) {r : Nat} {v : Int} {u : Hp} (h1 : ∀ q, u 42 q = if q = r then 1 else t 42 q) (h2 : ∀ q, u 43 q = if q = r then v else t 43 q) : DlM u (addD D r v) := by
  intro q hq
  rw [h1 q, h2 q]
  by_cases e : q = r
  · rw [if_pos e, if_pos (addD_at.mpr (Or.inr e)), if_pos e]
    refine ⟨rfl, fun _ => ?_⟩
    show v = if q = r then v else D.2 q
    rw [if_pos e]
  · rw [if_neg e, if_neg e, (h q hq).1]
    by_cases c : D.1 q = true
    · rw [if_pos c, if_pos (addD_at.mpr (Or.inl c))]
      refine ⟨rfl, fun _ => ?_⟩
      show t 43 q = if q = r then v else D.2 q
      rw [if_neg e]
      exact (h q hq).2 c
    · have no : ¬ (addD D r v).1 q = true := fun z => (addD_at.mp z).elim c e
      rw [if_neg c, if_neg no]
      exact ⟨rfl, fun z => absurd z no⟩
theorem M_dealF (hd : NDok d) (hD : DLok d D) (hN : NetM t b d) (hM : DlM t D) {r : Nat} (hr : r < dR d) {v y : Int} (hy : y = 0 ∨ y = 1) {Q : Int → Hp → Prop}
    (no : (y = 0 ∨ ¬ Free d D r) → Q (-1) t) (yes : y = 1 → Free d D r → wp (cl2 (F_M_deals (hset (hset t 42 r 1) 43 r v)) fun v13 s14 => some (v13, s14)) Q) : wp (F_M_deal_39 r v FU (y, 0, t)) Q := by
  have hR := hd.2.1
  have hb := hN.1
  unfold F_M_deal_39
  refine wp_loop (fun a : Int × Int × Hp => ∃ k : Nat, k ≤ dR d ∧ ((a.1 = 1 ∧ y = 1 ∧ ∀ q, q < k → frR d D r q) ∨ (a.1 = 0 ∧ (y = 0 ∨ ¬ Free d D r))) ∧ a.2.1 = (k : Int) ∧ a.2.2 = t) (fun a => (30 - a.2.1).toNat) ?_ FU _ ?_ ?_
  · intro a K hp ih
    obtain ⟨x, z, u⟩ := a
    obtain ⟨k, hk, e0, e1, e2⟩ := hp
    dsimp only at e0 e1 e2 ih ⊢
    subst e1 e2
    unfold F_M_deal_39_b
    rw [hN.2.1, gd_pos (by omega), Int.toNat_natCast, hN.2.2.2.1]
    refine wp_if (fun c => ?_) (fun c => ?_)
    · have ek : k = dR d := by omega
      subst ek
      have g30 : (0 : Int) ≤ (r : Int) ∧ (r : Int) < 30 := by omega
      rcases e0 with ⟨x1, x2, x3⟩ | ⟨x1, x2⟩
      · rw [x1, if_neg (by decide), gd_pos g30, lt_eq, gd_pos g30, lt_eq, Int.toNat_natCast, z1_eq (Or.inr rfl)]
        exact yes x2 x3
      · rw [x1, if_pos rfl]
        exact wp_ret (no x2)
    · have hkR : k < dR d := by omega
      have g30 : (0 : Int) ≤ (k : Int) ∧ (k : Int) < 30 := by omega
      have next : ∀ x' : Int, ((x' = 1 ∧ y = 1 ∧ ∀ q, q < k + 1 → frR d D r q) ∨ (x' = 0 ∧ (y = 0 ∨ ¬ Free d D r))) → wp (F_M_deal_139 K r v x' k u) Q := by
        intro x' hx'
        unfold F_M_deal_139
        rw [lt_eq, iadd_ok (by omega)]
        exact ih _ ⟨k + 1, by omega, hx', by simp, rfl⟩ (by dsimp only; omega)
      have keep : frR d D r k → wp (F_M_deal_139 K r v x k u) Q := by
        intro hf
        refine next x ?_
        rcases e0 with ⟨x1, x2, x3⟩ | ⟨x1, x2⟩
        · refine Or.inl ⟨x1, x2, fun q hq => ?_⟩
          by_cases e : q = k
          · subst e; exact hf
          · exact x3 q (by omega)
        · exact Or.inr ⟨x1, x2⟩
      have fin : ∀ m : Int, ((m = 1 ∧ (atR d k (fs d r) ∨ atR d k (sn d r))) ∨ (m = 0 ∧ ¬ atR d k (fs d r) ∧ ¬ atR d k (sn d r))) → wp (F_M_deal_114 K r v x k m u) Q := by
        intro m hm
        unfold F_M_deal_114
        rw [gd_pos g30, Int.toNat_natCast, (hM k (by omega)).1]
        by_cases c1 : D.1 k = true
        · rw [if_pos c1, if_neg (by decide)]
          refine wp_if (fun c2 => keep (fun _ z => absurd (by omega) z)) (fun c2 => ?_)
          rcases hm with ⟨m1, m2⟩ | ⟨m1, m2⟩
          · rw [m1, if_neg (by decide)]
            refine next 0 (Or.inr ⟨rfl, Or.inr (fun z => ?_)⟩)
            have := z k hkR c1 (by omega)
            exact m2.elim this.1 this.2
          · rw [m1, if_pos rfl]
            exact keep (fun _ _ => m2)
        · rw [if_neg c1, if_pos rfl]
          exact keep (fun z => absurd z c1)
      unfold F_M_deal_109
      rw [M_first hd hN hkR, cl2_some, M_first hd hN hr, cl2_some]
      refine wp_if (fun c1 => fin 1 (Or.inl ⟨rfl, Or.inl (Or.inl (by omega))⟩)) (fun c1 => ?_)
      rw [M_first hd hN hkR, cl2_some, M_second hd hN hr, cl2_some]
      refine wp_if (fun c2 => fin 1 (Or.inl ⟨rfl, Or.inr (Or.inl (by omega))⟩)) (fun c2 => ?_)
      rw [M_second hd hN hkR, cl2_some, M_first hd hN hr, cl2_some]
      refine wp_if (fun c3 => fin 1 (Or.inl ⟨rfl, Or.inl (Or.inr (by omega))⟩)) (fun c3 => ?_)
      rw [M_second hd hN hkR, cl2_some, M_second hd hN hr, cl2_some]
      refine wp_if (fun c4 => fin 1 (Or.inl ⟨rfl, Or.inr (Or.inr (by omega))⟩)) (fun c4 => ?_)
      exact fin 0 (Or.inr ⟨rfl, fun z => z.elim (fun y => c1 (by omega)) (fun y => c3 (by omega)), fun z => z.elim (fun y => c2 (by omega)) (fun y => c4 (by omega))⟩)
  · refine ⟨0, by omega, ?_, rfl, rfl⟩
    rcases hy with h | h
    · exact Or.inr ⟨h, Or.inl h⟩
    · exact Or.inl ⟨h, h, fun q hq => absurd hq (by omega)⟩
  · rw [FU_eq]
    show (30 - (0 : Int)).toNat < 20000
    omega
end Deal
section DealS
variable {σ τ : Hp} {n b : Nat} {d : ND} {A : AD} {kn : Int} {now day : Nat} {D : DL}
theorem S_deal (σ τ : Hp) (a1 a2 : Int) (h : Inv σ τ) : ∃ (z : Int) (σ' τ' : Hp), F_RD_deal a1 a2 σ = some (z, σ') ∧ F_M_deal a1 a2 τ = some (z, τ') ∧ Inv σ' τ' := by
  obtain ⟨n, b, d, A, kn, now, day, D, hI⟩ := id h
  have hl := hI.lays (c := -1) (w := 0) (by omega)
  obtain ⟨⟨g1, g2, g3, g4, g5⟩, ⟨c1, c2, c3, c4, c5, c6, c7⟩, ⟨m1, m2, m3, m4, m5, m6⟩, _⟩ := id hI
  have hR := g1.2.1
  unfold F_RD_deal F_RD_deal_34 F_RD_deal_63 F_M_deal F_M_deal_21
  rw [C_isRoad g1 c1 c5.1, cl2_some, M_isRoad g1 m1, cl2_some]
  by_cases c : 0 ≤ a1 ∧ a1 < dR d
  · rw [if_pos c, if_neg (c := (1 : Int) = 0) (by decide), if_neg (c := (1 : Int) = 0) (by decide), M_is, cl2_some]
    obtain ⟨r, rfl⟩ : ∃ k : Nat, a1 = k := ⟨a1.toNat, by omega⟩
    have hr : r < dR d := by omega
    have g30 : (0 : Int) ≤ (r : Int) ∧ (r : Int) < 30 := by omega
    by_cases q0 : a2 < -1000000
    · exact ⟨_, _, _, if_pos q0, by rw [if_neg (c := -1000000 ≤ a2 ∧ a2 ≤ 1000000) (by omega), if_pos rfl], h⟩
    by_cases q1 : 1000000 < a2
    · exact ⟨_, _, _, by rw [if_neg q0, if_pos q1], by rw [if_neg (c := -1000000 ≤ a2 ∧ a2 ≤ 1000000) (by omega), if_pos rfl], h⟩
    obtain ⟨v, t, e, ⟨hv, _⟩, hf⟩ := hl
    have ee : owc (owd d A day now) (-1) 0 = owd d A day now := owc_none
    rw [ee] at hv
    have hIt := hI.frM (t := t) (fun q hq => hf q (by omega))
    have hNt := hIt.2.2.1.1
    have hC := Dl_C hIt.2.2.2.1
    have hM := Dl_M hIt.2.2.2.1
    rw [if_neg q0, if_neg q1, gd_pos g30, if_pos (c := -1000000 ≤ a2 ∧ a2 ≤ 1000000) (by omega), if_neg (c := (1 : Int) = 0) (by decide), Int.toNat_natCast, (c6.2 r hr).1, e, cl2_some, gd_pos g30, lt_eq, (hv r hr).1]
    by_cases co : owd d A day now r = -1
    · rw [if_pos co, if_pos rfl]
      obtain ⟨z, u, e2, hz, hu⟩ := M_dealF (v := a2) (Q := fun z u => z = -1 ∧ u = t) g1 g5 hNt hM hr (Or.inl rfl) (fun _ => ⟨rfl, rfl⟩) (fun z => absurd z (by decide))
      subst hz hu
      exact ⟨_, _, _, rfl, e2, n, b, d, A, kn, now, day, D, hIt⟩
    · obtain ⟨z, s, e3, hz⟩ := C_tell (v := a2) g1 g5 c1 hC hr
      rw [if_neg co, if_neg (c := (1 : Int) = 0) (by decide), c5.1, lt_eq, Int.toNat_natCast, gd_pos c1.1, e3, cl2_some]
      rcases hz with ⟨y1, y2, y3, y4⟩ | ⟨y1, y2, y3⟩
      · have hMa : DlM (hset (hset t 42 r 1) 43 r a2) (addD D r a2) := by
          refine DlM_add hM (fun q => ?_) (fun q => ?_)
          · rw [hset_obj _ _ _ _ (by decide), hset_row]
          · rw [hset_row, hset_obj _ _ _ _ (by decide)]
        have hI2 : InvAt s (hset (hset t 42 r 1) 43 r a2) n b d A kn now day (addD D r a2) := by
          refine hIt.setE (DLok_add g5 hr y1 (by omega)) (fun q hq => y4.1 q (by omega) (by omega) (by omega)) (fun q _ a1 a2 => by rw [hset_obj _ _ _ _ a2, hset_obj _ _ _ _ a1]) (fun i _ => by rw [hset_obj _ _ _ _ (by decide), hset_obj _ _ _ _ (by decide)]) (Dl_both y3 hMa)
        have hdl := M_deals hI2
        obtain ⟨z5, u, e5, hz5, hu5⟩ := M_dealF (v := a2) (Q := fun z u => z = s 173 2 ∧ u = hset (hset t 42 r 1) 43 r a2) g1 g5 hNt hM hr (Or.inr rfl) (fun z => absurd y1 (z.resolve_left (by decide))) (fun _ _ => by
          rw [hdl, cl2_some]
          exact wp_ret ⟨rfl, rfl⟩)
        subst hz5 hu5
        rw [y2, if_neg (c := (1 : Int) = 0) (by decide)]
        exact ⟨_, _, _, rfl, e5, n, b, d, A, kn, now, day, _, hI2⟩
      · obtain ⟨z5, u, e5, hz5, hu5⟩ := M_dealF (v := a2) (Q := fun z u => z = -1 ∧ u = t) g1 g5 hNt hM hr (Or.inr rfl) (fun _ => ⟨rfl, rfl⟩) (fun _ z => absurd z y1)
        subst hz5 hu5 y3
        rw [y2, if_pos rfl]
        exact ⟨_, _, _, rfl, e5, n, b, d, A, kn, now, day, _, hIt⟩
  · rw [if_neg c]
    exact ⟨_, _, _, if_pos rfl, if_pos rfl, h⟩
end DealS
