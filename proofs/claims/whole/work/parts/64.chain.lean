/-! chain -/
section Chain
variable {s t : Hp} {n b : Nat} {d : ND} {ow : Nat → Int} {D : DL}
/-- how many of the first are in a mask -/
def cnM (W m : Nat) : Nat := sm W (fun x => if bt m x = true then 1 else 0)
theorem cnM_le (W m : Nat) : cnM W m ≤ W := by
  unfold cnM
  induction W with
  | zero => exact Nat.le_refl _
  | succ n ih =>
    show sm n (fun x => if bt m x = true then 1 else 0) + (if bt m n = true then 1 else 0) ≤ n + 1
    split <;> omega
theorem bt_or2 (m a x : Nat) : bt (m ||| 2 ^ a) x = (bt m x || decide (a = x)) := by
  unfold bt
  rw [Nat.testBit_or, Nat.testBit_two_pow]
theorem cnM_add {W m a : Nat} (ha : a < W) (h : ¬ bt m a = true) : cnM W (m ||| 2 ^ a) = cnM W m + 1 := by
  unfold cnM
  rw [sm_pick (v := a) (f := fun x => if bt (m ||| 2 ^ a) x = true then 1 else 0) ha, sm_pick (v := a) (f := fun x => if bt m x = true then 1 else 0) ha, if_neg h, if_pos (by rw [bt_or2]; simp)]
  have e : sm W (fun u => if u = a then 0 else if bt (m ||| 2 ^ a) u = true then 1 else 0) = sm W (fun u => if u = a then 0 else if bt m u = true then 1 else 0) := by
    apply sm_congr
    intro u hu
    by_cases e : u = a
    · rw [if_pos e, if_pos e]
    · rw [if_neg e, if_neg e, bt_or2]
      have : decide (a = u) = false := decide_eq_false (fun z => e z.symm)
      rw [this, Bool.or_false]
  rw [e]
  omega
/-- the k-th of a chain from at on, with those that were there before -/
def chF (d : ND) (ow : Nat → Int) (D : DL) : Nat → Nat → Nat → Int
  | 0, _, a => a
  | k + 1, m, a => if toV d ow D a = -1 ∨ bt (m ||| 2 ^ a) (toV d ow D a).toNat = true then -1 else chF d ow D k (m ||| 2 ^ a) (toV d ow D a).toNat
theorem chF_s (k m a : Nat) : chF d ow D (k + 1) m a = if toV d ow D a = -1 ∨ bt (m ||| 2 ^ a) (toV d ow D a).toNat = true then -1 else chF d ow D k (m ||| 2 ^ a) (toV d ow D a).toNat := rfl
theorem or_lt12 {m a W : Nat} (hW : W ≤ 12) (hm : m < 2 ^ W) (ha : a < W) : m ||| 2 ^ a < 2 ^ W := Nat.or_lt_two_pow hm (Nat.pow_lt_pow_right (by decide) ha)
theorem ior_bit2 {m a W : Nat} (hW : W ≤ 12) (hm : m < 2 ^ W) (ha : a < W) : ior (m : Int) (ishl 1 (a : Int)) = ((m ||| 2 ^ a : Nat) : Int) := by
  have h12 := pow_le12 hW
  have ha2 : 2 ^ a < 2 ^ W := Nat.pow_lt_pow_right (by decide) ha
  have hpa := Nat.two_pow_pos a
  rw [ishl_1 (by omega), Int.toNat_natCast, ior_nn (by omega) (by omega), Int.toNat_natCast, Int.toNat_natCast]
theorem bit_nat {m x W : Nat} (hW : W ≤ 12) (hm : m < 2 ^ W) (hx : x < 31) : iand (ishr (m : Int) (x : Int)) 1 = if bt m x = true then 1 else 0 := by
  have h12 := pow_le12 hW
  rw [bit_at (by omega) (by omega), Int.toNat_natCast, Int.toNat_natCast]
  rfl
theorem C_chainOf (hd : NDok d) (ho : owOk d ow) (hD : DLok d D) (hN : NetC s n d) (hV : ViewC s n d ow) (hS : SetC s n d ow D) {w : Nat} (hw : w < dW d) (k : Nat) : F_Deals_chainOf w k s = some (chF d ow D k 0 w, s) := by
  have hW := hd.1
  refine wp_get ?_
  unfold F_Deals_chainOf F_Deals_chainOf_8
  refine wp_loop (fun a : Int × Int × Int × Hp => ∃ m x j : Nat, a.1 = (m : Int) ∧ a.2.1 = (x : Int) ∧ a.2.2.1 = (j : Int) ∧ a.2.2.2 = s ∧ m < 2 ^ dW d ∧ x < dW d ∧ ¬ bt m x = true ∧ cnM (dW d) m = j ∧ j ≤ k ∧ chF d ow D (k - j) m x = chF d ow D k 0 w) (fun a => (12 - a.2.2.1).toNat) ?_ FU _ ?_ ?_
  · intro a K hp ih
    obtain ⟨y1, y2, y3, u⟩ := a
    obtain ⟨m, x, j, e1, e2, e3, e4, hm, hx, hb, hc, hj, he⟩ := hp
    dsimp only at e1 e2 e3 e4 ih ⊢
    subst e1 e2 e3 e4
    have hlt : j < dW d := by
      have h1 := cnM_add hx hb
      have h2 := cnM_le (dW d) (m ||| 2 ^ x)
      omega
    unfold F_Deals_chainOf_8_b F_Deals_chainOf_59 F_Deals_chainOf_76 F_Deals_chainOf_51
    refine wp_if (fun c => ?_) (fun c => ?_)
    · have ek : k = j := by omega
      rw [lt_eq, hS.1, Int.toNat_natCast, gd_pos hN.1, hN.2.1, if_neg (by omega)]
      refine wp_ret ⟨?_, rfl⟩
      rw [← he, ek, Nat.sub_self]
      rfl
    · rw [if_neg (by omega), lt_eq, ior_bit2 hW hm hx, C_turnsTo hd ho hD hN hV hS hx, cl2_some]
      have ek : k - j = (k - j - 1) + 1 := by omega
      rw [ek, chF_s] at he
      have hm2 := or_lt12 hW hm hx
      rcases toV_rng (d := d) (ow := ow) (D := D) x with q | ⟨v, q1, q2⟩
      · rw [if_pos q]
        rw [if_pos (Or.inl q)] at he
        exact wp_ret ⟨he, rfl⟩
      · rw [q2, Int.toNat_natCast] at he
        rw [q2, if_neg (by omega), bit_nat hW hm2 (by omega)]
        by_cases cb : bt (m ||| 2 ^ x) v = true
        · rw [if_pos (Or.inr cb)] at he
          rw [if_pos cb, if_neg (by decide)]
          exact wp_ret ⟨he, rfl⟩
        · rw [if_neg (fun z => z.elim (by omega) cb)] at he
          rw [if_neg cb, if_pos rfl, lt_eq, iadd_ok (by omega)]
          refine ih _ ⟨m ||| 2 ^ x, v, j + 1, rfl, rfl, by simp, rfl, hm2, q1, cb, ?_, by omega, ?_⟩ (by dsimp only; omega)
          · rw [cnM_add hx hb, hc]
          · rw [← he]
            rfl
  · refine ⟨0, w, 0, rfl, rfl, rfl, rfl, Nat.two_pow_pos _, hw, ?_, ?_, Nat.zero_le _, rfl⟩
    · unfold bt
      rw [Nat.zero_testBit]
      decide
    · exact sm_zero (fun u _ => by
        unfold bt
        rw [Nat.zero_testBit]
        rfl)
  · rw [FU_eq]
    show (12 - (0 : Int)).toNat < 20000
    omega
theorem M_chainF (hd : NDok d) (ho : owOk d ow) (hD : DLok d D) (hN : NetM t b d) (hV : ViewM1 t d ow) (hS : ShM t d ow D) {w : Nat} (hw : w < dW d) (k : Nat) : F_M_chain_26 w k FU (0, (w : Int), 0, t) = some (chF d ow D k 0 w, t) := by
  have hW := hd.1
  refine wp_get ?_
  unfold F_M_chain_26
  refine wp_loop (fun a : Int × Int × Int × Hp => ∃ m j : Nat, a.1 = (m : Int) ∧ a.2.2.1 = (j : Int) ∧ a.2.2.2 = t ∧ m < 2 ^ dW d ∧ cnM (dW d) m = j ∧ ((a.2.1 = -1 ∧ chF d ow D k 0 w = -1) ∨ ∃ x : Nat, a.2.1 = (x : Int) ∧ x < dW d ∧ ((bt m x = true ∧ chF d ow D k 0 w = -1) ∨ (¬ bt m x = true ∧ j ≤ k ∧ chF d ow D (k - j) m x = chF d ow D k 0 w)))) (fun a => (13 - a.2.2.1).toNat) ?_ FU _ ?_ ?_
  · intro a K hp ih
    obtain ⟨y1, y2, y3, u⟩ := a
    obtain ⟨m, j, e1, e3, e4, hm, hc, hq⟩ := hp
    dsimp only at e1 e3 e4 hq ih ⊢
    subst e1 e3 e4
    unfold F_M_chain_26_b F_M_chain_71
    rcases hq with ⟨q1, q2⟩ | ⟨x, e2, hx, hq⟩
    · rw [if_pos q1]
      exact wp_ret ⟨q2.symm, rfl⟩
    · subst e2
      rw [if_neg (by omega), bit_nat hW hm (by omega)]
      rcases hq with ⟨q1, q2⟩ | ⟨hb, hj, he⟩
      · rw [if_pos q1, if_neg (by decide)]
        exact wp_ret ⟨q2.symm, rfl⟩
      · rw [if_neg hb, if_pos rfl]
        have hlt : j < dW d := by
          have h1 := cnM_add hx hb
          have h2 := cnM_le (dW d) (m ||| 2 ^ x)
          omega
        refine wp_if (fun c => ?_) (fun c => ?_)
        · have ek : k = j := by omega
          refine wp_ret ⟨?_, rfl⟩
          rw [← he, ek, Nat.sub_self]
          rfl
        · rw [ior_bit2 hW hm hx, lt_eq, lt_eq, M_turnsTo hd ho hD hN hV hS hx, cl2_some, iadd_ok (by omega)]
          have ek : k - j = (k - j - 1) + 1 := by omega
          rw [ek, chF_s] at he
          have hm2 := or_lt12 hW hm hx
          refine ih _ ⟨m ||| 2 ^ x, j + 1, rfl, by simp, rfl, hm2, by rw [cnM_add hx hb, hc], ?_⟩ (by dsimp only; omega)
          rcases toV_rng (d := d) (ow := ow) (D := D) x with q | ⟨v, q1, q2⟩
          · rw [if_pos (Or.inl q)] at he
            exact Or.inl ⟨q, he.symm⟩
          · rw [q2, Int.toNat_natCast] at he
            refine Or.inr ⟨v, q2, q1, ?_⟩
            by_cases cb : bt (m ||| 2 ^ x) v = true
            · rw [if_pos (Or.inr cb)] at he
              exact Or.inl ⟨cb, he.symm⟩
            · rw [if_neg (fun z => z.elim (by omega) cb)] at he
              exact Or.inr ⟨cb, by omega, he⟩
  · refine ⟨0, 0, rfl, rfl, rfl, Nat.two_pow_pos _, ?_, Or.inr ⟨w, rfl, hw, Or.inr ⟨?_, Nat.zero_le _, rfl⟩⟩⟩
    · exact sm_zero (fun u _ => by
        unfold bt
        rw [Nat.zero_testBit]
        rfl)
    · unfold bt
      rw [Nat.zero_testBit]
      decide
  · rw [FU_eq]
    show (13 - (0 : Int)).toNat < 20000
    omega
theorem S_chain (σ τ : Hp) (a1 a2 : Int) (h : Inv σ τ) : ∃ (z : Int) (σ' τ' : Hp), F_RD_chain a1 a2 σ = some (z, σ') ∧ F_M_chain a1 a2 τ = some (z, τ') ∧ Inv σ' τ' := by
  obtain ⟨n, b, d, A, kn, now, day, D, hI⟩ := id h
  obtain ⟨⟨g1, g2, g3, g4, g5⟩, ⟨c1, c2, c3, c4, c5, c6, c7⟩, ⟨m1, m2, m3, m4, m5, m6⟩, _⟩ := id hI
  have ho := hI.oo
  unfold F_RD_chain F_RD_chain_24 F_RD_chain_25 F_M_chain F_M_chain_12
  rw [C_isSomebody g1 c1 c5.1, cl2_some, M_isWho g1 m1, cl2_some]
  by_cases c : 0 ≤ a1 ∧ a1 < dW d
  · rw [if_pos c, if_neg (c := (1 : Int) = 0) (by decide), if_neg (c := (1 : Int) = 0) (by decide)]
    by_cases ca : a2 < 0
    · exact ⟨_, _, _, if_pos ca, if_neg (by omega), h⟩
    · rw [if_neg ca, if_pos (by omega)]
      obtain ⟨w, rfl⟩ : ∃ k : Nat, a1 = k := ⟨a1.toNat, by omega⟩
      obtain ⟨k, rfl⟩ : ∃ k : Nat, a2 = k := ⟨a2.toNat, by omega⟩
      have hw : w < dW d := by omega
      obtain ⟨z, s, e, hz, hIs, hS⟩ := C_dealsNow hI
      obtain ⟨z2, t, e2, hIt, hV, hSh⟩ := hIs.laysAll
      rw [e, e2, cl2_some, cl2_some, gd_pos hz, C_chainOf g1 ho g5 hIs.2.1.1 hIs.2.1.2.2.2.2.2.1 hS hw, cl2_some, M_chainF g1 ho g5 hIt.2.2.1.1 hV hSh hw]
      exact ⟨_, _, _, rfl, rfl, n, b, d, A, kn, now, day, D, hIt⟩
  · rw [if_neg c]
    exact ⟨_, _, _, if_pos rfl, if_pos rfl, h⟩
end Chain
