/-! the calls that tell what an other worth changes: moves, pays -/
section Moves
variable {σ τ : Hp} {n b : Nat} {d : ND} {A : AD} {kn : Int} {now day : Nat} {D : DL} {ow' : Nat → Int}
def mvS (P : Nat → Bool) : Nat → Nat
  | 0 => 0
  | k + 1 => if P k = true then mvS P k ||| 2 ^ k else mvS P k
theorem mvS_lt (P : Nat → Bool) : ∀ k, mvS P k < 2 ^ k
  | 0 => by
    show (0 : Nat) < 2 ^ 0
    decide
  | k + 1 => by
    have h := mvS_lt P k
    have e : 2 ^ (k + 1) = 2 * 2 ^ k := by rw [Nat.pow_succ]; omega
    unfold mvS
    split
    · exact Nat.or_lt_two_pow (by omega) (by omega)
    · omega
theorem mvS_yes {P : Nat → Bool} {k : Nat} (h : P k = true) : mvS P (k + 1) = mvS P k ||| 2 ^ k := if_pos h
theorem mvS_no {P : Nat → Bool} {k : Nat} (h : ¬ P k = true) : mvS P (k + 1) = mvS P k := if_neg h
theorem ior_bit (P : Nat → Bool) {k : Nat} (hk : k < 12) : ior ((mvS P k : Nat) : Int) (ishl 1 (k : Int)) = ((mvS P k ||| 2 ^ k : Nat) : Int) := by
  have h := mvS_lt P k
  have p := pow_le12 (k := k) (by omega)
  rw [ishl_1 (by omega), Int.toNat_natCast, ior_nn (by omega) (by omega), Int.toNat_natCast, Int.toNat_natCast]
theorem ior_none (P : Nat → Bool) {k : Nat} (hk : k < 12) : ior ((mvS P k : Nat) : Int) 0 = ((mvS P k : Nat) : Int) := by
  have h := mvS_lt P k
  have p := pow_le12 (k := k) (by omega)
  rw [ior_nn (by omega) (by omega), Int.toNat_natCast]
  simp
noncomputable def chP (d : ND) (ow ow' : Nat → Int) (a3 : Int) (w : Nat) : Bool := if a3 = 0 then !decide (endV d ow' w 0 = endV d ow w 0 ∧ endV d ow' w 1 = endV d ow w 1) else !decide (endV d ow' w 0 ≤ endV d ow w 0)
def chV (d : ND) (ow ow' : Nat → Int) (a3 V : Int) : Prop := (hasE d ow → hasE d ow' → V = ((mvS (chP d ow ow' a3) (dW d) : Nat) : Int)) ∧ (hasE d ow → ¬ hasE d ow' → V = if a3 = 0 then ((2 ^ dW d - 1 : Nat) : Int) else 0) ∧
  (¬ hasE d ow → hasE d ow' → V = if a3 = 0 then ((2 ^ dW d - 1 : Nat) : Int) else 0) ∧ (¬ hasE d ow → ¬ hasE d ow' → V = 0)
theorem InvAt.set39 (h : InvAt σ τ n b d A kn now day D) {q i : Nat} {v : Int} (hq : q = 39 ∨ q = 40) : InvAt σ (hset τ q i v) n b d A kn now day D :=
  h.setM (fun q' hq' => by unfold keepM at hq'; rw [hset_obj _ _ _ _ (by omega)]) (fun i hi => by rw [hset_obj _ _ _ _ (by omega)])
theorem M_changes (h : InvAt σ τ n b d A kn now day D) {c w a3 : Int} (hw : -1 ≤ w ∧ w ≤ 100000) {ow : Nat → Int} (eo : owd d A day now = ow) (eo' : owc ow c w = ow') {v v' : Int} (hc : cert (dW d) (gpd d ow) v) (hv : v ≤ 1439976) (hc' : cert (dW d) (gpd d ow') v') (hv' : v' ≤ 1439976) {V : Int} (hV : chV d ow ow' a3 V) :
    wp (F_M_changes c w a3 τ) (fun z t => z = V ∧ InvAt σ t n b d A kn now day D) := by
  have hW := h.1.1.1
  have g1 := h.1.1
  have ho : owOk d ow := by rw [← eo]; exact h.oo
  have ho' : owOk d ow' := by rw [← eo']; exact owc_ok ho hw
  obtain ⟨_, hEE⟩ := dg_iff g1 ho hc hv
  obtain ⟨_, hEE'⟩ := dg_iff g1 ho' hc' hv'
  unfold F_M_changes
  refine h.ends (c := -1) (w := 0) (by omega) (by rw [owc_none, eo]) hc hv (fun z t hI _ h1 h0 => ?_)
  unfold F_M_changes_15
  refine wp_loop (fun a : Int × Int × Hp => ∃ k : Nat, k ≤ dW d ∧ a.1 = z ∧ a.2.1 = (k : Int) ∧ InvAt σ a.2.2 n b d A kn now day D ∧ a.2.2 38 = t 38 ∧ (hasE d ow → ∀ u, u < k → a.2.2 39 u = endV d ow u 0 ∧ a.2.2 40 u = endV d ow u 1)) (fun a => (300 - a.2.1).toNat) ?_ FU _ ?_ ?_
  · intro a K hp ih
    obtain ⟨x, y, s⟩ := a
    obtain ⟨k, hk, e0, e1, hIs, e38, hs⟩ := hp
    dsimp only at e0 e1 hIs e38 hs ih ⊢
    subst e0 e1
    have m1 := hIs.2.2.1.1
    have hb := m1.1
    unfold F_M_changes_15_b
    rw [m1.2.1, gd_pos (by omega), Int.toNat_natCast, m1.2.2.1]
    refine wp_if (fun cc => ?_) (fun cc => ?_)
    · have ek : k = dW d := by omega
      subst ek
      refine hIs.ends hw (by rw [eo, eo']) hc' hv' (fun z2 t2 hI2 hf2 h12 h02 => ?_)
      have hs2 : hasE d ow → ∀ u, u < dW d → t2 39 u = endV d ow u 0 ∧ t2 40 u = endV d ow u 1 := fun hE u hu => by
        rw [hf2 39 (by omega), hf2 40 (by omega)]
        exact hs hE u hu
      have m2 := hI2.2.2.1.1
      by_cases hE : hasE d ow
      · rw [(h1 hE).1, if_neg (by decide)]
        by_cases hE' : hasE d ow'
        · obtain ⟨q1, q2⟩ := h12 hE'
          obtain ⟨F2, F1⟩ := hEE' hE'
          rw [q1, if_neg (by decide)]
          unfold F_M_changes_109
          refine wp_loop (fun a : Int × Int × Hp => ∃ k : Nat, k ≤ dW d ∧ a.1 = ((mvS (chP d ow ow' a3) k : Nat) : Int) ∧ a.2.1 = (k : Int) ∧ a.2.2 = t2) (fun a => (300 - a.2.1).toNat) ?_ FU _ ?_ ?_
          · intro a K hp ih
            obtain ⟨x, y, s⟩ := a
            obtain ⟨k, hk, e0, e1, es⟩ := hp
            dsimp only at e0 e1 es ih ⊢
            subst e0 e1 es
            unfold F_M_changes_109_b
            rw [m2.2.1, gd_pos (by omega), Int.toNat_natCast, m2.2.2.1]
            refine wp_if (fun cc => ?_) (fun cc => ?_)
            · have ek : k = dW d := by omega
              subst ek
              exact wp_ret ⟨(hV.1 hE hE').symm, hI2⟩
            · have hkW : k < dW d := by omega
              have g12 : (0 : Int) ≤ (k : Int) ∧ (k : Int) < 12 := by omega
              have yes : chP d ow ow' a3 k = true → wp (lt (ior ((mvS (chP d ow ow' a3) k : Nat) : Int) (ishl 1 (k : Int))) fun y6_6 => lt (iadd (k : Int) 1) fun y7_7 => K (y6_6, y7_7, s)) (fun z t => z = V ∧ InvAt σ t n b d A kn now day D) := fun hp => by
                rw [lt_eq, lt_eq, ior_bit _ (by omega), iadd_ok (by omega)]
                exact ih _ ⟨k + 1, by omega, by rw [mvS_yes hp], by show (k : Int) + 1 = ((k + 1 : Nat) : Int); omega, rfl⟩ (by dsimp only; omega)
              have no : ¬ chP d ow ow' a3 k = true → wp (lt (ior ((mvS (chP d ow ow' a3) k : Nat) : Int) 0) fun y6_6 => lt (iadd (k : Int) 1) fun y7_7 => K (y6_6, y7_7, s)) (fun z t => z = V ∧ InvAt σ t n b d A kn now day D) := fun hp => by
                rw [lt_eq, lt_eq, ior_none _ (by omega), iadd_ok (by omega)]
                exact ih _ ⟨k + 1, by omega, by rw [mvS_no hp], by show (k : Int) + 1 = ((k + 1 : Nat) : Int); omega, rfl⟩ (by dsimp only; omega)
              have sk := hs2 hE k hkW
              unfold F_M_changes_183 F_M_changes_188 F_M_changes_205
              refine wp_if (fun c3 => ?_) (fun c3 => ?_)
              · rw [M_least g1 ho' F1 F2 q2 hkW, cl2_some, gd_pos g12, Int.toNat_natCast, sk.1]
                refine wp_if (fun c4 => ?_) (fun c4 => ?_)
                · rw [M_greatest g1 ho' F1 F2 q2 hkW, cl2_some, gd_pos g12, sk.2]
                  refine wp_if (fun c5 => ?_) (fun c5 => ?_)
                  · rw [if_pos rfl]
                    refine no ?_
                    unfold chP
                    rw [if_pos c3]
                    simp [c4, c5]
                  · rw [if_neg (by decide)]
                    refine yes ?_
                    unfold chP
                    rw [if_pos c3]
                    simp [c5]
                · rw [if_neg (by decide)]
                  refine yes ?_
                  unfold chP
                  rw [if_pos c3]
                  simp [c4]
              · rw [M_least g1 ho' F1 F2 q2 hkW, cl2_some, gd_pos g12, Int.toNat_natCast, sk.1]
                refine wp_if (fun c4 => ?_) (fun c4 => ?_)
                · rw [if_pos rfl]
                  refine no ?_
                  unfold chP
                  rw [if_neg c3]
                  simp [c4]
                · rw [if_neg (by decide)]
                  refine yes ?_
                  unfold chP
                  rw [if_neg c3]
                  simp only [c4, decide_false, Bool.not_false]
          · exact ⟨0, by omega, rfl, rfl, rfl⟩
          · rw [FU_eq]
            show (300 - (0 : Int)).toNat < 20000
            omega
        · have V1 := hV.2.1 hE hE'
          rw [h02 hE', if_pos rfl]
          unfold F_M_changes_83 F_M_changes_94 F_M_changes_102
          refine wp_if (fun c3 => ?_) (fun c3 => ?_)
          · rw [if_neg (by decide), M_all g1 m2, cl2_some]
            rw [if_pos c3] at V1
            exact wp_ret ⟨V1.symm, hI2⟩
          · rw [if_neg c3] at V1
            exact wp_ret ⟨V1.symm, hI2⟩
      · rw [h0 hE, if_pos rfl]
        unfold F_M_changes_83 F_M_changes_94 F_M_changes_102
        by_cases hE' : hasE d ow'
        · have V1 := hV.2.2.1 hE hE'
          refine wp_if (fun c3 => ?_) (fun c3 => ?_)
          · rw [(h12 hE').1, if_neg (by decide), M_all g1 m2, cl2_some]
            rw [if_pos c3] at V1
            exact wp_ret ⟨V1.symm, hI2⟩
          · rw [if_neg c3] at V1
            exact wp_ret ⟨V1.symm, hI2⟩
        · have V1 := hV.2.2.2 hE hE'
          refine wp_if (fun c3 => ?_) (fun c3 => ?_)
          · rw [h02 hE', if_pos rfl]
            exact wp_ret ⟨V1.symm, hI2⟩
          · exact wp_ret ⟨V1.symm, hI2⟩
    · have hkW : k < dW d := by omega
      have g12 : (0 : Int) ≤ (k : Int) ∧ (k : Int) < 12 := by omega
      rw [M_least_any (by omega), cl2_some, gd_pos g12, lt_eq, M_greatest_any (by omega), cl2_some, gd_pos g12, lt_eq, lt_eq, Int.toNat_natCast, iadd_ok (by omega)]
      refine ih _ ⟨k + 1, by omega, rfl, by show (k : Int) + 1 = ((k + 1 : Nat) : Int); omega, (hIs.set39 (Or.inl rfl)).set39 (Or.inr rfl), ?_, ?_⟩ ?_
      · dsimp only
        rw [hset_obj _ _ _ _ (by omega), hset_obj _ _ _ _ (by omega), e38]
      · intro hE u hu
        dsimp only
        obtain ⟨F2, F1⟩ := hEE hE
        have hD : ∀ f u, f < 24 → u < 24 → s 38 (24 * f + u) = D2 d ow f u := fun f u hf hu => by rw [e38]; exact (h1 hE).2 f u hf hu
        have L := M_least (s := s) g1 ho F1 F2 hD hkW
        rw [M_least_any (by omega)] at L
        have G := M_greatest (s := s) g1 ho F1 F2 hD hkW
        rw [M_greatest_any (by omega)] at G
        rw [hset_obj _ 40 _ _ (by omega), hset_get, hset_get]
        have L1 : w32 (lneg (s 38 (24 * (2 * k) + (2 * k + 1)))) = endV d ow k 0 := congrArg Prod.fst (Option.some.inj L)
        have G1 : w32 (s 38 (24 * (2 * k + 1) + 2 * k)) = endV d ow k 1 := congrArg Prod.fst (Option.some.inj G)
        rw [L1, hset_obj _ _ _ _ (by omega), G1]
        by_cases eu : u = k
        · subst eu
          exact ⟨if_pos ⟨rfl, rfl⟩, if_pos ⟨rfl, rfl⟩⟩
        · rw [if_neg (fun q => eu q.2), if_neg (fun q => eu q.2), hset_obj _ _ _ _ (by omega)]
          exact hs hE u (by omega)
      · dsimp only
        omega
  · exact ⟨0, by omega, rfl, rfl, hI, rfl, fun _ u hu => absurd hu (by omega)⟩
  · rw [FU_eq]
    show (300 - (0 : Int)).toNat < 20000
    omega
end Moves
