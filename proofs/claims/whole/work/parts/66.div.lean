/-! division downwards, on both sides -/
section Divs
theorem td_facts {a b : Int} (hb : b ≠ 0) : (a.tdiv b) * b + a.tmod b = a ∧ (0 ≤ a → 0 ≤ a.tmod b ∧ -a ≤ a.tdiv b ∧ a.tdiv b ≤ a) ∧ (a ≤ 0 → a.tmod b ≤ 0 ∧ a ≤ a.tdiv b ∧ a.tdiv b ≤ -a) ∧ (0 < b → -b < a.tmod b ∧ a.tmod b < b) ∧ (b < 0 → b < a.tmod b ∧ a.tmod b < -b) := by
  have key : ∀ A B : Nat, 0 < B → ((A : Int).tdiv B) * B + (A : Int).tmod B = A ∧ (0 ≤ (A : Int).tmod B ∧ (A : Int).tmod B ≤ A) ∧ (A : Int).tmod B < B ∧ 0 ≤ (A : Int).tdiv B ∧ (A : Int).tdiv B ≤ A := by
    intro A B h
    have e1 : (A : Int).tdiv B = ((A / B : Nat) : Int) := (Int.ofNat_tdiv A B).symm
    have e2 : (A : Int).tmod B = ((A % B : Nat) : Int) := (Int.ofNat_tmod A B).symm
    have h1 := Nat.div_add_mod A B
    have h2 := Nat.mod_lt A h
    have h3 := Nat.div_le_self A B
    have h5 := Nat.mod_le A B
    have h4 : (A / B) * B + A % B = A := by rw [Nat.mul_comm]; exact h1
    rw [e1, e2]
    generalize A / B = Q at *
    generalize A % B = R at *
    refine ⟨?_, by omega, by omega, by omega, by omega⟩
    exact_mod_cast h4
  rcases Int.lt_or_lt_of_ne hb with hs | hs
  · obtain ⟨B, rfl⟩ : ∃ B : Nat, b = -(B : Int) := ⟨(-b).toNat, by omega⟩
    by_cases ha : 0 ≤ a
    · obtain ⟨A, rfl⟩ : ∃ A : Nat, a = A := ⟨a.toNat, by omega⟩
      obtain ⟨k1, k2, k3, k4, k5⟩ := key A B (by omega)
      rw [Int.tdiv_neg, Int.tmod_neg, Int.neg_mul_neg]
      exact ⟨k1, fun _ => by omega, fun _ => by omega, fun _ => by omega, fun _ => by omega⟩
    · obtain ⟨A, rfl⟩ : ∃ A : Nat, a = -(A : Int) := ⟨(-a).toNat, by omega⟩
      obtain ⟨k1, k2, k3, k4, k5⟩ := key A B (by omega)
      rw [Int.tdiv_neg, Int.tmod_neg, Int.neg_tdiv, Int.neg_tmod, Int.neg_neg, Int.mul_neg]
      exact ⟨by omega, fun _ => by omega, fun _ => by omega, fun _ => by omega, fun _ => by omega⟩
  · obtain ⟨B, rfl⟩ : ∃ B : Nat, b = B := ⟨b.toNat, by omega⟩
    by_cases ha : 0 ≤ a
    · obtain ⟨A, rfl⟩ : ∃ A : Nat, a = A := ⟨a.toNat, by omega⟩
      obtain ⟨k1, k2, k3, k4, k5⟩ := key A B (by omega)
      exact ⟨k1, fun _ => by omega, fun _ => by omega, fun _ => by omega, fun _ => by omega⟩
    · obtain ⟨A, rfl⟩ : ∃ A : Nat, a = -(A : Int) := ⟨(-a).toNat, by omega⟩
      obtain ⟨k1, k2, k3, k4, k5⟩ := key A B (by omega)
      rw [Int.neg_tdiv, Int.neg_tmod, Int.neg_mul]
      exact ⟨by omega, fun _ => by omega, fun _ => by omega, fun _ => by omega, fun _ => by omega⟩
/-- division downwards; by 0 it is 0 -/
def flr (a b : Int) : Int := if b = 0 then 0 else if b < 0 then (-a) / (-b) else a / b
def IsFl (a b q : Int) : Prop := (0 < b → q * b ≤ a ∧ a < q * b + b) ∧ (b < 0 → a ≤ q * b ∧ q * b + b < a)
theorem fl_uniq1 {a b q p : Int} (hb : 0 < b) (h : q * b ≤ a ∧ a < q * b + b) (h' : p * b ≤ a ∧ a < p * b + b) : q = p := by
  rcases Int.lt_trichotomy q p with x | x | x
  · have := Int.mul_le_mul_of_nonneg_right (show q + 1 ≤ p by omega) (show 0 ≤ b by omega)
    rw [Int.add_mul, Int.one_mul] at this
    omega
  · exact x
  · have := Int.mul_le_mul_of_nonneg_right (show p + 1 ≤ q by omega) (show 0 ≤ b by omega)
    rw [Int.add_mul, Int.one_mul] at this
    omega
theorem flr_fl {a b : Int} (hb : b ≠ 0) : IsFl a b (flr a b) := by
  unfold flr IsFl
  rw [if_neg hb]
  constructor
  · intro h
    rw [if_neg (by omega)]
    have h1 := Int.emod_nonneg a hb
    have h2 := Int.emod_lt_of_pos a h
    have h3 := Int.mul_ediv_add_emod a b
    rw [Int.mul_comm] at h3
    omega
  · intro h
    rw [if_pos h]
    have h1 := Int.emod_nonneg (-a) (show -b ≠ 0 by omega)
    have h2 := Int.emod_lt_of_pos (-a) (show 0 < -b by omega)
    have h3 := Int.mul_ediv_add_emod (-a) (-b)
    rw [Int.neg_mul, Int.mul_comm] at h3
    omega
theorem fl_uniq {a b q : Int} (hb : b ≠ 0) (h : IsFl a b q) : q = flr a b := by
  have h' := flr_fl (a := a) hb
  rcases Int.lt_or_lt_of_ne hb with x | x
  · refine fl_uniq1 (a := -a) (b := -b) (by omega) ?_ ?_
    · have := h.2 x
      rw [Int.mul_neg]
      omega
    · have := h'.2 x
      rw [Int.mul_neg]
      omega
  · exact fl_uniq1 x (h.1 x) (h'.1 x)
theorem flr_rng {a b : Int} (hb : b ≠ 0) : (0 ≤ a → -a ≤ flr a b ∧ flr a b ≤ a) ∧ (a < 0 → a ≤ flr a b ∧ flr a b ≤ -a) := by
  have h := flr_fl (a := a) hb
  have e : flr a b = a.tdiv b ∨ flr a b = a.tdiv b - 1 := by
    obtain ⟨t1, t2, t3, t4, t5⟩ := td_facts (a := a) hb
    by_cases c : IsFl a b (a.tdiv b)
    · exact Or.inl (fl_uniq hb c).symm
    · refine Or.inr (fl_uniq hb ?_).symm
      refine ⟨fun x => ?_, fun x => ?_⟩
      · rw [Int.sub_mul, Int.one_mul]
        by_cases y : 0 ≤ a.tmod b
        · exact absurd ⟨fun _ => by omega, fun _ => by omega⟩ c
        · omega
      · rw [Int.sub_mul, Int.one_mul]
        by_cases y : a.tmod b ≤ 0
        · exact absurd ⟨fun _ => by omega, fun _ => by omega⟩ c
        · omega
  obtain ⟨t1, t2, t3, t4, t5⟩ := td_facts (a := a) hb
  constructor
  · intro ha
    rcases e with e | e
    · omega
    · have := t2 ha
      by_cases y : a.tdiv b = -a
      · exfalso
        rw [e] at h
        by_cases x : 0 < b
        · have h1 := (h.1 x)
          have h0 : 0 ≤ a.tdiv b ∨ a.tdiv b < 0 := by omega
          by_cases z : a = 0
          · have ez : a.tdiv b = 0 := by omega
            rw [ez] at h1
            rw [Int.sub_mul, Int.one_mul] at h1
            omega
          · have h2 : a.tdiv b * b ≤ -1 * b := Int.mul_le_mul_of_nonneg_right (by omega) (by omega)
            omega
        · have hb2 : b < 0 := by omega
          have h1 := h.2 hb2
          by_cases z : a = 0
          · have ez : a.tdiv b = 0 := by omega
            rw [ez] at h1
            rw [Int.sub_mul, Int.one_mul] at h1
            omega
          · rw [Int.sub_mul, Int.one_mul] at h1
            have h5 := t5 hb2
            have ey : a.tdiv b * b = a * (-b) := by rw [y, Int.neg_mul, Int.mul_neg]
            have h6 : a * 1 ≤ a * (-b) := Int.mul_le_mul_of_nonneg_left (by omega) ha
            by_cases z1 : b = -1
            · subst z1
              omega
            · have h7 : a * 2 ≤ a * (-b) := Int.mul_le_mul_of_nonneg_left (by omega) ha
              omega
      · omega
  · intro ha
    have h3 := t3 (by omega)
    rcases e with e | e
    · omega
    · by_cases y : a.tdiv b = a
      · exfalso
        rw [e] at h
        by_cases x : 0 < b
        · have h1 := h.1 x
          rw [Int.sub_mul, Int.one_mul] at h1
          by_cases z1 : b = 1
          · subst z1
            omega
          · rw [y] at t1 h1
            have h7 : a * b ≤ a * 2 := by
              have := Int.mul_le_mul_of_nonneg_left (show (2 : Int) ≤ b by omega) (show 0 ≤ -a by omega)
              rw [Int.neg_mul, Int.neg_mul] at this
              omega
            omega
        · have hb2 : b < 0 := by omega
          have h1 := h.2 hb2
          rw [y] at t1
          rw [y, Int.sub_mul, Int.one_mul] at h1
          have h8 : 0 ≤ a * b := by
            have := Int.mul_nonneg (show 0 ≤ -a by omega) (show 0 ≤ -b by omega)
            rw [Int.neg_mul_neg] at this
            exact this
          omega
      · omega
theorem ixor_nn {a b : Int} (ha : -2147483648 ≤ a ∧ a < 2147483648) (hb : -2147483648 ≤ b ∧ b < 2147483648) : 0 ≤ ixor a b ↔ (0 ≤ a ↔ 0 ≤ b) := by
  unfold ixor
  have e1 : (Int32.ofInt a ^^^ Int32.ofInt b).toBitVec.msb = decide ((Int32.ofInt a ^^^ Int32.ofInt b).toInt < 0) := BitVec.msb_eq_toInt
  have e2 : (Int32.ofInt a).toBitVec.msb = decide ((Int32.ofInt a).toInt < 0) := BitVec.msb_eq_toInt
  have e3 : (Int32.ofInt b).toBitVec.msb = decide ((Int32.ofInt b).toInt < 0) := BitVec.msb_eq_toInt
  rw [Int32.toBitVec_xor, BitVec.msb_xor, e2, e3, of_i ha, of_i hb] at e1
  by_cases c1 : a < 0 <;> by_cases c2 : b < 0
  · rw [decide_eq_true c1, decide_eq_true c2] at e1
    have := of_decide_eq_false e1.symm
    omega
  · rw [decide_eq_true c1, decide_eq_false c2] at e1
    have := of_decide_eq_true e1.symm
    omega
  · rw [decide_eq_false c1, decide_eq_true c2] at e1
    have := of_decide_eq_true e1.symm
    omega
  · rw [decide_eq_false c1, decide_eq_false c2] at e1
    have := of_decide_eq_false e1.symm
    omega
theorem C_floorDiv (sh : aSh) {a b : Int} (σ : Hp) (ha : -2147483648 < a ∧ a < 2147483648) (hb : -2147483648 < b ∧ b < 2147483648) (h0 : b ≠ 0) : F_J_floorDiv_7cf53 sh a b σ = some (flr a b, σ) := by
  obtain ⟨t1, t2, t3, t4, t5⟩ := td_facts (a := a) h0
  have hx := ixor_nn (a := a) (b := b) (by omega) (by omega)
  have qr : -2147483648 ≤ a.tdiv b ∧ a.tdiv b < 2147483648 := by omega
  have mr : -2147483648 ≤ a.tdiv b * b ∧ a.tdiv b * b < 2147483648 := by omega
  unfold F_J_floorDiv_7cf53 F_J_floorDiv_7cf53_21 idiv
  rw [gd_pos h0, lt_eq, w32_id qr, imul_ok mr]
  by_cases c : 0 ≤ ixor a b
  · rw [if_pos c]
    have c := hx.mp c
    congr 2
    exact fl_uniq h0 ⟨fun x => by omega, fun x => by omega⟩
  · rw [if_neg c]
    have c : ¬ (0 ≤ a ↔ 0 ≤ b) := fun z => c (hx.mpr z)
    by_cases c2 : a.tdiv b * b = a
    · rw [if_pos c2]
      congr 2
      exact fl_uniq h0 ⟨fun x => by omega, fun x => by omega⟩
    · rw [if_neg c2]
      have hq : -2147483648 ≤ a.tdiv b - 1 := by
        have := flr_rng (a := a) h0
        apply Classical.byContradiction
        intro y
        omega
      rw [isub_ok (by omega)]
      congr 2
      refine fl_uniq h0 ⟨fun x => ?_, fun x => ?_⟩ <;> rw [Int.sub_mul, Int.one_mul] <;> omega
theorem C_floorMod (sh : aSh) {a b : Int} (σ : Hp) (ha : -2147483648 < a ∧ a < 2147483648) (hb : -2147483648 < b ∧ b < 2147483648) (h0 : b ≠ 0) : F_J_floorMod_7cf53 sh a b σ = some (a - b * flr a b, σ) := by
  obtain ⟨t1, t2, t3, t4, t5⟩ := td_facts (a := a) h0
  have mr : -2147483648 ≤ a.tmod b ∧ a.tmod b < 2147483648 := by omega
  have hx := ixor_nn (a := a) (b := b) (by omega) (by omega)
  unfold F_J_floorMod_7cf53 F_J_floorMod_7cf53_18 irem
  rw [gd_pos h0, lt_eq]
  have same : IsFl a b (a.tdiv b) → a.tmod b = a - b * flr a b := by
    intro h
    rw [← fl_uniq h0 h, Int.mul_comm b]
    omega
  by_cases c : 0 ≤ ixor a b
  · rw [if_pos c]
    have c := hx.mp c
    rw [same ⟨fun x => by omega, fun x => by omega⟩]
  · rw [if_neg c]
    have c : ¬ (0 ≤ a ↔ 0 ≤ b) := fun z => c (hx.mpr z)
    by_cases c2 : a.tmod b = 0
    · rw [if_pos c2, same ⟨fun x => by omega, fun x => by omega⟩]
    · rw [if_neg c2, iadd_ok (by omega)]
      have e : a.tdiv b - 1 = flr a b := by
        refine fl_uniq h0 ⟨fun x => ?_, fun x => ?_⟩ <;> rw [Int.sub_mul, Int.one_mul] <;> omega
      rw [← e, Int.mul_comm b, Int.sub_mul, Int.one_mul]
      congr 2
      omega
theorem M_over {a b : Int} (τ : Hp) (ha : -4611686018427387904 < a ∧ a < 4611686018427387904) : F_M_over a b τ = some (flr a b, τ) := by
  unfold F_M_over F_M_over_53 F_M_over_32 F_M_over_43 F_M_over_53 F_M_over_55
  by_cases h0 : b = 0
  · rw [if_pos (lcmp_eq.mpr h0), h0]
    rfl
  · obtain ⟨t1, t2, t3, t4, t5⟩ := td_facts (a := a) h0
    rw [if_neg (fun z => h0 (lcmp_eq.mp z)), gd_pos h0, lt_eq, gd_pos h0]
    have eq1 : ldiv a b = a.tdiv b := w64_id (by omega)
    unfold lrem
    rw [eq1]
    by_cases c : a.tmod b = 0
    · rw [if_pos (lcmp_eq.mpr c)]
      congr 2
      exact fl_uniq h0 ⟨fun x => by omega, fun x => by omega⟩
    · rw [if_neg (fun z => c (lcmp_eq.mp z)), lsub_ok (by omega)]
      by_cases ca : 0 ≤ a
      · rw [if_pos (lcmp_ge.mpr ca)]
        by_cases cb : 0 ≤ b
        · rw [if_pos (lcmp_ge.mpr cb), if_pos rfl]
          congr 2
          exact fl_uniq h0 ⟨fun x => by omega, fun x => by omega⟩
        · rw [if_neg (fun z => cb (lcmp_ge.mp z)), if_neg (by decide)]
          congr 2
          refine fl_uniq h0 ⟨fun x => ?_, fun x => ?_⟩ <;> rw [Int.sub_mul, Int.one_mul] <;> omega
      · rw [if_neg (fun z => ca (lcmp_ge.mp z))]
        by_cases cb : 0 ≤ b
        · rw [if_pos (lcmp_ge.mpr cb), if_neg (by decide)]
          congr 2
          refine fl_uniq h0 ⟨fun x => ?_, fun x => ?_⟩ <;> rw [Int.sub_mul, Int.one_mul] <;> omega
        · rw [if_neg (fun z => cb (lcmp_ge.mp z)), if_pos rfl]
          congr 2
          exact fl_uniq h0 ⟨fun x => by omega, fun x => by omega⟩
theorem flr_2 (a : Int) : flr a 2 = a / 2 := by
  unfold flr
  rw [if_neg (by decide), if_neg (by decide)]
end Divs
