/-! letters of names -/
theorem i64_nat {a : Int} (ha : 0 ≤ a ∧ a < 9223372036854775808) : (Int64.ofInt a).toBitVec.toNat = a.toNat := by
  rw [Int64.toBitVec_ofInt, BitVec.toNat_ofInt]
  omega
theorem lushr_ok {a : Int} {k : Nat} (ha : 0 ≤ a ∧ a < 9223372036854775808) (hk : k < 64) : lushr a k = ((a.toNat / 2 ^ k : Nat) : Int) := by
  have e2 : ((Int32.ofInt (k : Int)).toInt64.toUInt64 &&& Int64.toUInt64 63).toNat = k := by
    have : ∀ j : Fin 64, ((Int32.ofInt ((j.val : Nat) : Int)).toInt64.toUInt64 &&& Int64.toUInt64 63).toNat = j.val := by decide
    exact this ⟨k, hk⟩
  have e1 : ((Int64.ofInt a).toUInt64 >>> ((Int32.ofInt (k : Int)).toInt64.toUInt64 &&& Int64.toUInt64 63)).toNat = a.toNat / 2 ^ k := by
    rw [UInt64.toNat_shiftRight, e2, Nat.mod_eq_of_lt hk, Nat.shiftRight_eq_div_pow]
    congr 1
    exact i64_nat ha
  unfold lushr
  generalize (Int64.ofInt a).toUInt64 >>> ((Int32.ofInt (k : Int)).toInt64.toUInt64 &&& Int64.toUInt64 63) = z at e1
  have hb : a.toNat / 2 ^ k ≤ a.toNat := Nat.div_le_self _ _
  show z.toBitVec.toInt = _
  rw [BitVec.toInt_eq_toNat_of_lt (by show 2 * z.toNat < _; rw [e1]; omega)]
  show ((z.toNat : Nat) : Int) = _
  rw [e1]
theorem land_255 {a : Int} (ha : 0 ≤ a ∧ a < 9223372036854775808) : land a 255 = ((a.toNat % 256 : Nat) : Int) := by
  have e : (Int64.ofInt a &&& Int64.ofInt 255).toBitVec.toNat = a.toNat % 256 := by
    rw [Int64.toBitVec_and, BitVec.toNat_and, i64_nat ha, i64_nat (by decide)]
    exact Nat.and_two_pow_sub_one_eq_mod _ 8
  unfold land
  have hb : a.toNat % 256 < 256 := Nat.mod_lt _ (by decide)
  show (Int64.ofInt a &&& Int64.ofInt 255).toBitVec.toInt = _
  rw [BitVec.toInt_eq_toNat_of_lt (by rw [e]; omega), e]
theorem iand_31 {x : Int} (h : 0 ≤ x ∧ x < 2147483648) : iand x 31 = x % 32 := by
  rw [iand_nn h (by decide)]
  have := Nat.and_two_pow_sub_one_eq_mod x.toNat 5
  show ((x.toNat &&& 31 : Nat) : Int) = _
  rw [show (31 : Nat) = 2 ^ 5 - 1 from rfl, this]
  omega
/-- a name: one to six letters of one to 26 -/
def nmOk (l : List Nat) : Prop := 1 ≤ l.length ∧ l.length ≤ 6 ∧ ∀ x ∈ l, 1 ≤ x ∧ x ≤ 26
def ndig (l : List Nat) : Prop := ∀ x ∈ l, 1 ≤ x ∧ x ≤ 26
theorem pk5_rng : ∀ l : List Nat, ndig l → 0 ≤ pk5 l ∧ pk5 l < 32 ^ l.length ∧ (l ≠ [] → 1 ≤ pk5 l)
  | [], _ => ⟨Int.le_refl _, by decide, fun h => absurd rfl h⟩
  | x :: l, h => by
    obtain ⟨h1, h2, _⟩ := pk5_rng l (fun y hy => h y (List.mem_cons_of_mem _ hy))
    have hx := h x (List.mem_cons_self ..)
    have e : pk5 (x :: l) = pk5 l * 32 + x := rfl
    have p : (32 : Int) ^ (x :: l).length = 32 ^ l.length * 32 := by rw [List.length_cons, Int.pow_succ]
    rw [e, p]
    exact ⟨by omega, by omega, fun _ => by omega⟩
theorem pk8_rng : ∀ l : List Nat, ndig l → 0 ≤ pk8 l ∧ pk8 l < 256 ^ l.length ∧ (l ≠ [] → 1 ≤ pk8 l)
  | [], _ => ⟨Int.le_refl _, by decide, fun h => absurd rfl h⟩
  | x :: l, h => by
    obtain ⟨h1, h2, _⟩ := pk8_rng l (fun y hy => h y (List.mem_cons_of_mem _ hy))
    have hx := h x (List.mem_cons_self ..)
    have e : pk8 (x :: l) = pk8 l * 256 + (x + 96) := rfl
    have p : (256 : Int) ^ (x :: l).length = 256 ^ l.length * 256 := by rw [List.length_cons, Int.pow_succ]
    rw [e, p]
    exact ⟨by omega, by omega, fun _ => by omega⟩
theorem pk5_drop : ∀ (l : List Nat) (k : Nat), ndig l → pk5 l / ((32 ^ k : Nat) : Int) = pk5 (l.drop k)
  | l, 0, _ => by simp
  | [], k + 1, _ => by simp [pk5]
  | x :: l, k + 1, h => by
    have hl : ndig l := fun y hy => h y (List.mem_cons_of_mem _ hy)
    have hx := h x (List.mem_cons_self ..)
    have e : pk5 (x :: l) = pk5 l * 32 + x := rfl
    rw [List.drop_succ_cons, ← pk5_drop l k hl, e, show ((32 ^ (k + 1) : Nat) : Int) = 32 * ((32 ^ k : Nat) : Int) by rw [Nat.pow_succ]; omega, ← Int.ediv_ediv_of_nonneg (by omega)]
    congr 1
    omega
theorem pk8_drop : ∀ (l : List Nat) (k : Nat), ndig l → pk8 l / ((256 ^ k : Nat) : Int) = pk8 (l.drop k)
  | l, 0, _ => by simp
  | [], k + 1, _ => by simp [pk8]
  | x :: l, k + 1, h => by
    have hl : ndig l := fun y hy => h y (List.mem_cons_of_mem _ hy)
    have hx := h x (List.mem_cons_self ..)
    have e : pk8 (x :: l) = pk8 l * 256 + (x + 96) := rfl
    rw [List.drop_succ_cons, ← pk8_drop l k hl, e, show ((256 ^ (k + 1) : Nat) : Int) = 256 * ((256 ^ k : Nat) : Int) by rw [Nat.pow_succ]; omega, ← Int.ediv_ediv_of_nonneg (by omega)]
    congr 1
    omega
