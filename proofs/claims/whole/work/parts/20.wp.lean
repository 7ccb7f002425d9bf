/-! THE PURE PART: what a lifted method answers (wp), loops by a measure, the numbers of the machine in plain words -/
def wp (o : Option (Int × Hp)) (Q : Int → Hp → Prop) : Prop := ∃ z s, o = some (z, s) ∧ Q z s
theorem wp_ret {z : Int} {s : Hp} {Q : Int → Hp → Prop} (h : Q z s) : wp (some (z, s)) Q := ⟨z, s, rfl, h⟩
theorem wp_if {c : Prop} [Decidable c] {a b : Option (Int × Hp)} {Q : Int → Hp → Prop} (h1 : c → wp a Q) (h2 : ¬ c → wp b Q) : wp (if c then a else b) Q := by
  by_cases h : c
  · rw [if_pos h]; exact h1 h
  · rw [if_neg h]; exact h2 h
theorem wp_ifT {c : Prop} [Decidable c] {a b : Option (Int × Hp)} {Q : Int → Hp → Prop} (h : c) (h1 : wp a Q) : wp (if c then a else b) Q := by rw [if_pos h]; exact h1
theorem wp_ifF {c : Prop} [Decidable c] {a b : Option (Int × Hp)} {Q : Int → Hp → Prop} (h : ¬ c) (h1 : wp b Q) : wp (if c then a else b) Q := by rw [if_neg h]; exact h1
theorem wp_gd {c : Prop} [Decidable c] {r : Option (Int × Hp)} {Q : Int → Hp → Prop} (h : c) (k : wp r Q) : wp (gd c r) Q := by unfold gd; rw [if_pos h]; exact k
theorem wp_lt {β : Type} {e : β} {f : β → Option (Int × Hp)} {Q : Int → Hp → Prop} (k : wp (f e) Q) : wp (lt e f) Q := k
theorem wp_let {β : Type} {e : β} {f : β → Option (Int × Hp)} {Q : Int → Hp → Prop} (k : ∀ x, x = e → wp (f x) Q) : wp (lt e f) Q := k e rfl
theorem wp_cl {r : Option (Int × Hp)} {k : Int → Hp → Option (Int × Hp)} {Q P : Int → Hp → Prop} (h : wp r P) (kk : ∀ z s, P z s → wp (k z s) Q) : wp (cl2 r k) Q := by
  obtain ⟨z, s, e, hp⟩ := h
  rw [e]
  exact kk z s hp
theorem wp_eq {r : Option (Int × Hp)} {z : Int} {s : Hp} {k : Int → Hp → Option (Int × Hp)} {Q : Int → Hp → Prop} (h : r = some (z, s)) (kk : wp (k z s) Q) : wp (cl2 r k) Q := by
  rw [h]
  exact kk
theorem wp_mono {o : Option (Int × Hp)} {P Q : Int → Hp → Prop} (h : wp o P) (hq : ∀ z s, P z s → Q z s) : wp o Q := by
  obtain ⟨z, s, e, hp⟩ := h
  exact ⟨z, s, e, hq z s hp⟩
theorem wp_of {o : Option (Int × Hp)} {z : Int} {s : Hp} {Q : Int → Hp → Prop} (h : o = some (z, s)) (hq : Q z s) : wp o Q := ⟨z, s, h, hq⟩
theorem wp_get {o : Option (Int × Hp)} {z : Int} {s : Hp} (h : wp o (fun z' s' => z' = z ∧ s' = s)) : o = some (z, s) := by
  obtain ⟨z', s', e, h1, h2⟩ := h
  rw [e, h1, h2]
theorem wp_loop {α : Type} {body : (α → Option (Int × Hp)) → α → Option (Int × Hp)} {Q : Int → Hp → Prop} (P : α → Prop) (μ : α → Nat)
    (hb : ∀ a k, P a → (∀ a', P a' → μ a' < μ a → wp (k a') Q) → wp (body k a) Q) : ∀ n a, P a → μ a < n → wp (loopF body n a) Q := by
  intro n
  induction n with
  | zero => intro a _ h; exact absurd h (Nat.not_lt_zero _)
  | succ n ih =>
    intro a hp h
    exact hb a (loopF body n) hp (fun a' hp' h' => ih a' hp' (by omega))
theorem FU_eq : FU = 20000 := rfl
theorem cl2_some {α : Type} {z : Int} {s : Hp} {k : Int → Hp → Option α} : cl2 (some (z, s)) k = k z s := rfl
theorem lt_eq {α β : Type} {e : β} {f : β → Option α} : lt e f = f e := rfl
theorem gd_pos {α : Type} {c : Prop} [Decidable c] {r : Option α} (h : c) : gd c r = r := if_pos h
/-! heaps -/
theorem hset_get (σ : Hp) (q i : Nat) (v : Int) (q' i' : Nat) : hset σ q i v q' i' = if q' = q ∧ i' = i then v else σ q' i' := rfl
def fr (a b : Nat) (σ s : Hp) : Prop := ∀ q, q < a ∨ b < q → s q = σ q
theorem fr_rfl {a b : Nat} {σ : Hp} : fr a b σ σ := fun _ _ => rfl
theorem fr_set {a b : Nat} {σ s : Hp} {q i : Nat} {v : Int} (h : fr a b σ s) (hq : a ≤ q ∧ q ≤ b) : fr a b σ (hset s q i v) := fun q' h' => by
  rw [hset_obj _ _ _ _ (by omega)]
  exact h q' h'
theorem fr_trans {a b : Nat} {σ s t : Hp} (h : fr a b σ s) (h2 : fr a b s t) : fr a b σ t := fun q hq => by rw [h2 q hq, h q hq]
theorem fr_up {a b c d : Nat} {σ s : Hp} (h : fr a b σ s) (h1 : c ≤ a) (h2 : b ≤ d) : fr c d σ s := fun q hq => h q (by omega)
/-! numbers -/
theorem w32_id {z : Int} (h : -2147483648 ≤ z ∧ z < 2147483648) : w32 z = z := by
  unfold w32
  rw [Int.bmod_def]
  omega
theorem w64_id {z : Int} (h : -9223372036854775808 ≤ z ∧ z < 9223372036854775808) : w64 z = z := by
  unfold w64
  rw [Int.bmod_def]
  omega
theorem iadd_ok {a b : Int} (h : -2147483648 ≤ a + b ∧ a + b < 2147483648) : iadd a b = a + b := w32_id h
theorem isub_ok {a b : Int} (h : -2147483648 ≤ a - b ∧ a - b < 2147483648) : isub a b = a - b := w32_id h
theorem imul_ok {a b : Int} (h : -2147483648 ≤ a * b ∧ a * b < 2147483648) : imul a b = a * b := w32_id h
theorem ineg_ok {a : Int} (h : -2147483648 ≤ -a ∧ -a < 2147483648) : ineg a = -a := w32_id h
theorem ladd_ok {a b : Int} (h : -9223372036854775808 ≤ a + b ∧ a + b < 9223372036854775808) : ladd a b = a + b := w64_id h
theorem lsub_ok {a b : Int} (h : -9223372036854775808 ≤ a - b ∧ a - b < 9223372036854775808) : lsub a b = a - b := w64_id h
theorem lmul_ok {a b : Int} (h : -9223372036854775808 ≤ a * b ∧ a * b < 9223372036854775808) : lmul a b = a * b := w64_id h
theorem lneg_ok {a : Int} (h : -9223372036854775808 ≤ -a ∧ -a < 9223372036854775808) : lneg a = -a := w64_id h
theorem lcmp_le {a b : Int} : lcmp a b ≤ 0 ↔ a ≤ b := by
  unfold lcmp
  split
  · omega
  · split <;> omega
theorem lcmp_ge {a b : Int} : 0 ≤ lcmp a b ↔ b ≤ a := by
  unfold lcmp
  split
  · omega
  · split <;> omega
theorem lcmp_lt {a b : Int} : lcmp a b < 0 ↔ a < b := by
  unfold lcmp
  split
  · omega
  · split <;> omega
theorem lcmp_gt {a b : Int} : 0 < lcmp a b ↔ b < a := by
  unfold lcmp
  split
  · omega
  · split <;> omega
theorem lcmp_eq {a b : Int} : lcmp a b = 0 ↔ a = b := by
  unfold lcmp
  split
  · omega
  · split <;> omega
theorem bv_nn {z : Int} (h0 : 0 ≤ z) (h1 : z < 2147483648) : (Int32.ofInt z).toBitVec.toNat = z.toNat := by
  rw [Int32.toBitVec_ofInt, BitVec.toNat_ofInt]
  have : z % ((2 ^ 32 : Nat) : Int) = z := Int.emod_eq_of_lt h0 (by omega)
  rw [this]
theorem toInt_nn (x : Int32) (h : x.toBitVec.toNat < 2147483648) : x.toInt = (x.toBitVec.toNat : Int) := by
  rw [← Int32.toInt_toBitVec]
  exact BitVec.toInt_eq_toNat_of_lt (by omega)
theorem iand_nn {a b : Int} (ha : 0 ≤ a ∧ a < 2147483648) (hb : 0 ≤ b ∧ b < 2147483648) : iand a b = ((a.toNat &&& b.toNat : Nat) : Int) := by
  unfold iand
  have h : (Int32.ofInt a &&& Int32.ofInt b).toBitVec.toNat = a.toNat &&& b.toNat := by
    rw [Int32.toBitVec_and, BitVec.toNat_and, bv_nn ha.1 ha.2, bv_nn hb.1 hb.2]
  rw [toInt_nn _ (by rw [h]; exact Nat.lt_of_le_of_lt Nat.and_le_left (by omega)), h]
theorem ior_nn {a b : Int} (ha : 0 ≤ a ∧ a < 2147483648) (hb : 0 ≤ b ∧ b < 2147483648) : ior a b = ((a.toNat ||| b.toNat : Nat) : Int) := by
  unfold ior
  have h : (Int32.ofInt a ||| Int32.ofInt b).toBitVec.toNat = a.toNat ||| b.toNat := by
    rw [Int32.toBitVec_or, BitVec.toNat_or, bv_nn ha.1 ha.2, bv_nn hb.1 hb.2]
  have h2 : a.toNat ||| b.toNat < 2 ^ 31 := Nat.or_lt_two_pow (by omega) (by omega)
  rw [toInt_nn _ (by rw [h]; exact h2), h]
theorem iand_255 (x : Int) : iand x 255 = x % 256 := by
  unfold iand
  have h : (Int32.ofInt x &&& Int32.ofInt 255).toBitVec.toNat = (x % 4294967296).toNat % 256 := by
    rw [Int32.toBitVec_and, BitVec.toNat_and, bv_nn (z := 255) (by decide) (by decide), Int32.toBitVec_ofInt, BitVec.toNat_ofInt]
    exact Nat.and_two_pow_sub_one_eq_mod _ 8
  rw [toInt_nn _ (by rw [h]; omega), h]
  omega
theorem i2b_eq (x : Int) : i2b x = (x + 128) % 256 - 128 := by
  unfold i2b
  rw [Int8.toInt_toInt32, Int32.toInt_toInt8, Int32.toInt_ofInt]
  have : Int32.size = 4294967296 := rfl
  rw [this, Int.bmod_def, Int.bmod_def]
  omega
theorem z1_eq {x : Int} (h : x = 0 ∨ x = 1) : z1 x = x := by rcases h with rfl | rfl <;> decide
theorem sh_k : ∀ k : Nat, k < 32 → ((Int32.ofInt (k : Int) &&& 31).toBitVec.smod 32).toNat = k := by decide +kernel
theorem ishr_ok {a k : Int} (ha : -2147483648 ≤ a ∧ a < 2147483648) (hk : 0 ≤ k ∧ k < 32) : ishr a k = a / (2 ^ k.toNat : Nat) := by
  unfold ishr
  obtain ⟨n, rfl⟩ : ∃ n : Nat, k = (n : Int) := ⟨k.toNat, by omega⟩
  rw [pk_shr _ _ n (sh_k n (by omega)), of_i ha, Int.shiftRight_eq_div_pow]
  rfl
theorem ishl_1 {k : Int} (hk : 0 ≤ k ∧ k < 31) : ishl 1 k = ((2 ^ k.toNat : Nat) : Int) := by
  unfold ishl
  obtain ⟨n, rfl⟩ : ∃ n : Nat, k = (n : Int) := ⟨k.toNat, by omega⟩
  have h := pk_shl (Int32.ofInt 1) _ n (sh_k n (by omega))
  have e : (Int32.ofInt 1).toBitVec.toNat = 1 := by decide
  rw [e, Nat.one_mul] at h
  have h2 : 2 ^ n < 2 ^ 31 := Nat.pow_lt_pow_right (by decide) (by omega)
  rw [Nat.mod_eq_of_lt (by omega)] at h
  rw [toInt_nn _ (by rw [h]; omega), h]
  rfl
theorem iandnot_nn {a b : Int} (ha : 0 ≤ a ∧ a < 2147483648) (hb : 0 ≤ b ∧ b < 2147483648) : iand a (ixor b (-1)) = ((a.toNat ^^^ (a.toNat &&& b.toNat) : Nat) : Int) := by
  unfold iand ixor
  rw [Int32.ofInt_toInt]
  have h : (Int32.ofInt a &&& (Int32.ofInt b ^^^ Int32.ofInt (-1))).toBitVec.toNat = a.toNat ^^^ (a.toNat &&& b.toNat) := by
    rw [Int32.toBitVec_and, Int32.toBitVec_xor, BitVec.toNat_and, BitVec.toNat_xor, bv_nn ha.1 ha.2, bv_nn hb.1 hb.2]
    have e : (Int32.ofInt (-1)).toBitVec.toNat = 2 ^ 32 - 1 := by decide
    rw [e]
    apply Nat.eq_of_testBit_eq
    intro i
    rw [Nat.testBit_and, Nat.testBit_xor, Nat.testBit_two_pow_sub_one, Nat.testBit_xor, Nat.testBit_and]
    by_cases hi : i < 32
    · rw [decide_eq_true hi]
      cases a.toNat.testBit i <;> cases b.toNat.testBit i <;> rfl
    · have : a.toNat.testBit i = false := Nat.testBit_lt_two_pow (Nat.lt_of_lt_of_le (show a.toNat < 2 ^ 31 by omega) (Nat.pow_le_pow_right (by decide) (by omega)))
      rw [this]
      simp
  have h2 : a.toNat ^^^ (a.toNat &&& b.toNat) < 2 ^ 31 := Nat.xor_lt_two_pow (by omega) (Nat.lt_of_le_of_lt Nat.and_le_left (by omega))
  rw [toInt_nn _ (by rw [h]; exact h2), h]
/-- a bit of a set -/
theorem bit_at {S b : Int} (hS : 0 ≤ S ∧ S < 2147483648) (hb : 0 ≤ b ∧ b < 31) : iand (ishr S b) 1 = if S.toNat.testBit b.toNat then 1 else 0 := by
  rw [ishr_ok (by omega) (by omega)]
  have h0 : 0 ≤ S / ((2 ^ b.toNat : Nat) : Int) := Int.ediv_nonneg hS.1 (Int.natCast_nonneg _)
  have h1 : S / ((2 ^ b.toNat : Nat) : Int) ≤ S := Int.ediv_le_self _ hS.1
  rw [iand_nn ⟨h0, by omega⟩ (by decide)]
  have e : (S / ((2 ^ b.toNat : Nat) : Int)).toNat = S.toNat >>> b.toNat := by
    rw [Nat.shiftRight_eq_div_pow]
    obtain ⟨n, rfl⟩ : ∃ n : Nat, S = (n : Int) := ⟨S.toNat, by omega⟩
    rw [← Int.natCast_ediv]
    rfl
  rw [e]
  show (((S.toNat >>> b.toNat) &&& 1 : Nat) : Int) = _
  rw [Nat.and_comm, Nat.testBit]
  have hh : 1 &&& (S.toNat >>> b.toNat) = (S.toNat >>> b.toNat) % 2 := by rw [Nat.and_comm]; exact Nat.and_two_pow_sub_one_eq_mod _ 1
  rw [hh]
  by_cases q : (S.toNat >>> b.toNat) % 2 = 0
  · rw [q]; rfl
  · have : (S.toNat >>> b.toNat) % 2 = 1 := by omega
    rw [this]; rfl
