/-! letters of names -/
theorem i64_nat {a : Int} (ha : 0 ≤ a ∧ a < 9223372036854775808) : (Int64.ofInt a).toBitVec.toNat = a.toNat := by
  rw [Int64.toBitVec_ofInt, BitVec.toNat_ofInt]
  omega
theorem lushr_ok {a : Int} {k : Nat} (ha : 0 ≤ a ∧ a < 9223372036854775808) (hk : k < 64) : lushr a k = ((a.toNat / 2 ^ k : Nat) : Int) := by
  have e2 : ((Int32.ofInt (k : Int)).toInt64.toUInt64 &&& Int64.toUInt64 63).toNat = k := by
    have : ∀ j : Fin 64, ((Int32.ofInt ((j.val : Nat) : Int)).toInt64.toUInt64 &&& Int64.toUInt64 63).toNat = j.val := by decide
    exact this ⟨k, hk⟩
  have e1 : ((Int64.ofInt a).toUInt64 >>> ((Int32.ofInt (k : Int)).toInt64.toUInt64 &&& Int64.toUInt64 63)).toNat = a.toNat / 2 ^ k := by
    rw [UInt64.toNat_shiftRight, e2, Nat.mod_eq_of_lt hk, Nat.shiftRight_eq_div_pow]
    congr 1
    exact i64_nat ha
  unfold lushr
  generalize (Int64.ofInt a).toUInt64 >>> ((Int32.ofInt (k : Int)).toInt64.toUInt64 &&& Int64.toUInt64 63) = z at e1
  have hb : a.toNat / 2 ^ k ≤ a.toNat := Nat.div_le_self _ _
  show z.toBitVec.toInt = _
  rw [BitVec.toInt_eq_toNat_of_lt (by show 2 * z.toNat < _; rw [e1]; omega)]
  show ((z.toNat : Nat) : Int) = _
  rw [e1]
theorem land_255 {a : Int} (ha : 0 ≤ a ∧ a < 9223372036854775808) : land a 255 = ((a.toNat % 256 : Nat) : Int) := by
  have e : (Int64.ofInt a &&& Int64.ofInt 255).toBitVec.toNat = a.toNat % 256 := by
    rw [Int64.toBitVec_and, BitVec.toNat_and, i64_nat ha, i64_nat (by decide)]
    exact Nat.and_two_pow_sub_one_eq_mod _ 8
  unfold land
  have hb : a.toNat % 256 < 256 := Nat.mod_lt _ (by decide)
  show (Int64.ofInt a &&& Int64.ofInt 255).toBitVec.toInt = _
  rw [BitVec.toInt_eq_toNat_of_lt (by rw [e]; omega), e]
theorem iand_31 {x : Int} (h : 0 ≤ x ∧ x < 2147483648) : iand x 31 = x % 32 := by
  rw [iand_nn h (by decide)]
  have := Nat.and_two_pow_sub_one_eq_mod x.toNat 5
  show ((x.toNat &&& 31 : Nat) : Int) = _
  rw [show (31 : Nat) = 2 ^ 5 - 1 from rfl, this]
  omega
def ndig (l : List Nat) : Prop := ∀ x ∈ l, 1 ≤ x ∧ x ≤ 26
theorem pk5_rng : ∀ l : List Nat, ndig l → 0 ≤ pk5 l ∧ pk5 l < 32 ^ l.length ∧ (l ≠ [] → 1 ≤ pk5 l)
  | [], _ => ⟨Int.le_refl _, by decide, fun h => absurd rfl h⟩
  | x :: l, h => by
    obtain ⟨h1, h2, _⟩ := pk5_rng l (fun y hy => h y (List.mem_cons_of_mem _ hy))
    have hx := h x (List.mem_cons_self ..)
    have e : pk5 (x :: l) = pk5 l * 32 + x := rfl
    have p : (32 : Int) ^ (x :: l).length = 32 ^ l.length * 32 := by rw [List.length_cons, Int.pow_succ]
    rw [e, p]
    exact ⟨by omega, by omega, fun _ => by omega⟩
theorem pk8_rng : ∀ l : List Nat, ndig l → 0 ≤ pk8 l ∧ pk8 l < 256 ^ l.length ∧ (l ≠ [] → 1 ≤ pk8 l)
  | [], _ => ⟨Int.le_refl _, by decide, fun h => absurd rfl h⟩
  | x :: l, h => by
    obtain ⟨h1, h2, _⟩ := pk8_rng l (fun y hy => h y (List.mem_cons_of_mem _ hy))
    have hx := h x (List.mem_cons_self ..)
    have e : pk8 (x :: l) = pk8 l * 256 + (x + 96) := rfl
    have p : (256 : Int) ^ (x :: l).length = 256 ^ l.length * 256 := by rw [List.length_cons, Int.pow_succ]
    rw [e, p]
    exact ⟨by omega, by omega, fun _ => by omega⟩
theorem pk5_drop : ∀ (l : List Nat) (k : Nat), ndig l → pk5 l / ((32 ^ k : Nat) : Int) = pk5 (l.drop k)
  | l, 0, _ => by simp
  | [], k + 1, _ => by simp [pk5]
  | x :: l, k + 1, h => by
    have hl : ndig l := fun y hy => h y (List.mem_cons_of_mem _ hy)
    have hx := h x (List.mem_cons_self ..)
    have e : pk5 (x :: l) = pk5 l * 32 + x := rfl
    rw [List.drop_succ_cons, ← pk5_drop l k hl, e, show ((32 ^ (k + 1) : Nat) : Int) = 32 * ((32 ^ k : Nat) : Int) by rw [Nat.pow_succ]; omega, ← Int.ediv_ediv_of_nonneg (by omega)]
    congr 1
    omega
theorem pk8_drop : ∀ (l : List Nat) (k : Nat), ndig l → pk8 l / ((256 ^ k : Nat) : Int) = pk8 (l.drop k)
  | l, 0, _ => by simp
  | [], k + 1, _ => by simp [pk8]
  | x :: l, k + 1, h => by
    have hl : ndig l := fun y hy => h y (List.mem_cons_of_mem _ hy)
    have hx := h x (List.mem_cons_self ..)
    have e : pk8 (x :: l) = pk8 l * 256 + (x + 96) := rfl
    rw [List.drop_succ_cons, ← pk8_drop l k hl, e, show ((256 ^ (k + 1) : Nat) : Int) = 256 * ((256 ^ k : Nat) : Int) by rw [Nat.pow_succ]; omega, ← Int.ediv_ediv_of_nonneg (by omega)]
    congr 1
    omega
theorem p32 {L : Nat} (h : L ≤ 6) : (32 : Int) ^ L ≤ 1073741824 := by
  have : ∀ j : Fin 7, (32 : Int) ^ j.val ≤ 1073741824 := by decide
  exact this ⟨L, by omega⟩
theorem p256 {L : Nat} (h : L ≤ 6) : (256 : Int) ^ L ≤ 281474976710656 := by
  have : ∀ j : Fin 7, (256 : Int) ^ j.val ≤ 281474976710656 := by decide
  exact this ⟨L, by omega⟩
def letV (l : List Nat) (a : Int) : Int := if 0 ≤ a ∧ a < l.length then ((l[l.length - 1 - a.toNat]?.getD 0 : Nat) : Int) + 96 else -1
theorem drop_get {l : List Nat} {j : Nat} (h : j < l.length) : ∃ t, l.drop j = (l[j]?.getD 0) :: t := by
  refine ⟨l.drop (j + 1), ?_⟩
  rw [List.drop_eq_getElem_cons h, List.getElem?_eq_getElem h]
  rfl
theorem ndig_drop {l : List Nat} (h : ndig l) (k : Nat) : ndig (l.drop k) := fun x hx => h x (List.mem_of_mem_drop hx)
theorem pk5_zero {l : List Nat} (h : ndig l) {k : Nat} (hk : k ≤ l.length) : pk5 (l.drop k) = 0 ↔ k = l.length := by
  have q := pk5_rng _ (ndig_drop h k)
  refine ⟨fun e => ?_, fun e => by rw [e, List.drop_length]; rfl⟩
  apply Classical.byContradiction
  intro c
  have := q.2.2 (fun z => c (by have := List.drop_eq_nil_iff.mp z; omega))
  omega
theorem pk8_zero {l : List Nat} (h : ndig l) {k : Nat} (hk : k ≤ l.length) : pk8 (l.drop k) = 0 ↔ k = l.length := by
  have q := pk8_rng _ (ndig_drop h k)
  refine ⟨fun e => ?_, fun e => by rw [e, List.drop_length]; rfl⟩
  apply Classical.byContradiction
  intro c
  have := q.2.2 (fun z => c (by have := List.drop_eq_nil_iff.mp z; omega))
  omega
section Letter
variable {σ τ : Hp} {n b : Nat} {d : ND} {A : AD} {kn : Int} {now day : Nat} {D : DL}
theorem C_letterOf (hn : isNet n) {w : Nat} (hw : w < 12) {l : List Nat} (hl : nmOk l) (e : σ (n + 1) w = pk5 l) (a : Int) : wp (F_Net_letterOf n w a σ) (fun z s => z = letV l a ∧ s = σ) := by
  have hd : ndig l := hl.2.2
  have r := pk5_rng l hd
  have r6 := p32 hl.2.1
  have l6 := hl.2.1
  have g : (0 : Int) ≤ (w : Int) ∧ (w : Int) < 12 := by omega
  have sh : ∀ k : Nat, k ≤ 6 → ishr (pk5 l) (imul 5 (k : Int)) = pk5 (l.drop k) := fun k hk => by
    rw [imul_ok (by omega), ishr_ok (by omega) (by omega), ← pk5_drop l k hd, show (5 * (k : Int)).toNat = 5 * k by omega, Nat.pow_mul]
  have fin : wp (F_Net_letterOf_27 n w a (l.length : Int) σ) (fun z s => z = letV l a ∧ s = σ) := by
    unfold F_Net_letterOf_27 F_Net_letterOf_61 F_Net_letterOf_62
    refine wp_if (fun c => ?_) (fun c => wp_if (fun c2 => ?_) (fun c2 => ?_))
    · refine wp_ret ⟨?_, rfl⟩
      unfold letV
      rw [if_neg (by omega)]
    · refine wp_ret ⟨?_, rfl⟩
      unfold letV
      rw [if_neg (by omega)]
    · obtain ⟨t, et⟩ := drop_get (l := l) (j := l.length - 1 - a.toNat) (by omega)
      have ei : isub (isub (l.length : Int) 1) a = ((l.length - 1 - a.toNat : Nat) : Int) := by
        rw [isub_ok (a := (l.length : Int)) (by omega), isub_ok (by omega)]
        omega
      have q := pk5_rng _ (ndig_drop hd (l.length - 1 - a.toNat))
      have q2 := p32 (L := (l.drop (l.length - 1 - a.toNat)).length) (by rw [List.length_drop]; omega)
      have hx : 1 ≤ l[l.length - 1 - a.toNat]?.getD 0 ∧ l[l.length - 1 - a.toNat]?.getD 0 ≤ 26 := ndig_drop hd (l.length - 1 - a.toNat) _ (by rw [et]; exact List.mem_cons_self ..)
      rw [gd_pos g, Int.toNat_natCast, e, ei, sh _ (by omega), iand_31 (by omega), et]
      have e5 : pk5 (l[l.length - 1 - a.toNat]?.getD 0 :: t) = pk5 t * 32 + (l[l.length - 1 - a.toNat]?.getD 0 : Nat) := rfl
      rw [e5, show (pk5 t * 32 + ((l[l.length - 1 - a.toNat]?.getD 0 : Nat) : Int)) % 32 = ((l[l.length - 1 - a.toNat]?.getD 0 : Nat) : Int) by omega, iadd_ok (by omega), isub_ok (by omega)]
      refine wp_ret ⟨?_, rfl⟩
      unfold letV
      rw [if_pos (by omega)]
      omega
  unfold F_Net_letterOf F_Net_letterOf_2
  rw [gd_pos hn]
  refine wp_loop (fun x : Int × Hp => ∃ k : Nat, k ≤ l.length ∧ x.1 = (k : Int) ∧ x.2 = σ) (fun x => (300 - x.1).toNat) ?_ FU _ ?_ ?_
  · intro x K hp ih
    obtain ⟨x, s⟩ := x
    obtain ⟨k, hk, e1, es⟩ := hp
    dsimp only at e1 es ih ⊢
    rw [es]
    subst e1
    unfold F_Net_letterOf_2_b
    refine wp_if (fun c => ?_) (fun c => ?_)
    · have : k = l.length := by omega
      rw [this]
      exact fin
    · rw [gd_pos g, Int.toNat_natCast, e, sh k (by omega)]
      refine wp_if (fun c2 => ?_) (fun c2 => ?_)
      · rw [(pk5_zero hd hk).mp c2]
        exact fin
      · have : k ≠ l.length := fun z => c2 ((pk5_zero hd hk).mpr z)
        rw [lt_eq, iadd_ok (by omega)]
        exact ih _ ⟨k + 1, by omega, by show (k : Int) + 1 = ((k + 1 : Nat) : Int); omega, rfl⟩ (by dsimp only; omega)
  · exact ⟨0, by omega, rfl, rfl⟩
  · rw [FU_eq]
    show (300 - (0 : Int)).toNat < 20000
    omega
theorem M_letterOf {l : List Nat} (hl : nmOk l) (w a : Int) : wp (F_M_letter_31 w a FU (pk8 l, 0, pk8 l, τ)) (fun z s => z = letV l a ∧ s = τ) := by
  have hd : ndig l := hl.2.2
  have r := pk8_rng l hd
  have r6 := p256 hl.2.1
  have l6 := hl.2.1
  have fin : ∀ x6 K, x6 = 0 → wp (F_M_letter_31_b K w a (pk8 l) (l.length : Int) x6 τ) (fun z s => z = letV l a ∧ s = τ) := fun x6 K h0 => by
    unfold F_M_letter_31_b F_M_letter_61 F_M_letter_81
    rw [if_pos (lcmp_eq.mpr h0)]
    refine wp_if (fun c => ?_) (fun c => wp_if (fun c2 => ?_) (fun c2 => ?_))
    · refine wp_ret ⟨?_, rfl⟩
      unfold letV
      rw [if_neg (by omega)]
    · obtain ⟨t, et⟩ := drop_get (l := l) (j := l.length - 1 - a.toNat) (by omega)
      have ei : imul 8 (isub (isub (l.length : Int) 1) a) = ((8 * (l.length - 1 - a.toNat) : Nat) : Int) := by
        rw [isub_ok (a := (l.length : Int)) (by omega), isub_ok (by omega), imul_ok (by omega)]
        omega
      have hx : 1 ≤ l[l.length - 1 - a.toNat]?.getD 0 ∧ l[l.length - 1 - a.toNat]?.getD 0 ≤ 26 := ndig_drop hd (l.length - 1 - a.toNat) _ (by rw [et]; exact List.mem_cons_self ..)
      have ed := pk8_drop l (l.length - 1 - a.toNat) hd
      have q := pk8_rng _ (ndig_drop hd (l.length - 1 - a.toNat))
      have q2 := p256 (L := (l.drop (l.length - 1 - a.toNat)).length) (by rw [List.length_drop]; omega)
      rw [et] at ed q q2
      have e8 : pk8 (l[l.length - 1 - a.toNat]?.getD 0 :: t) = pk8 t * 256 + ((l[l.length - 1 - a.toNat]?.getD 0 : Nat) + 96) := rfl
      have el : lushr (pk8 l) ((8 * (l.length - 1 - a.toNat) : Nat) : Int) = pk8 (l[l.length - 1 - a.toNat]?.getD 0 :: t) := by
        rw [lushr_ok (by omega) (by omega), ← ed, Nat.pow_mul, Int.natCast_ediv, Int.toNat_of_nonneg r.1]
      rw [ei, el, land_255 (by omega)]
      have e9 : (((pk8 (l[l.length - 1 - a.toNat]?.getD 0 :: t)).toNat % 256 : Nat) : Int) = ((l[l.length - 1 - a.toNat]?.getD 0 : Nat) : Int) + 96 := by
        rw [e8] at q ⊢
        omega
      rw [e9, w32_id (by omega)]
      refine wp_ret ⟨?_, rfl⟩
      unfold letV
      rw [if_pos (by omega)]
    · refine wp_ret ⟨?_, rfl⟩
      unfold letV
      rw [if_neg (by omega)]
  unfold F_M_letter_31
  refine wp_loop (fun x : Int × Int × Int × Hp => ∃ k : Nat, k ≤ l.length ∧ x.1 = pk8 l ∧ x.2.1 = (k : Int) ∧ x.2.2.1 = pk8 (l.drop k) ∧ x.2.2.2 = τ) (fun x => (300 - x.2.1).toNat) ?_ FU _ ?_ ?_
  · intro x K hp ih
    obtain ⟨x3, x5, x6, s⟩ := x
    obtain ⟨k, hk, e1, e2, e3, es⟩ := hp
    dsimp only at e1 e2 e3 es ih ⊢
    rw [es, e1]
    subst e2
    by_cases c : x6 = 0
    · have : k = l.length := (pk8_zero hd hk).mp (by rw [← e3]; exact c)
      rw [this]
      exact fin _ _ c
    · unfold F_M_letter_31_b
      have : k ≠ l.length := fun z => c (by rw [e3]; exact (pk8_zero hd hk).mpr z)
      have q := pk8_rng _ (ndig_drop hd k)
      have q2 := p256 (L := (l.drop k).length) (by rw [List.length_drop]; omega)
      have ed := pk8_drop (l.drop k) 1 (ndig_drop hd k)
      rw [List.drop_drop] at ed
      rw [if_neg (fun z => c (lcmp_eq.mp z)), lt_eq, lt_eq, iadd_ok (by omega), e3]
      refine ih _ ⟨k + 1, by omega, rfl, by show (k : Int) + 1 = ((k + 1 : Nat) : Int); omega, ?_, rfl⟩ (by dsimp only; omega)
      show lushr (pk8 (l.drop k)) 8 = pk8 (l.drop (k + 1))
      have e8 : lushr (pk8 (l.drop k)) 8 = (((pk8 (l.drop k)).toNat / 2 ^ 8 : Nat) : Int) := lushr_ok (a := pk8 (l.drop k)) (k := 8) (by omega) (by omega)
      rw [e8, ← ed, Int.natCast_ediv, Int.toNat_of_nonneg q.1]
  · exact ⟨0, by omega, rfl, rfl, rfl, rfl⟩
  · rw [FU_eq]
    show (300 - (0 : Int)).toNat < 20000
    omega
theorem S_letter (σ τ : Hp) (a1 a2 : Int) (h : Inv σ τ) : ∃ (z : Int) (σ' τ' : Hp), F_RD_letter a1 a2 σ = some (z, σ') ∧ F_M_letter a1 a2 τ = some (z, τ') ∧ Inv σ' τ' := by
  obtain ⟨n, b, d, A, kn, now, day, D, hI⟩ := id h
  obtain ⟨⟨g1, g2, g3, g4, g5⟩, ⟨c1, c2, c3, c4, c5, c6, c7⟩, ⟨m1, m2, m3, m4, m5, m6⟩, _⟩ := id hI
  have hb := m1.1
  have hW := g1.1
  unfold F_RD_letter F_RD_letter_21 F_M_letter
  rw [C_isSomebody g1 c1 c5.1, cl2_some, M_isWho g1 m1, cl2_some]
  by_cases c : 0 ≤ a1 ∧ a1 < dW d
  · rw [if_pos c, if_neg (c := (1 : Int) = 0) (by decide), if_neg (c := (1 : Int) = 0) (by decide)]
    obtain ⟨w, rfl⟩ : ∃ k : Nat, a1 = k := ⟨a1.toNat, by omega⟩
    have hw : w < dW d := by omega
    have hl := g5.1 w hw
    obtain ⟨z, s, e, ez, es⟩ := C_letterOf c1.1 (by omega) hl (c3 w hw) a2
    obtain ⟨z2, t, e2, ez2, et⟩ := M_letterOf (τ := τ) hl (w : Int) a2
    refine ⟨z, σ, τ, by rw [c5.1, lt_eq, Int.toNat_natCast, gd_pos c1.1, e, cl2_some, es], ?_, h⟩
    rw [m1.2.1, ix12 (by omega) (by omega), gd_pos (by omega), Int.toNat_natCast, m3 w hw, lt_eq, e2, ez2, ez, et]
  · rw [if_neg c]
    exact ⟨_, _, _, if_pos rfl, if_pos rfl, h⟩
end Letter
