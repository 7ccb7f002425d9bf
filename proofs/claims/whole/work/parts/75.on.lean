/-! on: an image read, on both sides -/
section On
variable {σ τ s t : Hp} {n b : Nat} {d : ND} {A : AD} {kn : Int} {now day : Nat} {D : DL}
/-- a byte of the tape; -1 behind its end -/
def bAt (f : Nat → Int) (N k : Nat) : Int := if k < N then f k else -1
/-- four bytes as the class takes them -/
def nAt (f : Nat → Int) (N k : Nat) : Int := iadd (ishl (iadd (ishl (bAt f N k) 8) (bAt f N (k + 1))) 16) (iadd (ishl (bAt f N (k + 2)) 8) (bAt f N (k + 3)))
def noD : DL := ((fun _ => false), fun _ => 0)
noncomputable def pOn (d : ND) (f : Nat → Int) (N : Nat) : Nat → Option (Nat × DL)
  | 0 => some (3, noD)
  | r + 1 => match pOn d f N r with
    | none => none
    | some x => if bAt f N x.1 = 1 then (if tkM d x.2 30 r &&& prM d r = 0 ∧ -1000000 ≤ nAt f N (x.1 + 1) ∧ nAt f N (x.1 + 1) ≤ 1000000 then some (x.1 + 5, addD x.2 r (nAt f N (x.1 + 1))) else none) else if bAt f N x.1 = 255 then some (x.1 + 1, x.2) else none
theorem pOn_s {f : Nat → Int} {N r : Nat} {x : Nat × DL} (h : pOn d f N r = some x) : pOn d f N (r + 1) = if bAt f N x.1 = 1 then (if tkM d x.2 30 r &&& prM d r = 0 ∧ -1000000 ≤ nAt f N (x.1 + 1) ∧ nAt f N (x.1 + 1) ≤ 1000000 then some (x.1 + 5, addD x.2 r (nAt f N (x.1 + 1))) else none) else if bAt f N x.1 = 255 then some (x.1 + 1, x.2) else none := by
  show (match pOn d f N r with | none => none | some x => _) = _
  rw [h]
theorem pOn_n {f : Nat → Int} {N r : Nat} (h : pOn d f N r = none) : pOn d f N (r + 1) = none := by
  show (match pOn d f N r with | none => none | some x => _) = _
  rw [h]
theorem pOn_none {f : Nat → Int} {N r : Nat} (h : pOn d f N r = none) : ∀ k, pOn d f N (r + k) = none
  | 0 => h
  | k + 1 => pOn_n (pOn_none h k)
theorem pOn_grow {f : Nat → Int} {N r : Nat} {x : Nat × DL} (h : pOn d f N r = some x) : ∀ k y, pOn d f N (r + k) = some y → x.1 + k ≤ y.1
  | 0, y, hy => by
    rw [Nat.add_zero, h] at hy
    cases hy
    exact Nat.le_refl _
  | k + 1, y, hy => by
    rcases e : pOn d f N (r + k) with _ | z
    · rw [show r + (k + 1) = (r + k) + 1 from rfl, pOn_n e] at hy
      cases hy
    · have ih := pOn_grow h k z e
      rw [show r + (k + 1) = (r + k) + 1 from rfl, pOn_s e] at hy
      split at hy
      · split at hy
        · cases hy
          show x.1 + (k + 1) ≤ z.1 + 5
          omega
        · cases hy
      · split at hy
        · cases hy
          show x.1 + (k + 1) ≤ z.1 + 1
          omega
        · cases hy
theorem pOn_told {f : Nat → Int} {N : Nat} : ∀ r x, pOn d f N r = some x → (∀ q, x.2.1 q = true → q < r) ∧ x.1 ≤ 3 + 5 * r
  | 0, x, h => by
    cases h
    exact ⟨fun q hq => absurd hq (show ¬ false = true by decide), Nat.le_refl _⟩
  | r + 1, x, h => by
    rcases e : pOn d f N r with _ | z
    · rw [pOn_n e] at h
      cases h
    · have ih := pOn_told r z e
      rw [pOn_s e] at h
      split at h
      · split at h
        · cases h
          refine ⟨fun q hq => ?_, show z.1 + 5 ≤ 3 + 5 * (r + 1) by omega⟩
          rcases addD_at.mp hq with y | y
          · have := ih.1 q y; omega
          · omega
        · cases h
      · split at h
        · cases h
          exact ⟨fun q hq => by have := ih.1 q hq; omega, show z.1 + 1 ≤ 3 + 5 * (r + 1) by omega⟩
        · cases h
theorem tk_free {E : DL} {r : Nat} (hr : r < dR d) (hR : dR d ≤ 30) (h : ∀ q, E.1 q = true → q < r) : tkM d E 30 r &&& prM d r = 0 ↔ Free d E r := by
  rw [and0, tkM_bt, tkM_bt]
  constructor
  · intro y q hq h1 h2
    have := h q h1
    exact ⟨fun z => y.1 ⟨q, this, h1, by omega, z⟩, fun z => y.2 ⟨q, this, h1, by omega, z⟩⟩
  · intro y
    constructor
    · rintro ⟨q, h1, h2, h3, h4⟩
      exact (y q (by omega) h2 (by omega)).1 h4
    · rintro ⟨q, h1, h2, h3, h4⟩
      exact (y q (by omega) h2 (by omega)).2 h4
theorem pOn_ok (hd : NDok d) (hD : DLok d D) {f : Nat → Int} {N : Nat} : ∀ r x, r ≤ dR d → pOn d f N r = some x → DLok d x.2
  | 0, x, _, h => by
    cases h
    exact ⟨hD.1, fun q hq => absurd hq (show ¬ false = true by decide)⟩
  | r + 1, x, hr, h => by
    rcases e : pOn d f N r with _ | z
    · rw [pOn_n e] at h
      cases h
    · have ih := pOn_ok hd hD r z (by omega) e
      have tl := pOn_told r z e
      rw [pOn_s e] at h
      split at h
      · split at h
        · rename_i c
          cases h
          exact DLok_add ih (by omega) ((tk_free (by omega) hd.2.1 tl.1).mp c.1) ⟨c.2.1, c.2.2⟩
        · cases h
      · split at h
        · cases h
          exact ih
        · cases h
/-- is the tape an image, and which deals does it tell -/
def OnP (d : ND) (f : Nat → Int) (N : Nat) (D' : DL) : Prop := 5 ≤ N ∧ f 0 = dR d ∧ 256 * f 1 + f 2 ≤ 999 ∧ pOn d f N (dR d) = some (N - 2, D') ∧ ckV f (N - 2) = 256 * f (N - 2) + f (N - 1)
/-! shifts -/
theorem shl_nat {a : Nat} {k : Nat} (ha : a < 2147483648) (hk : k < 32) : (Int32.ofInt (a : Int) <<< (Int32.ofInt (k : Int) &&& 31)).toBitVec.toNat = a * 2 ^ k % 2 ^ 32 := by
  rw [pk_shl (Int32.ofInt (a : Int)) _ k (sh_k k hk), bv_nn (by omega) (by omega), Int.toNat_natCast]
theorem ishl_8 {a : Int} (ha : 0 ≤ a ∧ a < 256) : ishl a 8 = 256 * a := by
  obtain ⟨m, rfl⟩ : ∃ m : Nat, a = m := ⟨a.toNat, by omega⟩
  have h := shl_nat (a := m) (k := 8) (by omega) (by decide)
  have e : m * 2 ^ 8 % 2 ^ 32 = m * 256 := Nat.mod_eq_of_lt (by omega)
  rw [e] at h
  unfold ishl
  rw [toInt_nn _ (by show ((Int32.ofInt (m : Int)) <<< (Int32.ofInt ((8 : Nat) : Int) &&& 31)).toBitVec.toNat < _; rw [h]; omega)]
  show (((Int32.ofInt (m : Int)) <<< (Int32.ofInt ((8 : Nat) : Int) &&& 31)).toBitVec.toNat : Int) = _
  rw [h]
  omega
theorem two_eq {a b : Int} (ha : 0 ≤ a ∧ a < 256) (hb : 0 ≤ b ∧ b < 256) : iadd (ishl a 8) b = 256 * a + b := by
  rw [ishl_8 ha, iadd_ok (by omega)]
theorem or_sum (a b c e : Nat) (hb : b < 256) (hc : c < 256) (he : e < 256) : a * 16777216 ||| b * 65536 ||| c * 256 ||| e = a * 16777216 + b * 65536 + c * 256 + e := by
  have h1 := Nat.two_pow_add_eq_or_of_lt (i := 24) (b := b * 65536) (by omega) a
  have h2 := Nat.two_pow_add_eq_or_of_lt (i := 16) (b := c * 256) (by omega) (a * 256 + b)
  have h3 := Nat.two_pow_add_eq_or_of_lt (i := 8) (b := e) (by omega) (a * 65536 + b * 256 + c)
  have e1 : 2 ^ 24 * a = a * 16777216 := by omega
  have e2 : 2 ^ 16 * (a * 256 + b) = a * 16777216 + b * 65536 := by omega
  have e3 : 2 ^ 8 * (a * 65536 + b * 256 + c) = a * 16777216 + b * 65536 + c * 256 := by omega
  rw [e1] at h1
  rw [e2] at h2
  rw [e3] at h3
  rw [← h1, ← h2, ← h3]
theorem word_eq {a b c e : Int} (ha : 0 ≤ a ∧ a < 256) (hb : 0 ≤ b ∧ b < 256) (hc : 0 ≤ c ∧ c < 256) (he : 0 ≤ e ∧ e < 256) : ior (ior (ior (ishl a 24) (ishl b 16)) (ishl c 8)) e = iadd (ishl (iadd (ishl a 8) b) 16) (iadd (ishl c 8) e) := by
  rw [two_eq ha hb, two_eq hc he]
  obtain ⟨a, rfl⟩ : ∃ m : Nat, a = m := ⟨a.toNat, by omega⟩
  obtain ⟨b, rfl⟩ : ∃ m : Nat, b = m := ⟨b.toNat, by omega⟩
  obtain ⟨c, rfl⟩ : ∃ m : Nat, c = m := ⟨c.toNat, by omega⟩
  obtain ⟨e, rfl⟩ : ∃ m : Nat, e = m := ⟨e.toNat, by omega⟩
  have x1 := shl_nat (a := a) (k := 24) (by omega) (by decide)
  have x2 := shl_nat (a := b) (k := 16) (by omega) (by decide)
  have x3 := shl_nat (a := c) (k := 8) (by omega) (by decide)
  have x4 : (Int32.ofInt (e : Int)).toBitVec.toNat = e := by rw [bv_nn (by omega) (by omega), Int.toNat_natCast]
  have x5 := shl_nat (a := 256 * a + b) (k := 16) (by omega) (by decide)
  rw [Nat.mod_eq_of_lt (by omega)] at x1
  rw [Nat.mod_eq_of_lt (by omega)] at x2
  rw [Nat.mod_eq_of_lt (by omega)] at x3
  rw [Nat.mod_eq_of_lt (by omega)] at x5
  have hs := or_sum a b c e (by omega) (by omega) (by omega)
  have L : ior (ior (ior (ishl (a : Int) 24) (ishl (b : Int) 16)) (ishl (c : Int) 8)) (e : Int) = Int.bmod ((a * 16777216 + b * 65536 + c * 256 + e : Nat) : Int) 4294967296 := by
    unfold ior ishl
    rw [Int32.ofInt_toInt, Int32.ofInt_toInt, Int32.ofInt_toInt, Int32.ofInt_toInt, Int32.ofInt_toInt, ← Int32.toInt_toBitVec, BitVec.toInt_eq_toNat_bmod, Int32.toBitVec_or, Int32.toBitVec_or, Int32.toBitVec_or, BitVec.toNat_or, BitVec.toNat_or, BitVec.toNat_or]
    have y1 : (Int32.ofInt (a : Int) <<< (Int32.ofInt 24 &&& 31)).toBitVec.toNat = a * 16777216 := x1
    have y2 : (Int32.ofInt (b : Int) <<< (Int32.ofInt 16 &&& 31)).toBitVec.toNat = b * 65536 := x2
    have y3 : (Int32.ofInt (c : Int) <<< (Int32.ofInt 8 &&& 31)).toBitVec.toNat = c * 256 := x3
    rw [y1, y2, y3, x4, hs]
  have R : ishl (256 * (a : Int) + (b : Int)) 16 = Int.bmod (((256 * a + b) * 65536 : Nat) : Int) 4294967296 := by
    unfold ishl
    have y5 : (Int32.ofInt (256 * (a : Int) + (b : Int)) <<< (Int32.ofInt 16 &&& 31)).toBitVec.toNat = (256 * a + b) * 65536 := by
      have : (256 * (a : Int) + (b : Int)) = ((256 * a + b : Nat) : Int) := by omega
      rw [this]
      exact x5
    rw [← Int32.toInt_toBitVec, BitVec.toInt_eq_toNat_bmod, y5]
  rw [L, R]
  unfold iadd w32
  rw [Int.bmod_def, Int.bmod_def, Int.bmod_def]
  clear x1 x2 x3 x4 x5 hs L R
  omega
theorem C_atA {N : Nat} (hN : s 1 1 = (N : Int)) (hl : N ≤ 900) (k : Nat) : F_Bytes_at 1 k s = some (bAt (fun j => s 2 j % 256) N k, s) := by
  have e : lenOf shC (1 + 1) = 900 := by decide
  unfold bAt
  by_cases c : k < N
  · rw [if_pos c]
    exact C_at (show isBytes 1 by decide) hN (by rw [e]; exact hl) c
  · rw [if_neg c]
    unfold F_Bytes_at F_Bytes_at_25 F_Bytes_at_26
    rw [gd_pos (show isBytes 1 by decide), if_neg (by omega), hN, if_pos (by omega)]
theorem C_two {N : Nat} (hN : s 1 1 = (N : Int)) (hl : N ≤ 900) {k : Nat} (hk : k < 100000) : F_Bytes_twoAt 1 k s = some (iadd (ishl (bAt (fun j => s 2 j % 256) N k) 8) (bAt (fun j => s 2 j % 256) N (k + 1)), s) := by
  have e : iadd (k : Int) 1 = ((k + 1 : Nat) : Int) := by rw [iadd_ok (by omega)]; omega
  unfold F_Bytes_twoAt
  rw [gd_pos (show isBytes 1 by decide), C_atA hN hl, cl2_some, e, C_atA hN hl, cl2_some]
theorem C_num {N : Nat} (hN : s 1 1 = (N : Int)) (hl : N ≤ 900) {k : Nat} (hk : k < 10000) : F_Bytes_numberAt 1 k s = some (nAt (fun j => s 2 j % 256) N k, s) := by
  have e : iadd (k : Int) 2 = ((k + 2 : Nat) : Int) := by rw [iadd_ok (by omega)]; omega
  unfold F_Bytes_numberAt
  rw [gd_pos (show isBytes 1 by decide), C_two hN hl (by omega), cl2_some, e, C_two hN hl (by omega), cl2_some]
  rfl
theorem tkM_congr {D E : DL} {x : Nat} : ∀ k, (∀ q, q < k → D.1 q = E.1 q) → tkM d D x k = tkM d E x k
  | 0, _ => rfl
  | k + 1, h => by
    rw [tkM_s, tkM_s, tkM_congr k (fun q hq => h q (by omega)), h k (by omega)]
theorem tk_add {E : DL} {r : Nat} {v : Int} (hr : r < 30) (h : ∀ q, E.1 q = true → q < r) : tkM d (addD E r v) 30 (r + 1) = tkM d E 30 r ||| prM d r := by
  rw [tkM_s, if_pos ⟨addD_at.mpr (Or.inr rfl), by omega⟩, tkM_congr r (E := E) (fun q hq => by
    show (E.1 q || (q == r)) = E.1 q
    have : (q == r) = false := by rw [beq_eq_false_iff_ne]; omega
    rw [this, Bool.or_false])]
theorem tk_keep {E : DL} {r : Nat} (h : ∀ q, E.1 q = true → q < r) : tkM d E 30 (r + 1) = tkM d E 30 r := by
  rw [tkM_s, if_neg (fun z => by have := h r z.1; omega)]
def rdF (σ s : Hp) : Prop := ∀ q, q ≠ 183 → q ≠ 184 → s q = σ q
def rdR (u : Hp) (E : DL) (k : Nat) : Prop := ∀ q, q < k → u 183 q = (if E.1 q = true then 1 else 0) ∧ (E.1 q = true → u 184 q = E.2 q)
theorem C_readDeals (hd : NDok d) (hN : NetC s n d) {N : Nat} (h1 : s 1 1 = (N : Int)) (hl : N ≤ 900) {f : Nat → Int} (hf0 : f = fun j => s 2 j % 256) :
    wp (F_Img_readDeals n s) (fun z u => rdF s u ∧ ((z = -1 ∧ pOn d f N (dR d) = none) ∨ ∃ x, pOn d f N (dR d) = some x ∧ z = (x.1 : Nat) ∧ rdR u x.2 30)) := by
  have hR := hd.2.1
  have hn : n = 50 ∨ n = 4 := hN.1
  unfold F_Img_readDeals F_Img_readDeals_8
  rw [gd_pos hN.1]
  refine wp_loop (fun a : Int × Int × Int × Hp => ∃ (r : Nat) (x : Nat × DL), r ≤ 30 ∧ pOn d f N (min r (dR d)) = some x ∧ a.1 = (x.1 : Nat) ∧ a.2.1 = (tkM d x.2 30 (min r (dR d)) : Nat) ∧ a.2.2.1 = (r : Int) ∧ rdF s a.2.2.2 ∧ rdR a.2.2.2 x.2 r) (fun a => (30 - a.2.2.1).toNat) ?_ FU _ ?_ ?_
  · intro a K hp ih
    obtain ⟨y1, y2, y3, u⟩ := a
    obtain ⟨r, x, hr, hx, e1, e2, e3, hf, hrd⟩ := hp
    dsimp only at e1 e2 e3 hf hrd ih ⊢
    subst e1 e2 e3
    have hNu : NetC u n d := hN.congr (fun i _ => by rw [hf n (by omega) (by omega)]) (fun q a c => hf q (by omega) (by omega))
    have tl := pOn_told _ _ hx
    have u1 : u 1 1 = (N : Int) := by rw [hf 1 (by decide) (by decide)]; exact h1
    have u2 : (fun j => u 2 j % 256) = f := by rw [hf0, hf 2 (by decide) (by decide)]
    unfold F_Img_readDeals_8_b F_Img_readDeals_43 F_Img_readDeals_44 F_Img_readDeals_86 F_Img_readDeals_117 F_Img_readDeals_161
    rw [hNu.2.2.1]
    refine wp_if (fun c => ?_) (fun c => ?_)
    · have er : min r (dR d) = dR d := by omega
      rw [er] at hx
      refine wp_ret ⟨hf, Or.inr ⟨x, hx, rfl, fun q hq => hrd q (by omega)⟩⟩
    · have g30 : (0 : Int) ≤ (r : Int) ∧ (r : Int) < 30 := by omega
      have zero : ∀ v : Hp, v = hset u 183 r 0 → ¬ x.2.1 r = true → rdF s v ∧ rdR v x.2 (r + 1) := by
        intro v hv hno
        subst hv
        refine ⟨fun q a1 a2 => by rw [hset_obj _ _ _ _ a1]; exact hf q a1 a2, fun q hq => ?_⟩
        rw [hset_row, hset_obj _ _ _ _ (by decide)]
        dsimp only
        by_cases e : q = r
        · rw [if_pos e, if_neg (by rw [e]; exact hno)]
          exact ⟨rfl, fun z => absurd z (by rw [e]; exact hno)⟩
        · rw [if_neg e]
          exact hrd q (by omega)
      by_cases cR : (dR d : Int) ≤ r
      · have em : min r (dR d) = dR d := by omega
        have em2 : min (r + 1) (dR d) = dR d := by omega
        rw [em] at hx tl
        have hno : ¬ x.2.1 r = true := fun z => by have := tl.1 r z; omega
        obtain ⟨z1, z2⟩ := zero _ rfl hno
        have hNz : NetC (hset u 183 r 0) n d := hN.congr (fun i _ => by rw [z1 n (by omega) (by omega)]) (fun q a c => z1 q (by omega) (by omega))
        rw [if_pos cR, gd_pos g30, lt_eq, Int.toNat_natCast, z1_eq (Or.inl rfl), gd_pos g30, hset_same, if_pos rfl, hNz.2.2.1, if_pos cR, lt_eq, iadd_ok (by omega), em]
        refine ih _ ⟨r + 1, x, by omega, by rw [em2]; exact hx, rfl, by rw [em2], by simp, z1, z2⟩ (by dsimp only; omega)
      · have hrR : r < dR d := by omega
        have em : min r (dR d) = r := by omega
        have em2 : min (r + 1) (dR d) = r + 1 := by omega
        rw [em] at hx tl
        have hno : ¬ x.2.1 r = true := fun z => by have := tl.1 r z; omega
        have hps := pOn_s hx
        have fail : pOn d f N (r + 1) = none → pOn d f N (dR d) = none := by
          intro h
          have := pOn_none h (dR d - (r + 1))
          rw [show r + 1 + (dR d - (r + 1)) = dR d by omega] at this
          exact this
        rw [if_neg cR, em, C_atA u1 hl, cl2_some, u2]
        by_cases c1 : bAt f N x.1 = 1
        · rw [if_pos c1] at hps
          have ek : iadd (x.1 : Int) 1 = ((x.1 + 1 : Nat) : Int) := by rw [iadd_ok (by omega)]; omega
          have v1 : hset u 183 r 1 1 1 = (N : Int) := by rw [hset_obj _ _ _ _ (by decide)]; exact u1
          have v2 : (fun j => hset u 183 r 1 2 j % 256) = f := by rw [hset_obj _ _ _ _ (by decide)]; exact u2
          have hN2 : NetC (hset (hset u 183 r 1) 184 r (nAt f N (x.1 + 1))) n d := hNu.congr (fun i _ => by rw [hset_obj _ _ _ _ (by omega), hset_obj _ _ _ _ (by omega)]) (fun q a c => by rw [hset_obj _ _ _ _ (by omega), hset_obj _ _ _ _ (by omega)])
          have hm := tkM_lt (d := d) (D := x.2) hd 30 r (by omega)
          have hpl := prM_l12 hd hrR
          rw [if_pos c1, gd_pos g30, lt_eq, Int.toNat_natCast, z1_eq (Or.inr rfl), gd_pos g30, hset_same, if_neg (by decide), ek]
          clear ek
          rw [C_num v1 hl (by omega), cl2_some, v2, gd_pos g30, lt_eq, C_pairOf hd hN2 hrR, cl2_some, iand_nn (by omega) (by omega), Int.toNat_natCast, Int.toNat_natCast, gd_pos g30, gd_pos g30, hset_same, C_pairOf hd hN2 hrR, cl2_some, ior_nn (by omega) (by omega), Int.toNat_natCast, Int.toNat_natCast]
          have hfr : rdF s (hset (hset u 183 r 1) 184 r (nAt f N (x.1 + 1))) := fun q a1 a2 => by rw [hset_obj _ _ _ _ a2, hset_obj _ _ _ _ a1]; exact hf q a1 a2
          by_cases c2 : tkM d x.2 30 r &&& prM d r = 0
          · rw [if_pos (c := ((tkM d x.2 30 r &&& prM d r : Nat) : Int) = 0) (by omega), if_neg (c := (1 : Int) = 0) (by decide)]
            refine wp_if (fun c3 => ?_) (fun c3 => ?_)
            · refine wp_ret ⟨hfr, Or.inl ⟨rfl, fail ?_⟩⟩
              rw [hps, if_neg (fun z => by have := z.2.1; omega)]
            · refine wp_if (fun c4 => ?_) (fun c4 => ?_)
              · rw [if_pos ⟨c2, by omega, c4⟩] at hps
                rw [lt_eq, lt_eq, lt_eq, iadd_ok (by omega), iadd_ok (by omega)]
                refine ih _ ⟨r + 1, _, by omega, by rw [em2]; exact hps, by dsimp only; omega, by rw [em2]; dsimp only; rw [tk_add (by omega) tl.1], by simp, hfr, fun q hq => ?_⟩ (by dsimp only; omega)
                dsimp only
                rw [hset_obj _ _ _ _ (by decide), hset_row, hset_row, hset_obj _ _ _ _ (by decide)]
                dsimp only
                by_cases e : q = r
                · rw [if_pos e, if_pos (addD_at.mpr (Or.inr e)), if_pos e]
                  refine ⟨rfl, fun _ => ?_⟩
                  show _ = if q = r then _ else _
                  rw [if_pos e]
                · rw [if_neg e, if_neg e]
                  have h := hrd q (by omega)
                  by_cases cq : x.2.1 q = true
                  · rw [if_pos (addD_at.mpr (Or.inl cq))]
                    rw [if_pos cq] at h
                    refine ⟨h.1, fun _ => ?_⟩
                    show _ = if q = r then _ else _
                    rw [if_neg e]
                    exact h.2 cq
                  · have no : ¬ (addD x.2 r (nAt f N (x.1 + 1))).1 q = true := fun z => (addD_at.mp z).elim cq e
                    rw [if_neg no]
                    rw [if_neg cq] at h
                    exact ⟨h.1, fun z => absurd z no⟩
              · refine wp_ret ⟨hfr, Or.inl ⟨rfl, fail ?_⟩⟩
                rw [hps, if_neg (fun z => c4 z.2.2)]
          · rw [if_neg (c := ((tkM d x.2 30 r &&& prM d r : Nat) : Int) = 0) (by omega), if_pos rfl]
            refine wp_ret ⟨hfr, Or.inl ⟨rfl, fail ?_⟩⟩
            rw [hps, if_neg (fun z => c2 z.1)]
        · rw [if_neg c1] at hps
          obtain ⟨z1, z2⟩ := zero _ rfl hno
          have hNz : NetC (hset u 183 r 0) n d := hN.congr (fun i _ => by rw [z1 n (by omega) (by omega)]) (fun q a c => z1 q (by omega) (by omega))
          have v1 : hset u 183 r 0 1 1 = (N : Int) := by rw [hset_obj _ _ _ _ (by decide)]; exact u1
          have v2 : (fun j => hset u 183 r 0 2 j % 256) = f := by rw [hset_obj _ _ _ _ (by decide)]; exact u2
          rw [if_neg c1, gd_pos g30, lt_eq, Int.toNat_natCast, z1_eq (Or.inl rfl), gd_pos g30, hset_same, if_pos rfl, hNz.2.2.1, if_neg cR, C_atA v1 hl, cl2_some, v2]
          by_cases c5 : bAt f N x.1 = 255
          · rw [if_pos c5] at hps
            rw [if_pos c5, lt_eq, lt_eq, iadd_ok (by omega), iadd_ok (by omega)]
            refine ih _ ⟨r + 1, (x.1 + 1, x.2), by omega, by rw [em2]; exact hps, by dsimp only; omega, by rw [em2]; dsimp only; rw [tk_keep tl.1], by simp, z1, z2⟩ (by dsimp only; omega)
          · rw [if_neg c5] at hps
            rw [if_neg c5]
            exact wp_ret ⟨z1, Or.inl ⟨rfl, fail hps⟩⟩
  · refine ⟨0, (3, noD), by omega, ?_, rfl, ?_, rfl, fun _ _ _ => rfl, fun q h => absurd h (by omega)⟩
    · rw [Nat.zero_min]; rfl
    · rw [Nat.zero_min]; rfl
  · rw [FU_eq]
    show (30 - (0 : Int)).toNat < 20000
    omega
end On
