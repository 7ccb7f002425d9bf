/-! the tape: end, feed -/
section Tape
variable {σ τ : Hp} {n b : Nat} {d : ND} {A : AD} {kn : Int} {now day : Nat} {D : DL}
def TapeI (σ τ : Hp) : Prop := 0 ≤ σ 1 1 ∧ σ 1 1 ≤ 900 ∧ σ 1 1 = τ 0 1 ∧ ∀ k, k < 900 → τ 1 k = σ 2 k % 256
def tpF (σ s : Hp) : Prop := ∀ q, q ≠ 1 → q ≠ 2 → s q = σ q
def tpM (τ t : Hp) : Prop := (∀ q, q ≠ 0 → q ≠ 1 → t q = τ q) ∧ ∀ i, i ≠ 1 → t 0 i = τ 0 i
theorem InvAt.tape (h : InvAt σ τ n b d A kn now day D) {s t : Hp} (h1 : tpF σ s) (h2 : tpM τ t) (h3 : TapeI s t) : InvAt s t n b d A kn now day D := by
  obtain ⟨g, ⟨c1, c2, c3, c4, c5, c6, c7⟩, m, ⟨d1, d2⟩, o1, o2, o3⟩ := id h
  have k : ∀ q, 3 ≤ q → s q = σ q := fun q hq => h1 q (by omega) (by omega)
  have hn : n = 50 ∨ n = 4 := c1.1
  refine ⟨g, ⟨c1.congr (fun i _ => by rw [k n (by omega)]) (fun q a x => k q (by omega)), c2.congr (fun q a x => k q (by omega)), fun w hw => ?_, ⟨?_, fun q hq => ?_⟩, ⟨?_, ?_, ?_, ?_⟩, ⟨?_, fun r hr => ?_⟩, c7.congr g.1 (by rw [h1 0 (by omega) (by omega)]) (fun q a x => k q (by omega)) ?_⟩, m.congr (fun q hq => ?_) (fun i hi => h2.2 i (by omega)), ⟨fun r hr => ?_, ?_⟩, ?_, h3, ?_⟩
  · rw [k (n + 1) (by omega)]; exact c3 w hw
  · rw [k 46 (by omega)]; exact c4.1
  · rw [k 47 (by omega), k 48 (by omega), k 49 (by omega)]; exact c4.2 q hq
  · rw [h1 0 (by omega) (by omega)]; exact c5.1
  · rw [k 3 (by omega)]; exact c5.2.1
  · rw [h1 0 (by omega) (by omega)]; exact c5.2.2.1
  · rw [h1 0 (by omega) (by omega)]; exact c5.2.2.2
  · rw [k 88 (by omega)]; exact c6.1
  · rw [k 89 (by omega), k 90 (by omega)]; exact c6.2 r hr
  · rw [k 169 (by omega)]; exact c7.2.2.2
  · exact h2.1 q (by omega) (by omega)
  · rw [k 174 (by omega), k 175 (by omega), h2.1 42 (by omega) (by omega), h2.1 43 (by omega) (by omega)]; exact d1 r hr
  · rw [k 173 (by omega)]; exact d2
  · rw [h1 0 (by omega) (by omega), h2.2 10 (by omega), h2.2 11 (by omega), h2.2 67 (by omega)]; exact o1
  · rw [k 181 (by omega), k 182 (by omega), h2.2 71 (by omega), h2.1 49 (by omega) (by omega)]; exact o3
theorem S_end (σ τ : Hp) (a1 : Int) (h : Inv σ τ) : ∃ (z : Int) (σ' τ' : Hp), F_RD_end a1 σ = some (z, σ') ∧ F_M_end a1 τ = some (z, τ') ∧ Inv σ' τ' := by
  obtain ⟨n, b, d, A, kn, now, day, D, hI⟩ := id h
  have hT : TapeI σ τ := hI.2.2.2.2.2.1
  obtain ⟨t1, t2, t3, t4⟩ := id hT
  unfold F_RD_end F_Bytes_cut F_Bytes_cut_12 F_M_end F_M_end_12
  rw [gd_pos (show isBytes 1 by decide)]
  by_cases c : a1 < 0
  · exact ⟨_, _, _, by rw [if_pos c, cl2_some, gd_pos (Or.inl rfl)], by rw [if_pos c], h⟩
  · by_cases c2 : a1 ≤ σ 1 1
    · refine ⟨1, hset σ 1 1 a1, hset τ 0 1 a1, by rw [if_neg c, if_pos c2, lt_eq, cl2_some, gd_pos (Or.inr rfl)], by rw [if_neg c, ← t3, if_pos c2, lt_eq], n, b, d, A, kn, now, day, D, hI.tape (fun q x y => by rw [hset_obj _ _ _ _ x]) ⟨fun q x y => by rw [hset_obj _ _ _ _ x], fun i hi => by rw [hset_get, if_neg (by omega)]⟩ ⟨?_, ?_, ?_, fun k hk => ?_⟩⟩
      · rw [hset_same]; omega
      · rw [hset_same]; omega
      · rw [hset_same, hset_same]
      · rw [hset_obj _ _ _ _ (by omega), hset_obj _ _ _ _ (by omega)]; exact t4 k hk
    · exact ⟨_, _, _, by rw [if_neg c, if_neg c2, cl2_some, gd_pos (Or.inl rfl)], by rw [if_neg c, ← t3, if_neg c2], h⟩
theorem loopF_s {α : Type} {body : (α → Option (Int × Hp)) → α → Option (Int × Hp)} {m : Nat} {a : α} : loopF body (m + 1) a = body (loopF body m) a := rfl
def cP (σ : Hp) (x : Int) : Hp := hset (hset σ 2 (σ 1 1).toNat (i2b (i2b x))) 1 1 (σ 1 1 + 1)
def mP (τ : Hp) (y : Int) : Hp := hset (hset τ 1 (τ 0 1).toNat y) 0 1 (τ 0 1 + 1)
/-- k more bytes on both tapes -/
def Fed (σ τ s t : Hp) (k : Int) : Prop := TapeI s t ∧ s 1 1 = σ 1 1 + k ∧ tpF σ s ∧ tpM τ t
theorem Fed.one {s t : Hp} {k x y : Int} (h : Fed σ τ s t k) (hk : s 1 1 < 900) (e : y = x % 256) : Fed σ τ (cP s x) (mP t y) (k + 1) := by
  obtain ⟨⟨t1, t2, t3, t4⟩, h1, h2, h3⟩ := h
  refine ⟨⟨?_, ?_, ?_, fun j hj => ?_⟩, ?_, fun q a1 a2 => ?_, fun q a1 a2 => ?_, fun i hi => ?_⟩
  · unfold cP; rw [hset_same]; omega
  · unfold cP; rw [hset_same]; omega
  · unfold cP mP; rw [hset_same, hset_same, t3]
  · unfold cP mP
    simp only [hset_get, Nat.reduceEqDiff, false_and, true_and, if_false, ← t3]
    by_cases c : j = (s 1 1).toNat
    · rw [if_pos c, if_pos c, e, i2b_eq, i2b_eq]
      omega
    · rw [if_neg c, if_neg c]
      exact t4 j hj
  · unfold cP; rw [hset_same, h1]; omega
  · unfold cP; rw [hset_obj _ _ _ _ a1, hset_obj _ _ _ _ a2]; exact h2 q a1 a2
  · unfold mP; rw [hset_obj _ _ _ _ a1, hset_obj _ _ _ _ a2]; exact h3.1 q a1 a2
  · unfold mP; rw [hset_get, if_neg (by omega), hset_obj _ _ _ _ (by omega)]; exact h3.2 i hi
theorem C_put1 {s : Hp} (h : 0 ≤ s 1 1 ∧ s 1 1 < 900) (x : Int) : F_Bytes_put 1 x s = some (0, cP s x) := by
  have e : lenOf shC (1 + 1) = 900 := by decide
  unfold F_Bytes_put F_Bytes_put_33
  rw [gd_pos (show isBytes 1 by decide), e]
  show (if (900 : Int) ≤ s 1 1 then _ else _) = _
  rw [if_neg (by omega)]
  show gd (0 ≤ s 1 1 ∧ s 1 1 < (900 : Int)) _ = _
  rw [gd_pos h, lt_eq, lt_eq, hset_obj _ _ _ _ (by omega), iadd_ok (by omega)]
  rfl
theorem fed4 {s t : Hp} {k : Int} (h : Fed σ τ s t k) (hk : s 1 1 ≤ 896) {a : Int} (ha : -2147483648 ≤ a ∧ a < 2147483648) : ∃ s' t', F_Bytes_putNumber 1 a s = some (0, s') ∧ F_M_put a t = some (0, t') ∧ Fed σ τ s' t' (k + 4) := by
  obtain ⟨⟨t1, t2, t3, t4⟩, h1, h2, h3⟩ := id h
  have r16 : ishr a 16 = a / 65536 := by rw [ishr_ok ha (by decide)]; rfl
  have r8 : ishr a 8 = a / 256 := by rw [ishr_ok ha (by decide)]; rfl
  have r24 : ishr a 24 = a / 16777216 := by rw [ishr_ok ha (by decide)]; rfl
  have r0 : ishr a 0 = a := by rw [ishr_ok ha (by decide)]; show a / 1 = a; omega
  have r168 : ishr (ishr a 16) 8 = a / 65536 / 256 := by rw [r16, ishr_ok (by omega) (by decide)]; rfl
  have f1 := h.one (x := ishr (ishr a 16) 8) (y := iand (ishr a 24) 255) (by omega) (by rw [iand_255, r168, r24]; omega)
  have g1 : (cP s (ishr (ishr a 16) 8)) 1 1 = s 1 1 + 1 := by rw [f1.2.1, h1]; omega
  have f2 := f1.one (x := ishr a 16) (y := iand (ishr a 16) 255) (by omega) (by rw [iand_255])
  have g2 : (cP (cP s (ishr (ishr a 16) 8)) (ishr a 16)) 1 1 = s 1 1 + 2 := by rw [f2.2.1, h1]; omega
  have f3 := f2.one (x := ishr a 8) (y := iand (ishr a 8) 255) (by omega) (by rw [iand_255])
  have g3 : (cP (cP (cP s (ishr (ishr a 16) 8)) (ishr a 16)) (ishr a 8)) 1 1 = s 1 1 + 3 := by rw [f3.2.1, h1]; omega
  have f4 := f3.one (x := a) (y := iand (ishr a 0) 255) (by omega) (by rw [iand_255, r0])
  refine ⟨_, _, ?_, ?_, by have : k + 4 = k + 1 + 1 + 1 + 1 := by omega
                           rw [this]
                           exact f4⟩
  · unfold F_Bytes_putNumber F_Bytes_putTwo
    rw [gd_pos (show isBytes 1 by decide), gd_pos (show isBytes 1 by decide), C_put1 (by omega), cl2_some, C_put1 (by omega), cl2_some, cl2_some, gd_pos (show isBytes 1 by decide), C_put1 (by omega), cl2_some, C_put1 (by omega), cl2_some, cl2_some]
  · obtain ⟨m, hm⟩ : ∃ m, FU = m + 1 + 1 + 1 + 1 + 1 := ⟨19995, by rw [FU_eq]⟩
    have st : ∀ (K : Int × Hp → Option (Int × Hp)) (x : Int) (u : Hp), 0 ≤ x → x ≤ 24 → 0 ≤ u 0 1 ∧ u 0 1 < 900 → F_M_put_3_b K a x u = K (x - 8, mP u (iand (ishr a x) 255)) := fun K x u hx hx2 hu => by
      unfold F_M_put_3_b
      rw [if_neg (by omega), gd_pos hu, lt_eq, lt_eq, hset_obj _ _ _ _ (by omega), iadd_ok (by omega), lt_eq, iadd_ok (by omega)]
      rfl
    have q1 := f1.1.2.2.1
    have q2 := f2.1.2.2.1
    have q3 := f3.1.2.2.1
    unfold F_M_put F_M_put_3
    rw [hm, loopF_s]
    show F_M_put_3_b _ a 24 t = _
    rw [st _ 24 t (by decide) (by decide) (by omega), loopF_s]
    show F_M_put_3_b _ a 16 _ = _
    rw [st _ 16 (mP t (iand (ishr a 24) 255)) (by decide) (by decide) (by omega), loopF_s]
    show F_M_put_3_b _ a 8 _ = _
    rw [st _ 8 (mP (mP t (iand (ishr a 24) 255)) (iand (ishr a 16) 255)) (by decide) (by decide) (by omega), loopF_s]
    show F_M_put_3_b _ a 0 _ = _
    rw [st _ 0 (mP (mP (mP t (iand (ishr a 24) 255)) (iand (ishr a 16) 255)) (iand (ishr a 8) 255)) (by decide) (by decide) (by omega), loopF_s]
    show F_M_put_3_b _ a (-8) _ = _
    unfold F_M_put_3_b
    rw [if_pos (by decide)]
theorem S_feed (σ τ : Hp) (a1 a2 a3 a4 a5 : Int) (i1 : -2147483648 ≤ a1 ∧ a1 < 2147483648) (i2 : -2147483648 ≤ a2 ∧ a2 < 2147483648) (i3 : -2147483648 ≤ a3 ∧ a3 < 2147483648) (i4 : -2147483648 ≤ a4 ∧ a4 < 2147483648) (i5 : -2147483648 ≤ a5 ∧ a5 < 2147483648) (h : Inv σ τ) :
    ∃ (z : Int) (σ' τ' : Hp), F_RD_feed a1 a2 a3 a4 a5 σ = some (z, σ') ∧ F_M_feed a1 a2 a3 a4 a5 τ = some (z, τ') ∧ Inv σ' τ' := by
  obtain ⟨n, b, d, A, kn, now, day, D, hI⟩ := id h
  have hT : TapeI σ τ := hI.2.2.2.2.2.1
  obtain ⟨t1, t2, t3, t4⟩ := id hT
  have e : lenOf shC (1 + 1) = 900 := by decide
  have F0 : Fed σ τ σ τ 0 := ⟨hT, by omega, fun _ _ _ => rfl, fun _ _ _ => rfl, fun _ _ => rfl⟩
  unfold F_RD_feed F_Bytes_hasRoom F_Bytes_hasRoom_19 F_M_feed
  rw [gd_pos (show isBytes 1 by decide), e, iadd_ok (by omega), ← t3, iadd_ok (by omega)]
  show ∃ (z : Int) (σ' τ' : Hp), cl2 (if (900 : Int) < σ 1 1 + 20 then _ else _) _ = some (z, σ') ∧ _
  by_cases c : 900 < σ 1 1 + 20
  · rw [if_pos c, if_neg (by omega)]
    exact ⟨_, _, _, rfl, rfl, h⟩
  · rw [if_neg c, if_pos (by omega)]
    obtain ⟨s1, u1, e1, m1, f1⟩ := fed4 F0 (by omega) i1
    obtain ⟨s2, u2, e2, m2, f2⟩ := fed4 f1 (by have := f1.2.1; omega) i2
    obtain ⟨s3, u3, e3, m3, f3⟩ := fed4 f2 (by have := f2.2.1; omega) i3
    obtain ⟨s4, u4, e4, m4, f4⟩ := fed4 f3 (by have := f3.2.1; omega) i4
    obtain ⟨s5, u5, e5, m5, f5⟩ := fed4 f4 (by have := f4.2.1; omega) i5
    refine ⟨s5 1 1, s5, u5, ?_, ?_, n, b, d, A, kn, now, day, D, hI.tape f5.2.2.1 f5.2.2.2 f5.1⟩
    · rw [gd_pos (Or.inr rfl), cl2_some, if_neg (by decide), e1, cl2_some, e2, cl2_some, e3, cl2_some, e4, cl2_some, e5, cl2_some]
      unfold F_Bytes_size
      rw [gd_pos (show isBytes 1 by decide), cl2_some]
    · rw [m1, cl2_some, m2, cl2_some, m3, cl2_some, m4, cl2_some, m5, cl2_some, f5.1.2.2.1]
end Tape
