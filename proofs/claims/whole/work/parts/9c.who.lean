/-! who lives there -/
section WhoB
variable {X : Cx} {s t : Hp} {f : Nat → Int} {N cnt nn b p v c cm : Nat} {d : ND}
theorem who_front (T : TK X t p) : (if t 0 3 = 1 then (cl2 (F_M_isOwn (t 0 7) t) fun v37 s38 => if v37 = 0 then F_M_who_59 s38 else F_M_who_50 s38) else F_M_who_50 t) = if kX X p = 280 then F_M_who_59 t else F_M_who_50 t := by
  have hk := kd_ge T.1.1 T.2.1
  by_cases c : 256 ≤ kX X p ∧ kX X p ≠ 281
  · rw [if_pos (T.nm c.1 c.2).1, M_isOwn T c.1 c.2]
    by_cases c2 : kX X p = 280
    · rw [if_pos c2, cl2_some, if_pos rfl, if_pos c2]
    · rw [if_neg c2, cl2_some, if_neg (by decide), if_neg c2]
  · rw [if_neg (by omega : ¬ kX X p = 280), if_neg]
    obtain ⟨h1, h2, h3, h4, h5, h6, h7, h8⟩ := T.2.2
    unfold kX at hk c
    rcases hk with z | z | z | z | z | z
    · exact absurd z h1
    · rw [h4 z]; decide
    · rw [(h7 z.1 z.2).1]; decide
    · exact absurd ⟨by omega, by omega⟩ c
    · exact absurd ⟨by omega, by omega⟩ c
    · rw [(h6 z).1]; decide
theorem who_87_bad (h : 0 < t 0 8) : F_M_who_87 t = some (0, t) := by
  unfold F_M_who_87
  rw [if_neg (by omega)]
theorem who_59_bad (h : 0 < t 0 8) : F_M_who_59 t = some (0, t) := by
  unfold F_M_who_59
  rw [if_neg (by omega), who_87_bad h]
theorem number_bad (h : 0 < t 0 8) : F_M_number t = some (0, t) := by
  unfold F_M_number
  rw [if_neg (by omega)]
/-- behind a new name -/
def CTl (L : List Nat) (s1 : Hp) : Option (Int × Hp) := cl2 (F_Rdr_step s1) fun _ s15 => cl2 (F_Rdr_skip 257 s15) fun v17 s18 => if v17 = 0 then some (0, s18) else cl2 (F_Rdr_number s18) fun v21 s22 => if v21 = -1 then some (0, s22) else gd (isNet (s22 3 1).toNat) <| cl2 (F_Net_addWho (s22 3 1).toNat (pk5 L) v21 s22) fun _ s28 => some (1, s28)
def reX (X : Cx) (c : Nat) (s1 t2 : Hp) : Cx := ((xf X, xN X, xkQ X), (xn X, xb X, xW X, xlQ X, xmQ X), (c, xd X), (s1, t2), 0)
theorem who_tail (hX : FX X) {s1 t1 : Hp} {p1 : Nat} (hC1 : CSt X s1 p1 c []) (hh1 : ChS X t1 p1) (hk : kX X p1 = 280) (hW : xW X < 12) :
    ∃ z s' t', CTl (nmX X p1) s1 = some (z, s') ∧ F_M_who_87 t1 = some (0, t') ∧ TfC (xn X) s1 s' ∧ TfM (xb X) t1 t' ∧ ((z = 0 ∧ ∃ k pl, s' 3 6 = k ∧ s' 3 7 = pl ∧ t' 0 8 = k ∧ t' 0 9 = pl ∧ 0 < k) ∨ (z = 1 ∧ ∃ (p4 : Nat) (a : Int) (s5 : Hp), p1 < p4 ∧ (0 ≤ a ∧ a ≤ 9999) ∧ (AtC s5 (xf X) (xN X) (xkQ X) p4 ∧ s5 (xn X) 14 = (c : Int) ∧ p4 ≤ xN X) ∧ exF (xn X) c s1 s5 ∧ s' = hset (hset (hset s5 (xn X + 1) (xW X) (pk5 (nmX X p1))) (xn X + 2) (xW X) a) (xn X) 15 ((xW X + 1 : Nat) : Int) ∧
      ((kX X p4 = -2 ∧ t' 0 8 = 1 ∧ t' 0 9 = (sX X p4 : Nat)) ∨ (TkM t' (xf X) (xN X) p4 ∧ t' 2 (xb X) = ((xW X + 1 : Nat) : Int) ∧ (∀ i, t' 6 i = if i = 12 * xb X + xW X then pk8 (nmX X p1) else t1 6 i) ∧ (∀ i, t' 7 i = if i = 12 * xb X + xW X then a else t1 7 i) ∧ (∀ i, i ≠ xb X → t' 2 i = t1 2 i) ∧ (∀ i, nxI i → t' 0 i = t1 0 i) ∧ ∀ q, q ≠ 0 → q ≠ 2 → q ≠ 6 → q ≠ 7 → t' q = t1 q)))) := by
  have hp1 := hC1.2.2.2.2
  have hN := hX.2.1
  have T1 := hh1.tk hX hp1 (by omega)
  have hnm := T1.nm (by omega) (by omega)
  have hfix := hC1.fix hX
  obtain ⟨q1, q2, q3, q4, q5⟩ := xmF_fix hh1.1 hX.2.2.2
  have hb : (0 : Int) ≤ (xb X : Int) ∧ (xb X : Int) < 2 := by omega
  have hbd : (0 : Int) ≤ ((12 * xb X + xW X : Nat) : Int) ∧ ((12 * xb X + xW X : Nat) : Int) < 24 := by omega
  have k6 : ∀ i, hset t1 6 (12 * xb X + xW X) (pk8 (nmX X p1)) 6 i = if i = 12 * xb X + xW X then pk8 (nmX X p1) else t1 6 i := fun i => by rw [hset_row]
  have kq : ∀ q, q ≠ 6 → hset t1 6 (12 * xb X + xW X) (pk8 (nmX X p1)) q = t1 q := fun q h => by rw [hset_obj _ _ _ _ h]
  have hM : F_M_who_87 t1 = cl2 (F_M_next (hset t1 6 (12 * xb X + xW X) (pk8 (nmX X p1)))) fun _ s7 => cl2 (F_M_must_ 418431069797 s7) fun _ s10 => cl2 (F_M_number s10) fun v12 s13 => if (hset s13 7 (12 * xb X + xW X) v12) 0 8 = 0 then (gd (0 ≤ ((hset s13 7 (12 * xb X + xW X) v12) 0 31) ∧ ((hset s13 7 (12 * xb X + xW X) v12) 0 31) < (2 : Int)) <| some (0, hset (hset s13 7 (12 * xb X + xW X) v12) 2 ((hset s13 7 (12 * xb X + xW X) v12) 0 31).toNat (iadd ((hset s13 7 (12 * xb X + xW X) v12) 2 ((hset s13 7 (12 * xb X + xW X) v12) 0 31).toNat) 1))) else some (0, hset s13 7 (12 * xb X + xW X) v12) := by
    have e2 : iadd (imul 12 (xb X : Int)) (xW X : Int) = ((12 * xb X + xW X : Nat) : Int) := by
      rw [imul_ok (by omega), iadd_ok (by omega)]
      omega
    unfold F_M_who_87 F_M_who_164
    rw [if_pos (by rw [T1.f8.1]; decide), q3, gd_pos hb, Int.toNat_natCast, q4, e2, lt_eq, gd_pos hbd, Int.toNat_natCast, lt_eq, hnm.2.1]
    clear e2
    simp only [lt_eq, gd_pos hbd]
    congr 1
    funext _ s7
    congr 1
    funext _ s10
    congr 1
    funext v12 s13
    by_cases c8 : (hset s13 7 (12 * xb X + xW X) v12) 0 8 = 0
    · rw [if_pos c8, if_pos c8]
      unfold gd
      by_cases c9 : 0 ≤ ((hset s13 7 (12 * xb X + xW X) v12) 0 31) ∧ ((hset s13 7 (12 * xb X + xW X) v12) 0 31) < (2 : Int)
      · rw [if_pos c9, if_pos c9]
      · rw [if_neg c9, if_neg c9]
    · rw [if_neg c8, if_neg c8]
  have hf12 : TfM (xb X) t1 (hset t1 6 (12 * xb X + xW X) (pk8 (nmX X p1))) := TfM_set TfM_rfl (Or.inl ⟨by decide, by decide, by show 12 * xb X ≤ _; omega, by show _ < 12 * xb X + 12; omega⟩)
  generalize hset t1 6 (12 * xb X + xW X) (pk8 (nmX X p1)) = t2 at k6 kq hM hf12
  have hm2 : FixM t2 (xf X) (xN X) (xb X) (xW X) (xlQ X) (xmQ X) := ⟨q1, ⟨by rw [kq 0 (by decide)]; exact q2.1, q2.2.1, fun k hk => by rw [kq 1 (by decide)]; exact q2.2.2 k hk⟩, by rw [kq 0 (by decide)]; exact q3, by rw [kq 2 (by decide)]; exact q4, fun w hw => by
    rw [kq 7 (by decide), k6, if_neg (by omega)]
    exact q5 w hw⟩
  have hX2 : FX (reX X c s1 t2) := ⟨hX.1, hX.2.1, hfix, hm2⟩
  have hC2 : CSt (reX X c s1 t2) s1 p1 c [] := ⟨exF_rfl, hC1.2.1, hC1.2.2.1, RC_nil hC1.2.2.2.1.2.1, hp1⟩
  have hh2 : ChS (reX X c s1 t2) t2 p1 := ⟨xmF_rfl, Or.inr (TkM_congr T1.2.2 (fun i _ _ => by rw [kq 0 (by decide)]))⟩
  obtain ⟨s3, z3, t3, e3, hC3, m3, hh3, n3⟩ := both_next hX2 hC2 hh2 (by show 0 ≤ kX X p1; omega)
  have he1 := eX_ok hX2 hp1 (by show 0 ≤ kX X p1; omega)
  have hp2 := hC3.2.2.2.2
  have hfin : ∀ {u : Hp} {x : Int}, TfM (xb X) t2 u → TfM (xb X) t1 (hset u 7 (12 * xb X + xW X) x) := fun h => TfM_set (TfM_trans hf12 h) (Or.inl ⟨by decide, by decide, by show 12 * xb X ≤ _; omega, by show _ < 12 * xb X + 12; omega⟩)
  have u8 : ∀ {u : Hp} {x : Int} {i : Nat}, hset u 7 (12 * xb X + xW X) x 0 i = u 0 i := fun {u x i} => by rw [hset_obj _ _ _ _ (by decide)]
  rw [m3, cl2_some] at hM
  have hwd := both_word hX2 hC3 hh3 wcAlone
  unfold CTl
  rw [e3, cl2_some]
  by_cases c257 : kX (reX X c s1 t2) (eX (reX X c s1 t2) p1) = 257
  · obtain ⟨s4, t4, e4, hC4, m4, hh4, n4⟩ := hwd.2 c257
    rw [m4, cl2_some] at hM
    rw [e4, cl2_some, if_neg (by decide)]
    have he2 := eX_ok hX2 hp2 (by omega)
    have hp3 := hC4.2.2.2.2
    have hnu := both_number hX2 hC4 hh4
    by_cases c281 : kX (reX X c s1 t2) (eX (reX X c s1 t2) (eX (reX X c s1 t2) p1)) = 281
    · obtain ⟨s5, t5, e5, hC5, m5, hh5, n5, a0, a9⟩ := hnu.2 c281
      have he3 := eX_ok hX2 hp3 (by omega)
      have hp4 := hC5.2.2.2.2
      generalize nv (xf (reX X c s1 t2)) (xN (reX X c s1 t2)) (eX (reX X c s1 t2) (eX (reX X c s1 t2) p1)) = a at e5 m5 a0 a9
      rw [m5, cl2_some] at hM
      have hnet := hC5.net hX2
      have hfx5 := hC5.fix hX2
      have h15 : s5 (xn X) 15 = (xW X : Int) := hfx5.2.2.2.1.1
      have hn : xn X = 50 ∨ xn X = 4 := hfx5.1
      have hin : isNet (xn X) := hfix.1
      have hadd : F_Net_addWho (xn X) (pk5 (nmX X p1)) a s5 = some (0, hset (hset (hset s5 (xn X + 1) (xW X) (pk5 (nmX X p1))) (xn X + 2) (xW X) a) (xn X) 15 ((xW X + 1 : Nat) : Int)) := by
        have e1 : iadd (xW X : Int) 1 = ((xW X + 1 : Nat) : Int) := by rw [iadd_ok (by omega)]; omega
        have hwb : (0 : Int) ≤ (xW X : Int) ∧ (xW X : Int) < 12 := by clear e1; omega
        have n12 : ¬ (12 : Int) ≤ (xW X : Int) := by clear e1; omega
        have o1 : xn X ≠ xn X + 1 := by clear e1; omega
        have o2 : xn X ≠ xn X + 2 := by clear e1; omega
        unfold F_Net_addWho F_Net_addWho_39
        rw [gd_pos hin, h15, if_neg n12, gd_pos hwb, lt_eq, Int.toNat_natCast, hset_obj _ _ _ _ o1, h15, gd_pos hwb, lt_eq, Int.toNat_natCast, hset_obj _ _ _ _ o2, hset_obj _ _ _ _ o1, h15, e1, lt_eq]
      have hneg : a ≠ -1 := by omega
      rw [e5, cl2_some, if_neg hneg]
      have hnt : (s5 3 1).toNat = xn X := hnet.1
      rw [hnt, gd_pos hin, hadd, cl2_some]
      have hTc : TfC (xn X) s1 (hset (hset (hset s5 (xn X + 1) (xW X) (pk5 (nmX X p1))) (xn X + 2) (xW X) a) (xn X) 15 ((xW X + 1 : Nat) : Int)) := TfC_set (TfC_set (TfC_set (TfC_ex hC5.1) (by omega) (by omega)) (by omega) (by omega)) (by omega) (by omega)
      have h5q : ∀ q, q ≠ 0 → t5 q = t2 q := fun q h => by rw [n5.1 q h, n4.1 q h, n3.1 q h]
      have h50 : ∀ i, nxI i → t5 0 i = t1 0 i := fun i h => by rw [n5.2 i h, n4.2 i h, n3.2 i h, kq 0 (by decide)]
      have h31 : t5 0 31 = (xb X : Int) := by rw [h50 31 (by unfold nxI; decide)]; exact q3
      have hf5 := hfin (x := a) (TfM_xm hh5.1)
      by_cases cmf : kX (reX X c s1 t2) (eX (reX X c s1 t2) (eX (reX X c s1 t2) (eX (reX X c s1 t2) p1))) = -2
      · have hb5 := hh5.bad cmf
        rw [if_neg (by rw [u8]; omega)] at hM
        exact ⟨1, _, _, rfl, hM, hTc, hf5, Or.inr ⟨rfl, _, a, s5, by show p1 < _; omega, ⟨a0, a9⟩, ⟨hC5.2.1, hC5.2.2.1, hp4⟩, hC5.1, rfl, Or.inl ⟨cmf, by rw [u8]; exact hb5.1, by rw [u8]; exact hb5.2⟩⟩⟩
      · have T5 := hh5.tk hX2 hp4 cmf
        have t62 : hset t5 7 (12 * xb X + xW X) a 2 (xb X) = (xW X : Int) := by rw [hset_obj _ _ _ _ (by decide), h5q 2 (by decide), kq 2 (by decide)]; exact q4
        have e1 : iadd (xW X : Int) 1 = ((xW X + 1 : Nat) : Int) := by rw [iadd_ok (by omega)]; omega
        rw [if_pos (by rw [u8]; exact T5.f8.1), u8, h31, gd_pos hb, Int.toNat_natCast, t62, e1] at hM
        clear e1
        refine ⟨1, _, _, rfl, hM, hTc, TfM_set hf5 (Or.inl ⟨by decide, by decide, by show 1 * xb X ≤ _; omega, by show _ < 1 * xb X + 1; omega⟩), Or.inr ⟨rfl, _, a, s5, by show p1 < _; omega, ⟨a0, a9⟩, ⟨hC5.2.1, hC5.2.2.1, hp4⟩, hC5.1, rfl, Or.inr ⟨?_, hset_same _ _ _ _, fun i => ?_, fun i => ?_, fun i hi => ?_, fun i hi => ?_, fun q r1 r2 r3 r4 => ?_⟩⟩⟩
        · exact TkM_congr T5.2.2 (fun i _ _ => by rw [hset_obj _ _ _ _ (by decide), u8])
        · rw [hset_obj _ _ _ _ (by decide), hset_obj _ _ _ _ (by decide), h5q 6 (by decide), k6]
        · rw [hset_obj _ _ _ _ (by decide), hset_row, h5q 7 (by decide), kq 7 (by decide)]
        · rw [hset_row]
          dsimp only
          rw [if_neg hi, hset_obj _ _ _ _ (by decide), h5q 2 (by decide), kq 2 (by decide)]
        · rw [hset_obj _ _ _ _ (by decide), u8]
          exact h50 i hi
        · rw [hset_obj _ _ _ _ r2, hset_obj _ _ _ _ r4, h5q q r1, kq q r3]
    · obtain ⟨s5, u, z, e5, hf5, m5, hcf⟩ := hnu.1 c281
      have hb8 := hcf.2.1
      rw [m5, cl2_some, if_neg (by rw [u8]; omega)] at hM
      rw [e5, cl2_some, if_pos rfl]
      exact ⟨0, s5, _, rfl, hM, TfC_ex hf5.1, hfin (TfM_xm hcf.1), Or.inl ⟨rfl, 1, _, hf5.2.1, hf5.2.2, by rw [u8]; exact hcf.2.1, by rw [u8]; exact hcf.2.2.1, by decide⟩⟩
  · obtain ⟨s4, u, e4, hf4, m4, hcf⟩ := hwd.1 c257
    have hb8 := hcf.2.1
    rw [m4, cl2_some, number_bad (by omega), cl2_some, if_neg (by rw [u8]; omega)] at hM
    rw [e4, cl2_some, if_pos rfl]
    exact ⟨0, s4, _, rfl, hM, TfC_ex hf4.1, hfin (TfM_xm hcf.1), Or.inl ⟨rfl, 1, _, hf4.2.1, hf4.2.2, by rw [u8]; exact hcf.2.1, by rw [u8]; exact hcf.2.2.1, by decide⟩⟩
theorem AtC_cg {s s' : Hp} (h : AtC s f N cnt p) (e : s' 3 = s 3) : AtC s' f N cnt p := by
  obtain ⟨i, h1, h2, h3, h4, h5, h6⟩ := h
  exact ⟨i, h1, h2, by rw [e]; exact h3, by rw [e]; exact h4, by rw [e]; exact h5, by rw [e]; exact h6⟩
theorem ScnC_cg {s s' : Hp} (h : ScnC s f N cnt) (e : ∀ q, 42 ≤ q → q ≤ 45 → s' q = s q) : ScnC s' f N cnt := by
  obtain ⟨c1, c2, c3, c4, c5, c6⟩ := h
  exact ⟨by rw [e 42 (by decide) (by decide)]; exact c1, c2, c3, fun i hi => by rw [e 43 (by decide) (by decide), e 44 (by decide) (by decide), e 45 (by decide) (by decide)]; exact c4 i hi, c5, c6⟩
theorem St_who (h : TxI f N cnt nn b s t d v c cm p) (hk0 : kd f N p = 256) (hW : dW d < 12) : Stm f N cnt nn b s t d v p F_Rdr_whoLives F_M_who := by
  have hX := h.fx 0
  have hC := h.cs 0
  have hh := h.ch 0
  obtain ⟨⟨g1, g2, g3, g4, g5⟩, ⟨g6, g7, g8⟩, g9, g10, ⟨gC, gM, gc, gcm⟩, gT, gt, gz⟩ := h
  have hn : nn = 50 ∨ nn = 4 := g5
  have hkp : kX (cxT f N cnt nn b s t d c cm 0) p = 256 := hk0
  obtain ⟨s1, z1, t1, e1, hC1, m1, hh1, n1⟩ := both_next hX hC hh (by omega)
  have hp1 := hC1.2.2.2.2
  have he := eX_ok hX g3 (by omega)
  have T := hh.tk hX g3 (by omega)
  have hG : F_Rdr_whoLives s = if kX (cxT f N cnt nn b s t d c cm 0) (eX (cxT f N cnt nn b s t d c cm 0) p) = 280 then (cl2 (F_Scn_valueAt (s1 3 2) s1) fun v5 s6 => gd (isNet (s6 3 1).toNat) <| cl2 (F_Net_whoIs (s6 3 1).toNat v5 s6) fun v10 s11 => if v10 = -1 then (cl2 (F_Rdr_step s11) fun _ s15 => cl2 (F_Rdr_skip 257 s15) fun v17 s18 => if v17 = 0 then some (0, s18) else cl2 (F_Rdr_number s18) fun v21 s22 => if v21 = -1 then some (0, s22) else gd (isNet (s22 3 1).toNat) <| cl2 (F_Net_addWho (s22 3 1).toNat v5 v21 s22) fun _ s28 => some (1, s28)) else cl2 (F_Rdr_fail 2 s11) fun v30 s31 => gd (v30 = 0 ∨ v30 = 1) <| some (v30, s31)) else cl2 (F_Rdr_fail 1 s1) fun v34 s35 => gd (v34 = 0 ∨ v34 = 1) <| some (v34, s35) := by
    unfold F_Rdr_whoLives
    rw [e1, cl2_some, hC1.k]
    rfl
  have hH : F_M_who t = if t1 0 8 ≤ 0 then (if t1 0 3 = 1 then (cl2 (F_M_isOwn (t1 0 7) t1) fun v37 s38 => if v37 = 0 then F_M_who_59 s38 else F_M_who_50 s38) else F_M_who_50 t1) else some (0, t1) := by
    have h2 : t 2 b = dW d := gM.1.2.1
    have hb : (0 : Int) ≤ (b : Int) ∧ (b : Int) < 2 := by omega
    unfold F_M_who F_M_who_20 F_M_counts F_M_counts_13 F_M_counts_24
    rw [gM.2.2.2.1, gd_pos hb, Int.toNat_natCast, h2, if_neg (by omega), if_pos rfl, if_pos T.f8.1, m1, cl2_some, cl2_some]
  have hf1 : TfC nn s s1 := TfC_ex hC1.1
  have hfm1 : TfM b t t1 := TfM_xm hh1.1
  by_cases c280 : kX (cxT f N cnt nn b s t d c cm 0) (eX (cxT f N cnt nn b s t d c cm 0) p) = 280
  · have T1 := hh1.tk hX hp1 (by omega)
    rw [if_pos c280] at hG
    rw [if_pos (by have := T1.f8.1; omega), who_front T1, if_pos c280] at hH
    have hnm := T1.nm (by omega) (by omega)
    have hfix := hC1.fix hX
    have hv := C_valueW hfix.2.1 hC1.2.1 (by show 256 ≤ kX _ _; omega) (by show kX _ _ ≠ 281; omega)
    have hnet := hC1.net hX
    obtain ⟨z, s1', w1, w2, w3⟩ := C_whoIs hfix hnm.2.2.1
    subst w2
    obtain ⟨z', t1', y1, y2, y3⟩ := M_whoOf (xmF_fix hh1.1 hX.2.2.2) hfix.2.2.2.1.2 (fun w hw => (hfix.2.2.2.2 w hw).2.2.1) hnm.2.2.1
    subst y2
    have ez : z' = z := IsFst.uniq y3 w3
    subst ez
    have hv' : F_Scn_valueAt (s1' 3 2) s1' = some (pk5 (nmX (cxT f N cnt nn b s t d c cm 0) (eX (cxT f N cnt nn b s t d c cm 0) p)), s1') := hv
    rw [hv', cl2_some, hnet.1, gd_pos hnet.2, w1, cl2_some] at hG
    unfold F_M_who_59 at hH
    rw [if_pos T1.f8.1, hnm.2.1, y1, cl2_some] at hH
    by_cases cz : z' = -1
    · rw [if_pos cz] at hG hH
      obtain ⟨z, s', t', r1, r2, hfc, hfm, hr⟩ := who_tail hX hC1 hh1 c280 hW
      generalize hL : nmX (cxT f N cnt nn b s t d c cm 0) (eX (cxT f N cnt nn b s t d c cm 0) p) = L at hG hnm r1 hr
      refine ⟨z, s', t', hG.trans r1, hH.trans r2, TfC_trans hf1 hfc, TfM_trans hfm1 hfm, ?_⟩
      rcases hr with hr | ⟨hz, p4, a, s5, hp4, ha, ⟨x1, x2, x3⟩, hex, hs', hr⟩
      · exact Or.inl hr
      have hex' : exF nn c s1' s5 := hex
      have hex1 : exF nn c s s1' := hC1.1
      have hs2 : s' = hset (hset (hset s5 (nn + 1) (dW d) (pk5 L)) (nn + 2) (dW d) a) nn 15 ((dW d + 1 : Nat) : Int) := hs'
      have sq : ∀ q, q ≠ nn → q ≠ nn + 1 → q ≠ nn + 2 → s' q = s5 q := fun q i1 i2 i3 => by rw [hs2, hset_obj _ _ _ _ i1, hset_obj _ _ _ _ i3, hset_obj _ _ _ _ i2]
      have sq5 : ∀ q, q ≠ 3 → q ≠ nn → q ≠ nn + 36 → s5 q = s q := fun q i1 i2 i3 => by rw [hex'.1 q i1 i2 i3, hex1.1 q i1 i2 i3]
      have hAt : AtC s' f N cnt p4 := AtC_cg x1 (sq 3 (by omega) (by omega) (by omega))
      have hSc : ScnC s' f N cnt := ScnC_cg g6 (fun q i1 i2 => by rw [sq q (by omega) (by omega) (by omega), sq5 q (by omega) (by omega) (by omega)])
      rcases hr with ⟨m1, m2, m3⟩ | ⟨k1, k2, k6, k7, kb2, k0, kq⟩
      · exact Or.inr (Or.inl ⟨hz, p4, m1, hAt, hSc, m2, m3⟩)
      · have k6' : ∀ i, t' 6 i = if i = 12 * b + dW d then pk8 L else t1' 6 i := k6
        have k7' : ∀ i, t' 7 i = if i = 12 * b + dW d then a else t1' 7 i := k7
        have hpp : p < p4 := by omega
        refine Or.inr (Or.inr ⟨hz, addW d L a, c, cm, p4, ⟨⟨g1, g2, x3, g4, g5⟩, ⟨hSc, ?_, hAt⟩, ⟨?_, g9.2.1, fun k hk => ?_⟩, okD_addW g10 hW hnm.2.2.2 ha, ⟨ToC_addW gC (fun i => ?_) (fun i => ?_) ?_ (fun i i1 i2 => ?_) (fun q i1 i2 => ?_) (fun k hk => ?_), ToM_addW gM k2 (fun w hw => ?_) (fun w hw => ?_) hW (fun i hi => ?_) (fun q hq => ?_), by omega, by omega⟩, fun i hi => ?_, k1, fun r i1 i2 => ?_⟩, hpp⟩)
        · rw [sq 3 (by omega) (by omega) (by omega), hex'.2.1 1 (by decide) (by decide) (by decide) (by decide), hex1.2.1 1 (by decide) (by decide) (by decide) (by decide)]
          exact g7
        · rw [k0 2 (by unfold nxI; decide), n1.2 2 (by unfold nxI; decide)]
          exact g9.1
        · rw [kq 1 (by decide) (by decide) (by decide) (by decide), n1.1 1 (by decide)]
          exact g9.2.2 k hk
        · rw [hs2, hset_obj _ _ _ _ (by omega), hset_obj _ _ _ _ (by omega), hset_row, sq5 _ (by omega) (by omega) (by omega)]
        · rw [hs2, hset_obj _ _ _ _ (by omega), hset_row, hset_obj _ _ _ _ (by omega), sq5 _ (by omega) (by omega) (by omega)]
        · rw [hs2, hset_same]
        · rw [hs2, hset_get, if_neg (by omega), hset_obj _ _ _ _ (by omega), hset_obj _ _ _ _ (by omega)]
          by_cases c14 : i = 14
          · rw [c14]
            have x2' : s5 nn 14 = (c : Int) := x2
            rw [x2', gC.2.2.1]
          · rw [hex'.2.2.1 i c14, hex1.2.2.1 i c14]
        · rw [sq q (by omega) (by omega) (by omega), sq5 q (by omega) (by omega) (by omega)]
        · rw [sq _ (by omega) (by omega) (by omega), hex'.2.2.2 k hk, hex1.2.2.2 k hk]
        · rw [k6', n1.1 6 (by decide)]
          by_cases c1 : w = dW d
          · rw [if_pos c1, if_pos (by omega)]
          · rw [if_neg c1, if_neg (by omega)]
        · rw [k7', n1.1 7 (by decide)]
          by_cases c1 : w = dW d
          · rw [if_pos c1, if_pos (by omega)]
          · rw [if_neg c1, if_neg (by omega)]
        · rcases hi with rfl | rfl
          · rw [k0 30 (by unfold nxI; decide), n1.2 30 (by unfold nxI; decide)]
          · rw [k0 31 (by unfold nxI; decide), n1.2 31 (by unfold nxI; decide)]
        · rw [kq q (by omega) (by omega) (by omega) (by omega), n1.1 q (by omega)]
        · rw [sq _ (by omega) (by omega) (by omega), sq5 _ (by omega) (by omega) (by omega), kq 16 (by decide) (by decide) (by decide) (by decide), n1.1 16 (by decide)]
          exact gT i hi
        · rw [sq _ (by omega) (by omega) (by omega), sq5 _ (by omega) (by omega) (by omega)]
          exact gz r i1 i2
    · rw [if_neg cz] at hG hH
      obtain ⟨s2, e2, hf2⟩ := hC1.fail hX 2
      rw [e2, cl2_some, gd_pos (Or.inl rfl)] at hG
      rw [T1.bl, cl2_some, who_87_bad (by rw [BL_8.1]; decide)] at hH
      exact ⟨0, s2, _, hG, hH, TfC_ex hf2.1, TfM_xm (BL_xm hh1.1), Or.inl ⟨rfl, 2, _, hf2.2.1, hf2.2.2, BL_8.1, BL_8.2, by decide⟩⟩
  · obtain ⟨s2, e2, hf2⟩ := hC1.fail hX 1
    rw [if_neg c280, e2, cl2_some, gd_pos (Or.inl rfl)] at hG
    by_cases cm2 : kX (cxT f N cnt nn b s t d c cm 0) (eX (cxT f N cnt nn b s t d c cm 0) p) = -2
    · have hb := hh1.bad cm2
      rw [if_neg (by omega)] at hH
      exact ⟨0, s2, t1, hG, hH, TfC_ex hf2.1, hfm1, Or.inl ⟨rfl, 1, _, hf2.2.1, hf2.2.2, hb.1, hb.2, by decide⟩⟩
    · have T1 := hh1.tk hX hp1 cm2
      rw [if_pos (by have := T1.f8.1; omega), who_front T1, if_neg c280] at hH
      unfold F_M_who_50 at hH
      rw [T1.bl, cl2_some, who_59_bad (by rw [BL_8.1]; decide)] at hH
      exact ⟨0, s2, _, hG, hH, TfC_ex hf2.1, TfM_xm (BL_xm hh1.1), Or.inl ⟨rfl, 1, _, hf2.2.1, hf2.2.2, BL_8.1, BL_8.2, by decide⟩⟩
end WhoB
