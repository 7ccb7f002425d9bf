/-! the check's rounds: how it goes on behind a part -/
section GoesR
variable {X : Cx} {s t u : Hp} {p q c : Nat} {opd dp base : Nat} {F ph bg : Int} {B Xs : List FV} {O O1 : List Op} {Xv : FV}
def arK (k : Int) : Prop := k = 43 ∨ k = 45 ∨ k = 42 ∨ k = 47 ∨ k = 37
def StG (X : Cx) (t : Hp) (p dp : Nat) (F ph bg : Int) (base : Nat) (B : List FV) (O : List Op) (Xv : FV) : Prop := xmF (xP X) (xt X) t ∧ PSw X t p p 1 dp F ph bg base B O [Xv] ∧ t 0 41 = 1
theorem LSt_goes1 (h41 : t 0 41 = 1) (e : F_M_goesOn t = some (1, hset u 0 41 0)) : LSt X 1 1 t (if u 0 8 = 0 then 1 else 0) (hset u 0 41 0) := by
  have h := LSt_goes (X := X) h41 e
  have e8 : hset u 0 41 0 0 8 = u 0 8 := by rw [hset_get, if_neg (by decide)]
  rw [if_neg (by decide), e8] at h
  exact h
theorem KNt.k1 {tr : Hp} (h : KNt X u p opd dp F ph bg base B O Xs) (hl : lwF tr u dp base) (h41 : u 0 41 = (opd : Int)) : KSt X tr (if u 0 8 = 0 then 1 else 0) u p opd dp F ph bg base B O Xs := by
  refine ⟨h.1, hl, ?_⟩
  rcases h.2 with ⟨a1, a2, a3⟩ | g
  · left
    have e : (if u 0 8 = 0 then (1 : Int) else 0) = 0 := if_neg (by omega)
    exact ⟨a1, e, a2, a3⟩
  · right
    have e : (if u 0 8 = 0 then (1 : Int) else 0) = 1 := if_pos g.1.2.1.1
    exact ⟨e, g, h41⟩
theorem PSw.rb (h : PSw X t p q opd dp F ph bg base B O Xs) {B' Xs' : List FV} (e : wsO B' O ++ Xs' = wsO B O ++ Xs) : PSw X t p q opd dp F ph bg base B' O Xs' := by
  obtain ⟨a1, a2, a3, a4, a5, ⟨cm, c1, c2, c3⟩, a7⟩ := h
  exact ⟨a1, a2, a3, a4, a5, ⟨cm, c1, by rw [e]; exact c2, c3⟩, a7⟩
theorem G_ar (hX : FX X) (hP : PSw X t p q 1 dp F ph bg base B O Xs) (hk : arK (kX X p)) (hph : ph < 2) : F_M_goesOn t = F_M_goesOn_74 t := by
  have T := hP.tk hX
  have hdp := hP.2.2.1.2.2
  have hi : (0 : Int) ≤ ((dp - 1 : Nat) : Int) ∧ ((dp - 1 : Nat) : Int) < 20 := by omega
  have hn : ¬ 2 ≤ ph := by omega
  have e0 : isub (dp : Int) 1 = ((dp - 1 : Nat) : Int) := by rw [isub_ok (by omega)]; omega
  have hz : ∃ z, F_M_isTest F t = some (z, t) := by
    by_cases c : F = 1 ∨ F = 5
    · exact ⟨1, isT c⟩
    · exact ⟨0, isTn c⟩
  obtain ⟨z, hz⟩ := hz
  unfold F_M_goesOn
  rw [hP.2.2.1.1, e0, lt_eq, gd_pos hi, Int.toNat_natCast, hP.2.2.2.1.1, lt_eq, hz, cl2_some, gd_pos hi, hP.2.2.2.1.2.1, if_neg hn]
  clear e0
  by_cases c1 : kX X p = 43
  · rw [T.sY c1 (by decide), cl2_some, if_neg (by decide)]
  rw [T.sN c1 (by decide), cl2_some, if_pos rfl]
  by_cases c2 : kX X p = 45
  · rw [T.sY c2 (by decide), cl2_some, if_neg (by decide)]
  rw [T.sN c2 (by decide), cl2_some, if_pos rfl]
  by_cases c3 : kX X p = 42
  · rw [T.sY c3 (by decide), cl2_some, if_neg (by decide)]
  rw [T.sN c3 (by decide), cl2_some, if_pos rfl]
  by_cases c4 : kX X p = 47
  · rw [T.sY c4 (by decide), cl2_some, if_neg (by decide)]
  rw [T.sN c4 (by decide), cl2_some, if_pos rfl]
  by_cases c5 : kX X p = 37
  · rw [T.sY c5 (by decide), cl2_some, if_neg (by decide)]
  unfold arK at hk
  exact absurd hk (by omega)
theorem G_na (hX : FX X) (hP : PSw X t p q 1 dp F ph bg base B O Xs) (hk : ¬ arK (kX X p) ∨ 2 ≤ ph) {z : Int} (hz : F_M_isTest F t = some (z, t)) : F_M_goesOn t = F_M_goesOn_175 ((dp - 1 : Nat) : Int) F z t := by
  have T := hP.tk hX
  have hdp := hP.2.2.1.2.2
  have hi : (0 : Int) ≤ ((dp - 1 : Nat) : Int) ∧ ((dp - 1 : Nat) : Int) < 20 := by omega
  have e0 : isub (dp : Int) 1 = ((dp - 1 : Nat) : Int) := by rw [isub_ok (by omega)]; omega
  unfold F_M_goesOn
  rw [hP.2.2.1.1, e0, lt_eq, gd_pos hi, Int.toNat_natCast, hP.2.2.2.1.1, lt_eq, hz, cl2_some, gd_pos hi, hP.2.2.2.1.2.1]
  clear e0
  by_cases c : 2 ≤ ph
  · rw [if_pos c]
  · rw [if_neg c]
    have hk' := hk.resolve_right c
    unfold arK at hk'
    rw [T.sN (by omega) (by decide), cl2_some, if_pos rfl, T.sN (by omega) (by decide), cl2_some, if_pos rfl, T.sN (by omega) (by decide), cl2_some, if_pos rfl, T.sN (by omega) (by decide), cl2_some, if_pos rfl, T.sN (by omega) (by decide), cl2_some, if_pos rfl]
def rkA (k : Int) : Int := if k = 43 ∨ k = 45 then 5 else 6
theorem opc_ar {k : Int} (h : arK k) : (6 ≤ opc k ∧ opc k ≤ 10) ∧ rk (opc k) = rkA k := by
  unfold arK at h
  rcases h with rfl | rfl | rfl | rfl | rfl <;> decide
/-- + - * / % -/
theorem R_arith (hX : FX X) (h : StG X t p dp F ph 0 base B (O1 ++ O) Xv) (hk : arK (kX X p)) (hph : ph < 2) (hw : wfO O1 Xv) (hr : rkG (rkA (kX X p)) O1) (hh : hdL (rkA (kX X p)) O) : ∃ x' t', LSt X 1 1 t x' t' ∧ KSt X t x' t' (eX X p) 0 dp F ph 0 base B ((opc (kX X p), fld O1 Xv) :: O) [] := by
  obtain ⟨hx, hP, h41⟩ := h
  have T := hP.tk hX
  have h0 : 0 ≤ kX X p := by unfold arK at hk; omega
  have he := eX_ok hX T.2.1 h0
  have hop := opc_ar hk
  obtain ⟨u, e1, hP1, hj⟩ := M_joinsP hX hP hw hr hh
  have T1 := hP1.tk hX
  have hws : wsO B ((opc (kX X p), fld O1 Xv) :: O) ++ [] = wsO B O ++ [fld O1 Xv] := by
    show (if opc (kX X p) = 18 then wsO B O else wsO B O ++ [fld O1 Xv]) ++ [] = _
    rw [if_neg (by omega), List.append_nil]
  obtain ⟨v, e2, hP2, hb⟩ := M_holdP hX hP1 (opc (kX X p), fld O1 Xv) (q' := eX X p) (opd' := 0) hws ⟨by omega, by omega, he.2⟩
  obtain ⟨z, w, e3, hK, hn⟩ := M_nx hX hP2 (hb_xm (jn_xm hx hj) hb) h0 rfl
  have e161 : F_M_goesOn_161 (opc (kX X p)) u = some (1, hset w 0 41 0) := by
    have e2' : F_M_holdsBack (opc (kX X p)) u = some (0, v) := e2
    unfold F_M_goesOn_161
    rw [e2', cl2_some, e3, cl2_some, lt_eq]
  have e99 : F_M_goesOn_99 (rkA (kX X p)) t = some (1, hset w 0 41 0) := by
    unfold F_M_goesOn_99
    rw [e1, cl2_some, ← e161]
    by_cases c1 : kX X p = 43
    · rw [T1.sY c1 (by decide), cl2_some, if_neg (by decide), c1]
      rfl
    rw [T1.sN c1 (by decide), cl2_some, if_pos rfl]
    by_cases c2 : kX X p = 45
    · rw [T1.sY c2 (by decide), cl2_some, if_neg (by decide), c2]
      rfl
    rw [T1.sN c2 (by decide), cl2_some, if_pos rfl]
    by_cases c3 : kX X p = 42
    · rw [T1.sY c3 (by decide), cl2_some, if_neg (by decide), c3]
      rfl
    rw [T1.sN c3 (by decide), cl2_some, if_pos rfl]
    by_cases c4 : kX X p = 47
    · rw [T1.sY c4 (by decide), cl2_some, if_neg (by decide), c4]
      rfl
    have c5 : kX X p = 37 := by unfold arK at hk; omega
    rw [T1.sN c4 (by decide), cl2_some, if_pos rfl, c5]
    rfl
  have eG : F_M_goesOn t = some (1, hset w 0 41 0) := by
    rw [G_ar hX hP hk hph, ← e99]
    unfold F_M_goesOn_74 F_M_goesOn_93 rkA
    by_cases c1 : kX X p = 43
    · rw [T.sY c1 (by decide), cl2_some, if_neg (by decide), if_pos (Or.inl c1)]
    rw [T.sN c1 (by decide), cl2_some, if_pos rfl]
    by_cases c2 : kX X p = 45
    · rw [T.sY c2 (by decide), cl2_some, if_neg (by decide), if_pos (Or.inr c2)]
    rw [T.sN c2 (by decide), cl2_some, if_pos rfl, if_neg (by omega)]
  exact ⟨_, _, LSt_goes1 h41 eG, hK.k (nx_lw (hb_lw (jn_lw lwF_rfl hj) hb) hn) rfl⟩
theorem G_t (hX : FX X) (hP : PSw X t p q 1 dp F ph bg base B O Xs) (hk : ¬ arK (kX X p) ∨ 2 ≤ ph) (hF : F = 1 ∨ F = 5) : F_M_goesOn t = F_M_goesOn_175 ((dp - 1 : Nat) : Int) F 1 t := G_na hX hP hk (isT hF)
theorem ix_ok (hP : PSw X t p q opd dp F ph bg base B O Xs) : (0 : Int) ≤ ((dp - 1 : Nat) : Int) ∧ ((dp - 1 : Nat) : Int) < 20 := by
  have hdp := hP.2.2.1.2.2
  omega
theorem opc_cm {k : Int} (h : k = 60 ∨ k = 62 ∨ k = 61) : (13 ≤ opc k ∧ opc k ≤ 15) ∧ rk (opc k) = 4 := by
  rcases h with rfl | rfl | rfl <;> decide
/-- < > = -/
theorem R_cmp (hX : FX X) (h : StG X t p dp F 0 0 base B (O1 ++ O) Xv) (hF : F = 1 ∨ F = 5) (hk : kX X p = 60 ∨ kX X p = 62 ∨ kX X p = 61) (hw : wfO O1 Xv) (hr : rkG 5 O1) (hh : hdL 5 O) : ∃ x' t', LSt X 1 1 t x' t' ∧ KSt X t x' t' (eX X p) 0 dp F 1 0 base B ((opc (kX X p), fld O1 Xv) :: O) [] := by
  obtain ⟨hx, hP, h41⟩ := h
  have T := hP.tk hX
  have h0 : 0 ≤ kX X p := by omega
  have he := eX_ok hX T.2.1 h0
  have hi := ix_ok hP
  have hop := opc_cm hk
  obtain ⟨u, e1, hP1, hj⟩ := M_joinsP hX hP hw hr hh
  have T1 := hP1.tk hX
  have hws : wsO B ((opc (kX X p), fld O1 Xv) :: O) ++ [] = wsO B O ++ [fld O1 Xv] := by
    show (if opc (kX X p) = 18 then wsO B O else wsO B O ++ [fld O1 Xv]) ++ [] = _
    rw [if_neg (by omega), List.append_nil]
  obtain ⟨v, e2, hP2, hb⟩ := M_holdP hX hP1 (opc (kX X p), fld O1 Xv) (q' := eX X p) (opd' := 0) hws ⟨by omega, by omega, he.2⟩
  have hP3 : PSw X (hset v 20 (dp - 1) 1) p (eX X p) 0 dp F 1 0 base B ((opc (kX X p), fld O1 Xv) :: O) [] := hP2.cg (fun i hi => by rw [hset_obj _ _ _ _ (by decide)]) (by rw [hset_obj _ _ _ _ (by decide)]; exact hP2.2.2.2.1.1) (by rw [hset_same]) (by rw [hset_obj _ _ _ _ (by decide)]; exact hP2.2.2.2.1.2.2.1) (hset_obj _ _ _ _ (by decide)) (hset_obj _ _ _ _ (by decide)) (hset_obj _ _ _ _ (by decide)) (hset_obj _ _ _ _ (by decide))
  obtain ⟨z, w, e3, hK, hn⟩ := M_nx hX hP3 (xmF_set (hb_xm (jn_xm hx hj) hb) (by omega)) h0 rfl
  have e251 : F_M_goesOn_251 ((dp - 1 : Nat) : Int) (opc (kX X p)) u = some (1, hset w 0 41 0) := by
    have e2' : F_M_holdsBack (opc (kX X p)) u = some (0, v) := e2
    unfold F_M_goesOn_251
    rw [e2', cl2_some, gd_pos hi, Int.toNat_natCast, lt_eq, e3, cl2_some, lt_eq]
  have e215 : F_M_goesOn_215 ((dp - 1 : Nat) : Int) t = some (1, hset w 0 41 0) := by
    unfold F_M_goesOn_215
    rw [e1, cl2_some, ← e251]
    by_cases c1 : kX X p = 60
    · rw [T1.sY c1 (by decide), cl2_some, if_neg (by decide), c1]
      rfl
    rw [T1.sN c1 (by decide), cl2_some, if_pos rfl]
    by_cases c2 : kX X p = 62
    · rw [T1.sY c2 (by decide), cl2_some, if_neg (by decide), c2]
      rfl
    have c3 : kX X p = 61 := by omega
    rw [T1.sN c2 (by decide), cl2_some, if_pos rfl, c3]
    rfl
  have eG : F_M_goesOn t = some (1, hset w 0 41 0) := by
    rw [G_t hX hP (Or.inl (by unfold arK; omega)) hF, ← e215]
    unfold F_M_goesOn_175
    rw [if_neg (by decide), gd_pos hi, Int.toNat_natCast, hP.2.2.2.1.2.1, if_pos rfl]
    by_cases c1 : kX X p = 60
    · rw [T.sY c1 (by decide), cl2_some, if_neg (by decide)]
    rw [T.sN c1 (by decide), cl2_some, if_pos rfl]
    by_cases c2 : kX X p = 62
    · rw [T.sY c2 (by decide), cl2_some, if_neg (by decide)]
    have c3 : kX X p = 61 := by omega
    rw [T.sN c2 (by decide), cl2_some, if_pos rfl, T.sY c3 (by decide), cl2_some, if_neg (by decide)]
  exact ⟨_, _, LSt_goes1 h41 eG, hK.k (nx_lw (lwF_set (hb_lw (jn_lw lwF_rfl hj) hb) hP.2.2.1.2.2.1 (by omega)) hn) rfl⟩
theorem G_272 (hX : FX X) (hP : PSw X t p q 1 dp F ph bg base B O Xs) (hph : ph ≠ 0 ∨ (kX X p ≠ 60 ∧ kX X p ≠ 62 ∧ kX X p ≠ 61)) : F_M_goesOn_175 ((dp - 1 : Nat) : Int) F 1 t = F_M_goesOn_272 ((dp - 1 : Nat) : Int) F 1 t := by
  have T := hP.tk hX
  have hi := ix_ok hP
  unfold F_M_goesOn_175
  rw [if_neg (by decide), gd_pos hi, Int.toNat_natCast, hP.2.2.2.1.2.1]
  by_cases c : ph = 0
  · have h3 := hph.resolve_left (fun z => z c)
    rw [if_pos c, T.sN h3.1 (by decide), cl2_some, if_pos rfl, T.sN h3.2.1 (by decide), cl2_some, if_pos rfl, T.sN h3.2.2 (by decide), cl2_some, if_pos rfl]
  · rw [if_neg c]
/-- and, or -/
theorem R_lnk (hX : FX X) (h : StG X t p dp F ph 0 base B (O1 ++ O) Xv) (hF : F = 1 ∨ F = 5) (hk : kX X p = 265 ∨ kX X p = 264) (hph : ph ≠ 0) {r : Int} (hr0 : r = if kX X p = 265 then 2 else 1) (hw : wfO O1 Xv) (hr : rkG r O1) (hh : hdL r O) : ∃ x' t', LSt X 1 1 t x' t' ∧ KSt X t x' t' (eX X p) 0 dp F 0 1 base B ((opc (kX X p), fld O1 Xv) :: O) [] := by
  obtain ⟨hx, hP, h41⟩ := h
  have T := hP.tk hX
  have h0 : 0 ≤ kX X p := by omega
  have he := eX_ok hX T.2.1 h0
  have hi := ix_ok hP
  have hop : opc (kX X p) = if kX X p = 265 then 16 else 17 := by
    rcases hk with z | z <;> rw [z] <;> decide
  have hop18 : opc (kX X p) ≠ 18 := by
    rcases hk with z | z <;> rw [z] <;> decide
  obtain ⟨u, e1, hP1, hj⟩ := M_joinsP hX hP hw hr hh
  have T1 := hP1.tk hX
  have hws : wsO B ((opc (kX X p), fld O1 Xv) :: O) ++ [] = wsO B O ++ [fld O1 Xv] := by
    show (if opc (kX X p) = 18 then wsO B O else wsO B O ++ [fld O1 Xv]) ++ [] = _
    rw [if_neg hop18, List.append_nil]
  obtain ⟨v, e2, hP2, hb⟩ := M_holdP hX hP1 (opc (kX X p), fld O1 Xv) (q' := eX X p) (opd' := 0) hws ⟨by omega, by omega, he.2⟩
  have hP3 : PSw X (hset (hset v 20 (dp - 1) 0) 21 (dp - 1) 1) p (eX X p) 0 dp F 0 1 base B ((opc (kX X p), fld O1 Xv) :: O) [] := hP2.cg (fun i hi => by rw [hset_obj _ _ _ _ (by decide), hset_obj _ _ _ _ (by decide)]) (by rw [hset_obj _ _ _ _ (by decide), hset_obj _ _ _ _ (by decide)]; exact hP2.2.2.2.1.1) (by rw [hset_obj _ _ _ _ (by decide), hset_same]) (by rw [hset_same]) (by rw [hset_obj _ _ _ _ (by decide), hset_obj _ _ _ _ (by decide)]) (by rw [hset_obj _ _ _ _ (by decide), hset_obj _ _ _ _ (by decide)]) (by rw [hset_obj _ _ _ _ (by decide), hset_obj _ _ _ _ (by decide)]) (by rw [hset_obj _ _ _ _ (by decide), hset_obj _ _ _ _ (by decide)])
  obtain ⟨z, w, e3, hK, hn⟩ := M_nx hX hP3 (xmF_set (xmF_set (hb_xm (jn_xm hx hj) hb) (by omega)) (by omega)) h0 rfl
  have e359 : F_M_goesOn_359 ((dp - 1 : Nat) : Int) (opc (kX X p)) u = some (1, hset w 0 41 0) := by
    have e2' : F_M_holdsBack (opc (kX X p)) u = some (0, v) := e2
    unfold F_M_goesOn_359
    rw [e2', cl2_some, gd_pos hi, Int.toNat_natCast, lt_eq, gd_pos hi, z1_eq (Or.inr rfl), lt_eq, e3, cl2_some, lt_eq]
  have e296 : F_M_goesOn_296 ((dp - 1 : Nat) : Int) t = some (1, hset w 0 41 0) := by
    unfold F_M_goesOn_296 F_M_goesOn_314
    rw [gd_pos hi, Int.toNat_natCast, hP.2.2.2.1.2.1, if_neg hph, if_pos (by have := T.f8.1; omega), ← e359]
    by_cases c : kX X p = 265
    · rw [if_pos c] at hr0 hop
      subst hr0
      rw [T.wY c wcAnd, cl2_some, if_neg (by decide)]
      unfold F_M_goesOn_343
      rw [e1, cl2_some, if_neg (by decide), hop]
    · rw [if_neg c] at hr0 hop
      subst hr0
      rw [T.wN c wcAnd, cl2_some, if_pos rfl]
      unfold F_M_goesOn_343
      rw [e1, cl2_some, if_pos rfl, hop]
  have eG : F_M_goesOn t = some (1, hset w 0 41 0) := by
    rw [G_t hX hP (Or.inl (by unfold arK; omega)) hF, G_272 hX hP (Or.inl hph), ← e296]
    unfold F_M_goesOn_272
    rw [if_neg (by decide)]
    by_cases c : kX X p = 265
    · rw [T.wY c wcAnd, cl2_some, if_neg (by decide)]
    · rw [T.wN c wcAnd, cl2_some, if_pos rfl, T.wY (hk.resolve_left c) wcOr, cl2_some, if_neg (by decide)]
  exact ⟨_, _, LSt_goes1 h41 eG, hK.k (nx_lw (lwF_set (lwF_set (hb_lw (jn_lw lwF_rfl hj) hb) hP.2.2.1.2.2.1 (by omega)) hP.2.2.1.2.2.1 (by omega)) hn) rfl⟩
theorem bad409 (h8 : 0 < u 0 8) (hF : F = 1 ∨ F = 5) {x1 : Int} : F_M_goesOn_409 x1 F u = some (0, u) := by
  unfold F_M_goesOn_409 F_M_goesOn_426
  by_cases c : F = 5
  · rw [if_pos (by omega), if_neg (by omega), if_pos c]
    unfold F_M_goesOn_496 F_M_goesOn_511
    obtain ⟨z, e⟩ := isSg (t := u) 93
    rw [e, cl2_some]
    by_cases c2 : z = 0
    · rw [if_pos c2, blame_1 h8, cl2_some, if_neg (by omega)]
    · rw [if_neg c2, if_neg (by omega)]
  · rw [if_neg (by omega), if_neg (by omega)]
/-- a fact that is none -/
theorem R_nofact (hX : FX X) (h : StG X t p dp F 0 bg base B O Xv) (hF : F = 1 ∨ F = 5) (hk : ¬ arK (kX X p)) (hk2 : kX X p ≠ 60 ∧ kX X p ≠ 62 ∧ kX X p ≠ 61) : FOt X 1 t p 1 (sX X p : Nat) := by
  obtain ⟨hx, hP, h41⟩ := h
  have T := hP.tk hX
  have hi := ix_ok hP
  have h296 : F_M_goesOn_296 ((dp - 1 : Nat) : Int) t = some (0, BL X t p 1) := by
    unfold F_M_goesOn_296 F_M_goesOn_314
    rw [gd_pos hi, Int.toNat_natCast, hP.2.2.2.1.2.1, if_pos rfl, T.bl, cl2_some, BL_8.1, if_neg (by decide)]
  refine FOt_goes T.2.1 h41 (v := 0) (u := BL X t p 1) ?_ BL_8 (by decide) (BL_xm hx)
  rw [G_t hX hP (Or.inl hk) hF, G_272 hX hP (Or.inr hk2)]
  unfold F_M_goesOn_272
  rw [if_neg (by decide)]
  by_cases c : kX X p = 265
  · rw [T.wY c wcAnd, cl2_some, if_neg (by decide), h296]
  rw [T.wN c wcAnd, cl2_some, if_pos rfl]
  by_cases c2 : kX X p = 264
  · rw [T.wY c2 wcOr, cl2_some, if_neg (by decide), h296]
  rw [T.wN c2 wcOr, cl2_some, if_pos rfl]
  unfold F_M_goesOn_387
  rw [if_neg (by decide), gd_pos hi, Int.toNat_natCast, hP.2.2.2.1.2.1, if_pos rfl, T.bl, cl2_some, bad409 (by rw [BL_8.1]; decide) hF]
theorem G_409 (hX : FX X) (hP : PSw X t p q 1 dp F ph bg base B O Xs) (hk : ¬ arK (kX X p) ∨ 2 ≤ ph) (hF : (F = 1 ∨ F = 5) → ph ≠ 0 ∧ kX X p ≠ 264 ∧ kX X p ≠ 265) : F_M_goesOn t = F_M_goesOn_409 ((dp - 1 : Nat) : Int) F t := by
  have T := hP.tk hX
  have hi := ix_ok hP
  by_cases c : F = 1 ∨ F = 5
  · have h3 := hF c
    rw [G_t hX hP hk c, G_272 hX hP (Or.inl h3.1)]
    unfold F_M_goesOn_272 F_M_goesOn_387
    rw [if_neg (by decide), T.wN h3.2.2 wcAnd, cl2_some, if_pos rfl, T.wN h3.2.1 wcOr, cl2_some, if_pos rfl, if_neg (by decide), gd_pos hi, Int.toNat_natCast, hP.2.2.2.1.2.1, if_neg h3.1]
  · rw [G_na hX hP hk (isTn c)]
    unfold F_M_goesOn_175 F_M_goesOn_272 F_M_goesOn_387
    rw [if_pos rfl, if_pos rfl, if_pos rfl]
/-- the comma -/
theorem R_comma (hX : FX X) (h : StG X t p dp 3 ph 0 base B (O1 ++ []) Xv) (hk : ¬ arK (kX X p)) (hw : wfO O1 Xv) (hr : rkG 1 O1) : (kX X p ≠ 44 → FOt X 1 t p 1 (sX X p : Nat)) ∧ (kX X p = 44 → ∃ x' t', LSt X 1 1 t x' t' ∧ KSt X t x' t' (eX X p) 0 dp 4 ph 0 base (B ++ [fld O1 Xv]) [] []) := by
  obtain ⟨hx, hP, h41⟩ := h
  have T := hP.tk hX
  have hi := ix_ok hP
  have eG := G_409 hX hP (Or.inl hk) (fun z => absurd z (by decide))
  unfold F_M_goesOn_409 at eG
  rw [if_pos (by decide), if_pos rfl] at eG
  refine ⟨fun g => ?_, fun g => ?_⟩
  · refine FOt_goes T.2.1 h41 (v := 0) (u := BL X t p 1) ?_ BL_8 (by decide) (BL_xm hx)
    rw [eG, T.sN g (by decide), cl2_some, if_pos rfl, T.bl, cl2_some]
    unfold F_M_goesOn_451
    rw [BL_8.1, if_neg (by decide)]
  · have h0 : 0 ≤ kX X p := by omega
    have he := eX_ok hX T.2.1 h0
    obtain ⟨u, e1, hP1, hj⟩ := M_joinsP hX hP hw hr True.intro
    have hP2 : PSw X (hset u 19 (dp - 1) 4) p (eX X p) 0 dp 4 ph 0 base (B ++ [fld O1 Xv]) [] [] := ((hP1.cg (u := hset u 19 (dp - 1) 4) (fun i hi => by rw [hset_obj _ _ _ _ (by decide)]) (by rw [hset_same]) (by rw [hset_obj _ _ _ _ (by decide)]; exact hP1.2.2.2.1.2.1) (by rw [hset_obj _ _ _ _ (by decide)]; exact hP1.2.2.2.1.2.2.1) (hset_obj _ _ _ _ (by decide)) (hset_obj _ _ _ _ (by decide)) (hset_obj _ _ _ _ (by decide)) (hset_obj _ _ _ _ (by decide))).up (by omega) (by omega) he.2).rb (List.append_nil _)
    obtain ⟨z, w, e3, hK, hn⟩ := M_nx hX hP2 (xmF_set (jn_xm hx hj) (by omega)) h0 rfl
    have e451 : F_M_goesOn t = some (1, hset w 0 41 0) := by
      rw [eG, T.sY g (by decide), cl2_some, if_neg (by decide)]
      unfold F_M_goesOn_451
      rw [if_pos (by have := T.f8.1; omega), e1, cl2_some, gd_pos hi, Int.toNat_natCast, lt_eq, e3, cl2_some, lt_eq]
    exact ⟨_, _, LSt_goes1 h41 e451, hK.k (nx_lw (lwF_set (jn_lw lwF_rfl hj) hP.2.2.1.2.2.1 (by omega)) hn) rfl⟩
end GoesR
