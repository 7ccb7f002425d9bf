/-! the check's rounds: a part -/
section PartR
variable {X : Cx} {s t u : Hp} {p q c : Nat} {opd dp base : Nat} {F ph bg : Int} {B Xs : List FV} {O : List Op}
def StP (X : Cx) (t : Hp) (p dp : Nat) (F ph bg : Int) (base : Nat) (B : List FV) (O : List Op) : Prop := xmF (xP X) (xt X) t ∧ PSw X t p p 0 dp F ph bg base B O [] ∧ t 0 41 = 0
theorem FOt_part {v k pl : Int} (hp : p ≤ xN X) (h41 : t 0 41 = 0) (e : F_M_part t = some (v, u)) (hv : v = 0 ∨ v = 1) (hk : u 0 8 = k ∧ u 0 9 = pl) (h0 : 0 < k) (hx : xmF (xP X) (xt X) u) : FOt X 1 t p k pl := by
  have h := LSt_part (X := X) h41 e hv
  rw [if_neg (by omega)] at h
  exact ⟨1, _, by omega, h, by rw [hset_get, if_neg (by omega)]; exact hk.1, by rw [hset_get, if_neg (by omega)]; exact hk.2, h0, xmF_set hx (by omega)⟩
theorem FOt_goes {v k pl : Int} (hp : p ≤ xN X) (h41 : t 0 41 = 1) (e : F_M_goesOn t = some (v, u)) (hk : u 0 8 = k ∧ u 0 9 = pl) (h0 : 0 < k) (hx : xmF (xP X) (xt X) u) : FOt X 1 t p k pl := by
  have h := LSt_goes (X := X) h41 e
  have e0 : (if v = 0 then (0 : Int) else if u 0 8 = 0 then 1 else 0) = 0 := by
    by_cases c : v = 0
    · rw [if_pos c]
    · rw [if_neg c, if_neg (by omega)]
  rw [e0] at h
  exact ⟨1, _, by omega, h, hk.1, hk.2, h0, hx⟩
theorem FOt_mis {k : Int} (hp : p ≤ xN X) (h8 : t 0 8 = 1) (h9 : t 0 9 = (sX X p : Nat)) (hx : xmF (xP X) (xt X) t) : FOt X 0 t p 1 (sX X p : Nat) := ⟨0, t, by omega, LSt_0, h8, h9, by decide, hx⟩
theorem P_arith (hX : FX X) (h : PSw X t p p 0 dp F ph bg base B O []) (hpre : bg = 0 ∨ ¬ (F = 1 ∨ F = 5) ∨ (kX X p ≠ 266 ∧ kX X p ≠ 91 ∧ kX X p ≠ 267)) : F_M_part t = F_M_part_120 (hset t 21 (dp - 1) 0) ∧ PSw X (hset t 21 (dp - 1) 0) p p 0 dp F ph 0 base B O [] := by
  have T := h.tk hX
  have T1 : TK X (hset t 21 (dp - 1) 0) p := T.set (by omega)
  obtain ⟨d1, d2, d3, d4⟩ := h.2.2.1
  have hi : (0 : Int) ≤ ((dp - 1 : Nat) : Int) ∧ ((dp - 1 : Nat) : Int) < 20 := by omega
  refine ⟨?_, h.cg (fun i hi => by rw [hset_obj _ _ _ _ (by decide)]) ?_ ?_ ?_ ?_ ?_ ?_ ?_⟩
  · have c60 : ∀ x2 : Int, (x2 = 0 ∨ (kX X p ≠ 91 ∧ kX X p ≠ 267)) → F_M_part_60 ((dp - 1 : Nat) : Int) x2 t = F_M_part_120 (hset t 21 (dp - 1) 0) := by
      intro x2 hx2
      unfold F_M_part_60 F_M_part_87
      rw [gd_pos hi, lt_eq, Int.toNat_natCast, z1_eq (Or.inl rfl)]
      by_cases c : x2 = 0
      · rw [if_pos c, if_pos c]
      · have h2 : kX X p ≠ 91 ∧ kX X p ≠ 267 := hx2.resolve_left c
        rw [if_neg c, T1.sN h2.1 (by decide), cl2_some, if_pos rfl, if_neg c, T1.wN h2.2 wcAll, cl2_some, if_pos rfl]
    have e1 : isub (dp : Int) 1 = ((dp - 1 : Nat) : Int) := by rw [isub_ok (by omega)]; omega
    unfold F_M_part F_M_part_32 F_M_part_33
    rw [d1, e1, lt_eq, gd_pos hi, Int.toNat_natCast, h.2.2.2.1.1]
    by_cases cT : F = 1 ∨ F = 5
    · rw [isT cT, cl2_some, if_neg (by decide), gd_pos hi, h.2.2.2.1.2.2.1]
      by_cases cb : bg = 0
      · rw [if_pos cb, if_pos rfl]
        exact c60 0 (Or.inl rfl)
      · have h3 := (hpre.resolve_left cb).resolve_left (fun z => z cT)
        rw [if_neg cb, if_neg (by decide), T.wN h3.1 wcNot, cl2_some, if_pos rfl]
        exact c60 1 (Or.inr h3.2)
    · rw [isTn cT, cl2_some, if_pos rfl, if_pos rfl]
      exact c60 0 (Or.inl rfl)
  · rw [hset_obj _ _ _ _ (by decide)]; exact h.2.2.2.1.1
  · rw [hset_obj _ _ _ _ (by decide)]; exact h.2.2.2.1.2.1
  · rw [hset_same]
  all_goals exact hset_obj _ _ _ _ (by decide)
theorem P_lf (T : TK X t p) {op : Int} (h1 : kX X p ≠ 40) (h2 : kX X p ≠ 271) (h3 : kX X p ≠ 272) (h4 : kX X p ≠ 257) (hop : op = if kX X p = 268 then 1 else if kX X p = 269 then 2 else if kX X p = 270 then 3 else 0) : F_M_part_120 t = F_M_part_311 op t := by
  unfold F_M_part_120
  rw [T.sN h1 (by decide), cl2_some, if_pos rfl, T.wN h2 wcMin, cl2_some, if_pos rfl, T.wN h3 wcMax, cl2_some, if_pos rfl, T.wN h4 wcAlone, cl2_some, if_pos rfl]
  by_cases c1 : kX X p = 268
  · rw [if_pos c1] at hop
    rw [T.wY c1 wcDay, cl2_some, if_neg (by decide), hop]
  rw [if_neg c1] at hop
  rw [T.wN c1 wcDay, cl2_some, if_pos rfl]
  by_cases c2 : kX X p = 269
  · rw [if_pos c2] at hop
    rw [T.wY c2 wcWeek, cl2_some, if_neg (by decide), hop]
  rw [if_neg c2] at hop
  rw [T.wN c2 wcWeek, cl2_some, if_pos rfl]
  by_cases c3 : kX X p = 270
  · rw [if_pos c3] at hop
    rw [T.wY c3 wcWday, cl2_some, if_neg (by decide), hop]
  rw [if_neg c3] at hop
  rw [T.wN c3 wcWday, cl2_some, if_pos rfl, hop]
theorem tk3 (h : TK X t p) (e : kX X p ≠ 281) : t 0 3 ≠ 2 := by
  have hk := kd_ge h.1.1 h.2.1
  obtain ⟨h1, h2, h3, h4, h5, h6, h7, h8⟩ := h.2.2
  unfold kX at hk e
  rcases hk with z | z | z | z | z | z
  · exact absurd z h1
  · rw [h4 z]; decide
  · rw [(h7 z.1 z.2).1]; decide
  · rw [(h5 (by omega) (by omega)).1]; decide
  · rw [(h5 (by omega) (by omega)).1]; decide
  · exact absurd z e
theorem xm21 {v : Int} (hx : xmF (xP X) (xt X) t) : xmF (xP X) (xt X) (hset t 21 (dp - 1) v) := xmF_set hx (by omega)
/-- nothing that can stand there -/
theorem R_bad (hX : FX X) (h : StP X t p dp F ph bg base B O) (hpre : bg = 0 ∨ ¬ (F = 1 ∨ F = 5) ∨ (kX X p ≠ 266 ∧ kX X p ≠ 91 ∧ kX X p ≠ 267)) (h1 : kX X p ≠ 40) (h2 : kX X p ≠ 271) (h3 : kX X p ≠ 272) (h4 : kX X p ≠ 257) (h5 : kX X p ≠ 268) (h6 : kX X p ≠ 269) (h7 : kX X p ≠ 270) (h8 : kX X p ≠ 281) : FOt X 1 t p 1 (sX X p : Nat) := by
  obtain ⟨hx, hP, h41⟩ := h
  obtain ⟨e, hP1⟩ := P_arith hX hP hpre
  have T1 := hP1.tk hX
  refine FOt_part T1.2.1 h41 (u := BL X (hset t 21 (dp - 1) 0) p 1) (v := 1) ?_ (Or.inr rfl) BL_8 (by decide) (BL_xm (xm21 hx))
  rw [e, P_lf T1 (op := 0) h1 h2 h3 h4 (by rw [if_neg h5, if_neg h6, if_neg h7])]
  unfold F_M_part_311 F_M_part_333
  rw [if_pos rfl, if_neg (tk3 T1 h8), T1.bl, cl2_some, BL_8.1, if_neg (by decide)]
def lfOK (X : Cx) (op v : Int) (V : FV) : Prop := (0 ≤ op ∧ op ≤ 5) ∧ ∀ (day : Nat) (u : Hp), day < 1000 → u 0 12 = xb X → u 0 42 = day → (∀ w, w < xW X → u 7 (12 * xb X + w) = xlQ X w) → F_M_leaf op v u = some (V day, u)
theorem lf_num {v : Int} : lfOK X 0 v (fun _ => v) := ⟨by decide, fun _ _ _ _ _ _ => rfl⟩
theorem lf_all : lfOK X 5 0 (fun _ => 1) := ⟨by decide, fun _ _ _ _ _ _ => rfl⟩
theorem lf_day {k : Int} (hk : k = 268 ∨ k = 269 ∨ k = 270) : lfOK X (if k = 268 then 1 else if k = 269 then 2 else if k = 270 then 3 else 0) 0 (dyV k) := by
  rcases hk with rfl | rfl | rfl
  · exact ⟨by decide, fun day u _ _ h _ => by
      show some (u 0 42, u) = _
      rw [h]
      rfl⟩
  · refine ⟨by decide, fun day u hd _ h _ => ?_⟩
    have t7 : idiv (day : Int) 7 = ((day / 7 : Nat) : Int) := by
      unfold idiv
      rw [Int.tdiv_eq_ediv_of_nonneg (by omega), w32_id (by omega)]
      omega
    show some (idiv (u 0 42) 7, u) = _
    rw [h, t7]
    rfl
  · refine ⟨by decide, fun day u hd _ h _ => ?_⟩
    have m7 : irem (day : Int) 7 = ((day % 7 : Nat) : Int) := by
      unfold irem
      rw [Int.tmod_eq_emod_of_nonneg (by omega)]
      omega
    show some (irem (u 0 42) 7, u) = _
    rw [h, m7]
    rfl
theorem lf_alone (hX : FX X) {w : Nat} (hw : w < xW X) : lfOK X 4 (w : Int) (fun _ => xlQ X w) := by
  have hb := hX.2.2.2.1
  have hW := hX.2.2.1.2.2.2.1.2
  refine ⟨by decide, fun day u _ h _ h2 => ?_⟩
  have hbd : (0 : Int) ≤ ((12 * xb X + w : Nat) : Int) ∧ ((12 * xb X + w : Nat) : Int) < 24 := by omega
  have e2 : iadd (imul 12 (xb X : Int)) (w : Int) = ((12 * xb X + w : Nat) : Int) := by
    rw [imul_ok (by omega), iadd_ok (by omega)]
    omega
  show cl2 (F_M_aloneOf (w : Int) u) (fun v6 s7 => some (v6, s7)) = _
  unfold F_M_aloneOf
  rw [h, e2]
  clear e2
  rw [gd_pos hbd, cl2_some, Int.toNat_natCast, h2 w hw]
theorem RM_lf (hX : FX X) {op v : Int} {V : FV} (hl : lfOK X op v V) (cm : Nat) (t' : Hp) (hR : RM t (xb X) (xW X) (xlQ X) (xd X) cm (wsO B O ++ [])) (hcm : cm < 900) (ha : ∀ k, k < cm → t' 17 (900 * xb X + k) = t 17 (900 * xb X + k) ∧ t' 18 (900 * xb X + k) = t 18 (900 * xb X + k)) (h17 : t' 17 (900 * xb X + cm) = op) (h18 : t' 18 (900 * xb X + cm) = v) : RM t' (xb X) (xW X) (xlQ X) (xd X) (cm + 1) (wsO B O ++ [V]) := by
  rw [List.append_nil] at hR
  refine RM_leaf hX.2.2.2.1 hR hcm ha (by rw [h17]; exact hl.1) (fun day u a1 a2 a3 a4 => ?_)
  rw [h17, h18]
  exact hl.2 day u a1 a2 a3 a4
def lfV (X : Cx) (p : Nat) : FV := if kX X p = 281 then fun _ => nv (xf X) (xN X) p else dyV (kX X p)
/-- a number, or a day's -/
theorem R_leaf (hX : FX X) (h : StP X t p dp F ph bg base B O) (hpre : bg = 0 ∨ ¬ (F = 1 ∨ F = 5) ∨ (kX X p ≠ 266 ∧ kX X p ≠ 91 ∧ kX X p ≠ 267)) (hk : kX X p = 281 ∨ kX X p = 268 ∨ kX X p = 269 ∨ kX X p = 270) : ∃ x' t', LSt X 1 1 t x' t' ∧ KSt X t x' t' (eX X p) 1 dp F ph 0 base B O [lfV X p] := by
  obtain ⟨hx, hP, h41⟩ := h
  obtain ⟨e, hP1⟩ := P_arith hX hP hpre
  have T1 := hP1.tk hX
  have h0 : 0 ≤ kX X p := by omega
  have he := eX_ok hX T1.2.1 h0
  have hx1 := xm21 (dp := dp) (v := 0) hx
  have hl1 : lwF t (hset t 21 (dp - 1) 0) dp base := lwF_set lwF_rfl hP.2.2.1.2.2.1 (by omega)
  have h356 : ∃ op v, lfOK X op v (lfV X p) ∧ F_M_part_120 (hset t 21 (dp - 1) 0) = F_M_part_356 v op (hset t 21 (dp - 1) 0) := by
    by_cases c : kX X p = 281
    · refine ⟨0, nv (xf X) (xN X) p, ?_, ?_⟩
      · unfold lfV
        rw [if_pos c]
        exact lf_num
      · have h6 := T1.2.2.2.2.2.2.2.1 c
        rw [P_lf T1 (op := 0) (by omega) (by omega) (by omega) (by omega) (by rw [if_neg (by omega), if_neg (by omega), if_neg (by omega)])]
        unfold F_M_part_311 F_M_part_333
        rw [if_pos rfl, if_pos h6.1, if_pos (by have := T1.f8.1; omega), if_pos rfl, h6.2]
    · have hk' : kX X p = 268 ∨ kX X p = 269 ∨ kX X p = 270 := hk.resolve_left c
      refine ⟨if kX X p = 268 then 1 else if kX X p = 269 then 2 else if kX X p = 270 then 3 else 0, 0, ?_, ?_⟩
      · unfold lfV
        rw [if_neg c]
        exact lf_day hk'
      · have hn0 : (if kX X p = 268 then (1 : Int) else if kX X p = 269 then 2 else if kX X p = 270 then 3 else 0) ≠ 0 := by
          rcases hk' with z | z | z <;> rw [z] <;> decide
        rw [P_lf T1 (by omega) (by omega) (by omega) (by omega) rfl]
        unfold F_M_part_311 F_M_part_333
        rw [if_neg hn0, if_pos (by have := T1.f8.1; omega), if_neg hn0]
  obtain ⟨op, v, hlf, e120⟩ := h356
  obtain ⟨w, e2, hP2, hj⟩ := M_addP hX hP1 op v (q' := eX X p) (opd' := 1) (Xs' := [lfV X p]) ⟨by omega, by omega, he.2⟩ (RM_lf hX hlf)
  obtain ⟨z, u, e3, hK, hn⟩ := M_nx hX hP2 (jn_xm hx1 hj) h0 rfl
  have eP : F_M_part t = some (1, u) := by
    rw [e, e120]
    unfold F_M_part_356
    rw [e2, cl2_some, e3, cl2_some]
  exact ⟨_, _, LSt_part h41 eP (Or.inr rfl), hK.k (nx_lw (jn_lw hl1 hj) hn) rfl⟩
theorem isSg (c : Int) : ∃ z, F_M_isSign c t = some (z, t) := by
  unfold F_M_isSign F_M_isSign_20 F_M_isSign_21
  by_cases c1 : t 0 3 = 3
  · by_cases c2 : t 0 6 = c
    · exact ⟨1, by rw [if_pos c1, if_pos c2]; rfl⟩
    · exact ⟨0, by rw [if_pos c1, if_neg c2]; rfl⟩
  · exact ⟨0, by rw [if_neg c1]; rfl⟩
/-- what somebody gets alone -/
theorem R_alone (hX : FX X) (h : StP X t p dp F ph bg base B O) (hpre : bg = 0 ∨ ¬ (F = 1 ∨ F = 5) ∨ (kX X p ≠ 266 ∧ kX X p ≠ 91 ∧ kX X p ≠ 267)) (hk : kX X p = 257) : (kX X (eX X p) ≠ 280 → FOt X 1 t p 1 (sX X (eX X p) : Nat)) ∧ (kX X (eX X p) = 280 → ∀ z, whoX X (eX X p) z → (z = -1 → FOt X 1 t p 3 (sX X (eX X p) : Nat)) ∧ (z ≠ -1 → ∃ x' t', LSt X 1 1 t x' t' ∧ KSt X t x' t' (eX X (eX X p)) 1 dp F ph 0 base B O [fun _ => xlQ X z.toNat])) := by
  obtain ⟨hx, hP, h41⟩ := h
  obtain ⟨e, hP1⟩ := P_arith hX hP hpre
  have T1 := hP1.tk hX
  have h0 : 0 ≤ kX X p := by omega
  have he := eX_ok hX T1.2.1 h0
  have hx1 := xm21 (dp := dp) (v := 0) hx
  have hl1 : lwF t (hset t 21 (dp - 1) 0) dp base := lwF_set lwF_rfl hP.2.2.1.2.2.1 (by omega)
  obtain ⟨z0, u, e2, hK, hn⟩ := M_nx hX (hP1.up (q' := eX X p) (opd' := 0) (by omega) (by omega) he.2) hx1 h0 rfl
  have e3 : F_M_part t = cl2 (F_M_whoRead (-1) u) fun v69 s70 => if s70 0 8 = 0 then cl2 (F_M_add 4 v69 s70) fun _ s74 => F_M_part_255 s74 else F_M_part_255 s70 := by
    rw [e]
    unfold F_M_part_120
    rw [T1.sN (by omega) (by decide), cl2_some, if_pos rfl, T1.wN (by omega) wcMin, cl2_some, if_pos rfl, T1.wN (by omega) wcMax, cl2_some, if_pos rfl, T1.wY hk wcAlone, cl2_some, if_neg (by decide), e2, cl2_some]
  have bad : ∀ {v : Int} {u' : Hp}, F_M_whoRead (-1) u = some (v, u') → u' 0 8 ≠ 0 → F_M_part t = some (1, u') := by
    intro v u' h1 h2
    rw [e3, h1, cl2_some, if_neg h2]
    unfold F_M_part_255 F_M_part_266
    rw [if_neg h2]
  rcases hK.2 with ⟨m1, m2, m3⟩ | hP2
  · refine ⟨fun _ => FOt_part T1.2.1 h41 (bad (v := 0) (u' := u) ?_ (by omega)) (Or.inr rfl) ⟨m2, m3⟩ (by decide) hK.1, fun z => absurd z (by omega)⟩
    unfold F_M_whoRead
    rw [if_neg (by omega)]
  · have T2 := hP2.tk hX
    have hw := M_whoRead T2 hK.1 (-1)
    refine ⟨fun g => ?_, fun g z hz => ⟨fun g2 => ?_, fun g2 => ?_⟩⟩
    · exact FOt_part T1.2.1 h41 (bad (hw.1 g) (by rw [BL_8.1]; decide)) (Or.inr rfl) BL_8 (by decide) (BL_xm hK.1)
    · have hw := hw.2 g z hz
      rw [if_pos (Or.inl g2)] at hw
      exact FOt_part T1.2.1 h41 (bad hw (by rw [BL_8.1]; decide)) (Or.inr rfl) BL_8 (by decide) (BL_xm hK.1)
    · have hw := hw.2 g z hz
      rw [if_neg (by omega)] at hw
      have hz' := hz.resolve_left (fun y => g2 y.1)
      obtain ⟨w, w1, w2, w3, w4⟩ := hz'
      subst w2
      have he2 := eX_ok hX T2.2.1 (by omega : 0 ≤ kX X (eX X p))
      obtain ⟨v, e5, hP3, hj⟩ := M_addP hX hP2 4 (w : Int) (q' := eX X (eX X p)) (opd' := 1) (Xs' := [fun _ => xlQ X w]) ⟨by omega, by omega, he2.2⟩ (RM_lf hX (lf_alone hX w1))
      obtain ⟨z1, u2, e6, hK2, hn2⟩ := M_nx hX hP3 (jn_xm hK.1 hj) (by omega) rfl
      have eP : F_M_part t = some (1, u2) := by
        rw [e3, hw, cl2_some, if_pos T2.f8.1, e5, cl2_some]
        unfold F_M_part_255 F_M_part_266
        rw [if_pos (hP3.tk hX).f8.1, e6, cl2_some]
      rw [Int.toNat_natCast]
      exact ⟨_, _, LSt_part h41 eP (Or.inr rfl), hK2.k (nx_lw (jn_lw (nx_lw hl1 hn) hj) hn2) rfl⟩
end PartR
