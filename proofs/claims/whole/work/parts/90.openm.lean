/-! the check's rounds: brackets, and what begins a test -/
section OpenR
variable {X : Cx} {s t u : Hp} {p q c : Nat} {opd dp base : Nat} {F ph bg : Int} {B Xs : List FV} {O : List Op}
def lowF (t u : Hp) (dp b : Nat) : Prop := (∀ j, j < dp → u 19 j = t 19 j ∧ u 20 j = t 20 j ∧ u 21 j = t 21 j ∧ u 22 j = t 22 j ∧ u 23 j = t 23 j) ∧ ∀ j, j < b → u 24 j = t 24 j
theorem lw_low {b : Nat} (h : lwF t u (dp + 1) b) : lowF t u dp b := ⟨fun j hj => h.1 j (by omega), h.2.2⟩
theorem low_trans {v : Hp} {b : Nat} (h : lowF t u dp b) (h2 : lowF u v dp b) : lowF t v dp b := by
  refine ⟨fun j hj => ?_, fun j hj => by rw [h2.2 j hj, h.2 j hj]⟩
  obtain ⟨a1, a2, a3, a4, a5⟩ := h.1 j hj
  obtain ⟨b1, b2, b3, b4, b5⟩ := h2.1 j hj
  rw [b1, b2, b3, b4, b5]
  exact ⟨a1, a2, a3, a4, a5⟩
theorem opens_bad {a : Int} (h : 0 < t 0 8) : F_M_opens a t = some (0, t) := by
  unfold F_M_opens F_M_opens_18
  by_cases c : t 0 38 = 8
  · rw [if_pos c, blame_1 h, cl2_some, if_neg (by omega)]
  · rw [if_neg c, if_neg (by omega)]
theorem M_opens9 (hX : FX X) (hP : PSw X t p q opd dp F ph bg base B O Xs) (h9 : dp = 9) (a : Int) : F_M_opens a t = some (0, BL X t p 5) := by
  have T := hP.tk hX
  have h38 : t 0 38 = 8 := by
    rw [hP.2.2.1.2.1]
    omega
  unfold F_M_opens F_M_opens_18
  rw [if_pos h38, T.bl, cl2_some, BL_8.1, if_neg (by decide)]
theorem M_opensP (hX : FX X) (hP : PSw X t p p 0 dp F ph bg base B O []) (hx : xmF (xP X) (xt X) t) (hk : 0 ≤ kX X p) (h9 : dp ≠ 9) (a : Int) : ∃ u, F_M_opens a t = some (0, u) ∧ KNt X u (eX X p) 0 (dp + 1) a 0 1 (base + O.length) (wsO B O) [] [] ∧ lwF t u (dp + 1) (base + O.length) := by
  have T := hP.tk hX
  obtain ⟨a1, a2, a3, a4, a5, ⟨cm, c1, c2, c3⟩, a7, a8, a9⟩ := hP
  have he := eX_ok hX T.2.1 hk
  have hN := hX.2.1
  have e1 : iadd ((dp : Int) - 1) 1 = (dp : Int) := by rw [iadd_ok (by omega)]; omega
  have e2 : iadd (dp : Int) 1 = ((dp + 1 : Nat) : Int) := by rw [iadd_ok (by omega)]; omega
  have hx2 : xmF (xP X) (xt X) (hset t 0 38 (dp : Int)) := xmF_set hx (Or.inr ⟨rfl, Or.inr (Or.inr (Or.inl rfl))⟩)
  obtain ⟨z, v, e3, hA, hn⟩ := M_adv hX (xmF_by hx2 hX.2.2.2.2.1) a8 (TkM_congr a1 (fun i h1 h2 => by rw [hset_get, if_neg (fun y => absurd y.2 (by intro y2; rw [y2] at h2; exact absurd h2 (by decide)))])) hk
  have hv0 : ∀ i, nxI i → i ≠ 38 → v 0 i = t 0 i := fun i h1 h2 => by rw [hn.2 i h1, hset_get, if_neg (fun y => h2 y.2)]
  have hv38 : v 0 38 = (dp : Int) := by rw [hn.2 38 (by unfold nxI; decide), hset_same]
  have hvq : ∀ q, q ≠ 0 → v q = t q := fun q h => by rw [hn.1 q h, hset_obj _ _ _ _ h]
  have h37 : v 0 37 = (dp : Int) := by rw [hv0 37 (by unfold nxI; decide) (by decide)]; exact a3.1
  have h40 : v 0 40 = ((base + O.length : Nat) : Int) := by rw [hv0 40 (by unfold nxI; decide) (by decide)]; exact a5.1
  have hd : (0 : Int) ≤ (dp : Int) ∧ (dp : Int) < 20 := ⟨by clear e1 e2; omega, by clear e1 e2; omega⟩
  have hps : F_M_pushes a v = some (0, hset (hset (hset (hset (hset v 19 dp a) 20 dp 0) 21 dp 1) 23 dp ((base + O.length : Nat) : Int)) 0 37 ((dp + 1 : Nat) : Int)) := by
    unfold F_M_pushes
    simp only [lt_eq, hset_obj (q := 19) (q' := 0) _ _ _ (by decide), hset_obj (q := 20) (q' := 0) _ _ _ (by decide), hset_obj (q := 21) (q' := 0) _ _ _ (by decide), hset_obj (q := 23) (q' := 0) _ _ _ (by decide), h37, h40, e2, Int.toNat_natCast, z1_eq (Or.inr rfl : (1 : Int) = 0 ∨ (1 : Int) = 1)]
    rw [gd_pos hd, gd_pos hd, gd_pos hd, gd_pos hd]
  have hop : F_M_opens a t = some (0, hset (hset (hset (hset (hset v 19 dp a) 20 dp 0) 21 dp 1) 23 dp ((base + O.length : Nat) : Int)) 0 37 ((dp + 1 : Nat) : Int)) := by
    have n38 : ¬ t 0 38 = 8 := by
      rw [a3.2.1]
      clear e1 e2
      omega
    have n8 : t 0 8 ≤ 0 := by
      rw [T.f8.1]
      decide
    unfold F_M_opens F_M_opens_18
    rw [if_neg n38, if_pos n8, a3.2.1, e1, lt_eq, e3, cl2_some, hps, cl2_some]
  clear e1 e2 hps
  refine ⟨_, hop, ?_, ?_⟩
  · clear hop
    have k0 : ∀ i, i ≠ 37 → hset (hset (hset (hset (hset v 19 dp a) 20 dp 0) 21 dp 1) 23 dp ((base + O.length : Nat) : Int)) 0 37 ((dp + 1 : Nat) : Int) 0 i = v 0 i := fun i hi => by
      rw [hset_get, if_neg (fun y => hi y.2), hset_obj _ _ _ _ (by decide), hset_obj _ _ _ _ (by decide), hset_obj _ _ _ _ (by decide), hset_obj _ _ _ _ (by decide)]
    have k37 : hset (hset (hset (hset (hset v 19 dp a) 20 dp 0) 21 dp 1) 23 dp ((base + O.length : Nat) : Int)) 0 37 ((dp + 1 : Nat) : Int) 0 37 = ((dp + 1 : Nat) : Int) := hset_same _ _ _ _
    have k19 : hset (hset (hset (hset (hset v 19 dp a) 20 dp 0) 21 dp 1) 23 dp ((base + O.length : Nat) : Int)) 0 37 ((dp + 1 : Nat) : Int) 19 dp = a := by
      rw [hset_obj _ _ _ _ (by decide), hset_obj _ _ _ _ (by decide), hset_obj _ _ _ _ (by decide), hset_obj _ _ _ _ (by decide), hset_same]
    have k20 : hset (hset (hset (hset (hset v 19 dp a) 20 dp 0) 21 dp 1) 23 dp ((base + O.length : Nat) : Int)) 0 37 ((dp + 1 : Nat) : Int) 20 dp = 0 := by
      rw [hset_obj _ _ _ _ (by decide), hset_obj _ _ _ _ (by decide), hset_obj _ _ _ _ (by decide), hset_same]
    have k21 : hset (hset (hset (hset (hset v 19 dp a) 20 dp 0) 21 dp 1) 23 dp ((base + O.length : Nat) : Int)) 0 37 ((dp + 1 : Nat) : Int) 21 dp = 1 := by
      rw [hset_obj _ _ _ _ (by decide), hset_obj _ _ _ _ (by decide), hset_same]
    have k23 : hset (hset (hset (hset (hset v 19 dp a) 20 dp 0) 21 dp 1) 23 dp ((base + O.length : Nat) : Int)) 0 37 ((dp + 1 : Nat) : Int) 23 dp = ((base + O.length : Nat) : Int) := by
      rw [hset_obj _ _ _ _ (by decide), hset_same]
    have k17 : hset (hset (hset (hset (hset v 19 dp a) 20 dp 0) 21 dp 1) 23 dp ((base + O.length : Nat) : Int)) 0 37 ((dp + 1 : Nat) : Int) 17 = t 17 := by
      rw [hset_obj _ _ _ _ (by decide), hset_obj _ _ _ _ (by decide), hset_obj _ _ _ _ (by decide), hset_obj _ _ _ _ (by decide), hset_obj _ _ _ _ (by decide), hvq 17 (by decide)]
    have k18 : hset (hset (hset (hset (hset v 19 dp a) 20 dp 0) 21 dp 1) 23 dp ((base + O.length : Nat) : Int)) 0 37 ((dp + 1 : Nat) : Int) 18 = t 18 := by
      rw [hset_obj _ _ _ _ (by decide), hset_obj _ _ _ _ (by decide), hset_obj _ _ _ _ (by decide), hset_obj _ _ _ _ (by decide), hset_obj _ _ _ _ (by decide), hvq 18 (by decide)]
    have kx : xmF (xP X) (xt X) (hset (hset (hset (hset (hset v 19 dp a) 20 dp 0) 21 dp 1) 23 dp ((base + O.length : Nat) : Int)) 0 37 ((dp + 1 : Nat) : Int)) := xmF_set (xmF_set (xmF_set (xmF_set (xmF_set (xmF_trans hx2 (xmF_nx hn)) (by omega)) (by omega)) (by omega)) (by omega)) (by omega)
    generalize hset (hset (hset (hset (hset v 19 dp a) 20 dp 0) 21 dp 1) 23 dp ((base + O.length : Nat) : Int)) 0 37 ((dp + 1 : Nat) : Int) = u at k0 k37 k19 k20 k21 k23 k17 k18 kx
    refine ⟨kx, ?_⟩
    rcases hA with g | ⟨g1, g2, g3⟩
    · right
      have ed : dp + 1 - 1 = dp := by omega
      refine ⟨TkM_congr g (fun i h1 h2 => k0 i (by omega)), by rw [k0 31 (by decide), hv0 31 (by unfold nxI; decide) (by decide)]; exact a2, ⟨k37, by rw [k0 38 (by decide), hv38]; omega, by omega, by omega⟩, ⟨by rw [ed]; exact k19, by rw [ed]; exact k20, by rw [ed]; exact k21, by rw [ed]; exact k23⟩, ⟨by rw [k0 40 (by decide)]; exact h40, True.intro⟩, ⟨cm, by rw [k0 30 (by decide), hv0 30 (by unfold nxI; decide) (by decide)]; exact c1, RM_congr c2 (fun i _ => by rw [k17, k18]; exact ⟨rfl, rfl⟩) (Nat.le_refl _) (fun _ _ => rfl), by show cm + (base + O.length) + 0 ≤ eX X p; omega⟩, by show 2 * (base + O.length + 0) + 0 ≤ eX X p; omega, he.2, he.2⟩
    · exact Or.inl ⟨g1, by rw [k0 8 (by decide)]; exact g2, by rw [k0 9 (by decide)]; exact g3⟩
  · refine lwF_set (lwF_set (lwF_set (lwF_set (lwF_set ?_ (by omega) (by omega)) (by omega) (by omega)) (by omega) (by omega)) (by omega) (by omega)) (by omega) (by omega)
    exact lwF_ob lwF_rfl (fun q h1 h2 => hvq q (by omega))
/-- a round bracket -/
theorem R_open (hX : FX X) (h : StP X t p dp F ph bg base B O) (hpre : bg = 0 ∨ ¬ (F = 1 ∨ F = 5) ∨ (kX X p ≠ 266 ∧ kX X p ≠ 91 ∧ kX X p ≠ 267)) (hk : kX X p = 40) : (dp = 9 → FOt X 1 t p 5 (sX X p : Nat)) ∧ (dp ≠ 9 → ∃ x' t', LSt X 1 1 t x' t' ∧ KSt X t' x' t' (eX X p) 0 (dp + 1) 2 0 1 (base + O.length) (wsO B O) [] [] ∧ lowF (hset t 21 (dp - 1) 0) t' dp (base + O.length)) := by
  obtain ⟨hx, hP, h41⟩ := h
  obtain ⟨e, hP1⟩ := P_arith hX hP hpre
  have T1 := hP1.tk hX
  have hx1 := xm21 (dp := dp) (v := 0) hx
  have e3 : F_M_part t = cl2 (F_M_opens 2 (hset t 21 (dp - 1) 0)) fun _ s77 => some (0, s77) := by
    rw [e]
    unfold F_M_part_120
    rw [T1.sY hk (by decide), cl2_some, if_neg (by decide)]
  refine ⟨fun h9 => ?_, fun h9 => ?_⟩
  · exact FOt_part T1.2.1 h41 (by rw [e3, M_opens9 hX hP1 h9, cl2_some]) (Or.inl rfl) BL_8 (by decide) (BL_xm hx1)
  · obtain ⟨u, e4, hK, hl⟩ := M_opensP hX hP1 hx1 (by omega) h9 2
    refine ⟨_, _, LSt_part h41 (by rw [e3, e4, cl2_some]) (Or.inl rfl), ?_, ?_⟩
    · have := hK.k (tr := hset u 0 41 0) (v := 0) (lwF_ob lwF_rfl (fun q h1 h2 => by rw [hset_obj _ _ _ _ (by omega)])) rfl
      exact this
    · exact low_trans (lw_low hl) ⟨fun j _ => by rw [hset_obj _ _ _ _ (by decide), hset_obj _ _ _ _ (by decide), hset_obj _ _ _ _ (by decide), hset_obj _ _ _ _ (by decide), hset_obj _ _ _ _ (by decide)]; exact ⟨rfl, rfl, rfl, rfl, rfl⟩, fun j _ => by rw [hset_obj _ _ _ _ (by decide)]⟩
theorem low_41 {b : Nat} {v : Int} (h : lowF t u dp b) : lowF t (hset u 0 41 v) dp b := low_trans h ⟨fun j _ => by rw [hset_obj _ _ _ _ (by decide), hset_obj _ _ _ _ (by decide), hset_obj _ _ _ _ (by decide), hset_obj _ _ _ _ (by decide), hset_obj _ _ _ _ (by decide)]; exact ⟨rfl, rfl, rfl, rfl, rfl⟩, fun j _ => by rw [hset_obj _ _ _ _ (by decide)]⟩
/-- the lesser or the greater of two -/
theorem R_mm (hX : FX X) (h : StP X t p dp F ph bg base B O) (hpre : bg = 0 ∨ ¬ (F = 1 ∨ F = 5) ∨ (kX X p ≠ 266 ∧ kX X p ≠ 91 ∧ kX X p ≠ 267)) (hk : kX X p = 271 ∨ kX X p = 272) : (kX X (eX X p) ≠ 40 → FOt X 1 t p 1 (sX X (eX X p) : Nat)) ∧ (kX X (eX X p) = 40 → (dp = 9 → FOt X 1 t p 5 (sX X (eX X p) : Nat)) ∧ (dp ≠ 9 → ∃ x' t', LSt X 1 1 t x' t' ∧ KSt X t' x' t' (eX X (eX X p)) 0 (dp + 1) 3 0 1 (base + O.length) (wsO B O) [] [] ∧ lowF (hset t 21 (dp - 1) 0) t' dp (base + O.length) ∧ (kX X (eX X (eX X p)) = -2 ∨ t' 22 dp = opc (kX X p)))) := by
  obtain ⟨hx, hP, h41⟩ := h
  obtain ⟨e, hP1⟩ := P_arith hX hP hpre
  have T1 := hP1.tk hX
  have h0 : 0 ≤ kX X p := by omega
  have he := eX_ok hX T1.2.1 h0
  have hx1 := xm21 (dp := dp) (v := 0) hx
  obtain ⟨z0, u, e2, hK, hn⟩ := M_nx hX (hP1.up (q' := eX X p) (opd' := 0) (by omega) (by omega) he.2) hx1 h0 rfl
  have e3 : F_M_part t = cl2 (F_M_isSign 40 u) fun v10 s11 => if v10 = 0 then cl2 (F_M_blame 1 (s11 0 4) s11) fun _ s15 => F_M_part_196 (opc (kX X p)) s15 else F_M_part_196 (opc (kX X p)) s11 := by
    have e173 : ∀ k : Int, F_M_part_173 k (hset t 21 (dp - 1) 0) = cl2 (F_M_isSign 40 u) fun v10 s11 => if v10 = 0 then cl2 (F_M_blame 1 (s11 0 4) s11) fun _ s15 => F_M_part_196 k s15 else F_M_part_196 k s11 := fun k => by
      unfold F_M_part_173
      rw [e2, cl2_some]
    rw [e]
    unfold F_M_part_120
    rw [T1.sN (by omega) (by decide), cl2_some, if_pos rfl]
    by_cases c : kX X p = 271
    · rw [T1.wY c wcMin, cl2_some, if_neg (by decide)]
      unfold F_M_part_156
      rw [T1.wY c wcMin, cl2_some, if_neg (by decide), e173, c]
      rfl
    · have c2 : kX X p = 272 := by omega
      rw [T1.wN c wcMin, cl2_some, if_pos rfl, T1.wY c2 wcMax, cl2_some, if_neg (by decide)]
      unfold F_M_part_156
      rw [T1.wN c wcMin, cl2_some, if_pos rfl, e173, c2]
      rfl
  have b196 : ∀ {k : Int} {v : Hp}, 0 < v 0 8 → F_M_part_196 k v = some (0, v) := by
    intro k v hv
    unfold F_M_part_196 F_M_part_220
    rw [opens_bad hv, cl2_some, if_neg (by omega)]
  rcases hK.2 with ⟨m1, m2, m3⟩ | hP2
  · refine ⟨fun _ => FOt_part (v := 0) (u := u) T1.2.1 h41 ?_ (Or.inl rfl) ⟨m2, m3⟩ (by decide) hK.1, fun z => absurd z (by omega)⟩
    obtain ⟨z, e4⟩ := isSg (t := u) 40
    rw [e3, e4, cl2_some, blame_1 (by omega), cl2_some, b196 (by omega)]
    by_cases c : z = 0
    · rw [if_pos c]
    · rw [if_neg c]
  · have T2 := hP2.tk hX
    refine ⟨fun g => ?_, fun g => ?_⟩
    · refine FOt_part (v := 0) (u := BL X u (eX X p) 1) T1.2.1 h41 ?_ (Or.inl rfl) BL_8 (by decide) (BL_xm hK.1)
      rw [e3, T2.sN g (by decide), cl2_some, if_pos rfl, T2.bl, cl2_some, b196 (by rw [BL_8.1]; decide)]
    · rw [T2.sY g (by decide), cl2_some, if_neg (by decide)] at e3
      unfold F_M_part_196 F_M_part_220 at e3
      refine ⟨fun h9 => ?_, fun h9 => ?_⟩
      · refine FOt_part (v := 0) (u := BL X u (eX X p) 5) T1.2.1 h41 ?_ (Or.inl rfl) BL_8 (by decide) (BL_xm hK.1)
        rw [e3, M_opens9 hX hP2 h9, cl2_some, BL_8.1, if_neg (by decide)]
      · obtain ⟨v, e4, hK2, hl⟩ := M_opensP hX hP2 hK.1 (by omega) h9 3
        have hlow : lowF (hset t 21 (dp - 1) 0) u dp (base + O.length) := ⟨fun j _ => by rw [hn.1 19 (by decide), hn.1 20 (by decide), hn.1 21 (by decide), hn.1 22 (by decide), hn.1 23 (by decide)]; exact ⟨rfl, rfl, rfl, rfl, rfl⟩, fun j _ => by rw [hn.1 24 (by decide)]⟩
        rcases hK2.2 with ⟨m1, m2, m3⟩ | hP3
        · -- a misfit behind the bracket
          rw [e4, cl2_some, if_neg (by omega)] at e3
          have h := LSt_part (X := X) h41 e3 (Or.inl rfl)
          rw [if_neg (by omega)] at h
          exact ⟨_, _, h, ⟨xmF_set hK2.1 (by omega), lwF_rfl, Or.inl ⟨m1, rfl, by rw [hset_get, if_neg (by omega)]; exact m2, by rw [hset_get, if_neg (by omega)]; exact m3⟩⟩, low_41 (low_trans hlow (lw_low hl)), Or.inl m1⟩
        · have hdp := hP.2.2.1.2.2
          have hd : (0 : Int) ≤ (dp : Int) ∧ (dp : Int) < 20 := by omega
          have v37 : v 0 37 = ((dp + 1 : Nat) : Int) := hP3.2.2.1.1
          have v8 : v 0 8 = 0 := (hP3.tk hX).f8.1
          have e5 : F_M_part t = some (0, hset v 22 dp (opc (kX X p))) := by
            have e1 : isub ((dp + 1 : Nat) : Int) 1 = ((dp : Nat) : Int) := by rw [isub_ok (by omega)]; omega
            rw [e3, e4, cl2_some, if_pos v8, v37, e1, gd_pos hd, Int.toNat_natCast, lt_eq]
          have h := LSt_part (X := X) h41 e5 (Or.inl rfl)
          have w8 : hset v 22 dp (opc (kX X p)) 0 8 = 0 := by rw [hset_obj _ _ _ _ (by decide)]; exact v8
          have hK3 : KNt X (hset v 22 dp (opc (kX X p))) (eX X (eX X p)) 0 (dp + 1) 3 0 1 (base + O.length) (wsO B O) [] [] := ⟨xmF_set hK2.1 (by omega), Or.inr (hP3.cg (fun i hi => by rw [hset_obj _ _ _ _ (by decide)]) (by rw [hset_obj _ _ _ _ (by decide)]; exact hP3.2.2.2.1.1) (by rw [hset_obj _ _ _ _ (by decide)]; exact hP3.2.2.2.1.2.1) (by rw [hset_obj _ _ _ _ (by decide)]; exact hP3.2.2.2.1.2.2.1) (hset_obj _ _ _ _ (by decide)) (hset_obj _ _ _ _ (by decide)) (hset_obj _ _ _ _ (by decide)) (hset_obj _ _ _ _ (by decide)))⟩
          refine ⟨_, _, h, hK3.k (tr := hset (hset v 22 dp (opc (kX X p))) 0 41 0) (v := 0) (lwF_ob lwF_rfl (fun q h1 h2 => (hset_obj _ _ _ _ (by omega)).symm)) rfl, low_41 (low_trans (low_trans hlow (lw_low hl)) ⟨fun j hj => ?_, fun j _ => by rw [hset_obj _ _ _ _ (by decide)]⟩), Or.inr (by rw [hset_obj _ _ _ _ (by decide), hset_same])⟩
          rw [hset_obj _ _ _ _ (by decide), hset_obj _ _ _ _ (by decide), hset_obj _ _ _ _ (by decide), hset_get, if_neg (by omega), hset_obj _ _ _ _ (by decide)]
          exact ⟨rfl, rfl, rfl, rfl, rfl⟩
/-- what begins a test: turned about -/
theorem R_not (hX : FX X) (h : StP X t p dp F ph 1 base B O) (hF : F = 1 ∨ F = 5) (hk : kX X p = 266) (he3 : p + 3 ≤ eX X p) : ∃ x' t', LSt X 1 1 t x' t' ∧ KSt X t x' t' (eX X p) 0 dp F ph 1 base B ((18, fun _ => 0) :: O) [] := by
  obtain ⟨hx, hP, h41⟩ := h
  have T := hP.tk hX
  have he := eX_ok hX T.2.1 (by omega : 0 ≤ kX X p)
  obtain ⟨u, e1, hP1, hb⟩ := M_holdP hX (Xs' := []) hP (18, fun _ => 0) (q' := eX X p) (opd' := 0) rfl ⟨by omega, by omega, he.2⟩
  obtain ⟨z, v, e2, hK, hn⟩ := M_nx hX hP1 (hb_xm hx hb) (by omega) rfl
  have hdp := hP.2.2.1.2.2
  have hi : (0 : Int) ≤ ((dp - 1 : Nat) : Int) ∧ ((dp - 1 : Nat) : Int) < 20 := by omega
  have eP : F_M_part t = some (0, v) := by
    have e0 : isub (dp : Int) 1 = ((dp - 1 : Nat) : Int) := by rw [isub_ok (by omega)]; omega
    unfold F_M_part F_M_part_33
    rw [hP.2.2.1.1, e0, lt_eq, gd_pos hi, Int.toNat_natCast, hP.2.2.2.1.1, isT hF, cl2_some, if_neg (by decide), gd_pos hi, hP.2.2.2.1.2.2.1, if_neg (by decide), if_neg (by decide), T.wY hk wcNot, cl2_some, if_neg (by decide)]
    have e1' : F_M_holdsBack 18 t = some (0, u) := e1
    rw [e1', cl2_some, e2, cl2_some]
  exact ⟨_, _, LSt_part h41 eP (Or.inl rfl), hK.k (nx_lw (hb_lw lwF_rfl hb) hn) rfl⟩
theorem P_test (hX : FX X) (h : PSw X t p p 0 dp F ph 1 base B O []) (hF : F = 1 ∨ F = 5) (hk : kX X p ≠ 266) : F_M_part t = F_M_part_60 ((dp - 1 : Nat) : Int) 1 t := by
  have T := h.tk hX
  have hdp := h.2.2.1.2.2
  have hi : (0 : Int) ≤ ((dp - 1 : Nat) : Int) ∧ ((dp - 1 : Nat) : Int) < 20 := by omega
  have e0 : isub (dp : Int) 1 = ((dp - 1 : Nat) : Int) := by rw [isub_ok (by omega)]; omega
  unfold F_M_part F_M_part_33
  rw [h.2.2.1.1, e0, lt_eq, gd_pos hi, Int.toNat_natCast, h.2.2.2.1.1, isT hF, cl2_some, if_neg (by decide), gd_pos hi, h.2.2.2.1.2.2.1, if_neg (by decide), if_neg (by decide), T.wN hk wcNot, cl2_some, if_pos rfl]
theorem P_bg0 (h : PSw X t p p 0 dp F ph bg base B O []) : PSw X (hset t 21 (dp - 1) 0) p p 0 dp F ph 0 base B O [] := h.cg (fun i hi => by rw [hset_obj _ _ _ _ (by decide)]) (by rw [hset_obj _ _ _ _ (by decide)]; exact h.2.2.2.1.1) (by rw [hset_obj _ _ _ _ (by decide)]; exact h.2.2.2.1.2.1) (by rw [hset_same]) (hset_obj _ _ _ _ (by decide)) (hset_obj _ _ _ _ (by decide)) (hset_obj _ _ _ _ (by decide)) (hset_obj _ _ _ _ (by decide))
/-- a square bracket -/
theorem R_square (hX : FX X) (h : StP X t p dp F ph 1 base B O) (hF : F = 1 ∨ F = 5) (hk : kX X p = 91) : (dp = 9 → FOt X 1 t p 5 (sX X p : Nat)) ∧ (dp ≠ 9 → ∃ x' t', LSt X 1 1 t x' t' ∧ KSt X t' x' t' (eX X p) 0 (dp + 1) 5 0 1 (base + O.length) (wsO B O) [] [] ∧ lowF (hset t 21 (dp - 1) 0) t' dp (base + O.length)) := by
  obtain ⟨hx, hP, h41⟩ := h
  have hP1 := P_bg0 hP
  have T1 := hP1.tk hX
  have hdp := hP.2.2.1.2.2
  have hi : (0 : Int) ≤ ((dp - 1 : Nat) : Int) ∧ ((dp - 1 : Nat) : Int) < 20 := by omega
  have hx1 := xm21 (dp := dp) (v := 0) hx
  have e3 : F_M_part t = cl2 (F_M_opens 5 (hset t 21 (dp - 1) 0)) fun _ s77 => some (0, s77) := by
    rw [P_test hX hP hF (by omega)]
    unfold F_M_part_60
    rw [gd_pos hi, lt_eq, Int.toNat_natCast, z1_eq (Or.inl rfl), if_neg (by decide), T1.sY hk (by decide), cl2_some, if_neg (by decide)]
  refine ⟨fun h9 => ?_, fun h9 => ?_⟩
  · exact FOt_part T1.2.1 h41 (by rw [e3, M_opens9 hX hP1 h9, cl2_some]) (Or.inl rfl) BL_8 (by decide) (BL_xm hx1)
  · obtain ⟨u, e4, hK, hl⟩ := M_opensP hX hP1 hx1 (by omega) h9 5
    refine ⟨_, _, LSt_part h41 (by rw [e3, e4, cl2_some]) (Or.inl rfl), ?_, low_41 (lw_low hl)⟩
    exact hK.k (tr := hset u 0 41 0) (v := 0) (lwF_ob lwF_rfl (fun q h1 h2 => by rw [hset_obj _ _ _ _ (by omega)])) rfl
/-- all -/
theorem R_all (hX : FX X) (h : StP X t p dp F ph 1 base B O) (hF : F = 1 ∨ F = 5) (hk : kX X p = 267) : ∃ x' t', LSt X 1 1 t x' t' ∧ KSt X t x' t' (eX X p) 1 dp F 2 0 base B O [fun _ => 1] := by
  obtain ⟨hx, hP, h41⟩ := h
  have hP1 := P_bg0 hP
  have T1 := hP1.tk hX
  have hdp := hP.2.2.1.2.2
  have hi : (0 : Int) ≤ ((dp - 1 : Nat) : Int) ∧ ((dp - 1 : Nat) : Int) < 20 := by omega
  have hx1 := xm21 (dp := dp) (v := 0) hx
  have he := eX_ok hX T1.2.1 (by omega : 0 ≤ kX X p)
  have hl1 : lwF t (hset t 21 (dp - 1) 0) dp base := lwF_set lwF_rfl hP.2.2.1.2.2.1 (by omega)
  obtain ⟨w, e2, hP2, hj⟩ := M_addP hX hP1 5 0 (q' := eX X p) (opd' := 1) (Xs' := [fun _ => 1]) ⟨by omega, by omega, he.2⟩ (RM_lf hX lf_all)
  have hP3 : PSw X (hset w 20 (dp - 1) 2) p (eX X p) 1 dp F 2 0 base B O [fun _ => 1] := hP2.cg (fun i hi => by rw [hset_obj _ _ _ _ (by decide)]) (by rw [hset_obj _ _ _ _ (by decide)]; exact hP2.2.2.2.1.1) (by rw [hset_same]) (by rw [hset_obj _ _ _ _ (by decide)]; exact hP2.2.2.2.1.2.2.1) (hset_obj _ _ _ _ (by decide)) (hset_obj _ _ _ _ (by decide)) (hset_obj _ _ _ _ (by decide)) (hset_obj _ _ _ _ (by decide))
  obtain ⟨z, u, e3, hK, hn⟩ := M_nx hX hP3 (xmF_set (jn_xm hx1 hj) (by omega)) (by omega) rfl
  have eP : F_M_part t = some (1, u) := by
    rw [P_test hX hP hF (by omega)]
    unfold F_M_part_60 F_M_part_87
    rw [gd_pos hi, lt_eq, Int.toNat_natCast, z1_eq (Or.inl rfl), if_neg (by decide), T1.sN (by omega) (by decide), cl2_some, if_pos rfl, if_neg (by decide), T1.wY hk wcAll, cl2_some, if_neg (by decide), e2, cl2_some, gd_pos hi, lt_eq, e3, cl2_some]
  exact ⟨_, _, LSt_part h41 eP (Or.inr rfl), hK.k (nx_lw (lwF_set (jn_lw hl1 hj) hP.2.2.1.2.2.1 (by omega)) hn) rfl⟩
end OpenR
