/-! the check's rounds: brackets closed, the end -/
section CloseR
variable {X : Cx} {s t u : Hp} {p q c : Nat} {opd dp base : Nat} {F ph bg : Int} {B Xs : List FV} {O O1 : List Op} {Xv V : FV}
theorem M_pop (hP : PSw X u p q 1 (dp + 1) F ph bg (base + O.length) B [] Xs) {tb : Hp} {F0 ph0 bg0 : Int} {p0 q0 o0 : Nat} {B0 Xs0 Xs1 : List FV} (hb : PSw X tb p0 q0 o0 dp F0 ph0 bg0 base B0 O Xs0) (hlow : lowF tb u dp (base + O.length)) (hB : wsO B0 O ++ Xs1 = B ++ Xs) : PSw X (hset (hset u 0 37 (dp : Int)) 0 38 ((dp : Int) - 1)) p q 1 dp F0 ph0 bg0 base B0 O Xs1 := by
  obtain ⟨a1, a2, a3, a4, a5, ⟨cm, c1, c2, c3⟩, a7, a8, a9⟩ := hP
  obtain ⟨b1, b2, b3, b4, b5, b6⟩ := hb
  have hq : ∀ q, q ≠ 0 → hset (hset u 0 37 (dp : Int)) 0 38 ((dp : Int) - 1) q = u q := fun q h => by rw [hset_obj _ _ _ _ h, hset_obj _ _ _ _ h]
  have h0 : ∀ i, i ≠ 37 → i ≠ 38 → hset (hset u 0 37 (dp : Int)) 0 38 ((dp : Int) - 1) 0 i = u 0 i := fun i h1 h2 => by rw [hset_get, if_neg (fun y => h2 y.2), hset_get, if_neg (fun y => h1 y.2)]
  have h37 : hset (hset u 0 37 (dp : Int)) 0 38 ((dp : Int) - 1) 0 37 = (dp : Int) := by rw [hset_get, if_neg (by decide), hset_same]
  have h38 : hset (hset u 0 37 (dp : Int)) 0 38 ((dp : Int) - 1) 0 38 = (dp : Int) - 1 := hset_same _ _ _ _
  generalize hset (hset u 0 37 (dp : Int)) 0 38 ((dp : Int) - 1) = v at hq h0 h37 h38
  obtain ⟨l1, l2, l3, l4, l5⟩ := hlow.1 (dp - 1) (by omega)
  have el : ([] : List Op).length = 0 := rfl
  refine ⟨TkM_congr a1 (fun i h1 h2 => h0 i (by omega) (by omega)), by rw [h0 31 (by decide) (by decide)]; exact a2, ⟨h37, h38, b3.2.2.1, b3.2.2.2⟩, by rw [hq 19 (by decide), hq 20 (by decide), hq 21 (by decide), hq 23 (by decide), l1, l2, l3, l5]; exact b4, ⟨by rw [h0 40 (by decide) (by decide), a5.1, el]; rfl, opsA_congr O (fun k hk => by rw [hq 24 (by decide), hlow.2 k hk]) b5.2⟩, ⟨cm, by rw [h0 30 (by decide) (by decide)]; exact c1, ?_, by rw [el] at c3; omega⟩, by rw [el] at a7; omega, a8, a9⟩
  rw [hB]
  exact RM_congr c2 (fun i _ => by rw [hq 17 (by decide), hq 18 (by decide)]; exact ⟨rfl, rfl⟩) (Nat.le_refl _) (fun _ _ => rfl)
theorem lw_of_low {tb : Hp} {b b0 : Nat} (h : lowF tb u dp b) (hb : b0 ≤ b) (hd : 1 ≤ dp) : lwF tb u dp b0 := ⟨fun j hj => h.1 j (by omega), (h.1 (dp - 1) (by omega)).2.2.2.1, fun j hj => h.2 j (by omega)⟩
theorem low_ob {tb v : Hp} {b : Nat} (h : lowF tb u dp b) (g : ∀ q, 19 ≤ q → q ≤ 24 → v q = u q) : lowF tb v dp b := low_trans h ⟨fun j _ => by rw [g 19 (by decide) (by decide), g 20 (by decide) (by decide), g 21 (by decide) (by decide), g 22 (by decide) (by decide), g 23 (by decide) (by decide)]; exact ⟨rfl, rfl, rfl, rfl, rfl⟩, fun j _ => by rw [g 24 (by decide) (by decide)]⟩
def clS (F : Int) : Int := if F = 5 then 93 else 41
theorem G_cl (hX : FX X) (hP : PSw X t p q 1 dp F ph bg base B O Xs) (hF : F = 2 ∨ F = 4 ∨ F = 5) (hna : ¬ arK (kX X p) ∨ 2 ≤ ph) (hF5 : F = 5 → ph ≠ 0 ∧ kX X p ≠ 264 ∧ kX X p ≠ 265) : F_M_goesOn t = F_M_goesOn_496 ((dp - 1 : Nat) : Int) F (clS F) t := by
  rw [G_409 hX hP hna (fun z => hF5 (by omega))]
  unfold F_M_goesOn_409 clS
  rw [if_pos (by omega), if_neg (by omega)]
  by_cases c : F = 5
  · rw [if_pos c, if_pos c]
  · rw [if_neg c, if_neg c]
/-- a bracket closed -/
theorem R_close (hX : FX X) {tb ts : Hp} {F0 ph0 : Int} {p0 q0 o0 : Nat} {B0 Xs0 : List FV} (hx : xmF (xP X) (xt X) t) (hP : PSw X t p p 1 (dp + 1) F ph bg (base + O.length) B (O1 ++ []) [Xv]) (h41 : t 0 41 = 1) (hw : wfO O1 Xv) (hr : rkG 1 O1) (hF : F = 2 ∨ F = 4 ∨ F = 5) (hna : ¬ arK (kX X p) ∨ 2 ≤ ph) (hF5 : F = 5 → ph ≠ 0 ∧ kX X p ≠ 264 ∧ kX X p ≠ 265)
    (hb : PSw X tb p0 q0 o0 dp F0 ph0 0 base B0 O Xs0) (hlow : lowF tb t dp (base + O.length)) (hts : lwF ts tb dp base)
    (hB : (F ≠ 4 ∧ B = wsO B0 O ∧ V = fld O1 Xv) ∨ (F = 4 ∧ ∃ (V1 : FV) (op : Int), B = wsO B0 O ++ [V1] ∧ VR V1 ∧ t 22 dp = op ∧ (6 ≤ op ∧ op ≤ 17) ∧ V = jnV op V1 (fld O1 Xv))) : (kX X p ≠ clS F → FOt X 1 t p 1 (sX X p : Nat)) ∧ (kX X p = clS F → ∃ x' t', LSt X 1 1 t x' t' ∧ KSt X ts x' t' (eX X p) 1 dp F0 (if F = 5 then 2 else ph0) 0 base B0 O [V]) := by
  have T := hP.tk hX
  have hi := ix_ok hP
  have eG := G_cl hX hP hF hna hF5
  have hcl : 0 ≤ clS F ∧ clS F < 256 := by
    unfold clS
    by_cases c : F = 5
    · rw [if_pos c]; decide
    · rw [if_neg c]; decide
  have hdp := hb.2.2.1.2.2
  unfold F_M_goesOn_496 at eG
  refine ⟨fun g => ?_, fun g => ?_⟩
  · refine FOt_goes T.2.1 h41 (v := 0) (u := BL X t p 1) ?_ BL_8 (by decide) (BL_xm hx)
    rw [eG, T.sN g hcl, cl2_some, if_pos rfl, T.bl, cl2_some]
    unfold F_M_goesOn_511
    rw [BL_8.1, if_neg (by decide)]
  · have h0 : 0 ≤ kX X p := by omega
    have he := eX_ok hX T.2.1 h0
    obtain ⟨u, e1, hP1, hj⟩ := M_joinsP hX hP hw hr True.intro
    have hlowu : lowF tb u dp (base + O.length) := low_ob hlow (fun q h1 h2 => hj.1 q (by omega) (by omega) (by omega))
    have hvr : VR (fld O1 Xv) := wfO_vr O1 Xv hw
    have u37 : u 0 37 = ((dp + 1 : Nat) : Int) := hP1.2.2.1.1
    have u38 : u 0 38 = ((dp + 1 : Nat) : Int) - 1 := hP1.2.2.1.2.1
    have hxu := jn_xm hx hj
    have u41 : u 0 41 = 1 := by rw [hj.2.1 41 (by decide) (by decide)]; exact h41
    -- popped
    have hpop : ∃ w, PSw X w p (eX X p) 1 dp F0 ph0 0 base B0 O [V] ∧ xmF (xP X) (xt X) w ∧ lwF ts w dp base ∧ w 0 41 = 1 ∧ F_M_goesOn t = F_M_goesOn_561 F w := by
      have e2 : F_M_goesOn t = (if F = 4 then cl2 (F_M_add (hset (hset u 0 37 (dp : Int)) 0 38 ((dp : Int) - 1) 22 dp) 0 (hset (hset u 0 37 (dp : Int)) 0 38 ((dp : Int) - 1))) fun _ s105 => F_M_goesOn_561 F s105 else F_M_goesOn_561 F (hset (hset u 0 37 (dp : Int)) 0 38 ((dp : Int) - 1))) := by
        have t8 : t 0 8 ≤ 0 := by rw [T.f8.1]; decide
        have ed : dp + 1 - 1 = dp := by omega
        have e3 : isub ((dp + 1 : Nat) : Int) 1 = (dp : Int) := by rw [isub_ok (by omega)]; omega
        have e4 : isub (((dp + 1 : Nat) : Int) - 1) 1 = (dp : Int) - 1 := by rw [isub_ok (by omega)]; omega
        have w38 : hset u 0 37 (dp : Int) 0 38 = ((dp + 1 : Nat) : Int) - 1 := by rw [hset_get, if_neg (by decide)]; exact u38
        rw [eG, T.sY g hcl, cl2_some, if_neg (by decide)]
        unfold F_M_goesOn_511
        rw [if_pos t8, e1, cl2_some, u37, e3, lt_eq, w38, e4, lt_eq]
        clear e3 e4
        by_cases c : F = 4
        · rw [if_pos c, if_pos c, gd_pos hi, Int.toNat_natCast, ed]
        · rw [if_neg c, if_neg c]
      have hxw : xmF (xP X) (xt X) (hset (hset u 0 37 (dp : Int)) 0 38 ((dp : Int) - 1)) := xmF_set (xmF_set hxu (by omega)) (by omega)
      have hloww : lowF tb (hset (hset u 0 37 (dp : Int)) 0 38 ((dp : Int) - 1)) dp (base + O.length) := low_ob hlowu (fun q h1 h2 => by rw [hset_obj _ _ _ _ (by omega), hset_obj _ _ _ _ (by omega)])
      have hlww : lwF ts (hset (hset u 0 37 (dp : Int)) 0 38 ((dp : Int) - 1)) dp base := lwF_trans hts (lw_of_low hloww (by omega) hdp.1)
      have w41 : hset (hset u 0 37 (dp : Int)) 0 38 ((dp : Int) - 1) 0 41 = 1 := by rw [hset_get, if_neg (by decide), hset_get, if_neg (by decide)]; exact u41
      have w22 : hset (hset u 0 37 (dp : Int)) 0 38 ((dp : Int) - 1) 22 dp = t 22 dp := by rw [hset_obj _ _ _ _ (by decide), hset_obj _ _ _ _ (by decide), hj.1 22 (by decide) (by decide) (by decide)]
      rcases hB with ⟨n4, hB1, hV⟩ | ⟨f4, V1, op, hB1, hV1, h22, hop, hV⟩
      · have hPw := M_pop hP1 hb hlowu (Xs1 := [V]) (by rw [hB1, hV])
        rw [if_neg n4] at e2
        exact ⟨_, hPw.up (by omega) (by omega) he.2, hxw, hlww, w41, e2⟩
      · have hPw := M_pop hP1 hb hlowu (Xs1 := [V1, fld O1 Xv]) (by rw [hB1, List.append_assoc]; rfl)
        rw [if_pos f4, w22, h22] at e2
        obtain ⟨w, e5, hP5, hj5⟩ := M_addP hX hPw op 0 (q' := eX X p) (opd' := 1) (Xs' := [V]) ⟨by omega, by omega, he.2⟩ (fun cm t' hR hcm ha h17 h18 => by
          have hR' : RM (hset (hset u 0 37 (dp : Int)) 0 38 ((dp : Int) - 1)) (xb X) (xW X) (xlQ X) (xd X) cm (wsO B0 O ++ [V1] ++ [fld O1 Xv]) := by
            rw [List.append_assoc]
            exact hR
          rw [hV]
          exact RM_op hX.2.2.2.1 hR' hcm hV1 hvr ha hop h17)
        rw [e5, cl2_some] at e2
        exact ⟨w, hP5, jn_xm hxw hj5, jn_lw hlww hj5, by rw [hj5.2.1 41 (by decide) (by decide)]; exact w41, e2⟩
    obtain ⟨w, hPw, hxw, hlw, w41, eG2⟩ := hpop
    by_cases c : F = 5
    · rw [if_pos c]
      have hPz : PSw X (hset w 20 (dp - 1) 2) p (eX X p) 1 dp F0 2 0 base B0 O [V] := hPw.cg (fun i hi => by rw [hset_obj _ _ _ _ (by decide)]) (by rw [hset_obj _ _ _ _ (by decide)]; exact hPw.2.2.2.1.1) (by rw [hset_same]) (by rw [hset_obj _ _ _ _ (by decide)]; exact hPw.2.2.2.1.2.2.1) (hset_obj _ _ _ _ (by decide)) (hset_obj _ _ _ _ (by decide)) (hset_obj _ _ _ _ (by decide)) (hset_obj _ _ _ _ (by decide))
      obtain ⟨z, v, e6, hK, hn⟩ := M_nx hX hPz (xmF_set hxw (by omega)) h0 rfl
      have v41 : v 0 41 = 1 := by rw [hn.2 41 (by unfold nxI; decide), hset_obj _ _ _ _ (by decide)]; exact w41
      have hi2 := ix_ok hPw
      have eG3 : F_M_goesOn t = some (1, v) := by
        rw [eG2]
        have e3 : isub (dp : Int) 1 = ((dp - 1 : Nat) : Int) := by rw [isub_ok (by omega)]; omega
        unfold F_M_goesOn_561 F_M_goesOn_578
        rw [if_pos c, hPw.2.2.1.1, e3, gd_pos hi2, Int.toNat_natCast, lt_eq, e6, cl2_some]
      have h := LSt_goes (X := X) h41 eG3
      rw [if_neg (by decide)] at h
      exact ⟨_, _, h, hK.k1 (nx_lw (lwF_set hlw hdp.1 (by omega)) hn) v41⟩
    · rw [if_neg c]
      obtain ⟨z, v, e6, hK, hn⟩ := M_nx hX hPw hxw h0 rfl
      have v41 : v 0 41 = 1 := by rw [hn.2 41 (by unfold nxI; decide)]; exact w41
      have eG3 : F_M_goesOn t = some (1, v) := by
        rw [eG2]
        unfold F_M_goesOn_561 F_M_goesOn_578
        rw [if_neg c, e6, cl2_some]
      have h := LSt_goes (X := X) h41 eG3
      rw [if_neg (by decide)] at h
      exact ⟨_, _, h, hK.k1 (nx_lw hlw hn) v41⟩
/-- the end of a sum, or of a test -/
theorem R_end (hX : FX X) (h : StG X t p dp F ph bg base B (O1 ++ []) Xv) (hw : wfO O1 Xv) (hr : rkG 1 O1) (hF : F = 0 ∨ F = 1) (hna : ¬ arK (kX X p) ∨ 2 ≤ ph) (hF1 : F = 1 → ph ≠ 0 ∧ kX X p ≠ 264 ∧ kX X p ≠ 265) : ∃ t', LSt X 1 1 t 0 t' ∧ xmF (xP X) (xt X) t' ∧ PSw X t' p p 1 dp F ph bg base B [] [fld O1 Xv] := by
  obtain ⟨hx, hP, h41⟩ := h
  have T := hP.tk hX
  obtain ⟨u, e1, hP1, hj⟩ := M_joinsP hX hP hw hr True.intro
  have eG : F_M_goesOn t = some (0, u) := by
    rw [G_409 hX hP hna (fun z => hF1 (by omega))]
    unfold F_M_goesOn_409 F_M_goesOn_426
    rw [if_neg (by omega), if_pos T.f8.1, e1, cl2_some]
  have h := LSt_goes (X := X) h41 eG
  rw [if_pos rfl] at h
  exact ⟨u, h, jn_xm hx hj, hP1⟩
end CloseR
