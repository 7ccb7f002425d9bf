/-! THE LAW: its loop -/
def Sims (Inv : Hp → Hp → Prop) : Prop := Sim_feed Inv ∧ Sim_end Inv ∧ Sim_text Inv ∧ Sim_fault Inv ∧ Sim_has Inv ∧ Sim_letter Inv ∧ Sim_road Inv ∧ Sim_day Inv ∧ Sim_worth Inv ∧ Sim_annul Inv ∧ Sim_as Inv ∧ Sim_made Inv ∧ Sim_most Inv ∧ Sim_row Inv ∧ Sim_end_ Inv ∧ Sim_of Inv ∧ Sim_moves Inv ∧ Sim_pays Inv ∧ Sim_two Inv ∧ Sim_price Inv ∧ Sim_ways Inv ∧ Sim_deal Inv ∧ Sim_undeal Inv ∧ Sim_dealRow Inv ∧ Sim_share Inv ∧ Sim_money Inv ∧ Sim_other Inv ∧ Sim_chain Inv ∧ Sim_breaks Inv ∧ Sim_away Inv ∧ Sim_uneven Inv ∧ Sim_haggle Inv ∧ Sim_ended Inv ∧ Sim_gift Inv ∧ Sim_surely Inv ∧ Sim_image Inv ∧ Sim_octet Inv ∧ Sim_on Inv
set_option maxHeartbeats 4000000 in
theorem law_loop {x : aC} {base b Lc K Wd : Nat} {xr : Nat → Int32} (B : lX x cL_law wsL_law RL 4 room_1 base b Lc xr K Wd) (hK : K ≤ 600000) (hW : Wd ≤ 7302250) (hLc : Lc ≤ 3072) {Inv : Hp → Hp → Prop} (S : Sims Inv) : ∀ (n iN : Nat), Lc < iN + n → iN ≤ 4000 → ∀ (σ τ : Hp), wr shC σ → wr shM τ → Inv σ τ → aS x (shC ++ shM) 4 18 (Lw b iN) [] (hjoin shC.length σ τ)
  | 0, iN, hn, hb, σ, τ, hw1, hw2, hI => by
    refine A_iload_n B.1 0 rfl rfl dL_law_18 ?_
    refine L_aload_n (a := vI 0) B.1 3 rfl rfl dL_law_19 ?_
    refine L_slen B (by omega) dL_law_20 ?_
    refine A_bipush B.1 dL_law_21 (z := 6) rfl ?_
    refine A_isub B.1 dL_law_23 ?_
    have e : isub (Lc : Int) 6 = (Lc : Int) - 6 := by
      unfold isub w32
      rw [Int.bmod_eq_of_le] <;> omega
    rw [e]
    refine A_icmp_gt (tgt := 1210) B.1 rfl dL_law_24 (fun h => ?_) (fun h => absurd (show (Lc : Int) - 6 < (iN : Int) by omega) h)
    refine A_iconst B.1 dL_law_1210 (z := 1) rfl ?_
    exact L_end B hK hW dL_law_1211
  | n + 1, iN, hn, hb, σ, τ, hw1, hw2, hI => by
    refine A_iload_n B.1 0 rfl rfl dL_law_18 ?_
    refine L_aload_n (a := vI 0) B.1 3 rfl rfl dL_law_19 ?_
    refine L_slen B (by omega) dL_law_20 ?_
    refine A_bipush B.1 dL_law_21 (z := 6) rfl ?_
    refine A_isub B.1 dL_law_23 ?_
    have e : isub (Lc : Int) 6 = (Lc : Int) - 6 := by
      unfold isub w32
      rw [Int.bmod_eq_of_le] <;> omega
    rw [e]
    refine A_icmp_gt (tgt := 1210) B.1 rfl dL_law_24 (fun h => ?_) (fun h => ?_)
    · refine A_iconst B.1 dL_law_1210 (z := 1) rfl ?_
      exact L_end B hK hW dL_law_1211
    have hi : iN + 6 ≤ Lc := by omega
    refine L_aload_n (a := vI 0) B.1 3 rfl rfl dL_law_27 ?_
    refine A_iload_n B.1 0 rfl rfl dL_law_28 ?_
    refine L_sld B (iN := iN) (by omega) (by omega) dL_law_29 ?_
    refine A_bipush B.1 dL_law_30 (z := 63) rfl ?_
    refine A_iand B.1 dL_law_32 ?_
    have kk : ∀ σ' τ', wr shC σ' → wr shM τ' → Inv σ' τ' → aS x (shC ++ shM) 4 1204 (Lw b iN) [] (hjoin shC.length σ' τ') := by
      intro σ' τ' k1 k2 k3
      refine A_iinc (n := 6) (L' := fun y => [(3, vI y), (2, vR shC.length), (1, vR 0), (0, ((3, Int.ofNat b) : AV))]) B.1 0 rfl (by decide) (fun y => rfl) dL_law_1204 rfl (fun y hy => ?_)
      have ey : y = ((iN + 6 : Nat) : Int) := by
        rw [hy]
        unfold iadd w32
        rw [Int.bmod_eq_of_le] <;> omega
      subst ey
      refine A_goto (tgt := 18) B.1 rfl dL_law_1207 ?_
      exact law_loop B hK hW hLc S n (iN + 6) (by omega) (by omega) σ' τ' k1 k2 k3
    generalize iand (xr iN).toInt 63 = v
    by_cases q0 : v = 0
    · exact A_tIn (tgt := 200) B.1 q0 (by decide) (by decide) rfl rfl dL_law_33 (case_feed B hLc hi hw1 hw2 hI S.1 kk)
    by_cases q1 : v = 1
    · exact A_tIn (tgt := 263) B.1 q1 (by decide) (by decide) rfl rfl dL_law_33 (case_end B hLc hi hw1 hw2 hI S.2.1 kk)
    by_cases q2 : v = 2
    · exact A_tIn (tgt := 286) B.1 q2 (by decide) (by decide) rfl rfl dL_law_33 (case_text B hLc hi hw1 hw2 hI S.2.2.1 kk)
    by_cases q3 : v = 3
    · exact A_tIn (tgt := 299) B.1 q3 (by decide) (by decide) rfl rfl dL_law_33 (case_fault B hLc hi hw1 hw2 hI S.2.2.2.1 kk)
    by_cases q4 : v = 4
    · exact A_tIn (tgt := 322) B.1 q4 (by decide) (by decide) rfl rfl dL_law_33 (case_has B hLc hi hw1 hw2 hI S.2.2.2.2.1 kk)
    by_cases q5 : v = 5
    · exact A_tIn (tgt := 345) B.1 q5 (by decide) (by decide) rfl rfl dL_law_33 (case_letter B hLc hi hw1 hw2 hI S.2.2.2.2.2.1 kk)
    by_cases q6 : v = 6
    · exact A_tIn (tgt := 378) B.1 q6 (by decide) (by decide) rfl rfl dL_law_33 (case_road B hLc hi hw1 hw2 hI S.2.2.2.2.2.2.1 kk)
    by_cases q7 : v = 7
    · exact A_tIn (tgt := 411) B.1 q7 (by decide) (by decide) rfl rfl dL_law_33 (case_day B hLc hi hw1 hw2 hI S.2.2.2.2.2.2.2.1 kk)
    by_cases q8 : v = 8
    · exact A_tIn (tgt := 434) B.1 q8 (by decide) (by decide) rfl rfl dL_law_33 (case_worth B hLc hi hw1 hw2 hI S.2.2.2.2.2.2.2.2.1 kk)
    by_cases q9 : v = 9
    · exact A_tIn (tgt := 467) B.1 q9 (by decide) (by decide) rfl rfl dL_law_33 (case_annul B hLc hi hw1 hw2 hI S.2.2.2.2.2.2.2.2.2.1 kk)
    by_cases q10 : v = 10
    · exact A_tIn (tgt := 490) B.1 q10 (by decide) (by decide) rfl rfl dL_law_33 (case_as B hLc hi hw1 hw2 hI S.2.2.2.2.2.2.2.2.2.2.1 kk)
    by_cases q11 : v = 11
    · exact A_tIn (tgt := 513) B.1 q11 (by decide) (by decide) rfl rfl dL_law_33 (case_made B hLc hi hw1 hw2 hI S.2.2.2.2.2.2.2.2.2.2.2.1 kk)
    by_cases q12 : v = 12
    · exact A_tIn (tgt := 546) B.1 q12 (by decide) (by decide) rfl rfl dL_law_33 (case_most B hLc hi hw1 hw2 hI S.2.2.2.2.2.2.2.2.2.2.2.2.1 kk)
    by_cases q13 : v = 13
    · exact A_tIn (tgt := 585) B.1 q13 (by decide) (by decide) rfl rfl dL_law_33 (case_row B hLc hi hw1 hw2 hI S.2.2.2.2.2.2.2.2.2.2.2.2.2.1 kk)
    by_cases q14 : v = 14
    · exact A_tIn (tgt := 608) B.1 q14 (by decide) (by decide) rfl rfl dL_law_33 (case_end_ B hLc hi hw1 hw2 hI S.2.2.2.2.2.2.2.2.2.2.2.2.2.2.1 kk)
    by_cases q15 : v = 15
    · exact A_tIn (tgt := 657) B.1 q15 (by decide) (by decide) rfl rfl dL_law_33 (case_of B hLc hi hw1 hw2 hI S.2.2.2.2.2.2.2.2.2.2.2.2.2.2.2.1 kk)
    by_cases q16 : v = 16
    · exact A_tIn (tgt := 680) B.1 q16 (by decide) (by decide) rfl rfl dL_law_33 (case_moves B hLc hi hw1 hw2 hI S.2.2.2.2.2.2.2.2.2.2.2.2.2.2.2.2.1 kk)
    by_cases q17 : v = 17
    · exact A_tIn (tgt := 713) B.1 q17 (by decide) (by decide) rfl rfl dL_law_33 (case_pays B hLc hi hw1 hw2 hI S.2.2.2.2.2.2.2.2.2.2.2.2.2.2.2.2.2.1 kk)
    by_cases q18 : v = 18
    · exact A_tIn (tgt := 736) B.1 q18 (by decide) (by decide) rfl rfl dL_law_33 (case_two B hLc hi hw1 hw2 hI S.2.2.2.2.2.2.2.2.2.2.2.2.2.2.2.2.2.2.1 kk)
    by_cases q19 : v = 19
    · exact A_tIn (tgt := 821) B.1 q19 (by decide) (by decide) rfl rfl dL_law_33 (case_price B hLc hi hw1 hw2 hI S.2.2.2.2.2.2.2.2.2.2.2.2.2.2.2.2.2.2.2.1 kk)
    by_cases q20 : v = 20
    · exact A_tIn (tgt := 844) B.1 q20 (by decide) (by decide) rfl rfl dL_law_33 (case_ways B hLc hi hw1 hw2 hI S.2.2.2.2.2.2.2.2.2.2.2.2.2.2.2.2.2.2.2.2.1 kk)
    by_cases q21 : v = 21
    · exact A_tIn (tgt := 857) B.1 q21 (by decide) (by decide) rfl rfl dL_law_33 (case_deal B hLc hi hw1 hw2 hI S.2.2.2.2.2.2.2.2.2.2.2.2.2.2.2.2.2.2.2.2.2.1 kk)
    by_cases q22 : v = 22
    · exact A_tIn (tgt := 890) B.1 q22 (by decide) (by decide) rfl rfl dL_law_33 (case_undeal B hLc hi hw1 hw2 hI S.2.2.2.2.2.2.2.2.2.2.2.2.2.2.2.2.2.2.2.2.2.2.1 kk)
    by_cases q23 : v = 23
    · exact A_tIn (tgt := 913) B.1 q23 (by decide) (by decide) rfl rfl dL_law_33 (case_dealRow B hLc hi hw1 hw2 hI S.2.2.2.2.2.2.2.2.2.2.2.2.2.2.2.2.2.2.2.2.2.2.2.1 kk)
    by_cases q24 : v = 24
    · exact A_tIn (tgt := 926) B.1 q24 (by decide) (by decide) rfl rfl dL_law_33 (case_share B hLc hi hw1 hw2 hI S.2.2.2.2.2.2.2.2.2.2.2.2.2.2.2.2.2.2.2.2.2.2.2.2.1 kk)
    by_cases q25 : v = 25
    · exact A_tIn (tgt := 949) B.1 q25 (by decide) (by decide) rfl rfl dL_law_33 (case_money B hLc hi hw1 hw2 hI S.2.2.2.2.2.2.2.2.2.2.2.2.2.2.2.2.2.2.2.2.2.2.2.2.2.1 kk)
    by_cases q26 : v = 26
    · exact A_tIn (tgt := 972) B.1 q26 (by decide) (by decide) rfl rfl dL_law_33 (case_other B hLc hi hw1 hw2 hI S.2.2.2.2.2.2.2.2.2.2.2.2.2.2.2.2.2.2.2.2.2.2.2.2.2.2.1 kk)
    by_cases q27 : v = 27
    · exact A_tIn (tgt := 1021) B.1 q27 (by decide) (by decide) rfl rfl dL_law_33 (case_chain B hLc hi hw1 hw2 hI S.2.2.2.2.2.2.2.2.2.2.2.2.2.2.2.2.2.2.2.2.2.2.2.2.2.2.2.1 kk)
    by_cases q28 : v = 28
    · exact A_tIn (tgt := 1054) B.1 q28 (by decide) (by decide) rfl rfl dL_law_33 (case_breaks B hLc hi hw1 hw2 hI S.2.2.2.2.2.2.2.2.2.2.2.2.2.2.2.2.2.2.2.2.2.2.2.2.2.2.2.2.1 kk)
    by_cases q29 : v = 29
    · exact A_tIn (tgt := 1067) B.1 q29 (by decide) (by decide) rfl rfl dL_law_33 (case_away B hLc hi hw1 hw2 hI S.2.2.2.2.2.2.2.2.2.2.2.2.2.2.2.2.2.2.2.2.2.2.2.2.2.2.2.2.2.1 kk)
    by_cases q30 : v = 30
    · exact A_tIn (tgt := 1080) B.1 q30 (by decide) (by decide) rfl rfl dL_law_33 (case_uneven B hLc hi hw1 hw2 hI S.2.2.2.2.2.2.2.2.2.2.2.2.2.2.2.2.2.2.2.2.2.2.2.2.2.2.2.2.2.2.1 kk)
    by_cases q31 : v = 31
    · exact A_tIn (tgt := 1093) B.1 q31 (by decide) (by decide) rfl rfl dL_law_33 (case_haggle B hLc hi hw1 hw2 hI S.2.2.2.2.2.2.2.2.2.2.2.2.2.2.2.2.2.2.2.2.2.2.2.2.2.2.2.2.2.2.2.1 kk)
    by_cases q32 : v = 32
    · exact A_tIn (tgt := 1116) B.1 q32 (by decide) (by decide) rfl rfl dL_law_33 (case_ended B hLc hi hw1 hw2 hI S.2.2.2.2.2.2.2.2.2.2.2.2.2.2.2.2.2.2.2.2.2.2.2.2.2.2.2.2.2.2.2.2.1 kk)
    by_cases q33 : v = 33
    · exact A_tIn (tgt := 1129) B.1 q33 (by decide) (by decide) rfl rfl dL_law_33 (case_gift B hLc hi hw1 hw2 hI S.2.2.2.2.2.2.2.2.2.2.2.2.2.2.2.2.2.2.2.2.2.2.2.2.2.2.2.2.2.2.2.2.2.1 kk)
    by_cases q34 : v = 34
    · exact A_tIn (tgt := 1142) B.1 q34 (by decide) (by decide) rfl rfl dL_law_33 (case_surely B hLc hi hw1 hw2 hI S.2.2.2.2.2.2.2.2.2.2.2.2.2.2.2.2.2.2.2.2.2.2.2.2.2.2.2.2.2.2.2.2.2.2.1 kk)
    by_cases q35 : v = 35
    · exact A_tIn (tgt := 1155) B.1 q35 (by decide) (by decide) rfl rfl dL_law_33 (case_image B hLc hi hw1 hw2 hI S.2.2.2.2.2.2.2.2.2.2.2.2.2.2.2.2.2.2.2.2.2.2.2.2.2.2.2.2.2.2.2.2.2.2.2.1 kk)
    by_cases q36 : v = 36
    · exact A_tIn (tgt := 1168) B.1 q36 (by decide) (by decide) rfl rfl dL_law_33 (case_octet B hLc hi hw1 hw2 hI S.2.2.2.2.2.2.2.2.2.2.2.2.2.2.2.2.2.2.2.2.2.2.2.2.2.2.2.2.2.2.2.2.2.2.2.2.1 kk)
    by_cases q37 : v = 37
    · exact A_tIn (tgt := 1191) B.1 q37 (by decide) (by decide) rfl rfl dL_law_33 (case_on B hLc hi hw1 hw2 hI S.2.2.2.2.2.2.2.2.2.2.2.2.2.2.2.2.2.2.2.2.2.2.2.2.2.2.2.2.2.2.2.2.2.2.2.2.2 kk)
    exact A_tOut (tgt := 1204) B.1 (by omega) rfl dL_law_33 (kk σ τ hw1 hw2 hI)
