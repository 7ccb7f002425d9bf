/-! THE LAW: its start -/
theorem aOA_spec {args : Array Value} {s : State} (h : (Cond.arrayOver (.array .int)).before args s = true) : ∃ (c : ClassId) (k : Class) (comp : ClassId), s.vm.findClass ("[" ++ (FieldType.array .int).toString) = some c ∧ s.vm.classes[c]? = some k ∧ k.kind = .array comp (.array .int) := by
  have h : (Cond.arrayOver (.array .int)).holds args s none s [] = true := h
  simp only [Cond.holds, Cond.value, beq_iff_eq] at h
  cases hc : s.vm.findClass (FieldType.array FieldType.int).toString with
  | none => simp [hc] at h
  | some comp =>
    simp only [hc, Option.bind_some, Option.bind_eq_some_iff, Option.map_eq_some_iff] at h
    obtain ⟨c, hi, k, hk, hb⟩ := h
    cases hkind : k.kind with
    | array component ty =>
      rw [hkind] at hb
      simp at hb
      exact ⟨c, k, component, hb.2, hk, by rw [hkind, hb.1]⟩
    | _ => rw [hkind] at hb; simp at hb
theorem arr_of {s : State} {c : ClassId} {k : Class} {comp : ClassId} {ty : FieldType} (h2 : s.vm.classes[c]? = some k) (h3 : k.kind = .array comp ty) : ArrOfT s c ty := fun _ _ => ⟨fun _ h => (by cases h), k, h2, comp, h3⟩
set_option maxHeartbeats 4000000 in
theorem law_K {args : Array Value} {s : State} (hts : ∀ w ∈ lw_tbl, w.before args s = true) (base : Nat) : ∃ g : aG, (∀ j, g.2.2 j = base + j) ∧ va_K g.1 vwCl (tysA g) s := by
  obtain ⟨c0, i0, k0⟩ := u_known (ws := lw_tbl) (C := RX0) (T := TX0) (N := 4) (n := 4) hts in_wsX00 (hts _ (tt_1 (i := 225) rfl))
  obtain ⟨c1, i1, k1⟩ := u_known (ws := lw_tbl) (C := RX1) (T := TX1) (N := 2) (n := 2) hts in_wsX10 (hts _ (tt_2 (i := 68) rfl))
  obtain ⟨c2, i2, k2⟩ := u_known (ws := lw_tbl) (C := RX2) (T := TX2) (N := 2) (n := 2) hts in_wsX20 (hts _ (tt_1 (i := 30) rfl))
  obtain ⟨c3, i3, k3⟩ := u_known (ws := lw_tbl) (C := RX3) (T := TX3) (N := 11) (n := 11) hts in_wsX30 (hts _ (tt_2 (i := 120) rfl))
  obtain ⟨c4, i4, k4⟩ := u_known (ws := lw_tbl) (C := RX4) (T := TX4) (N := 4) (n := 4) hts in_wsX40 (hts _ (tt_2 (i := 165) rfl))
  obtain ⟨c5, i5, k5⟩ := u_known (ws := lw_tbl) (C := RX5) (T := TX5) (N := 8) (n := 8) hts in_wsX50 (hts _ (tt_2 (i := 30) rfl))
  obtain ⟨c6, i6, k6⟩ := u_known (ws := lw_tbl) (C := RX6) (T := TX6) (N := 20) (n := 20) hts in_wsX60 (hts _ (tt_1 (i := 53) rfl))
  obtain ⟨c7, i7, k7⟩ := u_known (ws := lw_tbl) (C := RX7) (T := TX7) (N := 11) (n := 11) hts in_wsX70 (hts _ (tt_2 (i := 62) rfl))
  obtain ⟨c8, i8, k8⟩ := u_known (ws := lw_tbl) (C := RX8) (T := TX8) (N := 8) (n := 8) hts in_wsX80 (hts _ (tt_1 (i := 47) rfl))
  obtain ⟨c9, i9, k9⟩ := u_known (ws := lw_tbl) (C := RX9) (T := TX9) (N := 9) (n := 9) hts in_wsX90 (hts _ (tt_1 (i := 164) rfl))
  obtain ⟨c10, i10, k10⟩ := u_known (ws := lw_tbl) (C := RX10) (T := TX10) (N := 3) (n := 3) hts in_wsX100 (hts _ (tt_2 (i := 7) rfl))
  obtain ⟨c11, i11, k11⟩ := u_known (ws := lw_tbl) (C := RX11) (T := TX11) (N := 17) (n := 17) hts in_wsX110 (hts _ (tt_1 (i := 22) rfl))
  obtain ⟨c12, i12, k12⟩ := u_known (ws := lw_tbl) (C := RX12) (T := TX12) (N := 75) (n := 75) hts in_wsX120 (hts _ (tt_6 (i := 70) rfl))
  obtain ⟨a0, q0, p0, f0, g0, e0⟩ := Cond.arrayClass_spec (args := args) (first := s) (o := none) (s := s) (idx := []) (hts (Cond.arrayClass .int) (tt_1 (i := 161) rfl))
  obtain ⟨a1, q1, p1, f1, g1, e1⟩ := Cond.arrayClass_spec (args := args) (first := s) (o := none) (s := s) (idx := []) (hts (Cond.arrayClass .long) (tt_7 (i := 61) rfl))
  obtain ⟨a2, q2, p2, f2, g2, e2⟩ := Cond.arrayClass_spec (args := args) (first := s) (o := none) (s := s) (idx := []) (hts (Cond.arrayClass .byte) (tt_1 (i := 45) rfl))
  obtain ⟨a3, q3, p3, f3, g3, e3⟩ := Cond.arrayClass_spec (args := args) (first := s) (o := none) (s := s) (idx := []) (hts (Cond.arrayClass .boolean) (tt_1 (i := 162) rfl))
  obtain ⟨a4, q4, p4, f4, g4, e4⟩ := aOA_spec (args := args) (s := s) (hts (Cond.arrayOver (.array .int)) (tt_1 (i := 59) rfl))
  refine ⟨((fun k => match k with
      | 0 => c0
      | 1 => c1
      | 2 => c2
      | 3 => c3
      | 4 => c4
      | 5 => c5
      | 6 => c6
      | 7 => c7
      | 8 => c8
      | 9 => c9
      | 10 => c10
      | 11 => c11
      | _ => c12, fun k => match k with
      | 0 => i0
      | 1 => i1
      | 2 => i2
      | 3 => i3
      | 4 => i4
      | 5 => i5
      | 6 => i6
      | 7 => i7
      | 8 => i8
      | 9 => i9
      | 10 => i10
      | 11 => i11
      | _ => i12), fun k => match k with
      | 0 => a0
      | 1 => a1
      | 2 => a2
      | 3 => a3
      | _ => a4, fun j => base + j), fun j => rfl, ?_, ?_⟩
  · intro k q hq
    match k, hq with
    | 0, hq => cases hq; exact k0
    | 1, hq => cases hq; exact k1
    | 2, hq => cases hq; exact k2
    | 3, hq => cases hq; exact k3
    | 4, hq => cases hq; exact k4
    | 5, hq => cases hq; exact k5
    | 6, hq => cases hq; exact k6
    | 7, hq => cases hq; exact k7
    | 8, hq => cases hq; exact k8
    | 9, hq => cases hq; exact k9
    | 10, hq => cases hq; exact k10
    | 11, hq => cases hq; exact k11
    | 12, hq => cases hq; exact k12
    | k + 13, hq => exact absurd (List.getElem?_eq_some_iff.mp hq).1 (by show ¬ k + 13 < 13; omega)
  · intro k q hq
    match k, hq with
    | 0, hq => cases hq; exact ⟨arr_of g0 e0, f0⟩
    | 1, hq => cases hq; exact ⟨arr_of g1 e1, f1⟩
    | 2, hq => cases hq; exact ⟨arr_of g2 e2, f2⟩
    | 3, hq => cases hq; exact ⟨arr_of g3 e3, f3⟩
    | 4, hq => cases hq; exact ⟨arr_of g4 e4, f4⟩
    | k + 5, hq => exact absurd (List.getElem?_eq_some_iff.mp hq).1 (by show ¬ k + 5 < 5; omega)
theorem law_elems : ∀ j, j < 80 → Cond.eq (.elem (.field (Term.string "RoadDeals$Scanner" 84) "java/lang/String" "value" "[B") (.int (Int32.ofNat j))) (.int (jsB.getD j 0)) ∈ flatC (Jvm.Cond.and given_1 narrow_1) := by decide +kernel
set_option maxHeartbeats 4000000 in
theorem law_sEx {args : Array Value} {s : State} (hts : ∀ w ∈ lw_tbl, w.before args s = true) (hgv : (Jvm.Cond.and given_1 narrow_1).before args s = true) : sEx (fun q => s.heap.size ≤ q) s s.heap := by
  have hs := flat_of_before _ hgv
  have hA : ∀ a : Nat, a < s.heap.size → ¬ (fun q => s.heap.size ≤ q) a := fun a h => by show ¬ s.heap.size ≤ a; omega
  obtain ⟨adK, adV, hS, hK⟩ := vk_Sof (args := args) (s := s) (N := 1) (tm := fun _ => (Term.string "RoadDeals$Scanner" 84)) (len := [80]) (byt := [jsB]) (A := fun q => s.heap.size ≤ q) (fun i hi => by rw [show i = 0 by omega]; decide) (fun i hi => hs _ (by decide +kernel)) (fun i hi => hs _ (by decide +kernel)) (fun i hi => hs _ (by decide +kernel)) (fun i hi => by rw [show i = 0 by omega]; exact hs _ (by decide +kernel)) (fun i hi j hj => by
      have hi : i = 0 := by omega
      subst hi
      exact hs _ (law_elems j hj)) (fun i j hi hj hij => absurd (show i = j by omega) hij) hA
  refine ⟨⟨?_, ?_⟩, adK 0, adV 0, va_Zof (hts _ (tt_3 (i := 90) rfl)) (hts _ (tt_1 (i := 16) rfl)) (va_eqi (hs _ (by decide +kernel))) hA, va_Zqof (hts _ (tt_3 (i := 106) rfl)) (hts _ (tt_1 (i := 18) rfl)) (hs _ (by decide +kernel)) hA, vk_R.of (hts _ (tt_3 (i := 80) rfl)) (hK 0 (by omega)), ⟨fun i hi => ?_, fun i j hi hj _ => by omega⟩⟩
  · have h := hts (Cond.arrayOver (.array .int)) (tt_1 (i := 59) rfl)
    exact h
  · intro q hq
    simp only [nestL, List.mem_cons, List.not_mem_nil, or_false] at hq
    rcases hq with rfl | rfl | rfl | rfl
    · exact va_Nw.of rfl (hts (.methodLinkNest RX11 29 yX0_init "RoadDeals") (tt_1 (i := 226) rfl))
    · exact va_Nw.of rfl (hts (.methodLinkNest RX11 52 yX5_init "RoadDeals") (tt_2 (i := 31) rfl))
    · exact va_Nw.of rfl (hts (.methodLinkNest RX11 84 yX4_init "RoadDeals") (tt_2 (i := 166) rfl))
    · exact va_Nw.of rfl (hts (.methodLinkNest RX7 11 yX1_init "RoadDeals") (tt_2 (i := 69) rfl))
  · have hi : i = 0 := by omega
    subst hi
    exact hS.1 0 (by omega)
theorem fl0_11 : ∀ (ad : Nat → Nat) (q j : Nat), j < 17 → defaultValue (tyX11 j) = vp_V (fvals ad q (fun _ => 0) 0 [(5, 0), (5, 0), (5, 0), (5, 0), (5, 0), (5, 0), (5, 0), (5, 0), (5, 0), (5, 0), (5, 0), (0, 0), (0, 0), (0, 0), (0, 0), (0, 0), (0, 0)]) j := fun ad q j hj => match j, hj with
  | 0, _ => rfl
  | 1, _ => rfl
  | 2, _ => rfl
  | 3, _ => rfl
  | 4, _ => rfl
  | 5, _ => rfl
  | 6, _ => rfl
  | 7, _ => rfl
  | 8, _ => rfl
  | 9, _ => rfl
  | 10, _ => rfl
  | 11, _ => rfl
  | 12, _ => rfl
  | 13, _ => rfl
  | 14, _ => rfl
  | 15, _ => rfl
  | 16, _ => rfl
  | z + 17, h9 => absurd h9 (by omega)
theorem fl0_12 : ∀ (ad : Nat → Nat) (q j : Nat), j < 75 → defaultValue (tyX12 j) = vp_V (fvals ad q (fun _ => 0) 0 [(5, 0), (0, 0), (0, 0), (0, 0), (0, 0), (0, 0), (0, 0), (1, 0), (0, 0), (0, 0), (0, 0), (0, 0), (0, 0), (5, 0), (5, 0), (5, 0), (5, 0), (5, 0), (5, 0), (5, 0), (5, 0), (5, 0), (5, 0), (5, 0), (5, 0), (5, 0), (5, 0), (5, 0), (5, 0), (5, 0), (0, 0), (0, 0), (5, 0), (5, 0), (5, 0), (5, 0), (5, 0), (0, 0), (0, 0), (5, 0), (0, 0), (0, 0), (0, 0), (0, 0), (0, 0), (5, 0), (5, 0), (5, 0), (5, 0), (5, 0), (5, 0), (5, 0), (5, 0), (5, 0), (5, 0), (5, 0), (0, 0), (5, 0), (5, 0), (5, 0), (5, 0), (5, 0), (5, 0), (5, 0), (5, 0), (5, 0), (5, 0), (0, 0), (5, 0), (5, 0), (5, 0), (0, 0), (5, 0), (5, 0), (5, 0)]) j := fun ad q j hj => match j, hj with
  | 0, _ => rfl
  | 1, _ => rfl
  | 2, _ => rfl
  | 3, _ => rfl
  | 4, _ => rfl
  | 5, _ => rfl
  | 6, _ => rfl
  | 7, _ => rfl
  | 8, _ => rfl
  | 9, _ => rfl
  | 10, _ => rfl
  | 11, _ => rfl
  | 12, _ => rfl
  | 13, _ => rfl
  | 14, _ => rfl
  | 15, _ => rfl
  | 16, _ => rfl
  | 17, _ => rfl
  | 18, _ => rfl
  | 19, _ => rfl
  | 20, _ => rfl
  | 21, _ => rfl
  | 22, _ => rfl
  | 23, _ => rfl
  | 24, _ => rfl
  | 25, _ => rfl
  | 26, _ => rfl
  | 27, _ => rfl
  | 28, _ => rfl
  | 29, _ => rfl
  | 30, _ => rfl
  | 31, _ => rfl
  | 32, _ => rfl
  | 33, _ => rfl
  | 34, _ => rfl
  | 35, _ => rfl
  | 36, _ => rfl
  | 37, _ => rfl
  | 38, _ => rfl
  | 39, _ => rfl
  | 40, _ => rfl
  | 41, _ => rfl
  | 42, _ => rfl
  | 43, _ => rfl
  | 44, _ => rfl
  | 45, _ => rfl
  | 46, _ => rfl
  | 47, _ => rfl
  | 48, _ => rfl
  | 49, _ => rfl
  | 50, _ => rfl
  | 51, _ => rfl
  | 52, _ => rfl
  | 53, _ => rfl
  | 54, _ => rfl
  | 55, _ => rfl
  | 56, _ => rfl
  | 57, _ => rfl
  | 58, _ => rfl
  | 59, _ => rfl
  | 60, _ => rfl
  | 61, _ => rfl
  | 62, _ => rfl
  | 63, _ => rfl
  | 64, _ => rfl
  | 65, _ => rfl
  | 66, _ => rfl
  | 67, _ => rfl
  | 68, _ => rfl
  | 69, _ => rfl
  | 70, _ => rfl
  | 71, _ => rfl
  | 72, _ => rfl
  | 73, _ => rfl
  | 74, _ => rfl
  | z + 75, h9 => absurd h9 (by omega)
def InvInit (Inv : Hp → Hp → Prop) : Prop := ∀ τ : Hp, τ 0 = (fun _ => 0) → ∃ rc rm : Int × Hp, I_X11_init_1 (zrow (fun _ _ => 0) 0) = some rc ∧ I_X12_init_1 τ = some rm ∧ Inv rc.2 rm.2
set_option maxHeartbeats 4000000 in
theorem law_start {x : aC} {base b Lc : Nat} {xr : Nat → Int32} (B : lX x cL_law wsL_law RL 4 room_1 base b Lc xr 0 0) (hLc : Lc ≤ 3072) {Inv : Hp → Hp → Prop} (S : Sims Inv) (I0 : InvInit Inv) : aS x [] 4 0 [(0, ((3, Int.ofNat b) : AV))] [] (fun _ _ => 0) := by
  obtain ⟨rc, -, hc, -, -⟩ := I0 (fun _ _ => 0) rfl
  refine L_new (ci := 11) (T := TX11) (N := 17) (ty := tyX11) (fl := [(5, 0), (5, 0), (5, 0), (5, 0), (5, 0), (5, 0), (5, 0), (5, 0), (5, 0), (5, 0), (5, 0), (0, 0), (0, 0), (0, 0), (0, 0), (0, 0), (0, 0)]) B rfl (by decide) inlX11 tyX11_ok (List.mem_of_getElem? (i := 0) rfl) (List.mem_of_getElem? (i := 1) rfl) (List.mem_of_getElem? (i := 2) rfl) fl0_11 rfl (Nat.le_of_ble_eq_true rfl) (Nat.le_of_ble_eq_true rfl) dL_law_0 (fun x1 e1 e2 B1 => ?_)
  change aS x1 zC0 4 3 [(0, ((3, Int.ofNat b) : AV))] [vR 0] (zrow (fun _ _ => 0) 0)
  refine A_dup B1.1 (by show ¬ (2 : Nat) = 1; decide) dL_law_3 ?_
  refine L_callI (As := []) (na := 0) (mc := 184) (ms := 27663) B1 (b_X11_init_1 B1.2.2.2.1 hc) gL_law_X11_init rfl ⟨rfl, rfl⟩ (List.mem_of_getElem? (i := 2) rfl) (List.mem_of_getElem? (i := 6) rfl) (List.mem_of_getElem? (i := 7) rfl) rfl (by decide +kernel) rfl ⟨Nat.le_of_ble_eq_true rfl, Nat.le_of_ble_eq_true rfl⟩ rfl (Nat.le_of_ble_eq_true rfl) (Nat.le_of_ble_eq_true rfl) rfl (Nat.le_of_ble_eq_true rfl) dL_law_4 (fun x2 e3 e4 hw1 B2 => ?_)
  rw [zC_end] at hw1 ⊢
  have B2 : lX x2 cL_law wsL_law RL 4 room_1 base b Lc xr 185 27680 := B2
  refine A_astore_n (L' := [(1, vR 0), (0, ((3, Int.ofNat b) : AV))]) B2.1 rfl (by decide) rfl dL_law_7 ?_
  refine L_new (ci := 12) (T := TX12) (N := 75) (ty := tyX12) (fl := [(5, 0), (0, 0), (0, 0), (0, 0), (0, 0), (0, 0), (0, 0), (1, 0), (0, 0), (0, 0), (0, 0), (0, 0), (0, 0), (5, 0), (5, 0), (5, 0), (5, 0), (5, 0), (5, 0), (5, 0), (5, 0), (5, 0), (5, 0), (5, 0), (5, 0), (5, 0), (5, 0), (5, 0), (5, 0), (5, 0), (0, 0), (0, 0), (5, 0), (5, 0), (5, 0), (5, 0), (5, 0), (0, 0), (0, 0), (5, 0), (0, 0), (0, 0), (0, 0), (0, 0), (0, 0), (5, 0), (5, 0), (5, 0), (5, 0), (5, 0), (5, 0), (5, 0), (5, 0), (5, 0), (5, 0), (5, 0), (0, 0), (5, 0), (5, 0), (5, 0), (5, 0), (5, 0), (5, 0), (5, 0), (5, 0), (5, 0), (5, 0), (0, 0), (5, 0), (5, 0), (5, 0), (0, 0), (5, 0), (5, 0), (5, 0)]) B2 rfl (by decide) inlX12 tyX12_ok (List.mem_of_getElem? (i := 3) rfl) (List.mem_of_getElem? (i := 4) rfl) (List.mem_of_getElem? (i := 5) rfl) fl0_12 rfl (Nat.le_of_ble_eq_true rfl) (Nat.le_of_ble_eq_true rfl) dL_law_8 (fun x3 e5 e6 B3 => ?_)
  intro H locs ls cst hH hS hL hV
  have hw2 : wr zM0 (fun j => zrow rc.2 shC.length (shC.length + j)) := wr_right (shP := shC) (shB := zM0) hH.2.2
  have hz : (fun j => zrow rc.2 shC.length (shC.length + j)) 0 = (fun _ => 0) := zrow_new
  obtain ⟨rc2, rm, hc2, hm, hI⟩ := I0 (fun j => zrow rc.2 shC.length (shC.length + j)) hz
  have e : rc2 = rc := Option.some.inj (hc2.symm.trans hc)
  subst e
  have hj : hjoin shC.length rc2.2 (fun j => zrow rc2.2 shC.length (shC.length + j)) = zrow rc2.2 shC.length := by
    funext q
    unfold hjoin
    by_cases h : q < shC.length
    · rw [if_pos h, zrow_old h]
    · rw [if_neg h]
      show zrow rc2.2 shC.length (shC.length + (q - shC.length)) = _
      rw [show shC.length + (q - shC.length) = q by omega]
  have main : aS x3 (shC ++ zM0) 4 11 [(1, vR 0), (0, ((3, Int.ofNat b) : AV))] [vR shC.length] (hjoin shC.length rc2.2 (fun j => zrow rc2.2 shC.length (shC.length + j))) := by
    refine A_dup B3.1 (by show ¬ (2 : Nat) = 1; decide) dL_law_11 ?_
    refine L_callI2 (shP := shC) (shB := zM0) (mc := 51) (ms := 31561) B3 (by decide +kernel) hw1 hw2 (sh' := shM) okM (by rw [← zM_end]; exact b_X12_init_1 (fun j => by show (xg x3).2.2 (shC.length + j) = _; rw [B3.2.2.2.1, Nat.add_assoc]) hm) gL_law_X12_init rfl ⟨rfl, rfl⟩ (List.mem_of_getElem? (i := 5) rfl) (List.mem_of_getElem? (i := 173) rfl) (List.mem_of_getElem? (i := 174) rfl) rfl (by decide +kernel) ⟨Nat.le_of_ble_eq_true rfl, Nat.le_of_ble_eq_true rfl⟩ (by decide +kernel) (Nat.le_of_ble_eq_true rfl) (Nat.le_of_ble_eq_true rfl) rfl (Nat.le_of_ble_eq_true rfl) dL_law_12 (fun x4 e7 e8 hw3 B4 => ?_)
    refine A_astore_n (L' := [(2, vR shC.length), (1, vR 0), (0, ((3, Int.ofNat b) : AV))]) B4.1 rfl (by decide) rfl dL_law_15 ?_
    refine A_iconst (z := 0) B4.1 dL_law_16 rfl ?_
    refine A_istore_n (L' := Lw b 0) B4.1 rfl (by decide) rfl dL_law_17 ?_
    exact law_loop B4 (Nat.le_of_ble_eq_true rfl) (Nat.le_of_ble_eq_true rfl) hLc S (Lc + 1) 0 (by omega) (by omega) rc2.2 rm.2 hw1 hw3 hI
  rw [hj] at main
  exact main H locs ls cst hH hS hL hV
/-- the law's start over any invariant that holds at the start and is kept by every pair of calls -/
theorem law_entry {Inv : Hp → Hp → Prop} (S : Sims Inv) (I0 : InvInit Inv) {p : Program} {e : Env} {s : State} {m : MethodId} {below : List Frame} {meth : Method} {c : Code} (l : Launch) {b Lc : Nat} {xr : Nat → Int32} (hL : Lc ≤ 3072) (C0 : lw_At p s m meth c b Lc xr) : W p l e room_1 s m #[Value.ref b] below meth c s.heap [] 0 0 (lw_Z below #[Value.ref b] s) (entryFrame m ([Value.ref b] : List Value).toArray 4) := by
  obtain ⟨hx, hb, hr, hml, hown, hts, hX, hbl, hlocks, hgv⟩ := id C0
  obtain ⟨g, hlin, hK⟩ := law_K hts s.heap.size
  have hex := law_sEx hts hgv
  have B : lX (0, 0, p, l, e, room_1, s, m, #[Value.ref b], below, meth, c, lw_Z below #[Value.ref b] s, g, (fun q => s.heap.size ≤ q), s.heap) cL_law wsL_law RL 4 room_1 s.heap.size b Lc xr 0 0 :=
    ⟨⟨hx, hb, hml, hown, fun w h => hts w (wsL_law_in w h), hK, fun q hq => hq, rfl, Nat.zero_le _, Nat.zero_le _, hex⟩, ⟨rfl, hr, hlocks, rfl⟩, ⟨hX, hbl, rfl, rfl⟩, hlin, rfl, rfl, rfl⟩
  have h := law_start B hL S I0
  have hl := lv_entry [Value.ref b] (n := 4) (by
    have e : (lg_sl [Value.ref b]).length = 1 := rfl
    omega)
  have := h s.heap [] _ [] ⟨fun k q hk => by simp [wl] at hk, ⟨fun i j p q hi _ _ => by simp [wl] at hi, fun k q hk => by simp [wl] at hk⟩, fun q i => rg_0 _⟩ va_S.rf ⟨_, hl, ⟨⟨rfl, rfl⟩, trivial⟩⟩ trivial
  rw [lg_entry_eq]
  exact this
