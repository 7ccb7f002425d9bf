/-! a road's two names, on both sides (the check writes each down at once) -/
section Names2R
variable {X : Cx} {s t : Hp} {p c : Nat}
theorem FixM_8 {f : Nat → Int} {N b W y q : Nat} {al : Nat → Int} {nm : Nat → List Nat} {x : Int} (g : FixM t f N b W al nm) (hq : 8 ≤ q) : FixM (hset t q y x) f N b W al nm := by
  obtain ⟨h1, ⟨h2, h3, h4⟩, h5, h6, h7⟩ := g
  exact ⟨h1, ⟨by rw [hset_obj _ _ _ _ (by omega)]; exact h2, h3, fun k hk => by rw [hset_obj _ _ _ _ (by omega)]; exact h4 k hk⟩, by rw [hset_obj _ _ _ _ (by omega)]; exact h5, by rw [hset_obj _ _ _ _ (by omega)]; exact h6, fun w hw => by rw [hset_obj _ _ _ _ (by omega), hset_obj _ _ _ _ (by omega)]; exact h7 w hw⟩
theorem TkM_8 {f : Nat → Int} {N y q : Nat} {x : Int} (h : TkM t f N p) (hq : 8 ≤ q) : TkM (hset t q y x) f N p := TkM_congr h (fun i _ _ => by rw [hset_obj _ _ _ _ (by omega)])
theorem names2r (hX : FX X) (hxs : xsQ X = s) (hxt : xt X = t) (hxc : xcQ X = c) (hC : CSt X s p c []) (hh : ChS X t p) (hk : 0 ≤ kX X p) (y : Nat) : ∃ z0 t1, F_M_next t = some (z0, t1) ∧ nxF t t1 ∧ ChS X t1 (eX X p) ∧
    ((∃ s' k pl u, F_Rdr_twoNames 258 s = some (0, s') ∧ ClF (xn X) c s s' k pl ∧ F_M_whoRead (-1) t1 = some (0, u) ∧ ChF X u k pl ∧ (0 < t1 0 8 → u = t1)) ∨
     ∃ (w1 : Nat) (z1 : Int) (t2 : Hp), w1 < xW X ∧ t1 0 8 = 0 ∧ F_M_whoRead (-1) t1 = some ((w1 : Int), t1) ∧ F_M_next (hset t1 8 y (w1 : Int)) = some (z1, t2) ∧ nxF (hset t1 8 y (w1 : Int)) t2 ∧
      ((∃ s' k pl u, F_Rdr_twoNames 258 s = some (0, s') ∧ ClF (xn X) c s s' k pl ∧ F_M_whoRead w1 t2 = some (0, u) ∧ u 0 8 = k ∧ u 0 9 = pl ∧ 0 < k ∧ xmF (xP X) t2 u) ∨
       ∃ (w2 : Nat) (s36 : Hp), w2 < xW X ∧ w1 ≠ w2 ∧ F_M_whoRead w1 t2 = some ((w2 : Int), t2) ∧ kX X (eX X (eX X p)) = 280 ∧ TkM t2 (xf X) (xN X) (eX X (eX X p)) ∧ p < eX X (eX X p) ∧ eX X (eX X p) ≤ xN X ∧ AtC s36 (xf X) (xN X) (xkQ X) (eX X (eX X p)) ∧ s36 (xn X) 14 = (c : Int) ∧ s36 3 4 = (w1 : Int) ∧ s36 3 5 = (w2 : Int) ∧ TnF (xn X) c s s36 ∧
         F_Rdr_twoNames 258 s = if s36 (xn X + 9 + 1 + w1) w2 = -1 then F_Rdr_twoNames_87 258 0 s36 else F_Rdr_twoNames_87 258 1 s36)) := by
  have hp := hC.2.2.2.2
  have hN := hX.2.1
  obtain ⟨s1, z0, t1, e1, hC1, m1, hh1, n1⟩ := both_next hX hC hh hk
  have he := eX_ok hX hp hk
  have hp1 := hC1.2.2.2.2
  have hfx := hC1.fix hX
  have hn : xn X = 50 ∨ xn X = 4 := hfx.1
  have hin : isNet (xn X) := hfx.1
  have hex1 : exF (xn X) c s s1 := by
    have := hC1.1
    rw [hxs, hxc] at this
    exact this
  refine ⟨z0, t1, m1, n1, hh1, ?_⟩
  rcases one_name hX hC1 hh1 (-1) with ⟨s', k, pl, u, e2, hf, e3, hcf, hmf⟩ | ⟨c280, w1, hw1, e2, e3⟩
  · left
    have hf' : exF (xn X) c s s' := by
      have := hf.1
      rw [hxs, hxc] at this
      exact this
    refine ⟨_, k, pl, u, ?_, ClF_34 (v := -1) (i := 4) ⟨TnF_ex hf', hf.2.1, hf.2.2⟩ hn (Or.inl rfl), e3, hcf, fun h8 => ?_⟩
    · unfold F_Rdr_twoNames
      rw [e1, cl2_some, e2, cl2_some, lt_eq, hset_same, if_pos rfl]
    · by_cases cm : kX X (eX X p) = -2
      · exact hmf cm
      · have := (hh1.tk hX hp1 cm).f8.1
        omega
  · right
    rw [if_neg (by omega)] at e3
    have T1 := hh1.tk hX hp1 (by omega)
    have hm1 : FixM t1 (xf X) (xN X) (xb X) (xW X) (xlQ X) (xmQ X) := xmF_fix hh1.1 hX.2.2.2
    have hX2 : FX (reT X c (xd X) (hset s1 3 4 (w1 : Int)) (hset t1 8 y (w1 : Int)) 0) := ⟨hX.1, hX.2.1, FixC_34 hfx (Or.inl rfl), FixM_8 hm1 (by decide)⟩
    have hC2 : CSt (reT X c (xd X) (hset s1 3 4 (w1 : Int)) (hset t1 8 y (w1 : Int)) 0) (hset s1 3 4 (w1 : Int)) (eX X p) c [] := ⟨exF_rfl, AtC_34 hC1.2.1 (Or.inl rfl), by show hset s1 3 4 (w1 : Int) (xn X) 14 = _; rw [hset_obj _ _ _ _ (by omega)]; exact hC1.2.2.1, RC_nil hC1.2.2.2.1.2.1, hp1⟩
    have hh2 : ChS (reT X c (xd X) (hset s1 3 4 (w1 : Int)) (hset t1 8 y (w1 : Int)) 0) (hset t1 8 y (w1 : Int)) (eX X p) := ⟨xmF_rfl, Or.inr (TkM_8 T1.2.2 (by decide))⟩
    obtain ⟨s3, z1, t2, e4, hC3, m2, hh3, n2⟩ := both_next hX2 hC2 hh2 (by show 0 ≤ kX X (eX X p); omega)
    have hex3 : exF (xn X) c (hset s1 3 4 (w1 : Int)) s3 := hC3.1
    have hfx3 := hC3.fix hX2
    have s34 : s3 3 4 = (w1 : Int) := by rw [hex3.2.1 4 (by decide) (by decide) (by decide) (by decide), hset_same]
    have hT3 : TnF (xn X) c s s3 := TnF_trans (TnF_trans (TnF_ex hex1) (TnF_34 hn (Or.inl rfl))) (TnF_ex hex3)
    have hw9 : ¬ (w1 : Int) = -1 := by omega
    have hW := hfx.2.2.2.1.2
    refine ⟨w1, z1, t2, hw1, T1.f8.1, e3, m2, n2, ?_⟩
    have hG : F_Rdr_twoNames 258 s = cl2 (F_Rdr_somebody s3) fun v33 s34 => lt (hset s34 3 5 v33) fun s36 => if s36 3 5 = -1 then some (0, s36) else if s36 3 4 = s36 3 5 then cl2 (F_Rdr_fail 3 s36) fun v44 s45 => gd (v44 = 0 ∨ v44 = 1) <| some (v44, s45) else lt (s36 3 1).toNat fun q39 => gd (isNet q39) <| gd (0 ≤ s36 3 4 ∧ s36 3 4 < (12 : Int)) <| gd (0 ≤ s36 3 5 ∧ s36 3 5 < (12 : Int)) <| if s36 (q39 + 9 + 1 + (s36 3 4).toNat) (s36 3 5).toNat = -1 then F_Rdr_twoNames_87 258 0 s36 else F_Rdr_twoNames_87 258 1 s36 := by
      unfold F_Rdr_twoNames
      rw [e1, cl2_some, e2, cl2_some, lt_eq, hset_same, if_neg hw9, e4, cl2_some]
    rcases one_name (X := reT X c (xd X) (hset s1 3 4 (w1 : Int)) t2 0) ⟨hX.1, hX.2.1, hX2.2.2.1, xmF_fix hh3.1 hX2.2.2.2⟩ hC3 ⟨xmF_rfl, hh3.2⟩ (w1 : Int) with ⟨s', k, pl, u, e5, hf, e6, hcf, _⟩ | ⟨c280', w2, hw2, e5, e6⟩
    · left
      have hf' : exF (xn X) c (hset s1 3 4 (w1 : Int)) s' := hf.1
      refine ⟨_, k, pl, u, ?_, ClF_34 (v := -1) (i := 5) ⟨TnF_trans (TnF_trans (TnF_ex hex1) (TnF_34 hn (Or.inl rfl))) (TnF_ex hf'), hf.2.1, hf.2.2⟩ hn (Or.inr rfl), e6, hcf.2.1, hcf.2.2.1, hcf.2.2.2, hcf.1⟩
      rw [hG, e5, cl2_some, lt_eq, hset_same, if_pos rfl]
    · have hw2' : w2 < xW X := hw2
      have hk2 : kX X (eX X (eX X p)) = 280 := c280'
      have w8 : ¬ (w2 : Int) = -1 := by omega
      have v4 : hset s3 3 5 (w2 : Int) 3 4 = (w1 : Int) := by rw [hset_get, if_neg (by decide)]; exact s34
      have v5 : hset s3 3 5 (w2 : Int) 3 5 = (w2 : Int) := hset_same _ _ _ _
      rw [e5, cl2_some, lt_eq, v5, if_neg w8, v4] at hG
      by_cases ceq : (w2 : Int) = (w1 : Int)
      · left
        rw [if_pos ceq] at e6
        rw [if_pos ceq.symm] at hG
        have hX5 : FX (reC X c (hset s3 3 5 (w2 : Int))) := ⟨hX.1, hX.2.1, FixC_34 hfx3 (Or.inr rfl), hX.2.2.2⟩
        have hC5 : CSt (reC X c (hset s3 3 5 (w2 : Int))) (hset s3 3 5 (w2 : Int)) (eX X (eX X p)) c [] := ⟨exF_rfl, AtC_34 hC3.2.1 (Or.inr rfl), by show hset s3 3 5 (w2 : Int) (xn X) 14 = _; rw [hset_obj _ _ _ _ (by omega)]; exact hC3.2.2.1, RC_nil hC1.2.2.2.1.2.1, hC3.2.2.2.2⟩
        obtain ⟨s', e7, hf⟩ := hC5.fail hX5 3
        have hf' : exF (xn X) c (hset s3 3 5 (w2 : Int)) s' := hf.1
        rw [e7, cl2_some, gd_pos (Or.inl rfl)] at hG
        exact ⟨s', 3, _, _, hG, ⟨TnF_trans (TnF_trans hT3 (TnF_34 hn (Or.inr rfl))) (TnF_ex hf'), hf.2.1, hf.2.2⟩, e6, BL_8.1, BL_8.2, by decide, BL_xm xmF_rfl⟩
      · right
        rw [if_neg ceq] at e6
        rw [if_neg (fun y => ceq y.symm)] at hG
        have v1 : (hset s3 3 5 (w2 : Int) 3 1).toNat = xn X := by
          have := hfx3.2.2.1
          rw [hset_get, if_neg (by decide), this]
          exact Int.toNat_natCast _
        have b1 : (0 : Int) ≤ (w1 : Int) ∧ (w1 : Int) < 12 := by omega
        have b2 : (0 : Int) ≤ (w2 : Int) ∧ (w2 : Int) < 12 := by omega
        have he2 := eX_ok hX hp1 (by omega)
        have T3 : TkM t2 (xf X) (xN X) (eX X (eX X p)) := hh3.2.resolve_left (fun y => by
          have y1 : kX X (eX X (eX X p)) = -2 := y.1
          omega)
        rw [lt_eq, v1, gd_pos hin, gd_pos b1, gd_pos b2, Int.toNat_natCast, Int.toNat_natCast] at hG
        exact ⟨w2, hset s3 3 5 (w2 : Int), hw2, fun y => ceq (by rw [y]), e6, hk2, T3, by omega, he2.2, AtC_34 hC3.2.1 (Or.inr rfl), by rw [hset_obj _ _ _ _ (by omega)]; exact hC3.2.2.1, v4, v5, TnF_trans hT3 (TnF_34 hn (Or.inr rfl)), hG⟩
end Names2R
