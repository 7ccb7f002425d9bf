/-! both sides: the words of a statement, one after another -/
section StepsB
variable {X : Cx} {s t u : Hp} {p c : Nat} {Ws : List FV}
/-- the check at p -/
def ChS (X : Cx) (t : Hp) (p : Nat) : Prop := xmF (xP X) (xt X) t ∧ ((kX X p = -2 ∧ t 0 8 = 1 ∧ t 0 9 = (sX X p : Nat)) ∨ TkM t (xf X) (xN X) p)
/-- the check has refused -/
def ChF (X : Cx) (t : Hp) (k pl : Int) : Prop := xmF (xP X) (xt X) t ∧ t 0 8 = k ∧ t 0 9 = pl ∧ 0 < k
theorem ChS.bad (h : ChS X t p) (hk : kX X p = -2) : t 0 8 = 1 ∧ t 0 9 = (sX X p : Nat) := by
  rcases h.2 with ⟨_, a, b⟩ | g
  · exact ⟨a, b⟩
  · exact absurd hk g.1
theorem ChS.tk (hX : FX X) (hp : p ≤ xN X) (h : ChS X t p) (hk : kX X p ≠ -2) : TK X t p := ⟨hX, hp, h.2.resolve_left (fun z => hk z.1)⟩
/-- the check blames 1 where it stands, if nothing was blamed before -/
theorem ChS.bl1 (hX : FX X) (hp : p ≤ xN X) (h : ChS X t p) : ∃ u, F_M_blame 1 (t 0 4) t = some (0, u) ∧ ChF X u 1 (sX X p : Nat) := by
  by_cases c : kX X p = -2
  · have := h.bad c
    exact ⟨t, blame_1 (by omega), h.1, this.1, this.2, by decide⟩
  · have T := h.tk hX hp c
    exact ⟨_, T.bl 1, BL_xm h.1, BL_8.1, BL_8.2, by decide⟩
theorem both_next (hX : FX X) (hC : CSt X s p c Ws) (h : ChS X t p) (hk : 0 ≤ kX X p) : ∃ s' z u, F_Rdr_step s = some (0, s') ∧ CSt X s' (eX X p) c Ws ∧ F_M_next t = some (z, u) ∧ ChS X u (eX X p) ∧ nxF t u := by
  have hp := hC.2.2.2.2
  obtain ⟨s', e, h1⟩ := hC.step hX hk
  have T := h.tk hX hp (by omega)
  obtain ⟨z, u, e2, h2, h3⟩ := M_adv hX (xmF_by h.1 hX.2.2.2.2.1) hp T.2.2 hk
  refine ⟨s', z, u, e, h1, e2, ⟨xmF_trans h.1 (xmF_nx h3), ?_⟩, h3⟩
  rcases h2 with g | g
  · exact Or.inr g
  · exact Or.inl g
theorem both_sign (hX : FX X) (hC : CSt X s p c Ws) (h : ChS X t p) {k : Int} (h0 : 0 ≤ k ∧ k < 256) : (kX X p ≠ k → ∃ s' u, F_Rdr_skip k s = some (0, s') ∧ CF X s' 1 (sX X p : Nat) ∧ F_M_must k t = some (0, u) ∧ ChF X u 1 (sX X p : Nat)) ∧ (kX X p = k → ∃ s' u, F_Rdr_skip k s = some (1, s') ∧ CSt X s' (eX X p) c Ws ∧ F_M_must k t = some (0, u) ∧ ChS X u (eX X p) ∧ nxF t u) := by
  have hp := hC.2.2.2.2
  have hsk := C_skipX hX hC h0.1
  refine ⟨fun g => ?_, fun g => ?_⟩
  · obtain ⟨s', e, hf⟩ := hsk.1 g
    obtain ⟨u, e2, h2⟩ := h.bl1 hX hp
    have e3 : F_M_isSign k t = some (0, t) ∨ (F_M_isSign k t = some (1, t) ∧ 0 < t 0 8) := by
      by_cases c : kX X p = -2
      · have hb := h.bad c
        by_cases c2 : t 0 3 = 3 ∧ t 0 6 = k
        · right
          refine ⟨?_, by omega⟩
          unfold F_M_isSign F_M_isSign_20
          rw [if_pos c2.1, if_pos c2.2]
          rfl
        · left
          unfold F_M_isSign F_M_isSign_20 F_M_isSign_21
          by_cases c3 : t 0 3 = 3
          · rw [if_pos c3, if_neg (fun z => c2 ⟨c3, z⟩)]
            rfl
          · rw [if_neg c3]
            rfl
      · exact Or.inl ((h.tk hX hp c).sN g h0)
    refine ⟨s', ?_⟩
    rcases e3 with e3 | ⟨e3, e4⟩
    · refine ⟨u, e, hf, ?_, h2⟩
      unfold F_M_must F_M_must_17 F_M_must_28
      rw [e3, cl2_some, if_pos rfl, e2, cl2_some, if_neg (by have := h2.2.1; omega)]
    · have e5 : u = t := by
        have := blame_1 (k := 1) (pl := t 0 4) e4
        rw [e2] at this
        injection this with this
        injection this
      subst e5
      refine ⟨u, e, hf, ?_, h2⟩
      unfold F_M_must F_M_must_17 F_M_must_28
      rw [e3, cl2_some, if_neg (by decide), if_neg (by omega)]
  · obtain ⟨s', e, h1⟩ := hsk.2 g
    obtain ⟨s2, z, u, _, _, e2, h2, h3⟩ := both_next hX hC h (by omega)
    have T := h.tk hX hp (by omega)
    refine ⟨s', u, e, h1, ?_, h2, h3⟩
    unfold F_M_must F_M_must_17 F_M_must_28
    rw [T.sY g h0, cl2_some, if_neg (by decide), if_pos T.f8.1, e2, cl2_some]
theorem both_word (hX : FX X) (hC : CSt X s p c Ws) (h : ChS X t p) {k w : Int} (hw : wcd w k) : (kX X p ≠ k → ∃ s' u, F_Rdr_skip k s = some (0, s') ∧ CF X s' 1 (sX X p : Nat) ∧ F_M_must_ w t = some (0, u) ∧ ChF X u 1 (sX X p : Nat)) ∧ (kX X p = k → ∃ s' u, F_Rdr_skip k s = some (1, s') ∧ CSt X s' (eX X p) c Ws ∧ F_M_must_ w t = some (0, u) ∧ ChS X u (eX X p) ∧ nxF t u) := by
  have hp := hC.2.2.2.2
  have h0 : 0 ≤ k := by
    obtain ⟨j, _, _, _, e⟩ := hw
    omega
  have hsk := C_skipX hX hC h0
  refine ⟨fun g => ?_, fun g => ?_⟩
  · obtain ⟨s', e, hf⟩ := hsk.1 g
    by_cases c : kX X p = -2
    · have hb := h.bad c
      refine ⟨s', t, e, hf, ?_, h.1, hb.1, hb.2, by decide⟩
      unfold F_M_must_
      rw [if_neg (by omega)]
    · have T := h.tk hX hp c
      refine ⟨s', _, e, hf, ?_, BL_xm h.1, BL_8.1, BL_8.2, by decide⟩
      unfold F_M_must_ F_M_must__25 F_M_must__36
      rw [if_pos (by have := T.f8.1; omega), T.wN g hw, cl2_some, if_pos rfl, T.bl, cl2_some, BL_8.1, if_neg (by decide)]
  · obtain ⟨s', e, h1⟩ := hsk.2 g
    obtain ⟨s2, z, u, _, _, e2, h2, h3⟩ := both_next hX hC h (by omega)
    have T := h.tk hX hp (by omega)
    refine ⟨s', u, e, h1, ?_, h2, h3⟩
    unfold F_M_must_ F_M_must__25 F_M_must__36
    rw [if_pos (by have := T.f8.1; omega), T.wY g hw, cl2_some, if_neg (by decide), if_pos T.f8.1, e2, cl2_some]
theorem both_number (hX : FX X) (hC : CSt X s p c Ws) (h : ChS X t p) : (kX X p ≠ 281 → ∃ s' u z, F_Rdr_number s = some (-1, s') ∧ CF X s' 1 (sX X p : Nat) ∧ F_M_number t = some (z, u) ∧ ChF X u 1 (sX X p : Nat)) ∧ (kX X p = 281 → ∃ s' u, F_Rdr_number s = some (nv (xf X) (xN X) p, s') ∧ CSt X s' (eX X p) c Ws ∧ F_M_number t = some (nv (xf X) (xN X) p, u) ∧ ChS X u (eX X p) ∧ nxF t u ∧ 0 ≤ nv (xf X) (xN X) p ∧ nv (xf X) (xN X) p ≤ 9999) := by
  have hp := hC.2.2.2.2
  have hk := hC.k
  refine ⟨fun g => ?_, fun g => ?_⟩
  · obtain ⟨s', e, hf⟩ := hC.fail hX 1
    have e1 : F_Rdr_number s = some (-1, s') := by
      unfold F_Rdr_number
      rw [hk, if_neg g, e, cl2_some]
    by_cases c : kX X p = -2
    · have hb := h.bad c
      refine ⟨s', t, 0, e1, hf, ?_, h.1, hb.1, hb.2, by decide⟩
      unfold F_M_number
      rw [if_neg (by omega)]
    · have T := h.tk hX hp c
      refine ⟨s', _, (BL X t p 1) 0 6, e1, hf, ?_, BL_xm h.1, BL_8.1, BL_8.2, by decide⟩
      unfold F_M_number F_M_number_26 F_M_number_42
      rw [if_pos (by have := T.f8.1; omega), if_neg (tk3 T g), T.bl, cl2_some, lt_eq, BL_8.1, if_neg (by decide)]
  · obtain ⟨s2, z, u, e1, h1, e2, h2, h3⟩ := both_next hX hC h (by omega)
    have T := h.tk hX hp (by omega)
    have hv := C_valueN (hC.fix hX).2.1 hC.2.1 g
    have h6 := T.2.2.2.2.2.2.2.1 g
    have hr := nv_rng hX.1 hp g
    refine ⟨s2, u, ?_, h1, ?_, h2, h3, hr.1, hr.2⟩
    · unfold F_Rdr_number
      rw [hk, if_pos g, hv, cl2_some, e1, cl2_some]
    · unfold F_M_number F_M_number_26 F_M_number_42
      rw [if_pos (by have := T.f8.1; omega), if_pos h6.1, lt_eq, h6.2, if_pos T.f8.1, e2, cl2_some]
end StepsB
