/-! a road's two names: the class -/
section RoadN
theorem twoNames_road {nn w1 w2 : Nat} {s36 : Hp} (hin : isNet nn) (h1 : (s36 3 1).toNat = nn) (h4 : s36 3 4 = (w1 : Int)) (h5 : s36 3 5 = (w2 : Int)) (hw1 : w1 < 12) (hw2 : w2 < 12) (t1 : Int) : F_Rdr_twoNames_87 258 t1 s36 = if t1 = 0 then (cl2 (F_Rdr_step s36) fun _ s6 => some (1, s6)) else cl2 (F_Rdr_fail 2 s36) fun v1 s2 => gd (v1 = 0 ∨ v1 = 1) <| some (v1, s2) := by
  have hb : (0 : Int) ≤ ((12 * w1 + w2 : Nat) : Int) ∧ ((12 * w1 + w2 : Nat) : Int) < 144 := by omega
  have e1 : iadd (imul (w1 : Int) 12) (w2 : Int) = ((12 * w1 + w2 : Nat) : Int) := by
    rw [imul_ok (by omega), iadd_ok (by omega)]
    omega
  unfold F_Rdr_twoNames_87
  rw [lt_eq, h1, gd_pos hin, h4, h5, e1, gd_pos hb, lt_eq, Int.toNat_natCast, if_pos rfl]
  clear e1
  unfold F_Rdr_twoNames_131 F_Rdr_twoNames_120 F_Rdr_twoNames_137 F_Rdr_twoNames_154
  by_cases e : t1 = 0
  · rw [if_pos e, if_neg (by decide), if_neg (by decide), if_pos e]
  · rw [if_neg e, if_neg e]
theorem wcWhen : wcd 2003330414 260 := ⟨4, _, rfl, by decide, by decide⟩
theorem wcWorth : wcd 512970880104 259 := ⟨3, _, rfl, by decide, by decide⟩
theorem wcWho : wcd 7825519 256 := ⟨0, _, rfl, by decide, by decide⟩
theorem wcRoad : wcd 1919902052 258 := ⟨2, _, rfl, by decide, by decide⟩
theorem wcTaste : wcd 499851162725 261 := ⟨5, _, rfl, by decide, by decide⟩
theorem wcDoubt : wcd 431366693492 263 := ⟨7, _, rfl, by decide, by decide⟩
end RoadN
