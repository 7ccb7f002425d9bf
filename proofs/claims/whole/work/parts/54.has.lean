/-! how many there are -/
section Has
variable {σ τ : Hp} {n b : Nat} {d : ND} {A : AD} {kn : Int} {now day : Nat} {D : DL}
theorem dlN_le (D : DL) : ∀ k, dlN D k ≤ k
  | 0 => Nat.le_refl _
  | k + 1 => by
    have := dlN_le D k
    show dlN D k + (if D.1 k = true then 1 else 0) ≤ k + 1
    split <;> omega
theorem dlN_end {D : DL} (hD : DLok d D) : ∀ k, dR d ≤ k → dlN D k = dlN D (dR d)
  | 0, h => by rw [show dR d = 0 by omega]
  | k + 1, h => by
    by_cases e : dR d = k + 1
    · rw [e]
    · have q := dlN_end hD k (by omega)
      show dlN D k + (if D.1 k = true then 1 else 0) = _
      rw [q, if_neg (fun z => ?_)]
      · omega
      · have := (hD.2 k z).1
        omega
theorem M_deals (h : InvAt σ τ n b d A kn now day D) : F_M_deals τ = some (σ 173 2, τ) := by
  obtain ⟨⟨g1, g2, g3, g4, g5⟩, cc, ⟨m1, m2, m3, m4, m5, m6⟩, ⟨d1, d2⟩, _⟩ := id h
  have hb := m1.1
  have hR := g1.2.1
  have W : wp (F_M_deals τ) (fun z t => z = σ 173 2 ∧ t = τ) := by
    unfold F_M_deals F_M_deals_4
    refine wp_loop (fun a : Int × Int × Hp => ∃ k : Nat, k ≤ dR d ∧ a.1 = (dlN D k : Int) ∧ a.2.1 = (k : Int) ∧ a.2.2 = τ) (fun a => (300 - a.2.1).toNat) ?_ FU _ ?_ ?_
    · intro a K hp ih
      obtain ⟨x, y, s⟩ := a
      obtain ⟨k, hk, e0, e1, es⟩ := hp
      dsimp only at e0 e1 es ih ⊢
      rw [es]
      subst e0 e1
      unfold F_M_deals_4_b
      rw [m1.2.1, gd_pos (by omega), Int.toNat_natCast, m1.2.2.2.1]
      refine wp_if (fun cc => ?_) (fun cc => ?_)
      · have ek : k = dR d := by omega
        refine wp_ret ⟨?_, rfl⟩
        rw [d2, dlN_end g5 30 hR, ek]
      · have hkR : k < dR d := by omega
        have dk := (d1 k (by omega)).2.1
        have hl := dlN_le D k
        unfold F_M_deals_32
        rw [gd_pos (by omega), Int.toNat_natCast, dk]
        by_cases c : D.1 k = true
        · rw [if_pos c, if_neg (by decide), lt_eq, lt_eq, iadd_ok (by omega), iadd_ok (by omega)]
          refine ih _ ⟨k + 1, by omega, ?_, by show (k : Int) + 1 = ((k + 1 : Nat) : Int); omega, rfl⟩ (by dsimp only; omega)
          show (dlN D k : Int) + 1 = ((dlN D k + (if D.1 k = true then 1 else 0) : Nat) : Int)
          rw [if_pos c]
          omega
        · rw [if_neg c, if_pos rfl, lt_eq, lt_eq, iadd_ok (by omega), iadd_ok (by omega)]
          refine ih _ ⟨k + 1, by omega, ?_, by show (k : Int) + 1 = ((k + 1 : Nat) : Int); omega, rfl⟩ (by dsimp only; omega)
          show (dlN D k : Int) + 0 = ((dlN D k + (if D.1 k = true then 1 else 0) : Nat) : Int)
          rw [if_neg c]
          omega
    · exact ⟨0, by omega, rfl, rfl, rfl⟩
    · rw [FU_eq]
      show (300 - (0 : Int)).toNat < 20000
      omega
  obtain ⟨z, t, e, ez, et⟩ := W
  rw [e, ez, et]
theorem S_has (σ τ : Hp) (a1 : Int) (h : Inv σ τ) : ∃ (z : Int) (σ' τ' : Hp), F_RD_has a1 σ = some (z, σ') ∧ F_M_has a1 τ = some (z, τ') ∧ Inv σ' τ' := by
  obtain ⟨n, b, d, A, kn, now, day, D, hI⟩ := id h
  have hdl := M_deals hI
  obtain ⟨⟨g1, g2, g3, g4, g5⟩, ⟨c1, c2, c3, c4, c5, c6, c7⟩, ⟨m1, m2, m3, m4, m5, m6⟩, _⟩ := id hI
  have hb := m1.1
  have hnw := M_now (τ := τ) (A := A) m4.1 m5 g3.2.2
  unfold F_RD_has F_RD_has_110 F_M_has
  rw [c5.1, Int.toNat_natCast, m1.2.1]
  by_cases q0 : a1 = 0
  · exact ⟨_, _, _, by rw [if_pos q0, lt_eq, gd_pos c1.1, c1.2.1], by rw [if_pos q0, gd_pos (by omega), Int.toNat_natCast, m1.2.2.1], h⟩
  rw [if_neg q0, if_neg q0]
  by_cases q1 : a1 = 1
  · exact ⟨_, _, _, by rw [if_pos q1, lt_eq, gd_pos c1.1, c1.2.2.1], by rw [if_pos q1, gd_pos (by omega), Int.toNat_natCast, m1.2.2.2.1], h⟩
  rw [if_neg q1, if_neg q1]
  by_cases q2 : a1 = 2
  · exact ⟨_, _, _, by rw [if_pos q2, lt_eq, gd_pos c1.1, c1.2.2.2.1], by rw [if_pos q2, gd_pos (by omega), Int.toNat_natCast, m1.2.2.2.2.1], h⟩
  rw [if_neg q2, if_neg q2]
  by_cases q3 : a1 = 3
  · exact ⟨_, _, _, by rw [if_pos q3, lt_eq, gd_pos c1.1, c1.2.2.2.2.1], by rw [if_pos q3, gd_pos (by omega), Int.toNat_natCast, m1.2.2.2.2.2.1], h⟩
  rw [if_neg q3, if_neg q3]
  by_cases q4 : a1 = 4
  · exact ⟨_, _, _, by rw [if_pos q4, c4.1], by rw [if_pos q4, m4.1], h⟩
  rw [if_neg q4, if_neg q4]
  by_cases q5 : a1 = 5
  · refine ⟨now, σ, τ, ?_, by rw [if_pos q5, hnw, cl2_some], h⟩
    rw [if_pos q5, c5.2.2.1, c4.1]
    have e := g3.2.2
    by_cases q : kn = -1
    · rw [if_pos q] at e ⊢
      rw [e]
    · rw [if_neg q] at e ⊢
      rw [e]
  rw [if_neg q5, if_neg q5]
  by_cases q6 : a1 = 6
  · exact ⟨_, _, _, by rw [if_pos q6], by rw [if_pos q6, hdl, cl2_some], h⟩
  rw [if_neg q6, if_neg q6]
  by_cases q7 : a1 = 7
  · exact ⟨_, _, _, by rw [if_pos q7, c5.2.2.2], by rw [if_pos q7, m6], h⟩
  rw [if_neg q7, if_neg q7]
  exact ⟨_, _, _, rfl, rfl, h⟩
end Has
