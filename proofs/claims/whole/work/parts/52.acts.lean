/-! the calls that act: day, as, worth, annul -/
section ActsS
variable {σ τ : Hp} {n b : Nat} {d : ND} {A : AD} {kn : Int} {now day : Nat} {D : DL}
def ClsP (σ : Hp) (n : Nat) (d : ND) (A : AD) (kn : Int) (day : Nat) : Prop :=
  NetC σ n d ∧ CodeC σ n d ∧ NamC σ n d ∧ ActsC σ A ∧ (σ 0 3 = n ∧ σ 3 1 = 54 - (n : Int) ∧ σ 0 12 = kn ∧ σ 0 11 = day) ∧ σ 139 0 = 0 ∧ σ 169 0 = 0
theorem ClsI.pre (h : ClsI σ n d A kn now day) : ClsP σ n d A kn day := ⟨h.1, h.2.1, h.2.2.1, h.2.2.2.1, h.2.2.2.2.1, h.2.2.2.2.2.2.2.2⟩
theorem C_again (g1 : NDok d) (g2 : ADok A) (g3 : nowOf A kn now) (g4 : day < 1000) (g5 : DLok d D) (h : ClsP σ n d A kn day) (m : MdlI τ b d A kn day) (hD : DlsI σ τ D) (hO : OutI σ τ) : wp (F_RD_lookAgain σ) (fun _ s => InvAt s τ n b d A kn now day D) := by
  obtain ⟨c1, c2, c3, c4, c5, p3, p4⟩ := h
  have hn : n = 50 ∨ n = 4 := c1.1
  have key : wp (F_RD_lookAgain_34 now n σ) (fun _ s => InvAt s τ n b d A kn now day D) := by
    unfold F_RD_lookAgain_34
    rw [c5.2.2.2]
    refine wp_cl (C_look g1 c1 c2 g2 c4 g3.le g4) (fun _ s hs => ?_)
    obtain ⟨hV, hf, hi⟩ := hs
    rw [lt_eq]
    have k : ∀ q, q ≠ 0 → q ≠ n → q ≠ n + 37 → q ≠ 88 → q ≠ 89 → q ≠ 90 → (hset s 0 16 1) q = σ q := fun q a a1 a2 a3 a4 a5 => by rw [hset_obj _ _ _ _ a]; exact hf q a1 a2 a3 a4 a5
    have k0 : ∀ i, i ≠ 16 → (hset s 0 16 1) 0 i = σ 0 i := fun i a => by rw [hset_get, if_neg (by omega), hf 0 (by omega) (by omega) (by omega) (by omega) (by omega)]
    have ki : ∀ i, i ≠ 13 → (hset s 0 16 1) n i = σ n i := fun i a => by rw [hset_obj _ _ _ _ (by omega)]; exact hi i a
    refine wp_ret ⟨⟨g1, g2, g3, g4, g5⟩, ⟨c1.congr ki (fun q x y => k q (by omega) (by omega) (by omega) (by omega) (by omega) (by omega)), c2.congr (fun q x y => k q (by omega) (by omega) (by omega) (by omega) (by omega) (by omega)), fun w hw => ?_, ⟨?_, fun q hq => ?_⟩, ⟨?_, ?_, ?_, ?_⟩, ⟨?_, fun r hr => ?_⟩, ⟨Or.inr (by rw [hset_same]), fun e => ?_, ?_, ?_⟩⟩, m, ⟨fun r hr => ?_, ?_⟩, ?_, ?_, ?_⟩
    · rw [k (n + 1) (by omega) (by omega) (by omega) (by omega) (by omega) (by omega)]; exact c3 w hw
    · rw [k 46 (by omega) (by omega) (by omega) (by omega) (by omega) (by omega)]; exact c4.1
    · rw [k 47 (by omega) (by omega) (by omega) (by omega) (by omega) (by omega), k 48 (by omega) (by omega) (by omega) (by omega) (by omega) (by omega), k 49 (by omega) (by omega) (by omega) (by omega) (by omega) (by omega)]; exact c4.2 q hq
    · rw [k0 3 (by omega)]; exact c5.1
    · rw [k 3 (by omega) (by omega) (by omega) (by omega) (by omega) (by omega)]; exact c5.2.1
    · rw [k0 12 (by omega)]; exact c5.2.2.1
    · rw [k0 11 (by omega)]; exact c5.2.2.2
    · rw [hset_obj _ _ _ _ (by omega)]; exact hV.1
    · rw [hset_obj _ _ _ _ (by omega), hset_obj _ _ _ _ (by omega)]; exact hV.2 r hr
    · rw [hset_same] at e
      exact absurd e (by decide)
    · rw [k 139 (by omega) (by omega) (by omega) (by omega) (by omega) (by omega)]; exact p3
    · rw [k 169 (by omega) (by omega) (by omega) (by omega) (by omega) (by omega)]; exact p4
    · rw [k 174 (by omega) (by omega) (by omega) (by omega) (by omega) (by omega), k 175 (by omega) (by omega) (by omega) (by omega) (by omega) (by omega)]; exact hD.1 r hr
    · rw [k 173 (by omega) (by omega) (by omega) (by omega) (by omega) (by omega)]; exact hD.2
    · rw [k0 13 (by omega), k0 14 (by omega), k0 15 (by omega)]; exact hO.1
    · rw [k 1 (by omega) (by omega) (by omega) (by omega) (by omega) (by omega), k 2 (by omega) (by omega) (by omega) (by omega) (by omega) (by omega)]; exact hO.2.1
    · rw [k 181 (by omega) (by omega) (by omega) (by omega) (by omega) (by omega), k 182 (by omega) (by omega) (by omega) (by omega) (by omega) (by omega)]; exact hO.2.2
  unfold F_RD_lookAgain
  rw [c5.1, lt_eq, Int.toNat_natCast, gd_pos c1.1, c5.2.2.1, c4.1]
  obtain ⟨_, _, e⟩ := g3
  refine wp_if (fun c => ?_) (fun c => ?_)
  · rw [if_pos c] at e
    rw [e] at key
    exact key
  · rw [if_neg c] at e
    rw [e] at key
    exact key
theorem S_day (σ τ : Hp) (a1 : Int) (h : Inv σ τ) : ∃ (z : Int) (σ' τ' : Hp), F_RD_day a1 σ = some (z, σ') ∧ F_M_day a1 τ = some (z, τ') ∧ Inv σ' τ' := by
  obtain ⟨n, b, d, A, kn, now, day, D, hI⟩ := id h
  obtain ⟨⟨g1, g2, g3, g4, g5⟩, cc, mm, hD, hO⟩ := id hI
  obtain ⟨c1, c2, c3, c4, c5, p3, p4⟩ := cc.pre
  obtain ⟨m1, m2, m3, m4, m5, m6⟩ := mm
  have hn : n = 50 ∨ n = 4 := c1.1
  unfold F_RD_day F_RD_day_11 F_M_day
  rw [M_is, cl2_some]
  by_cases c : 0 ≤ a1 ∧ a1 ≤ 999
  · obtain ⟨y, rfl⟩ : ∃ k : Nat, a1 = k := ⟨a1.toNat, by omega⟩
    rw [if_neg (c := (y : Int) < 0) (by omega), if_pos c.2, if_pos c, if_neg (by decide), lt_eq, lt_eq]
    have W : wp (F_RD_lookAgain (hset σ 0 11 y)) (fun _ s => InvAt s (hset τ 0 42 y) n b d A kn now y D) := by
      refine C_again g1 g2 g3 (by omega) g5 ⟨c1.congr (fun i _ => by rw [hset_obj _ _ _ _ (by omega)]) (fun q x _ => by rw [hset_obj _ _ _ _ (by omega)]), c2.congr (fun q x _ => by rw [hset_obj _ _ _ _ (by omega)]), fun w hw => by rw [hset_obj _ _ _ _ (by omega)]; exact c3 w hw, ⟨by rw [hset_obj _ _ _ _ (by omega)]; exact c4.1, fun k hk => by rw [hset_obj _ _ _ _ (by omega), hset_obj _ _ _ _ (by omega), hset_obj _ _ _ _ (by omega)]; exact c4.2 k hk⟩, ⟨by rw [hset_get, if_neg (by omega)]; exact c5.1, by rw [hset_obj _ _ _ _ (by omega)]; exact c5.2.1, by rw [hset_get, if_neg (by omega)]; exact c5.2.2.1, by rw [hset_same]⟩, by rw [hset_obj _ _ _ _ (by omega)]; exact p3, by rw [hset_obj _ _ _ _ (by omega)]; exact p4⟩ ⟨m1.congr (by rw [hset_get, if_neg (by omega)]) (fun q x _ => by rw [hset_obj _ _ _ _ (by omega)]), m2.congr (fun q x _ => by rw [hset_obj _ _ _ _ (by omega)]), fun w hw => by rw [hset_obj _ _ _ _ (by omega)]; exact m3 w hw, ⟨by rw [hset_get, if_neg (by omega)]; exact m4.1, fun k x y => by rw [hset_obj _ _ _ _ (by omega), hset_obj _ _ _ _ (by omega), hset_obj _ _ _ _ (by omega)]; exact m4.2 k x y⟩, by rw [hset_get, if_neg (by omega)]; exact m5, by rw [hset_same]⟩ ?_ ?_
      · exact ⟨fun r hr => by rw [hset_obj _ _ _ _ (by omega), hset_obj _ _ _ _ (by omega), hset_obj _ _ _ _ (by omega), hset_obj _ _ _ _ (by omega)]; exact hD.1 r hr, by rw [hset_obj _ _ _ _ (by omega)]; exact hD.2⟩
      · refine ⟨?_, ?_, ?_⟩
        · simp only [hset_get, Nat.reduceEqDiff, and_false, if_false]; exact hO.1
        · simp only [hset_get, Nat.reduceEqDiff, and_false, false_and, if_false]; exact hO.2.1
        · simp only [hset_get, Nat.reduceEqDiff, and_false, false_and, if_false]; exact hO.2.2
    obtain ⟨z, s, e, hI2⟩ := W
    rw [e, cl2_some]
    exact ⟨_, _, _, rfl, rfl, n, b, d, A, kn, now, y, D, hI2⟩
  · rw [if_neg c, if_pos rfl]
    by_cases q : a1 < 0
    · exact ⟨_, _, _, if_pos q, rfl, h⟩
    · exact ⟨_, _, _, by rw [if_neg q, if_neg (by omega)], rfl, h⟩
theorem S_as (σ τ : Hp) (a1 : Int) (h : Inv σ τ) : ∃ (z : Int) (σ' τ' : Hp), F_RD_as a1 σ = some (z, σ') ∧ F_M_as a1 τ = some (z, τ') ∧ Inv σ' τ' := by
  obtain ⟨n, b, d, A, kn, now, day, D, hI⟩ := id h
  obtain ⟨⟨g1, g2, g3, g4, g5⟩, cc, mm, hD, hO⟩ := id hI
  obtain ⟨c1, c2, c3, c4, c5, p3, p4⟩ := cc.pre
  obtain ⟨m1, m2, m3, m4, m5, m6⟩ := mm
  have hn : n = 50 ∨ n = 4 := c1.1
  unfold F_RD_as F_RD_as_16 F_M_as
  rw [M_is, cl2_some, c4.1, m4.1]
  by_cases c : -1 ≤ a1 ∧ a1 ≤ aN A
  · obtain ⟨nw, hnw⟩ : ∃ k : Nat, (k : Int) = if a1 = -1 then (aN A : Int) else a1 := by
      by_cases q : a1 = -1
      · exact ⟨aN A, by rw [if_pos q]⟩
      · exact ⟨a1.toNat, by rw [if_neg q]; omega⟩
    have g3' : nowOf A a1 nw := ⟨c.1, c.2, hnw⟩
    rw [if_neg (c := a1 < -1) (by omega), if_pos c.2, if_pos c, if_neg (by decide), lt_eq, lt_eq]
    have W : wp (F_RD_lookAgain (hset σ 0 12 a1)) (fun _ s => InvAt s (hset τ 0 44 a1) n b d A a1 nw day D) := by
      refine C_again g1 g2 g3' (by omega) g5 ⟨c1.congr (fun i _ => by rw [hset_obj _ _ _ _ (by omega)]) (fun q x _ => by rw [hset_obj _ _ _ _ (by omega)]), c2.congr (fun q x _ => by rw [hset_obj _ _ _ _ (by omega)]), fun w hw => by rw [hset_obj _ _ _ _ (by omega)]; exact c3 w hw, ⟨by rw [hset_obj _ _ _ _ (by omega)]; exact c4.1, fun k hk => by rw [hset_obj _ _ _ _ (by omega), hset_obj _ _ _ _ (by omega), hset_obj _ _ _ _ (by omega)]; exact c4.2 k hk⟩, ⟨by rw [hset_get, if_neg (by omega)]; exact c5.1, by rw [hset_obj _ _ _ _ (by omega)]; exact c5.2.1, by rw [hset_same], by rw [hset_get, if_neg (by omega)]; exact c5.2.2.2⟩, by rw [hset_obj _ _ _ _ (by omega)]; exact p3, by rw [hset_obj _ _ _ _ (by omega)]; exact p4⟩ ⟨m1.congr (by rw [hset_get, if_neg (by omega)]) (fun q x _ => by rw [hset_obj _ _ _ _ (by omega)]), m2.congr (fun q x _ => by rw [hset_obj _ _ _ _ (by omega)]), fun w hw => by rw [hset_obj _ _ _ _ (by omega)]; exact m3 w hw, ⟨by rw [hset_get, if_neg (by omega)]; exact m4.1, fun k x y => by rw [hset_obj _ _ _ _ (by omega), hset_obj _ _ _ _ (by omega), hset_obj _ _ _ _ (by omega)]; exact m4.2 k x y⟩, by rw [hset_same], by rw [hset_get, if_neg (by omega)]; exact m6⟩ ?_ ?_
      · exact ⟨fun r hr => by rw [hset_obj _ _ _ _ (by omega), hset_obj _ _ _ _ (by omega), hset_obj _ _ _ _ (by omega), hset_obj _ _ _ _ (by omega)]; exact hD.1 r hr, by rw [hset_obj _ _ _ _ (by omega)]; exact hD.2⟩
      · refine ⟨?_, ?_, ?_⟩
        · simp only [hset_get, Nat.reduceEqDiff, and_false, if_false]; exact hO.1
        · simp only [hset_get, Nat.reduceEqDiff, and_false, false_and, if_false]; exact hO.2.1
        · simp only [hset_get, Nat.reduceEqDiff, and_false, false_and, if_false]; exact hO.2.2
    obtain ⟨z, s, e, hI2⟩ := W
    rw [e, cl2_some]
    exact ⟨_, _, _, rfl, rfl, n, b, d, A, a1, nw, day, D, hI2⟩
  · rw [if_neg c, if_pos (c := (0 : Int) = 0) rfl]
    by_cases q : a1 < -1
    · exact ⟨_, _, _, if_pos q, rfl, h⟩
    · exact ⟨_, _, _, by rw [if_neg q, if_neg (by omega)], rfl, h⟩
end ActsS
