/-! undeal -/
section Undeal
variable {σ τ : Hp} {n b : Nat} {d : ND} {A : AD} {kn : Int} {now day : Nat} {D : DL}
theorem InvAt.setD (h : InvAt σ τ n b d A kn now day D) {D' : DL} (hok : DLok d D') {s t : Hp} (h1 : ∀ q, q < 173 ∨ 175 < q → s q = σ q) (h2 : ∀ q, q ≠ 42 → q ≠ 43 → t q = τ q) (h3 : DlsI s t D') : InvAt s t n b d A kn now day D' := by
  obtain ⟨⟨g1, g2, g3, g4, g5⟩, ⟨c1, c2, c3, c4, c5, c6, c7⟩, m, ⟨d1, d2⟩, o1, o2, o3⟩ := id h
  have k : ∀ q, q ≤ 172 → s q = σ q := fun q hq => h1 q (by omega)
  have hn : n = 50 ∨ n = 4 := c1.1
  refine ⟨⟨g1, g2, g3, g4, hok⟩, ⟨c1.congr (fun i _ => by rw [k n (by omega)]) (fun q a x => k q (by omega)), c2.congr (fun q a x => k q (by omega)), fun w hw => ?_, ⟨?_, fun q hq => ?_⟩, ⟨?_, ?_, ?_, ?_⟩, ⟨?_, fun r hr => ?_⟩, c7.congr g1 (by rw [k 0 (by omega)]) (fun q a x => k q (by omega)) ?_⟩, m.congr (fun q hq => h2 q (by omega) (by omega)) (fun i hi => by rw [h2 0 (by omega) (by omega)]), h3, ?_, ?_, ?_⟩
  · rw [k (n + 1) (by omega)]; exact c3 w hw
  · rw [k 46 (by omega)]; exact c4.1
  · rw [k 47 (by omega), k 48 (by omega), k 49 (by omega)]; exact c4.2 q hq
  · rw [k 0 (by omega)]; exact c5.1
  · rw [k 3 (by omega)]; exact c5.2.1
  · rw [k 0 (by omega)]; exact c5.2.2.1
  · rw [k 0 (by omega)]; exact c5.2.2.2
  · rw [k 88 (by omega)]; exact c6.1
  · rw [k 89 (by omega), k 90 (by omega)]; exact c6.2 r hr
  · rw [k 169 (by omega)]; exact c7.2.2.2
  · rw [k 0 (by omega), h2 0 (by omega) (by omega)]; exact o1
  · rw [k 1 (by omega), k 2 (by omega), h2 0 (by omega) (by omega), h2 1 (by omega) (by omega)]; exact o2
  · rw [h1 181 (by omega), h1 182 (by omega), h2 0 (by omega) (by omega), h2 49 (by omega) (by omega)]; exact o3
def delD (D : DL) (r : Nat) : DL := ((fun q => D.1 q && !(q == r)), D.2)
theorem delD_at {D : DL} {r q : Nat} : (delD D r).1 q = true ↔ D.1 q = true ∧ q ≠ r := by
  show (D.1 q && !(q == r)) = true ↔ _
  simp
theorem dlN_del {D : DL} {r : Nat} (h : D.1 r = true) : ∀ k, dlN (delD D r) k + (if r < k then 1 else 0) = dlN D k
  | 0 => rfl
  | k + 1 => by
    have ih := dlN_del h k
    show dlN (delD D r) k + (if (delD D r).1 k = true then 1 else 0) + (if r < k + 1 then 1 else 0) = dlN D k + (if D.1 k = true then 1 else 0)
    by_cases e : k = r
    · subst e
      rw [if_neg (fun z => (delD_at.mp z).2 rfl), if_pos h, if_pos (by omega)]
      rw [if_neg (by omega)] at ih
      omega
    · by_cases c : D.1 k = true
      · rw [if_pos (delD_at.mpr ⟨c, e⟩), if_pos c]
        split at ih <;> split <;> omega
      · rw [if_neg (fun z => c (delD_at.mp z).1), if_neg c]
        split at ih <;> split <;> omega
theorem S_undeal (σ τ : Hp) (a1 : Int) (h : Inv σ τ) : ∃ (z : Int) (σ' τ' : Hp), F_RD_undeal a1 σ = some (z, σ') ∧ F_M_undeal a1 τ = some (z, τ') ∧ Inv σ' τ' := by
  obtain ⟨n, b, d, A, kn, now, day, D, hI⟩ := id h
  obtain ⟨⟨g1, g2, g3, g4, g5⟩, ⟨c1, c2, c3, c4, c5, c6, c7⟩, ⟨m1, m2, m3, m4, m5, m6⟩, ⟨d1, d2⟩, _⟩ := id hI
  have hR := g1.2.1
  unfold F_RD_undeal F_RD_undeal_29 F_RD_undeal_30 F_M_undeal F_M_undeal_17
  rw [C_isRoad g1 c1 c5.1, cl2_some, M_isRoad g1 m1, cl2_some]
  by_cases c : 0 ≤ a1 ∧ a1 < dR d
  · rw [if_pos c, if_neg (c := (1 : Int) = 0) (by decide), if_neg (c := (1 : Int) = 0) (by decide)]
    obtain ⟨r, rfl⟩ : ∃ k : Nat, a1 = k := ⟨a1.toNat, by omega⟩
    have g30 : (0 : Int) ≤ (r : Int) ∧ (r : Int) < 30 := by omega
    obtain ⟨e1, e2, e3⟩ := d1 r (by omega)
    unfold F_Deals_drop
    rw [gd_pos g30, gd_pos g30, gd_pos g30, gd_pos g30, Int.toNat_natCast, e1, e2]
    by_cases cd : D.1 r = true
    · rw [if_pos cd, if_neg (c := (1 : Int) = 0) (by decide), if_neg (c := (1 : Int) = 0) (by decide)]
      have hz : z1 0 = 0 := z1_eq (Or.inl rfl)
      have hn := dlN_del cd 30
      rw [if_pos (by omega)] at hn
      have hl := dlN_le D 30
      have hok : DLok d (delD D r) := ⟨g5.1, fun q hq => by
        obtain ⟨x1, x2, x3, x4⟩ := g5.2 q (delD_at.mp hq).1
        exact ⟨x1, x2, x3, fun r' hr' => x4 r' (delD_at.mp hr').1⟩⟩
      have e173 : isub ((hset σ 174 r 0) 173 2) 1 = (dlN (delD D r) 30 : Int) := by
        rw [hset_obj _ _ _ _ (by omega), d2, isub_ok (by omega)]
        omega
      have hI2 : InvAt (hset (hset σ 174 r 0) 173 2 (dlN (delD D r) 30 : Int)) (hset τ 42 r 0) n b d A kn now day (delD D r) := by
        refine hI.setD hok (fun q hq => by rw [hset_obj _ _ _ _ (by omega), hset_obj _ _ _ _ (by omega)]) (fun q x y => by rw [hset_obj _ _ _ _ x]) ⟨fun q hq => ?_, hset_same _ _ _ _⟩
        obtain ⟨f1, f2, f3⟩ := d1 q hq
        have k174 : hset (hset σ 174 r 0) 173 2 (dlN (delD D r) 30 : Int) 174 q = if q = r then 0 else σ 174 q := by
          simp only [hset_get, Nat.reduceEqDiff, false_and, true_and, if_false]
        have k42 : (hset τ 42 r 0) 42 q = if q = r then 0 else τ 42 q := by
          simp only [hset_get, true_and]
        have k175 : hset (hset σ 174 r 0) 173 2 (dlN (delD D r) 30 : Int) 175 q = σ 175 q := by
          simp only [hset_get, Nat.reduceEqDiff, false_and, if_false]
        have k43 : (hset τ 42 r 0) 43 q = τ 43 q := by
          simp only [hset_get, Nat.reduceEqDiff, false_and, if_false]
        rw [k174, k42, k175, k43]
        by_cases e : q = r
        · have no : ¬ (delD D r).1 q = true := fun z => (delD_at.mp z).2 e
          rw [if_pos e, if_pos e, if_neg no]
          exact ⟨rfl, rfl, fun z => absurd z no⟩
        · rw [if_neg e, if_neg e, f1, f2]
          by_cases c2 : D.1 q = true
          · have y : (delD D r).1 q = true := delD_at.mpr ⟨c2, e⟩
            rw [if_pos c2, if_pos y]
            exact ⟨rfl, rfl, fun _ => f3 c2⟩
          · have y : ¬ (delD D r).1 q = true := fun z => c2 (delD_at.mp z).1
            rw [if_neg c2, if_neg y]
            exact ⟨rfl, rfl, fun z => absurd z y⟩
      have hdl := M_deals hI2
      refine ⟨(dlN (delD D r) 30 : Int), _, _, ?_, ?_, n, b, d, A, kn, now, day, delD D r, hI2⟩
      · rw [hz, lt_eq, e173, lt_eq, cl2_some, if_neg (by decide), hset_same]
      · rw [hz, lt_eq, hdl, cl2_some, hset_same]
    · rw [if_neg cd, if_pos rfl, if_pos rfl]
      exact ⟨_, _, _, by rw [cl2_some, if_pos rfl], rfl, h⟩
  · rw [if_neg c]
    exact ⟨_, _, _, if_pos rfl, if_pos rfl, h⟩
end Undeal
