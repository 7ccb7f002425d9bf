/-! worth, annul -/
section Acts2
variable {σ τ : Hp} {n b : Nat} {d : ND} {A : AD} {kn : Int} {now day : Nat} {D : DL}
def actF (σ s : Hp) : Prop := ∀ q, q ≠ 46 → q ≠ 47 → q ≠ 48 → q ≠ 49 → s q = σ q
def actFM (τ t : Hp) : Prop := (∀ q, q ≠ 0 → q ≠ 25 → q ≠ 26 → q ≠ 27 → t q = τ q) ∧ ∀ i, i ≠ 43 → t 0 i = τ 0 i
theorem InvAt.again (h : InvAt σ τ n b d A kn now day D) {A' : AD} {nw : Nat} (hA : ADok A') (hk : nowOf A' kn nw) {s t : Hp} (hs : actF σ s) (ht : actFM τ t) (hc : ActsC s A') (hm : ActsM t A') : wp (F_RD_lookAgain s) (fun _ u => InvAt u t n b d A' kn nw day D) := by
  obtain ⟨⟨g1, g2, g3, g4, g5⟩, cc, mm, hD, hO⟩ := id h
  obtain ⟨c1, c2, c3, c4, c5, p3, p4⟩ := cc.pre
  obtain ⟨m1, m2, m3, m4, m5, m6⟩ := mm
  have hn : n = 50 ∨ n = 4 := c1.1
  have k : ∀ q, q < 46 ∨ 49 < q → s q = σ q := fun q hq => hs q (by omega) (by omega) (by omega) (by omega)
  have kc : ∀ q, n ≤ q → q ≤ n + 36 → s q = σ q := fun q a x => k q (by omega)
  refine C_again g1 hA hk g4 g5 ⟨c1.congr (fun i _ => by rw [kc n (by omega) (by omega)]) (fun q x y => kc q (by omega) (by omega)), c2.congr (fun q x y => kc q (by omega) (by omega)), fun w hw => by rw [kc (n + 1) (by omega) (by omega)]; exact c3 w hw, hc, ⟨by rw [k 0 (by omega)]; exact c5.1, by rw [k 3 (by omega)]; exact c5.2.1, by rw [k 0 (by omega)]; exact c5.2.2.1, by rw [k 0 (by omega)]; exact c5.2.2.2⟩, by rw [k 139 (by omega)]; exact p3, by rw [k 169 (by omega)]; exact p4⟩ ⟨m1.congr (ht.2 12 (by omega)) (fun q x y => ht.1 q (by omega) (by omega) (by omega) (by omega)), m2.congr (fun q x y => ht.1 q (by omega) (by omega) (by omega) (by omega)), fun w hw => by rw [ht.1 6 (by omega) (by omega) (by omega) (by omega)]; exact m3 w hw, hm, by rw [ht.2 44 (by omega)]; exact m5, by rw [ht.2 42 (by omega)]; exact m6⟩ ?_ ?_
  · exact ⟨fun r hr => by rw [k 174 (by omega), k 175 (by omega), ht.1 42 (by omega) (by omega) (by omega) (by omega), ht.1 43 (by omega) (by omega) (by omega) (by omega)]; exact hD.1 r hr, by rw [k 173 (by omega)]; exact hD.2⟩
  · refine ⟨?_, ?_, ?_⟩
    · rw [k 0 (by omega), ht.2 10 (by omega), ht.2 11 (by omega), ht.2 67 (by omega)]; exact hO.1
    · rw [k 1 (by omega), k 2 (by omega), ht.2 1 (by omega), ht.1 1 (by omega) (by omega) (by omega) (by omega)]; exact hO.2.1
    · rw [k 181 (by omega), k 182 (by omega), ht.2 71 (by omega), ht.1 49 (by omega) (by omega) (by omega) (by omega)]; exact hO.2.2
def addA (A : AD) (r w : Int) : AD := (aN A + 1, (fun k => if k = aN A + 1 then r else aR A k), (fun k => if k = aN A + 1 then w else aW A k), (fun k => if k = aN A + 1 then 0 else aU A k))
def undA (A : AD) (j : Nat) : AD := (aN A, aR A, aW A, fun k => if k = j then (aN A : Int) else aU A k)
theorem addA_ok (h : ADok A) (hN : aN A < 200) {r w : Int} (hw : -2 ≤ w ∧ w ≤ 100000) : ADok (addA A r w) := by
  refine ⟨by show aN A + 1 ≤ 200; omega, fun k k1 k2 => ?_⟩
  have k2 : k ≤ aN A + 1 := k2
  show -2 ≤ (if k = aN A + 1 then w else aW A k) ∧ (if k = aN A + 1 then w else aW A k) ≤ 100000 ∧ 0 ≤ (if k = aN A + 1 then 0 else aU A k) ∧ (if k = aN A + 1 then 0 else aU A k) ≤ 200
  by_cases e : k = aN A + 1
  · simp only [if_pos e]
    omega
  · simp only [if_neg e]
    exact h.2 k k1 (by omega)
theorem undA_ok (h : ADok A) {j : Nat} : ADok (undA A j) := by
  have hN := h.1
  refine ⟨h.1, fun k k1 k2 => ?_⟩
  have q := h.2 k k1 k2
  show -2 ≤ aW A k ∧ aW A k ≤ 100000 ∧ 0 ≤ (if k = j then (aN A : Int) else aU A k) ∧ (if k = j then (aN A : Int) else aU A k) ≤ 200
  split <;> omega
theorem C_add (hc : ActsC σ A) (hN : aN A < 200) {r w : Int} : ∃ s, F_Acts_add r w σ = some (((aN A + 1 : Nat) : Int), s) ∧ ActsC s (addA A r w) ∧ actF σ s := by
  have g : (0 : Int) ≤ (aN A : Int) ∧ (aN A : Int) < 200 := by omega
  refine ⟨hset (hset (hset (hset σ 47 (aN A) r) 48 (aN A) w) 49 (aN A) 0) 46 3 ((aN A + 1 : Nat) : Int), ?_, ⟨?_, fun k hk => ?_⟩, fun q a1 a2 a3 a4 => ?_⟩
  · unfold F_Acts_add
    rw [hc.1, if_pos (by omega), gd_pos g, lt_eq, Int.toNat_natCast]
    have e1 : (hset σ 47 (aN A) r) 46 3 = aN A := by rw [hset_obj _ _ _ _ (by omega)]; exact hc.1
    rw [e1, gd_pos g, lt_eq, Int.toNat_natCast]
    have e2 : (hset (hset σ 47 (aN A) r) 48 (aN A) w) 46 3 = aN A := by rw [hset_obj _ _ _ _ (by omega)]; exact e1
    rw [e2, gd_pos g, lt_eq, Int.toNat_natCast]
    have e3 : (hset (hset (hset σ 47 (aN A) r) 48 (aN A) w) 49 (aN A) 0) 46 3 = aN A := by rw [hset_obj _ _ _ _ (by omega)]; exact e2
    rw [e3, lt_eq, hset_same, iadd_ok (by omega)]
    rfl
  · rw [hset_same]; rfl
  · have hk : k < aN A + 1 := hk
    show _ = (if k + 1 = aN A + 1 then r else aR A (k + 1)) ∧ _ = (if k + 1 = aN A + 1 then w else aW A (k + 1)) ∧ _ = (if k + 1 = aN A + 1 then 0 else aU A (k + 1))
    simp only [hset_get, Nat.reduceEqDiff, false_and, true_and, if_false]
    by_cases e : k = aN A
    · simp [e]
    · rw [if_neg e, if_neg e, if_neg e, if_neg (by omega), if_neg (by omega), if_neg (by omega)]
      exact hc.2 k (by omega)
  · rw [hset_obj _ _ _ _ a1, hset_obj _ _ _ _ a4, hset_obj _ _ _ _ a3, hset_obj _ _ _ _ a2]
theorem M_enter (hm : ActsM τ A) (hN : aN A < 200) {r w : Int} : ∃ t, F_M_enter r w τ = some (((aN A + 1 : Nat) : Int), t) ∧ ActsM t (addA A r w) ∧ actFM τ t := by
  have g : (0 : Int) ≤ ((aN A + 1 : Nat) : Int) ∧ ((aN A + 1 : Nat) : Int) < 201 := by omega
  refine ⟨hset (hset (hset (hset τ 0 43 ((aN A + 1 : Nat) : Int)) 25 (aN A + 1) r) 26 (aN A + 1) w) 27 (aN A + 1) 0, ?_, ⟨?_, fun k k1 hk => ?_⟩, fun q a1 a2 a3 a4 => ?_, fun i hi => ?_⟩
  · unfold F_M_enter
    have e0 : iadd (τ 0 43) 1 = ((aN A + 1 : Nat) : Int) := by rw [hm.1, iadd_ok (by omega)]; omega
    rw [e0, hm.1, if_neg (by omega), lt_eq]
    have e1 : (hset τ 0 43 ((aN A + 1 : Nat) : Int)) 0 43 = ((aN A + 1 : Nat) : Int) := hset_same _ _ _ _
    rw [e1, gd_pos g, lt_eq, Int.toNat_natCast]
    have e2 : (hset (hset τ 0 43 ((aN A + 1 : Nat) : Int)) 25 (aN A + 1) r) 0 43 = ((aN A + 1 : Nat) : Int) := by rw [hset_obj _ _ _ _ (by omega)]; exact e1
    rw [e2, gd_pos g, lt_eq, Int.toNat_natCast]
    have e3 : (hset (hset (hset τ 0 43 ((aN A + 1 : Nat) : Int)) 25 (aN A + 1) r) 26 (aN A + 1) w) 0 43 = ((aN A + 1 : Nat) : Int) := by rw [hset_obj _ _ _ _ (by omega)]; exact e2
    rw [e3, gd_pos g, lt_eq, Int.toNat_natCast, hset_obj _ _ _ _ (by omega), e3]
  · rw [hset_obj _ _ _ _ (by omega), hset_obj _ _ _ _ (by omega), hset_obj _ _ _ _ (by omega), hset_same]; rfl
  · have hk : k ≤ aN A + 1 := hk
    show _ = (if k = aN A + 1 then r else aR A k) ∧ _ = (if k = aN A + 1 then w else aW A k) ∧ _ = (if k = aN A + 1 then 0 else aU A k)
    simp only [hset_get, Nat.reduceEqDiff, false_and, true_and, if_false]
    by_cases e : k = aN A + 1
    · simp [e]
    · rw [if_neg e, if_neg e, if_neg e, if_neg e, if_neg e, if_neg e]
      exact hm.2 k k1 (by omega)
  · rw [hset_obj _ _ _ _ a4, hset_obj _ _ _ _ a3, hset_obj _ _ _ _ a2, hset_obj _ _ _ _ a1]
  · rw [hset_obj _ _ _ _ (by omega), hset_obj _ _ _ _ (by omega), hset_obj _ _ _ _ (by omega), hset_get, if_neg (by omega)]
theorem nowOf.more (h : nowOf A kn now) {A' : AD} (hN : aN A' = aN A + 1) : ∃ nw, nowOf A' kn nw := by
  obtain ⟨h1, h2, h3⟩ := h
  by_cases q : kn = -1
  · exact ⟨aN A', h1, by omega, by rw [if_pos q]⟩
  · rw [if_neg q] at h3
    exact ⟨now, h1, by omega, by rw [if_neg q]; exact h3⟩
theorem S_worth (σ τ : Hp) (a1 a2 : Int) (h : Inv σ τ) : ∃ (z : Int) (σ' τ' : Hp), F_RD_worth a1 a2 σ = some (z, σ') ∧ F_M_worth a1 a2 τ = some (z, τ') ∧ Inv σ' τ' := by
  obtain ⟨n, b, d, A, kn, now, day, D, hI⟩ := id h
  obtain ⟨⟨g1, g2, g3, g4, g5⟩, ⟨c1, c2, c3, c4, c5, c6, c7⟩, ⟨m1, m2, m3, m4, m5, m6⟩, _⟩ := id hI
  unfold F_RD_worth F_RD_worth_20 F_M_worth F_M_worth_29 F_M_worth_30
  rw [C_isRoad g1 c1 c5.1, cl2_some, M_isRoad g1 m1, cl2_some]
  by_cases c : 0 ≤ a1 ∧ a1 < dR d
  · rw [if_pos c, if_neg (c := (1 : Int) = 0) (by decide), if_neg (c := (1 : Int) = 0) (by decide), M_is, cl2_some]
    by_cases cw : -2 ≤ a2 ∧ a2 ≤ 100000
    · rw [if_neg (c := a2 < -2) (by omega), if_pos cw.2, if_pos cw, if_neg (c := (1 : Int) = 0) (by decide)]
      by_cases hN : aN A < 200
      · obtain ⟨s, e1, hs1, hs2⟩ := C_add c4 hN (r := a1) (w := a2)
        obtain ⟨t, e2, ht1, ht2⟩ := M_enter m4 hN (r := a1) (w := a2)
        obtain ⟨nw, hnw⟩ := g3.more (A' := addA A a1 a2) rfl
        obtain ⟨z, u, e3, hI2⟩ := hI.again (addA_ok g2 hN cw) hnw hs2 ht2 hs1 ht1
        exact ⟨_, u, t, by rw [e1, cl2_some, e3, cl2_some], by rw [e2, cl2_some], n, b, d, _, kn, nw, day, D, hI2⟩
      · have h200 : aN A = 200 := by have := g2.1; omega
        obtain ⟨z, u, e3, hI2⟩ := hI.again g2 g3 (s := σ) (t := τ) (fun _ _ _ _ _ => rfl) ⟨fun _ _ _ _ _ => rfl, fun _ _ => rfl⟩ c4 m4
        refine ⟨-1, u, τ, ?_, ?_, n, b, d, A, kn, now, day, D, hI2⟩
        · unfold F_Acts_add
          rw [c4.1, if_neg (by omega), cl2_some, e3, cl2_some]
        · unfold F_M_enter
          rw [m4.1, if_pos (by omega), cl2_some]
    · rw [if_neg cw, if_pos (c := (0 : Int) = 0) rfl]
      by_cases q : a2 < -2
      · exact ⟨_, _, _, if_pos q, rfl, h⟩
      · exact ⟨_, _, _, by rw [if_neg q, if_neg (by omega)], rfl, h⟩
  · rw [if_neg c]
    exact ⟨_, _, _, if_pos rfl, if_pos rfl, h⟩
theorem S_annul (σ τ : Hp) (a1 : Int) (h : Inv σ τ) : ∃ (z : Int) (σ' τ' : Hp), F_RD_annul a1 σ = some (z, σ') ∧ F_M_annul a1 τ = some (z, τ') ∧ Inv σ' τ' := by
  obtain ⟨n, b, d, A, kn, now, day, D, hI⟩ := id h
  obtain ⟨⟨g1, g2, g3, g4, g5⟩, ⟨c1, c2, c3, c4, c5, c6, c7⟩, ⟨m1, m2, m3, m4, m5, m6⟩, _⟩ := id hI
  obtain ⟨z, u, e3, hI2⟩ := hI.again g2 g3 (s := σ) (t := τ) (fun _ _ _ _ _ => rfl) ⟨fun _ _ _ _ _ => rfl, fun _ _ => rfl⟩ c4 m4
  have no : F_Acts_annulled a1 σ = some (-1, σ) → F_M_annul a1 τ = some (-1, τ) → ∃ (z : Int) (σ' τ' : Hp), F_RD_annul a1 σ = some (z, σ') ∧ F_M_annul a1 τ = some (z, τ') ∧ Inv σ' τ' := fun q1 q2 => by
    refine ⟨-1, u, τ, ?_, q2, n, b, d, A, kn, now, day, D, hI2⟩
    unfold F_RD_annul
    rw [q1, cl2_some, e3, cl2_some]
  have hA := g2.1
  by_cases q1 : a1 < 1
  · exact no (if_pos q1) (if_pos q1)
  · by_cases q2 : (aN A : Int) < a1
    · refine no ?_ ?_
      · unfold F_Acts_annulled
        rw [if_neg q1, c4.1, if_pos q2]; rfl
      · unfold F_M_annul
        rw [if_neg q1, m4.1, if_pos q2]; rfl
    · obtain ⟨j, rfl⟩ : ∃ k : Nat, a1 = ((k + 1 : Nat) : Int) := ⟨(a1 - 1).toNat, by omega⟩
      have e1 : isub ((j + 1 : Nat) : Int) 1 = (j : Int) := by rw [isub_ok (by omega)]; omega
      have gj : (0 : Int) ≤ (j : Int) ∧ (j : Int) < 200 := by omega
      have gj1 : (0 : Int) ≤ ((j + 1 : Nat) : Int) ∧ ((j + 1 : Nat) : Int) < 201 := by omega
      have cj := c4.2 j (by omega)
      have mj := m4.2 (j + 1) (by omega) (by omega)
      have uj := (g2.2 (j + 1) (by omega) (by omega)).2.2
      by_cases q3 : aR A (j + 1) = -1
      · refine no ?_ ?_
        · unfold F_Acts_annulled
          rw [if_neg q1, c4.1, if_neg q2, e1, gd_pos gj, Int.toNat_natCast, cj.1, if_pos q3]; rfl
        · unfold F_M_annul
          rw [if_neg q1, m4.1, if_neg q2, gd_pos gj1, Int.toNat_natCast, mj.1, if_pos q3]; rfl
      · by_cases q4 : aU A (j + 1) = 0
        · by_cases hN : aN A < 200
          · obtain ⟨s, f1, hs1, hs2⟩ := C_add c4 hN (r := -1) (w := 0)
            obtain ⟨t, f2, ht1, ht2⟩ := M_enter m4 hN (r := -1) (w := 0)
            obtain ⟨nw, hnw⟩ := g3.more (A' := undA (addA A (-1) 0) (j + 1)) rfl
            have hcs : ActsC (hset s 49 j ((aN A + 1 : Nat) : Int)) (undA (addA A (-1) 0) (j + 1)) := by
              refine ⟨by rw [hset_obj _ _ _ _ (by omega)]; exact hs1.1, fun k hk => ?_⟩
              have r := hs1.2 k hk
              rw [hset_obj _ _ _ _ (by omega), hset_obj _ _ _ _ (by omega), hset_get]
              refine ⟨r.1, r.2.1, ?_⟩
              show _ = if k + 1 = j + 1 then ((aN A + 1 : Nat) : Int) else aU (addA A (-1) 0) (k + 1)
              by_cases e : k = j
              · rw [if_pos ⟨rfl, e⟩, if_pos (by omega)]
              · rw [if_neg (fun z => e z.2), if_neg (by omega)]
                exact r.2.2
            have hmt : ActsM (hset t 27 (j + 1) ((aN A + 1 : Nat) : Int)) (undA (addA A (-1) 0) (j + 1)) := by
              refine ⟨by rw [hset_obj _ _ _ _ (by omega)]; exact ht1.1, fun k k1 hk => ?_⟩
              have r := ht1.2 k k1 hk
              rw [hset_obj _ _ _ _ (by omega), hset_obj _ _ _ _ (by omega), hset_get]
              refine ⟨r.1, r.2.1, ?_⟩
              show _ = if k = j + 1 then ((aN A + 1 : Nat) : Int) else aU (addA A (-1) 0) k
              by_cases e : k = j + 1
              · rw [if_pos ⟨rfl, e⟩, if_pos e]
              · rw [if_neg (fun z => e z.2), if_neg e]
                exact r.2.2
            obtain ⟨z, u, e5, hI5⟩ := hI.again (undA_ok (addA_ok g2 hN (by decide))) hnw (s := hset s 49 j ((aN A + 1 : Nat) : Int)) (t := hset t 27 (j + 1) ((aN A + 1 : Nat) : Int)) (fun q x1 x2 x3 x4 => by rw [hset_obj _ _ _ _ x4]; exact hs2 q x1 x2 x3 x4) ⟨fun q x1 x2 x3 x4 => by rw [hset_obj _ _ _ _ x4]; exact ht2.1 q x1 x2 x3 x4, fun i hi => by rw [hset_obj _ _ _ _ (by omega)]; exact ht2.2 i hi⟩ hcs hmt
            refine ⟨((aN A + 1 : Nat) : Int), u, _, ?_, ?_, n, b, d, _, kn, nw, day, D, hI5⟩
            · unfold F_RD_annul F_Acts_annulled F_Acts_annulled_59
              rw [if_neg q1, c4.1, if_neg q2, e1, gd_pos gj, Int.toNat_natCast, cj.1, if_neg q3, gd_pos gj, cj.2.2, if_pos q4, f1, cl2_some, if_neg (by omega), gd_pos gj, lt_eq, cl2_some, e5, cl2_some]
            · unfold F_M_annul
              rw [if_neg q1, m4.1, if_neg q2, gd_pos gj1, Int.toNat_natCast, mj.1, if_neg q3, gd_pos gj1, mj.2.2, if_neg (by omega), if_neg (by omega), f2, cl2_some, gd_pos gj1, lt_eq, gd_pos gj1, hset_same]
          · have h200 : aN A = 200 := by omega
            refine no ?_ ?_
            · unfold F_Acts_annulled F_Acts_annulled_59 F_Acts_add
              rw [if_neg q1, c4.1, if_neg q2, e1, gd_pos gj, Int.toNat_natCast, cj.1, if_neg q3, gd_pos gj, cj.2.2, if_pos q4, if_neg (by omega), cl2_some, if_pos rfl]
            · unfold F_M_annul
              rw [if_neg q1, m4.1, if_neg q2, gd_pos gj1, Int.toNat_natCast, mj.1, if_neg q3, gd_pos gj1, mj.2.2, if_neg (by omega), if_pos (by omega)]; rfl
        · refine no ?_ ?_
          · unfold F_Acts_annulled
            rw [if_neg q1, c4.1, if_neg q2, e1, gd_pos gj, Int.toNat_natCast, cj.1, if_neg q3, gd_pos gj, cj.2.2, if_neg q4]; rfl
          · unfold F_M_annul
            rw [if_neg q1, m4.1, if_neg q2, gd_pos gj1, Int.toNat_natCast, mj.1, if_neg q3, gd_pos gj1, mj.2.2, if_pos (by omega)]; rfl
end Acts2
