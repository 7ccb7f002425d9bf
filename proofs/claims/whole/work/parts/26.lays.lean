/-! the check's lays -/
theorem M_now {τ : Hp} {A : AD} {kn : Int} {now : Nat} (h1 : τ 0 43 = aN A) (h2 : τ 0 44 = kn) (hnow : (now : Int) = if kn = -1 then (aN A : Int) else kn) : F_M_now τ = some ((now : Int), τ) := by
  unfold F_M_now F_M_now_19
  rw [h1, h2, hnow]
  split <;> rfl
theorem M_worthOf {τ : Hp} {b : Nat} {d : ND} {A : AD} (hd : NDok d) (hN : NetM τ b d) (hc : CodeM τ b d) (hA : ADok A) (hAM : ActsM τ A) {kn : Int} {now day : Nat} (h2 : τ 0 44 = kn) (hnow : (now : Int) = if kn = -1 then (aN A : Int) else kn) (hle : now ≤ aN A) (hday : τ 0 42 = day) (hd1 : day < 1000)
    {r : Nat} (hr : r < dR d) : wp (F_M_worthOf r τ) (fun z s => z = owd d A day now r ∧ fr 28 28 τ s) := by
  have hb := hN.1
  have hR := hd.2.1
  have hA200 := hA.1
  obtain ⟨c1, c2⟩ := hc r hr
  have hix : iadd (imul 30 (τ 0 12)) (r : Int) = ((30 * b + r : Nat) : Int) := by rw [hN.2.1]; exact ix30 hb (by omega)
  have hi60 : (0 : Int) ≤ ((30 * b + r : Nat) : Int) ∧ ((30 * b + r : Nat) : Int) < 60 := by omega
  have text : kwA A now r now = -2 → ∀ t, fr 28 28 τ t → (ts d r = true → tv d r day ≠ 0) → wp (F_M_worthOf_114 r ((30 * b + r : Nat) : Int) t) (fun z s => z = owd d A day now r ∧ fr 28 28 τ s) := by
    intro hk t ht hz
    unfold F_M_worthOf_114
    rw [gd_pos hi60, gd_pos hi60, Int.toNat_natCast, ht 10 (by omega), ht 11 (by omega)]
    refine wp_cl (c2 day t hd1 (by rw [ht 0 (by omega)]; exact hN.2.1) (by rw [ht 0 (by omega)]; exact hday) (bkM_of (fun q a1 a2 => ht q (by omega)))).1 (fun z s hs => ?_)
    have e : owd d A day now r = clampW z := by
      unfold owd tw
      rw [if_pos hk, if_neg (fun q => hz q.1 q.2), hs.1]
    unfold F_M_worthOf_161
    rw [hs.1] at e ⊢
    refine wp_if (fun g => wp_if (fun g2 => ?_) (fun g2 => ?_)) (fun g => ?_)
    · rw [lcmp_ge] at g
      rw [lcmp_le] at g2
      refine wp_ret ⟨?_, fr_trans ht hs.2⟩
      rw [w32_id (by omega), e]
      unfold clampW
      rw [if_neg (by omega), if_neg (by omega)]
    · rw [lcmp_ge] at g
      rw [lcmp_le] at g2
      refine wp_ret ⟨?_, fr_trans ht hs.2⟩
      rw [e]
      unfold clampW
      rw [if_neg (by omega), if_pos (by omega)]
    · rw [lcmp_ge] at g
      refine wp_ret ⟨?_, fr_trans ht hs.2⟩
      rw [e]
      unfold clampW
      rw [if_pos (by omega)]
  unfold F_M_worthOf F_M_worthOf_5
  refine wp_loop (fun a : Int × Int × Hp => ∃ k : Nat, k ≤ now ∧ a.1 = kwA A now r k ∧ a.2.1 = ((k + 1 : Nat) : Int) ∧ a.2.2 = τ) (fun a => (300 - a.2.1).toNat) ?_ FU _ ?_ ?_
  · intro a k hp ih
    obtain ⟨x, y, s⟩ := a
    obtain ⟨m, hm, e0, e1, e2⟩ := hp
    dsimp only at e0 e1 e2 ih ⊢
    subst e0 e1 e2
    unfold F_M_worthOf_5_b
    rw [M_now hAM.1 h2 hnow, cl2_some]
    refine wp_if (fun g => ?_) (fun g => ?_)
    · have em : m = now := by omega
      subst em
      refine wp_if (fun g2 => ?_) (fun g2 => ?_)
      · rw [lt_eq, hix, gd_pos hi60, gd_pos hi60, Int.toNat_natCast]
        refine wp_if (fun g3 => ?_) (fun g3 => ?_)
        · exact text g2 s fr_rfl (fun q => absurd (c1.mp q) (by omega))
        · have ht : ts d r = true := c1.mpr (by omega)
          rw [gd_pos hi60, gd_pos hi60]
          refine wp_cl ((c2 day s hd1 hN.2.1 hday (bkM_of (fun _ _ _ => rfl))).2 ht) (fun z t hs => ?_)
          rw [hs.1]
          refine wp_if (fun g4 => ?_) (fun g4 => ?_)
          · rw [lcmp_eq] at g4
            refine wp_ret ⟨?_, hs.2⟩
            unfold owd tw
            rw [if_pos g2, if_pos ⟨ht, g4⟩]
          · rw [lcmp_eq] at g4
            exact text g2 t hs.2 (fun _ => g4)
      · refine wp_ret ⟨?_, fr_rfl⟩
        unfold owd
        rw [if_neg g2]
    · have hk := hAM.2 (m + 1) (by omega) (by omega)
      have hu := (hA.2 (m + 1) (by omega) (by omega)).2.2
      have g0 : (0 : Int) ≤ ((m + 1 : Nat) : Int) ∧ ((m + 1 : Nat) : Int) < 201 := by omega
      have ek : kwA A now r (m + 1) = if aR A (m + 1) = r ∧ (aU A (m + 1) = 0 ∨ (now : Int) < aU A (m + 1)) then aW A (m + 1) else kwA A now r m := rfl
      have e52 : ∀ z, z = kwA A now r (m + 1) → wp (F_M_worthOf_52 k r z ((m + 1 : Nat) : Int) s) (fun z s_1 => z = owd d A day now r ∧ fr 28 28 s s_1) := by
        intro z hz
        unfold F_M_worthOf_52
        rw [lt_eq, iadd_ok (by omega)]
        exact ih _ ⟨m + 1, by omega, hz, by simp, rfl⟩ (by dsimp only; omega)
      have e45 : aR A (m + 1) = r ∧ (aU A (m + 1) = 0 ∨ (now : Int) < aU A (m + 1)) → wp (F_M_worthOf_45 k r ((m + 1 : Nat) : Int) s) (fun z s_1 => z = owd d A day now r ∧ fr 28 28 s s_1) := by
        intro hh
        unfold F_M_worthOf_45
        rw [gd_pos g0, lt_eq, Int.toNat_natCast, hk.2.1]
        exact e52 _ (by rw [ek, if_pos hh])
      rw [gd_pos g0, Int.toNat_natCast, hk.1]
      refine wp_if (fun g1 => ?_) (fun g1 => ?_)
      · rw [gd_pos g0, hk.2.2]
        refine wp_if (fun g2 => e45 ⟨g1, Or.inl g2⟩) (fun g2 => ?_)
        rw [gd_pos g0, M_now hAM.1 h2 hnow, cl2_some]
        refine wp_if (fun g3 => ?_) (fun g3 => e45 ⟨g1, Or.inr (by omega)⟩)
        exact e52 _ (by rw [ek, if_neg (fun z => z.2.elim g2 (by omega))])
      · exact e52 _ (by rw [ek, if_neg (fun z => g1 z.1)])
  · exact ⟨0, by omega, rfl, rfl, rfl⟩
  · rw [FU_eq]
    show (300 - (1 : Int)).toNat < 20000
    omega
/-- the worths with one road's changed -/
def owc (ow : Nat → Int) (c w : Int) (r : Nat) : Int := if (r : Int) = c then w else ow r
theorem owc_ok {d : ND} {ow : Nat → Int} (h : owOk d ow) {c w : Int} (hw : -1 ≤ w ∧ w ≤ 100000) : owOk d (owc ow c w) := by
  intro r hr
  have := h r hr
  unfold owc
  split <;> omega
theorem owc_none {ow : Nat → Int} {w : Int} : owc ow (-1) w = ow := by
  funext r
  unfold owc
  rw [if_neg (by omega)]
/-- the gains on the first r roads -/
def gpr (d : ND) (ow : Nat → Int) (r a c : Nat) : Int := if rdO d a c r = -1 then 0 else gnd d ow (rdO d a c r).toNat
theorem gpr_succ (d : ND) (ow : Nat → Int) (r a c : Nat) : gpr d ow (r + 1) a c = if (fs d r = a ∧ sn d r = c) ∨ (fs d r = c ∧ sn d r = a) then gnd d ow r else gpr d ow r a c := by
  have e : rdO d a c (r + 1) = if (fs d r = a ∧ sn d r = c) ∨ (fs d r = c ∧ sn d r = a) then (r : Int) else rdO d a c r := rfl
  unfold gpr
  rw [e]
  by_cases h : (fs d r = a ∧ sn d r = c) ∨ (fs d r = c ∧ sn d r = a)
  · rw [if_pos h, if_pos h, if_neg (by omega)]
    rfl
  · rw [if_neg h, if_neg h]
def ViewM (t : Hp) (d : ND) (ow : Nat → Int) : Prop := (∀ r, r < dR d → t 29 r = (if ow r = -1 then 0 else 1) ∧ t 30 r = mkd d ow r) ∧ ∀ a c, a < 12 → c < 12 → t 31 (12 * a + c) = gpd d ow a c
theorem M_gainOf {t : Hp} {b : Nat} {d : ND} {ow : Nat → Int} (hd : NDok d) (hN : NetM t b d) (ho : owOk d ow) {r : Nat} (hr : r < dR d) (h1 : t 29 r = (if ow r = -1 then 0 else 1)) (h2 : t 30 r = mkd d ow r) : F_M_gainOf r t = some (gnd d ow r, t) := by
  have hR := hd.2.1
  have hp := hd.2.2.1 r hr
  have a1 := hd.2.2.2.1 _ hp.1
  have a2 := hd.2.2.2.1 _ hp.2.1
  have hm := mkd_rng hd ho hr
  have g30 : (0 : Int) ≤ (r : Int) ∧ (r : Int) < 30 := by omega
  unfold F_M_gainOf F_M_gainOf_44 F_M_gainOf_45
  rw [gd_pos g30, M_first hd hN hr, cl2_some, M_aloneOf hd hN hp.1, cl2_some, M_second hd hN hr, cl2_some, M_aloneOf hd hN hp.2.1, cl2_some, lt_eq, gd_pos g30, Int.toNat_natCast, h1, h2]
  simp (disch := omega) only [isub_ok]
  unfold gnd
  by_cases c : ow r = -1
  · simp [c]
  · rw [if_neg c, if_neg (by decide), if_neg c]
    split
    · congr 2
      omega
    · congr 2
      omega
theorem M_lays {τ : Hp} {b : Nat} {d : ND} {A : AD} (hd : NDok d) (hN : NetM τ b d) (hc : CodeM τ b d) (hA : ADok A) (hAM : ActsM τ A) {kn : Int} {now day : Nat} (h2 : τ 0 44 = kn) (hnow : (now : Int) = if kn = -1 then (aN A : Int) else kn) (hle : now ≤ aN A) (hday : τ 0 42 = day) (hd1 : day < 1000)
    {c w : Int} (hw : -1 ≤ w ∧ w ≤ 100000) : wp (F_M_lays c w τ) (fun _ s => ViewM s d (owc (owd d A day now) c w) ∧ fr 28 31 τ s) := by
  have hb := hN.1
  have hR := hd.2.1
  have hok := owc_ok (owd_ok (d := d) (day := day) hA hle) (c := c) hw
  generalize ho : owc (owd d A day now) c w = ow at hok ⊢
  have main : ∀ s, fr 28 31 τ s → (∀ i, i < 144 → s 31 i = 0) → wp (F_M_lays_24 c w FU (0, s)) (fun _ s => ViewM s d ow ∧ fr 28 31 τ s) := by
    intro s hs hz
    unfold F_M_lays_24
    refine wp_loop (fun a : Int × Hp => ∃ r : Nat, r ≤ dR d ∧ a.1 = (r : Int) ∧ fr 28 31 τ a.2 ∧ (∀ r', r' < r → a.2 29 r' = (if ow r' = -1 then 0 else 1) ∧ a.2 30 r' = mkd d ow r') ∧ ∀ x y, x < 12 → y < 12 → a.2 31 (12 * x + y) = gpr d ow r x y) (fun a => (300 - a.1).toNat) ?_ FU _ ?_ ?_
    · intro a k hp ih
      obtain ⟨x, t⟩ := a
      obtain ⟨r, hr, e0, hf, hv, hg⟩ := hp
      dsimp only at e0 hf hv hg ih ⊢
      subst e0
      have hNt : NetM t b d := hN.congr (by rw [hf 0 (by omega)]) (fun q a1 a2 => hf q (by omega))
      unfold F_M_lays_24_b
      rw [hNt.2.1, gd_pos (by omega), Int.toNat_natCast, hNt.2.2.2.1]
      refine wp_if (fun g => ?_) (fun g => ?_)
      · have er : r = dR d := by omega
        subst er
        exact wp_ret ⟨⟨hv, fun x y hx hy => hg x y hx hy⟩, hf⟩
      · have hrR : r < dR d := by omega
        have hpr := hd.2.2.1 r hrR
        have hW := hd.1
        have t1 := hd.2.2.2.2.1 (fs d r) (sn d r)
        have t2 := hd.2.2.2.2.1 (sn d r) (fs d r)
        have g30 : (0 : Int) ≤ (r : Int) ∧ (r : Int) < 30 := by omega
        have low := hok r hrR
        have fin : ∀ u v, v = ow r → fr 28 28 t u → wp (F_M_lays_51 k c w r v u) (fun _ s => ViewM s d ow ∧ fr 28 31 τ s) := by
          intro u v hv9 hu
          have hfu : fr 28 31 τ u := fr_trans hf (fr_up hu (by omega) (by omega))
          have last : ∀ o : Int, o = (if ow r = -1 then 0 else 1) → wp (F_M_lays_69 k c w r v o r u) (fun _ s => ViewM s d ow ∧ fr 28 31 τ s) := by
            intro o ho9
            unfold F_M_lays_69
            have net : ∀ s', fr 28 31 τ s' → NetM s' b d := fun s' h' => hN.congr (by rw [h' 0 (by omega)]) (fun q a1 a2 => h' q (by omega))
            have f1 : fr 28 31 τ (hset u 29 r o) := fr_set hfu (by omega)
            have n1 := net _ f1
            rw [gd_pos g30, lt_eq, Int.toNat_natCast, z1_eq (by rw [ho9]; split <;> simp), M_first hd n1 hrR, cl2_some, M_second hd n1 hrR, cl2_some, M_second hd n1 hrR, cl2_some, M_first hd n1 hrR, cl2_some, n1.2.1, ix144 hb (by omega) (by omega), ix144 hb (by omega) (by omega), gd_pos (by omega), gd_pos (by omega), gd_pos g30, Int.toNat_natCast, Int.toNat_natCast, n1.2.2.2.2.2.2.2.2 _ _ (by omega) (by omega), n1.2.2.2.2.2.2.2.2 _ _ (by omega) (by omega), lt_eq]
            have em : iadd (iadd v (ta d (fs d r) (sn d r))) (ta d (sn d r) (fs d r)) = mkd d ow r := by
              simp (disch := omega) only [iadd_ok]
              rw [hv9]
              rfl
            rw [em]
            have f2 : fr 28 31 τ (hset (hset u 29 r o) 30 r (mkd d ow r)) := fr_set f1 (by omega)
            generalize hq2 : hset (hset u 29 r o) 30 r (mkd d ow r) = u2 at f2 ⊢
            have n2 := net _ f2
            have x29 : u2 29 r = (if ow r = -1 then 0 else 1) := by rw [← hq2, hset_obj _ _ _ _ (by omega), hset_same, ho9]
            have x30 : u2 30 r = mkd d ow r := by rw [← hq2, hset_same]
            rw [M_first hd n2 hrR, cl2_some, M_second hd n2 hrR, cl2_some, M_gainOf hd n2 hok hrR x29 x30, cl2_some, ix12 (by omega) (by omega), gd_pos (by omega), Int.toNat_natCast, lt_eq]
            have f3 : fr 28 31 τ (hset u2 31 (12 * fs d r + sn d r) (gnd d ow r)) := fr_set f2 (by omega)
            generalize hq3 : hset u2 31 (12 * fs d r + sn d r) (gnd d ow r) = u3 at f3 ⊢
            have n3 := net _ f3
            have y29 : u3 29 r = (if ow r = -1 then 0 else 1) := by rw [← hq3, hset_obj _ _ _ _ (by omega)]; exact x29
            have y30 : u3 30 r = mkd d ow r := by rw [← hq3, hset_obj _ _ _ _ (by omega)]; exact x30
            rw [M_second hd n3 hrR, cl2_some, M_first hd n3 hrR, cl2_some, M_gainOf hd n3 hok hrR y29 y30, cl2_some, ix12 (by omega) (by omega), gd_pos (by omega), Int.toNat_natCast, lt_eq, lt_eq, iadd_ok (by omega)]
            refine ih _ ⟨r + 1, by omega, by simp, fr_set f3 (by omega), fun r' h' => ?_, fun x y hx hy => ?_⟩ (by dsimp only; omega)
            · show hset u3 31 (12 * sn d r + fs d r) (gnd d ow r) 29 r' = _ ∧ hset u3 31 (12 * sn d r + fs d r) (gnd d ow r) 30 r' = _
              rw [hset_obj _ _ _ _ (by omega), hset_obj _ _ _ _ (by omega), ← hq3, hset_obj _ _ _ _ (by omega), hset_obj _ _ _ _ (by omega), ← hq2]
              by_cases e : r' = r
              · subst e
                rw [hset_obj _ _ _ _ (by omega), hset_same, hset_same, ho9]
                exact ⟨rfl, rfl⟩
              · have := hv r' (by omega)
                rw [← hu 29 (by omega), ← hu 30 (by omega)] at this
                simp [hset_get, e, this]
            · show hset u3 31 (12 * sn d r + fs d r) (gnd d ow r) 31 (12 * x + y) = _
              rw [gpr_succ, hset_get, ← hq3, hset_get]
              have h31 : u2 31 (12 * x + y) = gpr d ow r x y := by
                rw [← hq2, hset_obj _ _ _ _ (by omega), hset_obj _ _ _ _ (by omega), hu 31 (by omega)]
                exact hg x y hx hy
              rw [h31]
              by_cases p1 : sn d r = x ∧ fs d r = y
              · rw [if_pos ⟨rfl, by omega⟩, if_pos (Or.inr ⟨p1.2, p1.1⟩)]
              · rw [if_neg (fun z => p1 (by omega))]
                by_cases p2 : fs d r = x ∧ sn d r = y
                · rw [if_pos ⟨rfl, by omega⟩, if_pos (Or.inl p2)]
                · rw [if_neg (fun z => p2 (by omega)), if_neg (fun z => z.elim p2 (fun q => p1 ⟨q.2, q.1⟩))]
          unfold F_M_lays_51
          refine wp_if (fun g2 => last 0 (by rw [← hv9, if_pos g2])) (fun g2 => last 1 (by rw [← hv9, if_neg g2]))
        refine wp_if (fun g2 => ?_) (fun g2 => ?_)
        · refine fin t w ?_ fr_rfl
          rw [← ho]
          unfold owc
          rw [if_pos g2]
        · have hcT : CodeM t b d := hc.congr (fun q a1 a2 => hf q (by omega))
          have hAT : ActsM t A := ⟨by rw [hf 0 (by omega)]; exact hAM.1, fun k9 a1 a2 => by rw [hf 25 (by omega), hf 26 (by omega), hf 27 (by omega)]; exact hAM.2 k9 a1 a2⟩
          refine wp_cl (M_worthOf hd hNt hcT hA hAT (by rw [hf 0 (by omega)]; exact h2) hnow hle (by rw [hf 0 (by omega)]; exact hday) hd1 hrR) (fun z u hz => ?_)
          refine fin u z ?_ hz.2
          rw [hz.1, ← ho]
          unfold owc
          rw [if_neg g2]
    · refine ⟨0, by omega, rfl, hs, fun r' h' => absurd h' (by omega), fun x y hx hy => ?_⟩
      show s 31 (12 * x + y) = _
      rw [hz _ (by omega)]
      rfl
    · rw [FU_eq]
      show (300 - (0 : Int)).toNat < 20000
      omega
  unfold F_M_lays F_M_lays_2
  refine wp_loop (fun a : Int × Hp => ∃ m : Nat, m ≤ 144 ∧ a.1 = (m : Int) ∧ fr 28 31 τ a.2 ∧ ∀ i, i < m → a.2 31 i = 0) (fun a => (300 - a.1).toNat) ?_ FU _ ?_ ?_
  · intro a k hp ih
    obtain ⟨x, t⟩ := a
    obtain ⟨m, hm, e0, hf, hz⟩ := hp
    dsimp only at e0 hf hz ih ⊢
    subst e0
    unfold F_M_lays_2_b
    refine wp_if (fun g => main t hf (fun i hi => hz i (by omega))) (fun g => ?_)
    rw [gd_pos (by omega), lt_eq, lt_eq, Int.toNat_natCast, iadd_ok (by omega)]
    refine ih _ ⟨m + 1, by omega, by simp, fr_set hf (by omega), fun i hi => ?_⟩ (by dsimp only; omega)
    show hset t 31 m 0 31 i = 0
    rw [hset_get]
    split
    · rfl
    · exact hz i (by omega)
  · exact ⟨0, by omega, rfl, fr_rfl, fun i hi => absurd hi (by omega)⟩
  · rw [FU_eq]
    show (300 - (0 : Int)).toNat < 20000
    omega
