/-! ACTS and what is OPEN and MADE: the class's view, the check's lays -/
abbrev AD : Type := Nat × (Nat → Int) × (Nat → Int) × (Nat → Int)
def aN (A : AD) : Nat := A.1
def aR (A : AD) : Nat → Int := A.2.1
def aW (A : AD) : Nat → Int := A.2.2.1
def aU (A : AD) : Nat → Int := A.2.2.2
def ADok (A : AD) : Prop := aN A ≤ 200 ∧ ∀ k, 1 ≤ k → k ≤ aN A → -2 ≤ aW A k ∧ aW A k ≤ 100000 ∧ 0 ≤ aU A k ∧ aU A k ≤ 200
def ActsC (σ : Hp) (A : AD) : Prop := σ 46 3 = aN A ∧ ∀ k, k < aN A → σ 47 k = aR A (k + 1) ∧ σ 48 k = aW A (k + 1) ∧ σ 49 k = aU A (k + 1)
def ActsM (τ : Hp) (A : AD) : Prop := τ 0 43 = aN A ∧ ∀ k, 1 ≤ k → k ≤ aN A → τ 25 k = aR A k ∧ τ 26 k = aW A k ∧ τ 27 k = aU A k
/-- the worth that the last act up to k tells of a road, as known at now; -2 without -/
def kwA (A : AD) (now : Nat) (r : Int) : Nat → Int
  | 0 => -2
  | k + 1 => if aR A (k + 1) = r ∧ (aU A (k + 1) = 0 ∨ (now : Int) < aU A (k + 1)) then aW A (k + 1) else kwA A now r k
def owd (d : ND) (A : AD) (day now : Nat) (r : Nat) : Int := if kwA A now r now = -2 then tw d r day else kwA A now r now
theorem kwA_rng {A : AD} (hA : ADok A) (now : Nat) (r : Int) : ∀ k, k ≤ aN A → -2 ≤ kwA A now r k ∧ kwA A now r k ≤ 100000
  | 0, _ => by
    show (-2 : Int) ≤ -2 ∧ (-2 : Int) ≤ 100000
    omega
  | k + 1, h => by
    have := hA.2 (k + 1) (by omega) h
    have h2 := kwA_rng hA now r k (by omega)
    have e : kwA A now r (k + 1) = if aR A (k + 1) = r ∧ (aU A (k + 1) = 0 ∨ (now : Int) < aU A (k + 1)) then aW A (k + 1) else kwA A now r k := rfl
    rw [e]
    split <;> omega
theorem clampW_rng (v : Int) : 0 ≤ clampW v ∧ clampW v ≤ 100000 := by
  unfold clampW
  split
  · omega
  · split <;> omega
theorem tw_rng (d : ND) (r day : Nat) : -1 ≤ tw d r day ∧ tw d r day ≤ 100000 := by
  unfold tw
  have := clampW_rng (sv d r day)
  split <;> omega
theorem owd_ok {d : ND} {A : AD} (hA : ADok A) {day now : Nat} (hn : now ≤ aN A) : owOk d (owd d A day now) := by
  intro r hr
  have := kwA_rng hA now r now hn
  have := tw_rng d r day
  unfold owd
  split <;> omega
theorem C_kw {σ : Hp} {A : AD} (hA : ADok A) (h : ActsC σ A) (now : Nat) (r : Int) : ∀ (k f : Nat), k < f → k ≤ aN A → F_Acts_knownWorth_11 r now f ((k : Int) - 1, σ) = some (kwA A now r k, σ)
  | _, 0, h, _ => absurd h (by omega)
  | 0, f + 1, _, _ => by
    rw [show F_Acts_knownWorth_11 r now (f + 1) (((0 : Nat) : Int) - 1, σ) = F_Acts_knownWorth_11_b (F_Acts_knownWorth_11 r now f) r now (((0 : Nat) : Int) - 1) σ from rfl]
    unfold F_Acts_knownWorth_11_b
    rw [if_pos (by omega)]
    rfl
  | k + 1, f + 1, h1, h2 => by
    have ih := C_kw hA h now r k f (by omega) (by omega)
    show F_Acts_knownWorth_11_b (F_Acts_knownWorth_11 r now f) r now _ σ = _
    have hk := h.2 k (by omega)
    have hN := hA.1
    have hu := (hA.2 (k + 1) (by omega) h2).2.2
    have e : (((k + 1 : Nat) : Int) - 1) = (k : Int) := by omega
    have e9 : iadd (k : Int) (-1) = (k : Int) - 1 := by rw [iadd_ok (by omega)]; rfl
    have ek : kwA A now r (k + 1) = if aR A (k + 1) = r ∧ (aU A (k + 1) = 0 ∨ (now : Int) < aU A (k + 1)) then aW A (k + 1) else kwA A now r k := rfl
    rw [e, ek]
    unfold F_Acts_knownWorth_11_b F_Acts_knownWorth_38 F_Acts_knownWorth_39 F_Acts_knownWorth_63
    rw [if_neg (by omega)]
    simp (disch := omega) only [gd_pos, Int.toNat_natCast, hk.1, hk.2.1, hk.2.2, lt_eq, e9, ih]
    by_cases c1 : aU A (k + 1) = 0
    · by_cases c2 : aR A (k + 1) = r <;> simp [c1, c2]
    · by_cases c2 : (now : Int) < aU A (k + 1)
      · by_cases c3 : aR A (k + 1) = r <;> simp [c1, c2, c3]
      · by_cases c3 : aR A (k + 1) = r <;> simp [c1, c2, c3]
theorem C_knownWorth {σ : Hp} {A : AD} (hA : ADok A) (h : ActsC σ A) {now : Nat} (hn : now ≤ aN A) (r : Int) : F_Acts_knownWorth r now σ = some (kwA A now r now, σ) := by
  have hN := hA.1
  unfold F_Acts_knownWorth
  have e : isub (imin (now : Int) (σ 46 3)) 1 = (now : Int) - 1 := by
    rw [h.1]
    unfold imin
    rw [if_neg (by omega), isub_ok (by omega)]
  rw [lt_eq, e]
  exact C_kw hA h now r now FU (by rw [FU_eq]; omega) hn
/-! a text's sums and tests, reckoned -/
def evF (n : Nat) (s s' : Hp) : Prop := (∀ q, q ≠ n → q ≠ n + 37 → s' q = s q) ∧ ∀ i, i ≠ 13 → s' n i = s n i
theorem evF_rfl {n : Nat} {s : Hp} : evF n s s := ⟨fun _ _ _ => rfl, fun _ _ => rfl⟩
theorem evF_trans {n : Nat} {s t u : Hp} (h1 : evF n s t) (h2 : evF n t u) : evF n s u := ⟨fun q a b => by rw [h2.1 q a b, h1.1 q a b], fun i a => by rw [h2.2 i a, h1.2 i a]⟩
def CodeC (σ : Hp) (n : Nat) (d : ND) : Prop := ∀ r, r < dR d → (ts d r = true ↔ σ (n + 7) r < σ (n + 8) r) ∧ ∀ (day : Nat) (s : Hp), day < 1000 → (∀ q, n + 1 ≤ q → q ≤ n + 36 → s q = σ q) →
  wp (F_Net_reckoned n (σ (n + 6) r) (σ (n + 7) r) day s) (fun z s' => z = sv d r day ∧ evF n s s') ∧ (ts d r = true → wp (F_Net_reckoned n (σ (n + 7) r) (σ (n + 8) r) day s) (fun z s' => z = tv d r day ∧ evF n s s'))
/-- the bank's cells that reckoning reads -/
def bkM (s τ : Hp) (b : Nat) : Prop := (∀ k, k < 900 → s 17 (900 * b + k) = τ 17 (900 * b + k) ∧ s 18 (900 * b + k) = τ 18 (900 * b + k)) ∧ ∀ w, w < 12 → s 7 (12 * b + w) = τ 7 (12 * b + w)
theorem bkM_of {s τ : Hp} {b : Nat} (h : ∀ q, 7 ≤ q → q ≤ 18 → s q = τ q) : bkM s τ b := ⟨fun k _ => by rw [h 17 (by omega) (by omega), h 18 (by omega) (by omega)]; exact ⟨rfl, rfl⟩, fun w _ => by rw [h 7 (by omega) (by omega)]⟩
theorem bkM_trans {s t τ : Hp} {b : Nat} (h : bkM t s b) (h2 : bkM s τ b) : bkM t τ b := ⟨fun k hk => by rw [(h.1 k hk).1, (h.1 k hk).2]; exact h2.1 k hk, fun w hw => by rw [h.2 w hw]; exact h2.2 w hw⟩
def CodeM (τ : Hp) (b : Nat) (d : ND) : Prop := ∀ r, r < dR d → (ts d r = true ↔ τ 12 (30 * b + r) < τ 13 (30 * b + r)) ∧ ∀ (day : Nat) (s : Hp), day < 1000 → s 0 12 = b → s 0 42 = day → bkM s τ b →
  wp (F_M_works (τ 10 (30 * b + r)) (τ 11 (30 * b + r)) s) (fun z s' => z = sv d r day ∧ fr 28 28 s s') ∧ (ts d r = true → wp (F_M_works (τ 12 (30 * b + r)) (τ 13 (30 * b + r)) s) (fun z s' => z = tv d r day ∧ fr 28 28 s s'))
def svOk (d : ND) : Prop := ∀ r day, r < dR d → day < 1000 → -1000000000 ≤ sv d r day ∧ sv d r day ≤ 1000000000
theorem CodeC.congr {σ s : Hp} {n : Nat} {d : ND} (h : CodeC σ n d) (h2 : ∀ q, n < q → q ≤ n + 36 → s q = σ q) : CodeC s n d := by
  intro r hr
  have h3 := h r hr
  rw [h2 _ (by omega) (by omega), h2 _ (by omega) (by omega), h2 _ (by omega) (by omega)]
  exact ⟨h3.1, fun day t hd ht => h3.2 day t hd (fun q a b => by rw [ht q a b, h2 q (by omega) b])⟩
theorem CodeM.congr {τ t : Hp} {b : Nat} {d : ND} (h : CodeM τ b d) (h2 : ∀ q, 7 ≤ q → q ≤ 18 → t q = τ q) : CodeM t b d := by
  intro r hr
  have h3 := h r hr
  rw [h2 _ (by omega) (by omega), h2 _ (by omega) (by omega), h2 _ (by omega) (by omega), h2 _ (by omega) (by omega)]
  exact ⟨h3.1, fun day t1 hd e1 e2 ht => h3.2 day t1 hd e1 e2 (bkM_trans ht (bkM_of h2))⟩
theorem CodeM.bank {τ t : Hp} {b : Nat} {d : ND} (h : CodeM τ b d) (hR : dR d ≤ 30) (h2 : ∀ r, r < 30 → t 10 (30 * b + r) = τ 10 (30 * b + r) ∧ t 11 (30 * b + r) = τ 11 (30 * b + r) ∧ t 12 (30 * b + r) = τ 12 (30 * b + r) ∧ t 13 (30 * b + r) = τ 13 (30 * b + r)) (h4 : bkM t τ b) : CodeM t b d := by
  intro r hr
  have h3 := h r hr
  obtain ⟨e1, e2, e3, e4⟩ := h2 r (by omega)
  rw [e1, e2, e3, e4]
  exact ⟨h3.1, fun day t1 hd e1 e2 ht => h3.2 day t1 hd e1 e2 (bkM_trans ht h4)⟩
theorem C_worthOn {σ : Hp} {n : Nat} {d : ND} (hd : NDok d) (hn : isNet n) (hc : CodeC σ n d) {r day : Nat} (hr : r < dR d) (hday : day < 1000) {s : Hp} (hs : ∀ q, n + 1 ≤ q → q ≤ n + 36 → s q = σ q) :
    wp (F_Net_worthOn n r day s) (fun z s' => z = tw d r day ∧ evF n s s') := by
  have hR := hd.2.1
  have hr30 : (0 : Int) ≤ (r : Int) ∧ (r : Int) < 30 := by omega
  obtain ⟨h1, h2⟩ := hc r hr
  have sum : ∀ t, evF n s t → (ts d r = true → tv d r day ≠ 0) → wp (F_Net_worthOn_47 n r day t) (fun z s' => z = tw d r day ∧ evF n s s') := by
    intro t ht hz
    have e : ∀ q, n + 1 ≤ q → q ≤ n + 36 → t q = σ q := fun q a b => by rw [ht.1 q (by omega) (by omega), hs q a b]
    unfold F_Net_worthOn_47
    rw [gd_pos hr30, gd_pos hr30, Int.toNat_natCast, e _ (by omega) (by omega), e _ (by omega) (by omega)]
    refine wp_cl (h2 day t hday e).1 (fun z s' hz' => ?_)
    refine wp_ret ⟨?_, evF_trans ht hz'.2⟩
    rw [hz'.1]
    unfold tw
    rw [if_neg (fun q => hz q.1 q.2)]
    unfold clampW imin imax
    split <;> split <;> omega
  unfold F_Net_worthOn
  rw [gd_pos hn, gd_pos hr30, gd_pos hr30, Int.toNat_natCast, hs _ (by omega) (by omega), hs _ (by omega) (by omega)]
  refine wp_if (fun c => ?_) (fun c => ?_)
  · unfold F_Net_worthOn_20
    rw [if_pos rfl]
    exact sum s evF_rfl (fun q => absurd (h1.mp q) (by omega))
  · have ht : ts d r = true := h1.mpr (by omega)
    unfold F_Net_worthOn_20
    rw [if_neg (by decide), gd_pos hr30, gd_pos hr30, Int.toNat_natCast, hs _ (by omega) (by omega), hs _ (by omega) (by omega)]
    refine wp_cl ((h2 day s hday hs).2 ht) (fun z s' hz => ?_)
    rw [hz.1]
    refine wp_if (fun c2 => ?_) (fun c2 => ?_)
    · refine wp_ret ⟨?_, hz.2⟩
      unfold tw
      rw [if_pos ⟨ht, c2⟩]
    · exact sum s' hz.2 (fun _ => c2)
/-! the class's view -/
def ViewC (s : Hp) (n : Nat) (d : ND) (ow : Nat → Int) : Prop := s 88 2 = n ∧ ∀ r, r < dR d → s 89 r = (if ow r = -1 then 0 else 1) ∧ s 90 r = (if ow r = -1 then 0 else mkd d ow r)
def lookF (n : Nat) (σ s : Hp) : Prop := (∀ q, q ≠ n → q ≠ n + 37 → q ≠ 88 → q ≠ 89 → q ≠ 90 → s q = σ q) ∧ (∀ i, i ≠ 13 → s n i = σ n i)
theorem lookF_set {n : Nat} (hn : isNet n) {σ s : Hp} (h : lookF n σ s) {q i : Nat} {v : Int} (hq : 88 ≤ q ∧ q ≤ 90) : lookF n σ (hset s q i v) :=
  ⟨fun q' a1 a2 a3 a4 a5 => by rw [hset_obj _ _ _ _ (by omega)]; exact h.1 q' a1 a2 a3 a4 a5, fun i' a => by rw [hset_obj _ _ _ _ (by omega)]; exact h.2 i' a⟩
theorem C_look {σ : Hp} {n : Nat} {d : ND} {A : AD} (hd : NDok d) (hN : NetC σ n d) (hc : CodeC σ n d) (hA : ADok A) (hAC : ActsC σ A) {now day : Nat} (hnow : now ≤ aN A) (hday : day < 1000) :
    wp (F_View_look n now day σ) (fun _ s => ViewC s n d (owd d A day now) ∧ lookF n σ s) := by
  have hn := hN.1
  have hR := hd.2.1
  have hok := owd_ok (d := d) (day := day) hA hnow
  unfold F_View_look
  rw [gd_pos hn, lt_eq]
  unfold F_View_look_8
  refine wp_loop (fun a : Int × Hp => ∃ r : Nat, r ≤ dR d ∧ a.1 = (r : Int) ∧ a.2 88 2 = (n : Int) ∧ lookF n σ a.2 ∧ ∀ r', r' < r → a.2 89 r' = (if owd d A day now r' = -1 then 0 else 1) ∧ a.2 90 r' = (if owd d A day now r' = -1 then 0 else mkd d (owd d A day now) r')) (fun a => (30 - a.1).toNat) ?_ FU _ ?_ ?_
  · intro a k hp ih
    obtain ⟨x, s⟩ := a
    obtain ⟨r, hr, e0, e1, hl, hv⟩ := hp
    dsimp only at e0 e1 hl hv ih ⊢
    subst e0
    have hNs : NetC s n d := hN.congr hl.2 (fun q a b => hl.1 q (by omega) (by omega) (by omega) (by omega) (by omega))
    unfold F_View_look_8_b
    rw [lt_eq, e1, Int.toNat_natCast, gd_pos hn, hNs.2.2.1]
    refine wp_if (fun c => ?_) (fun c => ?_)
    · refine wp_ret ⟨⟨e1, fun r' hr' => hv r' (by omega)⟩, hl⟩
    · have hrR : r < dR d := by omega
      have hAs : ActsC s A := by
        refine ⟨by rw [hl.1 46 (by omega) (by omega) (by omega) (by omega) (by omega)]; exact hAC.1, fun k hk => ?_⟩
        rw [hl.1 47 (by omega) (by omega) (by omega) (by omega) (by omega), hl.1 48 (by omega) (by omega) (by omega) (by omega) (by omega), hl.1 49 (by omega) (by omega) (by omega) (by omega) (by omega)]
        exact hAC.2 k hk
      have fin : ∀ t w, w = owd d A day now r → evF n s t → wp (F_View_look_49 k n now day r w t) (fun _ s => ViewC s n d (owd d A day now) ∧ lookF n σ s) := by
        intro t w hw ht
        have hl2 : lookF n σ t := ⟨fun q a1 a2 a3 a4 a5 => by rw [ht.1 q a1 a2]; exact hl.1 q a1 a2 a3 a4 a5, fun i a => by rw [ht.2 i a]; exact hl.2 i a⟩
        have e1t : t 88 2 = n := by rw [ht.1 88 (by omega) (by omega)]; exact e1
        have hvt : ∀ r', r' < r → t 89 r' = (if owd d A day now r' = -1 then 0 else 1) ∧ t 90 r' = (if owd d A day now r' = -1 then 0 else mkd d (owd d A day now) r') := fun r' h' => by
          rw [ht.1 89 (by omega) (by omega), ht.1 90 (by omega) (by omega)]
          exact hv r' h'
        have hrow := hok r hrR
        have hr30 : (0 : Int) ≤ (r : Int) ∧ (r : Int) < 30 := by omega
        have next : ∀ (o m : Int), o = (if w = -1 then 0 else 1) → m = (if w = -1 then 0 else mkd d (owd d A day now) r) → wp (F_View_look_94 k n now day r m r (hset t 89 r o)) (fun _ s => ViewC s n d (owd d A day now) ∧ lookF n σ s) := by
          intro o m ho hm
          unfold F_View_look_94
          rw [gd_pos hr30, lt_eq, lt_eq, Int.toNat_natCast, iadd_ok (by omega)]
          refine ih _ ⟨r + 1, by omega, by simp, ?_, lookF_set hn (lookF_set hn hl2 (by omega)) (by omega), fun r' h' => ?_⟩ (by dsimp only; omega)
          · show hset (hset t 89 r o) 90 r m 88 2 = n
            rw [hset_obj _ _ _ _ (by omega), hset_obj _ _ _ _ (by omega)]
            exact e1t
          · show hset (hset t 89 r o) 90 r m 89 r' = _ ∧ hset (hset t 89 r o) 90 r m 90 r' = _
            by_cases e : r' = r
            · subst e
              rw [hset_obj _ _ _ _ (by omega), hset_same, hset_same, ho, hm, hw]
              exact ⟨rfl, rfl⟩
            · have := hvt r' (by omega)
              simp [hset_get, e, this]
        unfold F_View_look_49 F_View_look_66
        have fin2 : ∀ o : Int, o = (if w = -1 then 0 else 1) → wp (gd (0 ≤ (r : Int) ∧ (r : Int) < (30 : Int)) <|
            lt (hset t 89 (r : Int).toNat (z1 o)) fun s5 =>
            (if w = (-1) then (
              F_View_look_94 k n now day r 0 r s5
            ) else (
              lt (s5 88 2).toNat fun q7 =>
              gd (isNet q7) <|
              cl2 (F_Net_madeWith q7 r w s5) fun v9 s10 =>
              F_View_look_94 k n now day r v9 r s10
            ))) (fun _ s => ViewC s n d (owd d A day now) ∧ lookF n σ s) := by
          intro o ho
          rw [gd_pos hr30, lt_eq, Int.toNat_natCast, z1_eq (by rw [ho]; split <;> simp)]
          refine wp_if (fun c2 => ?_) (fun c2 => ?_)
          · exact next o 0 ho (by rw [if_pos c2])
          · have e88 : hset t 89 r o 88 2 = n := by rw [hset_obj _ _ _ _ (by omega)]; exact e1t
            have hNt : NetC (hset t 89 r o) n d := by
              refine hN.congr (fun i hi => ?_) (fun q a b => ?_)
              · rw [hset_obj _ _ _ _ (by omega)]; exact hl2.2 i hi
              · rw [hset_obj _ _ _ _ (by omega)]; exact hl2.1 q (by omega) (by omega) (by omega) (by omega) (by omega)
            rw [lt_eq, e88, Int.toNat_natCast, gd_pos hn, C_madeWith hd hNt hrR (by rw [hw]; exact hrow), cl2_some]
            refine next o _ ho ?_
            rw [if_neg c2, hw]
            rfl
        refine wp_if (fun c => ?_) (fun c => ?_)
        · exact fin2 0 (by rw [if_pos c])
        · exact fin2 1 (by rw [if_neg c])
      rw [C_knownWorth hA hAs hnow, cl2_some]
      refine wp_if (fun c2 => ?_) (fun c2 => ?_)
      · rw [lt_eq, e1, Int.toNat_natCast, gd_pos hn]
        refine wp_cl (C_worthOn hd hn hc hrR hday (fun q a b => hl.1 q (by omega) (by omega) (by omega) (by omega) (by omega))) (fun z t hz => ?_)
        refine fin t z ?_ hz.2
        rw [hz.1]
        unfold owd
        rw [if_pos c2]
      · refine fin s _ ?_ evF_rfl
        unfold owd
        rw [if_neg c2]
  · refine ⟨0, by omega, rfl, by show hset σ 88 2 (Int.ofNat n) 88 2 = _; rw [hset_same]; rfl, ?_, fun r' h' => absurd h' (by omega)⟩
    exact lookF_set hn ⟨fun _ _ _ _ _ _ => rfl, fun _ _ => rfl⟩ (by omega)
  · rw [FU_eq]
    show (30 - (0 : Int)).toNat < 20000
    omega
