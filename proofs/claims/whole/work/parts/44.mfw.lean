/-! the check's paths by program; its ends -/
def dgOK (w : Nat → Nat → Int) (k : Nat) : Prop := ∀ k', k' ≤ k → ∀ a, a < 24 → 0 ≤ FWn I2 w k' a a
theorem two_pow_24 {k : Nat} (h : k ≤ 24) : (0 : Int) ≤ 2 ^ k ∧ (2 : Int) ^ k ≤ 16777216 := by
  have h1 : (2 : Int) ^ k = ((2 ^ k : Nat) : Int) := by rw [Int.natCast_pow]; rfl
  have h2 : 2 ^ k ≤ 2 ^ 24 := Nat.pow_le_pow_right (by decide) h
  rw [h1]
  have h3 : (2 ^ 24 : Nat) = 16777216 := rfl
  rw [h3] at h2
  exact ⟨Int.natCast_nonneg _, Int.ofNat_le.mpr h2⟩
theorem M_fw {s : Hp} {w : Nat → Nat → Int} (hw0 : ∀ a, w a a = 0) (hwr : ∀ a b, -119998 ≤ w a b ∧ w a b ≤ I2 ∧ (w a b < I2 → w a b ≤ 119998)) (hM : ∀ f t, f < 24 → t < 24 → s 38 (24 * f + t) = w f t) :
    wp (F_M_ends_187 FU (0, s)) (fun z t => onlyF s t ∧ (dgOK w 24 → z = 1 ∧ ∀ f t', f < 24 → t' < 24 → t 38 (24 * f + t') = FWn I2 w 24 f t') ∧ (¬ dgOK w 24 → z = 0)) := by
  have hI := I2_v
  have ok : ∀ k, k ≤ 24 → dgOK w k → FWok I2 119998 24 (FWn I2 w k) k := fun k hk h => FW_all (by omega) (by decide) (by decide) (by decide) (fun a _ => hw0 a) (fun a b _ _ => (hwr a b).2.1) (fun a b _ _ => (hwr a b).2.2) h k (Nat.le_refl _) hk
  have lb : ∀ k, k ≤ 24 → ∀ a b, a < 24 → b < 24 → -2014000000000 ≤ FWn I2 w k a b := fun k hk a b ha hb => by
    have h1 := FW_lb (I := I2) (L := 119998) (n := 24) (w := w) (by decide) (fun a b _ _ => (hwr a b).1) k hk a b ha hb
    have h2 := two_pow_24 hk
    omega
  have unf : ∀ {α : Type} {body : (α → Option (Int × Hp)) → α → Option (Int × Hp)} (n : Nat) (a : α), loopF body (n + 1) a = body (loopF body n) a := fun _ _ => rfl
  unfold F_M_ends_187
  refine wp_loop (fun a : Int × Hp => ∃ k : Nat, k ≤ 24 ∧ a.1 = (k : Int) ∧ onlyF s a.2 ∧ (dgOK w k → ∀ f t, f < 24 → t < 24 → a.2 38 (24 * f + t) = FWn I2 w k f t) ∧ (¬ dgOK w k → ∃ x, x < 24 ∧ a.2 38 (24 * x + x) < 0)) (fun a => (300 - a.1).toNat) ?_ FU _ ?_ ?_
  · intro a k187 hp ih
    obtain ⟨x, t⟩ := a
    obtain ⟨k, hk, e0, hf, hY, hN⟩ := hp
    dsimp only at e0 hf hY hN ih ⊢
    subst e0
    unfold F_M_ends_187_b
    refine wp_if (fun c => ?_) (fun c => ?_)
    · have ek : k = 24 := by omega
      subst ek
      unfold F_M_ends_294
      refine wp_loop (fun a : Int × Hp => ∃ m : Nat, m ≤ 24 ∧ a.1 = (m : Int) ∧ a.2 = t ∧ ∀ x, x < m → 0 ≤ t 38 (24 * x + x)) (fun a => (300 - a.1).toNat) ?_ FU _ ?_ ?_
      · intro a k2 hp2 ih2
        obtain ⟨y, u⟩ := a
        obtain ⟨m, hm, e1, e2, hz⟩ := hp2
        dsimp only at e1 e2 ih2 ⊢
        subst e1 e2
        unfold F_M_ends_294_b
        refine wp_if (fun c2 => ?_) (fun c2 => ?_)
        · refine wp_ret ⟨hf, fun h => ⟨rfl, hY h⟩, fun h => ?_⟩
          obtain ⟨x, h1, h2⟩ := hN h
          have := hz x (by omega)
          omega
        · rw [imul_ok (by omega), gd_pos (by omega), show ((25 : Int) * (m : Int)).toNat = 24 * m + m by omega]
          refine wp_if (fun c3 => ?_) (fun c3 => ?_)
          · rw [lcmp_ge] at c3
            rw [lt_eq, iadd_ok (by omega)]
            refine ih2 _ ⟨m + 1, by omega, by simp, rfl, fun x hx => ?_⟩ (by dsimp only; omega)
            by_cases e : x = m
            · subst e; exact c3
            · exact hz x (by omega)
          · rw [lcmp_ge] at c3
            refine wp_ret ⟨hf, fun h => ?_, fun _ => rfl⟩
            have h1 := hY h m m (by omega) (by omega)
            have h2 := h 24 (Nat.le_refl _) m (by omega)
            omega
      · exact ⟨0, by omega, rfl, rfl, fun x hx => absurd hx (by omega)⟩
      · rw [FU_eq]
        show (300 - (0 : Int)).toNat < 20000
        omega
    · have hk24 : k < 24 := by omega
      -- the row and column of k stand still
      have still : dgOK w k → FWn I2 w k k k = 0 ∧ (∀ a, FWn I2 w (k + 1) a k = FWn I2 w k a k) ∧ ∀ b, FWn I2 w (k + 1) k b = FWn I2 w k k b := fun h => by
        have d0 : FWn I2 w k k k = 0 := (ok k hk h).1 k hk24
        refine ⟨d0, fun a => ?_, fun b => ?_⟩
        · rw [FWn_succ]
          unfold fwS
          rw [if_neg (fun z => by have := z.2.2; omega)]
        · rw [FWn_succ]
          unfold fwS
          rw [if_neg (fun z => by have := z.2.2; omega)]
      unfold F_M_ends_195
      refine wp_loop (fun a : Int × Int × Hp => ∃ u : Nat, u ≤ 24 ∧ a.1 = (k : Int) ∧ a.2.1 = (u : Int) ∧ onlyF s a.2.2 ∧ (dgOK w k → ∀ f t, f < 24 → t < 24 → a.2.2 38 (24 * f + t) = if f < u then FWn I2 w (k + 1) f t else FWn I2 w k f t) ∧ (¬ dgOK w k → ∃ x, x < 24 ∧ a.2.2 38 (24 * x + x) < 0)) (fun a => (300 - a.2.1).toNat) ?_ FU _ ?_ ?_
      · intro a k195 hp2 ih2
        obtain ⟨y1, y2, p⟩ := a
        obtain ⟨u, hu, e1, e2, hfp, hYp, hNp⟩ := hp2
        dsimp only at e1 e2 hfp hYp hNp ih2 ⊢
        subst e1 e2
        unfold F_M_ends_195_b
        refine wp_if (fun c2 => ?_) (fun c2 => ?_)
        · rw [lt_eq, iadd_ok (by omega)]
          refine ih _ ⟨k + 1, by omega, by simp, hfp, fun h f t hf9 ht9 => ?_, fun h => ?_⟩ (by dsimp only; omega)
          · show p 38 (24 * f + t) = _
            rw [hYp (fun k' hk' => h k' (by omega)) f t hf9 ht9, if_pos (by omega)]
          · by_cases h9 : dgOK w k
            · apply Classical.byContradiction
              intro hn
              apply h
              intro k' hk' a ha
              by_cases e : k' = k + 1
              · subst e
                have := hYp h9 a a ha ha
                rw [if_pos (by omega)] at this
                apply Decidable.byContradiction
                intro hneg
                exact hn ⟨a, ha, by show p 38 (24 * a + a) < 0; omega⟩
              · exact h9 k' (by omega) a ha
            · exact hNp h9
        · have hu24 : u < 24 := by omega
          unfold F_M_ends_203
          refine wp_loop (fun a : Int × Int × Int × Hp => ∃ v : Nat, v ≤ 24 ∧ a.1 = (k : Int) ∧ a.2.1 = (u : Int) ∧ a.2.2.1 = (v : Int) ∧ onlyF s a.2.2.2 ∧ (dgOK w k → ∀ f t, f < 24 → t < 24 → a.2.2.2 38 (24 * f + t) = if f < u ∨ (f = u ∧ t < v) then FWn I2 w (k + 1) f t else FWn I2 w k f t) ∧ (¬ dgOK w k → ∃ x, x < 24 ∧ a.2.2.2 38 (24 * x + x) < 0)) (fun a => (300 - a.2.2.1).toNat) ?_ FU _ ?_ ?_
          · intro a k203 hp3 ih3
            obtain ⟨z1, z2, z3, r⟩ := a
            obtain ⟨v, hv, e1, e2, e3, hfr, hYr, hNr⟩ := hp3
            dsimp only at e1 e2 e3 hfr hYr hNr ih3 ⊢
            subst e1 e2 e3
            unfold F_M_ends_203_b
            refine wp_if (fun c3 => ?_) (fun c3 => ?_)
            · rw [lt_eq, iadd_ok (by omega)]
              refine ih2 _ ⟨u + 1, by omega, rfl, by simp, hfr, fun h f t hf9 ht9 => ?_, hNr⟩ (by dsimp only; omega)
              show r 38 (24 * f + t) = _
              rw [hYr h f t hf9 ht9]
              by_cases e : f < u + 1
              · rw [if_pos e, if_pos (by omega)]
              · rw [if_neg e, if_neg (by omega)]
            · have hv24 : v < 24 := by omega
              have next : ∀ r2 : Hp, onlyF s r2 → (dgOK w k → ∀ f t, f < 24 → t < 24 → r2 38 (24 * f + t) = if f = u ∧ t = v then FWn I2 w (k + 1) u v else r 38 (24 * f + t)) → (¬ dgOK w k → ∃ x, x < 24 ∧ r2 38 (24 * x + x) < 0) → wp (F_M_ends_274 k203 k u v r2) (fun z t => onlyF s t ∧ (dgOK w 24 → z = 1 ∧ ∀ f t', f < 24 → t' < 24 → t 38 (24 * f + t') = FWn I2 w 24 f t') ∧ (¬ dgOK w 24 → z = 0)) := by
                intro r2 g1 g2 g3
                unfold F_M_ends_274
                rw [lt_eq, iadd_ok (by omega)]
                refine ih3 _ ⟨v + 1, by omega, rfl, rfl, by simp, g1, fun h f t hf9 ht9 => ?_, g3⟩ (by dsimp only; omega)
                show r2 38 (24 * f + t) = _
                rw [g2 h f t hf9 ht9]
                by_cases e : f = u ∧ t = v
                · rw [if_pos e, if_pos (Or.inr ⟨e.1, by omega⟩), e.1, e.2]
                · rw [if_neg e, hYr h f t hf9 ht9]
                  by_cases e2 : f < u ∨ (f = u ∧ t < v)
                  · rw [if_pos e2, if_pos (by omega)]
                  · rw [if_neg e2, if_neg (by omega)]
              have cuk : dgOK w k → r 38 (24 * u + k) = FWn I2 w k u k := fun h => by
                rw [hYr h u k hu24 hk24]
                split
                · exact (still h).2.1 u
                · rfl
              have ckv : dgOK w k → r 38 (24 * k + v) = FWn I2 w k k v := fun h => by
                rw [hYr h k v hk24 hv24]
                split
                · exact (still h).2.2 v
                · rfl
              have cuv : dgOK w k → r 38 (24 * u + v) = FWn I2 w k u v := fun h => by
                rw [hYr h u v hu24 hv24, if_neg (by omega)]
              have keep : (dgOK w k → FWn I2 w (k + 1) u v = FWn I2 w k u v) → wp (F_M_ends_274 k203 k u v r) (fun z t => onlyF s t ∧ (dgOK w 24 → z = 1 ∧ ∀ f t', f < 24 → t' < 24 → t 38 (24 * f + t') = FWn I2 w 24 f t') ∧ (¬ dgOK w 24 → z = 0)) := by
                intro h9
                refine next r hfr (fun h f t hf9 ht9 => ?_) hNr
                by_cases e : f = u ∧ t = v
                · rw [if_pos e, e.1, e.2, cuv h, h9 h]
                · rw [if_neg e]
              rw [ix24 hu24 hk24, gd_pos (by omega), Int.toNat_natCast]
              refine wp_if (fun c4 => ?_) (fun c4 => ?_)
              · rw [lcmp_ge] at c4
                refine keep (fun h => ?_)
                rw [FWn_succ]
                unfold fwS
                have := cuk h
                rw [if_neg (fun z => by have := z.1; omega)]
              · rw [lcmp_ge] at c4
                rw [ix24 hk24 hv24, gd_pos (by omega), Int.toNat_natCast]
                refine wp_if (fun c5 => ?_) (fun c5 => ?_)
                · rw [lcmp_ge] at c5
                  refine keep (fun h => ?_)
                  rw [FWn_succ]
                  unfold fwS
                  have := ckv h
                  rw [if_neg (fun z => by have := z.2.1; omega)]
                · rw [lcmp_ge] at c5
                  rw [gd_pos (by omega), gd_pos (by omega), M_bound hu24 hv24, cl2_some]
                  refine next _ (fun q hq => (hset_obj _ _ _ _ hq).trans (hfr q hq)) (fun h f t hf9 ht9 => ?_) (fun h => ?_)
                  · rw [hset_get]
                    by_cases e : f = u ∧ t = v
                    · rw [if_pos ⟨rfl, by omega⟩, if_pos e, cuk h, ckv h, cuv h]
                      have h1 := cuk h
                      have h2 := ckv h
                      have l1 := lb k hk u k hu24 hk24
                      have l2 := lb k hk k v hk24 hv24
                      rw [ladd_ok (by omega), FWn_succ]
                      unfold fwS
                      by_cases c6 : FWn I2 w k u k + FWn I2 w k k v < FWn I2 w k u v
                      · rw [if_pos ⟨by omega, by omega, c6⟩]
                        omega
                      · rw [if_neg (fun z => c6 z.2.2)]
                        omega
                    · rw [if_neg (fun z => e (by omega)), if_neg e]
                  · obtain ⟨x, h1, h2⟩ := hNr h
                    refine ⟨x, h1, ?_⟩
                    rw [hset_get]
                    split
                    · rename_i e
                      rw [e.2] at h2
                      omega
                    · exact h2
          · refine ⟨0, by omega, rfl, rfl, rfl, hfp, fun h f t hf9 ht9 => ?_, hNp⟩
            show p 38 (24 * f + t) = _
            rw [hYp h f t hf9 ht9]
            by_cases e : f < u
            · rw [if_pos e, if_pos (Or.inl e)]
            · rw [if_neg e, if_neg (by omega)]
          · rw [FU_eq]
            show (300 - (0 : Int)).toNat < 20000
            omega
      · refine ⟨0, by omega, rfl, rfl, hf, fun h f t9 hf9 ht9 => ?_, hN⟩
        show t 38 (24 * f + t9) = _
        rw [hY h f t9 hf9 ht9, if_neg (by omega)]
      · rw [FU_eq]
        show (300 - (0 : Int)).toNat < 20000
        omega
  · refine ⟨0, by omega, rfl, fun _ _ => rfl, fun _ => hM, fun h => absurd (fun k' hk' a _ => ?_) h⟩
    rw [show k' = 0 by omega]
    show 0 ≤ w a a
    rw [hw0]
    exact Int.le_refl _
  · rw [FU_eq]
    show (300 - (0 : Int)).toNat < 20000
    omega
section MEnds2
variable {d : ND} {ow : Nat → Int} {b : Nat}
def endsF (τ s : Hp) : Prop := (∀ q, q ≠ 0 → q ≠ 32 → q ≠ 33 → q ≠ 36 → q ≠ 37 → q ≠ 38 → s q = τ q) ∧ ∀ i, i ≠ 56 → s 0 i = τ 0 i
theorem M_ends {τ : Hp} (hd : NDok d) (hN : NetM τ b d) (ho : owOk d ow) (hV : ViewM1 τ d ow) :
    wp (F_M_ends τ) (fun z s => endsF τ s ∧ (dgOK (wM d ow) 24 → z = 1 ∧ ∀ f t, f < 24 → t < 24 → s 38 (24 * f + t) = D2 d ow f t) ∧ (¬ dgOK (wM d ow) 24 → z = 0)) := by
  have hI := I2_v
  have hb := hN.1
  have hR := hd.2.1
  have hW := hd.1
  unfold F_M_ends
  refine wp_cl (M_finds hd hN ho hV) (fun _ s0 h0 => ?_)
  obtain ⟨hrow, hfF⟩ := h0
  have hpt : ∀ w, w < 12 → s0 37 w = ptn d ow (dR d) w := hrow.2.2
  have viaF : ∀ s, onlyF s0 s → endsF τ s := fun s h => ⟨fun q a1 a2 a3 a4 a5 a6 => by rw [h q a6]; exact hfF.1 q a1 a2 a3 a4 a5, fun i hi => by rw [h 0 (by decide)]; exact hfF.2 i hi⟩
  have net : ∀ s, onlyF s0 s → NetM s b d := fun s h => hN.congr ((viaF s h).2 12 (by decide)) (fun q a1 a2 => (viaF s h).1 q (by omega) (by omega) (by omega) (by omega) (by omega) (by omega))
  have vw : ∀ s, onlyF s0 s → ViewM1 s d ow := fun s h r hr => by
    rw [(viaF s h).1 29 (by decide) (by decide) (by decide) (by decide) (by decide) (by decide), (viaF s h).1 30 (by decide) (by decide) (by decide) (by decide) (by decide) (by decide)]
    exact hV r hr
  have set38 : ∀ s i v, onlyF s0 s → onlyF s0 (hset s 38 i v) := fun s i v h q hq => (hset_obj _ _ _ _ hq).trans (h q hq)
  -- behind the laying
  have last : ∀ s, onlyF s0 s → (∀ f t, f < 24 → t < 24 → s 38 (24 * f + t) = wM d ow f t) → wp (F_M_ends_187 FU (0, s)) (fun z s => endsF τ s ∧ (dgOK (wM d ow) 24 → z = 1 ∧ ∀ f t, f < 24 → t < 24 → s 38 (24 * f + t) = D2 d ow f t) ∧ (¬ dgOK (wM d ow) 24 → z = 0)) := by
    intro s hs hM
    refine wp_mono (M_fw (fun a => wM_self a) (fun a c => wM_rng hd ho a c) hM) (fun z t ht => ⟨viaF t (fun q hq => (ht.1 q hq).trans (hs q hq)), ht.2⟩)
  -- the roads
  have roads : ∀ s, onlyF s0 s → MM s (dW d) (fun _ _ => I2) (fun _ _ => I2) (fun a => -2 * al d a) (fun a => if ptn d ow (dR d) a = -1 then 2 * al d a else I2) → wp (F_M_ends_98 FU (0, s)) (fun z s => endsF τ s ∧ (dgOK (wM d ow) 24 → z = 1 ∧ ∀ f t, f < 24 → t < 24 → s 38 (24 * f + t) = D2 d ow f t) ∧ (¬ dgOK (wM d ow) 24 → z = 0)) := by
    intro s hs hMM
    unfold F_M_ends_98
    refine wp_loop (fun a : Int × Hp => ∃ r : Nat, r ≤ dR d ∧ a.1 = (r : Int) ∧ onlyF s0 a.2 ∧ MM a.2 (dW d) (fun a c => if rdO d a c r ≠ -1 ∧ ow (rdO d a c r).toNat ≠ -1 then -mkd d ow (rdO d a c r).toNat else I2) (fun a c => if ptn d ow (dR d) a = rdO d a c r ∧ rdO d a c r ≠ -1 then mkd d ow (rdO d a c r).toNat else I2) (fun a => -2 * al d a) (fun a => if ptn d ow (dR d) a = -1 then 2 * al d a else I2)) (fun a => (300 - a.1).toNat) ?_ FU _ ?_ ?_
    · intro a k hp ih
      obtain ⟨x, t⟩ := a
      obtain ⟨r, hr, e0, hf, hm⟩ := hp
      dsimp only at e0 hf hm ih ⊢
      subst e0
      have nt := net t hf
      have vt := vw t hf
      unfold F_M_ends_98_b F_M_ends_179
      rw [nt.2.1, gd_pos (by omega), Int.toNat_natCast, nt.2.2.2.1]
      refine wp_if (fun c => ?_) (fun c => ?_)
      · have er : r = dR d := by omega
        subst er
        exact last t hf (fun f t' h1 h2 => MM_wM hW hm (fun _ _ _ _ _ => rfl) (fun _ _ _ _ _ => rfl) (fun _ _ => rfl) (fun _ _ => rfl) h1 h2)
      · have hrR : r < dR d := by omega
        have hpr := hd.2.2.1 r hrR
        have g30 : (0 : Int) ≤ (r : Int) ∧ (r : Int) < 30 := by omega
        have hmk := mkd_rng hd ho hrR
        have esucc : ∀ a c, rdO d a c (r + 1) = if (fs d r = a ∧ sn d r = c) ∨ (fs d r = c ∧ sn d r = a) then (r : Int) else rdO d a c r := fun a c => rfl
        have opn : t 29 r = if ow r = -1 then 0 else 1 := (vt r hrR).1
        rw [gd_pos g30, Int.toNat_natCast, opn]
        by_cases c2 : ow r = -1
        · rw [if_pos c2, if_pos rfl, lt_eq, iadd_ok (by omega)]
          have ntk : ¬ tkn d ow r := fun z => (tkn_open z).1 c2
          refine ih _ ⟨r + 1, by omega, by simp, hf, hm.cg rfl (fun a c ha hc hne => ?_) (fun a c ha hc hne => ?_) (fun _ _ => rfl) (fun _ _ => rfl)⟩ (by dsimp only; omega)
          · show (if rdO d a c (r + 1) ≠ -1 ∧ ow (rdO d a c (r + 1)).toNat ≠ -1 then -mkd d ow (rdO d a c (r + 1)).toNat else I2) = if rdO d a c r ≠ -1 ∧ ow (rdO d a c r).toNat ≠ -1 then -mkd d ow (rdO d a c r).toNat else I2
            rw [esucc]
            by_cases e : (fs d r = a ∧ sn d r = c) ∨ (fs d r = c ∧ sn d r = a)
            · have z0 : rdO d a c r = -1 := by
                rcases e with ⟨q1, q2⟩ | ⟨q1, q2⟩
                · rw [← q1, ← q2]; exact hpr.2.2.2
                · rw [← q1, ← q2, rdO_sym]; exact hpr.2.2.2
              rw [if_pos e, z0, if_neg (fun z => z.2 c2), if_neg (fun z => z.1 rfl)]
            · rw [if_neg e]
          · show (if ptn d ow (dR d) a = rdO d a c (r + 1) ∧ rdO d a c (r + 1) ≠ -1 then mkd d ow (rdO d a c (r + 1)).toNat else I2) = if ptn d ow (dR d) a = rdO d a c r ∧ rdO d a c r ≠ -1 then mkd d ow (rdO d a c r).toNat else I2
            rw [esucc]
            by_cases e : (fs d r = a ∧ sn d r = c) ∨ (fs d r = c ∧ sn d r = a)
            · have z0 : rdO d a c r = -1 := by
                rcases e with ⟨q1, q2⟩ | ⟨q1, q2⟩
                · rw [← q1, ← q2]; exact hpr.2.2.2
                · rw [← q1, ← q2, rdO_sym]; exact hpr.2.2.2
              have nptn : ptn d ow (dR d) a ≠ r := fun z => by
                rcases ptn_cases (d := d) (ow := ow) (dR d) a with h | ⟨q, g1, g2, g3, g4⟩
                · omega
                · have : q = r := by omega
                  exact ntk (this ▸ g3)
              rw [if_pos e, z0, if_neg (fun z => nptn z.1), if_neg (fun z => z.2 rfl)]
            · rw [if_neg e]
        · have ev1 := ev (a := fs d r) (by omega)
          have ev2 := ev (a := sn d r) (by omega)
          rw [if_neg c2, if_neg (by decide), M_first hd nt hrR, cl2_some, M_second hd nt hrR, cl2_some, gd_pos g30, (vt r hrR).2]
          unfold F_M_together
          rw [ev1.2, ev1.1, ev2.2, ev2.1, lneg_ok (by omega), M_bound (by omega) (by omega), cl2_some, M_bound (by omega) (by omega), cl2_some, cl2_some]
          -- the cells were far
          have far1 : t 38 (24 * (2 * sn d r) + (2 * fs d r + 1)) = I2 := by
            have h9 := (hm.2 (sn d r) (fs d r) hpr.2.1 hpr.1).1
            rw [if_neg (fun z => hpr.2.2.1 z.symm)] at h9
            rw [h9]
            exact if_neg (fun z => z.1 (by rw [rdO_sym]; exact hpr.2.2.2))
          have far2 : t 38 (24 * (2 * fs d r) + (2 * sn d r + 1)) = I2 := by
            have h9 := (hm.2 (fs d r) (sn d r) hpr.1 hpr.2.1).1
            rw [if_neg hpr.2.2.1] at h9
            rw [h9]
            exact if_neg (fun z => z.1 hpr.2.2.2)
          rw [far1, hset_get, if_neg (by omega), far2, Int.min_eq_left (by omega)]
          have f1 := set38 _ (24 * (2 * fs d r) + (2 * sn d r + 1)) (-mkd d ow r) (set38 t (24 * (2 * sn d r) + (2 * fs d r + 1)) (-mkd d ow r) hf)
          have m1 := MM.set_eo hW (MM.set_eo hW hm hpr.2.1 hpr.1 (-mkd d ow r)) hpr.1 hpr.2.1 (-mkd d ow r)
          generalize hu : hset (hset t 38 (24 * (2 * sn d r) + (2 * fs d r + 1)) (-mkd d ow r)) 38 (24 * (2 * fs d r) + (2 * sn d r + 1)) (-mkd d ow r) = u at f1 m1 ⊢
          have nu := net u f1
          have vu := vw u f1
          have m1' : MM u (dW d) (fun a c => if rdO d a c (r + 1) ≠ -1 ∧ ow (rdO d a c (r + 1)).toNat ≠ -1 then -mkd d ow (rdO d a c (r + 1)).toNat else I2) (fun a c => if ptn d ow (dR d) a = rdO d a c r ∧ rdO d a c r ≠ -1 then mkd d ow (rdO d a c r).toNat else I2) (fun a => -2 * al d a) (fun a => if ptn d ow (dR d) a = -1 then 2 * al d a else I2) := by
            refine m1.cg rfl (fun a c ha hc hne => ?_) (fun _ _ _ _ _ => rfl) (fun a ha => ?_) (fun _ _ => rfl)
            · show (if rdO d a c (r + 1) ≠ -1 ∧ ow (rdO d a c (r + 1)).toNat ≠ -1 then -mkd d ow (rdO d a c (r + 1)).toNat else I2) = if a = fs d r ∧ c = sn d r then -mkd d ow r else if a = sn d r ∧ c = fs d r then -mkd d ow r else if rdO d a c r ≠ -1 ∧ ow (rdO d a c r).toNat ≠ -1 then -mkd d ow (rdO d a c r).toNat else I2
              rw [esucc]
              by_cases e1 : a = fs d r ∧ c = sn d r
              · rw [if_pos (Or.inl ⟨e1.1.symm, e1.2.symm⟩), if_pos e1, if_pos ⟨by omega, c2⟩]
                rfl
              · by_cases e2 : a = sn d r ∧ c = fs d r
                · rw [if_pos (Or.inr ⟨e2.2.symm, e2.1.symm⟩), if_neg e1, if_pos e2, if_pos ⟨by omega, c2⟩]
                  rfl
                · have e3 : ¬ ((fs d r = a ∧ sn d r = c) ∨ (fs d r = c ∧ sn d r = a)) := fun z => z.elim (fun q => e1 ⟨q.1.symm, q.2.symm⟩) (fun q => e2 ⟨q.2.symm, q.1.symm⟩)
                  rw [if_neg e3, if_neg e1, if_neg e2]
            · show -2 * al d a = if a = fs d r ∧ a = sn d r then -mkd d ow r else if a = sn d r ∧ a = fs d r then -mkd d ow r else -2 * al d a
              rw [if_neg (fun z => hpr.2.2.1 (z.1.symm.trans z.2)), if_neg (fun z => hpr.2.2.1 (z.2.symm.trans z.1))]
          rw [M_first hd nu hrR, cl2_some, gd_pos (by omega), Int.toNat_natCast, f1 37 (by decide), hpt _ (by omega)]
          have tkiff : ptn d ow (dR d) (fs d r) = r ↔ tkn d ow r := by
            constructor
            · intro z
              rcases ptn_cases (d := d) (ow := ow) (dR d) (fs d r) with h | ⟨q, g1, g2, g3, g4⟩
              · omega
              · have : q = r := by omega
                exact this ▸ g3
            · exact fun z => ptn_of hd hrR z (Or.inl rfl)
          refine wp_if (fun c3 => ?_) (fun c3 => ?_)
          · have htk := tkiff.mp c3
            have p2 := ptn_of (ow := ow) hd hrR htk (w := sn d r) (Or.inr rfl)
            rw [M_first hd nu hrR, cl2_some, M_second hd nu hrR, cl2_some, gd_pos g30, (vu r hrR).2]
            unfold F_M_notMore
            rw [ev1.2, ev1.1, ev2.2, ev2.1, M_bound (by omega) (by omega), cl2_some, M_bound (by omega) (by omega), cl2_some, cl2_some, lt_eq, iadd_ok (by omega)]
            have far3 : u 38 (24 * (2 * sn d r + 1) + 2 * fs d r) = I2 := by
              have h9 := (m1'.2 (sn d r) (fs d r) hpr.2.1 hpr.1).2
              rw [if_neg (fun z => hpr.2.2.1 z.symm)] at h9
              rw [h9]
              exact if_neg (fun z => z.2 (by rw [rdO_sym]; exact hpr.2.2.2))
            have far4 : u 38 (24 * (2 * fs d r + 1) + 2 * sn d r) = I2 := by
              have h9 := (m1'.2 (fs d r) (sn d r) hpr.1 hpr.2.1).2
              rw [if_neg hpr.2.2.1] at h9
              rw [h9]
              exact if_neg (fun z => z.2 hpr.2.2.2)
            rw [far3, hset_get, if_neg (by omega), far4, Int.min_eq_left (by omega)]
            refine ih _ ⟨r + 1, by omega, by simp, set38 _ _ _ (set38 u _ _ f1), (MM.set_oe hW (MM.set_oe hW m1' hpr.2.1 hpr.1 (mkd d ow r)) hpr.1 hpr.2.1 (mkd d ow r)).cg rfl (fun _ _ _ _ _ => rfl) (fun a c ha hc hne => ?_) (fun _ _ => rfl) (fun a ha => ?_)⟩ (by dsimp only; omega)
            · show (if ptn d ow (dR d) a = rdO d a c (r + 1) ∧ rdO d a c (r + 1) ≠ -1 then mkd d ow (rdO d a c (r + 1)).toNat else I2) = if a = fs d r ∧ c = sn d r then mkd d ow r else if a = sn d r ∧ c = fs d r then mkd d ow r else if ptn d ow (dR d) a = rdO d a c r ∧ rdO d a c r ≠ -1 then mkd d ow (rdO d a c r).toNat else I2
              rw [esucc]
              by_cases e1 : a = fs d r ∧ c = sn d r
              · rw [if_pos (Or.inl ⟨e1.1.symm, e1.2.symm⟩), if_pos e1, e1.1, if_pos ⟨c3, by omega⟩]
                rfl
              · by_cases e2 : a = sn d r ∧ c = fs d r
                · rw [if_pos (Or.inr ⟨e2.2.symm, e2.1.symm⟩), if_neg e1, if_pos e2, e2.1, if_pos ⟨p2, by omega⟩]
                  rfl
                · have e3 : ¬ ((fs d r = a ∧ sn d r = c) ∨ (fs d r = c ∧ sn d r = a)) := fun z => z.elim (fun q => e1 ⟨q.1.symm, q.2.symm⟩) (fun q => e2 ⟨q.2.symm, q.1.symm⟩)
                  rw [if_neg e3, if_neg e1, if_neg e2]
            · show (if ptn d ow (dR d) a = -1 then 2 * al d a else I2) = if a = fs d r ∧ a = sn d r then mkd d ow r else if a = sn d r ∧ a = fs d r then mkd d ow r else if ptn d ow (dR d) a = -1 then 2 * al d a else I2
              rw [if_neg (c := a = fs d r ∧ a = sn d r) (fun z => hpr.2.2.1 (z.1.symm.trans z.2)), if_neg (c := a = sn d r ∧ a = fs d r) (fun z => hpr.2.2.1 (z.2.symm.trans z.1))]
          · have ntk : ¬ tkn d ow r := fun z => c3 (tkiff.mpr z)
            rw [lt_eq, iadd_ok (by omega)]
            refine ih _ ⟨r + 1, by omega, by simp, f1, m1'.cg rfl (fun _ _ _ _ _ => rfl) (fun a c ha hc hne => ?_) (fun _ _ => rfl) (fun _ _ => rfl)⟩ (by dsimp only; omega)
            show (if ptn d ow (dR d) a = rdO d a c (r + 1) ∧ rdO d a c (r + 1) ≠ -1 then mkd d ow (rdO d a c (r + 1)).toNat else I2) = if ptn d ow (dR d) a = rdO d a c r ∧ rdO d a c r ≠ -1 then mkd d ow (rdO d a c r).toNat else I2
            rw [esucc]
            by_cases e : (fs d r = a ∧ sn d r = c) ∨ (fs d r = c ∧ sn d r = a)
            · have z0 : rdO d a c r = -1 := by
                rcases e with ⟨q1, q2⟩ | ⟨q1, q2⟩
                · rw [← q1, ← q2]; exact hpr.2.2.2
                · rw [← q1, ← q2, rdO_sym]; exact hpr.2.2.2
              have nptn : ptn d ow (dR d) a ≠ r := fun z => by
                rcases ptn_cases (d := d) (ow := ow) (dR d) a with h | ⟨q, g1, g2, g3, g4⟩
                · omega
                · have : q = r := by omega
                  exact ntk (this ▸ g3)
              rw [if_pos e, z0, if_neg (fun z => nptn z.1), if_neg (fun z => z.2 rfl)]
            · rw [if_neg e]
    · refine ⟨0, by omega, rfl, hs, hMM.cg rfl (fun a c _ _ _ => ?_) (fun a c _ _ _ => ?_) (fun _ _ => rfl) (fun _ _ => rfl)⟩
      · exact if_neg (fun z => z.1 rfl)
      · exact if_neg (fun z => z.2 rfl)
    · rw [FU_eq]
      show (300 - (0 : Int)).toNat < 20000
      omega
  -- the persons
  have persons : ∀ s, onlyF s0 s → (∀ f t, f < 24 → t < 24 → s 38 (24 * f + t) = if f = t then 0 else I2) → wp (F_M_ends_45 FU (0, s)) (fun z s => endsF τ s ∧ (dgOK (wM d ow) 24 → z = 1 ∧ ∀ f t, f < 24 → t < 24 → s 38 (24 * f + t) = D2 d ow f t) ∧ (¬ dgOK (wM d ow) 24 → z = 0)) := by
    intro s hs hz
    unfold F_M_ends_45
    refine wp_loop (fun a : Int × Hp => ∃ w : Nat, w ≤ dW d ∧ a.1 = (w : Int) ∧ onlyF s0 a.2 ∧ MM a.2 (dW d) (fun _ _ => I2) (fun _ _ => I2) (fun a => if a < w then -2 * al d a else I2) (fun a => if a < w ∧ ptn d ow (dR d) a = -1 then 2 * al d a else I2)) (fun a => (300 - a.1).toNat) ?_ FU _ ?_ ?_
    · intro a k hp ih
      obtain ⟨x, t⟩ := a
      obtain ⟨w, hw, e0, hf, hm⟩ := hp
      dsimp only at e0 hf hm ih ⊢
      subst e0
      have nt := net t hf
      unfold F_M_ends_45_b F_M_ends_90
      rw [nt.2.1, gd_pos (by omega), Int.toNat_natCast, nt.2.2.1]
      refine wp_if (fun c => ?_) (fun c => ?_)
      · have ew : w = dW d := by omega
        subst ew
        refine roads t hf (hm.cg rfl (fun _ _ _ _ _ => rfl) (fun _ _ _ _ _ => rfl) (fun a ha => (if_pos ha).symm) (fun a ha => ?_))
        show (if ptn d ow (dR d) a = -1 then 2 * al d a else I2) = if a < dW d ∧ ptn d ow (dR d) a = -1 then 2 * al d a else I2
        by_cases e : ptn d ow (dR d) a = -1
        · rw [if_pos e, if_pos ⟨ha, e⟩]
        · rw [if_neg e, if_neg (fun z => e z.2)]
      · have hwW : w < dW d := by omega
        have ha := hd.2.2.2.1 w hwW
        have evw := ev (a := w) (by omega)
        rw [M_aloneOf hd nt hwW, cl2_some]
        unfold F_M_atLeast
        have c1 : t 38 (24 * (2 * w) + (2 * w + 1)) = I2 := by
          have h9 := (hm.2 w w hwW hwW).1
          rw [if_pos rfl] at h9
          rw [h9]
          exact if_neg (by omega)
        rw [evw.2, evw.1, lmul_ok (by omega), M_bound (by omega) (by omega), cl2_some, cl2_some, c1, Int.min_eq_left (by omega)]
        have f1 := set38 t (24 * (2 * w) + (2 * w + 1)) (-2 * al d w) hf
        have m1 := MM.set_eo hW hm hwW hwW (-2 * al d w)
        generalize hu : hset t 38 (24 * (2 * w) + (2 * w + 1)) (-2 * al d w) = u at f1 m1 ⊢
        have nu := net u f1
        have m1' : MM u (dW d) (fun _ _ => I2) (fun _ _ => I2) (fun a => if a < w + 1 then -2 * al d a else I2) (fun a => if a < w ∧ ptn d ow (dR d) a = -1 then 2 * al d a else I2) := by
          refine m1.cg rfl (fun a c _ _ hne => ?_) (fun _ _ _ _ _ => rfl) (fun a ha9 => ?_) (fun _ _ => rfl)
          · exact (if_neg (fun z => hne (z.1.trans z.2.symm))).symm
          · show (if a < w + 1 then -2 * al d a else I2) = if a = w ∧ a = w then -2 * al d w else if a < w then -2 * al d a else I2
            by_cases e : a = w
            · rw [if_pos (by omega), if_pos ⟨e, e⟩, e]
            · rw [if_neg (c := a = w ∧ a = w) (fun z => e z.1)]
              by_cases e2 : a < w
              · rw [if_pos e2, if_pos (by omega)]
              · rw [if_neg e2, if_neg (by omega)]
        rw [gd_pos (by omega), Int.toNat_natCast, f1 37 (by decide), hpt w (by omega)]
        refine wp_if (fun c3 => ?_) (fun c3 => ?_)
        · rw [M_aloneOf hd nu hwW, cl2_some]
          unfold F_M_atMost
          have c4 : u 38 (24 * (2 * w + 1) + 2 * w) = I2 := by
            have h9 := (m1'.2 w w hwW hwW).2
            rw [if_pos rfl] at h9
            rw [h9]
            exact if_neg (fun z => absurd z.1 (by omega))
          rw [evw.2, evw.1, lmul_ok (by omega), M_bound (by omega) (by omega), cl2_some, cl2_some, c4, Int.min_eq_left (by omega), lt_eq, iadd_ok (by omega)]
          refine ih _ ⟨w + 1, by omega, by simp, set38 u _ _ f1, (MM.set_oe hW m1' hwW hwW (2 * al d w)).cg rfl (fun _ _ _ _ _ => rfl) (fun a c _ _ hne => ?_) (fun _ _ => rfl) (fun a ha9 => ?_)⟩ (by dsimp only; omega)
          · exact (if_neg (fun z => hne (z.1.trans z.2.symm))).symm
          · show (if a < w + 1 ∧ ptn d ow (dR d) a = -1 then 2 * al d a else I2) = if a = w ∧ a = w then 2 * al d w else if a < w ∧ ptn d ow (dR d) a = -1 then 2 * al d a else I2
            by_cases e : a = w
            · rw [if_pos (c := a = w ∧ a = w) ⟨e, e⟩, if_pos ⟨by omega, by rw [e]; exact c3⟩, e]
            · rw [if_neg (c := a = w ∧ a = w) (fun z => e z.1)]
              by_cases e2 : a < w ∧ ptn d ow (dR d) a = -1
              · rw [if_pos e2, if_pos ⟨by omega, e2.2⟩]
              · rw [if_neg e2, if_neg (fun z => e2 ⟨by omega, z.2⟩)]
        · rw [lt_eq, iadd_ok (by omega)]
          refine ih _ ⟨w + 1, by omega, by simp, f1, m1'.cg rfl (fun _ _ _ _ _ => rfl) (fun _ _ _ _ _ => rfl) (fun _ _ => rfl) (fun a ha9 => ?_)⟩ (by dsimp only; omega)
          show (if a < w + 1 ∧ ptn d ow (dR d) a = -1 then 2 * al d a else I2) = if a < w ∧ ptn d ow (dR d) a = -1 then 2 * al d a else I2
          by_cases e2 : a < w ∧ ptn d ow (dR d) a = -1
          · rw [if_pos e2, if_pos ⟨by omega, e2.2⟩]
          · rw [if_neg e2, if_neg (fun z => e2 ⟨by
              have : a ≠ w := fun e => c3 (e ▸ z.2)
              omega, z.2⟩)]
    · refine ⟨0, by omega, rfl, hs, fun f t hf ht _ => hz f t hf ht, fun a c ha hc => ⟨?_, ?_⟩⟩
      · show s 38 (24 * (2 * a) + (2 * c + 1)) = _
        rw [hz _ _ (by omega) (by omega), if_neg (by omega)]
        by_cases e : a = c
        · rw [if_pos e]; exact (if_neg (by omega)).symm
        · rw [if_neg e]
      · show s 38 (24 * (2 * a + 1) + 2 * c) = _
        rw [hz _ _ (by omega) (by omega), if_neg (by omega)]
        by_cases e : a = c
        · rw [if_pos e]; exact (if_neg (fun z => absurd z.1 (by omega))).symm
        · rw [if_neg e]
    · rw [FU_eq]
      show (300 - (0 : Int)).toNat < 20000
      omega
  unfold F_M_ends_6
  refine wp_loop (fun a : Int × Hp => ∃ m : Nat, m ≤ 576 ∧ a.1 = (m : Int) ∧ onlyF s0 a.2 ∧ ∀ f t, f < 24 → t < 24 → 24 * f + t < m → a.2 38 (24 * f + t) = if f = t then 0 else I2) (fun a => (1000 - a.1).toNat) ?_ FU _ ?_ ?_
  · intro a k hp ih
    obtain ⟨x, t⟩ := a
    obtain ⟨m, hm, e0, hf, hz⟩ := hp
    dsimp only at e0 hf hz ih ⊢
    subst e0
    unfold F_M_ends_6_b
    refine wp_if (fun c => ?_) (fun c => ?_)
    · exact persons t hf (fun f t' h1 h2 => hz f t' h1 h2 (by omega))
    · have hm5 : m < 576 := by omega
      have next : ∀ v : Int, v = (if m / 24 = m % 24 then 0 else I2) → wp (F_M_ends_36 k m v m t) (fun z s => endsF τ s ∧ (dgOK (wM d ow) 24 → z = 1 ∧ ∀ f t, f < 24 → t < 24 → s 38 (24 * f + t) = D2 d ow f t) ∧ (¬ dgOK (wM d ow) 24 → z = 0)) := by
        intro v hv
        unfold F_M_ends_36
        rw [gd_pos (by omega), lt_eq, lt_eq, Int.toNat_natCast, iadd_ok (by omega)]
        refine ih _ ⟨m + 1, by omega, by simp, set38 t m v hf, fun f t' h1 h2 h3 => ?_⟩ (by dsimp only; omega)
        show hset t 38 m v 38 (24 * f + t') = _
        rw [hset_get]
        by_cases e : 24 * f + t' = m
        · rw [if_pos ⟨rfl, e⟩, hv]
          have q1 : m / 24 = f := by omega
          have q2 : m % 24 = t' := by omega
          rw [q1, q2]
        · rw [if_neg (fun z => e z.2)]
          exact hz f t' h1 h2 (by omega)
      have hdiv : idiv (m : Int) 24 = ((m / 24 : Nat) : Int) := by
        unfold idiv
        rw [Int.tdiv_eq_ediv_of_nonneg (by omega), w32_id (by omega)]
        omega
      have hmod : irem (m : Int) 24 = ((m % 24 : Nat) : Int) := by
        unfold irem
        rw [Int.tmod_eq_emod_of_nonneg (by omega)]
        omega
      rw [hdiv, hmod]
      refine wp_if (fun c2 => next 0 ?_) (fun c2 => next 1000000000000 ?_)
      · rw [if_pos (by omega)]
      · rw [if_neg (by omega)]
        rfl
  · exact ⟨0, by omega, rfl, fun _ _ => rfl, fun f t _ _ h => absurd h (by omega)⟩
  · rw [FU_eq]
    show (1000 - (0 : Int)).toNat < 20000
    omega
end MEnds2
