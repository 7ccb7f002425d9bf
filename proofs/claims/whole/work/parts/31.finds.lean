/-! the check's finds: the same row, and who goes with whom -/
section Finds
variable {d : ND} {ow : Nat → Int} {b : Nat}
/-- road r is of the row -/
def tkn (d : ND) (ow : Nat → Int) (r : Nat) : Prop := (rwS d ow r).1 &&& prM d r = prM d r ∧ 0 < gnd d ow r ∧ bR d ow 0 ((rwS d ow r).1 - prM d r) + gnd d ow r = bR d ow 0 (rwS d ow r).1
noncomputable def ptn (d : ND) (ow : Nat → Int) : Nat → Nat → Int
  | 0, _ => -1
  | r + 1, w => if ((rwS d ow r).1 &&& prM d r = prM d r ∧ 0 < gnd d ow r ∧ bR d ow 0 ((rwS d ow r).1 - prM d r) + gnd d ow r = bR d ow 0 (rwS d ow r).1) ∧ (w = fs d r ∨ w = sn d r) then (r : Int) else ptn d ow r w
theorem rwS_t {r : Nat} (h : tkn d ow r) : rwS d ow (r + 1) = ((rwS d ow r).1 - prM d r, (rwS d ow r).2 ++ [r]) := by
  show (if _ then _ else _) = _
  exact if_pos h
theorem rwS_n {r : Nat} (h : ¬ tkn d ow r) : rwS d ow (r + 1) = rwS d ow r := by
  show (if _ then _ else _) = _
  exact if_neg h
theorem ptn_t {r w : Nat} (h : tkn d ow r) (h2 : w = fs d r ∨ w = sn d r) : ptn d ow (r + 1) w = r := by
  show (if _ then _ else _) = _
  exact if_pos ⟨h, h2⟩
theorem ptn_n {r w : Nat} (h : ¬ (tkn d ow r ∧ (w = fs d r ∨ w = sn d r))) : ptn d ow (r + 1) w = ptn d ow r w := by
  show (if _ then _ else _) = _
  exact if_neg h
theorem row_end (hd : NDok d) (ho : owOk d ow) {r : Nat} (hz : bR d ow 0 (rwS d ow r).1 = 0) : ∀ q, r + q ≤ dR d → rwS d ow (r + q) = rwS d ow r ∧ ∀ w, ptn d ow (r + q) w = ptn d ow r w
  | 0, _ => ⟨rfl, fun _ => rfl⟩
  | q + 1, h => by
    have ih := row_end hd ho hz q (by omega)
    have hn : ¬ tkn d ow (r + q) := by
      intro z
      have ok := rwS_ok (ow := ow) hd (r + q) (by omega)
      have h1 := bR_rng hd ho 0 (m := (rwS d ow (r + q)).1 - prM d (r + q)) (by omega)
      have h2 := z.2.2
      rw [ih.1] at h2 h1
      have h3 := z.2.1
      omega
    constructor
    · rw [show r + (q + 1) = (r + q) + 1 by omega, rwS_n hn, ih.1]
    · intro w
      rw [show r + (q + 1) = (r + q) + 1 by omega, ptn_n (fun z => hn z.1), ih.2 w]
def findF (τ s : Hp) : Prop := (∀ q, q ≠ 0 → q ≠ 32 → q ≠ 33 → q ≠ 36 → q ≠ 37 → s q = τ q) ∧ ∀ i, i ≠ 56 → s 0 i = τ 0 i
def RowM (s : Hp) (d : ND) (ow : Nat → Int) : Prop := s 0 56 = ((rwS d ow (dR d)).2.length : Nat) ∧ (∀ k, k < (rwS d ow (dR d)).2.length → s 36 k = (((rwS d ow (dR d)).2[k]?.getD 0 : Nat) : Int)) ∧ ∀ w, w < 12 → s 37 w = ptn d ow (dR d) w
theorem M_finds {τ : Hp} (hd : NDok d) (hN : NetM τ b d) (ho : owOk d ow) (hV : ViewM1 τ d ow) : wp (F_M_finds τ) (fun _ s => RowM s d ow ∧ findF τ s) := by
  have hb := hN.1
  have hR := hd.2.1
  have hW := hd.1
  have hpw := pow_le12 hd.1
  have net : ∀ s', findF τ s' → NetM s' b d := fun s' h' => hN.congr (h'.2 12 (by decide)) (fun q a1 a2 => h'.1 q (by omega) (by omega) (by omega) (by omega) (by omega))
  have vw : ∀ s', findF τ s' → ViewM1 s' d ow := fun s' h' r' hr' => by rw [h'.1 29 (by decide) (by decide) (by decide) (by decide) (by decide), h'.1 30 (by decide) (by decide) (by decide) (by decide) (by decide)]; exact hV r' hr'
  have viaM : ∀ s t, findF τ s → fr 32 33 s t → findF τ t := fun s t h1 h2 => ⟨fun q a1 a2 a3 a4 a5 => by rw [h2 q (by omega)]; exact h1.1 q a1 a2 a3 a4 a5, fun i a1 => by rw [h2 0 (by omega)]; exact h1.2 i a1⟩
  have set36 : ∀ s q i v, findF τ s → (q = 36 ∨ q = 37) → findF τ (hset s q i v) := fun s q i v h1 h2 => ⟨fun q' a1 a2 a3 a4 a5 => by rw [hset_obj _ _ _ _ (by omega)]; exact h1.1 q' a1 a2 a3 a4 a5, fun i' a1 => by rw [hset_obj _ _ _ _ (by omega)]; exact h1.2 i' a1⟩
  have set56 : ∀ s v, findF τ s → findF τ (hset s 0 56 v) := fun s v h1 => ⟨fun q' a1 a2 a3 a4 a5 => by rw [hset_obj _ _ _ _ a1]; exact h1.1 q' a1 a2 a3 a4 a5, fun i' a1 => by rw [hset_get, if_neg (fun z => a1 z.2)]; exact h1.2 i' a1⟩
  unfold F_M_finds F_M_finds_7
  rw [lt_eq]
  refine wp_loop (fun a : Int × Hp => ∃ m : Nat, m ≤ 12 ∧ a.1 = (m : Int) ∧ findF τ a.2 ∧ a.2 0 56 = 0 ∧ ∀ i, i < m → a.2 37 i = -1) (fun a => (300 - a.1).toNat) ?_ FU _ ?_ ?_
  · intro a k hp ih
    obtain ⟨x, t⟩ := a
    obtain ⟨m, hm, e0, hf, h56, hz⟩ := hp
    dsimp only at e0 hf h56 hz ih ⊢
    subst e0
    unfold F_M_finds_7_b
    refine wp_if (fun g => ?_) (fun g => ?_)
    · refine wp_cl (M_mosts (lo := 0) hd (net t hf) ho (vw t hf) (by omega)) (fun z t1 h1 => ?_)
      have hf1 := viaM t t1 hf h1.2
      rw [M_all hd (net t1 hf1), cl2_some, gd_pos (by omega), lt_eq, M_all hd (net t1 hf1), cl2_some, Int.toNat_natCast, h1.1.1 _ (by omega)]
      unfold F_M_finds_48
      refine wp_loop (fun a : Int × Int × Int × Hp => ∃ r : Nat, r ≤ dR d ∧ a.1 = bR d ow 0 (rwS d ow r).1 ∧ a.2.1 = (((rwS d ow r).1 : Nat) : Int) ∧ a.2.2.1 = (r : Int) ∧ findF τ a.2.2.2 ∧ a.2.2.2 0 56 = (((rwS d ow r).2.length : Nat) : Int) ∧ (∀ k, k < (rwS d ow r).2.length → a.2.2.2 36 k = (((rwS d ow r).2[k]?.getD 0 : Nat) : Int)) ∧ ∀ w, w < 12 → a.2.2.2 37 w = ptn d ow r w) (fun a => (300 - a.2.2.1).toNat) ?_ FU _ ?_ ?_
      · intro a k2 hp2 ih2
        obtain ⟨x1, x2, x3, u⟩ := a
        obtain ⟨r, hr, e1, e2, e3, hfu, hl, hrw, hpt⟩ := hp2
        dsimp only at e1 e2 e3 hfu hl hrw hpt ih2 ⊢
        subst e1 e2 e3
        have nu := net u hfu
        have vu := vw u hfu
        unfold F_M_finds_48_b F_M_finds_192
        rw [nu.2.1, gd_pos (by omega), Int.toNat_natCast, nu.2.2.2.1]
        refine wp_if (fun c => ?_) (fun c => ?_)
        · have er : r = dR d := by omega
          subst er
          exact wp_ret ⟨⟨hl, hrw, hpt⟩, hfu⟩
        · have hrR : r < dR d := by omega
          have ok := rwS_ok (ow := ow) hd r hr
          have ln := rwS_len (ow := ow) hd r hr
          have hpr := hd.2.2.1 r hrR
          have b0 := bR_rng hd ho 0 ok.1
          refine wp_if (fun c1 => ?_) (fun c1 => ?_)
          · have he := row_end hd ho (show bR d ow 0 (rwS d ow r).1 = 0 by omega) (dR d - r) (by omega)
            rw [show r + (dR d - r) = dR d by omega] at he
            refine wp_ret ⟨⟨by rw [he.1]; exact hl, by rw [he.1]; exact hrw, fun w hw => by rw [he.2]; exact hpt w hw⟩, hfu⟩
          · have hp1 := pow_le12 (k := fs d r) (by omega)
            have hp2 := pow_le12 (k := sn d r) (by omega)
            have hprM := prM_eq hd hrR
            have skip : ¬ tkn d ow r → ∀ u', findF τ u' → u' 0 56 = u 0 56 → u' 36 = u 36 → u' 37 = u 37 → wp (F_M_finds_186 k2 (bR d ow 0 (rwS d ow r).1) (((rwS d ow r).1 : Nat) : Int) r u') (fun _ s => RowM s d ow ∧ findF τ s) := by
              intro hn u' q1 q2 q3 q4
              unfold F_M_finds_186
              rw [lt_eq, iadd_ok (by omega)]
              refine ih2 _ ⟨r + 1, by omega, by rw [rwS_n hn], by rw [rwS_n hn], by simp, q1, ?_, fun k9 hk9 => ?_, fun w hw => ?_⟩ (by dsimp only; omega)
              · show u' 0 56 = _
                rw [q2, rwS_n hn]; exact hl
              · rw [rwS_n hn] at hk9 ⊢
                show u' 36 k9 = _
                rw [q3]; exact hrw k9 hk9
              · show u' 37 w = _
                rw [q4, ptn_n (fun z => hn z.1)]; exact hpt w hw
            rw [M_first hd nu hrR, cl2_some, M_second hd nu hrR, cl2_some, ishl_1 (by omega), ishl_1 (by omega), Int.toNat_natCast, Int.toNat_natCast, ior_nn (by omega) (by omega), Int.toNat_natCast, Int.toNat_natCast, lt_eq, M_gainOf hd nu ho hrR (vu r hrR).1 (vu r hrR).2, cl2_some]
            change wp (if gnd d ow r = 0 then _ else (if (iand (((rwS d ow r).1 : Nat) : Int) ((prM d r : Nat) : Int)) = ((prM d r : Nat) : Int) then _ else _)) _
            have cnd : iand (((rwS d ow r).1 : Nat) : Int) ((prM d r : Nat) : Int) = ((prM d r : Nat) : Int) ↔ (rwS d ow r).1 &&& prM d r = prM d r := by
              rw [iand_nn (by omega) (by omega), Int.toNat_natCast, Int.toNat_natCast]
              exact Int.ofNat_inj
            have g1 := gnd_rng hd ho hrR
            refine wp_if (fun c2 => ?_) (fun c2 => ?_)
            · exact skip (fun z => absurd z.2.1 (by omega)) u hfu rfl rfl rfl
            · refine wp_if (fun c3 => ?_) (fun c3 => ?_)
              · have hP := hasP_and.mp (cnd.mp c3)
                have hs := sub_pr hd hrR hP
                have hm9 := M_mosts (lo := r + 1) hd nu ho vu (by omega)
                rw [show ((r + 1 : Nat) : Int) - 1 = (r : Int) by omega] at hm9
                refine wp_cl hm9 (fun z9 u1 hu1 => ?_)
                have hf9 := viaM u u1 hfu hu1.2
                change wp (gd (0 ≤ (iand (((rwS d ow r).1 : Nat) : Int) (ixor ((prM d r : Nat) : Int) (-1))) ∧ (iand (((rwS d ow r).1 : Nat) : Int) (ixor ((prM d r : Nat) : Int) (-1))) < (4096 : Int)) _) _
                have ecl : iand (((rwS d ow r).1 : Nat) : Int) (ixor ((prM d r : Nat) : Int) (-1)) = (((rwS d ow r).1 - prM d r : Nat) : Int) := by
                  rw [iandnot_nn (by omega) (by omega), Int.toNat_natCast, Int.toNat_natCast, clear_pr hd hrR hP]
                change wp (gd _ (if (iadd (gnd d ow r) (u1 32 (iand (((rwS d ow r).1 : Nat) : Int) (ixor ((prM d r : Nat) : Int) (-1))).toNat)) = bR d ow 0 (rwS d ow r).1 then gd _ (lt _ fun s23 => lt _ fun s24 => lt _ fun y1_25 => lt (iand (((rwS d ow r).1 : Nat) : Int) (ixor ((prM d r : Nat) : Int) (-1))) fun y2_26 => _) else _)) _
                rw [ecl, gd_pos (by omega), Int.toNat_natCast, hu1.1.1 _ (by omega)]
                have b1 := bR_rng hd ho (r + 1) (m := (rwS d ow r).1 - prM d r) (by omega)
                rw [iadd_ok (by omega)]
                have same := row_same (ow := ow) hd hrR ok.1 ok.2 hP (by omega)
                refine wp_if (fun c4 => ?_) (fun c4 => ?_)
                · have ht : tkn d ow r := ⟨cnd.mp c3, by omega, same.mp c4⟩
                  have len6 : (rwS d ow r).2.length < 6 := by
                    have := cntb_sub hd hrR hP
                    omega
                  have e56 : u1 0 56 = (((rwS d ow r).2.length : Nat) : Int) := by rw [hu1.2 0 (by omega)]; exact hl
                  have b2 := bR_rng hd ho 0 (m := (rwS d ow r).1 - prM d r) (by omega)
                  rw [e56, gd_pos (by omega), Int.toNat_natCast, lt_eq, hset_obj _ _ _ _ (show (0 : Nat) ≠ 36 by decide), e56, iadd_ok (by omega), lt_eq, lt_eq, lt_eq, isub_ok (by omega)]
                  have fA := set56 _ ((((rwS d ow r).2.length : Nat) : Int) + 1) (set36 u1 36 (rwS d ow r).2.length r hf9 (Or.inl rfl))
                  generalize hqA : hset (hset u1 36 (rwS d ow r).2.length r) 0 56 ((((rwS d ow r).2.length : Nat) : Int) + 1) = uA at fA ⊢
                  rw [M_first hd (net uA fA) hrR, cl2_some, gd_pos (by omega), lt_eq, Int.toNat_natCast]
                  have fB := set36 uA 37 (fs d r) r fA (Or.inr rfl)
                  generalize hqB : hset uA 37 (fs d r) r = uB at fB ⊢
                  rw [M_second hd (net uB fB) hrR, cl2_some, gd_pos (by omega), lt_eq, Int.toNat_natCast]
                  have fC := set36 uB 37 (sn d r) r fB (Or.inr rfl)
                  unfold F_M_finds_186
                  rw [lt_eq, iadd_ok (by omega)]
                  refine ih2 _ ⟨r + 1, by omega, ?_, by rw [rwS_t ht], by simp, fC, ?_, fun k9 hk9 => ?_, fun w hw => ?_⟩ (by dsimp only; omega)
                  · rw [rwS_t ht]
                    show bR d ow 0 (rwS d ow r).1 - gnd d ow r = bR d ow 0 ((rwS d ow r).1 - prM d r)
                    have := ht.2.2
                    omega
                  · show hset uB 37 (sn d r) r 0 56 = _
                    rw [hset_obj _ _ _ _ (by decide), ← hqB, hset_obj _ _ _ _ (by decide), ← hqA, hset_same, rwS_t ht]
                    show _ = ((((rwS d ow r).2 ++ [r]).length : Nat) : Int)
                    rw [List.length_append]
                    show _ = (((rwS d ow r).2.length + 1 : Nat) : Int)
                    omega
                  · rw [rwS_t ht] at hk9 ⊢
                    have hk9 : k9 < ((rwS d ow r).2 ++ [r]).length := hk9
                    rw [List.length_append] at hk9
                    have hk9 : k9 < (rwS d ow r).2.length + 1 := hk9
                    show hset uB 37 (sn d r) r 36 k9 = ((((rwS d ow r).2 ++ [r])[k9]?.getD 0 : Nat) : Int)
                    rw [hset_obj _ _ _ _ (by decide), ← hqB, hset_obj _ _ _ _ (by decide), ← hqA, hset_obj _ _ _ _ (by decide), hset_get]
                    by_cases e : k9 = (rwS d ow r).2.length
                    · subst e
                      rw [if_pos ⟨rfl, rfl⟩, List.getElem?_append_right (Nat.le_refl _), Nat.sub_self]
                      rfl
                    · rw [if_neg (fun z => e z.2), List.getElem?_append_left (by omega), hu1.2 36 (by omega)]
                      exact hrw k9 (by omega)
                  · show hset uB 37 (sn d r) r 37 w = _
                    rw [hset_get]
                    by_cases e2 : w = sn d r
                    · rw [if_pos ⟨rfl, e2⟩, ptn_t ht (Or.inr e2)]
                    · rw [if_neg (fun z => e2 z.2), ← hqB, hset_get]
                      by_cases e1 : w = fs d r
                      · rw [if_pos ⟨rfl, e1⟩, ptn_t ht (Or.inl e1)]
                      · rw [if_neg (fun z => e1 z.2), ptn_n (fun z => z.2.elim e1 e2), ← hqA, hset_obj _ _ _ _ (by decide), hset_obj _ _ _ _ (by decide), hu1.2 37 (by omega)]
                        exact hpt w hw
                · exact skip (fun z => c4 (same.mpr z.2.2)) u1 hf9 (by rw [hu1.2 0 (by omega)]) (hu1.2 36 (by omega)) (hu1.2 37 (by omega))
              · exact skip (fun z => c3 (cnd.mpr z.1)) u hfu rfl rfl rfl
      · refine ⟨0, by omega, rfl, rfl, rfl, hf1, ?_, fun k9 hk9 => absurd hk9 (by show ¬ k9 < 0; omega), fun w hw => ?_⟩
        · show t1 0 56 = ((0 : Nat) : Int)
          rw [h1.2 0 (by omega)]
          exact h56
        · show t1 37 w = -1
          rw [h1.2 37 (by omega)]
          exact hz w (by omega)
      · rw [FU_eq]
        show (300 - (0 : Int)).toNat < 20000
        omega
    · rw [gd_pos (by omega), lt_eq, lt_eq, Int.toNat_natCast, iadd_ok (by omega)]
      refine ih _ ⟨m + 1, by omega, by simp, set36 t 37 m (-1) hf (Or.inr rfl), by show hset t 37 m (-1) 0 56 = 0; rw [hset_obj _ _ _ _ (by decide)]; exact h56, fun i hi => ?_⟩ (by dsimp only; omega)
      show hset t 37 m (-1) 37 i = -1
      rw [hset_get]
      split
      · rfl
      · exact hz i (by omega)
  · exact ⟨0, by omega, rfl, set56 τ 0 ⟨fun _ _ _ _ _ _ => rfl, fun _ _ => rfl⟩, by show hset τ 0 56 0 0 56 = 0; exact hset_same _ _ _ _, fun i hi => absurd hi (by omega)⟩
  · rw [FU_eq]
    show (300 - (0 : Int)).toNat < 20000
    omega
end Finds
