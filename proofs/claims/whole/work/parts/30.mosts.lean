/-! the check's mosts and finds -/
theorem clear_lt {m u : Nat} (h : m.testBit u = true) : m ^^^ (m &&& 2 ^ u) < m := by
  have h1 := clear_le m u
  have h2 : m ^^^ (m &&& 2 ^ u) ≠ m := fun e => by
    have h3 : bt (m ^^^ (m &&& 2 ^ u)) u = bt m u := by rw [e]
    rw [bt_clear] at h3
    have h4 : bt m u = true := h
    rw [h4] at h3
    exact (rmv_at.mp h3).2 rfl
  omega
section Mosts
variable {d : ND} {ow : Nat → Int} {b : Nat}
def gpA (d : ND) (ow : Nat → Int) (lo r a c : Nat) : Int := if rdO d a c r < (lo : Int) then 0 else gnd d ow (rdO d a c r).toNat
theorem gpA_succ (d : ND) (ow : Nat → Int) {lo r : Nat} (h : lo ≤ r) (a c : Nat) : gpA d ow lo (r + 1) a c = if (fs d r = a ∧ sn d r = c) ∨ (fs d r = c ∧ sn d r = a) then gnd d ow r else gpA d ow lo r a c := by
  have e : rdO d a c (r + 1) = if (fs d r = a ∧ sn d r = c) ∨ (fs d r = c ∧ sn d r = a) then (r : Int) else rdO d a c r := rfl
  unfold gpA
  rw [e]
  by_cases h : (fs d r = a ∧ sn d r = c) ∨ (fs d r = c ∧ sn d r = a)
  · rw [if_pos h, if_pos h, if_neg (by omega)]
    rfl
  · rw [if_neg h, if_neg h]
theorem gpA_0 (d : ND) (ow : Nat → Int) (lo a c : Nat) : gpA d ow lo lo a c = 0 := by
  unfold gpA
  rcases rdO_cases d a c lo with ⟨h1, h2⟩ | ⟨q, h1, h2, h3⟩
  · rw [h1, if_pos (by omega)]
  · rw [h2, if_pos (by omega)]
def ViewM1 (t : Hp) (d : ND) (ow : Nat → Int) : Prop := ∀ r, r < dR d → t 29 r = (if ow r = -1 then 0 else 1) ∧ t 30 r = mkd d ow r
def MostM (s : Hp) (d : ND) (ow : Nat → Int) (lo : Nat) : Prop := (∀ m, m < 2 ^ dW d → s 32 m = bR d ow lo m) ∧ ∀ a c, a < 12 → c < 12 → s 33 (12 * a + c) = gab d ow lo a c
theorem M_sets {τ : Hp} {lo : Nat} {a1 : Int} (hd : NDok d) (hN : NetM τ b d) (ho : owOk d ow) {s0 : Hp} (h0 : fr 32 33 τ s0) (hz : s0 32 0 = 0) (hg : ∀ a c, a < 12 → c < 12 → s0 33 (12 * a + c) = gab d ow lo a c) :
    wp (F_M_mosts_102 a1 FU (1, s0)) (fun _ s => MostM s d ow lo ∧ fr 32 33 τ s) := by
  have hb := hN.1
  have hW := hd.1
  have hpw := pow_le12 hd.1
  have hgl := gab_le hd ho lo
  unfold F_M_mosts_102
  refine wp_loop (fun a : Int × Hp => ∃ m : Nat, 1 ≤ m ∧ m ≤ 2 ^ dW d ∧ a.1 = (m : Int) ∧ fr 32 33 τ a.2 ∧ (∀ i, i < m → a.2 32 i = bR d ow lo i) ∧ ∀ a' c', a' < 12 → c' < 12 → a.2 33 (12 * a' + c') = gab d ow lo a' c') (fun a => (((2 ^ dW d : Nat) : Int) - a.1).toNat) ?_ FU _ ?_ ?_
  · intro a k hP ih
    obtain ⟨x, s⟩ := a
    obtain ⟨m, hm1, hm2, e0, hf, hm, hgs⟩ := hP
    dsimp only at e0 hf hm hgs ih ⊢
    subst e0
    have hNs : ∀ t, fr 32 33 τ t → NetM t b d := fun t ht => hN.congr (by rw [ht 0 (by omega)]) (fun q a1 a2 => ht q (by omega))
    unfold F_M_mosts_102_b
    rw [(hNs s hf).2.1, gd_pos (by omega), Int.toNat_natCast, (hNs s hf).2.2.1, ishl_1 (by omega), Int.toNat_natCast]
    refine wp_if (fun c => ?_) (fun c => ?_)
    · refine wp_ret ⟨⟨fun i hi => hm i (by omega), hgs⟩, hf⟩
    · have hmW : m < 2 ^ dW d := by omega
      unfold F_M_mosts_119
      refine wp_loop (fun a : Int × Int × Hp => ∃ u : Nat, u ≤ dW d ∧ a.1 = (m : Int) ∧ a.2.1 = (u : Int) ∧ a.2.2 = s ∧ ∀ j, j < u → m.testBit j = false) (fun a => (300 - a.2.1).toNat) ?_ FU _ ?_ ?_
      · intro a k1 hP2 ih2
        obtain ⟨y, z, t⟩ := a
        obtain ⟨u, hu, e1, e2, e3, hlow⟩ := hP2
        dsimp only at e1 e2 e3 ih2 ⊢
        subst e1 e2 e3
        unfold F_M_mosts_119_b
        rw [bit_at (by omega) (by omega), Int.toNat_natCast, Int.toNat_natCast]
        by_cases hu1 : m.testBit u = true
        · have huW : u < dW d := by
            apply Decidable.byContradiction
            intro h9
            have := bt_out hmW (x := u) (by omega)
            unfold bt at this
            rw [hu1] at this
            cases this
          have hcl := clear_lt hu1
          have hbt : bt (m ^^^ (m &&& 2 ^ u)) = rmv (bt m) u := bt_clear m u
          have hp2 := pow_le12 (k := u) (by omega)
          rw [if_pos hu1, if_neg (by decide), ishl_1 (by omega), Int.toNat_natCast, iandnot_nn (by omega) (by omega), Int.toNat_natCast, Int.toNat_natCast]
          generalize hrest : m ^^^ (m &&& 2 ^ u) = rest at hcl hbt ⊢
          rw [lt_eq, gd_pos (by omega), gd_pos (by omega), Int.toNat_natCast, hm rest hcl, lt_eq, lt_eq, iadd_ok (by omega)]
          have t0 : Top (Nm (gab d ow lo) (dW d) (rmv (bt m) u)) (bR d ow lo rest) := by
            rw [← hbt]
            exact bR_top d ow lo (by omega)
          let G : Nat → Int → Nat := fun v kk => if bt m v = true ∧ v ≠ u ∧ 0 < gab d ow lo v u then Nm (gab d ow lo) (dW d) (rmv (rmv (bt m) u) v) (kk - gab d ow lo v u) else 0
          have tstart : ∀ w, w ≤ u + 1 → Top (pS (Nm (gab d ow lo) (dW d) (rmv (bt m) u)) G w) (bR d ow lo rest) := by
            intro w
            induction w with
            | zero => exact fun _ => t0
            | succ w ihw =>
              intro hw
              refine pS_zero (ihw (by omega)) (fun kk => if_neg (fun z => ?_))
              by_cases e : w = u
              · exact z.2.1 e
              · have h9 := hlow w (by omega)
                have h8 : m.testBit w = true := z.1
                rw [h9] at h8
                cases h8
          unfold F_M_mosts_160
          refine wp_loop (fun a : Int × Int × Int × Int × Hp => ∃ w : Nat, ∃ v : Int, u + 1 ≤ w ∧ w ≤ dW d ∧ a.1 = (m : Int) ∧ a.2.1 = (u : Int) ∧ a.2.2.1 = (rest : Int) ∧ a.2.2.2.1 = (w : Int) ∧ fr 32 33 τ a.2.2.2.2 ∧ (∀ i, i < m → a.2.2.2.2 32 i = bR d ow lo i) ∧ (∀ a' c', a' < 12 → c' < 12 → a.2.2.2.2 33 (12 * a' + c') = gab d ow lo a' c') ∧ a.2.2.2.2 32 m = v ∧ Top (pS (Nm (gab d ow lo) (dW d) (rmv (bt m) u)) G w) v) (fun a => (300 - a.2.2.2.1).toNat) ?_ FU _ ?_ ?_
          · intro a k2 hP3 ih3
            obtain ⟨x1, x2, x3, x4, t1⟩ := a
            obtain ⟨w, v, hw1, hw2, e1, e2, e3, e4, hf1, hm9, hg1, hv, ht⟩ := hP3
            dsimp only at e1 e2 e3 e4 hf1 hm9 hg1 hv ih3 ⊢
            subst e1 e2 e3 e4
            unfold F_M_mosts_160_b
            rw [(hNs t1 hf1).2.1, gd_pos (by omega), Int.toNat_natCast, (hNs t1 hf1).2.2.1]
            refine wp_if (fun c2 => ?_) (fun c2 => ?_)
            · have ew : w = dW d := by omega
              subst ew
              rw [lt_eq, iadd_ok (by omega)]
              refine ih _ ⟨m + 1, by omega, by omega, by simp, hf1, fun i hi => ?_, hg1⟩ (by dsimp only; omega)
              show t1 32 i = _
              by_cases e : i = m
              · subst e
                rw [hv]
                refine Top_uniq (Top_ext (fun kk => ?_) ht) (bR_top d ow lo hmW)
                exact (Nm_any (S := bt i) (gab_sym d ow lo) huW hu1).symm
              · exact hm9 i (by omega)
            · have hwW : w < dW d := by omega
              have next : ∀ t2 v', fr 32 33 τ t2 → (∀ i, i < m → t2 32 i = bR d ow lo i) → (∀ a' c', a' < 12 → c' < 12 → t2 33 (12 * a' + c') = gab d ow lo a' c') → t2 32 m = v' → Top (pS (Nm (gab d ow lo) (dW d) (rmv (bt m) u)) G (w + 1)) v' → wp (F_M_mosts_259 k2 a1 (m : Int) (u : Int) (rest : Int) (w : Int) t2) (fun _ s => MostM s d ow lo ∧ fr 32 33 τ s) := by
                intro t2 v' q1 q2 q3 q4 q5
                unfold F_M_mosts_259
                rw [lt_eq, iadd_ok (by omega)]
                exact ih3 _ ⟨w + 1, v', by omega, by omega, rfl, rfl, rfl, by simp, q1, q2, q3, q4, q5⟩ (by dsimp only; omega)
              have hrw : rest.testBit w = true ↔ (bt m w = true ∧ w ≠ u) := by
                have : rest.testBit w = rmv (bt m) u w := by rw [← hbt]; rfl
                rw [this]
                exact rmv_at
              rw [bit_at (by omega) (by omega), Int.toNat_natCast, Int.toNat_natCast]
              by_cases c3 : rest.testBit w = true
              · have hgw := hgl w u
                rw [if_pos c3, if_neg (by decide), ix12 (by omega) (by omega), gd_pos (by omega), Int.toNat_natCast, hg1 u w (by omega) (by omega), gab_sym]
                refine wp_if (fun c4 => ?_) (fun c4 => ?_)
                · exact next t1 v hf1 hm9 hg1 hv (pS_zero ht (fun kk => if_neg (fun z => absurd z.2.2 (by omega))))
                · have hp3 := pow_le12 (k := w) (by omega)
                  have hcl2 := clear_le rest w
                  have hbt2 : bt (rest ^^^ (rest &&& 2 ^ w)) = rmv (rmv (bt m) u) w := by rw [bt_clear, hbt]
                  rw [gd_pos (by omega), ishl_1 (by omega), Int.toNat_natCast, iandnot_nn (by omega) (by omega), Int.toNat_natCast, Int.toNat_natCast]
                  generalize hr2 : rest ^^^ (rest &&& 2 ^ w) = rest2 at hcl2 hbt2 ⊢
                  have b2 := bR_rng hd ho lo (m := rest2) (by omega)
                  have tp : Top (pS (Nm (gab d ow lo) (dW d) (rmv (bt m) u)) G (w + 1)) (max v (bR d ow lo rest2 + gab d ow lo w u)) := by
                    have t9 := bR_top d ow lo (m := rest2) (by omega)
                    rw [hbt2] at t9
                    exact pS_add ht t9 (fun kk => if_pos ⟨(hrw.mp c3).1, (hrw.mp c3).2, by omega⟩)
                  rw [gd_pos (by omega), Int.toNat_natCast, hm9 rest2 (by omega), lt_eq, iadd_ok (by omega), gd_pos (by omega), Int.toNat_natCast, hv]
                  have upd : ∀ v9 : Int, v9 = max v (bR d ow lo rest2 + gab d ow lo w u) → wp (F_M_mosts_258 k2 a1 (m : Int) (u : Int) (rest : Int) (w : Int) v9 (m : Int) t1) (fun _ s => MostM s d ow lo ∧ fr 32 33 τ s) := by
                    intro v9 hv9
                    unfold F_M_mosts_258
                    rw [gd_pos (by omega), Int.toNat_natCast, lt_eq]
                    refine next _ v9 (fr_set hf1 (by omega)) (fun i hi => by rw [hset_get, if_neg (by omega)]; exact hm9 i hi) (fun a' c' h1 h2 => by rw [hset_obj _ _ _ _ (by decide)]; exact hg1 a' c' h1 h2) (hset_same _ _ _ _) ?_
                    rw [hv9]
                    exact tp
                  refine wp_if (fun c5 => ?_) (fun c5 => ?_)
                  · rw [gd_pos (by omega)]
                    exact upd v (by omega)
                  · exact upd _ (by omega)
              · rw [if_neg c3, if_pos rfl]
                exact next t1 v hf1 hm9 hg1 hv (pS_zero ht (fun kk => if_neg (fun z => c3 (hrw.mpr ⟨z.1, z.2.1⟩))))
          · refine ⟨u + 1, bR d ow lo rest, Nat.le_refl _, by omega, rfl, rfl, rfl, by simp, fr_set hf (by omega), fun i hi => by show hset t 32 m _ 32 i = _; rw [hset_get, if_neg (by omega)]; exact hm i hi, fun a' c' h1 h2 => by show hset t 32 m (bR d ow lo rest) 33 (12 * a' + c') = _; rw [hset_obj _ _ _ _ (by decide)]; exact hgs a' c' h1 h2, hset_same _ _ _ _, tstart (u + 1) (Nat.le_refl _)⟩
          · rw [FU_eq]
            show (300 - ((u : Int) + 1)).toNat < 20000
            omega
        · have hu2 : m.testBit u = false := by simpa using hu1
          have huW : u < dW d := by
            apply Decidable.byContradiction
            intro h9
            have : m = 0 := by
              apply Nat.eq_of_testBit_eq
              intro i
              rw [Nat.zero_testBit]
              by_cases h8 : i < u
              · exact hlow i h8
              · exact bt_out hmW (x := i) (by omega)
            omega
          rw [if_neg hu1, if_pos rfl, lt_eq, iadd_ok (by omega)]
          refine ih2 _ ⟨u + 1, by omega, rfl, by simp, rfl, fun j hj => ?_⟩ (by dsimp only; omega)
          by_cases e : j = u
          · subst e; exact hu2
          · exact hlow j (by omega)
      · exact ⟨0, by omega, rfl, rfl, rfl, fun j hj => absurd hj (by omega)⟩
      · rw [FU_eq]
        show (300 - (0 : Int)).toNat < 20000
        omega
  · refine ⟨1, Nat.le_refl _, by omega, rfl, h0, fun i hi => ?_, hg⟩
    have : i = 0 := by omega
    subst this
    show s0 32 0 = _
    rw [hz]
    have h8 := bR_top d ow lo (m := 0) (by omega)
    have z0 : ∀ n9 k9, Nm (gab d ow lo) n9 (bt 0) k9 = if k9 = 0 then 1 else 0 := by
      intro n9
      induction n9 with
      | zero => intro k9; rfl
      | succ n9 ih9 =>
        intro k9
        rw [Nm_out (by unfold bt; rw [Nat.zero_testBit]; decide)]
        exact ih9 k9
    have h7 := h8.1
    rw [z0] at h7
    by_cases e : bR d ow lo 0 = 0
    · exact e.symm
    · rw [if_neg e] at h7
      exact absurd rfl h7
  · rw [FU_eq]
    show (((2 ^ dW d : Nat) : Int) - 1).toNat < 20000
    omega
theorem M_mosts {τ : Hp} {lo : Nat} (hd : NDok d) (hN : NetM τ b d) (ho : owOk d ow) (hV : ViewM1 τ d ow) (hlo : lo ≤ dR d) : wp (F_M_mosts ((lo : Int) - 1) τ) (fun _ s => MostM s d ow lo ∧ fr 32 33 τ s) := by
  have hb := hN.1
  have hR := hd.2.1
  have hW := hd.1
  unfold F_M_mosts F_M_mosts_2
  refine wp_loop (fun a : Int × Hp => ∃ m : Nat, m ≤ 144 ∧ a.1 = (m : Int) ∧ fr 32 33 τ a.2 ∧ ∀ i, i < m → a.2 33 i = 0) (fun a => (300 - a.1).toNat) ?_ FU _ ?_ ?_
  · intro a k hp ih
    obtain ⟨x, t⟩ := a
    obtain ⟨m, hm, e0, hf, hz⟩ := hp
    dsimp only at e0 hf hz ih ⊢
    subst e0
    unfold F_M_mosts_2_b
    refine wp_if (fun g => ?_) (fun g => ?_)
    · have em : m = 144 := by omega
      subst em
      rw [lt_eq, iadd_ok (by omega), show (lo : Int) - 1 + 1 = (lo : Int) by omega]
      unfold F_M_mosts_26
      refine wp_loop (fun a : Int × Hp => ∃ r : Nat, lo ≤ r ∧ r ≤ dR d ∧ a.1 = (r : Int) ∧ fr 32 33 τ a.2 ∧ ∀ a' c', a' < 12 → c' < 12 → a.2 33 (12 * a' + c') = gpA d ow lo r a' c') (fun a => (300 - a.1).toNat) ?_ FU _ ?_ ?_
      · intro a k2 hp2 ih2
        obtain ⟨y, u⟩ := a
        obtain ⟨r, hr1, hr2, e1, hfu, hg⟩ := hp2
        dsimp only at e1 hfu hg ih2 ⊢
        subst e1
        have net : ∀ s', fr 32 33 τ s' → NetM s' b d := fun s' h' => hN.congr (by rw [h' 0 (by omega)]) (fun q a1 a2 => h' q (by omega))
        have vw : ∀ s', fr 32 33 τ s' → ViewM1 s' d ow := fun s' h' r' hr' => by rw [h' 29 (by omega), h' 30 (by omega)]; exact hV r' hr'
        have n1 := net u hfu
        have v1 := vw u hfu
        unfold F_M_mosts_26_b
        rw [n1.2.1, gd_pos (by omega), Int.toNat_natCast, n1.2.2.2.1]
        refine wp_if (fun c => ?_) (fun c => ?_)
        · have er : r = dR d := by omega
          subst er
          rw [lt_eq]
          exact M_sets hd hN ho (fr_set hfu (by omega)) (hset_same _ _ _ _) (fun a' c' h1 h2 => by rw [hset_obj _ _ _ _ (by decide), hg a' c' h1 h2]; rfl)
        · have hrR : r < dR d := by omega
          have hpr := hd.2.2.1 r hrR
          rw [M_first hd n1 hrR, cl2_some, M_second hd n1 hrR, cl2_some, M_gainOf hd n1 ho hrR (v1 r hrR).1 (v1 r hrR).2, cl2_some, ix12 (by omega) (by omega), gd_pos (by omega), Int.toNat_natCast, lt_eq]
          have f2 : fr 32 33 τ (hset u 33 (12 * fs d r + sn d r) (gnd d ow r)) := fr_set hfu (by omega)
          generalize hq2 : hset u 33 (12 * fs d r + sn d r) (gnd d ow r) = u2 at f2 ⊢
          have n2 := net u2 f2
          have v2 := vw u2 f2
          rw [M_second hd n2 hrR, cl2_some, M_first hd n2 hrR, cl2_some, M_gainOf hd n2 ho hrR (v2 r hrR).1 (v2 r hrR).2, cl2_some, ix12 (by omega) (by omega), gd_pos (by omega), Int.toNat_natCast, lt_eq, lt_eq, iadd_ok (by omega)]
          refine ih2 _ ⟨r + 1, by omega, by omega, by simp, fr_set f2 (by omega), fun x y hx hy => ?_⟩ (by dsimp only; omega)
          show hset u2 33 (12 * sn d r + fs d r) (gnd d ow r) 33 (12 * x + y) = _
          rw [gpA_succ d ow hr1, hset_get, ← hq2, hset_get, hg x y hx hy]
          by_cases p1 : sn d r = x ∧ fs d r = y
          · rw [if_pos ⟨rfl, by omega⟩, if_pos (Or.inr ⟨p1.2, p1.1⟩)]
          · rw [if_neg (fun z => p1 (by omega))]
            by_cases p2 : fs d r = x ∧ sn d r = y
            · rw [if_pos ⟨rfl, by omega⟩, if_pos (Or.inl p2)]
            · rw [if_neg (fun z => p2 (by omega)), if_neg (fun z => z.elim p2 (fun q => p1 ⟨q.2, q.1⟩))]
      · refine ⟨lo, Nat.le_refl _, hlo, rfl, hf, fun x y hx hy => ?_⟩
        show t 33 (12 * x + y) = _
        rw [hz _ (by omega), gpA_0]
      · rw [FU_eq]
        show (300 - (lo : Int)).toNat < 20000
        omega
    · rw [gd_pos (by omega), lt_eq, lt_eq, Int.toNat_natCast, iadd_ok (by omega)]
      refine ih _ ⟨m + 1, by omega, by simp, fr_set hf (by omega), fun i hi => ?_⟩ (by dsimp only; omega)
      show hset t 33 m 0 33 i = 0
      rw [hset_get]
      split
      · rfl
      · exact hz i (by omega)
  · exact ⟨0, by omega, rfl, fr_rfl, fun i hi => absurd hi (by omega)⟩
  · rw [FU_eq]
    show (300 - (0 : Int)).toNat < 20000
    omega
end Mosts
