/-! on: the class's reading, the check's -/
section On2
variable {σ τ s t : Hp} {n b : Nat} {d : ND} {A : AD} {kn : Int} {now day : Nat} {D : DL}
theorem bAt_in {f : Nat → Int} {N k : Nat} (h : k < N) : bAt f N k = f k := if_pos h
theorem C_imgRead (hd : NDok d) (hN : NetC s n d) {N : Nat} (h1 : s 1 1 = (N : Int)) (hl : N ≤ 900) {f : Nat → Int} (hf0 : f = fun j => s 2 j % 256) :
    wp (F_Img_read n s) (fun z u => (∀ q, q ≠ 180 → q ≠ 183 → q ≠ 184 → u q = s q) ∧ ((z = 1 ∧ ∃ D', OnP d f N D' ∧ u 180 3 = 256 * f 1 + f 2 ∧ rdR u D' 30) ∨ (z = 0 ∧ ¬ ∃ D', OnP d f N D'))) := by
  have hR := hd.2.1
  have hn : n = 50 ∨ n = 4 := hN.1
  have fb : ∀ k, 0 ≤ f k ∧ f k < 256 := fun k => by rw [hf0]; dsimp only; omega
  have e900 : lenOf shC (1 + 1) = 900 := by decide
  unfold F_Img_read F_Img_read_20 F_Bytes_size
  rw [gd_pos hN.1]
  have a0 : F_Bytes_at 1 0 s = some (bAt f N 0, s) := by rw [hf0]; exact C_atA h1 hl 0
  rw [a0, cl2_some, hN.2.2.1]
  refine wp_if (fun c0 => ?_) (fun c0 => ?_)
  · have hN0 : 0 < N := by
      apply Classical.byContradiction
      intro y
      unfold bAt at c0
      rw [if_neg y] at c0
      omega
    rw [bAt_in hN0] at c0
    rw [gd_pos (show isBytes 1 by decide), cl2_some, h1]
    refine wp_if (fun c1 => ?_) (fun c1 => ?_)
    · have hN5 : 5 ≤ N := by omega
      have t1 : F_Bytes_twoAt 1 1 s = some (256 * f 1 + f 2, s) := by
        have := C_two h1 hl (k := 1) (by decide)
        rw [← hf0, bAt_in (show 1 < N by omega), bAt_in (show 1 + 1 < N by omega), two_eq (fb 1) (fb 2)] at this
        exact this
      rw [t1, cl2_some, lt_eq]
      have hf1 : ∀ q, q ≠ 180 → hset s 180 3 (256 * f 1 + f 2) q = s q := fun q hq => hset_obj _ _ _ _ hq
      have hNs : NetC (hset s 180 3 (256 * f 1 + f 2)) n d := hN.congr (fun i _ => by rw [hf1 n (by omega)]) (fun q a c => hf1 q (by omega))
      refine wp_cl (C_readDeals hd hNs (N := N) (f := f) (by rw [hf1 1 (by decide)]; exact h1) hl (by rw [hf1 2 (by decide)]; exact hf0)) (fun v u hu => ?_)
      obtain ⟨hfr, hres⟩ := hu
      have k180 : u 180 3 = 256 * f 1 + f 2 := by rw [hfr 180 (by decide) (by decide), hset_same]
      have fr : ∀ q, q ≠ 180 → q ≠ 183 → q ≠ 184 → u q = s q := fun q a1 a2 a3 => by rw [hfr q a2 a3, hf1 q a1]
      have u1 : u 1 1 = (N : Int) := by rw [fr 1 (by decide) (by decide) (by decide)]; exact h1
      have u2 : f = fun j => u 2 j % 256 := by rw [fr 2 (by decide) (by decide) (by decide)]; exact hf0
      unfold F_Img_read_80 F_Img_read_81
      rw [k180]
      refine wp_if (fun c2 => ?_) (fun c2 => ?_)
      · rw [gd_pos (Or.inl rfl)]
        exact wp_ret ⟨fr, Or.inr ⟨rfl, fun ⟨D', z⟩ => by have := z.2.2.1; omega⟩⟩
      · rcases hres with ⟨z1, z2⟩ | ⟨x, z1, z2, z3⟩
        · rw [if_pos z1, gd_pos (Or.inl rfl)]
          exact wp_ret ⟨fr, Or.inr ⟨rfl, fun ⟨D', z⟩ => by have := z.2.2.2.1; rw [z2] at this; cases this⟩⟩
        · have tl := pOn_told _ _ z1
          rw [z2, if_neg (by omega), gd_pos (show isBytes 1 by decide), cl2_some, u1, iadd_ok (by omega)]
          refine wp_if (fun c3 => ?_) (fun c3 => ?_)
          · have ex : x.1 = N - 2 := by omega
            have hx1 : x.1 < N := by omega
            have hx2 : x.1 + 1 < N := by omega
            have ey : x.1 + 1 = N - 1 := by omega
            have t2 : F_Bytes_twoAt 1 (x.1 : Nat) u = some (256 * f (N - 2) + f (N - 1), u) := by
              have := C_two u1 hl (k := x.1) (by omega)
              rw [← u2, bAt_in hx1, bAt_in hx2, two_eq (fb _) (fb _), ex] at this
              rw [ex, this]
              have : N - 2 + 1 = N - 1 := by omega
              rw [this]
            rw [t2, cl2_some, C_checkOf (show isBytes 1 by decide) u1 (by rw [e900]; exact hl) hl (Nat.le_of_lt hx1), cl2_some]
            have ec : ckV (fun j => u (1 + 1) j % 256) x.1 = ckV f (N - 2) := by
              rw [ex]
              exact ckV_congr _ (fun j _ => by rw [u2])
            rw [ec]
            refine wp_if (fun c4 => ?_) (fun c4 => ?_)
            · rw [gd_pos (Or.inr rfl)]
              refine wp_ret ⟨fr, Or.inl ⟨rfl, x.2, ⟨hN5, c0, by omega, ?_, c4.symm⟩, k180, z3⟩⟩
              rw [z1, ← ex]
            · rw [gd_pos (Or.inl rfl)]
              exact wp_ret ⟨fr, Or.inr ⟨rfl, fun ⟨D', z⟩ => c4 z.2.2.2.2.symm⟩⟩
          · rw [gd_pos (Or.inl rfl)]
            refine wp_ret ⟨fr, Or.inr ⟨rfl, fun ⟨D', z⟩ => ?_⟩⟩
            have := z.2.2.2.1
            rw [z1] at this
            have e := congrArg Prod.fst (Option.some.inj this)
            have e : x.1 = N - 2 := e
            omega
    · exact wp_ret ⟨fun _ _ _ _ => rfl, Or.inr ⟨rfl, fun ⟨D', z⟩ => by have := z.1; omega⟩⟩
  · refine wp_ret ⟨fun _ _ _ _ => rfl, Or.inr ⟨rfl, fun ⟨D', z⟩ => ?_⟩⟩
    have h5 := z.1
    have h0 := z.2.1
    rw [bAt_in (show 0 < N by omega)] at c0
    exact c0 h0
theorem ia1 {k : Nat} (hk : k < 100000) : iadd (k : Int) 1 = ((k + 1 : Nat) : Int) := by
  rw [iadd_ok (by omega)]
  omega
theorem ia2 {k : Nat} (hk : k < 100000) : iadd (k : Int) 2 = ((k + 2 : Nat) : Int) := by
  rw [iadd_ok (by omega)]
  omega
theorem ia3 {k : Nat} (hk : k < 100000) : iadd (k : Int) 3 = ((k + 3 : Nat) : Int) := by
  rw [iadd_ok (by omega)]
  omega
def rdM (τ t : Hp) : Prop := ∀ q, q ≠ 50 → q ≠ 51 → t q = τ q
def rdQ (u : Hp) (E : DL) (k : Nat) : Prop := ∀ q, q < k → u 50 q = (if E.1 q = true then 1 else 0) ∧ (E.1 q = true → u 51 q = E.2 q)
theorem M_isImage (hd : NDok d) (hN : NetM τ b d) {N : Nat} (hl : N ≤ 900) {f : Nat → Int} (hf : ∀ k, k < 900 → τ 1 k = f k) (fb : ∀ k, 0 ≤ f k ∧ f k < 256) :
    wp (F_M_isImage N τ) (fun z u => rdM τ u ∧ ((z = 1 ∧ ∃ D', OnP d f N D' ∧ rdQ u D' (dR d)) ∨ (z = 0 ∧ ¬ ∃ D', OnP d f N D'))) := by
  have hR := hd.2.1
  have hb := hN.1
  have net : ∀ s' : Hp, rdM τ s' → NetM s' b d := fun s' h' => hN.congr (by rw [h' 0 (by decide) (by decide)]) (fun q a1 a2 => h' q (by omega) (by omega))
  unfold F_M_isImage F_M_isImage_46
  refine wp_if (fun c => ?_) (fun c => ?_)
  · exact wp_ret ⟨fun _ _ _ => rfl, Or.inr ⟨rfl, fun ⟨D', z⟩ => by have := z.1; omega⟩⟩
  · have hN5 : 5 ≤ N := by omega
    have f0 := fb 0
    have f1 := fb 1
    have f2 := fb 2
    rw [hN.2.1, gd_pos (by omega), Int.toNat_natCast, hN.2.2.2.1, hf 0 (by omega), hf 1 (by omega), hf 2 (by omega), imul_ok (by omega), iadd_ok (by omega)]
    refine wp_if (fun c0 => ?_) (fun c0 => ?_)
    · refine wp_if (fun c1 => ?_) (fun c1 => ?_)
      · unfold F_M_isImage_52
        refine wp_loop (fun a : Int × Int × Hp => ∃ j : Nat, j ≤ N - 2 ∧ a.1 = ckV f j ∧ a.2.1 = (j : Int) ∧ a.2.2 = τ) (fun a => (1000 - a.2.1).toNat) ?_ FU _ ?_ ?_
        · intro a K hp ih
          obtain ⟨x, y, u⟩ := a
          obtain ⟨j, hj, e0, e1, e2⟩ := hp
          dsimp only at e0 e1 e2 ih ⊢
          subst e0 e1 e2
          unfold F_M_isImage_52_b
          have cr := ckV_rng f j
          have fj := fb j
          have g1 := fb (N - 2)
          have g2 := fb (N - 1)
          have s2 : isub (N : Int) 2 = ((N - 2 : Nat) : Int) := by rw [isub_ok (by omega)]; omega
          have s1 : isub (N : Int) 1 = ((N - 1 : Nat) : Int) := by rw [isub_ok (by omega)]; omega
          rw [s2, s1]
          clear s2 s1
          refine wp_if (fun c => ?_) (fun c => ?_)
          · have ej : j = N - 2 := by omega
            subst ej
            clear ih
            rw [gd_pos (by omega), gd_pos (by omega), Int.toNat_natCast, Int.toNat_natCast, hf (N - 2) (by omega), hf (N - 1) (by omega), imul_ok (by omega), iadd_ok (by omega)]
            refine wp_if (fun c3 => ?_) (fun c3 => ?_)
            · unfold F_M_isImage_116
              refine wp_loop (fun a : Int × Int × Int × Hp => ∃ (r : Nat) (x : Nat × DL), r ≤ dR d ∧ pOn d f N r = some x ∧ a.1 = (x.1 : Nat) ∧ x.1 ≤ N - 2 ∧ a.2.1 = (tkM d x.2 30 r : Nat) ∧ a.2.2.1 = (r : Int) ∧ rdM u a.2.2.2 ∧ rdQ a.2.2.2 x.2 r) (fun a => (30 - a.2.2.1).toNat) ?_ FU _ ?_ ?_
              · intro a K hp ih
                obtain ⟨y1, y2, y3, v⟩ := a
                obtain ⟨r, x, hr, hx, e1, hxl, e2, e3, hfr, hq⟩ := hp
                dsimp only at e1 e2 e3 hfr hq ih ⊢
                subst e1 e2 e3
                have hNv := net v hfr
                have tl := pOn_told _ _ hx
                have s2 : isub (N : Int) 2 = ((N - 2 : Nat) : Int) := by rw [isub_ok (by omega)]; omega
                unfold F_M_isImage_116_b F_M_isImage_300
                rw [s2]
                clear s2
                rw [hNv.2.1, gd_pos (by omega), Int.toNat_natCast, hNv.2.2.2.1]
                refine wp_if (fun c => ?_) (fun c => ?_)
                · have er : r = dR d := by omega
                  subst er
                  refine wp_if (fun c4 => ?_) (fun c4 => ?_)
                  · rw [gd_pos (Or.inr rfl)]
                    refine wp_ret ⟨hfr, Or.inl ⟨rfl, x.2, ⟨hN5, c0, c1, ?_, c3⟩, hq⟩⟩
                    rw [hx]
                    have : x.1 = N - 2 := by omega
                    rw [← this]
                  · rw [gd_pos (Or.inl rfl)]
                    refine wp_ret ⟨hfr, Or.inr ⟨rfl, fun ⟨D', z⟩ => ?_⟩⟩
                    have := z.2.2.2.1
                    rw [hx] at this
                    have e := congrArg Prod.fst (Option.some.inj this)
                    have e : x.1 = N - 2 := e
                    omega
                · have hrR : r < dR d := by omega
                  have g30 : (0 : Int) ≤ (r : Int) ∧ (r : Int) < 30 := by omega
                  have hno : ¬ x.2.1 r = true := fun z => by have := tl.1 r z; omega
                  have hps := pOn_s hx
                  have fail : pOn d f N (r + 1) = none → ¬ ∃ D', OnP d f N D' := by
                    rintro h ⟨D', z⟩
                    have := pOn_none h (dR d - (r + 1))
                    rw [show r + 1 + (dR d - (r + 1)) = dR d by omega, z.2.2.2.1] at this
                    cases this
                  have far : (∀ y, pOn d f N (r + 1) = some y → N - 2 < y.1) → ¬ ∃ D', OnP d f N D' := by
                    rintro h ⟨D', z⟩
                    rcases e : pOn d f N (r + 1) with _ | y
                    · exact fail e ⟨D', z⟩
                    · have g := pOn_grow e (dR d - (r + 1)) (N - 2, D') (by rw [show r + 1 + (dR d - (r + 1)) = dR d by omega]; exact z.2.2.2.1)
                      have := h y e
                      have g : y.1 + (dR d - (r + 1)) ≤ N - 2 := g
                      omega
                  by_cases cx : x.1 < N - 2
                  · rw [if_pos (c := (x.1 : Int) < ((N - 2 : Nat) : Int)) (by omega), gd_pos (by omega), Int.toNat_natCast, hfr 1 (by decide) (by decide), hf x.1 (by omega)]
                    have bx : bAt f N x.1 = f x.1 := bAt_in (by omega)
                    rw [bx] at hps
                    have go : ∀ m : Int, (m = if f x.1 = 1 then 1 else 0) → wp (F_M_isImage_160 K N (x.1 : Nat) (tkM d x.2 30 r : Nat) (r : Nat) m (r : Nat) v) (fun z u_1 => rdM u u_1 ∧ ((z = 1 ∧ ∃ D', OnP d f N D' ∧ rdQ u_1 D' (dR d)) ∨ (z = 0 ∧ ¬ ∃ D', OnP d f N D'))) := by
                      intro m hm
                      have hm2 : m = 0 ∨ m = 1 := by rw [hm]; split <;> simp
                      have hfr2 : rdM u (hset v 50 r m) := fun q a1 a2 => by rw [hset_obj _ _ _ _ a1]; exact hfr q a1 a2
                      have n30 : NetM (hset v 50 r m) b d := net _ hfr2
                      unfold F_M_isImage_160 F_M_isImage_185 F_M_isImage_273 F_M_isImage_282
                      rw [gd_pos g30, lt_eq, Int.toNat_natCast, z1_eq hm2, gd_pos (by omega), Int.toNat_natCast, hfr2 1 (by decide) (by decide), hf x.1 (by omega)]
                      by_cases c1b : f x.1 = 1
                      · rw [if_pos c1b] at hm hps
                        rw [if_pos c1b, lt_eq, gd_pos g30, hset_same, hm, if_neg (by decide), iadd_ok (a := (x.1 : Int)) (b := 1) (by omega), iadd_ok (a := (x.1 : Int) + 1) (by omega)]
                        have s2 : isub (N : Int) 2 = ((N - 2 : Nat) : Int) := by rw [isub_ok (by omega)]; omega
                        rw [s2]
                        clear s2
                        rw [hm] at hfr2 n30
                        refine wp_if (fun c5 => ?_) (fun c5 => ?_)
                        · have hin : x.1 + 5 ≤ N - 2 := by omega
                          have ek : (x.1 : Int) + 1 = ((x.1 + 1 : Nat) : Int) := by omega
                          have hw : F_M_word ((x.1 : Int) + 1) (hset v 50 r 1) = some (nAt f N (x.1 + 1), hset v 50 r 1) := by
                            have k1 : ∀ k, k < 900 → (hset v 50 r 1) 1 k = f k := fun k hk => by rw [hfr2 1 (by decide) (by decide)]; exact hf k hk
                            have b1 : bAt f N (x.1 + 1) = f (x.1 + 1) := bAt_in (by omega)
                            have b2 : bAt f N (x.1 + 1 + 1) = f (x.1 + 1 + 1) := bAt_in (by omega)
                            have b3 : bAt f N (x.1 + 1 + 2) = f (x.1 + 1 + 2) := bAt_in (by omega)
                            have b4 : bAt f N (x.1 + 1 + 3) = f (x.1 + 1 + 3) := bAt_in (by omega)
                            unfold nAt
                            rw [b1, b2, b3, b4, ← word_eq (fb _) (fb _) (fb _) (fb _), ek]
                            unfold F_M_word
                            rw [ia1 (by omega), ia2 (by omega), ia3 (by omega)]
                            rw [gd_pos (by omega), gd_pos (by omega), gd_pos (by omega), gd_pos (by omega), Int.toNat_natCast, Int.toNat_natCast, Int.toNat_natCast, Int.toNat_natCast, k1 _ (by omega), k1 _ (by omega), k1 _ (by omega), k1 _ (by omega)]
                          have hfr3 : rdM u (hset (hset v 50 r 1) 51 r (nAt f N (x.1 + 1))) := fun q a1 a2 => by rw [hset_obj _ _ _ _ a2]; exact hfr2 q a1 a2
                          have hN3 := net _ hfr3
                          have hp := hd.2.2.1 r hrR
                          have hW := hd.1
                          have hm := tkM_lt (d := d) (D := x.2) hd 30 r hr
                          have hpl := prM_l12 hd hrR
                          have p1 := pow_le12 (k := fs d r) (by omega)
                          have p2 := pow_le12 (k := sn d r) (by omega)
                          have epr : ior (ishl 1 (fs d r : Int)) (ishl 1 (sn d r : Int)) = ((prM d r : Nat) : Int) := by
                            rw [ishl_1 (by omega), ishl_1 (by omega), Int.toNat_natCast, Int.toNat_natCast, ior_nn (by omega) (by omega), Int.toNat_natCast, Int.toNat_natCast]
                            rfl
                          rw [hw, cl2_some, gd_pos g30, lt_eq, lt_eq, M_first hd hN3 hrR, cl2_some, M_second hd hN3 hrR, cl2_some, epr, lt_eq, iand_nn (by omega) (by omega), Int.toNat_natCast, Int.toNat_natCast, gd_pos g30, hset_same, M_is, cl2_some]
                          clear epr hw
                          by_cases c2 : tkM d x.2 30 r &&& prM d r = 0
                          · rw [if_pos (c := ((tkM d x.2 30 r &&& prM d r : Nat) : Int) = 0) (by omega)]
                            by_cases c4 : -1000000 ≤ nAt f N (x.1 + 1) ∧ nAt f N (x.1 + 1) ≤ 1000000
                            · rw [if_pos ⟨c2, c4.1, c4.2⟩] at hps
                              rw [if_pos c4, if_neg (by decide), ior_nn (by omega) (by omega), Int.toNat_natCast, Int.toNat_natCast, lt_eq, lt_eq, iadd_ok (by omega)]
                              refine ih _ ⟨r + 1, (x.1 + 5, addD x.2 r (nAt f N (x.1 + 1))), by omega, hps, by dsimp only; omega, hin, by dsimp only; rw [tk_add (by omega) tl.1], by simp, hfr3, fun q hq2 => ?_⟩ (by dsimp only; omega)
                              dsimp only
                              rw [hset_obj _ _ _ _ (by decide), hset_row, hset_row, hset_obj _ _ _ _ (by decide)]
                              dsimp only
                              by_cases e : q = r
                              · rw [if_pos e, if_pos (addD_at.mpr (Or.inr e)), if_pos e]
                                refine ⟨rfl, fun _ => ?_⟩
                                show _ = if q = r then _ else _
                                rw [if_pos e]
                              · rw [if_neg e, if_neg e]
                                have h := hq q (by omega)
                                by_cases cq : x.2.1 q = true
                                · rw [if_pos (addD_at.mpr (Or.inl cq))]
                                  rw [if_pos cq] at h
                                  refine ⟨h.1, fun _ => ?_⟩
                                  show _ = if q = r then _ else _
                                  rw [if_neg e]
                                  exact h.2 cq
                                · have no : ¬ (addD x.2 r (nAt f N (x.1 + 1))).1 q = true := fun z => (addD_at.mp z).elim cq e
                                  rw [if_neg no]
                                  rw [if_neg cq] at h
                                  exact ⟨h.1, fun z => absurd z no⟩
                            · rw [if_neg (fun z => c4 z.2)] at hps
                              rw [if_neg c4, if_pos rfl]
                              exact wp_ret ⟨hfr3, Or.inr ⟨rfl, fail hps⟩⟩
                          · rw [if_neg (fun z => c2 z.1)] at hps
                            rw [if_neg (c := ((tkM d x.2 30 r &&& prM d r : Nat) : Int) = 0) (by omega)]
                            exact wp_ret ⟨hfr3, Or.inr ⟨rfl, fail hps⟩⟩
                        · refine wp_ret ⟨hfr2, Or.inr ⟨rfl, far (fun y hy => ?_)⟩⟩
                          rw [hps] at hy
                          split at hy
                          · cases hy
                            show N - 2 < x.1 + 5
                            omega
                          · cases hy
                      · rw [if_neg c1b] at hm hps
                        rw [if_neg c1b, gd_pos (by omega)]
                        by_cases c5 : f x.1 = 255
                        · rw [if_pos c5] at hps
                          rw [if_pos c5, lt_eq, gd_pos g30, hset_same, if_pos hm, lt_eq, iadd_ok (by omega), iadd_ok (by omega)]
                          refine ih _ ⟨r + 1, (x.1 + 1, x.2), by omega, hps, by dsimp only; omega, by show x.1 + 1 ≤ N - 2; omega, by dsimp only; rw [tk_keep tl.1], by simp, hfr2, fun q hq2 => ?_⟩ (by dsimp only; omega)
                          dsimp only
                          rw [hset_row, hset_obj _ _ _ _ (by decide)]
                          dsimp only
                          by_cases e : q = r
                          · rw [if_pos e, if_neg (by rw [e]; exact hno)]
                            exact ⟨hm, fun z => absurd z (by rw [e]; exact hno)⟩
                          · rw [if_neg e]
                            exact hq q (by omega)
                        · rw [if_neg c5] at hps
                          rw [if_neg c5]
                          exact wp_ret ⟨hfr2, Or.inr ⟨rfl, fail hps⟩⟩
                    refine wp_if (fun c6 => go 1 (by rw [if_pos c6])) (fun c6 => go 0 (by rw [if_neg c6]))
                  · rw [if_neg (by omega)]
                    refine wp_ret ⟨hfr, Or.inr ⟨rfl, far (fun y hy => ?_)⟩⟩
                    have := pOn_grow hx 1 y hy
                    omega
              · exact ⟨0, (3, noD), by omega, rfl, rfl, by show 3 ≤ N - 2; omega, rfl, rfl, fun _ _ _ => rfl, fun q h => absurd h (by omega)⟩
              · rw [FU_eq]
                show (30 - (0 : Int)).toNat < 20000
                omega
            · exact wp_ret ⟨fun _ _ _ => rfl, Or.inr ⟨rfl, fun ⟨D', z⟩ => c3 z.2.2.2.2⟩⟩
          · rw [gd_pos (by omega), Int.toNat_natCast, hf j (by omega), imul_ok (by omega), iadd_ok (by omega), irem_nn (by omega), lt_eq, lt_eq, iadd_ok (by omega)]
            exact ih _ ⟨j + 1, by omega, rfl, by simp, rfl⟩ (by dsimp only; omega)
        · exact ⟨0, by omega, rfl, rfl, rfl⟩
        · rw [FU_eq]
          show (1000 - (0 : Int)).toNat < 20000
          omega
      · exact wp_ret ⟨fun _ _ _ => rfl, Or.inr ⟨rfl, fun ⟨D', z⟩ => c1 z.2.2.1⟩⟩
    · exact wp_ret ⟨fun _ _ _ => rfl, Or.inr ⟨rfl, fun ⟨D', z⟩ => c0 z.2.1⟩⟩
end On2
