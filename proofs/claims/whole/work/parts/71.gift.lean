/-! gift -/
section Gift
variable {s t : Hp} {n b : Nat} {d : ND} {ow : Nat → Int} {D : DL}
def awV (d : ND) (ow : Nat → Int) (D : DL) (w : Nat) : Int := max (al d w) (shv d ow D w)
def gxV (d : ND) (ow : Nat → Int) (D : DL) (r : Nat) : Int := if ow r = -1 then 0 else max 0 (mkd d ow r - awV d ow D (fs d r) - awV d ow D (sn d r))
def gvS (d : ND) (ow : Nat → Int) (D : DL) : Nat → Int
  | 0 => 0
  | w + 1 => gvS d ow D w + (awV d ow D w - shv d ow D w)
theorem awV_rng (hd : NDok d) (ho : owOk d ow) (hD : DLok d D) {w : Nat} (hw : w < dW d) : (0 ≤ awV d ow D w ∧ awV d ow D w ≤ 1119998) ∧ 0 ≤ awV d ow D w - shv d ow D w ∧ awV d ow D w - shv d ow D w ≤ 1040000 := by
  have a := hd.2.2.2.1 w hw
  have c := shv_rng hd ho hD hw
  unfold awV
  omega
theorem gxV_rng (hd : NDok d) (ho : owOk d ow) (hD : DLok d D) (r : Nat) (hr : r < dR d) : 0 ≤ gxV d ow D r ∧ gxV d ow D r ≤ 119998 := by
  have hp := hd.2.2.1 r hr
  have a1 := awV_rng hd ho hD hp.1
  have a2 := awV_rng hd ho hD hp.2.1
  have hm := mkd_rng hd ho hr
  unfold gxV
  split <;> omega
theorem gvS_s (w : Nat) : gvS d ow D (w + 1) = gvS d ow D w + (awV d ow D w - shv d ow D w) := rfl
theorem gvS_rng (hd : NDok d) (ho : owOk d ow) (hD : DLok d D) : ∀ w, w ≤ dW d → 0 ≤ gvS d ow D w ∧ gvS d ow D w ≤ 1040000 * (w : Int)
  | 0, _ => by
    show (0 : Int) ≤ 0 ∧ (0 : Int) ≤ _
    omega
  | w + 1, h => by
    have ih := gvS_rng hd ho hD w (by omega)
    have a := awV_rng hd ho hD (w := w) (by omega)
    rw [gvS_s]
    omega
def gfF (s u : Hp) : Prop := ∀ q, q < 91 ∨ 111 < q → u q = s q
theorem gfF_net {u : Hp} (h : gfF s u) (hN : NetC s n d) : NetC u n d := by
  have hn : n = 50 ∨ n = 4 := hN.1
  exact hN.congr (fun i _ => by rw [h n (by omega)]) (fun q a c => h q (by omega))
theorem gfF_set {u : Hp} (h : gfF s u) {r : Nat} (hS : SetAt s n d ow D r) : SetAt u n d ow D r :=
  ⟨by rw [h 173 (by omega)]; exact hS.1, fun w hw => by rw [h 176 (by omega), h 177 (by omega)]; exact hS.2.1 w hw, by rw [h 173 (by omega)]; exact hS.2.2.1, fun k hk => by rw [h 178 (by omega)]; exact hS.2.2.2 k hk⟩
theorem C_withAlone (hd : NDok d) (hN : NetC s n d) (hS : SetC s n d ow D) {w : Nat} (hw : w < dW d) : F_Deals_withAlone w s = some (awV d ow D w, s) := by
  have hW := hd.1
  have g12 : (0 : Int) ≤ (w : Int) ∧ (w : Int) < 12 := by omega
  have e177 : s 177 w = shv d ow D w := (hS.2.1 w hw).2
  unfold F_Deals_withAlone awV
  rw [hS.1, lt_eq, Int.toNat_natCast, gd_pos hN.1, gd_pos g12, gd_pos g12, Int.toNat_natCast, hN.2.2.2.2.2.1 w hw, e177]
  congr 2
  unfold imax
  split <;> omega
theorem C_gift (hd : NDok d) (ho : owOk d ow) (hD : DLok d D) (hN : NetC s n d) (hV : ViewC s n d ow) (hS : SetC s n d ow D) :
    wp (F_Deals_twiceGift s) (fun v u => ∃ z, cert (dW d) (gX d (gxV d ow D) (dR d)) z ∧ (0 ≤ z ∧ z ≤ 1439976) ∧ v = 2 * gvS d ow D (dW d) + z ∧ gfF s u) := by
  have hW := hd.1
  have hR := hd.2.1
  unfold F_Deals_twiceGift
  rw [hS.1, lt_eq, Int.toNat_natCast, gd_pos hN.1, hN.2.1]
  refine wp_cl (C_begin hd.1 (gxV d ow D)) (fun _ s1 h1 => ?_)
  have hf1 : gfF s s1 := fun q hq => h1.2 q (by omega)
  unfold F_Deals_twiceGift_15
  refine wp_loop (fun a : Int × Int × Hp => ∃ w : Nat, w ≤ dW d ∧ a.1 = gvS d ow D w ∧ a.2.1 = (w : Int) ∧ a.2.2 = s1) (fun a => (300 - a.2.1).toNat) ?_ FU _ ?_ ?_
  · intro a K hp ih
    obtain ⟨v, x, u⟩ := a
    obtain ⟨w, hw, e0, e1, e2⟩ := hp
    dsimp only at e0 e1 e2 ih ⊢
    subst e0 e1 e2
    have hNu := gfF_net hf1 hN
    have hSu := gfF_set hf1 hS
    unfold F_Deals_twiceGift_15_b
    rw [hSu.1, lt_eq, Int.toNat_natCast, gd_pos hN.1, hNu.2.1]
    refine wp_if (fun c => ?_) (fun c => ?_)
    · have ew : w = dW d := by omega
      subst ew
      clear ih
      have hgr := gvS_rng hd ho hD (dW d) (Nat.le_refl _)
      unfold F_Deals_twiceGift_49
      refine wp_loop (fun a : Int × Int × Hp => ∃ r : Nat, r ≤ dR d ∧ a.1 = gvS d ow D (dW d) ∧ a.2.1 = (r : Int) ∧ WtR a.2.2 d (gxV d ow D) r ∧ gfF s a.2.2) (fun a => (300 - a.2.1).toNat) ?_ FU _ ?_ ?_
      · intro a K hp ih
        obtain ⟨v, x, u2⟩ := a
        obtain ⟨r, hr, e0, e1, hwt, hf⟩ := hp
        dsimp only at e0 e1 hwt hf ih ⊢
        subst e0 e1
        have hNu := gfF_net hf hN
        have hSu := gfF_set hf hS
        unfold F_Deals_twiceGift_49_b
        rw [hSu.1, lt_eq, Int.toNat_natCast, gd_pos hN.1, hNu.2.2.1]
        refine wp_if (fun c => ?_) (fun c => ?_)
        · have er : r = dR d := by omega
          subst er
          refine wp_cl (C_great hd (gxV_rng hd ho hD) hwt) (fun z u hu => ?_)
          refine wp_ret ⟨z, hu.1, ⟨hu.2.1, hu.2.2.1⟩, ?_, fun q hq => by rw [hu.2.2.2 q (by omega), hf q hq]⟩
          rw [imul_ok (by omega), iadd_ok (by omega)]
        · have hrR : r < dR d := by omega
          have g30 : (0 : Int) ≤ (r : Int) ∧ (r : Int) < 30 := by omega
          have hp := hd.2.2.1 r hrR
          have hm := mkd_rng hd ho hrR
          have a1 := awV_rng hd ho hD hp.1
          have a2 := awV_rng hd ho hD hp.2.1
          have n6 := hNu.2.2.2.2.2.2.1 r hrR
          have e89 : u2 89 r = if ow r = -1 then 0 else 1 := by rw [hf 89 (by omega)]; exact (hV.2 r hrR).1
          have e90 : u2 90 r = if ow r = -1 then 0 else mkd d ow r := by rw [hf 90 (by omega)]; exact (hV.2 r hrR).2
          have next : ∀ y : Int, imax 0 y = gxV d ow D r → wp (F_Deals_twiceGift_121 K (gvS d ow D (dW d)) (r : Int) (fs d r) (sn d r) y u2) (fun v u => ∃ z, cert (dW d) (gX d (gxV d ow D) (dR d)) z ∧ (0 ≤ z ∧ z ≤ 1439976) ∧ v = 2 * gvS d ow D (dW d) + z ∧ gfF s u) := by
            intro y hy
            unfold F_Deals_twiceGift_121
            rw [hy]
            refine wp_cl (C_weigh hd hrR hwt) (fun _ u hu => ?_)
            rw [lt_eq, iadd_ok (by omega)]
            exact ih _ ⟨r + 1, by omega, rfl, by simp, hu.1, fun q hq => (hu.2 q (by omega)).trans (hf q hq)⟩ (by dsimp only; omega)
          rw [lt_eq, gd_pos hN.1, gd_pos g30, lt_eq, lt_eq, gd_pos hN.1, gd_pos g30, lt_eq, gd_pos g30, Int.toNat_natCast, n6.1, n6.2.1, e89]
          by_cases co : ow r = -1
          · rw [if_pos co, if_pos rfl]
            refine next 0 ?_
            unfold gxV imax
            rw [if_pos co, if_neg (by decide)]
          · rw [if_neg co, if_neg (by decide), gd_pos g30, C_withAlone hd hNu hSu hp.1, cl2_some, C_withAlone hd hNu hSu hp.2.1, cl2_some, e90, if_neg co, isub_ok (a := mkd d ow r) (by omega), isub_ok (by omega)]
            refine next _ ?_
            unfold gxV
            rw [if_neg co, imax0]
      · exact ⟨0, by omega, rfl, rfl, h1.1, hf1⟩
      · rw [FU_eq]
        show (300 - (0 : Int)).toNat < 20000
        omega
    · have hwW : w < dW d := by omega
      have g12 : (0 : Int) ≤ (w : Int) ∧ (w : Int) < 12 := by omega
      have hgr := gvS_rng hd ho hD w (by omega)
      have aw := awV_rng hd ho hD hwW
      have hsr := shv_rng hd ho hD hwW
      have e177 : u 177 w = shv d ow D w := (hSu.2.1 w hwW).2
      rw [C_withAlone hd hNu hSu hwW, cl2_some, gd_pos g12, Int.toNat_natCast, e177, isub_ok (by omega), iadd_ok (a := gvS d ow D w) (by omega), lt_eq, lt_eq, iadd_ok (by omega)]
      exact ih _ ⟨w + 1, by omega, rfl, by simp, rfl⟩ (by dsimp only; omega)
  · exact ⟨0, by omega, rfl, rfl, rfl⟩
  · rw [FU_eq]
    show (300 - (0 : Int)).toNat < 20000
    omega
theorem M_giftF (hd : NDok d) (ho : owOk d ow) (hD : DLok d D) (hN : NetM t b d) (hV : ViewM1 t d ow) (hS : ShM t d ow D) :
    wp (F_M_gift_8 FU (0, 0, t)) (fun v u => (∀ z, cert (dW d) (gX d (gxV d ow D) (dR d)) z → v = 2 * gvS d ow D (dW d) + z) ∧ ∀ q, q ≠ 34 → q ≠ 35 → q ≠ 47 → q ≠ 48 → u q = t q) := by
  have hW := hd.1
  have hR := hd.2.1
  have hb := hN.1
  have net : ∀ s' : Hp, (∀ q, q ≠ 34 → q ≠ 35 → q ≠ 47 → q ≠ 48 → s' q = t q) → NetM s' b d := fun s' h' => hN.congr (by rw [h' 0 (by decide) (by decide) (by decide) (by decide)]) (fun q a1 a2 => h' q (by omega) (by omega) (by omega) (by omega))
  unfold F_M_gift_8
  refine wp_loop (fun a : Int × Int × Hp => ∃ w : Nat, w ≤ dW d ∧ a.1 = 2 * gvS d ow D w ∧ a.2.1 = (w : Int) ∧ (∀ q, q ≠ 34 → q ≠ 35 → q ≠ 47 → q ≠ 48 → a.2.2 q = t q) ∧ ∀ q, q < w → a.2.2 48 q = awV d ow D q - shv d ow D q) (fun a => (300 - a.2.1).toNat) ?_ FU _ ?_ ?_
  · intro a K hp ih
    obtain ⟨v, x, u⟩ := a
    obtain ⟨w, hw, e0, e1, hf, hg⟩ := hp
    dsimp only at e0 e1 hf hg ih ⊢
    subst e0 e1
    have hNu := net u hf
    unfold F_M_gift_8_b
    rw [hNu.2.1, gd_pos (by omega), Int.toNat_natCast, hNu.2.2.1]
    refine wp_if (fun c => ?_) (fun c => ?_)
    · have ew : w = dW d := by omega
      subst ew
      clear ih
      have hgr := gvS_rng hd ho hD (dW d) (Nat.le_refl _)
      unfold F_M_gift_81
      refine wp_loop (fun a : Int × Int × Hp => ∃ k : Nat, k ≤ 144 ∧ a.1 = 2 * gvS d ow D (dW d) ∧ a.2.1 = (k : Int) ∧ (∀ q, q ≠ 34 → q ≠ 35 → q ≠ 47 → q ≠ 48 → a.2.2 q = t q) ∧ (∀ q, q < dW d → a.2.2 48 q = awV d ow D q - shv d ow D q) ∧ ∀ q, q < k → a.2.2 47 q = 0) (fun a => (300 - a.2.1).toNat) ?_ FU _ ?_ ?_
      · intro a K hp ih
        obtain ⟨v, x, u⟩ := a
        obtain ⟨k, hk, e0, e1, hf, hg, hz⟩ := hp
        dsimp only at e0 e1 hf hg hz ih ⊢
        subst e0 e1
        unfold F_M_gift_81_b
        refine wp_if (fun c => ?_) (fun c => ?_)
        · have ek : k = 144 := by omega
          subst ek
          clear ih
          unfold F_M_gift_103
          refine wp_loop (fun a : Int × Int × Hp => ∃ r : Nat, r ≤ dR d ∧ a.1 = 2 * gvS d ow D (dW d) ∧ a.2.1 = (r : Int) ∧ (∀ q, q ≠ 34 → q ≠ 35 → q ≠ 47 → q ≠ 48 → a.2.2 q = t q) ∧ (∀ q, q < dW d → a.2.2 48 q = awV d ow D q - shv d ow D q) ∧ ∀ i j, i < 12 → j < 12 → a.2.2 47 (12 * i + j) = gX d (gxV d ow D) r i j) (fun a => (300 - a.2.1).toNat) ?_ FU _ ?_ ?_
          · intro a K hp ih
            obtain ⟨v, x, u⟩ := a
            obtain ⟨r, hr, e0, e1, hf, hg, hx⟩ := hp
            dsimp only at e0 e1 hf hg hx ih ⊢
            subst e0 e1
            have hNu := net u hf
            unfold F_M_gift_103_b
            rw [hNu.2.1, gd_pos (by omega), Int.toNat_natCast, hNu.2.2.2.1]
            refine wp_if (fun c => ?_) (fun c => ?_)
            · have er : r = dR d := by omega
              subst er
              refine wp_cl (M_doubles (q0 := 47) hd hNu (wt := gX d (gxV d ow D) (dR d)) (fun i j => gX_rng (gxV_rng hd ho hD) (Nat.le_refl _) i j) (fun i j => gX_sym d _ _ i j) (by decide) (by decide) (by omega) hx) (fun z w hz => ?_)
              obtain ⟨z1, z2, z3, z4⟩ := hz
              rw [ladd_ok (by omega), w32_id (by omega)]
              exact wp_ret ⟨fun y hy => by rw [z1 y hy], fun q a1 a2 a3 a4 => by rw [z4 q (by omega)]; exact hf q a1 a2 a3 a4⟩
            · have hrR : r < dR d := by omega
              have g30 : (0 : Int) ≤ (r : Int) ∧ (r : Int) < 30 := by omega
              have hp := hd.2.2.1 r hrR
              have g1 : (0 : Int) ≤ (fs d r : Int) ∧ (fs d r : Int) < 12 := by omega
              have g2 : (0 : Int) ≤ (sn d r : Int) ∧ (sn d r : Int) < 12 := by omega
              have hm := mkd_rng hd ho hrR
              have a1 := awV_rng hd ho hD hp.1
              have a2 := awV_rng hd ho hD hp.2.1
              have x1 := shv_rng hd ho hD hp.1
              have x2 := shv_rng hd ho hD hp.2.1
              have f1 : u 45 (fs d r) = shv d ow D (fs d r) := by rw [hf 45 (by decide) (by decide) (by decide) (by decide)]; exact (hS _ hp.1).2
              have f2 : u 45 (sn d r) = shv d ow D (sn d r) := by rw [hf 45 (by decide) (by decide) (by decide) (by decide)]; exact (hS _ hp.2.1).2
              have v29 : u 29 r = if ow r = -1 then 0 else 1 := by rw [hf 29 (by decide) (by decide) (by decide) (by decide)]; exact (hV r hrR).1
              have v30 : u 30 r = mkd d ow r := by rw [hf 30 (by decide) (by decide) (by decide) (by decide)]; exact (hV r hrR).2
              have next : ∀ y : Int, y = gxV d ow D r → wp (F_M_gift_206 K (2 * gvS d ow D (dW d)) (r : Int) (fs d r) (sn d r) y (iadd (imul 12 (fs d r : Int)) (sn d r : Int)) u) (fun v u => (∀ z, cert (dW d) (gX d (gxV d ow D) (dR d)) z → v = 2 * gvS d ow D (dW d) + z) ∧ ∀ q, q ≠ 34 → q ≠ 35 → q ≠ 47 → q ≠ 48 → u q = t q) := by
                intro y hy
                unfold F_M_gift_206
                rw [ix12 (by omega) (by omega), ix12 (by omega) (by omega), gd_pos (by omega), lt_eq, gd_pos (by omega), gd_pos (by omega), Int.toNat_natCast, Int.toNat_natCast, hset_same, hy, lt_eq, lt_eq, iadd_ok (by omega)]
                refine ih _ ⟨r + 1, by omega, rfl, by simp, fun q b1 b2 b3 b4 => ?_, fun q hq => ?_, fun i j hi hj => ?_⟩ (by dsimp only; omega)
                · dsimp only
                  rw [hset_obj _ _ _ _ b3, hset_obj _ _ _ _ b3]
                  exact hf q b1 b2 b3 b4
                · dsimp only
                  rw [hset_obj _ _ _ _ (by decide), hset_obj _ _ _ _ (by decide)]
                  exact hg q hq
                · dsimp only
                  rw [hset_row, hset_row, gX_succ]
                  dsimp only
                  by_cases c1 : (fs d r = i ∧ sn d r = j) ∨ (fs d r = j ∧ sn d r = i)
                  · rw [if_pos c1]
                    rcases c1 with ⟨y1, y2⟩ | ⟨y1, y2⟩
                    · by_cases c2 : 12 * i + j = 12 * sn d r + fs d r
                      · rw [if_pos c2]
                      · rw [if_neg c2, if_pos (by omega)]
                    · rw [if_pos (by omega)]
                  · rw [if_neg c1, if_neg (by omega), if_neg (by omega)]
                    exact hx i j hi hj
              rw [M_first hd hNu hrR, cl2_some, M_second hd hNu hrR, cl2_some, gd_pos g30, gd_pos g1, gd_pos g2, gd_pos g1, gd_pos g2, Int.toNat_natCast, Int.toNat_natCast, Int.toNat_natCast, v30, f1, f2, hg _ hp.1, hg _ hp.2.1, lsub_ok (a := mkd d ow r) (by omega), lsub_ok (a := mkd d ow r - shv d ow D (fs d r)) (by omega), lsub_ok (a := mkd d ow r - shv d ow D (fs d r) - shv d ow D (sn d r)) (by omega), lsub_ok (by omega), lt_eq, gd_pos g30, v29]
              unfold F_M_gift_205
              by_cases co : ow r = -1
              · rw [if_pos co, if_pos rfl]
                exact next 0 (by unfold gxV; rw [if_pos co])
              · rw [if_neg co, if_neg (by decide)]
                refine wp_if (fun c2 => ?_) (fun c2 => ?_)
                · have c2 := lcmp_le.mp c2
                  exact next 0 (by unfold gxV; rw [if_neg co]; omega)
                · have c2 : ¬ _ := fun z => c2 (lcmp_le.mpr z)
                  exact next _ (by unfold gxV; rw [if_neg co, w32_id (by omega)]; omega)
          · refine ⟨0, by omega, rfl, rfl, hf, hg, fun i j hi hj => ?_⟩
            dsimp only
            rw [hz _ (by omega)]
            rfl
          · rw [FU_eq]
            show (300 - (0 : Int)).toNat < 20000
            omega
        · rw [gd_pos (by omega), lt_eq, lt_eq, Int.toNat_natCast, iadd_ok (by omega)]
          refine ih _ ⟨k + 1, by omega, rfl, by simp, fun q b1 b2 b3 b4 => ?_, fun q hq => ?_, fun q hq => ?_⟩ (by dsimp only; omega)
          · dsimp only
            rw [hset_obj _ _ _ _ b3]
            exact hf q b1 b2 b3 b4
          · dsimp only
            rw [hset_obj _ _ _ _ (by decide)]
            exact hg q hq
          · dsimp only
            rw [hset_row]
            dsimp only
            by_cases e : q = k
            · rw [if_pos e]
            · rw [if_neg e]; exact hz q (by omega)
      · exact ⟨0, by omega, rfl, rfl, hf, hg, fun q h => absurd h (by omega)⟩
      · rw [FU_eq]
        show (300 - (0 : Int)).toNat < 20000
        omega
    · have hwW : w < dW d := by omega
      have g12 : (0 : Int) ≤ (w : Int) ∧ (w : Int) < 12 := by omega
      have hgr := gvS_rng hd ho hD w (by omega)
      have aw := awV_rng hd ho hD hwW
      have a := hd.2.2.2.1 w hwW
      have hsr := shv_rng hd ho hD hwW
      have e45 : u 45 w = shv d ow D w := by rw [hf 45 (by decide) (by decide) (by decide) (by decide)]; exact (hS w hwW).2
      have next : ∀ y : Int, y = awV d ow D w - shv d ow D w → wp (F_M_gift_59 K (2 * gvS d ow D w) (w : Int) y (w : Int) u) (fun v u => (∀ z, cert (dW d) (gX d (gxV d ow D) (dR d)) z → v = 2 * gvS d ow D (dW d) + z) ∧ ∀ q, q ≠ 34 → q ≠ 35 → q ≠ 47 → q ≠ 48 → u q = t q) := by
        intro y hy
        unfold F_M_gift_59
        rw [gd_pos g12, lt_eq, gd_pos g12, Int.toNat_natCast, hset_same, lmul_ok (by omega), ladd_ok (by omega), lt_eq, lt_eq, iadd_ok (by omega)]
        refine ih _ ⟨w + 1, by omega, ?_, by simp, fun q b1 b2 b3 b4 => ?_, fun q hq => ?_⟩ (by dsimp only; omega)
        · dsimp only
          rw [gvS_s]
          omega
        · dsimp only
          rw [hset_obj _ _ _ _ b4]
          exact hf q b1 b2 b3 b4
        · dsimp only
          rw [hset_row]
          dsimp only
          by_cases e : q = w
          · rw [if_pos e, e]; exact hy
          · rw [if_neg e]; exact hg q (by omega)
      rw [gd_pos g12, M_aloneOf hd hNu hwW, cl2_some, Int.toNat_natCast, e45]
      refine wp_if (fun c2 => ?_) (fun c2 => ?_)
      · have c2 := lcmp_ge.mp c2
        exact next 0 (by unfold awV; omega)
      · have c2 : ¬ _ := fun z => c2 (lcmp_ge.mpr z)
        rw [M_aloneOf hd hNu hwW, cl2_some, gd_pos g12, e45, lsub_ok (by omega)]
        exact next _ (by unfold awV; omega)
  · exact ⟨0, by omega, rfl, rfl, fun _ _ _ _ _ => rfl, fun q h => absurd h (by omega)⟩
  · rw [FU_eq]
    show (300 - (0 : Int)).toNat < 20000
    omega
end Gift
section GiftS
theorem S_gift (σ τ : Hp) (h : Inv σ τ) : ∃ (z : Int) (σ' τ' : Hp), F_RD_gift σ = some (z, σ') ∧ F_M_gift τ = some (z, τ') ∧ Inv σ' τ' := by
  obtain ⟨n, b, d, A, kn, now, day, D, hI⟩ := id h
  obtain ⟨g1, g2, g3, g4, g5⟩ := hI.1
  have ho := hI.oo
  obtain ⟨z, s, e, hz, hIs, hS⟩ := C_dealsNow hI
  obtain ⟨v, u, e3, y, hc, hy, hv, hf⟩ := C_gift g1 ho g5 hIs.2.1.1 hIs.2.1.2.2.2.2.2.1 hS
  have hIu : InvAt u τ n b d A kn now day D := by
    have c := hIs.2.1.2.2.2.2.2
    refine hIs.setC (fun q hq => hf q (by have := hq.1; unfold keepC at this; omega)) (fun i _ => by rw [hf 0 (by omega)]) ⟨by rw [hf 88 (by omega)]; exact c.1.1, fun r hr => by rw [hf 89 (by omega), hf 90 (by omega)]; exact c.1.2 r hr⟩ (c.2.congr g1 (by rw [hf 0 (by omega)]) (fun q a x => hf q (by omega)) (by rw [hf 169 (by omega)]; exact c.2.2.2.2))
  obtain ⟨z2, t, e2, hIt, hV, hSh⟩ := hIu.laysAll
  obtain ⟨v4, t4, e4, hm4, hf4⟩ := M_giftF g1 ho g5 hIt.2.2.1.1 hV hSh
  have ev := hm4 y hc
  refine ⟨v, u, t4, ?_, ?_, n, b, d, A, kn, now, day, D, hIt.setM (fun q hq => hf4 q (by unfold keepM at hq; omega) (by unfold keepM at hq; omega) (by unfold keepM at hq; omega) (by unfold keepM at hq; omega)) (fun i _ => by rw [hf4 0 (by decide) (by decide) (by decide) (by decide)])⟩
  · unfold F_RD_gift
    rw [e, cl2_some, gd_pos hz, e3, cl2_some]
  · unfold F_M_gift
    rw [e2, cl2_some, e4, ev, hv]
end GiftS
