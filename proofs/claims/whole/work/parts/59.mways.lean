/-! ways: the check's counting -/
section MWays
variable {d : ND} {ow : Nat → Int} {b : Nat}
theorem clear_eq {m u : Nat} (h : m.testBit u = true) : m ^^^ (m &&& 2 ^ u) = m - 2 ^ u := by
  apply Nat.eq_of_testBit_eq
  intro i
  have e : bt (m ^^^ (m &&& 2 ^ u)) i = bt (m - 2 ^ u) i := by rw [bt_clear, (sub_bt h).1]
  exact e
theorem iclear {m u : Nat} (hm : m < 4096) (hu : u < 12) (h : m.testBit u = true) : iand (m : Int) (ixor (ishl 1 (u : Int)) (-1)) = ((m - 2 ^ u : Nat) : Int) := by
  have p := pow_le12 (k := u) (by omega)
  rw [ishl_1 (by omega), Int.toNat_natCast, iandnot_nn (by omega) (by omega), Int.toNat_natCast, Int.toNat_natCast, clear_eq h]
/-- the term of u in the rows of m, v taken first -/
def mT (d : ND) (ow : Nat → Int) (m v u : Nat) : Nat := if bt m u = true ∧ u ≠ v ∧ 0 < gpd d ow u v then (if bR d ow 0 (m - 2 ^ v - 2 ^ u) + gpd d ow u v = bR d ow 0 m then Nw (gpd d ow) (dW d) (m - 2 ^ v - 2 ^ u) else 0) else 0
def mS (d : ND) (ow : Nat → Int) (m v o : Nat) : Nat := (if bR d ow 0 (m - 2 ^ v) = bR d ow 0 m then Nw (gpd d ow) (dW d) (m - 2 ^ v) else 0) + sm o (fun u => mT d ow m v u)
theorem mS_succ (m v o : Nat) : mS d ow m v (o + 1) = mS d ow m v o + mT d ow m v o := by
  unfold mS
  show _ + (sm o (fun u => mT d ow m v u) + mT d ow m v o) = _
  omega
theorem mS_all {m v : Nat} (hm : m < 2 ^ dW d) (hv : v < dW d) (hb : m.testBit v = true) : mS d ow m v (dW d) = Nw (gpd d ow) (dW d) m := by
  have R := (ways_rec (g := gpd d ow) (W := dW d) (fun x y => gpd_sym d ow x y) hm hv hb).1
  rw [R]
  unfold mS
  rw [bRF, bRF]
  congr 1
  refine sm_congr (fun u hu => ?_)
  unfold mT
  rw [bRF, bRF]
theorem mS_low {m v : Nat} (hl : ∀ j, j < v → m.testBit j = false) : mS d ow m v (v + 1) = if bR d ow 0 (m - 2 ^ v) = bR d ow 0 m then Nw (gpd d ow) (dW d) (m - 2 ^ v) else 0 := by
  unfold mS
  rw [sm_zero (fun u hu => ?_)]
  · omega
  · refine if_neg (fun z => ?_)
    have h1 : bt m u = false := hl u (by have := z.2.1; omega)
    rw [h1] at z
    exact absurd z.1 (by decide)
def cntM (s : Hp) (d : ND) (ow : Nat → Int) (m : Nat) : Prop := ∀ j, j < m → s 41 j = cap (Nw (gpd d ow) (dW d) j)
theorem add_rng {x y : Int} (hx : 0 ≤ x ∧ x ≤ 119998) (hy : 0 ≤ y ∧ y ≤ 1439976) : iadd x y = x + y := iadd_ok (by omega)
theorem ix_vo {v o : Nat} (hv : v < 12) (ho : o < 12) : iadd (imul 12 (v : Int)) (o : Int) = ((12 * v + o : Nat) : Int) := by
  rw [imul_ok (by omega), iadd_ok (by omega)]
  omega
def bigB : Nat → Int
  | 0 => 0
  | o + 1 => bigB o + 1000000000
theorem bigB_le {o : Nat} (h : o < 14) : 0 ≤ bigB o ∧ bigB o ≤ 13000000000 := by
  have : ∀ j : Fin 14, 0 ≤ bigB j.val ∧ bigB j.val ≤ 13000000000 := by decide
  exact this ⟨o, h⟩
/-- what the check has counted so far, capped at the end alone -/
def mAcc (x : Int) (w o : Nat) : Prop := min 1000000000 x = cap w ∧ 0 ≤ x ∧ x ≤ bigB o
theorem mAcc.same {x : Int} {w o : Nat} (h : mAcc x w o) : mAcc x w (o + 1) := by
  obtain ⟨h1, h2, h3⟩ := h
  have e : bigB (o + 1) = bigB o + 1000000000 := rfl
  exact ⟨h1, h2, by rw [e]; omega⟩
theorem mAcc.add {x : Int} {w y o : Nat} (ho : o < 13) (h : mAcc x w o) : mAcc (ladd x (cap y)) (w + y) (o + 1) := by
  obtain ⟨h1, h2, h3⟩ := h
  have e : bigB (o + 1) = bigB o + 1000000000 := rfl
  have q := bigB_le (o := o) (by omega)
  have r := cap_rng y
  rw [ladd_ok (by omega)]
  refine ⟨?_, by omega, by rw [e]; omega⟩
  rw [← cap_add, ← h1]
  omega
theorem mAcc.first (w o : Nat) : mAcc (cap w) w (o + 1) := by
  have r := cap_rng w
  have e : bigB (o + 1) = bigB o + 1000000000 := rfl
  have z : ∀ j, 0 ≤ bigB j := fun j => by
    induction j with
    | zero => exact Int.le_refl _
    | succ j ih =>
      have e : bigB (j + 1) = bigB j + 1000000000 := rfl
      omega
  have := z o
  exact ⟨by omega, by omega, by rw [e]; omega⟩
theorem mAcc.end {x : Int} {w o : Nat} (h : mAcc x w o) : (x ≤ 1000000000 → x = cap w) ∧ (¬ x ≤ 1000000000 → 1000000000 = cap w) := by
  obtain ⟨h1, h2, h3⟩ := h
  exact ⟨fun z => by omega, fun z => by omega⟩
theorem M_count {τ : Hp} (hd : NDok d) (hN : NetM τ b d) (ho : owOk d ow) (hM : MostM τ d ow 0) :
    wp (F_M_ways_20 FU (1, hset τ 41 0 1)) (fun z t => z = cap (Nw (gpd d ow) (dW d) (2 ^ dW d - 1)) ∧ ∀ q, q ≠ 41 → t q = τ q) := by
  have hW := hd.1
  have hb := hN.1
  have p12 := pow_le12 hW
  have pW := Nat.two_pow_pos (dW d)
  have hN' : ∀ u : Hp, (∀ q, q ≠ 41 → u q = τ q) → NetM u b d := fun u hu => hN.congr (by rw [hu 0 (by omega)]) (fun q a c => hu q (by omega))
  have tab : ∀ u : Hp, (∀ q, q ≠ 41 → u q = τ q) → ∀ a c, a < 12 → c < 12 → u 33 (12 * a + c) = gpd d ow a c := fun u hu a c ha hc => by
    rw [hu 33 (by omega), hM.2 a c ha hc, gab_0]
  have best : ∀ u : Hp, (∀ q, q ≠ 41 → u q = τ q) → ∀ m, m < 2 ^ dW d → u 32 m = bR d ow 0 m := fun u hu m hm => by
    rw [hu 32 (by omega), hM.1 m hm]
  unfold F_M_ways_20
  refine wp_loop (fun a : Int × Hp => ∃ m : Nat, 1 ≤ m ∧ m ≤ 2 ^ dW d ∧ a.1 = (m : Int) ∧ (∀ q, q ≠ 41 → a.2 q = τ q) ∧ cntM a.2 d ow m) (fun a => (((2 ^ dW d + 1 : Nat) : Int) - a.1).toNat) ?_ FU _ ?_ ?_
  · intro a K6 hp ih6
    obtain ⟨x, s⟩ := a
    obtain ⟨m, hm1, hmW, e0, hf, hI⟩ := hp
    dsimp only at e0 hf hI ih6 ⊢
    subst e0
    have hNs := hN' s hf
    unfold F_M_ways_20_b
    rw [M_all hd hNs, cl2_some]
    refine wp_if (fun c => ?_) (fun c => ?_)
    · have em : m = 2 ^ dW d := by omega
      have r := cap_rng (Nw (gpd d ow) (dW d) (2 ^ dW d - 1))
      rw [M_all hd hNs, cl2_some, gd_pos (by omega), Int.toNat_natCast, hI _ (by omega), w32_id (by omega)]
      exact wp_ret ⟨rfl, hf⟩
    · have hm : m < 2 ^ dW d := by omega
      unfold F_M_ways_30
      refine wp_loop (fun a : Int × Int × Hp => ∃ v : Nat, v ≤ dW d ∧ a.1 = (m : Int) ∧ a.2.1 = (v : Int) ∧ a.2.2 = s ∧ ∀ j, j < v → m.testBit j = false) (fun a => (300 - a.2.1).toNat) ?_ FU _ ?_ ?_
      · intro a K hp ih
        obtain ⟨x1, x2, u⟩ := a
        obtain ⟨v, hv, q1, q2, q3, hl⟩ := hp
        dsimp only at q1 q2 q3 ih ⊢
        rw [q3]
        subst q1 q2
        have hvW : v < dW d := by
          apply Classical.byContradiction
          intro c
          have : m = 0 := by
            apply Nat.eq_of_testBit_eq
            intro i
            rw [Nat.zero_testBit]
            by_cases l : i < v
            · exact hl i l
            · exact bt_out (k := dW d) hm (by omega)
          omega
        unfold F_M_ways_30_b
        rw [bit_at (by omega) (by omega), Int.toNat_natCast, Int.toNat_natCast]
        by_cases hb1 : m.testBit v = true
        · obtain ⟨_, le1⟩ := sub_bt hb1
          have pv := Nat.two_pow_pos v
          rw [if_pos hb1, if_neg (by decide), iclear (by omega) (by omega) hb1, lt_eq, gd_pos (by omega), gd_pos (by omega), Int.toNat_natCast, best s hf _ (by omega), best s hf _ hm]
          have go : ∀ t3 : Int, t3 = cap (if bR d ow 0 (m - 2 ^ v) = bR d ow 0 m then Nw (gpd d ow) (dW d) (m - 2 ^ v) else 0) → wp (F_M_ways_82 K6 (m : Int) (v : Int) ((m - 2 ^ v : Nat) : Int) t3 (m : Int) s) (fun z t => z = cap (Nw (gpd d ow) (dW d) (2 ^ dW d - 1)) ∧ ∀ q, q ≠ 41 → t q = τ q) := fun t3 h3 => by
            unfold F_M_ways_82
            rw [gd_pos (by omega), lt_eq, lt_eq, Int.toNat_natCast, iadd_ok (by omega)]
            unfold F_M_ways_88
            refine wp_loop (fun a : Int × Int × Int × Int × Hp => ∃ o : Nat, v < o ∧ o ≤ dW d ∧ a.1 = (m : Int) ∧ a.2.1 = (v : Int) ∧ a.2.2.1 = ((m - 2 ^ v : Nat) : Int) ∧ a.2.2.2.1 = (o : Int) ∧ (∀ q, q ≠ 41 → a.2.2.2.2 q = τ q) ∧ cntM a.2.2.2.2 d ow m ∧ mAcc (a.2.2.2.2 41 m) (mS d ow m v o) o) (fun a => (300 - a.2.2.2.1).toNat) ?_ FU _ ?_ ?_
            · intro a K8 hp ih8
              obtain ⟨y1, y2, y3, y4, t⟩ := a
              obtain ⟨o, hvo, hoW, w1, w2, w3, w4, hft, hIt, hS⟩ := hp
              dsimp only at w1 w2 w3 w4 hft hIt hS ih8 ⊢
              subst w1 w2 w3 w4
              have hNt := hN' t hft
              unfold F_M_ways_88_b
              rw [hNt.2.1, gd_pos (by omega), Int.toNat_natCast, hNt.2.2.1]
              refine wp_if (fun c3 => ?_) (fun c3 => ?_)
              · have eo : o = dW d := by omega
                rw [eo, mS_all hm hvW hb1] at hS
                have fin : ∀ z : Int, z = cap (Nw (gpd d ow) (dW d) m) → wp (F_M_ways_222 K6 (m : Int) z (m : Int) t) (fun z t => z = cap (Nw (gpd d ow) (dW d) (2 ^ dW d - 1)) ∧ ∀ q, q ≠ 41 → t q = τ q) := fun z ez => by
                  unfold F_M_ways_222
                  rw [gd_pos (by omega), lt_eq, lt_eq, Int.toNat_natCast, iadd_ok (by omega)]
                  refine ih6 _ ⟨m + 1, by omega, by omega, by show (m : Int) + 1 = ((m + 1 : Nat) : Int); omega, fun q hq => by dsimp only; rw [hset_obj _ _ _ _ hq]; exact hft q hq, fun j hj => ?_⟩ (by dsimp only; omega)
                  dsimp only
                  rw [hset_get]
                  by_cases e : j = m
                  · rw [if_pos ⟨rfl, e⟩, ez, e]
                  · rw [if_neg (fun z => e z.2)]
                    exact hIt j (by omega)
                rw [gd_pos (by omega)]
                refine wp_if (fun c4 => ?_) (fun c4 => ?_)
                · rw [lcmp_le, Int.toNat_natCast] at c4
                  rw [gd_pos (by omega), Int.toNat_natCast]
                  exact fin _ (hS.end.1 c4)
                · rw [lcmp_le, Int.toNat_natCast] at c4
                  exact fin _ (hS.end.2 c4)
              · have hoW' : o < dW d := by omega
                have nxt : ∀ t2 : Hp, (∀ q, q ≠ 41 → t2 q = τ q) → cntM t2 d ow m → mAcc (t2 41 m) (mS d ow m v (o + 1)) (o + 1) → wp (F_M_ways_186 K8 (m : Int) (v : Int) ((m - 2 ^ v : Nat) : Int) (o : Int) t2) (fun z t => z = cap (Nw (gpd d ow) (dW d) (2 ^ dW d - 1)) ∧ ∀ q, q ≠ 41 → t q = τ q) := fun t2 r1 r2 r3 => by
                  unfold F_M_ways_186
                  rw [lt_eq, iadd_ok (by omega)]
                  exact ih8 _ ⟨o + 1, by omega, by omega, rfl, rfl, rfl, by show (o : Int) + 1 = ((o + 1 : Nat) : Int); omega, r1, r2, r3⟩ (by dsimp only; omega)
                have same : mT d ow m v o = 0 → wp (F_M_ways_186 K8 (m : Int) (v : Int) ((m - 2 ^ v : Nat) : Int) (o : Int) t) (fun z t => z = cap (Nw (gpd d ow) (dW d) (2 ^ dW d - 1)) ∧ ∀ q, q ≠ 41 → t q = τ q) := fun z => nxt t hft hIt (by rw [mS_succ, z]; exact hS.same)
                have g0 := (gpd_rng hd ho o v).1
                have bo : (m - 2 ^ v).testBit o = m.testBit o := by
                  have e : bt (m - 2 ^ v) o = rmv (bt m) v o := by rw [(sub_bt hb1).1]
                  show bt (m - 2 ^ v) o = bt m o
                  rw [e]
                  unfold rmv
                  simp
                  omega
                rw [bit_at (by omega) (by omega), Int.toNat_natCast, Int.toNat_natCast, bo]
                by_cases hb2 : m.testBit o = true
                · obtain ⟨_, le2⟩ := sub2_bt hb1 hb2 (by omega)
                  have po := Nat.two_pow_pos o
                  rw [if_pos hb2, if_neg (by decide), ix_vo (by omega) (by omega), gd_pos (by omega), Int.toNat_natCast, tab t hft v o (by omega) (by omega), gpd_sym d ow v o]
                  refine wp_if (fun c4 => same ?_) (fun c4 => ?_)
                  · exact if_neg (fun z => by have := z.2.2; omega)
                  · rw [gd_pos (by omega), iclear (by omega) (by omega) (by rw [bo]; exact hb2), gd_pos (by omega), gd_pos (by omega), Int.toNat_natCast, Int.toNat_natCast, best t hft _ (by omega), best t hft _ hm, add_rng (gpd_rng hd ho o v) (bR_rng hd ho 0 (m := m - 2 ^ v - 2 ^ o) (by omega))]
                    refine wp_if (fun c5 => ?_) (fun c5 => same ?_)
                    · have wt : mT d ow m v o = Nw (gpd d ow) (dW d) (m - 2 ^ v - 2 ^ o) := by
                        unfold mT
                        rw [if_pos ⟨hb2, by omega, by omega⟩, if_pos (by omega)]
                      rw [gd_pos (by omega), gd_pos (by omega), gd_pos (by omega), lt_eq, hIt (m - 2 ^ v - 2 ^ o) (by omega)]
                      refine nxt _ (fun q hq => by rw [hset_obj _ _ _ _ hq]; exact hft q hq) (fun j hj => by rw [hset_get, if_neg (by omega)]; exact hIt j hj) ?_
                      rw [hset_same, mS_succ, wt]
                      exact hS.add (by omega)
                    · unfold mT
                      rw [if_pos ⟨hb2, by omega, by omega⟩, if_neg (by omega)]
                · rw [if_neg hb2, if_pos rfl]
                  exact same (if_neg (fun z => hb2 z.1))
            · refine ⟨v + 1, by omega, by omega, rfl, rfl, rfl, by show (v : Int) + 1 = ((v + 1 : Nat) : Int); omega, fun q hq => by dsimp only; rw [hset_obj _ _ _ _ hq]; exact hf q hq, fun j hj => by dsimp only; rw [hset_get, if_neg (by omega)]; exact hI j hj, ?_⟩
              dsimp only
              rw [hset_same, h3, mS_low hl]
              exact mAcc.first _ _
            · rw [FU_eq]
              dsimp only
              omega
          refine wp_if (fun c3 => ?_) (fun c3 => go _ ?_)
          · rw [gd_pos (by omega)]
            refine go _ ?_
            rw [if_pos c3, hI (m - 2 ^ v) (by omega)]
          · rw [if_neg c3]
            rfl
        · rw [if_neg hb1, if_pos rfl, lt_eq, iadd_ok (by omega)]
          refine ih _ ⟨v + 1, by omega, rfl, by show (v : Int) + 1 = ((v + 1 : Nat) : Int); omega, rfl, fun j hj => ?_⟩ (by dsimp only; omega)
          by_cases e : j = v
          · rw [e]
            simpa using hb1
          · exact hl j (by omega)
      · exact ⟨0, by omega, rfl, rfl, rfl, fun j hj => absurd hj (by omega)⟩
      · rw [FU_eq]
        show (300 - (0 : Int)).toNat < 20000
        omega
  · refine ⟨1, by omega, by omega, rfl, fun q hq => by dsimp only; rw [hset_obj _ _ _ _ hq], fun j hj => ?_⟩
    have : j = 0 := by omega
    subst this
    dsimp only
    rw [hset_same, Nw_0.1]
    rfl
  · rw [FU_eq]
    dsimp only
    omega
theorem S_ways (σ τ : Hp) (h : Inv σ τ) : ∃ (z : Int) (σ' τ' : Hp), F_RD_ways σ = some (z, σ') ∧ F_M_ways τ = some (z, τ') ∧ Inv σ' τ' := by
  obtain ⟨n, b, d, A, kn, now, day, D, hI⟩ := id h
  obtain ⟨z, s, e, hz, hIs, h0⟩ := C_planNow hI
  have ho := hIs.oo
  have g1 := hIs.1.1
  have hP := (hIs.pln h0).1
  have pp := hIs.2.1.2.2.2.2.2.2
  obtain ⟨z2, s2, e2, ez2, hf2⟩ := C_countWays g1 ho hIs.2.1.1 hP
  have c6 := hIs.2.1.2.2.2.2.2.1
  have hI2 : InvAt s2 τ n b d A kn now day D := hIs.setC (fun q hq => hf2 q (by have := hq.1; unfold keepC at this; omega)) (fun i _ => by rw [hf2 0 (by omega)]) ⟨by rw [hf2 88 (by omega)]; exact c6.1, fun r hr => by rw [hf2 89 (by omega), hf2 90 (by omega)]; exact c6.2 r hr⟩ (pp.congr g1 (by rw [hf2 0 (by omega)]) (fun q a x => hf2 q (by omega)) (by rw [hf2 169 (by omega)]; exact pp.2.2.2))
  have M := hI2.mosts (c := -1) (w := 0) (by omega) owc_none (k := fun _ s43 => lt (hset s43 41 0 1) fun s45 => F_M_ways_20 FU (1, s45)) (Q := fun v t => v = cap (Nw (gpd d (owd d A day now)) (dW d) (2 ^ dW d - 1)) ∧ InvAt s2 t n b d A kn now day D) (fun v t hIt hM _ => by
    rw [lt_eq]
    refine wp_mono (M_count g1 hIt.2.2.1.1 ho hM) (fun z u hu => ⟨hu.1, hIt.setM (fun q hq => hu.2 q (by unfold keepM at hq; omega)) (fun i _ => by rw [hu.2 0 (by omega)])⟩))
  obtain ⟨z4, t, e4, ez4, hI4⟩ := M
  refine ⟨z2, s2, t, ?_, ?_, n, b, d, A, kn, now, day, D, hI4⟩
  · unfold F_RD_ways
    rw [e, cl2_some, gd_pos hz, e2, cl2_some]
  · rw [ez2, ← ez4]
    exact e4
end MWays
