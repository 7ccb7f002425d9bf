/-! ways: the class's counting -/
section CWays
variable {d : ND} {ow : Nat → Int} {n : Nat}
theorem ishl_2 {k : Nat} (hk : k < 12) : ishl 2 (k : Int) = ((2 ^ (k + 1) : Nat) : Int) := by
  have : ∀ j : Fin 12, ishl 2 ((j.val : Nat) : Int) = ((2 ^ (j.val + 1) : Nat) : Int) := by decide +kernel
  exact this ⟨k, hk⟩
theorem imin_cap (x y : Nat) : imin 1000000000 (iadd (cap x) (cap y)) = cap (x + y) := by
  have h1 := cap_rng x
  have h2 := cap_rng y
  rw [iadd_ok (by omega), ← cap_add]
  unfold imin
  split <;> omega
theorem bRF (d : ND) (ow : Nat → Int) (m : Nat) : bR d ow 0 m = bF (gpd d ow) (dW d) m := by
  unfold bR
  rw [gab_0]
/-- the term of u in the rows of 2^k + t -/
def wT (d : ND) (ow : Nat → Int) (k t u : Nat) : Nat := if bt t u = true ∧ 0 < gpd d ow u k then (if bR d ow 0 (t - 2 ^ u) + gpd d ow u k = bR d ow 0 (2 ^ k + t) then Nw (gpd d ow) (dW d) (t - 2 ^ u) else 0) else 0
def wS (d : ND) (ow : Nat → Int) (k t o : Nat) : Nat := (if bR d ow 0 t = bR d ow 0 (2 ^ k + t) then Nw (gpd d ow) (dW d) t else 0) + sm o (fun u => wT d ow k t u)
theorem wS_succ (k t o : Nat) : wS d ow k t (o + 1) = wS d ow k t o + wT d ow k t o := by
  unfold wS
  show _ + (sm o (fun u => wT d ow k t u) + wT d ow k t o) = _
  omega
theorem sm_cut {f : Nat → Nat} {k : Nat} : ∀ {n : Nat}, k ≤ n → (∀ u, k ≤ u → u < n → f u = 0) → sm n f = sm k f
  | 0, h, _ => by rw [show k = 0 by omega]
  | n + 1, h, hz => by
    by_cases e : k = n + 1
    · rw [e]
    · show sm n f + f n = _
      rw [hz n (by omega) (by omega), sm_cut (n := n) (by omega) (fun u a b => hz u a (by omega))]
      rfl
theorem wS_all {k t : Nat} (hk : k < dW d) (ht : t < 2 ^ k) : wS d ow k t k = Nw (gpd d ow) (dW d) (2 ^ k + t) := by
  have hp : 2 ^ (k + 1) ≤ 2 ^ dW d := Nat.pow_le_pow_right (by omega) (by omega)
  have e : 2 ^ (k + 1) = 2 * 2 ^ k := by rw [Nat.pow_succ]; omega
  have hb : (2 ^ k + t).testBit k = true := bt_top ht
  have R := (ways_rec (g := gpd d ow) (W := dW d) (fun x y => gpd_sym d ow x y) (m := 2 ^ k + t) (v := k) (by omega) hk hb).1
  rw [R, show 2 ^ k + t - 2 ^ k = t by omega]
  unfold wS
  rw [bRF, bRF]
  congr 1
  symm
  rw [sm_cut (k := k) (by omega) (fun u a b => ?_)]
  · refine sm_congr (fun u hu => ?_)
    unfold wT
    rw [bRF, bRF, bt_hi ht hu]
    by_cases c : bt t u = true ∧ 0 < gpd d ow u k
    · rw [if_pos c, if_pos ⟨c.1, by omega, c.2⟩]
    · rw [if_neg c, if_neg (fun z => c ⟨z.1, z.2.2⟩)]
  · refine if_neg (fun z => ?_)
    have h1 : bt (2 ^ k + t) u = false := by
      refine bt_out (k := k + 1) (by omega) (by have := z.2.1; omega)
    rw [h1] at z
    exact absurd z.1 (by decide)
/-- the counts up to 2^k, and those of k's half as far as o -/
def cntI (s : Hp) (d : ND) (ow : Nat → Int) (k : Nat) : Prop := ∀ m, m < 2 ^ k → s 172 m = cap (Nw (gpd d ow) (dW d) m)
theorem C_addWays {s0 s : Hp} (hd : NDok d) (ho : owOk d ow) (hN : NetC s0 n d) (hP : PlanC s0 112 n d ow) (hf : ∀ q, q ≠ 172 → s q = s0 q) {o k : Nat} (hk : k < dW d) (hok : o < k) (hI : cntI s d ow k) (hS : ∀ t, t < 2 ^ k → s 172 (2 ^ k + t) = cap (wS d ow k t o)) :
    wp (F_Plan_addWays 112 o k s) (fun _ u => (∀ q, q ≠ 172 → u q = s0 q) ∧ cntI u d ow k ∧ ∀ t, t < 2 ^ k → u 172 (2 ^ k + t) = cap (wS d ow k t (o + 1))) := by
  have hW := hd.1
  have hn := hN.1
  have hnn : n = 50 ∨ n = 4 := hn
  have pk := Nat.two_pow_pos k
  have po := Nat.two_pow_pos o
  have pkW : 2 ^ (k + 1) ≤ 2 ^ dW d := Nat.pow_le_pow_right (by omega) (by omega)
  have p12 := pow_le12 hW
  have e1 : 2 ^ (k + 1) = 2 * 2 ^ k := by rw [Nat.pow_succ]; omega
  have ook : 2 ^ o < 2 ^ k := Nat.pow_lt_pow_right (by omega) hok
  have hP' : ∀ u : Hp, (∀ q, q ≠ 172 → u q = s0 q) → PlanC u 112 n d ow := fun u hu => hP.congr (fun q _ x y => hu q (by omega)) (by rw [hu 112 (by omega)]) (by rw [hu 112 (by omega)])
  have hNs : NetC s n d := hN.congr (fun i _ => by rw [hf n (by omega)]) (fun q a b => hf q (by omega))
  have hPs := hP' s hf
  unfold F_Plan_addWays
  rw [gd_pos (show isPlan 112 by decide), C_gainOfTwo hd (by decide) hNs hPs.1 hPs.2.1 (by omega) (by omega), cl2_some]
  have ei : ior (ishl 1 (k : Int)) (ishl 1 (o : Int)) = ((2 ^ k + 2 ^ o : Nat) : Int) := by
    rw [ishl_1 (by omega), ishl_1 (by omega), Int.toNat_natCast, Int.toNat_natCast, ior_nn (by omega) (by omega), Int.toNat_natCast, Int.toNat_natCast, Nat.or_comm, or_add hok]
  rw [ei, lt_eq]
  have g0 := gpd_rng hd ho o k
  unfold F_Plan_addWays_21
  refine wp_loop (fun a : Int × Int × Int × Hp => ∃ t : Nat, 2 ^ o ≤ t ∧ t ≤ 2 ^ k ∧ a.1 = gpd d ow o k ∧ a.2.1 = ((2 ^ k + 2 ^ o : Nat) : Int) ∧ a.2.2.1 = ((2 ^ k + t : Nat) : Int) ∧ (∀ q, q ≠ 172 → a.2.2.2 q = s0 q) ∧ cntI a.2.2.2 d ow k ∧ ∀ t', t' < 2 ^ k → a.2.2.2 172 (2 ^ k + t') = cap (if t' < t then wS d ow k t' (o + 1) else wS d ow k t' o)) (fun a => (((2 ^ (k + 1) : Nat) : Int) - a.2.2.1).toNat) ?_ FU _ ?_ ?_
  · intro a K hp ih
    obtain ⟨x4, x5, x6, u⟩ := a
    obtain ⟨t, h1, h2, q1, q2, q3, q4, q5, q6⟩ := hp
    dsimp only at q1 q2 q3 q4 q5 q6 ih ⊢
    subst q1 q2 q3
    have hPu := hP' u q4
    unfold F_Plan_addWays_21_b F_Plan_addWays_94 F_Plan_addWays_88
    refine wp_if (fun c => ?_) (fun c => ?_)
    · refine wp_ret ⟨q4, q5, fun t' ht' => ?_⟩
      rw [q6 t' ht']
      have z : wS d ow k t' (o + 1) = wS d ow k t' o := by
        rw [wS_succ]
        unfold wT
        rw [if_neg (fun z => by have := z.2; omega)]
        rfl
      rw [z]
      split <;> rfl
    · rw [ishl_2 (by omega)]
      refine wp_if (fun c2 => ?_) (fun c2 => ?_)
      · have et : t = 2 ^ k := by omega
        refine wp_ret ⟨q4, q5, fun t' ht' => ?_⟩
        rw [q6 t' ht', if_pos (by omega)]
      · have htk : t < 2 ^ k := by omega
        have ea : iand ((2 ^ k + t : Nat) : Int) ((2 ^ k + 2 ^ o : Nat) : Int) = (((2 ^ k + t) &&& (2 ^ o ||| 2 ^ k) : Nat) : Int) := by
          rw [iand_nn (by omega) (by omega), Int.toNat_natCast, Int.toNat_natCast, or_add hok]
        have ep : (iand ((2 ^ k + t : Nat) : Int) ((2 ^ k + 2 ^ o : Nat) : Int) = ((2 ^ k + 2 ^ o : Nat) : Int)) ↔ bt t o = true := by
          rw [ea, ← or_add hok, Int.ofNat_inj, and_pair]
          have z1 : (2 ^ k + t).testBit k = true := bt_top htk
          have z2 : (2 ^ k + t).testBit o = bt t o := bt_hi htk hok
          rw [z2]
          exact ⟨fun z => z.1, fun z => ⟨z, z1⟩⟩
        have nxt : ∀ v : Hp, (∀ q, q ≠ 172 → v q = s0 q) → cntI v d ow k → (∀ t', t' < 2 ^ k → v 172 (2 ^ k + t') = cap (if t' < t + 1 then wS d ow k t' (o + 1) else wS d ow k t' o)) → wp (lt (iadd ((2 ^ k + t : Nat) : Int) 1) fun y6_1 => K (gpd d ow o k, ((2 ^ k + 2 ^ o : Nat) : Int), y6_1, v)) (fun _ u => (∀ q, q ≠ 172 → u q = s0 q) ∧ cntI u d ow k ∧ ∀ t, t < 2 ^ k → u 172 (2 ^ k + t) = cap (wS d ow k t (o + 1))) := fun v r1 r2 r3 => by
          rw [lt_eq, iadd_ok (by omega)]
          exact ih _ ⟨t + 1, by omega, by omega, rfl, rfl, by dsimp only; omega, r1, r2, r3⟩ (by dsimp only; omega)
        have same : wT d ow k t o = 0 → ∀ t', t' < 2 ^ k → u 172 (2 ^ k + t') = cap (if t' < t + 1 then wS d ow k t' (o + 1) else wS d ow k t' o) := fun z t' ht' => by
          rw [q6 t' ht']
          by_cases e : t' = t
          · subst e
            rw [if_neg (by omega), if_pos (by omega), wS_succ, z]
            rfl
          · by_cases l : t' < t
            · rw [if_pos l, if_pos (by omega)]
            · rw [if_neg l, if_neg (by omega)]
        refine wp_if (fun c3 => ?_) (fun c3 => ?_)
        · have hbt := ep.mp c3
          have hle : 2 ^ o ≤ t := (sub_bt hbt).2
          have es : isub ((2 ^ k + t : Nat) : Int) ((2 ^ k + 2 ^ o : Nat) : Int) = ((t - 2 ^ o : Nat) : Int) := by
            rw [isub_ok (by omega)]
            omega
          have b1 := bR_rng hd ho 0 (m := t - 2 ^ o) (by omega)
          rw [es, gd_pos (by omega), gd_pos (by omega), Int.toNat_natCast, Int.toNat_natCast, hPu.2.2.1 _ (by omega), hPu.2.2.1 _ (by omega), iadd_ok (by omega)]
          refine wp_if (fun c4 => ?_) (fun c4 => ?_)
          · have wt : wT d ow k t o = Nw (gpd d ow) (dW d) (t - 2 ^ o) := by
              unfold wT
              rw [if_pos ⟨hbt, by omega⟩, if_pos c4]
            rw [gd_pos (by omega), gd_pos (by omega), gd_pos (by omega), lt_eq, q5 (t - 2 ^ o) (by omega), q6 t htk, if_neg (by omega), imin_cap, ← wt, ← wS_succ]
            refine nxt _ (fun q hq => by rw [hset_obj _ _ _ _ hq]; exact q4 q hq) (fun m hm => ?_) (fun t' ht' => ?_)
            · rw [hset_get, if_neg (by omega)]
              exact q5 m hm
            · rw [hset_get]
              by_cases e : t' = t
              · subst e
                rw [if_pos ⟨rfl, rfl⟩, if_pos (by omega)]
              · rw [if_neg (by omega), q6 t' ht']
                by_cases l : t' < t
                · rw [if_pos l, if_pos (by omega)]
                · rw [if_neg l, if_neg (by omega)]
          · refine nxt u q4 q5 (same ?_)
            unfold wT
            rw [if_pos ⟨hbt, by omega⟩, if_neg c4]
        · refine nxt u q4 q5 (same ?_)
          unfold wT
          rw [if_neg (fun z => c3 (ep.mpr z.1))]
  · refine ⟨2 ^ o, by omega, by omega, rfl, rfl, rfl, hf, hI, fun t' ht' => ?_⟩
    dsimp only
    rw [hS t' ht']
    by_cases l : t' < 2 ^ o
    · rw [if_pos l, wS_succ]
      have z : wT d ow k t' o = 0 := by
        unfold wT
        rw [if_neg (fun z => ?_)]
        have := bt_out (x := o) l (Nat.le_refl _)
        rw [this] at z
        exact absurd z.1 (by decide)
      rw [z]
      rfl
    · rw [if_neg l]
  · rw [FU_eq]
    dsimp only
    omega
theorem wS_0 (k t : Nat) : wS d ow k t 0 = if bR d ow 0 t = bR d ow 0 (2 ^ k + t) then Nw (gpd d ow) (dW d) t else 0 := by
  unfold wS
  show _ + 0 = _
  omega
theorem C_countWays {s0 : Hp} (hd : NDok d) (ho : owOk d ow) (hN : NetC s0 n d) (hP : PlanC s0 112 n d ow) :
    wp (F_Plan_countWays 112 s0) (fun z u => z = cap (Nw (gpd d ow) (dW d) (2 ^ dW d - 1)) ∧ ∀ q, q ≠ 172 → u q = s0 q) := by
  have hW := hd.1
  have hn := hN.1
  have hnn : n = 50 ∨ n = 4 := hn
  have p12 := pow_le12 hW
  have pW := Nat.two_pow_pos (dW d)
  have hP' : ∀ u : Hp, (∀ q, q ≠ 172 → u q = s0 q) → PlanC u 112 n d ow := fun u hu => hP.congr (fun q _ x y => hu q (by omega)) (by rw [hu 112 (by omega)]) (by rw [hu 112 (by omega)])
  have hN' : ∀ u : Hp, (∀ q, q ≠ 172 → u q = s0 q) → NetC u n d := fun u hu => hN.congr (fun i _ => by rw [hu n (by omega)]) (fun q a b => hu q (by omega))
  unfold F_Plan_countWays
  rw [gd_pos (show isPlan 112 by decide), lt_eq]
  unfold F_Plan_countWays_6
  refine wp_loop (fun a : Int × Hp => ∃ k : Nat, k ≤ dW d ∧ a.1 = (k : Int) ∧ (∀ q, q ≠ 172 → a.2 q = s0 q) ∧ cntI a.2 d ow k) (fun a => (300 - a.1).toNat) ?_ FU _ ?_ ?_
  · intro a K6 hp ih6
    obtain ⟨x, s⟩ := a
    obtain ⟨k, hk, e0, hf, hI⟩ := hp
    dsimp only at e0 hf hI ih6 ⊢
    subst e0
    have hPs := hP' s hf
    have hNs := hN' s hf
    unfold F_Plan_countWays_6_b
    rw [hPs.1, lt_eq, Int.toNat_natCast, gd_pos hn, hNs.2.1]
    refine wp_if (fun c => ?_) (fun c => ?_)
    · have ek : k = dW d := by omega
      subst ek
      rw [lt_eq, gd_pos hn, C_everybody hd hNs, cl2_some, gd_pos (by omega), Int.toNat_natCast]
      exact wp_ret ⟨hI _ (by omega), hf⟩
    · have hkW : k < dW d := by omega
      have pk := Nat.two_pow_pos k
      have pkW : 2 ^ (k + 1) ≤ 2 ^ dW d := Nat.pow_le_pow_right (by omega) (by omega)
      have e1 : 2 ^ (k + 1) = 2 * 2 ^ k := by rw [Nat.pow_succ]; omega
      rw [ishl_1 (by omega), Int.toNat_natCast, lt_eq]
      unfold F_Plan_countWays_24
      refine wp_loop (fun a : Int × Int × Int × Hp => ∃ t : Nat, t ≤ 2 ^ k ∧ a.1 = (k : Int) ∧ a.2.1 = ((2 ^ k : Nat) : Int) ∧ a.2.2.1 = ((2 ^ k + t : Nat) : Int) ∧ (∀ q, q ≠ 172 → a.2.2.2 q = s0 q) ∧ cntI a.2.2.2 d ow k ∧ ∀ t', t' < t → a.2.2.2 172 (2 ^ k + t') = cap (wS d ow k t' 0)) (fun a => (((2 ^ (k + 1) : Nat) : Int) - a.2.2.1).toNat) ?_ FU _ ?_ ?_
      · intro a K hp ih
        obtain ⟨x2, x3, x4, u⟩ := a
        obtain ⟨t, ht, q1, q2, q3, q4, q5, q6⟩ := hp
        dsimp only at q1 q2 q3 q4 q5 q6 ih ⊢
        subst q1 q2 q3
        have hPu := hP' u q4
        unfold F_Plan_countWays_24_b
        rw [imul_ok (by omega)]
        refine wp_if (fun c2 => ?_) (fun c2 => ?_)
        · have et : t = 2 ^ k := by omega
          subst et
          unfold F_Plan_countWays_74
          refine wp_loop (fun a : Int × Int × Hp => ∃ o : Nat, o ≤ k ∧ a.1 = (k : Int) ∧ a.2.1 = (o : Int) ∧ (∀ q, q ≠ 172 → a.2.2 q = s0 q) ∧ cntI a.2.2 d ow k ∧ ∀ t', t' < 2 ^ k → a.2.2 172 (2 ^ k + t') = cap (wS d ow k t' o)) (fun a => (300 - a.2.1).toNat) ?_ FU _ ?_ ?_
          · intro a K7 hp ih7
            obtain ⟨y2, y4, v⟩ := a
            obtain ⟨o, ho2, w1, w2, w3, w4, w5⟩ := hp
            dsimp only at w1 w2 w3 w4 w5 ih7 ⊢
            subst w1 w2
            unfold F_Plan_countWays_74_b
            refine wp_if (fun c3 => ?_) (fun c3 => ?_)
            · have eo : o = k := by omega
              subst eo
              rw [lt_eq, iadd_ok (by omega)]
              refine ih6 _ ⟨o + 1, by omega, by show (o : Int) + 1 = ((o + 1 : Nat) : Int); omega, w3, fun m hm => ?_⟩ (by dsimp only; omega)
              by_cases l : m < 2 ^ o
              · exact w4 m l
              · have h5 := w5 (m - 2 ^ o) (by omega)
                rw [wS_all hkW (by omega), show 2 ^ o + (m - 2 ^ o) = m by omega] at h5
                exact h5
            · refine wp_cl (C_addWays hd ho hN hP w3 hkW (by omega) w4 w5) (fun _ v2 hv => ?_)
              rw [lt_eq, iadd_ok (by omega)]
              exact ih7 _ ⟨o + 1, by omega, rfl, by show (o : Int) + 1 = ((o + 1 : Nat) : Int); omega, hv.1, hv.2.1, hv.2.2⟩ (by dsimp only; omega)
          · exact ⟨0, by omega, rfl, rfl, q4, q5, q6⟩
          · rw [FU_eq]
            show (300 - (0 : Int)).toNat < 20000
            omega
        · have htk : t < 2 ^ k := by omega
          have es : isub ((2 ^ k + t : Nat) : Int) ((2 ^ k : Nat) : Int) = (t : Int) := by
            rw [isub_ok (by omega)]
            omega
          have nxt : ∀ v : Int, v = cap (wS d ow k t 0) → wp (F_Plan_countWays_64 K 112 (k : Int) ((2 ^ k : Nat) : Int) ((2 ^ k + t : Nat) : Int) v ((2 ^ k + t : Nat) : Int) u) (fun z u => z = cap (Nw (gpd d ow) (dW d) (2 ^ dW d - 1)) ∧ ∀ q, q ≠ 172 → u q = s0 q) := fun v hv => by
            unfold F_Plan_countWays_64
            rw [gd_pos (by omega), lt_eq, lt_eq, Int.toNat_natCast, iadd_ok (by omega)]
            refine ih _ ⟨t + 1, by omega, rfl, rfl, by dsimp only; omega, fun q hq => by dsimp only; rw [hset_obj _ _ _ _ hq]; exact q4 q hq, fun m hm => by dsimp only; rw [hset_get, if_neg (by omega)]; exact q5 m hm, fun t' ht' => ?_⟩ (by dsimp only; omega)
            dsimp only
            rw [hset_get]
            by_cases e : t' = t
            · subst e
              rw [if_pos ⟨rfl, rfl⟩, hv]
            · rw [if_neg (by omega)]
              exact q6 t' (by omega)
          rw [es, gd_pos (by omega), gd_pos (by omega), Int.toNat_natCast, Int.toNat_natCast, hPu.2.2.1 _ (by omega), hPu.2.2.1 _ (by omega), gd_pos (by omega)]
          refine wp_if (fun c3 => nxt _ ?_) (fun c3 => nxt _ ?_)
          · rw [wS_0, if_pos c3, q5 t htk]
          · rw [wS_0, if_neg c3]
            rfl
      · exact ⟨0, by omega, rfl, rfl, by dsimp only; omega, hf, hI, fun t' ht' => absurd ht' (by omega)⟩
      · rw [FU_eq]
        dsimp only
        omega
  · refine ⟨0, by omega, rfl, fun q hq => by dsimp only; rw [hset_obj _ _ _ _ hq], fun m hm => ?_⟩
    have : m = 0 := by
      have : (2 : Nat) ^ 0 = 1 := rfl
      omega
    subst this
    dsimp only
    rw [hset_same, Nw_0.1]
    rfl
  · rw [FU_eq]
    show (300 - (0 : Int)).toNat < 20000
    omega
end CWays
