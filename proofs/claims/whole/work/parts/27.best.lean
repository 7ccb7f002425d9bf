/-! sets as numbers; the greatest sums: the class's by the last of a set, the check's by its first -/
def bt (m : Nat) : Nat → Bool := fun x => m.testBit x
theorem bt_clear (m u : Nat) : bt (m ^^^ (m &&& 2 ^ u)) = rmv (bt m) u := by
  funext x
  unfold bt rmv
  rw [Nat.testBit_xor, Nat.testBit_and, Nat.testBit_two_pow]
  by_cases h : x = u
  · subst h
    simp
  · have h2 : ¬ u = x := fun z => h z.symm
    simp [h, h2]
theorem clear_le (m u : Nat) : m ^^^ (m &&& 2 ^ u) ≤ m := by
  have h : m ^^^ (m &&& 2 ^ u) = m &&& (m ^^^ (m &&& 2 ^ u)) := by
    apply Nat.eq_of_testBit_eq
    intro i
    rw [Nat.testBit_and, Nat.testBit_xor, Nat.testBit_and]
    cases m.testBit i <;> simp
  rw [h]
  exact Nat.and_le_left
theorem bit_form {m u : Nat} (h : m.testBit u = true) : ∃ q r, r < 2 ^ u ∧ m = 2 ^ (u + 1) * q + (2 ^ u + r) := by
  rw [Nat.testBit_eq_decide_div_mod_eq] at h
  have h : m / 2 ^ u % 2 = 1 := by simpa using h
  refine ⟨m / 2 ^ u / 2, m % 2 ^ u, Nat.mod_lt _ (Nat.pow_pos (by decide)), ?_⟩
  have h1 := Nat.div_add_mod m (2 ^ u)
  have h2 := Nat.div_add_mod (m / 2 ^ u) 2
  have e : 2 ^ (u + 1) = 2 ^ u * 2 := Nat.pow_succ 2 u
  rw [e, Nat.mul_assoc]
  have h3 : m / 2 ^ u = 2 * (m / 2 ^ u / 2) + 1 := by omega
  have h4 : 2 ^ u * (m / 2 ^ u) = 2 ^ u * (2 * (m / 2 ^ u / 2)) + 2 ^ u := by
    conv => lhs; rw [h3]
    rw [Nat.mul_add, Nat.mul_one]
  omega
theorem sub_bt {m u : Nat} (h : m.testBit u = true) : bt (m - 2 ^ u) = rmv (bt m) u ∧ 2 ^ u ≤ m := by
  obtain ⟨q, r, hr, e⟩ := bit_form h
  have e2 : 2 ^ (u + 1) = 2 * 2 ^ u := by rw [Nat.pow_succ]; omega
  refine ⟨?_, Nat.ge_two_pow_of_testBit h⟩
  have hm : m - 2 ^ u = 2 ^ (u + 1) * q + r := by omega
  funext x
  show (m - 2 ^ u).testBit x = (m.testBit x && !(x == u))
  rw [hm, e, Nat.testBit_two_pow_mul_add _ (by omega), Nat.testBit_two_pow_mul_add _ (by omega)]
  by_cases hx : x < u + 1
  · rw [if_pos hx, if_pos hx]
    by_cases hu : x = u
    · subst hu
      rw [Nat.testBit_lt_two_pow hr]
      simp
    · rw [Nat.testBit_two_pow_add_gt (by omega)]
      simp [hu]
  · rw [if_neg hx, if_neg hx]
    have : ¬ x = u := by omega
    simp [this]
theorem bt_hi {k t x : Nat} (ht : t < 2 ^ k) (hx : x < k) : bt (2 ^ k + t) x = bt t x := by
  unfold bt
  exact Nat.testBit_two_pow_add_gt hx t
theorem bt_top {k t : Nat} (ht : t < 2 ^ k) : bt (2 ^ k + t) k = true := by
  unfold bt
  rw [Nat.testBit_two_pow_add_eq, Nat.testBit_lt_two_pow ht]
  rfl
theorem bt_out {k t x : Nat} (ht : t < 2 ^ k) (hx : k ≤ x) : bt t x = false :=
  Nat.testBit_lt_two_pow (Nat.lt_of_lt_of_le ht (Nat.pow_le_pow_right (by decide) hx))
theorem and_pair {m a c : Nat} : m &&& (2 ^ a ||| 2 ^ c) = (2 ^ a ||| 2 ^ c) ↔ (m.testBit a = true ∧ m.testBit c = true) := by
  constructor
  · intro h
    constructor
    · have h1 : (m &&& (2 ^ a ||| 2 ^ c)).testBit a = (2 ^ a ||| 2 ^ c).testBit a := by rw [h]
      rw [Nat.testBit_and, Nat.testBit_or, Nat.testBit_two_pow_self] at h1
      simpa using h1
    · have h1 : (m &&& (2 ^ a ||| 2 ^ c)).testBit c = (2 ^ a ||| 2 ^ c).testBit c := by rw [h]
      rw [Nat.testBit_and, Nat.testBit_or, Nat.testBit_two_pow_self] at h1
      simpa using h1
  · intro h
    apply Nat.eq_of_testBit_eq
    intro i
    rw [Nat.testBit_and, Nat.testBit_or, Nat.testBit_two_pow, Nat.testBit_two_pow]
    by_cases h1 : a = i
    · subst h1; simp [h.1]
    · by_cases h2 : c = i
      · subst h2; simp [h.2]
      · simp [h1, h2]
theorem or_add {a c : Nat} (h : a < c) : 2 ^ a ||| 2 ^ c = 2 ^ c + 2 ^ a := by
  have := Nat.two_pow_add_eq_or_of_lt (i := c) (b := 2 ^ a) (Nat.pow_lt_pow_right (by decide) h) 1
  rw [Nat.mul_one] at this
  rw [this, Nat.or_comm]
/-! tops of sums -/
def pS (f : Int → Nat) (G : Nat → Int → Nat) (n : Nat) (k : Int) : Nat := f k + sm n (fun u => G u k)
theorem Top_ext {f h : Int → Nat} {b : Int} (e : ∀ k, f k = h k) (t : Top f b) : Top h b := ⟨by rw [← e]; exact t.1, fun k hk => t.2 k (by rw [e]; exact hk)⟩
theorem pS_0 {f : Int → Nat} {G : Nat → Int → Nat} {b : Int} (h : Top f b) : Top (pS f G 0) b := h
theorem pS_zero {f : Int → Nat} {G : Nat → Int → Nat} {n : Nat} {b : Int} (h : Top (pS f G n) b) (hz : ∀ k, G n k = 0) : Top (pS f G (n + 1)) b :=
  Top_ext (fun k => by show f k + sm n _ = f k + (sm n _ + G n k); rw [hz, Nat.add_zero]) h
theorem pS_add {f F2 : Int → Nat} {G : Nat → Int → Nat} {n : Nat} {b b2 g : Int} (h : Top (pS f G n) b) (h2 : Top F2 b2) (hz : ∀ k, G n k = F2 (k - g)) : Top (pS f G (n + 1)) (max b (b2 + g)) := by
  have e : ∀ k, pS f G (n + 1) k = pS f G n k + F2 (k - g) := fun k => by
    show f k + (sm n _ + G n k) = f k + sm n _ + F2 (k - g)
    rw [hz, Nat.add_assoc]
  constructor
  · rw [e]
    by_cases c : b2 + g ≤ b
    · rw [Int.max_eq_left c]
      have := h.1
      omega
    · rw [Int.max_eq_right (by omega)]
      have h3 := h2.1
      rw [show b2 + g - g = b2 by omega]
      omega
  · intro k hk
    rw [e] at hk
    by_cases c : pS f G n k = 0
    · have := h2.2 (k - g) (by omega)
      omega
    · have := h.2 k c
      omega
def gLe (g : Nat → Nat → Int) : Prop := ∀ a c, 0 ≤ g a c ∧ g a c ≤ 119998
theorem Nm_le {g : Nat → Nat → Int} (hg : gLe g) : ∀ {n : Nat} {S : Nat → Bool} {k : Int}, Nm g n S k ≠ 0 → k ≤ 119998 * n
  | 0, _, k, h => by
    by_cases e : k = 0
    · omega
    · exact absurd (show Nm g 0 _ k = 0 from if_neg e) h
  | n + 1, S, k, h => by
    by_cases q : S n = true
    · rw [Nm_in q] at h
      by_cases e : Nm g n S k = 0
      · rw [e, Nat.zero_add] at h
        obtain ⟨u, h1, h2⟩ := sm_pos h
        by_cases c : S u = true ∧ 0 < g u n
        · rw [if_pos c] at h2
          have := Nm_le hg h2
          have := hg u n
          omega
        · rw [if_neg c] at h2
          exact absurd rfl h2
      · have := Nm_le hg e
        omega
    · rw [Nm_out q] at h
      have := Nm_le hg h
      omega
def BestOK (g : Nat → Nat → Int) (k : Nat) (f : Nat → Int) : Prop := ∀ m, m < 2 ^ k → Top (Nm g k (bt m)) (f m)
theorem BestOK.rng {g : Nat → Nat → Int} (hg : gLe g) {k : Nat} {f : Nat → Int} (h : BestOK g k f) (hk : k ≤ 12) {m : Nat} (hm : m < 2 ^ k) : 0 ≤ f m ∧ f m ≤ 1439976 := by
  have h1 := Nm_nn (h m hm).1
  have h2 := Nm_le hg (h m hm).1
  omega
/-- the class's way: the sets whose last one is k, by the one that it goes with -/
def bmx (g : Nat → Nat → Int) (k : Nat) (f : Nat → Int) : Nat → Nat → Int
  | 0, t => f t
  | o + 1, t => if t.testBit o = true ∧ 0 < g o k then max (bmx g k f o t) (f (t - 2 ^ o) + g o k) else bmx g k f o t
theorem bmx_top {g : Nat → Nat → Int} {k : Nat} {f : Nat → Int} (h : BestOK g k f) {t : Nat} (ht : t < 2 ^ k) : ∀ o, o ≤ k → Top (pS (Nm g k (bt t)) (fun u kk => if bt t u = true ∧ 0 < g u k then Nm g k (rmv (bt t) u) (kk - g u k) else 0) o) (bmx g k f o t)
  | 0, _ => h t ht
  | o + 1, ho => by
    have ih := bmx_top h ht o (by omega)
    have e : bmx g k f (o + 1) t = if t.testBit o = true ∧ 0 < g o k then max (bmx g k f o t) (f (t - 2 ^ o) + g o k) else bmx g k f o t := rfl
    rw [e]
    by_cases c : t.testBit o = true ∧ 0 < g o k
    · rw [if_pos c]
      have hs := sub_bt c.1
      have h9 := Nat.two_pow_pos o
      have h2 := h (t - 2 ^ o) (by omega)
      rw [hs.1] at h2
      exact pS_add ih h2 (fun kk => if_pos c)
    · rw [if_neg c]
      exact pS_zero ih (fun kk => if_neg c)
theorem BestOK_succ {g : Nat → Nat → Int} {k : Nat} {f f' : Nat → Int} (h : BestOK g k f) (h1 : ∀ m, m < 2 ^ k → f' m = f m) (h2 : ∀ t, t < 2 ^ k → f' (2 ^ k + t) = bmx g k f k t) : BestOK g (k + 1) f' := by
  intro m hm
  by_cases c : m < 2 ^ k
  · rw [h1 m c]
    refine Top_ext (fun kk => ?_) (h m c)
    rw [Nm_out]
    rw [bt_out c (Nat.le_refl _)]
    decide
  · have e : 2 ^ (k + 1) = 2 * 2 ^ k := by rw [Nat.pow_succ]; omega
    obtain ⟨t, rfl⟩ : ∃ t, m = 2 ^ k + t := ⟨m - 2 ^ k, by omega⟩
    have ht : t < 2 ^ k := by omega
    rw [h2 t ht]
    refine Top_ext (fun kk => ?_) (bmx_top h ht k (Nat.le_refl _))
    rw [Nm_in (bt_top ht)]
    show Nm g k (bt t) kk + sm k _ = _
    rw [Nm_congr (S := bt (2 ^ k + t)) (S' := bt t) (fun x hx => bt_hi ht hx) (fun _ _ _ _ _ _ => rfl)]
    congr 1
    apply sm_congr
    intro u hu
    rw [bt_hi ht hu]
    by_cases c2 : bt t u = true ∧ 0 < g u k
    · rw [if_pos c2]
      refine (if_pos c2).trans (Nm_congr (fun x hx => ?_) (fun _ _ _ _ _ _ => rfl))
      unfold rmv
      rw [bt_hi ht hx]
    · rw [if_neg c2]
      exact if_neg c2
theorem C_fillBest {σ : Hp} {this n : Nat} {g : Nat → Nat → Int} (hg : gLe g) (hp : isPlan this) {k : Nat} (hk : k < 12) (hgt : ∀ s, (∀ q, q ≠ this + 27 → s q = σ q) → ∀ o : Nat, o < k → F_Plan_gainOfTwo this o k s = some (g o k, s))
    (hb : BestOK g k (σ (this + 27))) : wp (F_Plan_fillBest this k σ) (fun _ s => BestOK g (k + 1) (s (this + 27)) ∧ ∀ q, q ≠ this + 27 → s q = σ q) := by
  have hpow := pow_le12 (k := k) (by omega)
  have hpow2 := pow_le12 (k := k + 1) (by omega)
  have e2 : 2 ^ (k + 1) = 2 * 2 ^ k := by rw [Nat.pow_succ]; omega
  generalize hf : σ (this + 27) = f at hb
  unfold F_Plan_fillBest
  rw [gd_pos hp, ishl_1 (by omega), lt_eq, Int.toNat_natCast, gd_pos (by omega), lt_eq, Int.toNat_natCast]
  unfold F_Plan_fillBest_20
  refine wp_loop (fun a : Int × Int × Hp => ∃ o : Nat, o ≤ k ∧ a.1 = ((2 ^ k : Nat) : Int) ∧ a.2.1 = (o : Int) ∧ (∀ q, q ≠ this + 27 → a.2.2 q = σ q) ∧ (∀ i, i < 2 ^ k → a.2.2 (this + 27) i = f i) ∧ ∀ t, t < 2 ^ k → a.2.2 (this + 27) (2 ^ k + t) = bmx g k f o t) (fun a => (300 - a.2.1).toNat) ?_ FU _ ?_ ?_
  · intro a k20 hP ih
    obtain ⟨x, y, s⟩ := a
    obtain ⟨o, ho, e0, e1, hq, hl, hh⟩ := hP
    dsimp only at e0 e1 hq hl hh ih ⊢
    subst e0 e1
    unfold F_Plan_fillBest_20_b
    refine wp_if (fun c => ?_) (fun c => ?_)
    · have eo : o = k := by omega
      subst eo
      exact wp_ret ⟨BestOK_succ hb hl hh, hq⟩
    · have hok : o < k := by omega
      have hpo := pow_le12 (k := o) (by omega)
      have hor : (2 ^ k ||| 2 ^ o : Nat) = 2 ^ k + 2 ^ o := by rw [Nat.or_comm]; exact or_add hok
      have hlt : 2 ^ o < 2 ^ k := Nat.pow_lt_pow_right (by decide) hok
      rw [hgt s hq o hok, cl2_some, ishl_1 (by omega), Int.toNat_natCast, ior_nn (by omega) (by omega), Int.toNat_natCast, Int.toNat_natCast, hor, lt_eq]
      have hgo := hg o k
      unfold F_Plan_fillBest_44
      refine wp_loop (fun a : Int × Int × Int × Int × Int × Hp => ∃ m : Nat, 2 ^ k + 2 ^ o ≤ m ∧ m ≤ 2 * 2 ^ k ∧ a.1 = ((2 ^ k : Nat) : Int) ∧ a.2.1 = (o : Int) ∧ a.2.2.1 = g o k ∧ a.2.2.2.1 = ((2 ^ k + 2 ^ o : Nat) : Int) ∧ a.2.2.2.2.1 = (m : Int) ∧ (∀ q, q ≠ this + 27 → a.2.2.2.2.2 q = σ q) ∧ (∀ i, i < 2 ^ k → a.2.2.2.2.2 (this + 27) i = f i) ∧ ∀ t, t < 2 ^ k → a.2.2.2.2.2 (this + 27) (2 ^ k + t) = if 2 ^ k + t < m then bmx g k f (o + 1) t else bmx g k f o t) (fun a => (((2 * 2 ^ k : Nat) : Int) - a.2.2.2.2.1).toNat) ?_ FU _ ?_ ?_
      · intro a k44 hP2 ih2
        obtain ⟨x1, x2, x3, x4, x5, u⟩ := a
        obtain ⟨m, hm1, hm2, e0, e1, e2, e3, e4, hq2, hl2, hh2⟩ := hP2
        dsimp only at e0 e1 e2 e3 e4 hq2 hl2 hh2 ih2 ⊢
        subst e0 e1 e2 e3 e4
        have out : (∀ t, t < 2 ^ k → u (this + 27) (2 ^ k + t) = bmx g k f (o + 1) t) → wp (F_Plan_fillBest_103 k20 this k ((2 ^ k : Nat) : Int) o u) (fun _ s => BestOK g (k + 1) (s (this + 27)) ∧ ∀ q, q ≠ this + 27 → s q = σ q) := by
          intro h9
          unfold F_Plan_fillBest_103
          rw [lt_eq, iadd_ok (by omega)]
          exact ih _ ⟨o + 1, by omega, rfl, by simp, hq2, hl2, h9⟩ (by dsimp only; omega)
        unfold F_Plan_fillBest_44_b
        refine wp_if (fun c2 => ?_) (fun c2 => ?_)
        · refine out (fun t ht => ?_)
          rw [hh2 t ht]
          have e : bmx g k f (o + 1) t = if t.testBit o = true ∧ 0 < g o k then max (bmx g k f o t) (f (t - 2 ^ o) + g o k) else bmx g k f o t := rfl
          by_cases c9 : 2 ^ k + t < m
          · rw [if_pos c9, e, if_neg (fun z => absurd z.2 (by omega))]
          · rw [if_neg c9, e, if_neg (fun z => absurd z.2 (by omega))]
        · rw [imul_ok (by omega)]
          refine wp_if (fun c3 => ?_) (fun c3 => ?_)
          · refine out (fun t ht => ?_)
            rw [hh2 t ht, if_pos (by omega)]
          · obtain ⟨t, rfl⟩ : ∃ t, m = 2 ^ k + t := ⟨m - 2 ^ k, by omega⟩
            have ht : t < 2 ^ k := by omega
            have eb : bmx g k f (o + 1) t = if t.testBit o = true ∧ 0 < g o k then max (bmx g k f o t) (f (t - 2 ^ o) + g o k) else bmx g k f o t := rfl
            have cnd : (iand ((2 ^ k + t : Nat) : Int) ((2 ^ k + 2 ^ o : Nat) : Int) = ((2 ^ k + 2 ^ o : Nat) : Int)) ↔ t.testBit o = true := by
              rw [iand_nn (by omega) (by omega), Int.toNat_natCast, Int.toNat_natCast, ← hor]
              have h1 : (2 ^ k + t).testBit k = true := bt_top ht
              have h2 : (2 ^ k + t).testBit o = t.testBit o := bt_hi ht hok
              have h3 := and_pair (m := 2 ^ k + t) (a := k) (c := o)
              rw [h1, h2] at h3
              constructor
              · intro h9
                exact (h3.mp (Int.ofNat.inj h9)).2
              · intro h9
                rw [h3.mpr ⟨rfl, h9⟩]
            have next : ∀ v : Hp, (∀ q, q ≠ this + 27 → v q = σ q) → (∀ i, i ≠ 2 ^ k + t → v (this + 27) i = u (this + 27) i) → v (this + 27) (2 ^ k + t) = bmx g k f (o + 1) t → wp (F_Plan_fillBest_97 k44 this k ((2 ^ k : Nat) : Int) o (g o k) ((2 ^ k + 2 ^ o : Nat) : Int) ((2 ^ k + t : Nat) : Int) v) (fun _ s => BestOK g (k + 1) (s (this + 27)) ∧ ∀ q, q ≠ this + 27 → s q = σ q) := by
              intro v v1 v2 v3
              unfold F_Plan_fillBest_97
              rw [lt_eq, iadd_ok (by omega)]
              refine ih2 _ ⟨2 ^ k + t + 1, by omega, by omega, rfl, rfl, rfl, rfl, by simp, v1, fun i hi => ?_, fun t' ht' => ?_⟩ (by dsimp only; omega)
              · show v (this + 27) i = f i
                rw [v2 i (by omega)]
                exact hl2 i hi
              · show v (this + 27) (2 ^ k + t') = _
                by_cases e : t' = t
                · subst e
                  rw [v3, if_pos (by omega)]
                · rw [v2 _ (by omega), hh2 t' ht']
                  by_cases c4 : t' < t
                  · rw [if_pos (by omega), if_pos (by omega)]
                  · rw [if_neg (by omega), if_neg (by omega)]
            refine wp_if (fun c4 => ?_) (fun c4 => ?_)
            · have hto := cnd.mp c4
              have hs := sub_bt hto
              rw [isub_ok (by omega), show ((2 ^ k + t : Nat) : Int) - ((2 ^ k + 2 ^ o : Nat) : Int) = ((t - 2 ^ o : Nat) : Int) by omega, gd_pos (by omega), gd_pos (by omega), gd_pos (by omega), Int.toNat_natCast, Int.toNat_natCast, lt_eq, hl2 (t - 2 ^ o) (by omega), hh2 t ht, if_neg (by omega)]
              have hr1 := hb.rng hg (by omega) (m := t - 2 ^ o) (by omega)
              rw [iadd_ok (by omega)]
              refine next _ (fun q hq9 => by rw [hset_obj _ _ _ _ hq9]; exact hq2 q hq9) (fun i hi => by rw [hset_get, if_neg (fun z => hi z.2)]) ?_
              rw [hset_same, eb, if_pos ⟨hto, by omega⟩]
              unfold imax
              split <;> omega
            · refine next u hq2 (fun _ _ => rfl) ?_
              rw [hh2 t ht, if_neg (by omega), eb, if_neg (fun z => c4 (cnd.mpr z.1))]
      · refine ⟨2 ^ k + 2 ^ o, Nat.le_refl _, by omega, rfl, rfl, rfl, rfl, rfl, hq, hl, fun t ht => ?_⟩
        show s (this + 27) (2 ^ k + t) = _
        rw [hh t ht]
        have e : bmx g k f (o + 1) t = if t.testBit o = true ∧ 0 < g o k then max (bmx g k f o t) (f (t - 2 ^ o) + g o k) else bmx g k f o t := rfl
        by_cases c2 : 2 ^ k + t < 2 ^ k + 2 ^ o
        · rw [if_pos c2, e, if_neg]
          intro z
          have := Nat.ge_two_pow_of_testBit z.1
          omega
        · rw [if_neg c2]
      · rw [FU_eq]
        show (((2 * 2 ^ k : Nat) : Int) - ((2 ^ k + 2 ^ o : Nat) : Int)).toNat < 20000
        omega
  · refine ⟨0, by omega, rfl, rfl, fun q hq => ?_, fun i hi => ?_, fun t ht => ?_⟩
    · show hcopy σ (this + 27) (0 : Int).toNat (2 ^ k) (2 ^ k) q = σ q
      funext i
      unfold hcopy
      rw [if_neg (fun z => hq z.1)]
    · show hcopy σ (this + 27) (0 : Int).toNat (2 ^ k) (2 ^ k) (this + 27) i = f i
      unfold hcopy
      rw [if_neg (by omega), hf]
    · show hcopy σ (this + 27) (0 : Int).toNat (2 ^ k) (2 ^ k) (this + 27) (2 ^ k + t) = f t
      unfold hcopy
      rw [if_pos ⟨rfl, by omega, by omega⟩, hf]
      congr 1
      show 0 + (2 ^ k + t - 2 ^ k) = t
      omega
  · rw [FU_eq]
    show (300 - (0 : Int)).toNat < 20000
    omega
