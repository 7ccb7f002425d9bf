/-! HALVES: the class's weights from the roads; the check's doubles -/
def gX (d : ND) (x : Nat → Int) (r a c : Nat) : Int := if rdO d a c r = -1 then 0 else x (rdO d a c r).toNat
theorem gX_succ (d : ND) (x : Nat → Int) (r a c : Nat) : gX d x (r + 1) a c = if (fs d r = a ∧ sn d r = c) ∨ (fs d r = c ∧ sn d r = a) then x r else gX d x r a c := by
  have e : rdO d a c (r + 1) = if (fs d r = a ∧ sn d r = c) ∨ (fs d r = c ∧ sn d r = a) then (r : Int) else rdO d a c r := rfl
  unfold gX
  rw [e]
  by_cases h : (fs d r = a ∧ sn d r = c) ∨ (fs d r = c ∧ sn d r = a)
  · rw [if_pos h, if_pos h, if_neg (by omega)]
    rfl
  · rw [if_neg h, if_neg h]
theorem gX_sym (d : ND) (x : Nat → Int) (r a c : Nat) : gX d x r a c = gX d x r c a := by
  unfold gX
  rw [rdO_sym]
theorem gX_gpd (d : ND) (ow : Nat → Int) : gX d (gnd d ow) (dR d) = gpd d ow := rfl
theorem gX_rng {d : ND} {x : Nat → Int} (hx : ∀ r, r < dR d → 0 ≤ x r ∧ x r ≤ 119998) {r : Nat} (hr : r ≤ dR d) (a c : Nat) : 0 ≤ gX d x r a c ∧ gX d x r a c ≤ 119998 := by
  unfold gX
  rcases rdO_cases d a c r with ⟨h1, h2⟩ | ⟨q, h1, h2, h3⟩
  · rw [h1, if_pos rfl]; omega
  · rw [h2, if_neg (by omega)]
    exact hx q (by omega)
/-- the weights stand as the first r roads tell -/
def WtR (s : Hp) (d : ND) (x : Nat → Int) (r : Nat) : Prop := s 91 7 = dW d ∧ ∀ i j, i ≤ dW d → j ≤ dW d → s (92 + 1 + i) j = if i = 0 ∨ j = 0 then 0 else gX d x r (i - 1) (j - 1)
def wtF (σ s : Hp) : Prop := (∀ q, q < 91 ∨ 105 < q → s q = σ q)
theorem C_begin {σ : Hp} {d : ND} (hW : dW d ≤ 12) (x : Nat → Int) : wp (F_Mat_begin (dW d) σ) (fun _ s => WtR s d x 0 ∧ wtF σ s) := by
  unfold F_Mat_begin F_Mat_begin_12
  have e : imin (dW d : Int) 12 = dW d := by
    unfold imin
    rw [if_neg (by omega)]
  rw [lt_eq, e]
  refine wp_loop (fun a : Int × Hp => ∃ m : Nat, m ≤ dW d + 1 ∧ a.1 = (m : Int) ∧ a.2 91 7 = (dW d : Int) ∧ wtF σ a.2 ∧ ∀ i j, i < m → j < 13 → a.2 (92 + 1 + i) j = 0) (fun a => (300 - a.1).toNat) ?_ FU _ ?_ ?_
  · intro a k hp ih
    obtain ⟨y, t⟩ := a
    obtain ⟨m, hm, e0, h7, hf, hz⟩ := hp
    dsimp only at e0 h7 hf hz ih ⊢
    subst e0
    unfold F_Mat_begin_12_b
    rw [h7]
    refine wp_if (fun c => ?_) (fun c => ?_)
    · refine wp_ret ⟨⟨h7, fun i j hi hj => ?_⟩, hf⟩
      rw [hz i j (by omega) (by omega)]
      split <;> rfl
    · rw [gd_pos (by omega), Int.toNat_natCast]
      have h13 : ∀ m, m < 13 → iaB shC (92 + 1 + m) = true ∧ lenOf shC (92 + 1 + m) = 13 := by decide
      refine wp_cl (J_fill (n := 13) (h13 m (by omega)).1 (h13 m (by omega)).2 (by decide) t) (fun _ u hu => ?_)
      rw [lt_eq, iadd_ok (by omega)]
      refine ih _ ⟨m + 1, by omega, by simp, (congrFun (hu.1 91 (by omega)) 7).trans h7, fun q hq => (hu.1 q (by omega)).trans (hf q hq), fun i j hi hj => ?_⟩ (by dsimp only; omega)
      show u (92 + 1 + i) j = 0
      by_cases e : i = m
      · subst e; exact hu.2 j hj
      · rw [hu.1 _ (by omega)]; exact hz i j (by omega) hj
  · refine ⟨0, by omega, rfl, by show hset σ 91 7 (dW d) 91 7 = _; exact hset_same _ _ _ _, fun q hq => hset_obj _ _ _ _ (by omega), fun i j hi => absurd hi (by omega)⟩
  · rw [FU_eq]
    show (300 - (0 : Int)).toNat < 20000
    omega
theorem C_weigh {σ : Hp} {d : ND} (hd : NDok d) {x : Nat → Int} {r : Nat} (hr : r < dR d) (h : WtR σ d x r) : wp (F_Mat_weigh (fs d r) (sn d r) (x r) σ) (fun _ s => WtR s d x (r + 1) ∧ wtF σ s) := by
  have hW := hd.1
  have hp := hd.2.2.1 r hr
  unfold F_Mat_weigh
  rw [iadd_ok (by omega), iadd_ok (by omega), gd_pos (by omega), gd_pos (by omega), lt_eq, gd_pos (by omega), gd_pos (by omega), lt_eq, show ((fs d r : Int) + 1).toNat = fs d r + 1 by omega, show ((sn d r : Int) + 1).toNat = sn d r + 1 by omega]
  refine wp_ret ⟨⟨by rw [hset_obj _ _ _ _ (by omega), hset_obj _ _ _ _ (by omega)]; exact h.1, fun i j hi hj => ?_⟩, fun q hq => by rw [hset_obj _ _ _ _ (by omega), hset_obj _ _ _ _ (by omega)]⟩
  rw [gX_succ, hset_get, hset_get, h.2 i j hi hj]
  by_cases e0 : i = 0 ∨ j = 0
  · rw [if_pos e0, if_pos e0, if_neg (by omega), if_neg (by omega)]
  · rw [if_neg e0, if_neg e0]
    by_cases p1 : sn d r + 1 = i ∧ fs d r + 1 = j
    · rw [if_pos ⟨by omega, p1.2.symm⟩, if_pos (Or.inr ⟨by omega, by omega⟩)]
    · rw [if_neg (fun z => p1 ⟨by omega, z.2.symm⟩)]
      by_cases p2 : fs d r + 1 = i ∧ sn d r + 1 = j
      · rw [if_pos ⟨by omega, p2.2.symm⟩, if_pos (Or.inl ⟨by omega, by omega⟩)]
      · rw [if_neg (fun z => p2 ⟨by omega, z.2.symm⟩), if_neg (fun z => z.elim (fun q => p2 ⟨by omega, by omega⟩) (fun q => p1 ⟨by omega, by omega⟩))]
theorem C_great {s : Hp} {d : ND} (hd : NDok d) {x : Nat → Int} (hx : ∀ r, r < dR d → 0 ≤ x r ∧ x r ≤ 119998) (h : WtR s d x (dR d)) : wp (F_Mat_greatest s) (fun z t => cert (dW d) (gX d x (dR d)) z ∧ 0 ≤ z ∧ z ≤ 1439976 ∧ matF s t) := by
  have hw : wOk (fun i j => if i = 0 ∨ j = 0 then 0 else gX d x (dR d) (i - 1) (j - 1)) := fun i j => by
    show 0 ≤ (if i = 0 ∨ j = 0 then 0 else gX d x (dR d) (i - 1) (j - 1)) ∧ (if i = 0 ∨ j = 0 then 0 else gX d x (dR d) (i - 1) (j - 1)) ≤ 119998
    split
    · omega
    · exact gX_rng hx (Nat.le_refl _) _ _
  refine wp_mono (C_greatest hw hd.1 h.1 h.2) (fun z t ht => ⟨?_, ht.2⟩)
  have e : (fun i j => (if i + 1 = 0 ∨ j + 1 = 0 then 0 else gX d x (dR d) (i + 1 - 1) (j + 1 - 1))) = gX d x (dR d) := by
    funext i j
    rw [if_neg (by omega)]
    rfl
  have := ht.1
  rw [e] at this
  exact this
/-! the check's doubles -/
def TD (W : Nat) (wt : Nat → Nat → Int) (a : Nat) (f : Nat → Int) : Prop := ∀ m, m < 2 ^ W → (0 ≤ f m ∧ f m ≤ 119998 * a) ∧
  (∀ U V : Nat → Int, (∀ i, 0 ≤ U i) → (∀ j, 0 ≤ V j) → (∀ i j, i < a → j < W → wt i j ≤ U i + V j) → f m ≤ si a U + si W (fun j => if bt m j = true then V j else 0)) ∧
  ∀ p : Nat → Nat, (∀ i, i < a → p i < W ∧ bt m (p i) = true) → (∀ i j, i < a → j < a → i ≠ j → p i ≠ p j) → si a (fun i => wt i (p i)) ≤ f m
/-- the greatest over the columns below b -/
def PVx (wt : Nat → Nat → Int) (a : Nat) (f : Nat → Int) (m b : Nat) (v : Int) : Prop := f m ≤ v ∧ (∀ c, c < b → bt m c = true → 0 < wt a c → wt a c + f (m ^^^ (m &&& 2 ^ c)) ≤ v) ∧ (v = f m ∨ ∃ c, c < b ∧ bt m c = true ∧ v = wt a c + f (m ^^^ (m &&& 2 ^ c)))
theorem si_nn {f : Nat → Int} {n : Nat} (h : ∀ u, u < n → 0 ≤ f u) : 0 ≤ si n f := by
  have := si_le (n := n) (f := fun _ => 0) (f' := f) h
  rw [si_const] at this
  omega
theorem TD_step {W : Nat} {wt : Nat → Nat → Int} (hw : wOk wt) {a : Nat} {f f' : Nat → Int} (h : TD W wt a f) (hv : ∀ m, m < 2 ^ W → PVx wt a f m W (f' m)) : TD W wt (a + 1) f' := by
  intro m hm
  obtain ⟨v1, v2, v3⟩ := hv m hm
  obtain ⟨⟨b1, b2⟩, up, lo⟩ := h m hm
  have sub : ∀ c, c < W → bt m c = true → m ^^^ (m &&& 2 ^ c) < 2 ^ W := fun c _ _ => Nat.lt_of_le_of_lt (clear_le m c) hm
  refine ⟨⟨by omega, ?_⟩, fun U V hU hV hd => ?_, fun p hp hinj => ?_⟩
  · rcases v3 with e | ⟨c, c1, c2, e⟩
    · rw [e]; omega
    · have := (h _ (sub c c1 c2)).1
      have := hw a c
      rw [e]; omega
  · show f' m ≤ (si a U + U a) + _
    have hUa := hU a
    rcases v3 with e | ⟨c, c1, c2, e⟩
    · have := up U V hU hV (fun i j hi hj => hd i j (by omega) hj)
      rw [e]; omega
    · have h1 := (h _ (sub c c1 c2)).2.1 U V hU hV (fun i j hi hj => hd i j (by omega) hj)
      have h2 := hd a c (by omega) c1
      rw [si_pick (v := c) (f := fun j => if bt m j = true then V j else 0) c1, if_pos c2]
      have e3 : si W (fun j => if bt (m ^^^ (m &&& 2 ^ c)) j = true then V j else 0) = si W (fun u => if u = c then 0 else if bt m u = true then V u else 0) := by
        apply si_congr
        intro u hu
        rw [bt_clear]
        by_cases e4 : u = c
        · rw [if_pos e4, if_neg (fun z => (rmv_at.mp z).2 e4)]
        · rw [if_neg e4]
          by_cases e5 : bt m u = true
          · rw [if_pos e5, if_pos (rmv_at.mpr ⟨e5, e4⟩)]
          · rw [if_neg e5, if_neg (fun z => e5 (rmv_at.mp z).1)]
      rw [e3] at h1
      rw [e]; omega
  · show si a (fun i => wt i (p i)) + wt a (p a) ≤ f' m
    have hpa := hp a (by omega)
    have hwa := hw a (p a)
    by_cases e : 0 < wt a (p a)
    · have h1 := v2 (p a) hpa.1 hpa.2 e
      have h2 := (h _ (sub (p a) hpa.1 hpa.2)).2.2 p (fun i hi => ⟨(hp i (by omega)).1, by rw [bt_clear]; exact rmv_at.mpr ⟨(hp i (by omega)).2, hinj i a (by omega) (by omega) (by omega)⟩⟩) (fun i j hi hj => hinj i j (by omega) (by omega))
      omega
    · have h2 := lo p (fun i hi => hp i (by omega)) (fun i j hi hj => hinj i j (by omega) (by omega))
      omega
theorem TD_0 {W : Nat} {wt : Nat → Nat → Int} {f : Nat → Int} (h : ∀ m, m < 2 ^ W → f m = 0) : TD W wt 0 f := by
  intro m hm
  rw [h m hm]
  refine ⟨by omega, fun U V hU hV _ => ?_, fun p _ _ => Int.le_refl _⟩
  show 0 ≤ 0 + _
  have := si_nn (n := W) (f := fun j => if bt m j = true then V j else 0) (fun u _ => by
    show 0 ≤ if bt m u = true then V u else 0
    split
    · exact hV u
    · omega)
  omega
theorem least_at {V : Nat → Int} : ∀ {n : Nat}, 0 < n → ∃ j, j < n ∧ ∀ i, i < n → V j ≤ V i
  | 0, h => absurd h (by omega)
  | 1, _ => ⟨0, by omega, fun i hi => by rw [show i = 0 by omega]; exact Int.le_refl _⟩
  | n + 2, _ => by
    obtain ⟨j, h1, h2⟩ := least_at (V := V) (n := n + 1) (by omega)
    by_cases e : V j ≤ V (n + 1)
    · refine ⟨j, by omega, fun i hi => ?_⟩
      by_cases e2 : i = n + 1
      · subst e2; exact e
      · exact h2 i (by omega)
    · refine ⟨n + 1, by omega, fun i hi => ?_⟩
      by_cases e2 : i = n + 1
      · subst e2; exact Int.le_refl _
      · have := h2 i (by omega)
        omega
theorem full_bt {W x : Nat} (hx : x < W) : bt (2 ^ W - 1) x = true := by
  unfold bt
  rw [Nat.testBit_two_pow_sub_one]
  simpa using hx
theorem TD_cert {W : Nat} {wt : Nat → Nat → Int} (hw : wOk wt) (hsym : ∀ i j, wt i j = wt j i) {f : Nat → Int} (h : TD W wt W f) {v : Int} (hc : cert W wt v) : f (2 ^ W - 1) = v := by
  obtain ⟨⟨p, hp, e1⟩, U, V, hd, e2⟩ := hc
  have hpos := Nat.two_pow_pos W
  obtain ⟨⟨b1, b2⟩, up, lo⟩ := h (2 ^ W - 1) (by omega)
  have low : v ≤ f (2 ^ W - 1) := by
    have := lo p (fun i hi => ⟨hp.1 i hi, full_bt (hp.1 i hi)⟩) hp.2
    rw [si_congr (f' := fun j => wt (p j) j) (fun u _ => hsym u (p u))] at this
    omega
  have high : f (2 ^ W - 1) ≤ v := by
    by_cases hW : W = 0
    · subst hW
      have e3 : v = 0 := e1
      have : f (2 ^ 0 - 1) ≤ 119998 * ((0 : Nat) : Int) := b2
      omega
    · obtain ⟨j0, h1, h2⟩ := least_at (V := V) (n := W) (by omega)
      have h3 := up (fun i => if i < W then U i + V j0 else 0) (fun j => if j < W then V j - V j0 else 0) (fun i => by
        show 0 ≤ if i < W then U i + V j0 else 0
        split
        · rename_i hi
          have := hd i j0 hi h1
          have := (hw i j0).1
          omega
        · omega) (fun j => by
        show 0 ≤ if j < W then V j - V j0 else 0
        split
        · rename_i hj
          have := h2 j hj
          omega
        · omega) (fun i j hi hj => by
        show wt i j ≤ (if i < W then U i + V j0 else 0) + (if j < W then V j - V j0 else 0)
        rw [if_pos hi, if_pos hj]
        have := hd i j hi hj
        omega)
      rw [si_congr (f := fun i => if i < W then U i + V j0 else 0) (f' := fun i => U i + V j0) (fun u hu => if_pos hu), si_add, si_const] at h3
      rw [si_congr (f := fun j => if bt (2 ^ W - 1) j = true then (if j < W then V j - V j0 else 0) else 0) (f' := fun j => V j + -(V j0)) (fun u hu => by show (if bt (2 ^ W - 1) u = true then (if u < W then V u - V j0 else 0) else 0) = _; rw [if_pos (full_bt hu), if_pos hu]; omega), si_add, si_const, Int.neg_mul] at h3
      omega
  omega
theorem M_doubles {τ : Hp} {b : Nat} {d : ND} {wt : Nat → Nat → Int} {q0 : Nat} (hd : NDok d) (hN : NetM τ b d) (hw : wOk wt) (hsym : ∀ i j, wt i j = wt j i) (hq0 : iaB shM q0 = true) (hl0 : lenOf shM q0 = 144) (hq1 : q0 ≠ 34 ∧ q0 ≠ 35) (hwt : ∀ a c, a < 12 → c < 12 → τ q0 (12 * a + c) = wt a c) :
    wp (F_M_doubles q0 τ) (fun z s => (∀ v, cert (dW d) wt v → z = v) ∧ 0 ≤ z ∧ z ≤ 1439976 ∧ fr 34 35 τ s) := by
  have hb := hN.1
  have hW := hd.1
  have hpw := pow_le12 hd.1
  have net : ∀ s', fr 34 35 τ s' → NetM s' b d := fun s' h' => hN.congr (by rw [h' 0 (by omega)]) (fun q a1 a2 => h' q (by omega))
  unfold F_M_doubles F_M_doubles_2
  rw [gd_pos hq0]
  refine wp_loop (fun a : Int × Hp => ∃ m : Nat, m ≤ 2 ^ dW d ∧ a.1 = (m : Int) ∧ fr 34 35 τ a.2 ∧ ∀ i, i < m → a.2 34 i = 0) (fun a => (((2 ^ dW d : Nat) : Int) - a.1).toNat) ?_ FU _ ?_ ?_
  · intro a k hp ih
    obtain ⟨x, t⟩ := a
    obtain ⟨m, hm, e0, hf, hz⟩ := hp
    dsimp only at e0 hf hz ih ⊢
    subst e0
    unfold F_M_doubles_2_b
    rw [M_all hd (net t hf), cl2_some]
    refine wp_if (fun c => ?_) (fun c => ?_)
    · unfold F_M_doubles_25
      refine wp_loop (fun a : Int × Hp => ∃ r : Nat, r ≤ dW d ∧ a.1 = (r : Int) ∧ fr 34 35 τ a.2 ∧ TD (dW d) wt r (a.2 34)) (fun a => (300 - a.1).toNat) ?_ FU _ ?_ ?_
      · intro a k25 hp2 ih2
        obtain ⟨y, s⟩ := a
        obtain ⟨r, hr, e1, hfs, hT⟩ := hp2
        dsimp only at e1 hfs hT ih2 ⊢
        subst e1
        unfold F_M_doubles_25_b
        rw [(net s hfs).2.1, gd_pos (by omega), Int.toNat_natCast, (net s hfs).2.2.1]
        refine wp_if (fun c2 => ?_) (fun c2 => ?_)
        · have er : r = dW d := by omega
          subst er
          rw [M_all hd (net s hfs), cl2_some, gd_pos (by omega), Int.toNat_natCast]
          have h9 := (hT (2 ^ dW d - 1) (by omega)).1
          exact wp_ret ⟨fun v hv => TD_cert hw hsym hT hv, h9.1, by omega, hfs⟩
        · have hrW : r < dW d := by omega
          generalize hF : s 34 = F at hT
          unfold F_M_doubles_40
          refine wp_loop (fun a : Int × Int × Hp => ∃ m : Nat, m ≤ 2 ^ dW d ∧ a.1 = (r : Int) ∧ a.2.1 = (m : Int) ∧ fr 34 35 τ a.2.2 ∧ a.2.2 34 = F ∧ ∀ i, i < m → a.2.2 35 i = F i) (fun a => (((2 ^ dW d : Nat) : Int) - a.2.1).toNat) ?_ FU _ ?_ ?_
          · intro a k40 hp3 ih3
            obtain ⟨y1, y2, u⟩ := a
            obtain ⟨m2, hm2, e1, e2, hfu, h34, h35⟩ := hp3
            dsimp only at e1 e2 hfu h34 h35 ih3 ⊢
            subst e1 e2
            unfold F_M_doubles_40_b
            rw [M_all hd (net u hfu), cl2_some]
            refine wp_if (fun c3 => ?_) (fun c3 => ?_)
            · -- the sets
              unfold F_M_doubles_68
              refine wp_loop (fun a : Int × Int × Hp => ∃ m : Nat, m ≤ 2 ^ dW d ∧ a.1 = (r : Int) ∧ a.2.1 = (m : Int) ∧ fr 34 35 τ a.2.2 ∧ (∀ i, i < 2 ^ dW d → a.2.2 35 i = F i) ∧ (∀ i, i < m → PVx wt r F i (dW d) (a.2.2 34 i)) ∧ ∀ i, m ≤ i → i < 2 ^ dW d → a.2.2 34 i = F i) (fun a => (((2 ^ dW d : Nat) : Int) - a.2.1).toNat) ?_ FU _ ?_ ?_
              · intro a k68 hp4 ih4
                obtain ⟨z1, z2, v⟩ := a
                obtain ⟨m3, hm3, e1, e2, hfv, g35, g34, g34'⟩ := hp4
                dsimp only at e1 e2 hfv g35 g34 g34' ih4 ⊢
                subst e1 e2
                unfold F_M_doubles_68_b
                rw [M_all hd (net v hfv), cl2_some]
                refine wp_if (fun c4 => ?_) (fun c4 => ?_)
                · rw [lt_eq, iadd_ok (by omega)]
                  refine ih2 _ ⟨r + 1, by omega, by simp, hfv, TD_step hw hT (fun i hi => g34 i (by omega))⟩ (by dsimp only; omega)
                · have hm3' : m3 < 2 ^ dW d := by omega
                  unfold F_M_doubles_79
                  refine wp_loop (fun a : Int × Int × Int × Hp => ∃ cc : Nat, cc ≤ dW d ∧ a.1 = (r : Int) ∧ a.2.1 = (m3 : Int) ∧ a.2.2.1 = (cc : Int) ∧ fr 34 35 τ a.2.2.2 ∧ (∀ i, i < 2 ^ dW d → a.2.2.2 35 i = F i) ∧ (∀ i, i < m3 → PVx wt r F i (dW d) (a.2.2.2 34 i)) ∧ (∀ i, m3 < i → i < 2 ^ dW d → a.2.2.2 34 i = F i) ∧ PVx wt r F m3 cc (a.2.2.2 34 m3)) (fun a => (300 - a.2.2.1).toNat) ?_ FU _ ?_ ?_
                  · intro a k79 hp5 ih5
                    obtain ⟨w1, w2, w3, p⟩ := a
                    obtain ⟨cc, hcc, e1, e2, e3, hfp, f35, f34, f34', fpv⟩ := hp5
                    dsimp only at e1 e2 e3 hfp f35 f34 f34' fpv ih5 ⊢
                    subst e1 e2 e3
                    unfold F_M_doubles_79_b
                    rw [(net p hfp).2.1, gd_pos (by omega), Int.toNat_natCast, (net p hfp).2.2.1]
                    refine wp_if (fun c5 => ?_) (fun c5 => ?_)
                    · have ec : cc = dW d := by omega
                      subst ec
                      rw [lt_eq, iadd_ok (by omega)]
                      refine ih4 _ ⟨m3 + 1, by omega, rfl, by simp, hfp, f35, fun i hi => ?_, fun i h1 h2 => f34' i (by omega) h2⟩ (by dsimp only; omega)
                      show PVx wt r F i (dW d) (p 34 i)
                      by_cases e : i = m3
                      · subst e; exact fpv
                      · exact f34 i (by omega)
                    · have hccW : cc < dW d := by omega
                      have hpo := pow_le12 (k := cc) (by omega)
                      have next : ∀ p2 : Hp, fr 34 35 τ p2 → p2 35 = p 35 → (∀ i, i ≠ m3 → p2 34 i = p 34 i) → PVx wt r F m3 (cc + 1) (p2 34 m3) → wp (F_M_doubles_170 k79 q0 r m3 cc p2) (fun z s => (∀ v, cert (dW d) wt v → z = v) ∧ 0 ≤ z ∧ z ≤ 1439976 ∧ fr 34 35 τ s) := by
                        intro p2 h1 h2 h3 h4
                        unfold F_M_doubles_170
                        rw [lt_eq, iadd_ok (by omega)]
                        refine ih5 _ ⟨cc + 1, by omega, rfl, rfl, by simp, h1, fun i hi => by show p2 35 i = F i; rw [h2]; exact f35 i hi, fun i hi => ?_, fun i g1 g2 => ?_, h4⟩ (by dsimp only; omega)
                        · show PVx wt r F i (dW d) (p2 34 i)
                          rw [h3 i (by omega)]; exact f34 i hi
                        · show p2 34 i = F i
                          rw [h3 i (by omega)]; exact f34' i g1 g2
                      have same : (¬ (bt m3 cc = true ∧ 0 < wt r cc)) → PVx wt r F m3 (cc + 1) (p 34 m3) := fun hn => by
                        obtain ⟨v1, v2, v3⟩ := fpv
                        refine ⟨v1, fun c9 h1 h2 h3 => ?_, v3.elim Or.inl (fun ⟨c9, h1, h2⟩ => Or.inr ⟨c9, by omega, h2⟩)⟩
                        by_cases e : c9 = cc
                        · subst e; exact absurd ⟨h2, h3⟩ hn
                        · exact v2 c9 (by omega) h2 h3
                      rw [bit_at (by omega) (by omega), Int.toNat_natCast, Int.toNat_natCast]
                      by_cases c6 : m3.testBit cc = true
                      · have hgw := hw r cc
                        rw [if_pos c6, if_neg (by decide), ix12 (by omega) (by omega), hl0, gd_pos (by omega), Int.toNat_natCast, hfp q0 (by omega), hwt r cc (by omega) (by omega)]
                        refine wp_if (fun c7 => next p hfp rfl (fun _ _ => rfl) (same (fun z => by omega))) (fun c7 => ?_)
                        have hcl := clear_le m3 cc
                        rw [gd_pos (by omega), ishl_1 (by omega), Int.toNat_natCast, iandnot_nn (by omega) (by omega), Int.toNat_natCast, Int.toNat_natCast, gd_pos (by omega), Int.toNat_natCast, f35 _ (by omega)]
                        have hb1 := (hT (m3 ^^^ (m3 &&& 2 ^ cc)) (by omega)).1
                        rw [iadd_ok (by omega), lt_eq, gd_pos (by omega)]
                        obtain ⟨v1, v2, v3⟩ := fpv
                        have upd : ∀ v9 : Int, v9 = max (p 34 m3) (wt r cc + F (m3 ^^^ (m3 &&& 2 ^ cc))) → wp (F_M_doubles_169 k79 q0 r m3 cc v9 m3 p) (fun z s => (∀ v, cert (dW d) wt v → z = v) ∧ 0 ≤ z ∧ z ≤ 1439976 ∧ fr 34 35 τ s) := by
                          intro v9 hv9
                          unfold F_M_doubles_169
                          rw [gd_pos (by omega), Int.toNat_natCast, lt_eq]
                          refine next _ (fr_set hfp (by omega)) (hset_obj _ _ _ _ (by decide)) (fun i hi => by rw [hset_get, if_neg (fun z => hi z.2)]) ?_
                          rw [hset_same]
                          refine ⟨by omega, fun c9 h1 h2 h3 => ?_, ?_⟩
                          · by_cases e : c9 = cc
                            · subst e; omega
                            · have := v2 c9 (by omega) h2 h3
                              omega
                          · by_cases e : p 34 m3 ≤ wt r cc + F (m3 ^^^ (m3 &&& 2 ^ cc))
                            · exact Or.inr ⟨cc, by omega, c6, by omega⟩
                            · have e9 : v9 = p 34 m3 := by omega
                              rw [e9]
                              exact v3.elim Or.inl (fun ⟨c9, h1, h2⟩ => Or.inr ⟨c9, by omega, h2⟩)
                        refine wp_if (fun c8 => ?_) (fun c8 => ?_)
                        · rw [gd_pos (by omega)]
                          exact upd _ (by omega)
                        · exact upd _ (by omega)
                      · rw [if_neg c6, if_pos rfl]
                        exact next p hfp rfl (fun _ _ => rfl) (same (fun z => c6 z.1))
                  · refine ⟨0, by omega, rfl, rfl, rfl, hfv, g35, g34, fun i h1 h2 => g34' i (by omega) h2, ?_⟩
                    show PVx wt r F m3 0 (v 34 m3)
                    rw [g34' m3 (Nat.le_refl _) hm3']
                    exact ⟨Int.le_refl _, fun c9 h1 => absurd h1 (by omega), Or.inl rfl⟩
                  · rw [FU_eq]
                    show (300 - (0 : Int)).toNat < 20000
                    omega
              · refine ⟨0, by omega, rfl, rfl, hfu, fun i hi => h35 i (by omega), fun i hi => absurd hi (by omega), fun i h1 h2 => by show u 34 i = F i; rw [h34]⟩
              · rw [FU_eq]
                show (((2 ^ dW d : Nat) : Int) - 0).toNat < 20000
                omega
            · rw [gd_pos (by omega), gd_pos (by omega), lt_eq, lt_eq, Int.toNat_natCast, iadd_ok (by omega)]
              refine ih3 _ ⟨m2 + 1, by omega, rfl, by simp, fr_set hfu (by omega), (hset_obj u 35 m2 (u 34 m2) (show (34 : Nat) ≠ 35 by decide)).trans h34, fun i hi => ?_⟩ (by dsimp only; omega)
              show hset u 35 m2 (u 34 m2) 35 i = F i
              rw [hset_get, h34]
              by_cases e : i = m2
              · rw [if_pos ⟨rfl, e⟩, e]
              · rw [if_neg (fun z => e z.2)]; exact h35 i (by omega)
          · exact ⟨0, by omega, rfl, rfl, hfs, hF, fun i hi => absurd hi (by omega)⟩
          · rw [FU_eq]
            show (((2 ^ dW d : Nat) : Int) - 0).toNat < 20000
            omega
      · refine ⟨0, by omega, rfl, hf, TD_0 (fun i hi => hz i (by omega))⟩
      · rw [FU_eq]
        show (300 - (0 : Int)).toNat < 20000
        omega
    · rw [gd_pos (by omega), lt_eq, lt_eq, Int.toNat_natCast, iadd_ok (by omega)]
      refine ih _ ⟨m + 1, by omega, by simp, fr_set hf (by omega), fun i hi => ?_⟩ (by dsimp only; omega)
      show hset t 34 m 0 34 i = 0
      rw [hset_get]
      split
      · rfl
      · exact hz i (by omega)
  · exact ⟨0, by omega, rfl, fr_rfl, fun i hi => absurd hi (by omega)⟩
  · rw [FU_eq]
    show (((2 ^ dW d : Nat) : Int) - 0).toNat < 20000
    omega
