/-! the class's plan: halves, bounds, ends -/
section Fresh
variable {d : ND} {ow : Nat → Int} {n this : Nat}
def TwOk (s : Hp) (this : Nat) (d : ND) (ow : Nat → Int) : Prop := s this 9 = 0 → cert (dW d) (gpd d ow) (s this 8) ∧ 0 ≤ s this 8 ∧ s this 8 ≤ 1439976
def BdOk (s : Hp) (this : Nat) (d : ND) (ow : Nat → Int) : Prop := s this 10 = 0 → ∀ u v, u < 2 * dW d → v < 2 * dW d → s (this + 1 + 1 + 1 + u) v = D1 d ow u v
theorem C_twice {s : Hp} (hd : NDok d) (ho : owOk d ow) (hp : isPlan this) (hN : NetC s n d) (hP : PlanC s this n d ow) (hT : TwOk s this d ow) :
    wp (F_Plan_twiceWithHalves this s) (fun z t => (cert (dW d) (gpd d ow) z ∧ 0 ≤ z ∧ z ≤ 1439976) ∧ t this 9 = 0 ∧ t this 8 = z ∧ (∀ q, q ≠ this → q < 91 ∨ 111 < q → t q = s q) ∧ ∀ i, i ≠ 8 → i ≠ 9 → t this i = s this i) := by
  have hn := hN.1
  have hR := hd.2.1
  unfold F_Plan_twiceWithHalves F_Plan_twiceWithHalves_87
  rw [gd_pos hp]
  refine wp_if (fun c => ?_) (fun c => ?_)
  · exact wp_ret ⟨hT c, c, rfl, fun _ _ _ => rfl, fun _ _ _ => rfl⟩
  · rw [lt_eq, hP.1, Int.toNat_natCast, gd_pos hn, hN.2.1]
    refine wp_cl (C_begin hd.1 (gnd d ow)) (fun _ s1 h1 => ?_)
    unfold F_Plan_twiceWithHalves_23
    refine wp_loop (fun a : Int × Hp => ∃ r : Nat, r ≤ dR d ∧ a.1 = (r : Int) ∧ WtR a.2 d (gnd d ow) r ∧ wtF s a.2) (fun a => (300 - a.1).toNat) ?_ FU _ ?_ ?_
    · intro a k hp2 ih
      obtain ⟨x, t⟩ := a
      obtain ⟨r, hr, e0, hw, hf⟩ := hp2
      dsimp only at e0 hw hf ih ⊢
      subst e0
      have hNt : NetC t n d := hN.congr (fun i _ => by rw [hf n (by omega)]) (fun q a1 a2 => hf q (by omega))
      have ht : t this = s this := hf this (by omega)
      unfold F_Plan_twiceWithHalves_23_b
      rw [ht, hP.1, lt_eq, Int.toNat_natCast, gd_pos hn, hNt.2.2.1]
      refine wp_if (fun c2 => ?_) (fun c2 => ?_)
      · have er : r = dR d := by omega
        subst er
        refine wp_cl (C_great hd (fun r hr => gnd_rng hd ho hr) hw) (fun z u hu => ?_)
        rw [lt_eq, lt_eq]
        have hfu : ∀ q, q < 91 ∨ 111 < q → u q = s q := fun q hq => by rw [hu.2.2.2 q (by omega), hf q (by omega)]
        unfold F_Plan_twiceWithHalves_87
        have e8 : hset (hset u this 8 z) this 9 0 this 8 = z := by rw [hset_get, if_neg (fun q => absurd q.2 (by decide)), hset_same]
        rw [e8]
        refine wp_ret ⟨⟨hu.1, hu.2.1, hu.2.2.1⟩, hset_same _ _ _ _, e8, fun q a1 a2 => by rw [hset_obj _ _ _ _ a1, hset_obj _ _ _ _ a1]; exact hfu q a2, fun i a1 a2 => ?_⟩
        rw [hset_get, if_neg (fun q => a2 q.2), hset_get, if_neg (fun q => a1 q.2), hfu this (by omega)]
      · have hrR : r < dR d := by omega
        have g30 : (0 : Int) ≤ (r : Int) ∧ (r : Int) < 30 := by omega
        rw [lt_eq, gd_pos hn, gd_pos g30, lt_eq, gd_pos hn, gd_pos g30, gd_pos g30]
        simp only [Int.toNat_natCast, (hNt.2.2.2.2.2.2.1 r hrR).1, (hNt.2.2.2.2.2.2.1 r hrR).2.1]
        rw [hf (this + 28) (by omega), hP.2.1 r hrR]
        refine wp_cl (C_weigh hd hrR hw) (fun _ u hu => ?_)
        rw [lt_eq, iadd_ok (by omega)]
        exact ih _ ⟨r + 1, by omega, by simp, hu.1, fun q hq => (hu.2 q hq).trans (hf q hq)⟩ (by dsimp only; omega)
    · exact ⟨0, by omega, rfl, h1.1, h1.2⟩
    · rw [FU_eq]
      show (300 - (0 : Int)).toNat < 20000
      omega
theorem PlanC.congr {s t : Hp} (h : PlanC s this n d ow) (h1 : ∀ q, q ≠ this → this + 27 ≤ q → q ≤ this + 29 → t q = s q) (h2 : t this 6 = s this 6) (h3 : t this 7 = s this 7) : PlanC t this n d ow := by
  obtain ⟨p1, p2, p3, p4, p5⟩ := h
  exact ⟨by rw [h3]; exact p1, fun r hr => by rw [h1 _ (by omega) (by omega) (by omega)]; exact p2 r hr, fun m hm => by rw [h1 _ (by omega) (by omega) (by omega)]; exact p3 m hm, by rw [h2]; exact p4, fun k hk => by rw [h1 _ (by omega) (by omega) (by omega)]; exact p5 k hk⟩
theorem C_hasEnds {s : Hp} (hd : NDok d) (ho : owOk d ow) (hp : isPlan this) (hN : NetC s n d) (hP : PlanC s this n d ow) (hT : TwOk s this d ow) :
    wp (F_Plan_hasEnds this s) (fun z t => ∃ v, (cert (dW d) (gpd d ow) v ∧ 0 ≤ v ∧ v ≤ 1439976) ∧ z = (if 2 * bR d ow 0 (2 ^ dW d - 1) = v then 1 else 0) ∧ t this 9 = 0 ∧ t this 8 = v ∧ (∀ q, q ≠ this → q < 91 ∨ 111 < q → t q = s q) ∧ ∀ i, i ≠ 8 → i ≠ 9 → t this i = s this i) := by
  have hn := hN.1
  have hpw := pow_le12 hd.1
  unfold F_Plan_hasEnds F_Plan_hasEnds_26
  rw [gd_pos hp, lt_eq, hP.1, Int.toNat_natCast, gd_pos hn, C_everybody hd hN, cl2_some, gd_pos (by omega), Int.toNat_natCast, hP.2.2.1 _ (by omega)]
  refine wp_cl (C_twice hd ho hp hN hP hT) (fun v t ht => ?_)
  have hb := bR_rng hd ho 0 (m := 2 ^ dW d - 1) (by omega)
  rw [imul_ok (by omega)]
  refine wp_if (fun c => ?_) (fun c => ?_)
  · rw [gd_pos (Or.inr rfl)]
    exact wp_ret ⟨v, ht.1, by rw [if_pos c], ht.2⟩
  · rw [gd_pos (Or.inl rfl)]
    exact wp_ret ⟨v, ht.1, by rw [if_neg c], ht.2⟩
/-! the row as a list -/
def subs (d : ND) (m : Nat) (L : List Nat) : Nat := L.foldl (fun m r => m - prM d r) m
theorem subs_app (d : ND) (m : Nat) (L : List Nat) (r : Nat) : subs d m (L ++ [r]) = subs d m L - prM d r := by
  unfold subs
  rw [List.foldl_append]
  rfl
theorem row_list (hd : NDok d) : ∀ r, r ≤ dR d → (rwS d ow r).1 = subs d (2 ^ dW d - 1) (rwS d ow r).2 ∧ (∀ q, q ∈ (rwS d ow r).2 ↔ q < r ∧ tkn d ow q) ∧
    ∀ k, k < (rwS d ow r).2.length → hasP d (subs d (2 ^ dW d - 1) ((rwS d ow r).2.take k)) ((rwS d ow r).2[k]?.getD 0) ∧ (rwS d ow r).2[k]?.getD 0 < dR d ∧ subs d (2 ^ dW d - 1) ((rwS d ow r).2.take k) < 2 ^ dW d
  | 0, _ => ⟨rfl, fun q => ⟨fun h => (by cases h), fun h => absurd h.1 (by omega)⟩, fun k hk => absurd hk (by show ¬ k < 0; omega)⟩
  | r + 1, hr => by
    have ih := row_list hd r (by omega)
    by_cases ht : tkn d ow r
    · rw [rwS_t ht]
      show (rwS d ow r).1 - prM d r = subs d _ ((rwS d ow r).2 ++ [r]) ∧ (∀ q, q ∈ (rwS d ow r).2 ++ [r] ↔ _) ∧ ∀ k, k < ((rwS d ow r).2 ++ [r]).length → hasP d (subs d (2 ^ dW d - 1) (((rwS d ow r).2 ++ [r]).take k)) (((rwS d ow r).2 ++ [r])[k]?.getD 0) ∧ ((rwS d ow r).2 ++ [r])[k]?.getD 0 < dR d ∧ subs d (2 ^ dW d - 1) (((rwS d ow r).2 ++ [r]).take k) < 2 ^ dW d
      refine ⟨by rw [subs_app, ← ih.1], fun q => ?_, fun k hk => ?_⟩
      · rw [List.mem_append, ih.2.1 q, List.mem_singleton]
        constructor
        · rintro (h | h)
          · exact ⟨by omega, h.2⟩
          · subst h; exact ⟨by omega, ht⟩
        · rintro ⟨h1, h2⟩
          by_cases e : q = r
          · exact Or.inr e
          · exact Or.inl ⟨by omega, h2⟩
      · rw [List.length_append] at hk
        have hk : k < (rwS d ow r).2.length + 1 := hk
        by_cases e : k = (rwS d ow r).2.length
        · subst e
          rw [List.take_left', List.getElem?_append_right (Nat.le_refl _), Nat.sub_self, ← ih.1]
          · exact ⟨hasP_and.mp ht.1, by show r < dR d; omega, (rwS_ok (ow := ow) hd r (by omega)).1⟩
          · rfl
        · rw [List.take_append_of_le_length (by omega), List.getElem?_append_left (by omega)]
          exact ih.2.2 k (by omega)
    · rw [rwS_n ht]
      refine ⟨ih.1, fun q => ?_, ih.2.2⟩
      rw [ih.2.1 q]
      constructor
      · rintro ⟨h1, h2⟩
        exact ⟨by omega, h2⟩
      · rintro ⟨h1, h2⟩
        by_cases e : q = r
        · subst e; exact absurd h2 ht
        · exact ⟨by omega, h2⟩
def inP (d : ND) (L : List Nat) (a c : Nat) : Bool := L.any (fun r => (fs d r == a && sn d r == c) || (fs d r == c && sn d r == a))
theorem inP_iff {L : List Nat} {a c : Nat} : inP d L a c = true ↔ ∃ r, r ∈ L ∧ isPr d r a c := by
  unfold inP isPr
  rw [List.any_eq_true]
  constructor
  · rintro ⟨r, h1, h2⟩
    refine ⟨r, h1, ?_⟩
    simpa using h2
  · rintro ⟨r, h1, h2⟩
    refine ⟨r, h1, ?_⟩
    simpa using h2
theorem inP_tk2 (hd : NDok d) {a c : Nat} : inP d (rwS d ow (dR d)).2 a c = true ↔ tk2 d ow a c := by
  rw [inP_iff, tk2_iff hd]
  constructor
  · rintro ⟨r, h1, h2⟩
    have := ((row_list (ow := ow) hd (dR d) (Nat.le_refl _)).2.1 r).mp h1
    exact ⟨r, this.1, this.2, h2⟩
  · rintro ⟨r, h1, h2, h3⟩
    exact ⟨r, ((row_list (ow := ow) hd (dR d) (Nat.le_refl _)).2.1 r).mpr ⟨h1, h2⟩, h3⟩
theorem BM.wC {s : Hp} {q : Nat} {α β : Nat → Nat → Int} {γ : Nat → Int} (h : BM s q (dW d) α β γ) (h1 : ∀ a c, a < dW d → c < dW d → a ≠ c → α a c = if 0 < gpd d ow a c then -gpd d ow a c else I1)
    (h2 : ∀ a c, a < dW d → c < dW d → a ≠ c → β a c = if ptn d ow (dR d) a = rdO d a c (dR d) ∧ rdO d a c (dR d) ≠ -1 then gpd d ow a c else I1) (h3 : ∀ a, a < dW d → γ a = if ptn d ow (dR d) a = -1 then 0 else I1) {u v : Nat} (hu : u < 2 * dW d) (hv : v < 2 * dW d) : s (q + 1 + 1 + u) v = wC d ow u v := by
  obtain ⟨a, ea⟩ := node u
  obtain ⟨c, ec⟩ := node v
  have ha : a < dW d := by omega
  have hc : c < dW d := by omega
  obtain ⟨p1, p2, p3, p4⟩ := h.2 a c ha hc
  rcases ea with rfl | rfl <;> rcases ec with rfl | rfl
  · rw [p1, wC_ee]
  · rw [p4, wC_eo]
    by_cases e : a = c
    · rw [if_pos e, if_pos e, h3 a ha]
    · rw [if_neg e, if_neg e, h2 a c ha hc e]
  · rw [p3, wC_oe]
    by_cases e : a = c
    · rw [if_pos e, if_pos e]
    · rw [if_neg e, if_neg e, h1 a c ha hc e]
  · rw [p2, wC_oo]
theorem BM.cg {s t : Hp} {q W : Nat} {α β α' β' : Nat → Nat → Int} {γ γ' : Nat → Int} (h : BM s q W α β γ) (ht : ∀ x, q ≤ x → x ≤ q + 25 → t x = s x) (hW : W ≤ 12) (h1 : ∀ a c, a < W → c < W → a ≠ c → α' a c = α a c) (h2 : ∀ a c, a < W → c < W → a ≠ c → β' a c = β a c) (h3 : ∀ a, a < W → γ' a = γ a) : BM t q W α' β' γ' := by
  refine ⟨by rw [ht q (by omega) (by omega)]; exact h.1, fun a c ha hc => ?_⟩
  obtain ⟨p1, p2, p3, p4⟩ := h.2 a c ha hc
  rw [ht _ (by omega) (by omega), ht _ (by omega) (by omega)]
  refine ⟨p1, p2, ?_, ?_⟩
  · rw [p3]
    by_cases e : a = c
    · rw [if_pos e, if_pos e]
    · rw [if_neg e, if_neg e, h1 a c ha hc e]
  · rw [p4]
    by_cases e : a = c
    · rw [if_pos e, if_pos e, h3 a ha]
    · rw [if_neg e, if_neg e, h2 a c ha hc e]
theorem isPlan_B (h : isPlan this) : isBounds (this + 1) := by rcases h with rfl | rfl <;> decide
theorem C_fresh {s : Hp} (hd : NDok d) (ho : owOk d ow) (hp : isPlan this) (hN : NetC s n d) (hP : PlanC s this n d ow) (hB : BdOk s this d ow) {X : Nat → Int} (hX : feasX d ow X) {v0 : Int} (hv0 : ∀ w, w < dW d → X w ≤ 2 * al d w + v0) (hv9 : v0 ≤ 10000000) :
    wp (F_Plan_freshBounds this s) (fun _ t => (∀ u v, u < 2 * dW d → v < 2 * dW d → t (this + 1 + 1 + 1 + u) v = D1 d ow u v) ∧ t this 10 = 0 ∧ (∀ x, x < this ∨ this + 26 < x → t x = s x) ∧ ∀ i, i ≠ 10 → t this i = s this i) := by
  have hn := hN.1
  have hR := hd.2.1
  have hW := hd.1
  have hpw := pow_le12 hd.1
  have hq := isPlan_B hp
  have rl := row_list (ow := ow) hd (dR d) (Nat.le_refl _)
  have rlen := rwS_len (ow := ow) hd (dR d) (Nat.le_refl _)
  unfold F_Plan_freshBounds
  rw [gd_pos hp]
  refine wp_if (fun c => ?_) (fun c => ?_)
  · exact wp_ret ⟨hB c, c, fun _ _ => rfl, fun _ _ => rfl⟩
  · -- what every state on the way keeps
    have kp : ∀ t : Hp, bdF (this + 1) s t → NetC t n d ∧ PlanC t this n d ow ∧ t this = s this := fun t ht =>
      ⟨hN.congr (fun i _ => by rw [ht n (by omega)]) (fun x a1 a2 => ht x (by omega)), hP.congr (fun x a1 a2 a3 => ht x (by omega)) (by rw [ht this (by omega)]) (by rw [ht this (by omega)]), ht this (by omega)⟩
    rw [lt_eq, hP.1, Int.toNat_natCast, gd_pos hn, hN.2.1]
    refine wp_cl (C_bbegin hq hW) (fun _ s1 h1 => ?_)
    obtain ⟨hN1, hP1, e1⟩ := kp s1 h1.2
    rw [lt_eq, hP1.1, Int.toNat_natCast, gd_pos hn, C_everybody hd hN1, cl2_some]
    -- persons, then the close
    have persons : ∀ t : Hp, bdF (this + 1) s t → BM t (this + 1) (dW d) (fun a c => if 0 < gpd d ow a c then -gpd d ow a c else I1) (fun a c => if inP d (rwS d ow (dR d)).2 a c = true then gpd d ow a c else I1) (fun _ => I1) →
        wp (F_Plan_freshBounds_169 this FU ((((rwS d ow (dR d)).1 : Nat) : Int), 0, t)) (fun _ t => (∀ u v, u < 2 * dW d → v < 2 * dW d → t (this + 1 + 1 + 1 + u) v = D1 d ow u v) ∧ t this 10 = 0 ∧ (∀ x, x < this ∨ this + 26 < x → t x = s x) ∧ ∀ i, i ≠ 10 → t this i = s this i) := by
      intro t ht hBM
      have lok := (rwS_ok (ow := ow) hd (dR d) (Nat.le_refl _)).1
      unfold F_Plan_freshBounds_169
      refine wp_loop (fun a : Int × Int × Hp => ∃ w : Nat, w ≤ dW d ∧ a.1 = (((rwS d ow (dR d)).1 : Nat) : Int) ∧ a.2.1 = (w : Int) ∧ bdF (this + 1) s a.2.2 ∧ BM a.2.2 (this + 1) (dW d) (fun a c => if 0 < gpd d ow a c then -gpd d ow a c else I1) (fun a c => if inP d (rwS d ow (dR d)).2 a c = true then gpd d ow a c else I1) (fun a => if a < w ∧ bt (rwS d ow (dR d)).1 a = true then 0 else I1)) (fun a => (300 - a.2.1).toNat) ?_ FU _ ?_ ?_
      · intro a k hp2 ih
        obtain ⟨x1, x2, u⟩ := a
        obtain ⟨w, hw, g1, g2, g3, g4⟩ := hp2
        dsimp only at g1 g2 g3 g4 ih ⊢
        subst g1 g2
        obtain ⟨hNu, hPu, eu⟩ := kp u g3
        unfold F_Plan_freshBounds_169_b F_Plan_freshBounds_196
        rw [lt_eq, hPu.1, Int.toNat_natCast, gd_pos hn, hNu.2.1]
        refine wp_if (fun c2 => ?_) (fun c2 => ?_)
        · have ew : w = dW d := by omega
          subst ew
          refine wp_cl (C_close (w := wC d ow) hq (n := 2 * dW d) (by omega) g4.1 (fun a b ha hb => BM.wC g4 (fun _ _ _ _ _ => rfl) (fun a c ha hc hne => ?_) (fun a ha => ?_) ha hb) (fun k9 hk9 => ?_)) (fun _ p hp9 => ?_)
          · by_cases e : tk2 d ow a c
            · have e' : ptn d ow (dR d) a = rdO d a c (dR d) ∧ rdO d a c (dR d) ≠ -1 := e
              rw [if_pos ((inP_tk2 hd).mpr e), if_pos e']
            · have e' : ¬ (ptn d ow (dR d) a = rdO d a c (dR d) ∧ rdO d a c (dR d) ≠ -1) := e
              rw [if_neg (fun z => e ((inP_tk2 hd).mp z)), if_neg e']
          · have hl := ptn_left (ow := ow) hd (dR d) (Nat.le_refl _) a ha
            by_cases e : ptn d ow (dR d) a = -1
            · rw [if_pos ⟨ha, hl.mp e⟩, if_pos e]
            · rw [if_neg (fun z => e (hl.mpr z.2)), if_neg e]
          · have f1 := feas1 hd ho hX hv0 hv9 k9 hk9
            refine ⟨f1.1, fun a b ha hb h9 => ?_⟩
            have := f1.2 a b ha hb h9
            omega
          · rw [lt_eq]
            refine wp_ret ⟨fun u9 v9 hu9 hv9 => ?_, hset_same _ _ _ _, fun x hx => ?_, fun i hi => ?_⟩
            · rw [hset_obj _ _ _ _ (by omega)]
              exact hp9.1 u9 v9 hu9 hv9
            · rw [hset_obj _ _ _ _ (by omega), hp9.2 x (by omega)]
              exact g3 x (by omega)
            · rw [hset_get, if_neg (fun z => hi z.2), hp9.2 this (by omega), eu]
        · have hwW : w < dW d := by omega
          rw [bit_at (by omega) (by omega), Int.toNat_natCast, Int.toNat_natCast]
          by_cases c3 : (rwS d ow (dR d)).1.testBit w = true
          · rw [if_pos c3, if_neg (by decide)]
            refine wp_cl (C_nothing hq hW g4 hwW) (fun _ p hp9 => ?_)
            rw [lt_eq, iadd_ok (by omega)]
            refine ih _ ⟨w + 1, by omega, rfl, by simp, bdF_trans g3 (fun x hx => hp9.2 x (by omega)), hp9.1.cg (fun _ _ _ => rfl) hW (fun _ _ _ _ _ => rfl) (fun _ _ _ _ _ => rfl) (fun a ha => ?_)⟩ (by dsimp only; omega)
            show (if a < w + 1 ∧ bt (rwS d ow (dR d)).1 a = true then 0 else I1) = if a = w then 0 else if a < w ∧ bt (rwS d ow (dR d)).1 a = true then 0 else I1
            by_cases e : a = w
            · subst e
              rw [if_pos rfl, if_pos ⟨by omega, c3⟩]
            · rw [if_neg e]
              by_cases e2 : a < w ∧ bt (rwS d ow (dR d)).1 a = true
              · rw [if_pos e2, if_pos ⟨by omega, e2.2⟩]
              · rw [if_neg e2, if_neg (fun z => e2 ⟨by omega, z.2⟩)]
          · rw [if_neg c3, if_pos rfl, lt_eq, iadd_ok (by omega)]
            refine ih _ ⟨w + 1, by omega, rfl, by simp, g3, g4.cg (fun _ _ _ => rfl) hW (fun _ _ _ _ _ => rfl) (fun _ _ _ _ _ => rfl) (fun a ha => ?_)⟩ (by dsimp only; omega)
            show (if a < w + 1 ∧ bt (rwS d ow (dR d)).1 a = true then 0 else I1) = if a < w ∧ bt (rwS d ow (dR d)).1 a = true then 0 else I1
            by_cases e2 : a < w ∧ bt (rwS d ow (dR d)).1 a = true
            · rw [if_pos e2, if_pos ⟨by omega, e2.2⟩]
            · rw [if_neg e2, if_neg (fun z => e2 ⟨by
                have : a ≠ w := fun e => c3 (e ▸ z.2)
                omega, z.2⟩)]
      · refine ⟨0, by omega, rfl, rfl, ht, hBM.cg (fun _ _ _ => rfl) hW (fun _ _ _ _ _ => rfl) (fun _ _ _ _ _ => rfl) (fun a ha => ?_)⟩
        show (if a < 0 ∧ _ then 0 else I1) = I1
        rw [if_neg (by omega)]
      · rw [FU_eq]
        show (300 - (0 : Int)).toNat < 20000
        omega
    -- the row
    have row : ∀ t : Hp, bdF (this + 1) s t → BM t (this + 1) (dW d) (fun a c => if 0 < gpd d ow a c then -gpd d ow a c else I1) (fun _ _ => I1) (fun _ => I1) →
        wp (F_Plan_freshBounds_91 this FU (((2 ^ dW d - 1 : Nat) : Int), 0, t)) (fun _ t => (∀ u v, u < 2 * dW d → v < 2 * dW d → t (this + 1 + 1 + 1 + u) v = D1 d ow u v) ∧ t this 10 = 0 ∧ (∀ x, x < this ∨ this + 26 < x → t x = s x) ∧ ∀ i, i ≠ 10 → t this i = s this i) := by
      intro t ht hBM
      unfold F_Plan_freshBounds_91
      refine wp_loop (fun a : Int × Int × Hp => ∃ j : Nat, j ≤ (rwS d ow (dR d)).2.length ∧ a.1 = ((subs d (2 ^ dW d - 1) ((rwS d ow (dR d)).2.take j) : Nat) : Int) ∧ a.2.1 = (j : Int) ∧ bdF (this + 1) s a.2.2 ∧ BM a.2.2 (this + 1) (dW d) (fun a c => if 0 < gpd d ow a c then -gpd d ow a c else I1) (fun a c => if inP d ((rwS d ow (dR d)).2.take j) a c = true then gpd d ow a c else I1) (fun _ => I1)) (fun a => (300 - a.2.1).toNat) ?_ FU _ ?_ ?_
      · intro a k hp2 ih
        obtain ⟨x1, x2, u⟩ := a
        obtain ⟨j, hj, g1, g2, g3, g4⟩ := hp2
        dsimp only at g1 g2 g3 g4 ih ⊢
        subst g1 g2
        obtain ⟨hNu, hPu, eu⟩ := kp u g3
        unfold F_Plan_freshBounds_91_b
        rw [hPu.2.2.2.1]
        refine wp_if (fun c2 => ?_) (fun c2 => ?_)
        · have ej : j = (rwS d ow (dR d)).2.length := by omega
          subst ej
          rw [List.take_length] at g4 ⊢
          rw [← rl.1]
          exact persons u g3 g4
        · have hjl : j < (rwS d ow (dR d)).2.length := by omega
          have rj := rl.2.2 j hjl
          have hrj := hPu.2.2.2.2 j hjl
          generalize hr9 : (rwS d ow (dR d)).2[j]?.getD 0 = r at rj hrj
          have tkj : tkn d ow r := by
            have : r ∈ (rwS d ow (dR d)).2 := by
              rw [← hr9, List.getElem?_eq_getElem hjl]
              exact List.getElem_mem hjl
            exact ((rl.2.1 r).mp this).2
          have hpr := hd.2.2.1 r rj.2.1
          have g6 : (0 : Int) ≤ (j : Int) ∧ (j : Int) < 6 := by omega
          have g30 : (0 : Int) ≤ (r : Int) ∧ (r : Int) < 30 := by omega
          rw [lt_eq, hPu.1, Int.toNat_natCast, gd_pos hn, gd_pos g6]
          simp only [lt_eq, Int.toNat_natCast, hrj, (hNu.2.2.2.2.2.2.1 r rj.2.1).1, (hNu.2.2.2.2.2.2.1 r rj.2.1).2.1, hPu.2.1 r rj.2.1]
          rw [gd_pos g30, gd_pos hn, gd_pos g6, gd_pos g30, gd_pos g6, gd_pos g30]
          refine wp_cl (C_atMost hq hW g4 hpr.1 hpr.2.1 hpr.2.2.1) (fun _ p hp9 => ?_)
          have g3p : bdF (this + 1) s p := bdF_trans g3 (fun x hx => hp9.2 x (by omega))
          obtain ⟨hNp, hPp, ep⟩ := kp p g3p
          have hrjp := hPp.2.2.2.2 j hjl
          rw [hr9] at hrjp
          rw [hPp.1, Int.toNat_natCast, gd_pos hn, gd_pos g6, hrjp, C_pairOf hd hNp rj.2.1, cl2_some]
          have hs := sub_pr hd rj.2.1 rj.1
          have hpM : prM d r ≤ 4096 := by omega
          rw [isub_ok (by omega), iadd_ok (by omega)]
          have etake : (rwS d ow (dR d)).2.take (j + 1) = (rwS d ow (dR d)).2.take j ++ [r] := by
            rw [List.take_succ, List.getElem?_eq_getElem hjl]
            rw [List.getElem?_eq_getElem hjl] at hr9
            have hr9 : (rwS d ow (dR d)).2[j] = r := hr9
            rw [hr9]
            rfl
          refine ih _ ⟨j + 1, by omega, ?_, by simp, g3p, hp9.1.cg (fun _ _ _ => rfl) hW (fun _ _ _ _ _ => rfl) (fun a c ha hc hne => ?_) (fun _ _ => rfl)⟩ (by dsimp only; omega)
          · show ((subs d (2 ^ dW d - 1) ((rwS d ow (dR d)).2.take j) : Nat) : Int) - (prM d r : Int) = ((subs d (2 ^ dW d - 1) ((rwS d ow (dR d)).2.take (j + 1)) : Nat) : Int)
            rw [etake, subs_app]
            omega
          · show (if inP d ((rwS d ow (dR d)).2.take (j + 1)) a c = true then gpd d ow a c else I1) = if (a = fs d r ∧ c = sn d r) ∨ (a = sn d r ∧ c = fs d r) then gnd d ow r else if inP d ((rwS d ow (dR d)).2.take j) a c = true then gpd d ow a c else I1
            by_cases e : (a = fs d r ∧ c = sn d r) ∨ (a = sn d r ∧ c = fs d r)
            · have ip : isPr d r a c := e.elim (fun z => Or.inl ⟨z.1.symm, z.2.symm⟩) (fun z => Or.inr ⟨z.2.symm, z.1.symm⟩)
              rw [if_pos e, if_pos (inP_iff.mpr ⟨r, by rw [etake]; simp, ip⟩), gpd_of hd ow rj.2.1 ip]
            · rw [if_neg e]
              have hh : inP d ((rwS d ow (dR d)).2.take (j + 1)) a c = true ↔ inP d ((rwS d ow (dR d)).2.take j) a c = true := by
                rw [inP_iff, inP_iff, etake]
                constructor
                · rintro ⟨r', h1', h2'⟩
                  rw [List.mem_append, List.mem_singleton] at h1'
                  rcases h1' with h1' | h1'
                  · exact ⟨r', h1', h2'⟩
                  · subst h1'
                    exact absurd (h2'.elim (fun z => Or.inl ⟨z.1.symm, z.2.symm⟩) (fun z => Or.inr ⟨z.2.symm, z.1.symm⟩)) e
                · rintro ⟨r', h1', h2'⟩
                  exact ⟨r', List.mem_append.mpr (Or.inl h1'), h2'⟩
              by_cases e2 : inP d ((rwS d ow (dR d)).2.take j) a c = true
              · rw [if_pos e2, if_pos (hh.mpr e2)]
              · rw [if_neg e2, if_neg (fun z => e2 (hh.mp z))]
      · refine ⟨0, by omega, rfl, rfl, ht, hBM.cg (fun _ _ _ => rfl) hW (fun _ _ _ _ _ => rfl) (fun a c _ _ _ => ?_) (fun _ _ => rfl)⟩
        show (if inP d ((rwS d ow (dR d)).2.take 0) a c = true then gpd d ow a c else I1) = I1
        rw [List.take_zero, if_neg (by unfold inP; simp)]
      · rw [FU_eq]
        show (300 - (0 : Int)).toNat < 20000
        omega
    unfold F_Plan_freshBounds_32
    refine wp_loop (fun a : Int × Int × Hp => ∃ r : Nat, r ≤ dR d ∧ a.1 = ((2 ^ dW d - 1 : Nat) : Int) ∧ a.2.1 = (r : Int) ∧ bdF (this + 1) s a.2.2 ∧ BM a.2.2 (this + 1) (dW d) (fun a c => if 0 < gX d (gnd d ow) r a c then -gX d (gnd d ow) r a c else I1) (fun _ _ => I1) (fun _ => I1)) (fun a => (300 - a.2.1).toNat) ?_ FU _ ?_ ?_
    · intro a k hp2 ih
      obtain ⟨x1, x2, u⟩ := a
      obtain ⟨r, hr, g1, g2, g3, g4⟩ := hp2
      dsimp only at g1 g2 g3 g4 ih ⊢
      subst g1 g2
      obtain ⟨hNu, hPu, eu⟩ := kp u g3
      unfold F_Plan_freshBounds_32_b F_Plan_freshBounds_83
      rw [lt_eq, hPu.1, Int.toNat_natCast, gd_pos hn, hNu.2.2.1]
      refine wp_if (fun c2 => ?_) (fun c2 => ?_)
      · have er : r = dR d := by omega
        subst er
        exact row u g3 g4
      · have hrR : r < dR d := by omega
        have hpr := hd.2.2.1 r hrR
        have g30 : (0 : Int) ≤ (r : Int) ∧ (r : Int) < 30 := by omega
        have gr := gnd_rng hd ho hrR
        rw [gd_pos g30, Int.toNat_natCast, hPu.2.1 r hrR]
        refine wp_if (fun c3 => ?_) (fun c3 => ?_)
        · rw [lt_eq, iadd_ok (by omega)]
          refine ih _ ⟨r + 1, by omega, rfl, by simp, g3, g4.cg (fun _ _ _ => rfl) hW (fun a c ha hc hne => ?_) (fun _ _ _ _ _ => rfl) (fun _ _ => rfl)⟩ (by dsimp only; omega)
          show (if 0 < gX d (gnd d ow) (r + 1) a c then -gX d (gnd d ow) (r + 1) a c else I1) = if 0 < gX d (gnd d ow) r a c then -gX d (gnd d ow) r a c else I1
          rw [gX_succ]
          by_cases e : (fs d r = a ∧ sn d r = c) ∨ (fs d r = c ∧ sn d r = a)
          · have z0 : gX d (gnd d ow) r a c = 0 := by
              have h9 : rdO d a c r = -1 := by
                rcases e with ⟨q1, q2⟩ | ⟨q1, q2⟩
                · rw [← q1, ← q2]; exact hpr.2.2.2
                · rw [← q1, ← q2, rdO_sym]; exact hpr.2.2.2
              unfold gX
              rw [if_pos h9]
            rw [if_pos e, z0, if_neg (by omega), if_neg (by omega)]
          · rw [if_neg e]
        · rw [lt_eq, gd_pos hn, gd_pos g30, lt_eq, gd_pos hn, gd_pos g30, gd_pos g30, (hNu.2.2.2.2.2.2.1 r hrR).1, (hNu.2.2.2.2.2.2.1 r hrR).2.1]
          refine wp_cl (C_atLeast hq hW g4 hpr.1 hpr.2.1 hpr.2.2.1 (by omega)) (fun _ p hp9 => ?_)
          rw [lt_eq, iadd_ok (by omega)]
          refine ih _ ⟨r + 1, by omega, rfl, by simp, bdF_trans g3 (fun x hx => hp9.2 x (by omega)), hp9.1.cg (fun _ _ _ => rfl) hW (fun a c ha hc hne => ?_) (fun _ _ _ _ _ => rfl) (fun _ _ => rfl)⟩ (by dsimp only; omega)
          show (if 0 < gX d (gnd d ow) (r + 1) a c then -gX d (gnd d ow) (r + 1) a c else I1) = if (a = fs d r ∧ c = sn d r) ∨ (a = sn d r ∧ c = fs d r) then -gnd d ow r else if 0 < gX d (gnd d ow) r a c then -gX d (gnd d ow) r a c else I1
          rw [gX_succ]
          by_cases e : (fs d r = a ∧ sn d r = c) ∨ (fs d r = c ∧ sn d r = a)
          · rw [if_pos e, if_pos (by omega), if_pos (e.elim (fun z => Or.inl ⟨z.1.symm, z.2.symm⟩) (fun z => Or.inr ⟨z.2.symm, z.1.symm⟩))]
          · rw [if_neg e, if_neg (c := (a = fs d r ∧ c = sn d r) ∨ (a = sn d r ∧ c = fs d r)) (fun z => e (z.elim (fun z => Or.inl ⟨z.1.symm, z.2.symm⟩) (fun z => Or.inr ⟨z.2.symm, z.1.symm⟩)))]
    · refine ⟨0, by omega, rfl, rfl, h1.2, h1.1.cg (fun _ _ _ => rfl) hW (fun a c _ _ _ => ?_) (fun _ _ _ _ _ => rfl) (fun _ _ => rfl)⟩
      show (if 0 < gX d (gnd d ow) 0 a c then _ else I1) = I1
      rw [if_neg (show ¬ (0 : Int) < gX d (gnd d ow) 0 a c by unfold gX; rw [if_pos (show rdO d a c 0 = -1 from rfl)]; omega)]
    · rw [FU_eq]
      show (300 - (0 : Int)).toNat < 20000
      omega
end Fresh
