/-! haggle -/
section Haggle
variable {s t : Hp} {n b : Nat} {d : ND} {ow : Nat → Int} {D : DL}
def hgH (d : ND) (ow : Nat → Int) (D : DL) (i k : Nat) : Int := (itD d ow i D).2 (tlK d ow D k)
def hgL (d : ND) (ow : Nat → Int) (D : DL) (i j : Nat) : Prop := ∀ k, k < tlN d ow D → hgH d ow D i k = hgH d ow D j k
/-- how it ends: rounds gone, how, what is answered -/
def Hag (like : Nat → Nat → Prop) (N : Nat) (z oc : Int) (m : Nat) : Prop :=
  (1 ≤ m ∧ m ≤ N) ∧ (∀ i j, 1 ≤ i → i < m → j < i → ¬ like i j) ∧ ((like m (m - 1) ∧ z = m ∧ oc = 0) ∨ (¬ like m (m - 1) ∧ (∃ j, j < m ∧ like m j) ∧ z = m ∧ oc = 1) ∨ (m = N ∧ (∀ j, j < m → ¬ like m j) ∧ z = -2 - (N : Int) ∧ oc = 2))
theorem Hag.le {like : Nat → Nat → Prop} {N m m' : Nat} {z oc z' oc' : Int} (h : Hag like N z oc m) (h' : Hag like N z' oc' m') : ¬ m < m' := by
  intro x
  obtain ⟨a1, a2, a3⟩ := h
  obtain ⟨c1, c2, c3⟩ := h'
  rcases a3 with ⟨y, _⟩ | ⟨_, ⟨j, y1, y2⟩, _⟩ | ⟨y, _⟩
  · exact c2 m (m - 1) a1.1 x (by omega) y
  · exact c2 m j a1.1 x y1 y2
  · omega
theorem Hag.uniq {like : Nat → Nat → Prop} {N m m' : Nat} {z oc z' oc' : Int} (h : Hag like N z oc m) (h' : Hag like N z' oc' m') : z = z' ∧ oc = oc' ∧ m = m' := by
  have e : m = m' := by
    have := h.le h'
    have := h'.le h
    omega
  subst e
  obtain ⟨a1, a2, a3⟩ := h
  obtain ⟨c1, c2, c3⟩ := h'
  have hm : m - 1 < m := by omega
  rcases a3 with ⟨x, x1, x2⟩ | ⟨x, ⟨j, x3, x4⟩, x1, x2⟩ | ⟨x, x3, x1, x2⟩ <;> rcases c3 with ⟨y, y1, y2⟩ | ⟨y, ⟨i, y3, y4⟩, y1, y2⟩ | ⟨y, y3, y1, y2⟩
  · exact ⟨by omega, by omega, rfl⟩
  · exact absurd x y
  · exact absurd x (y3 _ hm)
  · exact absurd y x
  · exact ⟨by omega, by omega, rfl⟩
  · exact absurd x4 (y3 _ x3)
  · exact absurd y (x3 _ hm)
  · exact absurd y4 (x3 _ y3)
  · exact ⟨by omega, by omega, rfl⟩
def hgF (s u : Hp) : Prop := (∀ q, q ≠ 173 → q ≠ 175 → q ≠ 177 → q ≠ 179 → u q = s q) ∧ ∀ i, i ≠ 10 → u 173 i = s 173 i
def RdC (s u : Hp) (n : Nat) (d : ND) (ow : Nat → Int) (D : DL) (i : Nat) : Prop := SetC u n d ow (itD d ow i D) ∧ (∀ r, D.1 r = true → u 175 r = (itD d ow i D).2 r) ∧ hgF s u
def HiC (u : Hp) (d : ND) (ow : Nat → Int) (D : DL) (i : Nat) : Prop := ∀ j k, j < i → k < tlN d ow D → u 179 (6 * j + k) = hgH d ow D j k
theorem RdC.facts {u : Hp} {i : Nat} (h : RdC s u n d ow D i) : u 173 8 = (tlN d ow D : Nat) ∧ (∀ k, k < tlN d ow D → u 178 k = (tlK d ow D k : Nat)) ∧ ∀ k, k < tlN d ow D → u 175 (tlK d ow D k) = hgH d ow D i k := by
  have a := h.1.2.2.1
  have c := h.1.2.2.2
  rw [tlD_1 (itD_1 i)] at a c
  exact ⟨a, c, fun k hk => h.2.1 _ (tlK_at hk).2.1⟩
theorem RdC.net {u : Hp} {i : Nat} (h : RdC s u n d ow D i) (hN : NetC s n d) : NetC u n d := by
  have hn : n = 50 ∨ n = 4 := hN.1
  have hf := h.2.2.1
  exact hN.congr (fun i _ => by rw [hf n (by omega) (by omega) (by omega) (by omega)]) (fun q a c => hf q (by omega) (by omega) (by omega) (by omega))
theorem RdC.view {u : Hp} {i : Nat} (h : RdC s u n d ow D i) (hV : ViewC s n d ow) : ViewC u n d ow := by
  have hf := h.2.2.1
  refine ⟨by rw [hf 88 (by omega) (by omega) (by omega) (by omega)]; exact hV.1, fun r hr => ?_⟩
  rw [hf 89 (by omega) (by omega) (by omega) (by omega), hf 90 (by omega) (by omega) (by omega) (by omega)]
  exact hV.2 r hr
theorem RdC.frame {u v : Hp} {i : Nat} (h : RdC s u n d ow D i) (h1 : ∀ q, q ≠ 173 → q ≠ 179 → v q = u q) (h2 : ∀ i, i ≠ 10 → v 173 i = u 173 i) : RdC s v n d ow D i := by
  refine ⟨⟨by rw [h2 6 (by decide)]; exact h.1.1, fun w hw => by rw [h1 176 (by decide) (by decide), h1 177 (by decide) (by decide)]; exact h.1.2.1 w hw, by rw [h2 8 (by decide)]; exact h.1.2.2.1, fun k hk => by rw [h1 178 (by decide) (by decide)]; exact h.1.2.2.2 k hk⟩, fun r hr => by rw [h1 175 (by decide) (by decide)]; exact h.2.1 r hr, fun q a1 a2 a3 a4 => by rw [h1 q a1 a4]; exact h.2.2.1 q a1 a2 a3 a4, fun i hi => by rw [h2 i hi]; exact h.2.2.2 i hi⟩
def hgPost (s : Hp) (n : Nat) (d : ND) (ow : Nat → Int) (D : DL) (N : Nat) (v : Int) (u : Hp) : Prop := ∃ (m : Nat) (oc z : Int), Hag (hgL d ow D) N z oc m ∧ u 173 10 = oc ∧ RdC s u n d ow D m ∧ (0 ≤ v ∧ v ≤ 1000) ∧ ((oc = 2 ∧ z = -2 - v) ∨ (oc ≠ 2 ∧ z = v))
theorem C_turnRounds (hd : NDok d) (ho : owOk d ow) (hD : DLok d D) (hN : NetC s n d) (hV : ViewC s n d ow) (hS : SetC s n d ow D) (hT : ∀ r, D.1 r = true → s 175 r = D.2 r) {N : Nat} (hN1 : 1 ≤ N ∧ N ≤ 1000) :
    wp (F_Deals_turnRounds N s) (fun v u => hgPost s n d ow D N v u) := by
  have h0 : RdC s s n d ow D 0 := ⟨hS, hT, fun _ _ _ _ _ => rfl, fun _ _ => rfl⟩
  unfold F_Deals_turnRounds
  obtain ⟨f1, f2, f3⟩ := h0.facts
  refine wp_cl (C_keep (i := 0) hd hD (by omega) f1 f2 f3) (fun _ s1 hs1 => ?_)
  have h1 : RdC s s1 n d ow D 0 := h0.frame (fun q _ a => hs1.2.2 q a) (fun i _ => by rw [hs1.2.2 173 (by decide)])
  unfold F_Deals_turnRounds_7
  refine wp_loop (fun a : Int × Hp => ∃ i : Nat, 1 ≤ i ∧ i ≤ N + 1 ∧ a.1 = (i : Int) ∧ RdC s a.2 n d ow D (i - 1) ∧ HiC a.2 d ow D i ∧ (∀ i' j, 1 ≤ i' → i' < i → j < i' → ¬ hgL d ow D i' j) ∧ (i = 1 ∨ a.2 173 10 = 2)) (fun a => (1001 - a.1).toNat) ?_ FU _ ?_ ?_
  · intro a K hp ih
    obtain ⟨x, u⟩ := a
    obtain ⟨i, hi1, hi2, e1, hu, hh, hno, hoc⟩ := hp
    dsimp only at e1 hu hh hoc ih ⊢
    subst e1
    unfold F_Deals_turnRounds_7_b F_Deals_turnRounds_85
    refine wp_if (fun c => ?_) (fun c => ?_)
    · have ei : i = N + 1 := by omega
      have ej : i - 1 = N := by omega
      rw [ej] at hu
      refine wp_ret ⟨N, 2, -2 - (N : Int), ⟨⟨hN1.1, Nat.le_refl _⟩, fun i' j a1 a2 a3 => hno i' j a1 (by omega) a3, Or.inr (Or.inr ⟨rfl, fun j hj => hno N j hN1.1 (by omega) hj, rfl, rfl⟩)⟩, hoc.resolve_left (by omega), hu, by omega, Or.inl ⟨rfl, rfl⟩⟩
    · rw [if_neg (by omega)]
      obtain ⟨j, rfl⟩ : ∃ j, i = j + 1 := ⟨i - 1, by omega⟩
      have ej : j + 1 - 1 = j := by omega
      rw [ej] at hu
      have hDj := DLok_it (ow := ow) hD j
      refine wp_cl (C_turnRound hd ho hDj (hu.net hN) (hu.view hV) hu.1 (fun r hr => hu.2.1 r (by rw [itD_1] at hr; exact hr))) (fun _ v hv => ?_)
      rw [lt_eq]
      have hv1 : RdC s v n d ow D (j + 1) := ⟨hv.1, fun r hr => hv.2.1 r (by rw [itD_1]; exact hr), fun q a1 a2 a3 a4 => by rw [hv.2.2 q a2 a3]; exact hu.2.2.1 q a1 a2 a3 a4, fun i hi => by rw [hv.2.2 173 (by decide) (by decide)]; exact hu.2.2.2 i hi⟩
      have hv2 : RdC s (hset v 173 10 2) n d ow D (j + 1) := hv1.frame (fun q a _ => by rw [hset_obj _ _ _ _ a]) (fun i hi => by rw [hset_get, if_neg (by omega)])
      have hh2 : HiC (hset v 173 10 2) d ow D (j + 1) := fun p k hp hk => by rw [hset_obj _ _ _ _ (by decide), hv.2.2 179 (by decide) (by decide)]; exact hh p k hp hk
      have ei : isub ((j + 1 : Nat) : Int) 1 = (j : Int) := by rw [isub_ok (by omega)]; omega
      have ei2 : isub ((j + 1 : Nat) : Int) 2 = (j : Int) - 1 := by rw [isub_ok (by omega)]; omega
      obtain ⟨f1, f2, f3⟩ := hv2.facts
      rw [ei, ei2]
      clear ei ei2
      refine wp_cl (C_isAsBehind hd hD (by omega) f1 f2 f3 (g := hgH d ow D j) (fun k hk => hh2 j k (by omega) hk)) (fun z u2 hz => ?_)
      obtain ⟨hz, eu⟩ := hz
      subst eu
      rcases hz with ⟨z1, z2⟩ | ⟨z1, z2⟩
      · rw [z1, if_neg (by decide), lt_eq]
        refine wp_ret ⟨j + 1, 0, ((j + 1 : Nat) : Int), ⟨⟨by omega, by omega⟩, fun i' j a1 a2 a3 => hno i' j a1 a2 a3, Or.inl ⟨fun k hk => (z2 k hk).symm, rfl, rfl⟩⟩, by rw [hset_same], hv2.frame (fun q a _ => by rw [hset_obj _ _ _ _ a]) (fun i hi => by rw [hset_get, if_neg (by omega)]), by omega, Or.inr ⟨by decide, rfl⟩⟩
      · rw [z1, if_pos rfl, lt_eq]
        have nl : ¬ hgL d ow D (j + 1) j := fun y => by
          obtain ⟨k, k1, k2⟩ := z2
          exact k2 (y k k1).symm
        unfold F_Deals_turnRounds_49
        refine wp_loop (fun a : Int × Int × Hp => ∃ p : Nat, p ≤ j ∧ a.1 = ((j + 1 : Nat) : Int) ∧ a.2.1 = (p : Int) - 1 ∧ RdC s a.2.2 n d ow D (j + 1) ∧ HiC a.2.2 d ow D (j + 1) ∧ a.2.2 173 10 = 2 ∧ ∀ q, p ≤ q → q < j + 1 → ¬ hgL d ow D (j + 1) q) (fun a => (a.2.1 + 1).toNat) ?_ FU _ ?_ ?_
        · intro a K2 hp ih2
          obtain ⟨x, y, w⟩ := a
          obtain ⟨p, hp, e1, e2, hw, hhw, hw10, hnq⟩ := hp
          dsimp only at e1 e2 hw hhw hw10 ih2 ⊢
          subst e1 e2
          obtain ⟨f1, f2, f3⟩ := hw.facts
          unfold F_Deals_turnRounds_49_b
          refine wp_if (fun c => ?_) (fun c => ?_)
          · have ep : p = 0 := by omega
            refine wp_cl (C_keep (i := j + 1) hd hD (by omega) f1 f2 f3) (fun _ w2 hw2 => ?_)
            rw [lt_eq, iadd_ok (by omega)]
            refine ih _ ⟨j + 2, by omega, by omega, by dsimp only; omega, ?_, ?_, ?_, ?_⟩ (by dsimp only; omega)
            · exact hw.frame (fun q _ a => hw2.2.2 q a) (fun i _ => by dsimp only; rw [hw2.2.2 173 (by decide)])
            · intro p k hp2 hk
              dsimp only
              by_cases e : p = j + 1
              · rw [e]; exact hw2.1 k hk
              · have h6 := tlN_le (ow := ow) hd hD
                rw [hw2.2.1 _ (by omega)]
                exact hhw p k (by omega) hk
            · intro i' q a1 a2 a3
              by_cases e : i' = j + 1
              · rw [e]; exact hnq q (by omega) (by omega)
              · exact hno i' q a1 (by omega) a3
            · right
              dsimp only
              rw [hw2.2.2 173 (by decide)]; exact hw10
          · obtain ⟨p, rfl⟩ : ∃ q, p = q + 1 := ⟨p - 1, by omega⟩
            have ep : ((p + 1 : Nat) : Int) - 1 = (p : Int) := by omega
            rw [ep] at ih2 ⊢
            clear ep
            refine wp_cl (C_isAsBehind hd hD (by omega) f1 f2 f3 (g := hgH d ow D p) (fun k hk => hhw p k (by omega) hk)) (fun z u2 hz => ?_)
            obtain ⟨hz, eu⟩ := hz
            subst eu
            rcases hz with ⟨z1, z2⟩ | ⟨z1, z2⟩
            · rw [z1, if_neg (by decide), lt_eq]
              refine wp_ret ⟨j + 1, 1, ((j + 1 : Nat) : Int), ⟨⟨by omega, by omega⟩, fun i' j a1 a2 a3 => hno i' j a1 a2 a3, Or.inr (Or.inl ⟨nl, ⟨p, by omega, fun k hk => (z2 k hk).symm⟩, rfl, rfl⟩)⟩, by rw [hset_same], hw.frame (fun q a _ => by rw [hset_obj _ _ _ _ a]) (fun i hi => by rw [hset_get, if_neg (by omega)]), by omega, Or.inr ⟨by decide, rfl⟩⟩
            · rw [z1, if_pos rfl, lt_eq, iadd_ok (by omega)]
              refine ih2 _ ⟨p, by omega, rfl, by dsimp only; omega, hw, hhw, hw10, fun q q1 q2 => ?_⟩ (by dsimp only; omega)
              by_cases e : q = p
              · rw [e]
                obtain ⟨k, k1, k2⟩ := z2
                exact fun y => k2 (y k k1).symm
              · exact hnq q (by omega) q2
        · refine ⟨j, Nat.le_refl _, rfl, rfl, hv2, hh2, by dsimp only; rw [hset_same], fun q q1 q2 => ?_⟩
          have : q = j := by omega
          rw [this]
          exact nl
        · rw [FU_eq]
          show ((j : Int) - 1 + 1).toNat < 20000
          omega
  · refine ⟨1, by omega, by omega, rfl, h1, fun j k hj hk => ?_, fun i' j a1 a2 _ => by omega, Or.inl rfl⟩
    have : j = 0 := by omega
    rw [this]
    exact hs1.1 k hk
  · rw [FU_eq]
    show (1001 - (1 : Int)).toNat < 20000
    omega
/-! the check's -/
def mhF (t u : Hp) : Prop := (∀ q, q ≠ 0 → q ≠ 43 → q ≠ 44 → q ≠ 45 → q ≠ 46 → u q = t q) ∧ ∀ i, i ≠ 67 → u 0 i = t 0 i
def RdE (t u : Hp) (d : ND) (ow : Nat → Int) (D E : DL) : Prop := ShM u d ow E ∧ (∀ r, D.1 r = true → u 43 r = E.2 r) ∧ mhF t u
def HiM (u : Hp) (d : ND) (ow : Nat → Int) (D : DL) (i : Nat) : Prop := ∀ j k, j < i → k < 6 → u 46 (6 * j + k) = if k < tlN d ow D then hgH d ow D j k else 0
theorem RdE.net {u : Hp} {E : DL} (h : RdE t u d ow D E) (hN : NetM t b d) : NetM u b d := hN.congr (h.2.2.2 12 (by decide)) (fun q a1 a2 => h.2.2.1 q (by omega) (by omega) (by omega) (by omega) (by omega))
theorem RdE.view {u : Hp} {E : DL} (h : RdE t u d ow D E) (hV : ViewM1 t d ow) : ViewM1 u d ow := fun r hr => by
  rw [h.2.2.1 29 (by decide) (by decide) (by decide) (by decide) (by decide), h.2.2.1 30 (by decide) (by decide) (by decide) (by decide) (by decide)]
  exact hV r hr
theorem RdE.t42 {u : Hp} {E : DL} (h : RdE t u d ow D E) (hT : ∀ r, r < 30 → t 42 r = (if D.1 r = true then 1 else 0)) : ∀ r, r < 30 → u 42 r = (if D.1 r = true then 1 else 0) := fun r hr => by
  rw [h.2.2.1 42 (by decide) (by decide) (by decide) (by decide) (by decide)]
  exact hT r hr
theorem RdE.frame {u v : Hp} {E : DL} (h : RdE t u d ow D E) (h1 : ∀ q, q ≠ 0 → q ≠ 46 → v q = u q) (h2 : ∀ i, i ≠ 67 → v 0 i = u 0 i) : RdE t v d ow D E :=
  ⟨fun w hw => by rw [h1 44 (by decide) (by decide), h1 45 (by decide) (by decide)]; exact h.1 w hw, fun r hr => by rw [h1 43 (by decide) (by decide)]; exact h.2.1 r hr, fun q a1 a2 a3 a4 a5 => by rw [h1 q a1 a5]; exact h.2.2.1 q a1 a2 a3 a4 a5, fun i hi => by rw [h2 i hi]; exact h.2.2.2 i hi⟩
def hmPost (t : Hp) (d : ND) (ow : Nat → Int) (D : DL) (N : Nat) (z : Int) (u : Hp) : Prop := ∃ (m : Nat) (oc : Int), Hag (hgL d ow D) N z oc m ∧ u 0 67 = oc ∧ RdE t u d ow D (itD d ow m D)
theorem M_haggleF (hd : NDok d) (ho : owOk d ow) (hD : DLok d D) (hN : NetM t b d) (hV : ViewM1 t d ow) (hS : ShM t d ow D) (hT : ∀ r, r < 30 → t 42 r = (if D.1 r = true then 1 else 0)) (h43 : ∀ r, D.1 r = true → t 43 r = D.2 r) {N : Nat} (hN1 : 1 ≤ N ∧ N ≤ 1000) :
    wp (cl2 (F_M_keeps 0 t) fun _ s41 => F_M_haggle_24 N FU (1, s41)) (fun z u => hmPost t d ow D N z u) := by
  have hR := hd.2.1
  have hb := hN.1
  have h0 : RdE t t d ow D D := ⟨hS, h43, fun _ _ _ _ _ _ => rfl, fun _ _ => rfl⟩
  have h6 := tlN_le (ow := ow) hd hD
  refine wp_cl (M_keeps (i := 0) hd hD (E := D) rfl (by omega) hN hV hT h43) (fun _ t1 ht1 => ?_)
  have h1 : RdE t t1 d ow D D := h0.frame (fun q _ a => ht1.2.2 q a) (fun i _ => by rw [ht1.2.2 0 (by decide)])
  unfold F_M_haggle_24
  refine wp_loop (fun a : Int × Hp => ∃ j : Nat, j ≤ N ∧ a.1 = ((j + 1 : Nat) : Int) ∧ RdE t a.2 d ow D (itD d ow j D) ∧ HiM a.2 d ow D (j + 1) ∧ (∀ i' j', 1 ≤ i' → i' < j + 1 → j' < i' → ¬ hgL d ow D i' j')) (fun a => (1001 - a.1).toNat) ?_ FU _ ?_ ?_
  · intro a K hp ih
    obtain ⟨x, u⟩ := a
    obtain ⟨j, hj, e1, hu, hh, hno⟩ := hp
    dsimp only at e1 hu hh ih ⊢
    subst e1
    unfold F_M_haggle_24_b
    refine wp_if (fun c => ?_) (fun c => ?_)
    · have ej : j = N := by omega
      subst ej
      rw [lt_eq, isub_ok (by omega)]
      exact wp_ret ⟨j, 2, ⟨⟨hN1.1, Nat.le_refl _⟩, fun i' j' a1 a2 a3 => hno i' j' a1 (by omega) a3, Or.inr (Or.inr ⟨rfl, fun j' hj' => hno j j' hN1.1 (by omega) hj', rfl, rfl⟩)⟩, hset_same _ _ _ _, hu.frame (fun q a _ => by rw [hset_obj _ _ _ _ a]) (fun i hi => by rw [hset_get, if_neg (by omega)])⟩
    · have hDj := DLok_it (ow := ow) hD j
      unfold F_M_haggle_31
      refine wp_loop (fun a : Int × Int × Hp => ∃ r : Nat, r ≤ dR d ∧ a.1 = ((j + 1 : Nat) : Int) ∧ a.2.1 = (r : Int) ∧ RdE t a.2.2 d ow D (trR d ow r (itD d ow j D)) ∧ HiM a.2.2 d ow D (j + 1)) (fun a => (30 - a.2.1).toNat) ?_ FU _ ?_ ?_
      · intro a K2 hp ih2
        obtain ⟨x, y, v⟩ := a
        obtain ⟨r, hr, e1, e2, hv, hhv⟩ := hp
        dsimp only at e1 e2 hv hhv ih2 ⊢
        subst e1 e2
        have hNv := hv.net hN
        have hVv := hv.view hV
        have hTv := hv.t42 hT
        unfold F_M_haggle_31_b F_M_haggle_105 F_M_haggle_99
        rw [hNv.2.1, gd_pos (by omega), Int.toNat_natCast, hNv.2.2.2.1]
        refine wp_if (fun c => ?_) (fun c => ?_)
        · have er : r = dR d := by omega
          subst er
          clear ih2
          have hv : RdE t v d ow D (itD d ow (j + 1) D) := hv
          refine wp_cl (M_keeps (i := j + 1) (E := itD d ow (j + 1) D) hd hD (itD_1 _) (by omega) hNv hVv hTv hv.2.1) (fun _ w hw => ?_)
          have ei : isub ((j + 1 : Nat) : Int) 1 = (j : Int) := by rw [isub_ok (by omega)]; omega
          rw [lt_eq, ei]
          clear ei
          have hw1 : RdE t w d ow D (itD d ow (j + 1) D) := hv.frame (fun q _ a => hw.2.2 q a) (fun i _ => by rw [hw.2.2 0 (by decide)])
          have hhw : HiM w d ow D (j + 2) := fun p k hp hk => by
            by_cases e : p = j + 1
            · rw [e]; exact hw.1 k hk
            · rw [hw.2.1 _ (by omega)]
              exact hhv p k (by omega) hk
          unfold F_M_haggle_120
          refine wp_loop (fun a : Int × Int × Hp => ∃ p : Nat, p ≤ j + 1 ∧ a.1 = ((j + 1 : Nat) : Int) ∧ a.2.1 = (p : Int) - 1 ∧ a.2.2 = w ∧ ∀ q, p ≤ q → q < j + 1 → ¬ hgL d ow D (j + 1) q) (fun a => (a.2.1 + 1).toNat) ?_ FU _ ?_ ?_
          · intro a K3 hp ih3
            obtain ⟨x, y, w'⟩ := a
            obtain ⟨p, hp, e1, e2, e3, hnq⟩ := hp
            dsimp only at e1 e2 e3 ih3 ⊢
            subst e1 e2 e3
            unfold F_M_haggle_120_b F_M_haggle_149
            refine wp_if (fun c => ?_) (fun c => ?_)
            · rw [lt_eq, iadd_ok (by omega)]
              refine ih _ ⟨j + 1, by omega, by dsimp only; omega, hw1, hhw, fun i' q a1 a2 a3 => ?_⟩ (by dsimp only; omega)
              by_cases e : i' = j + 1
              · rw [e]; exact hnq q (by omega) (by omega)
              · exact hno i' q a1 (by omega) a3
            · obtain ⟨p, rfl⟩ : ∃ q, p = q + 1 := ⟨p - 1, by omega⟩
              have ep : ((p + 1 : Nat) : Int) - 1 = (p : Int) := by omega
              rw [ep] at ih3 ⊢
              clear ep
              refine wp_cl (M_isLike (i := j + 1) (j := p) (L := tlN d ow D) (by omega) (by omega) h6 (fun k hk => hhw (j + 1) k (by omega) hk) (fun k hk => hhw p k (by omega) hk)) (fun z u2 hz => ?_)
              obtain ⟨hz, eu⟩ := hz
              subst eu
              rcases hz with ⟨z1, z2⟩ | ⟨z1, z2⟩
              · rw [z1, if_neg (by decide)]
                refine wp_if (fun c2 => ?_) (fun c2 => ?_)
                · rw [isub_ok (by omega)] at c2
                  have ep : p = j := by omega
                  subst ep
                  rw [lt_eq]
                  exact wp_ret ⟨p + 1, 0, ⟨⟨by omega, by omega⟩, fun i' j' a1 a2 a3 => hno i' j' a1 a2 a3, Or.inl ⟨z2, rfl, rfl⟩⟩, hset_same _ _ _ _, hw1.frame (fun q a _ => by rw [hset_obj _ _ _ _ a]) (fun i hi => by rw [hset_get, if_neg (by omega)])⟩
                · rw [isub_ok (by omega)] at c2
                  rw [lt_eq]
                  exact wp_ret ⟨j + 1, 1, ⟨⟨by omega, by omega⟩, fun i' j' a1 a2 a3 => hno i' j' a1 a2 a3, Or.inr (Or.inl ⟨hnq j (by omega) (by omega), ⟨p, by omega, z2⟩, rfl, rfl⟩)⟩, hset_same _ _ _ _, hw1.frame (fun q a _ => by rw [hset_obj _ _ _ _ a]) (fun i hi => by rw [hset_get, if_neg (by omega)])⟩
              · rw [z1, if_pos rfl, lt_eq, iadd_ok (by omega)]
                refine ih3 _ ⟨p, by omega, rfl, by dsimp only; omega, rfl, fun q q1 q2 => ?_⟩ (by dsimp only; omega)
                by_cases e : q = p
                · rw [e]
                  obtain ⟨k, k1, k2⟩ := z2
                  exact fun y => k2 (y k k1)
                · exact hnq q (by omega) q2
          · exact ⟨j + 1, Nat.le_refl _, rfl, by dsimp only; omega, rfl, fun q q1 q2 => by omega⟩
          · rw [FU_eq]
            show ((j : Int) + 1).toNat < 20000
            omega
        · have hrR : r < dR d := by omega
          have g30 : (0 : Int) ≤ (r : Int) ∧ (r : Int) < 30 := by omega
          have hDr := DLok_tr (ow := ow) hDj r
          have e1E : (trR d ow r (itD d ow j D)).1 = D.1 := by rw [trR_1, itD_1]
          rw [M_isDeal hVv hTv hd hrR, cl2_some]
          by_cases cd : isDl ow D r
          · have cdE : isDl ow (trR d ow r (itD d ow j D)) r := (isDl_1 e1E r).mpr cd
            have e3 : trR d ow (r + 1) (itD d ow j D) = setDv (trR d ow r (itD d ow j D)) r (clM (evV d ow (trR d ow r (itD d ow j D)) r)) := by rw [trR_s, if_pos cdE]
            have ev := evV_rng hd ho hDr hrR
            have go : ∀ y : Int, y = clM (evV d ow (trR d ow r (itD d ow j D)) r) → wp (gd (0 ≤ (r : Int) ∧ (r : Int) < (30 : Int)) <| lt (hset v 43 (r : Int).toNat (w32 y)) fun s3 => cl2 (F_M_shares s3) fun _ s5 => lt (iadd (r : Int) 1) fun y3_1 => K2 (((j + 1 : Nat) : Int), y3_1, s5)) (fun z u => hmPost t d ow D N z u) := by
              intro y hy
              have hcl := clM_rng (evV d ow (trR d ow r (itD d ow j D)) r)
              rw [gd_pos g30, lt_eq, Int.toNat_natCast, w32_id (by omega), hy]
              have hm : mhF t (hset v 43 r (clM (evV d ow (trR d ow r (itD d ow j D)) r))) := ⟨fun q a1 a2 a3 a4 a5 => by rw [hset_obj _ _ _ _ a2]; exact hv.2.2.1 q a1 a2 a3 a4 a5, fun i hi => by rw [hset_obj _ _ _ _ (by decide)]; exact hv.2.2.2 i hi⟩
              have hN2 : NetM (hset v 43 r (clM (evV d ow (trR d ow r (itD d ow j D)) r))) b d := hNv.congr (by rw [hset_obj _ _ _ _ (by decide)]) (fun q a1 a2 => by rw [hset_obj _ _ _ _ (by omega)])
              have hV2 : ViewM1 (hset v 43 r (clM (evV d ow (trR d ow r (itD d ow j D)) r))) d ow := fun q hq => by rw [hset_obj _ _ _ _ (by decide), hset_obj _ _ _ _ (by decide)]; exact hVv q hq
              have h43' : ∀ q, D.1 q = true → (hset v 43 r (clM (evV d ow (trR d ow r (itD d ow j D)) r))) 43 q = (trR d ow (r + 1) (itD d ow j D)).2 q := fun q hq => by
                rw [e3, hset_row]
                show _ = if q = r then clM (evV d ow (trR d ow r (itD d ow j D)) r) else (trR d ow r (itD d ow j D)).2 q
                dsimp only
                by_cases e : q = r
                · rw [if_pos e, if_pos e]
                · rw [if_neg e, if_neg e]
                  exact hv.2.1 q hq
              have e1' : (trR d ow (r + 1) (itD d ow j D)).1 = D.1 := by rw [trR_1, itD_1]
              refine wp_cl (M_shares (D := trR d ow (r + 1) (itD d ow j D)) hd ho (DLok_tr hDj _) hN2 hV2 (fun q hq => ⟨by rw [hset_obj _ _ _ _ (by decide), e1']; exact hTv q hq, fun y => h43' q (by rw [← e1']; exact y)⟩)) (fun _ w hw => ?_)
              rw [lt_eq, iadd_ok (by omega)]
              refine ih2 _ ⟨r + 1, by omega, rfl, by simp, ⟨hw.1, fun q hq => ?_, fun q a1 a2 a3 a4 a5 => ?_, fun i hi => ?_⟩, fun p k hp hk => ?_⟩ (by dsimp only; omega)
              · dsimp only
                rw [hw.2 43 (by omega)]; exact h43' q hq
              · dsimp only
                rw [hw.2 q (by omega)]; exact hm.1 q a1 a2 a3 a4 a5
              · dsimp only
                rw [hw.2 0 (by omega)]; exact hm.2 i hi
              · dsimp only
                rw [hw.2 46 (by omega), hset_obj _ _ _ _ (by decide)]; exact hhv p k hp hk
            rw [if_pos cd, if_neg (by decide), M_evenOf hd ho hDr hNv hVv hv.1 hrR, cl2_some]
            unfold clM at go
            refine wp_if (fun c1 => ?_) (fun c1 => ?_)
            · have c1 := lcmp_le.mp c1
              refine wp_if (fun c2 => ?_) (fun c2 => ?_)
              · have c2 := lcmp_ge.mp c2
                exact go _ (by rw [if_neg (by omega), if_neg (by omega)])
              · have c2 : ¬ _ := fun z => c2 (lcmp_ge.mpr z)
                exact go _ (by rw [if_neg (by omega), if_pos (by omega)])
            · have c1 : ¬ _ := fun z => c1 (lcmp_le.mpr z)
              exact go _ (by rw [if_pos (by omega)])
          · have cdE : ¬ isDl ow (trR d ow r (itD d ow j D)) r := fun z => cd ((isDl_1 e1E r).mp z)
            rw [if_neg cd, if_pos rfl, lt_eq, iadd_ok (by omega)]
            refine ih2 _ ⟨r + 1, by omega, rfl, by simp, ?_, hhv⟩ (by dsimp only; omega)
            rw [trR_s, if_neg cdE]
            exact hv
      · exact ⟨0, by omega, rfl, rfl, hu, hh⟩
      · rw [FU_eq]
        show (30 - (0 : Int)).toNat < 20000
        omega
  · refine ⟨0, by omega, rfl, h1, fun j k hj hk => ?_, fun i' j a1 a2 _ => by omega⟩
    have : j = 0 := by omega
    rw [this]
    exact ht1.1 k hk
  · rw [FU_eq]
    show (1001 - (1 : Int)).toNat < 20000
    omega
end Haggle
section HaggleS
variable {σ τ : Hp} {n b : Nat} {d : ND} {A : AD} {kn : Int} {now day : Nat} {D : DL}
theorem InvAt.setG (h : InvAt σ τ n b d A kn now day D) {D' : DL} (hok : DLok d D') {s t : Hp} (h1 : ∀ q, q ≠ 0 → q < 173 ∨ 179 < q → s q = σ q) (h1' : ∀ i, i ≠ 15 → s 0 i = σ 0 i) (h2 : ∀ q, keepM q → q ≠ 42 → q ≠ 43 → t q = τ q) (h0 : ∀ i, keepM0 i → i ≠ 67 → t 0 i = τ 0 i) (h15 : s 0 15 = t 0 67) (h3 : DlsI s t D') : InvAt s t n b d A kn now day D' := by
  obtain ⟨⟨g1, g2, g3, g4, g5⟩, ⟨c1, c2, c3, c4, c5, c6, c7⟩, m, ⟨d1, d2⟩, o1, o2, o3⟩ := id h
  have k : ∀ q, 1 ≤ q → q ≤ 172 → s q = σ q := fun q a hq => h1 q (by omega) (by omega)
  have hn : n = 50 ∨ n = 4 := c1.1
  refine ⟨⟨g1, g2, g3, g4, hok⟩, ⟨c1.congr (fun i _ => by rw [k n (by omega) (by omega)]) (fun q a x => k q (by omega) (by omega)), c2.congr (fun q a x => k q (by omega) (by omega)), fun w hw => ?_, ⟨?_, fun q hq => ?_⟩, ⟨?_, ?_, ?_, ?_⟩, ⟨?_, fun r hr => ?_⟩, c7.congr g1 (h1' 16 (by omega)) (fun q a x => k q (by omega) (by omega)) ?_⟩, m.congr (fun q hq => h2 q (by unfold keepM; omega) (by omega) (by omega)) (fun i hi => h0 i (by unfold keepM0; omega) (by omega)), h3, ?_, ?_, ?_⟩
  · rw [k (n + 1) (by omega) (by omega)]; exact c3 w hw
  · rw [k 46 (by omega) (by omega)]; exact c4.1
  · rw [k 47 (by omega) (by omega), k 48 (by omega) (by omega), k 49 (by omega) (by omega)]; exact c4.2 q hq
  · rw [h1' 3 (by omega)]; exact c5.1
  · rw [k 3 (by omega) (by omega)]; exact c5.2.1
  · rw [h1' 12 (by omega)]; exact c5.2.2.1
  · rw [h1' 11 (by omega)]; exact c5.2.2.2
  · rw [k 88 (by omega) (by omega)]; exact c6.1
  · rw [k 89 (by omega) (by omega), k 90 (by omega) (by omega)]; exact c6.2 r hr
  · rw [k 169 (by omega) (by omega)]; exact c7.2.2.2
  · rw [h1' 13 (by omega), h1' 14 (by omega), h0 10 (by unfold keepM0; omega) (by omega), h0 11 (by unfold keepM0; omega) (by omega)]; exact ⟨o1.1, o1.2.1, h15⟩
  · rw [k 1 (by omega) (by omega), k 2 (by omega) (by omega), h0 1 (by unfold keepM0; omega) (by omega), h2 1 (by unfold keepM; omega) (by omega) (by omega)]; exact o2
  · rw [h1 181 (by omega) (by omega), h1 182 (by omega) (by omega), h0 71 (by unfold keepM0; omega) (by omega), h2 49 (by unfold keepM; omega) (by omega) (by omega)]; exact o3
theorem S_haggle (σ τ : Hp) (a1 : Int) (h : Inv σ τ) : ∃ (z : Int) (σ' τ' : Hp), F_RD_haggle a1 σ = some (z, σ') ∧ F_M_haggle a1 τ = some (z, τ') ∧ Inv σ' τ' := by
  obtain ⟨n, b, d, A, kn, now, day, D, hI⟩ := id h
  obtain ⟨g1, g2, g3, g4, g5⟩ := hI.1
  have ho := hI.oo
  have hR := g1.2.1
  unfold F_RD_haggle F_RD_haggle_12 F_RD_haggle_50 F_M_haggle
  rw [M_is, cl2_some]
  by_cases c0 : a1 < 1
  · exact ⟨_, _, _, if_pos c0, by rw [if_neg (c := 1 ≤ a1 ∧ a1 ≤ 1000) (by omega), if_pos rfl], h⟩
  by_cases c1 : a1 ≤ 1000
  · obtain ⟨N, rfl⟩ : ∃ k : Nat, a1 = k := ⟨a1.toNat, by omega⟩
    obtain ⟨z, s, e, hz, hIs, hS⟩ := C_dealsNow hI
    obtain ⟨z2, t, e2, hIt, hV, hSh⟩ := hIs.laysAll
    have d1 := hIt.2.2.2.1.1
    obtain ⟨v, u, e3, m, oc, z3, hg, hoc, hru, hv, hvz⟩ := C_turnRounds g1 ho g5 hIs.2.1.1 hIs.2.1.2.2.2.2.2.1 hS (fun r hr => ((d1 r (by have := (g5.2 r hr).1; omega)).2.2 hr).1) (N := N) (by omega)
    obtain ⟨z4, w, e4, m', oc', hg', hoc', hrw⟩ := M_haggleF g1 ho g5 hIt.2.2.1.1 hV hSh (fun r hr => (d1 r hr).2.1) (fun r hr => ((d1 r (by have := (g5.2 r hr).1; omega)).2.2 hr).2) (N := N) (by omega)
    obtain ⟨y1, y2, y3⟩ := hg.uniq hg'
    subst y1 y2 y3
    have hfin : InvAt (hset u 0 15 (u 173 10)) w n b d A kn now day (itD d (owd d A day now) m D) := by
      refine hIt.setG (DLok_it g5 m) (fun q a1 a2 => by rw [hset_obj _ _ _ _ a1]; exact hru.2.2.1 q (by omega) (by omega) (by omega) (by omega)) (fun i hi => by rw [hset_get, if_neg (by omega)]; rw [hru.2.2.1 0 (by omega) (by omega) (by omega) (by omega)]) (fun q hq a2 a3 => hrw.2.2.1 q (by unfold keepM at hq; omega) a3 (by unfold keepM at hq; omega) (by unfold keepM at hq; omega) (by unfold keepM at hq; omega)) (fun i _ hi => hrw.2.2.2 i hi) (by rw [hset_same, hoc, hoc']) ⟨fun r hr => ?_, ?_⟩
      · obtain ⟨x1, x2, x3⟩ := d1 r hr
        rw [hset_obj _ _ _ _ (by decide), hset_obj _ _ _ _ (by decide), itD_1, hru.2.2.1 174 (by omega) (by omega) (by omega) (by omega), hrw.2.2.1 42 (by omega) (by omega) (by omega) (by omega) (by omega)]
        exact ⟨x1, x2, fun y => ⟨hru.2.1 r y, hrw.2.1 r y⟩⟩
      · rw [hset_obj _ _ _ _ (by decide), hru.2.2.2 2 (by omega), hIt.2.2.2.1.2]
        have : ∀ k, dlN (itD d (owd d A day now) m D) k = dlN D k := by
          intro k
          induction k with
          | zero => rfl
          | succ k ih =>
            show dlN (itD d (owd d A day now) m D) k + (if (itD d (owd d A day now) m D).1 k = true then 1 else 0) = dlN D k + if D.1 k = true then 1 else 0
            rw [ih, itD_1]
        rw [this]
    rw [if_neg c0, if_pos c1, if_pos (c := 1 ≤ (N : Int) ∧ (N : Int) ≤ 1000) (by omega), if_neg (c := (1 : Int) = 0) (by decide), e, e2, cl2_some, cl2_some, gd_pos hz, e3, e4, cl2_some, lt_eq, hset_same, hoc]
    rw [hoc] at hfin
    rcases hvz with ⟨x1, x2⟩ | ⟨x1, x2⟩
    · rw [if_pos x1, isub_ok (by omega), ← x2]
      exact ⟨_, _, _, rfl, rfl, n, b, d, A, kn, now, day, _, hfin⟩
    · rw [if_neg x1, ← x2]
      exact ⟨_, _, _, rfl, rfl, n, b, d, A, kn, now, day, _, hfin⟩
  · exact ⟨_, _, _, by rw [if_neg c0, if_neg c1], by rw [if_neg (c := 1 ≤ a1 ∧ a1 ≤ 1000) (by omega), if_pos rfl], h⟩
end HaggleS
