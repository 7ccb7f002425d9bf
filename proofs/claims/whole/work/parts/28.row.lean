/-! the greatest sum as a function; what one road more does; the row -/
def bF (g : Nat → Nat → Int) : Nat → Nat → Int
  | 0, _ => 0
  | k + 1, m => if m < 2 ^ k then bF g k m else bmx g k (bF g k) k (m - 2 ^ k)
theorem bF_ok (g : Nat → Nat → Int) : ∀ k, BestOK g k (bF g k)
  | 0 => fun m hm => by
    have : m = 0 := by
      have : m < 1 := hm
      omega
    subst this
    refine ⟨?_, fun k hk => ?_⟩
    · show (if (0 : Int) = 0 then 1 else 0) ≠ 0
      rw [if_pos rfl]
      decide
    · show k ≤ 0
      by_cases e : k = 0
      · omega
      · exact absurd (show Nm g 0 _ k = 0 from if_neg e) hk
  | k + 1 => by
    refine BestOK_succ (bF_ok g k) (fun m hm => ?_) (fun t ht => ?_)
    · show (if m < 2 ^ k then _ else _) = _
      rw [if_pos hm]
    · show (if 2 ^ k + t < 2 ^ k then _ else _) = _
      rw [if_neg (by omega), show 2 ^ k + t - 2 ^ k = t by omega]
theorem BestOK.eq {g : Nat → Nat → Int} {k : Nat} {f : Nat → Int} (h : BestOK g k f) {m : Nat} (hm : m < 2 ^ k) : f m = bF g k m := Top_uniq (h m hm) (bF_ok g k m hm)
theorem bF_rng {g : Nat → Nat → Int} (hg : gLe g) {k m : Nat} (hk : k ≤ 12) (hm : m < 2 ^ k) : 0 ≤ bF g k m ∧ bF g k m ≤ 1439976 := (bF_ok g k).rng hg hk hm
/-- the gains on the roads from lo on -/
def gab (d : ND) (ow : Nat → Int) (lo a c : Nat) : Int := if rdO d a c (dR d) < (lo : Int) then 0 else gnd d ow (rdO d a c (dR d)).toNat
theorem gab_0 (d : ND) (ow : Nat → Int) : gab d ow 0 = gpd d ow := by
  funext a c
  unfold gab gpd
  have := rdO_rng (d := d) (a := a) (c := c)
  by_cases h : rdO d a c (dR d) = -1
  · rw [if_pos (by omega), if_pos h]
  · rw [if_neg (by omega), if_neg h]
theorem gab_sym (d : ND) (ow : Nat → Int) (lo a c : Nat) : gab d ow lo a c = gab d ow lo c a := by
  unfold gab
  rw [rdO_sym]
theorem gab_le {d : ND} (hd : NDok d) {ow : Nat → Int} (ho : owOk d ow) (lo : Nat) : gLe (gab d ow lo) := by
  intro a c
  unfold gab
  have h := rdO_rng (d := d) (a := a) (c := c)
  split
  · omega
  · exact gnd_rng hd ho (by omega)
theorem gpd_le {d : ND} (hd : NDok d) {ow : Nat → Int} (ho : owOk d ow) : gLe (gpd d ow) := fun a c => gpd_rng hd ho a c
theorem gab_pr {d : ND} (hd : NDok d) (ow : Nat → Int) {r a c : Nat} (hr : r < dR d) (h : isPr d r a c) : gab d ow r a c = gnd d ow r ∧ gab d ow (r + 1) a c = 0 := by
  unfold gab
  rw [rdO_of hd hr h, if_neg (by omega), if_pos (by omega)]
  exact ⟨rfl, rfl⟩
theorem gab_ne {d : ND} (ow : Nat → Int) {r a c : Nat} (h : ¬ isPr d r a c) : gab d ow r a c = gab d ow (r + 1) a c := by
  unfold gab
  rcases rdO_cases d a c (dR d) with ⟨h1, h2⟩ | ⟨q, h1, h2, h3⟩
  · rw [h1, if_pos (by omega), if_pos (by omega)]
  · have : q ≠ r := fun e => h (e ▸ h3)
    rw [h2]
    by_cases c9 : q < r
    · rw [if_pos (by omega), if_pos (by omega)]
    · rw [if_neg (by omega), if_neg (by omega)]
theorem isPr_sym {d : ND} {r a c : Nat} (h : isPr d r a c) : isPr d r c a := Or.symm h
theorem Nm_edge {d : ND} (hd : NDok d) (ow : Nat → Int) {r n : Nat} (hr : r < dR d) (hn : dW d ≤ n) {S : Nat → Bool} {k : Int} :
    Nm (gab d ow r) n S k = Nm (gab d ow (r + 1)) n S k + (if S (fs d r) = true ∧ S (sn d r) = true ∧ 0 < gnd d ow r then Nm (gab d ow (r + 1)) n (rmv (rmv S (fs d r)) (sn d r)) (k - gnd d ow r) else 0) := by
  have hp := hd.2.2.1 r hr
  have same : ∀ {T : Nat → Bool} {k' : Int}, (¬ T (fs d r) = true ∨ ¬ T (sn d r) = true) → Nm (gab d ow r) n T k' = Nm (gab d ow (r + 1)) n T k' := fun {T k'} hT => by
    refine Nm_congr (fun _ _ => rfl) (fun x y _ _ h1 h2 => gab_ne ow (fun q => ?_))
    rcases q with ⟨q1, q2⟩ | ⟨q1, q2⟩
    · rw [← q1] at h1
      rw [← q2] at h2
      exact hT.elim (fun z => z h1) (fun z => z h2)
    · rw [← q2] at h1
      rw [← q1] at h2
      exact hT.elim (fun z => z h2) (fun z => z h1)
  by_cases ha : S (fs d r) = true
  · by_cases hc : S (sn d r) = true
    · rw [Nm_any (gab_sym d ow r) (v := fs d r) (by omega) ha, Nm_any (g := gab d ow (r + 1)) (gab_sym d ow (r + 1)) (v := fs d r) (by omega) ha, same (Or.inl (fun z => (rmv_at.mp z).2 rfl))]
      rw [Nat.add_assoc]
      congr 1
      rw [sm_pick (v := sn d r) (f := fun u => if S u = true ∧ u ≠ fs d r ∧ 0 < gab d ow r u (fs d r) then Nm (gab d ow r) n (rmv (rmv S (fs d r)) u) (k - gab d ow r u (fs d r)) else 0) (by omega), sm_pick (v := sn d r) (f := fun u => if S u = true ∧ u ≠ fs d r ∧ 0 < gab d ow (r + 1) u (fs d r) then Nm (gab d ow (r + 1)) n (rmv (rmv S (fs d r)) u) (k - gab d ow (r + 1) u (fs d r)) else 0) (by omega)]
      have g1 := gab_pr hd ow hr (show isPr d r (sn d r) (fs d r) from Or.inr ⟨rfl, rfl⟩)
      rw [g1.1, g1.2, if_neg (c := S (sn d r) = true ∧ sn d r ≠ fs d r ∧ (0 : Int) < 0) (fun z => absurd z.2.2 (by omega)), Nat.zero_add, Nat.add_comm]
      congr 1
      · apply sm_congr
        intro u hu
        by_cases e : u = sn d r
        · rw [if_pos e, if_pos e]
        · rw [if_neg e, if_neg e, ← gab_ne ow (r := r) (a := u) (c := fs d r) (fun q => q.elim (fun z => hp.2.2.1 z.2.symm) (fun z => e z.2.symm))]
          split
          · exact same (Or.inl (fun z => (rmv_at.mp (rmv_at.mp z).1).2 rfl))
          · rfl
      · by_cases g : 0 < gnd d ow r
        · rw [if_pos ⟨hc, fun z => hp.2.2.1 z.symm, g⟩, if_pos ⟨ha, hc, g⟩]
          exact same (Or.inl (fun z => (rmv_at.mp (rmv_at.mp z).1).2 rfl))
        · rw [if_neg (fun z => g z.2.2), if_neg (fun z => g z.2.2)]
    · rw [if_neg (fun z => hc z.2.1), Nat.add_zero]
      exact same (Or.inr hc)
  · rw [if_neg (fun z => ha z.1), Nat.add_zero]
    exact same (Or.inl ha)
/-- both of a road are of the set -/
def hasP (d : ND) (m r : Nat) : Prop := m.testBit (fs d r) = true ∧ m.testBit (sn d r) = true
theorem prM_eq {d : ND} (hd : NDok d) {r : Nat} (hr : r < dR d) : prM d r = 2 ^ fs d r + 2 ^ sn d r := by
  have hp := hd.2.2.1 r hr
  unfold prM
  rcases Nat.lt_or_gt_of_ne hp.2.2.1 with h | h
  · rw [or_add h]
    omega
  · rw [Nat.or_comm, or_add h]
theorem sub_pr {d : ND} (hd : NDok d) {r m : Nat} (hr : r < dR d) (h : hasP d m r) : bt (m - prM d r) = rmv (rmv (bt m) (fs d r)) (sn d r) ∧ prM d r ≤ m := by
  have hp := hd.2.2.1 r hr
  have h1 := sub_bt h.1
  have h3 : (m - 2 ^ fs d r).testBit (sn d r) = true := by
    have : bt (m - 2 ^ fs d r) (sn d r) = true := by
      rw [h1.1]
      exact rmv_at.mpr ⟨h.2, fun z => hp.2.2.1 z.symm⟩
    exact this
  have h2 := sub_bt h3
  rw [prM_eq hd hr]
  refine ⟨?_, by omega⟩
  rw [← Nat.sub_sub, h2.1, h1.1]
theorem hasP_and {d : ND} {m r : Nat} : m &&& prM d r = prM d r ↔ hasP d m r := and_pair
theorem bt_inj {m k : Nat} (h : bt m = bt k) : m = k := Nat.eq_of_testBit_eq (fun i => congrFun h i)
theorem clear_pr {d : ND} (hd : NDok d) {r m : Nat} (hr : r < dR d) (h : hasP d m r) : m ^^^ (m &&& prM d r) = m - prM d r := by
  apply bt_inj
  rw [(sub_pr hd hr h).1]
  funext x
  unfold bt rmv prM
  rw [Nat.testBit_xor, Nat.testBit_and, Nat.testBit_or, Nat.testBit_two_pow, Nat.testBit_two_pow]
  by_cases h1 : fs d r = x
  · subst h1
    simp
  · by_cases h2 : sn d r = x
    · subst h2
      simp
    · have h3 : ¬ x = fs d r := fun z => h1 z.symm
      have h4 : ¬ x = sn d r := fun z => h2 z.symm
      have h5 : (x == fs d r) = false := by simpa using h3
      have h6 : (x == sn d r) = false := by simpa using h4
      rw [h5, h6, decide_eq_false h1, decide_eq_false h2]
      simp
section Row
variable {d : ND} {ow : Nat → Int}
/-- the greatest sum of a set on the roads from lo on -/
def bR (d : ND) (ow : Nat → Int) (lo m : Nat) : Int := bF (gab d ow lo) (dW d) m
theorem bR_top (d : ND) (ow : Nat → Int) (lo : Nat) {m : Nat} (hm : m < 2 ^ dW d) : Top (Nm (gab d ow lo) (dW d) (bt m)) (bR d ow lo m) := bF_ok _ _ m hm
theorem bR_edge (hd : NDok d) {r m : Nat} (hr : r < dR d) (hm : m < 2 ^ dW d) : bR d ow (r + 1) m ≤ bR d ow r m ∧ (bR d ow r m = bR d ow (r + 1) m ∨ (hasP d m r ∧ 0 < gnd d ow r ∧ bR d ow r m = gnd d ow r + bR d ow (r + 1) (m - prM d r))) := by
  have t0 := bR_top d ow r hm
  have t1 := bR_top d ow (r + 1) hm
  have le1 : bR d ow (r + 1) m ≤ bR d ow r m := t0.2 _ (by rw [Nm_edge hd ow hr (Nat.le_refl _)]; have := t1.1; omega)
  refine ⟨le1, ?_⟩
  have h := t0.1
  rw [Nm_edge hd ow hr (Nat.le_refl _)] at h
  by_cases c : Nm (gab d ow (r + 1)) (dW d) (bt m) (bR d ow r m) = 0
  · rw [c, Nat.zero_add] at h
    by_cases c2 : bt m (fs d r) = true ∧ bt m (sn d r) = true ∧ 0 < gnd d ow r
    · rw [if_pos c2] at h
      have hP : hasP d m r := ⟨c2.1, c2.2.1⟩
      have hs := sub_pr hd hr hP
      have t2 := bR_top d ow (r + 1) (m := m - prM d r) (by omega)
      rw [hs.1] at t2
      have u1 := t2.2 _ h
      refine Or.inr ⟨hP, c2.2.2, ?_⟩
      have u2 : gnd d ow r + bR d ow (r + 1) (m - prM d r) ≤ bR d ow r m := t0.2 _ (by
        rw [Nm_edge hd ow hr (Nat.le_refl _), if_pos c2, show gnd d ow r + bR d ow (r + 1) (m - prM d r) - gnd d ow r = bR d ow (r + 1) (m - prM d r) by omega]
        have := t2.1
        omega)
      omega
    · rw [if_neg c2] at h
      exact absurd rfl h
  · have := t1.2 _ c
    exact Or.inl (by omega)
theorem bR_mono (hd : NDok d) {m : Nat} (hm : m < 2 ^ dW d) : ∀ r, r ≤ dR d → bR d ow r m ≤ bR d ow 0 m
  | 0, _ => Int.le_refl _
  | r + 1, h => Int.le_trans (bR_edge hd (by omega) hm).1 (bR_mono hd hm r (by omega))
theorem bR_super (hd : NDok d) {r m : Nat} (hr : r < dR d) (hm : m < 2 ^ dW d) (hP : hasP d m r) (hg : 0 < gnd d ow r) : gnd d ow r + bR d ow 0 (m - prM d r) ≤ bR d ow 0 m := by
  have hp := hd.2.2.1 r hr
  have t0 := bR_top d ow 0 hm
  have hs := sub_pr hd hr hP
  have t1 := bR_top d ow 0 (m := m - prM d r) (by omega)
  rw [hs.1] at t1
  refine t0.2 _ ?_
  have e : gab d ow 0 (sn d r) (fs d r) = gnd d ow r := by
    rw [gab_0]
    exact gpd_of hd ow hr (Or.inr ⟨rfl, rfl⟩)
  rw [Nm_any (S := bt m) (gab_sym d ow 0) (v := fs d r) hp.1 hP.1]
  have h9 := sm_ge (n := dW d) (v := sn d r) (f := fun u => if bt m u = true ∧ u ≠ fs d r ∧ 0 < gab d ow 0 u (fs d r) then Nm (gab d ow 0) (dW d) (rmv (rmv (bt m) (fs d r)) u) (gnd d ow r + bR d ow 0 (m - prM d r) - gab d ow 0 u (fs d r)) else 0) hp.2.1
  have h10 : (if bt m (sn d r) = true ∧ sn d r ≠ fs d r ∧ 0 < gab d ow 0 (sn d r) (fs d r) then Nm (gab d ow 0) (dW d) (rmv (rmv (bt m) (fs d r)) (sn d r)) (gnd d ow r + bR d ow 0 (m - prM d r) - gab d ow 0 (sn d r) (fs d r)) else 0) ≠ 0 := by
    rw [e, if_pos ⟨hP.2, fun z => hp.2.2.1 z.symm, hg⟩, show gnd d ow r + bR d ow 0 (m - prM d r) - gnd d ow r = bR d ow 0 (m - prM d r) by omega]
    exact t1.1
  have h9 : (if bt m (sn d r) = true ∧ sn d r ≠ fs d r ∧ 0 < gab d ow 0 (sn d r) (fs d r) then Nm (gab d ow 0) (dW d) (rmv (rmv (bt m) (fs d r)) (sn d r)) (gnd d ow r + bR d ow 0 (m - prM d r) - gab d ow 0 (sn d r) (fs d r)) else 0) ≤ _ := h9
  omega
/-- no road ahead of r belongs to a greatest sum of l -/
def inI2 (d : ND) (ow : Nat → Int) (r l : Nat) : Prop := ∀ q, q < r → hasP d l q → 0 < gnd d ow q → gnd d ow q + bR d ow 0 (l - prM d q) < bR d ow 0 l
theorem bR_late (hd : NDok d) {l : Nat} (hl : l < 2 ^ dW d) : ∀ r, r ≤ dR d → inI2 d ow r l → bR d ow r l = bR d ow 0 l
  | 0, _, _ => rfl
  | r + 1, hr, h => by
    have ih := bR_late hd hl r (by omega) (fun q hq => h q (by omega))
    have e := bR_edge (ow := ow) hd (r := r) (by omega) hl
    rcases e.2 with e2 | ⟨e2, e3, e4⟩
    · omega
    · have h9 := h r (by omega) e2 e3
      have h8 := bR_mono (ow := ow) hd (m := l - prM d r) (by omega) (r + 1) hr
      omega
theorem inI2_skip (hd : NDok d) {r l : Nat} (hr : r < dR d) (hl : l < 2 ^ dW d) (h : inI2 d ow r l) (hn : ¬ (hasP d l r ∧ 0 < gnd d ow r ∧ bR d ow 0 (l - prM d r) + gnd d ow r = bR d ow 0 l)) : inI2 d ow (r + 1) l := by
  intro q hq h1 h2
  by_cases e : q = r
  · subst e
    have := bR_super (ow := ow) hd hr hl h1 h2
    have h3 : ¬ (bR d ow 0 (l - prM d q) + gnd d ow q = bR d ow 0 l) := fun z => hn ⟨h1, h2, z⟩
    omega
  · exact h q (by omega) h1 h2
theorem inI2_take (hd : NDok d) {r l : Nat} (hr : r < dR d) (hl : l < 2 ^ dW d) (h : inI2 d ow r l) (h1 : hasP d l r) (h2 : 0 < gnd d ow r) (h3 : bR d ow 0 (l - prM d r) + gnd d ow r = bR d ow 0 l) : inI2 d ow (r + 1) (l - prM d r) := by
  intro q hq g1 g2
  have hs := sub_pr hd hr h1
  have at1 : ∀ x, (l - prM d r).testBit x = true → l.testBit x = true ∧ x ≠ fs d r ∧ x ≠ sn d r := fun x hx => by
    have hx : bt (l - prM d r) x = true := hx
    rw [hs.1] at hx
    have h5 := rmv_at.mp hx
    have h6 := rmv_at.mp h5.1
    exact ⟨h6.1, h6.2, h5.2⟩
  have b1 := at1 _ g1.1
  have b2 := at1 _ g1.2
  have hqr : q ≠ r := fun e => b1.2.1 (by rw [e])
  have hqR : q < dR d := by omega
  have hlq : hasP d l q := ⟨b1.1, b2.1⟩
  have hsq := sub_pr hd hqR hlq
  have hP2 : hasP d (l - prM d q) r := by
    constructor
    · show bt (l - prM d q) (fs d r) = true
      rw [hsq.1]
      exact rmv_at.mpr ⟨rmv_at.mpr ⟨h1.1, fun z => b1.2.1 z.symm⟩, fun z => b2.2.1 z.symm⟩
    · show bt (l - prM d q) (sn d r) = true
      rw [hsq.1]
      exact rmv_at.mpr ⟨rmv_at.mpr ⟨h1.2, fun z => b1.2.2 z.symm⟩, fun z => b2.2.2 z.symm⟩
  have s1 := bR_super (ow := ow) hd hr (m := l - prM d q) (by omega) hP2 h2
  have s2 := h q (by omega) hlq g2
  rw [Nat.sub_right_comm] at s1
  omega
/-- the row as it is found: who is left, the roads so far -/
def rwS (d : ND) (ow : Nat → Int) : Nat → Nat × List Nat
  | 0 => (2 ^ dW d - 1, [])
  | r + 1 => if (rwS d ow r).1 &&& prM d r = prM d r ∧ 0 < gnd d ow r ∧ bR d ow 0 ((rwS d ow r).1 - prM d r) + gnd d ow r = bR d ow 0 (rwS d ow r).1 then ((rwS d ow r).1 - prM d r, (rwS d ow r).2 ++ [r]) else rwS d ow r
theorem rwS_ok (hd : NDok d) : ∀ r, r ≤ dR d → (rwS d ow r).1 < 2 ^ dW d ∧ inI2 d ow r (rwS d ow r).1
  | 0, _ => ⟨by show 2 ^ dW d - 1 < 2 ^ dW d; have := Nat.two_pow_pos (dW d); omega, fun q hq => absurd hq (by omega)⟩
  | r + 1, hr => by
    have ih := rwS_ok hd r (by omega)
    have e : rwS d ow (r + 1) = if (rwS d ow r).1 &&& prM d r = prM d r ∧ 0 < gnd d ow r ∧ bR d ow 0 ((rwS d ow r).1 - prM d r) + gnd d ow r = bR d ow 0 (rwS d ow r).1 then ((rwS d ow r).1 - prM d r, (rwS d ow r).2 ++ [r]) else rwS d ow r := rfl
    rw [e]
    split
    · rename_i c
      exact ⟨by show (rwS d ow r).1 - prM d r < _; omega, inI2_take hd (by omega) ih.1 ih.2 (hasP_and.mp c.1) c.2.1 c.2.2⟩
    · rename_i c
      exact ⟨ih.1, inI2_skip hd (by omega) ih.1 ih.2 (fun z => c ⟨hasP_and.mpr z.1, z.2.1, z.2.2⟩)⟩
/-- the check looks at the roads behind alone: it comes to the same -/
theorem row_same (hd : NDok d) {r : Nat} (hr : r < dR d) {l : Nat} (hl : l < 2 ^ dW d) (hI : inI2 d ow r l) (h1 : hasP d l r) (h2 : 0 < gnd d ow r) : (gnd d ow r + bR d ow (r + 1) (l - prM d r) = bR d ow 0 l) ↔ (bR d ow 0 (l - prM d r) + gnd d ow r = bR d ow 0 l) := by
  constructor
  · intro h
    have a := bR_mono (ow := ow) hd (m := l - prM d r) (by omega) (r + 1) (by omega)
    have c := bR_super (ow := ow) hd hr hl h1 h2
    omega
  · intro h
    have := bR_late hd (l := l - prM d r) (by omega) (r + 1) (by omega) (inI2_take hd hr hl hI h1 h2 h)
    omega
def cntb (m : Nat) : Nat := sm 12 (fun x => if bt m x = true then 1 else 0)
theorem cntb_le (m : Nat) : cntb m ≤ 12 := by
  have : ∀ n, sm n (fun x => if bt m x = true then 1 else 0) ≤ n := by
    intro n
    induction n with
    | zero => exact Nat.le_refl _
    | succ n ih =>
      show sm n (fun x => if bt m x = true then 1 else 0) + (if bt m n = true then 1 else 0) ≤ n + 1
      split <;> omega
  exact this 12
theorem cntb_sub (hd : NDok d) {r m : Nat} (hr : r < dR d) (h : hasP d m r) : cntb (m - prM d r) + 2 = cntb m := by
  have hp := hd.2.2.1 r hr
  have hW := hd.1
  unfold cntb
  rw [(sub_pr hd hr h).1, sm_pick (v := fs d r) (f := fun x => if bt m x = true then 1 else 0) (by omega), sm_pick (v := sn d r) (f := fun u => if u = fs d r then 0 else if bt m u = true then 1 else 0) (by omega)]
  rw [if_neg (c := sn d r = fs d r) (fun z => hp.2.2.1 z.symm), if_pos (c := bt m (fs d r) = true) h.1, if_pos (c := bt m (sn d r) = true) h.2]
  have e : sm 12 (fun x => if rmv (rmv (bt m) (fs d r)) (sn d r) x = true then 1 else 0) = sm 12 (fun u => if u = sn d r then 0 else if u = fs d r then 0 else if bt m u = true then 1 else 0) := by
    apply sm_congr
    intro u hu
    by_cases e1 : u = sn d r
    · rw [if_pos e1, if_neg (fun z => (rmv_at.mp z).2 e1)]
    · rw [if_neg e1]
      by_cases e2 : u = fs d r
      · rw [if_pos e2, if_neg (fun z => (rmv_at.mp (rmv_at.mp z).1).2 e2)]
      · rw [if_neg e2]
        by_cases e3 : bt m u = true
        · rw [if_pos e3, if_pos (rmv_at.mpr ⟨rmv_at.mpr ⟨e3, e2⟩, e1⟩)]
        · rw [if_neg e3, if_neg (fun z => e3 (rmv_at.mp (rmv_at.mp z).1).1)]
  rw [e]
  omega
theorem rwS_len (hd : NDok d) : ∀ r, r ≤ dR d → 2 * (rwS d ow r).2.length + cntb (rwS d ow r).1 ≤ 12
  | 0, _ => by
    show 2 * 0 + cntb _ ≤ 12
    have := cntb_le (2 ^ dW d - 1)
    show 2 * 0 + cntb (2 ^ dW d - 1) ≤ 12
    omega
  | r + 1, hr => by
    have ih := rwS_len hd r (by omega)
    have e : rwS d ow (r + 1) = if (rwS d ow r).1 &&& prM d r = prM d r ∧ 0 < gnd d ow r ∧ bR d ow 0 ((rwS d ow r).1 - prM d r) + gnd d ow r = bR d ow 0 (rwS d ow r).1 then ((rwS d ow r).1 - prM d r, (rwS d ow r).2 ++ [r]) else rwS d ow r := rfl
    rw [e]
    split
    · rename_i c
      have := cntb_sub hd (by omega) (hasP_and.mp c.1)
      show 2 * ((rwS d ow r).2 ++ [r]).length + cntb ((rwS d ow r).1 - prM d r) ≤ 12
      rw [List.length_append]
      show 2 * ((rwS d ow r).2.length + 1) + _ ≤ 12
      omega
    · exact ih
end Row
