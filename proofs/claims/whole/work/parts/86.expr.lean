/-! the reading of sums and tests: what holds on both sides -/
section Expr
/-- (bytes, length, tokens), (net, bank, people, alone, names), (codes so far, twice), (the heaps at the beginning), test -/
abbrev Cx : Type := ((Nat → Int) × Nat × Nat) × (Nat × Nat × Nat × (Nat → Int) × (Nat → List Nat)) × (Nat × Nat) × (Hp × Hp) × Int
def xf (X : Cx) : Nat → Int := X.1.1
def xN (X : Cx) : Nat := X.1.2.1
def xkQ (X : Cx) : Nat := X.1.2.2
def xn (X : Cx) : Nat := X.2.1.1
def xb (X : Cx) : Nat := X.2.1.2.1
def xW (X : Cx) : Nat := X.2.1.2.2.1
def xlQ (X : Cx) : Nat → Int := X.2.1.2.2.2.1
def xmQ (X : Cx) : Nat → List Nat := X.2.1.2.2.2.2
def xcQ (X : Cx) : Nat := X.2.2.1.1
def xd (X : Cx) : Nat := X.2.2.1.2
def xsQ (X : Cx) : Hp := X.2.2.2.1.1
def xt (X : Cx) : Hp := X.2.2.2.1.2
def xa (X : Cx) : Int := X.2.2.2.2
def kX (X : Cx) (p : Nat) : Int := kd (xf X) (xN X) p
def sX (X : Cx) (p : Nat) : Nat := st (xf X) (xN X) p
def eX (X : Cx) (p : Nat) : Nat := en (xf X) (xN X) p
/-- the class's -/
def AtC (s : Hp) (f : Nat → Int) (N cnt p : Nat) : Prop := ∃ i : Nat, i < cnt ∧ pP f N i = p ∧ s 3 2 = i ∧ s 3 3 = kd f N p ∧ s 3 6 = 0 ∧ s 3 7 = -1
def FixC (s : Hp) (f : Nat → Int) (N cnt nn W : Nat) (al : Nat → Int) (nm : Nat → List Nat) : Prop := isNet nn ∧ ScnC s f N cnt ∧ s 3 1 = nn ∧ (s nn 15 = W ∧ W ≤ 12) ∧ ∀ w, w < W → s (nn + 1) w = pk5 (nm w) ∧ s (nn + 2) w = al w ∧ ndig (nm w) ∧ 0 ≤ al w ∧ al w ≤ 9999
def FixM (t : Hp) (f : Nat → Int) (N b W : Nat) (al : Nat → Int) (nm : Nat → List Nat) : Prop := b < 2 ∧ byM t f N ∧ t 0 31 = b ∧ t 2 b = W ∧ ∀ w, w < W → t 6 (12 * b + w) = pk8 (nm w) ∧ t 7 (12 * b + w) = al w
def FX (X : Cx) : Prop := okF (xf X) ∧ xN X ≤ 900 ∧ FixC (xsQ X) (xf X) (xN X) (xkQ X) (xn X) (xW X) (xlQ X) (xmQ X) ∧ FixM (xt X) (xf X) (xN X) (xb X) (xW X) (xlQ X) (xmQ X)
def exF (nn c0 : Nat) (s s' : Hp) : Prop := (∀ q, q ≠ 3 → q ≠ nn → q ≠ nn + 36 → s' q = s q) ∧ (∀ i, i ≠ 2 → i ≠ 3 → i ≠ 6 → i ≠ 7 → s' 3 i = s 3 i) ∧ (∀ i, i ≠ 14 → s' nn i = s nn i) ∧ ∀ k, k < c0 → s' (nn + 36) k = s (nn + 36) k
theorem exF_rfl {nn c0 : Nat} {s : Hp} : exF nn c0 s s := ⟨fun _ _ _ _ => rfl, fun _ _ _ _ _ => rfl, fun _ _ => rfl, fun _ _ => rfl⟩
theorem exF_trans {nn c0 : Nat} {s t u : Hp} (h : exF nn c0 s t) (h2 : exF nn c0 t u) : exF nn c0 s u := ⟨fun q a b c => by rw [h2.1 q a b c, h.1 q a b c], fun i a b c d => by rw [h2.2.1 i a b c d, h.2.1 i a b c d], fun i a => by rw [h2.2.2.1 i a, h.2.2.1 i a], fun k a => by rw [h2.2.2.2 k a, h.2.2.2 k a]⟩
theorem exF_fix {s s' : Hp} {f : Nat → Int} {N cnt nn W c0 : Nat} {al : Nat → Int} {nm : Nat → List Nat} (h : exF nn c0 s s') (g : FixC s f N cnt nn W al nm) : FixC s' f N cnt nn W al nm := by
  obtain ⟨hn, ⟨c1, c2, c3, c4, c5, c6⟩, g3, g4, g5⟩ := g
  have hn' : nn = 50 ∨ nn = 4 := hn
  have k : ∀ q, q ≠ 3 → q ≠ nn → q ≠ nn + 36 → s' q = s q := h.1
  refine ⟨hn, ⟨by rw [k 42 (by omega) (by omega) (by omega)]; exact c1, c2, c3, fun i hi => ?_, c5, c6⟩, by rw [h.2.1 1 (by omega) (by omega) (by omega) (by omega)]; exact g3, by rw [h.2.2.1 15 (by omega)]; exact g4, fun w hw => ?_⟩
  · rw [k 43 (by omega) (by omega) (by omega), k 44 (by omega) (by omega) (by omega), k 45 (by omega) (by omega) (by omega)]; exact c4 i hi
  · rw [k (nn + 1) (by omega) (by omega) (by omega), k (nn + 2) (by omega) (by omega) (by omega)]; exact g5 w hw
/-- the class at p, with c codes that hold Ws -/
def CSt (X : Cx) (s : Hp) (p c : Nat) (Ws : List FV) : Prop := exF (xn X) (xcQ X) (xsQ X) s ∧ AtC s (xf X) (xN X) (xkQ X) p ∧ s (xn X) 14 = (c : Int) ∧ RC s (xn X) (xcQ X) c Ws ∧ p ≤ xN X
variable {X : Cx} {s t : Hp} {p c : Nat} {Ws : List FV}
theorem CSt.fix (hX : FX X) (h : CSt X s p c Ws) : FixC s (xf X) (xN X) (xkQ X) (xn X) (xW X) (xlQ X) (xmQ X) := exF_fix h.1 hX.2.2.1
theorem AtC_row {f : Nat → Int} {N cnt : Nat} (hs : ScnC s f N cnt) (h : AtC s f N cnt p) : p ≤ N := by
  obtain ⟨i, h1, h2, _⟩ := h
  rw [← h2]
  exact (hs.2.2.2.1 i h1).1
theorem C_stepAt {f : Nat → Int} {N cnt : Nat} (hok : okF f) (hs : ScnC s f N cnt) (h : AtC s f N cnt p) (hk : 0 ≤ kd f N p) : ∃ s', F_Rdr_step s = some (0, s') ∧ AtC s' f N cnt (en f N p) ∧ (∀ q, q ≠ 3 → s' q = s q) ∧ ∀ i, i ≠ 2 → i ≠ 3 → s' 3 i = s 3 i := by
  obtain ⟨i, h1, h2, h3, h4, h5, h6⟩ := h
  obtain ⟨c1, c2, c3, c4, c5, c6⟩ := hs
  have hi : i + 1 < cnt := by
    apply Classical.byContradiction
    intro z
    have : cnt - 1 = i := by omega
    rw [this, h2] at c5
    omega
  have hrow := (c4 (i + 1) hi).2.1
  have hp : pP f N (i + 1) = en f N p := by
    show en f N (pP f N i) = _
    rw [h2]
  have e1 : iadd (i : Int) 1 = ((i + 1 : Nat) : Int) := by rw [iadd_ok (by omega)]; omega
  refine ⟨hset (hset s 3 2 ((i + 1 : Nat) : Int)) 3 3 (kd f N (en f N p)), ?_, ⟨i + 1, hi, hp, ?_, hset_same _ _ _ _, by rw [hset_get, if_neg (by decide), hset_get, if_neg (by decide)]; exact h5, by rw [hset_get, if_neg (by decide), hset_get, if_neg (by decide)]; exact h6⟩, fun q a => by rw [hset_obj _ _ _ _ a, hset_obj _ _ _ _ a], fun j a b => by rw [hset_get, if_neg (by omega), hset_get, if_neg (by omega)]⟩
  · unfold F_Rdr_step F_Scn_kindAt F_Scn_kindAt_21 F_Scn_kindAt_22
    rw [h3, e1, lt_eq, hset_same]
    clear e1
    rw [if_neg (by omega), hset_obj _ _ _ _ (by decide), c1, if_neg (by omega), gd_pos (by omega), cl2_some, lt_eq, Int.toNat_natCast, hset_obj _ _ _ _ (by decide), hrow, hp]
  · rw [hset_get, if_neg (by decide), hset_same]
theorem C_failAt {f : Nat → Int} {N cnt : Nat} (hs : ScnC s f N cnt) (h : AtC s f N cnt p) (k : Int) : ∃ s', F_Rdr_fail k s = some (0, s') ∧ s' 3 6 = k ∧ s' 3 7 = (st f N p : Nat) ∧ (∀ q, q ≠ 3 → s' q = s q) ∧ ∀ i, i ≠ 6 → i ≠ 7 → s' 3 i = s 3 i := by
  obtain ⟨i, h1, h2, h3, h4, h5, h6⟩ := h
  obtain ⟨c1, c2, c3, c4, c5, c6⟩ := hs
  have hrow := (c4 i h1).2.2.1
  rw [h2] at hrow
  refine ⟨hset (hset s 3 6 k) 3 7 (st f N p : Nat), ?_, ?_, hset_same _ _ _ _, fun q a => by rw [hset_obj _ _ _ _ a, hset_obj _ _ _ _ a], fun j a b => by rw [hset_get, if_neg (by omega), hset_get, if_neg (by omega)]⟩
  · unfold F_Rdr_fail F_Scn_startAt F_Scn_startAt_21 F_Scn_startAt_22
    have e2 : hset s 3 6 k 3 2 = (i : Int) := by
      rw [hset_get, if_neg (by decide)]
      exact h3
    rw [lt_eq, e2, if_neg (by omega), hset_obj _ _ _ _ (by decide), c1, if_neg (by omega), gd_pos (by omega), cl2_some, lt_eq, Int.toNat_natCast, hset_obj _ _ _ _ (by decide), hrow]
  · rw [hset_get, if_neg (by decide), hset_same]
theorem C_valueW {f : Nat → Int} {N cnt : Nat} (hs : ScnC s f N cnt) (h : AtC s f N cnt p) (h1 : 256 ≤ kd f N p) (h2 : kd f N p ≠ 281) : F_Scn_valueAt (s 3 2) s = some (pk5 (wd f N p), s) := by
  obtain ⟨i, i1, i2, i3, i4, i5⟩ := h
  obtain ⟨c1, c2, c3, c4, c5, c6⟩ := hs
  have hrow := (c4 i i1).2.2.2.1
  rw [i2] at hrow
  unfold F_Scn_valueAt F_Scn_valueAt_21 F_Scn_valueAt_22
  rw [i3, if_neg (by omega), c1, if_neg (by omega), gd_pos (by omega), Int.toNat_natCast, hrow h1 h2]
theorem C_valueN {f : Nat → Int} {N cnt : Nat} (hs : ScnC s f N cnt) (h : AtC s f N cnt p) (h1 : kd f N p = 281) : F_Scn_valueAt (s 3 2) s = some (nv f N p, s) := by
  obtain ⟨i, i1, i2, i3, i4, i5⟩ := h
  obtain ⟨c1, c2, c3, c4, c5, c6⟩ := hs
  have hrow := (c4 i i1).2.2.2.2
  rw [i2] at hrow
  unfold F_Scn_valueAt F_Scn_valueAt_21 F_Scn_valueAt_22
  rw [i3, if_neg (by omega), c1, if_neg (by omega), gd_pos (by omega), Int.toNat_natCast, hrow h1]
theorem C_emitAt {nn : Nat} (hn : isNet nn) (h : s nn 14 = (c : Int)) (hc : c < 900) (v : Int) : F_Net_emit nn v s = some (0, hset (hset s (nn + 36) c v) nn 14 ((c : Int) + 1)) := by
  have hn' : nn = 50 ∨ nn = 4 := hn
  unfold F_Net_emit F_Net_emit_30
  rw [gd_pos hn, h, if_neg (by omega), gd_pos (by omega), lt_eq, Int.toNat_natCast, lt_eq, hset_obj _ _ _ _ (by omega), h, iadd_ok (by omega)]
/-- what the class is left with when it refuses -/
def CF (X : Cx) (s : Hp) (k pl : Int) : Prop := exF (xn X) (xcQ X) (xsQ X) s ∧ s 3 6 = k ∧ s 3 7 = pl
theorem CSt.step (hX : FX X) (h : CSt X s p c Ws) (hk : 0 ≤ kX X p) : ∃ s', F_Rdr_step s = some (0, s') ∧ CSt X s' (eX X p) c Ws := by
  have hf := h.fix hX
  have hn : xn X = 50 ∨ xn X = 4 := hf.1
  obtain ⟨s', e, a1, a2, a3⟩ := C_stepAt hX.1 hf.2.1 h.2.1 hk
  refine ⟨s', e, exF_trans h.1 ⟨fun q x _ _ => a2 q x, fun i x y _ _ => a3 i x y, fun i _ => by rw [a2 _ (by omega)], fun k _ => by rw [a2 _ (by omega)]⟩, a1, by rw [a2 _ (by omega)]; exact h.2.2.1, RC_congr h.2.2.2.1 (fun k _ => by rw [a2 _ (by omega)]), ?_⟩
  exact (tok_en hX.1 h.2.2.2.2 hk).1.2.1
theorem CSt.fail (hX : FX X) (h : CSt X s p c Ws) (k : Int) : ∃ s', F_Rdr_fail k s = some (0, s') ∧ CF X s' k (sX X p : Nat) := by
  have hf := h.fix hX
  have hn : xn X = 50 ∨ xn X = 4 := hf.1
  obtain ⟨s', e, a1, a2, a3, a4⟩ := C_failAt hf.2.1 h.2.1 k
  exact ⟨s', e, exF_trans h.1 ⟨fun q x _ _ => a3 q x, fun i _ _ x y => a4 i x y, fun i _ => by rw [a3 _ (by omega)], fun k _ => by rw [a3 _ (by omega)]⟩, a1, a2⟩
theorem CSt.k (h : CSt X s p c Ws) : s 3 3 = kX X p := by
  obtain ⟨i, _, _, _, h4, _⟩ := h.2.1
  exact h4
theorem CSt.emit (hX : FX X) (h : CSt X s p c Ws) (hc : c < 900) (v : Int) {Ws' : List FV} (hR : ∀ s', (∀ k, k < c → s' (xn X + 36) k = s (xn X + 36) k) → s' (xn X + 36) c = v → RC s' (xn X) (xcQ X) (c + 1) Ws') : ∃ s', F_Net_emit (xn X) v s = some (0, s') ∧ CSt X s' p (c + 1) Ws' := by
  have hf := h.fix hX
  have hn : xn X = 50 ∨ xn X = 4 := hf.1
  refine ⟨_, C_emitAt hf.1 h.2.2.1 hc v, exF_trans h.1 ⟨fun q a1 a2 a3 => by rw [hset_obj _ _ _ _ a2, hset_obj _ _ _ _ a3], fun i _ _ _ _ => by rw [hset_obj _ _ _ _ (by omega), hset_obj _ _ _ _ (by omega)], fun i hi => by rw [hset_get, if_neg (by omega), hset_obj _ _ _ _ (by omega)], fun k hk => by
    have h0 := h.2.2.2.1.1
    rw [hset_obj _ _ _ _ (by omega), hset_row]
    dsimp only
    rw [if_neg (by omega)]⟩, ?_, ?_, hR _ (fun k hk => ?_) ?_, h.2.2.2.2⟩
  · obtain ⟨i, i1, i2, i3, i4, i5, i6⟩ := h.2.1
    have e3 : hset (hset s (xn X + 36) c v) (xn X) 14 ((c : Int) + 1) 3 = s 3 := by rw [hset_obj _ _ _ _ (by omega), hset_obj _ _ _ _ (by omega)]
    exact ⟨i, i1, i2, by rw [e3]; exact i3, by rw [e3]; exact i4, by rw [e3]; exact i5, by rw [e3]; exact i6⟩
  · rw [hset_same]
    rfl
  · rw [hset_obj _ _ _ _ (by omega), hset_row]
    dsimp only
    rw [if_neg (by omega)]
  · rw [hset_obj _ _ _ _ (by omega), hset_same]
theorem CSt.net (hX : FX X) (h : CSt X s p c Ws) : (s 3 1).toNat = xn X ∧ isNet (xn X) := by
  have hf := h.fix hX
  rw [hf.2.2.1, Int.toNat_natCast]
  exact ⟨rfl, hf.1⟩
/-! the check's -/
def TkM (t : Hp) (f : Nat → Int) (N p : Nat) : Prop := kd f N p ≠ -2 ∧ (t 0 8 = 0 ∧ t 0 9 = -1) ∧ t 0 4 = (st f N p : Nat) ∧ (kd f N p = -1 → t 0 3 = 0) ∧ (256 ≤ kd f N p → kd f N p ≠ 281 → t 0 3 = 1 ∧ t 0 7 = pk8 (wd f N p)) ∧ (kd f N p = 281 → t 0 3 = 2 ∧ t 0 6 = nv f N p) ∧ (0 ≤ kd f N p → kd f N p < 256 → t 0 3 = 3 ∧ t 0 6 = kd f N p) ∧ (0 ≤ kd f N p → t 0 5 = (en f N p : Nat))
theorem TkM_congr {f : Nat → Int} {N : Nat} {t' : Hp} (h : TkM t f N p) (g : ∀ i, 3 ≤ i → i ≤ 9 → t' 0 i = t 0 i) : TkM t' f N p := by
  obtain ⟨h1, h2, h3, h4, h5, h6, h7, h8⟩ := h
  unfold TkM
  rw [g 8 (by decide) (by decide), g 9 (by decide) (by decide), g 4 (by decide) (by decide), g 3 (by decide) (by decide), g 7 (by decide) (by decide), g 6 (by decide) (by decide), g 5 (by decide) (by decide)]
  exact ⟨h1, h2, h3, h4, h5, h6, h7, h8⟩
theorem kd_ge (hok : okF (xf X)) (hp : p ≤ xN X) : kX X p = -2 ∨ kX X p = -1 ∨ (0 ≤ kX X p ∧ kX X p < 256) ∨ (256 ≤ kX X p ∧ kX X p ≤ 272) ∨ kX X p = 280 ∨ kX X p = 281 := by
  unfold kX
  rcases tok_cases hok hp with ⟨a1, a2, a3⟩ | ⟨a1, a2, a3, a4⟩ | ⟨a1, a2, a3, a4, a5, a6⟩ | ⟨a1, a2, a3, a4, a5, a6, a7⟩ | ⟨a1, a2, a3, a4, a5, a6, a7⟩ | ⟨a1, a2, a3, a4, a5, a6, a7, a8⟩ | ⟨a1, a2, a3, a4, a5, a6, a7, a8⟩
  · exact Or.inr (Or.inl a2)
  · exact Or.inl a3
  · exact Or.inl a5
  · have := kdW_rng (wd (xf X) (xN X) p)
    omega
  · exact Or.inl a6
  · omega
  · omega
theorem M_sign (hok : okF (xf X)) (hp : p ≤ xN X) (h : TkM t (xf X) (xN X) p) {c : Int} (hc : 0 ≤ c ∧ c < 256) : F_M_isSign c t = some (if kX X p = c then 1 else 0, t) := by
  obtain ⟨h1, h2, h3, h4, h5, h6, h7, h8⟩ := h
  have hk := kd_ge hok hp
  unfold kX at hk ⊢
  unfold F_M_isSign F_M_isSign_20 F_M_isSign_21
  rcases hk with z | z | z | z | z | z
  · exact absurd z h1
  · rw [h4 z, if_neg (by decide), if_neg (by omega)]; rfl
  · have := h7 z.1 z.2
    rw [this.1, if_pos rfl, this.2]
    by_cases e : kd (xf X) (xN X) p = c
    · rw [if_pos e, if_pos e]; rfl
    · rw [if_neg e, if_neg e]; rfl
  · rw [(h5 (by omega) (by omega)).1, if_neg (by decide), if_neg (by omega)]; rfl
  · rw [(h5 (by omega) (by omega)).1, if_neg (by decide), if_neg (by omega)]; rfl
  · rw [(h6 z).1, if_neg (by decide), if_neg (by omega)]; rfl
theorem M_word (hok : okF (xf X)) (hp : p ≤ xN X) (h : TkM t (xf X) (xN X) p) {j : Nat} {w : List Nat} (hw : owL[j]? = some w) {c : Int} (hc : pk8 w = c) : F_M_isWord c t = some (if kX X p = 256 + (j : Int) then 1 else 0, t) := by
  obtain ⟨h1, h2, h3, h4, h5, h6, h7, h8⟩ := h
  have hk := kd_ge hok hp
  have hj : j < 17 := by
    apply Classical.byContradiction
    intro z
    rw [List.getElem?_eq_none (by rw [owL_len]; omega)] at hw
    cases hw
  unfold kX at hk ⊢
  unfold F_M_isWord F_M_isWord_21 F_M_isWord_22
  have word : 256 ≤ kd (xf X) (xN X) p → kd (xf X) (xN X) p ≠ 281 → (if t 0 3 = 1 then (if lcmp (t 0 7) c = 0 then gd ((1 : Int) = 0 ∨ (1 : Int) = 1) (some ((1 : Int), t)) else gd ((0 : Int) = 0 ∨ (0 : Int) = 1) (some ((0 : Int), t))) else gd ((0 : Int) = 0 ∨ (0 : Int) = 1) (some ((0 : Int), t))) = some (if kd (xf X) (xN X) p = 256 + (j : Int) then 1 else 0, t) := by
    intro z1 z2
    obtain ⟨w1, w2, w3⟩ := wd_ok hok hp z1 z2
    have := h5 z1 z2
    have hi := kdW_iff (L := wd (xf X) (xN X) p) hw
    rw [← w3] at hi
    rw [this.1, if_pos rfl, this.2, ← hc]
    by_cases e : wd (xf X) (xN X) p = w
    · rw [if_pos (lcmp_eq.mpr (by rw [e])), if_pos (hi.mpr e)]; rfl
    · rw [if_neg (fun y => e (pk8_inj w2 (owL_dig w (List.mem_of_getElem? hw)) (lcmp_eq.mp y))), if_neg (fun y => e (hi.mp y))]; rfl
  rcases hk with z | z | z | z | z | z
  · exact absurd z h1
  · rw [h4 z, if_neg (by decide), if_neg (by omega)]; rfl
  · rw [(h7 z.1 z.2).1, if_neg (by decide), if_neg (by omega)]; rfl
  · exact word (by omega) (by omega)
  · exact word (by omega) (by omega)
  · rw [(h6 z).1, if_neg (by decide), if_neg (by omega)]; rfl
theorem M_adv (hX : FX X) (hb : byM t (xf X) (xN X)) (hp : p ≤ xN X) (h : TkM t (xf X) (xN X) p) (hk : 0 ≤ kX X p) : wp (F_M_next t) (fun _ u => AtM u (xf X) (xN X) (eX X p) ∧ nxF t u) :=
  M_next hX.1 hb (tok_en hX.1 hp hk).1.2.1 (h.2.2.2.2.2.2.2 hk) h.2.1.1 h.2.1.2
def xmI (i : Nat) : Prop := nxI i ∧ i ≠ 30 ∧ i ≠ 37 ∧ i ≠ 38 ∧ i ≠ 40 ∧ i ≠ 41
def xmF (P : Nat × Nat) (t t' : Hp) : Prop := (∀ q, q ≠ 0 → q < 17 ∨ 24 < q → t' q = t q) ∧ (∀ i, xmI i → t' 0 i = t 0 i) ∧ ∀ i, (i < P.1 ∨ P.2 ≤ i) → t' 17 i = t 17 i ∧ t' 18 i = t 18 i
/-- the cells that its codes may take -/
def xP (X : Cx) : Nat × Nat := (900 * xb X + xd X, 900 * xb X + 900)
variable {P : Nat × Nat}
theorem xmF_rfl : xmF P t t := ⟨fun _ _ _ => rfl, fun _ _ => rfl, fun _ _ => ⟨rfl, rfl⟩⟩
theorem xmF_trans {u v : Hp} (h : xmF P t u) (h2 : xmF P u v) : xmF P t v := ⟨fun q a b => by rw [h2.1 q a b, h.1 q a b], fun i a => by rw [h2.2.1 i a, h.2.1 i a], fun i a => by rw [(h2.2.2 i a).1, (h2.2.2 i a).2]; exact h.2.2 i a⟩
theorem xmF_nx {u : Hp} (h : nxF t u) : xmF P t u := ⟨fun q a _ => h.1 q a, fun i a => h.2 i a.1, fun i _ => by rw [h.1 17 (by decide), h.1 18 (by decide)]; exact ⟨rfl, rfl⟩⟩
theorem xmF_set {u : Hp} (h : xmF P t u) {q i : Nat} {v : Int} (hq : (19 ≤ q ∧ q ≤ 24) ∨ (q = 0 ∧ (i = 30 ∨ i = 37 ∨ i = 38 ∨ i = 40 ∨ i = 41 ∨ (3 ≤ i ∧ i ≤ 9)))) : xmF P t (hset u q i v) := by
  refine ⟨fun q' a b => by rw [hset_obj _ _ _ _ (by omega)]; exact h.1 q' a b, fun j hj => ?_, fun j hj => by rw [hset_obj _ _ _ _ (by omega), hset_obj _ _ _ _ (by omega)]; exact h.2.2 j hj⟩
  unfold xmI nxI at hj
  rw [hset_get, if_neg (by omega)]
  exact h.2.1 j (by unfold xmI nxI; exact hj)
theorem xmF_fl {u : Hp} (h : xmF P t u) {k pl : Int} : xmF P t (flB u k pl) := by
  unfold flB
  split
  · exact xmF_set (xmF_set h (by omega)) (by omega)
  · exact h
theorem xmF_by {u : Hp} {f : Nat → Int} {N : Nat} (h : xmF P t u) (hb : byM t f N) : byM u f N := ⟨by rw [h.2.1 2 (by unfold xmI nxI; decide)]; exact hb.1, hb.2.1, fun k hk => by rw [h.1 1 (by decide) (by omega)]; exact hb.2.2 k hk⟩
/-- nothing of the frames below has changed, nor of the ops below base -/
def lwF (t t' : Hp) (dp base : Nat) : Prop := (∀ j, j + 1 < dp → t' 19 j = t 19 j ∧ t' 20 j = t 20 j ∧ t' 21 j = t 21 j ∧ t' 22 j = t 22 j ∧ t' 23 j = t 23 j) ∧ t' 22 (dp - 1) = t 22 (dp - 1) ∧ ∀ j, j < base → t' 24 j = t 24 j
theorem lwF_rfl {dp base : Nat} : lwF t t dp base := ⟨fun _ _ => ⟨rfl, rfl, rfl, rfl, rfl⟩, rfl, fun _ _ => rfl⟩
theorem lwF_trans {u v : Hp} {dp base : Nat} (h : lwF t u dp base) (h2 : lwF u v dp base) : lwF t v dp base := by
  refine ⟨fun j hj => ?_, by rw [h2.2.1, h.2.1], fun j hj => by rw [h2.2.2 j hj, h.2.2 j hj]⟩
  obtain ⟨a1, a2, a3, a4, a5⟩ := h.1 j hj
  obtain ⟨b1, b2, b3, b4, b5⟩ := h2.1 j hj
  rw [b1, b2, b3, b4, b5]
  exact ⟨a1, a2, a3, a4, a5⟩
/-- the check in a frame: at p, bounds by q, operand or not, its ops held back, what its codes hold -/
def PSw (X : Cx) (t : Hp) (p q opd dp : Nat) (F ph bg : Int) (base : Nat) (B : List FV) (O : List Op) (Xs : List FV) : Prop :=
  TkM t (xf X) (xN X) p ∧ t 0 31 = xb X ∧ (t 0 37 = (dp : Int) ∧ t 0 38 = (dp : Int) - 1 ∧ 1 ≤ dp ∧ dp ≤ 9) ∧ (t 19 (dp - 1) = F ∧ t 20 (dp - 1) = ph ∧ t 21 (dp - 1) = bg ∧ t 23 (dp - 1) = (base : Int)) ∧ (t 0 40 = ((base + O.length : Nat) : Int) ∧ opsA t base O) ∧ (∃ cm : Nat, t 0 30 = (cm : Int) ∧ RM t (xb X) (xW X) (xlQ X) (xd X) cm (wsO B O ++ Xs) ∧ cm + base + O.length ≤ q) ∧ 2 * (base + O.length) + opd ≤ q ∧ p ≤ xN X ∧ q ≤ xN X
def KSt (X : Cx) (tr : Hp) (x : Int) (t : Hp) (p opd dp : Nat) (F ph bg : Int) (base : Nat) (B : List FV) (O : List Op) (Xs : List FV) : Prop :=
  xmF (xP X) (xt X) t ∧ lwF tr t dp base ∧ ((kX X p = -2 ∧ x = 0 ∧ t 0 8 = 1 ∧ t 0 9 = (sX X p : Nat)) ∨ (x = 1 ∧ PSw X t p p opd dp F ph bg base B O Xs ∧ t 0 41 = (opd : Int)))
/-- n rounds of the check's loop -/
def LSt (X : Cx) (n : Nat) (x : Int) (t : Hp) (x' : Int) (t' : Hp) : Prop := ∀ m, F_M_reads_43 (xa X) (m + n) (x, t) = F_M_reads_43 (xa X) m (x', t')
theorem LSt_0 {x : Int} : LSt X 0 x t x t := fun _ => rfl
theorem LSt_trans {n n' : Nat} {x x' x'' : Int} {t' t'' : Hp} (h : LSt X n x t x' t') (h2 : LSt X n' x' t' x'' t'') : LSt X (n + n') x t x'' t'' := fun m => by
  have e : m + (n + n') = (m + n') + n := by omega
  rw [e, h (m + n'), h2 m]
theorem LSt_part {v : Int} {u : Hp} (h41 : t 0 41 = 0) (h : F_M_part t = some (v, u)) (hv : v = 0 ∨ v = 1) : LSt X 1 1 t (if u 0 8 = 0 then 1 else 0) (hset u 0 41 v) := by
  intro m
  unfold F_M_reads_43
  rw [loopF_s]
  dsimp only
  unfold F_M_reads_43_b F_M_reads_70 F_M_reads_85 F_M_reads_86
  have e8 : hset u 0 41 v 0 8 = u 0 8 := by
    rw [hset_get, if_neg]
    intro z
    exact absurd z.2 (by decide)
  rw [if_neg (by decide), if_pos h41, h, cl2_some, gd_pos hv, lt_eq, if_neg (by decide), e8]
  by_cases c : u 0 8 = 0
  · rw [if_pos c, if_pos c]
  · rw [if_neg c, if_neg c]
theorem LSt_goes {v : Int} {u : Hp} (h41 : t 0 41 = 1) (h : F_M_goesOn t = some (v, u)) : LSt X 1 1 t (if v = 0 then 0 else if u 0 8 = 0 then 1 else 0) u := by
  intro m
  unfold F_M_reads_43
  rw [loopF_s]
  dsimp only
  unfold F_M_reads_43_b F_M_reads_70 F_M_reads_85 F_M_reads_86
  rw [if_neg (by decide), if_neg (by omega), h, cl2_some]
  by_cases c0 : v = 0
  · rw [if_pos c0, if_pos c0]
  · rw [if_neg c0, if_neg c0]
    by_cases c : u 0 8 = 0
    · rw [if_pos c, if_pos c]
    · rw [if_neg c, if_neg c]
/-- the check refuses, from p on -/
def FOt (X : Cx) (x : Int) (t : Hp) (p : Nat) (k pl : Int) : Prop := ∃ (n : Nat) (t' : Hp), n + p ≤ xN X + 1 ∧ LSt X n x t 0 t' ∧ t' 0 8 = k ∧ t' 0 9 = pl ∧ 0 < k ∧ xmF (xP X) (xt X) t'
theorem FOt_more {x x' : Int} {t' : Hp} {n p' : Nat} {k pl : Int} (h : LSt X n x t x' t') (hn : n + p ≤ p') (g : FOt X x' t' p' k pl) : FOt X x t p k pl := by
  obtain ⟨m, u, g1, g2, g3⟩ := g
  exact ⟨n + m, u, by omega, LSt_trans h g2, g3⟩
/-- what a value leaves on both sides -/
def SUC (X : Cx) (v : Nat) (r : Int) (ex : Int → Int → FV → Prop) (p e : Nat) (Ws : List FV) (x : Int) (t : Hp) (dp : Nat) (F : Int) (base : Nat) (B : List FV) (O : List Op) (s' : Hp) : Prop :=
  kX X p ≠ -2 ∧ ∃ (p' c' : Nat) (V : FV) (n : Nat) (x' : Int) (t' : Hp) (O1 : List Op) (Xv : FV) (ph' : Int), CSt X s' p' c' (Ws ++ [V]) ∧ c' + e ≤ p' ∧ v + p < p' ∧ n + p ≤ p' ∧ LSt X n x t x' t' ∧ KSt X t x' t' p' 1 dp F ph' 0 base B (O1 ++ O) [Xv] ∧ wfO O1 Xv ∧ fld O1 Xv = V ∧ rkG r O1 ∧ ex ph' (kX X p') V
/-- both read the same: a refusal, or a value -/
def SimR (X : Cx) (G : Hp → Option (Int × Hp)) (r : Int) (ex : Int → Int → FV → Prop) (s : Hp) (p e : Nat) (Ws : List FV) (x : Int) (t : Hp) (dp : Nat) (F : Int) (base : Nat) (B : List FV) (O : List Op) : Prop :=
  wp (G s) (fun z s' => (z = 0 ∧ ∃ k pl, CF X s' k pl ∧ FOt X x t p k pl) ∨ (z = 1 ∧ SUC X 0 r ex p e Ws x t dp F base B O s'))
end Expr
