/-! SHARES THAT HOLD: when there are such (twice the most is halves), as numbers X (twice what each has) -/
section Feas
variable {d : ND} {ow : Nat → Int}
theorem ptn_left (hd : NDok d) : ∀ r, r ≤ dR d → ∀ w, w < dW d → (ptn d ow r w = -1 ↔ bt (rwS d ow r).1 w = true)
  | 0, _, w, hw => ⟨fun _ => full_bt hw, fun _ => rfl⟩
  | r + 1, hr, w, hw => by
    have ih := ptn_left hd r (by omega) w hw
    by_cases ht : tkn d ow r
    · have hP := hasP_and.mp ht.1
      have hs := (sub_pr hd (by omega) hP).1
      rw [rwS_t ht]
      show _ ↔ bt ((rwS d ow r).1 - prM d r) w = true
      rw [hs]
      by_cases hm : w = fs d r ∨ w = sn d r
      · rw [ptn_t ht hm]
        constructor
        · intro h; omega
        · intro h
          have h1 := rmv_at.mp h
          have h2 := rmv_at.mp h1.1
          exact absurd hm (fun z => z.elim h2.2 h1.2)
      · rw [ptn_n (fun z => hm z.2), ih]
        constructor
        · exact fun h => rmv_at.mpr ⟨rmv_at.mpr ⟨h, fun z => hm (Or.inl z)⟩, fun z => hm (Or.inr z)⟩
        · exact fun h => (rmv_at.mp (rmv_at.mp h).1).1
    · rw [rwS_n ht, ptn_n (fun z => ht z.1)]
      exact ih
theorem ptn_cases : ∀ (r w : Nat), ptn d ow r w = -1 ∨ ∃ q : Nat, q < r ∧ ptn d ow r w = q ∧ tkn d ow q ∧ (w = fs d q ∨ w = sn d q)
  | 0, _ => Or.inl rfl
  | r + 1, w => by
    by_cases ht : tkn d ow r ∧ (w = fs d r ∨ w = sn d r)
    · exact Or.inr ⟨r, by omega, ptn_t ht.1 ht.2, ht.1, ht.2⟩
    · rw [ptn_n ht]
      rcases ptn_cases r w with h | ⟨q, h1, h2⟩
      · exact Or.inl h
      · exact Or.inr ⟨q, by omega, h2⟩
theorem ptn_tk (hd : NDok d) {q : Nat} (hq : q < dR d) (ht : tkn d ow q) {w : Nat} (hw : w = fs d q ∨ w = sn d q) : ∀ m, q + 1 + m ≤ dR d → ptn d ow (q + 1 + m) w = q
  | 0, _ => ptn_t ht hw
  | m + 1, h => by
    have ih := ptn_tk hd hq ht hw m (by omega)
    have hwW : w < dW d := by
      have := hd.2.2.1 q hq
      rcases hw with e | e <;> rw [e] <;> omega
    rw [show q + 1 + (m + 1) = (q + 1 + m) + 1 by omega]
    by_cases h2 : tkn d ow (q + 1 + m) ∧ (w = fs d (q + 1 + m) ∨ w = sn d (q + 1 + m))
    · exfalso
      have hP := hasP_and.mp h2.1.1
      have hb : bt (rwS d ow (q + 1 + m)).1 w = true := by
        rcases h2.2 with e | e
        · rw [e]; exact hP.1
        · rw [e]; exact hP.2
      have := (ptn_left (ow := ow) hd (q + 1 + m) (by omega) w hwW).mpr hb
      omega
    · rw [ptn_n h2]
      exact ih
theorem ptn_of (hd : NDok d) {q : Nat} (hq : q < dR d) (ht : tkn d ow q) {w : Nat} (hw : w = fs d q ∨ w = sn d q) : ptn d ow (dR d) w = q := by
  have := ptn_tk (ow := ow) hd hq ht hw (dR d - (q + 1)) (by omega)
  rw [show q + 1 + (dR d - (q + 1)) = dR d by omega] at this
  exact this
/-- these two are one of the row's -/
def tk2 (d : ND) (ow : Nat → Int) (a c : Nat) : Prop := ptn d ow (dR d) a = rdO d a c (dR d) ∧ rdO d a c (dR d) ≠ -1
theorem tk2_iff (hd : NDok d) {a c : Nat} : tk2 d ow a c ↔ ∃ q, q < dR d ∧ tkn d ow q ∧ isPr d q a c := by
  constructor
  · rintro ⟨h1, h2⟩
    rcases ptn_cases (d := d) (ow := ow) (dR d) a with h | ⟨q, g1, g2, g3, g4⟩
    · exact absurd (h1.symm.trans h) h2
    · rcases rdO_cases d a c (dR d) with ⟨e1, _⟩ | ⟨p, e1, e2, e3⟩
      · exact absurd e1 h2
      · have : p = q := by omega
        exact ⟨q, g1, g3, this ▸ e3⟩
  · rintro ⟨q, g1, g2, g3⟩
    have e := rdO_of hd g1 g3
    refine ⟨?_, by rw [e]; omega⟩
    rw [e]
    exact ptn_of hd g1 g2 (g3.elim (fun z => Or.inl z.1.symm) (fun z => Or.inr z.2.symm))
theorem tk2_sym (hd : NDok d) {a c : Nat} (h : tk2 d ow a c) : tk2 d ow c a := by
  obtain ⟨q, g1, g2, g3⟩ := (tk2_iff hd).mp h
  exact (tk2_iff hd).mpr ⟨q, g1, g2, isPr_sym g3⟩
noncomputable def tsum (d : ND) (ow : Nat → Int) (y : Nat → Int) : Nat → Int
  | 0 => 0
  | r + 1 => tsum d ow y r + @ite Int (tkn d ow r) (Classical.propDecidable _) (y r) 0
theorem tsum_t {y : Nat → Int} {r : Nat} (h : tkn d ow r) : tsum d ow y (r + 1) = tsum d ow y r + y r := by
  show tsum d ow y r + @ite Int (tkn d ow r) (Classical.propDecidable _) (y r) 0 = _
  rw [if_pos h]
theorem tsum_n {y : Nat → Int} {r : Nat} (h : ¬ tkn d ow r) : tsum d ow y (r + 1) = tsum d ow y r := by
  show tsum d ow y r + @ite Int (tkn d ow r) (Classical.propDecidable _) (y r) 0 = _
  rw [if_neg h, Int.add_zero]
theorem tsum_congr {y z : Nat → Int} : ∀ r, (∀ q, q < r → tkn d ow q → y q = z q) → tsum d ow y r = tsum d ow z r
  | 0, _ => rfl
  | r + 1, h => by
    have ih := tsum_congr r (fun q hq => h q (by omega))
    by_cases ht : tkn d ow r
    · rw [tsum_t ht, tsum_t ht, ih, h r (by omega) ht]
    · rw [tsum_n ht, tsum_n ht, ih]
theorem tsum_nn {y : Nat → Int} : ∀ r, (∀ q, q < r → tkn d ow q → 0 ≤ y q) → 0 ≤ tsum d ow y r ∧ ∀ q, q < r → tkn d ow q → y q ≤ tsum d ow y r
  | 0, _ => ⟨Int.le_refl _, fun q hq => absurd hq (by omega)⟩
  | r + 1, h => by
    have ih := tsum_nn r (fun q hq => h q (by omega))
    by_cases ht : tkn d ow r
    · have h9 := h r (by omega) ht
      rw [tsum_t ht]
      refine ⟨by omega, fun q hq hq2 => ?_⟩
      by_cases e : q = r
      · subst e; omega
      · have := ih.2 q (by omega) hq2
        omega
    · rw [tsum_n ht]
      refine ⟨ih.1, fun q hq hq2 => ?_⟩
      by_cases e : q = r
      · subst e; exact absurd hq2 ht
      · exact ih.2 q (by omega) hq2
theorem tsum_sub {y z : Nat → Int} : ∀ r, tsum d ow (fun q => y q - z q) r = tsum d ow y r - tsum d ow z r
  | 0 => rfl
  | r + 1 => by
    by_cases ht : tkn d ow r
    · rw [tsum_t ht, tsum_t ht, tsum_t ht, tsum_sub r]; omega
    · rw [tsum_n ht, tsum_n ht, tsum_n ht, tsum_sub r]
theorem tsum_2 {y : Nat → Int} : ∀ r, tsum d ow (fun q => 2 * y q) r = 2 * tsum d ow y r
  | 0 => rfl
  | r + 1 => by
    by_cases ht : tkn d ow r
    · rw [tsum_t ht, tsum_t ht, tsum_2 r]; omega
    · rw [tsum_n ht, tsum_n ht, tsum_2 r]
/-- over those left and those of the row -/
def lsum (d : ND) (x : Nat → Int) (l : Nat) : Int := si (dW d) (fun i => if bt l i = true then x i else 0)
theorem lsum_sub (hd : NDok d) (x : Nat → Int) {r l : Nat} (hr : r < dR d) (h : hasP d l r) : lsum d x (l - prM d r) + x (fs d r) + x (sn d r) = lsum d x l := by
  have hp := hd.2.2.1 r hr
  unfold lsum
  rw [(sub_pr hd hr h).1, si_pick (v := fs d r) (f := fun i => if bt l i = true then x i else 0) hp.1, si_pick (v := sn d r) (f := fun u => if u = fs d r then 0 else if bt l u = true then x u else 0) hp.2.1]
  rw [if_neg (c := sn d r = fs d r) (fun z => hp.2.2.1 z.symm), if_pos (c := bt l (fs d r) = true) h.1, if_pos (c := bt l (sn d r) = true) h.2]
  have e : si (dW d) (fun i => if rmv (rmv (bt l) (fs d r)) (sn d r) i = true then x i else 0) = si (dW d) (fun u => if u = sn d r then 0 else if u = fs d r then 0 else if bt l u = true then x u else 0) := by
    apply si_congr
    intro u hu
    by_cases e1 : u = sn d r
    · rw [if_pos e1, if_neg (fun z => (rmv_at.mp z).2 e1)]
    · rw [if_neg e1]
      by_cases e2 : u = fs d r
      · rw [if_pos e2, if_neg (fun z => (rmv_at.mp (rmv_at.mp z).1).2 e2)]
      · rw [if_neg e2]
        by_cases e3 : bt l u = true
        · rw [if_pos e3, if_pos (rmv_at.mpr ⟨rmv_at.mpr ⟨e3, e2⟩, e1⟩)]
        · rw [if_neg e3, if_neg (fun z => e3 (rmv_at.mp (rmv_at.mp z).1).1)]
  rw [e]
  omega
theorem row_sums (hd : NDok d) (x : Nat → Int) : ∀ r, r ≤ dR d → lsum d x (rwS d ow r).1 + tsum d ow (fun q => x (fs d q) + x (sn d q)) r = si (dW d) x ∧ bR d ow 0 (rwS d ow r).1 + tsum d ow (gnd d ow) r = bR d ow 0 (2 ^ dW d - 1)
  | 0, _ => by
    refine ⟨?_, ?_⟩
    · show lsum d x (2 ^ dW d - 1) + 0 = _
      unfold lsum
      rw [Int.add_zero]
      exact si_congr (fun u hu => if_pos (full_bt hu))
    · show bR d ow 0 (2 ^ dW d - 1) + 0 = _
      omega
  | r + 1, hr => by
    have ih := row_sums hd x r (by omega)
    by_cases ht : tkn d ow r
    · have hs := lsum_sub hd x (by omega) (hasP_and.mp ht.1)
      have h3 := ht.2.2
      rw [tsum_t ht, tsum_t ht, rwS_t ht]
      show lsum d x ((rwS d ow r).1 - prM d r) + _ = _ ∧ bR d ow 0 ((rwS d ow r).1 - prM d r) + _ = _
      exact ⟨by omega, by omega⟩
    · rw [tsum_n ht, tsum_n ht, rwS_n ht]
      exact ih
theorem bR_end (hd : NDok d) : bR d ow 0 (rwS d ow (dR d)).1 = 0 := by
  have ok := rwS_ok (ow := ow) hd (dR d) (Nat.le_refl _)
  rw [← bR_late (ow := ow) hd ok.1 (dR d) (Nat.le_refl _) ok.2]
  have t := bR_top d ow (dR d) ok.1
  have g0 : ∀ a c, gab d ow (dR d) a c = 0 := fun a c => by
    unfold gab
    rw [if_pos (rdO_rng).2]
  have z0 : ∀ n (S : Nat → Bool) k, Nm (gab d ow (dR d)) n S k = if k = 0 then 1 else 0 := by
    intro n
    induction n with
    | zero => intro S k; rfl
    | succ n ih =>
      intro S k
      by_cases q : S n = true
      · rw [Nm_in q, ih, sm_zero (fun u _ => if_neg (fun z => by have := z.2; rw [g0] at this; omega))]
        omega
      · rw [Nm_out q, ih]
  have h := t.1
  rw [z0] at h
  by_cases e : bR d ow (dR d) (rwS d ow (dR d)).1 = 0
  · exact e
  · rw [if_neg e] at h
    exact absurd rfl h
def feasX (d : ND) (ow : Nat → Int) (X : Nat → Int) : Prop := (∀ w, w < dW d → 2 * al d w ≤ X w ∧ (ptn d ow (dR d) w = -1 → X w = 2 * al d w)) ∧ ∀ r, r < dR d → ow r ≠ -1 → 2 * mkd d ow r ≤ X (fs d r) + X (sn d r) ∧ (tkn d ow r → X (fs d r) + X (sn d r) = 2 * mkd d ow r)
theorem tkn_open {r : Nat} (h : tkn d ow r) : ow r ≠ -1 ∧ gnd d ow r = mkd d ow r - al d (fs d r) - al d (sn d r) := by
  have h2 := h.2.1
  unfold gnd at h2 ⊢
  by_cases e : ow r = -1
  · rw [if_pos e] at h2; omega
  · rw [if_neg e] at h2 ⊢
    exact ⟨e, by omega⟩
theorem feas_of_cert (hd : NDok d) {v : Int} (hc : cert (dW d) (gpd d ow) v) (h : 2 * bR d ow 0 (2 ^ dW d - 1) = v) : ∃ X, feasX d ow X ∧ ∀ w, w < dW d → X w ≤ 2 * al d w + v := by
  obtain ⟨_, U, V, hUV, hs⟩ := hc
  have pair : ∀ a c, a < dW d → c < dW d → 2 * gpd d ow a c ≤ (U a + V a) + (U c + V c) := fun a c ha hc => by
    have h1 := hUV a c ha hc
    have h2 := hUV c a hc ha
    rw [gpd_sym] at h2
    omega
  have nn : ∀ a, a < dW d → 0 ≤ U a + V a := fun a ha => by
    have := hUV a a ha ha
    rw [gpd_self hd] at this
    exact this
  have rs := row_sums (ow := ow) hd (fun i => U i + V i) (dR d) (Nat.le_refl _)
  rw [bR_end hd, si_add, hs] at rs
  have ts : tsum d ow (fun q => (U (fs d q) + V (fs d q)) + (U (sn d q) + V (sn d q)) - 2 * gnd d ow q) (dR d) = tsum d ow (fun q => (U (fs d q) + V (fs d q)) + (U (sn d q) + V (sn d q))) (dR d) - 2 * tsum d ow (gnd d ow) (dR d) := by
    rw [tsum_sub, tsum_2]
  have te := tsum_nn (d := d) (ow := ow) (y := fun q => (U (fs d q) + V (fs d q)) + (U (sn d q) + V (sn d q)) - 2 * gnd d ow q) (dR d) (fun q hq ht => by
    have hp := hd.2.2.1 q hq
    have := pair _ _ hp.1 hp.2.1
    rw [gpd_of hd ow hq (Or.inl ⟨rfl, rfl⟩)] at this
    show 0 ≤ (U (fs d q) + V (fs d q)) + (U (sn d q) + V (sn d q)) - 2 * gnd d ow q
    omega)
  have lnn : 0 ≤ lsum d (fun i => U i + V i) (rwS d ow (dR d)).1 := si_nn (fun u hu => by
    show 0 ≤ if bt (rwS d ow (dR d)).1 u = true then U u + V u else 0
    split
    · exact nn u hu
    · omega)
  have l0 : lsum d (fun i => U i + V i) (rwS d ow (dR d)).1 = 0 := by omega
  refine ⟨fun i => 2 * al d i + (U i + V i), ⟨fun w hw => ⟨?_, fun hpt => ?_⟩, fun r hr ho => ⟨?_, fun ht => ?_⟩⟩, fun w hw => ?_⟩
  · have := nn w hw
    show 2 * al d w ≤ 2 * al d w + (U w + V w)
    omega
  · have hb := (ptn_left (ow := ow) hd (dR d) (Nat.le_refl _) w hw).mp hpt
    unfold lsum at l0
    rw [si_pick (v := w) hw, if_pos hb] at l0
    change (U w + V w) + si (dW d) (fun u => if u = w then 0 else if bt (rwS d ow (dR d)).1 u = true then U u + V u else 0) = 0 at l0
    have h1 := nn w hw
    have h2 : 0 ≤ si (dW d) (fun u => if u = w then 0 else if bt (rwS d ow (dR d)).1 u = true then U u + V u else 0) := si_nn (fun u hu => by
      show 0 ≤ if u = w then 0 else if bt (rwS d ow (dR d)).1 u = true then U u + V u else 0
      split
      · omega
      · split
        · exact nn u hu
        · omega)
    show 2 * al d w + (U w + V w) = 2 * al d w
    omega
  · have hp := hd.2.2.1 r hr
    have h1 := pair _ _ hp.1 hp.2.1
    rw [gpd_of hd ow hr (Or.inl ⟨rfl, rfl⟩)] at h1
    have h2 : mkd d ow r - al d (fs d r) - al d (sn d r) ≤ gnd d ow r := by
      unfold gnd
      rw [if_neg ho]
      omega
    show 2 * mkd d ow r ≤ 2 * al d (fs d r) + (U (fs d r) + V (fs d r)) + (2 * al d (sn d r) + (U (sn d r) + V (sn d r)))
    omega
  · have h1 := te.2 r hr ht
    have h2 := te.1
    have h3 : (U (fs d r) + V (fs d r)) + (U (sn d r) + V (sn d r)) - 2 * gnd d ow r ≤ tsum d ow (fun q => (U (fs d q) + V (fs d q)) + (U (sn d q) + V (sn d q)) - 2 * gnd d ow q) (dR d) := h1
    have hp := hd.2.2.1 r hr
    have h4 := pair _ _ hp.1 hp.2.1
    rw [gpd_of hd ow hr (Or.inl ⟨rfl, rfl⟩)] at h4
    have h5 := (tkn_open ht).2
    show 2 * al d (fs d r) + (U (fs d r) + V (fs d r)) + (2 * al d (sn d r) + (U (sn d r) + V (sn d r))) = 2 * mkd d ow r
    omega
  · have h9 : U w + V w ≤ v := by
      rw [← hs, ← si_add, si_pick (v := w) hw]
      have h2 : 0 ≤ si (dW d) (fun u => if u = w then 0 else U u + V u) := si_nn (fun u hu => by
        show 0 ≤ if u = w then 0 else U u + V u
        split
        · omega
        · exact nn u hu)
      omega
    show 2 * al d w + (U w + V w) ≤ 2 * al d w + v
    omega
theorem cert_of_feas (hd : NDok d) {v : Int} (hc : cert (dW d) (gpd d ow) v) {X : Nat → Int} (hX : feasX d ow X) : 2 * bR d ow 0 (2 ^ dW d - 1) = v := by
  obtain ⟨⟨p, hp, hv⟩, U, V, hUV, hs⟩ := hc
  have nn : ∀ w, w < dW d → 0 ≤ X w - 2 * al d w := fun w hw => by
    have := (hX.1 w hw).1
    omega
  have pair : ∀ a c, a < dW d → c < dW d → 2 * gpd d ow a c ≤ (X a - 2 * al d a) + (X c - 2 * al d c) := fun a c ha hc => by
    have h1 := nn a ha
    have h2 := nn c hc
    rcases rdO_cases d a c (dR d) with ⟨e1, _⟩ | ⟨q, e1, e2, e3⟩
    · unfold gpd
      rw [if_pos e1]
      omega
    · rw [gpd_of hd ow e1 e3]
      unfold gnd
      by_cases ho : ow q = -1
      · rw [if_pos ho]; omega
      · rw [if_neg ho]
        have h3 := (hX.2 q e1 ho).1
        rcases e3 with ⟨q1, q2⟩ | ⟨q1, q2⟩
        · rw [q1, q2] at h3 ⊢
          omega
        · rw [q1, q2] at h3 ⊢
          omega
  -- the row's sum
  have rs := row_sums (ow := ow) hd (fun i => X i - 2 * al d i) (dR d) (Nat.le_refl _)
  rw [bR_end hd] at rs
  have l0 : lsum d (fun i => X i - 2 * al d i) (rwS d ow (dR d)).1 = 0 := by
    unfold lsum
    rw [si_congr (f' := fun _ => 0) (fun u hu => ?_), si_const]
    · simp
    · by_cases hb : bt (rwS d ow (dR d)).1 u = true
      · have := (hX.1 u hu).2 ((ptn_left (ow := ow) hd (dR d) (Nat.le_refl _) u hu).mpr hb)
        rw [if_pos hb]
        show X u - 2 * al d u = 0
        omega
      · rw [if_neg hb]
  have t2 : tsum d ow (fun q => (X (fs d q) - 2 * al d (fs d q)) + (X (sn d q) - 2 * al d (sn d q))) (dR d) = 2 * tsum d ow (gnd d ow) (dR d) := by
    rw [← tsum_2]
    refine tsum_congr (dR d) (fun q hq ht => ?_)
    have h1 := tkn_open ht
    have h2 := (hX.2 q hq h1.1).2 ht
    omega
  have tot : si (dW d) (fun i => X i - 2 * al d i) = 2 * bR d ow 0 (2 ^ dW d - 1) := by
    have r1 := rs.1
    have r2 := rs.2
    rw [l0] at r1
    have r1 : 0 + tsum d ow (fun q => (X (fs d q) - 2 * al d (fs d q)) + (X (sn d q) - 2 * al d (sn d q))) (dR d) = si (dW d) (fun i => X i - 2 * al d i) := r1
    omega
  have up : 2 * v ≤ 2 * (2 * bR d ow 0 (2 ^ dW d - 1)) := by
    have e1 : 2 * v = si (dW d) (fun j => gpd d ow (p j) j + gpd d ow (p j) j) := by rw [si_add, ← hv]; omega
    have e2 := si_le (n := dW d) (f := fun j => gpd d ow (p j) j + gpd d ow (p j) j) (f' := fun j => (X (p j) - 2 * al d (p j)) + (X j - 2 * al d j)) (fun j hj => by
      have := pair (p j) j (hp.1 j hj) hj
      show gpd d ow (p j) j + gpd d ow (p j) j ≤ _
      omega)
    rw [← e1, si_add (f := fun j => X (p j) - 2 * al d (p j)) (f' := fun j => X j - 2 * al d j), si_perm hp (fun i => X i - 2 * al d i), tot] at e2
    omega
  -- no less: the prices over the row
  have nn2 : ∀ a, a < dW d → 0 ≤ U a + V a := fun a ha => by
    have := hUV a a ha ha
    rw [gpd_self hd] at this
    exact this
  have rs2 := row_sums (ow := ow) hd (fun i => U i + V i) (dR d) (Nat.le_refl _)
  rw [bR_end hd, si_add, hs] at rs2
  have te := tsum_nn (d := d) (ow := ow) (y := fun q => (U (fs d q) + V (fs d q)) + (U (sn d q) + V (sn d q)) - 2 * gnd d ow q) (dR d) (fun q hq ht => by
    have hp9 := hd.2.2.1 q hq
    have h1 := hUV _ _ hp9.1 hp9.2.1
    have h2 := hUV _ _ hp9.2.1 hp9.1
    rw [gpd_of hd ow hq (Or.inl ⟨rfl, rfl⟩)] at h1
    rw [gpd_of hd ow hq (Or.inr ⟨rfl, rfl⟩)] at h2
    show 0 ≤ (U (fs d q) + V (fs d q)) + (U (sn d q) + V (sn d q)) - 2 * gnd d ow q
    omega)
  have ts : tsum d ow (fun q => (U (fs d q) + V (fs d q)) + (U (sn d q) + V (sn d q)) - 2 * gnd d ow q) (dR d) = tsum d ow (fun q => (U (fs d q) + V (fs d q)) + (U (sn d q) + V (sn d q))) (dR d) - 2 * tsum d ow (gnd d ow) (dR d) := by
    rw [tsum_sub, tsum_2]
  have lnn : 0 ≤ lsum d (fun i => U i + V i) (rwS d ow (dR d)).1 := si_nn (fun u hu => by
    show 0 ≤ if bt (rwS d ow (dR d)).1 u = true then U u + V u else 0
    split
    · exact nn2 u hu
    · omega)
  have h9 := te.1
  have r3 := rs2.1
  have r4 := rs2.2
  have r3 : lsum d (fun i => U i + V i) (rwS d ow (dR d)).1 + tsum d ow (fun q => (U (fs d q) + V (fs d q)) + (U (sn d q) + V (sn d q))) (dR d) = v := r3
  omega
end Feas
