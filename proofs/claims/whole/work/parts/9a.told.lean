/-! what a text has told so far, on both sides -/
section Told
variable {s t : Hp} {f : Nat → Int} {N cnt nn b p v c cm : Nat} {d : ND}
def RoC (s : Hp) (nn : Nat) (d : ND) (c r : Nat) : Prop := ∃ c0 c1 c2 : Nat, (s (nn + 6) r = (c0 : Int) ∧ s (nn + 7) r = (c1 : Int) ∧ s (nn + 8) r = (c2 : Int) ∧ c2 ≤ c) ∧ RC s nn c0 c1 [sv d r] ∧ (ts d r = true → RC s nn c1 c2 [tv d r]) ∧ (ts d r = false → c1 = c2)
def RoM (t : Hp) (b : Nat) (d : ND) (cm r : Nat) : Prop := ∃ c0 c1 c2 : Nat, (t 10 (30 * b + r) = (c0 : Int) ∧ t 11 (30 * b + r) = (c1 : Int) ∧ t 12 (30 * b + r) = (c1 : Int) ∧ t 13 (30 * b + r) = (c2 : Int) ∧ c2 ≤ cm) ∧ RM t b (dW d) (al d) c0 c1 [sv d r] ∧ (ts d r = true → RM t b (dW d) (al d) c1 c2 [tv d r]) ∧ (ts d r = false → c1 = c2)
def NetB (τ : Hp) (b : Nat) (d : ND) : Prop := b < 2 ∧ τ 2 b = dW d ∧ τ 3 b = dR d ∧ τ 4 b = dT d ∧ τ 5 b = dD d ∧
  (∀ w, w < dW d → τ 7 (12 * b + w) = al d w) ∧ (∀ r, r < dR d → τ 8 (30 * b + r) = fs d r ∧ τ 9 (30 * b + r) = sn d r ∧ τ 14 (30 * b + r) = db d r) ∧
  (∀ a c, a < 12 → c < 12 → τ 15 (144 * b + 12 * a + c) = ta d a c)
theorem NetB.net (h : NetB t b d) (h12 : t 0 12 = b) : NetM t b d := ⟨h.1, h12, h.2⟩
def ToC (s : Hp) (nn : Nat) (d : ND) (v c : Nat) : Prop := NetC s nn d ∧ NamC s nn d ∧ s nn 14 = (c : Int) ∧ s nn 19 = (v : Int) ∧ ∀ r, r < dR d → RoC s nn d c r
def ToM (t : Hp) (b : Nat) (d : ND) (cm : Nat) : Prop := NetB t b d ∧ NamM t b d ∧ t 0 30 = (cm : Int) ∧ t 0 31 = (b : Int) ∧ ∀ r, r < dR d → RoM t b d cm r
def Tol (s t : Hp) (nn b : Nat) : Prop := ∀ i, i < 144 → s (nn + 35) i = t 16 (144 * b + i)
def okD (d : ND) : Prop := NDok d ∧ (∀ w, w < dW d → nmOk (nm d w)) ∧ dT d ≤ 24 ∧ dD d ≤ 24
/-- no doubt of a road that isn't told yet -/
def Zer (s : Hp) (nn : Nat) (d : ND) : Prop := ∀ r, dR d ≤ r → r < 30 → s (nn + 5) r = 0
/-- between two statements, at p -/
def TxI (f : Nat → Int) (N cnt nn b : Nat) (s t : Hp) (d : ND) (v c cm p : Nat) : Prop := (okF f ∧ N ≤ 900 ∧ p ≤ N ∧ b < 2 ∧ isNet nn) ∧ (ScnC s f N cnt ∧ s 3 1 = nn ∧ AtC s f N cnt p) ∧ byM t f N ∧ okD d ∧ (ToC s nn d v c ∧ ToM t b d cm ∧ c ≤ p ∧ cm ≤ p) ∧ Tol s t nn b ∧ TkM t f N p ∧ Zer s nn d
/-- its context -/
def cxT (f : Nat → Int) (N cnt nn b : Nat) (s t : Hp) (d : ND) (c cm : Nat) (a : Int) : Cx := ((f, N, cnt), (nn, b, dW d, al d, nm d), (c, cm), (s, t), a)
theorem TxI.fx (h : TxI f N cnt nn b s t d v c cm p) (a : Int) : FX (cxT f N cnt nn b s t d c cm a) := by
  obtain ⟨⟨h1, h2, h3, h4, h5⟩, ⟨g1, g2, g3⟩, k1, ⟨k2, k3⟩, ⟨⟨c1, c2, c3, c4, c5⟩, ⟨m1, m2, m3, m4, m5⟩, _, _⟩, _, _⟩ := h
  refine ⟨h1, h2, ⟨h5, g1, g2, ⟨c1.2.1, k2.1⟩, fun w hw => ⟨c2 w hw, c1.2.2.2.2.2.1 w hw, (k3.1 w hw).2.2, k2.2.2.2.1 w hw⟩⟩, ⟨h4, k1, m4, m1.2.1, fun w hw => ⟨m2 w hw, m1.2.2.2.2.2.1 w hw⟩⟩⟩
theorem TxI.cs (h : TxI f N cnt nn b s t d v c cm p) (a : Int) : CSt (cxT f N cnt nn b s t d c cm a) s p c [] := by
  obtain ⟨⟨h1, h2, h3, h4, h5⟩, ⟨g1, g2, g3⟩, k1, k2, ⟨⟨c1, c2, c3, c4, c5⟩, _, h6, _⟩, _, _⟩ := h
  exact ⟨exF_rfl, g3, c3, RC_nil (by show c ≤ 900; omega), h3⟩
theorem TxI.ch (h : TxI f N cnt nn b s t d v c cm p) (a : Int) : ChS (cxT f N cnt nn b s t d c cm a) t p := ⟨xmF_rfl, Or.inr h.2.2.2.2.2.2.1⟩
/-- what a text's reading leaves alone: the class -/
def TfC (nn : Nat) (s0 s : Hp) : Prop := (∀ q, q ≠ 3 → (q < nn ∨ nn + 37 < q) → s q = s0 q) ∧ ∀ i, i < 2 ∨ 7 < i → s 3 i = s0 3 i
theorem TfC_rfl : TfC nn s s := ⟨fun _ _ _ => rfl, fun _ _ => rfl⟩
theorem TfC_trans {u w : Hp} (h : TfC nn s u) (h2 : TfC nn u w) : TfC nn s w := ⟨fun q a b => by rw [h2.1 q a b, h.1 q a b], fun i a => by rw [h2.2 i a, h.2 i a]⟩
theorem TfC_ex {u : Hp} {c0 : Nat} (h : exF nn c0 s u) : TfC nn s u := ⟨fun q a b => h.1 q a (by omega) (by omega), fun i a => h.2.1 i (by omega) (by omega) (by omega) (by omega)⟩
theorem TfC_set {u : Hp} (h : TfC nn s u) {q i : Nat} {x : Int} (hn : 3 < nn) (hq : (nn ≤ q ∧ q ≤ nn + 37) ∨ (q = 3 ∧ 2 ≤ i ∧ i ≤ 7)) : TfC nn s (hset u q i x) := ⟨fun q' a b => by rw [hset_obj _ _ _ _ (by omega)]; exact h.1 q' a b, fun j hj => by rw [hset_get, if_neg (by omega)]; exact h.2 j hj⟩
/-- and the check: the other bank's cells too -/
def bkS (q : Nat) : Nat := if q ≤ 5 then 1 else if q ≤ 7 then 12 else if q ≤ 14 then 30 else if q ≤ 16 then 144 else 900
def TfM (b : Nat) (t0 t : Hp) : Prop := (∀ q, q ≠ 0 → (q < 2 ∨ 24 < q) → t q = t0 q) ∧ (∀ i, xmI i → t 0 i = t0 0 i) ∧ ∀ q, 2 ≤ q → q ≤ 18 → ∀ i, (i < bkS q * b ∨ bkS q * b + bkS q ≤ i) → t q i = t0 q i
theorem TfM_rfl : TfM b t t := ⟨fun _ _ _ => rfl, fun _ _ => rfl, fun _ _ _ _ _ => rfl⟩
theorem TfM_trans {u w : Hp} (h : TfM b t u) (h2 : TfM b u w) : TfM b t w := ⟨fun q a b => by rw [h2.1 q a b, h.1 q a b], fun i a => by rw [h2.2.1 i a, h.2.1 i a], fun q a c i hi => by rw [h2.2.2 q a c i hi, h.2.2 q a c i hi]⟩
theorem TfM_xm {u : Hp} {cm : Nat} (h : xmF (900 * b + cm, 900 * b + 900) t u) : TfM b t u := by
  refine ⟨fun q a c => h.1 q a (by omega), h.2.1, fun q a c i hi => ?_⟩
  by_cases c1 : q < 17
  · rw [h.1 q (by omega) (by omega)]
  · have e : bkS q = 900 := by
      unfold bkS
      rw [if_neg (by omega), if_neg (by omega), if_neg (by omega), if_neg (by omega)]
    rw [e] at hi
    have h3 := h.2.2 i (by dsimp only; omega)
    by_cases c2 : q = 17
    · rw [c2]; exact h3.1
    · have : q = 18 := by omega
      rw [this]; exact h3.2
theorem TfM_set {u : Hp} (h : TfM b t u) {q i : Nat} {x : Int} (hq : (2 ≤ q ∧ q ≤ 18 ∧ bkS q * b ≤ i ∧ i < bkS q * b + bkS q) ∨ (19 ≤ q ∧ q ≤ 24) ∨ (q = 0 ∧ (i = 30 ∨ i = 37 ∨ i = 38 ∨ i = 40 ∨ i = 41 ∨ (3 ≤ i ∧ i ≤ 9)))) : TfM b t (hset u q i x) := by
  refine ⟨fun q' a c => by rw [hset_obj _ _ _ _ (by omega)]; exact h.1 q' a c, fun j hj => ?_, fun q' a c j hj => ?_⟩
  · unfold xmI nxI at hj
    rw [hset_get, if_neg (by omega)]
    exact h.2.1 j (by unfold xmI nxI; exact hj)
  · rw [hset_get, if_neg]
    · exact h.2.2 q' a c j hj
    · rintro ⟨e1, e2⟩
      subst e1 e2
      omega
/-- what a statement (of the class, of the check) does: both refuse alike, or both tell alike -/
def Stm (f : Nat → Int) (N cnt nn b : Nat) (s t : Hp) (d : ND) (v p : Nat) (G H : Hp → Option (Int × Hp)) : Prop :=
  ∃ z s' t', G s = some (z, s') ∧ H t = some (0, t') ∧ TfC nn s s' ∧ TfM b t t' ∧ ((z = 0 ∧ ∃ k pl, s' 3 6 = k ∧ s' 3 7 = pl ∧ t' 0 8 = k ∧ t' 0 9 = pl ∧ 0 < k) ∨ (z = 1 ∧ ∃ p', kd f N p' = -2 ∧ AtC s' f N cnt p' ∧ ScnC s' f N cnt ∧ t' 0 8 = 1 ∧ t' 0 9 = (st f N p' : Nat)) ∨ (z = 1 ∧ ∃ d' c' cm' p', TxI f N cnt nn b s' t' d' v c' cm' p' ∧ p < p'))
end Told
