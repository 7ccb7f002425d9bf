/-! BOUNDS: the class's (above alone, on roads with a gain) and the check's (on all open roads) come to the same -/
def bar (u : Nat) : Nat := if u % 2 = 0 then u + 1 else u - 1
theorem bar_lt {u n : Nat} (h : u < 2 * n) : bar u < 2 * n := by
  unfold bar
  split <;> omega
theorem bar_bar (u : Nat) : bar (bar u) = u := by
  unfold bar
  split
  · rw [if_neg (by omega)]; omega
  · rw [if_pos (by omega)]; omega
theorem bar_e (a : Nat) : bar (2 * a) = 2 * a + 1 := by
  unfold bar
  rw [if_pos (by omega)]
theorem bar_o (a : Nat) : bar (2 * a + 1) = 2 * a := by
  unfold bar
  rw [if_neg (by omega)]
  omega
def I1 : Int := 1000000000
def I2 : Int := 1000000000000
theorem I1_v : I1 = 1000000000 := rfl
theorem I2_v : I2 = 1000000000000 := rfl
noncomputable def wC (d : ND) (ow : Nat → Int) (u v : Nat) : Int :=
  if u / 2 = v / 2 then (if u % 2 = v % 2 then 0 else if u % 2 = 1 then 0 else if ptn d ow (dR d) (u / 2) = -1 then 0 else I1)
  else if u % 2 = 1 ∧ v % 2 = 0 then (if 0 < gpd d ow (u / 2) (v / 2) then -gpd d ow (u / 2) (v / 2) else I1)
  else if u % 2 = 0 ∧ v % 2 = 1 ∧ ptn d ow (dR d) (u / 2) = rdO d (u / 2) (v / 2) (dR d) ∧ rdO d (u / 2) (v / 2) (dR d) ≠ -1 then gpd d ow (u / 2) (v / 2) else I1
noncomputable def wM (d : ND) (ow : Nat → Int) (f t : Nat) : Int :=
  if f = t then 0 else if dW d ≤ f / 2 ∨ dW d ≤ t / 2 then I2
  else if f / 2 = t / 2 then (if f % 2 = 0 then -2 * al d (f / 2) else if ptn d ow (dR d) (f / 2) = -1 then 2 * al d (f / 2) else I2)
  else if f % 2 = 0 ∧ t % 2 = 1 then (if rdO d (f / 2) (t / 2) (dR d) ≠ -1 ∧ ow (rdO d (f / 2) (t / 2) (dR d)).toNat ≠ -1 then -mkd d ow (rdO d (f / 2) (t / 2) (dR d)).toNat else I2)
  else if f % 2 = 1 ∧ t % 2 = 0 ∧ ptn d ow (dR d) (f / 2) = rdO d (f / 2) (t / 2) (dR d) ∧ rdO d (f / 2) (t / 2) (dR d) ≠ -1 then mkd d ow (rdO d (f / 2) (t / 2) (dR d)).toNat else I2
noncomputable def D1 (d : ND) (ow : Nat → Int) : Nat → Nat → Int := FWn I1 (wC d ow) (2 * dW d)
noncomputable def D2 (d : ND) (ow : Nat → Int) : Nat → Nat → Int := FWn I2 (wM d ow) 24
def sh (d : ND) (u : Nat) : Int := if u % 2 = 0 then al d (u / 2) else -al d (u / 2)
section Graph
variable {d : ND} {ow : Nat → Int}
theorem sh_e (a : Nat) : sh d (2 * a) = al d a := by
  unfold sh
  rw [if_pos (by omega), show 2 * a / 2 = a by omega]
theorem sh_o (a : Nat) : sh d (2 * a + 1) = -al d a := by
  unfold sh
  rw [if_neg (by omega), show (2 * a + 1) / 2 = a by omega]
theorem wC_oe (a c : Nat) : wC d ow (2 * a + 1) (2 * c) = if a = c then 0 else if 0 < gpd d ow a c then -gpd d ow a c else I1 := by
  unfold wC
  rw [show (2 * a + 1) / 2 = a by omega, show 2 * c / 2 = c by omega, show (2 * a + 1) % 2 = 1 by omega, show 2 * c % 2 = 0 by omega]
  by_cases h : a = c
  · rw [if_pos h, if_pos h, if_neg (by decide), if_pos rfl]
  · rw [if_neg h, if_neg h, if_pos ⟨rfl, rfl⟩]
theorem wC_eo (a c : Nat) : wC d ow (2 * a) (2 * c + 1) = if a = c then (if ptn d ow (dR d) a = -1 then 0 else I1) else if ptn d ow (dR d) a = rdO d a c (dR d) ∧ rdO d a c (dR d) ≠ -1 then gpd d ow a c else I1 := by
  unfold wC
  rw [show (2 * c + 1) / 2 = c by omega, show 2 * a / 2 = a by omega, show (2 * c + 1) % 2 = 1 by omega, show 2 * a % 2 = 0 by omega]
  by_cases h : a = c
  · rw [if_pos h, if_pos h, if_neg (by decide), if_neg (by decide)]
  · rw [if_neg h, if_neg h, if_neg (by decide)]
    by_cases h2 : ptn d ow (dR d) a = rdO d a c (dR d) ∧ rdO d a c (dR d) ≠ -1
    · rw [if_pos ⟨rfl, rfl, h2⟩, if_pos h2]
    · rw [if_neg (fun z => h2 z.2.2), if_neg h2]
theorem wC_ee (a c : Nat) : wC d ow (2 * a) (2 * c) = if a = c then 0 else I1 := by
  unfold wC
  rw [show 2 * a / 2 = a by omega, show 2 * c / 2 = c by omega, show 2 * a % 2 = 0 by omega, show 2 * c % 2 = 0 by omega]
  by_cases h : a = c
  · rw [if_pos h, if_pos h, if_pos rfl]
  · rw [if_neg h, if_neg h, if_neg (by decide), if_neg (fun z => absurd z.2.1 (by decide))]
theorem wC_oo (a c : Nat) : wC d ow (2 * a + 1) (2 * c + 1) = if a = c then 0 else I1 := by
  unfold wC
  rw [show (2 * a + 1) / 2 = a by omega, show (2 * c + 1) / 2 = c by omega, show (2 * a + 1) % 2 = 1 by omega, show (2 * c + 1) % 2 = 1 by omega]
  by_cases h : a = c
  · rw [if_pos h, if_pos h, if_pos rfl]
  · rw [if_neg h, if_neg h, if_neg (by decide), if_neg (fun z => absurd z.1 (by decide))]
theorem wM_eo {a c : Nat} (ha : a < dW d) (hc : c < dW d) : wM d ow (2 * a) (2 * c + 1) = if a = c then -2 * al d a else if rdO d a c (dR d) ≠ -1 ∧ ow (rdO d a c (dR d)).toNat ≠ -1 then -mkd d ow (rdO d a c (dR d)).toNat else I2 := by
  unfold wM
  rw [show (2 * c + 1) / 2 = c by omega, show 2 * a / 2 = a by omega, show (2 * c + 1) % 2 = 1 by omega, show 2 * a % 2 = 0 by omega, if_neg (by omega), if_neg (by omega)]
  by_cases h : a = c
  · rw [if_pos h, if_pos h, if_pos rfl]
  · rw [if_neg h, if_neg h, if_pos ⟨rfl, rfl⟩]
theorem wM_oe {a c : Nat} (ha : a < dW d) (hc : c < dW d) : wM d ow (2 * a + 1) (2 * c) = if a = c then (if ptn d ow (dR d) a = -1 then 2 * al d a else I2) else if ptn d ow (dR d) a = rdO d a c (dR d) ∧ rdO d a c (dR d) ≠ -1 then mkd d ow (rdO d a c (dR d)).toNat else I2 := by
  unfold wM
  rw [show (2 * a + 1) / 2 = a by omega, show 2 * c / 2 = c by omega, show (2 * a + 1) % 2 = 1 by omega, show 2 * c % 2 = 0 by omega, if_neg (by omega), if_neg (by omega)]
  by_cases h : a = c
  · rw [if_pos h, if_pos h, if_neg (by decide)]
  · rw [if_neg h, if_neg h, if_neg (by decide)]
    by_cases h2 : ptn d ow (dR d) a = rdO d a c (dR d) ∧ rdO d a c (dR d) ≠ -1
    · rw [if_pos ⟨rfl, rfl, h2⟩, if_pos h2]
    · rw [if_neg (fun z => h2 z.2.2), if_neg h2]
theorem wM_ee {a c : Nat} (h : a ≠ c) : wM d ow (2 * a) (2 * c) = I2 := by
  unfold wM
  rw [if_neg (by omega)]
  split
  · rfl
  · rw [if_neg (by omega), if_neg (by omega), if_neg (by omega)]
theorem wM_oo {a c : Nat} (h : a ≠ c) : wM d ow (2 * a + 1) (2 * c + 1) = I2 := by
  unfold wM
  rw [if_neg (by omega)]
  split
  · rfl
  · rw [if_neg (by omega), if_neg (by omega), if_neg (by omega)]
theorem node (u : Nat) : ∃ a, u = 2 * a ∨ u = 2 * a + 1 := ⟨u / 2, by omega⟩
/-- an edge of the row, as its road -/
theorem tk2_val (hd : NDok d) {a c : Nat} (h : ptn d ow (dR d) a = rdO d a c (dR d) ∧ rdO d a c (dR d) ≠ -1) : ∃ q, q < dR d ∧ rdO d a c (dR d) = q ∧ tkn d ow q ∧ isPr d q a c ∧ gpd d ow a c = gnd d ow q ∧ 0 < gnd d ow q ∧ ow q ≠ -1 ∧ gnd d ow q = mkd d ow q - al d a - al d c := by
  obtain ⟨q, g1, g2, g3⟩ := (tk2_iff hd).mp h
  have o := tkn_open g2
  refine ⟨q, g1, rdO_of hd g1 g3, g2, g3, gpd_of hd ow g1 g3, g2.2.1, o.1, ?_⟩
  rw [o.2]
  rcases g3 with ⟨e1, e2⟩ | ⟨e1, e2⟩
  · rw [e1, e2]
  · rw [e1, e2]; omega
theorem gpd_pos_val {a c : Nat} (h : 0 < gpd d ow a c) : ∃ q : Nat, q < dR d ∧ rdO d a c (dR d) = q ∧ isPr d q a c ∧ ow q ≠ -1 ∧ gpd d ow a c = mkd d ow q - al d a - al d c := by
  unfold gpd at h ⊢
  rcases rdO_cases d a c (dR d) with ⟨e1, _⟩ | ⟨q, e1, e2, e3⟩
  · rw [if_pos e1] at h; omega
  · rw [e2, if_neg (by omega)] at h ⊢
    have h : 0 < gnd d ow q := h
    show ∃ q' : Nat, q' < dR d ∧ (q : Int) = q' ∧ isPr d q' a c ∧ ow q' ≠ -1 ∧ gnd d ow q = _
    refine ⟨q, e1, rfl, e3, ?_, ?_⟩
    · intro z
      unfold gnd at h
      rw [if_pos z] at h
      omega
    · unfold gnd at h ⊢
      by_cases z : ow q = -1
      · rw [if_pos z] at h; omega
      · rw [if_neg z] at h ⊢
        rcases e3 with ⟨e1, e2⟩ | ⟨e1, e2⟩
        · rw [e1, e2] at h ⊢; omega
        · rw [e1, e2] at h ⊢; omega
theorem wC_rng (hd : NDok d) (ho : owOk d ow) (u v : Nat) : -119998 ≤ wC d ow u v ∧ wC d ow u v ≤ I1 ∧ (wC d ow u v < I1 → wC d ow u v ≤ 119998) := by
  have h := gpd_rng hd ho (u / 2) (v / 2)
  unfold wC I1
  split
  · split
    · omega
    · split
      · omega
      · split <;> omega
  · split
    · split <;> omega
    · split <;> omega
theorem wM_rng (hd : NDok d) (ho : owOk d ow) (f t : Nat) : -119998 ≤ wM d ow f t ∧ wM d ow f t ≤ I2 ∧ (wM d ow f t < I2 → wM d ow f t ≤ 119998) := by
  unfold wM I2
  split
  · omega
  · split
    · omega
    · rename_i hW
      have ha := hd.2.2.2.1 (f / 2) (by omega)
      have h9 := rdO_rng (d := d) (a := f / 2) (c := t / 2)
      split
      · split
        · omega
        · split <;> omega
      · split
        · split
          · rename_i c
            have := mkd_rng hd ho (r := (rdO d (f / 2) (t / 2) (dR d)).toNat) (by omega)
            omega
          · omega
        · split
          · rename_i c
            have := mkd_rng hd ho (r := (rdO d (f / 2) (t / 2) (dR d)).toNat) (by omega)
            omega
          · omega
/-- shares that hold lie below the class's edges -/
theorem pot1 (hd : NDok d) {X : Nat → Int} (hX : feasX d ow X) {u v : Nat} (hu : u < 2 * dW d) (hv : v < 2 * dW d) (h : wC d ow u v < I1) :
    (if u % 2 = 0 then X (u / 2) - 2 * al d (u / 2) else -(X (u / 2) - 2 * al d (u / 2))) - (if v % 2 = 0 then X (v / 2) - 2 * al d (v / 2) else -(X (v / 2) - 2 * al d (v / 2))) ≤ 2 * wC d ow u v := by
  obtain ⟨a, ea⟩ := node u
  obtain ⟨c, ec⟩ := node v
  have Xa := hX.1 a (by omega)
  have Xc := hX.1 c (by omega)
  have se : ∀ x : Nat, 2 * x % 2 = 0 ∧ (2 * x + 1) % 2 ≠ 0 ∧ 2 * x / 2 = x ∧ (2 * x + 1) / 2 = x := fun x => by omega
  rcases ea with rfl | rfl <;> rcases ec with rfl | rfl
  · rw [if_pos (se a).1, if_pos (se c).1, (se a).2.2.1, (se c).2.2.1]
    rw [wC_ee] at h ⊢
    by_cases e : a = c
    · subst e; rw [if_pos rfl]; omega
    · rw [if_neg e] at h; omega
  · rw [if_pos (se a).1, if_neg (se c).2.1, (se a).2.2.1, (se c).2.2.2]
    rw [wC_eo] at h ⊢
    by_cases e : a = c
    · subst e
      rw [if_pos rfl] at h ⊢
      by_cases e2 : ptn d ow (dR d) a = -1
      · rw [if_pos e2]
        have := Xa.2 e2
        omega
      · rw [if_neg e2] at h; omega
    · rw [if_neg e] at h ⊢
      by_cases e2 : ptn d ow (dR d) a = rdO d a c (dR d) ∧ rdO d a c (dR d) ≠ -1
      · rw [if_pos e2]
        obtain ⟨q, g1, g2, g3, g4, g5, g6, g7, g8⟩ := tk2_val hd e2
        have h9 := (hX.2 q g1 g7).2 g3
        rw [g5, g8]
        rcases g4 with ⟨q1, q2⟩ | ⟨q1, q2⟩ <;> rw [q1, q2] at h9 <;> omega
      · rw [if_neg e2] at h; omega
  · rw [if_neg (se a).2.1, if_pos (se c).1, (se a).2.2.2, (se c).2.2.1]
    rw [wC_oe] at h ⊢
    by_cases e : a = c
    · subst e; rw [if_pos rfl]; omega
    · rw [if_neg e] at h ⊢
      by_cases e2 : 0 < gpd d ow a c
      · rw [if_pos e2]
        obtain ⟨q, g1, g2, g3, g4, g5⟩ := gpd_pos_val e2
        have h9 := (hX.2 q g1 g4).1
        rw [g5]
        rcases g3 with ⟨q1, q2⟩ | ⟨q1, q2⟩ <;> rw [q1, q2] at h9 <;> omega
      · rw [if_neg e2] at h; omega
  · rw [if_neg (se a).2.1, if_neg (se c).2.1, (se a).2.2.2, (se c).2.2.2]
    rw [wC_oo] at h ⊢
    by_cases e : a = c
    · subst e; rw [if_pos rfl]; omega
    · rw [if_neg e] at h; omega
def Y2 (d : ND) (X : Nat → Int) (u : Nat) : Int := if 2 * dW d ≤ u then 0 else if u % 2 = 0 then X (u / 2) else -X (u / 2)
theorem Y2_e {X : Nat → Int} {a : Nat} (h : a < dW d) : Y2 d X (2 * a) = X a := by
  unfold Y2
  rw [if_neg (by omega), if_pos (by omega), show 2 * a / 2 = a by omega]
theorem Y2_o {X : Nat → Int} {a : Nat} (h : a < dW d) : Y2 d X (2 * a + 1) = -X a := by
  unfold Y2
  rw [if_neg (by omega), if_neg (by omega), show (2 * a + 1) / 2 = a by omega]
theorem pot2 (hd : NDok d) {X : Nat → Int} (hX : feasX d ow X) {f t : Nat} (h : wM d ow f t < I2) : Y2 d X t - Y2 d X f ≤ 2 * wM d ow f t := by
  by_cases eft : f = t
  · subst eft
    unfold wM
    rw [if_pos rfl]
    omega
  · obtain ⟨a, ea⟩ := node f
    obtain ⟨c, ec⟩ := node t
    have hW : ¬ (dW d ≤ f / 2 ∨ dW d ≤ t / 2) := fun z => by
      unfold wM at h
      rw [if_neg eft, if_pos z] at h
      omega
    have ha : a < dW d := by omega
    have hc : c < dW d := by omega
    have Xa := hX.1 a ha
    have Xc := hX.1 c hc
    rcases ea with rfl | rfl <;> rcases ec with rfl | rfl
    · rw [wM_ee (by omega)] at h; omega
    · rw [Y2_e ha, Y2_o hc]
      rw [wM_eo ha hc] at h ⊢
      by_cases e : a = c
      · subst e; rw [if_pos rfl]; omega
      · rw [if_neg e] at h ⊢
        by_cases e2 : rdO d a c (dR d) ≠ -1 ∧ ow (rdO d a c (dR d)).toNat ≠ -1
        · rw [if_pos e2]
          rcases rdO_cases d a c (dR d) with ⟨e1, _⟩ | ⟨q, e1, e3, e4⟩
          · exact absurd e1 e2.1
          · rw [e3] at e2 ⊢
            have h9 := (hX.2 q e1 e2.2).1
            show -X c - X a ≤ 2 * -mkd d ow q
            rcases e4 with ⟨q1, q2⟩ | ⟨q1, q2⟩ <;> rw [q1, q2] at h9 <;> omega
        · rw [if_neg e2] at h; omega
    · rw [Y2_o ha, Y2_e hc]
      rw [wM_oe ha hc] at h ⊢
      by_cases e : a = c
      · subst e
        rw [if_pos rfl] at h ⊢
        by_cases e2 : ptn d ow (dR d) a = -1
        · rw [if_pos e2]
          have := Xa.2 e2
          omega
        · rw [if_neg e2] at h; omega
      · rw [if_neg e] at h ⊢
        by_cases e2 : ptn d ow (dR d) a = rdO d a c (dR d) ∧ rdO d a c (dR d) ≠ -1
        · rw [if_pos e2]
          obtain ⟨q, g1, g2, g3, g4, g5, g6, g7, g8⟩ := tk2_val hd e2
          have h9 := (hX.2 q g1 g7).2 g3
          rw [g2]
          show X c - -X a ≤ 2 * mkd d ow q
          rcases g4 with ⟨q1, q2⟩ | ⟨q1, q2⟩ <;> rw [q1, q2] at h9 <;> omega
        · rw [if_neg e2] at h; omega
    · rw [wM_oo (by omega)] at h; omega
theorem wC_self (u : Nat) : wC d ow u u = 0 := by
  unfold wC
  rw [if_pos rfl, if_pos rfl]
theorem wM_self (u : Nat) : wM d ow u u = 0 := by
  unfold wM
  rw [if_pos rfl]
def Y1 (d : ND) (X : Nat → Int) (u : Nat) : Int := if u % 2 = 0 then X (u / 2) - 2 * al d (u / 2) else -(X (u / 2) - 2 * al d (u / 2))
theorem Y1_rng {X : Nat → Int} (hX : feasX d ow X) {v : Int} (hv : ∀ w, w < dW d → X w ≤ 2 * al d w + v) {u : Nat} (hu : u < 2 * dW d) : -v ≤ Y1 d X u ∧ Y1 d X u ≤ v := by
  have h1 := hX.1 (u / 2) (by omega)
  have h2 := hv (u / 2) (by omega)
  unfold Y1
  split <;> omega
theorem feas1 (hd : NDok d) (ho : owOk d ow) {X : Nat → Int} (hX : feasX d ow X) {v : Int} (hv : ∀ w, w < dW d → X w ≤ 2 * al d w + v) (hv9 : v ≤ 10000000) :
    ∀ k, k ≤ 2 * dW d → FWok I1 119998 (2 * dW d) (FWn I1 (wC d ow) k) k ∧ ∀ a b, a < 2 * dW d → b < 2 * dW d → FWn I1 (wC d ow) k a b < I1 → -v ≤ FWn I1 (wC d ow) k a b := by
  have hW := hd.1
  have low : ∀ k, k ≤ 2 * dW d → ∀ a b, a < 2 * dW d → b < 2 * dW d → FWn I1 (wC d ow) k a b < I1 → Y1 d X a - Y1 d X b ≤ 2 * FWn I1 (wC d ow) k a b := by
    intro k hk a b ha hb h
    refine (FW_low (I := I1) (J := 1000000000000000) (w := wC d ow) (n := 2 * dW d) (e := fun a b => Y1 d X a - Y1 d X b) (fun a b ha hb h => ?_) (fun a k b ha hk hb h1 h2 => ?_) (fun a b => (wC_rng hd ho a b).2.1) k hk a b ha hb h).2
    · have h1 := pot1 hd hX ha hb h
      have y1 := Y1_rng hX hv ha
      have y2 := Y1_rng hX hv hb
      exact ⟨by show Y1 d X a - Y1 d X b < 1000000000000000; omega, h1⟩
    · have y1 := Y1_rng hX hv ha
      have y2 := Y1_rng hX hv hb
      show Y1 d X a - Y1 d X b < 1000000000000000 ∧ Y1 d X a - Y1 d X b ≤ Y1 d X a - Y1 d X k + (Y1 d X k - Y1 d X b)
      omega
  have diag : ∀ k, k ≤ 2 * dW d → ∀ a, a < 2 * dW d → 0 ≤ FWn I1 (wC d ow) k a a := fun k hk a ha => by
    have h1 := FWn_mono I1 (wC d ow) a a (Nat.zero_le k)
    have h2 : FWn I1 (wC d ow) 0 a a = 0 := wC_self a
    have := low k hk a a ha ha (by have := I1_v; omega)
    omega
  intro k hk
  refine ⟨FW_all (by omega) (by decide) (by decide) (by decide) (fun a _ => wC_self a) (fun a b _ _ => (wC_rng hd ho a b).2.1) (fun a b _ _ => (wC_rng hd ho a b).2.2) diag k hk hk, fun a b ha hb h => ?_⟩
  have := low k hk a b ha hb h
  have y1 := Y1_rng hX hv ha
  have y2 := Y1_rng hX hv hb
  omega
theorem feas2 (hd : NDok d) (ho : owOk d ow) {X : Nat → Int} (hX : feasX d ow X) {v : Int} (hv : ∀ w, w < dW d → X w ≤ 2 * al d w + v) (hv9 : v ≤ 10000000) :
    ∀ k, k ≤ 24 → FWok I2 119998 24 (FWn I2 (wM d ow) k) k := by
  have hW := hd.1
  have yr : ∀ u, -20000000 ≤ Y2 d X u ∧ Y2 d X u ≤ 20000000 := fun u => by
    unfold Y2
    split
    · omega
    · have h1 := hX.1 (u / 2) (by omega)
      have h2 := hv (u / 2) (by omega)
      have h3 := hd.2.2.2.1 (u / 2) (by omega)
      split <;> omega
  have diag : ∀ k, k ≤ 24 → ∀ a, a < 24 → 0 ≤ FWn I2 (wM d ow) k a a := fun k hk a ha => by
    have h1 := FWn_mono I2 (wM d ow) a a (Nat.zero_le k)
    have h2 : FWn I2 (wM d ow) 0 a a = 0 := wM_self a
    have := (FW_low (I := I2) (J := 1000000000000000) (w := wM d ow) (n := 24) (e := fun f t => Y2 d X t - Y2 d X f) (fun a b ha hb h => ⟨by have y1 := yr a; have y2 := yr b; show Y2 d X b - Y2 d X a < 1000000000000000; omega, pot2 hd hX h⟩) (fun a k b ha hk hb h1 h2 => by
      have y1 := yr a
      have y2 := yr b
      show Y2 d X b - Y2 d X a < 1000000000000000 ∧ Y2 d X b - Y2 d X a ≤ Y2 d X k - Y2 d X a + (Y2 d X b - Y2 d X k)
      omega) (fun a b => (wM_rng hd ho a b).2.1) k hk a a ha ha (by have := I2_v; omega)).2
    have this : Y2 d X a - Y2 d X a ≤ 2 * FWn I2 (wM d ow) k a a := this
    omega
  intro k hk
  exact FW_all (by omega) (by decide) (by decide) (by decide) (fun a _ => wM_self a) (fun a b _ _ => (wM_rng hd ho a b).2.1) (fun a b _ _ => (wM_rng hd ho a b).2.2) diag k hk hk
/-! the comparison -/
theorem wC_bar (hd : NDok d) (u v : Nat) : wC d ow (bar v) (bar u) = wC d ow u v := by
  obtain ⟨a, ea⟩ := node u
  obtain ⟨c, ec⟩ := node v
  rcases ea with rfl | rfl <;> rcases ec with rfl | rfl
  · rw [bar_e, bar_e, wC_oo, wC_ee]
    by_cases e : a = c
    · rw [if_pos e, if_pos e.symm]
    · rw [if_neg e, if_neg (fun z => e z.symm)]
  · rw [bar_e, bar_o, wC_eo, wC_eo]
    by_cases e : a = c
    · subst e; rfl
    · rw [if_neg e, if_neg (fun z => e z.symm)]
      by_cases e2 : ptn d ow (dR d) a = rdO d a c (dR d) ∧ rdO d a c (dR d) ≠ -1
      · have e3 : ptn d ow (dR d) c = rdO d c a (dR d) ∧ rdO d c a (dR d) ≠ -1 := tk2_sym hd e2
        rw [if_pos e2, if_pos e3, gpd_sym]
      · have e3 : ¬ (ptn d ow (dR d) c = rdO d c a (dR d) ∧ rdO d c a (dR d) ≠ -1) := fun z => e2 (tk2_sym hd z)
        rw [if_neg e2, if_neg e3]
  · rw [bar_o, bar_e, wC_oe, wC_oe, gpd_sym d ow c a]
    by_cases e : a = c
    · rw [if_pos e, if_pos e.symm]
    · rw [if_neg e, if_neg (fun z => e z.symm)]
  · rw [bar_o, bar_o, wC_ee, wC_oo]
    by_cases e : a = c
    · rw [if_pos e, if_pos e.symm]
    · rw [if_neg e, if_neg (fun z => e z.symm)]
section Cmp
variable (hd : NDok d) (ho : owOk d ow) (F1 : FWok I1 119998 (2 * dW d) (D1 d ow) (2 * dW d)) (F2 : FWok I2 119998 24 (D2 d ow) 24)
theorem D1_small (F1 : FWok I1 119998 (2 * dW d) (D1 d ow) (2 * dW d)) (hd : NDok d) {u v : Nat} (hu : u < 2 * dW d) (hv : v < 2 * dW d) (h : D1 d ow u v < I1) : D1 d ow u v ≤ 2999950 := by
  have h1 := F1.2.2.2 u v hu hv h
  have h2 := cnF_le I1 (D1 d ow) u v (2 * dW d)
  have hW := hd.1
  omega
theorem D2_small (F2 : FWok I2 119998 24 (D2 d ow) 24) {u v : Nat} (hu : u < 24) (hv : v < 24) (h : D2 d ow u v < I2) : D2 d ow u v ≤ 2999950 := by
  have h1 := F2.2.2.2 u v hu hv h
  have h2 := cnF_le I2 (D2 d ow) u v 24
  omega
theorem D1_le (u v : Nat) : D1 d ow u v ≤ wC d ow u v := FWn_mono I1 (wC d ow) u v (Nat.zero_le (2 * dW d))
theorem D2_le (u v : Nat) : D2 d ow u v ≤ wM d ow u v := FWn_mono I2 (wM d ow) u v (Nat.zero_le 24)
theorem D1_co (hd : NDok d) (ho : owOk d ow) (F1 : FWok I1 119998 (2 * dW d) (D1 d ow) (2 * dW d)) {u v : Nat} (hu : u < 2 * dW d) (hv : v < 2 * dW d) (h : D1 d ow u v < I1) : D1 d ow (bar v) (bar u) < I1 ∧ D1 d ow (bar v) (bar u) ≤ D1 d ow u v := by
  have h9 := FW_low (I := I1) (J := 2 * I1) (w := wC d ow) (n := 2 * dW d) (e := fun u v => 2 * D1 d ow (bar v) (bar u)) (fun a b ha hb h => ?_) (fun a k b ha hk hb h1 h2 => ?_) (fun a b => (wC_rng hd ho a b).2.1) (2 * dW d) (Nat.le_refl _) u v hu hv h
  · have h9 : 2 * D1 d ow (bar v) (bar u) < 2 * I1 ∧ 2 * D1 d ow (bar v) (bar u) ≤ 2 * D1 d ow u v := h9
    omega
  · have h1 := D1_le (d := d) (ow := ow) (bar b) (bar a)
    rw [wC_bar hd] at h1
    show 2 * D1 d ow (bar b) (bar a) < 2 * I1 ∧ 2 * D1 d ow (bar b) (bar a) ≤ 2 * wC d ow a b
    omega
  · have h1 : 2 * D1 d ow (bar k) (bar a) < 2 * I1 := h1
    have h2 : 2 * D1 d ow (bar b) (bar k) < 2 * I1 := h2
    have t := F1.2.2.1 (bar b) (bar k) (bar a) (bar_lt hb) (bar_lt hk) (bar_lt ha) (by omega) (by omega)
    show 2 * D1 d ow (bar b) (bar a) < 2 * I1 ∧ 2 * D1 d ow (bar b) (bar a) ≤ 2 * D1 d ow (bar k) (bar a) + 2 * D1 d ow (bar b) (bar k)
    omega
theorem D1_fin (hd : NDok d) (ho : owOk d ow) (F1 : FWok I1 119998 (2 * dW d) (D1 d ow) (2 * dW d)) {u : Nat} (hu : u < 2 * dW d) : D1 d ow u (bar u) < I1 := by
  obtain ⟨a, ea⟩ := node u
  rcases ea with rfl | rfl
  · rw [bar_e]
    have ha : a < dW d := by omega
    rcases ptn_cases (d := d) (ow := ow) (dR d) a with h | ⟨q, g1, g2, g3, g4⟩
    · have := D1_le (d := d) (ow := ow) (2 * a) (2 * a + 1)
      rw [wC_eo, if_pos rfl, if_pos h] at this
      unfold I1
      omega
    · obtain ⟨c, hc, hp, hne⟩ : ∃ c, c < dW d ∧ isPr d q a c ∧ a ≠ c := by
        have h9 := hd.2.2.1 q g1
        rcases g4 with e | e
        · exact ⟨sn d q, h9.2.1, Or.inl ⟨e.symm, rfl⟩, by rw [e]; exact h9.2.2.1⟩
        · exact ⟨fs d q, h9.1, Or.inr ⟨rfl, e.symm⟩, by rw [e]; exact fun z => h9.2.2.1 z.symm⟩
      have t2 : ptn d ow (dR d) a = rdO d a c (dR d) ∧ rdO d a c (dR d) ≠ -1 := (tk2_iff hd).mpr ⟨q, g1, g3, hp⟩
      have t3 : ptn d ow (dR d) c = rdO d c a (dR d) ∧ rdO d c a (dR d) ≠ -1 := tk2_sym hd t2
      have r1 := gpd_of hd ow g1 hp
      have r2 := D1_le (d := d) (ow := ow) (2 * a) (2 * c + 1)
      have r3 := D1_le (d := d) (ow := ow) (2 * c + 1) (2 * c)
      have r4 := D1_le (d := d) (ow := ow) (2 * c) (2 * a + 1)
      rw [wC_eo, if_neg hne, if_pos t2] at r2
      rw [wC_oe, if_pos rfl] at r3
      rw [wC_eo, if_neg (fun z => hne z.symm), if_pos t3, gpd_sym] at r4
      have g9 := (gpd_rng hd ho a c).2
      have s1 := F1.2.2.1 (2 * a) (2 * c + 1) (2 * c) (by omega) (by omega) (by omega) (by have := I1_v; omega) (by have := I1_v; omega)
      exact (F1.2.2.1 (2 * a) (2 * c) (2 * a + 1) (by omega) (by omega) (by omega) s1.1 (by have := I1_v; omega)).1
  · rw [bar_o]
    have := D1_le (d := d) (ow := ow) (2 * a + 1) (2 * a)
    rw [wC_oe, if_pos rfl] at this
    unfold I1
    omega
/-- both ways in one: twice the path, or the two halves -/
noncomputable def P1 (d : ND) (ow : Nat → Int) (u v : Nat) : Int := D1 d ow u (bar u) + D1 d ow (bar v) v
noncomputable def S1 (d : ND) (ow : Nat → Int) (u v : Nat) : Int := if D1 d ow u v < I1 then min (2 * D1 d ow u v) (P1 d ow u v) else P1 d ow u v
theorem S1_P (u v : Nat) : S1 d ow u v ≤ P1 d ow u v := by
  unfold S1
  split <;> omega
theorem S1_D {u v : Nat} (h : D1 d ow u v < I1) : S1 d ow u v ≤ 2 * D1 d ow u v := by
  unfold S1
  rw [if_pos h]
  omega
theorem S1_or (u v : Nat) : S1 d ow u v = P1 d ow u v ∨ (D1 d ow u v < I1 ∧ S1 d ow u v = 2 * D1 d ow u v) := by
  unfold S1
  split
  · rename_i h
    by_cases c : 2 * D1 d ow u v ≤ P1 d ow u v
    · exact Or.inr ⟨h, by omega⟩
    · exact Or.inl (by omega)
  · exact Or.inl rfl
theorem S1_tri (hd : NDok d) (ho : owOk d ow) (F1 : FWok I1 119998 (2 * dW d) (D1 d ow) (2 * dW d)) {u m v : Nat} (hu : u < 2 * dW d) (hm : m < 2 * dW d) (hv : v < 2 * dW d) : S1 d ow u v ≤ S1 d ow u m + S1 d ow m v := by
  have bu := bar_lt hu
  have bm := bar_lt hm
  have bv := bar_lt hv
  have fu := D1_fin hd ho F1 hu
  have fm := D1_fin hd ho F1 hm
  have fm2 := D1_fin hd ho F1 bm
  rw [bar_bar] at fm2
  have fv2 := D1_fin hd ho F1 bv
  rw [bar_bar] at fv2
  have sp := S1_P (d := d) (ow := ow) u v
  unfold P1 at sp
  rcases S1_or (d := d) (ow := ow) u m with e1 | ⟨f1, e1⟩ <;> rcases S1_or (d := d) (ow := ow) m v with e2 | ⟨f2, e2⟩
  · unfold P1 at e1 e2
    have t := F1.2.2.1 (bar m) m (bar m) bm hm bm fm2 fm
    have z := F1.1 (bar m) bm
    omega
  · unfold P1 at e1
    have c := D1_co hd ho F1 hm hv f2
    have t1 := F1.2.2.1 (bar v) (bar m) m bv bm hm c.1 fm2
    have t2 := F1.2.2.1 (bar v) m v bv hm hv t1.1 f2
    omega
  · unfold P1 at e2
    have c := D1_co hd ho F1 hu hm f1
    have t1 := F1.2.2.1 u m (bar m) hu hm bm f1 fm
    have t2 := F1.2.2.1 u (bar m) (bar u) hu bm bu t1.1 c.1
    omega
  · have t := F1.2.2.1 u m v hu hm hv f1 f2
    have := S1_D (d := d) (ow := ow) t.1
    omega
theorem S1_edge (hd : NDok d) (ho : owOk d ow) (F1 : FWok I1 119998 (2 * dW d) (D1 d ow) (2 * dW d)) {f t : Nat} (hf : f < 2 * dW d) (ht : t < 2 * dW d) (h : wM d ow f t < I2) : S1 d ow t f + 2 * sh d t - 2 * sh d f ≤ 2 * wM d ow f t := by
  by_cases eft : f = t
  · subst eft
    have z := F1.1 f hf
    have := S1_D (d := d) (ow := ow) (u := f) (v := f) (by rw [z]; decide)
    rw [wM_self]
    omega
  · obtain ⟨a, ea⟩ := node f
    obtain ⟨c, ec⟩ := node t
    have ha : a < dW d := by omega
    have hc : c < dW d := by omega
    rcases ea with rfl | rfl <;> rcases ec with rfl | rfl
    · rw [wM_ee (by omega)] at h; omega
    · rw [sh_e, sh_o]
      rw [wM_eo ha hc] at h ⊢
      have oo : ∀ x, D1 d ow (2 * x + 1) (2 * x) ≤ 0 := fun x => by
        have := D1_le (d := d) (ow := ow) (2 * x + 1) (2 * x)
        rw [wC_oe, if_pos rfl] at this
        exact this
      by_cases e : a = c
      · subst e
        rw [if_pos rfl]
        have := oo a
        have := S1_D (d := d) (ow := ow) (u := 2 * a + 1) (v := 2 * a) (by have := I1_v; omega)
        omega
      · rw [if_neg e] at h ⊢
        by_cases e2 : rdO d a c (dR d) ≠ -1 ∧ ow (rdO d a c (dR d)).toNat ≠ -1
        · rw [if_pos e2]
          rcases rdO_cases d a c (dR d) with ⟨e1, _⟩ | ⟨q, e1, e3, e4⟩
          · exact absurd e1 e2.1
          · rw [e3] at e2 ⊢
            show S1 d ow (2 * c + 1) (2 * a) + 2 * -al d c - 2 * al d a ≤ 2 * -mkd d ow q
            have hsum : mkd d ow q - al d (fs d q) - al d (sn d q) = mkd d ow q - al d a - al d c := by
              rcases e4 with ⟨q1, q2⟩ | ⟨q1, q2⟩ <;> rw [q1, q2] <;> omega
            by_cases g : 0 < gpd d ow a c
            · have d9 := D1_le (d := d) (ow := ow) (2 * c + 1) (2 * a)
              rw [wC_oe, if_neg (fun z => e z.symm), gpd_sym, if_pos g] at d9
              obtain ⟨q', g1, g2, g3, g4, g5⟩ := gpd_pos_val g
              have eq : q' = q := by omega
              subst eq
              have := S1_D (d := d) (ow := ow) (u := 2 * c + 1) (v := 2 * a) (by have := I1_v; omega)
              omega
            · have d9 := S1_P (d := d) (ow := ow) (2 * c + 1) (2 * a)
              unfold P1 at d9
              rw [bar_o, bar_e] at d9
              have := oo a
              have := oo c
              have g9 : gpd d ow a c = gnd d ow q := gpd_of hd ow e1 e4
              have e29 : ow q ≠ -1 := e2.2
              unfold gnd at g9
              rw [if_neg e29] at g9
              omega
        · rw [if_neg e2] at h; omega
    · rw [sh_o, sh_e]
      rw [wM_oe ha hc] at h ⊢
      by_cases e : a = c
      · subst e
        rw [if_pos rfl] at h ⊢
        by_cases e2 : ptn d ow (dR d) a = -1
        · rw [if_pos e2]
          have d9 := D1_le (d := d) (ow := ow) (2 * a) (2 * a + 1)
          rw [wC_eo, if_pos rfl, if_pos e2] at d9
          have := S1_D (d := d) (ow := ow) (u := 2 * a) (v := 2 * a + 1) (by have := I1_v; omega)
          omega
        · rw [if_neg e2] at h; omega
      · rw [if_neg e] at h ⊢
        by_cases e2 : ptn d ow (dR d) a = rdO d a c (dR d) ∧ rdO d a c (dR d) ≠ -1
        · rw [if_pos e2]
          have e3 : ptn d ow (dR d) c = rdO d c a (dR d) ∧ rdO d c a (dR d) ≠ -1 := tk2_sym hd e2
          obtain ⟨q, g1, g2, g3, g4, g5, g6, g7, g8⟩ := tk2_val hd e2
          have d9 := D1_le (d := d) (ow := ow) (2 * c) (2 * a + 1)
          rw [wC_eo, if_neg (fun z => e z.symm), if_pos e3, gpd_sym, g5, g8] at d9
          have g9 := (gnd_rng hd ho g1).2
          rw [g8] at g9
          have := S1_D (d := d) (ow := ow) (u := 2 * c) (v := 2 * a + 1) (by have := I1_v; omega)
          rw [g2]
          show S1 d ow (2 * c) (2 * a + 1) + 2 * al d c - 2 * -al d a ≤ 2 * mkd d ow q
          omega
        · rw [if_neg e2] at h; omega
    · rw [wM_oo (by omega)] at h; omega
theorem D2_edge (hd : NDok d) {u v : Nat} (hu : u < 2 * dW d) (hv : v < 2 * dW d) (h : wC d ow u v < I1) : wM d ow v u - sh d u + sh d v ≤ wC d ow u v := by
  obtain ⟨a, ea⟩ := node u
  obtain ⟨c, ec⟩ := node v
  have ha : a < dW d := by omega
  have hc : c < dW d := by omega
  rcases ea with rfl | rfl <;> rcases ec with rfl | rfl
  · rw [wC_ee] at h ⊢
    by_cases e : a = c
    · subst e; rw [if_pos rfl, wM_self]; omega
    · rw [if_neg e] at h; omega
  · rw [wC_eo] at h ⊢
    rw [wM_oe hc ha, sh_e, sh_o]
    by_cases e : a = c
    · subst e
      rw [if_pos rfl] at h ⊢
      rw [if_pos rfl]
      by_cases e2 : ptn d ow (dR d) a = -1
      · rw [if_pos e2, if_pos e2]; omega
      · rw [if_neg e2] at h; omega
    · rw [if_neg e] at h ⊢
      rw [if_neg (fun z => e z.symm)]
      by_cases e2 : ptn d ow (dR d) a = rdO d a c (dR d) ∧ rdO d a c (dR d) ≠ -1
      · have e3 : ptn d ow (dR d) c = rdO d c a (dR d) ∧ rdO d c a (dR d) ≠ -1 := tk2_sym hd e2
        rw [if_pos e2, if_pos e3]
        obtain ⟨q, g1, g2, g3, g4, g5, g6, g7, g8⟩ := tk2_val hd e2
        rw [rdO_sym, g2, g5, g8]
        show mkd d ow q - al d a + -al d c ≤ _
        omega
      · rw [if_neg e2] at h; omega
  · rw [wC_oe] at h ⊢
    rw [wM_eo hc ha, sh_e, sh_o]
    by_cases e : a = c
    · subst e; rw [if_pos rfl, if_pos rfl]; omega
    · rw [if_neg e] at h ⊢
      rw [if_neg (fun z => e z.symm)]
      by_cases e2 : 0 < gpd d ow a c
      · rw [if_pos e2]
        obtain ⟨q, g1, g2, g3, g4, g5⟩ := gpd_pos_val e2
        rw [rdO_sym, g2, if_pos ⟨by omega, g4⟩, g5]
        show -mkd d ow q - -al d a + al d c ≤ _
        omega
      · rw [if_neg e2] at h; omega
  · rw [wC_oo] at h ⊢
    by_cases e : a = c
    · subst e; rw [if_pos rfl, wM_self]; omega
    · rw [if_neg e] at h; omega
theorem D2_of_D1 (hd : NDok d) (ho : owOk d ow) (F2 : FWok I2 119998 24 (D2 d ow) 24) {u v : Nat} (hu : u < 2 * dW d) (hv : v < 2 * dW d) (h : D1 d ow u v < I1) : D2 d ow v u < I2 ∧ D2 d ow v u - sh d u + sh d v ≤ D1 d ow u v := by
  have hW := hd.1
  have shr : ∀ x, x < 2 * dW d → -9999 ≤ sh d x ∧ sh d x ≤ 9999 := fun x hx => by
    have := hd.2.2.2.1 (x / 2) (by omega)
    unfold sh
    split <;> omega
  have h9 := FW_low (I := I1) (J := I2) (w := wC d ow) (n := 2 * dW d) (e := fun u v => if D2 d ow v u < I2 then 2 * (D2 d ow v u - sh d u + sh d v) else I2) (fun a b ha hb h => ?_) (fun a k b ha hk hb h1 h2 => ?_) (fun a b => (wC_rng hd ho a b).2.1) (2 * dW d) (Nat.le_refl _) u v hu hv h
  · have h9 : (if D2 d ow v u < I2 then 2 * (D2 d ow v u - sh d u + sh d v) else I2) < I2 ∧ (if D2 d ow v u < I2 then 2 * (D2 d ow v u - sh d u + sh d v) else I2) ≤ 2 * D1 d ow u v := h9
    by_cases c : D2 d ow v u < I2
    · rw [if_pos c] at h9
      exact ⟨c, by omega⟩
    · rw [if_neg c] at h9
      omega
  · have e1 := D2_edge (ow := ow) hd ha hb h
    have e2 := D2_le (d := d) (ow := ow) b a
    have e3 := (wC_rng hd ho a b).2.2 h
    have s1 := shr a ha
    have s2 := shr b hb
    have := I2_v
    show (if D2 d ow b a < I2 then 2 * (D2 d ow b a - sh d a + sh d b) else I2) < I2 ∧ (if D2 d ow b a < I2 then 2 * (D2 d ow b a - sh d a + sh d b) else I2) ≤ 2 * wC d ow a b
    rw [if_pos (by omega)]
    omega
  · have h1 : (if D2 d ow k a < I2 then 2 * (D2 d ow k a - sh d a + sh d k) else I2) < I2 := h1
    have h2 : (if D2 d ow b k < I2 then 2 * (D2 d ow b k - sh d k + sh d b) else I2) < I2 := h2
    have f1 : D2 d ow k a < I2 := by
      apply Decidable.byContradiction
      intro z
      rw [if_neg z] at h1; omega
    have f2 : D2 d ow b k < I2 := by
      apply Decidable.byContradiction
      intro z
      rw [if_neg z] at h2; omega
    have t := F2.2.2.1 b k a (by omega) (by omega) (by omega) f2 f1
    have sm := D2_small F2 (u := b) (v := a) (by omega) (by omega) t.1
    have s1 := shr a ha
    have s2 := shr b hb
    have := I2_v
    show (if D2 d ow b a < I2 then 2 * (D2 d ow b a - sh d a + sh d b) else I2) < I2 ∧ (if D2 d ow b a < I2 then 2 * (D2 d ow b a - sh d a + sh d b) else I2) ≤ (if D2 d ow k a < I2 then 2 * (D2 d ow k a - sh d a + sh d k) else I2) + (if D2 d ow b k < I2 then 2 * (D2 d ow b k - sh d k + sh d b) else I2)
    rw [if_pos t.1, if_pos f1, if_pos f2]
    omega
theorem S1_D2 (hd : NDok d) (ho : owOk d ow) (F1 : FWok I1 119998 (2 * dW d) (D1 d ow) (2 * dW d)) {f t : Nat} (hf : f < 2 * dW d) (ht : t < 2 * dW d) (h : D2 d ow f t < I2) : S1 d ow t f + 2 * sh d t - 2 * sh d f ≤ 2 * D2 d ow f t := by
  have hW := hd.1
  have shr : ∀ x, x < 2 * dW d → -9999 ≤ sh d x ∧ sh d x ≤ 9999 := fun x hx => by
    have := hd.2.2.2.1 (x / 2) (by omega)
    unfold sh
    split <;> omega
  have sbig : ∀ x y, x < 2 * dW d → y < 2 * dW d → S1 d ow x y ≤ 5999900 := fun x y hx hy => by
    have h1 := S1_P (d := d) (ow := ow) x y
    unfold P1 at h1
    have b1 := D1_small F1 hd hx (bar_lt hx) (D1_fin hd ho F1 hx)
    have f2 := D1_fin hd ho F1 (bar_lt hy)
    rw [bar_bar] at f2
    have b2 := D1_small F1 hd (bar_lt hy) hy f2
    omega
  have h9 := FW_low (I := I2) (J := 100000000000000) (w := wM d ow) (n := 24) (e := fun f t => if f < 2 * dW d ∧ t < 2 * dW d then S1 d ow t f + 2 * sh d t - 2 * sh d f else if f = t then 0 else 100000000000000) (fun a b ha hb h => ?_) (fun a k b ha hk hb h1 h2 => ?_) (fun a b => (wM_rng hd ho a b).2.1) 24 (Nat.le_refl _) f t (by omega) (by omega) h
  · have h9 : (if f < 2 * dW d ∧ t < 2 * dW d then S1 d ow t f + 2 * sh d t - 2 * sh d f else if f = t then 0 else 100000000000000) < 100000000000000 ∧ (if f < 2 * dW d ∧ t < 2 * dW d then S1 d ow t f + 2 * sh d t - 2 * sh d f else if f = t then 0 else 100000000000000) ≤ 2 * D2 d ow f t := h9
    rw [if_pos ⟨hf, ht⟩] at h9
    exact h9.2
  · show (if a < 2 * dW d ∧ b < 2 * dW d then S1 d ow b a + 2 * sh d b - 2 * sh d a else if a = b then 0 else 100000000000000) < 100000000000000 ∧ (if a < 2 * dW d ∧ b < 2 * dW d then S1 d ow b a + 2 * sh d b - 2 * sh d a else if a = b then 0 else 100000000000000) ≤ 2 * wM d ow a b
    by_cases c : a < 2 * dW d ∧ b < 2 * dW d
    · rw [if_pos c]
      have := sbig b a c.2 c.1
      have := shr a c.1
      have := shr b c.2
      exact ⟨by omega, S1_edge hd ho F1 c.1 c.2 h⟩
    · rw [if_neg c]
      by_cases e : a = b
      · subst e; rw [if_pos rfl, wM_self]; omega
      · exfalso
        unfold wM at h
        rw [if_neg e, if_pos (by omega)] at h
        omega
  · have h1 : (if a < 2 * dW d ∧ k < 2 * dW d then S1 d ow k a + 2 * sh d k - 2 * sh d a else if a = k then 0 else 100000000000000) < 100000000000000 := h1
    have h2 : (if k < 2 * dW d ∧ b < 2 * dW d then S1 d ow b k + 2 * sh d b - 2 * sh d k else if k = b then 0 else 100000000000000) < 100000000000000 := h2
    show (if a < 2 * dW d ∧ b < 2 * dW d then S1 d ow b a + 2 * sh d b - 2 * sh d a else if a = b then 0 else 100000000000000) < 100000000000000 ∧ (if a < 2 * dW d ∧ b < 2 * dW d then S1 d ow b a + 2 * sh d b - 2 * sh d a else if a = b then 0 else 100000000000000) ≤ (if a < 2 * dW d ∧ k < 2 * dW d then S1 d ow k a + 2 * sh d k - 2 * sh d a else if a = k then 0 else 100000000000000) + (if k < 2 * dW d ∧ b < 2 * dW d then S1 d ow b k + 2 * sh d b - 2 * sh d k else if k = b then 0 else 100000000000000)
    by_cases c1 : a < 2 * dW d ∧ k < 2 * dW d
    · by_cases c2 : k < 2 * dW d ∧ b < 2 * dW d
      · have := sbig b a c2.2 c1.1
        have := shr a c1.1
        have := shr b c2.2
        have := S1_tri hd ho F1 c2.2 c1.2 c1.1
        rw [if_pos c1, if_pos c2, if_pos ⟨c1.1, c2.2⟩]
        omega
      · rw [if_neg c2] at h2
        have e : k = b := by
          apply Decidable.byContradiction
          intro z
          rw [if_neg z] at h2; omega
        subst e
        exact absurd ⟨c1.2, c1.2⟩ c2
    · rw [if_neg c1] at h1
      have e : a = k := by
        apply Decidable.byContradiction
        intro z
        rw [if_neg z] at h1; omega
      subst e
      rw [if_neg c1, if_pos rfl, Int.zero_add]
      exact ⟨h2, Int.le_refl _⟩
/-- one's own bounds -/
theorem unary (hd : NDok d) (ho : owOk d ow) (F1 : FWok I1 119998 (2 * dW d) (D1 d ow) (2 * dW d)) (F2 : FWok I2 119998 24 (D2 d ow) 24) {u : Nat} (hu : u < 2 * dW d) : D2 d ow (bar u) u < I2 ∧ D2 d ow (bar u) u = D1 d ow u (bar u) + 2 * sh d u := by
  have f := D1_fin hd ho F1 hu
  have h1 := D2_of_D1 hd ho F2 hu (bar_lt hu) f
  have h2 := S1_D2 hd ho F1 (bar_lt hu) hu h1.1
  have e : S1 d ow u (bar u) = 2 * D1 d ow u (bar u) := by
    unfold S1 P1
    rw [if_pos f, bar_bar]
    omega
  have s : sh d (bar u) = -sh d u := by
    obtain ⟨a, ea⟩ := node u
    rcases ea with rfl | rfl
    · rw [bar_e, sh_o, sh_e]
    · rw [bar_o, sh_o, sh_e]; omega
  rw [e, s] at h2
  rw [s] at h1
  exact ⟨h1.1, by omega⟩
/-- the check's apart is the class's tighter -/
theorem apart_eq (hd : NDok d) (ho : owOk d ow) (F1 : FWok I1 119998 (2 * dW d) (D1 d ow) (2 * dW d)) (F2 : FWok I2 119998 24 (D2 d ow) 24) {f t : Nat} (hf : f < 2 * dW d) (ht : t < 2 * dW d) :
    min (if D2 d ow f t < I2 then 2 * D2 d ow f t else I2) (D2 d ow (bar t) t + D2 d ow f (bar f)) = S1 d ow t f + 2 * sh d t - 2 * sh d f := by
  have u1 := unary hd ho F1 F2 ht
  have u2 := unary hd ho F1 F2 (bar_lt hf)
  rw [bar_bar] at u2
  have s : sh d (bar f) = -sh d f := by
    obtain ⟨a, ea⟩ := node f
    rcases ea with rfl | rfl
    · rw [bar_e, sh_o, sh_e]
    · rw [bar_o, sh_o, sh_e]; omega
  rw [s] at u2
  have hp : D2 d ow (bar t) t + D2 d ow f (bar f) = P1 d ow t f + 2 * sh d t - 2 * sh d f := by
    unfold P1
    omega
  rw [hp]
  have sp := S1_P (d := d) (ow := ow) t f
  by_cases c : D2 d ow f t < I2
  · rw [if_pos c]
    have h1 := S1_D2 hd ho F1 hf ht c
    rcases S1_or (d := d) (ow := ow) t f with e | ⟨g, e⟩
    · omega
    · have h2 := D2_of_D1 hd ho F2 ht hf g
      omega
  · rw [if_neg c]
    have hW := hd.1
    have b1 := D2_small F2 (u := bar t) (v := t) (by have := bar_lt ht; omega) (by omega) u1.1
    have b2 := D2_small F2 (u := f) (v := bar f) (by omega) (by have := bar_lt hf; omega) u2.1
    have := I2_v
    rcases S1_or (d := d) (ow := ow) t f with e | ⟨g, e⟩
    · omega
    · have h2 := D2_of_D1 hd ho F2 ht hf g
      exact absurd h2.1 c
end Cmp
end Graph
