/-! the class's ends out of the bounds -/
section CEnds
variable {d : ND} {ow : Nat → Int} {n this : Nat}
def frsF (this : Nat) (s t : Hp) : Prop := (∀ x, x < this ∨ this + 26 < x → t x = s x) ∧ ∀ i, i ≠ 10 → t this i = s this i
theorem frsF_trans {s t u : Hp} (h : frsF this s t) (h2 : frsF this t u) : frsF this s u := ⟨fun x hx => by rw [h2.1 x hx, h.1 x hx], fun i hi => by rw [h2.2 i hi, h.2 i hi]⟩
/-- bounds that are in order and small -/
def D1ok (d : ND) (ow : Nat → Int) : Prop := FWok I1 119998 (2 * dW d) (D1 d ow) (2 * dW d) ∧ ∀ a b, a < 2 * dW d → b < 2 * dW d → D1 d ow a b < I1 → -10000000 ≤ D1 d ow a b
theorem D1ok_of (hd : NDok d) (ho : owOk d ow) {X : Nat → Int} (hX : feasX d ow X) {v0 : Int} (hv0 : ∀ w, w < dW d → X w ≤ 2 * al d w + v0) (hv9 : v0 ≤ 10000000) : D1ok d ow := by
  have f1 := feas1 hd ho hX hv0 hv9 (2 * dW d) (Nat.le_refl _)
  refine ⟨f1.1, fun a b ha hb h => ?_⟩
  have := f1.2 a b ha hb h
  show -10000000 ≤ FWn I1 (wC d ow) (2 * dW d) a b
  omega
theorem D1u (hd : NDok d) (ho : owOk d ow) (hF : D1ok d ow) {w : Nat} (hw : w < dW d) : (-10000000 ≤ D1 d ow (2 * w) (2 * w + 1) ∧ D1 d ow (2 * w) (2 * w + 1) ≤ 2999950) ∧ (-10000000 ≤ D1 d ow (2 * w + 1) (2 * w) ∧ D1 d ow (2 * w + 1) (2 * w) ≤ 2999950) := by
  have f1 := D1_fin hd ho hF.1 (u := 2 * w) (by omega)
  have f2 := D1_fin hd ho hF.1 (u := 2 * w + 1) (by omega)
  rw [bar_e] at f1
  rw [bar_o] at f2
  exact ⟨⟨hF.2 _ _ (by omega) (by omega) f1, D1_small hF.1 hd (by omega) (by omega) f1⟩, ⟨hF.2 _ _ (by omega) (by omega) f2, D1_small hF.1 hd (by omega) (by omega) f2⟩⟩
/-- the class's bounds stand in the heap -/
def BdS (s : Hp) (this : Nat) (d : ND) (ow : Nat → Int) : Prop := ∀ u v, u < 2 * dW d → v < 2 * dW d → s (this + 1 + 1 + 1 + u) v = D1 d ow u v
theorem C_tMost {s : Hp} (hd : NDok d) (hp : isPlan this) (h : BdS s this d ow) {w : Nat} (hw : w < dW d) : F_Bounds_twiceMost (this + 1) w s = some (D1 d ow (2 * w) (2 * w + 1), s) := by
  have hW := hd.1
  have v := ev (a := w) (by omega)
  unfold F_Bounds_twiceMost
  rw [gd_pos (isPlan_B hp), v.2, v.1, gd_pos (by omega), gd_pos (by omega), Int.toNat_natCast, Int.toNat_natCast, h _ _ (by omega) (by omega)]
theorem C_tLeast {s : Hp} (hd : NDok d) (ho : owOk d ow) (hF : D1ok d ow) (hp : isPlan this) (h : BdS s this d ow) {w : Nat} (hw : w < dW d) : F_Bounds_twiceLeast (this + 1) w s = some (-D1 d ow (2 * w + 1) (2 * w), s) := by
  have hW := hd.1
  have v := ev (a := w) (by omega)
  have u := D1u hd ho hF hw
  unfold F_Bounds_twiceLeast
  rw [gd_pos (isPlan_B hp), v.2, v.1, gd_pos (by omega), gd_pos (by omega), Int.toNat_natCast, Int.toNat_natCast, h _ _ (by omega) (by omega), ineg_ok (by omega)]
theorem C_tighter {s : Hp} (hd : NDok d) (hF : D1ok d ow) {u v : Nat} (hu : u < 2 * dW d) (hv : v < 2 * dW d) {p : Int} (hp : p = P1 d ow u v) : F_Bounds_tighter (D1 d ow u v) p s = some (S1 d ow u v, s) := by
  have hI := I1_v
  have top := hF.1.2.1 u v hu hv
  unfold F_Bounds_tighter F_Bounds_tighter_17
  by_cases c : D1 d ow u v < I1
  · have b1 := hF.2 u v hu hv c
    have b2 := D1_small hF.1 hd hu hv c
    rw [if_neg (by omega), imul_ok (by omega)]
    unfold S1 imin
    rw [if_pos c, hp]
    congr 2
    split <;> omega
  · rw [if_pos (by omega)]
    unfold S1
    rw [if_neg c, hp]
theorem S1_rng (hd : NDok d) (ho : owOk d ow) (hF : D1ok d ow) {u v : Nat} (hu : u < 2 * dW d) (hv : v < 2 * dW d) : -20000000 ≤ S1 d ow u v ∧ S1 d ow u v ≤ 6000000 ∧ -20000000 ≤ P1 d ow u v ∧ P1 d ow u v ≤ 6000000 := by
  have f1 := D1_fin hd ho hF.1 hu
  have f2 := D1_fin hd ho hF.1 (bar_lt hv)
  rw [bar_bar] at f2
  have b1 := hF.2 _ _ hu (bar_lt hu) f1
  have b2 := hF.2 _ _ (bar_lt hv) hv f2
  have s1 := D1_small hF.1 hd hu (bar_lt hu) f1
  have s2 := D1_small hF.1 hd (bar_lt hv) hv f2
  have hP : P1 d ow u v = D1 d ow u (bar u) + D1 d ow (bar v) v := rfl
  have hS := S1_P (d := d) (ow := ow) u v
  rcases S1_or (d := d) (ow := ow) u v with e | ⟨c, e⟩
  · omega
  · have := hF.2 u v hu hv c
    omega
theorem S1_sym (hd : NDok d) (ho : owOk d ow) (hF : D1ok d ow) {u v : Nat} (hu : u < 2 * dW d) (hv : v < 2 * dW d) : S1 d ow (bar v) (bar u) = S1 d ow u v := by
  have hp : P1 d ow (bar v) (bar u) = P1 d ow u v := by
    unfold P1
    rw [bar_bar, bar_bar]
    omega
  unfold S1
  rw [hp]
  by_cases c : D1 d ow u v < I1
  · have h1 := D1_co hd ho hF.1 hu hv c
    have h2 := D1_co hd ho hF.1 (bar_lt hv) (bar_lt hu) h1.1
    rw [bar_bar, bar_bar] at h2
    rw [if_pos c, if_pos h1.1]
    omega
  · have : ¬ D1 d ow (bar v) (bar u) < I1 := fun z => by
      have h2 := D1_co hd ho hF.1 (bar_lt hv) (bar_lt hu) z
      rw [bar_bar, bar_bar] at h2
      exact c h2.1
    rw [if_neg c, if_neg this]
noncomputable def endV (d : ND) (ow : Nat → Int) (w : Nat) (g : Int) : Int := if g = 0 then 2 * al d w - D1 d ow (2 * w + 1) (2 * w) else 2 * al d w + D1 d ow (2 * w) (2 * w + 1)
end CEnds
section CEnds2
variable {d : ND} {ow : Nat → Int} {n this : Nat}
noncomputable def twoV (d : ND) (ow : Nat → Int) (a b : Nat) (ahead g : Int) : Int :=
  if ahead = 0 then (if g = 0 then 2 * (al d a + al d b) - S1 d ow (2 * a + 1) (2 * b) else 2 * (al d a + al d b) + S1 d ow (2 * a) (2 * b + 1))
  else (if g = 0 then 2 * (al d a - al d b) - S1 d ow (2 * b) (2 * a) else 2 * (al d a - al d b) + S1 d ow (2 * a) (2 * b))
/-- what is at hand where there are ends: the plan of ow, with the bounds in order or stale -/
def EndsC (s : Hp) (this n : Nat) (d : ND) (ow : Nat → Int) : Prop := NetC s n d ∧ PlanC s this n d ow ∧ BdOk s this d ow
theorem C_fresh2 {s : Hp} (hd : NDok d) (ho : owOk d ow) (hp : isPlan this) (h : EndsC s this n d ow) {X : Nat → Int} (hX : feasX d ow X) {v0 : Int} (hv0 : ∀ w, w < dW d → X w ≤ 2 * al d w + v0) (hv9 : v0 ≤ 10000000) :
    wp (F_Plan_freshBounds this s) (fun _ t => BdS t this d ow ∧ EndsC t this n d ow ∧ frsF this s t) := by
  have hn := h.1.1
  refine wp_mono (C_fresh hd ho hp h.1 h.2.1 h.2.2 hX hv0 hv9) (fun _ t ht => ⟨ht.1, ⟨?_, ?_, fun _ => ht.1⟩, ht.2.2⟩)
  · exact h.1.congr (fun i _ => by rw [ht.2.2.1 n (by omega)]) (fun q a1 a2 => ht.2.2.1 q (by omega))
  · exact h.2.1.congr (fun x a1 a2 a3 => ht.2.2.1 x (by omega)) (ht.2.2.2 6 (by decide)) (ht.2.2.2 7 (by decide))
theorem C_endOf {s : Hp} (hd : NDok d) (ho : owOk d ow) (hp : isPlan this) (h : EndsC s this n d ow) {X : Nat → Int} (hX : feasX d ow X) {v0 : Int} (hv0 : ∀ w, w < dW d → X w ≤ 2 * al d w + v0) (hv9 : v0 ≤ 10000000) {w : Nat} (hw : w < dW d) (g : Int) :
    wp (F_Plan_endOf this w g s) (fun z t => z = endV d ow w g ∧ EndsC t this n d ow ∧ frsF this s t) := by
  have hW := hd.1
  have hF := D1ok_of hd ho hX hv0 hv9
  have u := D1u hd ho hF hw
  have ha := hd.2.2.2.1 w hw
  unfold F_Plan_endOf F_Plan_endOf_27
  rw [gd_pos hp]
  refine wp_cl (C_fresh2 hd ho hp h hX hv0 hv9) (fun _ t ht => ?_)
  have hn := ht.2.1.1.1
  refine wp_if (fun c => ?_) (fun c => ?_)
  · rw [C_tLeast hd ho hF hp ht.1 hw, cl2_some, lt_eq, ht.2.1.2.1.1, Int.toNat_natCast, gd_pos hn, gd_pos (by omega), Int.toNat_natCast, ht.2.1.1.2.2.2.2.2.1 w hw, imul_ok (by omega), iadd_ok (by omega)]
    refine wp_ret ⟨?_, ht.2⟩
    unfold endV
    rw [if_pos c]
    omega
  · rw [C_tMost hd hp ht.1 hw, cl2_some, lt_eq, ht.2.1.2.1.1, Int.toNat_natCast, gd_pos hn, gd_pos (by omega), Int.toNat_natCast, ht.2.1.1.2.2.2.2.2.1 w hw, imul_ok (by omega), iadd_ok (by omega)]
    refine wp_ret ⟨?_, ht.2⟩
    unfold endV
    rw [if_neg c]
theorem C_both {s : Hp} (hd : NDok d) (ho : owOk d ow) (hp : isPlan this) (h : EndsC s this n d ow) {X : Nat → Int} (hX : feasX d ow X) {v0 : Int} (hv0 : ∀ w, w < dW d → X w ≤ 2 * al d w + v0) (hv9 : v0 ≤ 10000000) {a b : Nat} (ha : a < dW d) (hb : b < dW d) (g : Int) :
    wp (F_Plan_bothEnd this a b g s) (fun z t => z = twoV d ow a b 0 g ∧ EndsC t this n d ow ∧ frsF this s t) := by
  have hW := hd.1
  have hF := D1ok_of hd ho hX hv0 hv9
  have ua := D1u hd ho hF ha
  have ub := D1u hd ho hF hb
  have a1 := hd.2.2.2.1 a ha
  have b1 := hd.2.2.2.1 b hb
  have va := ev (a := a) (by omega)
  have vb := ev (a := b) (by omega)
  have r1 := S1_rng hd ho hF (u := 2 * a + 1) (v := 2 * b) (by omega) (by omega)
  have r2 := S1_rng hd ho hF (u := 2 * a) (v := 2 * b + 1) (by omega) (by omega)
  unfold F_Plan_bothEnd F_Plan_bothEnd_29
  rw [gd_pos hp]
  refine wp_cl (C_fresh2 hd ho hp h hX hv0 hv9) (fun _ t ht => ?_)
  have hn := ht.2.1.1.1
  have fin : ∀ v, (-30000000 ≤ v ∧ v ≤ 30000000) → 2 * (al d a + al d b) + v = twoV d ow a b 0 g → wp (lt (t this 7).toNat fun q1 => gd (isNet q1) <| gd (0 ≤ (a : Int) ∧ (a : Int) < (12 : Int)) <| lt (t this 7).toNat fun q4 => gd (isNet q4) <| gd (0 ≤ (b : Int) ∧ (b : Int) < (12 : Int)) <| some (iadd (imul 2 (iadd (t (q1 + 2) (a : Int).toNat) (t (q4 + 2) (b : Int).toNat))) v, t)) (fun z t => z = twoV d ow a b 0 g ∧ EndsC t this n d ow ∧ frsF this s t) := by
    intro v hv e
    rw [lt_eq, lt_eq, ht.2.1.2.1.1, Int.toNat_natCast, gd_pos hn, gd_pos (by omega), gd_pos hn, gd_pos (by omega), Int.toNat_natCast, Int.toNat_natCast, ht.2.1.1.2.2.2.2.2.1 a ha, ht.2.1.1.2.2.2.2.2.1 b hb]
    refine wp_ret ⟨?_, ht.2⟩
    rw [← e]
    rw [iadd_ok (a := al d a) (by omega), imul_ok (by omega), iadd_ok (by omega)]
  refine wp_if (fun c => ?_) (fun c => ?_)
  · unfold F_Bounds_twiceLeastSum
    rw [gd_pos (isPlan_B hp), va.2, vb.1, gd_pos (by omega), gd_pos (by omega), C_tLeast hd ho hF hp ht.1 ha, cl2_some, C_tLeast hd ho hF hp ht.1 hb, cl2_some, Int.toNat_natCast, Int.toNat_natCast, ht.1 _ _ (by omega) (by omega), C_tighter hd hF (by omega) (by omega) (by unfold P1; rw [bar_o, bar_e, ineg_ok (by omega), isub_ok (by omega)]; omega), cl2_some, cl2_some, ineg_ok (by omega)]
    refine fin _ (by omega) ?_
    unfold twoV
    rw [if_pos rfl, if_pos c]
    omega
  · unfold F_Bounds_twiceMostSum
    rw [gd_pos (isPlan_B hp), va.1, vb.2, gd_pos (by omega), gd_pos (by omega), C_tMost hd hp ht.1 ha, cl2_some, C_tMost hd hp ht.1 hb, cl2_some, Int.toNat_natCast, Int.toNat_natCast, ht.1 _ _ (by omega) (by omega), C_tighter hd hF (by omega) (by omega) (by unfold P1; rw [bar_o, bar_e, iadd_ok (by omega)]), cl2_some, cl2_some]
    refine fin _ (by omega) ?_
    unfold twoV
    rw [if_pos rfl, if_neg c]
theorem C_ahead {s : Hp} (hd : NDok d) (ho : owOk d ow) (hp : isPlan this) (h : EndsC s this n d ow) {X : Nat → Int} (hX : feasX d ow X) {v0 : Int} (hv0 : ∀ w, w < dW d → X w ≤ 2 * al d w + v0) (hv9 : v0 ≤ 10000000) {a b : Nat} (ha : a < dW d) (hb : b < dW d) (g : Int) :
    wp (F_Plan_aheadEnd this a b g s) (fun z t => z = twoV d ow a b 1 g ∧ EndsC t this n d ow ∧ frsF this s t) := by
  have hW := hd.1
  have hF := D1ok_of hd ho hX hv0 hv9
  have a1 := hd.2.2.2.1 a ha
  have b1 := hd.2.2.2.1 b hb
  have hAh : ∀ (t : Hp), BdS t this d ow → ∀ x y : Nat, x < dW d → y < dW d → F_Bounds_twiceMostAhead (this + 1) x y t = some (S1 d ow (2 * x) (2 * y), t) := by
    intro t ht x y hx hy
    have ux := D1u hd ho hF hx
    have uy := D1u hd ho hF hy
    have vx := ev (a := x) (by omega)
    have vy := ev (a := y) (by omega)
    unfold F_Bounds_twiceMostAhead
    rw [gd_pos (isPlan_B hp), vx.1, vy.1, gd_pos (by omega), gd_pos (by omega), C_tMost hd hp ht hx, cl2_some, C_tLeast hd ho hF hp ht hy, cl2_some, Int.toNat_natCast, Int.toNat_natCast, ht _ _ (by omega) (by omega), C_tighter hd hF (by omega) (by omega) (by unfold P1; rw [bar_e, bar_e, isub_ok (by omega)]; omega), cl2_some]
  have r1 := S1_rng hd ho hF (u := 2 * a) (v := 2 * b) (by omega) (by omega)
  have r2 := S1_rng hd ho hF (u := 2 * b) (v := 2 * a) (by omega) (by omega)
  unfold F_Plan_aheadEnd F_Plan_aheadEnd_30
  rw [gd_pos hp]
  refine wp_cl (C_fresh2 hd ho hp h hX hv0 hv9) (fun _ t ht => ?_)
  have hn := ht.2.1.1.1
  have fin : ∀ v, (-30000000 ≤ v ∧ v ≤ 30000000) → 2 * (al d a - al d b) + v = twoV d ow a b 1 g → wp (lt (t this 7).toNat fun q1 => gd (isNet q1) <| gd (0 ≤ (a : Int) ∧ (a : Int) < (12 : Int)) <| lt (t this 7).toNat fun q4 => gd (isNet q4) <| gd (0 ≤ (b : Int) ∧ (b : Int) < (12 : Int)) <| some (iadd (imul 2 (isub (t (q1 + 2) (a : Int).toNat) (t (q4 + 2) (b : Int).toNat))) v, t)) (fun z t => z = twoV d ow a b 1 g ∧ EndsC t this n d ow ∧ frsF this s t) := by
    intro v hv e
    rw [lt_eq, lt_eq, ht.2.1.2.1.1, Int.toNat_natCast, gd_pos hn, gd_pos (by omega), gd_pos hn, gd_pos (by omega), Int.toNat_natCast, Int.toNat_natCast, ht.2.1.1.2.2.2.2.2.1 a ha, ht.2.1.1.2.2.2.2.2.1 b hb]
    refine wp_ret ⟨?_, ht.2⟩
    rw [← e]
    rw [isub_ok (a := al d a) (by omega), imul_ok (by omega), iadd_ok (by omega)]
  refine wp_if (fun c => ?_) (fun c => ?_)
  · rw [hAh t ht.1 b a hb ha, cl2_some, ineg_ok (by omega)]
    refine fin _ (by omega) ?_
    unfold twoV
    rw [if_neg (by decide), if_pos c]
    omega
  · rw [hAh t ht.1 a b ha hb, cl2_some]
    refine fin _ (by omega) ?_
    unfold twoV
    rw [if_neg (by decide), if_neg c]
end CEnds2
