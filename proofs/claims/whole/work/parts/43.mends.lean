/-! the check's ends -/
def mnV (V : Nat → Int) : Nat → Int
  | 0 => 0
  | n + 1 => min (mnV V n) (V n)
theorem mnV_ok (V : Nat → Int) : ∀ n, (∀ i, i < n → mnV V n ≤ V i) ∧ mnV V n ≤ 0 ∧ (mnV V n = 0 ∨ ∃ i, i < n ∧ mnV V n = V i)
  | 0 => ⟨fun i hi => absurd hi (by omega), Int.le_refl _, Or.inl rfl⟩
  | n + 1 => by
    obtain ⟨h1, h2, h3⟩ := mnV_ok V n
    have e : mnV V (n + 1) = min (mnV V n) (V n) := rfl
    rw [e]
    refine ⟨fun i hi => ?_, by omega, ?_⟩
    · by_cases e : i = n
      · subst e; omega
      · have := h1 i (by omega)
        omega
    · by_cases c : mnV V n ≤ V n
      · rcases h3 with h | ⟨i, h4, h5⟩
        · exact Or.inl (by omega)
        · exact Or.inr ⟨i, by omega, by omega⟩
      · exact Or.inr ⟨n, by omega, by omega⟩
section MEnds
variable {d : ND} {ow : Nat → Int} {b : Nat}
noncomputable def YV (d : ND) (ow : Nat → Int) (t : Nat) : Int := mnV (fun s => if D2 d ow s t < I2 then D2 d ow s t else 0) 24
theorem YV_edge (F2 : FWok I2 119998 24 (D2 d ow) 24) {f t : Nat} (hf : f < 24) (ht : t < 24) (h : wM d ow f t < I2) : YV d ow t - YV d ow f ≤ wM d ow f t := by
  have hI := I2_v
  obtain ⟨f1, f2, f3⟩ := mnV_ok (fun s => if D2 d ow s f < I2 then D2 d ow s f else 0) 24
  obtain ⟨t1, t2, t3⟩ := mnV_ok (fun s => if D2 d ow s t < I2 then D2 d ow s t else 0) 24
  have hle := D2_le (d := d) (ow := ow) f t
  have base : YV d ow f = 0 → YV d ow t - YV d ow f ≤ wM d ow f t := by
    intro e
    have h9 : mnV (fun s => if D2 d ow s t < I2 then D2 d ow s t else 0) 24 ≤ if D2 d ow f t < I2 then D2 d ow f t else 0 := t1 f hf
    rw [if_pos (by omega)] at h9
    have e2 : YV d ow t = mnV (fun s => if D2 d ow s t < I2 then D2 d ow s t else 0) 24 := rfl
    omega
  rcases f3 with h9 | ⟨s, hs, h9⟩
  · exact base h9
  · have h9 : YV d ow f = if D2 d ow s f < I2 then D2 d ow s f else 0 := h9
    by_cases c : D2 d ow s f < I2
    · rw [if_pos c] at h9
      have tr := F2.2.2.1 s f t hs hf ht c (by omega)
      have h8 : mnV (fun s => if D2 d ow s t < I2 then D2 d ow s t else 0) 24 ≤ if D2 d ow s t < I2 then D2 d ow s t else 0 := t1 s hs
      rw [if_pos tr.1] at h8
      have e2 : YV d ow t = mnV (fun s => if D2 d ow s t < I2 then D2 d ow s t else 0) 24 := rfl
      omega
    · rw [if_neg c] at h9
      exact base h9
theorem feas_of_D2 (hd : NDok d) (ho : owOk d ow) (F2 : FWok I2 119998 24 (D2 d ow) 24) : feasX d ow (fun w => YV d ow (2 * w) - YV d ow (2 * w + 1)) := by
  have hI := I2_v
  have hW := hd.1
  refine ⟨fun w hw => ⟨?_, fun hp => ?_⟩, fun r hr hop => ?_⟩
  · have ha := hd.2.2.2.1 w hw
    have e := wM_eo (ow := ow) hw hw
    rw [if_pos rfl] at e
    have h := YV_edge F2 (f := 2 * w) (t := 2 * w + 1) (by omega) (by omega) (by rw [e]; omega)
    rw [e] at h
    show 2 * al d w ≤ YV d ow (2 * w) - YV d ow (2 * w + 1)
    omega
  · have ha := hd.2.2.2.1 w hw
    have e := wM_eo (ow := ow) hw hw
    rw [if_pos rfl] at e
    have h := YV_edge F2 (f := 2 * w) (t := 2 * w + 1) (by omega) (by omega) (by rw [e]; omega)
    rw [e] at h
    have e2 := wM_oe (ow := ow) hw hw
    rw [if_pos rfl, if_pos hp] at e2
    have h2 := YV_edge F2 (f := 2 * w + 1) (t := 2 * w) (by omega) (by omega) (by rw [e2]; omega)
    rw [e2] at h2
    show YV d ow (2 * w) - YV d ow (2 * w + 1) = 2 * al d w
    omega
  · have hp := hd.2.2.1 r hr
    have hm := mkd_rng hd ho hr
    have e1 : wM d ow (2 * fs d r) (2 * sn d r + 1) = -mkd d ow r := by
      rw [wM_eo hp.1 hp.2.1, if_neg hp.2.2.1, rdO_of hd hr (Or.inl ⟨rfl, rfl⟩), if_pos ⟨by omega, hop⟩]
      rfl
    have e2 : wM d ow (2 * sn d r) (2 * fs d r + 1) = -mkd d ow r := by
      rw [wM_eo hp.2.1 hp.1, if_neg (fun z => hp.2.2.1 z.symm), rdO_of hd hr (Or.inr ⟨rfl, rfl⟩), if_pos ⟨by omega, hop⟩]
      rfl
    have h1 := YV_edge F2 (f := 2 * fs d r) (t := 2 * sn d r + 1) (by omega) (by omega) (by rw [e1]; omega)
    have h2 := YV_edge F2 (f := 2 * sn d r) (t := 2 * fs d r + 1) (by omega) (by omega) (by rw [e2]; omega)
    rw [e1] at h1
    rw [e2] at h2
    refine ⟨?_, fun htk => ?_⟩
    · show 2 * mkd d ow r ≤ (YV d ow (2 * fs d r) - YV d ow (2 * fs d r + 1)) + (YV d ow (2 * sn d r) - YV d ow (2 * sn d r + 1))
      omega
    · have p1 := ptn_of (ow := ow) hd hr htk (w := fs d r) (Or.inl rfl)
      have p2 := ptn_of (ow := ow) hd hr htk (w := sn d r) (Or.inr rfl)
      have e3 : wM d ow (2 * fs d r + 1) (2 * sn d r) = mkd d ow r := by
        rw [wM_oe hp.1 hp.2.1, if_neg hp.2.2.1, rdO_of hd hr (Or.inl ⟨rfl, rfl⟩), if_pos ⟨p1, by omega⟩]
        rfl
      have e4 : wM d ow (2 * sn d r + 1) (2 * fs d r) = mkd d ow r := by
        rw [wM_oe hp.2.1 hp.1, if_neg (fun z => hp.2.2.1 z.symm), rdO_of hd hr (Or.inr ⟨rfl, rfl⟩), if_pos ⟨p2, by omega⟩]
        rfl
      have h3 := YV_edge F2 (f := 2 * fs d r + 1) (t := 2 * sn d r) (by omega) (by omega) (by rw [e3]; omega)
      have h4 := YV_edge F2 (f := 2 * sn d r + 1) (t := 2 * fs d r) (by omega) (by omega) (by rw [e4]; omega)
      rw [e3] at h3
      rw [e4] at h4
      show (YV d ow (2 * fs d r) - YV d ow (2 * fs d r + 1)) + (YV d ow (2 * sn d r) - YV d ow (2 * sn d r + 1)) = 2 * mkd d ow r
      omega
/-! by program -/
theorem ix24 {f t : Nat} (hf : f < 24) (ht : t < 24) : iadd (imul 24 (f : Int)) (t : Int) = ((24 * f + t : Nat) : Int) := by
  rw [imul_ok (by omega), iadd_ok (by omega)]
  omega
theorem M_bound {s : Hp} {f t : Nat} (hf : f < 24) (ht : t < 24) (v : Int) : F_M_bound f t v s = some (0, hset s 38 (24 * f + t) (min v (s 38 (24 * f + t)))) := by
  unfold F_M_bound F_M_bound_41
  rw [ix24 hf ht, gd_pos (by omega), Int.toNat_natCast]
  by_cases c : s 38 (24 * f + t) ≤ v
  · rw [if_pos (lcmp_ge.mpr c), gd_pos (by omega), gd_pos (by omega), lt_eq, Int.min_eq_right c]
  · rw [if_neg (fun z => c (lcmp_ge.mp z)), gd_pos (by omega), lt_eq, Int.min_eq_left (by omega)]
def onlyF (s t : Hp) : Prop := ∀ q, q ≠ 38 → t q = s q
/-- the matrix as far as it is laid -/
def MM (s : Hp) (W : Nat) (α β : Nat → Nat → Int) (γ δ : Nat → Int) : Prop := (∀ f t, f < 24 → t < 24 → (W ≤ f / 2 ∨ W ≤ t / 2 ∨ f % 2 = t % 2) → s 38 (24 * f + t) = if f = t then 0 else I2) ∧
  ∀ a c, a < W → c < W → s 38 (24 * (2 * a) + (2 * c + 1)) = (if a = c then γ a else α a c) ∧ s 38 (24 * (2 * a + 1) + 2 * c) = if a = c then δ a else β a c
theorem MM_wM {s : Hp} (hW : dW d ≤ 12) {α β : Nat → Nat → Int} {γ δ : Nat → Int} (h : MM s (dW d) α β γ δ) (h1 : ∀ a c, a < dW d → c < dW d → a ≠ c → α a c = if rdO d a c (dR d) ≠ -1 ∧ ow (rdO d a c (dR d)).toNat ≠ -1 then -mkd d ow (rdO d a c (dR d)).toNat else I2)
    (h2 : ∀ a c, a < dW d → c < dW d → a ≠ c → β a c = if ptn d ow (dR d) a = rdO d a c (dR d) ∧ rdO d a c (dR d) ≠ -1 then mkd d ow (rdO d a c (dR d)).toNat else I2) (h3 : ∀ a, a < dW d → γ a = -2 * al d a) (h4 : ∀ a, a < dW d → δ a = if ptn d ow (dR d) a = -1 then 2 * al d a else I2) {f t : Nat} (hf : f < 24) (ht : t < 24) : s 38 (24 * f + t) = wM d ow f t := by
  by_cases c : dW d ≤ f / 2 ∨ dW d ≤ t / 2 ∨ f % 2 = t % 2
  · rw [h.1 f t hf ht c]
    by_cases e : f = t
    · rw [if_pos e, e, wM_self]
    · rw [if_neg e]
      unfold wM
      rw [if_neg e]
      split
      · rfl
      · rename_i hn
        rw [if_neg (by omega), if_neg (by omega), if_neg (by omega)]
  · obtain ⟨a, ea⟩ := node f
    obtain ⟨c', ec⟩ := node t
    rcases ea with rfl | rfl <;> rcases ec with rfl | rfl
    · omega
    · have ha : a < dW d := by omega
      have hc : c' < dW d := by omega
      rw [(h.2 a c' ha hc).1, wM_eo ha hc]
      by_cases e : a = c'
      · rw [if_pos e, if_pos e, h3 a ha]
      · rw [if_neg e, if_neg e, h1 a c' ha hc e]
    · have ha : a < dW d := by omega
      have hc : c' < dW d := by omega
      rw [(h.2 a c' ha hc).2, wM_oe ha hc]
      by_cases e : a = c'
      · rw [if_pos e, if_pos e, h4 a ha]
      · rw [if_neg e, if_neg e, h2 a c' ha hc e]
    · omega
theorem MM.cg {s t : Hp} {W : Nat} {α β α' β' : Nat → Nat → Int} {γ δ γ' δ' : Nat → Int} (h : MM s W α β γ δ) (ht : t 38 = s 38) (h1 : ∀ a c, a < W → c < W → a ≠ c → α' a c = α a c) (h2 : ∀ a c, a < W → c < W → a ≠ c → β' a c = β a c) (h3 : ∀ a, a < W → γ' a = γ a) (h4 : ∀ a, a < W → δ' a = δ a) : MM t W α' β' γ' δ' := by
  unfold MM
  rw [ht]
  refine ⟨h.1, fun a c ha hc => ?_⟩
  obtain ⟨p1, p2⟩ := h.2 a c ha hc
  rw [p1, p2]
  by_cases e : a = c
  · rw [if_pos e, if_pos e, if_pos e, if_pos e, h3 a ha, h4 a ha]
    exact ⟨rfl, rfl⟩
  · rw [if_neg e, if_neg e, if_neg e, if_neg e, h1 a c ha hc e, h2 a c ha hc e]
    exact ⟨rfl, rfl⟩
theorem MM.set_eo {s : Hp} {W : Nat} {α β : Nat → Nat → Int} {γ δ : Nat → Int} (hW : W ≤ 12) (h : MM s W α β γ δ) {a0 c0 : Nat} (ha : a0 < W) (hc : c0 < W) (v : Int) : MM (hset s 38 (24 * (2 * a0) + (2 * c0 + 1)) v) W (fun a c => if a = a0 ∧ c = c0 then v else α a c) β (fun a => if a = a0 ∧ a = c0 then v else γ a) δ := by
  refine ⟨fun f t hf ht hcn => ?_, fun a c h1 h2 => ?_⟩
  · rw [hset_get, if_neg (by omega)]
    exact h.1 f t hf ht hcn
  · obtain ⟨p1, p2⟩ := h.2 a c h1 h2
    constructor
    · rw [hset_get]
      by_cases e : a = a0 ∧ c = c0
      · rw [if_pos ⟨rfl, by omega⟩]
        by_cases e2 : a = c
        · rw [if_pos e2]
          exact (if_pos ⟨e.1, e2.trans e.2⟩).symm
        · rw [if_neg e2]
          exact (if_pos e).symm
      · rw [if_neg (fun z => e (by omega)), p1]
        by_cases e2 : a = c
        · rw [if_pos e2, if_pos e2]
          exact (if_neg (fun z => e ⟨z.1, e2 ▸ z.2⟩)).symm
        · rw [if_neg e2, if_neg e2]
          exact (if_neg e).symm
    · rw [hset_get, if_neg (by omega)]
      exact p2
theorem MM.set_oe {s : Hp} {W : Nat} {α β : Nat → Nat → Int} {γ δ : Nat → Int} (hW : W ≤ 12) (h : MM s W α β γ δ) {a0 c0 : Nat} (ha : a0 < W) (hc : c0 < W) (v : Int) : MM (hset s 38 (24 * (2 * a0 + 1) + 2 * c0) v) W α (fun a c => if a = a0 ∧ c = c0 then v else β a c) γ (fun a => if a = a0 ∧ a = c0 then v else δ a) := by
  refine ⟨fun f t hf ht hcn => ?_, fun a c h1 h2 => ?_⟩
  · rw [hset_get, if_neg (by omega)]
    exact h.1 f t hf ht hcn
  · obtain ⟨p1, p2⟩ := h.2 a c h1 h2
    constructor
    · rw [hset_get, if_neg (by omega)]
      exact p1
    · rw [hset_get]
      by_cases e : a = a0 ∧ c = c0
      · rw [if_pos ⟨rfl, by omega⟩]
        by_cases e2 : a = c
        · rw [if_pos e2]
          exact (if_pos ⟨e.1, e2.trans e.2⟩).symm
        · rw [if_neg e2]
          exact (if_pos e).symm
      · rw [if_neg (fun z => e (by omega)), p2]
        by_cases e2 : a = c
        · rw [if_pos e2, if_pos e2]
          exact (if_neg (fun z => e ⟨z.1, e2 ▸ z.2⟩)).symm
        · rw [if_neg e2, if_neg e2]
          exact (if_neg e).symm
end MEnds
