/-! a road's sum and test, read where a misfit may stand too; what a road leaves alone -/
section RoadF
variable {X : Cx} {s t u : Hp} {p c : Nat}
def reT (X : Cx) (c cm : Nat) (s1 t1 : Hp) (a : Int) : Cx := ((xf X, xN X, xkQ X), (xn X, xb X, xW X, xlQ X, xmQ X), (c, cm), (s1, t1), a)
theorem reads_bad (h : 0 < t 0 8) (a : Int) : F_M_reads a t = some (0, t) := by
  unfold F_M_reads
  rw [if_neg (by omega)]
theorem LSt_stuck {n : Nat} {t' : Hp} (h : LSt X n 0 t 0 t') : t = t' := by
  have e := h 1
  have e0 : ∀ (m : Nat) (u : Hp), F_M_reads_43 (xa X) (m + 1) (0, u) = some (0, u) := fun m u => by
    unfold F_M_reads_43
    rw [loopF_s]
    dsimp only
    unfold F_M_reads_43_b
    rw [if_pos rfl]
  have e1 : 1 + n = n + 1 := by omega
  rw [e1, e0, show (1 : Nat) = 0 + 1 from rfl, e0] at e
  injection e with e
  injection e with _ e
theorem reads_any (hX : FX X) {n0 : Nat} (hF : (xa X = 0 ∧ n0 = 3) ∨ (xa X = 1 ∧ n0 = 0)) (hC : CSt X s p c []) (hc : c ≤ p) (hh : ChS X t p) (h30 : t 0 30 = (xd X : Int)) (hcm : xd X ≤ p) (h31 : t 0 31 = xb X) :
    (∃ s' k pl u, F_rd 40 n0 0 s = some (0, s') ∧ CF X s' k pl ∧ F_M_reads (xa X) t = some (0, u) ∧ ChF X u k pl) ∨ (∃ s' u, F_rd 40 n0 0 s = some (1, s') ∧ F_M_reads (xa X) t = some (0, u) ∧ RdOk X p s' u) := by
  by_cases cm : kX X p = -2
  · left
    have hb := hh.bad cm
    have hS := SP_all hX 40 n0 0 (by omega) (by decide) (by omega)
    have hK : KSt X t 0 t p 0 1 (xa X) 0 1 0 [] [] [] := ⟨hh.1, lwF_rfl, Or.inl ⟨cm, rfl, hb.1, hb.2⟩⟩
    have hpre : preN n0 (xa X) 0 1 (kX X p) := by
      rcases hF with ⟨a, b⟩ | ⟨a, b⟩
      · subst b
        exact ⟨Or.inl rfl, Or.inr (Or.inl (by omega))⟩
      · subst b
        exact ⟨Or.inl a, rfl, rfl⟩
    rcases SPg_at hS hC (e := 0) (by omega) hK hpre True.intro (by show 0 + 3 * (8 - 0) + (6 - n0) ≤ 64; omega) with ⟨s', e1, k, pl, hcf, n, u, hn, hL, h8, h9, hk, hxu⟩ | ⟨s', e1, hm0, _⟩
    · have e := LSt_stuck hL
      subst e
      exact ⟨s', k, pl, t, e1, hcf, reads_bad (by omega) _, hxu, h8, h9, hk⟩
    · exact absurd cm hm0
  · have T := hh.tk hX hC.2.2.2.2 cm
    rcases reads_both hX hF hC hc hh.1 T.2.2 h30 hcm h31 with ⟨s', k, pl, u, e1, hcf, e2, h8, h9, hk, hxu⟩ | h
    · exact Or.inl ⟨s', k, pl, u, e1, hcf, e2, hxu, h8, h9, hk⟩
    · exact Or.inr h
/-- what a road leaves as it was: the check -/
def GM (lo b y cm : Nat) (t u : Hp) : Prop := (∀ q, q ≠ 0 → (q < 8 ∨ (14 < q ∧ q < 17) ∨ 24 < q) → u q = t q) ∧ (∀ q, 8 ≤ q → q ≤ 14 → ∀ i, (i ≠ y ∨ q < lo) → u q i = t q i) ∧ (∀ i, xmI i → u 0 i = t 0 i) ∧ ∀ i, (i < 900 * b + cm ∨ 900 * b + 900 ≤ i) → u 17 i = t 17 i ∧ u 18 i = t 18 i
variable {lo b y cm nn R : Nat}
theorem GM_rfl : GM lo b y cm t t := ⟨fun _ _ _ => rfl, fun _ _ _ _ _ => rfl, fun _ _ => rfl, fun _ _ => ⟨rfl, rfl⟩⟩
theorem GM_trans {w : Hp} (h : GM lo b y cm t u) (h2 : GM lo b y cm u w) : GM lo b y cm t w := ⟨fun q a c => by rw [h2.1 q a c, h.1 q a c], fun q a c i e => by rw [h2.2.1 q a c i e, h.2.1 q a c i e], fun i a => by rw [h2.2.2.1 i a, h.2.2.1 i a], fun i a => by rw [(h2.2.2.2 i a).1, (h2.2.2.2 i a).2]; exact h.2.2.2 i a⟩
theorem GM_lo {lo' : Nat} (h : GM lo b y cm t u) (hl : lo' ≤ lo) : GM lo' b y cm t u := ⟨h.1, fun q a c i e => h.2.1 q a c i (by omega), h.2.2.1, h.2.2.2⟩
theorem GM_nx (h : nxF t u) : GM lo b y cm t u := ⟨fun q a _ => h.1 q a, fun q a _ _ _ => by rw [h.1 q (by omega)], fun i a => h.2 i a.1, fun i _ => by rw [h.1 17 (by decide), h.1 18 (by decide)]; exact ⟨rfl, rfl⟩⟩
theorem GM_xm {cm' : Nat} (h : xmF (900 * b + cm', 900 * b + 900) t u) (hc : cm ≤ cm') : GM lo b y cm t u := ⟨fun q a c => h.1 q a (by omega), fun q a c i _ => by rw [h.1 q (by omega) (by omega)], h.2.1, fun i a => h.2.2 i (by dsimp only; omega)⟩
theorem GM_set (h : GM lo b y cm t u) {q : Nat} {x : Int} (hq : lo ≤ q ∧ 8 ≤ q ∧ q ≤ 14) : GM lo b y cm t (hset u q y x) := ⟨fun q' a c => by rw [hset_obj _ _ _ _ (by omega)]; exact h.1 q' a c, fun q' a c i e => by rw [hset_get, if_neg (by omega)]; exact h.2.1 q' a c i e, fun i a => by rw [hset_obj _ _ _ _ (by omega)]; exact h.2.2.1 i a, fun i a => by rw [hset_obj _ _ _ _ (by omega), hset_obj _ _ _ _ (by omega)]; exact h.2.2.2 i a⟩
theorem GM.tf (h : GM lo b (30 * b + R) cm t u) (hR : R < 30) : TfM b t u := by
  refine ⟨fun q a c => h.1 q a (by omega), h.2.2.1, fun q a c i hi => ?_⟩
  by_cases c1 : q < 8
  · rw [h.1 q (by omega) (Or.inl c1)]
  by_cases c2 : q ≤ 14
  · have e : bkS q = 30 := by
      unfold bkS
      rw [if_neg (by omega), if_neg (by omega), if_pos (by omega)]
    rw [e] at hi
    exact h.2.1 q (by omega) c2 i (Or.inl (by omega))
  by_cases c3 : q < 17
  · rw [h.1 q (by omega) (by omega)]
  have e : bkS q = 900 := by
    unfold bkS
    rw [if_neg (by omega), if_neg (by omega), if_neg (by omega), if_neg (by omega)]
  rw [e] at hi
  have h3 := h.2.2.2 i
  by_cases c4 : q = 17
  · rw [c4]
    exact (h3 (by omega)).1
  · have : q = 18 := by omega
    rw [this]
    exact (h3 (by omega)).2
/-- and the class -/
def GC (nn R c : Nat) (s u : Hp) : Prop := (∀ q, q ≠ 3 → q ≠ nn → q ≠ nn + 36 → q ≠ nn + 3 → q ≠ nn + 4 → u q = s q) ∧ (∀ i, i ≠ R → u (nn + 3) i = s (nn + 3) i ∧ u (nn + 4) i = s (nn + 4) i) ∧ (∀ i, i ≠ 14 → u nn i = s nn i) ∧ (∀ k, k < c → u (nn + 36) k = s (nn + 36) k) ∧ ∀ i, i < 2 ∨ 7 < i → u 3 i = s 3 i
theorem GC_trans {w : Hp} (h : GC nn R c s u) (h2 : GC nn R c u w) : GC nn R c s w := ⟨fun q i1 i2 i3 i4 i5 => by rw [h2.1 q i1 i2 i3 i4 i5, h.1 q i1 i2 i3 i4 i5], fun i i1 => by rw [(h2.2.1 i i1).1, (h2.2.1 i i1).2]; exact h.2.1 i i1, fun i i1 => by rw [h2.2.2.1 i i1, h.2.2.1 i i1], fun k i1 => by rw [h2.2.2.2.1 k i1, h.2.2.2.1 k i1], fun i i1 => by rw [h2.2.2.2.2 i i1, h.2.2.2.2 i i1]⟩
theorem GC_tn {c' : Nat} (hn : nn = 50 ∨ nn = 4) (h : TnF nn c' s u) (hc : c ≤ c') : GC nn R c s u := ⟨fun q i1 i2 i3 _ _ => h.1 q i1 i2 i3, fun i _ => by rw [h.1 _ (by omega) (by omega) (by omega), h.1 _ (by omega) (by omega) (by omega)]; exact ⟨rfl, rfl⟩, h.2.1, fun k hk => h.2.2.1 k (by omega), h.2.2.2⟩
theorem GC_set {q : Nat} {x : Int} (hn : nn = 50 ∨ nn = 4) (h : GC nn R c s u) (hq : q = nn + 3 ∨ q = nn + 4) : GC nn R c s (hset u q R x) := by
  refine ⟨fun q' i1 i2 i3 i4 i5 => by rw [hset_obj _ _ _ _ (by omega)]; exact h.1 q' i1 i2 i3 i4 i5, fun i i1 => ?_, fun i i1 => by rw [hset_obj _ _ _ _ (by omega)]; exact h.2.2.1 i i1, fun k i1 => by rw [hset_obj _ _ _ _ (by omega)]; exact h.2.2.2.1 k i1, fun i i1 => by rw [hset_obj _ _ _ _ (by omega)]; exact h.2.2.2.2 i i1⟩
  rw [hset_get, if_neg (fun z => i1 z.2), hset_get, if_neg (fun z => i1 z.2)]
  exact h.2.1 i i1
theorem GC.tf (h : GC nn R c s u) : TfC nn s u := ⟨fun q i1 i2 => h.1 q i1 (by omega) (by omega) (by omega) (by omega), h.2.2.2.2⟩
end RoadF
