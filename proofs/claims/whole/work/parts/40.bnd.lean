/-! the class's bounds by program -/
section Bnd
variable {d : ND} {ow : Nat → Int} {q n this : Nat}
def BM (s : Hp) (q W : Nat) (α β : Nat → Nat → Int) (γ : Nat → Int) : Prop := s q 1 = ((2 * W : Nat) : Int) ∧ ∀ a c, a < W → c < W →
  s (q + 1 + 1 + 2 * a) (2 * c) = (if a = c then 0 else I1) ∧ s (q + 1 + 1 + (2 * a + 1)) (2 * c + 1) = (if a = c then 0 else I1) ∧
  s (q + 1 + 1 + (2 * a + 1)) (2 * c) = (if a = c then 0 else α a c) ∧ s (q + 1 + 1 + 2 * a) (2 * c + 1) = if a = c then γ a else β a c
def bdF (q : Nat) (σ s : Hp) : Prop := ∀ x, x < q ∨ q + 25 < x → s x = σ x
def bdR (q : Nat) (σ s : Hp) : Prop := ∀ x, x ≤ q ∨ q + 25 < x → s x = σ x
theorem bdF_trans {σ s t : Hp} (h : bdF q σ s) (h2 : bdF q s t) : bdF q σ t := fun x hx => by rw [h2 x hx, h x hx]
theorem ev {a : Nat} (h : a < 12) : imul 2 (a : Int) = ((2 * a : Nat) : Int) ∧ iadd (imul 2 (a : Int)) 1 = ((2 * a + 1 : Nat) : Int) := by
  rw [imul_ok (by omega), iadd_ok (by omega)]
  omega
theorem isB (h : isBounds q) : ∀ m, m < 24 → iaB shC (q + 1 + 1 + m) = true ∧ lenOf shC (q + 1 + 1 + m) = 24 := by
  rcases h with rfl | rfl <;> decide
theorem C_bbegin {σ : Hp} {W : Nat} (hq : isBounds q) (hW : W ≤ 12) : wp (F_Bounds_begin q W σ) (fun _ s => BM s q W (fun _ _ => I1) (fun _ _ => I1) (fun _ => I1) ∧ bdF q σ s) := by
  unfold F_Bounds_begin
  have e0 : imin (imul 2 (W : Int)) 24 = ((2 * W : Nat) : Int) := by
    rw [imul_ok (by omega)]
    unfold imin
    rw [if_neg (by omega)]
    omega
  rw [gd_pos hq, lt_eq, e0]
  unfold F_Bounds_begin_14
  refine wp_loop (fun a : Int × Hp => ∃ m : Nat, m ≤ 2 * W ∧ a.1 = (m : Int) ∧ a.2 q 1 = ((2 * W : Nat) : Int) ∧ bdF q σ a.2 ∧ ∀ u v, u < m → v < 24 → a.2 (q + 1 + 1 + u) v = if u = v then 0 else I1) (fun a => (300 - a.1).toNat) ?_ FU _ ?_ ?_
  · intro a k hp ih
    obtain ⟨x, t⟩ := a
    obtain ⟨m, hm, e1, h1, hf, hM⟩ := hp
    dsimp only at e1 h1 hf hM ih ⊢
    subst e1
    unfold F_Bounds_begin_14_b
    rw [h1]
    refine wp_if (fun c => ?_) (fun c => ?_)
    · unfold F_Bounds_begin_50
      refine wp_loop (fun a : Int × Hp => ∃ p : Nat, p ≤ W ∧ a.1 = (p : Int) ∧ a.2 q 1 = ((2 * W : Nat) : Int) ∧ bdF q σ a.2 ∧ ∀ u v, u < 2 * W → v < 24 → a.2 (q + 1 + 1 + u) v = if u = v ∨ (u % 2 = 1 ∧ v + 1 = u ∧ u < 2 * p) then 0 else I1) (fun a => (300 - a.1).toNat) ?_ FU _ ?_ ?_
      · intro a k2 hp2 ih2
        obtain ⟨y, u⟩ := a
        obtain ⟨p, hp9, e2, h2, hf2, hM2⟩ := hp2
        dsimp only at e2 h2 hf2 hM2 ih2 ⊢
        subst e2
        unfold F_Bounds_begin_50_b
        refine wp_if (fun c2 => ?_) (fun c2 => ?_)
        · refine wp_ret ⟨⟨h2, fun a c ha hc => ⟨?_, ?_, ?_, ?_⟩⟩, hf2⟩
          · rw [hM2 _ _ (by omega) (by omega)]
            by_cases e : a = c
            · rw [if_pos e, if_pos (Or.inl (by omega))]
            · rw [if_neg e, if_neg (by omega)]
          · rw [hM2 _ _ (by omega) (by omega)]
            by_cases e : a = c
            · rw [if_pos e, if_pos (Or.inl (by omega))]
            · rw [if_neg e, if_neg (by omega)]
          · rw [hM2 _ _ (by omega) (by omega)]
            by_cases e : a = c
            · rw [if_pos e, if_pos (Or.inr ⟨by omega, by omega, by omega⟩)]
            · rw [if_neg e, if_neg (by omega)]
          · rw [hM2 _ _ (by omega) (by omega), if_neg (by omega)]
            split <;> rfl
        · have hv := ev (a := p) (by omega)
          rw [hv.2, hv.1, gd_pos (by omega), gd_pos (by omega), lt_eq, lt_eq, Int.toNat_natCast, Int.toNat_natCast, iadd_ok (by omega)]
          refine ih2 _ ⟨p + 1, by omega, by simp, (congrFun (hset_obj _ _ _ _ (show q ≠ q + 1 + 1 + (2 * p + 1) by omega)) 1).trans h2, fun x hx => (hset_obj _ _ _ _ (by omega)).trans (hf2 x hx), fun a b ha hb => ?_⟩ (by dsimp only; omega)
          show hset u (q + 1 + 1 + (2 * p + 1)) (2 * p) 0 (q + 1 + 1 + a) b = _
          rw [hset_get, hM2 a b ha hb]
          by_cases e : a = 2 * p + 1 ∧ b = 2 * p
          · rw [if_pos ⟨by omega, e.2⟩, if_pos (Or.inr ⟨by omega, by omega, by omega⟩)]
          · rw [if_neg (fun z => e ⟨by omega, z.2⟩)]
            by_cases e2 : a = b ∨ (a % 2 = 1 ∧ b + 1 = a ∧ a < 2 * p)
            · rw [if_pos e2, if_pos (e2.elim Or.inl (fun z => Or.inr ⟨z.1, z.2.1, by omega⟩))]
            · rw [if_neg e2, if_neg (fun z => e2 (z.elim Or.inl (fun z => Or.inr ⟨z.1, z.2.1, by omega⟩)))]
      · refine ⟨0, by omega, rfl, h1, hf, fun u v hu hv => ?_⟩
        show t (q + 1 + 1 + u) v = _
        rw [hM u v (by omega) hv]
        by_cases e : u = v
        · rw [if_pos e, if_pos (Or.inl e)]
        · rw [if_neg e, if_neg (by omega)]
      · rw [FU_eq]
        show (300 - (0 : Int)).toNat < 20000
        omega
    · have m24 : (0 : Int) ≤ (m : Int) ∧ (m : Int) < 24 := by omega
      rw [gd_pos m24, Int.toNat_natCast]
      refine wp_cl (J_fill (n := 24) (isB hq m (by omega)).1 (isB hq m (by omega)).2 (by decide) t) (fun _ u hu => ?_)
      rw [gd_pos m24, gd_pos m24, lt_eq, lt_eq, iadd_ok (by omega)]
      refine ih _ ⟨m + 1, by omega, by simp, ?_, fun x hx => ?_, fun a b ha hb => ?_⟩ (by dsimp only; omega)
      · show hset u (q + 1 + 1 + m) m 0 q 1 = _
        rw [hset_obj _ _ _ _ (by omega), hu.1 q (by omega)]
        exact h1
      · show hset u (q + 1 + 1 + m) m 0 x = _
        rw [hset_obj _ _ _ _ (by omega), hu.1 x (by omega)]
        exact hf x hx
      · show hset u (q + 1 + 1 + m) m 0 (q + 1 + 1 + a) b = _
        rw [hset_get]
        by_cases e : a = m
        · subst e
          by_cases e2 : b = a
          · rw [if_pos ⟨rfl, e2⟩, if_pos e2.symm]
          · rw [if_neg (fun z => e2 z.2), if_neg (fun z => e2 z.symm), hu.2 b hb]
            rfl
        · rw [if_neg (fun z => e (by omega)), hu.1 _ (by omega)]
          exact hM a b (by omega) hb
  · refine ⟨0, by omega, rfl, by show hset σ q 1 _ q 1 = _; exact hset_same _ _ _ _, fun x hx => hset_obj _ _ _ _ (by omega), fun u v hu => absurd hu (by omega)⟩
  · rw [FU_eq]
    show (300 - (0 : Int)).toNat < 20000
    omega
theorem C_atLeast {s : Hp} {W : Nat} {α β : Nat → Nat → Int} {γ : Nat → Int} (hq : isBounds q) (hW : W ≤ 12) (h : BM s q W α β γ) {a0 c0 : Nat} (ha : a0 < W) (hc : c0 < W) (hne : a0 ≠ c0) {g : Int} (hg : 0 ≤ g ∧ g ≤ 119998) :
    wp (F_Bounds_atLeast q a0 c0 g s) (fun _ t => BM t q W (fun a c => if (a = a0 ∧ c = c0) ∨ (a = c0 ∧ c = a0) then -g else α a c) β γ ∧ bdR q s t) := by
  have v1 := ev (a := a0) (by omega)
  have v2 := ev (a := c0) (by omega)
  unfold F_Bounds_atLeast
  rw [gd_pos hq, v1.2, v1.1, v2.2, v2.1, gd_pos (by omega), gd_pos (by omega), lt_eq, gd_pos (by omega), gd_pos (by omega), lt_eq, ineg_ok (by omega)]
  simp only [Int.toNat_natCast]
  refine wp_ret ⟨⟨by rw [hset_obj _ _ _ _ (by omega), hset_obj _ _ _ _ (by omega)]; exact h.1, fun a c h1 h2 => ?_⟩, fun x hx => by rw [hset_obj _ _ _ _ (by omega), hset_obj _ _ _ _ (by omega)]⟩
  obtain ⟨p1, p2, p3, p4⟩ := h.2 a c h1 h2
  refine ⟨?_, ?_, ?_, ?_⟩
  · rw [hset_obj _ _ _ _ (by omega), hset_obj _ _ _ _ (by omega)]; exact p1
  · rw [hset_get, if_neg (by omega), hset_get, if_neg (by omega)]; exact p2
  · rw [hset_get, hset_get, p3]
    by_cases e : a = c
    · rw [if_pos e, if_neg (by omega), if_neg (by omega)]
      rw [if_pos e]
    · rw [if_neg e]
      by_cases e1 : a = c0 ∧ c = a0
      · rw [if_pos (by omega), if_neg e]
        exact (if_pos (Or.inr e1)).symm
      · rw [if_neg (by omega)]
        by_cases e2 : a = a0 ∧ c = c0
        · rw [if_pos (by omega), if_neg e]
          exact (if_pos (Or.inl e2)).symm
        · rw [if_neg (by omega), if_neg e]
          exact (if_neg (fun z => z.elim e2 e1)).symm
  · rw [hset_obj _ _ _ _ (by omega), hset_obj _ _ _ _ (by omega)]; exact p4
theorem C_atMost {s : Hp} {W : Nat} {α β : Nat → Nat → Int} {γ : Nat → Int} (hq : isBounds q) (hW : W ≤ 12) (h : BM s q W α β γ) {a0 c0 : Nat} (ha : a0 < W) (hc : c0 < W) (hne : a0 ≠ c0) {g : Int} :
    wp (F_Bounds_atMost q a0 c0 g s) (fun _ t => BM t q W α (fun a c => if (a = a0 ∧ c = c0) ∨ (a = c0 ∧ c = a0) then g else β a c) γ ∧ bdR q s t) := by
  have v1 := ev (a := a0) (by omega)
  have v2 := ev (a := c0) (by omega)
  unfold F_Bounds_atMost
  rw [gd_pos hq, v1.2, v1.1, v2.2, v2.1, gd_pos (by omega), gd_pos (by omega), lt_eq, gd_pos (by omega), gd_pos (by omega), lt_eq]
  simp only [Int.toNat_natCast]
  refine wp_ret ⟨⟨by rw [hset_obj _ _ _ _ (by omega), hset_obj _ _ _ _ (by omega)]; exact h.1, fun a c h1 h2 => ?_⟩, fun x hx => by rw [hset_obj _ _ _ _ (by omega), hset_obj _ _ _ _ (by omega)]⟩
  obtain ⟨p1, p2, p3, p4⟩ := h.2 a c h1 h2
  refine ⟨?_, ?_, ?_, ?_⟩
  · rw [hset_get, if_neg (by omega), hset_get, if_neg (by omega)]; exact p1
  · rw [hset_obj _ _ _ _ (by omega), hset_obj _ _ _ _ (by omega)]; exact p2
  · rw [hset_obj _ _ _ _ (by omega), hset_obj _ _ _ _ (by omega)]; exact p3
  · rw [hset_get, hset_get, p4]
    by_cases e : a = c
    · rw [if_pos e, if_neg (by omega), if_neg (by omega)]
      rw [if_pos e]
    · rw [if_neg e]
      by_cases e1 : a = c0 ∧ c = a0
      · rw [if_pos (by omega), if_neg e]
        exact (if_pos (Or.inr e1)).symm
      · rw [if_neg (by omega)]
        by_cases e2 : a = a0 ∧ c = c0
        · rw [if_pos (by omega), if_neg e]
          exact (if_pos (Or.inl e2)).symm
        · rw [if_neg (by omega), if_neg e]
          exact (if_neg (fun z => z.elim e2 e1)).symm
theorem C_nothing {s : Hp} {W : Nat} {α β : Nat → Nat → Int} {γ : Nat → Int} (hq : isBounds q) (hW : W ≤ 12) (h : BM s q W α β γ) {a0 : Nat} (ha : a0 < W) :
    wp (F_Bounds_nothingFor q a0 s) (fun _ t => BM t q W α β (fun a => if a = a0 then 0 else γ a) ∧ bdR q s t) := by
  have v1 := ev (a := a0) (by omega)
  unfold F_Bounds_nothingFor
  rw [gd_pos hq, v1.2, v1.1, gd_pos (by omega), gd_pos (by omega), lt_eq]
  simp only [Int.toNat_natCast]
  refine wp_ret ⟨⟨by rw [hset_obj _ _ _ _ (by omega)]; exact h.1, fun a c h1 h2 => ?_⟩, fun x hx => by rw [hset_obj _ _ _ _ (by omega)]⟩
  obtain ⟨p1, p2, p3, p4⟩ := h.2 a c h1 h2
  refine ⟨?_, ?_, ?_, ?_⟩
  · rw [hset_get, if_neg (by omega)]; exact p1
  · rw [hset_obj _ _ _ _ (by omega)]; exact p2
  · rw [hset_obj _ _ _ _ (by omega)]; exact p3
  · rw [hset_get, p4]
    by_cases e : a = c
    · rw [if_pos e]
      by_cases e1 : a = a0
      · rw [if_pos (by omega), if_pos e]
        exact (if_pos e1).symm
      · rw [if_neg (by omega), if_pos e]
        exact (if_neg e1).symm
    · rw [if_neg e, if_neg (by omega), if_neg e]
/-- the matrix, closed -/
theorem C_close {s : Hp} {w : Nat → Nat → Int} {n : Nat} (hq : isBounds q) (hn : n ≤ 24) (h1 : s q 1 = (n : Int)) (hM : ∀ u v, u < n → v < n → s (q + 1 + 1 + u) v = w u v)
    (HF : ∀ k, k ≤ n → FWok I1 119998 n (FWn I1 w k) k ∧ ∀ a b, a < n → b < n → FWn I1 w k a b < I1 → -10000000 ≤ FWn I1 w k a b) :
    wp (F_Bounds_close q s) (fun _ t => (∀ u v, u < n → v < n → t (q + 1 + 1 + u) v = FWn I1 w n u v) ∧ bdR q s t) := by
  have hI := I1_v
  have small : ∀ k, k ≤ n → ∀ a b, a < n → b < n → FWn I1 w k a b < I1 → -10000000 ≤ FWn I1 w k a b ∧ FWn I1 w k a b ≤ 2999950 := fun k hk a b ha hb h => by
    have h1 := (HF k hk).1.2.2.2 a b ha hb h
    have h2 := cnF_le I1 (FWn I1 w k) a b k
    exact ⟨(HF k hk).2 a b ha hb h, by omega⟩
  have top : ∀ k, k ≤ n → ∀ a b, a < n → b < n → FWn I1 w k a b ≤ I1 := fun k hk a b ha hb => (HF k hk).1.2.1 a b ha hb
  unfold F_Bounds_close
  rw [gd_pos hq]
  unfold F_Bounds_close_2
  refine wp_loop (fun a : Int × Hp => ∃ k : Nat, k ≤ n ∧ a.1 = (k : Int) ∧ bdR q s a.2 ∧ ∀ u v, u < n → v < n → a.2 (q + 1 + 1 + u) v = FWn I1 w k u v) (fun a => (300 - a.1).toNat) ?_ FU _ ?_ ?_
  · intro a k2 hp ih
    obtain ⟨x, t⟩ := a
    obtain ⟨k, hk, e0, hf, hMt⟩ := hp
    dsimp only at e0 hf hMt ih ⊢
    subst e0
    unfold F_Bounds_close_2_b
    rw [hf q (by omega), h1]
    refine wp_if (fun c => ?_) (fun c => ?_)
    · have ek : k = n := by omega
      subst ek
      exact wp_ret ⟨hMt, hf⟩
    · have hkn : k < n := by omega
      have dk : FWn I1 w k k k = 0 := (HF k hk).1.1 k hkn
      have colk : ∀ a, FWn I1 w (k + 1) a k = FWn I1 w k a k := fun a => by
        rw [FWn_succ]
        unfold fwS
        rw [if_neg (fun z => by have := z.2.2; omega)]
      have rowk : ∀ b, FWn I1 w (k + 1) k b = FWn I1 w k k b := fun b => by
        rw [FWn_succ]
        unfold fwS
        rw [if_neg (fun z => by have := z.2.2; omega)]
      unfold F_Bounds_close_12
      refine wp_loop (fun a : Int × Int × Hp => ∃ u : Nat, u ≤ n ∧ a.1 = (k : Int) ∧ a.2.1 = (u : Int) ∧ bdR q s a.2.2 ∧ ∀ x y, x < n → y < n → a.2.2 (q + 1 + 1 + x) y = if x < u then FWn I1 w (k + 1) x y else FWn I1 w k x y) (fun a => (300 - a.2.1).toNat) ?_ FU _ ?_ ?_
      · intro a k12 hp2 ih2
        obtain ⟨y1, y2, p⟩ := a
        obtain ⟨u, hu, e1, e2, hfp, hMp⟩ := hp2
        dsimp only at e1 e2 hfp hMp ih2 ⊢
        subst e1 e2
        unfold F_Bounds_close_12_b
        rw [hfp q (by omega), h1]
        refine wp_if (fun c2 => ?_) (fun c2 => ?_)
        · rw [lt_eq, iadd_ok (by omega)]
          refine ih _ ⟨k + 1, by omega, by simp, hfp, fun x y hx hy => ?_⟩ (by dsimp only; omega)
          show p (q + 1 + 1 + x) y = _
          rw [hMp x y hx hy, if_pos (by omega)]
        · have hun : u < n := by omega
          have head : p (q + 1 + 1 + u) k = FWn I1 w k u k := by
            rw [hMp u k hun hkn, if_neg (by omega)]
          rw [gd_pos (by omega), gd_pos (by omega), lt_eq, Int.toNat_natCast, Int.toNat_natCast, head]
          unfold F_Bounds_close_32
          refine wp_loop (fun a : Int × Int × Int × Int × Hp => ∃ v : Nat, v ≤ n ∧ a.1 = (k : Int) ∧ a.2.1 = (u : Int) ∧ a.2.2.1 = FWn I1 w k u k ∧ a.2.2.2.1 = (v : Int) ∧ bdR q s a.2.2.2.2 ∧ ∀ x y, x < n → y < n → a.2.2.2.2 (q + 1 + 1 + x) y = if x < u ∨ (x = u ∧ y < v) then FWn I1 w (k + 1) x y else FWn I1 w k x y) (fun a => (300 - a.2.2.2.1).toNat) ?_ FU _ ?_ ?_
          · intro a k32 hp3 ih3
            obtain ⟨z1, z2, z3, z4, r⟩ := a
            obtain ⟨v, hv, e1, e2, e3, e4, hfr, hMr⟩ := hp3
            dsimp only at e1 e2 e3 e4 hfr hMr ih3 ⊢
            subst e1 e2 e3 e4
            have rowdone : (∀ y, y < n → v ≤ y → FWn I1 w (k + 1) u y = FWn I1 w k u y) → wp (F_Bounds_close_100 k12 q k u r) (fun _ t => (∀ u v, u < n → v < n → t (q + 1 + 1 + u) v = FWn I1 w n u v) ∧ bdR q s t) := by
              intro hy
              unfold F_Bounds_close_100
              rw [lt_eq, iadd_ok (by omega)]
              refine ih2 _ ⟨u + 1, by omega, rfl, by simp, hfr, fun x y hx hy9 => ?_⟩ (by dsimp only; omega)
              show r (q + 1 + 1 + x) y = _
              rw [hMr x y hx hy9]
              by_cases e : x < u
              · rw [if_pos (Or.inl e), if_pos (by omega)]
              · by_cases e2 : x = u
                · subst e2
                  rw [if_pos (show x < x + 1 by omega)]
                  by_cases e3 : y < v
                  · rw [if_pos (Or.inr ⟨rfl, e3⟩)]
                  · rw [if_neg (by omega), hy y hy9 (by omega)]
                · rw [if_neg (by omega), if_neg (by omega)]
            unfold F_Bounds_close_32_b
            rw [hfr q (by omega), h1]
            refine wp_if (fun c3 => ?_) (fun c3 => ?_)
            · refine rowdone (fun y hy _ => ?_)
              rw [FWn_succ]
              unfold fwS
              rw [if_neg (fun z => by have := z.1; omega)]
            · refine wp_if (fun c4 => rowdone (fun y hy h9 => absurd hy (by omega))) (fun c4 => ?_)
              have hvn : v < n := by omega
              have tail : r (q + 1 + 1 + k) v = FWn I1 w k k v := by
                rw [hMr k v hkn hvn]
                split
                · exact rowk v
                · rfl
              have cell : r (q + 1 + 1 + u) v = FWn I1 w k u v := by rw [hMr u v hun hvn, if_neg (by omega)]
              have hd1 : FWn I1 w k u k < I1 := by
                have := top k hk u k hun hkn
                omega
              have next : ∀ r2 : Hp, bdR q s r2 → (∀ x y, x < n → y < n → r2 (q + 1 + 1 + x) y = if x = u ∧ y = v then FWn I1 w (k + 1) u v else r (q + 1 + 1 + x) y) → wp (F_Bounds_close_94 k32 q k u (FWn I1 w k u k) v r2) (fun _ t => (∀ u v, u < n → v < n → t (q + 1 + 1 + u) v = FWn I1 w n u v) ∧ bdR q s t) := by
                intro r2 g1 g2
                unfold F_Bounds_close_94
                rw [lt_eq, iadd_ok (by omega)]
                refine ih3 _ ⟨v + 1, by omega, rfl, rfl, rfl, by simp, g1, fun x y hx hy => ?_⟩ (by dsimp only; omega)
                show r2 (q + 1 + 1 + x) y = _
                rw [g2 x y hx hy]
                by_cases e : x = u ∧ y = v
                · rw [if_pos e, if_pos (Or.inr ⟨e.1, by omega⟩), e.1, e.2]
                · rw [if_neg e, hMr x y hx hy]
                  by_cases e2 : x < u ∨ (x = u ∧ y < v)
                  · rw [if_pos e2, if_pos (by omega)]
                  · rw [if_neg e2, if_neg (by omega)]
              have keep : FWn I1 w (k + 1) u v = FWn I1 w k u v → wp (F_Bounds_close_94 k32 q k u (FWn I1 w k u k) v r) (fun _ t => (∀ u v, u < n → v < n → t (q + 1 + 1 + u) v = FWn I1 w n u v) ∧ bdR q s t) := by
                intro h9
                refine next r hfr (fun x y hx hy => ?_)
                by_cases e : x = u ∧ y = v
                · rw [if_pos e, e.1, e.2, cell, h9]
                · rw [if_neg e]
              have gk : (0 : Int) ≤ (k : Int) ∧ (k : Int) < 24 := by omega
              have gu : (0 : Int) ≤ (u : Int) ∧ (u : Int) < 24 := by omega
              have gv : (0 : Int) ≤ (v : Int) ∧ (v : Int) < 24 := by omega
              rw [gd_pos gk, gd_pos gv, lt_eq]
              simp only [Int.toNat_natCast, tail, cell]
              refine wp_if (fun c5 => ?_) (fun c5 => ?_)
              · refine keep ?_
                rw [FWn_succ]
                unfold fwS
                rw [if_neg (fun z => by have := z.2.1; omega)]
              · have tl1 : FWn I1 w k k v < I1 := by
                  have := top k hk k v hkn hvn
                  omega
                have b1 := small k hk u k hun hkn hd1
                have b2 := small k hk k v hkn hvn tl1
                rw [gd_pos gu, gd_pos gv, iadd_ok (by omega)]
                refine wp_if (fun c6 => ?_) (fun c6 => ?_)
                · refine keep ?_
                  rw [FWn_succ]
                  unfold fwS
                  rw [if_neg (fun z => by have := z.2.2; omega)]
                · rw [gd_pos gu, gd_pos gv, lt_eq]
                  refine next _ (fun x hx => (hset_obj _ _ _ _ (by omega)).trans (hfr x hx)) (fun x y hx hy => ?_)
                  rw [hset_get]
                  by_cases e : x = u ∧ y = v
                  · rw [if_pos ⟨by omega, e.2⟩, if_pos e, FWn_succ]
                    unfold fwS
                    rw [if_pos ⟨hd1, tl1, by omega⟩]
                  · rw [if_neg (fun z => e ⟨by omega, z.2⟩), if_neg e]
          · refine ⟨0, by omega, rfl, rfl, rfl, rfl, hfp, fun x y hx hy => ?_⟩
            show p (q + 1 + 1 + x) y = _
            rw [hMp x y hx hy]
            by_cases e : x < u
            · rw [if_pos e, if_pos (Or.inl e)]
            · rw [if_neg e, if_neg (by omega)]
          · rw [FU_eq]
            show (300 - (0 : Int)).toNat < 20000
            omega
      · refine ⟨0, by omega, rfl, rfl, hf, fun x y hx hy => ?_⟩
        show t (q + 1 + 1 + x) y = _
        rw [hMt x y hx hy, if_neg (by omega)]
      · rw [FU_eq]
        show (300 - (0 : Int)).toNat < 20000
        omega
  · exact ⟨0, by omega, rfl, fun _ _ => rfl, hM⟩
  · rw [FU_eq]
    show (300 - (0 : Int)).toNat < 20000
    omega
end Bnd
