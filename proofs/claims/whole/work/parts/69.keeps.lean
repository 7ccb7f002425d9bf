/-! what the first ones had behind each round: kept and compared -/
section Keeps
variable {s t : Hp} {n b : Nat} {d : ND} {ow : Nat → Int} {D : DL}
theorem ix6c {i k : Nat} (hi : i ≤ 1000) (hk : k < 6) : iadd (imul (i : Int) 6) (k : Int) = ((6 * i + k : Nat) : Int) := by
  rw [imul_ok (by omega), iadd_ok (by omega)]
  omega
theorem ix6m {i k : Nat} (hi : i ≤ 1000) (hk : k < 6) : iadd (imul 6 (i : Int)) (k : Int) = ((6 * i + k : Nat) : Int) := by
  rw [imul_ok (by omega), iadd_ok (by omega)]
  omega
def tlN (d : ND) (ow : Nat → Int) (D : DL) : Nat := (tlD ow D (dR d)).length
def tlK (d : ND) (ow : Nat → Int) (D : DL) (k : Nat) : Nat := (tlD ow D (dR d))[k]?.getD 0
theorem tlN_le (hd : NDok d) (hD : DLok d D) : tlN d ow D ≤ 6 := by
  have := tlD_len (ow := ow) hd hD (dR d) (Nat.le_refl _)
  unfold tlN
  omega
theorem tlK_at {k : Nat} (h : k < tlN d ow D) : tlK d ow D k < dR d ∧ isDl ow D (tlK d ow D k) := tlD_at h
theorem C_keep (hd : NDok d) (hD : DLok d D) {f : Nat → Int} {i : Nat} (hi : i ≤ 1000) (h8 : s 173 8 = (tlN d ow D : Nat)) (h178 : ∀ k, k < tlN d ow D → s 178 k = (tlK d ow D k : Nat)) (h175 : ∀ k, k < tlN d ow D → s 175 (tlK d ow D k) = f k) :
    wp (F_Deals_keep i s) (fun _ u => (∀ k, k < tlN d ow D → u 179 (6 * i + k) = f k) ∧ (∀ m, m < 6 * i → u 179 m = s 179 m) ∧ ∀ q, q ≠ 179 → u q = s q) := by
  have hR := hd.2.1
  have h6 := tlN_le (ow := ow) hd hD
  unfold F_Deals_keep F_Deals_keep_2
  refine wp_loop (fun a : Int × Hp => ∃ k : Nat, k ≤ tlN d ow D ∧ a.1 = (k : Int) ∧ (∀ j, j < k → a.2 179 (6 * i + j) = f j) ∧ (∀ m, m < 6 * i → a.2 179 m = s 179 m) ∧ ∀ q, q ≠ 179 → a.2 q = s q) (fun a => (30 - a.1).toNat) ?_ FU _ ?_ ?_
  · intro a K hp ih
    obtain ⟨x, u⟩ := a
    obtain ⟨k, hk, e1, hv, hm, hf⟩ := hp
    dsimp only at e1 hv hm hf ih ⊢
    subst e1
    unfold F_Deals_keep_2_b
    rw [hf 173 (by decide), h8]
    refine wp_if (fun c => ?_) (fun c => ?_)
    · exact wp_ret ⟨fun j hj => hv j (by omega), hm, hf⟩
    · have hkL : k < tlN d ow D := by omega
      have ht := (tlK_at hkL).1
      rw [gd_pos (by omega), Int.toNat_natCast, hf 178 (by decide), h178 k hkL, gd_pos (by omega), ix6c hi (by omega), gd_pos (by omega), Int.toNat_natCast, Int.toNat_natCast, hf 175 (by decide), h175 k hkL, lt_eq, lt_eq, iadd_ok (by omega)]
      refine ih _ ⟨k + 1, by omega, by simp, fun j hj => ?_, fun m hm2 => ?_, fun q hq => ?_⟩ (by dsimp only; omega)
      · dsimp only
        rw [hset_row]
        dsimp only
        by_cases e : j = k
        · rw [e, if_pos rfl]
        · rw [if_neg (by omega)]
          exact hv j (by omega)
      · dsimp only
        rw [hset_row]
        dsimp only
        rw [if_neg (by omega)]
        exact hm m hm2
      · dsimp only
        rw [hset_obj _ _ _ _ hq]
        exact hf q hq
  · exact ⟨0, by omega, rfl, fun j h => absurd h (by omega), fun _ _ => rfl, fun _ _ => rfl⟩
  · rw [FU_eq]
    show (30 - (0 : Int)).toNat < 20000
    omega
theorem C_isAsBehind (hd : NDok d) (hD : DLok d D) {f g : Nat → Int} {j : Nat} (hj : j ≤ 1000) (h8 : s 173 8 = (tlN d ow D : Nat)) (h178 : ∀ k, k < tlN d ow D → s 178 k = (tlK d ow D k : Nat)) (h175 : ∀ k, k < tlN d ow D → s 175 (tlK d ow D k) = f k) (h179 : ∀ k, k < tlN d ow D → s 179 (6 * j + k) = g k) :
    wp (F_Deals_isAsBehind j s) (fun z u => ((z = 1 ∧ ∀ k, k < tlN d ow D → g k = f k) ∨ (z = 0 ∧ ∃ k, k < tlN d ow D ∧ g k ≠ f k)) ∧ u = s) := by
  have hR := hd.2.1
  have h6 := tlN_le (ow := ow) hd hD
  unfold F_Deals_isAsBehind F_Deals_isAsBehind_2
  refine wp_loop (fun a : Int × Hp => ∃ k : Nat, k ≤ tlN d ow D ∧ a.1 = (k : Int) ∧ a.2 = s ∧ ∀ q, q < k → g q = f q) (fun a => (30 - a.1).toNat) ?_ FU _ ?_ ?_
  · intro a K hp ih
    obtain ⟨x, u⟩ := a
    obtain ⟨k, hk, e1, e2, hv⟩ := hp
    dsimp only at e1 e2 ih ⊢
    subst e1 e2
    unfold F_Deals_isAsBehind_2_b
    rw [h8]
    refine wp_if (fun c => ?_) (fun c => ?_)
    · exact wp_ret ⟨Or.inl ⟨rfl, fun q hq => hv q (by omega)⟩, rfl⟩
    · have hkL : k < tlN d ow D := by omega
      have ht := (tlK_at hkL).1
      rw [ix6c hj (by omega), gd_pos (by omega), gd_pos (by omega), Int.toNat_natCast, Int.toNat_natCast, h178 k hkL, gd_pos (by omega), Int.toNat_natCast, h175 k hkL, h179 k hkL]
      refine wp_if (fun c2 => ?_) (fun c2 => ?_)
      · rw [lt_eq, iadd_ok (by omega)]
        refine ih _ ⟨k + 1, by omega, by simp, rfl, fun q hq => ?_⟩ (by dsimp only; omega)
        by_cases e : q = k
        · rw [e]; exact c2
        · exact hv q (by omega)
      · exact wp_ret ⟨Or.inr ⟨rfl, k, hkL, c2⟩, rfl⟩
  · exact ⟨0, by omega, rfl, rfl, fun q h => absurd h (by omega)⟩
  · rw [FU_eq]
    show (30 - (0 : Int)).toNat < 20000
    omega
theorem M_keeps (hd : NDok d) (hD : DLok d D) {E : DL} (hE : E.1 = D.1) {i : Nat} (hi : i ≤ 1000) (hN : NetM t b d) (hV : ViewM1 t d ow) (hT : ∀ r, r < 30 → t 42 r = (if D.1 r = true then 1 else 0)) (h43 : ∀ r, D.1 r = true → t 43 r = E.2 r) :
    wp (F_M_keeps i t) (fun _ u => (∀ k, k < 6 → u 46 (6 * i + k) = if k < tlN d ow D then E.2 (tlK d ow D k) else 0) ∧ (∀ m, m < 6 * i → u 46 m = t 46 m) ∧ ∀ q, q ≠ 46 → u q = t q) := by
  have hR := hd.2.1
  have hb := hN.1
  have h6 := tlN_le (ow := ow) hd hD
  have net : ∀ s', (∀ q, q ≠ 46 → s' q = t q) → NetM s' b d := fun s' h' => hN.congr (by rw [h' 0 (by decide)]) (fun q a1 a2 => h' q (by omega))
  unfold F_M_keeps F_M_keeps_4
  refine wp_loop (fun a : Int × Int × Hp => ∃ r : Nat, r ≤ dR d ∧ a.1 = ((tlD ow D r).length : Nat) ∧ a.2.1 = (r : Int) ∧ (∀ k, k < (tlD ow D r).length → a.2.2 46 (6 * i + k) = E.2 ((tlD ow D r)[k]?.getD 0)) ∧ (∀ m, m < 6 * i → a.2.2 46 m = t 46 m) ∧ ∀ q, q ≠ 46 → a.2.2 q = t q) (fun a => (30 - a.2.1).toNat) ?_ FU _ ?_ ?_
  · intro a K hp ih
    obtain ⟨y, x, u⟩ := a
    obtain ⟨r, hr, e1, e2, hv, hm, hf⟩ := hp
    dsimp only at e1 e2 hv hm hf ih ⊢
    subst e1 e2
    have hNu := net u hf
    unfold F_M_keeps_4_b F_M_keeps_48
    rw [hNu.2.1, gd_pos (by omega), Int.toNat_natCast, hNu.2.2.2.1]
    refine wp_if (fun c => ?_) (fun c => ?_)
    · have er : r = dR d := by omega
      subst er
      clear ih
      unfold F_M_keeps_56
      refine wp_loop (fun a : Int × Hp => ∃ k : Nat, tlN d ow D ≤ k ∧ k ≤ 6 ∧ a.1 = (k : Int) ∧ (∀ j, j < k → a.2 46 (6 * i + j) = if j < tlN d ow D then E.2 (tlK d ow D j) else 0) ∧ (∀ m, m < 6 * i → a.2 46 m = t 46 m) ∧ ∀ q, q ≠ 46 → a.2 q = t q) (fun a => (30 - a.1).toNat) ?_ FU _ ?_ ?_
      · intro a K hp ih
        obtain ⟨x, u⟩ := a
        obtain ⟨k, hk1, hk, e1, hv, hm, hf⟩ := hp
        dsimp only at e1 hv hm hf ih ⊢
        subst e1
        unfold F_M_keeps_56_b
        refine wp_if (fun c => ?_) (fun c => ?_)
        · exact wp_ret ⟨fun j hj => hv j (by omega), hm, hf⟩
        · rw [ix6m hi (by omega), gd_pos (by omega), lt_eq, lt_eq, Int.toNat_natCast, iadd_ok (by omega)]
          refine ih _ ⟨k + 1, by omega, by omega, by simp, fun j hj => ?_, fun m hm2 => ?_, fun q hq => ?_⟩ (by dsimp only; omega)
          · dsimp only
            rw [hset_row]
            dsimp only
            by_cases e : j = k
            · rw [e, if_pos rfl, if_neg (by omega)]
            · rw [if_neg (by omega)]
              exact hv j (by omega)
          · dsimp only
            rw [hset_row]
            dsimp only
            rw [if_neg (by omega)]
            exact hm m hm2
          · dsimp only
            rw [hset_obj _ _ _ _ hq]
            exact hf q hq
      · refine ⟨tlN d ow D, Nat.le_refl _, h6, rfl, fun j hj => ?_, hm, hf⟩
        rw [if_pos hj]
        exact hv j hj
      · rw [FU_eq]
        show (30 - ((tlN d ow D : Nat) : Int)).toNat < 20000
        omega
    · have hrR : r < dR d := by omega
      have g30 : (0 : Int) ≤ (r : Int) ∧ (r : Int) < 30 := by omega
      have hVu : ViewM1 u d ow := fun r' hr' => by rw [hf 29 (by decide), hf 30 (by decide)]; exact hV r' hr'
      rw [M_isDeal hVu (fun r' hr' => by rw [hf 42 (by decide)]; exact hT r' hr') hd hrR, cl2_some]
      by_cases cd : isDl ow D r
      · have hl := tl_lt (ow := ow) (D := D) (N := dR d) hrR cd
        have hl6 : (tlD ow D r).length < 6 := Nat.lt_of_lt_of_le hl h6
        rw [if_pos cd, if_neg (by decide), gd_pos g30, ix6m hi hl6, gd_pos (by omega), lt_eq, lt_eq, Int.toNat_natCast, Int.toNat_natCast, hf 43 (by decide), h43 r cd.1, iadd_ok (by omega), lt_eq, iadd_ok (by omega)]
        refine ih _ ⟨r + 1, by omega, ?_, by simp, fun k hk => ?_, fun m hm2 => ?_, fun q hq => ?_⟩ (by dsimp only; omega)
        · dsimp only
          rw [tlD_s, if_pos cd, List.length_append]
          show _ = (((tlD ow D r).length + 1 : Nat) : Int)
          omega
        · rw [tlD_s, if_pos cd] at hk ⊢
          rw [List.length_append] at hk
          have hk : k < (tlD ow D r).length + 1 := hk
          dsimp only
          rw [hset_row]
          dsimp only
          by_cases e : k = (tlD ow D r).length
          · rw [if_pos (by omega), e, List.getElem?_append_right (Nat.le_refl _), Nat.sub_self]
            rfl
          · rw [if_neg (by omega), List.getElem?_append_left (by omega)]
            exact hv k (by omega)
        · dsimp only
          rw [hset_row]
          dsimp only
          rw [if_neg (by omega)]
          exact hm m hm2
        · dsimp only
          rw [hset_obj _ _ _ _ hq]
          exact hf q hq
      · rw [if_neg cd, if_pos rfl, lt_eq, iadd_ok (by omega)]
        refine ih _ ⟨r + 1, by omega, ?_, by simp, fun k hk => ?_, hm, hf⟩ (by dsimp only; omega)
        · dsimp only
          rw [tlD_s, if_neg cd]
        · rw [tlD_s, if_neg cd] at hk ⊢
          exact hv k hk
  · exact ⟨0, by omega, rfl, rfl, fun j h => absurd h (Nat.not_lt_zero _), fun _ _ => rfl, fun _ _ => rfl⟩
  · rw [FU_eq]
    show (30 - (0 : Int)).toNat < 20000
    omega
theorem M_isLike {f g : Nat → Int} {L i j : Nat} (hi : i ≤ 1000) (hj : j ≤ 1000) (hL : L ≤ 6) (h1 : ∀ k, k < 6 → t 46 (6 * i + k) = if k < L then f k else 0) (h2 : ∀ k, k < 6 → t 46 (6 * j + k) = if k < L then g k else 0) :
    wp (F_M_isLike i j t) (fun z u => ((z = 1 ∧ ∀ k, k < L → f k = g k) ∨ (z = 0 ∧ ∃ k, k < L ∧ f k ≠ g k)) ∧ u = t) := by
  unfold F_M_isLike F_M_isLike_2
  refine wp_loop (fun a : Int × Hp => ∃ k : Nat, k ≤ 6 ∧ a.1 = (k : Int) ∧ a.2 = t ∧ ∀ q, q < k → q < L → f q = g q) (fun a => (30 - a.1).toNat) ?_ FU _ ?_ ?_
  · intro a K hp ih
    obtain ⟨x, u⟩ := a
    obtain ⟨k, hk, e1, e2, hv⟩ := hp
    dsimp only at e1 e2 ih ⊢
    subst e1 e2
    unfold F_M_isLike_2_b
    refine wp_if (fun c => ?_) (fun c => ?_)
    · exact wp_ret ⟨Or.inl ⟨rfl, fun q hq => hv q (by omega) hq⟩, rfl⟩
    · rw [ix6m hi (by omega), ix6m hj (by omega), gd_pos (by omega), gd_pos (by omega), Int.toNat_natCast, Int.toNat_natCast, h1 k (by omega), h2 k (by omega)]
      refine wp_if (fun c2 => ?_) (fun c2 => ?_)
      · rw [lt_eq, iadd_ok (by omega)]
        refine ih _ ⟨k + 1, by omega, by simp, rfl, fun q hq hqL => ?_⟩ (by dsimp only; omega)
        by_cases e : q = k
        · subst e
          rw [if_pos hqL, if_pos hqL] at c2
          exact c2
        · exact hv q (by omega) hqL
      · by_cases e : k < L
        · rw [if_pos e, if_pos e] at c2
          exact wp_ret ⟨Or.inr ⟨rfl, k, e, c2⟩, rfl⟩
        · rw [if_neg e, if_neg e] at c2
          exact absurd rfl c2
  · exact ⟨0, by omega, rfl, rfl, fun q h => absurd h (by omega)⟩
  · rw [FU_eq]
    show (30 - (0 : Int)).toNat < 20000
    omega
end Keeps
