/-! the class's search: one more column, a place for a row, the greatest sum -/
section Mat2
variable {w : Nat → Nat → Int} {W r k c : Nat}
/-- the weights as the class holds them -/
def wtS (s : Hp) : Nat → Nat → Int := fun i j => if i ≤ 12 ∧ j ≤ 12 then s (92 + 1 + i) j else 0
theorem C_next {s : Hp} {od : Nat → Nat} (hw : wOk w) (hW : W ≤ 12) (h7 : s 91 7 = W) (hwt : ∀ i j, i ≤ W → j ≤ W → s (92 + 1 + i) j = w i j) (hP : PS w W r k (s 106) (s 107) (s 108) (s 110) (s 109) (s 111) od c) (hc : s 108 c ≠ 0) :
    wp (F_Mat_nextColumn c s) (fun z t => (∀ q, q ≠ 106 → q ≠ 107 → q ≠ 109 → q ≠ 110 → q ≠ 111 → t q = s q) ∧ ∃ (nx : Nat) (od2 : Nat → Nat), z = nx ∧ 1 ≤ nx ∧ nx ≤ W ∧ PS w W r (k + 1) (t 106) (t 107) (t 108) (t 110) (t 109) (t 111) od2 nx) := by
  have hfree := hP.free
  obtain ⟨hR, hrW, h0, hf, ht, hv, hu, hDD, hD0, ⟨hc1, hc2, hc3, hc4⟩, hs, ⟨tr1, tr2, tr3⟩, hcW, hcc, hck0, hck1⟩ := id hP
  have hr1 : 1 ≤ r := by have := hR.2.2; omega
  have hrac : 1 ≤ s 108 c ∧ s 108 c ≤ r := by
    by_cases e : c = 0
    · rw [e, h0]; omega
    · have := hR.1 c (by omega) hcW
      omega
  -- the row's price is small
  have hub : ∀ j, j ≤ W → s 108 j ≠ 0 → (j = 0 ∨ 1 ≤ j) → -2000000 ≤ s 106 (s 108 j).toNat ∧ s 106 (s 108 j).toNat ≤ 2000000 := fun j hj hj0 _ => by
    by_cases e : j = 0
    · rw [e, h0]
      have e9 : ((r : Int)).toNat = r := by omega
      rw [e9]
      omega
    · have h1 := ht j (by omega) hj hj0
      have h2 := hv j (by omega) hj
      have h3 := hw (s 108 j).toNat j
      unfold lss at h1
      omega
  have hvb : ∀ j, 1 ≤ j → j ≤ W → -2000000 ≤ s 107 j ∧ s 107 j ≤ 0 := fun j h1 h2 => by
    have := hv j h1 h2
    omega
  have g13 : (0 : Int) ≤ (c : Int) ∧ (c : Int) < 13 := by omega
  unfold F_Mat_nextColumn
  rw [gd_pos g13, lt_eq, Int.toNat_natCast, z1_eq (Or.inr rfl), gd_pos g13, lt_eq, hset_obj _ _ _ _ (show (108 : Nat) ≠ 111 by decide)]
  generalize hs0 : hset s 111 c 1 = s0
  have z111 : ∀ j, s0 111 j = if j = c then 1 else s 111 j := fun j => by
    rw [← hs0, hset_get]
    by_cases e : j = c
    · rw [if_pos ⟨rfl, e⟩, if_pos e]
    · rw [if_neg (fun z => e z.2), if_neg e]
  have zo : ∀ q, q ≠ 111 → s0 q = s q := fun q hq => by rw [← hs0, hset_obj _ _ _ _ hq]
  have row13 : (0 : Int) ≤ s 108 c ∧ s 108 c < 13 := by omega
  have lsE : ∀ j, 1 ≤ j → j ≤ W → isub (isub (ineg (w (s 108 c).toNat j)) (s 106 (s 108 c).toNat)) (s 107 j) = lss w (s 106) (s 107) (s 108 c) j ∧ -10000000 ≤ lss w (s 106) (s 107) (s 108 c) j ∧ lss w (s 106) (s 107) (s 108 c) j ≤ 10000000 := fun j h1 h2 => by
    have b1 := hub c hcW hc (by omega)
    have b2 := hvb j h1 h2
    have b3 := hw (s 108 c).toNat j
    unfold lss
    refine ⟨?_, by omega, by omega⟩
    rw [ineg_ok (by omega), isub_ok (a := -(w (s 108 c).toNat j)) (by omega), isub_ok (by omega)]
  have slE : ∀ j, 1 ≤ j → j ≤ W → s 111 j = 0 → -10000000 ≤ s 110 j ∧ s 110 j ≤ 1000000000 := fun j h1 h2 h3 => by
    rcases (hs j h1 h2 h3).2 with ⟨_, e⟩ | ⟨_, q, g1, g2, g3, g4⟩
    · rw [e]; omega
    · have hq0 : s 108 q ≠ 0 := by
        by_cases e : q = 0
        · rw [e, h0]; omega
        · exact hc3 q (by omega) g1 g3
      have b1 := hub q g1 hq0 (by omega)
      have b2 := hvb j h1 h2
      have b3 := hw (s 108 q).toNat j
      rw [g4]
      unfold lss
      omega
  unfold F_Mat_nextColumn_23
  refine wp_loop (fun a : Int × Int × Int × Int × Hp => ∃ m : Nat, 1 ≤ m ∧ m ≤ W + 1 ∧ a.1 = s 108 c ∧ a.2.2.2.1 = (m : Int) ∧ (∀ q, q ≠ 109 → q ≠ 110 → a.2.2.2.2 q = s0 q) ∧
      (∀ j, 1 ≤ j → j ≤ W → s0 111 j = 0 → a.2.2.2.2 110 j = if m ≤ j ∨ s 110 j ≤ lss w (s 106) (s 107) (s 108 c) j then s 110 j else lss w (s 106) (s 107) (s 108 c) j) ∧
      (∀ j, 1 ≤ j → j ≤ W → a.2.2.2.2 109 j = if j < m ∧ s0 111 j = 0 ∧ ¬ s 110 j ≤ lss w (s 106) (s 107) (s 108 c) j then (c : Int) else s 109 j) ∧
      ((a.2.1 = 0 ∧ a.2.2.1 = 1000000000 ∧ ∀ j, 1 ≤ j → j < m → s0 111 j ≠ 0) ∨ (∃ nx : Nat, 1 ≤ nx ∧ nx < m ∧ a.2.1 = nx ∧ s0 111 nx = 0 ∧ a.2.2.2.2 110 nx = a.2.2.1 ∧ ∀ j, 1 ≤ j → j < m → s0 111 j = 0 → a.2.2.1 ≤ a.2.2.2.2 110 j))) (fun a => (300 - a.2.2.2.1).toNat) ?_ FU _ ?_ ?_
  · intro a k23 hp ih
    obtain ⟨x2, x3, x4, x5, t⟩ := a
    obtain ⟨m, hm1, hm2, e0, e1, hq, h110, h109, hlst⟩ := hp
    dsimp only at e0 e1 hq h110 h109 hlst ih ⊢
    subst e0 e1
    unfold F_Mat_nextColumn_23_b
    rw [hq 91 (by decide) (by decide), zo 91 (by decide), h7]
    refine wp_if (fun c2 => ?_) (fun c2 => ?_)
    · have em : m = W + 1 := by omega
      subst em
      rcases hlst with ⟨_, _, hno⟩ | ⟨nx, g1, g2, g3, g4, g5, g6⟩
      · exfalso
        obtain ⟨j, f1, f2, f3, f4⟩ := hfree
        have hj : j ≠ c := fun e => by rw [e] at f3; exact hc f3
        have := hno j f1 (by omega)
        rw [z111, if_neg hj] at this
        exact this f4
      · have rcT : t 111 = s0 111 := hq 111 (by decide) (by decide)
        have raT : t 108 = s 108 := by rw [hq 108 (by decide) (by decide), zo 108 (by decide)]
        have uT : t 106 = s 106 := by rw [hq 106 (by decide) (by decide), zo 106 (by decide)]
        have vT : t 107 = s 107 := by rw [hq 107 (by decide) (by decide), zo 107 (by decide)]
        have hsl : ∀ j, 1 ≤ j → j ≤ W → s0 111 j = 0 → t 110 j = if s 110 j ≤ lss w (s 106) (s 107) (s 108 c) j then s 110 j else lss w (s 106) (s 107) (s 108 c) j := fun j h1 h2 h3 => by
          rw [h110 j h1 h2 h3]
          by_cases e : s 110 j ≤ lss w (s 106) (s 107) (s 108 c) j
          · rw [if_pos (Or.inr e), if_pos e]
          · rw [if_neg (fun z => z.elim (by omega) e), if_neg e]
        have rc01 : ∀ j, j ≤ W → s0 111 j = 0 ∨ s0 111 j = 1 := fun j hj => by
          rw [z111]
          split
          · exact Or.inr rfl
          · exact hc1 j hj
        have rold : ∀ j, j ≤ W → s0 111 j = 1 → j = c ∨ s 111 j = 1 := fun j hj h9 => by
          rw [z111] at h9
          split at h9
          · rename_i e; exact Or.inl e
          · exact Or.inr h9
        have ra0 : ∀ j, j ≤ W → s0 111 j = 1 → s 108 j ≠ 0 := fun j hj h9 => by
          rcases rold j hj h9 with e | e
          · rw [e]; exact hc
          · by_cases e9 : j = 0
            · rw [e9, h0]; omega
            · exact hc3 j (by omega) hj e
        have hxb : -10000000 ≤ x4 ∧ x4 ≤ 10000000 := by
          rw [← g5, hsl nx g1 (by omega) g4]
          have a1 := lsE nx g1 (by omega)
          have hnc : nx ≠ c := fun e => by rw [e, z111, if_pos rfl] at g4; cases g4
          have a2 := slE nx g1 (by omega) (by rw [z111, if_neg hnc] at g4; exact g4)
          split <;> omega
        have rc0' : s0 111 0 = 1 := by
          rw [z111]
          split
          · rfl
          · rename_i e
            apply hc2
            apply Decidable.byContradiction
            intro hk
            exact e (hck0 (by omega)).symm
        refine wp_cl (C_shift (s := t) hW (by rw [hq 91 (by decide) (by decide), zo 91 (by decide)]; exact h7) (fun j hj => by rw [rcT]; exact rc01 j hj) (fun j hj h9 => ?_) (fun i j hi hj h8 h9 hij => ?_) hxb (fun j hj h9 => ?_) (fun j h1 h2 => ?_) (fun j h1 h2 h3 => ?_) (by rw [rcT]; exact rc0')) (fun z u hu9 => ?_)
        · rw [raT]
          by_cases e : j = 0
          · rw [e, h0]; omega
          · have := hR.1 j (by omega) hj
            omega
        · rw [rcT] at h8 h9
          rw [raT]
          by_cases ei : i = 0
          · have := hR.1 j (by omega) hj
            rw [ei, h0]; omega
          · by_cases ej : j = 0
            · have := hR.1 i (by omega) hi
              rw [ej, h0]; omega
            · exact hR.2.1 i j (by omega) hi (by omega) hj hij (ra0 i hi h8)
        · rw [rcT] at h9
          rw [raT, uT]
          have := hub j hj (ra0 j hj h9) (by omega)
          omega
        · rw [vT]
          have := hvb j h1 h2
          omega
        · rw [rcT] at h3
          rw [hsl j h1 h2 h3]
          have a1 := lsE j h1 h2
          have hnc : j ≠ c := fun e => by rw [e, z111, if_pos rfl] at h3; cases h3
          have a2 := slE j h1 h2 (by rw [z111, if_neg hnc] at h3; exact h3)
          split <;> omega
        · obtain ⟨q1, q2, q3, q4⟩ := hu9
          refine wp_ret ⟨fun q a1 a2 a3 a4 a5 => by rw [q1 q a1 a2 a4, hq q a3 a4, zo q a5], nx, (fun x => if x = c then k else od x), g3, g1, by omega, ?_⟩
          have e108 : u 108 = s 108 := by rw [q1 108 (by decide) (by decide) (by decide), raT]
          have e111 : u 111 = s0 111 := by rw [q1 111 (by decide) (by decide) (by decide), rcT]
          have e109 : u 109 = t 109 := q1 109 (by decide) (by decide) (by decide)
          rw [e108, e111, e109]
          rw [rcT, raT, uT] at q4
          rw [rcT, vT] at q2
          rw [rcT] at q3
          refine PS_next hw hW hP hc (sl1 := t 110) (D := x4) (fun j _ => z111 j) hsl (fun j h1 h2 => ?_) ⟨g1, by omega, g4, g5⟩ (fun j h1 h2 h3 => g6 j h1 (by omega) h3) (fun i _ => q4 i) q2 q3
          rw [h109 j h1 h2]
          by_cases e : s0 111 j = 0 ∧ ¬ s 110 j ≤ lss w (s 106) (s 107) (s 108 c) j
          · rw [if_pos ⟨by omega, e⟩, if_pos e]
          · rw [if_neg (fun z => e z.2), if_neg e]
    · have hmW : m ≤ W := by omega
      have m13 : (0 : Int) ≤ (m : Int) ∧ (m : Int) < 13 := by omega
      rw [gd_pos m13, Int.toNat_natCast, hq 111 (by decide) (by decide)]
      refine wp_if (fun c3 => ?_) (fun c3 => ?_)
      · have hmc : m ≠ c := fun e => by rw [e, z111, if_pos rfl] at c3; cases c3
        have c3s : s 111 m = 0 := by rw [z111, if_neg hmc] at c3; exact c3
        obtain ⟨l1, l2, l3⟩ := lsE m hm1 hmW
        have sb := slE m hm1 hmW c3s
        rw [gd_pos row13, gd_pos m13, gd_pos row13, gd_pos m13, hq _ (by omega) (by omega), zo _ (by omega), hwt _ _ (by omega) hmW, hq 106 (by decide) (by decide), zo 106 (by decide), hq 107 (by decide) (by decide), zo 107 (by decide), l1, lt_eq, gd_pos m13]
        have t110 : t 110 m = s 110 m := by rw [h110 m hm1 hmW c3, if_pos (Or.inl (Nat.le_refl _))]
        -- the rest of the round, with the new slack
        have fin : ∀ t2 : Hp, (∀ q, q ≠ 109 → q ≠ 110 → t2 q = s0 q) → (∀ j, j ≠ m → t2 110 j = t 110 j ∧ t2 109 j = t 109 j) → (t2 110 m = if s 110 m ≤ lss w (s 106) (s 107) (s 108 c) m then s 110 m else lss w (s 106) (s 107) (s 108 c) m) → (t2 109 m = if s 110 m ≤ lss w (s 106) (s 107) (s 108 c) m then s 109 m else (c : Int)) →
            wp (F_Mat_nextColumn_98 k23 c (s 108 c) x3 x4 m t2) (fun z t => (∀ q, q ≠ 106 → q ≠ 107 → q ≠ 109 → q ≠ 110 → q ≠ 111 → t q = s q) ∧ ∃ (nx : Nat) (od2 : Nat → Nat), z = nx ∧ 1 ≤ nx ∧ nx ≤ W ∧ PS w W r (k + 1) (t 106) (t 107) (t 108) (t 110) (t 109) (t 111) od2 nx) := by
          intro t2 p1 p2 p3 p4
          have i110 : ∀ j, 1 ≤ j → j ≤ W → s0 111 j = 0 → t2 110 j = if m + 1 ≤ j ∨ s 110 j ≤ lss w (s 106) (s 107) (s 108 c) j then s 110 j else lss w (s 106) (s 107) (s 108 c) j := fun j h1 h2 h3 => by
            by_cases e : j = m
            · subst e
              rw [p3]
              by_cases e2 : s 110 j ≤ lss w (s 106) (s 107) (s 108 c) j
              · rw [if_pos e2, if_pos (Or.inr e2)]
              · rw [if_neg e2, if_neg (fun z => z.elim (by omega) e2)]
            · rw [(p2 j e).1, h110 j h1 h2 h3]
              by_cases e2 : m ≤ j ∨ s 110 j ≤ lss w (s 106) (s 107) (s 108 c) j
              · rw [if_pos e2, if_pos (e2.elim (fun z => Or.inl (by omega)) Or.inr)]
              · rw [if_neg e2, if_neg (fun z => e2 (z.elim (fun z => Or.inl (by omega)) Or.inr))]
          have i109 : ∀ j, 1 ≤ j → j ≤ W → t2 109 j = if j < m + 1 ∧ s0 111 j = 0 ∧ ¬ s 110 j ≤ lss w (s 106) (s 107) (s 108 c) j then (c : Int) else s 109 j := fun j h1 h2 => by
            by_cases e : j = m
            · subst e
              rw [p4]
              by_cases e2 : s 110 j ≤ lss w (s 106) (s 107) (s 108 c) j
              · rw [if_pos e2, if_neg (fun z => z.2.2 e2)]
              · rw [if_neg e2, if_pos ⟨by omega, c3, e2⟩]
            · rw [(p2 j e).2, h109 j h1 h2]
              by_cases e2 : j < m ∧ s0 111 j = 0 ∧ ¬ s 110 j ≤ lss w (s 106) (s 107) (s 108 c) j
              · rw [if_pos e2, if_pos ⟨by omega, e2.2⟩]
              · rw [if_neg e2, if_neg (fun z => e2 ⟨by omega, z.2⟩)]
          have b9 : -10000000 ≤ t2 110 m ∧ t2 110 m ≤ 10000000 := by
            rw [p3]
            split <;> omega
          unfold F_Mat_nextColumn_98 F_Mat_nextColumn_122
          rw [gd_pos m13, Int.toNat_natCast]
          refine wp_if (fun c4 => ?_) (fun c4 => ?_)
          · rw [lt_eq, iadd_ok (by omega)]
            refine ih _ ⟨m + 1, by omega, by omega, rfl, by simp, p1, i110, i109, Or.inr ?_⟩ (by dsimp only; omega)
            rcases hlst with ⟨_, g2, _⟩ | ⟨nx, g1, g2, g3, g4, g5, g6⟩
            · omega
            · refine ⟨nx, g1, by omega, g3, g4, by show t2 110 nx = x4; rw [(p2 nx (by omega)).1]; exact g5, fun j h1 h2 h3 => ?_⟩
              show x4 ≤ t2 110 j
              by_cases e : j = m
              · subst e; exact c4
              · rw [(p2 j e).1]; exact g6 j h1 (by omega) h3
          · rw [gd_pos m13, lt_eq, lt_eq, iadd_ok (by omega)]
            refine ih _ ⟨m + 1, by omega, by omega, rfl, by simp, p1, i110, i109, Or.inr ?_⟩ (by dsimp only; omega)
            refine ⟨m, hm1, by omega, rfl, c3, rfl, fun j h1 h2 h3 => ?_⟩
            show t2 110 m ≤ t2 110 j
            by_cases e : j = m
            · subst e; exact Int.le_refl _
            · rw [(p2 j e).1]
              rcases hlst with ⟨_, _, g3⟩ | ⟨nx, g1, g2, g3, g4, g5, g6⟩
              · exact absurd h3 (g3 j h1 (by omega))
              · have := g6 j h1 (by omega) h3
                omega
        refine wp_if (fun c4 => ?_) (fun c4 => ?_)
        · rw [t110] at c4
          exact fin t hq (fun j _ => ⟨rfl, rfl⟩) (by rw [t110, if_pos c4]) (by rw [if_pos c4, h109 m hm1 hmW, if_neg (fun z => absurd z.1 (by omega))])
        · rw [t110] at c4
          rw [gd_pos m13, lt_eq, gd_pos m13, lt_eq]
          refine fin _ (fun q a1 a2 => by rw [hset_obj _ _ _ _ a1, hset_obj _ _ _ _ a2]; exact hq q a1 a2) (fun j hj => ⟨?_, ?_⟩) ?_ ?_
          · rw [hset_obj _ _ _ _ (by decide), hset_get, if_neg (fun z => hj z.2)]
          · rw [hset_get, if_neg (fun z => hj z.2), hset_obj _ _ _ _ (by decide)]
          · rw [hset_obj _ _ _ _ (by decide), hset_same, if_neg c4]
          · rw [hset_same, if_neg c4]
      · unfold F_Mat_nextColumn_122
        rw [lt_eq, iadd_ok (by omega)]
        refine ih _ ⟨m + 1, by omega, by omega, rfl, by simp, hq, fun j h1 h2 h3 => ?_, fun j h1 h2 => ?_, ?_⟩ (by dsimp only; omega)
        · show t 110 j = _
          rw [h110 j h1 h2 h3]
          have e : j ≠ m := fun e => c3 (e ▸ h3)
          by_cases e2 : m ≤ j ∨ s 110 j ≤ lss w (s 106) (s 107) (s 108 c) j
          · rw [if_pos e2, if_pos (e2.elim (fun z => Or.inl (by omega)) Or.inr)]
          · rw [if_neg e2, if_neg (fun z => e2 (z.elim (fun z => Or.inl (by omega)) Or.inr))]
        · show t 109 j = _
          rw [h109 j h1 h2]
          by_cases e2 : j < m ∧ s0 111 j = 0 ∧ ¬ s 110 j ≤ lss w (s 106) (s 107) (s 108 c) j
          · rw [if_pos e2, if_pos ⟨by omega, e2.2⟩]
          · rw [if_neg e2, if_neg (fun z => e2 ⟨by have : j ≠ m := fun e => c3 (e ▸ z.2.1); omega, z.2⟩)]
        · rcases hlst with ⟨g1, g2, g3⟩ | ⟨nx, g1, g2, g3, g4, g5, g6⟩
          · refine Or.inl ⟨g1, g2, fun j h1 h2 => ?_⟩
            by_cases e : j = m
            · subst e; exact c3
            · exact g3 j h1 (by omega)
          · refine Or.inr ⟨nx, g1, by omega, g3, g4, g5, fun j h1 h2 h3 => ?_⟩
            by_cases e : j = m
            · subst e; exact absurd h3 c3
            · exact g6 j h1 (by omega) h3
  · refine ⟨1, Nat.le_refl _, by omega, rfl, rfl, fun q _ _ => rfl, fun j h1 h2 h3 => ?_, fun j h1 h2 => ?_, Or.inl ⟨rfl, rfl, fun j h1 h2 => absurd h2 (by omega)⟩⟩
    · show s0 110 j = _
      rw [zo 110 (by decide), if_pos (Or.inl h1)]
    · show s0 109 j = _
      rw [zo 109 (by decide), if_neg (fun z => absurd z.1 (by omega))]
  · rw [FU_eq]
    show (300 - (1 : Int)).toNat < 20000
    omega
end Mat2
