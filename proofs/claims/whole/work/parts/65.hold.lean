/-! lone, breaks, surely, away -/
section Hold
variable {s t : Hp} {n b : Nat} {d : ND} {ow : Nat → Int} {D : DL}
/-- the first of which P holds, below N; -1 without -/
def IsFst (P : Nat → Prop) (N : Nat) (z : Int) : Prop := (z = -1 ∧ ∀ r, r < N → ¬ P r) ∨ ∃ r : Nat, r < N ∧ z = r ∧ P r ∧ ∀ q, q < r → ¬ P q
theorem IsFst.uniq {P : Nat → Prop} {N : Nat} {z z' : Int} (h : IsFst P N z) (h' : IsFst P N z') : z = z' := by
  rcases h with ⟨a1, a2⟩ | ⟨r, a1, a2, a3, a4⟩ <;> rcases h' with ⟨c1, c2⟩ | ⟨q, c1, c2, c3, c4⟩
  · rw [a1, c1]
  · exact absurd c3 (a2 q c1)
  · exact absurd a3 (c2 r a1)
  · rcases Nat.lt_trichotomy r q with x | x | x
    · exact absurd a3 (c4 r x)
    · rw [a2, c2, x]
    · exact absurd c3 (a4 q x)
theorem IsFst.iff {P Q : Nat → Prop} {N : Nat} {z : Int} (h : IsFst P N z) (e : ∀ r, r < N → (P r ↔ Q r)) : IsFst Q N z := by
  rcases h with ⟨a1, a2⟩ | ⟨r, a1, a2, a3, a4⟩
  · exact Or.inl ⟨a1, fun r hr y => a2 r hr ((e r hr).mpr y)⟩
  · exact Or.inr ⟨r, a1, a2, (e r a1).mp a3, fun q hq y => a4 q hq ((e q (by omega)).mpr y)⟩
theorem IsFst.none {P : Nat → Prop} {N : Nat} {z : Int} (h : IsFst P N z) : z = -1 ↔ ∀ r, r < N → ¬ P r := by
  rcases h with ⟨a1, a2⟩ | ⟨r, a1, a2, a3, a4⟩
  · exact ⟨fun _ => a2, fun _ => a1⟩
  · exact ⟨fun y => by omega, fun y => absurd a3 (y r a1)⟩
def lonP (d : ND) (ow : Nat → Int) (D : DL) (w : Nat) : Prop := shv d ow D w < al d w
theorem C_firstLone (hd : NDok d) (hN : NetC s n d) (hS : SetC s n d ow D) : wp (F_Deals_firstLone s) (fun z s' => IsFst (lonP d ow D) (dW d) z ∧ s' = s) := by
  have hW := hd.1
  unfold F_Deals_firstLone F_Deals_firstLone_2
  refine wp_loop (fun a : Int × Hp => ∃ k : Nat, k ≤ dW d ∧ a.1 = (k : Int) ∧ a.2 = s ∧ ∀ q, q < k → ¬ lonP d ow D q) (fun a => (12 - a.1).toNat) ?_ FU _ ?_ ?_
  · intro a K hp ih
    obtain ⟨x, u⟩ := a
    obtain ⟨k, hk, e1, e2, hq⟩ := hp
    dsimp only at e1 e2 ih ⊢
    subst e1 e2
    unfold F_Deals_firstLone_2_b
    rw [lt_eq, hS.1, Int.toNat_natCast, gd_pos hN.1, hN.2.1]
    refine wp_if (fun c => ?_) (fun c => ?_)
    · have ek : k = dW d := by omega
      subst ek
      exact wp_ret ⟨Or.inl ⟨rfl, hq⟩, rfl⟩
    · have hkW : k < dW d := by omega
      have g12 : (0 : Int) ≤ (k : Int) ∧ (k : Int) < 12 := by omega
      have e177 : u 177 k = shv d ow D k := (hS.2.1 k hkW).2
      rw [gd_pos g12, lt_eq, gd_pos hN.1, gd_pos g12, Int.toNat_natCast, hN.2.2.2.2.2.1 k hkW, e177, lt_eq, iadd_ok (by omega)]
      refine wp_if (fun c2 => ?_) (fun c2 => ?_)
      · refine ih _ ⟨k + 1, by omega, by simp, rfl, fun q hq2 => ?_⟩ (by dsimp only; omega)
        by_cases e : q = k
        · subst e
          unfold lonP
          omega
        · exact hq q (by omega)
      · refine wp_ret ⟨Or.inr ⟨k, hkW, rfl, ?_, hq⟩, rfl⟩
        unfold lonP
        omega
  · exact ⟨0, by omega, rfl, rfl, fun q h => absurd h (by omega)⟩
  · rw [FU_eq]
    show (12 - (0 : Int)).toNat < 20000
    omega
theorem M_lone (hd : NDok d) (hN : NetM t b d) (hS : ShM t d ow D) : wp (F_M_lone t) (fun z s' => IsFst (lonP d ow D) (dW d) z ∧ s' = t) := by
  have hW := hd.1
  have hb := hN.1
  unfold F_M_lone F_M_lone_2
  refine wp_loop (fun a : Int × Hp => ∃ k : Nat, k ≤ dW d ∧ a.1 = (k : Int) ∧ a.2 = t ∧ ∀ q, q < k → ¬ lonP d ow D q) (fun a => (12 - a.1).toNat) ?_ FU _ ?_ ?_
  · intro a K hp ih
    obtain ⟨x, u⟩ := a
    obtain ⟨k, hk, e1, e2, hq⟩ := hp
    dsimp only at e1 e2 ih ⊢
    subst e1 e2
    unfold F_M_lone_2_b
    rw [hN.2.1, gd_pos (by omega), Int.toNat_natCast, hN.2.2.1]
    refine wp_if (fun c => ?_) (fun c => ?_)
    · have ek : k = dW d := by omega
      subst ek
      exact wp_ret ⟨Or.inl ⟨rfl, hq⟩, rfl⟩
    · have hkW : k < dW d := by omega
      have g12 : (0 : Int) ≤ (k : Int) ∧ (k : Int) < 12 := by omega
      have e45 : u 45 k = shv d ow D k := (hS k hkW).2
      rw [gd_pos g12, M_aloneOf hd hN hkW, cl2_some, Int.toNat_natCast, e45, lt_eq, iadd_ok (by omega)]
      refine wp_if (fun c2 => ?_) (fun c2 => ?_)
      · have c2 := lcmp_ge.mp c2
        refine ih _ ⟨k + 1, by omega, by simp, rfl, fun q hq2 => ?_⟩ (by dsimp only; omega)
        by_cases e : q = k
        · subst e
          unfold lonP
          omega
        · exact hq q (by omega)
      · refine wp_ret ⟨Or.inr ⟨k, hkW, rfl, ?_, hq⟩, rfl⟩
        unfold lonP
        apply Classical.byContradiction
        intro y
        exact c2 (lcmp_ge.mpr (by omega))
  · exact ⟨0, by omega, rfl, rfl, fun q h => absurd h (by omega)⟩
  · rw [FU_eq]
    show (12 - (0 : Int)).toNat < 20000
    omega
def srt (d : ND) (ow : Nat → Int) (D : DL) (c : Int) (r : Nat) : Prop := ow r ≠ -1 ∧ ¬ isDl ow D r ∧ shv d ow D (fs d r) + shv d ow D (sn d r) < mkd d ow r + c * db d r
theorem dof_first (hd : NDok d) (hD : DLok d D) {r : Nat} (hr : r < dR d) : dof d ow D (fs d r) (dR d) = r ↔ isDl ow D r := by
  constructor
  · intro h
    rcases dof_cases (d := d) (ow := ow) (D := D) (fs d r) (dR d) with ⟨h1, h2⟩ | ⟨q, h1, h2, h3, h4⟩
    · omega
    · have : q = r := by omega
      subst this
      exact h3
  · intro h
    exact dof_of hD hr h (Or.inl rfl)
theorem C_firstShort (hd : NDok d) (ho : owOk d ow) (hD : DLok d D) (hN : NetC s n d) (hV : ViewC s n d ow) (hS : SetC s n d ow D) {c : Int} (hc : c = -1 ∨ c = 0 ∨ c = 1) : wp (F_Deals_firstShort c s) (fun z s' => IsFst (srt d ow D c) (dR d) z ∧ s' = s) := by
  have hW := hd.1
  have hR := hd.2.1
  unfold F_Deals_firstShort F_Deals_firstShort_2
  refine wp_loop (fun a : Int × Hp => ∃ k : Nat, k ≤ dR d ∧ a.1 = (k : Int) ∧ a.2 = s ∧ ∀ q, q < k → ¬ srt d ow D c q) (fun a => (30 - a.1).toNat) ?_ FU _ ?_ ?_
  · intro a K hp ih
    obtain ⟨x, u⟩ := a
    obtain ⟨r, hr, e1, e2, hq⟩ := hp
    dsimp only at e1 e2 ih ⊢
    subst e1 e2
    unfold F_Deals_firstShort_2_b F_Deals_firstShort_61 F_Deals_firstShort_108
    rw [lt_eq, hS.1, Int.toNat_natCast, gd_pos hN.1, hN.2.2.1]
    refine wp_if (fun cc => ?_) (fun cc => ?_)
    · have ek : r = dR d := by omega
      subst ek
      exact wp_ret ⟨Or.inl ⟨rfl, hq⟩, rfl⟩
    · have hrR : r < dR d := by omega
      have hp := hd.2.2.1 r hrR
      have g30 : (0 : Int) ≤ (r : Int) ∧ (r : Int) < 30 := by omega
      have g1 : (0 : Int) ≤ (fs d r : Int) ∧ (fs d r : Int) < 12 := by omega
      have g2 : (0 : Int) ≤ (sn d r : Int) ∧ (sn d r : Int) < 12 := by omega
      have n6 := hN.2.2.2.2.2.2.1 r hrR
      have x1 := shv_rng hd ho hD hp.1
      have x2 := shv_rng hd ho hD hp.2.1
      have hm := mkd_rng hd ho hrR
      have hdb := hd.2.2.2.2.2 r hrR
      have f1 : u 177 (fs d r) = shv d ow D (fs d r) := (hS.2.1 _ hp.1).2
      have f2 : u 177 (sn d r) = shv d ow D (sn d r) := (hS.2.1 _ hp.2.1).2
      have skip : ¬ srt d ow D c r → wp (lt (iadd (r : Int) 1) fun y2_1 => K (y2_1, u)) (fun z s' => IsFst (srt d ow D c) (dR d) z ∧ s' = u) := by
        intro no
        rw [lt_eq, iadd_ok (by omega)]
        refine ih _ ⟨r + 1, by omega, by simp, rfl, fun q hq2 => ?_⟩ (by dsimp only; omega)
        by_cases e : q = r
        · subst e
          exact no
        · exact hq q (by omega)
      rw [lt_eq, gd_pos hN.1, gd_pos g30, lt_eq, gd_pos g30, lt_eq, gd_pos hN.1, gd_pos g30, lt_eq, Int.toNat_natCast, n6.1, gd_pos g1, Int.toNat_natCast, (hS.2.1 _ hp.1).1, n6.2.2, (hV.2 r hrR).1, (hV.2 r hrR).2]
      by_cases co : ow r = -1
      · rw [if_pos co, if_pos co, gd_pos g30, gd_pos g30, if_pos rfl, if_pos rfl, ite_self]
        exact skip (fun z => z.1 co)
      · rw [if_neg co, if_neg co]
        refine wp_if (fun c1 => ?_) (fun c1 => ?_)
        · rw [gd_pos g30, if_neg (by decide), if_neg (by decide)]
          exact skip (fun z => z.2.1 ((dof_first hd hD hrR).mp c1))
        · rw [gd_pos g30, if_neg (by decide), if_pos rfl, gd_pos g1, lt_eq, gd_pos hN.1, gd_pos g30, n6.2.1, gd_pos g2, Int.toNat_natCast, f1, f2]
          have nd : ¬ isDl ow D r := fun z => c1 ((dof_first hd hD hrR).mpr z)
          have em : iadd (mkd d ow r) (imul c (db d r)) = mkd d ow r + c * db d r := by
            rcases hc with h | h | h <;> subst h <;> rw [imul_ok (by omega), iadd_ok (by omega)]
          rw [em, iadd_ok (a := shv d ow D (fs d r)) (by omega)]
          clear em
          refine wp_if (fun c2 => ?_) (fun c2 => ?_)
          · exact skip (fun z => by have := z.2.2; omega)
          · exact wp_ret ⟨Or.inr ⟨r, hrR, rfl, ⟨co, nd, by omega⟩, hq⟩, rfl⟩
  · exact ⟨0, by omega, rfl, rfl, fun q h => absurd h (by omega)⟩
  · rw [FU_eq]
    show (30 - (0 : Int)).toNat < 20000
    omega
def brk (d : ND) (ow : Nat → Int) (D : DL) (r : Nat) : Prop := ow r ≠ -1 ∧ shv d ow D (fs d r) + shv d ow D (sn d r) < mkd d ow r
theorem srt_brk (hd : NDok d) (hD : DLok d D) {r : Nat} (hr : r < dR d) : srt d ow D 0 r ↔ brk d ow D r := by
  unfold srt brk
  constructor
  · intro h
    exact ⟨h.1, by have := h.2.2; omega⟩
  · intro h
    refine ⟨h.1, fun z => ?_, by omega⟩
    have := h.2
    rw [shv_first hD hr z, shv_second hd hD hr z] at this
    omega
theorem M_breaksF (hd : NDok d) (ho : owOk d ow) (hD : DLok d D) (hN : NetM t b d) (hV : ViewM1 t d ow) (hS : ShM t d ow D) : wp (F_M_breaks_21 FU (0, t)) (fun z s' => IsFst (brk d ow D) (dR d) z ∧ s' = t) := by
  have hW := hd.1
  have hR := hd.2.1
  have hb := hN.1
  unfold F_M_breaks_21
  refine wp_loop (fun a : Int × Hp => ∃ k : Nat, k ≤ dR d ∧ a.1 = (k : Int) ∧ a.2 = t ∧ ∀ q, q < k → ¬ brk d ow D q) (fun a => (30 - a.1).toNat) ?_ FU _ ?_ ?_
  · intro a K hp ih
    obtain ⟨x, u⟩ := a
    obtain ⟨r, hr, e1, e2, hq⟩ := hp
    dsimp only at e1 e2 ih ⊢
    subst e1 e2
    unfold F_M_breaks_21_b F_M_breaks_77
    rw [hN.2.1, gd_pos (by omega), Int.toNat_natCast, hN.2.2.2.1]
    refine wp_if (fun c => ?_) (fun c => ?_)
    · have ek : r = dR d := by omega
      subst ek
      exact wp_ret ⟨Or.inl ⟨rfl, hq⟩, rfl⟩
    · have hrR : r < dR d := by omega
      have hp := hd.2.2.1 r hrR
      have g30 : (0 : Int) ≤ (r : Int) ∧ (r : Int) < 30 := by omega
      have g1 : (0 : Int) ≤ (fs d r : Int) ∧ (fs d r : Int) < 12 := by omega
      have g2 : (0 : Int) ≤ (sn d r : Int) ∧ (sn d r : Int) < 12 := by omega
      have x1 := shv_rng hd ho hD hp.1
      have x2 := shv_rng hd ho hD hp.2.1
      have f1 : u 45 (fs d r) = shv d ow D (fs d r) := (hS _ hp.1).2
      have f2 : u 45 (sn d r) = shv d ow D (sn d r) := (hS _ hp.2.1).2
      have skip : ¬ brk d ow D r → wp (lt (iadd (r : Int) 1) fun y2_1 => K (y2_1, u)) (fun z s' => IsFst (brk d ow D) (dR d) z ∧ s' = u) := by
        intro no
        rw [lt_eq, iadd_ok (by omega)]
        refine ih _ ⟨r + 1, by omega, by simp, rfl, fun q hq2 => ?_⟩ (by dsimp only; omega)
        by_cases e : q = r
        · subst e
          exact no
        · exact hq q (by omega)
      rw [gd_pos g30, Int.toNat_natCast, (hV r hrR).1]
      by_cases co : ow r = -1
      · rw [if_pos co, if_pos rfl]
        exact skip (fun z => z.1 co)
      · rw [if_neg co, if_neg (by decide), M_first hd hN hrR, cl2_some, gd_pos g1, M_second hd hN hrR, cl2_some, gd_pos g2, gd_pos g30, Int.toNat_natCast, Int.toNat_natCast, f1, f2, (hV r hrR).2, ladd_ok (by omega)]
        refine wp_if (fun c2 => ?_) (fun c2 => ?_)
        · have c2 := lcmp_ge.mp c2
          exact skip (fun z => by have := z.2; omega)
        · refine wp_ret ⟨Or.inr ⟨r, hrR, rfl, ⟨co, ?_⟩, hq⟩, rfl⟩
          apply Classical.byContradiction
          intro y
          exact c2 (lcmp_ge.mpr (by omega))
  · exact ⟨0, by omega, rfl, rfl, fun q h => absurd h (by omega)⟩
  · rw [FU_eq]
    show (30 - (0 : Int)).toNat < 20000
    omega
def suOk (d : ND) (ow : Nat → Int) (D : DL) (k : Nat) : Prop := ∀ q, q < k → ¬ srt d ow D 1 q
theorem M_surelyF (hd : NDok d) (ho : owOk d ow) (hD : DLok d D) (hN : NetM t b d) (hV : ViewM1 t d ow) (hS : ShM t d ow D) (hT : ∀ r, r < 30 → t 42 r = (if D.1 r = true then 1 else 0)) : wp (F_M_surely_18 FU (1, 0, t)) (fun z s' => ((suOk d ow D (dR d) ∧ z = 2) ∨ (¬ suOk d ow D (dR d) ∧ (∀ q, q < dR d → ¬ srt d ow D (-1) q) ∧ z = 1) ∨ ((∃ q, q < dR d ∧ srt d ow D (-1) q) ∧ z = 0)) ∧ s' = t) := by
  have hW := hd.1
  have hR := hd.2.1
  have hb := hN.1
  unfold F_M_surely_18
  refine wp_loop (fun a : Int × Int × Hp => ∃ k : Nat, k ≤ dR d ∧ a.2.1 = (k : Int) ∧ a.2.2 = t ∧ (∀ q, q < k → ¬ srt d ow D (-1) q) ∧ ((a.1 = 1 ∧ suOk d ow D k) ∨ (a.1 = 0 ∧ ¬ suOk d ow D k))) (fun a => (30 - a.2.1).toNat) ?_ FU _ ?_ ?_
  · intro a K hp ih
    obtain ⟨v, x, u⟩ := a
    obtain ⟨r, hr, e1, e2, hq, hv⟩ := hp
    dsimp only at e1 e2 hv ih ⊢
    subst e1 e2
    unfold F_M_surely_18_b F_M_surely_138 F_M_surely_139 F_M_surely_140 F_M_surely_155
    rw [hN.2.1, gd_pos (by omega), Int.toNat_natCast, hN.2.2.2.1]
    refine wp_if (fun c => ?_) (fun c => ?_)
    · have ek : r = dR d := by omega
      subst ek
      rcases hv with ⟨v1, v2⟩ | ⟨v1, v2⟩
      · rw [v1, if_neg (by decide)]
        exact wp_ret ⟨Or.inl ⟨v2, rfl⟩, rfl⟩
      · rw [v1, if_pos rfl]
        exact wp_ret ⟨Or.inr (Or.inl ⟨v2, hq, rfl⟩), rfl⟩
    · have hrR : r < dR d := by omega
      have hp := hd.2.2.1 r hrR
      have g30 : (0 : Int) ≤ (r : Int) ∧ (r : Int) < 30 := by omega
      have g1 : (0 : Int) ≤ (fs d r : Int) ∧ (fs d r : Int) < 12 := by omega
      have g2 : (0 : Int) ≤ (sn d r : Int) ∧ (sn d r : Int) < 12 := by omega
      have x1 := shv_rng hd ho hD hp.1
      have x2 := shv_rng hd ho hD hp.2.1
      have hm := mkd_rng hd ho hrR
      have hdb := hd.2.2.2.2.2 r hrR
      have f1 : u 45 (fs d r) = shv d ow D (fs d r) := (hS _ hp.1).2
      have f2 : u 45 (sn d r) = shv d ow D (sn d r) := (hS _ hp.2.1).2
      have next : ¬ srt d ow D (-1) r → ∀ v' : Int, ((v' = 1 ∧ suOk d ow D (r + 1)) ∨ (v' = 0 ∧ ¬ suOk d ow D (r + 1))) → wp (lt (iadd (r : Int) 1) fun y2_1 => K (v', y2_1, u)) (fun z s' => ((suOk d ow D (dR d) ∧ z = 2) ∨ (¬ suOk d ow D (dR d) ∧ (∀ q, q < dR d → ¬ srt d ow D (-1) q) ∧ z = 1) ∨ ((∃ q, q < dR d ∧ srt d ow D (-1) q) ∧ z = 0)) ∧ s' = u) := by
        intro no v' hv'
        rw [lt_eq, iadd_ok (by omega)]
        refine ih _ ⟨r + 1, by omega, by simp, rfl, fun q hq2 => ?_, hv'⟩ (by dsimp only; omega)
        by_cases e : q = r
        · subst e
          exact no
        · exact hq q (by omega)
      have keep : ¬ srt d ow D 1 r → ((v = 1 ∧ suOk d ow D (r + 1)) ∨ (v = 0 ∧ ¬ suOk d ow D (r + 1))) := by
        intro no
        rcases hv with ⟨v1, v2⟩ | ⟨v1, v2⟩
        · refine Or.inl ⟨v1, fun q hq2 => ?_⟩
          by_cases e : q = r
          · subst e; exact no
          · exact v2 q (by omega)
        · exact Or.inr ⟨v1, fun z => v2 (fun q hq2 => z q (by omega))⟩
      rw [gd_pos g30, Int.toNat_natCast, (hV r hrR).1]
      by_cases co : ow r = -1
      · rw [if_pos co, if_pos rfl]
        exact next (fun z => z.1 co) v (keep (fun z => z.1 co))
      · rw [if_neg co, if_neg (by decide), gd_pos g30, hT r (by omega)]
        by_cases cd : D.1 r = true
        · rw [if_pos cd, if_neg (by decide)]
          exact next (fun z => z.2.1 ⟨cd, co⟩) v (keep (fun z => z.2.1 ⟨cd, co⟩))
        · have nd : ¬ isDl ow D r := fun z => cd z.1
          rw [if_neg cd, if_pos rfl, M_first hd hN hrR, cl2_some, gd_pos g1, M_second hd hN hrR, cl2_some, gd_pos g2, lt_eq, gd_pos g30, hN.2.1, ix30 hb (by omega), gd_pos (by omega), Int.toNat_natCast, Int.toNat_natCast, Int.toNat_natCast, f1, f2, (hV r hrR).2, (hN.2.2.2.2.2.2.2.1 r hrR).2.2, ladd_ok (by omega), isub_ok (by omega)]
          refine wp_if (fun c2 => ?_) (fun c2 => ?_)
          · have c2 := lcmp_ge.mp c2
            have no : ¬ srt d ow D (-1) r := fun z => by have := z.2.2; omega
            rcases hv with ⟨v1, v2⟩ | ⟨v1, v2⟩
            · rw [if_neg (by omega), gd_pos g30, gd_pos (by omega), iadd_ok (a := mkd d ow r) (by omega)]
              refine wp_if (fun c3 => ?_) (fun c3 => ?_)
              · have c3 := lcmp_lt.mp c3
                refine next no 0 (Or.inr ⟨rfl, fun z => z r (by omega) ⟨co, nd, by omega⟩⟩)
              · refine next no 1 (Or.inl ⟨rfl, fun q hq2 => ?_⟩)
                by_cases e : q = r
                · subst e
                  exact fun z => c3 (lcmp_lt.mpr (by have := z.2.2; omega))
                · exact v2 q (by omega)
            · rw [if_pos v1]
              exact next no 0 (Or.inr ⟨rfl, fun z => v2 (fun q hq2 => z q (by omega))⟩)
          · refine wp_ret ⟨Or.inr (Or.inr ⟨⟨r, hrR, co, nd, ?_⟩, rfl⟩), rfl⟩
            apply Classical.byContradiction
            intro y
            exact c2 (lcmp_ge.mpr (by omega))
  · exact ⟨0, by omega, rfl, rfl, fun q h => absurd h (by omega), Or.inl ⟨rfl, fun q h => absurd h (by omega)⟩⟩
  · rw [FU_eq]
    show (30 - (0 : Int)).toNat < 20000
    omega
theorem srt_mono (hd : NDok d) {r : Nat} (hr : r < dR d) (h : srt d ow D (-1) r) : srt d ow D 1 r := by
  have hdb := hd.2.2.2.2.2 r hr
  exact ⟨h.1, h.2.1, by have := h.2.2; omega⟩
theorem S_breaks (σ τ : Hp) (h : Inv σ τ) : ∃ (z : Int) (σ' τ' : Hp), F_RD_breaks σ = some (z, σ') ∧ F_M_breaks τ = some (z, τ') ∧ Inv σ' τ' := by
  obtain ⟨n, b, d, A, kn, now, day, D, hI⟩ := id h
  obtain ⟨g1, g2, g3, g4, g5⟩ := hI.1
  have ho := hI.oo
  have hW := g1.1
  obtain ⟨z, s, e, hz, hIs, hS⟩ := C_dealsNow hI
  obtain ⟨z2, t, e2, hIt, hV, hSh⟩ := hIs.laysAll
  obtain ⟨l1, s1, f1, hl1, es⟩ := C_firstLone g1 hIs.2.1.1 hS
  obtain ⟨l2, t1, f2, hl2, et⟩ := M_lone g1 hIt.2.2.1.1 hSh
  have el := hl1.uniq hl2
  subst el es et
  obtain ⟨v1, s2, f3, hv1, es⟩ := C_firstShort g1 ho g5 hIs.2.1.1 hIs.2.1.2.2.2.2.2.1 hS (c := 0) (Or.inr (Or.inl rfl))
  obtain ⟨v2, t2, f4, hv2, et⟩ := M_breaksF g1 ho g5 hIt.2.2.1.1 hV hSh
  have ev := (hv1.iff (fun r hr => srt_brk g1 g5 hr)).uniq hv2
  subst ev es et
  unfold F_RD_breaks F_RD_breaks_28 F_M_breaks
  rw [e, e2, cl2_some, cl2_some, gd_pos hz, f1, f2, cl2_some, cl2_some]
  by_cases c : l1 = -1
  · rw [if_pos c, if_pos c, f3, f4, cl2_some]
    exact ⟨_, _, _, rfl, rfl, n, b, d, A, kn, now, day, D, hIt⟩
  · rw [if_neg c, if_neg c]
    exact ⟨_, _, _, rfl, rfl, n, b, d, A, kn, now, day, D, hIt⟩
theorem S_surely (σ τ : Hp) (h : Inv σ τ) : ∃ (z : Int) (σ' τ' : Hp), F_RD_surely σ = some (z, σ') ∧ F_M_surely τ = some (z, τ') ∧ Inv σ' τ' := by
  obtain ⟨n, b, d, A, kn, now, day, D, hI⟩ := id h
  obtain ⟨g1, g2, g3, g4, g5⟩ := hI.1
  have ho := hI.oo
  obtain ⟨z, s, e, hz, hIs, hS⟩ := C_dealsNow hI
  obtain ⟨z2, t, e2, hIt, hV, hSh⟩ := hIs.laysAll
  obtain ⟨l1, s1, f1, hl1, es⟩ := C_firstLone g1 hIs.2.1.1 hS
  obtain ⟨l2, t1, f2, hl2, et⟩ := M_lone g1 hIt.2.2.1.1 hSh
  have el := hl1.uniq hl2
  subst el es et
  obtain ⟨v1, s2, f3, hv1, es⟩ := C_firstShort g1 ho g5 hIs.2.1.1 hIs.2.1.2.2.2.2.2.1 hS (c := 1) (Or.inr (Or.inr rfl))
  subst es
  obtain ⟨v2, s3, f5, hv2, es⟩ := C_firstShort g1 ho g5 hIs.2.1.1 hIs.2.1.2.2.2.2.2.1 hS (c := -1) (Or.inl rfl)
  subst es
  obtain ⟨v3, t2, f4, hv3, et⟩ := M_surelyF g1 ho g5 hIt.2.2.1.1 hV hSh (fun r hr => (hIt.2.2.2.1.1 r hr).2.1)
  subst et
  unfold F_RD_surely F_RD_surely_44 F_M_surely
  rw [e, e2, cl2_some, cl2_some, gd_pos hz, f1, f2, cl2_some, cl2_some]
  by_cases c : l1 = -1
  · rw [if_pos c, if_pos c, f3, f4, cl2_some]
    refine ⟨v3, _, _, ?_, rfl, n, b, d, A, kn, now, day, D, hIt⟩
    by_cases c1 : v1 = -1
    · have h1 := hv1.none.mp c1
      rw [if_pos c1]
      rcases hv3 with ⟨y1, y2⟩ | ⟨y1, _, y2⟩ | ⟨⟨q, y1, y2⟩, y3⟩
      · rw [y2]
      · exact absurd h1 y1
      · exact absurd (srt_mono g1 y1 y2) (h1 q y1)
    · have h1 : ¬ suOk d (owd d A day now) D (dR d) := fun y => c1 (hv1.none.mpr y)
      rw [if_neg c1, f5, cl2_some]
      by_cases c2 : v2 = -1
      · have h2 := hv2.none.mp c2
        rw [if_pos c2]
        rcases hv3 with ⟨y1, y2⟩ | ⟨y1, _, y2⟩ | ⟨⟨q, y1, y2⟩, y3⟩
        · exact absurd y1 h1
        · rw [y2]
        · exact absurd y2 (h2 q y1)
      · rw [if_neg c2]
        rcases hv3 with ⟨y1, y2⟩ | ⟨y1, y0, y2⟩ | ⟨⟨q, y1, y2⟩, y3⟩
        · exact absurd y1 h1
        · exact absurd (hv2.none.mpr y0) c2
        · rw [y3]
  · rw [if_neg c, if_neg c]
    exact ⟨_, _, _, rfl, rfl, n, b, d, A, kn, now, day, D, hIt⟩
end Hold
