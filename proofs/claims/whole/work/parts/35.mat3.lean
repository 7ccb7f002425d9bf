/-! the class's search: a place for a row; the greatest sum -/
section Mat3
variable {w : Nat → Nat → Int} {W r k c : Nat}
theorem C_place76 {s : Hp} {od : Nat → Nat} (hW : W ≤ 12) (h7 : s 91 7 = W) (hP : PS w W r k (s 106) (s 107) (s 108) (s 110) (s 109) (s 111) od c) (hk : 1 ≤ k) (hc : s 108 c = 0) (a1 : Int) :
    wp (F_Mat_place_76 a1 FU ((c : Int), 0, s)) (fun _ t => HP w W (r + 1) (t 106) (t 107) (t 108) ∧ ∀ q, q ≠ 108 → t q = s q) := by
  have hkW := hP.kW
  obtain ⟨hR, hrW, h0, hf, ht, hv, hu, hDD, hD0, ⟨hc1, hc2, hc3, hc4⟩, hs, ⟨tr1, tr2, tr3⟩, hcW, hcc, hck0, hck1⟩ := id hP
  have hr1 : 1 ≤ r := by have := hR.2.2; omega
  obtain ⟨hc1', hslc⟩ := hck1 hk
  unfold F_Mat_place_76
  refine wp_loop (fun a : Int × Int × Hp => ∃ x sN : Nat, a.1 = (x : Int) ∧ a.2.1 = (sN : Int) ∧ x ≤ W ∧ (x ≠ 0 → (s 111 x = 1 ∨ x = c) ∧ sN + (if x = c then k else od x) ≤ k) ∧ (∀ q, q ≠ 108 → a.2.2 q = s q) ∧
      (x ≠ 0 → ∀ q, q ≤ W → s 111 q = 1 → od q < (if x = c then k else od x) → a.2.2 108 q = s 108 q) ∧
      (∀ i j, i ≤ W → j ≤ W → i ≠ j → i ≠ x → j ≠ x → a.2.2 108 i ≠ 0 → a.2.2 108 i ≠ a.2.2 108 j) ∧ (∀ j, j ≤ W → 0 ≤ a.2.2 108 j ∧ a.2.2 108 j ≤ r) ∧
      (∀ j, 1 ≤ j → j ≤ W → j ≠ x → a.2.2 108 j ≠ 0 → lss w (s 106) (s 107) (a.2.2 108 j) j = 0) ∧
      ((x = c ∧ ∀ j, j ≤ W → a.2.2 108 j = s 108 j) ∨ ∀ j, 1 ≤ j → j ≤ W → (a.2.2 108 j = 0 ↔ (s 108 j = 0 ∧ j ≠ c)))) (fun a => (20 - a.2.1).toNat) ?_ FU _ ?_ ?_
  · intro a k76 hp ih
    obtain ⟨y, z, t⟩ := a
    obtain ⟨x, sN, e0, e1, hxW, hx, hq, hun, hinj, hrng, htig, hcnt⟩ := hp
    dsimp only at e0 e1 hq hun hinj hrng htig hcnt ih ⊢
    subst e0 e1
    have fin : x = 0 → wp (F_Mat_place_118 a1 t) (fun _ t => HP w W (r + 1) (t 106) (t 107) (t 108) ∧ ∀ q, q ≠ 108 → t q = s q) := by
      intro ex
      subst ex
      have hcnt : ∀ j, 1 ≤ j → j ≤ W → (t 108 j = 0 ↔ (s 108 j = 0 ∧ j ≠ c)) := hcnt.resolve_left (fun z => by omega)
      unfold F_Mat_place_118
      refine wp_ret ⟨?_, hq⟩
      rw [hq 106 (by decide), hq 107 (by decide)]
      refine ⟨⟨fun j h1 h2 => ⟨(hrng j h2).1, by have := (hrng j h2).2; omega⟩, fun i j h1 h2 h3 h4 h5 h6 => hinj i j h2 h4 h5 (by omega) (by omega) h6, ?_⟩, fun i j h1 h2 h3 h4 => hf i j h1 (by omega) (fun _ => hk) h3 h4, fun j h1 h2 h3 => htig j h1 h2 (by omega) h3, fun j h1 h2 => ?_, fun i hi hiW => hu i (by omega) hiW⟩
      · have e2 := hR.2.2
        rw [sm_pick (v := c - 1) (by omega)] at e2 ⊢
        rw [show c - 1 + 1 = c by omega] at e2 ⊢
        rw [if_pos hc] at e2
        rw [if_neg (fun z => ((hcnt c hc1' hcW).mp z).2 rfl)]
        have e3 : sm W (fun u => if u = c - 1 then 0 else if t 108 (u + 1) = 0 then 0 else 1) = sm W (fun u => if u = c - 1 then 0 else if s 108 (u + 1) = 0 then 0 else 1) := by
          apply sm_congr
          intro u hu9
          by_cases e : u = c - 1
          · rw [if_pos e, if_pos e]
          · rw [if_neg e, if_neg e]
            by_cases e2 : s 108 (u + 1) = 0
            · rw [if_pos e2, if_pos ((hcnt (u + 1) (by omega) (by omega)).mpr ⟨e2, by omega⟩)]
            · rw [if_neg e2, if_neg (fun z => e2 ((hcnt (u + 1) (by omega) (by omega)).mp z).1)]
        rw [e3]
        omega
      · have h9 := hv j h1 h2
        refine ⟨h9.1, by omega, fun z => h9.2.2 ((hcnt j h1 h2).mp z).1⟩
    unfold F_Mat_place_76_b
    rw [hq 91 (by decide), h7]
    by_cases ex : x = 0
    · refine wp_if (fun _ => fin ex) (fun _ => wp_ifT (by omega) (fin ex))
    · obtain ⟨hx1, hx2⟩ := hx ex
      refine wp_ifF (by omega) (wp_ifF (by omega) ?_)
      -- where it came from
      obtain ⟨q, g1, g2, g3, g4, g5⟩ : ∃ q : Nat, q ≤ W ∧ s 109 x = q ∧ s 111 q = 1 ∧ od q < (if x = c then k else od x) ∧ lss w (s 106) (s 107) (s 108 q) x = 0 := by
        by_cases exc : x = c
        · subst exc
          rcases (hs x hc1' hcW hcc).2 with ⟨e1, _⟩ | ⟨_, q, g1, g2, g3, g4⟩
          · omega
          · refine ⟨q, g1, g2, g3, by rw [if_pos rfl]; exact tr3 q g1 g3, by rw [← g4]; exact hslc⟩
        · rw [if_neg exc]
          exact tr1 x (by omega) hxW (hx1.resolve_right exc)
      have hqx : q ≠ x := fun e => by
        rw [e] at g4
        by_cases exc : x = c
        · rw [e, exc, hcc] at g3; cases g3
        · rw [if_neg exc] at g4; omega
      have hqc : q ≠ c := fun e => by rw [e, hcc] at g3; cases g3
      have hraq : s 108 q ≠ 0 := by
        by_cases e : q = 0
        · rw [e, h0]; omega
        · exact hc3 q (by omega) g1 g3
      have tq := hun ex q g1 g3 g4
      have x13 : (0 : Int) ≤ (x : Int) ∧ (x : Int) < 13 := by omega
      rw [gd_pos x13, hq 109 (by decide), Int.toNat_natCast, g2, gd_pos (by omega), gd_pos x13, Int.toNat_natCast, tq, lt_eq, gd_pos x13, hset_obj _ _ _ _ (show (109 : Nat) ≠ 108 by decide), hq 109 (by decide), g2, lt_eq, lt_eq, iadd_ok (by omega)]
      have tx : ∀ j, hset t 108 x (s 108 q) 108 j = if j = x then s 108 q else t 108 j := fun j => by
        rw [hset_get]
        by_cases e : j = x
        · rw [if_pos ⟨rfl, e⟩, if_pos e]
        · rw [if_neg (fun z => e z.2), if_neg e]
      have rq : 0 ≤ s 108 q ∧ s 108 q ≤ r := by rw [← tq]; exact hrng q g1
      refine ih _ ⟨q, sN + 1, rfl, by simp, g1, fun hq0 => ⟨Or.inl g3, by rw [if_neg hqc]; omega⟩, fun q' h' => by rw [← hq q' h']; exact hset_obj _ _ _ _ h', fun hq0 q' h1 h2 h3 => ?_, fun i j h1 h2 h3 h4 h5 h6 => ?_, fun j hj => ?_, fun j h1 h2 h3 h4 => ?_, Or.inr (fun j h1 h2 => ?_)⟩ (by dsimp only; omega)
      · show hset t 108 x (s 108 q) 108 q' = _
        rw [if_neg hqc] at h3
        have hlt : od q' < (if x = c then k else od x) := by omega
        have hne : q' ≠ x := fun e => by
          rw [e] at h2 hlt
          by_cases exc : x = c
          · rw [exc, hcc] at h2; cases h2
          · rw [if_neg exc] at hlt; omega
        rw [tx, if_neg hne]
        exact hun ex q' h1 h2 hlt
      · show hset t 108 x (s 108 q) 108 i ≠ hset t 108 x (s 108 q) 108 j
        have h6 : hset t 108 x (s 108 q) 108 i ≠ 0 := h6
        rw [tx, tx]
        rw [tx] at h6
        by_cases ei : i = x
        · rw [if_pos ei] at h6 ⊢
          rw [if_neg (fun e => h3 (ei.trans e.symm)), ← tq]
          exact hinj q j g1 h2 (fun e => h5 e.symm) hqx (fun e => h3 (ei.trans e.symm)) (by rw [tq]; exact hraq)
        · rw [if_neg ei] at h6 ⊢
          by_cases ej : j = x
          · rw [if_pos ej, ← tq]
            exact hinj i q h1 g1 h4 ei hqx h6
          · rw [if_neg ej]
            exact hinj i j h1 h2 h3 ei ej h6
      · show 0 ≤ hset t 108 x (s 108 q) 108 j ∧ hset t 108 x (s 108 q) 108 j ≤ r
        rw [tx]
        split
        · exact rq
        · exact hrng j hj
      · have h4 : hset t 108 x (s 108 q) 108 j ≠ 0 := h4
        show lss w (s 106) (s 107) (hset t 108 x (s 108 q) 108 j) j = 0
        rw [tx] at h4 ⊢
        by_cases ej : j = x
        · rw [if_pos ej, ej]; exact g5
        · rw [if_neg ej] at h4 ⊢
          exact htig j h1 h2 ej h4
      · show hset t 108 x (s 108 q) 108 j = 0 ↔ _
        rw [tx]
        by_cases ej : j = x
        · rw [if_pos ej]
          constructor
          · exact fun e => absurd e hraq
          · rintro ⟨e1, e2⟩
            rw [ej] at e1 e2
            exact absurd e1 (hc3 x (by omega) hxW (hx1.resolve_right e2))
        · rw [if_neg ej]
          rcases hcnt with ⟨e1, e2⟩ | e1
          · rw [e2 j h2]
            exact ⟨fun e => ⟨e, fun e3 => ej (e3.trans e1.symm)⟩, fun e => e.1⟩
          · exact e1 j h1 h2
  · refine ⟨c, 0, rfl, rfl, hcW, fun _ => ⟨Or.inr rfl, by rw [if_pos rfl]; omega⟩, fun _ _ => rfl, fun _ _ _ _ _ => rfl, fun i j h1 h2 h3 h4 h5 h6 => ?_, fun j hj => ?_, fun j h1 h2 _ h4 => ht j h1 h2 h4, Or.inl ⟨rfl, fun _ _ => rfl⟩⟩
    · show s 108 i ≠ s 108 j
      have h6 : s 108 i ≠ 0 := h6
      by_cases ei : i = 0
      · have := hR.1 j (by omega) h2
        rw [ei, h0]; omega
      · by_cases ej : j = 0
        · have := hR.1 i (by omega) h1
          rw [ej, h0]; omega
        · exact hR.2.1 i j (by omega) h1 (by omega) h2 h3 h6
    · show 0 ≤ s 108 j ∧ s 108 j ≤ r
      by_cases e : j = 0
      · rw [e, h0]; omega
      · have := hR.1 j (by omega) hj
        omega
  · rw [FU_eq]
    show (20 - (0 : Int)).toNat < 20000
    omega
theorem C_place {s : Hp} (hw : wOk w) (hW : W ≤ 12) (h7 : s 91 7 = W) (hwt : ∀ i j, i ≤ W → j ≤ W → s (92 + 1 + i) j = w i j) (hH : HP w W r (s 106) (s 107) (s 108)) (hrW : r ≤ W) :
    wp (F_Mat_place r s) (fun _ t => HP w W (r + 1) (t 106) (t 107) (t 108) ∧ matF s t) := by
  unfold F_Mat_place F_Mat_place_9
  rw [lt_eq]
  refine wp_loop (fun a : Int × Hp => ∃ m : Nat, m ≤ W + 1 ∧ a.1 = (m : Int) ∧ (∀ q, q ≠ 108 → q ≠ 110 → q ≠ 111 → a.2 q = s q) ∧ (∀ j, a.2 108 j = if j = 0 then (r : Int) else s 108 j) ∧ ∀ j, j < m → a.2 110 j = 1000000000 ∧ a.2 111 j = 0) (fun a => (300 - a.1).toNat) ?_ FU _ ?_ ?_
  · intro a k9 hp ih
    obtain ⟨x, t⟩ := a
    obtain ⟨m, hm, e0, hq, h108, hz⟩ := hp
    dsimp only at e0 hq h108 hz ih ⊢
    subst e0
    unfold F_Mat_place_9_b
    rw [hq 91 (by decide) (by decide) (by decide), h7]
    refine wp_if (fun c2 => ?_) (fun c2 => ?_)
    · have em : m = W + 1 := by omega
      subst em
      obtain ⟨⟨ra1, ra2, ra3⟩, hf, ht, hv, hu⟩ := hH
      have r108 : ∀ j, 1 ≤ j → t 108 j = s 108 j := fun j hj => by rw [h108, if_neg (by omega)]
      have hr1 : 1 ≤ r := by omega
      have start : PS w W r 0 (t 106) (t 107) (t 108) (t 110) (t 109) (t 111) (fun _ => 0) 0 := by
        rw [hq 106 (by decide) (by decide) (by decide), hq 107 (by decide) (by decide) (by decide)]
        refine ⟨⟨fun j h1 h2 => by rw [r108 j h1]; exact ra1 j h1 h2, fun i j h1 h2 h3 h4 h5 h6 => by rw [r108 i h1] at h6 ⊢; rw [r108 j h3]; exact ra2 i j h1 h2 h3 h4 h5 h6, ?_⟩, hrW, by rw [h108, if_pos rfl], fun i j h1 h2 h3 h4 h5 => hf i j h1 (Nat.lt_of_le_of_ne h2 (fun e => absurd (h3 e) (by omega))) h4 h5, fun j h1 h2 h3 => by rw [r108 j h1] at h3 ⊢; exact ht j h1 h2 h3, fun j h1 h2 => ?_, fun i hi hiW => hu i (by omega) hiW, ?_, fun _ => ⟨hu r (Nat.le_refl _) hrW, fun j h1 h2 => (hv j h1 h2).2.1⟩, ⟨fun j hj => Or.inl (hz j (by omega)).2, fun h => absurd h (by omega), fun j h1 h2 h3 => absurd ((hz j (by omega)).2.symm.trans h3) (by decide), ?_⟩, fun j h1 h2 h3 => ⟨fun q hq9 h4 => absurd ((hz q (by omega)).2.symm.trans h4) (by decide), Or.inl ⟨rfl, (hz j (by omega)).1⟩⟩, ⟨fun j h1 h2 h3 => absurd ((hz j (by omega)).2.symm.trans h3) (by decide), rfl, fun j h1 h2 => absurd ((hz j (by omega)).2.symm.trans h2) (by decide)⟩, by omega, (hz 0 (by omega)).2, fun _ => rfl, fun h => absurd h (by omega)⟩
        · rw [← ra3]
          congr 1
          apply sm_congr
          intro j hj
          rw [r108 (j + 1) (by omega)]
        · have h9 := hv j h1 h2
          rw [r108 j h1, hu r (Nat.le_refl _) hrW]
          refine ⟨h9.1, by omega, h9.2.2⟩
        · rw [hu r (Nat.le_refl _) hrW]
          omega
        · apply sm_zero
          intro j hj
          rw [if_pos (hz j hj).2]
      unfold F_Mat_place_42
      refine wp_loop (fun a : Int × Int × Hp => ∃ c k : Nat, ∃ od : Nat → Nat, a.1 = (c : Int) ∧ a.2.1 = (k : Int) ∧ PS w W r k (a.2.2 106) (a.2.2 107) (a.2.2 108) (a.2.2 110) (a.2.2 109) (a.2.2 111) od c ∧ a.2.2 108 c ≠ 0 ∧ matF s a.2.2) (fun a => (20 - a.2.1).toNat) ?_ FU _ ?_ ?_
      · intro a k42 hp2 ih2
        obtain ⟨y, z, u⟩ := a
        obtain ⟨c, k, od, e0, e1, hP, hc, hmF⟩ := hp2
        dsimp only at e0 e1 hP hc hmF ih2 ⊢
        subst e0 e1
        have hkW := hP.kW
        unfold F_Mat_place_42_b
        rw [hmF 91 (by omega), h7]
        refine wp_ifF (by omega) ?_
        refine wp_cl (C_next hw hW (by rw [hmF 91 (by omega)]; exact h7) (fun i j hi hj => by rw [hmF _ (by omega)]; exact hwt i j hi hj) hP hc) (fun z v hv9 => ?_)
        obtain ⟨q1, nx, od2, q2, q3, q4, q5⟩ := hv9
        subst q2
        have mF2 : matF s v := fun q hq9 => by rw [q1 q (by omega) (by omega) (by omega) (by omega) (by omega)]; exact hmF q hq9
        rw [gd_pos (by omega), Int.toNat_natCast]
        refine wp_if (fun c3 => ?_) (fun c3 => ?_)
        · unfold F_Mat_place_74
          refine wp_mono (C_place76 hW (by rw [mF2 91 (by omega)]; exact h7) q5 (by omega) c3 _) (fun z t9 ht9 => ⟨ht9.1, fun q hq9 => by rw [ht9.2 q (by omega)]; exact mF2 q hq9⟩)
        · rw [lt_eq, iadd_ok (by omega)]
          exact ih2 _ ⟨nx, k + 1, od2, rfl, by simp, q5, c3, mF2⟩ (by dsimp only; omega)
      · refine ⟨0, 0, fun _ => 0, rfl, rfl, start, ?_, fun q hq9 => hq q (by omega) (by omega) (by omega)⟩
        show t 108 0 ≠ 0
        rw [h108, if_pos rfl]
        omega
      · rw [FU_eq]
        show (20 - (0 : Int)).toNat < 20000
        omega
    · have m13 : (0 : Int) ≤ (m : Int) ∧ (m : Int) < 13 := by omega
      rw [gd_pos m13, lt_eq, gd_pos m13, lt_eq, lt_eq, Int.toNat_natCast, iadd_ok (by omega), z1_eq (Or.inl rfl)]
      refine ih _ ⟨m + 1, by omega, by simp, fun q a1 a2 a3 => by rw [← hq q a1 a2 a3]; show hset (hset t 110 _ _) 111 _ _ q = _; rw [hset_obj _ _ _ _ a3, hset_obj _ _ _ _ a2], fun j => ?_, fun j hj => ?_⟩ (by dsimp only; omega)
      · show hset (hset t 110 m 1000000000) 111 m 0 108 j = _
        rw [hset_obj _ _ _ _ (by decide), hset_obj _ _ _ _ (by decide)]
        exact h108 j
      · show hset (hset t 110 m 1000000000) 111 m 0 110 j = _ ∧ hset (hset t 110 m 1000000000) 111 m 0 111 j = 0
        rw [hset_obj _ _ _ _ (show (110 : Nat) ≠ 111 by decide), hset_get, hset_get]
        by_cases e : j = m
        · rw [if_pos ⟨rfl, e⟩, if_pos ⟨rfl, e⟩]
          exact ⟨rfl, rfl⟩
        · rw [if_neg (fun z => e z.2), if_neg (fun z => e z.2), hset_obj _ _ _ _ (show (111 : Nat) ≠ 110 by decide)]
          exact hz j (by omega)
  · refine ⟨0, by omega, rfl, fun q a1 _ _ => hset_obj _ _ _ _ a1, fun j => ?_, fun j hj => absurd hj (by omega)⟩
    show hset s 108 0 r 108 j = _
    rw [hset_get]
    by_cases e : j = 0
    · rw [if_pos ⟨rfl, e⟩, if_pos e]
    · rw [if_neg (fun z => e z.2), if_neg e]
  · rw [FU_eq]
    show (300 - (0 : Int)).toNat < 20000
    omega
theorem C_greatest {s : Hp} (hw : wOk w) (hW : W ≤ 12) (h7 : s 91 7 = W) (hwt : ∀ i j, i ≤ W → j ≤ W → s (92 + 1 + i) j = w i j) :
    wp (F_Mat_greatest s) (fun z t => cert W (fun i j => w (i + 1) (j + 1)) z ∧ 0 ≤ z ∧ z ≤ 1439976 ∧ matF s t) := by
  unfold F_Mat_greatest
  refine wp_cl (J_fill (n := 13) (by decide) (by decide) (by decide) s) (fun _ s1 h1 => ?_)
  refine wp_cl (J_fill (n := 13) (by decide) (by decide) (by decide) s1) (fun _ s2 h2 => ?_)
  refine wp_cl (J_fill (n := 13) (by decide) (by decide) (by decide) s2) (fun _ s3 h3 => ?_)
  have z106 : ∀ i, i < 13 → s3 106 i = 0 := fun i hi => by rw [h3.1 _ (by decide), h2.1 _ (by decide)]; exact h1.2 i hi
  have z107 : ∀ i, i < 13 → s3 107 i = 0 := fun i hi => by rw [h3.1 _ (by decide)]; exact h2.2 i hi
  have z108 : ∀ i, i < 13 → s3 108 i = 0 := h3.2
  have mF3 : matF s s3 := fun q hq => by rw [h3.1 q (by omega), h2.1 q (by omega), h1.1 q (by omega)]
  unfold F_Mat_greatest_26
  refine wp_loop (fun a : Int × Hp => ∃ r : Nat, 1 ≤ r ∧ r ≤ W + 1 ∧ a.1 = (r : Int) ∧ HP w W r (a.2 106) (a.2 107) (a.2 108) ∧ matF s a.2) (fun a => (300 - a.1).toNat) ?_ FU _ ?_ ?_
  · intro a k hp ih
    obtain ⟨x, t⟩ := a
    obtain ⟨r, hr1, hr2, e0, hH, hmF⟩ := hp
    dsimp only at e0 hH hmF ih ⊢
    subst e0
    unfold F_Mat_greatest_26_b
    rw [hmF 91 (by omega), h7]
    refine wp_if (fun c => ?_) (fun c => ?_)
    · have er : r = W + 1 := by omega
      subst er
      obtain ⟨⟨ra1, ra2, ra3⟩, hf, ht, hv, hu⟩ := hH
      have nz : ∀ j, 1 ≤ j → j ≤ W → t 108 j ≠ 0 := fun j h1 h2 z => by
        have e1 : sm W (fun j => if t 108 (j + 1) = 0 then 0 else 1) < sm W (fun _ => 1) := by
          rw [sm_pick (v := j - 1) (f := fun j => if t 108 (j + 1) = 0 then 0 else 1) (by omega), sm_pick (v := j - 1) (f := fun _ => 1) (by omega), show j - 1 + 1 = j by omega, if_pos z]
          have hle : ∀ n, sm n (fun x => if x = j - 1 then 0 else if t 108 (x + 1) = 0 then 0 else 1) ≤ sm n (fun u => if u = j - 1 then 0 else 1) := by
            intro n
            induction n with
            | zero => exact Nat.le_refl _
            | succ n ih9 =>
              show sm n _ + (if n = j - 1 then 0 else if t 108 (n + 1) = 0 then 0 else 1) ≤ sm n _ + (if n = j - 1 then 0 else 1)
              split
              · omega
              · split <;> omega
          have := hle W
          omega
        rw [sm_one] at e1
        omega
      let p : Nat → Nat := fun j => (t 108 (j + 1)).toNat - 1
      have hp1 : ∀ j, j < W → t 108 (j + 1) = ((p j + 1 : Nat) : Int) ∧ p j < W := fun j hj => by
        have h1 := ra1 (j + 1) (by omega) (by omega)
        have h2 := nz (j + 1) (by omega) (by omega)
        show t 108 (j + 1) = (((t 108 (j + 1)).toNat - 1 + 1 : Nat) : Int) ∧ (t 108 (j + 1)).toNat - 1 < W
        omega
      have hperm : isPerm W p := ⟨fun j hj => (hp1 j hj).2, fun i j hi hj hij e => by
        have h1 := (hp1 i hi).1
        have h2 := (hp1 j hj).1
        rw [e] at h1
        exact ra2 (i + 1) (j + 1) (by omega) (by omega) (by omega) (by omega) (by omega) (nz _ (by omega) (by omega)) (h1.trans h2.symm)⟩
      have tight : ∀ j, j < W → w (p j + 1) (j + 1) = -(t 106 (p j + 1)) - t 107 (j + 1) := fun j hj => by
        have h1 := ht (j + 1) (by omega) (by omega) (nz _ (by omega) (by omega))
        rw [(hp1 j hj).1] at h1
        unfold lss at h1
        rw [Int.toNat_natCast] at h1
        omega
      unfold F_Mat_greatest_49
      refine wp_loop (fun a : Int × Int × Hp => ∃ m : Nat, m ≤ W ∧ a.1 = si m (fun j => w (p j + 1) (j + 1)) ∧ a.2.1 = ((m + 1 : Nat) : Int) ∧ a.2.2 = t) (fun a => (300 - a.2.1).toNat) ?_ FU _ ?_ ?_
      · intro a k2 hp2 ih2
        obtain ⟨y, z, u⟩ := a
        obtain ⟨m, hm, e0, e1, e2⟩ := hp2
        dsimp only at e0 e1 e2 ih2 ⊢
        subst e0 e1 e2
        have bnd : 0 ≤ si m (fun j => w (p j + 1) (j + 1)) ∧ si m (fun j => w (p j + 1) (j + 1)) ≤ 119998 * m := by
          constructor
          · have := si_le (n := m) (f := fun _ => 0) (f' := fun j => w (p j + 1) (j + 1)) (fun j _ => (hw _ _).1)
            rw [si_const] at this
            omega
          · have := si_le (n := m) (f := fun j => w (p j + 1) (j + 1)) (f' := fun _ => 119998) (fun j _ => (hw _ _).2)
            rw [si_const] at this
            exact this
        unfold F_Mat_greatest_49_b
        rw [hmF 91 (by omega), h7]
        refine wp_if (fun c2 => ?_) (fun c2 => ?_)
        · have em : m = W := by omega
          subst em
          refine wp_ret ⟨⟨⟨p, hperm, rfl⟩, fun i => -(u 106 (i + 1)), fun j => -(u 107 (j + 1)), fun i j hi hj => ?_, ?_⟩, bnd.1, by omega, hmF⟩
          · have := hf (i + 1) (j + 1) (by omega) (by omega) (by omega) (by omega)
            show w (i + 1) (j + 1) ≤ -(u 106 (i + 1)) + -(u 107 (j + 1))
            omega
          · rw [← si_perm hperm (fun i => -(u 106 (i + 1))), ← si_add]
            apply si_congr
            intro j hj
            rw [tight j hj]
            omega
        · have hmW : m < W := by omega
          have h1 := hp1 m hmW
          have hw9 := hw (p m + 1) (m + 1)
          rw [gd_pos (by omega), Int.toNat_natCast, h1.1, gd_pos (by omega), gd_pos (by omega), Int.toNat_natCast, hmF _ (by omega), hwt _ _ (by omega) (by omega), iadd_ok (by omega), lt_eq, lt_eq, iadd_ok (by omega)]
          exact ih2 _ ⟨m + 1, by omega, rfl, by simp, rfl⟩ (by dsimp only; omega)
      · exact ⟨0, by omega, rfl, rfl, rfl⟩
      · rw [FU_eq]
        show (300 - (1 : Int)).toNat < 20000
        omega
    · refine wp_cl (C_place hw hW (by rw [hmF 91 (by omega)]; exact h7) (fun i j hi hj => by rw [hmF _ (by omega)]; exact hwt i j hi hj) hH (by omega)) (fun z u hu9 => ?_)
      rw [lt_eq, iadd_ok (by omega)]
      exact ih _ ⟨r + 1, by omega, by omega, by simp, hu9.1, fun q hq9 => (hu9.2 q hq9).trans (hmF q hq9)⟩ (by dsimp only; omega)
  · refine ⟨1, Nat.le_refl _, by omega, rfl, ⟨⟨fun j h1 h2 => by show 0 ≤ s3 108 j ∧ s3 108 j < ((1 : Nat) : Int); rw [z108 j (by omega)]; omega, fun i j h1 h2 h3 h4 h5 h6 => absurd (z108 i (by omega)) h6, ?_⟩, fun i j h1 h2 => absurd h2 (by omega), fun j h1 h2 h3 => absurd (z108 j (by omega)) h3, fun j h1 h2 => ?_, fun i h1 h2 => z106 i (by omega)⟩, mF3⟩
    · show sm W (fun j => if s3 108 (j + 1) = 0 then 0 else 1) + 1 = 1
      rw [sm_zero (fun j hj => if_pos (z108 (j + 1) (by omega)))]
    · show s3 107 j ≤ 0 ∧ -119998 * (((1 : Nat) : Int) - 1) ≤ s3 107 j ∧ (s3 108 j = 0 → s3 107 j = 0)
      rw [z107 j (by omega)]
      omega
  · rw [FU_eq]
    show (300 - (1 : Int)).toNat < 20000
    omega
end Mat3
