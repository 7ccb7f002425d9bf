/-! on -/
section On3
variable {σ τ s t : Hp} {n b : Nat} {d : ND} {A : AD} {kn : Int} {now day : Nat} {D : DL}
def pfD (D : DL) (k : Nat) : DL := ((fun q => D.1 q && decide (q < k)), D.2)
theorem pfD_at {q k : Nat} : (pfD D k).1 q = true ↔ D.1 q = true ∧ q < k := by
  show (D.1 q && decide (q < k)) = true ↔ _
  simp
theorem pfD_add {k : Nat} (h : D.1 k = true) : addD (pfD D k) k (D.2 k) = pfD D (k + 1) := by
  have e1 : (fun q => (D.1 q && decide (q < k)) || (q == k)) = fun q => D.1 q && decide (q < k + 1) := by
    funext q
    by_cases c : q = k
    · subst c
      simp [h]
    · have : (q == k) = false := by rw [beq_eq_false_iff_ne]; exact c
      rw [this, Bool.or_false]
      congr 1
      apply decide_eq_decide.mpr
      omega
  have e2 : (fun q => if q = k then D.2 k else D.2 q) = D.2 := by
    funext q
    by_cases c : q = k
    · rw [if_pos c, c]
    · rw [if_neg c]
  show ((fun q => (D.1 q && decide (q < k)) || (q == k)), fun q => if q = k then D.2 k else D.2 q) = ((fun q => D.1 q && decide (q < k + 1)), D.2)
  rw [e1, e2]
theorem pfD_keep {k : Nat} (h : ¬ D.1 k = true) : pfD D k = pfD D (k + 1) := by
  have e1 : (fun q => D.1 q && decide (q < k)) = fun q => D.1 q && decide (q < k + 1) := by
    funext q
    by_cases c : q = k
    · subst c
      rw [Bool.not_eq_true] at h
      rw [h]
      rfl
    · congr 1
      apply decide_eq_decide.mpr
      omega
  show ((fun q => D.1 q && decide (q < k)), D.2) = ((fun q => D.1 q && decide (q < k + 1)), D.2)
  rw [e1]
theorem dlN_congr {D E : DL} : ∀ k, (∀ q, q < k → D.1 q = E.1 q) → dlN D k = dlN E k
  | 0, _ => rfl
  | k + 1, h => by
    show dlN D k + (if D.1 k = true then 1 else 0) = dlN E k + if E.1 k = true then 1 else 0
    rw [dlN_congr k (fun q hq => h q (by omega)), h k (by omega)]
theorem C_become (hrd : rdR s D 30) : wp (F_Deals_become s) (fun _ u => DlC u D ∧ ptF s u) := by
  unfold F_Deals_become
  refine wp_cl C_clear (fun _ s1 hs1 => ?_)
  unfold F_Deals_become_6
  refine wp_loop (fun a : Int × Hp => ∃ k : Nat, k ≤ 30 ∧ a.1 = (k : Int) ∧ DlC a.2 (pfD D k) ∧ ptF s a.2) (fun a => (30 - a.1).toNat) ?_ FU _ ?_ ?_
  · intro a K hp ih
    obtain ⟨x, u⟩ := a
    obtain ⟨k, hk, e1, hC, hf⟩ := hp
    dsimp only at e1 hC hf ih ⊢
    subst e1
    unfold F_Deals_become_6_b F_Deals_become_26
    refine wp_if (fun c => ?_) (fun c => ?_)
    · have ek : k = 30 := by omega
      subst ek
      refine wp_ret ⟨⟨fun r hr => ?_, ?_⟩, hf⟩
      · obtain ⟨a1, a2⟩ := hC.1 r hr
        refine ⟨?_, fun y => a2 (pfD_at.mpr ⟨y, hr⟩)⟩
        rw [a1]
        by_cases c2 : D.1 r = true
        · rw [if_pos c2, if_pos (pfD_at.mpr ⟨c2, hr⟩)]
        · rw [if_neg c2, if_neg (fun z => c2 (pfD_at.mp z).1)]
      · rw [hC.2, dlN_congr (D := pfD D 30) (E := D) 30 (fun q hq => by
          show (D.1 q && decide (q < 30)) = D.1 q
          rw [decide_eq_true hq, Bool.and_true])]
    · have hkl : k < 30 := by omega
      have g30 : (0 : Int) ≤ (k : Int) ∧ (k : Int) < 30 := by omega
      obtain ⟨r1, r2⟩ := hrd k hkl
      rw [gd_pos g30, Int.toNat_natCast, hf.1 183 (by decide) (by decide) (by decide), r1]
      by_cases c2 : D.1 k = true
      · obtain ⟨u2, e2, h1, h2⟩ := C_put hC (r := k) (v := D.2 k) hkl
        rw [if_pos c2, if_neg (by decide), gd_pos g30, hf.1 184 (by decide) (by decide) (by decide), r2 c2, e2, cl2_some, lt_eq, iadd_ok (by omega)]
        refine ih _ ⟨k + 1, by omega, by simp, ?_, ptF_trans hf h2⟩ (by dsimp only; omega)
        rw [← pfD_add c2]
        exact h1
      · rw [if_neg c2, if_pos rfl, lt_eq, iadd_ok (by omega)]
        refine ih _ ⟨k + 1, by omega, by simp, ?_, hf⟩ (by dsimp only; omega)
        rw [← pfD_keep c2]
        exact hC
  · refine ⟨0, by omega, rfl, ⟨fun r hr => ⟨?_, fun z => absurd (pfD_at.mp z).2 (by omega)⟩, ?_⟩, hs1.2.2⟩
    · dsimp only
      rw [hs1.1 r hr, if_neg (fun z => absurd (pfD_at.mp z).2 (by omega))]
    · dsimp only
      rw [hs1.2.1]
      have : ∀ j, dlN (pfD D 0) j = 0 := by
        intro j
        induction j with
        | zero => rfl
        | succ j ih =>
          show dlN (pfD D 0) j + (if (pfD D 0).1 j = true then 1 else 0) = 0
          rw [ih, if_neg (fun z => absurd (pfD_at.mp z).2 (by omega))]
      rw [this]
      rfl
  · rw [FU_eq]
    show (30 - (0 : Int)).toNat < 20000
    omega
theorem M_onF (hd : NDok d) {E : DL} (hN : NetM t b d) (hM : DlM t D) (hDt : ∀ q, D.1 q = true → q < dR d) (hEt : ∀ q, E.1 q = true → q < dR d) (hq : rdQ t E (dR d)) :
    wp (F_M_on_43 FU (0, t)) (fun z u => z = 1 ∧ DlM u E ∧ ∀ q, q ≠ 42 → q ≠ 43 → u q = t q) := by
  have hR := hd.2.1
  have hb := hN.1
  have net : ∀ s' : Hp, (∀ q, q ≠ 42 → q ≠ 43 → s' q = t q) → NetM s' b d := fun s' h' => hN.congr (by rw [h' 0 (by decide) (by decide)]) (fun q a1 a2 => h' q (by omega) (by omega))
  unfold F_M_on_43
  refine wp_loop (fun a : Int × Hp => ∃ k : Nat, k ≤ dR d ∧ a.1 = (k : Int) ∧ (∀ q, q < k → a.2 42 q = (if E.1 q = true then 1 else 0) ∧ (E.1 q = true → a.2 43 q = E.2 q)) ∧ (∀ q, dR d ≤ q → a.2 42 q = t 42 q) ∧ ∀ q, q ≠ 42 → q ≠ 43 → a.2 q = t q) (fun a => (30 - a.1).toNat) ?_ FU _ ?_ ?_
  · intro a K hp ih
    obtain ⟨x, u⟩ := a
    obtain ⟨k, hk, e1, hv, ho, hf⟩ := hp
    dsimp only at e1 hv ho hf ih ⊢
    subst e1
    have hNu := net u hf
    unfold F_M_on_43_b
    rw [hNu.2.1, gd_pos (by omega), Int.toNat_natCast, hNu.2.2.2.1]
    refine wp_if (fun c => ?_) (fun c => ?_)
    · have ek : k = dR d := by omega
      subst ek
      refine wp_ret ⟨rfl, fun r hr => ?_, hf⟩
      by_cases c2 : r < dR d
      · exact hv r c2
      · rw [ho r (by omega), (hM r hr).1, if_neg (fun z => c2 (hDt r z)), if_neg (fun z => c2 (hEt r z))]
        exact ⟨rfl, fun z => absurd (hEt r z) c2⟩
    · have hkR : k < dR d := by omega
      have g30 : (0 : Int) ≤ (k : Int) ∧ (k : Int) < 30 := by omega
      obtain ⟨q1, q2⟩ := hq k hkR
      have e50 : u 50 k = if E.1 k = true then 1 else 0 := by rw [hf 50 (by decide) (by decide)]; exact q1
      rw [gd_pos g30, gd_pos g30, Int.toNat_natCast, e50, lt_eq, gd_pos g30, gd_pos g30, lt_eq, lt_eq, iadd_ok (by omega), z1_eq (by split <;> simp)]
      refine ih _ ⟨k + 1, by omega, by simp, fun q hq2 => ?_, fun q hq2 => ?_, fun q a1 a2 => ?_⟩ (by dsimp only; omega)
      · dsimp only
        rw [hset_obj _ _ _ _ (by decide), hset_row, hset_row, hset_obj _ _ _ _ (by decide), hset_obj _ _ _ _ (by decide)]
        dsimp only
        by_cases e : q = k
        · rw [if_pos e, if_pos e, e]
          exact ⟨rfl, fun z => by rw [hf 51 (by decide) (by decide)]; exact q2 z⟩
        · rw [if_neg e, if_neg e]
          exact hv q (by omega)
      · dsimp only
        rw [hset_obj _ _ _ _ (by decide), hset_row]
        dsimp only
        rw [if_neg (by omega)]
        exact ho q hq2
      · dsimp only
        rw [hset_obj _ _ _ _ a2, hset_obj _ _ _ _ a1]
        exact hf q a1 a2
  · exact ⟨0, by omega, rfl, fun q h => absurd h (by omega), fun _ _ => rfl, fun _ _ _ => rfl⟩
  · rw [FU_eq]
    show (30 - (0 : Int)).toNat < 20000
    omega
/-- the day, the deals and the tape may change, and what an image's reading leaves -/
theorem InvAt.onP (h : InvAt σ τ n b d A kn now day D) {s t : Hp} {day' : Nat} (h1 : ∀ q, 2 ≤ q → q ≤ 182 → q ≠ 173 → q ≠ 174 → q ≠ 175 → q ≠ 180 → s q = σ q) (h0 : ∀ i, i ≠ 11 → s 0 i = σ 0 i) (h11 : s 0 11 = (day' : Nat)) (h111 : s 1 1 = 0) (m1 : ∀ q, q ≠ 0 → q ≠ 42 → q ≠ 43 → q ≠ 50 → q ≠ 51 → t q = τ q) (m0 : ∀ i, i ≠ 1 → i ≠ 42 → t 0 i = τ 0 i) (m42 : t 0 42 = (day' : Nat)) (m01 : t 0 1 = 0) : ClsP s n d A kn day' ∧ MdlI t b d A kn day' ∧ OutI s t := by
  obtain ⟨⟨g1, g2, g3, g4, g5⟩, ⟨c1, c2, c3, c4, c5, c6, c7⟩, ⟨a1, a2, a3, a4, a5, a6⟩, ⟨d1, d2⟩, o1, o2, o3⟩ := id h
  have k : ∀ q, 2 ≤ q → q ≤ 172 → s q = σ q := fun q x hq => h1 q (by omega) (by omega) (by omega) (by omega) (by omega) (by omega)
  have hn : n = 50 ∨ n = 4 := c1.1
  refine ⟨⟨c1.congr (fun i _ => by rw [k n (by omega) (by omega)]) (fun q a x => k q (by omega) (by omega)), c2.congr (fun q a x => k q (by omega) (by omega)), fun w hw => ?_, ⟨?_, fun q hq => ?_⟩, ⟨?_, ?_, ?_, h11⟩, ?_, ?_⟩, ⟨a1.congr (m0 12 (by omega) (by omega)) (fun q x y => m1 q (by omega) (by omega) (by omega) (by omega) (by omega)), a2.congr (fun q x y => m1 q (by omega) (by omega) (by omega) (by omega) (by omega)), fun w hw => ?_, ⟨?_, fun q x y => ?_⟩, ?_, m42⟩, ?_, ?_, ?_⟩
  · rw [k (n + 1) (by omega) (by omega)]; exact c3 w hw
  · rw [k 46 (by omega) (by omega)]; exact c4.1
  · rw [k 47 (by omega) (by omega), k 48 (by omega) (by omega), k 49 (by omega) (by omega)]; exact c4.2 q hq
  · rw [h0 3 (by omega)]; exact c5.1
  · rw [k 3 (by omega) (by omega)]; exact c5.2.1
  · rw [h0 12 (by omega)]; exact c5.2.2.1
  · rw [k 139 (by omega) (by omega)]; exact c7.2.2.1
  · rw [k 169 (by omega) (by omega)]; exact c7.2.2.2
  · rw [m1 6 (by omega) (by omega) (by omega) (by omega) (by omega)]; exact a3 w hw
  · rw [m0 43 (by omega) (by omega)]; exact a4.1
  · rw [m1 25 (by omega) (by omega) (by omega) (by omega) (by omega), m1 26 (by omega) (by omega) (by omega) (by omega) (by omega), m1 27 (by omega) (by omega) (by omega) (by omega) (by omega)]; exact a4.2 q x y
  · rw [m0 44 (by omega) (by omega)]; exact a5
  · rw [h0 13 (by omega), h0 14 (by omega), h0 15 (by omega), m0 10 (by omega) (by omega), m0 11 (by omega) (by omega), m0 67 (by omega) (by omega)]; exact o1
  · rw [h111, m01, k 2 (by omega) (by omega), m1 1 (by omega) (by omega) (by omega) (by omega) (by omega)]; exact ⟨by decide, by decide, rfl, o2.2.2.2⟩
  · rw [h1 181 (by omega) (by omega) (by omega) (by omega) (by omega) (by omega), h1 182 (by omega) (by omega) (by omega) (by omega) (by omega) (by omega), m0 71 (by omega) (by omega), m1 49 (by omega) (by omega) (by omega) (by omega) (by omega)]; exact o3
theorem S_on (σ τ : Hp) (h : Inv σ τ) : ∃ (z : Int) (σ' τ' : Hp), F_RD_on σ = some (z, σ') ∧ F_M_on τ = some (z, τ') ∧ Inv σ' τ' := by
  obtain ⟨n, b, d, A, kn, now, day, D, hI⟩ := id h
  obtain ⟨⟨g1, g2, g3, g4, g5⟩, ⟨c1, c2, c3, c4, c5, c6, c7⟩, ⟨m1, m2, m3, m4, m5, m6⟩, hDl, o1, o2, o3⟩ := id hI
  have hn : n = 50 ∨ n = 4 := c1.1
  obtain ⟨t1, t2, t3, t4⟩ := o2
  obtain ⟨N, hN⟩ : ∃ N : Nat, σ 1 1 = N := ⟨(σ 1 1).toNat, by omega⟩
  have hNl : N ≤ 900 := by omega
  obtain ⟨z, s, e, hf, hz⟩ := C_imgRead g1 c1 hN hNl (f := fun j => σ 2 j % 256) rfl
  have hm1 : NetM (hset τ 0 1 0) b d := m1.congr (by rw [hset_get, if_neg (by decide)]) (fun q a1 a2 => by rw [hset_obj _ _ _ _ (by omega)])
  obtain ⟨z2, t, e2, hf2, hz2⟩ := M_isImage g1 hm1 hNl (f := fun j => σ 2 j % 256) (fun k hk => by rw [hset_obj _ _ _ _ (by decide)]; exact t4 k hk) (fun k => ⟨Int.emod_nonneg _ (by decide), Int.emod_lt_of_pos _ (by decide)⟩)
  have cut : F_Bytes_cut 1 0 s = some (1, hset s 1 1 0) := by
    unfold F_Bytes_cut
    rw [gd_pos (show isBytes 1 by decide), if_neg (by decide), if_pos (by rw [hf 1 (by decide) (by decide) (by decide)]; omega), lt_eq]
  have k0 : ∀ q, q ≠ 1 → q ≠ 180 → q ≠ 183 → q ≠ 184 → (hset s 1 1 0) q = σ q := fun q a1 a2 a3 a4 => by rw [hset_obj _ _ _ _ a1]; exact hf q a2 a3 a4
  have km : ∀ q, q ≠ 0 → q ≠ 50 → q ≠ 51 → t q = τ q := fun q a1 a2 a3 => by rw [hf2 q a2 a3, hset_obj _ _ _ _ a1]
  have km0 : ∀ i, t 0 i = if i = 1 then 0 else τ 0 i := fun i => by rw [hf2 0 (by decide) (by decide), hset_row]
  unfold F_RD_on F_M_on
  simp only [lt_eq]
  rw [c5.1, Int.toNat_natCast, gd_pos c1.1, e, cl2_some, cut, cl2_some, ← t3, hN, e2, cl2_some]
  rcases hz with ⟨z1, D', hOn, h180, hrd⟩ | ⟨z1, hno⟩
  · rcases hz2 with ⟨y1, D2, hOn2, hrq⟩ | ⟨y1, hno⟩
    · have eD : D2 = D' := by
        have a1 := hOn.2.2.2.1
        have a2 := hOn2.2.2.2.1
        rw [a1] at a2
        have := congrArg Prod.snd (Option.some.inj a2)
        exact this.symm
      subst eD
      have hok := pOn_ok g1 g5 _ _ (Nat.le_refl _) hOn.2.2.2.1
      have htl := (pOn_told _ _ hOn.2.2.2.1).1
      have f1 : 0 ≤ σ 2 1 % 256 ∧ σ 2 1 % 256 < 256 := by omega
      have f2 : 0 ≤ σ 2 2 % 256 ∧ σ 2 2 % 256 < 256 := by omega
      have hdl : 256 * (σ 2 1 % 256) + σ 2 2 % 256 ≤ 999 := hOn.2.2.1
      obtain ⟨dy, hdy⟩ : ∃ dy : Nat, 256 * (σ 2 1 % 256) + σ 2 2 % 256 = dy := ⟨(256 * (σ 2 1 % 256) + σ 2 2 % 256).toNat, by omega⟩
      have h180' : (hset s 1 1 0) 180 3 = (dy : Nat) := by rw [hset_obj _ _ _ _ (by decide), ← hdy]; exact h180
      rw [z1, y1, if_neg (by decide), if_neg (by decide), h180']
      have hrd3 : rdR (hset (hset s 1 1 0) 0 11 (dy : Nat)) D2 30 := fun q hq => by rw [hset_obj _ _ _ _ (by decide), hset_obj _ _ _ _ (by decide), hset_obj _ _ _ _ (by decide), hset_obj _ _ _ _ (by decide)]; exact hrd q hq
      obtain ⟨v3, u, e3, hC, hpt⟩ := C_become hrd3
      have e16 : iadd (imul 256 (t 1 1)) (t 1 2) = (dy : Nat) := by
        rw [km 1 (by decide) (by decide) (by decide), t4 1 (by decide), t4 2 (by decide), imul_ok (by omega), iadd_ok (by omega)]
        exact hdy
      have hMt : DlM (hset t 0 42 (dy : Nat)) D := fun r hr => by
        rw [hset_obj _ _ _ _ (by decide), hset_obj _ _ _ _ (by decide), km 42 (by decide) (by decide) (by decide), km 43 (by decide) (by decide) (by decide)]
        exact Dl_M hDl r hr
      have hNt : NetM (hset t 0 42 (dy : Nat)) b d := m1.congr (by rw [hset_get, if_neg (by decide), km0, if_neg (by decide)]) (fun q a1 a2 => by rw [hset_obj _ _ _ _ (by omega), km q (by omega) (by omega) (by omega)])
      obtain ⟨v4, w, e4, hv4, hMw, hfw⟩ := M_onF g1 hNt hMt (fun q hq => (g5.2 q hq).1) htl (fun q hq => by rw [hset_obj _ _ _ _ (by decide), hset_obj _ _ _ _ (by decide)]; exact hrq q hq)
      obtain ⟨p1, p2, p3⟩ := hI.onP (s := u) (t := w) (day' := dy)
        (fun q a1 a2 a3 a4 a5 a6 => by rw [hpt.1 q a3 a4 a5, hset_obj _ _ _ _ (by omega), k0 q (by omega) (by omega) (by omega) (by omega)])
        (fun i hi => by rw [hpt.1 0 (by decide) (by decide) (by decide), hset_get, if_neg (by omega), k0 0 (by decide) (by decide) (by decide) (by decide)])
        (by rw [hpt.1 0 (by decide) (by decide) (by decide), hset_same])
        (by rw [hpt.1 1 (by decide) (by decide) (by decide), hset_obj _ _ _ _ (by decide), hset_same])
        (fun q a1 a2 a3 a4 a5 => by rw [hfw q a2 a3, hset_obj _ _ _ _ a1, km q a1 a4 a5])
        (fun i a1 a2 => by rw [hfw 0 (by decide) (by decide), hset_get, if_neg (by omega), km0, if_neg a1])
        (by rw [hfw 0 (by decide) (by decide), hset_same])
        (by rw [hfw 0 (by decide) (by decide), hset_get, if_neg (by decide), km0, if_pos rfl])
      obtain ⟨v5, x, e5, hx⟩ := C_again g1 g2 g3 (by omega) hok p1 p2 (Dl_both hC hMw) p3
      refine ⟨1, x, w, by rw [e3, cl2_some, e5, cl2_some], ?_, n, b, d, A, kn, now, dy, D2, hx⟩
      rw [e16, e4, hv4]
    · exact absurd ⟨D', hOn⟩ hno
  · rcases hz2 with ⟨y1, D2, hOn2, hrq⟩ | ⟨y1, _⟩
    · exact absurd ⟨D2, hOn2⟩ hno
    · rw [z1, y1, if_pos rfl, if_pos rfl]
      refine ⟨0, _, t, rfl, rfl, n, b, d, A, kn, now, day, D, ?_⟩
      obtain ⟨p1, p2, p3⟩ := hI.onP (s := hset s 1 1 0) (t := t) (day' := day)
        (fun q a1 a2 a3 a4 a5 a6 => k0 q (by omega) (by omega) (by omega) (by omega))
        (fun i hi => by rw [k0 0 (by decide) (by decide) (by decide) (by decide)])
        (by rw [k0 0 (by decide) (by decide) (by decide) (by decide)]; exact c5.2.2.2)
        (hset_same _ _ _ _)
        (fun q a1 a2 a3 a4 a5 => km q a1 a4 a5)
        (fun i a1 a2 => by rw [km0, if_neg a1])
        (by rw [km0, if_neg (by decide)]; exact m6)
        (by rw [km0, if_pos rfl])
      have hk : ∀ q, 2 ≤ q → q ≤ 179 → (hset s 1 1 0) q = σ q := fun q a1 a2 => k0 q (by omega) (by omega) (by omega) (by omega)
      refine ⟨⟨g1, g2, g3, g4, g5⟩, ⟨p1.1, p1.2.1, p1.2.2.1, p1.2.2.2.1, p1.2.2.2.2.1, ⟨by rw [hk 88 (by decide) (by decide)]; exact c6.1, fun r hr => by rw [hk 89 (by decide) (by decide), hk 90 (by decide) (by decide)]; exact c6.2 r hr⟩, c7.congr g1 (by rw [k0 0 (by decide) (by decide) (by decide) (by decide)]) (fun q a x => hk q (by omega) (by omega)) (by rw [hk 169 (by decide) (by decide)]; exact c7.2.2.2)⟩, p2, ⟨fun r hr => ?_, ?_⟩, p3⟩
      · rw [hk 174 (by decide) (by decide), hk 175 (by decide) (by decide), km 42 (by decide) (by decide) (by decide), km 43 (by decide) (by decide) (by decide)]
        exact hDl.1 r hr
      · rw [hk 173 (by decide) (by decide)]
        exact hDl.2
end On3
