/-! a statement and its ';', on both sides; the loops over the text -/
section RoundB
variable {s t : Hp} {f : Nat → Int} {N cnt nn b p v c cm : Nat} {d : ND}
theorem kd_neg_lt (hok : okF f) (hp : p ≤ N) (h : kd f N p ≠ -1) : p < N := by
  have hs := (sk_at (f := f) hp).1
  rcases tok_cases hok hp with g | g | g | g | g | g | g
  · exact absurd g.2.1 h
  all_goals
    have := g.1
    omega
theorem cl2_cl2 {α : Type} (a : Option (Int × Hp)) (k : Int → Hp → Option (Int × Hp)) (g : Int → Hp → Option α) : cl2 (cl2 a k) g = cl2 a fun x y => cl2 (k x y) g := by
  cases a <;> rfl
theorem cl2_ite {α : Type} (P : Prop) [Decidable P] (a b : Option (Int × Hp)) (g : Int → Hp → Option α) : cl2 (if P then a else b) g = if P then cl2 a g else cl2 b g := by
  by_cases c : P
  · rw [if_pos c, if_pos c]
  · rw [if_neg c, if_neg c]
theorem statement_eq (t : Hp) : F_M_statement t = cl2 (stM t) fun _ s => F_M_statement_77 s := by
  unfold F_M_statement stM
  simp only [cl2_cl2, cl2_ite]
theorem body_eq {k : Int × Hp → Option (Int × Hp)} {x1 z : Int} {s' : Hp} {P : Prop} [Decidable P] (hm : F_Rdr_isTooMany s = some (if P then 1 else 0, s)) (h1 : ∃ s2, F_Rdr_fail 1 s = some (0, s2)) (h5 : ∃ s2, F_Rdr_fail 5 s = some (0, s2)) (hx : x1 < 900) (hk : s 3 3 ≠ -1) (h : stC s = some (z, s')) : F_Rdr_read_43_b k x1 s = F_Rdr_read_162 k x1 z s' := by
  obtain ⟨u1, e1⟩ := h1
  obtain ⟨u5, e5⟩ := h5
  have o0 : (0 : Int) = 0 ∨ (0 : Int) = 1 := Or.inl rfl
  have e156 : F_Rdr_read_156 s = some (0, u1) := by
    unfold F_Rdr_read_156
    rw [e1, cl2_some, gd_pos o0]
  have e162 : ∀ u, F_Rdr_read_162 k x1 0 u = some (0, u) := fun u => by
    unfold F_Rdr_read_162 F_Rdr_read_175
    rw [if_pos rfl]
  unfold F_Rdr_read_43_b
  unfold stC at h
  rw [hm, cl2_some] at h
  rw [if_neg (by omega), if_neg hk, hm, cl2_some]
  by_cases c : P
  · rw [if_pos c, if_neg (by decide), e5, cl2_some, gd_pos o0] at h
    rw [if_pos c, if_neg (by decide), e5, cl2_some, gd_pos o0]
    injection h with h
    injection h with h h'
    rw [← h, ← h', e162]
  rw [if_neg c, if_pos rfl] at h
  rw [if_neg c, if_pos rfl]
  have done : F_Rdr_read_156 s = some (z, s') → F_Rdr_read_156 s = F_Rdr_read_162 k x1 z s' := fun g => by
    rw [e156] at g
    injection g with g
    injection g with g g'
    rw [e156, ← g, ← g', e162]
  by_cases c1 : s 3 3 = 256
  · rw [if_pos c1] at h
    rw [if_pos c1, h, cl2_some]
  rw [if_neg c1] at h
  rw [if_neg c1]
  by_cases c2 : s 3 3 = 257
  · rw [if_neg (by omega), if_neg (by omega), if_neg (by omega)] at h
    rw [if_pos c2]
    exact done h
  rw [if_neg c2]
  by_cases c3 : s 3 3 = 258
  · rw [if_pos c3] at h
    rw [if_pos c3, h, cl2_some]
  rw [if_neg c3] at h
  rw [if_neg c3]
  by_cases c4 : s 3 3 = 259
  · rw [if_neg (by omega), if_neg (by omega)] at h
    rw [if_pos c4]
    exact done h
  rw [if_neg c4]
  by_cases c5 : s 3 3 = 260
  · rw [if_neg (by omega), if_neg (by omega)] at h
    rw [if_pos c5]
    exact done h
  rw [if_neg c5]
  by_cases c6 : s 3 3 = 261
  · rw [if_pos c6] at h
    rw [if_pos c6, h, cl2_some]
  rw [if_neg c6] at h
  rw [if_neg c6]
  by_cases c7 : s 3 3 = 262
  · rw [if_neg (by omega)] at h
    rw [if_pos c7]
    exact done h
  rw [if_neg c7]
  by_cases c8 : s 3 3 = 263
  · rw [if_pos c8] at h
    rw [if_pos c8, h, cl2_some]
  rw [if_neg c8] at h
  rw [if_neg c8]
  exact done h
/-- a misfit: both refuse there -/
def MisF (f : Nat → Int) (N cnt : Nat) (s t : Hp) (p : Nat) : Prop := kd f N p = -2 ∧ AtC s f N cnt p ∧ ScnC s f N cnt ∧ p ≤ N ∧ t 0 8 = 1 ∧ t 0 9 = (st f N p : Nat)
theorem skip_mis (h : MisF f N cnt s t p) (k : Int) (hk : 0 ≤ k) : ∃ s', F_Rdr_skip k s = some (0, s') ∧ s' 3 6 = 1 ∧ s' 3 7 = (st f N p : Nat) ∧ (∀ q, q ≠ 3 → s' q = s q) ∧ ∀ i, i ≠ 6 → i ≠ 7 → s' 3 i = s 3 i := by
  obtain ⟨m1, m2, m3, m4, m5, m6⟩ := h
  obtain ⟨s', e, r1, r2, r3, r4⟩ := C_failAt m3 m2 1
  obtain ⟨i, i1, i2, i3, i4, i5⟩ := m2
  refine ⟨s', ?_, r1, r2, r3, r4⟩
  unfold F_Rdr_skip
  rw [i4, if_neg (by omega), e, cl2_some, gd_pos (Or.inl rfl)]
theorem TfC_3 {u : Hp} (h1 : ∀ q, q ≠ 3 → u q = s q) (h2 : ∀ i, i ≠ 6 → i ≠ 7 → u 3 i = s 3 i) : TfC nn s u := ⟨fun q a _ => h1 q a, fun i hi => h2 i (by omega) (by omega)⟩
theorem read_162_0 {k : Int × Hp → Option (Int × Hp)} {x1 : Int} {s' : Hp} : F_Rdr_read_162 k x1 0 s' = some (0, s') := by
  unfold F_Rdr_read_162 F_Rdr_read_175
  rw [if_pos rfl]
theorem round_both (h : TxI f N cnt nn b s t d v c cm p) (hk : kd f N p ≠ -1) (hv : v ≤ p) :
    (∃ s' t', (∀ k, F_Rdr_read_43_b k (v : Int) s = some (0, s')) ∧ F_M_statement t = some (0, t') ∧ TfC nn s s' ∧ TfM b t t' ∧ ∃ k pl, s' 3 6 = k ∧ s' 3 7 = pl ∧ t' 0 8 = k ∧ t' 0 9 = pl ∧ (0 : Int) < k) ∨
    (∃ s' t' p', (∀ k, F_Rdr_read_43_b k (v : Int) s = k (((v + 1 : Nat) : Int), s')) ∧ F_M_statement t = some (0, t') ∧ TfC nn s s' ∧ TfM b t t' ∧ p < p' ∧ (MisF f N cnt s' t' p' ∨ ∃ d' c' cm', TxI f N cnt nn b s' t' d' (v + 1) c' cm' p')) := by
  have hX := h.fx 0
  have hC := h.cs 0
  have hm := tooMany h
  have g3 : p ≤ N := h.1.2.2.1
  have hlt := kd_neg_lt h.1.1 g3 hk
  have hN : N ≤ 900 := h.1.2.1
  have hnn : isNet nn := h.1.2.2.2.2
  have hk3 : s 3 3 ≠ -1 := by
    have e : s 3 3 = kd f N p := hC.k
    omega
  obtain ⟨u1, e1, _⟩ := hC.fail hX 1
  obtain ⟨u5, e5, _⟩ := hC.fail hX 5
  obtain ⟨z, s1, t1, y1, y2, y3, y4, y5⟩ := disp h
  have hb := fun k => body_eq (k := k) (x1 := (v : Int)) hm ⟨u1, e1⟩ ⟨u5, e5⟩ (by omega) hk3 y1
  have hst := statement_eq t
  rw [y2, cl2_some] at hst
  rcases y5 with ⟨hz, k, pl, r1, r2, r3, r4, r5⟩ | ⟨hz, p1, r1, r2, r3, r4, r5⟩ | ⟨hz, d1, c1, cm1, p1, r1, r2⟩
  · left
    subst hz
    refine ⟨s1, t1, fun k => by rw [hb k, read_162_0], ?_, y3, y4, k, pl, r1, r2, r3, r4, r5⟩
    rw [hst]
    unfold F_M_statement_77 F_M_statement_90
    rw [if_neg (by omega)]
  · left
    subst hz
    have hp1 := AtC_row r3 r2
    obtain ⟨s2, a1, a2, a3, a4, a5⟩ := skip_mis (t := t1) ⟨r1, r2, r3, hp1, r4, r5⟩ 59 (by decide)
    refine ⟨s2, t1, fun k => ?_, ?_, TfC_trans y3 (TfC_3 a4 a5), y4, 1, _, a2, a3, r4, r5, by decide⟩
    · rw [hb k]
      unfold F_Rdr_read_162 F_Rdr_read_175
      rw [if_neg (by decide), a1, cl2_some, if_pos rfl]
    · rw [hst]
      unfold F_M_statement_77 F_M_statement_90
      rw [if_neg (by omega)]
  · subst hz
    rcases St_semi r1 with ⟨s2, t2, k, pl, a1, a2, a3, a4, a5, a6, a7, a8, a9⟩ | ⟨s2, t2, p2, a1, a2, a3, a4, a5, a6, a7, a8, a9, a10⟩
    · left
      refine ⟨s2, t2, fun k => ?_, by rw [hst]; exact a2, TfC_trans y3 a3, TfM_trans y4 a4, k, pl, a5, a6, a7, a8, a9⟩
      rw [hb k]
      unfold F_Rdr_read_162 F_Rdr_read_175
      rw [if_neg (by decide), a1, cl2_some, if_pos rfl]
    · right
      have e1 : iadd (v : Int) 1 = ((v + 1 : Nat) : Int) := by rw [iadd_ok (by omega)]; omega
      refine ⟨hset s2 nn 19 ((v + 1 : Nat) : Int), t2, p2, fun k => ?_, by rw [hst]; exact a2, TfC_trans y3 a6, TfM_trans y4 a7, by omega, ?_⟩
      · rw [hb k]
        unfold F_Rdr_read_162
        rw [if_neg (by decide), a1, cl2_some, if_neg (by decide), lt_eq, a5, gd_pos hnn, a4, e1, lt_eq, lt_eq]
      · rcases a10 with ⟨m1, m2, m3⟩ | m1
        · exact Or.inl ⟨m1, a8, a9, AtC_row a9 a8, m2, m3⟩
        · exact Or.inr ⟨d1, c1, cm1, m1⟩
theorem read_s (m : Nat) (x1 : Int) (s : Hp) : F_Rdr_read_43 (m + 1) (x1, s) = F_Rdr_read_43_b (F_Rdr_read_43 m) x1 s := by
  unfold F_Rdr_read_43
  rw [loopF_s]
theorem text_s (m : Nat) (x1 : Int) (t : Hp) : F_M_text_134 (m + 1) (x1, t) = F_M_text_134_b (F_M_text_134 m) x1 t := by
  unfold F_M_text_134
  rw [loopF_s]
/-- at a misfit both end -/
theorem mis_end (hok : okF f) (hN : N ≤ 900) (h : MisF f N cnt s t p) (hv : v ≤ p) : ∃ s', (∀ k, F_Rdr_read_43_b k (v : Int) s = some (0, s')) ∧ s' 3 6 = 1 ∧ s' 3 7 = (st f N p : Nat) ∧ TfC nn s s' := by
  obtain ⟨m1, m2, m3, m4, m5, m6⟩ := h
  have hlt := kd_neg_lt hok m4 (by omega)
  obtain ⟨s', e, r1, r2, r3, r4⟩ := C_failAt m3 m2 1
  obtain ⟨i, i1, i2, i3, i4, i5⟩ := m2
  refine ⟨s', fun k => ?_, r1, r2, TfC_3 r3 r4⟩
  unfold F_Rdr_read_43_b F_Rdr_isTooMany F_Rdr_isTooMany_124 F_Rdr_read_156
  rw [i4, m1, if_neg (by omega), if_neg (by decide), if_neg (by decide), if_neg (by decide), if_neg (by decide), if_neg (by decide), if_neg (by decide), if_neg (by decide), if_neg (by decide), if_neg (by decide), cl2_some, if_pos rfl, i4, m1, if_neg (by decide), if_neg (by decide), if_neg (by decide), if_neg (by decide), if_neg (by decide), if_neg (by decide), if_neg (by decide), if_neg (by decide), e, cl2_some, gd_pos (Or.inl rfl)]
theorem loops_both : ∀ (n : Nat) (s t : Hp) (d : ND) (v c cm p : Nat), N - p ≤ n → TxI f N cnt nn b s t d v c cm p → v ≤ p → ∃ z s' t' x', (∀ m, F_Rdr_read_43 (m + n + 1) ((v : Int), s) = some (z, s')) ∧ (∀ m, F_M_text_134 (m + n + 1) ((v : Int), t) = F_M_text_158 x' t') ∧ TfC nn s s' ∧ TfM b t t' ∧ ((z = 0 ∧ ∃ k pl, s' 3 6 = k ∧ s' 3 7 = pl ∧ t' 0 8 = k ∧ t' 0 9 = pl ∧ 0 < k) ∨ (z = 1 ∧ ∃ (d' : ND) (v' c' cm' p' : Nat), x' = (v' : Int) ∧ TxI f N cnt nn b s' t' d' v' c' cm' p' ∧ kd f N p' = -1))
  | n, s, t, d, v, c, cm, p, hn, h, hv => by
    have hX := h.fx 0
    have hC := h.cs 0
    have g3 : p ≤ N := h.1.2.2.1
    have hok := h.1.1
    have hN : N ≤ 900 := h.1.2.1
    have hk3 : s 3 3 = kd f N p := hC.k
    have T : TkM t f N p := h.2.2.2.2.2.2.1
    have t8 : t 0 8 = 0 := T.2.1.1
    by_cases c1 : kd f N p = -1
    · refine ⟨1, s, t, (v : Int), fun m => ?_, fun m => ?_, TfC_rfl, TfM_rfl, Or.inr ⟨rfl, d, v, c, cm, p, rfl, h, c1⟩⟩
      · rw [read_s]
        unfold F_Rdr_read_43_b F_Rdr_read_196
        by_cases c9 : (900 : Int) ≤ (v : Int)
        · rw [if_pos c9]
        · rw [if_neg c9, if_pos (by rw [hk3]; exact c1)]
      · rw [text_s]
        unfold F_M_text_134_b
        rw [if_pos t8, if_pos (T.2.2.2.1 c1)]
    have hlt := kd_neg_lt hok g3 c1
    have hne3 : t 0 3 ≠ 0 := by
      have hk := kd_ge (X := cxT f N cnt nn b s t d c cm 0) hok g3
      have hk' : kd f N p = -2 ∨ kd f N p = -1 ∨ (0 ≤ kd f N p ∧ kd f N p < 256) ∨ (256 ≤ kd f N p ∧ kd f N p ≤ 272) ∨ kd f N p = 280 ∨ kd f N p = 281 := hk
      obtain ⟨h1, h2, h3, h4, h5, h6, h7, h8⟩ := T
      rcases hk' with z | z | z | z | z | z
      · exact absurd z h1
      · exact absurd z c1
      · rw [(h7 z.1 z.2).1]; decide
      · rw [(h5 (by omega) (by omega)).1]; decide
      · rw [(h5 (by omega) (by omega)).1]; decide
      · rw [(h6 z).1]; decide
    have e1 : iadd (v : Int) 1 = ((v + 1 : Nat) : Int) := by rw [iadd_ok (by omega)]; omega
    have hT : ∀ {t' : Hp}, F_M_statement t = some (0, t') → ∀ m, F_M_text_134 (m + 1) ((v : Int), t) = F_M_text_134 m (((v + 1 : Nat) : Int), t') := fun e m => by
      rw [text_s]
      unfold F_M_text_134_b
      rw [if_pos t8, if_neg hne3, e, cl2_some, e1, lt_eq]
    have hTb : ∀ {t' : Hp} (x : Int), 0 < t' 0 8 → ∀ m, F_M_text_134 (m + 1) (x, t') = F_M_text_158 x t' := fun x h8 m => by
      rw [text_s]
      unfold F_M_text_134_b
      rw [if_neg (by omega)]
    cases n with
    | zero => omega
    | succ n =>
      rcases round_both h c1 hv with ⟨s', t', r1, r2, r3, r4, k, pl, r5, r6, r7, r8, r9⟩ | ⟨s', t', p', r1, r2, r3, r4, r5, r6⟩
      · refine ⟨0, s', t', ((v + 1 : Nat) : Int), fun m => by rw [read_s, r1], fun m => ?_, r3, r4, Or.inl ⟨rfl, k, pl, r5, r6, r7, r8, r9⟩⟩
        rw [hT r2, show m + (n + 1) = (m + n) + 1 from rfl, hTb _ (by omega)]
      · rcases r6 with m1 | ⟨d', c', cm', m1⟩
        · obtain ⟨s2, a1, a2, a3, a4⟩ := mis_end (nn := nn) (v := v + 1) hok hN m1 (by omega)
          have hp' := m1.2.2.2.1
          refine ⟨0, s2, t', ((v + 1 : Nat) : Int), fun m => ?_, fun m => ?_, TfC_trans r3 a4, r4, Or.inl ⟨rfl, 1, _, a2, a3, m1.2.2.2.2.1, m1.2.2.2.2.2, by decide⟩⟩
          · rw [read_s, r1, show m + (n + 1) = (m + n) + 1 from rfl, read_s, a1]
          · rw [hT r2, show m + (n + 1) = (m + n) + 1 from rfl, hTb _ (by have := m1.2.2.2.2.1; omega)]
        · have hp' : p' ≤ N := m1.1.2.2.1
          obtain ⟨z, s2, t2, x', a1, a2, a3, a4, a5⟩ := loops_both n s' t' d' (v + 1) c' cm' p' (by omega) m1 (by omega)
          refine ⟨z, s2, t2, x', fun m => ?_, fun m => ?_, TfC_trans r3 a3, TfM_trans r4 a4, a5⟩
          · rw [read_s, r1, show m + (n + 1) = m + n + 1 from rfl, a1]
          · rw [hT r2, show m + (n + 1) = m + n + 1 from rfl, a2]
end RoundB
