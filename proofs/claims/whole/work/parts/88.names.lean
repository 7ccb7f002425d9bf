/-! names: whose stands here -/
section Names
variable {X : Cx} {s t u : Hp} {p : Nat}
def nmX (X : Cx) (p : Nat) : List Nat := wd (xf X) (xN X) p
theorem wcJ (j : Nat) {w : List Nat} {c : Int} (h1 : owL[j]? = some w) (h2 : pk8 w = c) : wcd c (256 + (j : Int)) := ⟨j, w, h1, h2, rfl⟩
theorem TK.nm (T : TK X t p) (h : 256 ≤ kX X p) (h2 : kX X p ≠ 281) : t 0 3 = 1 ∧ t 0 7 = pk8 (nmX X p) ∧ ndig (nmX X p) ∧ nmOk (nmX X p) := by
  have a := T.2.2.2.2.2.2.1 h h2
  have b := wd_ok T.1.1 T.2.1 h h2
  exact ⟨a.1, a.2, b.2.1, b.1⟩
theorem TK.f8 (T : TK X t p) : t 0 8 = 0 ∧ t 0 9 = -1 ∧ t 0 4 = (sX X p : Nat) := ⟨T.2.2.2.1.1, T.2.2.2.1.2, T.2.2.2.2.1⟩
def BL (X : Cx) (t : Hp) (p : Nat) (k : Int) : Hp := hset (hset t 0 8 k) 0 9 (sX X p : Nat)
theorem TK.bl (T : TK X t p) (k : Int) : F_M_blame k (t 0 4) t = some (0, BL X t p k) := by
  rw [M_blame]
  unfold flB BL
  rw [if_pos (by have := T.f8.1; omega), T.f8.2.2]
theorem BL_8 {k : Int} : BL X t p k 0 8 = k ∧ BL X t p k 0 9 = (sX X p : Nat) := ⟨by unfold BL; rw [hset_get, if_neg (by decide), hset_same], by unfold BL; rw [hset_same]⟩
theorem BL_xm {P : Nat × Nat} {t0 : Hp} {k : Int} (h : xmF P t0 t) : xmF P t0 (BL X t p k) := xmF_set (xmF_set h (by omega)) (by omega)
theorem blame_1 {k pl : Int} (h : 0 < t 0 8) : F_M_blame k pl t = some (0, t) := by
  rw [M_blame]
  unfold flB
  rw [if_neg (by omega)]
theorem ifR {α : Type} {c : Prop} [Decidable c] {A B R : α} (h1 : c → A = R) (h2 : ¬ c → B = R) : (if c then A else B) = R := by
  by_cases e : c
  · rw [if_pos e]; exact h1 e
  · rw [if_neg e]; exact h2 e
theorem M_isOwn (T : TK X t p) (h : 256 ≤ kX X p) (h2 : kX X p ≠ 281) : F_M_isOwn (t 0 7) t = some (if kX X p = 280 then 0 else 1, t) := by
  obtain ⟨a1, a2, a3, a4⟩ := T.nm h h2
  have hk := kd_ge T.1.1 T.2.1
  have hh : ∀ (j : Nat) (w : List Nat) (c : Int), owL[j]? = some w → pk8 w = c → (lcmp (t 0 7) c = 0 ↔ kX X p = 256 + (j : Int)) := by
    intro j w c h3 h4
    have hi := kdW_iff (L := nmX X p) h3
    have e : kX X p = kdW (nmX X p) := (wd_ok T.1.1 T.2.1 h h2).2.2
    rw [e, hi, a2, ← h4, lcmp_eq]
    exact ⟨fun y => pk8_inj a3 (owL_dig w (List.mem_of_getElem? h3)) y, fun y => by rw [y]⟩
  unfold F_M_isOwn F_M_isOwn_40 F_M_isOwn_82 F_M_isOwn_124 F_M_isOwn_142
  have y1 : ∀ {k : Int}, kX X p = k → k ≠ 280 → some ((1 : Int), t) = some (if kX X p = 280 then 0 else 1, t) := fun h3 h4 => by rw [if_neg (by omega)]
  refine ifR (fun c0 => y1 ((hh 0 _ 7825519 rfl (by decide)).mp c0) (by decide)) (fun c0 => ?_)
  refine ifR (fun c1 => y1 ((hh 1 _ 418431069797 rfl (by decide)).mp c1) (by decide)) (fun c1 => ?_)
  refine ifR (fun c2 => y1 ((hh 2 _ 1919902052 rfl (by decide)).mp c2) (by decide)) (fun c2 => ?_)
  refine ifR (fun c3 => y1 ((hh 3 _ 512970880104 rfl (by decide)).mp c3) (by decide)) (fun c3 => ?_)
  refine ifR (fun c4 => y1 ((hh 4 _ 2003330414 rfl (by decide)).mp c4) (by decide)) (fun c4 => ?_)
  refine ifR (fun c5 => y1 ((hh 5 _ 499851162725 rfl (by decide)).mp c5) (by decide)) (fun c5 => ?_)
  refine ifR (fun c6 => y1 ((hh 6 _ 1818588019 rfl (by decide)).mp c6) (by decide)) (fun c6 => ?_)
  refine ifR (fun c7 => y1 ((hh 7 _ 431366693492 rfl (by decide)).mp c7) (by decide)) (fun c7 => ?_)
  refine ifR (fun c8 => y1 ((hh 8 _ 28530 rfl (by decide)).mp c8) (by decide)) (fun c8 => ?_)
  refine ifR (fun c9 => y1 ((hh 9 _ 6385252 rfl (by decide)).mp c9) (by decide)) (fun c9 => ?_)
  refine ifR (fun c10 => y1 ((hh 10 _ 7237492 rfl (by decide)).mp c10) (by decide)) (fun c10 => ?_)
  refine ifR (fun c11 => y1 ((hh 11 _ 6384748 rfl (by decide)).mp c11) (by decide)) (fun c11 => ?_)
  refine ifR (fun c12 => y1 ((hh 12 _ 6578553 rfl (by decide)).mp c12) (by decide)) (fun c12 => ?_)
  refine ifR (fun c13 => y1 ((hh 13 _ 2003133803 rfl (by decide)).mp c13) (by decide)) (fun c13 => ?_)
  refine ifR (fun c14 => y1 ((hh 14 _ 2003067257 rfl (by decide)).mp c14) (by decide)) (fun c14 => ?_)
  refine ifR (fun c15 => y1 ((hh 15 _ 7170414 rfl (by decide)).mp c15) (by decide)) (fun c15 => ?_)
  refine ifR (fun c16 => y1 ((hh 16 _ 7168376 rfl (by decide)).mp c16) (by decide)) (fun c16 => ?_)
  rw [if_pos]
  have e0 : kX X p ≠ 256 + ((0 : Nat) : Int) := fun z => c0 ((hh 0 _ 7825519 rfl (by decide)).mpr z)
  have e1 : kX X p ≠ 256 + ((1 : Nat) : Int) := fun z => c1 ((hh 1 _ 418431069797 rfl (by decide)).mpr z)
  have e2 : kX X p ≠ 256 + ((2 : Nat) : Int) := fun z => c2 ((hh 2 _ 1919902052 rfl (by decide)).mpr z)
  have e3 : kX X p ≠ 256 + ((3 : Nat) : Int) := fun z => c3 ((hh 3 _ 512970880104 rfl (by decide)).mpr z)
  have e4 : kX X p ≠ 256 + ((4 : Nat) : Int) := fun z => c4 ((hh 4 _ 2003330414 rfl (by decide)).mpr z)
  have e5 : kX X p ≠ 256 + ((5 : Nat) : Int) := fun z => c5 ((hh 5 _ 499851162725 rfl (by decide)).mpr z)
  have e6 : kX X p ≠ 256 + ((6 : Nat) : Int) := fun z => c6 ((hh 6 _ 1818588019 rfl (by decide)).mpr z)
  have e7 : kX X p ≠ 256 + ((7 : Nat) : Int) := fun z => c7 ((hh 7 _ 431366693492 rfl (by decide)).mpr z)
  have e8 : kX X p ≠ 256 + ((8 : Nat) : Int) := fun z => c8 ((hh 8 _ 28530 rfl (by decide)).mpr z)
  have e9 : kX X p ≠ 256 + ((9 : Nat) : Int) := fun z => c9 ((hh 9 _ 6385252 rfl (by decide)).mpr z)
  have e10 : kX X p ≠ 256 + ((10 : Nat) : Int) := fun z => c10 ((hh 10 _ 7237492 rfl (by decide)).mpr z)
  have e11 : kX X p ≠ 256 + ((11 : Nat) : Int) := fun z => c11 ((hh 11 _ 6384748 rfl (by decide)).mpr z)
  have e12 : kX X p ≠ 256 + ((12 : Nat) : Int) := fun z => c12 ((hh 12 _ 6578553 rfl (by decide)).mpr z)
  have e13 : kX X p ≠ 256 + ((13 : Nat) : Int) := fun z => c13 ((hh 13 _ 2003133803 rfl (by decide)).mpr z)
  have e14 : kX X p ≠ 256 + ((14 : Nat) : Int) := fun z => c14 ((hh 14 _ 2003067257 rfl (by decide)).mpr z)
  have e15 : kX X p ≠ 256 + ((15 : Nat) : Int) := fun z => c15 ((hh 15 _ 7170414 rfl (by decide)).mpr z)
  have e16 : kX X p ≠ 256 + ((16 : Nat) : Int) := fun z => c16 ((hh 16 _ 7168376 rfl (by decide)).mpr z)
  clear hh y1
  have all : ∀ n : Nat, n < 17 → kX X p ≠ 256 + (n : Int) := fun n hn => match n, hn with
    | 0, _ => e0
    | 1, _ => e1
    | 2, _ => e2
    | 3, _ => e3
    | 4, _ => e4
    | 5, _ => e5
    | 6, _ => e6
    | 7, _ => e7
    | 8, _ => e8
    | 9, _ => e9
    | 10, _ => e10
    | 11, _ => e11
    | 12, _ => e12
    | 13, _ => e13
    | 14, _ => e14
    | 15, _ => e15
    | 16, _ => e16
    | n + 17, h => absurd h (Nat.not_lt.mpr (Nat.le_add_left _ _))
  clear e0 e1 e2 e3 e4 e5 e6 e7 e8 e9 e10 e11 e12 e13 e14 e15 e16 c0 c1 c2 c3 c4 c5 c6 c7 c8 c9 c10 c11 c12 c13 c14 c15 c16
  apply Classical.byContradiction
  intro z
  exact all (kX X p - 256).toNat (by omega) (by omega)
theorem C_whoIs {f : Nat → Int} {N cnt nn W : Nat} {al : Nat → Int} {nm : Nat → List Nat} (hf : FixC s f N cnt nn W al nm) {L : List Nat} (hL : ndig L) : wp (F_Net_whoIs nn (pk5 L) s) (fun z s' => s' = s ∧ IsFst (fun w => nm w = L) W z) := by
  obtain ⟨hn, _, _, ⟨h15, hW⟩, hnm⟩ := hf
  unfold F_Net_whoIs F_Net_whoIs_2
  refine wp_gd hn (wp_loop (fun a => a.2 = s ∧ ∃ i : Nat, a.1 = (i : Int) ∧ i ≤ W ∧ ∀ q, q < i → nm q ≠ L) (fun a => W - a.1.toNat) ?_ _ _ ⟨rfl, 0, rfl, Nat.zero_le _, fun q h => absurd h (Nat.not_lt_zero _)⟩ (by rw [FU_eq]; dsimp only; omega))
  rintro ⟨x, s1⟩ k ⟨e, i, hi, hiW, hq⟩ hk
  dsimp only at e hi hk ⊢
  subst e hi
  unfold F_Net_whoIs_2_b
  rw [h15]
  refine wp_if (fun c => wp_ret ⟨rfl, Or.inl ⟨rfl, fun r hr => hq r (by omega)⟩⟩) (fun c => ?_)
  have hi : i < W := by omega
  refine wp_gd (by omega) ?_
  rw [Int.toNat_natCast, (hnm i hi).1]
  refine wp_if (fun c2 => wp_ret ⟨rfl, Or.inr ⟨i, hi, rfl, pk5_inj (hnm i hi).2.2.1 hL c2, hq⟩⟩) (fun c2 => ?_)
  refine wp_lt ?_
  have e1 : iadd (i : Int) 1 = ((i + 1 : Nat) : Int) := by rw [iadd_ok (by omega)]; omega
  rw [e1]
  clear e1
  refine hk _ ⟨rfl, i + 1, rfl, by omega, fun q hq1 => ?_⟩ (by dsimp only; omega)
  by_cases e : q = i
  · subst e
    exact fun z => c2 (by rw [z])
  · exact hq q (by omega)
theorem M_whoOf {f : Nat → Int} {N b W : Nat} {al : Nat → Int} {nm : Nat → List Nat} (hf : FixM t f N b W al nm) (hW : W ≤ 12) (hd : ∀ w, w < W → ndig (nm w)) {L : List Nat} (hL : ndig L) : wp (F_M_whoOf (pk8 L) t) (fun z s' => s' = t ∧ IsFst (fun w => nm w = L) W z) := by
  obtain ⟨hb, _, h31, h2, hnm⟩ := hf
  unfold F_M_whoOf F_M_whoOf_2
  refine wp_loop (fun a => a.2 = t ∧ ∃ i : Nat, a.1 = (i : Int) ∧ i ≤ W ∧ ∀ q, q < i → nm q ≠ L) (fun a => W - a.1.toNat) ?_ _ _ ⟨rfl, 0, rfl, Nat.zero_le _, fun q h => absurd h (Nat.not_lt_zero _)⟩ (by rw [FU_eq]; dsimp only; omega)
  rintro ⟨x, s1⟩ k ⟨e, i, hi, hiW, hq⟩ hk
  dsimp only at e hi hk ⊢
  subst e hi
  unfold F_M_whoOf_2_b
  refine wp_gd (by omega) ?_
  rw [h31, Int.toNat_natCast, h2]
  refine wp_if (fun c => wp_ret ⟨rfl, Or.inl ⟨rfl, fun r hr => hq r (by omega)⟩⟩) (fun c => ?_)
  have hi : i < W := by omega
  have hbd : (0 : Int) ≤ ((12 * b + i : Nat) : Int) ∧ ((12 * b + i : Nat) : Int) < 24 := by omega
  have e2 : iadd (imul 12 (b : Int)) (i : Int) = ((12 * b + i : Nat) : Int) := by
    rw [imul_ok (by omega), iadd_ok (by omega)]
    omega
  rw [e2]
  clear e2
  refine wp_gd hbd ?_
  rw [Int.toNat_natCast, (hnm i hi).1]
  refine wp_if (fun c2 => wp_ret ⟨rfl, Or.inr ⟨i, hi, rfl, pk8_inj (hd i hi) hL (lcmp_eq.mp c2), hq⟩⟩) (fun c2 => ?_)
  refine wp_lt ?_
  have e1 : iadd (i : Int) 1 = ((i + 1 : Nat) : Int) := by rw [iadd_ok (by omega)]; omega
  rw [e1]
  clear e1
  refine hk _ ⟨rfl, i + 1, rfl, by omega, fun q hq1 => ?_⟩ (by dsimp only; omega)
  by_cases e : q = i
  · subst e
    exact fun z => c2 (lcmp_eq.mpr (by rw [z]))
  · exact hq q (by omega)
theorem xmF_fix {f : Nat → Int} {N b W : Nat} {al : Nat → Int} {nm : Nat → List Nat} {P : Nat × Nat} (h : xmF P t u) (g : FixM t f N b W al nm) : FixM u f N b W al nm := by
  obtain ⟨g1, g2, g3, g4, g5⟩ := g
  refine ⟨g1, xmF_by h g2, by rw [h.2.1 31 (by unfold xmI nxI; decide)]; exact g3, by rw [h.1 2 (by decide) (by decide)]; exact g4, fun w hw => by rw [h.1 6 (by decide) (by decide), h.1 7 (by decide) (by decide)]; exact g5 w hw⟩
def whoX (X : Cx) (p : Nat) (z : Int) : Prop := IsFst (fun w => xmQ X w = nmX X p) (xW X) z
theorem M_whoRead (T : TK X t p) (hx : xmF (xP X) (xt X) t) (a1 : Int) : (kX X p ≠ 280 → F_M_whoRead a1 t = some (0, BL X t p 1)) ∧ (kX X p = 280 → ∀ z, whoX X p z → F_M_whoRead a1 t = if z = -1 ∨ z = a1 then some (0, BL X t p 3) else some (z, t)) := by
  obtain ⟨f8, f9, f4⟩ := T.f8
  have hk := kd_ge T.1.1 T.2.1
  have h28 : F_M_whoRead_28 a1 t = some (0, BL X t p 1) := by
    unfold F_M_whoRead_28 F_M_whoRead_37 F_M_whoRead_56 F_M_whoRead_83 F_M_whoRead_95
    rw [T.bl, cl2_some, BL_8.1, if_neg (by decide), if_neg (by decide), if_neg (by decide)]
  refine ⟨fun h => ?_, fun h z hz => ?_⟩
  · unfold F_M_whoRead
    rw [if_pos (by omega)]
    by_cases c : 256 ≤ kX X p ∧ kX X p ≠ 281
    · rw [if_pos (T.nm c.1 c.2).1, M_isOwn T c.1 c.2, if_neg h, cl2_some, if_neg (by decide)]
      exact h28
    · rw [if_neg]
      · exact h28
      · obtain ⟨h1, h2, h3, h4, h5, h6, h7, h8⟩ := T.2.2
        unfold kX at hk c
        rcases hk with z | z | z | z | z | z
        · exact absurd z h1
        · rw [h4 z]; decide
        · rw [(h7 z.1 z.2).1]; decide
        · exact absurd ⟨by omega, by omega⟩ c
        · exact absurd ⟨by omega, by omega⟩ c
        · rw [(h6 z).1]; decide
  · have hn := T.nm (by omega) (by omega)
    have hfc := T.1.2.2.1
    obtain ⟨z', t', e, e2, e3⟩ := M_whoOf (xmF_fix hx T.1.2.2.2) hfc.2.2.2.1.2 (fun w hw => (hfc.2.2.2.2 w hw).2.2.1) hn.2.2.1
    have ez : z' = z := IsFst.uniq e3 hz
    subst e2 ez
    unfold F_M_whoRead
    rw [if_pos (by omega), if_pos hn.1, M_isOwn T (by omega) (by omega), if_pos h, cl2_some, if_pos rfl]
    unfold F_M_whoRead_37
    rw [if_pos (by omega), hn.2.1, e, cl2_some]
    unfold F_M_whoRead_56
    rw [if_pos f8]
    have h74 : F_M_whoRead_74 a1 z' t' = some (0, BL X t' p 3) := by
      unfold F_M_whoRead_74 F_M_whoRead_83 F_M_whoRead_95
      rw [T.bl, cl2_some, BL_8.1, if_neg (by decide)]
    by_cases c : z' = -1
    · rw [if_pos c, if_pos (Or.inl c), h74]
    · rw [if_neg c]
      by_cases c2 : z' = a1
      · rw [if_pos c2, if_pos (Or.inr c2), h74]
      · unfold F_M_whoRead_83 F_M_whoRead_95
        rw [if_neg c2, if_pos (by omega), if_neg (by omega)]
theorem whoX_ex (hX : FX X) (T : TK X t p) (hx : xmF (xP X) (xt X) t) (h : kX X p = 280) : ∃ z, whoX X p z := by
  have hn := T.nm (by omega) (by omega)
  have hfc := T.1.2.2.1
  obtain ⟨z', t', e, e2, e3⟩ := M_whoOf (xmF_fix hx T.1.2.2.2) hfc.2.2.2.1.2 (fun w hw => (hfc.2.2.2.2 w hw).2.2.1) hn.2.2.1
  exact ⟨z', e3⟩
/-- the class's somebody -/
theorem C_somebody {c : Nat} {Ws : List FV} (hX : FX X) (h : CSt X s p c Ws) : (kX X p ≠ 280 → ∃ s', F_Rdr_somebody s = some (-1, s') ∧ CF X s' 1 (sX X p : Nat)) ∧ (kX X p = 280 → ∃ z, whoX X p z ∧ (z = -1 → ∃ s', F_Rdr_somebody s = some (-1, s') ∧ CF X s' 3 (sX X p : Nat)) ∧ (z ≠ -1 → F_Rdr_somebody s = some (z, s))) := by
  have hf := h.fix hX
  have hk := h.k
  refine ⟨fun h1 => ?_, fun h1 => ?_⟩
  · obtain ⟨s', e, g⟩ := h.fail hX 1
    refine ⟨s', ?_, g⟩
    unfold F_Rdr_somebody
    rw [hk, if_neg h1, e, cl2_some]
  · have hp := h.2.2.2.2
    have hw := wd_ok hX.1 hp (by show 256 ≤ kX X p; omega) (by show kX X p ≠ 281; omega)
    have hv := C_valueW hf.2.1 h.2.1 (by show 256 ≤ kX X p; omega) (by show kX X p ≠ 281; omega)
    obtain ⟨z, s', e, e2, e3⟩ := C_whoIs hf hw.2.1
    subst e2
    have hs : F_Rdr_somebody s' = (if z = -1 then cl2 (F_Rdr_fail 3 s') fun _ s12 => F_Rdr_somebody_48 z s12 else F_Rdr_somebody_48 z s') := by
      unfold F_Rdr_somebody
      rw [hk, if_pos h1, lt_eq, (h.net hX).1, gd_pos (h.net hX).2, hv, cl2_some, e, cl2_some]
    refine ⟨z, e3, fun c => ?_, fun c => ?_⟩
    · obtain ⟨s2, e4, g⟩ := h.fail hX 3
      refine ⟨s2, ?_, g⟩
      rw [hs, if_pos c, e4, cl2_some]
      unfold F_Rdr_somebody_48
      rw [c]
    · rw [hs, if_neg c]
      rfl
end Names
