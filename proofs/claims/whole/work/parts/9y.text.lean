/-! text -/
section TextS
variable {σ τ s t u : Hp} {f : Nat → Int} {N cnt nn n b b0 p v c cm : Nat} {d : ND} {A : AD} {kn : Int} {now day : Nat} {D : DL}
/-- the other bank's cells stay -/
theorem TmF.cell (h : TmF b τ t) (hb0 : b0 < 2) (hb : b = 1 - b0) {q m r : Nat} (hq : 2 ≤ q) (hq2 : q ≤ 18) (hm : bkS q = m) (hr : r < m) : t q (m * b0 + r) = τ q (m * b0 + r) := by
  refine h.2.2 q hq hq2 _ ?_
  rw [hm]
  have hc : b0 = 0 ∨ b0 = 1 := by omega
  rcases hc with rfl | rfl
  · subst hb
    exact Or.inl (by omega)
  · subst hb
    exact Or.inr (by omega)
theorem MdlI.textF (h : MdlI τ b0 d A kn day) (hR : dR d ≤ 30) (hW : dW d ≤ 12) (hb : b = 1 - b0) (hf : TmF b τ t) (h25 : ∀ q, 25 ≤ q → q ≤ 27 → t q = τ q) (h0 : ∀ i, i = 12 ∨ (42 ≤ i ∧ i ≤ 44) → t 0 i = τ 0 i) : MdlI t b0 d A kn day := by
  obtain ⟨⟨a1, a2, a3, a4, a5, a6, a7, a8, a9⟩, m2, m3, m4, m5, m6⟩ := h
  have c1 : ∀ q, 2 ≤ q → q ≤ 5 → t q b0 = τ q b0 := fun q x y => by
    have := hf.cell a1 hb x (by omega) (m := 1) (r := 0) (by unfold bkS; rw [if_pos y]) (by decide)
    rw [Nat.one_mul, Nat.add_zero] at this
    exact this
  have c30 : ∀ q, 8 ≤ q → q ≤ 14 → ∀ r, r < 30 → t q (30 * b0 + r) = τ q (30 * b0 + r) := fun q x y r hr => hf.cell a1 hb (by omega) (by omega) (by unfold bkS; rw [if_neg (by omega), if_neg (by omega), if_pos y]) hr
  have c12 : ∀ q, 6 ≤ q → q ≤ 7 → ∀ w, w < 12 → t q (12 * b0 + w) = τ q (12 * b0 + w) := fun q x y w hw => hf.cell a1 hb (by omega) (by omega) (by unfold bkS; rw [if_neg (by omega), if_pos y]) hw
  have c900 : ∀ q, 17 ≤ q → q ≤ 18 → ∀ k, k < 900 → t q (900 * b0 + k) = τ q (900 * b0 + k) := fun q x y k hk => hf.cell a1 hb (by omega) y (by unfold bkS; rw [if_neg (by omega), if_neg (by omega), if_neg (by omega), if_neg (by omega)]) hk
  refine ⟨⟨a1, by rw [h0 12 (Or.inl rfl)]; exact a2, by rw [c1 2 (by decide) (by decide)]; exact a3, by rw [c1 3 (by decide) (by decide)]; exact a4, by rw [c1 4 (by decide) (by decide)]; exact a5, by rw [c1 5 (by decide) (by decide)]; exact a6, fun w hw => ?_, fun r hr => ?_, fun a c ha hc => ?_⟩, m2.bank hR (fun r hr => ?_) ⟨fun k hk => ?_, fun w hw => ?_⟩, fun w hw => ?_, ⟨by rw [h0 43 (by omega)]; exact m4.1, fun k x y => ?_⟩, by rw [h0 44 (by omega)]; exact m5, by rw [h0 42 (by omega)]; exact m6⟩
  · rw [c12 7 (by decide) (by decide) w (by omega)]; exact a7 w hw
  · rw [c30 8 (by decide) (by decide) r (by omega), c30 9 (by decide) (by decide) r (by omega), c30 14 (by decide) (by decide) r (by omega)]; exact a8 r hr
  · have := hf.cell a1 hb (q := 15) (m := 144) (r := 12 * a + c) (by decide) (by decide) rfl (by omega)
    rw [← Nat.add_assoc] at this
    rw [this]
    exact a9 a c ha hc
  · rw [c30 10 (by decide) (by decide) r hr, c30 11 (by decide) (by decide) r hr, c30 12 (by decide) (by decide) r hr, c30 13 (by decide) (by decide) r hr]
    exact ⟨rfl, rfl, rfl, rfl⟩
  · rw [c900 17 (by decide) (by decide) k hk, c900 18 (by decide) (by decide) k hk]
    exact ⟨rfl, rfl⟩
  · exact c12 7 (by decide) (by decide) w hw
  · rw [c12 6 (by decide) (by decide) w (by omega)]; exact m3 w hw
  · rw [h25 25 (by decide) (by decide), h25 26 (by decide) (by decide), h25 27 (by decide) (by decide)]; exact m4.2 k x y
/-- a refused text: all stays, but the fault and the tape -/
theorem InvAt.textF (h : InvAt σ τ n b0 d A kn now day D) (hb : b = 1 - b0) (h1 : ∀ q, q ≠ 0 → q ≠ 1 → q ≠ 3 → (q < 54 - n ∨ 54 - n + 37 < q) → (q < 42 ∨ 45 < q) → s q = σ q) (h3 : s 3 1 = σ 3 1) (h0 : ∀ i, i ≠ 13 → i ≠ 14 → s 0 i = σ 0 i) (h11 : s 1 1 = 0) (hf : TmF b τ t) (hft : s 0 13 = t 0 10 ∧ s 0 14 = t 0 11) (ht1 : t 0 1 = 0) : InvAt s t n b0 d A kn now day D := by
  obtain ⟨⟨g1, g2, g3, g4, g5⟩, ⟨c1, c2, c3, c4, c5, c6, c7⟩, m, ⟨d1, d2⟩, o1, o2, o3⟩ := id h
  have hn : n = 50 ∨ n = 4 := c1.1
  have k : ∀ q, n ≤ q → q ≤ n + 37 → s q = σ q := fun q a1 a2 => h1 q (by omega) (by omega) (by omega) (by omega) (by omega)
  have k2 : ∀ q, 88 ≤ q → s q = σ q := fun q a1 => h1 q (by omega) (by omega) (by omega) (by omega) (by omega)
  have k3 : ∀ q, 46 ≤ q → q ≤ 49 → s q = σ q := fun q a1 a2 => h1 q (by omega) (by omega) (by omega) (by omega) (by omega)
  have j : ∀ i, xmI i → i ≠ 1 → i ≠ 2 → i ≠ 31 → t 0 i = τ 0 i := hf.2.1
  have jx : ∀ i, 42 ≤ i → t 0 i = τ 0 i := fun i hi => j i (by unfold xmI nxI; omega) (by omega) (by omega) (by omega)
  refine ⟨⟨g1, g2, g3, g4, g5⟩, ⟨c1.congr (fun i _ => by rw [k n (by omega) (by omega)]) (fun q a x => k q (by omega) (by omega)), c2.congr (fun q a x => k q (by omega) (by omega)), fun w hw => ?_, ⟨?_, fun q hq => ?_⟩, ⟨?_, ?_, ?_, ?_⟩, ⟨?_, fun r hr => ?_⟩, c7.congr g1 (h0 16 (by decide) (by decide)) (fun q a x => k2 q (by omega)) ?_⟩, m.textF g1.2.1 g1.1 hb hf (fun q a1 a2 => hf.1 q (by omega) (by omega)) (fun i hi => j i (by unfold xmI nxI; omega) (by omega) (by omega) (by omega)), ⟨fun r hr => ?_, ?_⟩, ?_, ?_, ?_⟩
  · rw [k (n + 1) (by omega) (by omega)]; exact c3 w hw
  · rw [k3 46 (by omega) (by omega)]; exact c4.1
  · rw [k3 47 (by omega) (by omega), k3 48 (by omega) (by omega), k3 49 (by omega) (by omega)]; exact c4.2 q hq
  · rw [h0 3 (by omega) (by omega)]; exact c5.1
  · rw [h3]; exact c5.2.1
  · rw [h0 12 (by omega) (by omega)]; exact c5.2.2.1
  · rw [h0 11 (by omega) (by omega)]; exact c5.2.2.2
  · rw [k2 88 (by omega)]; exact c6.1
  · rw [k2 89 (by omega), k2 90 (by omega)]; exact c6.2 r hr
  · rw [k2 169 (by omega)]; exact c7.2.2.2
  · rw [k2 174 (by omega), k2 175 (by omega), hf.1 42 (by omega) (by omega), hf.1 43 (by omega) (by omega)]; exact d1 r hr
  · rw [k2 173 (by omega)]; exact d2
  · exact ⟨hft.1, hft.2, by rw [h0 15 (by decide) (by decide), jx 67 (by decide)]; exact o1.2.2⟩
  · have s2 : s 2 = σ 2 := h1 2 (by omega) (by omega) (by omega) (by omega) (by omega)
    rw [h11, ht1, s2, hf.1 1 (by omega) (by omega)]
    exact ⟨by decide, by decide, rfl, o2.2.2.2⟩
  · rw [k2 181 (by omega), k2 182 (by omega), jx 71 (by decide), hf.1 49 (by omega) (by omega)]; exact o3
theorem MdlI.q01 (h : MdlI τ b0 d A kn day) {w : Hp} (hq : ∀ q, q ≠ 0 → w q = τ q) (h0 : ∀ i, i ≠ 10 → i ≠ 11 → w 0 i = τ 0 i) : MdlI w b0 d A kn day := h.congr (fun q hq1 => hq q (by omega)) (fun i hi => h0 i (by omega) (by omega))
theorem InvAt.textF2 (h : InvAt σ τ n b0 d A kn now day D) (hb : b = 1 - b0) (h1 : ∀ q, q ≠ 0 → q ≠ 1 → q ≠ 3 → (q < 54 - n ∨ 54 - n + 37 < q) → (q < 42 ∨ 45 < q) → s q = σ q) (h3 : s 3 1 = σ 3 1) (h0 : ∀ i, i ≠ 13 → i ≠ 14 → s 0 i = σ 0 i) (h11 : s 1 1 = 0) (hf : TmF b τ t) (hq : ∀ q, q ≠ 0 → u q = t q) (hu : ∀ i, i ≠ 10 → i ≠ 11 → u 0 i = t 0 i) (hft : s 0 13 = u 0 10 ∧ s 0 14 = u 0 11) (ht1 : u 0 1 = 0) : InvAt s u n b0 d A kn now day D := by
  have hb1 : ∃ t2, t2 = hset (hset s 0 13 (t 0 10)) 0 14 (t 0 11) := ⟨_, rfl⟩
  obtain ⟨s2, hs2⟩ := hb1
  have k0 : ∀ i, i ≠ 13 → i ≠ 14 → s2 0 i = s 0 i := fun i i1 i2 => by rw [hs2, hset_get, if_neg (by omega), hset_get, if_neg (by omega)]
  have kq : ∀ q, q ≠ 0 → s2 q = s q := fun q i1 => by rw [hs2, hset_obj _ _ _ _ i1, hset_obj _ _ _ _ i1]
  have hI : InvAt s2 t n b0 d A kn now day D := h.textF hb (fun q i1 i2 i3 i4 i5 => by rw [kq q i1]; exact h1 q i1 i2 i3 i4 i5) (by rw [kq 3 (by decide)]; exact h3) (fun i i1 i2 => by rw [k0 i i1 i2]; exact h0 i i1 i2) (by rw [kq 1 (by decide)]; exact h11) hf ⟨by rw [hs2, hset_get, if_neg (by decide), hset_same], by rw [hs2, hset_same]⟩ (by rw [← hu 1 (by decide) (by decide)]; exact ht1)
  obtain ⟨g, ⟨c1, c2, c3, c4, c5, c6, c7⟩, m, ⟨d1, d2⟩, o1, o2, o3⟩ := hI
  have hn : n = 50 ∨ n = 4 := c1.1
  refine ⟨g, ⟨c1.congr (fun i _ => by rw [kq n (by omega)]) (fun q a x => (kq q (by omega)).symm), c2.congr (fun q a x => (kq q (by omega)).symm), fun w hw => ?_, ⟨?_, fun q hq => ?_⟩, ⟨?_, ?_, ?_, ?_⟩, ⟨?_, fun r hr => ?_⟩, c7.congr g.1 (k0 16 (by decide) (by decide)).symm (fun q a x => (kq q (by omega)).symm) ?_⟩, m.q01 hq hu, ⟨fun r hr => ?_, ?_⟩, ?_, ?_, ?_⟩
  · rw [← kq (n + 1) (by omega)]; exact c3 w hw
  · rw [← kq 46 (by omega)]; exact c4.1
  · rw [← kq 47 (by omega), ← kq 48 (by omega), ← kq 49 (by omega)]; exact c4.2 q hq
  · rw [← k0 3 (by decide) (by decide)]; exact c5.1
  · rw [← kq 3 (by decide)]; exact c5.2.1
  · rw [← k0 12 (by decide) (by decide)]; exact c5.2.2.1
  · rw [← k0 11 (by decide) (by decide)]; exact c5.2.2.2
  · rw [← kq 88 (by omega)]; exact c6.1
  · rw [← kq 89 (by omega), ← kq 90 (by omega)]; exact c6.2 r hr
  · rw [← kq 169 (by omega)]; exact c7.2.2.2
  · rw [← kq 174 (by omega), ← kq 175 (by omega), hq 42 (by omega), hq 43 (by omega)]; exact d1 r hr
  · rw [← kq 173 (by omega)]; exact d2
  · exact ⟨hft.1, hft.2, by rw [← k0 15 (by decide) (by decide), hu 67 (by decide) (by decide)]; exact o1.2.2⟩
  · rw [← kq 1 (by decide), ← kq 2 (by decide), hu 1 (by decide) (by decide), hq 1 (by decide)]; exact o2
  · rw [← kq 181 (by decide), ← kq 182 (by decide), hu 71 (by decide) (by decide), hq 49 (by decide)]; exact o3
theorem TxI.codeC (h : TxI f N cnt nn b s t d v c cm p) {w : Hp} (hw : ∀ q, nn + 1 ≤ q → q ≤ nn + 36 → w q = s q) : CodeC w nn d := by
  have hnn : isNet nn := h.1.2.2.2.2
  have hro := h.2.2.2.2.1.1.2.2.2.2
  intro r hr
  obtain ⟨c0, c1, c2, ⟨e1, e2, e3, e4⟩, r1, r2, r3⟩ := hro r hr
  rw [hw _ (by omega) (by omega), hw _ (by omega) (by omega), hw _ (by omega) (by omega), e1, e2, e3]
  refine ⟨⟨fun z => ?_, fun z => ?_⟩, fun day x hd hx => ⟨?_, fun z => ?_⟩⟩
  · have := (r2 z).1
    have e : ([tv d r] : List FV).length = 1 := rfl
    omega
  · cases e : ts d r with
    | true => rfl
    | false =>
      have := r3 e
      omega
  · exact RC_done hnn r1 hd (fun k _ _ => by rw [hx _ (by omega) (by omega), hw _ (by omega) (by omega)])
  · exact RC_done hnn (r2 z) hd (fun k _ _ => by rw [hx _ (by omega) (by omega), hw _ (by omega) (by omega)])
theorem TxI.codeM (h : TxI f N cnt nn b s t d v c cm p) {w : Hp} (hw : ∀ q, 2 ≤ q → q ≤ 18 → w q = t q) : CodeM w b d := by
  have hb : b < 2 := h.1.2.2.2.1
  have hM := h.2.2.2.2.1.2.1
  have hro := hM.2.2.2.2
  have hW : dW d ≤ 12 := h.2.2.2.1.1.1
  have hal : ∀ w, w < dW d → t 7 (12 * b + w) = al d w := hM.1.2.2.2.2.2.1
  intro r hr
  obtain ⟨c0, c1, c2, ⟨e1, e2, e3, e4, e5⟩, r1, r2, r3⟩ := hro r hr
  rw [hw 10 (by decide) (by decide), hw 11 (by decide) (by decide), hw 12 (by decide) (by decide), hw 13 (by decide) (by decide), e1, e2, e3, e4]
  have hc1 := r1.2.1
  refine ⟨⟨fun z => ?_, fun z => ?_⟩, fun day x hd h12 h42 hx => ⟨?_, fun z => ?_⟩⟩
  · have h1 := (r2 z).2.2.1
    have h2 := (r2 z).1
    have e : ([tv d r] : List FV).length = 1 := rfl
    omega
  · cases e : ts d r with
    | true => rfl
    | false =>
      have := r3 e
      omega
  · exact RM_done hb r1 hd h12 h42 (fun k _ _ => by rw [(hx.1 k (by omega)).1, (hx.1 k (by omega)).2, hw 17 (by decide) (by decide), hw 18 (by decide) (by decide)]; exact ⟨rfl, rfl⟩) (fun i hi => by rw [hx.2 i (by omega), hw 7 (by decide) (by decide)]; exact hal i hi)
  · have hc2 := (r2 z).2.1
    exact RM_done hb (r2 z) hd h12 h42 (fun k _ _ => by rw [(hx.1 k (by omega)).1, (hx.1 k (by omega)).2, hw 17 (by decide) (by decide), hw 18 (by decide) (by decide)]; exact ⟨rfl, rfl⟩) (fun i hi => by rw [hx.2 i (by omega), hw 7 (by decide) (by decide)]; exact hal i hi)
theorem C_again19 (g1 : NDok d) (g2 : ADok A) (g3 : nowOf A kn now) (g4 : day < 1000) (h : ClsP σ n d A kn day) : wp (F_RD_lookAgain σ) (fun _ s => ∀ i, i ≠ 13 → s n i = σ n i) := by
  obtain ⟨c1, c2, c3, c4, c5, p3, p4⟩ := h
  have hn : n = 50 ∨ n = 4 := c1.1
  have key : wp (F_RD_lookAgain_34 now n σ) (fun _ s => ∀ i, i ≠ 13 → s n i = σ n i) := by
    unfold F_RD_lookAgain_34
    rw [c5.2.2.2]
    refine wp_cl (C_look g1 c1 c2 g2 c4 g3.le g4) (fun _ s hs => ?_)
    rw [lt_eq]
    exact wp_ret (fun i hi => by rw [hset_obj _ _ _ _ (by omega)]; exact hs.2.2 i hi)
  unfold F_RD_lookAgain
  rw [c5.1, lt_eq, Int.toNat_natCast, gd_pos c1.1, c5.2.2.1, c4.1]
  obtain ⟨_, _, e⟩ := g3
  refine wp_if (fun c => ?_) (fun c => ?_)
  · rw [if_pos c] at e
    rw [e] at key
    exact key
  · rw [if_neg c] at e
    rw [e] at key
    exact key
def A00 : AD := (0, (fun _ => 0), (fun _ => 0), (fun _ => 0))
def D00 : DL := ((fun _ => false), (fun _ => 0))
theorem dlN_00 : ∀ k, dlN D00 k = 0
  | 0 => rfl
  | k + 1 => by
    show dlN D00 k + (if false = true then 1 else 0) = 0
    rw [dlN_00 k]
    rfl
/-- the class when a text is taken -/
theorem C_textEnd (hI : InvAt σ τ n b0 d A kn now day D) (hb : b = 1 - b0) {d' : ND} {v' c' cm' p' : Nat} (hnn : nn = 54 - n) (hR : RdF nn σ s) (hm : TmF b τ t) (ht1 : t 0 1 = 0) (h : TxI f N cnt nn b s t d' v' c' cm' p') {w : Hp} (hw : (w 0 10 = 0 ∧ w 0 11 = t 0 9 ∧ w 0 12 = t 0 31 ∧ w 0 43 = 0 ∧ w 0 44 = -1) ∧ (∀ i, i ≠ 10 → i ≠ 11 → i ≠ 12 → i ≠ 43 → i ≠ 44 → w 0 i = t 0 i) ∧ (∀ r, r < 30 → w 42 r = 0) ∧ ∀ q, q ≠ 0 → q ≠ 42 → w q = t q) (hrd : F_Rdr_read σ = some (1, s)) :
    wp (F_RD_text σ) (fun z x => z = (v' : Int) ∧ InvAt x w nn b d' A00 (-1) 0 day D00) := by
  obtain ⟨⟨g1, g2, g3, g4, g5⟩, ⟨c1, c2, c3, c4, c5, c6, c7⟩, m, ⟨d1, d2⟩, o1, o2, o3⟩ := id hI
  obtain ⟨⟨x1, x2, x3, x4, x5⟩, ⟨x6, x7, x8⟩, x9, x10, ⟨xC, xM, x11, x12⟩, xT, xt, xz⟩ := id h
  obtain ⟨⟨w10, w11, w12, w43, w44⟩, w0, w42, wq⟩ := hw
  have hn : n = 50 ∨ n = 4 := c1.1
  obtain ⟨i0, y1, y2, y3, y4, y5, y6⟩ := id x8
  have s1 : s 1 = σ 1 := hR.1 1 (by decide) (by omega) (by omega)
  have s2 : s 2 = σ 2 := hR.1 2 (by decide) (by omega) (by omega)
  have s0 : s 0 = σ 0 := hR.1 0 (by decide) (by omega) (by omega)
  have cut : F_Bytes_cut 1 0 s = some (1, hset s 1 1 0) := by
    unfold F_Bytes_cut
    rw [gd_pos (show isBytes 1 by decide), if_neg (by decide), if_pos (by rw [s1]; exact o2.1), lt_eq]
  obtain ⟨a, ha⟩ : ∃ a, a = hset (hset (hset s 1 1 0) 0 13 0) 0 14 (-1) := ⟨_, rfl⟩
  have aq : ∀ q, q ≠ 0 → q ≠ 1 → a q = s q := fun q i1 i2 => by rw [ha, hset_obj _ _ _ _ i1, hset_obj _ _ _ _ i1, hset_obj _ _ _ _ i2]
  have a0 : ∀ i, i ≠ 13 → i ≠ 14 → a 0 i = σ 0 i := fun i i1 i2 => by rw [ha, hset_get, if_neg (by omega), hset_get, if_neg (by omega), hset_obj _ _ _ _ (by decide), s0]
  have a13 : a 0 13 = 0 := by rw [ha, hset_get, if_neg (by decide), hset_same]
  have a14 : a 0 14 = -1 := by rw [ha, hset_same]
  have a11 : a 1 1 = 0 := by rw [ha, hset_obj _ _ _ _ (by decide), hset_obj _ _ _ _ (by decide), hset_same]
  have a03 : a 0 3 = (n : Int) := by rw [a0 3 (by decide) (by decide)]; exact c5.1
  have a31 : a 3 1 = (nn : Int) := by rw [aq 3 (by decide) (by decide)]; exact x7
  have hin : isNet nn := x5
  have hinn : isNet n := c1.1
  have ex : F_Rdr_exchange n a = some ((nn : Int), hset a 3 1 (n : Int)) := by
    unfold F_Rdr_exchange
    rw [gd_pos hinn, a31, lt_eq, Int.toNat_natCast, gd_pos hin, lt_eq]
    rfl
  have h1 : F_RD_text σ = cl2 (F_Acts_clear (hset (hset a 3 1 (n : Int)) 0 3 (nn : Int))) fun _ s18 => cl2 (F_Deals_clear s18) fun _ s21 => lt (hset s21 0 12 (-1)) fun s23 => cl2 (F_RD_lookAgain s23) fun _ s25 => lt (s25 0 3).toNat fun q27 => gd (isNet q27) <| some (s25 q27 19, s25) := by
    have e36 : hset s 1 1 0 3 6 = 0 := by rw [hset_obj _ _ _ _ (by decide)]; exact y5
    have e37 : hset (hset s 1 1 0) 0 13 0 3 7 = -1 := by rw [hset_obj _ _ _ _ (by decide), hset_obj _ _ _ _ (by decide)]; exact y6
    unfold F_RD_text
    rw [hrd, cl2_some, cut, cl2_some, e36, lt_eq, e37, lt_eq, if_neg (by decide), ← ha, a03, lt_eq, Int.toNat_natCast, gd_pos hinn, ex, cl2_some, Int.toNat_natCast, gd_pos hin, lt_eq]
    rfl
  rw [h1]
  clear ex cut hrd h1
  obtain ⟨e, he⟩ : ∃ e, e = hset (hset (hset a 3 1 (n : Int)) 0 3 (nn : Int)) 46 3 0 := ⟨_, rfl⟩
  have ac : F_Acts_clear (hset (hset a 3 1 (n : Int)) 0 3 (nn : Int)) = some (0, e) := by
    unfold F_Acts_clear
    rw [lt_eq, he]
  rw [ac, cl2_some]
  refine wp_cl (C_clear (s := e)) (fun _ y hy => ?_)
  obtain ⟨q1, q2, q3, q4⟩ := hy
  have eq : ∀ q, q ≠ 0 → q ≠ 1 → q ≠ 3 → q ≠ 46 → e q = s q := fun q i1 i2 i3 i4 => by rw [he, hset_obj _ _ _ _ i4, hset_obj _ _ _ _ i1, hset_obj _ _ _ _ i3]; exact aq q i1 i2
  obtain ⟨g, hg⟩ : ∃ g, g = hset y 0 12 (-1) := ⟨_, rfl⟩
  rw [lt_eq, ← hg]
  have gq : ∀ q, q ≠ 0 → q ≠ 1 → q ≠ 3 → q ≠ 46 → q ≠ 173 → q ≠ 174 → q ≠ 175 → g q = s q := fun q i1 i2 i3 i4 i5 i6 i7 => by rw [hg, hset_obj _ _ _ _ i1, q3 q i5 i6 i7]; exact eq q i1 i2 i3 i4
  have gy : ∀ q, q ≠ 0 → g q = y q := fun q i1 => by rw [hg, hset_obj _ _ _ _ i1]
  have g0 : ∀ i, i ≠ 3 → i ≠ 12 → i ≠ 13 → i ≠ 14 → g 0 i = σ 0 i := fun i i1 i2 i3 i4 => by
    rw [hg, hset_get, if_neg (by omega), q3 0 (by decide) (by decide) (by decide), he, hset_obj _ _ _ _ (by decide), hset_get, if_neg (by omega), hset_obj _ _ _ _ (by decide)]
    exact a0 i i3 i4
  have g03 : g 0 3 = (nn : Int) := by rw [hg, hset_get, if_neg (by decide), q3 0 (by decide) (by decide) (by decide), he, hset_obj _ _ _ _ (by decide), hset_same]
  have g012 : g 0 12 = -1 := by rw [hg, hset_same]
  have g01x : ∀ i, i = 13 ∨ i = 14 → g 0 i = a 0 i := fun i hi => by
    rw [hg, hset_get, if_neg (by omega), q3 0 (by decide) (by decide) (by decide), he, hset_obj _ _ _ _ (by decide), hset_get, if_neg (by omega), hset_obj _ _ _ _ (by decide)]
  have g013 : g 0 13 = 0 ∧ g 0 14 = -1 := ⟨by rw [g01x 13 (Or.inl rfl)]; exact a13, by rw [g01x 14 (Or.inr rfl)]; exact a14⟩
  have g11 : g 1 1 = 0 := by
    rw [gy 1 (by decide), q3 1 (by decide) (by decide) (by decide), he, hset_obj _ _ _ _ (by decide), hset_obj _ _ _ _ (by decide), hset_obj _ _ _ _ (by decide)]
    exact a11
  have g2' : g 2 = σ 2 := by rw [gq 2 (by decide) (by decide) (by decide) (by decide) (by decide) (by decide) (by decide)]; exact s2
  have g31 : g 3 1 = (n : Int) := by
    rw [gy 3 (by decide), q3 3 (by decide) (by decide) (by decide), he, hset_obj _ _ _ _ (by decide), hset_obj _ _ _ _ (by decide), hset_same]
  have g463 : g 46 3 = 0 := by
    rw [gy 46 (by decide), q3 46 (by decide) (by decide) (by decide), he, hset_same]
  have gR : ∀ q, 88 ≤ q → q ≠ 173 → q ≠ 174 → q ≠ 175 → g q = σ q := fun q i1 i2 i3 i4 => by
    rw [gq q (by omega) (by omega) (by omega) (by omega) i2 i3 i4]
    exact hR.1 q (by omega) (by omega) (by omega)
  have gN : ∀ q, nn ≤ q → q ≤ nn + 37 → q ≠ 46 → g q = s q := fun q i1 i2 i3 => gq q (by omega) (by omega) (by omega) i3 (by omega) (by omega) (by omega)
  have hP : ClsP g nn d' A00 (-1) day := by
    refine ⟨xC.1.congr (fun i _ => by rw [gN nn (by omega) (by omega) (by omega)]) (fun q i1 i2 => gN q (by omega) (by omega) (by omega)), h.codeC (fun q i1 i2 => gN q (by omega) (by omega) (by omega)), fun i hi => by rw [gN (nn + 1) (by omega) (by omega) (by omega)]; exact xC.2.1 i hi, ⟨g463, fun k hk => absurd hk (Nat.not_lt_zero _)⟩, ⟨g03, by rw [g31]; omega, g012, by rw [g0 11 (by decide) (by decide) (by decide) (by decide)]; exact c5.2.2.2⟩, by rw [gR 139 (by decide) (by decide) (by decide) (by decide)]; exact c7.2.2.1, by rw [gR 169 (by decide) (by decide) (by decide) (by decide)]; exact c7.2.2.2⟩
  have w31 : w 0 12 = (b : Int) := by rw [w12]; exact xM.2.2.2.1
  have hMd : MdlI w b d' A00 (-1) day := by
    refine ⟨(xM.1.net (t := hset t 0 12 (b : Int)) (by rw [hset_same])).congr (t := w) (by rw [hset_same]; exact w31) (fun q i1 i2 => ?_), h.codeM (fun q i1 i2 => wq q (by omega) (by omega)), fun i hi => by rw [wq 6 (by decide) (by decide)]; exact xM.2.1 i hi, ⟨w43, fun k i1 i2 => ?_⟩, w44, ?_⟩
    · rw [hset_obj _ _ _ _ (by omega)]
      exact wq q (by omega) (by omega)
    · exact absurd (Nat.le_trans i1 i2) (by show ¬ 1 ≤ 0; decide)
    · rw [w0 42 (by decide) (by decide) (by decide) (by decide) (by decide), hm.2.1 42 (by unfold xmI nxI; decide) (by decide) (by decide) (by decide)]
      exact m.2.2.2.2.2
  have hD : DlsI g w D00 := ⟨fun r hr => ⟨by rw [gy 174 (by decide), q1 r hr]; rfl, by rw [w42 r hr]; rfl, fun z => absurd z (by show ¬ (false = true); decide)⟩, by rw [gy 173 (by decide), q2, dlN_00]; rfl⟩
  have hO : OutI g w := by
    refine ⟨⟨by rw [g013.1, w10], by rw [g013.2, w11]; exact xt.2.1.2.symm, ?_⟩, ?_, ?_⟩
    · rw [g0 15 (by decide) (by decide) (by decide) (by decide), w0 67 (by decide) (by decide) (by decide) (by decide) (by decide), hm.2.1 67 (by unfold xmI nxI; decide) (by decide) (by decide) (by decide)]
      exact o1.2.2
    · rw [g11, w0 1 (by decide) (by decide) (by decide) (by decide) (by decide), ht1, g2', wq 1 (by decide) (by decide), hm.1 1 (by decide) (by decide)]
      exact ⟨by decide, by decide, rfl, o2.2.2.2⟩
    · rw [gR 181 (by decide) (by decide) (by decide) (by decide), gR 182 (by decide) (by decide) (by decide) (by decide), w0 71 (by decide) (by decide) (by decide) (by decide) (by decide), hm.2.1 71 (by unfold xmI nxI; decide) (by decide) (by decide) (by decide), wq 49 (by decide) (by decide), hm.1 49 (by decide) (by decide)]
      exact o3
  have gA : ADok A00 := ⟨by show 0 ≤ 200; decide, fun k i1 i2 => absurd (Nat.le_trans i1 i2) (by show ¬ 1 ≤ 0; decide)⟩
  have gO : nowOf A00 (-1) 0 := ⟨by decide, by show (-1 : Int) ≤ ((0 : Nat) : Int); decide, by rw [if_pos rfl]; rfl⟩
  have gD : DLok d' D00 := ⟨x10.2.1, fun r z => absurd z (by show ¬ (false = true); decide)⟩
  refine wp_cl (wp_and (C_again x10.1 gA gO g4 gD hP hMd hD hO) (C_again19 x10.1 gA gO g4 hP)) (fun _ x hx => ?_)
  obtain ⟨hx1, hx2⟩ := hx
  have x03 : x 0 3 = (nn : Int) := hx1.2.1.2.2.2.2.1.1
  rw [x03, lt_eq, Int.toNat_natCast, gd_pos hin, hx2 19 (by decide), gN nn (by omega) (by omega) (by omega)]
  exact wp_ret ⟨xC.2.2.2.1, hx1⟩
theorem S_text (σ τ : Hp) (h : Inv σ τ) : ∃ (z : Int) (σ' τ' : Hp), F_RD_text σ = some (z, σ') ∧ F_M_text τ = some (z, τ') ∧ Inv σ' τ' := by
  obtain ⟨n, b0, d, A, kn, now, day, D, hI⟩ := id h
  obtain ⟨⟨g1, g2, g3, g4, g5⟩, ⟨c1, c2, c3, c4, c5, c6, c7⟩, m, hDl, o1, o2, o3⟩ := id hI
  have hn : n = 50 ∨ n = 4 := c1.1
  have hb0 : b0 < 2 := m.1.1
  obtain ⟨nn, hnn⟩ : ∃ nn, nn = 54 - n := ⟨_, rfl⟩
  obtain ⟨b, hb⟩ : ∃ b, b = 1 - b0 := ⟨_, rfl⟩
  obtain ⟨N, hN⟩ : ∃ N : Nat, σ 1 1 = N := ⟨(σ 1 1).toNat, by omega⟩
  have h31 : σ 3 1 = (nn : Int) := by rw [c5.2.1]; omega
  have hby : byC σ (fun j => σ 2 j % 256) N := ⟨hN, by omega, fun _ => rfl⟩
  have key : wp (F_M_text τ) (fun z t' => ∃ s', F_RD_text σ = some (z, s') ∧ Inv s' t') := by
    refine M_textStart hb0 hb m.1.2.1 (by rw [← o2.2.2.1]; exact hN) (fun u hu => ?_)
    obtain ⟨z, s', t', x', r1, r2, r3, r4, r5, r6⟩ := text_joint (by omega) (by omega) hby h31 o2.2.2.2 hu
    rw [r2]
    rcases r6 with ⟨hz, k, pl, k1, k2, k3, k4, k5⟩ | ⟨hz, cnt, d', v', c', cm', p', k1, k2⟩
    · subst hz
      rw [M_158_bad (by omega)]
      have s1 : s' 1 = σ 1 := r3.1 1 (by decide) (by omega) (by omega)
      have s0 : s' 0 = σ 0 := r3.1 0 (by decide) (by omega) (by omega)
      have cut : F_Bytes_cut 1 0 s' = some (1, hset s' 1 1 0) := by
        unfold F_Bytes_cut
        rw [gd_pos (show isBytes 1 by decide), if_neg (by decide), if_pos (by rw [s1]; exact o2.1), lt_eq]
      have e36 : hset s' 1 1 0 3 6 = k := by rw [hset_obj _ _ _ _ (by decide)]; exact k1
      have e37 : hset (hset s' 1 1 0) 0 13 k 3 7 = pl := by rw [hset_obj _ _ _ _ (by decide), hset_obj _ _ _ _ (by decide)]; exact k2
      have e1 : F_RD_text σ = some (-1, hset (hset (hset s' 1 1 0) 0 13 k) 0 14 pl) := by
        unfold F_RD_text
        rw [r1, cl2_some, cut, cl2_some, e36, lt_eq, e37, lt_eq, if_pos rfl]
      refine wp_ret ⟨_, e1, n, b0, d, A, kn, now, day, D, ?_⟩
      have hfe : TmF b τ t' := r4
      refine InvAt.textF2 hI hb ?_ ?_ ?_ ?_ hfe ?_ ?_ ?_ ?_
      · intro q i1 i2 i3 i4 i5
        rw [hset_obj _ _ _ _ i1, hset_obj _ _ _ _ i1, hset_obj _ _ _ _ i2]
        exact r3.1 q i3 (by omega) i5
      · rw [hset_obj _ _ _ _ (by decide), hset_obj _ _ _ _ (by decide), hset_obj _ _ _ _ (by decide)]
        exact r3.2 1 (by decide)
      · intro i i1 i2
        rw [hset_get, if_neg (by omega), hset_get, if_neg (by omega), hset_obj _ _ _ _ (by decide), s0]
      · rw [hset_obj _ _ _ _ (by decide), hset_obj _ _ _ _ (by decide), hset_same]
      · intro q hq
        rw [hset_obj _ _ _ _ hq, hset_obj _ _ _ _ hq]
      · intro i i1 i2
        rw [hset_get, if_neg (by omega), hset_get, if_neg (by omega)]
      · refine ⟨?_, ?_⟩
        · rw [hset_get, if_neg (by decide), hset_same, hset_get, if_neg (by decide), hset_same]
          exact k3.symm
        · rw [hset_same, hset_same]
          exact k4.symm
      · rw [hset_get, if_neg (by decide), hset_get, if_neg (by decide)]
        exact r5
    · subst hz
      have T8 : t' 0 8 = 0 := k2.2.2.2.2.2.2.1.2.1.1
      refine wp_mono (M_158_ok T8 x') (fun z w hw => ?_)
      obtain ⟨hz, hw⟩ := hw
      obtain ⟨z2, x, e2, hz2, hI2⟩ := C_textEnd hI hb hnn r3 r4 r5 k2 hw r1
      rw [hz, k1]
      rw [hz2] at e2
      exact ⟨x, e2, nn, b, d', A00, -1, 0, day, D00, hI2⟩
  obtain ⟨z, t', e, s', e2, hI2⟩ := key
  exact ⟨z, s', t', e2, e, hI2⟩
end TextS
