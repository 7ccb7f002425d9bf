/-! a whole text read on both sides -/
section Joint
variable {σ τ s t u : Hp} {f : Nat → Int} {N nn b cnt : Nat}
def d00 : ND := ((0, 0), (fun _ => 0), (fun _ => 0), (fun _ => 0), (fun _ _ => 0), (fun _ => 0), ((fun _ _ => 0), (fun _ => false), (fun _ _ => 0)), (fun _ => []), (0, 0))
theorem okD_00 : okD d00 := ⟨⟨Nat.zero_le _, Nat.zero_le _, fun r hr => absurd hr (Nat.not_lt_zero _), fun w hw => absurd hw (Nat.not_lt_zero _), fun _ _ => ⟨by show (-9999 : Int) ≤ 0; decide, by show (0 : Int) ≤ 9999; decide⟩, fun r hr => absurd hr (Nat.not_lt_zero _)⟩, fun w hw => absurd hw (Nat.not_lt_zero _), Nat.zero_le _, Nat.zero_le _⟩
theorem RdF_tf (h : RdF nn σ s) (h2 : TfC nn s u) : RdF nn σ u := ⟨fun q a1 a2 a3 => by rw [h2.1 q a1 a2, h.1 q a1 a2 a3], fun i hi => by rw [h2.2 i hi, h.2 i hi]⟩
/-- the beginning, as what holds between two statements -/
theorem TxI_0 (hn : nn = 50 ∨ nn = 4) (hb : b < 2) (hok : okF f) (hN : N ≤ 900) (hS : ScnC s f N cnt) (hA : AtC s f N cnt 0) (h31 : s 3 1 = (nn : Int)) (h0 : ∀ i, 14 ≤ i → i ≤ 19 → s nn i = 0) (h5 : ∀ i, i < 30 → s (nn + 5) i = 0) (ht : ∀ a i, a < 12 → i < 12 → s (nn + 9 + 1 + a) i = -1 ∧ s (nn + 22 + 1 + a) i = 0) (h35 : ∀ i, i < 144 → s (nn + 35) i = 0)
    (hby : byM t f N) (m30 : t 0 30 = 0) (m31 : t 0 31 = (b : Int)) (mb : t 2 b = 0 ∧ t 3 b = 0 ∧ t 4 b = 0 ∧ t 5 b = 0) (m15 : ∀ i, i < 144 → t 15 (144 * b + i) = 0 ∧ t 16 (144 * b + i) = 0) (hT : TkM t f N 0) : TxI f N cnt nn b s t d00 0 0 0 0 := by
  have e0 : ∀ a c, rdO d00 a c (dR d00) = -1 := fun _ _ => rfl
  refine ⟨⟨hok, hN, Nat.zero_le _, hb, hn⟩, ⟨hS, h31, hA⟩, hby, okD_00, ⟨⟨⟨hn, h0 15 (by decide) (by decide), h0 16 (by decide) (by decide), h0 17 (by decide) (by decide), h0 18 (by decide) (by decide), fun w hw => absurd hw (Nat.not_lt_zero _), fun r hr => absurd hr (Nat.not_lt_zero _), fun a c ha hc => by rw [e0]; exact (ht a c ha hc).1, fun a c ha hc => (ht a c ha hc).2⟩, fun w hw => absurd hw (Nat.not_lt_zero _), h0 14 (by decide) (by decide), h0 19 (by decide) (by decide), fun r hr => absurd hr (Nat.not_lt_zero _)⟩, ⟨⟨hb, mb.1, mb.2.1, mb.2.2.1, mb.2.2.2, fun w hw => absurd hw (Nat.not_lt_zero _), fun r hr => absurd hr (Nat.not_lt_zero _), fun a c ha hc => ?_⟩, fun w hw => absurd hw (Nat.not_lt_zero _), m30, m31, fun r hr => absurd hr (Nat.not_lt_zero _)⟩, Nat.le_refl _, Nat.le_refl _⟩, fun i hi => ?_, hT, fun r _ hr => h5 r hr⟩
  · have := (m15 (12 * a + c) (by omega)).1
    rw [← Nat.add_assoc] at this
    exact this
  · rw [h35 i hi, (m15 i hi).2]
/-- both sides of a text's reading, to the check's last step -/
theorem text_joint (hn : nn = 50 ∨ nn = 4) (hb : b < 2) (hby : byC σ f N) (h31 : σ 3 1 = (nn : Int)) (h1 : ∀ k, k < 900 → τ 1 k = f k) (hM : MSt b N τ u) :
    ∃ z s' t' x', F_Rdr_read σ = some (z, s') ∧ (cl2 (F_M_next u) fun _ s19 => F_M_text_134 FU (0, s19)) = F_M_text_158 x' t' ∧ RdF nn σ s' ∧ TmF b τ t' ∧ t' 0 1 = 0 ∧
      ((z = 0 ∧ ∃ k pl, s' 3 6 = k ∧ s' 3 7 = pl ∧ t' 0 8 = k ∧ t' 0 9 = pl ∧ 0 < k) ∨ (z = 1 ∧ ∃ (cnt : Nat) (d' : ND) (v' c' cm' p' : Nat), x' = (v' : Int) ∧ TxI f N cnt nn b s' t' d' v' c' cm' p')) := by
  have hok := hby.ok
  have hN := hby.2.1
  obtain ⟨s, cnt, r1, r2, r3, r4, r5, r6, r7, r8, r9⟩ := C_readStart hn hby h31
  obtain ⟨⟨a1, a2, a5, a8, a9, a30, a31⟩, mb, m15, hf⟩ := hM
  have hbyM : byM u f N := ⟨a2, hN, fun k hk => by rw [hf.1 1 (by decide) (by omega)]; exact h1 k hk⟩
  obtain ⟨z0, t0, e0, hAt, hnx⟩ := M_next hok hbyM (Nat.zero_le N) a5 a8 a9
  have t01 : t0 0 1 = 0 := by rw [hnx.2 1 (by unfold nxI; decide)]; exact a1
  have hf0 : TmF b τ t0 := TmF_trans hf (TmF_tf (TfM_xm (cm := 0) (xmF_nx hnx)))
  rw [e0, cl2_some, r1]
  rcases hAt with hT | ⟨m1, m2, m3⟩
  · have hTx : TxI f N cnt nn b s t0 d00 0 0 0 0 := TxI_0 hn hb hok hN r2 r3 r4 r5 r6 r7 r8 (nxF_by hnx hbyM) (by rw [hnx.2 30 (by unfold nxI; decide)]; exact a30) (by rw [hnx.2 31 (by unfold nxI; decide)]; exact a31) (by rw [hnx.1 2 (by decide), hnx.1 3 (by decide), hnx.1 4 (by decide), hnx.1 5 (by decide)]; exact mb) (fun i hi => by rw [hnx.1 15 (by decide), hnx.1 16 (by decide)]; exact m15 i hi) hT
    obtain ⟨z, s', t', x', b1, b2, b3, b4, b5⟩ := loops_both N s t0 d00 0 0 0 0 (by omega) hTx (Nat.le_refl _)
    have eF : FU = (19999 - N) + N + 1 := by rw [FU_eq]; omega
    have b1' : F_Rdr_read_43 FU (0, s) = some (z, s') := by rw [eF]; exact b1 _
    have b2' : F_M_text_134 FU (0, t0) = F_M_text_158 x' t' := by rw [eF]; exact b2 _
    refine ⟨z, s', t', x', b1', b2', RdF_tf r9 b3, TmF_trans hf0 (TmF_tf b4), by rw [b4.2.1 1 (by unfold xmI nxI; decide)]; exact t01, ?_⟩
    rcases b5 with b5 | ⟨hz, d', v', c', cm', p', g1, g2, _⟩
    · exact Or.inl b5
    · exact Or.inr ⟨hz, cnt, d', v', c', cm', p', g1, g2⟩
  · obtain ⟨s', g1, g2, g3, g4⟩ := mis_end (nn := nn) (v := 0) (t := t0) hok hN ⟨m1, r3, r2, Nat.zero_le _, m2, m3⟩ (Nat.le_refl _)
    have eF : FU = 19999 + 1 := rfl
    have b1' : F_Rdr_read_43 FU (0, s) = some (0, s') := by
      rw [eF, read_s]
      exact g1 _
    have b2' : F_M_text_134 FU (0, t0) = F_M_text_158 0 t0 := by
      rw [eF, text_s]
      unfold F_M_text_134_b
      rw [if_neg (by omega)]
    exact ⟨0, s', t0, 0, b1', b2', RdF_tf r9 g4, hf0, t01, Or.inl ⟨rfl, 1, _, g2, g3, m2, m3, by decide⟩⟩
end Joint
