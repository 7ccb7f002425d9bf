/-! the semicolon: all of it -/
section Semi2
variable {s t : Hp} {f : Nat → Int} {N cnt nn b p v c cm : Nat} {d : ND}
theorem St_semi (h : TxI f N cnt nn b s t d v c cm p) :
    (∃ s' t' k pl, F_Rdr_skip 59 s = some (0, s') ∧ F_M_statement_77 t = some (0, t') ∧ TfC nn s s' ∧ TfM b t t' ∧ s' 3 6 = k ∧ s' 3 7 = pl ∧ t' 0 8 = k ∧ t' 0 9 = pl ∧ (0 : Int) < k) ∨
    (∃ s1 t' p', F_Rdr_skip 59 s = some (1, s1) ∧ F_M_statement_77 t = some (0, t') ∧ p < p' ∧ s1 nn 19 = (v : Int) ∧ (s1 3 1).toNat = nn ∧ TfC nn s (hset s1 nn 19 ((v + 1 : Nat) : Int)) ∧ TfM b t t' ∧ AtC (hset s1 nn 19 ((v + 1 : Nat) : Int)) f N cnt p' ∧ ScnC (hset s1 nn 19 ((v + 1 : Nat) : Int)) f N cnt ∧
      ((kd f N p' = -2 ∧ t' 0 8 = 1 ∧ t' 0 9 = (st f N p' : Nat)) ∨ TxI f N cnt nn b (hset s1 nn 19 ((v + 1 : Nat) : Int)) t' d (v + 1) c cm p')) := by
  have hX := h.fx 0
  have hC := h.cs 0
  have hh := h.ch 0
  obtain ⟨⟨g1, g2, g3, g4, g5⟩, ⟨g6, g7, g8⟩, g9, g10, ⟨gC, gM, gc, gcm⟩, gT, gt, gz⟩ := h
  have hn : nn = 50 ∨ nn = 4 := g5
  have t8 : t 0 8 = 0 := gt.2.1.1
  have h77 : ∀ {u : Hp}, F_M_must 59 t = some (0, u) → F_M_statement_77 t = some (0, u) := fun e => by
    unfold F_M_statement_77 F_M_statement_90
    rw [if_pos t8, e, cl2_some]
  have hsg := both_sign hX hC hh (k := 59) (by decide)
  by_cases c59 : kX (cxT f N cnt nn b s t d c cm 0) p = 59
  · right
    obtain ⟨s1, u, e1, hC1, m1, hh1, n1⟩ := hsg.2 c59
    have he := eX_ok hX g3 (by omega)
    have hex : exF nn c s s1 := hC1.1
    have hTn : TnF nn c s s1 := TnF_ex hex
    have h14 : s1 nn 14 = (c : Int) := hC1.2.2.1
    have hAt : AtC (hset s1 nn 19 ((v + 1 : Nat) : Int)) f N cnt (eX (cxT f N cnt nn b s t d c cm 0) p) := AtC_cg hC1.2.1 (hset_obj _ _ _ _ (by omega))
    have hSc : ScnC (hset s1 nn 19 ((v + 1 : Nat) : Int)) f N cnt := ScnC_cg g6 (fun q i1 i2 => by rw [hset_obj _ _ _ _ (by omega), hTn.1 q (by omega) (by omega) (by omega)])
    have h31 : s1 3 1 = (nn : Int) := by rw [hTn.2.2.2 1 (by omega)]; exact g7
    refine ⟨s1, u, eX (cxT f N cnt nn b s t d c cm 0) p, e1, h77 m1, he.1, by rw [hTn.2.1 19 (by decide)]; exact gC.2.2.2.1, by rw [h31]; exact Int.toNat_natCast _, TfC_set hTn.tf (by omega) (by omega), TfM_xm hh1.1, hAt, hSc, ?_⟩
    by_cases cmf : kX (cxT f N cnt nn b s t d c cm 0) (eX (cxT f N cnt nn b s t d c cm 0) p) = -2
    · have hb := hh1.bad cmf
      exact Or.inl ⟨cmf, hb.1, hb.2⟩
    · have T1 := hh1.tk hX hC1.2.2.2.2 cmf
      have hp1 : eX (cxT f N cnt nn b s t d c cm 0) p ≤ N := hC1.2.2.2.2
      refine Or.inr ⟨⟨g1, g2, hp1, g4, g5⟩, ⟨hSc, by rw [hset_obj _ _ _ _ (by omega)]; exact h31, hAt⟩, nxF_by n1 g9, g10, ⟨ToC_19 gC hTn h14 hn, ToM_cg gM (fun i hi => ?_) (fun q hq => n1.1 q (by omega)), by omega, by omega⟩, fun i hi => ?_, T1.2.2, fun r i1 i2 => ?_⟩
      · rcases hi with rfl | rfl
        · exact n1.2 30 (by unfold nxI; decide)
        · exact n1.2 31 (by unfold nxI; decide)
      · rw [hset_obj _ _ _ _ (by omega), hTn.1 _ (by omega) (by omega) (by omega), n1.1 16 (by decide)]
        exact gT i hi
      · rw [hset_obj _ _ _ _ (by omega), hTn.1 _ (by omega) (by omega) (by omega)]
        exact gz r i1 i2
  · left
    obtain ⟨s', u, e1, hf, m1, hcf⟩ := hsg.1 c59
    have hex : exF nn c s s' := hf.1
    exact ⟨s', u, 1, _, e1, h77 m1, TfC_ex hex, TfM_xm hcf.1, hf.2.1, hf.2.2, hcf.2.1, hcf.2.2.1, by decide⟩
end Semi2
