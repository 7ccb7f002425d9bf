/-! which statement it is -/
section Disp
variable {s t : Hp} {f : Nat → Int} {N cnt nn b p v c cm : Nat} {d : ND}
def stC (σ : Hp) : Option (Int × Hp) := cl2 (F_Rdr_isTooMany σ) fun v16 s17 => if v16 = 0 then (if s17 3 3 = 256 then F_Rdr_whoLives s17 else if s17 3 3 = 258 then F_Rdr_roadGoes s17 else if s17 3 3 = 261 then F_Rdr_tasteIs s17 else if s17 3 3 = 263 then F_Rdr_doubtIs s17 else F_Rdr_read_156 s17) else cl2 (F_Rdr_fail 5 s17) fun v40 s41 => gd (v40 = 0 ∨ v40 = 1) <| some (v40, s41)
def stM (σ : Hp) : Option (Int × Hp) := cl2 (F_M_isWord 7825519 σ) fun v5 s6 => if v5 = 0 then (cl2 (F_M_isWord 1919902052 s6) fun v9 s10 => if v9 = 0 then (cl2 (F_M_isWord 499851162725 s10) fun v13 s14 => if v13 = 0 then (cl2 (F_M_isWord 431366693492 s14) fun v17 s18 => if v17 = 0 then F_M_blame 1 (s18 0 4) s18 else F_M_doubt s18) else F_M_taste s14) else F_M_road s10) else F_M_who s6
theorem tooMany (h : TxI f N cnt nn b s t d v c cm p) : F_Rdr_isTooMany s = some (if (kd f N p = 256 ∧ dW d = 12) ∨ (kd f N p = 258 ∧ dR d = 30) ∨ (kd f N p = 261 ∧ dT d = 24) ∨ (kd f N p = 263 ∧ dD d = 24) then 1 else 0, s) := by
  have hC := h.cs 0
  obtain ⟨⟨g1, g2, g3, g4, g5⟩, ⟨g6, g7, g8⟩, g9, g10, ⟨gC, gM, gc, gcm⟩, gT, gt, gz⟩ := id h
  have hk : s 3 3 = kd f N p := hC.k
  have h1 : (s 3 1).toNat = nn := by rw [g7]; exact Int.toNat_natCast _
  have h15 : s nn 15 = (dW d : Int) := gC.1.2.1
  have h16 : s nn 16 = (dR d : Int) := gC.1.2.2.1
  have h17 : s nn 17 = (dT d : Int) := gC.1.2.2.2.1
  have h18 : s nn 18 = (dD d : Int) := gC.1.2.2.2.2.1
  have w1 : dW d ≤ 12 := g10.1.1
  have w2 : dR d ≤ 30 := g10.1.2.1
  have w3 : dT d ≤ 24 := g10.2.2.1
  have w4 : dD d ≤ 24 := g10.2.2.2
  have o0 : (0 : Int) = 0 ∨ (0 : Int) = 1 := Or.inl rfl
  have o1 : (1 : Int) = 0 ∨ (1 : Int) = 1 := Or.inr rfl
  unfold F_Rdr_isTooMany F_Rdr_isTooMany_69 F_Rdr_isTooMany_87 F_Rdr_isTooMany_105 F_Rdr_isTooMany_123 F_Rdr_isTooMany_124
  rw [hk, lt_eq, lt_eq, lt_eq, lt_eq, h1, gd_pos g5, gd_pos g5, gd_pos g5, gd_pos g5, h15, h16, h17, h18, gd_pos o0, gd_pos o1]
  by_cases c1 : kd f N p = 256
  · rw [if_pos c1]
    by_cases z : dW d = 12
    · rw [if_neg (by omega), if_pos (Or.inl ⟨c1, z⟩)]
    · rw [if_pos (by omega), if_neg (by omega)]
  rw [if_neg c1]
  by_cases c2 : kd f N p = 257
  · rw [if_pos c2, if_neg (by omega)]
  rw [if_neg c2]
  by_cases c3 : kd f N p = 258
  · rw [if_pos c3]
    by_cases z : dR d = 30
    · rw [if_neg (by omega), if_pos (by omega)]
    · rw [if_pos (by omega), if_neg (by omega)]
  rw [if_neg c3]
  by_cases c4 : kd f N p = 259
  · rw [if_pos c4, if_neg (by omega)]
  rw [if_neg c4]
  by_cases c5 : kd f N p = 260
  · rw [if_pos c5, if_neg (by omega)]
  rw [if_neg c5]
  by_cases c6 : kd f N p = 261
  · rw [if_pos c6]
    by_cases z : dT d = 24
    · rw [if_neg (by omega), if_pos (by omega)]
    · rw [if_pos (by omega), if_neg (by omega)]
  rw [if_neg c6]
  by_cases c7 : kd f N p = 262
  · rw [if_pos c7, if_neg (by omega)]
  rw [if_neg c7]
  by_cases c8 : kd f N p = 263
  · rw [if_pos c8]
    by_cases z : dD d = 24
    · rw [if_neg (by omega), if_pos (by omega)]
    · rw [if_pos (by omega), if_neg (by omega)]
  rw [if_neg c8, if_neg (by omega)]
/-- one blames 5, the other too -/
theorem disp_5 (h : TxI f N cnt nn b s t d v c cm p) (hcl : F_Rdr_isTooMany s = some (1, s)) (hch : stM t = some (0, BL (cxT f N cnt nn b s t d c cm 0) t p 5)) : StO f N cnt nn b s t d v p (stC s) (stM t) := by
  have hX := h.fx 0
  have hC := h.cs 0
  obtain ⟨s', e, hf⟩ := hC.fail hX 5
  have hex : exF nn c s s' := hf.1
  refine ⟨0, s', _, ?_, hch, TfC_ex hex, TfM_xm (cm := cm) (BL_xm xmF_rfl), Or.inl ⟨rfl, 5, _, hf.2.1, hf.2.2, BL_8.1, BL_8.2, by decide⟩⟩
  unfold stC
  rw [hcl, cl2_some, if_neg (by decide), e, cl2_some, gd_pos (Or.inl rfl)]
theorem disp (h : TxI f N cnt nn b s t d v c cm p) : StO f N cnt nn b s t d v p (stC s) (stM t) := by
  have hX := h.fx 0
  have hC := h.cs 0
  have hh := h.ch 0
  have htm := tooMany h
  obtain ⟨⟨g1, g2, g3, g4, g5⟩, ⟨g6, g7, g8⟩, g9, g10, ⟨gC, gM, gc, gcm⟩, gT, gt, gz⟩ := id h
  have hk : s 3 3 = kd f N p := hC.k
  have T : TK (cxT f N cnt nn b s t d c cm 0) t p := hh.tk hX g3 gt.1
  have h31 : t 0 31 = (b : Int) := gM.2.2.2.1
  have uN : ∀ {k : Int}, kd f N p ≠ k → kX (cxT f N cnt nn b s t d c cm 0) p ≠ k := fun z => z
  have uY : ∀ {k : Int}, kd f N p = k → kX (cxT f N cnt nn b s t d c cm 0) p = k := fun z => z
  have w1 : dW d ≤ 12 := g10.1.1
  have w2 : dR d ≤ 30 := g10.1.2.1
  have w3 : dT d ≤ 24 := g10.2.2.1
  have w4 : dD d ≤ 24 := g10.2.2.2
  by_cases c1 : kd f N p = 256
  · have e2 : stM t = F_M_who t := by
      unfold stM
      rw [T.wY (uY c1) wcWho, cl2_some, if_neg (by decide)]
    by_cases z : dW d = 12
    · rw [if_pos (Or.inl ⟨c1, z⟩)] at htm
      refine disp_5 h htm ?_
      rw [e2, who_full T g4 h31 (by rw [gM.1.2.1, z]; rfl)]
    · rw [if_neg (by omega)] at htm
      have e1 : stC s = F_Rdr_whoLives s := by
        unfold stC
        rw [htm, cl2_some, if_pos rfl, hk, if_pos c1]
      rw [e1, e2]
      exact St_who h c1 (by omega)
  by_cases c2 : kd f N p = 258
  · have e2 : stM t = F_M_road t := by
      unfold stM
      rw [T.wN (uN c1) wcWho, cl2_some, if_pos rfl, T.wY (uY c2) wcRoad, cl2_some, if_neg (by decide)]
    by_cases z : dR d = 30
    · rw [if_pos (Or.inr (Or.inl ⟨c2, z⟩))] at htm
      refine disp_5 h htm ?_
      rw [e2, road_full T g4 h31 (by rw [gM.1.2.2.1, z]; rfl)]
    · rw [if_neg (by omega)] at htm
      have e1 : stC s = F_Rdr_roadGoes s := by
        unfold stC
        rw [htm, cl2_some, if_pos rfl, hk, if_neg c1, if_pos c2]
      rw [e1, e2]
      exact St_road h c2 (by omega)
  by_cases c3 : kd f N p = 261
  · have e2 : stM t = F_M_taste t := by
      unfold stM
      rw [T.wN (uN c1) wcWho, cl2_some, if_pos rfl, T.wN (uN c2) wcRoad, cl2_some, if_pos rfl, T.wY (uY c3) wcTaste, cl2_some, if_neg (by decide)]
    by_cases z : dT d = 24
    · rw [if_pos (Or.inr (Or.inr (Or.inl ⟨c3, z⟩)))] at htm
      refine disp_5 h htm ?_
      rw [e2, taste_full T g4 h31 (by rw [gM.1.2.2.2.1, z]; rfl)]
    · rw [if_neg (by omega)] at htm
      have e1 : stC s = F_Rdr_tasteIs s := by
        unfold stC
        rw [htm, cl2_some, if_pos rfl, hk, if_neg c1, if_neg c2, if_pos c3]
      rw [e1, e2]
      exact St_taste h c3 (by omega)
  by_cases c4 : kd f N p = 263
  · have e2 : stM t = F_M_doubt t := by
      unfold stM
      rw [T.wN (uN c1) wcWho, cl2_some, if_pos rfl, T.wN (uN c2) wcRoad, cl2_some, if_pos rfl, T.wN (uN c3) wcTaste, cl2_some, if_pos rfl, T.wY (uY c4) wcDoubt, cl2_some, if_neg (by decide)]
    by_cases z : dD d = 24
    · rw [if_pos (Or.inr (Or.inr (Or.inr ⟨c4, z⟩)))] at htm
      refine disp_5 h htm ?_
      rw [e2, doubt_full T g4 h31 (by rw [gM.1.2.2.2.2.1, z]; rfl)]
    · rw [if_neg (by omega)] at htm
      have e1 : stC s = F_Rdr_doubtIs s := by
        unfold stC
        rw [htm, cl2_some, if_pos rfl, hk, if_neg c1, if_neg c2, if_neg c3, if_pos c4]
      rw [e1, e2]
      exact St_doubt h c4 (by omega)
  rw [if_neg (by omega)] at htm
  obtain ⟨s', e, hf⟩ := hC.fail hX 1
  have hex : exF nn c s s' := hf.1
  refine ⟨0, s', BL (cxT f N cnt nn b s t d c cm 0) t p 1, ?_, ?_, TfC_ex hex, TfM_xm (cm := cm) (BL_xm xmF_rfl), Or.inl ⟨rfl, 1, _, hf.2.1, hf.2.2, BL_8.1, BL_8.2, by decide⟩⟩
  · unfold stC F_Rdr_read_156
    rw [htm, cl2_some, if_pos rfl, hk, if_neg c1, if_neg c2, if_neg c3, if_neg c4, e, cl2_some, gd_pos (Or.inl rfl)]
  · unfold stM
    rw [T.wN (uN c1) wcWho, cl2_some, if_pos rfl, T.wN (uN c2) wcRoad, cl2_some, if_pos rfl, T.wN (uN c3) wcTaste, cl2_some, if_pos rfl, T.wN (uN c4) wcDoubt, cl2_some, if_pos rfl, T.bl]
end Disp
