/-! a taste told -/
section TasteB
variable {s t : Hp} {f : Nat → Int} {N cnt nn b p v c cm : Nat} {d : ND}
def addT (d : ND) (x y : Nat) (a : Int) : ND := ((dW d, dR d), fs d, sn d, al d, (fun i j => if i = x ∧ j = y then a else ta d i j), db d, (sv d, ts d, tv d), nm d, (dT d + 1, dD d))
theorem rdO_addT {x y : Nat} {a : Int} (i j : Nat) : ∀ r, rdO (addT d x y a) i j r = rdO d i j r
  | 0 => rfl
  | r + 1 => by
    show (if (fs d r = i ∧ sn d r = j) ∨ (fs d r = j ∧ sn d r = i) then (r : Int) else rdO (addT d x y a) i j r) = if (fs d r = i ∧ sn d r = j) ∨ (fs d r = j ∧ sn d r = i) then (r : Int) else rdO d i j r
    rw [rdO_addT i j r]
theorem okD_addT (h : okD d) (hT : dT d < 24) {x y : Nat} {a : Int} (ha : -9999 ≤ a ∧ a ≤ 9999) : okD (addT d x y a) := by
  obtain ⟨⟨h1, h2, h3, h4, h5, h6⟩, h7, h8, h9⟩ := h
  refine ⟨⟨h1, h2, fun r hr => ?_, h4, fun i j => ?_, h6⟩, h7, hT, h9⟩
  · have g := h3 r hr
    exact ⟨g.1, g.2.1, g.2.2.1, by rw [rdO_addT]; exact g.2.2.2⟩
  · show -9999 ≤ (if i = x ∧ j = y then a else ta d i j) ∧ (if i = x ∧ j = y then a else ta d i j) ≤ 9999
    by_cases e : i = x ∧ j = y
    · rw [if_pos e]; exact ha
    · rw [if_neg e]; exact h5 i j
theorem taste_139_bad (h : 0 < t 0 8) {x3 x4 : Int} : F_M_taste_139 x3 x4 t = some (0, t) := by
  unfold F_M_taste_139
  rw [number_bad h, cl2_some, if_neg (by omega)]
theorem taste_106_bad (h : 0 < t 0 8) {x3 : Int} : F_M_taste_106 x3 t = some (0, t) := by
  unfold F_M_taste_106 F_M_taste_127 F_M_taste_128
  rw [if_neg (by omega), if_pos rfl, taste_139_bad h]
theorem taste_95_bad (h : 0 < t 0 8) {x3 : Int} : F_M_taste_95 x3 t = some (0, t) := by
  unfold F_M_taste_95
  rw [if_neg (by omega), taste_106_bad h]
theorem taste_48_bad (h : 0 < t 0 8) {x1 : Int} : F_M_taste_48 x1 t = some (0, t) := by
  have e : F_M_whoRead x1 t = some (0, t) := by
    unfold F_M_whoRead
    rw [if_neg (by omega)]
  unfold F_M_taste_48
  rw [e, cl2_some, lt_eq, if_neg (by omega), taste_95_bad h]
theorem twoNames_taste {nn c w1 w2 : Nat} {s36 : Hp} (hin : isNet nn) (h1 : (s36 3 1).toNat = nn) (h4 : s36 3 4 = (w1 : Int)) (h5 : s36 3 5 = (w2 : Int)) (hw1 : w1 < 12) (hw2 : w2 < 12) (t1 : Int) : F_Rdr_twoNames_87 261 t1 s36 = if s36 (nn + 35) (12 * w1 + w2) = 0 then (cl2 (F_Rdr_step s36) fun _ s6 => some (1, s6)) else cl2 (F_Rdr_fail 2 s36) fun v1 s2 => gd (v1 = 0 ∨ v1 = 1) <| some (v1, s2) := by
  have hb : (0 : Int) ≤ ((12 * w1 + w2 : Nat) : Int) ∧ ((12 * w1 + w2 : Nat) : Int) < 144 := by omega
  have e1 : iadd (imul (w1 : Int) 12) (w2 : Int) = ((12 * w1 + w2 : Nat) : Int) := by
    rw [imul_ok (by omega), iadd_ok (by omega)]
    omega
  unfold F_Rdr_twoNames_87
  rw [lt_eq, h1, gd_pos hin, h4, h5, e1, gd_pos hb, lt_eq, Int.toNat_natCast, if_neg (by decide)]
  clear e1
  unfold F_Rdr_twoNames_120 F_Rdr_twoNames_137 F_Rdr_twoNames_154 F_Rdr_twoNames_131
  rw [if_pos rfl]
  by_cases e : s36 (nn + 35) (12 * w1 + w2) = 0
  · rw [if_pos e, if_pos e, if_neg (by decide)]
  · rw [if_neg e, if_neg e]
theorem FixC_tn {W c0 : Nat} {al : Nat → Int} {nm : Nat → List Nat} {u : Hp} (g : FixC s f N cnt nn W al nm) (h : TnF nn c0 s u) : FixC u f N cnt nn W al nm := by
  obtain ⟨hn, hs, h1, h15, hnm⟩ := g
  have hn' : nn = 50 ∨ nn = 4 := hn
  refine ⟨hn, ScnC_cg hs (fun q a b => h.1 q (by omega) (by omega) (by omega)), by rw [h.2.2.2 1 (by omega)]; exact h1, by rw [h.2.1 15 (by decide)]; exact h15, fun w hw => by rw [h.1 _ (by omega) (by omega) (by omega), h.1 _ (by omega) (by omega) (by omega)]; exact hnm w hw⟩
theorem wcLess : wcd 1818588019 262 := ⟨6, _, rfl, by decide, by decide⟩
/-- the number of a taste, and the taste told -/
theorem taste_fin {X : Cx} {w1 w2 p3 : Nat} {s6 t3 : Hp} (hX : FX X) (hC : CSt X s6 p3 c []) (hh : ChS X t3 p3) (h34 : s6 3 4 = (w1 : Int)) (h35 : s6 3 5 = (w2 : Int)) (hx4 : xsQ X 3 4 = (w1 : Int)) (hx5 : xsQ X 3 5 = (w2 : Int)) (hw1 : w1 < 12) (hw2 : w2 < 12) (x : Int) (hx : x = 0 ∨ x = 1) (h31 : t3 0 31 = xb X) :
    ∃ z s' t', F_Rdr_tasteIs_36 x s6 = some (z, s') ∧ F_M_taste_139 ((144 * xb X + (12 * w1 + w2) : Nat) : Int) x t3 = some (0, t') ∧
      ((z = 0 ∧ CF X s' 1 (sX X p3 : Nat) ∧ ChF X t' 1 (sX X p3 : Nat)) ∨ (z = 1 ∧ ∃ (p4 : Nat) (a : Int) (s7 t5 : Hp), p3 < p4 ∧ p4 ≤ xN X ∧ (-9999 ≤ a ∧ a ≤ 9999) ∧ CSt X s7 p4 c [] ∧ s' = hset (hset (hset s7 (xn X + 22 + 1 + w1) w2 a) (xn X + 35) (12 * w1 + w2) 1) (xn X) 17 (iadd (s7 (xn X) 17) 1) ∧ ChS X t5 p4 ∧ nxF t3 t5 ∧
        ((kX X p4 = -2 ∧ t' = t5) ∨ (kX X p4 ≠ -2 ∧ t' = hset (hset (hset t5 16 (144 * xb X + (12 * w1 + w2)) 1) 15 (144 * xb X + (12 * w1 + w2)) a) 4 (xb X) (iadd (t5 4 (xb X)) 1))))) := by
  have hnu := both_number hX hC hh
  have hp3 := hC.2.2.2.2
  have hb2 := hX.2.2.2.1
  have hb : (0 : Int) ≤ (xb X : Int) ∧ (xb X : Int) < 2 := by omega
  have hy : (0 : Int) ≤ ((144 * xb X + (12 * w1 + w2) : Nat) : Int) ∧ ((144 * xb X + (12 * w1 + w2) : Nat) : Int) < 288 := by omega
  by_cases c281 : kX X p3 = 281
  · obtain ⟨s7, t5, e1, hC7, m1, hh5, n5, a0, a9⟩ := hnu.2 c281
    have he := eX_ok hX hp3 (by omega)
    have hp4 := hC7.2.2.2.2
    generalize nv (xf X) (xN X) p3 = a at e1 m1 a0 a9
    have hnet := hC7.net hX
    have k34 : s7 3 4 = (w1 : Int) := by rw [hC7.1.2.1 4 (by decide) (by decide) (by decide) (by decide)]; exact hx4
    have k35 : s7 3 5 = (w2 : Int) := by rw [hC7.1.2.1 5 (by decide) (by decide) (by decide) (by decide)]; exact hx5
    have hn : xn X = 50 ∨ xn X = 4 := hnet.2
    have b1 : (0 : Int) ≤ (w1 : Int) ∧ (w1 : Int) < 12 := by omega
    have b2 : (0 : Int) ≤ (w2 : Int) ∧ (w2 : Int) < 12 := by omega
    have b3 : (0 : Int) ≤ ((12 * w1 + w2 : Nat) : Int) ∧ ((12 * w1 + w2 : Nat) : Int) < 144 := by omega
    have o1 : xn X ≠ xn X + 35 := by omega
    have o2 : xn X ≠ xn X + 22 + 1 + w1 := by omega
    have hng : ineg a = -a := ineg_ok (by omega)
    have an1 : a ≠ -1 := by omega
    have hadd : ∀ y : Int, F_Rdr_tasteIs_70 y (w2 : Int) (w1 : Int) (xn X) s7 = some (1, hset (hset (hset s7 (xn X + 22 + 1 + w1) w2 y) (xn X + 35) (12 * w1 + w2) 1) (xn X) 17 (iadd (s7 (xn X) 17) 1)) := fun y => by
      have e2 : iadd (imul (w1 : Int) 12) (w2 : Int) = ((12 * w1 + w2 : Nat) : Int) := by
        rw [imul_ok (by omega), iadd_ok (by omega)]
        omega
      unfold F_Rdr_tasteIs_70 F_Net_addTaste
      rw [gd_pos hnet.2, gd_pos b1, gd_pos b2, lt_eq, e2, gd_pos b3, lt_eq, lt_eq, cl2_some, z1_eq (Or.inr rfl), Int.toNat_natCast, Int.toNat_natCast, Int.toNat_natCast, hset_obj _ _ _ _ o1, hset_obj _ _ _ _ o2]
    have hG : F_Rdr_tasteIs_36 x s6 = some (1, hset (hset (hset s7 (xn X + 22 + 1 + w1) w2 (if x = 0 then a else -a)) (xn X + 35) (12 * w1 + w2) 1) (xn X) 17 (iadd (s7 (xn X) 17) 1)) := by
      unfold F_Rdr_tasteIs_36
      rw [e1, cl2_some, if_neg an1, lt_eq, hnet.1, gd_pos hnet.2, k34, k35, hadd, hadd, hng]
      by_cases c : x = 0
      · rw [if_pos c, if_pos c]
      · rw [if_neg c, if_neg c]
    by_cases cmf : kX X (eX X p3) = -2
    · have hb5 := hh5.bad cmf
      refine ⟨1, _, t5, hG, ?_, Or.inr ⟨rfl, _, if x = 0 then a else -a, s7, t5, he.1, he.2, ?_, hC7, rfl, hh5, n5, Or.inl ⟨cmf, rfl⟩⟩⟩
      · unfold F_M_taste_139
        rw [m1, cl2_some, if_neg (by omega)]
      · by_cases c : x = 0
        · rw [if_pos c]; omega
        · rw [if_neg c]; omega
    · have T5 := hh5.tk hX hp4 cmf
      have t531 : t5 0 31 = (xb X : Int) := by rw [n5.2 31 (by unfold nxI; decide)]; exact h31
      refine ⟨1, _, _, hG, ?_, Or.inr ⟨rfl, _, if x = 0 then a else -a, s7, t5, he.1, he.2, ?_, hC7, rfl, hh5, n5, Or.inr ⟨cmf, rfl⟩⟩⟩
      · unfold F_M_taste_139 F_M_taste_178
        rw [m1, cl2_some, if_pos (by rw [T5.f8.1]; decide), gd_pos hy, lt_eq, z1_eq (Or.inr rfl), Int.toNat_natCast, gd_pos hy, gd_pos hy, hng]
        by_cases c : x = 0
        · rw [if_pos c, if_pos c, lt_eq, hset_obj (q := 15) (q' := 0) _ _ _ (by decide), hset_obj (q := 16) (q' := 0) _ _ _ (by decide), t531, gd_pos hb, gd_pos hb, Int.toNat_natCast, hset_obj (q := 15) (q' := 4) _ _ _ (by decide), hset_obj (q := 16) (q' := 4) _ _ _ (by decide), lt_eq]
        · rw [if_neg c, if_neg c, lt_eq, hset_obj (q := 15) (q' := 0) _ _ _ (by decide), hset_obj (q := 16) (q' := 0) _ _ _ (by decide), t531, gd_pos hb, gd_pos hb, Int.toNat_natCast, hset_obj (q := 15) (q' := 4) _ _ _ (by decide), hset_obj (q := 16) (q' := 4) _ _ _ (by decide), lt_eq]
      · by_cases c : x = 0
        · rw [if_pos c]; omega
        · rw [if_neg c]; omega
  · obtain ⟨s7, u, z, e1, hf, m1, hcf⟩ := hnu.1 c281
    refine ⟨0, s7, u, ?_, ?_, Or.inl ⟨rfl, hf, hcf⟩⟩
    · unfold F_Rdr_tasteIs_36
      rw [e1, cl2_some, if_pos rfl]
    · unfold F_M_taste_139
      rw [m1, cl2_some, if_neg (by have := hcf.2.1; omega)]
end TasteB
