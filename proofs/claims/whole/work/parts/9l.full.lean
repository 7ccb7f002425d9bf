/-! too many of a kind: the check -/
section Full
variable {X : Cx} {t : Hp} {p : Nat}
theorem counts_full (T : TK X t p) : F_M_counts 1 t = some (0, BL X t p 5) := by
  unfold F_M_counts F_M_counts_13 F_M_counts_24
  rw [if_neg (by decide), T.bl, cl2_some, if_neg (by rw [BL_8.1]; decide)]
theorem who_full (T : TK X t p) {b : Nat} (hb : b < 2) (h31 : t 0 31 = (b : Int)) (h : t 2 b = 12) : F_M_who t = some (0, BL X t p 5) := by
  have hb2 : (0 : Int) ≤ (b : Int) ∧ (b : Int) < 2 := by omega
  unfold F_M_who F_M_who_20
  rw [h31, gd_pos hb2, Int.toNat_natCast, if_pos h, counts_full T, cl2_some, if_neg (by rw [BL_8.1]; decide)]
theorem road_full (T : TK X t p) {b : Nat} (hb : b < 2) (h31 : t 0 31 = (b : Int)) (h : t 3 b = 30) : F_M_road t = some (0, BL X t p 5) := by
  have hb2 : (0 : Int) ≤ (b : Int) ∧ (b : Int) < 2 := by omega
  unfold F_M_road F_M_road_20
  rw [h31, gd_pos hb2, Int.toNat_natCast, if_pos h, counts_full T, cl2_some, if_neg (by rw [BL_8.1]; decide)]
theorem taste_full (T : TK X t p) {b : Nat} (hb : b < 2) (h31 : t 0 31 = (b : Int)) (h : t 4 b = 24) : F_M_taste t = some (0, BL X t p 5) := by
  have hb2 : (0 : Int) ≤ (b : Int) ∧ (b : Int) < 2 := by omega
  unfold F_M_taste F_M_taste_20
  rw [h31, gd_pos hb2, Int.toNat_natCast, if_pos h, counts_full T, cl2_some, if_neg (by rw [BL_8.1]; decide)]
theorem doubt_full (T : TK X t p) {b : Nat} (hb : b < 2) (h31 : t 0 31 = (b : Int)) (h : t 5 b = 24) : F_M_doubt t = some (0, BL X t p 5) := by
  have hb2 : (0 : Int) ≤ (b : Int) ∧ (b : Int) < 2 := by omega
  unfold F_M_doubt F_M_doubt_20
  rw [h31, gd_pos hb2, Int.toNat_natCast, if_pos h, counts_full T, cl2_some, if_neg (by rw [BL_8.1]; decide)]
end Full
