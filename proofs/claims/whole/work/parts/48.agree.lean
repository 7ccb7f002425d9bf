/-! the class's and the check's ends agree -/
section Agree
variable {d : ND} {ow : Nat → Int} {n b this : Nat}
def hasE (d : ND) (ow : Nat → Int) : Prop := ∃ X, feasX d ow X
theorem hasE_cert (hd : NDok d) {v : Int} (hc : cert (dW d) (gpd d ow) v) : hasE d ow ↔ 2 * bR d ow 0 (2 ^ dW d - 1) = v :=
  ⟨fun ⟨_, hX⟩ => cert_of_feas hd hc hX, fun h => by
    obtain ⟨X, hX, _⟩ := feas_of_cert hd hc h
    exact ⟨X, hX⟩⟩
theorem hasE_bnd (hd : NDok d) {v : Int} (hc : cert (dW d) (gpd d ow) v) (hv : v ≤ 1439976) (h : hasE d ow) : ∃ X, feasX d ow X ∧ ∀ w, w < dW d → X w ≤ 2 * al d w + 1439976 := by
  obtain ⟨X, hX, hb⟩ := feas_of_cert hd hc ((hasE_cert hd hc).mp h)
  exact ⟨X, hX, fun w hw => by have := hb w hw; omega⟩
theorem dg_iff (hd : NDok d) (ho : owOk d ow) {v : Int} (hc : cert (dW d) (gpd d ow) v) (hv : v ≤ 1439976) : (dgOK (wM d ow) 24 ↔ hasE d ow) ∧ (hasE d ow → FWok I2 119998 24 (D2 d ow) 24 ∧ D1ok d ow) := by
  have hI := I2_v
  refine ⟨⟨fun h => ?_, fun h => ?_⟩, fun h => ?_⟩
  · have F2 := FW_all (I := I2) (L := 119998) (n := 24) (w := wM d ow) (by omega) (by omega) (by omega) (by omega) (fun a _ => wM_self a) (fun a b _ _ => (wM_rng hd ho a b).2.1) (fun a b _ _ => (wM_rng hd ho a b).2.2) (m := 24) (fun k hk a ha => h k hk a ha) 24 (Nat.le_refl _) (Nat.le_refl _)
    exact ⟨_, feas_of_D2 hd ho F2⟩
  · obtain ⟨X, hX, hb⟩ := hasE_bnd hd hc hv h
    intro k hk a ha
    have := (feas2 hd ho hX (v := 1439976) hb (by omega) k hk).1 a ha
    omega
  · obtain ⟨X, hX, hb⟩ := hasE_bnd hd hc hv h
    exact ⟨feas2 hd ho hX (v := 1439976) hb (by omega) 24 (Nat.le_refl _), D1ok_of hd ho hX hb (by omega)⟩
theorem C_hasE {s : Hp} (hd : NDok d) (ho : owOk d ow) (hp : isPlan this) (hN : NetC s n d) (hP : PlanC s this n d ow) (hT : TwOk s this d ow) :
    wp (F_Plan_hasEnds this s) (fun z t => (∃ v, cert (dW d) (gpd d ow) v ∧ v ≤ 1439976) ∧ (hasE d ow → z = 1) ∧ (¬ hasE d ow → z = 0) ∧ TwOk t this d ow ∧ (∀ q, q ≠ this → q < 91 ∨ 111 < q → t q = s q) ∧ ∀ i, i ≠ 8 → i ≠ 9 → t this i = s this i) := by
  refine wp_mono (C_hasEnds hd ho hp hN hP hT) (fun z t ht => ?_)
  obtain ⟨v, hv, hz, h9, h8, hf, hi⟩ := ht
  have e := hasE_cert hd hv.1
  refine ⟨⟨v, hv.1, hv.2.2⟩, fun h => ?_, fun h => ?_, fun _ => by rw [h8]; exact hv, hf, hi⟩
  · rw [hz, if_pos (e.mp h)]
  · rw [hz, if_neg (fun q => h (e.mpr q))]
theorem M_hasE {τ : Hp} (hd : NDok d) (hN : NetM τ b d) (ho : owOk d ow) (hV : ViewM1 τ d ow) {v : Int} (hc : cert (dW d) (gpd d ow) v) (hv : v ≤ 1439976) :
    wp (F_M_ends τ) (fun z s => endsF τ s ∧ (hasE d ow → z = 1 ∧ ∀ f t, f < 24 → t < 24 → s 38 (24 * f + t) = D2 d ow f t) ∧ (¬ hasE d ow → z = 0)) := by
  have e := (dg_iff hd ho hc hv).1
  exact wp_mono (M_ends hd hN ho hV) (fun z s hs => ⟨hs.1, fun h => hs.2.1 (e.mpr h), fun h => hs.2.2 (fun q => h (e.mp q))⟩)
theorem ixL {w : Nat} (hw : w < 12) : iadd (iadd (imul 24 (imul 2 (w : Int))) (imul 2 (w : Int))) 1 = ((24 * (2 * w) + (2 * w + 1) : Nat) : Int) := by
  rw [imul_ok (a := 2) (b := (w : Int)) (by omega), imul_ok (by omega), iadd_ok (a := 24 * (2 * (w : Int))) (by omega), iadd_ok (by omega)]
  omega
theorem ixG {w : Nat} (hw : w < 12) : iadd (imul 24 (iadd (imul 2 (w : Int)) 1)) (imul 2 (w : Int)) = ((24 * (2 * w + 1) + 2 * w : Nat) : Int) := by
  rw [imul_ok (a := 2) (b := (w : Int)) (by omega), iadd_ok (b := 1) (by omega), imul_ok (by omega), iadd_ok (by omega)]
  omega
theorem M_least_any {s : Hp} {w : Nat} (hw : w < 12) : F_M_leastOf w s = some (w32 (lneg (s 38 (24 * (2 * w) + (2 * w + 1)))), s) := by
  unfold F_M_leastOf
  rw [ixL hw, gd_pos (by omega), Int.toNat_natCast]
theorem M_greatest_any {s : Hp} {w : Nat} (hw : w < 12) : F_M_greatestOf w s = some (w32 (s 38 (24 * (2 * w + 1) + 2 * w)), s) := by
  unfold F_M_greatestOf
  rw [ixG hw, gd_pos (by omega), Int.toNat_natCast]
theorem endV_rng (hd : NDok d) (ho : owOk d ow) (hF : D1ok d ow) {w : Nat} (hw : w < dW d) (g : Int) : -20000000 ≤ endV d ow w g ∧ endV d ow w g ≤ 20000000 := by
  have u := D1u hd ho hF hw
  have a := hd.2.2.2.1 w hw
  unfold endV
  split <;> omega
theorem D2_end (hd : NDok d) (ho : owOk d ow) (hF : D1ok d ow) (F2 : FWok I2 119998 24 (D2 d ow) 24) {w : Nat} (hw : w < dW d) : -(D2 d ow (2 * w) (2 * w + 1)) = endV d ow w 0 ∧ D2 d ow (2 * w + 1) (2 * w) = endV d ow w 1 := by
  have u1 := unary hd ho hF.1 F2 (u := 2 * w + 1) (by omega)
  have u2 := unary hd ho hF.1 F2 (u := 2 * w) (by omega)
  have e1 : bar (2 * w + 1) = 2 * w := by unfold bar; split <;> omega
  have e2 : bar (2 * w) = 2 * w + 1 := by unfold bar; split <;> omega
  have e3 : sh d (2 * w + 1) = -al d w := by
    unfold sh
    rw [if_neg (by omega), show (2 * w + 1) / 2 = w by omega]
  have e4 : sh d (2 * w) = al d w := by
    unfold sh
    rw [if_pos (by omega), show (2 * w) / 2 = w by omega]
  rw [e1, e3] at u1
  rw [e2, e4] at u2
  unfold endV
  rw [if_pos rfl, if_neg (by decide)]
  omega
theorem M_least {s : Hp} (hd : NDok d) (ho : owOk d ow) (hF : D1ok d ow) (F2 : FWok I2 119998 24 (D2 d ow) 24) (hs : ∀ f t, f < 24 → t < 24 → s 38 (24 * f + t) = D2 d ow f t) {w : Nat} (hw : w < dW d) : F_M_leastOf w s = some (endV d ow w 0, s) := by
  have hW := hd.1
  have e := (D2_end hd ho hF F2 hw).1
  have r := endV_rng hd ho hF hw 0
  rw [M_least_any (by omega), hs _ _ (by omega) (by omega), lneg_ok (by omega), e, w32_id (by omega)]
theorem M_greatest {s : Hp} (hd : NDok d) (ho : owOk d ow) (hF : D1ok d ow) (F2 : FWok I2 119998 24 (D2 d ow) 24) (hs : ∀ f t, f < 24 → t < 24 → s 38 (24 * f + t) = D2 d ow f t) {w : Nat} (hw : w < dW d) : F_M_greatestOf w s = some (endV d ow w 1, s) := by
  have hW := hd.1
  have e := (D2_end hd ho hF F2 hw).2
  have r := endV_rng hd ho hF hw 1
  rw [M_greatest_any (by omega), hs _ _ (by omega) (by omega), e, w32_id (by omega)]
theorem endV_g (w : Nat) {g : Int} (h : g ≠ 0) : endV d ow w g = endV d ow w 1 := by
  unfold endV
  rw [if_neg h, if_neg (by decide)]
end Agree
