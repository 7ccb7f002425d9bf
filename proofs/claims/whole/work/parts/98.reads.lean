/-! both sides: a sum or a test, from its first word to what stands behind it -/
section ReadsB
variable {X : Cx} {s t u : Hp} {p c : Nat}
theorem LSt_run {n : Nat} {x' : Int} {t' : Hp} (h : LSt X n 1 t x' t') (h0 : x' = 0) (hn : n ≤ 2000) : F_M_reads_43 (xa X) FU (1, t) = some (0, t') := by
  subst h0
  have e : FU = (FU - n - 1 + 1) + n := by rw [FU_eq]; omega
  rw [e, h]
  unfold F_M_reads_43
  rw [loopF_s]
  dsimp only
  unfold F_M_reads_43_b
  rw [if_pos rfl]
theorem push_0 {a : Int} {v : Hp} (h37 : v 0 37 = 0) (h40 : v 0 40 = 0) : F_M_pushes a v = some (0, hset (hset (hset (hset (hset v 19 0 a) 20 0 0) 21 0 1) 23 0 0) 0 37 1) := by
  have hd : (0 : Int) ≤ 0 ∧ (0 : Int) < 20 := by decide
  have e2 : iadd 0 1 = 1 := by decide
  have t0 : (0 : Int).toNat = 0 := rfl
  unfold F_M_pushes
  simp only [lt_eq, hset_obj (q := 19) (q' := 0) _ _ _ (by decide), hset_obj (q := 20) (q' := 0) _ _ _ (by decide), hset_obj (q := 21) (q' := 0) _ _ _ (by decide), hset_obj (q := 23) (q' := 0) _ _ _ (by decide), h37, h40, e2, t0, z1_eq (Or.inr rfl : (1 : Int) = 0 ∨ (1 : Int) = 1)]
  rw [gd_pos hd, gd_pos hd, gd_pos hd, gd_pos hd]
/-- the beginning of a sum, of a test -/
theorem M_begin (hX : FX X) (hF : xa X = 0 ∨ xa X = 1) (hx : xmF (xP X) (xt X) t) (hT : TkM t (xf X) (xN X) p) (hp : p ≤ xN X) (h30 : t 0 30 = (xd X : Int)) (hcm : xd X ≤ p) (h31 : t 0 31 = xb X) : ∃ t0, F_M_reads (xa X) t = F_M_reads_43 (xa X) FU (1, t0) ∧ KSt X t0 1 t0 p 0 1 (xa X) 0 1 0 [] [] [] := by
  have hN := hX.2.1
  have e38 : F_M_reads (xa X) t = F_M_reads_38 (xa X) (xa X) (hset (hset (hset (hset t 0 37 0) 0 38 0) 0 40 0) 0 41 0) := by
    unfold F_M_reads
    rw [if_pos (by rw [hT.2.1.1]; decide), lt_eq, lt_eq, lt_eq, lt_eq]
    rcases hF with c | c
    · rw [c, if_pos rfl]
    · rw [c, if_neg (by decide)]
  have v0 : ∀ i, i ≠ 37 → i ≠ 38 → i ≠ 40 → i ≠ 41 → hset (hset (hset (hset t 0 37 0) 0 38 0) 0 40 0) 0 41 0 0 i = t 0 i := fun i h1 h2 h3 h4 => by rw [hset_get, if_neg (fun y => h4 y.2), hset_get, if_neg (fun y => h3 y.2), hset_get, if_neg (fun y => h2 y.2), hset_get, if_neg (fun y => h1 y.2)]
  have vq : ∀ q, q ≠ 0 → hset (hset (hset (hset t 0 37 0) 0 38 0) 0 40 0) 0 41 0 q = t q := fun q h => by rw [hset_obj _ _ _ _ h, hset_obj _ _ _ _ h, hset_obj _ _ _ _ h, hset_obj _ _ _ _ h]
  have v37 : hset (hset (hset (hset t 0 37 0) 0 38 0) 0 40 0) 0 41 0 0 37 = 0 := by rw [hset_get, if_neg (by decide), hset_get, if_neg (by decide), hset_get, if_neg (by decide), hset_same]
  have v38 : hset (hset (hset (hset t 0 37 0) 0 38 0) 0 40 0) 0 41 0 0 38 = 0 := by rw [hset_get, if_neg (by decide), hset_get, if_neg (by decide), hset_same]
  have v40 : hset (hset (hset (hset t 0 37 0) 0 38 0) 0 40 0) 0 41 0 0 40 = 0 := by rw [hset_get, if_neg (by decide), hset_same]
  have v41 : hset (hset (hset (hset t 0 37 0) 0 38 0) 0 40 0) 0 41 0 0 41 = 0 := hset_same _ _ _ _
  have vx : xmF (xP X) (xt X) (hset (hset (hset (hset t 0 37 0) 0 38 0) 0 40 0) 0 41 0) := xmF_set (xmF_set (xmF_set (xmF_set hx (by omega)) (by omega)) (by omega)) (by omega)
  generalize hset (hset (hset (hset t 0 37 0) 0 38 0) 0 40 0) 0 41 0 = v at e38 v0 vq v37 v38 v40 v41 vx
  have hp0 := push_0 (a := xa X) v37 v40
  have k0 : ∀ i, i ≠ 37 → hset (hset (hset (hset (hset v 19 0 (xa X)) 20 0 0) 21 0 1) 23 0 0) 0 37 1 0 i = v 0 i := fun i hi => by
    rw [hset_get, if_neg (fun y => hi y.2), hset_obj _ _ _ _ (by decide), hset_obj _ _ _ _ (by decide), hset_obj _ _ _ _ (by decide), hset_obj _ _ _ _ (by decide)]
  have k37 : hset (hset (hset (hset (hset v 19 0 (xa X)) 20 0 0) 21 0 1) 23 0 0) 0 37 1 0 37 = 1 := hset_same _ _ _ _
  have k19 : hset (hset (hset (hset (hset v 19 0 (xa X)) 20 0 0) 21 0 1) 23 0 0) 0 37 1 19 0 = xa X := by
    rw [hset_obj _ _ _ _ (by decide), hset_obj _ _ _ _ (by decide), hset_obj _ _ _ _ (by decide), hset_obj _ _ _ _ (by decide), hset_same]
  have k20 : hset (hset (hset (hset (hset v 19 0 (xa X)) 20 0 0) 21 0 1) 23 0 0) 0 37 1 20 0 = 0 := by
    rw [hset_obj _ _ _ _ (by decide), hset_obj _ _ _ _ (by decide), hset_obj _ _ _ _ (by decide), hset_same]
  have k21 : hset (hset (hset (hset (hset v 19 0 (xa X)) 20 0 0) 21 0 1) 23 0 0) 0 37 1 21 0 = 1 := by
    rw [hset_obj _ _ _ _ (by decide), hset_obj _ _ _ _ (by decide), hset_same]
  have k23 : hset (hset (hset (hset (hset v 19 0 (xa X)) 20 0 0) 21 0 1) 23 0 0) 0 37 1 23 0 = 0 := by
    rw [hset_obj _ _ _ _ (by decide), hset_same]
  have kx : xmF (xP X) (xt X) (hset (hset (hset (hset (hset v 19 0 (xa X)) 20 0 0) 21 0 1) 23 0 0) 0 37 1) := xmF_set (xmF_set (xmF_set (xmF_set (xmF_set vx (by omega)) (by omega)) (by omega)) (by omega)) (by omega)
  refine ⟨_, by rw [e38]; unfold F_M_reads_38; rw [hp0, cl2_some], kx, lwF_rfl, Or.inr ⟨rfl, ⟨?_, ?_, ⟨k37, ?_, by decide, by decide⟩, ⟨k19, k20, k21, k23⟩, ⟨?_, True.intro⟩, ⟨xd X, ?_, RM_nil (by omega), hcm⟩, by show 2 * (0 + 0) + 0 ≤ p; omega, hp, hp⟩, ?_⟩⟩
  · exact TkM_congr hT (fun i h1 h2 => by rw [k0 i (by omega), v0 i (by omega) (by omega) (by omega) (by omega)])
  · rw [k0 31 (by decide), v0 31 (by decide) (by decide) (by decide) (by decide)]; exact h31
  · rw [k0 38 (by decide), v38]; rfl
  · rw [k0 40 (by decide), v40]; rfl
  · rw [k0 30 (by decide), v0 30 (by decide) (by decide) (by decide) (by decide)]; exact h30
  · rw [k0 41 (by decide), v41]; rfl
/-- what a sum (a test) leaves -/
def RdOk (X : Cx) (p : Nat) (s' u : Hp) : Prop := ∃ (p' c' cm' : Nat) (V : FV), CSt X s' p' c' [V] ∧ c' ≤ p' ∧ p < p' ∧ VR V ∧ xmF (xP X) (xt X) u ∧ ((kX X p' = -2 ∧ u 0 8 = 1 ∧ u 0 9 = (sX X p' : Nat)) ∨ (TkM u (xf X) (xN X) p' ∧ u 0 30 = (cm' : Int) ∧ RM u (xb X) (xW X) (xlQ X) (xd X) cm' [V] ∧ cm' ≤ p'))
theorem reads_both (hX : FX X) {n0 : Nat} (hF : (xa X = 0 ∧ n0 = 3) ∨ (xa X = 1 ∧ n0 = 0)) (hC : CSt X s p c []) (hc : c ≤ p) (hx : xmF (xP X) (xt X) t) (hT : TkM t (xf X) (xN X) p) (h30 : t 0 30 = (xd X : Int)) (hcm : xd X ≤ p) (h31 : t 0 31 = xb X) :
    (∃ s' k pl u, F_rd 40 n0 0 s = some (0, s') ∧ CF X s' k pl ∧ F_M_reads (xa X) t = some (0, u) ∧ u 0 8 = k ∧ u 0 9 = pl ∧ 0 < k ∧ xmF (xP X) (xt X) u) ∨ (∃ s' u, F_rd 40 n0 0 s = some (1, s') ∧ F_M_reads (xa X) t = some (0, u) ∧ RdOk X p s' u) := by
  have hN := hX.2.1
  have hp := hC.2.2.2.2
  obtain ⟨t0, e0, hK⟩ := M_begin hX (by omega) hx hT hp h30 hcm h31
  have hS := SP_all hX 40 n0 0 (by omega) (by decide) (by omega)
  have hpre : preN n0 (xa X) 0 1 (kX X p) := by
    rcases hF with ⟨a, b⟩ | ⟨a, b⟩
    · subst b
      exact ⟨Or.inl rfl, Or.inr (Or.inl (by omega))⟩
    · subst b
      exact ⟨Or.inl a, rfl, rfl⟩
  have hz : (0 : Int) = ((0 : Nat) : Int) := rfl
  rcases SPg_at hS hC (e := 0) (by omega) hK hpre True.intro (by show 0 + 3 * (8 - 0) + (6 - n0) ≤ 64; omega) with ⟨s', e1, k, pl, hcf, n, u, hn, hL, h8, h9, hk, hxu⟩ | ⟨s', e1, hm0, p', c', V, m, x', t', O1, Xv, ph', hC', hce, hvp, hm, hLS, hK', hw, hf, hr, hex⟩
  · exact Or.inl ⟨s', k, pl, u, e1, hcf, by rw [e0, LSt_run hL rfl (by omega)], h8, h9, hk, hxu⟩
  · right
    have hp' := hC'.2.2.2.2
    have hvr : VR V := by
      rw [← hf]
      exact wfO_vr O1 Xv hw
    have hrk : 1 ≤ rkn n0 := by
      rcases hF with ⟨a, b⟩ | ⟨a, b⟩ <;> subst b <;> decide
    rcases hK'.2.2 with ⟨y1, y2, y3, y4⟩ | ⟨hx1, hP1, h411⟩
    · exact ⟨s', t', e1, by rw [e0, LSt_run hLS y2 (by omega)], p', c', 0, V, hC', by omega, by omega, hvr, hK'.1, Or.inl ⟨y1, y3, y4⟩⟩
    · subst hx1
      have hend : (¬ arK (kX X p') ∨ 2 ≤ ph') ∧ (xa X = 1 → ph' ≠ 0 ∧ kX X p' ≠ 264 ∧ kX X p' ≠ 265) := by
        rcases hF with ⟨a, b⟩ | ⟨a, b⟩
        · subst b
          exact ⟨Or.inl (fun y => (sgn_ar.mp y).elim (hex.2.1 (Or.inr rfl)) (hex.2.2.1 rfl)), fun y => absurd y (by omega)⟩
        · subst b
          have h1 : (ph' = 1 ∧ ¬ arK (kX X p')) ∨ ph' = 2 := hex.1.2
          refine ⟨?_, fun _ => ⟨by omega, fun y => hex.2.2.2.2 rfl y, fun y => hex.2.2.2.1 (by decide) y⟩⟩
          rcases h1 with y | y
          · exact Or.inl y.2
          · exact Or.inr (by omega)
      obtain ⟨u, hL2, hxu, hPu⟩ := R_end hX ⟨hK'.1, hP1, h411⟩ hw (rkG_le hrk O1 hr) (by omega) hend.1 hend.2
      obtain ⟨cm, c1, c2, c3⟩ := hPu.2.2.2.2.2.1
      rw [hf] at c2
      exact ⟨s', u, e1, by rw [e0, LSt_run (LSt_trans hLS hL2) rfl (by omega)], p', c', cm, V, hC', by omega, by omega, hvr, hxu, Or.inr ⟨hPu.1, c1, c2, by omega⟩⟩
end ReadsB
