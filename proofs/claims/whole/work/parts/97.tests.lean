/-! both sides: sums and tests, all of them -/
section TestB
variable {X : Cx}
def nts : Nat → List Op
  | 0 => []
  | i + 1 => (18, fun _ => 0) :: nts i
theorem ntV2 (V : FV) : ntV (ntV V) = V := by
  funext day
  unfold ntV
  omega
theorem VB.nt {V : FV} (h : VB V) : VB (ntV V) := fun day hd => by
  have := h day hd
  unfold b01 at this ⊢
  unfold ntV
  omega
theorem nts_fld : ∀ (i : Nat) (V : FV), fld (nts i) V = if i % 2 = 0 then V else ntV V
  | 0, V => rfl
  | i + 1, V => by
    show fld (nts i) (ap (18, fun _ => 0) V) = _
    have e : ap (18, fun _ => 0) V = ntV V := if_pos rfl
    rw [e, nts_fld i (ntV V)]
    by_cases c : i % 2 = 0
    · rw [if_pos c, if_neg (by omega)]
    · rw [if_neg c, if_pos (by omega), ntV2]
theorem nts_wf : ∀ (i : Nat) {V : FV}, VB V → wfO (nts i) V
  | 0, _, h => h.vr
  | i + 1, V, h => ⟨h.vr, Or.inl ⟨rfl, h⟩, by
    have e : ap (18, fun _ => 0) V = ntV V := if_pos rfl
    rw [e]
    exact nts_wf i h.nt⟩
theorem nts_rk : ∀ (i : Nat), rkG 3 (nts i)
  | 0 => True.intro
  | i + 1 => ⟨by show (3 : Int) ≤ rk 18; decide, nts_rk i⟩
theorem nts_hd {O : List Op} (h : hdL 3 O) : ∀ (i : Nat), hdL 5 (nts i ++ O)
  | 0 => hdL_le (by decide) O h
  | i + 1 => by show rk 18 < 5; decide
theorem fact_core {o : Nat} {rec : Nat → Int → Hp → Option (Int × Hp)} (hX : FX X) (ho : o ≤ 8) (hrec0 : o < 8 → SPg X (rec 0 (iadd (o : Int) 1)) 0 (o + 1)) (hrec3 : SPg X (rec 3 (o : Int)) 3 o) {s t : Hp} {x x2 : Int} {p c e : Nat} {Ws : List FV} {F : Int} {base : Nat} {B : List FV} {O : List Op} (hC : CSt X s p c Ws) (hce : c + e ≤ p) (hK : KSt X t x t p 0 (o + 1) F 0 1 base B O []) (hF : F = 1 ∨ F = 5) (hlen : Ws.length + 3 * (8 - o) + 4 ≤ 64) (hhd : hdL 5 O) (hk : kX X p ≠ 266) : FCo X rec o x2 s p e Ws x t (o + 1) F base B O := by
  by_cases c1 : kX X p = 91
  · rcases hK.2.2 with ⟨y1, _⟩ | ⟨hx1, hP1, h411⟩
    · omega
    subst hx1
    exact fact_sq hX ho hrec0 hC hce ⟨hK.1, hP1, h411⟩ hF hlen c1
  by_cases c2 : kX X p = 267
  · rcases hK.2.2 with ⟨y1, _⟩ | ⟨hx1, hP1, h411⟩
    · omega
    subst hx1
    exact fact_all hX hC hce ⟨hK.1, hP1, h411⟩ hF hlen c2
  exact fact_two hX hrec3 hC hce hK hF hlen hhd ⟨hk, c1, c2⟩
theorem SP_fact {o : Nat} {rec : Nat → Int → Hp → Option (Int × Hp)} (hX : FX X) (ho : o ≤ 8) (hrec0 : o < 8 → SPg X (rec 0 (iadd (o : Int) 1)) 0 (o + 1)) (hrec3 : SPg X (rec 3 (o : Int)) 3 o) : SPg X (F_Rdr_fact rec (o : Int)) 2 o := by
  intro s t x p c e Ws F ph bg base B O hC hce hK hpre hhd hlen
  have hN := hX.2.1
  obtain ⟨hF, hph, hbg⟩ : (F = 1 ∨ F = 5) ∧ ph = 0 ∧ bg = 1 := hpre
  subst hph hbg
  show wp (F_Rdr_fact rec (o : Int) s) _
  unfold F_Rdr_fact F_Rdr_fact_4
  refine wp_loop (fun a => ∃ (i p' m : Nat) (x' : Int) (t' : Hp), a.2.1 = (i : Int) ∧ a.1 = ((i % 2 : Nat) : Int) ∧ CSt X a.2.2 p' c Ws ∧ c + e + i ≤ p' ∧ p + 3 * i ≤ p' ∧ m + p ≤ p' ∧ (kX X p' ≠ -2 → kX X p ≠ -2) ∧ LSt X m x t x' t' ∧ KSt X t x' t' p' 0 (o + 1) F 0 1 base B (nts i ++ O) []) (fun a => 900 - a.2.1.toNat) ?_ _ _ ⟨0, p, 0, x, t, rfl, rfl, hC, by omega, by omega, by omega, fun h => h, LSt_0, hK⟩ (by rw [FU_eq]; dsimp only; omega)
  rintro ⟨x2, x3, σ⟩ k ⟨i, p', m, x', t', h3, h2, hC', hce', hpi, hm, hmf, hLS, hK'⟩ hk
  dsimp only at h3 h2 hC' hk ⊢
  subst h3 h2
  have hp' := hC'.2.2.2.2
  have h33 := hC'.k
  unfold F_Rdr_fact_4_b
  rw [if_neg (by omega), h33]
  by_cases c266 : kX X p' = 266
  · rw [if_pos c266]
    have he := eX_ok hX hp' (by omega)
    have he3 := en_not hX hp' c266
    obtain ⟨s1, e1, hC1⟩ := hC'.step hX (by omega)
    rcases hK'.2.2 with ⟨y1, _⟩ | ⟨hx1, hP1, h411⟩
    · omega
    subst hx1
    obtain ⟨x1, t1, hL1, hK1⟩ := R_not hX ⟨hK'.1, hP1, h411⟩ hF c266 he3
    have e2 : iadd (i : Int) 1 = ((i + 1 : Nat) : Int) := by rw [iadd_ok (by omega)]; omega
    have step : ∀ v : Int, v = (((i + 1) % 2 : Nat) : Int) → wp (F_Rdr_fact_30 rec k o i v σ) (fun z s' => (z = 0 ∧ ∃ k pl, CF X s' k pl ∧ FOt X x t p k pl) ∨ (z = 1 ∧ SUC X 0 (rkn 2) (exN 2 0) p e Ws x t (o + 1) F base B O s')) := by
      intro v hv
      unfold F_Rdr_fact_30
      rw [e1, cl2_some, e2, lt_eq]
      clear e2
      refine hk _ ⟨i + 1, eX X p', m + 1, x1, t1, rfl, hv, hC1, by omega, by omega, by omega, fun _ => hmf (by omega), LSt_trans hLS hL1, hK1.of hK'.2.1⟩ (by dsimp only; omega)
    clear e2
    by_cases c : i % 2 = 0
    · rw [if_pos (by omega)]
      exact step 1 (by omega)
    · rw [if_neg (by omega)]
      exact step 0 (by omega)
  · rw [if_neg c266]
    have hcore := fact_core hX ho hrec0 hrec3 (x2 := ((i % 2 : Nat) : Int)) (e := e + i) hC' (by omega) hK'.self hF (by omega) (nts_hd hhd i) c266
    rcases hcore with ⟨s1, e1, k1, pl, hcf, hfo⟩ | ⟨s1, e1, hm0, p1, c1, V, m1, x1, t1, O1, Xv, ph', hC1, hce1, hvp, hm1, hLS1, hK1, hw, hf, hr, hex⟩
    · exact wp_of e1 (Or.inl ⟨rfl, k1, pl, hcf, FOt_more hLS hm hfo⟩)
    · rw [e1]
      have hvb : VB V := hex.1.1
      have hsuc : ∀ {s2 : Hp} {c2 : Nat}, CSt X s2 p1 c2 (Ws ++ [if i % 2 = 0 then V else ntV V]) → c2 + e ≤ p1 → SUC X 0 (rkn 2) (exN 2 0) p e Ws x t (o + 1) F base B O s2 := by
        intro s2 c2 hC2 hce2
        refine ⟨hmf hm0, p1, c2, if i % 2 = 0 then V else ntV V, m + m1, x1, t1, O1 ++ nts i, Xv, ph', hC2, hce2, by omega, by omega, LSt_trans hLS hLS1, ?_, ?_, ?_, ?_, exN2 ?_ hex.1.2⟩
        · rw [List.append_assoc]
          exact hK1.of hK'.2.1
        · exact wfO_app O1 _ Xv hw (by rw [hf]; exact nts_wf i hvb)
        · rw [fld_app, hf, nts_fld]
        · exact rkG_app O1 _ hr (nts_rk i)
        · by_cases c : i % 2 = 0
          · rw [if_pos c]; exact hvb
          · rw [if_neg c]; exact hvb.nt
      unfold F_Rdr_fact_168 F_Rdr_fact_182
      by_cases c : i % 2 = 0
      · rw [if_pos (by omega)]
        exact wp_ret (Or.inr ⟨rfl, hsuc (by rw [if_pos c]; exact hC1) (by omega)⟩)
      · rw [if_neg (by omega)]
        have hnet := hC1.net hX
        have hp1 := hC1.2.2.2.2
        obtain ⟨s2, e2, hC2⟩ := hC1.emit hX (by omega) (-266) (Ws' := Ws ++ [ntV V]) (fun s' a1 a2 => RC_not hnet.2 hC1.2.2.2.1 (by omega) (by omega) hvb a1 a2)
        rw [lt_eq, hnet.1, gd_pos hnet.2, e2, cl2_some]
        exact wp_ret (Or.inr ⟨rfl, hsuc (by rw [if_neg c]; exact hC2) (by omega)⟩)
theorem SP_prod {o : Nat} {rec : Nat → Int → Hp → Option (Int × Hp)} (hX : FX X) (hrec : SPg X (rec 5 (o : Int)) 5 o) : SPg X (F_Rdr_product rec (o : Int)) 4 o := by
  refine SP_loop (n := 4) (rec := rec) (oi := (o : Int)) (body := fun k12 a => F_Rdr_product_12_b rec k12 o a.1 a.2) hX (Or.inl rfl) hrec (fun s => rfl) (fun k x2 σ hx hs => ?_) (fun k x2 σ hx hs => ?_)
  · have hs' : ¬ (σ 3 3 = 42 ∨ σ 3 3 = 47 ∨ σ 3 3 = 37) := hs
    dsimp only
    unfold F_Rdr_product_12_b F_Rdr_product_80
    rw [if_neg (by omega), if_neg (by omega), if_neg (by omega), if_neg (by omega)]
  · have hs' : σ 3 3 = 42 ∨ σ 3 3 = 47 ∨ σ 3 3 = 37 := hs
    have hng := (sgn_k (n := 4) (Or.inl rfl) hs).2.1
    have h46 : F_Rdr_product_46 rec k (o : Int) x2 σ = cl2 (F_Rdr_step σ) fun _ s4 => cl2 (rec (4 + 1) (o : Int) s4) fun v6 s7 => if v6 = 0 then some (0, s7) else gd (isNet (s7 3 1).toNat) (cl2 (F_Net_emit (s7 3 1).toNat (-(σ 3 3)) s7) fun _ s13 => k (iadd x2 1, s13)) := by
      unfold F_Rdr_product_46
      rw [lt_eq, hng]
      rfl
    rw [← h46]
    dsimp only
    unfold F_Rdr_product_12_b
    rw [if_neg (by omega)]
    by_cases d1 : σ 3 3 = 42
    · rw [if_pos d1]
    by_cases d2 : σ 3 3 = 47
    · rw [if_neg d1, if_pos d2]
    · rw [if_neg d1, if_neg d2, if_pos (by omega)]
theorem SP_sum {o : Nat} {rec : Nat → Int → Hp → Option (Int × Hp)} (hX : FX X) (hrec : SPg X (rec 4 (o : Int)) 4 o) : SPg X (F_Rdr_sum rec (o : Int)) 3 o := by
  refine SP_loop (n := 3) (rec := rec) (oi := (o : Int)) (body := fun k12 a => F_Rdr_sum_12_b rec k12 o a.1 a.2) hX (Or.inr (Or.inl rfl)) hrec (fun s => rfl) (fun k x2 σ hx hs => ?_) (fun k x2 σ hx hs => ?_)
  · have hs' : ¬ (σ 3 3 = 43 ∨ σ 3 3 = 45) := hs
    dsimp only
    unfold F_Rdr_sum_12_b F_Rdr_sum_71
    rw [if_neg (by omega), if_neg (by omega), if_neg (by omega)]
  · have hs' : σ 3 3 = 43 ∨ σ 3 3 = 45 := hs
    have hng := (sgn_k (n := 3) (Or.inr (Or.inl rfl)) hs).2.1
    have h37 : F_Rdr_sum_37 rec k (o : Int) x2 σ = cl2 (F_Rdr_step σ) fun _ s4 => cl2 (rec (3 + 1) (o : Int) s4) fun v6 s7 => if v6 = 0 then some (0, s7) else gd (isNet (s7 3 1).toNat) (cl2 (F_Net_emit (s7 3 1).toNat (-(σ 3 3)) s7) fun _ s13 => k (iadd x2 1, s13)) := by
      unfold F_Rdr_sum_37
      rw [lt_eq, hng]
      rfl
    rw [← h37]
    dsimp only
    unfold F_Rdr_sum_12_b
    rw [if_neg (by omega)]
    by_cases d1 : σ 3 3 = 43
    · rw [if_pos d1]
    · rw [if_neg d1, if_pos (by omega)]
theorem SP_both {o : Nat} {rec : Nat → Int → Hp → Option (Int × Hp)} (hX : FX X) (hrec : SPg X (rec 2 (o : Int)) 2 o) : SPg X (F_Rdr_both rec (o : Int)) 1 o := by
  refine SP_loop (n := 1) (rec := rec) (oi := (o : Int)) (body := fun k12 a => F_Rdr_both_12_b rec k12 o a.1 a.2) hX (Or.inr (Or.inr (Or.inl rfl))) hrec (fun s => rfl) (fun k x2 σ hx hs => ?_) (fun k x2 σ hx hs => ?_)
  · have hs' : ¬ (σ 3 3 = 265) := hs
    dsimp only
    unfold F_Rdr_both_12_b F_Rdr_both_59
    rw [if_neg (by omega), if_neg hs']
  · have hs' : σ 3 3 = 265 := hs
    dsimp only
    unfold F_Rdr_both_12_b
    rw [if_neg (by omega), if_pos hs', hs']
    rfl
theorem SP_test {o : Nat} {rec : Nat → Int → Hp → Option (Int × Hp)} (hX : FX X) (hrec : SPg X (rec 1 (o : Int)) 1 o) : SPg X (F_Rdr_test rec (o : Int)) 0 o := by
  refine SP_loop (n := 0) (rec := rec) (oi := (o : Int)) (body := fun k12 a => F_Rdr_test_12_b rec k12 o a.1 a.2) hX (Or.inr (Or.inr (Or.inr rfl))) hrec (fun s => rfl) (fun k x2 σ hx hs => ?_) (fun k x2 σ hx hs => ?_)
  · have hs' : ¬ (σ 3 3 = 264) := hs
    dsimp only
    unfold F_Rdr_test_12_b F_Rdr_test_59
    rw [if_neg (by omega), if_neg hs']
  · have hs' : σ 3 3 = 264 := hs
    dsimp only
    unfold F_Rdr_test_12_b
    rw [if_neg (by omega), if_pos hs', hs']
    rfl
theorem iadd_up {o : Nat} (h : o < 8) : iadd (o : Int) 1 = ((o + 1 : Nat) : Int) := by
  rw [iadd_ok (by omega)]
  omega
theorem rd_gen (d n : Nat) (o : Int) (σ : Hp) : F_rd (d + 1) n o σ = (match n with
    | 0 => F_Rdr_test (F_rd d) o σ
    | 1 => F_Rdr_both (F_rd d) o σ
    | 2 => F_Rdr_fact (F_rd d) o σ
    | 3 => F_Rdr_sum (F_rd d) o σ
    | 4 => F_Rdr_product (F_rd d) o σ
    | _ => F_Rdr_part (F_rd d) o σ) := rfl
theorem rd_aux {α : Type} (n : Nat) (A B C D E P : α) (h : n = 2) : (match n with
    | 0 => A
    | 1 => B
    | 2 => C
    | 3 => D
    | 4 => E
    | _ => P) = C := by
  subst h
  rfl
theorem rd_0 (d : Nat) (o : Int) : F_rd (d + 1) 0 o = F_Rdr_test (F_rd d) o := rfl
theorem rd_1 (d : Nat) (o : Int) : F_rd (d + 1) 1 o = F_Rdr_both (F_rd d) o := rfl
theorem rd_2 (d : Nat) (o : Int) : F_rd (d + 1) 2 o = F_Rdr_fact (F_rd d) o := by
  funext σ
  exact (rd_gen d 2 o σ).trans (rd_aux 2 (F_Rdr_test (F_rd d) o σ) (F_Rdr_both (F_rd d) o σ) (F_Rdr_fact (F_rd d) o σ) (F_Rdr_sum (F_rd d) o σ) (F_Rdr_product (F_rd d) o σ) (F_Rdr_part (F_rd d) o σ) rfl)
theorem rd_3 (d : Nat) (o : Int) : F_rd (d + 1) 3 o = F_Rdr_sum (F_rd d) o := rfl
theorem rd_4 (d : Nat) (o : Int) : F_rd (d + 1) 4 o = F_Rdr_product (F_rd d) o := rfl
theorem rd_5 (d : Nat) (o : Int) : F_rd (d + 1) 5 o = F_Rdr_part (F_rd d) o := rfl
def SPd (X : Cx) (d : Nat) : Prop := ∀ (n o : Nat), n ≤ 5 → o ≤ 8 → 3 * (8 - o) + (6 - n) ≤ d → SPg X (F_rd d n (o : Int)) n o
theorem SP_s0 (hX : FX X) {d o : Nat} (ih : SPd X d) (ho : o ≤ 8) (hd : 3 * (8 - o) + 6 ≤ d + 1) : SPg X (F_rd (d + 1) 0 (o : Int)) 0 o := by
  rw [rd_0]
  exact SP_test hX (ih 1 o (by omega) ho (by omega))
theorem SP_s1 (hX : FX X) {d o : Nat} (ih : SPd X d) (ho : o ≤ 8) (hd : 3 * (8 - o) + 5 ≤ d + 1) : SPg X (F_rd (d + 1) 1 (o : Int)) 1 o := by
  rw [rd_1]
  exact SP_both hX (ih 2 o (by omega) ho (by omega))
theorem SP_s2 (hX : FX X) {d o : Nat} (ih : SPd X d) (ho : o ≤ 8) (hd : 3 * (8 - o) + 4 ≤ d + 1) : SPg X (F_rd (d + 1) 2 (o : Int)) 2 o := by
  rw [rd_2]
  refine SP_fact hX ho (fun h => ?_) (ih 3 o (by omega) ho (by omega))
  rw [iadd_up h]
  exact ih 0 (o + 1) (by omega) h (by omega)
theorem SP_s3 (hX : FX X) {d o : Nat} (ih : SPd X d) (ho : o ≤ 8) (hd : 3 * (8 - o) + 3 ≤ d + 1) : SPg X (F_rd (d + 1) 3 (o : Int)) 3 o := by
  rw [rd_3]
  exact SP_sum hX (ih 4 o (by omega) ho (by omega))
theorem SP_s4 (hX : FX X) {d o : Nat} (ih : SPd X d) (ho : o ≤ 8) (hd : 3 * (8 - o) + 2 ≤ d + 1) : SPg X (F_rd (d + 1) 4 (o : Int)) 4 o := by
  rw [rd_4]
  exact SP_prod hX (ih 5 o (by omega) ho (by omega))
theorem SP_s5 (hX : FX X) {d o : Nat} (ih : SPd X d) (ho : o ≤ 8) (hd : 3 * (8 - o) + 1 ≤ d + 1) : SPg X (F_rd (d + 1) 5 (o : Int)) 5 o := by
  rw [rd_5]
  refine SP_part hX ho (fun h => ?_)
  rw [iadd_up h]
  exact ih 3 (o + 1) (by omega) h (by omega)
theorem SP_all (hX : FX X) (d : Nat) : SPd X d := by
  induction d with
  | zero => intro n o hn ho hd; exact absurd hd (by omega)
  | succ d ih =>
    intro n o hn ho hd
    have h6 : n = 0 ∨ n = 1 ∨ n = 2 ∨ n = 3 ∨ n = 4 ∨ n = 5 := by omega
    rcases h6 with e | e | e | e | e | e
    · subst e; exact SP_s0 hX ih ho (by omega)
    · subst e; exact SP_s1 hX ih ho (by omega)
    · subst e; exact SP_s2 hX ih ho (by omega)
    · subst e; exact SP_s3 hX ih ho (by omega)
    · subst e; exact SP_s4 hX ih ho (by omega)
    · subst e; exact SP_s5 hX ih ho (by omega)
end TestB
