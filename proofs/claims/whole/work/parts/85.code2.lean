/-! the check's code, its ops held back -/
section Code2
variable {τ t : Hp} {b W : Nat} {al : Nat → Int}
def stkM (u : Hp) (Ws : List FV) (day : Nat) : Prop := ∀ k, k < Ws.length → u 28 k = gW Ws k day
def RM (t : Hp) (b W : Nat) (al : Nat → Int) (c0 c : Nat) (Ws : List FV) : Prop := c0 ≤ c ∧ c ≤ 900 ∧ Ws.length ≤ c - c0 ∧ ∀ (day : Nat) (u : Hp), day < 1000 → u 0 12 = b → u 0 42 = day → (∀ k, c0 ≤ k → k < c → u 17 (900 * b + k) = t 17 (900 * b + k) ∧ u 18 (900 * b + k) = t 18 (900 * b + k)) → (∀ w, w < W → u 7 (12 * b + w) = al w) → ∀ (a1 a2 : Int), (c : Int) ≤ a2 → a2 ≤ 900 → ∃ u', (∀ m, F_M_works_14 a1 a2 (m + (c - c0)) (0, ((900 * b + c0 : Nat) : Int), u) = F_M_works_14 a1 a2 m ((Ws.length : Int), ((900 * b + c : Nat) : Int), u')) ∧ stkM u' Ws day ∧ fr 28 28 u u'
theorem RM_nil {c : Nat} (hc : c ≤ 900) : RM t b W al c c [] := ⟨Nat.le_refl _, hc, Nat.zero_le _, fun day u _ _ _ _ _ a1 a2 _ _ => ⟨u, fun m => by rw [Nat.sub_self]; rfl, fun k h => absurd h (Nat.not_lt_zero _), fr_rfl⟩⟩
theorem RM_step {c0 c : Nat} {Ws Ws' : List FV} (hb : b < 2) (h : RM t b W al c0 c Ws) (hc : c < 900) (hl : Ws'.length ≤ Ws.length + 1) {t' : Hp} (ha : ∀ k, k < c → t' 17 (900 * b + k) = t 17 (900 * b + k) ∧ t' 18 (900 * b + k) = t 18 (900 * b + k))
    (hst : ∀ (day : Nat) (u : Hp), day < 1000 → u 0 12 = b → u 0 42 = day → u 17 (900 * b + c) = t' 17 (900 * b + c) → u 18 (900 * b + c) = t' 18 (900 * b + c) → (∀ w, w < W → u 7 (12 * b + w) = al w) → stkM u Ws day → Ws.length < 900 → ∀ (a1 a2 : Int), (c : Int) < a2 → a2 ≤ 900 → ∃ u', (∀ K, F_M_works_14_b K a1 a2 (Ws.length : Int) ((900 * b + c : Nat) : Int) u = K ((Ws'.length : Int), ((900 * b + c : Nat) : Int) + 1, u')) ∧ stkM u' Ws' day ∧ fr 28 28 u u') : RM t' b W al c0 (c + 1) Ws' := by
  have hc0 := h.1
  have hwl := h.2.2.1
  refine ⟨by omega, by omega, by omega, fun day u hd h12 h42 hu hal a1 a2 h2 h3 => ?_⟩
  obtain ⟨u1, e1, st1, ev1⟩ := h.2.2.2 day u hd h12 h42 (fun k k1 k2 => by rw [(hu k k1 (by omega)).1, (hu k k1 (by omega)).2]; exact ha k k2) hal a1 a2 (by omega) h3
  have k0 : ∀ q, q ≠ 28 → u1 q = u q := fun q hq => ev1 q (by omega)
  obtain ⟨u2, e2, st2, ev2⟩ := hst day u1 hd (by rw [k0 0 (by decide)]; exact h12) (by rw [k0 0 (by decide)]; exact h42) (by rw [k0 17 (by decide)]; exact (hu c hc0 (by omega)).1) (by rw [k0 18 (by decide)]; exact (hu c hc0 (by omega)).2) (fun w hw => by rw [k0 7 (by decide)]; exact hal w hw) st1 (by omega) a1 a2 (by omega) h3
  refine ⟨u2, fun m => ?_, st2, fr_trans ev1 ev2⟩
  have e : m + (c + 1 - c0) = (m + 1) + (c - c0) := by omega
  rw [e, e1 (m + 1)]
  unfold F_M_works_14
  rw [loopF_s]
  dsimp only
  rw [e2]
  have e9 : ((900 * b + c : Nat) : Int) + 1 = ((900 * b + (c + 1) : Nat) : Int) := by omega
  rw [e9]
theorem i900 {c : Nat} (hb : b < 2) {a2 : Int} (h : (c : Int) < a2 ∧ a2 ≤ 900) : ¬ iadd (imul 900 (b : Int)) a2 ≤ ((900 * b + c : Nat) : Int) := by
  rw [imul_ok (by omega), iadd_ok (by omega)]
  omega
theorem RM_leaf {c0 c : Nat} {Ws : List FV} {V : FV} (hb : b < 2) (h : RM t b W al c0 c Ws) (hc : c < 900) {t' : Hp} (ha : ∀ k, k < c → t' 17 (900 * b + k) = t 17 (900 * b + k) ∧ t' 18 (900 * b + k) = t 18 (900 * b + k)) (hop : 0 ≤ t' 17 (900 * b + c) ∧ t' 17 (900 * b + c) ≤ 5)
    (hv : ∀ (day : Nat) (u : Hp), day < 1000 → u 0 12 = b → u 0 42 = day → (∀ w, w < W → u 7 (12 * b + w) = al w) → F_M_leaf (t' 17 (900 * b + c)) (t' 18 (900 * b + c)) u = some (V day, u)) : RM t' b W al c0 (c + 1) (Ws ++ [V]) := by
  refine RM_step hb h hc (by rw [lenW]; omega) ha (fun day u hd h12 h42 h17 h18 hal hst hw a1 a2 h2 h3 => ?_)
  refine ⟨hset u 28 Ws.length (V day), fun K => ?_, fun k hk => ?_, fr_set fr_rfl (by omega)⟩
  · unfold F_M_works_14_b F_M_works_127
    rw [h12, if_neg (i900 hb ⟨h2, h3⟩), gd_pos (by omega), Int.toNat_natCast, h17, lt_eq, if_neg (by omega), gd_pos (by omega), h18, hv day u hd h12 h42 hal, cl2_some, gd_pos (by omega), lt_eq, Int.toNat_natCast, iadd_ok (by omega), lt_eq, iadd_ok (by omega), lt_eq, lenW]
    rfl
  · rw [lenW] at hk
    rw [hset_row]
    dsimp only
    by_cases e : k = Ws.length
    · rw [if_pos e, e, gW_new]
    · rw [if_neg e, gW_old (by omega)]
      exact hst k (by omega)
theorem RM_not {c0 c : Nat} {Ws : List FV} {V : FV} (hb : b < 2) (h : RM t b W al c0 c (Ws ++ [V])) (hc : c < 900) (hv : VR V) {t' : Hp} (ha : ∀ k, k < c → t' 17 (900 * b + k) = t 17 (900 * b + k) ∧ t' 18 (900 * b + k) = t 18 (900 * b + k)) (hop : t' 17 (900 * b + c) = 18) : RM t' b W al c0 (c + 1) (Ws ++ [ntV V]) := by
  refine RM_step hb h hc (by rw [lenW, lenW]; omega) ha (fun day u hd h12 h42 h17 h18 hal hst hw a1 a2 h2 h3 => ?_)
  have hr := hv day hd
  obtain ⟨r1, r2⟩ := hr
  rw [lenW] at hw
  have e28 : u 28 Ws.length = V day := by rw [hst _ (by rw [lenW]; omega), gW_new]
  refine ⟨hset u 28 Ws.length (1 - V day), fun K => ?_, fun k hk => ?_, fr_set fr_rfl (by omega)⟩
  · have e1 : isub ((Ws ++ [V]).length : Int) 1 = (Ws.length : Int) := by
      rw [lenW, isub_ok (by omega)]
      omega
    unfold F_M_works_14_b F_M_works_127
    rw [h12, if_neg (i900 hb ⟨h2, h3⟩), gd_pos (by omega), Int.toNat_natCast, h17, hop, lt_eq, if_pos (by decide), if_pos rfl, e1]
    clear e1
    rw [gd_pos (by omega), gd_pos (by omega), Int.toNat_natCast, e28, lsub_ok (by omega), lt_eq, iadd_ok (by omega), lt_eq, lenW, lenW]
  · rw [lenW] at hk
    rw [hset_row]
    dsimp only
    by_cases e : k = Ws.length
    · rw [if_pos e, e, gW_new]
      rfl
    · rw [if_neg e, gW_old (by omega), hst k (by rw [lenW]; omega), gW_old (by omega)]
theorem RM_op {c0 c : Nat} {Ws : List FV} {A B : FV} (hb : b < 2) (h : RM t b W al c0 c (Ws ++ [A] ++ [B])) (hc : c < 900) (hA : VR A) (hB : VR B) {t' : Hp} (ha : ∀ k, k < c → t' 17 (900 * b + k) = t 17 (900 * b + k) ∧ t' 18 (900 * b + k) = t 18 (900 * b + k)) {op : Int} (hop : 6 ≤ op ∧ op ≤ 17) (h17' : t' 17 (900 * b + c) = op) : RM t' b W al c0 (c + 1) (Ws ++ [jnV op A B]) := by
  refine RM_step hb h hc (by rw [lenW, lenW, lenW]; omega) ha (fun day u hd h12 h42 h17 h18 hal hst hw a1 a2 h2 h3 => ?_)
  rw [lenW, lenW] at hw
  have eB : u 28 (Ws.length + 1) = B day := by
    rw [hst _ (by rw [lenW, lenW]; omega)]
    have : Ws.length + 1 = (Ws ++ [A]).length := lenW.symm
    rw [this, gW_new]
  have eA : u 28 Ws.length = A day := by rw [hst _ (by rw [lenW, lenW]; omega), gW_old (by rw [lenW]; omega), gW_new]
  refine ⟨hset u 28 Ws.length (jn op (A day) (B day)), fun K => ?_, fun k hk => ?_, fr_set fr_rfl (by omega)⟩
  · have e1 : iadd ((Ws ++ [A] ++ [B]).length : Int) (-1) = ((Ws.length + 1 : Nat) : Int) := by
      rw [lenW, lenW, iadd_ok (by omega)]
      omega
    have e2 : isub ((Ws.length + 1 : Nat) : Int) 1 = (Ws.length : Int) := by
      rw [isub_ok (by omega)]
      omega
    unfold F_M_works_14_b F_M_works_127
    rw [h12, if_neg (i900 hb ⟨h2, h3⟩), gd_pos (by omega), Int.toNat_natCast, h17, h17', lt_eq, if_pos (by omega), if_neg (by omega), e1, lt_eq, e2]
    clear e1 e2
    rw [gd_pos (by omega), gd_pos (by omega), Int.toNat_natCast, Int.toNat_natCast, eA, eB, M_joined hop (hA day hd) (hB day hd), cl2_some, gd_pos (by omega), lt_eq, iadd_ok (by omega), lt_eq, lenW]
  · rw [lenW] at hk
    rw [hset_row]
    dsimp only
    by_cases e : k = Ws.length
    · rw [if_pos e, e, gW_new]
      rfl
    · rw [if_neg e, gW_old (by omega), hst k (by rw [lenW, lenW]; omega), gW_old (by rw [lenW]; omega), gW_old (by omega)]
theorem RM_congr {c0 c : Nat} {Ws : List FV} (h : RM t b W al c0 c Ws) {t' : Hp} (ha : ∀ k, k < c → t' 17 (900 * b + k) = t 17 (900 * b + k) ∧ t' 18 (900 * b + k) = t 18 (900 * b + k)) {W' : Nat} {al' : Nat → Int} (hW : W ≤ W') (hal : ∀ w, w < W → al' w = al w) : RM t' b W' al' c0 c Ws :=
  ⟨h.1, h.2.1, h.2.2.1, fun day u hd h12 h42 hu hl => h.2.2.2 day u hd h12 h42 (fun k k1 k2 => by rw [(hu k k1 k2).1, (hu k k1 k2).2]; exact ha k k2) (fun w hw => by rw [hl w (by omega), hal w hw])⟩
theorem RM_done {c0 c : Nat} {V : FV} (hb : b < 2) (h : RM t b W al c0 c [V]) {day : Nat} {u : Hp} (hd : day < 1000) (h12 : u 0 12 = b) (h42 : u 0 42 = day) (hu : ∀ k, c0 ≤ k → k < c → u 17 (900 * b + k) = t 17 (900 * b + k) ∧ u 18 (900 * b + k) = t 18 (900 * b + k)) (hal : ∀ w, w < W → u 7 (12 * b + w) = al w) : wp (F_M_works c0 c u) (fun z u' => z = V day ∧ fr 28 28 u u') := by
  have hc := h.2.1
  have hc0 := h.1
  obtain ⟨u1, e1, st1, ev1⟩ := h.2.2.2 day u hd h12 h42 hu hal c0 c (Int.le_refl _) (by omega)
  unfold F_M_works
  rw [h12, imul_ok (by omega), iadd_ok (by omega), lt_eq]
  have e0 : 900 * (b : Int) + (c0 : Int) = ((900 * b + c0 : Nat) : Int) := by omega
  have e : FU = (19999 - (c - c0)) + 1 + (c - c0) := by
    rw [FU_eq]
    omega
  rw [e0, e, e1]
  unfold F_M_works_14
  rw [loopF_s]
  dsimp only
  unfold F_M_works_14_b
  rw [ev1 0 (by omega), h12, if_pos (by rw [imul_ok (by omega), iadd_ok (by omega)]; omega)]
  refine wp_ret ⟨?_, ev1⟩
  rw [st1 0 (by show 0 < 1; decide)]
  rfl
/-! ops held back: the last one first -/
def rk (op : Int) : Int := if op = 17 then 1 else if op = 16 then 2 else if op = 18 then 3 else if op = 13 then 4 else if op = 14 then 4 else if op = 15 then 4 else if op = 6 then 5 else if op = 7 then 5 else 6
theorem M_rank (op : Int) : F_M_rank op τ = some (rk op, τ) := by
  unfold F_M_rank F_M_rank_48 F_M_rank_64 F_M_rank_70 rk
  by_cases e1 : op = 17
  · rw [if_pos e1, if_pos e1]
  rw [if_neg e1, if_neg e1]
  by_cases e2 : op = 16
  · rw [if_pos e2, if_pos e2]
  rw [if_neg e2, if_neg e2]
  by_cases e3 : op = 18
  · rw [if_pos e3, if_pos e3]
  rw [if_neg e3, if_neg e3]
  by_cases e4 : op = 13
  · rw [if_pos e4, if_pos e4]
  rw [if_neg e4, if_neg e4]
  by_cases e5 : op = 14
  · rw [if_pos e5, if_pos e5]
  rw [if_neg e5, if_neg e5]
  by_cases e6 : op = 15
  · rw [if_pos e6, if_pos e6]
  rw [if_neg e6, if_neg e6]
  by_cases e7 : op = 6
  · rw [if_pos e7, if_pos e7]
  rw [if_neg e7, if_neg e7]
  by_cases e8 : op = 7
  · rw [if_pos e8, if_pos e8]
  rw [if_neg e8, if_neg e8]
abbrev Op : Type := Int × FV
def wsO (B : List FV) : List Op → List FV
  | [] => B
  | e :: O => if e.1 = 18 then wsO B O else wsO B O ++ [e.2]
def ap (e : Op) (X : FV) : FV := if e.1 = 18 then ntV X else jnV e.1 e.2 X
def fld : List Op → FV → FV
  | [], X => X
  | e :: O, X => fld O (ap e X)
def wfO : List Op → FV → Prop
  | [], X => VR X
  | e :: O, X => VR X ∧ (e.1 = 18 ∧ VB X ∨ (e.1 ≠ 18 ∧ (6 ≤ e.1 ∧ e.1 ≤ 17) ∧ VR e.2 ∧ (e.1 = 16 → VB e.2 ∧ VB X))) ∧ wfO O (ap e X)
def opsA (t : Hp) (base : Nat) : List Op → Prop
  | [] => True
  | e :: O => t 24 (base + O.length) = e.1 ∧ opsA t base O
def rkG (r : Int) : List Op → Prop
  | [] => True
  | e :: O => r ≤ rk e.1 ∧ rkG r O
def hdL (r : Int) : List Op → Prop
  | [] => True
  | e :: _ => rk e.1 < r
theorem wsO_app (B : List FV) (O : List Op) : ∀ O1, wsO B (O1 ++ O) = wsO (wsO B O) O1
  | [] => rfl
  | e :: O1 => by
    show (if e.1 = 18 then wsO B (O1 ++ O) else wsO B (O1 ++ O) ++ [e.2]) = if e.1 = 18 then wsO (wsO B O) O1 else wsO (wsO B O) O1 ++ [e.2]
    rw [wsO_app B O O1]
theorem fld_app : ∀ (O1 O2 : List Op) (X : FV), fld (O1 ++ O2) X = fld O2 (fld O1 X)
  | [], _, _ => rfl
  | e :: O1, O2, X => fld_app O1 O2 (ap e X)
theorem wfO_app : ∀ (O1 O2 : List Op) (X : FV), wfO O1 X → wfO O2 (fld O1 X) → wfO (O1 ++ O2) X
  | [], _, _, _, h => h
  | e :: O1, O2, X, h1, h2 => ⟨h1.1, h1.2.1, wfO_app O1 O2 (ap e X) h1.2.2 h2⟩
theorem wfO_vr : ∀ (O : List Op) (X : FV), wfO O X → VR (fld O X)
  | [], _, h => h
  | e :: O, X, h => wfO_vr O (ap e X) h.2.2
theorem rkG_app {r : Int} : ∀ (O1 O2 : List Op), rkG r O1 → rkG r O2 → rkG r (O1 ++ O2)
  | [], _, _, h => h
  | e :: O1, O2, h1, h2 => ⟨h1.1, rkG_app O1 O2 h1.2 h2⟩
theorem rkG_le {r r' : Int} (h : r' ≤ r) : ∀ (O : List Op), rkG r O → rkG r' O
  | [], _ => True.intro
  | e :: O, h1 => ⟨by have := h1.1; omega, rkG_le h O h1.2⟩
theorem opsA_app {base : Nat} {O : List Op} : ∀ O1, opsA t base (O1 ++ O) → opsA t base O
  | [], h => h
  | _ :: O1, h => opsA_app O1 h.2
theorem opsA_congr {base : Nat} {t' : Hp} : ∀ O, (∀ k, k < base + O.length → t' 24 k = t 24 k) → opsA t base O → opsA t' base O
  | [], _, _ => True.intro
  | e :: O, h, g => by
    have el : (e :: O).length = O.length + 1 := rfl
    exact ⟨by rw [h _ (by omega)]; exact g.1, opsA_congr O (fun k hk => h k (by omega)) g.2⟩
theorem M_add (hb : b < 2) {c : Nat} (hc : c < 900) (h31 : t 0 31 = b) (h30 : t 0 30 = (c : Int)) (op v : Int) : F_M_add op v t = some (0, hset (hset (hset t 17 (900 * b + c) op) 18 (900 * b + c) v) 0 30 ((c : Int) + 1)) := by
  have e : iadd (imul 900 (b : Int)) (c : Int) = ((900 * b + c : Nat) : Int) := by
    rw [imul_ok (by omega), iadd_ok (by omega)]
    omega
  unfold F_M_add
  simp only [lt_eq, hset_obj (q := 17) (q' := 0) _ _ _ (by decide), hset_obj (q := 18) (q' := 0) _ _ _ (by decide), h31, h30, e, Int.toNat_natCast]
  clear e
  rw [gd_pos (by omega), gd_pos (by omega), iadd_ok (by omega)]
/-- what joining may change -/
def jnF (P : Nat × Nat) (t t' : Hp) : Prop := (∀ q, q ≠ 0 → q ≠ 17 → q ≠ 18 → t' q = t q) ∧ (∀ i, i ≠ 30 → i ≠ 40 → t' 0 i = t 0 i) ∧ ∀ i, (i < P.1 ∨ P.2 ≤ i) → t' 17 i = t 17 i ∧ t' 18 i = t 18 i
theorem jnF_wk {P Q : Nat × Nat} {t t' : Hp} (h : jnF P t t') (h1 : Q.1 ≤ P.1) (h2 : P.2 ≤ Q.2) : jnF Q t t' := ⟨h.1, h.2.1, fun i hi => h.2.2 i (by omega)⟩
theorem M_joinsL (hb : b < 2) {least : Int} {base c0 dp : Nat} {B : List FV} (hdp : 1 ≤ dp ∧ dp ≤ 20) : ∀ (O1 O : List Op) (X : FV) (t : Hp) (cm m : Nat), t 0 31 = b → t 0 37 = dp → t 23 (dp - 1) = base → t 0 40 = ((base + (O1 ++ O).length : Nat) : Int) → opsA t base (O1 ++ O) → t 0 30 = cm → RM t b W al c0 cm (wsO B (O1 ++ O) ++ [X]) → wfO O1 X → rkG least O1 → hdL least O → base + (O1 ++ O).length ≤ 500 → cm + O1.length ≤ 900 →
    ∃ t', F_M_joins_0 least (m + O1.length + 1) t = some (0, t') ∧ t' 0 40 = ((base + O.length : Nat) : Int) ∧ t' 0 30 = ((cm + O1.length : Nat) : Int) ∧ RM t' b W al c0 (cm + O1.length) (wsO B O ++ [fld O1 X]) ∧ jnF (900 * b + cm, 900 * b + 900) t t'
  | [], O, X, t, cm, m, h31, h37, h23, h40, hops, h30, hRM, hwf, hrk, hhd, hbd, hcm => by
    refine ⟨t, ?_, h40, h30, hRM, fun _ _ _ _ => rfl, fun _ _ _ => rfl, fun _ _ => ⟨rfl, rfl⟩⟩
    have e1 : isub (dp : Int) 1 = ((dp - 1 : Nat) : Int) := by rw [isub_ok (by omega)]; omega
    unfold F_M_joins_0
    show loopF _ (m + 0 + 1) t = _
    rw [loopF_s]
    unfold F_M_joins_0_b F_M_joins_63
    rw [h37, e1]
    clear e1
    rw [gd_pos (by omega), Int.toNat_natCast, h23, h40]
    rcases O with _ | ⟨e, O⟩
    · exact if_pos (by show ((base + 0 : Nat) : Int) ≤ base; omega)
    · have el : ([] ++ (e :: O)).length = O.length + 1 := rfl
      rw [el] at h40 hbd ⊢
      have e2 : isub ((base + (O.length + 1) : Nat) : Int) 1 = ((base + O.length : Nat) : Int) := by rw [isub_ok (by omega)]; omega
      rw [if_neg (by omega), e2]
      clear e2
      have hop : t 24 (base + O.length) = e.1 := hops.1
      have hlt : rk e.1 < least := hhd
      rw [gd_pos (by omega), Int.toNat_natCast, hop, M_rank, cl2_some, if_pos hlt]
  | e :: O1, O, X, t, cm, m, h31, h37, h23, h40, hops, h30, hRM, hwf, hrk, hhd, hbd, hcm => by
    have el : (e :: O1 ++ O).length = (O1 ++ O).length + 1 := rfl
    have el1 : (e :: O1).length = O1.length + 1 := rfl
    rw [el] at h40 hbd
    rw [el1] at hcm
    have e1 : isub (dp : Int) 1 = ((dp - 1 : Nat) : Int) := by rw [isub_ok (by omega)]; omega
    have e2 : isub ((base + ((O1 ++ O).length + 1) : Nat) : Int) 1 = ((base + (O1 ++ O).length : Nat) : Int) := by rw [isub_ok (by omega)]; omega
    have hop : t 24 (base + (O1 ++ O).length) = e.1 := hops.1
    have hge : least ≤ rk e.1 := hrk.1
    have hcl : cm < 900 := by omega
    -- the state behind one op more
    let u : Hp := hset t 0 40 ((base + (O1 ++ O).length : Nat) : Int)
    let v : Hp := hset (hset (hset u 17 (900 * b + cm) e.1) 18 (900 * b + cm) 0) 0 30 ((cm : Int) + 1)
    have hadd : F_M_add e.1 0 u = some (0, v) := M_add hb hcl (by show hset t 0 40 _ 0 31 = b; rw [hset_get, if_neg (by decide)]; exact h31) (by show hset t 0 40 _ 0 30 = _; rw [hset_get, if_neg (by decide)]; exact h30) e.1 0
    have v0 : ∀ i, i ≠ 30 → i ≠ 40 → v 0 i = t 0 i := fun i a1 a2 => by
      show hset (hset (hset u 17 _ _) 18 _ _) 0 30 _ 0 i = _
      rw [hset_get, if_neg (by omega), hset_obj _ _ _ _ (by decide), hset_obj _ _ _ _ (by decide)]
      show hset t 0 40 _ 0 i = _
      rw [hset_get, if_neg (by omega)]
    have v40 : v 0 40 = ((base + (O1 ++ O).length : Nat) : Int) := by
      show hset (hset (hset u 17 _ _) 18 _ _) 0 30 _ 0 40 = _
      rw [hset_get, if_neg (by decide), hset_obj _ _ _ _ (by decide), hset_obj _ _ _ _ (by decide)]
      show hset t 0 40 _ 0 40 = _
      rw [hset_same]
    have v30 : v 0 30 = ((cm + 1 : Nat) : Int) := by
      show hset (hset (hset u 17 _ _) 18 _ _) 0 30 _ 0 30 = _
      rw [hset_same]
      omega
    have vq : ∀ q, q ≠ 0 → q ≠ 17 → q ≠ 18 → v q = t q := fun q a1 a2 a3 => by
      show hset (hset (hset u 17 _ _) 18 _ _) 0 30 _ q = _
      rw [hset_obj _ _ _ _ a1, hset_obj _ _ _ _ a3, hset_obj _ _ _ _ a2]
      show hset t 0 40 _ q = _
      rw [hset_obj _ _ _ _ a1]
    have v17 : ∀ i, v 17 i = if i = 900 * b + cm then e.1 else t 17 i := fun i => by
      show hset (hset (hset u 17 _ _) 18 _ _) 0 30 _ 17 i = _
      rw [hset_obj _ _ _ _ (by decide), hset_obj _ _ _ _ (by decide), hset_row]
      show (if i = _ then e.1 else hset t 0 40 _ 17 i) = _
      rw [hset_obj _ _ _ _ (by decide)]
    have v18 : ∀ i, v 18 i = if i = 900 * b + cm then 0 else t 18 i := fun i => by
      show hset (hset (hset u 17 _ _) 18 _ _) 0 30 _ 18 i = _
      rw [hset_obj _ _ _ _ (by decide), hset_row, hset_obj _ _ _ _ (by decide)]
      show (if i = _ then 0 else hset t 0 40 _ 18 i) = _
      rw [hset_obj _ _ _ _ (by decide)]
    have hagree : ∀ k, k < cm → v 17 (900 * b + k) = t 17 (900 * b + k) ∧ v 18 (900 * b + k) = t 18 (900 * b + k) := fun k hk => by
      rw [v17, v18, if_neg (by omega), if_neg (by omega)]
      exact ⟨rfl, rfl⟩
    have hv17 : v 17 (900 * b + cm) = e.1 := by rw [v17, if_pos rfl]
    have hws : wsO B (e :: O1 ++ O) = if e.1 = 18 then wsO B (O1 ++ O) else wsO B (O1 ++ O) ++ [e.2] := rfl
    have hRM2 : RM v b W al c0 (cm + 1) (wsO B (O1 ++ O) ++ [ap e X]) := by
      unfold ap
      rcases hwf.2.1 with ⟨x1, x2⟩ | ⟨x1, x2, x3, x4⟩
      · rw [hws, if_pos x1] at hRM
        rw [if_pos x1]
        exact RM_not hb hRM hcl hwf.1 hagree (by rw [hv17, x1])
      · rw [hws, if_neg x1] at hRM
        rw [if_neg x1]
        exact RM_op hb hRM hcl x3 hwf.1 hagree x2 hv17
    obtain ⟨t', r1, r2, r3, r4, r5⟩ := M_joinsL hb hdp O1 O (ap e X) v (cm + 1) m (by rw [v0 31 (by decide) (by decide)]; exact h31) (by rw [v0 37 (by decide) (by decide)]; exact h37) (by rw [vq 23 (by decide) (by decide) (by decide)]; exact h23) v40 (opsA_congr _ (fun k _ => by rw [vq 24 (by decide) (by decide) (by decide)]) hops.2) v30 hRM2 hwf.2.2 hrk.2 hhd (by omega) (by omega)
    refine ⟨t', ?_, r2, by rw [r3, el1]; omega, ?_, fun q a1 a2 a3 => by rw [r5.1 q a1 a2 a3, vq q a1 a2 a3], fun i a1 a2 => by rw [r5.2.1 i a1 a2, v0 i a1 a2], fun i hi => by
      dsimp only at hi
      have h5 := r5.2.2 i (by dsimp only; omega)
      rw [h5.1, h5.2, v17, v18, if_neg (by omega), if_neg (by omega)]
      exact ⟨rfl, rfl⟩⟩
    · rw [el1]
      have ef : m + (O1.length + 1) + 1 = (m + O1.length + 1) + 1 := by omega
      rw [ef]
      unfold F_M_joins_0 at r1 ⊢
      rw [loopF_s]
      unfold F_M_joins_0_b
      rw [h37, e1, h40, e2]
      clear e1 e2
      rw [gd_pos (by omega), Int.toNat_natCast, h23, if_neg (by omega), gd_pos (by omega), Int.toNat_natCast, hop, M_rank, cl2_some, if_neg (by omega), h40, isub_ok (by omega), show ((base + ((O1 ++ O).length + 1) : Nat) : Int) - 1 = ((base + (O1 ++ O).length : Nat) : Int) by omega, lt_eq, hset_same, gd_pos (by omega), Int.toNat_natCast]
      have h24 : (hset t 0 40 ((base + (O1 ++ O).length : Nat) : Int)) 24 (base + (O1 ++ O).length) = e.1 := by rw [hset_obj _ _ _ _ (by decide)]; exact hop
      rw [h24]
      have hadd' : F_M_add e.1 0 (hset t 0 40 ((base + (O1 ++ O).length : Nat) : Int)) = some (0, v) := hadd
      rw [hadd', cl2_some]
      exact r1
    · have e9 : cm + 1 + O1.length = cm + (e :: O1).length := by rw [el1]; omega
      rw [← e9]
      exact r4
end Code2
