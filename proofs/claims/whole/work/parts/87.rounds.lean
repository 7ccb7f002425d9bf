/-! the check's rounds: what they are made of -/
section Rounds
variable {X : Cx} {s t u : Hp} {p q c : Nat} {Ws : List FV} {opd dp base : Nat} {F ph bg : Int} {B Xs : List FV} {O : List Op} {x : Int}
def TK (X : Cx) (t : Hp) (p : Nat) : Prop := FX X ∧ p ≤ xN X ∧ TkM t (xf X) (xN X) p
theorem TK.cg (h : TK X t p) (g : ∀ i, 3 ≤ i → i ≤ 9 → u 0 i = t 0 i) : TK X u p := ⟨h.1, h.2.1, TkM_congr h.2.2 g⟩
theorem TK.set (h : TK X t p) {a i : Nat} {v : Int} (hq : a ≠ 0 ∨ i < 3 ∨ 9 < i) : TK X (hset t a i v) p := h.cg (fun j h1 h2 => by rw [hset_get, if_neg (by omega)])
theorem TK.sY (h : TK X t p) {c : Int} (e : kX X p = c) (hc : 0 ≤ c ∧ c < 256) : F_M_isSign c t = some (1, t) := by rw [M_sign h.1.1 h.2.1 h.2.2 hc, if_pos e]
theorem TK.sN (h : TK X t p) {c : Int} (e : kX X p ≠ c) (hc : 0 ≤ c ∧ c < 256) : F_M_isSign c t = some (0, t) := by rw [M_sign h.1.1 h.2.1 h.2.2 hc, if_neg e]
def wcd (c k : Int) : Prop := ∃ (j : Nat) (w : List Nat), owL[j]? = some w ∧ pk8 w = c ∧ k = 256 + (j : Int)
theorem TK.wY (h : TK X t p) {c k : Int} (e : kX X p = k) (hc : wcd c k) : F_M_isWord c t = some (1, t) := by
  obtain ⟨j, w, h1, h2, h3⟩ := hc
  rw [M_word h.1.1 h.2.1 h.2.2 h1 h2, if_pos (by rw [e, h3])]
theorem TK.wN (h : TK X t p) {c k : Int} (e : kX X p ≠ k) (hc : wcd c k) : F_M_isWord c t = some (0, t) := by
  obtain ⟨j, w, h1, h2, h3⟩ := hc
  rw [M_word h.1.1 h.2.1 h.2.2 h1 h2, if_neg (by rw [← h3]; exact e)]
theorem wcMin : wcd 7170414 271 := ⟨15, _, rfl, by decide, by decide⟩
theorem wcMax : wcd 7168376 272 := ⟨16, _, rfl, by decide, by decide⟩
theorem wcAlone : wcd 418431069797 257 := ⟨1, _, rfl, by decide, by decide⟩
theorem wcDay : wcd 6578553 268 := ⟨12, _, rfl, by decide, by decide⟩
theorem wcWeek : wcd 2003133803 269 := ⟨13, _, rfl, by decide, by decide⟩
theorem wcWday : wcd 2003067257 270 := ⟨14, _, rfl, by decide, by decide⟩
theorem wcAll : wcd 6384748 267 := ⟨11, _, rfl, by decide, by decide⟩
theorem wcNot : wcd 7237492 266 := ⟨10, _, rfl, by decide, by decide⟩
theorem wcAnd : wcd 6385252 265 := ⟨9, _, rfl, by decide, by decide⟩
theorem wcOr : wcd 28530 264 := ⟨8, _, rfl, by decide, by decide⟩
theorem isT {a : Int} (h : a = 1 ∨ a = 5) : F_M_isTest a t = some (1, t) := by
  unfold F_M_isTest F_M_isTest_10 F_M_isTest_15
  by_cases c : a = 1
  · rw [if_pos c]
    rfl
  · rw [if_neg c, if_pos (by omega)]
    rfl
theorem isTn {a : Int} (h : ¬ (a = 1 ∨ a = 5)) : F_M_isTest a t = some (0, t) := by
  unfold F_M_isTest F_M_isTest_10 F_M_isTest_15
  rw [if_neg (by omega), if_neg (by omega)]
  rfl
theorem PSw.tk (hX : FX X) (h : PSw X t p q opd dp F ph bg base B O Xs) : TK X t p := ⟨hX, h.2.2.2.2.2.2.2.1, h.1⟩
theorem PSw.cg (h : PSw X t p q opd dp F ph bg base B O Xs) {F' ph' bg' : Int} (h0 : ∀ i, (3 ≤ i ∧ i ≤ 9) ∨ i = 30 ∨ i = 31 ∨ i = 37 ∨ i = 38 ∨ i = 40 → u 0 i = t 0 i) (hF : u 19 (dp - 1) = F') (hp : u 20 (dp - 1) = ph') (hb : u 21 (dp - 1) = bg') (h23 : u 23 = t 23) (h24 : u 24 = t 24) (h17 : u 17 = t 17) (h18 : u 18 = t 18) : PSw X u p q opd dp F' ph' bg' base B O Xs := by
  obtain ⟨a1, a2, a3, a4, a5, ⟨cm, c1, c2, c3⟩, a7⟩ := h
  refine ⟨TkM_congr a1 (fun i h1 h2 => h0 i (Or.inl ⟨h1, h2⟩)), by rw [h0 31 (by omega)]; exact a2, by rw [h0 37 (by omega), h0 38 (by omega)]; exact a3, ⟨hF, hp, hb, by rw [h23]; exact a4.2.2.2⟩, ⟨by rw [h0 40 (by omega)]; exact a5.1, opsA_congr O (fun k _ => by rw [h24]) a5.2⟩, ⟨cm, by rw [h0 30 (by omega)]; exact c1, RM_congr c2 (fun k _ => by rw [h17, h18]; exact ⟨rfl, rfl⟩) (Nat.le_refl _) (fun _ _ => rfl), c3⟩, a7⟩
theorem PSw.up (h : PSw X t p q opd dp F ph bg base B O Xs) {q' opd' : Nat} (h1 : q ≤ q') (h2 : q + opd' ≤ q' + opd) (h3 : q' ≤ xN X) : PSw X t p q' opd' dp F ph bg base B O Xs := by
  obtain ⟨a1, a2, a3, a4, a5, ⟨cm, c1, c2, c3⟩, a7, a8, a9⟩ := h
  exact ⟨a1, a2, a3, a4, a5, ⟨cm, c1, c2, by omega⟩, by omega, a8, h3⟩
/-- behind a next -/
def KNt (X : Cx) (u : Hp) (p opd dp : Nat) (F ph bg : Int) (base : Nat) (B : List FV) (O : List Op) (Xs : List FV) : Prop := xmF (xP X) (xt X) u ∧ ((kX X p = -2 ∧ u 0 8 = 1 ∧ u 0 9 = (sX X p : Nat)) ∨ PSw X u p p opd dp F ph bg base B O Xs)
theorem eX_ok (hX : FX X) (hp : p ≤ xN X) (hk : 0 ≤ kX X p) : p < eX X p ∧ eX X p ≤ xN X := ⟨(tok_en hX.1 hp hk).1.1, (tok_en hX.1 hp hk).1.2.1⟩
theorem M_nx (hX : FX X) (h : PSw X t p q opd dp F ph bg base B O Xs) (hx : xmF (xP X) (xt X) t) (hk : 0 ≤ kX X p) (hq : q = eX X p) : wp (F_M_next t) (fun _ u => KNt X u (eX X p) opd dp F ph bg base B O Xs ∧ nxF t u) := by
  have hp := h.2.2.2.2.2.2.2.1
  have hb := xmF_by hx hX.2.2.2.2.1
  refine wp_mono (M_adv hX hb hp h.1 hk) (fun z u ⟨h1, h2⟩ => ⟨⟨xmF_trans hx (xmF_nx h2), ?_⟩, h2⟩)
  rcases h1 with g | ⟨g1, g2, g3⟩
  · right
    subst hq
    obtain ⟨a1, a2, a3, a4, a5, ⟨cm, c1, c2, c3⟩, a7, a8, a9⟩ := h
    have k : ∀ i, nxI i → u 0 i = t 0 i := h2.2
    refine ⟨g, by rw [k 31 (by unfold nxI; decide)]; exact a2, by rw [k 37 (by unfold nxI; decide), k 38 (by unfold nxI; decide)]; exact a3, by rw [h2.1 19 (by decide), h2.1 20 (by decide), h2.1 21 (by decide), h2.1 23 (by decide)]; exact a4, ⟨by rw [k 40 (by unfold nxI; decide)]; exact a5.1, opsA_congr O (fun i _ => by rw [h2.1 24 (by decide)]) a5.2⟩, ⟨cm, by rw [k 30 (by unfold nxI; decide)]; exact c1, RM_congr c2 (fun i _ => by rw [h2.1 17 (by decide), h2.1 18 (by decide)]; exact ⟨rfl, rfl⟩) (Nat.le_refl _) (fun _ _ => rfl), c3⟩, a7, a9, a9⟩
  · exact Or.inl ⟨g1, g2, g3⟩
theorem lwF_ob {tr u' : Hp} (h : lwF tr u dp base) (g : ∀ q, 19 ≤ q → q ≤ 24 → u' q = u q) : lwF tr u' dp base := by
  refine ⟨fun j hj => ?_, by rw [g 22 (by decide) (by decide)]; exact h.2.1, fun j hj => by rw [g 24 (by decide) (by decide)]; exact h.2.2 j hj⟩
  rw [g 19 (by decide) (by decide), g 20 (by decide) (by decide), g 21 (by decide) (by decide), g 22 (by decide) (by decide), g 23 (by decide) (by decide)]
  exact h.1 j hj
theorem lwF_set {tr : Hp} (h : lwF tr u dp base) {a i : Nat} {v : Int} (hd : 1 ≤ dp) (hq : a < 19 ∨ 24 < a ∨ (a ≠ 24 ∧ dp ≤ i) ∨ (a ≠ 24 ∧ a ≠ 22 ∧ dp ≤ i + 1) ∨ (a = 24 ∧ base ≤ i)) : lwF tr (hset u a i v) dp base := by
  refine ⟨fun j hj => ?_, ?_, fun j hj => ?_⟩
  · rw [hset_get, if_neg (by omega), hset_get, if_neg (by omega), hset_get, if_neg (by omega), hset_get, if_neg (by omega), hset_get, if_neg (by omega)]
    exact h.1 j hj
  · rw [hset_get, if_neg (by omega)]
    exact h.2.1
  · rw [hset_get, if_neg (by omega)]
    exact h.2.2 j hj
theorem KNt.k {tr : Hp} (h : KNt X u p opd dp F ph bg base B O Xs) (hl : lwF tr u dp base) {v : Int} (ho : v = (opd : Int)) : KSt X tr (if u 0 8 = 0 then 1 else 0) (hset u 0 41 v) p opd dp F ph bg base B O Xs := by
  refine ⟨xmF_set h.1 (by omega), lwF_ob hl (fun q h1 h2 => hset_obj _ _ _ _ (by omega)), ?_⟩
  rcases h.2 with ⟨a1, a2, a3⟩ | g
  · left
    rw [a2, if_neg (by decide)]
    exact ⟨a1, rfl, by rw [hset_get, if_neg (by omega)]; exact a2, by rw [hset_get, if_neg (by omega)]; exact a3⟩
  · right
    rw [g.1.2.1.1, if_pos rfl]
    refine ⟨rfl, g.cg (fun i hi => by rw [hset_get, if_neg (by omega)]) ?_ ?_ ?_ ?_ ?_ ?_ ?_, by rw [hset_same, ho]⟩
    · rw [hset_obj _ _ _ _ (by decide)]; exact g.2.2.2.1.1
    · rw [hset_obj _ _ _ _ (by decide)]; exact g.2.2.2.1.2.1
    · rw [hset_obj _ _ _ _ (by decide)]; exact g.2.2.2.1.2.2.1
    all_goals exact hset_obj _ _ _ _ (by decide)
theorem KSt.self {tr : Hp} (h : KSt X tr x t p opd dp F ph bg base B O Xs) : KSt X t x t p opd dp F ph bg base B O Xs := ⟨h.1, lwF_rfl, h.2.2⟩
theorem KSt.of {tr tr' : Hp} (h : KSt X tr x t p opd dp F ph bg base B O Xs) (g : lwF tr' tr dp base) : KSt X tr' x t p opd dp F ph bg base B O Xs := ⟨h.1, lwF_trans g h.2.1, h.2.2⟩
/-- joined -/
theorem M_joinsP (hX : FX X) {O1 : List Op} {Xv : FV} {least : Int} (h : PSw X t p q opd dp F ph bg base B (O1 ++ O) [Xv]) (hw : wfO O1 Xv) (hr : rkG least O1) (hh : hdL least O) : ∃ u, F_M_joins least t = some (0, u) ∧ PSw X u p q opd dp F ph bg base B O [fld O1 Xv] ∧ jnF (xP X) t u := by
  obtain ⟨a1, a2, a3, a4, a5, ⟨cm, c1, c2, c3⟩, a7, a8, a9⟩ := h
  have hN := hX.2.1
  have el : (O1 ++ O).length = O1.length + O.length := List.length_append
  rw [el] at c3 a7
  have hfu : FU = (FU - O1.length - 1) + O1.length + 1 := by rw [FU_eq]; omega
  obtain ⟨u, e, e1, e2, e3, e4⟩ := M_joinsL hX.2.2.2.1 (by omega : 1 ≤ dp ∧ dp ≤ 20) O1 O Xv t cm (FU - O1.length - 1) a2 a3.1 a4.2.2.2 a5.1 a5.2 c1 c2 hw hr hh (by rw [el]; omega) (by omega)
  have h0 := c2.1
  refine ⟨u, by unfold F_M_joins; rw [hfu]; exact e, ?_, jnF_wk e4 (by show 900 * xb X + xd X ≤ 900 * xb X + cm; omega) (Nat.le_refl _)⟩
  have k : ∀ i, i ≠ 30 → i ≠ 40 → u 0 i = t 0 i := e4.2.1
  refine ⟨TkM_congr a1 (fun i h1 h2 => k i (by omega) (by omega)), by rw [k 31 (by decide) (by decide)]; exact a2, by rw [k 37 (by decide) (by decide), k 38 (by decide) (by decide)]; exact a3, by rw [e4.1 19 (by decide) (by decide) (by decide), e4.1 20 (by decide) (by decide) (by decide), e4.1 21 (by decide) (by decide) (by decide), e4.1 23 (by decide) (by decide) (by decide)]; exact a4, ⟨e1, opsA_congr O (fun i _ => by rw [e4.1 24 (by decide) (by decide) (by decide)]) (opsA_app O1 a5.2)⟩, ⟨_, e2, e3, by omega⟩, by omega, a8, a9⟩
theorem jn_lw {P : Nat × Nat} {tr : Hp} (h : lwF tr t dp base) (g : jnF P t u) : lwF tr u dp base := lwF_ob h (fun q h1 h2 => g.1 q (by omega) (by omega) (by omega))
theorem jn_xm {P : Nat × Nat} {t0 : Hp} (h : xmF P t0 t) (g : jnF P t u) : xmF P t0 u := ⟨fun q a b => by rw [g.1 q a (by omega) (by omega)]; exact h.1 q a b, fun i hi => by rw [g.2.1 i hi.2.1 hi.2.2.2.2.1]; exact h.2.1 i hi, fun i hi => by rw [(g.2.2 i hi).1, (g.2.2 i hi).2]; exact h.2.2 i hi⟩
/-- a code more -/
theorem M_addP (hX : FX X) (h : PSw X t p q opd dp F ph bg base B O Xs) (op v : Int) {q' opd' : Nat} {Xs' : List FV} (hq : q + 1 ≤ q' ∧ q + opd' ≤ q' + opd ∧ q' ≤ xN X) (hR : ∀ (cm : Nat) (t' : Hp), RM t (xb X) (xW X) (xlQ X) (xd X) cm (wsO B O ++ Xs) → cm < 900 → (∀ k, k < cm → t' 17 (900 * xb X + k) = t 17 (900 * xb X + k) ∧ t' 18 (900 * xb X + k) = t 18 (900 * xb X + k)) → t' 17 (900 * xb X + cm) = op → t' 18 (900 * xb X + cm) = v → RM t' (xb X) (xW X) (xlQ X) (xd X) (cm + 1) (wsO B O ++ Xs')) : ∃ u, F_M_add op v t = some (0, u) ∧ PSw X u p q' opd' dp F ph bg base B O Xs' ∧ jnF (xP X) t u := by
  obtain ⟨a1, a2, a3, a4, a5, ⟨cm, c1, c2, c3⟩, a7, a8, a9⟩ := h
  have hN := hX.2.1
  have hd0 := c2.1
  have hcm : cm < 900 := by omega
  have hb := hX.2.2.2.1
  have g : jnF (xP X) t (hset (hset (hset t 17 (900 * xb X + cm) op) 18 (900 * xb X + cm) v) 0 30 ((cm : Int) + 1)) := ⟨fun q b1 b2 b3 => by rw [hset_obj _ _ _ _ b1, hset_obj _ _ _ _ b3, hset_obj _ _ _ _ b2], fun i b1 b2 => by rw [hset_get, if_neg (by omega), hset_obj _ _ _ _ (by decide), hset_obj _ _ _ _ (by decide)], fun i hi => by
    have hi : i < 900 * xb X + xd X ∨ 900 * xb X + 900 ≤ i := hi
    rw [hset_obj _ _ _ _ (by decide), hset_obj _ _ _ _ (by decide), hset_row, hset_obj _ _ _ _ (by decide), hset_row, hset_obj _ _ _ _ (by decide)]
    dsimp only
    rw [if_neg (by omega), if_neg (by omega)]
    exact ⟨rfl, rfl⟩⟩
  have h40 : hset (hset (hset t 17 (900 * xb X + cm) op) 18 (900 * xb X + cm) v) 0 30 ((cm : Int) + 1) 0 40 = t 0 40 := by rw [hset_get, if_neg (by decide), hset_obj _ _ _ _ (by decide), hset_obj _ _ _ _ (by decide)]
  have h30 : hset (hset (hset t 17 (900 * xb X + cm) op) 18 (900 * xb X + cm) v) 0 30 ((cm : Int) + 1) 0 30 = ((cm + 1 : Nat) : Int) := by
    rw [hset_same]
    rfl
  have h17 : ∀ k, hset (hset (hset t 17 (900 * xb X + cm) op) 18 (900 * xb X + cm) v) 0 30 ((cm : Int) + 1) 17 k = if k = 900 * xb X + cm then op else t 17 k := fun k => by
    rw [hset_obj _ _ _ _ (by decide), hset_obj _ _ _ _ (by decide), hset_row]
  have h18 : ∀ k, hset (hset (hset t 17 (900 * xb X + cm) op) 18 (900 * xb X + cm) v) 0 30 ((cm : Int) + 1) 18 k = if k = 900 * xb X + cm then v else t 18 k := fun k => by
    rw [hset_obj _ _ _ _ (by decide), hset_row, hset_obj _ _ _ _ (by decide)]
  refine ⟨_, M_add hb hcm a2 c1 op v, ?_, g⟩
  generalize hset (hset (hset t 17 (900 * xb X + cm) op) 18 (900 * xb X + cm) v) 0 30 ((cm : Int) + 1) = u at g h40 h30 h17 h18
  have k := g.2.1
  refine ⟨TkM_congr a1 (fun i h1 h2 => k i (by omega) (by omega)), by rw [k 31 (by decide) (by decide)]; exact a2, by rw [k 37 (by decide) (by decide), k 38 (by decide) (by decide)]; exact a3, by rw [g.1 19 (by decide) (by decide) (by decide), g.1 20 (by decide) (by decide) (by decide), g.1 21 (by decide) (by decide) (by decide), g.1 23 (by decide) (by decide) (by decide)]; exact a4, ⟨by rw [h40]; exact a5.1, opsA_congr O (fun i _ => by rw [g.1 24 (by decide) (by decide) (by decide)]) a5.2⟩, ⟨cm + 1, h30, hR cm u c2 hcm (fun j hj => ⟨by rw [h17, if_neg (by omega)], by rw [h18, if_neg (by omega)]⟩) (by rw [h17, if_pos rfl]) (by rw [h18, if_pos rfl]), by omega⟩, by omega, a8, hq.2.2⟩
/-- an op held back -/
def hbF (t u : Hp) (base : Nat) : Prop := (∀ q, q ≠ 0 → q ≠ 24 → u q = t q) ∧ (∀ i, i < base → u 24 i = t 24 i) ∧ ∀ i, i ≠ 40 → u 0 i = t 0 i
theorem M_holdP (hX : FX X) {Xs' : List FV} (h : PSw X t p q opd dp F ph bg base B O Xs) (e : Op) {q' opd' : Nat} (hws : wsO B (e :: O) ++ Xs' = wsO B O ++ Xs) (hq : q + 1 ≤ q' ∧ q + 2 + opd' ≤ q' + opd ∧ q' ≤ xN X) : ∃ u, F_M_holdsBack e.1 t = some (0, u) ∧ PSw X u p q' opd' dp F ph bg base B (e :: O) Xs' ∧ hbF t u base := by
  obtain ⟨a1, a2, a3, a4, a5, ⟨cm, c1, c2, c3⟩, a7, a8, a9⟩ := h
  have hN := hX.2.1
  have el : (e :: O).length = O.length + 1 := rfl
  have hbd : (0 : Int) ≤ ((base + O.length : Nat) : Int) ∧ ((base + O.length : Nat) : Int) < 500 := by omega
  have e1 : iadd ((base + O.length : Nat) : Int) 1 = ((base + (O.length + 1) : Nat) : Int) := by rw [iadd_ok (by omega)]; omega
  refine ⟨hset (hset t 24 (base + O.length) e.1) 0 40 ((base + (O.length + 1) : Nat) : Int), ?_, ?_, ⟨fun q b1 b2 => by rw [hset_obj _ _ _ _ b1, hset_obj _ _ _ _ b2], fun i hi => ?_, fun i hi => by rw [hset_get, if_neg (by omega), hset_obj _ _ _ _ (by decide)]⟩⟩
  · unfold F_M_holdsBack
    rw [a5.1, gd_pos hbd, lt_eq, Int.toNat_natCast, hset_obj _ _ _ _ (by decide), a5.1, e1, lt_eq]
  · clear e1
    have k : ∀ i, i ≠ 40 → hset (hset t 24 (base + O.length) e.1) 0 40 ((base + (O.length + 1) : Nat) : Int) 0 i = t 0 i := fun i hi => by rw [hset_get, if_neg (by omega), hset_obj _ _ _ _ (by decide)]
    have k2 : ∀ q, q ≠ 0 → q ≠ 24 → hset (hset t 24 (base + O.length) e.1) 0 40 ((base + (O.length + 1) : Nat) : Int) q = t q := fun q b1 b2 => by rw [hset_obj _ _ _ _ b1, hset_obj _ _ _ _ b2]
    have k3 : ∀ i, hset (hset t 24 (base + O.length) e.1) 0 40 ((base + (O.length + 1) : Nat) : Int) 24 i = if i = base + O.length then e.1 else t 24 i := fun i => by
      rw [hset_obj _ _ _ _ (by decide), hset_row]
    have k4 : hset (hset t 24 (base + O.length) e.1) 0 40 ((base + (O.length + 1) : Nat) : Int) 0 40 = ((base + (e :: O).length : Nat) : Int) := by rw [hset_same]; rfl
    generalize hset (hset t 24 (base + O.length) e.1) 0 40 ((base + (O.length + 1) : Nat) : Int) = u at k k2 k3 k4
    refine ⟨TkM_congr a1 (fun i h1 h2 => k i (by omega)), by rw [k 31 (by decide)]; exact a2, by rw [k 37 (by decide), k 38 (by decide)]; exact a3, by rw [k2 19 (by decide) (by decide), k2 20 (by decide) (by decide), k2 21 (by decide) (by decide), k2 23 (by decide) (by decide)]; exact a4, ⟨k4, by rw [k3, if_pos rfl], opsA_congr O (fun i hi => by rw [k3, if_neg (by omega)]) a5.2⟩, ⟨cm, by rw [k 30 (by decide)]; exact c1, ?_, by rw [el]; omega⟩, by rw [el]; omega, a8, hq.2.2⟩
    rw [hws]
    exact RM_congr c2 (fun i _ => by rw [k2 17 (by decide) (by decide), k2 18 (by decide) (by decide)]; exact ⟨rfl, rfl⟩) (Nat.le_refl _) (fun _ _ => rfl)
  · clear e1
    rw [hset_obj _ _ _ _ (by decide), hset_row]
    dsimp only
    rw [if_neg (by omega)]
theorem hb_lw {tr : Hp} (h : lwF tr t dp base) (g : hbF t u base) : lwF tr u dp base := by
  refine ⟨fun j hj => ?_, by rw [g.1 22 (by decide) (by decide)]; exact h.2.1, fun j hj => by rw [g.2.1 j hj]; exact h.2.2 j hj⟩
  rw [g.1 19 (by decide) (by decide), g.1 20 (by decide) (by decide), g.1 21 (by decide) (by decide), g.1 22 (by decide) (by decide), g.1 23 (by decide) (by decide)]
  exact h.1 j hj
theorem hb_xm {P : Nat × Nat} {t0 : Hp} (h : xmF P t0 t) (g : hbF t u base) : xmF P t0 u := ⟨fun q a b => by rw [g.1 q a (by omega)]; exact h.1 q a b, fun i hi => by rw [g.2.2 i hi.2.2.2.2.1]; exact h.2.1 i hi, fun i hi => by rw [g.1 17 (by decide) (by decide), g.1 18 (by decide) (by decide)]; exact h.2.2 i hi⟩
theorem nx_lw {tr : Hp} (h : lwF tr t dp base) (g : nxF t u) : lwF tr u dp base := lwF_ob h (fun q h1 h2 => g.1 q (by omega))
end Rounds
