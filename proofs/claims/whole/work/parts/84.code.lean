/-! the code of sums and tests, reckoned on both sides -/
section Code
variable {σ τ s t : Hp} {nn b W : Nat}
abbrev FV : Type := Nat → Int
def cap9 (v : Int) : Int := if 1000000000 < v then 1000000000 else if v < -1000000000 then -1000000000 else v
theorem cap9_rng (v : Int) : -1000000000 ≤ cap9 v ∧ cap9 v ≤ 1000000000 := by
  unfold cap9
  split
  · omega
  · split <;> omega
/-- what two make, by the check's number of the sign -/
def jn (op a b : Int) : Int := if op = 6 then cap9 (a + b) else if op = 7 then cap9 (a - b) else if op = 8 then cap9 (a * b) else if op = 9 then flr a b else if op = 10 then (if b = 0 then 0 else a - b * flr a b) else if op = 11 then min a b else if op = 12 then max a b else if op = 13 then (if a < b then 1 else 0) else if op = 14 then (if b < a then 1 else 0) else if op = 15 then (if a = b then 1 else 0) else if op = 16 then a * b else (if 0 < a + b then 1 else 0)
def opc (sg : Int) : Int := if sg = 43 then 6 else if sg = 45 then 7 else if sg = 42 then 8 else if sg = 47 then 9 else if sg = 37 then 10 else if sg = 271 then 11 else if sg = 272 then 12 else if sg = 60 then 13 else if sg = 62 then 14 else if sg = 61 then 15 else if sg = 265 then 16 else 17
def r9 (a : Int) : Prop := -1000000000 ≤ a ∧ a ≤ 1000000000
def b01 (a : Int) : Prop := a = 0 ∨ a = 1
theorem M_held {a : Int} : F_M_held a τ = some (cap9 a, τ) := by
  unfold F_M_held F_M_held_29 cap9
  by_cases h : a ≤ 1000000000
  · rw [if_pos (lcmp_le.mpr h), if_neg (c := 1000000000 < a) (by omega)]
    by_cases h2 : -1000000000 ≤ a
    · rw [if_pos (lcmp_ge.mpr h2), if_neg (c := a < -1000000000) (by omega)]
    · rw [if_neg (fun z => h2 (lcmp_ge.mp z)), if_pos (c := a < -1000000000) (by omega)]
  · rw [if_neg (fun z => h (lcmp_le.mp z)), if_pos (c := 1000000000 < a) (by omega)]
theorem C_capped {a : Int} : F_Net_capped a σ = some (cap9 a, σ) := by
  have hr := cap9_rng a
  unfold F_Net_capped F_Net_capped_29
  by_cases h : a ≤ 1000000000
  · rw [if_pos (lcmp_le.mpr h)]
    by_cases h2 : -1000000000 ≤ a
    · rw [if_pos (lcmp_ge.mpr h2), w32_id (by omega)]
      unfold cap9
      rw [if_neg (by omega), if_neg (by omega)]
    · rw [if_neg (fun z => h2 (lcmp_ge.mp z)), w32_id (by decide)]
      unfold cap9
      rw [if_neg (by omega), if_pos (by omega)]
  · rw [if_neg (fun z => h (lcmp_le.mp z)), w32_id (by decide)]
    unfold cap9
    rw [if_pos (by omega)]
theorem mul_r9 {a c : Int} (ha : r9 a) (hc : r9 c) : -1000000000000000000 ≤ a * c ∧ a * c ≤ 1000000000000000000 := by
  obtain ⟨a1, a2⟩ := ha
  obtain ⟨c1, c2⟩ := hc
  have key : ∀ x y : Int, 0 ≤ x → x ≤ 1000000000 → 0 ≤ y → y ≤ 1000000000 → 0 ≤ x * y ∧ x * y ≤ 1000000000000000000 := by
    intro x y x0 x1 y0 y1
    refine ⟨Int.mul_nonneg x0 y0, ?_⟩
    have h1 := Int.mul_le_mul_of_nonneg_right x1 y0
    omega
  by_cases pa : 0 ≤ a
  · by_cases pc : 0 ≤ c
    · have := key a c pa a2 pc c2
      omega
    · have := key a (-c) pa a2 (by omega) (by omega)
      rw [Int.mul_neg] at this
      omega
  · by_cases pc : 0 ≤ c
    · have := key (-a) c (by omega) (by omega) pc c2
      rw [Int.neg_mul] at this
      omega
    · have := key (-a) (-c) (by omega) (by omega) (by omega) (by omega)
      rw [Int.neg_mul_neg] at this
      omega
theorem flr_r9 {a c : Int} (ha : r9 a) : r9 (flr a c) := by
  by_cases h : c = 0
  · unfold flr
    rw [if_pos h]
    exact ⟨by decide, by decide⟩
  · have := flr_rng (a := a) h
    obtain ⟨a1, a2⟩ := ha
    unfold r9
    by_cases p : 0 ≤ a
    · have := this.1 p; omega
    · have := this.2 (by omega); omega
theorem rest_r9 {a c : Int} (hc : r9 c) (h : c ≠ 0) : r9 (a - c * flr a c) := by
  have := flr_fl (a := a) h
  obtain ⟨c1, c2⟩ := hc
  unfold r9
  rw [Int.mul_comm]
  rcases Int.lt_or_lt_of_ne h with x | x
  · have := this.2 x; omega
  · have := this.1 x; omega
theorem jn_r9 {op a c : Int} (ha : r9 a) (hc : r9 c) (h16 : op = 16 → b01 a ∧ b01 c) : r9 (jn op a c) := by
  unfold jn
  by_cases e1 : op = 6
  · rw [if_pos e1]; exact cap9_rng _
  rw [if_neg e1]
  by_cases e2 : op = 7
  · rw [if_pos e2]; exact cap9_rng _
  rw [if_neg e2]
  by_cases e3 : op = 8
  · rw [if_pos e3]; exact cap9_rng _
  rw [if_neg e3]
  by_cases e4 : op = 9
  · rw [if_pos e4]; exact flr_r9 ha
  rw [if_neg e4]
  by_cases e5 : op = 10
  · rw [if_pos e5]
    by_cases z : c = 0
    · rw [if_pos z]; exact ⟨by decide, by decide⟩
    · rw [if_neg z]; exact rest_r9 hc z
  rw [if_neg e5]
  obtain ⟨a1, a2⟩ := ha
  obtain ⟨c1, c2⟩ := hc
  by_cases e6 : op = 11
  · rw [if_pos e6]; unfold r9; omega
  rw [if_neg e6]
  by_cases e7 : op = 12
  · rw [if_pos e7]; unfold r9; omega
  rw [if_neg e7]
  by_cases e8 : op = 13
  · rw [if_pos e8]; unfold r9; split <;> decide
  rw [if_neg e8]
  by_cases e9 : op = 14
  · rw [if_pos e9]; unfold r9; split <;> decide
  rw [if_neg e9]
  by_cases e10 : op = 15
  · rw [if_pos e10]; unfold r9; split <;> decide
  rw [if_neg e10]
  by_cases e11 : op = 16
  · rw [if_pos e11]
    obtain ⟨h1, h2⟩ := h16 e11
    rcases h1 with h1 | h1 <;> rcases h2 with h2 | h2 <;> rw [h1, h2] <;> exact ⟨by decide, by decide⟩
  rw [if_neg e11]
  unfold r9
  split <;> decide
theorem jn_b01 {op a c : Int} (hop : op = 13 ∨ op = 14 ∨ op = 15 ∨ op = 17 ∨ (op = 16 ∧ b01 a ∧ b01 c)) : b01 (jn op a c) := by
  unfold jn
  rcases hop with h | h | h | h | ⟨h, h1, h2⟩ <;> subst h
  · simp only [if_pos, if_neg, Int.reduceEq, if_false, if_true]
    unfold b01; split <;> simp
  · simp only [Int.reduceEq, if_false, if_true]
    unfold b01; split <;> simp
  · simp only [Int.reduceEq, if_false, if_true]
    unfold b01; split <;> simp
  · simp only [Int.reduceEq, if_false, if_true]
    unfold b01; split <;> simp
  · simp only [Int.reduceEq, if_false, if_true]
    rcases h1 with h1 | h1 <;> rcases h2 with h2 | h2 <;> rw [h1, h2] <;> unfold b01 <;> simp
theorem M_joined {op a c : Int} (hop : 6 ≤ op ∧ op ≤ 17) (ha : r9 a) (hc : r9 c) : F_M_joined op a c τ = some (jn op a c, τ) := by
  have hm := mul_r9 ha hc
  have hf := flr_r9 (c := c) ha
  obtain ⟨a1, a2⟩ := id ha
  obtain ⟨c1, c2⟩ := id hc
  unfold F_M_joined jn
  by_cases e1 : op = 6
  · rw [if_pos e1, if_pos e1, ladd_ok (by omega), M_held, cl2_some]
  rw [if_neg e1, if_neg e1]
  by_cases e2 : op = 7
  · rw [if_pos e2, if_pos e2, lsub_ok (by omega), M_held, cl2_some]
  rw [if_neg e2, if_neg e2]
  by_cases e3 : op = 8
  · rw [if_pos e3, if_pos e3, lmul_ok (by omega), M_held, cl2_some]
  rw [if_neg e3, if_neg e3]
  by_cases e4 : op = 9
  · rw [if_pos e4, if_pos e4, M_over _ (by omega), cl2_some]
  rw [if_neg e4, if_neg e4]
  by_cases e5 : op = 10
  · rw [if_pos e5, if_pos e5]
    by_cases z : c = 0
    · rw [if_pos (lcmp_eq.mpr z), if_pos z]; rfl
    · have hm2 := mul_r9 hc hf
      rw [if_neg (fun y => z (lcmp_eq.mp y)), if_neg z, M_over _ (by omega), cl2_some, lmul_ok (by omega), lsub_ok (by omega)]; rfl
  rw [if_neg e5, if_neg e5]
  by_cases e6 : op = 11
  · rw [if_pos e6, if_pos e6]
    unfold F_M_joined_118
    by_cases z : c ≤ a
    · rw [if_pos (lcmp_ge.mpr z)]; congr 2; omega
    · rw [if_neg (fun y => z (lcmp_ge.mp y))]; congr 2; omega
  rw [if_neg e6, if_neg e6]
  by_cases e7 : op = 12
  · rw [if_pos e7, if_pos e7]
    unfold F_M_joined_130
    by_cases z : a ≤ c
    · rw [if_pos (lcmp_le.mpr z)]; congr 2; omega
    · rw [if_neg (fun y => z (lcmp_le.mp y))]; congr 2; omega
  rw [if_neg e7, if_neg e7]
  by_cases e8 : op = 13
  · rw [if_pos e8, if_pos e8]
    unfold F_M_joined_142
    by_cases z : c ≤ a
    · rw [if_pos (lcmp_ge.mpr z), if_neg (by omega)]
    · rw [if_neg (fun y => z (lcmp_ge.mp y)), if_pos (by omega)]
  rw [if_neg e8, if_neg e8]
  by_cases e9 : op = 14
  · rw [if_pos e9, if_pos e9]
    unfold F_M_joined_154
    by_cases z : a ≤ c
    · rw [if_pos (lcmp_le.mpr z), if_neg (by omega)]
    · rw [if_neg (fun y => z (lcmp_le.mp y)), if_pos (by omega)]
  rw [if_neg e9, if_neg e9]
  by_cases e10 : op = 15
  · rw [if_pos e10, if_pos e10]
    unfold F_M_joined_166
    by_cases z : a = c
    · rw [if_pos (lcmp_eq.mpr z), if_pos z]
    · rw [if_neg (fun y => z (lcmp_eq.mp y)), if_neg z]
  rw [if_neg e10, if_neg e10]
  by_cases e11 : op = 16
  · rw [if_pos e11, if_pos e11, lmul_ok (by omega)]
  rw [if_neg e11, if_neg e11, ladd_ok (by omega)]
  unfold F_M_joined_184
  by_cases z : a + c ≤ 0
  · rw [if_pos (lcmp_le.mpr z), if_neg (by omega)]
  · rw [if_neg (fun y => z (lcmp_le.mp y)), if_pos (by omega)]
def sgOk (sg : Int) : Prop := sg = 37 ∨ sg = 42 ∨ sg = 43 ∨ sg = 45 ∨ sg = 47 ∨ sg = 60 ∨ sg = 61 ∨ sg = 62 ∨ sg = 264 ∨ sg = 265 ∨ sg = 271 ∨ sg = 272
theorem C_joined {sg a c : Int} (hs : sgOk sg) (ha : r9 a) (hc : r9 c) (hb : sg = 264 ∨ sg = 265 → b01 a ∧ b01 c) : F_Net_joined sg a c σ = some (jn (opc sg) a c, σ) := by
  have hm := mul_r9 ha hc
  obtain ⟨a1, a2⟩ := id ha
  obtain ⟨c1, c2⟩ := id hc
  unfold F_Net_joined F_Net_joined_140 F_Net_joined_154 F_Net_joined_165 F_Net_joined_176 F_Net_joined_187 opc jn
  rcases hs with h | h | h | h | h | h | h | h | h | h | h | h <;> subst h
  · simp only [Int.reduceEq, if_false, if_true]
    by_cases z : c = 0
    · rw [if_pos z, if_pos z]
    · rw [if_neg z, if_neg z, C_floorMod _ _ (by omega) (by omega) z, cl2_some]
  · simp only [Int.reduceEq, if_false, if_true]
    rw [lmul_ok (by omega), C_capped, cl2_some]
  · simp only [Int.reduceEq, if_false, if_true]
    rw [ladd_ok (by omega), C_capped, cl2_some]
  · simp only [Int.reduceEq, if_false, if_true]
    rw [lsub_ok (by omega), C_capped, cl2_some]
  · simp only [Int.reduceEq, if_false, if_true]
    by_cases z : c = 0
    · rw [if_pos z, z]; rfl
    · rw [if_neg z, C_floorDiv _ _ (by omega) (by omega) z, cl2_some]
  · simp only [Int.reduceEq, if_false, if_true]
    by_cases z : c ≤ a
    · rw [if_pos z, if_neg (by omega)]
    · rw [if_neg z, if_pos (by omega)]
  · simp only [Int.reduceEq, if_false, if_true]
    by_cases z : a = c
    · rw [if_pos z, if_pos z]
    · rw [if_neg z, if_neg z]
  · simp only [Int.reduceEq, if_false, if_true]
    by_cases z : a ≤ c
    · rw [if_pos z, if_neg (by omega)]
    · rw [if_neg z, if_pos (by omega)]
  · simp only [Int.reduceEq, if_false, if_true]
    obtain ⟨h1, h2⟩ := hb (Or.inl rfl)
    rcases h1 with h1 | h1 <;> rcases h2 with h2 | h2 <;> rw [h1, h2] <;> rfl
  · simp only [Int.reduceEq, if_false, if_true]
    obtain ⟨h1, h2⟩ := hb (Or.inr rfl)
    rcases h1 with h1 | h1 <;> rcases h2 with h2 | h2 <;> rw [h1, h2] <;> rfl
  · simp only [Int.reduceEq, if_false, if_true]
    unfold imin
    congr 2
    split <;> omega
  · simp only [Int.reduceEq, if_false, if_true]
    unfold imax
    congr 2
    split <;> omega
/-! the class's code: what the stack holds behind a part of it -/
def gW (Ws : List FV) (k day : Nat) : Int := (Ws[k]?.getD (fun _ => 0)) day
theorem gW_old {Ws : List FV} {V : FV} {k day : Nat} (h : k < Ws.length) : gW (Ws ++ [V]) k day = gW Ws k day := by
  unfold gW
  rw [List.getElem?_append_left h]
theorem gW_new {Ws : List FV} {V : FV} {day : Nat} : gW (Ws ++ [V]) Ws.length day = V day := by
  unfold gW
  rw [List.getElem?_append_right (Nat.le_refl _), Nat.sub_self]
  rfl
theorem lenW {Ws : List FV} {V : FV} : (Ws ++ [V]).length = Ws.length + 1 := List.length_append
def stkC (u : Hp) (nn : Nat) (Ws : List FV) (day : Nat) : Prop := u nn 13 = (Ws.length : Nat) ∧ ∀ k, k < Ws.length → u (nn + 37) k = gW Ws k day
def RC (s : Hp) (nn c0 c : Nat) (Ws : List FV) : Prop := c0 + Ws.length ≤ c ∧ c ≤ 900 ∧ ∀ (day : Nat) (u : Hp), day < 1000 → (∀ k, c0 ≤ k → k < c → u (nn + 36) k = s (nn + 36) k) → ∀ (a1 a2 : Int), (c : Int) ≤ a2 → ∃ u', (∀ m, F_Net_reckoned_8 nn a1 a2 day (m + (c - c0)) ((c0 : Int), hset u nn 13 0) = F_Net_reckoned_8 nn a1 a2 day m ((c : Int), u')) ∧ stkC u' nn Ws day ∧ evF nn u u'
theorem evF_h {u : Hp} {v : Int} : evF nn u (hset u nn 13 v) := ⟨fun q a _ => by rw [hset_obj _ _ _ _ a], fun i a => by rw [hset_get, if_neg (by omega)]⟩
theorem RC_nil {c : Nat} (hc : c ≤ 900) : RC s nn c c [] := ⟨Nat.le_refl _, hc, fun day u _ _ a1 a2 _ => ⟨hset u nn 13 0, fun m => by rw [Nat.sub_self]; rfl, ⟨hset_same _ _ _ _, fun k h => absurd h (Nat.not_lt_zero _)⟩, evF_h⟩⟩
theorem RC_step {c0 c : Nat} {Ws Ws' : List FV} (hn : isNet nn) (h : RC s nn c0 c Ws) (hc : c < 900) (hl : Ws'.length ≤ Ws.length + 1) {s' : Hp} (ha : ∀ k, k < c → s' (nn + 36) k = s (nn + 36) k)
    (hst : ∀ (day : Nat) (u : Hp), day < 1000 → stkC u nn Ws day → ∃ u', F_Net_step nn (s' (nn + 36) c) day u = some (0, u') ∧ stkC u' nn Ws' day ∧ evF nn u u') : RC s' nn c0 (c + 1) Ws' := by
  have hn' : nn = 50 ∨ nn = 4 := hn
  refine ⟨by have := h.1; omega, by omega, fun day u hd hu a1 a2 h2 => ?_⟩
  obtain ⟨u1, e1, st1, ev1⟩ := h.2.2 day u hd (fun k k1 k2 => by rw [hu k k1 (by omega), ha k k2]) a1 a2 (by omega)
  obtain ⟨u2, e2, st2, ev2⟩ := hst day u1 hd st1
  refine ⟨u2, fun m => ?_, st2, evF_trans ev1 ev2⟩
  have e : m + (c + 1 - c0) = (m + 1) + (c - c0) := by have := h.1; omega
  rw [e, e1 (m + 1)]
  unfold F_Net_reckoned_8
  rw [loopF_s]
  dsimp only
  unfold F_Net_reckoned_8_b
  have ec : u1 (nn + 36) c = s' (nn + 36) c := by rw [ev1.1 _ (by omega) (by omega)]; exact hu c (by have := h.1; omega) (by omega)
  rw [if_neg (by omega), if_neg (by omega), gd_pos (by omega), Int.toNat_natCast, ec, e2, cl2_some, lt_eq, iadd_ok (by omega)]
  rfl
theorem C_push {u : Hp} {Ws : List FV} {day : Nat} {V : FV} (hn : isNet nn) (h : stkC u nn Ws day) (hl : Ws.length < 64) : ∃ u', F_Net_push nn (V day) u = some (0, u') ∧ stkC u' nn (Ws ++ [V]) day ∧ evF nn u u' := by
  have hn' : nn = 50 ∨ nn = 4 := hn
  refine ⟨hset (hset u (nn + 37) Ws.length (V day)) nn 13 ((Ws.length : Int) + 1), ?_, ⟨?_, fun k hk => ?_⟩, fun q a1 a2 => ?_, fun i hi => ?_⟩
  · unfold F_Net_push F_Net_push_29
    rw [gd_pos hn, h.1, if_neg (by omega), gd_pos (by omega), lt_eq, Int.toNat_natCast, lt_eq, hset_obj _ _ _ _ (by omega), h.1, iadd_ok (by omega)]
  · rw [hset_same, lenW]
    omega
  · rw [lenW] at hk
    rw [hset_obj _ _ _ _ (by omega), hset_row]
    dsimp only
    by_cases e : k = Ws.length
    · rw [if_pos e, e, gW_new]
    · rw [if_neg e, gW_old (by omega)]
      exact h.2 k (by omega)
  · rw [hset_obj _ _ _ _ a1, hset_obj _ _ _ _ a2]
  · rw [hset_get, if_neg (by omega), hset_obj _ _ _ _ (by omega)]
theorem C_pop {u : Hp} {Ws : List FV} {day : Nat} {V : FV} (hn : isNet nn) (h : stkC u nn (Ws ++ [V]) day) (hl : Ws.length < 64) : ∃ u', F_Net_pop nn u = some (V day, u') ∧ stkC u' nn Ws day ∧ evF nn u u' := by
  have hn' : nn = 50 ∨ nn = 4 := hn
  obtain ⟨h1, h2⟩ := h
  rw [lenW] at h1 h2
  refine ⟨hset u nn 13 (Ws.length : Int), ?_, ⟨hset_same _ _ _ _, fun k hk => ?_⟩, evF_h⟩
  · unfold F_Net_pop
    rw [gd_pos hn, h1, if_neg (by omega), isub_ok (by omega), lt_eq]
    have e : ((Ws.length + 1 : Nat) : Int) - 1 = (Ws.length : Int) := by omega
    rw [e, hset_same, gd_pos (by omega), Int.toNat_natCast, hset_obj _ _ _ _ (by omega), h2 _ (by omega), gW_new]
  · rw [hset_obj _ _ _ _ (by omega), h2 k (by omega), gW_old hk]
theorem RC_push {c0 c : Nat} {Ws : List FV} {v : Int} (hn : isNet nn) (h : RC s nn c0 c Ws) (hc : c < 900) (hl : Ws.length < 64) (hv : 0 ≤ v ∧ v ≤ 100000) {s' : Hp} (ha : ∀ k, k < c → s' (nn + 36) k = s (nn + 36) k) (hcv : s' (nn + 36) c = v) : RC s' nn c0 (c + 1) (Ws ++ [fun _ => v]) := by
  refine RC_step hn h hc (by rw [lenW]; exact Nat.le_refl _) ha (fun day u hd hst => ?_)
  obtain ⟨u', e, h1, h2⟩ := C_push (V := fun _ => v) hn hst hl
  refine ⟨u', ?_, h1, h2⟩
  have e : F_Net_push nn v u = some (0, u') := e
  rw [hcv]
  unfold F_Net_step F_Net_step_79 F_Net_step_110
  rw [gd_pos hn, ineg_ok (by omega), if_neg (by omega), if_neg (by omega), if_neg (by omega), if_neg (by omega), if_neg (by omega), if_neg (by omega), e, cl2_some]
def dyV (k : Int) : FV := fun day => if k = 268 then (day : Int) else if k = 269 then ((day / 7 : Nat) : Int) else ((day % 7 : Nat) : Int)
theorem RC_day {c0 c : Nat} {Ws : List FV} {k : Int} (hn : isNet nn) (h : RC s nn c0 c Ws) (hc : c < 900) (hl : Ws.length < 64) (hk : k = 268 ∨ k = 269 ∨ k = 270) {s' : Hp} (ha : ∀ k, k < c → s' (nn + 36) k = s (nn + 36) k) (hcv : s' (nn + 36) c = -k) : RC s' nn c0 (c + 1) (Ws ++ [dyV k]) := by
  refine RC_step hn h hc (by rw [lenW]; exact Nat.le_refl _) ha (fun day u hd hst => ?_)
  obtain ⟨u', e, h1, h2⟩ := C_push (V := dyV k) hn hst hl
  refine ⟨u', ?_, h1, h2⟩
  rw [hcv]
  have t7 : idiv (day : Int) 7 = ((day / 7 : Nat) : Int) := by
    unfold idiv
    rw [Int.tdiv_eq_ediv_of_nonneg (by omega), w32_id (by omega)]
    omega
  have m7 : irem (day : Int) 7 = ((day % 7 : Nat) : Int) := by
    unfold irem
    rw [Int.tmod_eq_emod_of_nonneg (by omega)]
    omega
  unfold F_Net_step F_Net_step_110
  rw [gd_pos hn, t7, m7]
  rcases hk with rfl | rfl | rfl
  · have e : F_Net_push nn (day : Int) u = some (0, u') := e
    rw [ineg_ok (by decide), if_neg (by decide), if_neg (by decide), if_pos (by decide), e, cl2_some]
  · have e : F_Net_push nn ((day / 7 : Nat) : Int) u = some (0, u') := e
    rw [ineg_ok (by decide), if_neg (by decide), if_neg (by decide), if_neg (by decide), if_pos (by decide), e, cl2_some]
  · have e : F_Net_push nn ((day % 7 : Nat) : Int) u = some (0, u') := e
    rw [ineg_ok (by decide), if_neg (by decide), if_neg (by decide), if_neg (by decide), if_neg (by decide), if_pos (by decide), e, cl2_some]
def VR (V : FV) : Prop := ∀ day, day < 1000 → r9 (V day)
def VB (V : FV) : Prop := ∀ day, day < 1000 → b01 (V day)
theorem VB.vr {V : FV} (h : VB V) : VR V := fun day hd => by
  rcases h day hd with e | e <;> rw [e] <;> exact ⟨by decide, by decide⟩
def ntV (V : FV) : FV := fun day => 1 - V day
def jnV (op : Int) (A B : FV) : FV := fun day => jn op (A day) (B day)
theorem RC_not {c0 c : Nat} {Ws : List FV} {V : FV} (hn : isNet nn) (h : RC s nn c0 c (Ws ++ [V])) (hc : c < 900) (hl : Ws.length < 64) (hv : VB V) {s' : Hp} (ha : ∀ k, k < c → s' (nn + 36) k = s (nn + 36) k) (hcv : s' (nn + 36) c = -266) : RC s' nn c0 (c + 1) (Ws ++ [ntV V]) := by
  refine RC_step hn h hc (by rw [lenW, lenW]; omega) ha (fun day u hd hst => ?_)
  obtain ⟨u1, e1, h1, f1⟩ := C_pop hn hst hl
  obtain ⟨u2, e2, h2, f2⟩ := C_push (V := ntV V) hn h1 hl
  refine ⟨u2, ?_, h2, evF_trans f1 f2⟩
  have hb := hv day hd
  have e2 : F_Net_push nn (1 - V day) u1 = some (0, u2) := e2
  rw [hcv]
  unfold F_Net_step F_Net_step_110
  rw [gd_pos hn, ineg_ok (by decide), if_pos (by decide), e1, cl2_some, isub_ok (by unfold b01 at hb; omega), e2, cl2_some]
theorem RC_op {c0 c : Nat} {Ws : List FV} {A B : FV} {sg : Int} (hn : isNet nn) (h : RC s nn c0 c (Ws ++ [A] ++ [B])) (hc : c < 900) (hl : Ws.length + 1 < 64) (hs : sgOk sg) (hA : VR A) (hB : VR B) (hb : sg = 264 ∨ sg = 265 → VB A ∧ VB B) {s' : Hp} (ha : ∀ k, k < c → s' (nn + 36) k = s (nn + 36) k) (hcv : s' (nn + 36) c = -sg) : RC s' nn c0 (c + 1) (Ws ++ [jnV (opc sg) A B]) := by
  refine RC_step hn h hc (by rw [lenW, lenW, lenW]; omega) ha (fun day u hd hst => ?_)
  obtain ⟨u1, e1, h1, f1⟩ := C_pop hn hst (by rw [lenW]; omega)
  obtain ⟨u2, e2, h2, f2⟩ := C_pop hn h1 (by omega)
  obtain ⟨u3, e3, h3, f3⟩ := C_push (V := jnV (opc sg) A B) hn h2 (by omega)
  refine ⟨u3, ?_, h3, evF_trans f1 (evF_trans f2 f3)⟩
  have e3 : F_Net_push nn (jn (opc sg) (A day) (B day)) u2 = some (0, u3) := e3
  rw [hcv]
  unfold F_Net_step F_Net_step_79 F_Net_step_110
  have hs' := hs
  unfold sgOk at hs'
  rw [gd_pos hn, ineg_ok (by omega), if_neg (by omega), if_neg (by omega), if_neg (by omega), if_neg (by omega), if_neg (by omega), if_pos (by omega), e1, cl2_some, e2, cl2_some, Int.neg_neg, C_joined hs (hA day hd) (hB day hd) (fun z => ⟨(hb z).1 day hd, (hb z).2 day hd⟩), cl2_some, e3, cl2_some]
theorem RC_congr {c0 c : Nat} {Ws : List FV} (h : RC s nn c0 c Ws) {s' : Hp} (ha : ∀ k, k < c → s' (nn + 36) k = s (nn + 36) k) : RC s' nn c0 c Ws := ⟨h.1, h.2.1, fun day u hd hu => h.2.2 day u hd (fun k k1 k2 => by rw [hu k k1 k2, ha k k2])⟩
theorem RC_done {c0 c : Nat} {V : FV} (hn : isNet nn) (h : RC s nn c0 c [V]) {day : Nat} {u : Hp} (hd : day < 1000) (hu : ∀ k, c0 ≤ k → k < c → u (nn + 36) k = s (nn + 36) k) : wp (F_Net_reckoned nn c0 c day u) (fun z u' => z = V day ∧ evF nn u u') := by
  obtain ⟨u1, e1, st1, ev1⟩ := h.2.2 day u hd hu c0 c (Int.le_refl _)
  have hc := h.2.1
  have h0 : [V] = ([] : List FV) ++ [V] := rfl
  rw [h0] at st1
  obtain ⟨u2, e2, st2, ev2⟩ := C_pop hn st1 (by decide)
  unfold F_Net_reckoned
  rw [gd_pos hn, lt_eq]
  have e : FU = (19999 - (c - c0)) + 1 + (c - c0) := by
    rw [FU_eq]
    omega
  rw [e, e1]
  unfold F_Net_reckoned_8
  rw [loopF_s]
  dsimp only
  unfold F_Net_reckoned_8_b F_Net_reckoned_40
  rw [if_pos (Int.le_refl _), e2, cl2_some]
  exact wp_ret ⟨rfl, evF_trans ev1 ev2⟩
end Code
