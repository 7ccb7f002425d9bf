/-! WHAT HOLDS BETWEEN THE CALLS; the calls that only look -/
def NamC (σ : Hp) (n : Nat) (d : ND) : Prop := ∀ w, w < dW d → σ (n + 1) w = pk5 (nm d w)
def NamM (τ : Hp) (b : Nat) (d : ND) : Prop := ∀ w, w < dW d → τ 6 (12 * b + w) = pk8 (nm d w)
def nowOf (A : AD) (kn : Int) (now : Nat) : Prop := -1 ≤ kn ∧ kn ≤ aN A ∧ (now : Int) = if kn = -1 then (aN A : Int) else kn
def PlnC (σ : Hp) (n : Nat) (d : ND) (ow : Nat → Int) : Prop := (σ 0 16 = 0 ∨ σ 0 16 = 1) ∧ (σ 0 16 = 0 → PlanC σ 112 n d ow ∧ TwOk σ 112 d ow ∧ BdOk σ 112 d ow) ∧ σ 139 0 = 0 ∧ σ 169 0 = 0
def ClsI (σ : Hp) (n : Nat) (d : ND) (A : AD) (kn : Int) (now day : Nat) : Prop :=
  NetC σ n d ∧ CodeC σ n d ∧ NamC σ n d ∧ ActsC σ A ∧ (σ 0 3 = n ∧ σ 3 1 = 54 - (n : Int) ∧ σ 0 12 = kn ∧ σ 0 11 = day) ∧ ViewC σ n d (owd d A day now) ∧ PlnC σ n d (owd d A day now)
def MdlI (τ : Hp) (b : Nat) (d : ND) (A : AD) (kn : Int) (day : Nat) : Prop :=
  NetM τ b d ∧ CodeM τ b d ∧ NamM τ b d ∧ ActsM τ A ∧ τ 0 44 = kn ∧ τ 0 42 = day
abbrev DL : Type := (Nat → Bool) × (Nat → Int)
/-- a name: one to six letters of one to 26 -/
def nmOk (l : List Nat) : Prop := 1 ≤ l.length ∧ l.length ≤ 6 ∧ ∀ x ∈ l, 1 ≤ x ∧ x ≤ 26
def DLok (d : ND) (D : DL) : Prop := (∀ w, w < dW d → nmOk (nm d w)) ∧ ∀ r, D.1 r = true → r < dR d ∧ -1000000 ≤ D.2 r ∧ D.2 r ≤ 1000000 ∧ ∀ r', D.1 r' = true → r' ≠ r → fs d r ≠ fs d r' ∧ fs d r ≠ sn d r' ∧ sn d r ≠ fs d r' ∧ sn d r ≠ sn d r'
def dlN (D : DL) : Nat → Nat
  | 0 => 0
  | r + 1 => dlN D r + if D.1 r = true then 1 else 0
def DlsI (σ τ : Hp) (D : DL) : Prop := (∀ r, r < 30 → σ 174 r = (if D.1 r = true then 1 else 0) ∧ τ 42 r = (if D.1 r = true then 1 else 0) ∧ (D.1 r = true → σ 175 r = D.2 r ∧ τ 43 r = D.2 r)) ∧ σ 173 2 = dlN D 30
def OutI (σ τ : Hp) : Prop := (σ 0 13 = τ 0 10 ∧ σ 0 14 = τ 0 11 ∧ σ 0 15 = τ 0 67) ∧ (0 ≤ σ 1 1 ∧ σ 1 1 ≤ 900 ∧ σ 1 1 = τ 0 1 ∧ ∀ k, k < 900 → τ 1 k = σ 2 k % 256) ∧ (0 ≤ σ 181 1 ∧ σ 181 1 ≤ 59 ∧ σ 181 1 = τ 0 71 ∧ ∀ k : Nat, (k : Int) < σ 181 1 → τ 49 k = σ 182 k % 256)
def InvAt (σ τ : Hp) (n b : Nat) (d : ND) (A : AD) (kn : Int) (now day : Nat) (D : DL) : Prop :=
  (NDok d ∧ ADok A ∧ nowOf A kn now ∧ day < 1000 ∧ DLok d D) ∧ ClsI σ n d A kn now day ∧ MdlI τ b d A kn day ∧ DlsI σ τ D ∧ OutI σ τ
def Inv (σ τ : Hp) : Prop := ∃ n b d A kn now day D, InvAt σ τ n b d A kn now day D
theorem nowOf.le {A : AD} {kn : Int} {now : Nat} (h : nowOf A kn now) : now ≤ aN A := by
  obtain ⟨h1, h2, h3⟩ := h
  split at h3 <;> omega
/-- the class's objects that a look at the state may not change -/
def keepC (q : Nat) : Prop := q ≤ 87 ∨ (112 ≤ q ∧ q ≤ 141) ∨ (173 ≤ q ∧ q ≤ 175) ∨ q = 181 ∨ q = 182
def keepM (q : Nat) : Prop := (1 ≤ q ∧ q ≤ 18) ∨ (25 ≤ q ∧ q ≤ 27) ∨ (42 ≤ q ∧ q ≤ 43) ∨ q = 49
def keepM0 (i : Nat) : Prop := i = 1 ∨ (10 ≤ i ∧ i ≤ 12) ∨ (42 ≤ i ∧ i ≤ 44) ∨ i = 67 ∨ i = 71
theorem MdlI.congr {τ t : Hp} {b : Nat} {d : ND} {A : AD} {kn : Int} {day : Nat} (h : MdlI τ b d A kn day) (h1 : ∀ q, (2 ≤ q ∧ q ≤ 18) ∨ (25 ≤ q ∧ q ≤ 27) → t q = τ q) (h2 : ∀ i, i = 12 ∨ (42 ≤ i ∧ i ≤ 44) → t 0 i = τ 0 i) : MdlI t b d A kn day := by
  obtain ⟨a1, a2, a3, a4, a5, a6⟩ := h
  refine ⟨a1.congr (h2 _ (by omega)) (fun q x y => h1 q (by omega)), a2.congr (fun q x y => h1 q (by omega)), fun w hw => by rw [h1 6 (by omega)]; exact a3 w hw, ⟨by rw [h2 43 (by omega)]; exact a4.1, fun k x y => ?_⟩, by rw [h2 44 (by omega)]; exact a5, by rw [h2 42 (by omega)]; exact a6⟩
  rw [h1 25 (by omega), h1 26 (by omega), h1 27 (by omega)]
  exact a4.2 k x y
theorem InvAt.setC {σ τ s : Hp} {n b : Nat} {d : ND} {A : AD} {kn : Int} {now day : Nat} {D : DL} (h : InvAt σ τ n b d A kn now day D) (h1 : ∀ q, keepC q ∧ q ≠ 0 ∧ ¬ (112 ≤ q ∧ q ≤ 141) → s q = σ q) (h0 : ∀ i, i ≠ 16 → s 0 i = σ 0 i) (hV : ViewC s n d (owd d A day now)) (hP : PlnC s n d (owd d A day now)) : InvAt s τ n b d A kn now day D := by
  obtain ⟨g, ⟨c1, c2, c3, c4, c5, c6, c7⟩, m, ⟨d1, d2⟩, o1, o2, o3⟩ := h
  have k : ∀ q, 1 ≤ q → q ≤ 87 → s q = σ q := fun q a b => h1 q ⟨Or.inl b, by omega, by omega⟩
  have hn : n = 50 ∨ n = 4 := c1.1
  refine ⟨g, ⟨c1.congr (fun i _ => by rw [k n (by omega) (by omega)]) (fun q a b => k q (by omega) (by omega)), c2.congr (fun q a b => k q (by omega) (by omega)), fun w hw => ?_, ⟨?_, fun q hq => ?_⟩, ⟨?_, ?_, ?_, ?_⟩, hV, hP⟩, m, ⟨fun r hr => ?_, ?_⟩, ?_, ?_, ?_⟩
  · rw [k (n + 1) (by omega) (by omega)]; exact c3 w hw
  · rw [k 46 (by omega) (by omega)]; exact c4.1
  · rw [k 47 (by omega) (by omega), k 48 (by omega) (by omega), k 49 (by omega) (by omega)]; exact c4.2 q hq
  · rw [h0 3 (by omega)]; exact c5.1
  · rw [k 3 (by omega) (by omega)]; exact c5.2.1
  · rw [h0 12 (by omega)]; exact c5.2.2.1
  · rw [h0 11 (by omega)]; exact c5.2.2.2
  · rw [h1 174 ⟨Or.inr (Or.inr (Or.inl (by omega))), by omega, by omega⟩, h1 175 ⟨Or.inr (Or.inr (Or.inl (by omega))), by omega, by omega⟩]; exact d1 r hr
  · rw [h1 173 ⟨Or.inr (Or.inr (Or.inl (by omega))), by omega, by omega⟩]; exact d2
  · rw [h0 13 (by omega), h0 14 (by omega), h0 15 (by omega)]; exact o1
  · rw [k 1 (by omega) (by omega), k 2 (by omega) (by omega)]; exact o2
  · rw [h1 181 ⟨Or.inr (Or.inr (Or.inr (Or.inl rfl))), by omega, by omega⟩, h1 182 ⟨Or.inr (Or.inr (Or.inr (Or.inr rfl))), by omega, by omega⟩]; exact o3
theorem InvAt.setM {σ τ t : Hp} {n b : Nat} {d : ND} {A : AD} {kn : Int} {now day : Nat} {D : DL} (h : InvAt σ τ n b d A kn now day D) (h1 : ∀ q, keepM q → t q = τ q) (h0 : ∀ i, keepM0 i → t 0 i = τ 0 i) : InvAt σ t n b d A kn now day D := by
  obtain ⟨g, c, m, ⟨d1, d2⟩, o1, o2, o3⟩ := h
  refine ⟨g, c, m.congr (fun q hq => h1 q (by unfold keepM; omega)) (fun i hi => h0 i (by unfold keepM0; omega)), ⟨fun r hr => ?_, d2⟩, ?_, ?_, ?_⟩
  · rw [h1 42 (by unfold keepM; omega), h1 43 (by unfold keepM; omega)]; exact d1 r hr
  · rw [h0 10 (by unfold keepM0; omega), h0 11 (by unfold keepM0; omega), h0 67 (by unfold keepM0; omega)]; exact o1
  · rw [h0 1 (by unfold keepM0; omega), h1 1 (by unfold keepM; omega)]; exact o2
  · rw [h0 71 (by unfold keepM0; omega), h1 49 (by unfold keepM; omega)]; exact o3
theorem InvAt.frM {σ τ t : Hp} {n b : Nat} {d : ND} {A : AD} {kn : Int} {now day : Nat} {D : DL} (h : InvAt σ τ n b d A kn now day D) (h1 : fr 28 41 τ t) : InvAt σ t n b d A kn now day D :=
  h.setM (fun q hq => h1 q (by unfold keepM at hq; omega)) (fun i _ => by rw [h1 0 (by omega)])
section Looks
variable {σ τ : Hp} {n b : Nat} {d : ND} {A : AD} {kn : Int} {now day : Nat} {D : DL}
theorem C_isRoad (hd : NDok d) (hN : NetC σ n d) (h3 : σ 0 3 = n) (r : Int) : F_RD_isRoad r σ = some (if 0 ≤ r ∧ r < dR d then 1 else 0, σ) := by
  unfold F_RD_isRoad F_RD_isRoad_19 F_RD_isRoad_20
  by_cases c : r < 0
  · rw [if_pos c, if_neg (by omega)]; rfl
  · rw [if_neg c, h3, lt_eq, Int.toNat_natCast, gd_pos hN.1, hN.2.2.1]
    by_cases c2 : (dR d : Int) ≤ r
    · rw [if_pos c2, if_neg (by omega)]; rfl
    · rw [if_neg c2, if_pos (by omega)]; rfl
theorem M_is (x a c : Int) : F_M_is x a c τ = some (if a ≤ x ∧ x ≤ c then 1 else 0, τ) := by
  unfold F_M_is F_M_is_14 F_M_is_15
  by_cases h1 : x < a
  · rw [if_pos h1, if_neg (by omega)]; rfl
  · by_cases h2 : c < x
    · rw [if_neg h1, if_pos h2, if_neg (by omega)]; rfl
    · rw [if_neg h1, if_neg h2, if_pos (by omega)]; rfl
theorem M_isRoad (hd : NDok d) (hN : NetM τ b d) (r : Int) : F_M_isRoad r τ = some (if 0 ≤ r ∧ r < dR d then 1 else 0, τ) := by
  have hR := hd.2.1
  have hb := hN.1
  unfold F_M_isRoad
  rw [hN.2.1, gd_pos (by omega), Int.toNat_natCast, hN.2.2.2.1, isub_ok (by omega), M_is, cl2_some]
  by_cases c : 0 ≤ r ∧ r < dR d
  · rw [if_pos c, if_pos (by omega)]; rfl
  · rw [if_neg c, if_neg (by omega)]; rfl
theorem C_isSomebody (hd : NDok d) (hN : NetC σ n d) (h3 : σ 0 3 = n) (r : Int) : F_RD_isSomebody r σ = some (if 0 ≤ r ∧ r < dW d then 1 else 0, σ) := by
  unfold F_RD_isSomebody F_RD_isSomebody_19 F_RD_isSomebody_20
  by_cases c : r < 0
  · rw [if_pos c, if_neg (by omega)]; rfl
  · rw [if_neg c, h3, lt_eq, Int.toNat_natCast, gd_pos hN.1, hN.2.1]
    by_cases c2 : (dW d : Int) ≤ r
    · rw [if_pos c2, if_neg (by omega)]; rfl
    · rw [if_neg c2, if_pos (by omega)]; rfl
theorem M_isWho (hd : NDok d) (hN : NetM τ b d) (r : Int) : F_M_isWho r τ = some (if 0 ≤ r ∧ r < dW d then 1 else 0, τ) := by
  have hR := hd.1
  have hb := hN.1
  unfold F_M_isWho
  rw [hN.2.1, gd_pos (by omega), Int.toNat_natCast, hN.2.2.1, isub_ok (by omega), M_is, cl2_some]
  by_cases c : 0 ≤ r ∧ r < dW d
  · rw [if_pos c, if_pos (by omega)]; rfl
  · rw [if_neg c, if_neg (by omega)]; rfl
theorem InvAt.lays (h : InvAt σ τ n b d A kn now day D) {c w : Int} (hw : -1 ≤ w ∧ w ≤ 100000) : wp (F_M_lays c w τ) (fun _ t => ViewM t d (owc (owd d A day now) c w) ∧ fr 28 31 τ t) := by
  obtain ⟨⟨g1, g2, g3, g4, g5⟩, c, ⟨m1, m2, m3, m4, m5, m6⟩, _⟩ := h
  exact M_lays g1 m1 m2 g2 m4 m5 g3.2.2 g3.le m6 g4 hw
theorem S_fault (σ τ : Hp) (a1 : Int) (h : Inv σ τ) : ∃ (z : Int) (σ' τ' : Hp), F_RD_fault a1 σ = some (z, σ') ∧ F_M_fault a1 τ = some (z, τ') ∧ Inv σ' τ' := by
  obtain ⟨n, b, d, A, kn, now, day, D, hI⟩ := id h
  have o := hI.2.2.2.2.1
  unfold F_RD_fault F_M_fault F_M_fault_24
  by_cases c0 : a1 = 0
  · exact ⟨_, _, _, if_pos c0, by rw [if_pos c0, o.1], h⟩
  · by_cases c1 : a1 = 1
    · exact ⟨_, _, _, by rw [if_neg c0, if_pos c1], by rw [if_neg c0, if_pos c1, o.2.1], h⟩
    · exact ⟨_, _, _, by rw [if_neg c0, if_neg c1], by rw [if_neg c0, if_neg c1], h⟩
theorem S_ended (σ τ : Hp) (h : Inv σ τ) : ∃ (z : Int) (σ' τ' : Hp), F_RD_ended σ = some (z, σ') ∧ F_M_ended τ = some (z, τ') ∧ Inv σ' τ' := by
  obtain ⟨n, b, d, A, kn, now, day, D, hI⟩ := id h
  exact ⟨_, _, _, rfl, by rw [hI.2.2.2.2.1.2.2]; rfl, h⟩
theorem S_octet (σ τ : Hp) (a1 : Int) (h : Inv σ τ) : ∃ (z : Int) (σ' τ' : Hp), F_RD_octet a1 σ = some (z, σ') ∧ F_M_octet a1 τ = some (z, τ') ∧ Inv σ' τ' := by
  obtain ⟨n, b, d, A, kn, now, day, D, hI⟩ := id h
  obtain ⟨o1, o2, o3, o4⟩ := hI.2.2.2.2.2.2
  unfold F_RD_octet F_Bytes_at F_Bytes_at_25 F_Bytes_at_26 F_M_octet F_M_octet_21 F_M_octet_22
  rw [gd_pos (show isBytes 181 by decide)]
  by_cases c0 : a1 < 0
  · exact ⟨_, _, _, by rw [if_pos c0, cl2_some], by rw [if_pos c0], h⟩
  · by_cases c1 : τ 0 71 ≤ a1
    · exact ⟨_, _, _, by rw [if_neg c0, o3, if_pos c1, cl2_some], by rw [if_neg c0, if_pos c1], h⟩
    · obtain ⟨k, rfl⟩ : ∃ k : Nat, a1 = k := ⟨a1.toNat, by omega⟩
      have hl : (59 : Int) ≤ ((lenOf shC (181 + 1) : Nat) : Int) := by decide
      refine ⟨_, _, _, by rw [if_neg c0, o3, if_neg c1, gd_pos (by omega), cl2_some], ?_, h⟩
      rw [if_neg c0, if_neg c1, gd_pos (by omega), Int.toNat_natCast, iand_255, o4 k (by omega)]
theorem S_road (σ τ : Hp) (a1 a2 : Int) (h : Inv σ τ) : ∃ (z : Int) (σ' τ' : Hp), F_RD_road a1 a2 σ = some (z, σ') ∧ F_M_road_ a1 a2 τ = some (z, τ') ∧ Inv σ' τ' := by
  obtain ⟨n, b, d, A, kn, now, day, D, hI⟩ := id h
  obtain ⟨⟨g1, g2, g3, g4, g5⟩, ⟨c1, c2, c3, c4, c5, c6, c7⟩, ⟨m1, m2, m3, m4, m5, m6⟩, _⟩ := hI
  unfold F_RD_road F_RD_road_17 F_RD_road_44 F_M_road_ F_M_road__17 F_M_road__38
  rw [C_isRoad g1 c1 c5.1, cl2_some, M_isRoad g1 m1, cl2_some]
  by_cases c : 0 ≤ a1 ∧ a1 < dR d
  · rw [if_pos c, if_neg (c := (1 : Int) = 0) (by decide), if_neg (c := (1 : Int) = 0) (by decide), M_is, cl2_some]
    obtain ⟨r, rfl⟩ : ∃ k : Nat, a1 = k := ⟨a1.toNat, by omega⟩
    have hr : r < dR d := by omega
    have hR := g1.2.1
    by_cases e0 : a2 < 0
    · exact ⟨_, _, _, if_pos e0, by rw [if_neg (c := 0 ≤ a2 ∧ a2 ≤ 1) (by omega), if_pos rfl], h⟩
    · by_cases e1 : a2 ≤ 1
      · rw [if_neg e0, if_pos e1, if_pos (c := 0 ≤ a2 ∧ a2 ≤ 1) (by omega), if_neg (c := (1 : Int) = 0) (by decide)]
        by_cases e2 : a2 = 0
        · refine ⟨_, _, _, by rw [if_pos e2, c5.1, lt_eq, Int.toNat_natCast, gd_pos c1.1, gd_pos (by omega), Int.toNat_natCast, (c1.2.2.2.2.2.2.1 r hr).1], by rw [if_pos e2, M_first g1 m1 hr, cl2_some], h⟩
        · refine ⟨_, _, _, by rw [if_neg e2, c5.1, lt_eq, Int.toNat_natCast, gd_pos c1.1, gd_pos (by omega), Int.toNat_natCast, (c1.2.2.2.2.2.2.1 r hr).2.1], by rw [if_neg e2, M_second g1 m1 hr, cl2_some], h⟩
      · exact ⟨_, _, _, by rw [if_neg e0, if_neg e1], by rw [if_neg (c := 0 ≤ a2 ∧ a2 ≤ 1) (by omega), if_pos rfl], h⟩
  · rw [if_neg c]
    exact ⟨_, _, _, if_pos rfl, if_pos rfl, h⟩
theorem imax0 (x : Int) : imax 0 x = max 0 x := by
  unfold imax
  split <;> omega
theorem S_made (σ τ : Hp) (a1 a2 : Int) (h : Inv σ τ) : ∃ (z : Int) (σ' τ' : Hp), F_RD_made a1 a2 σ = some (z, σ') ∧ F_M_made a1 a2 τ = some (z, τ') ∧ Inv σ' τ' := by
  obtain ⟨n, b, d, A, kn, now, day, D, hI⟩ := id h
  have hl := hI.lays (c := -1) (w := 0) (by omega)
  obtain ⟨⟨g1, g2, g3, g4, g5⟩, ⟨c1, c2, c3, c4, c5, c6, c7⟩, ⟨m1, m2, m3, m4, m5, m6⟩, _⟩ := id hI
  unfold F_RD_made F_RD_made_20 F_M_made F_M_made_17 F_M_made_80
  rw [C_isRoad g1 c1 c5.1, cl2_some, M_isRoad g1 m1, cl2_some]
  by_cases c : 0 ≤ a1 ∧ a1 < dR d
  · rw [if_pos c, if_neg (c := (1 : Int) = 0) (by decide), if_neg (c := (1 : Int) = 0) (by decide), M_is, cl2_some]
    obtain ⟨r, rfl⟩ : ∃ k : Nat, a1 = k := ⟨a1.toNat, by omega⟩
    have hr : r < dR d := by omega
    have hR := g1.2.1
    have ho := owd_ok (d := d) (day := day) g2 g3.le
    have g30 : (0 : Int) ≤ (r : Int) ∧ (r : Int) < 30 := by omega
    rw [gd_pos g30, Int.toNat_natCast, (c6.2 r hr).1, (c6.2 r hr).2]
    obtain ⟨v, t, e, ⟨hv, _⟩, hf⟩ := hl
    have ee : owc (owd d A day now) (-1) 0 = owd d A day now := owc_none
    rw [ee] at hv
    have hm : NetM t b d := m1.congr (by rw [hf 0 (by omega)]) (fun q a b => hf q (by omega))
    have hI' := hI.frM (t := t) (fun q hq => hf q (by omega))
    rw [e, cl2_some, gd_pos g30, (hv r hr).1, (hv r hr).2]
    have hM : a2 < 0 ∨ 2 < a2 ∨ a2 = 0 ∨ a2 = 1 ∨ a2 = 2 := by omega
    by_cases co : owd d A day now r = -1
    · rw [if_pos co, if_pos rfl]
      by_cases c2 : 0 ≤ a2 ∧ a2 ≤ 2
      · exact ⟨_, _, _, rfl, by rw [if_pos c2, if_neg (c := (1 : Int) = 0) (by decide), gd_pos g30, if_pos rfl], n, b, d, A, kn, now, day, D, hI'⟩
      · exact ⟨_, _, _, rfl, by rw [if_neg c2, if_pos rfl], h⟩
    · rw [if_neg co, if_neg (c := (1 : Int) = 0) (by decide), if_neg co]
      rcases hM with q | q | q | q | q
      · exact ⟨_, _, _, by rw [if_neg (by omega), if_neg (by omega), if_neg (by omega)], by rw [if_neg (c := 0 ≤ a2 ∧ a2 ≤ 2) (by omega), if_pos rfl], h⟩
      · exact ⟨_, _, _, by rw [if_neg (by omega), if_neg (by omega), if_neg (by omega)], by rw [if_neg (c := 0 ≤ a2 ∧ a2 ≤ 2) (by omega), if_pos rfl], h⟩
      · subst q
        exact ⟨_, _, _, by rw [if_pos rfl], by rw [if_pos (c := (0 : Int) ≤ 0 ∧ (0 : Int) ≤ 2) (by decide), if_neg (c := (1 : Int) = 0) (by decide), gd_pos g30, if_neg (c := (1 : Int) = 0) (by decide), if_pos rfl, gd_pos g30], n, b, d, A, kn, now, day, D, hI'⟩
      · subst q
        have hgn : gnd d (owd d A day now) r = max 0 (mkd d (owd d A day now) r - al d (fs d r) - al d (sn d r)) := if_neg co
        refine ⟨_, _, _, by rw [if_neg (by decide), if_pos rfl, View_gainOf g1 c1 c6 ho hr co, cl2_some], ?_, n, b, d, A, kn, now, day, D, hI'⟩
        rw [if_pos (c := (0 : Int) ≤ 1 ∧ (1 : Int) ≤ 2) (by decide), if_neg (c := (1 : Int) = 0) (by decide), gd_pos g30, if_neg (c := (1 : Int) = 0) (by decide), if_neg (c := (1 : Int) = 0) (by decide), if_pos rfl, M_gainOf g1 hm ho hr (hv r hr).1 (hv r hr).2, cl2_some, hgn, imax0]
      · subst q
        have hb := m1.1
        refine ⟨_, _, _, by rw [if_neg (by decide), if_neg (by decide), if_pos rfl, c5.1, lt_eq, Int.toNat_natCast, gd_pos c1.1, gd_pos g30, (c1.2.2.2.2.2.2.1 r hr).2.2], ?_, n, b, d, A, kn, now, day, D, hI'⟩
        rw [if_pos (c := (0 : Int) ≤ 2 ∧ (2 : Int) ≤ 2) (by decide), if_neg (c := (1 : Int) = 0) (by decide), gd_pos g30, if_neg (c := (1 : Int) = 0) (by decide), if_neg (c := (2 : Int) = 0) (by decide), if_neg (c := (2 : Int) = 1) (by decide), hm.2.1, ix30 hb (by omega), gd_pos (by omega), Int.toNat_natCast, (hm.2.2.2.2.2.2.2.1 r hr).2.2]
  · rw [if_neg c]
    exact ⟨_, _, _, if_pos rfl, if_pos rfl, h⟩
end Looks
