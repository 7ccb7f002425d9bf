/-! OWN WORDS -/
section Words
variable {σ τ : Hp}
def owL : List (List Nat) := [[15, 8, 23], [5, 14, 15, 12, 1], [4, 1, 15, 18], [8, 20, 18, 15, 23], [14, 5, 8, 23], [5, 20, 19, 1, 20], [19, 19, 5, 12], [20, 2, 21, 15, 4], [18, 15], [4, 14, 1], [20, 15, 14], [12, 12, 1], [25, 1, 4], [11, 5, 5, 23], [25, 1, 4, 23], [14, 9, 13], [24, 1, 13]]
/-- the kind of a word: 256 and more for the OWN WORDS in their order, 280 for a NAME -/
def fnd : List (List Nat) → Int → List Nat → Int
  | [], _, _ => 280
  | w :: r, k, L => if L = w then k else fnd r (k + 1) L
def kdW (L : List Nat) : Int := fnd owL 256 L
def fnd5 : List (List Nat) → Int → Int → Int
  | [], _, _ => 280
  | w :: r, k, v => if pk5 w = v then k else fnd5 r (k + 1) v
theorem pk5_inj : ∀ {l m : List Nat}, ndig l → ndig m → pk5 l = pk5 m → l = m
  | [], [], _, _, _ => rfl
  | [], y :: m, _, hm, h => by
    have h1 := (pk5_rng (y :: m) hm).2.2 (fun z => by cases z)
    have h2 : pk5 ([] : List Nat) = 0 := rfl
    omega
  | x :: l, [], hl, _, h => by
    have h1 := (pk5_rng (x :: l) hl).2.2 (fun z => by cases z)
    have h2 : pk5 ([] : List Nat) = 0 := rfl
    omega
  | x :: l, y :: m, hl, hm, h => by
    have hx := hl x (List.mem_cons_self ..)
    have hy := hm y (List.mem_cons_self ..)
    have h : pk5 l * 32 + (x : Int) = pk5 m * 32 + (y : Int) := h
    have e1 : x = y := by omega
    have e2 : pk5 l = pk5 m := by omega
    rw [e1, pk5_inj (fun z hz => hl z (List.mem_cons_of_mem _ hz)) (fun z hz => hm z (List.mem_cons_of_mem _ hz)) e2]
theorem pk8_inj : ∀ {l m : List Nat}, ndig l → ndig m → pk8 l = pk8 m → l = m
  | [], [], _, _, _ => rfl
  | [], y :: m, _, hm, h => by
    have h1 := (pk8_rng (y :: m) hm).2.2 (fun z => by cases z)
    have h2 : pk8 ([] : List Nat) = 0 := rfl
    omega
  | x :: l, [], hl, _, h => by
    have h1 := (pk8_rng (x :: l) hl).2.2 (fun z => by cases z)
    have h2 : pk8 ([] : List Nat) = 0 := rfl
    omega
  | x :: l, y :: m, hl, hm, h => by
    have hx := hl x (List.mem_cons_self ..)
    have hy := hm y (List.mem_cons_self ..)
    have h : pk8 l * 256 + ((x : Int) + 96) = pk8 m * 256 + ((y : Int) + 96) := h
    have e1 : x = y := by omega
    have e2 : pk8 l = pk8 m := by omega
    rw [e1, pk8_inj (fun z hz => hl z (List.mem_cons_of_mem _ hz)) (fun z hz => hm z (List.mem_cons_of_mem _ hz)) e2]
theorem fnd5_eq {L : List Nat} (hL : ndig L) : ∀ (ws : List (List Nat)) (k : Int), (∀ w, w ∈ ws → ndig w) → fnd5 ws k (pk5 L) = fnd ws k L
  | [], _, _ => rfl
  | w :: r, k, h => by
    show (if pk5 w = pk5 L then k else fnd5 r (k + 1) (pk5 L)) = if L = w then k else fnd r (k + 1) L
    by_cases c : L = w
    · rw [if_pos c, if_pos (by rw [c])]
    · rw [if_neg c, if_neg (fun z => c (pk5_inj (h w (List.mem_cons_self ..)) hL z).symm), fnd5_eq hL r (k + 1) (fun x hx => h x (List.mem_cons_of_mem _ hx))]
theorem fnd_ge {L : List Nat} : ∀ (ws : List (List Nat)) (k : Int), k + ws.length ≤ 280 → k ≤ fnd ws k L
  | [], k, h => by
    show k ≤ 280
    have : ([] : List (List Nat)).length = 0 := rfl
    omega
  | w :: r, k, h => by
    have e : (w :: r).length = r.length + 1 := rfl
    show k ≤ if L = w then k else fnd r (k + 1) L
    split
    · omega
    · have := fnd_ge r (k + 1) (L := L) (by omega)
      omega
theorem fnd_iff {L : List Nat} : ∀ (ws : List (List Nat)) (k : Int) (j : Nat) (w : List Nat), ws.Nodup → k + ws.length ≤ 280 → ws[j]? = some w → (fnd ws k L = k + j ↔ L = w)
  | [], k, j, w, _, _, h => by cases h
  | v :: r, k, 0, w, hn, hk, h => by
    have e : v = w := Option.some.inj h
    subst e
    show (if L = v then k else fnd r (k + 1) L) = k + (0 : Nat) ↔ L = v
    have el : (v :: r).length = r.length + 1 := rfl
    by_cases c : L = v
    · rw [if_pos c]
      exact ⟨fun _ => c, fun _ => by omega⟩
    · rw [if_neg c]
      have := fnd_ge r (k + 1) (L := L) (by omega)
      exact ⟨fun z => by omega, fun z => absurd z c⟩
  | v :: r, k, j + 1, w, hn, hk, h => by
    have el : (v :: r).length = r.length + 1 := rfl
    have hn2 := List.nodup_cons.mp hn
    have h2 : r[j]? = some w := h
    have ih := fnd_iff r (k + 1) j w hn2.2 (by omega) h2 (L := L)
    show (if L = v then k else fnd r (k + 1) L) = k + ((j + 1 : Nat) : Int) ↔ L = w
    by_cases c : L = v
    · rw [if_pos c]
      refine ⟨fun z => by omega, fun z => ?_⟩
      exact absurd (List.mem_of_getElem? h2) (by rw [← z, c]; exact hn2.1)
    · rw [if_neg c, ← ih]
      constructor <;> intro z <;> omega
theorem fnd_rng {L : List Nat} : ∀ (ws : List (List Nat)) (k : Int), k + ws.length ≤ 280 → fnd ws k L = 280 ∨ fnd ws k L < k + ws.length
  | [], _, _ => Or.inl rfl
  | w :: r, k, h => by
    have el : (w :: r).length = r.length + 1 := rfl
    have e : fnd (w :: r) k L = if L = w then k else fnd r (k + 1) L := rfl
    rw [e]
    split
    · exact Or.inr (by omega)
    · rcases fnd_rng r (k + 1) (L := L) (by omega) with h | h
      · exact Or.inl h
      · exact Or.inr (by omega)
theorem owL_len : owL.length = 17 := rfl
theorem owL_nd : owL.Nodup := by decide
theorem owL_dig : ∀ w, w ∈ owL → ndig w := by
  unfold ndig
  decide
theorem kdW_rng (L : List Nat) : (256 ≤ kdW L ∧ kdW L ≤ 272) ∨ kdW L = 280 := by
  have h1 := fnd_ge owL 256 (L := L) (by decide)
  have h2 := fnd_rng owL 256 (L := L) (by decide)
  have h3 : ((owL.length : Nat) : Int) = 17 := rfl
  unfold kdW
  omega
theorem kdW_iff {L : List Nat} {j : Nat} {w : List Nat} (h : owL[j]? = some w) : kdW L = 256 + (j : Int) ↔ L = w := fnd_iff owL 256 j w owL_nd (by decide) h
theorem kw_let {w a k i c : Int} {m : Nat} (hc : jsAt i = c) (h32 : c ≠ 32) (hi : 0 ≤ i ∧ i < 80) (ha : 0 ≤ a ∧ a < 33554432) (hc2 : 0 ≤ c ∧ c < 1000) : F_Scn_kindOfWord_8 w (m + 1) (a, k, i, σ) = F_Scn_kindOfWord_8 w m (a * 32 + c - 96, k, i + 1, σ) := by
  unfold F_Scn_kindOfWord_8
  rw [loopF_s]
  dsimp only
  unfold F_Scn_kindOfWord_8_b F_Scn_kindOfWord_54 F_Scn_packed
  rw [if_neg (by omega), gd_pos hi, hc, lt_eq, if_neg h32, cl2_some, imul_ok (by omega), iadd_ok (a := a * 32) (by omega), isub_ok (by omega), iadd_ok (a := a * 32 + c - 97) (by omega), lt_eq, iadd_ok (by omega)]
  have e : a * 32 + c - 97 + 1 = a * 32 + c - 96 := by omega
  rw [e]
theorem kw_bl {w a k i : Int} {m : Nat} (hc : jsAt i = 32) (hi : 0 ≤ i ∧ i < 80) (hk : 0 ≤ k ∧ k < 1000) : F_Scn_kindOfWord_8 w (m + 1) (a, k, i, σ) = if a = w then some (k, σ) else F_Scn_kindOfWord_8 w m (0, k + 1, i + 1, σ) := by
  unfold F_Scn_kindOfWord_8
  rw [loopF_s]
  dsimp only
  unfold F_Scn_kindOfWord_8_b F_Scn_kindOfWord_54
  rw [if_neg (by omega), gd_pos hi, hc, lt_eq, if_pos rfl, iadd_ok (by omega), lt_eq, iadd_ok (by omega), lt_eq]
theorem kw_end {w a k : Int} {m : Nat} : F_Scn_kindOfWord_8 w (m + 1) (a, k, 80, σ) = some (280, σ) := by
  unfold F_Scn_kindOfWord_8
  rw [loopF_s]
  dsimp only
  unfold F_Scn_kindOfWord_8_b
  rw [if_pos (by decide)]
theorem kw_w0 {w : Int} {m : Nat} : F_Scn_kindOfWord_8 w (m + 4) (0, 256, 0, σ) = if 23823 = w then some (256, σ) else F_Scn_kindOfWord_8 w m (0, 257, 4, σ) := by
  rw [show m + 4 = (m + 3) + 1 from rfl, kw_let (c := 119) (by decide) (by decide) (by decide) (by decide) (by decide), show (0 : Int) * 32 + 119 - 96 = 23 from rfl, show (0 : Int) + 1 = 1 from rfl]
  rw [show m + 3 = (m + 2) + 1 from rfl, kw_let (c := 104) (by decide) (by decide) (by decide) (by decide) (by decide), show (23 : Int) * 32 + 104 - 96 = 744 from rfl, show (1 : Int) + 1 = 2 from rfl]
  rw [show m + 2 = (m + 1) + 1 from rfl, kw_let (c := 111) (by decide) (by decide) (by decide) (by decide) (by decide), show (744 : Int) * 32 + 111 - 96 = 23823 from rfl, show (2 : Int) + 1 = 3 from rfl]
  rw [kw_bl (by decide) (by decide) (by decide)]
  rfl
theorem kw_w1 {w : Int} {m : Nat} : F_Scn_kindOfWord_8 w (m + 6) (0, 257, 4, σ) = if 1457605 = w then some (257, σ) else F_Scn_kindOfWord_8 w m (0, 258, 10, σ) := by
  rw [show m + 6 = (m + 5) + 1 from rfl, kw_let (c := 97) (by decide) (by decide) (by decide) (by decide) (by decide), show (0 : Int) * 32 + 97 - 96 = 1 from rfl, show (4 : Int) + 1 = 5 from rfl]
  rw [show m + 5 = (m + 4) + 1 from rfl, kw_let (c := 108) (by decide) (by decide) (by decide) (by decide) (by decide), show (1 : Int) * 32 + 108 - 96 = 44 from rfl, show (5 : Int) + 1 = 6 from rfl]
  rw [show m + 4 = (m + 3) + 1 from rfl, kw_let (c := 111) (by decide) (by decide) (by decide) (by decide) (by decide), show (44 : Int) * 32 + 111 - 96 = 1423 from rfl, show (6 : Int) + 1 = 7 from rfl]
  rw [show m + 3 = (m + 2) + 1 from rfl, kw_let (c := 110) (by decide) (by decide) (by decide) (by decide) (by decide), show (1423 : Int) * 32 + 110 - 96 = 45550 from rfl, show (7 : Int) + 1 = 8 from rfl]
  rw [show m + 2 = (m + 1) + 1 from rfl, kw_let (c := 101) (by decide) (by decide) (by decide) (by decide) (by decide), show (45550 : Int) * 32 + 101 - 96 = 1457605 from rfl, show (8 : Int) + 1 = 9 from rfl]
  rw [kw_bl (by decide) (by decide) (by decide)]
  rfl
theorem kw_w2 {w : Int} {m : Nat} : F_Scn_kindOfWord_8 w (m + 5) (0, 258, 10, σ) = if 605220 = w then some (258, σ) else F_Scn_kindOfWord_8 w m (0, 259, 15, σ) := by
  rw [show m + 5 = (m + 4) + 1 from rfl, kw_let (c := 114) (by decide) (by decide) (by decide) (by decide) (by decide), show (0 : Int) * 32 + 114 - 96 = 18 from rfl, show (10 : Int) + 1 = 11 from rfl]
  rw [show m + 4 = (m + 3) + 1 from rfl, kw_let (c := 111) (by decide) (by decide) (by decide) (by decide) (by decide), show (18 : Int) * 32 + 111 - 96 = 591 from rfl, show (11 : Int) + 1 = 12 from rfl]
  rw [show m + 3 = (m + 2) + 1 from rfl, kw_let (c := 97) (by decide) (by decide) (by decide) (by decide) (by decide), show (591 : Int) * 32 + 97 - 96 = 18913 from rfl, show (12 : Int) + 1 = 13 from rfl]
  rw [show m + 2 = (m + 1) + 1 from rfl, kw_let (c := 100) (by decide) (by decide) (by decide) (by decide) (by decide), show (18913 : Int) * 32 + 100 - 96 = 605220 from rfl, show (13 : Int) + 1 = 14 from rfl]
  rw [kw_bl (by decide) (by decide) (by decide)]
  rfl
theorem kw_w3 {w : Int} {m : Nat} : F_Scn_kindOfWord_8 w (m + 6) (0, 259, 15, σ) = if 24627848 = w then some (259, σ) else F_Scn_kindOfWord_8 w m (0, 260, 21, σ) := by
  rw [show m + 6 = (m + 5) + 1 from rfl, kw_let (c := 119) (by decide) (by decide) (by decide) (by decide) (by decide), show (0 : Int) * 32 + 119 - 96 = 23 from rfl, show (15 : Int) + 1 = 16 from rfl]
  rw [show m + 5 = (m + 4) + 1 from rfl, kw_let (c := 111) (by decide) (by decide) (by decide) (by decide) (by decide), show (23 : Int) * 32 + 111 - 96 = 751 from rfl, show (16 : Int) + 1 = 17 from rfl]
  rw [show m + 4 = (m + 3) + 1 from rfl, kw_let (c := 114) (by decide) (by decide) (by decide) (by decide) (by decide), show (751 : Int) * 32 + 114 - 96 = 24050 from rfl, show (17 : Int) + 1 = 18 from rfl]
  rw [show m + 3 = (m + 2) + 1 from rfl, kw_let (c := 116) (by decide) (by decide) (by decide) (by decide) (by decide), show (24050 : Int) * 32 + 116 - 96 = 769620 from rfl, show (18 : Int) + 1 = 19 from rfl]
  rw [show m + 2 = (m + 1) + 1 from rfl, kw_let (c := 104) (by decide) (by decide) (by decide) (by decide) (by decide), show (769620 : Int) * 32 + 104 - 96 = 24627848 from rfl, show (19 : Int) + 1 = 20 from rfl]
  rw [kw_bl (by decide) (by decide) (by decide)]
  rfl
theorem kw_w4 {w : Int} {m : Nat} : F_Scn_kindOfWord_8 w (m + 5) (0, 260, 21, σ) = if 762030 = w then some (260, σ) else F_Scn_kindOfWord_8 w m (0, 261, 26, σ) := by
  rw [show m + 5 = (m + 4) + 1 from rfl, kw_let (c := 119) (by decide) (by decide) (by decide) (by decide) (by decide), show (0 : Int) * 32 + 119 - 96 = 23 from rfl, show (21 : Int) + 1 = 22 from rfl]
  rw [show m + 4 = (m + 3) + 1 from rfl, kw_let (c := 104) (by decide) (by decide) (by decide) (by decide) (by decide), show (23 : Int) * 32 + 104 - 96 = 744 from rfl, show (22 : Int) + 1 = 23 from rfl]
  rw [show m + 3 = (m + 2) + 1 from rfl, kw_let (c := 101) (by decide) (by decide) (by decide) (by decide) (by decide), show (744 : Int) * 32 + 101 - 96 = 23813 from rfl, show (23 : Int) + 1 = 24 from rfl]
  rw [show m + 2 = (m + 1) + 1 from rfl, kw_let (c := 110) (by decide) (by decide) (by decide) (by decide) (by decide), show (23813 : Int) * 32 + 110 - 96 = 762030 from rfl, show (24 : Int) + 1 = 25 from rfl]
  rw [kw_bl (by decide) (by decide) (by decide)]
  rfl
theorem kw_w5 {w : Int} {m : Nat} : F_Scn_kindOfWord_8 w (m + 6) (0, 261, 26, σ) = if 21024389 = w then some (261, σ) else F_Scn_kindOfWord_8 w m (0, 262, 32, σ) := by
  rw [show m + 6 = (m + 5) + 1 from rfl, kw_let (c := 116) (by decide) (by decide) (by decide) (by decide) (by decide), show (0 : Int) * 32 + 116 - 96 = 20 from rfl, show (26 : Int) + 1 = 27 from rfl]
  rw [show m + 5 = (m + 4) + 1 from rfl, kw_let (c := 97) (by decide) (by decide) (by decide) (by decide) (by decide), show (20 : Int) * 32 + 97 - 96 = 641 from rfl, show (27 : Int) + 1 = 28 from rfl]
  rw [show m + 4 = (m + 3) + 1 from rfl, kw_let (c := 115) (by decide) (by decide) (by decide) (by decide) (by decide), show (641 : Int) * 32 + 115 - 96 = 20531 from rfl, show (28 : Int) + 1 = 29 from rfl]
  rw [show m + 3 = (m + 2) + 1 from rfl, kw_let (c := 116) (by decide) (by decide) (by decide) (by decide) (by decide), show (20531 : Int) * 32 + 116 - 96 = 657012 from rfl, show (29 : Int) + 1 = 30 from rfl]
  rw [show m + 2 = (m + 1) + 1 from rfl, kw_let (c := 101) (by decide) (by decide) (by decide) (by decide) (by decide), show (657012 : Int) * 32 + 101 - 96 = 21024389 from rfl, show (30 : Int) + 1 = 31 from rfl]
  rw [kw_bl (by decide) (by decide) (by decide)]
  rfl
theorem kw_w6 {w : Int} {m : Nat} : F_Scn_kindOfWord_8 w (m + 5) (0, 262, 32, σ) = if 398963 = w then some (262, σ) else F_Scn_kindOfWord_8 w m (0, 263, 37, σ) := by
  rw [show m + 5 = (m + 4) + 1 from rfl, kw_let (c := 108) (by decide) (by decide) (by decide) (by decide) (by decide), show (0 : Int) * 32 + 108 - 96 = 12 from rfl, show (32 : Int) + 1 = 33 from rfl]
  rw [show m + 4 = (m + 3) + 1 from rfl, kw_let (c := 101) (by decide) (by decide) (by decide) (by decide) (by decide), show (12 : Int) * 32 + 101 - 96 = 389 from rfl, show (33 : Int) + 1 = 34 from rfl]
  rw [show m + 3 = (m + 2) + 1 from rfl, kw_let (c := 115) (by decide) (by decide) (by decide) (by decide) (by decide), show (389 : Int) * 32 + 115 - 96 = 12467 from rfl, show (34 : Int) + 1 = 35 from rfl]
  rw [show m + 2 = (m + 1) + 1 from rfl, kw_let (c := 115) (by decide) (by decide) (by decide) (by decide) (by decide), show (12467 : Int) * 32 + 115 - 96 = 398963 from rfl, show (35 : Int) + 1 = 36 from rfl]
  rw [kw_bl (by decide) (by decide) (by decide)]
  rfl
theorem kw_w7 {w : Int} {m : Nat} : F_Scn_kindOfWord_8 w (m + 6) (0, 263, 37, σ) = if 4707412 = w then some (263, σ) else F_Scn_kindOfWord_8 w m (0, 264, 43, σ) := by
  rw [show m + 6 = (m + 5) + 1 from rfl, kw_let (c := 100) (by decide) (by decide) (by decide) (by decide) (by decide), show (0 : Int) * 32 + 100 - 96 = 4 from rfl, show (37 : Int) + 1 = 38 from rfl]
  rw [show m + 5 = (m + 4) + 1 from rfl, kw_let (c := 111) (by decide) (by decide) (by decide) (by decide) (by decide), show (4 : Int) * 32 + 111 - 96 = 143 from rfl, show (38 : Int) + 1 = 39 from rfl]
  rw [show m + 4 = (m + 3) + 1 from rfl, kw_let (c := 117) (by decide) (by decide) (by decide) (by decide) (by decide), show (143 : Int) * 32 + 117 - 96 = 4597 from rfl, show (39 : Int) + 1 = 40 from rfl]
  rw [show m + 3 = (m + 2) + 1 from rfl, kw_let (c := 98) (by decide) (by decide) (by decide) (by decide) (by decide), show (4597 : Int) * 32 + 98 - 96 = 147106 from rfl, show (40 : Int) + 1 = 41 from rfl]
  rw [show m + 2 = (m + 1) + 1 from rfl, kw_let (c := 116) (by decide) (by decide) (by decide) (by decide) (by decide), show (147106 : Int) * 32 + 116 - 96 = 4707412 from rfl, show (41 : Int) + 1 = 42 from rfl]
  rw [kw_bl (by decide) (by decide) (by decide)]
  rfl
theorem kw_w8 {w : Int} {m : Nat} : F_Scn_kindOfWord_8 w (m + 3) (0, 264, 43, σ) = if 498 = w then some (264, σ) else F_Scn_kindOfWord_8 w m (0, 265, 46, σ) := by
  rw [show m + 3 = (m + 2) + 1 from rfl, kw_let (c := 111) (by decide) (by decide) (by decide) (by decide) (by decide), show (0 : Int) * 32 + 111 - 96 = 15 from rfl, show (43 : Int) + 1 = 44 from rfl]
  rw [show m + 2 = (m + 1) + 1 from rfl, kw_let (c := 114) (by decide) (by decide) (by decide) (by decide) (by decide), show (15 : Int) * 32 + 114 - 96 = 498 from rfl, show (44 : Int) + 1 = 45 from rfl]
  rw [kw_bl (by decide) (by decide) (by decide)]
  rfl
theorem kw_w9 {w : Int} {m : Nat} : F_Scn_kindOfWord_8 w (m + 4) (0, 265, 46, σ) = if 1476 = w then some (265, σ) else F_Scn_kindOfWord_8 w m (0, 266, 50, σ) := by
  rw [show m + 4 = (m + 3) + 1 from rfl, kw_let (c := 97) (by decide) (by decide) (by decide) (by decide) (by decide), show (0 : Int) * 32 + 97 - 96 = 1 from rfl, show (46 : Int) + 1 = 47 from rfl]
  rw [show m + 3 = (m + 2) + 1 from rfl, kw_let (c := 110) (by decide) (by decide) (by decide) (by decide) (by decide), show (1 : Int) * 32 + 110 - 96 = 46 from rfl, show (47 : Int) + 1 = 48 from rfl]
  rw [show m + 2 = (m + 1) + 1 from rfl, kw_let (c := 100) (by decide) (by decide) (by decide) (by decide) (by decide), show (46 : Int) * 32 + 100 - 96 = 1476 from rfl, show (48 : Int) + 1 = 49 from rfl]
  rw [kw_bl (by decide) (by decide) (by decide)]
  rfl
theorem kw_w10 {w : Int} {m : Nat} : F_Scn_kindOfWord_8 w (m + 4) (0, 266, 50, σ) = if 14836 = w then some (266, σ) else F_Scn_kindOfWord_8 w m (0, 267, 54, σ) := by
  rw [show m + 4 = (m + 3) + 1 from rfl, kw_let (c := 110) (by decide) (by decide) (by decide) (by decide) (by decide), show (0 : Int) * 32 + 110 - 96 = 14 from rfl, show (50 : Int) + 1 = 51 from rfl]
  rw [show m + 3 = (m + 2) + 1 from rfl, kw_let (c := 111) (by decide) (by decide) (by decide) (by decide) (by decide), show (14 : Int) * 32 + 111 - 96 = 463 from rfl, show (51 : Int) + 1 = 52 from rfl]
  rw [show m + 2 = (m + 1) + 1 from rfl, kw_let (c := 116) (by decide) (by decide) (by decide) (by decide) (by decide), show (463 : Int) * 32 + 116 - 96 = 14836 from rfl, show (52 : Int) + 1 = 53 from rfl]
  rw [kw_bl (by decide) (by decide) (by decide)]
  rfl
theorem kw_w11 {w : Int} {m : Nat} : F_Scn_kindOfWord_8 w (m + 4) (0, 267, 54, σ) = if 1420 = w then some (267, σ) else F_Scn_kindOfWord_8 w m (0, 268, 58, σ) := by
  rw [show m + 4 = (m + 3) + 1 from rfl, kw_let (c := 97) (by decide) (by decide) (by decide) (by decide) (by decide), show (0 : Int) * 32 + 97 - 96 = 1 from rfl, show (54 : Int) + 1 = 55 from rfl]
  rw [show m + 3 = (m + 2) + 1 from rfl, kw_let (c := 108) (by decide) (by decide) (by decide) (by decide) (by decide), show (1 : Int) * 32 + 108 - 96 = 44 from rfl, show (55 : Int) + 1 = 56 from rfl]
  rw [show m + 2 = (m + 1) + 1 from rfl, kw_let (c := 108) (by decide) (by decide) (by decide) (by decide) (by decide), show (44 : Int) * 32 + 108 - 96 = 1420 from rfl, show (56 : Int) + 1 = 57 from rfl]
  rw [kw_bl (by decide) (by decide) (by decide)]
  rfl
theorem kw_w12 {w : Int} {m : Nat} : F_Scn_kindOfWord_8 w (m + 4) (0, 268, 58, σ) = if 4153 = w then some (268, σ) else F_Scn_kindOfWord_8 w m (0, 269, 62, σ) := by
  rw [show m + 4 = (m + 3) + 1 from rfl, kw_let (c := 100) (by decide) (by decide) (by decide) (by decide) (by decide), show (0 : Int) * 32 + 100 - 96 = 4 from rfl, show (58 : Int) + 1 = 59 from rfl]
  rw [show m + 3 = (m + 2) + 1 from rfl, kw_let (c := 97) (by decide) (by decide) (by decide) (by decide) (by decide), show (4 : Int) * 32 + 97 - 96 = 129 from rfl, show (59 : Int) + 1 = 60 from rfl]
  rw [show m + 2 = (m + 1) + 1 from rfl, kw_let (c := 121) (by decide) (by decide) (by decide) (by decide) (by decide), show (129 : Int) * 32 + 121 - 96 = 4153 from rfl, show (60 : Int) + 1 = 61 from rfl]
  rw [kw_bl (by decide) (by decide) (by decide)]
  rfl
theorem kw_w13 {w : Int} {m : Nat} : F_Scn_kindOfWord_8 w (m + 5) (0, 269, 62, σ) = if 758955 = w then some (269, σ) else F_Scn_kindOfWord_8 w m (0, 270, 67, σ) := by
  rw [show m + 5 = (m + 4) + 1 from rfl, kw_let (c := 119) (by decide) (by decide) (by decide) (by decide) (by decide), show (0 : Int) * 32 + 119 - 96 = 23 from rfl, show (62 : Int) + 1 = 63 from rfl]
  rw [show m + 4 = (m + 3) + 1 from rfl, kw_let (c := 101) (by decide) (by decide) (by decide) (by decide) (by decide), show (23 : Int) * 32 + 101 - 96 = 741 from rfl, show (63 : Int) + 1 = 64 from rfl]
  rw [show m + 3 = (m + 2) + 1 from rfl, kw_let (c := 101) (by decide) (by decide) (by decide) (by decide) (by decide), show (741 : Int) * 32 + 101 - 96 = 23717 from rfl, show (64 : Int) + 1 = 65 from rfl]
  rw [show m + 2 = (m + 1) + 1 from rfl, kw_let (c := 107) (by decide) (by decide) (by decide) (by decide) (by decide), show (23717 : Int) * 32 + 107 - 96 = 758955 from rfl, show (65 : Int) + 1 = 66 from rfl]
  rw [kw_bl (by decide) (by decide) (by decide)]
  rfl
theorem kw_w14 {w : Int} {m : Nat} : F_Scn_kindOfWord_8 w (m + 5) (0, 270, 67, σ) = if 757817 = w then some (270, σ) else F_Scn_kindOfWord_8 w m (0, 271, 72, σ) := by
  rw [show m + 5 = (m + 4) + 1 from rfl, kw_let (c := 119) (by decide) (by decide) (by decide) (by decide) (by decide), show (0 : Int) * 32 + 119 - 96 = 23 from rfl, show (67 : Int) + 1 = 68 from rfl]
  rw [show m + 4 = (m + 3) + 1 from rfl, kw_let (c := 100) (by decide) (by decide) (by decide) (by decide) (by decide), show (23 : Int) * 32 + 100 - 96 = 740 from rfl, show (68 : Int) + 1 = 69 from rfl]
  rw [show m + 3 = (m + 2) + 1 from rfl, kw_let (c := 97) (by decide) (by decide) (by decide) (by decide) (by decide), show (740 : Int) * 32 + 97 - 96 = 23681 from rfl, show (69 : Int) + 1 = 70 from rfl]
  rw [show m + 2 = (m + 1) + 1 from rfl, kw_let (c := 121) (by decide) (by decide) (by decide) (by decide) (by decide), show (23681 : Int) * 32 + 121 - 96 = 757817 from rfl, show (70 : Int) + 1 = 71 from rfl]
  rw [kw_bl (by decide) (by decide) (by decide)]
  rfl
theorem kw_w15 {w : Int} {m : Nat} : F_Scn_kindOfWord_8 w (m + 4) (0, 271, 72, σ) = if 13614 = w then some (271, σ) else F_Scn_kindOfWord_8 w m (0, 272, 76, σ) := by
  rw [show m + 4 = (m + 3) + 1 from rfl, kw_let (c := 109) (by decide) (by decide) (by decide) (by decide) (by decide), show (0 : Int) * 32 + 109 - 96 = 13 from rfl, show (72 : Int) + 1 = 73 from rfl]
  rw [show m + 3 = (m + 2) + 1 from rfl, kw_let (c := 105) (by decide) (by decide) (by decide) (by decide) (by decide), show (13 : Int) * 32 + 105 - 96 = 425 from rfl, show (73 : Int) + 1 = 74 from rfl]
  rw [show m + 2 = (m + 1) + 1 from rfl, kw_let (c := 110) (by decide) (by decide) (by decide) (by decide) (by decide), show (425 : Int) * 32 + 110 - 96 = 13614 from rfl, show (74 : Int) + 1 = 75 from rfl]
  rw [kw_bl (by decide) (by decide) (by decide)]
  rfl
theorem kw_w16 {w : Int} {m : Nat} : F_Scn_kindOfWord_8 w (m + 4) (0, 272, 76, σ) = if 13368 = w then some (272, σ) else F_Scn_kindOfWord_8 w m (0, 273, 80, σ) := by
  rw [show m + 4 = (m + 3) + 1 from rfl, kw_let (c := 109) (by decide) (by decide) (by decide) (by decide) (by decide), show (0 : Int) * 32 + 109 - 96 = 13 from rfl, show (76 : Int) + 1 = 77 from rfl]
  rw [show m + 3 = (m + 2) + 1 from rfl, kw_let (c := 97) (by decide) (by decide) (by decide) (by decide) (by decide), show (13 : Int) * 32 + 97 - 96 = 417 from rfl, show (77 : Int) + 1 = 78 from rfl]
  rw [show m + 2 = (m + 1) + 1 from rfl, kw_let (c := 120) (by decide) (by decide) (by decide) (by decide) (by decide), show (417 : Int) * 32 + 120 - 96 = 13368 from rfl, show (78 : Int) + 1 = 79 from rfl]
  rw [kw_bl (by decide) (by decide) (by decide)]
  rfl
theorem C_kindOfWord (w : Int) : F_Scn_kindOfWord w σ = some (fnd5 owL 256 w, σ) := by
  unfold F_Scn_kindOfWord
  rw [FU_eq]
  rw [show 20000 = 19996 + 4 from rfl, kw_w0]
  rw [show 19996 = 19990 + 6 from rfl, kw_w1]
  rw [show 19990 = 19985 + 5 from rfl, kw_w2]
  rw [show 19985 = 19979 + 6 from rfl, kw_w3]
  rw [show 19979 = 19974 + 5 from rfl, kw_w4]
  rw [show 19974 = 19968 + 6 from rfl, kw_w5]
  rw [show 19968 = 19963 + 5 from rfl, kw_w6]
  rw [show 19963 = 19957 + 6 from rfl, kw_w7]
  rw [show 19957 = 19954 + 3 from rfl, kw_w8]
  rw [show 19954 = 19950 + 4 from rfl, kw_w9]
  rw [show 19950 = 19946 + 4 from rfl, kw_w10]
  rw [show 19946 = 19942 + 4 from rfl, kw_w11]
  rw [show 19942 = 19938 + 4 from rfl, kw_w12]
  rw [show 19938 = 19933 + 5 from rfl, kw_w13]
  rw [show 19933 = 19928 + 5 from rfl, kw_w14]
  rw [show 19928 = 19924 + 4 from rfl, kw_w15]
  rw [show 19924 = 19920 + 4 from rfl, kw_w16]
  rw [show 19920 = 19919 + 1 from rfl, kw_end]
  show _ = some (if 23823 = w then 256 else if 1457605 = w then 257 else if 605220 = w then 258 else if 24627848 = w then 259 else if 762030 = w then 260 else if 21024389 = w then 261 else if 398963 = w then 262 else if 4707412 = w then 263 else if 498 = w then 264 else if 1476 = w then 265 else if 14836 = w then 266 else if 1420 = w then 267 else if 4153 = w then 268 else if 758955 = w then 269 else if 757817 = w then 270 else if 13614 = w then 271 else if 13368 = w then 272 else 280, σ)
  by_cases c0 : (23823 : Int) = w
  · rw [if_pos c0, if_pos c0]
  rw [if_neg c0, if_neg c0]
  by_cases c1 : (1457605 : Int) = w
  · rw [if_pos c1, if_pos c1]
  rw [if_neg c1, if_neg c1]
  by_cases c2 : (605220 : Int) = w
  · rw [if_pos c2, if_pos c2]
  rw [if_neg c2, if_neg c2]
  by_cases c3 : (24627848 : Int) = w
  · rw [if_pos c3, if_pos c3]
  rw [if_neg c3, if_neg c3]
  by_cases c4 : (762030 : Int) = w
  · rw [if_pos c4, if_pos c4]
  rw [if_neg c4, if_neg c4]
  by_cases c5 : (21024389 : Int) = w
  · rw [if_pos c5, if_pos c5]
  rw [if_neg c5, if_neg c5]
  by_cases c6 : (398963 : Int) = w
  · rw [if_pos c6, if_pos c6]
  rw [if_neg c6, if_neg c6]
  by_cases c7 : (4707412 : Int) = w
  · rw [if_pos c7, if_pos c7]
  rw [if_neg c7, if_neg c7]
  by_cases c8 : (498 : Int) = w
  · rw [if_pos c8, if_pos c8]
  rw [if_neg c8, if_neg c8]
  by_cases c9 : (1476 : Int) = w
  · rw [if_pos c9, if_pos c9]
  rw [if_neg c9, if_neg c9]
  by_cases c10 : (14836 : Int) = w
  · rw [if_pos c10, if_pos c10]
  rw [if_neg c10, if_neg c10]
  by_cases c11 : (1420 : Int) = w
  · rw [if_pos c11, if_pos c11]
  rw [if_neg c11, if_neg c11]
  by_cases c12 : (4153 : Int) = w
  · rw [if_pos c12, if_pos c12]
  rw [if_neg c12, if_neg c12]
  by_cases c13 : (758955 : Int) = w
  · rw [if_pos c13, if_pos c13]
  rw [if_neg c13, if_neg c13]
  by_cases c14 : (757817 : Int) = w
  · rw [if_pos c14, if_pos c14]
  rw [if_neg c14, if_neg c14]
  by_cases c15 : (13614 : Int) = w
  · rw [if_pos c15, if_pos c15]
  rw [if_neg c15, if_neg c15]
  by_cases c16 : (13368 : Int) = w
  · rw [if_pos c16, if_pos c16]
  rw [if_neg c16, if_neg c16]
theorem C_kindOf {L : List Nat} (hL : ndig L) : F_Scn_kindOfWord (pk5 L) σ = some (kdW L, σ) := by
  rw [C_kindOfWord, fnd5_eq hL owL 256 owL_dig]
  rfl
end Words
