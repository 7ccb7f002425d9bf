/-! WHAT A TEXT TELLS, as data: ((W, R), first, second, alone, taste, doubt, (sum's value, is there a test, test's value), letters, (tastes, doubts)) -/
abbrev ND : Type := (Nat × Nat) × (Nat → Nat) × (Nat → Nat) × (Nat → Int) × (Nat → Nat → Int) × (Nat → Int) × ((Nat → Nat → Int) × (Nat → Bool) × (Nat → Nat → Int)) × (Nat → List Nat) × (Nat × Nat)
def dW (d : ND) : Nat := d.1.1
def dR (d : ND) : Nat := d.1.2
def fs (d : ND) : Nat → Nat := d.2.1
def sn (d : ND) : Nat → Nat := d.2.2.1
def al (d : ND) : Nat → Int := d.2.2.2.1
def ta (d : ND) : Nat → Nat → Int := d.2.2.2.2.1
def db (d : ND) : Nat → Int := d.2.2.2.2.2.1
def sv (d : ND) : Nat → Nat → Int := d.2.2.2.2.2.2.1.1
def ts (d : ND) : Nat → Bool := d.2.2.2.2.2.2.1.2.1
def tv (d : ND) : Nat → Nat → Int := d.2.2.2.2.2.2.1.2.2
def nm (d : ND) : Nat → List Nat := d.2.2.2.2.2.2.2.1
def dT (d : ND) : Nat := d.2.2.2.2.2.2.2.2.1
def dD (d : ND) : Nat := d.2.2.2.2.2.2.2.2.2
def isPr (d : ND) (r a c : Nat) : Prop := (fs d r = a ∧ sn d r = c) ∨ (fs d r = c ∧ sn d r = a)
/-- the road of two, among the first ones; -1 without -/
def rdO (d : ND) (a c : Nat) : Nat → Int
  | 0 => -1
  | r + 1 => if (fs d r = a ∧ sn d r = c) ∨ (fs d r = c ∧ sn d r = a) then (r : Int) else rdO d a c r
def clampW (v : Int) : Int := if v < 0 then 0 else if 100000 < v then 100000 else v
/-- what the text tells of a road's worth on a day; -1: closed -/
def tw (d : ND) (r day : Nat) : Int := if ts d r = true ∧ tv d r day = 0 then -1 else clampW (sv d r day)
def NDok (d : ND) : Prop := dW d ≤ 12 ∧ dR d ≤ 30 ∧ (∀ r, r < dR d → fs d r < dW d ∧ sn d r < dW d ∧ fs d r ≠ sn d r ∧ rdO d (fs d r) (sn d r) r = -1) ∧
  (∀ w, w < dW d → 0 ≤ al d w ∧ al d w ≤ 9999) ∧ (∀ a c, -9999 ≤ ta d a c ∧ ta d a c ≤ 9999) ∧ (∀ r, r < dR d → 0 ≤ db d r ∧ db d r ≤ 9999)
def pk5 : List Nat → Int
  | [] => 0
  | x :: l => pk5 l * 32 + x
def pk8 : List Nat → Int
  | [] => 0
  | x :: l => pk8 l * 256 + (x + 96)
/-- the class's net n holds d -/
def NetC (σ : Hp) (n : Nat) (d : ND) : Prop := isNet n ∧ σ n 15 = dW d ∧ σ n 16 = dR d ∧ σ n 17 = dT d ∧ σ n 18 = dD d ∧
  (∀ w, w < dW d → σ (n + 2) w = al d w) ∧ (∀ r, r < dR d → σ (n + 3) r = fs d r ∧ σ (n + 4) r = sn d r ∧ σ (n + 5) r = db d r) ∧
  (∀ a c, a < 12 → c < 12 → σ (n + 9 + 1 + a) c = rdO d a c (dR d)) ∧ (∀ a c, a < 12 → c < 12 → σ (n + 22 + 1 + a) c = ta d a c)
/-- the check's bank b holds d -/
def NetM (τ : Hp) (b : Nat) (d : ND) : Prop := b < 2 ∧ τ 0 12 = b ∧ τ 2 b = dW d ∧ τ 3 b = dR d ∧ τ 4 b = dT d ∧ τ 5 b = dD d ∧
  (∀ w, w < dW d → τ 7 (12 * b + w) = al d w) ∧ (∀ r, r < dR d → τ 8 (30 * b + r) = fs d r ∧ τ 9 (30 * b + r) = sn d r ∧ τ 14 (30 * b + r) = db d r) ∧
  (∀ a c, a < 12 → c < 12 → τ 15 (144 * b + 12 * a + c) = ta d a c)
/-- what is made on road r at the worth told by ow (also where it is closed) -/
def mkd (d : ND) (ow : Nat → Int) (r : Nat) : Int := ow r + ta d (fs d r) (sn d r) + ta d (sn d r) (fs d r)
def gnd (d : ND) (ow : Nat → Int) (r : Nat) : Int := if ow r = -1 then 0 else max 0 (mkd d ow r - al d (fs d r) - al d (sn d r))
def gpd (d : ND) (ow : Nat → Int) (a c : Nat) : Int := if rdO d a c (dR d) = -1 then 0 else gnd d ow (rdO d a c (dR d)).toNat
def owOk (d : ND) (ow : Nat → Int) : Prop := ∀ r, r < dR d → -1 ≤ ow r ∧ ow r ≤ 100000
theorem rdO_sym (d : ND) (a c : Nat) : ∀ r, rdO d a c r = rdO d c a r
  | 0 => rfl
  | r + 1 => by
    show (if _ then _ else _) = if _ then _ else _
    rw [rdO_sym d a c r]
    by_cases h : (fs d r = a ∧ sn d r = c) ∨ (fs d r = c ∧ sn d r = a)
    · rw [if_pos h, if_pos h.symm]
    · rw [if_neg h, if_neg (fun z => h z.symm)]
theorem rdO_cases (d : ND) (a c : Nat) : ∀ r, (rdO d a c r = -1 ∧ ∀ q, q < r → ¬ isPr d q a c) ∨ (∃ q : Nat, q < r ∧ rdO d a c r = q ∧ isPr d q a c)
  | 0 => Or.inl ⟨rfl, fun q h => absurd h (by omega)⟩
  | r + 1 => by
    have e : rdO d a c (r + 1) = if (fs d r = a ∧ sn d r = c) ∨ (fs d r = c ∧ sn d r = a) then (r : Int) else rdO d a c r := rfl
    rw [e]
    by_cases h : (fs d r = a ∧ sn d r = c) ∨ (fs d r = c ∧ sn d r = a)
    · rw [if_pos h]
      exact Or.inr ⟨r, by omega, rfl, h⟩
    · rw [if_neg h]
      rcases rdO_cases d a c r with ⟨h1, h2⟩ | ⟨q, h1, h2, h3⟩
      · refine Or.inl ⟨h1, fun q hq => ?_⟩
        by_cases e : q = r
        · subst e; exact h
        · exact h2 q (by omega)
      · exact Or.inr ⟨q, by omega, h2, h3⟩
theorem rdO_neg {d : ND} {a c r : Nat} (h : rdO d a c r = -1) : ∀ q, q < r → ¬ isPr d q a c := by
  rcases rdO_cases d a c r with ⟨h1, h2⟩ | ⟨q, h1, h2, h3⟩
  · exact h2
  · rw [h2] at h; omega
theorem pr_uniq {d : ND} (hd : NDok d) {q r a c : Nat} (hq : q < dR d) (hr : r < dR d) (h1 : isPr d q a c) (h2 : isPr d r a c) : q = r := by
  have key : ∀ {x y : Nat}, x < y → y < dR d → isPr d x a c → isPr d y a c → False := fun {x y} hxy hy p1 p2 => by
    have h := (hd.2.2.1 y hy).2.2.2
    refine rdO_neg h x hxy ?_
    rcases p1 with ⟨e1, e2⟩ | ⟨e1, e2⟩ <;> rcases p2 with ⟨e3, e4⟩ | ⟨e3, e4⟩ <;> unfold isPr <;> rw [e1, e2, e3, e4] <;> simp
  rcases Nat.lt_trichotomy q r with h | h | h
  · exact (key h hr h1 h2).elim
  · exact h
  · exact (key h hq h2 h1).elim
theorem rdO_of {d : ND} (hd : NDok d) {r a c : Nat} (hr : r < dR d) (h : isPr d r a c) : rdO d a c (dR d) = r := by
  rcases rdO_cases d a c (dR d) with ⟨h1, h2⟩ | ⟨q, h1, h2, h3⟩
  · exact absurd h (h2 r hr)
  · rw [h2, pr_uniq hd h1 hr h3 h]
theorem rdO_self {d : ND} (hd : NDok d) {a : Nat} : rdO d a a (dR d) = -1 := by
  rcases rdO_cases d a a (dR d) with ⟨h1, h2⟩ | ⟨q, h1, h2, h3⟩
  · exact h1
  · have := (hd.2.2.1 q h1).2.2.1
    rcases h3 with ⟨e1, e2⟩ | ⟨e1, e2⟩ <;> exact absurd (e1.trans e2.symm) this
theorem rdO_rng {d : ND} {a c : Nat} : -1 ≤ rdO d a c (dR d) ∧ rdO d a c (dR d) < dR d := by
  rcases rdO_cases d a c (dR d) with ⟨h1, h2⟩ | ⟨q, h1, h2, h3⟩
  · rw [h1]; omega
  · rw [h2]; omega
theorem gpd_sym (d : ND) (ow : Nat → Int) (a c : Nat) : gpd d ow a c = gpd d ow c a := by
  unfold gpd
  rw [rdO_sym]
theorem gpd_self {d : ND} (hd : NDok d) (ow : Nat → Int) (a : Nat) : gpd d ow a a = 0 := by
  unfold gpd
  rw [rdO_self hd, if_pos rfl]
theorem gpd_of {d : ND} (hd : NDok d) (ow : Nat → Int) {r a c : Nat} (hr : r < dR d) (h : isPr d r a c) : gpd d ow a c = gnd d ow r := by
  unfold gpd
  rw [rdO_of hd hr h, if_neg (by omega)]
  rfl
theorem mkd_rng {d : ND} (hd : NDok d) {ow : Nat → Int} (ho : owOk d ow) {r : Nat} (hr : r < dR d) : -20000 ≤ mkd d ow r ∧ mkd d ow r ≤ 119998 := by
  have h := ho r hr
  have h1 := hd.2.2.2.2.1 (fs d r) (sn d r)
  have h2 := hd.2.2.2.2.1 (sn d r) (fs d r)
  unfold mkd
  omega
theorem gnd_rng {d : ND} (hd : NDok d) {ow : Nat → Int} (ho : owOk d ow) {r : Nat} (hr : r < dR d) : 0 ≤ gnd d ow r ∧ gnd d ow r ≤ 119998 := by
  have h := mkd_rng hd ho hr
  have h1 := hd.2.2.2.1 _ (hd.2.2.1 r hr).1
  have h2 := hd.2.2.2.1 _ (hd.2.2.1 r hr).2.1
  unfold gnd
  split
  · omega
  · omega
theorem gpd_rng {d : ND} (hd : NDok d) {ow : Nat → Int} (ho : owOk d ow) (a c : Nat) : 0 ≤ gpd d ow a c ∧ gpd d ow a c ≤ 119998 := by
  unfold gpd
  split
  · omega
  · rename_i h
    have h1 := rdO_rng (d := d) (a := a) (c := c)
    exact gnd_rng hd ho (by omega)
/-! the class's getters -/
theorem NetC.congr {σ s : Hp} {n : Nat} {d : ND} (h : NetC σ n d) (h1 : ∀ i, i ≠ 13 → s n i = σ n i) (h2 : ∀ q, n < q → q < n + 36 → s q = σ q) : NetC s n d := by
  obtain ⟨hn, e1, e2, e3, e4, e5, e6, e7, e8⟩ := h
  refine ⟨hn, by rw [h1 _ (by omega)]; exact e1, by rw [h1 _ (by omega)]; exact e2, by rw [h1 _ (by omega)]; exact e3, by rw [h1 _ (by omega)]; exact e4, fun w hw => ?_, fun r hr => ?_, fun a c ha hc => ?_, fun a c ha hc => ?_⟩
  · rw [h2 _ (by omega) (by omega)]; exact e5 w hw
  · rw [h2 _ (by omega) (by omega), h2 _ (by omega) (by omega), h2 _ (by omega) (by omega)]; exact e6 r hr
  · rw [h2 _ (by omega) (by omega)]; exact e7 a c ha hc
  · rw [h2 _ (by omega) (by omega)]; exact e8 a c ha hc
theorem C_madeWith {σ : Hp} {n : Nat} {d : ND} (hd : NDok d) (h : NetC σ n d) {r : Nat} {w : Int} (hr : r < dR d) (hw : -1 ≤ w ∧ w ≤ 100000) :
    F_Net_madeWith n r w σ = some (w + ta d (fs d r) (sn d r) + ta d (sn d r) (fs d r), σ) := by
  obtain ⟨hn, e1, e2, e3, e4, e5, e6, e7, e8⟩ := h
  have h1 := hd.2.2.1 r hr
  have hW := hd.1
  have hR := hd.2.1
  have t1 := hd.2.2.2.2.1 (fs d r) (sn d r)
  have t2 := hd.2.2.2.2.1 (sn d r) (fs d r)
  unfold F_Net_madeWith
  simp only [lt_eq, Int.toNat_natCast, (e6 r hr).1, (e6 r hr).2.1]
  rw [gd_pos hn, gd_pos (by omega), gd_pos (by omega), gd_pos (by omega), gd_pos (by omega), gd_pos (by omega), gd_pos (by omega), e8 _ _ (by omega) (by omega), e8 _ _ (by omega) (by omega)]
  simp (disch := omega) only [iadd_ok]
theorem C_gainWith {σ : Hp} {n : Nat} {d : ND} (hd : NDok d) (h : NetC σ n d) {r : Nat} {w : Int} (hr : r < dR d) (hw : -1 ≤ w ∧ w ≤ 100000) :
    F_Net_gainWith n r w σ = some (w + ta d (fs d r) (sn d r) + ta d (sn d r) (fs d r) - al d (fs d r) - al d (sn d r), σ) := by
  have hm := C_madeWith hd h hr hw
  obtain ⟨hn, e1, e2, e3, e4, e5, e6, e7, e8⟩ := h
  have h1 := hd.2.2.1 r hr
  have hW := hd.1
  have hR := hd.2.1
  have t1 := hd.2.2.2.2.1 (fs d r) (sn d r)
  have t2 := hd.2.2.2.2.1 (sn d r) (fs d r)
  have a1 := hd.2.2.2.1 _ h1.1
  have a2 := hd.2.2.2.1 _ h1.2.1
  unfold F_Net_gainWith
  rw [gd_pos hn, hm, cl2_some]
  simp only [Int.toNat_natCast, (e6 r hr).1, (e6 r hr).2.1]
  rw [gd_pos (by omega), gd_pos (by omega), gd_pos (by omega), gd_pos (by omega), e5 _ h1.1, e5 _ h1.2.1]
  simp (disch := omega) only [isub_ok]
theorem pow_le12 {k : Nat} (h : k ≤ 12) : 2 ^ k ≤ 4096 ∧ 0 < 2 ^ k := ⟨Nat.pow_le_pow_right (by decide) h, Nat.pow_pos (by decide)⟩
theorem C_everybody {σ : Hp} {n : Nat} {d : ND} (hd : NDok d) (h : NetC σ n d) : F_Net_everybody n σ = some (((2 ^ dW d - 1 : Nat) : Int), σ) := by
  have hp := pow_le12 hd.1
  have hW := hd.1
  unfold F_Net_everybody
  rw [gd_pos h.1, h.2.1, ishl_1 (by omega), Int.toNat_natCast, isub_ok (by omega)]
  congr 2
  omega
def prM (d : ND) (r : Nat) : Nat := 2 ^ fs d r ||| 2 ^ sn d r
theorem C_pairOf {σ : Hp} {n : Nat} {d : ND} (hd : NDok d) (h : NetC σ n d) {r : Nat} (hr : r < dR d) : F_Net_pairOf n r σ = some ((prM d r : Int), σ) := by
  obtain ⟨hn, e1, e2, e3, e4, e5, e6, e7, e8⟩ := h
  have h1 := hd.2.2.1 r hr
  have hW := hd.1
  have hR := hd.2.1
  have p1 := pow_le12 (k := fs d r) (by omega)
  have p2 := pow_le12 (k := sn d r) (by omega)
  unfold F_Net_pairOf
  simp only [Int.toNat_natCast, (e6 r hr).1, (e6 r hr).2.1]
  rw [gd_pos hn, gd_pos (by omega), gd_pos (by omega), ishl_1 (by omega), ishl_1 (by omega), Int.toNat_natCast, Int.toNat_natCast, ior_nn (by omega) (by omega), Int.toNat_natCast, Int.toNat_natCast]
  rfl
/-! the check's getters -/
theorem NetM.congr {τ t : Hp} {b : Nat} {d : ND} (h : NetM τ b d) (h1 : t 0 12 = τ 0 12) (h2 : ∀ q, 2 ≤ q → q ≤ 15 → t q = τ q) : NetM t b d := by
  obtain ⟨hb, e0, e1, e2, e3, e4, e5, e6, e7⟩ := h
  refine ⟨hb, by rw [h1]; exact e0, by rw [h2 _ (by omega) (by omega)]; exact e1, by rw [h2 _ (by omega) (by omega)]; exact e2, by rw [h2 _ (by omega) (by omega)]; exact e3, by rw [h2 _ (by omega) (by omega)]; exact e4, fun w hw => ?_, fun r hr => ?_, fun a c ha hc => ?_⟩
  · rw [h2 _ (by omega) (by omega)]; exact e5 w hw
  · rw [h2 _ (by omega) (by omega), h2 _ (by omega) (by omega), h2 _ (by omega) (by omega)]; exact e6 r hr
  · rw [h2 _ (by omega) (by omega)]; exact e7 a c ha hc
theorem ix30 {b r : Nat} (hb : b < 2) (hr : r < 30) : iadd (imul 30 (b : Int)) (r : Int) = ((30 * b + r : Nat) : Int) := by
  rw [imul_ok (by omega), iadd_ok (by omega)]
  omega
theorem ix12 {b r : Nat} (hb : b < 12) (hr : r < 12) : iadd (imul 12 (b : Int)) (r : Int) = ((12 * b + r : Nat) : Int) := by
  rw [imul_ok (by omega), iadd_ok (by omega)]
  omega
theorem ix144 {b a c : Nat} (hb : b < 2) (ha : a < 12) (hc : c < 12) : iadd (iadd (imul 144 (b : Int)) (imul 12 (a : Int))) (c : Int) = ((144 * b + 12 * a + c : Nat) : Int) := by
  simp (disch := omega) only [imul_ok, iadd_ok]
  omega
theorem M_first {τ : Hp} {b : Nat} {d : ND} (hd : NDok d) (h : NetM τ b d) {r : Nat} (hr : r < dR d) : F_M_first r τ = some ((fs d r : Int), τ) := by
  have hR := hd.2.1
  have hb := h.1
  unfold F_M_first
  rw [h.2.1, ix30 hb (by omega), gd_pos (by omega), Int.toNat_natCast, (h.2.2.2.2.2.2.2.1 r hr).1]
theorem M_second {τ : Hp} {b : Nat} {d : ND} (hd : NDok d) (h : NetM τ b d) {r : Nat} (hr : r < dR d) : F_M_second r τ = some ((sn d r : Int), τ) := by
  have hR := hd.2.1
  have hb := h.1
  unfold F_M_second
  rw [h.2.1, ix30 hb (by omega), gd_pos (by omega), Int.toNat_natCast, (h.2.2.2.2.2.2.2.1 r hr).2.1]
theorem M_aloneOf {τ : Hp} {b : Nat} {d : ND} (hd : NDok d) (h : NetM τ b d) {w : Nat} (hw : w < dW d) : F_M_aloneOf w τ = some (al d w, τ) := by
  have hW := hd.1
  have hb := h.1
  unfold F_M_aloneOf
  rw [h.2.1, ix12 (by omega) (by omega), gd_pos (by omega), Int.toNat_natCast, h.2.2.2.2.2.2.1 w hw]
theorem M_all {τ : Hp} {b : Nat} {d : ND} (hd : NDok d) (h : NetM τ b d) : F_M_all τ = some (((2 ^ dW d - 1 : Nat) : Int), τ) := by
  have hp := pow_le12 hd.1
  have hW := hd.1
  have hb := h.1
  unfold F_M_all
  rw [h.2.1, gd_pos (by omega), Int.toNat_natCast, h.2.2.1, ishl_1 (by omega), Int.toNat_natCast, isub_ok (by omega)]
  congr 2
  omega
