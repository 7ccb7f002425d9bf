/-! image -/
section Image
variable {σ τ : Hp} {n b : Nat} {d : ND} {A : AD} {kn : Int} {now day : Nat} {D : DL}
def imF (σ s : Hp) : Prop := ∀ q, q ≠ 181 → q ≠ 182 → s q = σ q
def imM (τ t : Hp) : Prop := (∀ q, q ≠ 0 → q ≠ 49 → t q = τ q) ∧ ∀ i, i ≠ 71 → t 0 i = τ 0 i
def gL (L : List Int) (j : Nat) : Int := L[j]?.getD 0
def CW (σ s : Hp) (L : List Int) : Prop := s 181 1 = (L.length : Nat) ∧ (∀ j, j < L.length → s 182 j % 256 = gL L j) ∧ imF σ s
def MW (τ t : Hp) (L : List Int) : Prop := t 0 71 = (L.length : Nat) ∧ (∀ j, j < L.length → t 49 j = gL L j) ∧ imM τ t
theorem gL_old {L : List Int} {x : Int} {j : Nat} (h : j < L.length) : gL (L ++ [x]) j = gL L j := by
  unfold gL
  rw [List.getElem?_append_left h]
theorem gL_new {L : List Int} {x : Int} : gL (L ++ [x]) L.length = x := by
  unfold gL
  rw [List.getElem?_append_right (Nat.le_refl _), Nat.sub_self]
  rfl
theorem len1 {L : List Int} {x : Int} : (L ++ [x]).length = L.length + 1 := List.length_append
theorem CW.put {s : Hp} {L : List Int} (h : CW σ s L) (hl : L.length < 59) (x : Int) : ∃ s', F_Bytes_put 181 x s = some (0, s') ∧ CW σ s' (L ++ [x % 256]) := by
  obtain ⟨h1, h2, h3⟩ := h
  have e : lenOf shC (181 + 1) = 59 := by decide
  refine ⟨hset (hset s 182 L.length (i2b (i2b x))) 181 1 ((L.length : Int) + 1), ?_, ?_, fun j hj => ?_, fun q a1 a2 => ?_⟩
  · unfold F_Bytes_put F_Bytes_put_33
    rw [gd_pos (show isBytes 181 by decide), e]
    show (if (59 : Int) ≤ s 181 1 then _ else _) = _
    rw [h1, if_neg (by omega)]
    show gd (0 ≤ (L.length : Int) ∧ (L.length : Int) < (59 : Int)) _ = _
    rw [gd_pos (by omega), lt_eq, lt_eq, hset_obj _ _ _ _ (by decide), h1, iadd_ok (by omega), Int.toNat_natCast]
  · rw [hset_same, len1]
    omega
  · rw [len1] at hj
    rw [hset_obj _ _ _ _ (by decide), hset_row]
    dsimp only
    by_cases c : j = L.length
    · rw [if_pos c, c, gL_new, i2b_eq, i2b_eq]
      omega
    · rw [if_neg c, gL_old (by omega)]
      exact h2 j (by omega)
  · rw [hset_obj _ _ _ _ a1, hset_obj _ _ _ _ a2]
    exact h3 q a1 a2
theorem CW.two {s : Hp} {L : List Int} (h : CW σ s L) (hl : L.length < 58) {x : Int} (hx : -2147483648 ≤ x ∧ x < 2147483648) : ∃ s', F_Bytes_putTwo 181 x s = some (0, s') ∧ CW σ s' (L ++ [x / 256 % 256] ++ [x % 256]) := by
  have r8 : ishr x 8 = x / 256 := by rw [ishr_ok hx (by decide)]; rfl
  obtain ⟨s1, e1, h1⟩ := h.put (by omega) (x / 256)
  obtain ⟨s2, e2, h2⟩ := h1.put (by rw [len1]; omega) x
  refine ⟨s2, ?_, h2⟩
  unfold F_Bytes_putTwo
  rw [gd_pos (show isBytes 181 by decide), r8, e1, cl2_some, e2, cl2_some]
theorem CW.num {s : Hp} {L : List Int} (h : CW σ s L) (hl : L.length < 56) {x : Int} (hx : -2147483648 ≤ x ∧ x < 2147483648) : ∃ s', F_Bytes_putNumber 181 x s = some (0, s') ∧ CW σ s' (L ++ [x / 65536 / 256 % 256] ++ [x / 65536 % 256] ++ [x / 256 % 256] ++ [x % 256]) := by
  have r16 : ishr x 16 = x / 65536 := by rw [ishr_ok hx (by decide)]; rfl
  obtain ⟨s1, e1, h1⟩ := h.two (by omega) (x := x / 65536) (by omega)
  obtain ⟨s2, e2, h2⟩ := h1.two (by rw [len1, len1]; omega) hx
  refine ⟨s2, ?_, h2⟩
  unfold F_Bytes_putNumber
  rw [gd_pos (show isBytes 181 by decide), r16, e1, cl2_some, e2, cl2_some]
theorem MW.put {t : Hp} {L : List Int} (h : MW τ t L) (hl : L.length < 200) (x : Int) : ∃ t', F_M_writes x t = some (0, t') ∧ MW τ t' (L ++ [x % 256]) := by
  obtain ⟨h1, h2, h3⟩ := h
  refine ⟨hset (hset t 49 L.length (x % 256)) 0 71 ((L.length : Int) + 1), ?_, ?_, fun j hj => ?_, fun q a1 a2 => ?_, fun i hi => ?_⟩
  · unfold F_M_writes
    rw [h1, gd_pos (by omega), lt_eq, lt_eq, hset_obj _ _ _ _ (by decide), h1, iadd_ok (by omega), Int.toNat_natCast, iand_255]
  · rw [hset_same, len1]
    omega
  · rw [len1] at hj
    rw [hset_obj _ _ _ _ (by decide), hset_row]
    dsimp only
    by_cases c : j = L.length
    · rw [if_pos c, c, gL_new]
    · rw [if_neg c, gL_old (by omega)]
      exact h2 j (by omega)
  · rw [hset_obj _ _ _ _ a1, hset_obj _ _ _ _ a2]
    exact h3.1 q a1 a2
  · rw [hset_get, if_neg (by omega), hset_obj _ _ _ _ (by decide)]
    exact h3.2 i hi
/-- the check number of the first bytes -/
def ckV (f : Nat → Int) : Nat → Int
  | 0 => 1
  | k + 1 => (31 * ckV f k + f k) % 65521
theorem ckV_s (f : Nat → Int) (k : Nat) : ckV f (k + 1) = (31 * ckV f k + f k) % 65521 := rfl
theorem ckV_rng (f : Nat → Int) : ∀ k, 0 ≤ ckV f k ∧ ckV f k ≤ 65520
  | 0 => by
    show (0 : Int) ≤ 1 ∧ (1 : Int) ≤ 65520
    omega
  | k + 1 => by
    rw [ckV_s]
    omega
theorem irem_nn {a : Int} (h : 0 ≤ a) : irem a 65521 = a % 65521 := by
  unfold irem
  exact Int.tmod_eq_emod_of_nonneg h
theorem C_at {s : Hp} {this : Nat} (hb : isBytes this) {N : Nat} (hN : s this 1 = (N : Int)) (hl : N ≤ lenOf shC (this + 1)) {k : Nat} (hk : k < N) : F_Bytes_at this k s = some (s (this + 1) k % 256, s) := by
  unfold F_Bytes_at F_Bytes_at_25 F_Bytes_at_26
  rw [gd_pos hb, if_neg (by omega), hN, if_neg (by omega), gd_pos (by omega), Int.toNat_natCast, iand_255]
theorem C_checkOf {s : Hp} {this : Nat} (hb : isBytes this) {N : Nat} (hN : s this 1 = (N : Int)) (hl : N ≤ lenOf shC (this + 1)) (hl2 : N ≤ 900) {k : Nat} (hk : k ≤ N) : F_Bytes_checkOf this k s = some (ckV (fun j => s (this + 1) j % 256) k, s) := by
  refine wp_get ?_
  unfold F_Bytes_checkOf F_Bytes_checkOf_4
  rw [gd_pos hb]
  refine wp_loop (fun a : Int × Int × Hp => ∃ j : Nat, j ≤ k ∧ a.1 = ckV (fun j => s (this + 1) j % 256) j ∧ a.2.1 = (j : Int) ∧ a.2.2 = s) (fun a => (1000 - a.2.1).toNat) ?_ FU _ ?_ ?_
  · intro a K hp ih
    obtain ⟨x, y, u⟩ := a
    obtain ⟨j, hj, e0, e1, e2⟩ := hp
    dsimp only at e0 e1 e2 ih ⊢
    subst e0 e1 e2
    unfold F_Bytes_checkOf_4_b
    refine wp_if (fun c => ?_) (fun c => ?_)
    · have ej : j = k := by omega
      subst ej
      exact wp_ret ⟨rfl, rfl⟩
    · have hr := ckV_rng (fun j => u (this + 1) j % 256) j
      have hm : 0 ≤ u (this + 1) j % 256 ∧ u (this + 1) j % 256 < 256 := by omega
      rw [C_at hb hN hl (by omega), cl2_some, imul_ok (by omega), iadd_ok (by omega), irem_nn (by omega), lt_eq, lt_eq, iadd_ok (by omega)]
      exact ih _ ⟨j + 1, by omega, rfl, by simp, rfl⟩ (by dsimp only; omega)
  · exact ⟨0, by omega, rfl, rfl, rfl⟩
  · rw [FU_eq]
    show (1000 - (0 : Int)).toNat < 20000
    omega
theorem ckV_congr {f g : Nat → Int} : ∀ k, (∀ j, j < k → f j = g j) → ckV f k = ckV g k
  | 0, _ => rfl
  | k + 1, h => by rw [ckV_s, ckV_s, ckV_congr k (fun j hj => h j (by omega)), h k (by omega)]
/-- the bytes of an image, as far as the first roads -/
def imL (d : ND) (day : Nat) (D : DL) : Nat → List Int
  | 0 => [] ++ [(dR d : Int) % 256] ++ [(day : Int) / 256 % 256] ++ [(day : Int) % 256]
  | r + 1 => if D.1 r = true then imL d day D r ++ [1 % 256] ++ [D.2 r / 65536 / 256 % 256] ++ [D.2 r / 65536 % 256] ++ [D.2 r / 256 % 256] ++ [D.2 r % 256] else imL d day D r ++ [255 % 256]
theorem imL_s (r : Nat) : imL d day D (r + 1) = if D.1 r = true then imL d day D r ++ [1 % 256] ++ [D.2 r / 65536 / 256 % 256] ++ [D.2 r / 65536 % 256] ++ [D.2 r / 256 % 256] ++ [D.2 r % 256] else imL d day D r ++ [255 % 256] := rfl
theorem imL_len : ∀ r, (imL d day D r).length = 3 + r + 4 * dlN D r
  | 0 => rfl
  | r + 1 => by
    have ih := imL_len r
    show (imL d day D (r + 1)).length = 3 + (r + 1) + 4 * (dlN D r + if D.1 r = true then 1 else 0)
    rw [imL_s]
    by_cases c : D.1 r = true
    · rw [if_pos c, if_pos c, len1, len1, len1, len1, len1, ih]
      omega
    · rw [if_neg c, if_neg c, len1, ih]
      omega
theorem tlD_all (D : DL) : ∀ r, (tlD (fun _ => 0) D r).length = dlN D r
  | 0 => rfl
  | r + 1 => by
    have ih := tlD_all D r
    show _ = dlN D r + if D.1 r = true then 1 else 0
    rw [tlD_s]
    by_cases c : D.1 r = true
    · rw [if_pos ⟨c, show (0 : Int) ≠ -1 by decide⟩, if_pos c, List.length_append, ih]
      rfl
    · rw [if_neg (fun z => c z.1), if_neg c, ih]
      rfl
theorem dlN_6 (hd : NDok d) (hD : DLok d D) {r : Nat} (hr : r ≤ dR d) : dlN D r ≤ 6 := by
  have := tlD_len (ow := fun _ => 0) hd hD r hr
  rw [tlD_all] at this
  omega
def imA (d : ND) (day : Nat) (D : DL) : List Int := imL d day D (dR d) ++ [ckV (gL (imL d day D (dR d))) (imL d day D (dR d)).length / 256 % 256] ++ [ckV (gL (imL d day D (dR d))) (imL d day D (dR d)).length % 256]
theorem C_write (hd : NDok d) (hD : DLok d D) (hN : NetC σ n d) (hC : DlC σ D) (hday : day < 1000) (h0 : 0 ≤ σ 181 1) : wp (F_Img_write n day σ) (fun z s => z = ((imA d day D).length : Nat) ∧ CW σ s (imA d day D)) := by
  have hR := hd.2.1
  have hn : n = 50 ∨ n = 4 := hN.1
  have net : ∀ s' : Hp, imF σ s' → NetC s' n d := fun s' h' => hN.congr (fun i _ => by rw [h' n (by omega) (by omega)]) (fun q a c => h' q (by omega) (by omega))
  have c0 : CW σ (hset σ 181 1 0) [] := ⟨hset_same _ _ _ _, fun j hj => absurd hj (Nat.not_lt_zero _), fun q a1 a2 => by rw [hset_obj _ _ _ _ a1]⟩
  obtain ⟨s1, e1, c1⟩ := c0.put (by decide) (dR d : Int)
  obtain ⟨s2, e2, c2⟩ := c1.two (by rw [len1]; decide) (x := (day : Int)) (by omega)
  unfold F_Img_write F_Bytes_cut
  rw [gd_pos hN.1, gd_pos (show isBytes 181 by decide), if_neg (by decide), if_pos h0, lt_eq, cl2_some, (net _ c0.2.2).2.2.1, e1, cl2_some, e2, cl2_some]
  unfold F_Img_write_31
  refine wp_loop (fun a : Int × Hp => ∃ r : Nat, r ≤ dR d ∧ a.1 = (r : Int) ∧ CW σ a.2 (imL d day D r)) (fun a => (30 - a.1).toNat) ?_ FU _ ?_ ?_
  · intro a K hp ih
    obtain ⟨x, u⟩ := a
    obtain ⟨r, hr, e1, hu⟩ := hp
    dsimp only at e1 hu ih ⊢
    subst e1
    have hNu := net u hu.2.2
    have hl := imL_len (d := d) (day := day) (D := D) r
    have h6 := dlN_6 hd hD hr
    unfold F_Img_write_31_b F_Img_write_85
    rw [hNu.2.2.1]
    refine wp_if (fun c => ?_) (fun c => ?_)
    · have er : r = dR d := by omega
      subst er
      have e59 : lenOf shC (181 + 1) = 59 := by decide
      have ec : ckV (fun j => u (181 + 1) j % 256) (imL d day D (dR d)).length = ckV (gL (imL d day D (dR d))) (imL d day D (dR d)).length := ckV_congr _ (fun j hj => hu.2.1 j hj)
      have cr := ckV_rng (gL (imL d day D (dR d))) (imL d day D (dR d)).length
      obtain ⟨s3, e3, c3⟩ := hu.two (by omega) (x := ckV (gL (imL d day D (dR d))) (imL d day D (dR d)).length) (by omega)
      unfold F_Bytes_size
      rw [gd_pos (show isBytes 181 by decide), cl2_some, hu.1, C_checkOf (show isBytes 181 by decide) hu.1 (by omega) (by omega) (Nat.le_refl _), cl2_some, ec, e3, cl2_some, gd_pos (show isBytes 181 by decide), cl2_some]
      exact wp_ret ⟨c3.1, c3⟩
    · have hrR : r < dR d := by omega
      have h6' := dlN_6 hd hD (r := r + 1) (by omega)
      have h6' : dlN D r + (if D.1 r = true then 1 else 0) ≤ 6 := h6'
      have g30 : (0 : Int) ≤ (r : Int) ∧ (r : Int) < 30 := by omega
      have e174 : u 174 r = if D.1 r = true then 1 else 0 := by rw [hu.2.2 174 (by decide) (by decide)]; exact (hC.1 r (by omega)).1
      rw [gd_pos g30, Int.toNat_natCast, e174]
      by_cases cd : D.1 r = true
      · rw [if_pos cd] at h6'
        obtain ⟨s3, e3, c3⟩ := hu.put (by omega) 1
        have e175 : s3 175 r = D.2 r := by rw [c3.2.2 175 (by decide) (by decide)]; exact (hC.1 r (by omega)).2 cd
        have hDr := hD.2 r cd
        obtain ⟨s4, e4, c4⟩ := c3.num (by rw [len1]; omega) (x := D.2 r) (by omega)
        rw [if_pos cd, if_neg (by decide), e3, cl2_some, gd_pos g30, e175, e4, cl2_some, lt_eq, iadd_ok (by omega)]
        refine ih _ ⟨r + 1, by omega, by simp, ?_⟩ (by dsimp only; omega)
        rw [imL_s, if_pos cd]
        exact c4
      · obtain ⟨s3, e3, c3⟩ := hu.put (by omega) 255
        rw [if_neg cd, if_pos rfl, e3, cl2_some, lt_eq, iadd_ok (by omega)]
        refine ih _ ⟨r + 1, by omega, by simp, ?_⟩ (by dsimp only; omega)
        rw [imL_s, if_neg cd]
        exact c3
  · exact ⟨0, by omega, rfl, c2⟩
  · rw [FU_eq]
    show (30 - (0 : Int)).toNat < 20000
    omega
theorem M_image (hd : NDok d) (hD : DLok d D) (hN : NetM τ b d) (hM : DlM τ D) (hday : day < 1000) (h42 : τ 0 42 = day) : wp (F_M_image τ) (fun z t => z = ((imA d day D).length : Nat) ∧ MW τ t (imA d day D)) := by
  have hR := hd.2.1
  have hb := hN.1
  have net : ∀ s' : Hp, imM τ s' → NetM s' b d := fun s' h' => hN.congr (h'.2 12 (by decide)) (fun q a1 a2 => h'.1 q (by omega) (by omega))
  have c0 : MW τ (hset τ 0 71 0) [] := ⟨hset_same _ _ _ _, fun j hj => absurd hj (Nat.not_lt_zero _), fun q a1 a2 => by rw [hset_obj _ _ _ _ a1], fun i hi => by rw [hset_get, if_neg (by omega)]⟩
  have hN0 := net _ c0.2.2
  obtain ⟨t1, e1, c1⟩ := c0.put (by decide) (dR d : Int)
  obtain ⟨t2, e2, c2⟩ := c1.put (by rw [len1]; decide) ((day : Int) / 256)
  obtain ⟨t3, e3, c3⟩ := c2.put (by rw [len1, len1]; decide) (day : Int)
  have r8 : ishr (day : Int) 8 = (day : Int) / 256 := by rw [ishr_ok (by omega) (by decide)]; rfl
  unfold F_M_image
  rw [lt_eq, hN0.2.1, gd_pos (by omega), Int.toNat_natCast, hN0.2.2.2.1, e1, cl2_some, c1.2.2.2 42 (by decide), h42, r8, e2, cl2_some, c2.2.2.2 42 (by decide), h42, e3, cl2_some]
  unfold F_M_image_39
  refine wp_loop (fun a : Int × Hp => ∃ r : Nat, r ≤ dR d ∧ a.1 = (r : Int) ∧ MW τ a.2 (imL d day D r)) (fun a => (30 - a.1).toNat) ?_ FU _ ?_ ?_
  · intro a K hp ih
    obtain ⟨x, u⟩ := a
    obtain ⟨r, hr, e1, hu⟩ := hp
    dsimp only at e1 hu ih ⊢
    subst e1
    have hNu := net u hu.2.2
    have hl := imL_len (d := d) (day := day) (D := D) r
    have h6 := dlN_6 hd hD hr
    unfold F_M_image_39_b
    rw [hNu.2.1, gd_pos (by omega), Int.toNat_natCast, hNu.2.2.2.1]
    refine wp_if (fun c => ?_) (fun c => ?_)
    · have er : r = dR d := by omega
      subst er
      clear ih
      have cr := ckV_rng (gL (imL d day D (dR d)))
      unfold F_M_image_116
      refine wp_loop (fun a : Int × Int × Hp => ∃ j : Nat, j ≤ (imL d day D (dR d)).length ∧ a.1 = ckV (gL (imL d day D (dR d))) j ∧ a.2.1 = (j : Int) ∧ a.2.2 = u) (fun a => (1000 - a.2.1).toNat) ?_ FU _ ?_ ?_
      · intro a K hp ih
        obtain ⟨x, y, v⟩ := a
        obtain ⟨j, hj, e0, e1, e2⟩ := hp
        dsimp only at e0 e1 e2 ih ⊢
        subst e0 e1 e2
        unfold F_M_image_116_b
        rw [hu.1]
        refine wp_if (fun c => ?_) (fun c => ?_)
        · have ej : j = (imL d day D (dR d)).length := by omega
          subst ej
          have cr2 := cr (imL d day D (dR d)).length
          have r8 : ishr (ckV (gL (imL d day D (dR d))) (imL d day D (dR d)).length) 8 = ckV (gL (imL d day D (dR d))) (imL d day D (dR d)).length / 256 := by rw [ishr_ok (by omega) (by decide)]; rfl
          obtain ⟨t4, e4, c4⟩ := hu.put (by omega) (ckV (gL (imL d day D (dR d))) (imL d day D (dR d)).length / 256)
          obtain ⟨t5, e5, c5⟩ := c4.put (by rw [len1]; omega) (ckV (gL (imL d day D (dR d))) (imL d day D (dR d)).length)
          rw [r8, e4, cl2_some, e5, cl2_some]
          exact wp_ret ⟨c5.1, c5⟩
        · have cr2 := cr j
          have ej := hu.2.1 j (by omega)
          have hm : 0 ≤ gL (imL d day D (dR d)) j ∧ gL (imL d day D (dR d)) j < 256 := by
            have key : ∀ (L : List Int), (∀ x ∈ L, 0 ≤ x ∧ x < 256) → 0 ≤ gL L j ∧ gL L j < 256 := by
              intro L hL
              unfold gL
              by_cases hj : j < L.length
              · rw [List.getElem?_eq_getElem hj]
                exact hL _ (List.getElem_mem hj)
              · rw [List.getElem?_eq_none (by omega)]
                exact ⟨Int.le_refl _, by decide⟩
            refine key _ ?_
            have app : ∀ (L : List Int) (x : Int), (∀ y ∈ L, 0 ≤ y ∧ y < 256) → ∀ y ∈ L ++ [x % 256], 0 ≤ y ∧ y < 256 := by
              intro L x hL y hy
              rcases List.mem_append.mp hy with h | h
              · exact hL y h
              · rw [List.mem_singleton.mp h]
                omega
            have all : ∀ r, ∀ y ∈ imL d day D r, 0 ≤ y ∧ y < 256 := by
              intro r
              induction r with
              | zero => exact app _ _ (app _ _ (app _ _ (fun y hy => by cases hy)))
              | succ r ih =>
                rw [imL_s]
                split
                · exact app _ _ (app _ _ (app _ _ (app _ _ (app _ _ ih))))
                · exact app _ _ ih
            exact all _
          rw [gd_pos (by omega), Int.toNat_natCast, ej, imul_ok (by omega), iadd_ok (by omega), irem_nn (by omega), lt_eq, lt_eq, iadd_ok (by omega)]
          exact ih _ ⟨j + 1, by omega, rfl, by simp, rfl⟩ (by dsimp only; omega)
      · exact ⟨0, by omega, rfl, rfl, rfl⟩
      · rw [FU_eq]
        show (1000 - (0 : Int)).toNat < 20000
        omega
    · have hrR : r < dR d := by omega
      have g30 : (0 : Int) ≤ (r : Int) ∧ (r : Int) < 30 := by omega
      have k42 : ∀ s' : Hp, imM τ s' → s' 42 r = if D.1 r = true then 1 else 0 := fun s' h' => by rw [h'.1 42 (by decide) (by decide)]; exact (hM r (by omega)).1
      rw [gd_pos g30, Int.toNat_natCast, k42 u hu.2.2]
      unfold F_M_image_69 F_M_image_75
      obtain ⟨m, hm⟩ : ∃ m, FU = m + 1 + 1 + 1 + 1 + 1 := ⟨19995, by rw [FU_eq]⟩
      by_cases cd : D.1 r = true
      · have hDr := hD.2 r cd
        have k43 : ∀ s' : Hp, imM τ s' → s' 43 r = D.2 r := fun s' h' => by rw [h'.1 43 (by decide) (by decide)]; exact (hM r (by omega)).2 cd
        obtain ⟨u1, e1, c1⟩ := hu.put (by omega) 1
        obtain ⟨u2, e2, c2⟩ := c1.put (by rw [len1]; omega) (D.2 r / 65536 / 256)
        obtain ⟨u3, e3, c3⟩ := c2.put (by rw [len1, len1]; omega) (D.2 r / 65536)
        obtain ⟨u4, e4, c4⟩ := c3.put (by rw [len1, len1, len1]; omega) (D.2 r / 256)
        obtain ⟨u5, e5, c5⟩ := c4.put (by rw [len1, len1, len1, len1]; omega) (D.2 r)
        have st : ∀ (K2 : Int × Int × Hp → Option (Int × Hp)) (x y : Int) (v w : Hp), 0 ≤ x → x ≤ 24 → imM τ v → ishr (D.2 r) x = y → F_M_writes y v = some (0, w) → F_M_image_75_b K K2 (r : Int) x v = K2 ((r : Int), x - 8, w) := by
          intro K2 x y v w h0 h1 hv hy hw
          unfold F_M_image_75_b
          rw [if_neg (by omega), gd_pos g30, Int.toNat_natCast, k42 v hv, if_pos cd, if_neg (by decide), gd_pos g30, k43 v hv, hy, hw, cl2_some, lt_eq, iadd_ok (by omega)]
          rfl
        have r16 : ishr (D.2 r) 16 = D.2 r / 65536 := by rw [ishr_ok (by omega) (by decide)]; rfl
        have r8 : ishr (D.2 r) 8 = D.2 r / 256 := by rw [ishr_ok (by omega) (by decide)]; rfl
        have r24 : ishr (D.2 r) 24 = D.2 r / 65536 / 256 := by
          rw [ishr_ok (by omega) (by decide)]
          show D.2 r / 16777216 = _
          omega
        have r0 : ishr (D.2 r) 0 = D.2 r := by
          rw [ishr_ok (by omega) (by decide)]
          show D.2 r / 1 = _
          omega
        rw [if_pos cd, if_neg (by decide), e1, cl2_some, hm, loopF_s]
        dsimp only
        rw [st _ 24 _ u1 u2 (by decide) (by decide) c1.2.2 r24 e2, loopF_s]
        dsimp only
        rw [show (24 : Int) - 8 = 16 from rfl, st _ 16 _ u2 u3 (by decide) (by decide) c2.2.2 r16 e3, loopF_s]
        dsimp only
        rw [show (16 : Int) - 8 = 8 from rfl, st _ 8 _ u3 u4 (by decide) (by decide) c3.2.2 r8 e4, loopF_s]
        dsimp only
        rw [show (8 : Int) - 8 = 0 from rfl, st _ 0 _ u4 u5 (by decide) (by decide) c4.2.2 r0 e5, loopF_s]
        dsimp only
        unfold F_M_image_75_b F_M_image_106
        rw [if_pos (by decide), lt_eq, iadd_ok (by omega)]
        refine ih _ ⟨r + 1, by omega, by simp, ?_⟩ (by dsimp only; omega)
        rw [imL_s, if_pos cd]
        exact c5
      · obtain ⟨u1, e1, c1⟩ := hu.put (by omega) 255
        rw [if_neg cd, if_pos rfl, e1, cl2_some, hm, loopF_s]
        dsimp only
        unfold F_M_image_75_b F_M_image_106
        rw [if_neg (by decide), gd_pos g30, Int.toNat_natCast, k42 u1 c1.2.2, if_neg cd, if_pos rfl, lt_eq, iadd_ok (by omega)]
        refine ih _ ⟨r + 1, by omega, by simp, ?_⟩ (by dsimp only; omega)
        rw [imL_s, if_neg cd]
        exact c1
  · exact ⟨0, by omega, rfl, c3⟩
  · rw [FU_eq]
    show (30 - (0 : Int)).toNat < 20000
    omega
theorem InvAt.img (h : InvAt σ τ n b d A kn now day D) {s t : Hp} {L : List Int} (h1 : CW σ s L) (h2 : MW τ t L) (hl : L.length ≤ 59) : InvAt s t n b d A kn now day D := by
  obtain ⟨g, ⟨c1, c2, c3, c4, c5, c6, c7⟩, m, ⟨d1, d2⟩, o1, o2, o3⟩ := id h
  obtain ⟨w1, w2, f1⟩ := h1
  obtain ⟨v1, v2, f2⟩ := h2
  have k : ∀ q, q ≤ 180 → s q = σ q := fun q hq => f1 q (by omega) (by omega)
  have hn : n = 50 ∨ n = 4 := c1.1
  refine ⟨g, ⟨c1.congr (fun i _ => by rw [k n (by omega)]) (fun q a x => k q (by omega)), c2.congr (fun q a x => k q (by omega)), fun w hw => ?_, ⟨?_, fun q hq => ?_⟩, ⟨?_, ?_, ?_, ?_⟩, ⟨?_, fun r hr => ?_⟩, c7.congr g.1 (by rw [k 0 (by omega)]) (fun q a x => k q (by omega)) ?_⟩, m.congr (fun q hq => f2.1 q (by omega) (by omega)) (fun i hi => f2.2 i (by omega)), ⟨fun r hr => ?_, ?_⟩, ?_, ?_, ?_⟩
  · rw [k (n + 1) (by omega)]; exact c3 w hw
  · rw [k 46 (by omega)]; exact c4.1
  · rw [k 47 (by omega), k 48 (by omega), k 49 (by omega)]; exact c4.2 q hq
  · rw [k 0 (by omega)]; exact c5.1
  · rw [k 3 (by omega)]; exact c5.2.1
  · rw [k 0 (by omega)]; exact c5.2.2.1
  · rw [k 0 (by omega)]; exact c5.2.2.2
  · rw [k 88 (by omega)]; exact c6.1
  · rw [k 89 (by omega), k 90 (by omega)]; exact c6.2 r hr
  · rw [k 169 (by omega)]; exact c7.2.2.2
  · rw [k 174 (by omega), k 175 (by omega), f2.1 42 (by omega) (by omega), f2.1 43 (by omega) (by omega)]; exact d1 r hr
  · rw [k 173 (by omega)]; exact d2
  · rw [k 0 (by omega), f2.2 10 (by omega), f2.2 11 (by omega), f2.2 67 (by omega)]; exact o1
  · rw [k 1 (by omega), k 2 (by omega), f2.2 1 (by omega), f2.1 1 (by omega) (by omega)]; exact o2
  · refine ⟨by rw [w1]; omega, by rw [w1]; omega, by rw [w1, v1], fun j hj => ?_⟩
    rw [w1] at hj
    rw [v2 j (by omega), w2 j (by omega)]
theorem S_image (σ τ : Hp) (h : Inv σ τ) : ∃ (z : Int) (σ' τ' : Hp), F_RD_image σ = some (z, σ') ∧ F_M_image τ = some (z, τ') ∧ Inv σ' τ' := by
  obtain ⟨n, b, d, A, kn, now, day, D, hI⟩ := id h
  obtain ⟨⟨g1, g2, g3, g4, g5⟩, ⟨c1, c2, c3, c4, c5, c6, c7⟩, ⟨m1, m2, m3, m4, m5, m6⟩, hDl, o1, o2, o3⟩ := id hI
  obtain ⟨z, s, e, hz, hs⟩ := C_write g1 g5 c1 (Dl_C hDl) g4 o3.1
  obtain ⟨z2, t, e2, hz2, ht⟩ := M_image g1 g5 m1 (Dl_M hDl) g4 m6
  have hl : (imA d day D).length ≤ 59 := by
    have h1 := imL_len (d := d) (day := day) (D := D) (dR d)
    have h2 := dlN_6 g1 g5 (Nat.le_refl _)
    have hR := g1.2.1
    unfold imA
    rw [len1, len1]
    omega
  refine ⟨_, s, t, ?_, by rw [e2, hz2], n, b, d, A, kn, now, day, D, hI.img hs ht hl⟩
  unfold F_RD_image
  rw [c5.1, lt_eq, Int.toNat_natCast, gd_pos c1.1, c5.2.2.2, e, cl2_some, hz]
end Image
