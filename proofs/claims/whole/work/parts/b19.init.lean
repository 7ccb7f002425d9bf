/-! what holds at the start -/
section InitI
variable {s t : Hp}
theorem zrow_ne {n q : Nat} (h : q ≠ n) : zrow s n q = s q := by
  funext i
  show (if q = n then 0 else s q i) = s q i
  rw [if_neg h]
theorem zrow_at {n i : Nat} : zrow s n n i = 0 := by
  show (if n = n then (0 : Int) else s n i) = 0
  rw [if_pos rfl]
theorem zrows_ne {n m q : Nat} (h : q < n ∨ n + m ≤ q) : zrows s n m q = s q := by
  funext i
  show (if n ≤ q ∧ q < n + m then 0 else s q i) = s q i
  rw [if_neg (by omega)]
theorem zrows_at {n m q i : Nat} (h : n ≤ q ∧ q < n + m) : zrows s n m q i = 0 := by
  show (if n ≤ q ∧ q < n + m then (0 : Int) else s q i) = 0
  rw [if_pos h]
theorem rows1 : ∀ a, a < 12 → iaB zC32 (13 + 1 + a) = true ∧ lenOf zC32 (13 + 1 + a) = 12 := by decide +kernel
theorem rows2 : ∀ a, a < 12 → iaB zC78 (59 + 1 + a) = true ∧ lenOf zC78 (59 + 1 + a) = 12 := by decide +kernel
theorem I_loop1 : wp (I_X6_init_1_l FU (0, s)) (fun _ u => ∀ q, (q < 14 ∨ 26 ≤ q) → u q = s q) := by
  unfold I_X6_init_1_l
  refine wp_loop (fun a : Int × Hp => ∃ k : Nat, k ≤ 12 ∧ a.1 = (k : Int) ∧ ∀ q, (q < 14 ∨ 26 ≤ q) → a.2 q = s q) (fun a => (12 - a.1).toNat) ?_ FU _ ?_ ?_
  · intro a K hp ih
    obtain ⟨x, u⟩ := a
    obtain ⟨k, hk, e1, hf⟩ := hp
    dsimp only at e1 hf ih ⊢
    subst e1
    unfold I_X6_init_1_l_b
    refine wp_if (fun c => wp_ret hf) (fun c => ?_)
    have g : (0 : Int) ≤ (k : Int) ∧ (k : Int) < 12 := by omega
    have r := rows1 k (by omega)
    rw [gd_pos g, Int.toNat_natCast]
    refine wp_cl (J_fill r.1 r.2 (by decide) u) (fun _ u2 hu2 => ?_)
    rw [lt_eq, iadd_ok (by omega)]
    refine ih _ ⟨k + 1, by omega, by simp, fun q hq => ?_⟩ (by dsimp only; omega)
    dsimp only
    rw [hu2.1 q (by omega)]; exact hf q hq
  · exact ⟨0, by omega, rfl, fun _ _ => rfl⟩
  · rw [FU_eq]
    show (12 - (0 : Int)).toNat < 20000
    omega
theorem I_loop2 : wp (I_X6_init_2_l FU (0, s)) (fun _ u => (∀ a i, a < 12 → i < 12 → u (59 + 1 + a) i = -1) ∧ ∀ q, (q < 60 ∨ 72 ≤ q) → u q = s q) := by
  unfold I_X6_init_2_l
  refine wp_loop (fun a : Int × Hp => ∃ k : Nat, k ≤ 12 ∧ a.1 = (k : Int) ∧ (∀ a' i, a' < k → i < 12 → a.2 (59 + 1 + a') i = -1) ∧ ∀ q, (q < 60 ∨ 72 ≤ q) → a.2 q = s q) (fun a => (12 - a.1).toNat) ?_ FU _ ?_ ?_
  · intro a K hp ih
    obtain ⟨x, u⟩ := a
    obtain ⟨k, hk, e1, hz, hf⟩ := hp
    dsimp only at e1 hz hf ih ⊢
    subst e1
    unfold I_X6_init_2_l_b
    refine wp_if (fun c => wp_ret ⟨fun a i ha hi => hz a i (by omega) hi, hf⟩) (fun c => ?_)
    have g : (0 : Int) ≤ (k : Int) ∧ (k : Int) < 12 := by omega
    have r := rows2 k (by omega)
    rw [gd_pos g, Int.toNat_natCast]
    refine wp_cl (J_fill r.1 r.2 (by decide) u) (fun _ u2 hu2 => ?_)
    rw [lt_eq, iadd_ok (by omega)]
    refine ih _ ⟨k + 1, by omega, by simp, fun a' i ha' hi => ?_, fun q hq => ?_⟩ (by dsimp only; omega)
    · dsimp only
      by_cases e : a' = k
      · subst e
        exact hu2.2 i hi
      · rw [hu2.1 _ (by omega)]
        exact hz a' i (by omega) hi
    · dsimp only
      rw [hu2.1 q (by omega)]; exact hf q hq
  · exact ⟨0, by omega, rfl, fun a' i h => absurd h (by omega), fun _ _ => rfl⟩
  · rw [FU_eq]
    show (12 - (0 : Int)).toNat < 20000
    omega
theorem I_net1 : wp (I_X6_init_1 s) (fun _ u => ∀ q, (q < 5 ∨ 42 ≤ q) → u q = s q) := by
  unfold I_X6_init_1
  simp only [lt_eq]
  refine wp_mono I_loop1 (fun _ u hu q hq => ?_)
  rw [hu q (by omega), zrow_ne (by omega), zrow_ne (by omega), zrow_ne (by omega), zrows_ne (by omega), zrows_ne (by omega), zrow_ne (by omega), zrow_ne (by omega), zrow_ne (by omega), zrow_ne (by omega), zrow_ne (by omega), zrow_ne (by omega), zrow_ne (by omega), zrow_ne (by omega)]
theorem I_net2 : wp (I_X6_init_2 s) (fun _ u => (∀ a i, a < 12 → i < 12 → u (59 + 1 + a) i = -1 ∧ u (72 + 1 + a) i = 0) ∧ ∀ q, (q < 51 ∨ 88 ≤ q) → u q = s q) := by
  unfold I_X6_init_2
  simp only [lt_eq]
  refine wp_mono I_loop2 (fun _ u hu => ?_)
  refine ⟨fun a i ha hi => ⟨hu.1 a i ha hi, ?_⟩, fun q hq => ?_⟩
  · rw [hu.2 _ (by omega), zrow_ne (by omega), zrow_ne (by omega), zrow_ne (by omega)]
    exact zrows_at (by omega)
  · rw [hu.2 q (by omega), zrow_ne (by omega), zrow_ne (by omega), zrow_ne (by omega), zrows_ne (by omega), zrows_ne (by omega), zrow_ne (by omega), zrow_ne (by omega), zrow_ne (by omega), zrow_ne (by omega), zrow_ne (by omega), zrow_ne (by omega), zrow_ne (by omega), zrow_ne (by omega)]
theorem I_rdr : wp (I_X8_init_1 s) (fun _ u => u 3 1 = 4 ∧ ∀ q, (q < 3 ∨ 46 ≤ q) → u q = s q) := by
  unfold I_X8_init_1
  rw [lt_eq]
  refine wp_cl I_net1 (fun _ u hu => ?_)
  unfold I_X9_init_1
  simp only [lt_eq, cl2_some]
  refine wp_ret ⟨?_, fun q hq => ?_⟩
  · rw [zrow_ne (by decide), zrow_ne (by decide), zrow_ne (by decide), zrow_ne (by decide), hset_get, if_neg (by decide), hset_same]
    rfl
  · rw [zrow_ne (by omega), zrow_ne (by omega), zrow_ne (by omega), zrow_ne (by omega), hset_obj _ _ _ _ (by omega), hset_obj _ _ _ _ (by omega), hu q (by omega), zrow_ne (by omega)]
/-- rows from 1 on and below m stay -/
def upF (m : Nat) (s u : Hp) : Prop := ∀ q, 1 ≤ q → q < m → u q = s q
theorem upF_z {m n : Nat} {u : Hp} (h : upF m s u) (hn : m ≤ n) : upF m s (zrow u n) := fun q a b => by rw [zrow_ne (by omega)]; exact h q a b
theorem upF_zs {m n k : Nat} {u : Hp} (h : upF m s u) (hn : m ≤ n) : upF m s (zrows u n k) := fun q a b => by rw [zrows_ne (by omega)]; exact h q a b
theorem upF_s {m q i : Nat} {v : Int} {u : Hp} (h : upF m s u) (hn : q = 0 ∨ m ≤ q) : upF m s (hset u q i v) := fun q' a b => by rw [hset_obj _ _ _ _ (by omega)]; exact h q' a b
theorem upF_t {m : Nat} {u w : Hp} (h : upF m s u) (h2 : upF m u w) : upF m s w := fun q a b => by rw [h2 q a b]; exact h q a b
theorem upF_rfl {m : Nat} : upF m s s := fun _ _ _ => rfl
theorem I_cls : ∃ u, I_X11_init_1 (zrow (fun _ _ => 0) 0) = some (0, u) ∧ (u 0 3 = 50 ∧ u 0 11 = 0 ∧ u 0 12 = -1 ∧ u 0 13 = 0 ∧ u 0 14 = -1 ∧ u 0 15 = -1 ∧ u 0 16 = 1) ∧ (u 1 1 = 0 ∧ (∀ k, u 2 k = 0) ∧ u 3 1 = 4 ∧ u 46 3 = 0) ∧ (∀ i, u 50 i = 0) ∧ (∀ a i, a < 12 → i < 12 → u (59 + 1 + a) i = -1 ∧ u (72 + 1 + a) i = 0) ∧ u 88 2 = 50 ∧ u 139 0 = 0 ∧ u 169 0 = 0 ∧ (∀ i, i ≠ 6 → u 173 i = 0) ∧ (∀ r, u 174 r = 0) ∧ ∀ r, u 181 r = 0 := by
  unfold I_X11_init_1
  have z0 : zrow (fun _ _ => 0 : Hp) 0 = fun _ _ => 0 := by
    funext q i
    show (if q = 0 then (0 : Int) else 0) = 0
    split <;> rfl
  have z1 : zrow (fun _ _ => 0 : Hp) 1 = fun _ _ => 0 := by
    funext q i
    show (if q = 1 then (0 : Int) else 0) = 0
    split <;> rfl
  have z2 : zrow (fun _ _ => 0 : Hp) 2 = fun _ _ => 0 := by
    funext q i
    show (if q = 2 then (0 : Int) else 0) = 0
    split <;> rfl
  have z3 : zrow (fun _ _ => 0 : Hp) 3 = fun _ _ => 0 := by
    funext q i
    show (if q = 3 then (0 : Int) else 0) = 0
    split <;> rfl
  rw [z0, lt_eq, z1]
  unfold I_X2_init_1
  rw [lt_eq, z2, cl2_some, lt_eq, z3]
  obtain ⟨_, s1, e1, h31, hf1⟩ := I_rdr (s := fun _ _ => 0)
  rw [e1, cl2_some, lt_eq]
  unfold I_X0_init_1
  rw [lt_eq, lt_eq, lt_eq, cl2_some, lt_eq]
  obtain ⟨a1, ha1⟩ : ∃ a1, a1 = zrow (zrow (zrow (zrow (zrow s1 46) 47) 48) 49) 50 := ⟨_, rfl⟩
  rw [← ha1]
  have f1 : upF 46 s1 a1 := by rw [ha1]; exact upF_z (upF_z (upF_z (upF_z (upF_z upF_rfl (by decide)) (by decide)) (by decide)) (by decide)) (by decide)
  have a46 : ∀ i, a1 46 i = 0 := fun i => by rw [ha1, zrow_ne (by decide), zrow_ne (by decide), zrow_ne (by decide), zrow_ne (by decide)]; exact zrow_at
  have a50 : ∀ i, a1 50 i = 0 := fun i => by rw [ha1]; exact zrow_at
  have a0 : ∀ i, a1 0 i = 0 := fun i => by rw [ha1, zrow_ne (by decide), zrow_ne (by decide), zrow_ne (by decide), zrow_ne (by decide), zrow_ne (by decide), hf1 0 (by decide)]
  obtain ⟨_, s2, e2, ht2, hf2⟩ := I_net2 (s := a1)
  rw [e2, cl2_some, lt_eq, lt_eq]
  have g50 : ((zrow (hset s2 0 3 (Int.ofNat 50)) 88) 0 3).toNat = 50 := by
    rw [zrow_ne (by decide), hset_same]
    rfl
  rw [gd_pos g50]
  obtain ⟨a2, ha2⟩ : ∃ a2, a2 = zrow (hset s2 0 3 (Int.ofNat 50)) 88 := ⟨_, rfl⟩
  rw [← ha2]
  have b0 : ∀ i, i ≠ 3 → a2 0 i = 0 := fun i hi => by rw [ha2, zrow_ne (by decide), hset_get, if_neg (by omega), hf2 0 (by decide)]; exact a0 i
  have b03 : a2 0 3 = 50 := by rw [ha2, zrow_ne (by decide), hset_same]; rfl
  have f2 : upF 88 s2 a2 := by rw [ha2]; exact upF_z (upF_s upF_rfl (Or.inl rfl)) (by decide)
  unfold I_X10_init_1 I_X5_init_1 I_X7_init_1 I_X7_init_2 I_X1_init_1 I_X1_init_2 I_X3_init_1 I_X4_init_1 I_X2_init_2
  simp only [lt_eq, cl2_some]
  obtain ⟨a3, ha3⟩ : ∃ a3, a3 = hset (zrow (zrow a2 89) 90) 88 2 (Int.ofNat 50) := ⟨_, rfl⟩
  rw [← ha3]
  have c0 : ∀ i, a3 0 i = a2 0 i := fun i => by rw [ha3, hset_obj _ _ _ _ (by decide), zrow_ne (by decide), zrow_ne (by decide)]
  have c88 : a3 88 2 = 50 := by rw [ha3, hset_same]; rfl
  have f3 : upF 88 a2 a3 := by rw [ha3]; exact upF_s (upF_z (upF_z upF_rfl (by decide)) (by decide)) (Or.inr (by decide))
  obtain ⟨a4, ha4⟩ : ∃ a4, a4 = zrow (zrow (zrow (zrows (zrow (zrow (zrow (zrow (zrow (zrow (zrow (zrow (zrows (zrow a3 91) 92 14) 106) 107) 108) 109) 110) 111) 112) 113) 114 25) 139) 140) 141 := ⟨_, rfl⟩
  rw [← ha4]
  have d0 : ∀ i, a4 0 i = a3 0 i := fun i => by rw [ha4, zrow_ne (by decide), zrow_ne (by decide), zrow_ne (by decide), zrows_ne (by decide), zrow_ne (by decide), zrow_ne (by decide), zrow_ne (by decide), zrow_ne (by decide), zrow_ne (by decide), zrow_ne (by decide), zrow_ne (by decide), zrow_ne (by decide), zrows_ne (by decide), zrow_ne (by decide)]
  have f4 : upF 91 a3 a4 := by
    rw [ha4]
    exact upF_z (upF_z (upF_z (upF_zs (upF_z (upF_z (upF_z (upF_z (upF_z (upF_z (upF_z (upF_z (upF_zs (upF_z upF_rfl (by decide)) (by decide)) (by decide)) (by decide)) (by decide)) (by decide)) (by decide)) (by decide)) (by decide)) (by decide)) (by decide)) (by decide)) (by decide)) (by decide)
  have d139 : a4 139 0 = 0 := by rw [ha4, zrow_ne (by decide), zrow_ne (by decide)]; exact zrow_at
  have d88 : a4 88 2 = 50 := by rw [f4 88 (by decide) (by decide)]; exact c88
  have g4 : (a4 88 2).toNat = 50 := by rw [d88]; rfl
  rw [gd_pos g4, cl2_some]
  obtain ⟨a5, ha5⟩ : ∃ a5, a5 = zrow (zrow (zrow (zrows (zrow (zrow (hset a4 112 7 (Int.ofNat 50)) 142) 143) 144 25) 169) 170) 171 := ⟨_, rfl⟩
  rw [← ha5]
  have p0 : ∀ i, a5 0 i = a4 0 i := fun i => by rw [ha5, zrow_ne (by decide), zrow_ne (by decide), zrow_ne (by decide), zrows_ne (by decide), zrow_ne (by decide), zrow_ne (by decide), hset_obj _ _ _ _ (by decide)]
  have f5 : upF 112 a4 a5 := by
    rw [ha5]
    exact upF_z (upF_z (upF_z (upF_zs (upF_z (upF_z (upF_s upF_rfl (Or.inr (by decide))) (by decide)) (by decide)) (by decide)) (by decide)) (by decide)) (by decide)
  have p139 : a5 139 0 = 0 := by rw [ha5, zrow_ne (by decide), zrow_ne (by decide), zrow_ne (by decide), zrows_ne (by decide), zrow_ne (by decide), zrow_ne (by decide), hset_obj _ _ _ _ (by decide)]; exact d139
  have p169 : a5 169 0 = 0 := by rw [ha5, zrow_ne (by decide), zrow_ne (by decide)]; exact zrow_at
  have p88 : a5 88 2 = 50 := by rw [f5 88 (by decide) (by decide)]; exact d88
  have g5 : (a5 88 2).toNat = 50 := by rw [p88]; rfl
  rw [gd_pos g5, cl2_some]
  obtain ⟨a6, ha6⟩ : ∃ a6, a6 = zrow (zrow (zrow (zrow (zrow (zrow (zrow (zrow (hset a5 142 7 (Int.ofNat 50)) 172) 173) 174) 175) 176) 177) 178) 179 := ⟨_, rfl⟩
  rw [← ha6]
  have q0 : ∀ i, a6 0 i = a5 0 i := fun i => by rw [ha6, zrow_ne (by decide), zrow_ne (by decide), zrow_ne (by decide), zrow_ne (by decide), zrow_ne (by decide), zrow_ne (by decide), zrow_ne (by decide), zrow_ne (by decide), hset_obj _ _ _ _ (by decide)]
  have f6 : upF 142 a5 a6 := by
    rw [ha6]
    exact upF_z (upF_z (upF_z (upF_z (upF_z (upF_z (upF_z (upF_z (upF_s upF_rfl (Or.inr (by decide))) (by decide)) (by decide)) (by decide)) (by decide)) (by decide)) (by decide)) (by decide)) (by decide)
  have q169 : a6 169 0 = 0 := by rw [ha6, zrow_ne (by decide), zrow_ne (by decide), zrow_ne (by decide), zrow_ne (by decide), zrow_ne (by decide), zrow_ne (by decide), zrow_ne (by decide), zrow_ne (by decide), hset_obj _ _ _ _ (by decide)]; exact p169
  have q173 : ∀ i, a6 173 i = 0 := fun i => by rw [ha6, zrow_ne (by decide), zrow_ne (by decide), zrow_ne (by decide), zrow_ne (by decide), zrow_ne (by decide), zrow_ne (by decide)]; exact zrow_at
  have q174 : ∀ i, a6 174 i = 0 := fun i => by rw [ha6, zrow_ne (by decide), zrow_ne (by decide), zrow_ne (by decide), zrow_ne (by decide), zrow_ne (by decide)]; exact zrow_at
  have q88 : a6 88 2 = 50 := by rw [f6 88 (by decide) (by decide)]; exact p88
  have g6 : (a6 88 2).toNat = 50 := by rw [q88]; rfl
  rw [gd_pos g6, cl2_some]
  obtain ⟨a7, ha7⟩ : ∃ a7, a7 = zrow (zrow (zrow (zrow (zrow (hset a6 173 6 (Int.ofNat 50)) 180) 181) 182) 183) 184 := ⟨_, rfl⟩
  rw [← ha7]
  have r0 : ∀ i, a7 0 i = a2 0 i := fun i => by rw [ha7, zrow_ne (by decide), zrow_ne (by decide), zrow_ne (by decide), zrow_ne (by decide), zrow_ne (by decide), hset_obj _ _ _ _ (by decide), q0, p0, d0, c0]
  have f7 : upF 173 a6 a7 := by
    rw [ha7]
    exact upF_z (upF_z (upF_z (upF_z (upF_z (upF_s upF_rfl (Or.inr (by decide))) (by decide)) (by decide)) (by decide)) (by decide)) (by decide)
  have r173 : ∀ i, i ≠ 6 → a7 173 i = 0 := fun i hi => by rw [ha7, zrow_ne (by decide), zrow_ne (by decide), zrow_ne (by decide), zrow_ne (by decide), zrow_ne (by decide), hset_get, if_neg (by omega)]; exact q173 i
  have r174 : ∀ i, a7 174 i = 0 := fun i => by rw [ha7, zrow_ne (by decide), zrow_ne (by decide), zrow_ne (by decide), zrow_ne (by decide), zrow_ne (by decide), hset_obj _ _ _ _ (by decide)]; exact q174 i
  have r181 : ∀ i, a7 181 i = 0 := fun i => by rw [ha7, zrow_ne (by decide), zrow_ne (by decide), zrow_ne (by decide)]; exact zrow_at
  have F2 : ∀ q, 1 ≤ q → q < 88 → a7 q = s2 q := fun q i1 i2 => by rw [f7 q i1 (by omega), f6 q i1 (by omega), f5 q i1 (by omega), f4 q i1 (by omega), f3 q i1 (by omega), f2 q i1 (by omega)]
  refine ⟨_, rfl, ⟨?_, ?_, ?_, ?_, ?_, ?_, ?_⟩, ⟨?_, fun k => ?_, ?_, ?_⟩, fun i => ?_, fun a i ha hi => ?_, ?_, ?_, ?_, fun i hi => ?_, fun r => ?_, fun r => ?_⟩
  · rw [hset_get, if_neg (by decide), hset_get, if_neg (by decide), hset_get, if_neg (by decide), hset_get, if_neg (by decide), r0]; exact b03
  · rw [hset_get, if_neg (by decide), hset_get, if_neg (by decide), hset_get, if_neg (by decide), hset_get, if_neg (by decide), r0]; exact b0 11 (by decide)
  · rw [hset_get, if_neg (by decide), hset_get, if_neg (by decide), hset_get, if_neg (by decide), hset_same]
  · rw [hset_get, if_neg (by decide), hset_get, if_neg (by decide), hset_get, if_neg (by decide), hset_get, if_neg (by decide), r0]; exact b0 13 (by decide)
  · rw [hset_get, if_neg (by decide), hset_get, if_neg (by decide), hset_same]
  · rw [hset_get, if_neg (by decide), hset_same]
  · rw [hset_same]
  · rw [hset_obj _ _ _ _ (by decide), hset_obj _ _ _ _ (by decide), hset_obj _ _ _ _ (by decide), hset_obj _ _ _ _ (by decide), F2 1 (by decide) (by decide), hf2 1 (by decide), f1 1 (by decide) (by decide), hf1 1 (by decide)]
  · rw [hset_obj _ _ _ _ (by decide), hset_obj _ _ _ _ (by decide), hset_obj _ _ _ _ (by decide), hset_obj _ _ _ _ (by decide), F2 2 (by decide) (by decide), hf2 2 (by decide), f1 2 (by decide) (by decide), hf1 2 (by decide)]
  · rw [hset_obj _ _ _ _ (by decide), hset_obj _ _ _ _ (by decide), hset_obj _ _ _ _ (by decide), hset_obj _ _ _ _ (by decide), F2 3 (by decide) (by decide), hf2 3 (by decide), f1 3 (by decide) (by decide)]; exact h31
  · rw [hset_obj _ _ _ _ (by decide), hset_obj _ _ _ _ (by decide), hset_obj _ _ _ _ (by decide), hset_obj _ _ _ _ (by decide), F2 46 (by decide) (by decide), hf2 46 (by decide)]; exact a46 3
  · rw [hset_obj _ _ _ _ (by decide), hset_obj _ _ _ _ (by decide), hset_obj _ _ _ _ (by decide), hset_obj _ _ _ _ (by decide), F2 50 (by decide) (by decide), hf2 50 (by decide)]; exact a50 i
  · rw [hset_obj _ _ _ _ (by omega), hset_obj _ _ _ _ (by omega), hset_obj _ _ _ _ (by omega), hset_obj _ _ _ _ (by omega), F2 _ (by omega) (by omega), hset_obj _ _ _ _ (by omega), hset_obj _ _ _ _ (by omega), hset_obj _ _ _ _ (by omega), hset_obj _ _ _ _ (by omega), F2 _ (by omega) (by omega)]; exact ht2 a i ha hi
  · rw [hset_obj _ _ _ _ (by decide), hset_obj _ _ _ _ (by decide), hset_obj _ _ _ _ (by decide), hset_obj _ _ _ _ (by decide), f7 88 (by decide) (by decide)]; exact q88
  · rw [hset_obj _ _ _ _ (by decide), hset_obj _ _ _ _ (by decide), hset_obj _ _ _ _ (by decide), hset_obj _ _ _ _ (by decide), f7 139 (by decide) (by decide), f6 139 (by decide) (by decide)]; exact p139
  · rw [hset_obj _ _ _ _ (by decide), hset_obj _ _ _ _ (by decide), hset_obj _ _ _ _ (by decide), hset_obj _ _ _ _ (by decide), f7 169 (by decide) (by decide)]; exact q169
  · rw [hset_obj _ _ _ _ (by decide), hset_obj _ _ _ _ (by decide), hset_obj _ _ _ _ (by decide), hset_obj _ _ _ _ (by decide)]; exact r173 i hi
  · rw [hset_obj _ _ _ _ (by decide), hset_obj _ _ _ _ (by decide), hset_obj _ _ _ _ (by decide), hset_obj _ _ _ _ (by decide)]; exact r174 r
  · rw [hset_obj _ _ _ _ (by decide), hset_obj _ _ _ _ (by decide), hset_obj _ _ _ _ (by decide), hset_obj _ _ _ _ (by decide)]; exact r181 r
end InitI
