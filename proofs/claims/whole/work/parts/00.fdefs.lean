def F_J_fill_53178_5_b (sh : aSh) (k5 : Int × Int × Hp → Option (Int × Hp)) (a0 : Nat) (a1 : Int) (x2 : Int) (x3 : Int) (σ : Hp) : Option (Int × Hp) :=
  (if x3 ≤ x2 then (
    some (0, σ)
  ) else (
    gd (0 ≤ x2 ∧ x2 < ((lenOf sh a0 : Nat) : Int)) <|
    lt (hset σ a0 x2.toNat a1) fun s3 =>
    lt (iadd x2 1) fun y2_4 =>
    k5 (y2_4, x3, s3)
  ))
def F_J_fill_53178_5 (sh : aSh) (a0 : Nat) (a1 : Int) : Nat → Int × Int × Hp → Option (Int × Hp) := loopF (fun k5 a => F_J_fill_53178_5_b sh k5 a0 a1 a.1 a.2.1 a.2.2)
def F_J_fill_53178 (sh : aSh) (a0 : Nat) (a1 : Int) (σ : Hp) : Option (Int × Hp) :=
  gd (iaB sh a0 = true) <|
  lt (Int.ofNat (lenOf sh a0)) fun y3_5 =>
  F_J_fill_53178_5 sh a0 a1 FU (0, y3_5, σ)
def F_J_floorDiv_7cf53_21 (sh : aSh) (a0 : Int) (a1 : Int) (x2 : Int) (σ : Hp) : Option (Int × Hp) :=
  some (x2, σ)
def F_J_floorDiv_7cf53 (sh : aSh) (a0 : Int) (a1 : Int) (σ : Hp) : Option (Int × Hp) :=
  gd (¬ a1 = 0) <|
  lt (idiv a0 a1) fun y2_2 =>
  (if 0 ≤ (ixor a0 a1) then (
    F_J_floorDiv_7cf53_21 sh a0 a1 y2_2 σ
  ) else (
    (if (imul y2_2 a1) = a0 then (
      F_J_floorDiv_7cf53_21 sh a0 a1 y2_2 σ
    ) else (
      some (isub y2_2 1, σ)
    ))
  ))
def F_J_floorMod_7cf53_18 (sh : aSh) (a0 : Int) (a1 : Int) (x2 : Int) (σ : Hp) : Option (Int × Hp) :=
  some (x2, σ)
def F_J_floorMod_7cf53 (sh : aSh) (a0 : Int) (a1 : Int) (σ : Hp) : Option (Int × Hp) :=
  gd (¬ a1 = 0) <|
  lt (irem a0 a1) fun y2_2 =>
  (if 0 ≤ (ixor a0 a1) then (
    F_J_floorMod_7cf53_18 sh a0 a1 y2_2 σ
  ) else (
    (if y2_2 = 0 then (
      F_J_floorMod_7cf53_18 sh a0 a1 y2_2 σ
    ) else (
      some (iadd y2_2 a1, σ)
    ))
  ))
def F_Acts_add (a1 : Int) (a2 : Int) (σ : Hp) : Option (Int × Hp) :=
  (if (σ 46 3) < 200 then (
    gd (0 ≤ (σ 46 3) ∧ (σ 46 3) < (200 : Int)) <|
    lt (hset σ 47 (σ 46 3).toNat a1) fun s3 =>
    gd (0 ≤ (s3 46 3) ∧ (s3 46 3) < (200 : Int)) <|
    lt (hset s3 48 (s3 46 3).toNat a2) fun s5 =>
    gd (0 ≤ (s5 46 3) ∧ (s5 46 3) < (200 : Int)) <|
    lt (hset s5 49 (s5 46 3).toNat 0) fun s7 =>
    lt (hset s7 46 3 (iadd (s7 46 3) 1)) fun s8 =>
    some (s8 46 3, s8)
  ) else (
    some ((-1), σ)
  ))
def F_Acts_annulled_36 (a1 : Int) (σ : Hp) : Option (Int × Hp) :=
  some ((-1), σ)
def F_Acts_annulled_59 (a1 : Int) (x2 : Int) (σ : Hp) : Option (Int × Hp) :=
  some (x2, σ)
def F_Acts_annulled (a1 : Int) (σ : Hp) : Option (Int × Hp) :=
  (if a1 < 1 then (
    F_Acts_annulled_36 a1 σ
  ) else (
    (if (σ 46 3) < a1 then (
      F_Acts_annulled_36 a1 σ
    ) else (
      gd (0 ≤ (isub a1 1) ∧ (isub a1 1) < (200 : Int)) <|
      (if (σ 47 (isub a1 1).toNat) = (-1) then (
        F_Acts_annulled_36 a1 σ
      ) else (
        gd (0 ≤ (isub a1 1) ∧ (isub a1 1) < (200 : Int)) <|
        (if (σ 49 (isub a1 1).toNat) = 0 then (
          cl2 (F_Acts_add (-1) 0 σ) fun v7 s8 =>
          (if v7 = (-1) then (
            F_Acts_annulled_59 a1 v7 s8
          ) else (
            gd (0 ≤ (isub a1 1) ∧ (isub a1 1) < (200 : Int)) <|
            lt (hset s8 49 (isub a1 1).toNat v7) fun s12 =>
            F_Acts_annulled_59 a1 v7 s12
          ))
        ) else (
          F_Acts_annulled_36 a1 σ
        ))
      ))
    ))
  ))
def F_Acts_clear (σ : Hp) : Option (Int × Hp) :=
  lt (hset σ 46 3 0) fun s1 =>
  some (0, s1)
def F_Acts_knownWorth_63 (k11 : Int × Hp → Option (Int × Hp)) (a1 : Int) (a2 : Int) (x3 : Int) (σ : Hp) : Option (Int × Hp) :=
  lt (iadd x3 (-1)) fun y3_1 =>
  k11 (y3_1, σ)
def F_Acts_knownWorth_39 (k11 : Int × Hp → Option (Int × Hp)) (a1 : Int) (a2 : Int) (x3 : Int) (t1 : Int) (σ : Hp) : Option (Int × Hp) :=
  gd (0 ≤ x3 ∧ x3 < (200 : Int)) <|
  (if (σ 47 x3.toNat) = a1 then (
    (if t1 = 0 then (
      gd (0 ≤ x3 ∧ x3 < (200 : Int)) <|
      some (σ 48 x3.toNat, σ)
    ) else (
      F_Acts_knownWorth_63 k11 a1 a2 x3 σ
    ))
  ) else (
    F_Acts_knownWorth_63 k11 a1 a2 x3 σ
  ))
def F_Acts_knownWorth_38 (k11 : Int × Hp → Option (Int × Hp)) (a1 : Int) (a2 : Int) (x3 : Int) (σ : Hp) : Option (Int × Hp) :=
  F_Acts_knownWorth_39 k11 a1 a2 x3 0 σ
def F_Acts_knownWorth_11_b (k11 : Int × Hp → Option (Int × Hp)) (a1 : Int) (a2 : Int) (x3 : Int) (σ : Hp) : Option (Int × Hp) :=
  (if x3 < 0 then (
    some ((-2), σ)
  ) else (
    gd (0 ≤ x3 ∧ x3 < (200 : Int)) <|
    (if (σ 49 x3.toNat) = 0 then (
      F_Acts_knownWorth_38 k11 a1 a2 x3 σ
    ) else (
      gd (0 ≤ x3 ∧ x3 < (200 : Int)) <|
      (if a2 < (σ 49 x3.toNat) then (
        F_Acts_knownWorth_38 k11 a1 a2 x3 σ
      ) else (
        F_Acts_knownWorth_39 k11 a1 a2 x3 1 σ
      ))
    ))
  ))
def F_Acts_knownWorth_11 (a1 : Int) (a2 : Int) : Nat → Int × Hp → Option (Int × Hp) := loopF (fun k11 a => F_Acts_knownWorth_11_b k11 a1 a2 a.1 a.2)
def F_Acts_knownWorth (a1 : Int) (a2 : Int) (σ : Hp) : Option (Int × Hp) :=
  lt (isub (imin a2 (σ 46 3)) 1) fun y3_11 =>
  F_Acts_knownWorth_11 a1 a2 FU (y3_11, σ)
def F_View_gainOf (a1 : Int) (σ : Hp) : Option (Int × Hp) :=
  gd (0 ≤ a1 ∧ a1 < (30 : Int)) <|
  lt (σ 88 2).toNat fun q2 =>
  gd (isNet q2) <|
  lt (σ 88 2).toNat fun q4 =>
  gd (isNet q4) <|
  gd (0 ≤ a1 ∧ a1 < (30 : Int)) <|
  gd (0 ≤ (σ (q4 + 3) a1.toNat) ∧ (σ (q4 + 3) a1.toNat) < (12 : Int)) <|
  lt (σ 88 2).toNat fun q8 =>
  gd (isNet q8) <|
  lt (σ 88 2).toNat fun q10 =>
  gd (isNet q10) <|
  gd (0 ≤ a1 ∧ a1 < (30 : Int)) <|
  gd (0 ≤ (σ (q10 + 4) a1.toNat) ∧ (σ (q10 + 4) a1.toNat) < (12 : Int)) <|
  some (isub (isub (σ 90 a1.toNat) (σ (q2 + 2) (σ (q4 + 3) a1.toNat).toNat)) (σ (q8 + 2) (σ (q10 + 4) a1.toNat).toNat), σ)
def F_Net_push_29 (this : Nat) (a1 : Int) (σ : Hp) : Option (Int × Hp) :=
  some (0, σ)
def F_Net_push (this : Nat) (a1 : Int) (σ : Hp) : Option (Int × Hp) :=
  gd (isNet this) <|
  (if 64 ≤ (σ this 13) then (
    F_Net_push_29 this a1 σ
  ) else (
    gd (0 ≤ (σ this 13) ∧ (σ this 13) < (64 : Int)) <|
    lt (hset σ (this + 37) (σ this 13).toNat a1) fun s3 =>
    lt (hset s3 this 13 (iadd (s3 this 13) 1)) fun s4 =>
    F_Net_push_29 this a1 s4
  ))
def F_Net_pop (this : Nat) (σ : Hp) : Option (Int × Hp) :=
  gd (isNet this) <|
  (if (σ this 13) ≤ 0 then (
    some (0, σ)
  ) else (
    lt (hset σ this 13 (isub (σ this 13) 1)) fun s2 =>
    gd (0 ≤ (s2 this 13) ∧ (s2 this 13) < (64 : Int)) <|
    some (s2 (this + 37) (s2 this 13).toNat, s2)
  ))
def F_Net_capped_29 (a0 : Int) (t1 : Int) (σ : Hp) : Option (Int × Hp) :=
  some (w32 t1, σ)
def F_Net_capped (a0 : Int) (σ : Hp) : Option (Int × Hp) :=
  (if (lcmp a0 1000000000) ≤ 0 then (
    (if 0 ≤ (lcmp a0 (-1000000000)) then (
      F_Net_capped_29 a0 a0 σ
    ) else (
      F_Net_capped_29 a0 (-1000000000) σ
    ))
  ) else (
    F_Net_capped_29 a0 1000000000 σ
  ))
def F_Net_joined_140 (a0 : Int) (a1 : Int) (a2 : Int) (t1 : Int) (σ : Hp) : Option (Int × Hp) :=
  some (t1, σ)
def F_Net_joined_154 (a0 : Int) (a1 : Int) (a2 : Int) (t1 : Int) (σ : Hp) : Option (Int × Hp) :=
  some (t1, σ)
def F_Net_joined_165 (a0 : Int) (a1 : Int) (a2 : Int) (t1 : Int) (σ : Hp) : Option (Int × Hp) :=
  some (t1, σ)
def F_Net_joined_176 (a0 : Int) (a1 : Int) (a2 : Int) (t1 : Int) (σ : Hp) : Option (Int × Hp) :=
  some (t1, σ)
def F_Net_joined_187 (a0 : Int) (a1 : Int) (a2 : Int) (t1 : Int) (σ : Hp) : Option (Int × Hp) :=
  some (t1, σ)
def F_Net_joined (a0 : Int) (a1 : Int) (a2 : Int) (σ : Hp) : Option (Int × Hp) :=
  (if a0 = 37 then (
    (if a2 = 0 then (
      F_Net_joined_154 a0 a1 a2 0 σ
    ) else (
      cl2 (F_J_floorMod_7cf53 shC a1 a2 σ) fun v3 s4 =>
      F_Net_joined_154 a0 a1 a2 v3 s4
    ))
  ) else (
  (if a0 = 42 then (
    cl2 (F_Net_capped (lmul a1 a2) σ) fun v7 s8 =>
    some (v7, s8)
  ) else (
  (if a0 = 43 then (
    cl2 (F_Net_capped (ladd a1 a2) σ) fun v11 s12 =>
    some (v11, s12)
  ) else (
  (if a0 = 45 then (
    cl2 (F_Net_capped (lsub a1 a2) σ) fun v15 s16 =>
    some (v15, s16)
  ) else (
  (if a0 = 47 then (
    (if a2 = 0 then (
      F_Net_joined_140 a0 a1 a2 0 σ
    ) else (
      cl2 (F_J_floorDiv_7cf53 shC a1 a2 σ) fun v20 s21 =>
      F_Net_joined_140 a0 a1 a2 v20 s21
    ))
  ) else (
  (if a0 = 60 then (
    (if a2 ≤ a1 then (
      F_Net_joined_165 a0 a1 a2 0 σ
    ) else (
      F_Net_joined_165 a0 a1 a2 1 σ
    ))
  ) else (
  (if a0 = 61 then (
    (if a1 = a2 then (
      F_Net_joined_187 a0 a1 a2 1 σ
    ) else (
      F_Net_joined_187 a0 a1 a2 0 σ
    ))
  ) else (
  (if a0 = 62 then (
    (if a1 ≤ a2 then (
      F_Net_joined_176 a0 a1 a2 0 σ
    ) else (
      F_Net_joined_176 a0 a1 a2 1 σ
    ))
  ) else (
  (if a0 = 265 then (
    some (iand a1 a2, σ)
  ) else (
  (if a0 = 271 then (
    some (imin a1 a2, σ)
  ) else (
  (if a0 = 272 then (
    some (imax a1 a2, σ)
  ) else (
    some (ior a1 a2, σ)
  ))))))))))))))))))))))
def F_Net_step_110 (this : Nat) (a1 : Int) (a2 : Int) (σ : Hp) : Option (Int × Hp) :=
  some (0, σ)
def F_Net_step_79 (this : Nat) (a1 : Int) (a2 : Int) (σ : Hp) : Option (Int × Hp) :=
  (if a1 < 0 then (
    cl2 (F_Net_pop this σ) fun v2 s3 =>
    cl2 (F_Net_pop this s3) fun v5 s6 =>
    cl2 (F_Net_joined (ineg a1) v5 v2 s6) fun v8 s9 =>
    cl2 (F_Net_push this v8 s9) fun v11 s12 =>
    F_Net_step_110 this a1 a2 s12
  ) else (
    cl2 (F_Net_push this a1 σ) fun v14 s15 =>
    F_Net_step_110 this a1 a2 s15
  ))
def F_Net_step (this : Nat) (a1 : Int) (a2 : Int) (σ : Hp) : Option (Int × Hp) :=
  gd (isNet this) <|
  (if (ineg a1) = 266 then (
    cl2 (F_Net_pop this σ) fun v18 s19 =>
    cl2 (F_Net_push this (isub 1 v18) s19) fun v21 s22 =>
    F_Net_step_110 this a1 a2 s22
  ) else (
  (if (ineg a1) = 267 then (
    F_Net_step_79 this a1 a2 σ
  ) else (
  (if (ineg a1) = 268 then (
    cl2 (F_Net_push this a2 σ) fun v26 s27 =>
    F_Net_step_110 this a1 a2 s27
  ) else (
  (if (ineg a1) = 269 then (
    cl2 (F_Net_push this (idiv a2 7) σ) fun v30 s31 =>
    F_Net_step_110 this a1 a2 s31
  ) else (
  (if (ineg a1) = 270 then (
    cl2 (F_Net_push this (irem a2 7) σ) fun v34 s35 =>
    F_Net_step_110 this a1 a2 s35
  ) else (
    F_Net_step_79 this a1 a2 σ
  ))))))))))
def F_Net_reckoned_40 (this : Nat) (a1 : Int) (a2 : Int) (a3 : Int) (σ : Hp) : Option (Int × Hp) :=
  cl2 (F_Net_pop this σ) fun v1 s2 =>
  some (v1, s2)
def F_Net_reckoned_8_b (k8 : Int × Hp → Option (Int × Hp)) (this : Nat) (a1 : Int) (a2 : Int) (a3 : Int) (x4 : Int) (σ : Hp) : Option (Int × Hp) :=
  (if a2 ≤ x4 then (
    F_Net_reckoned_40 this a1 a2 a3 σ
  ) else (
    (if 900 ≤ x4 then (
      F_Net_reckoned_40 this a1 a2 a3 σ
    ) else (
      gd (0 ≤ x4 ∧ x4 < (900 : Int)) <|
      cl2 (F_Net_step this (σ (this + 36) x4.toNat) a3 σ) fun v7 s8 =>
      lt (iadd x4 1) fun y4_10 =>
      k8 (y4_10, s8)
    ))
  ))
def F_Net_reckoned_8 (this : Nat) (a1 : Int) (a2 : Int) (a3 : Int) : Nat → Int × Hp → Option (Int × Hp) := loopF (fun k8 a => F_Net_reckoned_8_b k8 this a1 a2 a3 a.1 a.2)
def F_Net_reckoned (this : Nat) (a1 : Int) (a2 : Int) (a3 : Int) (σ : Hp) : Option (Int × Hp) :=
  gd (isNet this) <|
  lt (hset σ this 13 0) fun s11 =>
  F_Net_reckoned_8 this a1 a2 a3 FU (a1, s11)
def F_Net_worthOn_47 (this : Nat) (a1 : Int) (a2 : Int) (σ : Hp) : Option (Int × Hp) :=
  gd (0 ≤ a1 ∧ a1 < (30 : Int)) <|
  gd (0 ≤ a1 ∧ a1 < (30 : Int)) <|
  cl2 (F_Net_reckoned this (σ (this + 6) a1.toNat) (σ (this + 7) a1.toNat) a2 σ) fun v3 s4 =>
  some (imin (imax v3 0) 100000, s4)
def F_Net_worthOn_20 (this : Nat) (a1 : Int) (a2 : Int) (t1 : Int) (σ : Hp) : Option (Int × Hp) :=
  (if t1 = 0 then (
    F_Net_worthOn_47 this a1 a2 σ
  ) else (
    gd (0 ≤ a1 ∧ a1 < (30 : Int)) <|
    gd (0 ≤ a1 ∧ a1 < (30 : Int)) <|
    cl2 (F_Net_reckoned this (σ (this + 7) a1.toNat) (σ (this + 8) a1.toNat) a2 σ) fun v9 s10 =>
    (if v9 = 0 then (
      some ((-1), s10)
    ) else (
      F_Net_worthOn_47 this a1 a2 s10
    ))
  ))
def F_Net_worthOn (this : Nat) (a1 : Int) (a2 : Int) (σ : Hp) : Option (Int × Hp) :=
  gd (isNet this) <|
  gd (0 ≤ a1 ∧ a1 < (30 : Int)) <|
  gd (0 ≤ a1 ∧ a1 < (30 : Int)) <|
  (if (σ (this + 8) a1.toNat) ≤ (σ (this + 7) a1.toNat) then (
    F_Net_worthOn_20 this a1 a2 0 σ
  ) else (
    F_Net_worthOn_20 this a1 a2 1 σ
  ))
def F_Net_madeWith (this : Nat) (a1 : Int) (a2 : Int) (σ : Hp) : Option (Int × Hp) :=
  gd (isNet this) <|
  gd (0 ≤ a1 ∧ a1 < (30 : Int)) <|
  lt (σ (this + 3) a1.toNat) fun y3_2 =>
  gd (0 ≤ a1 ∧ a1 < (30 : Int)) <|
  lt (σ (this + 4) a1.toNat) fun y4_4 =>
  gd (0 ≤ y3_2 ∧ y3_2 < (12 : Int)) <|
  gd (0 ≤ y4_4 ∧ y4_4 < (12 : Int)) <|
  gd (0 ≤ y4_4 ∧ y4_4 < (12 : Int)) <|
  gd (0 ≤ y3_2 ∧ y3_2 < (12 : Int)) <|
  some (iadd (iadd a2 (σ ((this + 22) + 1 + y3_2.toNat) y4_4.toNat)) (σ ((this + 22) + 1 + y4_4.toNat) y3_2.toNat), σ)
def F_View_look_94 (k8 : Int × Hp → Option (Int × Hp)) (a1 : Nat) (a3 : Int) (a4 : Int) (x5 : Int) (t3 : Int) (t2 : Int) (σ : Hp) : Option (Int × Hp) :=
  gd (0 ≤ t2 ∧ t2 < (30 : Int)) <|
  lt (hset σ 90 t2.toNat t3) fun s2 =>
  lt (iadd x5 1) fun y5_3 =>
  k8 (y5_3, s2)
def F_View_look_66 (k8 : Int × Hp → Option (Int × Hp)) (a1 : Nat) (a3 : Int) (a4 : Int) (x5 : Int) (x6 : Int) (t3 : Int) (t2 : Int) (σ : Hp) : Option (Int × Hp) :=
  gd (0 ≤ t2 ∧ t2 < (30 : Int)) <|
  lt (hset σ 89 t2.toNat (z1 t3)) fun s5 =>
  (if x6 = (-1) then (
    F_View_look_94 k8 a1 a3 a4 x5 0 x5 s5
  ) else (
    lt (s5 88 2).toNat fun q7 =>
    gd (isNet q7) <|
    cl2 (F_Net_madeWith q7 x5 x6 s5) fun v9 s10 =>
    F_View_look_94 k8 a1 a3 a4 x5 v9 x5 s10
  ))
def F_View_look_49 (k8 : Int × Hp → Option (Int × Hp)) (a1 : Nat) (a3 : Int) (a4 : Int) (x5 : Int) (x6 : Int) (σ : Hp) : Option (Int × Hp) :=
  (if x6 = (-1) then (
    F_View_look_66 k8 a1 a3 a4 x5 x6 0 x5 σ
  ) else (
    F_View_look_66 k8 a1 a3 a4 x5 x6 1 x5 σ
  ))
def F_View_look_8_b (k8 : Int × Hp → Option (Int × Hp)) (a1 : Nat) (a3 : Int) (a4 : Int) (x5 : Int) (σ : Hp) : Option (Int × Hp) :=
  lt (σ 88 2).toNat fun q13 =>
  gd (isNet q13) <|
  (if (σ q13 16) ≤ x5 then (
    some (0, σ)
  ) else (
    cl2 (F_Acts_knownWorth x5 a3 σ) fun v16 s17 =>
    (if v16 = (-2) then (
      lt (s17 88 2).toNat fun q20 =>
      gd (isNet q20) <|
      cl2 (F_Net_worthOn q20 x5 a4 s17) fun v22 s23 =>
      F_View_look_49 k8 a1 a3 a4 x5 v22 s23
    ) else (
      F_View_look_49 k8 a1 a3 a4 x5 v16 s17
    ))
  ))
def F_View_look_8 (a1 : Nat) (a3 : Int) (a4 : Int) : Nat → Int × Hp → Option (Int × Hp) := loopF (fun k8 a => F_View_look_8_b k8 a1 a3 a4 a.1 a.2)
def F_View_look (a1 : Nat) (a3 : Int) (a4 : Int) (σ : Hp) : Option (Int × Hp) :=
  gd (isNet a1) <|
  lt (hset σ 88 2 (Int.ofNat a1)) fun s25 =>
  F_View_look_8 a1 a3 a4 FU (0, s25)
def F_Net_gainWith (this : Nat) (a1 : Int) (a2 : Int) (σ : Hp) : Option (Int × Hp) :=
  gd (isNet this) <|
  cl2 (F_Net_madeWith this a1 a2 σ) fun v1 s2 =>
  gd (0 ≤ a1 ∧ a1 < (30 : Int)) <|
  gd (0 ≤ (s2 (this + 3) a1.toNat) ∧ (s2 (this + 3) a1.toNat) < (12 : Int)) <|
  gd (0 ≤ a1 ∧ a1 < (30 : Int)) <|
  gd (0 ≤ (s2 (this + 4) a1.toNat) ∧ (s2 (this + 4) a1.toNat) < (12 : Int)) <|
  some (isub (isub v1 (s2 (this + 2) (s2 (this + 3) a1.toNat).toNat)) (s2 (this + 2) (s2 (this + 4) a1.toNat).toNat), s2)
def F_Net_everybody (this : Nat) (σ : Hp) : Option (Int × Hp) :=
  gd (isNet this) <|
  some (isub (ishl 1 (σ this 15)) 1, σ)
def F_Net_pairOf (this : Nat) (a1 : Int) (σ : Hp) : Option (Int × Hp) :=
  gd (isNet this) <|
  gd (0 ≤ a1 ∧ a1 < (30 : Int)) <|
  gd (0 ≤ a1 ∧ a1 < (30 : Int)) <|
  some (ior (ishl 1 (σ (this + 3) a1.toNat)) (ishl 1 (σ (this + 4) a1.toNat)), σ)
def F_Bytes_cut_12 (this : Nat) (a1 : Int) (σ : Hp) : Option (Int × Hp) :=
  some (0, σ)
def F_Bytes_cut (this : Nat) (a1 : Int) (σ : Hp) : Option (Int × Hp) :=
  gd (isBytes this) <|
  (if a1 < 0 then (
    F_Bytes_cut_12 this a1 σ
  ) else (
    (if a1 ≤ (σ this 1) then (
      lt (hset σ this 1 a1) fun s3 =>
      some (1, s3)
    ) else (
      F_Bytes_cut_12 this a1 σ
    ))
  ))
def F_Mat_begin_12_b (k12 : Int × Hp → Option (Int × Hp)) (a1 : Int) (x2 : Int) (σ : Hp) : Option (Int × Hp) :=
  (if (σ 91 7) < x2 then (
    some (0, σ)
  ) else (
    gd (0 ≤ x2 ∧ x2 < (13 : Int)) <|
    cl2 (F_J_fill_53178 shC (92 + 1 + x2.toNat) 0 σ) fun v3 s4 =>
    lt (iadd x2 1) fun y2_6 =>
    k12 (y2_6, s4)
  ))
def F_Mat_begin_12 (a1 : Int) : Nat → Int × Hp → Option (Int × Hp) := loopF (fun k12 a => F_Mat_begin_12_b k12 a1 a.1 a.2)
def F_Mat_begin (a1 : Int) (σ : Hp) : Option (Int × Hp) :=
  lt (hset σ 91 7 (imin a1 12)) fun s7 =>
  F_Mat_begin_12 a1 FU (0, s7)
def F_Mat_weigh (a1 : Int) (a2 : Int) (a3 : Int) (σ : Hp) : Option (Int × Hp) :=
  gd (0 ≤ (iadd a1 1) ∧ (iadd a1 1) < (13 : Int)) <|
  gd (0 ≤ (iadd a2 1) ∧ (iadd a2 1) < (13 : Int)) <|
  lt (hset σ (92 + 1 + (iadd a1 1).toNat) (iadd a2 1).toNat a3) fun s3 =>
  gd (0 ≤ (iadd a2 1) ∧ (iadd a2 1) < (13 : Int)) <|
  gd (0 ≤ (iadd a1 1) ∧ (iadd a1 1) < (13 : Int)) <|
  lt (hset s3 (92 + 1 + (iadd a2 1).toNat) (iadd a1 1).toNat a3) fun s6 =>
  some (0, s6)
def F_Mat_shiftPrices_57 (k2 : Int × Hp → Option (Int × Hp)) (a1 : Int) (x2 : Int) (σ : Hp) : Option (Int × Hp) :=
  lt (iadd x2 1) fun y2_1 =>
  k2 (y2_1, σ)
def F_Mat_shiftPrices_2_b (k2 : Int × Hp → Option (Int × Hp)) (a1 : Int) (x2 : Int) (σ : Hp) : Option (Int × Hp) :=
  (if (σ 91 7) < x2 then (
    some (0, σ)
  ) else (
    gd (0 ≤ x2 ∧ x2 < (13 : Int)) <|
    (if (σ 111 x2.toNat) = 0 then (
      gd (0 ≤ x2 ∧ x2 < (13 : Int)) <|
      gd (0 ≤ x2 ∧ x2 < (13 : Int)) <|
      lt (hset σ 110 x2.toNat (isub (σ 110 x2.toNat) a1)) fun s7 =>
      F_Mat_shiftPrices_57 k2 a1 x2 s7
    ) else (
      gd (0 ≤ x2 ∧ x2 < (13 : Int)) <|
      gd (0 ≤ (σ 108 x2.toNat) ∧ (σ 108 x2.toNat) < (13 : Int)) <|
      gd (0 ≤ (σ 108 x2.toNat) ∧ (σ 108 x2.toNat) < (13 : Int)) <|
      lt (hset σ 106 (σ 108 x2.toNat).toNat (iadd (σ 106 (σ 108 x2.toNat).toNat) a1)) fun s11 =>
      gd (0 ≤ x2 ∧ x2 < (13 : Int)) <|
      gd (0 ≤ x2 ∧ x2 < (13 : Int)) <|
      lt (hset s11 107 x2.toNat (isub (s11 107 x2.toNat) a1)) fun s14 =>
      F_Mat_shiftPrices_57 k2 a1 x2 s14
    ))
  ))
def F_Mat_shiftPrices_2 (a1 : Int) : Nat → Int × Hp → Option (Int × Hp) := loopF (fun k2 a => F_Mat_shiftPrices_2_b k2 a1 a.1 a.2)
def F_Mat_shiftPrices (a1 : Int) (σ : Hp) : Option (Int × Hp) :=
  F_Mat_shiftPrices_2 a1 FU (0, σ)
def F_Mat_nextColumn_122 (k23 : Int × Int × Int × Int × Hp → Option (Int × Hp)) (a1 : Int) (x2 : Int) (x3 : Int) (x4 : Int) (x5 : Int) (σ : Hp) : Option (Int × Hp) :=
  lt (iadd x5 1) fun y5_1 =>
  k23 (x2, x3, x4, y5_1, σ)
def F_Mat_nextColumn_98 (k23 : Int × Int × Int × Int × Hp → Option (Int × Hp)) (a1 : Int) (x2 : Int) (x3 : Int) (x4 : Int) (x5 : Int) (σ : Hp) : Option (Int × Hp) :=
  gd (0 ≤ x5 ∧ x5 < (13 : Int)) <|
  (if x4 ≤ (σ 110 x5.toNat) then (
    F_Mat_nextColumn_122 k23 a1 x2 x3 x4 x5 σ
  ) else (
    gd (0 ≤ x5 ∧ x5 < (13 : Int)) <|
    lt (σ 110 x5.toNat) fun y4_5 =>
    F_Mat_nextColumn_122 k23 a1 x2 x5 y4_5 x5 σ
  ))
def F_Mat_nextColumn_23_b (k23 : Int × Int × Int × Int × Hp → Option (Int × Hp)) (a1 : Int) (x2 : Int) (x3 : Int) (x4 : Int) (x5 : Int) (σ : Hp) : Option (Int × Hp) :=
  (if (σ 91 7) < x5 then (
    cl2 (F_Mat_shiftPrices x4 σ) fun v7 s8 =>
    some (x3, s8)
  ) else (
    gd (0 ≤ x5 ∧ x5 < (13 : Int)) <|
    (if (σ 111 x5.toNat) = 0 then (
      gd (0 ≤ x2 ∧ x2 < (13 : Int)) <|
      gd (0 ≤ x5 ∧ x5 < (13 : Int)) <|
      gd (0 ≤ x2 ∧ x2 < (13 : Int)) <|
      gd (0 ≤ x5 ∧ x5 < (13 : Int)) <|
      lt (isub (isub (ineg (σ (92 + 1 + x2.toNat) x5.toNat)) (σ 106 x2.toNat)) (σ 107 x5.toNat)) fun y6_16 =>
      gd (0 ≤ x5 ∧ x5 < (13 : Int)) <|
      (if (σ 110 x5.toNat) ≤ y6_16 then (
        F_Mat_nextColumn_98 k23 a1 x2 x3 x4 x5 σ
      ) else (
        gd (0 ≤ x5 ∧ x5 < (13 : Int)) <|
        lt (hset σ 110 x5.toNat y6_16) fun s20 =>
        gd (0 ≤ x5 ∧ x5 < (13 : Int)) <|
        lt (hset s20 109 x5.toNat a1) fun s22 =>
        F_Mat_nextColumn_98 k23 a1 x2 x3 x4 x5 s22
      ))
    ) else (
      F_Mat_nextColumn_122 k23 a1 x2 x3 x4 x5 σ
    ))
  ))
def F_Mat_nextColumn_23 (a1 : Int) : Nat → Int × Int × Int × Int × Hp → Option (Int × Hp) := loopF (fun k23 a => F_Mat_nextColumn_23_b k23 a1 a.1 a.2.1 a.2.2.1 a.2.2.2.1 a.2.2.2.2)
def F_Mat_nextColumn (a1 : Int) (σ : Hp) : Option (Int × Hp) :=
  gd (0 ≤ a1 ∧ a1 < (13 : Int)) <|
  lt (hset σ 111 a1.toNat (z1 1)) fun s24 =>
  gd (0 ≤ a1 ∧ a1 < (13 : Int)) <|
  lt (s24 108 a1.toNat) fun y2_26 =>
  F_Mat_nextColumn_23 a1 FU (y2_26, 0, 1000000000, 1, s24)
def F_Mat_place_118 (a1 : Int) (σ : Hp) : Option (Int × Hp) :=
  some (0, σ)
def F_Mat_place_76_b (k76 : Int × Int × Hp → Option (Int × Hp)) (a1 : Int) (x2 : Int) (x3 : Int) (σ : Hp) : Option (Int × Hp) :=
  (if (σ 91 7) < x3 then (
    F_Mat_place_118 a1 σ
  ) else (
    (if x2 = 0 then (
      F_Mat_place_118 a1 σ
    ) else (
      gd (0 ≤ x2 ∧ x2 < (13 : Int)) <|
      gd (0 ≤ (σ 109 x2.toNat) ∧ (σ 109 x2.toNat) < (13 : Int)) <|
      gd (0 ≤ x2 ∧ x2 < (13 : Int)) <|
      lt (hset σ 108 x2.toNat (σ 108 (σ 109 x2.toNat).toNat)) fun s6 =>
      gd (0 ≤ x2 ∧ x2 < (13 : Int)) <|
      lt (s6 109 x2.toNat) fun y2_8 =>
      lt (iadd x3 1) fun y3_9 =>
      k76 (y2_8, y3_9, s6)
    ))
  ))
def F_Mat_place_76 (a1 : Int) : Nat → Int × Int × Hp → Option (Int × Hp) := loopF (fun k76 a => F_Mat_place_76_b k76 a1 a.1 a.2.1 a.2.2)
def F_Mat_place_74 (a1 : Int) (x2 : Int) (σ : Hp) : Option (Int × Hp) :=
  F_Mat_place_76 a1 FU (x2, 0, σ)
def F_Mat_place_42_b (k42 : Int × Int × Hp → Option (Int × Hp)) (a1 : Int) (x2 : Int) (x3 : Int) (σ : Hp) : Option (Int × Hp) :=
  (if (σ 91 7) < x3 then (
    F_Mat_place_74 a1 x2 σ
  ) else (
    cl2 (F_Mat_nextColumn x2 σ) fun v11 s12 =>
    gd (0 ≤ v11 ∧ v11 < (13 : Int)) <|
    (if (s12 108 v11.toNat) = 0 then (
      F_Mat_place_74 a1 v11 s12
    ) else (
      lt (iadd x3 1) fun y3_16 =>
      k42 (v11, y3_16, s12)
    ))
  ))
def F_Mat_place_42 (a1 : Int) : Nat → Int × Int × Hp → Option (Int × Hp) := loopF (fun k42 a => F_Mat_place_42_b k42 a1 a.1 a.2.1 a.2.2)
def F_Mat_place_9_b (k9 : Int × Hp → Option (Int × Hp)) (a1 : Int) (x2 : Int) (σ : Hp) : Option (Int × Hp) :=
  (if (σ 91 7) < x2 then (
    F_Mat_place_42 a1 FU (0, 0, σ)
  ) else (
    gd (0 ≤ x2 ∧ x2 < (13 : Int)) <|
    lt (hset σ 110 x2.toNat 1000000000) fun s19 =>
    gd (0 ≤ x2 ∧ x2 < (13 : Int)) <|
    lt (hset s19 111 x2.toNat (z1 0)) fun s21 =>
    lt (iadd x2 1) fun y2_22 =>
    k9 (y2_22, s21)
  ))
def F_Mat_place_9 (a1 : Int) : Nat → Int × Hp → Option (Int × Hp) := loopF (fun k9 a => F_Mat_place_9_b k9 a1 a.1 a.2)
def F_Mat_place (a1 : Int) (σ : Hp) : Option (Int × Hp) :=
  lt (hset σ 108 0 a1) fun s23 =>
  F_Mat_place_9 a1 FU (0, s23)
def F_Mat_greatest_49_b (k49 : Int × Int × Hp → Option (Int × Hp)) (x1 : Int) (x2 : Int) (σ : Hp) : Option (Int × Hp) :=
  (if (σ 91 7) < x2 then (
    some (x1, σ)
  ) else (
    gd (0 ≤ x2 ∧ x2 < (13 : Int)) <|
    gd (0 ≤ (σ 108 x2.toNat) ∧ (σ 108 x2.toNat) < (13 : Int)) <|
    gd (0 ≤ x2 ∧ x2 < (13 : Int)) <|
    lt (iadd x1 (σ (92 + 1 + (σ 108 x2.toNat).toNat) x2.toNat)) fun y1_5 =>
    lt (iadd x2 1) fun y2_6 =>
    k49 (y1_5, y2_6, σ)
  ))
def F_Mat_greatest_49 : Nat → Int × Int × Hp → Option (Int × Hp) := loopF (fun k49 a => F_Mat_greatest_49_b k49 a.1 a.2.1 a.2.2)
def F_Mat_greatest_26_b (k26 : Int × Hp → Option (Int × Hp)) (x1 : Int) (σ : Hp) : Option (Int × Hp) :=
  (if (σ 91 7) < x1 then (
    F_Mat_greatest_49 FU (0, 1, σ)
  ) else (
    cl2 (F_Mat_place x1 σ) fun v8 s9 =>
    lt (iadd x1 1) fun y1_11 =>
    k26 (y1_11, s9)
  ))
def F_Mat_greatest_26 : Nat → Int × Hp → Option (Int × Hp) := loopF (fun k26 a => F_Mat_greatest_26_b k26 a.1 a.2)
def F_Mat_greatest (σ : Hp) : Option (Int × Hp) :=
  cl2 (F_J_fill_53178 shC 106 0 σ) fun v12 s13 =>
  cl2 (F_J_fill_53178 shC 107 0 s13) fun v15 s16 =>
  cl2 (F_J_fill_53178 shC 108 0 s16) fun v18 s19 =>
  F_Mat_greatest_26 FU (1, s19)
def F_Bounds_begin_50_b (k50 : Int × Hp → Option (Int × Hp)) (this : Nat) (a1 : Int) (x2 : Int) (σ : Hp) : Option (Int × Hp) :=
  (if a1 ≤ x2 then (
    some (0, σ)
  ) else (
    gd (0 ≤ (iadd (imul 2 x2) 1) ∧ (iadd (imul 2 x2) 1) < (24 : Int)) <|
    gd (0 ≤ (imul 2 x2) ∧ (imul 2 x2) < (24 : Int)) <|
    lt (hset σ ((this + 1) + 1 + (iadd (imul 2 x2) 1).toNat) (imul 2 x2).toNat 0) fun s4 =>
    lt (iadd x2 1) fun y2_5 =>
    k50 (y2_5, s4)
  ))
def F_Bounds_begin_50 (this : Nat) (a1 : Int) : Nat → Int × Hp → Option (Int × Hp) := loopF (fun k50 a => F_Bounds_begin_50_b k50 this a1 a.1 a.2)
def F_Bounds_begin_14_b (k14 : Int × Hp → Option (Int × Hp)) (this : Nat) (a1 : Int) (x2 : Int) (σ : Hp) : Option (Int × Hp) :=
  (if (σ this 1) ≤ x2 then (
    F_Bounds_begin_50 this a1 FU (0, σ)
  ) else (
    gd (0 ≤ x2 ∧ x2 < (24 : Int)) <|
    cl2 (F_J_fill_53178 shC ((this + 1) + 1 + x2.toNat) 1000000000 σ) fun v8 s9 =>
    gd (0 ≤ x2 ∧ x2 < (24 : Int)) <|
    gd (0 ≤ x2 ∧ x2 < (24 : Int)) <|
    lt (hset s9 ((this + 1) + 1 + x2.toNat) x2.toNat 0) fun s13 =>
    lt (iadd x2 1) fun y2_14 =>
    k14 (y2_14, s13)
  ))
def F_Bounds_begin_14 (this : Nat) (a1 : Int) : Nat → Int × Hp → Option (Int × Hp) := loopF (fun k14 a => F_Bounds_begin_14_b k14 this a1 a.1 a.2)
def F_Bounds_begin (this : Nat) (a1 : Int) (σ : Hp) : Option (Int × Hp) :=
  gd (isBounds this) <|
  lt (hset σ this 1 (imin (imul 2 a1) 24)) fun s15 =>
  F_Bounds_begin_14 this a1 FU (0, s15)
def F_Bounds_atLeast (this : Nat) (a1 : Int) (a2 : Int) (a3 : Int) (σ : Hp) : Option (Int × Hp) :=
  gd (isBounds this) <|
  gd (0 ≤ (iadd (imul 2 a1) 1) ∧ (iadd (imul 2 a1) 1) < (24 : Int)) <|
  gd (0 ≤ (imul 2 a2) ∧ (imul 2 a2) < (24 : Int)) <|
  lt (hset σ ((this + 1) + 1 + (iadd (imul 2 a1) 1).toNat) (imul 2 a2).toNat (ineg a3)) fun s3 =>
  gd (0 ≤ (iadd (imul 2 a2) 1) ∧ (iadd (imul 2 a2) 1) < (24 : Int)) <|
  gd (0 ≤ (imul 2 a1) ∧ (imul 2 a1) < (24 : Int)) <|
  lt (hset s3 ((this + 1) + 1 + (iadd (imul 2 a2) 1).toNat) (imul 2 a1).toNat (ineg a3)) fun s6 =>
  some (0, s6)
def F_Bounds_atMost (this : Nat) (a1 : Int) (a2 : Int) (a3 : Int) (σ : Hp) : Option (Int × Hp) :=
  gd (isBounds this) <|
  gd (0 ≤ (imul 2 a1) ∧ (imul 2 a1) < (24 : Int)) <|
  gd (0 ≤ (iadd (imul 2 a2) 1) ∧ (iadd (imul 2 a2) 1) < (24 : Int)) <|
  lt (hset σ ((this + 1) + 1 + (imul 2 a1).toNat) (iadd (imul 2 a2) 1).toNat a3) fun s3 =>
  gd (0 ≤ (imul 2 a2) ∧ (imul 2 a2) < (24 : Int)) <|
  gd (0 ≤ (iadd (imul 2 a1) 1) ∧ (iadd (imul 2 a1) 1) < (24 : Int)) <|
  lt (hset s3 ((this + 1) + 1 + (imul 2 a2).toNat) (iadd (imul 2 a1) 1).toNat a3) fun s6 =>
  some (0, s6)
def F_Bounds_nothingFor (this : Nat) (a1 : Int) (σ : Hp) : Option (Int × Hp) :=
  gd (isBounds this) <|
  gd (0 ≤ (imul 2 a1) ∧ (imul 2 a1) < (24 : Int)) <|
  gd (0 ≤ (iadd (imul 2 a1) 1) ∧ (iadd (imul 2 a1) 1) < (24 : Int)) <|
  lt (hset σ ((this + 1) + 1 + (imul 2 a1).toNat) (iadd (imul 2 a1) 1).toNat 0) fun s3 =>
  some (0, s3)
def F_Bounds_close_94 (k32 : Int × Int × Int × Int × Hp → Option (Int × Hp)) (this : Nat) (x1 : Int) (x2 : Int) (x3 : Int) (x4 : Int) (σ : Hp) : Option (Int × Hp) :=
  lt (iadd x4 1) fun y4_1 =>
  k32 (x1, x2, x3, y4_1, σ)
def F_Bounds_close_100 (k12 : Int × Int × Hp → Option (Int × Hp)) (this : Nat) (x1 : Int) (x2 : Int) (σ : Hp) : Option (Int × Hp) :=
  lt (iadd x2 1) fun y2_2 =>
  k12 (x1, y2_2, σ)
def F_Bounds_close_32_b (k12 : Int × Int × Hp → Option (Int × Hp)) (k32 : Int × Int × Int × Int × Hp → Option (Int × Hp)) (this : Nat) (x1 : Int) (x2 : Int) (x3 : Int) (x4 : Int) (σ : Hp) : Option (Int × Hp) :=
  (if x3 = 1000000000 then (
    F_Bounds_close_100 k12 this x1 x2 σ
  ) else (
    (if (σ this 1) ≤ x4 then (
      F_Bounds_close_100 k12 this x1 x2 σ
    ) else (
      gd (0 ≤ x1 ∧ x1 < (24 : Int)) <|
      gd (0 ≤ x4 ∧ x4 < (24 : Int)) <|
      lt (σ ((this + 1) + 1 + x1.toNat) x4.toNat) fun y5_7 =>
      (if y5_7 = 1000000000 then (
        F_Bounds_close_94 k32 this x1 x2 x3 x4 σ
      ) else (
        gd (0 ≤ x2 ∧ x2 < (24 : Int)) <|
        gd (0 ≤ x4 ∧ x4 < (24 : Int)) <|
        (if (σ ((this + 1) + 1 + x2.toNat) x4.toNat) ≤ (iadd x3 y5_7) then (
          F_Bounds_close_94 k32 this x1 x2 x3 x4 σ
        ) else (
          gd (0 ≤ x2 ∧ x2 < (24 : Int)) <|
          gd (0 ≤ x4 ∧ x4 < (24 : Int)) <|
          lt (hset σ ((this + 1) + 1 + x2.toNat) x4.toNat (iadd x3 y5_7)) fun s14 =>
          F_Bounds_close_94 k32 this x1 x2 x3 x4 s14
        ))
      ))
    ))
  ))
def F_Bounds_close_32 (k12 : Int × Int × Hp → Option (Int × Hp)) (this : Nat) : Nat → Int × Int × Int × Int × Hp → Option (Int × Hp) := loopF (fun k32 a => F_Bounds_close_32_b k12 k32 this a.1 a.2.1 a.2.2.1 a.2.2.2.1 a.2.2.2.2)
def F_Bounds_close_12_b (k2 : Int × Hp → Option (Int × Hp)) (k12 : Int × Int × Hp → Option (Int × Hp)) (this : Nat) (x1 : Int) (x2 : Int) (σ : Hp) : Option (Int × Hp) :=
  (if (σ this 1) ≤ x2 then (
    lt (iadd x1 1) fun y1_16 =>
    k2 (y1_16, σ)
  ) else (
    gd (0 ≤ x2 ∧ x2 < (24 : Int)) <|
    gd (0 ≤ x1 ∧ x1 < (24 : Int)) <|
    lt (σ ((this + 1) + 1 + x2.toNat) x1.toNat) fun y3_19 =>
    F_Bounds_close_32 k12 this FU (x1, x2, y3_19, 0, σ)
  ))
def F_Bounds_close_12 (k2 : Int × Hp → Option (Int × Hp)) (this : Nat) : Nat → Int × Int × Hp → Option (Int × Hp) := loopF (fun k12 a => F_Bounds_close_12_b k2 k12 this a.1 a.2.1 a.2.2)
def F_Bounds_close_2_b (k2 : Int × Hp → Option (Int × Hp)) (this : Nat) (x1 : Int) (σ : Hp) : Option (Int × Hp) :=
  (if (σ this 1) ≤ x1 then (
    some (0, σ)
  ) else (
    F_Bounds_close_12 k2 this FU (x1, 0, σ)
  ))
def F_Bounds_close_2 (this : Nat) : Nat → Int × Hp → Option (Int × Hp) := loopF (fun k2 a => F_Bounds_close_2_b k2 this a.1 a.2)
def F_Bounds_close (this : Nat) (σ : Hp) : Option (Int × Hp) :=
  gd (isBounds this) <|
  F_Bounds_close_2 this FU (0, σ)
def F_Bounds_twiceMost (this : Nat) (a1 : Int) (σ : Hp) : Option (Int × Hp) :=
  gd (isBounds this) <|
  gd (0 ≤ (imul 2 a1) ∧ (imul 2 a1) < (24 : Int)) <|
  gd (0 ≤ (iadd (imul 2 a1) 1) ∧ (iadd (imul 2 a1) 1) < (24 : Int)) <|
  some (σ ((this + 1) + 1 + (imul 2 a1).toNat) (iadd (imul 2 a1) 1).toNat, σ)
def F_Bounds_twiceLeast (this : Nat) (a1 : Int) (σ : Hp) : Option (Int × Hp) :=
  gd (isBounds this) <|
  gd (0 ≤ (iadd (imul 2 a1) 1) ∧ (iadd (imul 2 a1) 1) < (24 : Int)) <|
  gd (0 ≤ (imul 2 a1) ∧ (imul 2 a1) < (24 : Int)) <|
  some (ineg (σ ((this + 1) + 1 + (iadd (imul 2 a1) 1).toNat) (imul 2 a1).toNat), σ)
def F_Bytes_hasRoom_19 (this : Nat) (a1 : Int) (t1 : Int) (σ : Hp) : Option (Int × Hp) :=
  gd (t1 = 0 ∨ t1 = 1) <|
  some (t1, σ)
def F_Bytes_hasRoom (this : Nat) (a1 : Int) (σ : Hp) : Option (Int × Hp) :=
  gd (isBytes this) <|
  (if (Int.ofNat (lenOf shC (this + 1))) < (iadd (σ this 1) a1) then (
    F_Bytes_hasRoom_19 this a1 0 σ
  ) else (
    F_Bytes_hasRoom_19 this a1 1 σ
  ))
def F_Bytes_put_33 (this : Nat) (a1 : Int) (σ : Hp) : Option (Int × Hp) :=
  some (0, σ)
def F_Bytes_put (this : Nat) (a1 : Int) (σ : Hp) : Option (Int × Hp) :=
  gd (isBytes this) <|
  (if (Int.ofNat (lenOf shC (this + 1))) ≤ (σ this 1) then (
    F_Bytes_put_33 this a1 σ
  ) else (
    gd (0 ≤ (σ this 1) ∧ (σ this 1) < ((lenOf shC (this + 1) : Nat) : Int)) <|
    lt (hset σ (this + 1) (σ this 1).toNat (i2b (i2b a1))) fun s3 =>
    lt (hset s3 this 1 (iadd (s3 this 1) 1)) fun s4 =>
    F_Bytes_put_33 this a1 s4
  ))
def F_Bytes_putTwo (this : Nat) (a1 : Int) (σ : Hp) : Option (Int × Hp) :=
  gd (isBytes this) <|
  cl2 (F_Bytes_put this (ishr a1 8) σ) fun v1 s2 =>
  cl2 (F_Bytes_put this a1 s2) fun v4 s5 =>
  some (0, s5)
def F_Bytes_putNumber (this : Nat) (a1 : Int) (σ : Hp) : Option (Int × Hp) :=
  gd (isBytes this) <|
  cl2 (F_Bytes_putTwo this (ishr a1 16) σ) fun v1 s2 =>
  cl2 (F_Bytes_putTwo this a1 s2) fun v4 s5 =>
  some (0, s5)
def F_Bytes_size (this : Nat) (σ : Hp) : Option (Int × Hp) :=
  gd (isBytes this) <|
  some (σ this 1, σ)
def F_Bytes_at_26 (this : Nat) (a1 : Int) (t1 : Int) (σ : Hp) : Option (Int × Hp) :=
  some (t1, σ)
def F_Bytes_at_25 (this : Nat) (a1 : Int) (σ : Hp) : Option (Int × Hp) :=
  F_Bytes_at_26 this a1 (-1) σ
def F_Bytes_at (this : Nat) (a1 : Int) (σ : Hp) : Option (Int × Hp) :=
  gd (isBytes this) <|
  (if a1 < 0 then (
    F_Bytes_at_25 this a1 σ
  ) else (
    (if (σ this 1) ≤ a1 then (
      F_Bytes_at_25 this a1 σ
    ) else (
      gd (0 ≤ a1 ∧ a1 < ((lenOf shC (this + 1) : Nat) : Int)) <|
      F_Bytes_at_26 this a1 (iand (σ (this + 1) a1.toNat) 255) σ
    ))
  ))
def F_Bytes_checkOf_4_b (k4 : Int × Int × Hp → Option (Int × Hp)) (this : Nat) (a1 : Int) (x2 : Int) (x3 : Int) (σ : Hp) : Option (Int × Hp) :=
  (if a1 ≤ x3 then (
    some (x2, σ)
  ) else (
    cl2 (F_Bytes_at this x3 σ) fun v2 s3 =>
    lt (irem (iadd (imul 31 x2) v2) 65521) fun y2_5 =>
    lt (iadd x3 1) fun y3_6 =>
    k4 (y2_5, y3_6, s3)
  ))
def F_Bytes_checkOf_4 (this : Nat) (a1 : Int) : Nat → Int × Int × Hp → Option (Int × Hp) := loopF (fun k4 a => F_Bytes_checkOf_4_b k4 this a1 a.1 a.2.1 a.2.2)
def F_Bytes_checkOf (this : Nat) (a1 : Int) (σ : Hp) : Option (Int × Hp) :=
  gd (isBytes this) <|
  F_Bytes_checkOf_4 this a1 FU (1, 0, σ)
def F_Net_letterOf_62 (this : Nat) (a1 : Int) (a2 : Int) (t1 : Int) (σ : Hp) : Option (Int × Hp) :=
  some (t1, σ)
def F_Net_letterOf_61 (this : Nat) (a1 : Int) (a2 : Int) (σ : Hp) : Option (Int × Hp) :=
  F_Net_letterOf_62 this a1 a2 (-1) σ
def F_Net_letterOf_27 (this : Nat) (a1 : Int) (a2 : Int) (x3 : Int) (σ : Hp) : Option (Int × Hp) :=
  (if a2 < 0 then (
    F_Net_letterOf_61 this a1 a2 σ
  ) else (
    (if x3 ≤ a2 then (
      F_Net_letterOf_61 this a1 a2 σ
    ) else (
      gd (0 ≤ a1 ∧ a1 < (12 : Int)) <|
      F_Net_letterOf_62 this a1 a2 (isub (iadd (iand (ishr (σ (this + 1) a1.toNat) (imul 5 (isub (isub x3 1) a2))) 31) 97) 1) σ
    ))
  ))
def F_Net_letterOf_2_b (k2 : Int × Hp → Option (Int × Hp)) (this : Nat) (a1 : Int) (a2 : Int) (x3 : Int) (σ : Hp) : Option (Int × Hp) :=
  (if 6 ≤ x3 then (
    F_Net_letterOf_27 this a1 a2 x3 σ
  ) else (
    gd (0 ≤ a1 ∧ a1 < (12 : Int)) <|
    (if (ishr (σ (this + 1) a1.toNat) (imul 5 x3)) = 0 then (
      F_Net_letterOf_27 this a1 a2 x3 σ
    ) else (
      lt (iadd x3 1) fun y3_7 =>
      k2 (y3_7, σ)
    ))
  ))
def F_Net_letterOf_2 (this : Nat) (a1 : Int) (a2 : Int) : Nat → Int × Hp → Option (Int × Hp) := loopF (fun k2 a => F_Net_letterOf_2_b k2 this a1 a2 a.1 a.2)
def F_Net_letterOf (this : Nat) (a1 : Int) (a2 : Int) (σ : Hp) : Option (Int × Hp) :=
  gd (isNet this) <|
  F_Net_letterOf_2 this a1 a2 FU (0, σ)
def F_Bytes_twoAt (this : Nat) (a1 : Int) (σ : Hp) : Option (Int × Hp) :=
  gd (isBytes this) <|
  cl2 (F_Bytes_at this a1 σ) fun v1 s2 =>
  cl2 (F_Bytes_at this (iadd a1 1) s2) fun v4 s5 =>
  some (iadd (ishl v1 8) v4, s5)
def F_Bytes_numberAt (this : Nat) (a1 : Int) (σ : Hp) : Option (Int × Hp) :=
  gd (isBytes this) <|
  cl2 (F_Bytes_twoAt this a1 σ) fun v1 s2 =>
  cl2 (F_Bytes_twoAt this (iadd a1 2) s2) fun v4 s5 =>
  some (iadd (ishl v1 16) v4, s5)
def F_Net_clear_74_b (k74 : Int × Hp → Option (Int × Hp)) (this : Nat) (x1 : Int) (σ : Hp) : Option (Int × Hp) :=
  (if (Int.ofNat 144) ≤ x1 then (
    some (0, σ)
  ) else (
    gd (0 ≤ x1 ∧ x1 < (144 : Int)) <|
    lt (hset σ (this + 35) x1.toNat (z1 0)) fun s3 =>
    lt (iadd x1 1) fun y1_4 =>
    k74 (y1_4, s3)
  ))
def F_Net_clear_74 (this : Nat) : Nat → Int × Hp → Option (Int × Hp) := loopF (fun k74 a => F_Net_clear_74_b k74 this a.1 a.2)
def F_Net_clear_40_b (k40 : Int × Hp → Option (Int × Hp)) (this : Nat) (x1 : Int) (σ : Hp) : Option (Int × Hp) :=
  (if 12 ≤ x1 then (
    F_Net_clear_74 this FU (0, σ)
  ) else (
    gd (0 ≤ x1 ∧ x1 < (12 : Int)) <|
    cl2 (F_J_fill_53178 shC ((this + 9) + 1 + x1.toNat) (-1) σ) fun v7 s8 =>
    gd (0 ≤ x1 ∧ x1 < (12 : Int)) <|
    cl2 (F_J_fill_53178 shC ((this + 22) + 1 + x1.toNat) 0 s8) fun v11 s12 =>
    lt (iadd x1 1) fun y1_14 =>
    k40 (y1_14, s12)
  ))
def F_Net_clear_40 (this : Nat) : Nat → Int × Hp → Option (Int × Hp) := loopF (fun k40 a => F_Net_clear_40_b k40 this a.1 a.2)
def F_Net_clear (this : Nat) (σ : Hp) : Option (Int × Hp) :=
  gd (isNet this) <|
  lt (hset σ this 15 0) fun s15 =>
  lt (hset s15 this 16 0) fun s16 =>
  lt (hset s16 this 17 0) fun s17 =>
  lt (hset s17 this 18 0) fun s18 =>
  lt (hset s18 this 19 0) fun s19 =>
  lt (hset s19 this 14 0) fun s20 =>
  cl2 (F_J_fill_53178 shC (this + 5) 0 s20) fun v21 s22 =>
  F_Net_clear_40 this FU (0, s22)
def F_Scn_isLong_12 (a0 : Int) (t1 : Int) (σ : Hp) : Option (Int × Hp) :=
  gd (t1 = 0 ∨ t1 = 1) <|
  some (t1, σ)
def F_Scn_isLong (a0 : Int) (σ : Hp) : Option (Int × Hp) :=
  (if a0 < 256 then (
    F_Scn_isLong_12 a0 0 σ
  ) else (
    F_Scn_isLong_12 a0 1 σ
  ))
def F_Scn_isBlank_17 (a0 : Int) (t1 : Int) (σ : Hp) : Option (Int × Hp) :=
  gd (t1 = 0 ∨ t1 = 1) <|
  some (t1, σ)
def F_Scn_isBlank_12 (a0 : Int) (σ : Hp) : Option (Int × Hp) :=
  F_Scn_isBlank_17 a0 1 σ
def F_Scn_isBlank (a0 : Int) (σ : Hp) : Option (Int × Hp) :=
  (if a0 = 10 then (
    F_Scn_isBlank_12 a0 σ
  ) else (
    (if a0 = 32 then (
      F_Scn_isBlank_12 a0 σ
    ) else (
      F_Scn_isBlank_17 a0 0 σ
    ))
  ))
def F_Scn_isLetter_17 (a0 : Int) (t1 : Int) (σ : Hp) : Option (Int × Hp) :=
  gd (t1 = 0 ∨ t1 = 1) <|
  some (t1, σ)
def F_Scn_isLetter_16 (a0 : Int) (σ : Hp) : Option (Int × Hp) :=
  F_Scn_isLetter_17 a0 0 σ
def F_Scn_isLetter (a0 : Int) (σ : Hp) : Option (Int × Hp) :=
  (if a0 < 97 then (
    F_Scn_isLetter_16 a0 σ
  ) else (
    (if 122 < a0 then (
      F_Scn_isLetter_16 a0 σ
    ) else (
      F_Scn_isLetter_17 a0 1 σ
    ))
  ))
def F_Scn_isDigit_17 (a0 : Int) (t1 : Int) (σ : Hp) : Option (Int × Hp) :=
  gd (t1 = 0 ∨ t1 = 1) <|
  some (t1, σ)
def F_Scn_isDigit_16 (a0 : Int) (σ : Hp) : Option (Int × Hp) :=
  F_Scn_isDigit_17 a0 0 σ
def F_Scn_isDigit (a0 : Int) (σ : Hp) : Option (Int × Hp) :=
  (if a0 < 48 then (
    F_Scn_isDigit_16 a0 σ
  ) else (
    (if 57 < a0 then (
      F_Scn_isDigit_16 a0 σ
    ) else (
      F_Scn_isDigit_17 a0 1 σ
    ))
  ))
def F_Scn_packed (a0 : Int) (a1 : Int) (σ : Hp) : Option (Int × Hp) :=
  some (iadd (isub (iadd (imul a0 32) a1) 97) 1, σ)
def F_Scn_kindOfWord_54 (k8 : Int × Int × Int × Hp → Option (Int × Hp)) (a0 : Int) (x1 : Int) (x2 : Int) (x3 : Int) (σ : Hp) : Option (Int × Hp) :=
  lt (iadd x3 1) fun y3_1 =>
  k8 (x1, x2, y3_1, σ)
def F_Scn_kindOfWord_8_b (k8 : Int × Int × Int × Hp → Option (Int × Hp)) (a0 : Int) (x1 : Int) (x2 : Int) (x3 : Int) (σ : Hp) : Option (Int × Hp) :=
  (if 80 ≤ x3 then (
    some (280, σ)
  ) else (
    gd (0 ≤ x3 ∧ x3 < (80 : Int)) <|
    lt (jsAt x3) fun y4_4 =>
    (if y4_4 = 32 then (
      (if x1 = a0 then (
        some (x2, σ)
      ) else (
        lt (iadd x2 1) fun y2_7 =>
        F_Scn_kindOfWord_54 k8 a0 0 y2_7 x3 σ
      ))
    ) else (
      cl2 (F_Scn_packed x1 y4_4 σ) fun v8 s9 =>
      F_Scn_kindOfWord_54 k8 a0 v8 x2 x3 s9
    ))
  ))
def F_Scn_kindOfWord_8 (a0 : Int) : Nat → Int × Int × Int × Hp → Option (Int × Hp) := loopF (fun k8 a => F_Scn_kindOfWord_8_b k8 a0 a.1 a.2.1 a.2.2.1 a.2.2.2)
def F_Scn_kindOfWord (a0 : Int) (σ : Hp) : Option (Int × Hp) :=
  F_Scn_kindOfWord_8 a0 FU (0, 256, 0, σ)
def F_Scn_misfitIf_18 (a1 : Int) (σ : Hp) : Option (Int × Hp) :=
  some (0, σ)
def F_Scn_misfitIf (a1 : Int) (σ : Hp) : Option (Int × Hp) :=
  (if a1 = 0 then (
    F_Scn_misfitIf_18 a1 σ
  ) else (
    lt (hset σ 42 5 (-2)) fun s2 =>
    lt (hset s2 42 6 (s2 42 8)) fun s3 =>
    F_Scn_misfitIf_18 a1 s3
  ))
def F_Scn_takeWord_76 (σ : Hp) : Option (Int × Hp) :=
  cl2 (F_Scn_kindOfWord (σ 42 7) σ) fun v1 s2 =>
  lt (hset s2 42 5 v1) fun s4 =>
  cl2 (F_Bytes_at 1 (s4 42 8) s4) fun v5 s6 =>
  cl2 (F_Scn_isLetter v5 s6) fun v8 s9 =>
  cl2 (F_Scn_misfitIf v8 s9) fun v11 s12 =>
  some (0, s12)
def F_Scn_takeWord_15_b (k15 : Int × Hp → Option (Int × Hp)) (x1 : Int) (σ : Hp) : Option (Int × Hp) :=
  (if 6 ≤ x1 then (
    F_Scn_takeWord_76 σ
  ) else (
    cl2 (F_Bytes_at 1 (σ 42 8) σ) fun v15 s16 =>
    cl2 (F_Scn_isLetter v15 s16) fun v18 s19 =>
    (if v18 = 0 then (
      F_Scn_takeWord_76 s19
    ) else (
      cl2 (F_Bytes_at 1 (s19 42 8) s19) fun v22 s23 =>
      cl2 (F_Scn_packed (s19 42 7) v22 s23) fun v25 s26 =>
      lt (hset s26 42 7 v25) fun s28 =>
      lt (hset s28 42 8 (iadd (s28 42 8) 1)) fun s29 =>
      lt (iadd x1 1) fun y1_30 =>
      k15 (y1_30, s29)
    ))
  ))
def F_Scn_takeWord_15 : Nat → Int × Hp → Option (Int × Hp) := loopF (fun k15 a => F_Scn_takeWord_15_b k15 a.1 a.2)
def F_Scn_takeWord (σ : Hp) : Option (Int × Hp) :=
  lt (hset σ 42 7 0) fun s31 =>
  lt (hset s31 42 8 (s31 42 6)) fun s32 =>
  F_Scn_takeWord_15 FU (0, s32)
def F_Scn_takeNumber_79 (σ : Hp) : Option (Int × Hp) :=
  lt (hset σ 42 5 281) fun s1 =>
  cl2 (F_Bytes_at 1 (s1 42 8) s1) fun v2 s3 =>
  cl2 (F_Scn_isDigit v2 s3) fun v5 s6 =>
  cl2 (F_Scn_misfitIf v5 s6) fun v8 s9 =>
  some (0, s9)
def F_Scn_takeNumber_15_b (k15 : Int × Hp → Option (Int × Hp)) (x1 : Int) (σ : Hp) : Option (Int × Hp) :=
  (if 4 ≤ x1 then (
    F_Scn_takeNumber_79 σ
  ) else (
    cl2 (F_Bytes_at 1 (σ 42 8) σ) fun v12 s13 =>
    cl2 (F_Scn_isDigit v12 s13) fun v15 s16 =>
    (if v15 = 0 then (
      F_Scn_takeNumber_79 s16
    ) else (
      cl2 (F_Bytes_at 1 (s16 42 8) s16) fun v19 s20 =>
      lt (hset s20 42 7 (isub (iadd (imul 10 (s16 42 7)) v19) 48)) fun s22 =>
      lt (hset s22 42 8 (iadd (s22 42 8) 1)) fun s23 =>
      lt (iadd x1 1) fun y1_24 =>
      k15 (y1_24, s23)
    ))
  ))
def F_Scn_takeNumber_15 : Nat → Int × Hp → Option (Int × Hp) := loopF (fun k15 a => F_Scn_takeNumber_15_b k15 a.1 a.2)
def F_Scn_takeNumber (σ : Hp) : Option (Int × Hp) :=
  lt (hset σ 42 7 0) fun s25 =>
  lt (hset s25 42 8 (s25 42 6)) fun s26 =>
  F_Scn_takeNumber_15 FU (0, s26)
def F_Scn_takeNext_178 (σ : Hp) : Option (Int × Hp) :=
  some (0, σ)
def F_Scn_takeNext_137 (x3 : Int) (x4 : Int) (σ : Hp) : Option (Int × Hp) :=
  cl2 (F_Scn_isLetter x3 σ) fun v1 s2 =>
  (if v1 = 0 then (
    (if x4 = 0 then (
      lt (hset s2 42 5 x3) fun s6 =>
      lt (hset s6 42 8 (iadd (s6 42 6) 1)) fun s7 =>
      F_Scn_takeNext_178 s7
    ) else (
      cl2 (F_Scn_takeNumber  s2) fun v8 s9 =>
      F_Scn_takeNext_178 s9
    ))
  ) else (
    cl2 (F_Scn_takeWord  s2) fun v11 s12 =>
    F_Scn_takeNext_178 s12
  ))
def F_Scn_takeNext_96 (x1 : Int) (x2 : Int) (x3 : Int) (t1 : Int) (σ : Hp) : Option (Int × Hp) :=
  (if x3 = (-1) then (
    lt (hset σ 42 5 (-1)) fun s19 =>
    F_Scn_takeNext_178 s19
  ) else (
    (if x1 = 0 then (
      F_Scn_takeNext_137 x3 t1 σ
    ) else (
      (if t1 = 0 then (
        F_Scn_takeNext_137 x3 t1 σ
      ) else (
        (if (σ 42 6) = x2 then (
          lt (hset σ 42 5 (-2)) fun s18 =>
          F_Scn_takeNext_178 s18
        ) else (
          F_Scn_takeNext_137 x3 t1 σ
        ))
      ))
    ))
  ))
def F_Scn_takeNext_91 (x1 : Int) (x2 : Int) (x3 : Int) (σ : Hp) : Option (Int × Hp) :=
  F_Scn_takeNext_96 x1 x2 x3 1 σ
def F_Scn_takeNext_65 (x1 : Int) (x2 : Int) (σ : Hp) : Option (Int × Hp) :=
  cl2 (F_Bytes_at 1 (σ 42 6) σ) fun v20 s21 =>
  cl2 (F_Scn_isLetter v20 s21) fun v23 s24 =>
  (if v23 = 0 then (
    cl2 (F_Scn_isDigit v20 s24) fun v27 s28 =>
    (if v27 = 0 then (
      F_Scn_takeNext_96 x1 x2 v20 0 s28
    ) else (
      F_Scn_takeNext_91 x1 x2 v20 s28
    ))
  ) else (
    F_Scn_takeNext_91 x1 x2 v20 s24
  ))
def F_Scn_takeNext_21_b (k21 : Int × Int × Hp → Option (Int × Hp)) (x1 : Int) (x2 : Int) (σ : Hp) : Option (Int × Hp) :=
  cl2 (F_Bytes_size 1 σ) fun v31 s32 =>
  (if v31 ≤ (σ 42 6) then (
    F_Scn_takeNext_65 x1 x2 s32
  ) else (
    cl2 (F_Bytes_at 1 (s32 42 6) s32) fun v35 s36 =>
    cl2 (F_Scn_isBlank v35 s36) fun v38 s39 =>
    (if v38 = 0 then (
      F_Scn_takeNext_65 x1 x2 s39
    ) else (
      lt (hset s39 42 6 (iadd (s39 42 6) 1)) fun s42 =>
      k21 (x1, x2, s42)
    ))
  ))
def F_Scn_takeNext_21 : Nat → Int × Int × Hp → Option (Int × Hp) := loopF (fun k21 a => F_Scn_takeNext_21_b k21 a.1 a.2.1 a.2.2)
def F_Scn_takeNext (σ : Hp) : Option (Int × Hp) :=
  cl2 (F_Scn_isLong (σ 42 5) σ) fun v43 s44 =>
  lt (s44 42 8) fun y2_46 =>
  lt (hset s44 42 6 (s44 42 8)) fun s47 =>
  F_Scn_takeNext_21 FU (v43, y2_46, s47)
def F_Scn_scan_81 (σ : Hp) : Option (Int × Hp) :=
  some (0, σ)
def F_Scn_scan_17_b (k17 : Int × Hp → Option (Int × Hp)) (x1 : Int) (σ : Hp) : Option (Int × Hp) :=
  (if 900 < x1 then (
    F_Scn_scan_81 σ
  ) else (
    cl2 (F_Scn_takeNext  σ) fun v2 s3 =>
    gd (0 ≤ x1 ∧ x1 < (901 : Int)) <|
    lt (hset s3 43 x1.toNat (s3 42 5)) fun s6 =>
    gd (0 ≤ x1 ∧ x1 < (901 : Int)) <|
    lt (hset s6 44 x1.toNat (s6 42 6)) fun s8 =>
    gd (0 ≤ x1 ∧ x1 < (901 : Int)) <|
    lt (hset s8 45 x1.toNat (s8 42 7)) fun s10 =>
    lt (hset s10 42 4 (iadd x1 1)) fun s11 =>
    (if 0 ≤ (s11 42 5) then (
      lt (iadd x1 1) fun y1_13 =>
      k17 (y1_13, s11)
    ) else (
      F_Scn_scan_81 s11
    ))
  ))
def F_Scn_scan_17 : Nat → Int × Hp → Option (Int × Hp) := loopF (fun k17 a => F_Scn_scan_17_b k17 a.1 a.2)
def F_Scn_scan (σ : Hp) : Option (Int × Hp) :=
  lt (hset σ 42 4 0) fun s14 =>
  lt (hset s14 42 5 (-1)) fun s15 =>
  lt (hset s15 42 8 0) fun s16 =>
  F_Scn_scan_17 FU (0, s16)
def F_Scn_kindAt_22 (a1 : Int) (t1 : Int) (σ : Hp) : Option (Int × Hp) :=
  some (t1, σ)
def F_Scn_kindAt_21 (a1 : Int) (σ : Hp) : Option (Int × Hp) :=
  F_Scn_kindAt_22 a1 (-1) σ
def F_Scn_kindAt (a1 : Int) (σ : Hp) : Option (Int × Hp) :=
  (if a1 < 0 then (
    F_Scn_kindAt_21 a1 σ
  ) else (
    (if (σ 42 4) ≤ a1 then (
      F_Scn_kindAt_21 a1 σ
    ) else (
      gd (0 ≤ a1 ∧ a1 < (901 : Int)) <|
      F_Scn_kindAt_22 a1 (σ 43 a1.toNat) σ
    ))
  ))
def F_Scn_startAt_22 (a1 : Int) (t1 : Int) (σ : Hp) : Option (Int × Hp) :=
  some (t1, σ)
def F_Scn_startAt_21 (a1 : Int) (σ : Hp) : Option (Int × Hp) :=
  F_Scn_startAt_22 a1 (-1) σ
def F_Scn_startAt (a1 : Int) (σ : Hp) : Option (Int × Hp) :=
  (if a1 < 0 then (
    F_Scn_startAt_21 a1 σ
  ) else (
    (if (σ 42 4) ≤ a1 then (
      F_Scn_startAt_21 a1 σ
    ) else (
      gd (0 ≤ a1 ∧ a1 < (901 : Int)) <|
      F_Scn_startAt_22 a1 (σ 44 a1.toNat) σ
    ))
  ))
def F_Scn_valueAt_22 (a1 : Int) (t1 : Int) (σ : Hp) : Option (Int × Hp) :=
  some (t1, σ)
def F_Scn_valueAt_21 (a1 : Int) (σ : Hp) : Option (Int × Hp) :=
  F_Scn_valueAt_22 a1 0 σ
def F_Scn_valueAt (a1 : Int) (σ : Hp) : Option (Int × Hp) :=
  (if a1 < 0 then (
    F_Scn_valueAt_21 a1 σ
  ) else (
    (if (σ 42 4) ≤ a1 then (
      F_Scn_valueAt_21 a1 σ
    ) else (
      gd (0 ≤ a1 ∧ a1 < (901 : Int)) <|
      F_Scn_valueAt_22 a1 (σ 45 a1.toNat) σ
    ))
  ))
def F_Net_whoIs_2_b (k2 : Int × Hp → Option (Int × Hp)) (this : Nat) (a1 : Int) (x2 : Int) (σ : Hp) : Option (Int × Hp) :=
  (if (σ this 15) ≤ x2 then (
    some ((-1), σ)
  ) else (
    gd (0 ≤ x2 ∧ x2 < (12 : Int)) <|
    (if (σ (this + 1) x2.toNat) = a1 then (
      some (x2, σ)
    ) else (
      lt (iadd x2 1) fun y2_4 =>
      k2 (y2_4, σ)
    ))
  ))
def F_Net_whoIs_2 (this : Nat) (a1 : Int) : Nat → Int × Hp → Option (Int × Hp) := loopF (fun k2 a => F_Net_whoIs_2_b k2 this a1 a.1 a.2)
def F_Net_whoIs (this : Nat) (a1 : Int) (σ : Hp) : Option (Int × Hp) :=
  gd (isNet this) <|
  F_Net_whoIs_2 this a1 FU (0, σ)
def F_Net_addWho_39 (this : Nat) (a1 : Int) (a2 : Int) (σ : Hp) : Option (Int × Hp) :=
  some (0, σ)
def F_Net_addWho (this : Nat) (a1 : Int) (a2 : Int) (σ : Hp) : Option (Int × Hp) :=
  gd (isNet this) <|
  (if 12 ≤ (σ this 15) then (
    F_Net_addWho_39 this a1 a2 σ
  ) else (
    gd (0 ≤ (σ this 15) ∧ (σ this 15) < (12 : Int)) <|
    lt (hset σ (this + 1) (σ this 15).toNat a1) fun s3 =>
    gd (0 ≤ (s3 this 15) ∧ (s3 this 15) < (12 : Int)) <|
    lt (hset s3 (this + 2) (s3 this 15).toNat a2) fun s5 =>
    lt (hset s5 this 15 (iadd (s5 this 15) 1)) fun s6 =>
    F_Net_addWho_39 this a1 a2 s6
  ))
def F_Net_beginRoad_29 (this : Nat) (a1 : Int) (a2 : Int) (σ : Hp) : Option (Int × Hp) :=
  some (0, σ)
def F_Net_beginRoad (this : Nat) (a1 : Int) (a2 : Int) (σ : Hp) : Option (Int × Hp) :=
  gd (isNet this) <|
  (if 30 ≤ (σ this 16) then (
    F_Net_beginRoad_29 this a1 a2 σ
  ) else (
    gd (0 ≤ (σ this 16) ∧ (σ this 16) < (30 : Int)) <|
    lt (hset σ (this + 3) (σ this 16).toNat a1) fun s3 =>
    gd (0 ≤ (s3 this 16) ∧ (s3 this 16) < (30 : Int)) <|
    lt (hset s3 (this + 4) (s3 this 16).toNat a2) fun s5 =>
    F_Net_beginRoad_29 this a1 a2 s5
  ))
def F_Net_emit_30 (this : Nat) (a1 : Int) (σ : Hp) : Option (Int × Hp) :=
  some (0, σ)
def F_Net_emit (this : Nat) (a1 : Int) (σ : Hp) : Option (Int × Hp) :=
  gd (isNet this) <|
  (if 900 ≤ (σ this 14) then (
    F_Net_emit_30 this a1 σ
  ) else (
    gd (0 ≤ (σ this 14) ∧ (σ this 14) < (900 : Int)) <|
    lt (hset σ (this + 36) (σ this 14).toNat a1) fun s3 =>
    lt (hset s3 this 14 (iadd (s3 this 14) 1)) fun s4 =>
    F_Net_emit_30 this a1 s4
  ))
def F_Net_endRoad_108 (this : Nat) (a1 : Int) (a2 : Int) (σ : Hp) : Option (Int × Hp) :=
  some (0, σ)
def F_Net_endRoad (this : Nat) (a1 : Int) (a2 : Int) (σ : Hp) : Option (Int × Hp) :=
  gd (isNet this) <|
  (if 30 ≤ (σ this 16) then (
    F_Net_endRoad_108 this a1 a2 σ
  ) else (
    gd (0 ≤ (σ this 16) ∧ (σ this 16) < (30 : Int)) <|
    lt (hset σ (this + 6) (σ this 16).toNat a1) fun s3 =>
    gd (0 ≤ (s3 this 16) ∧ (s3 this 16) < (30 : Int)) <|
    lt (hset s3 (this + 7) (s3 this 16).toNat a2) fun s5 =>
    gd (0 ≤ (s5 this 16) ∧ (s5 this 16) < (30 : Int)) <|
    lt (hset s5 (this + 8) (s5 this 16).toNat (s5 this 14)) fun s7 =>
    gd (0 ≤ (s7 this 16) ∧ (s7 this 16) < (30 : Int)) <|
    gd (0 ≤ (s7 (this + 3) (s7 this 16).toNat) ∧ (s7 (this + 3) (s7 this 16).toNat) < (12 : Int)) <|
    gd (0 ≤ (s7 this 16) ∧ (s7 this 16) < (30 : Int)) <|
    gd (0 ≤ (s7 (this + 4) (s7 this 16).toNat) ∧ (s7 (this + 4) (s7 this 16).toNat) < (12 : Int)) <|
    lt (hset s7 ((this + 9) + 1 + (s7 (this + 3) (s7 this 16).toNat).toNat) (s7 (this + 4) (s7 this 16).toNat).toNat (s7 this 16)) fun s12 =>
    gd (0 ≤ (s12 this 16) ∧ (s12 this 16) < (30 : Int)) <|
    gd (0 ≤ (s12 (this + 4) (s12 this 16).toNat) ∧ (s12 (this + 4) (s12 this 16).toNat) < (12 : Int)) <|
    gd (0 ≤ (s12 this 16) ∧ (s12 this 16) < (30 : Int)) <|
    gd (0 ≤ (s12 (this + 3) (s12 this 16).toNat) ∧ (s12 (this + 3) (s12 this 16).toNat) < (12 : Int)) <|
    lt (hset s12 ((this + 9) + 1 + (s12 (this + 4) (s12 this 16).toNat).toNat) (s12 (this + 3) (s12 this 16).toNat).toNat (s12 this 16)) fun s17 =>
    lt (hset s17 this 16 (iadd (s17 this 16) 1)) fun s18 =>
    F_Net_endRoad_108 this a1 a2 s18
  ))
def F_Net_addTaste (this : Nat) (a1 : Int) (a2 : Int) (a3 : Int) (σ : Hp) : Option (Int × Hp) :=
  gd (isNet this) <|
  gd (0 ≤ a1 ∧ a1 < (12 : Int)) <|
  gd (0 ≤ a2 ∧ a2 < (12 : Int)) <|
  lt (hset σ ((this + 22) + 1 + a1.toNat) a2.toNat a3) fun s3 =>
  gd (0 ≤ (iadd (imul a1 12) a2) ∧ (iadd (imul a1 12) a2) < (144 : Int)) <|
  lt (hset s3 (this + 35) (iadd (imul a1 12) a2).toNat (z1 1)) fun s5 =>
  lt (hset s5 this 17 (iadd (s5 this 17) 1)) fun s6 =>
  some (0, s6)
def F_Net_addDoubt_34 (this : Nat) (a1 : Int) (a2 : Int) (a3 : Int) (σ : Hp) : Option (Int × Hp) :=
  some (0, σ)
def F_Net_addDoubt (this : Nat) (a1 : Int) (a2 : Int) (a3 : Int) (σ : Hp) : Option (Int × Hp) :=
  gd (isNet this) <|
  gd (0 ≤ a1 ∧ a1 < (12 : Int)) <|
  gd (0 ≤ a2 ∧ a2 < (12 : Int)) <|
  lt (σ ((this + 9) + 1 + a1.toNat) a2.toNat) fun y4_3 =>
  (if y4_3 = (-1) then (
    F_Net_addDoubt_34 this a1 a2 a3 σ
  ) else (
    gd (0 ≤ y4_3 ∧ y4_3 < (30 : Int)) <|
    lt (hset σ (this + 5) y4_3.toNat a3) fun s6 =>
    lt (hset s6 this 18 (iadd (s6 this 18) 1)) fun s7 =>
    F_Net_addDoubt_34 this a1 a2 a3 s7
  ))
def F_Bounds_tighter_17 (a0 : Int) (a1 : Int) (t1 : Int) (σ : Hp) : Option (Int × Hp) :=
  some (t1, σ)
def F_Bounds_tighter (a0 : Int) (a1 : Int) (σ : Hp) : Option (Int × Hp) :=
  (if a0 = 1000000000 then (
    F_Bounds_tighter_17 a0 a1 a1 σ
  ) else (
    F_Bounds_tighter_17 a0 a1 (imin (imul 2 a0) a1) σ
  ))
def F_Bounds_twiceMostAhead (this : Nat) (a1 : Int) (a2 : Int) (σ : Hp) : Option (Int × Hp) :=
  gd (isBounds this) <|
  gd (0 ≤ (imul 2 a1) ∧ (imul 2 a1) < (24 : Int)) <|
  gd (0 ≤ (imul 2 a2) ∧ (imul 2 a2) < (24 : Int)) <|
  cl2 (F_Bounds_twiceMost this a1 σ) fun v3 s4 =>
  cl2 (F_Bounds_twiceLeast this a2 s4) fun v6 s7 =>
  cl2 (F_Bounds_tighter (σ ((this + 1) + 1 + (imul 2 a1).toNat) (imul 2 a2).toNat) (isub v3 v6) s7) fun v9 s10 =>
  some (v9, s10)
def F_Bounds_twiceMostSum (this : Nat) (a1 : Int) (a2 : Int) (σ : Hp) : Option (Int × Hp) :=
  gd (isBounds this) <|
  gd (0 ≤ (imul 2 a1) ∧ (imul 2 a1) < (24 : Int)) <|
  gd (0 ≤ (iadd (imul 2 a2) 1) ∧ (iadd (imul 2 a2) 1) < (24 : Int)) <|
  cl2 (F_Bounds_twiceMost this a1 σ) fun v3 s4 =>
  cl2 (F_Bounds_twiceMost this a2 s4) fun v6 s7 =>
  cl2 (F_Bounds_tighter (σ ((this + 1) + 1 + (imul 2 a1).toNat) (iadd (imul 2 a2) 1).toNat) (iadd v3 v6) s7) fun v9 s10 =>
  some (v9, s10)
def F_Bounds_twiceLeastSum (this : Nat) (a1 : Int) (a2 : Int) (σ : Hp) : Option (Int × Hp) :=
  gd (isBounds this) <|
  gd (0 ≤ (iadd (imul 2 a1) 1) ∧ (iadd (imul 2 a1) 1) < (24 : Int)) <|
  gd (0 ≤ (imul 2 a2) ∧ (imul 2 a2) < (24 : Int)) <|
  cl2 (F_Bounds_twiceLeast this a1 σ) fun v3 s4 =>
  cl2 (F_Bounds_twiceLeast this a2 s4) fun v6 s7 =>
  cl2 (F_Bounds_tighter (σ ((this + 1) + 1 + (iadd (imul 2 a1) 1).toNat) (imul 2 a2).toNat) (isub (ineg v3) v6) s7) fun v9 s10 =>
  some (ineg v9, s10)
def F_Rdr_isTooMany_69 (t1 : Int) (σ : Hp) : Option (Int × Hp) :=
  gd (t1 = 0 ∨ t1 = 1) <|
  some (t1, σ)
def F_Rdr_isTooMany_87 (t1 : Int) (σ : Hp) : Option (Int × Hp) :=
  gd (t1 = 0 ∨ t1 = 1) <|
  some (t1, σ)
def F_Rdr_isTooMany_105 (t1 : Int) (σ : Hp) : Option (Int × Hp) :=
  gd (t1 = 0 ∨ t1 = 1) <|
  some (t1, σ)
def F_Rdr_isTooMany_123 (t1 : Int) (σ : Hp) : Option (Int × Hp) :=
  gd (t1 = 0 ∨ t1 = 1) <|
  some (t1, σ)
def F_Rdr_isTooMany_124 (σ : Hp) : Option (Int × Hp) :=
  some (0, σ)
def F_Rdr_isTooMany (σ : Hp) : Option (Int × Hp) :=
  (if (σ 3 3) = 256 then (
    lt (σ 3 1).toNat fun q6 =>
    gd (isNet q6) <|
    (if (σ q6 15) < 12 then (
      F_Rdr_isTooMany_69 0 σ
    ) else (
      F_Rdr_isTooMany_69 1 σ
    ))
  ) else (
  (if (σ 3 3) = 257 then (
    F_Rdr_isTooMany_124 σ
  ) else (
  (if (σ 3 3) = 258 then (
    lt (σ 3 1).toNat fun q11 =>
    gd (isNet q11) <|
    (if (σ q11 16) < 30 then (
      F_Rdr_isTooMany_87 0 σ
    ) else (
      F_Rdr_isTooMany_87 1 σ
    ))
  ) else (
  (if (σ 3 3) = 259 then (
    F_Rdr_isTooMany_124 σ
  ) else (
  (if (σ 3 3) = 260 then (
    F_Rdr_isTooMany_124 σ
  ) else (
  (if (σ 3 3) = 261 then (
    lt (σ 3 1).toNat fun q17 =>
    gd (isNet q17) <|
    (if (σ q17 17) < 24 then (
      F_Rdr_isTooMany_105 0 σ
    ) else (
      F_Rdr_isTooMany_105 1 σ
    ))
  ) else (
  (if (σ 3 3) = 262 then (
    F_Rdr_isTooMany_124 σ
  ) else (
  (if (σ 3 3) = 263 then (
    lt (σ 3 1).toNat fun q22 =>
    gd (isNet q22) <|
    (if (σ q22 18) < 24 then (
      F_Rdr_isTooMany_123 0 σ
    ) else (
      F_Rdr_isTooMany_123 1 σ
    ))
  ) else (
    F_Rdr_isTooMany_124 σ
  ))))))))))))))))
def F_Rdr_fail (a1 : Int) (σ : Hp) : Option (Int × Hp) :=
  lt (hset σ 3 6 a1) fun s1 =>
  cl2 (F_Scn_startAt (s1 3 2) s1) fun v2 s3 =>
  lt (hset s3 3 7 v2) fun s5 =>
  some (0, s5)
def F_Rdr_step (σ : Hp) : Option (Int × Hp) :=
  lt (hset σ 3 2 (iadd (σ 3 2) 1)) fun s1 =>
  cl2 (F_Scn_kindAt (s1 3 2) s1) fun v2 s3 =>
  lt (hset s3 3 3 v2) fun s5 =>
  some (0, s5)
def F_Rdr_skip (a1 : Int) (σ : Hp) : Option (Int × Hp) :=
  (if (σ 3 3) = a1 then (
    cl2 (F_Rdr_step  σ) fun v2 s3 =>
    some (1, s3)
  ) else (
    cl2 (F_Rdr_fail 1 σ) fun v5 s6 =>
    gd (v5 = 0 ∨ v5 = 1) <|
    some (v5, s6)
  ))
def F_Rdr_number (σ : Hp) : Option (Int × Hp) :=
  (if (σ 3 3) = 281 then (
    cl2 (F_Scn_valueAt (σ 3 2) σ) fun v2 s3 =>
    cl2 (F_Rdr_step  s3) fun v5 s6 =>
    some (v2, s6)
  ) else (
    cl2 (F_Rdr_fail 1 σ) fun v8 s9 =>
    some ((-1), s9)
  ))
def F_Rdr_whoLives (σ : Hp) : Option (Int × Hp) :=
  cl2 (F_Rdr_step  σ) fun v1 s2 =>
  (if (s2 3 3) = 280 then (
    cl2 (F_Scn_valueAt (s2 3 2) s2) fun v5 s6 =>
    lt (s6 3 1).toNat fun q8 =>
    gd (isNet q8) <|
    cl2 (F_Net_whoIs q8 v5 s6) fun v10 s11 =>
    (if v10 = (-1) then (
      cl2 (F_Rdr_step  s11) fun v14 s15 =>
      cl2 (F_Rdr_skip 257 s15) fun v17 s18 =>
      (if v17 = 0 then (
        some (0, s18)
      ) else (
        cl2 (F_Rdr_number  s18) fun v21 s22 =>
        (if v21 = (-1) then (
          some (0, s22)
        ) else (
          lt (s22 3 1).toNat fun q25 =>
          gd (isNet q25) <|
          cl2 (F_Net_addWho q25 v5 v21 s22) fun v27 s28 =>
          some (1, s28)
        ))
      ))
    ) else (
      cl2 (F_Rdr_fail 2 s11) fun v30 s31 =>
      gd (v30 = 0 ∨ v30 = 1) <|
      some (v30, s31)
    ))
  ) else (
    cl2 (F_Rdr_fail 1 s2) fun v34 s35 =>
    gd (v34 = 0 ∨ v34 = 1) <|
    some (v34, s35)
  ))
def F_Rdr_somebody_48 (x1 : Int) (σ : Hp) : Option (Int × Hp) :=
  some (x1, σ)
def F_Rdr_somebody (σ : Hp) : Option (Int × Hp) :=
  (if (σ 3 3) = 280 then (
    lt (σ 3 1).toNat fun q2 =>
    gd (isNet q2) <|
    cl2 (F_Scn_valueAt (σ 3 2) σ) fun v4 s5 =>
    cl2 (F_Net_whoIs q2 v4 s5) fun v7 s8 =>
    (if v7 = (-1) then (
      cl2 (F_Rdr_fail 3 s8) fun v11 s12 =>
      F_Rdr_somebody_48 v7 s12
    ) else (
      F_Rdr_somebody_48 v7 s8
    ))
  ) else (
    cl2 (F_Rdr_fail 1 σ) fun v14 s15 =>
    some ((-1), s15)
  ))
def F_Rdr_twoNames_131 (a1 : Int) (σ : Hp) : Option (Int × Hp) :=
  cl2 (F_Rdr_fail 2 σ) fun v1 s2 =>
  gd (v1 = 0 ∨ v1 = 1) <|
  some (v1, s2)
def F_Rdr_twoNames_154 (a1 : Int) (σ : Hp) : Option (Int × Hp) :=
  cl2 (F_Rdr_step  σ) fun v5 s6 =>
  some (1, s6)
def F_Rdr_twoNames_137 (a1 : Int) (x2 : Int) (σ : Hp) : Option (Int × Hp) :=
  (if a1 = 263 then (
    (if x2 = 0 then (
      cl2 (F_Rdr_fail 3 σ) fun v10 s11 =>
      gd (v10 = 0 ∨ v10 = 1) <|
      some (v10, s11)
    ) else (
      F_Rdr_twoNames_154 a1 σ
    ))
  ) else (
    F_Rdr_twoNames_154 a1 σ
  ))
def F_Rdr_twoNames_120 (a1 : Int) (x2 : Int) (x3 : Int) (σ : Hp) : Option (Int × Hp) :=
  (if a1 = 261 then (
    (if x3 = 0 then (
      F_Rdr_twoNames_137 a1 x2 σ
    ) else (
      F_Rdr_twoNames_131 a1 σ
    ))
  ) else (
    F_Rdr_twoNames_137 a1 x2 σ
  ))
def F_Rdr_twoNames_87 (a1 : Int) (t1 : Int) (σ : Hp) : Option (Int × Hp) :=
  lt (σ 3 1).toNat fun q16 =>
  gd (isNet q16) <|
  gd (0 ≤ (iadd (imul (σ 3 4) 12) (σ 3 5)) ∧ (iadd (imul (σ 3 4) 12) (σ 3 5)) < (144 : Int)) <|
  lt (σ (q16 + 35) (iadd (imul (σ 3 4) 12) (σ 3 5)).toNat) fun y3_19 =>
  (if a1 = 258 then (
    (if t1 = 0 then (
      F_Rdr_twoNames_120 a1 t1 y3_19 σ
    ) else (
      F_Rdr_twoNames_131 a1 σ
    ))
  ) else (
    F_Rdr_twoNames_120 a1 t1 y3_19 σ
  ))
def F_Rdr_twoNames (a1 : Int) (σ : Hp) : Option (Int × Hp) :=
  cl2 (F_Rdr_step  σ) fun v22 s23 =>
  cl2 (F_Rdr_somebody  s23) fun v25 s26 =>
  lt (hset s26 3 4 v25) fun s28 =>
  (if (s28 3 4) = (-1) then (
    some (0, s28)
  ) else (
    cl2 (F_Rdr_step  s28) fun v30 s31 =>
    cl2 (F_Rdr_somebody  s31) fun v33 s34 =>
    lt (hset s34 3 5 v33) fun s36 =>
    (if (s36 3 5) = (-1) then (
      some (0, s36)
    ) else (
      (if (s36 3 4) = (s36 3 5) then (
        cl2 (F_Rdr_fail 3 s36) fun v44 s45 =>
        gd (v44 = 0 ∨ v44 = 1) <|
        some (v44, s45)
      ) else (
        lt (s36 3 1).toNat fun q39 =>
        gd (isNet q39) <|
        gd (0 ≤ (s36 3 4) ∧ (s36 3 4) < (12 : Int)) <|
        gd (0 ≤ (s36 3 5) ∧ (s36 3 5) < (12 : Int)) <|
        (if (s36 ((q39 + 9) + 1 + (s36 3 4).toNat) (s36 3 5).toNat) = (-1) then (
          F_Rdr_twoNames_87 a1 0 s36
        ) else (
          F_Rdr_twoNames_87 a1 1 s36
        ))
      ))
    ))
  ))
def F_Rdr_tasteIs_70 (t4 : Int) (t3 : Int) (t2 : Int) (t1 : Nat) (σ : Hp) : Option (Int × Hp) :=
  cl2 (F_Net_addTaste t1 t2 t3 t4 σ) fun v1 s2 =>
  some (1, s2)
def F_Rdr_tasteIs_36 (x1 : Int) (σ : Hp) : Option (Int × Hp) :=
  cl2 (F_Rdr_number  σ) fun v4 s5 =>
  (if v4 = (-1) then (
    some (0, s5)
  ) else (
    lt (s5 3 1).toNat fun q8 =>
    gd (isNet q8) <|
    (if x1 = 0 then (
      F_Rdr_tasteIs_70 v4 (s5 3 5) (s5 3 4) q8 s5
    ) else (
      F_Rdr_tasteIs_70 (ineg v4) (s5 3 5) (s5 3 4) q8 s5
    ))
  ))
def F_Rdr_tasteIs_27 (t1 : Int) (σ : Hp) : Option (Int × Hp) :=
  (if t1 = 0 then (
    F_Rdr_tasteIs_36 t1 σ
  ) else (
    cl2 (F_Rdr_step  σ) fun v12 s13 =>
    F_Rdr_tasteIs_36 t1 s13
  ))
def F_Rdr_tasteIs (σ : Hp) : Option (Int × Hp) :=
  cl2 (F_Rdr_twoNames 261 σ) fun v15 s16 =>
  (if v15 = 0 then (
    some (0, s16)
  ) else (
    (if (s16 3 3) = 262 then (
      F_Rdr_tasteIs_27 1 s16
    ) else (
      F_Rdr_tasteIs_27 0 s16
    ))
  ))
def F_Rdr_doubtIs (σ : Hp) : Option (Int × Hp) :=
  cl2 (F_Rdr_twoNames 263 σ) fun v1 s2 =>
  (if v1 = 0 then (
    some (0, s2)
  ) else (
    cl2 (F_Rdr_number  s2) fun v5 s6 =>
    (if v5 = (-1) then (
      some (0, s6)
    ) else (
      lt (s6 3 1).toNat fun q9 =>
      gd (isNet q9) <|
      cl2 (F_Net_addDoubt q9 (s6 3 4) (s6 3 5) v5 s6) fun v11 s12 =>
      some (1, s12)
    ))
  ))
def F_Rdr_exchange (a1 : Nat) (σ : Hp) : Option (Int × Hp) :=
  gd (isNet a1) <|
  lt (σ 3 1).toNat fun q1 =>
  gd (isNet q1) <|
  lt (hset σ 3 1 (Int.ofNat a1)) fun s3 =>
  some (Int.ofNat q1, s3)
def F_Rdr_opens (a1 : Int) (a2 : Int) (σ : Hp) : Option (Int × Hp) :=
  (if (σ 3 3) = a1 then (
    (if a2 < 8 then (
      cl2 (F_Rdr_step  σ) fun v3 s4 =>
      some (1, s4)
    ) else (
      cl2 (F_Rdr_fail 5 σ) fun v6 s7 =>
      gd (v6 = 0 ∨ v6 = 1) <|
      some (v6, s7)
    ))
  ) else (
    cl2 (F_Rdr_fail 1 σ) fun v10 s11 =>
    gd (v10 = 0 ∨ v10 = 1) <|
    some (v10, s11)
  ))
def F_Rdr_test_59 (rec : Nat → Int → Hp → Option (Int × Hp)) (a1 : Int) (σ : Hp) : Option (Int × Hp) :=
  some (1, σ)
def F_Rdr_test_12_b (rec : Nat → Int → Hp → Option (Int × Hp)) (k12 : Int × Hp → Option (Int × Hp)) (a1 : Int) (x2 : Int) (σ : Hp) : Option (Int × Hp) :=
  (if 900 ≤ x2 then (
    F_Rdr_test_59 rec a1 σ
  ) else (
    (if (σ 3 3) = 264 then (
      cl2 (F_Rdr_step  σ) fun v3 s4 =>
      cl2 (rec 1 a1 s4) fun v6 s7 =>
      (if v6 = 0 then (
        some (0, s7)
      ) else (
        lt (s7 3 1).toNat fun q10 =>
        gd (isNet q10) <|
        cl2 (F_Net_emit q10 (-264) s7) fun v12 s13 =>
        lt (iadd x2 1) fun y2_15 =>
        k12 (y2_15, s13)
      ))
    ) else (
      F_Rdr_test_59 rec a1 σ
    ))
  ))
def F_Rdr_test_12 (rec : Nat → Int → Hp → Option (Int × Hp)) (a1 : Int) : Nat → Int × Hp → Option (Int × Hp) := loopF (fun k12 a => F_Rdr_test_12_b rec k12 a1 a.1 a.2)
def F_Rdr_test (rec : Nat → Int → Hp → Option (Int × Hp)) (a1 : Int) (σ : Hp) : Option (Int × Hp) :=
  cl2 (rec 1 a1 σ) fun v16 s17 =>
  (if v16 = 0 then (
    some (0, s17)
  ) else (
    F_Rdr_test_12 rec a1 FU (0, s17)
  ))
def F_Rdr_both_59 (rec : Nat → Int → Hp → Option (Int × Hp)) (a1 : Int) (σ : Hp) : Option (Int × Hp) :=
  some (1, σ)
def F_Rdr_both_12_b (rec : Nat → Int → Hp → Option (Int × Hp)) (k12 : Int × Hp → Option (Int × Hp)) (a1 : Int) (x2 : Int) (σ : Hp) : Option (Int × Hp) :=
  (if 900 ≤ x2 then (
    F_Rdr_both_59 rec a1 σ
  ) else (
    (if (σ 3 3) = 265 then (
      cl2 (F_Rdr_step  σ) fun v3 s4 =>
      cl2 (rec 2 a1 s4) fun v6 s7 =>
      (if v6 = 0 then (
        some (0, s7)
      ) else (
        lt (s7 3 1).toNat fun q10 =>
        gd (isNet q10) <|
        cl2 (F_Net_emit q10 (-265) s7) fun v12 s13 =>
        lt (iadd x2 1) fun y2_15 =>
        k12 (y2_15, s13)
      ))
    ) else (
      F_Rdr_both_59 rec a1 σ
    ))
  ))
def F_Rdr_both_12 (rec : Nat → Int → Hp → Option (Int × Hp)) (a1 : Int) : Nat → Int × Hp → Option (Int × Hp) := loopF (fun k12 a => F_Rdr_both_12_b rec k12 a1 a.1 a.2)
def F_Rdr_both (rec : Nat → Int → Hp → Option (Int × Hp)) (a1 : Int) (σ : Hp) : Option (Int × Hp) :=
  cl2 (rec 2 a1 σ) fun v16 s17 =>
  (if v16 = 0 then (
    some (0, s17)
  ) else (
    F_Rdr_both_12 rec a1 FU (0, s17)
  ))
def F_Rdr_fact_30 (rec : Nat → Int → Hp → Option (Int × Hp)) (k4 : Int × Int × Hp → Option (Int × Hp)) (a1 : Int) (x3 : Int) (t1 : Int) (σ : Hp) : Option (Int × Hp) :=
  cl2 (F_Rdr_step  σ) fun v1 s2 =>
  lt (iadd x3 1) fun y3_4 =>
  k4 (t1, y3_4, s2)
def F_Rdr_fact_79 (rec : Nat → Int → Hp → Option (Int × Hp)) (a1 : Int) (σ : Hp) : Option (Int × Hp) :=
  some (0, σ)
def F_Rdr_fact_182 (rec : Nat → Int → Hp → Option (Int × Hp)) (a1 : Int) (σ : Hp) : Option (Int × Hp) :=
  some (1, σ)
def F_Rdr_fact_168 (rec : Nat → Int → Hp → Option (Int × Hp)) (a1 : Int) (x2 : Int) (σ : Hp) : Option (Int × Hp) :=
  (if x2 = 0 then (
    F_Rdr_fact_182 rec a1 σ
  ) else (
    lt (σ 3 1).toNat fun q6 =>
    gd (isNet q6) <|
    cl2 (F_Net_emit q6 (-266) σ) fun v8 s9 =>
    F_Rdr_fact_182 rec a1 s9
  ))
def F_Rdr_fact_145 (rec : Nat → Int → Hp → Option (Int × Hp)) (a1 : Int) (x2 : Int) (x3 : Int) (σ : Hp) : Option (Int × Hp) :=
  cl2 (F_Rdr_step  σ) fun v11 s12 =>
  cl2 (rec 3 a1 s12) fun v14 s15 =>
  (if v14 = 0 then (
    some (0, s15)
  ) else (
    lt (s15 3 1).toNat fun q18 =>
    gd (isNet q18) <|
    cl2 (F_Net_emit q18 (ineg x3) s15) fun v20 s21 =>
    F_Rdr_fact_168 rec a1 x2 s21
  ))
def F_Rdr_fact_41 (rec : Nat → Int → Hp → Option (Int × Hp)) (a1 : Int) (x2 : Int) (σ : Hp) : Option (Int × Hp) :=
  (if (σ 3 3) = 91 then (
    cl2 (F_Rdr_opens 91 a1 σ) fun v45 s46 =>
    (if v45 = 0 then (
      F_Rdr_fact_79 rec a1 s46
    ) else (
      cl2 (rec 0 (iadd a1 1) s46) fun v49 s50 =>
      (if v49 = 0 then (
        F_Rdr_fact_79 rec a1 s50
      ) else (
        cl2 (F_Rdr_skip 93 s50) fun v53 s54 =>
        (if v53 = 0 then (
          F_Rdr_fact_79 rec a1 s54
        ) else (
          F_Rdr_fact_168 rec a1 x2 s54
        ))
      ))
    ))
  ) else (
    (if (σ 3 3) = 267 then (
      lt (σ 3 1).toNat fun q37 =>
      gd (isNet q37) <|
      cl2 (F_Net_emit q37 1 σ) fun v39 s40 =>
      cl2 (F_Rdr_step  s40) fun v42 s43 =>
      F_Rdr_fact_168 rec a1 x2 s43
    ) else (
      cl2 (rec 3 a1 σ) fun v25 s26 =>
      (if v25 = 0 then (
        some (0, s26)
      ) else (
        lt (s26 3 3) fun y3_29 =>
        (if y3_29 = 60 then (
          F_Rdr_fact_145 rec a1 x2 y3_29 s26
        ) else (
          (if y3_29 = 62 then (
            F_Rdr_fact_145 rec a1 x2 y3_29 s26
          ) else (
            (if y3_29 = 61 then (
              F_Rdr_fact_145 rec a1 x2 y3_29 s26
            ) else (
              cl2 (F_Rdr_fail 1 s26) fun v33 s34 =>
              gd (v33 = 0 ∨ v33 = 1) <|
              some (v33, s34)
            ))
          ))
        ))
      ))
    ))
  ))
def F_Rdr_fact_4_b (rec : Nat → Int → Hp → Option (Int × Hp)) (k4 : Int × Int × Hp → Option (Int × Hp)) (a1 : Int) (x2 : Int) (x3 : Int) (σ : Hp) : Option (Int × Hp) :=
  (if 900 ≤ x3 then (
    F_Rdr_fact_41 rec a1 x2 σ
  ) else (
    (if (σ 3 3) = 266 then (
      (if x2 = 0 then (
        F_Rdr_fact_30 rec k4 a1 x3 1 σ
      ) else (
        F_Rdr_fact_30 rec k4 a1 x3 0 σ
      ))
    ) else (
      F_Rdr_fact_41 rec a1 x2 σ
    ))
  ))
def F_Rdr_fact_4 (rec : Nat → Int → Hp → Option (Int × Hp)) (a1 : Int) : Nat → Int × Int × Hp → Option (Int × Hp) := loopF (fun k4 a => F_Rdr_fact_4_b rec k4 a1 a.1 a.2.1 a.2.2)
def F_Rdr_fact (rec : Nat → Int → Hp → Option (Int × Hp)) (a1 : Int) (σ : Hp) : Option (Int × Hp) :=
  F_Rdr_fact_4 rec a1 FU (0, 0, σ)
def F_Rdr_sum_37 (rec : Nat → Int → Hp → Option (Int × Hp)) (k12 : Int × Hp → Option (Int × Hp)) (a1 : Int) (x2 : Int) (σ : Hp) : Option (Int × Hp) :=
  lt (σ 3 3) fun y3_1 =>
  cl2 (F_Rdr_step  σ) fun v2 s3 =>
  cl2 (rec 4 a1 s3) fun v5 s6 =>
  (if v5 = 0 then (
    some (0, s6)
  ) else (
    lt (s6 3 1).toNat fun q9 =>
    gd (isNet q9) <|
    cl2 (F_Net_emit q9 (ineg y3_1) s6) fun v11 s12 =>
    lt (iadd x2 1) fun y2_14 =>
    k12 (y2_14, s12)
  ))
def F_Rdr_sum_71 (rec : Nat → Int → Hp → Option (Int × Hp)) (a1 : Int) (σ : Hp) : Option (Int × Hp) :=
  some (1, σ)
def F_Rdr_sum_12_b (rec : Nat → Int → Hp → Option (Int × Hp)) (k12 : Int × Hp → Option (Int × Hp)) (a1 : Int) (x2 : Int) (σ : Hp) : Option (Int × Hp) :=
  (if 900 ≤ x2 then (
    F_Rdr_sum_71 rec a1 σ
  ) else (
    (if (σ 3 3) = 43 then (
      F_Rdr_sum_37 rec k12 a1 x2 σ
    ) else (
      (if (σ 3 3) = 45 then (
        F_Rdr_sum_37 rec k12 a1 x2 σ
      ) else (
        F_Rdr_sum_71 rec a1 σ
      ))
    ))
  ))
def F_Rdr_sum_12 (rec : Nat → Int → Hp → Option (Int × Hp)) (a1 : Int) : Nat → Int × Hp → Option (Int × Hp) := loopF (fun k12 a => F_Rdr_sum_12_b rec k12 a1 a.1 a.2)
def F_Rdr_sum (rec : Nat → Int → Hp → Option (Int × Hp)) (a1 : Int) (σ : Hp) : Option (Int × Hp) :=
  cl2 (rec 4 a1 σ) fun v18 s19 =>
  (if v18 = 0 then (
    some (0, s19)
  ) else (
    F_Rdr_sum_12 rec a1 FU (0, s19)
  ))
def F_Rdr_product_46 (rec : Nat → Int → Hp → Option (Int × Hp)) (k12 : Int × Hp → Option (Int × Hp)) (a1 : Int) (x2 : Int) (σ : Hp) : Option (Int × Hp) :=
  lt (σ 3 3) fun y3_1 =>
  cl2 (F_Rdr_step  σ) fun v2 s3 =>
  cl2 (rec 5 a1 s3) fun v5 s6 =>
  (if v5 = 0 then (
    some (0, s6)
  ) else (
    lt (s6 3 1).toNat fun q9 =>
    gd (isNet q9) <|
    cl2 (F_Net_emit q9 (ineg y3_1) s6) fun v11 s12 =>
    lt (iadd x2 1) fun y2_14 =>
    k12 (y2_14, s12)
  ))
def F_Rdr_product_80 (rec : Nat → Int → Hp → Option (Int × Hp)) (a1 : Int) (σ : Hp) : Option (Int × Hp) :=
  some (1, σ)
def F_Rdr_product_12_b (rec : Nat → Int → Hp → Option (Int × Hp)) (k12 : Int × Hp → Option (Int × Hp)) (a1 : Int) (x2 : Int) (σ : Hp) : Option (Int × Hp) :=
  (if 900 ≤ x2 then (
    F_Rdr_product_80 rec a1 σ
  ) else (
    (if (σ 3 3) = 42 then (
      F_Rdr_product_46 rec k12 a1 x2 σ
    ) else (
      (if (σ 3 3) = 47 then (
        F_Rdr_product_46 rec k12 a1 x2 σ
      ) else (
        (if (σ 3 3) = 37 then (
          F_Rdr_product_46 rec k12 a1 x2 σ
        ) else (
          F_Rdr_product_80 rec a1 σ
        ))
      ))
    ))
  ))
def F_Rdr_product_12 (rec : Nat → Int → Hp → Option (Int × Hp)) (a1 : Int) : Nat → Int × Hp → Option (Int × Hp) := loopF (fun k12 a => F_Rdr_product_12_b rec k12 a1 a.1 a.2)
def F_Rdr_product (rec : Nat → Int → Hp → Option (Int × Hp)) (a1 : Int) (σ : Hp) : Option (Int × Hp) :=
  cl2 (rec 5 a1 σ) fun v19 s20 =>
  (if v19 = 0 then (
    some (0, s20)
  ) else (
    F_Rdr_product_12 rec a1 FU (0, s20)
  ))
def F_Rdr_part_104 (rec : Nat → Int → Hp → Option (Int × Hp)) (a1 : Int) (x2 : Int) (σ : Hp) : Option (Int × Hp) :=
  lt (σ 3 1).toNat fun q1 =>
  gd (isNet q1) <|
  cl2 (F_Net_emit q1 (ineg x2) σ) fun v3 s4 =>
  cl2 (F_Rdr_step  s4) fun v6 s7 =>
  some (1, s7)
def F_Rdr_part_191 (rec : Nat → Int → Hp → Option (Int × Hp)) (a1 : Int) (t1 : Int) (σ : Hp) : Option (Int × Hp) :=
  gd (t1 = 0 ∨ t1 = 1) <|
  some (t1, σ)
def F_Rdr_part_190 (rec : Nat → Int → Hp → Option (Int × Hp)) (a1 : Int) (σ : Hp) : Option (Int × Hp) :=
  F_Rdr_part_191 rec a1 0 σ
def F_Rdr_part_244 (rec : Nat → Int → Hp → Option (Int × Hp)) (a1 : Int) (σ : Hp) : Option (Int × Hp) :=
  some (0, σ)
def F_Rdr_part_192 (rec : Nat → Int → Hp → Option (Int × Hp)) (a1 : Int) (x2 : Int) (σ : Hp) : Option (Int × Hp) :=
  cl2 (F_Rdr_step  σ) fun v10 s11 =>
  cl2 (F_Rdr_opens 40 a1 s11) fun v13 s14 =>
  (if v13 = 0 then (
    F_Rdr_part_244 rec a1 s14
  ) else (
    cl2 (rec 3 (iadd a1 1) s14) fun v17 s18 =>
    (if v17 = 0 then (
      F_Rdr_part_244 rec a1 s18
    ) else (
      cl2 (F_Rdr_skip 44 s18) fun v21 s22 =>
      (if v21 = 0 then (
        F_Rdr_part_244 rec a1 s22
      ) else (
        cl2 (rec 3 (iadd a1 1) s22) fun v25 s26 =>
        (if v25 = 0 then (
          F_Rdr_part_244 rec a1 s26
        ) else (
          cl2 (F_Rdr_skip 41 s26) fun v29 s30 =>
          (if v29 = 0 then (
            F_Rdr_part_244 rec a1 s30
          ) else (
            lt (s30 3 1).toNat fun q33 =>
            gd (isNet q33) <|
            cl2 (F_Net_emit q33 (ineg x2) s30) fun v35 s36 =>
            some (1, s36)
          ))
        ))
      ))
    ))
  ))
def F_Rdr_part (rec : Nat → Int → Hp → Option (Int × Hp)) (a1 : Int) (σ : Hp) : Option (Int × Hp) :=
  lt (σ 3 3) fun y2_38 =>
  (if y2_38 = 40 then (
    cl2 (F_Rdr_opens 40 a1 σ) fun v40 s41 =>
    (if v40 = 0 then (
      F_Rdr_part_190 rec a1 s41
    ) else (
      cl2 (rec 3 (iadd a1 1) s41) fun v44 s45 =>
      (if v44 = 0 then (
        F_Rdr_part_190 rec a1 s45
      ) else (
        cl2 (F_Rdr_skip 41 s45) fun v48 s49 =>
        (if v48 = 0 then (
          F_Rdr_part_190 rec a1 s49
        ) else (
          F_Rdr_part_191 rec a1 1 s49
        ))
      ))
    ))
  ) else (
  (if y2_38 = 257 then (
    cl2 (F_Rdr_step  σ) fun v53 s54 =>
    cl2 (F_Rdr_somebody  s54) fun v56 s57 =>
    (if v56 = (-1) then (
      some (0, s57)
    ) else (
      lt (s57 3 1).toNat fun q60 =>
      gd (isNet q60) <|
      lt (s57 3 1).toNat fun q62 =>
      gd (isNet q62) <|
      gd (0 ≤ v56 ∧ v56 < (12 : Int)) <|
      cl2 (F_Net_emit q60 (s57 (q62 + 2) v56.toNat) s57) fun v65 s66 =>
      cl2 (F_Rdr_step  s66) fun v68 s69 =>
      some (1, s69)
    ))
  ) else (
  (if y2_38 = 268 then (
    F_Rdr_part_104 rec a1 y2_38 σ
  ) else (
  (if y2_38 = 269 then (
    F_Rdr_part_104 rec a1 y2_38 σ
  ) else (
  (if y2_38 = 270 then (
    F_Rdr_part_104 rec a1 y2_38 σ
  ) else (
  (if y2_38 = 271 then (
    F_Rdr_part_192 rec a1 y2_38 σ
  ) else (
  (if y2_38 = 272 then (
    F_Rdr_part_192 rec a1 y2_38 σ
  ) else (
  (if y2_38 = 281 then (
    lt (σ 3 1).toNat fun q77 =>
    gd (isNet q77) <|
    cl2 (F_Scn_valueAt (σ 3 2) σ) fun v79 s80 =>
    cl2 (F_Net_emit q77 v79 s80) fun v82 s83 =>
    cl2 (F_Rdr_step  s83) fun v85 s86 =>
    some (1, s86)
  ) else (
    cl2 (F_Rdr_fail 1 σ) fun v88 s89 =>
    gd (v88 = 0 ∨ v88 = 1) <|
    some (v88, s89)
  ))))))))))))))))
def F_rd : Nat → Nat → Int → Hp → Option (Int × Hp)
  | 0, _, _, _ => none
  | d + 1, n, o, σ => match n with
    | 0 => F_Rdr_test (F_rd d) o σ
    | 1 => F_Rdr_both (F_rd d) o σ
    | 2 => F_Rdr_fact (F_rd d) o σ
    | 3 => F_Rdr_sum (F_rd d) o σ
    | 4 => F_Rdr_product (F_rd d) o σ
    | _ => F_Rdr_part (F_rd d) o σ
def F_Rdr_roadGoes_20 (σ : Hp) : Option (Int × Hp) :=
  some (0, σ)
def F_Rdr_roadGoes_87 (x1 : Int) (x2 : Int) (σ : Hp) : Option (Int × Hp) :=
  lt (σ 3 1).toNat fun q1 =>
  gd (isNet q1) <|
  cl2 (F_Net_endRoad q1 x1 x2 σ) fun v3 s4 =>
  some (1, s4)
def F_Rdr_roadGoes (σ : Hp) : Option (Int × Hp) :=
  cl2 (F_Rdr_twoNames 258 σ) fun v6 s7 =>
  (if v6 = 0 then (
    F_Rdr_roadGoes_20 s7
  ) else (
    cl2 (F_Rdr_skip 259 s7) fun v10 s11 =>
    (if v10 = 0 then (
      F_Rdr_roadGoes_20 s11
    ) else (
      lt (s11 3 1).toNat fun q14 =>
      gd (isNet q14) <|
      lt (s11 q14 14) fun y1_16 =>
      lt (s11 3 1).toNat fun q17 =>
      gd (isNet q17) <|
      cl2 (F_Net_beginRoad q17 (s11 3 4) (s11 3 5) s11) fun v19 s20 =>
      cl2 (F_rd 40 3 0 s20) fun v22 s23 =>
      (if v22 = 0 then (
        some (0, s23)
      ) else (
        lt (s23 3 1).toNat fun q26 =>
        gd (isNet q26) <|
        lt (s23 q26 14) fun y2_28 =>
        (if (s23 3 3) = 260 then (
          cl2 (F_Rdr_step  s23) fun v30 s31 =>
          cl2 (F_rd 40 0 0 s31) fun v33 s34 =>
          (if v33 = 0 then (
            some (0, s34)
          ) else (
            F_Rdr_roadGoes_87 y1_16 y2_28 s34
          ))
        ) else (
          F_Rdr_roadGoes_87 y1_16 y2_28 s23
        ))
      ))
    ))
  ))
def F_Rdr_read_156 (σ : Hp) : Option (Int × Hp) :=
  cl2 (F_Rdr_fail 1 σ) fun v1 s2 =>
  gd (v1 = 0 ∨ v1 = 1) <|
  some (v1, s2)
def F_Rdr_read_175 (σ : Hp) : Option (Int × Hp) :=
  some (0, σ)
def F_Rdr_read_162 (k43 : Int × Hp → Option (Int × Hp)) (x1 : Int) (x2 : Int) (σ : Hp) : Option (Int × Hp) :=
  (if x2 = 0 then (
    F_Rdr_read_175 σ
  ) else (
    cl2 (F_Rdr_skip 59 σ) fun v6 s7 =>
    (if v6 = 0 then (
      F_Rdr_read_175 s7
    ) else (
      lt (s7 3 1).toNat fun q10 =>
      gd (isNet q10) <|
      lt (hset s7 q10 19 (iadd (s7 q10 19) 1)) fun s12 =>
      lt (iadd x1 1) fun y1_13 =>
      k43 (y1_13, s12)
    ))
  ))
def F_Rdr_read_196 (σ : Hp) : Option (Int × Hp) :=
  some (1, σ)
def F_Rdr_read_43_b (k43 : Int × Hp → Option (Int × Hp)) (x1 : Int) (σ : Hp) : Option (Int × Hp) :=
  (if 900 ≤ x1 then (
    F_Rdr_read_196 σ
  ) else (
    (if (σ 3 3) = (-1) then (
      F_Rdr_read_196 σ
    ) else (
      cl2 (F_Rdr_isTooMany  σ) fun v16 s17 =>
      (if v16 = 0 then (
        (if (s17 3 3) = 256 then (
          cl2 (F_Rdr_whoLives  s17) fun v21 s22 =>
          F_Rdr_read_162 k43 x1 v21 s22
        ) else (
        (if (s17 3 3) = 257 then (
          F_Rdr_read_156 s17
        ) else (
        (if (s17 3 3) = 258 then (
          cl2 (F_Rdr_roadGoes  s17) fun v26 s27 =>
          F_Rdr_read_162 k43 x1 v26 s27
        ) else (
        (if (s17 3 3) = 259 then (
          F_Rdr_read_156 s17
        ) else (
        (if (s17 3 3) = 260 then (
          F_Rdr_read_156 s17
        ) else (
        (if (s17 3 3) = 261 then (
          cl2 (F_Rdr_tasteIs  s17) fun v32 s33 =>
          F_Rdr_read_162 k43 x1 v32 s33
        ) else (
        (if (s17 3 3) = 262 then (
          F_Rdr_read_156 s17
        ) else (
        (if (s17 3 3) = 263 then (
          cl2 (F_Rdr_doubtIs  s17) fun v37 s38 =>
          F_Rdr_read_162 k43 x1 v37 s38
        ) else (
          F_Rdr_read_156 s17
        ))))))))))))))))
      ) else (
        cl2 (F_Rdr_fail 5 s17) fun v40 s41 =>
        gd (v40 = 0 ∨ v40 = 1) <|
        some (v40, s41)
      ))
    ))
  ))
def F_Rdr_read_43 : Nat → Int × Hp → Option (Int × Hp) := loopF (fun k43 a => F_Rdr_read_43_b k43 a.1 a.2)
def F_Rdr_read (σ : Hp) : Option (Int × Hp) :=
  lt (σ 3 1).toNat fun q44 =>
  gd (isNet q44) <|
  cl2 (F_Net_clear q44 σ) fun v46 s47 =>
  lt (hset s47 3 6 0) fun s49 =>
  lt (hset s49 3 7 (-1)) fun s50 =>
  cl2 (F_Scn_scan  s50) fun v51 s52 =>
  lt (hset s52 3 2 0) fun s54 =>
  cl2 (F_Scn_kindAt 0 s54) fun v55 s56 =>
  lt (hset s56 3 3 v55) fun s58 =>
  F_Rdr_read_43 FU (0, s58)
def F_Deals_part (a1 : Int) (a2 : Int) (σ : Hp) : Option (Int × Hp) :=
  lt (σ 173 6).toNat fun q1 =>
  gd (isNet q1) <|
  gd (0 ≤ a1 ∧ a1 < (30 : Int)) <|
  gd (0 ≤ (σ (q1 + 3) a1.toNat) ∧ (σ (q1 + 3) a1.toNat) < (12 : Int)) <|
  lt (hset σ 177 (σ (q1 + 3) a1.toNat).toNat a2) fun s5 =>
  lt (s5 173 6).toNat fun q6 =>
  gd (isNet q6) <|
  gd (0 ≤ a1 ∧ a1 < (30 : Int)) <|
  gd (0 ≤ a1 ∧ a1 < (30 : Int)) <|
  gd (0 ≤ (s5 (q6 + 4) a1.toNat) ∧ (s5 (q6 + 4) a1.toNat) < (12 : Int)) <|
  lt (hset s5 177 (s5 (q6 + 4) a1.toNat).toNat (isub (s5 90 a1.toNat) a2)) fun s11 =>
  some (0, s11)
def F_Deals_settle_161 (k59 : Int × Hp → Option (Int × Hp)) (x1 : Int) (σ : Hp) : Option (Int × Hp) :=
  lt (iadd x1 1) fun y1_1 =>
  k59 (y1_1, σ)
def F_Deals_settle_59_b (k59 : Int × Hp → Option (Int × Hp)) (x1 : Int) (σ : Hp) : Option (Int × Hp) :=
  lt (σ 173 6).toNat fun q2 =>
  gd (isNet q2) <|
  (if (σ q2 16) ≤ x1 then (
    some (0, σ)
  ) else (
    gd (0 ≤ x1 ∧ x1 < (30 : Int)) <|
    (if (σ 174 x1.toNat) = 0 then (
      F_Deals_settle_161 k59 x1 σ
    ) else (
      gd (0 ≤ x1 ∧ x1 < (30 : Int)) <|
      (if (σ 89 x1.toNat) = 0 then (
        F_Deals_settle_161 k59 x1 σ
      ) else (
        (if 6 ≤ (σ 173 8) then (
          F_Deals_settle_161 k59 x1 σ
        ) else (
          lt (σ 173 6).toNat fun q10 =>
          gd (isNet q10) <|
          gd (0 ≤ x1 ∧ x1 < (30 : Int)) <|
          gd (0 ≤ (σ (q10 + 3) x1.toNat) ∧ (σ (q10 + 3) x1.toNat) < (12 : Int)) <|
          lt (hset σ 176 (σ (q10 + 3) x1.toNat).toNat x1) fun s14 =>
          lt (s14 173 6).toNat fun q15 =>
          gd (isNet q15) <|
          gd (0 ≤ x1 ∧ x1 < (30 : Int)) <|
          gd (0 ≤ (s14 (q15 + 4) x1.toNat) ∧ (s14 (q15 + 4) x1.toNat) < (12 : Int)) <|
          lt (hset s14 176 (s14 (q15 + 4) x1.toNat).toNat x1) fun s19 =>
          gd (0 ≤ x1 ∧ x1 < (30 : Int)) <|
          cl2 (F_Deals_part x1 (s19 175 x1.toNat) s19) fun v21 s22 =>
          gd (0 ≤ (s22 173 8) ∧ (s22 173 8) < (6 : Int)) <|
          lt (hset s22 178 (s22 173 8).toNat x1) fun s25 =>
          lt (hset s25 173 8 (iadd (s25 173 8) 1)) fun s26 =>
          F_Deals_settle_161 k59 x1 s26
        ))
      ))
    ))
  ))
def F_Deals_settle_59 : Nat → Int × Hp → Option (Int × Hp) := loopF (fun k59 a => F_Deals_settle_59_b k59 a.1 a.2)
def F_Deals_settle_18_b (k18 : Int × Hp → Option (Int × Hp)) (x1 : Int) (σ : Hp) : Option (Int × Hp) :=
  lt (σ 173 6).toNat fun q27 =>
  gd (isNet q27) <|
  (if (σ q27 15) ≤ x1 then (
    F_Deals_settle_59 FU (0, σ)
  ) else (
    gd (0 ≤ x1 ∧ x1 < (12 : Int)) <|
    lt (hset σ 176 x1.toNat (-1)) fun s31 =>
    lt (s31 173 6).toNat fun q32 =>
    gd (isNet q32) <|
    gd (0 ≤ x1 ∧ x1 < (12 : Int)) <|
    gd (0 ≤ x1 ∧ x1 < (12 : Int)) <|
    lt (hset s31 177 x1.toNat (s31 (q32 + 2) x1.toNat)) fun s36 =>
    lt (iadd x1 1) fun y1_37 =>
    k18 (y1_37, s36)
  ))
def F_Deals_settle_18 : Nat → Int × Hp → Option (Int × Hp) := loopF (fun k18 a => F_Deals_settle_18_b k18 a.1 a.2)
def F_Deals_settle (σ : Hp) : Option (Int × Hp) :=
  lt (σ 88 2).toNat fun q38 =>
  gd (isNet q38) <|
  lt (hset σ 173 6 (Int.ofNat q38)) fun s40 =>
  lt (hset s40 173 8 0) fun s41 =>
  F_Deals_settle_18 FU (0, s41)
def F_Plan_gainOfTwo_27 (this : Nat) (a1 : Int) (a2 : Int) (t1 : Int) (σ : Hp) : Option (Int × Hp) :=
  some (t1, σ)
def F_Plan_gainOfTwo (this : Nat) (a1 : Int) (a2 : Int) (σ : Hp) : Option (Int × Hp) :=
  gd (isPlan this) <|
  lt (σ this 7).toNat fun q1 =>
  gd (isNet q1) <|
  gd (0 ≤ a1 ∧ a1 < (12 : Int)) <|
  gd (0 ≤ a2 ∧ a2 < (12 : Int)) <|
  lt (σ ((q1 + 9) + 1 + a1.toNat) a2.toNat) fun y3_5 =>
  (if y3_5 = (-1) then (
    F_Plan_gainOfTwo_27 this a1 a2 0 σ
  ) else (
    gd (0 ≤ y3_5 ∧ y3_5 < (30 : Int)) <|
    F_Plan_gainOfTwo_27 this a1 a2 (σ (this + 28) y3_5.toNat) σ
  ))
def F_Plan_fillBest_97 (k44 : Int × Int × Int × Int × Int × Hp → Option (Int × Hp)) (this : Nat) (a1 : Int) (x2 : Int) (x3 : Int) (x4 : Int) (x5 : Int) (x6 : Int) (σ : Hp) : Option (Int × Hp) :=
  lt (iadd x6 1) fun y6_1 =>
  k44 (x2, x3, x4, x5, y6_1, σ)
def F_Plan_fillBest_103 (k20 : Int × Int × Hp → Option (Int × Hp)) (this : Nat) (a1 : Int) (x2 : Int) (x3 : Int) (σ : Hp) : Option (Int × Hp) :=
  lt (iadd x3 1) fun y3_2 =>
  k20 (x2, y3_2, σ)
def F_Plan_fillBest_44_b (k20 : Int × Int × Hp → Option (Int × Hp)) (k44 : Int × Int × Int × Int × Int × Hp → Option (Int × Hp)) (this : Nat) (a1 : Int) (x2 : Int) (x3 : Int) (x4 : Int) (x5 : Int) (x6 : Int) (σ : Hp) : Option (Int × Hp) :=
  (if x4 ≤ 0 then (
    F_Plan_fillBest_103 k20 this a1 x2 x3 σ
  ) else (
    (if (imul 2 x2) ≤ x6 then (
      F_Plan_fillBest_103 k20 this a1 x2 x3 σ
    ) else (
      (if (iand x6 x5) = x5 then (
        gd (0 ≤ x6 ∧ x6 < (4096 : Int)) <|
        gd (0 ≤ (isub x6 x5) ∧ (isub x6 x5) < (4096 : Int)) <|
        gd (0 ≤ x6 ∧ x6 < (4096 : Int)) <|
        lt (hset σ (this + 27) x6.toNat (imax (σ (this + 27) x6.toNat) (iadd (σ (this + 27) (isub x6 x5).toNat) x4))) fun s9 =>
        F_Plan_fillBest_97 k44 this a1 x2 x3 x4 x5 x6 s9
      ) else (
        F_Plan_fillBest_97 k44 this a1 x2 x3 x4 x5 x6 σ
      ))
    ))
  ))
def F_Plan_fillBest_44 (k20 : Int × Int × Hp → Option (Int × Hp)) (this : Nat) (a1 : Int) : Nat → Int × Int × Int × Int × Int × Hp → Option (Int × Hp) := loopF (fun k44 a => F_Plan_fillBest_44_b k20 k44 this a1 a.1 a.2.1 a.2.2.1 a.2.2.2.1 a.2.2.2.2.1 a.2.2.2.2.2)
def F_Plan_fillBest_20_b (k20 : Int × Int × Hp → Option (Int × Hp)) (this : Nat) (a1 : Int) (x2 : Int) (x3 : Int) (σ : Hp) : Option (Int × Hp) :=
  (if a1 ≤ x3 then (
    some (0, σ)
  ) else (
    cl2 (F_Plan_gainOfTwo this x3 a1 σ) fun v11 s12 =>
    lt (ior x2 (ishl 1 x3)) fun y5_14 =>
    F_Plan_fillBest_44 k20 this a1 FU (x2, x3, v11, y5_14, y5_14, s12)
  ))
def F_Plan_fillBest_20 (this : Nat) (a1 : Int) : Nat → Int × Int × Hp → Option (Int × Hp) := loopF (fun k20 a => F_Plan_fillBest_20_b k20 this a1 a.1 a.2.1 a.2.2)
def F_Plan_fillBest (this : Nat) (a1 : Int) (σ : Hp) : Option (Int × Hp) :=
  gd (isPlan this) <|
  lt (ishl 1 a1) fun y2_15 =>
  gd (0 ≤ (0 : Int) ∧ 0 ≤ y2_15 ∧ 0 ≤ y2_15 ∧ (0 : Int) + y2_15 ≤ ((4096 : Nat) : Int) ∧ y2_15 + y2_15 ≤ ((4096 : Nat) : Int)) <|
  lt (hcopy σ (this + 27) (0 : Int).toNat y2_15.toNat y2_15.toNat) fun s17 =>
  F_Plan_fillBest_20 this a1 FU (y2_15, 0, s17)
def F_Plan_fillRow_123 (k15 : Int × Int × Hp → Option (Int × Hp)) (this : Nat) (x1 : Int) (x2 : Int) (σ : Hp) : Option (Int × Hp) :=
  lt (iadd x2 1) fun y2_1 =>
  k15 (x1, y2_1, σ)
def F_Plan_fillRow_56 (k15 : Int × Int × Hp → Option (Int × Hp)) (this : Nat) (x1 : Int) (x2 : Int) (x3 : Int) (t1 : Int) (σ : Hp) : Option (Int × Hp) :=
  (if t1 = 0 then (
    F_Plan_fillRow_123 k15 this x1 x2 σ
  ) else (
    (if (Int.ofNat 6) ≤ (σ this 6) then (
      F_Plan_fillRow_123 k15 this x1 x2 σ
    ) else (
      gd (0 ≤ (isub x1 x3) ∧ (isub x1 x3) < (4096 : Int)) <|
      gd (0 ≤ x2 ∧ x2 < (30 : Int)) <|
      gd (0 ≤ x1 ∧ x1 < (4096 : Int)) <|
      (if (iadd (σ (this + 27) (isub x1 x3).toNat) (σ (this + 28) x2.toNat)) = (σ (this + 27) x1.toNat) then (
        gd (0 ≤ (σ this 6) ∧ (σ this 6) < (6 : Int)) <|
        lt (hset σ (this + 29) (σ this 6).toNat x2) fun s9 =>
        lt (hset s9 this 6 (iadd (s9 this 6) 1)) fun s10 =>
        lt (isub x1 x3) fun y1_11 =>
        F_Plan_fillRow_123 k15 this y1_11 x2 s10
      ) else (
        F_Plan_fillRow_123 k15 this x1 x2 σ
      ))
    ))
  ))
def F_Plan_fillRow_55 (k15 : Int × Int × Hp → Option (Int × Hp)) (this : Nat) (x1 : Int) (x2 : Int) (x3 : Int) (σ : Hp) : Option (Int × Hp) :=
  F_Plan_fillRow_56 k15 this x1 x2 x3 0 σ
def F_Plan_fillRow_15_b (k15 : Int × Int × Hp → Option (Int × Hp)) (this : Nat) (x1 : Int) (x2 : Int) (σ : Hp) : Option (Int × Hp) :=
  lt (σ this 7).toNat fun q12 =>
  gd (isNet q12) <|
  (if (σ q12 16) ≤ x2 then (
    some (0, σ)
  ) else (
    lt (σ this 7).toNat fun q15 =>
    gd (isNet q15) <|
    cl2 (F_Net_pairOf q15 x2 σ) fun v17 s18 =>
    gd (0 ≤ x2 ∧ x2 < (30 : Int)) <|
    (if (s18 (this + 28) x2.toNat) ≤ 0 then (
      F_Plan_fillRow_55 k15 this x1 x2 v17 s18
    ) else (
      (if (iand x1 v17) = v17 then (
        F_Plan_fillRow_56 k15 this x1 x2 v17 1 s18
      ) else (
        F_Plan_fillRow_55 k15 this x1 x2 v17 s18
      ))
    ))
  ))
def F_Plan_fillRow_15 (this : Nat) : Nat → Int × Int × Hp → Option (Int × Hp) := loopF (fun k15 a => F_Plan_fillRow_15_b k15 this a.1 a.2.1 a.2.2)
def F_Plan_fillRow (this : Nat) (σ : Hp) : Option (Int × Hp) :=
  gd (isPlan this) <|
  lt (hset σ this 6 0) fun s23 =>
  lt (s23 this 7).toNat fun q24 =>
  gd (isNet q24) <|
  cl2 (F_Net_everybody q24 s23) fun v26 s27 =>
  F_Plan_fillRow_15 this FU (v26, 0, s27)
def F_Plan_take_75 (k13 : Int × Hp → Option (Int × Hp)) (this : Nat) (a1 : Int) (a2 : Int) (x3 : Int) (x4 : Int) (σ : Hp) : Option (Int × Hp) :=
  gd (0 ≤ x3 ∧ x3 < (30 : Int)) <|
  lt (hset σ (this + 28) x3.toNat (imax 0 x4)) fun s2 =>
  lt (iadd x3 1) fun y3_3 =>
  k13 (y3_3, s2)
def F_Plan_take_73 (k13 : Int × Hp → Option (Int × Hp)) (this : Nat) (a1 : Int) (a2 : Int) (x3 : Int) (t1 : Int) (σ : Hp) : Option (Int × Hp) :=
  F_Plan_take_75 k13 this a1 a2 x3 t1 σ
def F_Plan_take_48 (k13 : Int × Hp → Option (Int × Hp)) (this : Nat) (a1 : Int) (a2 : Int) (x3 : Int) (t1 : Int) (σ : Hp) : Option (Int × Hp) :=
  (if x3 = a1 then (
    (if a2 = (-1) then (
      F_Plan_take_73 k13 this a1 a2 x3 0 σ
    ) else (
      lt (σ this 7).toNat fun q6 =>
      gd (isNet q6) <|
      cl2 (F_Net_gainWith q6 x3 a2 σ) fun v8 s9 =>
      F_Plan_take_73 k13 this a1 a2 x3 v8 s9
    ))
  ) else (
    F_Plan_take_75 k13 this a1 a2 x3 t1 σ
  ))
def F_Plan_take_95_b (k95 : Int × Hp → Option (Int × Hp)) (this : Nat) (a1 : Int) (a2 : Int) (x3 : Int) (σ : Hp) : Option (Int × Hp) :=
  lt (σ this 7).toNat fun q11 =>
  gd (isNet q11) <|
  (if (σ q11 15) ≤ x3 then (
    cl2 (F_Plan_fillRow this σ) fun v14 s15 =>
    lt (hset s15 this 9 1) fun s17 =>
    lt (hset s17 this 10 1) fun s18 =>
    some (0, s18)
  ) else (
    cl2 (F_Plan_fillBest this x3 σ) fun v19 s20 =>
    lt (iadd x3 1) fun y3_22 =>
    k95 (y3_22, s20)
  ))
def F_Plan_take_95 (this : Nat) (a1 : Int) (a2 : Int) : Nat → Int × Hp → Option (Int × Hp) := loopF (fun k95 a => F_Plan_take_95_b k95 this a1 a2 a.1 a.2)
def F_Plan_take_13_b (k13 : Int × Hp → Option (Int × Hp)) (this : Nat) (a1 : Int) (a2 : Int) (x3 : Int) (σ : Hp) : Option (Int × Hp) :=
  lt (σ this 7).toNat fun q23 =>
  gd (isNet q23) <|
  (if (σ q23 16) ≤ x3 then (
    F_Plan_take_95 this a1 a2 FU (0, σ)
  ) else (
    gd (0 ≤ x3 ∧ x3 < (30 : Int)) <|
    (if (σ 89 x3.toNat) = 0 then (
      F_Plan_take_48 k13 this a1 a2 x3 0 σ
    ) else (
      cl2 (F_View_gainOf x3 σ) fun v28 s29 =>
      F_Plan_take_48 k13 this a1 a2 x3 v28 s29
    ))
  ))
def F_Plan_take_13 (this : Nat) (a1 : Int) (a2 : Int) : Nat → Int × Hp → Option (Int × Hp) := loopF (fun k13 a => F_Plan_take_13_b k13 this a1 a2 a.1 a.2)
def F_Plan_take (this : Nat) (a1 : Int) (a2 : Int) (σ : Hp) : Option (Int × Hp) :=
  gd (isPlan this) <|
  lt (σ 88 2).toNat fun q31 =>
  gd (isNet q31) <|
  lt (hset σ this 7 (Int.ofNat q31)) fun s33 =>
  F_Plan_take_13 this a1 a2 FU (0, s33)
def F_Plan_mostOf_21 (this : Nat) (a1 : Int) (t1 : Int) (σ : Hp) : Option (Int × Hp) :=
  some (t1, σ)
def F_Plan_mostOf_20 (this : Nat) (a1 : Int) (σ : Hp) : Option (Int × Hp) :=
  F_Plan_mostOf_21 this a1 0 σ
def F_Plan_mostOf (this : Nat) (a1 : Int) (σ : Hp) : Option (Int × Hp) :=
  gd (isPlan this) <|
  (if a1 < 0 then (
    F_Plan_mostOf_20 this a1 σ
  ) else (
    (if 4096 ≤ a1 then (
      F_Plan_mostOf_20 this a1 σ
    ) else (
      gd (0 ≤ a1 ∧ a1 < (4096 : Int)) <|
      F_Plan_mostOf_21 this a1 (σ (this + 27) a1.toNat) σ
    ))
  ))
def F_Deals_leastAway_64 (k22 : Int × Int × Int × Hp → Option (Int × Hp)) (x2 : Int) (x3 : Int) (x4 : Int) (σ : Hp) : Option (Int × Hp) :=
  lt (iadd x4 1) fun y4_1 =>
  k22 (x2, x3, y4_1, σ)
def F_Deals_leastAway_22_b (k2 : Int × Hp → Option (Int × Hp)) (k22 : Int × Int × Int × Hp → Option (Int × Hp)) (x2 : Int) (x3 : Int) (x4 : Int) (σ : Hp) : Option (Int × Hp) :=
  lt (σ 173 6).toNat fun q2 =>
  gd (isNet q2) <|
  (if (σ q2 15) ≤ x4 then (
    (if x3 ≤ 0 then (
      lt (iadd x2 1) fun y2_6 =>
      k2 (y2_6, σ)
    ) else (
      some (x2, σ)
    ))
  ) else (
    (if (iand (ishr x2 x4) 1) = 0 then (
      F_Deals_leastAway_64 k22 x2 x3 x4 σ
    ) else (
      lt (σ 173 6).toNat fun q8 =>
      gd (isNet q8) <|
      gd (0 ≤ x4 ∧ x4 < (12 : Int)) <|
      gd (0 ≤ x4 ∧ x4 < (12 : Int)) <|
      lt (iadd x3 (isub (σ (q8 + 2) x4.toNat) (σ 177 x4.toNat))) fun y3_12 =>
      F_Deals_leastAway_64 k22 x2 y3_12 x4 σ
    ))
  ))
def F_Deals_leastAway_22 (k2 : Int × Hp → Option (Int × Hp)) : Nat → Int × Int × Int × Hp → Option (Int × Hp) := loopF (fun k22 a => F_Deals_leastAway_22_b k2 k22 a.1 a.2.1 a.2.2.1 a.2.2.2)
def F_Deals_leastAway_2_b (k2 : Int × Hp → Option (Int × Hp)) (x2 : Int) (σ : Hp) : Option (Int × Hp) :=
  lt (σ 173 6).toNat fun q13 =>
  gd (isNet q13) <|
  cl2 (F_Net_everybody q13 σ) fun v15 s16 =>
  (if v15 < x2 then (
    some (0, s16)
  ) else (
    cl2 (F_Plan_mostOf 112 x2 s16) fun v19 s20 =>
    F_Deals_leastAway_22 k2 FU (x2, v19, 0, s20)
  ))
def F_Deals_leastAway_2 : Nat → Int × Hp → Option (Int × Hp) := loopF (fun k2 a => F_Deals_leastAway_2_b k2 a.1 a.2)
def F_Deals_leastAway (σ : Hp) : Option (Int × Hp) :=
  F_Deals_leastAway_2 FU (1, σ)
def F_Deals_firstLone_2_b (k2 : Int × Hp → Option (Int × Hp)) (x1 : Int) (σ : Hp) : Option (Int × Hp) :=
  lt (σ 173 6).toNat fun q1 =>
  gd (isNet q1) <|
  (if (σ q1 15) ≤ x1 then (
    some ((-1), σ)
  ) else (
    gd (0 ≤ x1 ∧ x1 < (12 : Int)) <|
    lt (σ 173 6).toNat fun q5 =>
    gd (isNet q5) <|
    gd (0 ≤ x1 ∧ x1 < (12 : Int)) <|
    (if (σ (q5 + 2) x1.toNat) ≤ (σ 177 x1.toNat) then (
      lt (iadd x1 1) fun y1_9 =>
      k2 (y1_9, σ)
    ) else (
      some (x1, σ)
    ))
  ))
def F_Deals_firstLone_2 : Nat → Int × Hp → Option (Int × Hp) := loopF (fun k2 a => F_Deals_firstLone_2_b k2 a.1 a.2)
def F_Deals_firstLone (σ : Hp) : Option (Int × Hp) :=
  F_Deals_firstLone_2 FU (0, σ)
def F_Deals_firstShort_108 (k2 : Int × Hp → Option (Int × Hp)) (a1 : Int) (x2 : Int) (σ : Hp) : Option (Int × Hp) :=
  lt (iadd x2 1) fun y2_1 =>
  k2 (y2_1, σ)
def F_Deals_firstShort_61 (k2 : Int × Hp → Option (Int × Hp)) (a1 : Int) (x2 : Int) (x3 : Int) (x4 : Int) (t1 : Int) (σ : Hp) : Option (Int × Hp) :=
  gd (0 ≤ x2 ∧ x2 < (30 : Int)) <|
  (if (σ 89 x2.toNat) = 0 then (
    F_Deals_firstShort_108 k2 a1 x2 σ
  ) else (
    (if t1 = 0 then (
      gd (0 ≤ x3 ∧ x3 < (12 : Int)) <|
      lt (σ 173 6).toNat fun q6 =>
      gd (isNet q6) <|
      gd (0 ≤ x2 ∧ x2 < (30 : Int)) <|
      gd (0 ≤ (σ (q6 + 4) x2.toNat) ∧ (σ (q6 + 4) x2.toNat) < (12 : Int)) <|
      (if x4 ≤ (iadd (σ 177 x3.toNat) (σ 177 (σ (q6 + 4) x2.toNat).toNat)) then (
        F_Deals_firstShort_108 k2 a1 x2 σ
      ) else (
        some (x2, σ)
      ))
    ) else (
      F_Deals_firstShort_108 k2 a1 x2 σ
    ))
  ))
def F_Deals_firstShort_2_b (k2 : Int × Hp → Option (Int × Hp)) (a1 : Int) (x2 : Int) (σ : Hp) : Option (Int × Hp) :=
  lt (σ 173 6).toNat fun q11 =>
  gd (isNet q11) <|
  (if (σ q11 16) ≤ x2 then (
    some ((-1), σ)
  ) else (
    lt (σ 173 6).toNat fun q14 =>
    gd (isNet q14) <|
    gd (0 ≤ x2 ∧ x2 < (30 : Int)) <|
    lt (σ (q14 + 3) x2.toNat) fun y3_17 =>
    gd (0 ≤ x2 ∧ x2 < (30 : Int)) <|
    lt (σ 173 6).toNat fun q19 =>
    gd (isNet q19) <|
    gd (0 ≤ x2 ∧ x2 < (30 : Int)) <|
    lt (iadd (σ 90 x2.toNat) (imul a1 (σ (q19 + 5) x2.toNat))) fun y4_22 =>
    gd (0 ≤ y3_17 ∧ y3_17 < (12 : Int)) <|
    (if (σ 176 y3_17.toNat) = x2 then (
      F_Deals_firstShort_61 k2 a1 x2 y3_17 y4_22 1 σ
    ) else (
      F_Deals_firstShort_61 k2 a1 x2 y3_17 y4_22 0 σ
    ))
  ))
def F_Deals_firstShort_2 (a1 : Int) : Nat → Int × Hp → Option (Int × Hp) := loopF (fun k2 a => F_Deals_firstShort_2_b k2 a1 a.1 a.2)
def F_Deals_firstShort (a1 : Int) (σ : Hp) : Option (Int × Hp) :=
  F_Deals_firstShort_2 a1 FU (0, σ)
def F_Deals_offer_39 (a1 : Int) (a2 : Int) (σ : Hp) : Option (Int × Hp) :=
  some ((-2000000000), σ)
def F_Deals_offer (a1 : Int) (a2 : Int) (σ : Hp) : Option (Int × Hp) :=
  lt (σ 173 6).toNat fun q1 =>
  gd (isNet q1) <|
  gd (0 ≤ a1 ∧ a1 < (12 : Int)) <|
  gd (0 ≤ a2 ∧ a2 < (12 : Int)) <|
  lt (σ ((q1 + 9) + 1 + a1.toNat) a2.toNat) fun y3_5 =>
  (if y3_5 = (-1) then (
    F_Deals_offer_39 a1 a2 σ
  ) else (
    gd (0 ≤ a1 ∧ a1 < (12 : Int)) <|
    (if y3_5 = (σ 176 a1.toNat) then (
      F_Deals_offer_39 a1 a2 σ
    ) else (
      gd (0 ≤ y3_5 ∧ y3_5 < (30 : Int)) <|
      (if (σ 89 y3_5.toNat) = 0 then (
        F_Deals_offer_39 a1 a2 σ
      ) else (
        gd (0 ≤ y3_5 ∧ y3_5 < (30 : Int)) <|
        gd (0 ≤ a2 ∧ a2 < (12 : Int)) <|
        some (isub (σ 90 y3_5.toNat) (σ 177 a2.toNat), σ)
      ))
    ))
  ))
def F_Deals_turnsTo_48 (k15 : Int × Int × Int × Hp → Option (Int × Hp)) (a1 : Int) (x2 : Int) (x3 : Int) (x4 : Int) (σ : Hp) : Option (Int × Hp) :=
  lt (iadd x4 1) fun y4_1 =>
  k15 (x2, x3, y4_1, σ)
def F_Deals_turnsTo_15_b (k15 : Int × Int × Int × Hp → Option (Int × Hp)) (a1 : Int) (x2 : Int) (x3 : Int) (x4 : Int) (σ : Hp) : Option (Int × Hp) :=
  lt (σ 173 6).toNat fun q2 =>
  gd (isNet q2) <|
  (if (σ q2 15) ≤ x4 then (
    some (x2, σ)
  ) else (
    cl2 (F_Deals_offer a1 x4 σ) fun v5 s6 =>
    (if v5 ≤ x3 then (
      F_Deals_turnsTo_48 k15 a1 x2 x3 x4 s6
    ) else (
      F_Deals_turnsTo_48 k15 a1 x4 v5 x4 s6
    ))
  ))
def F_Deals_turnsTo_15 (a1 : Int) : Nat → Int × Int × Int × Hp → Option (Int × Hp) := loopF (fun k15 a => F_Deals_turnsTo_15_b k15 a1 a.1 a.2.1 a.2.2.1 a.2.2.2)
def F_Deals_turnsTo (a1 : Int) (σ : Hp) : Option (Int × Hp) :=
  lt (σ 173 6).toNat fun q9 =>
  gd (isNet q9) <|
  gd (0 ≤ a1 ∧ a1 < (12 : Int)) <|
  lt (σ (q9 + 2) a1.toNat) fun y3_12 =>
  F_Deals_turnsTo_15 a1 FU ((-1), y3_12, 0, σ)
def F_Deals_chainOf_51 (a1 : Int) (a2 : Int) (σ : Hp) : Option (Int × Hp) :=
  some ((-1), σ)
def F_Deals_chainOf_76 (a1 : Int) (a2 : Int) (t1 : Int) (σ : Hp) : Option (Int × Hp) :=
  some (t1, σ)
def F_Deals_chainOf_59 (a1 : Int) (a2 : Int) (x4 : Int) (σ : Hp) : Option (Int × Hp) :=
  lt (σ 173 6).toNat fun q1 =>
  gd (isNet q1) <|
  (if (σ q1 15) ≤ a2 then (
    F_Deals_chainOf_76 a1 a2 (-1) σ
  ) else (
    F_Deals_chainOf_76 a1 a2 x4 σ
  ))
def F_Deals_chainOf_8_b (k8 : Int × Int × Int × Hp → Option (Int × Hp)) (a1 : Int) (a2 : Int) (x3 : Int) (x4 : Int) (x5 : Int) (σ : Hp) : Option (Int × Hp) :=
  (if a2 ≤ x5 then (
    F_Deals_chainOf_59 a1 a2 x4 σ
  ) else (
    (if 12 ≤ x5 then (
      F_Deals_chainOf_59 a1 a2 x4 σ
    ) else (
      lt (ior x3 (ishl 1 x4)) fun y3_6 =>
      cl2 (F_Deals_turnsTo x4 σ) fun v7 s8 =>
      (if v7 = (-1) then (
        F_Deals_chainOf_51 a1 a2 s8
      ) else (
        (if (iand (ishr y3_6 v7) 1) = 0 then (
          lt (iadd x5 1) fun y5_12 =>
          k8 (y3_6, v7, y5_12, s8)
        ) else (
          F_Deals_chainOf_51 a1 a2 s8
        ))
      ))
    ))
  ))
def F_Deals_chainOf_8 (a1 : Int) (a2 : Int) : Nat → Int × Int × Int × Hp → Option (Int × Hp) := loopF (fun k8 a => F_Deals_chainOf_8_b k8 a1 a2 a.1 a.2.1 a.2.2.1 a.2.2.2)
def F_Deals_chainOf (a1 : Int) (a2 : Int) (σ : Hp) : Option (Int × Hp) :=
  F_Deals_chainOf_8 a1 a2 FU (0, a1, 0, σ)
def F_Deals_put_26 (a1 : Int) (a2 : Int) (σ : Hp) : Option (Int × Hp) :=
  gd (0 ≤ a1 ∧ a1 < (30 : Int)) <|
  lt (hset σ 175 a1.toNat a2) fun s2 =>
  some (0, s2)
def F_Deals_put (a1 : Int) (a2 : Int) (σ : Hp) : Option (Int × Hp) :=
  gd (0 ≤ a1 ∧ a1 < (30 : Int)) <|
  (if (σ 174 a1.toNat) = 0 then (
    gd (0 ≤ a1 ∧ a1 < (30 : Int)) <|
    lt (hset σ 174 a1.toNat (z1 1)) fun s6 =>
    lt (hset s6 173 2 (iadd (s6 173 2) 1)) fun s7 =>
    F_Deals_put_26 a1 a2 s7
  ) else (
    F_Deals_put_26 a1 a2 σ
  ))
def F_Deals_tell_42 (k6 : Int × Int × Hp → Option (Int × Hp)) (a1 : Nat) (a2 : Int) (a3 : Int) (x4 : Int) (x5 : Int) (σ : Hp) : Option (Int × Hp) :=
  lt (iadd x5 1) fun y5_1 =>
  k6 (x4, y5_1, σ)
def F_Deals_tell_6_b (k6 : Int × Int × Hp → Option (Int × Hp)) (a1 : Nat) (a2 : Int) (a3 : Int) (x4 : Int) (x5 : Int) (σ : Hp) : Option (Int × Hp) :=
  (if (σ a1 16) ≤ x5 then (
    cl2 (F_Net_pairOf a1 a2 σ) fun v3 s4 =>
    (if (iand x4 v3) = 0 then (
      cl2 (F_Deals_put a2 a3 s4) fun v7 s8 =>
      some (1, s8)
    ) else (
      some (0, s4)
    ))
  ) else (
    gd (0 ≤ x5 ∧ x5 < (30 : Int)) <|
    (if (σ 174 x5.toNat) = 0 then (
      F_Deals_tell_42 k6 a1 a2 a3 x4 x5 σ
    ) else (
      (if x5 = a2 then (
        F_Deals_tell_42 k6 a1 a2 a3 x4 x5 σ
      ) else (
        cl2 (F_Net_pairOf a1 x5 σ) fun v13 s14 =>
        lt (ior x4 v13) fun y4_16 =>
        F_Deals_tell_42 k6 a1 a2 a3 y4_16 x5 s14
      ))
    ))
  ))
def F_Deals_tell_6 (a1 : Nat) (a2 : Int) (a3 : Int) : Nat → Int × Int × Hp → Option (Int × Hp) := loopF (fun k6 a => F_Deals_tell_6_b k6 a1 a2 a3 a.1 a.2.1 a.2.2)
def F_Deals_tell (a1 : Nat) (a2 : Int) (a3 : Int) (σ : Hp) : Option (Int × Hp) :=
  gd (isNet a1) <|
  F_Deals_tell_6 a1 a2 a3 FU (0, 0, σ)
def F_Deals_clear_2_b (k2 : Int × Hp → Option (Int × Hp)) (x1 : Int) (σ : Hp) : Option (Int × Hp) :=
  (if 30 ≤ x1 then (
    lt (hset σ 173 2 0) fun s2 =>
    some (0, s2)
  ) else (
    gd (0 ≤ x1 ∧ x1 < (30 : Int)) <|
    lt (hset σ 174 x1.toNat (z1 0)) fun s4 =>
    lt (iadd x1 1) fun y1_5 =>
    k2 (y1_5, s4)
  ))
def F_Deals_clear_2 : Nat → Int × Hp → Option (Int × Hp) := loopF (fun k2 a => F_Deals_clear_2_b k2 a.1 a.2)
def F_Deals_clear (σ : Hp) : Option (Int × Hp) :=
  F_Deals_clear_2 FU (0, σ)
def F_Plan_twiceWithHalves_87 (this : Nat) (σ : Hp) : Option (Int × Hp) :=
  some (σ this 8, σ)
def F_Plan_twiceWithHalves_23_b (k23 : Int × Hp → Option (Int × Hp)) (this : Nat) (x1 : Int) (σ : Hp) : Option (Int × Hp) :=
  lt (σ this 7).toNat fun q1 =>
  gd (isNet q1) <|
  (if (σ q1 16) ≤ x1 then (
    cl2 (F_Mat_greatest  σ) fun v4 s5 =>
    lt (hset s5 this 8 v4) fun s7 =>
    lt (hset s7 this 9 0) fun s8 =>
    F_Plan_twiceWithHalves_87 this s8
  ) else (
    lt (σ this 7).toNat fun q9 =>
    gd (isNet q9) <|
    gd (0 ≤ x1 ∧ x1 < (30 : Int)) <|
    lt (σ this 7).toNat fun q12 =>
    gd (isNet q12) <|
    gd (0 ≤ x1 ∧ x1 < (30 : Int)) <|
    gd (0 ≤ x1 ∧ x1 < (30 : Int)) <|
    cl2 (F_Mat_weigh (σ (q9 + 3) x1.toNat) (σ (q12 + 4) x1.toNat) (σ (this + 28) x1.toNat) σ) fun v16 s17 =>
    lt (iadd x1 1) fun y1_19 =>
    k23 (y1_19, s17)
  ))
def F_Plan_twiceWithHalves_23 (this : Nat) : Nat → Int × Hp → Option (Int × Hp) := loopF (fun k23 a => F_Plan_twiceWithHalves_23_b k23 this a.1 a.2)
def F_Plan_twiceWithHalves (this : Nat) (σ : Hp) : Option (Int × Hp) :=
  gd (isPlan this) <|
  (if (σ this 9) = 0 then (
    F_Plan_twiceWithHalves_87 this σ
  ) else (
    lt (σ this 7).toNat fun q21 =>
    gd (isNet q21) <|
    cl2 (F_Mat_begin (σ q21 15) σ) fun v23 s24 =>
    F_Plan_twiceWithHalves_23 this FU (0, s24)
  ))
def F_Plan_hasEnds_26 (this : Nat) (t1 : Int) (σ : Hp) : Option (Int × Hp) :=
  gd (t1 = 0 ∨ t1 = 1) <|
  some (t1, σ)
def F_Plan_hasEnds (this : Nat) (σ : Hp) : Option (Int × Hp) :=
  gd (isPlan this) <|
  lt (σ this 7).toNat fun q2 =>
  gd (isNet q2) <|
  cl2 (F_Net_everybody q2 σ) fun v4 s5 =>
  gd (0 ≤ v4 ∧ v4 < (4096 : Int)) <|
  cl2 (F_Plan_twiceWithHalves this s5) fun v8 s9 =>
  (if (imul 2 (s5 (this + 27) v4.toNat)) = v8 then (
    F_Plan_hasEnds_26 this 1 s9
  ) else (
    F_Plan_hasEnds_26 this 0 s9
  ))
def F_Plan_freshBounds_83 (k32 : Int × Int × Hp → Option (Int × Hp)) (this : Nat) (x1 : Int) (x2 : Int) (σ : Hp) : Option (Int × Hp) :=
  lt (iadd x2 1) fun y2_1 =>
  k32 (x1, y2_1, σ)
def F_Plan_freshBounds_196 (k169 : Int × Int × Hp → Option (Int × Hp)) (this : Nat) (x1 : Int) (x2 : Int) (σ : Hp) : Option (Int × Hp) :=
  lt (iadd x2 1) fun y2_2 =>
  k169 (x1, y2_2, σ)
def F_Plan_freshBounds_169_b (k169 : Int × Int × Hp → Option (Int × Hp)) (this : Nat) (x1 : Int) (x2 : Int) (σ : Hp) : Option (Int × Hp) :=
  lt (σ this 7).toNat fun q3 =>
  gd (isNet q3) <|
  (if (σ q3 15) ≤ x2 then (
    cl2 (F_Bounds_close (this + 1) σ) fun v6 s7 =>
    lt (hset s7 this 10 0) fun s9 =>
    some (0, s9)
  ) else (
    (if (iand (ishr x1 x2) 1) = 0 then (
      F_Plan_freshBounds_196 k169 this x1 x2 σ
    ) else (
      cl2 (F_Bounds_nothingFor (this + 1) x2 σ) fun v11 s12 =>
      F_Plan_freshBounds_196 k169 this x1 x2 s12
    ))
  ))
def F_Plan_freshBounds_169 (this : Nat) : Nat → Int × Int × Hp → Option (Int × Hp) := loopF (fun k169 a => F_Plan_freshBounds_169_b k169 this a.1 a.2.1 a.2.2)
def F_Plan_freshBounds_91_b (k91 : Int × Int × Hp → Option (Int × Hp)) (this : Nat) (x1 : Int) (x2 : Int) (σ : Hp) : Option (Int × Hp) :=
  (if (σ this 6) ≤ x2 then (
    F_Plan_freshBounds_169 this FU (x1, 0, σ)
  ) else (
    lt (σ this 7).toNat fun q15 =>
    gd (isNet q15) <|
    gd (0 ≤ x2 ∧ x2 < (6 : Int)) <|
    gd (0 ≤ (σ (this + 29) x2.toNat) ∧ (σ (this + 29) x2.toNat) < (30 : Int)) <|
    lt (σ this 7).toNat fun q19 =>
    gd (isNet q19) <|
    gd (0 ≤ x2 ∧ x2 < (6 : Int)) <|
    gd (0 ≤ (σ (this + 29) x2.toNat) ∧ (σ (this + 29) x2.toNat) < (30 : Int)) <|
    gd (0 ≤ x2 ∧ x2 < (6 : Int)) <|
    gd (0 ≤ (σ (this + 29) x2.toNat) ∧ (σ (this + 29) x2.toNat) < (30 : Int)) <|
    cl2 (F_Bounds_atMost (this + 1) (σ (q15 + 3) (σ (this + 29) x2.toNat).toNat) (σ (q19 + 4) (σ (this + 29) x2.toNat).toNat) (σ (this + 28) (σ (this + 29) x2.toNat).toNat) σ) fun v25 s26 =>
    lt (s26 this 7).toNat fun q28 =>
    gd (isNet q28) <|
    gd (0 ≤ x2 ∧ x2 < (6 : Int)) <|
    cl2 (F_Net_pairOf q28 (s26 (this + 29) x2.toNat) s26) fun v31 s32 =>
    lt (isub x1 v31) fun y1_34 =>
    lt (iadd x2 1) fun y2_35 =>
    k91 (y1_34, y2_35, s32)
  ))
def F_Plan_freshBounds_91 (this : Nat) : Nat → Int × Int × Hp → Option (Int × Hp) := loopF (fun k91 a => F_Plan_freshBounds_91_b k91 this a.1 a.2.1 a.2.2)
def F_Plan_freshBounds_32_b (k32 : Int × Int × Hp → Option (Int × Hp)) (this : Nat) (x1 : Int) (x2 : Int) (σ : Hp) : Option (Int × Hp) :=
  lt (σ this 7).toNat fun q36 =>
  gd (isNet q36) <|
  (if (σ q36 16) ≤ x2 then (
    F_Plan_freshBounds_91 this FU (x1, 0, σ)
  ) else (
    gd (0 ≤ x2 ∧ x2 < (30 : Int)) <|
    (if (σ (this + 28) x2.toNat) ≤ 0 then (
      F_Plan_freshBounds_83 k32 this x1 x2 σ
    ) else (
      lt (σ this 7).toNat fun q41 =>
      gd (isNet q41) <|
      gd (0 ≤ x2 ∧ x2 < (30 : Int)) <|
      lt (σ this 7).toNat fun q44 =>
      gd (isNet q44) <|
      gd (0 ≤ x2 ∧ x2 < (30 : Int)) <|
      gd (0 ≤ x2 ∧ x2 < (30 : Int)) <|
      cl2 (F_Bounds_atLeast (this + 1) (σ (q41 + 3) x2.toNat) (σ (q44 + 4) x2.toNat) (σ (this + 28) x2.toNat) σ) fun v48 s49 =>
      F_Plan_freshBounds_83 k32 this x1 x2 s49
    ))
  ))
def F_Plan_freshBounds_32 (this : Nat) : Nat → Int × Int × Hp → Option (Int × Hp) := loopF (fun k32 a => F_Plan_freshBounds_32_b k32 this a.1 a.2.1 a.2.2)
def F_Plan_freshBounds (this : Nat) (σ : Hp) : Option (Int × Hp) :=
  gd (isPlan this) <|
  (if (σ this 10) = 0 then (
    some (0, σ)
  ) else (
    lt (σ this 7).toNat fun q52 =>
    gd (isNet q52) <|
    cl2 (F_Bounds_begin (this + 1) (σ q52 15) σ) fun v54 s55 =>
    lt (s55 this 7).toNat fun q57 =>
    gd (isNet q57) <|
    cl2 (F_Net_everybody q57 s55) fun v59 s60 =>
    F_Plan_freshBounds_32 this FU (v59, 0, s60)
  ))
def F_Plan_endOf_27 (this : Nat) (a1 : Int) (a2 : Int) (t1 : Int) (σ : Hp) : Option (Int × Hp) :=
  lt (σ this 7).toNat fun q1 =>
  gd (isNet q1) <|
  gd (0 ≤ a1 ∧ a1 < (12 : Int)) <|
  some (iadd (imul 2 (σ (q1 + 2) a1.toNat)) t1, σ)
def F_Plan_endOf (this : Nat) (a1 : Int) (a2 : Int) (σ : Hp) : Option (Int × Hp) :=
  gd (isPlan this) <|
  cl2 (F_Plan_freshBounds this σ) fun v4 s5 =>
  (if a2 = 0 then (
    cl2 (F_Bounds_twiceLeast (this + 1) a1 s5) fun v8 s9 =>
    F_Plan_endOf_27 this a1 a2 v8 s9
  ) else (
    cl2 (F_Bounds_twiceMost (this + 1) a1 s5) fun v11 s12 =>
    F_Plan_endOf_27 this a1 a2 v11 s12
  ))
def F_Deals_withAlone (a1 : Int) (σ : Hp) : Option (Int × Hp) :=
  lt (σ 173 6).toNat fun q1 =>
  gd (isNet q1) <|
  gd (0 ≤ a1 ∧ a1 < (12 : Int)) <|
  gd (0 ≤ a1 ∧ a1 < (12 : Int)) <|
  some (imax (σ (q1 + 2) a1.toNat) (σ 177 a1.toNat), σ)
def F_Deals_twiceGift_121 (k49 : Int × Int × Hp → Option (Int × Hp)) (x2 : Int) (x3 : Int) (x4 : Int) (x5 : Int) (t1 : Int) (σ : Hp) : Option (Int × Hp) :=
  cl2 (F_Mat_weigh x4 x5 (imax 0 t1) σ) fun v1 s2 =>
  lt (iadd x3 1) fun y3_4 =>
  k49 (x2, y3_4, s2)
def F_Deals_twiceGift_49_b (k49 : Int × Int × Hp → Option (Int × Hp)) (x2 : Int) (x3 : Int) (σ : Hp) : Option (Int × Hp) :=
  lt (σ 173 6).toNat fun q5 =>
  gd (isNet q5) <|
  (if (σ q5 16) ≤ x3 then (
    cl2 (F_Mat_greatest  σ) fun v8 s9 =>
    some (iadd (imul 2 x2) v8, s9)
  ) else (
    lt (σ 173 6).toNat fun q11 =>
    gd (isNet q11) <|
    gd (0 ≤ x3 ∧ x3 < (30 : Int)) <|
    lt (σ (q11 + 3) x3.toNat) fun y4_14 =>
    lt (σ 173 6).toNat fun q15 =>
    gd (isNet q15) <|
    gd (0 ≤ x3 ∧ x3 < (30 : Int)) <|
    lt (σ (q15 + 4) x3.toNat) fun y5_18 =>
    gd (0 ≤ x3 ∧ x3 < (30 : Int)) <|
    (if (σ 89 x3.toNat) = 0 then (
      F_Deals_twiceGift_121 k49 x2 x3 y4_14 y5_18 0 σ
    ) else (
      gd (0 ≤ x3 ∧ x3 < (30 : Int)) <|
      cl2 (F_Deals_withAlone y4_14 σ) fun v22 s23 =>
      cl2 (F_Deals_withAlone y5_18 s23) fun v25 s26 =>
      F_Deals_twiceGift_121 k49 x2 x3 y4_14 y5_18 (isub (isub (σ 90 x3.toNat) v22) v25) s26
    ))
  ))
def F_Deals_twiceGift_49 : Nat → Int × Int × Hp → Option (Int × Hp) := loopF (fun k49 a => F_Deals_twiceGift_49_b k49 a.1 a.2.1 a.2.2)
def F_Deals_twiceGift_15_b (k15 : Int × Int × Hp → Option (Int × Hp)) (x2 : Int) (x3 : Int) (σ : Hp) : Option (Int × Hp) :=
  lt (σ 173 6).toNat fun q28 =>
  gd (isNet q28) <|
  (if (σ q28 15) ≤ x3 then (
    F_Deals_twiceGift_49 FU (x2, 0, σ)
  ) else (
    cl2 (F_Deals_withAlone x3 σ) fun v31 s32 =>
    gd (0 ≤ x3 ∧ x3 < (12 : Int)) <|
    lt (iadd x2 (isub v31 (s32 177 x3.toNat))) fun y2_35 =>
    lt (iadd x3 1) fun y3_36 =>
    k15 (y2_35, y3_36, s32)
  ))
def F_Deals_twiceGift_15 : Nat → Int × Int × Hp → Option (Int × Hp) := loopF (fun k15 a => F_Deals_twiceGift_15_b k15 a.1 a.2.1 a.2.2)
def F_Deals_twiceGift (σ : Hp) : Option (Int × Hp) :=
  lt (σ 173 6).toNat fun q37 =>
  gd (isNet q37) <|
  cl2 (F_Mat_begin (σ q37 15) σ) fun v39 s40 =>
  F_Deals_twiceGift_15 FU (0, 0, s40)
def F_Deals_keep_2_b (k2 : Int × Hp → Option (Int × Hp)) (a1 : Int) (x2 : Int) (σ : Hp) : Option (Int × Hp) :=
  (if (σ 173 8) ≤ x2 then (
    some (0, σ)
  ) else (
    gd (0 ≤ x2 ∧ x2 < (6 : Int)) <|
    gd (0 ≤ (σ 178 x2.toNat) ∧ (σ 178 x2.toNat) < (30 : Int)) <|
    gd (0 ≤ (iadd (imul a1 6) x2) ∧ (iadd (imul a1 6) x2) < (6006 : Int)) <|
    lt (hset σ 179 (iadd (imul a1 6) x2).toNat (σ 175 (σ 178 x2.toNat).toNat)) fun s5 =>
    lt (iadd x2 1) fun y2_6 =>
    k2 (y2_6, s5)
  ))
def F_Deals_keep_2 (a1 : Int) : Nat → Int × Hp → Option (Int × Hp) := loopF (fun k2 a => F_Deals_keep_2_b k2 a1 a.1 a.2)
def F_Deals_keep (a1 : Int) (σ : Hp) : Option (Int × Hp) :=
  F_Deals_keep_2 a1 FU (0, σ)
def F_Deals_elseOf_12_b (k12 : Int × Int × Hp → Option (Int × Hp)) (a1 : Int) (x2 : Int) (x3 : Int) (σ : Hp) : Option (Int × Hp) :=
  lt (σ 173 6).toNat fun q1 =>
  gd (isNet q1) <|
  (if (σ q1 15) ≤ x3 then (
    some (x2, σ)
  ) else (
    cl2 (F_Deals_offer a1 x3 σ) fun v4 s5 =>
    lt (imax x2 v4) fun y2_7 =>
    lt (iadd x3 1) fun y3_8 =>
    k12 (y2_7, y3_8, s5)
  ))
def F_Deals_elseOf_12 (a1 : Int) : Nat → Int × Int × Hp → Option (Int × Hp) := loopF (fun k12 a => F_Deals_elseOf_12_b k12 a1 a.1 a.2.1 a.2.2)
def F_Deals_elseOf (a1 : Int) (σ : Hp) : Option (Int × Hp) :=
  lt (σ 173 6).toNat fun q9 =>
  gd (isNet q9) <|
  gd (0 ≤ a1 ∧ a1 < (12 : Int)) <|
  lt (σ (q9 + 2) a1.toNat) fun y2_12 =>
  F_Deals_elseOf_12 a1 FU (y2_12, 0, σ)
def F_Deals_evenFirst (a1 : Int) (σ : Hp) : Option (Int × Hp) :=
  lt (σ 173 6).toNat fun q1 =>
  gd (isNet q1) <|
  gd (0 ≤ a1 ∧ a1 < (30 : Int)) <|
  cl2 (F_Deals_elseOf (σ (q1 + 3) a1.toNat) σ) fun v4 s5 =>
  gd (0 ≤ a1 ∧ a1 < (30 : Int)) <|
  lt (s5 173 6).toNat fun q8 =>
  gd (isNet q8) <|
  gd (0 ≤ a1 ∧ a1 < (30 : Int)) <|
  cl2 (F_Deals_elseOf (s5 (q8 + 4) a1.toNat) s5) fun v11 s12 =>
  lt (isub (isub (s5 90 a1.toNat) v4) v11) fun y3_14 =>
  cl2 (F_J_floorDiv_7cf53 shC y3_14 2 s12) fun v15 s16 =>
  some (iadd v4 v15, s16)
def F_Deals_turnRound_2_b (k2 : Int × Hp → Option (Int × Hp)) (x1 : Int) (σ : Hp) : Option (Int × Hp) :=
  (if (σ 173 8) ≤ x1 then (
    some (0, σ)
  ) else (
    gd (0 ≤ x1 ∧ x1 < (6 : Int)) <|
    lt (σ 178 x1.toNat) fun y2_3 =>
    cl2 (F_Deals_evenFirst y2_3 σ) fun v4 s5 =>
    gd (0 ≤ y2_3 ∧ y2_3 < (30 : Int)) <|
    lt (hset s5 175 y2_3.toNat (imin (imax v4 (-1000000)) 1000000)) fun s8 =>
    gd (0 ≤ y2_3 ∧ y2_3 < (30 : Int)) <|
    cl2 (F_Deals_part y2_3 (s8 175 y2_3.toNat) s8) fun v10 s11 =>
    lt (iadd x1 1) fun y1_13 =>
    k2 (y1_13, s11)
  ))
def F_Deals_turnRound_2 : Nat → Int × Hp → Option (Int × Hp) := loopF (fun k2 a => F_Deals_turnRound_2_b k2 a.1 a.2)
def F_Deals_turnRound (σ : Hp) : Option (Int × Hp) :=
  F_Deals_turnRound_2 FU (0, σ)
def F_Deals_isAsBehind_2_b (k2 : Int × Hp → Option (Int × Hp)) (a1 : Int) (x2 : Int) (σ : Hp) : Option (Int × Hp) :=
  (if (σ 173 8) ≤ x2 then (
    some (1, σ)
  ) else (
    gd (0 ≤ (iadd (imul a1 6) x2) ∧ (iadd (imul a1 6) x2) < (6006 : Int)) <|
    gd (0 ≤ x2 ∧ x2 < (6 : Int)) <|
    gd (0 ≤ (σ 178 x2.toNat) ∧ (σ 178 x2.toNat) < (30 : Int)) <|
    (if (σ 179 (iadd (imul a1 6) x2).toNat) = (σ 175 (σ 178 x2.toNat).toNat) then (
      lt (iadd x2 1) fun y2_6 =>
      k2 (y2_6, σ)
    ) else (
      some (0, σ)
    ))
  ))
def F_Deals_isAsBehind_2 (a1 : Int) : Nat → Int × Hp → Option (Int × Hp) := loopF (fun k2 a => F_Deals_isAsBehind_2_b k2 a1 a.1 a.2)
def F_Deals_isAsBehind (a1 : Int) (σ : Hp) : Option (Int × Hp) :=
  F_Deals_isAsBehind_2 a1 FU (0, σ)
def F_Deals_turnRounds_49_b (k7 : Int × Hp → Option (Int × Hp)) (k49 : Int × Int × Hp → Option (Int × Hp)) (a1 : Int) (x2 : Int) (x3 : Int) (σ : Hp) : Option (Int × Hp) :=
  (if x3 < 0 then (
    cl2 (F_Deals_keep x2 σ) fun v2 s3 =>
    lt (iadd x2 1) fun y2_5 =>
    k7 (y2_5, s3)
  ) else (
    cl2 (F_Deals_isAsBehind x3 σ) fun v6 s7 =>
    (if v6 = 0 then (
      lt (iadd x3 (-1)) fun y3_10 =>
      k49 (x2, y3_10, s7)
    ) else (
      lt (hset s7 173 10 1) fun s11 =>
      some (x2, s11)
    ))
  ))
def F_Deals_turnRounds_49 (k7 : Int × Hp → Option (Int × Hp)) (a1 : Int) : Nat → Int × Int × Hp → Option (Int × Hp) := loopF (fun k49 a => F_Deals_turnRounds_49_b k7 k49 a1 a.1 a.2.1 a.2.2)
def F_Deals_turnRounds_85 (a1 : Int) (σ : Hp) : Option (Int × Hp) :=
  some (a1, σ)
def F_Deals_turnRounds_7_b (k7 : Int × Hp → Option (Int × Hp)) (a1 : Int) (x2 : Int) (σ : Hp) : Option (Int × Hp) :=
  (if a1 < x2 then (
    F_Deals_turnRounds_85 a1 σ
  ) else (
    (if 1000 < x2 then (
      F_Deals_turnRounds_85 a1 σ
    ) else (
      cl2 (F_Deals_turnRound  σ) fun v14 s15 =>
      lt (hset s15 173 10 2) fun s17 =>
      cl2 (F_Deals_isAsBehind (isub x2 1) s17) fun v18 s19 =>
      (if v18 = 0 then (
        lt (isub x2 2) fun y3_22 =>
        F_Deals_turnRounds_49 k7 a1 FU (x2, y3_22, s19)
      ) else (
        lt (hset s19 173 10 0) fun s23 =>
        some (x2, s23)
      ))
    ))
  ))
def F_Deals_turnRounds_7 (a1 : Int) : Nat → Int × Hp → Option (Int × Hp) := loopF (fun k7 a => F_Deals_turnRounds_7_b k7 a1 a.1 a.2)
def F_Deals_turnRounds (a1 : Int) (σ : Hp) : Option (Int × Hp) :=
  cl2 (F_Deals_keep 0 σ) fun v24 s25 =>
  F_Deals_turnRounds_7 a1 FU (1, s25)
def F_Img_write_85 (k31 : Int × Hp → Option (Int × Hp)) (a1 : Nat) (a2 : Int) (x4 : Int) (σ : Hp) : Option (Int × Hp) :=
  lt (iadd x4 1) fun y4_1 =>
  k31 (y4_1, σ)
def F_Img_write_31_b (k31 : Int × Hp → Option (Int × Hp)) (a1 : Nat) (a2 : Int) (x4 : Int) (σ : Hp) : Option (Int × Hp) :=
  (if (σ a1 16) ≤ x4 then (
    cl2 (F_Bytes_size 181 σ) fun v3 s4 =>
    cl2 (F_Bytes_checkOf 181 v3 s4) fun v6 s7 =>
    cl2 (F_Bytes_putTwo 181 v6 s7) fun v9 s10 =>
    cl2 (F_Bytes_size 181 s10) fun v12 s13 =>
    some (v12, s13)
  ) else (
    gd (0 ≤ x4 ∧ x4 < (30 : Int)) <|
    (if (σ 174 x4.toNat) = 0 then (
      cl2 (F_Bytes_put 181 255 σ) fun v17 s18 =>
      F_Img_write_85 k31 a1 a2 x4 s18
    ) else (
      cl2 (F_Bytes_put 181 1 σ) fun v20 s21 =>
      gd (0 ≤ x4 ∧ x4 < (30 : Int)) <|
      cl2 (F_Bytes_putNumber 181 (s21 175 x4.toNat) s21) fun v24 s25 =>
      F_Img_write_85 k31 a1 a2 x4 s25
    ))
  ))
def F_Img_write_31 (a1 : Nat) (a2 : Int) : Nat → Int × Hp → Option (Int × Hp) := loopF (fun k31 a => F_Img_write_31_b k31 a1 a2 a.1 a.2)
def F_Img_write (a1 : Nat) (a2 : Int) (σ : Hp) : Option (Int × Hp) :=
  gd (isNet a1) <|
  cl2 (F_Bytes_cut 181 0 σ) fun v27 s28 =>
  cl2 (F_Bytes_put 181 (s28 a1 16) s28) fun v30 s31 =>
  cl2 (F_Bytes_putTwo 181 a2 s31) fun v33 s34 =>
  F_Img_write_31 a1 a2 FU (0, s34)
def F_Deals_moneyOf (a1 : Int) (σ : Hp) : Option (Int × Hp) :=
  gd (0 ≤ a1 ∧ a1 < (12 : Int)) <|
  lt (σ 176 a1.toNat) fun y2_2 =>
  (if y2_2 = (-1) then (
    gd (0 ≤ a1 ∧ a1 < (12 : Int)) <|
    some (σ 177 a1.toNat, σ)
  ) else (
    lt (σ 173 6).toNat fun q4 =>
    gd (isNet q4) <|
    gd (0 ≤ y2_2 ∧ y2_2 < (30 : Int)) <|
    lt (σ 173 6).toNat fun q7 =>
    gd (isNet q7) <|
    gd (0 ≤ y2_2 ∧ y2_2 < (30 : Int)) <|
    lt (isub (iadd (σ (q4 + 3) y2_2.toNat) (σ (q7 + 4) y2_2.toNat)) a1) fun y3_10 =>
    gd (0 ≤ a1 ∧ a1 < (12 : Int)) <|
    lt (σ 173 6).toNat fun q12 =>
    gd (isNet q12) <|
    gd (0 ≤ a1 ∧ a1 < (12 : Int)) <|
    gd (0 ≤ y3_10 ∧ y3_10 < (12 : Int)) <|
    some (isub (σ 177 a1.toNat) (σ ((q12 + 22) + 1 + a1.toNat) y3_10.toNat), σ)
  ))
def F_Img_readDeals_117 (a2 : Nat) (σ : Hp) : Option (Int × Hp) :=
  some ((-1), σ)
def F_Img_readDeals_161 (k8 : Int × Int × Int × Hp → Option (Int × Hp)) (a2 : Nat) (x3 : Int) (x4 : Int) (x5 : Int) (σ : Hp) : Option (Int × Hp) :=
  lt (iadd x5 1) fun y5_1 =>
  k8 (x3, x4, y5_1, σ)
def F_Img_readDeals_86 (k8 : Int × Int × Int × Hp → Option (Int × Hp)) (a2 : Nat) (x3 : Int) (x4 : Int) (x5 : Int) (t1 : Int) (σ : Hp) : Option (Int × Hp) :=
  (if t1 = 0 then (
    F_Img_readDeals_117 a2 σ
  ) else (
    gd (0 ≤ x5 ∧ x5 < (30 : Int)) <|
    (if (σ 184 x5.toNat) < (-1000000) then (
      F_Img_readDeals_117 a2 σ
    ) else (
      gd (0 ≤ x5 ∧ x5 < (30 : Int)) <|
      (if (σ 184 x5.toNat) ≤ 1000000 then (
        cl2 (F_Net_pairOf a2 x5 σ) fun v7 s8 =>
        lt (ior x4 v7) fun y4_10 =>
        lt (iadd x3 5) fun y3_11 =>
        F_Img_readDeals_161 k8 a2 y3_11 y4_10 x5 s8
      ) else (
        F_Img_readDeals_117 a2 σ
      ))
    ))
  ))
def F_Img_readDeals_44 (k8 : Int × Int × Int × Hp → Option (Int × Hp)) (a2 : Nat) (x3 : Int) (x4 : Int) (x5 : Int) (t3 : Int) (t2 : Int) (σ : Hp) : Option (Int × Hp) :=
  gd (0 ≤ t2 ∧ t2 < (30 : Int)) <|
  lt (hset σ 183 t2.toNat (z1 t3)) fun s13 =>
  gd (0 ≤ x5 ∧ x5 < (30 : Int)) <|
  (if (s13 183 x5.toNat) = 0 then (
    (if (s13 a2 16) ≤ x5 then (
      F_Img_readDeals_161 k8 a2 x3 x4 x5 s13
    ) else (
      cl2 (F_Bytes_at 1 x3 s13) fun v17 s18 =>
      (if v17 = 255 then (
        lt (iadd x3 1) fun y3_21 =>
        F_Img_readDeals_161 k8 a2 y3_21 x4 x5 s18
      ) else (
        some ((-1), s18)
      ))
    ))
  ) else (
    cl2 (F_Bytes_numberAt 1 (iadd x3 1) s13) fun v22 s23 =>
    gd (0 ≤ x5 ∧ x5 < (30 : Int)) <|
    lt (hset s23 184 x5.toNat v22) fun s26 =>
    cl2 (F_Net_pairOf a2 x5 s26) fun v27 s28 =>
    (if (iand x4 v27) = 0 then (
      F_Img_readDeals_86 k8 a2 x3 x4 x5 1 s28
    ) else (
      F_Img_readDeals_86 k8 a2 x3 x4 x5 0 s28
    ))
  ))
def F_Img_readDeals_43 (k8 : Int × Int × Int × Hp → Option (Int × Hp)) (a2 : Nat) (x3 : Int) (x4 : Int) (x5 : Int) (t2 : Int) (σ : Hp) : Option (Int × Hp) :=
  F_Img_readDeals_44 k8 a2 x3 x4 x5 0 t2 σ
def F_Img_readDeals_8_b (k8 : Int × Int × Int × Hp → Option (Int × Hp)) (a2 : Nat) (x3 : Int) (x4 : Int) (x5 : Int) (σ : Hp) : Option (Int × Hp) :=
  (if 30 ≤ x5 then (
    some (x3, σ)
  ) else (
    (if (σ a2 16) ≤ x5 then (
      F_Img_readDeals_43 k8 a2 x3 x4 x5 x5 σ
    ) else (
      cl2 (F_Bytes_at 1 x3 σ) fun v33 s34 =>
      (if v33 = 1 then (
        F_Img_readDeals_44 k8 a2 x3 x4 x5 1 x5 s34
      ) else (
        F_Img_readDeals_43 k8 a2 x3 x4 x5 x5 s34
      ))
    ))
  ))
def F_Img_readDeals_8 (a2 : Nat) : Nat → Int × Int × Int × Hp → Option (Int × Hp) := loopF (fun k8 a => F_Img_readDeals_8_b k8 a2 a.1 a.2.1 a.2.2.1 a.2.2.2)
def F_Img_readDeals (a2 : Nat) (σ : Hp) : Option (Int × Hp) :=
  gd (isNet a2) <|
  F_Img_readDeals_8 a2 FU (3, 0, 0, σ)
def F_Img_read_20 (a2 : Nat) (σ : Hp) : Option (Int × Hp) :=
  some (0, σ)
def F_Img_read_81 (a2 : Nat) (t1 : Int) (σ : Hp) : Option (Int × Hp) :=
  gd (t1 = 0 ∨ t1 = 1) <|
  some (t1, σ)
def F_Img_read_80 (a2 : Nat) (σ : Hp) : Option (Int × Hp) :=
  F_Img_read_81 a2 0 σ
def F_Img_read (a2 : Nat) (σ : Hp) : Option (Int × Hp) :=
  gd (isNet a2) <|
  cl2 (F_Bytes_at 1 0 σ) fun v2 s3 =>
  (if v2 = (s3 a2 16) then (
    cl2 (F_Bytes_size 1 s3) fun v6 s7 =>
    (if 5 ≤ v6 then (
      cl2 (F_Bytes_twoAt 1 1 s7) fun v10 s11 =>
      lt (hset s11 180 3 v10) fun s13 =>
      cl2 (F_Img_readDeals a2 s13) fun v14 s15 =>
      (if 999 < (s15 180 3) then (
        F_Img_read_80 a2 s15
      ) else (
        (if v14 = (-1) then (
          F_Img_read_80 a2 s15
        ) else (
          cl2 (F_Bytes_size 1 s15) fun v19 s20 =>
          (if v19 = (iadd v14 2) then (
            cl2 (F_Bytes_twoAt 1 v14 s20) fun v23 s24 =>
            cl2 (F_Bytes_checkOf 1 v14 s24) fun v26 s27 =>
            (if v23 = v26 then (
              F_Img_read_81 a2 1 s27
            ) else (
              F_Img_read_80 a2 s27
            ))
          ) else (
            F_Img_read_80 a2 s20
          ))
        ))
      ))
    ) else (
      F_Img_read_20 a2 s7
    ))
  ) else (
    F_Img_read_20 a2 s3
  ))
def F_Deals_become_26 (k6 : Int × Hp → Option (Int × Hp)) (x3 : Int) (σ : Hp) : Option (Int × Hp) :=
  lt (iadd x3 1) fun y3_1 =>
  k6 (y3_1, σ)
def F_Deals_become_6_b (k6 : Int × Hp → Option (Int × Hp)) (x3 : Int) (σ : Hp) : Option (Int × Hp) :=
  (if 30 ≤ x3 then (
    some (0, σ)
  ) else (
    gd (0 ≤ x3 ∧ x3 < (30 : Int)) <|
    (if (σ 183 x3.toNat) = 0 then (
      F_Deals_become_26 k6 x3 σ
    ) else (
      gd (0 ≤ x3 ∧ x3 < (30 : Int)) <|
      cl2 (F_Deals_put x3 (σ 184 x3.toNat) σ) fun v6 s7 =>
      F_Deals_become_26 k6 x3 s7
    ))
  ))
def F_Deals_become_6 : Nat → Int × Hp → Option (Int × Hp) := loopF (fun k6 a => F_Deals_become_6_b k6 a.1 a.2)
def F_Deals_become (σ : Hp) : Option (Int × Hp) :=
  cl2 (F_Deals_clear  σ) fun v9 s10 =>
  F_Deals_become_6 FU (0, s10)
def F_Plan_aheadEnd_30 (this : Nat) (a1 : Int) (a2 : Int) (a3 : Int) (t1 : Int) (σ : Hp) : Option (Int × Hp) :=
  lt (σ this 7).toNat fun q1 =>
  gd (isNet q1) <|
  gd (0 ≤ a1 ∧ a1 < (12 : Int)) <|
  lt (σ this 7).toNat fun q4 =>
  gd (isNet q4) <|
  gd (0 ≤ a2 ∧ a2 < (12 : Int)) <|
  some (iadd (imul 2 (isub (σ (q1 + 2) a1.toNat) (σ (q4 + 2) a2.toNat))) t1, σ)
def F_Plan_aheadEnd (this : Nat) (a1 : Int) (a2 : Int) (a3 : Int) (σ : Hp) : Option (Int × Hp) :=
  gd (isPlan this) <|
  cl2 (F_Plan_freshBounds this σ) fun v7 s8 =>
  (if a3 = 0 then (
    cl2 (F_Bounds_twiceMostAhead (this + 1) a2 a1 s8) fun v11 s12 =>
    F_Plan_aheadEnd_30 this a1 a2 a3 (ineg v11) s12
  ) else (
    cl2 (F_Bounds_twiceMostAhead (this + 1) a1 a2 s8) fun v14 s15 =>
    F_Plan_aheadEnd_30 this a1 a2 a3 v14 s15
  ))
def F_Plan_bothEnd_29 (this : Nat) (a1 : Int) (a2 : Int) (a3 : Int) (t1 : Int) (σ : Hp) : Option (Int × Hp) :=
  lt (σ this 7).toNat fun q1 =>
  gd (isNet q1) <|
  gd (0 ≤ a1 ∧ a1 < (12 : Int)) <|
  lt (σ this 7).toNat fun q4 =>
  gd (isNet q4) <|
  gd (0 ≤ a2 ∧ a2 < (12 : Int)) <|
  some (iadd (imul 2 (iadd (σ (q1 + 2) a1.toNat) (σ (q4 + 2) a2.toNat))) t1, σ)
def F_Plan_bothEnd (this : Nat) (a1 : Int) (a2 : Int) (a3 : Int) (σ : Hp) : Option (Int × Hp) :=
  gd (isPlan this) <|
  cl2 (F_Plan_freshBounds this σ) fun v7 s8 =>
  (if a3 = 0 then (
    cl2 (F_Bounds_twiceLeastSum (this + 1) a1 a2 s8) fun v11 s12 =>
    F_Plan_bothEnd_29 this a1 a2 a3 v11 s12
  ) else (
    cl2 (F_Bounds_twiceMostSum (this + 1) a1 a2 s8) fun v14 s15 =>
    F_Plan_bothEnd_29 this a1 a2 a3 v14 s15
  ))
def F_Deals_drop (a1 : Int) (σ : Hp) : Option (Int × Hp) :=
  gd (0 ≤ a1 ∧ a1 < (30 : Int)) <|
  (if (σ 174 a1.toNat) = 0 then (
    some (0, σ)
  ) else (
    gd (0 ≤ a1 ∧ a1 < (30 : Int)) <|
    lt (hset σ 174 a1.toNat (z1 0)) fun s4 =>
    lt (hset s4 173 2 (isub (s4 173 2) 1)) fun s5 =>
    some (1, s5)
  ))
def F_Deals_firstUneven_2_b (k2 : Int × Hp → Option (Int × Hp)) (x1 : Int) (σ : Hp) : Option (Int × Hp) :=
  (if (σ 173 8) ≤ x1 then (
    some ((-1), σ)
  ) else (
    gd (0 ≤ x1 ∧ x1 < (6 : Int)) <|
    gd (0 ≤ (σ 178 x1.toNat) ∧ (σ 178 x1.toNat) < (30 : Int)) <|
    gd (0 ≤ x1 ∧ x1 < (6 : Int)) <|
    cl2 (F_Deals_evenFirst (σ 178 x1.toNat) σ) fun v5 s6 =>
    (if (σ 175 (σ 178 x1.toNat).toNat) = v5 then (
      lt (iadd x1 1) fun y1_9 =>
      k2 (y1_9, s6)
    ) else (
      gd (0 ≤ x1 ∧ x1 < (6 : Int)) <|
      some (s6 178 x1.toNat, s6)
    ))
  ))
def F_Deals_firstUneven_2 : Nat → Int × Hp → Option (Int × Hp) := loopF (fun k2 a => F_Deals_firstUneven_2_b k2 a.1 a.2)
def F_Deals_firstUneven (σ : Hp) : Option (Int × Hp) :=
  F_Deals_firstUneven_2 FU (0, σ)
def F_Plan_addWays_88 (k21 : Int × Int × Int × Hp → Option (Int × Hp)) (this : Nat) (a2 : Int) (a3 : Int) (x4 : Int) (x5 : Int) (x6 : Int) (σ : Hp) : Option (Int × Hp) :=
  lt (iadd x6 1) fun y6_1 =>
  k21 (x4, x5, y6_1, σ)
def F_Plan_addWays_94 (this : Nat) (a2 : Int) (a3 : Int) (σ : Hp) : Option (Int × Hp) :=
  some (0, σ)
def F_Plan_addWays_21_b (k21 : Int × Int × Int × Hp → Option (Int × Hp)) (this : Nat) (a2 : Int) (a3 : Int) (x4 : Int) (x5 : Int) (x6 : Int) (σ : Hp) : Option (Int × Hp) :=
  (if x4 ≤ 0 then (
    F_Plan_addWays_94 this a2 a3 σ
  ) else (
    (if (ishl 2 a3) ≤ x6 then (
      F_Plan_addWays_94 this a2 a3 σ
    ) else (
      (if (iand x6 x5) = x5 then (
        gd (0 ≤ (isub x6 x5) ∧ (isub x6 x5) < (4096 : Int)) <|
        gd (0 ≤ x6 ∧ x6 < (4096 : Int)) <|
        (if (iadd (σ (this + 27) (isub x6 x5).toNat) x4) = (σ (this + 27) x6.toNat) then (
          gd (0 ≤ x6 ∧ x6 < (4096 : Int)) <|
          gd (0 ≤ (isub x6 x5) ∧ (isub x6 x5) < (4096 : Int)) <|
          gd (0 ≤ x6 ∧ x6 < (4096 : Int)) <|
          lt (hset σ 172 x6.toNat (imin 1000000000 (iadd (σ 172 x6.toNat) (σ 172 (isub x6 x5).toNat)))) fun s11 =>
          F_Plan_addWays_88 k21 this a2 a3 x4 x5 x6 s11
        ) else (
          F_Plan_addWays_88 k21 this a2 a3 x4 x5 x6 σ
        ))
      ) else (
        F_Plan_addWays_88 k21 this a2 a3 x4 x5 x6 σ
      ))
    ))
  ))
def F_Plan_addWays_21 (this : Nat) (a2 : Int) (a3 : Int) : Nat → Int × Int × Int × Hp → Option (Int × Hp) := loopF (fun k21 a => F_Plan_addWays_21_b k21 this a2 a3 a.1 a.2.1 a.2.2.1 a.2.2.2)
def F_Plan_addWays (this : Nat) (a2 : Int) (a3 : Int) (σ : Hp) : Option (Int × Hp) :=
  gd (isPlan this) <|
  cl2 (F_Plan_gainOfTwo this a2 a3 σ) fun v12 s13 =>
  lt (ior (ishl 1 a3) (ishl 1 a2)) fun y5_15 =>
  F_Plan_addWays_21 this a2 a3 FU (v12, y5_15, y5_15, s13)
def F_Plan_countWays_64 (k24 : Int × Int × Int × Hp → Option (Int × Hp)) (this : Nat) (x2 : Int) (x3 : Int) (x4 : Int) (t3 : Int) (t2 : Int) (σ : Hp) : Option (Int × Hp) :=
  gd (0 ≤ t2 ∧ t2 < (4096 : Int)) <|
  lt (hset σ 172 t2.toNat t3) fun s2 =>
  lt (iadd x4 1) fun y4_3 =>
  k24 (x2, x3, y4_3, s2)
def F_Plan_countWays_74_b (k6 : Int × Hp → Option (Int × Hp)) (k74 : Int × Int × Hp → Option (Int × Hp)) (this : Nat) (x2 : Int) (x4 : Int) (σ : Hp) : Option (Int × Hp) :=
  (if x2 ≤ x4 then (
    lt (iadd x2 1) fun y2_5 =>
    k6 (y2_5, σ)
  ) else (
    cl2 (F_Plan_addWays this x4 x2 σ) fun v6 s7 =>
    lt (iadd x4 1) fun y4_9 =>
    k74 (x2, y4_9, s7)
  ))
def F_Plan_countWays_74 (k6 : Int × Hp → Option (Int × Hp)) (this : Nat) : Nat → Int × Int × Hp → Option (Int × Hp) := loopF (fun k74 a => F_Plan_countWays_74_b k6 k74 this a.1 a.2.1 a.2.2)
def F_Plan_countWays_24_b (k6 : Int × Hp → Option (Int × Hp)) (k24 : Int × Int × Int × Hp → Option (Int × Hp)) (this : Nat) (x2 : Int) (x3 : Int) (x4 : Int) (σ : Hp) : Option (Int × Hp) :=
  (if (imul 2 x3) ≤ x4 then (
    F_Plan_countWays_74 k6 this FU (x2, 0, σ)
  ) else (
    gd (0 ≤ (isub x4 x3) ∧ (isub x4 x3) < (4096 : Int)) <|
    gd (0 ≤ x4 ∧ x4 < (4096 : Int)) <|
    (if (σ (this + 27) (isub x4 x3).toNat) = (σ (this + 27) x4.toNat) then (
      gd (0 ≤ (isub x4 x3) ∧ (isub x4 x3) < (4096 : Int)) <|
      F_Plan_countWays_64 k24 this x2 x3 x4 (σ 172 (isub x4 x3).toNat) x4 σ
    ) else (
      F_Plan_countWays_64 k24 this x2 x3 x4 0 x4 σ
    ))
  ))
def F_Plan_countWays_24 (k6 : Int × Hp → Option (Int × Hp)) (this : Nat) : Nat → Int × Int × Int × Hp → Option (Int × Hp) := loopF (fun k24 a => F_Plan_countWays_24_b k6 k24 this a.1 a.2.1 a.2.2.1 a.2.2.2)
def F_Plan_countWays_6_b (k6 : Int × Hp → Option (Int × Hp)) (this : Nat) (x2 : Int) (σ : Hp) : Option (Int × Hp) :=
  lt (σ this 7).toNat fun q15 =>
  gd (isNet q15) <|
  (if (σ q15 15) ≤ x2 then (
    lt (σ this 7).toNat fun q18 =>
    gd (isNet q18) <|
    cl2 (F_Net_everybody q18 σ) fun v20 s21 =>
    gd (0 ≤ v20 ∧ v20 < (4096 : Int)) <|
    some (s21 172 v20.toNat, s21)
  ) else (
    lt (ishl 1 x2) fun y3_24 =>
    F_Plan_countWays_24 k6 this FU (x2, y3_24, y3_24, σ)
  ))
def F_Plan_countWays_6 (this : Nat) : Nat → Int × Hp → Option (Int × Hp) := loopF (fun k6 a => F_Plan_countWays_6_b k6 this a.1 a.2)
def F_Plan_countWays (this : Nat) (σ : Hp) : Option (Int × Hp) :=
  gd (isPlan this) <|
  lt (hset σ 172 0 1) fun s25 =>
  F_Plan_countWays_6 this FU (0, s25)
def F_RD_lookAgain_34 (t4 : Int) (t2 : Nat) (σ : Hp) : Option (Int × Hp) :=
  cl2 (F_View_look t2 t4 (σ 0 11) σ) fun v1 s2 =>
  lt (hset s2 0 16 1) fun s4 =>
  some (0, s4)
def F_RD_lookAgain (σ : Hp) : Option (Int × Hp) :=
  lt (σ 0 3).toNat fun q5 =>
  gd (isNet q5) <|
  (if (σ 0 12) = (-1) then (
    F_RD_lookAgain_34 (σ 46 3) q5 σ
  ) else (
    F_RD_lookAgain_34 (σ 0 12) q5 σ
  ))
def F_RD_annul (a1 : Int) (σ : Hp) : Option (Int × Hp) :=
  cl2 (F_Acts_annulled a1 σ) fun v1 s2 =>
  cl2 (F_RD_lookAgain  s2) fun v4 s5 =>
  some (v1, s5)
def F_RD_as_16 (a1 : Int) (σ : Hp) : Option (Int × Hp) :=
  some (0, σ)
def F_RD_as (a1 : Int) (σ : Hp) : Option (Int × Hp) :=
  (if a1 < (-1) then (
    F_RD_as_16 a1 σ
  ) else (
    (if a1 ≤ (σ 46 3) then (
      lt (hset σ 0 12 a1) fun s3 =>
      cl2 (F_RD_lookAgain  s3) fun v4 s5 =>
      some (1, s5)
    ) else (
      F_RD_as_16 a1 σ
    ))
  ))
def F_RD_dealsNow (σ : Hp) : Option (Int × Hp) :=
  cl2 (F_Deals_settle  σ) fun v1 s2 =>
  some (Int.ofNat 173, s2)
def F_RD_planNow_21 (σ : Hp) : Option (Int × Hp) :=
  some (Int.ofNat 112, σ)
def F_RD_planNow (σ : Hp) : Option (Int × Hp) :=
  (if (σ 0 16) = 0 then (
    F_RD_planNow_21 σ
  ) else (
    cl2 (F_Plan_take 112 (-1) (-1) σ) fun v2 s3 =>
    lt (hset s3 0 16 0) fun s5 =>
    F_RD_planNow_21 s5
  ))
def F_RD_away (σ : Hp) : Option (Int × Hp) :=
  cl2 (F_RD_dealsNow  σ) fun v1 s2 =>
  gd (v1.toNat = 173) <|
  cl2 (F_RD_planNow  s2) fun v5 s6 =>
  gd (v5.toNat = 112) <|
  cl2 (F_Deals_leastAway  s6) fun v9 s10 =>
  some (v9, s10)
def F_RD_breaks_28 (t1 : Int) (σ : Hp) : Option (Int × Hp) :=
  some (t1, σ)
def F_RD_breaks (σ : Hp) : Option (Int × Hp) :=
  cl2 (F_RD_dealsNow  σ) fun v1 s2 =>
  gd (v1.toNat = 173) <|
  cl2 (F_Deals_firstLone  s2) fun v5 s6 =>
  (if v5 = (-1) then (
    cl2 (F_Deals_firstShort 0 s6) fun v9 s10 =>
    F_RD_breaks_28 v9 s10
  ) else (
    F_RD_breaks_28 (iadd 100 v5) s6
  ))
def F_RD_isSomebody_20 (a1 : Int) (t1 : Int) (σ : Hp) : Option (Int × Hp) :=
  gd (t1 = 0 ∨ t1 = 1) <|
  some (t1, σ)
def F_RD_isSomebody_19 (a1 : Int) (σ : Hp) : Option (Int × Hp) :=
  F_RD_isSomebody_20 a1 0 σ
def F_RD_isSomebody (a1 : Int) (σ : Hp) : Option (Int × Hp) :=
  (if a1 < 0 then (
    F_RD_isSomebody_19 a1 σ
  ) else (
    lt (σ 0 3).toNat fun q3 =>
    gd (isNet q3) <|
    (if (σ q3 15) ≤ a1 then (
      F_RD_isSomebody_19 a1 σ
    ) else (
      F_RD_isSomebody_20 a1 1 σ
    ))
  ))
def F_RD_chain_25 (a1 : Int) (a2 : Int) (t1 : Int) (σ : Hp) : Option (Int × Hp) :=
  some (t1, σ)
def F_RD_chain_24 (a1 : Int) (a2 : Int) (σ : Hp) : Option (Int × Hp) :=
  F_RD_chain_25 a1 a2 (-1) σ
def F_RD_chain (a1 : Int) (a2 : Int) (σ : Hp) : Option (Int × Hp) :=
  cl2 (F_RD_isSomebody a1 σ) fun v1 s2 =>
  (if v1 = 0 then (
    F_RD_chain_24 a1 a2 s2
  ) else (
    (if a2 < 0 then (
      F_RD_chain_24 a1 a2 s2
    ) else (
      cl2 (F_RD_dealsNow  s2) fun v6 s7 =>
      gd (v6.toNat = 173) <|
      cl2 (F_Deals_chainOf a1 a2 s7) fun v10 s11 =>
      F_RD_chain_25 a1 a2 v10 s11
    ))
  ))
def F_RD_day_11 (a1 : Int) (σ : Hp) : Option (Int × Hp) :=
  some (0, σ)
def F_RD_day (a1 : Int) (σ : Hp) : Option (Int × Hp) :=
  (if a1 < 0 then (
    F_RD_day_11 a1 σ
  ) else (
    (if a1 ≤ 999 then (
      lt (hset σ 0 11 a1) fun s3 =>
      cl2 (F_RD_lookAgain  s3) fun v4 s5 =>
      some (1, s5)
    ) else (
      F_RD_day_11 a1 σ
    ))
  ))
def F_RD_isRoad_20 (a1 : Int) (t1 : Int) (σ : Hp) : Option (Int × Hp) :=
  gd (t1 = 0 ∨ t1 = 1) <|
  some (t1, σ)
def F_RD_isRoad_19 (a1 : Int) (σ : Hp) : Option (Int × Hp) :=
  F_RD_isRoad_20 a1 0 σ
def F_RD_isRoad (a1 : Int) (σ : Hp) : Option (Int × Hp) :=
  (if a1 < 0 then (
    F_RD_isRoad_19 a1 σ
  ) else (
    lt (σ 0 3).toNat fun q3 =>
    gd (isNet q3) <|
    (if (σ q3 16) ≤ a1 then (
      F_RD_isRoad_19 a1 σ
    ) else (
      F_RD_isRoad_20 a1 1 σ
    ))
  ))
def F_RD_deal_34 (a1 : Int) (a2 : Int) (σ : Hp) : Option (Int × Hp) :=
  some ((-1), σ)
def F_RD_deal_63 (a1 : Int) (a2 : Int) (t1 : Int) (σ : Hp) : Option (Int × Hp) :=
  some (t1, σ)
def F_RD_deal (a1 : Int) (a2 : Int) (σ : Hp) : Option (Int × Hp) :=
  cl2 (F_RD_isRoad a1 σ) fun v1 s2 =>
  (if v1 = 0 then (
    F_RD_deal_34 a1 a2 s2
  ) else (
    (if a2 < (-1000000) then (
      F_RD_deal_34 a1 a2 s2
    ) else (
      (if 1000000 < a2 then (
        F_RD_deal_34 a1 a2 s2
      ) else (
        gd (0 ≤ a1 ∧ a1 < (30 : Int)) <|
        (if (s2 89 a1.toNat) = 0 then (
          F_RD_deal_34 a1 a2 s2
        ) else (
          lt (s2 0 3).toNat fun q9 =>
          gd (isNet q9) <|
          cl2 (F_Deals_tell q9 a1 a2 s2) fun v11 s12 =>
          (if v11 = 0 then (
            F_RD_deal_63 a1 a2 (-1) s12
          ) else (
            F_RD_deal_63 a1 a2 (s12 173 2) s12
          ))
        ))
      ))
    ))
  ))
def F_RD_dealRow_14_b (k14 : Int × Hp → Option (Int × Hp)) (x2 : Int) (σ : Hp) : Option (Int × Hp) :=
  (if (σ 112 6) ≤ x2 then (
    some (σ 173 2, σ)
  ) else (
    gd (0 ≤ x2 ∧ x2 < (6 : Int)) <|
    lt (σ 141 x2.toNat) fun y3_3 =>
    lt (σ 0 3).toNat fun q4 =>
    gd (isNet q4) <|
    lt (σ 0 3).toNat fun q6 =>
    gd (isNet q6) <|
    lt (σ 0 3).toNat fun q8 =>
    gd (isNet q8) <|
    gd (0 ≤ y3_3 ∧ y3_3 < (30 : Int)) <|
    gd (0 ≤ (σ (q8 + 3) y3_3.toNat) ∧ (σ (q8 + 3) y3_3.toNat) < (12 : Int)) <|
    gd (0 ≤ y3_3 ∧ y3_3 < (30 : Int)) <|
    cl2 (F_Deals_tell q4 y3_3 (iadd (σ (q6 + 2) (σ (q8 + 3) y3_3.toNat).toNat) (idiv (σ 140 y3_3.toNat) 2)) σ) fun v13 s14 =>
    lt (iadd x2 1) fun y2_16 =>
    k14 (y2_16, s14)
  ))
def F_RD_dealRow_14 : Nat → Int × Hp → Option (Int × Hp) := loopF (fun k14 a => F_RD_dealRow_14_b k14 a.1 a.2)
def F_RD_dealRow (σ : Hp) : Option (Int × Hp) :=
  cl2 (F_RD_planNow  σ) fun v17 s18 =>
  gd (v17.toNat = 112) <|
  cl2 (F_Deals_clear  s18) fun v21 s22 =>
  F_RD_dealRow_14 FU (0, s22)
def F_RD_end (a1 : Int) (σ : Hp) : Option (Int × Hp) :=
  cl2 (F_Bytes_cut 1 a1 σ) fun v1 s2 =>
  gd (v1 = 0 ∨ v1 = 1) <|
  some (v1, s2)
def F_RD_end__30 (a1 : Int) (a2 : Int) (t1 : Int) (σ : Hp) : Option (Int × Hp) :=
  some (t1, σ)
def F_RD_end__29 (a1 : Int) (a2 : Int) (σ : Hp) : Option (Int × Hp) :=
  F_RD_end__30 a1 a2 (-1) σ
def F_RD_end_ (a1 : Int) (a2 : Int) (σ : Hp) : Option (Int × Hp) :=
  cl2 (F_RD_planNow  σ) fun v1 s2 =>
  gd (v1.toNat = 112) <|
  cl2 (F_RD_isSomebody a1 s2) fun v5 s6 =>
  (if v5 = 0 then (
    F_RD_end__29 a1 a2 s6
  ) else (
    cl2 (F_Plan_hasEnds 112 s6) fun v9 s10 =>
    (if v9 = 0 then (
      F_RD_end__29 a1 a2 s10
    ) else (
      cl2 (F_Plan_endOf 112 a1 a2 s10) fun v13 s14 =>
      F_RD_end__30 a1 a2 v13 s14
    ))
  ))
def F_RD_ended (σ : Hp) : Option (Int × Hp) :=
  some (σ 0 15, σ)
def F_RD_fault (a1 : Int) (σ : Hp) : Option (Int × Hp) :=
  (if a1 = 0 then (
    some (σ 0 13, σ)
  ) else (
  (if a1 = 1 then (
    some (σ 0 14, σ)
  ) else (
    some ((-1), σ)
  ))))
def F_RD_feed (a1 : Int) (a2 : Int) (a3 : Int) (a4 : Int) (a5 : Int) (σ : Hp) : Option (Int × Hp) :=
  cl2 (F_Bytes_hasRoom 1 20 σ) fun v1 s2 =>
  (if v1 = 0 then (
    some ((-1), s2)
  ) else (
    cl2 (F_Bytes_putNumber 1 a1 s2) fun v5 s6 =>
    cl2 (F_Bytes_putNumber 1 a2 s6) fun v8 s9 =>
    cl2 (F_Bytes_putNumber 1 a3 s9) fun v11 s12 =>
    cl2 (F_Bytes_putNumber 1 a4 s12) fun v14 s15 =>
    cl2 (F_Bytes_putNumber 1 a5 s15) fun v17 s18 =>
    cl2 (F_Bytes_size 1 s18) fun v20 s21 =>
    some (v20, s21)
  ))
def F_RD_gift (σ : Hp) : Option (Int × Hp) :=
  cl2 (F_RD_dealsNow  σ) fun v1 s2 =>
  gd (v1.toNat = 173) <|
  cl2 (F_Deals_twiceGift  s2) fun v5 s6 =>
  some (v5, s6)
def F_RD_haggle_12 (a1 : Int) (σ : Hp) : Option (Int × Hp) :=
  some ((-1), σ)
def F_RD_haggle_50 (a1 : Int) (t1 : Int) (σ : Hp) : Option (Int × Hp) :=
  some (t1, σ)
def F_RD_haggle (a1 : Int) (σ : Hp) : Option (Int × Hp) :=
  (if a1 < 1 then (
    F_RD_haggle_12 a1 σ
  ) else (
    (if a1 ≤ 1000 then (
      cl2 (F_RD_dealsNow  σ) fun v3 s4 =>
      gd (v3.toNat = 173) <|
      cl2 (F_Deals_turnRounds a1 s4) fun v7 s8 =>
      lt (hset s8 0 15 (s8 173 10)) fun s10 =>
      (if (s10 0 15) = 2 then (
        F_RD_haggle_50 a1 (isub (-2) v7) s10
      ) else (
        F_RD_haggle_50 a1 v7 s10
      ))
    ) else (
      F_RD_haggle_12 a1 σ
    ))
  ))
def F_RD_has_110 (a1 : Int) (t1 : Int) (σ : Hp) : Option (Int × Hp) :=
  some (t1, σ)
def F_RD_has (a1 : Int) (σ : Hp) : Option (Int × Hp) :=
  (if a1 = 0 then (
    lt (σ 0 3).toNat fun q2 =>
    gd (isNet q2) <|
    some (σ q2 15, σ)
  ) else (
  (if a1 = 1 then (
    lt (σ 0 3).toNat fun q5 =>
    gd (isNet q5) <|
    some (σ q5 16, σ)
  ) else (
  (if a1 = 2 then (
    lt (σ 0 3).toNat fun q8 =>
    gd (isNet q8) <|
    some (σ q8 17, σ)
  ) else (
  (if a1 = 3 then (
    lt (σ 0 3).toNat fun q11 =>
    gd (isNet q11) <|
    some (σ q11 18, σ)
  ) else (
  (if a1 = 4 then (
    some (σ 46 3, σ)
  ) else (
  (if a1 = 5 then (
    (if (σ 0 12) = (-1) then (
      F_RD_has_110 a1 (σ 46 3) σ
    ) else (
      F_RD_has_110 a1 (σ 0 12) σ
    ))
  ) else (
  (if a1 = 6 then (
    some (σ 173 2, σ)
  ) else (
  (if a1 = 7 then (
    some (σ 0 11, σ)
  ) else (
    some ((-1), σ)
  ))))))))))))))))
def F_RD_image (σ : Hp) : Option (Int × Hp) :=
  lt (σ 0 3).toNat fun q1 =>
  gd (isNet q1) <|
  cl2 (F_Img_write q1 (σ 0 11) σ) fun v3 s4 =>
  some (v3, s4)
def F_RD_letter_21 (a1 : Int) (a2 : Int) (t1 : Int) (σ : Hp) : Option (Int × Hp) :=
  some (t1, σ)
def F_RD_letter (a1 : Int) (a2 : Int) (σ : Hp) : Option (Int × Hp) :=
  cl2 (F_RD_isSomebody a1 σ) fun v1 s2 =>
  (if v1 = 0 then (
    F_RD_letter_21 a1 a2 (-1) s2
  ) else (
    lt (s2 0 3).toNat fun q5 =>
    gd (isNet q5) <|
    cl2 (F_Net_letterOf q5 a1 a2 s2) fun v7 s8 =>
    F_RD_letter_21 a1 a2 v7 s8
  ))
def F_RD_made_20 (a1 : Int) (a2 : Int) (σ : Hp) : Option (Int × Hp) :=
  some ((-2000000000), σ)
def F_RD_made (a1 : Int) (a2 : Int) (σ : Hp) : Option (Int × Hp) :=
  cl2 (F_RD_isRoad a1 σ) fun v1 s2 =>
  (if v1 = 0 then (
    F_RD_made_20 a1 a2 s2
  ) else (
    gd (0 ≤ a1 ∧ a1 < (30 : Int)) <|
    (if (s2 89 a1.toNat) = 0 then (
      F_RD_made_20 a1 a2 s2
    ) else (
      (if a2 = 0 then (
        gd (0 ≤ a1 ∧ a1 < (30 : Int)) <|
        some (s2 90 a1.toNat, s2)
      ) else (
      (if a2 = 1 then (
        cl2 (F_View_gainOf a1 s2) fun v10 s11 =>
        some (imax 0 v10, s11)
      ) else (
      (if a2 = 2 then (
        lt (s2 0 3).toNat fun q14 =>
        gd (isNet q14) <|
        gd (0 ≤ a1 ∧ a1 < (30 : Int)) <|
        some (s2 (q14 + 5) a1.toNat, s2)
      ) else (
        some ((-2000000000), s2)
      ))))))
    ))
  ))
def F_RD_money_21 (a1 : Int) (t1 : Int) (σ : Hp) : Option (Int × Hp) :=
  some (t1, σ)
def F_RD_money (a1 : Int) (σ : Hp) : Option (Int × Hp) :=
  cl2 (F_RD_isSomebody a1 σ) fun v1 s2 =>
  (if v1 = 0 then (
    F_RD_money_21 a1 (-2000000000) s2
  ) else (
    cl2 (F_RD_dealsNow  s2) fun v5 s6 =>
    gd (v5.toNat = 173) <|
    cl2 (F_Deals_moneyOf a1 s6) fun v9 s10 =>
    F_RD_money_21 a1 v9 s10
  ))
def F_RD_most_27 (a1 : Int) (t1 : Int) (σ : Hp) : Option (Int × Hp) :=
  some (t1, σ)
def F_RD_most (a1 : Int) (σ : Hp) : Option (Int × Hp) :=
  cl2 (F_RD_planNow  σ) fun v1 s2 =>
  gd (v1.toNat = 112) <|
  (if a1 = 0 then (
    lt (s2 0 3).toNat fun q6 =>
    gd (isNet q6) <|
    cl2 (F_Net_everybody q6 s2) fun v8 s9 =>
    cl2 (F_Plan_mostOf 112 v8 s9) fun v11 s12 =>
    F_RD_most_27 a1 v11 s12
  ) else (
    cl2 (F_Plan_twiceWithHalves 112 s2) fun v14 s15 =>
    F_RD_most_27 a1 v14 s15
  ))
def F_RD_movedBetween_51 (k4 : Int × Int × Hp → Option (Int × Hp)) (x2 : Int) (x3 : Int) (σ : Hp) : Option (Int × Hp) :=
  lt (iadd x3 1) fun y3_1 =>
  k4 (x2, y3_1, σ)
def F_RD_movedBetween_45 (k4 : Int × Int × Hp → Option (Int × Hp)) (x2 : Int) (x3 : Int) (σ : Hp) : Option (Int × Hp) :=
  lt (ior x2 (ishl 1 x3)) fun y2_2 =>
  F_RD_movedBetween_51 k4 y2_2 x3 σ
def F_RD_movedBetween_4_b (k4 : Int × Int × Hp → Option (Int × Hp)) (x2 : Int) (x3 : Int) (σ : Hp) : Option (Int × Hp) :=
  lt (σ 112 7).toNat fun q3 =>
  gd (isNet q3) <|
  (if (σ q3 15) ≤ x3 then (
    some (x2, σ)
  ) else (
    cl2 (F_Plan_endOf 112 x3 0 σ) fun v6 s7 =>
    cl2 (F_Plan_endOf 142 x3 0 s7) fun v9 s10 =>
    (if v6 = v9 then (
      cl2 (F_Plan_endOf 112 x3 1 s10) fun v13 s14 =>
      cl2 (F_Plan_endOf 142 x3 1 s14) fun v16 s17 =>
      (if v13 = v16 then (
        F_RD_movedBetween_51 k4 x2 x3 s17
      ) else (
        F_RD_movedBetween_45 k4 x2 x3 s17
      ))
    ) else (
      F_RD_movedBetween_45 k4 x2 x3 s10
    ))
  ))
def F_RD_movedBetween_4 : Nat → Int × Int × Hp → Option (Int × Hp) := loopF (fun k4 a => F_RD_movedBetween_4_b k4 a.1 a.2.1 a.2.2)
def F_RD_movedBetween (σ : Hp) : Option (Int × Hp) :=
  F_RD_movedBetween_4 FU (0, 0, σ)
def F_RD_moves_19 (a1 : Int) (a2 : Int) (σ : Hp) : Option (Int × Hp) :=
  some ((-1), σ)
def F_RD_moves_76 (a1 : Int) (a2 : Int) (t1 : Int) (σ : Hp) : Option (Int × Hp) :=
  some (t1, σ)
def F_RD_moves (a1 : Int) (a2 : Int) (σ : Hp) : Option (Int × Hp) :=
  cl2 (F_RD_isRoad a1 σ) fun v1 s2 =>
  (if v1 = 0 then (
    F_RD_moves_19 a1 a2 s2
  ) else (
    (if a2 < (-1) then (
      F_RD_moves_19 a1 a2 s2
    ) else (
      (if a2 ≤ 100000 then (
        cl2 (F_RD_planNow  s2) fun v7 s8 =>
        gd (v7.toNat = 112) <|
        cl2 (F_Plan_take 142 a1 a2 s8) fun v11 s12 =>
        cl2 (F_Plan_hasEnds 112 s12) fun v14 s15 =>
        cl2 (F_Plan_hasEnds 142 s15) fun v17 s18 =>
        (if v14 = v17 then (
          cl2 (F_Plan_hasEnds 112 s18) fun v21 s22 =>
          (if v21 = 0 then (
            F_RD_moves_76 a1 a2 0 s22
          ) else (
            cl2 (F_RD_movedBetween  s22) fun v25 s26 =>
            F_RD_moves_76 a1 a2 v25 s26
          ))
        ) else (
          lt (s18 0 3).toNat fun q28 =>
          gd (isNet q28) <|
          cl2 (F_Net_everybody q28 s18) fun v30 s31 =>
          some (v30, s31)
        ))
      ) else (
        F_RD_moves_19 a1 a2 s2
      ))
    ))
  ))
def F_RD_octet (a1 : Int) (σ : Hp) : Option (Int × Hp) :=
  cl2 (F_Bytes_at 181 a1 σ) fun v1 s2 =>
  some (v1, s2)
def F_RD_of_27 (a1 : Int) (t1 : Int) (σ : Hp) : Option (Int × Hp) :=
  some (t1, σ)
def F_RD_of_26 (a1 : Int) (σ : Hp) : Option (Int × Hp) :=
  F_RD_of_27 a1 (-1) σ
def F_RD_of (a1 : Int) (σ : Hp) : Option (Int × Hp) :=
  (if a1 < 0 then (
    F_RD_of_26 a1 σ
  ) else (
    lt (σ 0 3).toNat fun q2 =>
    gd (isNet q2) <|
    cl2 (F_Net_everybody q2 σ) fun v4 s5 =>
    (if v4 < a1 then (
      F_RD_of_26 a1 s5
    ) else (
      cl2 (F_RD_planNow  s5) fun v8 s9 =>
      gd (v8.toNat = 112) <|
      cl2 (F_Plan_mostOf 112 a1 s9) fun v12 s13 =>
      F_RD_of_27 a1 v12 s13
    ))
  ))
def F_RD_on (σ : Hp) : Option (Int × Hp) :=
  lt (σ 0 3).toNat fun q1 =>
  gd (isNet q1) <|
  cl2 (F_Img_read q1 σ) fun v3 s4 =>
  cl2 (F_Bytes_cut 1 0 s4) fun v6 s7 =>
  (if v3 = 0 then (
    some (0, s7)
  ) else (
    lt (hset s7 0 11 (s7 180 3)) fun s10 =>
    cl2 (F_Deals_become  s10) fun v11 s12 =>
    cl2 (F_RD_lookAgain  s12) fun v14 s15 =>
    some (1, s15)
  ))
def F_RD_other_34 (a1 : Int) (a2 : Int) (t1 : Int) (σ : Hp) : Option (Int × Hp) :=
  some (t1, σ)
def F_RD_other (a1 : Int) (a2 : Int) (σ : Hp) : Option (Int × Hp) :=
  cl2 (F_RD_isSomebody a1 σ) fun v1 s2 =>
  (if v1 = 0 then (
    some ((-2000000000), s2)
  ) else (
    (if a2 = 0 then (
      cl2 (F_RD_dealsNow  s2) fun v6 s7 =>
      gd (v6.toNat = 173) <|
      cl2 (F_Deals_elseOf a1 s7) fun v10 s11 =>
      F_RD_other_34 a1 a2 v10 s11
    ) else (
      cl2 (F_RD_dealsNow  s2) fun v13 s14 =>
      gd (v13.toNat = 173) <|
      cl2 (F_Deals_turnsTo a1 s14) fun v17 s18 =>
      F_RD_other_34 a1 a2 v17 s18
    ))
  ))
def F_RD_pays_41 (a1 : Int) (σ : Hp) : Option (Int × Hp) :=
  some (0, σ)
def F_RD_pays_87 (k48 : Int × Int × Hp → Option (Int × Hp)) (a1 : Int) (x3 : Int) (x4 : Int) (σ : Hp) : Option (Int × Hp) :=
  lt (iadd x4 1) fun y4_1 =>
  k48 (x3, y4_1, σ)
def F_RD_pays_48_b (k48 : Int × Int × Hp → Option (Int × Hp)) (a1 : Int) (x3 : Int) (x4 : Int) (σ : Hp) : Option (Int × Hp) :=
  lt (σ 0 3).toNat fun q2 =>
  gd (isNet q2) <|
  (if (σ q2 15) ≤ x4 then (
    some (x3, σ)
  ) else (
    cl2 (F_Plan_endOf 142 x4 0 σ) fun v5 s6 =>
    cl2 (F_Plan_endOf 112 x4 0 s6) fun v8 s9 =>
    (if v5 ≤ v8 then (
      F_RD_pays_87 k48 a1 x3 x4 s9
    ) else (
      lt (ior x3 (ishl 1 x4)) fun y3_12 =>
      F_RD_pays_87 k48 a1 y3_12 x4 s9
    ))
  ))
def F_RD_pays_48 (a1 : Int) : Nat → Int × Int × Hp → Option (Int × Hp) := loopF (fun k48 a => F_RD_pays_48_b k48 a1 a.1 a.2.1 a.2.2)
def F_RD_pays (a1 : Int) (σ : Hp) : Option (Int × Hp) :=
  cl2 (F_RD_isRoad a1 σ) fun v13 s14 =>
  (if v13 = 0 then (
    some ((-1), s14)
  ) else (
    cl2 (F_RD_planNow  s14) fun v17 s18 =>
    gd (v17.toNat = 112) <|
    cl2 (F_Plan_take 142 a1 (-1) s18) fun v21 s22 =>
    cl2 (F_Plan_hasEnds 112 s22) fun v24 s25 =>
    (if v24 = 0 then (
      F_RD_pays_41 a1 s25
    ) else (
      cl2 (F_Plan_hasEnds 142 s25) fun v28 s29 =>
      (if v28 = 0 then (
        F_RD_pays_41 a1 s29
      ) else (
        F_RD_pays_48 a1 FU (0, 0, s29)
      ))
    ))
  ))
def F_RD_price (a1 : Int) (σ : Hp) : Option (Int × Hp) :=
  cl2 (F_RD_isRoad a1 σ) fun v1 s2 =>
  (if v1 = 0 then (
    some ((-1), s2)
  ) else (
    cl2 (F_Plan_take 142 a1 (-1) s2) fun v5 s6 =>
    lt (s6 0 3).toNat fun q8 =>
    gd (isNet q8) <|
    cl2 (F_Net_everybody q8 s6) fun v10 s11 =>
    lt (s11 0 3).toNat fun q13 =>
    gd (isNet q13) <|
    cl2 (F_Net_pairOf q13 a1 s11) fun v15 s16 =>
    lt (iand v10 (ixor v15 (-1))) fun y3_18 =>
    cl2 (F_Plan_mostOf 142 v10 s16) fun v19 s20 =>
    cl2 (F_Plan_mostOf 142 y3_18 s20) fun v22 s23 =>
    lt (isub v19 v22) fun y4_25 =>
    lt (s23 0 3).toNat fun q26 =>
    gd (isNet q26) <|
    cl2 (F_Net_gainWith q26 a1 0 s23) fun v28 s29 =>
    some (imax 0 (isub y4_25 v28), s29)
  ))
def F_RD_road_17 (a1 : Int) (a2 : Int) (σ : Hp) : Option (Int × Hp) :=
  some ((-1), σ)
def F_RD_road_44 (a1 : Int) (a2 : Int) (t1 : Int) (σ : Hp) : Option (Int × Hp) :=
  some (t1, σ)
def F_RD_road (a1 : Int) (a2 : Int) (σ : Hp) : Option (Int × Hp) :=
  cl2 (F_RD_isRoad a1 σ) fun v1 s2 =>
  (if v1 = 0 then (
    F_RD_road_17 a1 a2 s2
  ) else (
    (if a2 < 0 then (
      F_RD_road_17 a1 a2 s2
    ) else (
      (if a2 ≤ 1 then (
        (if a2 = 0 then (
          lt (s2 0 3).toNat fun q11 =>
          gd (isNet q11) <|
          gd (0 ≤ a1 ∧ a1 < (30 : Int)) <|
          F_RD_road_44 a1 a2 (s2 (q11 + 3) a1.toNat) s2
        ) else (
          lt (s2 0 3).toNat fun q8 =>
          gd (isNet q8) <|
          gd (0 ≤ a1 ∧ a1 < (30 : Int)) <|
          F_RD_road_44 a1 a2 (s2 (q8 + 4) a1.toNat) s2
        ))
      ) else (
        F_RD_road_17 a1 a2 s2
      ))
    ))
  ))
def F_RD_row_27 (a1 : Int) (t1 : Int) (σ : Hp) : Option (Int × Hp) :=
  some (t1, σ)
def F_RD_row_26 (a1 : Int) (σ : Hp) : Option (Int × Hp) :=
  F_RD_row_27 a1 (-1) σ
def F_RD_row (a1 : Int) (σ : Hp) : Option (Int × Hp) :=
  cl2 (F_RD_planNow  σ) fun v1 s2 =>
  gd (v1.toNat = 112) <|
  (if a1 < 0 then (
    F_RD_row_26 a1 s2
  ) else (
    (if (s2 112 6) ≤ a1 then (
      F_RD_row_26 a1 s2
    ) else (
      gd (0 ≤ a1 ∧ a1 < (6 : Int)) <|
      F_RD_row_27 a1 (s2 141 a1.toNat) s2
    ))
  ))
def F_RD_share_22 (a1 : Int) (t1 : Int) (σ : Hp) : Option (Int × Hp) :=
  some (t1, σ)
def F_RD_share (a1 : Int) (σ : Hp) : Option (Int × Hp) :=
  cl2 (F_RD_isSomebody a1 σ) fun v1 s2 =>
  (if v1 = 0 then (
    F_RD_share_22 a1 (-2000000000) s2
  ) else (
    cl2 (F_RD_dealsNow  s2) fun v5 s6 =>
    gd (v5.toNat = 173) <|
    gd (0 ≤ a1 ∧ a1 < (12 : Int)) <|
    F_RD_share_22 a1 (s6 177 a1.toNat) s6
  ))
def F_RD_surely_44 (t1 : Int) (σ : Hp) : Option (Int × Hp) :=
  some (t1, σ)
def F_RD_surely (σ : Hp) : Option (Int × Hp) :=
  cl2 (F_RD_dealsNow  σ) fun v1 s2 =>
  gd (v1.toNat = 173) <|
  cl2 (F_Deals_firstLone  s2) fun v5 s6 =>
  (if v5 = (-1) then (
    cl2 (F_Deals_firstShort 1 s6) fun v9 s10 =>
    (if v9 = (-1) then (
      some (2, s10)
    ) else (
      cl2 (F_Deals_firstShort (-1) s10) fun v13 s14 =>
      (if v13 = (-1) then (
        F_RD_surely_44 1 s14
      ) else (
        F_RD_surely_44 0 s14
      ))
    ))
  ) else (
    some (0, s6)
  ))
def F_RD_two_21 (a1 : Int) (a2 : Int) (a3 : Int) (a4 : Int) (σ : Hp) : Option (Int × Hp) :=
  some ((-2000000000), σ)
def F_RD_two_66 (a1 : Int) (a2 : Int) (a3 : Int) (a4 : Int) (t1 : Int) (σ : Hp) : Option (Int × Hp) :=
  some (t1, σ)
def F_RD_two (a1 : Int) (a2 : Int) (a3 : Int) (a4 : Int) (σ : Hp) : Option (Int × Hp) :=
  cl2 (F_RD_isSomebody a1 σ) fun v1 s2 =>
  (if v1 = 0 then (
    F_RD_two_21 a1 a2 a3 a4 s2
  ) else (
    cl2 (F_RD_isSomebody a2 s2) fun v5 s6 =>
    (if v5 = 0 then (
      F_RD_two_21 a1 a2 a3 a4 s6
    ) else (
      (if a1 = a2 then (
        F_RD_two_21 a1 a2 a3 a4 s6
      ) else (
        cl2 (F_RD_planNow  s6) fun v10 s11 =>
        gd (v10.toNat = 112) <|
        cl2 (F_Plan_hasEnds 112 s11) fun v14 s15 =>
        (if v14 = 0 then (
          some ((-2000000000), s15)
        ) else (
          (if a3 = 0 then (
            cl2 (F_Plan_bothEnd 112 a1 a2 a4 s15) fun v19 s20 =>
            F_RD_two_66 a1 a2 a3 a4 v19 s20
          ) else (
            cl2 (F_Plan_aheadEnd 112 a1 a2 a4 s15) fun v22 s23 =>
            F_RD_two_66 a1 a2 a3 a4 v22 s23
          ))
        ))
      ))
    ))
  ))
def F_RD_undeal_30 (a1 : Int) (t1 : Int) (σ : Hp) : Option (Int × Hp) :=
  some (t1, σ)
def F_RD_undeal_29 (a1 : Int) (σ : Hp) : Option (Int × Hp) :=
  F_RD_undeal_30 a1 (-1) σ
def F_RD_undeal (a1 : Int) (σ : Hp) : Option (Int × Hp) :=
  cl2 (F_RD_isRoad a1 σ) fun v1 s2 =>
  (if v1 = 0 then (
    F_RD_undeal_29 a1 s2
  ) else (
    cl2 (F_Deals_drop a1 s2) fun v5 s6 =>
    (if v5 = 0 then (
      F_RD_undeal_29 a1 s6
    ) else (
      F_RD_undeal_30 a1 (s6 173 2) s6
    ))
  ))
def F_RD_uneven (σ : Hp) : Option (Int × Hp) :=
  cl2 (F_RD_dealsNow  σ) fun v1 s2 =>
  gd (v1.toNat = 173) <|
  cl2 (F_Deals_firstUneven  s2) fun v5 s6 =>
  some (v5, s6)
def F_RD_ways (σ : Hp) : Option (Int × Hp) :=
  cl2 (F_RD_planNow  σ) fun v1 s2 =>
  gd (v1.toNat = 112) <|
  cl2 (F_Plan_countWays 112 s2) fun v5 s6 =>
  some (v5, s6)
def F_RD_worth_20 (a1 : Int) (a2 : Int) (σ : Hp) : Option (Int × Hp) :=
  some ((-1), σ)
def F_RD_worth (a1 : Int) (a2 : Int) (σ : Hp) : Option (Int × Hp) :=
  cl2 (F_RD_isRoad a1 σ) fun v1 s2 =>
  (if v1 = 0 then (
    F_RD_worth_20 a1 a2 s2
  ) else (
    (if a2 < (-2) then (
      F_RD_worth_20 a1 a2 s2
    ) else (
      (if a2 ≤ 100000 then (
        cl2 (F_Acts_add a1 a2 s2) fun v7 s8 =>
        cl2 (F_RD_lookAgain  s8) fun v10 s11 =>
        some (v7, s11)
      ) else (
        F_RD_worth_20 a1 a2 s2
      ))
    ))
  ))
def F_RD_text (σ : Hp) : Option (Int × Hp) :=
  cl2 (F_Rdr_read  σ) fun v1 s2 =>
  cl2 (F_Bytes_cut 1 0 s2) fun v4 s5 =>
  lt (hset s5 0 13 (s5 3 6)) fun s7 =>
  lt (hset s7 0 14 (s7 3 7)) fun s8 =>
  (if v1 = 0 then (
    some ((-1), s8)
  ) else (
    lt (s8 0 3).toNat fun q10 =>
    gd (isNet q10) <|
    cl2 (F_Rdr_exchange q10 s8) fun v12 s13 =>
    gd (isNet v12.toNat) <|
    lt (hset s13 0 3 (Int.ofNat v12.toNat)) fun s16 =>
    cl2 (F_Acts_clear  s16) fun v17 s18 =>
    cl2 (F_Deals_clear  s18) fun v20 s21 =>
    lt (hset s21 0 12 (-1)) fun s23 =>
    cl2 (F_RD_lookAgain  s23) fun v24 s25 =>
    lt (s25 0 3).toNat fun q27 =>
    gd (isNet q27) <|
    some (s25 q27 19, s25)
  ))
def F_M_add (a1 : Int) (a2 : Int) (σ : Hp) : Option (Int × Hp) :=
  gd (0 ≤ (iadd (imul 900 (σ 0 31)) (σ 0 30)) ∧ (iadd (imul 900 (σ 0 31)) (σ 0 30)) < (1800 : Int)) <|
  lt (hset σ 17 (iadd (imul 900 (σ 0 31)) (σ 0 30)).toNat a1) fun s2 =>
  gd (0 ≤ (iadd (imul 900 (s2 0 31)) (s2 0 30)) ∧ (iadd (imul 900 (s2 0 31)) (s2 0 30)) < (1800 : Int)) <|
  lt (hset s2 18 (iadd (imul 900 (s2 0 31)) (s2 0 30)).toNat a2) fun s4 =>
  lt (hset s4 0 30 (iadd (s4 0 30) 1)) fun s5 =>
  some (0, s5)
def F_M_all (σ : Hp) : Option (Int × Hp) :=
  gd (0 ≤ (σ 0 12) ∧ (σ 0 12) < (2 : Int)) <|
  some (isub (ishl 1 (σ 2 (σ 0 12).toNat)) 1, σ)
def F_M_aloneOf (a1 : Int) (σ : Hp) : Option (Int × Hp) :=
  gd (0 ≤ (iadd (imul 12 (σ 0 12)) a1) ∧ (iadd (imul 12 (σ 0 12)) a1) < (24 : Int)) <|
  some (σ 7 (iadd (imul 12 (σ 0 12)) a1).toNat, σ)
def F_M_enter (a1 : Int) (a2 : Int) (σ : Hp) : Option (Int × Hp) :=
  (if (σ 0 43) = 200 then (
    some ((-1), σ)
  ) else (
    lt (hset σ 0 43 (iadd (σ 0 43) 1)) fun s2 =>
    gd (0 ≤ (s2 0 43) ∧ (s2 0 43) < (201 : Int)) <|
    lt (hset s2 25 (s2 0 43).toNat a1) fun s4 =>
    gd (0 ≤ (s4 0 43) ∧ (s4 0 43) < (201 : Int)) <|
    lt (hset s4 26 (s4 0 43).toNat a2) fun s6 =>
    gd (0 ≤ (s6 0 43) ∧ (s6 0 43) < (201 : Int)) <|
    lt (hset s6 27 (s6 0 43).toNat 0) fun s8 =>
    some (s8 0 43, s8)
  ))
def F_M_annul_42 (a1 : Int) (σ : Hp) : Option (Int × Hp) :=
  some ((-1), σ)
def F_M_annul (a1 : Int) (σ : Hp) : Option (Int × Hp) :=
  (if a1 < 1 then (
    F_M_annul_42 a1 σ
  ) else (
    (if (σ 0 43) < a1 then (
      F_M_annul_42 a1 σ
    ) else (
      gd (0 ≤ a1 ∧ a1 < (201 : Int)) <|
      (if (σ 25 a1.toNat) = (-1) then (
        F_M_annul_42 a1 σ
      ) else (
        gd (0 ≤ a1 ∧ a1 < (201 : Int)) <|
        (if 0 < (σ 27 a1.toNat) then (
          F_M_annul_42 a1 σ
        ) else (
          (if (σ 0 43) = 200 then (
            F_M_annul_42 a1 σ
          ) else (
            cl2 (F_M_enter (-1) 0 σ) fun v8 s9 =>
            gd (0 ≤ a1 ∧ a1 < (201 : Int)) <|
            lt (hset s9 27 a1.toNat v8) fun s12 =>
            gd (0 ≤ a1 ∧ a1 < (201 : Int)) <|
            some (s12 27 a1.toNat, s12)
          ))
        ))
      ))
    ))
  ))
def F_M_apart_130 (a1 : Int) (a2 : Int) (t1 : Int) (σ : Hp) : Option (Int × Hp) :=
  some (t1, σ)
def F_M_apart_115 (a1 : Int) (a2 : Int) (x3 : Int) (t1 : Int) (σ : Hp) : Option (Int × Hp) :=
  (if 0 ≤ (lcmp t1 x3) then (
    F_M_apart_130 a1 a2 x3 σ
  ) else (
    F_M_apart_130 a1 a2 t1 σ
  ))
def F_M_apart_112 (a1 : Int) (a2 : Int) (x3 : Int) (σ : Hp) : Option (Int × Hp) :=
  F_M_apart_115 a1 a2 x3 1000000000000 σ
def F_M_apart_39 (a1 : Int) (a2 : Int) (t1 : Int) (σ : Hp) : Option (Int × Hp) :=
  gd (0 ≤ (iadd (imul 24 (isub (iadd (imul (idiv a2 2) 2) 1) (irem a2 2))) a2) ∧ (iadd (imul 24 (isub (iadd (imul (idiv a2 2) 2) 1) (irem a2 2))) a2) < (576 : Int)) <|
  lt (σ 38 (iadd (imul 24 (isub (iadd (imul (idiv a2 2) 2) 1) (irem a2 2))) a2).toNat) fun y5_3 =>
  gd (0 ≤ (isub (iadd (iadd (imul 24 a1) (imul (idiv a1 2) 2)) 1) (irem a1 2)) ∧ (isub (iadd (iadd (imul 24 a1) (imul (idiv a1 2) 2)) 1) (irem a1 2)) < (576 : Int)) <|
  lt (σ 38 (isub (iadd (iadd (imul 24 a1) (imul (idiv a1 2) 2)) 1) (irem a1 2)).toNat) fun y7_5 =>
  (if 0 ≤ (lcmp y5_3 1000000000000) then (
    F_M_apart_112 a1 a2 t1 σ
  ) else (
    (if 0 ≤ (lcmp y7_5 1000000000000) then (
      F_M_apart_112 a1 a2 t1 σ
    ) else (
      F_M_apart_115 a1 a2 t1 (ladd y5_3 y7_5) σ
    ))
  ))
def F_M_apart (a1 : Int) (a2 : Int) (σ : Hp) : Option (Int × Hp) :=
  gd (0 ≤ (iadd (imul 24 a1) a2) ∧ (iadd (imul 24 a1) a2) < (576 : Int)) <|
  (if 0 ≤ (lcmp (σ 38 (iadd (imul 24 a1) a2).toNat) 1000000000000) then (
    F_M_apart_39 a1 a2 1000000000000 σ
  ) else (
    gd (0 ≤ (iadd (imul 24 a1) a2) ∧ (iadd (imul 24 a1) a2) < (576 : Int)) <|
    F_M_apart_39 a1 a2 (lmul 2 (σ 38 (iadd (imul 24 a1) a2).toNat)) σ
  ))
def F_M_is_15 (a0 : Int) (a1 : Int) (a2 : Int) (t1 : Int) (σ : Hp) : Option (Int × Hp) :=
  gd (t1 = 0 ∨ t1 = 1) <|
  some (t1, σ)
def F_M_is_14 (a0 : Int) (a1 : Int) (a2 : Int) (σ : Hp) : Option (Int × Hp) :=
  F_M_is_15 a0 a1 a2 0 σ
def F_M_is (a0 : Int) (a1 : Int) (a2 : Int) (σ : Hp) : Option (Int × Hp) :=
  (if a0 < a1 then (
    F_M_is_14 a0 a1 a2 σ
  ) else (
    (if a2 < a0 then (
      F_M_is_14 a0 a1 a2 σ
    ) else (
      F_M_is_15 a0 a1 a2 1 σ
    ))
  ))
def F_M_as (a1 : Int) (σ : Hp) : Option (Int × Hp) :=
  cl2 (F_M_is a1 (-1) (σ 0 43) σ) fun v1 s2 =>
  (if v1 = 0 then (
    some (0, s2)
  ) else (
    lt (hset s2 0 44 a1) fun s5 =>
    some (1, s5)
  ))
def F_M_bound_41 (a1 : Int) (a2 : Int) (a3 : Int) (t3 : Int) (t2 : Int) (σ : Hp) : Option (Int × Hp) :=
  gd (0 ≤ t2 ∧ t2 < (576 : Int)) <|
  lt (hset σ 38 t2.toNat t3) fun s2 =>
  some (0, s2)
def F_M_bound (a1 : Int) (a2 : Int) (a3 : Int) (σ : Hp) : Option (Int × Hp) :=
  gd (0 ≤ (iadd (imul 24 a1) a2) ∧ (iadd (imul 24 a1) a2) < (576 : Int)) <|
  (if 0 ≤ (lcmp a3 (σ 38 (iadd (imul 24 a1) a2).toNat)) then (
    gd (0 ≤ (iadd (imul 24 a1) a2) ∧ (iadd (imul 24 a1) a2) < (576 : Int)) <|
    F_M_bound_41 a1 a2 a3 (σ 38 (iadd (imul 24 a1) a2).toNat) (iadd (imul 24 a1) a2) σ
  ) else (
    F_M_bound_41 a1 a2 a3 a3 (iadd (imul 24 a1) a2) σ
  ))
def F_M_atLeast (a1 : Int) (a2 : Int) (σ : Hp) : Option (Int × Hp) :=
  cl2 (F_M_bound (imul 2 a1) (iadd (imul 2 a1) 1) (lmul (-2) a2) σ) fun v1 s2 =>
  some (0, s2)
def F_M_atMost (a1 : Int) (a2 : Int) (σ : Hp) : Option (Int × Hp) :=
  cl2 (F_M_bound (iadd (imul 2 a1) 1) (imul 2 a1) (lmul 2 a2) σ) fun v1 s2 =>
  some (0, s2)
def F_M_now_19 (t1 : Int) (σ : Hp) : Option (Int × Hp) :=
  some (t1, σ)
def F_M_now (σ : Hp) : Option (Int × Hp) :=
  (if (σ 0 44) = (-1) then (
    F_M_now_19 (σ 0 43) σ
  ) else (
    F_M_now_19 (σ 0 44) σ
  ))
def F_M_leaf (a1 : Int) (a2 : Int) (σ : Hp) : Option (Int × Hp) :=
  (if a1 = 0 then (
    some (a2, σ)
  ) else (
  (if a1 = 1 then (
    some (σ 0 42, σ)
  ) else (
  (if a1 = 2 then (
    some (idiv (σ 0 42) 7, σ)
  ) else (
  (if a1 = 3 then (
    some (irem (σ 0 42) 7, σ)
  ) else (
  (if a1 = 4 then (
    cl2 (F_M_aloneOf a2 σ) fun v6 s7 =>
    some (v6, s7)
  ) else (
    some (1, σ)
  ))))))))))
def F_M_held_29 (a0 : Int) (t1 : Int) (σ : Hp) : Option (Int × Hp) :=
  some (t1, σ)
def F_M_held (a0 : Int) (σ : Hp) : Option (Int × Hp) :=
  (if (lcmp a0 1000000000) ≤ 0 then (
    (if 0 ≤ (lcmp a0 (-1000000000)) then (
      F_M_held_29 a0 a0 σ
    ) else (
      F_M_held_29 a0 (-1000000000) σ
    ))
  ) else (
    F_M_held_29 a0 1000000000 σ
  ))
def F_M_over_55 (a0 : Int) (a2 : Int) (t1 : Int) (σ : Hp) : Option (Int × Hp) :=
  some (t1, σ)
def F_M_over_53 (a0 : Int) (a2 : Int) (x4 : Int) (σ : Hp) : Option (Int × Hp) :=
  F_M_over_55 a0 a2 x4 σ
def F_M_over_43 (a0 : Int) (a2 : Int) (x4 : Int) (t2 : Int) (t1 : Int) (σ : Hp) : Option (Int × Hp) :=
  (if t1 = t2 then (
    F_M_over_53 a0 a2 x4 σ
  ) else (
    F_M_over_55 a0 a2 (lsub x4 1) σ
  ))
def F_M_over_32 (a0 : Int) (a2 : Int) (x4 : Int) (t1 : Int) (σ : Hp) : Option (Int × Hp) :=
  (if 0 ≤ (lcmp a2 0) then (
    F_M_over_43 a0 a2 x4 0 t1 σ
  ) else (
    F_M_over_43 a0 a2 x4 1 t1 σ
  ))
def F_M_over (a0 : Int) (a2 : Int) (σ : Hp) : Option (Int × Hp) :=
  (if (lcmp a2 0) = 0 then (
    some (0, σ)
  ) else (
    gd (¬ a2 = 0) <|
    lt (ldiv a0 a2) fun y4_5 =>
    gd (¬ a2 = 0) <|
    (if (lcmp (lrem a0 a2) 0) = 0 then (
      F_M_over_53 a0 a2 y4_5 σ
    ) else (
      (if 0 ≤ (lcmp a0 0) then (
        F_M_over_32 a0 a2 y4_5 0 σ
      ) else (
        F_M_over_32 a0 a2 y4_5 1 σ
      ))
    ))
  ))
def F_M_joined_106 (a0 : Int) (a1 : Int) (a3 : Int) (t1 : Int) (σ : Hp) : Option (Int × Hp) :=
  some (t1, σ)
def F_M_joined_118 (a0 : Int) (a1 : Int) (a3 : Int) (t1 : Int) (σ : Hp) : Option (Int × Hp) :=
  some (t1, σ)
def F_M_joined_130 (a0 : Int) (a1 : Int) (a3 : Int) (t1 : Int) (σ : Hp) : Option (Int × Hp) :=
  some (t1, σ)
def F_M_joined_142 (a0 : Int) (a1 : Int) (a3 : Int) (t1 : Int) (σ : Hp) : Option (Int × Hp) :=
  some (t1, σ)
def F_M_joined_154 (a0 : Int) (a1 : Int) (a3 : Int) (t1 : Int) (σ : Hp) : Option (Int × Hp) :=
  some (t1, σ)
def F_M_joined_166 (a0 : Int) (a1 : Int) (a3 : Int) (t1 : Int) (σ : Hp) : Option (Int × Hp) :=
  some (t1, σ)
def F_M_joined_184 (a0 : Int) (a1 : Int) (a3 : Int) (t1 : Int) (σ : Hp) : Option (Int × Hp) :=
  some (t1, σ)
def F_M_joined (a0 : Int) (a1 : Int) (a3 : Int) (σ : Hp) : Option (Int × Hp) :=
  (if a0 = 6 then (
    cl2 (F_M_held (ladd a1 a3) σ) fun v2 s3 =>
    some (v2, s3)
  ) else (
  (if a0 = 7 then (
    cl2 (F_M_held (lsub a1 a3) σ) fun v6 s7 =>
    some (v6, s7)
  ) else (
  (if a0 = 8 then (
    cl2 (F_M_held (lmul a1 a3) σ) fun v10 s11 =>
    some (v10, s11)
  ) else (
  (if a0 = 9 then (
    cl2 (F_M_over a1 a3 σ) fun v14 s15 =>
    some (v14, s15)
  ) else (
  (if a0 = 10 then (
    (if (lcmp a3 0) = 0 then (
      F_M_joined_106 a0 a1 a3 0 σ
    ) else (
      cl2 (F_M_over a1 a3 σ) fun v19 s20 =>
      F_M_joined_106 a0 a1 a3 (lsub a1 (lmul a3 v19)) s20
    ))
  ) else (
  (if a0 = 11 then (
    (if 0 ≤ (lcmp a1 a3) then (
      F_M_joined_118 a0 a1 a3 a3 σ
    ) else (
      F_M_joined_118 a0 a1 a3 a1 σ
    ))
  ) else (
  (if a0 = 12 then (
    (if (lcmp a1 a3) ≤ 0 then (
      F_M_joined_130 a0 a1 a3 a3 σ
    ) else (
      F_M_joined_130 a0 a1 a3 a1 σ
    ))
  ) else (
  (if a0 = 13 then (
    (if 0 ≤ (lcmp a1 a3) then (
      F_M_joined_142 a0 a1 a3 0 σ
    ) else (
      F_M_joined_142 a0 a1 a3 1 σ
    ))
  ) else (
  (if a0 = 14 then (
    (if (lcmp a1 a3) ≤ 0 then (
      F_M_joined_154 a0 a1 a3 0 σ
    ) else (
      F_M_joined_154 a0 a1 a3 1 σ
    ))
  ) else (
  (if a0 = 15 then (
    (if (lcmp a1 a3) = 0 then (
      F_M_joined_166 a0 a1 a3 1 σ
    ) else (
      F_M_joined_166 a0 a1 a3 0 σ
    ))
  ) else (
  (if a0 = 16 then (
    some (lmul a1 a3, σ)
  ) else (
    (if (lcmp (ladd a1 a3) 0) ≤ 0 then (
      F_M_joined_184 a0 a1 a3 0 σ
    ) else (
      F_M_joined_184 a0 a1 a3 1 σ
    ))
  ))))))))))))))))))))))
def F_M_works_127 (k14 : Int × Int × Hp → Option (Int × Hp)) (a1 : Int) (a2 : Int) (x3 : Int) (x4 : Int) (σ : Hp) : Option (Int × Hp) :=
  lt (iadd x4 1) fun y4_1 =>
  k14 (x3, y4_1, σ)
def F_M_works_14_b (k14 : Int × Int × Hp → Option (Int × Hp)) (a1 : Int) (a2 : Int) (x3 : Int) (x4 : Int) (σ : Hp) : Option (Int × Hp) :=
  (if (iadd (imul 900 (σ 0 12)) a2) ≤ x4 then (
    some (σ 28 0, σ)
  ) else (
    gd (0 ≤ x4 ∧ x4 < (1800 : Int)) <|
    lt (σ 17 x4.toNat) fun y5_4 =>
    (if 5 < y5_4 then (
      (if y5_4 = 18 then (
        gd (0 ≤ (isub x3 1) ∧ (isub x3 1) < (950 : Int)) <|
        gd (0 ≤ (isub x3 1) ∧ (isub x3 1) < (950 : Int)) <|
        lt (hset σ 28 (isub x3 1).toNat (lsub 1 (σ 28 (isub x3 1).toNat))) fun s17 =>
        F_M_works_127 k14 a1 a2 x3 x4 s17
      ) else (
        lt (iadd x3 (-1)) fun y3_7 =>
        gd (0 ≤ (isub y3_7 1) ∧ (isub y3_7 1) < (950 : Int)) <|
        gd (0 ≤ y3_7 ∧ y3_7 < (950 : Int)) <|
        cl2 (F_M_joined y5_4 (σ 28 (isub y3_7 1).toNat) (σ 28 y3_7.toNat) σ) fun v10 s11 =>
        gd (0 ≤ (isub y3_7 1) ∧ (isub y3_7 1) < (950 : Int)) <|
        lt (hset s11 28 (isub y3_7 1).toNat v10) fun s14 =>
        F_M_works_127 k14 a1 a2 y3_7 x4 s14
      ))
    ) else (
      gd (0 ≤ x4 ∧ x4 < (1800 : Int)) <|
      cl2 (F_M_leaf y5_4 (σ 18 x4.toNat) σ) fun v19 s20 =>
      gd (0 ≤ x3 ∧ x3 < (950 : Int)) <|
      lt (hset s20 28 x3.toNat v19) fun s23 =>
      lt (iadd x3 1) fun y3_24 =>
      F_M_works_127 k14 a1 a2 y3_24 x4 s23
    ))
  ))
def F_M_works_14 (a1 : Int) (a2 : Int) : Nat → Int × Int × Hp → Option (Int × Hp) := loopF (fun k14 a => F_M_works_14_b k14 a1 a2 a.1 a.2.1 a.2.2)
def F_M_works (a1 : Int) (a2 : Int) (σ : Hp) : Option (Int × Hp) :=
  lt (iadd (imul 900 (σ 0 12)) a1) fun y4_25 =>
  F_M_works_14 a1 a2 FU (0, y4_25, σ)
def F_M_worthOf_52 (k5 : Int × Int × Hp → Option (Int × Hp)) (a1 : Int) (x2 : Int) (x3 : Int) (σ : Hp) : Option (Int × Hp) :=
  lt (iadd x3 1) fun y3_1 =>
  k5 (x2, y3_1, σ)
def F_M_worthOf_45 (k5 : Int × Int × Hp → Option (Int × Hp)) (a1 : Int) (x3 : Int) (σ : Hp) : Option (Int × Hp) :=
  gd (0 ≤ x3 ∧ x3 < (201 : Int)) <|
  lt (σ 26 x3.toNat) fun y2_3 =>
  F_M_worthOf_52 k5 a1 y2_3 x3 σ
def F_M_worthOf_161 (a1 : Int) (t1 : Int) (σ : Hp) : Option (Int × Hp) :=
  some (t1, σ)
def F_M_worthOf_114 (a1 : Int) (x3 : Int) (σ : Hp) : Option (Int × Hp) :=
  gd (0 ≤ x3 ∧ x3 < (60 : Int)) <|
  gd (0 ≤ x3 ∧ x3 < (60 : Int)) <|
  cl2 (F_M_works (σ 10 x3.toNat) (σ 11 x3.toNat) σ) fun v6 s7 =>
  (if 0 ≤ (lcmp v6 0) then (
    (if (lcmp v6 100000) ≤ 0 then (
      F_M_worthOf_161 a1 (w32 v6) s7
    ) else (
      F_M_worthOf_161 a1 100000 s7
    ))
  ) else (
    F_M_worthOf_161 a1 0 s7
  ))
def F_M_worthOf_5_b (k5 : Int × Int × Hp → Option (Int × Hp)) (a1 : Int) (x2 : Int) (x3 : Int) (σ : Hp) : Option (Int × Hp) :=
  cl2 (F_M_now  σ) fun v11 s12 =>
  (if v11 < x3 then (
    (if x2 = (-2) then (
      lt (iadd (imul 30 (s12 0 12)) a1) fun y3_16 =>
      gd (0 ≤ y3_16 ∧ y3_16 < (60 : Int)) <|
      gd (0 ≤ y3_16 ∧ y3_16 < (60 : Int)) <|
      (if (s12 13 y3_16.toNat) ≤ (s12 12 y3_16.toNat) then (
        F_M_worthOf_114 a1 y3_16 s12
      ) else (
        gd (0 ≤ y3_16 ∧ y3_16 < (60 : Int)) <|
        gd (0 ≤ y3_16 ∧ y3_16 < (60 : Int)) <|
        cl2 (F_M_works (s12 12 y3_16.toNat) (s12 13 y3_16.toNat) s12) fun v22 s23 =>
        (if (lcmp v22 0) = 0 then (
          some ((-1), s23)
        ) else (
          F_M_worthOf_114 a1 y3_16 s23
        ))
      ))
    ) else (
      some (x2, s12)
    ))
  ) else (
    gd (0 ≤ x3 ∧ x3 < (201 : Int)) <|
    (if (s12 25 x3.toNat) = a1 then (
      gd (0 ≤ x3 ∧ x3 < (201 : Int)) <|
      (if (s12 27 x3.toNat) = 0 then (
        F_M_worthOf_45 k5 a1 x3 s12
      ) else (
        gd (0 ≤ x3 ∧ x3 < (201 : Int)) <|
        cl2 (F_M_now  s12) fun v31 s32 =>
        (if (s12 27 x3.toNat) ≤ v31 then (
          F_M_worthOf_52 k5 a1 x2 x3 s32
        ) else (
          F_M_worthOf_45 k5 a1 x3 s32
        ))
      ))
    ) else (
      F_M_worthOf_52 k5 a1 x2 x3 s12
    ))
  ))
def F_M_worthOf_5 (a1 : Int) : Nat → Int × Int × Hp → Option (Int × Hp) := loopF (fun k5 a => F_M_worthOf_5_b k5 a1 a.1 a.2.1 a.2.2)
def F_M_worthOf (a1 : Int) (σ : Hp) : Option (Int × Hp) :=
  F_M_worthOf_5 a1 FU ((-2), 1, σ)
def F_M_first (a1 : Int) (σ : Hp) : Option (Int × Hp) :=
  gd (0 ≤ (iadd (imul 30 (σ 0 12)) a1) ∧ (iadd (imul 30 (σ 0 12)) a1) < (60 : Int)) <|
  some (σ 8 (iadd (imul 30 (σ 0 12)) a1).toNat, σ)
def F_M_second (a1 : Int) (σ : Hp) : Option (Int × Hp) :=
  gd (0 ≤ (iadd (imul 30 (σ 0 12)) a1) ∧ (iadd (imul 30 (σ 0 12)) a1) < (60 : Int)) <|
  some (σ 9 (iadd (imul 30 (σ 0 12)) a1).toNat, σ)
def F_M_gainOf_45 (a1 : Int) (t1 : Int) (σ : Hp) : Option (Int × Hp) :=
  some (t1, σ)
def F_M_gainOf_44 (a1 : Int) (σ : Hp) : Option (Int × Hp) :=
  F_M_gainOf_45 a1 0 σ
def F_M_gainOf (a1 : Int) (σ : Hp) : Option (Int × Hp) :=
  gd (0 ≤ a1 ∧ a1 < (30 : Int)) <|
  cl2 (F_M_first a1 σ) fun v2 s3 =>
  cl2 (F_M_aloneOf v2 s3) fun v5 s6 =>
  cl2 (F_M_second a1 s6) fun v8 s9 =>
  cl2 (F_M_aloneOf v8 s9) fun v11 s12 =>
  lt (isub (isub (σ 30 a1.toNat) v5) v11) fun y2_14 =>
  gd (0 ≤ a1 ∧ a1 < (30 : Int)) <|
  (if (s12 29 a1.toNat) = 0 then (
    F_M_gainOf_44 a1 s12
  ) else (
    (if y2_14 ≤ 0 then (
      F_M_gainOf_44 a1 s12
    ) else (
      F_M_gainOf_45 a1 y2_14 s12
    ))
  ))
def F_M_lays_69 (k24 : Int × Hp → Option (Int × Hp)) (a1 : Int) (a2 : Int) (x3 : Int) (x4 : Int) (t3 : Int) (t2 : Int) (σ : Hp) : Option (Int × Hp) :=
  gd (0 ≤ t2 ∧ t2 < (30 : Int)) <|
  lt (hset σ 29 t2.toNat (z1 t3)) fun s2 =>
  cl2 (F_M_first x3 s2) fun v3 s4 =>
  cl2 (F_M_second x3 s4) fun v6 s7 =>
  gd (0 ≤ (iadd (iadd (imul 144 (s2 0 12)) (imul 12 v3)) v6) ∧ (iadd (iadd (imul 144 (s2 0 12)) (imul 12 v3)) v6) < (288 : Int)) <|
  cl2 (F_M_second x3 s7) fun v10 s11 =>
  cl2 (F_M_first x3 s11) fun v13 s14 =>
  gd (0 ≤ (iadd (iadd (imul 144 (s7 0 12)) (imul 12 v10)) v13) ∧ (iadd (iadd (imul 144 (s7 0 12)) (imul 12 v10)) v13) < (288 : Int)) <|
  gd (0 ≤ x3 ∧ x3 < (30 : Int)) <|
  lt (hset s14 30 x3.toNat (iadd (iadd x4 (s7 15 (iadd (iadd (imul 144 (s2 0 12)) (imul 12 v3)) v6).toNat)) (s14 15 (iadd (iadd (imul 144 (s7 0 12)) (imul 12 v10)) v13).toNat))) fun s18 =>
  cl2 (F_M_first x3 s18) fun v19 s20 =>
  cl2 (F_M_second x3 s20) fun v22 s23 =>
  cl2 (F_M_gainOf x3 s23) fun v25 s26 =>
  gd (0 ≤ (iadd (imul 12 v19) v22) ∧ (iadd (imul 12 v19) v22) < (144 : Int)) <|
  lt (hset s26 31 (iadd (imul 12 v19) v22).toNat v25) fun s29 =>
  cl2 (F_M_second x3 s29) fun v30 s31 =>
  cl2 (F_M_first x3 s31) fun v33 s34 =>
  cl2 (F_M_gainOf x3 s34) fun v36 s37 =>
  gd (0 ≤ (iadd (imul 12 v30) v33) ∧ (iadd (imul 12 v30) v33) < (144 : Int)) <|
  lt (hset s37 31 (iadd (imul 12 v30) v33).toNat v36) fun s40 =>
  lt (iadd x3 1) fun y3_41 =>
  k24 (y3_41, s40)
def F_M_lays_51 (k24 : Int × Hp → Option (Int × Hp)) (a1 : Int) (a2 : Int) (x3 : Int) (t1 : Int) (σ : Hp) : Option (Int × Hp) :=
  (if t1 = (-1) then (
    F_M_lays_69 k24 a1 a2 x3 t1 0 x3 σ
  ) else (
    F_M_lays_69 k24 a1 a2 x3 t1 1 x3 σ
  ))
def F_M_lays_24_b (k24 : Int × Hp → Option (Int × Hp)) (a1 : Int) (a2 : Int) (x3 : Int) (σ : Hp) : Option (Int × Hp) :=
  gd (0 ≤ (σ 0 12) ∧ (σ 0 12) < (2 : Int)) <|
  (if (σ 3 (σ 0 12).toNat) ≤ x3 then (
    some (0, σ)
  ) else (
    (if x3 = a1 then (
      F_M_lays_51 k24 a1 a2 x3 a2 σ
    ) else (
      cl2 (F_M_worthOf x3 σ) fun v46 s47 =>
      F_M_lays_51 k24 a1 a2 x3 v46 s47
    ))
  ))
def F_M_lays_24 (a1 : Int) (a2 : Int) : Nat → Int × Hp → Option (Int × Hp) := loopF (fun k24 a => F_M_lays_24_b k24 a1 a2 a.1 a.2)
def F_M_lays_2_b (k2 : Int × Hp → Option (Int × Hp)) (a1 : Int) (a2 : Int) (x3 : Int) (σ : Hp) : Option (Int × Hp) :=
  (if 144 ≤ x3 then (
    F_M_lays_24 a1 a2 FU (0, σ)
  ) else (
    gd (0 ≤ x3 ∧ x3 < (144 : Int)) <|
    lt (hset σ 31 x3.toNat 0) fun s51 =>
    lt (iadd x3 1) fun y3_52 =>
    k2 (y3_52, s51)
  ))
def F_M_lays_2 (a1 : Int) (a2 : Int) : Nat → Int × Hp → Option (Int × Hp) := loopF (fun k2 a => F_M_lays_2_b k2 a1 a2 a.1 a.2)
def F_M_lays (a1 : Int) (a2 : Int) (σ : Hp) : Option (Int × Hp) :=
  F_M_lays_2 a1 a2 FU (0, σ)
def F_M_shares_140 (k42 : Int × Hp → Option (Int × Hp)) (x1 : Int) (σ : Hp) : Option (Int × Hp) :=
  lt (iadd x1 1) fun y1_1 =>
  k42 (y1_1, σ)
def F_M_shares_42_b (k42 : Int × Hp → Option (Int × Hp)) (x1 : Int) (σ : Hp) : Option (Int × Hp) :=
  gd (0 ≤ (σ 0 12) ∧ (σ 0 12) < (2 : Int)) <|
  (if (σ 3 (σ 0 12).toNat) ≤ x1 then (
    some (0, σ)
  ) else (
    gd (0 ≤ x1 ∧ x1 < (30 : Int)) <|
    (if (σ 42 x1.toNat) = 0 then (
      F_M_shares_140 k42 x1 σ
    ) else (
      gd (0 ≤ x1 ∧ x1 < (30 : Int)) <|
      (if (σ 29 x1.toNat) = 0 then (
        F_M_shares_140 k42 x1 σ
      ) else (
        cl2 (F_M_first x1 σ) fun v8 s9 =>
        gd (0 ≤ v8 ∧ v8 < (12 : Int)) <|
        lt (hset s9 44 v8.toNat x1) fun s12 =>
        cl2 (F_M_second x1 s12) fun v13 s14 =>
        gd (0 ≤ v13 ∧ v13 < (12 : Int)) <|
        lt (hset s14 44 v13.toNat x1) fun s17 =>
        cl2 (F_M_first x1 s17) fun v18 s19 =>
        gd (0 ≤ x1 ∧ x1 < (30 : Int)) <|
        gd (0 ≤ v18 ∧ v18 < (12 : Int)) <|
        lt (hset s19 45 v18.toNat (s19 43 x1.toNat)) fun s23 =>
        cl2 (F_M_second x1 s23) fun v24 s25 =>
        gd (0 ≤ x1 ∧ x1 < (30 : Int)) <|
        gd (0 ≤ x1 ∧ x1 < (30 : Int)) <|
        gd (0 ≤ v24 ∧ v24 < (12 : Int)) <|
        lt (hset s25 45 v24.toNat (lsub (s25 30 x1.toNat) (s25 43 x1.toNat))) fun s30 =>
        F_M_shares_140 k42 x1 s30
      ))
    ))
  ))
def F_M_shares_42 : Nat → Int × Hp → Option (Int × Hp) := loopF (fun k42 a => F_M_shares_42_b k42 a.1 a.2)
def F_M_shares_2_b (k2 : Int × Hp → Option (Int × Hp)) (x1 : Int) (σ : Hp) : Option (Int × Hp) :=
  gd (0 ≤ (σ 0 12) ∧ (σ 0 12) < (2 : Int)) <|
  (if (σ 2 (σ 0 12).toNat) ≤ x1 then (
    F_M_shares_42 FU (0, σ)
  ) else (
    gd (0 ≤ x1 ∧ x1 < (12 : Int)) <|
    lt (hset σ 44 x1.toNat (-1)) fun s34 =>
    cl2 (F_M_aloneOf x1 s34) fun v35 s36 =>
    gd (0 ≤ x1 ∧ x1 < (12 : Int)) <|
    lt (hset s36 45 x1.toNat v35) fun s39 =>
    lt (iadd x1 1) fun y1_40 =>
    k2 (y1_40, s39)
  ))
def F_M_shares_2 : Nat → Int × Hp → Option (Int × Hp) := loopF (fun k2 a => F_M_shares_2_b k2 a.1 a.2)
def F_M_shares (σ : Hp) : Option (Int × Hp) :=
  F_M_shares_2 FU (0, σ)
def F_M_laysAll (σ : Hp) : Option (Int × Hp) :=
  cl2 (F_M_lays (-1) 0 σ) fun v1 s2 =>
  cl2 (F_M_shares  s2) fun v4 s5 =>
  some (0, s5)
def F_M_mosts_259 (k160 : Int × Int × Int × Int × Hp → Option (Int × Hp)) (a1 : Int) (x2 : Int) (x3 : Int) (x4 : Int) (x5 : Int) (σ : Hp) : Option (Int × Hp) :=
  lt (iadd x5 1) fun y5_1 =>
  k160 (x2, x3, x4, y5_1, σ)
def F_M_mosts_258 (k160 : Int × Int × Int × Int × Hp → Option (Int × Hp)) (a1 : Int) (x2 : Int) (x3 : Int) (x4 : Int) (x5 : Int) (t3 : Int) (t2 : Int) (σ : Hp) : Option (Int × Hp) :=
  gd (0 ≤ t2 ∧ t2 < (4096 : Int)) <|
  lt (hset σ 32 t2.toNat t3) fun s3 =>
  F_M_mosts_259 k160 a1 x2 x3 x4 x5 s3
def F_M_mosts_160_b (k102 : Int × Hp → Option (Int × Hp)) (k160 : Int × Int × Int × Int × Hp → Option (Int × Hp)) (a1 : Int) (x2 : Int) (x3 : Int) (x4 : Int) (x5 : Int) (σ : Hp) : Option (Int × Hp) :=
  gd (0 ≤ (σ 0 12) ∧ (σ 0 12) < (2 : Int)) <|
  (if (σ 2 (σ 0 12).toNat) ≤ x5 then (
    lt (iadd x2 1) fun y2_6 =>
    k102 (y2_6, σ)
  ) else (
    (if (iand (ishr x4 x5) 1) = 0 then (
      F_M_mosts_259 k160 a1 x2 x3 x4 x5 σ
    ) else (
      gd (0 ≤ (iadd (imul 12 x3) x5) ∧ (iadd (imul 12 x3) x5) < (144 : Int)) <|
      (if (σ 33 (iadd (imul 12 x3) x5).toNat) = 0 then (
        F_M_mosts_259 k160 a1 x2 x3 x4 x5 σ
      ) else (
        gd (0 ≤ (iadd (imul 12 x3) x5) ∧ (iadd (imul 12 x3) x5) < (144 : Int)) <|
        gd (0 ≤ (iand x4 (ixor (ishl 1 x5) (-1))) ∧ (iand x4 (ixor (ishl 1 x5) (-1))) < (4096 : Int)) <|
        lt (iadd (σ 33 (iadd (imul 12 x3) x5).toNat) (σ 32 (iand x4 (ixor (ishl 1 x5) (-1))).toNat)) fun y6_12 =>
        gd (0 ≤ x2 ∧ x2 < (4096 : Int)) <|
        (if y6_12 ≤ (σ 32 x2.toNat) then (
          gd (0 ≤ x2 ∧ x2 < (4096 : Int)) <|
          F_M_mosts_258 k160 a1 x2 x3 x4 x5 (σ 32 x2.toNat) x2 σ
        ) else (
          F_M_mosts_258 k160 a1 x2 x3 x4 x5 y6_12 x2 σ
        ))
      ))
    ))
  ))
def F_M_mosts_160 (k102 : Int × Hp → Option (Int × Hp)) (a1 : Int) : Nat → Int × Int × Int × Int × Hp → Option (Int × Hp) := loopF (fun k160 a => F_M_mosts_160_b k102 k160 a1 a.1 a.2.1 a.2.2.1 a.2.2.2.1 a.2.2.2.2)
def F_M_mosts_119_b (k102 : Int × Hp → Option (Int × Hp)) (k119 : Int × Int × Hp → Option (Int × Hp)) (a1 : Int) (x2 : Int) (x3 : Int) (σ : Hp) : Option (Int × Hp) :=
  (if (iand (ishr x2 x3) 1) = 0 then (
    lt (iadd x3 1) fun y3_22 =>
    k119 (x2, y3_22, σ)
  ) else (
    lt (iand x2 (ixor (ishl 1 x3) (-1))) fun y4_17 =>
    gd (0 ≤ y4_17 ∧ y4_17 < (4096 : Int)) <|
    gd (0 ≤ x2 ∧ x2 < (4096 : Int)) <|
    lt (hset σ 32 x2.toNat (σ 32 y4_17.toNat)) fun s20 =>
    lt (iadd x3 1) fun y5_21 =>
    F_M_mosts_160 k102 a1 FU (x2, x3, y4_17, y5_21, s20)
  ))
def F_M_mosts_119 (k102 : Int × Hp → Option (Int × Hp)) (a1 : Int) : Nat → Int × Int × Hp → Option (Int × Hp) := loopF (fun k119 a => F_M_mosts_119_b k102 k119 a1 a.1 a.2.1 a.2.2)
def F_M_mosts_102_b (k102 : Int × Hp → Option (Int × Hp)) (a1 : Int) (x2 : Int) (σ : Hp) : Option (Int × Hp) :=
  gd (0 ≤ (σ 0 12) ∧ (σ 0 12) < (2 : Int)) <|
  (if (ishl 1 (σ 2 (σ 0 12).toNat)) ≤ x2 then (
    some (0, σ)
  ) else (
    F_M_mosts_119 k102 a1 FU (x2, 0, σ)
  ))
def F_M_mosts_102 (a1 : Int) : Nat → Int × Hp → Option (Int × Hp) := loopF (fun k102 a => F_M_mosts_102_b k102 a1 a.1 a.2)
def F_M_mosts_26_b (k26 : Int × Hp → Option (Int × Hp)) (a1 : Int) (x2 : Int) (σ : Hp) : Option (Int × Hp) :=
  gd (0 ≤ (σ 0 12) ∧ (σ 0 12) < (2 : Int)) <|
  (if (σ 3 (σ 0 12).toNat) ≤ x2 then (
    lt (hset σ 32 0 0) fun s27 =>
    F_M_mosts_102 a1 FU (1, s27)
  ) else (
    cl2 (F_M_first x2 σ) fun v28 s29 =>
    cl2 (F_M_second x2 s29) fun v31 s32 =>
    cl2 (F_M_gainOf x2 s32) fun v34 s35 =>
    gd (0 ≤ (iadd (imul 12 v28) v31) ∧ (iadd (imul 12 v28) v31) < (144 : Int)) <|
    lt (hset s35 33 (iadd (imul 12 v28) v31).toNat v34) fun s38 =>
    cl2 (F_M_second x2 s38) fun v39 s40 =>
    cl2 (F_M_first x2 s40) fun v42 s43 =>
    cl2 (F_M_gainOf x2 s43) fun v45 s46 =>
    gd (0 ≤ (iadd (imul 12 v39) v42) ∧ (iadd (imul 12 v39) v42) < (144 : Int)) <|
    lt (hset s46 33 (iadd (imul 12 v39) v42).toNat v45) fun s49 =>
    lt (iadd x2 1) fun y2_50 =>
    k26 (y2_50, s49)
  ))
def F_M_mosts_26 (a1 : Int) : Nat → Int × Hp → Option (Int × Hp) := loopF (fun k26 a => F_M_mosts_26_b k26 a1 a.1 a.2)
def F_M_mosts_2_b (k2 : Int × Hp → Option (Int × Hp)) (a1 : Int) (x2 : Int) (σ : Hp) : Option (Int × Hp) :=
  (if 144 ≤ x2 then (
    lt (iadd a1 1) fun y2_52 =>
    F_M_mosts_26 a1 FU (y2_52, σ)
  ) else (
    gd (0 ≤ x2 ∧ x2 < (144 : Int)) <|
    lt (hset σ 33 x2.toNat 0) fun s54 =>
    lt (iadd x2 1) fun y2_55 =>
    k2 (y2_55, s54)
  ))
def F_M_mosts_2 (a1 : Int) : Nat → Int × Hp → Option (Int × Hp) := loopF (fun k2 a => F_M_mosts_2_b k2 a1 a.1 a.2)
def F_M_mosts (a1 : Int) (σ : Hp) : Option (Int × Hp) :=
  F_M_mosts_2 a1 FU (0, σ)
def F_M_away_74 (k30 : Int × Int × Int × Hp → Option (Int × Hp)) (x1 : Int) (x4 : Int) (t2 : Int) (t1 : Int) (σ : Hp) : Option (Int × Hp) :=
  lt (ladd t1 t2) fun y2_1 =>
  lt (iadd x4 1) fun y4_2 =>
  k30 (x1, y2_1, y4_2, σ)
def F_M_away_30_b (k11 : Int × Hp → Option (Int × Hp)) (k30 : Int × Int × Int × Hp → Option (Int × Hp)) (x1 : Int) (x2 : Int) (x4 : Int) (σ : Hp) : Option (Int × Hp) :=
  gd (0 ≤ (σ 0 12) ∧ (σ 0 12) < (2 : Int)) <|
  (if (σ 2 (σ 0 12).toNat) ≤ x4 then (
    (if (lcmp x2 0) ≤ 0 then (
      lt (iadd x1 1) fun y1_6 =>
      k11 (y1_6, σ)
    ) else (
      some (x1, σ)
    ))
  ) else (
    (if (iand (ishr x1 x4) 1) = 1 then (
      cl2 (F_M_aloneOf x4 σ) fun v8 s9 =>
      gd (0 ≤ x4 ∧ x4 < (12 : Int)) <|
      F_M_away_74 k30 x1 x4 (lsub v8 (s9 45 x4.toNat)) x2 s9
    ) else (
      F_M_away_74 k30 x1 x4 0 x2 σ
    ))
  ))
def F_M_away_30 (k11 : Int × Hp → Option (Int × Hp)) : Nat → Int × Int × Int × Hp → Option (Int × Hp) := loopF (fun k30 a => F_M_away_30_b k11 k30 a.1 a.2.1 a.2.2.1 a.2.2.2)
def F_M_away_11_b (k11 : Int × Hp → Option (Int × Hp)) (x1 : Int) (σ : Hp) : Option (Int × Hp) :=
  cl2 (F_M_all  σ) fun v12 s13 =>
  (if v12 < x1 then (
    some (0, s13)
  ) else (
    gd (0 ≤ x1 ∧ x1 < (4096 : Int)) <|
    lt (s13 32 x1.toNat) fun y2_17 =>
    F_M_away_30 k11 FU (x1, y2_17, 0, s13)
  ))
def F_M_away_11 : Nat → Int × Hp → Option (Int × Hp) := loopF (fun k11 a => F_M_away_11_b k11 a.1 a.2)
def F_M_away (σ : Hp) : Option (Int × Hp) :=
  cl2 (F_M_laysAll  σ) fun v18 s19 =>
  cl2 (F_M_mosts (-1) s19) fun v21 s22 =>
  F_M_away_11 FU (1, s22)
def F_M_blame (a1 : Int) (a2 : Int) (σ : Hp) : Option (Int × Hp) :=
  (if (σ 0 8) ≤ 0 then (
    lt (hset σ 0 8 a1) fun s2 =>
    lt (hset s2 0 9 a2) fun s3 =>
    some (0, s3)
  ) else (
    some (0, σ)
  ))
def F_M_lone_2_b (k2 : Int × Hp → Option (Int × Hp)) (x1 : Int) (σ : Hp) : Option (Int × Hp) :=
  gd (0 ≤ (σ 0 12) ∧ (σ 0 12) < (2 : Int)) <|
  (if (σ 2 (σ 0 12).toNat) ≤ x1 then (
    some ((-1), σ)
  ) else (
    gd (0 ≤ x1 ∧ x1 < (12 : Int)) <|
    cl2 (F_M_aloneOf x1 σ) fun v4 s5 =>
    (if 0 ≤ (lcmp (σ 45 x1.toNat) v4) then (
      lt (iadd x1 1) fun y1_8 =>
      k2 (y1_8, s5)
    ) else (
      some (x1, s5)
    ))
  ))
def F_M_lone_2 : Nat → Int × Hp → Option (Int × Hp) := loopF (fun k2 a => F_M_lone_2_b k2 a.1 a.2)
def F_M_lone (σ : Hp) : Option (Int × Hp) :=
  F_M_lone_2 FU (0, σ)
def F_M_breaks_77 (k21 : Int × Hp → Option (Int × Hp)) (x2 : Int) (σ : Hp) : Option (Int × Hp) :=
  lt (iadd x2 1) fun y2_1 =>
  k21 (y2_1, σ)
def F_M_breaks_21_b (k21 : Int × Hp → Option (Int × Hp)) (x2 : Int) (σ : Hp) : Option (Int × Hp) :=
  gd (0 ≤ (σ 0 12) ∧ (σ 0 12) < (2 : Int)) <|
  (if (σ 3 (σ 0 12).toNat) ≤ x2 then (
    some ((-1), σ)
  ) else (
    gd (0 ≤ x2 ∧ x2 < (30 : Int)) <|
    (if (σ 29 x2.toNat) = 0 then (
      F_M_breaks_77 k21 x2 σ
    ) else (
      cl2 (F_M_first x2 σ) fun v6 s7 =>
      gd (0 ≤ v6 ∧ v6 < (12 : Int)) <|
      cl2 (F_M_second x2 s7) fun v10 s11 =>
      gd (0 ≤ v10 ∧ v10 < (12 : Int)) <|
      gd (0 ≤ x2 ∧ x2 < (30 : Int)) <|
      (if 0 ≤ (lcmp (ladd (s7 45 v6.toNat) (s11 45 v10.toNat)) (s11 30 x2.toNat)) then (
        F_M_breaks_77 k21 x2 s11
      ) else (
        some (x2, s11)
      ))
    ))
  ))
def F_M_breaks_21 : Nat → Int × Hp → Option (Int × Hp) := loopF (fun k21 a => F_M_breaks_21_b k21 a.1 a.2)
def F_M_breaks (σ : Hp) : Option (Int × Hp) :=
  cl2 (F_M_laysAll  σ) fun v16 s17 =>
  cl2 (F_M_lone  s17) fun v19 s20 =>
  (if v19 = (-1) then (
    F_M_breaks_21 FU (0, s20)
  ) else (
    some (iadd 100 v19, s20)
  ))
def F_M_isWho (a1 : Int) (σ : Hp) : Option (Int × Hp) :=
  gd (0 ≤ (σ 0 12) ∧ (σ 0 12) < (2 : Int)) <|
  cl2 (F_M_is a1 0 (isub (σ 2 (σ 0 12).toNat) 1) σ) fun v2 s3 =>
  gd (v2 = 0 ∨ v2 = 1) <|
  some (v2, s3)
def F_M_otherOn_22 (a1 : Int) (a2 : Int) (t1 : Int) (σ : Hp) : Option (Int × Hp) :=
  some (t1, σ)
def F_M_otherOn (a1 : Int) (a2 : Int) (σ : Hp) : Option (Int × Hp) :=
  cl2 (F_M_first a1 σ) fun v1 s2 =>
  (if v1 = a2 then (
    cl2 (F_M_second a1 s2) fun v8 s9 =>
    F_M_otherOn_22 a1 a2 v8 s9
  ) else (
    cl2 (F_M_first a1 s2) fun v5 s6 =>
    F_M_otherOn_22 a1 a2 v5 s6
  ))
def F_M_elseOf_105 (k10 : Int × Int × Hp → Option (Int × Hp)) (a1 : Int) (x2 : Int) (x4 : Int) (σ : Hp) : Option (Int × Hp) :=
  lt (iadd x4 1) fun y4_1 =>
  k10 (x2, y4_1, σ)
def F_M_elseOf_104 (k10 : Int × Int × Hp → Option (Int × Hp)) (a1 : Int) (x4 : Int) (t1 : Int) (σ : Hp) : Option (Int × Hp) :=
  F_M_elseOf_105 k10 a1 t1 x4 σ
def F_M_elseOf_68 (k10 : Int × Int × Hp → Option (Int × Hp)) (a1 : Int) (x2 : Int) (x4 : Int) (σ : Hp) : Option (Int × Hp) :=
  gd (0 ≤ x4 ∧ x4 < (30 : Int)) <|
  cl2 (F_M_otherOn x4 a1 σ) fun v3 s4 =>
  gd (0 ≤ v3 ∧ v3 < (12 : Int)) <|
  lt (lsub (σ 30 x4.toNat) (s4 45 v3.toNat)) fun y5_7 =>
  (if (lcmp y5_7 x2) ≤ 0 then (
    F_M_elseOf_104 k10 a1 x4 x2 s4
  ) else (
    F_M_elseOf_104 k10 a1 x4 y5_7 s4
  ))
def F_M_elseOf_10_b (k10 : Int × Int × Hp → Option (Int × Hp)) (a1 : Int) (x2 : Int) (x4 : Int) (σ : Hp) : Option (Int × Hp) :=
  gd (0 ≤ (σ 0 12) ∧ (σ 0 12) < (2 : Int)) <|
  (if (σ 3 (σ 0 12).toNat) ≤ x4 then (
    some (x2, σ)
  ) else (
    gd (0 ≤ x4 ∧ x4 < (30 : Int)) <|
    (if (σ 29 x4.toNat) = 0 then (
      F_M_elseOf_105 k10 a1 x2 x4 σ
    ) else (
      gd (0 ≤ a1 ∧ a1 < (12 : Int)) <|
      (if x4 = (σ 44 a1.toNat) then (
        F_M_elseOf_105 k10 a1 x2 x4 σ
      ) else (
        cl2 (F_M_first x4 σ) fun v15 s16 =>
        (if v15 = a1 then (
          F_M_elseOf_68 k10 a1 x2 x4 s16
        ) else (
          cl2 (F_M_second x4 s16) fun v19 s20 =>
          (if v19 = a1 then (
            F_M_elseOf_68 k10 a1 x2 x4 s20
          ) else (
            F_M_elseOf_105 k10 a1 x2 x4 s20
          ))
        ))
      ))
    ))
  ))
def F_M_elseOf_10 (a1 : Int) : Nat → Int × Int × Hp → Option (Int × Hp) := loopF (fun k10 a => F_M_elseOf_10_b k10 a1 a.1 a.2.1 a.2.2)
def F_M_elseOf (a1 : Int) (σ : Hp) : Option (Int × Hp) :=
  cl2 (F_M_aloneOf a1 σ) fun v23 s24 =>
  F_M_elseOf_10 a1 FU (v23, 0, s24)
def F_M_turnsTo_128 (k12 : Int × Int × Int × Hp → Option (Int × Hp)) (a1 : Int) (x2 : Int) (x4 : Int) (x5 : Int) (σ : Hp) : Option (Int × Hp) :=
  lt (iadd x5 1) fun y5_1 =>
  k12 (x2, x4, y5_1, σ)
def F_M_turnsTo_124 (k12 : Int × Int × Int × Hp → Option (Int × Hp)) (a1 : Int) (x2 : Int) (x5 : Int) (x6 : Int) (σ : Hp) : Option (Int × Hp) :=
  F_M_turnsTo_128 k12 a1 x2 x6 x5 σ
def F_M_turnsTo_81 (k12 : Int × Int × Int × Hp → Option (Int × Hp)) (a1 : Int) (x2 : Int) (x4 : Int) (x5 : Int) (σ : Hp) : Option (Int × Hp) :=
  cl2 (F_M_otherOn x5 a1 σ) fun v2 s3 =>
  gd (0 ≤ x5 ∧ x5 < (30 : Int)) <|
  gd (0 ≤ v2 ∧ v2 < (12 : Int)) <|
  (if (lcmp (lsub (s3 30 x5.toNat) (s3 45 v2.toNat)) x2) = 0 then (
    (if x4 = (-1) then (
      F_M_turnsTo_124 k12 a1 x2 x5 v2 s3
    ) else (
      (if x4 ≤ v2 then (
        F_M_turnsTo_128 k12 a1 x2 x4 x5 s3
      ) else (
        F_M_turnsTo_124 k12 a1 x2 x5 v2 s3
      ))
    ))
  ) else (
    F_M_turnsTo_128 k12 a1 x2 x4 x5 s3
  ))
def F_M_turnsTo_134 (a1 : Int) (x4 : Int) (σ : Hp) : Option (Int × Hp) :=
  some (x4, σ)
def F_M_turnsTo_12_b (k12 : Int × Int × Int × Hp → Option (Int × Hp)) (a1 : Int) (x2 : Int) (x4 : Int) (x5 : Int) (σ : Hp) : Option (Int × Hp) :=
  gd (0 ≤ (σ 0 12) ∧ (σ 0 12) < (2 : Int)) <|
  (if (σ 3 (σ 0 12).toNat) ≤ x5 then (
    F_M_turnsTo_134 a1 x4 σ
  ) else (
    cl2 (F_M_aloneOf a1 σ) fun v12 s13 =>
    (if (lcmp x2 v12) ≤ 0 then (
      F_M_turnsTo_134 a1 x4 s13
    ) else (
      gd (0 ≤ x5 ∧ x5 < (30 : Int)) <|
      (if (s13 29 x5.toNat) = 0 then (
        F_M_turnsTo_128 k12 a1 x2 x4 x5 s13
      ) else (
        gd (0 ≤ a1 ∧ a1 < (12 : Int)) <|
        (if x5 = (s13 44 a1.toNat) then (
          F_M_turnsTo_128 k12 a1 x2 x4 x5 s13
        ) else (
          cl2 (F_M_first x5 s13) fun v20 s21 =>
          (if v20 = a1 then (
            F_M_turnsTo_81 k12 a1 x2 x4 x5 s21
          ) else (
            cl2 (F_M_second x5 s21) fun v24 s25 =>
            (if v24 = a1 then (
              F_M_turnsTo_81 k12 a1 x2 x4 x5 s25
            ) else (
              F_M_turnsTo_128 k12 a1 x2 x4 x5 s25
            ))
          ))
        ))
      ))
    ))
  ))
def F_M_turnsTo_12 (a1 : Int) : Nat → Int × Int × Int × Hp → Option (Int × Hp) := loopF (fun k12 a => F_M_turnsTo_12_b k12 a1 a.1 a.2.1 a.2.2.1 a.2.2.2)
def F_M_turnsTo (a1 : Int) (σ : Hp) : Option (Int × Hp) :=
  cl2 (F_M_elseOf a1 σ) fun v28 s29 =>
  F_M_turnsTo_12 a1 FU (v28, (-1), 0, s29)
def F_M_chain_12 (a1 : Int) (a2 : Int) (σ : Hp) : Option (Int × Hp) :=
  some ((-1), σ)
def F_M_chain_71 (a1 : Int) (a2 : Int) (σ : Hp) : Option (Int × Hp) :=
  some ((-1), σ)
def F_M_chain_26_b (k26 : Int × Int × Int × Hp → Option (Int × Hp)) (a1 : Int) (a2 : Int) (x3 : Int) (x4 : Int) (x5 : Int) (σ : Hp) : Option (Int × Hp) :=
  (if x4 = (-1) then (
    F_M_chain_71 a1 a2 σ
  ) else (
    (if (iand (ishr x3 x4) 1) = 0 then (
      (if x5 = a2 then (
        some (x4, σ)
      ) else (
        lt (ior x3 (ishl 1 x4)) fun y3_4 =>
        lt (iadd x5 1) fun y5_5 =>
        cl2 (F_M_turnsTo x4 σ) fun v6 s7 =>
        k26 (y3_4, v6, y5_5, s7)
      ))
    ) else (
      F_M_chain_71 a1 a2 σ
    ))
  ))
def F_M_chain_26 (a1 : Int) (a2 : Int) : Nat → Int × Int × Int × Hp → Option (Int × Hp) := loopF (fun k26 a => F_M_chain_26_b k26 a1 a2 a.1 a.2.1 a.2.2.1 a.2.2.2)
def F_M_chain (a1 : Int) (a2 : Int) (σ : Hp) : Option (Int × Hp) :=
  cl2 (F_M_isWho a1 σ) fun v9 s10 =>
  (if v9 = 0 then (
    F_M_chain_12 a1 a2 s10
  ) else (
    (if 0 ≤ a2 then (
      cl2 (F_M_laysAll  s10) fun v14 s15 =>
      F_M_chain_26 a1 a2 FU (0, a1, 0, s15)
    ) else (
      F_M_chain_12 a1 a2 s10
    ))
  ))
def F_M_finds_186 (k48 : Int × Int × Int × Hp → Option (Int × Hp)) (x1 : Int) (x2 : Int) (x3 : Int) (σ : Hp) : Option (Int × Hp) :=
  lt (iadd x3 1) fun y3_1 =>
  k48 (x1, x2, y3_1, σ)
def F_M_finds_192 (σ : Hp) : Option (Int × Hp) :=
  some (0, σ)
def F_M_finds_48_b (k48 : Int × Int × Int × Hp → Option (Int × Hp)) (x1 : Int) (x2 : Int) (x3 : Int) (σ : Hp) : Option (Int × Hp) :=
  gd (0 ≤ (σ 0 12) ∧ (σ 0 12) < (2 : Int)) <|
  (if (σ 3 (σ 0 12).toNat) ≤ x3 then (
    F_M_finds_192 σ
  ) else (
    (if x1 ≤ 0 then (
      F_M_finds_192 σ
    ) else (
      cl2 (F_M_first x3 σ) fun v5 s6 =>
      cl2 (F_M_second x3 s6) fun v8 s9 =>
      lt (ior (ishl 1 v5) (ishl 1 v8)) fun y4_11 =>
      cl2 (F_M_gainOf x3 s9) fun v12 s13 =>
      (if v12 = 0 then (
        F_M_finds_186 k48 x1 x2 x3 s13
      ) else (
        (if (iand x2 y4_11) = y4_11 then (
          cl2 (F_M_mosts x3 s13) fun v17 s18 =>
          gd (0 ≤ (iand x2 (ixor y4_11 (-1))) ∧ (iand x2 (ixor y4_11 (-1))) < (4096 : Int)) <|
          (if (iadd v12 (s18 32 (iand x2 (ixor y4_11 (-1))).toNat)) = x1 then (
            gd (0 ≤ (s18 0 56) ∧ (s18 0 56) < (6 : Int)) <|
            lt (hset s18 36 (s18 0 56).toNat x3) fun s23 =>
            lt (hset s23 0 56 (iadd (s23 0 56) 1)) fun s24 =>
            lt (isub x1 v12) fun y1_25 =>
            lt (iand x2 (ixor y4_11 (-1))) fun y2_26 =>
            cl2 (F_M_first x3 s24) fun v27 s28 =>
            gd (0 ≤ v27 ∧ v27 < (12 : Int)) <|
            lt (hset s28 37 v27.toNat x3) fun s31 =>
            cl2 (F_M_second x3 s31) fun v32 s33 =>
            gd (0 ≤ v32 ∧ v32 < (12 : Int)) <|
            lt (hset s33 37 v32.toNat x3) fun s36 =>
            F_M_finds_186 k48 y1_25 y2_26 x3 s36
          ) else (
            F_M_finds_186 k48 x1 x2 x3 s18
          ))
        ) else (
          F_M_finds_186 k48 x1 x2 x3 s13
        ))
      ))
    ))
  ))
def F_M_finds_48 : Nat → Int × Int × Int × Hp → Option (Int × Hp) := loopF (fun k48 a => F_M_finds_48_b k48 a.1 a.2.1 a.2.2.1 a.2.2.2)
def F_M_finds_7_b (k7 : Int × Hp → Option (Int × Hp)) (x1 : Int) (σ : Hp) : Option (Int × Hp) :=
  (if 12 ≤ x1 then (
    cl2 (F_M_mosts (-1) σ) fun v38 s39 =>
    cl2 (F_M_all  s39) fun v41 s42 =>
    gd (0 ≤ v41 ∧ v41 < (4096 : Int)) <|
    lt (s42 32 v41.toNat) fun y1_45 =>
    cl2 (F_M_all  s42) fun v46 s47 =>
    F_M_finds_48 FU (y1_45, v46, 0, s47)
  ) else (
    gd (0 ≤ x1 ∧ x1 < (12 : Int)) <|
    lt (hset σ 37 x1.toNat (-1)) fun s50 =>
    lt (iadd x1 1) fun y1_51 =>
    k7 (y1_51, s50)
  ))
def F_M_finds_7 : Nat → Int × Hp → Option (Int × Hp) := loopF (fun k7 a => F_M_finds_7_b k7 a.1 a.2)
def F_M_finds (σ : Hp) : Option (Int × Hp) :=
  lt (hset σ 0 56 0) fun s52 =>
  F_M_finds_7 FU (0, s52)
def F_M_together (a1 : Int) (a2 : Int) (a3 : Int) (σ : Hp) : Option (Int × Hp) :=
  cl2 (F_M_bound (imul 2 a2) (iadd (imul 2 a1) 1) (lneg a3) σ) fun v1 s2 =>
  cl2 (F_M_bound (imul 2 a1) (iadd (imul 2 a2) 1) (lneg a3) s2) fun v4 s5 =>
  some (0, s5)
def F_M_notMore (a1 : Int) (a2 : Int) (a3 : Int) (σ : Hp) : Option (Int × Hp) :=
  cl2 (F_M_bound (iadd (imul 2 a2) 1) (imul 2 a1) a3 σ) fun v1 s2 =>
  cl2 (F_M_bound (iadd (imul 2 a1) 1) (imul 2 a2) a3 s2) fun v4 s5 =>
  some (0, s5)
def F_M_ends_36 (k6 : Int × Hp → Option (Int × Hp)) (x1 : Int) (t3 : Int) (t2 : Int) (σ : Hp) : Option (Int × Hp) :=
  gd (0 ≤ t2 ∧ t2 < (576 : Int)) <|
  lt (hset σ 38 t2.toNat t3) fun s2 =>
  lt (iadd x1 1) fun y1_3 =>
  k6 (y1_3, s2)
def F_M_ends_90 (k45 : Int × Hp → Option (Int × Hp)) (x1 : Int) (σ : Hp) : Option (Int × Hp) :=
  lt (iadd x1 1) fun y1_4 =>
  k45 (y1_4, σ)
def F_M_ends_179 (k98 : Int × Hp → Option (Int × Hp)) (x1 : Int) (σ : Hp) : Option (Int × Hp) :=
  lt (iadd x1 1) fun y1_5 =>
  k98 (y1_5, σ)
def F_M_ends_274 (k203 : Int × Int × Int × Hp → Option (Int × Hp)) (x1 : Int) (x2 : Int) (x3 : Int) (σ : Hp) : Option (Int × Hp) :=
  lt (iadd x3 1) fun y3_6 =>
  k203 (x1, x2, y3_6, σ)
def F_M_ends_203_b (k195 : Int × Int × Hp → Option (Int × Hp)) (k203 : Int × Int × Int × Hp → Option (Int × Hp)) (x1 : Int) (x2 : Int) (x3 : Int) (σ : Hp) : Option (Int × Hp) :=
  (if 24 ≤ x3 then (
    lt (iadd x2 1) fun y2_8 =>
    k195 (x1, y2_8, σ)
  ) else (
    gd (0 ≤ (iadd (imul 24 x2) x1) ∧ (iadd (imul 24 x2) x1) < (576 : Int)) <|
    (if 0 ≤ (lcmp (σ 38 (iadd (imul 24 x2) x1).toNat) 1000000000000) then (
      F_M_ends_274 k203 x1 x2 x3 σ
    ) else (
      gd (0 ≤ (iadd (imul 24 x1) x3) ∧ (iadd (imul 24 x1) x3) < (576 : Int)) <|
      (if 0 ≤ (lcmp (σ 38 (iadd (imul 24 x1) x3).toNat) 1000000000000) then (
        F_M_ends_274 k203 x1 x2 x3 σ
      ) else (
        gd (0 ≤ (iadd (imul 24 x2) x1) ∧ (iadd (imul 24 x2) x1) < (576 : Int)) <|
        gd (0 ≤ (iadd (imul 24 x1) x3) ∧ (iadd (imul 24 x1) x3) < (576 : Int)) <|
        cl2 (F_M_bound x2 x3 (ladd (σ 38 (iadd (imul 24 x2) x1).toNat) (σ 38 (iadd (imul 24 x1) x3).toNat)) σ) fun v15 s16 =>
        F_M_ends_274 k203 x1 x2 x3 s16
      ))
    ))
  ))
def F_M_ends_203 (k195 : Int × Int × Hp → Option (Int × Hp)) : Nat → Int × Int × Int × Hp → Option (Int × Hp) := loopF (fun k203 a => F_M_ends_203_b k195 k203 a.1 a.2.1 a.2.2.1 a.2.2.2)
def F_M_ends_195_b (k187 : Int × Hp → Option (Int × Hp)) (k195 : Int × Int × Hp → Option (Int × Hp)) (x1 : Int) (x2 : Int) (σ : Hp) : Option (Int × Hp) :=
  (if 24 ≤ x2 then (
    lt (iadd x1 1) fun y1_19 =>
    k187 (y1_19, σ)
  ) else (
    F_M_ends_203 k195 FU (x1, x2, 0, σ)
  ))
def F_M_ends_195 (k187 : Int × Hp → Option (Int × Hp)) : Nat → Int × Int × Hp → Option (Int × Hp) := loopF (fun k195 a => F_M_ends_195_b k187 k195 a.1 a.2.1 a.2.2)
def F_M_ends_294_b (k294 : Int × Hp → Option (Int × Hp)) (x1 : Int) (σ : Hp) : Option (Int × Hp) :=
  (if 24 ≤ x1 then (
    some (1, σ)
  ) else (
    gd (0 ≤ (imul 25 x1) ∧ (imul 25 x1) < (576 : Int)) <|
    (if 0 ≤ (lcmp (σ 38 (imul 25 x1).toNat) 0) then (
      lt (iadd x1 1) fun y1_23 =>
      k294 (y1_23, σ)
    ) else (
      some (0, σ)
    ))
  ))
def F_M_ends_294 : Nat → Int × Hp → Option (Int × Hp) := loopF (fun k294 a => F_M_ends_294_b k294 a.1 a.2)
def F_M_ends_187_b (k187 : Int × Hp → Option (Int × Hp)) (x1 : Int) (σ : Hp) : Option (Int × Hp) :=
  (if 24 ≤ x1 then (
    F_M_ends_294 FU (0, σ)
  ) else (
    F_M_ends_195 k187 FU (x1, 0, σ)
  ))
def F_M_ends_187 : Nat → Int × Hp → Option (Int × Hp) := loopF (fun k187 a => F_M_ends_187_b k187 a.1 a.2)
def F_M_ends_98_b (k98 : Int × Hp → Option (Int × Hp)) (x1 : Int) (σ : Hp) : Option (Int × Hp) :=
  gd (0 ≤ (σ 0 12) ∧ (σ 0 12) < (2 : Int)) <|
  (if (σ 3 (σ 0 12).toNat) ≤ x1 then (
    F_M_ends_187 FU (0, σ)
  ) else (
    gd (0 ≤ x1 ∧ x1 < (30 : Int)) <|
    (if (σ 29 x1.toNat) = 0 then (
      F_M_ends_179 k98 x1 σ
    ) else (
      cl2 (F_M_first x1 σ) fun v29 s30 =>
      cl2 (F_M_second x1 s30) fun v32 s33 =>
      gd (0 ≤ x1 ∧ x1 < (30 : Int)) <|
      cl2 (F_M_together v29 v32 (s33 30 x1.toNat) s33) fun v36 s37 =>
      cl2 (F_M_first x1 s37) fun v39 s40 =>
      gd (0 ≤ v39 ∧ v39 < (12 : Int)) <|
      (if (s40 37 v39.toNat) = x1 then (
        cl2 (F_M_first x1 s40) fun v44 s45 =>
        cl2 (F_M_second x1 s45) fun v47 s48 =>
        gd (0 ≤ x1 ∧ x1 < (30 : Int)) <|
        cl2 (F_M_notMore v44 v47 (s48 30 x1.toNat) s48) fun v51 s52 =>
        F_M_ends_179 k98 x1 s52
      ) else (
        F_M_ends_179 k98 x1 s40
      ))
    ))
  ))
def F_M_ends_98 : Nat → Int × Hp → Option (Int × Hp) := loopF (fun k98 a => F_M_ends_98_b k98 a.1 a.2)
def F_M_ends_45_b (k45 : Int × Hp → Option (Int × Hp)) (x1 : Int) (σ : Hp) : Option (Int × Hp) :=
  gd (0 ≤ (σ 0 12) ∧ (σ 0 12) < (2 : Int)) <|
  (if (σ 2 (σ 0 12).toNat) ≤ x1 then (
    F_M_ends_98 FU (0, σ)
  ) else (
    cl2 (F_M_aloneOf x1 σ) fun v56 s57 =>
    cl2 (F_M_atLeast x1 v56 s57) fun v59 s60 =>
    gd (0 ≤ x1 ∧ x1 < (12 : Int)) <|
    (if (s60 37 x1.toNat) = (-1) then (
      cl2 (F_M_aloneOf x1 s60) fun v64 s65 =>
      cl2 (F_M_atMost x1 v64 s65) fun v67 s68 =>
      F_M_ends_90 k45 x1 s68
    ) else (
      F_M_ends_90 k45 x1 s60
    ))
  ))
def F_M_ends_45 : Nat → Int × Hp → Option (Int × Hp) := loopF (fun k45 a => F_M_ends_45_b k45 a.1 a.2)
def F_M_ends_6_b (k6 : Int × Hp → Option (Int × Hp)) (x1 : Int) (σ : Hp) : Option (Int × Hp) :=
  (if 576 ≤ x1 then (
    F_M_ends_45 FU (0, σ)
  ) else (
    (if (idiv x1 24) = (irem x1 24) then (
      F_M_ends_36 k6 x1 0 x1 σ
    ) else (
      F_M_ends_36 k6 x1 1000000000000 x1 σ
    ))
  ))
def F_M_ends_6 : Nat → Int × Hp → Option (Int × Hp) := loopF (fun k6 a => F_M_ends_6_b k6 a.1 a.2)
def F_M_ends (σ : Hp) : Option (Int × Hp) :=
  cl2 (F_M_finds  σ) fun v72 s73 =>
  F_M_ends_6 FU (0, s73)
def F_M_leastOf (a1 : Int) (σ : Hp) : Option (Int × Hp) :=
  gd (0 ≤ (iadd (iadd (imul 24 (imul 2 a1)) (imul 2 a1)) 1) ∧ (iadd (iadd (imul 24 (imul 2 a1)) (imul 2 a1)) 1) < (576 : Int)) <|
  some (w32 (lneg (σ 38 (iadd (iadd (imul 24 (imul 2 a1)) (imul 2 a1)) 1).toNat)), σ)
def F_M_greatestOf (a1 : Int) (σ : Hp) : Option (Int × Hp) :=
  gd (0 ≤ (iadd (imul 24 (iadd (imul 2 a1) 1)) (imul 2 a1)) ∧ (iadd (imul 24 (iadd (imul 2 a1) 1)) (imul 2 a1)) < (576 : Int)) <|
  some (w32 (σ 38 (iadd (imul 24 (iadd (imul 2 a1) 1)) (imul 2 a1)).toNat), σ)
def F_M_changes_102 (a1 : Int) (a2 : Int) (a3 : Int) (t1 : Int) (σ : Hp) : Option (Int × Hp) :=
  some (t1, σ)
def F_M_changes_94 (a1 : Int) (a2 : Int) (a3 : Int) (σ : Hp) : Option (Int × Hp) :=
  F_M_changes_102 a1 a2 a3 0 σ
def F_M_changes_83 (a1 : Int) (a2 : Int) (a3 : Int) (x4 : Int) (x5 : Int) (σ : Hp) : Option (Int × Hp) :=
  (if a3 = 0 then (
    (if x4 = x5 then (
      F_M_changes_94 a1 a2 a3 σ
    ) else (
      cl2 (F_M_all  σ) fun v3 s4 =>
      F_M_changes_102 a1 a2 a3 v3 s4
    ))
  ) else (
    F_M_changes_94 a1 a2 a3 σ
  ))
def F_M_changes_205 (k109 : Int × Int × Hp → Option (Int × Hp)) (a1 : Int) (a2 : Int) (a3 : Int) (x7 : Int) (t2 : Int) (t1 : Int) (σ : Hp) : Option (Int × Hp) :=
  lt (ior t1 t2) fun y6_6 =>
  lt (iadd x7 1) fun y7_7 =>
  k109 (y6_6, y7_7, σ)
def F_M_changes_188 (k109 : Int × Int × Hp → Option (Int × Hp)) (a1 : Int) (a2 : Int) (a3 : Int) (x6 : Int) (x7 : Int) (t1 : Int) (σ : Hp) : Option (Int × Hp) :=
  (if t1 = 0 then (
    F_M_changes_205 k109 a1 a2 a3 x7 0 x6 σ
  ) else (
    F_M_changes_205 k109 a1 a2 a3 x7 (ishl 1 x7) x6 σ
  ))
def F_M_changes_183 (k109 : Int × Int × Hp → Option (Int × Hp)) (a1 : Int) (a2 : Int) (a3 : Int) (x6 : Int) (x7 : Int) (σ : Hp) : Option (Int × Hp) :=
  F_M_changes_188 k109 a1 a2 a3 x6 x7 1 σ
def F_M_changes_109_b (k109 : Int × Int × Hp → Option (Int × Hp)) (a1 : Int) (a2 : Int) (a3 : Int) (x6 : Int) (x7 : Int) (σ : Hp) : Option (Int × Hp) :=
  gd (0 ≤ (σ 0 12) ∧ (σ 0 12) < (2 : Int)) <|
  (if (σ 2 (σ 0 12).toNat) ≤ x7 then (
    some (x6, σ)
  ) else (
    (if a3 = 0 then (
      cl2 (F_M_leastOf x7 σ) fun v12 s13 =>
      gd (0 ≤ x7 ∧ x7 < (12 : Int)) <|
      (if v12 = (s13 39 x7.toNat) then (
        cl2 (F_M_greatestOf x7 s13) fun v17 s18 =>
        gd (0 ≤ x7 ∧ x7 < (12 : Int)) <|
        (if v17 = (s18 40 x7.toNat) then (
          F_M_changes_188 k109 a1 a2 a3 x6 x7 0 s18
        ) else (
          F_M_changes_183 k109 a1 a2 a3 x6 x7 s18
        ))
      ) else (
        F_M_changes_183 k109 a1 a2 a3 x6 x7 s13
      ))
    ) else (
      cl2 (F_M_leastOf x7 σ) fun v22 s23 =>
      gd (0 ≤ x7 ∧ x7 < (12 : Int)) <|
      (if v22 ≤ (s23 39 x7.toNat) then (
        F_M_changes_188 k109 a1 a2 a3 x6 x7 0 s23
      ) else (
        F_M_changes_188 k109 a1 a2 a3 x6 x7 1 s23
      ))
    ))
  ))
def F_M_changes_109 (a1 : Int) (a2 : Int) (a3 : Int) : Nat → Int × Int × Hp → Option (Int × Hp) := loopF (fun k109 a => F_M_changes_109_b k109 a1 a2 a3 a.1 a.2.1 a.2.2)
def F_M_changes_15_b (k15 : Int × Int × Hp → Option (Int × Hp)) (a1 : Int) (a2 : Int) (a3 : Int) (x4 : Int) (x5 : Int) (σ : Hp) : Option (Int × Hp) :=
  gd (0 ≤ (σ 0 12) ∧ (σ 0 12) < (2 : Int)) <|
  (if (σ 2 (σ 0 12).toNat) ≤ x5 then (
    cl2 (F_M_lays a1 a2 σ) fun v29 s30 =>
    cl2 (F_M_ends  s30) fun v32 s33 =>
    (if x4 = 0 then (
      F_M_changes_83 a1 a2 a3 x4 v32 s33
    ) else (
      (if v32 = 0 then (
        F_M_changes_83 a1 a2 a3 x4 v32 s33
      ) else (
        F_M_changes_109 a1 a2 a3 FU (0, 0, s33)
      ))
    ))
  ) else (
    cl2 (F_M_leastOf x5 σ) fun v37 s38 =>
    gd (0 ≤ x5 ∧ x5 < (12 : Int)) <|
    lt (hset s38 39 x5.toNat v37) fun s41 =>
    cl2 (F_M_greatestOf x5 s41) fun v42 s43 =>
    gd (0 ≤ x5 ∧ x5 < (12 : Int)) <|
    lt (hset s43 40 x5.toNat v42) fun s46 =>
    lt (iadd x5 1) fun y5_47 =>
    k15 (x4, y5_47, s46)
  ))
def F_M_changes_15 (a1 : Int) (a2 : Int) (a3 : Int) : Nat → Int × Int × Hp → Option (Int × Hp) := loopF (fun k15 a => F_M_changes_15_b k15 a1 a2 a3 a.1 a.2.1 a.2.2)
def F_M_changes (a1 : Int) (a2 : Int) (a3 : Int) (σ : Hp) : Option (Int × Hp) :=
  cl2 (F_M_lays (-1) 0 σ) fun v48 s49 =>
  cl2 (F_M_ends  s49) fun v51 s52 =>
  F_M_changes_15 a1 a2 a3 FU (v51, 0, s52)
def F_M_isLetter_17 (a0 : Int) (t1 : Int) (σ : Hp) : Option (Int × Hp) :=
  gd (t1 = 0 ∨ t1 = 1) <|
  some (t1, σ)
def F_M_isLetter_16 (a0 : Int) (σ : Hp) : Option (Int × Hp) :=
  F_M_isLetter_17 a0 0 σ
def F_M_isLetter (a0 : Int) (σ : Hp) : Option (Int × Hp) :=
  (if a0 < 97 then (
    F_M_isLetter_16 a0 σ
  ) else (
    (if 122 < a0 then (
      F_M_isLetter_16 a0 σ
    ) else (
      F_M_isLetter_17 a0 1 σ
    ))
  ))
def F_M_isDigit_17 (a0 : Int) (t1 : Int) (σ : Hp) : Option (Int × Hp) :=
  gd (t1 = 0 ∨ t1 = 1) <|
  some (t1, σ)
def F_M_isDigit_16 (a0 : Int) (σ : Hp) : Option (Int × Hp) :=
  F_M_isDigit_17 a0 0 σ
def F_M_isDigit (a0 : Int) (σ : Hp) : Option (Int × Hp) :=
  (if a0 < 48 then (
    F_M_isDigit_16 a0 σ
  ) else (
    (if 57 < a0 then (
      F_M_isDigit_16 a0 σ
    ) else (
      F_M_isDigit_17 a0 1 σ
    ))
  ))
def F_M_next_35 (k5 : Int × Hp → Option (Int × Hp)) (x1 : Int) (σ : Hp) : Option (Int × Hp) :=
  lt (iadd x1 1) fun y1_1 =>
  k5 (y1_1, σ)
def F_M_next_314 (k200 : Int × Int × Int × Int × Int × Hp → Option (Int × Hp)) (x1 : Int) (x2 : Int) (x3 : Int) (x4 : Int) (x5 : Int) (σ : Hp) : Option (Int × Hp) :=
  lt (iadd x5 1) fun y5_2 =>
  lt (iadd x1 1) fun y1_3 =>
  k200 (y1_3, x2, x3, x4, y5_2, σ)
def F_M_next_282 (k200 : Int × Int × Int × Int × Int × Hp → Option (Int × Hp)) (x1 : Int) (x2 : Int) (x3 : Int) (x4 : Int) (x5 : Int) (σ : Hp) : Option (Int × Hp) :=
  (if x4 ≤ x5 then (
    F_M_next_314 k200 x1 x2 x3 x4 x5 σ
  ) else (
    (if x3 = 0 then (
      F_M_next_314 k200 x1 x2 x3 x4 x5 σ
    ) else (
      gd (0 ≤ x1 ∧ x1 < (900 : Int)) <|
      lt (hset σ 0 6 (isub (iadd (imul 10 (σ 0 6)) (σ 1 x1.toNat)) 48)) fun s7 =>
      F_M_next_314 k200 x1 x2 x3 x4 x5 s7
    ))
  ))
def F_M_next_252 (k200 : Int × Int × Int × Int × Int × Hp → Option (Int × Hp)) (x1 : Int) (x2 : Int) (x3 : Int) (x4 : Int) (x5 : Int) (σ : Hp) : Option (Int × Hp) :=
  (if x4 ≤ x5 then (
    F_M_next_282 k200 x1 x2 x3 x4 x5 σ
  ) else (
    (if x2 = 0 then (
      F_M_next_282 k200 x1 x2 x3 x4 x5 σ
    ) else (
      gd (0 ≤ x1 ∧ x1 < (900 : Int)) <|
      lt (hset σ 0 7 (lor (lshl (σ 0 7) 8) (σ 1 x1.toNat))) fun s11 =>
      F_M_next_282 k200 x1 x2 x3 x4 x5 s11
    ))
  ))
def F_M_next_239 (k200 : Int × Int × Int × Int × Int × Hp → Option (Int × Hp)) (x1 : Int) (x2 : Int) (x3 : Int) (x4 : Int) (x5 : Int) (σ : Hp) : Option (Int × Hp) :=
  (if x5 = x4 then (
    cl2 (F_M_blame 1 x1 σ) fun v13 s14 =>
    F_M_next_252 k200 x1 x2 x3 x4 x5 s14
  ) else (
    F_M_next_252 k200 x1 x2 x3 x4 x5 σ
  ))
def F_M_next_323 (x1 : Int) (σ : Hp) : Option (Int × Hp) :=
  lt (hset σ 0 5 x1) fun s16 =>
  some (0, s16)
def F_M_next_200_b (k200 : Int × Int × Int × Int × Int × Hp → Option (Int × Hp)) (x1 : Int) (x2 : Int) (x3 : Int) (x4 : Int) (x5 : Int) (σ : Hp) : Option (Int × Hp) :=
  (if (σ 0 2) ≤ x1 then (
    F_M_next_323 x1 σ
  ) else (
    (if x2 = 0 then (
      gd (0 ≤ x1 ∧ x1 < (900 : Int)) <|
      cl2 (F_M_isDigit (σ 1 x1.toNat) σ) fun v20 s21 =>
      (if v20 = 0 then (
        F_M_next_323 x1 s21
      ) else (
        F_M_next_239 k200 x1 x2 x3 x4 x5 s21
      ))
    ) else (
      gd (0 ≤ x1 ∧ x1 < (900 : Int)) <|
      cl2 (F_M_isLetter (σ 1 x1.toNat) σ) fun v25 s26 =>
      (if v25 = 0 then (
        F_M_next_323 x1 s26
      ) else (
        F_M_next_239 k200 x1 x2 x3 x4 x5 s26
      ))
    ))
  ))
def F_M_next_200 : Nat → Int × Int × Int × Int × Int × Hp → Option (Int × Hp) := loopF (fun k200 a => F_M_next_200_b k200 a.1 a.2.1 a.2.2.1 a.2.2.2.1 a.2.2.2.2.1 a.2.2.2.2.2)
def F_M_next_195 (x1 : Int) (x2 : Int) (x3 : Int) (t1 : Int) (σ : Hp) : Option (Int × Hp) :=
  F_M_next_200 FU (x1, x2, x3, t1, 0, σ)
def F_M_next_182 (x1 : Int) (x2 : Int) (x3 : Int) (t2 : Int) (σ : Hp) : Option (Int × Hp) :=
  lt (hset σ 0 3 t2) fun s29 =>
  (if x2 = 0 then (
    F_M_next_195 x1 x2 x3 4 s29
  ) else (
    F_M_next_195 x1 x2 x3 6 s29
  ))
def F_M_next_172 (x1 : Int) (x2 : Int) (x3 : Int) (σ : Hp) : Option (Int × Hp) :=
  (if x2 = 0 then (
    F_M_next_182 x1 x2 x3 2 σ
  ) else (
    F_M_next_182 x1 x2 x3 1 σ
  ))
def F_M_next_131 (x1 : Int) (x2 : Int) (x3 : Int) (σ : Hp) : Option (Int × Hp) :=
  lt (hset σ 0 6 0) fun s32 =>
  lt (hset s32 0 7 0) fun s33 =>
  lt (hset s33 0 3 3) fun s34 =>
  lt (hset s34 0 5 (iadd x1 1)) fun s35 =>
  (if x2 = 0 then (
    (if x3 = 0 then (
      gd (0 ≤ x1 ∧ x1 < (900 : Int)) <|
      lt (hset s35 0 6 (s35 1 x1.toNat)) fun s39 =>
      some (0, s39)
    ) else (
      F_M_next_172 x1 x2 x3 s35
    ))
  ) else (
    F_M_next_172 x1 x2 x3 s35
  ))
def F_M_next_125 (x1 : Int) (x2 : Int) (x3 : Int) (σ : Hp) : Option (Int × Hp) :=
  cl2 (F_M_blame 1 x1 σ) fun v40 s41 =>
  F_M_next_131 x1 x2 x3 s41
def F_M_next_93 (x1 : Int) (x2 : Int) (x3 : Int) (σ : Hp) : Option (Int × Hp) :=
  (if x1 ≤ 0 then (
    F_M_next_131 x1 x2 x3 σ
  ) else (
    gd (0 ≤ (isub x1 1) ∧ (isub x1 1) < (900 : Int)) <|
    cl2 (F_M_isLetter (σ 1 (isub x1 1).toNat) σ) fun v45 s46 =>
    (if v45 = 0 then (
      gd (0 ≤ (isub x1 1) ∧ (isub x1 1) < (900 : Int)) <|
      cl2 (F_M_isDigit (s46 1 (isub x1 1).toNat) s46) fun v50 s51 =>
      (if v50 = 0 then (
        F_M_next_131 x1 x2 x3 s51
      ) else (
        F_M_next_125 x1 x2 x3 s51
      ))
    ) else (
      F_M_next_125 x1 x2 x3 s46
    ))
  ))
def F_M_next_41 (x1 : Int) (σ : Hp) : Option (Int × Hp) :=
  lt (hset σ 0 4 x1) fun s54 =>
  lt (hset s54 0 5 x1) fun s55 =>
  lt (hset s55 0 3 0) fun s56 =>
  (if x1 < (s56 0 2) then (
    gd (0 ≤ x1 ∧ x1 < (900 : Int)) <|
    cl2 (F_M_isLetter (s56 1 x1.toNat) s56) fun v59 s60 =>
    gd (0 ≤ x1 ∧ x1 < (900 : Int)) <|
    cl2 (F_M_isDigit (s60 1 x1.toNat) s60) fun v63 s64 =>
    (if v59 = 0 then (
      (if v63 = 0 then (
        F_M_next_131 x1 v59 v63 s64
      ) else (
        F_M_next_93 x1 v59 v63 s64
      ))
    ) else (
      F_M_next_93 x1 v59 v63 s64
    ))
  ) else (
    some (0, s56)
  ))
def F_M_next_5_b (k5 : Int × Hp → Option (Int × Hp)) (x1 : Int) (σ : Hp) : Option (Int × Hp) :=
  (if (σ 0 2) ≤ x1 then (
    F_M_next_41 x1 σ
  ) else (
    gd (0 ≤ x1 ∧ x1 < (900 : Int)) <|
    (if (σ 1 x1.toNat) = 32 then (
      F_M_next_35 k5 x1 σ
    ) else (
      gd (0 ≤ x1 ∧ x1 < (900 : Int)) <|
      (if (σ 1 x1.toNat) = 10 then (
        F_M_next_35 k5 x1 σ
      ) else (
        F_M_next_41 x1 σ
      ))
    ))
  ))
def F_M_next_5 : Nat → Int × Hp → Option (Int × Hp) := loopF (fun k5 a => F_M_next_5_b k5 a.1 a.2)
def F_M_next (σ : Hp) : Option (Int × Hp) :=
  lt (σ 0 5) fun y1_73 =>
  F_M_next_5 FU (y1_73, σ)
def F_M_counts_24 (a1 : Int) (σ : Hp) : Option (Int × Hp) :=
  some (0, σ)
def F_M_counts_13 (a1 : Int) (σ : Hp) : Option (Int × Hp) :=
  (if (σ 0 8) = 0 then (
    cl2 (F_M_next  σ) fun v2 s3 =>
    F_M_counts_24 a1 s3
  ) else (
    F_M_counts_24 a1 σ
  ))
def F_M_counts (a1 : Int) (σ : Hp) : Option (Int × Hp) :=
  (if a1 = 0 then (
    F_M_counts_13 a1 σ
  ) else (
    cl2 (F_M_blame 5 (σ 0 4) σ) fun v6 s7 =>
    F_M_counts_13 a1 s7
  ))
def F_M_day (a1 : Int) (σ : Hp) : Option (Int × Hp) :=
  cl2 (F_M_is a1 0 999 σ) fun v1 s2 =>
  (if v1 = 0 then (
    some (0, s2)
  ) else (
    lt (hset s2 0 42 a1) fun s5 =>
    some (1, s5)
  ))
def F_M_isRoad (a1 : Int) (σ : Hp) : Option (Int × Hp) :=
  gd (0 ≤ (σ 0 12) ∧ (σ 0 12) < (2 : Int)) <|
  cl2 (F_M_is a1 0 (isub (σ 3 (σ 0 12).toNat) 1) σ) fun v2 s3 =>
  gd (v2 = 0 ∨ v2 = 1) <|
  some (v2, s3)
def F_M_deals_32 (k4 : Int × Int × Hp → Option (Int × Hp)) (x2 : Int) (t2 : Int) (t1 : Int) (σ : Hp) : Option (Int × Hp) :=
  lt (iadd t1 t2) fun y1_1 =>
  lt (iadd x2 1) fun y2_2 =>
  k4 (y1_1, y2_2, σ)
def F_M_deals_4_b (k4 : Int × Int × Hp → Option (Int × Hp)) (x1 : Int) (x2 : Int) (σ : Hp) : Option (Int × Hp) :=
  gd (0 ≤ (σ 0 12) ∧ (σ 0 12) < (2 : Int)) <|
  (if (σ 3 (σ 0 12).toNat) ≤ x2 then (
    some (x1, σ)
  ) else (
    gd (0 ≤ x2 ∧ x2 < (30 : Int)) <|
    (if (σ 42 x2.toNat) = 0 then (
      F_M_deals_32 k4 x2 0 x1 σ
    ) else (
      F_M_deals_32 k4 x2 1 x1 σ
    ))
  ))
def F_M_deals_4 : Nat → Int × Int × Hp → Option (Int × Hp) := loopF (fun k4 a => F_M_deals_4_b k4 a.1 a.2.1 a.2.2)
def F_M_deals (σ : Hp) : Option (Int × Hp) :=
  F_M_deals_4 FU (0, 0, σ)
def F_M_deal_21 (a1 : Int) (a2 : Int) (σ : Hp) : Option (Int × Hp) :=
  some ((-1), σ)
def F_M_deal_139 (k39 : Int × Int × Hp → Option (Int × Hp)) (a1 : Int) (a2 : Int) (x3 : Int) (x4 : Int) (σ : Hp) : Option (Int × Hp) :=
  lt (iadd x4 1) fun y4_1 =>
  k39 (x3, y4_1, σ)
def F_M_deal_114 (k39 : Int × Int × Hp → Option (Int × Hp)) (a1 : Int) (a2 : Int) (x3 : Int) (x4 : Int) (t1 : Int) (σ : Hp) : Option (Int × Hp) :=
  gd (0 ≤ x4 ∧ x4 < (30 : Int)) <|
  (if (σ 42 x4.toNat) = 0 then (
    F_M_deal_139 k39 a1 a2 x3 x4 σ
  ) else (
    (if x4 = a1 then (
      F_M_deal_139 k39 a1 a2 x3 x4 σ
    ) else (
      (if t1 = 0 then (
        F_M_deal_139 k39 a1 a2 x3 x4 σ
      ) else (
        F_M_deal_139 k39 a1 a2 0 x4 σ
      ))
    ))
  ))
def F_M_deal_109 (k39 : Int × Int × Hp → Option (Int × Hp)) (a1 : Int) (a2 : Int) (x3 : Int) (x4 : Int) (σ : Hp) : Option (Int × Hp) :=
  F_M_deal_114 k39 a1 a2 x3 x4 1 σ
def F_M_deal_39_b (k39 : Int × Int × Hp → Option (Int × Hp)) (a1 : Int) (a2 : Int) (x3 : Int) (x4 : Int) (σ : Hp) : Option (Int × Hp) :=
  gd (0 ≤ (σ 0 12) ∧ (σ 0 12) < (2 : Int)) <|
  (if (σ 3 (σ 0 12).toNat) ≤ x4 then (
    (if x3 = 0 then (
      some ((-1), σ)
    ) else (
      gd (0 ≤ a1 ∧ a1 < (30 : Int)) <|
      lt (hset σ 42 a1.toNat (z1 1)) fun s10 =>
      gd (0 ≤ a1 ∧ a1 < (30 : Int)) <|
      lt (hset s10 43 a1.toNat a2) fun s12 =>
      cl2 (F_M_deals  s12) fun v13 s14 =>
      some (v13, s14)
    ))
  ) else (
    cl2 (F_M_first x4 σ) fun v16 s17 =>
    cl2 (F_M_first a1 s17) fun v19 s20 =>
    (if v16 = v19 then (
      F_M_deal_109 k39 a1 a2 x3 x4 s20
    ) else (
      cl2 (F_M_first x4 s20) fun v23 s24 =>
      cl2 (F_M_second a1 s24) fun v26 s27 =>
      (if v23 = v26 then (
        F_M_deal_109 k39 a1 a2 x3 x4 s27
      ) else (
        cl2 (F_M_second x4 s27) fun v30 s31 =>
        cl2 (F_M_first a1 s31) fun v33 s34 =>
        (if v30 = v33 then (
          F_M_deal_109 k39 a1 a2 x3 x4 s34
        ) else (
          cl2 (F_M_second x4 s34) fun v37 s38 =>
          cl2 (F_M_second a1 s38) fun v40 s41 =>
          (if v37 = v40 then (
            F_M_deal_109 k39 a1 a2 x3 x4 s41
          ) else (
            F_M_deal_114 k39 a1 a2 x3 x4 0 s41
          ))
        ))
      ))
    ))
  ))
def F_M_deal_39 (a1 : Int) (a2 : Int) : Nat → Int × Int × Hp → Option (Int × Hp) := loopF (fun k39 a => F_M_deal_39_b k39 a1 a2 a.1 a.2.1 a.2.2)
def F_M_deal (a1 : Int) (a2 : Int) (σ : Hp) : Option (Int × Hp) :=
  cl2 (F_M_isRoad a1 σ) fun v44 s45 =>
  (if v44 = 0 then (
    F_M_deal_21 a1 a2 s45
  ) else (
    cl2 (F_M_is a2 (-1000000) 1000000 s45) fun v48 s49 =>
    (if v48 = 0 then (
      F_M_deal_21 a1 a2 s49
    ) else (
      cl2 (F_M_lays (-1) 0 s49) fun v52 s53 =>
      gd (0 ≤ a1 ∧ a1 < (30 : Int)) <|
      lt (s53 29 a1.toNat) fun y3_56 =>
      F_M_deal_39 a1 a2 FU (y3_56, 0, s53)
    ))
  ))
def F_M_dealRow_33_b (k33 : Int × Hp → Option (Int × Hp)) (x1 : Int) (σ : Hp) : Option (Int × Hp) :=
  (if (σ 0 56) ≤ x1 then (
    some (σ 0 56, σ)
  ) else (
    gd (0 ≤ x1 ∧ x1 < (6 : Int)) <|
    gd (0 ≤ (σ 36 x1.toNat) ∧ (σ 36 x1.toNat) < (30 : Int)) <|
    lt (hset σ 42 (σ 36 x1.toNat).toNat (z1 1)) fun s4 =>
    gd (0 ≤ x1 ∧ x1 < (6 : Int)) <|
    gd (0 ≤ x1 ∧ x1 < (6 : Int)) <|
    cl2 (F_M_first (s4 36 x1.toNat) s4) fun v7 s8 =>
    cl2 (F_M_aloneOf v7 s8) fun v10 s11 =>
    gd (0 ≤ x1 ∧ x1 < (6 : Int)) <|
    cl2 (F_M_gainOf (s11 36 x1.toNat) s11) fun v14 s15 =>
    gd (0 ≤ (s4 36 x1.toNat) ∧ (s4 36 x1.toNat) < (30 : Int)) <|
    lt (hset s15 43 (s4 36 x1.toNat).toNat (iadd v10 (idiv v14 2))) fun s18 =>
    lt (iadd x1 1) fun y1_19 =>
    k33 (y1_19, s18)
  ))
def F_M_dealRow_33 : Nat → Int × Hp → Option (Int × Hp) := loopF (fun k33 a => F_M_dealRow_33_b k33 a.1 a.2)
def F_M_dealRow_12_b (k12 : Int × Hp → Option (Int × Hp)) (x1 : Int) (σ : Hp) : Option (Int × Hp) :=
  (if 30 ≤ x1 then (
    F_M_dealRow_33 FU (0, σ)
  ) else (
    gd (0 ≤ x1 ∧ x1 < (30 : Int)) <|
    lt (hset σ 42 x1.toNat (z1 0)) fun s22 =>
    lt (iadd x1 1) fun y1_23 =>
    k12 (y1_23, s22)
  ))
def F_M_dealRow_12 : Nat → Int × Hp → Option (Int × Hp) := loopF (fun k12 a => F_M_dealRow_12_b k12 a.1 a.2)
def F_M_dealRow (σ : Hp) : Option (Int × Hp) :=
  cl2 (F_M_lays (-1) 0 σ) fun v24 s25 =>
  cl2 (F_M_finds  s25) fun v27 s28 =>
  F_M_dealRow_12 FU (0, s28)
def F_M_doubles_170 (k79 : Int × Int × Int × Hp → Option (Int × Hp)) (a1 : Nat) (x2 : Int) (x3 : Int) (x4 : Int) (σ : Hp) : Option (Int × Hp) :=
  lt (iadd x4 1) fun y4_1 =>
  k79 (x2, x3, y4_1, σ)
def F_M_doubles_169 (k79 : Int × Int × Int × Hp → Option (Int × Hp)) (a1 : Nat) (x2 : Int) (x3 : Int) (x4 : Int) (t3 : Int) (t2 : Int) (σ : Hp) : Option (Int × Hp) :=
  gd (0 ≤ t2 ∧ t2 < (4096 : Int)) <|
  lt (hset σ 34 t2.toNat t3) fun s3 =>
  F_M_doubles_170 k79 a1 x2 x3 x4 s3
def F_M_doubles_79_b (k68 : Int × Int × Hp → Option (Int × Hp)) (k79 : Int × Int × Int × Hp → Option (Int × Hp)) (a1 : Nat) (x2 : Int) (x3 : Int) (x4 : Int) (σ : Hp) : Option (Int × Hp) :=
  gd (0 ≤ (σ 0 12) ∧ (σ 0 12) < (2 : Int)) <|
  (if (σ 2 (σ 0 12).toNat) ≤ x4 then (
    lt (iadd x3 1) fun y3_6 =>
    k68 (x2, y3_6, σ)
  ) else (
    (if (iand (ishr x3 x4) 1) = 0 then (
      F_M_doubles_170 k79 a1 x2 x3 x4 σ
    ) else (
      gd (0 ≤ (iadd (imul 12 x2) x4) ∧ (iadd (imul 12 x2) x4) < ((lenOf shM a1 : Nat) : Int)) <|
      (if (σ a1 (iadd (imul 12 x2) x4).toNat) = 0 then (
        F_M_doubles_170 k79 a1 x2 x3 x4 σ
      ) else (
        gd (0 ≤ (iadd (imul 12 x2) x4) ∧ (iadd (imul 12 x2) x4) < ((lenOf shM a1 : Nat) : Int)) <|
        gd (0 ≤ (iand x3 (ixor (ishl 1 x4) (-1))) ∧ (iand x3 (ixor (ishl 1 x4) (-1))) < (4096 : Int)) <|
        lt (iadd (σ a1 (iadd (imul 12 x2) x4).toNat) (σ 35 (iand x3 (ixor (ishl 1 x4) (-1))).toNat)) fun y5_12 =>
        gd (0 ≤ x3 ∧ x3 < (4096 : Int)) <|
        (if y5_12 ≤ (σ 34 x3.toNat) then (
          gd (0 ≤ x3 ∧ x3 < (4096 : Int)) <|
          F_M_doubles_169 k79 a1 x2 x3 x4 (σ 34 x3.toNat) x3 σ
        ) else (
          F_M_doubles_169 k79 a1 x2 x3 x4 y5_12 x3 σ
        ))
      ))
    ))
  ))
def F_M_doubles_79 (k68 : Int × Int × Hp → Option (Int × Hp)) (a1 : Nat) : Nat → Int × Int × Int × Hp → Option (Int × Hp) := loopF (fun k79 a => F_M_doubles_79_b k68 k79 a1 a.1 a.2.1 a.2.2.1 a.2.2.2)
def F_M_doubles_68_b (k25 : Int × Hp → Option (Int × Hp)) (k68 : Int × Int × Hp → Option (Int × Hp)) (a1 : Nat) (x2 : Int) (x3 : Int) (σ : Hp) : Option (Int × Hp) :=
  cl2 (F_M_all  σ) fun v16 s17 =>
  (if v16 < x3 then (
    lt (iadd x2 1) fun y2_20 =>
    k25 (y2_20, s17)
  ) else (
    F_M_doubles_79 k68 a1 FU (x2, x3, 0, s17)
  ))
def F_M_doubles_68 (k25 : Int × Hp → Option (Int × Hp)) (a1 : Nat) : Nat → Int × Int × Hp → Option (Int × Hp) := loopF (fun k68 a => F_M_doubles_68_b k25 k68 a1 a.1 a.2.1 a.2.2)
def F_M_doubles_40_b (k25 : Int × Hp → Option (Int × Hp)) (k40 : Int × Int × Hp → Option (Int × Hp)) (a1 : Nat) (x2 : Int) (x3 : Int) (σ : Hp) : Option (Int × Hp) :=
  cl2 (F_M_all  σ) fun v21 s22 =>
  (if v21 < x3 then (
    F_M_doubles_68 k25 a1 FU (x2, 0, s22)
  ) else (
    gd (0 ≤ x3 ∧ x3 < (4096 : Int)) <|
    gd (0 ≤ x3 ∧ x3 < (4096 : Int)) <|
    lt (hset s22 35 x3.toNat (s22 34 x3.toNat)) fun s27 =>
    lt (iadd x3 1) fun y3_28 =>
    k40 (x2, y3_28, s27)
  ))
def F_M_doubles_40 (k25 : Int × Hp → Option (Int × Hp)) (a1 : Nat) : Nat → Int × Int × Hp → Option (Int × Hp) := loopF (fun k40 a => F_M_doubles_40_b k25 k40 a1 a.1 a.2.1 a.2.2)
def F_M_doubles_25_b (k25 : Int × Hp → Option (Int × Hp)) (a1 : Nat) (x2 : Int) (σ : Hp) : Option (Int × Hp) :=
  gd (0 ≤ (σ 0 12) ∧ (σ 0 12) < (2 : Int)) <|
  (if (σ 2 (σ 0 12).toNat) ≤ x2 then (
    cl2 (F_M_all  σ) fun v31 s32 =>
    gd (0 ≤ v31 ∧ v31 < (4096 : Int)) <|
    some (s32 34 v31.toNat, s32)
  ) else (
    F_M_doubles_40 k25 a1 FU (x2, 0, σ)
  ))
def F_M_doubles_25 (a1 : Nat) : Nat → Int × Hp → Option (Int × Hp) := loopF (fun k25 a => F_M_doubles_25_b k25 a1 a.1 a.2)
def F_M_doubles_2_b (k2 : Int × Hp → Option (Int × Hp)) (a1 : Nat) (x2 : Int) (σ : Hp) : Option (Int × Hp) :=
  cl2 (F_M_all  σ) fun v35 s36 =>
  (if v35 < x2 then (
    F_M_doubles_25 a1 FU (0, s36)
  ) else (
    gd (0 ≤ x2 ∧ x2 < (4096 : Int)) <|
    lt (hset s36 34 x2.toNat 0) fun s40 =>
    lt (iadd x2 1) fun y2_41 =>
    k2 (y2_41, s40)
  ))
def F_M_doubles_2 (a1 : Nat) : Nat → Int × Hp → Option (Int × Hp) := loopF (fun k2 a => F_M_doubles_2_b k2 a1 a.1 a.2)
def F_M_doubles (a1 : Nat) (σ : Hp) : Option (Int × Hp) :=
  gd (iaB shM a1 = true) <|
  F_M_doubles_2 a1 FU (0, σ)
def F_M_isOwn_40 (a1 : Int) (σ : Hp) : Option (Int × Hp) :=
  some (1, σ)
def F_M_isOwn_82 (a1 : Int) (σ : Hp) : Option (Int × Hp) :=
  some (1, σ)
def F_M_isOwn_124 (a1 : Int) (σ : Hp) : Option (Int × Hp) :=
  some (1, σ)
def F_M_isOwn_142 (a1 : Int) (σ : Hp) : Option (Int × Hp) :=
  some (1, σ)
def F_M_isOwn (a1 : Int) (σ : Hp) : Option (Int × Hp) :=
  (if (lcmp a1 7825519) = 0 then (
    F_M_isOwn_40 a1 σ
  ) else (
    (if (lcmp a1 418431069797) = 0 then (
      F_M_isOwn_40 a1 σ
    ) else (
      (if (lcmp a1 1919902052) = 0 then (
        F_M_isOwn_40 a1 σ
      ) else (
        (if (lcmp a1 512970880104) = 0 then (
          F_M_isOwn_40 a1 σ
        ) else (
          (if (lcmp a1 2003330414) = 0 then (
            F_M_isOwn_40 a1 σ
          ) else (
            (if (lcmp a1 499851162725) = 0 then (
              F_M_isOwn_82 a1 σ
            ) else (
              (if (lcmp a1 1818588019) = 0 then (
                F_M_isOwn_82 a1 σ
              ) else (
                (if (lcmp a1 431366693492) = 0 then (
                  F_M_isOwn_82 a1 σ
                ) else (
                  (if (lcmp a1 28530) = 0 then (
                    F_M_isOwn_82 a1 σ
                  ) else (
                    (if (lcmp a1 6385252) = 0 then (
                      F_M_isOwn_82 a1 σ
                    ) else (
                      (if (lcmp a1 7237492) = 0 then (
                        F_M_isOwn_124 a1 σ
                      ) else (
                        (if (lcmp a1 6384748) = 0 then (
                          F_M_isOwn_124 a1 σ
                        ) else (
                          (if (lcmp a1 6578553) = 0 then (
                            F_M_isOwn_124 a1 σ
                          ) else (
                            (if (lcmp a1 2003133803) = 0 then (
                              F_M_isOwn_124 a1 σ
                            ) else (
                              (if (lcmp a1 2003067257) = 0 then (
                                F_M_isOwn_124 a1 σ
                              ) else (
                                (if (lcmp a1 7170414) = 0 then (
                                  F_M_isOwn_142 a1 σ
                                ) else (
                                  (if (lcmp a1 7168376) = 0 then (
                                    F_M_isOwn_142 a1 σ
                                  ) else (
                                    some (0, σ)
                                  ))
                                ))
                              ))
                            ))
                          ))
                        ))
                      ))
                    ))
                  ))
                ))
              ))
            ))
          ))
        ))
      ))
    ))
  ))
def F_M_whoOf_2_b (k2 : Int × Hp → Option (Int × Hp)) (a1 : Int) (x3 : Int) (σ : Hp) : Option (Int × Hp) :=
  gd (0 ≤ (σ 0 31) ∧ (σ 0 31) < (2 : Int)) <|
  (if (σ 2 (σ 0 31).toNat) ≤ x3 then (
    some ((-1), σ)
  ) else (
    gd (0 ≤ (iadd (imul 12 (σ 0 31)) x3) ∧ (iadd (imul 12 (σ 0 31)) x3) < (24 : Int)) <|
    (if (lcmp (σ 6 (iadd (imul 12 (σ 0 31)) x3).toNat) a1) = 0 then (
      some (x3, σ)
    ) else (
      lt (iadd x3 1) fun y3_5 =>
      k2 (y3_5, σ)
    ))
  ))
def F_M_whoOf_2 (a1 : Int) : Nat → Int × Hp → Option (Int × Hp) := loopF (fun k2 a => F_M_whoOf_2_b k2 a1 a.1 a.2)
def F_M_whoOf (a1 : Int) (σ : Hp) : Option (Int × Hp) :=
  F_M_whoOf_2 a1 FU (0, σ)
def F_M_whoRead_95 (a1 : Int) (t1 : Int) (σ : Hp) : Option (Int × Hp) :=
  some (t1, σ)
def F_M_whoRead_83 (a1 : Int) (x2 : Int) (σ : Hp) : Option (Int × Hp) :=
  (if (σ 0 8) ≤ 0 then (
    F_M_whoRead_95 a1 x2 σ
  ) else (
    F_M_whoRead_95 a1 0 σ
  ))
def F_M_whoRead_74 (a1 : Int) (x2 : Int) (σ : Hp) : Option (Int × Hp) :=
  cl2 (F_M_blame 3 (σ 0 4) σ) fun v2 s3 =>
  F_M_whoRead_83 a1 x2 s3
def F_M_whoRead_56 (a1 : Int) (t1 : Int) (σ : Hp) : Option (Int × Hp) :=
  (if (σ 0 8) = 0 then (
    (if t1 = (-1) then (
      F_M_whoRead_74 a1 t1 σ
    ) else (
      (if t1 = a1 then (
        F_M_whoRead_74 a1 t1 σ
      ) else (
        F_M_whoRead_83 a1 t1 σ
      ))
    ))
  ) else (
    F_M_whoRead_83 a1 t1 σ
  ))
def F_M_whoRead_37 (a1 : Int) (σ : Hp) : Option (Int × Hp) :=
  (if (σ 0 8) ≤ 0 then (
    cl2 (F_M_whoOf (σ 0 7) σ) fun v9 s10 =>
    F_M_whoRead_56 a1 v9 s10
  ) else (
    F_M_whoRead_56 a1 0 σ
  ))
def F_M_whoRead_28 (a1 : Int) (σ : Hp) : Option (Int × Hp) :=
  cl2 (F_M_blame 1 (σ 0 4) σ) fun v12 s13 =>
  F_M_whoRead_37 a1 s13
def F_M_whoRead (a1 : Int) (σ : Hp) : Option (Int × Hp) :=
  (if (σ 0 8) ≤ 0 then (
    (if (σ 0 3) = 1 then (
      cl2 (F_M_isOwn (σ 0 7) σ) fun v17 s18 =>
      (if v17 = 0 then (
        F_M_whoRead_37 a1 s18
      ) else (
        F_M_whoRead_28 a1 s18
      ))
    ) else (
      F_M_whoRead_28 a1 σ
    ))
  ) else (
    some (0, σ)
  ))
def F_M_roadOf_69 (a1 : Int) (a2 : Int) (x3 : Int) (σ : Hp) : Option (Int × Hp) :=
  some (x3, σ)
def F_M_roadOf_71 (k8 : Int × Hp → Option (Int × Hp)) (a1 : Int) (a2 : Int) (x3 : Int) (σ : Hp) : Option (Int × Hp) :=
  lt (iadd x3 1) fun y3_1 =>
  k8 (y3_1, σ)
def F_M_roadOf_49 (k8 : Int × Hp → Option (Int × Hp)) (a1 : Int) (a2 : Int) (x3 : Int) (σ : Hp) : Option (Int × Hp) :=
  gd (0 ≤ x3 ∧ x3 < (60 : Int)) <|
  (if (σ 8 x3.toNat) = a2 then (
    gd (0 ≤ x3 ∧ x3 < (60 : Int)) <|
    (if (σ 9 x3.toNat) = a1 then (
      F_M_roadOf_69 a1 a2 x3 σ
    ) else (
      F_M_roadOf_71 k8 a1 a2 x3 σ
    ))
  ) else (
    F_M_roadOf_71 k8 a1 a2 x3 σ
  ))
def F_M_roadOf_8_b (k8 : Int × Hp → Option (Int × Hp)) (a1 : Int) (a2 : Int) (x3 : Int) (σ : Hp) : Option (Int × Hp) :=
  gd (0 ≤ (σ 0 31) ∧ (σ 0 31) < (2 : Int)) <|
  (if (iadd (imul 30 (σ 0 31)) (σ 3 (σ 0 31).toNat)) ≤ x3 then (
    some ((-1), σ)
  ) else (
    gd (0 ≤ x3 ∧ x3 < (60 : Int)) <|
    (if (σ 8 x3.toNat) = a1 then (
      gd (0 ≤ x3 ∧ x3 < (60 : Int)) <|
      (if (σ 9 x3.toNat) = a2 then (
        F_M_roadOf_69 a1 a2 x3 σ
      ) else (
        F_M_roadOf_49 k8 a1 a2 x3 σ
      ))
    ) else (
      F_M_roadOf_49 k8 a1 a2 x3 σ
    ))
  ))
def F_M_roadOf_8 (a1 : Int) (a2 : Int) : Nat → Int × Hp → Option (Int × Hp) := loopF (fun k8 a => F_M_roadOf_8_b k8 a1 a2 a.1 a.2)
def F_M_roadOf (a1 : Int) (a2 : Int) (σ : Hp) : Option (Int × Hp) :=
  lt (imul 30 (σ 0 31)) fun y3_12 =>
  F_M_roadOf_8 a1 a2 FU (y3_12, σ)
def F_M_number_42 (x1 : Int) (σ : Hp) : Option (Int × Hp) :=
  some (x1, σ)
def F_M_number_26 (σ : Hp) : Option (Int × Hp) :=
  lt (σ 0 6) fun y1_1 =>
  (if (σ 0 8) = 0 then (
    cl2 (F_M_next  σ) fun v3 s4 =>
    F_M_number_42 y1_1 s4
  ) else (
    F_M_number_42 y1_1 σ
  ))
def F_M_number (σ : Hp) : Option (Int × Hp) :=
  (if (σ 0 8) ≤ 0 then (
    (if (σ 0 3) = 2 then (
      F_M_number_26 σ
    ) else (
      cl2 (F_M_blame 1 (σ 0 4) σ) fun v8 s9 =>
      F_M_number_26 s9
    ))
  ) else (
    some (0, σ)
  ))
def F_M_doubt_104 (x3 : Int) (σ : Hp) : Option (Int × Hp) :=
  cl2 (F_M_number  σ) fun v1 s2 =>
  (if (s2 0 8) ≤ 0 then (
    gd (0 ≤ x3 ∧ x3 < (60 : Int)) <|
    lt (hset s2 14 x3.toNat v1) fun s6 =>
    gd (0 ≤ (s6 0 31) ∧ (s6 0 31) < (2 : Int)) <|
    gd (0 ≤ (s6 0 31) ∧ (s6 0 31) < (2 : Int)) <|
    lt (hset s6 5 (s6 0 31).toNat (iadd (s6 5 (s6 0 31).toNat) 1)) fun s9 =>
    some (0, s9)
  ) else (
    some (0, s2)
  ))
def F_M_doubt_93 (x3 : Int) (σ : Hp) : Option (Int × Hp) :=
  (if (σ 0 8) = 0 then (
    cl2 (F_M_next  σ) fun v11 s12 =>
    F_M_doubt_104 x3 s12
  ) else (
    F_M_doubt_104 x3 σ
  ))
def F_M_doubt_71 (t1 : Int) (σ : Hp) : Option (Int × Hp) :=
  (if (σ 0 8) = 0 then (
    (if t1 = (-1) then (
      cl2 (F_M_blame 3 (σ 0 4) σ) fun v16 s17 =>
      F_M_doubt_93 t1 s17
    ) else (
      F_M_doubt_93 t1 σ
    ))
  ) else (
    F_M_doubt_93 t1 σ
  ))
def F_M_doubt_48 (x1 : Int) (σ : Hp) : Option (Int × Hp) :=
  cl2 (F_M_whoRead x1 σ) fun v19 s20 =>
  (if (s20 0 8) ≤ 0 then (
    cl2 (F_M_roadOf x1 v19 s20) fun v23 s24 =>
    F_M_doubt_71 v23 s24
  ) else (
    F_M_doubt_71 0 s20
  ))
def F_M_doubt_20 (t2 : Int) (σ : Hp) : Option (Int × Hp) :=
  cl2 (F_M_counts t2 σ) fun v26 s27 =>
  (if (s27 0 8) ≤ 0 then (
    cl2 (F_M_whoRead (-1) s27) fun v30 s31 =>
    (if (s31 0 8) = 0 then (
      cl2 (F_M_next  s31) fun v34 s35 =>
      F_M_doubt_48 v30 s35
    ) else (
      F_M_doubt_48 v30 s31
    ))
  ) else (
    some (0, s27)
  ))
def F_M_doubt (σ : Hp) : Option (Int × Hp) :=
  gd (0 ≤ (σ 0 31) ∧ (σ 0 31) < (2 : Int)) <|
  (if (σ 5 (σ 0 31).toNat) = 24 then (
    F_M_doubt_20 1 σ
  ) else (
    F_M_doubt_20 0 σ
  ))
def F_M_end_12 (a1 : Int) (σ : Hp) : Option (Int × Hp) :=
  some (0, σ)
def F_M_end (a1 : Int) (σ : Hp) : Option (Int × Hp) :=
  (if a1 < 0 then (
    F_M_end_12 a1 σ
  ) else (
    (if a1 ≤ (σ 0 1) then (
      lt (hset σ 0 1 a1) fun s3 =>
      some (1, s3)
    ) else (
      F_M_end_12 a1 σ
    ))
  ))
def F_M_end__42 (a1 : Int) (a2 : Int) (t1 : Int) (σ : Hp) : Option (Int × Hp) :=
  some (t1, σ)
def F_M_end_ (a1 : Int) (a2 : Int) (σ : Hp) : Option (Int × Hp) :=
  cl2 (F_M_isWho a1 σ) fun v1 s2 =>
  (if v1 = 0 then (
    some ((-1), s2)
  ) else (
    cl2 (F_M_lays (-1) 0 s2) fun v5 s6 =>
    cl2 (F_M_ends  s6) fun v8 s9 =>
    (if v8 = 0 then (
      some ((-1), s9)
    ) else (
      (if a2 = 0 then (
        cl2 (F_M_leastOf a1 s9) fun v13 s14 =>
        F_M_end__42 a1 a2 v13 s14
      ) else (
        cl2 (F_M_greatestOf a1 s9) fun v16 s17 =>
        F_M_end__42 a1 a2 v16 s17
      ))
    ))
  ))
def F_M_ended (σ : Hp) : Option (Int × Hp) :=
  some (σ 0 67, σ)
def F_M_evenOf (a1 : Int) (σ : Hp) : Option (Int × Hp) :=
  cl2 (F_M_first a1 σ) fun v1 s2 =>
  cl2 (F_M_elseOf v1 s2) fun v4 s5 =>
  cl2 (F_M_second a1 s5) fun v7 s8 =>
  cl2 (F_M_elseOf v7 s8) fun v10 s11 =>
  gd (0 ≤ a1 ∧ a1 < (30 : Int)) <|
  cl2 (F_M_over (lsub (lsub (s11 30 a1.toNat) v4) v10) 2 s11) fun v14 s15 =>
  some (ladd v4 v14, s15)
def F_M_fault_24 (a1 : Int) (t1 : Int) (σ : Hp) : Option (Int × Hp) :=
  some (t1, σ)
def F_M_fault (a1 : Int) (σ : Hp) : Option (Int × Hp) :=
  (if a1 = 0 then (
    F_M_fault_24 a1 (σ 0 10) σ
  ) else (
    (if a1 = 1 then (
      F_M_fault_24 a1 (σ 0 11) σ
    ) else (
      F_M_fault_24 a1 (-1) σ
    ))
  ))
def F_M_put_3_b (k3 : Int × Hp → Option (Int × Hp)) (a1 : Int) (x2 : Int) (σ : Hp) : Option (Int × Hp) :=
  (if x2 < 0 then (
    some (0, σ)
  ) else (
    gd (0 ≤ (σ 0 1) ∧ (σ 0 1) < (900 : Int)) <|
    lt (hset σ 1 (σ 0 1).toNat (iand (ishr a1 x2) 255)) fun s3 =>
    lt (hset s3 0 1 (iadd (s3 0 1) 1)) fun s4 =>
    lt (iadd x2 (-8)) fun y2_5 =>
    k3 (y2_5, s4)
  ))
def F_M_put_3 (a1 : Int) : Nat → Int × Hp → Option (Int × Hp) := loopF (fun k3 a => F_M_put_3_b k3 a1 a.1 a.2)
def F_M_put (a1 : Int) (σ : Hp) : Option (Int × Hp) :=
  F_M_put_3 a1 FU (24, σ)
def F_M_feed (a1 : Int) (a2 : Int) (a3 : Int) (a4 : Int) (a5 : Int) (σ : Hp) : Option (Int × Hp) :=
  (if (iadd (σ 0 1) 20) ≤ 900 then (
    cl2 (F_M_put a1 σ) fun v2 s3 =>
    cl2 (F_M_put a2 s3) fun v5 s6 =>
    cl2 (F_M_put a3 s6) fun v8 s9 =>
    cl2 (F_M_put a4 s9) fun v11 s12 =>
    cl2 (F_M_put a5 s12) fun v14 s15 =>
    some (s15 0 1, s15)
  ) else (
    some ((-1), σ)
  ))
def F_M_gift_59 (k8 : Int × Int × Hp → Option (Int × Hp)) (x1 : Int) (x3 : Int) (t3 : Int) (t2 : Int) (σ : Hp) : Option (Int × Hp) :=
  gd (0 ≤ t2 ∧ t2 < (12 : Int)) <|
  lt (hset σ 48 t2.toNat t3) fun s2 =>
  gd (0 ≤ x3 ∧ x3 < (12 : Int)) <|
  lt (ladd x1 (lmul 2 (s2 48 x3.toNat))) fun y1_4 =>
  lt (iadd x3 1) fun y3_5 =>
  k8 (y1_4, y3_5, s2)
def F_M_gift_206 (k103 : Int × Int × Hp → Option (Int × Hp)) (x1 : Int) (x3 : Int) (x4 : Int) (x5 : Int) (t3 : Int) (t2 : Int) (σ : Hp) : Option (Int × Hp) :=
  gd (0 ≤ t2 ∧ t2 < (144 : Int)) <|
  lt (hset σ 47 t2.toNat t3) fun s7 =>
  gd (0 ≤ (iadd (imul 12 x4) x5) ∧ (iadd (imul 12 x4) x5) < (144 : Int)) <|
  gd (0 ≤ (iadd (imul 12 x5) x4) ∧ (iadd (imul 12 x5) x4) < (144 : Int)) <|
  lt (hset s7 47 (iadd (imul 12 x5) x4).toNat (s7 47 (iadd (imul 12 x4) x5).toNat)) fun s10 =>
  lt (iadd x3 1) fun y3_11 =>
  k103 (x1, y3_11, s10)
def F_M_gift_205 (k103 : Int × Int × Hp → Option (Int × Hp)) (x1 : Int) (x3 : Int) (x4 : Int) (x5 : Int) (t2 : Int) (σ : Hp) : Option (Int × Hp) :=
  F_M_gift_206 k103 x1 x3 x4 x5 0 t2 σ
def F_M_gift_103_b (k103 : Int × Int × Hp → Option (Int × Hp)) (x1 : Int) (x3 : Int) (σ : Hp) : Option (Int × Hp) :=
  gd (0 ≤ (σ 0 12) ∧ (σ 0 12) < (2 : Int)) <|
  (if (σ 3 (σ 0 12).toNat) ≤ x3 then (
    cl2 (F_M_doubles 47 σ) fun v14 s15 =>
    some (w32 (ladd x1 v14), s15)
  ) else (
    cl2 (F_M_first x3 σ) fun v17 s18 =>
    cl2 (F_M_second x3 s18) fun v20 s21 =>
    gd (0 ≤ x3 ∧ x3 < (30 : Int)) <|
    gd (0 ≤ v17 ∧ v17 < (12 : Int)) <|
    gd (0 ≤ v20 ∧ v20 < (12 : Int)) <|
    gd (0 ≤ v17 ∧ v17 < (12 : Int)) <|
    gd (0 ≤ v20 ∧ v20 < (12 : Int)) <|
    lt (lsub (lsub (lsub (lsub (s21 30 x3.toNat) (s21 45 v17.toNat)) (s21 45 v20.toNat)) (s21 48 v17.toNat)) (s21 48 v20.toNat)) fun y6_28 =>
    gd (0 ≤ x3 ∧ x3 < (30 : Int)) <|
    (if (s21 29 x3.toNat) = 0 then (
      F_M_gift_205 k103 x1 x3 v17 v20 (iadd (imul 12 v17) v20) s21
    ) else (
      (if (lcmp y6_28 0) ≤ 0 then (
        F_M_gift_205 k103 x1 x3 v17 v20 (iadd (imul 12 v17) v20) s21
      ) else (
        F_M_gift_206 k103 x1 x3 v17 v20 (w32 y6_28) (iadd (imul 12 v17) v20) s21
      ))
    ))
  ))
def F_M_gift_103 : Nat → Int × Int × Hp → Option (Int × Hp) := loopF (fun k103 a => F_M_gift_103_b k103 a.1 a.2.1 a.2.2)
def F_M_gift_81_b (k81 : Int × Int × Hp → Option (Int × Hp)) (x1 : Int) (x3 : Int) (σ : Hp) : Option (Int × Hp) :=
  (if 144 ≤ x3 then (
    F_M_gift_103 FU (x1, 0, σ)
  ) else (
    gd (0 ≤ x3 ∧ x3 < (144 : Int)) <|
    lt (hset σ 47 x3.toNat 0) fun s34 =>
    lt (iadd x3 1) fun y3_35 =>
    k81 (x1, y3_35, s34)
  ))
def F_M_gift_81 : Nat → Int × Int × Hp → Option (Int × Hp) := loopF (fun k81 a => F_M_gift_81_b k81 a.1 a.2.1 a.2.2)
def F_M_gift_8_b (k8 : Int × Int × Hp → Option (Int × Hp)) (x1 : Int) (x3 : Int) (σ : Hp) : Option (Int × Hp) :=
  gd (0 ≤ (σ 0 12) ∧ (σ 0 12) < (2 : Int)) <|
  (if (σ 2 (σ 0 12).toNat) ≤ x3 then (
    F_M_gift_81 FU (x1, 0, σ)
  ) else (
    gd (0 ≤ x3 ∧ x3 < (12 : Int)) <|
    cl2 (F_M_aloneOf x3 σ) fun v39 s40 =>
    (if 0 ≤ (lcmp (σ 45 x3.toNat) v39) then (
      F_M_gift_59 k8 x1 x3 0 x3 s40
    ) else (
      cl2 (F_M_aloneOf x3 s40) fun v43 s44 =>
      gd (0 ≤ x3 ∧ x3 < (12 : Int)) <|
      F_M_gift_59 k8 x1 x3 (lsub v43 (s44 45 x3.toNat)) x3 s44
    ))
  ))
def F_M_gift_8 : Nat → Int × Int × Hp → Option (Int × Hp) := loopF (fun k8 a => F_M_gift_8_b k8 a.1 a.2.1 a.2.2)
def F_M_gift (σ : Hp) : Option (Int × Hp) :=
  cl2 (F_M_laysAll  σ) fun v47 s48 =>
  F_M_gift_8 FU (0, 0, s48)
def F_M_isTest_15 (a0 : Int) (t1 : Int) (σ : Hp) : Option (Int × Hp) :=
  gd (t1 = 0 ∨ t1 = 1) <|
  some (t1, σ)
def F_M_isTest_10 (a0 : Int) (σ : Hp) : Option (Int × Hp) :=
  F_M_isTest_15 a0 1 σ
def F_M_isTest (a0 : Int) (σ : Hp) : Option (Int × Hp) :=
  (if a0 = 1 then (
    F_M_isTest_10 a0 σ
  ) else (
    (if a0 = 5 then (
      F_M_isTest_10 a0 σ
    ) else (
      F_M_isTest_15 a0 0 σ
    ))
  ))
def F_M_isSign_21 (a1 : Int) (t1 : Int) (σ : Hp) : Option (Int × Hp) :=
  gd (t1 = 0 ∨ t1 = 1) <|
  some (t1, σ)
def F_M_isSign_20 (a1 : Int) (σ : Hp) : Option (Int × Hp) :=
  F_M_isSign_21 a1 0 σ
def F_M_isSign (a1 : Int) (σ : Hp) : Option (Int × Hp) :=
  (if (σ 0 3) = 3 then (
    (if (σ 0 6) = a1 then (
      F_M_isSign_21 a1 1 σ
    ) else (
      F_M_isSign_20 a1 σ
    ))
  ) else (
    F_M_isSign_20 a1 σ
  ))
def F_M_rank_70 (a0 : Int) (t1 : Int) (σ : Hp) : Option (Int × Hp) :=
  some (t1, σ)
def F_M_rank_48 (a0 : Int) (σ : Hp) : Option (Int × Hp) :=
  F_M_rank_70 a0 4 σ
def F_M_rank_64 (a0 : Int) (σ : Hp) : Option (Int × Hp) :=
  F_M_rank_70 a0 5 σ
def F_M_rank (a0 : Int) (σ : Hp) : Option (Int × Hp) :=
  (if a0 = 17 then (
    F_M_rank_70 a0 1 σ
  ) else (
    (if a0 = 16 then (
      F_M_rank_70 a0 2 σ
    ) else (
      (if a0 = 18 then (
        F_M_rank_70 a0 3 σ
      ) else (
        (if a0 = 13 then (
          F_M_rank_48 a0 σ
        ) else (
          (if a0 = 14 then (
            F_M_rank_48 a0 σ
          ) else (
            (if a0 = 15 then (
              F_M_rank_48 a0 σ
            ) else (
              (if a0 = 6 then (
                F_M_rank_64 a0 σ
              ) else (
                (if a0 = 7 then (
                  F_M_rank_64 a0 σ
                ) else (
                  F_M_rank_70 a0 6 σ
                ))
              ))
            ))
          ))
        ))
      ))
    ))
  ))
def F_M_joins_63 (a1 : Int) (σ : Hp) : Option (Int × Hp) :=
  some (0, σ)
def F_M_joins_0_b (k0 : Hp → Option (Int × Hp)) (a1 : Int) (σ : Hp) : Option (Int × Hp) :=
  gd (0 ≤ (isub (σ 0 37) 1) ∧ (isub (σ 0 37) 1) < (20 : Int)) <|
  (if (σ 0 40) ≤ (σ 23 (isub (σ 0 37) 1).toNat) then (
    F_M_joins_63 a1 σ
  ) else (
    gd (0 ≤ (isub (σ 0 40) 1) ∧ (isub (σ 0 40) 1) < (500 : Int)) <|
    cl2 (F_M_rank (σ 24 (isub (σ 0 40) 1).toNat) σ) fun v4 s5 =>
    (if v4 < a1 then (
      F_M_joins_63 a1 s5
    ) else (
      lt (hset s5 0 40 (isub (s5 0 40) 1)) fun s8 =>
      gd (0 ≤ (s8 0 40) ∧ (s8 0 40) < (500 : Int)) <|
      cl2 (F_M_add (s8 24 (s8 0 40).toNat) 0 s8) fun v10 s11 =>
      k0 s11
    ))
  ))
def F_M_joins_0 (a1 : Int) : Nat → Hp → Option (Int × Hp) := loopF (fun k0 a => F_M_joins_0_b k0 a1 a)
def F_M_joins (a1 : Int) (σ : Hp) : Option (Int × Hp) :=
  F_M_joins_0 a1 FU σ
def F_M_holdsBack (a1 : Int) (σ : Hp) : Option (Int × Hp) :=
  gd (0 ≤ (σ 0 40) ∧ (σ 0 40) < (500 : Int)) <|
  lt (hset σ 24 (σ 0 40).toNat a1) fun s2 =>
  lt (hset s2 0 40 (iadd (s2 0 40) 1)) fun s3 =>
  some (0, s3)
def F_M_isWord_22 (a1 : Int) (t1 : Int) (σ : Hp) : Option (Int × Hp) :=
  gd (t1 = 0 ∨ t1 = 1) <|
  some (t1, σ)
def F_M_isWord_21 (a1 : Int) (σ : Hp) : Option (Int × Hp) :=
  F_M_isWord_22 a1 0 σ
def F_M_isWord (a1 : Int) (σ : Hp) : Option (Int × Hp) :=
  (if (σ 0 3) = 1 then (
    (if (lcmp (σ 0 7) a1) = 0 then (
      F_M_isWord_22 a1 1 σ
    ) else (
      F_M_isWord_21 a1 σ
    ))
  ) else (
    F_M_isWord_21 a1 σ
  ))
def F_M_goesOn_161 (t2 : Int) (σ : Hp) : Option (Int × Hp) :=
  cl2 (F_M_holdsBack t2 σ) fun v1 s2 =>
  cl2 (F_M_next  s2) fun v4 s5 =>
  lt (hset s5 0 41 0) fun s7 =>
  some (1, s7)
def F_M_goesOn_99 (t2 : Int) (σ : Hp) : Option (Int × Hp) :=
  cl2 (F_M_joins t2 σ) fun v8 s9 =>
  cl2 (F_M_isSign 43 s9) fun v11 s12 =>
  (if v11 = 0 then (
    cl2 (F_M_isSign 45 s12) fun v15 s16 =>
    (if v15 = 0 then (
      cl2 (F_M_isSign 42 s16) fun v19 s20 =>
      (if v19 = 0 then (
        cl2 (F_M_isSign 47 s20) fun v23 s24 =>
        (if v23 = 0 then (
          F_M_goesOn_161 10 s24
        ) else (
          F_M_goesOn_161 9 s24
        ))
      ) else (
        F_M_goesOn_161 8 s20
      ))
    ) else (
      F_M_goesOn_161 7 s16
    ))
  ) else (
    F_M_goesOn_161 6 s12
  ))
def F_M_goesOn_93 (σ : Hp) : Option (Int × Hp) :=
  F_M_goesOn_99 5 σ
def F_M_goesOn_74 (σ : Hp) : Option (Int × Hp) :=
  cl2 (F_M_isSign 43 σ) fun v27 s28 =>
  (if v27 = 0 then (
    cl2 (F_M_isSign 45 s28) fun v31 s32 =>
    (if v31 = 0 then (
      F_M_goesOn_99 6 s32
    ) else (
      F_M_goesOn_93 s32
    ))
  ) else (
    F_M_goesOn_93 s28
  ))
def F_M_goesOn_251 (x1 : Int) (t2 : Int) (σ : Hp) : Option (Int × Hp) :=
  cl2 (F_M_holdsBack t2 σ) fun v35 s36 =>
  gd (0 ≤ x1 ∧ x1 < (20 : Int)) <|
  lt (hset s36 20 x1.toNat 1) fun s39 =>
  cl2 (F_M_next  s39) fun v40 s41 =>
  lt (hset s41 0 41 0) fun s43 =>
  some (1, s43)
def F_M_goesOn_215 (x1 : Int) (σ : Hp) : Option (Int × Hp) :=
  cl2 (F_M_joins 5 σ) fun v44 s45 =>
  cl2 (F_M_isSign 60 s45) fun v47 s48 =>
  (if v47 = 0 then (
    cl2 (F_M_isSign 62 s48) fun v51 s52 =>
    (if v51 = 0 then (
      F_M_goesOn_251 x1 15 s52
    ) else (
      F_M_goesOn_251 x1 14 s52
    ))
  ) else (
    F_M_goesOn_251 x1 13 s48
  ))
def F_M_goesOn_359 (x1 : Int) (t2 : Int) (σ : Hp) : Option (Int × Hp) :=
  cl2 (F_M_holdsBack t2 σ) fun v55 s56 =>
  gd (0 ≤ x1 ∧ x1 < (20 : Int)) <|
  lt (hset s56 20 x1.toNat 0) fun s59 =>
  gd (0 ≤ x1 ∧ x1 < (20 : Int)) <|
  lt (hset s59 21 x1.toNat (z1 1)) fun s61 =>
  cl2 (F_M_next  s61) fun v62 s63 =>
  lt (hset s63 0 41 0) fun s65 =>
  some (1, s65)
def F_M_goesOn_343 (x1 : Int) (x4 : Int) (t2 : Int) (σ : Hp) : Option (Int × Hp) :=
  cl2 (F_M_joins t2 σ) fun v66 s67 =>
  (if x4 = 0 then (
    F_M_goesOn_359 x1 17 s67
  ) else (
    F_M_goesOn_359 x1 16 s67
  ))
def F_M_goesOn_314 (x1 : Int) (σ : Hp) : Option (Int × Hp) :=
  (if (σ 0 8) ≤ 0 then (
    cl2 (F_M_isWord 6385252 σ) fun v71 s72 =>
    (if v71 = 0 then (
      F_M_goesOn_343 x1 v71 1 s72
    ) else (
      F_M_goesOn_343 x1 v71 2 s72
    ))
  ) else (
    some (0, σ)
  ))
def F_M_goesOn_296 (x1 : Int) (σ : Hp) : Option (Int × Hp) :=
  gd (0 ≤ x1 ∧ x1 < (20 : Int)) <|
  (if (σ 20 x1.toNat) = 0 then (
    cl2 (F_M_blame 1 (σ 0 4) σ) fun v77 s78 =>
    F_M_goesOn_314 x1 s78
  ) else (
    F_M_goesOn_314 x1 σ
  ))
def F_M_goesOn_426 (σ : Hp) : Option (Int × Hp) :=
  some (0, σ)
def F_M_goesOn_451 (x1 : Int) (σ : Hp) : Option (Int × Hp) :=
  (if (σ 0 8) ≤ 0 then (
    cl2 (F_M_joins 1 σ) fun v81 s82 =>
    gd (0 ≤ x1 ∧ x1 < (20 : Int)) <|
    lt (hset s82 19 x1.toNat 4) fun s85 =>
    cl2 (F_M_next  s85) fun v86 s87 =>
    lt (hset s87 0 41 0) fun s89 =>
    some (1, s89)
  ) else (
    some (0, σ)
  ))
def F_M_goesOn_578 (σ : Hp) : Option (Int × Hp) :=
  cl2 (F_M_next  σ) fun v90 s91 =>
  some (1, s91)
def F_M_goesOn_561 (x2 : Int) (σ : Hp) : Option (Int × Hp) :=
  (if x2 = 5 then (
    gd (0 ≤ (isub (σ 0 37) 1) ∧ (isub (σ 0 37) 1) < (20 : Int)) <|
    lt (hset σ 20 (isub (σ 0 37) 1).toNat 2) fun s95 =>
    F_M_goesOn_578 s95
  ) else (
    F_M_goesOn_578 σ
  ))
def F_M_goesOn_511 (x1 : Int) (x2 : Int) (σ : Hp) : Option (Int × Hp) :=
  (if (σ 0 8) ≤ 0 then (
    cl2 (F_M_joins 1 σ) fun v97 s98 =>
    lt (hset s98 0 37 (isub (s98 0 37) 1)) fun s100 =>
    lt (hset s100 0 38 (isub (s100 0 38) 1)) fun s101 =>
    (if x2 = 4 then (
      gd (0 ≤ x1 ∧ x1 < (20 : Int)) <|
      cl2 (F_M_add (s101 22 x1.toNat) 0 s101) fun v104 s105 =>
      F_M_goesOn_561 x2 s105
    ) else (
      F_M_goesOn_561 x2 s101
    ))
  ) else (
    some (0, σ)
  ))
def F_M_goesOn_496 (x1 : Int) (x2 : Int) (t2 : Int) (σ : Hp) : Option (Int × Hp) :=
  cl2 (F_M_isSign t2 σ) fun v107 s108 =>
  (if v107 = 0 then (
    cl2 (F_M_blame 1 (s108 0 4) s108) fun v111 s112 =>
    F_M_goesOn_511 x1 x2 s112
  ) else (
    F_M_goesOn_511 x1 x2 s108
  ))
def F_M_goesOn_409 (x1 : Int) (x2 : Int) (σ : Hp) : Option (Int × Hp) :=
  (if 2 ≤ x2 then (
    (if x2 = 3 then (
      cl2 (F_M_isSign 44 σ) fun v117 s118 =>
      (if v117 = 0 then (
        cl2 (F_M_blame 1 (s118 0 4) s118) fun v121 s122 =>
        F_M_goesOn_451 x1 s122
      ) else (
        F_M_goesOn_451 x1 s118
      ))
    ) else (
      (if x2 = 5 then (
        F_M_goesOn_496 x1 x2 93 σ
      ) else (
        F_M_goesOn_496 x1 x2 41 σ
      ))
    ))
  ) else (
    (if (σ 0 8) = 0 then (
      cl2 (F_M_joins 1 σ) fun v125 s126 =>
      F_M_goesOn_426 s126
    ) else (
      F_M_goesOn_426 σ
    ))
  ))
def F_M_goesOn_387 (x1 : Int) (x2 : Int) (x3 : Int) (σ : Hp) : Option (Int × Hp) :=
  (if x3 = 0 then (
    F_M_goesOn_409 x1 x2 σ
  ) else (
    gd (0 ≤ x1 ∧ x1 < (20 : Int)) <|
    (if (σ 20 x1.toNat) = 0 then (
      cl2 (F_M_blame 1 (σ 0 4) σ) fun v131 s132 =>
      F_M_goesOn_409 x1 x2 s132
    ) else (
      F_M_goesOn_409 x1 x2 σ
    ))
  ))
def F_M_goesOn_272 (x1 : Int) (x2 : Int) (x3 : Int) (σ : Hp) : Option (Int × Hp) :=
  (if x3 = 0 then (
    F_M_goesOn_387 x1 x2 x3 σ
  ) else (
    cl2 (F_M_isWord 6385252 σ) fun v135 s136 =>
    (if v135 = 0 then (
      cl2 (F_M_isWord 28530 s136) fun v139 s140 =>
      (if v139 = 0 then (
        F_M_goesOn_387 x1 x2 x3 s140
      ) else (
        F_M_goesOn_296 x1 s140
      ))
    ) else (
      F_M_goesOn_296 x1 s136
    ))
  ))
def F_M_goesOn_175 (x1 : Int) (x2 : Int) (x3 : Int) (σ : Hp) : Option (Int × Hp) :=
  (if x3 = 0 then (
    F_M_goesOn_272 x1 x2 x3 σ
  ) else (
    gd (0 ≤ x1 ∧ x1 < (20 : Int)) <|
    (if (σ 20 x1.toNat) = 0 then (
      cl2 (F_M_isSign 60 σ) fun v146 s147 =>
      (if v146 = 0 then (
        cl2 (F_M_isSign 62 s147) fun v150 s151 =>
        (if v150 = 0 then (
          cl2 (F_M_isSign 61 s151) fun v154 s155 =>
          (if v154 = 0 then (
            F_M_goesOn_272 x1 x2 x3 s155
          ) else (
            F_M_goesOn_215 x1 s155
          ))
        ) else (
          F_M_goesOn_215 x1 s151
        ))
      ) else (
        F_M_goesOn_215 x1 s147
      ))
    ) else (
      F_M_goesOn_272 x1 x2 x3 σ
    ))
  ))
def F_M_goesOn (σ : Hp) : Option (Int × Hp) :=
  lt (isub (σ 0 37) 1) fun y1_158 =>
  gd (0 ≤ y1_158 ∧ y1_158 < (20 : Int)) <|
  lt (σ 19 y1_158.toNat) fun y2_160 =>
  cl2 (F_M_isTest y2_160 σ) fun v161 s162 =>
  gd (0 ≤ y1_158 ∧ y1_158 < (20 : Int)) <|
  (if 2 ≤ (s162 20 y1_158.toNat) then (
    F_M_goesOn_175 y1_158 y2_160 v161 s162
  ) else (
    cl2 (F_M_isSign 43 s162) fun v166 s167 =>
    (if v166 = 0 then (
      cl2 (F_M_isSign 45 s167) fun v170 s171 =>
      (if v170 = 0 then (
        cl2 (F_M_isSign 42 s171) fun v174 s175 =>
        (if v174 = 0 then (
          cl2 (F_M_isSign 47 s175) fun v178 s179 =>
          (if v178 = 0 then (
            cl2 (F_M_isSign 37 s179) fun v182 s183 =>
            (if v182 = 0 then (
              F_M_goesOn_175 y1_158 y2_160 v161 s183
            ) else (
              F_M_goesOn_74 s183
            ))
          ) else (
            F_M_goesOn_74 s179
          ))
        ) else (
          F_M_goesOn_74 s175
        ))
      ) else (
        F_M_goesOn_74 s171
      ))
    ) else (
      F_M_goesOn_74 s167
    ))
  ))
def F_M_isDeal_23 (a1 : Int) (t1 : Int) (σ : Hp) : Option (Int × Hp) :=
  gd (t1 = 0 ∨ t1 = 1) <|
  some (t1, σ)
def F_M_isDeal_22 (a1 : Int) (σ : Hp) : Option (Int × Hp) :=
  F_M_isDeal_23 a1 0 σ
def F_M_isDeal (a1 : Int) (σ : Hp) : Option (Int × Hp) :=
  gd (0 ≤ a1 ∧ a1 < (30 : Int)) <|
  (if (σ 42 a1.toNat) = 0 then (
    F_M_isDeal_22 a1 σ
  ) else (
    gd (0 ≤ a1 ∧ a1 < (30 : Int)) <|
    (if (σ 29 a1.toNat) = 0 then (
      F_M_isDeal_22 a1 σ
    ) else (
      F_M_isDeal_23 a1 1 σ
    ))
  ))
def F_M_keeps_48 (k4 : Int × Int × Hp → Option (Int × Hp)) (a1 : Int) (x2 : Int) (x3 : Int) (σ : Hp) : Option (Int × Hp) :=
  lt (iadd x3 1) fun y3_1 =>
  k4 (x2, y3_1, σ)
def F_M_keeps_56_b (k56 : Int × Hp → Option (Int × Hp)) (a1 : Int) (x3 : Int) (σ : Hp) : Option (Int × Hp) :=
  (if 6 ≤ x3 then (
    some (0, σ)
  ) else (
    gd (0 ≤ (iadd (imul 6 a1) x3) ∧ (iadd (imul 6 a1) x3) < (6006 : Int)) <|
    lt (hset σ 46 (iadd (imul 6 a1) x3).toNat 0) fun s4 =>
    lt (iadd x3 1) fun y3_5 =>
    k56 (y3_5, s4)
  ))
def F_M_keeps_56 (a1 : Int) : Nat → Int × Hp → Option (Int × Hp) := loopF (fun k56 a => F_M_keeps_56_b k56 a1 a.1 a.2)
def F_M_keeps_4_b (k4 : Int × Int × Hp → Option (Int × Hp)) (a1 : Int) (x2 : Int) (x3 : Int) (σ : Hp) : Option (Int × Hp) :=
  gd (0 ≤ (σ 0 12) ∧ (σ 0 12) < (2 : Int)) <|
  (if (σ 3 (σ 0 12).toNat) ≤ x3 then (
    F_M_keeps_56 a1 FU (x2, σ)
  ) else (
    cl2 (F_M_isDeal x3 σ) fun v8 s9 =>
    (if v8 = 0 then (
      F_M_keeps_48 k4 a1 x2 x3 s9
    ) else (
      gd (0 ≤ x3 ∧ x3 < (30 : Int)) <|
      gd (0 ≤ (iadd (imul 6 a1) x2) ∧ (iadd (imul 6 a1) x2) < (6006 : Int)) <|
      lt (hset s9 46 (iadd (imul 6 a1) x2).toNat (s9 43 x3.toNat)) fun s14 =>
      lt (iadd x2 1) fun y2_15 =>
      F_M_keeps_48 k4 a1 y2_15 x3 s14
    ))
  ))
def F_M_keeps_4 (a1 : Int) : Nat → Int × Int × Hp → Option (Int × Hp) := loopF (fun k4 a => F_M_keeps_4_b k4 a1 a.1 a.2.1 a.2.2)
def F_M_keeps (a1 : Int) (σ : Hp) : Option (Int × Hp) :=
  F_M_keeps_4 a1 FU (0, 0, σ)
def F_M_isLike_2_b (k2 : Int × Hp → Option (Int × Hp)) (a1 : Int) (a2 : Int) (x3 : Int) (σ : Hp) : Option (Int × Hp) :=
  (if 6 ≤ x3 then (
    some (1, σ)
  ) else (
    gd (0 ≤ (iadd (imul 6 a1) x3) ∧ (iadd (imul 6 a1) x3) < (6006 : Int)) <|
    gd (0 ≤ (iadd (imul 6 a2) x3) ∧ (iadd (imul 6 a2) x3) < (6006 : Int)) <|
    (if (σ 46 (iadd (imul 6 a1) x3).toNat) = (σ 46 (iadd (imul 6 a2) x3).toNat) then (
      lt (iadd x3 1) fun y3_5 =>
      k2 (y3_5, σ)
    ) else (
      some (0, σ)
    ))
  ))
def F_M_isLike_2 (a1 : Int) (a2 : Int) : Nat → Int × Hp → Option (Int × Hp) := loopF (fun k2 a => F_M_isLike_2_b k2 a1 a2 a.1 a.2)
def F_M_isLike (a1 : Int) (a2 : Int) (σ : Hp) : Option (Int × Hp) :=
  F_M_isLike_2 a1 a2 FU (0, σ)
def F_M_haggle_105 (k31 : Int × Int × Hp → Option (Int × Hp)) (a1 : Int) (x2 : Int) (x3 : Int) (σ : Hp) : Option (Int × Hp) :=
  lt (iadd x3 1) fun y3_1 =>
  k31 (x2, y3_1, σ)
def F_M_haggle_99 (k31 : Int × Int × Hp → Option (Int × Hp)) (a1 : Int) (x2 : Int) (x3 : Int) (t3 : Int) (t2 : Int) (σ : Hp) : Option (Int × Hp) :=
  gd (0 ≤ t2 ∧ t2 < (30 : Int)) <|
  lt (hset σ 43 t2.toNat (w32 t3)) fun s3 =>
  cl2 (F_M_shares  s3) fun v4 s5 =>
  F_M_haggle_105 k31 a1 x2 x3 s5
def F_M_haggle_149 (a1 : Int) (x2 : Int) (t2 : Int) (σ : Hp) : Option (Int × Hp) :=
  lt (hset σ 0 67 t2) fun s7 =>
  some (x2, s7)
def F_M_haggle_120_b (k24 : Int × Hp → Option (Int × Hp)) (k120 : Int × Int × Hp → Option (Int × Hp)) (a1 : Int) (x2 : Int) (x3 : Int) (σ : Hp) : Option (Int × Hp) :=
  (if x3 < 0 then (
    lt (iadd x2 1) fun y2_9 =>
    k24 (y2_9, σ)
  ) else (
    cl2 (F_M_isLike x2 x3 σ) fun v10 s11 =>
    (if v10 = 0 then (
      lt (iadd x3 (-1)) fun y3_15 =>
      k120 (x2, y3_15, s11)
    ) else (
      (if x3 = (isub x2 1) then (
        F_M_haggle_149 a1 x2 0 s11
      ) else (
        F_M_haggle_149 a1 x2 1 s11
      ))
    ))
  ))
def F_M_haggle_120 (k24 : Int × Hp → Option (Int × Hp)) (a1 : Int) : Nat → Int × Int × Hp → Option (Int × Hp) := loopF (fun k120 a => F_M_haggle_120_b k24 k120 a1 a.1 a.2.1 a.2.2)
def F_M_haggle_31_b (k24 : Int × Hp → Option (Int × Hp)) (k31 : Int × Int × Hp → Option (Int × Hp)) (a1 : Int) (x2 : Int) (x3 : Int) (σ : Hp) : Option (Int × Hp) :=
  gd (0 ≤ (σ 0 12) ∧ (σ 0 12) < (2 : Int)) <|
  (if (σ 3 (σ 0 12).toNat) ≤ x3 then (
    cl2 (F_M_keeps x2 σ) fun v18 s19 =>
    lt (isub x2 1) fun y3_21 =>
    F_M_haggle_120 k24 a1 FU (x2, y3_21, s19)
  ) else (
    cl2 (F_M_isDeal x3 σ) fun v22 s23 =>
    (if v22 = 0 then (
      F_M_haggle_105 k31 a1 x2 x3 s23
    ) else (
      cl2 (F_M_evenOf x3 s23) fun v26 s27 =>
      (if (lcmp v26 1000000) ≤ 0 then (
        (if 0 ≤ (lcmp v26 (-1000000)) then (
          F_M_haggle_99 k31 a1 x2 x3 v26 x3 s27
        ) else (
          F_M_haggle_99 k31 a1 x2 x3 (-1000000) x3 s27
        ))
      ) else (
        F_M_haggle_99 k31 a1 x2 x3 1000000 x3 s27
      ))
    ))
  ))
def F_M_haggle_31 (k24 : Int × Hp → Option (Int × Hp)) (a1 : Int) : Nat → Int × Int × Hp → Option (Int × Hp) := loopF (fun k31 a => F_M_haggle_31_b k24 k31 a1 a.1 a.2.1 a.2.2)
def F_M_haggle_24_b (k24 : Int × Hp → Option (Int × Hp)) (a1 : Int) (x2 : Int) (σ : Hp) : Option (Int × Hp) :=
  (if a1 < x2 then (
    lt (hset σ 0 67 2) fun s32 =>
    some (isub (-2) a1, s32)
  ) else (
    F_M_haggle_31 k24 a1 FU (x2, 0, σ)
  ))
def F_M_haggle_24 (a1 : Int) : Nat → Int × Hp → Option (Int × Hp) := loopF (fun k24 a => F_M_haggle_24_b k24 a1 a.1 a.2)
def F_M_haggle (a1 : Int) (σ : Hp) : Option (Int × Hp) :=
  cl2 (F_M_is a1 1 1000 σ) fun v33 s34 =>
  (if v33 = 0 then (
    some ((-1), s34)
  ) else (
    cl2 (F_M_laysAll  s34) fun v37 s38 =>
    cl2 (F_M_keeps 0 s38) fun v40 s41 =>
    F_M_haggle_24 a1 FU (1, s41)
  ))
def F_M_has (a1 : Int) (σ : Hp) : Option (Int × Hp) :=
  (if a1 = 0 then (
    gd (0 ≤ (σ 0 12) ∧ (σ 0 12) < (2 : Int)) <|
    some (σ 2 (σ 0 12).toNat, σ)
  ) else (
  (if a1 = 1 then (
    gd (0 ≤ (σ 0 12) ∧ (σ 0 12) < (2 : Int)) <|
    some (σ 3 (σ 0 12).toNat, σ)
  ) else (
  (if a1 = 2 then (
    gd (0 ≤ (σ 0 12) ∧ (σ 0 12) < (2 : Int)) <|
    some (σ 4 (σ 0 12).toNat, σ)
  ) else (
  (if a1 = 3 then (
    gd (0 ≤ (σ 0 12) ∧ (σ 0 12) < (2 : Int)) <|
    some (σ 5 (σ 0 12).toNat, σ)
  ) else (
  (if a1 = 4 then (
    some (σ 0 43, σ)
  ) else (
  (if a1 = 5 then (
    cl2 (F_M_now  σ) fun v11 s12 =>
    some (v11, s12)
  ) else (
  (if a1 = 6 then (
    cl2 (F_M_deals  σ) fun v15 s16 =>
    some (v15, s16)
  ) else (
  (if a1 = 7 then (
    some (σ 0 42, σ)
  ) else (
    some ((-1), σ)
  ))))))))))))))))
def F_M_writes (a1 : Int) (σ : Hp) : Option (Int × Hp) :=
  gd (0 ≤ (σ 0 71) ∧ (σ 0 71) < (200 : Int)) <|
  lt (hset σ 49 (σ 0 71).toNat (iand a1 255)) fun s2 =>
  lt (hset s2 0 71 (iadd (s2 0 71) 1)) fun s3 =>
  some (0, s3)
def F_M_image_106 (k39 : Int × Hp → Option (Int × Hp)) (x1 : Int) (σ : Hp) : Option (Int × Hp) :=
  lt (iadd x1 1) fun y1_1 =>
  k39 (y1_1, σ)
def F_M_image_75_b (k39 : Int × Hp → Option (Int × Hp)) (k75 : Int × Int × Hp → Option (Int × Hp)) (x1 : Int) (x2 : Int) (σ : Hp) : Option (Int × Hp) :=
  (if x2 < 0 then (
    F_M_image_106 k39 x1 σ
  ) else (
    gd (0 ≤ x1 ∧ x1 < (30 : Int)) <|
    (if (σ 42 x1.toNat) = 0 then (
      F_M_image_106 k39 x1 σ
    ) else (
      gd (0 ≤ x1 ∧ x1 < (30 : Int)) <|
      cl2 (F_M_writes (ishr (σ 43 x1.toNat) x2) σ) fun v6 s7 =>
      lt (iadd x2 (-8)) fun y2_9 =>
      k75 (x1, y2_9, s7)
    ))
  ))
def F_M_image_75 (k39 : Int × Hp → Option (Int × Hp)) : Nat → Int × Int × Hp → Option (Int × Hp) := loopF (fun k75 a => F_M_image_75_b k39 k75 a.1 a.2.1 a.2.2)
def F_M_image_69 (k39 : Int × Hp → Option (Int × Hp)) (x1 : Int) (t2 : Int) (σ : Hp) : Option (Int × Hp) :=
  cl2 (F_M_writes t2 σ) fun v10 s11 =>
  F_M_image_75 k39 FU (x1, 24, s11)
def F_M_image_116_b (k116 : Int × Int × Hp → Option (Int × Hp)) (x1 : Int) (x2 : Int) (σ : Hp) : Option (Int × Hp) :=
  (if (σ 0 71) ≤ x2 then (
    cl2 (F_M_writes (ishr x1 8) σ) fun v14 s15 =>
    cl2 (F_M_writes x1 s15) fun v17 s18 =>
    some (s18 0 71, s18)
  ) else (
    gd (0 ≤ x2 ∧ x2 < (200 : Int)) <|
    lt (irem (iadd (imul 31 x1) (σ 49 x2.toNat)) 65521) fun y1_21 =>
    lt (iadd x2 1) fun y2_22 =>
    k116 (y1_21, y2_22, σ)
  ))
def F_M_image_116 : Nat → Int × Int × Hp → Option (Int × Hp) := loopF (fun k116 a => F_M_image_116_b k116 a.1 a.2.1 a.2.2)
def F_M_image_39_b (k39 : Int × Hp → Option (Int × Hp)) (x1 : Int) (σ : Hp) : Option (Int × Hp) :=
  gd (0 ≤ (σ 0 12) ∧ (σ 0 12) < (2 : Int)) <|
  (if (σ 3 (σ 0 12).toNat) ≤ x1 then (
    F_M_image_116 FU (1, 0, σ)
  ) else (
    gd (0 ≤ x1 ∧ x1 < (30 : Int)) <|
    (if (σ 42 x1.toNat) = 0 then (
      F_M_image_69 k39 x1 255 σ
    ) else (
      F_M_image_69 k39 x1 1 σ
    ))
  ))
def F_M_image_39 : Nat → Int × Hp → Option (Int × Hp) := loopF (fun k39 a => F_M_image_39_b k39 a.1 a.2)
def F_M_image (σ : Hp) : Option (Int × Hp) :=
  lt (hset σ 0 71 0) fun s27 =>
  gd (0 ≤ (s27 0 12) ∧ (s27 0 12) < (2 : Int)) <|
  cl2 (F_M_writes (s27 3 (s27 0 12).toNat) s27) fun v29 s30 =>
  cl2 (F_M_writes (ishr (s30 0 42) 8) s30) fun v32 s33 =>
  cl2 (F_M_writes (s33 0 42) s33) fun v35 s36 =>
  F_M_image_39 FU (0, s36)
def F_M_word (a1 : Int) (σ : Hp) : Option (Int × Hp) :=
  gd (0 ≤ a1 ∧ a1 < (900 : Int)) <|
  gd (0 ≤ (iadd a1 1) ∧ (iadd a1 1) < (900 : Int)) <|
  gd (0 ≤ (iadd a1 2) ∧ (iadd a1 2) < (900 : Int)) <|
  gd (0 ≤ (iadd a1 3) ∧ (iadd a1 3) < (900 : Int)) <|
  some (ior (ior (ior (ishl (σ 1 a1.toNat) 24) (ishl (σ 1 (iadd a1 1).toNat) 16)) (ishl (σ 1 (iadd a1 2).toNat) 8)) (σ 1 (iadd a1 3).toNat), σ)
def F_M_isImage_46 (a1 : Int) (σ : Hp) : Option (Int × Hp) :=
  some (0, σ)
def F_M_isImage_273 (a1 : Int) (σ : Hp) : Option (Int × Hp) :=
  some (0, σ)
def F_M_isImage_282 (k116 : Int × Int × Int × Hp → Option (Int × Hp)) (a1 : Int) (x3 : Int) (x4 : Int) (x5 : Int) (σ : Hp) : Option (Int × Hp) :=
  lt (iadd x5 1) fun y5_1 =>
  k116 (x3, x4, y5_1, σ)
def F_M_isImage_185 (k116 : Int × Int × Int × Hp → Option (Int × Hp)) (a1 : Int) (x3 : Int) (x4 : Int) (x5 : Int) (σ : Hp) : Option (Int × Hp) :=
  lt (iadd x3 1) fun y3_2 =>
  gd (0 ≤ x5 ∧ x5 < (30 : Int)) <|
  (if (σ 50 x5.toNat) = 0 then (
    F_M_isImage_282 k116 a1 y3_2 x4 x5 σ
  ) else (
    (if (iadd y3_2 4) ≤ (isub a1 2) then (
      cl2 (F_M_word y3_2 σ) fun v6 s7 =>
      gd (0 ≤ x5 ∧ x5 < (30 : Int)) <|
      lt (hset s7 51 x5.toNat v6) fun s10 =>
      lt (iadd y3_2 4) fun y3_11 =>
      cl2 (F_M_first x5 s10) fun v12 s13 =>
      cl2 (F_M_second x5 s13) fun v15 s16 =>
      lt (ior (ishl 1 v12) (ishl 1 v15)) fun y6_18 =>
      (if (iand x4 y6_18) = 0 then (
        gd (0 ≤ x5 ∧ x5 < (30 : Int)) <|
        cl2 (F_M_is (s16 51 x5.toNat) (-1000000) 1000000 s16) fun v21 s22 =>
        (if v21 = 0 then (
          F_M_isImage_273 a1 s22
        ) else (
          lt (ior x4 y6_18) fun y4_25 =>
          F_M_isImage_282 k116 a1 y3_11 y4_25 x5 s22
        ))
      ) else (
        F_M_isImage_273 a1 s16
      ))
    ) else (
      some (0, σ)
    ))
  ))
def F_M_isImage_160 (k116 : Int × Int × Int × Hp → Option (Int × Hp)) (a1 : Int) (x3 : Int) (x4 : Int) (x5 : Int) (t3 : Int) (t2 : Int) (σ : Hp) : Option (Int × Hp) :=
  gd (0 ≤ t2 ∧ t2 < (30 : Int)) <|
  lt (hset σ 50 t2.toNat (z1 t3)) fun s27 =>
  gd (0 ≤ x3 ∧ x3 < (900 : Int)) <|
  (if (s27 1 x3.toNat) = 1 then (
    F_M_isImage_185 k116 a1 x3 x4 x5 s27
  ) else (
    gd (0 ≤ x3 ∧ x3 < (900 : Int)) <|
    (if (s27 1 x3.toNat) = 255 then (
      F_M_isImage_185 k116 a1 x3 x4 x5 s27
    ) else (
      some (0, s27)
    ))
  ))
def F_M_isImage_300 (a1 : Int) (t1 : Int) (σ : Hp) : Option (Int × Hp) :=
  gd (t1 = 0 ∨ t1 = 1) <|
  some (t1, σ)
def F_M_isImage_116_b (k116 : Int × Int × Int × Hp → Option (Int × Hp)) (a1 : Int) (x3 : Int) (x4 : Int) (x5 : Int) (σ : Hp) : Option (Int × Hp) :=
  gd (0 ≤ (σ 0 12) ∧ (σ 0 12) < (2 : Int)) <|
  (if (σ 3 (σ 0 12).toNat) ≤ x5 then (
    (if x3 = (isub a1 2) then (
      F_M_isImage_300 a1 1 σ
    ) else (
      F_M_isImage_300 a1 0 σ
    ))
  ) else (
    (if x3 < (isub a1 2) then (
      gd (0 ≤ x3 ∧ x3 < (900 : Int)) <|
      (if (σ 1 x3.toNat) = 1 then (
        F_M_isImage_160 k116 a1 x3 x4 x5 1 x5 σ
      ) else (
        F_M_isImage_160 k116 a1 x3 x4 x5 0 x5 σ
      ))
    ) else (
      some (0, σ)
    ))
  ))
def F_M_isImage_116 (a1 : Int) : Nat → Int × Int × Int × Hp → Option (Int × Hp) := loopF (fun k116 a => F_M_isImage_116_b k116 a1 a.1 a.2.1 a.2.2.1 a.2.2.2)
def F_M_isImage_52_b (k52 : Int × Int × Hp → Option (Int × Hp)) (a1 : Int) (x2 : Int) (x3 : Int) (σ : Hp) : Option (Int × Hp) :=
  (if (isub a1 2) ≤ x3 then (
    gd (0 ≤ (isub a1 2) ∧ (isub a1 2) < (900 : Int)) <|
    gd (0 ≤ (isub a1 1) ∧ (isub a1 1) < (900 : Int)) <|
    (if x2 = (iadd (imul 256 (σ 1 (isub a1 2).toNat)) (σ 1 (isub a1 1).toNat)) then (
      F_M_isImage_116 a1 FU (3, 0, 0, σ)
    ) else (
      some (0, σ)
    ))
  ) else (
    gd (0 ≤ x3 ∧ x3 < (900 : Int)) <|
    lt (irem (iadd (imul 31 x2) (σ 1 x3.toNat)) 65521) fun y2_44 =>
    lt (iadd x3 1) fun y3_45 =>
    k52 (y2_44, y3_45, σ)
  ))
def F_M_isImage_52 (a1 : Int) : Nat → Int × Int × Hp → Option (Int × Hp) := loopF (fun k52 a => F_M_isImage_52_b k52 a1 a.1 a.2.1 a.2.2)
def F_M_isImage (a1 : Int) (σ : Hp) : Option (Int × Hp) :=
  (if a1 < 5 then (
    F_M_isImage_46 a1 σ
  ) else (
    gd (0 ≤ (σ 0 12) ∧ (σ 0 12) < (2 : Int)) <|
    (if (σ 1 0) = (σ 3 (σ 0 12).toNat) then (
      (if (iadd (imul 256 (σ 1 1)) (σ 1 2)) ≤ 999 then (
        F_M_isImage_52 a1 FU (1, 0, σ)
      ) else (
        F_M_isImage_46 a1 σ
      ))
    ) else (
      F_M_isImage_46 a1 σ
    ))
  ))
def F_M_letter_81 (a1 : Int) (a2 : Int) (t1 : Int) (σ : Hp) : Option (Int × Hp) :=
  some (t1, σ)
def F_M_letter_61 (a1 : Int) (a2 : Int) (σ : Hp) : Option (Int × Hp) :=
  F_M_letter_81 a1 a2 (-1) σ
def F_M_letter_31_b (k31 : Int × Int × Int × Hp → Option (Int × Hp)) (a1 : Int) (a2 : Int) (x3 : Int) (x5 : Int) (x6 : Int) (σ : Hp) : Option (Int × Hp) :=
  (if (lcmp x6 0) = 0 then (
    (if a2 < 0 then (
      F_M_letter_61 a1 a2 σ
    ) else (
      (if a2 < x5 then (
        F_M_letter_81 a1 a2 (w32 (land (lushr x3 (imul 8 (isub (isub x5 1) a2))) 255)) σ
      ) else (
        F_M_letter_61 a1 a2 σ
      ))
    ))
  ) else (
    lt (iadd x5 1) fun y5_4 =>
    lt (lushr x6 8) fun y6_5 =>
    k31 (x3, y5_4, y6_5, σ)
  ))
def F_M_letter_31 (a1 : Int) (a2 : Int) : Nat → Int × Int × Int × Hp → Option (Int × Hp) := loopF (fun k31 a => F_M_letter_31_b k31 a1 a2 a.1 a.2.1 a.2.2.1 a.2.2.2)
def F_M_letter (a1 : Int) (a2 : Int) (σ : Hp) : Option (Int × Hp) :=
  cl2 (F_M_isWho a1 σ) fun v6 s7 =>
  (if v6 = 0 then (
    some ((-1), s7)
  ) else (
    gd (0 ≤ (iadd (imul 12 (s7 0 12)) a1) ∧ (iadd (imul 12 (s7 0 12)) a1) < (24 : Int)) <|
    lt (s7 6 (iadd (imul 12 (s7 0 12)) a1).toNat) fun y3_11 =>
    F_M_letter_31 a1 a2 FU (y3_11, 0, y3_11, s7)
  ))
def F_M_made_17 (a1 : Int) (a2 : Int) (σ : Hp) : Option (Int × Hp) :=
  some ((-2000000000), σ)
def F_M_made_80 (a1 : Int) (a2 : Int) (t1 : Int) (σ : Hp) : Option (Int × Hp) :=
  some (t1, σ)
def F_M_made (a1 : Int) (a2 : Int) (σ : Hp) : Option (Int × Hp) :=
  cl2 (F_M_isRoad a1 σ) fun v1 s2 =>
  (if v1 = 0 then (
    F_M_made_17 a1 a2 s2
  ) else (
    cl2 (F_M_is a2 0 2 s2) fun v5 s6 =>
    (if v5 = 0 then (
      F_M_made_17 a1 a2 s6
    ) else (
      cl2 (F_M_lays (-1) 0 s6) fun v9 s10 =>
      gd (0 ≤ a1 ∧ a1 < (30 : Int)) <|
      (if (s10 29 a1.toNat) = 0 then (
        some ((-2000000000), s10)
      ) else (
        (if a2 = 0 then (
          gd (0 ≤ a1 ∧ a1 < (30 : Int)) <|
          F_M_made_80 a1 a2 (s10 30 a1.toNat) s10
        ) else (
          (if a2 = 1 then (
            cl2 (F_M_gainOf a1 s10) fun v17 s18 =>
            F_M_made_80 a1 a2 v17 s18
          ) else (
            gd (0 ≤ (iadd (imul 30 (s10 0 12)) a1) ∧ (iadd (imul 30 (s10 0 12)) a1) < (60 : Int)) <|
            F_M_made_80 a1 a2 (s10 14 (iadd (imul 30 (s10 0 12)) a1).toNat) s10
          ))
        ))
      ))
    ))
  ))
def F_M_money_70 (a1 : Int) (t1 : Int) (σ : Hp) : Option (Int × Hp) :=
  some (w32 t1, σ)
def F_M_money (a1 : Int) (σ : Hp) : Option (Int × Hp) :=
  cl2 (F_M_isWho a1 σ) fun v1 s2 =>
  (if v1 = 0 then (
    some ((-2000000000), s2)
  ) else (
    cl2 (F_M_laysAll  s2) fun v5 s6 =>
    gd (0 ≤ a1 ∧ a1 < (12 : Int)) <|
    lt (s6 44 a1.toNat) fun y2_9 =>
    (if y2_9 = (-1) then (
      gd (0 ≤ a1 ∧ a1 < (12 : Int)) <|
      F_M_money_70 a1 (s6 45 a1.toNat) s6
    ) else (
      gd (0 ≤ a1 ∧ a1 < (12 : Int)) <|
      cl2 (F_M_otherOn y2_9 a1 s6) fun v12 s13 =>
      gd (0 ≤ (iadd (iadd (imul 144 (s6 0 12)) (imul 12 a1)) v12) ∧ (iadd (iadd (imul 144 (s6 0 12)) (imul 12 a1)) v12) < (288 : Int)) <|
      F_M_money_70 a1 (lsub (s6 45 a1.toNat) (s13 15 (iadd (iadd (imul 144 (s6 0 12)) (imul 12 a1)) v12).toNat)) s13
    ))
  ))
def F_M_most (a1 : Int) (σ : Hp) : Option (Int × Hp) :=
  cl2 (F_M_lays (-1) 0 σ) fun v1 s2 =>
  (if a1 = 0 then (
    cl2 (F_M_mosts (-1) s2) fun v5 s6 =>
    cl2 (F_M_all  s6) fun v8 s9 =>
    gd (0 ≤ v8 ∧ v8 < (4096 : Int)) <|
    some (s9 32 v8.toNat, s9)
  ) else (
    cl2 (F_M_doubles 31 s2) fun v12 s13 =>
    some (v12, s13)
  ))
def F_M_moves_30 (a1 : Int) (a2 : Int) (t1 : Int) (σ : Hp) : Option (Int × Hp) :=
  some (t1, σ)
def F_M_moves_29 (a1 : Int) (a2 : Int) (σ : Hp) : Option (Int × Hp) :=
  F_M_moves_30 a1 a2 (-1) σ
def F_M_moves (a1 : Int) (a2 : Int) (σ : Hp) : Option (Int × Hp) :=
  cl2 (F_M_isRoad a1 σ) fun v1 s2 =>
  (if v1 = 0 then (
    F_M_moves_29 a1 a2 s2
  ) else (
    cl2 (F_M_is a2 (-1) 100000 s2) fun v5 s6 =>
    (if v5 = 0 then (
      F_M_moves_29 a1 a2 s6
    ) else (
      cl2 (F_M_changes a1 a2 0 s6) fun v9 s10 =>
      F_M_moves_30 a1 a2 v9 s10
    ))
  ))
def F_M_must_28 (a1 : Int) (σ : Hp) : Option (Int × Hp) :=
  some (0, σ)
def F_M_must_17 (a1 : Int) (σ : Hp) : Option (Int × Hp) :=
  (if (σ 0 8) = 0 then (
    cl2 (F_M_next  σ) fun v2 s3 =>
    F_M_must_28 a1 s3
  ) else (
    F_M_must_28 a1 σ
  ))
def F_M_must (a1 : Int) (σ : Hp) : Option (Int × Hp) :=
  cl2 (F_M_isSign a1 σ) fun v5 s6 =>
  (if v5 = 0 then (
    cl2 (F_M_blame 1 (s6 0 4) s6) fun v9 s10 =>
    F_M_must_17 a1 s10
  ) else (
    F_M_must_17 a1 s6
  ))
def F_M_must__36 (a1 : Int) (σ : Hp) : Option (Int × Hp) :=
  some (0, σ)
def F_M_must__25 (a1 : Int) (σ : Hp) : Option (Int × Hp) :=
  (if (σ 0 8) = 0 then (
    cl2 (F_M_next  σ) fun v2 s3 =>
    F_M_must__36 a1 s3
  ) else (
    F_M_must__36 a1 σ
  ))
def F_M_must_ (a1 : Int) (σ : Hp) : Option (Int × Hp) :=
  (if (σ 0 8) ≤ 0 then (
    cl2 (F_M_isWord a1 σ) fun v6 s7 =>
    (if v6 = 0 then (
      cl2 (F_M_blame 1 (s7 0 4) s7) fun v10 s11 =>
      F_M_must__25 a1 s11
    ) else (
      F_M_must__25 a1 s7
    ))
  ) else (
    some (0, σ)
  ))
def F_M_octet_22 (a1 : Int) (t1 : Int) (σ : Hp) : Option (Int × Hp) :=
  some (t1, σ)
def F_M_octet_21 (a1 : Int) (σ : Hp) : Option (Int × Hp) :=
  F_M_octet_22 a1 (-1) σ
def F_M_octet (a1 : Int) (σ : Hp) : Option (Int × Hp) :=
  (if a1 < 0 then (
    F_M_octet_21 a1 σ
  ) else (
    (if (σ 0 71) ≤ a1 then (
      F_M_octet_21 a1 σ
    ) else (
      gd (0 ≤ a1 ∧ a1 < (200 : Int)) <|
      F_M_octet_22 a1 (σ 49 a1.toNat) σ
    ))
  ))
def F_M_of_12 (a1 : Int) (σ : Hp) : Option (Int × Hp) :=
  some ((-1), σ)
def F_M_of (a1 : Int) (σ : Hp) : Option (Int × Hp) :=
  (if a1 < 0 then (
    F_M_of_12 a1 σ
  ) else (
    cl2 (F_M_all  σ) fun v2 s3 =>
    (if a1 ≤ v2 then (
      cl2 (F_M_lays (-1) 0 s3) fun v6 s7 =>
      cl2 (F_M_mosts (-1) s7) fun v9 s10 =>
      gd (0 ≤ a1 ∧ a1 < (4096 : Int)) <|
      some (s10 32 a1.toNat, s10)
    ) else (
      F_M_of_12 a1 s3
    ))
  ))
def F_M_on_43_b (k43 : Int × Hp → Option (Int × Hp)) (x2 : Int) (σ : Hp) : Option (Int × Hp) :=
  gd (0 ≤ (σ 0 12) ∧ (σ 0 12) < (2 : Int)) <|
  (if (σ 3 (σ 0 12).toNat) ≤ x2 then (
    some (1, σ)
  ) else (
    gd (0 ≤ x2 ∧ x2 < (30 : Int)) <|
    gd (0 ≤ x2 ∧ x2 < (30 : Int)) <|
    lt (hset σ 42 x2.toNat (z1 (σ 50 x2.toNat))) fun s5 =>
    gd (0 ≤ x2 ∧ x2 < (30 : Int)) <|
    gd (0 ≤ x2 ∧ x2 < (30 : Int)) <|
    lt (hset s5 43 x2.toNat (s5 51 x2.toNat)) fun s8 =>
    lt (iadd x2 1) fun y2_9 =>
    k43 (y2_9, s8)
  ))
def F_M_on_43 : Nat → Int × Hp → Option (Int × Hp) := loopF (fun k43 a => F_M_on_43_b k43 a.1 a.2)
def F_M_on (σ : Hp) : Option (Int × Hp) :=
  lt (σ 0 1) fun y1_10 =>
  lt (hset σ 0 1 0) fun s11 =>
  cl2 (F_M_isImage y1_10 s11) fun v12 s13 =>
  (if v12 = 0 then (
    some (0, s13)
  ) else (
    lt (hset s13 0 42 (iadd (imul 256 (s13 1 1)) (s13 1 2))) fun s16 =>
    F_M_on_43 FU (0, s16)
  ))
def F_M_pushes (a1 : Int) (σ : Hp) : Option (Int × Hp) :=
  gd (0 ≤ (σ 0 37) ∧ (σ 0 37) < (20 : Int)) <|
  lt (hset σ 19 (σ 0 37).toNat a1) fun s2 =>
  gd (0 ≤ (s2 0 37) ∧ (s2 0 37) < (20 : Int)) <|
  lt (hset s2 20 (s2 0 37).toNat 0) fun s4 =>
  gd (0 ≤ (s4 0 37) ∧ (s4 0 37) < (20 : Int)) <|
  lt (hset s4 21 (s4 0 37).toNat (z1 1)) fun s6 =>
  gd (0 ≤ (s6 0 37) ∧ (s6 0 37) < (20 : Int)) <|
  lt (hset s6 23 (s6 0 37).toNat (s6 0 40)) fun s8 =>
  lt (hset s8 0 37 (iadd (s8 0 37) 1)) fun s9 =>
  some (0, s9)
def F_M_opens_18 (a1 : Int) (σ : Hp) : Option (Int × Hp) :=
  (if (σ 0 8) ≤ 0 then (
    lt (hset σ 0 38 (iadd (σ 0 38) 1)) fun s2 =>
    cl2 (F_M_next  s2) fun v3 s4 =>
    cl2 (F_M_pushes a1 s4) fun v6 s7 =>
    some (0, s7)
  ) else (
    some (0, σ)
  ))
def F_M_opens (a1 : Int) (σ : Hp) : Option (Int × Hp) :=
  (if (σ 0 38) = 8 then (
    cl2 (F_M_blame 5 (σ 0 4) σ) fun v10 s11 =>
    F_M_opens_18 a1 s11
  ) else (
    F_M_opens_18 a1 σ
  ))
def F_M_other_36 (a1 : Int) (a2 : Int) (t1 : Int) (σ : Hp) : Option (Int × Hp) :=
  some (t1, σ)
def F_M_other (a1 : Int) (a2 : Int) (σ : Hp) : Option (Int × Hp) :=
  cl2 (F_M_isWho a1 σ) fun v1 s2 =>
  (if v1 = 0 then (
    some ((-2000000000), s2)
  ) else (
    cl2 (F_M_laysAll  s2) fun v5 s6 =>
    cl2 (F_M_elseOf a1 s6) fun v8 s9 =>
    (if a2 = 0 then (
      F_M_other_36 a1 a2 (w32 v8) s9
    ) else (
      cl2 (F_M_turnsTo a1 s9) fun v12 s13 =>
      F_M_other_36 a1 a2 v12 s13
    ))
  ))
def F_M_part_220 (σ : Hp) : Option (Int × Hp) :=
  some (0, σ)
def F_M_part_196 (x3 : Int) (σ : Hp) : Option (Int × Hp) :=
  cl2 (F_M_opens 3 σ) fun v1 s2 =>
  (if (s2 0 8) = 0 then (
    gd (0 ≤ (isub (s2 0 37) 1) ∧ (isub (s2 0 37) 1) < (20 : Int)) <|
    lt (hset s2 22 (isub (s2 0 37) 1).toNat x3) fun s6 =>
    F_M_part_220 s6
  ) else (
    F_M_part_220 s2
  ))
def F_M_part_173 (t1 : Int) (σ : Hp) : Option (Int × Hp) :=
  cl2 (F_M_next  σ) fun v7 s8 =>
  cl2 (F_M_isSign 40 s8) fun v10 s11 =>
  (if v10 = 0 then (
    cl2 (F_M_blame 1 (s11 0 4) s11) fun v14 s15 =>
    F_M_part_196 t1 s15
  ) else (
    F_M_part_196 t1 s11
  ))
def F_M_part_156 (σ : Hp) : Option (Int × Hp) :=
  cl2 (F_M_isWord 7170414 σ) fun v17 s18 =>
  (if v17 = 0 then (
    F_M_part_173 12 s18
  ) else (
    F_M_part_173 11 s18
  ))
def F_M_part_266 (σ : Hp) : Option (Int × Hp) :=
  some (1, σ)
def F_M_part_255 (σ : Hp) : Option (Int × Hp) :=
  (if (σ 0 8) = 0 then (
    cl2 (F_M_next  σ) fun v22 s23 =>
    F_M_part_266 s23
  ) else (
    F_M_part_266 σ
  ))
def F_M_part_356 (t3 : Int) (t2 : Int) (σ : Hp) : Option (Int × Hp) :=
  cl2 (F_M_add t2 t3 σ) fun v25 s26 =>
  cl2 (F_M_next  s26) fun v28 s29 =>
  some (1, s29)
def F_M_part_333 (x3 : Int) (σ : Hp) : Option (Int × Hp) :=
  (if (σ 0 8) ≤ 0 then (
    (if x3 = 0 then (
      F_M_part_356 (σ 0 6) x3 σ
    ) else (
      F_M_part_356 0 x3 σ
    ))
  ) else (
    some (1, σ)
  ))
def F_M_part_311 (t1 : Int) (σ : Hp) : Option (Int × Hp) :=
  (if t1 = 0 then (
    (if (σ 0 3) = 2 then (
      F_M_part_333 t1 σ
    ) else (
      cl2 (F_M_blame 1 (σ 0 4) σ) fun v35 s36 =>
      F_M_part_333 t1 s36
    ))
  ) else (
    F_M_part_333 t1 σ
  ))
def F_M_part_120 (σ : Hp) : Option (Int × Hp) :=
  cl2 (F_M_isSign 40 σ) fun v38 s39 =>
  (if v38 = 0 then (
    cl2 (F_M_isWord 7170414 s39) fun v42 s43 =>
    (if v42 = 0 then (
      cl2 (F_M_isWord 7168376 s43) fun v46 s47 =>
      (if v46 = 0 then (
        cl2 (F_M_isWord 418431069797 s47) fun v50 s51 =>
        (if v50 = 0 then (
          cl2 (F_M_isWord 6578553 s51) fun v54 s55 =>
          (if v54 = 0 then (
            cl2 (F_M_isWord 2003133803 s55) fun v58 s59 =>
            (if v58 = 0 then (
              cl2 (F_M_isWord 2003067257 s59) fun v62 s63 =>
              (if v62 = 0 then (
                F_M_part_311 0 s63
              ) else (
                F_M_part_311 3 s63
              ))
            ) else (
              F_M_part_311 2 s59
            ))
          ) else (
            F_M_part_311 1 s55
          ))
        ) else (
          cl2 (F_M_next  s51) fun v66 s67 =>
          cl2 (F_M_whoRead (-1) s67) fun v69 s70 =>
          (if (s70 0 8) = 0 then (
            cl2 (F_M_add 4 v69 s70) fun v73 s74 =>
            F_M_part_255 s74
          ) else (
            F_M_part_255 s70
          ))
        ))
      ) else (
        F_M_part_156 s47
      ))
    ) else (
      F_M_part_156 s43
    ))
  ) else (
    cl2 (F_M_opens 2 s39) fun v76 s77 =>
    some (0, s77)
  ))
def F_M_part_87 (x1 : Int) (x2 : Int) (σ : Hp) : Option (Int × Hp) :=
  (if x2 = 0 then (
    F_M_part_120 σ
  ) else (
    cl2 (F_M_isWord 6384748 σ) fun v80 s81 =>
    (if v80 = 0 then (
      F_M_part_120 s81
    ) else (
      cl2 (F_M_add 5 0 s81) fun v84 s85 =>
      gd (0 ≤ x1 ∧ x1 < (20 : Int)) <|
      lt (hset s85 20 x1.toNat 2) fun s88 =>
      cl2 (F_M_next  s88) fun v89 s90 =>
      some (1, s90)
    ))
  ))
def F_M_part_60 (x1 : Int) (x2 : Int) (σ : Hp) : Option (Int × Hp) :=
  gd (0 ≤ x1 ∧ x1 < (20 : Int)) <|
  lt (hset σ 21 x1.toNat (z1 0)) fun s93 =>
  (if x2 = 0 then (
    F_M_part_87 x1 x2 s93
  ) else (
    cl2 (F_M_isSign 91 s93) fun v95 s96 =>
    (if v95 = 0 then (
      F_M_part_87 x1 x2 s96
    ) else (
      cl2 (F_M_opens 5 s96) fun v99 s100 =>
      some (0, s100)
    ))
  ))
def F_M_part_33 (x1 : Int) (t1 : Int) (σ : Hp) : Option (Int × Hp) :=
  (if t1 = 0 then (
    F_M_part_60 x1 t1 σ
  ) else (
    cl2 (F_M_isWord 7237492 σ) fun v103 s104 =>
    (if v103 = 0 then (
      F_M_part_60 x1 t1 s104
    ) else (
      cl2 (F_M_holdsBack 18 s104) fun v107 s108 =>
      cl2 (F_M_next  s108) fun v110 s111 =>
      some (0, s111)
    ))
  ))
def F_M_part_32 (x1 : Int) (σ : Hp) : Option (Int × Hp) :=
  F_M_part_33 x1 0 σ
def F_M_part (σ : Hp) : Option (Int × Hp) :=
  lt (isub (σ 0 37) 1) fun y1_113 =>
  gd (0 ≤ y1_113 ∧ y1_113 < (20 : Int)) <|
  cl2 (F_M_isTest (σ 19 y1_113.toNat) σ) fun v115 s116 =>
  (if v115 = 0 then (
    F_M_part_32 y1_113 s116
  ) else (
    gd (0 ≤ y1_113 ∧ y1_113 < (20 : Int)) <|
    (if (s116 21 y1_113.toNat) = 0 then (
      F_M_part_32 y1_113 s116
    ) else (
      F_M_part_33 y1_113 1 s116
    ))
  ))
def F_M_pays_19 (a1 : Int) (t1 : Int) (σ : Hp) : Option (Int × Hp) :=
  some (t1, σ)
def F_M_pays (a1 : Int) (σ : Hp) : Option (Int × Hp) :=
  cl2 (F_M_isRoad a1 σ) fun v1 s2 =>
  (if v1 = 0 then (
    F_M_pays_19 a1 (-1) s2
  ) else (
    cl2 (F_M_changes a1 (-1) 1 s2) fun v5 s6 =>
    F_M_pays_19 a1 v5 s6
  ))
def F_M_price_129 (a1 : Int) (t1 : Int) (σ : Hp) : Option (Int × Hp) :=
  some (t1, σ)
def F_M_price (a1 : Int) (σ : Hp) : Option (Int × Hp) :=
  cl2 (F_M_isRoad a1 σ) fun v1 s2 =>
  (if v1 = 0 then (
    some ((-1), s2)
  ) else (
    cl2 (F_M_lays a1 (-1) s2) fun v5 s6 =>
    cl2 (F_M_mosts (-1) s6) fun v8 s9 =>
    cl2 (F_M_first a1 s9) fun v11 s12 =>
    cl2 (F_M_second a1 s12) fun v14 s15 =>
    cl2 (F_M_all  s15) fun v17 s18 =>
    gd (0 ≤ v17 ∧ v17 < (4096 : Int)) <|
    cl2 (F_M_all  s18) fun v21 s22 =>
    gd (0 ≤ (iand v21 (ixor (ior (ishl 1 v11) (ishl 1 v14)) (-1))) ∧ (iand v21 (ixor (ior (ishl 1 v11) (ishl 1 v14)) (-1))) < (4096 : Int)) <|
    cl2 (F_M_aloneOf v11 s22) fun v25 s26 =>
    cl2 (F_M_aloneOf v14 s26) fun v28 s29 =>
    gd (0 ≤ (iadd (iadd (imul 144 (s29 0 12)) (imul 12 v11)) v14) ∧ (iadd (iadd (imul 144 (s29 0 12)) (imul 12 v11)) v14) < (288 : Int)) <|
    gd (0 ≤ (iadd (iadd (imul 144 (s29 0 12)) (imul 12 v14)) v11) ∧ (iadd (iadd (imul 144 (s29 0 12)) (imul 12 v14)) v11) < (288 : Int)) <|
    lt (isub (isub (iadd (iadd (isub (s18 32 v17.toNat) (s22 32 (iand v21 (ixor (ior (ishl 1 v11) (ishl 1 v14)) (-1))).toNat)) v25) v28) (s29 15 (iadd (iadd (imul 144 (s29 0 12)) (imul 12 v11)) v14).toNat)) (s29 15 (iadd (iadd (imul 144 (s29 0 12)) (imul 12 v14)) v11).toNat)) fun y4_33 =>
    (if 0 ≤ y4_33 then (
      F_M_price_129 a1 y4_33 s29
    ) else (
      F_M_price_129 a1 0 s29
    ))
  ))
def F_M_reads_86 (k43 : Int × Hp → Option (Int × Hp)) (a1 : Int) (t1 : Int) (σ : Hp) : Option (Int × Hp) :=
  k43 (t1, σ)
def F_M_reads_85 (k43 : Int × Hp → Option (Int × Hp)) (a1 : Int) (σ : Hp) : Option (Int × Hp) :=
  F_M_reads_86 k43 a1 0 σ
def F_M_reads_70 (k43 : Int × Hp → Option (Int × Hp)) (a1 : Int) (x2 : Int) (σ : Hp) : Option (Int × Hp) :=
  (if x2 = 0 then (
    F_M_reads_85 k43 a1 σ
  ) else (
    (if (σ 0 8) = 0 then (
      F_M_reads_86 k43 a1 1 σ
    ) else (
      F_M_reads_85 k43 a1 σ
    ))
  ))
def F_M_reads_43_b (k43 : Int × Hp → Option (Int × Hp)) (a1 : Int) (x2 : Int) (σ : Hp) : Option (Int × Hp) :=
  (if x2 = 0 then (
    some (0, σ)
  ) else (
    (if (σ 0 41) = 0 then (
      cl2 (F_M_part  σ) fun v8 s9 =>
      gd (v8 = 0 ∨ v8 = 1) <|
      lt (hset s9 0 41 v8) fun s11 =>
      F_M_reads_70 k43 a1 x2 s11
    ) else (
      cl2 (F_M_goesOn  σ) fun v5 s6 =>
      F_M_reads_70 k43 a1 v5 s6
    ))
  ))
def F_M_reads_43 (a1 : Int) : Nat → Int × Hp → Option (Int × Hp) := loopF (fun k43 a => F_M_reads_43_b k43 a1 a.1 a.2)
def F_M_reads_38 (a1 : Int) (t2 : Int) (σ : Hp) : Option (Int × Hp) :=
  cl2 (F_M_pushes t2 σ) fun v13 s14 =>
  F_M_reads_43 a1 FU (1, s14)
def F_M_reads (a1 : Int) (σ : Hp) : Option (Int × Hp) :=
  (if (σ 0 8) ≤ 0 then (
    lt (hset σ 0 37 0) fun s17 =>
    lt (hset s17 0 38 0) fun s18 =>
    lt (hset s18 0 40 0) fun s19 =>
    lt (hset s19 0 41 0) fun s20 =>
    (if a1 = 0 then (
      F_M_reads_38 a1 0 s20
    ) else (
      F_M_reads_38 a1 1 s20
    ))
  ) else (
    some (0, σ)
  ))
def F_M_road_239 (σ : Hp) : Option (Int × Hp) :=
  some (0, σ)
def F_M_road_202 (x1 : Int) (σ : Hp) : Option (Int × Hp) :=
  gd (0 ≤ x1 ∧ x1 < (60 : Int)) <|
  lt (hset σ 13 x1.toNat (σ 0 30)) fun s2 =>
  gd (0 ≤ x1 ∧ x1 < (60 : Int)) <|
  lt (hset s2 14 x1.toNat 0) fun s4 =>
  (if (s4 0 8) = 0 then (
    gd (0 ≤ (s4 0 31) ∧ (s4 0 31) < (2 : Int)) <|
    gd (0 ≤ (s4 0 31) ∧ (s4 0 31) < (2 : Int)) <|
    lt (hset s4 3 (s4 0 31).toNat (iadd (s4 3 (s4 0 31).toNat) 1)) fun s8 =>
    F_M_road_239 s8
  ) else (
    F_M_road_239 s4
  ))
def F_M_road_134 (x1 : Int) (σ : Hp) : Option (Int × Hp) :=
  cl2 (F_M_must_ 512970880104 σ) fun v9 s10 =>
  gd (0 ≤ x1 ∧ x1 < (60 : Int)) <|
  lt (hset s10 10 x1.toNat (s10 0 30)) fun s13 =>
  cl2 (F_M_reads 0 s13) fun v14 s15 =>
  gd (0 ≤ x1 ∧ x1 < (60 : Int)) <|
  lt (hset s15 11 x1.toNat (s15 0 30)) fun s18 =>
  gd (0 ≤ x1 ∧ x1 < (60 : Int)) <|
  lt (hset s18 12 x1.toNat (s18 0 30)) fun s20 =>
  (if (s20 0 8) = 0 then (
    cl2 (F_M_isWord 2003330414 s20) fun v22 s23 =>
    (if v22 = 0 then (
      F_M_road_202 x1 s23
    ) else (
      cl2 (F_M_next  s23) fun v26 s27 =>
      cl2 (F_M_reads 1 s27) fun v29 s30 =>
      F_M_road_202 x1 s30
    ))
  ) else (
    F_M_road_202 x1 s20
  ))
def F_M_road_123 (x1 : Int) (σ : Hp) : Option (Int × Hp) :=
  (if (σ 0 8) = 0 then (
    cl2 (F_M_next  σ) fun v33 s34 =>
    F_M_road_134 x1 s34
  ) else (
    F_M_road_134 x1 σ
  ))
def F_M_road_71 (x1 : Int) (σ : Hp) : Option (Int × Hp) :=
  gd (0 ≤ x1 ∧ x1 < (60 : Int)) <|
  cl2 (F_M_whoRead (σ 8 x1.toNat) σ) fun v37 s38 =>
  gd (0 ≤ x1 ∧ x1 < (60 : Int)) <|
  lt (hset s38 9 x1.toNat v37) fun s41 =>
  (if (s41 0 8) = 0 then (
    gd (0 ≤ x1 ∧ x1 < (60 : Int)) <|
    gd (0 ≤ x1 ∧ x1 < (60 : Int)) <|
    cl2 (F_M_roadOf (s41 8 x1.toNat) (s41 9 x1.toNat) s41) fun v45 s46 =>
    (if v45 = (-1) then (
      F_M_road_123 x1 s46
    ) else (
      cl2 (F_M_blame 2 (s46 0 4) s46) fun v49 s50 =>
      F_M_road_123 x1 s50
    ))
  ) else (
    F_M_road_123 x1 s41
  ))
def F_M_road_20 (t2 : Int) (σ : Hp) : Option (Int × Hp) :=
  cl2 (F_M_counts t2 σ) fun v52 s53 =>
  (if (s53 0 8) ≤ 0 then (
    gd (0 ≤ (s53 0 31) ∧ (s53 0 31) < (2 : Int)) <|
    lt (iadd (imul 30 (s53 0 31)) (s53 3 (s53 0 31).toNat)) fun y1_57 =>
    cl2 (F_M_whoRead (-1) s53) fun v58 s59 =>
    gd (0 ≤ y1_57 ∧ y1_57 < (60 : Int)) <|
    lt (hset s59 8 y1_57.toNat v58) fun s62 =>
    (if (s62 0 8) = 0 then (
      cl2 (F_M_next  s62) fun v64 s65 =>
      F_M_road_71 y1_57 s65
    ) else (
      F_M_road_71 y1_57 s62
    ))
  ) else (
    some (0, s53)
  ))
def F_M_road (σ : Hp) : Option (Int × Hp) :=
  gd (0 ≤ (σ 0 31) ∧ (σ 0 31) < (2 : Int)) <|
  (if (σ 3 (σ 0 31).toNat) = 30 then (
    F_M_road_20 1 σ
  ) else (
    F_M_road_20 0 σ
  ))
def F_M_road__38 (a1 : Int) (a2 : Int) (t1 : Int) (σ : Hp) : Option (Int × Hp) :=
  some (t1, σ)
def F_M_road__17 (a1 : Int) (a2 : Int) (σ : Hp) : Option (Int × Hp) :=
  F_M_road__38 a1 a2 (-1) σ
def F_M_road_ (a1 : Int) (a2 : Int) (σ : Hp) : Option (Int × Hp) :=
  cl2 (F_M_isRoad a1 σ) fun v1 s2 =>
  (if v1 = 0 then (
    F_M_road__17 a1 a2 s2
  ) else (
    cl2 (F_M_is a2 0 1 s2) fun v5 s6 =>
    (if v5 = 0 then (
      F_M_road__17 a1 a2 s6
    ) else (
      (if a2 = 0 then (
        cl2 (F_M_first a1 s6) fun v13 s14 =>
        F_M_road__38 a1 a2 v13 s14
      ) else (
        cl2 (F_M_second a1 s6) fun v10 s11 =>
        F_M_road__38 a1 a2 v10 s11
      ))
    ))
  ))
def F_M_row_32 (a1 : Int) (t1 : Int) (σ : Hp) : Option (Int × Hp) :=
  some (t1, σ)
def F_M_row_22 (a1 : Int) (σ : Hp) : Option (Int × Hp) :=
  F_M_row_32 a1 (-1) σ
def F_M_row (a1 : Int) (σ : Hp) : Option (Int × Hp) :=
  cl2 (F_M_lays (-1) 0 σ) fun v1 s2 =>
  cl2 (F_M_finds  s2) fun v4 s5 =>
  (if a1 < 0 then (
    F_M_row_22 a1 s5
  ) else (
    (if a1 < (s5 0 56) then (
      gd (0 ≤ a1 ∧ a1 < (6 : Int)) <|
      F_M_row_32 a1 (s5 36 a1.toNat) s5
    ) else (
      F_M_row_22 a1 s5
    ))
  ))
def F_M_share (a1 : Int) (σ : Hp) : Option (Int × Hp) :=
  cl2 (F_M_isWho a1 σ) fun v1 s2 =>
  (if v1 = 0 then (
    some ((-2000000000), s2)
  ) else (
    cl2 (F_M_laysAll  s2) fun v5 s6 =>
    gd (0 ≤ a1 ∧ a1 < (12 : Int)) <|
    some (w32 (s6 45 a1.toNat), s6)
  ))
def F_M_who_164 (σ : Hp) : Option (Int × Hp) :=
  some (0, σ)
def F_M_who_87 (σ : Hp) : Option (Int × Hp) :=
  (if (σ 0 8) ≤ 0 then (
    gd (0 ≤ (σ 0 31) ∧ (σ 0 31) < (2 : Int)) <|
    lt (iadd (imul 12 (σ 0 31)) (σ 2 (σ 0 31).toNat)) fun y1_3 =>
    gd (0 ≤ y1_3 ∧ y1_3 < (24 : Int)) <|
    lt (hset σ 6 y1_3.toNat (σ 0 7)) fun s5 =>
    cl2 (F_M_next  s5) fun v6 s7 =>
    cl2 (F_M_must_ 418431069797 s7) fun v9 s10 =>
    cl2 (F_M_number  s10) fun v12 s13 =>
    gd (0 ≤ y1_3 ∧ y1_3 < (24 : Int)) <|
    lt (hset s13 7 y1_3.toNat v12) fun s16 =>
    (if (s16 0 8) = 0 then (
      gd (0 ≤ (s16 0 31) ∧ (s16 0 31) < (2 : Int)) <|
      gd (0 ≤ (s16 0 31) ∧ (s16 0 31) < (2 : Int)) <|
      lt (hset s16 2 (s16 0 31).toNat (iadd (s16 2 (s16 0 31).toNat) 1)) fun s20 =>
      F_M_who_164 s20
    ) else (
      F_M_who_164 s16
    ))
  ) else (
    some (0, σ)
  ))
def F_M_who_59 (σ : Hp) : Option (Int × Hp) :=
  (if (σ 0 8) = 0 then (
    cl2 (F_M_whoOf (σ 0 7) σ) fun v22 s23 =>
    (if v22 = (-1) then (
      F_M_who_87 s23
    ) else (
      cl2 (F_M_blame 2 (s23 0 4) s23) fun v26 s27 =>
      F_M_who_87 s27
    ))
  ) else (
    F_M_who_87 σ
  ))
def F_M_who_50 (σ : Hp) : Option (Int × Hp) :=
  cl2 (F_M_blame 1 (σ 0 4) σ) fun v29 s30 =>
  F_M_who_59 s30
def F_M_who_20 (t2 : Int) (σ : Hp) : Option (Int × Hp) :=
  cl2 (F_M_counts t2 σ) fun v32 s33 =>
  (if (s33 0 8) ≤ 0 then (
    (if (s33 0 3) = 1 then (
      cl2 (F_M_isOwn (s33 0 7) s33) fun v37 s38 =>
      (if v37 = 0 then (
        F_M_who_59 s38
      ) else (
        F_M_who_50 s38
      ))
    ) else (
      F_M_who_50 s33
    ))
  ) else (
    some (0, s33)
  ))
def F_M_who (σ : Hp) : Option (Int × Hp) :=
  gd (0 ≤ (σ 0 31) ∧ (σ 0 31) < (2 : Int)) <|
  (if (σ 2 (σ 0 31).toNat) = 12 then (
    F_M_who_20 1 σ
  ) else (
    F_M_who_20 0 σ
  ))
def F_M_taste_178 (t3 : Int) (t2 : Int) (σ : Hp) : Option (Int × Hp) :=
  gd (0 ≤ t2 ∧ t2 < (288 : Int)) <|
  lt (hset σ 15 t2.toNat t3) fun s2 =>
  gd (0 ≤ (s2 0 31) ∧ (s2 0 31) < (2 : Int)) <|
  gd (0 ≤ (s2 0 31) ∧ (s2 0 31) < (2 : Int)) <|
  lt (hset s2 4 (s2 0 31).toNat (iadd (s2 4 (s2 0 31).toNat) 1)) fun s5 =>
  some (0, s5)
def F_M_taste_139 (x3 : Int) (x4 : Int) (σ : Hp) : Option (Int × Hp) :=
  cl2 (F_M_number  σ) fun v6 s7 =>
  (if (s7 0 8) ≤ 0 then (
    gd (0 ≤ x3 ∧ x3 < (288 : Int)) <|
    lt (hset s7 16 x3.toNat (z1 1)) fun s11 =>
    (if x4 = 0 then (
      F_M_taste_178 v6 x3 s11
    ) else (
      F_M_taste_178 (ineg v6) x3 s11
    ))
  ) else (
    some (0, s7)
  ))
def F_M_taste_128 (x3 : Int) (t1 : Int) (σ : Hp) : Option (Int × Hp) :=
  (if t1 = 0 then (
    F_M_taste_139 x3 t1 σ
  ) else (
    cl2 (F_M_next  σ) fun v14 s15 =>
    F_M_taste_139 x3 t1 s15
  ))
def F_M_taste_127 (x3 : Int) (σ : Hp) : Option (Int × Hp) :=
  F_M_taste_128 x3 0 σ
def F_M_taste_106 (x3 : Int) (σ : Hp) : Option (Int × Hp) :=
  (if (σ 0 8) = 0 then (
    cl2 (F_M_isWord 1818588019 σ) fun v18 s19 =>
    (if v18 = 0 then (
      F_M_taste_127 x3 s19
    ) else (
      F_M_taste_128 x3 1 s19
    ))
  ) else (
    F_M_taste_127 x3 σ
  ))
def F_M_taste_95 (x3 : Int) (σ : Hp) : Option (Int × Hp) :=
  (if (σ 0 8) = 0 then (
    cl2 (F_M_next  σ) fun v23 s24 =>
    F_M_taste_106 x3 s24
  ) else (
    F_M_taste_106 x3 σ
  ))
def F_M_taste_48 (x1 : Int) (σ : Hp) : Option (Int × Hp) :=
  cl2 (F_M_whoRead x1 σ) fun v26 s27 =>
  lt (iadd (iadd (imul 144 (s27 0 31)) (imul 12 x1)) v26) fun y3_29 =>
  (if (s27 0 8) = 0 then (
    gd (0 ≤ y3_29 ∧ y3_29 < (288 : Int)) <|
    (if (s27 16 y3_29.toNat) = 0 then (
      F_M_taste_95 y3_29 s27
    ) else (
      cl2 (F_M_blame 2 (s27 0 4) s27) fun v33 s34 =>
      F_M_taste_95 y3_29 s34
    ))
  ) else (
    F_M_taste_95 y3_29 s27
  ))
def F_M_taste_20 (t2 : Int) (σ : Hp) : Option (Int × Hp) :=
  cl2 (F_M_counts t2 σ) fun v36 s37 =>
  (if (s37 0 8) ≤ 0 then (
    cl2 (F_M_whoRead (-1) s37) fun v40 s41 =>
    (if (s41 0 8) = 0 then (
      cl2 (F_M_next  s41) fun v44 s45 =>
      F_M_taste_48 v40 s45
    ) else (
      F_M_taste_48 v40 s41
    ))
  ) else (
    some (0, s37)
  ))
def F_M_taste (σ : Hp) : Option (Int × Hp) :=
  gd (0 ≤ (σ 0 31) ∧ (σ 0 31) < (2 : Int)) <|
  (if (σ 4 (σ 0 31).toNat) = 24 then (
    F_M_taste_20 1 σ
  ) else (
    F_M_taste_20 0 σ
  ))
def F_M_statement_90 (σ : Hp) : Option (Int × Hp) :=
  some (0, σ)
def F_M_statement_77 (σ : Hp) : Option (Int × Hp) :=
  (if (σ 0 8) = 0 then (
    cl2 (F_M_must 59 σ) fun v2 s3 =>
    F_M_statement_90 s3
  ) else (
    F_M_statement_90 σ
  ))
def F_M_statement (σ : Hp) : Option (Int × Hp) :=
  cl2 (F_M_isWord 7825519 σ) fun v5 s6 =>
  (if v5 = 0 then (
    cl2 (F_M_isWord 1919902052 s6) fun v9 s10 =>
    (if v9 = 0 then (
      cl2 (F_M_isWord 499851162725 s10) fun v13 s14 =>
      (if v13 = 0 then (
        cl2 (F_M_isWord 431366693492 s14) fun v17 s18 =>
        (if v17 = 0 then (
          cl2 (F_M_blame 1 (s18 0 4) s18) fun v21 s22 =>
          F_M_statement_77 s22
        ) else (
          cl2 (F_M_doubt  s18) fun v24 s25 =>
          F_M_statement_77 s25
        ))
      ) else (
        cl2 (F_M_taste  s14) fun v27 s28 =>
        F_M_statement_77 s28
      ))
    ) else (
      cl2 (F_M_road  s10) fun v30 s31 =>
      F_M_statement_77 s31
    ))
  ) else (
    cl2 (F_M_who  s6) fun v33 s34 =>
    F_M_statement_77 s34
  ))
def F_M_surely_140 (k18 : Int × Int × Hp → Option (Int × Hp)) (x1 : Int) (x2 : Int) (σ : Hp) : Option (Int × Hp) :=
  lt (iadd x2 1) fun y2_1 =>
  k18 (x1, y2_1, σ)
def F_M_surely_139 (k18 : Int × Int × Hp → Option (Int × Hp)) (x2 : Int) (t1 : Int) (σ : Hp) : Option (Int × Hp) :=
  F_M_surely_140 k18 t1 x2 σ
def F_M_surely_138 (k18 : Int × Int × Hp → Option (Int × Hp)) (x2 : Int) (σ : Hp) : Option (Int × Hp) :=
  F_M_surely_139 k18 x2 0 σ
def F_M_surely_155 (t1 : Int) (σ : Hp) : Option (Int × Hp) :=
  some (t1, σ)
def F_M_surely_18_b (k18 : Int × Int × Hp → Option (Int × Hp)) (x1 : Int) (x2 : Int) (σ : Hp) : Option (Int × Hp) :=
  gd (0 ≤ (σ 0 12) ∧ (σ 0 12) < (2 : Int)) <|
  (if (σ 3 (σ 0 12).toNat) ≤ x2 then (
    (if x1 = 0 then (
      F_M_surely_155 1 σ
    ) else (
      F_M_surely_155 2 σ
    ))
  ) else (
    gd (0 ≤ x2 ∧ x2 < (30 : Int)) <|
    (if (σ 29 x2.toNat) = 0 then (
      F_M_surely_140 k18 x1 x2 σ
    ) else (
      gd (0 ≤ x2 ∧ x2 < (30 : Int)) <|
      (if (σ 42 x2.toNat) = 0 then (
        cl2 (F_M_first x2 σ) fun v9 s10 =>
        gd (0 ≤ v9 ∧ v9 < (12 : Int)) <|
        cl2 (F_M_second x2 s10) fun v13 s14 =>
        gd (0 ≤ v13 ∧ v13 < (12 : Int)) <|
        lt (ladd (s10 45 v9.toNat) (s14 45 v13.toNat)) fun y3_17 =>
        gd (0 ≤ x2 ∧ x2 < (30 : Int)) <|
        gd (0 ≤ (iadd (imul 30 (s14 0 12)) x2) ∧ (iadd (imul 30 (s14 0 12)) x2) < (60 : Int)) <|
        (if 0 ≤ (lcmp y3_17 (isub (s14 30 x2.toNat) (s14 14 (iadd (imul 30 (s14 0 12)) x2).toNat))) then (
          (if x1 = 0 then (
            F_M_surely_138 k18 x2 s14
          ) else (
            gd (0 ≤ x2 ∧ x2 < (30 : Int)) <|
            gd (0 ≤ (iadd (imul 30 (s14 0 12)) x2) ∧ (iadd (imul 30 (s14 0 12)) x2) < (60 : Int)) <|
            (if (lcmp y3_17 (iadd (s14 30 x2.toNat) (s14 14 (iadd (imul 30 (s14 0 12)) x2).toNat))) < 0 then (
              F_M_surely_138 k18 x2 s14
            ) else (
              F_M_surely_139 k18 x2 1 s14
            ))
          ))
        ) else (
          some (0, s14)
        ))
      ) else (
        F_M_surely_140 k18 x1 x2 σ
      ))
    ))
  ))
def F_M_surely_18 : Nat → Int × Int × Hp → Option (Int × Hp) := loopF (fun k18 a => F_M_surely_18_b k18 a.1 a.2.1 a.2.2)
def F_M_surely (σ : Hp) : Option (Int × Hp) :=
  cl2 (F_M_laysAll  σ) fun v25 s26 =>
  cl2 (F_M_lone  s26) fun v28 s29 =>
  (if v28 = (-1) then (
    F_M_surely_18 FU (1, 0, s29)
  ) else (
    some (0, s29)
  ))
def F_M_text_203_b (k203 : Int × Int × Hp → Option (Int × Hp)) (x1 : Int) (x2 : Int) (σ : Hp) : Option (Int × Hp) :=
  (if 30 ≤ x2 then (
    some (x1, σ)
  ) else (
    gd (0 ≤ x2 ∧ x2 < (30 : Int)) <|
    lt (hset σ 42 x2.toNat (z1 0)) fun s3 =>
    lt (iadd x2 1) fun y2_4 =>
    k203 (x1, y2_4, s3)
  ))
def F_M_text_203 : Nat → Int × Int × Hp → Option (Int × Hp) := loopF (fun k203 a => F_M_text_203_b k203 a.1 a.2.1 a.2.2)
def F_M_text_158 (x1 : Int) (σ : Hp) : Option (Int × Hp) :=
  lt (hset σ 0 10 (σ 0 8)) fun s5 =>
  lt (hset s5 0 11 (s5 0 9)) fun s6 =>
  (if (s6 0 8) ≤ 0 then (
    lt (hset s6 0 12 (s6 0 31)) fun s8 =>
    lt (hset s8 0 43 0) fun s9 =>
    lt (hset s9 0 44 (-1)) fun s10 =>
    F_M_text_203 FU (x1, 0, s10)
  ) else (
    some ((-1), s6)
  ))
def F_M_text_134_b (k134 : Int × Hp → Option (Int × Hp)) (x1 : Int) (σ : Hp) : Option (Int × Hp) :=
  (if (σ 0 8) = 0 then (
    (if (σ 0 3) = 0 then (
      F_M_text_158 x1 σ
    ) else (
      cl2 (F_M_statement  σ) fun v13 s14 =>
      lt (iadd x1 1) fun y1_16 =>
      k134 (y1_16, s14)
    ))
  ) else (
    F_M_text_158 x1 σ
  ))
def F_M_text_134 : Nat → Int × Hp → Option (Int × Hp) := loopF (fun k134 a => F_M_text_134_b k134 a.1 a.2)
def F_M_text_92_b (k92 : Int × Hp → Option (Int × Hp)) (x1 : Int) (σ : Hp) : Option (Int × Hp) :=
  (if (iadd (imul 144 (σ 0 31)) 144) ≤ x1 then (
    cl2 (F_M_next  σ) fun v18 s19 =>
    F_M_text_134 FU (0, s19)
  ) else (
    gd (0 ≤ x1 ∧ x1 < (288 : Int)) <|
    lt (hset σ 15 x1.toNat 0) fun s22 =>
    gd (0 ≤ x1 ∧ x1 < (288 : Int)) <|
    lt (hset s22 16 x1.toNat (z1 0)) fun s24 =>
    lt (iadd x1 1) fun y1_25 =>
    k92 (y1_25, s24)
  ))
def F_M_text_92 : Nat → Int × Hp → Option (Int × Hp) := loopF (fun k92 a => F_M_text_92_b k92 a.1 a.2)
def F_M_text (σ : Hp) : Option (Int × Hp) :=
  lt (hset σ 0 2 (σ 0 1)) fun s26 =>
  lt (hset s26 0 1 0) fun s27 =>
  lt (hset s27 0 5 0) fun s28 =>
  lt (hset s28 0 8 0) fun s29 =>
  lt (hset s29 0 9 (-1)) fun s30 =>
  lt (hset s30 0 31 (isub 1 (s30 0 12))) fun s31 =>
  gd (0 ≤ (s31 0 31) ∧ (s31 0 31) < (2 : Int)) <|
  lt (hset s31 2 (s31 0 31).toNat 0) fun s33 =>
  gd (0 ≤ (s33 0 31) ∧ (s33 0 31) < (2 : Int)) <|
  lt (hset s33 3 (s33 0 31).toNat 0) fun s35 =>
  gd (0 ≤ (s35 0 31) ∧ (s35 0 31) < (2 : Int)) <|
  lt (hset s35 4 (s35 0 31).toNat 0) fun s37 =>
  gd (0 ≤ (s37 0 31) ∧ (s37 0 31) < (2 : Int)) <|
  lt (hset s37 5 (s37 0 31).toNat 0) fun s39 =>
  lt (hset s39 0 30 0) fun s40 =>
  lt (imul 144 (s40 0 31)) fun y1_41 =>
  F_M_text_92 FU (y1_41, s40)
def F_M_two_21 (a1 : Int) (a2 : Int) (a3 : Int) (a4 : Int) (σ : Hp) : Option (Int × Hp) :=
  some ((-2000000000), σ)
def F_M_two_86 (a1 : Int) (a2 : Int) (a3 : Int) (a4 : Int) (t1 : Int) (σ : Hp) : Option (Int × Hp) :=
  some (w32 t1, σ)
def F_M_two_57 (a1 : Int) (a2 : Int) (a3 : Int) (a4 : Int) (t1 : Int) (σ : Hp) : Option (Int × Hp) :=
  (if a4 = 0 then (
    cl2 (F_M_apart (imul 2 a1) t1 σ) fun v2 s3 =>
    F_M_two_86 a1 a2 a3 a4 (lneg v2) s3
  ) else (
    cl2 (F_M_apart t1 (imul 2 a1) σ) fun v5 s6 =>
    F_M_two_86 a1 a2 a3 a4 v5 s6
  ))
def F_M_two (a1 : Int) (a2 : Int) (a3 : Int) (a4 : Int) (σ : Hp) : Option (Int × Hp) :=
  cl2 (F_M_isWho a1 σ) fun v8 s9 =>
  (if v8 = 0 then (
    F_M_two_21 a1 a2 a3 a4 s9
  ) else (
    cl2 (F_M_isWho a2 s9) fun v12 s13 =>
    (if v12 = 0 then (
      F_M_two_21 a1 a2 a3 a4 s13
    ) else (
      (if a1 = a2 then (
        F_M_two_21 a1 a2 a3 a4 s13
      ) else (
        cl2 (F_M_lays (-1) 0 s13) fun v17 s18 =>
        cl2 (F_M_ends  s18) fun v20 s21 =>
        (if v20 = 0 then (
          some ((-2000000000), s21)
        ) else (
          (if a3 = 0 then (
            F_M_two_57 a1 a2 a3 a4 (iadd (imul 2 a2) 1) s21
          ) else (
            F_M_two_57 a1 a2 a3 a4 (imul 2 a2) s21
          ))
        ))
      ))
    ))
  ))
def F_M_undeal_17 (a1 : Int) (σ : Hp) : Option (Int × Hp) :=
  some ((-1), σ)
def F_M_undeal (a1 : Int) (σ : Hp) : Option (Int × Hp) :=
  cl2 (F_M_isRoad a1 σ) fun v1 s2 =>
  (if v1 = 0 then (
    F_M_undeal_17 a1 s2
  ) else (
    gd (0 ≤ a1 ∧ a1 < (30 : Int)) <|
    (if (s2 42 a1.toNat) = 0 then (
      F_M_undeal_17 a1 s2
    ) else (
      gd (0 ≤ a1 ∧ a1 < (30 : Int)) <|
      lt (hset s2 42 a1.toNat (z1 0)) fun s8 =>
      cl2 (F_M_deals  s8) fun v9 s10 =>
      some (v9, s10)
    ))
  ))
def F_M_uneven_45 (k6 : Int × Hp → Option (Int × Hp)) (x1 : Int) (σ : Hp) : Option (Int × Hp) :=
  lt (iadd x1 1) fun y1_1 =>
  k6 (y1_1, σ)
def F_M_uneven_6_b (k6 : Int × Hp → Option (Int × Hp)) (x1 : Int) (σ : Hp) : Option (Int × Hp) :=
  gd (0 ≤ (σ 0 12) ∧ (σ 0 12) < (2 : Int)) <|
  (if (σ 3 (σ 0 12).toNat) ≤ x1 then (
    some ((-1), σ)
  ) else (
    cl2 (F_M_isDeal x1 σ) fun v4 s5 =>
    (if v4 = 0 then (
      F_M_uneven_45 k6 x1 s5
    ) else (
      gd (0 ≤ x1 ∧ x1 < (30 : Int)) <|
      cl2 (F_M_evenOf x1 s5) fun v9 s10 =>
      (if (lcmp (s5 43 x1.toNat) v9) = 0 then (
        F_M_uneven_45 k6 x1 s10
      ) else (
        some (x1, s10)
      ))
    ))
  ))
def F_M_uneven_6 : Nat → Int × Hp → Option (Int × Hp) := loopF (fun k6 a => F_M_uneven_6_b k6 a.1 a.2)
def F_M_uneven (σ : Hp) : Option (Int × Hp) :=
  cl2 (F_M_laysAll  σ) fun v13 s14 =>
  F_M_uneven_6 FU (0, s14)
def F_M_ways_186 (k88 : Int × Int × Int × Int × Hp → Option (Int × Hp)) (x1 : Int) (x2 : Int) (x3 : Int) (x4 : Int) (σ : Hp) : Option (Int × Hp) :=
  lt (iadd x4 1) fun y4_1 =>
  k88 (x1, x2, x3, y4_1, σ)
def F_M_ways_222 (k20 : Int × Hp → Option (Int × Hp)) (x1 : Int) (t3 : Int) (t2 : Int) (σ : Hp) : Option (Int × Hp) :=
  gd (0 ≤ t2 ∧ t2 < (4096 : Int)) <|
  lt (hset σ 41 t2.toNat t3) fun s3 =>
  lt (iadd x1 1) fun y1_4 =>
  k20 (y1_4, s3)
def F_M_ways_88_b (k20 : Int × Hp → Option (Int × Hp)) (k88 : Int × Int × Int × Int × Hp → Option (Int × Hp)) (x1 : Int) (x2 : Int) (x3 : Int) (x4 : Int) (σ : Hp) : Option (Int × Hp) :=
  gd (0 ≤ (σ 0 12) ∧ (σ 0 12) < (2 : Int)) <|
  (if (σ 2 (σ 0 12).toNat) ≤ x4 then (
    gd (0 ≤ x1 ∧ x1 < (4096 : Int)) <|
    (if (lcmp (σ 41 x1.toNat) 1000000000) ≤ 0 then (
      gd (0 ≤ x1 ∧ x1 < (4096 : Int)) <|
      F_M_ways_222 k20 x1 (σ 41 x1.toNat) x1 σ
    ) else (
      F_M_ways_222 k20 x1 1000000000 x1 σ
    ))
  ) else (
    (if (iand (ishr x3 x4) 1) = 0 then (
      F_M_ways_186 k88 x1 x2 x3 x4 σ
    ) else (
      gd (0 ≤ (iadd (imul 12 x2) x4) ∧ (iadd (imul 12 x2) x4) < (144 : Int)) <|
      (if (σ 33 (iadd (imul 12 x2) x4).toNat) = 0 then (
        F_M_ways_186 k88 x1 x2 x3 x4 σ
      ) else (
        gd (0 ≤ (iadd (imul 12 x2) x4) ∧ (iadd (imul 12 x2) x4) < (144 : Int)) <|
        gd (0 ≤ (iand x3 (ixor (ishl 1 x4) (-1))) ∧ (iand x3 (ixor (ishl 1 x4) (-1))) < (4096 : Int)) <|
        gd (0 ≤ x1 ∧ x1 < (4096 : Int)) <|
        (if (iadd (σ 33 (iadd (imul 12 x2) x4).toNat) (σ 32 (iand x3 (ixor (ishl 1 x4) (-1))).toNat)) = (σ 32 x1.toNat) then (
          gd (0 ≤ x1 ∧ x1 < (4096 : Int)) <|
          gd (0 ≤ (iand x3 (ixor (ishl 1 x4) (-1))) ∧ (iand x3 (ixor (ishl 1 x4) (-1))) < (4096 : Int)) <|
          gd (0 ≤ x1 ∧ x1 < (4096 : Int)) <|
          lt (hset σ 41 x1.toNat (ladd (σ 41 x1.toNat) (σ 41 (iand x3 (ixor (ishl 1 x4) (-1))).toNat))) fun s20 =>
          F_M_ways_186 k88 x1 x2 x3 x4 s20
        ) else (
          F_M_ways_186 k88 x1 x2 x3 x4 σ
        ))
      ))
    ))
  ))
def F_M_ways_88 (k20 : Int × Hp → Option (Int × Hp)) : Nat → Int × Int × Int × Int × Hp → Option (Int × Hp) := loopF (fun k88 a => F_M_ways_88_b k20 k88 a.1 a.2.1 a.2.2.1 a.2.2.2.1 a.2.2.2.2)
def F_M_ways_82 (k20 : Int × Hp → Option (Int × Hp)) (x1 : Int) (x2 : Int) (x3 : Int) (t3 : Int) (t2 : Int) (σ : Hp) : Option (Int × Hp) :=
  gd (0 ≤ t2 ∧ t2 < (4096 : Int)) <|
  lt (hset σ 41 t2.toNat t3) fun s22 =>
  lt (iadd x2 1) fun y4_23 =>
  F_M_ways_88 k20 FU (x1, x2, x3, y4_23, s22)
def F_M_ways_30_b (k20 : Int × Hp → Option (Int × Hp)) (k30 : Int × Int × Hp → Option (Int × Hp)) (x1 : Int) (x2 : Int) (σ : Hp) : Option (Int × Hp) :=
  (if (iand (ishr x1 x2) 1) = 0 then (
    lt (iadd x2 1) fun y2_30 =>
    k30 (x1, y2_30, σ)
  ) else (
    lt (iand x1 (ixor (ishl 1 x2) (-1))) fun y3_25 =>
    gd (0 ≤ y3_25 ∧ y3_25 < (4096 : Int)) <|
    gd (0 ≤ x1 ∧ x1 < (4096 : Int)) <|
    (if (σ 32 y3_25.toNat) = (σ 32 x1.toNat) then (
      gd (0 ≤ y3_25 ∧ y3_25 < (4096 : Int)) <|
      F_M_ways_82 k20 x1 x2 y3_25 (σ 41 y3_25.toNat) x1 σ
    ) else (
      F_M_ways_82 k20 x1 x2 y3_25 0 x1 σ
    ))
  ))
def F_M_ways_30 (k20 : Int × Hp → Option (Int × Hp)) : Nat → Int × Int × Hp → Option (Int × Hp) := loopF (fun k30 a => F_M_ways_30_b k20 k30 a.1 a.2.1 a.2.2)
def F_M_ways_20_b (k20 : Int × Hp → Option (Int × Hp)) (x1 : Int) (σ : Hp) : Option (Int × Hp) :=
  cl2 (F_M_all  σ) fun v31 s32 =>
  (if v31 < x1 then (
    cl2 (F_M_all  s32) fun v35 s36 =>
    gd (0 ≤ v35 ∧ v35 < (4096 : Int)) <|
    some (w32 (s36 41 v35.toNat), s36)
  ) else (
    F_M_ways_30 k20 FU (x1, 0, s32)
  ))
def F_M_ways_20 : Nat → Int × Hp → Option (Int × Hp) := loopF (fun k20 a => F_M_ways_20_b k20 a.1 a.2)
def F_M_ways (σ : Hp) : Option (Int × Hp) :=
  cl2 (F_M_lays (-1) 0 σ) fun v39 s40 =>
  cl2 (F_M_mosts (-1) s40) fun v42 s43 =>
  lt (hset s43 41 0 1) fun s45 =>
  F_M_ways_20 FU (1, s45)
def F_M_worth_30 (a1 : Int) (a2 : Int) (t1 : Int) (σ : Hp) : Option (Int × Hp) :=
  some (t1, σ)
def F_M_worth_29 (a1 : Int) (a2 : Int) (σ : Hp) : Option (Int × Hp) :=
  F_M_worth_30 a1 a2 (-1) σ
def F_M_worth (a1 : Int) (a2 : Int) (σ : Hp) : Option (Int × Hp) :=
  cl2 (F_M_isRoad a1 σ) fun v1 s2 =>
  (if v1 = 0 then (
    F_M_worth_29 a1 a2 s2
  ) else (
    cl2 (F_M_is a2 (-2) 100000 s2) fun v5 s6 =>
    (if v5 = 0 then (
      F_M_worth_29 a1 a2 s6
    ) else (
      cl2 (F_M_enter a1 a2 s6) fun v9 s10 =>
      F_M_worth_30 a1 a2 v9 s10
    ))
  ))
