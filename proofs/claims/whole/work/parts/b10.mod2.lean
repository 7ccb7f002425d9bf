abbrev rm_X12_ends : Room := { frames := 4, cells := 0, slots := 0, locals := 94 }
theorem in_X12_ends_12 : ∀ w ∈ u_ws RX12 TX12 75, w ∈ wsX12_ends := fun w h => List.mem_cons_of_mem _ (List.mem_append_right _ h)
theorem fg_X12_ends_192 : aFl wsX12_ends RX12 192 12 59 := ⟨RX12, TX12, 75, rfl, in_X12_ends_12, by decide, (List.mem_of_getElem? (i := 1) rfl), rfl⟩
theorem fg_X12_ends_54 : aFl wsX12_ends RX12 54 12 14 := ⟨RX12, TX12, 75, rfl, in_X12_ends_12, by decide, (List.mem_of_getElem? (i := 6) rfl), rfl⟩
theorem fg_X12_ends_48 : aFl wsX12_ends RX12 48 12 12 := ⟨RX12, TX12, 75, rfl, in_X12_ends_12, by decide, (List.mem_of_getElem? (i := 4) rfl), rfl⟩
theorem fg_X12_ends_162 : aFl wsX12_ends RX12 162 12 49 := ⟨RX12, TX12, 75, rfl, in_X12_ends_12, by decide, (List.mem_of_getElem? (i := 7) rfl), rfl⟩
theorem fg_X12_ends_165 : aFl wsX12_ends RX12 165 12 50 := ⟨RX12, TX12, 75, rfl, in_X12_ends_12, by decide, (List.mem_of_getElem? (i := 8) rfl), rfl⟩
theorem fg_X12_ends_189 : aFl wsX12_ends RX12 189 12 58 := ⟨RX12, TX12, 75, rfl, in_X12_ends_12, by decide, (List.mem_of_getElem? (i := 5) rfl), rfl⟩
theorem fg_X12_ends_51 : aFl wsX12_ends RX12 51 12 13 := ⟨RX12, TX12, 75, rfl, in_X12_ends_12, by decide, (List.mem_of_getElem? (i := 3) rfl), rfl⟩
set_option maxRecDepth 100000 in
set_option maxHeartbeats 4000000 in
theorem w_X12_ends_36 {x : aC} {r : Int × Hp} {k6 : Int × Hp → Option (Int × Hp)} (X : aX x cX12_ends wsX12_ends RX12 4 rm_X12_ends) (E : aE x shM (some .boolean) 0 r) (hk6 : ∀ (x1 : Int) (σ : Hp), k6 (x1, σ) = some r → aS x shM 4 6 [(0, vR 0), (1, vI x1)] [] σ) (x1 : Int) (t3 : Int) (t2 : Int) (σ : Hp) (h : F_M_ends_36 k6 x1 t3 t2 σ = some r) : aS x shM 4 36 [(0, vR 0), (1, vI x1)] [vL t3, vI t2, vR 38] σ := by
  unfold F_M_ends_36 at h
  obtain ⟨g1, h⟩ := gdD h
  refine A_last X g1 shM_38 dX12_ends_36 (fun s2 hy => ?_)
  replace h := ltD h s2 hy
  clear hy
  refine A_iinc X (L' := fun y1_3 => [(1, vI y1_3), (0, vR 0)]) 1 rfl (by decide) (fun _ => rfl) dX12_ends_37 (by decide) (fun y1_3 hy => ?_)
  replace h := ltD h y1_3 hy
  clear hy
  refine A_goto X (tgt := 6) (by decide) dX12_ends_40 ?_
  refine A_sub [1, 0] rfl (L' := [(0, vR 0), (1, vI y1_3)]) rfl ?_
  exact hk6 y1_3 s2 h
set_option maxRecDepth 100000 in
set_option maxHeartbeats 4000000 in
theorem w_X12_ends_90 {x : aC} {r : Int × Hp} {k45 : Int × Hp → Option (Int × Hp)} (X : aX x cX12_ends wsX12_ends RX12 4 rm_X12_ends) (E : aE x shM (some .boolean) 0 r) (hk45 : ∀ (x1 : Int) (σ : Hp), k45 (x1, σ) = some r → aS x shM 4 45 [(0, vR 0), (1, vI x1)] [] σ) (x1 : Int) (σ : Hp) (h : F_M_ends_90 k45 x1 σ = some r) : aS x shM 4 90 [(0, vR 0), (1, vI x1)] [] σ := by
  unfold F_M_ends_90 at h
  refine A_iinc X (L' := fun y1_4 => [(1, vI y1_4), (0, vR 0)]) 1 rfl (by decide) (fun _ => rfl) dX12_ends_90 (by decide) (fun y1_4 hy => ?_)
  replace h := ltD h y1_4 hy
  clear hy
  refine A_goto X (tgt := 45) (by decide) dX12_ends_93 ?_
  refine A_sub [1, 0] rfl (L' := [(0, vR 0), (1, vI y1_4)]) rfl ?_
  exact hk45 y1_4 σ h
set_option maxRecDepth 100000 in
set_option maxHeartbeats 4000000 in
theorem w_X12_ends_179 {x : aC} {r : Int × Hp} {k98 : Int × Hp → Option (Int × Hp)} (X : aX x cX12_ends wsX12_ends RX12 4 rm_X12_ends) (E : aE x shM (some .boolean) 0 r) (hk98 : ∀ (x1 : Int) (σ : Hp), k98 (x1, σ) = some r → aS x shM 4 98 [(0, vR 0), (1, vI x1)] [] σ) (x1 : Int) (σ : Hp) (h : F_M_ends_179 k98 x1 σ = some r) : aS x shM 4 179 [(0, vR 0), (1, vI x1)] [] σ := by
  unfold F_M_ends_179 at h
  refine A_iinc X (L' := fun y1_5 => [(1, vI y1_5), (0, vR 0)]) 1 rfl (by decide) (fun _ => rfl) dX12_ends_179 (by decide) (fun y1_5 hy => ?_)
  replace h := ltD h y1_5 hy
  clear hy
  refine A_goto X (tgt := 98) (by decide) dX12_ends_182 ?_
  refine A_sub [1, 0] rfl (L' := [(0, vR 0), (1, vI y1_5)]) rfl ?_
  exact hk98 y1_5 σ h
set_option maxRecDepth 100000 in
set_option maxHeartbeats 4000000 in
theorem w_X12_ends_274 {x : aC} {r : Int × Hp} {k203 : Int × Int × Int × Hp → Option (Int × Hp)} (X : aX x cX12_ends wsX12_ends RX12 4 rm_X12_ends) (E : aE x shM (some .boolean) 0 r) (hk203 : ∀ (x1 : Int) (x2 : Int) (x3 : Int) (σ : Hp), k203 (x1, x2, x3, σ) = some r → aS x shM 4 203 [(0, vR 0), (1, vI x1), (2, vI x2), (3, vI x3)] [] σ) (x1 : Int) (x2 : Int) (x3 : Int) (σ : Hp) (h : F_M_ends_274 k203 x1 x2 x3 σ = some r) : aS x shM 4 274 [(0, vR 0), (1, vI x1), (2, vI x2), (3, vI x3)] [] σ := by
  unfold F_M_ends_274 at h
  refine A_iinc X (L' := fun y3_6 => [(3, vI y3_6), (0, vR 0), (1, vI x1), (2, vI x2)]) 3 rfl (by decide) (fun _ => rfl) dX12_ends_274 (by decide) (fun y3_6 hy => ?_)
  replace h := ltD h y3_6 hy
  clear hy
  refine A_goto X (tgt := 203) (by decide) dX12_ends_277 ?_
  refine A_sub [1, 2, 3, 0] rfl (L' := [(0, vR 0), (1, vI x1), (2, vI x2), (3, vI y3_6)]) rfl ?_
  exact hk203 x1 x2 y3_6 σ h
set_option maxRecDepth 100000 in
set_option maxHeartbeats 4000000 in
theorem w_X12_ends_203_b {x : aC} {r : Int × Hp} {k195 : Int × Int × Hp → Option (Int × Hp)} {k203 : Int × Int × Int × Hp → Option (Int × Hp)} (X : aX x cX12_ends wsX12_ends RX12 4 rm_X12_ends) (E : aE x shM (some .boolean) 0 r) (hk195 : ∀ (x1 : Int) (x2 : Int) (σ : Hp), k195 (x1, x2, σ) = some r → aS x shM 4 195 [(0, vR 0), (1, vI x1), (2, vI x2)] [] σ) (hk203 : ∀ (x1 : Int) (x2 : Int) (x3 : Int) (σ : Hp), k203 (x1, x2, x3, σ) = some r → aS x shM 4 203 [(0, vR 0), (1, vI x1), (2, vI x2), (3, vI x3)] [] σ) (x1 : Int) (x2 : Int) (x3 : Int) (σ : Hp) (h : F_M_ends_203_b k195 k203 x1 x2 x3 σ = some r) : aS x shM 4 203 [(0, vR 0), (1, vI x1), (2, vI x2), (3, vI x3)] [] σ := by
  unfold F_M_ends_203_b at h
  refine A_iload_n X 3 rfl rfl dX12_ends_203 ?_
  refine A_bipush X dX12_ends_204 (z := 24) (by decide) ?_
  refine A_icmp_ge X (tgt := 280) (by decide) dX12_ends_206 (fun c7 => ?_) (fun c7 => ?_)
  · replace h := ifT h c7
    refine A_iinc X (L' := fun y2_8 => [(2, vI y2_8), (0, vR 0), (1, vI x1), (3, vI x3)]) 2 rfl (by decide) (fun _ => rfl) dX12_ends_280 (by decide) (fun y2_8 hy => ?_)
    replace h := ltD h y2_8 hy
    clear hy
    refine A_goto X (tgt := 195) (by decide) dX12_ends_283 ?_
    refine A_sub [1, 2, 0] rfl (L' := [(0, vR 0), (1, vI x1), (2, vI y2_8)]) rfl ?_
    exact hk195 x1 y2_8 σ h
  · replace h := ifF h c7
    refine A_aload_n X 0 rfl rfl dX12_ends_209 ?_
    refine A_getR X fg_X12_ends_192 shM_0 (k := 59) rfl (by decide) dX12_ends_210 ?_
    refine A_bipush X dX12_ends_213 (z := 24) (by decide) ?_
    refine A_iload_n X 2 rfl rfl dX12_ends_215 ?_
    refine A_imul X dX12_ends_216 ?_
    refine A_iload_n X 1 rfl rfl dX12_ends_217 ?_
    refine A_iadd X dX12_ends_218 ?_
    obtain ⟨g9, h⟩ := gdD h
    refine A_lald X g9 shM_38 dX12_ends_219 ?_
    refine A_ldc2 X (v := (1000000000000)) (List.mem_of_getElem? (i := 2) rfl) dX12_ends_220 (z := 1000000000000) (by decide +kernel) ?_
    refine A_lcmp X dX12_ends_223 ?_
    refine A_if_ge X (tgt := 274) (by decide) dX12_ends_224 (fun c10 => ?_) (fun c10 => ?_)
    · replace h := ifT h c10
      exact w_X12_ends_274 X E hk203 x1 x2 x3 σ h
    · replace h := ifF h c10
      refine A_aload_n X 0 rfl rfl dX12_ends_227 ?_
      refine A_getR X fg_X12_ends_192 shM_0 (k := 59) rfl (by decide) dX12_ends_228 ?_
      refine A_bipush X dX12_ends_231 (z := 24) (by decide) ?_
      refine A_iload_n X 1 rfl rfl dX12_ends_233 ?_
      refine A_imul X dX12_ends_234 ?_
      refine A_iload_n X 3 rfl rfl dX12_ends_235 ?_
      refine A_iadd X dX12_ends_236 ?_
      obtain ⟨g11, h⟩ := gdD h
      refine A_lald X g11 shM_38 dX12_ends_237 ?_
      refine A_ldc2 X (v := (1000000000000)) (List.mem_of_getElem? (i := 2) rfl) dX12_ends_238 (z := 1000000000000) (by decide +kernel) ?_
      refine A_lcmp X dX12_ends_241 ?_
      refine A_if_ge X (tgt := 274) (by decide) dX12_ends_242 (fun c12 => ?_) (fun c12 => ?_)
      · replace h := ifT h c12
        exact w_X12_ends_274 X E hk203 x1 x2 x3 σ h
      · replace h := ifF h c12
        refine A_aload_n X 0 rfl rfl dX12_ends_245 ?_
        refine A_iload_n X 2 rfl rfl dX12_ends_246 ?_
        refine A_iload_n X 3 rfl rfl dX12_ends_247 ?_
        refine A_aload_n X 0 rfl rfl dX12_ends_248 ?_
        refine A_getR X fg_X12_ends_192 shM_0 (k := 59) rfl (by decide) dX12_ends_249 ?_
        refine A_bipush X dX12_ends_252 (z := 24) (by decide) ?_
        refine A_iload_n X 2 rfl rfl dX12_ends_254 ?_
        refine A_imul X dX12_ends_255 ?_
        refine A_iload_n X 1 rfl rfl dX12_ends_256 ?_
        refine A_iadd X dX12_ends_257 ?_
        obtain ⟨g13, h⟩ := gdD h
        refine A_lald X g13 shM_38 dX12_ends_258 ?_
        refine A_aload_n X 0 rfl rfl dX12_ends_259 ?_
        refine A_getR X fg_X12_ends_192 shM_0 (k := 59) rfl (by decide) dX12_ends_260 ?_
        refine A_bipush X dX12_ends_263 (z := 24) (by decide) ?_
        refine A_iload_n X 1 rfl rfl dX12_ends_265 ?_
        refine A_imul X dX12_ends_266 ?_
        refine A_iload_n X 3 rfl rfl dX12_ends_267 ?_
        refine A_iadd X dX12_ends_268 ?_
        obtain ⟨g14, h⟩ := gdD h
        refine A_lald X g14 shM_38 dX12_ends_269 ?_
        refine A_ladd X dX12_ends_270 ?_
        obtain ⟨v15, s16, e17, h⟩ := clD h
        refine A_callV_V (na := 3) X (m_X12_bound e17) gX12_ends_X12_bound rfl ⟨rfl, rfl⟩ (by decide +kernel) rfl ⟨Nat.le_of_ble_eq_true rfl, Nat.le_of_ble_eq_true rfl⟩ shM_0 (by decide) rfl rfl (Nat.le_of_ble_eq_true rfl) dX12_ends_271 ?_
        exact w_X12_ends_274 X E hk203 x1 x2 x3 s16 h
set_option maxRecDepth 100000 in
set_option maxHeartbeats 4000000 in
theorem w_X12_ends_203 {x : aC} {r : Int × Hp} {k195 : Int × Int × Hp → Option (Int × Hp)} (X : aX x cX12_ends wsX12_ends RX12 4 rm_X12_ends) (E : aE x shM (some .boolean) 0 r) (hk195 : ∀ (x1 : Int) (x2 : Int) (σ : Hp), k195 (x1, x2, σ) = some r → aS x shM 4 195 [(0, vR 0), (1, vI x1), (2, vI x2)] [] σ) : ∀ (n : Nat) (x1 : Int) (x2 : Int) (x3 : Int) (σ : Hp) (h : F_M_ends_203 k195 n (x1, x2, x3, σ) = some r), aS x shM 4 203 [(0, vR 0), (1, vI x1), (2, vI x2), (3, vI x3)] [] σ := by
  intro n
  induction n with
  | zero => intro x1 x2 x3 σ h; cases h
  | succ n ih => intro x1 x2 x3 σ h; exact w_X12_ends_203_b (k203 := F_M_ends_203 k195 n) X E hk195 ih x1 x2 x3 σ h
set_option maxRecDepth 100000 in
set_option maxHeartbeats 4000000 in
theorem w_X12_ends_195_b {x : aC} {r : Int × Hp} {k187 : Int × Hp → Option (Int × Hp)} {k195 : Int × Int × Hp → Option (Int × Hp)} (X : aX x cX12_ends wsX12_ends RX12 4 rm_X12_ends) (E : aE x shM (some .boolean) 0 r) (hk187 : ∀ (x1 : Int) (σ : Hp), k187 (x1, σ) = some r → aS x shM 4 187 [(0, vR 0), (1, vI x1)] [] σ) (hk195 : ∀ (x1 : Int) (x2 : Int) (σ : Hp), k195 (x1, x2, σ) = some r → aS x shM 4 195 [(0, vR 0), (1, vI x1), (2, vI x2)] [] σ) (x1 : Int) (x2 : Int) (σ : Hp) (h : F_M_ends_195_b k187 k195 x1 x2 σ = some r) : aS x shM 4 195 [(0, vR 0), (1, vI x1), (2, vI x2)] [] σ := by
  unfold F_M_ends_195_b at h
  refine A_iload_n X 2 rfl rfl dX12_ends_195 ?_
  refine A_bipush X dX12_ends_196 (z := 24) (by decide) ?_
  refine A_icmp_ge X (tgt := 286) (by decide) dX12_ends_198 (fun c18 => ?_) (fun c18 => ?_)
  · replace h := ifT h c18
    refine A_iinc X (L' := fun y1_19 => [(1, vI y1_19), (0, vR 0), (2, vI x2)]) 1 rfl (by decide) (fun _ => rfl) dX12_ends_286 (by decide) (fun y1_19 hy => ?_)
    replace h := ltD h y1_19 hy
    clear hy
    refine A_goto X (tgt := 187) (by decide) dX12_ends_289 ?_
    refine A_sub [1, 0] rfl (L' := [(0, vR 0), (1, vI y1_19)]) rfl ?_
    exact hk187 y1_19 σ h
  · replace h := ifF h c18
    refine A_iconst X dX12_ends_201 (z := 0) (by decide) ?_
    refine A_istore_n X (L' := [(3, vI 0), (0, vR 0), (1, vI x1), (2, vI x2)]) rfl (by decide) rfl dX12_ends_202 ?_
    refine A_sub [1, 2, 3, 0] rfl (L' := [(0, vR 0), (1, vI x1), (2, vI x2), (3, vI 0)]) rfl ?_
    exact w_X12_ends_203 X E hk195 FU x1 x2 0 σ h
set_option maxRecDepth 100000 in
set_option maxHeartbeats 4000000 in
theorem w_X12_ends_195 {x : aC} {r : Int × Hp} {k187 : Int × Hp → Option (Int × Hp)} (X : aX x cX12_ends wsX12_ends RX12 4 rm_X12_ends) (E : aE x shM (some .boolean) 0 r) (hk187 : ∀ (x1 : Int) (σ : Hp), k187 (x1, σ) = some r → aS x shM 4 187 [(0, vR 0), (1, vI x1)] [] σ) : ∀ (n : Nat) (x1 : Int) (x2 : Int) (σ : Hp) (h : F_M_ends_195 k187 n (x1, x2, σ) = some r), aS x shM 4 195 [(0, vR 0), (1, vI x1), (2, vI x2)] [] σ := by
  intro n
  induction n with
  | zero => intro x1 x2 σ h; cases h
  | succ n ih => intro x1 x2 σ h; exact w_X12_ends_195_b (k195 := F_M_ends_195 k187 n) X E hk187 ih x1 x2 σ h
set_option maxRecDepth 100000 in
set_option maxHeartbeats 4000000 in
theorem w_X12_ends_294_b {x : aC} {r : Int × Hp} {k294 : Int × Hp → Option (Int × Hp)} (X : aX x cX12_ends wsX12_ends RX12 4 rm_X12_ends) (E : aE x shM (some .boolean) 0 r) (hk294 : ∀ (x1 : Int) (σ : Hp), k294 (x1, σ) = some r → aS x shM 4 294 [(0, vR 0), (1, vI x1)] [] σ) (x1 : Int) (σ : Hp) (h : F_M_ends_294_b k294 x1 σ = some r) : aS x shM 4 294 [(0, vR 0), (1, vI x1)] [] σ := by
  unfold F_M_ends_294_b at h
  refine A_iload_n X 1 rfl rfl dX12_ends_294 ?_
  refine A_bipush X dX12_ends_295 (z := 24) (by decide) ?_
  refine A_icmp_ge X (tgt := 322) (by decide) dX12_ends_297 (fun c20 => ?_) (fun c20 => ?_)
  · replace h := ifT h c20
    refine A_iconst X dX12_ends_322 (z := 1) (by decide) ?_
    exact A_zreturn X (Or.inr rfl) E h dX12_ends_323
  · replace h := ifF h c20
    refine A_aload_n X 0 rfl rfl dX12_ends_300 ?_
    refine A_getR X fg_X12_ends_192 shM_0 (k := 59) rfl (by decide) dX12_ends_301 ?_
    refine A_bipush X dX12_ends_304 (z := 25) (by decide) ?_
    refine A_iload_n X 1 rfl rfl dX12_ends_306 ?_
    refine A_imul X dX12_ends_307 ?_
    obtain ⟨g21, h⟩ := gdD h
    refine A_lald X g21 shM_38 dX12_ends_308 ?_
    refine A_lconst X dX12_ends_309 (z := 0) (by decide) ?_
    refine A_lcmp X dX12_ends_310 ?_
    refine A_if_ge X (tgt := 316) (by decide) dX12_ends_311 (fun c22 => ?_) (fun c22 => ?_)
    · replace h := ifT h c22
      refine A_iinc X (L' := fun y1_23 => [(1, vI y1_23), (0, vR 0)]) 1 rfl (by decide) (fun _ => rfl) dX12_ends_316 (by decide) (fun y1_23 hy => ?_)
      replace h := ltD h y1_23 hy
      clear hy
      refine A_goto X (tgt := 294) (by decide) dX12_ends_319 ?_
      refine A_sub [1, 0] rfl (L' := [(0, vR 0), (1, vI y1_23)]) rfl ?_
      exact hk294 y1_23 σ h
    · replace h := ifF h c22
      refine A_iconst X dX12_ends_314 (z := 0) (by decide) ?_
      exact A_zreturn X (Or.inl rfl) E h dX12_ends_315
set_option maxRecDepth 100000 in
set_option maxHeartbeats 4000000 in
theorem w_X12_ends_294 {x : aC} {r : Int × Hp} (X : aX x cX12_ends wsX12_ends RX12 4 rm_X12_ends) (E : aE x shM (some .boolean) 0 r) : ∀ (n : Nat) (x1 : Int) (σ : Hp) (h : F_M_ends_294 n (x1, σ) = some r), aS x shM 4 294 [(0, vR 0), (1, vI x1)] [] σ := by
  intro n
  induction n with
  | zero => intro x1 σ h; cases h
  | succ n ih => intro x1 σ h; exact w_X12_ends_294_b (k294 := F_M_ends_294 n) X E ih x1 σ h
set_option maxRecDepth 100000 in
set_option maxHeartbeats 4000000 in
theorem w_X12_ends_187_b {x : aC} {r : Int × Hp} {k187 : Int × Hp → Option (Int × Hp)} (X : aX x cX12_ends wsX12_ends RX12 4 rm_X12_ends) (E : aE x shM (some .boolean) 0 r) (hk187 : ∀ (x1 : Int) (σ : Hp), k187 (x1, σ) = some r → aS x shM 4 187 [(0, vR 0), (1, vI x1)] [] σ) (x1 : Int) (σ : Hp) (h : F_M_ends_187_b k187 x1 σ = some r) : aS x shM 4 187 [(0, vR 0), (1, vI x1)] [] σ := by
  unfold F_M_ends_187_b at h
  refine A_iload_n X 1 rfl rfl dX12_ends_187 ?_
  refine A_bipush X dX12_ends_188 (z := 24) (by decide) ?_
  refine A_icmp_ge X (tgt := 292) (by decide) dX12_ends_190 (fun c24 => ?_) (fun c24 => ?_)
  · replace h := ifT h c24
    refine A_iconst X dX12_ends_292 (z := 0) (by decide) ?_
    refine A_istore_n X (L' := [(1, vI 0), (0, vR 0)]) rfl (by decide) rfl dX12_ends_293 ?_
    refine A_sub [1, 0] rfl (L' := [(0, vR 0), (1, vI 0)]) rfl ?_
    exact w_X12_ends_294 X E FU 0 σ h
  · replace h := ifF h c24
    refine A_iconst X dX12_ends_193 (z := 0) (by decide) ?_
    refine A_istore_n X (L' := [(2, vI 0), (0, vR 0), (1, vI x1)]) rfl (by decide) rfl dX12_ends_194 ?_
    refine A_sub [1, 2, 0] rfl (L' := [(0, vR 0), (1, vI x1), (2, vI 0)]) rfl ?_
    exact w_X12_ends_195 X E hk187 FU x1 0 σ h
set_option maxRecDepth 100000 in
set_option maxHeartbeats 4000000 in
theorem w_X12_ends_187 {x : aC} {r : Int × Hp} (X : aX x cX12_ends wsX12_ends RX12 4 rm_X12_ends) (E : aE x shM (some .boolean) 0 r) : ∀ (n : Nat) (x1 : Int) (σ : Hp) (h : F_M_ends_187 n (x1, σ) = some r), aS x shM 4 187 [(0, vR 0), (1, vI x1)] [] σ := by
  intro n
  induction n with
  | zero => intro x1 σ h; cases h
  | succ n ih => intro x1 σ h; exact w_X12_ends_187_b (k187 := F_M_ends_187 n) X E ih x1 σ h
set_option maxRecDepth 100000 in
set_option maxHeartbeats 4000000 in
theorem w_X12_ends_98_b {x : aC} {r : Int × Hp} {k98 : Int × Hp → Option (Int × Hp)} (X : aX x cX12_ends wsX12_ends RX12 4 rm_X12_ends) (E : aE x shM (some .boolean) 0 r) (hk98 : ∀ (x1 : Int) (σ : Hp), k98 (x1, σ) = some r → aS x shM 4 98 [(0, vR 0), (1, vI x1)] [] σ) (x1 : Int) (σ : Hp) (h : F_M_ends_98_b k98 x1 σ = some r) : aS x shM 4 98 [(0, vR 0), (1, vI x1)] [] σ := by
  unfold F_M_ends_98_b at h
  refine A_iload_n X 1 rfl rfl dX12_ends_98 ?_
  refine A_aload_n X 0 rfl rfl dX12_ends_99 ?_
  refine A_getR X fg_X12_ends_54 shM_0 (k := 14) rfl (by decide) dX12_ends_100 ?_
  refine A_aload_n X 0 rfl rfl dX12_ends_103 ?_
  refine A_getI X fg_X12_ends_48 shM_0 (k := 12) rfl (by decide) dX12_ends_104 ?_
  obtain ⟨g25, h⟩ := gdD h
  refine A_iald X g25 shM_3 dX12_ends_107 ?_
  refine A_icmp_ge X (tgt := 185) (by decide) dX12_ends_108 (fun c26 => ?_) (fun c26 => ?_)
  · replace h := ifT h c26
    refine A_iconst X dX12_ends_185 (z := 0) (by decide) ?_
    refine A_istore_n X (L' := [(1, vI 0), (0, vR 0)]) rfl (by decide) rfl dX12_ends_186 ?_
    refine A_sub [1, 0] rfl (L' := [(0, vR 0), (1, vI 0)]) rfl ?_
    exact w_X12_ends_187 X E FU 0 σ h
  · replace h := ifF h c26
    refine A_aload_n X 0 rfl rfl dX12_ends_111 ?_
    refine A_getR X fg_X12_ends_162 shM_0 (k := 49) rfl (by decide) dX12_ends_112 ?_
    refine A_iload_n X 1 rfl rfl dX12_ends_115 ?_
    obtain ⟨g27, h⟩ := gdD h
    refine A_zald X g27 shM_29 dX12_ends_116 ?_
    refine A_if_ne X (tgt := 123) (by decide) dX12_ends_117 (fun c28 => ?_) (fun c28 => ?_)
    · replace h := ifF h c28
      refine A_aload_n X 0 rfl rfl dX12_ends_123 ?_
      refine A_aload_n X 0 rfl rfl dX12_ends_124 ?_
      refine A_iload_n X 1 rfl rfl dX12_ends_125 ?_
      obtain ⟨v29, s30, e31, h⟩ := clD h
      refine A_callV_I (na := 1) X (m_X12_first e31) gX12_ends_X12_first rfl ⟨rfl, rfl⟩ (by decide +kernel) rfl ⟨Nat.le_of_ble_eq_true rfl, Nat.le_of_ble_eq_true rfl⟩ shM_0 (by decide) rfl rfl (Nat.le_of_ble_eq_true rfl) dX12_ends_126 ?_
      refine A_aload_n X 0 rfl rfl dX12_ends_129 ?_
      refine A_iload_n X 1 rfl rfl dX12_ends_130 ?_
      obtain ⟨v32, s33, e34, h⟩ := clD h
      refine A_callV_I (na := 1) X (m_X12_second e34) gX12_ends_X12_second rfl ⟨rfl, rfl⟩ (by decide +kernel) rfl ⟨Nat.le_of_ble_eq_true rfl, Nat.le_of_ble_eq_true rfl⟩ shM_0 (by decide) rfl rfl (Nat.le_of_ble_eq_true rfl) dX12_ends_131 ?_
      refine A_aload_n X 0 rfl rfl dX12_ends_134 ?_
      refine A_getR X fg_X12_ends_165 shM_0 (k := 50) rfl (by decide) dX12_ends_135 ?_
      refine A_iload_n X 1 rfl rfl dX12_ends_138 ?_
      obtain ⟨g35, h⟩ := gdD h
      refine A_iald X g35 shM_30 dX12_ends_139 ?_
      refine A_i2l X dX12_ends_140 ?_
      obtain ⟨v36, s37, e38, h⟩ := clD h
      refine A_callV_V (na := 3) X (m_X12_together e38) gX12_ends_X12_together rfl ⟨rfl, rfl⟩ (by decide +kernel) rfl ⟨Nat.le_of_ble_eq_true rfl, Nat.le_of_ble_eq_true rfl⟩ shM_0 (by decide) rfl rfl (Nat.le_of_ble_eq_true rfl) dX12_ends_141 ?_
      refine A_aload_n X 0 rfl rfl dX12_ends_144 ?_
      refine A_getR X fg_X12_ends_189 shM_0 (k := 58) rfl (by decide) dX12_ends_145 ?_
      refine A_aload_n X 0 rfl rfl dX12_ends_148 ?_
      refine A_iload_n X 1 rfl rfl dX12_ends_149 ?_
      obtain ⟨v39, s40, e41, h⟩ := clD h
      refine A_callV_I (na := 1) X (m_X12_first e41) gX12_ends_X12_first rfl ⟨rfl, rfl⟩ (by decide +kernel) rfl ⟨Nat.le_of_ble_eq_true rfl, Nat.le_of_ble_eq_true rfl⟩ shM_0 (by decide) rfl rfl (Nat.le_of_ble_eq_true rfl) dX12_ends_150 ?_
      obtain ⟨g42, h⟩ := gdD h
      refine A_iald X g42 shM_37 dX12_ends_153 ?_
      refine A_iload_n X 1 rfl rfl dX12_ends_154 ?_
      refine A_icmp_ne X (tgt := 179) (by decide) dX12_ends_155 (fun c43 => ?_) (fun c43 => ?_)
      · replace h := ifF h c43
        exact w_X12_ends_179 X E hk98 x1 s40 h
      · replace h := ifT h c43
        refine A_aload_n X 0 rfl rfl dX12_ends_158 ?_
        refine A_aload_n X 0 rfl rfl dX12_ends_159 ?_
        refine A_iload_n X 1 rfl rfl dX12_ends_160 ?_
        obtain ⟨v44, s45, e46, h⟩ := clD h
        refine A_callV_I (na := 1) X (m_X12_first e46) gX12_ends_X12_first rfl ⟨rfl, rfl⟩ (by decide +kernel) rfl ⟨Nat.le_of_ble_eq_true rfl, Nat.le_of_ble_eq_true rfl⟩ shM_0 (by decide) rfl rfl (Nat.le_of_ble_eq_true rfl) dX12_ends_161 ?_
        refine A_aload_n X 0 rfl rfl dX12_ends_164 ?_
        refine A_iload_n X 1 rfl rfl dX12_ends_165 ?_
        obtain ⟨v47, s48, e49, h⟩ := clD h
        refine A_callV_I (na := 1) X (m_X12_second e49) gX12_ends_X12_second rfl ⟨rfl, rfl⟩ (by decide +kernel) rfl ⟨Nat.le_of_ble_eq_true rfl, Nat.le_of_ble_eq_true rfl⟩ shM_0 (by decide) rfl rfl (Nat.le_of_ble_eq_true rfl) dX12_ends_166 ?_
        refine A_aload_n X 0 rfl rfl dX12_ends_169 ?_
        refine A_getR X fg_X12_ends_165 shM_0 (k := 50) rfl (by decide) dX12_ends_170 ?_
        refine A_iload_n X 1 rfl rfl dX12_ends_173 ?_
        obtain ⟨g50, h⟩ := gdD h
        refine A_iald X g50 shM_30 dX12_ends_174 ?_
        refine A_i2l X dX12_ends_175 ?_
        obtain ⟨v51, s52, e53, h⟩ := clD h
        refine A_callV_V (na := 3) X (m_X12_notMore e53) gX12_ends_X12_notMore rfl ⟨rfl, rfl⟩ (by decide +kernel) rfl ⟨Nat.le_of_ble_eq_true rfl, Nat.le_of_ble_eq_true rfl⟩ shM_0 (by decide) rfl rfl (Nat.le_of_ble_eq_true rfl) dX12_ends_176 ?_
        exact w_X12_ends_179 X E hk98 x1 s52 h
    · replace h := ifT h c28
      refine A_goto X (tgt := 179) (by decide) dX12_ends_120 ?_
      exact w_X12_ends_179 X E hk98 x1 σ h
set_option maxRecDepth 100000 in
set_option maxHeartbeats 4000000 in
theorem w_X12_ends_98 {x : aC} {r : Int × Hp} (X : aX x cX12_ends wsX12_ends RX12 4 rm_X12_ends) (E : aE x shM (some .boolean) 0 r) : ∀ (n : Nat) (x1 : Int) (σ : Hp) (h : F_M_ends_98 n (x1, σ) = some r), aS x shM 4 98 [(0, vR 0), (1, vI x1)] [] σ := by
  intro n
  induction n with
  | zero => intro x1 σ h; cases h
  | succ n ih => intro x1 σ h; exact w_X12_ends_98_b (k98 := F_M_ends_98 n) X E ih x1 σ h
set_option maxRecDepth 100000 in
set_option maxHeartbeats 4000000 in
theorem w_X12_ends_45_b {x : aC} {r : Int × Hp} {k45 : Int × Hp → Option (Int × Hp)} (X : aX x cX12_ends wsX12_ends RX12 4 rm_X12_ends) (E : aE x shM (some .boolean) 0 r) (hk45 : ∀ (x1 : Int) (σ : Hp), k45 (x1, σ) = some r → aS x shM 4 45 [(0, vR 0), (1, vI x1)] [] σ) (x1 : Int) (σ : Hp) (h : F_M_ends_45_b k45 x1 σ = some r) : aS x shM 4 45 [(0, vR 0), (1, vI x1)] [] σ := by
  unfold F_M_ends_45_b at h
  refine A_iload_n X 1 rfl rfl dX12_ends_45 ?_
  refine A_aload_n X 0 rfl rfl dX12_ends_46 ?_
  refine A_getR X fg_X12_ends_51 shM_0 (k := 13) rfl (by decide) dX12_ends_47 ?_
  refine A_aload_n X 0 rfl rfl dX12_ends_50 ?_
  refine A_getI X fg_X12_ends_48 shM_0 (k := 12) rfl (by decide) dX12_ends_51 ?_
  obtain ⟨g54, h⟩ := gdD h
  refine A_iald X g54 shM_2 dX12_ends_54 ?_
  refine A_icmp_ge X (tgt := 96) (by decide) dX12_ends_55 (fun c55 => ?_) (fun c55 => ?_)
  · replace h := ifT h c55
    refine A_iconst X dX12_ends_96 (z := 0) (by decide) ?_
    refine A_istore_n X (L' := [(1, vI 0), (0, vR 0)]) rfl (by decide) rfl dX12_ends_97 ?_
    refine A_sub [1, 0] rfl (L' := [(0, vR 0), (1, vI 0)]) rfl ?_
    exact w_X12_ends_98 X E FU 0 σ h
  · replace h := ifF h c55
    refine A_aload_n X 0 rfl rfl dX12_ends_58 ?_
    refine A_iload_n X 1 rfl rfl dX12_ends_59 ?_
    refine A_aload_n X 0 rfl rfl dX12_ends_60 ?_
    refine A_iload_n X 1 rfl rfl dX12_ends_61 ?_
    obtain ⟨v56, s57, e58, h⟩ := clD h
    refine A_callV_I (na := 1) X (m_X12_aloneOf e58) gX12_ends_X12_aloneOf rfl ⟨rfl, rfl⟩ (by decide +kernel) rfl ⟨Nat.le_of_ble_eq_true rfl, Nat.le_of_ble_eq_true rfl⟩ shM_0 (by decide) rfl rfl (Nat.le_of_ble_eq_true rfl) dX12_ends_62 ?_
    refine A_i2l X dX12_ends_65 ?_
    obtain ⟨v59, s60, e61, h⟩ := clD h
    refine A_callV_V (na := 2) X (m_X12_atLeast e61) gX12_ends_X12_atLeast rfl ⟨rfl, rfl⟩ (by decide +kernel) rfl ⟨Nat.le_of_ble_eq_true rfl, Nat.le_of_ble_eq_true rfl⟩ shM_0 (by decide) rfl rfl (Nat.le_of_ble_eq_true rfl) dX12_ends_66 ?_
    refine A_aload_n X 0 rfl rfl dX12_ends_69 ?_
    refine A_getR X fg_X12_ends_189 shM_0 (k := 58) rfl (by decide) dX12_ends_70 ?_
    refine A_iload_n X 1 rfl rfl dX12_ends_73 ?_
    obtain ⟨g62, h⟩ := gdD h
    refine A_iald X g62 shM_37 dX12_ends_74 ?_
    refine A_iconst X dX12_ends_75 (z := (-1)) (by decide) ?_
    refine A_icmp_ne X (tgt := 90) (by decide) dX12_ends_76 (fun c63 => ?_) (fun c63 => ?_)
    · replace h := ifF h c63
      exact w_X12_ends_90 X E hk45 x1 s60 h
    · replace h := ifT h c63
      refine A_aload_n X 0 rfl rfl dX12_ends_79 ?_
      refine A_iload_n X 1 rfl rfl dX12_ends_80 ?_
      refine A_aload_n X 0 rfl rfl dX12_ends_81 ?_
      refine A_iload_n X 1 rfl rfl dX12_ends_82 ?_
      obtain ⟨v64, s65, e66, h⟩ := clD h
      refine A_callV_I (na := 1) X (m_X12_aloneOf e66) gX12_ends_X12_aloneOf rfl ⟨rfl, rfl⟩ (by decide +kernel) rfl ⟨Nat.le_of_ble_eq_true rfl, Nat.le_of_ble_eq_true rfl⟩ shM_0 (by decide) rfl rfl (Nat.le_of_ble_eq_true rfl) dX12_ends_83 ?_
      refine A_i2l X dX12_ends_86 ?_
      obtain ⟨v67, s68, e69, h⟩ := clD h
      refine A_callV_V (na := 2) X (m_X12_atMost e69) gX12_ends_X12_atMost rfl ⟨rfl, rfl⟩ (by decide +kernel) rfl ⟨Nat.le_of_ble_eq_true rfl, Nat.le_of_ble_eq_true rfl⟩ shM_0 (by decide) rfl rfl (Nat.le_of_ble_eq_true rfl) dX12_ends_87 ?_
      exact w_X12_ends_90 X E hk45 x1 s68 h
set_option maxRecDepth 100000 in
set_option maxHeartbeats 4000000 in
theorem w_X12_ends_45 {x : aC} {r : Int × Hp} (X : aX x cX12_ends wsX12_ends RX12 4 rm_X12_ends) (E : aE x shM (some .boolean) 0 r) : ∀ (n : Nat) (x1 : Int) (σ : Hp) (h : F_M_ends_45 n (x1, σ) = some r), aS x shM 4 45 [(0, vR 0), (1, vI x1)] [] σ := by
  intro n
  induction n with
  | zero => intro x1 σ h; cases h
  | succ n ih => intro x1 σ h; exact w_X12_ends_45_b (k45 := F_M_ends_45 n) X E ih x1 σ h
set_option maxRecDepth 100000 in
set_option maxHeartbeats 4000000 in
theorem w_X12_ends_6_b {x : aC} {r : Int × Hp} {k6 : Int × Hp → Option (Int × Hp)} (X : aX x cX12_ends wsX12_ends RX12 4 rm_X12_ends) (E : aE x shM (some .boolean) 0 r) (hk6 : ∀ (x1 : Int) (σ : Hp), k6 (x1, σ) = some r → aS x shM 4 6 [(0, vR 0), (1, vI x1)] [] σ) (x1 : Int) (σ : Hp) (h : F_M_ends_6_b k6 x1 σ = some r) : aS x shM 4 6 [(0, vR 0), (1, vI x1)] [] σ := by
  unfold F_M_ends_6_b at h
  refine A_iload_n X 1 rfl rfl dX12_ends_6 ?_
  refine A_sipush X dX12_ends_7 (z := 576) (by decide) ?_
  refine A_icmp_ge X (tgt := 43) (by decide) dX12_ends_10 (fun c70 => ?_) (fun c70 => ?_)
  · replace h := ifT h c70
    refine A_iconst X dX12_ends_43 (z := 0) (by decide) ?_
    refine A_istore_n X (L' := [(1, vI 0), (0, vR 0)]) rfl (by decide) rfl dX12_ends_44 ?_
    refine A_sub [1, 0] rfl (L' := [(0, vR 0), (1, vI 0)]) rfl ?_
    exact w_X12_ends_45 X E FU 0 σ h
  · replace h := ifF h c70
    refine A_aload_n X 0 rfl rfl dX12_ends_13 ?_
    refine A_getR X fg_X12_ends_192 shM_0 (k := 59) rfl (by decide) dX12_ends_14 ?_
    refine A_iload_n X 1 rfl rfl dX12_ends_17 ?_
    refine A_iload_n X 1 rfl rfl dX12_ends_18 ?_
    refine A_bipush X dX12_ends_19 (z := 24) (by decide) ?_
    refine A_idiv X (by decide) dX12_ends_21 ?_
    refine A_iload_n X 1 rfl rfl dX12_ends_22 ?_
    refine A_bipush X dX12_ends_23 (z := 24) (by decide) ?_
    refine A_irem X (by decide) dX12_ends_25 ?_
    refine A_icmp_ne X (tgt := 33) (by decide) dX12_ends_26 (fun c71 => ?_) (fun c71 => ?_)
    · replace h := ifF h c71
      refine A_ldc2 X (v := (1000000000000)) (List.mem_of_getElem? (i := 2) rfl) dX12_ends_33 (z := 1000000000000) (by decide +kernel) ?_
      exact w_X12_ends_36 X E hk6 x1 1000000000000 x1 σ h
    · replace h := ifT h c71
      refine A_lconst X dX12_ends_29 (z := 0) (by decide) ?_
      refine A_goto X (tgt := 36) (by decide) dX12_ends_30 ?_
      exact w_X12_ends_36 X E hk6 x1 0 x1 σ h
set_option maxRecDepth 100000 in
set_option maxHeartbeats 4000000 in
theorem w_X12_ends_6 {x : aC} {r : Int × Hp} (X : aX x cX12_ends wsX12_ends RX12 4 rm_X12_ends) (E : aE x shM (some .boolean) 0 r) : ∀ (n : Nat) (x1 : Int) (σ : Hp) (h : F_M_ends_6 n (x1, σ) = some r), aS x shM 4 6 [(0, vR 0), (1, vI x1)] [] σ := by
  intro n
  induction n with
  | zero => intro x1 σ h; cases h
  | succ n ih => intro x1 σ h; exact w_X12_ends_6_b (k6 := F_M_ends_6 n) X E ih x1 σ h
set_option maxRecDepth 100000 in
set_option maxHeartbeats 4000000 in
theorem m_X12_ends {l : Launch} {g : aG} {σ : Hp} {r : Int × Hp} (h : F_M_ends σ = some r) : aMet l g shM yX12_ends wsX12_ends rm_X12_ends [vR 0] σ 0 r := by
  unfold F_M_ends at h
  refine aMet_of (bytes := cX12_ends) (maxL := 4) (ret := (some .boolean)) (by decide +kernel) rfl (Nat.le_of_ble_eq_true rfl) ⟨rfl, rfl⟩ (fun x e1 e2 X E => ?_)
  subst e1; subst e2
  have X : aX x cX12_ends wsX12_ends RX12 4 rm_X12_ends := X
  show aS x shM 4 0 [(0, vR 0)] [] σ
  refine A_aload_n X 0 rfl rfl dX12_ends_0 ?_
  obtain ⟨v72, s73, e74, h⟩ := clD h
  refine A_callV_V (na := 0) X (m_X12_finds e74) gX12_ends_X12_finds rfl ⟨rfl, rfl⟩ (by decide +kernel) rfl ⟨Nat.le_of_ble_eq_true rfl, Nat.le_of_ble_eq_true rfl⟩ shM_0 (by decide) rfl rfl (Nat.le_of_ble_eq_true rfl) dX12_ends_1 ?_
  refine A_iconst X dX12_ends_4 (z := 0) (by decide) ?_
  refine A_istore_n X (L' := [(1, vI 0), (0, vR 0)]) rfl (by decide) rfl dX12_ends_5 ?_
  refine A_sub [1, 0] rfl (L' := [(0, vR 0), (1, vI 0)]) rfl ?_
  exact w_X12_ends_6 X E FU 0 s73 h
abbrev rm_X12_leastOf : Room := { frames := 0, cells := 0, slots := 0, locals := 0 }
theorem in_X12_leastOf_12 : ∀ w ∈ u_ws RX12 TX12 75, w ∈ wsX12_leastOf := fun w h => List.mem_cons_of_mem _ (List.mem_append_right _ h)
theorem fg_X12_leastOf_192 : aFl wsX12_leastOf RX12 192 12 59 := ⟨RX12, TX12, 75, rfl, in_X12_leastOf_12, by decide, (List.mem_of_getElem? (i := 1) rfl), rfl⟩
set_option maxRecDepth 100000 in
set_option maxHeartbeats 4000000 in
theorem m_X12_leastOf {l : Launch} {g : aG} {a1 : Int} {σ : Hp} {r : Int × Hp} (h : F_M_leastOf a1 σ = some r) : aMet l g shM yX12_leastOf wsX12_leastOf rm_X12_leastOf [vR 0, vI a1] σ 0 r := by
  unfold F_M_leastOf at h
  refine aMet_of (bytes := cX12_leastOf) (maxL := 2) (ret := (some .int)) (by decide +kernel) rfl (Nat.le_of_ble_eq_true rfl) ⟨rfl, rfl⟩ (fun x e1 e2 X E => ?_)
  subst e1; subst e2
  have X : aX x cX12_leastOf wsX12_leastOf RX12 2 rm_X12_leastOf := X
  show aS x shM 2 0 [(0, vR 0), (1, vI a1)] [] σ
  refine A_aload_n X 0 rfl rfl dX12_leastOf_0 ?_
  refine A_getR X fg_X12_leastOf_192 shM_0 (k := 59) rfl (by decide) dX12_leastOf_1 ?_
  refine A_bipush X dX12_leastOf_4 (z := 24) (by decide) ?_
  refine A_iconst X dX12_leastOf_6 (z := 2) (by decide) ?_
  refine A_iload_n X 1 rfl rfl dX12_leastOf_7 ?_
  refine A_imul X dX12_leastOf_8 ?_
  refine A_imul X dX12_leastOf_9 ?_
  refine A_iconst X dX12_leastOf_10 (z := 2) (by decide) ?_
  refine A_iload_n X 1 rfl rfl dX12_leastOf_11 ?_
  refine A_imul X dX12_leastOf_12 ?_
  refine A_iadd X dX12_leastOf_13 ?_
  refine A_iconst X dX12_leastOf_14 (z := 1) (by decide) ?_
  refine A_iadd X dX12_leastOf_15 ?_
  obtain ⟨g1, h⟩ := gdD h
  refine A_lald X g1 shM_38 dX12_leastOf_16 ?_
  refine A_lneg X dX12_leastOf_17 ?_
  refine A_l2i X dX12_leastOf_18 ?_
  exact A_ireturn X E h dX12_leastOf_19
abbrev rm_X12_greatestOf : Room := { frames := 0, cells := 0, slots := 0, locals := 0 }
theorem in_X12_greatestOf_12 : ∀ w ∈ u_ws RX12 TX12 75, w ∈ wsX12_greatestOf := fun w h => List.mem_cons_of_mem _ (List.mem_append_right _ h)
theorem fg_X12_greatestOf_192 : aFl wsX12_greatestOf RX12 192 12 59 := ⟨RX12, TX12, 75, rfl, in_X12_greatestOf_12, by decide, (List.mem_of_getElem? (i := 1) rfl), rfl⟩
set_option maxRecDepth 100000 in
set_option maxHeartbeats 4000000 in
theorem m_X12_greatestOf {l : Launch} {g : aG} {a1 : Int} {σ : Hp} {r : Int × Hp} (h : F_M_greatestOf a1 σ = some r) : aMet l g shM yX12_greatestOf wsX12_greatestOf rm_X12_greatestOf [vR 0, vI a1] σ 0 r := by
  unfold F_M_greatestOf at h
  refine aMet_of (bytes := cX12_greatestOf) (maxL := 2) (ret := (some .int)) (by decide +kernel) rfl (Nat.le_of_ble_eq_true rfl) ⟨rfl, rfl⟩ (fun x e1 e2 X E => ?_)
  subst e1; subst e2
  have X : aX x cX12_greatestOf wsX12_greatestOf RX12 2 rm_X12_greatestOf := X
  show aS x shM 2 0 [(0, vR 0), (1, vI a1)] [] σ
  refine A_aload_n X 0 rfl rfl dX12_greatestOf_0 ?_
  refine A_getR X fg_X12_greatestOf_192 shM_0 (k := 59) rfl (by decide) dX12_greatestOf_1 ?_
  refine A_bipush X dX12_greatestOf_4 (z := 24) (by decide) ?_
  refine A_iconst X dX12_greatestOf_6 (z := 2) (by decide) ?_
  refine A_iload_n X 1 rfl rfl dX12_greatestOf_7 ?_
  refine A_imul X dX12_greatestOf_8 ?_
  refine A_iconst X dX12_greatestOf_9 (z := 1) (by decide) ?_
  refine A_iadd X dX12_greatestOf_10 ?_
  refine A_imul X dX12_greatestOf_11 ?_
  refine A_iconst X dX12_greatestOf_12 (z := 2) (by decide) ?_
  refine A_iload_n X 1 rfl rfl dX12_greatestOf_13 ?_
  refine A_imul X dX12_greatestOf_14 ?_
  refine A_iadd X dX12_greatestOf_15 ?_
  obtain ⟨g1, h⟩ := gdD h
  refine A_lald X g1 shM_38 dX12_greatestOf_16 ?_
  refine A_l2i X dX12_greatestOf_17 ?_
  exact A_ireturn X E h dX12_greatestOf_18
abbrev rm_X12_changes : Room := { frames := 5, cells := 0, slots := 0, locals := 123 }
theorem in_X12_changes_12 : ∀ w ∈ u_ws RX12 TX12 75, w ∈ wsX12_changes := fun w h => List.mem_cons_of_mem _ (List.mem_append_right _ h)
theorem fg_X12_changes_51 : aFl wsX12_changes RX12 51 12 13 := ⟨RX12, TX12, 75, rfl, in_X12_changes_12, by decide, (List.mem_of_getElem? (i := 1) rfl), rfl⟩
theorem fg_X12_changes_48 : aFl wsX12_changes RX12 48 12 12 := ⟨RX12, TX12, 75, rfl, in_X12_changes_12, by decide, (List.mem_of_getElem? (i := 2) rfl), rfl⟩
theorem fg_X12_changes_195 : aFl wsX12_changes RX12 195 12 60 := ⟨RX12, TX12, 75, rfl, in_X12_changes_12, by decide, (List.mem_of_getElem? (i := 3) rfl), rfl⟩
theorem fg_X12_changes_198 : aFl wsX12_changes RX12 198 12 61 := ⟨RX12, TX12, 75, rfl, in_X12_changes_12, by decide, (List.mem_of_getElem? (i := 4) rfl), rfl⟩
set_option maxRecDepth 100000 in
set_option maxHeartbeats 4000000 in
theorem w_X12_changes_102 {x : aC} {r : Int × Hp} {a1 : Int} {a2 : Int} {a3 : Int} (X : aX x cX12_changes wsX12_changes RX12 9 rm_X12_changes) (E : aE x shM (some .int) 0 r) (t1 : Int) (σ : Hp) (h : F_M_changes_102 a1 a2 a3 t1 σ = some r) : aS x shM 9 102 [] [vI t1] σ := by
  unfold F_M_changes_102 at h
  exact A_ireturn X E h dX12_changes_102
set_option maxRecDepth 100000 in
set_option maxHeartbeats 4000000 in
theorem w_X12_changes_94 {x : aC} {r : Int × Hp} {a1 : Int} {a2 : Int} {a3 : Int} (X : aX x cX12_changes wsX12_changes RX12 9 rm_X12_changes) (E : aE x shM (some .int) 0 r) (σ : Hp) (h : F_M_changes_94 a1 a2 a3 σ = some r) : aS x shM 9 94 [] [] σ := by
  unfold F_M_changes_94 at h
  refine A_iconst X dX12_changes_94 (z := 0) (by decide) ?_
  refine A_goto X (tgt := 102) (by decide) dX12_changes_95 ?_
  exact w_X12_changes_102 (a1 := a1) (a2 := a2) (a3 := a3) X E 0 σ h
set_option maxRecDepth 100000 in
set_option maxHeartbeats 4000000 in
theorem w_X12_changes_83 {x : aC} {r : Int × Hp} {a1 : Int} {a2 : Int} {a3 : Int} (X : aX x cX12_changes wsX12_changes RX12 9 rm_X12_changes) (E : aE x shM (some .int) 0 r) (x4 : Int) (x5 : Int) (σ : Hp) (h : F_M_changes_83 a1 a2 a3 x4 x5 σ = some r) : aS x shM 9 83 [(0, vR 0), (3, vI a3), (4, vI x4), (5, vI x5)] [] σ := by
  unfold F_M_changes_83 at h
  refine A_iload_n X 1 rfl rfl dX12_changes_83 ?_
  refine A_if_ne X (tgt := 94) (by decide) dX12_changes_84 (fun c1 => ?_) (fun c1 => ?_)
  · replace h := ifF h c1
    refine A_sub [] rfl (L' := []) rfl ?_
    exact w_X12_changes_94 (a1 := a1) (a2 := a2) (a3 := a3) X E σ h
  · replace h := ifT h c1
    refine A_iload X 2 rfl dX12_changes_87 ?_
    refine A_iload X 3 rfl dX12_changes_89 ?_
    refine A_icmp_ne X (tgt := 98) (by decide) dX12_changes_91 (fun c2 => ?_) (fun c2 => ?_)
    · replace h := ifF h c2
      refine A_aload_n X 0 rfl rfl dX12_changes_98 ?_
      obtain ⟨v3, s4, e5, h⟩ := clD h
      refine A_callV_I (na := 0) X (m_X12_all e5) gX12_changes_X12_all rfl ⟨rfl, rfl⟩ (by decide +kernel) rfl ⟨Nat.le_of_ble_eq_true rfl, Nat.le_of_ble_eq_true rfl⟩ shM_0 (by decide) rfl rfl (Nat.le_of_ble_eq_true rfl) dX12_changes_99 ?_
      refine A_sub [] rfl (L' := []) rfl ?_
      exact w_X12_changes_102 (a1 := a1) (a2 := a2) (a3 := a3) X E v3 s4 h
    · replace h := ifT h c2
      refine A_sub [] rfl (L' := []) rfl ?_
      exact w_X12_changes_94 (a1 := a1) (a2 := a2) (a3 := a3) X E σ h
set_option maxRecDepth 100000 in
set_option maxHeartbeats 4000000 in
theorem w_X12_changes_205 {x : aC} {r : Int × Hp} {k109 : Int × Int × Hp → Option (Int × Hp)} {a1 : Int} {a2 : Int} {a3 : Int} (X : aX x cX12_changes wsX12_changes RX12 9 rm_X12_changes) (E : aE x shM (some .int) 0 r) (hk109 : ∀ (x6 : Int) (x7 : Int) (σ : Hp), k109 (x6, x7, σ) = some r → aS x shM 9 109 [(0, vR 0), (3, vI a3), (6, vI x6), (7, vI x7)] [] σ) (x7 : Int) (t2 : Int) (t1 : Int) (σ : Hp) (h : F_M_changes_205 k109 a1 a2 a3 x7 t2 t1 σ = some r) : aS x shM 9 205 [(0, vR 0), (3, vI a3), (7, vI x7)] [vI t2, vI t1] σ := by
  unfold F_M_changes_205 at h
  refine A_ior X dX12_changes_205 ?_
  refine A_istoreN X (L' := fun y6_6 => [(6, vI y6_6), (0, vR 0), (3, vI a3), (7, vI x7)]) (by decide) (fun _ => rfl) dX12_changes_206 (fun y6_6 hy => ?_)
  replace h := ltD h y6_6 hy
  clear hy
  refine A_iinc X (L' := fun y7_7 => [(7, vI y7_7), (6, vI y6_6), (0, vR 0), (3, vI a3)]) 3 rfl (by decide) (fun _ => rfl) dX12_changes_208 (by decide) (fun y7_7 hy => ?_)
  replace h := ltD h y7_7 hy
  clear hy
  refine A_goto X (tgt := 109) (by decide) dX12_changes_211 ?_
  refine A_sub [2, 3, 1, 0] rfl (L' := [(0, vR 0), (3, vI a3), (6, vI y6_6), (7, vI y7_7)]) rfl ?_
  exact hk109 y6_6 y7_7 σ h
set_option maxRecDepth 100000 in
set_option maxHeartbeats 4000000 in
theorem w_X12_changes_188 {x : aC} {r : Int × Hp} {k109 : Int × Int × Hp → Option (Int × Hp)} {a1 : Int} {a2 : Int} {a3 : Int} (X : aX x cX12_changes wsX12_changes RX12 9 rm_X12_changes) (E : aE x shM (some .int) 0 r) (hk109 : ∀ (x6 : Int) (x7 : Int) (σ : Hp), k109 (x6, x7, σ) = some r → aS x shM 9 109 [(0, vR 0), (3, vI a3), (6, vI x6), (7, vI x7)] [] σ) (x6 : Int) (x7 : Int) (t1 : Int) (σ : Hp) (h : F_M_changes_188 k109 a1 a2 a3 x6 x7 t1 σ = some r) : aS x shM 9 188 [(0, vR 0), (3, vI a3), (6, vI x6), (7, vI x7)] [vI t1] σ := by
  unfold F_M_changes_188 at h
  refine A_istore X (L' := [(8, vI t1), (0, vR 0), (3, vI a3), (6, vI x6), (7, vI x7)]) (by decide) rfl dX12_changes_188 ?_
  refine A_iload X 3 rfl dX12_changes_190 ?_
  refine A_iload X 0 rfl dX12_changes_192 ?_
  refine A_if_eq X (tgt := 204) (by decide) dX12_changes_194 (fun c8 => ?_) (fun c8 => ?_)
  · replace h := ifT h c8
    refine A_iconst X dX12_changes_204 (z := 0) (by decide) ?_
    refine A_sub [1, 2, 4] rfl (L' := [(0, vR 0), (3, vI a3), (7, vI x7)]) rfl ?_
    exact w_X12_changes_205 (a1 := a1) (a2 := a2) (a3 := a3) X E hk109 x7 0 x6 σ h
  · replace h := ifF h c8
    refine A_iconst X dX12_changes_197 (z := 1) (by decide) ?_
    refine A_iload X 4 rfl dX12_changes_198 ?_
    refine A_ishl X dX12_changes_200 ?_
    refine A_goto X (tgt := 205) (by decide) dX12_changes_201 ?_
    refine A_sub [1, 2, 4] rfl (L' := [(0, vR 0), (3, vI a3), (7, vI x7)]) rfl ?_
    exact w_X12_changes_205 (a1 := a1) (a2 := a2) (a3 := a3) X E hk109 x7 (ishl 1 x7) x6 σ h
set_option maxRecDepth 100000 in
set_option maxHeartbeats 4000000 in
theorem w_X12_changes_183 {x : aC} {r : Int × Hp} {k109 : Int × Int × Hp → Option (Int × Hp)} {a1 : Int} {a2 : Int} {a3 : Int} (X : aX x cX12_changes wsX12_changes RX12 9 rm_X12_changes) (E : aE x shM (some .int) 0 r) (hk109 : ∀ (x6 : Int) (x7 : Int) (σ : Hp), k109 (x6, x7, σ) = some r → aS x shM 9 109 [(0, vR 0), (3, vI a3), (6, vI x6), (7, vI x7)] [] σ) (x6 : Int) (x7 : Int) (σ : Hp) (h : F_M_changes_183 k109 a1 a2 a3 x6 x7 σ = some r) : aS x shM 9 183 [(0, vR 0), (3, vI a3), (6, vI x6), (7, vI x7)] [] σ := by
  unfold F_M_changes_183 at h
  refine A_iconst X dX12_changes_183 (z := 1) (by decide) ?_
  refine A_goto X (tgt := 188) (by decide) dX12_changes_184 ?_
  exact w_X12_changes_188 (a1 := a1) (a2 := a2) (a3 := a3) X E hk109 x6 x7 1 σ h
set_option maxRecDepth 100000 in
set_option maxHeartbeats 4000000 in
theorem w_X12_changes_109_b {x : aC} {r : Int × Hp} {k109 : Int × Int × Hp → Option (Int × Hp)} {a1 : Int} {a2 : Int} {a3 : Int} (X : aX x cX12_changes wsX12_changes RX12 9 rm_X12_changes) (E : aE x shM (some .int) 0 r) (hk109 : ∀ (x6 : Int) (x7 : Int) (σ : Hp), k109 (x6, x7, σ) = some r → aS x shM 9 109 [(0, vR 0), (3, vI a3), (6, vI x6), (7, vI x7)] [] σ) (x6 : Int) (x7 : Int) (σ : Hp) (h : F_M_changes_109_b k109 a1 a2 a3 x6 x7 σ = some r) : aS x shM 9 109 [(0, vR 0), (3, vI a3), (6, vI x6), (7, vI x7)] [] σ := by
  unfold F_M_changes_109_b at h
  refine A_iload X 3 rfl dX12_changes_109 ?_
  refine A_aload_n X 0 rfl rfl dX12_changes_111 ?_
  refine A_getR X fg_X12_changes_51 shM_0 (k := 13) rfl (by decide) dX12_changes_112 ?_
  refine A_aload_n X 0 rfl rfl dX12_changes_115 ?_
  refine A_getI X fg_X12_changes_48 shM_0 (k := 12) rfl (by decide) dX12_changes_116 ?_
  obtain ⟨g9, h⟩ := gdD h
  refine A_iald X g9 shM_2 dX12_changes_119 ?_
  refine A_icmp_ge X (tgt := 214) (by decide) dX12_changes_120 (fun c10 => ?_) (fun c10 => ?_)
  · replace h := ifT h c10
    refine A_iload X 2 rfl dX12_changes_214 ?_
    exact A_ireturn X E h dX12_changes_216
  · replace h := ifF h c10
    refine A_iload_n X 1 rfl rfl dX12_changes_123 ?_
    refine A_if_eq X (tgt := 151) (by decide) dX12_changes_124 (fun c11 => ?_) (fun c11 => ?_)
    · replace h := ifT h c11
      refine A_aload_n X 0 rfl rfl dX12_changes_151 ?_
      refine A_iload X 3 rfl dX12_changes_152 ?_
      obtain ⟨v12, s13, e14, h⟩ := clD h
      refine A_callV_I (na := 1) X (m_X12_leastOf e14) gX12_changes_X12_leastOf rfl ⟨rfl, rfl⟩ (by decide +kernel) rfl ⟨Nat.le_of_ble_eq_true rfl, Nat.le_of_ble_eq_true rfl⟩ shM_0 (by decide) rfl rfl (Nat.le_of_ble_eq_true rfl) dX12_changes_154 ?_
      refine A_aload_n X 0 rfl rfl dX12_changes_157 ?_
      refine A_getR X fg_X12_changes_195 shM_0 (k := 60) rfl (by decide) dX12_changes_158 ?_
      refine A_iload X 3 rfl dX12_changes_161 ?_
      obtain ⟨g15, h⟩ := gdD h
      refine A_iald X g15 shM_39 dX12_changes_163 ?_
      refine A_icmp_ne X (tgt := 183) (by decide) dX12_changes_164 (fun c16 => ?_) (fun c16 => ?_)
      · replace h := ifF h c16
        exact w_X12_changes_183 (a1 := a1) (a2 := a2) (a3 := a3) X E hk109 x6 x7 s13 h
      · replace h := ifT h c16
        refine A_aload_n X 0 rfl rfl dX12_changes_167 ?_
        refine A_iload X 3 rfl dX12_changes_168 ?_
        obtain ⟨v17, s18, e19, h⟩ := clD h
        refine A_callV_I (na := 1) X (m_X12_greatestOf e19) gX12_changes_X12_greatestOf rfl ⟨rfl, rfl⟩ (by decide +kernel) rfl ⟨Nat.le_of_ble_eq_true rfl, Nat.le_of_ble_eq_true rfl⟩ shM_0 (by decide) rfl rfl (Nat.le_of_ble_eq_true rfl) dX12_changes_170 ?_
        refine A_aload_n X 0 rfl rfl dX12_changes_173 ?_
        refine A_getR X fg_X12_changes_198 shM_0 (k := 61) rfl (by decide) dX12_changes_174 ?_
        refine A_iload X 3 rfl dX12_changes_177 ?_
        obtain ⟨g20, h⟩ := gdD h
        refine A_iald X g20 shM_40 dX12_changes_179 ?_
        refine A_icmp_eq X (tgt := 187) (by decide) dX12_changes_180 (fun c21 => ?_) (fun c21 => ?_)
        · replace h := ifT h c21
          refine A_iconst X dX12_changes_187 (z := 0) (by decide) ?_
          exact w_X12_changes_188 (a1 := a1) (a2 := a2) (a3 := a3) X E hk109 x6 x7 0 s18 h
        · replace h := ifF h c21
          exact w_X12_changes_183 (a1 := a1) (a2 := a2) (a3 := a3) X E hk109 x6 x7 s18 h
    · replace h := ifF h c11
      refine A_aload_n X 0 rfl rfl dX12_changes_127 ?_
      refine A_iload X 3 rfl dX12_changes_128 ?_
      obtain ⟨v22, s23, e24, h⟩ := clD h
      refine A_callV_I (na := 1) X (m_X12_leastOf e24) gX12_changes_X12_leastOf rfl ⟨rfl, rfl⟩ (by decide +kernel) rfl ⟨Nat.le_of_ble_eq_true rfl, Nat.le_of_ble_eq_true rfl⟩ shM_0 (by decide) rfl rfl (Nat.le_of_ble_eq_true rfl) dX12_changes_130 ?_
      refine A_aload_n X 0 rfl rfl dX12_changes_133 ?_
      refine A_getR X fg_X12_changes_195 shM_0 (k := 60) rfl (by decide) dX12_changes_134 ?_
      refine A_iload X 3 rfl dX12_changes_137 ?_
      obtain ⟨g25, h⟩ := gdD h
      refine A_iald X g25 shM_39 dX12_changes_139 ?_
      refine A_icmp_le X (tgt := 147) (by decide) dX12_changes_140 (fun c26 => ?_) (fun c26 => ?_)
      · replace h := ifT h c26
        refine A_iconst X dX12_changes_147 (z := 0) (by decide) ?_
        refine A_goto X (tgt := 188) (by decide) dX12_changes_148 ?_
        exact w_X12_changes_188 (a1 := a1) (a2 := a2) (a3 := a3) X E hk109 x6 x7 0 s23 h
      · replace h := ifF h c26
        refine A_iconst X dX12_changes_143 (z := 1) (by decide) ?_
        refine A_goto X (tgt := 188) (by decide) dX12_changes_144 ?_
        exact w_X12_changes_188 (a1 := a1) (a2 := a2) (a3 := a3) X E hk109 x6 x7 1 s23 h
set_option maxRecDepth 100000 in
set_option maxHeartbeats 4000000 in
theorem w_X12_changes_109 {x : aC} {r : Int × Hp} {a1 : Int} {a2 : Int} {a3 : Int} (X : aX x cX12_changes wsX12_changes RX12 9 rm_X12_changes) (E : aE x shM (some .int) 0 r) : ∀ (n : Nat) (x6 : Int) (x7 : Int) (σ : Hp) (h : F_M_changes_109 a1 a2 a3 n (x6, x7, σ) = some r), aS x shM 9 109 [(0, vR 0), (3, vI a3), (6, vI x6), (7, vI x7)] [] σ := by
  intro n
  induction n with
  | zero => intro x6 x7 σ h; cases h
  | succ n ih => intro x6 x7 σ h; exact w_X12_changes_109_b (a1 := a1) (a2 := a2) (a3 := a3) (k109 := F_M_changes_109 a1 a2 a3 n) X E ih x6 x7 σ h
set_option maxRecDepth 100000 in
set_option maxHeartbeats 4000000 in
theorem w_X12_changes_15_b {x : aC} {r : Int × Hp} {k15 : Int × Int × Hp → Option (Int × Hp)} {a1 : Int} {a2 : Int} {a3 : Int} (X : aX x cX12_changes wsX12_changes RX12 9 rm_X12_changes) (E : aE x shM (some .int) 0 r) (hk15 : ∀ (x4 : Int) (x5 : Int) (σ : Hp), k15 (x4, x5, σ) = some r → aS x shM 9 15 [(0, vR 0), (1, vI a1), (2, vI a2), (3, vI a3), (4, vI x4), (5, vI x5)] [] σ) (x4 : Int) (x5 : Int) (σ : Hp) (h : F_M_changes_15_b k15 a1 a2 a3 x4 x5 σ = some r) : aS x shM 9 15 [(0, vR 0), (1, vI a1), (2, vI a2), (3, vI a3), (4, vI x4), (5, vI x5)] [] σ := by
  unfold F_M_changes_15_b at h
  refine A_iload X 5 rfl dX12_changes_15 ?_
  refine A_aload_n X 0 rfl rfl dX12_changes_17 ?_
  refine A_getR X fg_X12_changes_51 shM_0 (k := 13) rfl (by decide) dX12_changes_18 ?_
  refine A_aload_n X 0 rfl rfl dX12_changes_21 ?_
  refine A_getI X fg_X12_changes_48 shM_0 (k := 12) rfl (by decide) dX12_changes_22 ?_
  obtain ⟨g27, h⟩ := gdD h
  refine A_iald X g27 shM_2 dX12_changes_25 ?_
  refine A_icmp_ge X (tgt := 61) (by decide) dX12_changes_26 (fun c28 => ?_) (fun c28 => ?_)
  · replace h := ifT h c28
    refine A_aload_n X 0 rfl rfl dX12_changes_61 ?_
    refine A_iload_n X 1 rfl rfl dX12_changes_62 ?_
    refine A_iload_n X 2 rfl rfl dX12_changes_63 ?_
    obtain ⟨v29, s30, e31, h⟩ := clD h
    refine A_callV_V (na := 2) X (m_X12_lays e31) gX12_changes_X12_lays rfl ⟨rfl, rfl⟩ (by decide +kernel) rfl ⟨Nat.le_of_ble_eq_true rfl, Nat.le_of_ble_eq_true rfl⟩ shM_0 (by decide) rfl rfl (Nat.le_of_ble_eq_true rfl) dX12_changes_64 ?_
    refine A_aload_n X 0 rfl rfl dX12_changes_67 ?_
    obtain ⟨v32, s33, e34, h⟩ := clD h
    refine A_callV_I (na := 0) X (m_X12_ends e34) gX12_changes_X12_ends rfl ⟨rfl, rfl⟩ (by decide +kernel) rfl ⟨Nat.le_of_ble_eq_true rfl, Nat.le_of_ble_eq_true rfl⟩ shM_0 (by decide) rfl rfl (Nat.le_of_ble_eq_true rfl) dX12_changes_68 ?_
    refine A_istore X (L' := [(5, vI v32), (0, vR 0), (1, vI a1), (2, vI a2), (3, vI a3), (4, vI x4)]) (by decide) rfl dX12_changes_71 ?_
    refine A_iload X 5 rfl dX12_changes_73 ?_
    refine A_if_eq X (tgt := 83) (by decide) dX12_changes_75 (fun c35 => ?_) (fun c35 => ?_)
    · replace h := ifT h c35
      refine A_sub [1, 4, 5, 0] rfl (L' := [(0, vR 0), (3, vI a3), (4, vI x4), (5, vI v32)]) rfl ?_
      exact w_X12_changes_83 (a1 := a1) (a2 := a2) (a3 := a3) X E x4 v32 s33 h
    · replace h := ifF h c35
      refine A_iload X 0 rfl dX12_changes_78 ?_
      refine A_if_ne X (tgt := 103) (by decide) dX12_changes_80 (fun c36 => ?_) (fun c36 => ?_)
      · replace h := ifF h c36
        refine A_iconst X dX12_changes_103 (z := 0) (by decide) ?_
        refine A_istore X (L' := [(6, vI 0), (5, vI v32), (0, vR 0), (1, vI a1), (2, vI a2), (3, vI a3), (4, vI x4)]) (by decide) rfl dX12_changes_104 ?_
        refine A_iconst X dX12_changes_106 (z := 0) (by decide) ?_
        refine A_istore X (L' := [(7, vI 0), (6, vI 0), (5, vI v32), (0, vR 0), (1, vI a1), (2, vI a2), (3, vI a3), (4, vI x4)]) (by decide) rfl dX12_changes_107 ?_
        refine A_sub [3, 6, 1, 0] rfl (L' := [(0, vR 0), (3, vI a3), (6, vI 0), (7, vI 0)]) rfl ?_
        exact w_X12_changes_109 (a1 := a1) (a2 := a2) (a3 := a3) X E FU 0 0 s33 h
      · replace h := ifT h c36
        refine A_sub [1, 4, 5, 0] rfl (L' := [(0, vR 0), (3, vI a3), (4, vI x4), (5, vI v32)]) rfl ?_
        exact w_X12_changes_83 (a1 := a1) (a2 := a2) (a3 := a3) X E x4 v32 s33 h
  · replace h := ifF h c28
    refine A_aload_n X 0 rfl rfl dX12_changes_29 ?_
    refine A_getR X fg_X12_changes_195 shM_0 (k := 60) rfl (by decide) dX12_changes_30 ?_
    refine A_iload X 5 rfl dX12_changes_33 ?_
    refine A_aload_n X 0 rfl rfl dX12_changes_35 ?_
    refine A_iload X 5 rfl dX12_changes_36 ?_
    obtain ⟨v37, s38, e39, h⟩ := clD h
    refine A_callV_I (na := 1) X (m_X12_leastOf e39) gX12_changes_X12_leastOf rfl ⟨rfl, rfl⟩ (by decide +kernel) rfl ⟨Nat.le_of_ble_eq_true rfl, Nat.le_of_ble_eq_true rfl⟩ shM_0 (by decide) rfl rfl (Nat.le_of_ble_eq_true rfl) dX12_changes_38 ?_
    obtain ⟨g40, h⟩ := gdD h
    refine A_iast X g40 shM_39 dX12_changes_41 (fun s41 hy => ?_)
    replace h := ltD h s41 hy
    clear hy
    refine A_aload_n X 0 rfl rfl dX12_changes_42 ?_
    refine A_getR X fg_X12_changes_198 shM_0 (k := 61) rfl (by decide) dX12_changes_43 ?_
    refine A_iload X 5 rfl dX12_changes_46 ?_
    refine A_aload_n X 0 rfl rfl dX12_changes_48 ?_
    refine A_iload X 5 rfl dX12_changes_49 ?_
    obtain ⟨v42, s43, e44, h⟩ := clD h
    refine A_callV_I (na := 1) X (m_X12_greatestOf e44) gX12_changes_X12_greatestOf rfl ⟨rfl, rfl⟩ (by decide +kernel) rfl ⟨Nat.le_of_ble_eq_true rfl, Nat.le_of_ble_eq_true rfl⟩ shM_0 (by decide) rfl rfl (Nat.le_of_ble_eq_true rfl) dX12_changes_51 ?_
    obtain ⟨g45, h⟩ := gdD h
    refine A_iast X g45 shM_40 dX12_changes_54 (fun s46 hy => ?_)
    replace h := ltD h s46 hy
    clear hy
    refine A_iinc X (L' := fun y5_47 => [(5, vI y5_47), (0, vR 0), (1, vI a1), (2, vI a2), (3, vI a3), (4, vI x4)]) 5 rfl (by decide) (fun _ => rfl) dX12_changes_55 (by decide) (fun y5_47 hy => ?_)
    replace h := ltD h y5_47 hy
    clear hy
    refine A_goto X (tgt := 15) (by decide) dX12_changes_58 ?_
    refine A_sub [1, 2, 3, 4, 5, 0] rfl (L' := [(0, vR 0), (1, vI a1), (2, vI a2), (3, vI a3), (4, vI x4), (5, vI y5_47)]) rfl ?_
    exact hk15 x4 y5_47 s46 h
set_option maxRecDepth 100000 in
set_option maxHeartbeats 4000000 in
theorem w_X12_changes_15 {x : aC} {r : Int × Hp} {a1 : Int} {a2 : Int} {a3 : Int} (X : aX x cX12_changes wsX12_changes RX12 9 rm_X12_changes) (E : aE x shM (some .int) 0 r) : ∀ (n : Nat) (x4 : Int) (x5 : Int) (σ : Hp) (h : F_M_changes_15 a1 a2 a3 n (x4, x5, σ) = some r), aS x shM 9 15 [(0, vR 0), (1, vI a1), (2, vI a2), (3, vI a3), (4, vI x4), (5, vI x5)] [] σ := by
  intro n
  induction n with
  | zero => intro x4 x5 σ h; cases h
  | succ n ih => intro x4 x5 σ h; exact w_X12_changes_15_b (a1 := a1) (a2 := a2) (a3 := a3) (k15 := F_M_changes_15 a1 a2 a3 n) X E ih x4 x5 σ h
set_option maxRecDepth 100000 in
set_option maxHeartbeats 4000000 in
theorem m_X12_changes {l : Launch} {g : aG} {a1 : Int} {a2 : Int} {a3 : Int} {σ : Hp} {r : Int × Hp} (h : F_M_changes a1 a2 a3 σ = some r) : aMet l g shM yX12_changes wsX12_changes rm_X12_changes [vR 0, vI a1, vI a2, vI a3] σ 0 r := by
  unfold F_M_changes at h
  refine aMet_of (bytes := cX12_changes) (maxL := 9) (ret := (some .int)) (by decide +kernel) rfl (Nat.le_of_ble_eq_true rfl) ⟨rfl, rfl⟩ (fun x e1 e2 X E => ?_)
  subst e1; subst e2
  have X : aX x cX12_changes wsX12_changes RX12 9 rm_X12_changes := X
  show aS x shM 9 0 [(0, vR 0), (1, vI a1), (2, vI a2), (3, vI a3)] [] σ
  refine A_aload_n X 0 rfl rfl dX12_changes_0 ?_
  refine A_iconst X dX12_changes_1 (z := (-1)) (by decide) ?_
  refine A_iconst X dX12_changes_2 (z := 0) (by decide) ?_
  obtain ⟨v48, s49, e50, h⟩ := clD h
  refine A_callV_V (na := 2) X (m_X12_lays e50) gX12_changes_X12_lays rfl ⟨rfl, rfl⟩ (by decide +kernel) rfl ⟨Nat.le_of_ble_eq_true rfl, Nat.le_of_ble_eq_true rfl⟩ shM_0 (by decide) rfl rfl (Nat.le_of_ble_eq_true rfl) dX12_changes_3 ?_
  refine A_aload_n X 0 rfl rfl dX12_changes_6 ?_
  obtain ⟨v51, s52, e53, h⟩ := clD h
  refine A_callV_I (na := 0) X (m_X12_ends e53) gX12_changes_X12_ends rfl ⟨rfl, rfl⟩ (by decide +kernel) rfl ⟨Nat.le_of_ble_eq_true rfl, Nat.le_of_ble_eq_true rfl⟩ shM_0 (by decide) rfl rfl (Nat.le_of_ble_eq_true rfl) dX12_changes_7 ?_
  refine A_istore X (L' := [(4, vI v51), (0, vR 0), (1, vI a1), (2, vI a2), (3, vI a3)]) (by decide) rfl dX12_changes_10 ?_
  refine A_iconst X dX12_changes_12 (z := 0) (by decide) ?_
  refine A_istore X (L' := [(5, vI 0), (4, vI v51), (0, vR 0), (1, vI a1), (2, vI a2), (3, vI a3)]) (by decide) rfl dX12_changes_13 ?_
  refine A_sub [2, 3, 4, 5, 1, 0] rfl (L' := [(0, vR 0), (1, vI a1), (2, vI a2), (3, vI a3), (4, vI v51), (5, vI 0)]) rfl ?_
  exact w_X12_changes_15 (a1 := a1) (a2 := a2) (a3 := a3) X E FU v51 0 s52 h
abbrev rm_X12_isLetter : Room := { frames := 0, cells := 0, slots := 0, locals := 0 }
set_option maxRecDepth 100000 in
set_option maxHeartbeats 4000000 in
theorem w_X12_isLetter_17 {x : aC} {r : Int × Hp} {a0 : Int} (X : aX x cX12_isLetter wsX12_isLetter RX12 1 rm_X12_isLetter) (E : aE x shM (some .boolean) 0 r) (t1 : Int) (σ : Hp) (h : F_M_isLetter_17 a0 t1 σ = some r) : aS x shM 1 17 [] [vI t1] σ := by
  unfold F_M_isLetter_17 at h
  obtain ⟨g1, h⟩ := gdD h
  exact A_zreturn X g1 E h dX12_isLetter_17
set_option maxRecDepth 100000 in
set_option maxHeartbeats 4000000 in
theorem w_X12_isLetter_16 {x : aC} {r : Int × Hp} {a0 : Int} (X : aX x cX12_isLetter wsX12_isLetter RX12 1 rm_X12_isLetter) (E : aE x shM (some .boolean) 0 r) (σ : Hp) (h : F_M_isLetter_16 a0 σ = some r) : aS x shM 1 16 [] [] σ := by
  unfold F_M_isLetter_16 at h
  refine A_iconst X dX12_isLetter_16 (z := 0) (by decide) ?_
  exact w_X12_isLetter_17 (a0 := a0) X E 0 σ h
set_option maxRecDepth 100000 in
set_option maxHeartbeats 4000000 in
theorem m_X12_isLetter {l : Launch} {g : aG} {a0 : Int} {σ : Hp} {r : Int × Hp} (h : F_M_isLetter a0 σ = some r) : aMet l g shM yX12_isLetter wsX12_isLetter rm_X12_isLetter [vI a0] σ 0 r := by
  unfold F_M_isLetter at h
  refine aMet_of (bytes := cX12_isLetter) (maxL := 1) (ret := (some .boolean)) (by decide +kernel) rfl (Nat.le_of_ble_eq_true rfl) ⟨rfl, rfl⟩ (fun x e1 e2 X E => ?_)
  subst e1; subst e2
  have X : aX x cX12_isLetter wsX12_isLetter RX12 1 rm_X12_isLetter := X
  show aS x shM 1 0 [(0, vI a0)] [] σ
  refine A_iload_n X 0 rfl rfl dX12_isLetter_0 ?_
  refine A_bipush X dX12_isLetter_1 (z := 97) (by decide) ?_
  refine A_icmp_lt X (tgt := 16) (by decide) dX12_isLetter_3 (fun c2 => ?_) (fun c2 => ?_)
  · replace h := ifT h c2
    refine A_sub [] rfl (L' := []) rfl ?_
    exact w_X12_isLetter_16 (a0 := a0) X E σ h
  · replace h := ifF h c2
    refine A_iload_n X 0 rfl rfl dX12_isLetter_6 ?_
    refine A_bipush X dX12_isLetter_7 (z := 122) (by decide) ?_
    refine A_icmp_gt X (tgt := 16) (by decide) dX12_isLetter_9 (fun c3 => ?_) (fun c3 => ?_)
    · replace h := ifT h c3
      refine A_sub [] rfl (L' := []) rfl ?_
      exact w_X12_isLetter_16 (a0 := a0) X E σ h
    · replace h := ifF h c3
      refine A_iconst X dX12_isLetter_12 (z := 1) (by decide) ?_
      refine A_goto X (tgt := 17) (by decide) dX12_isLetter_13 ?_
      refine A_sub [] rfl (L' := []) rfl ?_
      exact w_X12_isLetter_17 (a0 := a0) X E 1 σ h
abbrev rm_X12_isDigit : Room := { frames := 0, cells := 0, slots := 0, locals := 0 }
set_option maxRecDepth 100000 in
set_option maxHeartbeats 4000000 in
theorem w_X12_isDigit_17 {x : aC} {r : Int × Hp} {a0 : Int} (X : aX x cX12_isDigit wsX12_isDigit RX12 1 rm_X12_isDigit) (E : aE x shM (some .boolean) 0 r) (t1 : Int) (σ : Hp) (h : F_M_isDigit_17 a0 t1 σ = some r) : aS x shM 1 17 [] [vI t1] σ := by
  unfold F_M_isDigit_17 at h
  obtain ⟨g1, h⟩ := gdD h
  exact A_zreturn X g1 E h dX12_isDigit_17
set_option maxRecDepth 100000 in
set_option maxHeartbeats 4000000 in
theorem w_X12_isDigit_16 {x : aC} {r : Int × Hp} {a0 : Int} (X : aX x cX12_isDigit wsX12_isDigit RX12 1 rm_X12_isDigit) (E : aE x shM (some .boolean) 0 r) (σ : Hp) (h : F_M_isDigit_16 a0 σ = some r) : aS x shM 1 16 [] [] σ := by
  unfold F_M_isDigit_16 at h
  refine A_iconst X dX12_isDigit_16 (z := 0) (by decide) ?_
  exact w_X12_isDigit_17 (a0 := a0) X E 0 σ h
set_option maxRecDepth 100000 in
set_option maxHeartbeats 4000000 in
theorem m_X12_isDigit {l : Launch} {g : aG} {a0 : Int} {σ : Hp} {r : Int × Hp} (h : F_M_isDigit a0 σ = some r) : aMet l g shM yX12_isDigit wsX12_isDigit rm_X12_isDigit [vI a0] σ 0 r := by
  unfold F_M_isDigit at h
  refine aMet_of (bytes := cX12_isDigit) (maxL := 1) (ret := (some .boolean)) (by decide +kernel) rfl (Nat.le_of_ble_eq_true rfl) ⟨rfl, rfl⟩ (fun x e1 e2 X E => ?_)
  subst e1; subst e2
  have X : aX x cX12_isDigit wsX12_isDigit RX12 1 rm_X12_isDigit := X
  show aS x shM 1 0 [(0, vI a0)] [] σ
  refine A_iload_n X 0 rfl rfl dX12_isDigit_0 ?_
  refine A_bipush X dX12_isDigit_1 (z := 48) (by decide) ?_
  refine A_icmp_lt X (tgt := 16) (by decide) dX12_isDigit_3 (fun c2 => ?_) (fun c2 => ?_)
  · replace h := ifT h c2
    refine A_sub [] rfl (L' := []) rfl ?_
    exact w_X12_isDigit_16 (a0 := a0) X E σ h
  · replace h := ifF h c2
    refine A_iload_n X 0 rfl rfl dX12_isDigit_6 ?_
    refine A_bipush X dX12_isDigit_7 (z := 57) (by decide) ?_
    refine A_icmp_gt X (tgt := 16) (by decide) dX12_isDigit_9 (fun c3 => ?_) (fun c3 => ?_)
    · replace h := ifT h c3
      refine A_sub [] rfl (L' := []) rfl ?_
      exact w_X12_isDigit_16 (a0 := a0) X E σ h
    · replace h := ifF h c3
      refine A_iconst X dX12_isDigit_12 (z := 1) (by decide) ?_
      refine A_goto X (tgt := 17) (by decide) dX12_isDigit_13 ?_
      refine A_sub [] rfl (L' := []) rfl ?_
      exact w_X12_isDigit_17 (a0 := a0) X E 1 σ h
abbrev rm_X12_next : Room := { frames := 1, cells := 0, slots := 0, locals := 22 }
theorem in_X12_next_12 : ∀ w ∈ u_ws RX12 TX12 75, w ∈ wsX12_next := fun w h => List.mem_cons_of_mem _ (List.mem_append_right _ h)
theorem fg_X12_next_29 : aFl wsX12_next RX12 29 12 6 := ⟨RX12, TX12, 75, rfl, in_X12_next_12, by decide, (List.mem_of_getElem? (i := 6) rfl), rfl⟩
theorem fg_X12_next_7 : aFl wsX12_next RX12 7 12 0 := ⟨RX12, TX12, 75, rfl, in_X12_next_12, by decide, (List.mem_of_getElem? (i := 3) rfl), rfl⟩
theorem fp_X12_next_29 : aFp wsX12_next RX12 29 12 6 .int := ⟨RX12, TX12, 75, tyX12, rfl, in_X12_next_12, by decide, (List.mem_of_getElem? (i := 6) rfl), rfl, tyX12_ok, nmX12, rfl, rfl⟩
theorem fg_X12_next_32 : aFl wsX12_next RX12 32 12 7 := ⟨RX12, TX12, 75, rfl, in_X12_next_12, by decide, (List.mem_of_getElem? (i := 7) rfl), rfl⟩
theorem fp_X12_next_32 : aFp wsX12_next RX12 32 12 7 .long := ⟨RX12, TX12, 75, tyX12, rfl, in_X12_next_12, by decide, (List.mem_of_getElem? (i := 7) rfl), rfl, tyX12_ok, nmX12, rfl, rfl⟩
theorem fp_X12_next_26 : aFp wsX12_next RX12 26 12 5 .int := ⟨RX12, TX12, 75, tyX12, rfl, in_X12_next_12, by decide, (List.mem_of_getElem? (i := 1) rfl), rfl, tyX12_ok, nmX12, rfl, rfl⟩
theorem fg_X12_next_17 : aFl wsX12_next RX12 17 12 2 := ⟨RX12, TX12, 75, rfl, in_X12_next_12, by decide, (List.mem_of_getElem? (i := 2) rfl), rfl⟩
theorem fp_X12_next_20 : aFp wsX12_next RX12 20 12 3 .int := ⟨RX12, TX12, 75, tyX12, rfl, in_X12_next_12, by decide, (List.mem_of_getElem? (i := 5) rfl), rfl, tyX12_ok, nmX12, rfl, rfl⟩
theorem fp_X12_next_23 : aFp wsX12_next RX12 23 12 4 .int := ⟨RX12, TX12, 75, tyX12, rfl, in_X12_next_12, by decide, (List.mem_of_getElem? (i := 4) rfl), rfl, tyX12_ok, nmX12, rfl, rfl⟩
theorem fg_X12_next_26 : aFl wsX12_next RX12 26 12 5 := ⟨RX12, TX12, 75, rfl, in_X12_next_12, by decide, (List.mem_of_getElem? (i := 1) rfl), rfl⟩
set_option maxRecDepth 100000 in
set_option maxHeartbeats 4000000 in
theorem w_X12_next_35 {x : aC} {r : Int × Hp} {k5 : Int × Hp → Option (Int × Hp)} (X : aX x cX12_next wsX12_next RX12 6 rm_X12_next) (E : aE x shM none 3 r) (hk5 : ∀ (x1 : Int) (σ : Hp), k5 (x1, σ) = some r → aS x shM 6 5 [(0, vR 0), (1, vI x1)] [] σ) (x1 : Int) (σ : Hp) (h : F_M_next_35 k5 x1 σ = some r) : aS x shM 6 35 [(0, vR 0), (1, vI x1)] [] σ := by
  unfold F_M_next_35 at h
  refine A_iinc X (L' := fun y1_1 => [(1, vI y1_1), (0, vR 0)]) 1 rfl (by decide) (fun _ => rfl) dX12_next_35 (by decide) (fun y1_1 hy => ?_)
  replace h := ltD h y1_1 hy
  clear hy
  refine A_goto X (tgt := 5) (by decide) dX12_next_38 ?_
  refine A_sub [1, 0] rfl (L' := [(0, vR 0), (1, vI y1_1)]) rfl ?_
  exact hk5 y1_1 σ h
set_option maxRecDepth 100000 in
set_option maxHeartbeats 4000000 in
theorem w_X12_next_314 {x : aC} {r : Int × Hp} {k200 : Int × Int × Int × Int × Int × Hp → Option (Int × Hp)} (X : aX x cX12_next wsX12_next RX12 6 rm_X12_next) (E : aE x shM none 3 r) (hk200 : ∀ (x1 : Int) (x2 : Int) (x3 : Int) (x4 : Int) (x5 : Int) (σ : Hp), k200 (x1, x2, x3, x4, x5, σ) = some r → aS x shM 6 200 [(0, vR 0), (1, vI x1), (2, vI x2), (3, vI x3), (4, vI x4), (5, vI x5)] [] σ) (x1 : Int) (x2 : Int) (x3 : Int) (x4 : Int) (x5 : Int) (σ : Hp) (h : F_M_next_314 k200 x1 x2 x3 x4 x5 σ = some r) : aS x shM 6 314 [(0, vR 0), (1, vI x1), (2, vI x2), (3, vI x3), (4, vI x4), (5, vI x5)] [] σ := by
  unfold F_M_next_314 at h
  refine A_iinc X (L' := fun y5_2 => [(5, vI y5_2), (0, vR 0), (1, vI x1), (2, vI x2), (3, vI x3), (4, vI x4)]) 5 rfl (by decide) (fun _ => rfl) dX12_next_314 (by decide) (fun y5_2 hy => ?_)
  replace h := ltD h y5_2 hy
  clear hy
  refine A_iinc X (L' := fun y1_3 => [(1, vI y1_3), (5, vI y5_2), (0, vR 0), (2, vI x2), (3, vI x3), (4, vI x4)]) 2 rfl (by decide) (fun _ => rfl) dX12_next_317 (by decide) (fun y1_3 hy => ?_)
  replace h := ltD h y1_3 hy
  clear hy
  refine A_goto X (tgt := 200) (by decide) dX12_next_320 ?_
  refine A_sub [2, 0, 3, 4, 5, 1] rfl (L' := [(0, vR 0), (1, vI y1_3), (2, vI x2), (3, vI x3), (4, vI x4), (5, vI y5_2)]) rfl ?_
  exact hk200 y1_3 x2 x3 x4 y5_2 σ h
set_option maxRecDepth 100000 in
set_option maxHeartbeats 4000000 in
theorem w_X12_next_282 {x : aC} {r : Int × Hp} {k200 : Int × Int × Int × Int × Int × Hp → Option (Int × Hp)} (X : aX x cX12_next wsX12_next RX12 6 rm_X12_next) (E : aE x shM none 3 r) (hk200 : ∀ (x1 : Int) (x2 : Int) (x3 : Int) (x4 : Int) (x5 : Int) (σ : Hp), k200 (x1, x2, x3, x4, x5, σ) = some r → aS x shM 6 200 [(0, vR 0), (1, vI x1), (2, vI x2), (3, vI x3), (4, vI x4), (5, vI x5)] [] σ) (x1 : Int) (x2 : Int) (x3 : Int) (x4 : Int) (x5 : Int) (σ : Hp) (h : F_M_next_282 k200 x1 x2 x3 x4 x5 σ = some r) : aS x shM 6 282 [(0, vR 0), (1, vI x1), (2, vI x2), (3, vI x3), (4, vI x4), (5, vI x5)] [] σ := by
  unfold F_M_next_282 at h
  refine A_iload X 5 rfl dX12_next_282 ?_
  refine A_iload X 4 rfl dX12_next_284 ?_
  refine A_icmp_ge X (tgt := 314) (by decide) dX12_next_286 (fun c4 => ?_) (fun c4 => ?_)
  · replace h := ifT h c4
    exact w_X12_next_314 X E hk200 x1 x2 x3 x4 x5 σ h
  · replace h := ifF h c4
    refine A_iload_n X 3 rfl rfl dX12_next_289 ?_
    refine A_if_eq X (tgt := 314) (by decide) dX12_next_290 (fun c5 => ?_) (fun c5 => ?_)
    · replace h := ifT h c5
      exact w_X12_next_314 X E hk200 x1 x2 x3 x4 x5 σ h
    · replace h := ifF h c5
      refine A_aload_n X 0 rfl rfl dX12_next_293 ?_
      refine A_bipush X dX12_next_294 (z := 10) (by decide) ?_
      refine A_aload_n X 0 rfl rfl dX12_next_296 ?_
      refine A_getI X fg_X12_next_29 shM_0 (k := 6) rfl (by decide) dX12_next_297 ?_
      refine A_imul X dX12_next_300 ?_
      refine A_aload_n X 0 rfl rfl dX12_next_301 ?_
      refine A_getR X fg_X12_next_7 shM_0 (k := 0) rfl (by decide) dX12_next_302 ?_
      refine A_iload_n X 1 rfl rfl dX12_next_305 ?_
      obtain ⟨g6, h⟩ := gdD h
      refine A_iald X g6 shM_1 dX12_next_306 ?_
      refine A_iadd X dX12_next_307 ?_
      refine A_bipush X dX12_next_308 (z := 48) (by decide) ?_
      refine A_isub X dX12_next_310 ?_
      refine A_putI X fp_X12_next_29 shM_0 (k := 6) rfl (by decide) dX12_next_311 (fun s7 hy => ?_)
      replace h := ltD h s7 hy
      clear hy
      exact w_X12_next_314 X E hk200 x1 x2 x3 x4 x5 s7 h
set_option maxRecDepth 100000 in
set_option maxHeartbeats 4000000 in
theorem w_X12_next_252 {x : aC} {r : Int × Hp} {k200 : Int × Int × Int × Int × Int × Hp → Option (Int × Hp)} (X : aX x cX12_next wsX12_next RX12 6 rm_X12_next) (E : aE x shM none 3 r) (hk200 : ∀ (x1 : Int) (x2 : Int) (x3 : Int) (x4 : Int) (x5 : Int) (σ : Hp), k200 (x1, x2, x3, x4, x5, σ) = some r → aS x shM 6 200 [(0, vR 0), (1, vI x1), (2, vI x2), (3, vI x3), (4, vI x4), (5, vI x5)] [] σ) (x1 : Int) (x2 : Int) (x3 : Int) (x4 : Int) (x5 : Int) (σ : Hp) (h : F_M_next_252 k200 x1 x2 x3 x4 x5 σ = some r) : aS x shM 6 252 [(0, vR 0), (1, vI x1), (2, vI x2), (3, vI x3), (4, vI x4), (5, vI x5)] [] σ := by
  unfold F_M_next_252 at h
  refine A_iload X 5 rfl dX12_next_252 ?_
  refine A_iload X 4 rfl dX12_next_254 ?_
  refine A_icmp_ge X (tgt := 282) (by decide) dX12_next_256 (fun c8 => ?_) (fun c8 => ?_)
  · replace h := ifT h c8
    exact w_X12_next_282 X E hk200 x1 x2 x3 x4 x5 σ h
  · replace h := ifF h c8
    refine A_iload_n X 2 rfl rfl dX12_next_259 ?_
    refine A_if_eq X (tgt := 282) (by decide) dX12_next_260 (fun c9 => ?_) (fun c9 => ?_)
    · replace h := ifT h c9
      exact w_X12_next_282 X E hk200 x1 x2 x3 x4 x5 σ h
    · replace h := ifF h c9
      refine A_aload_n X 0 rfl rfl dX12_next_263 ?_
      refine A_aload_n X 0 rfl rfl dX12_next_264 ?_
      refine A_getL X fg_X12_next_32 shM_0 (k := 7) rfl (by decide) dX12_next_265 ?_
      refine A_bipush X dX12_next_268 (z := 8) (by decide) ?_
      refine A_lshl X dX12_next_270 ?_
      refine A_aload_n X 0 rfl rfl dX12_next_271 ?_
      refine A_getR X fg_X12_next_7 shM_0 (k := 0) rfl (by decide) dX12_next_272 ?_
      refine A_iload_n X 1 rfl rfl dX12_next_275 ?_
      obtain ⟨g10, h⟩ := gdD h
      refine A_iald X g10 shM_1 dX12_next_276 ?_
      refine A_i2l X dX12_next_277 ?_
      refine A_lor X dX12_next_278 ?_
      refine A_putL X fp_X12_next_32 shM_0 (k := 7) rfl (by decide) dX12_next_279 (fun s11 hy => ?_)
      replace h := ltD h s11 hy
      clear hy
      exact w_X12_next_282 X E hk200 x1 x2 x3 x4 x5 s11 h
set_option maxRecDepth 100000 in
set_option maxHeartbeats 4000000 in
theorem w_X12_next_239 {x : aC} {r : Int × Hp} {k200 : Int × Int × Int × Int × Int × Hp → Option (Int × Hp)} (X : aX x cX12_next wsX12_next RX12 6 rm_X12_next) (E : aE x shM none 3 r) (hk200 : ∀ (x1 : Int) (x2 : Int) (x3 : Int) (x4 : Int) (x5 : Int) (σ : Hp), k200 (x1, x2, x3, x4, x5, σ) = some r → aS x shM 6 200 [(0, vR 0), (1, vI x1), (2, vI x2), (3, vI x3), (4, vI x4), (5, vI x5)] [] σ) (x1 : Int) (x2 : Int) (x3 : Int) (x4 : Int) (x5 : Int) (σ : Hp) (h : F_M_next_239 k200 x1 x2 x3 x4 x5 σ = some r) : aS x shM 6 239 [(0, vR 0), (1, vI x1), (2, vI x2), (3, vI x3), (4, vI x4), (5, vI x5)] [] σ := by
  unfold F_M_next_239 at h
  refine A_iload X 5 rfl dX12_next_239 ?_
  refine A_iload X 4 rfl dX12_next_241 ?_
  refine A_icmp_ne X (tgt := 252) (by decide) dX12_next_243 (fun c12 => ?_) (fun c12 => ?_)
  · replace h := ifF h c12
    exact w_X12_next_252 X E hk200 x1 x2 x3 x4 x5 σ h
  · replace h := ifT h c12
    refine A_aload_n X 0 rfl rfl dX12_next_246 ?_
    refine A_iconst X dX12_next_247 (z := 1) (by decide) ?_
    refine A_iload_n X 1 rfl rfl dX12_next_248 ?_
    obtain ⟨v13, s14, e15, h⟩ := clD h
    refine A_callV_V (na := 2) X (m_X12_blame e15) gX12_next_X12_blame rfl ⟨rfl, rfl⟩ (by decide +kernel) rfl ⟨Nat.le_of_ble_eq_true rfl, Nat.le_of_ble_eq_true rfl⟩ shM_0 (by decide) rfl rfl (Nat.le_of_ble_eq_true rfl) dX12_next_249 ?_
    exact w_X12_next_252 X E hk200 x1 x2 x3 x4 x5 s14 h
set_option maxRecDepth 100000 in
set_option maxHeartbeats 4000000 in
theorem w_X12_next_323 {x : aC} {r : Int × Hp} (X : aX x cX12_next wsX12_next RX12 6 rm_X12_next) (E : aE x shM none 3 r) (x1 : Int) (σ : Hp) (h : F_M_next_323 x1 σ = some r) : aS x shM 6 323 [(0, vR 0), (1, vI x1)] [] σ := by
  unfold F_M_next_323 at h
  refine A_aload_n X 0 rfl rfl dX12_next_323 ?_
  refine A_iload_n X 1 rfl rfl dX12_next_324 ?_
  refine A_putI X fp_X12_next_26 shM_0 (k := 5) rfl (by decide) dX12_next_325 (fun s16 hy => ?_)
  replace h := ltD h s16 hy
  clear hy
  exact A_return X E h dX12_next_328
set_option maxRecDepth 100000 in
set_option maxHeartbeats 4000000 in
theorem w_X12_next_200_b {x : aC} {r : Int × Hp} {k200 : Int × Int × Int × Int × Int × Hp → Option (Int × Hp)} (X : aX x cX12_next wsX12_next RX12 6 rm_X12_next) (E : aE x shM none 3 r) (hk200 : ∀ (x1 : Int) (x2 : Int) (x3 : Int) (x4 : Int) (x5 : Int) (σ : Hp), k200 (x1, x2, x3, x4, x5, σ) = some r → aS x shM 6 200 [(0, vR 0), (1, vI x1), (2, vI x2), (3, vI x3), (4, vI x4), (5, vI x5)] [] σ) (x1 : Int) (x2 : Int) (x3 : Int) (x4 : Int) (x5 : Int) (σ : Hp) (h : F_M_next_200_b k200 x1 x2 x3 x4 x5 σ = some r) : aS x shM 6 200 [(0, vR 0), (1, vI x1), (2, vI x2), (3, vI x3), (4, vI x4), (5, vI x5)] [] σ := by
  unfold F_M_next_200_b at h
  refine A_iload_n X 1 rfl rfl dX12_next_200 ?_
  refine A_aload_n X 0 rfl rfl dX12_next_201 ?_
  refine A_getI X fg_X12_next_17 shM_0 (k := 2) rfl (by decide) dX12_next_202 ?_
  refine A_icmp_ge X (tgt := 323) (by decide) dX12_next_205 (fun c17 => ?_) (fun c17 => ?_)
  · replace h := ifT h c17
    refine A_sub [0, 1] rfl (L' := [(0, vR 0), (1, vI x1)]) rfl ?_
    exact w_X12_next_323 X E x1 σ h
  · replace h := ifF h c17
    refine A_iload_n X 2 rfl rfl dX12_next_208 ?_
    refine A_if_eq X (tgt := 227) (by decide) dX12_next_209 (fun c18 => ?_) (fun c18 => ?_)
    · replace h := ifT h c18
      refine A_aload_n X 0 rfl rfl dX12_next_227 ?_
      refine A_getR X fg_X12_next_7 shM_0 (k := 0) rfl (by decide) dX12_next_228 ?_
      refine A_iload_n X 1 rfl rfl dX12_next_231 ?_
      obtain ⟨g19, h⟩ := gdD h
      refine A_iald X g19 shM_1 dX12_next_232 ?_
      obtain ⟨v20, s21, e22, h⟩ := clD h
      refine A_callS_I (na := 1) X (m_X12_isDigit e22) gX12_next_X12_isDigit rfl ⟨rfl, rfl⟩ (by decide +kernel) rfl ⟨Nat.le_of_ble_eq_true rfl, Nat.le_of_ble_eq_true rfl⟩ rfl (Nat.le_of_ble_eq_true rfl) dX12_next_233 ?_
      refine A_if_eq X (tgt := 323) (by decide) dX12_next_236 (fun c23 => ?_) (fun c23 => ?_)
      · replace h := ifT h c23
        refine A_sub [0, 1] rfl (L' := [(0, vR 0), (1, vI x1)]) rfl ?_
        exact w_X12_next_323 X E x1 s21 h
      · replace h := ifF h c23
        exact w_X12_next_239 X E hk200 x1 x2 x3 x4 x5 s21 h
    · replace h := ifF h c18
      refine A_aload_n X 0 rfl rfl dX12_next_212 ?_
      refine A_getR X fg_X12_next_7 shM_0 (k := 0) rfl (by decide) dX12_next_213 ?_
      refine A_iload_n X 1 rfl rfl dX12_next_216 ?_
      obtain ⟨g24, h⟩ := gdD h
      refine A_iald X g24 shM_1 dX12_next_217 ?_
      obtain ⟨v25, s26, e27, h⟩ := clD h
      refine A_callS_I (na := 1) X (m_X12_isLetter e27) gX12_next_X12_isLetter rfl ⟨rfl, rfl⟩ (by decide +kernel) rfl ⟨Nat.le_of_ble_eq_true rfl, Nat.le_of_ble_eq_true rfl⟩ rfl (Nat.le_of_ble_eq_true rfl) dX12_next_218 ?_
      refine A_if_eq X (tgt := 323) (by decide) dX12_next_221 (fun c28 => ?_) (fun c28 => ?_)
      · replace h := ifT h c28
        refine A_sub [0, 1] rfl (L' := [(0, vR 0), (1, vI x1)]) rfl ?_
        exact w_X12_next_323 X E x1 s26 h
      · replace h := ifF h c28
        refine A_goto X (tgt := 239) (by decide) dX12_next_224 ?_
        exact w_X12_next_239 X E hk200 x1 x2 x3 x4 x5 s26 h
set_option maxRecDepth 100000 in
set_option maxHeartbeats 4000000 in
theorem w_X12_next_200 {x : aC} {r : Int × Hp} (X : aX x cX12_next wsX12_next RX12 6 rm_X12_next) (E : aE x shM none 3 r) : ∀ (n : Nat) (x1 : Int) (x2 : Int) (x3 : Int) (x4 : Int) (x5 : Int) (σ : Hp) (h : F_M_next_200 n (x1, x2, x3, x4, x5, σ) = some r), aS x shM 6 200 [(0, vR 0), (1, vI x1), (2, vI x2), (3, vI x3), (4, vI x4), (5, vI x5)] [] σ := by
  intro n
  induction n with
  | zero => intro x1 x2 x3 x4 x5 σ h; cases h
  | succ n ih => intro x1 x2 x3 x4 x5 σ h; exact w_X12_next_200_b (k200 := F_M_next_200 n) X E ih x1 x2 x3 x4 x5 σ h
set_option maxRecDepth 100000 in
set_option maxHeartbeats 4000000 in
theorem w_X12_next_195 {x : aC} {r : Int × Hp} (X : aX x cX12_next wsX12_next RX12 6 rm_X12_next) (E : aE x shM none 3 r) (x1 : Int) (x2 : Int) (x3 : Int) (t1 : Int) (σ : Hp) (h : F_M_next_195 x1 x2 x3 t1 σ = some r) : aS x shM 6 195 [(0, vR 0), (1, vI x1), (2, vI x2), (3, vI x3)] [vI t1] σ := by
  unfold F_M_next_195 at h
  refine A_istore X (L' := [(4, vI t1), (0, vR 0), (1, vI x1), (2, vI x2), (3, vI x3)]) (by decide) rfl dX12_next_195 ?_
  refine A_iconst X dX12_next_197 (z := 0) (by decide) ?_
  refine A_istore X (L' := [(5, vI 0), (4, vI t1), (0, vR 0), (1, vI x1), (2, vI x2), (3, vI x3)]) (by decide) rfl dX12_next_198 ?_
  refine A_sub [2, 3, 4, 5, 1, 0] rfl (L' := [(0, vR 0), (1, vI x1), (2, vI x2), (3, vI x3), (4, vI t1), (5, vI 0)]) rfl ?_
  exact w_X12_next_200 X E FU x1 x2 x3 t1 0 σ h
set_option maxRecDepth 100000 in
set_option maxHeartbeats 4000000 in
theorem w_X12_next_182 {x : aC} {r : Int × Hp} (X : aX x cX12_next wsX12_next RX12 6 rm_X12_next) (E : aE x shM none 3 r) (x1 : Int) (x2 : Int) (x3 : Int) (t2 : Int) (σ : Hp) (h : F_M_next_182 x1 x2 x3 t2 σ = some r) : aS x shM 6 182 [(0, vR 0), (1, vI x1), (2, vI x2), (3, vI x3)] [vI t2, vR 0] σ := by
  unfold F_M_next_182 at h
  refine A_putI X fp_X12_next_20 shM_0 (k := 3) rfl (by decide) dX12_next_182 (fun s29 hy => ?_)
  replace h := ltD h s29 hy
  clear hy
  refine A_iload_n X 2 rfl rfl dX12_next_185 ?_
  refine A_if_eq X (tgt := 194) (by decide) dX12_next_186 (fun c30 => ?_) (fun c30 => ?_)
  · replace h := ifT h c30
    refine A_iconst X dX12_next_194 (z := 4) (by decide) ?_
    exact w_X12_next_195 X E x1 x2 x3 4 s29 h
  · replace h := ifF h c30
    refine A_bipush X dX12_next_189 (z := 6) (by decide) ?_
    refine A_goto X (tgt := 195) (by decide) dX12_next_191 ?_
    exact w_X12_next_195 X E x1 x2 x3 6 s29 h
set_option maxRecDepth 100000 in
set_option maxHeartbeats 4000000 in
theorem w_X12_next_172 {x : aC} {r : Int × Hp} (X : aX x cX12_next wsX12_next RX12 6 rm_X12_next) (E : aE x shM none 3 r) (x1 : Int) (x2 : Int) (x3 : Int) (σ : Hp) (h : F_M_next_172 x1 x2 x3 σ = some r) : aS x shM 6 172 [(0, vR 0), (1, vI x1), (2, vI x2), (3, vI x3)] [] σ := by
  unfold F_M_next_172 at h
  refine A_aload_n X 0 rfl rfl dX12_next_172 ?_
  refine A_iload_n X 2 rfl rfl dX12_next_173 ?_
  refine A_if_eq X (tgt := 181) (by decide) dX12_next_174 (fun c31 => ?_) (fun c31 => ?_)
  · replace h := ifT h c31
    refine A_iconst X dX12_next_181 (z := 2) (by decide) ?_
    exact w_X12_next_182 X E x1 x2 x3 2 σ h
  · replace h := ifF h c31
    refine A_iconst X dX12_next_177 (z := 1) (by decide) ?_
    refine A_goto X (tgt := 182) (by decide) dX12_next_178 ?_
    exact w_X12_next_182 X E x1 x2 x3 1 σ h
set_option maxRecDepth 100000 in
set_option maxHeartbeats 4000000 in
theorem w_X12_next_131 {x : aC} {r : Int × Hp} (X : aX x cX12_next wsX12_next RX12 6 rm_X12_next) (E : aE x shM none 3 r) (x1 : Int) (x2 : Int) (x3 : Int) (σ : Hp) (h : F_M_next_131 x1 x2 x3 σ = some r) : aS x shM 6 131 [(0, vR 0), (1, vI x1), (2, vI x2), (3, vI x3)] [] σ := by
  unfold F_M_next_131 at h
  refine A_aload_n X 0 rfl rfl dX12_next_131 ?_
  refine A_iconst X dX12_next_132 (z := 0) (by decide) ?_
  refine A_putI X fp_X12_next_29 shM_0 (k := 6) rfl (by decide) dX12_next_133 (fun s32 hy => ?_)
  replace h := ltD h s32 hy
  clear hy
  refine A_aload_n X 0 rfl rfl dX12_next_136 ?_
  refine A_lconst X dX12_next_137 (z := 0) (by decide) ?_
  refine A_putL X fp_X12_next_32 shM_0 (k := 7) rfl (by decide) dX12_next_138 (fun s33 hy => ?_)
  replace h := ltD h s33 hy
  clear hy
  refine A_aload_n X 0 rfl rfl dX12_next_141 ?_
  refine A_iconst X dX12_next_142 (z := 3) (by decide) ?_
  refine A_putI X fp_X12_next_20 shM_0 (k := 3) rfl (by decide) dX12_next_143 (fun s34 hy => ?_)
  replace h := ltD h s34 hy
  clear hy
  refine A_aload_n X 0 rfl rfl dX12_next_146 ?_
  refine A_iload_n X 1 rfl rfl dX12_next_147 ?_
  refine A_iconst X dX12_next_148 (z := 1) (by decide) ?_
  refine A_iadd X dX12_next_149 ?_
  refine A_putI X fp_X12_next_26 shM_0 (k := 5) rfl (by decide) dX12_next_150 (fun s35 hy => ?_)
  replace h := ltD h s35 hy
  clear hy
  refine A_iload_n X 2 rfl rfl dX12_next_153 ?_
  refine A_if_ne X (tgt := 172) (by decide) dX12_next_154 (fun c36 => ?_) (fun c36 => ?_)
  · replace h := ifF h c36
    exact w_X12_next_172 X E x1 x2 x3 s35 h
  · replace h := ifT h c36
    refine A_iload_n X 3 rfl rfl dX12_next_157 ?_
    refine A_if_ne X (tgt := 172) (by decide) dX12_next_158 (fun c37 => ?_) (fun c37 => ?_)
    · replace h := ifF h c37
      exact w_X12_next_172 X E x1 x2 x3 s35 h
    · replace h := ifT h c37
      refine A_aload_n X 0 rfl rfl dX12_next_161 ?_
      refine A_aload_n X 0 rfl rfl dX12_next_162 ?_
      refine A_getR X fg_X12_next_7 shM_0 (k := 0) rfl (by decide) dX12_next_163 ?_
      refine A_iload_n X 1 rfl rfl dX12_next_166 ?_
      obtain ⟨g38, h⟩ := gdD h
      refine A_iald X g38 shM_1 dX12_next_167 ?_
      refine A_putI X fp_X12_next_29 shM_0 (k := 6) rfl (by decide) dX12_next_168 (fun s39 hy => ?_)
      replace h := ltD h s39 hy
      clear hy
      exact A_return X E h dX12_next_171
set_option maxRecDepth 100000 in
set_option maxHeartbeats 4000000 in
theorem w_X12_next_125 {x : aC} {r : Int × Hp} (X : aX x cX12_next wsX12_next RX12 6 rm_X12_next) (E : aE x shM none 3 r) (x1 : Int) (x2 : Int) (x3 : Int) (σ : Hp) (h : F_M_next_125 x1 x2 x3 σ = some r) : aS x shM 6 125 [(0, vR 0), (1, vI x1), (2, vI x2), (3, vI x3)] [] σ := by
  unfold F_M_next_125 at h
  refine A_aload_n X 0 rfl rfl dX12_next_125 ?_
  refine A_iconst X dX12_next_126 (z := 1) (by decide) ?_
  refine A_iload_n X 1 rfl rfl dX12_next_127 ?_
  obtain ⟨v40, s41, e42, h⟩ := clD h
  refine A_callV_V (na := 2) X (m_X12_blame e42) gX12_next_X12_blame rfl ⟨rfl, rfl⟩ (by decide +kernel) rfl ⟨Nat.le_of_ble_eq_true rfl, Nat.le_of_ble_eq_true rfl⟩ shM_0 (by decide) rfl rfl (Nat.le_of_ble_eq_true rfl) dX12_next_128 ?_
  exact w_X12_next_131 X E x1 x2 x3 s41 h
set_option maxRecDepth 100000 in
set_option maxHeartbeats 4000000 in
theorem w_X12_next_93 {x : aC} {r : Int × Hp} (X : aX x cX12_next wsX12_next RX12 6 rm_X12_next) (E : aE x shM none 3 r) (x1 : Int) (x2 : Int) (x3 : Int) (σ : Hp) (h : F_M_next_93 x1 x2 x3 σ = some r) : aS x shM 6 93 [(0, vR 0), (1, vI x1), (2, vI x2), (3, vI x3)] [] σ := by
  unfold F_M_next_93 at h
  refine A_iload_n X 1 rfl rfl dX12_next_93 ?_
  refine A_if_le X (tgt := 131) (by decide) dX12_next_94 (fun c43 => ?_) (fun c43 => ?_)
  · replace h := ifT h c43
    exact w_X12_next_131 X E x1 x2 x3 σ h
  · replace h := ifF h c43
    refine A_aload_n X 0 rfl rfl dX12_next_97 ?_
    refine A_getR X fg_X12_next_7 shM_0 (k := 0) rfl (by decide) dX12_next_98 ?_
    refine A_iload_n X 1 rfl rfl dX12_next_101 ?_
    refine A_iconst X dX12_next_102 (z := 1) (by decide) ?_
    refine A_isub X dX12_next_103 ?_
    obtain ⟨g44, h⟩ := gdD h
    refine A_iald X g44 shM_1 dX12_next_104 ?_
    obtain ⟨v45, s46, e47, h⟩ := clD h
    refine A_callS_I (na := 1) X (m_X12_isLetter e47) gX12_next_X12_isLetter rfl ⟨rfl, rfl⟩ (by decide +kernel) rfl ⟨Nat.le_of_ble_eq_true rfl, Nat.le_of_ble_eq_true rfl⟩ rfl (Nat.le_of_ble_eq_true rfl) dX12_next_105 ?_
    refine A_if_ne X (tgt := 125) (by decide) dX12_next_108 (fun c48 => ?_) (fun c48 => ?_)
    · replace h := ifF h c48
      exact w_X12_next_125 X E x1 x2 x3 s46 h
    · replace h := ifT h c48
      refine A_aload_n X 0 rfl rfl dX12_next_111 ?_
      refine A_getR X fg_X12_next_7 shM_0 (k := 0) rfl (by decide) dX12_next_112 ?_
      refine A_iload_n X 1 rfl rfl dX12_next_115 ?_
      refine A_iconst X dX12_next_116 (z := 1) (by decide) ?_
      refine A_isub X dX12_next_117 ?_
      obtain ⟨g49, h⟩ := gdD h
      refine A_iald X g49 shM_1 dX12_next_118 ?_
      obtain ⟨v50, s51, e52, h⟩ := clD h
      refine A_callS_I (na := 1) X (m_X12_isDigit e52) gX12_next_X12_isDigit rfl ⟨rfl, rfl⟩ (by decide +kernel) rfl ⟨Nat.le_of_ble_eq_true rfl, Nat.le_of_ble_eq_true rfl⟩ rfl (Nat.le_of_ble_eq_true rfl) dX12_next_119 ?_
      refine A_if_eq X (tgt := 131) (by decide) dX12_next_122 (fun c53 => ?_) (fun c53 => ?_)
      · replace h := ifT h c53
        exact w_X12_next_131 X E x1 x2 x3 s51 h
      · replace h := ifF h c53
        exact w_X12_next_125 X E x1 x2 x3 s51 h
set_option maxRecDepth 100000 in
set_option maxHeartbeats 4000000 in
theorem w_X12_next_41 {x : aC} {r : Int × Hp} (X : aX x cX12_next wsX12_next RX12 6 rm_X12_next) (E : aE x shM none 3 r) (x1 : Int) (σ : Hp) (h : F_M_next_41 x1 σ = some r) : aS x shM 6 41 [(0, vR 0), (1, vI x1)] [] σ := by
  unfold F_M_next_41 at h
  refine A_aload_n X 0 rfl rfl dX12_next_41 ?_
  refine A_iload_n X 1 rfl rfl dX12_next_42 ?_
  refine A_putI X fp_X12_next_23 shM_0 (k := 4) rfl (by decide) dX12_next_43 (fun s54 hy => ?_)
  replace h := ltD h s54 hy
  clear hy
  refine A_aload_n X 0 rfl rfl dX12_next_46 ?_
  refine A_iload_n X 1 rfl rfl dX12_next_47 ?_
  refine A_putI X fp_X12_next_26 shM_0 (k := 5) rfl (by decide) dX12_next_48 (fun s55 hy => ?_)
  replace h := ltD h s55 hy
  clear hy
  refine A_aload_n X 0 rfl rfl dX12_next_51 ?_
  refine A_iconst X dX12_next_52 (z := 0) (by decide) ?_
  refine A_putI X fp_X12_next_20 shM_0 (k := 3) rfl (by decide) dX12_next_53 (fun s56 hy => ?_)
  replace h := ltD h s56 hy
  clear hy
  refine A_iload_n X 1 rfl rfl dX12_next_56 ?_
  refine A_aload_n X 0 rfl rfl dX12_next_57 ?_
  refine A_getI X fg_X12_next_17 shM_0 (k := 2) rfl (by decide) dX12_next_58 ?_
  refine A_icmp_lt X (tgt := 65) (by decide) dX12_next_61 (fun c57 => ?_) (fun c57 => ?_)
  · replace h := ifT h c57
    refine A_aload_n X 0 rfl rfl dX12_next_65 ?_
    refine A_getR X fg_X12_next_7 shM_0 (k := 0) rfl (by decide) dX12_next_66 ?_
    refine A_iload_n X 1 rfl rfl dX12_next_69 ?_
    obtain ⟨g58, h⟩ := gdD h
    refine A_iald X g58 shM_1 dX12_next_70 ?_
    obtain ⟨v59, s60, e61, h⟩ := clD h
    refine A_callS_I (na := 1) X (m_X12_isLetter e61) gX12_next_X12_isLetter rfl ⟨rfl, rfl⟩ (by decide +kernel) rfl ⟨Nat.le_of_ble_eq_true rfl, Nat.le_of_ble_eq_true rfl⟩ rfl (Nat.le_of_ble_eq_true rfl) dX12_next_71 ?_
    refine A_istore_n X (L' := [(2, vI v59), (0, vR 0), (1, vI x1)]) rfl (by decide) rfl dX12_next_74 ?_
    refine A_aload_n X 1 rfl rfl dX12_next_75 ?_
    refine A_getR X fg_X12_next_7 shM_0 (k := 0) rfl (by decide) dX12_next_76 ?_
    refine A_iload_n X 2 rfl rfl dX12_next_79 ?_
    obtain ⟨g62, h⟩ := gdD h
    refine A_iald X g62 shM_1 dX12_next_80 ?_
    obtain ⟨v63, s64, e65, h⟩ := clD h
    refine A_callS_I (na := 1) X (m_X12_isDigit e65) gX12_next_X12_isDigit rfl ⟨rfl, rfl⟩ (by decide +kernel) rfl ⟨Nat.le_of_ble_eq_true rfl, Nat.le_of_ble_eq_true rfl⟩ rfl (Nat.le_of_ble_eq_true rfl) dX12_next_81 ?_
    refine A_istore_n X (L' := [(3, vI v63), (2, vI v59), (0, vR 0), (1, vI x1)]) rfl (by decide) rfl dX12_next_84 ?_
    refine A_iload_n X 1 rfl rfl dX12_next_85 ?_
    refine A_if_ne X (tgt := 93) (by decide) dX12_next_86 (fun c66 => ?_) (fun c66 => ?_)
    · replace h := ifF h c66
      refine A_sub [2, 3, 1, 0] rfl (L' := [(0, vR 0), (1, vI x1), (2, vI v59), (3, vI v63)]) rfl ?_
      exact w_X12_next_93 X E x1 v59 v63 s64 h
    · replace h := ifT h c66
      refine A_iload_n X 0 rfl rfl dX12_next_89 ?_
      refine A_if_eq X (tgt := 131) (by decide) dX12_next_90 (fun c67 => ?_) (fun c67 => ?_)
      · replace h := ifT h c67
        refine A_sub [2, 3, 1, 0] rfl (L' := [(0, vR 0), (1, vI x1), (2, vI v59), (3, vI v63)]) rfl ?_
        exact w_X12_next_131 X E x1 v59 v63 s64 h
      · replace h := ifF h c67
        refine A_sub [2, 3, 1, 0] rfl (L' := [(0, vR 0), (1, vI x1), (2, vI v59), (3, vI v63)]) rfl ?_
        exact w_X12_next_93 X E x1 v59 v63 s64 h
  · replace h := ifF h c57
    exact A_return X E h dX12_next_64
set_option maxRecDepth 100000 in
set_option maxHeartbeats 4000000 in
theorem w_X12_next_5_b {x : aC} {r : Int × Hp} {k5 : Int × Hp → Option (Int × Hp)} (X : aX x cX12_next wsX12_next RX12 6 rm_X12_next) (E : aE x shM none 3 r) (hk5 : ∀ (x1 : Int) (σ : Hp), k5 (x1, σ) = some r → aS x shM 6 5 [(0, vR 0), (1, vI x1)] [] σ) (x1 : Int) (σ : Hp) (h : F_M_next_5_b k5 x1 σ = some r) : aS x shM 6 5 [(0, vR 0), (1, vI x1)] [] σ := by
  unfold F_M_next_5_b at h
  refine A_iload_n X 1 rfl rfl dX12_next_5 ?_
  refine A_aload_n X 0 rfl rfl dX12_next_6 ?_
  refine A_getI X fg_X12_next_17 shM_0 (k := 2) rfl (by decide) dX12_next_7 ?_
  refine A_icmp_ge X (tgt := 41) (by decide) dX12_next_10 (fun c68 => ?_) (fun c68 => ?_)
  · replace h := ifT h c68
    exact w_X12_next_41 X E x1 σ h
  · replace h := ifF h c68
    refine A_aload_n X 0 rfl rfl dX12_next_13 ?_
    refine A_getR X fg_X12_next_7 shM_0 (k := 0) rfl (by decide) dX12_next_14 ?_
    refine A_iload_n X 1 rfl rfl dX12_next_17 ?_
    obtain ⟨g69, h⟩ := gdD h
    refine A_iald X g69 shM_1 dX12_next_18 ?_
    refine A_bipush X dX12_next_19 (z := 32) (by decide) ?_
    refine A_icmp_eq X (tgt := 35) (by decide) dX12_next_21 (fun c70 => ?_) (fun c70 => ?_)
    · replace h := ifT h c70
      exact w_X12_next_35 X E hk5 x1 σ h
    · replace h := ifF h c70
      refine A_aload_n X 0 rfl rfl dX12_next_24 ?_
      refine A_getR X fg_X12_next_7 shM_0 (k := 0) rfl (by decide) dX12_next_25 ?_
      refine A_iload_n X 1 rfl rfl dX12_next_28 ?_
      obtain ⟨g71, h⟩ := gdD h
      refine A_iald X g71 shM_1 dX12_next_29 ?_
      refine A_bipush X dX12_next_30 (z := 10) (by decide) ?_
      refine A_icmp_ne X (tgt := 41) (by decide) dX12_next_32 (fun c72 => ?_) (fun c72 => ?_)
      · replace h := ifF h c72
        exact w_X12_next_41 X E x1 σ h
      · replace h := ifT h c72
        exact w_X12_next_35 X E hk5 x1 σ h
set_option maxRecDepth 100000 in
set_option maxHeartbeats 4000000 in
theorem w_X12_next_5 {x : aC} {r : Int × Hp} (X : aX x cX12_next wsX12_next RX12 6 rm_X12_next) (E : aE x shM none 3 r) : ∀ (n : Nat) (x1 : Int) (σ : Hp) (h : F_M_next_5 n (x1, σ) = some r), aS x shM 6 5 [(0, vR 0), (1, vI x1)] [] σ := by
  intro n
  induction n with
  | zero => intro x1 σ h; cases h
  | succ n ih => intro x1 σ h; exact w_X12_next_5_b (k5 := F_M_next_5 n) X E ih x1 σ h
set_option maxRecDepth 100000 in
set_option maxHeartbeats 4000000 in
theorem m_X12_next {l : Launch} {g : aG} {σ : Hp} {r : Int × Hp} (h : F_M_next σ = some r) : aMet l g shM yX12_next wsX12_next rm_X12_next [vR 0] σ 3 r := by
  unfold F_M_next at h
  refine aMet_of (bytes := cX12_next) (maxL := 6) (ret := none) (by decide +kernel) rfl (Nat.le_of_ble_eq_true rfl) ⟨rfl, rfl⟩ (fun x e1 e2 X E => ?_)
  subst e1; subst e2
  have X : aX x cX12_next wsX12_next RX12 6 rm_X12_next := X
  show aS x shM 6 0 [(0, vR 0)] [] σ
  refine A_aload_n X 0 rfl rfl dX12_next_0 ?_
  refine A_getI X fg_X12_next_26 shM_0 (k := 5) rfl (by decide) dX12_next_1 ?_
  refine A_istore_nN X (L' := fun y1_73 => [(1, vI y1_73), (0, vR 0)]) rfl (by decide) (fun _ => rfl) dX12_next_4 (fun y1_73 hy => ?_)
  replace h := ltD h y1_73 hy
  clear hy
  refine A_sub [1, 0] rfl (L' := [(0, vR 0), (1, vI y1_73)]) rfl ?_
  exact w_X12_next_5 X E FU y1_73 σ h
abbrev rm_X12_counts : Room := { frames := 2, cells := 0, slots := 0, locals := 47 }
theorem in_X12_counts_12 : ∀ w ∈ u_ws RX12 TX12 75, w ∈ wsX12_counts := fun w h => List.mem_cons_of_mem _ (List.mem_append_right _ h)
theorem fg_X12_counts_36 : aFl wsX12_counts RX12 36 12 8 := ⟨RX12, TX12, 75, rfl, in_X12_counts_12, by decide, (List.mem_of_getElem? (i := 2) rfl), rfl⟩
theorem fg_X12_counts_23 : aFl wsX12_counts RX12 23 12 4 := ⟨RX12, TX12, 75, rfl, in_X12_counts_12, by decide, (List.mem_of_getElem? (i := 1) rfl), rfl⟩
set_option maxRecDepth 100000 in
set_option maxHeartbeats 4000000 in
theorem w_X12_counts_24 {x : aC} {r : Int × Hp} {a1 : Int} (X : aX x cX12_counts wsX12_counts RX12 2 rm_X12_counts) (E : aE x shM none 3 r) (σ : Hp) (h : F_M_counts_24 a1 σ = some r) : aS x shM 2 24 [] [] σ := by
  unfold F_M_counts_24 at h
  exact A_return X E h dX12_counts_24
set_option maxRecDepth 100000 in
set_option maxHeartbeats 4000000 in
theorem w_X12_counts_13 {x : aC} {r : Int × Hp} {a1 : Int} (X : aX x cX12_counts wsX12_counts RX12 2 rm_X12_counts) (E : aE x shM none 3 r) (σ : Hp) (h : F_M_counts_13 a1 σ = some r) : aS x shM 2 13 [(0, vR 0)] [] σ := by
  unfold F_M_counts_13 at h
  refine A_aload_n X 0 rfl rfl dX12_counts_13 ?_
  refine A_getI X fg_X12_counts_36 shM_0 (k := 8) rfl (by decide) dX12_counts_14 ?_
  refine A_if_ne X (tgt := 24) (by decide) dX12_counts_17 (fun c1 => ?_) (fun c1 => ?_)
  · replace h := ifF h c1
    refine A_sub [] rfl (L' := []) rfl ?_
    exact w_X12_counts_24 (a1 := a1) X E σ h
  · replace h := ifT h c1
    refine A_aload_n X 0 rfl rfl dX12_counts_20 ?_
    obtain ⟨v2, s3, e4, h⟩ := clD h
    refine A_callV_V (na := 0) X (m_X12_next e4) gX12_counts_X12_next rfl ⟨rfl, rfl⟩ (by decide +kernel) rfl ⟨Nat.le_of_ble_eq_true rfl, Nat.le_of_ble_eq_true rfl⟩ shM_0 (by decide) rfl rfl (Nat.le_of_ble_eq_true rfl) dX12_counts_21 ?_
    refine A_sub [] rfl (L' := []) rfl ?_
    exact w_X12_counts_24 (a1 := a1) X E s3 h
set_option maxRecDepth 100000 in
set_option maxHeartbeats 4000000 in
theorem m_X12_counts {l : Launch} {g : aG} {a1 : Int} {σ : Hp} {r : Int × Hp} (h : F_M_counts a1 σ = some r) : aMet l g shM yX12_counts wsX12_counts rm_X12_counts [vR 0, vI a1] σ 3 r := by
  unfold F_M_counts at h
  refine aMet_of (bytes := cX12_counts) (maxL := 2) (ret := none) (by decide +kernel) rfl (Nat.le_of_ble_eq_true rfl) ⟨rfl, rfl⟩ (fun x e1 e2 X E => ?_)
  subst e1; subst e2
  have X : aX x cX12_counts wsX12_counts RX12 2 rm_X12_counts := X
  show aS x shM 2 0 [(0, vR 0), (1, vI a1)] [] σ
  refine A_iload_n X 1 rfl rfl dX12_counts_0 ?_
  refine A_if_eq X (tgt := 13) (by decide) dX12_counts_1 (fun c5 => ?_) (fun c5 => ?_)
  · replace h := ifT h c5
    refine A_sub [0] rfl (L' := [(0, vR 0)]) rfl ?_
    exact w_X12_counts_13 (a1 := a1) X E σ h
  · replace h := ifF h c5
    refine A_aload_n X 0 rfl rfl dX12_counts_4 ?_
    refine A_iconst X dX12_counts_5 (z := 5) (by decide) ?_
    refine A_aload_n X 0 rfl rfl dX12_counts_6 ?_
    refine A_getI X fg_X12_counts_23 shM_0 (k := 4) rfl (by decide) dX12_counts_7 ?_
    obtain ⟨v6, s7, e8, h⟩ := clD h
    refine A_callV_V (na := 2) X (m_X12_blame e8) gX12_counts_X12_blame rfl ⟨rfl, rfl⟩ (by decide +kernel) rfl ⟨Nat.le_of_ble_eq_true rfl, Nat.le_of_ble_eq_true rfl⟩ shM_0 (by decide) rfl rfl (Nat.le_of_ble_eq_true rfl) dX12_counts_10 ?_
    refine A_sub [0] rfl (L' := [(0, vR 0)]) rfl ?_
    exact w_X12_counts_13 (a1 := a1) X E s7 h
abbrev rm_X12_day : Room := { frames := 1, cells := 0, slots := 0, locals := 22 }
theorem in_X12_day_12 : ∀ w ∈ u_ws RX12 TX12 75, w ∈ wsX12_day := fun w h => List.mem_cons_of_mem _ (List.mem_append_right _ h)
theorem fp_X12_day_141 : aFp wsX12_day RX12 141 12 42 .int := ⟨RX12, TX12, 75, tyX12, rfl, in_X12_day_12, by decide, (List.mem_of_getElem? (i := 1) rfl), rfl, tyX12_ok, nmX12, rfl, rfl⟩
set_option maxRecDepth 100000 in
set_option maxHeartbeats 4000000 in
theorem m_X12_day {l : Launch} {g : aG} {a1 : Int} {σ : Hp} {r : Int × Hp} (h : F_M_day a1 σ = some r) : aMet l g shM yX12_day wsX12_day rm_X12_day [vR 0, vI a1] σ 0 r := by
  unfold F_M_day at h
  refine aMet_of (bytes := cX12_day) (maxL := 2) (ret := (some .boolean)) (by decide +kernel) rfl (Nat.le_of_ble_eq_true rfl) ⟨rfl, rfl⟩ (fun x e1 e2 X E => ?_)
  subst e1; subst e2
  have X : aX x cX12_day wsX12_day RX12 2 rm_X12_day := X
  show aS x shM 2 0 [(0, vR 0), (1, vI a1)] [] σ
  refine A_iload_n X 1 rfl rfl dX12_day_0 ?_
  refine A_iconst X dX12_day_1 (z := 0) (by decide) ?_
  refine A_sipush X dX12_day_2 (z := 999) (by decide) ?_
  obtain ⟨v1, s2, e3, h⟩ := clD h
  refine A_callS_I (na := 3) X (m_X12_is e3) gX12_day_X12_is rfl ⟨rfl, rfl⟩ (by decide +kernel) rfl ⟨Nat.le_of_ble_eq_true rfl, Nat.le_of_ble_eq_true rfl⟩ rfl (Nat.le_of_ble_eq_true rfl) dX12_day_5 ?_
  refine A_if_ne X (tgt := 13) (by decide) dX12_day_8 (fun c4 => ?_) (fun c4 => ?_)
  · replace h := ifF h c4
    refine A_aload_n X 0 rfl rfl dX12_day_13 ?_
    refine A_iload_n X 1 rfl rfl dX12_day_14 ?_
    refine A_putI X fp_X12_day_141 shM_0 (k := 42) rfl (by decide) dX12_day_15 (fun s5 hy => ?_)
    replace h := ltD h s5 hy
    clear hy
    refine A_iconst X dX12_day_18 (z := 1) (by decide) ?_
    exact A_zreturn X (Or.inr rfl) E h dX12_day_19
  · replace h := ifT h c4
    refine A_iconst X dX12_day_11 (z := 0) (by decide) ?_
    exact A_zreturn X (Or.inl rfl) E h dX12_day_12
abbrev rm_X12_isRoad : Room := { frames := 1, cells := 0, slots := 0, locals := 22 }
theorem in_X12_isRoad_12 : ∀ w ∈ u_ws RX12 TX12 75, w ∈ wsX12_isRoad := fun w h => List.mem_cons_of_mem _ (List.mem_append_right _ h)
theorem fg_X12_isRoad_54 : aFl wsX12_isRoad RX12 54 12 14 := ⟨RX12, TX12, 75, rfl, in_X12_isRoad_12, by decide, (List.mem_of_getElem? (i := 1) rfl), rfl⟩
theorem fg_X12_isRoad_48 : aFl wsX12_isRoad RX12 48 12 12 := ⟨RX12, TX12, 75, rfl, in_X12_isRoad_12, by decide, (List.mem_of_getElem? (i := 2) rfl), rfl⟩
set_option maxRecDepth 100000 in
set_option maxHeartbeats 4000000 in
theorem m_X12_isRoad {l : Launch} {g : aG} {a1 : Int} {σ : Hp} {r : Int × Hp} (h : F_M_isRoad a1 σ = some r) : aMet l g shM yX12_isRoad wsX12_isRoad rm_X12_isRoad [vR 0, vI a1] σ 0 r := by
  unfold F_M_isRoad at h
  refine aMet_of (bytes := cX12_isRoad) (maxL := 2) (ret := (some .boolean)) (by decide +kernel) rfl (Nat.le_of_ble_eq_true rfl) ⟨rfl, rfl⟩ (fun x e1 e2 X E => ?_)
  subst e1; subst e2
  have X : aX x cX12_isRoad wsX12_isRoad RX12 2 rm_X12_isRoad := X
  show aS x shM 2 0 [(0, vR 0), (1, vI a1)] [] σ
  refine A_iload_n X 1 rfl rfl dX12_isRoad_0 ?_
  refine A_iconst X dX12_isRoad_1 (z := 0) (by decide) ?_
  refine A_aload_n X 0 rfl rfl dX12_isRoad_2 ?_
  refine A_getR X fg_X12_isRoad_54 shM_0 (k := 14) rfl (by decide) dX12_isRoad_3 ?_
  refine A_aload_n X 0 rfl rfl dX12_isRoad_6 ?_
  refine A_getI X fg_X12_isRoad_48 shM_0 (k := 12) rfl (by decide) dX12_isRoad_7 ?_
  obtain ⟨g1, h⟩ := gdD h
  refine A_iald X g1 shM_3 dX12_isRoad_10 ?_
  refine A_iconst X dX12_isRoad_11 (z := 1) (by decide) ?_
  refine A_isub X dX12_isRoad_12 ?_
  obtain ⟨v2, s3, e4, h⟩ := clD h
  refine A_callS_I (na := 3) X (m_X12_is e4) gX12_isRoad_X12_is rfl ⟨rfl, rfl⟩ (by decide +kernel) rfl ⟨Nat.le_of_ble_eq_true rfl, Nat.le_of_ble_eq_true rfl⟩ rfl (Nat.le_of_ble_eq_true rfl) dX12_isRoad_13 ?_
  obtain ⟨g5, h⟩ := gdD h
  exact A_zreturn X g5 E h dX12_isRoad_16
abbrev rm_X12_deals : Room := { frames := 0, cells := 0, slots := 0, locals := 0 }
theorem in_X12_deals_12 : ∀ w ∈ u_ws RX12 TX12 75, w ∈ wsX12_deals := fun w h => List.mem_cons_of_mem _ (List.mem_append_right _ h)
theorem fg_X12_deals_54 : aFl wsX12_deals RX12 54 12 14 := ⟨RX12, TX12, 75, rfl, in_X12_deals_12, by decide, (List.mem_of_getElem? (i := 1) rfl), rfl⟩
theorem fg_X12_deals_48 : aFl wsX12_deals RX12 48 12 12 := ⟨RX12, TX12, 75, rfl, in_X12_deals_12, by decide, (List.mem_of_getElem? (i := 2) rfl), rfl⟩
theorem fg_X12_deals_204 : aFl wsX12_deals RX12 204 12 63 := ⟨RX12, TX12, 75, rfl, in_X12_deals_12, by decide, (List.mem_of_getElem? (i := 3) rfl), rfl⟩
set_option maxRecDepth 100000 in
set_option maxHeartbeats 4000000 in
theorem w_X12_deals_32 {x : aC} {r : Int × Hp} {k4 : Int × Int × Hp → Option (Int × Hp)} (X : aX x cX12_deals wsX12_deals RX12 3 rm_X12_deals) (E : aE x shM (some .int) 0 r) (hk4 : ∀ (x1 : Int) (x2 : Int) (σ : Hp), k4 (x1, x2, σ) = some r → aS x shM 3 4 [(0, vR 0), (1, vI x1), (2, vI x2)] [] σ) (x2 : Int) (t2 : Int) (t1 : Int) (σ : Hp) (h : F_M_deals_32 k4 x2 t2 t1 σ = some r) : aS x shM 3 32 [(0, vR 0), (2, vI x2)] [vI t2, vI t1] σ := by
  unfold F_M_deals_32 at h
  refine A_iadd X dX12_deals_32 ?_
  refine A_istore_nN X (L' := fun y1_1 => [(1, vI y1_1), (0, vR 0), (2, vI x2)]) rfl (by decide) (fun _ => rfl) dX12_deals_33 (fun y1_1 hy => ?_)
  replace h := ltD h y1_1 hy
  clear hy
  refine A_iinc X (L' := fun y2_2 => [(2, vI y2_2), (1, vI y1_1), (0, vR 0)]) 2 rfl (by decide) (fun _ => rfl) dX12_deals_34 (by decide) (fun y2_2 hy => ?_)
  replace h := ltD h y2_2 hy
  clear hy
  refine A_goto X (tgt := 4) (by decide) dX12_deals_37 ?_
  refine A_sub [2, 1, 0] rfl (L' := [(0, vR 0), (1, vI y1_1), (2, vI y2_2)]) rfl ?_
  exact hk4 y1_1 y2_2 σ h
set_option maxRecDepth 100000 in
set_option maxHeartbeats 4000000 in
theorem w_X12_deals_4_b {x : aC} {r : Int × Hp} {k4 : Int × Int × Hp → Option (Int × Hp)} (X : aX x cX12_deals wsX12_deals RX12 3 rm_X12_deals) (E : aE x shM (some .int) 0 r) (hk4 : ∀ (x1 : Int) (x2 : Int) (σ : Hp), k4 (x1, x2, σ) = some r → aS x shM 3 4 [(0, vR 0), (1, vI x1), (2, vI x2)] [] σ) (x1 : Int) (x2 : Int) (σ : Hp) (h : F_M_deals_4_b k4 x1 x2 σ = some r) : aS x shM 3 4 [(0, vR 0), (1, vI x1), (2, vI x2)] [] σ := by
  unfold F_M_deals_4_b at h
  refine A_iload_n X 2 rfl rfl dX12_deals_4 ?_
  refine A_aload_n X 0 rfl rfl dX12_deals_5 ?_
  refine A_getR X fg_X12_deals_54 shM_0 (k := 14) rfl (by decide) dX12_deals_6 ?_
  refine A_aload_n X 0 rfl rfl dX12_deals_9 ?_
  refine A_getI X fg_X12_deals_48 shM_0 (k := 12) rfl (by decide) dX12_deals_10 ?_
  obtain ⟨g3, h⟩ := gdD h
  refine A_iald X g3 shM_3 dX12_deals_13 ?_
  refine A_icmp_ge X (tgt := 40) (by decide) dX12_deals_14 (fun c4 => ?_) (fun c4 => ?_)
  · replace h := ifT h c4
    refine A_iload_n X 1 rfl rfl dX12_deals_40 ?_
    exact A_ireturn X E h dX12_deals_41
  · replace h := ifF h c4
    refine A_iload_n X 1 rfl rfl dX12_deals_17 ?_
    refine A_aload_n X 0 rfl rfl dX12_deals_18 ?_
    refine A_getR X fg_X12_deals_204 shM_0 (k := 63) rfl (by decide) dX12_deals_19 ?_
    refine A_iload_n X 2 rfl rfl dX12_deals_22 ?_
    obtain ⟨g5, h⟩ := gdD h
    refine A_zald X g5 shM_42 dX12_deals_23 ?_
    refine A_if_eq X (tgt := 31) (by decide) dX12_deals_24 (fun c6 => ?_) (fun c6 => ?_)
    · replace h := ifT h c6
      refine A_iconst X dX12_deals_31 (z := 0) (by decide) ?_
      refine A_sub [0, 2] rfl (L' := [(0, vR 0), (2, vI x2)]) rfl ?_
      exact w_X12_deals_32 X E hk4 x2 0 x1 σ h
    · replace h := ifF h c6
      refine A_iconst X dX12_deals_27 (z := 1) (by decide) ?_
      refine A_goto X (tgt := 32) (by decide) dX12_deals_28 ?_
      refine A_sub [0, 2] rfl (L' := [(0, vR 0), (2, vI x2)]) rfl ?_
      exact w_X12_deals_32 X E hk4 x2 1 x1 σ h
set_option maxRecDepth 100000 in
set_option maxHeartbeats 4000000 in
theorem w_X12_deals_4 {x : aC} {r : Int × Hp} (X : aX x cX12_deals wsX12_deals RX12 3 rm_X12_deals) (E : aE x shM (some .int) 0 r) : ∀ (n : Nat) (x1 : Int) (x2 : Int) (σ : Hp) (h : F_M_deals_4 n (x1, x2, σ) = some r), aS x shM 3 4 [(0, vR 0), (1, vI x1), (2, vI x2)] [] σ := by
  intro n
  induction n with
  | zero => intro x1 x2 σ h; cases h
  | succ n ih => intro x1 x2 σ h; exact w_X12_deals_4_b (k4 := F_M_deals_4 n) X E ih x1 x2 σ h
set_option maxRecDepth 100000 in
set_option maxHeartbeats 4000000 in
theorem m_X12_deals {l : Launch} {g : aG} {σ : Hp} {r : Int × Hp} (h : F_M_deals σ = some r) : aMet l g shM yX12_deals wsX12_deals rm_X12_deals [vR 0] σ 0 r := by
  unfold F_M_deals at h
  refine aMet_of (bytes := cX12_deals) (maxL := 3) (ret := (some .int)) (by decide +kernel) rfl (Nat.le_of_ble_eq_true rfl) ⟨rfl, rfl⟩ (fun x e1 e2 X E => ?_)
  subst e1; subst e2
  have X : aX x cX12_deals wsX12_deals RX12 3 rm_X12_deals := X
  show aS x shM 3 0 [(0, vR 0)] [] σ
  refine A_iconst X dX12_deals_0 (z := 0) (by decide) ?_
  refine A_istore_n X (L' := [(1, vI 0), (0, vR 0)]) rfl (by decide) rfl dX12_deals_1 ?_
  refine A_iconst X dX12_deals_2 (z := 0) (by decide) ?_
  refine A_istore_n X (L' := [(2, vI 0), (1, vI 0), (0, vR 0)]) rfl (by decide) rfl dX12_deals_3 ?_
  refine A_sub [2, 1, 0] rfl (L' := [(0, vR 0), (1, vI 0), (2, vI 0)]) rfl ?_
  exact w_X12_deals_4 X E FU 0 0 σ h
abbrev rm_X12_deal : Room := { frames := 5, cells := 0, slots := 0, locals := 123 }
theorem in_X12_deal_12 : ∀ w ∈ u_ws RX12 TX12 75, w ∈ wsX12_deal := fun w h => List.mem_cons_of_mem _ (List.mem_append_right _ h)
theorem fg_X12_deal_204 : aFl wsX12_deal RX12 204 12 63 := ⟨RX12, TX12, 75, rfl, in_X12_deal_12, by decide, (List.mem_of_getElem? (i := 6) rfl), rfl⟩
theorem fg_X12_deal_54 : aFl wsX12_deal RX12 54 12 14 := ⟨RX12, TX12, 75, rfl, in_X12_deal_12, by decide, (List.mem_of_getElem? (i := 4) rfl), rfl⟩
theorem fg_X12_deal_48 : aFl wsX12_deal RX12 48 12 12 := ⟨RX12, TX12, 75, rfl, in_X12_deal_12, by decide, (List.mem_of_getElem? (i := 5) rfl), rfl⟩
theorem fg_X12_deal_207 : aFl wsX12_deal RX12 207 12 64 := ⟨RX12, TX12, 75, rfl, in_X12_deal_12, by decide, (List.mem_of_getElem? (i := 7) rfl), rfl⟩
theorem fg_X12_deal_162 : aFl wsX12_deal RX12 162 12 49 := ⟨RX12, TX12, 75, rfl, in_X12_deal_12, by decide, (List.mem_of_getElem? (i := 3) rfl), rfl⟩
set_option maxRecDepth 100000 in
set_option maxHeartbeats 4000000 in
theorem w_X12_deal_21 {x : aC} {r : Int × Hp} {a1 : Int} {a2 : Int} (X : aX x cX12_deal wsX12_deal RX12 6 rm_X12_deal) (E : aE x shM (some .int) 0 r) (σ : Hp) (h : F_M_deal_21 a1 a2 σ = some r) : aS x shM 6 21 [] [] σ := by
  unfold F_M_deal_21 at h
  refine A_iconst X dX12_deal_21 (z := (-1)) (by decide) ?_
  exact A_ireturn X E h dX12_deal_22
set_option maxRecDepth 100000 in
set_option maxHeartbeats 4000000 in
theorem w_X12_deal_139 {x : aC} {r : Int × Hp} {k39 : Int × Int × Hp → Option (Int × Hp)} {a1 : Int} {a2 : Int} (X : aX x cX12_deal wsX12_deal RX12 6 rm_X12_deal) (E : aE x shM (some .int) 0 r) (hk39 : ∀ (x3 : Int) (x4 : Int) (σ : Hp), k39 (x3, x4, σ) = some r → aS x shM 6 39 [(0, vR 0), (1, vI a1), (2, vI a2), (3, vI x3), (4, vI x4)] [] σ) (x3 : Int) (x4 : Int) (σ : Hp) (h : F_M_deal_139 k39 a1 a2 x3 x4 σ = some r) : aS x shM 6 139 [(0, vR 0), (1, vI a1), (2, vI a2), (3, vI x3), (4, vI x4)] [] σ := by
  unfold F_M_deal_139 at h
  refine A_iinc X (L' := fun y4_1 => [(4, vI y4_1), (0, vR 0), (1, vI a1), (2, vI a2), (3, vI x3)]) 4 rfl (by decide) (fun _ => rfl) dX12_deal_139 (by decide) (fun y4_1 hy => ?_)
  replace h := ltD h y4_1 hy
  clear hy
  refine A_goto X (tgt := 39) (by decide) dX12_deal_142 ?_
  refine A_sub [1, 2, 3, 4, 0] rfl (L' := [(0, vR 0), (1, vI a1), (2, vI a2), (3, vI x3), (4, vI y4_1)]) rfl ?_
  exact hk39 x3 y4_1 σ h
set_option maxRecDepth 100000 in
set_option maxHeartbeats 4000000 in
theorem w_X12_deal_114 {x : aC} {r : Int × Hp} {k39 : Int × Int × Hp → Option (Int × Hp)} {a1 : Int} {a2 : Int} (X : aX x cX12_deal wsX12_deal RX12 6 rm_X12_deal) (E : aE x shM (some .int) 0 r) (hk39 : ∀ (x3 : Int) (x4 : Int) (σ : Hp), k39 (x3, x4, σ) = some r → aS x shM 6 39 [(0, vR 0), (1, vI a1), (2, vI a2), (3, vI x3), (4, vI x4)] [] σ) (x3 : Int) (x4 : Int) (t1 : Int) (σ : Hp) (h : F_M_deal_114 k39 a1 a2 x3 x4 t1 σ = some r) : aS x shM 6 114 [(0, vR 0), (1, vI a1), (2, vI a2), (3, vI x3), (4, vI x4)] [vI t1] σ := by
  unfold F_M_deal_114 at h
  refine A_istore X (L' := [(5, vI t1), (0, vR 0), (1, vI a1), (2, vI a2), (3, vI x3), (4, vI x4)]) (by decide) rfl dX12_deal_114 ?_
  refine A_aload_n X 1 rfl rfl dX12_deal_116 ?_
  refine A_getR X fg_X12_deal_204 shM_0 (k := 63) rfl (by decide) dX12_deal_117 ?_
  refine A_iload X 5 rfl dX12_deal_120 ?_
  obtain ⟨g2, h⟩ := gdD h
  refine A_zald X g2 shM_42 dX12_deal_122 ?_
  refine A_if_eq X (tgt := 139) (by decide) dX12_deal_123 (fun c3 => ?_) (fun c3 => ?_)
  · replace h := ifT h c3
    refine A_sub [1, 2, 3, 4, 5] rfl (L' := [(0, vR 0), (1, vI a1), (2, vI a2), (3, vI x3), (4, vI x4)]) rfl ?_
    exact w_X12_deal_139 (a1 := a1) (a2 := a2) X E hk39 x3 x4 σ h
  · replace h := ifF h c3
    refine A_iload X 5 rfl dX12_deal_126 ?_
    refine A_iload_n X 2 rfl rfl dX12_deal_128 ?_
    refine A_icmp_eq X (tgt := 139) (by decide) dX12_deal_129 (fun c4 => ?_) (fun c4 => ?_)
    · replace h := ifT h c4
      refine A_sub [1, 2, 3, 4, 5] rfl (L' := [(0, vR 0), (1, vI a1), (2, vI a2), (3, vI x3), (4, vI x4)]) rfl ?_
      exact w_X12_deal_139 (a1 := a1) (a2 := a2) X E hk39 x3 x4 σ h
    · replace h := ifF h c4
      refine A_iload X 0 rfl dX12_deal_132 ?_
      refine A_if_eq X (tgt := 139) (by decide) dX12_deal_134 (fun c5 => ?_) (fun c5 => ?_)
      · replace h := ifT h c5
        refine A_sub [1, 2, 3, 4, 5] rfl (L' := [(0, vR 0), (1, vI a1), (2, vI a2), (3, vI x3), (4, vI x4)]) rfl ?_
        exact w_X12_deal_139 (a1 := a1) (a2 := a2) X E hk39 x3 x4 σ h
      · replace h := ifF h c5
        refine A_iconst X dX12_deal_137 (z := 0) (by decide) ?_
        refine A_istore_n X (L' := [(3, vI 0), (5, vI t1), (0, vR 0), (1, vI a1), (2, vI a2), (4, vI x4)]) rfl (by decide) rfl dX12_deal_138 ?_
        refine A_sub [2, 3, 4, 0, 5] rfl (L' := [(0, vR 0), (1, vI a1), (2, vI a2), (3, vI 0), (4, vI x4)]) rfl ?_
        exact w_X12_deal_139 (a1 := a1) (a2 := a2) X E hk39 0 x4 σ h
set_option maxRecDepth 100000 in
set_option maxHeartbeats 4000000 in
theorem w_X12_deal_109 {x : aC} {r : Int × Hp} {k39 : Int × Int × Hp → Option (Int × Hp)} {a1 : Int} {a2 : Int} (X : aX x cX12_deal wsX12_deal RX12 6 rm_X12_deal) (E : aE x shM (some .int) 0 r) (hk39 : ∀ (x3 : Int) (x4 : Int) (σ : Hp), k39 (x3, x4, σ) = some r → aS x shM 6 39 [(0, vR 0), (1, vI a1), (2, vI a2), (3, vI x3), (4, vI x4)] [] σ) (x3 : Int) (x4 : Int) (σ : Hp) (h : F_M_deal_109 k39 a1 a2 x3 x4 σ = some r) : aS x shM 6 109 [(0, vR 0), (1, vI a1), (2, vI a2), (3, vI x3), (4, vI x4)] [] σ := by
  unfold F_M_deal_109 at h
  refine A_iconst X dX12_deal_109 (z := 1) (by decide) ?_
  refine A_goto X (tgt := 114) (by decide) dX12_deal_110 ?_
  exact w_X12_deal_114 (a1 := a1) (a2 := a2) X E hk39 x3 x4 1 σ h
set_option maxRecDepth 100000 in
set_option maxHeartbeats 4000000 in
theorem w_X12_deal_39_b {x : aC} {r : Int × Hp} {k39 : Int × Int × Hp → Option (Int × Hp)} {a1 : Int} {a2 : Int} (X : aX x cX12_deal wsX12_deal RX12 6 rm_X12_deal) (E : aE x shM (some .int) 0 r) (hk39 : ∀ (x3 : Int) (x4 : Int) (σ : Hp), k39 (x3, x4, σ) = some r → aS x shM 6 39 [(0, vR 0), (1, vI a1), (2, vI a2), (3, vI x3), (4, vI x4)] [] σ) (x3 : Int) (x4 : Int) (σ : Hp) (h : F_M_deal_39_b k39 a1 a2 x3 x4 σ = some r) : aS x shM 6 39 [(0, vR 0), (1, vI a1), (2, vI a2), (3, vI x3), (4, vI x4)] [] σ := by
  unfold F_M_deal_39_b at h
  refine A_iload X 4 rfl dX12_deal_39 ?_
  refine A_aload_n X 0 rfl rfl dX12_deal_41 ?_
  refine A_getR X fg_X12_deal_54 shM_0 (k := 14) rfl (by decide) dX12_deal_42 ?_
  refine A_aload_n X 0 rfl rfl dX12_deal_45 ?_
  refine A_getI X fg_X12_deal_48 shM_0 (k := 12) rfl (by decide) dX12_deal_46 ?_
  obtain ⟨g6, h⟩ := gdD h
  refine A_iald X g6 shM_3 dX12_deal_49 ?_
  refine A_icmp_ge X (tgt := 145) (by decide) dX12_deal_50 (fun c7 => ?_) (fun c7 => ?_)
  · replace h := ifT h c7
    refine A_iload_n X 3 rfl rfl dX12_deal_145 ?_
    refine A_if_ne X (tgt := 151) (by decide) dX12_deal_146 (fun c8 => ?_) (fun c8 => ?_)
    · replace h := ifF h c8
      refine A_aload_n X 0 rfl rfl dX12_deal_151 ?_
      refine A_getR X fg_X12_deal_204 shM_0 (k := 63) rfl (by decide) dX12_deal_152 ?_
      refine A_iload_n X 1 rfl rfl dX12_deal_155 ?_
      refine A_iconst X dX12_deal_156 (z := 1) (by decide) ?_
      obtain ⟨g9, h⟩ := gdD h
      refine A_zast X g9 shM_42 dX12_deal_157 (fun s10 hy => ?_)
      replace h := ltD h s10 hy
      clear hy
      refine A_aload_n X 0 rfl rfl dX12_deal_158 ?_
      refine A_getR X fg_X12_deal_207 shM_0 (k := 64) rfl (by decide) dX12_deal_159 ?_
      refine A_iload_n X 1 rfl rfl dX12_deal_162 ?_
      refine A_iload_n X 2 rfl rfl dX12_deal_163 ?_
      obtain ⟨g11, h⟩ := gdD h
      refine A_iast X g11 shM_43 dX12_deal_164 (fun s12 hy => ?_)
      replace h := ltD h s12 hy
      clear hy
      refine A_aload_n X 0 rfl rfl dX12_deal_165 ?_
      obtain ⟨v13, s14, e15, h⟩ := clD h
      refine A_callV_I (na := 0) X (m_X12_deals e15) gX12_deal_X12_deals rfl ⟨rfl, rfl⟩ (by decide +kernel) rfl ⟨Nat.le_of_ble_eq_true rfl, Nat.le_of_ble_eq_true rfl⟩ shM_0 (by decide) rfl rfl (Nat.le_of_ble_eq_true rfl) dX12_deal_166 ?_
      exact A_ireturn X E h dX12_deal_169
    · replace h := ifT h c8
      refine A_iconst X dX12_deal_149 (z := (-1)) (by decide) ?_
      exact A_ireturn X E h dX12_deal_150
  · replace h := ifF h c7
    refine A_aload_n X 0 rfl rfl dX12_deal_53 ?_
    refine A_iload X 4 rfl dX12_deal_54 ?_
    obtain ⟨v16, s17, e18, h⟩ := clD h
    refine A_callV_I (na := 1) X (m_X12_first e18) gX12_deal_X12_first rfl ⟨rfl, rfl⟩ (by decide +kernel) rfl ⟨Nat.le_of_ble_eq_true rfl, Nat.le_of_ble_eq_true rfl⟩ shM_0 (by decide) rfl rfl (Nat.le_of_ble_eq_true rfl) dX12_deal_56 ?_
    refine A_aload_n X 0 rfl rfl dX12_deal_59 ?_
    refine A_iload_n X 1 rfl rfl dX12_deal_60 ?_
    obtain ⟨v19, s20, e21, h⟩ := clD h
    refine A_callV_I (na := 1) X (m_X12_first e21) gX12_deal_X12_first rfl ⟨rfl, rfl⟩ (by decide +kernel) rfl ⟨Nat.le_of_ble_eq_true rfl, Nat.le_of_ble_eq_true rfl⟩ shM_0 (by decide) rfl rfl (Nat.le_of_ble_eq_true rfl) dX12_deal_61 ?_
    refine A_icmp_eq X (tgt := 109) (by decide) dX12_deal_64 (fun c22 => ?_) (fun c22 => ?_)
    · replace h := ifT h c22
      exact w_X12_deal_109 (a1 := a1) (a2 := a2) X E hk39 x3 x4 s20 h
    · replace h := ifF h c22
      refine A_aload_n X 0 rfl rfl dX12_deal_67 ?_
      refine A_iload X 4 rfl dX12_deal_68 ?_
      obtain ⟨v23, s24, e25, h⟩ := clD h
      refine A_callV_I (na := 1) X (m_X12_first e25) gX12_deal_X12_first rfl ⟨rfl, rfl⟩ (by decide +kernel) rfl ⟨Nat.le_of_ble_eq_true rfl, Nat.le_of_ble_eq_true rfl⟩ shM_0 (by decide) rfl rfl (Nat.le_of_ble_eq_true rfl) dX12_deal_70 ?_
      refine A_aload_n X 0 rfl rfl dX12_deal_73 ?_
      refine A_iload_n X 1 rfl rfl dX12_deal_74 ?_
      obtain ⟨v26, s27, e28, h⟩ := clD h
      refine A_callV_I (na := 1) X (m_X12_second e28) gX12_deal_X12_second rfl ⟨rfl, rfl⟩ (by decide +kernel) rfl ⟨Nat.le_of_ble_eq_true rfl, Nat.le_of_ble_eq_true rfl⟩ shM_0 (by decide) rfl rfl (Nat.le_of_ble_eq_true rfl) dX12_deal_75 ?_
      refine A_icmp_eq X (tgt := 109) (by decide) dX12_deal_78 (fun c29 => ?_) (fun c29 => ?_)
      · replace h := ifT h c29
        exact w_X12_deal_109 (a1 := a1) (a2 := a2) X E hk39 x3 x4 s27 h
      · replace h := ifF h c29
        refine A_aload_n X 0 rfl rfl dX12_deal_81 ?_
        refine A_iload X 4 rfl dX12_deal_82 ?_
        obtain ⟨v30, s31, e32, h⟩ := clD h
        refine A_callV_I (na := 1) X (m_X12_second e32) gX12_deal_X12_second rfl ⟨rfl, rfl⟩ (by decide +kernel) rfl ⟨Nat.le_of_ble_eq_true rfl, Nat.le_of_ble_eq_true rfl⟩ shM_0 (by decide) rfl rfl (Nat.le_of_ble_eq_true rfl) dX12_deal_84 ?_
        refine A_aload_n X 0 rfl rfl dX12_deal_87 ?_
        refine A_iload_n X 1 rfl rfl dX12_deal_88 ?_
        obtain ⟨v33, s34, e35, h⟩ := clD h
        refine A_callV_I (na := 1) X (m_X12_first e35) gX12_deal_X12_first rfl ⟨rfl, rfl⟩ (by decide +kernel) rfl ⟨Nat.le_of_ble_eq_true rfl, Nat.le_of_ble_eq_true rfl⟩ shM_0 (by decide) rfl rfl (Nat.le_of_ble_eq_true rfl) dX12_deal_89 ?_
        refine A_icmp_eq X (tgt := 109) (by decide) dX12_deal_92 (fun c36 => ?_) (fun c36 => ?_)
        · replace h := ifT h c36
          exact w_X12_deal_109 (a1 := a1) (a2 := a2) X E hk39 x3 x4 s34 h
        · replace h := ifF h c36
          refine A_aload_n X 0 rfl rfl dX12_deal_95 ?_
          refine A_iload X 4 rfl dX12_deal_96 ?_
          obtain ⟨v37, s38, e39, h⟩ := clD h
          refine A_callV_I (na := 1) X (m_X12_second e39) gX12_deal_X12_second rfl ⟨rfl, rfl⟩ (by decide +kernel) rfl ⟨Nat.le_of_ble_eq_true rfl, Nat.le_of_ble_eq_true rfl⟩ shM_0 (by decide) rfl rfl (Nat.le_of_ble_eq_true rfl) dX12_deal_98 ?_
          refine A_aload_n X 0 rfl rfl dX12_deal_101 ?_
          refine A_iload_n X 1 rfl rfl dX12_deal_102 ?_
          obtain ⟨v40, s41, e42, h⟩ := clD h
          refine A_callV_I (na := 1) X (m_X12_second e42) gX12_deal_X12_second rfl ⟨rfl, rfl⟩ (by decide +kernel) rfl ⟨Nat.le_of_ble_eq_true rfl, Nat.le_of_ble_eq_true rfl⟩ shM_0 (by decide) rfl rfl (Nat.le_of_ble_eq_true rfl) dX12_deal_103 ?_
          refine A_icmp_ne X (tgt := 113) (by decide) dX12_deal_106 (fun c43 => ?_) (fun c43 => ?_)
          · replace h := ifF h c43
            refine A_iconst X dX12_deal_113 (z := 0) (by decide) ?_
            exact w_X12_deal_114 (a1 := a1) (a2 := a2) X E hk39 x3 x4 0 s41 h
          · replace h := ifT h c43
            exact w_X12_deal_109 (a1 := a1) (a2 := a2) X E hk39 x3 x4 s41 h
set_option maxRecDepth 100000 in
set_option maxHeartbeats 4000000 in
theorem w_X12_deal_39 {x : aC} {r : Int × Hp} {a1 : Int} {a2 : Int} (X : aX x cX12_deal wsX12_deal RX12 6 rm_X12_deal) (E : aE x shM (some .int) 0 r) : ∀ (n : Nat) (x3 : Int) (x4 : Int) (σ : Hp) (h : F_M_deal_39 a1 a2 n (x3, x4, σ) = some r), aS x shM 6 39 [(0, vR 0), (1, vI a1), (2, vI a2), (3, vI x3), (4, vI x4)] [] σ := by
  intro n
  induction n with
  | zero => intro x3 x4 σ h; cases h
  | succ n ih => intro x3 x4 σ h; exact w_X12_deal_39_b (a1 := a1) (a2 := a2) (k39 := F_M_deal_39 a1 a2 n) X E ih x3 x4 σ h
set_option maxRecDepth 100000 in
set_option maxHeartbeats 4000000 in
theorem m_X12_deal {l : Launch} {g : aG} {a1 : Int} {a2 : Int} {σ : Hp} {r : Int × Hp} (h : F_M_deal a1 a2 σ = some r) : aMet l g shM yX12_deal wsX12_deal rm_X12_deal [vR 0, vI a1, vI a2] σ 0 r := by
  unfold F_M_deal at h
  refine aMet_of (bytes := cX12_deal) (maxL := 6) (ret := (some .int)) (by decide +kernel) rfl (Nat.le_of_ble_eq_true rfl) ⟨rfl, rfl⟩ (fun x e1 e2 X E => ?_)
  subst e1; subst e2
  have X : aX x cX12_deal wsX12_deal RX12 6 rm_X12_deal := X
  show aS x shM 6 0 [(0, vR 0), (1, vI a1), (2, vI a2)] [] σ
  refine A_aload_n X 0 rfl rfl dX12_deal_0 ?_
  refine A_iload_n X 1 rfl rfl dX12_deal_1 ?_
  obtain ⟨v44, s45, e46, h⟩ := clD h
  refine A_callV_I (na := 1) X (m_X12_isRoad e46) gX12_deal_X12_isRoad rfl ⟨rfl, rfl⟩ (by decide +kernel) rfl ⟨Nat.le_of_ble_eq_true rfl, Nat.le_of_ble_eq_true rfl⟩ shM_0 (by decide) rfl rfl (Nat.le_of_ble_eq_true rfl) dX12_deal_2 ?_
  refine A_if_eq X (tgt := 21) (by decide) dX12_deal_5 (fun c47 => ?_) (fun c47 => ?_)
  · replace h := ifT h c47
    refine A_sub [] rfl (L' := []) rfl ?_
    exact w_X12_deal_21 (a1 := a1) (a2 := a2) X E s45 h
  · replace h := ifF h c47
    refine A_iload_n X 2 rfl rfl dX12_deal_8 ?_
    refine A_ldcw X (v := (-1000000)) (List.mem_of_getElem? (i := 1) rfl) dX12_deal_9 (z := (-1000000)) (by decide) ?_
    refine A_ldcw X (v := (1000000)) (List.mem_of_getElem? (i := 2) rfl) dX12_deal_12 (z := 1000000) (by decide) ?_
    obtain ⟨v48, s49, e50, h⟩ := clD h
    refine A_callS_I (na := 3) X (m_X12_is e50) gX12_deal_X12_is rfl ⟨rfl, rfl⟩ (by decide +kernel) rfl ⟨Nat.le_of_ble_eq_true rfl, Nat.le_of_ble_eq_true rfl⟩ rfl (Nat.le_of_ble_eq_true rfl) dX12_deal_15 ?_
    refine A_if_ne X (tgt := 23) (by decide) dX12_deal_18 (fun c51 => ?_) (fun c51 => ?_)
    · replace h := ifF h c51
      refine A_aload_n X 0 rfl rfl dX12_deal_23 ?_
      refine A_iconst X dX12_deal_24 (z := (-1)) (by decide) ?_
      refine A_iconst X dX12_deal_25 (z := 0) (by decide) ?_
      obtain ⟨v52, s53, e54, h⟩ := clD h
      refine A_callV_V (na := 2) X (m_X12_lays e54) gX12_deal_X12_lays rfl ⟨rfl, rfl⟩ (by decide +kernel) rfl ⟨Nat.le_of_ble_eq_true rfl, Nat.le_of_ble_eq_true rfl⟩ shM_0 (by decide) rfl rfl (Nat.le_of_ble_eq_true rfl) dX12_deal_26 ?_
      refine A_aload_n X 0 rfl rfl dX12_deal_29 ?_
      refine A_getR X fg_X12_deal_162 shM_0 (k := 49) rfl (by decide) dX12_deal_30 ?_
      refine A_iload_n X 1 rfl rfl dX12_deal_33 ?_
      obtain ⟨g55, h⟩ := gdD h
      refine A_zald X g55 shM_29 dX12_deal_34 ?_
      refine A_istore_nN X (L' := fun y3_56 => [(3, vI y3_56), (0, vR 0), (1, vI a1), (2, vI a2)]) rfl (by decide) (fun _ => rfl) dX12_deal_35 (fun y3_56 hy => ?_)
      replace h := ltD h y3_56 hy
      clear hy
      refine A_iconst X dX12_deal_36 (z := 0) (by decide) ?_
      refine A_istore X (L' := [(4, vI 0), (3, vI y3_56), (0, vR 0), (1, vI a1), (2, vI a2)]) (by decide) rfl dX12_deal_37 ?_
      refine A_sub [2, 3, 4, 1, 0] rfl (L' := [(0, vR 0), (1, vI a1), (2, vI a2), (3, vI y3_56), (4, vI 0)]) rfl ?_
      exact w_X12_deal_39 (a1 := a1) (a2 := a2) X E FU y3_56 0 s53 h
    · replace h := ifT h c51
      refine A_sub [] rfl (L' := []) rfl ?_
      exact w_X12_deal_21 (a1 := a1) (a2 := a2) X E s49 h
abbrev rm_X12_dealRow : Room := { frames := 5, cells := 0, slots := 0, locals := 123 }
theorem in_X12_dealRow_12 : ∀ w ∈ u_ws RX12 TX12 75, w ∈ wsX12_dealRow := fun w h => List.mem_cons_of_mem _ (List.mem_append_right _ h)
theorem fg_X12_dealRow_183 : aFl wsX12_dealRow RX12 183 12 56 := ⟨RX12, TX12, 75, rfl, in_X12_dealRow_12, by decide, (List.mem_of_getElem? (i := 2) rfl), rfl⟩
theorem fg_X12_dealRow_204 : aFl wsX12_dealRow RX12 204 12 63 := ⟨RX12, TX12, 75, rfl, in_X12_dealRow_12, by decide, (List.mem_of_getElem? (i := 1) rfl), rfl⟩
theorem fg_X12_dealRow_186 : aFl wsX12_dealRow RX12 186 12 57 := ⟨RX12, TX12, 75, rfl, in_X12_dealRow_12, by decide, (List.mem_of_getElem? (i := 3) rfl), rfl⟩
theorem fg_X12_dealRow_207 : aFl wsX12_dealRow RX12 207 12 64 := ⟨RX12, TX12, 75, rfl, in_X12_dealRow_12, by decide, (List.mem_of_getElem? (i := 4) rfl), rfl⟩
set_option maxRecDepth 100000 in
set_option maxHeartbeats 4000000 in
theorem w_X12_dealRow_33_b {x : aC} {r : Int × Hp} {k33 : Int × Hp → Option (Int × Hp)} (X : aX x cX12_dealRow wsX12_dealRow RX12 2 rm_X12_dealRow) (E : aE x shM (some .int) 0 r) (hk33 : ∀ (x1 : Int) (σ : Hp), k33 (x1, σ) = some r → aS x shM 2 33 [(0, vR 0), (1, vI x1)] [] σ) (x1 : Int) (σ : Hp) (h : F_M_dealRow_33_b k33 x1 σ = some r) : aS x shM 2 33 [(0, vR 0), (1, vI x1)] [] σ := by
  unfold F_M_dealRow_33_b at h
  refine A_iload_n X 1 rfl rfl dX12_dealRow_33 ?_
  refine A_aload_n X 0 rfl rfl dX12_dealRow_34 ?_
  refine A_getI X fg_X12_dealRow_183 shM_0 (k := 56) rfl (by decide) dX12_dealRow_35 ?_
  refine A_icmp_ge X (tgt := 97) (by decide) dX12_dealRow_38 (fun c1 => ?_) (fun c1 => ?_)
  · replace h := ifT h c1
    refine A_aload_n X 0 rfl rfl dX12_dealRow_97 ?_
    refine A_getI X fg_X12_dealRow_183 shM_0 (k := 56) rfl (by decide) dX12_dealRow_98 ?_
    exact A_ireturn X E h dX12_dealRow_101
  · replace h := ifF h c1
    refine A_aload_n X 0 rfl rfl dX12_dealRow_41 ?_
    refine A_getR X fg_X12_dealRow_204 shM_0 (k := 63) rfl (by decide) dX12_dealRow_42 ?_
    refine A_aload_n X 0 rfl rfl dX12_dealRow_45 ?_
    refine A_getR X fg_X12_dealRow_186 shM_0 (k := 57) rfl (by decide) dX12_dealRow_46 ?_
    refine A_iload_n X 1 rfl rfl dX12_dealRow_49 ?_
    obtain ⟨g2, h⟩ := gdD h
    refine A_iald X g2 shM_36 dX12_dealRow_50 ?_
    refine A_iconst X dX12_dealRow_51 (z := 1) (by decide) ?_
    obtain ⟨g3, h⟩ := gdD h
    refine A_zast X g3 shM_42 dX12_dealRow_52 (fun s4 hy => ?_)
    replace h := ltD h s4 hy
    clear hy
    refine A_aload_n X 0 rfl rfl dX12_dealRow_53 ?_
    refine A_getR X fg_X12_dealRow_207 shM_0 (k := 64) rfl (by decide) dX12_dealRow_54 ?_
    refine A_aload_n X 0 rfl rfl dX12_dealRow_57 ?_
    refine A_getR X fg_X12_dealRow_186 shM_0 (k := 57) rfl (by decide) dX12_dealRow_58 ?_
    refine A_iload_n X 1 rfl rfl dX12_dealRow_61 ?_
    obtain ⟨g5, h⟩ := gdD h
    refine A_iald X g5 shM_36 dX12_dealRow_62 ?_
    refine A_aload_n X 0 rfl rfl dX12_dealRow_63 ?_
    refine A_aload_n X 0 rfl rfl dX12_dealRow_64 ?_
    refine A_aload_n X 0 rfl rfl dX12_dealRow_65 ?_
    refine A_getR X fg_X12_dealRow_186 shM_0 (k := 57) rfl (by decide) dX12_dealRow_66 ?_
    refine A_iload_n X 1 rfl rfl dX12_dealRow_69 ?_
    obtain ⟨g6, h⟩ := gdD h
    refine A_iald X g6 shM_36 dX12_dealRow_70 ?_
    obtain ⟨v7, s8, e9, h⟩ := clD h
    refine A_callV_I (na := 1) X (m_X12_first e9) gX12_dealRow_X12_first rfl ⟨rfl, rfl⟩ (by decide +kernel) rfl ⟨Nat.le_of_ble_eq_true rfl, Nat.le_of_ble_eq_true rfl⟩ shM_0 (by decide) rfl rfl (Nat.le_of_ble_eq_true rfl) dX12_dealRow_71 ?_
    obtain ⟨v10, s11, e12, h⟩ := clD h
    refine A_callV_I (na := 1) X (m_X12_aloneOf e12) gX12_dealRow_X12_aloneOf rfl ⟨rfl, rfl⟩ (by decide +kernel) rfl ⟨Nat.le_of_ble_eq_true rfl, Nat.le_of_ble_eq_true rfl⟩ shM_0 (by decide) rfl rfl (Nat.le_of_ble_eq_true rfl) dX12_dealRow_74 ?_
    refine A_aload_n X 0 rfl rfl dX12_dealRow_77 ?_
    refine A_aload_n X 0 rfl rfl dX12_dealRow_78 ?_
    refine A_getR X fg_X12_dealRow_186 shM_0 (k := 57) rfl (by decide) dX12_dealRow_79 ?_
    refine A_iload_n X 1 rfl rfl dX12_dealRow_82 ?_
    obtain ⟨g13, h⟩ := gdD h
    refine A_iald X g13 shM_36 dX12_dealRow_83 ?_
    obtain ⟨v14, s15, e16, h⟩ := clD h
    refine A_callV_I (na := 1) X (m_X12_gainOf e16) gX12_dealRow_X12_gainOf rfl ⟨rfl, rfl⟩ (by decide +kernel) rfl ⟨Nat.le_of_ble_eq_true rfl, Nat.le_of_ble_eq_true rfl⟩ shM_0 (by decide) rfl rfl (Nat.le_of_ble_eq_true rfl) dX12_dealRow_84 ?_
    refine A_iconst X dX12_dealRow_87 (z := 2) (by decide) ?_
    refine A_idiv X (by decide) dX12_dealRow_88 ?_
    refine A_iadd X dX12_dealRow_89 ?_
    obtain ⟨g17, h⟩ := gdD h
    refine A_iast X g17 shM_43 dX12_dealRow_90 (fun s18 hy => ?_)
    replace h := ltD h s18 hy
    clear hy
    refine A_iinc X (L' := fun y1_19 => [(1, vI y1_19), (0, vR 0)]) 1 rfl (by decide) (fun _ => rfl) dX12_dealRow_91 (by decide) (fun y1_19 hy => ?_)
    replace h := ltD h y1_19 hy
    clear hy
    refine A_goto X (tgt := 33) (by decide) dX12_dealRow_94 ?_
    refine A_sub [1, 0] rfl (L' := [(0, vR 0), (1, vI y1_19)]) rfl ?_
    exact hk33 y1_19 s18 h
set_option maxRecDepth 100000 in
set_option maxHeartbeats 4000000 in
theorem w_X12_dealRow_33 {x : aC} {r : Int × Hp} (X : aX x cX12_dealRow wsX12_dealRow RX12 2 rm_X12_dealRow) (E : aE x shM (some .int) 0 r) : ∀ (n : Nat) (x1 : Int) (σ : Hp) (h : F_M_dealRow_33 n (x1, σ) = some r), aS x shM 2 33 [(0, vR 0), (1, vI x1)] [] σ := by
  intro n
  induction n with
  | zero => intro x1 σ h; cases h
  | succ n ih => intro x1 σ h; exact w_X12_dealRow_33_b (k33 := F_M_dealRow_33 n) X E ih x1 σ h
set_option maxRecDepth 100000 in
set_option maxHeartbeats 4000000 in
theorem w_X12_dealRow_12_b {x : aC} {r : Int × Hp} {k12 : Int × Hp → Option (Int × Hp)} (X : aX x cX12_dealRow wsX12_dealRow RX12 2 rm_X12_dealRow) (E : aE x shM (some .int) 0 r) (hk12 : ∀ (x1 : Int) (σ : Hp), k12 (x1, σ) = some r → aS x shM 2 12 [(0, vR 0), (1, vI x1)] [] σ) (x1 : Int) (σ : Hp) (h : F_M_dealRow_12_b k12 x1 σ = some r) : aS x shM 2 12 [(0, vR 0), (1, vI x1)] [] σ := by
  unfold F_M_dealRow_12_b at h
  refine A_iload_n X 1 rfl rfl dX12_dealRow_12 ?_
  refine A_bipush X dX12_dealRow_13 (z := 30) (by decide) ?_
  refine A_icmp_ge X (tgt := 31) (by decide) dX12_dealRow_15 (fun c20 => ?_) (fun c20 => ?_)
  · replace h := ifT h c20
    refine A_iconst X dX12_dealRow_31 (z := 0) (by decide) ?_
    refine A_istore_n X (L' := [(1, vI 0), (0, vR 0)]) rfl (by decide) rfl dX12_dealRow_32 ?_
    refine A_sub [1, 0] rfl (L' := [(0, vR 0), (1, vI 0)]) rfl ?_
    exact w_X12_dealRow_33 X E FU 0 σ h
  · replace h := ifF h c20
    refine A_aload_n X 0 rfl rfl dX12_dealRow_18 ?_
    refine A_getR X fg_X12_dealRow_204 shM_0 (k := 63) rfl (by decide) dX12_dealRow_19 ?_
    refine A_iload_n X 1 rfl rfl dX12_dealRow_22 ?_
    refine A_iconst X dX12_dealRow_23 (z := 0) (by decide) ?_
    obtain ⟨g21, h⟩ := gdD h
    refine A_zast X g21 shM_42 dX12_dealRow_24 (fun s22 hy => ?_)
    replace h := ltD h s22 hy
    clear hy
    refine A_iinc X (L' := fun y1_23 => [(1, vI y1_23), (0, vR 0)]) 1 rfl (by decide) (fun _ => rfl) dX12_dealRow_25 (by decide) (fun y1_23 hy => ?_)
    replace h := ltD h y1_23 hy
    clear hy
    refine A_goto X (tgt := 12) (by decide) dX12_dealRow_28 ?_
    refine A_sub [1, 0] rfl (L' := [(0, vR 0), (1, vI y1_23)]) rfl ?_
    exact hk12 y1_23 s22 h
set_option maxRecDepth 100000 in
set_option maxHeartbeats 4000000 in
theorem w_X12_dealRow_12 {x : aC} {r : Int × Hp} (X : aX x cX12_dealRow wsX12_dealRow RX12 2 rm_X12_dealRow) (E : aE x shM (some .int) 0 r) : ∀ (n : Nat) (x1 : Int) (σ : Hp) (h : F_M_dealRow_12 n (x1, σ) = some r), aS x shM 2 12 [(0, vR 0), (1, vI x1)] [] σ := by
  intro n
  induction n with
  | zero => intro x1 σ h; cases h
  | succ n ih => intro x1 σ h; exact w_X12_dealRow_12_b (k12 := F_M_dealRow_12 n) X E ih x1 σ h
set_option maxRecDepth 100000 in
set_option maxHeartbeats 4000000 in
theorem m_X12_dealRow {l : Launch} {g : aG} {σ : Hp} {r : Int × Hp} (h : F_M_dealRow σ = some r) : aMet l g shM yX12_dealRow wsX12_dealRow rm_X12_dealRow [vR 0] σ 0 r := by
  unfold F_M_dealRow at h
  refine aMet_of (bytes := cX12_dealRow) (maxL := 2) (ret := (some .int)) (by decide +kernel) rfl (Nat.le_of_ble_eq_true rfl) ⟨rfl, rfl⟩ (fun x e1 e2 X E => ?_)
  subst e1; subst e2
  have X : aX x cX12_dealRow wsX12_dealRow RX12 2 rm_X12_dealRow := X
  show aS x shM 2 0 [(0, vR 0)] [] σ
  refine A_aload_n X 0 rfl rfl dX12_dealRow_0 ?_
  refine A_iconst X dX12_dealRow_1 (z := (-1)) (by decide) ?_
  refine A_iconst X dX12_dealRow_2 (z := 0) (by decide) ?_
  obtain ⟨v24, s25, e26, h⟩ := clD h
  refine A_callV_V (na := 2) X (m_X12_lays e26) gX12_dealRow_X12_lays rfl ⟨rfl, rfl⟩ (by decide +kernel) rfl ⟨Nat.le_of_ble_eq_true rfl, Nat.le_of_ble_eq_true rfl⟩ shM_0 (by decide) rfl rfl (Nat.le_of_ble_eq_true rfl) dX12_dealRow_3 ?_
  refine A_aload_n X 0 rfl rfl dX12_dealRow_6 ?_
  obtain ⟨v27, s28, e29, h⟩ := clD h
  refine A_callV_V (na := 0) X (m_X12_finds e29) gX12_dealRow_X12_finds rfl ⟨rfl, rfl⟩ (by decide +kernel) rfl ⟨Nat.le_of_ble_eq_true rfl, Nat.le_of_ble_eq_true rfl⟩ shM_0 (by decide) rfl rfl (Nat.le_of_ble_eq_true rfl) dX12_dealRow_7 ?_
  refine A_iconst X dX12_dealRow_10 (z := 0) (by decide) ?_
  refine A_istore_n X (L' := [(1, vI 0), (0, vR 0)]) rfl (by decide) rfl dX12_dealRow_11 ?_
  refine A_sub [1, 0] rfl (L' := [(0, vR 0), (1, vI 0)]) rfl ?_
  exact w_X12_dealRow_12 X E FU 0 s28 h
abbrev rm_X12_doubles : Room := { frames := 1, cells := 0, slots := 0, locals := 20 }
theorem in_X12_doubles_12 : ∀ w ∈ u_ws RX12 TX12 75, w ∈ wsX12_doubles := fun w h => List.mem_cons_of_mem _ (List.mem_append_right _ h)
theorem fg_X12_doubles_51 : aFl wsX12_doubles RX12 51 12 13 := ⟨RX12, TX12, 75, rfl, in_X12_doubles_12, by decide, (List.mem_of_getElem? (i := 2) rfl), rfl⟩
theorem fg_X12_doubles_48 : aFl wsX12_doubles RX12 48 12 12 := ⟨RX12, TX12, 75, rfl, in_X12_doubles_12, by decide, (List.mem_of_getElem? (i := 3) rfl), rfl⟩
theorem fg_X12_doubles_180 : aFl wsX12_doubles RX12 180 12 55 := ⟨RX12, TX12, 75, rfl, in_X12_doubles_12, by decide, (List.mem_of_getElem? (i := 4) rfl), rfl⟩
theorem fg_X12_doubles_177 : aFl wsX12_doubles RX12 177 12 54 := ⟨RX12, TX12, 75, rfl, in_X12_doubles_12, by decide, (List.mem_of_getElem? (i := 1) rfl), rfl⟩
set_option maxRecDepth 100000 in
set_option maxHeartbeats 4000000 in
theorem w_X12_doubles_170 {x : aC} {r : Int × Hp} {k79 : Int × Int × Int × Hp → Option (Int × Hp)} {a1 : Nat} (X : aX x cX12_doubles wsX12_doubles RX12 6 rm_X12_doubles) (E : aE x shM (some .int) 0 r) (hk79 : ∀ (x2 : Int) (x3 : Int) (x4 : Int) (σ : Hp), k79 (x2, x3, x4, σ) = some r → aS x shM 6 79 [(0, vR 0), (1, vR a1), (2, vI x2), (3, vI x3), (4, vI x4)] [] σ) (ha1 : iaB shM a1 = true) (x2 : Int) (x3 : Int) (x4 : Int) (σ : Hp) (h : F_M_doubles_170 k79 a1 x2 x3 x4 σ = some r) : aS x shM 6 170 [(0, vR 0), (1, vR a1), (2, vI x2), (3, vI x3), (4, vI x4)] [] σ := by
  unfold F_M_doubles_170 at h
  refine A_iinc X (L' := fun y4_1 => [(4, vI y4_1), (0, vR 0), (1, vR a1), (2, vI x2), (3, vI x3)]) 4 rfl (by decide) (fun _ => rfl) dX12_doubles_170 (by decide) (fun y4_1 hy => ?_)
  replace h := ltD h y4_1 hy
  clear hy
  refine A_goto X (tgt := 79) (by decide) dX12_doubles_173 ?_
  refine A_sub [1, 2, 3, 4, 0] rfl (L' := [(0, vR 0), (1, vR a1), (2, vI x2), (3, vI x3), (4, vI y4_1)]) rfl ?_
  exact hk79 x2 x3 y4_1 σ h
set_option maxRecDepth 100000 in
set_option maxHeartbeats 4000000 in
theorem w_X12_doubles_169 {x : aC} {r : Int × Hp} {k79 : Int × Int × Int × Hp → Option (Int × Hp)} {a1 : Nat} (X : aX x cX12_doubles wsX12_doubles RX12 6 rm_X12_doubles) (E : aE x shM (some .int) 0 r) (hk79 : ∀ (x2 : Int) (x3 : Int) (x4 : Int) (σ : Hp), k79 (x2, x3, x4, σ) = some r → aS x shM 6 79 [(0, vR 0), (1, vR a1), (2, vI x2), (3, vI x3), (4, vI x4)] [] σ) (ha1 : iaB shM a1 = true) (x2 : Int) (x3 : Int) (x4 : Int) (t3 : Int) (t2 : Int) (σ : Hp) (h : F_M_doubles_169 k79 a1 x2 x3 x4 t3 t2 σ = some r) : aS x shM 6 169 [(0, vR 0), (1, vR a1), (2, vI x2), (3, vI x3), (4, vI x4)] [vI t3, vI t2, vR 34] σ := by
  unfold F_M_doubles_169 at h
  obtain ⟨g2, h⟩ := gdD h
  refine A_iast X g2 shM_34 dX12_doubles_169 (fun s3 hy => ?_)
  replace h := ltD h s3 hy
  clear hy
  exact w_X12_doubles_170 (a1 := a1) X E hk79 ha1 x2 x3 x4 s3 h
set_option maxRecDepth 100000 in
set_option maxHeartbeats 4000000 in
theorem w_X12_doubles_79_b {x : aC} {r : Int × Hp} {k68 : Int × Int × Hp → Option (Int × Hp)} {k79 : Int × Int × Int × Hp → Option (Int × Hp)} {a1 : Nat} (X : aX x cX12_doubles wsX12_doubles RX12 6 rm_X12_doubles) (E : aE x shM (some .int) 0 r) (hk68 : ∀ (x2 : Int) (x3 : Int) (σ : Hp), k68 (x2, x3, σ) = some r → aS x shM 6 68 [(0, vR 0), (1, vR a1), (2, vI x2), (3, vI x3)] [] σ) (hk79 : ∀ (x2 : Int) (x3 : Int) (x4 : Int) (σ : Hp), k79 (x2, x3, x4, σ) = some r → aS x shM 6 79 [(0, vR 0), (1, vR a1), (2, vI x2), (3, vI x3), (4, vI x4)] [] σ) (ha1 : iaB shM a1 = true) (x2 : Int) (x3 : Int) (x4 : Int) (σ : Hp) (h : F_M_doubles_79_b k68 k79 a1 x2 x3 x4 σ = some r) : aS x shM 6 79 [(0, vR 0), (1, vR a1), (2, vI x2), (3, vI x3), (4, vI x4)] [] σ := by
  unfold F_M_doubles_79_b at h
  refine A_iload X 4 rfl dX12_doubles_79 ?_
  refine A_aload_n X 0 rfl rfl dX12_doubles_81 ?_
  refine A_getR X fg_X12_doubles_51 shM_0 (k := 13) rfl (by decide) dX12_doubles_82 ?_
  refine A_aload_n X 0 rfl rfl dX12_doubles_85 ?_
  refine A_getI X fg_X12_doubles_48 shM_0 (k := 12) rfl (by decide) dX12_doubles_86 ?_
  obtain ⟨g4, h⟩ := gdD h
  refine A_iald X g4 shM_2 dX12_doubles_89 ?_
  refine A_icmp_ge X (tgt := 176) (by decide) dX12_doubles_90 (fun c5 => ?_) (fun c5 => ?_)
  · replace h := ifT h c5
    refine A_iinc X (L' := fun y3_6 => [(3, vI y3_6), (0, vR 0), (1, vR a1), (2, vI x2), (4, vI x4)]) 3 rfl (by decide) (fun _ => rfl) dX12_doubles_176 (by decide) (fun y3_6 hy => ?_)
    replace h := ltD h y3_6 hy
    clear hy
    refine A_goto X (tgt := 68) (by decide) dX12_doubles_179 ?_
    refine A_sub [1, 2, 3, 0] rfl (L' := [(0, vR 0), (1, vR a1), (2, vI x2), (3, vI y3_6)]) rfl ?_
    exact hk68 x2 y3_6 σ h
  · replace h := ifF h c5
    refine A_iload_n X 3 rfl rfl dX12_doubles_93 ?_
    refine A_iload X 4 rfl dX12_doubles_94 ?_
    refine A_ishr X dX12_doubles_96 ?_
    refine A_iconst X dX12_doubles_97 (z := 1) (by decide) ?_
    refine A_iand X dX12_doubles_98 ?_
    refine A_if_eq X (tgt := 170) (by decide) dX12_doubles_99 (fun c7 => ?_) (fun c7 => ?_)
    · replace h := ifT h c7
      exact w_X12_doubles_170 (a1 := a1) X E hk79 ha1 x2 x3 x4 σ h
    · replace h := ifF h c7
      refine A_aload_n X 1 rfl rfl dX12_doubles_102 ?_
      refine A_bipush X dX12_doubles_103 (z := 12) (by decide) ?_
      refine A_iload_n X 2 rfl rfl dX12_doubles_105 ?_
      refine A_imul X dX12_doubles_106 ?_
      refine A_iload X 4 rfl dX12_doubles_107 ?_
      refine A_iadd X dX12_doubles_109 ?_
      obtain ⟨g8, h⟩ := gdD h
      refine A_iald X g8 (iaB_sh ha1) dX12_doubles_110 ?_
      refine A_if_ne X (tgt := 117) (by decide) dX12_doubles_111 (fun c9 => ?_) (fun c9 => ?_)
      · replace h := ifF h c9
        refine A_aload_n X 1 rfl rfl dX12_doubles_117 ?_
        refine A_bipush X dX12_doubles_118 (z := 12) (by decide) ?_
        refine A_iload_n X 2 rfl rfl dX12_doubles_120 ?_
        refine A_imul X dX12_doubles_121 ?_
        refine A_iload X 4 rfl dX12_doubles_122 ?_
        refine A_iadd X dX12_doubles_124 ?_
        obtain ⟨g10, h⟩ := gdD h
        refine A_iald X g10 (iaB_sh ha1) dX12_doubles_125 ?_
        refine A_aload_n X 0 rfl rfl dX12_doubles_126 ?_
        refine A_getR X fg_X12_doubles_180 shM_0 (k := 55) rfl (by decide) dX12_doubles_127 ?_
        refine A_iload_n X 3 rfl rfl dX12_doubles_130 ?_
        refine A_iconst X dX12_doubles_131 (z := 1) (by decide) ?_
        refine A_iload X 4 rfl dX12_doubles_132 ?_
        refine A_ishl X dX12_doubles_134 ?_
        refine A_iconst X dX12_doubles_135 (z := (-1)) (by decide) ?_
        refine A_ixor X dX12_doubles_136 ?_
        refine A_iand X dX12_doubles_137 ?_
        obtain ⟨g11, h⟩ := gdD h
        refine A_iald X g11 shM_35 dX12_doubles_138 ?_
        refine A_iadd X dX12_doubles_139 ?_
        refine A_istoreN X (L' := fun y5_12 => [(5, vI y5_12), (0, vR 0), (1, vR a1), (2, vI x2), (3, vI x3), (4, vI x4)]) (by decide) (fun _ => rfl) dX12_doubles_140 (fun y5_12 hy => ?_)
        replace h := ltD h y5_12 hy
        clear hy
        refine A_aload_n X 1 rfl rfl dX12_doubles_142 ?_
        refine A_getR X fg_X12_doubles_177 shM_0 (k := 54) rfl (by decide) dX12_doubles_143 ?_
        refine A_iload_n X 4 rfl rfl dX12_doubles_146 ?_
        refine A_iload X 0 rfl dX12_doubles_147 ?_
        refine A_aload_n X 1 rfl rfl dX12_doubles_149 ?_
        refine A_getR X fg_X12_doubles_177 shM_0 (k := 54) rfl (by decide) dX12_doubles_150 ?_
        refine A_iload_n X 4 rfl rfl dX12_doubles_153 ?_
        obtain ⟨g13, h⟩ := gdD h
        refine A_iald X g13 shM_34 dX12_doubles_154 ?_
        refine A_icmp_le X (tgt := 163) (by decide) dX12_doubles_155 (fun c14 => ?_) (fun c14 => ?_)
        · replace h := ifT h c14
          refine A_aload_n X 1 rfl rfl dX12_doubles_163 ?_
          refine A_getR X fg_X12_doubles_177 shM_0 (k := 54) rfl (by decide) dX12_doubles_164 ?_
          refine A_iload_n X 4 rfl rfl dX12_doubles_167 ?_
          obtain ⟨g15, h⟩ := gdD h
          refine A_iald X g15 shM_34 dX12_doubles_168 ?_
          refine A_sub [1, 2, 3, 4, 5] rfl (L' := [(0, vR 0), (1, vR a1), (2, vI x2), (3, vI x3), (4, vI x4)]) rfl ?_
          exact w_X12_doubles_169 (a1 := a1) X E hk79 ha1 x2 x3 x4 (σ 34 x3.toNat) x3 σ h
        · replace h := ifF h c14
          refine A_iload X 0 rfl dX12_doubles_158 ?_
          refine A_goto X (tgt := 169) (by decide) dX12_doubles_160 ?_
          refine A_sub [1, 2, 3, 4, 5] rfl (L' := [(0, vR 0), (1, vR a1), (2, vI x2), (3, vI x3), (4, vI x4)]) rfl ?_
          exact w_X12_doubles_169 (a1 := a1) X E hk79 ha1 x2 x3 x4 y5_12 x3 σ h
      · replace h := ifT h c9
        refine A_goto X (tgt := 170) (by decide) dX12_doubles_114 ?_
        exact w_X12_doubles_170 (a1 := a1) X E hk79 ha1 x2 x3 x4 σ h
set_option maxRecDepth 100000 in
set_option maxHeartbeats 4000000 in
theorem w_X12_doubles_79 {x : aC} {r : Int × Hp} {k68 : Int × Int × Hp → Option (Int × Hp)} {a1 : Nat} (X : aX x cX12_doubles wsX12_doubles RX12 6 rm_X12_doubles) (E : aE x shM (some .int) 0 r) (hk68 : ∀ (x2 : Int) (x3 : Int) (σ : Hp), k68 (x2, x3, σ) = some r → aS x shM 6 68 [(0, vR 0), (1, vR a1), (2, vI x2), (3, vI x3)] [] σ) (ha1 : iaB shM a1 = true) : ∀ (n : Nat) (x2 : Int) (x3 : Int) (x4 : Int) (σ : Hp) (h : F_M_doubles_79 k68 a1 n (x2, x3, x4, σ) = some r), aS x shM 6 79 [(0, vR 0), (1, vR a1), (2, vI x2), (3, vI x3), (4, vI x4)] [] σ := by
  intro n
  induction n with
  | zero => intro x2 x3 x4 σ h; cases h
  | succ n ih => intro x2 x3 x4 σ h; exact w_X12_doubles_79_b (a1 := a1) (k79 := F_M_doubles_79 k68 a1 n) X E hk68 ih ha1 x2 x3 x4 σ h
set_option maxRecDepth 100000 in
set_option maxHeartbeats 4000000 in
theorem w_X12_doubles_68_b {x : aC} {r : Int × Hp} {k25 : Int × Hp → Option (Int × Hp)} {k68 : Int × Int × Hp → Option (Int × Hp)} {a1 : Nat} (X : aX x cX12_doubles wsX12_doubles RX12 6 rm_X12_doubles) (E : aE x shM (some .int) 0 r) (hk25 : ∀ (x2 : Int) (σ : Hp), k25 (x2, σ) = some r → aS x shM 6 25 [(0, vR 0), (1, vR a1), (2, vI x2)] [] σ) (hk68 : ∀ (x2 : Int) (x3 : Int) (σ : Hp), k68 (x2, x3, σ) = some r → aS x shM 6 68 [(0, vR 0), (1, vR a1), (2, vI x2), (3, vI x3)] [] σ) (ha1 : iaB shM a1 = true) (x2 : Int) (x3 : Int) (σ : Hp) (h : F_M_doubles_68_b k25 k68 a1 x2 x3 σ = some r) : aS x shM 6 68 [(0, vR 0), (1, vR a1), (2, vI x2), (3, vI x3)] [] σ := by
  unfold F_M_doubles_68_b at h
  refine A_iload_n X 3 rfl rfl dX12_doubles_68 ?_
  refine A_aload_n X 0 rfl rfl dX12_doubles_69 ?_
  obtain ⟨v16, s17, e18, h⟩ := clD h
  refine A_callV_I (na := 0) X (m_X12_all e18) gX12_doubles_X12_all rfl ⟨rfl, rfl⟩ (by decide +kernel) rfl ⟨Nat.le_of_ble_eq_true rfl, Nat.le_of_ble_eq_true rfl⟩ shM_0 (by decide) rfl rfl (Nat.le_of_ble_eq_true rfl) dX12_doubles_70 ?_
  refine A_icmp_gt X (tgt := 182) (by decide) dX12_doubles_73 (fun c19 => ?_) (fun c19 => ?_)
  · replace h := ifT h c19
    refine A_iinc X (L' := fun y2_20 => [(2, vI y2_20), (0, vR 0), (1, vR a1), (3, vI x3)]) 2 rfl (by decide) (fun _ => rfl) dX12_doubles_182 (by decide) (fun y2_20 hy => ?_)
    replace h := ltD h y2_20 hy
    clear hy
    refine A_goto X (tgt := 25) (by decide) dX12_doubles_185 ?_
    refine A_sub [1, 2, 0] rfl (L' := [(0, vR 0), (1, vR a1), (2, vI y2_20)]) rfl ?_
    exact hk25 y2_20 s17 h
  · replace h := ifF h c19
    refine A_iconst X dX12_doubles_76 (z := 0) (by decide) ?_
    refine A_istore X (L' := [(4, vI 0), (0, vR 0), (1, vR a1), (2, vI x2), (3, vI x3)]) (by decide) rfl dX12_doubles_77 ?_
    refine A_sub [1, 2, 3, 4, 0] rfl (L' := [(0, vR 0), (1, vR a1), (2, vI x2), (3, vI x3), (4, vI 0)]) rfl ?_
    exact w_X12_doubles_79 (a1 := a1) X E hk68 ha1 FU x2 x3 0 s17 h
set_option maxRecDepth 100000 in
set_option maxHeartbeats 4000000 in
theorem w_X12_doubles_68 {x : aC} {r : Int × Hp} {k25 : Int × Hp → Option (Int × Hp)} {a1 : Nat} (X : aX x cX12_doubles wsX12_doubles RX12 6 rm_X12_doubles) (E : aE x shM (some .int) 0 r) (hk25 : ∀ (x2 : Int) (σ : Hp), k25 (x2, σ) = some r → aS x shM 6 25 [(0, vR 0), (1, vR a1), (2, vI x2)] [] σ) (ha1 : iaB shM a1 = true) : ∀ (n : Nat) (x2 : Int) (x3 : Int) (σ : Hp) (h : F_M_doubles_68 k25 a1 n (x2, x3, σ) = some r), aS x shM 6 68 [(0, vR 0), (1, vR a1), (2, vI x2), (3, vI x3)] [] σ := by
  intro n
  induction n with
  | zero => intro x2 x3 σ h; cases h
  | succ n ih => intro x2 x3 σ h; exact w_X12_doubles_68_b (a1 := a1) (k68 := F_M_doubles_68 k25 a1 n) X E hk25 ih ha1 x2 x3 σ h
set_option maxRecDepth 100000 in
set_option maxHeartbeats 4000000 in
theorem w_X12_doubles_40_b {x : aC} {r : Int × Hp} {k25 : Int × Hp → Option (Int × Hp)} {k40 : Int × Int × Hp → Option (Int × Hp)} {a1 : Nat} (X : aX x cX12_doubles wsX12_doubles RX12 6 rm_X12_doubles) (E : aE x shM (some .int) 0 r) (hk25 : ∀ (x2 : Int) (σ : Hp), k25 (x2, σ) = some r → aS x shM 6 25 [(0, vR 0), (1, vR a1), (2, vI x2)] [] σ) (hk40 : ∀ (x2 : Int) (x3 : Int) (σ : Hp), k40 (x2, x3, σ) = some r → aS x shM 6 40 [(0, vR 0), (1, vR a1), (2, vI x2), (3, vI x3)] [] σ) (ha1 : iaB shM a1 = true) (x2 : Int) (x3 : Int) (σ : Hp) (h : F_M_doubles_40_b k25 k40 a1 x2 x3 σ = some r) : aS x shM 6 40 [(0, vR 0), (1, vR a1), (2, vI x2), (3, vI x3)] [] σ := by
  unfold F_M_doubles_40_b at h
  refine A_iload_n X 3 rfl rfl dX12_doubles_40 ?_
  refine A_aload_n X 0 rfl rfl dX12_doubles_41 ?_
  obtain ⟨v21, s22, e23, h⟩ := clD h
  refine A_callV_I (na := 0) X (m_X12_all e23) gX12_doubles_X12_all rfl ⟨rfl, rfl⟩ (by decide +kernel) rfl ⟨Nat.le_of_ble_eq_true rfl, Nat.le_of_ble_eq_true rfl⟩ shM_0 (by decide) rfl rfl (Nat.le_of_ble_eq_true rfl) dX12_doubles_42 ?_
  refine A_icmp_gt X (tgt := 66) (by decide) dX12_doubles_45 (fun c24 => ?_) (fun c24 => ?_)
  · replace h := ifT h c24
    refine A_iconst X dX12_doubles_66 (z := 0) (by decide) ?_
    refine A_istore_n X (L' := [(3, vI 0), (0, vR 0), (1, vR a1), (2, vI x2)]) rfl (by decide) rfl dX12_doubles_67 ?_
    refine A_sub [1, 2, 3, 0] rfl (L' := [(0, vR 0), (1, vR a1), (2, vI x2), (3, vI 0)]) rfl ?_
    exact w_X12_doubles_68 (a1 := a1) X E hk25 ha1 FU x2 0 s22 h
  · replace h := ifF h c24
    refine A_aload_n X 0 rfl rfl dX12_doubles_48 ?_
    refine A_getR X fg_X12_doubles_180 shM_0 (k := 55) rfl (by decide) dX12_doubles_49 ?_
    refine A_iload_n X 3 rfl rfl dX12_doubles_52 ?_
    refine A_aload_n X 0 rfl rfl dX12_doubles_53 ?_
    refine A_getR X fg_X12_doubles_177 shM_0 (k := 54) rfl (by decide) dX12_doubles_54 ?_
    refine A_iload_n X 3 rfl rfl dX12_doubles_57 ?_
    obtain ⟨g25, h⟩ := gdD h
    refine A_iald X g25 shM_34 dX12_doubles_58 ?_
    obtain ⟨g26, h⟩ := gdD h
    refine A_iast X g26 shM_35 dX12_doubles_59 (fun s27 hy => ?_)
    replace h := ltD h s27 hy
    clear hy
    refine A_iinc X (L' := fun y3_28 => [(3, vI y3_28), (0, vR 0), (1, vR a1), (2, vI x2)]) 3 rfl (by decide) (fun _ => rfl) dX12_doubles_60 (by decide) (fun y3_28 hy => ?_)
    replace h := ltD h y3_28 hy
    clear hy
    refine A_goto X (tgt := 40) (by decide) dX12_doubles_63 ?_
    refine A_sub [1, 2, 3, 0] rfl (L' := [(0, vR 0), (1, vR a1), (2, vI x2), (3, vI y3_28)]) rfl ?_
    exact hk40 x2 y3_28 s27 h
set_option maxRecDepth 100000 in
set_option maxHeartbeats 4000000 in
theorem w_X12_doubles_40 {x : aC} {r : Int × Hp} {k25 : Int × Hp → Option (Int × Hp)} {a1 : Nat} (X : aX x cX12_doubles wsX12_doubles RX12 6 rm_X12_doubles) (E : aE x shM (some .int) 0 r) (hk25 : ∀ (x2 : Int) (σ : Hp), k25 (x2, σ) = some r → aS x shM 6 25 [(0, vR 0), (1, vR a1), (2, vI x2)] [] σ) (ha1 : iaB shM a1 = true) : ∀ (n : Nat) (x2 : Int) (x3 : Int) (σ : Hp) (h : F_M_doubles_40 k25 a1 n (x2, x3, σ) = some r), aS x shM 6 40 [(0, vR 0), (1, vR a1), (2, vI x2), (3, vI x3)] [] σ := by
  intro n
  induction n with
  | zero => intro x2 x3 σ h; cases h
  | succ n ih => intro x2 x3 σ h; exact w_X12_doubles_40_b (a1 := a1) (k40 := F_M_doubles_40 k25 a1 n) X E hk25 ih ha1 x2 x3 σ h
set_option maxRecDepth 100000 in
set_option maxHeartbeats 4000000 in
theorem w_X12_doubles_25_b {x : aC} {r : Int × Hp} {k25 : Int × Hp → Option (Int × Hp)} {a1 : Nat} (X : aX x cX12_doubles wsX12_doubles RX12 6 rm_X12_doubles) (E : aE x shM (some .int) 0 r) (hk25 : ∀ (x2 : Int) (σ : Hp), k25 (x2, σ) = some r → aS x shM 6 25 [(0, vR 0), (1, vR a1), (2, vI x2)] [] σ) (ha1 : iaB shM a1 = true) (x2 : Int) (σ : Hp) (h : F_M_doubles_25_b k25 a1 x2 σ = some r) : aS x shM 6 25 [(0, vR 0), (1, vR a1), (2, vI x2)] [] σ := by
  unfold F_M_doubles_25_b at h
  refine A_iload_n X 2 rfl rfl dX12_doubles_25 ?_
  refine A_aload_n X 0 rfl rfl dX12_doubles_26 ?_
  refine A_getR X fg_X12_doubles_51 shM_0 (k := 13) rfl (by decide) dX12_doubles_27 ?_
  refine A_aload_n X 0 rfl rfl dX12_doubles_30 ?_
  refine A_getI X fg_X12_doubles_48 shM_0 (k := 12) rfl (by decide) dX12_doubles_31 ?_
  obtain ⟨g29, h⟩ := gdD h
  refine A_iald X g29 shM_2 dX12_doubles_34 ?_
  refine A_icmp_ge X (tgt := 188) (by decide) dX12_doubles_35 (fun c30 => ?_) (fun c30 => ?_)
  · replace h := ifT h c30
    refine A_aload_n X 0 rfl rfl dX12_doubles_188 ?_
    refine A_getR X fg_X12_doubles_177 shM_0 (k := 54) rfl (by decide) dX12_doubles_189 ?_
    refine A_aload_n X 0 rfl rfl dX12_doubles_192 ?_
    obtain ⟨v31, s32, e33, h⟩ := clD h
    refine A_callV_I (na := 0) X (m_X12_all e33) gX12_doubles_X12_all rfl ⟨rfl, rfl⟩ (by decide +kernel) rfl ⟨Nat.le_of_ble_eq_true rfl, Nat.le_of_ble_eq_true rfl⟩ shM_0 (by decide) rfl rfl (Nat.le_of_ble_eq_true rfl) dX12_doubles_193 ?_
    obtain ⟨g34, h⟩ := gdD h
    refine A_iald X g34 shM_34 dX12_doubles_196 ?_
    exact A_ireturn X E h dX12_doubles_197
  · replace h := ifF h c30
    refine A_iconst X dX12_doubles_38 (z := 0) (by decide) ?_
    refine A_istore_n X (L' := [(3, vI 0), (0, vR 0), (1, vR a1), (2, vI x2)]) rfl (by decide) rfl dX12_doubles_39 ?_
    refine A_sub [1, 2, 3, 0] rfl (L' := [(0, vR 0), (1, vR a1), (2, vI x2), (3, vI 0)]) rfl ?_
    exact w_X12_doubles_40 (a1 := a1) X E hk25 ha1 FU x2 0 σ h
set_option maxRecDepth 100000 in
set_option maxHeartbeats 4000000 in
theorem w_X12_doubles_25 {x : aC} {r : Int × Hp} {a1 : Nat} (X : aX x cX12_doubles wsX12_doubles RX12 6 rm_X12_doubles) (E : aE x shM (some .int) 0 r) (ha1 : iaB shM a1 = true) : ∀ (n : Nat) (x2 : Int) (σ : Hp) (h : F_M_doubles_25 a1 n (x2, σ) = some r), aS x shM 6 25 [(0, vR 0), (1, vR a1), (2, vI x2)] [] σ := by
  intro n
  induction n with
  | zero => intro x2 σ h; cases h
  | succ n ih => intro x2 σ h; exact w_X12_doubles_25_b (a1 := a1) (k25 := F_M_doubles_25 a1 n) X E ih ha1 x2 σ h
set_option maxRecDepth 100000 in
set_option maxHeartbeats 4000000 in
theorem w_X12_doubles_2_b {x : aC} {r : Int × Hp} {k2 : Int × Hp → Option (Int × Hp)} {a1 : Nat} (X : aX x cX12_doubles wsX12_doubles RX12 6 rm_X12_doubles) (E : aE x shM (some .int) 0 r) (hk2 : ∀ (x2 : Int) (σ : Hp), k2 (x2, σ) = some r → aS x shM 6 2 [(0, vR 0), (1, vR a1), (2, vI x2)] [] σ) (ha1 : iaB shM a1 = true) (x2 : Int) (σ : Hp) (h : F_M_doubles_2_b k2 a1 x2 σ = some r) : aS x shM 6 2 [(0, vR 0), (1, vR a1), (2, vI x2)] [] σ := by
  unfold F_M_doubles_2_b at h
  refine A_iload_n X 2 rfl rfl dX12_doubles_2 ?_
  refine A_aload_n X 0 rfl rfl dX12_doubles_3 ?_
  obtain ⟨v35, s36, e37, h⟩ := clD h
  refine A_callV_I (na := 0) X (m_X12_all e37) gX12_doubles_X12_all rfl ⟨rfl, rfl⟩ (by decide +kernel) rfl ⟨Nat.le_of_ble_eq_true rfl, Nat.le_of_ble_eq_true rfl⟩ shM_0 (by decide) rfl rfl (Nat.le_of_ble_eq_true rfl) dX12_doubles_4 ?_
  refine A_icmp_gt X (tgt := 23) (by decide) dX12_doubles_7 (fun c38 => ?_) (fun c38 => ?_)
  · replace h := ifT h c38
    refine A_iconst X dX12_doubles_23 (z := 0) (by decide) ?_
    refine A_istore_n X (L' := [(2, vI 0), (0, vR 0), (1, vR a1)]) rfl (by decide) rfl dX12_doubles_24 ?_
    refine A_sub [1, 2, 0] rfl (L' := [(0, vR 0), (1, vR a1), (2, vI 0)]) rfl ?_
    exact w_X12_doubles_25 (a1 := a1) X E ha1 FU 0 s36 h
  · replace h := ifF h c38
    refine A_aload_n X 0 rfl rfl dX12_doubles_10 ?_
    refine A_getR X fg_X12_doubles_177 shM_0 (k := 54) rfl (by decide) dX12_doubles_11 ?_
    refine A_iload_n X 2 rfl rfl dX12_doubles_14 ?_
    refine A_iconst X dX12_doubles_15 (z := 0) (by decide) ?_
    obtain ⟨g39, h⟩ := gdD h
    refine A_iast X g39 shM_34 dX12_doubles_16 (fun s40 hy => ?_)
    replace h := ltD h s40 hy
    clear hy
    refine A_iinc X (L' := fun y2_41 => [(2, vI y2_41), (0, vR 0), (1, vR a1)]) 2 rfl (by decide) (fun _ => rfl) dX12_doubles_17 (by decide) (fun y2_41 hy => ?_)
    replace h := ltD h y2_41 hy
    clear hy
    refine A_goto X (tgt := 2) (by decide) dX12_doubles_20 ?_
    refine A_sub [1, 2, 0] rfl (L' := [(0, vR 0), (1, vR a1), (2, vI y2_41)]) rfl ?_
    exact hk2 y2_41 s40 h
set_option maxRecDepth 100000 in
set_option maxHeartbeats 4000000 in
theorem w_X12_doubles_2 {x : aC} {r : Int × Hp} {a1 : Nat} (X : aX x cX12_doubles wsX12_doubles RX12 6 rm_X12_doubles) (E : aE x shM (some .int) 0 r) (ha1 : iaB shM a1 = true) : ∀ (n : Nat) (x2 : Int) (σ : Hp) (h : F_M_doubles_2 a1 n (x2, σ) = some r), aS x shM 6 2 [(0, vR 0), (1, vR a1), (2, vI x2)] [] σ := by
  intro n
  induction n with
  | zero => intro x2 σ h; cases h
  | succ n ih => intro x2 σ h; exact w_X12_doubles_2_b (a1 := a1) (k2 := F_M_doubles_2 a1 n) X E ih ha1 x2 σ h
set_option maxRecDepth 100000 in
set_option maxHeartbeats 4000000 in
theorem m_X12_doubles {l : Launch} {g : aG} {a1 : Nat} {σ : Hp} {r : Int × Hp} (h : F_M_doubles a1 σ = some r) : aMet l g shM yX12_doubles wsX12_doubles rm_X12_doubles [vR 0, vR a1] σ 0 r := by
  unfold F_M_doubles at h
  obtain ⟨ha1, h⟩ := gdD h
  refine aMet_of (bytes := cX12_doubles) (maxL := 6) (ret := (some .int)) (by decide +kernel) rfl (Nat.le_of_ble_eq_true rfl) ⟨rfl, rfl⟩ (fun x e1 e2 X E => ?_)
  subst e1; subst e2
  have X : aX x cX12_doubles wsX12_doubles RX12 6 rm_X12_doubles := X
  show aS x shM 6 0 [(0, vR 0), (1, vR a1)] [] σ
  refine A_iconst X dX12_doubles_0 (z := 0) (by decide) ?_
  refine A_istore_n X (L' := [(2, vI 0), (0, vR 0), (1, vR a1)]) rfl (by decide) rfl dX12_doubles_1 ?_
  refine A_sub [1, 2, 0] rfl (L' := [(0, vR 0), (1, vR a1), (2, vI 0)]) rfl ?_
  exact w_X12_doubles_2 (a1 := a1) X E ha1 FU 0 σ h
abbrev rm_X12_isOwn : Room := { frames := 0, cells := 0, slots := 0, locals := 0 }
set_option maxRecDepth 100000 in
set_option maxHeartbeats 4000000 in
theorem w_X12_isOwn_40 {x : aC} {r : Int × Hp} {a1 : Int} (X : aX x cX12_isOwn wsX12_isOwn RX12 3 rm_X12_isOwn) (E : aE x shM (some .boolean) 0 r) (σ : Hp) (h : F_M_isOwn_40 a1 σ = some r) : aS x shM 3 40 [] [] σ := by
  unfold F_M_isOwn_40 at h
  refine A_iconst X dX12_isOwn_40 (z := 1) (by decide) ?_
  exact A_zreturn X (Or.inr rfl) E h dX12_isOwn_41
set_option maxRecDepth 100000 in
set_option maxHeartbeats 4000000 in
theorem w_X12_isOwn_82 {x : aC} {r : Int × Hp} {a1 : Int} (X : aX x cX12_isOwn wsX12_isOwn RX12 3 rm_X12_isOwn) (E : aE x shM (some .boolean) 0 r) (σ : Hp) (h : F_M_isOwn_82 a1 σ = some r) : aS x shM 3 82 [] [] σ := by
  unfold F_M_isOwn_82 at h
  refine A_iconst X dX12_isOwn_82 (z := 1) (by decide) ?_
  exact A_zreturn X (Or.inr rfl) E h dX12_isOwn_83
set_option maxRecDepth 100000 in
set_option maxHeartbeats 4000000 in
theorem w_X12_isOwn_124 {x : aC} {r : Int × Hp} {a1 : Int} (X : aX x cX12_isOwn wsX12_isOwn RX12 3 rm_X12_isOwn) (E : aE x shM (some .boolean) 0 r) (σ : Hp) (h : F_M_isOwn_124 a1 σ = some r) : aS x shM 3 124 [] [] σ := by
  unfold F_M_isOwn_124 at h
  refine A_iconst X dX12_isOwn_124 (z := 1) (by decide) ?_
  exact A_zreturn X (Or.inr rfl) E h dX12_isOwn_125
set_option maxRecDepth 100000 in
set_option maxHeartbeats 4000000 in
theorem w_X12_isOwn_142 {x : aC} {r : Int × Hp} {a1 : Int} (X : aX x cX12_isOwn wsX12_isOwn RX12 3 rm_X12_isOwn) (E : aE x shM (some .boolean) 0 r) (σ : Hp) (h : F_M_isOwn_142 a1 σ = some r) : aS x shM 3 142 [] [] σ := by
  unfold F_M_isOwn_142 at h
  refine A_iconst X dX12_isOwn_142 (z := 1) (by decide) ?_
  exact A_zreturn X (Or.inr rfl) E h dX12_isOwn_143
set_option maxRecDepth 100000 in
set_option maxHeartbeats 4000000 in
theorem m_X12_isOwn {l : Launch} {g : aG} {a1 : Int} {σ : Hp} {r : Int × Hp} (h : F_M_isOwn a1 σ = some r) : aMet l g shM yX12_isOwn wsX12_isOwn rm_X12_isOwn [vR 0, vL a1] σ 0 r := by
  unfold F_M_isOwn at h
  refine aMet_of (bytes := cX12_isOwn) (maxL := 3) (ret := (some .boolean)) (by decide +kernel) rfl (Nat.le_of_ble_eq_true rfl) ⟨rfl, rfl⟩ (fun x e1 e2 X E => ?_)
  subst e1; subst e2
  have X : aX x cX12_isOwn wsX12_isOwn RX12 3 rm_X12_isOwn := X
  show aS x shM 3 0 [(0, vR 0), (1, vL a1)] [] σ
  refine A_lload_n X 1 rfl rfl dX12_isOwn_0 ?_
  refine A_ldc2 X (v := (7825519)) (List.mem_of_getElem? (i := 1) rfl) dX12_isOwn_1 (z := 7825519) (by decide +kernel) ?_
  refine A_lcmp X dX12_isOwn_4 ?_
  refine A_if_eq X (tgt := 40) (by decide) dX12_isOwn_5 (fun c1 => ?_) (fun c1 => ?_)
  · replace h := ifT h c1
    refine A_sub [] rfl (L' := []) rfl ?_
    exact w_X12_isOwn_40 (a1 := a1) X E σ h
  · replace h := ifF h c1
    refine A_lload_n X 1 rfl rfl dX12_isOwn_8 ?_
    refine A_ldc2 X (v := (418431069797)) (List.mem_of_getElem? (i := 2) rfl) dX12_isOwn_9 (z := 418431069797) (by decide +kernel) ?_
    refine A_lcmp X dX12_isOwn_12 ?_
    refine A_if_eq X (tgt := 40) (by decide) dX12_isOwn_13 (fun c2 => ?_) (fun c2 => ?_)
    · replace h := ifT h c2
      refine A_sub [] rfl (L' := []) rfl ?_
      exact w_X12_isOwn_40 (a1 := a1) X E σ h
    · replace h := ifF h c2
      refine A_lload_n X 1 rfl rfl dX12_isOwn_16 ?_
      refine A_ldc2 X (v := (1919902052)) (List.mem_of_getElem? (i := 3) rfl) dX12_isOwn_17 (z := 1919902052) (by decide +kernel) ?_
      refine A_lcmp X dX12_isOwn_20 ?_
      refine A_if_eq X (tgt := 40) (by decide) dX12_isOwn_21 (fun c3 => ?_) (fun c3 => ?_)
      · replace h := ifT h c3
        refine A_sub [] rfl (L' := []) rfl ?_
        exact w_X12_isOwn_40 (a1 := a1) X E σ h
      · replace h := ifF h c3
        refine A_lload_n X 1 rfl rfl dX12_isOwn_24 ?_
        refine A_ldc2 X (v := (512970880104)) (List.mem_of_getElem? (i := 4) rfl) dX12_isOwn_25 (z := 512970880104) (by decide +kernel) ?_
        refine A_lcmp X dX12_isOwn_28 ?_
        refine A_if_eq X (tgt := 40) (by decide) dX12_isOwn_29 (fun c4 => ?_) (fun c4 => ?_)
        · replace h := ifT h c4
          refine A_sub [] rfl (L' := []) rfl ?_
          exact w_X12_isOwn_40 (a1 := a1) X E σ h
        · replace h := ifF h c4
          refine A_lload_n X 1 rfl rfl dX12_isOwn_32 ?_
          refine A_ldc2 X (v := (2003330414)) (List.mem_of_getElem? (i := 5) rfl) dX12_isOwn_33 (z := 2003330414) (by decide +kernel) ?_
          refine A_lcmp X dX12_isOwn_36 ?_
          refine A_if_ne X (tgt := 42) (by decide) dX12_isOwn_37 (fun c5 => ?_) (fun c5 => ?_)
          · replace h := ifF h c5
            refine A_lload_n X 1 rfl rfl dX12_isOwn_42 ?_
            refine A_ldc2 X (v := (499851162725)) (List.mem_of_getElem? (i := 6) rfl) dX12_isOwn_43 (z := 499851162725) (by decide +kernel) ?_
            refine A_lcmp X dX12_isOwn_46 ?_
            refine A_if_eq X (tgt := 82) (by decide) dX12_isOwn_47 (fun c6 => ?_) (fun c6 => ?_)
            · replace h := ifT h c6
              refine A_sub [] rfl (L' := []) rfl ?_
              exact w_X12_isOwn_82 (a1 := a1) X E σ h
            · replace h := ifF h c6
              refine A_lload_n X 1 rfl rfl dX12_isOwn_50 ?_
              refine A_ldc2 X (v := (1818588019)) (List.mem_of_getElem? (i := 7) rfl) dX12_isOwn_51 (z := 1818588019) (by decide +kernel) ?_
              refine A_lcmp X dX12_isOwn_54 ?_
              refine A_if_eq X (tgt := 82) (by decide) dX12_isOwn_55 (fun c7 => ?_) (fun c7 => ?_)
              · replace h := ifT h c7
                refine A_sub [] rfl (L' := []) rfl ?_
                exact w_X12_isOwn_82 (a1 := a1) X E σ h
              · replace h := ifF h c7
                refine A_lload_n X 1 rfl rfl dX12_isOwn_58 ?_
                refine A_ldc2 X (v := (431366693492)) (List.mem_of_getElem? (i := 8) rfl) dX12_isOwn_59 (z := 431366693492) (by decide +kernel) ?_
                refine A_lcmp X dX12_isOwn_62 ?_
                refine A_if_eq X (tgt := 82) (by decide) dX12_isOwn_63 (fun c8 => ?_) (fun c8 => ?_)
                · replace h := ifT h c8
                  refine A_sub [] rfl (L' := []) rfl ?_
                  exact w_X12_isOwn_82 (a1 := a1) X E σ h
                · replace h := ifF h c8
                  refine A_lload_n X 1 rfl rfl dX12_isOwn_66 ?_
                  refine A_ldc2 X (v := (28530)) (List.mem_of_getElem? (i := 9) rfl) dX12_isOwn_67 (z := 28530) (by decide +kernel) ?_
                  refine A_lcmp X dX12_isOwn_70 ?_
                  refine A_if_eq X (tgt := 82) (by decide) dX12_isOwn_71 (fun c9 => ?_) (fun c9 => ?_)
                  · replace h := ifT h c9
                    refine A_sub [] rfl (L' := []) rfl ?_
                    exact w_X12_isOwn_82 (a1 := a1) X E σ h
                  · replace h := ifF h c9
                    refine A_lload_n X 1 rfl rfl dX12_isOwn_74 ?_
                    refine A_ldc2 X (v := (6385252)) (List.mem_of_getElem? (i := 10) rfl) dX12_isOwn_75 (z := 6385252) (by decide +kernel) ?_
                    refine A_lcmp X dX12_isOwn_78 ?_
                    refine A_if_ne X (tgt := 84) (by decide) dX12_isOwn_79 (fun c10 => ?_) (fun c10 => ?_)
                    · replace h := ifF h c10
                      refine A_lload_n X 1 rfl rfl dX12_isOwn_84 ?_
                      refine A_ldc2 X (v := (7237492)) (List.mem_of_getElem? (i := 11) rfl) dX12_isOwn_85 (z := 7237492) (by decide +kernel) ?_
                      refine A_lcmp X dX12_isOwn_88 ?_
                      refine A_if_eq X (tgt := 124) (by decide) dX12_isOwn_89 (fun c11 => ?_) (fun c11 => ?_)
                      · replace h := ifT h c11
                        refine A_sub [] rfl (L' := []) rfl ?_
                        exact w_X12_isOwn_124 (a1 := a1) X E σ h
                      · replace h := ifF h c11
                        refine A_lload_n X 1 rfl rfl dX12_isOwn_92 ?_
                        refine A_ldc2 X (v := (6384748)) (List.mem_of_getElem? (i := 12) rfl) dX12_isOwn_93 (z := 6384748) (by decide +kernel) ?_
                        refine A_lcmp X dX12_isOwn_96 ?_
                        refine A_if_eq X (tgt := 124) (by decide) dX12_isOwn_97 (fun c12 => ?_) (fun c12 => ?_)
                        · replace h := ifT h c12
                          refine A_sub [] rfl (L' := []) rfl ?_
                          exact w_X12_isOwn_124 (a1 := a1) X E σ h
                        · replace h := ifF h c12
                          refine A_lload_n X 1 rfl rfl dX12_isOwn_100 ?_
                          refine A_ldc2 X (v := (6578553)) (List.mem_of_getElem? (i := 13) rfl) dX12_isOwn_101 (z := 6578553) (by decide +kernel) ?_
                          refine A_lcmp X dX12_isOwn_104 ?_
                          refine A_if_eq X (tgt := 124) (by decide) dX12_isOwn_105 (fun c13 => ?_) (fun c13 => ?_)
                          · replace h := ifT h c13
                            refine A_sub [] rfl (L' := []) rfl ?_
                            exact w_X12_isOwn_124 (a1 := a1) X E σ h
                          · replace h := ifF h c13
                            refine A_lload_n X 1 rfl rfl dX12_isOwn_108 ?_
                            refine A_ldc2 X (v := (2003133803)) (List.mem_of_getElem? (i := 14) rfl) dX12_isOwn_109 (z := 2003133803) (by decide +kernel) ?_
                            refine A_lcmp X dX12_isOwn_112 ?_
                            refine A_if_eq X (tgt := 124) (by decide) dX12_isOwn_113 (fun c14 => ?_) (fun c14 => ?_)
                            · replace h := ifT h c14
                              refine A_sub [] rfl (L' := []) rfl ?_
                              exact w_X12_isOwn_124 (a1 := a1) X E σ h
                            · replace h := ifF h c14
                              refine A_lload_n X 1 rfl rfl dX12_isOwn_116 ?_
                              refine A_ldc2 X (v := (2003067257)) (List.mem_of_getElem? (i := 15) rfl) dX12_isOwn_117 (z := 2003067257) (by decide +kernel) ?_
                              refine A_lcmp X dX12_isOwn_120 ?_
                              refine A_if_ne X (tgt := 126) (by decide) dX12_isOwn_121 (fun c15 => ?_) (fun c15 => ?_)
                              · replace h := ifF h c15
                                refine A_lload_n X 1 rfl rfl dX12_isOwn_126 ?_
                                refine A_ldc2 X (v := (7170414)) (List.mem_of_getElem? (i := 16) rfl) dX12_isOwn_127 (z := 7170414) (by decide +kernel) ?_
                                refine A_lcmp X dX12_isOwn_130 ?_
                                refine A_if_eq X (tgt := 142) (by decide) dX12_isOwn_131 (fun c16 => ?_) (fun c16 => ?_)
                                · replace h := ifT h c16
                                  refine A_sub [] rfl (L' := []) rfl ?_
                                  exact w_X12_isOwn_142 (a1 := a1) X E σ h
                                · replace h := ifF h c16
                                  refine A_lload_n X 1 rfl rfl dX12_isOwn_134 ?_
                                  refine A_ldc2 X (v := (7168376)) (List.mem_of_getElem? (i := 17) rfl) dX12_isOwn_135 (z := 7168376) (by decide +kernel) ?_
                                  refine A_lcmp X dX12_isOwn_138 ?_
                                  refine A_if_ne X (tgt := 144) (by decide) dX12_isOwn_139 (fun c17 => ?_) (fun c17 => ?_)
                                  · replace h := ifF h c17
                                    refine A_iconst X dX12_isOwn_144 (z := 0) (by decide) ?_
                                    exact A_zreturn X (Or.inl rfl) E h dX12_isOwn_145
                                  · replace h := ifT h c17
                                    refine A_sub [] rfl (L' := []) rfl ?_
                                    exact w_X12_isOwn_142 (a1 := a1) X E σ h
                              · replace h := ifT h c15
                                refine A_sub [] rfl (L' := []) rfl ?_
                                exact w_X12_isOwn_124 (a1 := a1) X E σ h
                    · replace h := ifT h c10
                      refine A_sub [] rfl (L' := []) rfl ?_
                      exact w_X12_isOwn_82 (a1 := a1) X E σ h
          · replace h := ifT h c5
            refine A_sub [] rfl (L' := []) rfl ?_
            exact w_X12_isOwn_40 (a1 := a1) X E σ h
abbrev rm_X12_whoOf : Room := { frames := 0, cells := 0, slots := 0, locals := 0 }
theorem in_X12_whoOf_12 : ∀ w ∈ u_ws RX12 TX12 75, w ∈ wsX12_whoOf := fun w h => List.mem_cons_of_mem _ (List.mem_append_right _ h)
theorem fg_X12_whoOf_51 : aFl wsX12_whoOf RX12 51 12 13 := ⟨RX12, TX12, 75, rfl, in_X12_whoOf_12, by decide, (List.mem_of_getElem? (i := 1) rfl), rfl⟩
theorem fg_X12_whoOf_107 : aFl wsX12_whoOf RX12 107 12 31 := ⟨RX12, TX12, 75, rfl, in_X12_whoOf_12, by decide, (List.mem_of_getElem? (i := 2) rfl), rfl⟩
theorem fg_X12_whoOf_63 : aFl wsX12_whoOf RX12 63 12 17 := ⟨RX12, TX12, 75, rfl, in_X12_whoOf_12, by decide, (List.mem_of_getElem? (i := 3) rfl), rfl⟩
set_option maxRecDepth 100000 in
set_option maxHeartbeats 4000000 in
theorem w_X12_whoOf_2_b {x : aC} {r : Int × Hp} {k2 : Int × Hp → Option (Int × Hp)} {a1 : Int} (X : aX x cX12_whoOf wsX12_whoOf RX12 4 rm_X12_whoOf) (E : aE x shM (some .int) 0 r) (hk2 : ∀ (x3 : Int) (σ : Hp), k2 (x3, σ) = some r → aS x shM 4 2 [(0, vR 0), (1, vL a1), (3, vI x3)] [] σ) (x3 : Int) (σ : Hp) (h : F_M_whoOf_2_b k2 a1 x3 σ = some r) : aS x shM 4 2 [(0, vR 0), (1, vL a1), (3, vI x3)] [] σ := by
  unfold F_M_whoOf_2_b at h
  refine A_iload_n X 2 rfl rfl dX12_whoOf_2 ?_
  refine A_aload_n X 0 rfl rfl dX12_whoOf_3 ?_
  refine A_getR X fg_X12_whoOf_51 shM_0 (k := 13) rfl (by decide) dX12_whoOf_4 ?_
  refine A_aload_n X 0 rfl rfl dX12_whoOf_7 ?_
  refine A_getI X fg_X12_whoOf_107 shM_0 (k := 31) rfl (by decide) dX12_whoOf_8 ?_
  obtain ⟨g1, h⟩ := gdD h
  refine A_iald X g1 shM_2 dX12_whoOf_11 ?_
  refine A_icmp_ge X (tgt := 42) (by decide) dX12_whoOf_12 (fun c2 => ?_) (fun c2 => ?_)
  · replace h := ifT h c2
    refine A_iconst X dX12_whoOf_42 (z := (-1)) (by decide) ?_
    exact A_ireturn X E h dX12_whoOf_43
  · replace h := ifF h c2
    refine A_aload_n X 0 rfl rfl dX12_whoOf_15 ?_
    refine A_getR X fg_X12_whoOf_63 shM_0 (k := 17) rfl (by decide) dX12_whoOf_16 ?_
    refine A_bipush X dX12_whoOf_19 (z := 12) (by decide) ?_
    refine A_aload_n X 0 rfl rfl dX12_whoOf_21 ?_
    refine A_getI X fg_X12_whoOf_107 shM_0 (k := 31) rfl (by decide) dX12_whoOf_22 ?_
    refine A_imul X dX12_whoOf_25 ?_
    refine A_iload_n X 2 rfl rfl dX12_whoOf_26 ?_
    refine A_iadd X dX12_whoOf_27 ?_
    obtain ⟨g3, h⟩ := gdD h
    refine A_lald X g3 shM_6 dX12_whoOf_28 ?_
    refine A_lload_n X 1 rfl rfl dX12_whoOf_29 ?_
    refine A_lcmp X dX12_whoOf_30 ?_
    refine A_if_ne X (tgt := 36) (by decide) dX12_whoOf_31 (fun c4 => ?_) (fun c4 => ?_)
    · replace h := ifF h c4
      refine A_iinc X (L' := fun y3_5 => [(3, vI y3_5), (0, vR 0), (1, vL a1)]) 2 rfl (by decide) (fun _ => rfl) dX12_whoOf_36 (by decide) (fun y3_5 hy => ?_)
      replace h := ltD h y3_5 hy
      clear hy
      refine A_goto X (tgt := 2) (by decide) dX12_whoOf_39 ?_
      refine A_sub [1, 2, 0] rfl (L' := [(0, vR 0), (1, vL a1), (3, vI y3_5)]) rfl ?_
      exact hk2 y3_5 σ h
    · replace h := ifT h c4
      refine A_iload_n X 2 rfl rfl dX12_whoOf_34 ?_
      exact A_ireturn X E h dX12_whoOf_35
set_option maxRecDepth 100000 in
set_option maxHeartbeats 4000000 in
theorem w_X12_whoOf_2 {x : aC} {r : Int × Hp} {a1 : Int} (X : aX x cX12_whoOf wsX12_whoOf RX12 4 rm_X12_whoOf) (E : aE x shM (some .int) 0 r) : ∀ (n : Nat) (x3 : Int) (σ : Hp) (h : F_M_whoOf_2 a1 n (x3, σ) = some r), aS x shM 4 2 [(0, vR 0), (1, vL a1), (3, vI x3)] [] σ := by
  intro n
  induction n with
  | zero => intro x3 σ h; cases h
  | succ n ih => intro x3 σ h; exact w_X12_whoOf_2_b (a1 := a1) (k2 := F_M_whoOf_2 a1 n) X E ih x3 σ h
set_option maxRecDepth 100000 in
set_option maxHeartbeats 4000000 in
theorem m_X12_whoOf {l : Launch} {g : aG} {a1 : Int} {σ : Hp} {r : Int × Hp} (h : F_M_whoOf a1 σ = some r) : aMet l g shM yX12_whoOf wsX12_whoOf rm_X12_whoOf [vR 0, vL a1] σ 0 r := by
  unfold F_M_whoOf at h
  refine aMet_of (bytes := cX12_whoOf) (maxL := 4) (ret := (some .int)) (by decide +kernel) rfl (Nat.le_of_ble_eq_true rfl) ⟨rfl, rfl⟩ (fun x e1 e2 X E => ?_)
  subst e1; subst e2
  have X : aX x cX12_whoOf wsX12_whoOf RX12 4 rm_X12_whoOf := X
  show aS x shM 4 0 [(0, vR 0), (1, vL a1)] [] σ
  refine A_iconst X dX12_whoOf_0 (z := 0) (by decide) ?_
  refine A_istore_n X (L' := [(3, vI 0), (0, vR 0), (1, vL a1)]) rfl (by decide) rfl dX12_whoOf_1 ?_
  refine A_sub [1, 2, 0] rfl (L' := [(0, vR 0), (1, vL a1), (3, vI 0)]) rfl ?_
  exact w_X12_whoOf_2 (a1 := a1) X E FU 0 σ h
abbrev rm_X12_whoRead : Room := { frames := 1, cells := 0, slots := 0, locals := 23 }
theorem in_X12_whoRead_12 : ∀ w ∈ u_ws RX12 TX12 75, w ∈ wsX12_whoRead := fun w h => List.mem_cons_of_mem _ (List.mem_append_right _ h)
theorem fg_X12_whoRead_36 : aFl wsX12_whoRead RX12 36 12 8 := ⟨RX12, TX12, 75, rfl, in_X12_whoRead_12, by decide, (List.mem_of_getElem? (i := 1) rfl), rfl⟩
theorem fg_X12_whoRead_23 : aFl wsX12_whoRead RX12 23 12 4 := ⟨RX12, TX12, 75, rfl, in_X12_whoRead_12, by decide, (List.mem_of_getElem? (i := 4) rfl), rfl⟩
theorem fg_X12_whoRead_32 : aFl wsX12_whoRead RX12 32 12 7 := ⟨RX12, TX12, 75, rfl, in_X12_whoRead_12, by decide, (List.mem_of_getElem? (i := 3) rfl), rfl⟩
theorem fg_X12_whoRead_20 : aFl wsX12_whoRead RX12 20 12 3 := ⟨RX12, TX12, 75, rfl, in_X12_whoRead_12, by decide, (List.mem_of_getElem? (i := 2) rfl), rfl⟩
set_option maxRecDepth 100000 in
set_option maxHeartbeats 4000000 in
theorem w_X12_whoRead_95 {x : aC} {r : Int × Hp} {a1 : Int} (X : aX x cX12_whoRead wsX12_whoRead RX12 3 rm_X12_whoRead) (E : aE x shM (some .int) 0 r) (t1 : Int) (σ : Hp) (h : F_M_whoRead_95 a1 t1 σ = some r) : aS x shM 3 95 [] [vI t1] σ := by
  unfold F_M_whoRead_95 at h
  exact A_ireturn X E h dX12_whoRead_95
set_option maxRecDepth 100000 in
set_option maxHeartbeats 4000000 in
theorem w_X12_whoRead_83 {x : aC} {r : Int × Hp} {a1 : Int} (X : aX x cX12_whoRead wsX12_whoRead RX12 3 rm_X12_whoRead) (E : aE x shM (some .int) 0 r) (x2 : Int) (σ : Hp) (h : F_M_whoRead_83 a1 x2 σ = some r) : aS x shM 3 83 [(0, vR 0), (2, vI x2)] [] σ := by
  unfold F_M_whoRead_83 at h
  refine A_aload_n X 0 rfl rfl dX12_whoRead_83 ?_
  refine A_getI X fg_X12_whoRead_36 shM_0 (k := 8) rfl (by decide) dX12_whoRead_84 ?_
  refine A_if_le X (tgt := 94) (by decide) dX12_whoRead_87 (fun c1 => ?_) (fun c1 => ?_)
  · replace h := ifT h c1
    refine A_iload_n X 1 rfl rfl dX12_whoRead_94 ?_
    refine A_sub [] rfl (L' := []) rfl ?_
    exact w_X12_whoRead_95 (a1 := a1) X E x2 σ h
  · replace h := ifF h c1
    refine A_iconst X dX12_whoRead_90 (z := 0) (by decide) ?_
    refine A_goto X (tgt := 95) (by decide) dX12_whoRead_91 ?_
    refine A_sub [] rfl (L' := []) rfl ?_
    exact w_X12_whoRead_95 (a1 := a1) X E 0 σ h
set_option maxRecDepth 100000 in
set_option maxHeartbeats 4000000 in
theorem w_X12_whoRead_74 {x : aC} {r : Int × Hp} {a1 : Int} (X : aX x cX12_whoRead wsX12_whoRead RX12 3 rm_X12_whoRead) (E : aE x shM (some .int) 0 r) (x2 : Int) (σ : Hp) (h : F_M_whoRead_74 a1 x2 σ = some r) : aS x shM 3 74 [(0, vR 0), (2, vI x2)] [] σ := by
  unfold F_M_whoRead_74 at h
  refine A_aload_n X 0 rfl rfl dX12_whoRead_74 ?_
  refine A_iconst X dX12_whoRead_75 (z := 3) (by decide) ?_
  refine A_aload_n X 0 rfl rfl dX12_whoRead_76 ?_
  refine A_getI X fg_X12_whoRead_23 shM_0 (k := 4) rfl (by decide) dX12_whoRead_77 ?_
  obtain ⟨v2, s3, e4, h⟩ := clD h
  refine A_callV_V (na := 2) X (m_X12_blame e4) gX12_whoRead_X12_blame rfl ⟨rfl, rfl⟩ (by decide +kernel) rfl ⟨Nat.le_of_ble_eq_true rfl, Nat.le_of_ble_eq_true rfl⟩ shM_0 (by decide) rfl rfl (Nat.le_of_ble_eq_true rfl) dX12_whoRead_80 ?_
  exact w_X12_whoRead_83 (a1 := a1) X E x2 s3 h
set_option maxRecDepth 100000 in
set_option maxHeartbeats 4000000 in
theorem w_X12_whoRead_56 {x : aC} {r : Int × Hp} {a1 : Int} (X : aX x cX12_whoRead wsX12_whoRead RX12 3 rm_X12_whoRead) (E : aE x shM (some .int) 0 r) (t1 : Int) (σ : Hp) (h : F_M_whoRead_56 a1 t1 σ = some r) : aS x shM 3 56 [(0, vR 0), (1, vI a1)] [vI t1] σ := by
  unfold F_M_whoRead_56 at h
  refine A_istore_n X (L' := [(2, vI t1), (0, vR 0), (1, vI a1)]) rfl (by decide) rfl dX12_whoRead_56 ?_
  refine A_aload_n X 1 rfl rfl dX12_whoRead_57 ?_
  refine A_getI X fg_X12_whoRead_36 shM_0 (k := 8) rfl (by decide) dX12_whoRead_58 ?_
  refine A_if_ne X (tgt := 83) (by decide) dX12_whoRead_61 (fun c5 => ?_) (fun c5 => ?_)
  · replace h := ifF h c5
    refine A_sub [1, 0] rfl (L' := [(0, vR 0), (2, vI t1)]) rfl ?_
    exact w_X12_whoRead_83 (a1 := a1) X E t1 σ h
  · replace h := ifT h c5
    refine A_iload_n X 0 rfl rfl dX12_whoRead_64 ?_
    refine A_iconst X dX12_whoRead_65 (z := (-1)) (by decide) ?_
    refine A_icmp_eq X (tgt := 74) (by decide) dX12_whoRead_66 (fun c6 => ?_) (fun c6 => ?_)
    · replace h := ifT h c6
      refine A_sub [1, 0] rfl (L' := [(0, vR 0), (2, vI t1)]) rfl ?_
      exact w_X12_whoRead_74 (a1 := a1) X E t1 σ h
    · replace h := ifF h c6
      refine A_iload_n X 0 rfl rfl dX12_whoRead_69 ?_
      refine A_iload_n X 2 rfl rfl dX12_whoRead_70 ?_
      refine A_icmp_ne X (tgt := 83) (by decide) dX12_whoRead_71 (fun c7 => ?_) (fun c7 => ?_)
      · replace h := ifF h c7
        refine A_sub [1, 0] rfl (L' := [(0, vR 0), (2, vI t1)]) rfl ?_
        exact w_X12_whoRead_83 (a1 := a1) X E t1 σ h
      · replace h := ifT h c7
        refine A_sub [1, 0] rfl (L' := [(0, vR 0), (2, vI t1)]) rfl ?_
        exact w_X12_whoRead_74 (a1 := a1) X E t1 σ h
set_option maxRecDepth 100000 in
set_option maxHeartbeats 4000000 in
theorem w_X12_whoRead_37 {x : aC} {r : Int × Hp} {a1 : Int} (X : aX x cX12_whoRead wsX12_whoRead RX12 3 rm_X12_whoRead) (E : aE x shM (some .int) 0 r) (σ : Hp) (h : F_M_whoRead_37 a1 σ = some r) : aS x shM 3 37 [(0, vR 0), (1, vI a1)] [] σ := by
  unfold F_M_whoRead_37 at h
  refine A_aload_n X 0 rfl rfl dX12_whoRead_37 ?_
  refine A_getI X fg_X12_whoRead_36 shM_0 (k := 8) rfl (by decide) dX12_whoRead_38 ?_
  refine A_if_le X (tgt := 48) (by decide) dX12_whoRead_41 (fun c8 => ?_) (fun c8 => ?_)
  · replace h := ifT h c8
    refine A_aload_n X 0 rfl rfl dX12_whoRead_48 ?_
    refine A_aload_n X 0 rfl rfl dX12_whoRead_49 ?_
    refine A_getL X fg_X12_whoRead_32 shM_0 (k := 7) rfl (by decide) dX12_whoRead_50 ?_
    obtain ⟨v9, s10, e11, h⟩ := clD h
    refine A_callV_I (na := 1) X (m_X12_whoOf e11) gX12_whoRead_X12_whoOf rfl ⟨rfl, rfl⟩ (by decide +kernel) rfl ⟨Nat.le_of_ble_eq_true rfl, Nat.le_of_ble_eq_true rfl⟩ shM_0 (by decide) rfl rfl (Nat.le_of_ble_eq_true rfl) dX12_whoRead_53 ?_
    exact w_X12_whoRead_56 (a1 := a1) X E v9 s10 h
  · replace h := ifF h c8
    refine A_iconst X dX12_whoRead_44 (z := 0) (by decide) ?_
    refine A_goto X (tgt := 56) (by decide) dX12_whoRead_45 ?_
    exact w_X12_whoRead_56 (a1 := a1) X E 0 σ h
set_option maxRecDepth 100000 in
set_option maxHeartbeats 4000000 in
theorem w_X12_whoRead_28 {x : aC} {r : Int × Hp} {a1 : Int} (X : aX x cX12_whoRead wsX12_whoRead RX12 3 rm_X12_whoRead) (E : aE x shM (some .int) 0 r) (σ : Hp) (h : F_M_whoRead_28 a1 σ = some r) : aS x shM 3 28 [(0, vR 0), (1, vI a1)] [] σ := by
  unfold F_M_whoRead_28 at h
  refine A_aload_n X 0 rfl rfl dX12_whoRead_28 ?_
  refine A_iconst X dX12_whoRead_29 (z := 1) (by decide) ?_
  refine A_aload_n X 0 rfl rfl dX12_whoRead_30 ?_
  refine A_getI X fg_X12_whoRead_23 shM_0 (k := 4) rfl (by decide) dX12_whoRead_31 ?_
  obtain ⟨v12, s13, e14, h⟩ := clD h
  refine A_callV_V (na := 2) X (m_X12_blame e14) gX12_whoRead_X12_blame rfl ⟨rfl, rfl⟩ (by decide +kernel) rfl ⟨Nat.le_of_ble_eq_true rfl, Nat.le_of_ble_eq_true rfl⟩ shM_0 (by decide) rfl rfl (Nat.le_of_ble_eq_true rfl) dX12_whoRead_34 ?_
  exact w_X12_whoRead_37 (a1 := a1) X E s13 h
set_option maxRecDepth 100000 in
set_option maxHeartbeats 4000000 in
theorem m_X12_whoRead {l : Launch} {g : aG} {a1 : Int} {σ : Hp} {r : Int × Hp} (h : F_M_whoRead a1 σ = some r) : aMet l g shM yX12_whoRead wsX12_whoRead rm_X12_whoRead [vR 0, vI a1] σ 0 r := by
  unfold F_M_whoRead at h
  refine aMet_of (bytes := cX12_whoRead) (maxL := 3) (ret := (some .int)) (by decide +kernel) rfl (Nat.le_of_ble_eq_true rfl) ⟨rfl, rfl⟩ (fun x e1 e2 X E => ?_)
  subst e1; subst e2
  have X : aX x cX12_whoRead wsX12_whoRead RX12 3 rm_X12_whoRead := X
  show aS x shM 3 0 [(0, vR 0), (1, vI a1)] [] σ
  refine A_aload_n X 0 rfl rfl dX12_whoRead_0 ?_
  refine A_getI X fg_X12_whoRead_36 shM_0 (k := 8) rfl (by decide) dX12_whoRead_1 ?_
  refine A_if_le X (tgt := 9) (by decide) dX12_whoRead_4 (fun c15 => ?_) (fun c15 => ?_)
  · replace h := ifT h c15
    refine A_aload_n X 0 rfl rfl dX12_whoRead_9 ?_
    refine A_getI X fg_X12_whoRead_20 shM_0 (k := 3) rfl (by decide) dX12_whoRead_10 ?_
    refine A_iconst X dX12_whoRead_13 (z := 1) (by decide) ?_
    refine A_icmp_ne X (tgt := 28) (by decide) dX12_whoRead_14 (fun c16 => ?_) (fun c16 => ?_)
    · replace h := ifF h c16
      exact w_X12_whoRead_28 (a1 := a1) X E σ h
    · replace h := ifT h c16
      refine A_aload_n X 0 rfl rfl dX12_whoRead_17 ?_
      refine A_aload_n X 0 rfl rfl dX12_whoRead_18 ?_
      refine A_getL X fg_X12_whoRead_32 shM_0 (k := 7) rfl (by decide) dX12_whoRead_19 ?_
      obtain ⟨v17, s18, e19, h⟩ := clD h
      refine A_callV_I (na := 1) X (m_X12_isOwn e19) gX12_whoRead_X12_isOwn rfl ⟨rfl, rfl⟩ (by decide +kernel) rfl ⟨Nat.le_of_ble_eq_true rfl, Nat.le_of_ble_eq_true rfl⟩ shM_0 (by decide) rfl rfl (Nat.le_of_ble_eq_true rfl) dX12_whoRead_22 ?_
      refine A_if_eq X (tgt := 37) (by decide) dX12_whoRead_25 (fun c20 => ?_) (fun c20 => ?_)
      · replace h := ifT h c20
        exact w_X12_whoRead_37 (a1 := a1) X E s18 h
      · replace h := ifF h c20
        exact w_X12_whoRead_28 (a1 := a1) X E s18 h
  · replace h := ifF h c15
    refine A_iconst X dX12_whoRead_7 (z := 0) (by decide) ?_
    exact A_ireturn X E h dX12_whoRead_8
abbrev rm_X12_roadOf : Room := { frames := 0, cells := 0, slots := 0, locals := 0 }
theorem in_X12_roadOf_12 : ∀ w ∈ u_ws RX12 TX12 75, w ∈ wsX12_roadOf := fun w h => List.mem_cons_of_mem _ (List.mem_append_right _ h)
theorem fg_X12_roadOf_70 : aFl wsX12_roadOf RX12 70 12 19 := ⟨RX12, TX12, 75, rfl, in_X12_roadOf_12, by decide, (List.mem_of_getElem? (i := 3) rfl), rfl⟩
theorem fg_X12_roadOf_73 : aFl wsX12_roadOf RX12 73 12 20 := ⟨RX12, TX12, 75, rfl, in_X12_roadOf_12, by decide, (List.mem_of_getElem? (i := 4) rfl), rfl⟩
theorem fg_X12_roadOf_107 : aFl wsX12_roadOf RX12 107 12 31 := ⟨RX12, TX12, 75, rfl, in_X12_roadOf_12, by decide, (List.mem_of_getElem? (i := 1) rfl), rfl⟩
theorem fg_X12_roadOf_54 : aFl wsX12_roadOf RX12 54 12 14 := ⟨RX12, TX12, 75, rfl, in_X12_roadOf_12, by decide, (List.mem_of_getElem? (i := 2) rfl), rfl⟩
set_option maxRecDepth 100000 in
set_option maxHeartbeats 4000000 in
theorem w_X12_roadOf_69 {x : aC} {r : Int × Hp} {a1 : Int} {a2 : Int} (X : aX x cX12_roadOf wsX12_roadOf RX12 4 rm_X12_roadOf) (E : aE x shM (some .int) 0 r) (x3 : Int) (σ : Hp) (h : F_M_roadOf_69 a1 a2 x3 σ = some r) : aS x shM 4 69 [(3, vI x3)] [] σ := by
  unfold F_M_roadOf_69 at h
  refine A_iload_n X 0 rfl rfl dX12_roadOf_69 ?_
  exact A_ireturn X E h dX12_roadOf_70
set_option maxRecDepth 100000 in
set_option maxHeartbeats 4000000 in
theorem w_X12_roadOf_71 {x : aC} {r : Int × Hp} {k8 : Int × Hp → Option (Int × Hp)} {a1 : Int} {a2 : Int} (X : aX x cX12_roadOf wsX12_roadOf RX12 4 rm_X12_roadOf) (E : aE x shM (some .int) 0 r) (hk8 : ∀ (x3 : Int) (σ : Hp), k8 (x3, σ) = some r → aS x shM 4 8 [(0, vR 0), (1, vI a1), (2, vI a2), (3, vI x3)] [] σ) (x3 : Int) (σ : Hp) (h : F_M_roadOf_71 k8 a1 a2 x3 σ = some r) : aS x shM 4 71 [(0, vR 0), (1, vI a1), (2, vI a2), (3, vI x3)] [] σ := by
  unfold F_M_roadOf_71 at h
  refine A_iinc X (L' := fun y3_1 => [(3, vI y3_1), (0, vR 0), (1, vI a1), (2, vI a2)]) 3 rfl (by decide) (fun _ => rfl) dX12_roadOf_71 (by decide) (fun y3_1 hy => ?_)
  replace h := ltD h y3_1 hy
  clear hy
  refine A_goto X (tgt := 8) (by decide) dX12_roadOf_74 ?_
  refine A_sub [1, 2, 3, 0] rfl (L' := [(0, vR 0), (1, vI a1), (2, vI a2), (3, vI y3_1)]) rfl ?_
  exact hk8 y3_1 σ h
set_option maxRecDepth 100000 in
set_option maxHeartbeats 4000000 in
theorem w_X12_roadOf_49 {x : aC} {r : Int × Hp} {k8 : Int × Hp → Option (Int × Hp)} {a1 : Int} {a2 : Int} (X : aX x cX12_roadOf wsX12_roadOf RX12 4 rm_X12_roadOf) (E : aE x shM (some .int) 0 r) (hk8 : ∀ (x3 : Int) (σ : Hp), k8 (x3, σ) = some r → aS x shM 4 8 [(0, vR 0), (1, vI a1), (2, vI a2), (3, vI x3)] [] σ) (x3 : Int) (σ : Hp) (h : F_M_roadOf_49 k8 a1 a2 x3 σ = some r) : aS x shM 4 49 [(0, vR 0), (1, vI a1), (2, vI a2), (3, vI x3)] [] σ := by
  unfold F_M_roadOf_49 at h
  refine A_aload_n X 0 rfl rfl dX12_roadOf_49 ?_
  refine A_getR X fg_X12_roadOf_70 shM_0 (k := 19) rfl (by decide) dX12_roadOf_50 ?_
  refine A_iload_n X 3 rfl rfl dX12_roadOf_53 ?_
  obtain ⟨g2, h⟩ := gdD h
  refine A_iald X g2 shM_8 dX12_roadOf_54 ?_
  refine A_iload_n X 2 rfl rfl dX12_roadOf_55 ?_
  refine A_icmp_ne X (tgt := 71) (by decide) dX12_roadOf_56 (fun c3 => ?_) (fun c3 => ?_)
  · replace h := ifF h c3
    exact w_X12_roadOf_71 (a1 := a1) (a2 := a2) X E hk8 x3 σ h
  · replace h := ifT h c3
    refine A_aload_n X 0 rfl rfl dX12_roadOf_59 ?_
    refine A_getR X fg_X12_roadOf_73 shM_0 (k := 20) rfl (by decide) dX12_roadOf_60 ?_
    refine A_iload_n X 3 rfl rfl dX12_roadOf_63 ?_
    obtain ⟨g4, h⟩ := gdD h
    refine A_iald X g4 shM_9 dX12_roadOf_64 ?_
    refine A_iload_n X 1 rfl rfl dX12_roadOf_65 ?_
    refine A_icmp_ne X (tgt := 71) (by decide) dX12_roadOf_66 (fun c5 => ?_) (fun c5 => ?_)
    · replace h := ifF h c5
      exact w_X12_roadOf_71 (a1 := a1) (a2 := a2) X E hk8 x3 σ h
    · replace h := ifT h c5
      refine A_sub [3] rfl (L' := [(3, vI x3)]) rfl ?_
      exact w_X12_roadOf_69 (a1 := a1) (a2 := a2) X E x3 σ h
set_option maxRecDepth 100000 in
set_option maxHeartbeats 4000000 in
theorem w_X12_roadOf_8_b {x : aC} {r : Int × Hp} {k8 : Int × Hp → Option (Int × Hp)} {a1 : Int} {a2 : Int} (X : aX x cX12_roadOf wsX12_roadOf RX12 4 rm_X12_roadOf) (E : aE x shM (some .int) 0 r) (hk8 : ∀ (x3 : Int) (σ : Hp), k8 (x3, σ) = some r → aS x shM 4 8 [(0, vR 0), (1, vI a1), (2, vI a2), (3, vI x3)] [] σ) (x3 : Int) (σ : Hp) (h : F_M_roadOf_8_b k8 a1 a2 x3 σ = some r) : aS x shM 4 8 [(0, vR 0), (1, vI a1), (2, vI a2), (3, vI x3)] [] σ := by
  unfold F_M_roadOf_8_b at h
  refine A_iload_n X 3 rfl rfl dX12_roadOf_8 ?_
  refine A_bipush X dX12_roadOf_9 (z := 30) (by decide) ?_
  refine A_aload_n X 0 rfl rfl dX12_roadOf_11 ?_
  refine A_getI X fg_X12_roadOf_107 shM_0 (k := 31) rfl (by decide) dX12_roadOf_12 ?_
  refine A_imul X dX12_roadOf_15 ?_
  refine A_aload_n X 0 rfl rfl dX12_roadOf_16 ?_
  refine A_getR X fg_X12_roadOf_54 shM_0 (k := 14) rfl (by decide) dX12_roadOf_17 ?_
  refine A_aload_n X 0 rfl rfl dX12_roadOf_20 ?_
  refine A_getI X fg_X12_roadOf_107 shM_0 (k := 31) rfl (by decide) dX12_roadOf_21 ?_
  obtain ⟨g6, h⟩ := gdD h
  refine A_iald X g6 shM_3 dX12_roadOf_24 ?_
  refine A_iadd X dX12_roadOf_25 ?_
  refine A_icmp_ge X (tgt := 77) (by decide) dX12_roadOf_26 (fun c7 => ?_) (fun c7 => ?_)
  · replace h := ifT h c7
    refine A_iconst X dX12_roadOf_77 (z := (-1)) (by decide) ?_
    exact A_ireturn X E h dX12_roadOf_78
  · replace h := ifF h c7
    refine A_aload_n X 0 rfl rfl dX12_roadOf_29 ?_
    refine A_getR X fg_X12_roadOf_70 shM_0 (k := 19) rfl (by decide) dX12_roadOf_30 ?_
    refine A_iload_n X 3 rfl rfl dX12_roadOf_33 ?_
    obtain ⟨g8, h⟩ := gdD h
    refine A_iald X g8 shM_8 dX12_roadOf_34 ?_
    refine A_iload_n X 1 rfl rfl dX12_roadOf_35 ?_
    refine A_icmp_ne X (tgt := 49) (by decide) dX12_roadOf_36 (fun c9 => ?_) (fun c9 => ?_)
    · replace h := ifF h c9
      exact w_X12_roadOf_49 (a1 := a1) (a2 := a2) X E hk8 x3 σ h
    · replace h := ifT h c9
      refine A_aload_n X 0 rfl rfl dX12_roadOf_39 ?_
      refine A_getR X fg_X12_roadOf_73 shM_0 (k := 20) rfl (by decide) dX12_roadOf_40 ?_
      refine A_iload_n X 3 rfl rfl dX12_roadOf_43 ?_
      obtain ⟨g10, h⟩ := gdD h
      refine A_iald X g10 shM_9 dX12_roadOf_44 ?_
      refine A_iload_n X 2 rfl rfl dX12_roadOf_45 ?_
      refine A_icmp_eq X (tgt := 69) (by decide) dX12_roadOf_46 (fun c11 => ?_) (fun c11 => ?_)
      · replace h := ifT h c11
        refine A_sub [3] rfl (L' := [(3, vI x3)]) rfl ?_
        exact w_X12_roadOf_69 (a1 := a1) (a2 := a2) X E x3 σ h
      · replace h := ifF h c11
        exact w_X12_roadOf_49 (a1 := a1) (a2 := a2) X E hk8 x3 σ h
set_option maxRecDepth 100000 in
set_option maxHeartbeats 4000000 in
theorem w_X12_roadOf_8 {x : aC} {r : Int × Hp} {a1 : Int} {a2 : Int} (X : aX x cX12_roadOf wsX12_roadOf RX12 4 rm_X12_roadOf) (E : aE x shM (some .int) 0 r) : ∀ (n : Nat) (x3 : Int) (σ : Hp) (h : F_M_roadOf_8 a1 a2 n (x3, σ) = some r), aS x shM 4 8 [(0, vR 0), (1, vI a1), (2, vI a2), (3, vI x3)] [] σ := by
  intro n
  induction n with
  | zero => intro x3 σ h; cases h
  | succ n ih => intro x3 σ h; exact w_X12_roadOf_8_b (a1 := a1) (a2 := a2) (k8 := F_M_roadOf_8 a1 a2 n) X E ih x3 σ h
set_option maxRecDepth 100000 in
set_option maxHeartbeats 4000000 in
theorem m_X12_roadOf {l : Launch} {g : aG} {a1 : Int} {a2 : Int} {σ : Hp} {r : Int × Hp} (h : F_M_roadOf a1 a2 σ = some r) : aMet l g shM yX12_roadOf wsX12_roadOf rm_X12_roadOf [vR 0, vI a1, vI a2] σ 0 r := by
  unfold F_M_roadOf at h
  refine aMet_of (bytes := cX12_roadOf) (maxL := 4) (ret := (some .int)) (by decide +kernel) rfl (Nat.le_of_ble_eq_true rfl) ⟨rfl, rfl⟩ (fun x e1 e2 X E => ?_)
  subst e1; subst e2
  have X : aX x cX12_roadOf wsX12_roadOf RX12 4 rm_X12_roadOf := X
  show aS x shM 4 0 [(0, vR 0), (1, vI a1), (2, vI a2)] [] σ
  refine A_bipush X dX12_roadOf_0 (z := 30) (by decide) ?_
  refine A_aload_n X 0 rfl rfl dX12_roadOf_2 ?_
  refine A_getI X fg_X12_roadOf_107 shM_0 (k := 31) rfl (by decide) dX12_roadOf_3 ?_
  refine A_imul X dX12_roadOf_6 ?_
  refine A_istore_nN X (L' := fun y3_12 => [(3, vI y3_12), (0, vR 0), (1, vI a1), (2, vI a2)]) rfl (by decide) (fun _ => rfl) dX12_roadOf_7 (fun y3_12 hy => ?_)
  replace h := ltD h y3_12 hy
  clear hy
  refine A_sub [1, 2, 3, 0] rfl (L' := [(0, vR 0), (1, vI a1), (2, vI a2), (3, vI y3_12)]) rfl ?_
  exact w_X12_roadOf_8 (a1 := a1) (a2 := a2) X E FU y3_12 σ h
abbrev rm_X12_number : Room := { frames := 2, cells := 0, slots := 0, locals := 47 }
theorem in_X12_number_12 : ∀ w ∈ u_ws RX12 TX12 75, w ∈ wsX12_number := fun w h => List.mem_cons_of_mem _ (List.mem_append_right _ h)
theorem fg_X12_number_29 : aFl wsX12_number RX12 29 12 6 := ⟨RX12, TX12, 75, rfl, in_X12_number_12, by decide, (List.mem_of_getElem? (i := 4) rfl), rfl⟩
theorem fg_X12_number_36 : aFl wsX12_number RX12 36 12 8 := ⟨RX12, TX12, 75, rfl, in_X12_number_12, by decide, (List.mem_of_getElem? (i := 1) rfl), rfl⟩
theorem fg_X12_number_20 : aFl wsX12_number RX12 20 12 3 := ⟨RX12, TX12, 75, rfl, in_X12_number_12, by decide, (List.mem_of_getElem? (i := 2) rfl), rfl⟩
theorem fg_X12_number_23 : aFl wsX12_number RX12 23 12 4 := ⟨RX12, TX12, 75, rfl, in_X12_number_12, by decide, (List.mem_of_getElem? (i := 3) rfl), rfl⟩
set_option maxRecDepth 100000 in
set_option maxHeartbeats 4000000 in
theorem w_X12_number_42 {x : aC} {r : Int × Hp} (X : aX x cX12_number wsX12_number RX12 2 rm_X12_number) (E : aE x shM (some .int) 0 r) (x1 : Int) (σ : Hp) (h : F_M_number_42 x1 σ = some r) : aS x shM 2 42 [(1, vI x1)] [] σ := by
  unfold F_M_number_42 at h
  refine A_iload_n X 0 rfl rfl dX12_number_42 ?_
  exact A_ireturn X E h dX12_number_43
set_option maxRecDepth 100000 in
set_option maxHeartbeats 4000000 in
theorem w_X12_number_26 {x : aC} {r : Int × Hp} (X : aX x cX12_number wsX12_number RX12 2 rm_X12_number) (E : aE x shM (some .int) 0 r) (σ : Hp) (h : F_M_number_26 σ = some r) : aS x shM 2 26 [(0, vR 0)] [] σ := by
  unfold F_M_number_26 at h
  refine A_aload_n X 0 rfl rfl dX12_number_26 ?_
  refine A_getI X fg_X12_number_29 shM_0 (k := 6) rfl (by decide) dX12_number_27 ?_
  refine A_istore_nN X (L' := fun y1_1 => [(1, vI y1_1), (0, vR 0)]) rfl (by decide) (fun _ => rfl) dX12_number_30 (fun y1_1 hy => ?_)
  replace h := ltD h y1_1 hy
  clear hy
  refine A_aload_n X 1 rfl rfl dX12_number_31 ?_
  refine A_getI X fg_X12_number_36 shM_0 (k := 8) rfl (by decide) dX12_number_32 ?_
  refine A_if_ne X (tgt := 42) (by decide) dX12_number_35 (fun c2 => ?_) (fun c2 => ?_)
  · replace h := ifF h c2
    refine A_sub [0] rfl (L' := [(1, vI y1_1)]) rfl ?_
    exact w_X12_number_42 X E y1_1 σ h
  · replace h := ifT h c2
    refine A_aload_n X 1 rfl rfl dX12_number_38 ?_
    obtain ⟨v3, s4, e5, h⟩ := clD h
    refine A_callV_V (na := 0) X (m_X12_next e5) gX12_number_X12_next rfl ⟨rfl, rfl⟩ (by decide +kernel) rfl ⟨Nat.le_of_ble_eq_true rfl, Nat.le_of_ble_eq_true rfl⟩ shM_0 (by decide) rfl rfl (Nat.le_of_ble_eq_true rfl) dX12_number_39 ?_
    refine A_sub [0] rfl (L' := [(1, vI y1_1)]) rfl ?_
    exact w_X12_number_42 X E y1_1 s4 h
set_option maxRecDepth 100000 in
set_option maxHeartbeats 4000000 in
theorem m_X12_number {l : Launch} {g : aG} {σ : Hp} {r : Int × Hp} (h : F_M_number σ = some r) : aMet l g shM yX12_number wsX12_number rm_X12_number [vR 0] σ 0 r := by
  unfold F_M_number at h
  refine aMet_of (bytes := cX12_number) (maxL := 2) (ret := (some .int)) (by decide +kernel) rfl (Nat.le_of_ble_eq_true rfl) ⟨rfl, rfl⟩ (fun x e1 e2 X E => ?_)
  subst e1; subst e2
  have X : aX x cX12_number wsX12_number RX12 2 rm_X12_number := X
  show aS x shM 2 0 [(0, vR 0)] [] σ
  refine A_aload_n X 0 rfl rfl dX12_number_0 ?_
  refine A_getI X fg_X12_number_36 shM_0 (k := 8) rfl (by decide) dX12_number_1 ?_
  refine A_if_le X (tgt := 9) (by decide) dX12_number_4 (fun c6 => ?_) (fun c6 => ?_)
  · replace h := ifT h c6
    refine A_aload_n X 0 rfl rfl dX12_number_9 ?_
    refine A_getI X fg_X12_number_20 shM_0 (k := 3) rfl (by decide) dX12_number_10 ?_
    refine A_iconst X dX12_number_13 (z := 2) (by decide) ?_
    refine A_icmp_eq X (tgt := 26) (by decide) dX12_number_14 (fun c7 => ?_) (fun c7 => ?_)
    · replace h := ifT h c7
      exact w_X12_number_26 X E σ h
    · replace h := ifF h c7
      refine A_aload_n X 0 rfl rfl dX12_number_17 ?_
      refine A_iconst X dX12_number_18 (z := 1) (by decide) ?_
      refine A_aload_n X 0 rfl rfl dX12_number_19 ?_
      refine A_getI X fg_X12_number_23 shM_0 (k := 4) rfl (by decide) dX12_number_20 ?_
      obtain ⟨v8, s9, e10, h⟩ := clD h
      refine A_callV_V (na := 2) X (m_X12_blame e10) gX12_number_X12_blame rfl ⟨rfl, rfl⟩ (by decide +kernel) rfl ⟨Nat.le_of_ble_eq_true rfl, Nat.le_of_ble_eq_true rfl⟩ shM_0 (by decide) rfl rfl (Nat.le_of_ble_eq_true rfl) dX12_number_23 ?_
      exact w_X12_number_26 X E s9 h
  · replace h := ifF h c6
    refine A_iconst X dX12_number_7 (z := 0) (by decide) ?_
    exact A_ireturn X E h dX12_number_8
abbrev rm_X12_doubt : Room := { frames := 3, cells := 0, slots := 0, locals := 68 }
theorem in_X12_doubt_12 : ∀ w ∈ u_ws RX12 TX12 75, w ∈ wsX12_doubt := fun w h => List.mem_cons_of_mem _ (List.mem_append_right _ h)
theorem fg_X12_doubt_36 : aFl wsX12_doubt RX12 36 12 8 := ⟨RX12, TX12, 75, rfl, in_X12_doubt_12, by decide, (List.mem_of_getElem? (i := 3) rfl), rfl⟩
theorem fg_X12_doubt_88 : aFl wsX12_doubt RX12 88 12 25 := ⟨RX12, TX12, 75, rfl, in_X12_doubt_12, by decide, (List.mem_of_getElem? (i := 5) rfl), rfl⟩
theorem fg_X12_doubt_60 : aFl wsX12_doubt RX12 60 12 16 := ⟨RX12, TX12, 75, rfl, in_X12_doubt_12, by decide, (List.mem_of_getElem? (i := 1) rfl), rfl⟩
theorem fg_X12_doubt_107 : aFl wsX12_doubt RX12 107 12 31 := ⟨RX12, TX12, 75, rfl, in_X12_doubt_12, by decide, (List.mem_of_getElem? (i := 2) rfl), rfl⟩
theorem fg_X12_doubt_23 : aFl wsX12_doubt RX12 23 12 4 := ⟨RX12, TX12, 75, rfl, in_X12_doubt_12, by decide, (List.mem_of_getElem? (i := 4) rfl), rfl⟩
set_option maxRecDepth 100000 in
set_option maxHeartbeats 4000000 in
theorem w_X12_doubt_104 {x : aC} {r : Int × Hp} (X : aX x cX12_doubt wsX12_doubt RX12 5 rm_X12_doubt) (E : aE x shM none 3 r) (x3 : Int) (σ : Hp) (h : F_M_doubt_104 x3 σ = some r) : aS x shM 5 104 [(0, vR 0), (3, vI x3)] [] σ := by
  unfold F_M_doubt_104 at h
  refine A_aload_n X 0 rfl rfl dX12_doubt_104 ?_
  obtain ⟨v1, s2, e3, h⟩ := clD h
  refine A_callV_I (na := 0) X (m_X12_number e3) gX12_doubt_X12_number rfl ⟨rfl, rfl⟩ (by decide +kernel) rfl ⟨Nat.le_of_ble_eq_true rfl, Nat.le_of_ble_eq_true rfl⟩ shM_0 (by decide) rfl rfl (Nat.le_of_ble_eq_true rfl) dX12_doubt_105 ?_
  refine A_istore X (L' := [(4, vI v1), (0, vR 0), (3, vI x3)]) (by decide) rfl dX12_doubt_108 ?_
  refine A_aload_n X 1 rfl rfl dX12_doubt_110 ?_
  refine A_getI X fg_X12_doubt_36 shM_0 (k := 8) rfl (by decide) dX12_doubt_111 ?_
  refine A_if_le X (tgt := 118) (by decide) dX12_doubt_114 (fun c4 => ?_) (fun c4 => ?_)
  · replace h := ifT h c4
    refine A_aload_n X 1 rfl rfl dX12_doubt_118 ?_
    refine A_getR X fg_X12_doubt_88 shM_0 (k := 25) rfl (by decide) dX12_doubt_119 ?_
    refine A_iload_n X 2 rfl rfl dX12_doubt_122 ?_
    refine A_iload X 0 rfl dX12_doubt_123 ?_
    obtain ⟨g5, h⟩ := gdD h
    refine A_iast X g5 shM_14 dX12_doubt_125 (fun s6 hy => ?_)
    replace h := ltD h s6 hy
    clear hy
    refine A_aload_n X 1 rfl rfl dX12_doubt_126 ?_
    refine A_getR X fg_X12_doubt_60 shM_0 (k := 16) rfl (by decide) dX12_doubt_127 ?_
    refine A_aload_n X 1 rfl rfl dX12_doubt_130 ?_
    refine A_getI X fg_X12_doubt_107 shM_0 (k := 31) rfl (by decide) dX12_doubt_131 ?_
    refine A_dup2 X (by show ¬ (0 : Nat) = 1; decide) (by show ¬ (2 : Nat) = 1; decide) dX12_doubt_134 ?_
    obtain ⟨g7, h⟩ := gdD h
    refine A_iald X g7 shM_5 dX12_doubt_135 ?_
    refine A_iconst X dX12_doubt_136 (z := 1) (by decide) ?_
    refine A_iadd X dX12_doubt_137 ?_
    obtain ⟨g8, h⟩ := gdD h
    refine A_iast X g8 shM_5 dX12_doubt_138 (fun s9 hy => ?_)
    replace h := ltD h s9 hy
    clear hy
    exact A_return X E h dX12_doubt_139
  · replace h := ifF h c4
    exact A_return X E h dX12_doubt_117
set_option maxRecDepth 100000 in
set_option maxHeartbeats 4000000 in
theorem w_X12_doubt_93 {x : aC} {r : Int × Hp} (X : aX x cX12_doubt wsX12_doubt RX12 5 rm_X12_doubt) (E : aE x shM none 3 r) (x3 : Int) (σ : Hp) (h : F_M_doubt_93 x3 σ = some r) : aS x shM 5 93 [(0, vR 0), (3, vI x3)] [] σ := by
  unfold F_M_doubt_93 at h
  refine A_aload_n X 0 rfl rfl dX12_doubt_93 ?_
  refine A_getI X fg_X12_doubt_36 shM_0 (k := 8) rfl (by decide) dX12_doubt_94 ?_
  refine A_if_ne X (tgt := 104) (by decide) dX12_doubt_97 (fun c10 => ?_) (fun c10 => ?_)
  · replace h := ifF h c10
    exact w_X12_doubt_104 X E x3 σ h
  · replace h := ifT h c10
    refine A_aload_n X 0 rfl rfl dX12_doubt_100 ?_
    obtain ⟨v11, s12, e13, h⟩ := clD h
    refine A_callV_V (na := 0) X (m_X12_next e13) gX12_doubt_X12_next rfl ⟨rfl, rfl⟩ (by decide +kernel) rfl ⟨Nat.le_of_ble_eq_true rfl, Nat.le_of_ble_eq_true rfl⟩ shM_0 (by decide) rfl rfl (Nat.le_of_ble_eq_true rfl) dX12_doubt_101 ?_
    exact w_X12_doubt_104 X E x3 s12 h
set_option maxRecDepth 100000 in
set_option maxHeartbeats 4000000 in
theorem w_X12_doubt_71 {x : aC} {r : Int × Hp} (X : aX x cX12_doubt wsX12_doubt RX12 5 rm_X12_doubt) (E : aE x shM none 3 r) (t1 : Int) (σ : Hp) (h : F_M_doubt_71 t1 σ = some r) : aS x shM 5 71 [(0, vR 0)] [vI t1] σ := by
  unfold F_M_doubt_71 at h
  refine A_istore_n X (L' := [(3, vI t1), (0, vR 0)]) rfl (by decide) rfl dX12_doubt_71 ?_
  refine A_aload_n X 1 rfl rfl dX12_doubt_72 ?_
  refine A_getI X fg_X12_doubt_36 shM_0 (k := 8) rfl (by decide) dX12_doubt_73 ?_
  refine A_if_ne X (tgt := 93) (by decide) dX12_doubt_76 (fun c14 => ?_) (fun c14 => ?_)
  · replace h := ifF h c14
    refine A_sub [1, 0] rfl (L' := [(0, vR 0), (3, vI t1)]) rfl ?_
    exact w_X12_doubt_93 X E t1 σ h
  · replace h := ifT h c14
    refine A_iload_n X 0 rfl rfl dX12_doubt_79 ?_
    refine A_iconst X dX12_doubt_80 (z := (-1)) (by decide) ?_
    refine A_icmp_ne X (tgt := 93) (by decide) dX12_doubt_81 (fun c15 => ?_) (fun c15 => ?_)
    · replace h := ifF h c15
      refine A_sub [1, 0] rfl (L' := [(0, vR 0), (3, vI t1)]) rfl ?_
      exact w_X12_doubt_93 X E t1 σ h
    · replace h := ifT h c15
      refine A_aload_n X 1 rfl rfl dX12_doubt_84 ?_
      refine A_iconst X dX12_doubt_85 (z := 3) (by decide) ?_
      refine A_aload_n X 1 rfl rfl dX12_doubt_86 ?_
      refine A_getI X fg_X12_doubt_23 shM_0 (k := 4) rfl (by decide) dX12_doubt_87 ?_
      obtain ⟨v16, s17, e18, h⟩ := clD h
      refine A_callV_V (na := 2) X (m_X12_blame e18) gX12_doubt_X12_blame rfl ⟨rfl, rfl⟩ (by decide +kernel) rfl ⟨Nat.le_of_ble_eq_true rfl, Nat.le_of_ble_eq_true rfl⟩ shM_0 (by decide) rfl rfl (Nat.le_of_ble_eq_true rfl) dX12_doubt_90 ?_
      refine A_sub [1, 0] rfl (L' := [(0, vR 0), (3, vI t1)]) rfl ?_
      exact w_X12_doubt_93 X E t1 s17 h
set_option maxRecDepth 100000 in
set_option maxHeartbeats 4000000 in
theorem w_X12_doubt_48 {x : aC} {r : Int × Hp} (X : aX x cX12_doubt wsX12_doubt RX12 5 rm_X12_doubt) (E : aE x shM none 3 r) (x1 : Int) (σ : Hp) (h : F_M_doubt_48 x1 σ = some r) : aS x shM 5 48 [(0, vR 0), (1, vI x1)] [] σ := by
  unfold F_M_doubt_48 at h
  refine A_aload_n X 0 rfl rfl dX12_doubt_48 ?_
  refine A_iload_n X 1 rfl rfl dX12_doubt_49 ?_
  obtain ⟨v19, s20, e21, h⟩ := clD h
  refine A_callV_I (na := 1) X (m_X12_whoRead e21) gX12_doubt_X12_whoRead rfl ⟨rfl, rfl⟩ (by decide +kernel) rfl ⟨Nat.le_of_ble_eq_true rfl, Nat.le_of_ble_eq_true rfl⟩ shM_0 (by decide) rfl rfl (Nat.le_of_ble_eq_true rfl) dX12_doubt_50 ?_
  refine A_istore_n X (L' := [(2, vI v19), (0, vR 0), (1, vI x1)]) rfl (by decide) rfl dX12_doubt_53 ?_
  refine A_aload_n X 1 rfl rfl dX12_doubt_54 ?_
  refine A_getI X fg_X12_doubt_36 shM_0 (k := 8) rfl (by decide) dX12_doubt_55 ?_
  refine A_if_le X (tgt := 65) (by decide) dX12_doubt_58 (fun c22 => ?_) (fun c22 => ?_)
  · replace h := ifT h c22
    refine A_aload_n X 1 rfl rfl dX12_doubt_65 ?_
    refine A_iload_n X 2 rfl rfl dX12_doubt_66 ?_
    refine A_iload_n X 0 rfl rfl dX12_doubt_67 ?_
    obtain ⟨v23, s24, e25, h⟩ := clD h
    refine A_callV_I (na := 2) X (m_X12_roadOf e25) gX12_doubt_X12_roadOf rfl ⟨rfl, rfl⟩ (by decide +kernel) rfl ⟨Nat.le_of_ble_eq_true rfl, Nat.le_of_ble_eq_true rfl⟩ shM_0 (by decide) rfl rfl (Nat.le_of_ble_eq_true rfl) dX12_doubt_68 ?_
    refine A_sub [1] rfl (L' := [(0, vR 0)]) rfl ?_
    exact w_X12_doubt_71 X E v23 s24 h
  · replace h := ifF h c22
    refine A_iconst X dX12_doubt_61 (z := 0) (by decide) ?_
    refine A_goto X (tgt := 71) (by decide) dX12_doubt_62 ?_
    refine A_sub [1] rfl (L' := [(0, vR 0)]) rfl ?_
    exact w_X12_doubt_71 X E 0 s20 h
set_option maxRecDepth 100000 in
set_option maxHeartbeats 4000000 in
theorem w_X12_doubt_20 {x : aC} {r : Int × Hp} (X : aX x cX12_doubt wsX12_doubt RX12 5 rm_X12_doubt) (E : aE x shM none 3 r) (t2 : Int) (σ : Hp) (h : F_M_doubt_20 t2 σ = some r) : aS x shM 5 20 [(0, vR 0)] [vI t2, vR 0] σ := by
  unfold F_M_doubt_20 at h
  obtain ⟨v26, s27, e28, h⟩ := clD h
  refine A_callV_V (na := 1) X (m_X12_counts e28) gX12_doubt_X12_counts rfl ⟨rfl, rfl⟩ (by decide +kernel) rfl ⟨Nat.le_of_ble_eq_true rfl, Nat.le_of_ble_eq_true rfl⟩ shM_0 (by decide) rfl rfl (Nat.le_of_ble_eq_true rfl) dX12_doubt_20 ?_
  refine A_aload_n X 0 rfl rfl dX12_doubt_23 ?_
  refine A_getI X fg_X12_doubt_36 shM_0 (k := 8) rfl (by decide) dX12_doubt_24 ?_
  refine A_if_le X (tgt := 31) (by decide) dX12_doubt_27 (fun c29 => ?_) (fun c29 => ?_)
  · replace h := ifT h c29
    refine A_aload_n X 0 rfl rfl dX12_doubt_31 ?_
    refine A_iconst X dX12_doubt_32 (z := (-1)) (by decide) ?_
    obtain ⟨v30, s31, e32, h⟩ := clD h
    refine A_callV_I (na := 1) X (m_X12_whoRead e32) gX12_doubt_X12_whoRead rfl ⟨rfl, rfl⟩ (by decide +kernel) rfl ⟨Nat.le_of_ble_eq_true rfl, Nat.le_of_ble_eq_true rfl⟩ shM_0 (by decide) rfl rfl (Nat.le_of_ble_eq_true rfl) dX12_doubt_33 ?_
    refine A_istore_n X (L' := [(1, vI v30), (0, vR 0)]) rfl (by decide) rfl dX12_doubt_36 ?_
    refine A_aload_n X 1 rfl rfl dX12_doubt_37 ?_
    refine A_getI X fg_X12_doubt_36 shM_0 (k := 8) rfl (by decide) dX12_doubt_38 ?_
    refine A_if_ne X (tgt := 48) (by decide) dX12_doubt_41 (fun c33 => ?_) (fun c33 => ?_)
    · replace h := ifF h c33
      refine A_sub [1, 0] rfl (L' := [(0, vR 0), (1, vI v30)]) rfl ?_
      exact w_X12_doubt_48 X E v30 s31 h
    · replace h := ifT h c33
      refine A_aload_n X 1 rfl rfl dX12_doubt_44 ?_
      obtain ⟨v34, s35, e36, h⟩ := clD h
      refine A_callV_V (na := 0) X (m_X12_next e36) gX12_doubt_X12_next rfl ⟨rfl, rfl⟩ (by decide +kernel) rfl ⟨Nat.le_of_ble_eq_true rfl, Nat.le_of_ble_eq_true rfl⟩ shM_0 (by decide) rfl rfl (Nat.le_of_ble_eq_true rfl) dX12_doubt_45 ?_
      refine A_sub [1, 0] rfl (L' := [(0, vR 0), (1, vI v30)]) rfl ?_
      exact w_X12_doubt_48 X E v30 s35 h
  · replace h := ifF h c29
    exact A_return X E h dX12_doubt_30
set_option maxRecDepth 100000 in
set_option maxHeartbeats 4000000 in
theorem m_X12_doubt {l : Launch} {g : aG} {σ : Hp} {r : Int × Hp} (h : F_M_doubt σ = some r) : aMet l g shM yX12_doubt wsX12_doubt rm_X12_doubt [vR 0] σ 3 r := by
  unfold F_M_doubt at h
  refine aMet_of (bytes := cX12_doubt) (maxL := 5) (ret := none) (by decide +kernel) rfl (Nat.le_of_ble_eq_true rfl) ⟨rfl, rfl⟩ (fun x e1 e2 X E => ?_)
  subst e1; subst e2
  have X : aX x cX12_doubt wsX12_doubt RX12 5 rm_X12_doubt := X
  show aS x shM 5 0 [(0, vR 0)] [] σ
  refine A_aload_n X 0 rfl rfl dX12_doubt_0 ?_
  refine A_aload_n X 0 rfl rfl dX12_doubt_1 ?_
  refine A_getR X fg_X12_doubt_60 shM_0 (k := 16) rfl (by decide) dX12_doubt_2 ?_
  refine A_aload_n X 0 rfl rfl dX12_doubt_5 ?_
  refine A_getI X fg_X12_doubt_107 shM_0 (k := 31) rfl (by decide) dX12_doubt_6 ?_
  obtain ⟨g37, h⟩ := gdD h
  refine A_iald X g37 shM_5 dX12_doubt_9 ?_
  refine A_bipush X dX12_doubt_10 (z := 24) (by decide) ?_
  refine A_icmp_ne X (tgt := 19) (by decide) dX12_doubt_12 (fun c38 => ?_) (fun c38 => ?_)
  · replace h := ifF h c38
    refine A_iconst X dX12_doubt_19 (z := 0) (by decide) ?_
    exact w_X12_doubt_20 X E 0 σ h
  · replace h := ifT h c38
    refine A_iconst X dX12_doubt_15 (z := 1) (by decide) ?_
    refine A_goto X (tgt := 20) (by decide) dX12_doubt_16 ?_
    exact w_X12_doubt_20 X E 1 σ h
abbrev rm_X12_end : Room := { frames := 0, cells := 0, slots := 0, locals := 0 }
theorem in_X12_end_12 : ∀ w ∈ u_ws RX12 TX12 75, w ∈ wsX12_end := fun w h => List.mem_cons_of_mem _ (List.mem_append_right _ h)
theorem fg_X12_end_13 : aFl wsX12_end RX12 13 12 1 := ⟨RX12, TX12, 75, rfl, in_X12_end_12, by decide, (List.mem_of_getElem? (i := 1) rfl), rfl⟩
theorem fp_X12_end_13 : aFp wsX12_end RX12 13 12 1 .int := ⟨RX12, TX12, 75, tyX12, rfl, in_X12_end_12, by decide, (List.mem_of_getElem? (i := 1) rfl), rfl, tyX12_ok, nmX12, rfl, rfl⟩
set_option maxRecDepth 100000 in
set_option maxHeartbeats 4000000 in
theorem w_X12_end_12 {x : aC} {r : Int × Hp} {a1 : Int} (X : aX x cX12_end wsX12_end RX12 2 rm_X12_end) (E : aE x shM (some .boolean) 0 r) (σ : Hp) (h : F_M_end_12 a1 σ = some r) : aS x shM 2 12 [] [] σ := by
  unfold F_M_end_12 at h
  refine A_iconst X dX12_end_12 (z := 0) (by decide) ?_
  exact A_zreturn X (Or.inl rfl) E h dX12_end_13
set_option maxRecDepth 100000 in
set_option maxHeartbeats 4000000 in
theorem m_X12_end {l : Launch} {g : aG} {a1 : Int} {σ : Hp} {r : Int × Hp} (h : F_M_end a1 σ = some r) : aMet l g shM yX12_end wsX12_end rm_X12_end [vR 0, vI a1] σ 0 r := by
  unfold F_M_end at h
  refine aMet_of (bytes := cX12_end) (maxL := 2) (ret := (some .boolean)) (by decide +kernel) rfl (Nat.le_of_ble_eq_true rfl) ⟨rfl, rfl⟩ (fun x e1 e2 X E => ?_)
  subst e1; subst e2
  have X : aX x cX12_end wsX12_end RX12 2 rm_X12_end := X
  show aS x shM 2 0 [(0, vR 0), (1, vI a1)] [] σ
  refine A_iload_n X 1 rfl rfl dX12_end_0 ?_
  refine A_if_lt X (tgt := 12) (by decide) dX12_end_1 (fun c1 => ?_) (fun c1 => ?_)
  · replace h := ifT h c1
    refine A_sub [] rfl (L' := []) rfl ?_
    exact w_X12_end_12 (a1 := a1) X E σ h
  · replace h := ifF h c1
    refine A_iload_n X 1 rfl rfl dX12_end_4 ?_
    refine A_aload_n X 0 rfl rfl dX12_end_5 ?_
    refine A_getI X fg_X12_end_13 shM_0 (k := 1) rfl (by decide) dX12_end_6 ?_
    refine A_icmp_le X (tgt := 14) (by decide) dX12_end_9 (fun c2 => ?_) (fun c2 => ?_)
    · replace h := ifT h c2
      refine A_aload_n X 0 rfl rfl dX12_end_14 ?_
      refine A_iload_n X 1 rfl rfl dX12_end_15 ?_
      refine A_putI X fp_X12_end_13 shM_0 (k := 1) rfl (by decide) dX12_end_16 (fun s3 hy => ?_)
      replace h := ltD h s3 hy
      clear hy
      refine A_iconst X dX12_end_19 (z := 1) (by decide) ?_
      exact A_zreturn X (Or.inr rfl) E h dX12_end_20
    · replace h := ifF h c2
      refine A_sub [] rfl (L' := []) rfl ?_
      exact w_X12_end_12 (a1 := a1) X E σ h
abbrev rm_X12_end_ : Room := { frames := 5, cells := 0, slots := 0, locals := 123 }
set_option maxRecDepth 100000 in
set_option maxHeartbeats 4000000 in
theorem w_X12_end__42 {x : aC} {r : Int × Hp} {a1 : Int} {a2 : Int} (X : aX x cX12_end_ wsX12_end_ RX12 3 rm_X12_end_) (E : aE x shM (some .int) 0 r) (t1 : Int) (σ : Hp) (h : F_M_end__42 a1 a2 t1 σ = some r) : aS x shM 3 42 [] [vI t1] σ := by
  unfold F_M_end__42 at h
  exact A_ireturn X E h dX12_end__42
set_option maxRecDepth 100000 in
set_option maxHeartbeats 4000000 in
theorem m_X12_end_ {l : Launch} {g : aG} {a1 : Int} {a2 : Int} {σ : Hp} {r : Int × Hp} (h : F_M_end_ a1 a2 σ = some r) : aMet l g shM yX12_end_ wsX12_end_ rm_X12_end_ [vR 0, vI a1, vI a2] σ 0 r := by
  unfold F_M_end_ at h
  refine aMet_of (bytes := cX12_end_) (maxL := 3) (ret := (some .int)) (by decide +kernel) rfl (Nat.le_of_ble_eq_true rfl) ⟨rfl, rfl⟩ (fun x e1 e2 X E => ?_)
  subst e1; subst e2
  have X : aX x cX12_end_ wsX12_end_ RX12 3 rm_X12_end_ := X
  show aS x shM 3 0 [(0, vR 0), (1, vI a1), (2, vI a2)] [] σ
  refine A_aload_n X 0 rfl rfl dX12_end__0 ?_
  refine A_iload_n X 1 rfl rfl dX12_end__1 ?_
  obtain ⟨v1, s2, e3, h⟩ := clD h
  refine A_callV_I (na := 1) X (m_X12_isWho e3) gX12_end__X12_isWho rfl ⟨rfl, rfl⟩ (by decide +kernel) rfl ⟨Nat.le_of_ble_eq_true rfl, Nat.le_of_ble_eq_true rfl⟩ shM_0 (by decide) rfl rfl (Nat.le_of_ble_eq_true rfl) dX12_end__2 ?_
  refine A_if_ne X (tgt := 10) (by decide) dX12_end__5 (fun c4 => ?_) (fun c4 => ?_)
  · replace h := ifF h c4
    refine A_aload_n X 0 rfl rfl dX12_end__10 ?_
    refine A_iconst X dX12_end__11 (z := (-1)) (by decide) ?_
    refine A_iconst X dX12_end__12 (z := 0) (by decide) ?_
    obtain ⟨v5, s6, e7, h⟩ := clD h
    refine A_callV_V (na := 2) X (m_X12_lays e7) gX12_end__X12_lays rfl ⟨rfl, rfl⟩ (by decide +kernel) rfl ⟨Nat.le_of_ble_eq_true rfl, Nat.le_of_ble_eq_true rfl⟩ shM_0 (by decide) rfl rfl (Nat.le_of_ble_eq_true rfl) dX12_end__13 ?_
    refine A_aload_n X 0 rfl rfl dX12_end__16 ?_
    obtain ⟨v8, s9, e10, h⟩ := clD h
    refine A_callV_I (na := 0) X (m_X12_ends e10) gX12_end__X12_ends rfl ⟨rfl, rfl⟩ (by decide +kernel) rfl ⟨Nat.le_of_ble_eq_true rfl, Nat.le_of_ble_eq_true rfl⟩ shM_0 (by decide) rfl rfl (Nat.le_of_ble_eq_true rfl) dX12_end__17 ?_
    refine A_if_ne X (tgt := 25) (by decide) dX12_end__20 (fun c11 => ?_) (fun c11 => ?_)
    · replace h := ifF h c11
      refine A_iload_n X 2 rfl rfl dX12_end__25 ?_
      refine A_if_eq X (tgt := 37) (by decide) dX12_end__26 (fun c12 => ?_) (fun c12 => ?_)
      · replace h := ifT h c12
        refine A_aload_n X 0 rfl rfl dX12_end__37 ?_
        refine A_iload_n X 1 rfl rfl dX12_end__38 ?_
        obtain ⟨v13, s14, e15, h⟩ := clD h
        refine A_callV_I (na := 1) X (m_X12_leastOf e15) gX12_end__X12_leastOf rfl ⟨rfl, rfl⟩ (by decide +kernel) rfl ⟨Nat.le_of_ble_eq_true rfl, Nat.le_of_ble_eq_true rfl⟩ shM_0 (by decide) rfl rfl (Nat.le_of_ble_eq_true rfl) dX12_end__39 ?_
        refine A_sub [] rfl (L' := []) rfl ?_
        exact w_X12_end__42 (a1 := a1) (a2 := a2) X E v13 s14 h
      · replace h := ifF h c12
        refine A_aload_n X 0 rfl rfl dX12_end__29 ?_
        refine A_iload_n X 1 rfl rfl dX12_end__30 ?_
        obtain ⟨v16, s17, e18, h⟩ := clD h
        refine A_callV_I (na := 1) X (m_X12_greatestOf e18) gX12_end__X12_greatestOf rfl ⟨rfl, rfl⟩ (by decide +kernel) rfl ⟨Nat.le_of_ble_eq_true rfl, Nat.le_of_ble_eq_true rfl⟩ shM_0 (by decide) rfl rfl (Nat.le_of_ble_eq_true rfl) dX12_end__31 ?_
        refine A_goto X (tgt := 42) (by decide) dX12_end__34 ?_
        refine A_sub [] rfl (L' := []) rfl ?_
        exact w_X12_end__42 (a1 := a1) (a2 := a2) X E v16 s17 h
    · replace h := ifT h c11
      refine A_iconst X dX12_end__23 (z := (-1)) (by decide) ?_
      exact A_ireturn X E h dX12_end__24
  · replace h := ifT h c4
    refine A_iconst X dX12_end__8 (z := (-1)) (by decide) ?_
    exact A_ireturn X E h dX12_end__9
abbrev rm_X12_ended : Room := { frames := 0, cells := 0, slots := 0, locals := 0 }
theorem in_X12_ended_12 : ∀ w ∈ u_ws RX12 TX12 75, w ∈ wsX12_ended := fun w h => List.mem_cons_of_mem _ (List.mem_append_right _ h)
theorem fg_X12_ended_216 : aFl wsX12_ended RX12 216 12 67 := ⟨RX12, TX12, 75, rfl, in_X12_ended_12, by decide, (List.mem_of_getElem? (i := 1) rfl), rfl⟩
set_option maxRecDepth 100000 in
set_option maxHeartbeats 4000000 in
theorem m_X12_ended {l : Launch} {g : aG} {σ : Hp} {r : Int × Hp} (h : F_M_ended σ = some r) : aMet l g shM yX12_ended wsX12_ended rm_X12_ended [vR 0] σ 0 r := by
  unfold F_M_ended at h
  refine aMet_of (bytes := cX12_ended) (maxL := 1) (ret := (some .int)) (by decide +kernel) rfl (Nat.le_of_ble_eq_true rfl) ⟨rfl, rfl⟩ (fun x e1 e2 X E => ?_)
  subst e1; subst e2
  have X : aX x cX12_ended wsX12_ended RX12 1 rm_X12_ended := X
  show aS x shM 1 0 [(0, vR 0)] [] σ
  refine A_aload_n X 0 rfl rfl dX12_ended_0 ?_
  refine A_getI X fg_X12_ended_216 shM_0 (k := 67) rfl (by decide) dX12_ended_1 ?_
  exact A_ireturn X E h dX12_ended_4
abbrev rm_X12_evenOf : Room := { frames := 3, cells := 0, slots := 0, locals := 69 }
theorem in_X12_evenOf_12 : ∀ w ∈ u_ws RX12 TX12 75, w ∈ wsX12_evenOf := fun w h => List.mem_cons_of_mem _ (List.mem_append_right _ h)
theorem fg_X12_evenOf_165 : aFl wsX12_evenOf RX12 165 12 50 := ⟨RX12, TX12, 75, rfl, in_X12_evenOf_12, by decide, (List.mem_of_getElem? (i := 1) rfl), rfl⟩
set_option maxRecDepth 100000 in
set_option maxHeartbeats 4000000 in
theorem m_X12_evenOf {l : Launch} {g : aG} {a1 : Int} {σ : Hp} {r : Int × Hp} (h : F_M_evenOf a1 σ = some r) : aMet l g shM yX12_evenOf wsX12_evenOf rm_X12_evenOf [vR 0, vI a1] σ 1 r := by
  unfold F_M_evenOf at h
  refine aMet_of (bytes := cX12_evenOf) (maxL := 6) (ret := (some .long)) (by decide +kernel) rfl (Nat.le_of_ble_eq_true rfl) ⟨rfl, rfl⟩ (fun x e1 e2 X E => ?_)
  subst e1; subst e2
  have X : aX x cX12_evenOf wsX12_evenOf RX12 6 rm_X12_evenOf := X
  show aS x shM 6 0 [(0, vR 0), (1, vI a1)] [] σ
  refine A_aload_n X 0 rfl rfl dX12_evenOf_0 ?_
  refine A_aload_n X 0 rfl rfl dX12_evenOf_1 ?_
  refine A_iload_n X 1 rfl rfl dX12_evenOf_2 ?_
  obtain ⟨v1, s2, e3, h⟩ := clD h
  refine A_callV_I (na := 1) X (m_X12_first e3) gX12_evenOf_X12_first rfl ⟨rfl, rfl⟩ (by decide +kernel) rfl ⟨Nat.le_of_ble_eq_true rfl, Nat.le_of_ble_eq_true rfl⟩ shM_0 (by decide) rfl rfl (Nat.le_of_ble_eq_true rfl) dX12_evenOf_3 ?_
  obtain ⟨v4, s5, e6, h⟩ := clD h
  refine A_callV_L (na := 1) X (m_X12_elseOf e6) gX12_evenOf_X12_elseOf rfl ⟨rfl, rfl⟩ (by decide +kernel) rfl ⟨Nat.le_of_ble_eq_true rfl, Nat.le_of_ble_eq_true rfl⟩ shM_0 (by decide) rfl rfl (Nat.le_of_ble_eq_true rfl) dX12_evenOf_6 ?_
  refine A_lstore_n X (L' := [(2, vL v4), (0, vR 0), (1, vI a1)]) rfl (by decide) rfl dX12_evenOf_9 ?_
  refine A_aload_n X 1 rfl rfl dX12_evenOf_10 ?_
  refine A_aload_n X 1 rfl rfl dX12_evenOf_11 ?_
  refine A_iload_n X 2 rfl rfl dX12_evenOf_12 ?_
  obtain ⟨v7, s8, e9, h⟩ := clD h
  refine A_callV_I (na := 1) X (m_X12_second e9) gX12_evenOf_X12_second rfl ⟨rfl, rfl⟩ (by decide +kernel) rfl ⟨Nat.le_of_ble_eq_true rfl, Nat.le_of_ble_eq_true rfl⟩ shM_0 (by decide) rfl rfl (Nat.le_of_ble_eq_true rfl) dX12_evenOf_13 ?_
  obtain ⟨v10, s11, e12, h⟩ := clD h
  refine A_callV_L (na := 1) X (m_X12_elseOf e12) gX12_evenOf_X12_elseOf rfl ⟨rfl, rfl⟩ (by decide +kernel) rfl ⟨Nat.le_of_ble_eq_true rfl, Nat.le_of_ble_eq_true rfl⟩ shM_0 (by decide) rfl rfl (Nat.le_of_ble_eq_true rfl) dX12_evenOf_16 ?_
  refine A_lstore X (L' := [(4, vL v10), (2, vL v4), (0, vR 0), (1, vI a1)]) (by decide) rfl dX12_evenOf_19 ?_
  refine A_lload_n X 1 rfl rfl dX12_evenOf_21 ?_
  refine A_aload_n X 2 rfl rfl dX12_evenOf_22 ?_
  refine A_getR X fg_X12_evenOf_165 shM_0 (k := 50) rfl (by decide) dX12_evenOf_23 ?_
  refine A_iload_n X 3 rfl rfl dX12_evenOf_26 ?_
  obtain ⟨g13, h⟩ := gdD h
  refine A_iald X g13 shM_30 dX12_evenOf_27 ?_
  refine A_i2l X dX12_evenOf_28 ?_
  refine A_lload_n X 1 rfl rfl dX12_evenOf_29 ?_
  refine A_lsub X dX12_evenOf_30 ?_
  refine A_lload X 0 rfl dX12_evenOf_31 ?_
  refine A_lsub X dX12_evenOf_33 ?_
  refine A_ldc2 X (v := (2)) (List.mem_of_getElem? (i := 2) rfl) dX12_evenOf_34 (z := 2) (by decide +kernel) ?_
  obtain ⟨v14, s15, e16, h⟩ := clD h
  refine A_callS_L (na := 2) X (m_X12_over e16) gX12_evenOf_X12_over rfl ⟨rfl, rfl⟩ (by decide +kernel) rfl ⟨Nat.le_of_ble_eq_true rfl, Nat.le_of_ble_eq_true rfl⟩ rfl (Nat.le_of_ble_eq_true rfl) dX12_evenOf_37 ?_
  refine A_ladd X dX12_evenOf_40 ?_
  exact A_lreturn X E h dX12_evenOf_41
abbrev rm_X12_fault : Room := { frames := 0, cells := 0, slots := 0, locals := 0 }
theorem in_X12_fault_12 : ∀ w ∈ u_ws RX12 TX12 75, w ∈ wsX12_fault := fun w h => List.mem_cons_of_mem _ (List.mem_append_right _ h)
theorem fg_X12_fault_45 : aFl wsX12_fault RX12 45 12 11 := ⟨RX12, TX12, 75, rfl, in_X12_fault_12, by decide, (List.mem_of_getElem? (i := 2) rfl), rfl⟩
theorem fg_X12_fault_42 : aFl wsX12_fault RX12 42 12 10 := ⟨RX12, TX12, 75, rfl, in_X12_fault_12, by decide, (List.mem_of_getElem? (i := 1) rfl), rfl⟩
set_option maxRecDepth 100000 in
set_option maxHeartbeats 4000000 in
theorem w_X12_fault_24 {x : aC} {r : Int × Hp} {a1 : Int} (X : aX x cX12_fault wsX12_fault RX12 2 rm_X12_fault) (E : aE x shM (some .int) 0 r) (t1 : Int) (σ : Hp) (h : F_M_fault_24 a1 t1 σ = some r) : aS x shM 2 24 [] [vI t1] σ := by
  unfold F_M_fault_24 at h
  exact A_ireturn X E h dX12_fault_24
set_option maxRecDepth 100000 in
set_option maxHeartbeats 4000000 in
theorem m_X12_fault {l : Launch} {g : aG} {a1 : Int} {σ : Hp} {r : Int × Hp} (h : F_M_fault a1 σ = some r) : aMet l g shM yX12_fault wsX12_fault rm_X12_fault [vR 0, vI a1] σ 0 r := by
  unfold F_M_fault at h
  refine aMet_of (bytes := cX12_fault) (maxL := 2) (ret := (some .int)) (by decide +kernel) rfl (Nat.le_of_ble_eq_true rfl) ⟨rfl, rfl⟩ (fun x e1 e2 X E => ?_)
  subst e1; subst e2
  have X : aX x cX12_fault wsX12_fault RX12 2 rm_X12_fault := X
  show aS x shM 2 0 [(0, vR 0), (1, vI a1)] [] σ
  refine A_iload_n X 1 rfl rfl dX12_fault_0 ?_
  refine A_if_ne X (tgt := 11) (by decide) dX12_fault_1 (fun c1 => ?_) (fun c1 => ?_)
  · replace h := ifF h c1
    refine A_iload_n X 1 rfl rfl dX12_fault_11 ?_
    refine A_iconst X dX12_fault_12 (z := 1) (by decide) ?_
    refine A_icmp_ne X (tgt := 23) (by decide) dX12_fault_13 (fun c2 => ?_) (fun c2 => ?_)
    · replace h := ifF h c2
      refine A_iconst X dX12_fault_23 (z := (-1)) (by decide) ?_
      refine A_sub [] rfl (L' := []) rfl ?_
      exact w_X12_fault_24 (a1 := a1) X E (-1) σ h
    · replace h := ifT h c2
      refine A_aload_n X 0 rfl rfl dX12_fault_16 ?_
      refine A_getI X fg_X12_fault_45 shM_0 (k := 11) rfl (by decide) dX12_fault_17 ?_
      refine A_goto X (tgt := 24) (by decide) dX12_fault_20 ?_
      refine A_sub [] rfl (L' := []) rfl ?_
      exact w_X12_fault_24 (a1 := a1) X E (σ 0 11) σ h
  · replace h := ifT h c1
    refine A_aload_n X 0 rfl rfl dX12_fault_4 ?_
    refine A_getI X fg_X12_fault_42 shM_0 (k := 10) rfl (by decide) dX12_fault_5 ?_
    refine A_goto X (tgt := 24) (by decide) dX12_fault_8 ?_
    refine A_sub [] rfl (L' := []) rfl ?_
    exact w_X12_fault_24 (a1 := a1) X E (σ 0 10) σ h
abbrev rm_X12_put : Room := { frames := 0, cells := 0, slots := 0, locals := 0 }
theorem in_X12_put_12 : ∀ w ∈ u_ws RX12 TX12 75, w ∈ wsX12_put := fun w h => List.mem_cons_of_mem _ (List.mem_append_right _ h)
theorem fg_X12_put_7 : aFl wsX12_put RX12 7 12 0 := ⟨RX12, TX12, 75, rfl, in_X12_put_12, by decide, (List.mem_of_getElem? (i := 1) rfl), rfl⟩
theorem fg_X12_put_13 : aFl wsX12_put RX12 13 12 1 := ⟨RX12, TX12, 75, rfl, in_X12_put_12, by decide, (List.mem_of_getElem? (i := 2) rfl), rfl⟩
theorem fp_X12_put_13 : aFp wsX12_put RX12 13 12 1 .int := ⟨RX12, TX12, 75, tyX12, rfl, in_X12_put_12, by decide, (List.mem_of_getElem? (i := 2) rfl), rfl, tyX12_ok, nmX12, rfl, rfl⟩
set_option maxRecDepth 100000 in
set_option maxHeartbeats 4000000 in
theorem w_X12_put_3_b {x : aC} {r : Int × Hp} {k3 : Int × Hp → Option (Int × Hp)} {a1 : Int} (X : aX x cX12_put wsX12_put RX12 3 rm_X12_put) (E : aE x shM none 3 r) (hk3 : ∀ (x2 : Int) (σ : Hp), k3 (x2, σ) = some r → aS x shM 3 3 [(0, vR 0), (1, vI a1), (2, vI x2)] [] σ) (x2 : Int) (σ : Hp) (h : F_M_put_3_b k3 a1 x2 σ = some r) : aS x shM 3 3 [(0, vR 0), (1, vI a1), (2, vI x2)] [] σ := by
  unfold F_M_put_3_b at h
  refine A_iload_n X 2 rfl rfl dX12_put_3 ?_
  refine A_if_lt X (tgt := 39) (by decide) dX12_put_4 (fun c1 => ?_) (fun c1 => ?_)
  · replace h := ifT h c1
    exact A_return X E h dX12_put_39
  · replace h := ifF h c1
    refine A_aload_n X 0 rfl rfl dX12_put_7 ?_
    refine A_getR X fg_X12_put_7 shM_0 (k := 0) rfl (by decide) dX12_put_8 ?_
    refine A_aload_n X 0 rfl rfl dX12_put_11 ?_
    refine A_getI X fg_X12_put_13 shM_0 (k := 1) rfl (by decide) dX12_put_12 ?_
    refine A_iload_n X 1 rfl rfl dX12_put_15 ?_
    refine A_iload_n X 2 rfl rfl dX12_put_16 ?_
    refine A_ishr X dX12_put_17 ?_
    refine A_sipush X dX12_put_18 (z := 255) (by decide) ?_
    refine A_iand X dX12_put_21 ?_
    obtain ⟨g2, h⟩ := gdD h
    refine A_iast X g2 shM_1 dX12_put_22 (fun s3 hy => ?_)
    replace h := ltD h s3 hy
    clear hy
    refine A_aload_n X 0 rfl rfl dX12_put_23 ?_
    refine A_dup X (by show ¬ (2 : Nat) = 1; decide) dX12_put_24 ?_
    refine A_getI X fg_X12_put_13 shM_0 (k := 1) rfl (by decide) dX12_put_25 ?_
    refine A_iconst X dX12_put_28 (z := 1) (by decide) ?_
    refine A_iadd X dX12_put_29 ?_
    refine A_putI X fp_X12_put_13 shM_0 (k := 1) rfl (by decide) dX12_put_30 (fun s4 hy => ?_)
    replace h := ltD h s4 hy
    clear hy
    refine A_iinc X (L' := fun y2_5 => [(2, vI y2_5), (0, vR 0), (1, vI a1)]) 2 rfl (by decide) (fun _ => rfl) dX12_put_33 (by decide) (fun y2_5 hy => ?_)
    replace h := ltD h y2_5 hy
    clear hy
    refine A_goto X (tgt := 3) (by decide) dX12_put_36 ?_
    refine A_sub [1, 2, 0] rfl (L' := [(0, vR 0), (1, vI a1), (2, vI y2_5)]) rfl ?_
    exact hk3 y2_5 s4 h
set_option maxRecDepth 100000 in
set_option maxHeartbeats 4000000 in
theorem w_X12_put_3 {x : aC} {r : Int × Hp} {a1 : Int} (X : aX x cX12_put wsX12_put RX12 3 rm_X12_put) (E : aE x shM none 3 r) : ∀ (n : Nat) (x2 : Int) (σ : Hp) (h : F_M_put_3 a1 n (x2, σ) = some r), aS x shM 3 3 [(0, vR 0), (1, vI a1), (2, vI x2)] [] σ := by
  intro n
  induction n with
  | zero => intro x2 σ h; cases h
  | succ n ih => intro x2 σ h; exact w_X12_put_3_b (a1 := a1) (k3 := F_M_put_3 a1 n) X E ih x2 σ h
set_option maxRecDepth 100000 in
set_option maxHeartbeats 4000000 in
theorem m_X12_put {l : Launch} {g : aG} {a1 : Int} {σ : Hp} {r : Int × Hp} (h : F_M_put a1 σ = some r) : aMet l g shM yX12_put wsX12_put rm_X12_put [vR 0, vI a1] σ 3 r := by
  unfold F_M_put at h
  refine aMet_of (bytes := cX12_put) (maxL := 3) (ret := none) (by decide +kernel) rfl (Nat.le_of_ble_eq_true rfl) ⟨rfl, rfl⟩ (fun x e1 e2 X E => ?_)
  subst e1; subst e2
  have X : aX x cX12_put wsX12_put RX12 3 rm_X12_put := X
  show aS x shM 3 0 [(0, vR 0), (1, vI a1)] [] σ
  refine A_bipush X dX12_put_0 (z := 24) (by decide) ?_
  refine A_istore_n X (L' := [(2, vI 24), (0, vR 0), (1, vI a1)]) rfl (by decide) rfl dX12_put_2 ?_
  refine A_sub [1, 2, 0] rfl (L' := [(0, vR 0), (1, vI a1), (2, vI 24)]) rfl ?_
  exact w_X12_put_3 (a1 := a1) X E FU 24 σ h
abbrev rm_X12_feed : Room := { frames := 1, cells := 0, slots := 0, locals := 22 }
theorem in_X12_feed_12 : ∀ w ∈ u_ws RX12 TX12 75, w ∈ wsX12_feed := fun w h => List.mem_cons_of_mem _ (List.mem_append_right _ h)
theorem fg_X12_feed_13 : aFl wsX12_feed RX12 13 12 1 := ⟨RX12, TX12, 75, rfl, in_X12_feed_12, by decide, (List.mem_of_getElem? (i := 1) rfl), rfl⟩
set_option maxRecDepth 100000 in
set_option maxHeartbeats 4000000 in
theorem m_X12_feed {l : Launch} {g : aG} {a1 : Int} {a2 : Int} {a3 : Int} {a4 : Int} {a5 : Int} {σ : Hp} {r : Int × Hp} (h : F_M_feed a1 a2 a3 a4 a5 σ = some r) : aMet l g shM yX12_feed wsX12_feed rm_X12_feed [vR 0, vI a1, vI a2, vI a3, vI a4, vI a5] σ 0 r := by
  unfold F_M_feed at h
  refine aMet_of (bytes := cX12_feed) (maxL := 6) (ret := (some .int)) (by decide +kernel) rfl (Nat.le_of_ble_eq_true rfl) ⟨rfl, rfl⟩ (fun x e1 e2 X E => ?_)
  subst e1; subst e2
  have X : aX x cX12_feed wsX12_feed RX12 6 rm_X12_feed := X
  show aS x shM 6 0 [(0, vR 0), (1, vI a1), (2, vI a2), (3, vI a3), (4, vI a4), (5, vI a5)] [] σ
  refine A_aload_n X 0 rfl rfl dX12_feed_0 ?_
  refine A_getI X fg_X12_feed_13 shM_0 (k := 1) rfl (by decide) dX12_feed_1 ?_
  refine A_bipush X dX12_feed_4 (z := 20) (by decide) ?_
  refine A_iadd X dX12_feed_6 ?_
  refine A_sipush X dX12_feed_7 (z := 900) (by decide) ?_
  refine A_icmp_le X (tgt := 15) (by decide) dX12_feed_10 (fun c1 => ?_) (fun c1 => ?_)
  · replace h := ifT h c1
    refine A_aload_n X 0 rfl rfl dX12_feed_15 ?_
    refine A_iload_n X 1 rfl rfl dX12_feed_16 ?_
    obtain ⟨v2, s3, e4, h⟩ := clD h
    refine A_callV_V (na := 1) X (m_X12_put e4) gX12_feed_X12_put rfl ⟨rfl, rfl⟩ (by decide +kernel) rfl ⟨Nat.le_of_ble_eq_true rfl, Nat.le_of_ble_eq_true rfl⟩ shM_0 (by decide) rfl rfl (Nat.le_of_ble_eq_true rfl) dX12_feed_17 ?_
    refine A_aload_n X 0 rfl rfl dX12_feed_20 ?_
    refine A_iload_n X 2 rfl rfl dX12_feed_21 ?_
    obtain ⟨v5, s6, e7, h⟩ := clD h
    refine A_callV_V (na := 1) X (m_X12_put e7) gX12_feed_X12_put rfl ⟨rfl, rfl⟩ (by decide +kernel) rfl ⟨Nat.le_of_ble_eq_true rfl, Nat.le_of_ble_eq_true rfl⟩ shM_0 (by decide) rfl rfl (Nat.le_of_ble_eq_true rfl) dX12_feed_22 ?_
    refine A_aload_n X 0 rfl rfl dX12_feed_25 ?_
    refine A_iload_n X 3 rfl rfl dX12_feed_26 ?_
    obtain ⟨v8, s9, e10, h⟩ := clD h
    refine A_callV_V (na := 1) X (m_X12_put e10) gX12_feed_X12_put rfl ⟨rfl, rfl⟩ (by decide +kernel) rfl ⟨Nat.le_of_ble_eq_true rfl, Nat.le_of_ble_eq_true rfl⟩ shM_0 (by decide) rfl rfl (Nat.le_of_ble_eq_true rfl) dX12_feed_27 ?_
    refine A_aload_n X 0 rfl rfl dX12_feed_30 ?_
    refine A_iload X 4 rfl dX12_feed_31 ?_
    obtain ⟨v11, s12, e13, h⟩ := clD h
    refine A_callV_V (na := 1) X (m_X12_put e13) gX12_feed_X12_put rfl ⟨rfl, rfl⟩ (by decide +kernel) rfl ⟨Nat.le_of_ble_eq_true rfl, Nat.le_of_ble_eq_true rfl⟩ shM_0 (by decide) rfl rfl (Nat.le_of_ble_eq_true rfl) dX12_feed_33 ?_
    refine A_aload_n X 0 rfl rfl dX12_feed_36 ?_
    refine A_iload X 5 rfl dX12_feed_37 ?_
    obtain ⟨v14, s15, e16, h⟩ := clD h
    refine A_callV_V (na := 1) X (m_X12_put e16) gX12_feed_X12_put rfl ⟨rfl, rfl⟩ (by decide +kernel) rfl ⟨Nat.le_of_ble_eq_true rfl, Nat.le_of_ble_eq_true rfl⟩ shM_0 (by decide) rfl rfl (Nat.le_of_ble_eq_true rfl) dX12_feed_39 ?_
    refine A_aload_n X 0 rfl rfl dX12_feed_42 ?_
    refine A_getI X fg_X12_feed_13 shM_0 (k := 1) rfl (by decide) dX12_feed_43 ?_
    exact A_ireturn X E h dX12_feed_46
  · replace h := ifF h c1
    refine A_iconst X dX12_feed_13 (z := (-1)) (by decide) ?_
    exact A_ireturn X E h dX12_feed_14
abbrev rm_X12_gift : Room := { frames := 6, cells := 0, slots := 0, locals := 143 }
theorem in_X12_gift_12 : ∀ w ∈ u_ws RX12 TX12 75, w ∈ wsX12_gift := fun w h => List.mem_cons_of_mem _ (List.mem_append_right _ h)
theorem fg_X12_gift_225 : aFl wsX12_gift RX12 225 12 70 := ⟨RX12, TX12, 75, rfl, in_X12_gift_12, by decide, (List.mem_of_getElem? (i := 3) rfl), rfl⟩
theorem fg_X12_gift_222 : aFl wsX12_gift RX12 222 12 69 := ⟨RX12, TX12, 75, rfl, in_X12_gift_12, by decide, (List.mem_of_getElem? (i := 6) rfl), rfl⟩
theorem fg_X12_gift_54 : aFl wsX12_gift RX12 54 12 14 := ⟨RX12, TX12, 75, rfl, in_X12_gift_12, by decide, (List.mem_of_getElem? (i := 7) rfl), rfl⟩
theorem fg_X12_gift_48 : aFl wsX12_gift RX12 48 12 12 := ⟨RX12, TX12, 75, rfl, in_X12_gift_12, by decide, (List.mem_of_getElem? (i := 2) rfl), rfl⟩
theorem fg_X12_gift_165 : aFl wsX12_gift RX12 165 12 50 := ⟨RX12, TX12, 75, rfl, in_X12_gift_12, by decide, (List.mem_of_getElem? (i := 8) rfl), rfl⟩
theorem fg_X12_gift_213 : aFl wsX12_gift RX12 213 12 66 := ⟨RX12, TX12, 75, rfl, in_X12_gift_12, by decide, (List.mem_of_getElem? (i := 4) rfl), rfl⟩
theorem fg_X12_gift_162 : aFl wsX12_gift RX12 162 12 49 := ⟨RX12, TX12, 75, rfl, in_X12_gift_12, by decide, (List.mem_of_getElem? (i := 9) rfl), rfl⟩
theorem fg_X12_gift_51 : aFl wsX12_gift RX12 51 12 13 := ⟨RX12, TX12, 75, rfl, in_X12_gift_12, by decide, (List.mem_of_getElem? (i := 1) rfl), rfl⟩
set_option maxRecDepth 100000 in
set_option maxHeartbeats 4000000 in
theorem w_X12_gift_59 {x : aC} {r : Int × Hp} {k8 : Int × Int × Hp → Option (Int × Hp)} (X : aX x cX12_gift wsX12_gift RX12 8 rm_X12_gift) (E : aE x shM (some .int) 0 r) (hk8 : ∀ (x1 : Int) (x3 : Int) (σ : Hp), k8 (x1, x3, σ) = some r → aS x shM 8 8 [(0, vR 0), (1, vL x1), (3, vI x3)] [] σ) (x1 : Int) (x3 : Int) (t3 : Int) (t2 : Int) (σ : Hp) (h : F_M_gift_59 k8 x1 x3 t3 t2 σ = some r) : aS x shM 8 59 [(0, vR 0), (1, vL x1), (3, vI x3)] [vL t3, vI t2, vR 48] σ := by
  unfold F_M_gift_59 at h
  obtain ⟨g1, h⟩ := gdD h
  refine A_last X g1 shM_48 dX12_gift_59 (fun s2 hy => ?_)
  replace h := ltD h s2 hy
  clear hy
  refine A_lload_n X 1 rfl rfl dX12_gift_60 ?_
  refine A_ldc2 X (v := (2)) (List.mem_of_getElem? (i := 5) rfl) dX12_gift_61 (z := 2) (by decide +kernel) ?_
  refine A_aload_n X 0 rfl rfl dX12_gift_64 ?_
  refine A_getR X fg_X12_gift_225 shM_0 (k := 70) rfl (by decide) dX12_gift_65 ?_
  refine A_iload_n X 2 rfl rfl dX12_gift_68 ?_
  obtain ⟨g3, h⟩ := gdD h
  refine A_lald X g3 shM_48 dX12_gift_69 ?_
  refine A_lmul X dX12_gift_70 ?_
  refine A_ladd X dX12_gift_71 ?_
  refine A_lstore_nN X (L' := fun y1_4 => [(1, vL y1_4), (0, vR 0), (3, vI x3)]) rfl (by decide) (fun _ => rfl) dX12_gift_72 (fun y1_4 hy => ?_)
  replace h := ltD h y1_4 hy
  clear hy
  refine A_iinc X (L' := fun y3_5 => [(3, vI y3_5), (1, vL y1_4), (0, vR 0)]) 2 rfl (by decide) (fun _ => rfl) dX12_gift_73 (by decide) (fun y3_5 hy => ?_)
  replace h := ltD h y3_5 hy
  clear hy
  refine A_goto X (tgt := 8) (by decide) dX12_gift_76 ?_
  refine A_sub [2, 1, 0] rfl (L' := [(0, vR 0), (1, vL y1_4), (3, vI y3_5)]) rfl ?_
  exact hk8 y1_4 y3_5 s2 h
set_option maxRecDepth 100000 in
set_option maxHeartbeats 4000000 in
theorem w_X12_gift_206 {x : aC} {r : Int × Hp} {k103 : Int × Int × Hp → Option (Int × Hp)} (X : aX x cX12_gift wsX12_gift RX12 8 rm_X12_gift) (E : aE x shM (some .int) 0 r) (hk103 : ∀ (x1 : Int) (x3 : Int) (σ : Hp), k103 (x1, x3, σ) = some r → aS x shM 8 103 [(0, vR 0), (1, vL x1), (3, vI x3)] [] σ) (x1 : Int) (x3 : Int) (x4 : Int) (x5 : Int) (t3 : Int) (t2 : Int) (σ : Hp) (h : F_M_gift_206 k103 x1 x3 x4 x5 t3 t2 σ = some r) : aS x shM 8 206 [(0, vR 0), (1, vL x1), (3, vI x3), (4, vI x4), (5, vI x5)] [vI t3, vI t2, vR 47] σ := by
  unfold F_M_gift_206 at h
  obtain ⟨g6, h⟩ := gdD h
  refine A_iast X g6 shM_47 dX12_gift_206 (fun s7 hy => ?_)
  replace h := ltD h s7 hy
  clear hy
  refine A_aload_n X 0 rfl rfl dX12_gift_207 ?_
  refine A_getR X fg_X12_gift_222 shM_0 (k := 69) rfl (by decide) dX12_gift_208 ?_
  refine A_bipush X dX12_gift_211 (z := 12) (by decide) ?_
  refine A_iload X 4 rfl dX12_gift_213 ?_
  refine A_imul X dX12_gift_215 ?_
  refine A_iload X 3 rfl dX12_gift_216 ?_
  refine A_iadd X dX12_gift_218 ?_
  refine A_aload_n X 0 rfl rfl dX12_gift_219 ?_
  refine A_getR X fg_X12_gift_222 shM_0 (k := 69) rfl (by decide) dX12_gift_220 ?_
  refine A_bipush X dX12_gift_223 (z := 12) (by decide) ?_
  refine A_iload X 3 rfl dX12_gift_225 ?_
  refine A_imul X dX12_gift_227 ?_
  refine A_iload X 4 rfl dX12_gift_228 ?_
  refine A_iadd X dX12_gift_230 ?_
  obtain ⟨g8, h⟩ := gdD h
  refine A_iald X g8 shM_47 dX12_gift_231 ?_
  obtain ⟨g9, h⟩ := gdD h
  refine A_iast X g9 shM_47 dX12_gift_232 (fun s10 hy => ?_)
  replace h := ltD h s10 hy
  clear hy
  refine A_iinc X (L' := fun y3_11 => [(3, vI y3_11), (0, vR 0), (1, vL x1), (4, vI x4), (5, vI x5)]) 2 rfl (by decide) (fun _ => rfl) dX12_gift_233 (by decide) (fun y3_11 hy => ?_)
  replace h := ltD h y3_11 hy
  clear hy
  refine A_goto X (tgt := 103) (by decide) dX12_gift_236 ?_
  refine A_sub [1, 2, 0] rfl (L' := [(0, vR 0), (1, vL x1), (3, vI y3_11)]) rfl ?_
  exact hk103 x1 y3_11 s10 h
set_option maxRecDepth 100000 in
set_option maxHeartbeats 4000000 in
theorem w_X12_gift_205 {x : aC} {r : Int × Hp} {k103 : Int × Int × Hp → Option (Int × Hp)} (X : aX x cX12_gift wsX12_gift RX12 8 rm_X12_gift) (E : aE x shM (some .int) 0 r) (hk103 : ∀ (x1 : Int) (x3 : Int) (σ : Hp), k103 (x1, x3, σ) = some r → aS x shM 8 103 [(0, vR 0), (1, vL x1), (3, vI x3)] [] σ) (x1 : Int) (x3 : Int) (x4 : Int) (x5 : Int) (t2 : Int) (σ : Hp) (h : F_M_gift_205 k103 x1 x3 x4 x5 t2 σ = some r) : aS x shM 8 205 [(0, vR 0), (1, vL x1), (3, vI x3), (4, vI x4), (5, vI x5)] [vI t2, vR 47] σ := by
  unfold F_M_gift_205 at h
  refine A_iconst X dX12_gift_205 (z := 0) (by decide) ?_
  exact w_X12_gift_206 X E hk103 x1 x3 x4 x5 0 t2 σ h
set_option maxRecDepth 100000 in
set_option maxHeartbeats 4000000 in
theorem w_X12_gift_103_b {x : aC} {r : Int × Hp} {k103 : Int × Int × Hp → Option (Int × Hp)} (X : aX x cX12_gift wsX12_gift RX12 8 rm_X12_gift) (E : aE x shM (some .int) 0 r) (hk103 : ∀ (x1 : Int) (x3 : Int) (σ : Hp), k103 (x1, x3, σ) = some r → aS x shM 8 103 [(0, vR 0), (1, vL x1), (3, vI x3)] [] σ) (x1 : Int) (x3 : Int) (σ : Hp) (h : F_M_gift_103_b k103 x1 x3 σ = some r) : aS x shM 8 103 [(0, vR 0), (1, vL x1), (3, vI x3)] [] σ := by
  unfold F_M_gift_103_b at h
  refine A_iload_n X 2 rfl rfl dX12_gift_103 ?_
  refine A_aload_n X 0 rfl rfl dX12_gift_104 ?_
  refine A_getR X fg_X12_gift_54 shM_0 (k := 14) rfl (by decide) dX12_gift_105 ?_
  refine A_aload_n X 0 rfl rfl dX12_gift_108 ?_
  refine A_getI X fg_X12_gift_48 shM_0 (k := 12) rfl (by decide) dX12_gift_109 ?_
  obtain ⟨g12, h⟩ := gdD h
  refine A_iald X g12 shM_3 dX12_gift_112 ?_
  refine A_icmp_ge X (tgt := 239) (by decide) dX12_gift_113 (fun c13 => ?_) (fun c13 => ?_)
  · replace h := ifT h c13
    refine A_lload_n X 1 rfl rfl dX12_gift_239 ?_
    refine A_aload_n X 0 rfl rfl dX12_gift_240 ?_
    refine A_aload_n X 0 rfl rfl dX12_gift_241 ?_
    refine A_getR X fg_X12_gift_222 shM_0 (k := 69) rfl (by decide) dX12_gift_242 ?_
    obtain ⟨v14, s15, e16, h⟩ := clD h
    refine A_callV_I (na := 1) X (m_X12_doubles e16) gX12_gift_X12_doubles rfl ⟨rfl, rfl⟩ (by decide +kernel) rfl ⟨Nat.le_of_ble_eq_true rfl, Nat.le_of_ble_eq_true rfl⟩ shM_0 (by decide) rfl rfl (Nat.le_of_ble_eq_true rfl) dX12_gift_245 ?_
    refine A_i2l X dX12_gift_248 ?_
    refine A_ladd X dX12_gift_249 ?_
    refine A_l2i X dX12_gift_250 ?_
    exact A_ireturn X E h dX12_gift_251
  · replace h := ifF h c13
    refine A_aload_n X 0 rfl rfl dX12_gift_116 ?_
    refine A_iload_n X 2 rfl rfl dX12_gift_117 ?_
    obtain ⟨v17, s18, e19, h⟩ := clD h
    refine A_callV_I (na := 1) X (m_X12_first e19) gX12_gift_X12_first rfl ⟨rfl, rfl⟩ (by decide +kernel) rfl ⟨Nat.le_of_ble_eq_true rfl, Nat.le_of_ble_eq_true rfl⟩ shM_0 (by decide) rfl rfl (Nat.le_of_ble_eq_true rfl) dX12_gift_118 ?_
    refine A_istore X (L' := [(4, vI v17), (0, vR 0), (1, vL x1), (3, vI x3)]) (by decide) rfl dX12_gift_121 ?_
    refine A_aload_n X 1 rfl rfl dX12_gift_123 ?_
    refine A_iload_n X 3 rfl rfl dX12_gift_124 ?_
    obtain ⟨v20, s21, e22, h⟩ := clD h
    refine A_callV_I (na := 1) X (m_X12_second e22) gX12_gift_X12_second rfl ⟨rfl, rfl⟩ (by decide +kernel) rfl ⟨Nat.le_of_ble_eq_true rfl, Nat.le_of_ble_eq_true rfl⟩ shM_0 (by decide) rfl rfl (Nat.le_of_ble_eq_true rfl) dX12_gift_125 ?_
    refine A_istore X (L' := [(5, vI v20), (4, vI v17), (0, vR 0), (1, vL x1), (3, vI x3)]) (by decide) rfl dX12_gift_128 ?_
    refine A_aload_n X 2 rfl rfl dX12_gift_130 ?_
    refine A_getR X fg_X12_gift_165 shM_0 (k := 50) rfl (by decide) dX12_gift_131 ?_
    refine A_iload_n X 4 rfl rfl dX12_gift_134 ?_
    obtain ⟨g23, h⟩ := gdD h
    refine A_iald X g23 shM_30 dX12_gift_135 ?_
    refine A_i2l X dX12_gift_136 ?_
    refine A_aload_n X 2 rfl rfl dX12_gift_137 ?_
    refine A_getR X fg_X12_gift_213 shM_0 (k := 66) rfl (by decide) dX12_gift_138 ?_
    refine A_iload X 1 rfl dX12_gift_141 ?_
    obtain ⟨g24, h⟩ := gdD h
    refine A_lald X g24 shM_45 dX12_gift_143 ?_
    refine A_lsub X dX12_gift_144 ?_
    refine A_aload_n X 2 rfl rfl dX12_gift_145 ?_
    refine A_getR X fg_X12_gift_213 shM_0 (k := 66) rfl (by decide) dX12_gift_146 ?_
    refine A_iload X 0 rfl dX12_gift_149 ?_
    obtain ⟨g25, h⟩ := gdD h
    refine A_lald X g25 shM_45 dX12_gift_151 ?_
    refine A_lsub X dX12_gift_152 ?_
    refine A_aload_n X 2 rfl rfl dX12_gift_153 ?_
    refine A_getR X fg_X12_gift_225 shM_0 (k := 70) rfl (by decide) dX12_gift_154 ?_
    refine A_iload X 1 rfl dX12_gift_157 ?_
    obtain ⟨g26, h⟩ := gdD h
    refine A_lald X g26 shM_48 dX12_gift_159 ?_
    refine A_lsub X dX12_gift_160 ?_
    refine A_aload_n X 2 rfl rfl dX12_gift_161 ?_
    refine A_getR X fg_X12_gift_225 shM_0 (k := 70) rfl (by decide) dX12_gift_162 ?_
    refine A_iload X 0 rfl dX12_gift_165 ?_
    obtain ⟨g27, h⟩ := gdD h
    refine A_lald X g27 shM_48 dX12_gift_167 ?_
    refine A_lsub X dX12_gift_168 ?_
    refine A_lstoreN X (L' := fun y6_28 => [(6, vL y6_28), (5, vI v20), (4, vI v17), (0, vR 0), (1, vL x1), (3, vI x3)]) (by decide) (fun _ => rfl) dX12_gift_169 (fun y6_28 hy => ?_)
    replace h := ltD h y6_28 hy
    clear hy
    refine A_aload_n X 3 rfl rfl dX12_gift_171 ?_
    refine A_getR X fg_X12_gift_222 shM_0 (k := 69) rfl (by decide) dX12_gift_172 ?_
    refine A_bipush X dX12_gift_175 (z := 12) (by decide) ?_
    refine A_iload X 2 rfl dX12_gift_177 ?_
    refine A_imul X dX12_gift_179 ?_
    refine A_iload X 1 rfl dX12_gift_180 ?_
    refine A_iadd X dX12_gift_182 ?_
    refine A_aload_n X 3 rfl rfl dX12_gift_183 ?_
    refine A_getR X fg_X12_gift_162 shM_0 (k := 49) rfl (by decide) dX12_gift_184 ?_
    refine A_iload_n X 5 rfl rfl dX12_gift_187 ?_
    obtain ⟨g29, h⟩ := gdD h
    refine A_zald X g29 shM_29 dX12_gift_188 ?_
    refine A_if_eq X (tgt := 205) (by decide) dX12_gift_189 (fun c30 => ?_) (fun c30 => ?_)
    · replace h := ifT h c30
      refine A_sub [3, 4, 5, 2, 1] rfl (L' := [(0, vR 0), (1, vL x1), (3, vI x3), (4, vI v17), (5, vI v20)]) rfl ?_
      exact w_X12_gift_205 X E hk103 x1 x3 v17 v20 (iadd (imul 12 v17) v20) s21 h
    · replace h := ifF h c30
      refine A_lload X 0 rfl dX12_gift_192 ?_
      refine A_lconst X dX12_gift_194 (z := 0) (by decide) ?_
      refine A_lcmp X dX12_gift_195 ?_
      refine A_if_le X (tgt := 205) (by decide) dX12_gift_196 (fun c31 => ?_) (fun c31 => ?_)
      · replace h := ifT h c31
        refine A_sub [3, 4, 5, 2, 1] rfl (L' := [(0, vR 0), (1, vL x1), (3, vI x3), (4, vI v17), (5, vI v20)]) rfl ?_
        exact w_X12_gift_205 X E hk103 x1 x3 v17 v20 (iadd (imul 12 v17) v20) s21 h
      · replace h := ifF h c31
        refine A_lload X 0 rfl dX12_gift_199 ?_
        refine A_l2i X dX12_gift_201 ?_
        refine A_goto X (tgt := 206) (by decide) dX12_gift_202 ?_
        refine A_sub [3, 4, 5, 2, 1] rfl (L' := [(0, vR 0), (1, vL x1), (3, vI x3), (4, vI v17), (5, vI v20)]) rfl ?_
        exact w_X12_gift_206 X E hk103 x1 x3 v17 v20 (w32 y6_28) (iadd (imul 12 v17) v20) s21 h
set_option maxRecDepth 100000 in
set_option maxHeartbeats 4000000 in
theorem w_X12_gift_103 {x : aC} {r : Int × Hp} (X : aX x cX12_gift wsX12_gift RX12 8 rm_X12_gift) (E : aE x shM (some .int) 0 r) : ∀ (n : Nat) (x1 : Int) (x3 : Int) (σ : Hp) (h : F_M_gift_103 n (x1, x3, σ) = some r), aS x shM 8 103 [(0, vR 0), (1, vL x1), (3, vI x3)] [] σ := by
  intro n
  induction n with
  | zero => intro x1 x3 σ h; cases h
  | succ n ih => intro x1 x3 σ h; exact w_X12_gift_103_b (k103 := F_M_gift_103 n) X E ih x1 x3 σ h
set_option maxRecDepth 100000 in
set_option maxHeartbeats 4000000 in
theorem w_X12_gift_81_b {x : aC} {r : Int × Hp} {k81 : Int × Int × Hp → Option (Int × Hp)} (X : aX x cX12_gift wsX12_gift RX12 8 rm_X12_gift) (E : aE x shM (some .int) 0 r) (hk81 : ∀ (x1 : Int) (x3 : Int) (σ : Hp), k81 (x1, x3, σ) = some r → aS x shM 8 81 [(0, vR 0), (1, vL x1), (3, vI x3)] [] σ) (x1 : Int) (x3 : Int) (σ : Hp) (h : F_M_gift_81_b k81 x1 x3 σ = some r) : aS x shM 8 81 [(0, vR 0), (1, vL x1), (3, vI x3)] [] σ := by
  unfold F_M_gift_81_b at h
  refine A_iload_n X 2 rfl rfl dX12_gift_81 ?_
  refine A_sipush X dX12_gift_82 (z := 144) (by decide) ?_
  refine A_icmp_ge X (tgt := 101) (by decide) dX12_gift_85 (fun c32 => ?_) (fun c32 => ?_)
  · replace h := ifT h c32
    refine A_iconst X dX12_gift_101 (z := 0) (by decide) ?_
    refine A_istore_n X (L' := [(3, vI 0), (0, vR 0), (1, vL x1)]) rfl (by decide) rfl dX12_gift_102 ?_
    refine A_sub [1, 2, 0] rfl (L' := [(0, vR 0), (1, vL x1), (3, vI 0)]) rfl ?_
    exact w_X12_gift_103 X E FU x1 0 σ h
  · replace h := ifF h c32
    refine A_aload_n X 0 rfl rfl dX12_gift_88 ?_
    refine A_getR X fg_X12_gift_222 shM_0 (k := 69) rfl (by decide) dX12_gift_89 ?_
    refine A_iload_n X 2 rfl rfl dX12_gift_92 ?_
    refine A_iconst X dX12_gift_93 (z := 0) (by decide) ?_
    obtain ⟨g33, h⟩ := gdD h
    refine A_iast X g33 shM_47 dX12_gift_94 (fun s34 hy => ?_)
    replace h := ltD h s34 hy
    clear hy
    refine A_iinc X (L' := fun y3_35 => [(3, vI y3_35), (0, vR 0), (1, vL x1)]) 2 rfl (by decide) (fun _ => rfl) dX12_gift_95 (by decide) (fun y3_35 hy => ?_)
    replace h := ltD h y3_35 hy
    clear hy
    refine A_goto X (tgt := 81) (by decide) dX12_gift_98 ?_
    refine A_sub [1, 2, 0] rfl (L' := [(0, vR 0), (1, vL x1), (3, vI y3_35)]) rfl ?_
    exact hk81 x1 y3_35 s34 h
set_option maxRecDepth 100000 in
set_option maxHeartbeats 4000000 in
theorem w_X12_gift_81 {x : aC} {r : Int × Hp} (X : aX x cX12_gift wsX12_gift RX12 8 rm_X12_gift) (E : aE x shM (some .int) 0 r) : ∀ (n : Nat) (x1 : Int) (x3 : Int) (σ : Hp) (h : F_M_gift_81 n (x1, x3, σ) = some r), aS x shM 8 81 [(0, vR 0), (1, vL x1), (3, vI x3)] [] σ := by
  intro n
  induction n with
  | zero => intro x1 x3 σ h; cases h
  | succ n ih => intro x1 x3 σ h; exact w_X12_gift_81_b (k81 := F_M_gift_81 n) X E ih x1 x3 σ h
set_option maxRecDepth 100000 in
set_option maxHeartbeats 4000000 in
theorem w_X12_gift_8_b {x : aC} {r : Int × Hp} {k8 : Int × Int × Hp → Option (Int × Hp)} (X : aX x cX12_gift wsX12_gift RX12 8 rm_X12_gift) (E : aE x shM (some .int) 0 r) (hk8 : ∀ (x1 : Int) (x3 : Int) (σ : Hp), k8 (x1, x3, σ) = some r → aS x shM 8 8 [(0, vR 0), (1, vL x1), (3, vI x3)] [] σ) (x1 : Int) (x3 : Int) (σ : Hp) (h : F_M_gift_8_b k8 x1 x3 σ = some r) : aS x shM 8 8 [(0, vR 0), (1, vL x1), (3, vI x3)] [] σ := by
  unfold F_M_gift_8_b at h
  refine A_iload_n X 2 rfl rfl dX12_gift_8 ?_
  refine A_aload_n X 0 rfl rfl dX12_gift_9 ?_
  refine A_getR X fg_X12_gift_51 shM_0 (k := 13) rfl (by decide) dX12_gift_10 ?_
  refine A_aload_n X 0 rfl rfl dX12_gift_13 ?_
  refine A_getI X fg_X12_gift_48 shM_0 (k := 12) rfl (by decide) dX12_gift_14 ?_
  obtain ⟨g36, h⟩ := gdD h
  refine A_iald X g36 shM_2 dX12_gift_17 ?_
  refine A_icmp_ge X (tgt := 79) (by decide) dX12_gift_18 (fun c37 => ?_) (fun c37 => ?_)
  · replace h := ifT h c37
    refine A_iconst X dX12_gift_79 (z := 0) (by decide) ?_
    refine A_istore_n X (L' := [(3, vI 0), (0, vR 0), (1, vL x1)]) rfl (by decide) rfl dX12_gift_80 ?_
    refine A_sub [1, 2, 0] rfl (L' := [(0, vR 0), (1, vL x1), (3, vI 0)]) rfl ?_
    exact w_X12_gift_81 X E FU x1 0 σ h
  · replace h := ifF h c37
    refine A_aload_n X 0 rfl rfl dX12_gift_21 ?_
    refine A_getR X fg_X12_gift_225 shM_0 (k := 70) rfl (by decide) dX12_gift_22 ?_
    refine A_iload_n X 2 rfl rfl dX12_gift_25 ?_
    refine A_aload_n X 0 rfl rfl dX12_gift_26 ?_
    refine A_getR X fg_X12_gift_213 shM_0 (k := 66) rfl (by decide) dX12_gift_27 ?_
    refine A_iload_n X 2 rfl rfl dX12_gift_30 ?_
    obtain ⟨g38, h⟩ := gdD h
    refine A_lald X g38 shM_45 dX12_gift_31 ?_
    refine A_aload_n X 0 rfl rfl dX12_gift_32 ?_
    refine A_iload_n X 2 rfl rfl dX12_gift_33 ?_
    obtain ⟨v39, s40, e41, h⟩ := clD h
    refine A_callV_I (na := 1) X (m_X12_aloneOf e41) gX12_gift_X12_aloneOf rfl ⟨rfl, rfl⟩ (by decide +kernel) rfl ⟨Nat.le_of_ble_eq_true rfl, Nat.le_of_ble_eq_true rfl⟩ shM_0 (by decide) rfl rfl (Nat.le_of_ble_eq_true rfl) dX12_gift_34 ?_
    refine A_i2l X dX12_gift_37 ?_
    refine A_lcmp X dX12_gift_38 ?_
    refine A_if_ge X (tgt := 58) (by decide) dX12_gift_39 (fun c42 => ?_) (fun c42 => ?_)
    · replace h := ifT h c42
      refine A_lconst X dX12_gift_58 (z := 0) (by decide) ?_
      exact w_X12_gift_59 X E hk8 x1 x3 0 x3 s40 h
    · replace h := ifF h c42
      refine A_aload_n X 0 rfl rfl dX12_gift_42 ?_
      refine A_iload_n X 2 rfl rfl dX12_gift_43 ?_
      obtain ⟨v43, s44, e45, h⟩ := clD h
      refine A_callV_I (na := 1) X (m_X12_aloneOf e45) gX12_gift_X12_aloneOf rfl ⟨rfl, rfl⟩ (by decide +kernel) rfl ⟨Nat.le_of_ble_eq_true rfl, Nat.le_of_ble_eq_true rfl⟩ shM_0 (by decide) rfl rfl (Nat.le_of_ble_eq_true rfl) dX12_gift_44 ?_
      refine A_i2l X dX12_gift_47 ?_
      refine A_aload_n X 0 rfl rfl dX12_gift_48 ?_
      refine A_getR X fg_X12_gift_213 shM_0 (k := 66) rfl (by decide) dX12_gift_49 ?_
      refine A_iload_n X 2 rfl rfl dX12_gift_52 ?_
      obtain ⟨g46, h⟩ := gdD h
      refine A_lald X g46 shM_45 dX12_gift_53 ?_
      refine A_lsub X dX12_gift_54 ?_
      refine A_goto X (tgt := 59) (by decide) dX12_gift_55 ?_
      exact w_X12_gift_59 X E hk8 x1 x3 (lsub v43 (s44 45 x3.toNat)) x3 s44 h
set_option maxRecDepth 100000 in
set_option maxHeartbeats 4000000 in
theorem w_X12_gift_8 {x : aC} {r : Int × Hp} (X : aX x cX12_gift wsX12_gift RX12 8 rm_X12_gift) (E : aE x shM (some .int) 0 r) : ∀ (n : Nat) (x1 : Int) (x3 : Int) (σ : Hp) (h : F_M_gift_8 n (x1, x3, σ) = some r), aS x shM 8 8 [(0, vR 0), (1, vL x1), (3, vI x3)] [] σ := by
  intro n
  induction n with
  | zero => intro x1 x3 σ h; cases h
  | succ n ih => intro x1 x3 σ h; exact w_X12_gift_8_b (k8 := F_M_gift_8 n) X E ih x1 x3 σ h
set_option maxRecDepth 100000 in
set_option maxHeartbeats 4000000 in
theorem m_X12_gift {l : Launch} {g : aG} {σ : Hp} {r : Int × Hp} (h : F_M_gift σ = some r) : aMet l g shM yX12_gift wsX12_gift rm_X12_gift [vR 0] σ 0 r := by
  unfold F_M_gift at h
  refine aMet_of (bytes := cX12_gift) (maxL := 8) (ret := (some .int)) (by decide +kernel) rfl (Nat.le_of_ble_eq_true rfl) ⟨rfl, rfl⟩ (fun x e1 e2 X E => ?_)
  subst e1; subst e2
  have X : aX x cX12_gift wsX12_gift RX12 8 rm_X12_gift := X
  show aS x shM 8 0 [(0, vR 0)] [] σ
  refine A_aload_n X 0 rfl rfl dX12_gift_0 ?_
  obtain ⟨v47, s48, e49, h⟩ := clD h
  refine A_callV_V (na := 0) X (m_X12_laysAll e49) gX12_gift_X12_laysAll rfl ⟨rfl, rfl⟩ (by decide +kernel) rfl ⟨Nat.le_of_ble_eq_true rfl, Nat.le_of_ble_eq_true rfl⟩ shM_0 (by decide) rfl rfl (Nat.le_of_ble_eq_true rfl) dX12_gift_1 ?_
  refine A_lconst X dX12_gift_4 (z := 0) (by decide) ?_
  refine A_lstore_n X (L' := [(1, vL 0), (0, vR 0)]) rfl (by decide) rfl dX12_gift_5 ?_
  refine A_iconst X dX12_gift_6 (z := 0) (by decide) ?_
  refine A_istore_n X (L' := [(3, vI 0), (1, vL 0), (0, vR 0)]) rfl (by decide) rfl dX12_gift_7 ?_
  refine A_sub [2, 1, 0] rfl (L' := [(0, vR 0), (1, vL 0), (3, vI 0)]) rfl ?_
  exact w_X12_gift_8 X E FU 0 0 s48 h

