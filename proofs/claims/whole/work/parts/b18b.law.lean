/-! THE LAW: a call of each kind -/
def Sim_end (Inv : Hp → Hp → Prop) : Prop := ∀ (σ τ : Hp) (a1 : Int), inI a1 → Inv σ τ → wr shC σ → wr shM τ → ∃ (z : Int) (σ' τ' : Hp), F_RD_end a1 σ = some (z, σ') ∧ F_M_end a1 τ = some (z, τ') ∧ Inv σ' τ'
set_option maxHeartbeats 1000000 in
theorem case_end {x : aC} {base b Lc K Wd : Nat} {xr : Nat → Int32} (B : lX x cL_law wsL_law RL 4 room_1 base b Lc xr K Wd) (hLc : Lc ≤ 3072) {iN : Nat} (hi : iN + 6 ≤ Lc) {Inv : Hp → Hp → Prop} {σ τ : Hp} (hw1 : wr shC σ) (hw2 : wr shM τ) (hI : Inv σ τ) (S : Sim_end Inv) (kk : ∀ σ' τ', wr shC σ' → wr shM τ' → Inv σ' τ' → aS x (shC ++ shM) 4 1204 (Lw b iN) [] (hjoin shC.length σ' τ')) : aS x (shC ++ shM) 4 263 (Lw b iN) [] (hjoin shC.length σ τ) := by
  obtain ⟨z, σ1, τ1, h1, h2, h3⟩ := S σ τ (xr (iN + 1)).toInt (rg_i _) hI hw1 hw2
  refine A_aload_n B.1 2 rfl rfl dL_law_263 ?_
  refine L_arg B 3 0 rfl rfl (kN := 1) rfl (by omega) (by omega) dL_law_264 dL_law_265 dL_law_266 dL_law_267 dL_law_268 ?_
  refine L_callC (As := [vI (xr (iN + 1)).toInt]) (rt := 0) (na := 1) B okM hw1 hw2 (m_X11_end h1) gL_law_X11_end rfl ⟨rfl, rfl⟩ (by decide +kernel) rfl ⟨Nat.le_of_ble_eq_true rfl, Nat.le_of_ble_eq_true rfl⟩ shC_0 (by decide) rfl rfl (Nat.le_of_ble_eq_true rfl) dL_law_269 (fun hw1b => ?_)
  refine A_aload_n B.1 1 rfl rfl dL_law_272 ?_
  refine L_arg B 3 0 rfl rfl (kN := 1) rfl (by omega) (by omega) dL_law_273 dL_law_274 dL_law_275 dL_law_276 dL_law_277 ?_
  refine L_callM (As := [vI (xr (iN + 1)).toInt]) (rt := 0) (q := 0) (na := 1) B okM hw1b hw2 rfl (m_X12_end h2) (by decide) gL_law_X12_end rfl ⟨rfl, rfl⟩ (by decide +kernel) rfl ⟨Nat.le_of_ble_eq_true rfl, Nat.le_of_ble_eq_true rfl⟩ shM_0 (by decide) rfl rfl (Nat.le_of_ble_eq_true rfl) dL_law_278 (fun hw2b => ?_)
  exact A_icmp_eq (tgt := 1204) B.1 rfl dL_law_281 (fun _ => kk σ1 τ1 hw1b hw2b h3) (fun h => absurd rfl h)
def Sim_text (Inv : Hp → Hp → Prop) : Prop := ∀ (σ τ : Hp), Inv σ τ → wr shC σ → wr shM τ → ∃ (z : Int) (σ' τ' : Hp), F_RD_text σ = some (z, σ') ∧ F_M_text τ = some (z, τ') ∧ Inv σ' τ'
set_option maxHeartbeats 1000000 in
theorem case_text {x : aC} {base b Lc K Wd : Nat} {xr : Nat → Int32} (B : lX x cL_law wsL_law RL 4 room_1 base b Lc xr K Wd) (hLc : Lc ≤ 3072) {iN : Nat} (hi : iN + 6 ≤ Lc) {Inv : Hp → Hp → Prop} {σ τ : Hp} (hw1 : wr shC σ) (hw2 : wr shM τ) (hI : Inv σ τ) (S : Sim_text Inv) (kk : ∀ σ' τ', wr shC σ' → wr shM τ' → Inv σ' τ' → aS x (shC ++ shM) 4 1204 (Lw b iN) [] (hjoin shC.length σ' τ')) : aS x (shC ++ shM) 4 286 (Lw b iN) [] (hjoin shC.length σ τ) := by
  obtain ⟨z, σ1, τ1, h1, h2, h3⟩ := S σ τ hI hw1 hw2
  refine A_aload_n B.1 2 rfl rfl dL_law_286 ?_
  refine L_callC (As := []) (rt := 0) (na := 0) B okM hw1 hw2 (m_X11_text h1) gL_law_X11_text rfl ⟨rfl, rfl⟩ (by decide +kernel) rfl ⟨Nat.le_of_ble_eq_true rfl, Nat.le_of_ble_eq_true rfl⟩ shC_0 (by decide) rfl rfl (Nat.le_of_ble_eq_true rfl) dL_law_287 (fun hw1b => ?_)
  refine A_aload_n B.1 1 rfl rfl dL_law_290 ?_
  refine L_callM (As := []) (rt := 0) (q := 0) (na := 0) B okM hw1b hw2 rfl (m_X12_text h2) (by decide) gL_law_X12_text rfl ⟨rfl, rfl⟩ (by decide +kernel) rfl ⟨Nat.le_of_ble_eq_true rfl, Nat.le_of_ble_eq_true rfl⟩ shM_0 (by decide) rfl rfl (Nat.le_of_ble_eq_true rfl) dL_law_291 (fun hw2b => ?_)
  exact A_icmp_eq (tgt := 1204) B.1 rfl dL_law_294 (fun _ => kk σ1 τ1 hw1b hw2b h3) (fun h => absurd rfl h)
def Sim_fault (Inv : Hp → Hp → Prop) : Prop := ∀ (σ τ : Hp) (a1 : Int), inI a1 → Inv σ τ → wr shC σ → wr shM τ → ∃ (z : Int) (σ' τ' : Hp), F_RD_fault a1 σ = some (z, σ') ∧ F_M_fault a1 τ = some (z, τ') ∧ Inv σ' τ'
set_option maxHeartbeats 1000000 in
theorem case_fault {x : aC} {base b Lc K Wd : Nat} {xr : Nat → Int32} (B : lX x cL_law wsL_law RL 4 room_1 base b Lc xr K Wd) (hLc : Lc ≤ 3072) {iN : Nat} (hi : iN + 6 ≤ Lc) {Inv : Hp → Hp → Prop} {σ τ : Hp} (hw1 : wr shC σ) (hw2 : wr shM τ) (hI : Inv σ τ) (S : Sim_fault Inv) (kk : ∀ σ' τ', wr shC σ' → wr shM τ' → Inv σ' τ' → aS x (shC ++ shM) 4 1204 (Lw b iN) [] (hjoin shC.length σ' τ')) : aS x (shC ++ shM) 4 299 (Lw b iN) [] (hjoin shC.length σ τ) := by
  obtain ⟨z, σ1, τ1, h1, h2, h3⟩ := S σ τ (xr (iN + 1)).toInt (rg_i _) hI hw1 hw2
  refine A_aload_n B.1 2 rfl rfl dL_law_299 ?_
  refine L_arg B 3 0 rfl rfl (kN := 1) rfl (by omega) (by omega) dL_law_300 dL_law_301 dL_law_302 dL_law_303 dL_law_304 ?_
  refine L_callC (As := [vI (xr (iN + 1)).toInt]) (rt := 0) (na := 1) B okM hw1 hw2 (m_X11_fault h1) gL_law_X11_fault rfl ⟨rfl, rfl⟩ (by decide +kernel) rfl ⟨Nat.le_of_ble_eq_true rfl, Nat.le_of_ble_eq_true rfl⟩ shC_0 (by decide) rfl rfl (Nat.le_of_ble_eq_true rfl) dL_law_305 (fun hw1b => ?_)
  refine A_aload_n B.1 1 rfl rfl dL_law_308 ?_
  refine L_arg B 3 0 rfl rfl (kN := 1) rfl (by omega) (by omega) dL_law_309 dL_law_310 dL_law_311 dL_law_312 dL_law_313 ?_
  refine L_callM (As := [vI (xr (iN + 1)).toInt]) (rt := 0) (q := 0) (na := 1) B okM hw1b hw2 rfl (m_X12_fault h2) (by decide) gL_law_X12_fault rfl ⟨rfl, rfl⟩ (by decide +kernel) rfl ⟨Nat.le_of_ble_eq_true rfl, Nat.le_of_ble_eq_true rfl⟩ shM_0 (by decide) rfl rfl (Nat.le_of_ble_eq_true rfl) dL_law_314 (fun hw2b => ?_)
  exact A_icmp_eq (tgt := 1204) B.1 rfl dL_law_317 (fun _ => kk σ1 τ1 hw1b hw2b h3) (fun h => absurd rfl h)
def Sim_has (Inv : Hp → Hp → Prop) : Prop := ∀ (σ τ : Hp) (a1 : Int), inI a1 → Inv σ τ → wr shC σ → wr shM τ → ∃ (z : Int) (σ' τ' : Hp), F_RD_has a1 σ = some (z, σ') ∧ F_M_has a1 τ = some (z, τ') ∧ Inv σ' τ'
set_option maxHeartbeats 1000000 in
theorem case_has {x : aC} {base b Lc K Wd : Nat} {xr : Nat → Int32} (B : lX x cL_law wsL_law RL 4 room_1 base b Lc xr K Wd) (hLc : Lc ≤ 3072) {iN : Nat} (hi : iN + 6 ≤ Lc) {Inv : Hp → Hp → Prop} {σ τ : Hp} (hw1 : wr shC σ) (hw2 : wr shM τ) (hI : Inv σ τ) (S : Sim_has Inv) (kk : ∀ σ' τ', wr shC σ' → wr shM τ' → Inv σ' τ' → aS x (shC ++ shM) 4 1204 (Lw b iN) [] (hjoin shC.length σ' τ')) : aS x (shC ++ shM) 4 322 (Lw b iN) [] (hjoin shC.length σ τ) := by
  obtain ⟨z, σ1, τ1, h1, h2, h3⟩ := S σ τ (xr (iN + 1)).toInt (rg_i _) hI hw1 hw2
  refine A_aload_n B.1 2 rfl rfl dL_law_322 ?_
  refine L_arg B 3 0 rfl rfl (kN := 1) rfl (by omega) (by omega) dL_law_323 dL_law_324 dL_law_325 dL_law_326 dL_law_327 ?_
  refine L_callC (As := [vI (xr (iN + 1)).toInt]) (rt := 0) (na := 1) B okM hw1 hw2 (m_X11_has h1) gL_law_X11_has rfl ⟨rfl, rfl⟩ (by decide +kernel) rfl ⟨Nat.le_of_ble_eq_true rfl, Nat.le_of_ble_eq_true rfl⟩ shC_0 (by decide) rfl rfl (Nat.le_of_ble_eq_true rfl) dL_law_328 (fun hw1b => ?_)
  refine A_aload_n B.1 1 rfl rfl dL_law_331 ?_
  refine L_arg B 3 0 rfl rfl (kN := 1) rfl (by omega) (by omega) dL_law_332 dL_law_333 dL_law_334 dL_law_335 dL_law_336 ?_
  refine L_callM (As := [vI (xr (iN + 1)).toInt]) (rt := 0) (q := 0) (na := 1) B okM hw1b hw2 rfl (m_X12_has h2) (by decide) gL_law_X12_has rfl ⟨rfl, rfl⟩ (by decide +kernel) rfl ⟨Nat.le_of_ble_eq_true rfl, Nat.le_of_ble_eq_true rfl⟩ shM_0 (by decide) rfl rfl (Nat.le_of_ble_eq_true rfl) dL_law_337 (fun hw2b => ?_)
  exact A_icmp_eq (tgt := 1204) B.1 rfl dL_law_340 (fun _ => kk σ1 τ1 hw1b hw2b h3) (fun h => absurd rfl h)
def Sim_letter (Inv : Hp → Hp → Prop) : Prop := ∀ (σ τ : Hp) (a1 a2 : Int), inI a1 → inI a2 → Inv σ τ → wr shC σ → wr shM τ → ∃ (z : Int) (σ' τ' : Hp), F_RD_letter a1 a2 σ = some (z, σ') ∧ F_M_letter a1 a2 τ = some (z, τ') ∧ Inv σ' τ'
set_option maxHeartbeats 1000000 in
theorem case_letter {x : aC} {base b Lc K Wd : Nat} {xr : Nat → Int32} (B : lX x cL_law wsL_law RL 4 room_1 base b Lc xr K Wd) (hLc : Lc ≤ 3072) {iN : Nat} (hi : iN + 6 ≤ Lc) {Inv : Hp → Hp → Prop} {σ τ : Hp} (hw1 : wr shC σ) (hw2 : wr shM τ) (hI : Inv σ τ) (S : Sim_letter Inv) (kk : ∀ σ' τ', wr shC σ' → wr shM τ' → Inv σ' τ' → aS x (shC ++ shM) 4 1204 (Lw b iN) [] (hjoin shC.length σ' τ')) : aS x (shC ++ shM) 4 345 (Lw b iN) [] (hjoin shC.length σ τ) := by
  obtain ⟨z, σ1, τ1, h1, h2, h3⟩ := S σ τ (xr (iN + 1)).toInt (xr (iN + 2)).toInt (rg_i _) (rg_i _) hI hw1 hw2
  refine A_aload_n B.1 2 rfl rfl dL_law_345 ?_
  refine L_arg B 3 0 rfl rfl (kN := 1) rfl (by omega) (by omega) dL_law_346 dL_law_347 dL_law_348 dL_law_349 dL_law_350 ?_
  refine L_arg B 3 0 rfl rfl (kN := 2) rfl (by omega) (by omega) dL_law_351 dL_law_352 dL_law_353 dL_law_354 dL_law_355 ?_
  refine L_callC (As := [vI (xr (iN + 1)).toInt, vI (xr (iN + 2)).toInt]) (rt := 0) (na := 2) B okM hw1 hw2 (m_X11_letter h1) gL_law_X11_letter rfl ⟨rfl, rfl⟩ (by decide +kernel) rfl ⟨Nat.le_of_ble_eq_true rfl, Nat.le_of_ble_eq_true rfl⟩ shC_0 (by decide) rfl rfl (Nat.le_of_ble_eq_true rfl) dL_law_356 (fun hw1b => ?_)
  refine A_aload_n B.1 1 rfl rfl dL_law_359 ?_
  refine L_arg B 3 0 rfl rfl (kN := 1) rfl (by omega) (by omega) dL_law_360 dL_law_361 dL_law_362 dL_law_363 dL_law_364 ?_
  refine L_arg B 3 0 rfl rfl (kN := 2) rfl (by omega) (by omega) dL_law_365 dL_law_366 dL_law_367 dL_law_368 dL_law_369 ?_
  refine L_callM (As := [vI (xr (iN + 1)).toInt, vI (xr (iN + 2)).toInt]) (rt := 0) (q := 0) (na := 2) B okM hw1b hw2 rfl (m_X12_letter h2) (by decide) gL_law_X12_letter rfl ⟨rfl, rfl⟩ (by decide +kernel) rfl ⟨Nat.le_of_ble_eq_true rfl, Nat.le_of_ble_eq_true rfl⟩ shM_0 (by decide) rfl rfl (Nat.le_of_ble_eq_true rfl) dL_law_370 (fun hw2b => ?_)
  exact A_icmp_eq (tgt := 1204) B.1 rfl dL_law_373 (fun _ => kk σ1 τ1 hw1b hw2b h3) (fun h => absurd rfl h)
def Sim_road (Inv : Hp → Hp → Prop) : Prop := ∀ (σ τ : Hp) (a1 a2 : Int), inI a1 → inI a2 → Inv σ τ → wr shC σ → wr shM τ → ∃ (z : Int) (σ' τ' : Hp), F_RD_road a1 a2 σ = some (z, σ') ∧ F_M_road_ a1 a2 τ = some (z, τ') ∧ Inv σ' τ'
set_option maxHeartbeats 1000000 in
theorem case_road {x : aC} {base b Lc K Wd : Nat} {xr : Nat → Int32} (B : lX x cL_law wsL_law RL 4 room_1 base b Lc xr K Wd) (hLc : Lc ≤ 3072) {iN : Nat} (hi : iN + 6 ≤ Lc) {Inv : Hp → Hp → Prop} {σ τ : Hp} (hw1 : wr shC σ) (hw2 : wr shM τ) (hI : Inv σ τ) (S : Sim_road Inv) (kk : ∀ σ' τ', wr shC σ' → wr shM τ' → Inv σ' τ' → aS x (shC ++ shM) 4 1204 (Lw b iN) [] (hjoin shC.length σ' τ')) : aS x (shC ++ shM) 4 378 (Lw b iN) [] (hjoin shC.length σ τ) := by
  obtain ⟨z, σ1, τ1, h1, h2, h3⟩ := S σ τ (xr (iN + 1)).toInt (xr (iN + 2)).toInt (rg_i _) (rg_i _) hI hw1 hw2
  refine A_aload_n B.1 2 rfl rfl dL_law_378 ?_
  refine L_arg B 3 0 rfl rfl (kN := 1) rfl (by omega) (by omega) dL_law_379 dL_law_380 dL_law_381 dL_law_382 dL_law_383 ?_
  refine L_arg B 3 0 rfl rfl (kN := 2) rfl (by omega) (by omega) dL_law_384 dL_law_385 dL_law_386 dL_law_387 dL_law_388 ?_
  refine L_callC (As := [vI (xr (iN + 1)).toInt, vI (xr (iN + 2)).toInt]) (rt := 0) (na := 2) B okM hw1 hw2 (m_X11_road h1) gL_law_X11_road rfl ⟨rfl, rfl⟩ (by decide +kernel) rfl ⟨Nat.le_of_ble_eq_true rfl, Nat.le_of_ble_eq_true rfl⟩ shC_0 (by decide) rfl rfl (Nat.le_of_ble_eq_true rfl) dL_law_389 (fun hw1b => ?_)
  refine A_aload_n B.1 1 rfl rfl dL_law_392 ?_
  refine L_arg B 3 0 rfl rfl (kN := 1) rfl (by omega) (by omega) dL_law_393 dL_law_394 dL_law_395 dL_law_396 dL_law_397 ?_
  refine L_arg B 3 0 rfl rfl (kN := 2) rfl (by omega) (by omega) dL_law_398 dL_law_399 dL_law_400 dL_law_401 dL_law_402 ?_
  refine L_callM (As := [vI (xr (iN + 1)).toInt, vI (xr (iN + 2)).toInt]) (rt := 0) (q := 0) (na := 2) B okM hw1b hw2 rfl (m_X12_road_ h2) (by decide) gL_law_X12_road_ rfl ⟨rfl, rfl⟩ (by decide +kernel) rfl ⟨Nat.le_of_ble_eq_true rfl, Nat.le_of_ble_eq_true rfl⟩ shM_0 (by decide) rfl rfl (Nat.le_of_ble_eq_true rfl) dL_law_403 (fun hw2b => ?_)
  exact A_icmp_eq (tgt := 1204) B.1 rfl dL_law_406 (fun _ => kk σ1 τ1 hw1b hw2b h3) (fun h => absurd rfl h)
def Sim_day (Inv : Hp → Hp → Prop) : Prop := ∀ (σ τ : Hp) (a1 : Int), inI a1 → Inv σ τ → wr shC σ → wr shM τ → ∃ (z : Int) (σ' τ' : Hp), F_RD_day a1 σ = some (z, σ') ∧ F_M_day a1 τ = some (z, τ') ∧ Inv σ' τ'
set_option maxHeartbeats 1000000 in
theorem case_day {x : aC} {base b Lc K Wd : Nat} {xr : Nat → Int32} (B : lX x cL_law wsL_law RL 4 room_1 base b Lc xr K Wd) (hLc : Lc ≤ 3072) {iN : Nat} (hi : iN + 6 ≤ Lc) {Inv : Hp → Hp → Prop} {σ τ : Hp} (hw1 : wr shC σ) (hw2 : wr shM τ) (hI : Inv σ τ) (S : Sim_day Inv) (kk : ∀ σ' τ', wr shC σ' → wr shM τ' → Inv σ' τ' → aS x (shC ++ shM) 4 1204 (Lw b iN) [] (hjoin shC.length σ' τ')) : aS x (shC ++ shM) 4 411 (Lw b iN) [] (hjoin shC.length σ τ) := by
  obtain ⟨z, σ1, τ1, h1, h2, h3⟩ := S σ τ (xr (iN + 1)).toInt (rg_i _) hI hw1 hw2
  refine A_aload_n B.1 2 rfl rfl dL_law_411 ?_
  refine L_arg B 3 0 rfl rfl (kN := 1) rfl (by omega) (by omega) dL_law_412 dL_law_413 dL_law_414 dL_law_415 dL_law_416 ?_
  refine L_callC (As := [vI (xr (iN + 1)).toInt]) (rt := 0) (na := 1) B okM hw1 hw2 (m_X11_day h1) gL_law_X11_day rfl ⟨rfl, rfl⟩ (by decide +kernel) rfl ⟨Nat.le_of_ble_eq_true rfl, Nat.le_of_ble_eq_true rfl⟩ shC_0 (by decide) rfl rfl (Nat.le_of_ble_eq_true rfl) dL_law_417 (fun hw1b => ?_)
  refine A_aload_n B.1 1 rfl rfl dL_law_420 ?_
  refine L_arg B 3 0 rfl rfl (kN := 1) rfl (by omega) (by omega) dL_law_421 dL_law_422 dL_law_423 dL_law_424 dL_law_425 ?_
  refine L_callM (As := [vI (xr (iN + 1)).toInt]) (rt := 0) (q := 0) (na := 1) B okM hw1b hw2 rfl (m_X12_day h2) (by decide) gL_law_X12_day rfl ⟨rfl, rfl⟩ (by decide +kernel) rfl ⟨Nat.le_of_ble_eq_true rfl, Nat.le_of_ble_eq_true rfl⟩ shM_0 (by decide) rfl rfl (Nat.le_of_ble_eq_true rfl) dL_law_426 (fun hw2b => ?_)
  exact A_icmp_eq (tgt := 1204) B.1 rfl dL_law_429 (fun _ => kk σ1 τ1 hw1b hw2b h3) (fun h => absurd rfl h)
def Sim_worth (Inv : Hp → Hp → Prop) : Prop := ∀ (σ τ : Hp) (a1 a2 : Int), inI a1 → inI a2 → Inv σ τ → wr shC σ → wr shM τ → ∃ (z : Int) (σ' τ' : Hp), F_RD_worth a1 a2 σ = some (z, σ') ∧ F_M_worth a1 a2 τ = some (z, τ') ∧ Inv σ' τ'
set_option maxHeartbeats 1000000 in
theorem case_worth {x : aC} {base b Lc K Wd : Nat} {xr : Nat → Int32} (B : lX x cL_law wsL_law RL 4 room_1 base b Lc xr K Wd) (hLc : Lc ≤ 3072) {iN : Nat} (hi : iN + 6 ≤ Lc) {Inv : Hp → Hp → Prop} {σ τ : Hp} (hw1 : wr shC σ) (hw2 : wr shM τ) (hI : Inv σ τ) (S : Sim_worth Inv) (kk : ∀ σ' τ', wr shC σ' → wr shM τ' → Inv σ' τ' → aS x (shC ++ shM) 4 1204 (Lw b iN) [] (hjoin shC.length σ' τ')) : aS x (shC ++ shM) 4 434 (Lw b iN) [] (hjoin shC.length σ τ) := by
  obtain ⟨z, σ1, τ1, h1, h2, h3⟩ := S σ τ (xr (iN + 1)).toInt (xr (iN + 2)).toInt (rg_i _) (rg_i _) hI hw1 hw2
  refine A_aload_n B.1 2 rfl rfl dL_law_434 ?_
  refine L_arg B 3 0 rfl rfl (kN := 1) rfl (by omega) (by omega) dL_law_435 dL_law_436 dL_law_437 dL_law_438 dL_law_439 ?_
  refine L_arg B 3 0 rfl rfl (kN := 2) rfl (by omega) (by omega) dL_law_440 dL_law_441 dL_law_442 dL_law_443 dL_law_444 ?_
  refine L_callC (As := [vI (xr (iN + 1)).toInt, vI (xr (iN + 2)).toInt]) (rt := 0) (na := 2) B okM hw1 hw2 (m_X11_worth h1) gL_law_X11_worth rfl ⟨rfl, rfl⟩ (by decide +kernel) rfl ⟨Nat.le_of_ble_eq_true rfl, Nat.le_of_ble_eq_true rfl⟩ shC_0 (by decide) rfl rfl (Nat.le_of_ble_eq_true rfl) dL_law_445 (fun hw1b => ?_)
  refine A_aload_n B.1 1 rfl rfl dL_law_448 ?_
  refine L_arg B 3 0 rfl rfl (kN := 1) rfl (by omega) (by omega) dL_law_449 dL_law_450 dL_law_451 dL_law_452 dL_law_453 ?_
  refine L_arg B 3 0 rfl rfl (kN := 2) rfl (by omega) (by omega) dL_law_454 dL_law_455 dL_law_456 dL_law_457 dL_law_458 ?_
  refine L_callM (As := [vI (xr (iN + 1)).toInt, vI (xr (iN + 2)).toInt]) (rt := 0) (q := 0) (na := 2) B okM hw1b hw2 rfl (m_X12_worth h2) (by decide) gL_law_X12_worth rfl ⟨rfl, rfl⟩ (by decide +kernel) rfl ⟨Nat.le_of_ble_eq_true rfl, Nat.le_of_ble_eq_true rfl⟩ shM_0 (by decide) rfl rfl (Nat.le_of_ble_eq_true rfl) dL_law_459 (fun hw2b => ?_)
  exact A_icmp_eq (tgt := 1204) B.1 rfl dL_law_462 (fun _ => kk σ1 τ1 hw1b hw2b h3) (fun h => absurd rfl h)
def Sim_annul (Inv : Hp → Hp → Prop) : Prop := ∀ (σ τ : Hp) (a1 : Int), inI a1 → Inv σ τ → wr shC σ → wr shM τ → ∃ (z : Int) (σ' τ' : Hp), F_RD_annul a1 σ = some (z, σ') ∧ F_M_annul a1 τ = some (z, τ') ∧ Inv σ' τ'
set_option maxHeartbeats 1000000 in
theorem case_annul {x : aC} {base b Lc K Wd : Nat} {xr : Nat → Int32} (B : lX x cL_law wsL_law RL 4 room_1 base b Lc xr K Wd) (hLc : Lc ≤ 3072) {iN : Nat} (hi : iN + 6 ≤ Lc) {Inv : Hp → Hp → Prop} {σ τ : Hp} (hw1 : wr shC σ) (hw2 : wr shM τ) (hI : Inv σ τ) (S : Sim_annul Inv) (kk : ∀ σ' τ', wr shC σ' → wr shM τ' → Inv σ' τ' → aS x (shC ++ shM) 4 1204 (Lw b iN) [] (hjoin shC.length σ' τ')) : aS x (shC ++ shM) 4 467 (Lw b iN) [] (hjoin shC.length σ τ) := by
  obtain ⟨z, σ1, τ1, h1, h2, h3⟩ := S σ τ (xr (iN + 1)).toInt (rg_i _) hI hw1 hw2
  refine A_aload_n B.1 2 rfl rfl dL_law_467 ?_
  refine L_arg B 3 0 rfl rfl (kN := 1) rfl (by omega) (by omega) dL_law_468 dL_law_469 dL_law_470 dL_law_471 dL_law_472 ?_
  refine L_callC (As := [vI (xr (iN + 1)).toInt]) (rt := 0) (na := 1) B okM hw1 hw2 (m_X11_annul h1) gL_law_X11_annul rfl ⟨rfl, rfl⟩ (by decide +kernel) rfl ⟨Nat.le_of_ble_eq_true rfl, Nat.le_of_ble_eq_true rfl⟩ shC_0 (by decide) rfl rfl (Nat.le_of_ble_eq_true rfl) dL_law_473 (fun hw1b => ?_)
  refine A_aload_n B.1 1 rfl rfl dL_law_476 ?_
  refine L_arg B 3 0 rfl rfl (kN := 1) rfl (by omega) (by omega) dL_law_477 dL_law_478 dL_law_479 dL_law_480 dL_law_481 ?_
  refine L_callM (As := [vI (xr (iN + 1)).toInt]) (rt := 0) (q := 0) (na := 1) B okM hw1b hw2 rfl (m_X12_annul h2) (by decide) gL_law_X12_annul rfl ⟨rfl, rfl⟩ (by decide +kernel) rfl ⟨Nat.le_of_ble_eq_true rfl, Nat.le_of_ble_eq_true rfl⟩ shM_0 (by decide) rfl rfl (Nat.le_of_ble_eq_true rfl) dL_law_482 (fun hw2b => ?_)
  exact A_icmp_eq (tgt := 1204) B.1 rfl dL_law_485 (fun _ => kk σ1 τ1 hw1b hw2b h3) (fun h => absurd rfl h)
def Sim_as (Inv : Hp → Hp → Prop) : Prop := ∀ (σ τ : Hp) (a1 : Int), inI a1 → Inv σ τ → wr shC σ → wr shM τ → ∃ (z : Int) (σ' τ' : Hp), F_RD_as a1 σ = some (z, σ') ∧ F_M_as a1 τ = some (z, τ') ∧ Inv σ' τ'
set_option maxHeartbeats 1000000 in
theorem case_as {x : aC} {base b Lc K Wd : Nat} {xr : Nat → Int32} (B : lX x cL_law wsL_law RL 4 room_1 base b Lc xr K Wd) (hLc : Lc ≤ 3072) {iN : Nat} (hi : iN + 6 ≤ Lc) {Inv : Hp → Hp → Prop} {σ τ : Hp} (hw1 : wr shC σ) (hw2 : wr shM τ) (hI : Inv σ τ) (S : Sim_as Inv) (kk : ∀ σ' τ', wr shC σ' → wr shM τ' → Inv σ' τ' → aS x (shC ++ shM) 4 1204 (Lw b iN) [] (hjoin shC.length σ' τ')) : aS x (shC ++ shM) 4 490 (Lw b iN) [] (hjoin shC.length σ τ) := by
  obtain ⟨z, σ1, τ1, h1, h2, h3⟩ := S σ τ (xr (iN + 1)).toInt (rg_i _) hI hw1 hw2
  refine A_aload_n B.1 2 rfl rfl dL_law_490 ?_
  refine L_arg B 3 0 rfl rfl (kN := 1) rfl (by omega) (by omega) dL_law_491 dL_law_492 dL_law_493 dL_law_494 dL_law_495 ?_
  refine L_callC (As := [vI (xr (iN + 1)).toInt]) (rt := 0) (na := 1) B okM hw1 hw2 (m_X11_as h1) gL_law_X11_as rfl ⟨rfl, rfl⟩ (by decide +kernel) rfl ⟨Nat.le_of_ble_eq_true rfl, Nat.le_of_ble_eq_true rfl⟩ shC_0 (by decide) rfl rfl (Nat.le_of_ble_eq_true rfl) dL_law_496 (fun hw1b => ?_)
  refine A_aload_n B.1 1 rfl rfl dL_law_499 ?_
  refine L_arg B 3 0 rfl rfl (kN := 1) rfl (by omega) (by omega) dL_law_500 dL_law_501 dL_law_502 dL_law_503 dL_law_504 ?_
  refine L_callM (As := [vI (xr (iN + 1)).toInt]) (rt := 0) (q := 0) (na := 1) B okM hw1b hw2 rfl (m_X12_as h2) (by decide) gL_law_X12_as rfl ⟨rfl, rfl⟩ (by decide +kernel) rfl ⟨Nat.le_of_ble_eq_true rfl, Nat.le_of_ble_eq_true rfl⟩ shM_0 (by decide) rfl rfl (Nat.le_of_ble_eq_true rfl) dL_law_505 (fun hw2b => ?_)
  exact A_icmp_eq (tgt := 1204) B.1 rfl dL_law_508 (fun _ => kk σ1 τ1 hw1b hw2b h3) (fun h => absurd rfl h)
