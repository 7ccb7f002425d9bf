/-! THE LAW: a call of each kind -/
theorem okM : shM.all okK = true := by decide +kernel
def inI (z : Int) : Prop := -2147483648 ≤ z ∧ z < 2147483648
def inB (z : Int) : Prop := z = 0 ∨ z = 1
theorem inB_if (v : Int) : inB (if v = 0 then 0 else 1) := by
  unfold inB
  by_cases h : v = 0
  · rw [if_pos h]; exact Or.inl rfl
  · rw [if_neg h]; exact Or.inr rfl
abbrev Lw (b iN : Nat) : List (Nat × AV) := [(3, vI (iN : Int)), (2, vR shC.length), (1, vR 0), (0, ((3, Int.ofNat b) : AV))]
def Sim_feed (Inv : Hp → Hp → Prop) : Prop := ∀ (σ τ : Hp) (a1 a2 a3 a4 a5 : Int), inI a1 → inI a2 → inI a3 → inI a4 → inI a5 → Inv σ τ → wr shC σ → wr shM τ → ∃ (z : Int) (σ' τ' : Hp), F_RD_feed a1 a2 a3 a4 a5 σ = some (z, σ') ∧ F_M_feed a1 a2 a3 a4 a5 τ = some (z, τ') ∧ Inv σ' τ'
set_option maxHeartbeats 1000000 in
theorem case_feed {x : aC} {base b Lc K Wd : Nat} {xr : Nat → Int32} (B : lX x cL_law wsL_law RL 4 room_1 base b Lc xr K Wd) (hLc : Lc ≤ 3072) {iN : Nat} (hi : iN + 6 ≤ Lc) {Inv : Hp → Hp → Prop} {σ τ : Hp} (hw1 : wr shC σ) (hw2 : wr shM τ) (hI : Inv σ τ) (S : Sim_feed Inv) (kk : ∀ σ' τ', wr shC σ' → wr shM τ' → Inv σ' τ' → aS x (shC ++ shM) 4 1204 (Lw b iN) [] (hjoin shC.length σ' τ')) : aS x (shC ++ shM) 4 200 (Lw b iN) [] (hjoin shC.length σ τ) := by
  obtain ⟨z, σ1, τ1, h1, h2, h3⟩ := S σ τ (xr (iN + 1)).toInt (xr (iN + 2)).toInt (xr (iN + 3)).toInt (xr (iN + 4)).toInt (xr (iN + 5)).toInt (rg_i _) (rg_i _) (rg_i _) (rg_i _) (rg_i _) hI hw1 hw2
  refine A_aload_n B.1 2 rfl rfl dL_law_200 ?_
  refine L_arg B 3 0 rfl rfl (kN := 1) rfl (by omega) (by omega) dL_law_201 dL_law_202 dL_law_203 dL_law_204 dL_law_205 ?_
  refine L_arg B 3 0 rfl rfl (kN := 2) rfl (by omega) (by omega) dL_law_206 dL_law_207 dL_law_208 dL_law_209 dL_law_210 ?_
  refine L_arg B 3 0 rfl rfl (kN := 3) rfl (by omega) (by omega) dL_law_211 dL_law_212 dL_law_213 dL_law_214 dL_law_215 ?_
  refine L_arg B 3 0 rfl rfl (kN := 4) rfl (by omega) (by omega) dL_law_216 dL_law_217 dL_law_218 dL_law_219 dL_law_220 ?_
  refine L_arg B 3 0 rfl rfl (kN := 5) rfl (by omega) (by omega) dL_law_221 dL_law_222 dL_law_223 dL_law_224 dL_law_225 ?_
  refine L_callC (As := [vI (xr (iN + 1)).toInt, vI (xr (iN + 2)).toInt, vI (xr (iN + 3)).toInt, vI (xr (iN + 4)).toInt, vI (xr (iN + 5)).toInt]) (rt := 0) (na := 5) B okM hw1 hw2 (m_X11_feed h1) gL_law_X11_feed rfl ⟨rfl, rfl⟩ (by decide +kernel) rfl ⟨Nat.le_of_ble_eq_true rfl, Nat.le_of_ble_eq_true rfl⟩ shC_0 (by decide) rfl rfl (Nat.le_of_ble_eq_true rfl) dL_law_226 (fun hw1b => ?_)
  refine A_aload_n B.1 1 rfl rfl dL_law_229 ?_
  refine L_arg B 3 0 rfl rfl (kN := 1) rfl (by omega) (by omega) dL_law_230 dL_law_231 dL_law_232 dL_law_233 dL_law_234 ?_
  refine L_arg B 3 0 rfl rfl (kN := 2) rfl (by omega) (by omega) dL_law_235 dL_law_236 dL_law_237 dL_law_238 dL_law_239 ?_
  refine L_arg B 3 0 rfl rfl (kN := 3) rfl (by omega) (by omega) dL_law_240 dL_law_241 dL_law_242 dL_law_243 dL_law_244 ?_
  refine L_arg B 3 0 rfl rfl (kN := 4) rfl (by omega) (by omega) dL_law_245 dL_law_246 dL_law_247 dL_law_248 dL_law_249 ?_
  refine L_arg B 3 0 rfl rfl (kN := 5) rfl (by omega) (by omega) dL_law_250 dL_law_251 dL_law_252 dL_law_253 dL_law_254 ?_
  refine L_callM (As := [vI (xr (iN + 1)).toInt, vI (xr (iN + 2)).toInt, vI (xr (iN + 3)).toInt, vI (xr (iN + 4)).toInt, vI (xr (iN + 5)).toInt]) (rt := 0) (q := 0) (na := 5) B okM hw1b hw2 rfl (m_X12_feed h2) (by decide) gL_law_X12_feed rfl ⟨rfl, rfl⟩ (by decide +kernel) rfl ⟨Nat.le_of_ble_eq_true rfl, Nat.le_of_ble_eq_true rfl⟩ shM_0 (by decide) rfl rfl (Nat.le_of_ble_eq_true rfl) dL_law_255 (fun hw2b => ?_)
  exact A_icmp_eq (tgt := 1204) B.1 rfl dL_law_258 (fun _ => kk σ1 τ1 hw1b hw2b h3) (fun h => absurd rfl h)
