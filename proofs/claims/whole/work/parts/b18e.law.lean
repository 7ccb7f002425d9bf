/-! THE LAW: a call of each kind -/
def Sim_haggle (Inv : Hp → Hp → Prop) : Prop := ∀ (σ τ : Hp) (a1 : Int), inI a1 → Inv σ τ → wr shC σ → wr shM τ → ∃ (z : Int) (σ' τ' : Hp), F_RD_haggle a1 σ = some (z, σ') ∧ F_M_haggle a1 τ = some (z, τ') ∧ Inv σ' τ'
set_option maxHeartbeats 1000000 in
theorem case_haggle {x : aC} {base b Lc K Wd : Nat} {xr : Nat → Int32} (B : lX x cL_law wsL_law RL 4 room_1 base b Lc xr K Wd) (hLc : Lc ≤ 3072) {iN : Nat} (hi : iN + 6 ≤ Lc) {Inv : Hp → Hp → Prop} {σ τ : Hp} (hw1 : wr shC σ) (hw2 : wr shM τ) (hI : Inv σ τ) (S : Sim_haggle Inv) (kk : ∀ σ' τ', wr shC σ' → wr shM τ' → Inv σ' τ' → aS x (shC ++ shM) 4 1204 (Lw b iN) [] (hjoin shC.length σ' τ')) : aS x (shC ++ shM) 4 1093 (Lw b iN) [] (hjoin shC.length σ τ) := by
  obtain ⟨z, σ1, τ1, h1, h2, h3⟩ := S σ τ (xr (iN + 1)).toInt (rg_i _) hI hw1 hw2
  refine A_aload_n B.1 2 rfl rfl dL_law_1093 ?_
  refine L_arg B 3 0 rfl rfl (kN := 1) rfl (by omega) (by omega) dL_law_1094 dL_law_1095 dL_law_1096 dL_law_1097 dL_law_1098 ?_
  refine L_callC (As := [vI (xr (iN + 1)).toInt]) (rt := 0) (na := 1) B okM hw1 hw2 (m_X11_haggle h1) gL_law_X11_haggle rfl ⟨rfl, rfl⟩ (by decide +kernel) rfl ⟨Nat.le_of_ble_eq_true rfl, Nat.le_of_ble_eq_true rfl⟩ shC_0 (by decide) rfl rfl (Nat.le_of_ble_eq_true rfl) dL_law_1099 (fun hw1b => ?_)
  refine A_aload_n B.1 1 rfl rfl dL_law_1102 ?_
  refine L_arg B 3 0 rfl rfl (kN := 1) rfl (by omega) (by omega) dL_law_1103 dL_law_1104 dL_law_1105 dL_law_1106 dL_law_1107 ?_
  refine L_callM (As := [vI (xr (iN + 1)).toInt]) (rt := 0) (q := 0) (na := 1) B okM hw1b hw2 rfl (m_X12_haggle h2) (by decide) gL_law_X12_haggle rfl ⟨rfl, rfl⟩ (by decide +kernel) rfl ⟨Nat.le_of_ble_eq_true rfl, Nat.le_of_ble_eq_true rfl⟩ shM_0 (by decide) rfl rfl (Nat.le_of_ble_eq_true rfl) dL_law_1108 (fun hw2b => ?_)
  exact A_icmp_eq (tgt := 1204) B.1 rfl dL_law_1111 (fun _ => kk σ1 τ1 hw1b hw2b h3) (fun h => absurd rfl h)
def Sim_ended (Inv : Hp → Hp → Prop) : Prop := ∀ (σ τ : Hp), Inv σ τ → wr shC σ → wr shM τ → ∃ (z : Int) (σ' τ' : Hp), F_RD_ended σ = some (z, σ') ∧ F_M_ended τ = some (z, τ') ∧ Inv σ' τ'
set_option maxHeartbeats 1000000 in
theorem case_ended {x : aC} {base b Lc K Wd : Nat} {xr : Nat → Int32} (B : lX x cL_law wsL_law RL 4 room_1 base b Lc xr K Wd) (hLc : Lc ≤ 3072) {iN : Nat} (hi : iN + 6 ≤ Lc) {Inv : Hp → Hp → Prop} {σ τ : Hp} (hw1 : wr shC σ) (hw2 : wr shM τ) (hI : Inv σ τ) (S : Sim_ended Inv) (kk : ∀ σ' τ', wr shC σ' → wr shM τ' → Inv σ' τ' → aS x (shC ++ shM) 4 1204 (Lw b iN) [] (hjoin shC.length σ' τ')) : aS x (shC ++ shM) 4 1116 (Lw b iN) [] (hjoin shC.length σ τ) := by
  obtain ⟨z, σ1, τ1, h1, h2, h3⟩ := S σ τ hI hw1 hw2
  refine A_aload_n B.1 2 rfl rfl dL_law_1116 ?_
  refine L_callC (As := []) (rt := 0) (na := 0) B okM hw1 hw2 (m_X11_ended h1) gL_law_X11_ended rfl ⟨rfl, rfl⟩ (by decide +kernel) rfl ⟨Nat.le_of_ble_eq_true rfl, Nat.le_of_ble_eq_true rfl⟩ shC_0 (by decide) rfl rfl (Nat.le_of_ble_eq_true rfl) dL_law_1117 (fun hw1b => ?_)
  refine A_aload_n B.1 1 rfl rfl dL_law_1120 ?_
  refine L_callM (As := []) (rt := 0) (q := 0) (na := 0) B okM hw1b hw2 rfl (m_X12_ended h2) (by decide) gL_law_X12_ended rfl ⟨rfl, rfl⟩ (by decide +kernel) rfl ⟨Nat.le_of_ble_eq_true rfl, Nat.le_of_ble_eq_true rfl⟩ shM_0 (by decide) rfl rfl (Nat.le_of_ble_eq_true rfl) dL_law_1121 (fun hw2b => ?_)
  exact A_icmp_eq (tgt := 1204) B.1 rfl dL_law_1124 (fun _ => kk σ1 τ1 hw1b hw2b h3) (fun h => absurd rfl h)
def Sim_gift (Inv : Hp → Hp → Prop) : Prop := ∀ (σ τ : Hp), Inv σ τ → wr shC σ → wr shM τ → ∃ (z : Int) (σ' τ' : Hp), F_RD_gift σ = some (z, σ') ∧ F_M_gift τ = some (z, τ') ∧ Inv σ' τ'
set_option maxHeartbeats 1000000 in
theorem case_gift {x : aC} {base b Lc K Wd : Nat} {xr : Nat → Int32} (B : lX x cL_law wsL_law RL 4 room_1 base b Lc xr K Wd) (hLc : Lc ≤ 3072) {iN : Nat} (hi : iN + 6 ≤ Lc) {Inv : Hp → Hp → Prop} {σ τ : Hp} (hw1 : wr shC σ) (hw2 : wr shM τ) (hI : Inv σ τ) (S : Sim_gift Inv) (kk : ∀ σ' τ', wr shC σ' → wr shM τ' → Inv σ' τ' → aS x (shC ++ shM) 4 1204 (Lw b iN) [] (hjoin shC.length σ' τ')) : aS x (shC ++ shM) 4 1129 (Lw b iN) [] (hjoin shC.length σ τ) := by
  obtain ⟨z, σ1, τ1, h1, h2, h3⟩ := S σ τ hI hw1 hw2
  refine A_aload_n B.1 2 rfl rfl dL_law_1129 ?_
  refine L_callC (As := []) (rt := 0) (na := 0) B okM hw1 hw2 (m_X11_gift h1) gL_law_X11_gift rfl ⟨rfl, rfl⟩ (by decide +kernel) rfl ⟨Nat.le_of_ble_eq_true rfl, Nat.le_of_ble_eq_true rfl⟩ shC_0 (by decide) rfl rfl (Nat.le_of_ble_eq_true rfl) dL_law_1130 (fun hw1b => ?_)
  refine A_aload_n B.1 1 rfl rfl dL_law_1133 ?_
  refine L_callM (As := []) (rt := 0) (q := 0) (na := 0) B okM hw1b hw2 rfl (m_X12_gift h2) (by decide) gL_law_X12_gift rfl ⟨rfl, rfl⟩ (by decide +kernel) rfl ⟨Nat.le_of_ble_eq_true rfl, Nat.le_of_ble_eq_true rfl⟩ shM_0 (by decide) rfl rfl (Nat.le_of_ble_eq_true rfl) dL_law_1134 (fun hw2b => ?_)
  exact A_icmp_eq (tgt := 1204) B.1 rfl dL_law_1137 (fun _ => kk σ1 τ1 hw1b hw2b h3) (fun h => absurd rfl h)
def Sim_surely (Inv : Hp → Hp → Prop) : Prop := ∀ (σ τ : Hp), Inv σ τ → wr shC σ → wr shM τ → ∃ (z : Int) (σ' τ' : Hp), F_RD_surely σ = some (z, σ') ∧ F_M_surely τ = some (z, τ') ∧ Inv σ' τ'
set_option maxHeartbeats 1000000 in
theorem case_surely {x : aC} {base b Lc K Wd : Nat} {xr : Nat → Int32} (B : lX x cL_law wsL_law RL 4 room_1 base b Lc xr K Wd) (hLc : Lc ≤ 3072) {iN : Nat} (hi : iN + 6 ≤ Lc) {Inv : Hp → Hp → Prop} {σ τ : Hp} (hw1 : wr shC σ) (hw2 : wr shM τ) (hI : Inv σ τ) (S : Sim_surely Inv) (kk : ∀ σ' τ', wr shC σ' → wr shM τ' → Inv σ' τ' → aS x (shC ++ shM) 4 1204 (Lw b iN) [] (hjoin shC.length σ' τ')) : aS x (shC ++ shM) 4 1142 (Lw b iN) [] (hjoin shC.length σ τ) := by
  obtain ⟨z, σ1, τ1, h1, h2, h3⟩ := S σ τ hI hw1 hw2
  refine A_aload_n B.1 2 rfl rfl dL_law_1142 ?_
  refine L_callC (As := []) (rt := 0) (na := 0) B okM hw1 hw2 (m_X11_surely h1) gL_law_X11_surely rfl ⟨rfl, rfl⟩ (by decide +kernel) rfl ⟨Nat.le_of_ble_eq_true rfl, Nat.le_of_ble_eq_true rfl⟩ shC_0 (by decide) rfl rfl (Nat.le_of_ble_eq_true rfl) dL_law_1143 (fun hw1b => ?_)
  refine A_aload_n B.1 1 rfl rfl dL_law_1146 ?_
  refine L_callM (As := []) (rt := 0) (q := 0) (na := 0) B okM hw1b hw2 rfl (m_X12_surely h2) (by decide) gL_law_X12_surely rfl ⟨rfl, rfl⟩ (by decide +kernel) rfl ⟨Nat.le_of_ble_eq_true rfl, Nat.le_of_ble_eq_true rfl⟩ shM_0 (by decide) rfl rfl (Nat.le_of_ble_eq_true rfl) dL_law_1147 (fun hw2b => ?_)
  exact A_icmp_eq (tgt := 1204) B.1 rfl dL_law_1150 (fun _ => kk σ1 τ1 hw1b hw2b h3) (fun h => absurd rfl h)
def Sim_image (Inv : Hp → Hp → Prop) : Prop := ∀ (σ τ : Hp), Inv σ τ → wr shC σ → wr shM τ → ∃ (z : Int) (σ' τ' : Hp), F_RD_image σ = some (z, σ') ∧ F_M_image τ = some (z, τ') ∧ Inv σ' τ'
set_option maxHeartbeats 1000000 in
theorem case_image {x : aC} {base b Lc K Wd : Nat} {xr : Nat → Int32} (B : lX x cL_law wsL_law RL 4 room_1 base b Lc xr K Wd) (hLc : Lc ≤ 3072) {iN : Nat} (hi : iN + 6 ≤ Lc) {Inv : Hp → Hp → Prop} {σ τ : Hp} (hw1 : wr shC σ) (hw2 : wr shM τ) (hI : Inv σ τ) (S : Sim_image Inv) (kk : ∀ σ' τ', wr shC σ' → wr shM τ' → Inv σ' τ' → aS x (shC ++ shM) 4 1204 (Lw b iN) [] (hjoin shC.length σ' τ')) : aS x (shC ++ shM) 4 1155 (Lw b iN) [] (hjoin shC.length σ τ) := by
  obtain ⟨z, σ1, τ1, h1, h2, h3⟩ := S σ τ hI hw1 hw2
  refine A_aload_n B.1 2 rfl rfl dL_law_1155 ?_
  refine L_callC (As := []) (rt := 0) (na := 0) B okM hw1 hw2 (m_X11_image h1) gL_law_X11_image rfl ⟨rfl, rfl⟩ (by decide +kernel) rfl ⟨Nat.le_of_ble_eq_true rfl, Nat.le_of_ble_eq_true rfl⟩ shC_0 (by decide) rfl rfl (Nat.le_of_ble_eq_true rfl) dL_law_1156 (fun hw1b => ?_)
  refine A_aload_n B.1 1 rfl rfl dL_law_1159 ?_
  refine L_callM (As := []) (rt := 0) (q := 0) (na := 0) B okM hw1b hw2 rfl (m_X12_image h2) (by decide) gL_law_X12_image rfl ⟨rfl, rfl⟩ (by decide +kernel) rfl ⟨Nat.le_of_ble_eq_true rfl, Nat.le_of_ble_eq_true rfl⟩ shM_0 (by decide) rfl rfl (Nat.le_of_ble_eq_true rfl) dL_law_1160 (fun hw2b => ?_)
  exact A_icmp_eq (tgt := 1204) B.1 rfl dL_law_1163 (fun _ => kk σ1 τ1 hw1b hw2b h3) (fun h => absurd rfl h)
def Sim_octet (Inv : Hp → Hp → Prop) : Prop := ∀ (σ τ : Hp) (a1 : Int), inI a1 → Inv σ τ → wr shC σ → wr shM τ → ∃ (z : Int) (σ' τ' : Hp), F_RD_octet a1 σ = some (z, σ') ∧ F_M_octet a1 τ = some (z, τ') ∧ Inv σ' τ'
set_option maxHeartbeats 1000000 in
theorem case_octet {x : aC} {base b Lc K Wd : Nat} {xr : Nat → Int32} (B : lX x cL_law wsL_law RL 4 room_1 base b Lc xr K Wd) (hLc : Lc ≤ 3072) {iN : Nat} (hi : iN + 6 ≤ Lc) {Inv : Hp → Hp → Prop} {σ τ : Hp} (hw1 : wr shC σ) (hw2 : wr shM τ) (hI : Inv σ τ) (S : Sim_octet Inv) (kk : ∀ σ' τ', wr shC σ' → wr shM τ' → Inv σ' τ' → aS x (shC ++ shM) 4 1204 (Lw b iN) [] (hjoin shC.length σ' τ')) : aS x (shC ++ shM) 4 1168 (Lw b iN) [] (hjoin shC.length σ τ) := by
  obtain ⟨z, σ1, τ1, h1, h2, h3⟩ := S σ τ (xr (iN + 1)).toInt (rg_i _) hI hw1 hw2
  refine A_aload_n B.1 2 rfl rfl dL_law_1168 ?_
  refine L_arg B 3 0 rfl rfl (kN := 1) rfl (by omega) (by omega) dL_law_1169 dL_law_1170 dL_law_1171 dL_law_1172 dL_law_1173 ?_
  refine L_callC (As := [vI (xr (iN + 1)).toInt]) (rt := 0) (na := 1) B okM hw1 hw2 (m_X11_octet h1) gL_law_X11_octet rfl ⟨rfl, rfl⟩ (by decide +kernel) rfl ⟨Nat.le_of_ble_eq_true rfl, Nat.le_of_ble_eq_true rfl⟩ shC_0 (by decide) rfl rfl (Nat.le_of_ble_eq_true rfl) dL_law_1174 (fun hw1b => ?_)
  refine A_aload_n B.1 1 rfl rfl dL_law_1177 ?_
  refine L_arg B 3 0 rfl rfl (kN := 1) rfl (by omega) (by omega) dL_law_1178 dL_law_1179 dL_law_1180 dL_law_1181 dL_law_1182 ?_
  refine L_callM (As := [vI (xr (iN + 1)).toInt]) (rt := 0) (q := 0) (na := 1) B okM hw1b hw2 rfl (m_X12_octet h2) (by decide) gL_law_X12_octet rfl ⟨rfl, rfl⟩ (by decide +kernel) rfl ⟨Nat.le_of_ble_eq_true rfl, Nat.le_of_ble_eq_true rfl⟩ shM_0 (by decide) rfl rfl (Nat.le_of_ble_eq_true rfl) dL_law_1183 (fun hw2b => ?_)
  exact A_icmp_eq (tgt := 1204) B.1 rfl dL_law_1186 (fun _ => kk σ1 τ1 hw1b hw2b h3) (fun h => absurd rfl h)
def Sim_on (Inv : Hp → Hp → Prop) : Prop := ∀ (σ τ : Hp), Inv σ τ → wr shC σ → wr shM τ → ∃ (z : Int) (σ' τ' : Hp), F_RD_on σ = some (z, σ') ∧ F_M_on τ = some (z, τ') ∧ Inv σ' τ'
set_option maxHeartbeats 1000000 in
theorem case_on {x : aC} {base b Lc K Wd : Nat} {xr : Nat → Int32} (B : lX x cL_law wsL_law RL 4 room_1 base b Lc xr K Wd) (hLc : Lc ≤ 3072) {iN : Nat} (hi : iN + 6 ≤ Lc) {Inv : Hp → Hp → Prop} {σ τ : Hp} (hw1 : wr shC σ) (hw2 : wr shM τ) (hI : Inv σ τ) (S : Sim_on Inv) (kk : ∀ σ' τ', wr shC σ' → wr shM τ' → Inv σ' τ' → aS x (shC ++ shM) 4 1204 (Lw b iN) [] (hjoin shC.length σ' τ')) : aS x (shC ++ shM) 4 1191 (Lw b iN) [] (hjoin shC.length σ τ) := by
  obtain ⟨z, σ1, τ1, h1, h2, h3⟩ := S σ τ hI hw1 hw2
  refine A_aload_n B.1 2 rfl rfl dL_law_1191 ?_
  refine L_callC (As := []) (rt := 0) (na := 0) B okM hw1 hw2 (m_X11_on h1) gL_law_X11_on rfl ⟨rfl, rfl⟩ (by decide +kernel) rfl ⟨Nat.le_of_ble_eq_true rfl, Nat.le_of_ble_eq_true rfl⟩ shC_0 (by decide) rfl rfl (Nat.le_of_ble_eq_true rfl) dL_law_1192 (fun hw1b => ?_)
  refine A_aload_n B.1 1 rfl rfl dL_law_1195 ?_
  refine L_callM (As := []) (rt := 0) (q := 0) (na := 0) B okM hw1b hw2 rfl (m_X12_on h2) (by decide) gL_law_X12_on rfl ⟨rfl, rfl⟩ (by decide +kernel) rfl ⟨Nat.le_of_ble_eq_true rfl, Nat.le_of_ble_eq_true rfl⟩ shM_0 (by decide) rfl rfl (Nat.le_of_ble_eq_true rfl) dL_law_1196 (fun hw2b => ?_)
  exact A_icmp_eq (tgt := 1204) B.1 rfl dL_law_1199 (fun _ => kk σ1 τ1 hw1b hw2b h3) (fun h => absurd rfl h)
