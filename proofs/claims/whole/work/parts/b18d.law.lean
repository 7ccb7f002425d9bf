/-! THE LAW: a call of each kind -/
def Sim_deal (Inv : Hp → Hp → Prop) : Prop := ∀ (σ τ : Hp) (a1 a2 : Int), inI a1 → inI a2 → Inv σ τ → wr shC σ → wr shM τ → ∃ (z : Int) (σ' τ' : Hp), F_RD_deal a1 a2 σ = some (z, σ') ∧ F_M_deal a1 a2 τ = some (z, τ') ∧ Inv σ' τ'
set_option maxHeartbeats 1000000 in
theorem case_deal {x : aC} {base b Lc K Wd : Nat} {xr : Nat → Int32} (B : lX x cL_law wsL_law RL 4 room_1 base b Lc xr K Wd) (hLc : Lc ≤ 3072) {iN : Nat} (hi : iN + 6 ≤ Lc) {Inv : Hp → Hp → Prop} {σ τ : Hp} (hw1 : wr shC σ) (hw2 : wr shM τ) (hI : Inv σ τ) (S : Sim_deal Inv) (kk : ∀ σ' τ', wr shC σ' → wr shM τ' → Inv σ' τ' → aS x (shC ++ shM) 4 1204 (Lw b iN) [] (hjoin shC.length σ' τ')) : aS x (shC ++ shM) 4 857 (Lw b iN) [] (hjoin shC.length σ τ) := by
  obtain ⟨z, σ1, τ1, h1, h2, h3⟩ := S σ τ (xr (iN + 1)).toInt (xr (iN + 2)).toInt (rg_i _) (rg_i _) hI hw1 hw2
  refine A_aload_n B.1 2 rfl rfl dL_law_857 ?_
  refine L_arg B 3 0 rfl rfl (kN := 1) rfl (by omega) (by omega) dL_law_858 dL_law_859 dL_law_860 dL_law_861 dL_law_862 ?_
  refine L_arg B 3 0 rfl rfl (kN := 2) rfl (by omega) (by omega) dL_law_863 dL_law_864 dL_law_865 dL_law_866 dL_law_867 ?_
  refine L_callC (As := [vI (xr (iN + 1)).toInt, vI (xr (iN + 2)).toInt]) (rt := 0) (na := 2) B okM hw1 hw2 (m_X11_deal h1) gL_law_X11_deal rfl ⟨rfl, rfl⟩ (by decide +kernel) rfl ⟨Nat.le_of_ble_eq_true rfl, Nat.le_of_ble_eq_true rfl⟩ shC_0 (by decide) rfl rfl (Nat.le_of_ble_eq_true rfl) dL_law_868 (fun hw1b => ?_)
  refine A_aload_n B.1 1 rfl rfl dL_law_871 ?_
  refine L_arg B 3 0 rfl rfl (kN := 1) rfl (by omega) (by omega) dL_law_872 dL_law_873 dL_law_874 dL_law_875 dL_law_876 ?_
  refine L_arg B 3 0 rfl rfl (kN := 2) rfl (by omega) (by omega) dL_law_877 dL_law_878 dL_law_879 dL_law_880 dL_law_881 ?_
  refine L_callM (As := [vI (xr (iN + 1)).toInt, vI (xr (iN + 2)).toInt]) (rt := 0) (q := 0) (na := 2) B okM hw1b hw2 rfl (m_X12_deal h2) (by decide) gL_law_X12_deal rfl ⟨rfl, rfl⟩ (by decide +kernel) rfl ⟨Nat.le_of_ble_eq_true rfl, Nat.le_of_ble_eq_true rfl⟩ shM_0 (by decide) rfl rfl (Nat.le_of_ble_eq_true rfl) dL_law_882 (fun hw2b => ?_)
  exact A_icmp_eq (tgt := 1204) B.1 rfl dL_law_885 (fun _ => kk σ1 τ1 hw1b hw2b h3) (fun h => absurd rfl h)
def Sim_undeal (Inv : Hp → Hp → Prop) : Prop := ∀ (σ τ : Hp) (a1 : Int), inI a1 → Inv σ τ → wr shC σ → wr shM τ → ∃ (z : Int) (σ' τ' : Hp), F_RD_undeal a1 σ = some (z, σ') ∧ F_M_undeal a1 τ = some (z, τ') ∧ Inv σ' τ'
set_option maxHeartbeats 1000000 in
theorem case_undeal {x : aC} {base b Lc K Wd : Nat} {xr : Nat → Int32} (B : lX x cL_law wsL_law RL 4 room_1 base b Lc xr K Wd) (hLc : Lc ≤ 3072) {iN : Nat} (hi : iN + 6 ≤ Lc) {Inv : Hp → Hp → Prop} {σ τ : Hp} (hw1 : wr shC σ) (hw2 : wr shM τ) (hI : Inv σ τ) (S : Sim_undeal Inv) (kk : ∀ σ' τ', wr shC σ' → wr shM τ' → Inv σ' τ' → aS x (shC ++ shM) 4 1204 (Lw b iN) [] (hjoin shC.length σ' τ')) : aS x (shC ++ shM) 4 890 (Lw b iN) [] (hjoin shC.length σ τ) := by
  obtain ⟨z, σ1, τ1, h1, h2, h3⟩ := S σ τ (xr (iN + 1)).toInt (rg_i _) hI hw1 hw2
  refine A_aload_n B.1 2 rfl rfl dL_law_890 ?_
  refine L_arg B 3 0 rfl rfl (kN := 1) rfl (by omega) (by omega) dL_law_891 dL_law_892 dL_law_893 dL_law_894 dL_law_895 ?_
  refine L_callC (As := [vI (xr (iN + 1)).toInt]) (rt := 0) (na := 1) B okM hw1 hw2 (m_X11_undeal h1) gL_law_X11_undeal rfl ⟨rfl, rfl⟩ (by decide +kernel) rfl ⟨Nat.le_of_ble_eq_true rfl, Nat.le_of_ble_eq_true rfl⟩ shC_0 (by decide) rfl rfl (Nat.le_of_ble_eq_true rfl) dL_law_896 (fun hw1b => ?_)
  refine A_aload_n B.1 1 rfl rfl dL_law_899 ?_
  refine L_arg B 3 0 rfl rfl (kN := 1) rfl (by omega) (by omega) dL_law_900 dL_law_901 dL_law_902 dL_law_903 dL_law_904 ?_
  refine L_callM (As := [vI (xr (iN + 1)).toInt]) (rt := 0) (q := 0) (na := 1) B okM hw1b hw2 rfl (m_X12_undeal h2) (by decide) gL_law_X12_undeal rfl ⟨rfl, rfl⟩ (by decide +kernel) rfl ⟨Nat.le_of_ble_eq_true rfl, Nat.le_of_ble_eq_true rfl⟩ shM_0 (by decide) rfl rfl (Nat.le_of_ble_eq_true rfl) dL_law_905 (fun hw2b => ?_)
  exact A_icmp_eq (tgt := 1204) B.1 rfl dL_law_908 (fun _ => kk σ1 τ1 hw1b hw2b h3) (fun h => absurd rfl h)
def Sim_dealRow (Inv : Hp → Hp → Prop) : Prop := ∀ (σ τ : Hp), Inv σ τ → wr shC σ → wr shM τ → ∃ (z : Int) (σ' τ' : Hp), F_RD_dealRow σ = some (z, σ') ∧ F_M_dealRow τ = some (z, τ') ∧ Inv σ' τ'
set_option maxHeartbeats 1000000 in
theorem case_dealRow {x : aC} {base b Lc K Wd : Nat} {xr : Nat → Int32} (B : lX x cL_law wsL_law RL 4 room_1 base b Lc xr K Wd) (hLc : Lc ≤ 3072) {iN : Nat} (hi : iN + 6 ≤ Lc) {Inv : Hp → Hp → Prop} {σ τ : Hp} (hw1 : wr shC σ) (hw2 : wr shM τ) (hI : Inv σ τ) (S : Sim_dealRow Inv) (kk : ∀ σ' τ', wr shC σ' → wr shM τ' → Inv σ' τ' → aS x (shC ++ shM) 4 1204 (Lw b iN) [] (hjoin shC.length σ' τ')) : aS x (shC ++ shM) 4 913 (Lw b iN) [] (hjoin shC.length σ τ) := by
  obtain ⟨z, σ1, τ1, h1, h2, h3⟩ := S σ τ hI hw1 hw2
  refine A_aload_n B.1 2 rfl rfl dL_law_913 ?_
  refine L_callC (As := []) (rt := 0) (na := 0) B okM hw1 hw2 (m_X11_dealRow h1) gL_law_X11_dealRow rfl ⟨rfl, rfl⟩ (by decide +kernel) rfl ⟨Nat.le_of_ble_eq_true rfl, Nat.le_of_ble_eq_true rfl⟩ shC_0 (by decide) rfl rfl (Nat.le_of_ble_eq_true rfl) dL_law_914 (fun hw1b => ?_)
  refine A_aload_n B.1 1 rfl rfl dL_law_917 ?_
  refine L_callM (As := []) (rt := 0) (q := 0) (na := 0) B okM hw1b hw2 rfl (m_X12_dealRow h2) (by decide) gL_law_X12_dealRow rfl ⟨rfl, rfl⟩ (by decide +kernel) rfl ⟨Nat.le_of_ble_eq_true rfl, Nat.le_of_ble_eq_true rfl⟩ shM_0 (by decide) rfl rfl (Nat.le_of_ble_eq_true rfl) dL_law_918 (fun hw2b => ?_)
  exact A_icmp_eq (tgt := 1204) B.1 rfl dL_law_921 (fun _ => kk σ1 τ1 hw1b hw2b h3) (fun h => absurd rfl h)
def Sim_share (Inv : Hp → Hp → Prop) : Prop := ∀ (σ τ : Hp) (a1 : Int), inI a1 → Inv σ τ → wr shC σ → wr shM τ → ∃ (z : Int) (σ' τ' : Hp), F_RD_share a1 σ = some (z, σ') ∧ F_M_share a1 τ = some (z, τ') ∧ Inv σ' τ'
set_option maxHeartbeats 1000000 in
theorem case_share {x : aC} {base b Lc K Wd : Nat} {xr : Nat → Int32} (B : lX x cL_law wsL_law RL 4 room_1 base b Lc xr K Wd) (hLc : Lc ≤ 3072) {iN : Nat} (hi : iN + 6 ≤ Lc) {Inv : Hp → Hp → Prop} {σ τ : Hp} (hw1 : wr shC σ) (hw2 : wr shM τ) (hI : Inv σ τ) (S : Sim_share Inv) (kk : ∀ σ' τ', wr shC σ' → wr shM τ' → Inv σ' τ' → aS x (shC ++ shM) 4 1204 (Lw b iN) [] (hjoin shC.length σ' τ')) : aS x (shC ++ shM) 4 926 (Lw b iN) [] (hjoin shC.length σ τ) := by
  obtain ⟨z, σ1, τ1, h1, h2, h3⟩ := S σ τ (xr (iN + 1)).toInt (rg_i _) hI hw1 hw2
  refine A_aload_n B.1 2 rfl rfl dL_law_926 ?_
  refine L_arg B 3 0 rfl rfl (kN := 1) rfl (by omega) (by omega) dL_law_927 dL_law_928 dL_law_929 dL_law_930 dL_law_931 ?_
  refine L_callC (As := [vI (xr (iN + 1)).toInt]) (rt := 0) (na := 1) B okM hw1 hw2 (m_X11_share h1) gL_law_X11_share rfl ⟨rfl, rfl⟩ (by decide +kernel) rfl ⟨Nat.le_of_ble_eq_true rfl, Nat.le_of_ble_eq_true rfl⟩ shC_0 (by decide) rfl rfl (Nat.le_of_ble_eq_true rfl) dL_law_932 (fun hw1b => ?_)
  refine A_aload_n B.1 1 rfl rfl dL_law_935 ?_
  refine L_arg B 3 0 rfl rfl (kN := 1) rfl (by omega) (by omega) dL_law_936 dL_law_937 dL_law_938 dL_law_939 dL_law_940 ?_
  refine L_callM (As := [vI (xr (iN + 1)).toInt]) (rt := 0) (q := 0) (na := 1) B okM hw1b hw2 rfl (m_X12_share h2) (by decide) gL_law_X12_share rfl ⟨rfl, rfl⟩ (by decide +kernel) rfl ⟨Nat.le_of_ble_eq_true rfl, Nat.le_of_ble_eq_true rfl⟩ shM_0 (by decide) rfl rfl (Nat.le_of_ble_eq_true rfl) dL_law_941 (fun hw2b => ?_)
  exact A_icmp_eq (tgt := 1204) B.1 rfl dL_law_944 (fun _ => kk σ1 τ1 hw1b hw2b h3) (fun h => absurd rfl h)
def Sim_money (Inv : Hp → Hp → Prop) : Prop := ∀ (σ τ : Hp) (a1 : Int), inI a1 → Inv σ τ → wr shC σ → wr shM τ → ∃ (z : Int) (σ' τ' : Hp), F_RD_money a1 σ = some (z, σ') ∧ F_M_money a1 τ = some (z, τ') ∧ Inv σ' τ'
set_option maxHeartbeats 1000000 in
theorem case_money {x : aC} {base b Lc K Wd : Nat} {xr : Nat → Int32} (B : lX x cL_law wsL_law RL 4 room_1 base b Lc xr K Wd) (hLc : Lc ≤ 3072) {iN : Nat} (hi : iN + 6 ≤ Lc) {Inv : Hp → Hp → Prop} {σ τ : Hp} (hw1 : wr shC σ) (hw2 : wr shM τ) (hI : Inv σ τ) (S : Sim_money Inv) (kk : ∀ σ' τ', wr shC σ' → wr shM τ' → Inv σ' τ' → aS x (shC ++ shM) 4 1204 (Lw b iN) [] (hjoin shC.length σ' τ')) : aS x (shC ++ shM) 4 949 (Lw b iN) [] (hjoin shC.length σ τ) := by
  obtain ⟨z, σ1, τ1, h1, h2, h3⟩ := S σ τ (xr (iN + 1)).toInt (rg_i _) hI hw1 hw2
  refine A_aload_n B.1 2 rfl rfl dL_law_949 ?_
  refine L_arg B 3 0 rfl rfl (kN := 1) rfl (by omega) (by omega) dL_law_950 dL_law_951 dL_law_952 dL_law_953 dL_law_954 ?_
  refine L_callC (As := [vI (xr (iN + 1)).toInt]) (rt := 0) (na := 1) B okM hw1 hw2 (m_X11_money h1) gL_law_X11_money rfl ⟨rfl, rfl⟩ (by decide +kernel) rfl ⟨Nat.le_of_ble_eq_true rfl, Nat.le_of_ble_eq_true rfl⟩ shC_0 (by decide) rfl rfl (Nat.le_of_ble_eq_true rfl) dL_law_955 (fun hw1b => ?_)
  refine A_aload_n B.1 1 rfl rfl dL_law_958 ?_
  refine L_arg B 3 0 rfl rfl (kN := 1) rfl (by omega) (by omega) dL_law_959 dL_law_960 dL_law_961 dL_law_962 dL_law_963 ?_
  refine L_callM (As := [vI (xr (iN + 1)).toInt]) (rt := 0) (q := 0) (na := 1) B okM hw1b hw2 rfl (m_X12_money h2) (by decide) gL_law_X12_money rfl ⟨rfl, rfl⟩ (by decide +kernel) rfl ⟨Nat.le_of_ble_eq_true rfl, Nat.le_of_ble_eq_true rfl⟩ shM_0 (by decide) rfl rfl (Nat.le_of_ble_eq_true rfl) dL_law_964 (fun hw2b => ?_)
  exact A_icmp_eq (tgt := 1204) B.1 rfl dL_law_967 (fun _ => kk σ1 τ1 hw1b hw2b h3) (fun h => absurd rfl h)
def Sim_other (Inv : Hp → Hp → Prop) : Prop := ∀ (σ τ : Hp) (a1 a2 : Int), inI a1 → inB a2 → Inv σ τ → wr shC σ → wr shM τ → ∃ (z : Int) (σ' τ' : Hp), F_RD_other a1 a2 σ = some (z, σ') ∧ F_M_other a1 a2 τ = some (z, τ') ∧ Inv σ' τ'
set_option maxHeartbeats 1000000 in
theorem case_other {x : aC} {base b Lc K Wd : Nat} {xr : Nat → Int32} (B : lX x cL_law wsL_law RL 4 room_1 base b Lc xr K Wd) (hLc : Lc ≤ 3072) {iN : Nat} (hi : iN + 6 ≤ Lc) {Inv : Hp → Hp → Prop} {σ τ : Hp} (hw1 : wr shC σ) (hw2 : wr shM τ) (hI : Inv σ τ) (S : Sim_other Inv) (kk : ∀ σ' τ', wr shC σ' → wr shM τ' → Inv σ' τ' → aS x (shC ++ shM) 4 1204 (Lw b iN) [] (hjoin shC.length σ' τ')) : aS x (shC ++ shM) 4 972 (Lw b iN) [] (hjoin shC.length σ τ) := by
  obtain ⟨z, σ1, τ1, h1, h2, h3⟩ := S σ τ (xr (iN + 1)).toInt (if (xr (iN + 2)).toInt = 0 then 0 else 1) (rg_i _) (inB_if _) hI hw1 hw2
  refine A_aload_n B.1 2 rfl rfl dL_law_972 ?_
  refine L_arg B 3 0 rfl rfl (kN := 1) rfl (by omega) (by omega) dL_law_973 dL_law_974 dL_law_975 dL_law_976 dL_law_977 ?_
  refine L_arg B 3 0 rfl rfl (kN := 2) rfl (by omega) (by omega) dL_law_978 dL_law_979 dL_law_980 dL_law_981 dL_law_982 ?_
  refine L_bool (t0 := 990) (t1 := 991) B.1 rfl rfl rfl dL_law_983 dL_law_986 dL_law_987 dL_law_990 ?_
  refine L_callC (As := [vI (xr (iN + 1)).toInt, vI (if (xr (iN + 2)).toInt = 0 then 0 else 1)]) (rt := 0) (na := 2) B okM hw1 hw2 (m_X11_other h1) gL_law_X11_other rfl ⟨rfl, rfl⟩ (by decide +kernel) rfl ⟨Nat.le_of_ble_eq_true rfl, Nat.le_of_ble_eq_true rfl⟩ shC_0 (by decide) rfl rfl (Nat.le_of_ble_eq_true rfl) dL_law_991 (fun hw1b => ?_)
  refine A_aload_n B.1 1 rfl rfl dL_law_994 ?_
  refine L_arg B 3 0 rfl rfl (kN := 1) rfl (by omega) (by omega) dL_law_995 dL_law_996 dL_law_997 dL_law_998 dL_law_999 ?_
  refine L_arg B 3 0 rfl rfl (kN := 2) rfl (by omega) (by omega) dL_law_1000 dL_law_1001 dL_law_1002 dL_law_1003 dL_law_1004 ?_
  refine L_bool (t0 := 1012) (t1 := 1013) B.1 rfl rfl rfl dL_law_1005 dL_law_1008 dL_law_1009 dL_law_1012 ?_
  refine L_callM (As := [vI (xr (iN + 1)).toInt, vI (if (xr (iN + 2)).toInt = 0 then 0 else 1)]) (rt := 0) (q := 0) (na := 2) B okM hw1b hw2 rfl (m_X12_other h2) (by decide) gL_law_X12_other rfl ⟨rfl, rfl⟩ (by decide +kernel) rfl ⟨Nat.le_of_ble_eq_true rfl, Nat.le_of_ble_eq_true rfl⟩ shM_0 (by decide) rfl rfl (Nat.le_of_ble_eq_true rfl) dL_law_1013 (fun hw2b => ?_)
  exact A_icmp_eq (tgt := 1204) B.1 rfl dL_law_1016 (fun _ => kk σ1 τ1 hw1b hw2b h3) (fun h => absurd rfl h)
def Sim_chain (Inv : Hp → Hp → Prop) : Prop := ∀ (σ τ : Hp) (a1 a2 : Int), inI a1 → inI a2 → Inv σ τ → wr shC σ → wr shM τ → ∃ (z : Int) (σ' τ' : Hp), F_RD_chain a1 a2 σ = some (z, σ') ∧ F_M_chain a1 a2 τ = some (z, τ') ∧ Inv σ' τ'
set_option maxHeartbeats 1000000 in
theorem case_chain {x : aC} {base b Lc K Wd : Nat} {xr : Nat → Int32} (B : lX x cL_law wsL_law RL 4 room_1 base b Lc xr K Wd) (hLc : Lc ≤ 3072) {iN : Nat} (hi : iN + 6 ≤ Lc) {Inv : Hp → Hp → Prop} {σ τ : Hp} (hw1 : wr shC σ) (hw2 : wr shM τ) (hI : Inv σ τ) (S : Sim_chain Inv) (kk : ∀ σ' τ', wr shC σ' → wr shM τ' → Inv σ' τ' → aS x (shC ++ shM) 4 1204 (Lw b iN) [] (hjoin shC.length σ' τ')) : aS x (shC ++ shM) 4 1021 (Lw b iN) [] (hjoin shC.length σ τ) := by
  obtain ⟨z, σ1, τ1, h1, h2, h3⟩ := S σ τ (xr (iN + 1)).toInt (xr (iN + 2)).toInt (rg_i _) (rg_i _) hI hw1 hw2
  refine A_aload_n B.1 2 rfl rfl dL_law_1021 ?_
  refine L_arg B 3 0 rfl rfl (kN := 1) rfl (by omega) (by omega) dL_law_1022 dL_law_1023 dL_law_1024 dL_law_1025 dL_law_1026 ?_
  refine L_arg B 3 0 rfl rfl (kN := 2) rfl (by omega) (by omega) dL_law_1027 dL_law_1028 dL_law_1029 dL_law_1030 dL_law_1031 ?_
  refine L_callC (As := [vI (xr (iN + 1)).toInt, vI (xr (iN + 2)).toInt]) (rt := 0) (na := 2) B okM hw1 hw2 (m_X11_chain h1) gL_law_X11_chain rfl ⟨rfl, rfl⟩ (by decide +kernel) rfl ⟨Nat.le_of_ble_eq_true rfl, Nat.le_of_ble_eq_true rfl⟩ shC_0 (by decide) rfl rfl (Nat.le_of_ble_eq_true rfl) dL_law_1032 (fun hw1b => ?_)
  refine A_aload_n B.1 1 rfl rfl dL_law_1035 ?_
  refine L_arg B 3 0 rfl rfl (kN := 1) rfl (by omega) (by omega) dL_law_1036 dL_law_1037 dL_law_1038 dL_law_1039 dL_law_1040 ?_
  refine L_arg B 3 0 rfl rfl (kN := 2) rfl (by omega) (by omega) dL_law_1041 dL_law_1042 dL_law_1043 dL_law_1044 dL_law_1045 ?_
  refine L_callM (As := [vI (xr (iN + 1)).toInt, vI (xr (iN + 2)).toInt]) (rt := 0) (q := 0) (na := 2) B okM hw1b hw2 rfl (m_X12_chain h2) (by decide) gL_law_X12_chain rfl ⟨rfl, rfl⟩ (by decide +kernel) rfl ⟨Nat.le_of_ble_eq_true rfl, Nat.le_of_ble_eq_true rfl⟩ shM_0 (by decide) rfl rfl (Nat.le_of_ble_eq_true rfl) dL_law_1046 (fun hw2b => ?_)
  exact A_icmp_eq (tgt := 1204) B.1 rfl dL_law_1049 (fun _ => kk σ1 τ1 hw1b hw2b h3) (fun h => absurd rfl h)
def Sim_breaks (Inv : Hp → Hp → Prop) : Prop := ∀ (σ τ : Hp), Inv σ τ → wr shC σ → wr shM τ → ∃ (z : Int) (σ' τ' : Hp), F_RD_breaks σ = some (z, σ') ∧ F_M_breaks τ = some (z, τ') ∧ Inv σ' τ'
set_option maxHeartbeats 1000000 in
theorem case_breaks {x : aC} {base b Lc K Wd : Nat} {xr : Nat → Int32} (B : lX x cL_law wsL_law RL 4 room_1 base b Lc xr K Wd) (hLc : Lc ≤ 3072) {iN : Nat} (hi : iN + 6 ≤ Lc) {Inv : Hp → Hp → Prop} {σ τ : Hp} (hw1 : wr shC σ) (hw2 : wr shM τ) (hI : Inv σ τ) (S : Sim_breaks Inv) (kk : ∀ σ' τ', wr shC σ' → wr shM τ' → Inv σ' τ' → aS x (shC ++ shM) 4 1204 (Lw b iN) [] (hjoin shC.length σ' τ')) : aS x (shC ++ shM) 4 1054 (Lw b iN) [] (hjoin shC.length σ τ) := by
  obtain ⟨z, σ1, τ1, h1, h2, h3⟩ := S σ τ hI hw1 hw2
  refine A_aload_n B.1 2 rfl rfl dL_law_1054 ?_
  refine L_callC (As := []) (rt := 0) (na := 0) B okM hw1 hw2 (m_X11_breaks h1) gL_law_X11_breaks rfl ⟨rfl, rfl⟩ (by decide +kernel) rfl ⟨Nat.le_of_ble_eq_true rfl, Nat.le_of_ble_eq_true rfl⟩ shC_0 (by decide) rfl rfl (Nat.le_of_ble_eq_true rfl) dL_law_1055 (fun hw1b => ?_)
  refine A_aload_n B.1 1 rfl rfl dL_law_1058 ?_
  refine L_callM (As := []) (rt := 0) (q := 0) (na := 0) B okM hw1b hw2 rfl (m_X12_breaks h2) (by decide) gL_law_X12_breaks rfl ⟨rfl, rfl⟩ (by decide +kernel) rfl ⟨Nat.le_of_ble_eq_true rfl, Nat.le_of_ble_eq_true rfl⟩ shM_0 (by decide) rfl rfl (Nat.le_of_ble_eq_true rfl) dL_law_1059 (fun hw2b => ?_)
  exact A_icmp_eq (tgt := 1204) B.1 rfl dL_law_1062 (fun _ => kk σ1 τ1 hw1b hw2b h3) (fun h => absurd rfl h)
def Sim_away (Inv : Hp → Hp → Prop) : Prop := ∀ (σ τ : Hp), Inv σ τ → wr shC σ → wr shM τ → ∃ (z : Int) (σ' τ' : Hp), F_RD_away σ = some (z, σ') ∧ F_M_away τ = some (z, τ') ∧ Inv σ' τ'
set_option maxHeartbeats 1000000 in
theorem case_away {x : aC} {base b Lc K Wd : Nat} {xr : Nat → Int32} (B : lX x cL_law wsL_law RL 4 room_1 base b Lc xr K Wd) (hLc : Lc ≤ 3072) {iN : Nat} (hi : iN + 6 ≤ Lc) {Inv : Hp → Hp → Prop} {σ τ : Hp} (hw1 : wr shC σ) (hw2 : wr shM τ) (hI : Inv σ τ) (S : Sim_away Inv) (kk : ∀ σ' τ', wr shC σ' → wr shM τ' → Inv σ' τ' → aS x (shC ++ shM) 4 1204 (Lw b iN) [] (hjoin shC.length σ' τ')) : aS x (shC ++ shM) 4 1067 (Lw b iN) [] (hjoin shC.length σ τ) := by
  obtain ⟨z, σ1, τ1, h1, h2, h3⟩ := S σ τ hI hw1 hw2
  refine A_aload_n B.1 2 rfl rfl dL_law_1067 ?_
  refine L_callC (As := []) (rt := 0) (na := 0) B okM hw1 hw2 (m_X11_away h1) gL_law_X11_away rfl ⟨rfl, rfl⟩ (by decide +kernel) rfl ⟨Nat.le_of_ble_eq_true rfl, Nat.le_of_ble_eq_true rfl⟩ shC_0 (by decide) rfl rfl (Nat.le_of_ble_eq_true rfl) dL_law_1068 (fun hw1b => ?_)
  refine A_aload_n B.1 1 rfl rfl dL_law_1071 ?_
  refine L_callM (As := []) (rt := 0) (q := 0) (na := 0) B okM hw1b hw2 rfl (m_X12_away h2) (by decide) gL_law_X12_away rfl ⟨rfl, rfl⟩ (by decide +kernel) rfl ⟨Nat.le_of_ble_eq_true rfl, Nat.le_of_ble_eq_true rfl⟩ shM_0 (by decide) rfl rfl (Nat.le_of_ble_eq_true rfl) dL_law_1072 (fun hw2b => ?_)
  exact A_icmp_eq (tgt := 1204) B.1 rfl dL_law_1075 (fun _ => kk σ1 τ1 hw1b hw2b h3) (fun h => absurd rfl h)
def Sim_uneven (Inv : Hp → Hp → Prop) : Prop := ∀ (σ τ : Hp), Inv σ τ → wr shC σ → wr shM τ → ∃ (z : Int) (σ' τ' : Hp), F_RD_uneven σ = some (z, σ') ∧ F_M_uneven τ = some (z, τ') ∧ Inv σ' τ'
set_option maxHeartbeats 1000000 in
theorem case_uneven {x : aC} {base b Lc K Wd : Nat} {xr : Nat → Int32} (B : lX x cL_law wsL_law RL 4 room_1 base b Lc xr K Wd) (hLc : Lc ≤ 3072) {iN : Nat} (hi : iN + 6 ≤ Lc) {Inv : Hp → Hp → Prop} {σ τ : Hp} (hw1 : wr shC σ) (hw2 : wr shM τ) (hI : Inv σ τ) (S : Sim_uneven Inv) (kk : ∀ σ' τ', wr shC σ' → wr shM τ' → Inv σ' τ' → aS x (shC ++ shM) 4 1204 (Lw b iN) [] (hjoin shC.length σ' τ')) : aS x (shC ++ shM) 4 1080 (Lw b iN) [] (hjoin shC.length σ τ) := by
  obtain ⟨z, σ1, τ1, h1, h2, h3⟩ := S σ τ hI hw1 hw2
  refine A_aload_n B.1 2 rfl rfl dL_law_1080 ?_
  refine L_callC (As := []) (rt := 0) (na := 0) B okM hw1 hw2 (m_X11_uneven h1) gL_law_X11_uneven rfl ⟨rfl, rfl⟩ (by decide +kernel) rfl ⟨Nat.le_of_ble_eq_true rfl, Nat.le_of_ble_eq_true rfl⟩ shC_0 (by decide) rfl rfl (Nat.le_of_ble_eq_true rfl) dL_law_1081 (fun hw1b => ?_)
  refine A_aload_n B.1 1 rfl rfl dL_law_1084 ?_
  refine L_callM (As := []) (rt := 0) (q := 0) (na := 0) B okM hw1b hw2 rfl (m_X12_uneven h2) (by decide) gL_law_X12_uneven rfl ⟨rfl, rfl⟩ (by decide +kernel) rfl ⟨Nat.le_of_ble_eq_true rfl, Nat.le_of_ble_eq_true rfl⟩ shM_0 (by decide) rfl rfl (Nat.le_of_ble_eq_true rfl) dL_law_1085 (fun hw2b => ?_)
  exact A_icmp_eq (tgt := 1204) B.1 rfl dL_law_1088 (fun _ => kk σ1 τ1 hw1b hw2b h3) (fun h => absurd rfl h)
