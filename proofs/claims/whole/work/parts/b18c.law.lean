/-! THE LAW: a call of each kind -/
def Sim_made (Inv : Hp → Hp → Prop) : Prop := ∀ (σ τ : Hp) (a1 a2 : Int), inI a1 → inI a2 → Inv σ τ → wr shC σ → wr shM τ → ∃ (z : Int) (σ' τ' : Hp), F_RD_made a1 a2 σ = some (z, σ') ∧ F_M_made a1 a2 τ = some (z, τ') ∧ Inv σ' τ'
set_option maxHeartbeats 1000000 in
theorem case_made {x : aC} {base b Lc K Wd : Nat} {xr : Nat → Int32} (B : lX x cL_law wsL_law RL 4 room_1 base b Lc xr K Wd) (hLc : Lc ≤ 3072) {iN : Nat} (hi : iN + 6 ≤ Lc) {Inv : Hp → Hp → Prop} {σ τ : Hp} (hw1 : wr shC σ) (hw2 : wr shM τ) (hI : Inv σ τ) (S : Sim_made Inv) (kk : ∀ σ' τ', wr shC σ' → wr shM τ' → Inv σ' τ' → aS x (shC ++ shM) 4 1204 (Lw b iN) [] (hjoin shC.length σ' τ')) : aS x (shC ++ shM) 4 513 (Lw b iN) [] (hjoin shC.length σ τ) := by
  obtain ⟨z, σ1, τ1, h1, h2, h3⟩ := S σ τ (xr (iN + 1)).toInt (xr (iN + 2)).toInt (rg_i _) (rg_i _) hI hw1 hw2
  refine A_aload_n B.1 2 rfl rfl dL_law_513 ?_
  refine L_arg B 3 0 rfl rfl (kN := 1) rfl (by omega) (by omega) dL_law_514 dL_law_515 dL_law_516 dL_law_517 dL_law_518 ?_
  refine L_arg B 3 0 rfl rfl (kN := 2) rfl (by omega) (by omega) dL_law_519 dL_law_520 dL_law_521 dL_law_522 dL_law_523 ?_
  refine L_callC (As := [vI (xr (iN + 1)).toInt, vI (xr (iN + 2)).toInt]) (rt := 0) (na := 2) B okM hw1 hw2 (m_X11_made h1) gL_law_X11_made rfl ⟨rfl, rfl⟩ (by decide +kernel) rfl ⟨Nat.le_of_ble_eq_true rfl, Nat.le_of_ble_eq_true rfl⟩ shC_0 (by decide) rfl rfl (Nat.le_of_ble_eq_true rfl) dL_law_524 (fun hw1b => ?_)
  refine A_aload_n B.1 1 rfl rfl dL_law_527 ?_
  refine L_arg B 3 0 rfl rfl (kN := 1) rfl (by omega) (by omega) dL_law_528 dL_law_529 dL_law_530 dL_law_531 dL_law_532 ?_
  refine L_arg B 3 0 rfl rfl (kN := 2) rfl (by omega) (by omega) dL_law_533 dL_law_534 dL_law_535 dL_law_536 dL_law_537 ?_
  refine L_callM (As := [vI (xr (iN + 1)).toInt, vI (xr (iN + 2)).toInt]) (rt := 0) (q := 0) (na := 2) B okM hw1b hw2 rfl (m_X12_made h2) (by decide) gL_law_X12_made rfl ⟨rfl, rfl⟩ (by decide +kernel) rfl ⟨Nat.le_of_ble_eq_true rfl, Nat.le_of_ble_eq_true rfl⟩ shM_0 (by decide) rfl rfl (Nat.le_of_ble_eq_true rfl) dL_law_538 (fun hw2b => ?_)
  exact A_icmp_eq (tgt := 1204) B.1 rfl dL_law_541 (fun _ => kk σ1 τ1 hw1b hw2b h3) (fun h => absurd rfl h)
def Sim_most (Inv : Hp → Hp → Prop) : Prop := ∀ (σ τ : Hp) (a1 : Int), inB a1 → Inv σ τ → wr shC σ → wr shM τ → ∃ (z : Int) (σ' τ' : Hp), F_RD_most a1 σ = some (z, σ') ∧ F_M_most a1 τ = some (z, τ') ∧ Inv σ' τ'
set_option maxHeartbeats 1000000 in
theorem case_most {x : aC} {base b Lc K Wd : Nat} {xr : Nat → Int32} (B : lX x cL_law wsL_law RL 4 room_1 base b Lc xr K Wd) (hLc : Lc ≤ 3072) {iN : Nat} (hi : iN + 6 ≤ Lc) {Inv : Hp → Hp → Prop} {σ τ : Hp} (hw1 : wr shC σ) (hw2 : wr shM τ) (hI : Inv σ τ) (S : Sim_most Inv) (kk : ∀ σ' τ', wr shC σ' → wr shM τ' → Inv σ' τ' → aS x (shC ++ shM) 4 1204 (Lw b iN) [] (hjoin shC.length σ' τ')) : aS x (shC ++ shM) 4 546 (Lw b iN) [] (hjoin shC.length σ τ) := by
  obtain ⟨z, σ1, τ1, h1, h2, h3⟩ := S σ τ (if (xr (iN + 1)).toInt = 0 then 0 else 1) (inB_if _) hI hw1 hw2
  refine A_aload_n B.1 2 rfl rfl dL_law_546 ?_
  refine L_arg B 3 0 rfl rfl (kN := 1) rfl (by omega) (by omega) dL_law_547 dL_law_548 dL_law_549 dL_law_550 dL_law_551 ?_
  refine L_bool (t0 := 559) (t1 := 560) B.1 rfl rfl rfl dL_law_552 dL_law_555 dL_law_556 dL_law_559 ?_
  refine L_callC (As := [vI (if (xr (iN + 1)).toInt = 0 then 0 else 1)]) (rt := 0) (na := 1) B okM hw1 hw2 (m_X11_most h1) gL_law_X11_most rfl ⟨rfl, rfl⟩ (by decide +kernel) rfl ⟨Nat.le_of_ble_eq_true rfl, Nat.le_of_ble_eq_true rfl⟩ shC_0 (by decide) rfl rfl (Nat.le_of_ble_eq_true rfl) dL_law_560 (fun hw1b => ?_)
  refine A_aload_n B.1 1 rfl rfl dL_law_563 ?_
  refine L_arg B 3 0 rfl rfl (kN := 1) rfl (by omega) (by omega) dL_law_564 dL_law_565 dL_law_566 dL_law_567 dL_law_568 ?_
  refine L_bool (t0 := 576) (t1 := 577) B.1 rfl rfl rfl dL_law_569 dL_law_572 dL_law_573 dL_law_576 ?_
  refine L_callM (As := [vI (if (xr (iN + 1)).toInt = 0 then 0 else 1)]) (rt := 0) (q := 0) (na := 1) B okM hw1b hw2 rfl (m_X12_most h2) (by decide) gL_law_X12_most rfl ⟨rfl, rfl⟩ (by decide +kernel) rfl ⟨Nat.le_of_ble_eq_true rfl, Nat.le_of_ble_eq_true rfl⟩ shM_0 (by decide) rfl rfl (Nat.le_of_ble_eq_true rfl) dL_law_577 (fun hw2b => ?_)
  exact A_icmp_eq (tgt := 1204) B.1 rfl dL_law_580 (fun _ => kk σ1 τ1 hw1b hw2b h3) (fun h => absurd rfl h)
def Sim_row (Inv : Hp → Hp → Prop) : Prop := ∀ (σ τ : Hp) (a1 : Int), inI a1 → Inv σ τ → wr shC σ → wr shM τ → ∃ (z : Int) (σ' τ' : Hp), F_RD_row a1 σ = some (z, σ') ∧ F_M_row a1 τ = some (z, τ') ∧ Inv σ' τ'
set_option maxHeartbeats 1000000 in
theorem case_row {x : aC} {base b Lc K Wd : Nat} {xr : Nat → Int32} (B : lX x cL_law wsL_law RL 4 room_1 base b Lc xr K Wd) (hLc : Lc ≤ 3072) {iN : Nat} (hi : iN + 6 ≤ Lc) {Inv : Hp → Hp → Prop} {σ τ : Hp} (hw1 : wr shC σ) (hw2 : wr shM τ) (hI : Inv σ τ) (S : Sim_row Inv) (kk : ∀ σ' τ', wr shC σ' → wr shM τ' → Inv σ' τ' → aS x (shC ++ shM) 4 1204 (Lw b iN) [] (hjoin shC.length σ' τ')) : aS x (shC ++ shM) 4 585 (Lw b iN) [] (hjoin shC.length σ τ) := by
  obtain ⟨z, σ1, τ1, h1, h2, h3⟩ := S σ τ (xr (iN + 1)).toInt (rg_i _) hI hw1 hw2
  refine A_aload_n B.1 2 rfl rfl dL_law_585 ?_
  refine L_arg B 3 0 rfl rfl (kN := 1) rfl (by omega) (by omega) dL_law_586 dL_law_587 dL_law_588 dL_law_589 dL_law_590 ?_
  refine L_callC (As := [vI (xr (iN + 1)).toInt]) (rt := 0) (na := 1) B okM hw1 hw2 (m_X11_row h1) gL_law_X11_row rfl ⟨rfl, rfl⟩ (by decide +kernel) rfl ⟨Nat.le_of_ble_eq_true rfl, Nat.le_of_ble_eq_true rfl⟩ shC_0 (by decide) rfl rfl (Nat.le_of_ble_eq_true rfl) dL_law_591 (fun hw1b => ?_)
  refine A_aload_n B.1 1 rfl rfl dL_law_594 ?_
  refine L_arg B 3 0 rfl rfl (kN := 1) rfl (by omega) (by omega) dL_law_595 dL_law_596 dL_law_597 dL_law_598 dL_law_599 ?_
  refine L_callM (As := [vI (xr (iN + 1)).toInt]) (rt := 0) (q := 0) (na := 1) B okM hw1b hw2 rfl (m_X12_row h2) (by decide) gL_law_X12_row rfl ⟨rfl, rfl⟩ (by decide +kernel) rfl ⟨Nat.le_of_ble_eq_true rfl, Nat.le_of_ble_eq_true rfl⟩ shM_0 (by decide) rfl rfl (Nat.le_of_ble_eq_true rfl) dL_law_600 (fun hw2b => ?_)
  exact A_icmp_eq (tgt := 1204) B.1 rfl dL_law_603 (fun _ => kk σ1 τ1 hw1b hw2b h3) (fun h => absurd rfl h)
def Sim_end_ (Inv : Hp → Hp → Prop) : Prop := ∀ (σ τ : Hp) (a1 a2 : Int), inI a1 → inB a2 → Inv σ τ → wr shC σ → wr shM τ → ∃ (z : Int) (σ' τ' : Hp), F_RD_end_ a1 a2 σ = some (z, σ') ∧ F_M_end_ a1 a2 τ = some (z, τ') ∧ Inv σ' τ'
set_option maxHeartbeats 1000000 in
theorem case_end_ {x : aC} {base b Lc K Wd : Nat} {xr : Nat → Int32} (B : lX x cL_law wsL_law RL 4 room_1 base b Lc xr K Wd) (hLc : Lc ≤ 3072) {iN : Nat} (hi : iN + 6 ≤ Lc) {Inv : Hp → Hp → Prop} {σ τ : Hp} (hw1 : wr shC σ) (hw2 : wr shM τ) (hI : Inv σ τ) (S : Sim_end_ Inv) (kk : ∀ σ' τ', wr shC σ' → wr shM τ' → Inv σ' τ' → aS x (shC ++ shM) 4 1204 (Lw b iN) [] (hjoin shC.length σ' τ')) : aS x (shC ++ shM) 4 608 (Lw b iN) [] (hjoin shC.length σ τ) := by
  obtain ⟨z, σ1, τ1, h1, h2, h3⟩ := S σ τ (xr (iN + 1)).toInt (if (xr (iN + 2)).toInt = 0 then 0 else 1) (rg_i _) (inB_if _) hI hw1 hw2
  refine A_aload_n B.1 2 rfl rfl dL_law_608 ?_
  refine L_arg B 3 0 rfl rfl (kN := 1) rfl (by omega) (by omega) dL_law_609 dL_law_610 dL_law_611 dL_law_612 dL_law_613 ?_
  refine L_arg B 3 0 rfl rfl (kN := 2) rfl (by omega) (by omega) dL_law_614 dL_law_615 dL_law_616 dL_law_617 dL_law_618 ?_
  refine L_bool (t0 := 626) (t1 := 627) B.1 rfl rfl rfl dL_law_619 dL_law_622 dL_law_623 dL_law_626 ?_
  refine L_callC (As := [vI (xr (iN + 1)).toInt, vI (if (xr (iN + 2)).toInt = 0 then 0 else 1)]) (rt := 0) (na := 2) B okM hw1 hw2 (m_X11_end_ h1) gL_law_X11_end_ rfl ⟨rfl, rfl⟩ (by decide +kernel) rfl ⟨Nat.le_of_ble_eq_true rfl, Nat.le_of_ble_eq_true rfl⟩ shC_0 (by decide) rfl rfl (Nat.le_of_ble_eq_true rfl) dL_law_627 (fun hw1b => ?_)
  refine A_aload_n B.1 1 rfl rfl dL_law_630 ?_
  refine L_arg B 3 0 rfl rfl (kN := 1) rfl (by omega) (by omega) dL_law_631 dL_law_632 dL_law_633 dL_law_634 dL_law_635 ?_
  refine L_arg B 3 0 rfl rfl (kN := 2) rfl (by omega) (by omega) dL_law_636 dL_law_637 dL_law_638 dL_law_639 dL_law_640 ?_
  refine L_bool (t0 := 648) (t1 := 649) B.1 rfl rfl rfl dL_law_641 dL_law_644 dL_law_645 dL_law_648 ?_
  refine L_callM (As := [vI (xr (iN + 1)).toInt, vI (if (xr (iN + 2)).toInt = 0 then 0 else 1)]) (rt := 0) (q := 0) (na := 2) B okM hw1b hw2 rfl (m_X12_end_ h2) (by decide) gL_law_X12_end_ rfl ⟨rfl, rfl⟩ (by decide +kernel) rfl ⟨Nat.le_of_ble_eq_true rfl, Nat.le_of_ble_eq_true rfl⟩ shM_0 (by decide) rfl rfl (Nat.le_of_ble_eq_true rfl) dL_law_649 (fun hw2b => ?_)
  exact A_icmp_eq (tgt := 1204) B.1 rfl dL_law_652 (fun _ => kk σ1 τ1 hw1b hw2b h3) (fun h => absurd rfl h)
def Sim_of (Inv : Hp → Hp → Prop) : Prop := ∀ (σ τ : Hp) (a1 : Int), inI a1 → Inv σ τ → wr shC σ → wr shM τ → ∃ (z : Int) (σ' τ' : Hp), F_RD_of a1 σ = some (z, σ') ∧ F_M_of a1 τ = some (z, τ') ∧ Inv σ' τ'
set_option maxHeartbeats 1000000 in
theorem case_of {x : aC} {base b Lc K Wd : Nat} {xr : Nat → Int32} (B : lX x cL_law wsL_law RL 4 room_1 base b Lc xr K Wd) (hLc : Lc ≤ 3072) {iN : Nat} (hi : iN + 6 ≤ Lc) {Inv : Hp → Hp → Prop} {σ τ : Hp} (hw1 : wr shC σ) (hw2 : wr shM τ) (hI : Inv σ τ) (S : Sim_of Inv) (kk : ∀ σ' τ', wr shC σ' → wr shM τ' → Inv σ' τ' → aS x (shC ++ shM) 4 1204 (Lw b iN) [] (hjoin shC.length σ' τ')) : aS x (shC ++ shM) 4 657 (Lw b iN) [] (hjoin shC.length σ τ) := by
  obtain ⟨z, σ1, τ1, h1, h2, h3⟩ := S σ τ (xr (iN + 1)).toInt (rg_i _) hI hw1 hw2
  refine A_aload_n B.1 2 rfl rfl dL_law_657 ?_
  refine L_arg B 3 0 rfl rfl (kN := 1) rfl (by omega) (by omega) dL_law_658 dL_law_659 dL_law_660 dL_law_661 dL_law_662 ?_
  refine L_callC (As := [vI (xr (iN + 1)).toInt]) (rt := 0) (na := 1) B okM hw1 hw2 (m_X11_of h1) gL_law_X11_of rfl ⟨rfl, rfl⟩ (by decide +kernel) rfl ⟨Nat.le_of_ble_eq_true rfl, Nat.le_of_ble_eq_true rfl⟩ shC_0 (by decide) rfl rfl (Nat.le_of_ble_eq_true rfl) dL_law_663 (fun hw1b => ?_)
  refine A_aload_n B.1 1 rfl rfl dL_law_666 ?_
  refine L_arg B 3 0 rfl rfl (kN := 1) rfl (by omega) (by omega) dL_law_667 dL_law_668 dL_law_669 dL_law_670 dL_law_671 ?_
  refine L_callM (As := [vI (xr (iN + 1)).toInt]) (rt := 0) (q := 0) (na := 1) B okM hw1b hw2 rfl (m_X12_of h2) (by decide) gL_law_X12_of rfl ⟨rfl, rfl⟩ (by decide +kernel) rfl ⟨Nat.le_of_ble_eq_true rfl, Nat.le_of_ble_eq_true rfl⟩ shM_0 (by decide) rfl rfl (Nat.le_of_ble_eq_true rfl) dL_law_672 (fun hw2b => ?_)
  exact A_icmp_eq (tgt := 1204) B.1 rfl dL_law_675 (fun _ => kk σ1 τ1 hw1b hw2b h3) (fun h => absurd rfl h)
def Sim_moves (Inv : Hp → Hp → Prop) : Prop := ∀ (σ τ : Hp) (a1 a2 : Int), inI a1 → inI a2 → Inv σ τ → wr shC σ → wr shM τ → ∃ (z : Int) (σ' τ' : Hp), F_RD_moves a1 a2 σ = some (z, σ') ∧ F_M_moves a1 a2 τ = some (z, τ') ∧ Inv σ' τ'
set_option maxHeartbeats 1000000 in
theorem case_moves {x : aC} {base b Lc K Wd : Nat} {xr : Nat → Int32} (B : lX x cL_law wsL_law RL 4 room_1 base b Lc xr K Wd) (hLc : Lc ≤ 3072) {iN : Nat} (hi : iN + 6 ≤ Lc) {Inv : Hp → Hp → Prop} {σ τ : Hp} (hw1 : wr shC σ) (hw2 : wr shM τ) (hI : Inv σ τ) (S : Sim_moves Inv) (kk : ∀ σ' τ', wr shC σ' → wr shM τ' → Inv σ' τ' → aS x (shC ++ shM) 4 1204 (Lw b iN) [] (hjoin shC.length σ' τ')) : aS x (shC ++ shM) 4 680 (Lw b iN) [] (hjoin shC.length σ τ) := by
  obtain ⟨z, σ1, τ1, h1, h2, h3⟩ := S σ τ (xr (iN + 1)).toInt (xr (iN + 2)).toInt (rg_i _) (rg_i _) hI hw1 hw2
  refine A_aload_n B.1 2 rfl rfl dL_law_680 ?_
  refine L_arg B 3 0 rfl rfl (kN := 1) rfl (by omega) (by omega) dL_law_681 dL_law_682 dL_law_683 dL_law_684 dL_law_685 ?_
  refine L_arg B 3 0 rfl rfl (kN := 2) rfl (by omega) (by omega) dL_law_686 dL_law_687 dL_law_688 dL_law_689 dL_law_690 ?_
  refine L_callC (As := [vI (xr (iN + 1)).toInt, vI (xr (iN + 2)).toInt]) (rt := 0) (na := 2) B okM hw1 hw2 (m_X11_moves h1) gL_law_X11_moves rfl ⟨rfl, rfl⟩ (by decide +kernel) rfl ⟨Nat.le_of_ble_eq_true rfl, Nat.le_of_ble_eq_true rfl⟩ shC_0 (by decide) rfl rfl (Nat.le_of_ble_eq_true rfl) dL_law_691 (fun hw1b => ?_)
  refine A_aload_n B.1 1 rfl rfl dL_law_694 ?_
  refine L_arg B 3 0 rfl rfl (kN := 1) rfl (by omega) (by omega) dL_law_695 dL_law_696 dL_law_697 dL_law_698 dL_law_699 ?_
  refine L_arg B 3 0 rfl rfl (kN := 2) rfl (by omega) (by omega) dL_law_700 dL_law_701 dL_law_702 dL_law_703 dL_law_704 ?_
  refine L_callM (As := [vI (xr (iN + 1)).toInt, vI (xr (iN + 2)).toInt]) (rt := 0) (q := 0) (na := 2) B okM hw1b hw2 rfl (m_X12_moves h2) (by decide) gL_law_X12_moves rfl ⟨rfl, rfl⟩ (by decide +kernel) rfl ⟨Nat.le_of_ble_eq_true rfl, Nat.le_of_ble_eq_true rfl⟩ shM_0 (by decide) rfl rfl (Nat.le_of_ble_eq_true rfl) dL_law_705 (fun hw2b => ?_)
  exact A_icmp_eq (tgt := 1204) B.1 rfl dL_law_708 (fun _ => kk σ1 τ1 hw1b hw2b h3) (fun h => absurd rfl h)
def Sim_pays (Inv : Hp → Hp → Prop) : Prop := ∀ (σ τ : Hp) (a1 : Int), inI a1 → Inv σ τ → wr shC σ → wr shM τ → ∃ (z : Int) (σ' τ' : Hp), F_RD_pays a1 σ = some (z, σ') ∧ F_M_pays a1 τ = some (z, τ') ∧ Inv σ' τ'
set_option maxHeartbeats 1000000 in
theorem case_pays {x : aC} {base b Lc K Wd : Nat} {xr : Nat → Int32} (B : lX x cL_law wsL_law RL 4 room_1 base b Lc xr K Wd) (hLc : Lc ≤ 3072) {iN : Nat} (hi : iN + 6 ≤ Lc) {Inv : Hp → Hp → Prop} {σ τ : Hp} (hw1 : wr shC σ) (hw2 : wr shM τ) (hI : Inv σ τ) (S : Sim_pays Inv) (kk : ∀ σ' τ', wr shC σ' → wr shM τ' → Inv σ' τ' → aS x (shC ++ shM) 4 1204 (Lw b iN) [] (hjoin shC.length σ' τ')) : aS x (shC ++ shM) 4 713 (Lw b iN) [] (hjoin shC.length σ τ) := by
  obtain ⟨z, σ1, τ1, h1, h2, h3⟩ := S σ τ (xr (iN + 1)).toInt (rg_i _) hI hw1 hw2
  refine A_aload_n B.1 2 rfl rfl dL_law_713 ?_
  refine L_arg B 3 0 rfl rfl (kN := 1) rfl (by omega) (by omega) dL_law_714 dL_law_715 dL_law_716 dL_law_717 dL_law_718 ?_
  refine L_callC (As := [vI (xr (iN + 1)).toInt]) (rt := 0) (na := 1) B okM hw1 hw2 (m_X11_pays h1) gL_law_X11_pays rfl ⟨rfl, rfl⟩ (by decide +kernel) rfl ⟨Nat.le_of_ble_eq_true rfl, Nat.le_of_ble_eq_true rfl⟩ shC_0 (by decide) rfl rfl (Nat.le_of_ble_eq_true rfl) dL_law_719 (fun hw1b => ?_)
  refine A_aload_n B.1 1 rfl rfl dL_law_722 ?_
  refine L_arg B 3 0 rfl rfl (kN := 1) rfl (by omega) (by omega) dL_law_723 dL_law_724 dL_law_725 dL_law_726 dL_law_727 ?_
  refine L_callM (As := [vI (xr (iN + 1)).toInt]) (rt := 0) (q := 0) (na := 1) B okM hw1b hw2 rfl (m_X12_pays h2) (by decide) gL_law_X12_pays rfl ⟨rfl, rfl⟩ (by decide +kernel) rfl ⟨Nat.le_of_ble_eq_true rfl, Nat.le_of_ble_eq_true rfl⟩ shM_0 (by decide) rfl rfl (Nat.le_of_ble_eq_true rfl) dL_law_728 (fun hw2b => ?_)
  exact A_icmp_eq (tgt := 1204) B.1 rfl dL_law_731 (fun _ => kk σ1 τ1 hw1b hw2b h3) (fun h => absurd rfl h)
def Sim_two (Inv : Hp → Hp → Prop) : Prop := ∀ (σ τ : Hp) (a1 a2 a3 a4 : Int), inI a1 → inI a2 → inB a3 → inB a4 → Inv σ τ → wr shC σ → wr shM τ → ∃ (z : Int) (σ' τ' : Hp), F_RD_two a1 a2 a3 a4 σ = some (z, σ') ∧ F_M_two a1 a2 a3 a4 τ = some (z, τ') ∧ Inv σ' τ'
set_option maxHeartbeats 1000000 in
theorem case_two {x : aC} {base b Lc K Wd : Nat} {xr : Nat → Int32} (B : lX x cL_law wsL_law RL 4 room_1 base b Lc xr K Wd) (hLc : Lc ≤ 3072) {iN : Nat} (hi : iN + 6 ≤ Lc) {Inv : Hp → Hp → Prop} {σ τ : Hp} (hw1 : wr shC σ) (hw2 : wr shM τ) (hI : Inv σ τ) (S : Sim_two Inv) (kk : ∀ σ' τ', wr shC σ' → wr shM τ' → Inv σ' τ' → aS x (shC ++ shM) 4 1204 (Lw b iN) [] (hjoin shC.length σ' τ')) : aS x (shC ++ shM) 4 736 (Lw b iN) [] (hjoin shC.length σ τ) := by
  obtain ⟨z, σ1, τ1, h1, h2, h3⟩ := S σ τ (xr (iN + 1)).toInt (xr (iN + 2)).toInt (if (xr (iN + 3)).toInt = 0 then 0 else 1) (if (xr (iN + 4)).toInt = 0 then 0 else 1) (rg_i _) (rg_i _) (inB_if _) (inB_if _) hI hw1 hw2
  refine A_aload_n B.1 2 rfl rfl dL_law_736 ?_
  refine L_arg B 3 0 rfl rfl (kN := 1) rfl (by omega) (by omega) dL_law_737 dL_law_738 dL_law_739 dL_law_740 dL_law_741 ?_
  refine L_arg B 3 0 rfl rfl (kN := 2) rfl (by omega) (by omega) dL_law_742 dL_law_743 dL_law_744 dL_law_745 dL_law_746 ?_
  refine L_arg B 3 0 rfl rfl (kN := 3) rfl (by omega) (by omega) dL_law_747 dL_law_748 dL_law_749 dL_law_750 dL_law_751 ?_
  refine L_bool (t0 := 759) (t1 := 760) B.1 rfl rfl rfl dL_law_752 dL_law_755 dL_law_756 dL_law_759 ?_
  refine L_arg B 3 0 rfl rfl (kN := 4) rfl (by omega) (by omega) dL_law_760 dL_law_761 dL_law_762 dL_law_763 dL_law_764 ?_
  refine L_bool (t0 := 772) (t1 := 773) B.1 rfl rfl rfl dL_law_765 dL_law_768 dL_law_769 dL_law_772 ?_
  refine L_callC (As := [vI (xr (iN + 1)).toInt, vI (xr (iN + 2)).toInt, vI (if (xr (iN + 3)).toInt = 0 then 0 else 1), vI (if (xr (iN + 4)).toInt = 0 then 0 else 1)]) (rt := 0) (na := 4) B okM hw1 hw2 (m_X11_two h1) gL_law_X11_two rfl ⟨rfl, rfl⟩ (by decide +kernel) rfl ⟨Nat.le_of_ble_eq_true rfl, Nat.le_of_ble_eq_true rfl⟩ shC_0 (by decide) rfl rfl (Nat.le_of_ble_eq_true rfl) dL_law_773 (fun hw1b => ?_)
  refine A_aload_n B.1 1 rfl rfl dL_law_776 ?_
  refine L_arg B 3 0 rfl rfl (kN := 1) rfl (by omega) (by omega) dL_law_777 dL_law_778 dL_law_779 dL_law_780 dL_law_781 ?_
  refine L_arg B 3 0 rfl rfl (kN := 2) rfl (by omega) (by omega) dL_law_782 dL_law_783 dL_law_784 dL_law_785 dL_law_786 ?_
  refine L_arg B 3 0 rfl rfl (kN := 3) rfl (by omega) (by omega) dL_law_787 dL_law_788 dL_law_789 dL_law_790 dL_law_791 ?_
  refine L_bool (t0 := 799) (t1 := 800) B.1 rfl rfl rfl dL_law_792 dL_law_795 dL_law_796 dL_law_799 ?_
  refine L_arg B 3 0 rfl rfl (kN := 4) rfl (by omega) (by omega) dL_law_800 dL_law_801 dL_law_802 dL_law_803 dL_law_804 ?_
  refine L_bool (t0 := 812) (t1 := 813) B.1 rfl rfl rfl dL_law_805 dL_law_808 dL_law_809 dL_law_812 ?_
  refine L_callM (As := [vI (xr (iN + 1)).toInt, vI (xr (iN + 2)).toInt, vI (if (xr (iN + 3)).toInt = 0 then 0 else 1), vI (if (xr (iN + 4)).toInt = 0 then 0 else 1)]) (rt := 0) (q := 0) (na := 4) B okM hw1b hw2 rfl (m_X12_two h2) (by decide) gL_law_X12_two rfl ⟨rfl, rfl⟩ (by decide +kernel) rfl ⟨Nat.le_of_ble_eq_true rfl, Nat.le_of_ble_eq_true rfl⟩ shM_0 (by decide) rfl rfl (Nat.le_of_ble_eq_true rfl) dL_law_813 (fun hw2b => ?_)
  exact A_icmp_eq (tgt := 1204) B.1 rfl dL_law_816 (fun _ => kk σ1 τ1 hw1b hw2b h3) (fun h => absurd rfl h)
def Sim_price (Inv : Hp → Hp → Prop) : Prop := ∀ (σ τ : Hp) (a1 : Int), inI a1 → Inv σ τ → wr shC σ → wr shM τ → ∃ (z : Int) (σ' τ' : Hp), F_RD_price a1 σ = some (z, σ') ∧ F_M_price a1 τ = some (z, τ') ∧ Inv σ' τ'
set_option maxHeartbeats 1000000 in
theorem case_price {x : aC} {base b Lc K Wd : Nat} {xr : Nat → Int32} (B : lX x cL_law wsL_law RL 4 room_1 base b Lc xr K Wd) (hLc : Lc ≤ 3072) {iN : Nat} (hi : iN + 6 ≤ Lc) {Inv : Hp → Hp → Prop} {σ τ : Hp} (hw1 : wr shC σ) (hw2 : wr shM τ) (hI : Inv σ τ) (S : Sim_price Inv) (kk : ∀ σ' τ', wr shC σ' → wr shM τ' → Inv σ' τ' → aS x (shC ++ shM) 4 1204 (Lw b iN) [] (hjoin shC.length σ' τ')) : aS x (shC ++ shM) 4 821 (Lw b iN) [] (hjoin shC.length σ τ) := by
  obtain ⟨z, σ1, τ1, h1, h2, h3⟩ := S σ τ (xr (iN + 1)).toInt (rg_i _) hI hw1 hw2
  refine A_aload_n B.1 2 rfl rfl dL_law_821 ?_
  refine L_arg B 3 0 rfl rfl (kN := 1) rfl (by omega) (by omega) dL_law_822 dL_law_823 dL_law_824 dL_law_825 dL_law_826 ?_
  refine L_callC (As := [vI (xr (iN + 1)).toInt]) (rt := 0) (na := 1) B okM hw1 hw2 (m_X11_price h1) gL_law_X11_price rfl ⟨rfl, rfl⟩ (by decide +kernel) rfl ⟨Nat.le_of_ble_eq_true rfl, Nat.le_of_ble_eq_true rfl⟩ shC_0 (by decide) rfl rfl (Nat.le_of_ble_eq_true rfl) dL_law_827 (fun hw1b => ?_)
  refine A_aload_n B.1 1 rfl rfl dL_law_830 ?_
  refine L_arg B 3 0 rfl rfl (kN := 1) rfl (by omega) (by omega) dL_law_831 dL_law_832 dL_law_833 dL_law_834 dL_law_835 ?_
  refine L_callM (As := [vI (xr (iN + 1)).toInt]) (rt := 0) (q := 0) (na := 1) B okM hw1b hw2 rfl (m_X12_price h2) (by decide) gL_law_X12_price rfl ⟨rfl, rfl⟩ (by decide +kernel) rfl ⟨Nat.le_of_ble_eq_true rfl, Nat.le_of_ble_eq_true rfl⟩ shM_0 (by decide) rfl rfl (Nat.le_of_ble_eq_true rfl) dL_law_836 (fun hw2b => ?_)
  exact A_icmp_eq (tgt := 1204) B.1 rfl dL_law_839 (fun _ => kk σ1 τ1 hw1b hw2b h3) (fun h => absurd rfl h)
def Sim_ways (Inv : Hp → Hp → Prop) : Prop := ∀ (σ τ : Hp), Inv σ τ → wr shC σ → wr shM τ → ∃ (z : Int) (σ' τ' : Hp), F_RD_ways σ = some (z, σ') ∧ F_M_ways τ = some (z, τ') ∧ Inv σ' τ'
set_option maxHeartbeats 1000000 in
theorem case_ways {x : aC} {base b Lc K Wd : Nat} {xr : Nat → Int32} (B : lX x cL_law wsL_law RL 4 room_1 base b Lc xr K Wd) (hLc : Lc ≤ 3072) {iN : Nat} (hi : iN + 6 ≤ Lc) {Inv : Hp → Hp → Prop} {σ τ : Hp} (hw1 : wr shC σ) (hw2 : wr shM τ) (hI : Inv σ τ) (S : Sim_ways Inv) (kk : ∀ σ' τ', wr shC σ' → wr shM τ' → Inv σ' τ' → aS x (shC ++ shM) 4 1204 (Lw b iN) [] (hjoin shC.length σ' τ')) : aS x (shC ++ shM) 4 844 (Lw b iN) [] (hjoin shC.length σ τ) := by
  obtain ⟨z, σ1, τ1, h1, h2, h3⟩ := S σ τ hI hw1 hw2
  refine A_aload_n B.1 2 rfl rfl dL_law_844 ?_
  refine L_callC (As := []) (rt := 0) (na := 0) B okM hw1 hw2 (m_X11_ways h1) gL_law_X11_ways rfl ⟨rfl, rfl⟩ (by decide +kernel) rfl ⟨Nat.le_of_ble_eq_true rfl, Nat.le_of_ble_eq_true rfl⟩ shC_0 (by decide) rfl rfl (Nat.le_of_ble_eq_true rfl) dL_law_845 (fun hw1b => ?_)
  refine A_aload_n B.1 1 rfl rfl dL_law_848 ?_
  refine L_callM (As := []) (rt := 0) (q := 0) (na := 0) B okM hw1b hw2 rfl (m_X12_ways h2) (by decide) gL_law_X12_ways rfl ⟨rfl, rfl⟩ (by decide +kernel) rfl ⟨Nat.le_of_ble_eq_true rfl, Nat.le_of_ble_eq_true rfl⟩ shM_0 (by decide) rfl rfl (Nat.le_of_ble_eq_true rfl) dL_law_849 (fun hw2b => ?_)
  exact A_icmp_eq (tgt := 1204) B.1 rfl dL_law_852 (fun _ => kk σ1 τ1 hw1b hw2b h3) (fun h => absurd rfl h)
