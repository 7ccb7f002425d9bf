/-! what holds at the start: the check; both -/
section InitM
variable {s t : Hp}
def zrR (k : Nat) (s : Hp) : Prop := ∀ q i, 1 ≤ q → q ≤ k → s q i = 0
theorem zrR_0 : zrR 0 s := fun q i h1 h2 => absurd (Nat.le_trans h1 h2) (by decide)
theorem zrR_z {k : Nat} (h : zrR k s) : zrR (k + 1) (zrow s (k + 1)) := fun q i h1 h2 => by
  by_cases e : q = k + 1
  · subst e
    exact zrow_at
  · rw [zrow_ne e]
    exact h q i h1 (by omega)
theorem zrR_h {k i : Nat} {v : Int} (h : zrR k s) : zrR k (hset s 0 i v) := fun q j h1 h2 => by
  rw [hset_obj _ _ _ _ (by omega)]
  exact h q j h1 h2
theorem z0r {n : Nat} (h : n ≠ 0) : zrow s n 0 = s 0 := zrow_ne (fun z => h z.symm)
set_option maxHeartbeats 4000000 in
theorem I_mdl (τ : Hp) : ∃ u, I_X12_init_1 τ = some (0, u) ∧ (u 0 1 = 0 ∧ u 0 10 = 0 ∧ u 0 11 = -1 ∧ u 0 12 = 0 ∧ u 0 42 = 0 ∧ u 0 43 = 0 ∧ u 0 44 = -1 ∧ u 0 67 = -1 ∧ u 0 71 = 0) ∧ zrR 51 u := by
  unfold I_X12_init_1
  simp only [lt_eq]
  refine ⟨_, rfl, ⟨?_, ?_, ?_, ?_, ?_, ?_, ?_, ?_, ?_⟩, ?_⟩
  any_goals
    repeat (first | rw [z0r (by decide)] | rw [hset_get, if_neg (by decide)])
    rw [hset_same]
  repeat (first | exact zrR_0 | refine zrR_h ?_ | refine zrR_z ?_)
theorem gA00 : ADok A00 := ⟨by show 0 ≤ 200; decide, fun k i1 i2 => absurd (Nat.le_trans i1 i2) (by show ¬ 1 ≤ 0; decide)⟩
theorem gO00 : nowOf A00 (-1) 0 := ⟨by decide, by show (-1 : Int) ≤ ((0 : Nat) : Int); decide, by rw [if_pos rfl]; rfl⟩
theorem inv_init : InvInit Inv := fun τ _ => by
  obtain ⟨u, e1, ⟨u3, u11, u12, u13, u14, u15, u16⟩, ⟨v1, v2, v3, v46⟩, v50, vt, v88, v139, v169, v173, v174, v181⟩ := I_cls
  obtain ⟨w, e2, ⟨w1, w10, w11, w12, w42, w43, w44, w67, w71⟩, wz⟩ := I_mdl τ
  have z : ∀ q i, 1 ≤ q → q ≤ 51 → w q i = 0 := wz
  refine ⟨(0, u), (0, w), e1, e2, 50, 0, d00, A00, -1, 0, 0, D00, ⟨okD_00.1, gA00, gO00, by decide, okD_00.2.1, fun r hr => absurd hr (by show ¬ (false = true); decide)⟩, ⟨⟨Or.inl rfl, v50 15, v50 16, v50 17, v50 18, fun i hi => absurd hi (Nat.not_lt_zero _), fun r hr => absurd hr (Nat.not_lt_zero _), fun a c ha hc => (vt a c ha hc).1, fun a c ha hc => (vt a c ha hc).2⟩, fun r hr => absurd hr (Nat.not_lt_zero _), fun i hi => absurd hi (Nat.not_lt_zero _), ⟨v46, fun k hk => absurd hk (Nat.not_lt_zero _)⟩, ⟨u3, v3, u12, u11⟩, ⟨v88, fun r hr => absurd hr (Nat.not_lt_zero _)⟩, ⟨Or.inr u16, fun e => absurd (u16.symm.trans e) (by decide), v139, v169⟩⟩, ⟨⟨by decide, w12, z 2 0 (by decide) (by decide), z 3 0 (by decide) (by decide), z 4 0 (by decide) (by decide), z 5 0 (by decide) (by decide), fun i hi => absurd hi (Nat.not_lt_zero _), fun r hr => absurd hr (Nat.not_lt_zero _), fun a c ha hc => z 15 _ (by decide) (by decide)⟩, fun r hr => absurd hr (Nat.not_lt_zero _), fun i hi => absurd hi (Nat.not_lt_zero _), ⟨w43, fun k i1 i2 => absurd (Nat.le_trans i1 i2) (by show ¬ 1 ≤ 0; decide)⟩, w44, w42⟩, ⟨fun r hr => ⟨v174 r, z 42 r (by decide) (by decide), fun y => absurd y (by show ¬ (false = true); decide)⟩, ?_⟩, ?_, ?_, ?_⟩
  · show u 173 2 = ((dlN D00 30 : Nat) : Int)
    rw [v173 2 (by decide), dlN_00]
    rfl
  · show u 0 13 = w 0 10 ∧ u 0 14 = w 0 11 ∧ u 0 15 = w 0 67
    rw [u13, u14, u15, w10, w11, w67]
    exact ⟨rfl, rfl, rfl⟩
  · show 0 ≤ u 1 1 ∧ u 1 1 ≤ 900 ∧ u 1 1 = w 0 1 ∧ ∀ k, k < 900 → w 1 k = u 2 k % 256
    rw [v1, w1]
    refine ⟨by decide, by decide, rfl, fun k hk => ?_⟩
    rw [v2 k, z 1 k (by decide) (by decide)]
    rfl
  · show 0 ≤ u 181 1 ∧ u 181 1 ≤ 59 ∧ u 181 1 = w 0 71 ∧ ∀ k : Nat, (k : Int) < u 181 1 → w 49 k = u 182 k % 256
    rw [v181, w71]
    exact ⟨by decide, by decide, rfl, fun k hk => absurd hk (by omega)⟩
theorem all_sims : Sims Inv :=
  ⟨fun σ τ a1 a2 a3 a4 a5 i1 i2 i3 i4 i5 h _ _ => S_feed σ τ a1 a2 a3 a4 a5 i1 i2 i3 i4 i5 h,
  fun σ τ a1 _ h _ _ => S_end σ τ a1 h,
  fun σ τ h _ _ => S_text σ τ h,
  fun σ τ a1 _ h _ _ => S_fault σ τ a1 h,
  fun σ τ a1 _ h _ _ => S_has σ τ a1 h,
  fun σ τ a1 a2 _ _ h _ _ => S_letter σ τ a1 a2 h,
  fun σ τ a1 a2 _ _ h _ _ => S_road σ τ a1 a2 h,
  fun σ τ a1 _ h _ _ => S_day σ τ a1 h,
  fun σ τ a1 a2 _ _ h _ _ => S_worth σ τ a1 a2 h,
  fun σ τ a1 _ h _ _ => S_annul σ τ a1 h,
  fun σ τ a1 _ h _ _ => S_as σ τ a1 h,
  fun σ τ a1 a2 _ _ h _ _ => S_made σ τ a1 a2 h,
  fun σ τ a1 _ h _ _ => S_most σ τ a1 h,
  fun σ τ a1 _ h _ _ => S_row σ τ a1 h,
  fun σ τ a1 a2 _ _ h _ _ => S_end_ σ τ a1 a2 h,
  fun σ τ a1 _ h _ _ => S_of σ τ a1 h,
  fun σ τ a1 a2 _ _ h _ _ => S_moves σ τ a1 a2 h,
  fun σ τ a1 _ h _ _ => S_pays σ τ a1 h,
  fun σ τ a1 a2 a3 a4 _ _ i3 i4 h _ _ => S_two σ τ a1 a2 a3 a4 i3 i4 h,
  fun σ τ a1 _ h _ _ => S_price σ τ a1 h,
  fun σ τ h _ _ => S_ways σ τ h,
  fun σ τ a1 a2 _ _ h _ _ => S_deal σ τ a1 a2 h,
  fun σ τ a1 _ h _ _ => S_undeal σ τ a1 h,
  fun σ τ h _ _ => S_dealRow σ τ h,
  fun σ τ a1 _ h _ _ => S_share σ τ a1 h,
  fun σ τ a1 _ h _ _ => S_money σ τ a1 h,
  fun σ τ a1 a2 _ _ h _ _ => S_other σ τ a1 a2 h,
  fun σ τ a1 a2 _ _ h _ _ => S_chain σ τ a1 a2 h,
  fun σ τ h _ _ => S_breaks σ τ h,
  fun σ τ h _ _ => S_away σ τ h,
  fun σ τ h _ _ => S_uneven σ τ h,
  fun σ τ a1 _ h _ _ => S_haggle σ τ a1 h,
  fun σ τ h _ _ => S_ended σ τ h,
  fun σ τ h _ _ => S_gift σ τ h,
  fun σ τ h _ _ => S_surely σ τ h,
  fun σ τ h _ _ => S_image σ τ h,
  fun σ τ a1 _ h _ _ => S_octet σ τ a1 h,
  fun σ τ h _ _ => S_on σ τ h⟩
end InitM
