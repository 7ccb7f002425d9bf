/-! the JDK's String.length() and charAt(int) on the class's one text constant -/
def nA : Nat → Prop := fun _ => False
def sK (aK aW : Nat) (U : State) : Prop := va_Z "java/lang/String" "COMPACT_STRINGS" "Z" (.int 1) nA U U.heap ∧ va_Zq "jdk/internal/util/Preconditions" "SIOOBE_FORMATTER" "Ljava/util/function/BiFunction;" nA U U.heap ∧ vk_S 1 [80] [jsB] (fun _ => aK) (fun _ => aW) nA U U.heap
theorem sK.moved {aK aW : Nat} {u U : State} (hvm : u.vm.Alike U.vm) (hh : U.heap = u.heap) (h : sK aK aW u) : sK aK aW U := by
  obtain ⟨h1, h2, h3⟩ := h
  unfold sK
  rw [hh]
  exact ⟨h1.moved hvm, h2.moved hvm, h3.moved hvm⟩
def sMet (l : Launch) (y : MethodName) (ws : List Cond) (rm : Room) (As : List Value) (aK aW : Nat) (v : Option Value) : Prop :=
  Met l y ws rm (va_Pc As (sK aK aW)) (fun _ st oc t => oc = .returned v ∧ t.heap = st.heap) 0 0 nA
theorem sBlind {As : List Value} {aK aW : Nat} : FrameBlind (va_Pc As (sK aK aW)) := fun a U j mk h => ⟨h.1, h.2.moved (Vm.Alike.refl U.vm) rfl⟩
section SC
variable {p : Program} {l : Launch} {e : Env} {R : Room} {s : State} {m : MethodId} {args : Array Value} {below : List Frame} {meth : Method} {c : Code} {H : Heap} {locs : List Loc} {cells slots : Nat} {Q : State → Prop}
theorem s_call {pc : Nat} {ls : Array Slot} {st0 rest : List Value} {v : Option Value} (hr : va_Run p l e R s m args below meth c H locs cells slots 0 0 (F0 m pc ls st0) rest (fun st oc t => oc = .returned v ∧ t.heap = st.heap) nA) (kk : W p l e R s m args below meth c H locs cells slots Q (F0 m (pc + 3) ls (v.toList ++ rest))) : W p l e R s m args below meth c H locs cells slots Q (F0 m pc ls st0) := by
  intro T hT X
  obtain ⟨v', st₀, t, T', L, h0, X', hL, e1, e2, ⟨hv, hh⟩, st⟩ := hr T hT X
  cases hv
  have hL0 : L = [] := by
    cases L with
    | nil => rfl
    | cons a r => exact (hL a List.mem_cons_self).elim
  subst hL0
  rw [List.append_nil] at X'
  obtain ⟨t2, a1, b1⟩ := kk T' (by rw [e1, hh, h0]) X'
  exact ⟨t2, st t2 a1, b1⟩
end SC
abbrev rmS (f n : Nat) : Room := { frames := f, cells := 0, slots := 0, locals := n }
set_option maxHeartbeats 4000000 in
set_option maxRecDepth 100000 in
theorem j_coder (l : Launch) (aK aW : Nat) : sMet l yJ0_coder_7d493 wsJ0_coder_7d493 (rmS 0 0) [.ref aK] aK aW (some (.int 0)) := by
  refine va_MetF (cc := cJ0_coder_7d493) (maxL := 1) (ret := some .byte) (by decide +kernel) rfl ?_
  intro p e s m args below meth c s₁ B hml hv
  obtain ⟨rfl, hK⟩ := hv
  have hx := B.exec
  have hb := B.bytes
  have hr := B.returns
  have hts := atoms_spec (ws := wsJ0_coder_7d493) B.pre
  have hown : s.vm.findClass RJ0 = some m.cls := findClass_of_methodNamed B.named
  have hlocks := B.notSynchronized
  have hl := lv_entry ([.ref aK]) (n := 1) (Nat.le_of_ble_eq_true rfl)
  rw [lg_entry_eq]
  generalize (lg_sl ([.ref aK]) ++ List.replicate (1 - (lg_sl ([.ref aK])).length) Slot.unset).toArray = ls at hl ⊢
  have hl : lv_has ls 1 [(0, .ref aK)] := hl
  refine va_gets hx hb hK.1 va_S.rf hown (hts _ (List.mem_of_getElem? (i := 1) rfl)) (fun _ h => h) dJ0_coder_7d493_0 ?_
  refine lv_if_eq (tgt := 13) hx hb dJ0_coder_7d493_3 (by decide) (fun q => absurd q (by decide)) (fun _ => ?_)
  refine lv_aload_n hx hb dJ0_coder_7d493_6 rfl (lv_at hl 0 rfl) ?_
  refine vk_getf hx hb (hK.2.2.1 0 (by decide)).2.1 va_S.rf hown (hts _ (List.mem_of_getElem? (i := 2) rfl)) (fun _ h => h) dJ0_coder_7d493_7 ?_
  refine lv_goto (tgt := 14) hx hb dJ0_coder_7d493_10 (by decide) ?_
  exact W.zret (ty := .byte) hx hb hr rfl (fun t ht hW => ⟨rfl, ht⟩) (fun q h => by cases h) dJ0_coder_7d493_14
set_option maxHeartbeats 4000000 in
set_option maxRecDepth 100000 in
theorem j_isLatin1 (l : Launch) (aK aW : Nat) : sMet l yJ0_isLatin1_aae02 wsJ0_isLatin1_aae02 (rmS 0 0) [.ref aK] aK aW (some (.int 1)) := by
  refine va_MetF (cc := cJ0_isLatin1_aae02) (maxL := 1) (ret := some .boolean) (by decide +kernel) rfl ?_
  intro p e s m args below meth c s₁ B hml hv
  obtain ⟨rfl, hK⟩ := hv
  have hx := B.exec
  have hb := B.bytes
  have hr := B.returns
  have hts := atoms_spec (ws := wsJ0_isLatin1_aae02) B.pre
  have hown : s.vm.findClass RJ0 = some m.cls := findClass_of_methodNamed B.named
  have hlocks := B.notSynchronized
  have hl := lv_entry ([.ref aK]) (n := 1) (Nat.le_of_ble_eq_true rfl)
  rw [lg_entry_eq]
  generalize (lg_sl ([.ref aK]) ++ List.replicate (1 - (lg_sl ([.ref aK])).length) Slot.unset).toArray = ls at hl ⊢
  have hl : lv_has ls 1 [(0, .ref aK)] := hl
  refine va_gets hx hb hK.1 va_S.rf hown (hts _ (List.mem_of_getElem? (i := 1) rfl)) (fun _ h => h) dJ0_isLatin1_aae02_0 ?_
  refine lv_if_eq (tgt := 17) hx hb dJ0_isLatin1_aae02_3 (by decide) (fun q => absurd q (by decide)) (fun _ => ?_)
  refine lv_aload_n hx hb dJ0_isLatin1_aae02_6 rfl (lv_at hl 0 rfl) ?_
  refine vk_getf hx hb (hK.2.2.1 0 (by decide)).2.1 va_S.rf hown (hts _ (List.mem_of_getElem? (i := 2) rfl)) (fun _ h => h) dJ0_isLatin1_aae02_7 ?_
  refine lv_if_ne (tgt := 17) hx hb dJ0_isLatin1_aae02_10 (by decide) (fun q => absurd rfl q) (fun _ => ?_)
  refine lv_iconst (v := 1) hx hb dJ0_isLatin1_aae02_13 (by decide) ?_
  refine lv_goto (tgt := 18) hx hb dJ0_isLatin1_aae02_14 (by decide) ?_
  exact W.zret (ty := .boolean) hx hb hr rfl (fun t ht hW => ⟨rfl, ht⟩) (fun q h => by cases h) dJ0_isLatin1_aae02_18
set_option maxHeartbeats 4000000 in
set_option maxRecDepth 100000 in
theorem j_length (l : Launch) (aK aW : Nat) : sMet l yJ0_length_8abf5 wsJ0_length_8abf5 (rmS 1 20) [.ref aK] aK aW (some (.int 80)) := by
  refine va_MetF (cc := cJ0_length_8abf5) (maxL := 1) (ret := some .int) (by decide +kernel) rfl ?_
  intro p e s m args below meth c s₁ B hml hv
  obtain ⟨rfl, hK⟩ := hv
  have hx := B.exec
  have hb := B.bytes
  have hr := B.returns
  have hts := atoms_spec (ws := wsJ0_length_8abf5) B.pre
  have hown : s.vm.findClass RJ0 = some m.cls := findClass_of_methodNamed B.named
  have hlocks := B.notSynchronized
  have hl := lv_entry ([.ref aK]) (n := 1) (Nat.le_of_ble_eq_true rfl)
  rw [lg_entry_eq]
  generalize (lg_sl ([.ref aK]) ++ List.replicate (1 - (lg_sl ([.ref aK])).length) Slot.unset).toArray = ls at hl ⊢
  have hl : lv_has ls 1 [(0, .ref aK)] := hl
  refine lv_aload_n hx hb dJ0_length_8abf5_0 rfl (lv_at hl 0 rfl) ?_
  refine vk_getf hx hb (hK.2.2.1 0 (by decide)).2.2.1 va_S.rf hown (hts _ (List.mem_of_getElem? (i := 1) rfl)) (fun _ h => h) dJ0_length_8abf5_1 ?_
  refine va_tlen (v := 80) hx hb (hK.2.2.1 0 (by decide)).2.2.2 va_S.rf rfl dJ0_length_8abf5_4 ?_
  refine lv_aload_n hx hb dJ0_length_8abf5_5 rfl (lv_at hl 0 rfl) ?_
  refine s_call (va_runV (As := []) (rest := [.int 80]) ⟨hx, hb, hml, hown, hts⟩ (j_coder l aK aW) (cwV 0 hts gJ0_length_8abf5_J0_coder_7d493 rfl rfl rfl (by decide +kernel) ⟨Nat.le_of_ble_eq_true rfl, Nat.le_of_ble_eq_true rfl⟩) ⟨sBlind, vk_recv (i := 0) hK.2.2 (by decide) va_S.rf, fun U hU hW => ⟨rfl, hK.moved hW.alike hU⟩⟩ rfl rfl hl.1 rfl (lv_room (Nat.le_of_ble_eq_true rfl)) dJ0_length_8abf5_6 ⟨Nat.le_refl _, Nat.le_refl _⟩) ?_
  refine lv_ishr hx hb dJ0_length_8abf5_9 ?_
  have e9 : (80 : Int32) >>> ((0 : Int32) &&& 31) = 80 := by decide
  rw [e9]
  exact W.iret hx hb hr (fun t ht hW => ⟨rfl, ht⟩) (fun q h => by cases h) dJ0_length_8abf5_10
set_option maxHeartbeats 4000000 in
set_option maxRecDepth 100000 in
theorem j_check3 (l : Launch) (aK aW : Nat) (i n : Int32) (v : Value) (hv9 : v = .null ∨ ∃ t, v = .ref t) (h0 : ¬ i < 0) (h1 : i < n) : sMet l yJ3_checkIndex_8e157 wsJ3_checkIndex_8e157 (rmS 0 0) [.int i, .int n, v] aK aW (some (.int i)) := by
  refine va_MetF (cc := cJ3_checkIndex_8e157) (maxL := 3) (ret := some .int) (by decide +kernel) rfl ?_
  intro p e s m args below meth c s₁ B hml hv
  obtain ⟨rfl, hK⟩ := hv
  have hx := B.exec
  have hb := B.bytes
  have hr := B.returns
  have hlocks := B.notSynchronized
  have hl := lv_entry ([.int i, .int n, v]) (n := 3) (by rcases hv9 with rfl | ⟨t, rfl⟩ <;> exact Nat.le_of_ble_eq_true rfl)
  rw [lg_entry_eq]
  generalize (lg_sl ([.int i, .int n, v]) ++ List.replicate (3 - (lg_sl ([.int i, .int n, v])).length) Slot.unset).toArray = ls at hl ⊢
  have hl : lv_has ls 3 [(0, .int i), (1, .int n), (2, v)] := hl
  refine lv_iload_n hx hb dJ3_checkIndex_8e157_0 rfl (lv_at hl 0 rfl) ?_
  refine lv_if_lt (tgt := 9) hx hb dJ3_checkIndex_8e157_1 (by decide) (fun q => absurd q h0) (fun _ => ?_)
  refine lv_iload_n hx hb dJ3_checkIndex_8e157_4 rfl (lv_at hl 0 rfl) ?_
  refine lv_iload_n hx hb dJ3_checkIndex_8e157_5 rfl (lv_at hl 1 rfl) ?_
  refine lv_icmp_lt (tgt := 16) hx hb dJ3_checkIndex_8e157_6 (by decide) (fun _ => ?_) (fun q => absurd h1 q)
  refine lv_iload_n hx hb dJ3_checkIndex_8e157_16 rfl (lv_at hl 0 rfl) ?_
  exact W.iret hx hb hr (fun t ht hW => ⟨rfl, ht⟩) (fun q h => by cases h) dJ3_checkIndex_8e157_17
set_option maxHeartbeats 4000000 in
set_option maxRecDepth 100000 in
theorem j_check0 (l : Launch) (aK aW : Nat) (i n : Int32) (h0 : ¬ i < 0) (h1 : i < n) : sMet l yJ0_checkIndex_df160 wsJ0_checkIndex_df160 (rmS 1 22) [.int i, .int n] aK aW none := by
  refine va_MetF (cc := cJ0_checkIndex_df160) (maxL := 2) (ret := none) (by decide +kernel) rfl ?_
  intro p e s m args below meth c s₁ B hml hv
  obtain ⟨rfl, hK⟩ := hv
  have hx := B.exec
  have hb := B.bytes
  have hr := B.returns
  have hts := atoms_spec (ws := wsJ0_checkIndex_df160) B.pre
  have hown : s.vm.findClass RJ0 = some m.cls := findClass_of_methodNamed B.named
  have hlocks := B.notSynchronized
  have hl := lv_entry ([.int i, .int n]) (n := 2) (Nat.le_of_ble_eq_true rfl)
  rw [lg_entry_eq]
  generalize (lg_sl ([.int i, .int n]) ++ List.replicate (2 - (lg_sl ([.int i, .int n])).length) Slot.unset).toArray = ls at hl ⊢
  have hl : lv_has ls 2 [(0, .int i), (1, .int n)] := hl
  have hq : ∃ v : Value, (v = .null ∨ ∃ t, v = .ref t) ∧ va_Z "jdk/internal/util/Preconditions" "SIOOBE_FORMATTER" "Ljava/util/function/BiFunction;" v nA s s.heap := by
    rcases hK.2.1 with h | ⟨t, h⟩
    · exact ⟨_, Or.inl rfl, h⟩
    · exact ⟨_, Or.inr ⟨t, rfl⟩, h⟩
  obtain ⟨v, hv9, hZ⟩ := hq
  refine lv_iload_n hx hb dJ0_checkIndex_df160_0 rfl (lv_at hl 0 rfl) ?_
  refine lv_iload_n hx hb dJ0_checkIndex_df160_1 rfl (lv_at hl 1 rfl) ?_
  refine va_gets hx hb hZ va_S.rf hown (hts _ (List.mem_of_getElem? (i := 1) rfl)) (fun _ h => h) dJ0_checkIndex_df160_2 ?_
  refine s_call (va_runS (As := [.int i, .int n, v]) (rest := []) ⟨hx, hb, hml, hown, hts⟩ (j_check3 l aK aW i n v hv9 h0 h1) (va_cwS 3 hts gJ0_checkIndex_df160_J3_checkIndex_8e157 rfl rfl rfl (by decide +kernel) ⟨Nat.le_of_ble_eq_true rfl, Nat.le_of_ble_eq_true rfl⟩) ⟨sBlind, fun U hU hW => ⟨rfl, hK.moved hW.alike hU⟩⟩ rfl rfl hl.1 rfl (lv_room (Nat.le_of_ble_eq_true rfl)) dJ0_checkIndex_df160_5 ⟨Nat.le_refl _, Nat.le_refl _⟩) ?_
  refine lv_pop hx hb dJ0_checkIndex_df160_8 rfl ?_
  exact W.vret hx hb hr (fun t ht hW => ⟨rfl, ht⟩) (fun q h => by cases h) dJ0_checkIndex_df160_9
theorem js_all : ∀ k : Nat, k < 80 → ((jsB.getD k 0 &&& 255).toUInt32 % 65536).toInt32 = jsB.getD k 0 ∧ (jsB.getD k 0).toUInt32.toUInt16.toUInt32.toInt32 = jsB.getD k 0 := by
  intro k hk
  have h : (List.range 80).all (fun k => decide (((jsB.getD k 0 &&& 255).toUInt32 % 65536).toInt32 = jsB.getD k 0) && decide ((jsB.getD k 0).toUInt32.toUInt16.toUInt32.toInt32 = jsB.getD k 0)) = true := by decide +kernel
  have h2 := List.all_eq_true.mp h k (List.mem_range.mpr hk)
  rw [Bool.and_eq_true] at h2
  exact ⟨of_decide_eq_true h2.1, of_decide_eq_true h2.2⟩
set_option maxHeartbeats 4000000 in
set_option maxRecDepth 100000 in
theorem j_charAt1 (l : Launch) (aK aW : Nat) (k : Nat) (hk : k < 80) : sMet l yJ1_charAt_3b067 wsJ1_charAt_3b067 (rmS 2 44) [.ref aW, .int (nI k)] aK aW (some (.int (jsB.getD k 0))) := by
  refine va_MetF (cc := cJ1_charAt_3b067) (maxL := 2) (ret := some .char) (by decide +kernel) rfl ?_
  intro p e s m args below meth c s₁ B hml hv
  obtain ⟨rfl, hK⟩ := hv
  have hx := B.exec
  have hb := B.bytes
  have hr := B.returns
  have hts := atoms_spec (ws := wsJ1_charAt_3b067) B.pre
  have hown : s.vm.findClass RJ1 = some m.cls := findClass_of_methodNamed B.named
  have hlocks := B.notSynchronized
  have hl := lv_entry ([.ref aW, .int (nI k)]) (n := 2) (Nat.le_of_ble_eq_true rfl)
  rw [lg_entry_eq]
  generalize (lg_sl ([.ref aW, .int (nI k)]) ++ List.replicate (2 - (lg_sl ([.ref aW, .int (nI k)])).length) Slot.unset).toArray = ls at hl ⊢
  have hl : lv_has ls 2 [(0, .ref aW), (1, .int (nI k))] := hl
  have hT := (hK.2.2.1 0 (by decide)).2.2.2
  refine lv_iload_n hx hb dJ1_charAt_3b067_0 rfl (lv_at hl 1 rfl) ?_
  refine lv_aload_n hx hb dJ1_charAt_3b067_1 rfl (lv_at hl 0 rfl) ?_
  refine va_tlen (v := 80) hx hb hT va_S.rf rfl dJ1_charAt_3b067_2 ?_
  refine s_call (va_runS (As := [.int (nI k), .int 80]) (rest := []) ⟨hx, hb, hml, hown, hts⟩ (j_check0 l aK aW (nI k) 80 (nI_pos (by omega)) (nI_lt (b := 80) hk (by decide))) (va_cwS 2 hts gJ1_charAt_3b067_J0_checkIndex_df160 rfl rfl rfl (by decide +kernel) ⟨Nat.le_of_ble_eq_true rfl, Nat.le_of_ble_eq_true rfl⟩) ⟨sBlind, fun U hU hW => ⟨rfl, hK.moved hW.alike hU⟩⟩ rfl rfl hl.1 rfl (lv_room (Nat.le_of_ble_eq_true rfl)) dJ1_charAt_3b067_3 ⟨Nat.le_refl _, Nat.le_refl _⟩) ?_
  refine lv_aload_n hx hb dJ1_charAt_3b067_6 rfl (lv_at hl 0 rfl) ?_
  refine lv_iload_n hx hb dJ1_charAt_3b067_7 rfl (lv_at hl 1 rfl) ?_
  refine va_tb (v := .int (jsB.getD k 0)) hx hb hT va_S.rf (vp_in_nI (show k < 80 from hk) (by decide)) (by rw [nI_clamp (by omega)]; rfl) dJ1_charAt_3b067_8 ?_
  refine lv_sipush (v := 255) hx hb dJ1_charAt_3b067_9 (by decide) ?_
  refine lv_iand hx hb dJ1_charAt_3b067_12 ?_
  refine lv_i2c hx hb dJ1_charAt_3b067_13 rfl ?_
  rw [(js_all k hk).1]
  exact W.zret (ty := .char) hx hb hr (by show Value.int (jsB.getD k 0).toUInt32.toUInt16.toUInt32.toInt32 = _; rw [(js_all k hk).2]) (fun t ht hW => ⟨rfl, ht⟩) (fun q h => by cases h) dJ1_charAt_3b067_14
set_option maxHeartbeats 4000000 in
set_option maxRecDepth 100000 in
theorem j_charAt (l : Launch) (aK aW : Nat) (k : Nat) (hk : k < 80) : sMet l yJ0_charAt_5068e wsJ0_charAt_5068e (rmS 3 66) [.ref aK, .int (nI k)] aK aW (some (.int (jsB.getD k 0))) := by
  refine va_MetF (cc := cJ0_charAt_5068e) (maxL := 2) (ret := some .char) (by decide +kernel) rfl ?_
  intro p e s m args below meth c s₁ B hml hv
  obtain ⟨rfl, hK⟩ := hv
  have hx := B.exec
  have hb := B.bytes
  have hr := B.returns
  have hts := atoms_spec (ws := wsJ0_charAt_5068e) B.pre
  have hown : s.vm.findClass RJ0 = some m.cls := findClass_of_methodNamed B.named
  have hlocks := B.notSynchronized
  have hl := lv_entry ([.ref aK, .int (nI k)]) (n := 2) (Nat.le_of_ble_eq_true rfl)
  rw [lg_entry_eq]
  generalize (lg_sl ([.ref aK, .int (nI k)]) ++ List.replicate (2 - (lg_sl ([.ref aK, .int (nI k)])).length) Slot.unset).toArray = ls at hl ⊢
  have hl : lv_has ls 2 [(0, .ref aK), (1, .int (nI k))] := hl
  refine lv_aload_n hx hb dJ0_charAt_5068e_0 rfl (lv_at hl 0 rfl) ?_
  refine s_call (va_runV (As := []) (rest := []) ⟨hx, hb, hml, hown, hts⟩ (j_isLatin1 l aK aW) (cwV 0 hts gJ0_charAt_5068e_J0_isLatin1_aae02 rfl rfl rfl (by decide +kernel) ⟨Nat.le_of_ble_eq_true rfl, Nat.le_of_ble_eq_true rfl⟩) ⟨sBlind, vk_recv (i := 0) hK.2.2 (by decide) va_S.rf, fun U hU hW => ⟨rfl, hK.moved hW.alike hU⟩⟩ rfl rfl hl.1 rfl (lv_room (Nat.le_of_ble_eq_true rfl)) dJ0_charAt_5068e_1 ⟨Nat.le_refl _, Nat.le_refl _⟩) ?_
  refine lv_if_eq (tgt := 16) hx hb dJ0_charAt_5068e_4 (by decide) (fun q => absurd q (by decide)) (fun _ => ?_)
  refine lv_aload_n hx hb dJ0_charAt_5068e_7 rfl (lv_at hl 0 rfl) ?_
  refine vk_getf hx hb (hK.2.2.1 0 (by decide)).2.2.1 va_S.rf hown (hts _ (List.mem_of_getElem? (i := 1) rfl)) (fun _ h => h) dJ0_charAt_5068e_8 ?_
  refine lv_iload_n hx hb dJ0_charAt_5068e_11 rfl (lv_at hl 1 rfl) ?_
  refine s_call (va_runS (As := [.ref aW, .int (nI k)]) (rest := []) ⟨hx, hb, hml, hown, hts⟩ (j_charAt1 l aK aW k hk) (va_cwS 2 hts gJ0_charAt_5068e_J1_charAt_3b067 rfl rfl rfl (by decide +kernel) ⟨Nat.le_of_ble_eq_true rfl, Nat.le_of_ble_eq_true rfl⟩) ⟨sBlind, fun U hU hW => ⟨rfl, hK.moved hW.alike hU⟩⟩ rfl rfl hl.1 rfl (lv_room (Nat.le_of_ble_eq_true rfl)) dJ0_charAt_5068e_12 ⟨Nat.le_refl _, Nat.le_refl _⟩) ?_
  exact W.zret (ty := .char) hx hb hr (by show Value.int (jsB.getD k 0).toUInt32.toUInt16.toUInt32.toInt32 = _; rw [(js_all k hk).2]) (fun t ht hW => ⟨rfl, ht⟩) (fun q h => by cases h) dJ0_charAt_5068e_15
section ST
variable {x : aC} {rm : Room} {sh : aSh} {pc : Nat} {L : List (Nat × AV)} {st : List AV} {σ : Hp}
theorem sK_of {aK aW : Nat} {U : State} {H : Heap} {locs : List Loc} (hS : va_S (xA x) (xH x) H locs) (h1 : va_Z "java/lang/String" "COMPACT_STRINGS" "Z" (.int 1) (xA x) (xs x) (xH x)) (h2 : va_Zq "jdk/internal/util/Preconditions" "SIOOBE_FORMATTER" "Ljava/util/function/BiFunction;" (xA x) (xs x) (xH x)) (h3 : vk_S 1 [80] [jsB] (fun _ => aK) (fun _ => aW) (xA x) (xs x) (xH x)) (hU : U.heap = H) (hW : (xs x).WarmedH U.vm) : sK aK aW U := by
  unfold sK
  rw [hU]
  exact ⟨((h1.kept hS.2.1).narrow (fun _ h => h.elim)).moved hW.alike, ((h2.kept hS.2.1).narrow (fun _ h => h.elim)).moved hW.alike, ((h3.kept hS.2.1).narrow (fun _ h => h.elim)).moved hW.alike⟩
theorem A_strlen (X : aX x cX9_kindOfWord wsX9_kindOfWord RX9 5 rm) (hrm : 2 ≤ rm.frames ∧ 60 ≤ rm.locals) (hcat : aCat st ≤ 8) (hd1 : decode cX9_kindOfWord pc = .ok (.ldc 84, 2)) (hd2 : decode cX9_kindOfWord (pc + 2) = .ok (.invokevirtual 86, 3)) (kk : aS x sh 5 (pc + 5) L (vI 80 :: st) σ) : aS x sh 5 pc L st σ := fun H locs ls cst hH hS hL hV => by
  obtain ⟨-, aK, aW, h1, h2, h3, h4⟩ := X.2.2.2.2.2.2.2.2.2.2
  obtain ⟨l9, hl1, -⟩ := id hL
  have hRm : xR x = rm := X.2.2.2.2.2.2.2.1
  refine va_ldcS X.1 X.2.1 X.2.2.2.1 h3 hd1 ?_
  obtain ⟨cell, g1, g2, g3, -⟩ := (h4.1 0 (by decide)).1.kept hS.2.1
  refine s_call (v := some (.int 80)) (va_runV (As := []) (rest := cst) ⟨X.1, X.2.1, X.2.2.1, X.2.2.2.1, X.2.2.2.2.1⟩ (j_length (xl x) aK aW) (cwV 0 X.2.2.2.2.1 gX9_kindOfWord_J0_length_8abf5 rfl rfl rfl (by decide +kernel) (by rw [hRm]; exact ⟨hrm.1, Nat.le_trans (Nat.le_of_ble_eq_true rfl) hrm.2⟩)) ⟨sBlind, ⟨cell, g1, g2, g3⟩, fun U hU hW => ⟨rfl, sK_of hS h1 h2 h4 hU hW⟩⟩ rfl rfl hl1.1 rfl (lv_room (by rw [aV_cat hV]; exact hcat)) hd2 (by rw [hRm]; exact ⟨X.2.2.2.2.2.2.2.2.1, X.2.2.2.2.2.2.2.2.2.1⟩)) ?_
  exact kk H locs ls _ hH hS hL ⟨⟨_, rfl, by decide⟩, hV⟩
theorem A_strat (X : aX x cX9_kindOfWord wsX9_kindOfWord RX9 5 rm) (hrm : 4 ≤ rm.frames ∧ 100 ≤ rm.locals) (hcat : aCat st ≤ 8) {z : Int} (j : Nat) (hj : L[j]? = some (3, vI z)) (hz : 0 ≤ z ∧ z < 80) (hd1 : decode cX9_kindOfWord pc = .ok (.ldc 84, 2)) (hd3 : decode cX9_kindOfWord (pc + 2) = .ok (.iload_n 3, 1)) (hd2 : decode cX9_kindOfWord (pc + 2 + 1) = .ok (.invokevirtual 91, 3)) (kk : aS x sh 5 (pc + 6) L (vI (jsAt z) :: st) σ) : aS x sh 5 pc L st σ := fun H locs ls cst hH hS hL hV => by
  obtain ⟨-, aK, aW, h1, h2, h3, h4⟩ := X.2.2.2.2.2.2.2.2.2.2
  obtain ⟨l9, hl1, hp⟩ := id hL
  obtain ⟨v, e1, y, rfl, e3⟩ := aP_get hp hj
  have hRm : xR x = rm := X.2.2.2.2.2.2.2.1
  have hy : y = nI z.toNat := by
    apply Int32.toInt_inj.mp
    have e4 : y.toInt = z := e3
    rw [nI_toInt (by omega), e4]
    omega
  subst hy
  have hk : z.toNat < 80 := by omega
  refine va_ldcS X.1 X.2.1 X.2.2.2.1 h3 hd1 ?_
  refine lv_iload_n X.1 X.2.1 hd3 rfl (lv_at hl1 j e1) ?_
  obtain ⟨cell, g1, g2, g3, -⟩ := (h4.1 0 (by decide)).1.kept hS.2.1
  refine s_call (v := some (.int (jsB.getD z.toNat 0))) (va_runV (As := [.int (nI z.toNat)]) (rest := cst) ⟨X.1, X.2.1, X.2.2.1, X.2.2.2.1, X.2.2.2.2.1⟩ (j_charAt (xl x) aK aW z.toNat hk) (cwV 1 X.2.2.2.2.1 gX9_kindOfWord_J0_charAt_5068e rfl rfl rfl (by decide +kernel) (by rw [hRm]; exact ⟨hrm.1, Nat.le_trans (Nat.le_of_ble_eq_true rfl) hrm.2⟩)) ⟨sBlind, ⟨cell, g1, g2, g3⟩, fun U hU hW => ⟨rfl, sK_of hS h1 h2 h4 hU hW⟩⟩ rfl rfl hl1.1 rfl (lv_room (by rw [aV_cat hV]; exact hcat)) hd2 (by rw [hRm]; exact ⟨X.2.2.2.2.2.2.2.2.1, X.2.2.2.2.2.2.2.2.2.1⟩)) ?_
  exact kk H locs ls _ hH hS hL ⟨⟨_, rfl, rfl⟩, hV⟩
end ST

