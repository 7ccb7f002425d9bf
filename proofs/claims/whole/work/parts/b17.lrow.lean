/-! THE LAW: a world of two parts (the class's, the check's behind it), the script, the rows of the law's body -/
def gsh (g : aG) (n : Nat) : aG := (g.1, g.2.1, fun j => g.2.2 (n + j))
def hjoin (n : Nat) (σ τ : Hp) : Hp := fun q => if q < n then σ q else τ (q - n)
def okK (x : aK) : Bool := x.1 != 104 && x.2.2.all (fun y => decide (y.1 ≤ 2) || y.1 == 5)
theorem fvals_sh {g : aG} {n q : Nat} {f : Nat → Int} : ∀ {fl : List (Nat × Nat)} {j : Nat}, fl.all (fun y => decide (y.1 ≤ 2) || y.1 == 5) = true → fvals g.2.2 (n + q) f j fl = fvals (gsh g n).2.2 q f j fl
  | [], j, _ => rfl
  | y :: r, j, h => by
    rw [List.all_cons, Bool.and_eq_true] at h
    show fval g.2.2 (n + q) y.1 y.2 (f j) :: fvals g.2.2 (n + q) f (j + 1) r = fval (gsh g n).2.2 q y.1 y.2 (f j) :: fvals (gsh g n).2.2 q f (j + 1) r
    rw [fvals_sh h.2]
    congr 1
    obtain ⟨a, b⟩ := y
    have h1 := h.1
    match a, h1 with
    | 0, _ => rfl
    | 1, _ => rfl
    | 2, _ =>
      show Value.ref (g.2.2 (n + q + b)) = Value.ref (g.2.2 (n + (q + b)))
      rw [Nat.add_assoc]
    | 5, _ => rfl
    | 3, h1 =>
      exfalso
      simp at h1
    | 4, h1 =>
      exfalso
      simp at h1
    | a + 6, h1 =>
      exfalso
      simp at h1
theorem wcell_sh {g : aG} {n q : Nat} {x : aK} {f : Nat → Int} (h : okK x = true) : wcell g (n + q) x f = wcell (gsh g n) q x f := by
  unfold okK at h
  rw [Bool.and_eq_true] at h
  obtain ⟨h1, h2⟩ := h
  have h1 : ¬ x.1 = 104 := by simpa using h1
  unfold wcell
  rw [if_neg h1, if_neg h1, fvals_sh h2]
  rfl
theorem wl_join {g : aG} {shA shB : aSh} {σ τ : Hp} (hok : shB.all okK = true) : wl g (shA ++ shB) (hjoin shA.length σ τ) = wl g shA σ ++ wl (gsh g shA.length) shB τ := by
  apply List.ext_getElem?
  intro k
  by_cases h : k < shA.length
  · rw [List.getElem?_append_left (by rw [wl_len]; exact h)]
    unfold wl
    rw [List.getElem?_mapIdx, List.getElem?_mapIdx, List.getElem?_append_left h]
    unfold hjoin
    rw [if_pos h]
  · rw [List.getElem?_append_right (by rw [wl_len]; omega), wl_len]
    unfold wl
    rw [List.getElem?_mapIdx, List.getElem?_mapIdx, List.getElem?_append_right (by omega)]
    cases e : shB[k - shA.length]? with
    | none => rfl
    | some x =>
      have hx : okK x = true := List.all_eq_true.mp hok x (List.mem_of_getElem? e)
      have hk : k = shA.length + (k - shA.length) := by omega
      show some (g.2.2 k, wcell g k x (hjoin shA.length σ τ k)) = some ((gsh g shA.length).2.2 (k - shA.length), wcell (gsh g shA.length) (k - shA.length) x (τ (k - shA.length)))
      have e1 : hjoin shA.length σ τ k = τ (k - shA.length) := if_neg h
      rw [e1, ← wcell_sh hx, ← hk]
      show _ = some (g.2.2 (shA.length + (k - shA.length)), _)
      rw [← hk]
theorem wr_join {shA shB : aSh} {σ τ : Hp} (h1 : wr shA σ) (h2 : wr shB τ) : wr (shA ++ shB) (hjoin shA.length σ τ) := by
  intro q i
  unfold hjoin
  by_cases h : q < shA.length
  · rw [if_pos h]
    have := h1 q i
    unfold isL at this ⊢
    rw [List.getElem?_append_left h]
    exact this
  · rw [if_neg h]
    have := h2 (q - shA.length) i
    unfold isL at this ⊢
    rw [List.getElem?_append_right (by omega)]
    exact this
/-- what holds all along the law -/
def lX (x : aC) (cc : ByteArray) (Ts : List Cond) (own : String) (nL : Nat) (rm : Room) (base b Lc : Nat) (xr : Nat → Int32) (k w : Nat) : Prop :=
  aX x cc Ts own nL rm ∧ (xQ x = lw_Z (xbelow x) #[Value.ref b] (xs x) ∧ (xmeth x).sig.returnType = ret ∧ (xmeth x).locks = false ∧ xH x = (xs x).heap) ∧ (va_X b Lc xr (xs x) (xs x).heap ∧ b < base ∧ xA x = (fun q => base ≤ q) ∧ xargs x = #[Value.ref b]) ∧ (∀ j, (xg x).2.2 j = base + j) ∧ (xs x).heap.size = base ∧ xk x = k ∧ xw x = w
section LL
variable {x : aC} {cc : ByteArray} {Ts : List Cond} {own : String} {nL : Nat} {rm : Room} {sh shP shB : aSh} {pc : Nat} {L : List (Nat × AV)} {st : List AV} {σ τ : Hp} {base b Lc : Nat} {xr : Nat → Int32} {k w : Nat}
theorem lX.up (B : lX x cc Ts own nL rm base b Lc xr k w) {c s : Nat} (hc : k + c ≤ rm.cells) (hs : w + s ≤ rm.slots) : lX (xup x c s) cc Ts own nL rm base b Lc xr (k + c) (w + s) := by
  obtain ⟨X, E, h1, h2, h3, h4, h5⟩ := B
  obtain ⟨a1, a2, a3, a4, a5, a6, a7, a8, a9, a10, a11⟩ := X
  exact ⟨⟨a1, a2, a3, a4, a5, a6, a7, a8, by show xk x + c ≤ _; rw [h4]; exact hc, by show xw x + s ≤ _; rw [h5]; exact hs, a11⟩, E, h1, h2, h3, by show xk x + c = _; rw [h4], by show xw x + s = _; rw [h5]⟩
theorem lX.A (B : lX x cc Ts own nL rm base b Lc xr k w) (j : Nat) : xA x (base + j) := by
  rw [B.2.2.1.2.2.1]
  show base ≤ base + j
  omega
theorem lX.size (B : lX x cc Ts own nL rm base b Lc xr k w) {H : Heap} {locs : List Loc} (hn : sh.length = k) (hH : hR x sh σ H) (hS : va_S (xA x) (xH x) H locs) {T : State} (hT : T.heap = H) (Xs : Stand (xp x) (xl x) (xe x) (xR x) (xs x) (xm x) (xargs x) (xbelow x) (xmeth x) (xc x) T locs (xk x) (xw x)) : H.size = base + sh.length := by
  have h1 : T.heap.size ≤ (xs x).heap.size + xk x := Xs.same.2.2.1
  have e5 : (xs x).heap.size = base := B.2.2.2.2.1
  have e6 : xk x = k := B.2.2.2.2.2.1
  rw [hT, e5, e6] at h1
  by_cases h0 : sh.length = 0
  · have h2 := hS.1
    have e4 : xH x = (xs x).heap := B.2.1.2.2.2
    rw [e4, e5] at h2
    omega
  · have e : sh[sh.length - 1]? = some sh[sh.length - 1] := List.getElem?_eq_getElem (by omega)
    have h2 := (hH.1 _ _ (wl_get (g := xg x) (σ := σ) e)).lt
    have h2 : (xg x).2.2 (sh.length - 1) < H.size := h2
    rw [B.2.2.2.1] at h2
    omega
theorem L_new (B : lX x cc Ts own nL rm base b Lc xr k w) {C : String} {T : u_T} {N ci idx : Nat} {ty : Nat → FieldType} {fl : List (Nat × Nat)} (hc : vwCl[ci]? = some (C, T, N)) (hci : ci < 100) (hin : ∀ v ∈ u_ws C T N, v ∈ Ts) (hty : ∀ k, k < N → parseFieldDescriptor (T k).2.2.1 = some (ty k)) (h1 : Cond.classLink own idx C ∈ Ts) (h2 : Cond.instantiable C N ∈ Ts) (h3 : Cond.initialized C ∈ Ts) (hfl : ∀ (ad : Nat → Nat) (q j : Nat), j < N → defaultValue (ty j) = vp_V (fvals ad q (fun _ => 0) 0 fl) j) (hn : sh.length = k) (hrc : k + 1 ≤ rm.cells) (hrs : w + N ≤ rm.slots) (hd : decode cc pc = .ok (.new idx, 3))
    (kk : ∀ x', xl x' = xl x → xg x' = xg x → lX x' cc Ts own nL rm base b Lc xr (k + 1) (w + N) → aS x' (sh ++ [(ci, 0, fl)]) nL (pc + 3) L (vR sh.length :: st) (zrow σ sh.length)) : aS x sh nL pc L st σ := by
  intro H locs ls cst hH hS hL hV T2 hT Xs
  have hsz := B.size hn hH hS hT Xs
  have hts := B.1.2.2.2.2.1
  have hKn := B.1.2.2.2.2.2.1.1 ci _ hc
  have hRm : xR x = rm := B.1.2.2.2.2.2.2.2.1
  have hW : W (xp x) (xl x) (xe x) (xR x) (xs x) (xm x) (xargs x) (xbelow x) (xmeth x) (xc x) H locs (xk x) (xw x) (xQ x) (F0 (xm x) pc ls cst) := by
    refine W.newcK B.1.1 B.1.2.1 B.1.2.2.2.1 (hts _ h1) (hts _ h2) (hts _ h3) rfl hd (by rw [hRm, B.2.2.2.2.2.1]; exact hrc) (by rw [hRm, B.2.2.2.2.2.2]; exact hrs) hKn.2.1 rfl (fun H1 kC hkC e1 z1 o1 => ?_)
    have hk : ∀ (k : Nat) (y : Nat × va_E), (wl (xg x) sh σ)[k]? = some y → H1[y.1]? = H[y.1]? := fun k y hy => o1 y.1 ((hH.1 k y hy).lt)
    have hlin := B.2.2.2.1
    have had : (xg x).2.2 sh.length = H.size := by rw [hlin, hsz]
    have hP1 : va_P (xg x).1 vwCl (wl (xg x) (sh ++ [(ci, 0, fl)]) (zrow σ sh.length)) H1 := by
      rw [wl_push (σ := σ) (fun q h => zrow_old h), zrow_new, wcell_o _ _ _ _ _ _ hci]
      refine (hH.1.kept hk).app (fun j y hy => ?_)
      have hz : j < 1 := (List.getElem?_eq_some_iff.mp hy).1
      rw [show j = 0 by omega] at hy
      cases hy
      show ∃ r : vw_C, _ ∧ _
      rw [had]
      exact ⟨_, hc, (u_born ty hts hin hKn hkC e1 hty).to (fun j hj => hfl _ _ j hj)⟩
    exact aS_xup (kk (xup x 1 N) rfl rfl (B.up hrc hrs)) (H := H1) (locs := locs) (ls := ls) (cst := .ref H.size :: cst) ⟨hP1, linD hlin (fun j _ => B.A j), wr_push hH.2.2⟩ ⟨Nat.le_trans hS.1 (by omega), fun q g1 g2 => (o1 q (Nat.lt_of_lt_of_le g1 hS.1)).trans (hS.2.1 q g1 g2), hS.2.2⟩ hL ⟨by show Value.ref H.size = Value.ref ((xg x).2.2 sh.length); rw [had], hV⟩
  exact hW T2 hT Xs
/-- a constructor over the first part, alone -/
theorem L_callI (B : lX x cc Ts own nL rm base b Lc xr k w) {As : List AV} {σ' : Hp} {sh' : aSh} {maxL idx q na mc ms : Nat} {st0 : List AV} {y : MethodName} {bytes : ByteArray} {ws ws' : List Cond} {rmc : Room} (hM : bMet (xl x) (xg x) base sh y ws rmc (vR q :: As) σ mc ms sh' σ')
    (hG : GoodIn Ts ws) (hw : ws = Cond.code y bytes maxL none :: ws') (hrc : rmc.cells = mc ∧ rmc.slots = ms) (hini : Cond.initialized y.cls ∈ Ts) (hl : Cond.methodLink own idx y ∈ Ts) (hin : Cond.instanceMethod y ∈ Ts) (hy1 : y.name = "<init>") (hy : y.cls ≠ "java/lang/invoke/MethodHandle" ∧ y.cls ≠ "java/lang/invoke/VarHandle" ∧ (parseMethodDescriptor y.desc).map (fun d => d.parameters.length) = some na) (hna : As.length = na)
    (hR : rmc.frames + 1 ≤ rm.frames ∧ 8 + (maxL + 11) + rmc.locals ≤ rm.locals) (hn : sh.length = k) (hrm1 : k + mc ≤ rm.cells) (hrm2 : w + ms ≤ rm.slots) (hst : st0 = As.reverse ++ vR q :: st) (hcat : aCat st ≤ 8) (hd : decode cc pc = .ok (.invokespecial idx, 3))
    (kk : ∀ x', xl x' = xl x → xg x' = xg x → wr sh' σ' → lX x' cc Ts own nL rm base b Lc xr (k + mc) (w + ms) → aS x' sh' nL (pc + 3) L st σ') : aS x sh nL pc L st0 σ := by
  intro H locs ls cst hH hS hL hV T2 hT Xs
  subst hst
  have X := B.1
  have hRm : xR x = rm := X.2.2.2.2.2.2.2.1
  have hts := X.2.2.2.2.1
  have hsz := B.size hn hH hS hT Xs
  obtain ⟨c1, c2, rfl, hc1, hc2⟩ := aV_app _ hV
  obtain ⟨c3, rfl, hc3⟩ := aV_R hc2
  have hv : aV (xg x).2.2 c1.reverse As := by have := aV_rev hc1; rwa [List.reverse_reverse] at this
  obtain ⟨l, hl1, -⟩ := id hL
  have hA := aIn X hH hS
  have hpre : ∀ U : State, U.heap = H → (xs x).WarmedH U.vm → va_Pc (.ref ((xg x).2.2 q) :: c1.reverse) (fun U => U.heap.size = base + sh.length ∧ aPc (xg x) sh σ U) (Value.ref ((xg x).2.2 q) :: c1.reverse).toArray U := fun U hU hW => by
    have := aPre (vs := .ref ((xg x).2.2 q) :: c1.reverse) X hH hS U hU hW
    rw [hsz] at this
    exact this
  have hrun : va_Run (xp x) (xl x) (xe x) (xR x) (xs x) (xm x) (xargs x) (xbelow x) (xmeth x) (xc x) H locs (xk x) (xw x) mc ms (F0 (xm x) pc ls (c1 ++ Value.ref ((xg x).2.2 q) :: c3)) c3 (bQc (xg x) sh' σ' (va_A (wl (xg x) sh σ) (base + sh.length)) (Value.ref ((xg x).2.2 q) :: c1.reverse).toArray) (va_A (wl (xg x) sh σ) (base + sh.length)) :=
    va_runI (As := c1.reverse) (rest := c3) ⟨X.1, X.2.1, X.2.2.1, X.2.2.2.1, X.2.2.2.2.1⟩ (hM (.ref ((xg x).2.2 q) :: c1.reverse) ⟨rfl, hv⟩) (cwI na hts hG hw hrc.1 hrc.2 (hts _ hini) (hts _ hl) (hts _ hin) hy1 hy (by rw [hRm]; exact hR)) ⟨aBlind, hpre⟩ rfl (by rw [← hna]; exact aV_len hv) hl1.1 (by show c1 ++ _ = _; rw [List.reverse_reverse]) (lv_room (by rw [aV_cat hc3]; exact hcat)) hd (by rw [hRm, B.2.2.2.2.2.1, B.2.2.2.2.2.2]; exact ⟨hrm1, hrm2⟩)
  obtain ⟨v, st₀, t, T', Ls, h9, X', hLs, e1, e2, ⟨⟨hv9, hP, hwr⟩, hsz2, hk⟩, stp⟩ := hrun T2 hT Xs
  cases hv9
  rw [h9] at hsz2 hk
  rw [← hsz] at hk hLs
  obtain ⟨t2, a1, b1⟩ := kk (xup x mc ms) rfl rfl hwr (B.up hrm1 hrm2) T'.heap (locs ++ Ls) ls c3 ⟨by rw [e1]; exact hP, linD B.2.2.2.1 (fun j _ => B.A j), hwr⟩
    ⟨Nat.le_trans hS.1 (by rw [e1]; exact hsz2), fun q h1 h2 => by rw [e1, hk q (Nat.lt_of_lt_of_le h1 hS.1) (fun z => h2 (hA q z))]; exact hS.2.1 q h1 h2, fun q hq => by
      rcases List.mem_append.mp hq with h | h
      · exact hS.2.2 q h
      · exact hA _ (hLs q h)⟩ hL hc3 T' rfl X'
  exact ⟨t2, stp t2 a1, b1⟩
/-- the two parts of a joined world -/
theorem L_left {H : Heap} (B : lX x cc Ts own nL rm base b Lc xr k w) (hok : shB.all okK = true) (hw1 : wr shP σ) (hH : hR x (shP ++ shB) (hjoin shP.length σ τ) H) : hR x shP σ H := by
  have h := hH.1
  rw [wl_join hok] at h
  refine ⟨fun k q hk => h k q ?_, linD B.2.2.2.1 (fun j _ => B.A j), hw1⟩
  rw [List.getElem?_append_left (List.getElem?_eq_some_iff.mp hk).1]
  exact hk
theorem L_right {H : Heap} (hok : shB.all okK = true) (hH : hR x (shP ++ shB) (hjoin shP.length σ τ) H) : va_P (xg x).1 vwCl (wl (gsh (xg x) shP.length) shB τ) H := by
  have h := hH.1
  rw [wl_join hok] at h
  refine fun k q hk => h (k + (wl (xg x) shP σ).length) q ?_
  rw [List.getElem?_append_right (by omega), Nat.add_sub_cancel]
  exact hk
theorem aV_num {ad ad' : Nat → Nat} : ∀ {c : List Value} {As : List AV}, As.all (fun a => decide (a.1 < 2)) = true → aV ad c As → aV ad' c As
  | [], [], _, _ => trivial
  | [], _ :: _, _, h => h.elim
  | _ :: _, [], _, h => h.elim
  | v :: c, a :: r, h0, h => by
    rw [List.all_cons, Bool.and_eq_true] at h0
    refine ⟨?_, aV_num h0.2 h.2⟩
    obtain ⟨t, z⟩ := a
    match t, h0.1, h.1 with
    | 0, _, h1 => exact h1
    | 1, _, h1 => exact h1
    | t + 2, h2, _ =>
      have h2 := of_decide_eq_true h2
      exact absurd h2 (by show ¬ t + 2 < 2; omega)
theorem wr_right {σ : Hp} (h : wr (shP ++ shB) σ) : wr shB (fun j => σ (shP.length + j)) := by
  intro q i
  have := h (shP.length + q) i
  unfold isL at this ⊢
  rw [List.getElem?_append_right (by omega), Nat.add_sub_cancel_left] at this
  exact this
theorem hjoin_self {σ : Hp} {n : Nat} : hjoin n σ (fun j => σ (n + j)) = σ := by
  funext q
  unfold hjoin
  by_cases h : q < n
  · rw [if_pos h]
  · rw [if_neg h]
    show σ (n + (q - n)) = σ q
    rw [show n + (q - n) = q by omega]
theorem L_callI2 (B : lX x cc Ts own nL rm base b Lc xr k w) (hok : shB.all okK = true) (hw1 : wr shP σ) (hw2 : wr shB τ) {τ' : Hp} {sh' : aSh} (hok' : sh'.all okK = true) {maxL idx mc ms : Nat} {st0 : List AV} {y : MethodName} {bytes : ByteArray} {ws ws' : List Cond} {rmc : Room} (hM : bMet (xl x) (gsh (xg x) shP.length) (base + shP.length) shB y ws rmc [vR 0] τ mc ms sh' τ')
    (hG : GoodIn Ts ws) (hw : ws = Cond.code y bytes maxL none :: ws') (hrc : rmc.cells = mc ∧ rmc.slots = ms) (hini : Cond.initialized y.cls ∈ Ts) (hl : Cond.methodLink own idx y ∈ Ts) (hin : Cond.instanceMethod y ∈ Ts) (hy1 : y.name = "<init>") (hy : y.cls ≠ "java/lang/invoke/MethodHandle" ∧ y.cls ≠ "java/lang/invoke/VarHandle" ∧ (parseMethodDescriptor y.desc).map (fun d => d.parameters.length) = some 0)
    (hR : rmc.frames + 1 ≤ rm.frames ∧ 8 + (maxL + 11) + rmc.locals ≤ rm.locals) (hn : shP.length + shB.length = k) (hrm1 : k + mc ≤ rm.cells) (hrm2 : w + ms ≤ rm.slots) (hst : st0 = vR shP.length :: st) (hcat : aCat st ≤ 8) (hd : decode cc pc = .ok (.invokespecial idx, 3))
    (kk : ∀ x', xl x' = xl x → xg x' = xg x → wr sh' τ' → lX x' cc Ts own nL rm base b Lc xr (k + mc) (w + ms) → aS x' (shP ++ sh') nL (pc + 3) L st (hjoin shP.length σ τ')) : aS x (shP ++ shB) nL pc L st0 (hjoin shP.length σ τ) := by
  intro H locs ls cst hH hS hL hV T2 hT Xs
  have X := B.1
  have hRm : xR x = rm := X.2.2.2.2.2.2.2.1
  have hts := X.2.2.2.2.1
  have hHl := L_left B hok hw1 hH
  have hPr := L_right hok hH
  have hlin2 : ∀ j, (gsh (xg x) shP.length).2.2 j = base + shP.length + j := fun j => by
    show (xg x).2.2 (shP.length + j) = _
    rw [B.2.2.2.1, Nat.add_assoc]
  have hDr : va_D (xA x) (wl (gsh (xg x) shP.length) shB τ) := linD hlin2 (fun j _ => by rw [Nat.add_assoc]; exact B.A _)
  have hsz := B.size (by rw [List.length_append]; exact hn) hH hS hT Xs
  rw [List.length_append, ← Nat.add_assoc] at hsz
  subst hst
  obtain ⟨c3, rfl, hc3⟩ := aV_R hV
  obtain ⟨l, hl1, -⟩ := id hL
  have hsz0 := X.2.2.2.2.2.2.1
  have hA : ∀ q, va_A (wl (gsh (xg x) shP.length) shB τ) H.size q → xA x q := by
    intro q h
    rcases h with ⟨k, e, h⟩ | h
    · exact hDr.2 k (q, e) h
    · exact hsz0 q (Nat.le_trans hS.1 h)
  have hpre : ∀ U : State, U.heap = H → (xs x).WarmedH U.vm → va_Pc [Value.ref ((xg x).2.2 shP.length)] (fun U => U.heap.size = base + shP.length + shB.length ∧ aPc (gsh (xg x) shP.length) shB τ U) [Value.ref ((xg x).2.2 shP.length)].toArray U := fun U hU hW =>
    ⟨rfl, by rw [hU, hsz], by rw [hU]; exact hPr, va_K.moved hW.alike X.2.2.2.2.2.1, hDr.weaken (fun _ _ _ _ => trivial), hw2, by rw [hU]; exact X.2.2.2.2.2.2.2.2.2.2.to hW hS.2.1 hA⟩
  have hv : aV (gsh (xg x) shP.length).2.2 [Value.ref ((xg x).2.2 shP.length)] [vR 0] := ⟨rfl, trivial⟩
  have hrun : va_Run (xp x) (xl x) (xe x) (xR x) (xs x) (xm x) (xargs x) (xbelow x) (xmeth x) (xc x) H locs (xk x) (xw x) mc ms (F0 (xm x) pc ls (Value.ref ((xg x).2.2 shP.length) :: c3)) c3 (bQc (gsh (xg x) shP.length) sh' τ' (va_A (wl (gsh (xg x) shP.length) shB τ) (base + shP.length + shB.length)) (Value.ref ((xg x).2.2 shP.length) :: ([] : List Value)).toArray) (va_A (wl (gsh (xg x) shP.length) shB τ) (base + shP.length + shB.length)) :=
    va_runI (As := []) (rest := c3) ⟨X.1, X.2.1, X.2.2.1, X.2.2.2.1, X.2.2.2.2.1⟩ (hM [Value.ref ((xg x).2.2 shP.length)] hv) (cwI 0 hts hG hw hrc.1 hrc.2 (hts _ hini) (hts _ hl) (hts _ hin) hy1 hy (by rw [hRm]; exact hR)) ⟨aBlind, hpre⟩ rfl rfl hl1.1 rfl (lv_room (by rw [aV_cat hc3]; exact hcat)) hd (by rw [hRm, B.2.2.2.2.2.1, B.2.2.2.2.2.2]; exact ⟨hrm1, hrm2⟩)
  obtain ⟨v, st₀, t, T', Ls, h9, X', hLs, e1, e2, ⟨⟨hv9, hP, hwr⟩, hsz2, hk⟩, stp⟩ := hrun T2 hT Xs
  cases hv9
  rw [h9] at hsz2 hk
  rw [← hsz] at hk hLs
  have hPl2 : va_P (xg x).1 vwCl (wl (xg x) shP σ) T'.heap := by
    refine hHl.1.kept (fun j y hy => ?_)
    rw [e1]
    refine hk y.1 ((hHl.1 j y hy).lt) (fun hz => ?_)
    obtain ⟨xx, hx1, hx2⟩ := wl_at hy
    subst hx2
    have hlt := (hHl.1 j _ hy).lt
    have hlt : (xg x).2.2 j < H.size := hlt
    rcases hz with ⟨i, e, hi⟩ | hz
    · obtain ⟨yy, hy1, hy2⟩ := wl_at hi
      have e3 : (xg x).2.2 j = (gsh (xg x) shP.length).2.2 i := congrArg Prod.fst hy2
      rw [B.2.2.2.1, hlin2] at e3
      have := (List.getElem?_eq_some_iff.mp hx1).1
      omega
    · have hz : H.size ≤ (xg x).2.2 j := hz
      omega
  obtain ⟨t2, a1, b1⟩ := kk (xup x mc ms) rfl rfl hwr (B.up hrm1 hrm2) T'.heap (locs ++ Ls) ls c3 ⟨by rw [show xg (xup x mc ms) = xg x from rfl, wl_join hok']; exact va_P.app hPl2 (by rw [e1]; exact hP), linD B.2.2.2.1 (fun j _ => B.A j), wr_join hw1 hwr⟩
    ⟨Nat.le_trans hS.1 (by rw [e1]; exact hsz2), fun q h1 h2 => by rw [e1, hk q (Nat.lt_of_lt_of_le h1 hS.1) (fun z => h2 (hA q z))]; exact hS.2.1 q h1 h2, fun q hq => by
      rcases List.mem_append.mp hq with h | h
      · exact hS.2.2 q h
      · exact hA _ (hLs q h)⟩ hL hc3 T' rfl X'
  exact ⟨t2, stp t2 a1, b1⟩
theorem L_callC (B : lX x cc Ts own nL rm base b Lc xr k w) (hok : shB.all okK = true) (hw1 : wr shP σ) (hw2 : wr shB τ) {As : List AV} {σ' : Hp} {C : String} {T : u_T} {N maxL idx q ci n rt na : Nat} {fs : List (Nat × Nat)} {z : Int} {st0 : List AV} {y : MethodName} {bytes : ByteArray} {ret : Option FieldType} {ws ws' : List Cond} {rmc : Room} (hM : aMet (xl x) (xg x) shP y ws rmc (vR q :: As) σ rt (z, σ'))
    (hG : GoodIn Ts (wsV own idx C y ws)) (hw : ws = Cond.code y bytes maxL ret :: ws') (hrc : rmc.cells = 0 ∧ rmc.slots = 0) (hy : y.cls = C ∧ y.cls ≠ "java/lang/invoke/MethodHandle" ∧ y.cls ≠ "java/lang/invoke/VarHandle" ∧ (parseMethodDescriptor y.desc).map (fun d => d.parameters.length) = some na) (hna : As.length = na)
    (hR : rmc.frames + 1 ≤ rm.frames ∧ 8 + (maxL + 11) + rmc.locals ≤ rm.locals) (hq : shP[q]? = some (ci, n, fs)) (hci : ci < 100) (hc : vwCl[ci]? = some (C, T, N)) (hst : st0 = As.reverse ++ vR q :: st) (hcat : aCat st ≤ 8) (hd : decode cc pc = .ok (.invokevirtual idx, 3)) (kk : wr shP σ' → aS x (shP ++ shB) nL (pc + 3) L (rtp rt z st) (hjoin shP.length σ' τ)) : aS x (shP ++ shB) nL pc L st0 (hjoin shP.length σ τ) := by
  intro H locs ls cst hH hS hL hV T2 hT Xs
  have X := B.1
  have hHl := L_left B hok hw1 hH
  have hPr := L_right hok hH
  subst hst
  obtain ⟨c1, c2, rfl, hc1, hc2⟩ := aV_app _ hV
  obtain ⟨c3, rfl, hc3⟩ := aV_R hc2
  have hv : aV (xg x).2.2 c1.reverse As := by have := aV_rev hc1; rwa [List.reverse_reverse] at this
  obtain ⟨l, hl1, -⟩ := id hL
  have he := wl_get (g := xg x) (σ := σ) hq
  rw [wcell_o _ _ _ _ _ _ hci] at he
  have hrun : va_Run (xp x) (xl x) (xe x) (xR x) (xs x) (xm x) (xargs x) (xbelow x) (xmeth x) (xc x) H locs (xk x) (xw x) 0 0 (F0 (xm x) pc ls (c1 ++ Value.ref ((xg x).2.2 q) :: c3)) c3 (aQc (xg x) shP rt (z, σ') (va_A (wl (xg x) shP σ) H.size) (Value.ref ((xg x).2.2 q) :: c1.reverse).toArray) (va_A (wl (xg x) shP σ) H.size) := by
    refine va_runV (As := c1.reverse) (rest := c3) ⟨X.1, X.2.1, X.2.2.1, X.2.2.2.1, X.2.2.2.2.1⟩ (hM (.ref ((xg x).2.2 q) :: c1.reverse) H.size ⟨rfl, hv⟩) (cwV na X.2.2.2.2.1 hG hw hrc.1 hrc.2 hy (by rw [X.2.2.2.2.2.2.2.1]; exact hR)) ⟨aBlind, va_recv X.2.2.2.2.2.1 hHl.1 hc he, aPre X hHl hS⟩ rfl ?_ hl1.1 (by show c1 ++ _ = _; rw [List.reverse_reverse]) (lv_room (by rw [aV_cat hc3]; exact hcat)) hd ?_
    · rw [← hna]; exact aV_len hv
    · rw [X.2.2.2.2.2.2.2.1]
      exact ⟨X.2.2.2.2.2.2.2.2.1, X.2.2.2.2.2.2.2.2.2.1⟩
  have hA := aIn X hHl hS
  obtain ⟨v, st₀, t, T', Ls, h0, X', hLs, e1, e2, ⟨⟨v', hv', hz, hP, hwr⟩, hsz, hk⟩, stp⟩ := hrun T2 hT Xs
  cases hv'
  rw [h0] at hsz hk
  have hst : aV (xg x).2.2 (v.toList ++ c3) (rtp rt z st) := by
    unfold rtp
    cases v with
    | none => rw [if_pos (show rt = 3 from hz)]; exact hc3
    | some w => rw [if_neg (by have := hz.1; omega)]; exact ⟨hz.2, hc3⟩
  have hPr2 : va_P (xg x).1 vwCl (wl (gsh (xg x) shP.length) shB τ) T'.heap := by
    refine hPr.kept (fun j y hy => ?_)
    rw [e1]
    refine hk y.1 ((hPr j y hy).lt) (fun hz => ?_)
    obtain ⟨xx, hx1, hx2⟩ := wl_at hy
    subst hx2
    have hlt := (hPr j _ hy).lt
    have hlt : (xg x).2.2 (shP.length + j) < H.size := hlt
    rcases hz with ⟨i, e, hi⟩ | hz
    · obtain ⟨yy, hy1, hy2⟩ := wl_at hi
      have e3 : (xg x).2.2 (shP.length + j) = (xg x).2.2 i := congrArg Prod.fst hy2
      rw [B.2.2.2.1, B.2.2.2.1] at e3
      have := (List.getElem?_eq_some_iff.mp hy1).1
      omega
    · have hz : H.size ≤ (xg x).2.2 (shP.length + j) := hz
      omega
  obtain ⟨t2, a1, b1⟩ := kk hwr T'.heap (locs ++ Ls) ls (v.toList ++ c3) ⟨by rw [wl_join hok]; exact va_P.app (by rw [e1]; exact hP) hPr2, linD B.2.2.2.1 (fun j _ => B.A j), wr_join hwr hw2⟩
    ⟨Nat.le_trans hS.1 (by rw [e1]; exact hsz), fun q h1 h2 => by rw [e1, hk q (Nat.lt_of_lt_of_le h1 hS.1) (fun z => h2 (hA q z))]; exact hS.2.1 q h1 h2, fun q hq => by
      rcases List.mem_append.mp hq with h | h
      · exact hS.2.2 q h
      · exact hA _ (hLs q h)⟩ hL hst T' rfl X'
  exact ⟨t2, stp t2 a1, b1⟩
theorem L_callM (B : lX x cc Ts own nL rm base b Lc xr k w) (hok : shB.all okK = true) (hw1 : wr shP σ) (hw2 : wr shB τ) {As : List AV} {τ' : Hp} {C : String} {T : u_T} {N maxL idx q ci n rt na : Nat} {fs : List (Nat × Nat)} {z : Int} {st0 : List AV} {y : MethodName} {bytes : ByteArray} {ret : Option FieldType} {ws ws' : List Cond} {rmc : Room} (hAs : As.all (fun a => decide (a.1 < 2)) = true) (hM : aMet (xl x) (gsh (xg x) shP.length) shB y ws rmc (vR q :: As) τ rt (z, τ')) (hrt : rt < 2)
    (hG : GoodIn Ts (wsV own idx C y ws)) (hw : ws = Cond.code y bytes maxL ret :: ws') (hrc : rmc.cells = 0 ∧ rmc.slots = 0) (hy : y.cls = C ∧ y.cls ≠ "java/lang/invoke/MethodHandle" ∧ y.cls ≠ "java/lang/invoke/VarHandle" ∧ (parseMethodDescriptor y.desc).map (fun d => d.parameters.length) = some na) (hna : As.length = na)
    (hR : rmc.frames + 1 ≤ rm.frames ∧ 8 + (maxL + 11) + rmc.locals ≤ rm.locals) (hq : shB[q]? = some (ci, n, fs)) (hci : ci < 100) (hc : vwCl[ci]? = some (C, T, N)) (hst : st0 = As.reverse ++ vR (shP.length + q) :: st) (hcat : aCat st ≤ 8) (hd : decode cc pc = .ok (.invokevirtual idx, 3)) (kk : wr shB τ' → aS x (shP ++ shB) nL (pc + 3) L (rtp rt z st) (hjoin shP.length σ τ')) : aS x (shP ++ shB) nL pc L st0 (hjoin shP.length σ τ) := by
  intro H locs ls cst hH hS hL hV T2 hT Xs
  have X := B.1
  have hHl := L_left B hok hw1 hH
  have hPr := L_right hok hH
  have hlin2 : ∀ j, (gsh (xg x) shP.length).2.2 j = base + shP.length + j := fun j => by
    show (xg x).2.2 (shP.length + j) = _
    rw [B.2.2.2.1, Nat.add_assoc]
  have hDr : va_D (xA x) (wl (gsh (xg x) shP.length) shB τ) := linD hlin2 (fun j _ => by rw [Nat.add_assoc]; exact B.A _)
  subst hst
  obtain ⟨c1, c2, rfl, hc1, hc2⟩ := aV_app _ hV
  obtain ⟨c3, rfl, hc3⟩ := aV_R hc2
  have hv0 : aV (xg x).2.2 c1.reverse As := by have := aV_rev hc1; rwa [List.reverse_reverse] at this
  have hv : aV (gsh (xg x) shP.length).2.2 c1.reverse As := aV_num hAs hv0
  obtain ⟨l, hl1, -⟩ := id hL
  have he := wl_get (g := gsh (xg x) shP.length) (σ := τ) hq
  rw [wcell_o _ _ _ _ _ _ hci] at he
  have hsz0 := X.2.2.2.2.2.2.1
  have hA : ∀ q, va_A (wl (gsh (xg x) shP.length) shB τ) H.size q → xA x q := by
    intro q h
    rcases h with ⟨k, e, h⟩ | h
    · exact hDr.2 k (q, e) h
    · exact hsz0 q (Nat.le_trans hS.1 h)
  have hpre : ∀ U : State, U.heap = H → (xs x).WarmedH U.vm → va_Pc (.ref ((xg x).2.2 (shP.length + q)) :: c1.reverse) (fun U => U.heap.size = H.size ∧ aPc (gsh (xg x) shP.length) shB τ U) (Value.ref ((xg x).2.2 (shP.length + q)) :: c1.reverse).toArray U := fun U hU hW =>
    ⟨rfl, by rw [hU], by rw [hU]; exact hPr, va_K.moved hW.alike X.2.2.2.2.2.1, hDr.weaken (fun _ _ _ _ => trivial), hw2, by rw [hU]; exact X.2.2.2.2.2.2.2.2.2.2.to hW hS.2.1 hA⟩
  have hrun : va_Run (xp x) (xl x) (xe x) (xR x) (xs x) (xm x) (xargs x) (xbelow x) (xmeth x) (xc x) H locs (xk x) (xw x) 0 0 (F0 (xm x) pc ls (c1 ++ Value.ref ((xg x).2.2 (shP.length + q)) :: c3)) c3 (aQc (gsh (xg x) shP.length) shB rt (z, τ') (va_A (wl (gsh (xg x) shP.length) shB τ) H.size) (Value.ref ((xg x).2.2 (shP.length + q)) :: c1.reverse).toArray) (va_A (wl (gsh (xg x) shP.length) shB τ) H.size) := by
    refine va_runV (As := c1.reverse) (rest := c3) ⟨X.1, X.2.1, X.2.2.1, X.2.2.2.1, X.2.2.2.2.1⟩ (hM (.ref ((xg x).2.2 (shP.length + q)) :: c1.reverse) H.size ⟨rfl, hv⟩) (cwV na X.2.2.2.2.1 hG hw hrc.1 hrc.2 hy (by rw [X.2.2.2.2.2.2.2.1]; exact hR)) ⟨aBlind, va_recv X.2.2.2.2.2.1 hPr hc he, hpre⟩ rfl ?_ hl1.1 (by show c1 ++ _ = _; rw [List.reverse_reverse]) (lv_room (by rw [aV_cat hc3]; exact hcat)) hd ?_
    · rw [← hna]; exact aV_len hv
    · rw [X.2.2.2.2.2.2.2.1]
      exact ⟨X.2.2.2.2.2.2.2.2.1, X.2.2.2.2.2.2.2.2.2.1⟩
  obtain ⟨v, st₀, t, T', Ls, h0, X', hLs, e1, e2, ⟨⟨v', hv', hz, hP, hwr⟩, hsz, hk⟩, stp⟩ := hrun T2 hT Xs
  cases hv'
  rw [h0] at hsz hk
  have hst : aV (xg x).2.2 (v.toList ++ c3) (rtp rt z st) := by
    unfold rtp
    cases v with
    | none => exact absurd (show rt = 3 from hz) (by omega)
    | some w =>
      rw [if_neg (by have := hz.1; omega)]
      refine ⟨?_, hc3⟩
      have h9 := hz.2
      match rt, hrt, h9 with
      | 0, _, h9 => exact h9
      | 1, _, h9 => exact h9
      | r + 2, hr, _ => exact absurd hr (by omega)
  have hPl2 : va_P (xg x).1 vwCl (wl (xg x) shP σ) T'.heap := by
    refine hHl.1.kept (fun j y hy => ?_)
    rw [e1]
    refine hk y.1 ((hHl.1 j y hy).lt) (fun hz => ?_)
    obtain ⟨xx, hx1, hx2⟩ := wl_at hy
    subst hx2
    have hlt := (hHl.1 j _ hy).lt
    have hlt : (xg x).2.2 j < H.size := hlt
    rcases hz with ⟨i, e, hi⟩ | hz
    · obtain ⟨yy, hy1, hy2⟩ := wl_at hi
      have e3 : (xg x).2.2 j = (gsh (xg x) shP.length).2.2 i := congrArg Prod.fst hy2
      rw [B.2.2.2.1, hlin2] at e3
      have := (List.getElem?_eq_some_iff.mp hx1).1
      omega
    · have hz : H.size ≤ (xg x).2.2 j := hz
      omega
  obtain ⟨t2, a1, b1⟩ := kk hwr T'.heap (locs ++ Ls) ls (v.toList ++ c3) ⟨by rw [wl_join hok]; exact va_P.app hPl2 (by rw [e1]; exact hP), linD B.2.2.2.1 (fun j _ => B.A j), wr_join hw1 hwr⟩
    ⟨Nat.le_trans hS.1 (by rw [e1]; exact hsz), fun q h1 h2 => by rw [e1, hk q (Nat.lt_of_lt_of_le h1 hS.1) (fun z => h2 (hA q z))]; exact hS.2.1 q h1 h2, fun q hq => by
      rcases List.mem_append.mp hq with h | h
      · exact hS.2.2 q h
      · exact hA _ (hLs q h)⟩ hL hst T' rfl X'
  exact ⟨t2, stp t2 a1, b1⟩
theorem L_aload_n (X : aX x cc Ts own nL rm) {sh : aSh} {k4 : Fin 4} {i : Nat} {a : AV} (j : Nat) (hj : L[j]? = some (i, ((3, Int.ofNat b) : AV))) (hi : (k4 : Nat) = i) (hd : decode cc pc = .ok (.aload_n k4, 1)) (k : aS x sh nL (pc + 1) L ((3, Int.ofNat b) :: st) σ) : aS x sh nL pc L st σ := fun H locs ls cst hH hS hL hV => by
  obtain ⟨l, hl, hp⟩ := id hL
  obtain ⟨v, h1, h3⟩ := aP_get hp hj
  have h3 : v = .ref b := h3
  subst h3
  exact lv_aload_n X.1 X.2.1 hd hi (lv_at hl j h1) (k H locs ls _ hH hS hL ⟨rfl, hV⟩)
theorem L_slen (B : lX x cc Ts own nL rm base b Lc xr k w) {sh : aSh} (hLc : Lc < 2147483648) (hd : decode cc pc = .ok (.arraylength, 1)) (kk : aS x sh nL (pc + 1) L (vI (Lc : Int) :: st) σ) : aS x sh nL pc L ((3, Int.ofNat b) :: st) σ := fun H locs ls cst hH hS hL hV => by
  obtain ⟨v, vs, rfl, h1, hV1⟩ := aV_cons hV
  have h1 : v = .ref b := h1
  subst h1
  have e4 : xH x = (xs x).heap := B.2.1.2.2.2
  have e5 : (xs x).heap.size = base := B.2.2.2.2.1
  refine va_slen (A := xA x) (H0 := xH x) B.1.1 B.1.2.1 (by rw [e4]; exact B.2.2.1.1) (by rw [e4, e5]; exact B.2.2.1.2.1) (by rw [B.2.2.1.2.2.1]; have := B.2.2.1.2.1; show ¬ base ≤ b; omega) hS hd (kk H locs ls _ hH hS hL ⟨⟨_, rfl, ?_⟩, hV1⟩)
  exact Int32.toInt_ofNat_of_lt hLc
theorem L_sld (B : lX x cc Ts own nL rm base b Lc xr k w) {sh : aSh} {iN : Nat} (hb : iN < Lc) (hLc : Lc < 2147483648) (hd : decode cc pc = .ok (.iaload, 1)) (kk : aS x sh nL (pc + 1) L (vI (xr iN).toInt :: st) σ) : aS x sh nL pc L (vI (iN : Int) :: (3, Int.ofNat b) :: st) σ := fun H locs ls cst hH hS hL hV => by
  obtain ⟨y, vs, rfl, ey, hV1⟩ := aV_I hV
  obtain ⟨v, vs2, rfl, h1, hV2⟩ := aV_cons hV1
  have h1 : v = .ref b := h1
  subst h1
  have e4 : xH x = (xs x).heap := B.2.1.2.2.2
  have e5 : (xs x).heap.size = base := B.2.2.2.2.1
  have hyn : y.toNatClampNeg = iN := by show y.toInt.toNat = iN; rw [ey]; rfl
  have hin : vp_in y Lc := by
    rintro (h | h)
    · have := Int32.lt_iff_toInt_lt.mp h
      rw [ey, Int32.toInt_zero] at this
      omega
    · rw [hyn] at h
      omega
  refine va_sld (A := xA x) (H0 := xH x) B.1.1 B.1.2.1 (by rw [e4]; exact B.2.2.1.1) (by rw [e4, e5]; exact B.2.2.1.2.1) (by rw [B.2.2.1.2.2.1]; have := B.2.2.1.2.1; show ¬ base ≤ b; omega) hS hin hd ?_
  rw [hyn]
  exact kk H locs ls _ hH hS hL ⟨⟨_, rfl, rfl⟩, hV2⟩
/-- a script's number on the stack -/
theorem L_arg (B : lX x cc Ts own nL rm base b Lc xr k w) {sh : aSh} {iN kN : Nat} {kz : Int} (j0 j3 : Nat) (h0 : L[j0]? = some (0, ((3, Int.ofNat b) : AV))) (h3 : L[j3]? = some (3, vI (iN : Int))) (hkz : (Int32.ofInt kz).toInt = (kN : Int)) (hb : iN + kN < Lc) (hLc : Lc < 2147483648) (d1 : decode cc pc = .ok (.aload_n 0, 1)) (d2 : decode cc (pc + 1) = .ok (.iload_n 3, 1)) (d3 : decode cc (pc + 2) = .ok (.iconst kz, 1)) (d4 : decode cc (pc + 3) = .ok (.iadd, 1)) (d5 : decode cc (pc + 4) = .ok (.iaload, 1)) (kk : aS x sh nL (pc + 5) L (vI (xr (iN + kN)).toInt :: st) σ) : aS x sh nL pc L st σ := by
  refine L_aload_n (a := vI 0) B.1 j0 h0 rfl d1 ?_
  refine A_iload_n B.1 j3 h3 rfl d2 ?_
  refine A_iconst B.1 d3 hkz ?_
  refine A_iadd B.1 d4 ?_
  have e : iadd (iN : Int) (kN : Int) = ((iN + kN : Nat) : Int) := by
    unfold iadd w32
    rw [Int.bmod_eq_of_le] <;> omega
  rw [e]
  exact L_sld B hb hLc d5 kk
theorem L_bool (X : aX x cc Ts own nL rm) {sh : aSh} {v o1 o2 : Int} {t0 t1 : Nat} (ht0 : ((pc : Nat) : Int) + o1 = (t0 : Int)) (ht1 : ((pc + 4 : Nat) : Int) + o2 = (t1 : Int)) (e1 : t0 + 1 = t1) (d1 : decode cc pc = .ok (.ifCond .eq o1, 3)) (d2 : decode cc (pc + 3) = .ok (.iconst 1, 1)) (d3 : decode cc (pc + 4) = .ok (.goto o2, 3)) (d4 : decode cc t0 = .ok (.iconst 0, 1)) (kk : aS x sh nL t1 L (vI (if v = 0 then 0 else 1) :: st) σ) : aS x sh nL pc L (vI v :: st) σ := by
  refine A_if_eq X ht0 d1 (fun h => ?_) (fun h => ?_)
  · rw [if_pos h] at kk
    refine A_iconst X d4 (z := 0) rfl ?_
    rw [e1]
    exact kk
  · rw [if_neg h] at kk
    refine A_iconst X d2 (z := 1) rfl ?_
    exact A_goto X ht1 d3 kk
theorem L_end (B : lX x code Ts own nL room_1 base b Lc xr k w) {sh : aSh} (hk : k ≤ 600000) (hw : w ≤ 7302250) (hd : decode code pc = .ok (.ireturn, 1)) : aS x sh nL pc L [vI 1] σ := fun H locs ls cst hH hS hL hV => by
  obtain ⟨y, vs, rfl, ey, hV1⟩ := aV_I hV
  have := aV_nil hV1
  subst this
  have hy : y = 1 := Int32.toInt_inj.mp ey
  subst hy
  rw [B.2.1.1, B.1.2.2.2.2.2.2.2.1, B.2.2.1.2.2.2, B.2.2.2.2.2.1, B.2.2.2.2.2.2]
  refine va_forget (fun q hq => ?_) ?_
  · have h := hS.2.2 q hq
    rw [B.2.2.1.2.2.1] at h
    have e5 : (xs x).heap.size = base := B.2.2.2.2.1
    rw [e5]
    exact h
  refine W.widen (k := 600000) (n := 7302250) hk hw ?_
  exact lw_ret B.1.1 B.1.2.1 B.2.1.2.1 B.2.1.2.2.1 hd
end LL
