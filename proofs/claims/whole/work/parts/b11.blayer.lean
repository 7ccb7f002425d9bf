theorem vr_outer (c : ClassId) (N h0 : Nat) : ∀ i : Nat, Jvm.Free.Multi.outerC c N h0 i = arrV c N (fun j => va_rf (if j < i then some (h0 + 1 + j) else none))
  | 0 => by
    show ({ cls := c, slots := Array.replicate N .null, vm := .none } : Cell) = _
    rw [arrV_new]
    refine congrArg (arrV c N) (funext fun j => ?_)
    simp [va_rf]
  | i + 1 => by
    show (Jvm.Free.Multi.outerC c N h0 i).setSlot i (.ref (h0 + 1 + i)) = _
    rw [vr_outer c N h0 i, arrV_store]
    refine congrArg (arrV c N) (funext fun j => ?_)
    by_cases e : j = i
    · subst e
      simp [updV, va_rf]
    · by_cases h : j < i
      · simp [updV, e, h, Nat.lt_succ_of_lt h]
      · simp [updV, e, h, show ¬ j < i + 1 by omega]
/-! BUILDING: constructors over a world that grows; object k stands at base + k -/
def zrow (σ : Hp) (n : Nat) : Hp := fun q i => if q = n then 0 else σ q i
def zrows (σ : Hp) (n m : Nat) : Hp := fun q i => if n ≤ q ∧ q < n + m then 0 else σ q i
def xup (x : aC) (c s : Nat) : aC := (xk x + c, xw x + s, x.2.2)
def bQc (g : aG) (sh : aSh) (σ : Hp) (A : Nat → Prop) : Array Value → State → Outcome → State → Prop := fun _ st oc t => (oc = .returned none ∧ va_P g.1 vwCl (wl g sh σ) t.heap ∧ wr sh σ) ∧ va_F A st t
def bMet (l : Launch) (g : aG) (base : Nat) (sh : aSh) (y : MethodName) (ws : List Cond) (rm : Room) (As : List AV) (σ : Hp) (mc ms : Nat) (sh' : aSh) (σ' : Hp) : Prop :=
  ∀ vs : List Value, aV g.2.2 vs As → Met l y ws rm (va_Pc vs (fun U => U.heap.size = base + sh.length ∧ aPc g sh σ U)) (bQc g sh' σ' (va_A (wl g sh σ) (base + sh.length))) mc ms (va_A (wl g sh σ) (base + sh.length))
/-- what holds all along a constructor -/
def bX (x : aC) (cc : ByteArray) (Ts : List Cond) (own : String) (nL : Nat) (rm : Room) (base n0 : Nat) (shF : aSh) (σF : Hp) (k w : Nat) : Prop :=
  aX x cc Ts own nL rm ∧ ((xmeth x).sig.returnType = none ∧ (xmeth x).locks = false ∧ xQ x = MQ (xbelow x) (bQc (xg x) shF σF (xA x)) (xargs x) (xs x) rm.cells rm.slots (xA x) ∧ xH x = (xs x).heap) ∧ (xmeth x).name = "<init>" ∧ (∀ j, (xg x).2.2 j = base + j) ∧ (xs x).heap.size = base + n0 ∧ xk x = k ∧ xw x = w ∧ (∀ j, j < n0 → xA x (base + j))
section BL
variable {x : aC} {cc : ByteArray} {Ts : List Cond} {own : String} {nL : Nat} {rm : Room} {sh : aSh} {pc : Nat} {L : List (Nat × AV)} {st : List AV} {σ : Hp} {base n0 : Nat} {shF : aSh} {σF : Hp} {k w : Nat}
theorem bX.up (B : bX x cc Ts own nL rm base n0 shF σF k w) {c s : Nat} (hc : k + c ≤ rm.cells) (hs : w + s ≤ rm.slots) : bX (xup x c s) cc Ts own nL rm base n0 shF σF (k + c) (w + s) := by
  obtain ⟨X, E, h1, h2, h3, h4, h5, h6⟩ := B
  obtain ⟨a1, a2, a3, a4, a5, a6, a7, a8, a9, a10, a11⟩ := X
  exact ⟨⟨a1, a2, a3, a4, a5, a6, a7, a8, by show xk x + c ≤ _; rw [h4]; exact hc, by show xw x + s ≤ _; rw [h5]; exact hs, a11⟩, E, h1, h2, h3, by show xk x + c = _; rw [h4], by show xw x + s = _; rw [h5], h6⟩
theorem aS_xup {c s : Nat} (h : aS (xup x c s) sh nL pc L st σ) {H : Heap} {locs : List Loc} {ls : Array Slot} {cst : List Value} (hH : hR x sh σ H) (hS : va_S (xA x) (xH x) H locs) (hL : aL (xg x).2.2 ls nL L) (hV : aV (xg x).2.2 cst st) : W (xp x) (xl x) (xe x) (xR x) (xs x) (xm x) (xargs x) (xbelow x) (xmeth x) (xc x) H locs (xk x + c) (xw x + s) (xQ x) (F0 (xm x) pc ls cst) := h H locs ls cst hH hS hL hV
theorem wl_len {g : aG} : (wl g sh σ).length = sh.length := by
  unfold wl
  rw [List.length_mapIdx]
theorem linD {g : aG} {A : Nat → Prop} (hlin : ∀ j, g.2.2 j = base + j) (hA : ∀ j, j < sh.length → A (base + j)) : va_D A (wl g sh σ) := by
  refine ⟨fun i j p q hi hj e => ?_, fun k q hk => ?_⟩
  · obtain ⟨x, -, h2⟩ := wl_at hi
    obtain ⟨y, -, h4⟩ := wl_at hj
    subst h2; subst h4
    have e : g.2.2 i = g.2.2 j := e
    rw [hlin, hlin] at e
    omega
  · obtain ⟨x, h1, h2⟩ := wl_at hk
    subst h2
    show A (g.2.2 k)
    rw [hlin]
    exact hA k (List.getElem?_eq_some_iff.mp h1).1
theorem bX.A (B : bX x cc Ts own nL rm base n0 shF σF k w) (j : Nat) : xA x (base + j) := by
  by_cases h : j < n0
  · exact B.2.2.2.2.2.2.2 j h
  · refine B.1.2.2.2.2.2.2.1 _ ?_
    rw [B.2.1.2.2.2, B.2.2.2.2.1]
    omega
theorem bX.size (B : bX x cc Ts own nL rm base n0 shF σF k w) {H : Heap} {locs : List Loc} (hn : sh.length = n0 + k) (h0 : 0 < sh.length) (hH : hR x sh σ H) {T : State} (hT : T.heap = H) (Xs : Stand (xp x) (xl x) (xe x) (xR x) (xs x) (xm x) (xargs x) (xbelow x) (xmeth x) (xc x) T locs (xk x) (xw x)) : H.size = base + sh.length := by
  have h1 : T.heap.size ≤ (xs x).heap.size + xk x := Xs.same.2.2.1
  rw [hT, B.2.2.2.2.1, B.2.2.2.2.2.1] at h1
  have e : sh[sh.length - 1]? = some sh[sh.length - 1] := List.getElem?_eq_getElem (by omega)
  have h2 := (hH.1 _ _ (wl_get (g := xg x) (σ := σ) e)).lt
  have h2 : (xg x).2.2 (sh.length - 1) < H.size := h2
  rw [B.2.2.2.1] at h2
  omega
theorem wl_push {g : aG} {y : aK} {σ' : Hp} (hσ : ∀ q, q < sh.length → σ' q = σ q) : wl g (sh ++ [y]) σ' = wl g sh σ ++ [(g.2.2 sh.length, wcell g sh.length y (σ' sh.length))] := by
  apply List.ext_getElem?
  intro k
  unfold wl
  rw [List.getElem?_mapIdx]
  by_cases h : k < sh.length
  · rw [List.getElem?_append_left h, List.getElem?_append_left (by rw [List.length_mapIdx]; exact h), List.getElem?_mapIdx, hσ k h]
  · rw [List.getElem?_append_right (by omega), List.getElem?_append_right (by rw [List.length_mapIdx]; omega), List.length_mapIdx]
    by_cases e : k = sh.length
    · subst e
      rw [Nat.sub_self]
      rfl
    · rw [List.getElem?_eq_none (by show 1 ≤ _; omega), List.getElem?_eq_none (by show 1 ≤ _; omega)]
      rfl
theorem zrow_old {n q : Nat} (h : q < n) : zrow σ n q = σ q := by
  funext i
  exact if_neg (by omega)
theorem zrow_new {n : Nat} : zrow σ n n = fun _ => 0 := by
  funext i
  exact if_pos rfl
theorem isL_push {y : aK} {q i : Nat} (h : q < sh.length) : isL (sh ++ [y]) q i = isL sh q i := by
  unfold isL
  rw [List.getElem?_append_left h]
theorem rg_0 (b : Bool) : rg b 0 := by cases b <;> (unfold rg; decide)
theorem rg_w {b : Bool} {z : Int} (h : -2147483648 ≤ z ∧ z < 2147483648) : rg b z := by
  cases b
  · exact h
  · show -9223372036854775808 ≤ z ∧ z < 9223372036854775808
    omega
/-- outside the shape all numbers are small anyway -/
theorem wr_push {y : aK} (h : wr sh σ) : wr (sh ++ [y]) (zrow σ sh.length) := by
  intro q i
  unfold zrow
  by_cases e : q = sh.length
  · rw [if_pos e]; exact rg_0 _
  · rw [if_neg e]
    by_cases h2 : q < sh.length
    · rw [isL_push h2]; exact h q i
    · have h3 := h q i
      have : isL sh q i = false := by
        unfold isL
        rw [List.getElem?_eq_none (by omega)]
      rw [this] at h3
      exact rg_w h3
theorem A_new (B : bX x cc Ts own nL rm base n0 shF σF k w) {C : String} {T : u_T} {N ci idx : Nat} {ty : Nat → FieldType} {fl : List (Nat × Nat)} (hc : vwCl[ci]? = some (C, T, N)) (hci : ci < 100) (hin : ∀ v ∈ u_ws C T N, v ∈ Ts) (hty : ∀ k, k < N → parseFieldDescriptor (T k).2.2.1 = some (ty k)) (h1 : Cond.classLink own idx C ∈ Ts) (h2 : Cond.instantiable C N ∈ Ts) (h3 : Cond.initialized C ∈ Ts) (hfl : ∀ (ad : Nat → Nat) (q j : Nat), j < N → defaultValue (ty j) = vp_V (fvals ad q (fun _ => 0) 0 fl) j) (hn : sh.length = n0 + k) (h0 : 0 < sh.length) (hrc : k + 1 ≤ rm.cells) (hrs : w + N ≤ rm.slots) (hd : decode cc pc = .ok (.new idx, 3))
    (kk : ∀ x', bX x' cc Ts own nL rm base n0 shF σF (k + 1) (w + N) → aS x' (sh ++ [(ci, 0, fl)]) nL (pc + 3) L (vR sh.length :: st) (zrow σ sh.length)) : aS x sh nL pc L st σ := by
  intro H locs ls cst hH hS hL hV T2 hT Xs
  have hsz := B.size hn h0 hH hT Xs
  have hts := B.1.2.2.2.2.1
  have hKn := B.1.2.2.2.2.2.1.1 ci _ hc
  have hRm : xR x = rm := B.1.2.2.2.2.2.2.2.1
  have hW : W (xp x) (xl x) (xe x) (xR x) (xs x) (xm x) (xargs x) (xbelow x) (xmeth x) (xc x) H locs (xk x) (xw x) (xQ x) (F0 (xm x) pc ls cst) := by
    refine W.newcK B.1.1 B.1.2.1 B.1.2.2.2.1 (hts _ h1) (hts _ h2) (hts _ h3) rfl hd (by rw [hRm, B.2.2.2.2.2.1]; exact hrc) (by rw [hRm, B.2.2.2.2.2.2.1]; exact hrs) hKn.2.1 rfl (fun H1 kC hkC e1 z1 o1 => ?_)
    have hk : ∀ (k : Nat) (y : Nat × va_E), (wl (xg x) sh σ)[k]? = some y → H1[y.1]? = H[y.1]? := fun k y hy => o1 y.1 ((hH.1 k y hy).lt)
    have hlin := B.2.2.2.1
    have had : (xg x).2.2 sh.length = H.size := by rw [hlin, hsz]
    have hP1 : va_P (xg x).1 vwCl (wl (xg x) (sh ++ [(ci, 0, fl)]) (zrow σ sh.length)) H1 := by
      rw [wl_push (σ := σ) (fun q h => zrow_old h), zrow_new, wcell_o _ _ _ _ _ _ hci]
      refine (hH.1.kept hk).app (fun j y hy => ?_)
      have hz : j < 1 := (List.getElem?_eq_some_iff.mp hy).1
      rw [show j = 0 by omega] at hy
      cases hy
      show ∃ r : vw_C, _ ∧ _
      rw [had]
      exact ⟨_, hc, (u_born ty hts hin hKn hkC e1 hty).to (fun j hj => hfl _ _ j hj)⟩
    exact aS_xup (kk (xup x 1 N) (B.up hrc hrs)) (H := H1) (locs := locs) (ls := ls) (cst := .ref H.size :: cst) ⟨hP1, linD hlin (fun j _ => B.A j), wr_push hH.2.2⟩ ⟨Nat.le_trans hS.1 (by omega), fun q g1 g2 => (o1 q (Nat.lt_of_lt_of_le g1 hS.1)).trans (hS.2.1 q g1 g2), hS.2.2⟩ hL ⟨by show Value.ref H.size = Value.ref ((xg x).2.2 sh.length); rw [had], hV⟩
  exact hW T2 hT Xs
theorem A_newa100 (B : bX x cc Ts own nL rm base n0 shF σF k w) {z : Int} {n : Nat} (hz : z = (n : Int)) (hb1 : n * componentBytes .int ≤ 536870912) (h1 : Cond.arrayClass .int ∈ Ts) (hn : sh.length = n0 + k) (h0 : 0 < sh.length) (hrc : k + 1 ≤ rm.cells) (hrs : w + n ≤ rm.slots) (hd : decode cc pc = .ok (.newarray .int, 2))
    (kk : ∀ x', bX x' cc Ts own nL rm base n0 shF σF (k + 1) (w + n) → aS x' (sh ++ [(100, n, [])]) nL (pc + 2) L (vR sh.length :: st) (zrow σ sh.length)) : aS x sh nL pc L (vI z :: st) σ := by
  intro H locs ls cst hH hS hL hV T2 hT Xs
  obtain ⟨y, vs, rfl, ey, hV1⟩ := aV_I hV
  subst hz
  have hsz := B.size hn h0 hH hT Xs
  have hts := B.1.2.2.2.2.1
  have hRm : xR x = rm := B.1.2.2.2.2.2.2.2.1
  have hlin := B.2.2.2.1
  have had : (xg x).2.2 sh.length = H.size := by rw [hlin, hsz]
  have hyn : y.toNatClampNeg = n := by show y.toInt.toNat = n; rw [ey]; rfl
  have hy0 : ¬ y < 0 := fun q => by
    have := Int32.lt_iff_toInt_lt.mp q
    rw [ey, Int32.toInt_zero] at this
    omega
  have hW : W (xp x) (xl x) (xe x) (xR x) (xs x) (xm x) (xargs x) (xbelow x) (xmeth x) (xc x) H locs (xk x) (xw x) (xQ x) (F0 (xm x) pc ls (.int y :: vs)) := by
    refine va_newaK (atype := .int) B.1.1 B.1.2.1 (hts _ h1) rfl hd rfl hy0 hyn hb1 (by rw [hRm, B.2.2.2.2.2.1]; exact hrc) (by rw [hRm, B.2.2.2.2.2.2.1]; exact hrs) rfl (fun H1 cA e1 z1 o1 hAr hNm => ?_)
    have hcA : cA = (xg x).2.1 0 := Option.some.inj (hNm.symm.trans (B.1.2.2.2.2.2.1.2 0 _ rfl).2)
    subst hcA
    have hk : ∀ (k : Nat) (y : Nat × va_E), (wl (xg x) sh σ)[k]? = some y → H1[y.1]? = H[y.1]? := fun k y hy => o1 y.1 ((hH.1 k y hy).lt)
    have hP1 : va_P (xg x).1 vwCl (wl (xg x) (sh ++ [(100, n, [])]) (zrow σ sh.length)) H1 := by
      rw [wl_push (σ := σ) (fun q h => zrow_old h), zrow_new, wcell_100]
      refine (hH.1.kept hk).app (fun j y hy => ?_)
      have hz : j < 1 := (List.getElem?_eq_some_iff.mp hy).1
      rw [show j = 0 by omega] at hy
      cases hy
      show H1[(xg x).2.2 sh.length]? = some (vp_cell _ _)
      rw [had, e1, vp_cell_i]
      rfl
    exact aS_xup (kk (xup x 1 n) (B.up hrc hrs)) (H := H1) (locs := locs) (ls := ls) (cst := .ref H.size :: vs) ⟨hP1, linD hlin (fun j _ => B.A j), wr_push hH.2.2⟩ ⟨Nat.le_trans hS.1 (by omega), fun q g1 g2 => (o1 q (Nat.lt_of_lt_of_le g1 hS.1)).trans (hS.2.1 q g1 g2), hS.2.2⟩ hL ⟨by show Value.ref H.size = Value.ref ((xg x).2.2 sh.length); rw [had], hV1⟩
  exact hW T2 hT Xs
theorem A_newa101 (B : bX x cc Ts own nL rm base n0 shF σF k w) {z : Int} {n : Nat} (hz : z = (n : Int)) (hb1 : n * componentBytes .long ≤ 536870912) (h1 : Cond.arrayClass .long ∈ Ts) (hn : sh.length = n0 + k) (h0 : 0 < sh.length) (hrc : k + 1 ≤ rm.cells) (hrs : w + n ≤ rm.slots) (hd : decode cc pc = .ok (.newarray .long, 2))
    (kk : ∀ x', bX x' cc Ts own nL rm base n0 shF σF (k + 1) (w + n) → aS x' (sh ++ [(101, n, [])]) nL (pc + 2) L (vR sh.length :: st) (zrow σ sh.length)) : aS x sh nL pc L (vI z :: st) σ := by
  intro H locs ls cst hH hS hL hV T2 hT Xs
  obtain ⟨y, vs, rfl, ey, hV1⟩ := aV_I hV
  subst hz
  have hsz := B.size hn h0 hH hT Xs
  have hts := B.1.2.2.2.2.1
  have hRm : xR x = rm := B.1.2.2.2.2.2.2.2.1
  have hlin := B.2.2.2.1
  have had : (xg x).2.2 sh.length = H.size := by rw [hlin, hsz]
  have hyn : y.toNatClampNeg = n := by show y.toInt.toNat = n; rw [ey]; rfl
  have hy0 : ¬ y < 0 := fun q => by
    have := Int32.lt_iff_toInt_lt.mp q
    rw [ey, Int32.toInt_zero] at this
    omega
  have hW : W (xp x) (xl x) (xe x) (xR x) (xs x) (xm x) (xargs x) (xbelow x) (xmeth x) (xc x) H locs (xk x) (xw x) (xQ x) (F0 (xm x) pc ls (.int y :: vs)) := by
    refine va_newaK (atype := .long) B.1.1 B.1.2.1 (hts _ h1) rfl hd rfl hy0 hyn hb1 (by rw [hRm, B.2.2.2.2.2.1]; exact hrc) (by rw [hRm, B.2.2.2.2.2.2.1]; exact hrs) rfl (fun H1 cA e1 z1 o1 hAr hNm => ?_)
    have hcA : cA = (xg x).2.1 1 := Option.some.inj (hNm.symm.trans (B.1.2.2.2.2.2.1.2 1 _ rfl).2)
    subst hcA
    have hk : ∀ (k : Nat) (y : Nat × va_E), (wl (xg x) sh σ)[k]? = some y → H1[y.1]? = H[y.1]? := fun k y hy => o1 y.1 ((hH.1 k y hy).lt)
    have hP1 : va_P (xg x).1 vwCl (wl (xg x) (sh ++ [(101, n, [])]) (zrow σ sh.length)) H1 := by
      rw [wl_push (σ := σ) (fun q h => zrow_old h), zrow_new, wcell_101]
      refine (hH.1.kept hk).app (fun j y hy => ?_)
      have hz : j < 1 := (List.getElem?_eq_some_iff.mp hy).1
      rw [show j = 0 by omega] at hy
      cases hy
      show H1[(xg x).2.2 sh.length]? = some (vp_cell _ _)
      rw [had, e1, vp_cell_l]
      rfl
    exact aS_xup (kk (xup x 1 n) (B.up hrc hrs)) (H := H1) (locs := locs) (ls := ls) (cst := .ref H.size :: vs) ⟨hP1, linD hlin (fun j _ => B.A j), wr_push hH.2.2⟩ ⟨Nat.le_trans hS.1 (by omega), fun q g1 g2 => (o1 q (Nat.lt_of_lt_of_le g1 hS.1)).trans (hS.2.1 q g1 g2), hS.2.2⟩ hL ⟨by show Value.ref H.size = Value.ref ((xg x).2.2 sh.length); rw [had], hV1⟩
  exact hW T2 hT Xs
theorem A_newa102 (B : bX x cc Ts own nL rm base n0 shF σF k w) {z : Int} {n : Nat} (hz : z = (n : Int)) (hb1 : n * componentBytes .byte ≤ 536870912) (h1 : Cond.arrayClass .byte ∈ Ts) (hn : sh.length = n0 + k) (h0 : 0 < sh.length) (hrc : k + 1 ≤ rm.cells) (hrs : w + n ≤ rm.slots) (hd : decode cc pc = .ok (.newarray .byte, 2))
    (kk : ∀ x', bX x' cc Ts own nL rm base n0 shF σF (k + 1) (w + n) → aS x' (sh ++ [(102, n, [])]) nL (pc + 2) L (vR sh.length :: st) (zrow σ sh.length)) : aS x sh nL pc L (vI z :: st) σ := by
  intro H locs ls cst hH hS hL hV T2 hT Xs
  obtain ⟨y, vs, rfl, ey, hV1⟩ := aV_I hV
  subst hz
  have hsz := B.size hn h0 hH hT Xs
  have hts := B.1.2.2.2.2.1
  have hRm : xR x = rm := B.1.2.2.2.2.2.2.2.1
  have hlin := B.2.2.2.1
  have had : (xg x).2.2 sh.length = H.size := by rw [hlin, hsz]
  have hyn : y.toNatClampNeg = n := by show y.toInt.toNat = n; rw [ey]; rfl
  have hy0 : ¬ y < 0 := fun q => by
    have := Int32.lt_iff_toInt_lt.mp q
    rw [ey, Int32.toInt_zero] at this
    omega
  have hW : W (xp x) (xl x) (xe x) (xR x) (xs x) (xm x) (xargs x) (xbelow x) (xmeth x) (xc x) H locs (xk x) (xw x) (xQ x) (F0 (xm x) pc ls (.int y :: vs)) := by
    refine va_newaK (atype := .byte) B.1.1 B.1.2.1 (hts _ h1) rfl hd rfl hy0 hyn hb1 (by rw [hRm, B.2.2.2.2.2.1]; exact hrc) (by rw [hRm, B.2.2.2.2.2.2.1]; exact hrs) rfl (fun H1 cA e1 z1 o1 hAr hNm => ?_)
    have hcA : cA = (xg x).2.1 2 := Option.some.inj (hNm.symm.trans (B.1.2.2.2.2.2.1.2 2 _ rfl).2)
    subst hcA
    have hk : ∀ (k : Nat) (y : Nat × va_E), (wl (xg x) sh σ)[k]? = some y → H1[y.1]? = H[y.1]? := fun k y hy => o1 y.1 ((hH.1 k y hy).lt)
    have hP1 : va_P (xg x).1 vwCl (wl (xg x) (sh ++ [(102, n, [])]) (zrow σ sh.length)) H1 := by
      rw [wl_push (σ := σ) (fun q h => zrow_old h), zrow_new, wcell_102]
      refine (hH.1.kept hk).app (fun j y hy => ?_)
      have hz : j < 1 := (List.getElem?_eq_some_iff.mp hy).1
      rw [show j = 0 by omega] at hy
      cases hy
      show H1[(xg x).2.2 sh.length]? = some (vp_cell _ _)
      rw [had, e1, vp_cell_i]
      rfl
    exact aS_xup (kk (xup x 1 n) (B.up hrc hrs)) (H := H1) (locs := locs) (ls := ls) (cst := .ref H.size :: vs) ⟨hP1, linD hlin (fun j _ => B.A j), wr_push hH.2.2⟩ ⟨Nat.le_trans hS.1 (by omega), fun q g1 g2 => (o1 q (Nat.lt_of_lt_of_le g1 hS.1)).trans (hS.2.1 q g1 g2), hS.2.2⟩ hL ⟨by show Value.ref H.size = Value.ref ((xg x).2.2 sh.length); rw [had], hV1⟩
  exact hW T2 hT Xs
theorem A_newa103 (B : bX x cc Ts own nL rm base n0 shF σF k w) {z : Int} {n : Nat} (hz : z = (n : Int)) (hb1 : n * componentBytes .boolean ≤ 536870912) (h1 : Cond.arrayClass .boolean ∈ Ts) (hn : sh.length = n0 + k) (h0 : 0 < sh.length) (hrc : k + 1 ≤ rm.cells) (hrs : w + n ≤ rm.slots) (hd : decode cc pc = .ok (.newarray .boolean, 2))
    (kk : ∀ x', bX x' cc Ts own nL rm base n0 shF σF (k + 1) (w + n) → aS x' (sh ++ [(103, n, [])]) nL (pc + 2) L (vR sh.length :: st) (zrow σ sh.length)) : aS x sh nL pc L (vI z :: st) σ := by
  intro H locs ls cst hH hS hL hV T2 hT Xs
  obtain ⟨y, vs, rfl, ey, hV1⟩ := aV_I hV
  subst hz
  have hsz := B.size hn h0 hH hT Xs
  have hts := B.1.2.2.2.2.1
  have hRm : xR x = rm := B.1.2.2.2.2.2.2.2.1
  have hlin := B.2.2.2.1
  have had : (xg x).2.2 sh.length = H.size := by rw [hlin, hsz]
  have hyn : y.toNatClampNeg = n := by show y.toInt.toNat = n; rw [ey]; rfl
  have hy0 : ¬ y < 0 := fun q => by
    have := Int32.lt_iff_toInt_lt.mp q
    rw [ey, Int32.toInt_zero] at this
    omega
  have hW : W (xp x) (xl x) (xe x) (xR x) (xs x) (xm x) (xargs x) (xbelow x) (xmeth x) (xc x) H locs (xk x) (xw x) (xQ x) (F0 (xm x) pc ls (.int y :: vs)) := by
    refine va_newaK (atype := .boolean) B.1.1 B.1.2.1 (hts _ h1) rfl hd rfl hy0 hyn hb1 (by rw [hRm, B.2.2.2.2.2.1]; exact hrc) (by rw [hRm, B.2.2.2.2.2.2.1]; exact hrs) rfl (fun H1 cA e1 z1 o1 hAr hNm => ?_)
    have hcA : cA = (xg x).2.1 3 := Option.some.inj (hNm.symm.trans (B.1.2.2.2.2.2.1.2 3 _ rfl).2)
    subst hcA
    have hk : ∀ (k : Nat) (y : Nat × va_E), (wl (xg x) sh σ)[k]? = some y → H1[y.1]? = H[y.1]? := fun k y hy => o1 y.1 ((hH.1 k y hy).lt)
    have hP1 : va_P (xg x).1 vwCl (wl (xg x) (sh ++ [(103, n, [])]) (zrow σ sh.length)) H1 := by
      rw [wl_push (σ := σ) (fun q h => zrow_old h), zrow_new, wcell_103]
      refine (hH.1.kept hk).app (fun j y hy => ?_)
      have hz : j < 1 := (List.getElem?_eq_some_iff.mp hy).1
      rw [show j = 0 by omega] at hy
      cases hy
      show H1[(xg x).2.2 sh.length]? = some (vp_cell _ _)
      rw [had, e1, vp_cell_i]
      rfl
    exact aS_xup (kk (xup x 1 n) (B.up hrc hrs)) (H := H1) (locs := locs) (ls := ls) (cst := .ref H.size :: vs) ⟨hP1, linD hlin (fun j _ => B.A j), wr_push hH.2.2⟩ ⟨Nat.le_trans hS.1 (by omega), fun q g1 g2 => (o1 q (Nat.lt_of_lt_of_le g1 hS.1)).trans (hS.2.1 q g1 g2), hS.2.2⟩ hL ⟨by show Value.ref H.size = Value.ref ((xg x).2.2 sh.length); rw [had], hV1⟩
  exact hW T2 hT Xs
theorem wl_many {g : aG} {y : aK} {σ' : Hp} : ∀ (m : Nat), (∀ q, q < sh.length → σ' q = σ q) → (∀ q, sh.length ≤ q → q < sh.length + m → σ' q = fun _ => 0) → wl g (sh ++ List.replicate m y) σ' = wl g sh σ ++ (List.range m).map (fun j => (g.2.2 (sh.length + j), wcell g (sh.length + j) y (fun _ => 0)))
  | 0, h, _ => by
    rw [List.replicate_zero, List.append_nil, List.range_zero, List.map_nil, List.append_nil]
    apply List.ext_getElem?
    intro k
    unfold wl
    rw [List.getElem?_mapIdx, List.getElem?_mapIdx]
    by_cases e : k < sh.length
    · rw [h k e]
    · rw [List.getElem?_eq_none (by omega)]; rfl
  | m + 1, h, h2 => by
    rw [List.replicate_succ', ← List.append_assoc, wl_push (σ := σ') (fun q _ => rfl), wl_many m h (fun q a b => h2 q a (by omega)), List.range_succ, List.map_append, List.append_assoc, List.length_append, List.length_replicate]
    congr 2
    show [(g.2.2 (sh.length + m), wcell g (sh.length + m) y (σ' (sh.length + m)))] = _
    rw [h2 (sh.length + m) (by omega) (by omega)]
    rfl
theorem zrows_old {n m q : Nat} (h : q < n) : zrows σ n m q = σ q := by
  funext i
  exact if_neg (by omega)
theorem zrows_new {n m q : Nat} (h : n ≤ q) (h2 : q < n + m) : zrows σ n m q = fun _ => 0 := by
  funext i
  exact if_pos ⟨h, h2⟩
theorem wr_pushes {ys : List aK} (h : wr sh σ) : wr (sh ++ ys) (zrows σ sh.length ys.length) := by
  intro q i
  unfold zrows
  by_cases e : sh.length ≤ q ∧ q < sh.length + ys.length
  · rw [if_pos e]; exact rg_0 _
  · rw [if_neg e]
    by_cases h2 : q < sh.length
    · have : isL (sh ++ ys) q i = isL sh q i := by
        unfold isL
        rw [List.getElem?_append_left h2]
      rw [this]; exact h q i
    · have h3 := h q i
      have : isL sh q i = false := by
        unfold isL
        rw [List.getElem?_eq_none (by omega)]
      rw [this] at h3
      exact rg_w h3
theorem A_mna (B : bX x cc Ts own nL rm base n0 shF σF k w) {idx n m : Nat} {z1 z2 : Int} (hz1 : z1 = (n : Int)) (hz2 : z2 = (m : Int)) (hbn : n * 4 ≤ 536870912) (hbm : m * 4 ≤ 536870912) (h1 : Cond.classLink own idx "[[I" ∈ Ts) (h3 : Cond.arrayClass .int ∈ Ts) (hn : sh.length = n0 + k) (h0 : 0 < sh.length) (hrc : k + (1 + n) ≤ rm.cells) (hrs : w + (n + n * m) ≤ rm.slots) (hd : decode cc pc = .ok (.multianewarray idx 2, 4))
    (kk : ∀ x', bX x' cc Ts own nL rm base n0 shF σF (k + (1 + n)) (w + (n + n * m)) → aS x' (sh ++ (104, n, []) :: List.replicate n (100, m, [])) nL (pc + 4) L (vR sh.length :: st) (zrows σ sh.length (n + 1))) : aS x sh nL pc L (vI z2 :: vI z1 :: st) σ := by
  intro H locs ls cst hH hS hL hV T2 hT Xs
  obtain ⟨y2, vs, rfl, ey2, hV1⟩ := aV_I hV
  obtain ⟨y1, vs, rfl, ey1, hV2⟩ := aV_I hV1
  subst hz1; subst hz2
  have hsz := B.size hn h0 hH hT Xs
  have hts := B.1.2.2.2.2.1
  have hRm : xR x = rm := B.1.2.2.2.2.2.2.2.1
  have hlin := B.2.2.2.1
  have had : ∀ j, (xg x).2.2 (sh.length + j) = H.size + j := fun j => by rw [hlin, hsz]; omega
  have hyn : y1.toNatClampNeg = n := by show y1.toInt.toNat = n; rw [ey1]; rfl
  have hym : y2.toNatClampNeg = m := by show y2.toInt.toNat = m; rw [ey2]; rfl
  have nz : ∀ (y : Int32) (j : Nat), y.toInt = (j : Int) → ¬ y < 0 := fun y j e q => by
    have := Int32.lt_iff_toInt_lt.mp q
    rw [e, Int32.toInt_zero] at this
    omega
  obtain ⟨vm₁, cA, comp, -, fA, fC, hO, -, X', step⟩ := Xs.multianewarray2F B.1.1 B.1.2.2.2.1 (hts _ h1) B.1.2.2.2.2.2.2.2.2.2.2.1.1 (hts _ h3) (g := F0 (xm x) pc ls (.int y2 :: .int y1 :: vs)) rfl (by rw [B.1.2.1]; exact hd) rfl (nz _ _ ey1) (nz _ _ ey2) (by rw [hyn]; exact hbn) (by rw [hym]; exact hbm) (by rw [hym]; omega) (by decide) (by decide) (by rw [hyn, hRm, B.2.2.2.2.2.1]; exact hrc) (by rw [hyn, hym, hRm, B.2.2.2.2.2.2.1]; exact hrs)
  have hcA : cA = (xg x).2.1 4 := Option.some.inj (fA.symm.trans (B.1.2.2.2.2.2.1.2 4 _ rfl).2)
  have hcC : comp = (xg x).2.1 0 := Option.some.inj (fC.symm.trans (B.1.2.2.2.2.2.1.2 0 _ rfl).2)
  subst hcA; subst hcC
  rw [hyn, hym] at X' step
  generalize hF : Jvm.Free.Multi.fill (T2.setVm vm₁) ((xg x).2.1 4) ((xg x).2.1 0) n m (defaultValue .int) n = F at X' step
  have hTh : (T2.setVm vm₁).heap = H := hT
  obtain ⟨f1, f2, -, -⟩ := Jvm.Free.Multi.fill_facts (T2.setVm vm₁) ((xg x).2.1 4) ((xg x).2.1 0) n m (defaultValue .int) n
  rw [hF, hTh] at f1 f2
  have hold : ∀ q : Nat, q < H.size → F.heap[q]? = H[q]? := fun q hq => by
    have := Jvm.Free.Multi.fill_old (T2.setVm vm₁) ((xg x).2.1 4) ((xg x).2.1 0) n m (defaultValue .int) (a := q) (by rw [hTh]; exact hq) n
    rw [hF, hTh] at this
    exact this
  have hrow : ∀ j : Nat, j < n → F.heap[H.size + 1 + j]? = some (Jvm.Free.Multi.innerC ((xg x).2.1 0) m (defaultValue .int)) := fun j hj => by
    have := Jvm.Free.Multi.fill_inner (T2.setVm vm₁) ((xg x).2.1 4) ((xg x).2.1 0) n m (defaultValue .int) n j hj
    rw [hF, hTh] at this
    exact this
  have hk : ∀ (k : Nat) (y : Nat × va_E), (wl (xg x) sh σ)[k]? = some y → F.heap[y.1]? = H[y.1]? := fun k y hy => hold y.1 ((hH.1 k y hy).lt)
  have hP1 : va_P (xg x).1 vwCl (wl (xg x) (sh ++ (104, n, []) :: List.replicate n (100, m, [])) (zrows σ sh.length (n + 1))) F.heap := by
    rw [show sh ++ (104, n, []) :: List.replicate n (100, m, []) = (sh ++ [(104, n, [])]) ++ List.replicate n (100, m, []) by rw [List.append_assoc]; rfl]
    have hl1 : (sh ++ [((104, n, []) : aK)]).length = sh.length + 1 := by rw [List.length_append]; rfl
    rw [wl_many (σ := zrows σ sh.length (n + 1)) n (fun q _ => rfl) (fun q a b => zrows_new (by omega) (by omega)), wl_push (σ := σ) (fun q h => zrows_old h), wcell_104, hl1]
    refine ((hH.1.kept hk).app (fun j y hy => ?_)).app (fun j y hy => ?_)
    · have hz : j < 1 := (List.getElem?_eq_some_iff.mp hy).1
      rw [show j = 0 by omega] at hy
      cases hy
      show F.heap[(xg x).2.2 sh.length]? = some (vp_cell _ _)
      have h9 := had 0
      rw [Nat.add_zero, Nat.add_zero] at h9
      rw [h9, f2, vp_cell_q, vr_outer]
      refine congrArg some (congrArg (arrV _ n) (funext fun j => ?_))
      by_cases hj : j < n
      · rw [if_pos hj, if_pos hj]
        show _ = va_rf (some ((xg x).2.2 (sh.length + 1 + j)))
        rw [show sh.length + 1 + j = sh.length + (1 + j) by omega, had, show H.size + 1 + j = H.size + (1 + j) by omega]
      · rw [if_neg hj, if_neg hj]
    · obtain ⟨i, hi, rfl⟩ := List.mem_map.mp (List.mem_of_getElem? hy)
      show F.heap[(xg x).2.2 (sh.length + 1 + i)]? = some (vp_cell _ _)
      rw [show sh.length + 1 + i = sh.length + (1 + i) by omega, had, show H.size + (1 + i) = H.size + 1 + i by omega, hrow i (List.mem_range.mp hi)]
      refine congrArg some ?_
      show ({ cls := (xg x).2.1 0, slots := Array.replicate m (Value.int 0), vm := .none } : Cell) = vp_cell ((xg x).2.1 0) (m, .inl (fun _ => Int32.ofInt 0))
      rw [arrV_new, vp_cell_i]
      rfl
  have hB2 := B.up hrc hrs
  obtain ⟨t, a1, b1⟩ := kk (xup x (1 + n) (n + n * m)) hB2 F.heap locs ls (.ref H.size :: vs) ⟨hP1, linD hlin (fun j _ => B.A j), by
      have := wr_pushes (ys := ((104, n, []) : aK) :: List.replicate n (100, m, [])) hH.2.2
      rw [List.length_cons, List.length_replicate] at this
      exact this⟩ ⟨Nat.le_trans hS.1 (by rw [f1]; omega), fun q g1 g2 => (hold q (Nat.lt_of_lt_of_le g1 hS.1)).trans (hS.2.1 q g1 g2), hS.2.2⟩ hL ⟨by
      show Value.ref H.size = Value.ref ((xg x).2.2 sh.length)
      have h9 := had 0
      rw [Nat.add_zero, Nat.add_zero] at h9
      rw [h9], hV2⟩ F rfl (by
      have e1 : xk x + (1 + n) = xk x + 1 + n := by omega
      have e2 : xw x + (n + n * m) = xw x + n + n * m := by omega
      show Stand (xp x) (xl x) (xe x) (xR x) (xs x) (xm x) (xargs x) (xbelow x) (xmeth x) (xc x) F locs (xk x + (1 + n)) (xw x + (n + n * m))
      rw [e1, e2]
      exact X')
  refine ⟨t, step t ?_, b1⟩
  rw [show T2.heap.size = H.size by rw [hT]]
  exact a1
/-- a field that a constructor fills -/
def aFf (Ts : List Cond) (own : String) (idx ci k : Nat) (ty : FieldType) : Prop := ∃ (C : String) (T : u_T) (N : Nat) (ty0 : Nat → FieldType), vwCl[ci]? = some (C, T, N) ∧ (∀ w ∈ u_ws C T N, w ∈ Ts) ∧ k < N ∧ Cond.fieldLink own idx C (T k).2.1 (T k).2.2.1 ∈ Ts ∧ (T k).1 = C ∧
  (∀ k, k < N → parseFieldDescriptor (T k).2.2.1 = some (ty0 k)) ∧ (∀ a, a < N → ∀ b, b < N → a ≠ b → (T a).2.1 ≠ (T b).2.1) ∧ (T k).2.2.2 = true ∧ ty0 k = ty ∧ (T k).1 = own
theorem fvals_setk {ad : Nat → Nat} {q : Nat} {f : Nat → Int} {z : Int} : ∀ {fl : List (Nat × Nat)} {j k : Nat} {x y : Nat × Nat}, fl[k]? = some x → (fvals ad q f j fl).set k (fval ad q y.1 y.2 z) = fvals ad q (fun i => if i = j + k then z else f i) j (fl.set k y)
  | [], j, k, x, _, h => by simp at h
  | u :: r, j, 0, x, y, h => by
    show fval ad q y.1 y.2 z :: fvals ad q f (j + 1) r = fval ad q y.1 y.2 (if j = j + 0 then z else f j) :: _
    rw [if_pos (show j = j + 0 from rfl)]
    congr 1
    exact fvals_congr (fun i hi => by rw [if_neg (by omega)])
  | u :: r, j, k + 1, x, y, h => by
    rw [List.getElem?_cons_succ] at h
    show fval ad q u.1 u.2 (f j) :: (fvals ad q f (j + 1) r).set k _ = fval ad q u.1 u.2 (if j = j + (k + 1) then z else f j) :: _
    rw [if_neg (by omega), fvals_setk h]
    congr 1
    exact fvals_congr (fun i hi => by
      by_cases e : i = j + 1 + k
      · rw [if_pos e, if_pos (by omega)]
      · rw [if_neg e, if_neg (by omega)])
theorem wl_shset {g : aG} {σ' : Hp} {q : Nat} {x y : aK} (h : sh[q]? = some x) (hσ : ∀ q', q' ≠ q → σ' q' = σ q') : (wl g sh σ).set q (g.2.2 q, wcell g q y (σ' q)) = wl g (sh.set q y) σ' := by
  apply List.ext_getElem?
  intro k
  have hl : q < (wl g sh σ).length := (List.getElem?_eq_some_iff.mp (wl_get (g := g) (σ := σ) h)).1
  have hl2 : q < sh.length := (List.getElem?_eq_some_iff.mp h).1
  by_cases e : k = q
  · subst e
    rw [List.getElem?_set_self hl, wl_get (List.getElem?_set_self hl2)]
  · rw [List.getElem?_set_ne (Ne.symm e)]
    unfold wl
    rw [List.getElem?_mapIdx, List.getElem?_mapIdx, List.getElem?_set_ne (Ne.symm e), hσ k e]
theorem isL_shset {q ci n k kd b kd0 b0 : Nat} {fs : List (Nat × Nat)} (h : sh[q]? = some (ci, n, fs)) (hk : fs[k]? = some (kd0, b0)) (h0 : ¬ kd0 = 1) (h1 : ¬ kd = 1) (q' i : Nat) : isL (sh.set q (ci, n, fs.set k (kd, b))) q' i = isL sh q' i := by
  have hl2 : q < sh.length := (List.getElem?_eq_some_iff.mp h).1
  have hl3 : k < fs.length := (List.getElem?_eq_some_iff.mp hk).1
  unfold isL
  by_cases e : q' = q
  · subst e
    rw [List.getElem?_set_self hl2, h]
    by_cases e2 : i = k
    · subst e2
      simp only [List.getElem?_set_self hl3, hk]
      rw [show (kd == 1) = false by simp [h1], show (kd0 == 1) = false by simp [h0]]
    · simp only [List.getElem?_set_ne (Ne.symm e2)]
  · rw [List.getElem?_set_ne (Ne.symm e)]
theorem A_putF (B : bX x cc Ts own nL rm base n0 shF σF k w) {idx ci j n q q2 kd b b0 : Nat} {ty : FieldType} {fs : List (Nat × Nat)} (hty9 : narrow ty (.ref (base + q2)) = .ref (base + q2) ∧ fits ty (.ref (base + q2)) = true) (hf : aFf Ts own idx ci j ty) (hq : sh[q]? = some (ci, n, fs)) (hk : fs[j]? = some (5, b0)) (hci : ci < 100) (hkd : ¬ kd = 1 ∧ ∀ (ad : Nat → Nat) (z : Int), fval ad q kd b z = .ref (ad q2)) (hd : decode cc pc = .ok (.putfield idx, 3)) (kk : aS x (sh.set q (ci, n, fs.set j (kd, b))) nL (pc + 3) L st σ) : aS x sh nL pc L (vR q2 :: vR q :: st) σ := fun H locs ls cst hH hS hL hV => by
  obtain ⟨v1, rfl, hV1⟩ := aV_R hV
  obtain ⟨v3, rfl, hV2⟩ := aV_R hV1
  have X := B.1
  obtain ⟨C, T, N, ty0, hc, hin, hkN, hw, hC, hty, hnm, hfin, hty0, hdecl⟩ := hf
  have he := wl_get (g := xg x) (σ := σ) hq
  rw [wcell_o _ _ _ _ _ _ hci] at he
  rw [← B.2.2.2.1] at hty9
  refine va_putF X.1 X.2.1 X.2.2.2.2.1 hin ty0 hty hnm X.2.2.2.1 X.2.2.2.2.2.1 hH.1 hH.2.1 hS q he hc j hkN (X.2.2.2.2.1 _ hw) (fun y hy => by rw [hC] at hy; exact hy) hfin B.2.2.1 hdecl (by rw [hty j hkN, hty0]) hty9.1 hty9.2 (by rw [fvals_len]; exact (List.getElem?_eq_some_iff.mp hk).1) hd (fun H1 locs1 hP1 hD1 hS1 => ?_)
  have hw2 : (wl (xg x) sh σ).set q ((xg x).2.2 q, .inr (ci, (fvals (xg x).2.2 q (σ q) 0 fs).set j (.ref ((xg x).2.2 q2)))) = wl (xg x) (sh.set q (ci, n, fs.set j (kd, b))) σ := by
    have e9 := fvals_setk (ad := (xg x).2.2) (q := q) (f := σ q) (z := σ q j) (j := 0) (y := (kd, b)) hk
    rw [show fval (xg x).2.2 q ((kd, b) : Nat × Nat).1 ((kd, b) : Nat × Nat).2 (σ q j) = .ref ((xg x).2.2 q2) from hkd.2 _ _, Nat.zero_add] at e9
    rw [← wl_shset (σ := σ) hq (fun _ _ => rfl), wcell_o _ _ _ _ _ _ hci, e9]
    congr 4
    exact fvals_congr (fun i _ => by
      by_cases e : i = j
      · rw [if_pos e, e]
      · rw [if_neg e])
  rw [hw2] at hP1 hD1
  exact kk H1 locs1 ls _ ⟨hP1, hD1, fun q' i => by rw [isL_shset hq hk (by decide) hkd.1]; exact hH.2.2 q' i⟩ hS1 hL hV2
theorem A_putN (B : bX x cc Ts own nL rm base n0 shF σF k w) {idx ci j n q q2 b0 : Nat} {C2 : String} {fs : List (Nat × Nat)} (hb : q2 < 1000) (hf : aFp Ts own idx ci j (.object C2)) (hq : sh[q]? = some (ci, n, fs)) (hk : fs[j]? = some (5, b0)) (hci : ci < 100) (hd : decode cc pc = .ok (.putfield idx, 3)) (kk : ∀ σ', σ' = hset σ q j (Int.ofNat q2) → aS x (sh.set q (ci, n, fs.set j (3, 0))) nL (pc + 3) L st σ') : aS x sh nL pc L (vR q2 :: vR q :: st) σ := fun H locs ls cst hH hS hL hV => by
  obtain ⟨v1, rfl, hV1⟩ := aV_R hV
  obtain ⟨v3, rfl, hV2⟩ := aV_R hV1
  have X := B.1
  obtain ⟨C, T, N, ty0, hc, hin, hkN, hw, hC, hty, hnm, hfin, hty0⟩ := hf
  have he := wl_get (g := xg x) (σ := σ) hq
  rw [wcell_o _ _ _ _ _ _ hci] at he
  refine va_put X.1 X.2.1 X.2.2.2.2.1 hin ty0 hty hnm X.2.2.2.1 X.2.2.2.2.2.1 hH.1 hH.2.1 hS q he hc j hkN (X.2.2.2.2.1 _ hw) (fun y hy => by rw [hC] at hy; exact hy) hfin (by rw [hty j hkN, hty0]) rfl rfl (by rw [fvals_len]; exact (List.getElem?_eq_some_iff.mp hk).1) hd (fun H1 locs1 hP1 hD1 hS1 => ?_)
  have hw2 : (wl (xg x) sh σ).set q ((xg x).2.2 q, .inr (ci, (fvals (xg x).2.2 q (σ q) 0 fs).set j (.ref ((xg x).2.2 q2)))) = wl (xg x) (sh.set q (ci, n, fs.set j (3, 0))) (hset σ q j (Int.ofNat q2)) := by
    rw [← wl_shset (σ := σ) hq (fun q' h => hset_obj σ q j _ h), wcell_o _ _ _ _ _ _ hci, hset_row]
    have := fvals_setk (ad := (xg x).2.2) (q := q) (f := σ q) (z := Int.ofNat q2) (j := 0) (y := (3, 0)) hk
    rw [Nat.zero_add] at this
    rw [← this]
    rfl
  rw [hw2] at hP1 hD1
  exact kk _ rfl H1 locs1 ls _ ⟨hP1, hD1, fun q' i => by
    rw [isL_shset hq hk (by decide) (by decide)]
    refine wr_set hH.2.2 (rg_w ?_) q' i
    have : Int.ofNat q2 = (q2 : Int) := rfl
    omega⟩ hS1 hL hV2
theorem A_objInit (B : bX x cc Ts own nL rm base n0 shF σF k w) {idx q : Nat} (h1 : Cond.methodLink own idx objectInit ∈ Ts) (h2 : Cond.instanceMethod objectInit ∈ Ts) (h3 : Cond.code objectInit ⟨#[0xb1]⟩ 1 none ∈ Ts) (hf : 1 ≤ rm.frames) (hl2 : aCat st + 12 ≤ rm.locals) (hd : decode cc pc = .ok (.invokespecial idx, 3)) (kk : aS x sh nL (pc + 3) L st σ) : aS x sh nL pc L (vR q :: st) σ := fun H locs ls cst hH hS hL hV => by
  obtain ⟨v1, rfl, hV1⟩ := aV_R hV
  have X := B.1
  obtain ⟨l, hl1, -⟩ := id hL
  have hRm : xR x = rm := X.2.2.2.2.2.2.2.1
  exact W.objInit X.1 X.2.1 X.2.2.2.1 (X.2.2.2.2.1 _ h1) (X.2.2.2.2.1 _ h2) (X.2.2.2.2.1 _ h3) rfl (by show ls.size = _; rw [hl1.1, X.2.2.1]) rfl hd (by rw [hRm]; exact hf) (by rw [hRm]; show 2 * 0 + _ + 12 ≤ _; rw [aV_cat hV1]; omega) (kk H locs ls _ hH hS hL hV1)
theorem A_callI (B : bX x cc Ts own nL rm base n0 shF σF k w) {As : List AV} {σ' : Hp} {sh' : aSh} {maxL idx q na mc ms : Nat} {st0 : List AV} {y : MethodName} {bytes : ByteArray} {ws ws' : List Cond} {rmc : Room} (hM : bMet (xl x) (xg x) base sh y ws rmc (vR q :: As) σ mc ms sh' σ')
    (hG : GoodIn Ts ws) (hw : ws = Cond.code y bytes maxL none :: ws') (hrc : rmc.cells = mc ∧ rmc.slots = ms) (hini : Cond.initialized y.cls ∈ Ts) (hl : Cond.methodLink own idx y ∈ Ts) (hin : Cond.instanceMethod y ∈ Ts) (hy1 : y.name = "<init>") (hy : y.cls ≠ "java/lang/invoke/MethodHandle" ∧ y.cls ≠ "java/lang/invoke/VarHandle" ∧ (parseMethodDescriptor y.desc).map (fun d => d.parameters.length) = some na) (hna : As.length = na)
    (hR : rmc.frames + 1 ≤ rm.frames ∧ 8 + (maxL + 11) + rmc.locals ≤ rm.locals) (hn : sh.length = n0 + k) (h0 : 0 < sh.length) (hrm1 : k + mc ≤ rm.cells) (hrm2 : w + ms ≤ rm.slots) (hst : st0 = As.reverse ++ vR q :: st) (hcat : aCat st ≤ 8) (hd : decode cc pc = .ok (.invokespecial idx, 3))
    (kk : ∀ x', bX x' cc Ts own nL rm base n0 shF σF (k + mc) (w + ms) → aS x' sh' nL (pc + 3) L st σ') : aS x sh nL pc L st0 σ := by
  intro H locs ls cst hH hS hL hV T2 hT Xs
  subst hst
  have X := B.1
  have hRm : xR x = rm := X.2.2.2.2.2.2.2.1
  have hts := X.2.2.2.2.1
  have hsz := B.size hn h0 hH hT Xs
  obtain ⟨c1, c2, rfl, hc1, hc2⟩ := aV_app _ hV
  obtain ⟨c3, rfl, hc3⟩ := aV_R hc2
  have hv : aV (xg x).2.2 c1.reverse As := by have := aV_rev hc1; rwa [List.reverse_reverse] at this
  obtain ⟨l, hl1, -⟩ := id hL
  have hA := aIn X hH hS
  have hpre : ∀ U : State, U.heap = H → (xs x).WarmedH U.vm → va_Pc (.ref ((xg x).2.2 q) :: c1.reverse) (fun U => U.heap.size = base + sh.length ∧ aPc (xg x) sh σ U) (Value.ref ((xg x).2.2 q) :: c1.reverse).toArray U := fun U hU hW => by
    have := aPre (vs := .ref ((xg x).2.2 q) :: c1.reverse) X hH hS U hU hW
    rw [hsz] at this
    exact this
  have hrun : va_Run (xp x) (xl x) (xe x) (xR x) (xs x) (xm x) (xargs x) (xbelow x) (xmeth x) (xc x) H locs (xk x) (xw x) mc ms (F0 (xm x) pc ls (c1 ++ Value.ref ((xg x).2.2 q) :: c3)) c3 (bQc (xg x) sh' σ' (va_A (wl (xg x) sh σ) (base + sh.length)) (Value.ref ((xg x).2.2 q) :: c1.reverse).toArray) (va_A (wl (xg x) sh σ) (base + sh.length)) :=
    va_runI (As := c1.reverse) (rest := c3) ⟨X.1, X.2.1, X.2.2.1, X.2.2.2.1, X.2.2.2.2.1⟩ (hM (.ref ((xg x).2.2 q) :: c1.reverse) ⟨rfl, hv⟩) (cwI na hts hG hw hrc.1 hrc.2 (hts _ hini) (hts _ hl) (hts _ hin) hy1 hy (by rw [hRm]; exact hR)) ⟨aBlind, hpre⟩ rfl (by rw [← hna]; exact aV_len hv) hl1.1 (by show c1 ++ _ = _; rw [List.reverse_reverse]) (lv_room (by rw [aV_cat hc3]; exact hcat)) hd (by rw [hRm, B.2.2.2.2.2.1, B.2.2.2.2.2.2.1]; exact ⟨hrm1, hrm2⟩)
  obtain ⟨v, st₀, t, T', Ls, h9, X', hLs, e1, e2, ⟨⟨hv9, hP, hwr⟩, hsz2, hk⟩, stp⟩ := hrun T2 hT Xs
  cases hv9
  rw [h9] at hsz2 hk
  rw [← hsz] at hk hLs
  obtain ⟨t2, a1, b1⟩ := kk (xup x mc ms) (B.up hrm1 hrm2) T'.heap (locs ++ Ls) ls c3 ⟨by rw [e1]; exact hP, linD B.2.2.2.1 (fun j _ => B.A j), hwr⟩
    ⟨Nat.le_trans hS.1 (by rw [e1]; exact hsz2), fun q h1 h2 => by rw [e1, hk q (Nat.lt_of_lt_of_le h1 hS.1) (fun z => h2 (hA q z))]; exact hS.2.1 q h1 h2, fun q hq => by
      rcases List.mem_append.mp hq with h | h
      · exact hS.2.2 q h
      · exact hA _ (hLs q h)⟩ hL hc3 T' rfl X'
  exact ⟨t2, stp t2 a1, b1⟩
theorem A_callIN (B : bX x cc Ts own nL rm base n0 shF σF k w) {As : List AV} {σ' : Hp} {sh' : aSh} {maxL idx q na mc ms : Nat} {st0 : List AV} {y : MethodName} {bytes : ByteArray} {ws ws' : List Cond} {rmc : Room} (hM : bMet (xl x) (xg x) base sh y ws rmc (vR q :: As) σ mc ms sh' σ')
    (hG : GoodIn Ts ws) (hw : ws = Cond.code y bytes maxL none :: ws') (hrc : rmc.cells = mc ∧ rmc.slots = ms) (hini : Cond.initialized y.cls ∈ Ts) (hl : (own, idx, y) ∈ nestL) (hin : Cond.instanceMethod y ∈ Ts) (hy1 : y.name = "<init>") (hy : y.cls ≠ "java/lang/invoke/MethodHandle" ∧ y.cls ≠ "java/lang/invoke/VarHandle" ∧ (parseMethodDescriptor y.desc).map (fun d => d.parameters.length) = some na) (hna : As.length = na)
    (hR : rmc.frames + 1 ≤ rm.frames ∧ 8 + (maxL + 11) + rmc.locals ≤ rm.locals) (hn : sh.length = n0 + k) (h0 : 0 < sh.length) (hrm1 : k + mc ≤ rm.cells) (hrm2 : w + ms ≤ rm.slots) (hst : st0 = As.reverse ++ vR q :: st) (hcat : aCat st ≤ 8) (hd : decode cc pc = .ok (.invokespecial idx, 3))
    (kk : ∀ x', bX x' cc Ts own nL rm base n0 shF σF (k + mc) (w + ms) → aS x' sh' nL (pc + 3) L st σ') : aS x sh nL pc L st0 σ := by
  intro H locs ls cst hH hS hL hV T2 hT Xs
  subst hst
  have X := B.1
  have hRm : xR x = rm := X.2.2.2.2.2.2.2.1
  have hts := X.2.2.2.2.1
  have hsz := B.size hn h0 hH hT Xs
  obtain ⟨c1, c2, rfl, hc1, hc2⟩ := aV_app _ hV
  obtain ⟨c3, rfl, hc3⟩ := aV_R hc2
  have hv : aV (xg x).2.2 c1.reverse As := by have := aV_rev hc1; rwa [List.reverse_reverse] at this
  obtain ⟨l, hl1, -⟩ := id hL
  have hA := aIn X hH hS
  have hpre : ∀ U : State, U.heap = H → (xs x).WarmedH U.vm → va_Pc (.ref ((xg x).2.2 q) :: c1.reverse) (fun U => U.heap.size = base + sh.length ∧ aPc (xg x) sh σ U) (Value.ref ((xg x).2.2 q) :: c1.reverse).toArray U := fun U hU hW => by
    have := aPre (vs := .ref ((xg x).2.2 q) :: c1.reverse) X hH hS U hU hW
    rw [hsz] at this
    exact this
  have hrun : va_Run (xp x) (xl x) (xe x) (xR x) (xs x) (xm x) (xargs x) (xbelow x) (xmeth x) (xc x) H locs (xk x) (xw x) mc ms (F0 (xm x) pc ls (c1 ++ Value.ref ((xg x).2.2 q) :: c3)) c3 (bQc (xg x) sh' σ' (va_A (wl (xg x) sh σ) (base + sh.length)) (Value.ref ((xg x).2.2 q) :: c1.reverse).toArray) (va_A (wl (xg x) sh σ) (base + sh.length)) :=
    va_runIN (As := c1.reverse) (rest := c3) ⟨X.1, X.2.1, X.2.2.1, X.2.2.2.1, X.2.2.2.2.1⟩ (hM (.ref ((xg x).2.2 q) :: c1.reverse) ⟨rfl, hv⟩) ⟨va_cnB na hts hG hw hrc.1 hrc.2 (B.1.2.2.2.2.2.2.2.2.2.2.1.2 _ hl) (hts _ hini) hy (by rw [hRm]; exact hR), hy1, hts _ hin⟩ ⟨aBlind, hpre⟩ rfl (by rw [← hna]; exact aV_len hv) hl1.1 (by show c1 ++ _ = _; rw [List.reverse_reverse]) (lv_room (by rw [aV_cat hc3]; exact hcat)) hd (by rw [hRm, B.2.2.2.2.2.1, B.2.2.2.2.2.2.1]; exact ⟨hrm1, hrm2⟩)
  obtain ⟨v, st₀, t, T', Ls, h9, X', hLs, e1, e2, ⟨⟨hv9, hP, hwr⟩, hsz2, hk⟩, stp⟩ := hrun T2 hT Xs
  cases hv9
  rw [h9] at hsz2 hk
  rw [← hsz] at hk hLs
  obtain ⟨t2, a1, b1⟩ := kk (xup x mc ms) (B.up hrm1 hrm2) T'.heap (locs ++ Ls) ls c3 ⟨by rw [e1]; exact hP, linD B.2.2.2.1 (fun j _ => B.A j), hwr⟩
    ⟨Nat.le_trans hS.1 (by rw [e1]; exact hsz2), fun q h1 h2 => by rw [e1, hk q (Nat.lt_of_lt_of_le h1 hS.1) (fun z => h2 (hA q z))]; exact hS.2.1 q h1 h2, fun q hq => by
      rcases List.mem_append.mp hq with h | h
      · exact hS.2.2 q h
      · exact hA _ (hLs q h)⟩ hL hc3 T' rfl X'
  exact ⟨t2, stp t2 a1, b1⟩
theorem A_returnB (B : bX x cc Ts own nL rm base n0 sh σ k w) (hk : k = rm.cells) (hw : w = rm.slots) (hd : decode cc pc = .ok (.return_, 1)) : aS x sh nL pc L [] σ := fun H locs ls cst hH hS hL hV => by
  have := aV_nil hV
  subst this
  obtain ⟨X, E, h1, h2, h3, h4, h5, h6⟩ := B
  rw [E.2.2.1, h4, h5, hk, hw]
  have hS' : va_S (xA x) (xs x).heap H locs := by rw [← E.2.2.2]; exact hS
  exact W.vret X.1 X.2.1 E.1 (fun t ht hW => ⟨⟨rfl, by rw [ht]; exact hH.1, hH.2.2⟩, hS'.F ht⟩) hS.2.2 hd E.2.1
theorem bMet_of {l : Launch} {g : aG} {y : MethodName} {ws ws' : List Cond} {As : List AV} {maxL : Nat} {sh' : aSh} {σ' : Hp} {bytes : ByteArray} (hy : plainName y.cls = true) (hy1 : y.name = "<init>") (hw : ws = Cond.code y bytes maxL none :: ws') (hc : aCat As ≤ maxL) (hlin : ∀ j, g.2.2 j = base + j)
    (body : ∀ x : aC, xl x = l → xg x = g → bX x bytes ws y.cls maxL rm base sh.length sh' σ' 0 0 → aS x sh maxL 0 (aArgs 0 As) [] σ) : bMet l g base sh y ws rm As σ rm.cells rm.slots sh' σ' := by
  intro vs hvs
  refine Met.ofW (cc := bytes) (maxL := maxL) (ret := none) hy hw ?_
  intro p e s m args below meth c s₁ B hml hv
  obtain ⟨rfl, hsz, hP, hK, hD0, hwr, hex⟩ := hv
  have hD : va_D (va_A (wl g sh σ) (base + sh.length)) (wl g sh σ) := hD0.self
  have hlen := lg_sl_len hvs
  have hl := lv_entry vs (n := maxL) (by rw [hlen]; exact hc)
  have h := body (0, 0, p, l, e, (headSpec ws rm).room, s, m, vs.toArray, below, meth, c, MQ below (bQc g sh' σ' (va_A (wl g sh σ) (base + sh.length))) vs.toArray s rm.cells rm.slots (va_A (wl g sh σ) (base + sh.length)), g, va_A (wl g sh σ) (base + sh.length), s.heap) rfl rfl
    ⟨⟨B.exec, B.bytes, hml, findClass_of_methodNamed B.named, atoms_spec (ws := ws) B.pre, hK, fun q hq => Or.inr (by rw [← hsz]; exact hq), rfl, Nat.zero_le _, Nat.zero_le _, by rw [← hsz]; exact hex⟩, ⟨B.returns, B.notSynchronized, rfl, rfl⟩, (name_of_methodNamed B.named B.method).1.trans hy1, hlin, hsz, rfl, rfl, fun j hj => by
      have e : sh[j]? = some sh[j] := List.getElem?_eq_getElem hj
      have h9 : va_A (wl g sh σ) (base + sh.length) (g.2.2 j) := va_A.in (sz := base + sh.length) (wl_get (g := g) (σ := σ) e)
      rw [hlin] at h9
      exact h9⟩
  have := h s.heap [] _ [] ⟨hP, hD, hwr⟩ va_S.rf ⟨_, hl, aArgs_ok 0 hvs⟩ trivial
  rw [lg_entry_eq]
  exact this
end BL

