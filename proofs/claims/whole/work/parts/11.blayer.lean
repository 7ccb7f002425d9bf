theorem vr_outer (c : ClassId) (N h0 : Nat) : ∀ i : Nat, Jvm.Free.Multi.outerC c N h0 i = arrV c N (fun j => va_rf (if j < i then some (h0 + 1 + j) else none))
  | 0 => by
    show ({ cls := c, slots := Array.replicate N .null, vm := .none } : Cell) = _
    rw [arrV_new]
    refine congrArg (arrV c N) (funext fun j => ?_)
    simp [va_rf]
  | i + 1 => by
    show (Jvm.Free.Multi.outerC c N h0 i).setSlot i (.ref (h0 + 1 + i)) = _
    rw [vr_outer c N h0 i, arrV_store]
    refine congrArg (arrV c N) (funext fun j => ?_)
    by_cases e : j = i
    · subst e
      simp [updV, va_rf]
    · by_cases h : j < i
      · simp [updV, e, h, Nat.lt_succ_of_lt h]
      · simp [updV, e, h, show ¬ j < i + 1 by omega]
/-! BUILDING: constructors over a world that grows; object k stands at base + k -/
def zrow (σ : Hp) (n : Nat) : Hp := fun q i => if q = n then 0 else σ q i
def zrows (σ : Hp) (n m : Nat) : Hp := fun q i => if n ≤ q ∧ q < n + m then 0 else σ q i
def xup (x : aC) (c s : Nat) : aC := (xk x + c, xw x + s, x.2.2)
def bQc (g : aG) (sh : aSh) (σ : Hp) (A : Nat → Prop) : Array Value → State → Outcome → State → Prop := fun _ st oc t => (oc = .returned none ∧ va_P g.1 vwCl (wl g sh σ) t.heap ∧ wr sh σ) ∧ va_F A st t
def bMet (l : Launch) (g : aG) (base : Nat) (sh : aSh) (y : MethodName) (ws : List Cond) (rm : Room) (As : List AV) (σ : Hp) (mc ms : Nat) (sh' : aSh) (σ' : Hp) : Prop :=
  ∀ vs : List Value, aV g.2.2 vs As → Met l y ws rm (va_Pc vs (fun U => U.heap.size = base + sh.length ∧ aPc g sh σ U)) (bQc g sh' σ' (va_A (wl g sh σ) (base + sh.length))) mc ms (va_A (wl g sh σ) (base + sh.length))
/-- what holds all along a constructor -/
def bX (x : aC) (cc : ByteArray) (Ts : List Cond) (own : String) (nL : Nat) (rm : Room) (base n0 : Nat) (shF : aSh) (σF : Hp) (k w : Nat) : Prop :=
  aX x cc Ts own nL rm ∧ ((xmeth x).sig.returnType = none ∧ (xmeth x).locks = false ∧ xQ x = MQ (xbelow x) (bQc (xg x) shF σF (xA x)) (xargs x) (xs x) rm.cells rm.slots (xA x) ∧ xH x = (xs x).heap) ∧ (xmeth x).name = "<init>" ∧ (∀ j, (xg x).2.2 j = base + j) ∧ (xs x).heap.size = base + n0 ∧ xk x = k ∧ xw x = w ∧ (∀ j, j < n0 → xA x (base + j))
section BL
variable {x : aC} {cc : ByteArray} {Ts : List Cond} {own : String} {nL : Nat} {rm : Room} {sh : aSh} {pc : Nat} {L : List (Nat × AV)} {st : List AV} {σ : Hp} {base n0 : Nat} {shF : aSh} {σF : Hp} {k w : Nat}
theorem bX.up (B : bX x cc Ts own nL rm base n0 shF σF k w) {c s : Nat} (hc : k + c ≤ rm.cells) (hs : w + s ≤ rm.slots) : bX (xup x c s) cc Ts own nL rm base n0 shF σF (k + c) (w + s) := by
  obtain ⟨X, E, h1, h2, h3, h4, h5, h6⟩ := B
  obtain ⟨a1, a2, a3, a4, a5, a6, a7, a8, a9, a10, a11⟩ := X
  exact ⟨⟨a1, a2, a3, a4, a5, a6, a7, a8, by show xk x + c ≤ _; rw [h4]; exact hc, by show xw x + s ≤ _; rw [h5]; exact hs, a11⟩, E, h1, h2, h3, by show xk x + c = _; rw [h4], by show xw x + s = _; rw [h5], h6⟩
theorem aS_xup {c s : Nat} (h : aS (xup x c s) sh nL pc L st σ) {H : Heap} {locs : List Loc} {ls : Array Slot} {cst : List Value} (hH : hR x sh σ H) (hS : va_S (xA x) (xH x) H locs) (hL : aL (xg x).2.2 ls nL L) (hV : aV (xg x).2.2 cst st) : W (xp x) (xl x) (xe x) (xR x) (xs x) (xm x) (xargs x) (xbelow x) (xmeth x) (xc x) H locs (xk x + c) (xw x + s) (xQ x) (F0 (xm x) pc ls cst) := h H locs ls cst hH hS hL hV
theorem wl_len {g : aG} : (wl g sh σ).length = sh.length := by
  unfold wl
  rw [List.length_mapIdx]
theorem linD {g : aG} {A : Nat → Prop} (hlin : ∀ j, g.2.2 j = base + j) (hA : ∀ j, j < sh.length → A (base + j)) : va_D A (wl g sh σ) := by
  refine ⟨fun i j p q hi hj e => ?_, fun k q hk => ?_⟩
  · obtain ⟨x, -, h2⟩ := wl_at hi
    obtain ⟨y, -, h4⟩ := wl_at hj
    subst h2; subst h4
    have e : g.2.2 i = g.2.2 j := e
    rw [hlin, hlin] at e
    omega
  · obtain ⟨x, h1, h2⟩ := wl_at hk
    subst h2
    show A (g.2.2 k)
    rw [hlin]
    exact hA k (List.getElem?_eq_some_iff.mp h1).1
theorem bX.A (B : bX x cc Ts own nL rm base n0 shF σF k w) (j : Nat) : xA x (base + j) := by
  by_cases h : j < n0
  · exact B.2.2.2.2.2.2.2 j h
  · refine B.1.2.2.2.2.2.2.1 _ ?_
    rw [B.2.1.2.2.2, B.2.2.2.2.1]
    omega
theorem bX.size (B : bX x cc Ts own nL rm base n0 shF σF k w) {H : Heap} {locs : List Loc} (hn : sh.length = n0 + k) (h0 : 0 < sh.length) (hH : hR x sh σ H) {T : State} (hT : T.heap = H) (Xs : Stand (xp x) (xl x) (xe x) (xR x) (xs x) (xm x) (xargs x) (xbelow x) (xmeth x) (xc x) T locs (xk x) (xw x)) : H.size = base + sh.length := by
  have h1 : T.heap.size ≤ (xs x).heap.size + xk x := Xs.same.2.2.1
  rw [hT, B.2.2.2.2.1, B.2.2.2.2.2.1] at h1
  have e : sh[sh.length - 1]? = some sh[sh.length - 1] := List.getElem?_eq_getElem (by omega)
  have h2 := (hH.1 _ _ (wl_get (g := xg x) (σ := σ) e)).lt
  have h2 : (xg x).2.2 (sh.length - 1) < H.size := h2
  rw [B.2.2.2.1] at h2
  omega
theorem wl_push {g : aG} {y : aK} {σ' : Hp} (hσ : ∀ q, q < sh.length → σ' q = σ q) : wl g (sh ++ [y]) σ' = wl g sh σ ++ [(g.2.2 sh.length, wcell g sh.length y (σ' sh.length))] := by
  apply List.ext_getElem?
  intro k
  unfold wl
  rw [List.getElem?_mapIdx]
  by_cases h : k < sh.length
  · rw [List.getElem?_append_left h, List.getElem?_append_left (by rw [List.length_mapIdx]; exact h), List.getElem?_mapIdx, hσ k h]
  · rw [List.getElem?_append_right (by omega), List.getElem?_append_right (by rw [List.length_mapIdx]; omega), List.length_mapIdx]
    by_cases e : k = sh.length
    · subst e
      rw [Nat.sub_self]
      rfl
    · rw [List.getElem?_eq_none (by show 1 ≤ _; omega), List.getElem?_eq_none (by show 1 ≤ _; omega)]
      rfl
theorem zrow_old {n q : Nat} (h : q < n) : zrow σ n q = σ q := by
  funext i
  exact if_neg (by omega)
theorem zrow_new {n : Nat} : zrow σ n n = fun _ => 0 := by
  funext i
  exact if_pos rfl
theorem isL_push {y : aK} {q i : Nat} (h : q < sh.length) : isL (sh ++ [y]) q i = isL sh q i := by
  unfold isL
  rw [List.getElem?_append_left h]
theorem rg_0 (b : Bool) : rg b 0 := by cases b <;> (unfold rg; decide)
theorem rg_w {b : Bool} {z : Int} (h : -2147483648 ≤ z ∧ z < 2147483648) : rg b z := by
  cases b
  · exact h
  · show -9223372036854775808 ≤ z ∧ z < 9223372036854775808
    omega
/-- outside the shape all numbers are small anyway -/
theorem wr_push {y : aK} (h : wr sh σ) : wr (sh ++ [y]) (zrow σ sh.length) := by
  intro q i
  unfold zrow
  by_cases e : q = sh.length
  · rw [if_pos e]; exact rg_0 _
  · rw [if_neg e]
    by_cases h2 : q < sh.length
    · rw [isL_push h2]; exact h q i
    · have h3 := h q i
      have : isL sh q i = false := by
        unfold isL
        rw [List.getElem?_eq_none (by omega)]
      rw [this] at h3
      exact rg_w h3
end BL
