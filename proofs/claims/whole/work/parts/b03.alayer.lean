/-! THE ABSTRACT MACHINE: frames with numbers in Int, a world of a fixed shape (objects by number), a row an instruction -/
abbrev AV : Type := Nat × Int
abbrev vI (z : Int) : AV := (0, z)
abbrev vL (z : Int) : AV := (1, z)
abbrev vR (q : Nat) : AV := (2, Int.ofNat q)
abbrev aG : Type := va_G × (Nat → ClassId) × (Nat → Nat)
def cv (ad : Nat → Nat) (a : AV) (v : Value) : Prop := match a.1 with
  | 0 => ∃ x : Int32, v = .int x ∧ x.toInt = a.2
  | 1 => ∃ x : Int64, v = .long x ∧ x.toInt = a.2
  | 2 => v = .ref (ad a.2.toNat)
  | _ => v = .ref a.2.toNat
def aV (ad : Nat → Nat) : List Value → List AV → Prop
  | [], [] => True
  | v :: vs, a :: r => cv ad a v ∧ aV ad vs r
  | _, _ => False
theorem aV_cons {ad : Nat → Nat} {cst : List Value} {a : AV} {r : List AV} (h : aV ad cst (a :: r)) : ∃ v vs, cst = v :: vs ∧ cv ad a v ∧ aV ad vs r := by
  cases cst with
  | nil => exact h.elim
  | cons v vs => exact ⟨v, vs, rfl, h.1, h.2⟩
theorem aV_nil {ad : Nat → Nat} {cst : List Value} (h : aV ad cst []) : cst = [] := by
  cases cst with
  | nil => rfl
  | cons v vs => exact h.elim
theorem aV_I {ad : Nat → Nat} {cst : List Value} {z : Int} {r : List AV} (h : aV ad cst (vI z :: r)) : ∃ (x : Int32) (vs : List Value), cst = .int x :: vs ∧ x.toInt = z ∧ aV ad vs r := by
  obtain ⟨v, vs, e, ⟨x, e1, e2⟩, h2⟩ := aV_cons h
  exact ⟨x, vs, by rw [e, e1], e2, h2⟩
theorem aV_L {ad : Nat → Nat} {cst : List Value} {z : Int} {r : List AV} (h : aV ad cst (vL z :: r)) : ∃ (x : Int64) (vs : List Value), cst = .long x :: vs ∧ x.toInt = z ∧ aV ad vs r := by
  obtain ⟨v, vs, e, ⟨x, e1, e2⟩, h2⟩ := aV_cons h
  exact ⟨x, vs, by rw [e, e1], e2, h2⟩
theorem aV_R {ad : Nat → Nat} {cst : List Value} {q : Nat} {r : List AV} (h : aV ad cst (vR q :: r)) : ∃ (vs : List Value), cst = .ref (ad q) :: vs ∧ aV ad vs r := by
  obtain ⟨v, vs, e, e1, h2⟩ := aV_cons h
  exact ⟨vs, by rw [e]; congr 1, h2⟩
theorem aV_app {ad : Nat → Nat} : ∀ (r1 : List AV) {r2 : List AV} {cst : List Value}, aV ad cst (r1 ++ r2) → ∃ c1 c2, cst = c1 ++ c2 ∧ aV ad c1 r1 ∧ aV ad c2 r2
  | [], r2, cst, h => ⟨[], cst, rfl, trivial, h⟩
  | a :: r1, r2, cst, h => by
    obtain ⟨v, vs, e, h1, h2⟩ := aV_cons (show aV ad cst (a :: (r1 ++ r2)) from h)
    obtain ⟨c1, c2, e2, h3, h4⟩ := aV_app r1 h2
    exact ⟨v :: c1, c2, by rw [e, e2]; rfl, ⟨h1, h3⟩, h4⟩
theorem aV_snoc {ad : Nat → Nat} {v : Value} {a : AV} (hv : cv ad a v) : ∀ {c1 : List Value} {r1 : List AV}, aV ad c1 r1 → aV ad (c1 ++ [v]) (r1 ++ [a])
  | [], [], _ => ⟨hv, trivial⟩
  | [], _ :: _, h => h.elim
  | _ :: _, [], h => h.elim
  | x :: c1, y :: r1, h => ⟨h.1, aV_snoc hv h.2⟩
theorem aV_rev {ad : Nat → Nat} : ∀ {c1 : List Value} {r1 : List AV}, aV ad c1 r1 → aV ad c1.reverse r1.reverse
  | [], [], _ => trivial
  | [], _ :: _, h => h.elim
  | _ :: _, [], h => h.elim
  | x :: c1, y :: r1, h => by
    rw [List.reverse_cons, List.reverse_cons]
    exact aV_snoc h.1 (aV_rev h.2)
theorem aV_len {ad : Nat → Nat} : ∀ {c1 : List Value} {r1 : List AV}, aV ad c1 r1 → c1.length = r1.length
  | [], [], _ => rfl
  | [], _ :: _, h => h.elim
  | _ :: _, [], h => h.elim
  | x :: c1, y :: r1, h => by rw [List.length_cons, List.length_cons, aV_len h.2]
theorem cv_cat {ad : Nat → Nat} {a : AV} {v : Value} (h : cv ad a v) : v.category = if a.1 = 1 then 2 else 1 := by
  obtain ⟨t, z⟩ := a
  match t, h with
  | 0, h => obtain ⟨x, e, -⟩ := h; rw [e]; rfl
  | 1, h => obtain ⟨x, e, -⟩ := h; rw [e]; rfl
  | 2, h => rw [show v = .ref _ from h, if_neg (by show ¬ 2 = 1; omega)]; rfl
  | n + 3, h => rw [show v = .ref _ from h, if_neg (by show ¬ n + 3 = 1; omega)]; rfl
def aCat (st : List AV) : Nat := match st with
  | [] => 0
  | a :: r => (if a.1 = 1 then 2 else 1) + aCat r
theorem aV_cat {ad : Nat → Nat} : ∀ {c1 : List Value} {r1 : List AV}, aV ad c1 r1 → (c1.map fun v => v.category).sum = aCat r1
  | [], [], _ => rfl
  | [], _ :: _, h => h.elim
  | _ :: _, [], h => h.elim
  | x :: c1, y :: r1, h => by
    rw [List.map_cons, List.sum_cons, cv_cat h.1, aV_cat h.2]
    rfl
def aP (ad : Nat → Nat) : List (Nat × Value) → List (Nat × AV) → Prop
  | [], [] => True
  | x :: xs, y :: ys => (x.1 = y.1 ∧ cv ad y.2 x.2) ∧ aP ad xs ys
  | _, _ => False
def aL (ad : Nat → Nat) (ls : Array Slot) (nL : Nat) (L : List (Nat × AV)) : Prop := ∃ l : List (Nat × Value), lv_has ls nL l ∧ aP ad l L
theorem aP_get {ad : Nat → Nat} : ∀ {l : List (Nat × Value)} {L : List (Nat × AV)} {j i : Nat} {a : AV}, aP ad l L → L[j]? = some (i, a) → ∃ v, l[j]? = some (i, v) ∧ cv ad a v
  | [], [], j, i, a, _, h2 => by simp at h2
  | [], _ :: _, _, _, _, h, _ => h.elim
  | _ :: _, [], _, _, _, h, _ => h.elim
  | x :: l, y :: L, 0, i, a, h, h2 => by
    rw [List.getElem?_cons_zero] at h2
    cases h2
    exact ⟨x.2, by rw [List.getElem?_cons_zero]; exact congrArg some (Prod.ext h.1.1 rfl), h.1.2⟩
  | x :: l, y :: L, j + 1, i, a, h, h2 => by
    rw [List.getElem?_cons_succ] at h2 ⊢
    exact aP_get h.2 h2
theorem aP_filter {ad : Nat → Nat} {p : Nat × Value → Bool} {p' : Nat × AV → Bool} (hp : ∀ x y, x.1 = y.1 → cv ad y.2 x.2 → p x = p' y) : ∀ {l : List (Nat × Value)} {L : List (Nat × AV)}, aP ad l L → aP ad (l.filter p) (L.filter p')
  | [], [], _ => trivial
  | [], _ :: _, h => h.elim
  | _ :: _, [], h => h.elim
  | x :: l, y :: L, h => by
    have e := hp x y h.1.1 h.1.2
    rw [List.filter_cons, List.filter_cons, e]
    by_cases q : p' y = true
    · rw [if_pos q, if_pos q]; exact ⟨h.1, aP_filter hp h.2⟩
    · rw [if_neg q, if_neg q]; exact aP_filter hp h.2
def lset (L : List (Nat × AV)) (i : Nat) (a : AV) : List (Nat × AV) := (i, a) :: L.filter (fun q => !(q.1 == i) && !(q.1 + 1 == i && q.2.1 == 1))
def lsetL (L : List (Nat × AV)) (i : Nat) (a : AV) : List (Nat × AV) := (i, a) :: L.filter (fun q => !(q.1 == i) && (!(q.1 == i + 1) && !(q.1 + 1 == i && q.2.1 == 1)))
theorem cv_cat2 {ad : Nat → Nat} {a : AV} {v : Value} (h : cv ad a v) : (v.category == 2) = (a.1 == 1) := by
  rw [cv_cat h]
  by_cases q : a.1 = 1
  · rw [if_pos q, q]; rfl
  · rw [if_neg q]; simp [q]
theorem aP_set {ad : Nat → Nat} {l : List (Nat × Value)} {L : List (Nat × AV)} (h : aP ad l L) (i : Nat) {a : AV} {v : Value} (hv : cv ad a v) : aP ad ((i, v) :: l.filter (fun q => !(q.1 == i) && !(q.1 + 1 == i && q.2.category == 2))) (lset L i a) :=
  ⟨⟨rfl, hv⟩, aP_filter (fun x y e hc => by rw [e, cv_cat2 hc]) h⟩
theorem aP_setL {ad : Nat → Nat} {l : List (Nat × Value)} {L : List (Nat × AV)} (h : aP ad l L) (i : Nat) {a : AV} {v : Value} (hv : cv ad a v) : aP ad ((i, v) :: l.filter (fun q => !(q.1 == i) && (!(q.1 == i + 1) && !(q.1 + 1 == i && q.2.category == 2)))) (lsetL L i a) :=
  ⟨⟨rfl, hv⟩, aP_filter (fun x y e hc => by rw [e, cv_cat2 hc]) h⟩
theorem aP_fm {ad : Nat → Nat} {l : List (Nat × Value)} {L : List (Nat × AV)} (h : aP ad l L) : ∀ (ks : List Nat), (∀ k ∈ ks, k < L.length) → aP ad (ks.filterMap (fun k => l[k]?)) (ks.filterMap (fun k => L[k]?))
  | [], _ => trivial
  | k :: ks, hk => by
    have hk0 : k < L.length := hk k List.mem_cons_self
    have e : L[k]? = some L[k] := List.getElem?_eq_getElem hk0
    obtain ⟨v, e2, hc⟩ := aP_get (i := L[k].1) (a := L[k].2) h e
    rw [List.filterMap_cons, List.filterMap_cons]
    simp only [e, e2]
    exact ⟨⟨rfl, hc⟩, aP_fm h ks (fun k' h' => hk k' (List.mem_cons_of_mem _ h'))⟩
theorem aL_sub {ad : Nat → Nat} {ls : Array Slot} {nL : Nat} {L L' : List (Nat × AV)} (h : aL ad ls nL L) (ks : List Nat) (hk : ks.all (fun k => decide (k < L.length)) = true) (hl : ks.filterMap (fun k => L[k]?) = L') : aL ad ls nL L' := by
  obtain ⟨l, hl1, hp⟩ := h
  subst hl
  exact ⟨_, lv_sub hl1 ks rfl, aP_fm hp ks (fun k h => of_decide_eq_true (List.all_eq_true.mp hk k h))⟩
/-! the world -/
def fval (ad : Nat → Nat) (q k b : Nat) (z : Int) : Value := match k with
  | 0 => .int (Int32.ofInt z)
  | 1 => .long (Int64.ofInt z)
  | 2 => .ref (ad (q + b))
  | 3 => .ref (ad z.toNat)
  | 5 => .null
  | _ => .ref (ad b)
def fvals (ad : Nat → Nat) (q : Nat) (f : Nat → Int) : Nat → List (Nat × Nat) → List Value
  | _, [] => []
  | j, x :: r => fval ad q x.1 x.2 (f j) :: fvals ad q f (j + 1) r
theorem fvals_get {ad : Nat → Nat} {q : Nat} {f : Nat → Int} : ∀ {fl : List (Nat × Nat)} {j k : Nat} {x : Nat × Nat}, fl[k]? = some x → (fvals ad q f j fl)[k]? = some (fval ad q x.1 x.2 (f (j + k)))
  | [], j, k, x, h => by simp at h
  | y :: r, j, 0, x, h => by
    rw [List.getElem?_cons_zero] at h
    cases h
    rfl
  | y :: r, j, k + 1, x, h => by
    rw [List.getElem?_cons_succ] at h
    have h2 := fvals_get (ad := ad) (q := q) (f := f) (j := j + 1) h
    rw [show j + (k + 1) = j + 1 + k by omega]
    exact h2
theorem fvals_len {ad : Nat → Nat} {q : Nat} {f : Nat → Int} : ∀ {fl : List (Nat × Nat)} {j : Nat}, (fvals ad q f j fl).length = fl.length
  | [], j => rfl
  | y :: r, j => by
    show (fvals ad q f (j + 1) r).length + 1 = r.length + 1
    rw [fvals_len]
theorem fvals_congr {ad : Nat → Nat} {q : Nat} {f f' : Nat → Int} : ∀ {fl : List (Nat × Nat)} {j : Nat}, (∀ i, j ≤ i → f i = f' i) → fvals ad q f j fl = fvals ad q f' j fl
  | [], j, _ => rfl
  | y :: r, j, h => by
    show fval ad q y.1 y.2 (f j) :: _ = fval ad q y.1 y.2 (f' j) :: _
    rw [h j (Nat.le_refl j), fvals_congr (fun i hi => h i (by omega))]
theorem fvals_set {ad : Nat → Nat} {q : Nat} {f : Nat → Int} {z : Int} : ∀ {fl : List (Nat × Nat)} {j k : Nat} {x : Nat × Nat}, fl[k]? = some x → (fvals ad q f j fl).set k (fval ad q x.1 x.2 z) = fvals ad q (fun i => if i = j + k then z else f i) j fl
  | [], j, k, x, h => by simp at h
  | y :: r, j, 0, x, h => by
    rw [List.getElem?_cons_zero] at h
    cases h
    show fval ad q y.1 y.2 z :: fvals ad q f (j + 1) r = fval ad q y.1 y.2 (if j = j + 0 then z else f j) :: _
    rw [if_pos (show j = j + 0 from rfl)]
    congr 1
    exact fvals_congr (fun i hi => by rw [if_neg (by omega)])
  | y :: r, j, k + 1, x, h => by
    rw [List.getElem?_cons_succ] at h
    show fval ad q y.1 y.2 (f j) :: (fvals ad q f (j + 1) r).set k _ = fval ad q y.1 y.2 (if j = j + (k + 1) then z else f j) :: _
    rw [if_neg (by omega), fvals_set h]
    congr 1
    exact fvals_congr (fun i hi => by
      by_cases e : i = j + 1 + k
      · rw [if_pos e, if_pos (by omega)]
      · rw [if_neg e, if_neg (by omega)])
def wcell (g : aG) (q : Nat) (x : aK) (f : Nat → Int) : va_E :=
  if x.1 = 100 then .inl (g.2.1 0, x.2.1, .inl (fun j => Int32.ofInt (f j)))
  else if x.1 = 101 then .inl (g.2.1 1, x.2.1, .inr (.inl (fun j => Int64.ofInt (f j))))
  else if x.1 = 102 then .inl (g.2.1 2, x.2.1, .inl (fun j => Int32.ofInt (f j)))
  else if x.1 = 103 then .inl (g.2.1 3, x.2.1, .inl (fun j => Int32.ofInt (f j)))
  else if x.1 = 104 then .inl (g.2.1 4, x.2.1, .inr (.inr (.inr (.inr (fun j => if j < x.2.1 then some (g.2.2 (q + 1 + j)) else none)))))
  else .inr (x.1, fvals g.2.2 q f 0 x.2.2)
theorem wcell_100 (g : aG) (q n : Nat) (r : List (Nat × Nat)) (f : Nat → Int) : wcell g q (100, n, r) f = .inl (g.2.1 0, n, .inl (fun j => Int32.ofInt (f j))) := rfl
theorem wcell_101 (g : aG) (q n : Nat) (r : List (Nat × Nat)) (f : Nat → Int) : wcell g q (101, n, r) f = .inl (g.2.1 1, n, .inr (.inl (fun j => Int64.ofInt (f j)))) := rfl
theorem wcell_102 (g : aG) (q n : Nat) (r : List (Nat × Nat)) (f : Nat → Int) : wcell g q (102, n, r) f = .inl (g.2.1 2, n, .inl (fun j => Int32.ofInt (f j))) := rfl
theorem wcell_103 (g : aG) (q n : Nat) (r : List (Nat × Nat)) (f : Nat → Int) : wcell g q (103, n, r) f = .inl (g.2.1 3, n, .inl (fun j => Int32.ofInt (f j))) := rfl
theorem wcell_104 (g : aG) (q n : Nat) (r : List (Nat × Nat)) (f : Nat → Int) : wcell g q (104, n, r) f = .inl (g.2.1 4, n, .inr (.inr (.inr (.inr (fun j => if j < n then some (g.2.2 (q + 1 + j)) else none))))) := rfl
theorem wcell_o (g : aG) (q ci n : Nat) (r : List (Nat × Nat)) (f : Nat → Int) (h : ci < 100) : wcell g q (ci, n, r) f = .inr (ci, fvals g.2.2 q f 0 r) := by
  unfold wcell
  rw [if_neg (by show ¬ ci = 100; omega), if_neg (by show ¬ ci = 101; omega), if_neg (by show ¬ ci = 102; omega), if_neg (by show ¬ ci = 103; omega), if_neg (by show ¬ ci = 104; omega)]
def wl (g : aG) (sh : aSh) (σ : Hp) : va_W := sh.mapIdx (fun q x => (g.2.2 q, wcell g q x (σ q)))
theorem wl_get {g : aG} {sh : aSh} {σ : Hp} {q : Nat} {x : aK} (h : sh[q]? = some x) : (wl g sh σ)[q]? = some (g.2.2 q, wcell g q x (σ q)) := by
  unfold wl
  rw [List.getElem?_mapIdx, h]
  rfl
theorem wl_at {g : aG} {sh : aSh} {σ : Hp} {q : Nat} {y : Nat × va_E} (h : (wl g sh σ)[q]? = some y) : ∃ x, sh[q]? = some x ∧ y = (g.2.2 q, wcell g q x (σ q)) := by
  unfold wl at h
  rw [List.getElem?_mapIdx] at h
  cases e : sh[q]? with
  | none => rw [e] at h; cases h
  | some x => rw [e] at h; exact ⟨x, rfl, (Option.some.inj h).symm⟩
theorem wl_set {g : aG} {sh : aSh} {σ : Hp} {q i : Nat} {z : Int} {x : aK} (h : sh[q]? = some x) : (wl g sh σ).set q (g.2.2 q, wcell g q x (hset σ q i z q)) = wl g sh (hset σ q i z) := by
  apply List.ext_getElem?
  intro k
  have hl : q < (wl g sh σ).length := (List.getElem?_eq_some_iff.mp (wl_get (g := g) (σ := σ) h)).1
  by_cases e : k = q
  · subst e
    rw [List.getElem?_set_self hl, wl_get h]
  · rw [List.getElem?_set_ne (Ne.symm e)]
    unfold wl
    rw [List.getElem?_mapIdx, List.getElem?_mapIdx, hset_obj σ q i z e]
theorem wl_A {g : aG} {sh : aSh} {σ σ' : Hp} {sz q : Nat} (h : va_A (wl g sh σ) sz q) : va_A (wl g sh σ') sz q := by
  rcases h with ⟨k, e, h⟩ | h
  · obtain ⟨x, h1, h2⟩ := wl_at h
    cases h2
    exact Or.inl ⟨k, _, wl_get h1⟩
  · exact Or.inr h
theorem wl_D {g : aG} {sh : aSh} {σ σ' : Hp} {A : Nat → Prop} (h : va_D A (wl g sh σ)) : va_D A (wl g sh σ') := by
  refine ⟨fun i j p q hi hj e => ?_, fun k q hk => ?_⟩
  · obtain ⟨x, h1, h2⟩ := wl_at hi
    obtain ⟨y, h3, h4⟩ := wl_at hj
    subst h2; subst h4
    exact h.1 i j _ _ (wl_get (σ := σ) h1) (wl_get (σ := σ) h3) e
  · obtain ⟨x, h1, h2⟩ := wl_at hk
    subst h2
    have h9 := h.2 k _ (wl_get (g := g) (σ := σ) h1)
    exact h9
theorem wr_set {sh : aSh} {σ : Hp} (h : wr sh σ) {q i : Nat} {z : Int} (hz : rg (isL sh q i) z) : wr sh (hset σ q i z) := by
  intro q' i'
  unfold hset
  by_cases e : q' = q ∧ i' = i
  · rw [if_pos e, e.1, e.2]; exact hz
  · rw [if_neg e]; exact h q' i'
theorem isL_o {sh : aSh} {q ci n k kd b : Nat} {r : List (Nat × Nat)} (h : sh[q]? = some (ci, n, r)) (hc : ci < 100) (hk : r[k]? = some (kd, b)) : isL sh q k = (kd == 1) := by
  unfold isL
  rw [h]
  simp only [hk]
  have h1 : (ci == 101) = false := by simp; omega
  rw [h1, Bool.false_or, decide_eq_true hc, Bool.true_and]
theorem isL_a {sh : aSh} {q t n k : Nat} {r : List (Nat × Nat)} (h : sh[q]? = some (t, n, r)) (hc : ¬ t < 100) : isL sh q k = (t == 101) := by
  unfold isL
  rw [h]
  simp only []
  rw [decide_eq_false hc, Bool.false_and, Bool.or_false]
/-! the numbers -/
theorem bm_rem (a b : Int32) : (a - a / b * b).toInt = irem a.toInt b.toInt := by
  have h : a - a / b * b = a % b := by
    apply Int32.toInt_inj.mp
    rw [Int32.toInt_sub, Int32.toInt_mul, Int32.toInt_div, Int32.toInt_mod]
    have e : ((a.toInt.tdiv b.toInt).bmod (2 ^ 32) * b.toInt).bmod (2 ^ 32) = (a.toInt.tdiv b.toInt * b.toInt).bmod (2 ^ 32) := by simp
    rw [e, Int.sub_bmod_bmod]
    have e2 : a.toInt - a.toInt.tdiv b.toInt * b.toInt = a.toInt.tmod b.toInt := by
      have := Int.mul_tdiv_add_tmod a.toInt b.toInt
      rw [Int.mul_comm] at this
      omega
    rw [e2, ← Int32.toInt_mod, ← Int32.toInt_ofInt, Int32.ofInt_toInt]
  rw [h, Int32.toInt_mod]
  rfl
theorem bm_lrem (a b : Int64) : (a - a / b * b).toInt = lrem a.toInt b.toInt := by
  have h : a - a / b * b = a % b := by
    apply Int64.toInt_inj.mp
    rw [Int64.toInt_sub, Int64.toInt_mul, Int64.toInt_div, Int64.toInt_mod]
    have e : ((a.toInt.tdiv b.toInt).bmod (2 ^ 64) * b.toInt).bmod (2 ^ 64) = (a.toInt.tdiv b.toInt * b.toInt).bmod (2 ^ 64) := by simp
    rw [e, Int.sub_bmod_bmod]
    have e2 : a.toInt - a.toInt.tdiv b.toInt * b.toInt = a.toInt.tmod b.toInt := by
      have := Int.mul_tdiv_add_tmod a.toInt b.toInt
      rw [Int.mul_comm] at this
      omega
    rw [e2, ← Int64.toInt_mod, ← Int64.toInt_ofInt, Int64.ofInt_toInt]
  rw [h, Int64.toInt_mod]
  rfl
/-! answers -/
theorem gdD {α : Type} {c : Prop} [Decidable c] {r : Option α} {y : α} (h : gd c r = some y) : c ∧ r = some y := by
  unfold gd at h
  by_cases q : c
  · rw [if_pos q] at h; exact ⟨q, h⟩
  · rw [if_neg q] at h; cases h
theorem ltD {α β : Type} {e : β} {f : β → Option α} {y : α} (h : lt e f = some y) (x : β) (hx : x = e) : f x = some y := by
  subst hx; exact h
theorem clD {α : Type} {r : Option (Int × Hp)} {k : Int → Hp → Option α} {y : α} (h : cl2 r k = some y) : ∃ z σ, r = some (z, σ) ∧ k z σ = some y := by
  cases r with
  | none => cases h
  | some x => exact ⟨x.1, x.2, rfl, h⟩
theorem ifT {α : Type} {c : Prop} [Decidable c] {a b : Option α} {y : α} (h : (if c then a else b) = some y) (q : c) : a = some y := by rwa [if_pos q] at h
theorem ifF {α : Type} {c : Prop} [Decidable c] {a b : Option α} {y : α} (h : (if c then a else b) = some y) (q : ¬ c) : b = some y := by rwa [if_neg q] at h
/-! the text constant and the JDK's statics that its methods read -/
def jsT : String := "who alone road worth when taste less doubt or and not all day week wday min max "
def aOA (U : State) : Prop := (Cond.arrayOver (.array .int)).before #[] U = true
theorem aOA.moved {{u U : State}} (hvm : u.vm.Alike U.vm) (h : aOA u) : aOA U := arrayOver_alikeB hvm h
def nestL : List (String × Nat × MethodName) := [(RX11, 29, yX0_init), (RX11, 52, yX5_init), (RX11, 84, yX4_init), (RX7, 11, yX1_init)]
def aNw (U : State) : Prop := ∀ q ∈ nestL, va_Nw (.methodLinkNest q.1 q.2.1 q.2.2 "RoadDeals") U
def sEx (A : Nat → Prop) (U : State) (H : Heap) : Prop := (aOA U ∧ aNw U) ∧  ∃ aK aW : Nat, va_Z "java/lang/String" "COMPACT_STRINGS" "Z" (.int 1) A U H ∧ va_Zq "jdk/internal/util/Preconditions" "SIOOBE_FORMATTER" "Ljava/util/function/BiFunction;" A U H ∧ vk_R "RoadDeals$Scanner" 84 "who alone road worth when taste less doubt or and not all day week wday min max " aK U ∧ vk_S 1 [80] [jsB] (fun _ => aK) (fun _ => aW) A U H
theorem sEx.to {A B : Nat → Prop} {u U : State} {H H1 : Heap} (hW : u.WarmedH U.vm) (hk : ∀ q : Nat, q < H.size → ¬ A q → H1[q]? = H[q]?) (hAB : ∀ q, B q → A q) (h : sEx A u H) : sEx B U H1 := by
  obtain ⟨h0, aK, aW, h1, h2, h3, h4⟩ := h
  exact ⟨⟨h0.1.moved hW.alike, fun q hq => (h0.2 q hq).warmM hW⟩, aK, aW, ((h1.kept hk).narrow hAB).moved hW.alike, ((h2.kept hk).narrow hAB).moved hW.alike, h3.warm hW, ((h4.kept hk).narrow hAB).moved hW.alike⟩
theorem sEx.same {A : Nat → Prop} {u U : State} {H : Heap} (hv : U.vm = u.vm) (h : sEx A u H) : sEx A U H := by
  obtain ⟨h0, aK, aW, h1, h2, h3, h4⟩ := h
  have ha : u.vm.Alike U.vm := by rw [hv]; exact Vm.Alike.refl u.vm
  exact ⟨⟨h0.1.moved ha, fun q hq => (h0.2 q hq).same rfl hv.symm⟩, aK, aW, h1.moved ha, h2.moved ha, h3.same hv, h4.moved ha⟩
/-! the frame -/
def tysA (g : aG) : List (ClassId × FieldType) := [(g.2.1 0, .int), (g.2.1 1, .long), (g.2.1 2, .byte), (g.2.1 3, .boolean), (g.2.1 4, .array .int)]
abbrev aC : Type := Nat × Nat × Program × Launch × Env × Room × State × MethodId × Array Value × List Frame × Method × Code × (State → Prop) × aG × (Nat → Prop) × Heap
abbrev xk (x : aC) : Nat := x.1
abbrev xw (x : aC) : Nat := x.2.1
abbrev xp (x : aC) : Program := x.2.2.1
abbrev xl (x : aC) : Launch := x.2.2.2.1
abbrev xe (x : aC) : Env := x.2.2.2.2.1
abbrev xR (x : aC) : Room := x.2.2.2.2.2.1
abbrev xs (x : aC) : State := x.2.2.2.2.2.2.1
abbrev xm (x : aC) : MethodId := x.2.2.2.2.2.2.2.1
abbrev xargs (x : aC) : Array Value := x.2.2.2.2.2.2.2.2.1
abbrev xbelow (x : aC) : List Frame := x.2.2.2.2.2.2.2.2.2.1
abbrev xmeth (x : aC) : Method := x.2.2.2.2.2.2.2.2.2.2.1
abbrev xc (x : aC) : Code := x.2.2.2.2.2.2.2.2.2.2.2.1
abbrev xQ (x : aC) : (State → Prop) := x.2.2.2.2.2.2.2.2.2.2.2.2.1
abbrev xg (x : aC) : aG := x.2.2.2.2.2.2.2.2.2.2.2.2.2.1
abbrev xA (x : aC) : (Nat → Prop) := x.2.2.2.2.2.2.2.2.2.2.2.2.2.2.1
abbrev xH (x : aC) : Heap := x.2.2.2.2.2.2.2.2.2.2.2.2.2.2.2
def aX (x : aC) (cc : ByteArray) (Ts : List Cond) (own : String) (nL : Nat) (rm : Room) : Prop :=
  (xp x).tables.exec = Jvm.exec ∧ (xc x).code = cc ∧ (xc x).maxLocals = nL ∧ (xs x).vm.findClass own = some (xm x).cls ∧ (∀ w ∈ Ts, w.before (xargs x) (xs x) = true) ∧ va_K (xg x).1 vwCl (tysA (xg x)) (xs x) ∧ (∀ q, (xH x).size ≤ q → xA x q) ∧ xR x = rm ∧ xk x ≤ rm.cells ∧ xw x ≤ rm.slots ∧ sEx (xA x) (xs x) (xH x)
def hR (x : aC) (sh : aSh) (σ : Hp) (H : Heap) : Prop := va_P (xg x).1 vwCl (wl (xg x) sh σ) H ∧ va_D (xA x) (wl (xg x) sh σ) ∧ wr sh σ
def aS (x : aC) (sh : aSh) (nL pc : Nat) (L : List (Nat × AV)) (st : List AV) (σ : Hp) : Prop :=
  ∀ (H : Heap) (locs : List Loc) (ls : Array Slot) (cst : List Value), hR x sh σ H → va_S (xA x) (xH x) H locs → aL (xg x).2.2 ls nL L → aV (xg x).2.2 cst st →
    W (xp x) (xl x) (xe x) (xR x) (xs x) (xm x) (xargs x) (xbelow x) (xmeth x) (xc x) H locs (xk x) (xw x) (xQ x) (F0 (xm x) pc ls cst)
section AL
variable {x : aC} {cc : ByteArray} {Ts : List Cond} {own : String} {nL : Nat} {rm : Room} {sh : aSh} {pc : Nat} {L : List (Nat × AV)} {st : List AV} {σ : Hp}
theorem A_sub {L' : List (Nat × AV)} (ks : List Nat) (hk : ks.all (fun k => decide (k < L.length)) = true) (hl : ks.filterMap (fun k => L[k]?) = L') (k : aS x sh nL pc L' st σ) : aS x sh nL pc L st σ := fun H locs ls cst hH hS hL hV => k H locs ls cst hH hS (aL_sub hL ks hk hl) hV

theorem A_iconst (X : aX x cc Ts own nL rm) {n : Int} {z : Int} (hd : decode cc pc = .ok (.iconst n, 1)) (hz : (Int32.ofInt n).toInt = z) (k : aS x sh nL (pc + 1) L (vI z :: st) σ) : aS x sh nL pc L st σ := fun H locs ls cst hH hS hL hV =>
  lv_iconst X.1 X.2.1 hd rfl (k H locs ls _ hH hS hL ⟨⟨_, rfl, hz⟩, hV⟩)
theorem A_bipush (X : aX x cc Ts own nL rm) {n : Int} {z : Int} (hd : decode cc pc = .ok (.bipush n, 2)) (hz : ((Int8.ofInt n).toInt32).toInt = z) (k : aS x sh nL (pc + 2) L (vI z :: st) σ) : aS x sh nL pc L st σ := fun H locs ls cst hH hS hL hV =>
  lv_bipush X.1 X.2.1 hd rfl (k H locs ls _ hH hS hL ⟨⟨_, rfl, hz⟩, hV⟩)
theorem A_sipush (X : aX x cc Ts own nL rm) {n : Int} {z : Int} (hd : decode cc pc = .ok (.sipush n, 3)) (hz : ((Int16.ofInt n).toInt32).toInt = z) (k : aS x sh nL (pc + 3) L (vI z :: st) σ) : aS x sh nL pc L st σ := fun H locs ls cst hH hS hL hV =>
  lv_sipush X.1 X.2.1 hd rfl (k H locs ls _ hH hS hL ⟨⟨_, rfl, hz⟩, hV⟩)
theorem A_lconst (X : aX x cc Ts own nL rm) {n : Fin 2} {z : Int} (hd : decode cc pc = .ok (.lconst n, 1)) (hz : (Int64.ofNat (n : Nat)).toInt = z) (k : aS x sh nL (pc + 1) L (vL z :: st) σ) : aS x sh nL pc L st σ := fun H locs ls cst hH hS hL hV =>
  lv_lconst X.1 X.2.1 hd rfl (k H locs ls _ hH hS hL ⟨⟨_, rfl, hz⟩, hV⟩)
theorem A_ldc (X : aX x cc Ts own nL rm) {index : Nat} {v : Int32} {z : Int} (hw : Cond.constant own index v ∈ Ts) (hd : decode cc pc = .ok (.ldc index, 2)) (hz : v.toInt = z) (k : aS x sh nL (pc + 2) L (vI z :: st) σ) : aS x sh nL pc L st σ := fun H locs ls cst hH hS hL hV =>
  lv_ldc X.1 X.2.1 X.2.2.2.1 (X.2.2.2.2.1 _ hw) hd (k H locs ls _ hH hS hL ⟨⟨_, rfl, hz⟩, hV⟩)
theorem A_ldcw (X : aX x cc Ts own nL rm) {index : Nat} {v : Int32} {z : Int} (hw : Cond.constant own index v ∈ Ts) (hd : decode cc pc = .ok (.ldc_w index, 3)) (hz : v.toInt = z) (k : aS x sh nL (pc + 3) L (vI z :: st) σ) : aS x sh nL pc L st σ := fun H locs ls cst hH hS hL hV =>
  lv_ldcw X.1 X.2.1 X.2.2.2.1 (X.2.2.2.2.1 _ hw) hd (k H locs ls _ hH hS hL ⟨⟨_, rfl, hz⟩, hV⟩)
theorem A_ldc2 (X : aX x cc Ts own nL rm) {index : Nat} {v : Int64} {z : Int} (hw : Cond.constantLong own index v ∈ Ts) (hd : decode cc pc = .ok (.ldc2_w index, 3)) (hz : v.toInt = z) (k : aS x sh nL (pc + 3) L (vL z :: st) σ) : aS x sh nL pc L st σ := fun H locs ls cst hH hS hL hV =>
  lv_ldc2 X.1 X.2.1 X.2.2.2.1 (X.2.2.2.2.1 _ hw) hd (k H locs ls _ hH hS hL ⟨⟨_, rfl, hz⟩, hV⟩)
theorem A_iload_n (X : aX x cc Ts own nL rm) {k4 : Fin 4} {i : Nat} {z : Int} (j : Nat) (hj : L[j]? = some (i, vI z)) (hi : (k4 : Nat) = i) (hd : decode cc pc = .ok (.iload_n k4, 1)) (k : aS x sh nL (pc + 1) L (vI z :: st) σ) : aS x sh nL pc L st σ := fun H locs ls cst hH hS hL hV => by
  obtain ⟨l, hl, hp⟩ := id hL
  obtain ⟨v, h1, y, rfl, h3⟩ := aP_get hp hj
  exact lv_iload_n X.1 X.2.1 hd hi (lv_at hl j h1) (k H locs ls _ hH hS hL ⟨⟨_, rfl, h3⟩, hV⟩)
theorem A_iload (X : aX x cc Ts own nL rm) {i : Nat} {z : Int} (j : Nat) (hj : L[j]? = some (i, vI z)) (hd : decode cc pc = .ok (.iload i, 2)) (k : aS x sh nL (pc + 2) L (vI z :: st) σ) : aS x sh nL pc L st σ := fun H locs ls cst hH hS hL hV => by
  obtain ⟨l, hl, hp⟩ := id hL
  obtain ⟨v, h1, y, rfl, h3⟩ := aP_get hp hj
  exact lv_iload X.1 X.2.1 hd (lv_at hl j h1) (k H locs ls _ hH hS hL ⟨⟨_, rfl, h3⟩, hV⟩)
theorem A_lload_n (X : aX x cc Ts own nL rm) {k4 : Fin 4} {i : Nat} {z : Int} (j : Nat) (hj : L[j]? = some (i, vL z)) (hi : (k4 : Nat) = i) (hd : decode cc pc = .ok (.lload_n k4, 1)) (k : aS x sh nL (pc + 1) L (vL z :: st) σ) : aS x sh nL pc L st σ := fun H locs ls cst hH hS hL hV => by
  obtain ⟨l, hl, hp⟩ := id hL
  obtain ⟨v, h1, y, rfl, h3⟩ := aP_get hp hj
  exact lv_lload_n X.1 X.2.1 hd hi (lv_at hl j h1) (k H locs ls _ hH hS hL ⟨⟨_, rfl, h3⟩, hV⟩)
theorem A_lload (X : aX x cc Ts own nL rm) {i : Nat} {z : Int} (j : Nat) (hj : L[j]? = some (i, vL z)) (hd : decode cc pc = .ok (.lload i, 2)) (k : aS x sh nL (pc + 2) L (vL z :: st) σ) : aS x sh nL pc L st σ := fun H locs ls cst hH hS hL hV => by
  obtain ⟨l, hl, hp⟩ := id hL
  obtain ⟨v, h1, y, rfl, h3⟩ := aP_get hp hj
  exact lv_lload X.1 X.2.1 hd (lv_at hl j h1) (k H locs ls _ hH hS hL ⟨⟨_, rfl, h3⟩, hV⟩)
theorem A_aload_n (X : aX x cc Ts own nL rm) {k4 : Fin 4} {i q : Nat} (j : Nat) (hj : L[j]? = some (i, vR q)) (hi : (k4 : Nat) = i) (hd : decode cc pc = .ok (.aload_n k4, 1)) (k : aS x sh nL (pc + 1) L (vR q :: st) σ) : aS x sh nL pc L st σ := fun H locs ls cst hH hS hL hV => by
  obtain ⟨l, hl, hp⟩ := id hL
  obtain ⟨v, h1, h3⟩ := aP_get hp hj
  have h3 : v = .ref ((xg x).2.2 q) := h3
  subst h3
  exact lv_aload_n X.1 X.2.1 hd hi (lv_at hl j h1) (k H locs ls _ hH hS hL ⟨rfl, hV⟩)
theorem A_aload (X : aX x cc Ts own nL rm) {i q : Nat} (j : Nat) (hj : L[j]? = some (i, vR q)) (hd : decode cc pc = .ok (.aload i, 2)) (k : aS x sh nL (pc + 2) L (vR q :: st) σ) : aS x sh nL pc L st σ := fun H locs ls cst hH hS hL hV => by
  obtain ⟨l, hl, hp⟩ := id hL
  obtain ⟨v, h1, h3⟩ := aP_get hp hj
  have h3 : v = .ref ((xg x).2.2 q) := h3
  subst h3
  exact lv_aload X.1 X.2.1 hd (lv_at hl j h1) (k H locs ls _ hH hS hL ⟨rfl, hV⟩)
theorem A_istore_n (X : aX x cc Ts own nL rm) {k4 : Fin 4} {i : Nat} {z : Int} {L' : List (Nat × AV)} (hi : (k4 : Nat) = i) (hn : i < nL) (hl : lset L i (vI z) = L') (hd : decode cc pc = .ok (.istore_n k4, 1)) (k : aS x sh nL (pc + 1) L' st σ) : aS x sh nL pc L (vI z :: st) σ := fun H locs ls cst hH hS hL hV => by
  obtain ⟨y, vs, rfl, e, hV1⟩ := aV_I hV
  obtain ⟨l, hl1, hp⟩ := hL
  subst hl
  exact lv_istore_n X.1 X.2.1 hd hi hl1 hn rfl (fun ls' hl' => k H locs ls' vs hH hS ⟨_, hl', aP_set hp i ⟨_, rfl, e⟩⟩ hV1)
theorem A_istore_nN (X : aX x cc Ts own nL rm) {k4 : Fin 4} {i : Nat} {z : Int} {L' : Int → List (Nat × AV)} (hi : (k4 : Nat) = i) (hn : i < nL) (hl : ∀ y, lset L i (vI y) = L' y) (hd : decode cc pc = .ok (.istore_n k4, 1)) (k : ∀ y, y = z → aS x sh nL (pc + 1) (L' y) st σ) : aS x sh nL pc L (vI z :: st) σ := A_istore_n X hi hn (hl z) hd (k z rfl)
theorem A_istore (X : aX x cc Ts own nL rm) {i : Nat} {z : Int} {L' : List (Nat × AV)} (hn : i < nL) (hl : lset L i (vI z) = L') (hd : decode cc pc = .ok (.istore i, 2)) (k : aS x sh nL (pc + 2) L' st σ) : aS x sh nL pc L (vI z :: st) σ := fun H locs ls cst hH hS hL hV => by
  obtain ⟨y, vs, rfl, e, hV1⟩ := aV_I hV
  obtain ⟨l, hl1, hp⟩ := hL
  subst hl
  exact lv_istore X.1 X.2.1 hd hl1 hn rfl (fun ls' hl' => k H locs ls' vs hH hS ⟨_, hl', aP_set hp i ⟨_, rfl, e⟩⟩ hV1)
theorem A_istoreN (X : aX x cc Ts own nL rm) {i : Nat} {z : Int} {L' : Int → List (Nat × AV)} (hn : i < nL) (hl : ∀ y, lset L i (vI y) = L' y) (hd : decode cc pc = .ok (.istore i, 2)) (k : ∀ y, y = z → aS x sh nL (pc + 2) (L' y) st σ) : aS x sh nL pc L (vI z :: st) σ := A_istore X hn (hl z) hd (k z rfl)
theorem A_lstore_n (X : aX x cc Ts own nL rm) {k4 : Fin 4} {i : Nat} {z : Int} {L' : List (Nat × AV)} (hi : (k4 : Nat) = i) (hn : i + 1 < nL) (hl : lsetL L i (vL z) = L') (hd : decode cc pc = .ok (.lstore_n k4, 1)) (k : aS x sh nL (pc + 1) L' st σ) : aS x sh nL pc L (vL z :: st) σ := fun H locs ls cst hH hS hL hV => by
  obtain ⟨y, vs, rfl, e, hV1⟩ := aV_L hV
  obtain ⟨l, hl1, hp⟩ := hL
  subst hl
  exact lv_lstore_n X.1 X.2.1 hd hi hl1 hn rfl (fun ls' hl' => k H locs ls' vs hH hS ⟨_, hl', aP_setL hp i ⟨_, rfl, e⟩⟩ hV1)
theorem A_lstore_nN (X : aX x cc Ts own nL rm) {k4 : Fin 4} {i : Nat} {z : Int} {L' : Int → List (Nat × AV)} (hi : (k4 : Nat) = i) (hn : i + 1 < nL) (hl : ∀ y, lsetL L i (vL y) = L' y) (hd : decode cc pc = .ok (.lstore_n k4, 1)) (k : ∀ y, y = z → aS x sh nL (pc + 1) (L' y) st σ) : aS x sh nL pc L (vL z :: st) σ := A_lstore_n X hi hn (hl z) hd (k z rfl)
theorem A_lstore (X : aX x cc Ts own nL rm) {i : Nat} {z : Int} {L' : List (Nat × AV)} (hn : i + 1 < nL) (hl : lsetL L i (vL z) = L') (hd : decode cc pc = .ok (.lstore i, 2)) (k : aS x sh nL (pc + 2) L' st σ) : aS x sh nL pc L (vL z :: st) σ := fun H locs ls cst hH hS hL hV => by
  obtain ⟨y, vs, rfl, e, hV1⟩ := aV_L hV
  obtain ⟨l, hl1, hp⟩ := hL
  subst hl
  exact lv_lstore X.1 X.2.1 hd hl1 hn rfl (fun ls' hl' => k H locs ls' vs hH hS ⟨_, hl', aP_setL hp i ⟨_, rfl, e⟩⟩ hV1)
theorem A_lstoreN (X : aX x cc Ts own nL rm) {i : Nat} {z : Int} {L' : Int → List (Nat × AV)} (hn : i + 1 < nL) (hl : ∀ y, lsetL L i (vL y) = L' y) (hd : decode cc pc = .ok (.lstore i, 2)) (k : ∀ y, y = z → aS x sh nL (pc + 2) (L' y) st σ) : aS x sh nL pc L (vL z :: st) σ := A_lstore X hn (hl z) hd (k z rfl)
theorem A_astore_n (X : aX x cc Ts own nL rm) {k4 : Fin 4} {i q : Nat} {L' : List (Nat × AV)} (hi : (k4 : Nat) = i) (hn : i < nL) (hl : lset L i (vR q) = L') (hd : decode cc pc = .ok (.astore_n k4, 1)) (k : aS x sh nL (pc + 1) L' st σ) : aS x sh nL pc L (vR q :: st) σ := fun H locs ls cst hH hS hL hV => by
  obtain ⟨vs, rfl, hV1⟩ := aV_R hV
  obtain ⟨l, hl1, hp⟩ := hL
  subst hl
  exact lv_astore_n X.1 X.2.1 hd hi hl1 hn rfl (fun ls' hl' => k H locs ls' vs hH hS ⟨_, hl', aP_set (a := vR q) hp i rfl⟩ hV1)
theorem A_astore (X : aX x cc Ts own nL rm) {i q : Nat} {L' : List (Nat × AV)} (hn : i < nL) (hl : lset L i (vR q) = L') (hd : decode cc pc = .ok (.astore i, 2)) (k : aS x sh nL (pc + 2) L' st σ) : aS x sh nL pc L (vR q :: st) σ := fun H locs ls cst hH hS hL hV => by
  obtain ⟨vs, rfl, hV1⟩ := aV_R hV
  obtain ⟨l, hl1, hp⟩ := hL
  subst hl
  exact lv_astore X.1 X.2.1 hd hl1 hn rfl (fun ls' hl' => k H locs ls' vs hH hS ⟨_, hl', aP_set (a := vR q) hp i rfl⟩ hV1)
theorem A_iinc (X : aX x cc Ts own nL rm) {i : Nat} {n z : Int} {L' : Int → List (Nat × AV)} (j : Nat) (hj : L[j]? = some (i, vI z)) (hn : i < nL) (hl : ∀ y, lset L i (vI y) = L' y) (hd : decode cc pc = .ok (.iinc i n, 3)) (hr : (Int32.ofInt n).toInt = n) (k : ∀ y, y = iadd z n → aS x sh nL (pc + 3) (L' y) st σ) : aS x sh nL pc L st σ := fun H locs ls cst hH hS hL hV => by
  obtain ⟨l, hl1, hp⟩ := id hL
  obtain ⟨v, h1, y, rfl, h3⟩ := aP_get hp hj
  refine lv_iinc X.1 X.2.1 hd hl1 h1 rfl hn rfl (fun ls' hl' => k (iadd z n) rfl H locs ls' cst hH hS ⟨_, hl', ?_⟩ hV)
  rw [← hl]
  refine aP_set hp i ⟨_, rfl, ?_⟩
  rw [Int32.toInt_add, h3, hr]
  rfl
theorem A_iincW (X : aX x cc Ts own nL rm) {i : Nat} {n z : Int} {L' : Int → List (Nat × AV)} (j : Nat) (hj : L[j]? = some (i, vI z)) (hn : i < nL) (hl : ∀ y, lset L i (vI y) = L' y) (hd : decode cc pc = .ok (.iinc i n, 6)) (hr : (Int32.ofInt n).toInt = n) (k : ∀ y, y = iadd z n → aS x sh nL (pc + 6) (L' y) st σ) : aS x sh nL pc L st σ := fun H locs ls cst hH hS hL hV => by
  obtain ⟨l, hl1, hp⟩ := id hL
  obtain ⟨v, h1, y, rfl, h3⟩ := aP_get hp hj
  refine lv_iincW X.1 X.2.1 hd hl1 h1 rfl hn rfl (fun ls' hl' => k (iadd z n) rfl H locs ls' cst hH hS ⟨_, hl', ?_⟩ hV)
  rw [← hl]
  refine aP_set hp i ⟨_, rfl, ?_⟩
  rw [Int32.toInt_add, h3, hr]
  rfl
theorem A_iadd (X : aX x cc Ts own nL rm) {a b : Int} (hd : decode cc pc = .ok (.iadd, 1)) (k : aS x sh nL (pc + 1) L (vI (iadd a b) :: st) σ) : aS x sh nL pc L (vI b :: vI a :: st) σ := fun H locs ls cst hH hS hL hV => by
  obtain ⟨yb, v1, rfl, eb, hV1⟩ := aV_I hV
  obtain ⟨ya, v2, rfl, ea, hV2⟩ := aV_I hV1
  exact lv_iadd X.1 X.2.1 hd (k H locs ls _ hH hS hL ⟨⟨_, rfl, by rw [Int32.toInt_add, ea, eb]; rfl⟩, hV2⟩)
theorem A_isub (X : aX x cc Ts own nL rm) {a b : Int} (hd : decode cc pc = .ok (.isub, 1)) (k : aS x sh nL (pc + 1) L (vI (isub a b) :: st) σ) : aS x sh nL pc L (vI b :: vI a :: st) σ := fun H locs ls cst hH hS hL hV => by
  obtain ⟨yb, v1, rfl, eb, hV1⟩ := aV_I hV
  obtain ⟨ya, v2, rfl, ea, hV2⟩ := aV_I hV1
  exact lv_isub X.1 X.2.1 hd (k H locs ls _ hH hS hL ⟨⟨_, rfl, by rw [Int32.toInt_sub, ea, eb]; rfl⟩, hV2⟩)
theorem A_imul (X : aX x cc Ts own nL rm) {a b : Int} (hd : decode cc pc = .ok (.imul, 1)) (k : aS x sh nL (pc + 1) L (vI (imul a b) :: st) σ) : aS x sh nL pc L (vI b :: vI a :: st) σ := fun H locs ls cst hH hS hL hV => by
  obtain ⟨yb, v1, rfl, eb, hV1⟩ := aV_I hV
  obtain ⟨ya, v2, rfl, ea, hV2⟩ := aV_I hV1
  exact lv_imul X.1 X.2.1 hd (k H locs ls _ hH hS hL ⟨⟨_, rfl, by rw [Int32.toInt_mul, ea, eb]; rfl⟩, hV2⟩)
theorem A_iand (X : aX x cc Ts own nL rm) {a b : Int} (hd : decode cc pc = .ok (.iand, 1)) (k : aS x sh nL (pc + 1) L (vI (iand a b) :: st) σ) : aS x sh nL pc L (vI b :: vI a :: st) σ := fun H locs ls cst hH hS hL hV => by
  obtain ⟨yb, v1, rfl, eb, hV1⟩ := aV_I hV
  obtain ⟨ya, v2, rfl, ea, hV2⟩ := aV_I hV1
  exact lv_iand X.1 X.2.1 hd (k H locs ls _ hH hS hL ⟨⟨_, rfl, by unfold iand; rw [← ea, ← eb, Int32.ofInt_toInt, Int32.ofInt_toInt]⟩, hV2⟩)
theorem A_ior (X : aX x cc Ts own nL rm) {a b : Int} (hd : decode cc pc = .ok (.ior, 1)) (k : aS x sh nL (pc + 1) L (vI (ior a b) :: st) σ) : aS x sh nL pc L (vI b :: vI a :: st) σ := fun H locs ls cst hH hS hL hV => by
  obtain ⟨yb, v1, rfl, eb, hV1⟩ := aV_I hV
  obtain ⟨ya, v2, rfl, ea, hV2⟩ := aV_I hV1
  exact lv_ior X.1 X.2.1 hd (k H locs ls _ hH hS hL ⟨⟨_, rfl, by unfold ior; rw [← ea, ← eb, Int32.ofInt_toInt, Int32.ofInt_toInt]⟩, hV2⟩)
theorem A_ixor (X : aX x cc Ts own nL rm) {a b : Int} (hd : decode cc pc = .ok (.ixor, 1)) (k : aS x sh nL (pc + 1) L (vI (ixor a b) :: st) σ) : aS x sh nL pc L (vI b :: vI a :: st) σ := fun H locs ls cst hH hS hL hV => by
  obtain ⟨yb, v1, rfl, eb, hV1⟩ := aV_I hV
  obtain ⟨ya, v2, rfl, ea, hV2⟩ := aV_I hV1
  exact lv_ixor X.1 X.2.1 hd (k H locs ls _ hH hS hL ⟨⟨_, rfl, by unfold ixor; rw [← ea, ← eb, Int32.ofInt_toInt, Int32.ofInt_toInt]⟩, hV2⟩)
theorem A_ishl (X : aX x cc Ts own nL rm) {a b : Int} (hd : decode cc pc = .ok (.ishl, 1)) (k : aS x sh nL (pc + 1) L (vI (ishl a b) :: st) σ) : aS x sh nL pc L (vI b :: vI a :: st) σ := fun H locs ls cst hH hS hL hV => by
  obtain ⟨yb, v1, rfl, eb, hV1⟩ := aV_I hV
  obtain ⟨ya, v2, rfl, ea, hV2⟩ := aV_I hV1
  exact lv_ishl X.1 X.2.1 hd (k H locs ls _ hH hS hL ⟨⟨_, rfl, by unfold ishl; rw [← ea, ← eb, Int32.ofInt_toInt, Int32.ofInt_toInt]⟩, hV2⟩)
theorem A_ishr (X : aX x cc Ts own nL rm) {a b : Int} (hd : decode cc pc = .ok (.ishr, 1)) (k : aS x sh nL (pc + 1) L (vI (ishr a b) :: st) σ) : aS x sh nL pc L (vI b :: vI a :: st) σ := fun H locs ls cst hH hS hL hV => by
  obtain ⟨yb, v1, rfl, eb, hV1⟩ := aV_I hV
  obtain ⟨ya, v2, rfl, ea, hV2⟩ := aV_I hV1
  exact lv_ishr X.1 X.2.1 hd (k H locs ls _ hH hS hL ⟨⟨_, rfl, by unfold ishr; rw [← ea, ← eb, Int32.ofInt_toInt, Int32.ofInt_toInt]⟩, hV2⟩)
theorem A_ladd (X : aX x cc Ts own nL rm) {a b : Int} (hd : decode cc pc = .ok (.ladd, 1)) (k : aS x sh nL (pc + 1) L (vL (ladd a b) :: st) σ) : aS x sh nL pc L (vL b :: vL a :: st) σ := fun H locs ls cst hH hS hL hV => by
  obtain ⟨yb, v1, rfl, eb, hV1⟩ := aV_L hV
  obtain ⟨ya, v2, rfl, ea, hV2⟩ := aV_L hV1
  exact lv_ladd X.1 X.2.1 hd (k H locs ls _ hH hS hL ⟨⟨_, rfl, by rw [Int64.toInt_add, ea, eb]; rfl⟩, hV2⟩)
theorem A_lsub (X : aX x cc Ts own nL rm) {a b : Int} (hd : decode cc pc = .ok (.lsub, 1)) (k : aS x sh nL (pc + 1) L (vL (lsub a b) :: st) σ) : aS x sh nL pc L (vL b :: vL a :: st) σ := fun H locs ls cst hH hS hL hV => by
  obtain ⟨yb, v1, rfl, eb, hV1⟩ := aV_L hV
  obtain ⟨ya, v2, rfl, ea, hV2⟩ := aV_L hV1
  exact lv_lsub X.1 X.2.1 hd (k H locs ls _ hH hS hL ⟨⟨_, rfl, by rw [Int64.toInt_sub, ea, eb]; rfl⟩, hV2⟩)
theorem A_lmul (X : aX x cc Ts own nL rm) {a b : Int} (hd : decode cc pc = .ok (.lmul, 1)) (k : aS x sh nL (pc + 1) L (vL (lmul a b) :: st) σ) : aS x sh nL pc L (vL b :: vL a :: st) σ := fun H locs ls cst hH hS hL hV => by
  obtain ⟨yb, v1, rfl, eb, hV1⟩ := aV_L hV
  obtain ⟨ya, v2, rfl, ea, hV2⟩ := aV_L hV1
  exact lv_lmul X.1 X.2.1 hd (k H locs ls _ hH hS hL ⟨⟨_, rfl, by rw [Int64.toInt_mul, ea, eb]; rfl⟩, hV2⟩)
theorem A_land (X : aX x cc Ts own nL rm) {a b : Int} (hd : decode cc pc = .ok (.land, 1)) (k : aS x sh nL (pc + 1) L (vL (land a b) :: st) σ) : aS x sh nL pc L (vL b :: vL a :: st) σ := fun H locs ls cst hH hS hL hV => by
  obtain ⟨yb, v1, rfl, eb, hV1⟩ := aV_L hV
  obtain ⟨ya, v2, rfl, ea, hV2⟩ := aV_L hV1
  exact lv_land X.1 X.2.1 hd (k H locs ls _ hH hS hL ⟨⟨_, rfl, by unfold land; rw [← ea, ← eb, Int64.ofInt_toInt, Int64.ofInt_toInt]⟩, hV2⟩)
theorem A_lor (X : aX x cc Ts own nL rm) {a b : Int} (hd : decode cc pc = .ok (.lor, 1)) (k : aS x sh nL (pc + 1) L (vL (lor a b) :: st) σ) : aS x sh nL pc L (vL b :: vL a :: st) σ := fun H locs ls cst hH hS hL hV => by
  obtain ⟨yb, v1, rfl, eb, hV1⟩ := aV_L hV
  obtain ⟨ya, v2, rfl, ea, hV2⟩ := aV_L hV1
  exact lv_lor X.1 X.2.1 hd (k H locs ls _ hH hS hL ⟨⟨_, rfl, by unfold lor; rw [← ea, ← eb, Int64.ofInt_toInt, Int64.ofInt_toInt]⟩, hV2⟩)
theorem A_idiv (X : aX x cc Ts own nL rm) {a b : Int} (hne : ¬ b = 0) (hd : decode cc pc = .ok (.idiv, 1)) (k : aS x sh nL (pc + 1) L (vI (idiv a b) :: st) σ) : aS x sh nL pc L (vI b :: vI a :: st) σ := fun H locs ls cst hH hS hL hV => by
  obtain ⟨yb, v1, rfl, eb, hV1⟩ := aV_I hV
  obtain ⟨ya, v2, rfl, ea, hV2⟩ := aV_I hV1
  exact lv_idiv X.1 X.2.1 hd (fun q => hne (by rw [← eb, q]; rfl)) (k H locs ls _ hH hS hL ⟨⟨_, rfl, by rw [Int32.toInt_div, ea, eb]; rfl⟩, hV2⟩)
theorem A_irem (X : aX x cc Ts own nL rm) {a b : Int} (hne : ¬ b = 0) (hd : decode cc pc = .ok (.irem, 1)) (k : aS x sh nL (pc + 1) L (vI (irem a b) :: st) σ) : aS x sh nL pc L (vI b :: vI a :: st) σ := fun H locs ls cst hH hS hL hV => by
  obtain ⟨yb, v1, rfl, eb, hV1⟩ := aV_I hV
  obtain ⟨ya, v2, rfl, ea, hV2⟩ := aV_I hV1
  exact lv_irem X.1 X.2.1 hd (fun q => hne (by rw [← eb, q]; rfl)) (k H locs ls _ hH hS hL ⟨⟨_, rfl, by rw [bm_rem, ea, eb]⟩, hV2⟩)
theorem A_ldiv (X : aX x cc Ts own nL rm) {a b : Int} (hne : ¬ b = 0) (hd : decode cc pc = .ok (.ldiv, 1)) (k : aS x sh nL (pc + 1) L (vL (ldiv a b) :: st) σ) : aS x sh nL pc L (vL b :: vL a :: st) σ := fun H locs ls cst hH hS hL hV => by
  obtain ⟨yb, v1, rfl, eb, hV1⟩ := aV_L hV
  obtain ⟨ya, v2, rfl, ea, hV2⟩ := aV_L hV1
  exact lv_ldiv X.1 X.2.1 hd (fun q => hne (by rw [← eb, q]; rfl)) (k H locs ls _ hH hS hL ⟨⟨_, rfl, by rw [Int64.toInt_div, ea, eb]; rfl⟩, hV2⟩)
theorem A_lrem (X : aX x cc Ts own nL rm) {a b : Int} (hne : ¬ b = 0) (hd : decode cc pc = .ok (.lrem, 1)) (k : aS x sh nL (pc + 1) L (vL (lrem a b) :: st) σ) : aS x sh nL pc L (vL b :: vL a :: st) σ := fun H locs ls cst hH hS hL hV => by
  obtain ⟨yb, v1, rfl, eb, hV1⟩ := aV_L hV
  obtain ⟨ya, v2, rfl, ea, hV2⟩ := aV_L hV1
  exact lv_lrem X.1 X.2.1 hd (fun q => hne (by rw [← eb, q]; rfl)) (k H locs ls _ hH hS hL ⟨⟨_, rfl, by rw [bm_lrem, ea, eb]⟩, hV2⟩)
theorem A_ineg (X : aX x cc Ts own nL rm) {a : Int} (hd : decode cc pc = .ok (.ineg, 1)) (k : aS x sh nL (pc + 1) L (vI (ineg a) :: st) σ) : aS x sh nL pc L (vI a :: st) σ := fun H locs ls cst hH hS hL hV => by
  obtain ⟨ya, v2, rfl, ea, hV1⟩ := aV_I hV
  exact lv_ineg X.1 X.2.1 hd (k H locs ls _ hH hS hL ⟨⟨_, rfl, by rw [Int32.toInt_neg, ea]; rfl⟩, hV1⟩)
theorem A_lneg (X : aX x cc Ts own nL rm) {a : Int} (hd : decode cc pc = .ok (.lneg, 1)) (k : aS x sh nL (pc + 1) L (vL (lneg a) :: st) σ) : aS x sh nL pc L (vL a :: st) σ := fun H locs ls cst hH hS hL hV => by
  obtain ⟨ya, v2, rfl, ea, hV1⟩ := aV_L hV
  exact lv_lneg X.1 X.2.1 hd (k H locs ls _ hH hS hL ⟨⟨_, rfl, by rw [Int64.toInt_neg, ea]; rfl⟩, hV1⟩)
theorem A_i2l (X : aX x cc Ts own nL rm) {a : Int} (hd : decode cc pc = .ok (.i2l, 1)) (k : aS x sh nL (pc + 1) L (vL a :: st) σ) : aS x sh nL pc L (vI a :: st) σ := fun H locs ls cst hH hS hL hV => by
  obtain ⟨ya, v2, rfl, ea, hV1⟩ := aV_I hV
  exact lv_i2l X.1 X.2.1 hd rfl (k H locs ls _ hH hS hL ⟨⟨_, rfl, by rw [Int32.toInt_toInt64, ea]⟩, hV1⟩)
theorem A_l2i (X : aX x cc Ts own nL rm) {a : Int} (hd : decode cc pc = .ok (.l2i, 1)) (k : aS x sh nL (pc + 1) L (vI (w32 a) :: st) σ) : aS x sh nL pc L (vL a :: st) σ := fun H locs ls cst hH hS hL hV => by
  obtain ⟨ya, v2, rfl, ea, hV1⟩ := aV_L hV
  exact lv_l2i X.1 X.2.1 hd rfl (k H locs ls _ hH hS hL ⟨⟨_, rfl, by rw [Int64.toInt_toInt32, ea]; rfl⟩, hV1⟩)
theorem A_i2b (X : aX x cc Ts own nL rm) {a : Int} (hd : decode cc pc = .ok (.i2b, 1)) (k : aS x sh nL (pc + 1) L (vI (i2b a) :: st) σ) : aS x sh nL pc L (vI a :: st) σ := fun H locs ls cst hH hS hL hV => by
  obtain ⟨ya, v2, rfl, ea, hV1⟩ := aV_I hV
  exact lv_i2b X.1 X.2.1 hd rfl (k H locs ls _ hH hS hL ⟨⟨_, rfl, by unfold i2b; rw [← ea, Int32.ofInt_toInt]⟩, hV1⟩)
theorem A_lshl (X : aX x cc Ts own nL rm) {a b : Int} (hd : decode cc pc = .ok (.lshl, 1)) (k : aS x sh nL (pc + 1) L (vL (lshl a b) :: st) σ) : aS x sh nL pc L (vI b :: vL a :: st) σ := fun H locs ls cst hH hS hL hV => by
  obtain ⟨yb, v1, rfl, eb, hV1⟩ := aV_I hV
  obtain ⟨ya, v2, rfl, ea, hV2⟩ := aV_L hV1
  exact lv_lshl X.1 X.2.1 hd rfl (k H locs ls _ hH hS hL ⟨⟨_, rfl, by unfold lshl; rw [← ea, ← eb, Int64.ofInt_toInt, Int32.ofInt_toInt]⟩, hV2⟩)
theorem A_lushr (X : aX x cc Ts own nL rm) {a b : Int} (hd : decode cc pc = .ok (.lushr, 1)) (k : aS x sh nL (pc + 1) L (vL (lushr a b) :: st) σ) : aS x sh nL pc L (vI b :: vL a :: st) σ := fun H locs ls cst hH hS hL hV => by
  obtain ⟨yb, v1, rfl, eb, hV1⟩ := aV_I hV
  obtain ⟨ya, v2, rfl, ea, hV2⟩ := aV_L hV1
  exact lv_lushr X.1 X.2.1 hd rfl (k H locs ls _ hH hS hL ⟨⟨_, rfl, by unfold lushr; rw [← ea, ← eb, Int64.ofInt_toInt, Int32.ofInt_toInt]⟩, hV2⟩)
theorem A_lcmp (X : aX x cc Ts own nL rm) {a b : Int} (hd : decode cc pc = .ok (.lcmp, 1)) (k : aS x sh nL (pc + 1) L (vI (lcmp a b) :: st) σ) : aS x sh nL pc L (vL b :: vL a :: st) σ := fun H locs ls cst hH hS hL hV => by
  obtain ⟨yb, v1, rfl, eb, hV1⟩ := aV_L hV
  obtain ⟨ya, v2, rfl, ea, hV2⟩ := aV_L hV1
  refine W.lcmp X.1 X.2.1 hd (k H locs ls _ hH hS hL ⟨⟨_, rfl, ?_⟩, hV2⟩)
  subst ea; subst eb
  unfold lg_cmp lcmp
  by_cases h1 : ya > yb
  · rw [if_pos h1, if_pos (Int64.lt_iff_toInt_lt.mp h1)]; rfl
  · rw [if_neg h1, if_neg (fun q => h1 (Int64.lt_iff_toInt_lt.mpr q))]
    by_cases h2 : ya = yb
    · rw [if_pos h2, if_pos (by rw [h2])]; rfl
    · rw [if_neg h2, if_neg (fun q => h2 (Int64.toInt_inj.mp q))]; rfl
theorem A_dup (X : aX x cc Ts own nL rm) {a : AV} (ha : ¬ a.1 = 1) (hd : decode cc pc = .ok (.dup, 1)) (k : aS x sh nL (pc + 1) L (a :: a :: st) σ) : aS x sh nL pc L (a :: st) σ := fun H locs ls cst hH hS hL hV => by
  obtain ⟨v, vs, rfl, e, hV1⟩ := aV_cons hV
  exact lv_dup X.1 X.2.1 hd (by rw [cv_cat e, if_neg ha]) (k H locs ls _ hH hS hL ⟨e, e, hV1⟩)
theorem A_pop (X : aX x cc Ts own nL rm) {a : AV} (ha : ¬ a.1 = 1) (hd : decode cc pc = .ok (.pop, 1)) (k : aS x sh nL (pc + 1) L st σ) : aS x sh nL pc L (a :: st) σ := fun H locs ls cst hH hS hL hV => by
  obtain ⟨v, vs, rfl, e, hV1⟩ := aV_cons hV
  exact lv_pop X.1 X.2.1 hd (by rw [cv_cat e, if_neg ha]) (k H locs ls _ hH hS hL hV1)
theorem A_dup2 (X : aX x cc Ts own nL rm) {a b : AV} (ha : ¬ a.1 = 1) (hb : ¬ b.1 = 1) (hd : decode cc pc = .ok (.dup2, 1)) (k : aS x sh nL (pc + 1) L (a :: b :: a :: b :: st) σ) : aS x sh nL pc L (a :: b :: st) σ := fun H locs ls cst hH hS hL hV => by
  obtain ⟨v, vs, rfl, e, hV1⟩ := aV_cons hV
  obtain ⟨v2, vs2, rfl, e2, hV2⟩ := aV_cons hV1
  exact lv_dup2_11 X.1 X.2.1 hd (by rw [cv_cat e, if_neg ha]) (by rw [cv_cat e2, if_neg hb]) (k H locs ls _ hH hS hL ⟨e, e2, e, e2, hV2⟩)
theorem A_goto (X : aX x cc Ts own nL rm) {off : Int} {tgt : Nat} (ht : (pc : Int) + off = (tgt : Int)) (hd : decode cc pc = .ok (.goto off, 3)) (k : aS x sh nL tgt L st σ) : aS x sh nL pc L st σ := fun H locs ls cst hH hS hL hV =>
  lv_goto X.1 X.2.1 hd ht (k H locs ls _ hH hS hL hV)
theorem A_icmp_lt (X : aX x cc Ts own nL rm) {a b off : Int} {tgt : Nat} (ht : (pc : Int) + off = (tgt : Int)) (hd : decode cc pc = .ok (.if_icmp .lt off, 3)) (kt : a < b → aS x sh nL tgt L st σ) (kf : ¬ a < b → aS x sh nL (pc + 3) L st σ) : aS x sh nL pc L (vI b :: vI a :: st) σ := fun H locs ls cst hH hS hL hV => by
  obtain ⟨yb, v1, rfl, eb, hV1⟩ := aV_I hV
  obtain ⟨ya, v2, rfl, ea, hV2⟩ := aV_I hV1
  subst ea; subst eb
  exact lv_icmp_lt X.1 X.2.1 hd ht (fun q => kt (Int32.lt_iff_toInt_lt.mp q) H locs ls _ hH hS hL hV2) (fun q => kf (fun z => q (Int32.lt_iff_toInt_lt.mpr z)) H locs ls _ hH hS hL hV2)
theorem A_if_lt (X : aX x cc Ts own nL rm) {a off : Int} {tgt : Nat} (ht : (pc : Int) + off = (tgt : Int)) (hd : decode cc pc = .ok (.ifCond .lt off, 3)) (kt : a < 0 → aS x sh nL tgt L st σ) (kf : ¬ a < 0 → aS x sh nL (pc + 3) L st σ) : aS x sh nL pc L (vI a :: st) σ := fun H locs ls cst hH hS hL hV => by
  obtain ⟨ya, v2, rfl, ea, hV1⟩ := aV_I hV
  subst ea
  exact lv_if_lt X.1 X.2.1 hd ht (fun q => kt (Int32.lt_iff_toInt_lt.mp q) H locs ls _ hH hS hL hV1) (fun q => kf (fun z => q (Int32.lt_iff_toInt_lt.mpr z)) H locs ls _ hH hS hL hV1)
theorem A_icmp_ge (X : aX x cc Ts own nL rm) {a b off : Int} {tgt : Nat} (ht : (pc : Int) + off = (tgt : Int)) (hd : decode cc pc = .ok (.if_icmp .ge off, 3)) (kt : b ≤ a → aS x sh nL tgt L st σ) (kf : ¬ b ≤ a → aS x sh nL (pc + 3) L st σ) : aS x sh nL pc L (vI b :: vI a :: st) σ := fun H locs ls cst hH hS hL hV => by
  obtain ⟨yb, v1, rfl, eb, hV1⟩ := aV_I hV
  obtain ⟨ya, v2, rfl, ea, hV2⟩ := aV_I hV1
  subst ea; subst eb
  exact lv_icmp_ge X.1 X.2.1 hd ht (fun q => kt (Int32.le_iff_toInt_le.mp q) H locs ls _ hH hS hL hV2) (fun q => kf (fun z => q (Int32.le_iff_toInt_le.mpr z)) H locs ls _ hH hS hL hV2)
theorem A_if_ge (X : aX x cc Ts own nL rm) {a off : Int} {tgt : Nat} (ht : (pc : Int) + off = (tgt : Int)) (hd : decode cc pc = .ok (.ifCond .ge off, 3)) (kt : 0 ≤ a → aS x sh nL tgt L st σ) (kf : ¬ 0 ≤ a → aS x sh nL (pc + 3) L st σ) : aS x sh nL pc L (vI a :: st) σ := fun H locs ls cst hH hS hL hV => by
  obtain ⟨ya, v2, rfl, ea, hV1⟩ := aV_I hV
  subst ea
  exact lv_if_ge X.1 X.2.1 hd ht (fun q => kt (Int32.le_iff_toInt_le.mp q) H locs ls _ hH hS hL hV1) (fun q => kf (fun z => q (Int32.le_iff_toInt_le.mpr z)) H locs ls _ hH hS hL hV1)
theorem A_icmp_gt (X : aX x cc Ts own nL rm) {a b off : Int} {tgt : Nat} (ht : (pc : Int) + off = (tgt : Int)) (hd : decode cc pc = .ok (.if_icmp .gt off, 3)) (kt : b < a → aS x sh nL tgt L st σ) (kf : ¬ b < a → aS x sh nL (pc + 3) L st σ) : aS x sh nL pc L (vI b :: vI a :: st) σ := fun H locs ls cst hH hS hL hV => by
  obtain ⟨yb, v1, rfl, eb, hV1⟩ := aV_I hV
  obtain ⟨ya, v2, rfl, ea, hV2⟩ := aV_I hV1
  subst ea; subst eb
  exact lv_icmp_gt X.1 X.2.1 hd ht (fun q => kt (Int32.lt_iff_toInt_lt.mp q) H locs ls _ hH hS hL hV2) (fun q => kf (fun z => q (Int32.lt_iff_toInt_lt.mpr z)) H locs ls _ hH hS hL hV2)
theorem A_if_gt (X : aX x cc Ts own nL rm) {a off : Int} {tgt : Nat} (ht : (pc : Int) + off = (tgt : Int)) (hd : decode cc pc = .ok (.ifCond .gt off, 3)) (kt : 0 < a → aS x sh nL tgt L st σ) (kf : ¬ 0 < a → aS x sh nL (pc + 3) L st σ) : aS x sh nL pc L (vI a :: st) σ := fun H locs ls cst hH hS hL hV => by
  obtain ⟨ya, v2, rfl, ea, hV1⟩ := aV_I hV
  subst ea
  exact lv_if_gt X.1 X.2.1 hd ht (fun q => kt (Int32.lt_iff_toInt_lt.mp q) H locs ls _ hH hS hL hV1) (fun q => kf (fun z => q (Int32.lt_iff_toInt_lt.mpr z)) H locs ls _ hH hS hL hV1)
theorem A_icmp_le (X : aX x cc Ts own nL rm) {a b off : Int} {tgt : Nat} (ht : (pc : Int) + off = (tgt : Int)) (hd : decode cc pc = .ok (.if_icmp .le off, 3)) (kt : a ≤ b → aS x sh nL tgt L st σ) (kf : ¬ a ≤ b → aS x sh nL (pc + 3) L st σ) : aS x sh nL pc L (vI b :: vI a :: st) σ := fun H locs ls cst hH hS hL hV => by
  obtain ⟨yb, v1, rfl, eb, hV1⟩ := aV_I hV
  obtain ⟨ya, v2, rfl, ea, hV2⟩ := aV_I hV1
  subst ea; subst eb
  exact lv_icmp_le X.1 X.2.1 hd ht (fun q => kt (Int32.le_iff_toInt_le.mp q) H locs ls _ hH hS hL hV2) (fun q => kf (fun z => q (Int32.le_iff_toInt_le.mpr z)) H locs ls _ hH hS hL hV2)
theorem A_if_le (X : aX x cc Ts own nL rm) {a off : Int} {tgt : Nat} (ht : (pc : Int) + off = (tgt : Int)) (hd : decode cc pc = .ok (.ifCond .le off, 3)) (kt : a ≤ 0 → aS x sh nL tgt L st σ) (kf : ¬ a ≤ 0 → aS x sh nL (pc + 3) L st σ) : aS x sh nL pc L (vI a :: st) σ := fun H locs ls cst hH hS hL hV => by
  obtain ⟨ya, v2, rfl, ea, hV1⟩ := aV_I hV
  subst ea
  exact lv_if_le X.1 X.2.1 hd ht (fun q => kt (Int32.le_iff_toInt_le.mp q) H locs ls _ hH hS hL hV1) (fun q => kf (fun z => q (Int32.le_iff_toInt_le.mpr z)) H locs ls _ hH hS hL hV1)
theorem A_icmp_eq (X : aX x cc Ts own nL rm) {a b off : Int} {tgt : Nat} (ht : (pc : Int) + off = (tgt : Int)) (hd : decode cc pc = .ok (.if_icmp .eq off, 3)) (kt : a = b → aS x sh nL tgt L st σ) (kf : ¬ a = b → aS x sh nL (pc + 3) L st σ) : aS x sh nL pc L (vI b :: vI a :: st) σ := fun H locs ls cst hH hS hL hV => by
  obtain ⟨yb, v1, rfl, eb, hV1⟩ := aV_I hV
  obtain ⟨ya, v2, rfl, ea, hV2⟩ := aV_I hV1
  subst ea; subst eb
  exact lv_icmp_eq X.1 X.2.1 hd ht (fun q => kt (by rw [q]) H locs ls _ hH hS hL hV2) (fun q => kf (fun z => q (Int32.toInt_inj.mp z)) H locs ls _ hH hS hL hV2)
theorem A_icmp_ne (X : aX x cc Ts own nL rm) {a b off : Int} {tgt : Nat} (ht : (pc : Int) + off = (tgt : Int)) (hd : decode cc pc = .ok (.if_icmp .ne off, 3)) (kt : ¬ a = b → aS x sh nL tgt L st σ) (kf : a = b → aS x sh nL (pc + 3) L st σ) : aS x sh nL pc L (vI b :: vI a :: st) σ := fun H locs ls cst hH hS hL hV => by
  obtain ⟨yb, v1, rfl, eb, hV1⟩ := aV_I hV
  obtain ⟨ya, v2, rfl, ea, hV2⟩ := aV_I hV1
  subst ea; subst eb
  exact lv_icmp_ne X.1 X.2.1 hd ht (fun q => kt (fun z => q (Int32.toInt_inj.mp z)) H locs ls _ hH hS hL hV2) (fun q => kf (by rw [q]) H locs ls _ hH hS hL hV2)
theorem A_if_eq (X : aX x cc Ts own nL rm) {a off : Int} {tgt : Nat} (ht : (pc : Int) + off = (tgt : Int)) (hd : decode cc pc = .ok (.ifCond .eq off, 3)) (kt : a = 0 → aS x sh nL tgt L st σ) (kf : ¬ a = 0 → aS x sh nL (pc + 3) L st σ) : aS x sh nL pc L (vI a :: st) σ := fun H locs ls cst hH hS hL hV => by
  obtain ⟨ya, v2, rfl, ea, hV1⟩ := aV_I hV
  subst ea
  exact lv_if_eq X.1 X.2.1 hd ht (fun q => kt (by rw [q]; rfl) H locs ls _ hH hS hL hV1) (fun q => kf (fun z => q (Int32.toInt_inj.mp z)) H locs ls _ hH hS hL hV1)
theorem A_if_ne (X : aX x cc Ts own nL rm) {a off : Int} {tgt : Nat} (ht : (pc : Int) + off = (tgt : Int)) (hd : decode cc pc = .ok (.ifCond .ne off, 3)) (kt : ¬ a = 0 → aS x sh nL tgt L st σ) (kf : a = 0 → aS x sh nL (pc + 3) L st σ) : aS x sh nL pc L (vI a :: st) σ := fun H locs ls cst hH hS hL hV => by
  obtain ⟨ya, v2, rfl, ea, hV1⟩ := aV_I hV
  subst ea
  exact lv_if_ne X.1 X.2.1 hd ht (fun q => kt (fun z => q (Int32.toInt_inj.mp z)) H locs ls _ hH hS hL hV1) (fun q => kf (by rw [q]; rfl) H locs ls _ hH hS hL hV1)
theorem A_tIn (X : aX x cc Ts own nL rm) {a j off dflt lo hi : Int} {offs : Array Int} {len tgt : Nat} (ha : a = j) (h1 : ¬ j < lo) (h2 : ¬ hi < j) (ho : offs[(j - lo).toNat]? = some off) (ht : (pc : Int) + off = (tgt : Int)) (hd : decode cc pc = .ok (.tableswitch dflt lo hi offs, len)) (k : aS x sh nL tgt L st σ) : aS x sh nL pc L (vI a :: st) σ := fun H locs ls cst hH hS hL hV => by
  obtain ⟨ya, v2, rfl, ea, hV1⟩ := aV_I hV
  subst ha; subst ea
  exact lv_tableIn X.1 X.2.1 hd h1 h2 ho ht (k H locs ls _ hH hS hL hV1)
theorem A_tOut (X : aX x cc Ts own nL rm) {a dflt lo hi : Int} {offs : Array Int} {len tgt : Nat} (h : a < lo ∨ hi < a) (ht : (pc : Int) + dflt = (tgt : Int)) (hd : decode cc pc = .ok (.tableswitch dflt lo hi offs, len)) (k : aS x sh nL tgt L st σ) : aS x sh nL pc L (vI a :: st) σ := fun H locs ls cst hH hS hL hV => by
  obtain ⟨ya, v2, rfl, ea, hV1⟩ := aV_I hV
  subst ea
  exact lv_tableOut X.1 X.2.1 hd h ht (k H locs ls _ hH hS hL hV1)
theorem A_lsw (X : aX x cc Ts own nL rm) {a off dflt : Int} {ps : Array (Int × Int)} {len tgt : Nat} (hp : (ps.toList.zip (ps.toList.drop 1)).all (fun (a, next) => a.1 < next.1) = true) (ho : Op.lookupswitch.offset ps.toList dflt a = off) (ht : (pc : Int) + off = (tgt : Int)) (hd : decode cc pc = .ok (.lookupswitch dflt ps, len)) (k : aS x sh nL tgt L st σ) : aS x sh nL pc L (vI a :: st) σ := fun H locs ls cst hH hS hL hV => by
  obtain ⟨ya, v2, rfl, ea, hV1⟩ := aV_I hV
  subst ea
  exact lv_lookup X.1 X.2.1 hd hp ho ht (k H locs ls _ hH hS hL hV1)
/-- a field that a method's instruction names: the k-th slot of class ci -/
def aFl (Ts : List Cond) (own : String) (idx ci k : Nat) : Prop := ∃ (C : String) (T : u_T) (N : Nat), vwCl[ci]? = some (C, T, N) ∧ (∀ w ∈ u_ws C T N, w ∈ Ts) ∧ k < N ∧ Cond.fieldLink own idx C (T k).2.1 (T k).2.2.1 ∈ Ts ∧ (T k).1 = C
/-- one that may be written, of type ty -/
def aFp (Ts : List Cond) (own : String) (idx ci k : Nat) (ty : FieldType) : Prop := ∃ (C : String) (T : u_T) (N : Nat) (ty0 : Nat → FieldType), vwCl[ci]? = some (C, T, N) ∧ (∀ w ∈ u_ws C T N, w ∈ Ts) ∧ k < N ∧ Cond.fieldLink own idx C (T k).2.1 (T k).2.2.1 ∈ Ts ∧ (T k).1 = C ∧
  (∀ k, k < N → parseFieldDescriptor (T k).2.2.1 = some (ty0 k)) ∧ (∀ a, a < N → ∀ b, b < N → a ≠ b → (T a).2.1 ≠ (T b).2.1) ∧ (T k).2.2.2 = false ∧ ty0 k = ty
theorem A_get0 (X : aX x cc Ts own nL rm) {idx ci k n q kd b : Nat} {fs : List (Nat × Nat)} (hf : aFl Ts own idx ci k) (hq : sh[q]? = some (ci, n, fs)) (hk : fs[k]? = some (kd, b)) (hci : ci < 100) (hd : decode cc pc = .ok (.getfield idx, 3)) {a : AV} (ha : wr sh σ → cv (xg x).2.2 a (fval (xg x).2.2 q kd b (σ q k))) (kk : aS x sh nL (pc + 3) L (a :: st) σ) : aS x sh nL pc L (vR q :: st) σ := fun H locs ls cst hH hS hL hV => by
  obtain ⟨v2, rfl, hV1⟩ := aV_R hV
  obtain ⟨C, T, N, hc, hin, hkN, hw, hC⟩ := hf
  have he := wl_get (g := xg x) (σ := σ) hq
  rw [wcell_o _ _ _ _ _ _ hci] at he
  have hv := fvals_get (ad := (xg x).2.2) (q := q) (f := σ q) (j := 0) hk
  rw [Nat.zero_add] at hv
  exact va_get X.1 X.2.1 X.2.2.2.2.1 hin X.2.2.2.1 X.2.2.2.2.2.1 hH.1 q he hc k hkN (X.2.2.2.2.1 _ hw) (fun y hy => by rw [hC] at hy; exact hy) hv hd (kk H locs ls _ hH hS hL ⟨ha hH.2.2, hV1⟩)
theorem A_getI (X : aX x cc Ts own nL rm) {idx ci k n q b : Nat} {fs : List (Nat × Nat)} (hf : aFl Ts own idx ci k) (hq : sh[q]? = some (ci, n, fs)) (hk : fs[k]? = some (0, b)) (hci : ci < 100) (hd : decode cc pc = .ok (.getfield idx, 3)) (kk : aS x sh nL (pc + 3) L (vI (σ q k) :: st) σ) : aS x sh nL pc L (vR q :: st) σ :=
  A_get0 (a := vI (σ q k)) X hf hq hk hci hd (fun h => ⟨_, rfl, of_i (by have := h q k; rw [isL_o hq hci hk] at this; exact this)⟩) kk
theorem A_getL (X : aX x cc Ts own nL rm) {idx ci k n q b : Nat} {fs : List (Nat × Nat)} (hf : aFl Ts own idx ci k) (hq : sh[q]? = some (ci, n, fs)) (hk : fs[k]? = some (1, b)) (hci : ci < 100) (hd : decode cc pc = .ok (.getfield idx, 3)) (kk : aS x sh nL (pc + 3) L (vL (σ q k) :: st) σ) : aS x sh nL pc L (vR q :: st) σ :=
  A_get0 (a := vL (σ q k)) X hf hq hk hci hd (fun h => ⟨_, rfl, of_l (by have := h q k; rw [isL_o hq hci hk] at this; exact this)⟩) kk
theorem A_getR (X : aX x cc Ts own nL rm) {idx ci k n q b : Nat} {fs : List (Nat × Nat)} (hf : aFl Ts own idx ci k) (hq : sh[q]? = some (ci, n, fs)) (hk : fs[k]? = some (2, b)) (hci : ci < 100) (hd : decode cc pc = .ok (.getfield idx, 3)) (kk : aS x sh nL (pc + 3) L (vR (q + b) :: st) σ) : aS x sh nL pc L (vR q :: st) σ :=
  A_get0 (a := vR (q + b)) X hf hq hk hci hd (fun _ => rfl) kk
theorem A_getV (X : aX x cc Ts own nL rm) {idx ci k n q b : Nat} {fs : List (Nat × Nat)} (hf : aFl Ts own idx ci k) (hq : sh[q]? = some (ci, n, fs)) (hk : fs[k]? = some (3, b)) (hci : ci < 100) (hd : decode cc pc = .ok (.getfield idx, 3)) (kk : aS x sh nL (pc + 3) L (vR (σ q k).toNat :: st) σ) : aS x sh nL pc L (vR q :: st) σ :=
  A_get0 (a := vR (σ q k).toNat) X hf hq hk hci hd (fun _ => rfl) kk
theorem A_getA (X : aX x cc Ts own nL rm) {idx ci k n q b : Nat} {fs : List (Nat × Nat)} (hf : aFl Ts own idx ci k) (hq : sh[q]? = some (ci, n, fs)) (hk : fs[k]? = some (4, b)) (hci : ci < 100) (hd : decode cc pc = .ok (.getfield idx, 3)) (kk : aS x sh nL (pc + 3) L (vR b :: st) σ) : aS x sh nL pc L (vR q :: st) σ :=
  A_get0 (a := vR b) X hf hq hk hci hd (fun _ => rfl) kk
theorem A_put0 (X : aX x cc Ts own nL rm) {idx ci k n q kd b : Nat} {ty : FieldType} {fs : List (Nat × Nat)} (hf : aFp Ts own idx ci k ty) (hq : sh[q]? = some (ci, n, fs)) (hk : fs[k]? = some (kd, b)) (hci : ci < 100) (hd : decode cc pc = .ok (.putfield idx, 3)) {a : AV} {z : Int} (ha : ∀ v, cv (xg x).2.2 a v → v = fval (xg x).2.2 q kd b z ∧ narrow ty v = v ∧ fits ty v = true ∧ rg (kd == 1) z) (kk : ∀ σ', σ' = hset σ q k z → aS x sh nL (pc + 3) L st σ') : aS x sh nL pc L (a :: vR q :: st) σ := fun H locs ls cst hH hS hL hV => by
  obtain ⟨v1, v2, rfl, ea, hV1⟩ := aV_cons hV
  obtain ⟨v3, rfl, hV2⟩ := aV_R hV1
  obtain ⟨C, T, N, ty0, hc, hin, hkN, hw, hC, hty, hnm, hfin, hty0⟩ := hf
  obtain ⟨e1, e2, e3, e4⟩ := ha _ ea
  have he := wl_get (g := xg x) (σ := σ) hq
  rw [wcell_o _ _ _ _ _ _ hci] at he
  refine va_put X.1 X.2.1 X.2.2.2.2.1 hin ty0 hty hnm X.2.2.2.1 X.2.2.2.2.2.1 hH.1 hH.2.1 hS q he hc k hkN (X.2.2.2.2.1 _ hw) (fun y hy => by rw [hC] at hy; exact hy) hfin (by rw [hty k hkN, hty0]) e2 e3 (by rw [fvals_len]; exact (List.getElem?_eq_some_iff.mp hk).1) hd (fun H1 locs1 hP1 hD1 hS1 => ?_)
  have hw2 : (wl (xg x) sh σ).set q ((xg x).2.2 q, .inr (ci, (fvals (xg x).2.2 q (σ q) 0 fs).set k v1)) = wl (xg x) sh (hset σ q k z) := by
    rw [← wl_set hq, wcell_o _ _ _ _ _ _ hci, e1, fvals_set hk, hset_row, Nat.zero_add]
  rw [hw2] at hP1 hD1
  exact kk _ rfl H1 locs1 ls _ ⟨hP1, hD1, wr_set hH.2.2 (by rw [isL_o hq hci hk]; exact e4)⟩ hS1 hL hV2
theorem A_putI (X : aX x cc Ts own nL rm) {idx ci k n q b : Nat} {z : Int} {fs : List (Nat × Nat)} (hf : aFp Ts own idx ci k .int) (hq : sh[q]? = some (ci, n, fs)) (hk : fs[k]? = some (0, b)) (hci : ci < 100) (hd : decode cc pc = .ok (.putfield idx, 3)) (kk : ∀ σ', σ' = hset σ q k z → aS x sh nL (pc + 3) L st σ') : aS x sh nL pc L (vI z :: vR q :: st) σ :=
  A_put0 X hf hq hk hci hd (fun v hv => by obtain ⟨y, rfl, rfl⟩ := hv; exact ⟨by show Value.int y = Value.int (Int32.ofInt y.toInt); rw [Int32.ofInt_toInt], rfl, rfl, rg_i y⟩) kk
theorem A_putZ (X : aX x cc Ts own nL rm) {idx ci k n q b : Nat} {z : Int} {fs : List (Nat × Nat)} (hz : z = 0 ∨ z = 1) (hf : aFp Ts own idx ci k .boolean) (hq : sh[q]? = some (ci, n, fs)) (hk : fs[k]? = some (0, b)) (hci : ci < 100) (hd : decode cc pc = .ok (.putfield idx, 3)) (kk : ∀ σ', σ' = hset σ q k z → aS x sh nL (pc + 3) L st σ') : aS x sh nL pc L (vI z :: vR q :: st) σ :=
  A_put0 X hf hq hk hci hd (fun v hv => by
    obtain ⟨y, rfl, e⟩ := hv
    have hy : y = 0 ∨ y = 1 := by
      rcases hz with h | h
      · exact Or.inl (Int32.toInt_inj.mp (by rw [e, h]; rfl))
      · exact Or.inr (Int32.toInt_inj.mp (by rw [e, h]; rfl))
    subst e
    refine ⟨by show Value.int y = Value.int (Int32.ofInt y.toInt); rw [Int32.ofInt_toInt], ?_, ?_, rg_i y⟩
    · rcases hy with rfl | rfl <;> rfl
    · rcases hy with rfl | rfl <;> rfl) kk
theorem A_putL (X : aX x cc Ts own nL rm) {idx ci k n q b : Nat} {z : Int} {fs : List (Nat × Nat)} (hf : aFp Ts own idx ci k .long) (hq : sh[q]? = some (ci, n, fs)) (hk : fs[k]? = some (1, b)) (hci : ci < 100) (hd : decode cc pc = .ok (.putfield idx, 3)) (kk : ∀ σ', σ' = hset σ q k z → aS x sh nL (pc + 3) L st σ') : aS x sh nL pc L (vL z :: vR q :: st) σ :=
  A_put0 X hf hq hk hci hd (fun v hv => by obtain ⟨y, rfl, rfl⟩ := hv; exact ⟨by show Value.long y = Value.long (Int64.ofInt y.toInt); rw [Int64.ofInt_toInt], rfl, rfl, rg_l y⟩) kk
theorem A_putV (X : aX x cc Ts own nL rm) {idx ci k n q b q2 : Nat} {C2 : String} {fs : List (Nat × Nat)} (hb : q2 < 1000) (hf : aFp Ts own idx ci k (.object C2)) (hq : sh[q]? = some (ci, n, fs)) (hk : fs[k]? = some (3, b)) (hci : ci < 100) (hd : decode cc pc = .ok (.putfield idx, 3)) (kk : ∀ σ', σ' = hset σ q k (Int.ofNat q2) → aS x sh nL (pc + 3) L st σ') : aS x sh nL pc L (vR q2 :: vR q :: st) σ :=
  A_put0 X hf hq hk hci hd (fun v hv => by
    have hv : v = .ref ((xg x).2.2 q2) := hv
    subst hv
    exact ⟨rfl, rfl, rfl, by show -2147483648 ≤ Int.ofNat q2 ∧ Int.ofNat q2 < 2147483648; have : Int.ofNat q2 = (q2 : Int) := rfl; omega⟩) kk
theorem ixv {i : Int32} {n : Nat} (h : 0 ≤ i.toInt ∧ i.toInt < n) : vp_in i n := vp_in_iff.mpr h
theorem A_iald (X : aX x cc Ts own nL rm) {n q : Nat} {i : Int} {fs : List (Nat × Nat)} (hi : 0 ≤ i ∧ i < n) (hq : sh[q]? = some (100, n, fs)) (hd : decode cc pc = .ok (.iaload, 1)) (kk : aS x sh nL (pc + 1) L (vI (σ q i.toNat) :: st) σ) : aS x sh nL pc L (vI i :: vR q :: st) σ := fun H locs ls cst hH hS hL hV => by
  obtain ⟨yi, v2, rfl, ei, hV1⟩ := aV_I hV
  obtain ⟨v3, rfl, hV2⟩ := aV_R hV1
  subst ei
  have he := wl_get (g := xg x) (σ := σ) hq
  rw [wcell_100] at he
  exact va_iald X.1 X.2.1 X.2.2.2.2.2.1 hH.1 q 0 he rfl (ixv hi) hd (kk H locs ls _ hH hS hL ⟨⟨_, rfl, of_i (by have := hH.2.2 q yi.toInt.toNat; rw [isL_a hq (by decide)] at this; exact this)⟩, hV2⟩)
theorem A_bald (X : aX x cc Ts own nL rm) {n q : Nat} {i : Int} {fs : List (Nat × Nat)} (hi : 0 ≤ i ∧ i < n) (hq : sh[q]? = some (102, n, fs)) (hd : decode cc pc = .ok (.baload, 1)) (kk : aS x sh nL (pc + 1) L (vI (σ q i.toNat) :: st) σ) : aS x sh nL pc L (vI i :: vR q :: st) σ := fun H locs ls cst hH hS hL hV => by
  obtain ⟨yi, v2, rfl, ei, hV1⟩ := aV_I hV
  obtain ⟨v3, rfl, hV2⟩ := aV_R hV1
  subst ei
  have he := wl_get (g := xg x) (σ := σ) hq
  rw [wcell_102] at he
  exact va_bald X.1 X.2.1 X.2.2.2.2.2.1 hH.1 q 2 he rfl (ixv hi) hd (kk H locs ls _ hH hS hL ⟨⟨_, rfl, of_i (by have := hH.2.2 q yi.toInt.toNat; rw [isL_a hq (by decide)] at this; exact this)⟩, hV2⟩)
theorem A_zald (X : aX x cc Ts own nL rm) {n q : Nat} {i : Int} {fs : List (Nat × Nat)} (hi : 0 ≤ i ∧ i < n) (hq : sh[q]? = some (103, n, fs)) (hd : decode cc pc = .ok (.baload, 1)) (kk : aS x sh nL (pc + 1) L (vI (σ q i.toNat) :: st) σ) : aS x sh nL pc L (vI i :: vR q :: st) σ := fun H locs ls cst hH hS hL hV => by
  obtain ⟨yi, v2, rfl, ei, hV1⟩ := aV_I hV
  obtain ⟨v3, rfl, hV2⟩ := aV_R hV1
  subst ei
  have he := wl_get (g := xg x) (σ := σ) hq
  rw [wcell_103] at he
  exact va_zald X.1 X.2.1 X.2.2.2.2.2.1 hH.1 q 3 he rfl (ixv hi) hd (kk H locs ls _ hH hS hL ⟨⟨_, rfl, of_i (by have := hH.2.2 q yi.toInt.toNat; rw [isL_a hq (by decide)] at this; exact this)⟩, hV2⟩)
theorem A_lald (X : aX x cc Ts own nL rm) {n q : Nat} {i : Int} {fs : List (Nat × Nat)} (hi : 0 ≤ i ∧ i < n) (hq : sh[q]? = some (101, n, fs)) (hd : decode cc pc = .ok (.laload, 1)) (kk : aS x sh nL (pc + 1) L (vL (σ q i.toNat) :: st) σ) : aS x sh nL pc L (vI i :: vR q :: st) σ := fun H locs ls cst hH hS hL hV => by
  obtain ⟨yi, v2, rfl, ei, hV1⟩ := aV_I hV
  obtain ⟨v3, rfl, hV2⟩ := aV_R hV1
  subst ei
  have he := wl_get (g := xg x) (σ := σ) hq
  rw [wcell_101] at he
  exact va_lald X.1 X.2.1 X.2.2.2.2.2.1 hH.1 q 1 he rfl (ixv hi) hd (kk H locs ls _ hH hS hL ⟨⟨_, rfl, of_l (by have := hH.2.2 q yi.toInt.toNat; rw [isL_a hq (by decide)] at this; exact this)⟩, hV2⟩)
theorem A_iast (X : aX x cc Ts own nL rm) {n q : Nat} {i z : Int} {fs : List (Nat × Nat)} (hi : 0 ≤ i ∧ i < n) (hq : sh[q]? = some (100, n, fs)) (hd : decode cc pc = .ok (.iastore, 1)) (kk : ∀ σ', σ' = hset σ q i.toNat z → aS x sh nL (pc + 1) L st σ') : aS x sh nL pc L (vI z :: vI i :: vR q :: st) σ := fun H locs ls cst hH hS hL hV => by
  obtain ⟨yx, v1, rfl, ex, hV1⟩ := aV_I hV
  obtain ⟨yi, v2, rfl, ei, hV2⟩ := aV_I hV1
  obtain ⟨v3, rfl, hV3⟩ := aV_R hV2
  subst ei; subst ex
  have he := wl_get (g := xg x) (σ := σ) hq
  rw [wcell_100] at he
  refine va_iast X.1 X.2.1 X.2.2.2.2.2.1 hH.1 hH.2.1 hS q 0 he rfl (ixv hi) hd (fun H1 locs1 hP1 hD1 hS1 => ?_)
  have hval : Int32.ofInt yx.toInt = yx := by rw [Int32.ofInt_toInt]
  have hw2 : (wl (xg x) sh σ).set q ((xg x).2.2 q, .inl ((xg x).2.1 0, n, .inl (upd (fun j => Int32.ofInt (σ q j)) yi.toNatClampNeg yx))) = wl (xg x) sh (hset σ q yi.toInt.toNat yx.toInt) := by
    rw [← wl_set hq, wcell_100, hset_row]
    congr 6
    funext j
    show (if j = yi.toInt.toNat then yx else Int32.ofInt (σ q j)) = Int32.ofInt (if j = yi.toInt.toNat then yx.toInt else σ q j)
    by_cases e : j = yi.toInt.toNat
    · rw [if_pos e, if_pos e, hval]
    · rw [if_neg e, if_neg e]
  rw [hw2] at hP1 hD1
  exact kk _ rfl H1 locs1 ls _ ⟨hP1, hD1, wr_set hH.2.2 (by rw [isL_a hq (by decide)]; exact rg_i yx)⟩ hS1 hL hV3
theorem A_bast (X : aX x cc Ts own nL rm) {n q : Nat} {i z : Int} {fs : List (Nat × Nat)} (hi : 0 ≤ i ∧ i < n) (hq : sh[q]? = some (102, n, fs)) (hd : decode cc pc = .ok (.bastore, 1)) (kk : ∀ σ', σ' = hset σ q i.toNat (i2b z) → aS x sh nL (pc + 1) L st σ') : aS x sh nL pc L (vI z :: vI i :: vR q :: st) σ := fun H locs ls cst hH hS hL hV => by
  obtain ⟨yx, v1, rfl, ex, hV1⟩ := aV_I hV
  obtain ⟨yi, v2, rfl, ei, hV2⟩ := aV_I hV1
  obtain ⟨v3, rfl, hV3⟩ := aV_R hV2
  subst ei; subst ex
  have he := wl_get (g := xg x) (σ := σ) hq
  rw [wcell_102] at he
  refine va_bast X.1 X.2.1 X.2.2.2.2.2.1 hH.1 hH.2.1 hS q 2 he rfl (ixv hi) hd (fun H1 locs1 hP1 hD1 hS1 => ?_)
  have hval : Int32.ofInt (i2b yx.toInt) = (vp_nar .byte yx) := by unfold i2b; rw [Int32.ofInt_toInt, Int32.ofInt_toInt]; rfl
  have hw2 : (wl (xg x) sh σ).set q ((xg x).2.2 q, .inl ((xg x).2.1 2, n, .inl (upd (fun j => Int32.ofInt (σ q j)) yi.toNatClampNeg (vp_nar .byte yx)))) = wl (xg x) sh (hset σ q yi.toInt.toNat (i2b yx.toInt)) := by
    rw [← wl_set hq, wcell_102, hset_row]
    congr 6
    funext j
    show (if j = yi.toInt.toNat then (vp_nar .byte yx) else Int32.ofInt (σ q j)) = Int32.ofInt (if j = yi.toInt.toNat then (i2b yx.toInt) else σ q j)
    by_cases e : j = yi.toInt.toNat
    · rw [if_pos e, if_pos e, hval]
    · rw [if_neg e, if_neg e]
  rw [hw2] at hP1 hD1
  exact kk _ rfl H1 locs1 ls _ ⟨hP1, hD1, wr_set hH.2.2 (by rw [isL_a hq (by decide)]; exact rg_i _)⟩ hS1 hL hV3
theorem A_zast (X : aX x cc Ts own nL rm) {n q : Nat} {i z : Int} {fs : List (Nat × Nat)} (hi : 0 ≤ i ∧ i < n) (hq : sh[q]? = some (103, n, fs)) (hd : decode cc pc = .ok (.bastore, 1)) (kk : ∀ σ', σ' = hset σ q i.toNat (z1 z) → aS x sh nL (pc + 1) L st σ') : aS x sh nL pc L (vI z :: vI i :: vR q :: st) σ := fun H locs ls cst hH hS hL hV => by
  obtain ⟨yx, v1, rfl, ex, hV1⟩ := aV_I hV
  obtain ⟨yi, v2, rfl, ei, hV2⟩ := aV_I hV1
  obtain ⟨v3, rfl, hV3⟩ := aV_R hV2
  subst ei; subst ex
  have he := wl_get (g := xg x) (σ := σ) hq
  rw [wcell_103] at he
  refine va_zast X.1 X.2.1 X.2.2.2.2.2.1 hH.1 hH.2.1 hS q 3 he rfl (ixv hi) hd (fun H1 locs1 hP1 hD1 hS1 => ?_)
  have hval : Int32.ofInt (z1 yx.toInt) = (vp_nar .boolean yx) := by unfold z1; rw [Int32.ofInt_toInt, Int32.ofInt_toInt]; rfl
  have hw2 : (wl (xg x) sh σ).set q ((xg x).2.2 q, .inl ((xg x).2.1 3, n, .inl (upd (fun j => Int32.ofInt (σ q j)) yi.toNatClampNeg (vp_nar .boolean yx)))) = wl (xg x) sh (hset σ q yi.toInt.toNat (z1 yx.toInt)) := by
    rw [← wl_set hq, wcell_103, hset_row]
    congr 6
    funext j
    show (if j = yi.toInt.toNat then (vp_nar .boolean yx) else Int32.ofInt (σ q j)) = Int32.ofInt (if j = yi.toInt.toNat then (z1 yx.toInt) else σ q j)
    by_cases e : j = yi.toInt.toNat
    · rw [if_pos e, if_pos e, hval]
    · rw [if_neg e, if_neg e]
  rw [hw2] at hP1 hD1
  exact kk _ rfl H1 locs1 ls _ ⟨hP1, hD1, wr_set hH.2.2 (by rw [isL_a hq (by decide)]; exact rg_i _)⟩ hS1 hL hV3
theorem A_last (X : aX x cc Ts own nL rm) {n q : Nat} {i z : Int} {fs : List (Nat × Nat)} (hi : 0 ≤ i ∧ i < n) (hq : sh[q]? = some (101, n, fs)) (hd : decode cc pc = .ok (.lastore, 1)) (kk : ∀ σ', σ' = hset σ q i.toNat z → aS x sh nL (pc + 1) L st σ') : aS x sh nL pc L (vL z :: vI i :: vR q :: st) σ := fun H locs ls cst hH hS hL hV => by
  obtain ⟨yx, v1, rfl, ex, hV1⟩ := aV_L hV
  obtain ⟨yi, v2, rfl, ei, hV2⟩ := aV_I hV1
  obtain ⟨v3, rfl, hV3⟩ := aV_R hV2
  subst ei; subst ex
  have he := wl_get (g := xg x) (σ := σ) hq
  rw [wcell_101] at he
  refine va_last X.1 X.2.1 X.2.2.2.2.2.1 hH.1 hH.2.1 hS q 1 he rfl (ixv hi) hd (fun H1 locs1 hP1 hD1 hS1 => ?_)
  have hval : Int64.ofInt yx.toInt = yx := by rw [Int64.ofInt_toInt]
  have hw2 : (wl (xg x) sh σ).set q ((xg x).2.2 q, .inl ((xg x).2.1 1, n, .inr (.inl (vp_updL (fun j => Int64.ofInt (σ q j)) yi.toNatClampNeg yx)))) = wl (xg x) sh (hset σ q yi.toInt.toNat yx.toInt) := by
    rw [← wl_set hq, wcell_101, hset_row]
    congr 7
    funext j
    show (if j = yi.toInt.toNat then yx else Int64.ofInt (σ q j)) = Int64.ofInt (if j = yi.toInt.toNat then yx.toInt else σ q j)
    by_cases e : j = yi.toInt.toNat
    · rw [if_pos e, if_pos e, hval]
    · rw [if_neg e, if_neg e]
  rw [hw2] at hP1 hD1
  exact kk _ rfl H1 locs1 ls _ ⟨hP1, hD1, wr_set hH.2.2 (by rw [isL_a hq (by decide)]; exact rg_l yx)⟩ hS1 hL hV3
theorem A_aald (X : aX x cc Ts own nL rm) {n q : Nat} {i : Int} {fs : List (Nat × Nat)} (hi : 0 ≤ i ∧ i < n) (hq : sh[q]? = some (104, n, fs)) (hd : decode cc pc = .ok (.aaload, 1)) (kk : aS x sh nL (pc + 1) L (vR (q + 1 + i.toNat) :: st) σ) : aS x sh nL pc L (vI i :: vR q :: st) σ := fun H locs ls cst hH hS hL hV => by
  obtain ⟨yi, v2, rfl, ei, hV1⟩ := aV_I hV
  obtain ⟨v3, rfl, hV2⟩ := aV_R hV1
  subst ei
  have he := wl_get (g := xg x) (σ := σ) hq
  rw [wcell_104] at he
  have hlt : yi.toNatClampNeg < n := by show yi.toInt.toNat < n; omega
  have hin := ixv hi
  have hcell := hH.1 q _ he
  refine W.aald (v := .ref ((xg x).2.2 (q + 1 + yi.toInt.toNat))) (ty := .array .int) X.1 X.2.1 hcell ((X.2.2.2.2.2.1.2 4 _ rfl).1 n (fun j => va_rf (if j < n then some ((xg x).2.2 (q + 1 + j)) else none))) rfl (fun q => by cases q) (by show ¬ (yi < 0 ∨ (arrV _ _ _).slots.size ≤ _); rw [arrV_size]; exact hin) ?_ rfl rfl hd (kk H locs ls _ hH hS hL ⟨rfl, hV2⟩)
  show (arrV _ _ _).slots[_]? = _
  rw [arrV_read _ _ hlt]
  show some (va_rf (if yi.toInt.toNat < n then some ((xg x).2.2 (q + 1 + yi.toInt.toNat)) else none)) = _
  rw [if_pos (show yi.toInt.toNat < n from hlt)]
  rfl
theorem A_alen100 (X : aX x cc Ts own nL rm) {n q : Nat} {fs : List (Nat × Nat)} (hn : n < 2147483648) (hq : sh[q]? = some (100, n, fs)) (hd : decode cc pc = .ok (.arraylength, 1)) (kk : aS x sh nL (pc + 1) L (vI (Int.ofNat n) :: st) σ) : aS x sh nL pc L (vR q :: st) σ := fun H locs ls cst hH hS hL hV => by
  obtain ⟨v3, rfl, hV1⟩ := aV_R hV
  have he := wl_get (g := xg x) (σ := σ) hq
  rw [wcell_100] at he
  exact va_alen X.1 X.2.1 X.2.2.2.2.2.1 hH.1 q 0 he rfl rfl hd (kk H locs ls _ hH hS hL ⟨⟨_, rfl, Int32.toInt_ofNat_of_lt hn⟩, hV1⟩)
theorem A_alen101 (X : aX x cc Ts own nL rm) {n q : Nat} {fs : List (Nat × Nat)} (hn : n < 2147483648) (hq : sh[q]? = some (101, n, fs)) (hd : decode cc pc = .ok (.arraylength, 1)) (kk : aS x sh nL (pc + 1) L (vI (Int.ofNat n) :: st) σ) : aS x sh nL pc L (vR q :: st) σ := fun H locs ls cst hH hS hL hV => by
  obtain ⟨v3, rfl, hV1⟩ := aV_R hV
  have he := wl_get (g := xg x) (σ := σ) hq
  rw [wcell_101] at he
  exact va_alen X.1 X.2.1 X.2.2.2.2.2.1 hH.1 q 1 he rfl rfl hd (kk H locs ls _ hH hS hL ⟨⟨_, rfl, Int32.toInt_ofNat_of_lt hn⟩, hV1⟩)
theorem A_alen102 (X : aX x cc Ts own nL rm) {n q : Nat} {fs : List (Nat × Nat)} (hn : n < 2147483648) (hq : sh[q]? = some (102, n, fs)) (hd : decode cc pc = .ok (.arraylength, 1)) (kk : aS x sh nL (pc + 1) L (vI (Int.ofNat n) :: st) σ) : aS x sh nL pc L (vR q :: st) σ := fun H locs ls cst hH hS hL hV => by
  obtain ⟨v3, rfl, hV1⟩ := aV_R hV
  have he := wl_get (g := xg x) (σ := σ) hq
  rw [wcell_102] at he
  exact va_alen X.1 X.2.1 X.2.2.2.2.2.1 hH.1 q 2 he rfl rfl hd (kk H locs ls _ hH hS hL ⟨⟨_, rfl, Int32.toInt_ofNat_of_lt hn⟩, hV1⟩)
theorem A_alen103 (X : aX x cc Ts own nL rm) {n q : Nat} {fs : List (Nat × Nat)} (hn : n < 2147483648) (hq : sh[q]? = some (103, n, fs)) (hd : decode cc pc = .ok (.arraylength, 1)) (kk : aS x sh nL (pc + 1) L (vI (Int.ofNat n) :: st) σ) : aS x sh nL pc L (vR q :: st) σ := fun H locs ls cst hH hS hL hV => by
  obtain ⟨v3, rfl, hV1⟩ := aV_R hV
  have he := wl_get (g := xg x) (σ := σ) hq
  rw [wcell_103] at he
  exact va_alen X.1 X.2.1 X.2.2.2.2.2.1 hH.1 q 3 he rfl rfl hd (kk H locs ls _ hH hS hL ⟨⟨_, rfl, Int32.toInt_ofNat_of_lt hn⟩, hV1⟩)
theorem A_alen104 (X : aX x cc Ts own nL rm) {n q : Nat} {fs : List (Nat × Nat)} (hn : n < 2147483648) (hq : sh[q]? = some (104, n, fs)) (hd : decode cc pc = .ok (.arraylength, 1)) (kk : aS x sh nL (pc + 1) L (vI (Int.ofNat n) :: st) σ) : aS x sh nL pc L (vR q :: st) σ := fun H locs ls cst hH hS hL hV => by
  obtain ⟨v3, rfl, hV1⟩ := aV_R hV
  have he := wl_get (g := xg x) (σ := σ) hq
  rw [wcell_104] at he
  exact va_alen X.1 X.2.1 X.2.2.2.2.2.1 hH.1 q 4 he rfl rfl hd (kk H locs ls _ hH hS hL ⟨⟨_, rfl, Int32.toInt_ofNat_of_lt hn⟩, hV1⟩)
theorem A_mmax (X : aX x cc Ts own nL rm) {a b : Int} {index : Nat} (h1 : Cond.methodLink own index Lib.Math.max.name ∈ Ts) (h2 : Cond.static Lib.Math.max.name ∈ Ts) (h3 : Cond.initialized "java/lang/Math" ∈ Ts) (h4 : Cond.code Lib.Math.max.name Lib.Math.max.code 2 (some .int) ∈ Ts) (hr : 1 ≤ rm.frames) (hl2 : aCat st + 13 ≤ rm.locals) (hd : decode cc pc = .ok (.invokestatic index, 3)) (kk : aS x sh nL (pc + 3) L (vI (imax a b) :: st) σ) : aS x sh nL pc L (vI b :: vI a :: st) σ := fun H locs ls cst hH hS hL hV => by
  obtain ⟨yb, v1, rfl, eb, hV1⟩ := aV_I hV
  obtain ⟨ya, v2, rfl, ea, hV2⟩ := aV_I hV1
  subst ea; subst eb
  obtain ⟨-, -, hml, hown, hts, -, -, hR, hc, hs, -⟩ := id X
  have hcl : (v2.map fun v => v.category).sum = aCat st := aV_cat hV2
  obtain ⟨l, hl1, -⟩ := id hL
  refine va_mmax X.1 X.2.1 (by rw [hml, hl1.1]) hown (hts _ h1) (hts _ h2) (hts _ h3) (hts _ h4) (by rw [hR]; exact hr) (by rw [hR, hcl]; exact hl2) (by rw [hR]; exact hc) (by rw [hR]; exact hs) hd (kk H locs ls _ hH hS hL ⟨⟨_, rfl, ?_⟩, hV2⟩)
  unfold imax
  by_cases q : ya < yb
  · rw [if_pos q, if_pos (Int32.lt_iff_toInt_lt.mp q)]
  · rw [if_neg q, if_neg (fun z => q (Int32.lt_iff_toInt_lt.mpr z))]
theorem A_mmin (X : aX x cc Ts own nL rm) {a b : Int} {index : Nat} (h1 : Cond.methodLink own index Lib.Math.min.name ∈ Ts) (h2 : Cond.static Lib.Math.min.name ∈ Ts) (h3 : Cond.initialized "java/lang/Math" ∈ Ts) (h4 : Cond.code Lib.Math.min.name Lib.Math.min.code 2 (some .int) ∈ Ts) (hr : 1 ≤ rm.frames) (hl2 : aCat st + 13 ≤ rm.locals) (hd : decode cc pc = .ok (.invokestatic index, 3)) (kk : aS x sh nL (pc + 3) L (vI (imin a b) :: st) σ) : aS x sh nL pc L (vI b :: vI a :: st) σ := fun H locs ls cst hH hS hL hV => by
  obtain ⟨yb, v1, rfl, eb, hV1⟩ := aV_I hV
  obtain ⟨ya, v2, rfl, ea, hV2⟩ := aV_I hV1
  subst ea; subst eb
  obtain ⟨-, -, hml, hown, hts, -, -, hR, hc, hs, -⟩ := id X
  have hcl : (v2.map fun v => v.category).sum = aCat st := aV_cat hV2
  obtain ⟨l, hl1, -⟩ := id hL
  refine va_mmin X.1 X.2.1 (by rw [hml, hl1.1]) hown (hts _ h1) (hts _ h2) (hts _ h3) (hts _ h4) (by rw [hR]; exact hr) (by rw [hR, hcl]; exact hl2) (by rw [hR]; exact hc) (by rw [hR]; exact hs) hd (kk H locs ls _ hH hS hL ⟨⟨_, rfl, ?_⟩, hV2⟩)
  unfold imin
  by_cases q : yb < ya
  · rw [if_pos q, if_pos (Int32.lt_iff_toInt_lt.mp q)]
  · rw [if_neg q, if_neg (fun z => q (Int32.lt_iff_toInt_lt.mpr z))]
theorem A_copy (X : aX x cc Ts own nL rm) {q n2 index : Nat} {sp dp n : Int} {fs : List (Nat × Nat)} (hg : 0 ≤ sp ∧ 0 ≤ dp ∧ 0 ≤ n ∧ sp + n ≤ n2 ∧ dp + n ≤ n2) (hq : sh[q]? = some (100, n2, fs)) (h1 : Cond.methodLink own index arraycopyName ∈ Ts) (h2 : Cond.native arraycopyName ∈ Ts) (h3 : Cond.static arraycopyName ∈ Ts) (h4 : Cond.initialized "java/lang/System" ∈ Ts) (hr : 1 ≤ rm.frames) (hl2 : aCat st + 18 ≤ rm.locals) (hd : decode cc pc = .ok (.invokestatic index, 3)) (kk : ∀ σ', σ' = hcopy σ q sp.toNat dp.toNat n.toNat → aS x sh nL (pc + 3) L st σ') : aS x sh nL pc L (vI n :: vI dp :: vR q :: vI sp :: vR q :: st) σ := fun H locs ls cst hH hS hL hV => by
  obtain ⟨yn, v1, rfl, en, hV1⟩ := aV_I hV
  obtain ⟨yd, v2, rfl, ed, hV2⟩ := aV_I hV1
  obtain ⟨v3, rfl, hV3⟩ := aV_R hV2
  obtain ⟨ys, v4, rfl, es, hV4⟩ := aV_I hV3
  obtain ⟨v5, rfl, hV5⟩ := aV_R hV4
  subst en; subst ed; subst es
  obtain ⟨-, -, hml, hown, hts, -, -, hR, hc, hs, -⟩ := id X
  obtain ⟨l, hl1, -⟩ := id hL
  have hcl : (v5.map fun v => v.category).sum = aCat st := aV_cat hV5
  have he := wl_get (g := xg x) (σ := σ) hq
  rw [wcell_100] at he
  have nz : ∀ y : Int32, 0 ≤ y.toInt → ¬ y < 0 := fun y h z => by
    have := Int32.lt_iff_toInt_lt.mp z
    rw [Int32.toInt_zero] at this
    omega
  obtain ⟨g1, g2, g3, g4, g5⟩ := hg
  refine va_copyi X.1 X.2.1 (by rw [hml, hl1.1]) hown (hts _ h1) (hts _ h2) (hts _ h3) (hts _ h4) X.2.2.2.2.2.1 hH.1 hH.2.1 hS q q 0 0 he he rfl rfl rfl (nz _ g1) (nz _ g2) (nz _ g3) (by show ys.toInt.toNat + yn.toInt.toNat ≤ n2; omega) (by show yd.toInt.toNat + yn.toInt.toNat ≤ n2; omega) (fun _ _ => rfl) (by rw [hR]; exact hr) (by rw [hR, hcl]; exact hl2) hd (fun H1 locs1 hP1 hD1 hS1 => ?_)
  have hw2 : (wl (xg x) sh σ).set q ((xg x).2.2 q, .inl ((xg x).2.1 0, n2, .inl (va_cpy (fun j => Int32.ofInt (σ q j)) (fun j => Int32.ofInt (σ q j)) ys.toNatClampNeg yd.toNatClampNeg yn.toNatClampNeg))) = wl (xg x) sh (hcopy σ q ys.toInt.toNat yd.toInt.toNat yn.toInt.toNat) := by
    apply List.ext_getElem?
    intro k
    have hl : q < (wl (xg x) sh σ).length := (List.getElem?_eq_some_iff.mp (wl_get (g := xg x) (σ := σ) hq)).1
    by_cases e : k = q
    · subst e
      rw [List.getElem?_set_self hl, wl_get hq, wcell_100]
      congr 6
      funext j
      show (if yd.toInt.toNat ≤ j ∧ j < yd.toInt.toNat + yn.toInt.toNat then Int32.ofInt (σ k (ys.toInt.toNat + (j - yd.toInt.toNat))) else Int32.ofInt (σ k j)) = Int32.ofInt (if k = k ∧ yd.toInt.toNat ≤ j ∧ j < yd.toInt.toNat + yn.toInt.toNat then σ k (ys.toInt.toNat + (j - yd.toInt.toNat)) else σ k j)
      by_cases e2 : yd.toInt.toNat ≤ j ∧ j < yd.toInt.toNat + yn.toInt.toNat
      · rw [if_pos e2, if_pos ⟨rfl, e2⟩]
      · rw [if_neg e2, if_neg (fun z => e2 z.2)]
    · rw [List.getElem?_set_ne (Ne.symm e)]
      unfold wl
      rw [List.getElem?_mapIdx, List.getElem?_mapIdx]
      have : hcopy σ q ys.toInt.toNat yd.toInt.toNat yn.toInt.toNat k = σ k := by
        funext i
        exact if_neg (fun z => e z.1)
      rw [this]
  rw [hw2] at hP1 hD1
  refine kk _ rfl H1 locs1 ls _ ⟨hP1, hD1, fun q' i => ?_⟩ hS1 hL hV5
  unfold hcopy
  by_cases e : q' = q ∧ yd.toInt.toNat ≤ i ∧ i < yd.toInt.toNat + yn.toInt.toNat
  · rw [if_pos e, e.1, isL_a hq (by decide)]
    have := hH.2.2 q (ys.toInt.toNat + (i - yd.toInt.toNat))
    rw [isL_a hq (by decide)] at this
    exact this
  · rw [if_neg e]; exact hH.2.2 q' i
theorem lsw_out : ∀ {ps : List (Int × Int)} {dflt a : Int}, (∀ q ∈ ps, ¬ q.1 = a) → Op.lookupswitch.offset ps dflt a = dflt
  | [], _, _, _ => rfl
  | q :: r, dflt, a, h => by
    show (if q.1 = a then q.2 else Op.lookupswitch.offset r dflt a) = dflt
    rw [if_neg (h q List.mem_cons_self)]
    exact lsw_out (fun q' h' => h q' (List.mem_cons_of_mem _ h'))
/-! contracts -/
def aRt (ad : Nat → Nat) (rt : Nat) (z : Int) (v : Option Value) : Prop := match v with
  | some v => rt < 3 ∧ cv ad (rt, z) v
  | none => rt = 3
def aPc (g : aG) (sh : aSh) (σ : Hp) (U : State) : Prop := va_P g.1 vwCl (wl g sh σ) U.heap ∧ va_K g.1 vwCl (tysA g) U ∧ va_D (fun _ => True) (wl g sh σ) ∧ wr sh σ ∧ sEx (va_A (wl g sh σ) U.heap.size) U U.heap
def aQc (g : aG) (sh : aSh) (rt : Nat) (r : Int × Hp) (A : Nat → Prop) : Array Value → State → Outcome → State → Prop := fun _ st oc t => (∃ v, oc = .returned v ∧ aRt g.2.2 rt r.1 v ∧ va_P g.1 vwCl (wl g sh r.2) t.heap ∧ wr sh r.2) ∧ va_F A st t
def aMet (l : Launch) (g : aG) (sh : aSh) (y : MethodName) (ws : List Cond) (rm : Room) (As : List AV) (σ : Hp) (rt : Nat) (r : Int × Hp) : Prop :=
  ∀ (vs : List Value) (sz : Nat), aV g.2.2 vs As → Met l y ws rm (va_Pc vs (fun U => U.heap.size = sz ∧ aPc g sh σ U)) (aQc g sh rt r (va_A (wl g sh σ) sz)) 0 0 (va_A (wl g sh σ) sz)
/-- a method's end: what it owes -/
def aE (x : aC) (sh : aSh) (ret : Option FieldType) (rt : Nat) (r : Int × Hp) : Prop := (xmeth x).sig.returnType = ret ∧ (xmeth x).locks = false ∧ xQ x = MQ (xbelow x) (aQc (xg x) sh rt r (xA x)) (xargs x) (xs x) (xk x) (xw x) (xA x) ∧ xH x = (xs x).heap
theorem A_ireturn (X : aX x cc Ts own nL rm) {z : Int} {r : Int × Hp} (E : aE x sh (some .int) 0 r) (h : some (z, σ) = some r) (hd : decode cc pc = .ok (.ireturn, 1)) : aS x sh nL pc L [vI z] σ := fun H locs ls cst hH hS hL hV => by
  obtain ⟨ya, v2, rfl, ea, hV1⟩ := aV_I hV
  have := aV_nil hV1
  subst this
  cases h
  rw [E.2.2.1]
  have hS' : va_S (xA x) (xs x).heap H locs := by rw [← E.2.2.2]; exact hS
  exact W.iret X.1 X.2.1 E.1 (fun t ht hW => ⟨⟨_, rfl, ⟨by decide, ya, rfl, ea⟩, by rw [ht]; exact hH.1, hH.2.2⟩, hS'.F ht⟩) hS.2.2 hd E.2.1
theorem A_zreturn (X : aX x cc Ts own nL rm) {z : Int} {r : Int × Hp} (hz : z = 0 ∨ z = 1) (E : aE x sh (some .boolean) 0 r) (h : some (z, σ) = some r) (hd : decode cc pc = .ok (.ireturn, 1)) : aS x sh nL pc L [vI z] σ := fun H locs ls cst hH hS hL hV => by
  obtain ⟨ya, v2, rfl, ea, hV1⟩ := aV_I hV
  have := aV_nil hV1
  subst this
  have hy : ya = 0 ∨ ya = 1 := by
    rcases hz with h | h
    · exact Or.inl (Int32.toInt_inj.mp (by rw [ea, h]; rfl))
    · exact Or.inr (Int32.toInt_inj.mp (by rw [ea, h]; rfl))
  cases h
  rw [E.2.2.1]
  have hS' : va_S (xA x) (xs x).heap H locs := by rw [← E.2.2.2]; exact hS
  exact W.zret (ty := .boolean) X.1 X.2.1 E.1 (by rcases hy with rfl | rfl <;> rfl) (fun t ht hW => ⟨⟨_, rfl, ⟨by decide, ya, rfl, ea⟩, by rw [ht]; exact hH.1, hH.2.2⟩, hS'.F ht⟩) hS.2.2 hd E.2.1
theorem A_lreturn (X : aX x cc Ts own nL rm) {z : Int} {r : Int × Hp} (E : aE x sh (some .long) 1 r) (h : some (z, σ) = some r) (hd : decode cc pc = .ok (.lreturn, 1)) : aS x sh nL pc L [vL z] σ := fun H locs ls cst hH hS hL hV => by
  obtain ⟨ya, v2, rfl, ea, hV1⟩ := aV_L hV
  have := aV_nil hV1
  subst this
  cases h
  rw [E.2.2.1]
  have hS' : va_S (xA x) (xs x).heap H locs := by rw [← E.2.2.2]; exact hS
  exact W.lret X.1 X.2.1 E.1 (fun t ht hW => ⟨⟨_, rfl, ⟨by decide, ya, rfl, ea⟩, by rw [ht]; exact hH.1, hH.2.2⟩, hS'.F ht⟩) hS.2.2 hd E.2.1
theorem A_areturn (X : aX x cc Ts own nL rm) {q : Nat} {r : Int × Hp} {C2 : String} (E : aE x sh (some (.object C2)) 2 r) (h : some (Int.ofNat q, σ) = some r) (hd : decode cc pc = .ok (.areturn, 1)) : aS x sh nL pc L [vR q] σ := fun H locs ls cst hH hS hL hV => by
  obtain ⟨v2, rfl, hV1⟩ := aV_R hV
  have := aV_nil hV1
  subst this
  cases h
  rw [E.2.2.1]
  have hS' : va_S (xA x) (xs x).heap H locs := by rw [← E.2.2.2]; exact hS
  exact W.aret X.1 X.2.1 E.1 (Or.inl ⟨_, rfl⟩) (Or.inr ⟨_, rfl⟩) (fun t ht hW => ⟨⟨_, rfl, ⟨by decide, rfl⟩, by rw [ht]; exact hH.1, hH.2.2⟩, hS'.F ht⟩) hS.2.2 hd E.2.1
theorem A_return (X : aX x cc Ts own nL rm) {r : Int × Hp} (E : aE x sh none 3 r) (h : some ((0 : Int), σ) = some r) (hd : decode cc pc = .ok (.return_, 1)) : aS x sh nL pc L [] σ := fun H locs ls cst hH hS hL hV => by
  have := aV_nil hV
  subst this
  cases h
  rw [E.2.2.1]
  have hS' : va_S (xA x) (xs x).heap H locs := by rw [← E.2.2.2]; exact hS
  exact W.vret X.1 X.2.1 E.1 (fun t ht hW => ⟨⟨_, rfl, rfl, by rw [ht]; exact hH.1, hH.2.2⟩, hS'.F ht⟩) hS.2.2 hd E.2.1
def rtp (rt : Nat) (z : Int) (st : List AV) : List AV := if rt = 3 then st else (rt, z) :: st
theorem aIn {H : Heap} {locs : List Loc} (X : aX x cc Ts own nL rm) (hH : hR x sh σ H) (hS : va_S (xA x) (xH x) H locs) : ∀ q, va_A (wl (xg x) sh σ) H.size q → xA x q := by
  intro q h
  rcases h with ⟨k, e, h⟩ | h
  · exact hH.2.1.2 k (q, e) h
  · exact X.2.2.2.2.2.2.1 q (Nat.le_trans hS.1 h)
/-- behind a call -/
theorem A_run {σ' : Hp} {rt : Nat} {z : Int} {st0 : List AV} {mkv : List Value → List Value → Prop}
    (hr : ∀ (H : Heap) (locs : List Loc) (ls : Array Slot) (cst : List Value), hR x sh σ H → va_S (xA x) (xH x) H locs → aL (xg x).2.2 ls nL L → aV (xg x).2.2 cst st0 → ∃ rest a, aV (xg x).2.2 rest st ∧ va_Run (xp x) (xl x) (xe x) (xR x) (xs x) (xm x) (xargs x) (xbelow x) (xmeth x) (xc x) H locs (xk x) (xw x) 0 0 (F0 (xm x) pc ls cst) rest (aQc (xg x) sh rt (z, σ') (va_A (wl (xg x) sh σ) H.size) a) (va_A (wl (xg x) sh σ) H.size))
    (X : aX x cc Ts own nL rm) (kk : aS x sh nL (pc + 3) L (rtp rt z st) σ') : aS x sh nL pc L st0 σ := fun H locs ls cst hH hS hL hV => by
  obtain ⟨rest, a, hrest, hrun⟩ := hr H locs ls cst hH hS hL hV
  have hA := aIn X hH hS
  intro T hT Xs
  obtain ⟨v, st₀, t, T', Ls, h0, X', hLs, e1, e2, ⟨⟨v', hv, hz, hP, hw⟩, hsz, hk⟩, stp⟩ := hrun T hT Xs
  cases hv
  rw [h0] at hsz hk
  have hst : aV (xg x).2.2 (v.toList ++ rest) (rtp rt z st) := by
    unfold rtp
    cases v with
    | none => rw [if_pos (show rt = 3 from hz)]; exact hrest
    | some w => rw [if_neg (by have := hz.1; omega)]; exact ⟨hz.2, hrest⟩
  obtain ⟨t2, a1, b1⟩ := kk T'.heap (locs ++ Ls) ls (v.toList ++ rest) ⟨by rw [e1]; exact hP, wl_D hH.2.1, hw⟩
    ⟨Nat.le_trans hS.1 (by rw [e1]; exact hsz), fun q h1 h2 => by rw [e1, hk q (Nat.lt_of_lt_of_le h1 hS.1) (fun z => h2 (hA q z))]; exact hS.2.1 q h1 h2, fun q hq => by
      rcases List.mem_append.mp hq with h | h
      · exact hS.2.2 q h
      · exact hA _ (hLs q h)⟩ hL hst T' rfl X'
  exact ⟨t2, stp t2 a1, b1⟩
theorem aBlind {g : aG} {σ : Hp} {vs : List Value} {sz : Nat} : FrameBlind (va_Pc vs (fun U => U.heap.size = sz ∧ aPc g sh σ U)) := fun a U j mk h => by
  obtain ⟨h1, h2, h3, h4, h5, h6, h7⟩ := h
  exact ⟨h1, h2, h3, va_K.moved (u := U) (U := U.calling j mk a) (Vm.Alike.refl U.vm) h4, h5, h6, h7.same rfl⟩
theorem aPre {H : Heap} {locs : List Loc} {vs : List Value} (X : aX x cc Ts own nL rm) (hH : hR x sh σ H) (hS : va_S (xA x) (xH x) H locs) : ∀ U : State, U.heap = H → (xs x).WarmedH U.vm → va_Pc vs (fun U => U.heap.size = H.size ∧ aPc (xg x) sh σ U) vs.toArray U := fun U hU hW =>
  ⟨rfl, by rw [hU], by rw [hU]; exact hH.1, va_K.moved hW.alike X.2.2.2.2.2.1, hH.2.1.weaken (fun _ _ _ _ => trivial), hH.2.2, by rw [hU]; exact X.2.2.2.2.2.2.2.2.2.2.to hW hS.2.1 (aIn X hH hS)⟩
theorem A_callV (X : aX x cc Ts own nL rm) {As : List AV} {σ' : Hp} {C : String} {T : u_T} {N maxL idx q ci n rt na : Nat} {fs : List (Nat × Nat)} {z : Int} {st0 : List AV} {y : MethodName} {bytes : ByteArray} {ret : Option FieldType} {ws ws' : List Cond} {rmc : Room} (hM : aMet (xl x) (xg x) sh y ws rmc (vR q :: As) σ rt (z, σ'))
    (hG : GoodIn Ts (wsV own idx C y ws)) (hw : ws = Cond.code y bytes maxL ret :: ws') (hrc : rmc.cells = 0 ∧ rmc.slots = 0) (hy : y.cls = C ∧ y.cls ≠ "java/lang/invoke/MethodHandle" ∧ y.cls ≠ "java/lang/invoke/VarHandle" ∧ (parseMethodDescriptor y.desc).map (fun d => d.parameters.length) = some na) (hna : As.length = na)
    (hR : rmc.frames + 1 ≤ rm.frames ∧ 8 + (maxL + 11) + rmc.locals ≤ rm.locals) (hq : sh[q]? = some (ci, n, fs)) (hci : ci < 100) (hc : vwCl[ci]? = some (C, T, N)) (hst : st0 = As.reverse ++ vR q :: st) (hcat : aCat st ≤ 8) (hd : decode cc pc = .ok (.invokevirtual idx, 3)) (kk : aS x sh nL (pc + 3) L (rtp rt z st) σ') : aS x sh nL pc L st0 σ := by
  refine A_run (mkv := fun _ _ => True) (fun H locs ls cst hH hS hL hV => ?_) X kk
  subst hst
  obtain ⟨c1, c2, rfl, hc1, hc2⟩ := aV_app _ hV
  obtain ⟨c3, rfl, hc3⟩ := aV_R hc2
  have hv : aV (xg x).2.2 c1.reverse As := by have := aV_rev hc1; rwa [List.reverse_reverse] at this
  obtain ⟨l, hl1, -⟩ := id hL
  have he := wl_get (g := xg x) (σ := σ) hq
  rw [wcell_o _ _ _ _ _ _ hci] at he
  refine ⟨c3, (Value.ref ((xg x).2.2 q) :: c1.reverse).toArray, hc3, va_runV (As := c1.reverse) (rest := c3) ⟨X.1, X.2.1, X.2.2.1, X.2.2.2.1, X.2.2.2.2.1⟩ (hM (.ref ((xg x).2.2 q) :: c1.reverse) H.size ⟨rfl, hv⟩) (cwV na X.2.2.2.2.1 hG hw hrc.1 hrc.2 hy (by rw [X.2.2.2.2.2.2.2.1]; exact hR)) ⟨aBlind, va_recv X.2.2.2.2.2.1 hH.1 hc he, aPre X hH hS⟩ rfl ?_ hl1.1 (by show c1 ++ _ = _; rw [List.reverse_reverse]) (lv_room (by rw [aV_cat hc3]; exact hcat)) hd ?_⟩
  · rw [← hna]; exact aV_len hv
  · rw [X.2.2.2.2.2.2.2.1]
    exact ⟨X.2.2.2.2.2.2.2.2.1, X.2.2.2.2.2.2.2.2.2.1⟩
theorem A_callS (X : aX x cc Ts own nL rm) {As : List AV} {σ' : Hp} {maxL idx rt na : Nat} {z : Int} {st0 : List AV} {y : MethodName} {bytes : ByteArray} {ret : Option FieldType} {ws ws' : List Cond} {rmc : Room} (hM : aMet (xl x) (xg x) sh y ws rmc As σ rt (z, σ'))
    (hG : GoodIn Ts (va_wsS own idx y ws)) (hw : ws = Cond.code y bytes maxL ret :: ws') (hrc : rmc.cells = 0 ∧ rmc.slots = 0) (hy : y.cls ≠ "java/lang/invoke/MethodHandle" ∧ y.cls ≠ "java/lang/invoke/VarHandle" ∧ (parseMethodDescriptor y.desc).map (fun d => d.parameters.length) = some na) (hna : As.length = na)
    (hR : rmc.frames + 1 ≤ rm.frames ∧ 8 + (maxL + 11) + rmc.locals ≤ rm.locals) (hst : st0 = As.reverse ++ st) (hcat : aCat st ≤ 8) (hd : decode cc pc = .ok (.invokestatic idx, 3)) (kk : aS x sh nL (pc + 3) L (rtp rt z st) σ') : aS x sh nL pc L st0 σ := by
  refine A_run (mkv := fun _ _ => True) (fun H locs ls cst hH hS hL hV => ?_) X kk
  subst hst
  obtain ⟨c1, c3, rfl, hc1, hc3⟩ := aV_app _ hV
  have hv : aV (xg x).2.2 c1.reverse As := by have := aV_rev hc1; rwa [List.reverse_reverse] at this
  obtain ⟨l, hl1, -⟩ := id hL
  refine ⟨c3, c1.reverse.toArray, hc3, va_runS (As := c1.reverse) (rest := c3) ⟨X.1, X.2.1, X.2.2.1, X.2.2.2.1, X.2.2.2.2.1⟩ (hM c1.reverse H.size hv) (va_cwS na X.2.2.2.2.1 hG hw hrc.1 hrc.2 hy (by rw [X.2.2.2.2.2.2.2.1]; exact hR)) ⟨aBlind, aPre X hH hS⟩ rfl ?_ hl1.1 (by show c1 ++ _ = _; rw [List.reverse_reverse]) (lv_room (by rw [aV_cat hc3]; exact hcat)) hd ?_⟩
  · rw [← hna]; exact aV_len hv
  · rw [X.2.2.2.2.2.2.2.1]
    exact ⟨X.2.2.2.2.2.2.2.2.1, X.2.2.2.2.2.2.2.2.2.1⟩
theorem A_callSo (X : aX x cc Ts own nL rm) {As : List AV} {σ' : Hp} {maxL idx rt na : Nat} {z : Int} {st0 : List AV} {y : MethodName} {bytes : ByteArray} {ret : Option FieldType} {ws ws' : List Cond} {rmc : Room} (hM : aMet (xl x) (xg x) sh y ws rmc As σ rt (z, σ'))
    (hG : GoodIn Ts (wsS own idx y ws)) (hw : ws = Cond.code y bytes maxL ret :: ws') (hrc : rmc.cells = 0 ∧ rmc.slots = 0) (hy : y.cls = own ∧ y.cls ≠ "java/lang/invoke/MethodHandle" ∧ y.cls ≠ "java/lang/invoke/VarHandle" ∧ (parseMethodDescriptor y.desc).map (fun d => d.parameters.length) = some na) (hna : As.length = na)
    (hR : rmc.frames + 1 ≤ rm.frames ∧ 8 + (maxL + 11) + rmc.locals ≤ rm.locals) (hst : st0 = As.reverse ++ st) (hcat : aCat st ≤ 8) (hd : decode cc pc = .ok (.invokestatic idx, 3)) (kk : aS x sh nL (pc + 3) L (rtp rt z st) σ') : aS x sh nL pc L st0 σ := by
  refine A_callS X hM (fun w h => ?_) hw hrc hy.2 hna hR hst hcat hd kk
  refine hG w ?_
  unfold va_wsS at h
  unfold wsS
  rw [hy.1] at h
  exact h

theorem A_callV_I (X : aX x cc Ts own nL rm) {As : List AV} {σ' : Hp} {C : String} {T : u_T} {N maxL idx q ci n na : Nat} {fs : List (Nat × Nat)} {z : Int} {st0 : List AV} {y : MethodName} {bytes : ByteArray} {ret : Option FieldType} {ws ws' : List Cond} {rmc : Room} (hM : aMet (xl x) (xg x) sh y ws rmc (vR q :: As) σ 0 (z, σ'))
    (hG : GoodIn Ts (wsV own idx C y ws)) (hw : ws = Cond.code y bytes maxL ret :: ws') (hrc : rmc.cells = 0 ∧ rmc.slots = 0) (hy : y.cls = C ∧ y.cls ≠ "java/lang/invoke/MethodHandle" ∧ y.cls ≠ "java/lang/invoke/VarHandle" ∧ (parseMethodDescriptor y.desc).map (fun d => d.parameters.length) = some na) (hna : As.length = na)
    (hR : rmc.frames + 1 ≤ rm.frames ∧ 8 + (maxL + 11) + rmc.locals ≤ rm.locals) (hq : sh[q]? = some (ci, n, fs)) (hci : ci < 100) (hc : vwCl[ci]? = some (C, T, N)) (hst : st0 = As.reverse ++ vR q :: st) (hcat : aCat st ≤ 8) (hd : decode cc pc = .ok (.invokevirtual idx, 3)) (kk : aS x sh nL (pc + 3) L (vI z :: st) σ') : aS x sh nL pc L st0 σ :=
  A_callV (rt := 0) X hM hG hw hrc hy hna hR hq hci hc hst hcat hd kk
theorem A_callS_I (X : aX x cc Ts own nL rm) {As : List AV} {σ' : Hp} {maxL idx na : Nat} {z : Int} {st0 : List AV} {y : MethodName} {bytes : ByteArray} {ret : Option FieldType} {ws ws' : List Cond} {rmc : Room} (hM : aMet (xl x) (xg x) sh y ws rmc As σ 0 (z, σ'))
    (hG : GoodIn Ts (va_wsS own idx y ws)) (hw : ws = Cond.code y bytes maxL ret :: ws') (hrc : rmc.cells = 0 ∧ rmc.slots = 0) (hy : y.cls ≠ "java/lang/invoke/MethodHandle" ∧ y.cls ≠ "java/lang/invoke/VarHandle" ∧ (parseMethodDescriptor y.desc).map (fun d => d.parameters.length) = some na) (hna : As.length = na)
    (hR : rmc.frames + 1 ≤ rm.frames ∧ 8 + (maxL + 11) + rmc.locals ≤ rm.locals) (hst : st0 = As.reverse ++ st) (hcat : aCat st ≤ 8) (hd : decode cc pc = .ok (.invokestatic idx, 3)) (kk : aS x sh nL (pc + 3) L (vI z :: st) σ') : aS x sh nL pc L st0 σ :=
  A_callS (rt := 0) X hM hG hw hrc hy hna hR hst hcat hd kk
theorem A_callSo_I (X : aX x cc Ts own nL rm) {As : List AV} {σ' : Hp} {maxL idx na : Nat} {z : Int} {st0 : List AV} {y : MethodName} {bytes : ByteArray} {ret : Option FieldType} {ws ws' : List Cond} {rmc : Room} (hM : aMet (xl x) (xg x) sh y ws rmc As σ 0 (z, σ'))
    (hG : GoodIn Ts (wsS own idx y ws)) (hw : ws = Cond.code y bytes maxL ret :: ws') (hrc : rmc.cells = 0 ∧ rmc.slots = 0) (hy : y.cls = own ∧ y.cls ≠ "java/lang/invoke/MethodHandle" ∧ y.cls ≠ "java/lang/invoke/VarHandle" ∧ (parseMethodDescriptor y.desc).map (fun d => d.parameters.length) = some na) (hna : As.length = na)
    (hR : rmc.frames + 1 ≤ rm.frames ∧ 8 + (maxL + 11) + rmc.locals ≤ rm.locals) (hst : st0 = As.reverse ++ st) (hcat : aCat st ≤ 8) (hd : decode cc pc = .ok (.invokestatic idx, 3)) (kk : aS x sh nL (pc + 3) L (vI z :: st) σ') : aS x sh nL pc L st0 σ :=
  A_callSo (rt := 0) X hM hG hw hrc hy hna hR hst hcat hd kk
theorem A_callV_L (X : aX x cc Ts own nL rm) {As : List AV} {σ' : Hp} {C : String} {T : u_T} {N maxL idx q ci n na : Nat} {fs : List (Nat × Nat)} {z : Int} {st0 : List AV} {y : MethodName} {bytes : ByteArray} {ret : Option FieldType} {ws ws' : List Cond} {rmc : Room} (hM : aMet (xl x) (xg x) sh y ws rmc (vR q :: As) σ 1 (z, σ'))
    (hG : GoodIn Ts (wsV own idx C y ws)) (hw : ws = Cond.code y bytes maxL ret :: ws') (hrc : rmc.cells = 0 ∧ rmc.slots = 0) (hy : y.cls = C ∧ y.cls ≠ "java/lang/invoke/MethodHandle" ∧ y.cls ≠ "java/lang/invoke/VarHandle" ∧ (parseMethodDescriptor y.desc).map (fun d => d.parameters.length) = some na) (hna : As.length = na)
    (hR : rmc.frames + 1 ≤ rm.frames ∧ 8 + (maxL + 11) + rmc.locals ≤ rm.locals) (hq : sh[q]? = some (ci, n, fs)) (hci : ci < 100) (hc : vwCl[ci]? = some (C, T, N)) (hst : st0 = As.reverse ++ vR q :: st) (hcat : aCat st ≤ 8) (hd : decode cc pc = .ok (.invokevirtual idx, 3)) (kk : aS x sh nL (pc + 3) L (vL z :: st) σ') : aS x sh nL pc L st0 σ :=
  A_callV (rt := 1) X hM hG hw hrc hy hna hR hq hci hc hst hcat hd kk
theorem A_callS_L (X : aX x cc Ts own nL rm) {As : List AV} {σ' : Hp} {maxL idx na : Nat} {z : Int} {st0 : List AV} {y : MethodName} {bytes : ByteArray} {ret : Option FieldType} {ws ws' : List Cond} {rmc : Room} (hM : aMet (xl x) (xg x) sh y ws rmc As σ 1 (z, σ'))
    (hG : GoodIn Ts (va_wsS own idx y ws)) (hw : ws = Cond.code y bytes maxL ret :: ws') (hrc : rmc.cells = 0 ∧ rmc.slots = 0) (hy : y.cls ≠ "java/lang/invoke/MethodHandle" ∧ y.cls ≠ "java/lang/invoke/VarHandle" ∧ (parseMethodDescriptor y.desc).map (fun d => d.parameters.length) = some na) (hna : As.length = na)
    (hR : rmc.frames + 1 ≤ rm.frames ∧ 8 + (maxL + 11) + rmc.locals ≤ rm.locals) (hst : st0 = As.reverse ++ st) (hcat : aCat st ≤ 8) (hd : decode cc pc = .ok (.invokestatic idx, 3)) (kk : aS x sh nL (pc + 3) L (vL z :: st) σ') : aS x sh nL pc L st0 σ :=
  A_callS (rt := 1) X hM hG hw hrc hy hna hR hst hcat hd kk
theorem A_callSo_L (X : aX x cc Ts own nL rm) {As : List AV} {σ' : Hp} {maxL idx na : Nat} {z : Int} {st0 : List AV} {y : MethodName} {bytes : ByteArray} {ret : Option FieldType} {ws ws' : List Cond} {rmc : Room} (hM : aMet (xl x) (xg x) sh y ws rmc As σ 1 (z, σ'))
    (hG : GoodIn Ts (wsS own idx y ws)) (hw : ws = Cond.code y bytes maxL ret :: ws') (hrc : rmc.cells = 0 ∧ rmc.slots = 0) (hy : y.cls = own ∧ y.cls ≠ "java/lang/invoke/MethodHandle" ∧ y.cls ≠ "java/lang/invoke/VarHandle" ∧ (parseMethodDescriptor y.desc).map (fun d => d.parameters.length) = some na) (hna : As.length = na)
    (hR : rmc.frames + 1 ≤ rm.frames ∧ 8 + (maxL + 11) + rmc.locals ≤ rm.locals) (hst : st0 = As.reverse ++ st) (hcat : aCat st ≤ 8) (hd : decode cc pc = .ok (.invokestatic idx, 3)) (kk : aS x sh nL (pc + 3) L (vL z :: st) σ') : aS x sh nL pc L st0 σ :=
  A_callSo (rt := 1) X hM hG hw hrc hy hna hR hst hcat hd kk
theorem A_callV_V (X : aX x cc Ts own nL rm) {As : List AV} {σ' : Hp} {C : String} {T : u_T} {N maxL idx q ci n na : Nat} {fs : List (Nat × Nat)} {z : Int} {st0 : List AV} {y : MethodName} {bytes : ByteArray} {ret : Option FieldType} {ws ws' : List Cond} {rmc : Room} (hM : aMet (xl x) (xg x) sh y ws rmc (vR q :: As) σ 3 (z, σ'))
    (hG : GoodIn Ts (wsV own idx C y ws)) (hw : ws = Cond.code y bytes maxL ret :: ws') (hrc : rmc.cells = 0 ∧ rmc.slots = 0) (hy : y.cls = C ∧ y.cls ≠ "java/lang/invoke/MethodHandle" ∧ y.cls ≠ "java/lang/invoke/VarHandle" ∧ (parseMethodDescriptor y.desc).map (fun d => d.parameters.length) = some na) (hna : As.length = na)
    (hR : rmc.frames + 1 ≤ rm.frames ∧ 8 + (maxL + 11) + rmc.locals ≤ rm.locals) (hq : sh[q]? = some (ci, n, fs)) (hci : ci < 100) (hc : vwCl[ci]? = some (C, T, N)) (hst : st0 = As.reverse ++ vR q :: st) (hcat : aCat st ≤ 8) (hd : decode cc pc = .ok (.invokevirtual idx, 3)) (kk : aS x sh nL (pc + 3) L (st) σ') : aS x sh nL pc L st0 σ :=
  A_callV (rt := 3) X hM hG hw hrc hy hna hR hq hci hc hst hcat hd kk
theorem A_callS_V (X : aX x cc Ts own nL rm) {As : List AV} {σ' : Hp} {maxL idx na : Nat} {z : Int} {st0 : List AV} {y : MethodName} {bytes : ByteArray} {ret : Option FieldType} {ws ws' : List Cond} {rmc : Room} (hM : aMet (xl x) (xg x) sh y ws rmc As σ 3 (z, σ'))
    (hG : GoodIn Ts (va_wsS own idx y ws)) (hw : ws = Cond.code y bytes maxL ret :: ws') (hrc : rmc.cells = 0 ∧ rmc.slots = 0) (hy : y.cls ≠ "java/lang/invoke/MethodHandle" ∧ y.cls ≠ "java/lang/invoke/VarHandle" ∧ (parseMethodDescriptor y.desc).map (fun d => d.parameters.length) = some na) (hna : As.length = na)
    (hR : rmc.frames + 1 ≤ rm.frames ∧ 8 + (maxL + 11) + rmc.locals ≤ rm.locals) (hst : st0 = As.reverse ++ st) (hcat : aCat st ≤ 8) (hd : decode cc pc = .ok (.invokestatic idx, 3)) (kk : aS x sh nL (pc + 3) L (st) σ') : aS x sh nL pc L st0 σ :=
  A_callS (rt := 3) X hM hG hw hrc hy hna hR hst hcat hd kk
theorem A_callSo_V (X : aX x cc Ts own nL rm) {As : List AV} {σ' : Hp} {maxL idx na : Nat} {z : Int} {st0 : List AV} {y : MethodName} {bytes : ByteArray} {ret : Option FieldType} {ws ws' : List Cond} {rmc : Room} (hM : aMet (xl x) (xg x) sh y ws rmc As σ 3 (z, σ'))
    (hG : GoodIn Ts (wsS own idx y ws)) (hw : ws = Cond.code y bytes maxL ret :: ws') (hrc : rmc.cells = 0 ∧ rmc.slots = 0) (hy : y.cls = own ∧ y.cls ≠ "java/lang/invoke/MethodHandle" ∧ y.cls ≠ "java/lang/invoke/VarHandle" ∧ (parseMethodDescriptor y.desc).map (fun d => d.parameters.length) = some na) (hna : As.length = na)
    (hR : rmc.frames + 1 ≤ rm.frames ∧ 8 + (maxL + 11) + rmc.locals ≤ rm.locals) (hst : st0 = As.reverse ++ st) (hcat : aCat st ≤ 8) (hd : decode cc pc = .ok (.invokestatic idx, 3)) (kk : aS x sh nL (pc + 3) L (st) σ') : aS x sh nL pc L st0 σ :=
  A_callSo (rt := 3) X hM hG hw hrc hy hna hR hst hcat hd kk
theorem A_callV_R (X : aX x cc Ts own nL rm) {As : List AV} {σ' : Hp} {C : String} {T : u_T} {N maxL idx q ci n na : Nat} {fs : List (Nat × Nat)} {z : Int} {st0 : List AV} {y : MethodName} {bytes : ByteArray} {ret : Option FieldType} {ws ws' : List Cond} {rmc : Room} (hM : aMet (xl x) (xg x) sh y ws rmc (vR q :: As) σ 2 (z, σ'))
    (hG : GoodIn Ts (wsV own idx C y ws)) (hw : ws = Cond.code y bytes maxL ret :: ws') (hrc : rmc.cells = 0 ∧ rmc.slots = 0) (hy : y.cls = C ∧ y.cls ≠ "java/lang/invoke/MethodHandle" ∧ y.cls ≠ "java/lang/invoke/VarHandle" ∧ (parseMethodDescriptor y.desc).map (fun d => d.parameters.length) = some na) (hna : As.length = na)
    (hR : rmc.frames + 1 ≤ rm.frames ∧ 8 + (maxL + 11) + rmc.locals ≤ rm.locals) (hq : sh[q]? = some (ci, n, fs)) (hci : ci < 100) (hc : vwCl[ci]? = some (C, T, N)) (hst : st0 = As.reverse ++ vR q :: st) (hcat : aCat st ≤ 8) (hd : decode cc pc = .ok (.invokevirtual idx, 3)) (kk : aS x sh nL (pc + 3) L (vR z.toNat :: st) σ') : aS x sh nL pc L st0 σ :=
  A_callV (rt := 2) X hM hG hw hrc hy hna hR hq hci hc hst hcat hd (fun H locs ls cst hH hS hL hV => kk H locs ls cst hH hS hL (by obtain ⟨v, vs, e, h1, h2⟩ := aV_cons (show aV _ cst ((2, z) :: st) from hV); rw [e]; exact ⟨h1, h2⟩))
theorem A_callS_R (X : aX x cc Ts own nL rm) {As : List AV} {σ' : Hp} {maxL idx na : Nat} {z : Int} {st0 : List AV} {y : MethodName} {bytes : ByteArray} {ret : Option FieldType} {ws ws' : List Cond} {rmc : Room} (hM : aMet (xl x) (xg x) sh y ws rmc As σ 2 (z, σ'))
    (hG : GoodIn Ts (va_wsS own idx y ws)) (hw : ws = Cond.code y bytes maxL ret :: ws') (hrc : rmc.cells = 0 ∧ rmc.slots = 0) (hy : y.cls ≠ "java/lang/invoke/MethodHandle" ∧ y.cls ≠ "java/lang/invoke/VarHandle" ∧ (parseMethodDescriptor y.desc).map (fun d => d.parameters.length) = some na) (hna : As.length = na)
    (hR : rmc.frames + 1 ≤ rm.frames ∧ 8 + (maxL + 11) + rmc.locals ≤ rm.locals) (hst : st0 = As.reverse ++ st) (hcat : aCat st ≤ 8) (hd : decode cc pc = .ok (.invokestatic idx, 3)) (kk : aS x sh nL (pc + 3) L (vR z.toNat :: st) σ') : aS x sh nL pc L st0 σ :=
  A_callS (rt := 2) X hM hG hw hrc hy hna hR hst hcat hd (fun H locs ls cst hH hS hL hV => kk H locs ls cst hH hS hL (by obtain ⟨v, vs, e, h1, h2⟩ := aV_cons (show aV _ cst ((2, z) :: st) from hV); rw [e]; exact ⟨h1, h2⟩))
theorem A_callSo_R (X : aX x cc Ts own nL rm) {As : List AV} {σ' : Hp} {maxL idx na : Nat} {z : Int} {st0 : List AV} {y : MethodName} {bytes : ByteArray} {ret : Option FieldType} {ws ws' : List Cond} {rmc : Room} (hM : aMet (xl x) (xg x) sh y ws rmc As σ 2 (z, σ'))
    (hG : GoodIn Ts (wsS own idx y ws)) (hw : ws = Cond.code y bytes maxL ret :: ws') (hrc : rmc.cells = 0 ∧ rmc.slots = 0) (hy : y.cls = own ∧ y.cls ≠ "java/lang/invoke/MethodHandle" ∧ y.cls ≠ "java/lang/invoke/VarHandle" ∧ (parseMethodDescriptor y.desc).map (fun d => d.parameters.length) = some na) (hna : As.length = na)
    (hR : rmc.frames + 1 ≤ rm.frames ∧ 8 + (maxL + 11) + rmc.locals ≤ rm.locals) (hst : st0 = As.reverse ++ st) (hcat : aCat st ≤ 8) (hd : decode cc pc = .ok (.invokestatic idx, 3)) (kk : aS x sh nL (pc + 3) L (vR z.toNat :: st) σ') : aS x sh nL pc L st0 σ :=
  A_callSo (rt := 2) X hM hG hw hrc hy hna hR hst hcat hd (fun H locs ls cst hH hS hL hV => kk H locs ls cst hH hS hL (by obtain ⟨v, vs, e, h1, h2⟩ := aV_cons (show aV _ cst ((2, z) :: st) from hV); rw [e]; exact ⟨h1, h2⟩))
/-- the locals at a method's entry -/
def aArgs : Nat → List AV → List (Nat × AV)
  | _, [] => []
  | i, a :: r => (i, a) :: aArgs (if a.1 = 1 then i + 2 else i + 1) r
theorem aArgs_ok {ad : Nat → Nat} : ∀ {vs : List Value} {As : List AV} (i : Nat), aV ad vs As → aP ad (lv_args i vs) (aArgs i As)
  | [], [], _, _ => trivial
  | [], _ :: _, _, h => h.elim
  | _ :: _, [], _, h => h.elim
  | v :: vs, a :: r, i, h => by
    refine ⟨⟨rfl, h.1⟩, ?_⟩
    have e : (if v.category = 2 then i + 2 else i + 1) = (if a.1 = 1 then i + 2 else i + 1) := by
      rw [cv_cat h.1]
      by_cases q : a.1 = 1
      · rw [if_pos q, if_pos q, if_pos rfl]
      · rw [if_neg q, if_neg q, if_neg (by decide)]
    show aP ad (lv_args (if v.category = 2 then i + 2 else i + 1) vs) _
    rw [e]
    exact aArgs_ok _ h.2
theorem lg_sl_len {ad : Nat → Nat} : ∀ {vs : List Value} {As : List AV}, aV ad vs As → (lg_sl vs).length = aCat As
  | [], [], _ => rfl
  | [], _ :: _, h => h.elim
  | _ :: _, [], h => h.elim
  | v :: vs, a :: r, h => by
    show ((if v.category = 2 then [Slot.val v, .second] else [Slot.val v]) ++ lg_sl vs).length = _
    rw [List.length_append, lg_sl_len h.2, cv_cat h.1]
    show _ = (if a.1 = 1 then 2 else 1) + aCat r
    by_cases q : a.1 = 1
    · rw [if_pos q, if_pos rfl]; rfl
    · rw [if_neg q, if_neg (by decide)]; rfl
theorem aMet_of {l : Launch} {g : aG} {y : MethodName} {ws ws' : List Cond} {As : List AV} {rt maxL : Nat} {r : Int × Hp} {ret : Option FieldType} {bytes : ByteArray} (hy : plainName y.cls = true) (hw : ws = Cond.code y bytes maxL ret :: ws') (hc : aCat As ≤ maxL) (hrm : rm.cells = 0 ∧ rm.slots = 0)
    (body : ∀ x : aC, xl x = l → xg x = g → aX x bytes ws y.cls maxL rm → aE x sh ret rt r → aS x sh maxL 0 (aArgs 0 As) [] σ) : aMet l g sh y ws rm As σ rt r := by
  intro vs sz hvs
  refine Met.ofW (cc := bytes) (maxL := maxL) (ret := ret) hy hw ?_
  intro p e s m args below meth c s₁ B hml hv
  obtain ⟨rfl, hsz, hP, hK, hD0, hwr, hex⟩ := hv
  subst hsz
  have hD : va_D (va_A (wl g sh σ) s.heap.size) (wl g sh σ) := hD0.self
  have hlen := lg_sl_len hvs
  have hl := lv_entry vs (n := maxL) (by rw [hlen]; exact hc)
  have h := body (0, 0, p, l, e, (headSpec ws rm).room, s, m, vs.toArray, below, meth, c, MQ below (aQc g sh rt r (va_A (wl g sh σ) s.heap.size)) vs.toArray s 0 0 (va_A (wl g sh σ) s.heap.size), g, va_A (wl g sh σ) s.heap.size, s.heap) rfl rfl
    ⟨B.exec, B.bytes, hml, findClass_of_methodNamed B.named, atoms_spec (ws := ws) B.pre, hK, fun q hq => Or.inr hq, rfl, Nat.zero_le _, Nat.zero_le _, hex⟩ ⟨B.returns, B.notSynchronized, rfl, rfl⟩
  have := h s.heap [] _ [] ⟨hP, hD, hwr⟩ va_S.rf ⟨_, hl, aArgs_ok 0 hvs⟩ trivial
  rw [lg_entry_eq]
  exact this
theorem aMet_ofF {l : Launch} {g : aG} {y : MethodName} {ws ws' : List Cond} {As : List AV} {rt maxL : Nat} {r : Int × Hp} {ret : Option FieldType} {bytes : ByteArray} (hy : plainFor y = true) (hw : ws = Cond.code y bytes maxL ret :: ws') (hc : aCat As ≤ maxL) (hrm : rm.cells = 0 ∧ rm.slots = 0)
    (body : ∀ x : aC, xl x = l → xg x = g → aX x bytes ws y.cls maxL rm → aE x sh ret rt r → aS x sh maxL 0 (aArgs 0 As) [] σ) : aMet l g sh y ws rm As σ rt r := by
  intro vs sz hvs
  refine va_MetF (cc := bytes) (maxL := maxL) (ret := ret) hy hw ?_
  intro p e s m args below meth c s₁ B hml hv
  obtain ⟨rfl, hsz, hP, hK, hD0, hwr, hex⟩ := hv
  subst hsz
  have hD : va_D (va_A (wl g sh σ) s.heap.size) (wl g sh σ) := hD0.self
  have hlen := lg_sl_len hvs
  have hl := lv_entry vs (n := maxL) (by rw [hlen]; exact hc)
  have h := body (0, 0, p, l, e, (headSpec ws rm).room, s, m, vs.toArray, below, meth, c, MQ below (aQc g sh rt r (va_A (wl g sh σ) s.heap.size)) vs.toArray s 0 0 (va_A (wl g sh σ) s.heap.size), g, va_A (wl g sh σ) s.heap.size, s.heap) rfl rfl
    ⟨B.exec, B.bytes, hml, findClass_of_methodNamed B.named, atoms_spec (ws := ws) B.pre, hK, fun q hq => Or.inr hq, rfl, Nat.zero_le _, Nat.zero_le _, hex⟩ ⟨B.returns, B.notSynchronized, rfl, rfl⟩
  have := h s.heap [] _ [] ⟨hP, hD, hwr⟩ va_S.rf ⟨_, hl, aArgs_ok 0 hvs⟩ trivial
  rw [lg_entry_eq]
  exact this
end AL


