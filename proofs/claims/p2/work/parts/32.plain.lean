/-! What class and reference both hold, in plain words. -/
/-- a thing: its key, digest, 1 if it is private, what it is built of -/
abbrev aTh : Type := Int32 × Int64 × Int32 × List Int32
/-- a unit: is it there, 1 if it is a reader, its maker, its things, its way, its uses -/
abbrev aUn : Type := Bool × Int32 × Int32 × List aTh × List Int32 × List Int32
/-- how many units ever; each -/
abbrev aSt : Type := Nat × (Nat → aUn)
def uT (a : aUn) : Bool := a.1
def uR (a : aUn) : Int32 := a.2.1
def uM (a : aUn) : Int32 := a.2.2.1
def uL (a : aUn) : List aTh := a.2.2.2.1
def uW (a : aUn) : List Int32 := a.2.2.2.2.1
def uU (a : aUn) : List Int32 := a.2.2.2.2.2
def upd (A : Nat → aUn) (u : Nat) (a : aUn) : Nat → aUn := fun v => if v = u then a else A v
theorem upd_eq (A : Nat → aUn) (u : Nat) (a : aUn) : upd A u a u = a := if_pos rfl
theorem upd_ne (A : Nat → aUn) {u v : Nat} (a : aUn) (h : v ≠ u) : upd A u a v = A v := if_neg h
/-- the unit that a number names, if it is there -/
def isU (st : aSt) (p : Int32) : Option Nat := if p < 0 then none else if p.toNatClampNeg < st.1 ∧ uT (st.2 p.toNatClampNeg) = true then some p.toNatClampNeg else none
theorem isU_some {st : aSt} {p : Int32} {u : Nat} (h : isU st p = some u) : p = nI u ∧ u < st.1 ∧ uT (st.2 u) = true ∧ u < 2147483648 := by
  unfold isU at h
  by_cases c : p < 0
  · rw [if_pos c] at h; cases h
  · rw [if_neg c] at h
    obtain ⟨j, hj, rfl⟩ := nI_of c
    rw [n_cl hj] at h
    by_cases c2 : j < st.1 ∧ uT (st.2 j) = true
    · rw [if_pos c2] at h
      cases h
      exact ⟨rfl, c2.1, c2.2, hj⟩
    · rw [if_neg c2] at h; cases h
theorem isU_of {st : aSt} {u : Nat} (h : u < st.1) (ht : uT (st.2 u) = true) (hb : u < 2147483648) : isU st (nI u) = some u := by
  unfold isU
  rw [if_neg (nI_pos hb), n_cl hb, if_pos ⟨h, ht⟩]
/-- the first thing of a key -/
def tfi (k : Int32) : List aTh → Option Nat
  | [] => none
  | t :: l => if t.1 = k then some 0 else (tfi k l).map (· + 1)
theorem tfi_some {k : Int32} : ∀ {l : List aTh} {j : Nat}, tfi k l = some j → ∃ t, l[j]? = some t ∧ t.1 = k ∧ ∀ i s, i < j → l[i]? = some s → s.1 ≠ k
  | [], j, h => by cases h
  | t :: l, j, h => by
    unfold tfi at h
    by_cases c : t.1 = k
    · rw [if_pos c] at h
      cases h
      exact ⟨t, rfl, c, fun i s hi => absurd hi (Nat.not_lt_zero i)⟩
    · rw [if_neg c] at h
      cases e : tfi k l with
      | none => rw [e] at h; cases h
      | some m =>
        rw [e] at h
        cases h
        obtain ⟨t2, h1, h2, h3⟩ := tfi_some e
        refine ⟨t2, h1, h2, fun i s hi hs => ?_⟩
        cases i with
        | zero => cases hs; exact c
        | succ i => exact h3 i s (by omega) hs
theorem tfi_none {k : Int32} : ∀ {l : List aTh}, tfi k l = none → ∀ i s, l[i]? = some s → s.1 ≠ k
  | [], h, i, s, hs => by cases hs
  | t :: l, h, i, s, hs => by
    unfold tfi at h
    by_cases c : t.1 = k
    · rw [if_pos c] at h; cases h
    · rw [if_neg c] at h
      cases e : tfi k l with
      | none =>
        cases i with
        | zero => cases hs; exact c
        | succ i => exact tfi_none e i s hs
      | some m => rw [e] at h; cases h
theorem tfi_is {k : Int32} : ∀ {l : List aTh} {j : Nat} {t : aTh}, l[j]? = some t → t.1 = k → (∀ i s, i < j → l[i]? = some s → s.1 ≠ k) → tfi k l = some j
  | [], j, t, h, _, _ => by cases h
  | s :: l, 0, t, h, ht, hb => by
    cases h
    unfold tfi
    rw [if_pos ht]
  | s :: l, j + 1, t, h, ht, hb => by
    unfold tfi
    rw [if_neg (hb 0 s (by omega) rfl), tfi_is (l := l) (j := j) h ht (fun i s hi hs => hb (i + 1) s (by omega) hs)]
    rfl
theorem tfi_no {k : Int32} : ∀ {l : List aTh}, (∀ i s, l[i]? = some s → s.1 ≠ k) → tfi k l = none
  | [], _ => rfl
  | s :: l, hb => by
    unfold tfi
    rw [if_neg (hb 0 s rfl), tfi_no (l := l) (fun i s hs => hb (i + 1) s hs)]
    rfl
theorem tfi_lt {k : Int32} {l : List aTh} {j : Nat} (h : tfi k l = some j) : j < l.length := by
  obtain ⟨t, h1, -⟩ := tfi_some h
  exact (List.getElem?_eq_some_iff.mp h1).1
/-- the thing that is found from a unit: ten times its unit's number, and its place there -/
def lookW (A : Nat → aUn) (k : Int32) : List Int32 → Option Nat
  | [] => none
  | w :: ws => match tfi k (uL (A w.toNatClampNeg)) with
    | none => lookW A k ws
    | some j => match (uL (A w.toNatClampNeg))[j]? with
      | none => lookW A k ws
      | some t => if t.2.2.1 = 0 then some (10 * w.toNatClampNeg + j) else lookW A k ws
def look (A : Nat → aUn) (u : Nat) (k : Int32) : Option Nat := match tfi k (uL (A u)) with
  | some j => some (10 * u + j)
  | none => lookW A k (uW (A u))
/-- what holds of all: bounds, ways of units that are there, readers and makers -/
def WA (st : aSt) : Prop := st.1 ≤ 16 ∧ ∀ u, u < st.1 → (uL (st.2 u)).length ≤ 10 ∧ (∀ j t, (uL (st.2 u))[j]? = some t → t.2.2.2.length ≤ 3 ∧ (t.2.2.1 = 0 ∨ t.2.2.1 = 1) ∧ (∃ s m : Nat, s < 3 ∧ m < 32 ∧ t.1 = nI (32 * s + m)) ∧ ∀ b, b ∈ t.2.2.2 → ∃ m : Nat, m < 32 ∧ b = nI m) ∧
  (uW (st.2 u)).length ≤ 6 ∧ (uU (st.2 u)).length ≤ 12 ∧ (uR (st.2 u) = 0 ∨ uR (st.2 u) = 1) ∧ (∀ w, w ∈ uU (st.2 u) → ∃ s m : Nat, s < 2 ∧ m < 32 ∧ w = nI (32 * s + m)) ∧
  (uT (st.2 u) = true → (∀ w, w ∈ uW (st.2 u) → ∃ v, v < st.1 ∧ uT (st.2 v) = true ∧ w = nI v) ∧ (uM (st.2 u) = -5 ∨ (uR (st.2 u) = 0 ∧ ∃ v, v < st.1 ∧ uT (st.2 v) = true ∧ uR (st.2 v) = 1 ∧ uM (st.2 u) = nI v)))
theorem WA.e (h : WA st) {u : Nat} (hu : u < st.1) : u < 16 := Nat.lt_of_lt_of_le hu h.1
theorem WA.l {st : aSt} (h : WA st) {u : Nat} (hu : u < st.1) : (uL (st.2 u)).length ≤ 10 := (h.2 u hu).1
theorem WA.w {st : aSt} (h : WA st) {u : Nat} (hu : u < st.1) : (uW (st.2 u)).length ≤ 6 := (h.2 u hu).2.2.1
theorem WA.u {st : aSt} (h : WA st) {u : Nat} (hu : u < st.1) : (uU (st.2 u)).length ≤ 12 := (h.2 u hu).2.2.2.1
theorem WA.b {st : aSt} (h : WA st) {u j : Nat} {t : aTh} (hu : u < st.1) (ht : (uL (st.2 u))[j]? = some t) : t.2.2.2.length ≤ 3 := ((h.2 u hu).2.1 j t ht).1
theorem WA.p {st : aSt} (h : WA st) {u j : Nat} {t : aTh} (hu : u < st.1) (ht : (uL (st.2 u))[j]? = some t) : t.2.2.1 = 0 ∨ t.2.2.1 = 1 := ((h.2 u hu).2.1 j t ht).2.1
/-- a thing of the reference, at its place -/
def MV (G : gG) (S : sSt) (i : Nat) (t : aTh) : Prop := gAI S (G 364 0) i = t.1 ∧ gAJ S (G 365 0) i = t.2.1 ∧ gAI S (G 366 0) i = t.2.2.1 ∧ gAI S (G 367 0) i = nI t.2.2.2.length ∧ ∀ k b, t.2.2.2[k]? = some b → gAI S (G 368 0) (3 * i + k) = b
/-- a unit of the reference -/
def MU (G : gG) (S : sSt) (u : Nat) (a : aUn) : Prop := gAI S (G 362 0) u = bI (uT a) ∧ gAI S (G 363 0) u = nI (uL a).length ∧ gAI S (G 369 0) u = nI (uW a).length ∧ gAI S (G 371 0) u = nI (uU a).length ∧ gAI S (G 373 0) u = uR a ∧ gAI S (G 374 0) u = uM a ∧
  (∀ j t, (uL a)[j]? = some t → MV G S (10 * u + j) t) ∧ (∀ k w, (uW a)[k]? = some w → gAI S (G 370 0) (6 * u + k) = w) ∧ (∀ k w, (uU a)[k]? = some w → gAI S (G 372 0) (12 * u + k) = w)
/-- the reference holds st -/
def RM (G : gG) (S : sSt) (st : aSt) : Prop := gFI S 361 (G 16 0) = nI st.1 ∧ ∀ u, u < st.1 → MU G S u (st.2 u)
