/-! Values of the stack and of the variables: an int, a long, a reference or null. -/
abbrev jV : Type := Int32 ⊕ Int64 ⊕ Option Nat
abbrev vI (x : Int32) : jV := .inl x
abbrev vJ (x : Int64) : jV := .inr (.inl x)
abbrev vR (x : Option Nat) : jV := .inr (.inr x)
def jv (v : jV) : Value := match v with
  | .inl x => .int x
  | .inr (.inl x) => .long x
  | .inr (.inr x) => va_rf x
/-- takes two places -/
def jc2 (v : jV) : Bool := match v with
  | .inr (.inl _) => true
  | _ => false
def jcat (v : jV) : Nat := if jc2 v = true then 2 else 1
theorem jv_cat (v : jV) : (jv v).category = jcat v := by
  rcases v with x | x | x
  · rfl
  · rfl
  · cases x <;> rfl
def jL (L : List (Nat × jV)) : List (Nat × Value) := L.map (fun q => (q.1, jv q.2))
theorem jL_get {L : List (Nat × jV)} {j i : Nat} {v : jV} (h : L[j]? = some (i, v)) : (jL L)[j]? = some (i, jv v) := by simp [jL, h]
/-- a variable of one place is written -/
def jst (i : Nat) (v : jV) (L : List (Nat × jV)) : List (Nat × jV) := (i, v) :: L.filter (fun q => !(q.1 == i) && !(q.1 + 1 == i && jc2 q.2))
/-- a variable of two places is written -/
def jst2 (i : Nat) (v : jV) (L : List (Nat × jV)) : List (Nat × jV) := (i, v) :: L.filter (fun q => !(q.1 == i) && (!(q.1 == i + 1) && !(q.1 + 1 == i && jc2 q.2)))
theorem jc2_cat (v : jV) : ((jv v).category == 2) = jc2 v := by
  rcases v with x | x | x
  · rfl
  · rfl
  · cases x <;> rfl
theorem jL_st (i : Nat) (v : jV) (L : List (Nat × jV)) : jL (jst i v L) = (i, jv v) :: (jL L).filter (fun q => !(q.1 == i) && !(q.1 + 1 == i && q.2.category == 2)) := by
  simp only [jL, jst, List.map_cons, List.filter_map]
  refine congrArg (fun f => (i, jv v) :: List.map (fun q => (q.1, jv q.2)) (List.filter f L)) ?_
  funext q
  simp only [Function.comp_apply, jc2_cat]
theorem jL_st2 (i : Nat) (v : jV) (L : List (Nat × jV)) : jL (jst2 i v L) = (i, jv v) :: (jL L).filter (fun q => !(q.1 == i) && (!(q.1 == i + 1) && !(q.1 + 1 == i && q.2.category == 2))) := by
  simp only [jL, jst2, List.map_cons, List.filter_map]
  refine congrArg (fun f => (i, jv v) :: List.map (fun q => (q.1, jv q.2)) (List.filter f L)) ?_
  funext q
  simp only [Function.comp_apply, jc2_cat]
/-- fewer variables, in any order, by their places -/
def jpick (L : List (Nat × jV)) (ks : List Nat) : List (Nat × jV) := ks.filterMap (fun k => L[k]?)
theorem jL_pick (L : List (Nat × jV)) (ks : List Nat) : jL (jpick L ks) = lv_pick (jL L) ks := by
  simp only [jL, jpick, lv_pick, List.map_filterMap]
  congr 1
  funext k
  simp
def jargs : Nat → List jV → List (Nat × jV)
  | _, [] => []
  | i, v :: vs => (i, v) :: jargs (if jc2 v = true then i + 2 else i + 1) vs
theorem jL_args : ∀ (vs : List jV) (i : Nat), jL (jargs i vs) = lv_args i (vs.map jv)
  | [], _ => rfl
  | v :: vs, i => by
    have h := jL_args vs (if jc2 v = true then i + 2 else i + 1)
    simp only [jL, jargs, List.map_cons, lv_args] at h ⊢
    rw [h]
    have e : (jv v).category = 2 ↔ jc2 v = true := by rw [← jc2_cat]; simp
    simp only [e]
def jlen : List jV → Nat
  | [] => 0
  | v :: vs => (if jc2 v = true then 2 else 1) + jlen vs
theorem jlen_sl : ∀ (vs : List jV), (lg_sl (vs.map jv)).length = jlen vs
  | [] => rfl
  | v :: vs => by
    have h := jlen_sl vs
    simp only [lg_sl, List.map_cons, List.flatMap_cons, List.length_append, jlen] at h ⊢
    rw [h]
    have e : (jv v).category = 2 ↔ jc2 v = true := by rw [← jc2_cat]; simp
    by_cases c : jc2 v = true
    · rw [if_pos (e.mpr c), if_pos c]; rfl
    · rw [if_neg (fun z => c (e.mp z)), if_neg c]; rfl
def jsum : List jV → Nat
  | [] => 0
  | v :: vs => jcat v + jsum vs
theorem jsum_map : ∀ (vs : List jV), ((vs.map jv).map fun v => v.category).sum = jsum vs
  | [] => rfl
  | v :: vs => by simp only [List.map_cons, List.sum_cons, jsum, jsum_map vs, jv_cat]
/-! The words of all classes and methods: one list for every method. -/
def bigW : List Cond := lw_tbl.filter goodWord
theorem big_mem {w : Cond} (i : Nat) (h : lw_tbl[i]? = some w) (hg : goodWord w = true) : w ∈ bigW := List.mem_filter.mpr ⟨List.mem_of_getElem? h, hg⟩
theorem big_good {w : Cond} (h : w ∈ bigW) : goodWord w = true := (List.mem_filter.mp h).2
theorem big_sub {w : Cond} (h : w ∈ bigW) : w ∈ lw_tbl := (List.mem_filter.mp h).1
theorem big_in {ws : List Cond} (h : ∀ w ∈ ws, w ∈ bigW) : GoodIn bigW ws := fun w hw => ⟨h w hw, good_of_word (big_good (h w hw))⟩
/-- calls between classes of one nest -/
def nests : List (String × Nat × MethodName × String) := [("RemakeNeeds2$Constants", 53, ⟨"RemakeNeeds2", "sortOf", "(I)I"⟩, "RemakeNeeds2"), ("RemakeNeeds2$Units", 72, ⟨"RemakeNeeds2", "keyOf", "(II)I"⟩, "RemakeNeeds2"), ("RemakeNeeds2$Unit", 85, ⟨"RemakeNeeds2", "keyOf", "(II)I"⟩, "RemakeNeeds2"), ("RemakeNeeds2$Rows", 110, ⟨"RemakeNeeds2", "sortOf", "(I)I"⟩, "RemakeNeeds2"), ("RemakeNeeds2$Rows", 114, ⟨"RemakeNeeds2", "nameOf", "(I)I"⟩, "RemakeNeeds2")]
def nestOk (U : State) : Prop := (∀ q ∈ nests, va_Nw (.methodLinkNest q.1 q.2.1 q.2.2.1 q.2.2.2) U) ∧ va_AO RX5 U ∧ va_AO RX6 U
theorem nestOk.warm {s U : State} (hW : s.WarmedH U.vm) (h : nestOk s) : nestOk U := ⟨fun q hq => va_Nw.warmM hW (h.1 q hq), h.2.1.moved hW.alike, h.2.2.moved hW.alike⟩
theorem nestOk.same {u U : State} (e : u.vm = U.vm) (h : nestOk u) : nestOk U := ⟨fun q hq => va_Nw.same rfl e (h.1 q hq), h.2.1.moved (e ▸ Vm.Alike.refl u.vm), h.2.2.moved (e ▸ Vm.Alike.refl u.vm)⟩
/-! The walk's fixed things: program, launch, environment, room, start, method, arguments, frames below, method's text, code, heap at the start, what may change, the tables of fields, the arrays' numbers, what is due. -/
abbrev jX : Type := Program × Launch × Env × Room × State × MethodId × Array Value × List Frame × Method × Code × Heap × (Nat → Prop) × va_G × (Nat → ClassId) × (State → Prop)
abbrev xp (X : jX) : Program := X.1
abbrev xl (X : jX) : Launch := X.2.1
abbrev xe (X : jX) : Env := X.2.2.1
abbrev xR (X : jX) : Room := X.2.2.2.1
abbrev xs (X : jX) : State := X.2.2.2.2.1
abbrev xm (X : jX) : MethodId := X.2.2.2.2.2.1
abbrev xa (X : jX) : Array Value := X.2.2.2.2.2.2.1
abbrev xb (X : jX) : List Frame := X.2.2.2.2.2.2.2.1
abbrev xt (X : jX) : Method := X.2.2.2.2.2.2.2.2.1
abbrev xc (X : jX) : Code := X.2.2.2.2.2.2.2.2.2.1
abbrev xH (X : jX) : Heap := X.2.2.2.2.2.2.2.2.2.2.1
abbrev xA (X : jX) : Nat → Prop := X.2.2.2.2.2.2.2.2.2.2.2.1
abbrev xD (X : jX) : va_G := X.2.2.2.2.2.2.2.2.2.2.2.2.1
abbrev xy (X : jX) : Nat → ClassId := X.2.2.2.2.2.2.2.2.2.2.2.2.2.1
abbrev xQ (X : jX) : State → Prop := X.2.2.2.2.2.2.2.2.2.2.2.2.2.2
abbrev jW (X : jX) (H : Heap) (locs : List Loc) (k n : Nat) (g : JFrame) : Prop := W (xp X) (xl X) (xe X) (xR X) (xs X) (xm X) (xa X) (xb X) (xt X) (xc X) H locs k n (xQ X) g
/-- from here, with these variables and this stack, in this store, the method comes to what is due, if φ -/
def J (X : jX) (nL k n pc : Nat) (L : List (Nat × jV)) (st : List jV) (Λ : sLay) (S : sSt) (φ : Prop) : Prop :=
  φ → TS Λ S → ∀ (H : Heap) (locs : List Loc) (ls : Array Slot), va_P (xD X) cls (pool (xy X) Λ S) H → va_D (xA X) (pool (xy X) Λ S) → va_S (xA X) (xH X) H locs → lv_has ls nL (jL L) → jW X H locs k n (F0 (xm X) pc ls (st.map jv))
def jC (X : jX) (cc : ByteArray) (nL : Nat) (own : String) (R : Room) : Prop :=
  (xp X).tables.exec = Jvm.exec ∧ (xc X).code = cc ∧ (xc X).maxLocals = nL ∧ (xs X).vm.findClass own = some (xm X).cls ∧ (∀ w ∈ bigW, w.before (xa X) (xs X) = true) ∧ va_K (xD X) cls (tys (xy X)) (xs X) ∧ (∀ q, (xH X).size ≤ q → xA X q) ∧ xR X = R ∧ nestOk (xs X)
/-! A method's contract: what F says of it. -/
def hB (D : va_G) (cy : Nat → ClassId) (Λ : sLay) (S : sSt) (A : Nat → Prop) (U : State) : Prop := va_P D cls (pool cy Λ S) U.heap ∧ va_K D cls (tys cy) U ∧ va_D A (pool cy Λ S) ∧ TS Λ S ∧ nestOk U
/-- how a method answers: as a value, on the stack, of its kind -/
abbrev jR (β : Type) : Type := (β → Option Value) × (β → List jV) × (sLay → β → Prop)
def jRok {β : Type} (K : jR β) : Prop := ∀ v, (K.1 v).toList = (K.2.1 v).map jv
def rI : jR Int32 := (fun x => some (.int x), fun x => [vI x], fun _ _ => True)
def rJ : jR Int64 := (fun x => some (.long x), fun x => [vJ x], fun _ _ => True)
def rV : jR Unit := (fun _ => none, fun _ => [], fun _ _ => True)
def rR (q : Nat) : jR (Option Nat) := (fun x => some (va_rf x), fun x => [vR x], fun Λ x => okK Λ q x)
theorem rI_ok : jRok rI := fun _ => rfl
theorem rJ_ok : jRok rJ := fun _ => rfl
theorem rV_ok : jRok rV := fun _ => rfl
theorem rR_ok (q : Nat) : jRok (rR q) := fun _ => rfl
def jQ {β : Type} (D : va_G) (cy : Nat → ClassId) (Λ : sLay) (K : jR β) (r : β × sSt) (A : Nat → Prop) : Array Value → State → Outcome → State → Prop := fun _ st oc t => (oc = .returned (K.1 r.1) ∧ K.2.2 Λ r.1 ∧ hB D cy Λ r.2 A t) ∧ va_F A st t
def jPre (D : va_G) (cy : Nat → ClassId) (Λ : sLay) (S : sSt) (sz : Nat) (U : State) : Prop := U.heap.size = sz ∧ hB D cy Λ S (fun _ => True) U
def jM {β : Type} (l : Launch) (y : MethodName) (ws : List Cond) (rm : Room) (D : va_G) (cy : Nat → ClassId) (Λ : sLay) (S : sSt) (As : List jV) (K : jR β) (r : β × sSt) : Prop :=
  ∀ sz : Nat, Met l y ws rm (va_Pc (As.map jv) (jPre D cy Λ S sz)) (jQ D cy Λ K r (va_A (pool cy Λ S) sz)) 0 0 (va_A (pool cy Λ S) sz)
def jE {β : Type} (X : jX) (ret : Option FieldType) (K : jR β) (Λ : sLay) (r : β × sSt) : Prop :=
  (xt X).sig.returnType = ret ∧ (xt X).locks = false ∧ xQ X = MQ (xb X) (jQ (xD X) (xy X) Λ K r (xA X)) (xa X) (xs X) 0 0 (xA X) ∧ xH X = (xs X).heap
theorem pool_get {cy : Nat → ClassId} {Λ : sLay} {a : Nat} (S : sSt) (h : a ∈ Λ.1) : ∃ k : Nat, (pool cy Λ S)[k]? = some (a, ent cy Λ S a) := va_pl_get (X := []) h
theorem pool_set {cy : Nat → ClassId} {Λ : sLay} {S S' : sSt} {A : Nat → Prop} {a k : Nat} {e : va_E} (hD : va_D A (pool cy Λ S)) (ha : a ∈ Λ.1) (hk : (pool cy Λ S)[k]? = some (a, ent cy Λ S a)) (h1 : ent cy Λ S' a = e) (h2 : ∀ b, b ≠ a → ent cy Λ S' b = ent cy Λ S b) : (pool cy Λ S).set k (a, e) = pool cy Λ S' := by
  have h := va_pl_set (X := []) hD ha hk (e := e)
  refine Eq.trans h ?_
  show va_pl Λ.1 (va_up (ent cy Λ S) a e) = va_pl Λ.1 (ent cy Λ S')
  refine va_pl_congr fun b => ?_
  by_cases hb : b = a
  · rw [hb, va_up_self, h1]
  · rw [va_up_ne _ _ hb, h2 b hb]
theorem pool_at {cy : Nat → ClassId} {Λ : sLay} {S : sSt} {k : Nat} {q : Nat × va_E} (h : (pool cy Λ S)[k]? = some q) : Λ.1[k]? = some q.1 ∧ q.2 = ent cy Λ S q.1 := by
  unfold pool va_pl at h
  rw [List.getElem?_map] at h
  cases hz : Λ.1[k]? with
  | none => rw [hz] at h; cases h
  | some a => rw [hz] at h; cases h; exact ⟨rfl, rfl⟩
theorem pool_to {cy : Nat → ClassId} {Λ : sLay} {k a : Nat} (S : sSt) (h : Λ.1[k]? = some a) : (pool cy Λ S)[k]? = some (a, ent cy Λ S a) := by
  unfold pool va_pl
  rw [List.getElem?_map, h]
  rfl
theorem pool_D {cy : Nat → ClassId} {Λ : sLay} {S : sSt} {A : Nat → Prop} (S' : sSt) (h : va_D A (pool cy Λ S)) : va_D A (pool cy Λ S') := by
  refine ⟨fun i j p q hi hj e => ?_, fun k q hk => ?_⟩
  · exact h.1 i j _ _ (pool_to S (pool_at hi).1) (pool_to S (pool_at hj).1) e
  · have h2 := h.2 k (q.1, ent cy Λ S q.1) (pool_to S (pool_at hk).1)
    exact h2
theorem pool_A {cy : Nat → ClassId} {Λ : sLay} {S : sSt} {A0 : Nat → Prop} {H0 H : Heap} {locs : List Loc} (hD : va_D A0 (pool cy Λ S)) (hS : va_S A0 H0 H locs) (hA : ∀ q, H0.size ≤ q → A0 q) : ∀ q, va_A (pool cy Λ S) H.size q → A0 q := by
  rintro q (⟨k, e, h⟩ | h)
  · exact hD.2 k _ h
  · exact hA q (Nat.le_trans hS.1 h)
section
variable {X : jX} {cc : ByteArray} {nL k n pc : Nat} {own : String} {R : Room} {L L' : List (Nat × jV)} {st : List jV} {Λ : sLay} {S : sSt} {φ φ1 φ2 : Prop}
/-- what is asked may be changed for what it gives -/
theorem j_imp (h : φ → φ1) (kk : J X nL k n pc L st Λ S φ1) : J X nL k n pc L st Λ S φ := fun hφ => kk (h hφ)
theorem j_no (h : ¬ φ) : J X nL k n pc L st Λ S φ := fun hφ => absurd hφ h
theorem j_sub (ks : List Nat) (hl : jpick L ks = L') (kk : J X nL k n pc L' st Λ S φ) : J X nL k n pc L st Λ S φ := fun h hT H locs ls hP hD hS hv =>
  kk h hT H locs ls hP hD hS (lv_sub hv ks (by rw [← hl, jL_pick]))
theorem j_iconst (C : jC X cc nL own R) {i : Int} {v : Int32} (hdg : decode cc pc = .ok (.iconst i, 1)) (hv0 : Int32.ofInt i = v) (kk : J X nL k n (pc + 1) L (vI v :: st) Λ S φ) : J X nL k n pc L st Λ S φ := fun h hT H locs ls hP hD hS hv => lv_iconst C.1 C.2.1 hdg hv0 (kk h hT H locs ls hP hD hS hv)
theorem j_bipush (C : jC X cc nL own R) {i : Int} {v : Int32} (hdg : decode cc pc = .ok (.bipush i, 2)) (hv0 : (Int8.ofInt i).toInt32 = v) (kk : J X nL k n (pc + 2) L (vI v :: st) Λ S φ) : J X nL k n pc L st Λ S φ := fun h hT H locs ls hP hD hS hv => lv_bipush C.1 C.2.1 hdg hv0 (kk h hT H locs ls hP hD hS hv)
theorem j_sipush (C : jC X cc nL own R) {i : Int} {v : Int32} (hdg : decode cc pc = .ok (.sipush i, 3)) (hv0 : (Int16.ofInt i).toInt32 = v) (kk : J X nL k n (pc + 3) L (vI v :: st) Λ S φ) : J X nL k n pc L st Λ S φ := fun h hT H locs ls hP hD hS hv => lv_sipush C.1 C.2.1 hdg hv0 (kk h hT H locs ls hP hD hS hv)
theorem j_lconst (C : jC X cc nL own R) {i : Fin 2} {v : Int64} (hdg : decode cc pc = .ok (.lconst i, 1)) (hv0 : Int64.ofNat (i : Nat) = v) (kk : J X nL k n (pc + 1) L (vJ v :: st) Λ S φ) : J X nL k n pc L st Λ S φ := fun h hT H locs ls hP hD hS hv => lv_lconst C.1 C.2.1 hdg hv0 (kk h hT H locs ls hP hD hS hv)
theorem j_null (C : jC X cc nL own R) (hdg : decode cc pc = .ok (.aconst_null, 1)) (kk : J X nL k n (pc + 1) L (vR none :: st) Λ S φ) : J X nL k n pc L st Λ S φ := fun h hT H locs ls hP hD hS hv => lv_null C.1 C.2.1 hdg (kk h hT H locs ls hP hD hS hv)
theorem j_ldc (C : jC X cc nL own R) {i : Nat} {v : Int32} (hc : Cond.constant own i v ∈ bigW) (hdg : decode cc pc = .ok (.ldc i, 2)) (kk : J X nL k n (pc + 2) L (vI v :: st) Λ S φ) : J X nL k n pc L st Λ S φ := fun h hT H locs ls hP hD hS hv => lv_ldc C.1 C.2.1 C.2.2.2.1 (C.2.2.2.2.1 _ hc) hdg (kk h hT H locs ls hP hD hS hv)
theorem j_ldc2 (C : jC X cc nL own R) {i : Nat} {v : Int64} (hc : Cond.constantLong own i v ∈ bigW) (hdg : decode cc pc = .ok (.ldc2_w i, 3)) (kk : J X nL k n (pc + 3) L (vJ v :: st) Λ S φ) : J X nL k n pc L st Λ S φ := fun h hT H locs ls hP hD hS hv => lv_ldc2 C.1 C.2.1 C.2.2.2.1 (C.2.2.2.2.1 _ hc) hdg (kk h hT H locs ls hP hD hS hv)
theorem j_iload_n (C : jC X cc nL own R) {i : Fin 4} {x : Int32} (hdg : decode cc pc = .ok (.iload_n i, 1)) (j : Nat) (hl : L[j]? = some ((i : Nat), vI x)) (kk : J X nL k n (pc + 1) L (vI x :: st) Λ S φ) : J X nL k n pc L st Λ S φ := fun h hT H locs ls hP hD hS hv => lv_iload_n C.1 C.2.1 hdg rfl (lv_at hv j (jL_get hl)) (kk h hT H locs ls hP hD hS hv)
theorem j_iload (C : jC X cc nL own R) {i : Nat} {x : Int32} (hdg : decode cc pc = .ok (.iload i, 2)) (j : Nat) (hl : L[j]? = some (i, vI x)) (kk : J X nL k n (pc + 2) L (vI x :: st) Λ S φ) : J X nL k n pc L st Λ S φ := fun h hT H locs ls hP hD hS hv => lv_iload C.1 C.2.1 hdg (lv_at hv j (jL_get hl)) (kk h hT H locs ls hP hD hS hv)
theorem j_lload_n (C : jC X cc nL own R) {i : Fin 4} {x : Int64} (hdg : decode cc pc = .ok (.lload_n i, 1)) (j : Nat) (hl : L[j]? = some ((i : Nat), vJ x)) (kk : J X nL k n (pc + 1) L (vJ x :: st) Λ S φ) : J X nL k n pc L st Λ S φ := fun h hT H locs ls hP hD hS hv => lv_lload_n C.1 C.2.1 hdg rfl (lv_at hv j (jL_get hl)) (kk h hT H locs ls hP hD hS hv)
theorem j_lload (C : jC X cc nL own R) {i : Nat} {x : Int64} (hdg : decode cc pc = .ok (.lload i, 2)) (j : Nat) (hl : L[j]? = some (i, vJ x)) (kk : J X nL k n (pc + 2) L (vJ x :: st) Λ S φ) : J X nL k n pc L st Λ S φ := fun h hT H locs ls hP hD hS hv => lv_lload C.1 C.2.1 hdg (lv_at hv j (jL_get hl)) (kk h hT H locs ls hP hD hS hv)
theorem j_aload_n (C : jC X cc nL own R) {i : Fin 4} {x : Option Nat} (hdg : decode cc pc = .ok (.aload_n i, 1)) (j : Nat) (hl : L[j]? = some ((i : Nat), vR x)) (kk : J X nL k n (pc + 1) L (vR x :: st) Λ S φ) : J X nL k n pc L st Λ S φ := by
  intro h hT H locs ls hP hD hS hv
  have h2 := lv_at hv j (jL_get hl)
  have h3 := kk h hT H locs ls hP hD hS hv
  cases x with
  | none => exact lv_aload_nN C.1 C.2.1 hdg rfl h2 h3
  | some a => exact lv_aload_n C.1 C.2.1 hdg rfl h2 h3
theorem j_astore_n (C : jC X cc nL own R) {i : Fin 4} {x : Option Nat} (hdg : decode cc pc = .ok (.astore_n i, 1)) (hi : (i : Nat) < nL) (hl : jst (i : Nat) (vR x) L = L') (kk : J X nL k n (pc + 1) L' st Λ S φ) : J X nL k n pc L (vR x :: st) Λ S φ := by
  intro h hT H locs ls hP hD hS hv
  subst hl
  have h3 : ∀ ls, lv_has ls nL (jL (jst (i : Nat) (vR x) L)) → _ := fun ls hv => kk h hT H locs ls hP hD hS hv
  rw [jL_st] at h3
  cases x with
  | none => exact lv_astore_nN C.1 C.2.1 hdg rfl hv hi rfl h3
  | some a => exact lv_astore_n C.1 C.2.1 hdg rfl hv hi rfl h3
theorem j_istore_n (C : jC X cc nL own R) {i : Fin 4} {x : Int32} (hdg : decode cc pc = .ok (.istore_n i, 1)) (hi : (i : Nat) < nL) (hl : jst (i : Nat) (vI x) L = L') (kk : J X nL k n (pc + 1) L' st Λ S φ) : J X nL k n pc L (vI x :: st) Λ S φ := by
  intro h hT H locs ls hP hD hS hv
  subst hl
  have h3 : ∀ ls, lv_has ls nL (jL (jst (i : Nat) (vI x) L)) → _ := fun ls hv => kk h hT H locs ls hP hD hS hv
  rw [jL_st] at h3
  exact lv_istore_n C.1 C.2.1 hdg rfl hv hi rfl h3
theorem j_lstore_n (C : jC X cc nL own R) {i : Fin 4} {x : Int64} (hdg : decode cc pc = .ok (.lstore_n i, 1)) (hi : (i : Nat) + 1 < nL) (hl : jst2 (i : Nat) (vJ x) L = L') (kk : J X nL k n (pc + 1) L' st Λ S φ) : J X nL k n pc L (vJ x :: st) Λ S φ := by
  intro h hT H locs ls hP hD hS hv
  subst hl
  have h3 : ∀ ls, lv_has ls nL (jL (jst2 (i : Nat) (vJ x) L)) → _ := fun ls hv => kk h hT H locs ls hP hD hS hv
  rw [jL_st2] at h3
  exact lv_lstore_n C.1 C.2.1 hdg rfl hv hi rfl h3
theorem j_aload (C : jC X cc nL own R) {i : Nat} {x : Option Nat} (hdg : decode cc pc = .ok (.aload i, 2)) (j : Nat) (hl : L[j]? = some (i, vR x)) (kk : J X nL k n (pc + 2) L (vR x :: st) Λ S φ) : J X nL k n pc L st Λ S φ := by
  intro h hT H locs ls hP hD hS hv
  have h2 := lv_at hv j (jL_get hl)
  have h3 := kk h hT H locs ls hP hD hS hv
  cases x with
  | none => exact lv_aloadN C.1 C.2.1 hdg h2 h3
  | some a => exact lv_aload C.1 C.2.1 hdg h2 h3
theorem j_astore (C : jC X cc nL own R) {i : Nat} {x : Option Nat} (hdg : decode cc pc = .ok (.astore i, 2)) (hi : i < nL) (hl : jst i (vR x) L = L') (kk : J X nL k n (pc + 2) L' st Λ S φ) : J X nL k n pc L (vR x :: st) Λ S φ := by
  intro h hT H locs ls hP hD hS hv
  subst hl
  have h3 : ∀ ls, lv_has ls nL (jL (jst i (vR x) L)) → _ := fun ls hv => kk h hT H locs ls hP hD hS hv
  rw [jL_st] at h3
  cases x with
  | none => exact lv_astoreN C.1 C.2.1 hdg hv hi rfl h3
  | some a => exact lv_astore C.1 C.2.1 hdg hv hi rfl h3
theorem j_istore (C : jC X cc nL own R) {i : Nat} {x : Int32} (hdg : decode cc pc = .ok (.istore i, 2)) (hi : i < nL) (hl : jst i (vI x) L = L') (kk : J X nL k n (pc + 2) L' st Λ S φ) : J X nL k n pc L (vI x :: st) Λ S φ := by
  intro h hT H locs ls hP hD hS hv
  subst hl
  have h3 : ∀ ls, lv_has ls nL (jL (jst i (vI x) L)) → _ := fun ls hv => kk h hT H locs ls hP hD hS hv
  rw [jL_st] at h3
  exact lv_istore C.1 C.2.1 hdg hv hi rfl h3
theorem j_lstore (C : jC X cc nL own R) {i : Nat} {x : Int64} (hdg : decode cc pc = .ok (.lstore i, 2)) (hi : i + 1 < nL) (hl : jst2 i (vJ x) L = L') (kk : J X nL k n (pc + 2) L' st Λ S φ) : J X nL k n pc L (vJ x :: st) Λ S φ := by
  intro h hT H locs ls hP hD hS hv
  subst hl
  have h3 : ∀ ls, lv_has ls nL (jL (jst2 i (vJ x) L)) → _ := fun ls hv => kk h hT H locs ls hP hD hS hv
  rw [jL_st2] at h3
  exact lv_lstore C.1 C.2.1 hdg hv hi rfl h3
theorem j_iinc (C : jC X cc nL own R) {i : Nat} {z : Int} {x v : Int32} (hdg : decode cc pc = .ok (.iinc i z, 3)) (j : Nat) (hj : L[j]? = some (i, vI x)) (hz : Int32.ofInt z = v) (hi : i < nL) (hl : jst i (vI (x + v)) L = L') (kk : J X nL k n (pc + 3) L' st Λ S φ) : J X nL k n pc L st Λ S φ := by
  intro h hT H locs ls hP hD hS hv
  subst hl
  subst hz
  have h3 : ∀ ls, lv_has ls nL (jL (jst i (vI (x + Int32.ofInt z)) L)) → _ := fun ls hv => kk h hT H locs ls hP hD hS hv
  rw [jL_st] at h3
  exact lv_iinc C.1 C.2.1 hdg hv (jL_get hj) rfl hi rfl h3
theorem j_iadd (C : jC X cc nL own R) {x y : Int32} (hdg : decode cc pc = .ok (.iadd, 1)) (kk : J X nL k n (pc + 1) L (vI (x + y) :: st) Λ S φ) : J X nL k n pc L (vI y :: vI x :: st) Λ S φ := fun h hT H locs ls hP hD hS hv => lv_iadd C.1 C.2.1 hdg (kk h hT H locs ls hP hD hS hv)
theorem j_isub (C : jC X cc nL own R) {x y : Int32} (hdg : decode cc pc = .ok (.isub, 1)) (kk : J X nL k n (pc + 1) L (vI (x - y) :: st) Λ S φ) : J X nL k n pc L (vI y :: vI x :: st) Λ S φ := fun h hT H locs ls hP hD hS hv => lv_isub C.1 C.2.1 hdg (kk h hT H locs ls hP hD hS hv)
theorem j_imul (C : jC X cc nL own R) {x y : Int32} (hdg : decode cc pc = .ok (.imul, 1)) (kk : J X nL k n (pc + 1) L (vI (x * y) :: st) Λ S φ) : J X nL k n pc L (vI y :: vI x :: st) Λ S φ := fun h hT H locs ls hP hD hS hv => lv_imul C.1 C.2.1 hdg (kk h hT H locs ls hP hD hS hv)
theorem j_iand (C : jC X cc nL own R) {x y : Int32} (hdg : decode cc pc = .ok (.iand, 1)) (kk : J X nL k n (pc + 1) L (vI (x &&& y) :: st) Λ S φ) : J X nL k n pc L (vI y :: vI x :: st) Λ S φ := fun h hT H locs ls hP hD hS hv => lv_iand C.1 C.2.1 hdg (kk h hT H locs ls hP hD hS hv)
theorem j_ior (C : jC X cc nL own R) {x y : Int32} (hdg : decode cc pc = .ok (.ior, 1)) (kk : J X nL k n (pc + 1) L (vI (x ||| y) :: st) Λ S φ) : J X nL k n pc L (vI y :: vI x :: st) Λ S φ := fun h hT H locs ls hP hD hS hv => lv_ior C.1 C.2.1 hdg (kk h hT H locs ls hP hD hS hv)
theorem j_ixor (C : jC X cc nL own R) {x y : Int32} (hdg : decode cc pc = .ok (.ixor, 1)) (kk : J X nL k n (pc + 1) L (vI (x ^^^ y) :: st) Λ S φ) : J X nL k n pc L (vI y :: vI x :: st) Λ S φ := fun h hT H locs ls hP hD hS hv => lv_ixor C.1 C.2.1 hdg (kk h hT H locs ls hP hD hS hv)
theorem j_ishl (C : jC X cc nL own R) {x y : Int32} (hdg : decode cc pc = .ok (.ishl, 1)) (kk : J X nL k n (pc + 1) L (vI (x <<< (y &&& 31)) :: st) Λ S φ) : J X nL k n pc L (vI y :: vI x :: st) Λ S φ := fun h hT H locs ls hP hD hS hv => lv_ishl C.1 C.2.1 hdg (kk h hT H locs ls hP hD hS hv)
theorem j_ishr (C : jC X cc nL own R) {x y : Int32} (hdg : decode cc pc = .ok (.ishr, 1)) (kk : J X nL k n (pc + 1) L (vI (x >>> (y &&& 31)) :: st) Λ S φ) : J X nL k n pc L (vI y :: vI x :: st) Λ S φ := fun h hT H locs ls hP hD hS hv => lv_ishr C.1 C.2.1 hdg (kk h hT H locs ls hP hD hS hv)
theorem j_ladd (C : jC X cc nL own R) {x y : Int64} (hdg : decode cc pc = .ok (.ladd, 1)) (kk : J X nL k n (pc + 1) L (vJ (x + y) :: st) Λ S φ) : J X nL k n pc L (vJ y :: vJ x :: st) Λ S φ := fun h hT H locs ls hP hD hS hv => lv_ladd C.1 C.2.1 hdg (kk h hT H locs ls hP hD hS hv)
theorem j_lmul (C : jC X cc nL own R) {x y : Int64} (hdg : decode cc pc = .ok (.lmul, 1)) (kk : J X nL k n (pc + 1) L (vJ (x * y) :: st) Λ S φ) : J X nL k n pc L (vJ y :: vJ x :: st) Λ S φ := fun h hT H locs ls hP hD hS hv => lv_lmul C.1 C.2.1 hdg (kk h hT H locs ls hP hD hS hv)
theorem j_land (C : jC X cc nL own R) {x y : Int64} (hdg : decode cc pc = .ok (.land, 1)) (kk : J X nL k n (pc + 1) L (vJ (x &&& y) :: st) Λ S φ) : J X nL k n pc L (vJ y :: vJ x :: st) Λ S φ := fun h hT H locs ls hP hD hS hv => lv_land C.1 C.2.1 hdg (kk h hT H locs ls hP hD hS hv)
theorem j_lor (C : jC X cc nL own R) {x y : Int64} (hdg : decode cc pc = .ok (.lor, 1)) (kk : J X nL k n (pc + 1) L (vJ (x ||| y) :: st) Λ S φ) : J X nL k n pc L (vJ y :: vJ x :: st) Λ S φ := fun h hT H locs ls hP hD hS hv => lv_lor C.1 C.2.1 hdg (kk h hT H locs ls hP hD hS hv)
theorem j_lxor (C : jC X cc nL own R) {x y : Int64} (hdg : decode cc pc = .ok (.lxor, 1)) (kk : J X nL k n (pc + 1) L (vJ (x ^^^ y) :: st) Λ S φ) : J X nL k n pc L (vJ y :: vJ x :: st) Λ S φ := fun h hT H locs ls hP hD hS hv => lv_lxor C.1 C.2.1 hdg (kk h hT H locs ls hP hD hS hv)
theorem j_idiv (C : jC X cc nL own R) {x y : Int32} (hdg : decode cc pc = .ok (.idiv, 1)) (hy : ¬ y = 0) (kk : J X nL k n (pc + 1) L (vI (x / y) :: st) Λ S φ) : J X nL k n pc L (vI y :: vI x :: st) Λ S φ := fun h hT H locs ls hP hD hS hv => lv_idiv C.1 C.2.1 hdg hy (kk h hT H locs ls hP hD hS hv)
theorem j_irem (C : jC X cc nL own R) {x y : Int32} (hdg : decode cc pc = .ok (.irem, 1)) (hy : ¬ y = 0) (kk : J X nL k n (pc + 1) L (vI (x - x / y * y) :: st) Λ S φ) : J X nL k n pc L (vI y :: vI x :: st) Λ S φ := fun h hT H locs ls hP hD hS hv => lv_irem C.1 C.2.1 hdg hy (kk h hT H locs ls hP hD hS hv)
theorem j_i2l (C : jC X cc nL own R) {x : Int32} (hdg : decode cc pc = .ok (.i2l, 1)) (kk : J X nL k n (pc + 1) L (vJ x.toInt64 :: st) Λ S φ) : J X nL k n pc L (vI x :: st) Λ S φ := fun h hT H locs ls hP hD hS hv => lv_i2l C.1 C.2.1 hdg rfl (kk h hT H locs ls hP hD hS hv)
/-- a long shifted to the right, without its sign -/
def jushr (x : Int64) (y : Int32) : Int64 := (x.toUInt64 >>> (y.toInt64.toUInt64 &&& Int64.toUInt64 63)).toInt64
theorem j_lushr (C : jC X cc nL own R) {x : Int64} {y : Int32} (hdg : decode cc pc = .ok (.lushr, 1)) (kk : J X nL k n (pc + 1) L (vJ (jushr x y) :: st) Λ S φ) : J X nL k n pc L (vI y :: vJ x :: st) Λ S φ := fun h hT H locs ls hP hD hS hv => lv_lushr C.1 C.2.1 hdg rfl (kk h hT H locs ls hP hD hS hv)
/-- an int shifted to the right, without its sign -/
def jiushr (x y : Int32) : Int32 := (x.toUInt32 >>> (y.toUInt32 &&& Int32.toUInt32 31)).toInt32
theorem j_iushr (C : jC X cc nL own R) {x y : Int32} (hdg : decode cc pc = .ok (.iushr, 1)) (kk : J X nL k n (pc + 1) L (vI (jiushr x y) :: st) Λ S φ) : J X nL k n pc L (vI y :: vI x :: st) Λ S φ := fun h hT H locs ls hP hD hS hv => lv_iushr C.1 C.2.1 hdg rfl (kk h hT H locs ls hP hD hS hv)
theorem j_ldcw (C : jC X cc nL own R) {i : Nat} {v : Int32} (hc : Cond.constant own i v ∈ bigW) (hdg : decode cc pc = .ok (.ldc_w i, 3)) (kk : J X nL k n (pc + 3) L (vI v :: st) Λ S φ) : J X nL k n pc L st Λ S φ := fun h hT H locs ls hP hD hS hv => lv_ldcw C.1 C.2.1 C.2.2.2.1 (C.2.2.2.2.1 _ hc) hdg (kk h hT H locs ls hP hD hS hv)
theorem j_lshl (C : jC X cc nL own R) {x : Int64} {y : Int32} (hdg : decode cc pc = .ok (.lshl, 1)) (kk : J X nL k n (pc + 1) L (vJ (x <<< (y.toInt64 &&& 63)) :: st) Λ S φ) : J X nL k n pc L (vI y :: vJ x :: st) Λ S φ := fun h hT H locs ls hP hD hS hv => lv_lshl C.1 C.2.1 hdg rfl (kk h hT H locs ls hP hD hS hv)
theorem j_lcmp (C : jC X cc nL own R) {x y : Int64} (hdg : decode cc pc = .ok (.lcmp, 1)) (kk : J X nL k n (pc + 1) L (vI (lg_cmp x y) :: st) Λ S φ) : J X nL k n pc L (vJ y :: vJ x :: st) Λ S φ := fun h hT H locs ls hP hD hS hv => W.lcmp C.1 C.2.1 hdg (kk h hT H locs ls hP hD hS hv)
theorem j_dup (C : jC X cc nL own R) {v : jV} (hdg : decode cc pc = .ok (.dup, 1)) (hv0 : jcat v = 1) (kk : J X nL k n (pc + 1) L (v :: v :: st) Λ S φ) : J X nL k n pc L (v :: st) Λ S φ := fun h hT H locs ls hP hD hS hv => lv_dup C.1 C.2.1 hdg ((jv_cat v).trans hv0) (kk h hT H locs ls hP hD hS hv)
theorem j_pop (C : jC X cc nL own R) {v : jV} (hdg : decode cc pc = .ok (.pop, 1)) (hv0 : jcat v = 1) (kk : J X nL k n (pc + 1) L st Λ S φ) : J X nL k n pc L (v :: st) Λ S φ := fun h hT H locs ls hP hD hS hv => lv_pop C.1 C.2.1 hdg ((jv_cat v).trans hv0) (kk h hT H locs ls hP hD hS hv)
theorem j_dup2 (C : jC X cc nL own R) {u v : jV} (hdg : decode cc pc = .ok (.dup2, 1)) (hu : jcat u = 1) (hv0 : jcat v = 1) (kk : J X nL k n (pc + 1) L (u :: v :: u :: v :: st) Λ S φ) : J X nL k n pc L (u :: v :: st) Λ S φ := fun h hT H locs ls hP hD hS hv => lv_dup2_11 C.1 C.2.1 hdg ((jv_cat u).trans hu) ((jv_cat v).trans hv0) (kk h hT H locs ls hP hD hS hv)
theorem j_goto (C : jC X cc nL own R) {off : Int} {tgt : Nat} (hdg : decode cc pc = .ok (.goto off, 3)) (ht : (pc : Int) + off = (tgt : Int)) (kk : J X nL k n tgt L st Λ S φ) : J X nL k n pc L st Λ S φ := fun h hT H locs ls hP hD hS hv => lv_goto C.1 C.2.1 hdg ht (kk h hT H locs ls hP hD hS hv)
theorem jb_if_lt (C : jC X cc nL own R) {x : Int32} {off : Int} {tgt : Nat} (hdg : decode cc pc = .ok (.ifCond .lt off, 3)) (ht : (pc : Int) + off = (tgt : Int)) (h1 : φ → x < 0 → φ1) (h2 : φ → ¬ x < 0 → φ2) (kt : x < 0 → J X nL k n tgt L st Λ S φ1) (kf : ¬ x < 0 → J X nL k n (pc + 3) L st Λ S φ2) : J X nL k n pc L (vI x :: st) Λ S φ := fun h hT H locs ls hP hD hS hv => lv_if_lt C.1 C.2.1 hdg ht (fun c => kt c (h1 h c) hT H locs ls hP hD hS hv) (fun c => kf c (h2 h c) hT H locs ls hP hD hS hv)
theorem j_if_lt (C : jC X cc nL own R) {x : Int32} {off : Int} {tgt : Nat} {γ : Type} {F1 F2 : Option γ} {r : γ} (hdg : decode cc pc = .ok (.ifCond .lt off, 3)) (ht : (pc : Int) + off = (tgt : Int)) (kt : J X nL k n tgt L st Λ S (F1 = some r)) (kf : J X nL k n (pc + 3) L st Λ S (F2 = some r)) : J X nL k n pc L (vI x :: st) Λ S ((if x < 0 then F1 else F2) = some r) := jb_if_lt C hdg ht (fun h c => by rwa [if_pos c] at h) (fun h c => by rwa [if_neg c] at h) (fun _ => kt) (fun _ => kf)
theorem jb_icmp_lt (C : jC X cc nL own R) {x y : Int32} {off : Int} {tgt : Nat} (hdg : decode cc pc = .ok (.if_icmp .lt off, 3)) (ht : (pc : Int) + off = (tgt : Int)) (h1 : φ → x < y → φ1) (h2 : φ → ¬ x < y → φ2) (kt : x < y → J X nL k n tgt L st Λ S φ1) (kf : ¬ x < y → J X nL k n (pc + 3) L st Λ S φ2) : J X nL k n pc L (vI y :: vI x :: st) Λ S φ := fun h hT H locs ls hP hD hS hv => lv_icmp_lt C.1 C.2.1 hdg ht (fun c => kt c (h1 h c) hT H locs ls hP hD hS hv) (fun c => kf c (h2 h c) hT H locs ls hP hD hS hv)
theorem j_icmp_lt (C : jC X cc nL own R) {x y : Int32} {off : Int} {tgt : Nat} {γ : Type} {F1 F2 : Option γ} {r : γ} (hdg : decode cc pc = .ok (.if_icmp .lt off, 3)) (ht : (pc : Int) + off = (tgt : Int)) (kt : J X nL k n tgt L st Λ S (F1 = some r)) (kf : J X nL k n (pc + 3) L st Λ S (F2 = some r)) : J X nL k n pc L (vI y :: vI x :: st) Λ S ((if x < y then F1 else F2) = some r) := jb_icmp_lt C hdg ht (fun h c => by rwa [if_pos c] at h) (fun h c => by rwa [if_neg c] at h) (fun _ => kt) (fun _ => kf)
theorem jb_if_ge (C : jC X cc nL own R) {x : Int32} {off : Int} {tgt : Nat} (hdg : decode cc pc = .ok (.ifCond .ge off, 3)) (ht : (pc : Int) + off = (tgt : Int)) (h1 : φ → 0 ≤ x → φ1) (h2 : φ → ¬ 0 ≤ x → φ2) (kt : 0 ≤ x → J X nL k n tgt L st Λ S φ1) (kf : ¬ 0 ≤ x → J X nL k n (pc + 3) L st Λ S φ2) : J X nL k n pc L (vI x :: st) Λ S φ := fun h hT H locs ls hP hD hS hv => lv_if_ge C.1 C.2.1 hdg ht (fun c => kt c (h1 h c) hT H locs ls hP hD hS hv) (fun c => kf c (h2 h c) hT H locs ls hP hD hS hv)
theorem j_if_ge (C : jC X cc nL own R) {x : Int32} {off : Int} {tgt : Nat} {γ : Type} {F1 F2 : Option γ} {r : γ} (hdg : decode cc pc = .ok (.ifCond .ge off, 3)) (ht : (pc : Int) + off = (tgt : Int)) (kt : J X nL k n tgt L st Λ S (F1 = some r)) (kf : J X nL k n (pc + 3) L st Λ S (F2 = some r)) : J X nL k n pc L (vI x :: st) Λ S ((if 0 ≤ x then F1 else F2) = some r) := jb_if_ge C hdg ht (fun h c => by rwa [if_pos c] at h) (fun h c => by rwa [if_neg c] at h) (fun _ => kt) (fun _ => kf)
theorem jb_icmp_ge (C : jC X cc nL own R) {x y : Int32} {off : Int} {tgt : Nat} (hdg : decode cc pc = .ok (.if_icmp .ge off, 3)) (ht : (pc : Int) + off = (tgt : Int)) (h1 : φ → y ≤ x → φ1) (h2 : φ → ¬ y ≤ x → φ2) (kt : y ≤ x → J X nL k n tgt L st Λ S φ1) (kf : ¬ y ≤ x → J X nL k n (pc + 3) L st Λ S φ2) : J X nL k n pc L (vI y :: vI x :: st) Λ S φ := fun h hT H locs ls hP hD hS hv => lv_icmp_ge C.1 C.2.1 hdg ht (fun c => kt c (h1 h c) hT H locs ls hP hD hS hv) (fun c => kf c (h2 h c) hT H locs ls hP hD hS hv)
theorem j_icmp_ge (C : jC X cc nL own R) {x y : Int32} {off : Int} {tgt : Nat} {γ : Type} {F1 F2 : Option γ} {r : γ} (hdg : decode cc pc = .ok (.if_icmp .ge off, 3)) (ht : (pc : Int) + off = (tgt : Int)) (kt : J X nL k n tgt L st Λ S (F1 = some r)) (kf : J X nL k n (pc + 3) L st Λ S (F2 = some r)) : J X nL k n pc L (vI y :: vI x :: st) Λ S ((if y ≤ x then F1 else F2) = some r) := jb_icmp_ge C hdg ht (fun h c => by rwa [if_pos c] at h) (fun h c => by rwa [if_neg c] at h) (fun _ => kt) (fun _ => kf)
theorem jb_if_gt (C : jC X cc nL own R) {x : Int32} {off : Int} {tgt : Nat} (hdg : decode cc pc = .ok (.ifCond .gt off, 3)) (ht : (pc : Int) + off = (tgt : Int)) (h1 : φ → 0 < x → φ1) (h2 : φ → ¬ 0 < x → φ2) (kt : 0 < x → J X nL k n tgt L st Λ S φ1) (kf : ¬ 0 < x → J X nL k n (pc + 3) L st Λ S φ2) : J X nL k n pc L (vI x :: st) Λ S φ := fun h hT H locs ls hP hD hS hv => lv_if_gt C.1 C.2.1 hdg ht (fun c => kt c (h1 h c) hT H locs ls hP hD hS hv) (fun c => kf c (h2 h c) hT H locs ls hP hD hS hv)
theorem j_if_gt (C : jC X cc nL own R) {x : Int32} {off : Int} {tgt : Nat} {γ : Type} {F1 F2 : Option γ} {r : γ} (hdg : decode cc pc = .ok (.ifCond .gt off, 3)) (ht : (pc : Int) + off = (tgt : Int)) (kt : J X nL k n tgt L st Λ S (F1 = some r)) (kf : J X nL k n (pc + 3) L st Λ S (F2 = some r)) : J X nL k n pc L (vI x :: st) Λ S ((if 0 < x then F1 else F2) = some r) := jb_if_gt C hdg ht (fun h c => by rwa [if_pos c] at h) (fun h c => by rwa [if_neg c] at h) (fun _ => kt) (fun _ => kf)
theorem jb_icmp_gt (C : jC X cc nL own R) {x y : Int32} {off : Int} {tgt : Nat} (hdg : decode cc pc = .ok (.if_icmp .gt off, 3)) (ht : (pc : Int) + off = (tgt : Int)) (h1 : φ → y < x → φ1) (h2 : φ → ¬ y < x → φ2) (kt : y < x → J X nL k n tgt L st Λ S φ1) (kf : ¬ y < x → J X nL k n (pc + 3) L st Λ S φ2) : J X nL k n pc L (vI y :: vI x :: st) Λ S φ := fun h hT H locs ls hP hD hS hv => lv_icmp_gt C.1 C.2.1 hdg ht (fun c => kt c (h1 h c) hT H locs ls hP hD hS hv) (fun c => kf c (h2 h c) hT H locs ls hP hD hS hv)
theorem j_icmp_gt (C : jC X cc nL own R) {x y : Int32} {off : Int} {tgt : Nat} {γ : Type} {F1 F2 : Option γ} {r : γ} (hdg : decode cc pc = .ok (.if_icmp .gt off, 3)) (ht : (pc : Int) + off = (tgt : Int)) (kt : J X nL k n tgt L st Λ S (F1 = some r)) (kf : J X nL k n (pc + 3) L st Λ S (F2 = some r)) : J X nL k n pc L (vI y :: vI x :: st) Λ S ((if y < x then F1 else F2) = some r) := jb_icmp_gt C hdg ht (fun h c => by rwa [if_pos c] at h) (fun h c => by rwa [if_neg c] at h) (fun _ => kt) (fun _ => kf)
theorem jb_if_le (C : jC X cc nL own R) {x : Int32} {off : Int} {tgt : Nat} (hdg : decode cc pc = .ok (.ifCond .le off, 3)) (ht : (pc : Int) + off = (tgt : Int)) (h1 : φ → x ≤ 0 → φ1) (h2 : φ → ¬ x ≤ 0 → φ2) (kt : x ≤ 0 → J X nL k n tgt L st Λ S φ1) (kf : ¬ x ≤ 0 → J X nL k n (pc + 3) L st Λ S φ2) : J X nL k n pc L (vI x :: st) Λ S φ := fun h hT H locs ls hP hD hS hv => lv_if_le C.1 C.2.1 hdg ht (fun c => kt c (h1 h c) hT H locs ls hP hD hS hv) (fun c => kf c (h2 h c) hT H locs ls hP hD hS hv)
theorem j_if_le (C : jC X cc nL own R) {x : Int32} {off : Int} {tgt : Nat} {γ : Type} {F1 F2 : Option γ} {r : γ} (hdg : decode cc pc = .ok (.ifCond .le off, 3)) (ht : (pc : Int) + off = (tgt : Int)) (kt : J X nL k n tgt L st Λ S (F1 = some r)) (kf : J X nL k n (pc + 3) L st Λ S (F2 = some r)) : J X nL k n pc L (vI x :: st) Λ S ((if x ≤ 0 then F1 else F2) = some r) := jb_if_le C hdg ht (fun h c => by rwa [if_pos c] at h) (fun h c => by rwa [if_neg c] at h) (fun _ => kt) (fun _ => kf)
theorem jb_icmp_le (C : jC X cc nL own R) {x y : Int32} {off : Int} {tgt : Nat} (hdg : decode cc pc = .ok (.if_icmp .le off, 3)) (ht : (pc : Int) + off = (tgt : Int)) (h1 : φ → x ≤ y → φ1) (h2 : φ → ¬ x ≤ y → φ2) (kt : x ≤ y → J X nL k n tgt L st Λ S φ1) (kf : ¬ x ≤ y → J X nL k n (pc + 3) L st Λ S φ2) : J X nL k n pc L (vI y :: vI x :: st) Λ S φ := fun h hT H locs ls hP hD hS hv => lv_icmp_le C.1 C.2.1 hdg ht (fun c => kt c (h1 h c) hT H locs ls hP hD hS hv) (fun c => kf c (h2 h c) hT H locs ls hP hD hS hv)
theorem j_icmp_le (C : jC X cc nL own R) {x y : Int32} {off : Int} {tgt : Nat} {γ : Type} {F1 F2 : Option γ} {r : γ} (hdg : decode cc pc = .ok (.if_icmp .le off, 3)) (ht : (pc : Int) + off = (tgt : Int)) (kt : J X nL k n tgt L st Λ S (F1 = some r)) (kf : J X nL k n (pc + 3) L st Λ S (F2 = some r)) : J X nL k n pc L (vI y :: vI x :: st) Λ S ((if x ≤ y then F1 else F2) = some r) := jb_icmp_le C hdg ht (fun h c => by rwa [if_pos c] at h) (fun h c => by rwa [if_neg c] at h) (fun _ => kt) (fun _ => kf)
theorem jb_if_eq (C : jC X cc nL own R) {x : Int32} {off : Int} {tgt : Nat} (hdg : decode cc pc = .ok (.ifCond .eq off, 3)) (ht : (pc : Int) + off = (tgt : Int)) (h1 : φ → x = 0 → φ1) (h2 : φ → ¬ x = 0 → φ2) (kt : x = 0 → J X nL k n tgt L st Λ S φ1) (kf : ¬ x = 0 → J X nL k n (pc + 3) L st Λ S φ2) : J X nL k n pc L (vI x :: st) Λ S φ := fun h hT H locs ls hP hD hS hv => lv_if_eq C.1 C.2.1 hdg ht (fun c => kt c (h1 h c) hT H locs ls hP hD hS hv) (fun c => kf c (h2 h c) hT H locs ls hP hD hS hv)
theorem j_if_eq (C : jC X cc nL own R) {x : Int32} {off : Int} {tgt : Nat} {γ : Type} {F1 F2 : Option γ} {r : γ} (hdg : decode cc pc = .ok (.ifCond .eq off, 3)) (ht : (pc : Int) + off = (tgt : Int)) (kt : J X nL k n tgt L st Λ S (F1 = some r)) (kf : J X nL k n (pc + 3) L st Λ S (F2 = some r)) : J X nL k n pc L (vI x :: st) Λ S ((if x = 0 then F1 else F2) = some r) := jb_if_eq C hdg ht (fun h c => by rwa [if_pos c] at h) (fun h c => by rwa [if_neg c] at h) (fun _ => kt) (fun _ => kf)
theorem jb_icmp_eq (C : jC X cc nL own R) {x y : Int32} {off : Int} {tgt : Nat} (hdg : decode cc pc = .ok (.if_icmp .eq off, 3)) (ht : (pc : Int) + off = (tgt : Int)) (h1 : φ → x = y → φ1) (h2 : φ → ¬ x = y → φ2) (kt : x = y → J X nL k n tgt L st Λ S φ1) (kf : ¬ x = y → J X nL k n (pc + 3) L st Λ S φ2) : J X nL k n pc L (vI y :: vI x :: st) Λ S φ := fun h hT H locs ls hP hD hS hv => lv_icmp_eq C.1 C.2.1 hdg ht (fun c => kt c (h1 h c) hT H locs ls hP hD hS hv) (fun c => kf c (h2 h c) hT H locs ls hP hD hS hv)
theorem j_icmp_eq (C : jC X cc nL own R) {x y : Int32} {off : Int} {tgt : Nat} {γ : Type} {F1 F2 : Option γ} {r : γ} (hdg : decode cc pc = .ok (.if_icmp .eq off, 3)) (ht : (pc : Int) + off = (tgt : Int)) (kt : J X nL k n tgt L st Λ S (F1 = some r)) (kf : J X nL k n (pc + 3) L st Λ S (F2 = some r)) : J X nL k n pc L (vI y :: vI x :: st) Λ S ((if x = y then F1 else F2) = some r) := jb_icmp_eq C hdg ht (fun h c => by rwa [if_pos c] at h) (fun h c => by rwa [if_neg c] at h) (fun _ => kt) (fun _ => kf)
theorem jb_if_ne (C : jC X cc nL own R) {x : Int32} {off : Int} {tgt : Nat} (hdg : decode cc pc = .ok (.ifCond .ne off, 3)) (ht : (pc : Int) + off = (tgt : Int)) (h1 : φ → ¬ x = 0 → φ2) (h2 : φ → x = 0 → φ1) (kt : ¬ x = 0 → J X nL k n tgt L st Λ S φ2) (kf : x = 0 → J X nL k n (pc + 3) L st Λ S φ1) : J X nL k n pc L (vI x :: st) Λ S φ := fun h hT H locs ls hP hD hS hv => lv_if_ne C.1 C.2.1 hdg ht (fun c => kt c (h1 h c) hT H locs ls hP hD hS hv) (fun c => kf c (h2 h c) hT H locs ls hP hD hS hv)
theorem j_if_ne (C : jC X cc nL own R) {x : Int32} {off : Int} {tgt : Nat} {γ : Type} {F1 F2 : Option γ} {r : γ} (hdg : decode cc pc = .ok (.ifCond .ne off, 3)) (ht : (pc : Int) + off = (tgt : Int)) (kt : J X nL k n tgt L st Λ S (F2 = some r)) (kf : J X nL k n (pc + 3) L st Λ S (F1 = some r)) : J X nL k n pc L (vI x :: st) Λ S ((if x = 0 then F1 else F2) = some r) := jb_if_ne C hdg ht (fun h c => by rwa [if_neg c] at h) (fun h c => by rwa [if_pos c] at h) (fun _ => kt) (fun _ => kf)
theorem jb_icmp_ne (C : jC X cc nL own R) {x y : Int32} {off : Int} {tgt : Nat} (hdg : decode cc pc = .ok (.if_icmp .ne off, 3)) (ht : (pc : Int) + off = (tgt : Int)) (h1 : φ → ¬ x = y → φ2) (h2 : φ → x = y → φ1) (kt : ¬ x = y → J X nL k n tgt L st Λ S φ2) (kf : x = y → J X nL k n (pc + 3) L st Λ S φ1) : J X nL k n pc L (vI y :: vI x :: st) Λ S φ := fun h hT H locs ls hP hD hS hv => lv_icmp_ne C.1 C.2.1 hdg ht (fun c => kt c (h1 h c) hT H locs ls hP hD hS hv) (fun c => kf c (h2 h c) hT H locs ls hP hD hS hv)
theorem j_icmp_ne (C : jC X cc nL own R) {x y : Int32} {off : Int} {tgt : Nat} {γ : Type} {F1 F2 : Option γ} {r : γ} (hdg : decode cc pc = .ok (.if_icmp .ne off, 3)) (ht : (pc : Int) + off = (tgt : Int)) (kt : J X nL k n tgt L st Λ S (F2 = some r)) (kf : J X nL k n (pc + 3) L st Λ S (F1 = some r)) : J X nL k n pc L (vI y :: vI x :: st) Λ S ((if x = y then F1 else F2) = some r) := jb_icmp_ne C hdg ht (fun h c => by rwa [if_neg c] at h) (fun h c => by rwa [if_pos c] at h) (fun _ => kt) (fun _ => kf)
/-! Fields. What is known of a kind: its name, fields, words. -/
def jK (ci : Nat) (C : String) (T : u_T) (N : Nat) (ty : Nat → FieldType) : Prop := cls[ci]? = some (C, T, N) ∧ (∀ w ∈ u_ws C T N, w ∈ bigW) ∧ (∀ k, k < N → parseFieldDescriptor (T k).2.2.1 = some (ty k)) ∧ (∀ a, a < N → ∀ b, b < N → a ≠ b → (T a).2.1 ≠ (T b).2.1)
theorem j_getI (C : jC X cc nL own R) {ci kf i idx N a : Nat} {Cn : String} {T : u_T} {ty : Nat → FieldType} (hk : jK ci Cn T N ty) (hf : jFI (xy X) ci kf i) (hl : Cond.fieldLink own idx (T kf).1 (T kf).2.1 (T kf).2.2.1 ∈ bigW) (hkf : kf < N) (ha : isK Λ ci a) (hdg : decode cc pc = .ok (.getfield idx, 3)) (kk : J X nL k n (pc + 3) L (vI (gFI S i a) :: st) Λ S φ) : J X nL k n pc L (vR (some a) :: st) Λ S φ := by
  intro h hT H locs ls hP hD hS hv
  obtain ⟨fs, h1, h2, -⟩ := hf Λ S a ha.2
  obtain ⟨q0, hq⟩ := pool_get (cy := xy X) S ha.1
  rw [h1] at hq
  exact va_get C.1 C.2.1 C.2.2.2.2.1 hk.2.1 C.2.2.2.1 C.2.2.2.2.2.1 hP q0 hq hk.1 kf hkf (C.2.2.2.2.1 _ hl) (fun _ h => h) h2 hdg (kk h hT H locs ls hP hD hS hv)
theorem j_getJ (C : jC X cc nL own R) {ci kf i idx N a : Nat} {Cn : String} {T : u_T} {ty : Nat → FieldType} (hk : jK ci Cn T N ty) (hf : jFJ (xy X) ci kf i) (hl : Cond.fieldLink own idx (T kf).1 (T kf).2.1 (T kf).2.2.1 ∈ bigW) (hkf : kf < N) (ha : isK Λ ci a) (hdg : decode cc pc = .ok (.getfield idx, 3)) (kk : J X nL k n (pc + 3) L (vJ (gFJ S i a) :: st) Λ S φ) : J X nL k n pc L (vR (some a) :: st) Λ S φ := by
  intro h hT H locs ls hP hD hS hv
  obtain ⟨fs, h1, h2, -⟩ := hf Λ S a ha.2
  obtain ⟨q0, hq⟩ := pool_get (cy := xy X) S ha.1
  rw [h1] at hq
  exact va_get C.1 C.2.1 C.2.2.2.2.1 hk.2.1 C.2.2.2.1 C.2.2.2.2.2.1 hP q0 hq hk.1 kf hkf (C.2.2.2.2.1 _ hl) (fun _ h => h) h2 hdg (kk h hT H locs ls hP hD hS hv)
/-- a name for what is read -/
def bnd {α β : Type} (x : α) (f : α → β) : β := f x
theorem jb_getR (C : jC X cc nL own R) {ci kf i idx N a : Nat} {Cn : String} {T : u_T} {ty : Nat → FieldType} (hk : jK ci Cn T N ty) (hf : jFR (xy X) ci kf i) (hl : Cond.fieldLink own idx (T kf).1 (T kf).2.1 (T kf).2.2.1 ∈ bigW) (hkf : kf < N) (ha : isK Λ ci a) (hdg : decode cc pc = .ok (.getfield idx, 3)) (kk : okK Λ (rk i) (gFR S i a) → J X nL k n (pc + 3) L (vR (gFR S i a) :: st) Λ S φ) : J X nL k n pc L (vR (some a) :: st) Λ S φ := by
  intro h hT H locs ls hP hD hS hv
  obtain ⟨fs, h1, h2, -⟩ := hf Λ S a ha.2
  obtain ⟨q0, hq⟩ := pool_get (cy := xy X) S ha.1
  rw [h1] at hq
  exact va_get C.1 C.2.1 C.2.2.2.2.1 hk.2.1 C.2.2.2.1 C.2.2.2.2.2.1 hP q0 hq hk.1 kf hkf (C.2.2.2.2.1 _ hl) (fun _ h => h) h2 hdg (kk (hT.1 i a) h hT H locs ls hP hD hS hv)
theorem j_getR (C : jC X cc nL own R) {ci kf i idx N a q : Nat} {Cn : String} {T : u_T} {ty : Nat → FieldType} {γ : Type} {f : Option Nat → Option γ} {r : γ} (hk : jK ci Cn T N ty) (hf : jFR (xy X) ci kf i) (hl : Cond.fieldLink own idx (T kf).1 (T kf).2.1 (T kf).2.2.1 ∈ bigW) (hkf : kf < N) (hq : rk i = q) (ha : isK Λ ci a) (hdg : decode cc pc = .ok (.getfield idx, 3)) (kk : ∀ x : Option Nat, okK Λ q x → J X nL k n (pc + 3) L (vR x :: st) Λ S (f x = some r)) : J X nL k n pc L (vR (some a) :: st) Λ S (bnd (gFR S i a) f = some r) :=
  jb_getR C hk hf hl hkf ha hdg (fun ho => kk _ (hq ▸ ho))
/-- null is not used -/
theorem jb_oc {q : Nat} {x : Option Nat} (hx : okK Λ q x) (h0 : φ → x ≠ none) (kk : ∀ a, isK Λ q a → x = some a → J X nL k n pc L st Λ S φ) : J X nL k n pc L st Λ S φ := by
  intro h
  cases x with
  | none => exact absurd rfl (h0 h)
  | some a => exact kk a (hx a rfl) rfl h
theorem j_oc {q : Nat} {x : Option Nat} {γ : Type} {f : Nat → Option γ} {r : γ} (hx : okK Λ q x) (kk : ∀ a, isK Λ q a → x = some a → J X nL k n pc L st Λ S (f a = some r)) : J X nL k n pc L st Λ S (x.bind f = some r) := by
  intro h
  cases x with
  | none => cases h
  | some a => exact kk a (hx a rfl) rfl h
/-- null or not -/
def onl {β : Type} (x : Option Nat) (F : β) (f : Nat → β) : β := match x with
  | none => F
  | some a => f a
theorem jb_ifnull (C : jC X cc nL own R) {q : Nat} {x : Option Nat} {off : Int} {tgt : Nat} (hx : okK Λ q x) (hdg : decode cc pc = .ok (.ifnull off, 3)) (ht : (pc : Int) + off = (tgt : Int)) (kt : x = none → J X nL k n tgt L st Λ S φ) (kf : ∀ a, isK Λ q a → x = some a → J X nL k n (pc + 3) L st Λ S φ) : J X nL k n pc L (vR x :: st) Λ S φ := by
  intro h hT H locs ls hP hD hS hv
  cases x with
  | none => exact lv_ifnullN C.1 C.2.1 hdg ht (kt rfl h hT H locs ls hP hD hS hv)
  | some a => exact lv_ifnull C.1 C.2.1 hdg (kf a (hx a rfl) rfl h hT H locs ls hP hD hS hv)
theorem jb_ifnonnull (C : jC X cc nL own R) {q : Nat} {x : Option Nat} {off : Int} {tgt : Nat} (hx : okK Λ q x) (hdg : decode cc pc = .ok (.ifnonnull off, 3)) (ht : (pc : Int) + off = (tgt : Int)) (kf : x = none → J X nL k n (pc + 3) L st Λ S φ) (kt : ∀ a, isK Λ q a → x = some a → J X nL k n tgt L st Λ S φ) : J X nL k n pc L (vR x :: st) Λ S φ := by
  intro h hT H locs ls hP hD hS hv
  cases x with
  | none => exact lv_ifnonnullN C.1 C.2.1 hdg (kf rfl h hT H locs ls hP hD hS hv)
  | some a => exact lv_ifnonnull C.1 C.2.1 hdg ht (kt a (hx a rfl) rfl h hT H locs ls hP hD hS hv)
theorem j_ifnull (C : jC X cc nL own R) {q : Nat} {x : Option Nat} {off : Int} {tgt : Nat} {γ : Type} {F : Option γ} {f : Nat → Option γ} {r : γ} (hx : okK Λ q x) (hdg : decode cc pc = .ok (.ifnull off, 3)) (ht : (pc : Int) + off = (tgt : Int)) (kt : x = none → J X nL k n tgt L st Λ S (F = some r)) (kf : ∀ a, isK Λ q a → x = some a → J X nL k n (pc + 3) L st Λ S (f a = some r)) : J X nL k n pc L (vR x :: st) Λ S (onl x F f = some r) :=
  jb_ifnull C hx hdg ht (fun e => by subst e; exact kt rfl) (fun a ha e => by subst e; exact kf a ha rfl)
theorem j_ifnonnull (C : jC X cc nL own R) {q : Nat} {x : Option Nat} {off : Int} {tgt : Nat} {γ : Type} {F : Option γ} {f : Nat → Option γ} {r : γ} (hx : okK Λ q x) (hdg : decode cc pc = .ok (.ifnonnull off, 3)) (ht : (pc : Int) + off = (tgt : Int)) (kf : x = none → J X nL k n (pc + 3) L st Λ S (F = some r)) (kt : ∀ a, isK Λ q a → x = some a → J X nL k n tgt L st Λ S (f a = some r)) : J X nL k n pc L (vR x :: st) Λ S (onl x F f = some r) :=
  jb_ifnonnull C hx hdg ht (fun e => by subst e; exact kf rfl) (fun a ha e => by subst e; exact kt a ha rfl)
/-- of a reference that isn't null: the test falls one way -/
theorem j_ifnullS (C : jC X cc nL own R) {a : Nat} {off : Int} (hdg : decode cc pc = .ok (.ifnull off, 3)) (kk : J X nL k n (pc + 3) L st Λ S φ) : J X nL k n pc L (vR (some a) :: st) Λ S φ := fun h hT H locs ls hP hD hS hv => lv_ifnull C.1 C.2.1 hdg (kk h hT H locs ls hP hD hS hv)
theorem j_ifnonnullS (C : jC X cc nL own R) {a : Nat} {off : Int} {tgt : Nat} (hdg : decode cc pc = .ok (.ifnonnull off, 3)) (ht : (pc : Int) + off = (tgt : Int)) (kk : J X nL k n tgt L st Λ S φ) : J X nL k n pc L (vR (some a) :: st) Λ S φ := fun h hT H locs ls hP hD hS hv => lv_ifnonnull C.1 C.2.1 hdg ht (kk h hT H locs ls hP hD hS hv)
theorem j_acmp_eq (C : jC X cc nL own R) {x y : Option Nat} {off : Int} {tgt : Nat} {γ : Type} {F1 F2 : Option γ} {r : γ} (hdg : decode cc pc = .ok (.if_acmp .eq off, 3)) (ht : (pc : Int) + off = (tgt : Int)) (kt : J X nL k n tgt L st Λ S (F1 = some r)) (kf : J X nL k n (pc + 3) L st Λ S (F2 = some r)) : J X nL k n pc L (vR y :: vR x :: st) Λ S ((if x = y then F1 else F2) = some r) := fun h hT H locs ls hP hD hS hv =>
  lv_acmp_eq C.1 C.2.1 hdg ht (fun c => kt (by rwa [if_pos c] at h) hT H locs ls hP hD hS hv) (fun c => kf (by rwa [if_neg c] at h) hT H locs ls hP hD hS hv)
/-! puts -/
theorem jb_putI (C : jC X cc nL own R) {ci kf i idx N a : Nat} {Cn : String} {T : u_T} {ty : Nat → FieldType} {v : Int32} {φ' : Prop} (hk : jK ci Cn T N ty) (hf : jFI (xy X) ci kf i) (hl : Cond.fieldLink own idx (T kf).1 (T kf).2.1 (T kf).2.2.1 ∈ bigW) (hkf : kf < N) (hfin : (T kf).2.2.2 = false) (hn : φ → narrow (ty kf) (.int v) = .int v) (hft : φ → fits (ty kf) (.int v) = true) (ha : isK Λ ci a) (hdg : decode cc pc = .ok (.putfield idx, 3)) (hi : φ → φ') (kk : J X nL k n (pc + 3) L st Λ (sFI S i a v) φ') : J X nL k n pc L (vI v :: vR (some a) :: st) Λ S φ := by
  intro h hT H locs ls hP hD hS hv
  obtain ⟨fs, h1, h2, h3⟩ := hf Λ S a ha.2
  obtain ⟨q0, hq0⟩ := pool_get (cy := xy X) S ha.1
  have hq := hq0
  rw [h1] at hq
  refine va_put (v := .int v) C.1 C.2.1 C.2.2.2.2.1 hk.2.1 ty hk.2.2.1 hk.2.2.2 C.2.2.2.1 C.2.2.2.2.2.1 hP hD hS q0 hq hk.1 kf hkf (C.2.2.2.2.1 _ hl) (fun _ h => h) hfin (hk.2.2.1 kf hkf) (hn h) (hft h) (h3 v).1 hdg (fun H1 locs1 hP1 hD1 hS1 => ?_)
  rw [pool_set hD ha.1 hq0 (h3 v).2 (fun b hb => ent_sFI_ne hb)] at hP1 hD1
  exact kk (hi h) (hT.sFI i a v) H1 locs1 ls hP1 hD1 hS1 hv
theorem jb_putJ (C : jC X cc nL own R) {ci kf i idx N a : Nat} {Cn : String} {T : u_T} {ty : Nat → FieldType} {v : Int64} {φ' : Prop} (hk : jK ci Cn T N ty) (hf : jFJ (xy X) ci kf i) (hl : Cond.fieldLink own idx (T kf).1 (T kf).2.1 (T kf).2.2.1 ∈ bigW) (hkf : kf < N) (hfin : (T kf).2.2.2 = false) (hn : φ → narrow (ty kf) (.long v) = .long v) (hft : fits (ty kf) (.long v) = true) (ha : isK Λ ci a) (hdg : decode cc pc = .ok (.putfield idx, 3)) (hi : φ → φ') (kk : J X nL k n (pc + 3) L st Λ (sFJ S i a v) φ') : J X nL k n pc L (vJ v :: vR (some a) :: st) Λ S φ := by
  intro h hT H locs ls hP hD hS hv
  obtain ⟨fs, h1, h2, h3⟩ := hf Λ S a ha.2
  obtain ⟨q0, hq0⟩ := pool_get (cy := xy X) S ha.1
  have hq := hq0
  rw [h1] at hq
  refine va_put (v := .long v) C.1 C.2.1 C.2.2.2.2.1 hk.2.1 ty hk.2.2.1 hk.2.2.2 C.2.2.2.1 C.2.2.2.2.2.1 hP hD hS q0 hq hk.1 kf hkf (C.2.2.2.2.1 _ hl) (fun _ h => h) hfin (hk.2.2.1 kf hkf) (hn h) hft (h3 v).1 hdg (fun H1 locs1 hP1 hD1 hS1 => ?_)
  rw [pool_set hD ha.1 hq0 (h3 v).2 (fun b hb => ent_sFJ_ne hb)] at hP1 hD1
  exact kk (hi h) (hT.sFJ i a v) H1 locs1 ls hP1 hD1 hS1 hv
theorem j_putI (C : jC X cc nL own R) {ci kf i idx N a : Nat} {Cn : String} {T : u_T} {ty : Nat → FieldType} {v : Int32} {γ : Type} {f : sSt → Option γ} {r : γ} (hk : jK ci Cn T N ty) (hf : jFI (xy X) ci kf i) (hl : Cond.fieldLink own idx (T kf).1 (T kf).2.1 (T kf).2.2.1 ∈ bigW) (hkf : kf < N) (hfin : (T kf).2.2.2 = false) (hn : narrow (ty kf) (.int v) = .int v) (hft : fits (ty kf) (.int v) = true) (ha : isK Λ ci a) (hdg : decode cc pc = .ok (.putfield idx, 3)) (kk : ∀ S1, J X nL k n (pc + 3) L st Λ S1 (f S1 = some r)) : J X nL k n pc L (vI v :: vR (some a) :: st) Λ S (bnd (sFI S i a v) f = some r) :=
  jb_putI C hk hf hl hkf hfin (fun _ => hn) (fun _ => hft) ha hdg (fun h => h) (kk _)
theorem j_putJ (C : jC X cc nL own R) {ci kf i idx N a : Nat} {Cn : String} {T : u_T} {ty : Nat → FieldType} {v : Int64} {γ : Type} {f : sSt → Option γ} {r : γ} (hk : jK ci Cn T N ty) (hf : jFJ (xy X) ci kf i) (hl : Cond.fieldLink own idx (T kf).1 (T kf).2.1 (T kf).2.2.1 ∈ bigW) (hkf : kf < N) (hfin : (T kf).2.2.2 = false) (hn : narrow (ty kf) (.long v) = .long v) (hft : fits (ty kf) (.long v) = true) (ha : isK Λ ci a) (hdg : decode cc pc = .ok (.putfield idx, 3)) (kk : ∀ S1, J X nL k n (pc + 3) L st Λ S1 (f S1 = some r)) : J X nL k n pc L (vJ v :: vR (some a) :: st) Λ S (bnd (sFJ S i a v) f = some r) :=
  jb_putJ C hk hf hl hkf hfin (fun _ => hn) hft ha hdg (fun h => h) (kk _)
/-- a boolean as the machine keeps it -/
def gb {β : Type} (v : Int32) (F : Option β) : Option β := if v = 0 ∨ v = 1 then F else none
theorem bool_n {v : Int32} (h : v = 0 ∨ v = 1) : narrow .boolean (.int v) = .int v := by rcases h with rfl | rfl <;> rfl
theorem j_putZ (C : jC X cc nL own R) {ci kf i idx N a : Nat} {Cn : String} {T : u_T} {ty : Nat → FieldType} {v : Int32} {γ : Type} {f : sSt → Option γ} {r : γ} (hk : jK ci Cn T N ty) (hf : jFI (xy X) ci kf i) (hl : Cond.fieldLink own idx (T kf).1 (T kf).2.1 (T kf).2.2.1 ∈ bigW) (hkf : kf < N) (hfin : (T kf).2.2.2 = false) (hb : ty kf = .boolean) (ha : isK Λ ci a) (hdg : decode cc pc = .ok (.putfield idx, 3)) (kk : ∀ S1, J X nL k n (pc + 3) L st Λ S1 (f S1 = some r)) : J X nL k n pc L (vI v :: vR (some a) :: st) Λ S (gb v (bnd (sFI S i a v) f) = some r) :=
  jb_putI (φ' := f (sFI S i a v) = some r) C hk hf hl hkf hfin (fun h => by
    rw [hb]
    unfold gb at h
    by_cases c : v = 0 ∨ v = 1
    · exact bool_n c
    · rw [if_neg c] at h; cases h) (fun h => by
    rw [hb]
    unfold gb at h
    by_cases c : v = 0 ∨ v = 1
    · rcases c with rfl | rfl <;> rfl
    · rw [if_neg c] at h; cases h) ha hdg (fun h => by
    unfold gb at h
    by_cases c : v = 0 ∨ v = 1
    · rw [if_pos c] at h; exact h
    · rw [if_neg c] at h; cases h) (kk _)
/-! arrays -/
/-- a place within a row of n -/
def gi {β : Type} (i : Int32) (n : Nat) (F : Option β) : Option β := if i < 0 ∨ n ≤ i.toNatClampNeg then none else F
theorem gi_in {β : Type} {i : Int32} {n : Nat} {F : Option β} {r : β} (h : gi i n F = some r) : vp_in i n ∧ F = some r := by
  unfold gi at h
  by_cases c : i < 0 ∨ n ≤ i.toNatClampNeg
  · rw [if_pos c] at h; cases h
  · rw [if_neg c] at h; exact ⟨c, h⟩
theorem j_alen (C : jC X cc nL own R) {q a : Nat} (ha : isK Λ q a) (hq : q = 10 ∨ q = 11 ∨ q = 12 ∨ q = 13 ∨ q = 14) (hdg : decode cc pc = .ok (.arraylength, 1)) (kk : J X nL k n (pc + 1) L (vI (nI (Λ.2.2 a)) :: st) Λ S φ) : J X nL k n pc L (vR (some a) :: st) Λ S φ := by
  intro h hT H locs ls hP hD hS hv
  obtain ⟨q0, hq0⟩ := pool_get (cy := xy X) S ha.1
  have hk := kk h hT H locs ls hP hD hS hv
  rcases hq with rfl | rfl | rfl | rfl | rfl
  · rw [ent_10 ha.2] at hq0; exact va_alen C.1 C.2.1 C.2.2.2.2.2.1 hP q0 0 hq0 (ty := .int) rfl rfl hdg hk
  · rw [ent_11 ha.2] at hq0; exact va_alen C.1 C.2.1 C.2.2.2.2.2.1 hP q0 1 hq0 (ty := .long) rfl rfl hdg hk
  · rw [ent_12 ha.2] at hq0; exact va_alen C.1 C.2.1 C.2.2.2.2.2.1 hP q0 2 hq0 (ty := .boolean) rfl rfl hdg hk
  · rw [ent_13 ha.2] at hq0; exact va_alen C.1 C.2.1 C.2.2.2.2.2.1 hP q0 3 hq0 (ty := .object RX5) rfl rfl hdg hk
  · rw [ent_14 ha.2] at hq0; exact va_alen C.1 C.2.1 C.2.2.2.2.2.1 hP q0 4 hq0 (ty := .object RX6) rfl rfl hdg hk
theorem jb_iald (C : jC X cc nL own R) {a : Nat} {i : Int32} (ha : isK Λ 10 a) (hi : φ → vp_in i (Λ.2.2 a)) (hdg : decode cc pc = .ok (.iaload, 1)) (kk : J X nL k n (pc + 1) L (vI (gAI S a i.toNatClampNeg) :: st) Λ S φ) : J X nL k n pc L (vI i :: vR (some a) :: st) Λ S φ := by
  intro h hT H locs ls hP hD hS hv
  obtain ⟨q0, hq0⟩ := pool_get (cy := xy X) S ha.1
  rw [ent_10 ha.2] at hq0
  exact va_iald C.1 C.2.1 C.2.2.2.2.2.1 hP q0 0 hq0 rfl (hi h) hdg (kk h hT H locs ls hP hD hS hv)
theorem jb_zald (C : jC X cc nL own R) {a : Nat} {i : Int32} (ha : isK Λ 12 a) (hi : φ → vp_in i (Λ.2.2 a)) (hdg : decode cc pc = .ok (.baload, 1)) (kk : J X nL k n (pc + 1) L (vI (gAI S a i.toNatClampNeg) :: st) Λ S φ) : J X nL k n pc L (vI i :: vR (some a) :: st) Λ S φ := by
  intro h hT H locs ls hP hD hS hv
  obtain ⟨q0, hq0⟩ := pool_get (cy := xy X) S ha.1
  rw [ent_12 ha.2] at hq0
  exact va_zald C.1 C.2.1 C.2.2.2.2.2.1 hP q0 2 hq0 rfl (hi h) hdg (kk h hT H locs ls hP hD hS hv)
theorem jb_lald (C : jC X cc nL own R) {a : Nat} {i : Int32} (ha : isK Λ 11 a) (hi : φ → vp_in i (Λ.2.2 a)) (hdg : decode cc pc = .ok (.laload, 1)) (kk : J X nL k n (pc + 1) L (vJ (gAJ S a i.toNatClampNeg) :: st) Λ S φ) : J X nL k n pc L (vI i :: vR (some a) :: st) Λ S φ := by
  intro h hT H locs ls hP hD hS hv
  obtain ⟨q0, hq0⟩ := pool_get (cy := xy X) S ha.1
  rw [ent_11 ha.2] at hq0
  exact va_lald C.1 C.2.1 C.2.2.2.2.2.1 hP q0 1 hq0 rfl (hi h) hdg (kk h hT H locs ls hP hD hS hv)
theorem jb_aald (C : jC X cc nL own R) {q a : Nat} {i : Int32} (ha : isK Λ q a) (hq : q = 13 ∨ q = 14) (hi : φ → vp_in i (Λ.2.2 a)) (hdg : decode cc pc = .ok (.aaload, 1)) (kk : okK Λ (ek q) (gAR S a i.toNatClampNeg) → J X nL k n (pc + 1) L (vR (gAR S a i.toNatClampNeg) :: st) Λ S φ) : J X nL k n pc L (vI i :: vR (some a) :: st) Λ S φ := by
  intro h hT H locs ls hP hD hS hv
  obtain ⟨q0, hq0⟩ := pool_get (cy := xy X) S ha.1
  have ho := hT.2 a i.toNatClampNeg
  rw [ha.2] at ho
  have hk := kk ho h hT H locs ls hP hD hS hv
  rcases hq with rfl | rfl
  · rw [ent_13 ha.2] at hq0; exact va_aldq C.1 C.2.1 C.2.2.2.2.2.1 hP q0 3 hq0 rfl (hi h) hdg hk
  · rw [ent_14 ha.2] at hq0; exact va_aldq C.1 C.2.1 C.2.2.2.2.2.1 hP q0 4 hq0 rfl (hi h) hdg hk
theorem j_iald (C : jC X cc nL own R) {a : Nat} {i : Int32} {γ : Type} {F : Option γ} {r : γ} (ha : isK Λ 10 a) (hdg : decode cc pc = .ok (.iaload, 1)) (kk : J X nL k n (pc + 1) L (vI (gAI S a i.toNatClampNeg) :: st) Λ S (F = some r)) : J X nL k n pc L (vI i :: vR (some a) :: st) Λ S (gi i (Λ.2.2 a) F = some r) := jb_iald C ha (fun h => (gi_in h).1) hdg (j_imp (fun h => (gi_in h).2) kk)
theorem j_zald (C : jC X cc nL own R) {a : Nat} {i : Int32} {γ : Type} {F : Option γ} {r : γ} (ha : isK Λ 12 a) (hdg : decode cc pc = .ok (.baload, 1)) (kk : J X nL k n (pc + 1) L (vI (gAI S a i.toNatClampNeg) :: st) Λ S (F = some r)) : J X nL k n pc L (vI i :: vR (some a) :: st) Λ S (gi i (Λ.2.2 a) F = some r) := jb_zald C ha (fun h => (gi_in h).1) hdg (j_imp (fun h => (gi_in h).2) kk)
theorem j_lald (C : jC X cc nL own R) {a : Nat} {i : Int32} {γ : Type} {F : Option γ} {r : γ} (ha : isK Λ 11 a) (hdg : decode cc pc = .ok (.laload, 1)) (kk : J X nL k n (pc + 1) L (vJ (gAJ S a i.toNatClampNeg) :: st) Λ S (F = some r)) : J X nL k n pc L (vI i :: vR (some a) :: st) Λ S (gi i (Λ.2.2 a) F = some r) := jb_lald C ha (fun h => (gi_in h).1) hdg (j_imp (fun h => (gi_in h).2) kk)
theorem j_aald (C : jC X cc nL own R) {q q1 a : Nat} {i : Int32} {γ : Type} {f : Option Nat → Option γ} {r : γ} (ha : isK Λ q a) (hq : q = 13 ∨ q = 14) (he : ek q = q1) (hdg : decode cc pc = .ok (.aaload, 1)) (kk : ∀ x, okK Λ q1 x → J X nL k n (pc + 1) L (vR x :: st) Λ S (f x = some r)) : J X nL k n pc L (vI i :: vR (some a) :: st) Λ S (gi i (Λ.2.2 a) (bnd (gAR S a i.toNatClampNeg) f) = some r) := jb_aald C ha hq (fun h => (gi_in h).1) hdg (fun ho => j_imp (fun h => (gi_in h).2) (kk _ (he ▸ ho)))
theorem jb_iast (C : jC X cc nL own R) {a : Nat} {i v : Int32} (ha : isK Λ 10 a) (hi : φ → vp_in i (Λ.2.2 a)) (hdg : decode cc pc = .ok (.iastore, 1)) (kk : J X nL k n (pc + 1) L st Λ (sAI S a i.toNatClampNeg v) φ) : J X nL k n pc L (vI v :: vI i :: vR (some a) :: st) Λ S φ := by
  intro h hT H locs ls hP hD hS hv
  obtain ⟨q0, hq0⟩ := pool_get (cy := xy X) S ha.1
  have hq := hq0
  rw [ent_10 ha.2] at hq
  refine va_iast C.1 C.2.1 C.2.2.2.2.2.1 hP hD hS q0 0 hq rfl (hi h) hdg (fun H1 locs1 hP1 hD1 hS1 => ?_)
  have e : ent (xy X) Λ (sAI S a i.toNatClampNeg v) a = .inl (xy X 0, Λ.2.2 a, .inl (upd (gAI S a) i.toNatClampNeg v)) := by
    rw [ent_10 ha.2]
    have e2 : gAI (sAI S a i.toNatClampNeg v) a = upd (gAI S a) i.toNatClampNeg v := by
      funext j
      rw [gAI_sAI]
      simp [upd]
    rw [e2]
  rw [pool_set hD ha.1 hq0 e (fun b hb => ent_sAI_ne hb)] at hP1 hD1
  exact kk h (hT.sAI a _ v) H1 locs1 ls hP1 hD1 hS1 hv
theorem jb_zast (C : jC X cc nL own R) {a : Nat} {i v : Int32} (ha : isK Λ 12 a) (hi : φ → vp_in i (Λ.2.2 a)) (hdg : decode cc pc = .ok (.bastore, 1)) (kk : J X nL k n (pc + 1) L st Λ (sAI S a i.toNatClampNeg (v &&& 1)) φ) : J X nL k n pc L (vI v :: vI i :: vR (some a) :: st) Λ S φ := by
  intro h hT H locs ls hP hD hS hv
  obtain ⟨q0, hq0⟩ := pool_get (cy := xy X) S ha.1
  have hq := hq0
  rw [ent_12 ha.2] at hq
  refine va_zast C.1 C.2.1 C.2.2.2.2.2.1 hP hD hS q0 2 hq rfl (hi h) hdg (fun H1 locs1 hP1 hD1 hS1 => ?_)
  have e : ent (xy X) Λ (sAI S a i.toNatClampNeg (v &&& 1)) a = .inl (xy X 2, Λ.2.2 a, .inl (upd (gAI S a) i.toNatClampNeg (vp_nar .boolean v))) := by
    rw [ent_12 ha.2]
    have e2 : gAI (sAI S a i.toNatClampNeg (v &&& 1)) a = upd (gAI S a) i.toNatClampNeg (vp_nar .boolean v) := by
      funext j
      rw [gAI_sAI]
      simp [upd, vp_nar, narrow]
    rw [e2]
  rw [pool_set hD ha.1 hq0 e (fun b hb => ent_sAI_ne hb)] at hP1 hD1
  exact kk h (hT.sAI a _ _) H1 locs1 ls hP1 hD1 hS1 hv
theorem jb_last (C : jC X cc nL own R) {a : Nat} {i : Int32} {v : Int64} (ha : isK Λ 11 a) (hi : φ → vp_in i (Λ.2.2 a)) (hdg : decode cc pc = .ok (.lastore, 1)) (kk : J X nL k n (pc + 1) L st Λ (sAJ S a i.toNatClampNeg v) φ) : J X nL k n pc L (vJ v :: vI i :: vR (some a) :: st) Λ S φ := by
  intro h hT H locs ls hP hD hS hv
  obtain ⟨q0, hq0⟩ := pool_get (cy := xy X) S ha.1
  have hq := hq0
  rw [ent_11 ha.2] at hq
  refine va_last C.1 C.2.1 C.2.2.2.2.2.1 hP hD hS q0 1 hq rfl (hi h) hdg (fun H1 locs1 hP1 hD1 hS1 => ?_)
  have e : ent (xy X) Λ (sAJ S a i.toNatClampNeg v) a = .inl (xy X 1, Λ.2.2 a, .inr (.inl (vp_updL (gAJ S a) i.toNatClampNeg v))) := by
    rw [ent_11 ha.2]
    have e2 : gAJ (sAJ S a i.toNatClampNeg v) a = vp_updL (gAJ S a) i.toNatClampNeg v := by
      funext j
      rw [gAJ_sAJ]
      simp [vp_updL]
    rw [e2]
  rw [pool_set hD ha.1 hq0 e (fun b hb => ent_sAJ_ne hb)] at hP1 hD1
  exact kk h (hT.sAJ a _ v) H1 locs1 ls hP1 hD1 hS1 hv
theorem jb_aast (C : jC X cc nL own R) {a v : Nat} {i : Int32} (q : Nat) (ha : isK Λ q a) (hq : q = 13 ∨ q = 14) (hw : isK Λ (ek q) v) (hi : φ → vp_in i (Λ.2.2 a)) (hdg : decode cc pc = .ok (.aastore, 1)) (kk : J X nL k n (pc + 1) L st Λ (sAR S a i.toNatClampNeg (some v)) φ) : J X nL k n pc L (vR (some v) :: vI i :: vR (some a) :: st) Λ S φ := by
  intro h hT H locs ls hP hD hS hv
  obtain ⟨q0, hq0⟩ := pool_get (cy := xy X) S ha.1
  obtain ⟨q1, hq1⟩ := pool_get (cy := xy X) S hw.1
  have hT1 : TS Λ (sAR S a i.toNatClampNeg (some v)) := hT.sAR a _ _ (fun b e => by cases e; rw [ha.2]; exact hw)
  have e2 : gAR (sAR S a i.toNatClampNeg (some v)) a = va_up (gAR S a) i.toNatClampNeg (some v) := by
    funext j
    rw [gAR_sAR]
    simp [va_up]
  rcases hq with rfl | rfl
  · have hq := hq0
    rw [ent_13 ha.2] at hq
    rw [ent_5 hw.2] at hq1
    refine va_astq C.1 C.2.1 C.2.2.2.2.2.1 hP hD hS q0 3 q1 5 (r := (RX5, TX5, 10)) hq rfl hq1 rfl (hi h) hdg (fun H1 locs1 hP1 hD1 hS1 => ?_)
    rw [pool_set hD ha.1 hq0 (by rw [ent_13 ha.2, e2]) (fun b hb => ent_sAR_ne hb)] at hP1 hD1
    exact kk h hT1 H1 locs1 ls hP1 hD1 hS1 hv
  · have hq := hq0
    rw [ent_14 ha.2] at hq
    rw [ent_6 hw.2] at hq1
    refine va_astq C.1 C.2.1 C.2.2.2.2.2.1 hP hD hS q0 4 q1 6 (r := (RX6, TX6, 11)) hq rfl hq1 rfl (hi h) hdg (fun H1 locs1 hP1 hD1 hS1 => ?_)
    rw [pool_set hD ha.1 hq0 (by rw [ent_14 ha.2, e2]) (fun b hb => ent_sAR_ne hb)] at hP1 hD1
    exact kk h hT1 H1 locs1 ls hP1 hD1 hS1 hv
theorem j_iast (C : jC X cc nL own R) {a : Nat} {i v : Int32} {γ : Type} {f : sSt → Option γ} {r : γ} (ha : isK Λ 10 a) (hdg : decode cc pc = .ok (.iastore, 1)) (kk : ∀ S1, J X nL k n (pc + 1) L st Λ S1 (f S1 = some r)) : J X nL k n pc L (vI v :: vI i :: vR (some a) :: st) Λ S (gi i (Λ.2.2 a) (bnd (sAI S a i.toNatClampNeg v) f) = some r) := jb_iast C ha (fun h => (gi_in h).1) hdg (j_imp (fun h => (gi_in h).2) (kk _))
theorem j_zast (C : jC X cc nL own R) {a : Nat} {i v : Int32} {γ : Type} {f : sSt → Option γ} {r : γ} (ha : isK Λ 12 a) (hdg : decode cc pc = .ok (.bastore, 1)) (kk : ∀ S1, J X nL k n (pc + 1) L st Λ S1 (f S1 = some r)) : J X nL k n pc L (vI v :: vI i :: vR (some a) :: st) Λ S (gi i (Λ.2.2 a) (bnd (sAI S a i.toNatClampNeg (v &&& 1)) f) = some r) := jb_zast C ha (fun h => (gi_in h).1) hdg (j_imp (fun h => (gi_in h).2) (kk _))
theorem j_last (C : jC X cc nL own R) {a : Nat} {i : Int32} {v : Int64} {γ : Type} {f : sSt → Option γ} {r : γ} (ha : isK Λ 11 a) (hdg : decode cc pc = .ok (.lastore, 1)) (kk : ∀ S1, J X nL k n (pc + 1) L st Λ S1 (f S1 = some r)) : J X nL k n pc L (vJ v :: vI i :: vR (some a) :: st) Λ S (gi i (Λ.2.2 a) (bnd (sAJ S a i.toNatClampNeg v) f) = some r) := jb_last C ha (fun h => (gi_in h).1) hdg (j_imp (fun h => (gi_in h).2) (kk _))
theorem j_aast (C : jC X cc nL own R) {a v q1 : Nat} {i : Int32} {γ : Type} {f : sSt → Option γ} {r : γ} (q : Nat) (ha : isK Λ q a) (hq : q = 13 ∨ q = 14) (he : ek q = q1) (hw : isK Λ q1 v) (hdg : decode cc pc = .ok (.aastore, 1)) (kk : ∀ S1, J X nL k n (pc + 1) L st Λ S1 (f S1 = some r)) : J X nL k n pc L (vR (some v) :: vI i :: vR (some a) :: st) Λ S (gi i (Λ.2.2 a) (bnd (sAR S a i.toNatClampNeg (some v)) f) = some r) := jb_aast C q ha hq (he ▸ hw) (fun h => (gi_in h).1) hdg (j_imp (fun h => (gi_in h).2) (kk _))
/-! Ends. -/
theorem hB_of {X : jX} {cc : ByteArray} {nL : Nat} {own : String} {R : Room} {Λ : sLay} {S : sSt} {H : Heap} (C : jC X cc nL own R) (hP : va_P (xD X) cls (pool (xy X) Λ S) H) (hD : va_D (xA X) (pool (xy X) Λ S)) (hT : TS Λ S) {t : State} (ht : t.heap = H) (hW : (xs X).WarmedH t.vm) : hB (xD X) (xy X) Λ S (xA X) t :=
  ⟨by rw [ht]; exact hP, va_K.moved hW.alike C.2.2.2.2.2.1, hD, hT, nestOk.warm hW C.2.2.2.2.2.2.2.2⟩
theorem j_iret (C : jC X cc nL own R) {r : Int32 × sSt} {v : Int32} (E : jE X (some .int) rI Λ r) (hdg : decode cc pc = .ok (.ireturn, 1)) : J X nL 0 0 pc L [vI v] Λ S (some (v, S) = some r) := by
  intro h hT H locs ls hP hD hS hv
  cases h
  obtain ⟨hr, hk, hQ, hH⟩ := E
  rw [hH] at hS
  show W _ _ _ _ _ _ _ _ _ _ _ _ _ _ (xQ X) _
  rw [hQ]
  exact W.iret (v := v) C.1 C.2.1 hr (fun t ht hW => ⟨⟨rfl, trivial, hB_of C hP hD hT ht hW⟩, hS.F ht⟩) hS.2.2 hdg hk
theorem j_zret (C : jC X cc nL own R) {r : Int32 × sSt} {v : Int32} (E : jE X (some .boolean) rI Λ r) (hdg : decode cc pc = .ok (.ireturn, 1)) : J X nL 0 0 pc L [vI v] Λ S (gb v (some (v, S)) = some r) := by
  intro h hT H locs ls hP hD hS hv
  unfold gb at h
  by_cases c : v = 0 ∨ v = 1
  · rw [if_pos c] at h
    cases h
    obtain ⟨hr, hk, hQ, hH⟩ := E
    rw [hH] at hS
    show W _ _ _ _ _ _ _ _ _ _ _ _ _ _ (xQ X) _
    rw [hQ]
    exact W.zret (v := v) C.1 C.2.1 hr (bool_n c) (fun t ht hW => ⟨⟨rfl, trivial, hB_of C hP hD hT ht hW⟩, hS.F ht⟩) hS.2.2 hdg hk
  · rw [if_neg c] at h; cases h
theorem j_zretK (C : jC X cc nL own R) {r : Int32 × sSt} {v : Int32} (E : jE X (some .boolean) rI Λ r) (c : v = 0 ∨ v = 1) (hdg : decode cc pc = .ok (.ireturn, 1)) : J X nL 0 0 pc L [vI v] Λ S (some (v, S) = some r) := j_imp (fun h => by unfold gb; rw [if_pos c]; exact h) (j_zret C E hdg)
theorem j_lret (C : jC X cc nL own R) {r : Int64 × sSt} {v : Int64} (E : jE X (some .long) rJ Λ r) (hdg : decode cc pc = .ok (.lreturn, 1)) : J X nL 0 0 pc L [vJ v] Λ S (some (v, S) = some r) := by
  intro h hT H locs ls hP hD hS hv
  cases h
  obtain ⟨hr, hk, hQ, hH⟩ := E
  rw [hH] at hS
  show W _ _ _ _ _ _ _ _ _ _ _ _ _ _ (xQ X) _
  rw [hQ]
  exact W.lret (v := v) C.1 C.2.1 hr (fun t ht hW => ⟨⟨rfl, trivial, hB_of C hP hD hT ht hW⟩, hS.F ht⟩) hS.2.2 hdg hk
theorem j_vret (C : jC X cc nL own R) {r : Unit × sSt} (E : jE X none rV Λ r) (hdg : decode cc pc = .ok (.return_, 1)) : J X nL 0 0 pc L [] Λ S (some ((), S) = some r) := by
  intro h hT H locs ls hP hD hS hv
  cases h
  obtain ⟨hr, hk, hQ, hH⟩ := E
  rw [hH] at hS
  show W _ _ _ _ _ _ _ _ _ _ _ _ _ _ (xQ X) _
  rw [hQ]
  exact W.vret C.1 C.2.1 hr (fun t ht hW => ⟨⟨rfl, trivial, hB_of C hP hD hT ht hW⟩, hS.F ht⟩) hS.2.2 hdg hk
theorem j_aret (C : jC X cc nL own R) {q : Nat} {Cn : String} {r : Option Nat × sSt} {x : Option Nat} (E : jE X (some (.object Cn)) (rR q) Λ r) (hx : okK Λ q x) (hdg : decode cc pc = .ok (.areturn, 1)) : J X nL 0 0 pc L [vR x] Λ S (some (x, S) = some r) := by
  intro h hT H locs ls hP hD hS hv
  cases h
  obtain ⟨hr, hk, hQ, hH⟩ := E
  rw [hH] at hS
  show W _ _ _ _ _ _ _ _ _ _ _ _ _ _ (xQ X) _
  rw [hQ]
  exact W.aret (v := va_rf x) C.1 C.2.1 hr (Or.inl ⟨_, rfl⟩) (va_rf_or x) (fun t ht hW => ⟨⟨rfl, hx, hB_of C hP hD hT ht hW⟩, hS.F ht⟩) hS.2.2 hdg hk
/-! Calls. -/
theorem jPre_blind {D : va_G} {cy : Nat → ClassId} {Λ : sLay} {S : sSt} {sz : Nat} {As : List Value} : FrameBlind (va_Pc As (jPre D cy Λ S sz)) := by
  intro a U g mk q
  obtain ⟨q0, q1, qP, qK, qD, qT, qN⟩ := q
  exact ⟨q0, q1, qP, va_K.moved (u := U) (U := U.calling g mk a) (Vm.Alike.refl U.vm) qK, qD, qT, nestOk.same rfl qN⟩
theorem jPre_of {X : jX} {cc : ByteArray} {nL : Nat} {own : String} {R : Room} {Λ : sLay} {S : sSt} {H : Heap} (C : jC X cc nL own R) (hP : va_P (xD X) cls (pool (xy X) Λ S) H) (hD : va_D (xA X) (pool (xy X) Λ S)) (hT : TS Λ S) (U : State) (hU : U.heap = H) (hW : (xs X).WarmedH U.vm) : jPre (xD X) (xy X) Λ S H.size U :=
  ⟨by rw [hU], by rw [hU]; exact hP, va_K.moved hW.alike C.2.2.2.2.2.1, hD.weaken (fun _ _ _ _ => trivial), hT, nestOk.warm hW C.2.2.2.2.2.2.2.2⟩
theorem j_back {β : Type} {K : jR β} {q : β × sSt} {rest : List jV} {st0 : List Value} {H : Heap} {locs : List Loc} {ls : Array Slot} {as : Array Value} (C : jC X cc nL own R) (hK : jRok K)
    (hr : va_Run (xp X) (xl X) (xe X) (xR X) (xs X) (xm X) (xa X) (xb X) (xt X) (xc X) H locs k n 0 0 (F0 (xm X) pc ls st0) (rest.map jv) (jQ (xD X) (xy X) Λ K q (va_A (pool (xy X) Λ S) H.size) as) (va_A (pool (xy X) Λ S) H.size))
    (hD : va_D (xA X) (pool (xy X) Λ S)) (hS : va_S (xA X) (xH X) H locs) (hv : lv_has ls nL (jL L))
    (kk : K.2.2 Λ q.1 → J X nL k n (pc + 3) L (K.2.1 q.1 ++ rest) Λ q.2 φ) (hφ : φ) : jW X H locs k n (F0 (xm X) pc ls st0) := by
  intro T hT X0
  obtain ⟨v, st₀, t, T', Lc, h0, X', hL, e1, e2, ⟨⟨hv1, hw, hP, hK1, hD1, hT1, hN1⟩, hz, hk⟩, stp⟩ := hr T hT X0
  cases hv1
  rw [h0] at hz hk
  have hA := pool_A hD hS C.2.2.2.2.2.2.1
  obtain ⟨t2, a1, b1⟩ := kk hw hφ hT1 T'.heap (locs ++ Lc) ls (by rw [e1]; exact hP) (pool_D _ hD)
    ⟨Nat.le_trans hS.1 (by rw [e1]; exact hz), fun q h1 h2 => by rw [e1, hk q (Nat.lt_of_lt_of_le h1 hS.1) (fun z => h2 (hA q z))]; exact hS.2.1 q h1 h2, fun q hq => by
      rcases List.mem_append.mp hq with h | h
      · exact hS.2.2 q h
      · exact hA _ (hL q h)⟩ hv T' rfl X'
  refine ⟨t2, stp t2 ?_, b1⟩
  rw [hK q.1, ← List.map_append]
  exact a1
/-- what the tables say of a method -/
def jY (y : MethodName) (b : ByteArray) (nY : Nat) (ret : Option FieldType) (np : Nat) : Prop := Cond.code y b nY ret ∈ bigW ∧ Cond.initialized y.cls ∈ bigW ∧ (y.cls ≠ "java/lang/invoke/MethodHandle" ∧ y.cls ≠ "java/lang/invoke/VarHandle" ∧ (parseMethodDescriptor y.desc).map (fun d => d.parameters.length) = some np)
def jYv (y : MethodName) : Prop := Cond.instanceMethod y ∈ bigW ∧ Cond.selects y.cls y y ∈ bigW
theorem big_code {y : MethodName} {b : ByteArray} {nY np : Nat} {ret : Option FieldType} (hy : jY y b nY ret np) : GoodIn bigW (Cond.code y b nY ret :: bigW) := big_in (fun w hw => by
  rcases List.mem_cons.mp hw with rfl | h
  · exact hy.1
  · exact h)
theorem big_V {own : String} {idx : Nat} {y : MethodName} {b : ByteArray} {nY np : Nat} {ret : Option FieldType} (hy : jY y b nY ret np) (hi : jYv y) (hl : Cond.methodLink own idx y ∈ bigW) : GoodIn bigW (wsV own idx y.cls y (Cond.code y b nY ret :: bigW)) := by
  refine big_in (fun w hw => ?_)
  unfold wsV at hw
  rcases List.mem_append.mp hw with h | h
  · simp only [List.mem_cons, List.not_mem_nil, or_false] at h
    rcases h with rfl | rfl | rfl | rfl
    · exact hl
    · exact hi.1
    · exact hi.2
    · exact hy.2.1
  · rcases List.mem_cons.mp h with rfl | h
    · exact hy.1
    · exact h
theorem big_S {own : String} {idx : Nat} {y : MethodName} {b : ByteArray} {nY np : Nat} {ret : Option FieldType} (hy : jY y b nY ret np) (hs : Cond.static y ∈ bigW) (hl : Cond.methodLink own idx y ∈ bigW) : GoodIn bigW (va_wsS own idx y (Cond.code y b nY ret :: bigW)) := by
  refine big_in (fun w hw => ?_)
  unfold va_wsS at hw
  rcases List.mem_append.mp hw with h | h
  · simp only [List.mem_cons, List.not_mem_nil, or_false] at h
    rcases h with rfl | rfl | rfl
    · exact hl
    · exact hs
    · exact hy.2.1
  · rcases List.mem_cons.mp h with rfl | h
    · exact hy.1
    · exact h
/-- the objects of a kind -/
def jO (ci : Nat) (C : String) : Prop := ∃ (T : u_T) (N : Nat), cls[ci]? = some (C, T, N) ∧ ∀ (cy : Nat → ClassId) (Λ : sLay) (S : sSt) (a : Nat), Λ.2.1 a = ci → ∃ fs, ent cy Λ S a = .inr (ci, fs)
/-- calls: φ gives that F answers q -/
theorem jb_callV {β : Type} (C : jC X cc nL own R) {K : jR β} {y : MethodName} {b : ByteArray} {nY np idx ci : Nat} {ret : Option FieldType} {rmY : Room} {As rest : List jV} {a : Nat} {q : β × sSt} (hK : jRok K)
    (hM : jM (xl X) y (Cond.code y b nY ret :: bigW) rmY (xD X) (xy X) Λ S (vR (some a) :: As) K q)
    (hy : jY y b nY ret np) (hi : jYv y) (hl : Cond.methodLink own idx y ∈ bigW) (hO : jO ci y.cls) (ha : isK Λ ci a) (hn : As.length = np) (hst : st = As.reverse ++ vR (some a) :: rest) (hR : rmY.cells = 0 ∧ rmY.slots = 0 ∧ rmY.frames + 1 ≤ R.frames ∧ 8 + (nY + 11) + rmY.locals ≤ R.locals) (hroom : jsum rest ≤ 8) (hc : k ≤ R.cells ∧ n ≤ R.slots) (hdg : decode cc pc = .ok (.invokevirtual idx, 3))
    (kk : K.2.2 Λ q.1 → J X nL k n (pc + 3) L (K.2.1 q.1 ++ rest) Λ q.2 φ) : J X nL k n pc L st Λ S φ := by
  intro h hT H locs ls hP hD hS hv
  subst hst
  obtain ⟨T, N, hcl, hent⟩ := hO
  obtain ⟨fs, hfs⟩ := hent (xy X) Λ S a ha.2
  obtain ⟨q0, hq0⟩ := pool_get (cy := xy X) S ha.1
  rw [hfs] at hq0
  have hR' : xR X = R := C.2.2.2.2.2.2.2.1
  have hcw : CallW (xR X) (xs X) (xa X) own y.cls idx y b nY ret (Cond.code y b nY ret :: bigW) rmY 0 0 np := by
    rw [hR']
    exact cwV np C.2.2.2.2.1 (big_V hy hi hl) rfl hR.1 hR.2.1 ⟨rfl, hy.2.2⟩ hR.2.2
  refine j_back C hK (va_runV (As := As.map jv) (rest := rest.map jv) (own := own) (C := y.cls) (b := a) ⟨C.1, C.2.1, C.2.2.1, C.2.2.2.1, C.2.2.2.2.1⟩ (hM H.size) hcw ⟨jPre_blind, va_recv C.2.2.2.2.2.1 hP hcl hq0, fun U hU hW => ⟨rfl, jPre_of C hP hD hT U hU hW⟩⟩ rfl (by simpa using hn) hv.1 (by simp [List.map_append, List.map_reverse, jv, va_rf]) (lv_room (by rw [jsum_map]; exact hroom)) hdg (by rw [hR']; exact hc)) hD hS hv kk h
theorem jb_callS {β : Type} (C : jC X cc nL own R) {K : jR β} {y : MethodName} {b : ByteArray} {nY np idx : Nat} {ret : Option FieldType} {rmY : Room} {As rest : List jV} {q : β × sSt} (hK : jRok K)
    (hM : jM (xl X) y (Cond.code y b nY ret :: bigW) rmY (xD X) (xy X) Λ S As K q)
    (hy : jY y b nY ret np) (hs : Cond.static y ∈ bigW) (hl : Cond.methodLink own idx y ∈ bigW) (hn : As.length = np) (hst : st = As.reverse ++ rest) (hR : rmY.cells = 0 ∧ rmY.slots = 0 ∧ rmY.frames + 1 ≤ R.frames ∧ 8 + (nY + 11) + rmY.locals ≤ R.locals) (hroom : jsum rest ≤ 8) (hc : k ≤ R.cells ∧ n ≤ R.slots) (hdg : decode cc pc = .ok (.invokestatic idx, 3))
    (kk : K.2.2 Λ q.1 → J X nL k n (pc + 3) L (K.2.1 q.1 ++ rest) Λ q.2 φ) : J X nL k n pc L st Λ S φ := by
  intro h hT H locs ls hP hD hS hv
  subst hst
  have hR' : xR X = R := C.2.2.2.2.2.2.2.1
  have hcw : CallB (xR X) (xs X) (xa X) own idx y b nY ret (Cond.code y b nY ret :: bigW) rmY 0 0 np ∧ (Cond.static y).before (xa X) (xs X) = true := by
    rw [hR']
    exact va_cwS np C.2.2.2.2.1 (big_S hy hs hl) rfl hR.1 hR.2.1 hy.2.2 hR.2.2
  refine j_back C hK (va_runS (As := As.map jv) (rest := rest.map jv) (own := own) ⟨C.1, C.2.1, C.2.2.1, C.2.2.2.1, C.2.2.2.2.1⟩ (hM H.size) hcw ⟨jPre_blind, fun U hU hW => ⟨rfl, jPre_of C hP hD hT U hU hW⟩⟩ rfl (by simpa using hn) hv.1 (by simp [List.map_append, List.map_reverse]) (lv_room (by rw [jsum_map]; exact hroom)) hdg (by rw [hR']; exact hc)) hD hS hv kk h
theorem jb_callSN {β : Type} (C : jC X cc nL own R) {K : jR β} {y : MethodName} {b : ByteArray} {nY np idx : Nat} {host : String} {ret : Option FieldType} {rmY : Room} {As rest : List jV} {q : β × sSt} (hK : jRok K)
    (hM : jM (xl X) y (Cond.code y b nY ret :: bigW) rmY (xD X) (xy X) Λ S As K q)
    (hy : jY y b nY ret np) (hs : Cond.static y ∈ bigW) (hl : (own, idx, y, host) ∈ nests) (hn : As.length = np) (hst : st = As.reverse ++ rest) (hR : rmY.cells = 0 ∧ rmY.slots = 0 ∧ rmY.frames + 1 ≤ R.frames ∧ 8 + (nY + 11) + rmY.locals ≤ R.locals) (hroom : jsum rest ≤ 8) (hc : k ≤ R.cells ∧ n ≤ R.slots) (hdg : decode cc pc = .ok (.invokestatic idx, 3))
    (kk : K.2.2 Λ q.1 → J X nL k n (pc + 3) L (K.2.1 q.1 ++ rest) Λ q.2 φ) : J X nL k n pc L st Λ S φ := by
  intro h hT H locs ls hP hD hS hv
  subst hst
  have hR' : xR X = R := C.2.2.2.2.2.2.2.1
  have hcw : va_CN (xR X) (xs X) (xa X) own idx y host b nY ret (Cond.code y b nY ret :: bigW) rmY 0 0 np ∧ (Cond.static y).before (xa X) (xs X) = true ∧ True := by
    rw [hR']
    exact ⟨va_cnB np C.2.2.2.2.1 (big_code hy) rfl hR.1 hR.2.1 (C.2.2.2.2.2.2.2.2.1 _ hl) (C.2.2.2.2.1 _ hy.2.1) hy.2.2 hR.2.2, C.2.2.2.2.1 _ hs, trivial⟩
  refine j_back C hK (va_runSN (As := As.map jv) (rest := rest.map jv) (own := own) ⟨C.1, C.2.1, C.2.2.1, C.2.2.2.1, C.2.2.2.2.1⟩ (hM H.size) hcw ⟨jPre_blind, fun U hU hW => ⟨rfl, jPre_of C hP hD hT U hU hW⟩⟩ rfl (by simpa using hn) hv.1 (by simp [List.map_append, List.map_reverse]) (lv_room (by rw [jsum_map]; exact hroom)) hdg (by rw [hR']; exact hc)) hD hS hv kk h
theorem bind_some {α β : Type} {x : Option α} {f : α → Option β} {r : β} (h : x.bind f = some r) : ∃ q, x = some q ∧ f q = some r := by
  cases x with
  | none => cases h
  | some q => exact ⟨q, rfl, h⟩
/-- a call whose F is bound -/
theorem j_call {β γ : Type} {F : Option (β × sSt)} {f : β × sSt → Option γ} {r : γ} (kk : ∀ q, F = some q → J X nL k n pc L st Λ S (f q = some r)) : J X nL k n pc L st Λ S (F.bind f = some r) := by
  intro h
  obtain ⟨q, hq, hf⟩ := bind_some h
  exact kk q hq hf
end
/-! A method by the walk of its body. -/
theorem jM_of {β : Type} {l : Launch} {y : MethodName} {cc : ByteArray} {nL : Nat} {ret : Option FieldType} {rm : Room} {D : va_G} {cy : Nat → ClassId} {Λ : sLay} {S : sSt} {As : List jV} {K : jR β} {r : β × sSt} {φ : Prop}
    (hy : plainName y.cls = true) (hlen : jlen As ≤ nL)
    (hJ : ∀ X : jX, jC X cc nL y.cls rm → jE X ret K Λ r → xl X = l → xD X = D → xy X = cy → J X nL 0 0 0 (jargs 0 As) [] Λ S φ) (h : φ) : jM l y (Cond.code y cc nL ret :: bigW) rm D cy Λ S As K r := by
  intro sz
  refine Met.ofW (cc := cc) (maxL := nL) (ret := ret) hy rfl ?_
  intro p e s m args below meth c s₁ B hml hv
  obtain ⟨rfl, hsz, hP, hK, hD0, hT, hN⟩ := hv
  have hts := atoms_spec (ws := Cond.code y cc nL ret :: bigW) B.pre
  subst hsz
  let X : jX := (p, l, e, (headSpec (Cond.code y cc nL ret :: bigW) rm).room, s, m, (As.map jv).toArray, below, meth, c, s.heap, va_A (pool cy Λ S) s.heap.size, D, cy, MQ below (jQ D cy Λ K r (va_A (pool cy Λ S) s.heap.size)) (As.map jv).toArray s 0 0 (va_A (pool cy Λ S) s.heap.size))
  have C : jC X cc nL y.cls rm := ⟨B.exec, B.bytes, hml, findClass_of_methodNamed B.named, fun w hw => hts w (List.mem_cons_of_mem _ hw), hK, fun q h => Or.inr h, rfl, hN⟩
  have E : jE X ret K Λ r := ⟨B.returns, B.notSynchronized, rfl, rfl⟩
  rw [lg_entry_eq]
  have hl := lv_entry (As.map jv) (n := nL) (by rw [jlen_sl]; exact hlen)
  rw [← jL_args] at hl
  exact hJ X C E rfl rfl rfl h hT s.heap [] _ hP hD0.self va_S.rf hl
/-- an answer and the store behind it are named -/
def obd {β γ : Type} (x : Option (β × sSt)) (f : β → sSt → Option γ) : Option γ := match x with
  | none => none
  | some q => f q.1 q.2
theorem obd_some {β γ : Type} {x : Option (β × sSt)} {f : β → sSt → Option γ} {r : γ} (h : obd x f = some r) : ∃ v S1, x = some (v, S1) ∧ f v S1 = some r := by
  cases x with
  | none => cases h
  | some q => exact ⟨q.1, q.2, rfl, h⟩
theorem okS {Λ : sLay} {q a : Nat} (h : isK Λ q a) : okK Λ q (some a) := fun b e => by cases e; exact h
theorem okN {Λ : sLay} {q : Nat} : okK Λ q none := fun b e => by cases e
def FU : Nat := 4294967296
section
variable {X : jX} {cc : ByteArray} {nL k n pc : Nat} {own : String} {R : Room} {L L' : List (Nat × jV)} {st : List jV} {Λ : sLay} {S : sSt} {φ φ1 φ2 : Prop}
theorem j_iretP (C : jC X cc nL own R) {r v : Int32} (E : jE X (some .int) rI Λ (r, S)) (hdg : decode cc pc = .ok (.ireturn, 1)) : J X nL 0 0 pc L [vI v] Λ S (some v = some r) := j_imp (fun h => by cases h; rfl) (j_iret C E hdg)
theorem j_zretP (C : jC X cc nL own R) {r v : Int32} (E : jE X (some .boolean) rI Λ (r, S)) (hdg : decode cc pc = .ok (.ireturn, 1)) : J X nL 0 0 pc L [vI v] Λ S (gb v (some v) = some r) := j_imp (fun h => by
  unfold gb at h ⊢
  by_cases c : v = 0 ∨ v = 1
  · rw [if_pos c] at h ⊢; cases h; rfl
  · rw [if_neg c] at h; cases h) (j_zret C E hdg)
theorem j_zretKP (C : jC X cc nL own R) {r v : Int32} (E : jE X (some .boolean) rI Λ (r, S)) (c : v = 0 ∨ v = 1) (hdg : decode cc pc = .ok (.ireturn, 1)) : J X nL 0 0 pc L [vI v] Λ S (some v = some r) := j_imp (fun h => by cases h; rfl) (j_zretK C E c hdg)
theorem j_lretP (C : jC X cc nL own R) {r v : Int64} (E : jE X (some .long) rJ Λ (r, S)) (hdg : decode cc pc = .ok (.lreturn, 1)) : J X nL 0 0 pc L [vJ v] Λ S (some v = some r) := j_imp (fun h => by cases h; rfl) (j_lret C E hdg)
theorem j_vretP (C : jC X cc nL own R) {r : sSt} (E : jE X none rV Λ ((), r)) (hdg : decode cc pc = .ok (.return_, 1)) : J X nL 0 0 pc L [] Λ S (some S = some r) := j_imp (fun h => by cases h; rfl) (j_vret C E hdg)
theorem j_aretP (C : jC X cc nL own R) {q : Nat} {Cn : String} {r x : Option Nat} (E : jE X (some (.object Cn)) (rR q) Λ (r, S)) (hx : okK Λ q x) (hdg : decode cc pc = .ok (.areturn, 1)) : J X nL 0 0 pc L [vR x] Λ S (some x = some r) := j_imp (fun h => by cases h; rfl) (j_aret C E hx hdg)
theorem j_ite {c : Prop} [Decidable c] {γ : Type} {F1 F2 : Option γ} {r : γ} (h1 : c → J X nL k n pc L st Λ S (F1 = some r)) (h2 : ¬ c → J X nL k n pc L st Λ S (F2 = some r)) : J X nL k n pc L st Λ S ((if c then F1 else F2) = some r) := by
  by_cases h : c
  · rw [if_pos h]; exact h1 h
  · rw [if_neg h]; exact h2 h
theorem j_tableIn (C : jC X cc nL own R) {dflt lo hi : Int} {offs : Array Int} {len : Nat} {x : Int32} {off : Int} {tgt : Nat} (v : Int32) (hx : x = v) (hdg : decode cc pc = .ok (.tableswitch dflt lo hi offs, len)) (h1 : ¬ v.toInt < lo) (h2 : ¬ hi < v.toInt) (ho : offs[(v.toInt - lo).toNat]? = some off) (ht : (pc : Int) + off = (tgt : Int)) (kk : J X nL k n tgt L st Λ S φ) : J X nL k n pc L (vI x :: st) Λ S φ := by
  intro h hT H locs ls hP hD hS hv
  subst hx
  exact lv_tableIn C.1 C.2.1 hdg h1 h2 ho ht (kk h hT H locs ls hP hD hS hv)
theorem j_tableOut (C : jC X cc nL own R) {dflt lo hi : Int} {offs : Array Int} {len : Nat} {x : Int32} {tgt : Nat} (hdg : decode cc pc = .ok (.tableswitch dflt lo hi offs, len)) (hx : x.toInt < lo ∨ hi < x.toInt) (ht : (pc : Int) + dflt = (tgt : Int)) (kk : J X nL k n tgt L st Λ S φ) : J X nL k n pc L (vI x :: st) Λ S φ := by
  intro h hT H locs ls hP hD hS hv
  exact lv_tableOut C.1 C.2.1 hdg hx ht (kk h hT H locs ls hP hD hS hv)
theorem j_cVIP (C : jC X cc nL own R) {y : MethodName} {b : ByteArray} {idx ci np nY a : Nat} {ret : Option FieldType} {rmY : Room} {γ : Type} {F : Option Int32} {f : Int32 → Option γ} {r : γ} (As rest : List jV) (hM : ∀ v, F = some v → jM (xl X) y (Cond.code y b nY ret :: bigW) rmY (xD X) (xy X) Λ S (vR (some a) :: As) rI (v, S)) (hy : jY y b nY ret np) (hi : jYv y) (hl : Cond.methodLink own idx y ∈ bigW) (hO : jO ci y.cls) (ha : isK Λ ci a) (hn : As.length = np) (hst : st = As.reverse ++ vR (some a) :: rest) (hR : rmY.cells = 0 ∧ rmY.slots = 0 ∧ rmY.frames + 1 ≤ R.frames ∧ 8 + (nY + 11) + rmY.locals ≤ R.locals) (hroom : jsum rest ≤ 8) (hc : k ≤ R.cells ∧ n ≤ R.slots) (hdg : decode cc pc = .ok (.invokevirtual idx, 3)) (kk : ∀ v : Int32, J X nL k n (pc + 3) L (vI v :: rest) Λ S (f v = some r)) : J X nL k n pc L st Λ S (F.bind f = some r) := fun h => by
  obtain ⟨v, e, hf⟩ := bind_some h
  exact (jb_callV C rI_ok (hM _ e) hy hi hl hO ha hn hst hR hroom hc hdg (fun _ => kk v) : J X nL k n pc L st Λ S (f v = some r)) hf
theorem j_cVIG (C : jC X cc nL own R) {y : MethodName} {b : ByteArray} {idx ci np nY a : Nat} {ret : Option FieldType} {rmY : Room} {γ : Type} {F : Option (Int32 × sSt)} {f : Int32 → sSt → Option γ} {r : γ} (As rest : List jV) (hM : ∀ v S1, F = some (v, S1) → jM (xl X) y (Cond.code y b nY ret :: bigW) rmY (xD X) (xy X) Λ S (vR (some a) :: As) rI (v, S1)) (hy : jY y b nY ret np) (hi : jYv y) (hl : Cond.methodLink own idx y ∈ bigW) (hO : jO ci y.cls) (ha : isK Λ ci a) (hn : As.length = np) (hst : st = As.reverse ++ vR (some a) :: rest) (hR : rmY.cells = 0 ∧ rmY.slots = 0 ∧ rmY.frames + 1 ≤ R.frames ∧ 8 + (nY + 11) + rmY.locals ≤ R.locals) (hroom : jsum rest ≤ 8) (hc : k ≤ R.cells ∧ n ≤ R.slots) (hdg : decode cc pc = .ok (.invokevirtual idx, 3)) (kk : ∀ (v : Int32) (S1 : sSt), J X nL k n (pc + 3) L (vI v :: rest) Λ S1 (f v S1 = some r)) : J X nL k n pc L st Λ S (obd F f = some r) := fun h => by
  obtain ⟨v, S1, e, hf⟩ := obd_some h
  exact (jb_callV C rI_ok (hM _ _ e) hy hi hl hO ha hn hst hR hroom hc hdg (fun _ => kk v S1) : J X nL k n pc L st Λ S (f v S1 = some r)) hf
theorem j_cVJP (C : jC X cc nL own R) {y : MethodName} {b : ByteArray} {idx ci np nY a : Nat} {ret : Option FieldType} {rmY : Room} {γ : Type} {F : Option Int64} {f : Int64 → Option γ} {r : γ} (As rest : List jV) (hM : ∀ v, F = some v → jM (xl X) y (Cond.code y b nY ret :: bigW) rmY (xD X) (xy X) Λ S (vR (some a) :: As) rJ (v, S)) (hy : jY y b nY ret np) (hi : jYv y) (hl : Cond.methodLink own idx y ∈ bigW) (hO : jO ci y.cls) (ha : isK Λ ci a) (hn : As.length = np) (hst : st = As.reverse ++ vR (some a) :: rest) (hR : rmY.cells = 0 ∧ rmY.slots = 0 ∧ rmY.frames + 1 ≤ R.frames ∧ 8 + (nY + 11) + rmY.locals ≤ R.locals) (hroom : jsum rest ≤ 8) (hc : k ≤ R.cells ∧ n ≤ R.slots) (hdg : decode cc pc = .ok (.invokevirtual idx, 3)) (kk : ∀ v : Int64, J X nL k n (pc + 3) L (vJ v :: rest) Λ S (f v = some r)) : J X nL k n pc L st Λ S (F.bind f = some r) := fun h => by
  obtain ⟨v, e, hf⟩ := bind_some h
  exact (jb_callV C rJ_ok (hM _ e) hy hi hl hO ha hn hst hR hroom hc hdg (fun _ => kk v) : J X nL k n pc L st Λ S (f v = some r)) hf
theorem j_cVJG (C : jC X cc nL own R) {y : MethodName} {b : ByteArray} {idx ci np nY a : Nat} {ret : Option FieldType} {rmY : Room} {γ : Type} {F : Option (Int64 × sSt)} {f : Int64 → sSt → Option γ} {r : γ} (As rest : List jV) (hM : ∀ v S1, F = some (v, S1) → jM (xl X) y (Cond.code y b nY ret :: bigW) rmY (xD X) (xy X) Λ S (vR (some a) :: As) rJ (v, S1)) (hy : jY y b nY ret np) (hi : jYv y) (hl : Cond.methodLink own idx y ∈ bigW) (hO : jO ci y.cls) (ha : isK Λ ci a) (hn : As.length = np) (hst : st = As.reverse ++ vR (some a) :: rest) (hR : rmY.cells = 0 ∧ rmY.slots = 0 ∧ rmY.frames + 1 ≤ R.frames ∧ 8 + (nY + 11) + rmY.locals ≤ R.locals) (hroom : jsum rest ≤ 8) (hc : k ≤ R.cells ∧ n ≤ R.slots) (hdg : decode cc pc = .ok (.invokevirtual idx, 3)) (kk : ∀ (v : Int64) (S1 : sSt), J X nL k n (pc + 3) L (vJ v :: rest) Λ S1 (f v S1 = some r)) : J X nL k n pc L st Λ S (obd F f = some r) := fun h => by
  obtain ⟨v, S1, e, hf⟩ := obd_some h
  exact (jb_callV C rJ_ok (hM _ _ e) hy hi hl hO ha hn hst hR hroom hc hdg (fun _ => kk v S1) : J X nL k n pc L st Λ S (f v S1 = some r)) hf
theorem j_cVVV (C : jC X cc nL own R) {y : MethodName} {b : ByteArray} {idx ci np nY a : Nat} {ret : Option FieldType} {rmY : Room} {γ : Type} {F : Option sSt} {f : sSt → Option γ} {r : γ} (As rest : List jV) (hM : ∀ S1, F = some S1 → jM (xl X) y (Cond.code y b nY ret :: bigW) rmY (xD X) (xy X) Λ S (vR (some a) :: As) rV ((), S1)) (hy : jY y b nY ret np) (hi : jYv y) (hl : Cond.methodLink own idx y ∈ bigW) (hO : jO ci y.cls) (ha : isK Λ ci a) (hn : As.length = np) (hst : st = As.reverse ++ vR (some a) :: rest) (hR : rmY.cells = 0 ∧ rmY.slots = 0 ∧ rmY.frames + 1 ≤ R.frames ∧ 8 + (nY + 11) + rmY.locals ≤ R.locals) (hroom : jsum rest ≤ 8) (hc : k ≤ R.cells ∧ n ≤ R.slots) (hdg : decode cc pc = .ok (.invokevirtual idx, 3)) (kk : ∀ S1 : sSt, J X nL k n (pc + 3) L (rest) Λ S1 (f S1 = some r)) : J X nL k n pc L st Λ S (F.bind f = some r) := fun h => by
  obtain ⟨S1, e, hf⟩ := bind_some h
  exact (jb_callV C rV_ok (hM _ e) hy hi hl hO ha hn hst hR hroom hc hdg (fun _ => kk S1) : J X nL k n pc L st Λ S (f S1 = some r)) hf
theorem j_cVRP (C : jC X cc nL own R) {y : MethodName} {b : ByteArray} {idx ci qr np nY a : Nat} {ret : Option FieldType} {rmY : Room} {γ : Type} {F : Option (Option Nat)} {f : (Option Nat) → Option γ} {r : γ} (As rest : List jV) (hM : ∀ v, F = some v → jM (xl X) y (Cond.code y b nY ret :: bigW) rmY (xD X) (xy X) Λ S (vR (some a) :: As) (rR qr) (v, S)) (hy : jY y b nY ret np) (hi : jYv y) (hl : Cond.methodLink own idx y ∈ bigW) (hO : jO ci y.cls) (ha : isK Λ ci a) (hn : As.length = np) (hst : st = As.reverse ++ vR (some a) :: rest) (hR : rmY.cells = 0 ∧ rmY.slots = 0 ∧ rmY.frames + 1 ≤ R.frames ∧ 8 + (nY + 11) + rmY.locals ≤ R.locals) (hroom : jsum rest ≤ 8) (hc : k ≤ R.cells ∧ n ≤ R.slots) (hdg : decode cc pc = .ok (.invokevirtual idx, 3)) (kk : ∀ v : Option Nat, okK Λ qr v → J X nL k n (pc + 3) L (vR v :: rest) Λ S (f v = some r)) : J X nL k n pc L st Λ S (F.bind f = some r) := fun h => by
  obtain ⟨v, e, hf⟩ := bind_some h
  exact (jb_callV C (rR_ok qr) (hM _ e) hy hi hl hO ha hn hst hR hroom hc hdg (fun hw => kk v hw) : J X nL k n pc L st Λ S (f v = some r)) hf
theorem j_cVRG (C : jC X cc nL own R) {y : MethodName} {b : ByteArray} {idx ci qr np nY a : Nat} {ret : Option FieldType} {rmY : Room} {γ : Type} {F : Option ((Option Nat) × sSt)} {f : (Option Nat) → sSt → Option γ} {r : γ} (As rest : List jV) (hM : ∀ v S1, F = some (v, S1) → jM (xl X) y (Cond.code y b nY ret :: bigW) rmY (xD X) (xy X) Λ S (vR (some a) :: As) (rR qr) (v, S1)) (hy : jY y b nY ret np) (hi : jYv y) (hl : Cond.methodLink own idx y ∈ bigW) (hO : jO ci y.cls) (ha : isK Λ ci a) (hn : As.length = np) (hst : st = As.reverse ++ vR (some a) :: rest) (hR : rmY.cells = 0 ∧ rmY.slots = 0 ∧ rmY.frames + 1 ≤ R.frames ∧ 8 + (nY + 11) + rmY.locals ≤ R.locals) (hroom : jsum rest ≤ 8) (hc : k ≤ R.cells ∧ n ≤ R.slots) (hdg : decode cc pc = .ok (.invokevirtual idx, 3)) (kk : ∀ (v : Option Nat) (S1 : sSt), okK Λ qr v → J X nL k n (pc + 3) L (vR v :: rest) Λ S1 (f v S1 = some r)) : J X nL k n pc L st Λ S (obd F f = some r) := fun h => by
  obtain ⟨v, S1, e, hf⟩ := obd_some h
  exact (jb_callV C (rR_ok qr) (hM _ _ e) hy hi hl hO ha hn hst hR hroom hc hdg (fun hw => kk v S1 hw) : J X nL k n pc L st Λ S (f v S1 = some r)) hf
theorem j_cSIP (C : jC X cc nL own R) {y : MethodName} {b : ByteArray} {idx np nY : Nat} {ret : Option FieldType} {rmY : Room} {γ : Type} {F : Option Int32} {f : Int32 → Option γ} {r : γ} (As rest : List jV) (hM : ∀ v, F = some v → jM (xl X) y (Cond.code y b nY ret :: bigW) rmY (xD X) (xy X) Λ S As rI (v, S)) (hy : jY y b nY ret np) (hs : Cond.static y ∈ bigW) (hl : Cond.methodLink own idx y ∈ bigW) (hn : As.length = np) (hst : st = As.reverse ++ rest) (hR : rmY.cells = 0 ∧ rmY.slots = 0 ∧ rmY.frames + 1 ≤ R.frames ∧ 8 + (nY + 11) + rmY.locals ≤ R.locals) (hroom : jsum rest ≤ 8) (hc : k ≤ R.cells ∧ n ≤ R.slots) (hdg : decode cc pc = .ok (.invokestatic idx, 3)) (kk : ∀ v : Int32, J X nL k n (pc + 3) L (vI v :: rest) Λ S (f v = some r)) : J X nL k n pc L st Λ S (F.bind f = some r) := fun h => by
  obtain ⟨v, e, hf⟩ := bind_some h
  exact (jb_callS C rI_ok (hM _ e) hy hs hl hn hst hR hroom hc hdg (fun _ => kk v) : J X nL k n pc L st Λ S (f v = some r)) hf
theorem j_cSIG (C : jC X cc nL own R) {y : MethodName} {b : ByteArray} {idx np nY : Nat} {ret : Option FieldType} {rmY : Room} {γ : Type} {F : Option (Int32 × sSt)} {f : Int32 → sSt → Option γ} {r : γ} (As rest : List jV) (hM : ∀ v S1, F = some (v, S1) → jM (xl X) y (Cond.code y b nY ret :: bigW) rmY (xD X) (xy X) Λ S As rI (v, S1)) (hy : jY y b nY ret np) (hs : Cond.static y ∈ bigW) (hl : Cond.methodLink own idx y ∈ bigW) (hn : As.length = np) (hst : st = As.reverse ++ rest) (hR : rmY.cells = 0 ∧ rmY.slots = 0 ∧ rmY.frames + 1 ≤ R.frames ∧ 8 + (nY + 11) + rmY.locals ≤ R.locals) (hroom : jsum rest ≤ 8) (hc : k ≤ R.cells ∧ n ≤ R.slots) (hdg : decode cc pc = .ok (.invokestatic idx, 3)) (kk : ∀ (v : Int32) (S1 : sSt), J X nL k n (pc + 3) L (vI v :: rest) Λ S1 (f v S1 = some r)) : J X nL k n pc L st Λ S (obd F f = some r) := fun h => by
  obtain ⟨v, S1, e, hf⟩ := obd_some h
  exact (jb_callS C rI_ok (hM _ _ e) hy hs hl hn hst hR hroom hc hdg (fun _ => kk v S1) : J X nL k n pc L st Λ S (f v S1 = some r)) hf
theorem j_cSJP (C : jC X cc nL own R) {y : MethodName} {b : ByteArray} {idx np nY : Nat} {ret : Option FieldType} {rmY : Room} {γ : Type} {F : Option Int64} {f : Int64 → Option γ} {r : γ} (As rest : List jV) (hM : ∀ v, F = some v → jM (xl X) y (Cond.code y b nY ret :: bigW) rmY (xD X) (xy X) Λ S As rJ (v, S)) (hy : jY y b nY ret np) (hs : Cond.static y ∈ bigW) (hl : Cond.methodLink own idx y ∈ bigW) (hn : As.length = np) (hst : st = As.reverse ++ rest) (hR : rmY.cells = 0 ∧ rmY.slots = 0 ∧ rmY.frames + 1 ≤ R.frames ∧ 8 + (nY + 11) + rmY.locals ≤ R.locals) (hroom : jsum rest ≤ 8) (hc : k ≤ R.cells ∧ n ≤ R.slots) (hdg : decode cc pc = .ok (.invokestatic idx, 3)) (kk : ∀ v : Int64, J X nL k n (pc + 3) L (vJ v :: rest) Λ S (f v = some r)) : J X nL k n pc L st Λ S (F.bind f = some r) := fun h => by
  obtain ⟨v, e, hf⟩ := bind_some h
  exact (jb_callS C rJ_ok (hM _ e) hy hs hl hn hst hR hroom hc hdg (fun _ => kk v) : J X nL k n pc L st Λ S (f v = some r)) hf
theorem j_cSJG (C : jC X cc nL own R) {y : MethodName} {b : ByteArray} {idx np nY : Nat} {ret : Option FieldType} {rmY : Room} {γ : Type} {F : Option (Int64 × sSt)} {f : Int64 → sSt → Option γ} {r : γ} (As rest : List jV) (hM : ∀ v S1, F = some (v, S1) → jM (xl X) y (Cond.code y b nY ret :: bigW) rmY (xD X) (xy X) Λ S As rJ (v, S1)) (hy : jY y b nY ret np) (hs : Cond.static y ∈ bigW) (hl : Cond.methodLink own idx y ∈ bigW) (hn : As.length = np) (hst : st = As.reverse ++ rest) (hR : rmY.cells = 0 ∧ rmY.slots = 0 ∧ rmY.frames + 1 ≤ R.frames ∧ 8 + (nY + 11) + rmY.locals ≤ R.locals) (hroom : jsum rest ≤ 8) (hc : k ≤ R.cells ∧ n ≤ R.slots) (hdg : decode cc pc = .ok (.invokestatic idx, 3)) (kk : ∀ (v : Int64) (S1 : sSt), J X nL k n (pc + 3) L (vJ v :: rest) Λ S1 (f v S1 = some r)) : J X nL k n pc L st Λ S (obd F f = some r) := fun h => by
  obtain ⟨v, S1, e, hf⟩ := obd_some h
  exact (jb_callS C rJ_ok (hM _ _ e) hy hs hl hn hst hR hroom hc hdg (fun _ => kk v S1) : J X nL k n pc L st Λ S (f v S1 = some r)) hf
theorem j_cSVV (C : jC X cc nL own R) {y : MethodName} {b : ByteArray} {idx np nY : Nat} {ret : Option FieldType} {rmY : Room} {γ : Type} {F : Option sSt} {f : sSt → Option γ} {r : γ} (As rest : List jV) (hM : ∀ S1, F = some S1 → jM (xl X) y (Cond.code y b nY ret :: bigW) rmY (xD X) (xy X) Λ S As rV ((), S1)) (hy : jY y b nY ret np) (hs : Cond.static y ∈ bigW) (hl : Cond.methodLink own idx y ∈ bigW) (hn : As.length = np) (hst : st = As.reverse ++ rest) (hR : rmY.cells = 0 ∧ rmY.slots = 0 ∧ rmY.frames + 1 ≤ R.frames ∧ 8 + (nY + 11) + rmY.locals ≤ R.locals) (hroom : jsum rest ≤ 8) (hc : k ≤ R.cells ∧ n ≤ R.slots) (hdg : decode cc pc = .ok (.invokestatic idx, 3)) (kk : ∀ S1 : sSt, J X nL k n (pc + 3) L (rest) Λ S1 (f S1 = some r)) : J X nL k n pc L st Λ S (F.bind f = some r) := fun h => by
  obtain ⟨S1, e, hf⟩ := bind_some h
  exact (jb_callS C rV_ok (hM _ e) hy hs hl hn hst hR hroom hc hdg (fun _ => kk S1) : J X nL k n pc L st Λ S (f S1 = some r)) hf
theorem j_cSRP (C : jC X cc nL own R) {y : MethodName} {b : ByteArray} {idx qr np nY : Nat} {ret : Option FieldType} {rmY : Room} {γ : Type} {F : Option (Option Nat)} {f : (Option Nat) → Option γ} {r : γ} (As rest : List jV) (hM : ∀ v, F = some v → jM (xl X) y (Cond.code y b nY ret :: bigW) rmY (xD X) (xy X) Λ S As (rR qr) (v, S)) (hy : jY y b nY ret np) (hs : Cond.static y ∈ bigW) (hl : Cond.methodLink own idx y ∈ bigW) (hn : As.length = np) (hst : st = As.reverse ++ rest) (hR : rmY.cells = 0 ∧ rmY.slots = 0 ∧ rmY.frames + 1 ≤ R.frames ∧ 8 + (nY + 11) + rmY.locals ≤ R.locals) (hroom : jsum rest ≤ 8) (hc : k ≤ R.cells ∧ n ≤ R.slots) (hdg : decode cc pc = .ok (.invokestatic idx, 3)) (kk : ∀ v : Option Nat, okK Λ qr v → J X nL k n (pc + 3) L (vR v :: rest) Λ S (f v = some r)) : J X nL k n pc L st Λ S (F.bind f = some r) := fun h => by
  obtain ⟨v, e, hf⟩ := bind_some h
  exact (jb_callS C (rR_ok qr) (hM _ e) hy hs hl hn hst hR hroom hc hdg (fun hw => kk v hw) : J X nL k n pc L st Λ S (f v = some r)) hf
theorem j_cSRG (C : jC X cc nL own R) {y : MethodName} {b : ByteArray} {idx qr np nY : Nat} {ret : Option FieldType} {rmY : Room} {γ : Type} {F : Option ((Option Nat) × sSt)} {f : (Option Nat) → sSt → Option γ} {r : γ} (As rest : List jV) (hM : ∀ v S1, F = some (v, S1) → jM (xl X) y (Cond.code y b nY ret :: bigW) rmY (xD X) (xy X) Λ S As (rR qr) (v, S1)) (hy : jY y b nY ret np) (hs : Cond.static y ∈ bigW) (hl : Cond.methodLink own idx y ∈ bigW) (hn : As.length = np) (hst : st = As.reverse ++ rest) (hR : rmY.cells = 0 ∧ rmY.slots = 0 ∧ rmY.frames + 1 ≤ R.frames ∧ 8 + (nY + 11) + rmY.locals ≤ R.locals) (hroom : jsum rest ≤ 8) (hc : k ≤ R.cells ∧ n ≤ R.slots) (hdg : decode cc pc = .ok (.invokestatic idx, 3)) (kk : ∀ (v : Option Nat) (S1 : sSt), okK Λ qr v → J X nL k n (pc + 3) L (vR v :: rest) Λ S1 (f v S1 = some r)) : J X nL k n pc L st Λ S (obd F f = some r) := fun h => by
  obtain ⟨v, S1, e, hf⟩ := obd_some h
  exact (jb_callS C (rR_ok qr) (hM _ _ e) hy hs hl hn hst hR hroom hc hdg (fun hw => kk v S1 hw) : J X nL k n pc L st Λ S (f v S1 = some r)) hf
theorem j_cNIP (C : jC X cc nL own R) {y : MethodName} {b : ByteArray} {idx np nY : Nat} {host : String} {ret : Option FieldType} {rmY : Room} {γ : Type} {F : Option Int32} {f : Int32 → Option γ} {r : γ} (As rest : List jV) (hM : ∀ v, F = some v → jM (xl X) y (Cond.code y b nY ret :: bigW) rmY (xD X) (xy X) Λ S As rI (v, S)) (hy : jY y b nY ret np) (hs : Cond.static y ∈ bigW) (hl : (own, idx, y, host) ∈ nests) (hn : As.length = np) (hst : st = As.reverse ++ rest) (hR : rmY.cells = 0 ∧ rmY.slots = 0 ∧ rmY.frames + 1 ≤ R.frames ∧ 8 + (nY + 11) + rmY.locals ≤ R.locals) (hroom : jsum rest ≤ 8) (hc : k ≤ R.cells ∧ n ≤ R.slots) (hdg : decode cc pc = .ok (.invokestatic idx, 3)) (kk : ∀ v : Int32, J X nL k n (pc + 3) L (vI v :: rest) Λ S (f v = some r)) : J X nL k n pc L st Λ S (F.bind f = some r) := fun h => by
  obtain ⟨v, e, hf⟩ := bind_some h
  exact (jb_callSN C rI_ok (hM _ e) hy hs hl hn hst hR hroom hc hdg (fun _ => kk v) : J X nL k n pc L st Λ S (f v = some r)) hf
theorem j_cNIG (C : jC X cc nL own R) {y : MethodName} {b : ByteArray} {idx np nY : Nat} {host : String} {ret : Option FieldType} {rmY : Room} {γ : Type} {F : Option (Int32 × sSt)} {f : Int32 → sSt → Option γ} {r : γ} (As rest : List jV) (hM : ∀ v S1, F = some (v, S1) → jM (xl X) y (Cond.code y b nY ret :: bigW) rmY (xD X) (xy X) Λ S As rI (v, S1)) (hy : jY y b nY ret np) (hs : Cond.static y ∈ bigW) (hl : (own, idx, y, host) ∈ nests) (hn : As.length = np) (hst : st = As.reverse ++ rest) (hR : rmY.cells = 0 ∧ rmY.slots = 0 ∧ rmY.frames + 1 ≤ R.frames ∧ 8 + (nY + 11) + rmY.locals ≤ R.locals) (hroom : jsum rest ≤ 8) (hc : k ≤ R.cells ∧ n ≤ R.slots) (hdg : decode cc pc = .ok (.invokestatic idx, 3)) (kk : ∀ (v : Int32) (S1 : sSt), J X nL k n (pc + 3) L (vI v :: rest) Λ S1 (f v S1 = some r)) : J X nL k n pc L st Λ S (obd F f = some r) := fun h => by
  obtain ⟨v, S1, e, hf⟩ := obd_some h
  exact (jb_callSN C rI_ok (hM _ _ e) hy hs hl hn hst hR hroom hc hdg (fun _ => kk v S1) : J X nL k n pc L st Λ S (f v S1 = some r)) hf
theorem j_cNJP (C : jC X cc nL own R) {y : MethodName} {b : ByteArray} {idx np nY : Nat} {host : String} {ret : Option FieldType} {rmY : Room} {γ : Type} {F : Option Int64} {f : Int64 → Option γ} {r : γ} (As rest : List jV) (hM : ∀ v, F = some v → jM (xl X) y (Cond.code y b nY ret :: bigW) rmY (xD X) (xy X) Λ S As rJ (v, S)) (hy : jY y b nY ret np) (hs : Cond.static y ∈ bigW) (hl : (own, idx, y, host) ∈ nests) (hn : As.length = np) (hst : st = As.reverse ++ rest) (hR : rmY.cells = 0 ∧ rmY.slots = 0 ∧ rmY.frames + 1 ≤ R.frames ∧ 8 + (nY + 11) + rmY.locals ≤ R.locals) (hroom : jsum rest ≤ 8) (hc : k ≤ R.cells ∧ n ≤ R.slots) (hdg : decode cc pc = .ok (.invokestatic idx, 3)) (kk : ∀ v : Int64, J X nL k n (pc + 3) L (vJ v :: rest) Λ S (f v = some r)) : J X nL k n pc L st Λ S (F.bind f = some r) := fun h => by
  obtain ⟨v, e, hf⟩ := bind_some h
  exact (jb_callSN C rJ_ok (hM _ e) hy hs hl hn hst hR hroom hc hdg (fun _ => kk v) : J X nL k n pc L st Λ S (f v = some r)) hf
theorem j_cNJG (C : jC X cc nL own R) {y : MethodName} {b : ByteArray} {idx np nY : Nat} {host : String} {ret : Option FieldType} {rmY : Room} {γ : Type} {F : Option (Int64 × sSt)} {f : Int64 → sSt → Option γ} {r : γ} (As rest : List jV) (hM : ∀ v S1, F = some (v, S1) → jM (xl X) y (Cond.code y b nY ret :: bigW) rmY (xD X) (xy X) Λ S As rJ (v, S1)) (hy : jY y b nY ret np) (hs : Cond.static y ∈ bigW) (hl : (own, idx, y, host) ∈ nests) (hn : As.length = np) (hst : st = As.reverse ++ rest) (hR : rmY.cells = 0 ∧ rmY.slots = 0 ∧ rmY.frames + 1 ≤ R.frames ∧ 8 + (nY + 11) + rmY.locals ≤ R.locals) (hroom : jsum rest ≤ 8) (hc : k ≤ R.cells ∧ n ≤ R.slots) (hdg : decode cc pc = .ok (.invokestatic idx, 3)) (kk : ∀ (v : Int64) (S1 : sSt), J X nL k n (pc + 3) L (vJ v :: rest) Λ S1 (f v S1 = some r)) : J X nL k n pc L st Λ S (obd F f = some r) := fun h => by
  obtain ⟨v, S1, e, hf⟩ := obd_some h
  exact (jb_callSN C rJ_ok (hM _ _ e) hy hs hl hn hst hR hroom hc hdg (fun _ => kk v S1) : J X nL k n pc L st Λ S (f v S1 = some r)) hf
theorem j_cNVV (C : jC X cc nL own R) {y : MethodName} {b : ByteArray} {idx np nY : Nat} {host : String} {ret : Option FieldType} {rmY : Room} {γ : Type} {F : Option sSt} {f : sSt → Option γ} {r : γ} (As rest : List jV) (hM : ∀ S1, F = some S1 → jM (xl X) y (Cond.code y b nY ret :: bigW) rmY (xD X) (xy X) Λ S As rV ((), S1)) (hy : jY y b nY ret np) (hs : Cond.static y ∈ bigW) (hl : (own, idx, y, host) ∈ nests) (hn : As.length = np) (hst : st = As.reverse ++ rest) (hR : rmY.cells = 0 ∧ rmY.slots = 0 ∧ rmY.frames + 1 ≤ R.frames ∧ 8 + (nY + 11) + rmY.locals ≤ R.locals) (hroom : jsum rest ≤ 8) (hc : k ≤ R.cells ∧ n ≤ R.slots) (hdg : decode cc pc = .ok (.invokestatic idx, 3)) (kk : ∀ S1 : sSt, J X nL k n (pc + 3) L (rest) Λ S1 (f S1 = some r)) : J X nL k n pc L st Λ S (F.bind f = some r) := fun h => by
  obtain ⟨S1, e, hf⟩ := bind_some h
  exact (jb_callSN C rV_ok (hM _ e) hy hs hl hn hst hR hroom hc hdg (fun _ => kk S1) : J X nL k n pc L st Λ S (f S1 = some r)) hf
theorem j_cNRP (C : jC X cc nL own R) {y : MethodName} {b : ByteArray} {idx qr np nY : Nat} {host : String} {ret : Option FieldType} {rmY : Room} {γ : Type} {F : Option (Option Nat)} {f : (Option Nat) → Option γ} {r : γ} (As rest : List jV) (hM : ∀ v, F = some v → jM (xl X) y (Cond.code y b nY ret :: bigW) rmY (xD X) (xy X) Λ S As (rR qr) (v, S)) (hy : jY y b nY ret np) (hs : Cond.static y ∈ bigW) (hl : (own, idx, y, host) ∈ nests) (hn : As.length = np) (hst : st = As.reverse ++ rest) (hR : rmY.cells = 0 ∧ rmY.slots = 0 ∧ rmY.frames + 1 ≤ R.frames ∧ 8 + (nY + 11) + rmY.locals ≤ R.locals) (hroom : jsum rest ≤ 8) (hc : k ≤ R.cells ∧ n ≤ R.slots) (hdg : decode cc pc = .ok (.invokestatic idx, 3)) (kk : ∀ v : Option Nat, okK Λ qr v → J X nL k n (pc + 3) L (vR v :: rest) Λ S (f v = some r)) : J X nL k n pc L st Λ S (F.bind f = some r) := fun h => by
  obtain ⟨v, e, hf⟩ := bind_some h
  exact (jb_callSN C (rR_ok qr) (hM _ e) hy hs hl hn hst hR hroom hc hdg (fun hw => kk v hw) : J X nL k n pc L st Λ S (f v = some r)) hf
theorem j_cNRG (C : jC X cc nL own R) {y : MethodName} {b : ByteArray} {idx qr np nY : Nat} {host : String} {ret : Option FieldType} {rmY : Room} {γ : Type} {F : Option ((Option Nat) × sSt)} {f : (Option Nat) → sSt → Option γ} {r : γ} (As rest : List jV) (hM : ∀ v S1, F = some (v, S1) → jM (xl X) y (Cond.code y b nY ret :: bigW) rmY (xD X) (xy X) Λ S As (rR qr) (v, S1)) (hy : jY y b nY ret np) (hs : Cond.static y ∈ bigW) (hl : (own, idx, y, host) ∈ nests) (hn : As.length = np) (hst : st = As.reverse ++ rest) (hR : rmY.cells = 0 ∧ rmY.slots = 0 ∧ rmY.frames + 1 ≤ R.frames ∧ 8 + (nY + 11) + rmY.locals ≤ R.locals) (hroom : jsum rest ≤ 8) (hc : k ≤ R.cells ∧ n ≤ R.slots) (hdg : decode cc pc = .ok (.invokestatic idx, 3)) (kk : ∀ (v : Option Nat) (S1 : sSt), okK Λ qr v → J X nL k n (pc + 3) L (vR v :: rest) Λ S1 (f v S1 = some r)) : J X nL k n pc L st Λ S (obd F f = some r) := fun h => by
  obtain ⟨v, S1, e, hf⟩ := obd_some h
  exact (jb_callSN C (rR_ok qr) (hM _ _ e) hy hs hl hn hst hR hroom hc hdg (fun hw => kk v S1 hw) : J X nL k n pc L st Λ S (f v S1 = some r)) hf
end
