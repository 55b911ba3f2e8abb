/-! Making. -/
def lNew (Λ : sLay) (q kd len : Nat) : sLay := (Λ.1 ++ [q], va_up Λ.2.1 q kd, va_up Λ.2.2 q len)
def zF {α : Type} (z : α) (f : Nat → Nat → α) (q : Nat) : Nat → Nat → α := fun i a => if a = q then z else f i a
def zA {α : Type} (z : α) (f : Nat → Nat → α) (q : Nat) : Nat → Nat → α := fun a k => if a = q then z else f a k
def sNew (S : sSt) (q : Nat) : sSt := (zF 0 S.1 q, zF 0 S.2.1 q, zF none S.2.2.1 q, zA 0 S.2.2.2.1 q, zA 0 S.2.2.2.2.1 q, zA none S.2.2.2.2.2 q)
theorem gFI_sNew (S : sSt) (q i a : Nat) : gFI (sNew S q) i a = if a = q then 0 else gFI S i a := rfl
theorem gFJ_sNew (S : sSt) (q i a : Nat) : gFJ (sNew S q) i a = if a = q then 0 else gFJ S i a := rfl
theorem gFR_sNew (S : sSt) (q i a : Nat) : gFR (sNew S q) i a = if a = q then none else gFR S i a := rfl
theorem gAI_sNew (S : sSt) (q a k : Nat) : gAI (sNew S q) a k = if a = q then 0 else gAI S a k := rfl
theorem gAJ_sNew (S : sSt) (q a k : Nat) : gAJ (sNew S q) a k = if a = q then 0 else gAJ S a k := rfl
theorem gAR_sNew (S : sSt) (q a k : Nat) : gAR (sNew S q) a k = if a = q then none else gAR S a k := rfl
/-- the second layout holds the first -/
def lExt (Λ Λ1 : sLay) : Prop := ∀ a, a ∈ Λ.1 → a ∈ Λ1.1 ∧ Λ1.2.1 a = Λ.2.1 a ∧ Λ1.2.2 a = Λ.2.2 a
theorem lExt.rf {Λ : sLay} : lExt Λ Λ := fun _ h => ⟨h, rfl, rfl⟩
theorem lExt.tr {Λ Λ1 Λ2 : sLay} (h : lExt Λ Λ1) (h2 : lExt Λ1 Λ2) : lExt Λ Λ2 := fun a ha => ⟨(h2 a (h a ha).1).1, (h2 a (h a ha).1).2.1.trans (h a ha).2.1, (h2 a (h a ha).1).2.2.trans (h a ha).2.2⟩
theorem lExt.new {Λ : sLay} {q kd len : Nat} (hq : q ∉ Λ.1) : lExt Λ (lNew Λ q kd len) := fun a ha => by
  have hne : a ≠ q := fun e => hq (e ▸ ha)
  exact ⟨List.mem_append_left _ ha, va_up_ne _ _ hne, va_up_ne _ _ hne⟩
theorem isK.ext {Λ Λ1 : sLay} {q a : Nat} (h : lExt Λ Λ1) (ha : isK Λ q a) : isK Λ1 q a := ⟨(h a ha.1).1, (h a ha.1).2.1.trans ha.2⟩
theorem okK.ext {Λ Λ1 : sLay} {q : Nat} {x : Option Nat} (h : lExt Λ Λ1) (ha : okK Λ q x) : okK Λ1 q x := fun a e => (ha a e).ext h
theorem isK.mk {Λ : sLay} {q kd len : Nat} : isK (lNew Λ q kd len) kd q := ⟨List.mem_append_right _ (List.mem_singleton.mpr rfl), va_up_self _ _ _⟩
theorem TS.new {Λ : sLay} {S : sSt} {q kd len : Nat} (h : TS Λ S) (hq : q ∉ Λ.1) : TS (lNew Λ q kd len) (sNew S q) := by
  refine ⟨fun i a => ?_, fun a k => ?_⟩
  · rw [gFR_sNew]
    by_cases e : a = q
    · rw [if_pos e]; exact okN
    · rw [if_neg e]; exact (h.1 i a).ext (lExt.new hq)
  · rw [gAR_sNew]
    by_cases e : a = q
    · rw [if_pos e]; exact okN
    · rw [if_neg e]
      have e2 : (lNew Λ q kd len).2.1 a = Λ.2.1 a := va_up_ne _ _ e
      rw [e2]
      exact (h.2 a k).ext (lExt.new hq)
theorem ent_new_ne {cy : Nat → ClassId} {Λ : sLay} {S : sSt} {q kd len b : Nat} (hb : b ≠ q) : ent cy (lNew Λ q kd len) (sNew S q) b = ent cy Λ S b := by
  have e1 : (lNew Λ q kd len).2.1 b = Λ.2.1 b := va_up_ne _ _ hb
  have e2 : (lNew Λ q kd len).2.2 b = Λ.2.2 b := va_up_ne _ _ hb
  have f1 : ∀ j, gFI (sNew S q) j b = gFI S j b := fun j => by rw [gFI_sNew, if_neg hb]
  have f2 : ∀ j, gFJ (sNew S q) j b = gFJ S j b := fun j => by rw [gFJ_sNew, if_neg hb]
  have f3 : ∀ j, gFR (sNew S q) j b = gFR S j b := fun j => by rw [gFR_sNew, if_neg hb]
  have f4 : gAI (sNew S q) b = gAI S b := by funext j; rw [gAI_sNew, if_neg hb]
  have f5 : gAJ (sNew S q) b = gAJ S b := by funext j; rw [gAJ_sNew, if_neg hb]
  have f6 : gAR (sNew S q) b = gAR S b := by funext j; rw [gAR_sNew, if_neg hb]
  simp only [ent, e1, e2, f1, f2, f3, f4, f5, f6]
theorem pool_push {cy : Nat → ClassId} {Λ : sLay} {S : sSt} {q kd len : Nat} {e : va_E} (hq : q ∉ Λ.1) (he : ent cy (lNew Λ q kd len) (sNew S q) q = e) : pool cy Λ S ++ [(q, e)] = pool cy (lNew Λ q kd len) (sNew S q) := by
  refine Eq.trans (va_pl_push hq) ?_
  show va_pl (Λ.1 ++ [q]) (va_up (ent cy Λ S) q e) = va_pl (Λ.1 ++ [q]) (ent cy (lNew Λ q kd len) (sNew S q))
  refine va_pl_congr fun b => ?_
  by_cases hb : b = q
  · rw [hb, va_up_self, he]
  · rw [va_up_ne _ _ hb, ent_new_ne hb]
theorem pool_fresh {cy : Nat → ClassId} {Λ : sLay} {S : sSt} {A : Nat → Prop} {q : Nat} {e : va_E} (h : va_D A (pool cy Λ S ++ [(q, e)])) : q ∉ Λ.1 := by
  intro hq
  obtain ⟨k, hk⟩ := pool_get (cy := cy) S hq
  have hl : k < (pool cy Λ S).length := (List.getElem?_eq_some_iff.mp hk).1
  have h1 : (pool cy Λ S ++ [(q, e)])[k]? = some (q, ent cy Λ S q) := by rw [List.getElem?_append_left hl]; exact hk
  have h2 : (pool cy Λ S ++ [(q, e)])[(pool cy Λ S).length]? = some (q, e) := by rw [List.getElem?_append_right (Nat.le_refl _)]; simp
  have h3 := h.1 _ _ _ _ h1 h2 rfl
  omega
/-- an object as it is made -/
def jDef (ci N : Nat) (ty : Nat → FieldType) : Prop := ∀ (cy : Nat → ClassId) (Λ : sLay) (S : sSt) (q : Nat), ∃ fs, ent cy (lNew Λ q ci 0) (sNew S q) q = .inr (ci, fs) ∧ ∀ j, j < N → defaultValue (ty j) = vp_V fs j
section
variable {X : jX} {cc : ByteArray} {nL k n pc : Nat} {own : String} {R : Room} {L L' : List (Nat × jV)} {st : List jV} {Λ : sLay} {S : sSt} {φ φ1 φ2 : Prop}
theorem jb_new (C : jC X cc nL own R) {ci idx N : Nat} {Cn : String} {T : u_T} {ty : Nat → FieldType} (hk : jK ci Cn T N ty) (hl : Cond.classLink own idx Cn ∈ bigW) (hi : Cond.instantiable Cn N ∈ bigW) (hn : Cond.initialized Cn ∈ bigW) (hd : jDef ci N ty) (hc : k + 1 ≤ R.cells ∧ n + N ≤ R.slots) (hdg : decode cc pc = .ok (.new idx, 3)) (kk : ∀ q, q ∉ Λ.1 → J X nL (k + 1) (n + N) (pc + 3) L (vR (some q) :: st) (lNew Λ q ci 0) (sNew S q) φ) : J X nL k n pc L st Λ S φ := by
  intro h hT H locs ls hP hD hS hv
  have hR' : xR X = R := C.2.2.2.2.2.2.2.1
  obtain ⟨fs, -, hfs⟩ := hd (xy X) Λ S 0
  refine va_new C.1 C.2.1 C.2.2.2.2.1 hk.2.1 ty hk.2.2.1 C.2.2.2.1 (C.2.2.2.2.1 _ hl) (C.2.2.2.2.1 _ hi) (C.2.2.2.2.1 _ hn) C.2.2.2.2.2.1 hP hD hS C.2.2.2.2.2.2.1 hk.1 hfs (by rw [hR']; exact hc.1) (by rw [hR']; exact hc.2) hdg (fun q H1 hP1 hD1 hS1 => ?_)
  have hq := pool_fresh hD1
  obtain ⟨fs2, e2, hfs2⟩ := hd (xy X) Λ S q
  have hP2 : va_P (xD X) cls (pool (xy X) (lNew Λ q ci 0) (sNew S q)) H1 := by
    rw [← pool_push hq e2]
    intro kq x hx
    by_cases hlt : kq < (pool (xy X) Λ S).length
    · rw [List.getElem?_append_left hlt] at hx
      exact hP1 kq x (by rw [List.getElem?_append_left hlt]; exact hx)
    · have hx2 := hx
      rw [List.getElem?_append_right (by omega)] at hx
      have hz : kq - (pool (xy X) Λ S).length < 1 := (List.getElem?_eq_some_iff.mp hx).1
      rw [show kq - (pool (xy X) Λ S).length = 0 by omega] at hx
      cases hx
      have h1 := hP1 kq (q, .inr (ci, fs)) (by rw [List.getElem?_append_right (by omega), show kq - (pool (xy X) Λ S).length = 0 by omega]; rfl)
      obtain ⟨r, hr, ho⟩ := h1
      have hr2 : r = (Cn, T, N) := Option.some.inj (hr.symm.trans hk.1)
      subst hr2
      exact ⟨(Cn, T, N), hk.1, ho.to (fun j hj => by rw [← hfs j hj, hfs2 j hj])⟩
  have hD2 : va_D (xA X) (pool (xy X) (lNew Λ q ci 0) (sNew S q)) := by
    rw [← pool_push hq e2]
    refine ⟨fun i j p r hi hj e => ?_, fun kq r hr => ?_⟩
    · have t : ∀ (kq : Nat) (x : Nat × va_E), (pool (xy X) Λ S ++ [(q, Sum.inr (ci, fs2))])[kq]? = some x → ∃ z, (pool (xy X) Λ S ++ [(q, Sum.inr (ci, fs))])[kq]? = some (x.1, z) := by
        intro kq x hx
        by_cases hlt : kq < (pool (xy X) Λ S).length
        · rw [List.getElem?_append_left hlt] at hx ⊢
          exact ⟨x.2, hx⟩
        · rw [List.getElem?_append_right (by omega)] at hx ⊢
          have hz : kq - (pool (xy X) Λ S).length < 1 := (List.getElem?_eq_some_iff.mp hx).1
          rw [show kq - (pool (xy X) Λ S).length = 0 by omega] at hx ⊢
          cases hx
          exact ⟨_, rfl⟩
      obtain ⟨z1, h1⟩ := t i p hi
      obtain ⟨z2, h2⟩ := t j r hj
      exact hD1.1 i j _ _ h1 h2 e
    · by_cases hlt : kq < (pool (xy X) Λ S).length
      · rw [List.getElem?_append_left hlt] at hr
        exact hD.2 kq r hr
      · rw [List.getElem?_append_right (by omega)] at hr
        have hz : kq - (pool (xy X) Λ S).length < 1 := (List.getElem?_eq_some_iff.mp hr).1
        rw [show kq - (pool (xy X) Λ S).length = 0 by omega] at hr
        cases hr
        exact hD1.2 (pool (xy X) Λ S).length (q, .inr (ci, fs)) (by rw [List.getElem?_append_right (Nat.le_refl _)]; simp)
  exact kk q hq h (hT.new hq) H1 locs ls hP2 hD2 hS1 hv
/-- an array is made: a0 is what lies there at first -/
theorem jb_newarr {H1 : Heap} {locs : List Loc} {ls : Array Slot} {q kd len : Nat} {cA : ClassId} {a0 : vp_A} {ty : FieldType} {pc1 : Nat} (C : jC X cc nL own R) (t0 : Nat) (ht0 : (tys (xy X))[t0]? = some (xy X t0, ty)) (he : ent (xy X) (lNew Λ q kd len) (sNew S q) q = .inl (xy X t0, a0)) (hT : TS Λ S) (hK1 : va_K (xD X) cls (tys (xy X) ++ [(cA, ty)]) (xs X)) (hP1 : va_P (xD X) cls (pool (xy X) Λ S ++ [(q, .inl (cA, a0))]) H1) (hD1 : va_D (xA X) (pool (xy X) Λ S ++ [(q, .inl (cA, a0))])) (hS1 : va_S (xA X) (xH X) H1 locs) (hv : lv_has ls nL (jL L)) (hu : va_RA (xs X) cA ty → va_RA (xs X) (xy X t0) ty → cA = xy X t0)
    (kk : q ∉ Λ.1 → J X nL k n pc1 L (vR (some q) :: st) (lNew Λ q kd len) (sNew S q) φ) (h : φ) : jW X H1 locs k n (F0 (xm X) pc1 ls ((vR (some q) :: st).map jv)) := by
  have hq := pool_fresh hD1
  have e1 : (tys (xy X) ++ [(cA, ty)])[5]? = some (cA, ty) := rfl
  have e2 : (tys (xy X) ++ [(cA, ty)])[t0]? = some (xy X t0, ty) := by
    have hl := (List.getElem?_eq_some_iff.mp ht0).1
    rw [List.getElem?_append_left hl]; exact ht0
  have e3 : cA = xy X t0 := hu (hK1.2 5 _ e1).2 (hK1.2 t0 _ e2).2
  subst e3
  rw [pool_push hq he] at hP1 hD1
  exact kk hq h (hT.new hq) H1 locs ls hP1 hD1 hS1 hv
theorem jb_newI (C : jC X cc nL own R) {x : Int32} {len : Nat} (hw : Cond.arrayClass .int ∈ bigW) (hx : ¬ x < 0) (hlen : x.toNatClampNeg = len) (hb : len * 4 ≤ 536870912) (hc : k + 1 ≤ R.cells ∧ n + len ≤ R.slots) (hdg : decode cc pc = .ok (.newarray .int, 2)) (kk : ∀ q, q ∉ Λ.1 → J X nL (k + 1) (n + len) (pc + 2) L (vR (some q) :: st) (lNew Λ q 10 len) (sNew S q) φ) : J X nL k n pc L (vI x :: st) Λ S φ := by
  intro h hT H locs ls hP hD hS hv
  have hR' : xR X = R := C.2.2.2.2.2.2.2.1
  refine va_newa (atype := .int) (ty := .int) (a0 := (len, .inl (fun _ => 0))) C.1 C.2.1 (C.2.2.2.2.1 _ hw) rfl C.2.2.2.2.2.1 hP hD hS C.2.2.2.2.2.2.1 (fun _ => rfl) hx hlen hb (by rw [hR']; exact hc.1) (by rw [hR']; exact hc.2) hdg (fun q cA H1 hK1 hP1 hD1 hS1 => ?_)
  exact jb_newarr C 0 rfl (by rw [ent_10 (va_up_self _ _ _)]; exact congrArg (fun z => Sum.inl (xy X 0, z)) (Prod.ext (va_up_self _ _ _) (congrArg Sum.inl (by funext j; rw [gAI_sNew, if_pos rfl])))) hT hK1 hP1 hD1 hS1 hv (fun h1 h2 => Option.some.inj (h1.symm.trans h2)) (kk q) h
theorem jb_newJ (C : jC X cc nL own R) {x : Int32} {len : Nat} (hw : Cond.arrayClass .long ∈ bigW) (hx : ¬ x < 0) (hlen : x.toNatClampNeg = len) (hb : len * 8 ≤ 536870912) (hc : k + 1 ≤ R.cells ∧ n + len ≤ R.slots) (hdg : decode cc pc = .ok (.newarray .long, 2)) (kk : ∀ q, q ∉ Λ.1 → J X nL (k + 1) (n + len) (pc + 2) L (vR (some q) :: st) (lNew Λ q 11 len) (sNew S q) φ) : J X nL k n pc L (vI x :: st) Λ S φ := by
  intro h hT H locs ls hP hD hS hv
  have hR' : xR X = R := C.2.2.2.2.2.2.2.1
  refine va_newa (atype := .long) (ty := .long) (a0 := (len, .inr (.inl (fun _ => 0)))) C.1 C.2.1 (C.2.2.2.2.1 _ hw) rfl C.2.2.2.2.2.1 hP hD hS C.2.2.2.2.2.2.1 (fun _ => rfl) hx hlen hb (by rw [hR']; exact hc.1) (by rw [hR']; exact hc.2) hdg (fun q cA H1 hK1 hP1 hD1 hS1 => ?_)
  exact jb_newarr C 1 rfl (by rw [ent_11 (va_up_self _ _ _)]; exact congrArg (fun z => Sum.inl (xy X 1, z)) (Prod.ext (va_up_self _ _ _) (congrArg (fun z => Sum.inr (Sum.inl z)) (by funext j; rw [gAJ_sNew, if_pos rfl])))) hT hK1 hP1 hD1 hS1 hv (fun h1 h2 => Option.some.inj (h1.symm.trans h2)) (kk q) h
theorem jb_newZ (C : jC X cc nL own R) {x : Int32} {len : Nat} (hw : Cond.arrayClass .boolean ∈ bigW) (hx : ¬ x < 0) (hlen : x.toNatClampNeg = len) (hb : len * 1 ≤ 536870912) (hc : k + 1 ≤ R.cells ∧ n + len ≤ R.slots) (hdg : decode cc pc = .ok (.newarray .boolean, 2)) (kk : ∀ q, q ∉ Λ.1 → J X nL (k + 1) (n + len) (pc + 2) L (vR (some q) :: st) (lNew Λ q 12 len) (sNew S q) φ) : J X nL k n pc L (vI x :: st) Λ S φ := by
  intro h hT H locs ls hP hD hS hv
  have hR' : xR X = R := C.2.2.2.2.2.2.2.1
  refine va_newa (atype := .boolean) (ty := .boolean) (a0 := (len, .inl (fun _ => 0))) C.1 C.2.1 (C.2.2.2.2.1 _ hw) rfl C.2.2.2.2.2.1 hP hD hS C.2.2.2.2.2.2.1 (fun _ => rfl) hx hlen hb (by rw [hR']; exact hc.1) (by rw [hR']; exact hc.2) hdg (fun q cA H1 hK1 hP1 hD1 hS1 => ?_)
  exact jb_newarr C 2 rfl (by rw [ent_12 (va_up_self _ _ _)]; exact congrArg (fun z => Sum.inl (xy X 2, z)) (Prod.ext (va_up_self _ _ _) (congrArg Sum.inl (by funext j; rw [gAI_sNew, if_pos rfl])))) hT hK1 hP1 hD1 hS1 hv (fun h1 h2 => Option.some.inj (h1.symm.trans h2)) (kk q) h
theorem va_RA_obj {s : State} {C : String} {c1 c2 : ClassId} (h1 : va_RA s c1 (.object C)) (h2 : va_RA s c2 (.object C)) : c1 = c2 := by
  obtain ⟨_, _, _, _, _, e1⟩ := h1
  obtain ⟨_, _, _, _, _, e2⟩ := h2
  exact Option.some.inj (e1.symm.trans e2)
theorem jb_newT (C : jC X cc nL own R) {x : Int32} {idx len : Nat} (hl : Cond.classLink own idx RX5 ∈ bigW) (hx : ¬ x < 0) (hlen : x.toNatClampNeg = len) (hb : len * 4 ≤ 536870912) (hc : k + 1 ≤ R.cells ∧ n + len ≤ R.slots) (hdg : decode cc pc = .ok (.anewarray idx, 3)) (kk : ∀ q, q ∉ Λ.1 → J X nL (k + 1) (n + len) (pc + 3) L (vR (some q) :: st) (lNew Λ q 13 len) (sNew S q) φ) : J X nL k n pc L (vI x :: st) Λ S φ := by
  intro h hT H locs ls hP hD hS hv
  have hR' : xR X = R := C.2.2.2.2.2.2.2.1
  refine va_newq C.1 C.2.1 C.2.2.2.1 (C.2.2.2.2.1 _ hl) C.2.2.2.2.2.2.2.2.2.1 C.2.2.2.2.2.1 hP hD hS C.2.2.2.2.2.2.1 hx hlen hb (by rw [hR']; exact hc.1) (by rw [hR']; exact hc.2) hdg (fun q cA H1 hK1 hP1 hD1 hS1 => ?_)
  exact jb_newarr C 3 rfl (by rw [ent_13 (va_up_self _ _ _)]; exact congrArg (fun z => Sum.inl (xy X 3, z)) (Prod.ext (va_up_self _ _ _) (congrArg (fun z => Sum.inr (Sum.inr (Sum.inr (Sum.inr z)))) (by funext j; rw [gAR_sNew, if_pos rfl])))) hT hK1 hP1 hD1 hS1 hv va_RA_obj (kk q) h
theorem jb_newU (C : jC X cc nL own R) {x : Int32} {idx len : Nat} (hl : Cond.classLink own idx RX6 ∈ bigW) (hx : ¬ x < 0) (hlen : x.toNatClampNeg = len) (hb : len * 4 ≤ 536870912) (hc : k + 1 ≤ R.cells ∧ n + len ≤ R.slots) (hdg : decode cc pc = .ok (.anewarray idx, 3)) (kk : ∀ q, q ∉ Λ.1 → J X nL (k + 1) (n + len) (pc + 3) L (vR (some q) :: st) (lNew Λ q 14 len) (sNew S q) φ) : J X nL k n pc L (vI x :: st) Λ S φ := by
  intro h hT H locs ls hP hD hS hv
  have hR' : xR X = R := C.2.2.2.2.2.2.2.1
  refine va_newq C.1 C.2.1 C.2.2.2.1 (C.2.2.2.2.1 _ hl) C.2.2.2.2.2.2.2.2.2.2 C.2.2.2.2.2.1 hP hD hS C.2.2.2.2.2.2.1 hx hlen hb (by rw [hR']; exact hc.1) (by rw [hR']; exact hc.2) hdg (fun q cA H1 hK1 hP1 hD1 hS1 => ?_)
  exact jb_newarr C 4 rfl (by rw [ent_14 (va_up_self _ _ _)]; exact congrArg (fun z => Sum.inl (xy X 4, z)) (Prod.ext (va_up_self _ _ _) (congrArg (fun z => Sum.inr (Sum.inr (Sum.inr (Sum.inr z)))) (by funext j; rw [gAR_sNew, if_pos rfl])))) hT hK1 hP1 hD1 hS1 hv va_RA_obj (kk q) h
/-! final fields, in a constructor -/
theorem jb_putFI (C : jC X cc nL own R) {ci kf i idx N a : Nat} {Cn : String} {T : u_T} {ty : Nat → FieldType} {v : Int32} (hk : jK ci Cn T N ty) (hf : jFI (xy X) ci kf i) (hl : Cond.fieldLink own idx (T kf).1 (T kf).2.1 (T kf).2.2.1 ∈ bigW) (hkf : kf < N) (hfin : (T kf).2.2.2 = true) (hin : (xt X).name = "<init>") (hdc : (T kf).1 = own) (hn : narrow (ty kf) (.int v) = .int v) (hft : fits (ty kf) (.int v) = true) (ha : isK Λ ci a) (hdg : decode cc pc = .ok (.putfield idx, 3)) (kk : J X nL k n (pc + 3) L st Λ (sFI S i a v) φ) : J X nL k n pc L (vI v :: vR (some a) :: st) Λ S φ := by
  intro h hT H locs ls hP hD hS hv
  obtain ⟨fs, h1, h2, h3⟩ := hf Λ S a ha.2
  obtain ⟨q0, hq0⟩ := pool_get (cy := xy X) S ha.1
  have hq := hq0
  rw [h1] at hq
  refine va_putF (v := .int v) C.1 C.2.1 C.2.2.2.2.1 hk.2.1 ty hk.2.2.1 hk.2.2.2 C.2.2.2.1 C.2.2.2.2.2.1 hP hD hS q0 hq hk.1 kf hkf (C.2.2.2.2.1 _ hl) (fun _ h => h) hfin hin hdc (hk.2.2.1 kf hkf) hn hft (h3 v).1 hdg (fun H1 locs1 hP1 hD1 hS1 => ?_)
  rw [pool_set hD ha.1 hq0 (h3 v).2 (fun b hb => ent_sFI_ne hb)] at hP1 hD1
  exact kk h (hT.sFI i a v) H1 locs1 ls hP1 hD1 hS1 hv
theorem jb_putFR (C : jC X cc nL own R) {ci kf i idx N a b : Nat} {Cn : String} {T : u_T} {ty : Nat → FieldType} (hk : jK ci Cn T N ty) (hf : jFR (xy X) ci kf i) (hl : Cond.fieldLink own idx (T kf).1 (T kf).2.1 (T kf).2.2.1 ∈ bigW) (hkf : kf < N) (hfin : (T kf).2.2.2 = true) (hin : (xt X).name = "<init>") (hdc : (T kf).1 = own) (hn : narrow (ty kf) (.ref b) = .ref b) (hft : fits (ty kf) (.ref b) = true) (ha : isK Λ ci a) (hb : isK Λ (rk i) b) (hdg : decode cc pc = .ok (.putfield idx, 3)) (kk : J X nL k n (pc + 3) L st Λ (sFR S i a (some b)) φ) : J X nL k n pc L (vR (some b) :: vR (some a) :: st) Λ S φ := by
  intro h hT H locs ls hP hD hS hv
  obtain ⟨fs, h1, h2, h3⟩ := hf Λ S a ha.2
  obtain ⟨q0, hq0⟩ := pool_get (cy := xy X) S ha.1
  have hq := hq0
  rw [h1] at hq
  refine va_putF (v := .ref b) C.1 C.2.1 C.2.2.2.2.1 hk.2.1 ty hk.2.2.1 hk.2.2.2 C.2.2.2.1 C.2.2.2.2.2.1 hP hD hS q0 hq hk.1 kf hkf (C.2.2.2.2.1 _ hl) (fun _ h => h) hfin hin hdc (hk.2.2.1 kf hkf) hn hft (h3 (some b)).1 hdg (fun H1 locs1 hP1 hD1 hS1 => ?_)
  have e4 : (pool (xy X) Λ S).set q0 (a, .inr (ci, fs.set kf (.ref b))) = pool (xy X) Λ (sFR S i a (some b)) := pool_set hD ha.1 hq0 (h3 (some b)).2 (fun b hb => ent_sFR_ne hb)
  rw [e4] at hP1 hD1
  exact kk h (hT.sFR i a _ (okS hb)) H1 locs1 ls hP1 hD1 hS1 hv
theorem jb_obj (C : jC X cc nL own R) {idx a : Nat} (hl : Cond.methodLink own idx Lib.objectInit ∈ bigW) (hi : Cond.instanceMethod Lib.objectInit ∈ bigW) (hco : Cond.code Lib.objectInit ⟨#[0xb1]⟩ 1 none ∈ bigW) (hR : 1 ≤ R.frames ∧ 20 ≤ R.locals) (hroom : jsum st ≤ 8) (hdg : decode cc pc = .ok (.invokespecial idx, 3)) (kk : J X nL k n (pc + 3) L st Λ S φ) : J X nL k n pc L (vR (some a) :: st) Λ S φ := by
  intro h hT H locs ls hP hD hS hv
  have hR' : xR X = R := C.2.2.2.2.2.2.2.1
  have hr := lv_room (m := xm X) (pc := pc) (ls := ls) (rest := ((vR (some a) :: st).map jv)) (st := st.map jv) (by rw [jsum_map]; exact hroom)
  refine W.objInit C.1 C.2.1 C.2.2.2.1 (C.2.2.2.2.1 _ hl) (C.2.2.2.2.1 _ hi) (C.2.2.2.2.1 _ hco) rfl (by rw [C.2.2.1]; exact hv.1) rfl hdg (by rw [hR']; exact hR.1) (by rw [hR']; have := hR.2; omega) ?_
  exact kk h hT H locs ls hP hD hS hv
end
/-! Contracts of methods that make: what holds of the answer, the layout and the store behind it. -/
def jQa {β : Type} (D : va_G) (cy : Nat → ClassId) (Λ : sLay) (K : jR β) (Qf : β → sLay → sSt → Prop) (A : Nat → Prop) : Array Value → State → Outcome → State → Prop := fun _ st oc t => (∃ (v : β) (Λ1 : sLay) (S1 : sSt), oc = .returned (K.1 v) ∧ Qf v Λ1 S1 ∧ lExt Λ Λ1 ∧ K.2.2 Λ1 v ∧ hB D cy Λ1 S1 A t) ∧ va_F A st t
def jMa {β : Type} (l : Launch) (y : MethodName) (ws : List Cond) (rm : Room) (D : va_G) (cy : Nat → ClassId) (Λ : sLay) (S : sSt) (As : List jV) (K : jR β) (Qf : β → sLay → sSt → Prop) (mc ms : Nat) : Prop :=
  ∀ sz : Nat, Met l y ws rm (va_Pc (As.map jv) (jPre D cy Λ S sz)) (jQa D cy Λ K Qf (va_A (pool cy Λ S) sz)) mc ms (va_A (pool cy Λ S) sz)
def jEa {β : Type} (X : jX) (ret : Option FieldType) (K : jR β) (Λ : sLay) (Qf : β → sLay → sSt → Prop) (mc ms : Nat) : Prop :=
  (xt X).sig.returnType = ret ∧ (xt X).locks = false ∧ xQ X = MQ (xb X) (jQa (xD X) (xy X) Λ K Qf (xA X)) (xa X) (xs X) mc ms (xA X) ∧ xH X = (xs X).heap ∧ ((xt X).name = (xt X).name)
section
variable {X : jX} {cc : ByteArray} {nL k n pc mc ms : Nat} {own : String} {R : Room} {L L' : List (Nat × jV)} {st : List jV} {Λ Λ0 : sLay} {S : sSt} {φ φ1 φ2 : Prop}
theorem ja_vret (C : jC X cc nL own R) {Qf : Unit → sLay → sSt → Prop} (E : jEa X none rV Λ0 Qf mc ms) (hx : lExt Λ0 Λ) (hq : Qf () Λ S) (hc : k ≤ mc ∧ n ≤ ms) (hdg : decode cc pc = .ok (.return_, 1)) : J X nL k n pc L [] Λ S φ := by
  intro h hT H locs ls hP hD hS hv
  obtain ⟨hr, hk, hQ, hH, -⟩ := E
  rw [hH] at hS
  refine W.widen hc.1 hc.2 ?_
  show W _ _ _ _ _ _ _ _ _ _ _ _ _ _ (xQ X) _
  rw [hQ]
  exact W.vret C.1 C.2.1 hr (fun t ht hW => ⟨⟨(), Λ, S, rfl, hq, hx, trivial, hB_of C hP hD hT ht hW⟩, hS.F ht⟩) hS.2.2 hdg hk
theorem ja_iret (C : jC X cc nL own R) {v : Int32} {Qf : Int32 → sLay → sSt → Prop} (E : jEa X (some .int) rI Λ0 Qf mc ms) (hx : lExt Λ0 Λ) (hq : Qf v Λ S) (hc : k ≤ mc ∧ n ≤ ms) (hdg : decode cc pc = .ok (.ireturn, 1)) : J X nL k n pc L [vI v] Λ S φ := by
  intro h hT H locs ls hP hD hS hv
  obtain ⟨hr, hk, hQ, hH, -⟩ := E
  rw [hH] at hS
  refine W.widen hc.1 hc.2 ?_
  show W _ _ _ _ _ _ _ _ _ _ _ _ _ _ (xQ X) _
  rw [hQ]
  exact W.iret (v := v) C.1 C.2.1 hr (fun t ht hW => ⟨⟨v, Λ, S, rfl, hq, hx, trivial, hB_of C hP hD hT ht hW⟩, hS.F ht⟩) hS.2.2 hdg hk
theorem ja_aret (C : jC X cc nL own R) {q : Nat} {Cn : String} {x : Option Nat} {Qf : Option Nat → sLay → sSt → Prop} (E : jEa X (some (.object Cn)) (rR q) Λ0 Qf mc ms) (hx : lExt Λ0 Λ) (hq : Qf x Λ S) (ho : okK Λ q x) (hc : k ≤ mc ∧ n ≤ ms) (hdg : decode cc pc = .ok (.areturn, 1)) : J X nL k n pc L [vR x] Λ S φ := by
  intro h hT H locs ls hP hD hS hv
  obtain ⟨hr, hk, hQ, hH, -⟩ := E
  rw [hH] at hS
  refine W.widen hc.1 hc.2 ?_
  show W _ _ _ _ _ _ _ _ _ _ _ _ _ _ (xQ X) _
  rw [hQ]
  exact W.aret (v := va_rf x) C.1 C.2.1 hr (Or.inl ⟨_, rfl⟩) (va_rf_or x) (fun t ht hW => ⟨⟨x, Λ, S, rfl, hq, hx, ho, hB_of C hP hD hT ht hW⟩, hS.F ht⟩) hS.2.2 hdg hk
theorem ja_back {β : Type} {K : jR β} {Qf : β → sLay → sSt → Prop} {rest : List jV} {st0 : List Value} {H : Heap} {locs : List Loc} {ls : Array Slot} {as : Array Value} {ln : Nat} (C : jC X cc nL own R) (hK : jRok K)
    (hr : va_Run (xp X) (xl X) (xe X) (xR X) (xs X) (xm X) (xa X) (xb X) (xt X) (xc X) H locs k n mc ms (F0 (xm X) pc ls st0) (rest.map jv) (jQa (xD X) (xy X) Λ K Qf (va_A (pool (xy X) Λ S) H.size) as) (va_A (pool (xy X) Λ S) H.size))
    (hD : va_D (xA X) (pool (xy X) Λ S)) (hS : va_S (xA X) (xH X) H locs) (hv : lv_has ls nL (jL L))
    (kk : ∀ v Λ1 S1, Qf v Λ1 S1 → lExt Λ Λ1 → K.2.2 Λ1 v → J X nL (k + mc) (n + ms) (pc + 3) L (K.2.1 v ++ rest) Λ1 S1 φ) (hφ : φ) : jW X H locs k n (F0 (xm X) pc ls st0) := by
  intro T hT X0
  obtain ⟨v, st₀, t, T', Lc, h0, X', hL, e1, e2, ⟨⟨w, Λ1, S1, hv1, hq, hx, hw, hP, hK1, hD1, hT1, hN1⟩, hz, hk⟩, stp⟩ := hr T hT X0
  cases hv1
  rw [h0] at hz hk
  have hA := pool_A hD hS C.2.2.2.2.2.2.1
  obtain ⟨t2, a1, b1⟩ := kk w Λ1 S1 hq hx hw hφ hT1 T'.heap (locs ++ Lc) ls (by rw [e1]; exact hP) (hD1.weaken (fun _ q _ h => hA _ h))
    ⟨Nat.le_trans hS.1 (by rw [e1]; exact hz), fun q h1 h2 => by rw [e1, hk q (Nat.lt_of_lt_of_le h1 hS.1) (fun z => h2 (hA q z))]; exact hS.2.1 q h1 h2, fun q hq => by
      rcases List.mem_append.mp hq with h | h
      · exact hS.2.2 q h
      · exact hA _ (hL q h)⟩ hv T' rfl X'
  refine ⟨t2, stp t2 ?_, b1⟩
  rw [hK w, ← List.map_append]
  exact a1
theorem ja_callV {β : Type} (C : jC X cc nL own R) {K : jR β} {Qf : β → sLay → sSt → Prop} {y : MethodName} {b : ByteArray} {nY np idx ci : Nat} {ret : Option FieldType} {rmY : Room} (As rest : List jV) {a : Nat} (hK : jRok K)
    (hM : jMa (xl X) y (Cond.code y b nY ret :: bigW) rmY (xD X) (xy X) Λ S (vR (some a) :: As) K Qf mc ms)
    (hy : jY y b nY ret np) (hi : jYv y) (hl : Cond.methodLink own idx y ∈ bigW) (hO : jO ci y.cls) (ha : isK Λ ci a) (hn : As.length = np) (hst : st = As.reverse ++ vR (some a) :: rest) (hR : rmY.cells = mc ∧ rmY.slots = ms ∧ rmY.frames + 1 ≤ R.frames ∧ 8 + (nY + 11) + rmY.locals ≤ R.locals) (hroom : jsum rest ≤ 8) (hc : k + mc ≤ R.cells ∧ n + ms ≤ R.slots) (hdg : decode cc pc = .ok (.invokevirtual idx, 3))
    (kk : ∀ v Λ1 S1, Qf v Λ1 S1 → lExt Λ Λ1 → K.2.2 Λ1 v → J X nL (k + mc) (n + ms) (pc + 3) L (K.2.1 v ++ rest) Λ1 S1 φ) : J X nL k n pc L st Λ S φ := by
  intro h hT H locs ls hP hD hS hv
  subst hst
  obtain ⟨T, N, hcl, hent⟩ := hO
  obtain ⟨fs, hfs⟩ := hent (xy X) Λ S a ha.2
  obtain ⟨q0, hq0⟩ := pool_get (cy := xy X) S ha.1
  rw [hfs] at hq0
  have hR' : xR X = R := C.2.2.2.2.2.2.2.1
  have hcw : CallW (xR X) (xs X) (xa X) own y.cls idx y b nY ret (Cond.code y b nY ret :: bigW) rmY mc ms np := by
    rw [hR']
    exact cwV np C.2.2.2.2.1 (big_V hy hi hl) rfl hR.1 hR.2.1 ⟨rfl, hy.2.2⟩ hR.2.2
  refine ja_back (ln := 0) C hK (va_runV (As := As.map jv) (rest := rest.map jv) (own := own) (C := y.cls) (b := a) ⟨C.1, C.2.1, C.2.2.1, C.2.2.2.1, C.2.2.2.2.1⟩ (hM H.size) hcw ⟨jPre_blind, va_recv C.2.2.2.2.2.1 hP hcl hq0, fun U hU hW => ⟨rfl, jPre_of C hP hD hT U hU hW⟩⟩ rfl (by simpa using hn) hv.1 (by simp [List.map_append, List.map_reverse, jv, va_rf]) (lv_room (by rw [jsum_map]; exact hroom)) hdg (by rw [hR']; exact hc)) hD hS hv kk h
theorem ja_callI {β : Type} (C : jC X cc nL own R) {K : jR β} {Qf : β → sLay → sSt → Prop} {y : MethodName} {b : ByteArray} {nY np idx : Nat} {rmY : Room} (As rest : List jV) {a : Nat} (hK : jRok K)
    (hM : jMa (xl X) y (Cond.code y b nY none :: bigW) rmY (xD X) (xy X) Λ S (vR (some a) :: As) K Qf mc ms)
    (hy : jY y b nY none np) (hi : Cond.instanceMethod y ∈ bigW) (hl : Cond.methodLink own idx y ∈ bigW) (hnm : y.name = "<init>") (hn : As.length = np) (hst : st = As.reverse ++ vR (some a) :: rest) (hR : rmY.cells = mc ∧ rmY.slots = ms ∧ rmY.frames + 1 ≤ R.frames ∧ 8 + (nY + 11) + rmY.locals ≤ R.locals) (hroom : jsum rest ≤ 8) (hc : k + mc ≤ R.cells ∧ n + ms ≤ R.slots) (hdg : decode cc pc = .ok (.invokespecial idx, 3))
    (kk : ∀ v Λ1 S1, Qf v Λ1 S1 → lExt Λ Λ1 → K.2.2 Λ1 v → J X nL (k + mc) (n + ms) (pc + 3) L (K.2.1 v ++ rest) Λ1 S1 φ) : J X nL k n pc L st Λ S φ := by
  intro h hT H locs ls hP hD hS hv
  subst hst
  have hR' : xR X = R := C.2.2.2.2.2.2.2.1
  have hcw : CallB (xR X) (xs X) (xa X) own idx y b nY none (Cond.code y b nY none :: bigW) rmY mc ms np ∧ y.name = "<init>" ∧ (Cond.instanceMethod y).before (xa X) (xs X) = true := by
    rw [hR']
    exact cwI np C.2.2.2.2.1 (big_code hy) rfl hR.1 hR.2.1 (C.2.2.2.2.1 _ hy.2.1) (C.2.2.2.2.1 _ hl) (C.2.2.2.2.1 _ hi) hnm hy.2.2 hR.2.2
  refine ja_back (ln := 0) C hK (va_runI (As := As.map jv) (rest := rest.map jv) (own := own) (b := a) ⟨C.1, C.2.1, C.2.2.1, C.2.2.2.1, C.2.2.2.2.1⟩ (hM H.size) hcw ⟨jPre_blind, fun U hU hW => ⟨rfl, jPre_of C hP hD hT U hU hW⟩⟩ rfl (by simpa using hn) hv.1 (by simp [List.map_append, List.map_reverse, jv, va_rf]) (lv_room (by rw [jsum_map]; exact hroom)) hdg (by rw [hR']; exact hc)) hD hS hv kk h
end
theorem jMa_of {β : Type} {l : Launch} {y : MethodName} {cc : ByteArray} {nL mc ms : Nat} {ret : Option FieldType} {rm : Room} {D : va_G} {cy : Nat → ClassId} {Λ : sLay} {S : sSt} {As : List jV} {K : jR β} {Qf : β → sLay → sSt → Prop}
    (hy : plainName y.cls = true) (hlen : jlen As ≤ nL)
    (hJ : ∀ X : jX, jC X cc nL y.cls rm → jEa X ret K Λ Qf mc ms → (xt X).name = y.name → J X nL 0 0 0 (jargs 0 As) [] Λ S True) : jMa l y (Cond.code y cc nL ret :: bigW) rm D cy Λ S As K Qf mc ms := by
  intro sz
  refine Met.ofW (cc := cc) (maxL := nL) (ret := ret) hy rfl ?_
  intro p e s m args below meth c s₁ B hml hv
  obtain ⟨rfl, hsz, hP, hK, hD0, hT, hN⟩ := hv
  have hts := atoms_spec (ws := Cond.code y cc nL ret :: bigW) B.pre
  subst hsz
  let X : jX := (p, l, e, (headSpec (Cond.code y cc nL ret :: bigW) rm).room, s, m, (As.map jv).toArray, below, meth, c, s.heap, va_A (pool cy Λ S) s.heap.size, D, cy, MQ below (jQa D cy Λ K Qf (va_A (pool cy Λ S) s.heap.size)) (As.map jv).toArray s mc ms (va_A (pool cy Λ S) s.heap.size))
  have C : jC X cc nL y.cls rm := ⟨B.exec, B.bytes, hml, findClass_of_methodNamed B.named, fun w hw => hts w (List.mem_cons_of_mem _ hw), hK, fun q h => Or.inr h, rfl, hN⟩
  have E : jEa X ret K Λ Qf mc ms := ⟨B.returns, B.notSynchronized, rfl, rfl, rfl⟩
  rw [lg_entry_eq]
  have hl := lv_entry (As.map jv) (n := nL) (by rw [jlen_sl]; exact hlen)
  rw [← jL_args] at hl
  exact hJ X C E (name_of_methodNamed B.named B.method).1 trivial hT s.heap [] _ hP hD0.self va_S.rf hl
