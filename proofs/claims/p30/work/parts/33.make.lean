/-! What the constructors lay keeps the class's shape. -/
def own (Λ : sLay) (R : List Nat) : sLay := (Λ.1.filter (fun a => decide (a ∉ R)), Λ.2)
theorem own_mem {Λ : sLay} {R : List Nat} {a : Nat} : a ∈ (own Λ R).1 ↔ a ∈ Λ.1 ∧ a ∉ R := by
  unfold own
  rw [List.mem_filter, decide_eq_true_iff]
theorem own_isK {Λ : sLay} {R : List Nat} {q a : Nat} : isK (own Λ R) q a ↔ isK Λ q a ∧ a ∉ R := by
  unfold isK
  rw [own_mem]
  exact ⟨fun h => ⟨⟨h.1.1, h.2⟩, h.1.2⟩, fun h => ⟨⟨h.1.1, h.2⟩, h.1.2⟩⟩
theorem own_new {Λ : sLay} {R : List Nat} {q kd len : Nat} (hq : q ∉ R) : own (lNew Λ q kd len) R = lNew (own Λ R) q kd len := by
  unfold own lNew
  rw [List.filter_append]
  have e : [q].filter (fun a => decide (a ∉ R)) = [q] := by
    rw [List.filter_cons_of_pos (by exact decide_eq_true hq)]
    rfl
  rw [e]
theorem own_ext {Λ Λ' : sLay} {R : List Nat} (h : lExt Λ Λ') : lExt (own Λ R) (own Λ' R) := fun a ha => by
  rw [own_mem] at ha
  exact ⟨own_mem.mpr ⟨(h a ha.1).1, ha.2⟩, (h a ha.1).2⟩
/-- the shape, but for the fields that X names; 1000: a unit's row of things -/
def ShE (X : Nat → Nat → Prop) (Λ : sLay) (S : sSt) : Prop := TL Λ S ∧ (∀ f, f ∈ refF → ∀ a, isK Λ (f / 40) a → ¬ X f a → ∃ b, gFR S f a = some b) ∧ (∀ q a, isK Λ q a → Λ.2.2 a < 2147483648) ∧ ∀ u t k, isK Λ 6 u → ¬ X 1000 u → gFR S 244 u = some t → k < Λ.2.2 t → ∃ b, gAR S t k = some b
theorem TL.new {Λ : sLay} {S : sSt} {q kd len : Nat} (h : TL Λ S) (hq : q ∉ Λ.1) : TL (lNew Λ q kd len) (sNew S q) := by
  refine ⟨fun i a ha => ?_, fun a k ha => ?_⟩
  · rw [gFR_sNew]
    by_cases e : a = q
    · rw [if_pos e]; exact okN
    · rw [if_neg e]
      have ha' : a ∈ Λ.1 := (List.mem_append.mp ha).elim id (fun z => absurd (List.mem_singleton.mp z) e)
      exact (h.1 i a ha').ext (lExt.new hq)
  · rw [gAR_sNew]
    by_cases e : a = q
    · rw [if_pos e]; exact okN
    · rw [if_neg e]
      have ha' : a ∈ Λ.1 := (List.mem_append.mp ha).elim id (fun z => absurd (List.mem_singleton.mp z) e)
      have e2 : (lNew Λ q kd len).2.1 a = Λ.2.1 a := va_up_ne _ _ e
      rw [e2]
      exact (h.2 a k ha').ext (lExt.new hq)
theorem isK.old {Λ : sLay} {q kd len f a : Nat} (h : isK (lNew Λ q kd len) f a) (e : a ≠ q) : isK Λ f a :=
  ⟨(List.mem_append.mp h.1).elim id (fun z => absurd (List.mem_singleton.mp z) e), (va_up_ne Λ.2.1 kd e).symm.trans h.2⟩
section
variable {X Y : Nat → Nat → Prop} {Λ Λ' : sLay} {S S' : sSt} {R : List Nat}
theorem ShE.new (h : ShE X Λ S) {q kd len : Nat} (hq : q ∉ Λ.1) (hl : len < 2147483648) : ShE (fun g a => X g a ∨ a = q) (lNew Λ q kd len) (sNew S q) := by
  refine ⟨h.1.new hq, fun f hf a ha hx => ?_, fun k a ha => ?_, fun u t k hu hx ht hk => ?_⟩
  · have e : a ≠ q := fun e => hx (Or.inr e)
    rw [gFR_sNew, if_neg e]
    exact h.2.1 f hf a (ha.old e) (fun z => hx (Or.inl z))
  · by_cases e : a = q
    · have e2 : (lNew Λ q kd len).2.2 a = len := by rw [e]; exact va_up_self _ _ _
      rw [e2]; exact hl
    · have e2 : (lNew Λ q kd len).2.2 a = Λ.2.2 a := va_up_ne _ _ e
      rw [e2]
      exact h.2.2.1 k a (ha.old e)
  · have e : u ≠ q := fun e => hx (Or.inr e)
    have hu' := hu.old e
    rw [gFR_sNew, if_neg e] at ht
    have tt : isK Λ 13 t := h.1.1 244 u hu'.1 t ht
    have et : t ≠ q := fun z => hq (z ▸ tt.1)
    have e2 : (lNew Λ q kd len).2.2 t = Λ.2.2 t := va_up_ne _ _ et
    rw [e2] at hk
    rw [gAR_sNew, if_neg et]
    exact h.2.2.2 u t k hu' (fun z => hx (Or.inl z)) ht hk
theorem ShE.wk (h : ShE X Λ S) (c : ∀ g a, X g a → ((g ∈ refF ∧ isK Λ (g / 40) a) ∨ (g = 1000 ∧ isK Λ 6 a)) → Y g a) : ShE Y Λ S :=
  ⟨h.1, fun f hf a ha hx => h.2.1 f hf a ha (fun z => hx (c f a z (Or.inl ⟨hf, ha⟩))), h.2.2.1, fun u t k hu hx => h.2.2.2 u t k hu (fun z => hx (c 1000 u z (Or.inr ⟨rfl, hu⟩)))⟩
theorem ShE.newA (h : ShE X Λ S) {q kd len : Nat} (hq : q ∉ Λ.1) (hl : len < 2147483648) (hk : ∀ f ∈ refF, f / 40 ≠ kd) (hk6 : kd ≠ 6) : ShE X (lNew Λ q kd len) (sNew S q) := by
  refine (h.new (kd := kd) hq hl).wk (fun g a hx hg => hx.elim id (fun e => ?_))
  have e2 : (lNew Λ q kd len).2.1 a = kd := by rw [e]; exact va_up_self _ _ _
  rcases hg with ⟨hf, ha⟩ | ⟨-, ha⟩
  · exact absurd (ha.2.symm.trans e2) (hk g hf)
  · exact absurd (e2.symm.trans ha.2) hk6
theorem ShE.fr (h : ShE X Λ S) (f : Nat) {p0 v : Nat} (hf : f ∈ refF) (hv : isK Λ (rk f) v) (h4 : f = 244 → X 1000 p0) : ShE (fun g a => X g a ∧ ¬ (g = f ∧ a = p0)) Λ (sFR S f p0 (some v)) := by
  have hf1 : f ≠ 1000 := fun e => by rw [e] at hf; exact absurd hf (by decide)
  refine ⟨h.1.sFR f p0 _ (okK.of hv), fun g hg a ha hx => ?_, h.2.2.1, fun u t k hu hx ht hk => ?_⟩
  · rw [gFR_sFR]
    by_cases c : g = f ∧ a = p0
    · rw [if_pos c]; exact ⟨v, rfl⟩
    · rw [if_neg c]
      exact h.2.1 g hg a ha (fun z => hx ⟨z, c⟩)
  · have hx' : ¬ X 1000 u := fun z => hx ⟨z, fun y => hf1 y.1.symm⟩
    rw [gFR_sFR, if_neg (fun c => hx' (by rw [c.2]; exact h4 c.1.symm))] at ht
    exact h.2.2.2 u t k hu hx' ht hk
theorem ShE.ar (h : ShE X Λ S) (t k : Nat) {v : Nat} (hv : okK Λ (ek (Λ.2.1 t)) (some v)) : ShE X Λ (sAR S t k (some v)) := ⟨h.1.sAR t k _ hv, h.2.1, h.2.2.1, fun u t' j hu hx ht hj => by
  rw [gAR_sAR]
  split
  · exact ⟨v, rfl⟩
  · exact h.2.2.2 u t' j hu hx ht hj⟩
theorem ShE.fi (h : ShE X Λ S) (i a : Nat) (v : Int32) : ShE X Λ (sFI S i a v) := h
/-- a unit's row is full -/
theorem ShE.full (h : ShE X Λ S) {q t : Nat} (e : gFR S 244 q = some t) (hf : ∀ k, k < Λ.2.2 t → ∃ b, gAR S t k = some b) : ShE (fun g a => X g a ∧ ¬ (g = 1000 ∧ a = q)) Λ S :=
  ⟨h.1, fun f hf a ha hx => h.2.1 f hf a ha (fun z => hx ⟨z, fun y => by rw [y.1] at hf; exact absurd hf (by decide)⟩), h.2.2.1, fun u t' k hu hx ht hk => by
    by_cases c : u = q
    · rw [c, e] at ht
      cases ht
      exact hf k hk
    · exact h.2.2.2 u t' k hu (fun z => hx ⟨z, fun y => c y.2⟩) ht hk⟩
theorem TL.kp (h : TL Λ S) (k : ∀ a, a ∈ Λ.1 → kpA S S' a) : TL Λ S' := ⟨fun i a ha => by rw [(k a ha).2.2.1 i]; exact h.1 i a ha, fun a j ha => by rw [(k a ha).2.2.2.2.2 j]; exact h.2 a j ha⟩
/-- what is owned is as it was -/
theorem ShE.kp (h : ShE X Λ S) (k : ∀ a, a ∈ Λ.1 → kpA S S' a) : ShE X Λ S' :=
  ⟨h.1.kp k, fun f hf a ha hx => by rw [(k a ha.1).2.2.1 f]; exact h.2.1 f hf a ha hx, h.2.2.1, fun u t j hu hx ht hj => by
    rw [(k u hu.1).2.2.1 244] at ht
    have tt : isK Λ 13 t := h.1.1 244 u hu.1 t ht
    rw [(k t tt.1).2.2.2.2.2 j]
    exact h.2.2.2 u t j hu hx ht hj⟩
theorem ShE.sh (h : ShE (fun _ _ => False) Λ S) (fz : Nat → Bool) (ρ : Nat → Nat) (Ar : Nat → Bool) (hr : RT ρ Λ S) : Sh (S, fz, ρ, Ar) Λ S := ⟨h.1, fun f hf a ha => h.2.1 f hf a ha id, h.2.2.1, fun u t k hu ht hk => h.2.2.2 u t k hu id ht hk, fun _ _ => kpA.rf, rfl, fun _ _ _ => rfl, fun _ _ _ => ⟨rfl, rfl⟩, hr, fun _ _ _ _ => ⟨fun _ => rfl, fun _ => rfl, fun _ => rfl, fun _ => rfl, fun _ => rfl⟩⟩
theorem Sh.e {Z : gZ} (h : Sh Z Λ S) : ShE (fun _ _ => False) Λ S := ⟨h.1, fun f hf a ha _ => h.2.1 f hf a ha, h.2.2.1, fun u t k hu _ ht hk => h.2.2.2.1 u t k hu ht hk⟩
end
theorem clampLt (v : Int32) : v.toNatClampNeg < 2147483648 := Int32.toNatClampNeg_lt v
section
variable {X : Nat → Nat → Prop} {Λ Λ' : sLay} {S S' : sSt} {R : List Nat} {q : Nat}
theorem own_nq (hR : ∀ a ∈ R, a ∈ Λ.1) (hq : q ∉ Λ.1) : q ∉ R := fun z => hq (hR q z)
theorem own_nm (hq : q ∉ Λ.1) : q ∉ (own Λ R).1 := fun z => hq (own_mem.mp z).1
theorem own_R {kd len : Nat} (hR : ∀ a ∈ R, a ∈ Λ.1) : ∀ a ∈ R, a ∈ (lNew Λ q kd len).1 := fun a ha => inNew (hR a ha)
theorem own_Re (hR : ∀ a ∈ R, a ∈ Λ.1) (h : lExt Λ Λ') : ∀ a ∈ R, a ∈ Λ'.1 := fun a ha => (h a (hR a ha)).1
/-- an array is made and laid into a field of p0 -/
theorem ShE.arr (h : ShE X (own Λ R) S) (hR : ∀ a ∈ R, a ∈ Λ.1) (hq : q ∉ Λ.1) {kd len f p0 : Nat} (hl : len < 2147483648) (hk : ∀ f ∈ refF, f / 40 ≠ kd) (hk6 : kd ≠ 6) (hf : f ∈ refF) (hrk : rk f = kd) (h4 : f = 244 → X 1000 p0) : ShE (fun g a => X g a ∧ ¬ (g = f ∧ a = p0)) (own (lNew Λ q kd len) R) (sFR (sNew S q) f p0 (some q)) := by
  rw [own_new (own_nq hR hq)]
  exact (h.newA (own_nm hq) hl hk hk6).fr f hf (by rw [hrk]; exact isK.mk) h4
/-- an object's own kind, and its exceptions, while it is made -/
theorem ShE.obj (h : ShE X (own Λ R) S) (hR : ∀ a ∈ R, a ∈ Λ.1) (hq : q ∉ Λ.1) (kd : Nat) : ShE (fun g a => X g a ∨ a = q) (own (lNew Λ q kd 0) R) (sNew S q) ∧ isK (own (lNew Λ q kd 0) R) kd q := by
  rw [own_new (own_nq hR hq)]
  exact ⟨h.new (own_nm hq) (by omega), isK.mk⟩
theorem N1 (h : ShE X (own Λ R) S) (hR : ∀ a ∈ R, a ∈ Λ.1) (hq : q ∉ Λ.1) {p1 : Int32} (r : R_X1_init (lNew Λ q 1 0) (sNew S q) q p1 Λ' S') : ShE X (own Λ' R) S' ∧ isK (own Λ' R) 1 q := by
  have ex := r.ext
  obtain ⟨q1, hq1, rfl, rfl⟩ := r
  obtain ⟨h1, t1⟩ := h.obj hR hq 1
  have t2 := isK.ext (own_ext (R := R) ex) t1
  refine ⟨?_, t2⟩
  refine ((h1.arr (own_R hR) hq1 (p0 := q) (f := 40) (kd := 10) (clampLt p1) (by decide) (by decide) (by decide) rfl (fun e => absurd e (by decide))).fi 41 q 0).wk (fun g a hx hg => hx.1.elim id (fun e => ?_))
  rcases hg with ⟨hf, ha⟩ | ⟨-, ha⟩
  · rw [e] at ha
    have e1 := ha.2.symm.trans t2.2
    exact absurd ⟨(by decide : ∀ g ∈ refF, g / 40 = 1 → g = 40) g hf e1, e⟩ hx.2
  · rw [e] at ha
    exact absurd (ha.2.symm.trans t2.2) (by decide)
theorem N3 (h : ShE X (own Λ R) S) (hR : ∀ a ∈ R, a ∈ Λ.1) (hq : q ∉ Λ.1) (r : R_X3_init (lNew Λ q 3 0) (sNew S q) q Λ' S') : ShE X (own Λ' R) S' ∧ isK (own Λ' R) 3 q := by
  have ex := r.ext
  obtain ⟨q1, hq1, rfl, rfl⟩ := r
  obtain ⟨h1, t1⟩ := h.obj hR hq 3
  have t2 := isK.ext (own_ext (R := R) ex) t1
  refine ⟨?_, t2⟩
  refine ((h1.arr (own_R hR) hq1 (p0 := q) (f := 120) (kd := 11) (len := 680) (by omega) (by decide) (by decide) (by decide) rfl (fun e => absurd e (by decide))).fi 121 q 0).wk (fun g a hx hg => hx.1.elim id (fun e => ?_))
  rcases hg with ⟨hf, ha⟩ | ⟨-, ha⟩
  · rw [e] at ha
    have e1 := ha.2.symm.trans t2.2
    exact absurd ⟨(by decide : ∀ g ∈ refF, g / 40 = 3 → g = 120) g hf e1, e⟩ hx.2
  · rw [e] at ha
    exact absurd (ha.2.symm.trans t2.2) (by decide)
theorem N5 (h : ShE X (own Λ R) S) (hR : ∀ a ∈ R, a ∈ Λ.1) (hq : q ∉ Λ.1) {p1 : Int32} (r : R_X5_init (lNew Λ q 5 0) (sNew S q) q p1 Λ' S') : ShE X (own Λ' R) S' ∧ isK (own Λ' R) 5 q := by
  have ex := r.ext
  obtain ⟨q1, hq1, Λ6, S7, r1, rfl, rfl⟩ := r
  obtain ⟨h1, t1⟩ := h.obj hR hq 5
  have t2 := isK.ext (own_ext (R := R) ex) t1
  obtain ⟨h2, t3⟩ := N1 (h1.fi 200 q p1) (own_R hR) hq1 r1
  refine ⟨(h2.fr 201 (p0 := q) (by decide) t3 (fun e => absurd e (by decide))).wk (fun g a hx hg => hx.1.elim id (fun e => ?_)), t2⟩
  rcases hg with ⟨hf, ha⟩ | ⟨-, ha⟩
  · rw [e] at ha
    have e1 := ha.2.symm.trans t2.2
    exact absurd ⟨(by decide : ∀ g ∈ refF, g / 40 = 5 → g = 201) g hf e1, e⟩ hx.2
  · rw [e] at ha
    exact absurd (ha.2.symm.trans t2.2) (by decide)
end
theorem R_T.ext {t : Nat} {p1 : Int32} : ∀ (j i : Nat) {Λ Λ' : sLay} {S S' : sSt}, R_T t p1 j i Λ S Λ' S' → lExt Λ Λ' := by
  intro j
  induction j with
  | zero => intro i Λ Λ' S S' h; obtain ⟨rfl, rfl⟩ := h; exact lExt.rf
  | succ j ih =>
    intro i Λ Λ' S S' h
    obtain ⟨q, hq, Λ2, S2, r, rt⟩ := h
    exact (lExt.new hq).tr (r.ext.tr (ih _ rt))
theorem R_T.kp {t a : Nat} {p1 : Int32} (hn : a ≠ t) : ∀ (j i : Nat) {Λ Λ' : sLay} {S S' : sSt}, R_T t p1 j i Λ S Λ' S' → a ∈ Λ.1 → kpA S S' a := by
  intro j
  induction j with
  | zero => intro i Λ Λ' S S' h ha; obtain ⟨rfl, rfl⟩ := h; exact kpA.rf
  | succ j ih =>
    intro i Λ Λ' S S' h ha
    obtain ⟨q, hq, Λ2, S2, r, rt⟩ := h
    exact (kpA.new (ne_fresh ha hq)).tr ((r.kp (inNew ha) (ne_fresh ha hq)).tr ((kpA.sAR hn).tr (ih _ rt (r.ext a (inNew ha)).1)))
theorem R_X6_init.ext {Λ Λ' : sLay} {S S' : sSt} {p0 : Nat} {p1 : Int32} (h : R_X6_init Λ S p0 p1 Λ' S') : lExt Λ Λ' := by
  obtain ⟨q1, hq1, Λ6, S7, r1, q13, hq13, Λ18, S19, r2, q25, hq25, Λ30, S31, r3, q37, hq37, Λ50, S50, rt, q101, hq101, Λ106, S107, r5, rfl, rfl⟩ := h
  exact (lExt.new hq1).tr (r1.ext.tr ((lExt.new hq13).tr (r2.ext.tr ((lExt.new hq25).tr (r3.ext.tr ((lExt.new hq37).tr ((R_T.ext _ _ rt).tr ((lExt.new hq101).tr r5.ext))))))))
theorem R_X6_init.kp {Λ Λ' : sLay} {S S' : sSt} {p0 : Nat} {p1 : Int32} (h : R_X6_init Λ S p0 p1 Λ' S') {a : Nat} (ha : a ∈ Λ.1) (hp : a ≠ p0) : kpA S S' a := by
  obtain ⟨q1, hq1, Λ6, S7, r1, q13, hq13, Λ18, S19, r2, q25, hq25, Λ30, S31, r3, q37, hq37, Λ50, S50, rt, q101, hq101, Λ106, S107, r5, rfl, rfl⟩ := h
  have a6 : a ∈ Λ6.1 := (r1.ext a (inNew ha)).1
  have a18 : a ∈ Λ18.1 := (r2.ext a (inNew a6)).1
  have a30 : a ∈ Λ30.1 := (r3.ext a (inNew a18)).1
  have a50 : a ∈ Λ50.1 := (R_T.ext _ _ rt a (inNew a30)).1
  exact (kpA.sFI hp).tr ((kpA.new (ne_fresh ha hq1)).tr ((r1.kp (inNew ha) (ne_fresh ha hq1)).tr ((kpA.sFR hp).tr ((kpA.new (ne_fresh a6 hq13)).tr ((r2.kp (inNew a6) (ne_fresh a6 hq13)).tr ((kpA.sFR hp).tr ((kpA.new (ne_fresh a18 hq25)).tr ((r3.kp (inNew a18) (ne_fresh a18 hq25)).tr ((kpA.sFR hp).tr ((kpA.new (ne_fresh a30 hq37)).tr ((kpA.sFR hp).tr ((R_T.kp (ne_fresh a30 hq37) _ _ rt (inNew a30)).tr ((kpA.new (ne_fresh a50 hq101)).tr ((r5.kp (inNew a50) (ne_fresh a50 hq101)).tr (kpA.sFR hp)))))))))))))))
theorem R_X6_init.at {Λ Λ' : sLay} {S S' : sSt} {p0 : Nat} {p1 : Int32} (h : R_X6_init Λ S p0 p1 Λ' S') (ha : p0 ∈ Λ.1) : gFI S' 240 p0 = p1 ∧ (∃ a, gFR S' 241 p0 = some a) ∧ ∃ a, gFR S' 242 p0 = some a := by
  obtain ⟨q1, hq1, Λ6, S7, r1, q13, hq13, Λ18, S19, r2, q25, hq25, Λ30, S31, r3, q37, hq37, Λ50, S50, rt, q101, hq101, Λ106, S107, r5, rfl, rfl⟩ := h
  have a6 : p0 ∈ Λ6.1 := (r1.ext p0 (inNew ha)).1
  have a18 : p0 ∈ Λ18.1 := (r2.ext p0 (inNew a6)).1
  have a30 : p0 ∈ Λ30.1 := (r3.ext p0 (inNew a18)).1
  have a50 : p0 ∈ Λ50.1 := (R_T.ext _ _ rt p0 (inNew a30)).1
  have k1 := (kpA.new (S := sFI S 240 p0 p1) (ne_fresh ha hq1)).tr (r1.kp (inNew ha) (ne_fresh ha hq1))
  have k2 := (kpA.new (S := sFR S7 241 p0 (some q1)) (ne_fresh a6 hq13)).tr (r2.kp (inNew a6) (ne_fresh a6 hq13))
  have k3 := (kpA.new (S := sFR S19 242 p0 (some q13)) (ne_fresh a18 hq25)).tr (r3.kp (inNew a18) (ne_fresh a18 hq25))
  have k4 := kpA.new (S := sFR S31 243 p0 (some q25)) (ne_fresh a30 hq37)
  have k5 := (R_T.kp (ne_fresh a30 hq37) _ _ rt (inNew a30)).tr ((kpA.new (ne_fresh a50 hq101)).tr (r5.kp (inNew a50) (ne_fresh a50 hq101)))
  have d : ∀ {f g : Nat} {v w : Option Nat}, ¬ f = g → (if f = g ∧ p0 = p0 then v else w) = w := fun h => if_neg (fun z => h z.1)
  refine ⟨?_, ⟨q1, ?_⟩, ⟨q13, ?_⟩⟩
  · rw [gFI_sFR, k5.1 240, gFI_sFR, k4.1 240, gFI_sFR, k3.1 240, gFI_sFR, k2.1 240, gFI_sFR, k1.1 240, gFI_sFI, if_pos ⟨rfl, rfl⟩]
  · rw [gFR_sFR, d (by decide), k5.2.2.1 241, gFR_sFR, d (by decide), k4.2.2.1 241, gFR_sFR, d (by decide), k3.2.2.1 241, gFR_sFR, d (by decide), k2.2.2.1 241, gFR_sFR, if_pos ⟨rfl, rfl⟩]
  · rw [gFR_sFR, d (by decide), k5.2.2.1 242, gFR_sFR, d (by decide), k4.2.2.1 242, gFR_sFR, d (by decide), k3.2.2.1 242, gFR_sFR, if_pos ⟨rfl, rfl⟩]
theorem start6 {N : Nat → Nat} {S : sSt} {q a1 a2 : Nat} (h1 : gFR S 241 q = some a1) (h2 : gFR S 242 q = some a2) : ∃ S3, F_X6_start N S q = some S3 ∧ (∀ f a, gFR S3 f a = gFR S f a) ∧ ∀ f a, (f = 240 ∨ f = 281 ∨ f = 361 ∨ f = 378) → gFI S3 f a = gFI S f a := by
  refine ⟨sFI (sFI (sFI (sFI (sFI (sFI (sFI S 247 q 1) 248 q 0) 249 q (-5)) 250 q 0) 245 q 0) 41 a1 0) 41 a2 0, ?_, fun _ _ => rfl, fun f a hf => ?_⟩
  · simp only [F_X6_start, bnd, F_X1_empty, gFR_sFI, h1, h2, Option.bind_some]
  · rcases hf with rfl | rfl | rfl | rfl <;> simp [gFI_sFI]
theorem NT {R : List Nat} {t : Nat} {p1 : Int32} : ∀ (j i : Nat) {X : Nat → Nat → Prop} {Λ Λ' : sLay} {S S' : sSt}, ShE X (own Λ R) S → (∀ a ∈ R, a ∈ Λ.1) → isK (own Λ R) 13 t → R_T t p1 j i Λ S Λ' S' →
    ShE X (own Λ' R) S' ∧ ∀ k, ((∃ b, gAR S t k = some b) ∨ (i ≤ k ∧ k < i + j)) → ∃ b, gAR S' t k = some b := by
  intro j
  induction j with
  | zero =>
    intro i X Λ Λ' S S' h hR ht r
    obtain ⟨rfl, rfl⟩ := r
    exact ⟨h, fun k hk => hk.elim id (fun z => by omega)⟩
  | succ j ih =>
    intro i X Λ Λ' S S' h hR ht r
    obtain ⟨q, hq, Λ2, S2, r1, r2⟩ := r
    have ex := (lExt.new (kd := 5) (len := 0) hq).tr r1.ext
    obtain ⟨h1, tq⟩ := N5 h hR hq r1
    have ht2 := isK.ext (own_ext (R := R) ex) ht
    have hk := own_isK.mp ht
    have k1 := (kpA.new (S := S) (ne_fresh hk.1.1 hq)).tr (r1.kp (inNew hk.1.1) (ne_fresh hk.1.1 hq))
    have h2 := h1.ar t i (v := q) (okK.ek ht2 (okK.of tq))
    obtain ⟨h3, hf⟩ := ih (i + 1) h2 (own_Re hR ex) ht2 r2
    refine ⟨h3, fun k hk => hf k ?_⟩
    rw [gAR_sAR]
    by_cases c : t = t ∧ k = i
    · rw [if_pos c]; exact Or.inl ⟨q, rfl⟩
    · rw [if_neg c, k1.2.2.2.2.2 k]
      rcases hk with z | z
      · exact Or.inl z
      · exact Or.inr (by have : k ≠ i := fun e => c ⟨rfl, e⟩; omega)
set_option maxHeartbeats 2000000 in
theorem N6 {X : Nat → Nat → Prop} {Λ Λ' : sLay} {S S' : sSt} {R : List Nat} {q : Nat} {p1 : Int32} (h : ShE X (own Λ R) S) (hR : ∀ a ∈ R, a ∈ Λ.1) (hq : q ∉ Λ.1) (r : R_X6_init (lNew Λ q 6 0) (sNew S q) q p1 Λ' S') : ShE X (own Λ' R) S' ∧ isK (own Λ' R) 6 q := by
  have ex := r.ext
  obtain ⟨q1, hq1, Λ6, S7, r1, q13, hq13, Λ18, S19, r2, q25, hq25, Λ30, S31, r3, q37, hq37, Λ50, S50, rt, q101, hq101, Λ106, S107, r5, rfl, rfl⟩ := r
  obtain ⟨h0, t0⟩ := h.obj hR hq 6
  have tq := isK.ext (own_ext (R := R) ex) t0
  have m0 : q ∈ (lNew Λ q 6 0).1 := (isK.mk (kd := 6) (len := 0)).1
  have x6 := (lExt.new (kd := 1) (len := 0) hq1).tr r1.ext
  have m6 : q ∈ Λ6.1 := (x6 q m0).1
  have x18 := (lExt.new (kd := 1) (len := 0) hq13).tr r2.ext
  have m18 : q ∈ Λ18.1 := (x18 q m6).1
  have x30 := (lExt.new (kd := 3) (len := 0) hq25).tr r3.ext
  have m30 : q ∈ Λ30.1 := (x30 q m18).1
  have x37 : lExt Λ30 (lNew Λ30 q37 13 10) := lExt.new hq37
  have m50 : q ∈ Λ50.1 := (R_T.ext _ _ rt q (inNew m30)).1
  have R0 := own_R (q := q) (kd := 6) (len := 0) hR
  have R6 := own_Re R0 x6
  have R18 := own_Re R6 x18
  have R30 := own_Re R18 x30
  have R37 := own_Re R30 x37
  have R50 := own_Re R37 (R_T.ext _ _ rt)
  obtain ⟨h1, t1⟩ := N1 (h0.fi 240 q p1) R0 hq1 r1
  have h2 := h1.fr 241 (p0 := q) (by decide) t1 (fun e => absurd e (by decide))
  obtain ⟨h3, t3⟩ := N1 h2 R6 hq13 r2
  have h4 := h3.fr 242 (p0 := q) (by decide) t3 (fun e => absurd e (by decide))
  obtain ⟨h5, t5⟩ := N3 h4 R18 hq25 r3
  have h6 := h5.fr 243 (p0 := q) (by decide) t5 (fun e => absurd e (by decide))
  have h7 := h6.arr R30 hq37 (p0 := q) (f := 244) (kd := 13) (len := 10) (by omega) (by decide) (by decide) (by decide) rfl (fun _ => ⟨⟨⟨Or.inr rfl, fun z => absurd z.1 (by decide)⟩, fun z => absurd z.1 (by decide)⟩, fun z => absurd z.1 (by decide)⟩)
  have t37 : isK (own (lNew Λ30 q37 13 10) R) 13 q37 := by rw [own_new (own_nq R30 hq37)]; exact isK.mk
  obtain ⟨h8, hf⟩ := NT 10 0 h7 R37 t37 rt
  obtain ⟨h9, t9⟩ := N1 h8 R50 hq101 r5
  have h10 := h9.fr 246 (p0 := q) (by decide) t9 (fun e => absurd e (by decide))
  have m37 : q37 ∈ (lNew Λ30 q37 13 10).1 := (isK.mk (kd := 13) (len := 10)).1
  have m37' : q37 ∈ Λ50.1 := (R_T.ext _ _ rt q37 m37).1
  have n37 : q ≠ q37 := ne_fresh m30 hq37
  have kq := (R_T.kp n37 _ _ rt (inNew m30)).tr ((kpA.new (ne_fresh m50 hq101)).tr (r5.kp (inNew m50) (ne_fresh m50 hq101)))
  have k37 := (kpA.new (S := S50) (ne_fresh m37' hq101)).tr (r5.kp (inNew m37') (ne_fresh m37' hq101))
  have e244 : gFR (sFR S107 246 q (some q101)) 244 q = some q37 := by
    rw [gFR_sFR, if_neg (fun z => absurd z.1 (by decide)), kq.2.2.1 244, gFR_sFR, if_pos ⟨rfl, rfl⟩]
  have x106 := (R_T.ext _ _ rt).tr ((lExt.new (kd := 1) (len := 0) hq101).tr r5.ext)
  have l37 : Λ'.2.2 q37 = 10 := (x106 q37 m37).2.2.trans (va_up_self _ _ _)
  have h11 := h10.full (q := q) (t := q37) e244 (fun k hk => by
    have hk' : k < Λ'.2.2 q37 := hk
    rw [l37] at hk'
    rw [gAR_sFR, k37.2.2.2.2.2 k]
    exact hf k (Or.inr ⟨Nat.zero_le k, by omega⟩))
  refine ⟨h11.wk (fun g a hx hg => ?_), tq⟩
  obtain ⟨⟨⟨⟨⟨⟨hx0, c1⟩, c2⟩, c3⟩, c4⟩, c5⟩, c6⟩ := hx
  refine hx0.elim id (fun e => ?_)
  rcases hg with ⟨hf, ha⟩ | ⟨hg, -⟩
  · rw [e] at ha
    have e1 := ha.2.symm.trans tq.2
    rcases (by decide : ∀ g ∈ refF, g / 40 = 6 → (g = 241 ∨ g = 242 ∨ g = 243 ∨ g = 244 ∨ g = 246)) g hf e1 with z | z | z | z | z
    · exact absurd ⟨z, e⟩ c1
    · exact absurd ⟨z, e⟩ c2
    · exact absurd ⟨z, e⟩ c3
    · exact absurd ⟨z, e⟩ c4
    · exact absurd ⟨z, e⟩ c5
  · exact absurd ⟨hg, e⟩ c6
section
variable {X : Nat → Nat → Prop} {Λ Λ' : sLay} {S S' : sSt} {R : List Nat} {q : Nat}
theorem N7 (h : ShE X (own Λ R) S) (hR : ∀ a ∈ R, a ∈ Λ.1) (hq : q ∉ Λ.1) (r : R_X7_init (lNew Λ q 7 0) (sNew S q) q Λ' S') : ShE X (own Λ' R) S' ∧ isK (own Λ' R) 7 q := by
  have ex := r.ext
  obtain ⟨q1, hq1, rfl, rfl⟩ := r
  obtain ⟨h1, t1⟩ := h.obj hR hq 7
  have t2 := isK.ext (own_ext (R := R) ex) t1
  refine ⟨?_, t2⟩
  refine ((h1.arr (own_R hR) hq1 (p0 := q) (f := 280) (kd := 14) (len := 16) (by omega) (by decide) (by decide) (by decide) rfl (fun e => absurd e (by decide))).fi 281 q 0).wk (fun g a hx hg => hx.1.elim id (fun e => ?_))
  rcases hg with ⟨hf, ha⟩ | ⟨-, ha⟩
  · rw [e] at ha
    have e1 := ha.2.symm.trans t2.2
    exact absurd ⟨(by decide : ∀ g ∈ refF, g / 40 = 7 → g = 280) g hf e1, e⟩ hx.2
  · rw [e] at ha
    exact absurd (ha.2.symm.trans t2.2) (by decide)
theorem N0 (h : ShE X (own Λ R) S) (hR : ∀ a ∈ R, a ∈ Λ.1) (hq : q ∉ Λ.1) (r : R_X0_init (lNew Λ q 0 0) (sNew S q) q Λ' S') : ShE X (own Λ' R) S' ∧ isK (own Λ' R) 0 q := by
  have ex := r.ext
  obtain ⟨q1, hq1, q6, hq6, rfl, rfl⟩ := r
  obtain ⟨h1, t1⟩ := h.obj hR hq 0
  have t2 := isK.ext (own_ext (R := R) ex) t1
  refine ⟨?_, t2⟩
  have h2 := (h1.arr (own_R hR) hq1 (p0 := q) (f := 0) (kd := 13) (len := 160) (by omega) (by decide) (by decide) (by decide) rfl (fun e => absurd e (by decide))).fi 1 q 0
  have h3 := (h2.arr (own_R (own_R hR)) hq6 (p0 := q) (f := 2) (kd := 13) (len := 160) (by omega) (by decide) (by decide) (by decide) rfl (fun e => absurd e (by decide))).fi 3 q 0
  refine h3.wk (fun g a hx hg => hx.1.1.elim id (fun e => ?_))
  rcases hg with ⟨hf, ha⟩ | ⟨-, ha⟩
  · rw [e] at ha
    have e1 := ha.2.symm.trans t2.2
    rcases (by decide : ∀ g ∈ refF, g / 40 = 0 → (g = 0 ∨ g = 2)) g hf e1 with z | z
    · exact absurd ⟨z, e⟩ hx.1.2
    · exact absurd ⟨z, e⟩ hx.2
  · rw [e] at ha
    exact absurd (ha.2.symm.trans t2.2) (by decide)
theorem N4 (h : ShE X (own Λ R) S) (hR : ∀ a ∈ R, a ∈ Λ.1) (hq : q ∉ Λ.1) (r : R_X4_init (lNew Λ q 4 0) (sNew S q) q Λ' S') : ShE X (own Λ' R) S' ∧ isK (own Λ' R) 4 q := by
  have ex := r.ext
  obtain ⟨q1, hq1, Λ6, S7, r1, q13, hq13, Λ18, S19, r2, rfl, rfl⟩ := r
  obtain ⟨h0, t0⟩ := h.obj hR hq 4
  have t2 := isK.ext (own_ext (R := R) ex) t0
  have R0 := own_R (q := q) (kd := 4) (len := 0) hR
  have R6 := own_Re R0 ((lExt.new (kd := 3) (len := 0) hq1).tr r1.ext)
  obtain ⟨h1, t1⟩ := N3 h0 R0 hq1 r1
  have h2 := h1.fr 160 (p0 := q) (by decide) t1 (fun e => absurd e (by decide))
  obtain ⟨h3, t3⟩ := N3 h2 R6 hq13 r2
  have h4 := h3.fr 161 (p0 := q) (by decide) t3 (fun e => absurd e (by decide))
  refine ⟨h4.wk (fun g a hx hg => hx.1.1.elim id (fun e => ?_)), t2⟩
  rcases hg with ⟨hf, ha⟩ | ⟨-, ha⟩
  · rw [e] at ha
    have e1 := ha.2.symm.trans t2.2
    rcases (by decide : ∀ g ∈ refF, g / 40 = 4 → (g = 160 ∨ g = 161)) g hf e1 with z | z
    · exact absurd ⟨z, e⟩ hx.1.2
    · exact absurd ⟨z, e⟩ hx.2
  · rw [e] at ha
    exact absurd (ha.2.symm.trans t2.2) (by decide)
theorem N2 (h : ShE X (own Λ R) S) (hR : ∀ a ∈ R, a ∈ Λ.1) (hq : q ∉ Λ.1) (r : R_X2_init (lNew Λ q 2 0) (sNew S q) q Λ' S') : ShE X (own Λ' R) S' ∧ isK (own Λ' R) 2 q := by
  have ex := r.ext
  obtain ⟨q1, hq1, q6, hq6, q11, hq11, Λ16, S17, r1, rfl, rfl⟩ := r
  obtain ⟨h0, t0⟩ := h.obj hR hq 2
  have t2 := isK.ext (own_ext (R := R) ex) t0
  have R0 := own_R (q := q) (kd := 2) (len := 0) hR
  have h1 := h0.arr R0 hq1 (p0 := q) (f := 80) (kd := 10) (len := 16) (by omega) (by decide) (by decide) (by decide) rfl (fun e => absurd e (by decide))
  have h2 := h1.arr (own_R R0) hq6 (p0 := q) (f := 81) (kd := 10) (len := 16) (by omega) (by decide) (by decide) (by decide) rfl (fun e => absurd e (by decide))
  obtain ⟨h3, t3⟩ := N1 h2 (own_R (own_R R0)) hq11 r1
  have h4 := h3.fr 82 (p0 := q) (by decide) t3 (fun e => absurd e (by decide))
  refine ⟨h4.wk (fun g a hx hg => hx.1.1.1.elim id (fun e => ?_)), t2⟩
  rcases hg with ⟨hf, ha⟩ | ⟨-, ha⟩
  · rw [e] at ha
    have e1 := ha.2.symm.trans t2.2
    rcases (by decide : ∀ g ∈ refF, g / 40 = 2 → (g = 80 ∨ g = 81 ∨ g = 82)) g hf e1 with z | z | z
    · exact absurd ⟨z, e⟩ hx.1.1.2
    · exact absurd ⟨z, e⟩ hx.1.2
    · exact absurd ⟨z, e⟩ hx.2
  · rw [e] at ha
    exact absurd (ha.2.symm.trans t2.2) (by decide)
theorem N8 (h : ShE X (own Λ R) S) (hR : ∀ a ∈ R, a ∈ Λ.1) (hq : q ∉ Λ.1) (r : R_X8_init (lNew Λ q 8 0) (sNew S q) q Λ' S') : ShE X (own Λ' R) S' ∧ isK (own Λ' R) 8 q := by
  have ex := r.ext
  obtain ⟨q1, hq1, Λ6, S7, r1, q13, hq13, Λ18, S19, r2, q25, hq25, Λ30, S31, r3, q37, hq37, Λ42, S43, r4, rfl, rfl⟩ := r
  obtain ⟨h0, t0⟩ := h.obj hR hq 8
  have t2 := isK.ext (own_ext (R := R) ex) t0
  have R0 := own_R (q := q) (kd := 8) (len := 0) hR
  have R6 := own_Re R0 ((lExt.new (kd := 7) (len := 0) hq1).tr r1.ext)
  have R18 := own_Re R6 ((lExt.new (kd := 0) (len := 0) hq13).tr r2.ext)
  have R30 := own_Re R18 ((lExt.new (kd := 4) (len := 0) hq25).tr r3.ext)
  obtain ⟨h1, t1⟩ := N7 h0 R0 hq1 r1
  have h2 := h1.fr 320 (p0 := q) (by decide) t1 (fun e => absurd e (by decide))
  obtain ⟨h3, t3⟩ := N0 h2 R6 hq13 r2
  have h4 := h3.fr 321 (p0 := q) (by decide) t3 (fun e => absurd e (by decide))
  obtain ⟨h5, t5⟩ := N4 h4 R18 hq25 r3
  have h6 := h5.fr 322 (p0 := q) (by decide) t5 (fun e => absurd e (by decide))
  obtain ⟨h7, t7⟩ := N2 h6 R30 hq37 r4
  have h8 := (h7.fr 323 (p0 := q) (by decide) t7 (fun e => absurd e (by decide))).fi 324 q 0
  refine ⟨h8.wk (fun g a hx hg => hx.1.1.1.1.elim id (fun e => ?_)), t2⟩
  rcases hg with ⟨hf, ha⟩ | ⟨-, ha⟩
  · rw [e] at ha
    have e1 := ha.2.symm.trans t2.2
    rcases (by decide : ∀ g ∈ refF, g / 40 = 8 → (g = 320 ∨ g = 321 ∨ g = 322 ∨ g = 323)) g hf e1 with z | z | z | z
    · exact absurd ⟨z, e⟩ hx.1.1.1.2
    · exact absurd ⟨z, e⟩ hx.1.1.2
    · exact absurd ⟨z, e⟩ hx.1.2
    · exact absurd ⟨z, e⟩ hx.2
  · rw [e] at ha
    exact absurd (ha.2.symm.trans t2.2) (by decide)
end
