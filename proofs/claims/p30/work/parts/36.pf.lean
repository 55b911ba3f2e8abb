/-! What holds before each turn: as many units ever, and the same of each: is it there, is it a reader, who made it. -/
def PF (x m o : Nat) (R : List Nat) (G : Nat → Nat) (us t c : Nat) (F : aF) (ρ ω : Nat → Nat) (Λ : sLay) (S : sSt) : Prop := c ≤ 16 ∧ PD x m o R G us t c c ρ ω Λ S ∧ CF S t c F ∧ RF G S c F ∧ FI c F
section
variable {x m o us t c : Nat} {R : List Nat} {G : Nat → Nat} {ρ ω : Nat → Nat} {Λ : sLay} {S S1 S2 : sSt} {F F2 : aF}
theorem RF.kp (hF : RF G S c F) (k : ∀ f, isM f = true → kpA S S1 (G f)) : RF G S1 c F := fun j hj => by
  rw [(k 362 rfl).2.2.2.1 j, (k 373 rfl).2.2.2.1 j, (k 374 rfl).2.2.2.1 j]
  exact hF j hj
theorem CF.kp {c2 : Nat} (h : PD x m o R G us t c c2 ρ ω Λ S) (hF : CF S t c F) (k : ∀ a, a ∈ (own Λ R).1 → kpA S S1 a) : CF S1 t c F := fun j hj => by
  obtain ⟨u, hu, h1, h2⟩ := hF j hj
  have ku := k u (h.un hu).1
  refine ⟨u, ((k t h.kt.1).2.2.2.2.2 j).trans hu, ?_, fun z => ?_⟩
  · rw [ku.1 247]; exact h1
  · rw [ku.1 248, ku.1 249]; exact h2 z
/-- behind a call of the class that leaves all this -/
theorem PF.c1 (h : PF x m o R G us t c F ρ ω Λ S) {fz Ar : Nat → Bool} (g : Sh (S, fz, ρ, Ar) (own Λ R) S1) (f0 : fz 240 = true) (f1 : fz 281 = true) (f7 : fz 247 = true) (f8 : fz 248 = true) (f9 : fz 249 = true) : PF x m o R G us t c F ρ ω Λ S1 :=
  ⟨h.1, h.2.1.clz g f0 f1, CF.fz h.2.1 h.2.2.1 g f7 f8 f9, h.2.2.2.1.kp (fun f hf => h.2.1.out g (h.2.1.2.2.1 f hf)), h.2.2.2.2⟩
/-- behind a call of the reference that leaves all this -/
theorem PF.r1 (h : PF x m o R G us t c F ρ ω Λ S) {fz : Nat → Bool} (g : MI m G Λ (S, S, fz) S1) (f1 : fz 361 = true) (f2 : fz 362 = true) (f3 : fz 373 = true) (f4 : fz 374 = true) : PF x m o R G us t c F ρ ω Λ S1 :=
  ⟨h.1, h.2.1.ref g.1 ((g.2 361 f1).1.trans h.2.1.e2), CF.kp h.2.1 h.2.2.1 (fun a ha => h.2.1.inn g.1 ha), RF.fz h.2.2.2.1 g f2 f3 f4, h.2.2.2.2⟩
/-- behind a call of the class, and then of the reference, that do the same to it -/
theorem PF.both (h : PF x m o R G us t c F ρ ω Λ S) {fz fy Ar : Nat → Bool} (g : Sh (S, fz, ρ, Ar) (own Λ R) S1) (f0 : fz 240 = true) (f1 : fz 281 = true) (hc : CF S1 t c F2) (k : MI m G Λ (S1, S1, fy) S2) (k1 : fy 361 = true) (hr : RF G S2 c F2) (hi : FI c F2) : PF x m o R G us t c F2 ρ ω Λ S2 := by
  have p1 := h.2.1.clz g f0 f1
  exact ⟨h.1, p1.ref k.1 ((k.2 361 k1).1.trans p1.e2), CF.kp p1 hc (fun a ha => p1.inn k.1 ha), hr, hi⟩
theorem FI.free {p : Int32} {T : Nat → Bool} {Rd M : Nat → Int32} (h : FI c (T, Rd, M)) {T2 : Nat → Bool} (ht : ∀ k, T2 k = true → T k = true) : FI c (T2, Rd, freeF M p) := fun k hk h1 h2 => by
  show freeF M p k = -5
  unfold freeF
  split
  · rfl
  · exact h k hk (ht k h1) h2
theorem aReader_I (h : FI c F) (p q : Int32) : FI c (aReader c F p q).2 := by
  unfold aReader
  cases e : uo c F.1 p with
  | none => exact h
  | some k =>
    show FI c (if F.2.2 k = -5 then ((if F.2.1 k = 0 then 0 else 1), (F.1, up1 F.2.1 k q, if q = 0 then freeF F.2.2 p else F.2.2)) else (-3, F) : Int32 × aF).2
    by_cases z : F.2.2 k = -5
    · rw [if_pos z]
      have h2 : FI c (F.1, up1 F.2.1 k q, F.2.2) := fun j hj h1 h3 => by
        by_cases cj : j = k
        · rw [cj]; exact z
        · exact h j hj h1 (by have h4 : up1 F.2.1 k q j ≠ 0 := h3; rw [up1_n cj] at h4; exact h4)
      show FI c (F.1, up1 F.2.1 k q, if q = 0 then freeF F.2.2 p else F.2.2)
      by_cases y : q = 0
      · rw [if_pos y]; exact h2.free (fun _ z => z)
      · rw [if_neg y]; exact h2
    · rw [if_neg z]; exact h
theorem aGen_I (h : FI c F) (p q : Int32) : FI c (aGen c F p q) := by
  have h5 : ∀ k, FI c (F.1, F.2.1, up1 F.2.2 k (-5)) := fun k j hj h1 h3 => by
    show up1 F.2.2 k (-5) j = -5
    by_cases cj : j = k
    · rw [cj, up1_s]
    · rw [up1_n cj]; exact h j hj h1 h3
  unfold aGen
  cases e : uo c F.1 p with
  | none => exact h
  | some k =>
    show FI c (if q = -5 then (F.1, F.2.1, up1 F.2.2 k (-5)) else match uo c F.1 q with
      | none => F
      | some j => if F.2.1 j = 0 then F else if F.2.1 k = 0 then (F.1, F.2.1, up1 F.2.2 k q) else F)
    by_cases z : q = -5
    · rw [if_pos z]; exact h5 k
    · rw [if_neg z]
      cases e2 : uo c F.1 q with
      | none => exact h
      | some j =>
        show FI c (if F.2.1 j = 0 then F else if F.2.1 k = 0 then (F.1, F.2.1, up1 F.2.2 k q) else F)
        by_cases z3 : F.2.1 j = 0
        · rw [if_pos z3]; exact h
        · rw [if_neg z3]
          by_cases z4 : F.2.1 k = 0
          · rw [if_pos z4]
            intro i hi h1 h3
            show up1 F.2.2 k q i = -5
            by_cases ci : i = k
            · rw [ci] at h3; exact absurd z4 h3
            · rw [up1_n ci]; exact h i hi h1 h3
          · rw [if_neg z4]; exact h
theorem aRem_I (h : FI c F) (p : Int32) : FI c (aRem c F p).2 := by
  unfold aRem
  cases e : uo c F.1 p with
  | none => exact h
  | some k =>
    refine FI.free (T := F.1) (Rd := F.2.1) (M := F.2.2) h (fun j hj => ?_)
    by_cases cj : j = k
    · rw [cj, up1_s] at hj; cases hj
    · rw [up1_n cj] at hj; exact hj
end
