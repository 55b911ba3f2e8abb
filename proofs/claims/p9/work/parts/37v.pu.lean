/-! What holds before each turn: the flags of units, and what each uses. -/
def PU (x m o : Nat) (R : List Nat) (G : Nat → Nat) (us t c : Nat) (F : aF) (U : aU) (ρ ω : Nat → Nat) (Λ : sLay) (S : sSt) : Prop := PF x m o R G us t c F ρ ω Λ S ∧ CL2 242 Λ.2.2 S t c F U ∧ RL2 371 372 12 G S c F U
def pInv (x m o t : Nat) (Λ : sLay) (S : sSt) : Prop := ∃ (R : List Nat) (G : Nat → Nat) (us tt c : Nat) (F : aF) (U : aU) (ρ ω : Nat → Nat), PU x m o R G us tt c F U ρ ω Λ S
section
variable {x m o us t c : Nat} {R : List Nat} {G : Nat → Nat} {ρ ω : Nat → Nat} {Λ : sLay} {S S1 S2 : sSt} {F F2 : aF} {U U2 : aU}
theorem RL2.kpm {fn fa w : Nat} (hR : RL2 fn fa w G S c F U) (hn : isM fn = true) (ha : isM fa = true) (k : ∀ f, isM f = true → kpA S S1 (G f)) : RL2 fn fa w G S1 c F U := hR.kp (fun i => (k fn hn).2.2.2.1 i) (fun i => (k fa ha).2.2.2.1 i)
theorem RL2.fz {fn fa w : Nat} {Z : sSt} {fz : Nat → Bool} (hR : RL2 fn fa w G S c F U) (g : MI m G Λ (Z, S, fz) S1) (hn : isM fn = true) (ha : isM fa = true) (f1 : fz fn = true) (f2 : fz fa = true) : RL2 fn fa w G S1 c F U := hR.kp (fun i => ((g.2 fn f1).2 hn i).1) (fun i => ((g.2 fa f2).2 ha i).1)
theorem RL2.mono {fn fa w : Nat} (hR : RL2 fn fa w G S c F U) (hm : ∀ k, F2.1 k = true → F.1 k = true) : RL2 fn fa w G S c F2 U := fun k hk hT => hR k hk (hm k hT)
/-- behind a call of the class that leaves all this -/
theorem PU.c1 (h : PU x m o R G us t c F U ρ ω Λ S) {fz Ar : Nat → Bool} (g : Sh (S, fz, ρ, Ar) (own Λ R) S1) (f0 : fz 240 = true) (f1 : fz 281 = true) (f7 : fz 247 = true) (f8 : fz 248 = true) (f9 : fz 249 = true) (a1 : Ar 242 = true) (a2 : Ar 1242 = true) : PU x m o R G us t c F U ρ ω Λ S1 :=
  ⟨h.1.c1 g f0 f1 f7 f8 f9, CL2.fz h.1.2.1 h.2.1 (by decide) rfl (by decide) (by decide) g a1 a2, h.2.2.kpm rfl rfl (fun f hf => h.1.2.1.out g (h.1.2.1.2.2.1 f hf))⟩
theorem PU.r1 (h : PU x m o R G us t c F U ρ ω Λ S) {fz : Nat → Bool} (g : MI m G Λ (S, S, fz) S1) (f1 : fz 361 = true) (f2 : fz 362 = true) (f3 : fz 373 = true) (f4 : fz 374 = true) (f5 : fz 371 = true) (f6 : fz 372 = true) : PU x m o R G us t c F U ρ ω Λ S1 :=
  ⟨h.1.r1 g f1 f2 f3 f4, CL2.kp h.1.2.1 h.2.1 (by decide) rfl (by decide) (by decide) (fun a ha => h.1.2.1.inn g.1 ha), h.2.2.fz g rfl rfl f5 f6⟩
/-- the flags may change, the uses stay -/
theorem PU.fl (h : PU x m o R G us t c F U ρ ω Λ S) {fz Ar fy : Nat → Bool} (g : Sh (S, fz, ρ, Ar) (own Λ R) S1) (f0 : fz 240 = true) (f1 : fz 281 = true) (a1 : Ar 242 = true) (a2 : Ar 1242 = true) (k : MI m G Λ (S1, S1, fy) S2) (k1 : fy 371 = true) (k2 : fy 372 = true) (hm : ∀ k, F2.1 k = true → F.1 k = true) (p : PF x m o R G us t c F2 ρ ω Λ S2) : PU x m o R G us t c F2 U ρ ω Λ S2 := by
  have p1 := h.1.2.1.clz g f0 f1
  refine ⟨p, ?_, ?_⟩
  · exact (CL2.kp p1 (CL2.fz h.1.2.1 h.2.1 (by decide) rfl (by decide) (by decide) g a1 a2) (by decide) rfl (by decide) (by decide) (fun a ha => p1.inn k.1 ha)).mono hm
  · exact ((h.2.2.kpm rfl rfl (fun f hf => h.1.2.1.out g (h.1.2.1.2.2.1 f hf))).fz k rfl rfl k1 k2).mono hm
/-- the uses may change, the flags stay -/
theorem PU.uu (h : PU x m o R G us t c F U ρ ω Λ S) {fz Ar fy : Nat → Bool} (g : Sh (S, fz, ρ, Ar) (own Λ R) S1) (f0 : fz 240 = true) (f1 : fz 281 = true) (f7 : fz 247 = true) (f8 : fz 248 = true) (f9 : fz 249 = true) (hc : CL2 242 Λ.2.2 S1 t c F U2) (k : MI m G Λ (S1, S1, fy) S2) (k1 : fy 361 = true) (k2 : fy 362 = true) (k3 : fy 373 = true) (k4 : fy 374 = true) (hr : RL2 371 372 12 G S2 c F U2) : PU x m o R G us t c F U2 ρ ω Λ S2 := by
  have p1 := h.1.c1 g f0 f1 f7 f8 f9
  exact ⟨p1.r1 k k1 k2 k3 k4, CL2.kp p1.2.1 hc (by decide) rfl (by decide) (by decide) (fun a ha => p1.2.1.inn k.1 ha), hr⟩
theorem aReader_T {p q : Int32} (k : Nat) (h : (aReader c F p q).2.1 k = true) : F.1 k = true := by
  unfold aReader at h
  cases e : uo c F.1 p with
  | none => rw [e] at h; exact h
  | some j =>
    rw [e] at h
    have h' : (if F.2.2 j = -5 then ((if F.2.1 j = 0 then 0 else 1), (F.1, up1 F.2.1 j q, if q = 0 then freeF F.2.2 p else F.2.2)) else (-3, F) : Int32 × aF).2.1 k = true := h
    by_cases z : F.2.2 j = -5
    · rw [if_pos z] at h'; exact h'
    · rw [if_neg z] at h'; exact h'
theorem aGen_T {p q : Int32} (k : Nat) (h : (aGen c F p q).1 k = true) : F.1 k = true := by
  unfold aGen at h
  cases e : uo c F.1 p with
  | none => rw [e] at h; exact h
  | some j =>
    rw [e] at h
    have h' : (if q = -5 then (F.1, F.2.1, up1 F.2.2 j (-5)) else match uo c F.1 q with
      | none => F
      | some i => if F.2.1 i = 0 then F else if F.2.1 j = 0 then (F.1, F.2.1, up1 F.2.2 j q) else F).1 k = true := h
    by_cases z : q = -5
    · rw [if_pos z] at h'; exact h'
    · rw [if_neg z] at h'
      cases e2 : uo c F.1 q with
      | none => rw [e2] at h'; exact h'
      | some i =>
        rw [e2] at h'
        have h2 : (if F.2.1 i = 0 then F else if F.2.1 j = 0 then (F.1, F.2.1, up1 F.2.2 j q) else F).1 k = true := h'
        by_cases z3 : F.2.1 i = 0
        · rw [if_pos z3] at h2; exact h2
        · rw [if_neg z3] at h2
          by_cases z4 : F.2.1 j = 0
          · rw [if_pos z4] at h2; exact h2
          · rw [if_neg z4] at h2; exact h2
theorem aRem_T {p : Int32} (k : Nat) (h : (aRem c F p).2.1 k = true) : F.1 k = true := by
  unfold aRem at h
  cases e : uo c F.1 p with
  | none => rw [e] at h; exact h
  | some j =>
    rw [e] at h
    have h' : up1 F.1 j false k = true := h
    by_cases cj : k = j
    · rw [cj, up1_s] at h'; cases h'
    · rw [up1_n cj] at h'; exact h'
end
theorem pInv_0 : ∀ x m o Λ S, R_start x m o Λ S → pInv x m o 0 Λ S := fun x m o Λ S h => by
  obtain ⟨R, G, us, tt, c, ρ, ω, hc0, h1⟩ := pInv0_0 x m o Λ S h
  subst hc0
  exact ⟨R, G, us, tt, 0, (fun _ => false, fun _ => 0, fun _ => 0), fun _ => [], ρ, ω, ⟨Nat.zero_le _, h1, fun k hk => absurd hk (Nat.not_lt_zero k), fun k hk => absurd hk (Nat.not_lt_zero k), fun k hk => absurd hk (Nat.not_lt_zero k)⟩, fun k hk => absurd hk (Nat.not_lt_zero k), fun k hk => absurd hk (Nat.not_lt_zero k)⟩
