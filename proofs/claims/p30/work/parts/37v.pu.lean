/-! What holds before each turn: the flags of units, and what each uses. -/
section
variable {x m o us t c : Nat} {R : List Nat} {G : Nat → Nat} {ρ ω : Nat → Nat} {Λ : sLay} {S S1 S2 : sSt} {F F2 : aF} {U U2 : aU}
theorem RL2.kpm {fn fa w : Nat} (hR : RL2 fn fa w G S c F U) (hn : isM fn = true) (ha : isM fa = true) (k : ∀ f, isM f = true → kpA S S1 (G f)) : RL2 fn fa w G S1 c F U := hR.kp (fun i => (k fn hn).2.2.2.1 i) (fun i => (k fa ha).2.2.2.1 i)
theorem RL2.fz {fn fa w : Nat} {Z : sSt} {fz : Nat → Bool} (hR : RL2 fn fa w G S c F U) (g : MI m G Λ (Z, S, fz) S1) (hn : isM fn = true) (ha : isM fa = true) (f1 : fz fn = true) (f2 : fz fa = true) : RL2 fn fa w G S1 c F U := hR.kp (fun i => ((g.2 fn f1).2 hn i).1) (fun i => ((g.2 fa f2).2 ha i).1)
theorem RL2.mono {fn fa w : Nat} (hR : RL2 fn fa w G S c F U) (hm : ∀ k, F2.1 k = true → F.1 k = true) : RL2 fn fa w G S c F2 U := fun k hk hT => hR k hk (hm k hT)
theorem aReader_T {p q : Int32} (k : Nat) (h : (aReader c F p q).2.1 k = true) : F.1 k = true := by
  unfold aReader at h
  cases e : uo c F.1 p with
  | none => rw [e] at h; exact h
  | some j =>
    rw [e] at h
    have h' : (if F.2.2 j = -5 then ((if F.2.1 j = 0 then 0 else 1), (F.1, up1 F.2.1 j q, if q = 0 then freeF F.2.2 p else F.2.2)) else (-3, F) : Int32 × aF).2.1 k = true := h
    by_cases z : F.2.2 j = -5
    · rw [if_pos z] at h'; exact h'
    · rw [if_neg z] at h'; exact h'
theorem aGen_T {p q : Int32} (k : Nat) (h : (aGen c F p q).1 k = true) : F.1 k = true := by
  unfold aGen at h
  cases e : uo c F.1 p with
  | none => rw [e] at h; exact h
  | some j =>
    rw [e] at h
    have h' : (if q = -5 then (F.1, F.2.1, up1 F.2.2 j (-5)) else match uo c F.1 q with
      | none => F
      | some i => if F.2.1 i = 0 then F else if F.2.1 j = 0 then (F.1, F.2.1, up1 F.2.2 j q) else F).1 k = true := h
    by_cases z : q = -5
    · rw [if_pos z] at h'; exact h'
    · rw [if_neg z] at h'
      cases e2 : uo c F.1 q with
      | none => rw [e2] at h'; exact h'
      | some i =>
        rw [e2] at h'
        have h2 : (if F.2.1 i = 0 then F else if F.2.1 j = 0 then (F.1, F.2.1, up1 F.2.2 j q) else F).1 k = true := h'
        by_cases z3 : F.2.1 i = 0
        · rw [if_pos z3] at h2; exact h2
        · rw [if_neg z3] at h2
          by_cases z4 : F.2.1 j = 0
          · rw [if_pos z4] at h2; exact h2
          · rw [if_neg z4] at h2; exact h2
theorem aRem_T {p : Int32} (k : Nat) (h : (aRem c F p).2.1 k = true) : F.1 k = true := by
  unfold aRem at h
  cases e : uo c F.1 p with
  | none => rw [e] at h; exact h
  | some j =>
    rw [e] at h
    have h' : up1 F.1 j false k = true := h
    by_cases cj : k = j
    · rw [cj, up1_s] at h'; cases h'
    · rw [up1_n cj] at h'; exact h'
end
