/-! What holds before each turn: flags, uses, ways and things of units are the same in class and reference. -/
/-- who made a unit is there, and a reader -/
def MA (c : Nat) (F : aF) : Prop := ∀ k, k < c → F.1 k = true → F.2.2 k = -5 ∨ ∃ j, j < c ∧ F.2.2 k = nI j ∧ F.1 j = true ∧ F.2.1 j ≠ 0
/-- keys are such, and names of which constants are built -/
def HA (c : Nat) (F : aF) (H : aH) : Prop := ∀ k, k < c → F.1 k = true → ∀ (i : Nat) (th : aT), (H k)[i]? = some th → (∃ n, n < 96 ∧ th.1 = nI n) ∧ ∀ v, v ∈ th.2.2.2 → ∃ n, n < 32 ∧ v = nI n
def PT (x m o : Nat) (R : List Nat) (G : Nat → Nat) (us t c : Nat) (F : aF) (U W : aU) (H : aH) (ρ ω : Nat → Nat) (Λ : sLay) (S : sSt) : Prop := c ≤ 16 ∧ CA x m o R G us t c c F U W H ρ ω Λ S ∧ RA m G Λ c F U W H S ∧ FI c F ∧ WA c F W ∧ MA c F ∧ HA c F H
theorem aReader_M {c : Nat} {F : aF} {p q : Int32} (h : MA c F) : MA c (aReader c F p q).2 := by
  unfold aReader
  cases e : uo c F.1 p with
  | none => exact h
  | some k =>
    obtain ⟨ep, hk, hTk, hb⟩ := uo_some e
    show MA c (if F.2.2 k = -5 then ((if F.2.1 k = 0 then 0 else 1), (F.1, up1 F.2.1 k q, if q = 0 then freeF F.2.2 p else F.2.2)) else (-3, F) : Int32 × aF).2
    by_cases z : F.2.2 k = -5
    · rw [if_pos z]
      intro i hi hT
      show (if q = 0 then freeF F.2.2 p else F.2.2) i = -5 ∨ ∃ j, j < c ∧ (if q = 0 then freeF F.2.2 p else F.2.2) i = nI j ∧ F.1 j = true ∧ up1 F.2.1 k q j ≠ 0
      by_cases y : q = 0
      · rw [if_pos y]
        unfold freeF
        by_cases w : F.2.2 i = p
        · exact Or.inl (if_pos w)
        · rw [if_neg w]
          rcases h i hi hT with a | ⟨j, a1, a2, a3, a4⟩
          · exact Or.inl a
          · refine Or.inr ⟨j, a1, a2, a3, ?_⟩
            rw [up1_n (fun ej => w (by rw [a2, ep, ej]))]
            exact a4
      · rw [if_neg y]
        rcases h i hi hT with a | ⟨j, a1, a2, a3, a4⟩
        · exact Or.inl a
        · refine Or.inr ⟨j, a1, a2, a3, ?_⟩
          by_cases cj : j = k
          · rw [cj, up1_s]; exact y
          · rw [up1_n cj]; exact a4
    · rw [if_neg z]; exact h
theorem aGen_M {c : Nat} {F : aF} {p q : Int32} (h : MA c F) : MA c (aGen c F p q) := by
  unfold aGen
  cases e : uo c F.1 p with
  | none => exact h
  | some k =>
    show MA c (if q = -5 then (F.1, F.2.1, up1 F.2.2 k (-5)) else match uo c F.1 q with
      | none => F
      | some j => if F.2.1 j = 0 then F else if F.2.1 k = 0 then (F.1, F.2.1, up1 F.2.2 k q) else F)
    by_cases z : q = -5
    · rw [if_pos z]
      intro i hi hT
      show up1 F.2.2 k (-5) i = -5 ∨ _
      by_cases ci : i = k
      · rw [ci, up1_s]; exact Or.inl rfl
      · have h2 := h i hi hT
        show _ ∨ ∃ j, j < c ∧ up1 F.2.2 k (-5) i = nI j ∧ _
        rw [up1_n ci]
        exact h2
    · rw [if_neg z]
      cases e2 : uo c F.1 q with
      | none => exact h
      | some j =>
        obtain ⟨eq, hj, hTj, -⟩ := uo_some e2
        show MA c (if F.2.1 j = 0 then F else if F.2.1 k = 0 then (F.1, F.2.1, up1 F.2.2 k q) else F)
        by_cases z3 : F.2.1 j = 0
        · rw [if_pos z3]; exact h
        · rw [if_neg z3]
          by_cases z4 : F.2.1 k = 0
          · rw [if_pos z4]
            intro i hi hT
            show up1 F.2.2 k q i = -5 ∨ ∃ j, j < c ∧ up1 F.2.2 k q i = nI j ∧ F.1 j = true ∧ F.2.1 j ≠ 0
            by_cases ci : i = k
            · rw [ci, up1_s]
              exact Or.inr ⟨j, hj, eq, hTj, z3⟩
            · rw [up1_n ci]
              exact h i hi hT
          · rw [if_neg z4]; exact h
theorem aRem_M {c : Nat} {F : aF} {p : Int32} (h : MA c F) : MA c (aRem c F p).2 := by
  unfold aRem
  cases e : uo c F.1 p with
  | none => exact h
  | some k =>
    obtain ⟨ep, hk, hTk, hb⟩ := uo_some e
    intro i hi hT
    have hT' : up1 F.1 k false i = true := hT
    have hik : i ≠ k := fun z => by rw [z, up1_s] at hT'; cases hT'
    rw [up1_n hik] at hT'
    show freeF F.2.2 p i = -5 ∨ ∃ j, j < c ∧ freeF F.2.2 p i = nI j ∧ up1 F.1 k false j = true ∧ F.2.1 j ≠ 0
    unfold freeF
    by_cases w : F.2.2 i = p
    · exact Or.inl (if_pos w)
    · rw [if_neg w]
      rcases h i hi hT' with a | ⟨j, a1, a2, a3, a4⟩
      · exact Or.inl a
      · refine Or.inr ⟨j, a1, a2, ?_, a4⟩
        rw [up1_n (fun ej => w (by rw [a2, ep, ej]))]
        exact a3
theorem aReader_E {c : Nat} {F : aF} {p q : Int32} : (aReader c F p q).2.1 = F.1 := by
  unfold aReader
  cases e : uo c F.1 p with
  | none => rfl
  | some k =>
    show (if F.2.2 k = -5 then ((if F.2.1 k = 0 then 0 else 1), (F.1, up1 F.2.1 k q, if q = 0 then freeF F.2.2 p else F.2.2)) else (-3, F) : Int32 × aF).2.1 = F.1
    by_cases z : F.2.2 k = -5
    · rw [if_pos z]
    · rw [if_neg z]
theorem aGen_E {c : Nat} {F : aF} {p q : Int32} : (aGen c F p q).1 = F.1 := by
  unfold aGen
  cases e : uo c F.1 p with
  | none => rfl
  | some k =>
    show (if q = -5 then (F.1, F.2.1, up1 F.2.2 k (-5)) else match uo c F.1 q with
      | none => F
      | some j => if F.2.1 j = 0 then F else if F.2.1 k = 0 then (F.1, F.2.1, up1 F.2.2 k q) else F).1 = F.1
    by_cases z : q = -5
    · rw [if_pos z]
    · rw [if_neg z]
      cases e2 : uo c F.1 q with
      | none => rfl
      | some j =>
        show (if F.2.1 j = 0 then F else if F.2.1 k = 0 then (F.1, F.2.1, up1 F.2.2 k q) else F).1 = F.1
        by_cases z3 : F.2.1 j = 0
        · rw [if_pos z3]
        · rw [if_neg z3]
          by_cases z4 : F.2.1 k = 0
          · rw [if_pos z4]
          · rw [if_neg z4]
theorem WA.congr {c : Nat} {F F2 : aF} {W : aU} (h : WA c F W) (e : F2.1 = F.1) : WA c F2 W := by
  unfold WA
  rw [e]
  exact h
theorem aRem_W {c : Nat} {F : aF} {W : aU} {p : Int32} (h : WA c F W) : WA c (aRem c F p).2 (aRemW c F W p) := by
  unfold aRem aRemW
  cases e : uo c F.1 p with
  | none => exact h
  | some k =>
    obtain ⟨ep, hk, hTk, hb⟩ := uo_some e
    intro i hi hT v hv
    have hT' : up1 F.1 k false i = true := hT
    have hik : i ≠ k := fun z => by rw [z, up1_s] at hT'; cases hT'
    rw [up1_n hik] at hT'
    have hv' : v ∈ (W i).filter (fun w => decide (w ≠ p)) := hv
    rw [List.mem_filter, decide_eq_true_iff] at hv'
    obtain ⟨j, a1, a2, a3⟩ := h i hi hT' v hv'.1
    refine ⟨j, a1, a2, ?_⟩
    show up1 F.1 k false j = true
    rw [up1_n (fun ej => hv'.2 (by rw [a2, ep, ej]))]
    exact a3
theorem aWay_W {c : Nat} {F : aF} {W : aU} {p q : Int32} (h : WA c F W) : WA c F (aWay c F W p q).2 := by
  unfold aWay
  cases e : uo c F.1 p with
  | none => exact h
  | some k =>
    show WA c F (match uo c F.1 q with
      | none => (-1, W)
      | some _ => if p = q then (-3, W) else if q ∈ W k then (-3, W) else if (W k).length < 6 then (nI ((W k).length + 1), up1 W k (W k ++ [q])) else (-4, W) : Int32 × aU).2
    cases e2 : uo c F.1 q with
    | none => exact h
    | some k2 =>
      obtain ⟨eq, hk2, hT2, -⟩ := uo_some e2
      show WA c F (if p = q then (-3, W) else if q ∈ W k then (-3, W) else if (W k).length < 6 then (nI ((W k).length + 1), up1 W k (W k ++ [q])) else (-4, W) : Int32 × aU).2
      by_cases c1 : p = q
      · rw [if_pos c1]; exact h
      · rw [if_neg c1]
        by_cases c2 : q ∈ W k
        · rw [if_pos c2]; exact h
        · rw [if_neg c2]
          by_cases c3 : (W k).length < 6
          · rw [if_pos c3]
            intro i hi hT v hv
            have hv' : v ∈ up1 W k (W k ++ [q]) i := hv
            by_cases ci : i = k
            · rw [ci, up1_s] at hv'
              rcases List.mem_append.mp hv' with y | y
              · exact h k (ci ▸ hi) (ci ▸ hT) v y
              · rw [List.mem_singleton.mp y]
                exact ⟨k2, hk2, eq, hT2⟩
            · rw [up1_n ci] at hv'
              exact h i hi hT v hv'
          · rw [if_neg c3]; exact h
theorem aUnway_W {c : Nat} {F : aF} {W : aU} {p : Int32} (h : WA c F W) : WA c F (aUnway c F W p).2 := by
  unfold aUnway
  cases e : uo c F.1 p with
  | none => exact h
  | some k =>
    intro i hi hT v hv
    have hv' : v ∈ up1 W k [] i := hv
    by_cases ci : i = k
    · rw [ci, up1_s] at hv'
      cases hv'
    · rw [up1_n ci] at hv'
      exact h i hi hT v hv'
theorem rng3 {s n : Int32} (c1 : ¬ (s < 0 ∨ (3 : Int32) ≤ s)) (c3 : ¬ (n < 0 ∨ (32 : Int32) ≤ n)) : ∃ q, q < 96 ∧ s * 32 + n = nI q := by
  obtain ⟨a, ha, rfl⟩ := nI_of (fun z => c1 (Or.inl z))
  obtain ⟨b, hb, rfl⟩ := nI_of (fun z => c3 (Or.inl z))
  have h1 : a < 3 := Nat.lt_of_not_le (fun z => c1 (Or.inr (leN (a := 3) (by omega) ha z)))
  have h2 : b < 32 := Nat.lt_of_not_le (fun z => c3 (Or.inr (leN (a := 32) (by omega) hb z)))
  exact ⟨a * 32 + b, by omega, e_add (e_mul rfl k32) rfl⟩
theorem HA.put {c k : Nat} {F : aF} {H : aH} {l2 : List aT} (h : HA c F H) (g : ∀ (i : Nat) (th : aT), l2[i]? = some th → (∃ n, n < 96 ∧ th.1 = nI n) ∧ ∀ v, v ∈ th.2.2.2 → ∃ n, n < 32 ∧ v = nI n) : HA c F (up1 H k l2) := fun j hj hT i th hi => by
  have hi' : (up1 H k l2 j)[i]? = some th := hi
  by_cases cj : j = k
  · rw [cj, up1_s] at hi'
    exact g i th hi'
  · rw [up1_n cj] at hi'
    exact h j hj hT i th hi'
theorem aGive_H {c : Nat} {F : aF} {H : aH} {p s n : Int32} {d : Int64} {q : Int32} (h : HA c F H) : HA c F (aGive c F H p s n d q).2 := by
  unfold aGive
  cases e : uo c F.1 p with
  | none => exact h
  | some k =>
    obtain ⟨ep, hk, hT, -⟩ := uo_some e
    show HA c F (if s < 0 ∨ (3 : Int32) ≤ s then (-2, H) else if n < 0 ∨ (32 : Int32) ≤ n then (-2, H) else match tIx (s * 32 + n) (H k) 0 with
      | some i => (0, up1 H k ((H k).set i (s * 32 + n, d, q, ((H k)[i]?.getD (0, 0, 0, [])).2.2.2)))
      | none => if (H k).length < 10 then (1, up1 H k (ins (H k) (insP (s * 32 + n) (H k) (H k).length) (s * 32 + n, d, q, []))) else (-4, H) : Int32 × aH).2
    by_cases c1 : s < 0 ∨ (3 : Int32) ≤ s
    · rw [if_pos c1]; exact h
    rw [if_neg c1]
    by_cases c3 : n < 0 ∨ (32 : Int32) ≤ n
    · rw [if_pos c3]; exact h
    rw [if_neg c3]
    have rg := rng3 c1 c3
    cases ei : tIx (s * 32 + n) (H k) 0 with
    | some i =>
      obtain ⟨hil, th, hth, hkey⟩ := tIx_0 ei
      refine h.put (fun j th2 hj => ?_)
      rw [List.getElem?_set] at hj
      by_cases cj : i = j
      · rw [if_pos cj, if_pos hil] at hj
        cases hj
        rw [get_getD hth]
        exact ⟨rg, (h k hk hT i th hth).2⟩
      · rw [if_neg cj] at hj
        exact h k hk hT j th2 hj
    | none =>
      show HA c F (if (H k).length < 10 then (1, up1 H k (ins (H k) (insP (s * 32 + n) (H k) (H k).length) (s * 32 + n, d, q, []))) else (-4, H) : Int32 × aH).2
      by_cases c4 : (H k).length < 10
      · rw [if_pos c4]
        refine h.put (fun j th2 hj => ?_)
        rw [ins_get (insP_le _)] at hj
        by_cases c5 : j < insP (s * 32 + n) (H k) (H k).length
        · rw [if_pos c5] at hj
          exact h k hk hT j th2 hj
        · rw [if_neg c5] at hj
          by_cases c6 : j = insP (s * 32 + n) (H k) (H k).length
          · rw [if_pos c6] at hj
            cases hj
            exact ⟨rg, fun v hv => by cases hv⟩
          · rw [if_neg c6] at hj
            exact h k hk hT _ th2 hj
      · rw [if_neg c4]; exact h
theorem aTake_H {c : Nat} {F : aF} {H : aH} {p s n : Int32} (h : HA c F H) : HA c F (aTake c F H p s n).2 := by
  unfold aTake
  cases e : uo c F.1 p with
  | none => exact h
  | some k =>
    obtain ⟨ep, hk, hT, -⟩ := uo_some e
    show HA c F (if s < 0 ∨ (3 : Int32) ≤ s then (-2, H) else if n < 0 ∨ (32 : Int32) ≤ n then (-2, H) else match tIx (s * 32 + n) (H k) 0 with
      | some i => (1, up1 H k ((H k).eraseIdx i))
      | none => (-1, H) : Int32 × aH).2
    by_cases c1 : s < 0 ∨ (3 : Int32) ≤ s
    · rw [if_pos c1]; exact h
    rw [if_neg c1]
    by_cases c3 : n < 0 ∨ (32 : Int32) ≤ n
    · rw [if_pos c3]; exact h
    rw [if_neg c3]
    cases ei : tIx (s * 32 + n) (H k) 0 with
    | none => exact h
    | some i =>
      refine h.put (fun j th2 hj => ?_)
      rw [List.getElem?_eraseIdx] at hj
      by_cases c5 : j < i
      · rw [if_pos c5] at hj
        exact h k hk hT j th2 hj
      · rw [if_neg c5] at hj
        exact h k hk hT _ th2 hj
theorem aBuild_H {c : Nat} {F : aF} {H : aH} {p n d : Int32} (h : HA c F H) : HA c F (aBuild c F H p n d).2 := by
  unfold aBuild
  cases e : uo c F.1 p with
  | none => exact h
  | some k =>
    obtain ⟨ep, hk, hT, -⟩ := uo_some e
    show HA c F (if n < 0 ∨ (32 : Int32) ≤ n then (-2, H) else if d < 0 ∨ (32 : Int32) ≤ d then (-2, H) else match tIx (32 + n) (H k) 0 with
      | none => (-3, H)
      | some i => match (H k)[i]? with
        | none => (-3, H)
        | some th => if th.2.2.2.length < 3 then (nI (th.2.2.2.length + 1), up1 H k ((H k).set i (th.1, th.2.1, th.2.2.1, th.2.2.2 ++ [d]))) else (-4, H) : Int32 × aH).2
    by_cases c1 : n < 0 ∨ (32 : Int32) ≤ n
    · rw [if_pos c1]; exact h
    rw [if_neg c1]
    by_cases c3 : d < 0 ∨ (32 : Int32) ≤ d
    · rw [if_pos c3]; exact h
    rw [if_neg c3]
    obtain ⟨b, hb, eb⟩ := nI_of (fun z => c3 (Or.inl z))
    have h2 : b < 32 := Nat.lt_of_not_le (fun z => c3 (Or.inr (by rw [eb]; exact leN (a := 32) (by omega) hb z)))
    cases ei : tIx (32 + n) (H k) 0 with
    | none => exact h
    | some i =>
      obtain ⟨hil, th, hth, hkey⟩ := tIx_0 ei
      show HA c F (match (H k)[i]? with
        | none => (-3, H)
        | some th => if th.2.2.2.length < 3 then (nI (th.2.2.2.length + 1), up1 H k ((H k).set i (th.1, th.2.1, th.2.2.1, th.2.2.2 ++ [d]))) else (-4, H) : Int32 × aH).2
      rw [hth]
      show HA c F (if th.2.2.2.length < 3 then (nI (th.2.2.2.length + 1), up1 H k ((H k).set i (th.1, th.2.1, th.2.2.1, th.2.2.2 ++ [d]))) else (-4, H) : Int32 × aH).2
      by_cases c5 : th.2.2.2.length < 3
      · rw [if_pos c5]
        refine h.put (fun j th2 hj => ?_)
        rw [List.getElem?_set] at hj
        by_cases cj : i = j
        · rw [if_pos cj, if_pos hil] at hj
          cases hj
          refine ⟨(h k hk hT i th hth).1, fun v hv => ?_⟩
          have hv' : v ∈ th.2.2.2 ++ [d] := hv
          rcases List.mem_append.mp hv' with y | y
          · exact (h k hk hT i th hth).2 v y
          · rw [List.mem_singleton.mp y]
            exact ⟨b, h2, eb⟩
        · rw [if_neg cj] at hj
          exact h k hk hT j th2 hj
      · rw [if_neg c5]; exact h
/-- what the reference's unit leaves -/
theorem unit_y {m : Nat} {G : Nat → Nat} {Λ : sLay} {N : Nat → Nat} {S : sSt} (hG : MG m G Λ S) : Pa (F_X9_unit N S m) (fun r : Int32 × sSt => (∀ f, isM f = true → f ≠ 362 → f ≠ 363 → f ≠ 369 → f ≠ 371 → f ≠ 373 → f ≠ 374 → f ≠ 377 → ∀ k, gAI r.2 (G f) k = gAI S (G f) k) ∧ ∀ a k, gAJ r.2 a k = gAJ S a k) := by
  unfold F_X9_unit
  refine Pa_st (fun S1 e1 => ?_)
  have h1 : S1.2.2.1 = S.2.2.1 := by rw [e1]; rfl
  refine Pa_ite (fun _ => Pa_some ⟨fun f _ _ _ _ _ _ _ _ k => by rw [e1]; rfl, fun a k => by rw [e1]; rfl⟩) (fun _ => ?_)
  refine Pa_st (fun S2 e2 => ?_)
  have h2 : S2.2.2.1 = S.2.2.1 := by rw [e2]; exact h1
  refine Pa_r (hG.g h2 362) (Pa_g (Pa_st (fun S5 e5 => ?_)))
  have h5 : S5.2.2.1 = S.2.2.1 := by rw [e5]; exact h2
  refine Pa_r (hG.g h5 363) (Pa_g (Pa_st (fun S8 e8 => ?_)))
  have h8 : S8.2.2.1 = S.2.2.1 := by rw [e8]; exact h5
  refine Pa_r (hG.g h8 369) (Pa_g (Pa_st (fun S11 e11 => ?_)))
  have h11 : S11.2.2.1 = S.2.2.1 := by rw [e11]; exact h8
  refine Pa_r (hG.g h11 371) (Pa_g (Pa_st (fun S14 e14 => ?_)))
  have h14 : S14.2.2.1 = S.2.2.1 := by rw [e14]; exact h11
  refine Pa_r (hG.g h14 373) (Pa_g (Pa_st (fun S17 e17 => ?_)))
  have h17 : S17.2.2.1 = S.2.2.1 := by rw [e17]; exact h14
  refine Pa_r (hG.g h17 374) (Pa_g (Pa_st (fun S20 e20 => ?_)))
  have h20 : S20.2.2.1 = S.2.2.1 := by rw [e20]; exact h17
  refine Pa_r (hG.g h20 377) (Pa_g (Pa_st (fun S23 e23 => Pa_some ⟨fun f hf n1 n2 n3 n4 n5 n6 n7 k => ?_, fun a k => ?_⟩)))
  · show gAI S23 (G f) k = _
    rw [e23, hG.o f 377 hf rfl n7, e20, hG.o f 374 hf rfl n6, e17, hG.o f 373 hf rfl n5, e14, hG.o f 371 hf rfl n4, e11, hG.o f 369 hf rfl n3, e8, hG.o f 363 hf rfl n2, e5, hG.o f 362 hf rfl n1, e2, gAI_sFI, e1, gAI_sFI]
  · show gAJ S23 a k = _
    rw [e23, gAJ_sAI, e20, gAJ_sAI, e17, gAJ_sAI, e14, gAJ_sAI, e11, gAJ_sAI, e8, gAJ_sAI, e5, gAJ_sAI, e2, gAJ_sFI, e1, gAJ_sFI]
section
variable {x m o us t c : Nat} {R : List Nat} {G : Nat → Nat} {ρ ω : Nat → Nat} {Λ : sLay} {S S1 S2 : sSt} {F F2 : aF} {U U2 W W2 : aU} {H H2 : aH}
theorem PT.pd (h : PT x m o R G us t c F U W H ρ ω Λ S) : PD x m o R G us t c c ρ ω Λ S := h.2.1.1
theorem PT.ca (h : PT x m o R G us t c F U W H ρ ω Λ S) : CA x m o R G us t c c F U W H ρ ω Λ S := h.2.1
theorem PT.ra (h : PT x m o R G us t c F U W H ρ ω Λ S) : RA m G Λ c F U W H S := h.2.2.1
theorem PT.wa (h : PT x m o R G us t c F U W H ρ ω Λ S) : WA c F W := h.2.2.2.2.1
theorem PT.ma (h : PT x m o R G us t c F U W H ρ ω Λ S) : MA c F := h.2.2.2.2.2.1
theorem PT.ha (h : PT x m o R G us t c F U W H ρ ω Λ S) : HA c F H := h.2.2.2.2.2.2
theorem PT.pf (h : PT x m o R G us t c F U W H ρ ω Λ S) : PF x m o R G us t c F ρ ω Λ S := ⟨h.1, h.2.1.1, h.2.1.2.1, h.2.2.1.2.2.1, h.2.2.2.1⟩
theorem PT.ra1 (h : PT x m o R G us t c F U W H ρ ω Λ S) {fz Ar : Nat → Bool} (g : Sh (S, fz, ρ, Ar) (own Λ R) S1) : RA m G Λ c F U W H S1 := h.ra.cls h.pd (fun a ha => h.pd.out g ha)
theorem PT.c1 (h : PT x m o R G us t c F U W H ρ ω Λ S) {fz Ar : Nat → Bool} (g : Sh (S, fz, ρ, Ar) (own Λ R) S1) (f : fzA fz) (a : arA Ar) : PT x m o R G us t c F U W H ρ ω Λ S1 := ⟨h.1, h.ca.fz g f a, h.ra1 g, h.2.2.2⟩
theorem PT.r1 (h : PT x m o R G us t c F U W H ρ ω Λ S) {fy : Nat → Bool} (g : MI m G Λ (S, S, fy) S1) (f : fyA fy) : PT x m o R G us t c F U W H ρ ω Λ S1 :=
  ⟨h.1, h.ca.ref g.c ((g.2 361 (f 361 (by decide))).1.trans h.ra.2.1), h.ra.fz g f, h.2.2.2⟩
/-- what the class holds behind its call, what the reference holds behind its own -/
theorem PT.go (hc : c ≤ 16) (ca : CA x m o R G us t c c F U W H ρ ω Λ S1) {fy : Nat → Bool} (k : MI m G Λ (S1, S1, fy) S2) (e : gFI S2 361 m = nI c) (rF : RF G S2 c F) (rU : RL2 371 372 12 G S2 c F U) (rW : RL2 369 370 6 G S2 c F W) (rH : RH G S2 c F H) (hI : FI c F) (hA : WA c F W) (hM : MA c F) (hB : HA c F H) : PT x m o R G us t c F U W H ρ ω Λ S2 :=
  ⟨hc, ca.ref k.c e, ⟨k.c.self, e, rF, rU, rW, rH⟩, hI, hA, hM, hB⟩
/-- the flags have changed, and perhaps the ways -/
theorem PT.fl (h : PT x m o R G us t c F U W H ρ ω Λ S) {fz Ar fy : Nat → Bool} (g : Sh (S, fz, ρ, Ar) (own Λ R) S1) (f : ∀ f ∈ [240, 281, 245, 202, 203, 204, 200], fz f = true) (a : ∀ f ∈ [242, 1242, 244, 201, 1201], Ar f = true) (k : MI m G Λ (S1, S1, fy) S2) (y : ∀ f ∈ [363, 364, 365, 366, 367, 368, 371, 372], fy f = true) (hm : ∀ k, F2.1 k = true → F.1 k = true) (p : PF x m o R G us t c F2 ρ ω Λ S2) (cW : CL2 241 Λ.2.2 S1 t c F2 W2) (rW : RL2 369 370 6 G S2 c F2 W2) (hA : WA c F2 W2) (hM : MA c F2) : PT x m o R G us t c F2 U W2 H ρ ω Λ S2 := by
  have p0 := h.pd
  have p1 := p0.clz g (f 240 (by decide)) (f 281 (by decide))
  have kk : ∀ a, a ∈ (own Λ R).1 → kpA S1 S2 a := fun a ha => p1.inn k.1 ha
  have r1 := h.ra1 g
  obtain ⟨hc, hp, hcf, hrf, hfi⟩ := p
  refine ⟨hc, ⟨hp, hcf, ?_, ?_, ?_, ?_⟩, ⟨k.c.self, hp.e2, hrf, ?_, rW, ?_⟩, hfi, hA, hM, fun k hk hT => h.ha k hk (hm k hT)⟩
  · exact (CL2.kp p1 (CL2.fz p0 h.ca.2.2.1 (by decide) rfl (by decide) (by decide) g (a 242 (by decide)) (a 1242 (by decide))) (by decide) rfl (by decide) (by decide) kk).mono hm
  · exact CL2.kp p1 cW (by decide) rfl (by decide) (by decide) kk
  · exact ((h.ca.2.2.2.2.1.fz p0 g (f 202 (by decide)) (f 203 (by decide)) (f 204 (by decide)) (f 245 (by decide)) (a 244 (by decide)) (a 201 (by decide)) (a 1201 (by decide))).kp p1 kk).mono hm
  · exact (h.ca.2.2.2.2.2.fz p0 g (f 200 (by decide)) (f 240 (by decide)) (a 244 (by decide))).kpo p1 kk
  · exact (r1.2.2.2.1.fz k rfl rfl (y 371 (by decide)) (y 372 (by decide))).mono hm
  · exact (r1.2.2.2.2.2.fz k (fun q hq => y q ((by decide : ∀ q ∈ [363, 364, 365, 366, 367, 368], q ∈ [363, 364, 365, 366, 367, 368, 371, 372]) q hq))).mono hm
theorem step_use (h : PT x m o R G us t c F U W H ρ ω Λ S) (a1 a2 a3 : Int32) : ∃ r S1 S2 U2, F_X8_use Λ.2.2 S x a1 a2 a3 = some (r, S1) ∧ F_X9_use Λ.2.2 S1 m a1 a2 a3 = some (r, S2) ∧ PT x m o R G us t c F U2 W H ρ ω Λ S2 := by
  obtain ⟨h0, h1, h2, h3, h4, h5⟩ := h.ca
  obtain ⟨⟨r, S1⟩, e1, g1, q1, c1⟩ := T_and (tF_X8_use S (h0.shz (nfz [41]) (nfz [242, 1242, 2242])) ⟨rfl, rfl, rfl⟩ rfl x h0.kx a1 a2 a3) (use_c h0 h.1 h1 h2 a1 a2 a3)
  have y := h.ra1 g1
  obtain ⟨⟨r2, S2⟩, e2, q2, g2, c2⟩ := use_r y.1 h.1 y.2.1 y.2.2.1 y.2.2.2.1 a1 a2 a3
  have q1 : r = _ := q1
  have q2 : r2 = _ := q2
  have ee := (g2.2 361 rfl).1.trans y.2.1
  exact ⟨r, S1, S2, _, e1, by rw [e2, q1, q2], PT.go h.1 ⟨h0.clz g1 rfl rfl, CF.fz h0 h1 g1 rfl rfl rfl, c1, CL2.fz h0 h3 (by decide) rfl (by decide) (by decide) g1 rfl rfl, h4.fz h0 g1 rfl rfl rfl rfl rfl rfl rfl, h5.fz h0 g1 rfl rfl rfl⟩ g2 ee (y.2.2.1.fz g2 rfl rfl rfl) c2 (y.2.2.2.2.1.fz g2 rfl rfl rfl rfl) (y.2.2.2.2.2.fz g2 (by decide)) h.2.2.2.1 h.wa h.ma h.ha⟩
theorem step_unuse (h : PT x m o R G us t c F U W H ρ ω Λ S) (a1 a2 : Int32) : ∃ r S1 S2 U2, F_X8_unuse Λ.2.2 S x a1 a2 = some (r, S1) ∧ F_X9_unuse Λ.2.2 S1 m a1 a2 = some (r, S2) ∧ PT x m o R G us t c F U2 W H ρ ω Λ S2 := by
  obtain ⟨h0, h1, h2, h3, h4, h5⟩ := h.ca
  obtain ⟨⟨r, S1⟩, e1, g1, q1, c1⟩ := T_and (tF_X8_unuse S (h0.shz (nfz [41]) (nfz [242, 1242, 2242])) ⟨rfl, rfl, rfl⟩ rfl x h0.kx a1 a2) (unuse_c h0 h.1 h1 h2 a1 a2)
  have y := h.ra1 g1
  obtain ⟨⟨r2, S2⟩, e2, q2, g2, c2⟩ := unuse_r y.1 h.1 y.2.1 y.2.2.1 y.2.2.2.1 a1 a2
  have q1 : r = _ := q1
  have q2 : r2 = _ := q2
  have ee := (g2.2 361 rfl).1.trans y.2.1
  exact ⟨r, S1, S2, _, e1, by rw [e2, q1, q2], PT.go h.1 ⟨h0.clz g1 rfl rfl, CF.fz h0 h1 g1 rfl rfl rfl, c1, CL2.fz h0 h3 (by decide) rfl (by decide) (by decide) g1 rfl rfl, h4.fz h0 g1 rfl rfl rfl rfl rfl rfl rfl, h5.fz h0 g1 rfl rfl rfl⟩ g2 ee (y.2.2.1.fz g2 rfl rfl rfl) c2 (y.2.2.2.2.1.fz g2 rfl rfl rfl rfl) (y.2.2.2.2.2.fz g2 (by decide)) h.2.2.2.1 h.wa h.ma h.ha⟩
theorem step_way (h : PT x m o R G us t c F U W H ρ ω Λ S) (a1 a2 : Int32) : ∃ r S1 S2 W2, F_X8_way Λ.2.2 S x a1 a2 = some (r, S1) ∧ F_X9_way Λ.2.2 S1 m a1 a2 = some (r, S2) ∧ PT x m o R G us t c F U W2 H ρ ω Λ S2 := by
  obtain ⟨h0, h1, h2, h3, h4, h5⟩ := h.ca
  obtain ⟨⟨r, S1⟩, e1, g1, q1, c1⟩ := T_and (tF_X8_way S (h0.shz (nfz [41]) (nfz [241, 1241, 2241])) ⟨rfl, rfl, rfl⟩ rfl x h0.kx a1 a2) (way_c h0 h.1 h1 h3 a1 a2)
  have y := h.ra1 g1
  obtain ⟨⟨r2, S2⟩, e2, q2, g2, c2⟩ := way_r y.1 h.1 y.2.1 y.2.2.1 y.2.2.2.2.1 a1 a2
  have q1 : r = _ := q1
  have q2 : r2 = _ := q2
  have ee := (g2.2 361 rfl).1.trans y.2.1
  exact ⟨r, S1, S2, _, e1, by rw [e2, q1, q2], PT.go h.1 ⟨h0.clz g1 rfl rfl, CF.fz h0 h1 g1 rfl rfl rfl, CL2.fz h0 h2 (by decide) rfl (by decide) (by decide) g1 rfl rfl, c1, h4.fz h0 g1 rfl rfl rfl rfl rfl rfl rfl, h5.fz h0 g1 rfl rfl rfl⟩ g2 ee (y.2.2.1.fz g2 rfl rfl rfl) (y.2.2.2.1.fz g2 rfl rfl rfl rfl) c2 (y.2.2.2.2.2.fz g2 (by decide)) h.2.2.2.1 (aWay_W h.wa) h.ma h.ha⟩
theorem step_unway (h : PT x m o R G us t c F U W H ρ ω Λ S) (a1 : Int32) : ∃ r S1 S2 W2, F_X8_unway Λ.2.2 S x a1 = some (r, S1) ∧ F_X9_unway Λ.2.2 S1 m a1 = some (r, S2) ∧ PT x m o R G us t c F U W2 H ρ ω Λ S2 := by
  obtain ⟨h0, h1, h2, h3, h4, h5⟩ := h.ca
  obtain ⟨⟨r, S1⟩, e1, g1, q1, c1⟩ := T_and (tF_X8_unway S (h0.shz (nfz [41]) (nfz [241, 1241, 2241])) ⟨rfl, rfl, rfl⟩ rfl x h0.kx a1) (unway_c h0 h.1 h1 h3 a1)
  have y := h.ra1 g1
  obtain ⟨⟨r2, S2⟩, e2, q2, g2, c2⟩ := unway_r y.1 h.1 y.2.1 y.2.2.1 y.2.2.2.2.1 a1
  have q1 : r = _ := q1
  have q2 : r2 = _ := q2
  have ee := (g2.2 361 rfl).1.trans y.2.1
  exact ⟨r, S1, S2, _, e1, by rw [e2, q1, q2], PT.go h.1 ⟨h0.clz g1 rfl rfl, CF.fz h0 h1 g1 rfl rfl rfl, CL2.fz h0 h2 (by decide) rfl (by decide) (by decide) g1 rfl rfl, c1, h4.fz h0 g1 rfl rfl rfl rfl rfl rfl rfl, h5.fz h0 g1 rfl rfl rfl⟩ g2 ee (y.2.2.1.fz g2 rfl rfl rfl) (y.2.2.2.1.fz g2 rfl rfl rfl rfl) c2 (y.2.2.2.2.2.fz g2 (by decide)) h.2.2.2.1 (aUnway_W h.wa) h.ma h.ha⟩
theorem step_give (h : PT x m o R G us t c F U W H ρ ω Λ S) (a1 a2 a3 : Int32) (a4 : Int64) (a5 : Int32) (hb : a5 = 0 ∨ a5 = 1) : ∃ r S1 S2 H2, F_X8_give Λ.2.2 S x a1 a2 a3 a4 a5 = some (r, S1) ∧ F_X9_give Λ.2.2 S1 m a1 a2 a3 a4 a5 = some (r, S2) ∧ PT x m o R G us t c F U W H2 ρ ω Λ S2 := by
  obtain ⟨h0, h1, h2, h3, h4, h5⟩ := h.ca
  obtain ⟨⟨r, S1⟩, e1, g1, q1, c1, i1⟩ := T_Pa (tF_X8_give S (h0.shz (nfz [41, 202, 203, 204, 245]) (nfz [201, 1201, 2201, 244, 1244, 2244])) ⟨rfl, rfl, rfl⟩ ⟨rfl, rfl, rfl⟩ rfl rfl rfl rfl rfl x h0.kx a1 a2 a3 a4 a5 hb) (give_c h0 h.1 h1 h5 h4 a1 a2 a3 a4 a5)
  have y := h.ra1 g1
  obtain ⟨⟨r2, S2⟩, e2, g2, q2, c2⟩ := T_Pa (tF_X9_give (Y := (S1, S1, nfz [360, 363, 364, 365, 366, 367, 368])) rfl rfl rfl rfl rfl rfl rfl S1 (y.1.mi _) a1 a2 a3 a4 a5) (give_r y.1 h.1 y.2.1 y.2.2.1 y.2.2.2.2.2 a1 a2 a3 a4 hb)
  have q1 : r = _ := q1
  have q2 : r2 = _ := q2
  have ee := (g2.2 361 rfl).1.trans y.2.1
  exact ⟨r, S1, S2, _, e1, by rw [e2, q1, q2], PT.go h.1 ⟨h0.clz g1 rfl rfl, CF.fz h0 h1 g1 rfl rfl rfl, CL2.fz h0 h2 (by decide) rfl (by decide) (by decide) g1 rfl rfl, CL2.fz h0 h3 (by decide) rfl (by decide) (by decide) g1 rfl rfl, c1, i1⟩ g2 ee (y.2.2.1.fz g2 rfl rfl rfl) (y.2.2.2.1.fz g2 rfl rfl rfl rfl) (y.2.2.2.2.1.fz g2 rfl rfl rfl rfl) c2 h.2.2.2.1 h.wa h.ma (aGive_H h.ha)⟩
theorem step_take (h : PT x m o R G us t c F U W H ρ ω Λ S) (a1 a2 a3 : Int32) : ∃ r S1 S2 H2, F_X8_take Λ.2.2 S x a1 a2 a3 = some (r, S1) ∧ F_X9_take Λ.2.2 S1 m a1 a2 a3 = some (r, S2) ∧ PT x m o R G us t c F U W H2 ρ ω Λ S2 := by
  obtain ⟨h0, h1, h2, h3, h4, h5⟩ := h.ca
  obtain ⟨⟨r, S1⟩, e1, g1, q1, c1, i1⟩ := T_Pa (tF_X8_take S (h0.shz (nfz [245]) (nfz [244, 1244, 2244])) ⟨rfl, rfl, rfl⟩ rfl x h0.kx a1 a2 a3) (take_c h0 h.1 h1 h5 h4 a1 a2 a3)
  have y := h.ra1 g1
  obtain ⟨⟨r2, S2⟩, e2, g2, q2, c2⟩ := T_Pa (tF_X9_take (Y := (S1, S1, nfz [360, 363, 364, 365, 366, 367, 368])) rfl rfl rfl rfl rfl rfl rfl S1 (y.1.mi _) a1 a2 a3) (take_r y.1 h.1 y.2.1 y.2.2.1 y.2.2.2.2.2 a1 a2 a3)
  have q1 : r = _ := q1
  have q2 : r2 = _ := q2
  have ee := (g2.2 361 rfl).1.trans y.2.1
  exact ⟨r, S1, S2, _, e1, by rw [e2, q1, q2], PT.go h.1 ⟨h0.clz g1 rfl rfl, CF.fz h0 h1 g1 rfl rfl rfl, CL2.fz h0 h2 (by decide) rfl (by decide) (by decide) g1 rfl rfl, CL2.fz h0 h3 (by decide) rfl (by decide) (by decide) g1 rfl rfl, c1, i1⟩ g2 ee (y.2.2.1.fz g2 rfl rfl rfl) (y.2.2.2.1.fz g2 rfl rfl rfl rfl) (y.2.2.2.2.1.fz g2 rfl rfl rfl rfl) c2 h.2.2.2.1 h.wa h.ma (aTake_H h.ha)⟩
theorem step_build (h : PT x m o R G us t c F U W H ρ ω Λ S) (a1 a2 a3 : Int32) : ∃ r S1 S2 H2, F_X8_build Λ.2.2 S x a1 a2 a3 = some (r, S1) ∧ F_X9_build Λ.2.2 S1 m a1 a2 a3 = some (r, S2) ∧ PT x m o R G us t c F U W H2 ρ ω Λ S2 := by
  obtain ⟨h0, h1, h2, h3, h4, h5⟩ := h.ca
  obtain ⟨⟨r, S1⟩, e1, g1, q1, c1, i1⟩ := T_Pa (tF_X8_build S (h0.shz (nfz [41]) (nfz [201, 1201, 2201])) ⟨rfl, rfl, rfl⟩ rfl x h0.kx a1 a2 a3) (build_c h0 h.1 h1 h5 h4 a1 a2 a3)
  have y := h.ra1 g1
  obtain ⟨⟨r2, S2⟩, e2, g2, q2, c2⟩ := T_Pa (tF_X9_build (Y := (S1, S1, nfz [360, 367, 368])) rfl rfl rfl S1 (y.1.mi _) a1 a2 a3) (build_r y.1 h.1 y.2.1 y.2.2.1 y.2.2.2.2.2 a1 a2 a3)
  have q1 : r = _ := q1
  have q2 : r2 = _ := q2
  have ee := (g2.2 361 rfl).1.trans y.2.1
  exact ⟨r, S1, S2, _, e1, by rw [e2, q1, q2], PT.go h.1 ⟨h0.clz g1 rfl rfl, CF.fz h0 h1 g1 rfl rfl rfl, CL2.fz h0 h2 (by decide) rfl (by decide) (by decide) g1 rfl rfl, CL2.fz h0 h3 (by decide) rfl (by decide) (by decide) g1 rfl rfl, c1, i1⟩ g2 ee (y.2.2.1.fz g2 rfl rfl rfl) (y.2.2.2.1.fz g2 rfl rfl rfl rfl) (y.2.2.2.2.1.fz g2 rfl rfl rfl rfl) c2 h.2.2.2.1 h.wa h.ma (aBuild_H h.ha)⟩
theorem step_reader (h : PT x m o R G us t c F U W H ρ ω Λ S) (a1 a2 : Int32) (hb : a2 = 0 ∨ a2 = 1) : ∃ r S1 S2 F2, F_X8_reader Λ.2.2 S x a1 a2 = some (r, S1) ∧ F_X9_reader Λ.2.2 S1 m a1 a2 = some (r, S2) ∧ PT x m o R G us t c F2 U W H ρ ω Λ S2 := by
  have h0 := h.pf
  obtain ⟨⟨r, S1⟩, e1, q1, g1, c1⟩ := reader_c h0.2.1 h0.1 h0.2.2.1 a1 a2 hb
  have y := h.ra1 g1
  have p1 := h0.2.1.clz g1 rfl rfl
  obtain ⟨⟨r2, S2⟩, e2, q2, g2, c2⟩ := reader_r y.1 h0.1 y.2.1 y.2.2.1 a1 a2 hb
  have q1 : r = _ := q1
  have q2 : r2 = _ := q2
  have hm : ∀ k, (aReader c F a1 a2).2.1 k = true → F.1 k = true := aReader_T
  refine ⟨r, S1, S2, _, e1, by rw [e2, q1, q2], h.fl g1 (by decide) (by decide) g2 (by decide) hm (h0.both g1 rfl rfl c1 g2 rfl c2 (aReader_I h0.2.2.2.2 a1 a2)) ((CL2.fz h0.2.1 h.ca.2.2.2.1 (by decide) rfl (by decide) (by decide) g1 rfl rfl).mono hm) ((y.2.2.2.2.1.fz g2 rfl rfl rfl rfl).mono hm) (h.wa.congr aReader_E) (aReader_M h.ma)⟩
theorem step_gen (h : PT x m o R G us t c F U W H ρ ω Λ S) (a1 a2 : Int32) : ∃ r S1 r2 S2 F2, F_X8_generated Λ.2.2 S x a1 a2 = some (r, S1) ∧ F_X9_generated Λ.2.2 S1 m a1 a2 = some (r2, S2) ∧ PT x m o R G us t c F2 U W H ρ ω Λ S2 := by
  have h0 := h.pf
  obtain ⟨⟨r, S1⟩, e1, g1, c1⟩ := gen_c h0.2.1 h0.1 h0.2.2.1 h0.2.2.2.2 a1 a2
  have y := h.ra1 g1
  obtain ⟨⟨r2, S2⟩, e2, g2, c2⟩ := gen_r y.1 h0.1 y.2.1 y.2.2.1 a1 a2
  have hm : ∀ k, (aGen c F a1 a2).1 k = true → F.1 k = true := aGen_T
  refine ⟨r, S1, r2, S2, _, e1, e2, h.fl g1 (by decide) (by decide) g2 (by decide) hm (h0.both g1 rfl rfl c1 g2 rfl c2 (aGen_I h0.2.2.2.2 a1 a2)) ((CL2.fz h0.2.1 h.ca.2.2.2.1 (by decide) rfl (by decide) (by decide) g1 rfl rfl).mono hm) ((y.2.2.2.2.1.fz g2 rfl rfl rfl rfl).mono hm) (h.wa.congr aGen_E) (aGen_M h.ma)⟩
theorem step_rem (h : PT x m o R G us t c F U W H ρ ω Λ S) (a1 : Int32) : ∃ r S1 S2 F2 W2, F_X8_remove Λ.2.2 S x a1 = some (r, S1) ∧ F_X9_remove Λ.2.2 S1 m a1 = some (r, S2) ∧ PT x m o R G us t c F2 U W2 H ρ ω Λ S2 := by
  have h0 := h.pf
  obtain ⟨⟨r, S1⟩, e1, q1, g1, c1⟩ := rem_c h0.2.1 h0.1 h0.2.2.1 a1
  have y := h.ra1 g1
  obtain ⟨⟨r2, S2⟩, e2, q2, g2, c2⟩ := rem_r y.1 h0.1 y.2.1 y.2.2.1 a1
  have q1 : r = _ := q1
  have q2 : r2 = _ := q2
  have hm : ∀ k, (aRem c F a1).2.1 k = true → F.1 k = true := aRem_T
  have z1 := T_at (remW_c h0.2.1 h0.1 h0.2.2.1 h.ca.2.2.2.1 a1) e1
  have z2 := T_at (remW_r y.1 h0.1 y.2.1 y.2.2.1 y.2.2.2.2.1 a1) e2
  exact ⟨r, S1, S2, _, _, e1, by rw [e2, q1, q2], h.fl g1 (by decide) (by decide) g2 (by decide) hm (h0.both g1 rfl rfl c1 g2 rfl c2 (aRem_I h0.2.2.2.2 a1)) z1 z2 (aRem_W h.wa) (aRem_M h.ma)⟩
end
def pInv (x m o t : Nat) (Λ : sLay) (S : sSt) : Prop := ∃ (R : List Nat) (G : Nat → Nat) (us tt c : Nat) (F : aF) (U W : aU) (H : aH) (ρ ω : Nat → Nat), PT x m o R G us tt c F U W H ρ ω Λ S
theorem CA.none {x m o us t c2 : Nat} {R : List Nat} {G : Nat → Nat} {ρ ω : Nat → Nat} {Λ : sLay} {S : sSt} {F : aF} {U W : aU} {H : aH} (h : PD x m o R G us t 0 c2 ρ ω Λ S) (hI : TI ω t S) : CA x m o R G us t 0 c2 F U W H ρ ω Λ S := ⟨h, fun k hk => absurd hk (Nat.not_lt_zero k), fun k hk => absurd hk (Nat.not_lt_zero k), fun k hk => absurd hk (Nat.not_lt_zero k), fun k hk => absurd hk (Nat.not_lt_zero k), hI⟩
theorem RA.none {m : Nat} {G : Nat → Nat} {Λ : sLay} {S : sSt} {F : aF} {U W : aU} {H : aH} (h : MC m G Λ S S) (e : gFI S 361 m = nI 0) : RA m G Λ 0 F U W H S := ⟨h, e, fun k hk => absurd hk (Nat.not_lt_zero k), fun k hk => absurd hk (Nat.not_lt_zero k), fun k hk => absurd hk (Nat.not_lt_zero k), fun k hk => absurd hk (Nat.not_lt_zero k)⟩
theorem PT.none {x m o us t : Nat} {R : List Nat} {G : Nat → Nat} {ρ ω : Nat → Nat} {Λ : sLay} {S : sSt} {F : aF} {U W : aU} {H : aH} (h : PD x m o R G us t 0 0 ρ ω Λ S) (hI : TI ω t S) : PT x m o R G us t 0 F U W H ρ ω Λ S := ⟨Nat.zero_le _, CA.none h hI, RA.none h.mc h.e2, fun k hk => absurd hk (Nat.not_lt_zero k), fun k hk => absurd hk (Nat.not_lt_zero k), fun k hk => absurd hk (Nat.not_lt_zero k), fun k hk => absurd hk (Nat.not_lt_zero k)⟩
theorem pInv_0 : ∀ x m o Λ S, R_start x m o Λ S → pInv x m o 0 Λ S := fun x m o Λ S h => by
  obtain ⟨R, G, us, tt, c, ρ, ω, hc0, hn, h1⟩ := pInv0_0 x m o Λ S h
  subst hc0
  exact ⟨R, G, us, tt, 0, (fun _ => false, fun _ => 0, fun _ => 0), fun _ => [], fun _ => [], fun _ => [], ρ, ω, PT.none h1 (fun k u t2 hk hu => by rw [hn k] at hu; cases hu)⟩
