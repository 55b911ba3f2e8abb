/-! What is kept: the row, its digest; why and how many; one is made. -/
theorem aWhy_or {K : aK} {s : aS} {k : Nat} : aWhy K s k = 0 ∨ aWhy K s k = 1 ∨ aWhy K s k = 2 ∨ aWhy K s k = 3 ∨ aWhy K s k = 4 ∨ aWhy K s k = 5 := by
  by_cases c0 : K.1 k = 0
  · exact Or.inr (Or.inl (aWhy_1 c0))
  · rw [aWhy_n c0]
    by_cases h2 : owB (sR s k) (sR (K.2 k) k) (sQ s k) (sQ (K.2 k) k) (sN s k) (sN (K.2 k) k)
    · by_cases h3 : fiB (sR s k) (sR (K.2 k) k) (sQ s k) (sQ (K.2 k) k)
      · by_cases h4 : maB (sR s k) (sR (K.2 k) k) (sQ s k) (sQ (K.2 k) k)
        · by_cases h5 : geB (sR s k) (sR (K.2 k) k) (sQ s k) (sQ (K.2 k) k)
          · exact Or.inl (aWh_0 h2 h3 h4 h5)
          · exact Or.inr (Or.inr (Or.inr (Or.inr (Or.inr (aWh_5 h2 h3 h4 h5)))))
        · exact Or.inr (Or.inr (Or.inr (Or.inr (Or.inl (aWh_4 h2 h3 h4)))))
      · exact Or.inr (Or.inr (Or.inr (Or.inl (aWh_3 h2 h3))))
    · exact Or.inr (Or.inr (Or.inl (aWh_2 h2)))
theorem aWhy_le {K : aK} {s : aS} {k : Nat} : aWhy K s k ≤ 0 ↔ aWhy K s k = 0 := by
  rcases aWhy_or (K := K) (s := s) (k := k) with e | e | e | e | e | e <;> rw [e] <;> decide
noncomputable def aKept (c : Nat) (F : aF) (K : aK) (p i : Int32) : Int32 × Int64 := match uo c F.1 p with
  | none => (0, 0)
  | some k => if K.1 k = 0 then (1, 0) else if i < 0 ∨ nI (sR (K.2 k) k).length ≤ i then (2, 0) else (0, (sR (K.2 k) k)[i.toNatClampNeg]?.getD 0)
noncomputable def aOut (c : Nat) (F : aF) (K : aK) (p : Int32) : Int64 := match uo c F.1 p with
  | none => 0
  | some k => if K.1 k = 0 then 0 else digJ (sR (K.2 k) k)
noncomputable def aWhyA (s : aS) (K : aK) (p : Int32) : Int32 := match uo s.1 s.2.1.1 p with
  | none => -1
  | some k => aWhy K s k
noncomputable def neB (s : aS) (K : aK) (k : Nat) : Bool := tE s.1 s.2.1 k && @decide (aWhy K s k ≠ 0) (Classical.propDecidable _)
noncomputable def aNeeds (s : aS) (K : aK) : Int32 := nI (cb (neB s K) 16)
noncomputable def aForce (s : aS) (K : aK) (p : Int32) : Int32 × aK × Int32 := match uo s.1 s.2.1.1 p with
  | none => (-1, K, 0)
  | some k => (K.1 k + 1, kpK K s k, 1)
section
variable {c k : Nat} {F : aF} {K : aK} {s : aS} {p i : Int32}
theorem aKept_n (e : uo c F.1 p = none) : aKept c F K p i = (0, 0) := by unfold aKept; rw [e]
theorem aKept_1 (e : uo c F.1 p = some k) (h : K.1 k = 0) : aKept c F K p i = (1, 0) := by unfold aKept; rw [e]; exact if_pos h
theorem aKept_2 (e : uo c F.1 p = some k) (h : K.1 k ≠ 0) (h2 : i < 0 ∨ nI (sR (K.2 k) k).length ≤ i) : aKept c F K p i = (2, 0) := by unfold aKept; rw [e]; exact (if_neg h).trans (if_pos h2)
theorem aKept_v (e : uo c F.1 p = some k) (h : K.1 k ≠ 0) (h2 : ¬ (i < 0 ∨ nI (sR (K.2 k) k).length ≤ i)) : aKept c F K p i = (0, (sR (K.2 k) k)[i.toNatClampNeg]?.getD 0) := by unfold aKept; rw [e]; exact (if_neg h).trans (if_neg h2)
theorem aOut_n (e : uo c F.1 p = none) : aOut c F K p = 0 := by unfold aOut; rw [e]
theorem aOut_1 (e : uo c F.1 p = some k) (h : K.1 k = 0) : aOut c F K p = 0 := by unfold aOut; rw [e]; exact if_pos h
theorem aOut_v (e : uo c F.1 p = some k) (h : K.1 k ≠ 0) : aOut c F K p = digJ (sR (K.2 k) k) := by unfold aOut; rw [e]; exact if_neg h
theorem aWhyA_n (e : uo s.1 s.2.1.1 p = none) : aWhyA s K p = -1 := by unfold aWhyA; rw [e]
theorem aWhyA_s (e : uo s.1 s.2.1.1 p = some k) : aWhyA s K p = aWhy K s k := by unfold aWhyA; rw [e]
theorem aForce_n (e : uo s.1 s.2.1.1 p = none) : aForce s K p = (-1, K, 0) := by unfold aForce; rw [e]
theorem aForce_s (e : uo s.1 s.2.1.1 p = some k) : aForce s K p = (K.1 k + 1, kpK K s k, 1) := by unfold aForce; rw [e]
theorem neB_f (h : tE s.1 s.2.1 k = false) : neB s K k = false := by unfold neB; rw [h, Bool.false_and]
theorem neB_0 (h : aWhy K s k = 0) : neB s K k = false := by
  unfold neB
  rw [@decide_eq_false _ (Classical.propDecidable _) (fun z => z h), Bool.and_false]
theorem neB_1 (h : tE s.1 s.2.1 k = true) (h2 : aWhy K s k ≠ 0) : neB s K k = true := by
  unfold neB
  rw [h, Bool.true_and]
  exact @decide_eq_true _ (Classical.propDecidable _) h2
theorem cb_f {g : Nat → Bool} {u : Nat} (h : g u = false) : cb g (u + 1) = cb g u := by
  show cb g u + (if g u = true then 1 else 0) = _
  rw [if_neg (fun z => by rw [h] at z; cases z), Nat.add_zero]
theorem cb_t {g : Nat → Bool} {u : Nat} (h : g u = true) : cb g (u + 1) = cb g u + 1 := by
  show cb g u + (if g u = true then 1 else 0) = _
  rw [if_pos h]
theorem cb_far {g : Nat → Bool} {c : Nat} (h : ∀ k, c ≤ k → g k = false) : ∀ n, c ≤ n → cb g n = cb g c
  | 0, hn => by rw [Nat.le_zero.mp hn]
  | n + 1, hn => by
    by_cases y : c = n + 1
    · rw [y]
    · rw [cb_f (h n (by omega))]
      exact cb_far h n (by omega)
end
section
variable {x m o us t c c2 : Nat} {R : List Nat} {G : Nat → Nat} {ρ ω : Nat → Nat} {Λ : sLay} {S S0 S1 : sSt} {F : aF} {U W : aU} {H : aH} {K : aK}
theorem kept_c (h : CA x m o R G us t c c2 F U W H ρ ω Λ S) (hK : KC Λ.2.2 S t c F K) (hc : c ≤ 16) (p i : Int32) : Pa (F_L_kept Λ.2.2 S x p i o) (fun r => r.1 = (aKept c F K p i).1 ∧ ((aKept c F K p i).1 = 0 → gAJ r.2 o 0 = (aKept c F K p i).2)) := by
  have h320 := h.1.2.2.2.2.2.2.2.2.1
  have hX8 : Pa (F_X8_kept Λ.2.2 S x p i) (fun r => ((aKept c F K p i).1 = 1 ∧ r.1 = Sum.inl npN) ∨ ((aKept c F K p i).1 = 2 ∧ r.1 = Sum.inl aiN) ∨ ((aKept c F K p i).1 = 0 ∧ r.1 = Sum.inr (aKept c F K p i).2)) := by
    unfold F_X8_kept
    refine Pa_r h320 ?_
    cases e : uo c F.1 p with
    | none =>
      rw [aKept_n e]
      exact Pa_be (at_none h.1 hc h.2.1 e) (Pa_on rfl (Pa_some (Or.inr (Or.inr ⟨rfl, rfl⟩))))
    | some k =>
      obtain ⟨u, hu, ea, -⟩ := at_some h.1 hc h.2.1 e
      obtain ⟨-, hk, hT, -⟩ := uo_some e
      obtain ⟨u', r, la, hu', er, e5, g2⟩ := hK k hk hT
      rw [hu] at hu'
      cases hu'
      refine Pa_be ea (Pa_oS rfl ?_)
      rw [e5]
      by_cases c0 : K.1 k = 0
      · rw [aKept_1 e c0]
        exact Pa_it c0 (Pa_some (Or.inl ⟨rfl, rfl⟩))
      · obtain ⟨z1, z2, z3⟩ := g2 c0
        have l680 := z2.2.2.2.1
        unfold F_X3_length
        refine Pa_if c0 (Pa_r er (Pa_bs (Pa_be isB_val ?_)))
        rw [z2.1]
        by_cases c1 : i < 0 ∨ nI (sR (K.2 k) k).length ≤ i
        · rw [if_pos c1, aKept_2 e c0 c1]
          exact Pa_it rfl (Pa_some (Or.inr (Or.inl ⟨rfl, rfl⟩)))
        · rw [if_neg c1, aKept_v e c0 c1]
          obtain ⟨q, hq, rfl⟩ := nI_of (fun z => c1 (Or.inl z))
          have lt : q < (sR (K.2 k) k).length := Nat.lt_of_not_le (fun z => c1 (Or.inr (leN (by omega) hq z)))
          refine Pa_if (by decide) (Pa_r er (Pa_be (atJ z2 lt) (Pa_some (Or.inr (Or.inr ⟨rfl, ?_⟩)))))
          rw [n_cl hq, List.getElem?_eq_getElem lt]
          rfl
  unfold F_L_kept
  refine Pa_bind hX8 (fun q _ hq => ?_)
  obtain ⟨q1, q2⟩ := q
  rcases hq with ⟨c1, hq⟩ | ⟨c1, hq⟩ | ⟨c1, hq⟩
  · have hq : q1 = Sum.inl npN := hq
    subst hq
    refine Pa_it rfl (Pa_some ⟨c1.symm, fun z => ?_⟩)
    rw [c1] at z
    exact absurd z (by decide)
  · have hq : q1 = Sum.inl aiN := hq
    subst hq
    refine Pa_if (by decide) (Pa_it rfl (Pa_some ⟨c1.symm, fun z => ?_⟩))
    rw [c1] at z
    exact absurd z (by decide)
  · have hq : q1 = Sum.inr _ := hq
    subst hq
    refine Pa_g (Pa_some ⟨c1.symm, fun _ => ?_⟩)
    show gAJ (sAJ q2 o (Int32.toNatClampNeg 0) _) o 0 = _
    rw [sJ, if_pos (show (0 : Nat) = Int32.toNatClampNeg 0 from rfl)]
theorem output_c (h : CA x m o R G us t c c2 F U W H ρ ω Λ S) (hK : KC Λ.2.2 S t c F K) (hc : c ≤ 16) (p : Int32) : Pa (F_X8_output Λ.2.2 S x p) (fun r => r = aOut c F K p) := by
  have h320 := h.1.2.2.2.2.2.2.2.2.1
  unfold F_X8_output B_X8_output_20
  refine Pa_r h320 ?_
  cases e : uo c F.1 p with
  | none =>
    rw [aOut_n e]
    exact Pa_be (at_none h.1 hc h.2.1 e) (Pa_on rfl (Pa_some rfl))
  | some k =>
    obtain ⟨u, hu, ea, -⟩ := at_some h.1 hc h.2.1 e
    obtain ⟨-, hk, hT, -⟩ := uo_some e
    obtain ⟨u', r, la, hu', er, e5, g2⟩ := hK k hk hT
    rw [hu] at hu'
    cases hu'
    refine Pa_be ea (Pa_oS rfl ?_)
    rw [e5]
    by_cases c0 : K.1 k = 0
    · rw [aOut_1 e c0]
      exact Pa_it c0 (Pa_some rfl)
    · obtain ⟨z1, z2, z3⟩ := g2 c0
      rw [aOut_v e c0]
      exact Pa_if c0 (Pa_r er (Pa_bind (dg_val z2) (fun v8 _ hv => Pa_some hv)))
theorem why_c (h : CA x m o R G us t c c2 F U W H ρ ω Λ S) (hK : KC Λ.2.2 S t c F K) (hc : c ≤ 16) (hA : WA c F W) (hB : HA c F H) (p : Int32) : Pa (F_X8_why Λ.2.2 S x p) (fun r => r.1 = aWhyA (c, F, U, W, H) K p) := by
  have h320 := h.1.2.2.2.2.2.2.2.2.1
  obtain ⟨cs, pa, e321, kw⟩ := h.wk
  obtain ⟨ro, -, -, -, -, e322, -⟩ := h.rows
  unfold F_X8_why
  refine Pa_r h320 ?_
  cases e : uo c F.1 p with
  | none =>
    rw [aWhyA_n (s := (c, F, U, W, H)) e]
    exact Pa_be (at_none h.1 hc h.2.1 e) (Pa_on rfl (Pa_some rfl))
  | some k =>
    obtain ⟨u, hu, ea, -⟩ := at_some h.1 hc h.2.1 e
    obtain ⟨-, hk, hT, -⟩ := uo_some e
    rw [aWhyA_s (s := (c, F, U, W, H)) e]
    refine Pa_be ea (Pa_oS rfl (Pa_m e321 (Pa_m h320 (Pa_bs (Pa_bind (sa_val h hc hA hB kw) (fun S8 _ A => ?_))))))
    have h8 := h.fz A.1 (by unfold fzA; decide) (by unfold arA; decide)
    have hK8 := hK.fz h A.1 rfl rfl rfl
    have e320 : gFR S8 320 x = some us := h8.1.2.2.2.2.2.2.2.2.1
    exact Pa_m ((A.1.fr 322 x).trans e322) (Pa_m e320 (Pa_bs (Pa_obd (rsf_val h8 hc hA (SC.vs h A.1 (by unfold arA; decide) A.2) hK8 ((A.1.fr 322 x).trans e322) hk hT ((h.1.row A.1 k).trans hu)) (fun v S15 _ hv => Pa_some hv.1))))
theorem ne_loop (h0 : CA x m o R G us t c c2 F U W H ρ ω Λ S0) (hc : c ≤ 16) (hA : WA c F W) (hV : VS c F W H t S0) (hK : KC Λ.2.2 S0 t c F K) {ro : Nat} (e322 : gFR S0 322 x = some ro) : ∀ (n u : Nat) (S1 : sSt), u ≤ 16 → Sh (S0, fzW, ρ, arX 160) (own Λ R) S1 → Pa (L_X8_needs_15 Λ.2.2 n S1 x (nI (cb (neB (c, F, U, W, H) K) u)) (nI u)) (fun r => r.1 = aNeeds (c, F, U, W, H) K)
  | 0, _, _, _, _ => Pa_none
  | n + 1, u, S1, hu, g => by
    have h1 := h0.fz g (by unfold fzA; decide) (arX_A (Or.inl rfl))
    have hV1 := VS.fz h0 hV g rfl (arX_A (Or.inl rfl))
    have hK1 := hK.fz h0 g rfl rfl rfl
    have e320 : gFR S1 320 x = some us := h1.1.2.2.2.2.2.2.2.2.1
    show Pa (Y_X8_needs_15 Λ.2.2 (L_X8_needs_15 Λ.2.2 n) S1 x (nI (cb (neB (c, F, U, W, H) K) u)) (nI u)) _
    unfold Y_X8_needs_15 B_X8_needs_52
    by_cases c0 : u = 16
    · rw [c0]
      exact Pa_it (leN (a := 16) (by omega) (by omega) (by omega)) (Pa_some rfl)
    · have hu2 : u < 16 := by omega
      refine Pa_if (nleN (b := u) (a := 16) (by omega) (by omega) (by omega)) (Pa_r e320 ?_)
      rw [n_a1 u]
      cases e : uo c F.1 (nI u) with
      | none =>
        refine Pa_be (at_none h1.1 hc h1.2.1 e) (Pa_on rfl ?_)
        have z := ne_loop h0 hc hA hV hK e322 n (u + 1) S1 (by omega) g
        rw [cb_f (neB_f (s := (c, F, U, W, H)) (uo_no hu2 e))] at z
        exact z
      | some k =>
        obtain ⟨rfl, hk, hT⟩ := uo_ye hu2 e
        obtain ⟨v, hv, ea, -⟩ := at_some h1.1 hc h1.2.1 e
        refine Pa_be ea (Pa_oS rfl (Pa_m ((g.fr 322 x).trans e322) (Pa_m e320 (Pa_bs (Pa_obd (rsf_val h1 hc hA hV1 hK1 ((g.fr 322 x).trans e322) hk hT hv) (fun w S15 _ hw => ?_))))))
        obtain ⟨q1, q2⟩ := hw
        have q1 : w = aWhy K (c, F, U, W, H) k := q1
        have g15 : Sh (S0, fzW, ρ, arX 160) (own Λ R) S15 := g.up q2 (fun _ z => z) (fun _ z => z)
        have z := ne_loop h0 hc hA hV hK e322 n (k + 1) S15 (by omega) g15
        rw [q1]
        by_cases cw : aWhy K (c, F, U, W, H) k = 0
        · rw [cb_f (neB_0 cw)] at z
          exact Pa_it cw z
        · rw [cb_t (neB_1 (s := (c, F, U, W, H)) (tE_i.mpr ⟨hk, hT⟩) cw)] at z
          rw [n_a1]
          exact Pa_if cw z
theorem needs_c (h : CA x m o R G us t c c2 F U W H ρ ω Λ S) (hK : KC Λ.2.2 S t c F K) (hc : c ≤ 16) (hA : WA c F W) (hB : HA c F H) : Pa (F_X8_needs Λ.2.2 S x) (fun r => r.1 = aNeeds (c, F, U, W, H) K) := by
  have h320 := h.1.2.2.2.2.2.2.2.2.1
  obtain ⟨cs, pa, e321, kw⟩ := h.wk
  obtain ⟨ro, -, -, -, -, e322, -⟩ := h.rows
  unfold F_X8_needs
  refine Pa_m e321 (Pa_m h320 (Pa_bs (Pa_bind (sa_val h hc hA hB kw) (fun S8 _ A => ?_))))
  have h8 := h.fz A.1 (by unfold fzA; decide) (by unfold arA; decide)
  exact ne_loop h8 hc hA (SC.vs h A.1 (by unfold arA; decide) A.2) (hK.fz h A.1 rfl rfl rfl) ((A.1.fr 322 x).trans e322) FU 0 S8 (Nat.zero_le _) (h8.1.shz _ _)
theorem force_c (h : CA x m o R G us t c c2 F U W H ρ ω Λ S) (hK : KC Λ.2.2 S t c F K) (hc : c ≤ 16) (hA : WA c F W) (hB : HA c F H) (p : Int32) : Pa (F_X8_force Λ.2.2 S x p) (fun r => r.1 = (aForce (c, F, U, W, H) K p).1 ∧ KC Λ.2.2 r.2 t c F (aForce (c, F, U, W, H) K p).2.1 ∧ gFI r.2 324 x = gFI S 324 x + (aForce (c, F, U, W, H) K p).2.2) := by
  have h320 := h.1.2.2.2.2.2.2.2.2.1
  obtain ⟨cs, pa, e321, kw⟩ := h.wk
  unfold F_X8_force
  refine Pa_r h320 ?_
  cases e : uo c F.1 p with
  | none =>
    rw [aForce_n (s := (c, F, U, W, H)) e]
    exact Pa_be (at_none h.1 hc h.2.1 e) (Pa_on rfl (Pa_some ⟨rfl, hK, (Int32.add_zero _).symm⟩))
  | some k =>
    obtain ⟨u, hu, ea, -⟩ := at_some h.1 hc h.2.1 e
    obtain ⟨-, hk, hT, -⟩ := uo_some e
    rw [aForce_s (s := (c, F, U, W, H)) e]
    refine Pa_be ea (Pa_oS rfl (Pa_m e321 (Pa_m h320 (Pa_bs (Pa_bind (sa_val h hc hA hB kw) (fun S8 _ A => ?_))))))
    have h8 := h.fz A.1 (by unfold fzA; decide) (by unfold arA; decide)
    have hK8 := hK.fz h A.1 rfl rfl rfl
    refine Pa_bind (mk1_val h8 hc hA (SC.vs h A.1 (by unfold arA; decide) A.2) hK8 hk hT ((h.1.row A.1 k).trans hu)) (fun S12 _ g => Pa_some ?_)
    obtain ⟨g1, g2, g3, g4⟩ := g
    exact ⟨g4, g2, g3.trans (by rw [(A.1.2.2.2.2.2.2.2.1 324 rfl x).1])⟩
end
section
variable {m c : Nat} {G : Nat → Nat} {Λ : sLay} {S S0 S1 S2 : sSt} {F : aF} {U W : aU} {H : aH} {K : aK}
theorem MC.mi0 (h : MC m G Λ S S) {fz : Nat → Bool} (f : fz 360 = false) : MI m G Λ (S, S, fz) (sFI S 360 m 0) := (h.mi fz).wF (f := 360) f (rg0 (P := fun B => nB B _) (by decide))
theorem kept_r (h : RA m G Λ c F U W H S) (hK : RKp G S c F K) (hc : c ≤ 16) (p i : Int32) : Pa (F_X9_kept Λ.2.2 S m p i) (fun r => gFI r.2 360 m = (aKept c F K p i).1 ∧ ((aKept c F K p i).1 = 0 → r.1 = (aKept c F K p i).2)) := by
  have hb := h.rb
  unfold F_X9_kept
  refine Pa_st (fun S1 e1 => ?_)
  have e360 : gFI S1 360 m = 0 := by rw [e1, gFI_sFI, if_pos ⟨rfl, rfl⟩]
  have gg : ∀ f, isM f = true → gFR S1 f m = some (G f) := fun f hf => h.1.1.g (by rw [e1]; rfl) f hf
  have gi1 : ∀ a q, gAI S1 a q = gAI S a q := fun a q => by rw [e1]; rfl
  have gj1 : ∀ a q, gAJ S1 a q = gAJ S a q := fun a q => by rw [e1]; rfl
  have h1 : S1.2.2.1 = S.2.2.1 := by rw [e1]; rfl
  have eU := isU_val h.1.g0 hc hb.2.1 (fun k hk => (h.2.2.1 k hk).1) p
  rw [← e1] at eU
  refine Pa_be eU ?_
  cases e : uo c F.1 p with
  | none =>
    rw [aKept_n e]
    exact Pa_it (iU0.mpr rfl) (Pa_some ⟨e360, fun _ => rfl⟩)
  | some k =>
    obtain ⟨ep, hk, hT, -⟩ := uo_some e
    obtain ⟨y1, y2⟩ := hK k hk hT
    refine Pa_if (fun z => by have := iU0.mp z; cases this) (Pa_r (gg 377 rfl) (Pa_g ?_))
    unfold B_X9_kept_55
    rw [ep, n_cl (n := k) (by omega), gi1, y1, ← ep]
    by_cases c0 : K.1 k = 0
    · rw [aKept_1 e c0]
      refine Pa_it c0 (Pa_st (fun S6 e6 => ?_))
      have e360 : gFI S6 360 m = 1 := by rw [e6, gFI_sFI, if_pos ⟨rfl, rfl⟩]
      rw [e360]
      exact Pa_if (by decide) (Pa_some ⟨e360, fun z => absurd z (by decide)⟩)
    · obtain ⟨z1, z2, z3, z4⟩ := y2 c0
      have e5 : (6 : Int32) * nI k + (5 : Int32) = nI (6 * k + 5) := e_add (n_m6 k) rfl
      have v5 : gAI S1 (G 376) (Int32.toNatClampNeg ((6 : Int32) * p + (5 : Int32))) = nI (sR (K.2 k) k).length := by
        rw [ep, e5, n_cl (by omega), gi1]
        exact z4 5 (by decide)
      refine Pa_if c0 (Pa_r (gg 376 rfl) (Pa_g ?_))
      rw [v5]
      refine Pa_be (in0_val (by omega)) ?_
      by_cases c1 : i < 0 ∨ nI (sR (K.2 k) k).length ≤ i
      · rw [if_pos c1, aKept_2 e c0 c1]
        refine Pa_it rfl (Pa_st (fun S6 e6 => ?_))
        have e360 : gFI S6 360 m = 2 := by rw [e6, gFI_sFI, if_pos ⟨rfl, rfl⟩]
        rw [e360]
        exact Pa_if (by decide) (Pa_some ⟨e360, fun z => absurd z (by decide)⟩)
      · rw [if_neg c1, aKept_v e c0 c1]
        obtain ⟨q, hq, rfl⟩ := nI_of (fun z => c1 (Or.inl z))
        have lt : q < (sR (K.2 k) k).length := Nat.lt_of_not_le (fun z => c1 (Or.inr (leN (by omega) hq z)))
        refine Pa_if (by decide) (Pa_st (fun S6 e6 => ?_))
        have e360 : gFI S6 360 m = 0 := by rw [e6, gFI_sFI, if_pos ⟨rfl, rfl⟩]
        have h6 : S6.2.2.1 = S.2.2.1 := by rw [e6]; exact h1
        have eq : (700 : Int32) * p + nI q = nI (700 * k + q) := by rw [ep]; exact e_add (n_m700 k) rfl
        rw [e360]
        refine Pa_it rfl (Pa_r (h.1.1.g h6 375) (Pa_g (Pa_some ⟨e360, fun _ => ?_⟩)))
        show gAJ S6 (G 375) (Int32.toNatClampNeg ((700 : Int32) * p + nI q)) = _
        rw [eq, n_cl (by omega), n_cl hq, List.getElem?_eq_getElem lt, e6, gAJ_sFI, gj1, z3 q _ (List.getElem?_eq_getElem lt)]
        rfl
theorem ou_loop (hG : ∀ f, isM f = true → gFR S1 f m = some (G f)) {k : Nat} (hk : k < 16) {X : List Int64} (lX : X.length ≤ 680) (hX : ∀ i v, X[i]? = some v → gAJ S1 (G 375) (700 * k + i) = v) (h5 : gAI S1 (G 376) (6 * k + 5) = nI X.length) {N : Nat → Nat} : ∀ (n i : Nat) (hh : Int64), i ≤ X.length → Pa (L_X9_output_31 N n S1 m (nI k) hh (nI i)) (fun q => q.1 = digF hh (X.drop i))
  | 0, _, _, _ => Pa_none
  | n + 1, i, hh, hi => by
    show Pa (Y_X9_output_31 N (L_X9_output_31 N n) S1 m (nI k) hh (nI i)) _
    unfold Y_X9_output_31 F_X9_mixed
    have e5 : (6 : Int32) * nI k + (5 : Int32) = nI (6 * k + 5) := e_add (n_m6 k) rfl
    have ei : (700 : Int32) * nI k + nI i = nI (700 * k + i) := e_add (n_m700 k) rfl
    refine Pa_r (hG 376 rfl) (Pa_g ?_)
    rw [e5, n_cl (n := 6 * k + 5) (by omega), h5, ei]
    by_cases c0 : i = X.length
    · refine Pa_it (leN (by omega) (by omega) (by omega)) (Pa_some ?_)
      rw [List.drop_eq_nil_of_le (by omega)]
      rfl
    · have hi2 : i < X.length := by omega
      refine Pa_if (nleN (by omega) (by omega) hi2) (Pa_r (hG 375 rfl) (Pa_g (Pa_bs ?_)))
      rw [n_cl (n := 700 * k + i) (by omega), hX i _ (List.getElem?_eq_getElem hi2), n_a1, List.drop_eq_getElem_cons hi2]
      exact ou_loop hG hk lX hX h5 n (i + 1) _ hi2
theorem output_r (h : RA m G Λ c F U W H S) (hK : RKp G S c F K) (hc : c ≤ 16) (p : Int32) : Pa (F_X9_output Λ.2.2 S m p) (fun r => r.1 = aOut c F K p) := by
  have hb := h.rb
  unfold F_X9_output
  refine Pa_b (Pa_be (isU_val h.1.g0 hc hb.2.1 (fun k hk => (h.2.2.1 k hk).1) p) ?_)
  cases e : uo c F.1 p with
  | none =>
    rw [aOut_n e]
    exact Pa_it (iU0.mpr rfl) (Pa_some rfl)
  | some k =>
    obtain ⟨ep, hk, hT, -⟩ := uo_some e
    obtain ⟨y1, y2⟩ := hK k hk hT
    refine Pa_if (fun z => by have := iU0.mp z; cases this) (Pa_r (hb.1.1 377 rfl) (Pa_g ?_))
    rw [ep, n_cl (n := k) (by omega), gAI_sFI, y1, ← ep]
    by_cases c0 : K.1 k = 0
    · rw [aOut_1 e c0]
      exact Pa_it c0 (Pa_some rfl)
    · obtain ⟨z1, z2, z3, z4⟩ := y2 c0
      rw [aOut_v e c0, ep]
      refine Pa_if c0 (Pa_mono (ou_loop (fun f hf => hb.1.1 f hf) (by omega) z2 (fun i v hv => z3 i v hv) (z4 5 (by decide)) FU 0 17 (Nat.zero_le _)) (fun r hr => ?_))
      rw [List.drop_zero] at hr
      exact hr
theorem why_r (h : RA m G Λ c F U W H S) (hK : RKp G S c F K) (hc : c ≤ 16) (hA : WA c F W) (hB : HA c F H) (hM : MA c F) (p : Int32) : Pa (F_X9_why Λ.2.2 S m p) (fun r => r.1 = aWhyA (c, F, U, W, H) K p) := by
  have hb := h.rb
  unfold F_X9_why
  refine Pa_b (Pa_be (isU_val h.1.g0 hc hb.2.1 (fun k hk => (h.2.2.1 k hk).1) p) ?_)
  cases e : uo c F.1 p with
  | none =>
    rw [aWhyA_n (s := (c, F, U, W, H)) e]
    exact Pa_it (iU0.mpr rfl) (Pa_some rfl)
  | some k =>
    obtain ⟨ep, hk, hT, -⟩ := uo_some e
    rw [aWhyA_s (s := (c, F, U, W, H)) e, ep]
    have hmi : MI m G Λ (S, S, nfz [360, 379, 380, 381, 387, 388, 389]) (sFI S 360 m 0) := h.1.mi0 rfl
    refine Pa_if (fun z => by have := iU0.mp z; cases this) (Pa_bind (Pa_and (ro_val h hc hA hB hM hk hT) (Pa_T (tF_X9_rowOf (Y := (S, S, nfz [360, 379, 380, 381, 387, 388, 389])) rfl rfl rfl rfl rfl rfl _ hmi (nI k) k rfl (by omega)))) (fun S5 _ h5 => ?_))
    obtain ⟨⟨S4, hRR, hL⟩, hI⟩ := h5
    exact Pa_bind (wo_val hRR.1.1 (hRR.sz hk hT) hk hc hT hL (hK.mi hI rfl rfl rfl)) (fun v _ hv => Pa_some hv)
theorem nr_loop (h0 : RR m G Λ c F U W H S0) (hK : RKp G S0 c F K) (hc : c ≤ 16) (hA : WA c F W) (hM : MA c F) : ∀ (n u : Nat) (S1 : sSt), u ≤ c → MI m G Λ (S0, S0, nfz [387, 388, 389]) S1 → Pa (L_X9_needs_13 Λ.2.2 n S1 m (nI (cb (neB (c, F, U, W, H) K) u)) (nI u)) (fun r => r.1 = aNeeds (c, F, U, W, H) K)
  | 0, _, _, _, _ => Pa_none
  | n + 1, u, S1, hu, g => by
    have h1 : RR m G Λ c F U W H S1 := h0.mi g (by unfold fyA; decide) rfl
    have hG := h1.1.1
    show Pa (Y_X9_needs_13 Λ.2.2 (L_X9_needs_13 Λ.2.2 n) S1 m (nI (cb (neB (c, F, U, W, H) K) u)) (nI u)) _
    unfold Y_X9_needs_13 B_X9_needs_49 B_X9_needs_51
    rw [h1.1.2.1]
    by_cases c0 : u = c
    · refine Pa_it (leN (by omega) (by omega) (by omega)) (Pa_some ?_)
      show _ = nI (cb (neB (c, F, U, W, H) K) 16)
      rw [c0, cb_far (g := neB (c, F, U, W, H) K) (c := c) (fun k hk => neB_f (s := (c, F, U, W, H)) (by
        cases z : tE c F k with
        | false => rfl
        | true => have := (tE_i.mp z).1; omega)) 16 hc]
    · have hu2 : u < c := by omega
      refine Pa_if (nleN (by omega) (by omega) hu2) (Pa_r (hG.1 362 rfl) (Pa_g ?_))
      rw [n_cl (n := u) (by omega), n_a1 u]
      have e362 := (h1.1.2.2.1 u hu2).1
      by_cases cT : F.1 u = true
      · refine Pa_if (fun z => by rw [e362.mp z] at cT; cases cT) (Pa_bind (Pa_and (lr_val h1 hc hA hM hu2 cT) (Pa_T (tF_X9_layRow (Y := (S0, S0, nfz [387, 388, 389])) rfl rfl rfl S1 g (nI u) u rfl (by omega)))) (fun S7 _ h7 => ?_))
        obtain ⟨hL, hI, -⟩ := h7
        refine Pa_bind (wo_val hG (h1.sz hu2 cT) hu2 hc cT hL (hK.mi hI rfl rfl rfl)) (fun v _ hv => ?_)
        rw [hv]
        have z := nr_loop h0 hK hc hA hM n (u + 1) S7 hu2 hI
        by_cases cw : aWhy K (c, F, U, W, H) u = 0
        · rw [cb_f (neB_0 cw)] at z
          refine Pa_it (aWhy_le.mpr cw) ?_
          rw [Int32.add_zero]
          exact z
        · rw [cb_t (neB_1 (s := (c, F, U, W, H)) (tE_i.mpr ⟨hu2, cT⟩) cw)] at z
          refine Pa_if (fun y => cw (aWhy_le.mp y)) ?_
          rw [n_a1]
          exact z
      · have z := nr_loop h0 hK hc hA hM n (u + 1) S1 hu2 g
        rw [cb_f (neB_f (s := (c, F, U, W, H)) (by
          cases z : tE c F u with
          | false => rfl
          | true => exact absurd (tE_i.mp z).2 cT))] at z
        exact Pa_it (e362.mpr (bf_of cT)) z
theorem needs_r (h : RA m G Λ c F U W H S) (hK : RKp G S c F K) (hc : c ≤ 16) (hA : WA c F W) (hB : HA c F H) (hM : MA c F) : Pa (F_X9_needs Λ.2.2 S m) (fun r => r.1 = aNeeds (c, F, U, W, H) K) := by
  have hb := h.rb
  have hmi : MI m G Λ (S, S, nfz [360, 379, 380, 381]) (sFI S 360 m 0) := h.1.mi0 rfl
  unfold F_X9_needs
  refine Pa_b (Pa_bind (Pa_and (rk_val hb hc hA hB) (Pa_T (tF_X9_reckon (Y := (S, S, nfz [360, 379, 380, 381])) rfl rfl rfl _ hmi))) (fun S3 _ h3 => ?_))
  obtain ⟨A, hI⟩ := h3
  exact nr_loop (A.rr h.2.2.2.1 hb) (hK.mi hI rfl rfl rfl) hc hA hM FU 0 S3 (Nat.zero_le _) (hI.c.self.mi _)
theorem force_r (h : RA m G Λ c F U W H S) (hK : RKp G S c F K) (hc : c ≤ 16) (hA : WA c F W) (hB : HA c F H) (hM : MA c F) (p : Int32) : Pa (F_X9_force Λ.2.2 S m p) (fun r => r.1 = (aForce (c, F, U, W, H) K p).1 ∧ RKp G r.2 c F (aForce (c, F, U, W, H) K p).2.1 ∧ gFI r.2 378 m = gFI S 378 m + (aForce (c, F, U, W, H) K p).2.2) := by
  have hb := h.rb
  unfold F_X9_force
  refine Pa_b (Pa_be (isU_val h.1.g0 hc hb.2.1 (fun k hk => (h.2.2.1 k hk).1) p) ?_)
  cases e : uo c F.1 p with
  | none =>
    rw [aForce_n (s := (c, F, U, W, H)) e]
    refine Pa_it (iU0.mpr rfl) (Pa_some ⟨rfl, hK.cg (fun _ => rfl) (fun _ => rfl) (fun _ => rfl), ?_⟩)
    show gFI (sFI S 360 m 0) 378 m = _ + 0
    rw [gFI_ne (by decide), Int32.add_zero]
  | some k =>
    obtain ⟨ep, hk, hT, -⟩ := uo_some e
    rw [aForce_s (s := (c, F, U, W, H)) e, ep]
    have hmi : MI m G Λ (S, S, nfz [360, 379, 380, 381, 387, 388, 389]) (sFI S 360 m 0) := h.1.mi0 rfl
    refine Pa_if (fun z => by have := iU0.mp z; cases this) (Pa_bind (Pa_and (ro_val h hc hA hB hM hk hT) (Pa_T (tF_X9_rowOf (Y := (S, S, nfz [360, 379, 380, 381, 387, 388, 389])) rfl rfl rfl rfl rfl rfl _ hmi (nI k) k rfl (by omega)))) (fun S5 _ h5 => ?_))
    obtain ⟨⟨S4, hRR, hL⟩, hI⟩ := h5
    have hK5 : RKp G S5 c F K := hK.mi hI rfl rfl rfl
    refine Pa_bind (kp_val hRR.1.1 (by omega) hL (fun i hi => sP_q (s := (c, F, U, W, H)) hi)) (fun S7 _ g => ?_)
    have gg : gFR S7 377 m = some (G 377) := hRR.1.1.g (g.1.1.trans hL.1.1) 377
    refine Pa_r gg (Pa_g (Pa_some ⟨?_, hK5.keep (s := (c, F, U, W, H)) hc (hRR.sz hk hT) hL.2.2.1 hk hT g, ?_⟩))
    · show gAI S7 (G 377) (Int32.toNatClampNeg (nI k)) = K.1 k + 1
      rw [n_cl (by omega), g.2.2.2.2.2.1 k, if_pos rfl, (hK5 k hk hT).1]
    · show gFI S7 378 m = gFI S 378 m + 1
      rw [g.2.2.2.2.2.2, (hI.2 378 rfl).1]
end
