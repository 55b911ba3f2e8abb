/-! What holds before each turn: all of PT, and what is kept. -/
def PK (x m o : Nat) (R : List Nat) (G : Nat → Nat) (us t c : Nat) (F : aF) (U W : aU) (H : aH) (K : aK) (ρ ω : Nat → Nat) (Λ : sLay) (S : sSt) : Prop := PT x m o R G us t c F U W H ρ ω Λ S ∧ KC Λ.2.2 S t c F K ∧ RKp G S c F K ∧ gFI S 324 x = gFI S 378 m
section
variable {x m o us t c : Nat} {R : List Nat} {G : Nat → Nat} {ρ ω : Nat → Nat} {Λ : sLay} {S S1 S2 : sSt} {F F2 : aF} {U U2 W W2 : aU} {H H2 : aH} {K K2 : aK}
theorem PK.pt (h : PK x m o R G us t c F U W H K ρ ω Λ S) : PT x m o R G us t c F U W H ρ ω Λ S := h.1
theorem PK.c1 (h : PK x m o R G us t c F U W H K ρ ω Λ S) {fz Ar : Nat → Bool} (g : Sh (S, fz, ρ, Ar) (own Λ R) S1) (f : fzA fz) (a : arA Ar) (f0 : fz 250 = true) (f4 : fz 324 = true) (a1 : Ar 243 = true) (a2 : Ar 2243 = true) : PK x m o R G us t c F U W H K ρ ω Λ S1 := by
  have kR := fun a ha => h.1.pd.out g (a := a) ha
  refine ⟨h.1.c1 g f a, h.2.1.fz h.1.ca g f0 a1 a2, h.2.2.1.kp (fun f hf => kR _ (h.1.pd.2.2.1 f hf)), ?_⟩
  rw [(g.2.2.2.2.2.2.2.1 324 f4 x).1, (kR m h.1.pd.2.1).1 378]
  exact h.2.2.2
theorem PK.r1 (h : PK x m o R G us t c F U W H K ρ ω Λ S) {fy : Nat → Bool} (g : MI m G Λ (S, S, fy) S1) (f : fyA fy) (f5 : fy 375 = true) (f6 : fy 376 = true) (f7 : fy 377 = true) (f8 : fy 378 = true) : PK x m o R G us t c F U W H K ρ ω Λ S1 := by
  have kO := fun a ha => h.1.pd.inn g.c (a := a) ha
  refine ⟨h.1.r1 g f, h.2.1.kp h.1.ca kO, h.2.2.1.mi g f5 f6 f7, ?_⟩
  rw [(kO x h.1.pd.kx.1).1 324, (g.2 378 f8).1]
  exact h.2.2.2
/-- a call that changes other things -/
theorem PK.ch (h : PK x m o R G us t c F U W H K ρ ω Λ S) {fz Ar fy : Nat → Bool} (g : Sh (S, fz, ρ, Ar) (own Λ R) S1) (f0 : fz 250 = true) (f4 : fz 324 = true) (a1 : Ar 243 = true) (a2 : Ar 2243 = true) (k : MI m G Λ (S1, S1, fy) S2) (f5 : fy 375 = true) (f6 : fy 376 = true) (f7 : fy 377 = true) (f8 : fy 378 = true) (hm : ∀ k, F2.1 k = true → F.1 k = true) (p : PT x m o R G us t c F2 U2 W2 H2 ρ ω Λ S2) : PK x m o R G us t c F2 U2 W2 H2 K ρ ω Λ S2 := by
  have kR := fun a ha => h.1.pd.out g (a := a) ha
  have hK1 : KC Λ.2.2 S1 t c F K := h.2.1.fz h.1.ca g f0 a1 a2
  have kI : ∀ a, a ∈ (own Λ R).1 → kpA S1 S2 a := fun a ha => k.c.2.2.2.2 a (fun z => (own_mem.mp ha).2 (z ▸ h.1.pd.2.1)) (fun f hf z => (own_mem.mp ha).2 (z ▸ h.1.pd.2.2.1 f hf))
  refine ⟨p, fun q hq hT => ?_, (h.2.2.1.kp (fun f hf => kR _ (h.1.pd.2.2.1 f hf))).mi k f5 f6 f7 |>.mono hm, ?_⟩
  · obtain ⟨u, r, la, hu, er, e5, g2⟩ := hK1 q hq (hm q hT)
    have hu0 : gAR S t q = some u := (h.1.pd.row g q).symm.trans hu
    have tu := h.1.pd.un hu0
    obtain ⟨r', la', x1, x2, -, x4, -, -⟩ := h.1.ca.kr tu
    rw [← g.fr 243 u, er] at x1
    cases x1
    refine ⟨u, r, la, ((kI t h.1.pd.kt.1).2.2.2.2.2 q).trans hu, ((kI u tu.1).2.2.1 243).trans er, ((kI u tu.1).1 250).trans e5, fun n => ?_⟩
    obtain ⟨z1, z2, z3⟩ := g2 n
    have el : la' = la := by
      have := z2.2.1
      rw [g.fr 120 r, x2] at this
      exact Option.some.inj this
    subst el
    have kr := kI r x4.2.2.1.1
    have kl := kI la' x4.2.2.2.1.1
    exact ⟨z1, z2.same (kr.1 121) (kr.2.2.1 120) kl.2.2.2.2.1, (kr.1 122).trans z3.1, (kr.1 123).trans z3.2.1, (kr.1 124).trans z3.2.2.1, (kr.1 125).trans z3.2.2.2⟩
  · rw [(kI x h.1.pd.kx.1).1 324, (k.2 378 f8).1, (g.2.2.2.2.2.2.2.1 324 f4 x).1, (kR m h.1.pd.2.1).1 378]
    exact h.2.2.2
/-- a call that keeps rows: both do the same to what is kept -/
theorem PK.kk (h : PK x m o R G us t c F U W H K ρ ω Λ S) {fz Ar fy : Nat → Bool} (g : Sh (S, fz, ρ, Ar) (own Λ R) S1) (f : fzA fz) (a : arA Ar) (k : MI m G Λ (S1, S1, fy) S2) (fy' : fyA fy) {a1 : Int32} (hc : KC Λ.2.2 S1 t c F K2) (e1 : gFI S1 324 x = gFI S 324 x + a1) (hr : RKp G S2 c F K2) (e2 : gFI S2 378 m = gFI S1 378 m + a1) : PK x m o R G us t c F U W H K2 ρ ω Λ S2 := by
  have kR := fun a ha => h.1.pd.out g (a := a) ha
  have p1 := h.1.c1 g f a
  have kO := fun a ha => p1.pd.inn k.c (a := a) ha
  refine ⟨p1.r1 k fy', hc.kp p1.ca kO, hr, ?_⟩
  rw [(kO x h.1.pd.kx.1).1 324, e1, e2, (kR m h.1.pd.2.1).1 378, h.2.2.2]
theorem PK.ra1 (h : PK x m o R G us t c F U W H K ρ ω Λ S) {fz Ar : Nat → Bool} (g : Sh (S, fz, ρ, Ar) (own Λ R) S1) : RA m G Λ c F U W H S1 ∧ RKp G S1 c F K := ⟨h.1.ra1 g, h.2.2.1.kp (fun f hf => h.1.pd.out g (h.1.pd.2.2.1 f hf))⟩
theorem PK.kept_C (h : PK x m o R G us t c F U W H K ρ ω Λ S) (a1 a2 : Int32) : Pa (F_L_kept Λ.2.2 S x a1 a2 o) (fun r => r.1 = (aKept c F K a1 a2).1 ∧ ((aKept c F K a1 a2).1 = 0 → gAJ r.2 o 0 = (aKept c F K a1 a2).2)) := kept_c h.1.ca h.2.1 h.1.1 a1 a2
theorem PK.kept_R (h : PK x m o R G us t c F U W H K ρ ω Λ S) (a1 a2 : Int32) : Pa (F_X9_kept Λ.2.2 S m a1 a2) (fun r => gFI r.2 360 m = (aKept c F K a1 a2).1 ∧ ((aKept c F K a1 a2).1 = 0 → r.1 = (aKept c F K a1 a2).2)) := kept_r h.1.ra h.2.2.1 h.1.1 a1 a2
theorem PK.why_C (h : PK x m o R G us t c F U W H K ρ ω Λ S) (a1 : Int32) : Pa (F_X8_why Λ.2.2 S x a1) (fun r => r.1 = aWhyA (c, F, U, W, H) K a1) := why_c h.1.ca h.2.1 h.1.1 h.1.wa h.1.ha a1
theorem PK.why_R (h : PK x m o R G us t c F U W H K ρ ω Λ S) (a1 : Int32) : Pa (F_X9_why Λ.2.2 S m a1) (fun r => r.1 = aWhyA (c, F, U, W, H) K a1) := why_r h.1.ra h.2.2.1 h.1.1 h.1.wa h.1.ha h.1.ma a1
theorem PK.needs_C (h : PK x m o R G us t c F U W H K ρ ω Λ S) : Pa (F_X8_needs Λ.2.2 S x) (fun r => r.1 = aNeeds (c, F, U, W, H) K) := needs_c h.1.ca h.2.1 h.1.1 h.1.wa h.1.ha
theorem PK.needs_R (h : PK x m o R G us t c F U W H K ρ ω Λ S) : Pa (F_X9_needs Λ.2.2 S m) (fun r => r.1 = aNeeds (c, F, U, W, H) K) := needs_r h.1.ra h.2.2.1 h.1.1 h.1.wa h.1.ha h.1.ma
theorem PK.output_C (h : PK x m o R G us t c F U W H K ρ ω Λ S) (a1 : Int32) : Pa (F_X8_output Λ.2.2 S x a1) (fun r => r = aOut c F K a1) := output_c h.1.ca h.2.1 h.1.1 a1
theorem PK.output_R (h : PK x m o R G us t c F U W H K ρ ω Λ S) (a1 : Int32) : Pa (F_X9_output Λ.2.2 S m a1) (fun r => r.1 = aOut c F K a1) := output_r h.1.ra h.2.2.1 h.1.1 a1
theorem PK.anew_C (h : PK x m o R G us t c F U W H K ρ ω Λ S) : Pa (F_X8_anew Λ.2.2 S x) (fun r => r.1 = aAnew (c, F, U, W, H)) := anew_c h.1.ca h.1.1 h.1.wa h.1.ha h.1.ma
theorem PK.anew_R (h : PK x m o R G us t c F U W H K ρ ω Λ S) : Pa (F_X9_anew Λ.2.2 S m) (fun r => r.1 = aAnew (c, F, U, W, H)) := anew_r h.1.ra h.1.1 h.1.wa h.1.ha h.1.ma (ord_16 h.1.wa h.1.1)
end
def pInvK (x m o t : Nat) (Λ : sLay) (S : sSt) : Prop := ∃ (R : List Nat) (G : Nat → Nat) (us tt c : Nat) (F : aF) (U W : aU) (H : aH) (K : aK) (ρ ω : Nat → Nat), PK x m o R G us tt c F U W H K ρ ω Λ S
theorem pInvK_0 : ∀ x m o Λ S, R_start x m o Λ S → pInvK x m o 0 Λ S := fun x m o Λ S h => by
  obtain ⟨R, G, us, tt, c, ρ, ω, hc0, hn, h1⟩ := pInv0_0 x m o Λ S h
  subst hc0
  obtain ⟨⟨_, _, _, _, _, _, hF⟩, hMm, -⟩ := fresh_of h
  exact ⟨R, G, us, tt, 0, (fun _ => false, fun _ => 0, fun _ => 0), fun _ => [], fun _ => [], fun _ => [], (fun _ => 0, fun _ => (0, (fun _ => false, fun _ => 0, fun _ => 0), fun _ => [], fun _ => [], fun _ => [])), ρ, ω, PT.none h1 (fun k u t2 hk hu => by rw [hn k] at hu; cases hu), fun k hk => absurd hk (Nat.not_lt_zero k), fun k hk => absurd hk (Nat.not_lt_zero k), hF.2.2.2.1.trans hMm.2.2.1.symm⟩
