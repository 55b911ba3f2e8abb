/-! The class's walk over its constants. -/
/-- where a thing lies -/
def Ad (S : sSt) (t : Nat) (z : Nat × Nat) : Nat := (ad S t z).getD 0
/-- what the walk has written of it -/
def ph (S0 : sSt) (t : Nat) (S : sSt) : aN := fun z => (gFI S 205 (Ad S0 t z), gFJ S 206 (Ad S0 t z), gFI S 207 (Ad S0 t z), (gFI S 209 (Ad S0 t z)).toNatClampNeg)
def pth (S0 : sSt) (t pa : Nat) (S : sSt) : List (Nat × Nat) → Prop
  | [] => True
  | z :: r => gAR S pa r.length = some (Ad S0 t z) ∧ pth S0 t pa S r
theorem pth_congr {S0 S S' : sSt} {t pa : Nat} : ∀ (l : List (Nat × Nat)), (∀ i, i < l.length → gAR S' pa i = gAR S pa i) → pth S0 t pa S l → pth S0 t pa S' l
  | [], _, _ => trivial
  | z :: r, h, p => ⟨(h r.length (by rw [List.length_cons]; omega)).trans p.1, pth_congr r (fun i hi => h i (by rw [List.length_cons]; omega)) p.2⟩
abbrev fzS : Nat → Bool := nfz [1, 3, 205, 206, 207, 208, 209]
abbrev arS : Nat → Bool := nfz [0, 1000, 2000, 2, 1002, 2002]
theorem kM : (1000000 : Int32) = nI 1000000 := rfl
section
variable {x m o us t c c2 : Nat} {R : List Nat} {G : Nat → Nat} {ρ ω : Nat → Nat} {Λ : sLay} {S0 S S1 S' : sSt} {F : aF} {U W : aU} {H : aH}
theorem ad_fz (h : CA x m o R G us t c c2 F U W H ρ ω Λ S0) {fz Ar : Nat → Bool} (g : Sh (S0, fz, ρ, Ar) (own Λ R) S1) (a : arA Ar) (z : Nat × Nat) : ad S1 t z = ad S0 t z := by
  unfold ad
  rw [h.1.row g]
  cases e : gAR S0 t z.1 with
  | none => rfl
  | some u =>
    rw [Option.bind_some, Option.bind_some, g.fr]
    cases e2 : gFR S0 244 u with
    | none => rfl
    | some tt =>
      rw [Option.bind_some, Option.bind_some]
      obtain ⟨tk, rt, -⟩ := h.1.ftt (h.1.un e) e2
      exact (g.2.2.2.2.2.2.2.2.2 tt tk.1 (by rw [tk.2]; rfl) (by show Ar (ρ tt) = true; rw [rt]; exact a 244 (by decide))).2.2.2.2 z.2
/-- a thing that is there, where it lies -/
theorem CA.at0 (h : CA x m o R G us t c c2 F U W H ρ ω Λ S0) (hc : c ≤ 16) {z : Nat × Nat} {th : aT} (hz : vt c F H z) (hth : (H z.1)[z.2]? = some th) : ad S0 t z = some (Ad S0 t z) ∧ TC Λ.2.2 S0 (Ad S0 t z) th ∧ isK (own Λ R) 5 (Ad S0 t z) ∧ gFI S0 200 (Ad S0 t z) = nI z.1 := by
  obtain ⟨a, u, tt, e, y1, y2, y3, -⟩ := h.th hc hz.1 hz.2.1 hth
  have e2 : Ad S0 t z = a := by
    unfold Ad
    rw [show ad S0 t z = some a from e]
    rfl
  rw [e2]
  exact ⟨e, y1, y2, y3⟩
theorem vt.th {z : Nat × Nat} (hz : vt c F H z) : ∃ th, (H z.1)[z.2]? = some th := ⟨_, List.getElem?_eq_getElem hz.2.2⟩
theorem CA.inj (h : CA x m o R G us t c c2 F U W H ρ ω Λ S0) (hc : c ≤ 16) {z w : Nat × Nat} (hz : vt c F H z) (hw : vt c F H w) (e : Ad S0 t z = Ad S0 t w) : z = w := by
  obtain ⟨th, hth⟩ := hz.th
  obtain ⟨tw, htw⟩ := hw.th
  obtain ⟨a, u, tt, e1, -, -, -, a1, a2, a3⟩ := h.th hc hz.1 hz.2.1 hth
  obtain ⟨b, u', tt', e2, -, -, -, b1, b2, b3⟩ := h.th hc hw.1 hw.2.1 htw
  have ea : Ad S0 t z = a := by
    unfold Ad
    rw [show ad S0 t z = some a from e1]
    rfl
  have eb : Ad S0 t w = b := by
    unfold Ad
    rw [show ad S0 t w = some b from e2]
    rfl
  have eab : a = b := by rw [← ea, ← eb, e]
  subst eab
  have hz1 := hz.1
  have hw1 := hw.1
  have w1 := ((h.2.2.2.2.2 z.1 u tt (by omega) a1 a2).1 z.2 a a3).1
  have w2 := ((h.2.2.2.2.2 w.1 u' tt' (by omega) b1 b2).1 w.2 a b3).1
  have ett : tt = tt' := w1.symm.trans w2
  subst ett
  obtain ⟨-, -, q1⟩ := h.1.ftt (h.1.un a1) a2
  obtain ⟨-, -, q2⟩ := h.1.ftt (h.1.un b1) b2
  have eu : u = u' := q1.symm.trans q2
  subst eu
  have ej := h.1.inj (by omega) (by omega) a1 b1
  have ei := (h.2.2.2.2.2 z.1 u tt (by omega) a1 a2).2 z.2 w.2 a a3 b3
  exact prodE ej ei
/-- the same behind some of the walk -/
theorem CA.at1 (h : CA x m o R G us t c c2 F U W H ρ ω Λ S0) (hc : c ≤ 16) (g : Sh (S0, fzS, ρ, arS) (own Λ R) S1) {z : Nat × Nat} {th : aT} (hz : vt c F H z) (hth : (H z.1)[z.2]? = some th) : ad S1 t z = some (Ad S0 t z) ∧ TC Λ.2.2 S1 (Ad S0 t z) th ∧ gFI S1 200 (Ad S0 t z) = nI z.1 := by
  have h1 := h.fz g (by unfold fzA; decide) (by unfold arA; decide)
  obtain ⟨a, u, tt, e, y1, -, y3, -⟩ := h1.th hc hz.1 hz.2.1 hth
  have e0 := (h.at0 hc hz hth).1
  have e1 := ad_fz h g (by unfold arA; decide) z
  have ea : Ad S0 t z = a := by
    have := (e1.trans e0).symm.trans e
    cases this
    rfl
  rw [ea]
  exact ⟨e, y1, y3⟩
theorem tC_val {N : Nat → Nat} {u tt : Nat} {l : List aT} (g : CT1 N S u tt l) : F_X6_thingCount N S u = some (nI l.length) := by
  unfold F_X6_thingCount
  rw [g.2.1]
theorem tA_val {N : Nat → Nat} {u tt i a : Nat} {l : List aT} (g : CT1 N S u tt l) (hi : i < l.length) (ha : gAR S tt i = some a) : F_X6_thingAt N S u (nI i) = some (some a) := by
  obtain ⟨g1, g2, g3, g4, -⟩ := g
  unfold F_X6_thingAt
  rw [if_neg (nI_pos (by omega)), g2, if_neg (nleN (by omega) (by omega) (by omega))]
  simp only [bnd, g1, Option.bind_some, g4]
  rw [if_neg (nleN (by omega) (by omega) (by omega)), n_gi (by omega) (by omega), n_cl (by omega), ha]
/-- the things of a unit, in the class -/
theorem CA.un1 (h : CA x m o R G us t c c2 F U W H ρ ω Λ S0) (hc : c ≤ 16) (g : Sh (S0, fzS, ρ, arS) (own Λ R) S1) {k u : Nat} (hk : k < c) (hT : F.1 k = true) (hu : gAR S1 t k = some u) : ∃ tt, CT1 Λ.2.2 S1 u tt (H k) ∧ ∀ i, i < (H k).length → gAR S1 tt i = some (Ad S0 t (k, i)) := by
  have h1 := h.fz g (by unfold fzA; decide) (by unfold arA; decide)
  obtain ⟨tt, g1, -, -⟩ := h1.1.uall h1.2.2.2.2.1 hk hT hu
  refine ⟨tt, g1, fun i hi => ?_⟩
  have e := (h.at1 hc g (z := (k, i)) ⟨hk, hT, hi⟩ (List.getElem?_eq_getElem hi)).1
  rw [ad_of (z := (k, i)) hu g1.1] at e
  exact e
/-! all made fresh -/
def frs (S0 : sSt) (t : Nat) (S : sSt) (z : Nat × Nat) (th : aT) : Prop := gFI S 205 (Ad S0 t z) = 0 ∧ gFJ S 206 (Ad S0 t z) = th.2.1 ∧ gFI S 207 (Ad S0 t z) = 0 ∧ gFI S 208 (Ad S0 t z) = 0
def frD (c : Nat) (F : aF) (H : aH) (S0 : sSt) (t : Nat) (S : sSt) (k i : Nat) : Prop := ∀ z th, vt c F H z → (H z.1)[z.2]? = some th → (z.1 < k ∨ (z.1 = k ∧ z.2 < i)) → frs S0 t S z th
theorem rf_in (h : CA x m o R G us t c c2 F U W H ρ ω Λ S0) (hc : c ≤ 16) {k u : Nat} (hk : k < c) (hT : F.1 k = true) (hu : gAR S0 t k = some u) {P : sSt → Prop} {kk : sSt → Option Nat → Int32 → Option sSt} (hkk : ∀ S', Sh (S0, fzS, ρ, arS) (own Λ R) S' → frD c F H S0 t S' (k + 1) 0 → Pa (kk S' (some us) (nI k + 1)) P) : ∀ (n i : Nat) (S1 : sSt), i ≤ (H k).length → Sh (S0, fzS, ρ, arS) (own Λ R) S1 → frD c F H S0 t S1 k i → Pa (L_X0_refresh_18 Λ.2.2 kk n S1 us (nI k) (some u) (nI i)) P
  | 0, _, _, _, _, _ => Pa_none
  | n + 1, i, S1, hi, g, hD => by
    have hu1 : gAR S1 t k = some u := (h.1.row g k).trans hu
    obtain ⟨tt, g1, ga⟩ := h.un1 hc g hk hT hu1
    have hl := g1.2.2.1
    show Pa (Y_X0_refresh_18 Λ.2.2 kk (L_X0_refresh_18 Λ.2.2 kk n) S1 us (nI k) (some u) (nI i)) P
    unfold Y_X0_refresh_18 B_X0_refresh_76
    refine Pa_oS rfl (Pa_be (tC_val g1) ?_)
    by_cases c0 : i = (H k).length
    · refine Pa_it (leN (by omega) (by omega) (by omega)) (hkk S1 g (fun z th hz hth hlt => hD z th hz hth ?_))
      rcases hlt with q | q
      · by_cases cz : z.1 = k
        · refine Or.inr ⟨cz, ?_⟩
          have := hz.2.2
          rw [cz] at this
          omega
        · exact Or.inl (by omega)
      · exact absurd q.2 (Nat.not_lt_zero _)
    · have hi2 : i < (H k).length := by omega
      have hv : vt c F H (k, i) := ⟨hk, hT, hi2⟩
      have hth := List.getElem?_eq_getElem hi2
      obtain ⟨-, hTC, -⟩ := h.at1 hc g hv hth
      have ta := (h.at0 hc hv hth).2.2.1
      refine Pa_if (nleN (by omega) (by omega) (by omega)) (Pa_be (tA_val g1 hi2 (ga i hi2)) (Pa_oS rfl ?_))
      unfold B_X0_refresh_70
      refine Pa_b ?_
      rw [gFJ_sFI, hTC.2.1]
      refine Pa_b (Pa_b (Pa_b ?_))
      rw [n_a1 i]
      have no : isL 5 = true → Aw (S0, fzS, ρ, arS) (Ad S0 t (k, i)) := fun y => absurd y (by decide)
      refine rf_in h hc hk hT hu hkk n (i + 1) _ hi2 ((((g.sFI 205 ta 0 rfl no).sFJ 206 ta _ rfl no).sFI 207 ta 0 rfl no).sFI 208 ta 0 rfl no) (fun z th hz hth2 hlt => ?_)
      by_cases cz : z = (k, i)
      · subst cz
        have eth : (H k)[i] = th := by
          have := hth.symm.trans hth2
          cases this
          rfl
        rw [← eth]
        refine ⟨?_, ?_, ?_, ?_⟩ <;> simp [gFI_sFI, gFI_sFJ, gFJ_sFI, gFJ_sFJ]
      · have hne : Ad S0 t z ≠ Ad S0 t (k, i) := fun e => cz (h.inj hc hz hv e)
        obtain ⟨y1, y2, y3, y4⟩ := hD z th hz hth2 (by
          rcases hlt with q | q
          · exact Or.inl q
          · refine Or.inr ⟨q.1, ?_⟩
            have : z.2 ≠ i := fun e => cz (prodE q.1 e)
            omega)
        refine ⟨?_, ?_, ?_, ?_⟩ <;> simp [gFI_sFI, gFI_sFJ, gFJ_sFI, gFJ_sFJ, hne] <;> assumption
theorem rf_no {N : Nat → Nat} {P : sSt → Prop} {kk : sSt → Option Nat → Int32 → Option sSt} {p i : Int32} : ∀ n, Pa (kk S1 (some us) (p + 1)) P → Pa (L_X0_refresh_18 N kk n S1 us p none i) P
  | 0, _ => Pa_none
  | n + 1, h => by
    show Pa (Y_X0_refresh_18 N kk (L_X0_refresh_18 N kk n) S1 us p none i) P
    unfold Y_X0_refresh_18 B_X0_refresh_76
    exact Pa_on rfl h
theorem rf_out (h : CA x m o R G us t c c2 F U W H ρ ω Λ S0) (hc : c ≤ 16) : ∀ (n k : Nat) (S1 : sSt), k ≤ c → Sh (S0, fzS, ρ, arS) (own Λ R) S1 → frD c F H S0 t S1 k 0 → Pa (L_X0_refresh_2 Λ.2.2 n S1 (some us) (nI k)) (fun r => Sh (S0, fzS, ρ, arS) (own Λ R) r ∧ ∀ z th, vt c F H z → (H z.1)[z.2]? = some th → frs S0 t r z th)
  | 0, _, _, _, _, _ => Pa_none
  | n + 1, k, S1, hk, g, hD => by
    have h1 := h.fz g (by unfold fzA; decide) (by unfold arA; decide)
    show Pa (Y_X0_refresh_2 Λ.2.2 (L_X0_refresh_2 Λ.2.2 n) S1 (some us) (nI k)) _
    unfold Y_X0_refresh_2
    refine Pa_bs ?_
    rw [h1.1.e1]
    by_cases c0 : k = c
    · refine Pa_it (leN (by omega) (by omega) (by omega)) (Pa_some ⟨g, fun z th hz hth => hD z th hz hth (Or.inl (by rw [c0]; exact hz.1))⟩)
    · have hk2 : k < c := by omega
      refine Pa_if (nleN (by omega) (by omega) (by omega)) ?_
      by_cases hT : F.1 k = true
      · obtain ⟨u, hu, ea, -⟩ := at_some h1.1 hc h1.2.1 (uo_at hk2 hc hT)
        have hu0 : gAR S0 t k = some u := (h.1.row g k).symm.trans hu
        refine Pa_be ea (rf_in h hc hk2 hT hu0 (fun S' g' hD' => ?_) FU 0 S1 (Nat.zero_le _) g hD)
        rw [n_a1]
        exact rf_out h hc n (k + 1) S' hk2 g' hD'
      · have e : uo c F.1 (nI k) = none := by
          unfold uo
          rw [if_neg (nI_pos (by omega)), n_cl (by omega), if_neg (fun z => hT z.2)]
        refine Pa_be (at_none h1.1 hc h1.2.1 e) (rf_no FU ?_)
        rw [n_a1]
        refine rf_out h hc n (k + 1) S1 hk2 g (fun z th hz hth hlt => hD z th hz hth ?_)
        rcases hlt with q | q
        · refine Or.inl ?_
          have : z.1 ≠ k := fun e => hT (by rw [← e]; exact hz.2.1)
          omega
        · exact absurd q.2 (Nat.not_lt_zero _)
theorem rf_val (h : CA x m o R G us t c c2 F U W H ρ ω Λ S0) (hc : c ≤ 16) : Pa (F_X0_refresh Λ.2.2 S0 (some us)) (fun r => Sh (S0, fzS, ρ, arS) (own Λ R) r ∧ ∀ z th, vt c F H z → (H z.1)[z.2]? = some th → frs S0 t r z th) :=
  rf_out h hc FU 0 S0 (Nat.zero_le _) (h.1.shz _ _) (fun z th _ _ hlt => absurd hlt (by omega))
/-! the walk -/
/-- the walker: its path -/
def WK (R : List Nat) (ρ : Nat → Nat) (Λ : sLay) (S0 : sSt) (cs pa : Nat) : Prop := isK (own Λ R) 0 cs ∧ gFR S0 0 cs = some pa ∧ isK (own Λ R) 13 pa ∧ ρ pa = 0 ∧ Λ.2.2 pa = 160
theorem CA.wk (h : CA x m o R G us t c c2 F U W H ρ ω Λ S0) : ∃ cs pa, gFR S0 321 x = some cs ∧ WK R ρ Λ S0 cs pa := by
  obtain ⟨cs, e1⟩ := h.1.2.2.2.2.2.2.1.2.1 321 (by decide) x h.1.kx id
  obtain ⟨t1, -, -⟩ := h.1.fz1 (f := 321) (by decide) (by decide) (by decide) h.1.kx.1 e1
  obtain ⟨pa, e2⟩ := h.1.2.2.2.2.2.2.1.2.1 0 (by decide) cs t1 id
  obtain ⟨t2, r2, -⟩ := h.1.fz1 (f := 0) (by decide) (by decide) (by decide) t1.1 e2
  exact ⟨cs, pa, e1, t1, e2, t2, r2, h.1.ro.2 pa t2.1 (0, 160) (by decide) r2⟩
def JS (R : List Nat) (ρ : Nat → Nat) (Λ : sLay) (c : Nat) (F : aF) (W : aU) (H : aH) (S0 : sSt) (t cs pa : Nat) (S : sSt) (l : List (Nat × Nat)) : Prop := Sh (S0, fzS, ρ, arS) (own Λ R) S ∧ gFI S 1 cs = nI l.length ∧ pth S0 t pa S l ∧ (∀ z, z ∈ l → ∃ p, p ≤ 3 ∧ gFI S 209 (Ad S0 t z) = nI p) ∧ JP c F W H (ph S0 t S) l ∧ l.length + cnt c F H (ph S0 t S) ≤ 160
def MM (c : Nat) (F : aF) (H : aH) (φ : aN) (l : List (Nat × Nat)) : Nat := 8 * cnt c F H φ + mu φ l
theorem en_val {cs pa a d : Nat} (k : WK R ρ Λ S0 cs pa) (g : Sh (S0, fzS, ρ, arS) (own Λ R) S1) (hd : gFI S1 1 cs = nI d) (h160 : d < 160) : Pa (F_X0_enter Λ.2.2 S1 cs (some a)) (fun r => r = sFI (sAR (sFI (sFI S1 205 a 1) 209 a 0) pa d (some a)) 1 cs (nI (d + 1))) := by
  have e0 : gFR S1 0 cs = some pa := (g.fr 0 cs).trans k.2.1
  have e1 : gFI (sAR (sFI (sFI S1 205 a 1) 209 a 0) pa d (some a)) 1 cs = nI d := by
    rw [gFI_sAR, gFI_sFI, if_neg (fun z => absurd z.1 (by decide)), gFI_sFI, if_neg (fun z => absurd z.1 (by decide))]
    exact hd
  have e2 : gFI (sFI (sFI S1 205 a 1) 209 a 0) 1 cs = nI d := e1
  unfold F_X0_enter
  rw [hd]
  refine Pa_if (nI_pos (by omega)) (Pa_r e0 (Pa_if (by rw [k.2.2.2.2]; exact nleN (by omega) (by omega) h160) (Pa_bs (Pa_b (Pa_b ?_)))))
  rw [e2, n_cl (by omega)]
  refine Pa_r (b := pa) e0 (Pa_g (Pa_b (Pa_b ?_)))
  rw [e1, n_a1]
  exact Pa_some rfl
/-- the store of the walk, when a thing is entered -/
theorem sh_en {cs pa d : Nat} {z : Nat × Nat} (k : WK R ρ Λ S0 cs pa) (g : Sh (S0, fzS, ρ, arS) (own Λ R) S1) (ta : isK (own Λ R) 5 (Ad S0 t z)) : Sh (S0, fzS, ρ, arS) (own Λ R) (sFI (sAR (sFI (sFI S1 205 (Ad S0 t z) 1) 209 (Ad S0 t z) 0) pa d (some (Ad S0 t z))) 1 cs (nI (d + 1))) :=
  (((g.sFI 205 ta 1 rfl (fun y => absurd y (by decide))).sFI 209 ta 0 rfl (fun y => absurd y (by decide))).sAR k.2.2.1 (by show arS (ρ pa) = false; rw [k.2.2.2.1]; rfl) d _ (okK.ek k.2.2.1 (okK.of ta))).sFI 1 k.1 _ rfl (fun y => absurd y (by decide))
theorem ph_en (h : CA x m o R G us t c c2 F U W H ρ ω Λ S0) (hc : c ≤ 16) {cs pa d : Nat} {w : Nat × Nat} (hw : vt c F H w) : ph S0 t (sFI (sAR (sFI (sFI S1 205 (Ad S0 t w) 1) 209 (Ad S0 t w) 0) pa d (some (Ad S0 t w))) 1 cs (nI (d + 1))) w = (1, (ph S0 t S1 w).2.1, (ph S0 t S1 w).2.2.1, 0) ∧ ∀ y, vt c F H y → y ≠ w → ph S0 t (sFI (sAR (sFI (sFI S1 205 (Ad S0 t w) 1) 209 (Ad S0 t w) 0) pa d (some (Ad S0 t w))) 1 cs (nI (d + 1))) y = ph S0 t S1 y := by
  refine ⟨?_, fun y hy hne => ?_⟩
  · unfold ph
    simp [gFI_sFI, gFI_sAR, gFJ_sFI, gFJ_sAR]
  · have hn : Ad S0 t y ≠ Ad S0 t w := fun e => hne (h.inj hc hy hw e)
    unfold ph
    simp [gFI_sFI, gFI_sAR, gFJ_sFI, gFJ_sAR, hn]
/-- a fresh constant is entered -/
theorem JS.enter (h : CA x m o R G us t c c2 F U W H ρ ω Λ S0) (hc : c ≤ 16) {cs pa : Nat} (k : WK R ρ Λ S0 cs pa) {l : List (Nat × Nat)} (J : JS R ρ Λ c F W H S0 t cs pa S1 l) {w : Nat × Nat} {tw : aT} (hw : nd c F H w tw) (h0 : (ph S0 t S1 w).1 = 0) (hl : ∀ z r, l = z :: r → ∃ th v, (H z.1)[z.2]? = some th ∧ th.2.2.2[(ph S0 t S1 z).2.2.2]? = some v ∧ fd W H z.1 (32 + v) = some w) : Pa (F_X0_enter Λ.2.2 S1 cs (some (Ad S0 t w))) (fun r => JS R ρ Λ c F W H S0 t cs pa r (w :: l) ∧ MM c F H (ph S0 t r) (w :: l) + 1 ≤ MM c F H (ph S0 t S1) l ∧ (∀ y, vt c F H y → (ph S0 t S1 y).1 ≠ 0 → (ph S0 t r y).1 ≠ 0) ∧ (ph S0 t r w).1 ≠ 0) := by
  obtain ⟨g, d1, p1, n1, jp, c1⟩ := J
  have hv := hw.vt
  obtain ⟨-, -, ta, -⟩ := h.at0 hc hv hw.2.2.1
  have h10 : w.2 < 10 := by
    obtain ⟨u, tt, -, g1⟩ := h.2.2.2.2.1 w.1 hv.1 hv.2.1
    have := g1.2.2.1
    have := hv.2.2
    omega
  refine Pa_mono (en_val k g d1 (d := l.length) (a := Ad S0 t w) ?_) (fun r hr => ?_)
  · have := cnt_one (φ' := fun y => if y = w then (1, 0, 0, 0) else ph S0 t S1 y) hc hv h10 h0 (by simp) (fun y _ hy => by simp [hy])
    omega
  · subst hr
    obtain ⟨e, E⟩ := ph_en (S1 := S1) (cs := cs) (pa := pa) (d := l.length) h hc hv
    have hcn := cnt_one hc hv h10 h0 (by rw [e]; exact (show (1 : Int32) ≠ 0 by decide)) E
    have wl : w ∉ l := fun y => by
      have := ((jp.2.1 w tw hw).2).mpr y
      rw [h0] at this
      exact absurd this (by decide)
    have El : ∀ y, y ∈ l → ph S0 t (sFI (sAR (sFI (sFI S1 205 (Ad S0 t w) 1) 209 (Ad S0 t w) 0) pa l.length (some (Ad S0 t w))) 1 cs (nI (l.length + 1))) y = ph S0 t S1 y := fun y hy => by
      obtain ⟨ty, hny⟩ := jp.1 y hy
      exact E y hny.vt (fun e => wl (e ▸ hy))
    refine ⟨⟨sh_en k g ta, by rw [gFI_sFI, if_pos ⟨rfl, rfl⟩, List.length_cons], ⟨?_, pth_congr l (fun i hi => ?_) p1⟩, fun z hz => ?_, jp.enter hw h0 hl E e, ?_⟩, ?_, fun y hy hne => ?_, by rw [e]; exact (show (1 : Int32) ≠ 0 by decide)⟩
    · rw [gAR_sFI, gAR_sAR, if_pos ⟨rfl, rfl⟩]
    · rw [gAR_sFI, gAR_sAR, if_neg (fun z => by have := z.2; omega)]
      rfl
    · rcases List.mem_cons.mp hz with q | q
      · refine ⟨0, by omega, ?_⟩
        rw [q]
        simp [gFI_sFI, gFI_sAR]
        rfl
      · obtain ⟨p, hp, ep⟩ := n1 z q
        refine ⟨p, hp, ?_⟩
        obtain ⟨ty, hny⟩ := jp.1 z q
        have hn : Ad S0 t z ≠ Ad S0 t w := fun e => wl (h.inj hc hny.vt hv e ▸ q)
        simp [gFI_sFI, gFI_sAR, hn]
        exact ep
    · rw [List.length_cons]
      omega
    · unfold MM
      show 8 * _ + ((7 - 2 * (ph S0 t _ w).2.2.2) + mu _ l) + 1 ≤ _
      rw [e, mu_congr l El]
      show 8 * _ + ((7 - 2 * 0) + mu (ph S0 t S1) l) + 1 ≤ _
      omega
    · by_cases cy : y = w
      · rw [cy, e]; exact (show (1 : Int32) ≠ 0 by decide)
      · rw [E y hy cy]; exact hne
end
