/-! What the class keeps of each unit: how often it was made, its row then. -/
def KC (N : Nat → Nat) (S : sSt) (t c : Nat) (F : aF) (K : aK) : Prop := ∀ k, k < c → F.1 k = true → ∃ u r la, gAR S t k = some u ∧ gFR S 243 u = some r ∧ gFI S 250 u = K.1 k ∧ (K.1 k ≠ 0 → szS (K.2 k) k ∧ RJ N S r la (sR (K.2 k) k) ∧ ENs S r (K.2 k) k)
/-- a unit is made -/
def kpK (K : aK) (s : aS) (j : Nat) : aK := (up1 K.1 j (K.1 j + 1), up1 K.2 j s)
abbrev fzM : Nat → Bool := nfz [41, 121, 122, 123, 124, 125, 250, 324]
section
variable {x m o us t c c2 : Nat} {R : List Nat} {G : Nat → Nat} {ρ ω : Nat → Nat} {Λ : sLay} {S S1 : sSt} {F F2 : aF} {U W : aU} {H : aH} {K : aK}
theorem CA.kr (h0 : CA x m o R G us t c c2 F U W H ρ ω Λ S) {u : Nat} (tu : isK (own Λ R) 6 u) : ∃ r la, gFR S 243 u = some r ∧ gFR S 120 r = some la ∧ Λ.2.2 la = 680 ∧ WR R ρ Λ (arW 243) 243 r la ∧ ω r = u ∧ ω la = r := by
  have hE := h0.1.2.2.2.2.2.2.1.2.1
  obtain ⟨r, e1⟩ := hE 243 (by decide) u tu id
  obtain ⟨t1, p1, w1⟩ := h0.1.fz1 (f := 243) (by decide) (by decide) (by decide) tu.1 e1
  obtain ⟨la, e2⟩ := hE 120 (by decide) r t1 id
  have tl := h0.1.2.2.2.2.2.2.1.1.1 120 r t1.1 la e2
  obtain ⟨z, w⟩ := h0.1.ro.1 120 (by decide) r la t1.1 e2
  have q1 : ρ la = 2243 := by
    unfold roL at z
    rw [if_neg (by decide), if_pos rfl, p1] at z
    exact z
  exact ⟨r, la, e1, e2, h0.1.ro.2 la tl.1 (2243, 680) (by decide) q1, ⟨arW_q.1, arW_q.2, t1, tl, p1, q1⟩, w1, w⟩
theorem CA.sz (h0 : CA x m o R G us t c c2 F U W H ρ ω Λ S) (hc : c ≤ 16) {j : Nat} (hj : j < c) (hT : F.1 j = true) : szS (c, F, U, W, H) j := by
  obtain ⟨u2, l2, b2, hu2, e242, hL2⟩ := h0.2.2.1 j hj hT
  obtain ⟨u3, l3, b3, hu3, e241, hL3⟩ := h0.2.2.2.1 j hj hT
  have n12 := h0.1.n12 (h0.1.un hu2) e242 hL2.2.1
  have n6 := h0.1.n6 (h0.1.un hu3) e241 hL3.2.1
  have a1 := hL2.2.2.1
  have a2 := hL3.2.2.1
  obtain ⟨u, tt, hu, g1, g2, g3, g4, g5⟩ := h0.2.2.2.2.1 j hj hT
  refine ⟨g3, fun th hth => ?_, ?_, ?_⟩
  · obtain ⟨i, hi, e⟩ := List.getElem_of_mem hth
    exact h0.b3 hc (z := (j, i)) ⟨hj, hT, hi⟩ (by rw [List.getElem?_eq_getElem hi, e])
  · show (U j).length ≤ 12
    omega
  · show (W j).length ≤ 6
    omega
theorem KC.fz (h : CA x m o R G us t c c2 F U W H ρ ω Λ S) (hK : KC Λ.2.2 S t c F K) {fz Ar : Nat → Bool} (g : Sh (S, fz, ρ, Ar) (own Λ R) S1) (f : fz 250 = true) (a1 : Ar 243 = true) (a2 : Ar 2243 = true) : KC Λ.2.2 S1 t c F K := fun k hk hT => by
  obtain ⟨u, r, la, hu, er, e5, g2⟩ := hK k hk hT
  obtain ⟨r', la', x1, x2, -, x4, -, -⟩ := h.kr (h.1.un hu)
  rw [er] at x1
  cases x1
  refine ⟨u, r, la, (h.1.row g k).trans hu, (g.fr 243 u).trans er, ((g.2.2.2.2.2.2.2.1 250 f u).1).trans e5, fun n => ?_⟩
  obtain ⟨z1, z2, z3⟩ := g2 n
  have el : la' = la := by
    have := z2.2.1
    rw [x2] at this
    exact Option.some.inj this
  subst el
  have ar : Ar (ρ r) = true := by rw [x4.2.2.2.2.1]; exact a1
  have al : Ar (ρ la') = true := by rw [x4.2.2.2.2.2]; exact a2
  have kr := g.2.2.2.2.2.2.2.2.2 r x4.2.2.1.1 (by rw [x4.2.2.1.2]; rfl) ar
  exact ⟨z1, z2.fz x4.2.2.1 x4.2.2.2.1 g ar al, (kr.1 122).trans z3.1, (kr.1 123).trans z3.2.1, (kr.1 124).trans z3.2.2.1, (kr.1 125).trans z3.2.2.2⟩
theorem KC.kp (h : CA x m o R G us t c c2 F U W H ρ ω Λ S) (hK : KC Λ.2.2 S t c F K) (k : ∀ a, a ∈ (own Λ R).1 → kpA S S1 a) : KC Λ.2.2 S1 t c F K := fun j hj hT => by
  obtain ⟨u, r, la, hu, er, e5, g2⟩ := hK j hj hT
  have tu := h.1.un hu
  obtain ⟨r', la', x1, x2, -, x4, -, -⟩ := h.kr tu
  rw [er] at x1
  cases x1
  have ku := k u tu.1
  refine ⟨u, r, la, ((k t h.1.kt.1).2.2.2.2.2 j).trans hu, (ku.2.2.1 243).trans er, (ku.1 250).trans e5, fun n => ?_⟩
  obtain ⟨z1, z2, z3⟩ := g2 n
  have el : la' = la := by
    have := z2.2.1
    rw [x2] at this
    exact Option.some.inj this
  subst el
  have kr := k r x4.2.2.1.1
  have kl := k la' x4.2.2.2.1.1
  exact ⟨z1, z2.same (kr.1 121) (kr.2.2.1 120) kl.2.2.2.2.1, (kr.1 122).trans z3.1, (kr.1 123).trans z3.2.1, (kr.1 124).trans z3.2.2.1, (kr.1 125).trans z3.2.2.2⟩
theorem KC.mono {N : Nat → Nat} (hK : KC N S t c F K) (hm : ∀ k, F2.1 k = true → F.1 k = true) : KC N S t c F2 K := fun k hk hT => hK k hk (hm k hT)
/-- why a unit is needed, in the class -/
theorem rsf_val (h : CA x m o R G us t c c2 F U W H ρ ω Λ S) (hc : c ≤ 16) (hA : WA c F W) (hV : VS c F W H t S) (hK : KC Λ.2.2 S t c F K) {ro : Nat} (e322 : gFR S 322 x = some ro) {j u : Nat} (hj : j < c) (hT : F.1 j = true) (hu : gAR S t j = some u) : Pa (F_X4_reasonFor Λ.2.2 S ro (some u) (some us)) (fun r => r.1 = aWhy K (c, F, U, W, H) j ∧ Sh (S, fzW, ρ, arX 160) (own Λ R) r.2) := by
  obtain ⟨ro', r1, l1, r2, l2, f1, f2, f3, f4, f5, n1, n2, k1, k2⟩ := h.rows
  rw [e322] at f1
  cases f1
  obtain ⟨u', r, la, hu', er, e5, g2⟩ := hK j hj hT
  rw [hu] at hu'
  cases hu'
  unfold F_X4_reasonFor
  refine Pa_bs ?_
  rw [e5]
  by_cases c0 : K.1 j = 0
  · exact Pa_it c0 (Pa_some ⟨(aWhy_1 c0).symm, h.1.shz _ _⟩)
  · refine Pa_if c0 (Pa_m f2 (Pa_bind (wr_val h hc hA hV (Or.inl rfl) f3 f5 n2 k2 k1 f4 n1 hj hT hu) (fun S4 _ g => ?_)))
    obtain ⟨g1, gJ, gE⟩ := g
    have h4 := h.fz g1 (by unfold fzA; decide) (arX_A (Or.inl rfl))
    have hK4 := hK.fz h g1 rfl rfl rfl
    obtain ⟨u4, r4, la4, hu4, er4, e54, g24⟩ := hK4 j hj hT
    rw [(h.1.row g1 j).trans hu] at hu4
    cases hu4
    obtain ⟨z1, z2, z3⟩ := g24 c0
    refine Pa_m ((g1.fr 160 ro).trans f2) (Pa_m er4 (Pa_bs (Pa_bind (ra_why (s := (c, F, U, W, H)) gJ gE z2 z3 (h.sz hc hj hT) z1) (fun v _ hv => Pa_some ⟨?_, g1⟩))))
    rw [aWhy_n c0]
    exact hv
/-- a unit is made, in the class -/
theorem mk1_val (h : CA x m o R G us t c c2 F U W H ρ ω Λ S) (hc : c ≤ 16) (hA : WA c F W) (hV : VS c F W H t S) (hK : KC Λ.2.2 S t c F K) {j u : Nat} (hj : j < c) (hT : F.1 j = true) (hu : gAR S t j = some u) : Pa (F_X8_makeOne Λ.2.2 S x (some u)) (fun S2 => Sh (S, fzM, ρ, arX 243) (own Λ R) S2 ∧ KC Λ.2.2 S2 t c F (kpK K (c, F, U, W, H) j) ∧ gFI S2 324 x = gFI S 324 x + 1 ∧ gFI S2 250 u = K.1 j + 1) := by
  have h320 := h.1.2.2.2.2.2.2.2.2.1
  have h280 := h.1.2.2.2.2.2.2.2.2.2.1
  obtain ⟨ro, r1, l1, r2, l2, f1, f2, f3, f4, f5, n1, n2, k1, k2⟩ := h.rows
  have tu := h.1.un hu
  obtain ⟨r, la, e243, e120, nla, k, w1, w2⟩ := h.kr tu
  obtain ⟨A, hAd⟩ : ∃ A : Nat → Prop, A = fun a => a = r ∨ a = la ∨ ρ a = 246 ∨ ρ a = 1246 ∨ ρ a = 161 ∨ ρ a = 2161 := ⟨_, rfl⟩
  have kW : RWa A S r := by
    rw [hAd]
    exact ⟨Or.inl rfl, fun b e => by rw [e120] at e; cases e; exact Or.inr (Or.inl rfl)⟩
  have kW2 : RWa A S r2 := by
    rw [hAd]
    exact ⟨Or.inr (Or.inr (Or.inr (Or.inr (Or.inl k2.2.2.2.2.1)))), fun b e => by rw [f5] at e; cases e; exact Or.inr (Or.inr (Or.inr (Or.inr (Or.inr k2.2.2.2.2.2))))⟩
  have ks : ∀ v, isK (own Λ R) 6 v → ∀ l, gFR S 246 v = some l → LWa A S l := fun v tv l el => by
    obtain ⟨l', b, e246, e40, tl, tb, rl, rb, -⟩ := h.so tv
    rw [el] at e246
    cases e246
    rw [hAd]
    exact ⟨Or.inr (Or.inr (Or.inl rl)), fun b' e => by rw [e40] at e; cases e; exact Or.inr (Or.inr (Or.inr (Or.inl rb)))⟩
  obtain ⟨-, rt, -⟩ := h.1.fz1 (f := 280) (by decide) (by decide) (by decide) h.1.kus.1 h280
  have nt : ¬ A t := by
    rw [hAd]
    rintro (z | z | z | z | z | z)
    · exact nek h.1.kt k.2.2.1 (by decide) z
    · exact nek h.1.kt k.2.2.2.1 (by decide) z
    · rw [rt] at z; exact absurd z (by decide)
    · rw [rt] at z; exact absurd z (by decide)
    · rw [rt] at z; exact absurd z (by decide)
    · rw [rt] at z; exact absurd z (by decide)
  have hat : ∀ S2 a, FrA A S S2 → (∃ t' k', gFR S2 280 us = some t' ∧ gAR S2 t' k' = some a) → ∀ l, gFR S 246 a = some l → LWa A S l := fun S2 a h2 ha => by
    obtain ⟨t', k', y1, y2⟩ := ha
    rw [(h2.fr 280 us).trans h280] at y1
    cases y1
    rw [(h2.1 t nt).2.2.2.2.2 k'] at y2
    exact ks a (h.1.un y2)
  unfold F_X8_makeOne
  refine Pa_m f1 (Pa_bs (Pa_m e243 (Pa_m h320 (Pa_bs (Pa_bind (Pa_and (wr_val h hc hA hV (Or.inr rfl) f3 f5 n2 k2 k e120 nla hj hT hu) (fr_wr (A := A) (B := S) FrA.rf kW kW2 f3 (ks u tu) hat)) (fun S7 _ g => Pa_b (Pa_b (Pa_some ?_))))))))
  obtain ⟨⟨g1, gJ, gE⟩, gA⟩ := g
  have g2 : Sh (S, fzM, ρ, arX 243) (own Λ R) S7 := (h.1.shz _ _).up g1 (nfz_sub (by decide)) (fun _ z => z)
  have e250 : ∀ a, gFI S7 250 a = gFI S 250 a := fun a => (g1.2.2.2.2.2.2.2.1 250 rfl a).1
  have e324 : gFI S7 324 x = gFI S 324 x := (g1.2.2.2.2.2.2.2.1 324 rfl x).1
  have nux : u ≠ x := nek tu h.1.kx (by decide)
  obtain ⟨u0, r0, la0, hu0, er0, e50, -⟩ := hK j hj hT
  rw [hu] at hu0
  cases hu0
  have nru : r ≠ u := nek k.2.2.1 tu (by decide)
  have nrx : r ≠ x := nek k.2.2.1 h.1.kx (by decide)
  refine ⟨(g2.sFI 250 tu _ rfl (fun z => absurd z (by decide))).sFI 324 h.1.kx _ rfl (fun z => absurd z (by decide)), fun q hq hTq => ?_, ?_, ?_⟩
  · by_cases cq : q = j
    · subst cq
      refine ⟨u, r, la, (h.1.row g1 q).trans hu, (g1.fr 243 u).trans e243, ?_, fun _ => ?_⟩
      · show gFI _ 250 u = up1 K.1 q (K.1 q + 1) q
        rw [up1_s, gFI_sFI, if_neg (fun z => absurd z.1 (by decide)), gFI_sFI, if_pos ⟨rfl, rfl⟩, e250, e50]
      · rw [show (kpK K (c, F, U, W, H) q).2 q = (c, F, U, W, H) from up1_s]
        refine ⟨h.sz hc hj hT, gJ.same ?_ rfl (fun _ => rfl), ?_, ?_, ?_, ?_⟩
        · rw [gFI_sFI, if_neg (fun z => nrx z.2), gFI_sFI, if_neg (fun z => nru z.2)]
        · rw [gFI_sFI, if_neg (fun z => nrx z.2), gFI_sFI, if_neg (fun z => nru z.2)]
          exact gE.1
        · rw [gFI_sFI, if_neg (fun z => nrx z.2), gFI_sFI, if_neg (fun z => nru z.2)]
          exact gE.2.1
        · rw [gFI_sFI, if_neg (fun z => nrx z.2), gFI_sFI, if_neg (fun z => nru z.2)]
          exact gE.2.2.1
        · rw [gFI_sFI, if_neg (fun z => nrx z.2), gFI_sFI, if_neg (fun z => nru z.2)]
          exact gE.2.2.2
    · obtain ⟨v, r', la', hv, er, e5, gq⟩ := hK q hq hTq
      have tv := h.1.un hv
      obtain ⟨r3, la3, y1, y2, -, k3, w3, w4⟩ := h.kr tv
      rw [er] at y1
      cases y1
      have nvu : v ≠ u := fun z => cq (h.1.inj (by omega) (by omega) (z ▸ hv) hu)
      have nvx : v ≠ x := nek tv h.1.kx (by decide)
      refine ⟨v, r', la', (h.1.row g1 q).trans hv, (g1.fr 243 v).trans er, ?_, fun n => ?_⟩
      · show gFI _ 250 v = up1 K.1 j (K.1 j + 1) q
        rw [up1_n cq, gFI_sFI, if_neg (fun z => absurd z.1 (by decide)), gFI_sFI, if_neg (fun z => nvu z.2), e250, e5]
      · have n' : K.1 q ≠ 0 := fun z => n (by show up1 K.1 j (K.1 j + 1) q = 0; rw [up1_n cq]; exact z)
        obtain ⟨z1, z2, z3⟩ := gq n'
        rw [show (kpK K (c, F, U, W, H) j).2 q = K.2 q from up1_n cq]
        have el : la3 = la' := by
          have := z2.2.1
          rw [y2] at this
          exact Option.some.inj this
        subst el
        have nr : r' ≠ r := fun z => nvu (by rw [← w3, ← w1, z])
        have nA : ¬ A r' := by
          rw [hAd]
          have p := k3.2.2.2.2.1
          rintro (z | z | z | z | z | z)
          · exact nr z
          · exact nek k3.2.2.1 k.2.2.2.1 (by decide) z
          · rw [p] at z; exact absurd z (by decide)
          · rw [p] at z; exact absurd z (by decide)
          · rw [p] at z; exact absurd z (by decide)
          · rw [p] at z; exact absurd z (by decide)
        have nL : ¬ A la3 := by
          rw [hAd]
          have p := k3.2.2.2.2.2
          rintro (z | z | z | z | z | z)
          · exact nek k3.2.2.2.1 k.2.2.1 (by decide) z
          · exact nr (by rw [← w4, ← w2, z])
          · rw [p] at z; exact absurd z (by decide)
          · rw [p] at z; exact absurd z (by decide)
          · rw [p] at z; exact absurd z (by decide)
          · rw [p] at z; exact absurd z (by decide)
        have kr := gA.1 r' nA
        have kl := gA.1 la3 nL
        have nrv : r' ≠ u := nek k3.2.2.1 tu (by decide)
        have nrx' : r' ≠ x := nek k3.2.2.1 h.1.kx (by decide)
        have ef : ∀ (f : Nat) (a b : Int32), gFI (sFI (sFI S7 250 u a) 324 x b) f r' = gFI S f r' := fun f a b => by
          rw [gFI_sFI, if_neg (fun z => nrx' z.2), gFI_sFI, if_neg (fun z => nrv z.2)]
          exact kr.1 f
        exact ⟨z1, z2.same (ef 121 _ _) (kr.2.2.1 120) (fun i => kl.2.2.2.2.1 i), (ef 122 _ _).trans z3.1, (ef 123 _ _).trans z3.2.1, (ef 124 _ _).trans z3.2.2.1, (ef 125 _ _).trans z3.2.2.2⟩
  · rw [gFI_sFI, if_pos ⟨rfl, rfl⟩, gFI_sFI, if_neg (fun z => absurd z.1 (by decide)), e324]
  · rw [gFI_sFI, if_neg (fun z => absurd z.1 (by decide)), gFI_sFI, if_pos ⟨rfl, rfl⟩, e250, e50]
end
