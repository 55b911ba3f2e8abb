/-! All that the class holds of units; looking for things. -/
def WA (c : Nat) (F : aF) (W : aU) : Prop := ∀ k, k < c → F.1 k = true → ∀ v, v ∈ W k → ∃ j, j < c ∧ v = nI j ∧ F.1 j = true
def CA (x m o : Nat) (R : List Nat) (G : Nat → Nat) (us t c c2 : Nat) (F : aF) (U W : aU) (H : aH) (ρ ω : Nat → Nat) (Λ : sLay) (S : sSt) : Prop := PD x m o R G us t c c2 ρ ω Λ S ∧ CF S t c F ∧ CL2 242 Λ.2.2 S t c F U ∧ CL2 241 Λ.2.2 S t c F W ∧ CT Λ.2.2 S t c F H ∧ TI ω t S
def RA (m : Nat) (G : Nat → Nat) (Λ : sLay) (c : Nat) (F : aF) (U W : aU) (H : aH) (S : sSt) : Prop := MC m G Λ S S ∧ gFI S 361 m = nI c ∧ RF G S c F ∧ RL2 371 372 12 G S c F U ∧ RL2 369 370 6 G S c F W ∧ RH G S c F H
/-- what must be frozen, so that all this stays -/
def fzA (fz : Nat → Bool) : Prop := ∀ f ∈ [240, 281, 247, 248, 249, 245, 202, 203, 204, 200], fz f = true
def arA (Ar : Nat → Bool) : Prop := ∀ f ∈ [242, 1242, 241, 1241, 244, 201, 1201], Ar f = true
def fyA (fy : Nat → Bool) : Prop := ∀ f ∈ [361, 362, 363, 364, 365, 366, 367, 368, 369, 370, 371, 372, 373, 374], fy f = true
section
variable {x m o us t c c2 : Nat} {R : List Nat} {G : Nat → Nat} {ρ ω : Nat → Nat} {Λ : sLay} {S S1 : sSt} {F : aF} {U W : aU} {H : aH}
theorem Sh.fr {fz Ar : Nat → Bool} (g : Sh (S, fz, ρ, Ar) Λ S1) (f a : Nat) : gFR S1 f a = gFR S f a := by
  unfold gFR
  rw [g.2.2.2.2.2.1]
theorem CT.fz (h : PD x m o R G us t c c2 ρ ω Λ S) (hH : CT Λ.2.2 S t c F H) {fz Ar : Nat → Bool} (g : Sh (S, fz, ρ, Ar) (own Λ R) S1) (f2 : fz 202 = true) (f3 : fz 203 = true) (f4 : fz 204 = true) (f5 : fz 245 = true) (a1 : Ar 244 = true) (a2 : Ar 201 = true) (a3 : Ar 1201 = true) : CT Λ.2.2 S1 t c F H := fun k hk hT => by
  obtain ⟨u, tt, hu, g1, g2, g3, g4, g5⟩ := hH k hk hT
  have tu := h.un hu
  obtain ⟨tk, rt, -⟩ := h.ftt tu g1
  have eR : ∀ f a, gFR S1 f a = gFR S f a := fun f a => by
    unfold gFR
    rw [g.2.2.2.2.2.1]
  have fI := g.2.2.2.2.2.2.2.1
  have rl := g.2.2.2.2.2.2.2.2.2
  have kt := rl tt tk.1 (by rw [tk.2]; rfl) (by show Ar (ρ tt) = true; rw [rt]; exact a1)
  refine ⟨u, tt, (h.row g k).trans hu, (eR 244 u).trans g1, (fI 245 f5 u).1.trans g2, g3, g4, fun i th hi => ?_⟩
  obtain ⟨a, ha, y1, y2, y3, l, b, y4, y5⟩ := g5 i th hi
  have ta := h.fth tk ha
  obtain ⟨tl, ql, -⟩ := h.fbl ta y4
  obtain ⟨tb, qb, -⟩ := h.fb tl y5.2.1
  have kl := rl l tl.1 (by rw [tl.2]; rfl) (by show Ar (ρ l) = true; rw [ql]; exact a2)
  have kb := rl b tb.1 (by rw [tb.2]; rfl) (by show Ar (ρ b) = true; rw [qb, ql]; exact a3)
  exact ⟨a, (kt.2.2.2.2 i).trans ha, (fI 202 f2 a).1.trans y1, (fI 203 f3 a).2.trans y2, (fI 204 f4 a).1.trans y3, l, b, (eR 201 a).trans y4, y5.same (kl.1 41) (eR 40 l) kb.2.2.1⟩
theorem CT.kp (h : PD x m o R G us t c c2 ρ ω Λ S) (hH : CT Λ.2.2 S t c F H) (k : ∀ a, a ∈ (own Λ R).1 → kpA S S1 a) : CT Λ.2.2 S1 t c F H := fun j hj hT => by
  obtain ⟨u, tt, hu, g1, g2, g3, g4, g5⟩ := hH j hj hT
  have tu := h.un hu
  obtain ⟨tk, -⟩ := h.ftt tu g1
  have ku := k u tu.1
  refine ⟨u, tt, ((k t h.kt.1).2.2.2.2.2 j).trans hu, (ku.2.2.1 244).trans g1, (ku.1 245).trans g2, g3, g4, fun i th hi => ?_⟩
  obtain ⟨a, ha, y1, y2, y3, l, b, y4, y5⟩ := g5 i th hi
  have ta := h.fth tk ha
  obtain ⟨tl, -⟩ := h.fbl ta y4
  obtain ⟨tb, -⟩ := h.fb tl y5.2.1
  have ka := k a ta.1
  exact ⟨a, ((k tt tk.1).2.2.2.2.2 i).trans ha, (ka.1 202).trans y1, (ka.2.1 203).trans y2, (ka.1 204).trans y3, l, b, (ka.2.2.1 201).trans y4, y5.same ((k l tl.1).1 41) ((k l tl.1).2.2.1 40) (k b tb.1).2.2.2.1⟩
theorem CT.mono {F2 : aF} (hH : CT Λ.2.2 S t c F H) (hm : ∀ k, F2.1 k = true → F.1 k = true) : CT Λ.2.2 S t c F2 H := fun k hk hT => hH k hk (hm k hT)
theorem TI.fz (h : PD x m o R G us t c c2 ρ ω Λ S) (hI : TI ω t S) {fz Ar : Nat → Bool} (g : Sh (S, fz, ρ, Ar) (own Λ R) S1) (f0 : fz 200 = true) (f4 : fz 240 = true) (a1 : Ar 244 = true) : TI ω t S1 :=
  hI.kp (fun j => h.row g j) g.2.2.2.2.2.1 (fun k u tt i hk hu e => by
    obtain ⟨tk, rt, -⟩ := h.ftt (h.un hu) e
    exact (g.2.2.2.2.2.2.2.2.2 tt tk.1 (by rw [tk.2]; rfl) (by show Ar (ρ tt) = true; rw [rt]; exact a1)).2.2.2.2 i) (fun a => (g.2.2.2.2.2.2.2.1 200 f0 a).1) (fun a => (g.2.2.2.2.2.2.2.1 240 f4 a).1)
theorem TI.kpo (h : PD x m o R G us t c c2 ρ ω Λ S) (hI : TI ω t S) (k : ∀ a, a ∈ (own Λ R).1 → kpA S S1 a) : TI ω t S1 := fun j u tt hj hu e => by
  rw [(k t h.kt.1).2.2.2.2.2 j] at hu
  have tu := h.un hu
  rw [(k u tu.1).2.2.1 244] at e
  obtain ⟨tk, -⟩ := h.ftt tu e
  obtain ⟨g1, g2⟩ := hI j u tt hj hu e
  refine ⟨fun i b hb => ?_, fun i i2 b hb hb2 => ?_⟩
  · rw [(k tt tk.1).2.2.2.2.2 i] at hb
    have tb := h.fth tk hb
    obtain ⟨y1, y2⟩ := g1 i b hb
    exact ⟨y1, by rw [(k b tb.1).1 200, (k u tu.1).1 240]; exact y2⟩
  · rw [(k tt tk.1).2.2.2.2.2 i] at hb
    rw [(k tt tk.1).2.2.2.2.2 i2] at hb2
    exact g2 i i2 b hb hb2
theorem CA.fz (h : CA x m o R G us t c c2 F U W H ρ ω Λ S) {fz Ar : Nat → Bool} (g : Sh (S, fz, ρ, Ar) (own Λ R) S1) (f : fzA fz) (a : arA Ar) : CA x m o R G us t c c2 F U W H ρ ω Λ S1 := by
  obtain ⟨h1, h2, h3, h4, h5, h6⟩ := h
  exact ⟨h1.clz g (f 240 (by decide)) (f 281 (by decide)), CF.fz h1 h2 g (f 247 (by decide)) (f 248 (by decide)) (f 249 (by decide)), CL2.fz h1 h3 (by decide) rfl (by decide) (by decide) g (a 242 (by decide)) (a 1242 (by decide)), CL2.fz h1 h4 (by decide) rfl (by decide) (by decide) g (a 241 (by decide)) (a 1241 (by decide)), h5.fz h1 g (f 202 (by decide)) (f 203 (by decide)) (f 204 (by decide)) (f 245 (by decide)) (a 244 (by decide)) (a 201 (by decide)) (a 1201 (by decide)), h6.fz h1 g (f 200 (by decide)) (f 240 (by decide)) (a 244 (by decide))⟩
/-- behind a call of the reference -/
theorem CA.ref (h : CA x m o R G us t c c2 F U W H ρ ω Λ S) (g : MC m G Λ S S1) {c2' : Nat} (e : gFI S1 361 m = nI c2') : CA x m o R G us t c c2' F U W H ρ ω Λ S1 := by
  obtain ⟨h1, h2, h3, h4, h5, h6⟩ := h
  have kk : ∀ a, a ∈ (own Λ R).1 → kpA S S1 a := fun a ha => h1.inn g ha
  exact ⟨h1.ref g e, CF.kp h1 h2 kk, CL2.kp h1 h3 (by decide) rfl (by decide) (by decide) kk, CL2.kp h1 h4 (by decide) rfl (by decide) (by decide) kk, h5.kp h1 kk, h6.kpo h1 kk⟩
theorem RH.kp (hR : RH G S c F H) (k : ∀ f, isM f = true → kpA S S1 (G f)) : RH G S1 c F H := fun j hj hT => by
  obtain ⟨h1, h2, h3⟩ := hR j hj hT
  refine ⟨((k 363 rfl).2.2.2.1 j).trans h1, h2, fun i th hi => (h3 i th hi).cp ((k 364 rfl).2.2.2.1 _) ((k 365 rfl).2.2.2.2.1 _) ((k 366 rfl).2.2.2.1 _) ((k 367 rfl).2.2.2.1 _) (fun z _ => (k 368 rfl).2.2.2.1 _)⟩
theorem RH.fz {Z : sSt} {fz : Nat → Bool} (hR : RH G S c F H) (g : MI m G Λ (Z, S, fz) S1) (f : ∀ f ∈ [363, 364, 365, 366, 367, 368], fz f = true) : RH G S1 c F H := fun j hj hT => by
  obtain ⟨h1, h2, h3⟩ := hR j hj hT
  have y : ∀ q, q ∈ [363, 364, 365, 366, 367, 368] → isM q = true → ∀ k, gAI S1 (G q) k = gAI S (G q) k ∧ gAJ S1 (G q) k = gAJ S (G q) k := fun q hq hm k => (g.2 q (f q hq)).2 hm k
  exact ⟨((y 363 (by decide) rfl j).1).trans h1, h2, fun i th hi => (h3 i th hi).cp (y 364 (by decide) rfl _).1 (y 365 (by decide) rfl _).2 (y 366 (by decide) rfl _).1 (y 367 (by decide) rfl _).1 (fun z _ => (y 368 (by decide) rfl _).1)⟩
theorem RH.mono {F2 : aF} (hR : RH G S c F H) (hm : ∀ k, F2.1 k = true → F.1 k = true) : RH G S c F2 H := fun k hk hT => hR k hk (hm k hT)
/-- behind a call of the class -/
theorem RA.cls (hp : PD x m o R G us t c c2 ρ ω Λ S) (h : RA m G Λ c F U W H S) (k : ∀ a, a ∈ R → kpA S S1 a) : RA m G Λ c F U W H S1 := by
  obtain ⟨h1, h2, h3, h4, h5, h6⟩ := h
  have km := k m hp.2.1
  have kg : ∀ f, isM f = true → kpA S S1 (G f) := fun f hf => k _ (hp.2.2.1 f hf)
  exact ⟨h1.kp km kg, (km.1 361).trans h2, h3.kp kg, h4.kpm rfl rfl kg, h5.kpm rfl rfl kg, h6.kp kg⟩
theorem RA.fz {fy : Nat → Bool} (h : RA m G Λ c F U W H S) (g : MI m G Λ (S, S, fy) S1) (f : fyA fy) : RA m G Λ c F U W H S1 := by
  obtain ⟨h1, h2, h3, h4, h5, h6⟩ := h
  exact ⟨g.c.self, (g.2 361 (f 361 (by decide))).1.trans h2, h3.fz g (f 362 (by decide)) (f 373 (by decide)) (f 374 (by decide)), h4.fz g rfl rfl (f 371 (by decide)) (f 372 (by decide)), h5.fz g rfl rfl (f 369 (by decide)) (f 370 (by decide)), h6.fz g (fun q hq => f q ((by decide : ∀ q ∈ [363, 364, 365, 366, 367, 368], q ∈ [361, 362, 363, 364, 365, 366, 367, 368, 369, 370, 371, 372, 373, 374]) q hq))⟩
end
/-! what is found -/
def tpub (H : aH) (key : Int32) (j : Nat) : Option (Nat × Nat) := Option.bind (tIx key (H j) 0) (fun i => if ((H j)[i]?.getD (0, 0, 0, [])).2.2.1 = 0 then some (j, i) else none)
def fdL (H : aH) (key : Int32) : List Int32 → Option (Nat × Nat)
  | [] => none
  | v :: r => match tpub H key v.toNatClampNeg with
    | some z => some z
    | none => fdL H key r
def fd (W : aU) (H : aH) (k : Nat) (key : Int32) : Option (Nat × Nat) := match tIx key (H k) 0 with
  | some i => some (k, i)
  | none => fdL H key (W k)
theorem fdL_c {H : aH} {key v : Int32} {r : List Int32} : fdL H key (v :: r) = match tpub H key v.toNatClampNeg with
    | some z => some z
    | none => fdL H key r := rfl
theorem fdL_s {H : aH} {key v : Int32} {r : List Int32} {z : Nat × Nat} (h : tpub H key v.toNatClampNeg = some z) : fdL H key (v :: r) = some z := by rw [fdL_c, h]
theorem fdL_n {H : aH} {key v : Int32} {r : List Int32} (h : tpub H key v.toNatClampNeg = none) : fdL H key (v :: r) = fdL H key r := by rw [fdL_c, h]
theorem fd_s {W : aU} {H : aH} {k i : Nat} {key : Int32} (h : tIx key (H k) 0 = some i) : fd W H k key = some (k, i) := by unfold fd; rw [h]
theorem fd_n {W : aU} {H : aH} {k : Nat} {key : Int32} (h : tIx key (H k) 0 = none) : fd W H k key = fdL H key (W k) := by unfold fd; rw [h]
theorem tpub_n {H : aH} {key : Int32} {j : Nat} (h : tIx key (H j) 0 = none) : tpub H key j = none := by unfold tpub; rw [h]; rfl
theorem tpub_s {H : aH} {key : Int32} {j i : Nat} {th : aT} (h : tIx key (H j) 0 = some i) (h2 : (H j)[i]? = some th) : tpub H key j = if th.2.2.1 = 0 then some (j, i) else none := by
  unfold tpub
  rw [h, Option.bind_some, get_getD h2]
/-- what is found is a thing of a unit that is there -/
def okZ (c : Nat) (F : aF) (H : aH) (key : Int32) (z : Nat × Nat) : Prop := z.1 < c ∧ F.1 z.1 = true ∧ ∃ th, (H z.1)[z.2]? = some th ∧ th.1 = key
theorem fdL_ok {c : Nat} {F : aF} {H : aH} {key : Int32} : ∀ {l : List Int32} {z : Nat × Nat}, (∀ v, v ∈ l → ∃ j, j < c ∧ v = nI j ∧ F.1 j = true) → c ≤ 16 → fdL H key l = some z → okZ c F H key z
  | [], _, _, _, h => nomatch h
  | v :: r, z, hl, hc, h => by
    obtain ⟨j, hj, rfl, hT⟩ := hl v List.mem_cons_self
    have ej : (nI j).toNatClampNeg = j := n_cl (by omega)
    cases e : tIx key (H j) 0 with
    | none =>
      rw [fdL_n (by rw [ej]; exact tpub_n e)] at h
      exact fdL_ok (fun v hv => hl v (List.mem_cons_of_mem _ hv)) hc h
    | some i =>
      obtain ⟨hil, th, hth, hkey⟩ := tIx_0 e
      by_cases c0 : th.2.2.1 = 0
      · rw [fdL_s (by rw [ej, tpub_s e hth, if_pos c0])] at h
        cases h
        exact ⟨hj, hT, th, hth, hkey⟩
      · rw [fdL_n (by rw [ej, tpub_s e hth, if_neg c0])] at h
        exact fdL_ok (fun v hv => hl v (List.mem_cons_of_mem _ hv)) hc h
theorem fd_ok {c k : Nat} {F : aF} {W : aU} {H : aH} {key : Int32} {z : Nat × Nat} (hA : WA c F W) (hc : c ≤ 16) (hk : k < c) (hT : F.1 k = true) (h : fd W H k key = some z) : okZ c F H key z := by
  cases e : tIx key (H k) 0 with
  | none =>
    rw [fd_n e] at h
    exact fdL_ok (hA k hk hT) hc h
  | some i =>
    obtain ⟨hil, th, hth, hkey⟩ := tIx_0 e
    rw [fd_s e] at h
    cases h
    exact ⟨hk, hT, th, hth, hkey⟩
theorem uo_at {c j : Nat} {T : Nat → Bool} (hj : j < c) (hc : c ≤ 16) (hT : T j = true) : uo c T (nI j) = some j := by
  unfold uo
  rw [if_neg (nI_pos (by omega)), n_cl (by omega), if_pos ⟨hj, hT⟩]
/-- where a thing lies -/
def ad (S : sSt) (t : Nat) (z : Nat × Nat) : Option Nat := Option.bind (gAR S t z.1) (fun u => Option.bind (gFR S 244 u) (fun tt => gAR S tt z.2))
theorem ad_of {S : sSt} {t u tt : Nat} {z : Nat × Nat} (h : gAR S t z.1 = some u) (h2 : gFR S 244 u = some tt) : ad S t z = gAR S tt z.2 := by
  unfold ad
  rw [h, Option.bind_some, h2, Option.bind_some]
section
variable {x m o us t c c2 : Nat} {R : List Nat} {G : Nat → Nat} {ρ ω : Nat → Nat} {Λ : sLay} {S S1 : sSt} {F : aF} {U W : aU} {H : aH}
/-- what is told of a thing that is there -/
theorem CA.th (h : CA x m o R G us t c c2 F U W H ρ ω Λ S) (hc : c ≤ 16) {j i : Nat} {th : aT} (hj : j < c) (hT : F.1 j = true) (hi : (H j)[i]? = some th) : ∃ a u tt, ad S t (j, i) = some a ∧ TC Λ.2.2 S a th ∧ isK (own Λ R) 5 a ∧ gFI S 200 a = nI j ∧ gAR S t j = some u ∧ gFR S 244 u = some tt ∧ gAR S tt i = some a := by
  obtain ⟨h1, h2, h3, h4, h5, h6⟩ := h
  obtain ⟨u, tt, hu, g⟩ := h5 j hj hT
  have tu := h1.un hu
  obtain ⟨tk, -, -⟩ := h1.ftt tu g.1
  obtain ⟨a, ha, hTC⟩ := g.2.2.2.2 i th hi
  obtain ⟨y1, y2⟩ := (h6 j u tt (by omega) hu g.1).1 i a ha
  exact ⟨a, u, tt, (ad_of (z := (j, i)) hu g.1).trans ha, hTC, h1.fth tk ha, y2.trans (h1.2.2.2.2.2.2.2.2.2.2.2.1 j u (by omega) hu), hu, g.1, ha⟩
theorem lf_loop (h : CA x m o R G us t c c2 F U W H ρ ω Λ S) (hc : c ≤ 16) (hA : WA c F W) {k u : Nat} (hk : k < c) (hT : F.1 k = true) (hu : gAR S t k = some u) (key : Int32) : ∀ (n i : Nat), i ≤ (W k).length → Pa (L_X7_lookFrom_15 Λ.2.2 S n us u key (nI i)) (fun r => r = Option.bind (fdL H key ((W k).drop i)) (ad S t))
  | 0, i, _ => Pa_none
  | n + 1, i, hi => by
    have h' := h
    obtain ⟨h1, h2, h3, h4, h5, h6⟩ := h'
    obtain ⟨u2, l, b, hu2, hl, hL⟩ := h4 k hk hT
    rw [hu] at hu2
    cases hu2
    have hlt := hL.lt
    show Pa (Y_X7_lookFrom_15 Λ.2.2 S (L_X7_lookFrom_15 Λ.2.2 S n) us u key (nI i)) _
    unfold Y_X7_lookFrom_15 F_X1_length
    refine Pa_r hl (Pa_bs ?_)
    rw [hL.1]
    by_cases c0 : i = (W k).length
    · refine Pa_it (leN (by omega) (by omega) (by omega)) (Pa_some ?_)
      rw [List.drop_eq_nil_of_le (by omega)]
      rfl
    · have hi2 : i < (W k).length := by omega
      have e2 : (W k).drop i = (W k)[i] :: (W k).drop (i + 1) := List.drop_eq_getElem_cons hi2
      obtain ⟨j, hj, ej, hTj⟩ := hA k hk hT _ (List.getElem_mem hi2)
      have ecl : ((W k)[i]).toNatClampNeg = j := by rw [ej]; exact n_cl (by omega)
      refine Pa_if (nleN (by omega) (by omega) (by omega)) (Pa_r hl (Pa_be (at_val hL hi2) ?_))
      obtain ⟨u', hu', ea, -⟩ := at_some h1 hc h2 (uo_at hj hc hTj)
      rw [ej]
      refine Pa_be ea (Pa_oS rfl ?_)
      obtain ⟨tt, g, tu', tk⟩ := h1.uall h5 hj hTj hu'
      have ih := lf_loop h hc hA hk hT hu key n (i + 1) hi2
      have next : tpub H key j = none → Pa (B_X7_lookFrom_75 Λ.2.2 S (L_X7_lookFrom_15 Λ.2.2 S n) us u key (nI i)) (fun r => r = Option.bind (fdL H key ((W k).drop i)) (ad S t)) := fun e => by
        unfold B_X7_lookFrom_75
        rw [n_a1, e2, fdL_n (by rw [ecl]; exact e)]
        exact ih
      refine Pa_bind (tf_val g key) (fun v _ hv => ?_)
      subst hv
      unfold B_X7_lookFrom_57
      cases ei : tIx key (H j) 0 with
      | none => exact Pa_on rfl (next (tpub_n ei))
      | some i2 =>
        obtain ⟨hil, th, hth, hkey⟩ := tIx_0 ei
        obtain ⟨a, hga, hTC⟩ := g.2.2.2.2 i2 th hth
        refine Pa_oS (a := a) hga ?_
        rw [hTC.2.2.1]
        by_cases c5 : th.2.2.1 = 0
        · refine Pa_it c5 (Pa_some ?_)
          rw [e2, fdL_s (z := (j, i2)) (by rw [ecl, tpub_s ei hth, if_pos c5])]
          show some a = ad S t (j, i2)
          rw [ad_of (z := (j, i2)) hu' g.1]
          exact hga.symm
        · exact Pa_if c5 (next (by rw [tpub_s ei hth, if_neg c5]))
theorem lf_val (h : CA x m o R G us t c c2 F U W H ρ ω Λ S) (hc : c ≤ 16) (hA : WA c F W) {k u : Nat} (hk : k < c) (hT : F.1 k = true) (hu : gAR S t k = some u) (key : Int32) : Pa (F_X7_lookFrom Λ.2.2 S us (some u) key) (fun r => r = Option.bind (fd W H k key) (ad S t)) := by
  obtain ⟨tt, g, tu, tk⟩ := h.1.uall h.2.2.2.2.1 hk hT hu
  unfold F_X7_lookFrom
  refine Pa_bs (Pa_bind (tf_val g key) (fun v _ hv => ?_))
  subst hv
  cases ei : tIx key (H k) 0 with
  | none =>
    refine Pa_on rfl ?_
    have := lf_loop h hc hA hk hT hu key FU 0 (Nat.zero_le _)
    rw [List.drop_zero] at this
    rw [fd_n ei]
    exact this
  | some i =>
    obtain ⟨hil, th, hth, hkey⟩ := tIx_0 ei
    obtain ⟨a, hga, -⟩ := g.2.2.2.2 i th hth
    refine Pa_oS (a := a) hga (Pa_some ?_)
    rw [fd_s ei]
    show some a = ad S t (k, i)
    rw [ad_of (z := (k, i)) hu g.1]
    exact hga.symm
/-- the same, with what lies there -/
theorem lf_th (h : CA x m o R G us t c c2 F U W H ρ ω Λ S) (hc : c ≤ 16) (hA : WA c F W) {k u : Nat} (hk : k < c) (hT : F.1 k = true) (hu : gAR S t k = some u) (key : Int32) : Pa (F_X7_lookFrom Λ.2.2 S us (some u) key) (fun r => (fd W H k key = none ∧ r = none) ∨ ∃ z a th, fd W H k key = some z ∧ r = some a ∧ ad S t z = some a ∧ z.1 < c ∧ F.1 z.1 = true ∧ (H z.1)[z.2]? = some th ∧ th.1 = key ∧ TC Λ.2.2 S a th ∧ isK (own Λ R) 5 a ∧ gFI S 200 a = nI z.1) := by
  refine Pa_mono (lf_val h hc hA hk hT hu key) (fun r hr => ?_)
  cases e : fd W H k key with
  | none =>
    rw [e] at hr
    exact Or.inl ⟨rfl, hr⟩
  | some z =>
    obtain ⟨y1, y2, th, y3, y4⟩ := fd_ok hA hc hk hT e
    obtain ⟨a, u', tt, ea, hTC, ta, e200, -⟩ := h.th hc y1 y2 y3
    rw [e, Option.bind_some] at hr
    exact Or.inr ⟨z, a, th, rfl, hr.trans ea, ea, y1, y2, y3, y4, hTC, ta, e200⟩
end
def oF : Option (Nat × Nat) → Int32
  | none => -5
  | some z => nI (10 * z.1 + z.2)
theorem oF_n {x : Option (Nat × Nat)} (hx : ∀ z, x = some z → z.1 < 16 ∧ z.2 < 10) : oF x = -5 ↔ x = none := by
  cases x with
  | none => exact ⟨fun _ => rfl, fun _ => rfl⟩
  | some z => exact ⟨fun y => absurd y (ne5 (by have := hx z rfl; omega)), fun y => nomatch y⟩
section
variable {m c : Nat} {G : Nat → Nat} {Λ : sLay} {N : Nat → Nat} {S : sSt} {F : aF} {U W : aU} {H : aH}
theorem fn_stop {k : Nat} (hG : MG m G Λ S) {p key v : Int32} (hv : v ≠ -5) (i : Int32) : ∀ n, Pa (L_X9_find_10 N S n m p key v i) (fun r => r = v)
  | 0 => Pa_none
  | n + 1 => by
    show Pa (Y_X9_find_10 N S (L_X9_find_10 N S n) m p key v i) _
    unfold Y_X9_find_10
    exact Pa_r (hG.1 369 rfl) (Pa_g (Pa_ite (fun _ => Pa_some rfl) (fun _ => Pa_if hv (Pa_some rfl))))
theorem fn_loop (hG : MG m G Λ S) (hW : RL2 369 370 6 G S c F W) (hH : RH G S c F H) (hc : c ≤ 16) (hA : WA c F W) {k : Nat} (hk : k < c) (hT : F.1 k = true) {p : Int32} (ep : p = nI k) (key : Int32) : ∀ (n i : Nat), i ≤ (W k).length → Pa (L_X9_find_10 N S n m p key (-5) (nI i)) (fun r => r = oF (fdL H key ((W k).drop i)))
  | 0, i, _ => Pa_none
  | n + 1, i, hi => by
    obtain ⟨w1, w2, w3⟩ := hW k hk hT
    have c1 := e_clamp ep (by omega)
    have ei6 : (6 : Int32) * p + nI i = nI (6 * k + i) := e_add (e_mul k6 ep) rfl
    show Pa (Y_X9_find_10 N S (L_X9_find_10 N S n) m p key (-5) (nI i)) _
    unfold Y_X9_find_10
    refine Pa_r (hG.1 369 rfl) (Pa_g ?_)
    rw [c1, w1]
    by_cases c0 : i = (W k).length
    · refine Pa_it (leN (by omega) (by omega) (by omega)) (Pa_some ?_)
      rw [List.drop_eq_nil_of_le (by omega)]
      rfl
    · have hi2 : i < (W k).length := by omega
      have e2 : (W k).drop i = (W k)[i] :: (W k).drop (i + 1) := List.drop_eq_getElem_cons hi2
      obtain ⟨j, hj, ej, hTj⟩ := hA k hk hT _ (List.getElem_mem hi2)
      have ecl : ((W k)[i]).toNatClampNeg = j := by rw [ej]; exact n_cl (by omega)
      obtain ⟨q1, q2, q3⟩ := hH j hj hTj
      refine Pa_if (nleN (by omega) (by omega) (by omega)) (Pa_it rfl (Pa_r (hG.1 370 rfl) (Pa_g ?_)))
      rw [ei6, n_cl (by omega), w3 i _ (List.getElem?_eq_getElem hi2)]
      have ih := fn_loop hG hW hH hc hA hk hT ep key n (i + 1) hi2
      have next : tpub H key j = none → Pa (B_X9_find_70 N S (L_X9_find_10 N S n) m p key (nI i) (-5)) (fun r => r = oF (fdL H key ((W k).drop i))) := fun e => by
        unfold B_X9_find_70
        rw [n_a1, e2, fdL_n (by rw [ecl]; exact e)]
        exact ih
      refine Pa_bind (tO_val hG q1 q2 q3 (by omega) ej key) (fun v _ hv => ?_)
      subst hv
      have iff1 := oT_n (k := j) (x := tIx key (H j) 0) (by omega) (fun i hi => by have := (tIx_0 hi).1; omega)
      unfold B_X9_find_68
      cases et : tIx key (H j) 0 with
      | none =>
        rw [et] at iff1
        exact Pa_it (iff1.mpr rfl) (next (tpub_n et))
      | some i2 =>
        rw [et] at iff1
        obtain ⟨hil, th, hth, hkey⟩ := tIx_0 et
        have ct : (oT j (some i2)).toNatClampNeg = 10 * j + i2 := n_cl (by omega)
        refine Pa_if (fun z => by have := iff1.mp z; cases this) (Pa_r (hG.1 366 rfl) (Pa_g ?_))
        rw [ct, (q3 i2 th hth).2.2.1]
        by_cases c5 : th.2.2.1 = 0
        · refine Pa_it c5 ?_
          unfold B_X9_find_70
          refine Pa_mono (fn_stop (k := 0) hG (ne5 (a := 10 * j + i2) (by omega)) _ n) (fun r hr => ?_)
          rw [hr, e2, fdL_s (z := (j, i2)) (by rw [ecl, tpub_s et hth, if_pos c5])]
          rfl
        · exact Pa_if c5 (next (by rw [tpub_s et hth, if_neg c5]))
theorem fn_val (hG : MG m G Λ S) (hW : RL2 369 370 6 G S c F W) (hH : RH G S c F H) (hc : c ≤ 16) (hA : WA c F W) {k : Nat} (hk : k < c) (hT : F.1 k = true) {p : Int32} (ep : p = nI k) (key : Int32) : Pa (F_X9_find N S m p key) (fun r => r = oF (fd W H k key)) := by
  obtain ⟨q1, q2, q3⟩ := hH k hk hT
  unfold F_X9_find
  refine Pa_bind (tO_val hG q1 q2 q3 (by omega) ep key) (fun v _ hv => ?_)
  subst hv
  cases et : tIx key (H k) 0 with
  | none =>
    have := fn_loop (N := N) hG hW hH hc hA hk hT ep key FU 0 (Nat.zero_le _)
    rw [List.drop_zero] at this
    rw [fd_n et]
    exact this
  | some i =>
    obtain ⟨hil, -⟩ := tIx_0 et
    refine Pa_mono (fn_stop (k := 0) hG (ne5 (a := 10 * k + i) (by omega)) _ FU) (fun r hr => ?_)
    rw [hr, fd_s et]
    rfl
theorem fd_lim (hH : RH G S c F H) (hc : c ≤ 16) (hA : WA c F W) {k : Nat} (hk : k < c) (hT : F.1 k = true) {key : Int32} {z : Nat × Nat} (e : fd W H k key = some z) : z.1 < 16 ∧ z.2 < 10 := by
  obtain ⟨y1, y2, th, y3, -⟩ := fd_ok hA hc hk hT e
  have := (hH z.1 y1 y2).2.1
  have := (List.getElem?_eq_some_iff.mp y3).1
  omega
end
/-! found -/
def aFound (c : Nat) (F : aF) (W : aU) (H : aH) (p s n : Int32) : Int32 := match uo c F.1 p with
  | none => -1
  | some k => if s < 0 ∨ (3 : Int32) ≤ s then -2 else if n < 0 ∨ (32 : Int32) ≤ n then -2 else match fd W H k (s * 32 + n) with
    | none => -5
    | some z => nI z.1
section
variable {x m o us t c c2 : Nat} {R : List Nat} {G : Nat → Nat} {ρ ω : Nat → Nat} {Λ : sLay} {S S1 : sSt} {F : aF} {U W : aU} {H : aH}
theorem found_c (h : CA x m o R G us t c c2 F U W H ρ ω Λ S) (hc : c ≤ 16) (hA : WA c F W) (p s n : Int32) : Pa (F_X8_found Λ.2.2 S x p s n) (fun r => r = aFound c F W H p s n) := by
  have h320 := h.1.2.2.2.2.2.2.2.2.1
  unfold F_X8_found aFound
  refine Pa_r h320 ?_
  cases e : uo c F.1 p with
  | none => exact Pa_be (at_none h.1 hc h.2.1 e) (Pa_on rfl (Pa_some rfl))
  | some k =>
    obtain ⟨u, hu, ea, -⟩ := at_some h.1 hc h.2.1 e
    obtain ⟨ep, hk, hT, -⟩ := uo_some e
    refine Pa_be ea (Pa_oS rfl (Pa_be isB_val ?_))
    show Pa _ (fun r : Int32 => r = if s < 0 ∨ (3 : Int32) ≤ s then -2 else if n < 0 ∨ (32 : Int32) ≤ n then -2 else match fd W H k (s * 32 + n) with
      | none => -5
      | some z => nI z.1)
    by_cases c1 : s < 0 ∨ (3 : Int32) ≤ s
    · rw [if_pos c1, if_pos c1]
      exact Pa_it rfl (Pa_some rfl)
    rw [if_neg c1, if_neg c1]
    refine Pa_if (by decide) (Pa_be isB_val ?_)
    by_cases c3 : n < 0 ∨ (32 : Int32) ≤ n
    · rw [if_pos c3, if_pos c3]
      exact Pa_it rfl (Pa_some rfl)
    rw [if_neg c3, if_neg c3]
    refine Pa_if (by decide) (Pa_m h320 (Pa_bs (Pa_bs (Pa_bind (lf_th h hc hA hk hT hu (s * 32 + n)) (fun v _ hv => ?_)))))
    rcases hv with ⟨e1, rfl⟩ | ⟨z, a, th, e1, rfl, -, -, -, -, -, -, -, e200⟩
    · rw [e1]
      exact Pa_on rfl (Pa_some rfl)
    · rw [e1]
      exact Pa_oS rfl (Pa_some e200)
theorem found_r (h : RA m G Λ c F U W H S) (hc : c ≤ 16) (hA : WA c F W) (p s n : Int32) : Pa (F_X9_found Λ.2.2 S m p s n) (fun r => r.1 = aFound c F W H p s n) := by
  obtain ⟨hS, ec, hF, hU, hW, hH⟩ := h
  unfold F_X9_found aFound
  refine Pa_b ?_
  have hG : MG m G Λ (sFI S 360 m 0) := hS.g0.1
  have hH1 : RH G (sFI S 360 m 0) c F H := hH
  have hW1 : RL2 369 370 6 G (sFI S 360 m 0) c F W := hW
  have ec1 : gFI (sFI S 360 m 0) 361 m = nI c := by rw [gFI_ne (by decide)]; exact ec
  refine Pa_be (isU_val hS.g0 hc ec1 (fun k hk => (hF k hk).1) p) ?_
  cases e : uo c F.1 p with
  | none => exact Pa_it (iU0.mpr rfl) (Pa_some rfl)
  | some k =>
    obtain ⟨ep, hk, hT, -⟩ := uo_some e
    refine Pa_if (fun z => by have := iU0.mp z; cases this) (Pa_be in_val ?_)
    show Pa _ (fun r : Int32 × sSt => r.1 = if s < 0 ∨ (3 : Int32) ≤ s then -2 else if n < 0 ∨ (32 : Int32) ≤ n then -2 else match fd W H k (s * 32 + n) with
      | none => -5
      | some z => nI z.1)
    by_cases c1 : s < 0 ∨ (3 : Int32) ≤ s
    · rw [if_pos c1, if_pos (cnd3.mpr c1)]
      exact Pa_it rfl (Pa_some rfl)
    rw [if_neg c1, if_neg (fun z => c1 (cnd3.mp z))]
    refine Pa_if (by decide) (Pa_be name_val ?_)
    by_cases c3 : n < 0 ∨ (32 : Int32) ≤ n
    · rw [if_pos c3, if_pos (cnd32.mpr c3)]
      exact Pa_it rfl (Pa_some rfl)
    rw [if_neg c3, if_neg (fun z => c3 (cnd32.mp z)), Int32.mul_comm 32 s]
    refine Pa_if (by decide) (Pa_bind (fn_val hG hW1 hH1 hc hA hk hT ep (s * 32 + n)) (fun v _ hv => ?_))
    subst hv
    have iff1 := oF_n (x := fd W H k (s * 32 + n)) (fun z hz => fd_lim hH1 hc hA hk hT hz)
    cases ef : fd W H k (s * 32 + n) with
    | none =>
      rw [ef] at iff1
      exact Pa_it (iff1.mpr rfl) (Pa_some rfl)
    | some z =>
      rw [ef] at iff1
      have lim := fd_lim hH1 hc hA hk hT ef
      refine Pa_if (fun y => by have := iff1.mp y; cases this) (Pa_some ?_)
      show nI (10 * z.1 + z.2) / 10 = nI z.1
      rw [n_d10 (by omega)]
      congr 1
      omega
end
