theorem PD.lay {x m o us tt c1 c2 q : Nat} {R : List Nat} {G : Nat → Nat} {ρ ω : Nat → Nat} {Λ Λ2 : sLay} {S S2 : sSt} {p1 : Int32} (h : PD x m o R G us tt c1 c2 ρ ω Λ S) (hq : q ∉ Λ.1) (r : R_X6_init (lNew Λ q 6 0) (sNew S q) q p1 Λ2 S2) : ∃ ρ2 ω2, AG Λ.1 ρ ρ2 ∧ AG Λ.1 ω ω2 ∧ PD x m o R G us tt c1 c2 ρ2 ω2 Λ2 S2 ∧ isK (own Λ2 R) 6 q ∧ ∃ tq, gFR S2 244 q = some tq ∧ (∀ i b, gAR S2 tq i = some b → ω2 b = tq ∧ gFI S2 200 b = p1) ∧ ∀ i j b, gAR S2 tq i = some b → gAR S2 tq j = some b → i = j := by
  have hus := h.kus
  have htt := h.kt
  obtain ⟨h1, h2, h3, h4, h5, h6, h7, h8, h9, h10, h11, h12, h13, h14, h15, h16⟩ := h
  have ex := (lExt.new (kd := 6) (len := 0) hq).tr r.ext
  have kk : ∀ a, a ∈ Λ.1 → kpA S S2 a := fun a ha => (kpA.new (ne_fresh ha hq)).tr (r.kp (inNew ha) (ne_fresh ha hq))
  obtain ⟨g1, tq⟩ := N6 h7 h1 hq r
  obtain ⟨ρ2, ω2, ag1, ag2, -, -, g2, gt⟩ := M6 h7 h15 h1 hq 4444 us (by decide) r
  have hu := own_isK.mp hus
  have ht := own_isK.mp htt
  refine ⟨ρ2, ω2, ag1, ag2, ⟨fun a ha => (ex a (h1 a ha)).1, h2, h3, isK.ext (own_ext ex) h4, isK.ext (own_ext ex) h5, ?_, g1, ?_, ?_, ?_, ?_, fun k u hk hu2 => ?_, ?_, ?_, g2, (ag1 o (own_isK.mp h5).1.1).trans h16⟩, tq, gt⟩
  · rw [(ex o (own_isK.mp h5).1.1).2.2]; exact h6
  · exact (h8.kp (kk m (h1 m h2)) (fun f hf => kk _ (h1 _ (h3 f hf)))).lay (fun f hf => (ex _ (h1 _ (h3 f hf))).2.2)
  · rw [(kk x (own_isK.mp h4).1.1).2.2.1 320]; exact h9
  · rw [(kk us hu.1.1).2.2.1 280]; exact h10
  · rw [(ex tt ht.1.1).2.2]; exact h11
  · rw [(kk tt ht.1.1).2.2.2.2.2 k] at hu2
    have tu := own_isK.mp (h7.1.2 tt k htt.1 u (by rw [hu2]))
    rw [(kk u tu.1.1).1 240]
    exact h12 k u hk hu2
  · rw [(kk us hu.1.1).1 281]; exact h13
  · rw [(kk m (h1 m h2)).1 361]; exact h14
theorem LsI.lay {Λ Λ2 : sLay} {S S2 : sSt} {l b : Nat} {xs : List Int32} (hL : LsI Λ.2.2 S l b xs) (kl : kpA S S2 l) (kb : kpA S S2 b) (e : Λ2.2.2 b = Λ.2.2 b) : LsI Λ2.2.2 S2 l b xs := by
  have hL2 := hL.same (S' := S2) (kl.1 41) (kl.2.2.1 40) kb.2.2.2.1
  exact ⟨hL2.1, hL2.2.1, by rw [e]; exact hL2.2.2.1, by rw [e]; exact hL2.2.2.2.1, hL2.2.2.2.2⟩
section
variable {x m o us t c c2 q : Nat} {R : List Nat} {G : Nat → Nat} {ρ ω ρ2 ω2 : Nat → Nat} {Λ Λ2 : sLay} {S S2 : sSt} {F : aF} {U W : aU} {H : aH}
theorem CL2.lay {f : Nat} (h : PD x m o R G us t c c2 ρ ω Λ S) (hU : CL2 f Λ.2.2 S t c F U) (hf : f ∈ refF) (h1 : rk f = 1) (h40 : f ≠ 40) (h120 : f ≠ 120) (ex : lExt Λ Λ2) (kk : ∀ a, a ∈ Λ.1 → kpA S S2 a) : CL2 f Λ2.2.2 (sAR S2 t c (some q)) t c F U := fun k hk hT => by
  obtain ⟨u, l, b, hu, hl, hL⟩ := hU k hk hT
  have tu := h.un hu
  obtain ⟨tl, -⟩ := h.fl tu hf h1 h40 h120 hl
  obtain ⟨tb, -⟩ := h.fb tl hL.2.1
  have ku := kk u (own_mem.mp tu.1).1
  have kl := kk l (own_mem.mp tl.1).1
  have kb := kk b (own_mem.mp tb.1).1
  have kt := kk t (own_mem.mp h.kt.1).1
  refine ⟨u, l, b, ?_, (ku.2.2.1 f).trans hl, LsI.lay (S2 := S2) hL kl kb (ex b (own_mem.mp tb.1).1).2.2⟩
  rw [gAR_sAR, if_neg (fun z => by have := z.2; omega), kt.2.2.2.2.2 k]
  exact hu
theorem CT.lay (h : PD x m o R G us t c c2 ρ ω Λ S) (hH : CT Λ.2.2 S t c F H) (ex : lExt Λ Λ2) (kk : ∀ a, a ∈ Λ.1 → kpA S S2 a) : CT Λ2.2.2 (sAR S2 t c (some q)) t c F H := fun k hk hT => by
  obtain ⟨u, tt, hu, g1, g2, g3, g4, g5⟩ := hH k hk hT
  have tu := h.un hu
  obtain ⟨tk, -, -⟩ := h.ftt tu g1
  have ku := kk u (own_mem.mp tu.1).1
  have kt := kk t (own_mem.mp h.kt.1).1
  have ktt := kk tt (own_mem.mp tk.1).1
  have ntt : tt ≠ t := nek tk h.kt (by decide)
  refine ⟨u, tt, ?_, (ku.2.2.1 244).trans g1, (ku.1 245).trans g2, g3, (ex tt (own_mem.mp tk.1).1).2.2.trans g4, fun i th hi => ?_⟩
  · rw [gAR_sAR, if_neg (fun z => by have := z.2; omega), kt.2.2.2.2.2 k]
    exact hu
  · obtain ⟨a, ha, y1, y2, y3, l, b, y4, y5⟩ := g5 i th hi
    have ta := h.fth tk ha
    obtain ⟨tl, -⟩ := h.fbl ta y4
    obtain ⟨tb, -⟩ := h.fb tl y5.2.1
    have ka := kk a (own_mem.mp ta.1).1
    have kl := kk l (own_mem.mp tl.1).1
    have kb := kk b (own_mem.mp tb.1).1
    refine ⟨a, ?_, (ka.1 202).trans y1, (ka.2.1 203).trans y2, (ka.1 204).trans y3, l, b, (ka.2.2.1 201).trans y4, ?_⟩
    · rw [gAR_sAR, if_neg (fun z => ntt z.1), ktt.2.2.2.2.2 i]
      exact ha
    · exact LsI.lay (S2 := S2) y5 kl kb (ex b (own_mem.mp tb.1).1).2.2
theorem TI.lay (h : PD x m o R G us t c c2 ρ ω Λ S) (hI : TI ω t S) (h2 : PD x m o R G us t c c2 ρ2 ω2 Λ2 S2) (ag : AG Λ.1 ω ω2) (kk : ∀ a, a ∈ Λ.1 → kpA S S2 a) (tq : isK (own Λ2 R) 6 q) {p1 : Int32} (e240 : gFI S2 240 q = p1) {rq : Nat} (e244 : gFR S2 244 q = some rq) (r1 : ∀ i b, gAR S2 rq i = some b → ω2 b = rq ∧ gFI S2 200 b = p1) (r2 : ∀ i j b, gAR S2 rq i = some b → gAR S2 rq j = some b → i = j) : TI ω2 t (sAR S2 t c (some q)) := fun k u tt hk hu e => by
  have kt := kk t (own_mem.mp h.kt.1).1
  have e' : gFR S2 244 u = some tt := e
  rw [gAR_sAR] at hu
  by_cases ck : t = t ∧ k = c
  · rw [if_pos ck] at hu
    cases hu
    rw [e244] at e'
    cases e'
    obtain ⟨trq, -, -⟩ := h2.ftt tq e244
    have ntt : rq ≠ t := nek trq h2.kt (by decide)
    have er : ∀ i, gAR (sAR S2 t c (some q)) rq i = gAR S2 rq i := fun i => by rw [gAR_sAR, if_neg (fun z => ntt z.1)]
    refine ⟨fun i b hb => ?_, fun i j b hb hb2 => ?_⟩
    · rw [er] at hb
      obtain ⟨y1, y2⟩ := r1 i b hb
      exact ⟨y1, y2.trans e240.symm⟩
    · rw [er] at hb hb2
      exact r2 i j b hb hb2
  · rw [if_neg ck, kt.2.2.2.2.2 k] at hu
    have tu := h.un hu
    have ku := kk u (own_mem.mp tu.1).1
    rw [ku.2.2.1 244] at e'
    obtain ⟨tk, -, -⟩ := h.ftt tu e'
    have ktt := kk tt (own_mem.mp tk.1).1
    have ntt : tt ≠ t := nek tk h.kt (by decide)
    have er : ∀ i, gAR (sAR S2 t c (some q)) tt i = gAR S tt i := fun i => by rw [gAR_sAR, if_neg (fun z => ntt z.1)]; exact ktt.2.2.2.2.2 i
    obtain ⟨g1, g2⟩ := hI k u tt hk hu e'
    refine ⟨fun i b hb => ?_, fun i j b hb hb2 => ?_⟩
    · rw [er] at hb
      have tb := h.fth tk hb
      obtain ⟨y1, y2⟩ := g1 i b hb
      have kb := kk b (own_mem.mp tb.1).1
      refine ⟨(ag b (own_mem.mp tb.1).1).trans y1, ?_⟩
      show gFI S2 200 b = gFI S2 240 u
      rw [kb.1 200, ku.1 240]
      exact y2
    · rw [er] at hb hb2
      exact g2 i j b hb hb2
end
/-- one more unit: u is in its place, S the store when it starts, S1 behind that -/
theorem unit_end {x m o us tt c u : Nat} {R : List Nat} {G : Nat → Nat} {F : aF} {U W : aU} {H : aH} {ρ ω : Nat → Nat} {Λ : sLay} {S S1 : sSt} {t : Nat} {fz Ar : Nat → Bool} (hc : c < 16) (hp : PT x m o R G us tt c F U W H ρ ω Λ S) (g : Sh (S, fz, ρ, Ar) (own Λ R) S1) (f0 : fz 240 = true) (f1 : fz 281 = true) (e : F_X6_start Λ.2.2 S u = some S1) (hu : gAR S tt c = some u) : ∃ S2, F_X9_unit Λ.2.2 (sFI S1 281 us (gFI S1 281 us + 1)) m = some (gFI (sFI S1 281 us (gFI S1 281 us + 1)) 240 u, S2) ∧ pInv x m o (t + 1) Λ S2 := by
  have h := hp.pf
  have h1 := h.2.1.clz g f0 f1
  have hus := h1.kus
  have tu := h.2.1.un hu
  have e281 := h1.e1
  have hd : PD x m o R G us tt (c + 1) c ρ ω Λ (sFI S1 281 us (gFI S1 281 us + 1)) := by
    refine h1.cls (W := sFI S1 281 us (gFI S1 281 us + 1)) (fz := fun _ => true) (Ar := fun _ => true) (fun a ha => kpA.sFI (fun e => ha (e ▸ hus.1))) rfl (fun _ => rfl) (fun a => by rw [gFI_sFI, if_neg (fun z => absurd z.1 (by decide))]) (by rw [gFI_sFI, if_pos ⟨rfl, rfl⟩]; exact e_add e281 k1) ?_ rfl rfl
    exact ((h1.2.2.2.2.2.2.1.fi 281 us _)).sh _ ρ _ h1.rt
  obtain ⟨a1, ea1⟩ := h.2.1.2.2.2.2.2.2.1.2.1 241 (by decide) u tu id
  obtain ⟨a2, ea2⟩ := h.2.1.2.2.2.2.2.2.1.2.1 242 (by decide) u tu id
  obtain ⟨a4, ea4⟩ := h.2.1.2.2.2.2.2.2.1.2.1 244 (by decide) u tu id
  have n4 := h.2.1.n10 tu ea4
  have hCF := CF.start (us := us) (v := gFI S1 281 us + 1) ea1 ea2 e h.2.2.1 hu (fun k u2 hk hu2 z => by
    rw [z] at hu2
    have := h.2.1.inj (by omega) hc hu2 hu
    omega)
  have kR : ∀ a, a ∈ R → kpA S (sFI S1 281 us (gFI S1 281 us + 1)) a := fun a ha => (h.2.1.out g ha).tr (kpA.sFI (fun e => (own_isK.mp hus).2 (by rw [← e]; exact ha)))
  have hRA := hp.ra.cls h.2.1 kR
  obtain ⟨⟨r, S2⟩, e2, ⟨g1, g2, g3, g4⟩, -, -, x371, -, x372⟩ := T_and (unit_r _ hd.mc c hc hd.e2 hRA.2.2.1) (unit_x _ hd.mc c hc hd.e2)
  have x363 : ∀ k, gAI S2 (G 363) k = if k = c then 0 else gAI (sFI S1 281 us (gFI S1 281 us + 1)) (G 363) k := by
    have z := T_at (unit_x _ hd.mc c hc hd.e2) e2
    exact z.1
  have x369 : ∀ k, gAI S2 (G 369) k = if k = c then 0 else gAI (sFI S1 281 us (gFI S1 281 us + 1)) (G 369) k := by
    have z := T_at (unit_x _ hd.mc c hc hd.e2) e2
    exact z.2.1
  have x370 : ∀ k, gAI S2 (G 370) k = gAI (sFI S1 281 us (gFI S1 281 us + 1)) (G 370) k := by
    have z := T_at (unit_x _ hd.mc c hc hd.e2) e2
    exact z.2.2.2.1
  have x371 : ∀ k, gAI S2 (G 371) k = if k = c then 0 else gAI (sFI S1 281 us (gFI S1 281 us + 1)) (G 371) k := x371
  have x372 : ∀ k, gAI S2 (G 372) k = gAI (sFI S1 281 us (gFI S1 281 us + 1)) (G 372) k := x372
  obtain ⟨xI, xJ⟩ := (unit_y (N := Λ.2.2) hd.mc.1) _ e2
  have xI : ∀ f, isM f = true → f ≠ 362 → f ≠ 363 → f ≠ 369 → f ≠ 371 → f ≠ 373 → f ≠ 374 → f ≠ 377 → ∀ k, gAI S2 (G f) k = gAI (sFI S1 281 us (gFI S1 281 us + 1)) (G f) k := xI
  have xJ : ∀ a k, gAJ S2 a k = gAJ (sFI S1 281 us (gFI S1 281 us + 1)) a k := xJ
  have es := e
  rw [start7 ea1 ea2] at es
  cases es
  obtain ⟨ta1, ra1, wa1⟩ := h.2.1.fl (f := 241) tu (by decide) rfl (by decide) (by decide) ea1
  obtain ⟨ta2, ra2, wa2⟩ := h.2.1.fl (f := 242) tu (by decide) rfl (by decide) (by decide) ea2
  have nu : ∀ k u2, k < c → gAR S tt k = some u2 → u2 ≠ u := fun k u2 hk hu2 z => by
    rw [z] at hu2
    have := h.2.1.inj (by omega) hc hu2 hu
    omega
  have hC2 : CL2 242 Λ.2.2 (sFI (sFI (sFI (sFI (sFI (sFI (sFI (sFI S 247 u 1) 248 u 0) 249 u (-5)) 250 u 0) 245 u 0) 41 a1 0) 41 a2 0) 281 us (gFI (sFI (sFI (sFI (sFI (sFI (sFI (sFI S 247 u 1) 248 u 0) 249 u (-5)) 250 u 0) 245 u 0) 41 a1 0) 41 a2 0) 281 us + 1)) tt (c + 1) (up1 F.1 c true, up1 F.2.1 c 0, up1 F.2.2 c (-5)) (up1 U c []) := by
    intro k hk hT
    by_cases ck : k = c
    · obtain ⟨b, eb⟩ := h.2.1.2.2.2.2.2.2.1.2.1 40 (by decide) a2 ta2 id
      have nb := h.2.1.n12 tu ea2 eb
      rw [ck, up1_s]
      refine ⟨u, a2, b, hu, ea2, ?_, eb, Nat.zero_le _, by rw [nb]; omega, fun i v hv => by cases hv⟩
      simp [gFI_sFI]
      rfl
    · have hT' : up1 F.1 c true k = true := hT
      rw [up1_n ck] at hT'
      rw [up1_n ck]
      obtain ⟨u2, l, b, hu2, hl, hL⟩ := hp.ca.2.2.1 k (by omega) hT'
      have tu2 := h.2.1.un hu2
      obtain ⟨tl, -, wl⟩ := h.2.1.fl (f := 242) tu2 (by decide) rfl (by decide) (by decide) hl
      have nu2 := nu k u2 (by omega) hu2
      have n1 : l ≠ a1 := fun z => nu2 (by rw [← wl, ← wa1, z])
      have n2 : l ≠ a2 := fun z => nu2 (by rw [← wl, ← wa2, z])
      exact ⟨u2, l, b, hu2, hl, hL.same (by simp [gFI_sFI, n1, n2]) rfl (fun _ => rfl)⟩
  have hC1 : CL2 241 Λ.2.2 (sFI (sFI (sFI (sFI (sFI (sFI (sFI (sFI S 247 u 1) 248 u 0) 249 u (-5)) 250 u 0) 245 u 0) 41 a1 0) 41 a2 0) 281 us (gFI (sFI (sFI (sFI (sFI (sFI (sFI (sFI S 247 u 1) 248 u 0) 249 u (-5)) 250 u 0) 245 u 0) 41 a1 0) 41 a2 0) 281 us + 1)) tt (c + 1) (up1 F.1 c true, up1 F.2.1 c 0, up1 F.2.2 c (-5)) (up1 W c []) := by
    intro k hk hT
    by_cases ck : k = c
    · obtain ⟨b, eb⟩ := h.2.1.2.2.2.2.2.2.1.2.1 40 (by decide) a1 ta1 id
      have nb := h.2.1.n6 tu ea1 eb
      have n12 : a1 ≠ a2 := fun z => by
        have := ra1.symm.trans ((congrArg ρ z).trans ra2)
        omega
      rw [ck, up1_s]
      refine ⟨u, a1, b, hu, ea1, ?_, eb, Nat.zero_le _, by rw [nb]; omega, fun i v hv => by cases hv⟩
      simp [gFI_sFI, n12]
      rfl
    · have hT' : up1 F.1 c true k = true := hT
      rw [up1_n ck] at hT'
      rw [up1_n ck]
      obtain ⟨u2, l, b, hu2, hl, hL⟩ := hp.ca.2.2.2.1 k (by omega) hT'
      have tu2 := h.2.1.un hu2
      obtain ⟨tl, -, wl⟩ := h.2.1.fl (f := 241) tu2 (by decide) rfl (by decide) (by decide) hl
      have nu2 := nu k u2 (by omega) hu2
      have n1 : l ≠ a1 := fun z => nu2 (by rw [← wl, ← wa1, z])
      have n2 : l ≠ a2 := fun z => nu2 (by rw [← wl, ← wa2, z])
      exact ⟨u2, l, b, hu2, hl, hL.same (by simp [gFI_sFI, n1, n2]) rfl (fun _ => rfl)⟩
  have hCT : CT Λ.2.2 (sFI (sFI (sFI (sFI (sFI (sFI (sFI (sFI S 247 u 1) 248 u 0) 249 u (-5)) 250 u 0) 245 u 0) 41 a1 0) 41 a2 0) 281 us (gFI (sFI (sFI (sFI (sFI (sFI (sFI (sFI S 247 u 1) 248 u 0) 249 u (-5)) 250 u 0) 245 u 0) 41 a1 0) 41 a2 0) 281 us + 1)) tt (c + 1) (up1 F.1 c true, up1 F.2.1 c 0, up1 F.2.2 c (-5)) (up1 H c []) := by
    intro k hk hT
    by_cases ck : k = c
    · rw [ck, up1_s]
      refine ⟨u, a4, hu, ea4, ?_, Nat.zero_le _, n4, fun i th hi => by cases hi⟩
      simp [gFI_sFI]
      rfl
    · have hT' : up1 F.1 c true k = true := hT
      rw [up1_n ck] at hT'
      rw [up1_n ck]
      obtain ⟨u2, t2, hu2, y1, y2, y3, y4, y5⟩ := hp.ca.2.2.2.2.1 k (by omega) hT'
      have tu2 := h.2.1.un hu2
      obtain ⟨tk2, -, -⟩ := h.2.1.ftt tu2 y1
      have nu2 := nu k u2 (by omega) hu2
      refine ⟨u2, t2, hu2, y1, by simp [gFI_sFI, nu2]; exact y2, y3, y4, fun i th hi => ?_⟩
      obtain ⟨a, ha, z1, z2, z3, l, b, z4, z5⟩ := y5 i th hi
      have ta := h.2.1.fth tk2 ha
      obtain ⟨tl, rl, -⟩ := h.2.1.fbl ta z4
      have n1 : l ≠ a1 := fun z => by
        have := rl.symm.trans ((congrArg ρ z).trans ra1)
        omega
      have n2 : l ≠ a2 := fun z => by
        have := rl.symm.trans ((congrArg ρ z).trans ra2)
        omega
      exact ⟨a, ha, by simp [gFI_sFI]; exact z1, z2, by simp [gFI_sFI]; exact z3, l, b, z4, z5.same (by simp [gFI_sFI, n1, n2]) rfl (fun _ => rfl)⟩
  have hTI : TI ω tt (sFI (sFI (sFI (sFI (sFI (sFI (sFI (sFI S 247 u 1) 248 u 0) 249 u (-5)) 250 u 0) 245 u 0) 41 a1 0) 41 a2 0) 281 us (gFI (sFI (sFI (sFI (sFI (sFI (sFI (sFI S 247 u 1) 248 u 0) 249 u (-5)) 250 u 0) 245 u 0) 41 a1 0) 41 a2 0) 281 us + 1)) := hp.ca.2.2.2.2.2.kp (fun _ => rfl) rfl (fun _ _ _ _ _ _ _ => rfl) (fun a => by simp [gFI_sFI]) (fun a => by simp [gFI_sFI])
  have hCA : CA x m o R G us tt (c + 1) c (up1 F.1 c true, up1 F.2.1 c 0, up1 F.2.2 c (-5)) (up1 U c []) (up1 W c []) (up1 H c []) ρ ω Λ _ := ⟨hd, hCF, hC2, hC1, hCT, hTI⟩
  have oldT : ∀ k, k ≠ c → up1 F.1 c true k = true → F.1 k = true := fun k ck hT => by rw [up1_n ck] at hT; exact hT
  have hR3 : RL2 371 372 12 G S2 (c + 1) (up1 F.1 c true, up1 F.2.1 c 0, up1 F.2.2 c (-5)) (up1 U c []) := fun k hk hT => by
    by_cases ck : k = c
    · rw [ck, up1_s]
      exact ⟨by rw [x371, if_pos rfl]; rfl, Nat.zero_le _, fun i v hv => by cases hv⟩
    · rw [up1_n ck]
      obtain ⟨q1, q2, q3⟩ := hRA.2.2.2.1 k (by omega) (oldT k ck hT)
      exact ⟨by rw [x371, if_neg ck]; exact q1, q2, fun i v hv => (x372 _).trans (q3 i v hv)⟩
  have hR4 : RL2 369 370 6 G S2 (c + 1) (up1 F.1 c true, up1 F.2.1 c 0, up1 F.2.2 c (-5)) (up1 W c []) := fun k hk hT => by
    by_cases ck : k = c
    · rw [ck, up1_s]
      exact ⟨by rw [x369, if_pos rfl]; rfl, Nat.zero_le _, fun i v hv => by cases hv⟩
    · rw [up1_n ck]
      obtain ⟨q1, q2, q3⟩ := hRA.2.2.2.2.1 k (by omega) (oldT k ck hT)
      exact ⟨by rw [x369, if_neg ck]; exact q1, q2, fun i v hv => (x370 _).trans (q3 i v hv)⟩
  have hR5 : RH G S2 (c + 1) (up1 F.1 c true, up1 F.2.1 c 0, up1 F.2.2 c (-5)) (up1 H c []) := fun k hk hT => by
    by_cases ck : k = c
    · rw [ck, up1_s]
      exact ⟨by rw [x363, if_pos rfl]; rfl, Nat.zero_le _, fun i v hv => by cases hv⟩
    · rw [up1_n ck]
      obtain ⟨q1, q2, q3⟩ := hRA.2.2.2.2.2 k (by omega) (oldT k ck hT)
      exact ⟨by rw [x363, if_neg ck]; exact q1, q2, fun i th hi => (q3 i th hi).cp (xI 364 rfl (by decide) (by decide) (by decide) (by decide) (by decide) (by decide) (by decide) _) (xJ _ _) (xI 366 rfl (by decide) (by decide) (by decide) (by decide) (by decide) (by decide) (by decide) _) (xI 367 rfl (by decide) (by decide) (by decide) (by decide) (by decide) (by decide) (by decide) _) (fun z _ => xI 368 rfl (by decide) (by decide) (by decide) (by decide) (by decide) (by decide) (by decide) _)⟩
  have e240 := hd.2.2.2.2.2.2.2.2.2.2.2.1 c u hc hu
  refine ⟨S2, ?_, R, G, us, tt, c + 1, (up1 F.1 c true, up1 F.2.1 c 0, up1 F.2.2 c (-5)), up1 U c [], up1 W c [], up1 H c [], ρ, ω, by omega, hCA.ref g1 g3, ⟨g1.self, g3, g4, hR3, hR4, hR5⟩, fun k hk z1 z2 => ?_, fun k hk hT v hv => ?_, fun k hk hT => ?_, fun k hk hT i th hi => ?_⟩
  · rw [e2, e240]
    have z1 : r = nI c := g2
    rw [z1]
  · show up1 F.2.2 c (-5) k = -5
    by_cases ck : k = c
    · rw [ck, up1_s]
    · have z2' : up1 F.2.1 c 0 k ≠ 0 := z2
      rw [up1_n ck] at z2'
      rw [up1_n ck]
      exact h.2.2.2.2 k (by omega) (oldT k ck z1) z2'
  · have hv' : v ∈ up1 W c [] k := hv
    by_cases ck : k = c
    · rw [ck, up1_s] at hv'
      cases hv'
    · rw [up1_n ck] at hv'
      obtain ⟨j, hj, ej, hTj⟩ := hp.wa k (by omega) (oldT k ck hT) v hv'
      refine ⟨j, by omega, ej, ?_⟩
      show up1 F.1 c true j = true
      rw [up1_n (by omega)]
      exact hTj
  · show up1 F.2.2 c (-5) k = -5 ∨ ∃ j, j < c + 1 ∧ up1 F.2.2 c (-5) k = nI j ∧ up1 F.1 c true j = true ∧ up1 F.2.1 c 0 j ≠ 0
    by_cases ck : k = c
    · rw [ck, up1_s]
      exact Or.inl rfl
    · rw [up1_n ck]
      rcases hp.ma k (by omega) (oldT k ck hT) with a | ⟨j, b1, b2, b3, b4⟩
      · exact Or.inl a
      · refine Or.inr ⟨j, by omega, b2, ?_, ?_⟩
        · rw [up1_n (by omega)]; exact b3
        · rw [up1_n (by omega)]; exact b4
  · have hi' : (up1 H c [] k)[i]? = some th := hi
    by_cases ck : k = c
    · rw [ck, up1_s] at hi'
      cases hi'
    · rw [up1_n ck] at hi'
      exact hp.ha k (by omega) (oldT k ck hT) i th hi'
set_option maxHeartbeats 1000000 in
theorem step_unit {x m o us tt c t : Nat} {R : List Nat} {G : Nat → Nat} {F : aF} {U W : aU} {H : aH} {ρ ω : Nat → Nat} {Λ : sLay} {S : sSt} (hp : PT x m o R G us tt c F U W H ρ ω Λ S) {Q : Int32 → sLay → sSt → Prop} (hQ : ∀ r Λ1 S1, (∃ S2, F_X9_unit Λ1.2.2 S1 m = some (r, S2) ∧ pInv x m o (t + 1) Λ1 S2) → Q r Λ1 S1) : P_X8_unit Λ S x Q := by
  have h := hp.pf
  unfold P_X8_unit
  have hc := h.1
  have h320 := h.2.1.2.2.2.2.2.2.2.2.1
  have h280 := h.2.1.2.2.2.2.2.2.2.2.2.1
  have hlen := h.2.1.2.2.2.2.2.2.2.2.2.2.1
  have htt := h.2.1.kt
  have e281 := h.2.1.e1
  refine ⟨us, h320, ?_⟩
  unfold P_X7_addOne
  rw [e281]
  refine ⟨fun z => absurd z (nI_pos (by omega)), fun _ => ⟨tt, h280, fun z => ?_, fun z => ?_⟩⟩
  · rw [hlen] at z
    have hc16 : c = 16 := by
      rcases Nat.lt_or_ge c 16 with q | q
      · exact absurd ((nI_ltI (by omega) (by omega)).mpr q) z
      · omega
    refine ⟨fun _ => hQ _ _ _ ?_, fun u hu => nomatch hu⟩
    have eF : ∃ S2, F_X9_unit Λ.2.2 S m = some (-4, S2) ∧ MI m G Λ (S, S, nfz [360]) S2 := by
      refine ⟨sFI S 360 m 0, ?_, (h.2.1.mi _).wF (f := 360) rfl (rg0 (P := fun B => nB B _) (by decide))⟩
      have e16 : gFI (sFI S 360 m 0) 361 m = (16 : Int32) := by
        rw [gFI_ne (by decide), h.2.1.e2, hc16]
        rfl
      simp only [F_X9_unit, bnd]
      rw [if_pos e16]
    obtain ⟨S2, e2, g2⟩ := eF
    exact ⟨S2, e2, R, G, us, tt, c, F, U, W, H, ρ, ω, hp.r1 g2 (by unfold fyA; decide)⟩
  · rw [hlen] at z
    have hlt : c < 16 := (nI_ltI (by omega) (by omega)).mp z
    have ecl : (nI c).toNatClampNeg = c := nI_clamp (by omega)
    refine ⟨?_, fun u hu => ?_, fun hn q hq Λ2 S2 r => ?_⟩
    · rw [hlen]
      exact vp_in_nI hlt (by omega)
    · rw [ecl] at hu
      have tu := h.2.1.un hu
      obtain ⟨S1, e1, g1⟩ := tF_X6_start S (h.2.1.shz (nfz [41, 245, 247, 248, 249, 250]) (nfz [241, 1241, 2241, 242, 1242, 2242])) ⟨rfl, rfl, rfl⟩ ⟨rfl, rfl, rfl⟩ rfl rfl rfl rfl rfl rfl u tu
      refine ⟨S1, e1, ?_⟩
      refine ⟨fun y => absurd y (by simp), fun u' hu' => ?_⟩
      cases hu'
      exact hQ _ _ _ (unit_end hlt hp g1 rfl rfl e1 hu)
    · have eq0 : gFI (sNew S q) 281 us = nI c := by
        rw [gFI_sNew, if_neg (ne_fresh (own_isK.mp h.2.1.kus).1.1 hq)]
        exact e281
      rw [eq0] at r
      have ex := (lExt.new (kd := 6) (len := 0) hq).tr r.ext
      have kk : ∀ a, a ∈ Λ.1 → kpA S S2 a := fun a ha => (kpA.new (ne_fresh ha hq)).tr (r.kp (inNew ha) (ne_fresh ha hq))
      obtain ⟨ρ2, ω2, ag1, ag2, h2, tq, rq, e244, rr1, rr2⟩ := h.2.1.lay hq r
      have hC2 : CF S2 tt c F := CF.kp h.2.1 h.2.2.1 (fun a ha => kk a (own_mem.mp ha).1)
      have ht2 := h2.kt
      have e2 := h2.e1
      have hlen2 := h2.2.2.2.2.2.2.2.2.2.2.1
      have f240 := (r.at (isK.mk (kd := 6) (len := 0)).1).1
      refine ⟨tt, h2.2.2.2.2.2.2.2.2.2.1, ?_, ?_⟩
      · rw [e2, hlen2]
        exact vp_in_nI hlt (by omega)
      · rw [e2, ecl]
        have hne : ∀ k, k < c → gAR (sAR S2 tt c (some q)) tt k = gAR S2 tt k := fun k hk => by
          rw [gAR_sAR, if_neg (fun z => by have := z.2; omega)]
        have ntt : tt ∉ R := (own_isK.mp ht2).2
        have h3 : PD x m o R G us tt c c ρ2 ω2 Λ2 (sAR S2 tt c (some q)) := by
          obtain ⟨a1, a2, a3, a4, a5, a6, a7, a8, a9, a10, a11, a12, a13, a14, a15, a16⟩ := h2
          refine ⟨a1, a2, a3, a4, a5, a6, a7.ar tt c (by rw [ht2.2]; exact okK.of tq), a8.kp (kpA.sAR (fun e => ntt (e ▸ a2))) (fun f hf => kpA.sAR (fun e => ntt (e ▸ a3 f hf))), a9, a10, a11, fun k u hk hu => ?_, a13, a14, a15, a16⟩
          rw [gAR_sAR] at hu
          by_cases ck : tt = tt ∧ k = c
          · rw [if_pos ck] at hu
            cases hu
            rw [ck.2]
            exact f240
          · rw [if_neg ck] at hu
            exact a12 k u hk hu
        have kR : ∀ a, a ∈ R → kpA S (sAR S2 tt c (some q)) a := fun a ha => (kk a (h.2.1.1 a ha)).tr (kpA.sAR (fun e => ntt (e ▸ ha)))
        have hp3 : PT x m o R G us tt c F U W H ρ2 ω2 Λ2 (sAR S2 tt c (some q)) := by
          obtain ⟨y1, y2, y3, y4, y5, y6⟩ := hp.ra.cls h.2.1 kR
          refine ⟨hc, ⟨h3, fun k hk => ?_, CL2.lay h.2.1 hp.ca.2.2.1 (by decide) rfl (by decide) (by decide) ex kk, CL2.lay h.2.1 hp.ca.2.2.2.1 (by decide) rfl (by decide) (by decide) ex kk, hp.ca.2.2.2.2.1.lay h.2.1 ex kk, hp.ca.2.2.2.2.2.lay h.2.1 h2 ag2 kk tq f240 e244 rr1 rr2⟩, ⟨h3.mc, y2, y3, y4, y5, y6⟩, hp.2.2.2⟩
          obtain ⟨u, hu, g⟩ := hC2 k hk
          exact ⟨u, by rw [hne k hk]; exact hu, g⟩
        have hq3 : gAR (sAR S2 tt c (some q)) tt c = some q := by rw [gAR_sAR, if_pos ⟨rfl, rfl⟩]
        obtain ⟨S3, e3, g3⟩ := tF_X6_start (sAR S2 tt c (some q)) (h3.shz (nfz [41, 245, 247, 248, 249, 250]) (nfz [241, 1241, 2241, 242, 1242, 2242])) ⟨rfl, rfl, rfl⟩ ⟨rfl, rfl, rfl⟩ rfl rfl rfl rfl rfl rfl q tq
        refine ⟨S3, e3, ?_⟩
        refine ⟨fun y => absurd y (by simp), fun u' hu' => ?_⟩
        cases hu'
        exact hQ _ _ _ (unit_end hlt hp3 g3 rfl rfl e3 hq3)
theorem step_clear {x m o us tt c t : Nat} {R : List Nat} {G : Nat → Nat} {F : aF} {U W : aU} {H : aH} {ρ ω : Nat → Nat} {Λ : sLay} {S : sSt} (hp : PT x m o R G us tt c F U W H ρ ω Λ S) : ∃ r S1 S2, F_X8_clear Λ.2.2 S x = some (r, S1) ∧ F_X9_clear Λ.2.2 S1 m = some (r, S2) ∧ pInv x m o (t + 1) Λ S2 := by
  have h := hp.pf
  obtain ⟨⟨r, S1⟩, e1, q1, g1⟩ := clear_c h.2.1 h.1 h.2.2.1
  have h1 : PD x m o R G us tt 0 c ρ ω Λ S1 := h.2.1.cls (W := sFI S 281 us 0) (fun a ha => kpA.sFI (fun e => ha (e ▸ h.2.1.kus.1))) rfl (fun _ => rfl) (fun a => by rw [gFI_sFI, if_neg (fun z => absurd z.1 (by decide))]) (by rw [gFI_sFI, if_pos ⟨rfl, rfl⟩]; rfl) g1 rfl rfl
  obtain ⟨⟨r2, S2⟩, e2, g2, z2, c', hc', ec', er⟩ := tF_X9_clear S1 h1.mc
  have hR1 : RF G S1 c F := h.2.2.2.1.kp (fun f hf => (kpA.sFI (fun e => (own_isK.mp h.2.1.kus).2 (by rw [← e]; exact h.2.1.2.2.1 f hf))).tr (g1.2.2.2.2.1 _ (fun z => (own_mem.mp z).2 (h.2.1.2.2.1 f hf))))
  have ec : c' = c := by
    rw [h1.e2] at ec'
    exact ((nI_eq (by have := h.1; omega) (by omega)).mp ec').symm
  have q1 : r = _ := q1
  have er : r2 = _ := er
  have hI1 : TI ω tt S1 := hp.ca.2.2.2.2.2.kp (fun j => g1.2.2.2.2.2.2.1 tt j h.2.1.kt.2) g1.2.2.2.2.2.1 (fun k u t2 i hk hu e => by
    obtain ⟨tk, -, -⟩ := h.2.1.ftt (h.2.1.un hu) e
    exact (g1.2.2.2.2.2.2.2.2.2 t2 tk.1 (by rw [tk.2]; rfl) (by
      obtain ⟨-, rt, -⟩ := h.2.1.ftt (h.2.1.un hu) e
      show nfz [] (ρ t2) = true
      rw [rt]
      rfl)).2.2.2.2 i) (fun a => (g1.2.2.2.2.2.2.2.1 200 rfl a).1.trans (by show gFI (sFI S 281 us 0) 200 a = _; rw [gFI_sFI, if_neg (fun z => absurd z.1 (by decide))])) (fun a => (g1.2.2.2.2.2.2.2.1 240 rfl a).1.trans (by show gFI (sFI S 281 us 0) 240 a = _; rw [gFI_sFI, if_neg (fun z => absurd z.1 (by decide))]))
  have hp2 := h1.ref g2 z2
  refine ⟨r, S1, S2, e1, ?_, R, G, us, tt, 0, F, U, W, H, ρ, ω, PT.none hp2 (hI1.kpo h1 (fun a ha => h1.inn g2 ha))⟩
  rw [e2, q1, er, ec, thr_eq (fun k hk => (hR1 k hk).1)]
theorem st_0 {x m o us tt c : Nat} {R : List Nat} {G : Nat → Nat} {F : aF} {U W : aU} {H : aH} {ρ ω : Nat → Nat} {Λ : sLay} {S : sSt} {t : Nat} (h : PT x m o R G us tt c F U W H ρ ω Λ S) : St_0 Λ S x m o (pInv x m o (t + 1)) := by
  unfold St_0
  refine step_unit (t := t) h (fun r Λ1 S1 hr _ => ?_)
  obtain ⟨S2, e2, h2⟩ := hr
  exact ⟨r, S2, e2, h2⟩
theorem st_1 {x m o us tt c : Nat} {R : List Nat} {G : Nat → Nat} {F : aF} {U W : aU} {H : aH} {ρ ω : Nat → Nat} {Λ : sLay} {S : sSt} {Qn : sLay → sSt → Prop} (h : PT x m o R G us tt c F U W H ρ ω Λ S) (hQ : ∀ F2 U2 W2 H2 S2, PT x m o R G us tt c F2 U2 W2 H2 ρ ω Λ S2 → Qn Λ S2) : St_1 Λ S x m o Qn := by
  unfold St_1
  intro a1 a2 a3 a4 a5 hba5
  obtain ⟨r, S1, S2, H2, e1, e2, h2⟩ := step_give h a1 a2 a3 a4 a5 hba5
  exact ⟨r, S1, r, S2, e1, e2, hQ F U W H2 S2 h2⟩
theorem st_2 {x m o us tt c : Nat} {R : List Nat} {G : Nat → Nat} {F : aF} {U W : aU} {H : aH} {ρ ω : Nat → Nat} {Λ : sLay} {S : sSt} {Qn : sLay → sSt → Prop} (h : PT x m o R G us tt c F U W H ρ ω Λ S) (hQ : ∀ F2 U2 W2 H2 S2, PT x m o R G us tt c F2 U2 W2 H2 ρ ω Λ S2 → Qn Λ S2) : St_2 Λ S x m o Qn := by
  unfold St_2
  intro a1 a2 a3
  obtain ⟨r, S1, S2, H2, e1, e2, h2⟩ := step_take h a1 a2 a3
  exact ⟨r, S1, r, S2, e1, e2, hQ F U W H2 S2 h2⟩
theorem st_3 {x m o us tt c : Nat} {R : List Nat} {G : Nat → Nat} {F : aF} {U W : aU} {H : aH} {ρ ω : Nat → Nat} {Λ : sLay} {S : sSt} {Qn : sLay → sSt → Prop} (h : PT x m o R G us tt c F U W H ρ ω Λ S) (hQ : ∀ F2 U2 W2 H2 S2, PT x m o R G us tt c F2 U2 W2 H2 ρ ω Λ S2 → Qn Λ S2) : St_3 Λ S x m o Qn := by
  unfold St_3
  intro a1 a2 a3
  obtain ⟨r, S1, S2, H2, e1, e2, h2⟩ := step_build h a1 a2 a3
  exact ⟨r, S1, r, S2, e1, e2, hQ F U W H2 S2 h2⟩
theorem st_4 {x m o us tt c : Nat} {R : List Nat} {G : Nat → Nat} {F : aF} {U W : aU} {H : aH} {ρ ω : Nat → Nat} {Λ : sLay} {S : sSt} {Qn : sLay → sSt → Prop} (h : PT x m o R G us tt c F U W H ρ ω Λ S) (hQ : ∀ F2 U2 W2 H2 S2, PT x m o R G us tt c F2 U2 W2 H2 ρ ω Λ S2 → Qn Λ S2) : St_4 Λ S x m o Qn := by
  unfold St_4
  intro a1 a2
  obtain ⟨r, S1, S2, W2, e1, e2, h2⟩ := step_way h a1 a2
  exact ⟨r, S1, r, S2, e1, e2, hQ F U W2 H S2 h2⟩
theorem st_5 {x m o us tt c : Nat} {R : List Nat} {G : Nat → Nat} {F : aF} {U W : aU} {H : aH} {ρ ω : Nat → Nat} {Λ : sLay} {S : sSt} {Qn : sLay → sSt → Prop} (h : PT x m o R G us tt c F U W H ρ ω Λ S) (hQ : ∀ F2 U2 W2 H2 S2, PT x m o R G us tt c F2 U2 W2 H2 ρ ω Λ S2 → Qn Λ S2) : St_5 Λ S x m o Qn := by
  unfold St_5
  intro a1
  obtain ⟨r, S1, S2, W2, e1, e2, h2⟩ := step_unway h a1
  exact ⟨r, S1, r, S2, e1, e2, hQ F U W2 H S2 h2⟩
theorem st_6 {x m o us tt c : Nat} {R : List Nat} {G : Nat → Nat} {F : aF} {U W : aU} {H : aH} {ρ ω : Nat → Nat} {Λ : sLay} {S : sSt} {Qn : sLay → sSt → Prop} (h : PT x m o R G us tt c F U W H ρ ω Λ S) (hQ : ∀ F2 U2 W2 H2 S2, PT x m o R G us tt c F2 U2 W2 H2 ρ ω Λ S2 → Qn Λ S2) : St_6 Λ S x m o Qn := by
  unfold St_6
  intro a1 a2 a3
  obtain ⟨r, S1, S2, U2, e1, e2, h2⟩ := step_use h a1 a2 a3
  exact ⟨r, S1, r, S2, e1, e2, hQ F U2 W H S2 h2⟩
theorem st_7 {x m o us tt c : Nat} {R : List Nat} {G : Nat → Nat} {F : aF} {U W : aU} {H : aH} {ρ ω : Nat → Nat} {Λ : sLay} {S : sSt} {Qn : sLay → sSt → Prop} (h : PT x m o R G us tt c F U W H ρ ω Λ S) (hQ : ∀ F2 U2 W2 H2 S2, PT x m o R G us tt c F2 U2 W2 H2 ρ ω Λ S2 → Qn Λ S2) : St_7 Λ S x m o Qn := by
  unfold St_7
  intro a1 a2
  obtain ⟨r, S1, S2, U2, e1, e2, h2⟩ := step_unuse h a1 a2
  exact ⟨r, S1, r, S2, e1, e2, hQ F U2 W H S2 h2⟩
theorem st_8 {x m o us tt c : Nat} {R : List Nat} {G : Nat → Nat} {F : aF} {U W : aU} {H : aH} {ρ ω : Nat → Nat} {Λ : sLay} {S : sSt} {Qn : sLay → sSt → Prop} (h : PT x m o R G us tt c F U W H ρ ω Λ S) (hQ : ∀ F2 U2 W2 H2 S2, PT x m o R G us tt c F2 U2 W2 H2 ρ ω Λ S2 → Qn Λ S2) : St_8 Λ S x m o Qn := by
  unfold St_8
  intro a1 a2 hba2
  obtain ⟨r, S1, S2, F2, e1, e2, h2⟩ := step_reader h a1 a2 hba2
  exact ⟨r, S1, r, S2, e1, e2, hQ F2 U W H S2 h2⟩
theorem st_9 {x m o us tt c : Nat} {R : List Nat} {G : Nat → Nat} {F : aF} {U W : aU} {H : aH} {ρ ω : Nat → Nat} {Λ : sLay} {S : sSt} {Qn : sLay → sSt → Prop} (h : PT x m o R G us tt c F U W H ρ ω Λ S) (hQ : ∀ F2 U2 W2 H2 S2, PT x m o R G us tt c F2 U2 W2 H2 ρ ω Λ S2 → Qn Λ S2) : St_9 Λ S x m o Qn := by
  unfold St_9
  intro a1 a2
  obtain ⟨r, S1, r2, S2, F2, e1, e2, h2⟩ := step_gen h a1 a2
  exact ⟨r, S1, r2, S2, e1, e2, hQ F2 U W H S2 h2⟩
theorem st_10 {x m o us tt c : Nat} {R : List Nat} {G : Nat → Nat} {F : aF} {U W : aU} {H : aH} {ρ ω : Nat → Nat} {Λ : sLay} {S : sSt} {Qn : sLay → sSt → Prop} (h : PT x m o R G us tt c F U W H ρ ω Λ S) (hQ : ∀ F2 U2 W2 H2 S2, PT x m o R G us tt c F2 U2 W2 H2 ρ ω Λ S2 → Qn Λ S2) : St_10 Λ S x m o Qn := by
  unfold St_10
  intro a1
  obtain ⟨r, S1, S2, F2, W2, e1, e2, h2⟩ := step_rem h a1
  exact ⟨r, S1, r, S2, e1, e2, hQ F2 U W2 H S2 h2⟩
theorem st_11 {x m o us tt c : Nat} {R : List Nat} {G : Nat → Nat} {F : aF} {U W : aU} {H : aH} {ρ ω : Nat → Nat} {Λ : sLay} {S : sSt} {Qn : sLay → sSt → Prop} (h : PT x m o R G us tt c F U W H ρ ω Λ S) (hQ : ∀ F2 U2 W2 H2 S2, PT x m o R G us tt c F2 U2 W2 H2 ρ ω Λ S2 → Qn Λ S2) : St_11 Λ S x m o Qn := by
  unfold St_11
  intro a1 a2 a3
  obtain ⟨r, e1, -⟩ := tF_X8_found S (h.pd.shz (nfz []) (nfz [])) x h.pd.kx a1 a2 a3
  obtain ⟨⟨r2, S2⟩, e2, g2⟩ := tF_X9_found (Y := (S, S, nfz [360])) (w360 := rfl) S (h.ra.1.mi _) a1 a2 a3
  exact ⟨r, r2, S2, e1, e2, hQ F U W H S2 (h.r1 g2 (by unfold fyA; decide))⟩
theorem st_12 {x m o us tt c : Nat} {R : List Nat} {G : Nat → Nat} {F : aF} {U W : aU} {H : aH} {ρ ω : Nat → Nat} {Λ : sLay} {S : sSt} {Qn : sLay → sSt → Prop} (h : PT x m o R G us tt c F U W H ρ ω Λ S) (hQ : ∀ F2 U2 W2 H2 S2, PT x m o R G us tt c F2 U2 W2 H2 ρ ω Λ S2 → Qn Λ S2) : St_12 Λ S x m o Qn := by
  unfold St_12
  intro a1 a2
  obtain ⟨⟨r, S1⟩, e1, g1⟩ := tF_X8_value S (h.pd.shz (nfz [1, 205, 206, 207, 208, 209]) (nfz [0, 1000, 2000])) ⟨rfl, rfl, rfl⟩ rfl rfl rfl rfl rfl rfl x h.pd.kx a1 a2
  have h1 := h.c1 g1 (by unfold fzA; decide) (by unfold arA; decide)
  obtain ⟨⟨r2, S2⟩, e2, g2⟩ := tF_X9_value (Y := (S1, S1, nfz [360, 379, 380, 381])) (w360 := rfl) (w379 := rfl) (w380 := rfl) (w381 := rfl) S1 (h1.ra.1.mi _) a1 a2
  exact ⟨r, S1, r2, S2, e1, e2, hQ F U W H S2 (h1.r1 g2 (by unfold fyA; decide))⟩
theorem st_13 {x m o us tt c : Nat} {R : List Nat} {G : Nat → Nat} {F : aF} {U W : aU} {H : aH} {ρ ω : Nat → Nat} {Λ : sLay} {S : sSt} {Qn : sLay → sSt → Prop} (h : PT x m o R G us tt c F U W H ρ ω Λ S) (hQ : ∀ F2 U2 W2 H2 S2, PT x m o R G us tt c F2 U2 W2 H2 ρ ω Λ S2 → Qn Λ S2) : St_13 Λ S x m o Qn := by
  unfold St_13
  intro a1 a2
  obtain ⟨⟨r, S1⟩, e1, g1⟩ := tF_X8_round S (h.pd.shz (nfz [1, 205, 206, 207, 208, 209]) (nfz [0, 1000, 2000])) ⟨rfl, rfl, rfl⟩ rfl rfl rfl rfl rfl rfl x h.pd.kx a1 a2
  have h1 := h.c1 g1 (by unfold fzA; decide) (by unfold arA; decide)
  obtain ⟨⟨r2, S2⟩, e2, g2⟩ := tF_X9_round (Y := (S1, S1, nfz [360, 379, 380, 381])) (w360 := rfl) (w379 := rfl) (w380 := rfl) (w381 := rfl) S1 (h1.ra.1.mi _) a1 a2
  exact ⟨r, S1, r2, S2, e1, e2, hQ F U W H S2 (h1.r1 g2 (by unfold fyA; decide))⟩
theorem st_14 {x m o us tt c : Nat} {R : List Nat} {G : Nat → Nat} {F : aF} {U W : aU} {H : aH} {ρ ω : Nat → Nat} {Λ : sLay} {S : sSt} {Qn : sLay → sSt → Prop} (h : PT x m o R G us tt c F U W H ρ ω Λ S) (hQ : ∀ F2 U2 W2 H2 S2, PT x m o R G us tt c F2 U2 W2 H2 ρ ω Λ S2 → Qn Λ S2) : St_14 Λ S x m o Qn := by
  unfold St_14
  intro a1 a2 a3 a4
  obtain ⟨⟨r, S1⟩, e1, g1⟩ := tF_X8_chain S (h.pd.shz (nfz [1, 3, 205, 206, 207, 208, 209]) (nfz [0, 1000, 2000, 2, 1002, 2002])) ⟨rfl, rfl, rfl⟩ ⟨rfl, rfl, rfl⟩ rfl rfl rfl rfl rfl rfl rfl x h.pd.kx a1 a2 a3 a4
  have h1 := h.c1 g1 (by unfold fzA; decide) (by unfold arA; decide)
  obtain ⟨⟨r2, S2⟩, e2, g2⟩ := tF_X9_chain (Y := (S1, S1, nfz [360, 379, 380, 381, 382, 383, 384, 385, 386])) (w360 := rfl) (w379 := rfl) (w380 := rfl) (w381 := rfl) (w382 := rfl) (w383 := rfl) (w384 := rfl) (w385 := rfl) (w386 := rfl) S1 (h1.ra.1.mi _) a1 a2 a3 a4
  exact ⟨r, S1, r2, S2, e1, e2, hQ F U W H S2 (h1.r1 g2 (by unfold fyA; decide))⟩
theorem st_15 {x m o us tt c : Nat} {R : List Nat} {G : Nat → Nat} {F : aF} {U W : aU} {H : aH} {ρ ω : Nat → Nat} {Λ : sLay} {S : sSt} {Qn : sLay → sSt → Prop} (h : PT x m o R G us tt c F U W H ρ ω Λ S) (hQ : ∀ F2 U2 W2 H2 S2, PT x m o R G us tt c F2 U2 W2 H2 ρ ω Λ S2 → Qn Λ S2) : St_15 Λ S x m o Qn := by
  unfold St_15
  intro a1
  obtain ⟨⟨r, S1⟩, e1, g1⟩ := tF_X8_missing S (h.pd.shz (nfz [41]) (nfz [246, 1246, 2246])) ⟨rfl, rfl, rfl⟩ rfl x h.pd.kx a1
  have h1 := h.c1 g1 (by unfold fzA; decide) (by unfold arA; decide)
  obtain ⟨⟨r2, S2⟩, e2, g2⟩ := tF_X9_missing (Y := (S1, S1, nfz [360])) (w360 := rfl) S1 (h1.ra.1.mi _) a1
  exact ⟨r, S1, r2, S2, e1, e2, hQ F U W H S2 (h1.r1 g2 (by unfold fyA; decide))⟩
theorem st_16 {x m o us tt c : Nat} {R : List Nat} {G : Nat → Nat} {F : aF} {U W : aU} {H : aH} {ρ ω : Nat → Nat} {Λ : sLay} {S : sSt} {Qn : sLay → sSt → Prop} (h : PT x m o R G us tt c F U W H ρ ω Λ S) (hQ : ∀ F2 U2 W2 H2 S2, PT x m o R G us tt c F2 U2 W2 H2 ρ ω Λ S2 → Qn Λ S2) : St_16 Λ S x m o Qn := by
  unfold St_16
  intro a1
  obtain ⟨⟨r, S1⟩, e1, g1⟩ := tF_X8_size S (h.pd.shz (nfz [1, 41, 121, 122, 123, 124, 125, 205, 206, 207, 208, 209]) (nfz [0, 1000, 2000, 160, 1160, 2160, 161, 1161, 2161, 246, 1246, 2246])) ⟨rfl, rfl, rfl⟩ ⟨rfl, rfl, rfl⟩ ⟨rfl, rfl, rfl⟩ ⟨rfl, rfl, rfl⟩ rfl rfl rfl rfl rfl rfl rfl rfl rfl rfl rfl rfl x h.pd.kx a1
  have h1 := h.c1 g1 (by unfold fzA; decide) (by unfold arA; decide)
  obtain ⟨⟨r2, S2⟩, e2, g2⟩ := tF_X9_size (Y := (S1, S1, nfz [360, 379, 380, 381, 387, 388, 389])) (w360 := rfl) (w379 := rfl) (w380 := rfl) (w381 := rfl) (w387 := rfl) (w388 := rfl) (w389 := rfl) S1 (h1.ra.1.mi _) a1
  exact ⟨r, S1, r2, S2, e1, e2, hQ F U W H S2 (h1.r1 g2 (by unfold fyA; decide))⟩
theorem st_17 {x m o us tt c : Nat} {R : List Nat} {G : Nat → Nat} {F : aF} {U W : aU} {H : aH} {ρ ω : Nat → Nat} {Λ : sLay} {S : sSt} {Qn : sLay → sSt → Prop} (h : PT x m o R G us tt c F U W H ρ ω Λ S) (hQ : ∀ F2 U2 W2 H2 S2, PT x m o R G us tt c F2 U2 W2 H2 ρ ω Λ S2 → Qn Λ S2) : St_17 Λ S x m o Qn := by
  unfold St_17
  intro a1 a2
  obtain ⟨⟨r, S1⟩, e1, g1⟩ := tF_L_row S (h.pd.shz (nfz [1, 41, 121, 122, 123, 124, 125, 205, 206, 207, 208, 209]) (nfz [0, 1000, 2000, 160, 1160, 2160, 161, 1161, 2161, 246, 1246, 2246, 7777])) ⟨rfl, rfl, rfl⟩ ⟨rfl, rfl, rfl⟩ ⟨rfl, rfl, rfl⟩ ⟨rfl, rfl, rfl⟩ rfl rfl rfl rfl rfl rfl rfl rfl rfl rfl rfl rfl x h.pd.kx a1 a2 o h.pd.ko (by show nfz [0, 1000, 2000, 160, 1160, 2160, 161, 1161, 2161, 246, 1246, 2246, 7777] (ρ o) = false; rw [h.pd.eo]; rfl) h.pd.ol
  have h1 := h.c1 g1 (by unfold fzA; decide) (by unfold arA; decide)
  obtain ⟨⟨r2, S2⟩, e2, g2⟩ := tF_X9_row (Y := (S1, S1, nfz [360, 379, 380, 381, 387, 388, 389])) (w360 := rfl) (w379 := rfl) (w380 := rfl) (w381 := rfl) (w387 := rfl) (w388 := rfl) (w389 := rfl) S1 (h1.ra.1.mi _) a1 a2
  exact ⟨r, S1, r2, S2, e1, e2, hQ F U W H S2 (h1.r1 g2 (by unfold fyA; decide))⟩
theorem st_18 {x m o us tt c : Nat} {R : List Nat} {G : Nat → Nat} {F : aF} {U W : aU} {H : aH} {ρ ω : Nat → Nat} {Λ : sLay} {S : sSt} {Qn : sLay → sSt → Prop} (h : PT x m o R G us tt c F U W H ρ ω Λ S) (hQ : ∀ F2 U2 W2 H2 S2, PT x m o R G us tt c F2 U2 W2 H2 ρ ω Λ S2 → Qn Λ S2) : St_18 Λ S x m o Qn := by
  unfold St_18
  intro a1 a2
  obtain ⟨⟨r, S1⟩, e1, g1⟩ := tF_L_kept S (h.pd.shz (nfz []) (nfz [7777])) x h.pd.kx a1 a2 o h.pd.ko (by show nfz [7777] (ρ o) = false; rw [h.pd.eo]; rfl) h.pd.ol
  have h1 := h.c1 g1 (by unfold fzA; decide) (by unfold arA; decide)
  obtain ⟨⟨r2, S2⟩, e2, g2⟩ := tF_X9_kept (Y := (S1, S1, nfz [360])) (w360 := rfl) S1 (h1.ra.1.mi _) a1 a2
  exact ⟨r, S1, r2, S2, e1, e2, hQ F U W H S2 (h1.r1 g2 (by unfold fyA; decide))⟩
theorem st_19 {x m o us tt c : Nat} {R : List Nat} {G : Nat → Nat} {F : aF} {U W : aU} {H : aH} {ρ ω : Nat → Nat} {Λ : sLay} {S : sSt} {Qn : sLay → sSt → Prop} (h : PT x m o R G us tt c F U W H ρ ω Λ S) (hQ : ∀ F2 U2 W2 H2 S2, PT x m o R G us tt c F2 U2 W2 H2 ρ ω Λ S2 → Qn Λ S2) : St_19 Λ S x m o Qn := by
  unfold St_19
  intro a1
  obtain ⟨⟨r, S1⟩, e1, g1⟩ := tF_X8_why S (h.pd.shz (nfz [1, 41, 121, 122, 123, 124, 125, 205, 206, 207, 208, 209]) (nfz [0, 1000, 2000, 160, 1160, 2160, 161, 1161, 2161, 246, 1246, 2246])) ⟨rfl, rfl, rfl⟩ ⟨rfl, rfl, rfl⟩ ⟨rfl, rfl, rfl⟩ ⟨rfl, rfl, rfl⟩ rfl rfl rfl rfl rfl rfl rfl rfl rfl rfl rfl rfl x h.pd.kx a1
  have h1 := h.c1 g1 (by unfold fzA; decide) (by unfold arA; decide)
  obtain ⟨⟨r2, S2⟩, e2, g2⟩ := tF_X9_why (Y := (S1, S1, nfz [360, 379, 380, 381, 387, 388, 389])) (w360 := rfl) (w379 := rfl) (w380 := rfl) (w381 := rfl) (w387 := rfl) (w388 := rfl) (w389 := rfl) S1 (h1.ra.1.mi _) a1
  exact ⟨r, S1, r2, S2, e1, e2, hQ F U W H S2 (h1.r1 g2 (by unfold fyA; decide))⟩
theorem st_20 {x m o us tt c : Nat} {R : List Nat} {G : Nat → Nat} {F : aF} {U W : aU} {H : aH} {ρ ω : Nat → Nat} {Λ : sLay} {S : sSt} {Qn : sLay → sSt → Prop} (h : PT x m o R G us tt c F U W H ρ ω Λ S) (hQ : ∀ F2 U2 W2 H2 S2, PT x m o R G us tt c F2 U2 W2 H2 ρ ω Λ S2 → Qn Λ S2) : St_20 Λ S x m o Qn := by
  unfold St_20
  obtain ⟨⟨r, S1⟩, e1, g1⟩ := tF_X8_needs S (h.pd.shz (nfz [1, 41, 121, 122, 123, 124, 125, 205, 206, 207, 208, 209]) (nfz [0, 1000, 2000, 160, 1160, 2160, 161, 1161, 2161, 246, 1246, 2246])) ⟨rfl, rfl, rfl⟩ ⟨rfl, rfl, rfl⟩ ⟨rfl, rfl, rfl⟩ ⟨rfl, rfl, rfl⟩ rfl rfl rfl rfl rfl rfl rfl rfl rfl rfl rfl rfl x h.pd.kx
  have h1 := h.c1 g1 (by unfold fzA; decide) (by unfold arA; decide)
  obtain ⟨⟨r2, S2⟩, e2, g2⟩ := tF_X9_needs (Y := (S1, S1, nfz [360, 379, 380, 381, 387, 388, 389])) (w360 := rfl) (w379 := rfl) (w380 := rfl) (w381 := rfl) (w387 := rfl) (w388 := rfl) (w389 := rfl) S1 (h1.ra.1.mi _)
  exact ⟨r, S1, r2, S2, e1, e2, hQ F U W H S2 (h1.r1 g2 (by unfold fyA; decide))⟩
theorem st_21 {x m o us tt c : Nat} {R : List Nat} {G : Nat → Nat} {F : aF} {U W : aU} {H : aH} {ρ ω : Nat → Nat} {Λ : sLay} {S : sSt} {Qn : sLay → sSt → Prop} (h : PT x m o R G us tt c F U W H ρ ω Λ S) (hQ : ∀ F2 U2 W2 H2 S2, PT x m o R G us tt c F2 U2 W2 H2 ρ ω Λ S2 → Qn Λ S2) : St_21 Λ S x m o Qn := by
  unfold St_21
  intro a1
  obtain ⟨⟨r, S1⟩, e1, g1⟩ := tF_X8_make S (h.pd.shz (nfz [1, 41, 83, 84, 121, 122, 123, 124, 125, 205, 206, 207, 208, 209, 250, 324]) (nfz [0, 1000, 2000, 80, 1080, 2080, 81, 1081, 2081, 82, 1082, 2082, 160, 1160, 2160, 161, 1161, 2161, 243, 1243, 2243, 246, 1246, 2246])) ⟨rfl, rfl, rfl⟩ ⟨rfl, rfl, rfl⟩ ⟨rfl, rfl, rfl⟩ ⟨rfl, rfl, rfl⟩ ⟨rfl, rfl, rfl⟩ ⟨rfl, rfl, rfl⟩ ⟨rfl, rfl, rfl⟩ ⟨rfl, rfl, rfl⟩ rfl rfl rfl rfl rfl rfl rfl rfl rfl rfl rfl rfl rfl rfl rfl rfl x h.pd.kx a1
  have h1 := h.c1 g1 (by unfold fzA; decide) (by unfold arA; decide)
  obtain ⟨⟨r2, S2⟩, e2, g2⟩ := tF_X9_make (Y := (S1, S1, nfz [360, 375, 376, 377, 378, 379, 380, 381, 387, 388, 389, 390, 391, 392, 393, 394])) (w360 := rfl) (w375 := rfl) (w376 := rfl) (w377 := rfl) (w378 := rfl) (w379 := rfl) (w380 := rfl) (w381 := rfl) (w387 := rfl) (w388 := rfl) (w389 := rfl) (w390 := rfl) (w391 := rfl) (w392 := rfl) (w393 := rfl) (w394 := rfl) S1 (h1.ra.1.mi _) a1
  exact ⟨r, S1, r2, S2, e1, e2, hQ F U W H S2 (h1.r1 g2 (by unfold fyA; decide))⟩
theorem st_22 {x m o us tt c : Nat} {R : List Nat} {G : Nat → Nat} {F : aF} {U W : aU} {H : aH} {ρ ω : Nat → Nat} {Λ : sLay} {S : sSt} {Qn : sLay → sSt → Prop} (h : PT x m o R G us tt c F U W H ρ ω Λ S) (hQ : ∀ F2 U2 W2 H2 S2, PT x m o R G us tt c F2 U2 W2 H2 ρ ω Λ S2 → Qn Λ S2) : St_22 Λ S x m o Qn := by
  unfold St_22
  intro a1
  obtain ⟨⟨r, S1⟩, e1, g1⟩ := tF_X8_force S (h.pd.shz (nfz [1, 41, 121, 122, 123, 124, 125, 205, 206, 207, 208, 209, 250, 324]) (nfz [0, 1000, 2000, 161, 1161, 2161, 243, 1243, 2243, 246, 1246, 2246])) ⟨rfl, rfl, rfl⟩ ⟨rfl, rfl, rfl⟩ ⟨rfl, rfl, rfl⟩ ⟨rfl, rfl, rfl⟩ rfl rfl rfl rfl rfl rfl rfl rfl rfl rfl rfl rfl rfl rfl x h.pd.kx a1
  have h1 := h.c1 g1 (by unfold fzA; decide) (by unfold arA; decide)
  obtain ⟨⟨r2, S2⟩, e2, g2⟩ := tF_X9_force (Y := (S1, S1, nfz [360, 375, 376, 377, 378, 379, 380, 381, 387, 388, 389])) (w360 := rfl) (w375 := rfl) (w376 := rfl) (w377 := rfl) (w378 := rfl) (w379 := rfl) (w380 := rfl) (w381 := rfl) (w387 := rfl) (w388 := rfl) (w389 := rfl) S1 (h1.ra.1.mi _) a1
  exact ⟨r, S1, r2, S2, e1, e2, hQ F U W H S2 (h1.r1 g2 (by unfold fyA; decide))⟩
theorem st_23 {x m o us tt c : Nat} {R : List Nat} {G : Nat → Nat} {F : aF} {U W : aU} {H : aH} {ρ ω : Nat → Nat} {Λ : sLay} {S : sSt} {Qn : sLay → sSt → Prop} (h : PT x m o R G us tt c F U W H ρ ω Λ S) (hQ : ∀ F2 U2 W2 H2 S2, PT x m o R G us tt c F2 U2 W2 H2 ρ ω Λ S2 → Qn Λ S2) : St_23 Λ S x m o Qn := by
  unfold St_23
  intro a1
  obtain ⟨r, e1, -⟩ := tF_X8_output S (h.pd.shz (nfz []) (nfz [])) x h.pd.kx a1
  obtain ⟨⟨r2, S2⟩, e2, g2⟩ := tF_X9_output (Y := (S, S, nfz [360])) (w360 := rfl) S (h.ra.1.mi _) a1
  exact ⟨r, r2, S2, e1, e2, hQ F U W H S2 (h.r1 g2 (by unfold fyA; decide))⟩
theorem st_24 {x m o us tt c : Nat} {R : List Nat} {G : Nat → Nat} {F : aF} {U W : aU} {H : aH} {ρ ω : Nat → Nat} {Λ : sLay} {S : sSt} {Qn : sLay → sSt → Prop} (h : PT x m o R G us tt c F U W H ρ ω Λ S) (hQ : ∀ F2 U2 W2 H2 S2, PT x m o R G us tt c F2 U2 W2 H2 ρ ω Λ S2 → Qn Λ S2) : St_24 Λ S x m o Qn := by
  unfold St_24
  obtain ⟨⟨r, S1⟩, e1, g1⟩ := tF_X8_anew S (h.pd.shz (nfz [1, 41, 83, 84, 121, 122, 123, 124, 125, 205, 206, 207, 208, 209]) (nfz [0, 1000, 2000, 80, 1080, 2080, 81, 1081, 2081, 82, 1082, 2082, 160, 1160, 2160, 161, 1161, 2161, 246, 1246, 2246])) ⟨rfl, rfl, rfl⟩ ⟨rfl, rfl, rfl⟩ ⟨rfl, rfl, rfl⟩ ⟨rfl, rfl, rfl⟩ ⟨rfl, rfl, rfl⟩ ⟨rfl, rfl, rfl⟩ ⟨rfl, rfl, rfl⟩ rfl rfl rfl rfl rfl rfl rfl rfl rfl rfl rfl rfl rfl rfl x h.pd.kx
  have h1 := h.c1 g1 (by unfold fzA; decide) (by unfold arA; decide)
  obtain ⟨⟨r2, S2⟩, e2, g2⟩ := tF_X9_anew (Y := (S1, S1, nfz [360, 379, 380, 381, 387, 388, 389, 390, 391, 392, 393, 394])) (w360 := rfl) (w379 := rfl) (w380 := rfl) (w381 := rfl) (w387 := rfl) (w388 := rfl) (w389 := rfl) (w390 := rfl) (w391 := rfl) (w392 := rfl) (w393 := rfl) (w394 := rfl) S1 (h1.ra.1.mi _)
  exact ⟨r, S1, r2, S2, e1, e2, hQ F U W H S2 (h1.r1 g2 (by unfold fyA; decide))⟩
theorem st_25 {x m o us tt c : Nat} {R : List Nat} {G : Nat → Nat} {F : aF} {U W : aU} {H : aH} {ρ ω : Nat → Nat} {Λ : sLay} {S : sSt} {Qn : sLay → sSt → Prop} (h : PT x m o R G us tt c F U W H ρ ω Λ S) (hQ : ∀ F2 U2 W2 H2 S2, PT x m o R G us tt c F2 U2 W2 H2 ρ ω Λ S2 → Qn Λ S2) : St_25 Λ S x m o Qn := by
  unfold St_25
  obtain ⟨⟨r, S1⟩, e1, g1⟩ := tF_X8_coarse S (h.pd.shz (nfz [1, 41, 83, 84, 121, 122, 123, 124, 125, 205, 206, 207, 208, 209]) (nfz [0, 1000, 2000, 80, 1080, 2080, 81, 1081, 2081, 82, 1082, 2082, 160, 1160, 2160, 161, 1161, 2161, 246, 1246, 2246])) ⟨rfl, rfl, rfl⟩ ⟨rfl, rfl, rfl⟩ ⟨rfl, rfl, rfl⟩ ⟨rfl, rfl, rfl⟩ ⟨rfl, rfl, rfl⟩ ⟨rfl, rfl, rfl⟩ ⟨rfl, rfl, rfl⟩ rfl rfl rfl rfl rfl rfl rfl rfl rfl rfl rfl rfl rfl rfl x h.pd.kx
  have h1 := h.c1 g1 (by unfold fzA; decide) (by unfold arA; decide)
  obtain ⟨⟨r2, S2⟩, e2, g2⟩ := tF_X9_coarse (Y := (S1, S1, nfz [360, 379, 380, 381, 387, 388, 389, 390, 395])) (w360 := rfl) (w379 := rfl) (w380 := rfl) (w381 := rfl) (w387 := rfl) (w388 := rfl) (w389 := rfl) (w390 := rfl) (w395 := rfl) S1 (h1.ra.1.mi _)
  exact ⟨r, S1, r2, S2, e1, e2, hQ F U W H S2 (h1.r1 g2 (by unfold fyA; decide))⟩
theorem st_26 {x m o us tt c : Nat} {R : List Nat} {G : Nat → Nat} {F : aF} {U W : aU} {H : aH} {ρ ω : Nat → Nat} {Λ : sLay} {S : sSt} {Qn : sLay → sSt → Prop} (h : PT x m o R G us tt c F U W H ρ ω Λ S) (hQ : ∀ F2 U2 W2 H2 S2, PT x m o R G us tt c F2 U2 W2 H2 ρ ω Λ S2 → Qn Λ S2) : St_26 Λ S x m o Qn := by
  unfold St_26
  intro a1
  obtain ⟨⟨r, S1⟩, e1, g1⟩ := tF_L_order S (h.pd.shz (nfz [41, 83, 84]) (nfz [80, 1080, 2080, 81, 1081, 2081, 82, 1082, 2082, 246, 1246, 2246, 7777])) ⟨rfl, rfl, rfl⟩ ⟨rfl, rfl, rfl⟩ ⟨rfl, rfl, rfl⟩ ⟨rfl, rfl, rfl⟩ rfl rfl rfl x h.pd.kx a1 o h.pd.ko (by show nfz [80, 1080, 2080, 81, 1081, 2081, 82, 1082, 2082, 246, 1246, 2246, 7777] (ρ o) = false; rw [h.pd.eo]; rfl) h.pd.ol
  have h1 := h.c1 g1 (by unfold fzA; decide) (by unfold arA; decide)
  obtain ⟨⟨r2, S2⟩, e2, g2⟩ := tF_X9_order (Y := (S1, S1, nfz [360, 390, 391, 392, 393, 394])) (w360 := rfl) (w390 := rfl) (w391 := rfl) (w392 := rfl) (w393 := rfl) (w394 := rfl) S1 (h1.ra.1.mi _) a1
  exact ⟨r, S1, r2, S2, e1, e2, hQ F U W H S2 (h1.r1 g2 (by unfold fyA; decide))⟩
theorem st_27 {x m o us tt c : Nat} {R : List Nat} {G : Nat → Nat} {F : aF} {U W : aU} {H : aH} {ρ ω : Nat → Nat} {Λ : sLay} {S : sSt} {Qn : sLay → sSt → Prop} (h : PT x m o R G us tt c F U W H ρ ω Λ S) (hQ : ∀ F2 U2 W2 H2 S2, PT x m o R G us tt c F2 U2 W2 H2 ρ ω Λ S2 → Qn Λ S2) : St_27 Λ S x m o Qn := by
  unfold St_27
  intro a1
  obtain ⟨⟨r, S1⟩, e1, g1⟩ := tF_X8_ring S (h.pd.shz (nfz [41, 83, 84]) (nfz [80, 1080, 2080, 81, 1081, 2081, 82, 1082, 2082, 246, 1246, 2246])) ⟨rfl, rfl, rfl⟩ ⟨rfl, rfl, rfl⟩ ⟨rfl, rfl, rfl⟩ ⟨rfl, rfl, rfl⟩ rfl rfl rfl x h.pd.kx a1
  have h1 := h.c1 g1 (by unfold fzA; decide) (by unfold arA; decide)
  obtain ⟨⟨r2, S2⟩, e2, g2⟩ := tF_X9_ring (Y := (S1, S1, nfz [360, 390, 391, 392, 393, 394])) (w360 := rfl) (w390 := rfl) (w391 := rfl) (w392 := rfl) (w393 := rfl) (w394 := rfl) S1 (h1.ra.1.mi _) a1
  exact ⟨r, S1, r2, S2, e1, e2, hQ F U W H S2 (h1.r1 g2 (by unfold fyA; decide))⟩
theorem st_28 {x m o us tt c : Nat} {R : List Nat} {G : Nat → Nat} {F : aF} {U W : aU} {H : aH} {ρ ω : Nat → Nat} {Λ : sLay} {S : sSt} {Qn : sLay → sSt → Prop} (h : PT x m o R G us tt c F U W H ρ ω Λ S) (hQ : ∀ F2 U2 W2 H2 S2, PT x m o R G us tt c F2 U2 W2 H2 ρ ω Λ S2 → Qn Λ S2) : St_28 Λ S x m o Qn := by
  unfold St_28
  intro a1 a2
  obtain ⟨⟨r, S1⟩, e1, g1⟩ := tF_X8_leads S (h.pd.shz (nfz [41, 83, 84]) (nfz [80, 1080, 2080, 81, 1081, 2081, 82, 1082, 2082, 246, 1246, 2246])) ⟨rfl, rfl, rfl⟩ ⟨rfl, rfl, rfl⟩ ⟨rfl, rfl, rfl⟩ ⟨rfl, rfl, rfl⟩ rfl rfl rfl x h.pd.kx a1 a2
  have h1 := h.c1 g1 (by unfold fzA; decide) (by unfold arA; decide)
  obtain ⟨⟨r2, S2⟩, e2, g2⟩ := tF_X9_leads (Y := (S1, S1, nfz [360, 390])) (w360 := rfl) (w390 := rfl) S1 (h1.ra.1.mi _) a1 a2
  have q1 : r = _ := h.leads_C a1 a2 (r, S1) e1
  have q2 : r2 = _ := h1.leads_R a1 a2 (r2, S2) e2
  exact ⟨r, S1, S2, e1, by rw [e2, q1, q2], hQ F U W H S2 (h1.r1 g2 (by unfold fyA; decide))⟩
theorem st_29 {x m o us tt c : Nat} {R : List Nat} {G : Nat → Nat} {F : aF} {U W : aU} {H : aH} {ρ ω : Nat → Nat} {Λ : sLay} {S : sSt} {Qn : sLay → sSt → Prop} (h : PT x m o R G us tt c F U W H ρ ω Λ S) (hQ : ∀ F2 U2 W2 H2 S2, PT x m o R G us tt c F2 U2 W2 H2 ρ ω Λ S2 → Qn Λ S2) : St_29 Λ S x m o Qn := by
  unfold St_29
  intro a1
  obtain ⟨⟨r, S1⟩, e1, g1⟩ := tF_X8_count S (h.pd.shz (nfz [41, 83, 84]) (nfz [80, 1080, 2080, 81, 1081, 2081, 82, 1082, 2082, 246, 1246, 2246])) ⟨rfl, rfl, rfl⟩ ⟨rfl, rfl, rfl⟩ ⟨rfl, rfl, rfl⟩ ⟨rfl, rfl, rfl⟩ rfl rfl rfl x h.pd.kx a1
  have h1 := h.c1 g1 (by unfold fzA; decide) (by unfold arA; decide)
  obtain ⟨⟨r2, S2⟩, e2, g2⟩ := tF_X9_count (Y := (S1, S1, nfz [360, 390, 391, 392, 393, 394])) (w360 := rfl) (w390 := rfl) (w391 := rfl) (w392 := rfl) (w393 := rfl) (w394 := rfl) S1 (h1.ra.1.mi _) a1
  exact ⟨r, S1, r2, S2, e1, e2, hQ F U W H S2 (h1.r1 g2 (by unfold fyA; decide))⟩
theorem st_30 {x m o us tt c : Nat} {R : List Nat} {G : Nat → Nat} {F : aF} {U W : aU} {H : aH} {ρ ω : Nat → Nat} {Λ : sLay} {S : sSt} {t : Nat} (h : PT x m o R G us tt c F U W H ρ ω Λ S) : St_30 Λ S x m o (pInv x m o (t + 1)) := by
  unfold St_30
  obtain ⟨r, S1, S2, e1, e2, h2⟩ := step_clear (t := t) h
  exact ⟨r, S1, r, S2, e1, e2, h2⟩
theorem pInv_step : ∀ x m o t Λ S, 7 * t + 7 ≤ 448 → pInv x m o t Λ S → LawSteps Λ S x m o (pInv x m o (t + 1)) := by
  intro x m o t Λ S _ hI
  obtain ⟨R, G, us, tt, c, F, U, W, H, ρ, ω, h⟩ := hI
  have hQ : ∀ F2 U2 W2 H2 S2, PT x m o R G us tt c F2 U2 W2 H2 ρ ω Λ S2 → pInv x m o (t + 1) Λ S2 := fun F2 U2 W2 H2 S2 h2 => ⟨R, G, us, tt, c, F2, U2, W2, H2, ρ, ω, h2⟩
  exact ⟨st_0 h, st_1 h hQ, st_2 h hQ, st_3 h hQ, st_4 h hQ, st_5 h hQ, st_6 h hQ, st_7 h hQ, st_8 h hQ, st_9 h hQ, st_10 h hQ, st_11 h hQ, st_12 h hQ, st_13 h hQ, st_14 h hQ, st_15 h hQ, st_16 h hQ, st_17 h hQ, st_18 h hQ, st_19 h hQ, st_20 h hQ, st_21 h hQ, st_22 h hQ, st_23 h hQ, st_24 h hQ, st_25 h hQ, st_26 h hQ, st_27 h hQ, st_28 h hQ, st_29 h hQ, st_30 h, hQ F U W H S h⟩
