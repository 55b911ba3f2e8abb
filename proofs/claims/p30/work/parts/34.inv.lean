/-! What holds before each of the law's turns. -/
theorem isM_mem : ∀ f, f < 396 → isM f = true → f ∈ arrs9.map (fun t => t.1) := by decide +kernel
theorem isM_lt {f : Nat} (h : isM f = true) : f < 396 := by
  simp only [isM, Bool.and_eq_true, Bool.or_eq_true, Nat.ble_eq, Nat.beq_eq] at h
  omega
theorem isM_arr {f : Nat} (h : isM f = true) : ∃ kd n, (f, kd, n) ∈ arrs9 := by
  obtain ⟨t, ht, e⟩ := List.mem_map.mp (isM_mem f (isM_lt h) h)
  obtain ⟨f', kd, n⟩ := t
  cases e
  exact ⟨kd, n, ht⟩
theorem R_arrs.inj {p0 : Nat} : ∀ {l : List (Nat × Nat × Nat)} {Λ Λ' : sLay} {S S' : sSt}, R_arrs p0 l Λ S Λ' S' → p0 ∈ Λ.1 → (l.map (fun t => t.1)).Nodup → ∀ f f' a, f ∈ l.map (fun t => t.1) → f' ∈ l.map (fun t => t.1) → gFR S' f p0 = some a → gFR S' f' p0 = some a → f = f'
  | [], _, _, _, _, _, _, _, f, _, _, hm, _, _, _ => by cases hm
  | t :: r, Λ, _, _, _, h, hp, hn, f, f', a, hm, hm', e, e' => by
    obtain ⟨q, hq, h⟩ := h
    have hn1 : t.1 ∉ r.map (fun t => t.1) := (List.nodup_cons.mp hn).1
    have hn2 : (r.map (fun t => t.1)).Nodup := (List.nodup_cons.mp hn).2
    have eq0 := h.other (inNew hp) t.1 hn1
    rw [gFR_sFR, if_pos ⟨rfl, rfl⟩] at eq0
    have tail : ∀ g, g ∈ r.map (fun t => t.1) → gFR _ g p0 ≠ some q := fun g hg z => by
      obtain ⟨t', ht', e1⟩ := List.mem_map.mp hg
      obtain ⟨g', kd, n⟩ := t'
      cases e1
      obtain ⟨b, hb, -, -, -, -, hnb⟩ := h.at (inNew hp) hn2 g' kd n ht'
      rw [hb] at z
      cases z
      exact hnb (isK.mk (kd := t.2.1) (len := t.2.2)).1
    rcases List.mem_cons.mp hm with c | c
    · rcases List.mem_cons.mp hm' with c' | c'
      · rw [c, c']
      · rw [c, eq0] at e
        cases e
        exact absurd e' (tail f' c')
    · rcases List.mem_cons.mp hm' with c' | c'
      · rw [c', eq0] at e'
        cases e'
        exact absurd e (tail f c)
      · exact h.inj (inNew hp) hn2 f f' a c c' e e'
def PD (x m o : Nat) (R : List Nat) (G : Nat → Nat) (us t c1 c2 : Nat) (ρ ω : Nat → Nat) (Λ : sLay) (S : sSt) : Prop :=
  (∀ a ∈ R, a ∈ Λ.1) ∧ m ∈ R ∧ (∀ f, isM f = true → G f ∈ R) ∧ isK (own Λ R) 8 x ∧ isK (own Λ R) 11 o ∧ Λ.2.2 o = 1 ∧ ShE (fun _ _ => False) (own Λ R) S ∧ MC m G Λ S S ∧
  gFR S 320 x = some us ∧ gFR S 280 us = some t ∧ Λ.2.2 t = 16 ∧ (∀ k u, k < 16 → gAR S t k = some u → gFI S 240 u = nI k) ∧ gFI S 281 us = nI c1 ∧ gFI S 361 m = nI c2 ∧ Ro ρ ω (own Λ R) S ∧ ρ o = 7777
section
variable {x m o us t c1 c2 : Nat} {R : List Nat} {G : Nat → Nat} {ρ ω : Nat → Nat} {Λ : sLay} {S S1 : sSt}
theorem MC.kp (h : MC m G Λ S S) (km : kpA S S1 m) (kg : ∀ f, isM f = true → kpA S S1 (G f)) : MC m G Λ S1 S1 := by
  refine ⟨⟨fun f hf => by rw [km.2.2.1 f]; exact h.1.1 f hf, h.1.2⟩, fun q hq k => ?_, fun q hq k => ?_, fun q hq => by rw [km.1 q.1]; exact h.2.2.2.1 q hq, fun _ _ _ => kpA.rf⟩
  · rw [(kg q.1 ((by decide : ∀ q ∈ rgN, isM q.1 = true) q hq)).2.2.2.1 k]
    exact h.2.1 q hq k
  · rw [(kg q.1 ((by decide : ∀ q ∈ rgO, isM q.1 = true) q hq)).2.2.2.1 k]
    exact h.2.2.1 q hq k
theorem MC.self {Z : sSt} (h : MC m G Λ Z S) : MC m G Λ S S := ⟨h.1, h.2.1, h.2.2.1, h.2.2.2.1, fun _ _ _ => kpA.rf⟩
theorem MC.lay {Λ' : sLay} (h : MC m G Λ S S) (e : ∀ f, isM f = true → Λ'.2.2 (G f) = Λ.2.2 (G f)) : MC m G Λ' S S := ⟨⟨h.1.1, fun q hq => by rw [e q.1 ((by decide : ∀ q ∈ arrs9, isM q.1 = true) q hq)]; exact h.1.2.1 q hq, h.1.2.2⟩, h.2⟩
theorem PD.kus (h : PD x m o R G us t c1 c2 ρ ω Λ S) : isK (own Λ R) 7 us := h.2.2.2.2.2.2.1.1.1 320 x h.2.2.2.1.1 us h.2.2.2.2.2.2.2.2.1
theorem PD.kt (h : PD x m o R G us t c1 c2 ρ ω Λ S) : isK (own Λ R) 14 t := h.2.2.2.2.2.2.1.1.1 280 us h.kus.1 t h.2.2.2.2.2.2.2.2.2.1
theorem PD.rt (h : PD x m o R G us t c1 c2 ρ ω Λ S) : RT ρ (own Λ R) S := fun f hf a b ha e => (h.2.2.2.2.2.2.2.2.2.2.2.2.2.2.1.1 f hf a b ha e).1
theorem PD.ro (h : PD x m o R G us t c1 c2 ρ ω Λ S) : Ro ρ ω (own Λ R) S := h.2.2.2.2.2.2.2.2.2.2.2.2.2.2.1
theorem PD.eo (h : PD x m o R G us t c1 c2 ρ ω Λ S) : ρ o = 7777 := h.2.2.2.2.2.2.2.2.2.2.2.2.2.2.2
theorem PD.shz (h : PD x m o R G us t c1 c2 ρ ω Λ S) (fz Ar : Nat → Bool) : Sh (S, fz, ρ, Ar) (own Λ R) S := h.2.2.2.2.2.2.1.sh fz ρ Ar h.rt
theorem PD.kx (h : PD x m o R G us t c1 c2 ρ ω Λ S) : isK (own Λ R) 8 x := h.2.2.2.1
theorem PD.ko (h : PD x m o R G us t c1 c2 ρ ω Λ S) : isK (own Λ R) 11 o := h.2.2.2.2.1
theorem PD.ol (h : PD x m o R G us t c1 c2 ρ ω Λ S) : Λ.2.2 o = 1 := h.2.2.2.2.2.1
theorem PD.mc (h : PD x m o R G us t c1 c2 ρ ω Λ S) : MC m G Λ S S := h.2.2.2.2.2.2.2.1
theorem PD.mi (h : PD x m o R G us t c1 c2 ρ ω Λ S) (fz : Nat → Bool) : MI m G Λ (S, S, fz) S := ⟨h.mc, FZ.rf⟩
theorem PD.e1 (h : PD x m o R G us t c1 c2 ρ ω Λ S) : gFI S 281 us = nI c1 := h.2.2.2.2.2.2.2.2.2.2.2.2.1
theorem PD.e2 (h : PD x m o R G us t c1 c2 ρ ω Λ S) : gFI S 361 m = nI c2 := h.2.2.2.2.2.2.2.2.2.2.2.2.2.1
/-- behind a call of the class -/
theorem PD.cls {W : sSt} (h : PD x m o R G us t c1 c2 ρ ω Λ S) (hW : ∀ a, a ∉ (own Λ R).1 → kpA S W a) (hW2 : W.2.2.1 = S.2.2.1) (hWa : ∀ k, gAR W t k = gAR S t k) (hW0 : ∀ a, gFI W 240 a = gFI S 240 a) {c1' : Nat} (hW1 : gFI W 281 us = nI c1') {fz Ar : Nat → Bool} (g : Sh (W, fz, ρ, Ar) (own Λ R) S1) (f240 : fz 240 = true) (f281 : fz 281 = true) : PD x m o R G us t c1' c2 ρ ω Λ S1 := by
  have hus := h.kus
  have htt := h.kt
  obtain ⟨h1, h2, h3, h4, h5, h6, h7, h8, h9, h10, h11, h12, h13, h14, h15, h16⟩ := h
  have eR : ∀ f a, gFR S1 f a = gFR S f a := fun f a => by
    unfold gFR
    rw [g.2.2.2.2.2.1]
    show W.2.2.1 f a = _
    rw [hW2]
  have out : ∀ a, a ∈ R → kpA S S1 a := fun a ha => by
    have hn : a ∉ (own Λ R).1 := fun z => (own_mem.mp z).2 ha
    exact (hW a hn).tr (g.2.2.2.2.1 a hn)
  refine ⟨h1, h2, h3, h4, h5, h6, g.e, h8.kp (out m h2) (fun f hf => out _ (h3 f hf)), (eR 320 x).trans h9, (eR 280 us).trans h10, h11, fun k u hk hu => ?_, ?_, ?_, ⟨fun f hf a b ha e => h15.1 f hf a b ha (by rw [← eR]; exact e), h15.2⟩, h16⟩
  · rw [g.2.2.2.2.2.2.1 t k htt.2] at hu
    rw [(g.2.2.2.2.2.2.2.1 240 f240 u).1]
    show gFI W 240 u = _
    rw [hW0]
    exact h12 k u hk ((hWa k).symm.trans hu)
  · rw [(g.2.2.2.2.2.2.2.1 281 f281 us).1]
    exact hW1
  · rw [(out m h2).1 361]
    exact h14
theorem PD.clz {fz Ar : Nat → Bool} (h : PD x m o R G us t c1 c2 ρ ω Λ S) (g : Sh (S, fz, ρ, Ar) (own Λ R) S1) (f240 : fz 240 = true) (f281 : fz 281 = true) : PD x m o R G us t c1 c2 ρ ω Λ S1 := h.cls (fun _ _ => kpA.rf) rfl (fun _ => rfl) (fun _ => rfl) h.e1 g f240 f281
theorem PD.out {fz Ar : Nat → Bool} (h : PD x m o R G us t c1 c2 ρ ω Λ S) (g : Sh (S, fz, ρ, Ar) (own Λ R) S1) {a : Nat} (ha : a ∈ R) : kpA S S1 a := g.2.2.2.2.1 a (fun z => (own_mem.mp z).2 ha)
theorem PD.inn (h : PD x m o R G us t c1 c2 ρ ω Λ S) (g : MC m G Λ S S1) {a : Nat} (ha : a ∈ (own Λ R).1) : kpA S S1 a := g.2.2.2.2 a (fun z => (own_mem.mp ha).2 (z ▸ h.2.1)) (fun f hf z => (own_mem.mp ha).2 (z ▸ h.2.2.1 f hf))
/-- behind a call of the reference -/
theorem PD.ref (h : PD x m o R G us t c1 c2 ρ ω Λ S) (g : MC m G Λ S S1) {c2' : Nat} (e : gFI S1 361 m = nI c2') : PD x m o R G us t c1 c2' ρ ω Λ S1 := by
  have hus := h.kus
  have htt := h.kt
  obtain ⟨h1, h2, h3, h4, h5, h6, h7, h8, h9, h10, h11, h12, h13, h14, h15, h16⟩ := h
  have inn : ∀ a, a ∈ (own Λ R).1 → kpA S S1 a := fun a ha => g.2.2.2.2 a (fun z => (own_mem.mp ha).2 (z ▸ h2)) (fun f hf z => (own_mem.mp ha).2 (z ▸ h3 f hf))
  refine ⟨h1, h2, h3, h4, h5, h6, h7.kp inn, g.self, ?_, ?_, h11, fun k u hk hu => ?_, ?_, e, ⟨fun f hf a b ha e2 => h15.1 f hf a b ha (by rw [← (inn a ha).2.2.1 f]; exact e2), h15.2⟩, h16⟩
  · rw [(inn x h4.1).2.2.1 320]; exact h9
  · rw [(inn us hus.1).2.2.1 280]; exact h10
  · rw [(inn t htt.1).2.2.2.2.2 k] at hu
    have tu := h7.1.2 t k htt.1 u hu
    rw [(inn u tu.1).1 240]
    exact h12 k u hk hu
  · rw [(inn us hus.1).1 281]; exact h13
end
theorem Sh.up {Z : sSt} {fz fz2 Ar Ar2 : Nat → Bool} {ρ : Nat → Nat} {Λ : sLay} {S S1 : sSt} (h : Sh (Z, fz, ρ, Ar) Λ S) (g : Sh (S, fz2, ρ, Ar2) Λ S1) (c : ∀ f, fz f = true → fz2 f = true) (c2 : ∀ f, Ar f = true → Ar2 f = true) : Sh (Z, fz, ρ, Ar) Λ S1 :=
  ⟨g.1, g.2.1, g.2.2.1, g.2.2.2.1, fun a ha => (h.2.2.2.2.1 a ha).tr (g.2.2.2.2.1 a ha), g.2.2.2.2.2.1.trans h.2.2.2.2.2.1, fun a k ha => (g.2.2.2.2.2.2.1 a k ha).trans (h.2.2.2.2.2.2.1 a k ha), fun f hf a => ⟨(g.2.2.2.2.2.2.2.1 f (c f hf) a).1.trans (h.2.2.2.2.2.2.2.1 f hf a).1, (g.2.2.2.2.2.2.2.1 f (c f hf) a).2.trans (h.2.2.2.2.2.2.2.1 f hf a).2⟩, h.2.2.2.2.2.2.2.2.1, fun a ha hl hr => by
    have k1 := h.2.2.2.2.2.2.2.2.2 a ha hl hr
    have k2 := g.2.2.2.2.2.2.2.2.2 a ha hl (c2 _ hr)
    exact ⟨fun i => (k2.1 i).trans (k1.1 i), fun i => (k2.2.1 i).trans (k1.2.1 i), fun i => (k2.2.2.1 i).trans (k1.2.2.1 i), fun i => (k2.2.2.2.1 i).trans (k1.2.2.2.1 i), fun i => (k2.2.2.2.2 i).trans (k1.2.2.2.2 i)⟩⟩
theorem nfz_sub {l l2 : List Nat} (h : ∀ g ∈ l2, g ∈ l) : ∀ f, nfz l f = true → nfz l2 f = true := nfz_ok (fun g hg => by unfold nfz; simp [h g hg])
set_option maxHeartbeats 2000000 in
theorem pInv0_0 : ∀ x m o Λ S, R_start x m o Λ S → ∃ (R : List Nat) (G : Nat → Nat) (us tt c : Nat) (ρ ω : Nat → Nat), c = 0 ∧ (∀ k, gAR S tt k = none) ∧ PD x m o R G us tt c c ρ ω Λ S := by
  intro x m o Λ S h
  obtain ⟨⟨us, al, cs, rg1, re, io, hF⟩, -, hol⟩ := fresh_of h
  obtain ⟨f1, -, -, -, -, f6, f7, f8, f9, -⟩ := hF
  obtain ⟨hx, Λ1, S1, r8, hm, Λ2, S2, r9, ho, rfl, rfl⟩ := h
  have r9 := R_X9_arrs r9
  have hm0 : m ∈ (lNew Λ1 m 9 0).1 := (isK.mk (kd := 9) (len := 0)).1
  have nmo : m ≠ o := ne_fresh (r9.ext m hm0).1 ho
  -- the class
  have h0 : ShE (fun _ _ => False) (own lay0 []) st0_ := ⟨⟨fun i a ha => absurd (own_mem.mp ha).1 List.not_mem_nil, fun a k ha => absurd (own_mem.mp ha).1 List.not_mem_nil⟩, fun f hf a ha => absurd (own_mem.mp ha.1).1 List.not_mem_nil, fun q a ha => absurd (own_mem.mp ha.1).1 List.not_mem_nil, fun u t k hu => absurd (own_mem.mp hu.1).1 List.not_mem_nil⟩
  obtain ⟨h1, tx⟩ := N8 h0 (fun a ha => absurd ha List.not_mem_nil) hx r8
  have o0 : Ro (fun _ => 5555) (fun _ => 0) (own lay0 []) st0_ := ⟨fun f hf a b ha => absurd (own_mem.mp ha).1 List.not_mem_nil, fun b ha => absurd (own_mem.mp ha).1 List.not_mem_nil⟩
  obtain ⟨ρ, ω, -, -, -, -, o1⟩ := M8 h0 o0 (fun a ha => absurd ha List.not_mem_nil) hx 5555 0 (by decide) r8
  have ex1 : lExt Λ1 (lNew Λ1 m 9 0) := lExt.new hm
  have ex2 : lExt (lNew Λ1 m 9 0) Λ2 := r9.ext
  have ex3 : lExt Λ2 (lNew Λ2 o 11 1) := lExt.new ho
  have ex : lExt Λ1 (lNew Λ2 o 11 1) := ex1.tr (ex2.tr ex3)
  have tl : ∀ a, a ∈ Λ1.1 → kpA S1 (sNew S2 o) a := fun a ha => (kpA.new (ne_fresh ha hm)).tr ((r9.kp (inNew ha) (ne_fresh ha hm)).tr (kpA.new (ne_fresh (ex2 a (inNew ha)).1 ho)))
  have h2 := h1.kp (S' := sNew S2 o) (fun a ha => tl a (own_mem.mp ha).1)
  -- what belongs to the reference
  obtain ⟨R, hRd⟩ : ∃ R, R = (lNew Λ2 o 11 1).1.filter (fun a => decide (a ∉ Λ1.1 ∧ a ≠ o)) := ⟨_, rfl⟩
  have inR : ∀ a, a ∈ R ↔ a ∈ (lNew Λ2 o 11 1).1 ∧ a ∉ Λ1.1 ∧ a ≠ o := fun a => by rw [hRd, List.mem_filter, decide_eq_true_iff]
  have inO : ∀ a, a ∈ (own (lNew Λ2 o 11 1) R).1 ↔ a ∈ Λ1.1 ∨ a = o := fun a => by
    rw [own_mem, inR]
    constructor
    · rintro ⟨z1, z2⟩
      by_cases c : a ∈ Λ1.1
      · exact Or.inl c
      · exact Or.inr (Classical.byContradiction (fun c2 => z2 ⟨z1, c, c2⟩))
    · rintro (z | z)
      · exact ⟨(ex a z).1, fun y => y.2.1 z⟩
      · exact ⟨z ▸ (isK.mk (kd := 11) (len := 1)).1, fun y => y.2.2 z⟩
  have tK : ∀ {q a}, isK (own Λ1 []) q a → isK (own (lNew Λ2 o 11 1) R) q a := fun {q a} z => ⟨(inO a).mpr (Or.inl (own_mem.mp z.1).1), ((ex a (own_mem.mp z.1).1).2.1).trans z.2⟩
  have to : isK (own (lNew Λ2 o 11 1) R) 11 o := ⟨(inO o).mpr (Or.inr rfl), va_up_self _ _ _⟩
  have back : ∀ {q a}, isK (own (lNew Λ2 o 11 1) R) q a → q ≠ 11 → isK (own Λ1 []) q a := fun {q a} z hq => by
    rcases (inO a).mp z.1 with c | c
    · exact ⟨own_mem.mpr ⟨c, List.not_mem_nil⟩, ((ex a c).2.1).symm.trans z.2⟩
    · rw [c] at z
      exact absurd (z.2.symm.trans to.2) hq
  have noR : ∀ f, gFR (sNew S2 o) f o = none := fun f => by rw [gFR_sNew, if_pos rfl]
  have hE : ShE (fun _ _ => False) (own (lNew Λ2 o 11 1) R) (sNew S2 o) := by
    refine ⟨⟨fun i a ha => ?_, fun a k ha => ?_⟩, fun f hf a ha hx => ?_, fun q a ha => ?_, fun u t k hu hx ht hk => ?_⟩
    · rcases (inO a).mp ha with c | c
      · exact fun b hb => tK (h2.1.1 i a (own_mem.mpr ⟨c, List.not_mem_nil⟩) b hb)
      · rw [c, noR]; exact okN
    · rcases (inO a).mp ha with c | c
      · have e1 : (own (lNew Λ2 o 11 1) R).2.1 a = (own Λ1 []).2.1 a := (ex a c).2.1
        rw [e1]
        exact fun b hb => tK (h2.1.2 a k (own_mem.mpr ⟨c, List.not_mem_nil⟩) b hb)
      · rw [c, gAR_sNew, if_pos rfl]; exact okN
    · exact h2.2.1 f hf a (back ha ((by decide : ∀ f ∈ refF, f / 40 ≠ 11) f hf)) id
    · rcases (inO a).mp ha.1 with c | c
      · have e1 : (own (lNew Λ2 o 11 1) R).2.2 a = (own Λ1 []).2.2 a := (ex a c).2.2
        rw [e1]
        exact h2.2.2.1 ((own Λ1 []).2.1 a) a ⟨own_mem.mpr ⟨c, List.not_mem_nil⟩, rfl⟩
      · rw [c]
        show (lNew Λ2 o 11 1).2.2 o < 2147483648
        rw [hol]
        omega
    · have hu' := back hu (by decide)
      have ht' := h2.1.1 244 u hu'.1 t ht
      have e1 : (own (lNew Λ2 o 11 1) R).2.2 t = (own Λ1 []).2.2 t := (ex t (own_mem.mp ht'.1).1).2.2
      rw [e1] at hk
      exact h2.2.2.2 u t k hu' id ht hk
  -- the reference
  have gm : ∀ f, gFR (sNew S2 o) f m = gFR S2 f m := fun f => by rw [gFR_sNew, if_neg nmo]
  obtain ⟨G, hG⟩ : ∃ G : Nat → Nat, ∀ f, G f = (gFR (sNew S2 o) f m).getD 0 := ⟨fun f => (gFR (sNew S2 o) f m).getD 0, fun _ => rfl⟩
  have at9 : ∀ f kd n, (f, kd, n) ∈ arrs9 → gFR (sNew S2 o) f m = some (G f) ∧ (lNew Λ2 o 11 1).2.2 (G f) = n ∧ (∀ k, gAI (sNew S2 o) (G f) k = 0) ∧ G f ∈ R := fun f kd n hf => by
    obtain ⟨a, b1, b2, b3, b4, -, b6⟩ := r9.at hm0 (by decide) f kd n hf
    have nao : a ≠ o := ne_fresh b2.1 ho
    have eG : G f = a := by rw [hG, gm, b1]; rfl
    rw [eG]
    refine ⟨(gm f).trans b1, (ex3 a b2.1).2.2.trans b3, fun k => ?_, (inR a).mpr ⟨(ex3 a b2.1).1, fun z => b6 (inNew z), nao⟩⟩
    rw [gAI_sNew, if_neg nao]
    exact b4 k
  have gI : ∀ f, gFI (sNew S2 o) f m = 0 := fun f => by rw [gFI_sNew, if_neg nmo, r9.ints hm0, gFI_sNew, if_pos rfl]
  have hMC : MC m G (lNew Λ2 o 11 1) (sNew S2 o) (sNew S2 o) := by
    refine ⟨⟨fun f hf => ?_, fun t ht => ?_, fun f f' hf hf' e => ?_⟩, fun q hq k => ?_, fun q hq k => ?_, fun q hq => ⟨0, Nat.zero_le _, gI q.1⟩, fun _ _ _ => kpA.rf⟩
    · obtain ⟨kd, n, hm9⟩ := isM_arr hf
      exact (at9 f kd n hm9).1
    · exact (at9 t.1 t.2.1 t.2.2 ht).2.1
    · obtain ⟨kd, n, hm9⟩ := isM_arr hf
      obtain ⟨kd', n', hm9'⟩ := isM_arr hf'
      have g1 := (gm f).symm.trans (at9 f kd n hm9).1
      have g2 := (gm f').symm.trans (at9 f' kd' n' hm9').1
      rw [← e] at g2
      exact r9.inj hm0 (by decide) f f' (G f) (isM_mem f (isM_lt hf) hf) (isM_mem f' (isM_lt hf') hf') g1 g2
    · obtain ⟨kd, n, hm9⟩ := isM_arr ((by decide : ∀ q ∈ rgN, isM q.1 = true) q hq)
      exact ⟨0, Nat.zero_le _, (at9 q.1 kd n hm9).2.2.1 k⟩
    · obtain ⟨kd, n, hm9⟩ := isM_arr ((by decide : ∀ q ∈ rgO, isM q.1 = true) q hq)
      exact Or.inr ⟨0, Nat.zero_le _, (at9 q.1 kd n hm9).2.2.1 k⟩
  -- the roles
  have oN : ∀ a, a ∈ Λ1.1 → a ≠ o := fun a ha e => ho (by rw [← e]; exact (ex2 a (inNew ha)).1)
  have iA : ∀ a, a ∈ Λ1.1 → a ∈ (own Λ1 []).1 := fun a ha => own_mem.mpr ⟨ha, List.not_mem_nil⟩
  have aI : ∀ a, a ∈ (own Λ1 []).1 → a ∈ Λ1.1 := fun a ha => (own_mem.mp ha).1
  have noA : ∀ k, gAR (sNew S2 o) o k = none := fun k => by rw [gAR_sNew, if_pos rfl]
  have hRo : Ro (zu ρ o 7777) ω (own (lNew Λ2 o 11 1) R) (sNew S2 o) := by
    refine ⟨fun f hf a b ha e => ?_, fun b hb z hz e => ?_⟩
    · rcases (inO a).mp ha with c | c
      · rw [(tl a c).2.2.1 f] at e
        obtain ⟨e1, e2⟩ := o1.1 f hf a b (iA a c) e
        have hb := aI b (h1.1.1 f a (iA a c) b e).1
        refine ⟨?_, e2⟩
        rw [zu_n (oN b hb), e1]
        unfold roL
        rw [zu_n (oN a c)]
      · rw [c, noR] at e; cases e
    · rcases (inO b).mp hb with c | c
      · rw [zu_n (oN b c)] at e
        exact ((ex b c).2.2).trans (o1.2 b (iA b c) z hz e)
      · rw [c, zu_s] at e
        exact absurd e ((by decide : ∀ z ∈ lenR, 7777 ≠ z.1) z hz)
  refine ⟨R, G, us, al, 0, zu ρ o 7777, ω, rfl, f9, fun a ha => ((inR a).mp ha).1, (inR m).mpr ⟨(ex3 m (ex2 m hm0).1).1, hm, nmo⟩, fun f hf => ?_, tK tx, to, hol, hE, hMC, f1, f6, f7, fun k u _ hu => ?_, f8, gI 361, hRo, zu_s⟩
  · obtain ⟨kd, n, hm9⟩ := isM_arr hf
    exact (at9 f kd n hm9).2.2.2
  · rw [f9 k] at hu
    cases hu
