/-! What holds before each of the law's turns. -/
theorem isM_mem : ∀ f, f < 396 → isM f = true → f ∈ arrs9.map (fun t => t.1) := by decide +kernel
theorem isM_lt {f : Nat} (h : isM f = true) : f < 396 := by
  simp only [isM, Bool.and_eq_true, Bool.or_eq_true, Nat.ble_eq, Nat.beq_eq] at h
  omega
theorem isM_arr {f : Nat} (h : isM f = true) : ∃ kd n, (f, kd, n) ∈ arrs9 := by
  obtain ⟨t, ht, e⟩ := List.mem_map.mp (isM_mem f (isM_lt h) h)
  obtain ⟨f', kd, n⟩ := t
  cases e
  exact ⟨kd, n, ht⟩
theorem R_arrs.inj {p0 : Nat} : ∀ {l : List (Nat × Nat × Nat)} {Λ Λ' : sLay} {S S' : sSt}, R_arrs p0 l Λ S Λ' S' → p0 ∈ Λ.1 → (l.map (fun t => t.1)).Nodup → ∀ f f' a, f ∈ l.map (fun t => t.1) → f' ∈ l.map (fun t => t.1) → gFR S' f p0 = some a → gFR S' f' p0 = some a → f = f'
  | [], _, _, _, _, _, _, _, f, _, _, hm, _, _, _ => by cases hm
  | t :: r, Λ, _, _, _, h, hp, hn, f, f', a, hm, hm', e, e' => by
    obtain ⟨q, hq, h⟩ := h
    have hn1 : t.1 ∉ r.map (fun t => t.1) := (List.nodup_cons.mp hn).1
    have hn2 : (r.map (fun t => t.1)).Nodup := (List.nodup_cons.mp hn).2
    have eq0 := h.other (inNew hp) t.1 hn1
    rw [gFR_sFR, if_pos ⟨rfl, rfl⟩] at eq0
    have tail : ∀ g, g ∈ r.map (fun t => t.1) → gFR _ g p0 ≠ some q := fun g hg z => by
      obtain ⟨t', ht', e1⟩ := List.mem_map.mp hg
      obtain ⟨g', kd, n⟩ := t'
      cases e1
      obtain ⟨b, hb, -, -, -, -, hnb⟩ := h.at (inNew hp) hn2 g' kd n ht'
      rw [hb] at z
      cases z
      exact hnb (isK.mk (kd := t.2.1) (len := t.2.2)).1
    rcases List.mem_cons.mp hm with c | c
    · rcases List.mem_cons.mp hm' with c' | c'
      · rw [c, c']
      · rw [c, eq0] at e
        cases e
        exact absurd e' (tail f' c')
    · rcases List.mem_cons.mp hm' with c' | c'
      · rw [c', eq0] at e'
        cases e'
        exact absurd e (tail f c)
      · exact h.inj (inNew hp) hn2 f f' a c c' e e'
def PD (x m o : Nat) (R : List Nat) (G : Nat → Nat) (us t c1 c2 : Nat) (Λ : sLay) (S : sSt) : Prop :=
  (∀ a ∈ R, a ∈ Λ.1) ∧ m ∈ R ∧ (∀ f, isM f = true → G f ∈ R) ∧ isK (own Λ R) 8 x ∧ isK (own Λ R) 11 o ∧ Λ.2.2 o = 1 ∧ ShE (fun _ _ => False) (own Λ R) S ∧ MC m G Λ S S ∧
  gFR S 320 x = some us ∧ gFR S 280 us = some t ∧ Λ.2.2 t = 16 ∧ (∀ k u, k < 16 → gAR S t k = some u → gFI S 240 u = nI k) ∧ gFI S 281 us = nI c1 ∧ gFI S 361 m = nI c2
section
variable {x m o us t c1 c2 : Nat} {R : List Nat} {G : Nat → Nat} {Λ : sLay} {S S1 : sSt}
theorem MC.kp (h : MC m G Λ S S) (km : kpA S S1 m) (kg : ∀ f, isM f = true → kpA S S1 (G f)) : MC m G Λ S1 S1 := by
  refine ⟨⟨fun f hf => by rw [km.2.2.1 f]; exact h.1.1 f hf, h.1.2⟩, fun q hq k => ?_, fun q hq k => ?_, fun q hq => by rw [km.1 q.1]; exact h.2.2.2.1 q hq, fun _ _ _ => kpA.rf⟩
  · rw [(kg q.1 ((by decide : ∀ q ∈ rgN, isM q.1 = true) q hq)).2.2.2.1 k]
    exact h.2.1 q hq k
  · rw [(kg q.1 ((by decide : ∀ q ∈ rgO, isM q.1 = true) q hq)).2.2.2.1 k]
    exact h.2.2.1 q hq k
theorem MC.self {Z : sSt} (h : MC m G Λ Z S) : MC m G Λ S S := ⟨h.1, h.2.1, h.2.2.1, h.2.2.2.1, fun _ _ _ => kpA.rf⟩
theorem MC.lay {Λ' : sLay} (h : MC m G Λ S S) (e : ∀ f, isM f = true → Λ'.2.2 (G f) = Λ.2.2 (G f)) : MC m G Λ' S S := ⟨⟨h.1.1, fun q hq => by rw [e q.1 ((by decide : ∀ q ∈ arrs9, isM q.1 = true) q hq)]; exact h.1.2.1 q hq, h.1.2.2⟩, h.2⟩
theorem PD.kus (h : PD x m o R G us t c1 c2 Λ S) : isK (own Λ R) 7 us := h.2.2.2.2.2.2.1.1.1 320 x h.2.2.2.1.1 us h.2.2.2.2.2.2.2.2.1
theorem PD.kt (h : PD x m o R G us t c1 c2 Λ S) : isK (own Λ R) 14 t := h.2.2.2.2.2.2.1.1.1 280 us h.kus.1 t h.2.2.2.2.2.2.2.2.2.1
theorem PD.shz (h : PD x m o R G us t c1 c2 Λ S) (fz : Nat → Bool) : Sh (S, fz) (own Λ R) S := h.2.2.2.2.2.2.1.sh fz
theorem PD.kx (h : PD x m o R G us t c1 c2 Λ S) : isK (own Λ R) 8 x := h.2.2.2.1
theorem PD.ko (h : PD x m o R G us t c1 c2 Λ S) : isK (own Λ R) 11 o := h.2.2.2.2.1
theorem PD.ol (h : PD x m o R G us t c1 c2 Λ S) : Λ.2.2 o = 1 := h.2.2.2.2.2.1
theorem PD.mc (h : PD x m o R G us t c1 c2 Λ S) : MC m G Λ S S := h.2.2.2.2.2.2.2.1
theorem PD.mi (h : PD x m o R G us t c1 c2 Λ S) (fz : Nat → Bool) : MI m G Λ (S, S, fz) S := ⟨h.mc, FZ.rf⟩
theorem PD.e1 (h : PD x m o R G us t c1 c2 Λ S) : gFI S 281 us = nI c1 := h.2.2.2.2.2.2.2.2.2.2.2.2.1
theorem PD.e2 (h : PD x m o R G us t c1 c2 Λ S) : gFI S 361 m = nI c2 := h.2.2.2.2.2.2.2.2.2.2.2.2.2
/-- behind a call of the class -/
theorem PD.cls {W : sSt} (h : PD x m o R G us t c1 c2 Λ S) (hW : ∀ a, a ∉ (own Λ R).1 → kpA S W a) (hW2 : W.2.2.1 = S.2.2.1) (hWa : ∀ k, gAR W t k = gAR S t k) (hW0 : ∀ a, gFI W 240 a = gFI S 240 a) {c1' : Nat} (hW1 : gFI W 281 us = nI c1') {fz : Nat → Bool} (g : Sh (W, fz) (own Λ R) S1) (f240 : fz 240 = true) (f281 : fz 281 = true) : PD x m o R G us t c1' c2 Λ S1 := by
  have hus := h.kus
  have htt := h.kt
  obtain ⟨h1, h2, h3, h4, h5, h6, h7, h8, h9, h10, h11, h12, h13, h14⟩ := h
  have eR : ∀ f a, gFR S1 f a = gFR S f a := fun f a => by
    unfold gFR
    rw [g.2.2.2.2.2.1]
    show W.2.2.1 f a = _
    rw [hW2]
  have out : ∀ a, a ∈ R → kpA S S1 a := fun a ha => by
    have hn : a ∉ (own Λ R).1 := fun z => (own_mem.mp z).2 ha
    exact (hW a hn).tr (g.2.2.2.2.1 a hn)
  refine ⟨h1, h2, h3, h4, h5, h6, g.e, h8.kp (out m h2) (fun f hf => out _ (h3 f hf)), (eR 320 x).trans h9, (eR 280 us).trans h10, h11, fun k u hk hu => ?_, ?_, ?_⟩
  · rw [g.2.2.2.2.2.2.1 t k htt.2] at hu
    rw [(g.2.2.2.2.2.2.2 240 f240 u).1]
    show gFI W 240 u = _
    rw [hW0]
    exact h12 k u hk ((hWa k).symm.trans hu)
  · rw [(g.2.2.2.2.2.2.2 281 f281 us).1]
    exact hW1
  · rw [(out m h2).1 361]
    exact h14
theorem PD.clz {fz : Nat → Bool} (h : PD x m o R G us t c1 c2 Λ S) (g : Sh (S, fz) (own Λ R) S1) (f240 : fz 240 = true) (f281 : fz 281 = true) : PD x m o R G us t c1 c2 Λ S1 := h.cls (fun _ _ => kpA.rf) rfl (fun _ => rfl) (fun _ => rfl) h.e1 g f240 f281
theorem PD.out {fz : Nat → Bool} (h : PD x m o R G us t c1 c2 Λ S) (g : Sh (S, fz) (own Λ R) S1) {a : Nat} (ha : a ∈ R) : kpA S S1 a := g.2.2.2.2.1 a (fun z => (own_mem.mp z).2 ha)
theorem PD.inn (h : PD x m o R G us t c1 c2 Λ S) (g : MC m G Λ S S1) {a : Nat} (ha : a ∈ (own Λ R).1) : kpA S S1 a := g.2.2.2.2 a (fun z => (own_mem.mp ha).2 (z ▸ h.2.1)) (fun f hf z => (own_mem.mp ha).2 (z ▸ h.2.2.1 f hf))
/-- behind a call of the reference -/
theorem PD.ref (h : PD x m o R G us t c1 c2 Λ S) (g : MC m G Λ S S1) {c2' : Nat} (e : gFI S1 361 m = nI c2') : PD x m o R G us t c1 c2' Λ S1 := by
  have hus := h.kus
  have htt := h.kt
  obtain ⟨h1, h2, h3, h4, h5, h6, h7, h8, h9, h10, h11, h12, h13, h14⟩ := h
  have inn : ∀ a, a ∈ (own Λ R).1 → kpA S S1 a := fun a ha => g.2.2.2.2 a (fun z => (own_mem.mp ha).2 (z ▸ h2)) (fun f hf z => (own_mem.mp ha).2 (z ▸ h3 f hf))
  refine ⟨h1, h2, h3, h4, h5, h6, h7.kp inn, g.self, ?_, ?_, h11, fun k u hk hu => ?_, ?_, e⟩
  · rw [(inn x h4.1).2.2.1 320]; exact h9
  · rw [(inn us hus.1).2.2.1 280]; exact h10
  · rw [(inn t htt.1).2.2.2.2.2 k] at hu
    have tu := h7.1.2 t k htt.1 u hu
    rw [(inn u tu.1).1 240]
    exact h12 k u hk hu
  · rw [(inn us hus.1).1 281]; exact h13
end
theorem Sh.up {Z : sSt} {fz fz2 : Nat → Bool} {Λ : sLay} {S S1 : sSt} (h : Sh (Z, fz) Λ S) (g : Sh (S, fz2) Λ S1) (c : ∀ f, fz f = true → fz2 f = true) : Sh (Z, fz) Λ S1 :=
  ⟨g.1, g.2.1, g.2.2.1, g.2.2.2.1, fun a ha => (h.2.2.2.2.1 a ha).tr (g.2.2.2.2.1 a ha), g.2.2.2.2.2.1.trans h.2.2.2.2.2.1, fun a k ha => (g.2.2.2.2.2.2.1 a k ha).trans (h.2.2.2.2.2.2.1 a k ha), fun f hf a => ⟨(g.2.2.2.2.2.2.2 f (c f hf) a).1.trans (h.2.2.2.2.2.2.2 f hf a).1, (g.2.2.2.2.2.2.2 f (c f hf) a).2.trans (h.2.2.2.2.2.2.2 f hf a).2⟩⟩
theorem nfz_sub {l l2 : List Nat} (h : ∀ g ∈ l2, g ∈ l) : ∀ f, nfz l f = true → nfz l2 f = true := nfz_ok (fun g hg => by unfold nfz; simp [h g hg])
