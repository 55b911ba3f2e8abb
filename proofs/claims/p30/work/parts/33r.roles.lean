/-! Roles: what a field holds has its role, and knows whose it is; so no two fields hold the same. -/
def zu (f : Nat → Nat) (q v a : Nat) : Nat := if a = q then v else f a
theorem zu_s {f : Nat → Nat} {q v : Nat} : zu f q v q = v := if_pos rfl
theorem zu_n {f : Nat → Nat} {q v a : Nat} (h : a ≠ q) : zu f q v a = f a := if_neg h
def AG (L : List Nat) (f g : Nat → Nat) : Prop := ∀ a, a ∈ L → g a = f a
theorem AG.tr {Λ Λ' : sLay} {f g k : Nat → Nat} (h : AG Λ.1 f g) (h2 : AG Λ'.1 g k) (x : lExt Λ Λ') : AG Λ.1 f k := fun a ha => (h2 a (x a ha).1).trans (h a ha)
theorem AG.zu {Λ : sLay} {f : Nat → Nat} {q v : Nat} (hq : q ∉ Λ.1) : AG Λ.1 f (zu f q v) := fun a ha => zu_n (ne_fresh ha hq)
theorem roL_o {ρ : Nat → Nat} {f a : Nat} (h : f ≠ 40) (h2 : f ≠ 120) : roL ρ f a = f := by
  unfold roL
  rw [if_neg h, if_neg h2]
/-- how long arrays are, by their roles -/
def lenR : List (Nat × Nat) := [(1241, 6), (1242, 12), (1201, 3), (244, 10), (280, 16), (1246, 42), (1082, 16), (80, 16), (81, 16), (0, 160), (2, 160), (2160, 680), (2161, 680), (2243, 680)]
theorem lnk {ρ : Nat → Nat} {f len p0 : Nat} (h : f ≠ 40) (h2 : f ≠ 120) (hd : ∀ z ∈ lenR, f = z.1 → len = z.2) : ∀ z ∈ lenR, roL ρ f p0 = z.1 → len = z.2 := fun z hz e => hd z hz ((roL_o h h2).symm.trans e)
def Ro (ρ ω : Nat → Nat) (Λ : sLay) (S : sSt) : Prop := (∀ f, f ∈ refF → ∀ a b, a ∈ Λ.1 → gFR S f a = some b → ρ b = roL ρ f a ∧ ω b = a) ∧ ∀ b, b ∈ Λ.1 → ∀ z ∈ lenR, ρ b = z.1 → Λ.2.2 b = z.2
section
variable {X : Nat → Nat → Prop} {Λ Λ' : sLay} {S S' : sSt} {R : List Nat} {q : Nat} {ρ ω : Nat → Nat}
theorem Ro.newO (g : Ro ρ ω (own Λ R) S) (h : ShE X (own Λ R) S) (hR : ∀ a ∈ R, a ∈ Λ.1) (hq : q ∉ Λ.1) (kd len r0 w0 : Nat) (hl : ∀ z ∈ lenR, r0 = z.1 → len = z.2) : Ro (zu ρ q r0) (zu ω q w0) (own (lNew Λ q kd len) R) (sNew S q) := by
  rw [own_new (own_nq hR hq)]
  have old : ∀ a, a ∈ (lNew (own Λ R) q kd len).1 → a ≠ q → a ∈ (own Λ R).1 := fun a ha e => (List.mem_append.mp ha).elim id (fun z => absurd (List.mem_singleton.mp z) e)
  have nq : ∀ b, b ∈ (own Λ R).1 → b ≠ q := fun b hb e => hq (e ▸ (own_mem.mp hb).1)
  refine ⟨fun f hf a b ha e => ?_, fun b hb z hz e => ?_⟩
  · rw [gFR_sNew] at e
    by_cases c : a = q
    · rw [if_pos c] at e; cases e
    · rw [if_neg c] at e
      have ha' := old a ha c
      have hb := nq b (h.1.1 f a ha' b e).1
      obtain ⟨e1, e2⟩ := g.1 f hf a b ha' e
      refine ⟨?_, (zu_n hb).trans e2⟩
      rw [zu_n hb, e1]
      unfold roL
      rw [zu_n c]
  · by_cases c : b = q
    · rw [c, zu_s] at e
      rw [c]
      show va_up (own Λ R).2.2 q len q = z.2
      rw [va_up_self]
      exact hl z hz e
    · rw [zu_n c] at e
      have e2 : (lNew (own Λ R) q kd len).2.2 b = (own Λ R).2.2 b := va_up_ne _ _ c
      rw [e2]
      exact g.2 b (old b hb c) z hz e
theorem Ro.fr {Λ : sLay} (g : Ro ρ ω Λ S) {f p0 v : Nat} (e : ρ v = roL ρ f p0) (w : ω v = p0) : Ro ρ ω Λ (sFR S f p0 (some v)) := by
  refine ⟨fun f' hf a b ha e' => ?_, g.2⟩
  rw [gFR_sFR] at e'
  by_cases c : f' = f ∧ a = p0
  · rw [if_pos c] at e'
    cases e'
    rw [c.1, c.2]
    exact ⟨e, w⟩
  · rw [if_neg c] at e'
    exact g.1 f' hf a b ha e'
theorem Ro.ar {Λ : sLay} (g : Ro ρ ω Λ S) {t i v : Nat} : Ro ρ ω Λ (sAR S t i (some v)) := g
theorem Ro.fi {Λ : sLay} (g : Ro ρ ω Λ S) (i a : Nat) (v : Int32) : Ro ρ ω Λ (sFI S i a v) := g
/-- an array laid into a field -/
theorem Ro.arrO (g : Ro ρ ω (own Λ R) S) (h : ShE X (own Λ R) S) (hR : ∀ a ∈ R, a ∈ Λ.1) (hq : q ∉ Λ.1) {p0 : Nat} (hp : p0 ∈ Λ.1) (kd len f : Nat) (hl : ∀ z ∈ lenR, roL ρ f p0 = z.1 → len = z.2) : Ro (zu ρ q (roL ρ f p0)) (zu ω q p0) (own (lNew Λ q kd len) R) (sFR (sNew S q) f p0 (some q)) := by
  refine (g.newO h hR hq kd len _ _ hl).fr ?_ zu_s
  rw [zu_s]
  unfold roL
  rw [zu_n (ne_fresh hp hq)]
theorem M1 (h : ShE X (own Λ R) S) (g : Ro ρ ω (own Λ R) S) (hR : ∀ a ∈ R, a ∈ Λ.1) (hq : q ∉ Λ.1) (r0 w0 : Nat) (hr0 : ∀ z ∈ lenR, r0 ≠ z.1) {p1 : Int32} (hp1 : ∀ z ∈ lenR, 1000 + r0 = z.1 → p1.toNatClampNeg = z.2) (r : R_X1_init (lNew Λ q 1 0) (sNew S q) q p1 Λ' S') : ∃ ρ' ω', AG Λ.1 ρ ρ' ∧ AG Λ.1 ω ω' ∧ ρ' q = r0 ∧ ω' q = w0 ∧ Ro ρ' ω' (own Λ' R) S' := by
  obtain ⟨q1, hq1, rfl, rfl⟩ := r
  have m0 : q ∈ (lNew Λ q 1 0).1 := (isK.mk (kd := 1) (len := 0)).1
  refine ⟨_, _, (AG.zu hq).tr (AG.zu hq1) (lExt.new (kd := 1) (len := 0) hq), (AG.zu hq).tr (AG.zu hq1) (lExt.new (kd := 1) (len := 0) hq), (zu_n (ne_fresh m0 hq1)).trans zu_s, (zu_n (ne_fresh m0 hq1)).trans zu_s, (g.newO h hR hq 1 0 r0 w0 (fun z hz e => absurd e (hr0 z hz))).arrO (h.obj hR hq 1).1 (own_R hR) hq1 m0 10 _ 40 (fun z hz e => hp1 z hz (by unfold roL at e; rw [if_pos rfl, zu_s] at e; exact e))⟩
theorem M3 (h : ShE X (own Λ R) S) (g : Ro ρ ω (own Λ R) S) (hR : ∀ a ∈ R, a ∈ Λ.1) (hq : q ∉ Λ.1) (r0 w0 : Nat) (hr0 : ∀ z ∈ lenR, r0 ≠ z.1) (hp1 : ∀ z ∈ lenR, 2000 + r0 = z.1 → 680 = z.2) (r : R_X3_init (lNew Λ q 3 0) (sNew S q) q Λ' S') : ∃ ρ' ω', AG Λ.1 ρ ρ' ∧ AG Λ.1 ω ω' ∧ ρ' q = r0 ∧ ω' q = w0 ∧ Ro ρ' ω' (own Λ' R) S' := by
  obtain ⟨q1, hq1, rfl, rfl⟩ := r
  have m0 : q ∈ (lNew Λ q 3 0).1 := (isK.mk (kd := 3) (len := 0)).1
  refine ⟨_, _, (AG.zu hq).tr (AG.zu hq1) (lExt.new (kd := 3) (len := 0) hq), (AG.zu hq).tr (AG.zu hq1) (lExt.new (kd := 3) (len := 0) hq), (zu_n (ne_fresh m0 hq1)).trans zu_s, (zu_n (ne_fresh m0 hq1)).trans zu_s, (g.newO h hR hq 3 0 r0 w0 (fun z hz e => absurd e (hr0 z hz))).arrO (h.obj hR hq 3).1 (own_R hR) hq1 m0 11 680 120 (fun z hz e => hp1 z hz (by unfold roL at e; rw [if_neg (by decide), if_pos rfl, zu_s] at e; exact e))⟩
theorem M5 (h : ShE X (own Λ R) S) (g : Ro ρ ω (own Λ R) S) (hR : ∀ a ∈ R, a ∈ Λ.1) (hq : q ∉ Λ.1) (r0 w0 : Nat) (hr0 : ∀ z ∈ lenR, r0 ≠ z.1) {p1 : Int32} (r : R_X5_init (lNew Λ q 5 0) (sNew S q) q p1 Λ' S') : ∃ ρ' ω', AG Λ.1 ρ ρ' ∧ AG Λ.1 ω ω' ∧ ρ' q = r0 ∧ ω' q = w0 ∧ Ro ρ' ω' (own Λ' R) S' := by
  obtain ⟨q1, hq1, Λ6, S7, r1, rfl, rfl⟩ := r
  have m0 : q ∈ (lNew Λ q 5 0).1 := (isK.mk (kd := 5) (len := 0)).1
  have x0 : lExt Λ (lNew Λ q 5 0) := lExt.new hq
  obtain ⟨ρ1, ω1, a1, b1, c1, d1, g1⟩ := M1 ((h.obj hR hq 5).1.fi 200 q p1) (g.newO h hR hq 5 0 r0 w0 (fun z hz e => absurd e (hr0 z hz))) (own_R hR) hq1 201 q (by decide) (by decide) r1
  exact ⟨ρ1, ω1, (AG.zu hq).tr a1 x0, (AG.zu hq).tr b1 x0, (a1 q m0).trans zu_s, (b1 q m0).trans zu_s, g1.fr (c1.trans (roL_o (by decide) (by decide)).symm) d1⟩
end
theorem R_X5_init.own {Λ Λ' : sLay} {S S' : sSt} {p0 : Nat} {p1 : Int32} (h : R_X5_init Λ S p0 p1 Λ' S') (ha : p0 ∈ Λ.1) : gFI S' 200 p0 = p1 := by
  obtain ⟨q1, hq1, Λ6, S7, r1, rfl, rfl⟩ := h
  have hne := ne_fresh ha hq1
  rw [gFI_sFR, (r1.kp (inNew ha) hne).1 200, gFI_sNew, if_neg hne, gFI_sFI, if_pos ⟨rfl, rfl⟩]
theorem MT {R : List Nat} {t : Nat} {p1 : Int32} : ∀ (j i : Nat) {X : Nat → Nat → Prop} {Λ Λ' : sLay} {S S' : sSt} {ρ ω : Nat → Nat}, ShE X (own Λ R) S → Ro ρ ω (own Λ R) S → (∀ a ∈ R, a ∈ Λ.1) → isK (own Λ R) 13 t → R_T t p1 j i Λ S Λ' S' →
    ∃ ρ' ω', AG Λ.1 ρ ρ' ∧ AG Λ.1 ω ω' ∧ Ro ρ' ω' (own Λ' R) S' ∧ (∀ k, k < i → gAR S' t k = gAR S t k) ∧ (∀ k, i + j ≤ k → gAR S' t k = gAR S t k) ∧ (∀ k, i ≤ k → k < i + j → ∃ b, gAR S' t k = some b ∧ ω' b = t ∧ b ∈ Λ'.1 ∧ b ∉ Λ.1 ∧ gFI S' 200 b = p1) ∧ ∀ k k' b, i ≤ k → k < i + j → i ≤ k' → k' < i + j → gAR S' t k = some b → gAR S' t k' = some b → k = k' := by
  intro j
  induction j with
  | zero =>
    intro i X Λ Λ' S S' ρ ω h g hR ht r
    obtain ⟨rfl, rfl⟩ := r
    exact ⟨ρ, ω, fun _ _ => rfl, fun _ _ => rfl, g, fun _ _ => rfl, fun _ _ => rfl, fun k h1 h2 => absurd h2 (by omega), fun k k' b h1 h2 => absurd h2 (by omega)⟩
  | succ j ih =>
    intro i X Λ Λ' S S' ρ ω h g hR ht r
    obtain ⟨q, hq, Λ2, S2, r1, r2⟩ := r
    have ex := (lExt.new (kd := 5) (len := 0) hq).tr r1.ext
    obtain ⟨h1, tq⟩ := N5 h hR hq r1
    obtain ⟨ρ1, ω1, a1, b1, c1, d1, g1⟩ := M5 h g hR hq 13244 t (by decide) r1
    have ht2 := isK.ext (own_ext (R := R) ex) ht
    have hk := own_isK.mp ht
    have k1 := (kpA.new (S := S) (ne_fresh hk.1.1 hq)).tr (r1.kp (inNew hk.1.1) (ne_fresh hk.1.1 hq))
    have h2 := h1.ar t i (v := q) (okK.ek ht2 (okK.of tq))
    have g2 : Ro ρ1 ω1 (own Λ2 R) (sAR S2 t i (some q)) := g1.ar
    obtain ⟨ρ2, ω2, a2, b2, g3, x1, x2, x3, x4⟩ := ih (i + 1) h2 g2 (own_Re hR ex) ht2 r2
    have hq2 : q ∈ Λ2.1 := (r1.ext q (isK.mk (kd := 5) (len := 0)).1).1
    have nqt : q ≠ t := fun e => hq (e ▸ hk.1.1)
    have eq0 : gAR S' t i = some q := by rw [x1 i (Nat.lt_succ_self i), gAR_sAR, if_pos ⟨rfl, rfl⟩]
    have e200 : gFI S' 200 q = p1 := by
      rw [(R_T.kp nqt _ _ r2 hq2).1 200, gFI_sAR]
      exact r1.own (isK.mk (kd := 5) (len := 0)).1
    have hq' : q ∈ Λ'.1 := (R_T.ext _ _ r2 q hq2).1
    refine ⟨ρ2, ω2, a1.tr a2 ex, b1.tr b2 ex, g3, fun k hk2 => ?_, fun k hk2 => ?_, fun k h3 h4 => ?_, fun k k' b h3 h4 h5 h6 e e2 => ?_⟩
    · rw [x1 k (by omega), gAR_sAR, if_neg (fun z => by have := z.2; omega)]
      exact k1.2.2.2.2.2 k
    · rw [x2 k (by omega), gAR_sAR, if_neg (fun z => by have := z.2; omega)]
      exact k1.2.2.2.2.2 k
    · by_cases ck : k = i
      · subst ck
        exact ⟨q, eq0, (b2 q hq2).trans d1, hq', hq, e200⟩
      · obtain ⟨b, y1, y2, y3, y4, y5⟩ := x3 k (by omega) (by omega)
        exact ⟨b, y1, y2, y3, fun z => y4 (ex b z).1, y5⟩
    · have no : ∀ z, i + 1 ≤ z → z < i + 1 + j → gAR S' t z ≠ some q := fun z z1 z2 z3 => by
        obtain ⟨b', y1, -, -, y4, -⟩ := x3 z z1 z2
        rw [z3] at y1
        cases y1
        exact y4 hq2
      by_cases ck : k = i
      · by_cases ck' : k' = i
        · rw [ck, ck']
        · rw [ck, eq0] at e
          cases e
          exact absurd e2 (no k' (by omega) (by omega))
      · by_cases ck' : k' = i
        · rw [ck', eq0] at e2
          cases e2
          exact absurd e (no k (by omega) (by omega))
        · exact x4 k k' b (by omega) (by omega) (by omega) (by omega) e e2
section
variable {X : Nat → Nat → Prop} {Λ Λ' : sLay} {S S' : sSt} {R : List Nat} {q : Nat} {ρ ω : Nat → Nat}
set_option maxHeartbeats 2000000 in
theorem M6 (h : ShE X (own Λ R) S) (g : Ro ρ ω (own Λ R) S) (hR : ∀ a ∈ R, a ∈ Λ.1) (hq : q ∉ Λ.1) (r0 w0 : Nat) (hr0 : ∀ z ∈ lenR, r0 ≠ z.1) {p1 : Int32} (r : R_X6_init (lNew Λ q 6 0) (sNew S q) q p1 Λ' S') : ∃ ρ' ω', AG Λ.1 ρ ρ' ∧ AG Λ.1 ω ω' ∧ ρ' q = r0 ∧ ω' q = w0 ∧ Ro ρ' ω' (own Λ' R) S' ∧ ∃ tq, gFR S' 244 q = some tq ∧ (∀ i b, gAR S' tq i = some b → ω' b = tq ∧ gFI S' 200 b = p1) ∧ ∀ i j b, gAR S' tq i = some b → gAR S' tq j = some b → i = j := by
  obtain ⟨q1, hq1, Λ6, S7, r1, q13, hq13, Λ18, S19, r2, q25, hq25, Λ30, S31, r3, q37, hq37, Λ50, S50, rt, q101, hq101, Λ106, S107, r5, rfl, rfl⟩ := r
  have h0 := (h.obj hR hq 6).1
  have m0 : q ∈ (lNew Λ q 6 0).1 := (isK.mk (kd := 6) (len := 0)).1
  have x0 : lExt Λ (lNew Λ q 6 0) := lExt.new hq
  have x6 := (lExt.new (kd := 1) (len := 0) hq1).tr r1.ext
  have m6 : q ∈ Λ6.1 := (x6 q m0).1
  have x18 := (lExt.new (kd := 1) (len := 0) hq13).tr r2.ext
  have m18 : q ∈ Λ18.1 := (x18 q m6).1
  have x30 := (lExt.new (kd := 3) (len := 0) hq25).tr r3.ext
  have m30 : q ∈ Λ30.1 := (x30 q m18).1
  have x37 : lExt Λ30 (lNew Λ30 q37 13 10) := lExt.new hq37
  have xt := R_T.ext _ _ rt
  have x101 := (lExt.new (kd := 1) (len := 0) hq101).tr r5.ext
  have R0 := own_R (q := q) (kd := 6) (len := 0) hR
  have R6 := own_Re R0 x6
  have R18 := own_Re R6 x18
  have R30 := own_Re R18 x30
  have R37 := own_Re R30 x37
  have R50 := own_Re R37 xt
  obtain ⟨h1, t1⟩ := N1 (h0.fi 240 q p1) R0 hq1 r1
  obtain ⟨ρ1, ω1, a1, b1, c1, d1, g1⟩ := M1 (h0.fi 240 q p1) (g.newO h hR hq 6 0 r0 w0 (fun z hz e => absurd e (hr0 z hz))) R0 hq1 241 q (by decide) (by decide) r1
  have h2 := h1.fr 241 (p0 := q) (by decide) t1 (fun e => absurd e (by decide))
  obtain ⟨h3, t3⟩ := N1 h2 R6 hq13 r2
  obtain ⟨ρ2, ω2, a2, b2, c2, d2, g2⟩ := M1 h2 (g1.fr (f := 241) (p0 := q) (c1.trans (roL_o (by decide) (by decide)).symm) d1) R6 hq13 242 q (by decide) (by decide) r2
  have h4 := h3.fr 242 (p0 := q) (by decide) t3 (fun e => absurd e (by decide))
  obtain ⟨h5, t5⟩ := N3 h4 R18 hq25 r3
  obtain ⟨ρ3, ω3, a3, b3, c3, d3, g3⟩ := M3 h4 (g2.fr (f := 242) (p0 := q) (c2.trans (roL_o (by decide) (by decide)).symm) d2) R18 hq25 243 q (by decide) (by decide) r3
  have h6 := h5.fr 243 (p0 := q) (by decide) t5 (fun e => absurd e (by decide))
  have g6 := (g3.fr (f := 243) (p0 := q) (c3.trans (roL_o (by decide) (by decide)).symm) d3).arrO h6 R30 hq37 m30 13 10 244 (lnk (by decide) (by decide) (by decide))
  have h7 := h6.arr R30 hq37 (p0 := q) (f := 244) (kd := 13) (len := 10) (by omega) (by decide) (by decide) (by decide) rfl (fun _ => ⟨⟨⟨Or.inr rfl, fun z => absurd z.1 (by decide)⟩, fun z => absurd z.1 (by decide)⟩, fun z => absurd z.1 (by decide)⟩)
  have t37 : isK (own (lNew Λ30 q37 13 10) R) 13 q37 := by rw [own_new (own_nq R30 hq37)]; exact isK.mk
  obtain ⟨h8, -⟩ := NT 10 0 h7 R37 t37 rt
  obtain ⟨ρ5, ω5, a5, b5, g8, -, x2, x3, x4⟩ := MT 10 0 h7 g6 R37 t37 rt
  obtain ⟨ρ6, ω6, a6, b6, c6, d6, g9⟩ := M1 h8 g8 R50 hq101 246 q (by decide) (by decide) r5
  have A5 : AG (lNew Λ q 6 0).1 (zu ρ q r0) ρ6 := a1.tr (a2.tr (a3.tr ((AG.zu hq37).tr (a5.tr a6 xt) x37) x30) x18) x6
  have B5 : AG (lNew Λ q 6 0).1 (zu ω q w0) ω6 := b1.tr (b2.tr (b3.tr ((AG.zu hq37).tr (b5.tr b6 xt) x37) x30) x18) x6
  have m37 : q37 ∈ (lNew Λ30 q37 13 10).1 := (isK.mk (kd := 13) (len := 10)).1
  have n37 : q ≠ q37 := ne_fresh m30 hq37
  have m50 : q ∈ Λ50.1 := (xt q (inNew m30)).1
  have m3750 : q37 ∈ Λ50.1 := (xt q37 m37).1
  have kq := R_T.kp n37 _ _ rt (inNew m30)
  have l5 : ∀ a, a ∈ Λ50.1 → kpA S50 S107 a := fun a ha => (kpA.new (ne_fresh ha hq101)).tr (r5.kp (inNew ha) (ne_fresh ha hq101))
  have ek : ∀ k, gAR (sFR S107 246 q (some q101)) q37 k = gAR S50 q37 k := fun k => (l5 q37 m3750).2.2.2.2.2 k
  have none0 : ∀ k, 10 ≤ k → gAR S50 q37 k = none := fun k hk => by rw [x2 k (by omega), gAR_sFR, gAR_sNew, if_pos rfl]
  refine ⟨ρ6, ω6, (AG.zu hq).tr A5 x0, (AG.zu hq).tr B5 x0, (A5 q m0).trans zu_s, (B5 q m0).trans zu_s, g9.fr (c6.trans (roL_o (by decide) (by decide)).symm) d6, q37, ?_, fun i b e => ?_, fun i j b e e2 => ?_⟩
  · rw [gFR_sFR, if_neg (fun z => absurd z.1 (by decide)), (l5 q m50).2.2.1 244, kq.2.2.1 244, gFR_sFR, if_pos ⟨rfl, rfl⟩]
  · rw [ek] at e
    have hi : i < 10 := Nat.lt_of_not_le (fun z => by rw [none0 i z] at e; cases e)
    obtain ⟨b', y1, y2, y3, y4, y5⟩ := x3 i (Nat.zero_le i) (by omega)
    rw [e] at y1
    cases y1
    refine ⟨(b6 b y3).trans y2, ?_⟩
    rw [gFI_sFR, (l5 b y3).1 200]
    exact y5
  · rw [ek] at e e2
    have hi : i < 10 := Nat.lt_of_not_le (fun z => by rw [none0 i z] at e; cases e)
    have hj : j < 10 := Nat.lt_of_not_le (fun z => by rw [none0 j z] at e2; cases e2)
    exact x4 i j b (Nat.zero_le i) (by omega) (Nat.zero_le j) (by omega) e e2
theorem M7 (h : ShE X (own Λ R) S) (g : Ro ρ ω (own Λ R) S) (hR : ∀ a ∈ R, a ∈ Λ.1) (hq : q ∉ Λ.1) (r0 w0 : Nat) (hr0 : ∀ z ∈ lenR, r0 ≠ z.1) (r : R_X7_init (lNew Λ q 7 0) (sNew S q) q Λ' S') : ∃ ρ' ω', AG Λ.1 ρ ρ' ∧ AG Λ.1 ω ω' ∧ ρ' q = r0 ∧ ω' q = w0 ∧ Ro ρ' ω' (own Λ' R) S' := by
  obtain ⟨q1, hq1, rfl, rfl⟩ := r
  have m0 : q ∈ (lNew Λ q 7 0).1 := (isK.mk (kd := 7) (len := 0)).1
  refine ⟨_, _, (AG.zu hq).tr (AG.zu hq1) (lExt.new (kd := 7) (len := 0) hq), (AG.zu hq).tr (AG.zu hq1) (lExt.new (kd := 7) (len := 0) hq), (zu_n (ne_fresh m0 hq1)).trans zu_s, (zu_n (ne_fresh m0 hq1)).trans zu_s, (g.newO h hR hq 7 0 r0 w0 (fun z hz e => absurd e (hr0 z hz))).arrO (h.obj hR hq 7).1 (own_R hR) hq1 m0 14 16 280 (lnk (by decide) (by decide) (by decide))⟩
theorem M0' (h : ShE X (own Λ R) S) (g : Ro ρ ω (own Λ R) S) (hR : ∀ a ∈ R, a ∈ Λ.1) (hq : q ∉ Λ.1) (r0 w0 : Nat) (hr0 : ∀ z ∈ lenR, r0 ≠ z.1) (r : R_X0_init (lNew Λ q 0 0) (sNew S q) q Λ' S') : ∃ ρ' ω', AG Λ.1 ρ ρ' ∧ AG Λ.1 ω ω' ∧ ρ' q = r0 ∧ ω' q = w0 ∧ Ro ρ' ω' (own Λ' R) S' := by
  obtain ⟨q1, hq1, q6, hq6, rfl, rfl⟩ := r
  have m0 : q ∈ (lNew Λ q 0 0).1 := (isK.mk (kd := 0) (len := 0)).1
  have x0 : lExt Λ (lNew Λ q 0 0) := lExt.new hq
  have x1 : lExt (lNew Λ q 0 0) (lNew (lNew Λ q 0 0) q1 13 160) := lExt.new hq1
  have h1 := (h.obj hR hq 0).1
  have h2 := (h1.arr (own_R hR) hq1 (p0 := q) (f := 0) (kd := 13) (len := 160) (by omega) (by decide) (by decide) (by decide) rfl (fun e => absurd e (by decide))).fi 1 q 0
  have g2 := ((g.newO h hR hq 0 0 r0 w0 (fun z hz e => absurd e (hr0 z hz))).arrO h1 (own_R hR) hq1 m0 13 160 0 (lnk (by decide) (by decide) (by decide))).fi 1 q 0
  have g3 := (g2.arrO h2 (own_R (own_R hR)) hq6 (inNew m0) 13 160 2 (lnk (by decide) (by decide) (by decide))).fi 3 q 0
  have A : AG (lNew Λ q 0 0).1 (zu ρ q r0) _ := (AG.zu (v := roL (zu ρ q r0) 0 q) hq1).tr (AG.zu (v := roL (zu (zu ρ q r0) q1 (roL (zu ρ q r0) 0 q)) 2 q) hq6) x1
  have B : AG (lNew Λ q 0 0).1 (zu ω q w0) _ := (AG.zu (v := q) hq1).tr (AG.zu (v := q) hq6) x1
  exact ⟨_, _, (AG.zu hq).tr A x0, (AG.zu hq).tr B x0, (A q m0).trans zu_s, (B q m0).trans zu_s, g3⟩
theorem M4 (h : ShE X (own Λ R) S) (g : Ro ρ ω (own Λ R) S) (hR : ∀ a ∈ R, a ∈ Λ.1) (hq : q ∉ Λ.1) (r0 w0 : Nat) (hr0 : ∀ z ∈ lenR, r0 ≠ z.1) (r : R_X4_init (lNew Λ q 4 0) (sNew S q) q Λ' S') : ∃ ρ' ω', AG Λ.1 ρ ρ' ∧ AG Λ.1 ω ω' ∧ ρ' q = r0 ∧ ω' q = w0 ∧ Ro ρ' ω' (own Λ' R) S' := by
  obtain ⟨q1, hq1, Λ6, S7, r1, q13, hq13, Λ18, S19, r2, rfl, rfl⟩ := r
  have h0 := (h.obj hR hq 4).1
  have m0 : q ∈ (lNew Λ q 4 0).1 := (isK.mk (kd := 4) (len := 0)).1
  have x0 : lExt Λ (lNew Λ q 4 0) := lExt.new hq
  have x6 := (lExt.new (kd := 3) (len := 0) hq1).tr r1.ext
  have R0 := own_R (q := q) (kd := 4) (len := 0) hR
  have R6 := own_Re R0 x6
  obtain ⟨h1, t1⟩ := N3 h0 R0 hq1 r1
  obtain ⟨ρ1, ω1, a1, b1, c1, d1, g1⟩ := M3 h0 (g.newO h hR hq 4 0 r0 w0 (fun z hz e => absurd e (hr0 z hz))) R0 hq1 160 q (by decide) (by decide) r1
  have h2 := h1.fr 160 (p0 := q) (by decide) t1 (fun e => absurd e (by decide))
  obtain ⟨ρ2, ω2, a2, b2, c2, d2, g2⟩ := M3 h2 (g1.fr (f := 160) (p0 := q) (c1.trans (roL_o (by decide) (by decide)).symm) d1) R6 hq13 161 q (by decide) (by decide) r2
  have A := a1.tr a2 x6
  have B := b1.tr b2 x6
  exact ⟨ρ2, ω2, (AG.zu hq).tr A x0, (AG.zu hq).tr B x0, (A q m0).trans zu_s, (B q m0).trans zu_s, g2.fr (c2.trans (roL_o (by decide) (by decide)).symm) d2⟩
theorem M2 (h : ShE X (own Λ R) S) (g : Ro ρ ω (own Λ R) S) (hR : ∀ a ∈ R, a ∈ Λ.1) (hq : q ∉ Λ.1) (r0 w0 : Nat) (hr0 : ∀ z ∈ lenR, r0 ≠ z.1) (r : R_X2_init (lNew Λ q 2 0) (sNew S q) q Λ' S') : ∃ ρ' ω', AG Λ.1 ρ ρ' ∧ AG Λ.1 ω ω' ∧ ρ' q = r0 ∧ ω' q = w0 ∧ Ro ρ' ω' (own Λ' R) S' := by
  obtain ⟨q1, hq1, q6, hq6, q11, hq11, Λ16, S17, r1, rfl, rfl⟩ := r
  have h0 := (h.obj hR hq 2).1
  have m0 : q ∈ (lNew Λ q 2 0).1 := (isK.mk (kd := 2) (len := 0)).1
  have x0 : lExt Λ (lNew Λ q 2 0) := lExt.new hq
  have x1 : lExt (lNew Λ q 2 0) (lNew (lNew Λ q 2 0) q1 10 16) := lExt.new hq1
  have x2 : lExt (lNew (lNew Λ q 2 0) q1 10 16) (lNew (lNew (lNew Λ q 2 0) q1 10 16) q6 10 16) := lExt.new hq6
  have R0 := own_R (q := q) (kd := 2) (len := 0) hR
  have h1 := h0.arr R0 hq1 (p0 := q) (f := 80) (kd := 10) (len := 16) (by omega) (by decide) (by decide) (by decide) rfl (fun e => absurd e (by decide))
  have g1 := (g.newO h hR hq 2 0 r0 w0 (fun z hz e => absurd e (hr0 z hz))).arrO h0 R0 hq1 m0 10 16 80 (lnk (by decide) (by decide) (by decide))
  have h2 := h1.arr (own_R R0) hq6 (p0 := q) (f := 81) (kd := 10) (len := 16) (by omega) (by decide) (by decide) (by decide) rfl (fun e => absurd e (by decide))
  have g2 := g1.arrO h1 (own_R R0) hq6 (inNew m0) 10 16 81 (lnk (by decide) (by decide) (by decide))
  obtain ⟨ρ3, ω3, a3, b3, c3, d3, g3⟩ := M1 h2 g2 (own_R (own_R R0)) hq11 82 q (by decide) (by decide) r1
  have A := (AG.zu (f := zu ρ q r0) (v := roL (zu ρ q r0) 80 q) hq1).tr ((AG.zu hq6).tr a3 x2) x1
  have B := (AG.zu (f := zu ω q w0) (v := q) hq1).tr ((AG.zu hq6).tr b3 x2) x1
  exact ⟨ρ3, ω3, (AG.zu hq).tr A x0, (AG.zu hq).tr B x0, (A q m0).trans zu_s, (B q m0).trans zu_s, g3.fr (c3.trans (roL_o (by decide) (by decide)).symm) d3⟩
theorem M8 (h : ShE X (own Λ R) S) (g : Ro ρ ω (own Λ R) S) (hR : ∀ a ∈ R, a ∈ Λ.1) (hq : q ∉ Λ.1) (r0 w0 : Nat) (hr0 : ∀ z ∈ lenR, r0 ≠ z.1) (r : R_X8_init (lNew Λ q 8 0) (sNew S q) q Λ' S') : ∃ ρ' ω', AG Λ.1 ρ ρ' ∧ AG Λ.1 ω ω' ∧ ρ' q = r0 ∧ ω' q = w0 ∧ Ro ρ' ω' (own Λ' R) S' := by
  obtain ⟨q1, hq1, Λ6, S7, r1, q13, hq13, Λ18, S19, r2, q25, hq25, Λ30, S31, r3, q37, hq37, Λ42, S43, r4, rfl, rfl⟩ := r
  have h0 := (h.obj hR hq 8).1
  have m0 : q ∈ (lNew Λ q 8 0).1 := (isK.mk (kd := 8) (len := 0)).1
  have x0 : lExt Λ (lNew Λ q 8 0) := lExt.new hq
  have x6 := (lExt.new (kd := 7) (len := 0) hq1).tr r1.ext
  have x18 := (lExt.new (kd := 0) (len := 0) hq13).tr r2.ext
  have x30 := (lExt.new (kd := 4) (len := 0) hq25).tr r3.ext
  have R0 := own_R (q := q) (kd := 8) (len := 0) hR
  have R6 := own_Re R0 x6
  have R18 := own_Re R6 x18
  have R30 := own_Re R18 x30
  obtain ⟨h1, t1⟩ := N7 h0 R0 hq1 r1
  obtain ⟨ρ1, ω1, a1, b1, c1, d1, g1⟩ := M7 h0 (g.newO h hR hq 8 0 r0 w0 (fun z hz e => absurd e (hr0 z hz))) R0 hq1 320 q (by decide) r1
  have h2 := h1.fr 320 (p0 := q) (by decide) t1 (fun e => absurd e (by decide))
  obtain ⟨h3, t3⟩ := N0 h2 R6 hq13 r2
  obtain ⟨ρ2, ω2, a2, b2, c2, d2, g2⟩ := M0' h2 (g1.fr (f := 320) (p0 := q) (c1.trans (roL_o (by decide) (by decide)).symm) d1) R6 hq13 321 q (by decide) r2
  have h4 := h3.fr 321 (p0 := q) (by decide) t3 (fun e => absurd e (by decide))
  obtain ⟨h5, t5⟩ := N4 h4 R18 hq25 r3
  obtain ⟨ρ3, ω3, a3, b3, c3, d3, g3⟩ := M4 h4 (g2.fr (f := 321) (p0 := q) (c2.trans (roL_o (by decide) (by decide)).symm) d2) R18 hq25 322 q (by decide) r3
  have h6 := h5.fr 322 (p0 := q) (by decide) t5 (fun e => absurd e (by decide))
  obtain ⟨ρ4, ω4, a4, b4, c4, d4, g4⟩ := M2 h6 (g3.fr (f := 322) (p0 := q) (c3.trans (roL_o (by decide) (by decide)).symm) d3) R30 hq37 323 q (by decide) r4
  have A := a1.tr (a2.tr (a3.tr a4 x30) x18) x6
  have B := b1.tr (b2.tr (b3.tr b4 x30) x18) x6
  exact ⟨ρ4, ω4, (AG.zu hq).tr A x0, (AG.zu hq).tr B x0, (A q m0).trans zu_s, (B q m0).trans zu_s, (g4.fr (f := 323) (p0 := q) (c4.trans (roL_o (by decide) (by decide)).symm) d4).fi 324 q 0⟩
end
