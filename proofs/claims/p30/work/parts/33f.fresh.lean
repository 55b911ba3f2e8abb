/-! The first turn: what class and reference hold when they are new. -/
def FreshC (x us al cs rg re io : Nat) (Λ : sLay) (S : sSt) : Prop :=
  gFR S 320 x = some us ∧ gFR S 321 x = some cs ∧ gFR S 323 x = some rg ∧ gFI S 324 x = 0 ∧ us ∈ Λ.1 ∧ gFR S 280 us = some al ∧ Λ.2.2 al = 16 ∧ gFI S 281 us = 0 ∧ (∀ k, gAR S al k = none) ∧ al ∈ Λ.1 ∧
  gFR S 80 rg = some re ∧ Λ.2.2 re = 16 ∧ gFR S 82 rg = some io
def FreshM (m : Nat) (Λ : sLay) (S : sSt) : Prop :=
  m ∈ Λ.1 ∧ gFI S 361 m = 0 ∧ gFI S 378 m = 0 ∧ ∀ f kd n, (f, kd, n) ∈ arrs9 → ∃ a, gFR S f m = some a ∧ a ∈ Λ.1 ∧ Λ.2.2 a = n
theorem R_X2_init.f80 {Λ Λ' : sLay} {S S' : sSt} {p0 : Nat} (h : R_X2_init Λ S p0 Λ' S') (hp : p0 ∈ Λ.1) : (∃ re, gFR S' 80 p0 = some re ∧ Λ'.2.2 re = 16) ∧ ∃ io, gFR S' 82 p0 = some io := by
  obtain ⟨q1, hq1, q6, hq6, q11, hq11, Λ2, S2, r, rfl, rfl⟩ := h
  have n1 : p0 ≠ q1 := ne_fresh hp hq1
  have n6 : p0 ≠ q6 := ne_fresh (inNew hp) hq6
  have n11 : p0 ≠ q11 := ne_fresh (inNew (inNew hp)) hq11
  have k := r.kp (a := p0) (inNew (inNew (inNew hp))) n11
  have hk : isK (lNew Λ q1 10 16) 10 q1 := isK.mk
  have e : lExt (lNew Λ q1 10 16) Λ' := (lExt.new hq6).tr ((lExt.new hq11).tr r.ext)
  refine ⟨⟨q1, ?_, (e q1 hk.1).2.2.trans (va_up_self _ _ _)⟩, q11, ?_⟩
  · rw [gFR_sFR, if_neg (fun z => absurd z.1 (by decide)), k.2.2.1 80]
    simp [gFR_sFR, gFR_sNew, n1, n6, n11]
  · rw [gFR_sFR, if_pos ⟨rfl, rfl⟩]
theorem fresh_of {x m o : Nat} {Λ : sLay} {S : sSt} (h : R_start x m o Λ S) : (∃ us al cs rg re io, FreshC x us al cs rg re io Λ S) ∧ FreshM m Λ S ∧ Λ.2.2 o = 1 := by
  obtain ⟨hx, Λ1, S1, r8, hm, Λ2, S2, r9, ho, rfl, rfl⟩ := h
  have r9 := R_X9_arrs r9
  have hx0 : x ∈ (lNew lay0 x 8 0).1 := (isK.mk (kd := 8) (len := 0)).1
  have r8' := r8
  obtain ⟨q1, hq1, Λa, Sa, r7, q2, hq2, Λb, Sb, r0, q3, hq3, Λc, Sc, r4, q4, hq4, Λd, Sd, r2, rfl, rfl⟩ := r8
  have n1 : x ≠ q1 := ne_fresh hx0 hq1
  have hxa : x ∈ Λa.1 := (r7.ext x (inNew hx0)).1
  have n2 : x ≠ q2 := ne_fresh hxa hq2
  have hxb : x ∈ Λb.1 := (r0.ext x (inNew hxa)).1
  have n3 : x ≠ q3 := ne_fresh hxb hq3
  have hxc : x ∈ Λc.1 := (r4.ext x (inNew hxb)).1
  have n4 : x ≠ q4 := ne_fresh hxc hq4
  have hxd : x ∈ Λ1.1 := (r2.ext x (inNew hxc)).1
  -- from S1 on
  have tl : ∀ a, a ∈ Λ1.1 → kpA (sFI (sFR Sd 323 x (some q4)) 324 x 0) (sNew S2 o) a := fun a ha =>
    (kpA.new (ne_fresh ha hm)).tr ((r9.kp (inNew ha) (ne_fresh ha hm)).tr (kpA.new (ne_fresh (r9.ext a (inNew ha)).1 ho)))
  have el : lExt Λ1 (lNew Λ2 o 11 1) := (lExt.new hm).tr (r9.ext.tr (lExt.new ho))
  have eb : lExt Λa Λ1 := (lExt.new hq2).tr (r0.ext.tr ((lExt.new hq3).tr (r4.ext.tr ((lExt.new hq4).tr r2.ext))))
  have ta : ∀ a, a ∈ Λa.1 → a ≠ x → kpA Sa (sFI (sFR Sd 323 x (some q4)) 324 x 0) a := fun a ha hn => by
    have hb : a ∈ Λb.1 := (r0.ext a (inNew ha)).1
    have hc : a ∈ Λc.1 := (r4.ext a (inNew hb)).1
    exact (kpA.sFR hn).tr ((kpA.new (ne_fresh ha hq2)).tr ((r0.kp (inNew ha) (ne_fresh ha hq2)).tr ((kpA.sFR hn).tr ((kpA.new (ne_fresh hb hq3)).tr ((r4.kp (inNew hb) (ne_fresh hb hq3)).tr ((kpA.sFR hn).tr ((kpA.new (ne_fresh hc hq4)).tr ((r2.kp (inNew hc) (ne_fresh hc hq4)).tr ((kpA.sFR hn).tr (kpA.sFI hn))))))))))
  have tx := tl x hxd
  obtain ⟨qa, hqa, rfl, rfl⟩ := r7
  have hu : isK (lNew (lNew lay0 x 8 0) q1 7 0) 7 q1 := isK.mk
  have nua : q1 ≠ qa := ne_fresh hu.1 hqa
  have hal : isK (lNew (lNew (lNew lay0 x 8 0) q1 7 0) qa 14 16) 14 qa := isK.mk
  have nxa : qa ≠ x := fun e => hqa (by rw [e]; exact inNew hx0)
  have tu := (ta q1 (inNew hu.1) (Ne.symm n1)).tr (tl q1 (eb q1 (inNew hu.1)).1)
  have tal := (ta qa hal.1 nxa).tr (tl qa (eb qa hal.1).1)
  obtain ⟨⟨re, h80, hre⟩, io, h82⟩ := r2.f80 (isK.mk (kd := 2) (len := 0)).1
  have hq4d : q4 ∈ Λ1.1 := (r2.ext q4 (isK.mk (kd := 2) (len := 0)).1).1
  have tg : kpA Sd (sNew S2 o) q4 := (kpA.sFR (Ne.symm n4)).tr ((kpA.sFI (Ne.symm n4)).tr (tl q4 hq4d))
  have kx2 := r2.kp (a := x) (inNew hxc) n4
  have kx4 := r4.kp (a := x) (inNew hxb) n3
  have kx0 := r0.kp (a := x) (inNew hxa) n2
  have hm0 : m ∈ (lNew Λ1 m 9 0).1 := (isK.mk (kd := 9) (len := 0)).1
  have nmo : m ≠ o := ne_fresh (r9.ext m hm0).1 ho
  refine ⟨⟨q1, qa, q2, q4, re, io, ?_, ?_, ?_, ?_, ?_, ?_, ?_, ?_, ?_, ?_, ?_, ?_, ?_⟩, ⟨?_, ?_, ?_, ?_⟩, va_up_self _ _ _⟩
  · rw [tx.2.2.1 320]
    simp only [gFR_sFI, gFR_sFR]
    rw [if_neg (fun z => absurd z.1 (by decide)), kx2.2.2.1 320, gFR_sNew, if_neg n4, gFR_sFR, if_neg (fun z => absurd z.1 (by decide)), kx4.2.2.1 320, gFR_sNew, if_neg n3, gFR_sFR, if_neg (fun z => absurd z.1 (by decide)), kx0.2.2.1 320, gFR_sNew, if_neg n2, gFR_sFR, if_pos ⟨rfl, rfl⟩]
  · rw [tx.2.2.1 321]
    simp only [gFR_sFI, gFR_sFR]
    rw [if_neg (fun z => absurd z.1 (by decide)), kx2.2.2.1 321, gFR_sNew, if_neg n4, gFR_sFR, if_neg (fun z => absurd z.1 (by decide)), kx4.2.2.1 321, gFR_sNew, if_neg n3, gFR_sFR, if_pos ⟨rfl, rfl⟩]
  · rw [tx.2.2.1 323, gFR_sFI, gFR_sFR, if_pos ⟨rfl, rfl⟩]
  · rw [tx.1 324, gFI_sFI, if_pos ⟨rfl, rfl⟩]
  · exact (el q1 (eb q1 (inNew hu.1)).1).1
  · rw [tu.2.2.1 280, gFR_sFI, gFR_sFR, if_pos ⟨rfl, rfl⟩]
  · exact (el qa (eb qa hal.1).1).2.2.trans ((eb qa hal.1).2.2.trans (va_up_self _ _ _))
  · rw [tu.1 281, gFI_sFI, if_pos ⟨rfl, rfl⟩]
  · intro k
    rw [tal.2.2.2.2.2 k, gAR_sFI, gAR_sFR, gAR_sNew, if_pos rfl]
  · exact (el qa (eb qa hal.1).1).1
  · rw [tg.2.2.1 80]; exact h80
  · have hre1 : re ∈ Λ1.1 := by
      obtain ⟨z1, hz1, z6, hz6, z11, hz11, Λz, Sz, rz, rfl, rfl⟩ := r2
      have n1' : q4 ≠ z1 := ne_fresh (isK.mk (kd := 2) (len := 0)).1 hz1
      have n6' : q4 ≠ z6 := ne_fresh (inNew (isK.mk (kd := 2) (len := 0)).1) hz6
      have n11' : q4 ≠ z11 := ne_fresh (inNew (inNew (isK.mk (kd := 2) (len := 0)).1)) hz11
      have k := rz.kp (a := q4) (inNew (inNew (inNew (isK.mk (kd := 2) (len := 0)).1))) n11'
      rw [gFR_sFR, if_neg (fun z => absurd z.1 (by decide)), k.2.2.1 80] at h80
      simp [gFR_sFR, gFR_sNew, n1', n6', n11'] at h80
      subst h80
      exact (((lExt.new hz6).tr ((lExt.new hz11).tr rz.ext)) _ (isK.mk (kd := 10) (len := 16)).1).1
    exact (el re hre1).2.2.trans hre
  · rw [tg.2.2.1 82]; exact h82
  · exact inNew (r9.ext m hm0).1
  · rw [gFI_sNew, if_neg nmo, r9.ints hm0, gFI_sNew, if_pos rfl]
  · rw [gFI_sNew, if_neg nmo, r9.ints hm0, gFI_sNew, if_pos rfl]
  · intro f kd n hf
    obtain ⟨a, h1, h2, h3, -⟩ := r9.at hm0 (by decide) f kd n hf
    have nao : a ≠ o := ne_fresh h2.1 ho
    exact ⟨a, by rw [gFR_sNew, if_neg nmo]; exact h1, inNew h2.1, (lExt.new ho a h2.1).2.2.trans h3⟩
