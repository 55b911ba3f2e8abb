/-! Which units are there, which are readers, who made them: class and reference hold the same. -/
/-- there, reader, maker -/
abbrev aF : Type := (Nat → Bool) × (Nat → Int32) × (Nat → Int32)
theorem bt_of {b : Bool} (h : ¬ b = false) : b = true := by
  cases b
  · exact absurd rfl h
  · rfl
/-- the unit that a number names, if it is there -/
def uo (c : Nat) (T : Nat → Bool) (p : Int32) : Option Nat := if p < 0 then none else if p.toNatClampNeg < c ∧ T p.toNatClampNeg = true then some p.toNatClampNeg else none
theorem uo_some {c k : Nat} {T : Nat → Bool} {p : Int32} (h : uo c T p = some k) : p = nI k ∧ k < c ∧ T k = true ∧ k < 2147483648 := by
  unfold uo at h
  by_cases a : p < 0
  · rw [if_pos a] at h; cases h
  · rw [if_neg a] at h
    obtain ⟨j, hj, rfl⟩ := nI_of a
    rw [n_cl hj] at h
    by_cases b : j < c ∧ T j = true
    · rw [if_pos b] at h
      cases h
      exact ⟨rfl, b.1, b.2, hj⟩
    · rw [if_neg b] at h; cases h
theorem uo_none {c k : Nat} {T : Nat → Bool} {p : Int32} (h : uo c T p = none) (hk : k < c) (hc : c ≤ 16) (e : p = nI k) : T k = false := by
  unfold uo at h
  rw [e, if_neg (nI_pos (by omega)), n_cl (by omega)] at h
  by_cases b : k < c ∧ T k = true
  · rw [if_pos b] at h; cases h
  · exact Bool.eq_false_iff.mpr (fun z => b ⟨hk, z⟩)
/-- what the class holds -/
def CF (S : sSt) (t c : Nat) (F : aF) : Prop := ∀ k, k < c → ∃ u, gAR S t k = some u ∧ (gFI S 247 u = 0 ↔ F.1 k = false) ∧ (F.1 k = true → gFI S 248 u = F.2.1 k ∧ gFI S 249 u = F.2.2 k)
/-- what the reference holds -/
def RF (G : Nat → Nat) (S : sSt) (c : Nat) (F : aF) : Prop := ∀ k, k < c → (gAI S (G 362) k = 0 ↔ F.1 k = false) ∧ (F.1 k = true → gAI S (G 373) k = F.2.1 k ∧ gAI S (G 374) k = F.2.2 k)
def freeF (M : Nat → Int32) (p : Int32) (k : Nat) : Int32 := if M k = p then -5 else M k
theorem freeF_eq {M M' : Nat → Int32} {p : Int32} {k : Nat} (h : M k = M' k) : freeF M p k = freeF M' p k := by
  unfold freeF
  rw [h]
section
variable {x m o us t c c2 : Nat} {R : List Nat} {G : Nat → Nat} {ρ ω : Nat → Nat} {Λ : sLay} {S : sSt} {F : aF}
theorem PD.row (h : PD x m o R G us t c c2 ρ ω Λ S) {fz Ar : Nat → Bool} {S1 : sSt} (g : Sh (S, fz, ρ, Ar) (own Λ R) S1) (k : Nat) : gAR S1 t k = gAR S t k := g.2.2.2.2.2.2.1 t k h.kt.2
theorem CF.fz (h : PD x m o R G us t c c2 ρ ω Λ S) (hF : CF S t c F) {fz Ar : Nat → Bool} {S1 : sSt} (g : Sh (S, fz, ρ, Ar) (own Λ R) S1) (f7 : fz 247 = true) (f8 : fz 248 = true) (f9 : fz 249 = true) : CF S1 t c F := fun k hk => by
  obtain ⟨u, hu, h1, h2⟩ := hF k hk
  refine ⟨u, (h.row g k).trans hu, ?_, fun z => ?_⟩
  · rw [(g.2.2.2.2.2.2.2.1 247 f7 u).1]; exact h1
  · rw [(g.2.2.2.2.2.2.2.1 248 f8 u).1, (g.2.2.2.2.2.2.2.1 249 f9 u).1]; exact h2 z
theorem PD.inj (h : PD x m o R G us t c c2 ρ ω Λ S) {j k u : Nat} (hj : j < 16) (hk : k < 16) (ej : gAR S t j = some u) (ek : gAR S t k = some u) : j = k := by
  have h1 := h.2.2.2.2.2.2.2.2.2.2.2.1 j u hj ej
  have h2 := h.2.2.2.2.2.2.2.2.2.2.2.1 k u hk ek
  rw [h1] at h2
  exact (nI_eq (by omega) (by omega)).mp h2
theorem PD.un (h : PD x m o R G us t c c2 ρ ω Λ S) {k u : Nat} (e : gAR S t k = some u) : isK (own Λ R) 6 u := by
  have z := h.2.2.2.2.2.2.1.1.2 t k h.kt.1
  rw [h.kt.2] at z
  exact z u e
theorem at_in (h : PD x m o R G us t c c2 ρ ω Λ S) (hc : c ≤ 16) {k u : Nat} {p : Int32} (hk : k < c) (e : p = nI k) (hu : gAR S t k = some u) : F_X7_at Λ.2.2 S us p = if gFI S 247 u = 0 then some none else some (some u) := by
  have h280 := h.2.2.2.2.2.2.2.2.2.1
  have hlen := h.2.2.2.2.2.2.2.2.2.2.1
  subst e
  unfold F_X7_at
  rw [if_neg (nI_pos (by omega)), h.e1, if_neg (fun z => absurd ((nI_leI (by omega) (by omega)).mp z) (by omega))]
  simp only [bnd, h280, Option.bind_some, hlen]
  rw [if_pos ((nI_ltI (by omega) (by omega)).mpr (by omega)), n_gi (by omega) (by omega), n_cl (by omega), hu]
  rfl
theorem at_out (h : PD x m o R G us t c c2 ρ ω Λ S) (hc : c ≤ 16) {p : Int32} (hn : ∀ k, k < c → p ≠ nI k) : F_X7_at Λ.2.2 S us p = some none := by
  unfold F_X7_at
  by_cases a : p < 0
  · rw [if_pos a]
  · obtain ⟨j, hj, rfl⟩ := nI_of a
    rw [if_neg a, h.e1, if_pos ((nI_leI (by omega) hj).mpr (Nat.le_of_not_lt (fun z => hn j z rfl)))]
theorem at_none (h : PD x m o R G us t c c2 ρ ω Λ S) (hc : c ≤ 16) (hF : CF S t c F) {p : Int32} (e : uo c F.1 p = none) : F_X7_at Λ.2.2 S us p = some none := by
  by_cases a : ∃ k, k < c ∧ p = nI k
  · obtain ⟨k, hk, ek⟩ := a
    obtain ⟨u, hu, h1, -⟩ := hF k hk
    rw [at_in h hc hk ek hu, if_pos (h1.mpr (uo_none e hk hc ek))]
  · exact at_out h hc (fun k hk ek => a ⟨k, hk, ek⟩)
theorem at_some (h : PD x m o R G us t c c2 ρ ω Λ S) (hc : c ≤ 16) (hF : CF S t c F) {p : Int32} {k : Nat} (e : uo c F.1 p = some k) : ∃ u, gAR S t k = some u ∧ F_X7_at Λ.2.2 S us p = some (some u) ∧ gFI S 247 u ≠ 0 ∧ gFI S 248 u = F.2.1 k ∧ gFI S 249 u = F.2.2 k := by
  obtain ⟨ep, hk, hT, -⟩ := uo_some e
  obtain ⟨u, hu, h1, h2⟩ := hF k hk
  have h3 : gFI S 247 u ≠ 0 := fun z => by rw [h1.mp z] at hT; cases hT
  exact ⟨u, hu, by rw [at_in h hc hk ep hu, if_neg h3], h3, (h2 hT).1, (h2 hT).2⟩
theorem there_loop (h : PD x m o R G us t c c2 ρ ω Λ S) (hc : c ≤ 16) (hF : CF S t c F) : ∀ (d k n : Nat), k + d = c → d < n → L_X7_thereNow_4 Λ.2.2 S n us (nI (cb F.1 k)) (nI k) = some (nI (cb F.1 c))
  | d, k, 0, _, h2 => absurd h2 (Nat.not_lt_zero d)
  | 0, k, n + 1, h1, _ => by
    show Y_X7_thereNow_4 Λ.2.2 S (L_X7_thereNow_4 Λ.2.2 S n) us _ _ = _
    unfold Y_X7_thereNow_4
    rw [h.e1, if_pos ((nI_leI (by omega) (by omega)).mpr (by omega))]
    have e : k = c := by omega
    rw [e]
  | d + 1, k, n + 1, h1, h2 => by
    show Y_X7_thereNow_4 Λ.2.2 S (L_X7_thereNow_4 Λ.2.2 S n) us _ _ = _
    have hk : k < c := by omega
    obtain ⟨u, hu, g1, -⟩ := hF k hk
    have ih := there_loop h hc hF d (k + 1) n (by omega) (by omega)
    unfold Y_X7_thereNow_4
    rw [h.e1, if_neg (fun z => absurd ((nI_leI (by omega) (by omega)).mp z) (by omega)), at_in h hc hk rfl hu]
    by_cases z : gFI S 247 u = 0
    · rw [if_pos z]
      have e1 : cb F.1 (k + 1) = cb F.1 k := by
        show cb F.1 k + _ = _
        rw [if_neg (by rw [g1.mp z]; decide)]
        rfl
      rw [e1] at ih
      rw [← ih, ← n_a1]
      rfl
    · rw [if_neg z]
      have e1 : cb F.1 (k + 1) = cb F.1 k + 1 := by
        show cb F.1 k + _ = _
        rw [if_pos (bt_of (fun y => z (g1.mpr y)))]
      rw [e1] at ih
      rw [← ih, ← n_a1, ← n_a1]
      rfl
theorem there_val (h : PD x m o R G us t c c2 ρ ω Λ S) (hc : c ≤ 16) (hF : CF S t c F) : F_X7_thereNow Λ.2.2 S us = some (nI (cb F.1 c)) :=
  there_loop h hc hF c 0 FU (by omega) (by have := FU_big; omega)
/-- what a unit made is made by none: the class -/
theorem free_loop (h : PD x m o R G us t c c2 ρ ω Λ S) (hc : c ≤ 16) (hF : CF S t c F) (p : Int32) : ∀ (d k n : Nat) (S1 : sSt), k + d = c → d < n → Sh (S, nfz [249], ρ, nfz []) (own Λ R) S1 →
    (∀ j u, j < k → gAR S t j = some u → F.1 j = true → gFI S1 249 u = freeF F.2.2 p j) → (∀ j u, k ≤ j → j < c → gAR S t j = some u → gFI S1 249 u = gFI S 249 u) →
    T (L_X7_freeFrom_2 Λ.2.2 n S1 us p (nI k)) (fun r : sSt => Sh (S, nfz [249], ρ, nfz []) (own Λ R) r ∧ CF r t c (F.1, F.2.1, freeF F.2.2 p))
  | d, k, 0, _, _, h2, _, _, _ => absurd h2 (Nat.not_lt_zero d)
  | 0, k, n + 1, S1, h1, _, g, ga, _ => by
    show T (Y_X7_freeFrom_2 Λ.2.2 (L_X7_freeFrom_2 Λ.2.2 n) S1 us p (nI k)) _
    have hp := h.clz g rfl rfl
    unfold Y_X7_freeFrom_2
    rw [hp.e1, if_pos ((nI_leI (by omega) (by omega)).mpr (by omega))]
    refine T_some ⟨g, fun j hj => ?_⟩
    obtain ⟨u, hu, g1, g2⟩ := hF j hj
    refine ⟨u, (h.row g j).trans hu, ?_, fun z => ⟨?_, ga j u (by omega) hu z⟩⟩
    · rw [(g.2.2.2.2.2.2.2.1 247 rfl u).1]; exact g1
    · rw [(g.2.2.2.2.2.2.2.1 248 rfl u).1]; exact (g2 z).1
  | d + 1, k, n + 1, S1, h1, h2, g, ga, gb2 => by
    show T (Y_X7_freeFrom_2 Λ.2.2 (L_X7_freeFrom_2 Λ.2.2 n) S1 us p (nI k)) _
    have hp := h.clz g rfl rfl
    have hk : k < c := by omega
    obtain ⟨u, hu, g1, g2⟩ := hF k hk
    have hu1 : gAR S1 t k = some u := (h.row g k).trans hu
    have e7 : gFI S1 247 u = gFI S 247 u := (g.2.2.2.2.2.2.2.1 247 rfl u).1
    have e9 : gFI S1 249 u = gFI S 249 u := gb2 k u (Nat.le_refl k) hk hu
    have tu := h.un hu
    unfold Y_X7_freeFrom_2
    rw [hp.e1, if_neg (fun z => absurd ((nI_leI (by omega) (by omega)).mp z) (by omega)), at_in hp hc hk rfl hu1, e7]
    have rest : ∀ j u2, j ≠ k → j < c → gAR S t j = some u2 → u2 ≠ u := fun j u2 hj hjc hj2 e => hj (h.inj (by omega) (by omega) hj2 (by rw [e]; exact hu))
    have keep : gFI S1 249 u = freeF F.2.2 p k ∨ F.1 k = false → T (L_X7_freeFrom_2 Λ.2.2 n S1 us p (nI k + 1)) (fun r : sSt => Sh (S, nfz [249], ρ, nfz []) (own Λ R) r ∧ CF r t c (F.1, F.2.1, freeF F.2.2 p)) := fun hkk => by
      rw [n_a1]
      refine free_loop h hc hF p d (k + 1) n S1 (by omega) (by omega) g (fun j u2 hj hj2 hT => ?_) (fun j u2 hj => gb2 j u2 (by omega))
      by_cases cj : j = k
      · subst cj
        rw [hu] at hj2
        cases hj2
        exact hkk.elim id (fun z => by rw [z] at hT; cases hT)
      · exact ga j u2 (by omega) hj2 hT
    by_cases z : gFI S 247 u = 0
    · rw [if_pos z]
      exact keep (Or.inr (g1.mp z))
    · rw [if_neg z]
      have hT : F.1 k = true := bt_of (fun y => z (g1.mpr y))
      have hM : gFI S 249 u = F.2.2 k := (g2 hT).2
      show T (if gFI S1 249 u = p then _ else _) _
      rw [e9, hM]
      by_cases zp : F.2.2 k = p
      · rw [if_pos zp]
        show T (L_X7_freeFrom_2 Λ.2.2 n (sFI S1 249 u (-5)) us p (nI k + 1)) _
        rw [n_a1]
        refine free_loop h hc hF p d (k + 1) n (sFI S1 249 u (-5)) (by omega) (by omega) (g.sFI 249 tu (-5) rfl (fun h => absurd h (by decide))) (fun j u2 hj hj2 hT2 => ?_) (fun j u2 hj hjc hj2 => ?_)
        · rw [gFI_sFI]
          by_cases cj : j = k
          · subst cj
            rw [hu] at hj2
            cases hj2
            rw [if_pos ⟨rfl, rfl⟩]
            unfold freeF
            rw [if_pos zp]
          · rw [if_neg (fun y => rest j u2 cj (by omega) hj2 y.2)]
            exact ga j u2 (by omega) hj2 hT2
        · rw [gFI_sFI, if_neg (fun y => rest j u2 (by omega) hjc hj2 y.2)]
          exact gb2 j u2 (by omega) hjc hj2
      · rw [if_neg zp]
        refine keep (Or.inl ?_)
        unfold freeF
        rw [if_neg zp, e9, hM]
theorem free_spec (h : PD x m o R G us t c c2 ρ ω Λ S) (hc : c ≤ 16) (hF : CF S t c F) (p : Int32) : T (F_X7_freeFrom Λ.2.2 S us p) (fun r : sSt => Sh (S, nfz [249], ρ, nfz []) (own Λ R) r ∧ CF r t c (F.1, F.2.1, freeF F.2.2 p)) :=
  free_loop h hc hF p c 0 FU S (by omega) (by have := FU_big; omega) (h.shz _ _) (fun j u hj => absurd hj (Nat.not_lt_zero j)) (fun _ _ _ _ _ => rfl)
end
section
variable {m c : Nat} {G : Nat → Nat} {Λ : sLay} {Z S S1 : sSt} {F : aF}
/-! the reference -/
theorem isU_val (hS : MC m G Λ Z S) (hc : c ≤ 16) (ec : gFI S 361 m = nI c) (hF : ∀ k, k < c → (gAI S (G 362) k = 0 ↔ F.1 k = false)) (p : Int32) : F_X9_isUnit Λ.2.2 S m p = some (if uo c F.1 p = none then 0 else 1) := by
  unfold F_X9_isUnit F_X9_in
  have e0 : gFI S 361 m - 1 = nI c - 1 := by rw [ec]
  by_cases a : p < 0
  · have e1 : uo c F.1 p = none := by unfold uo; rw [if_pos a]
    rw [if_pos a, e1]
    rfl
  · obtain ⟨j, hj, rfl⟩ := nI_of a
    rw [if_neg a, ec]
    by_cases hjc : j < c
    · have hn : ¬ (nI c - 1 < nI j) := by
        rw [n_s1 (by omega), nI_ltI (by omega) hj]
        omega
      rw [if_neg hn]
      rw [Option.bind_some, if_neg (by decide : ¬ (1 : Int32) = 0)]
      simp only [bnd, hS.rf (f := 362) (by decide), Option.bind_some, hS.l (f := 362) (kd := 12) (n := 16) (by decide)]
      rw [n_gi (by omega) (by omega), n_cl hj]
      by_cases z : gAI S (G 362) j = 0
      · have hT := (hF j hjc).mp z
        have e1 : uo c F.1 (nI j) = none := by
          unfold uo
          rw [if_neg a, n_cl hj, if_neg (fun y => by rw [hT] at y; cases y.2)]
        rw [if_pos z, e1]
        rfl
      · have hT : F.1 j = true := bt_of (fun y => z ((hF j hjc).mpr y))
        have e1 : uo c F.1 (nI j) = some j := by
          unfold uo
          rw [if_neg a, n_cl hj, if_pos ⟨hjc, hT⟩]
        rw [if_neg z, e1]
        rfl
    · have hn : nI c - 1 < nI j := by
        rcases Nat.eq_zero_or_pos c with h0 | h0
        · rw [h0, Int32.lt_iff_toInt_lt, nI_toInt hj]
          have e1 : ((nI 0 : Int32) - 1).toInt = -1 := rfl
          omega
        · rw [n_s1 h0, nI_ltI (by omega) hj]
          omega
      have e1 : uo c F.1 (nI j) = none := by
        unfold uo
        rw [if_neg a, n_cl hj, if_neg (fun y => hjc y.1)]
      rw [if_pos hn, e1]
      rfl
theorem thr_eq (hF : ∀ k, k < c → (gAI S (G 362) k = 0 ↔ F.1 k = false)) : thr G S c = cb F.1 c := by
  unfold thr
  refine cb_eq c (fun i hi => ?_)
  by_cases z : gAI S (G 362) i = 0
  · rw [(hF i hi).mp z]
    exact decide_eq_false (fun y => y z)
  · rw [bt_of (fun y => z ((hF i hi).mpr y))]
    exact decide_eq_true z
theorem uT_val {Y : gY} (hS : MI m G Λ Y S) (hc : c ≤ 16) (ec : gFI S 361 m = nI c) (hF : ∀ k, k < c → (gAI S (G 362) k = 0 ↔ F.1 k = false)) : F_X9_unitsThere Λ.2.2 S m = some (nI (cb F.1 c)) := by
  obtain ⟨r, e, c', hc', ec', er⟩ := tF_X9_unitsThere S hS
  have e2 : c' = c := by
    rw [ec] at ec'
    exact ((nI_eq (by omega) (by omega)).mp ec').symm
  rw [e, er, e2, thr_eq hF]
theorem RF.fz {fz : Nat → Bool} {Z : sSt} (hF : RF G S c F) (g : MI m G Λ (Z, S, fz) S1) (f2 : fz 362 = true) (f3 : fz 373 = true) (f4 : fz 374 = true) : RF G S1 c F := fun k hk => by
  obtain ⟨h1, h2⟩ := hF k hk
  rw [((g.2 362 f2).2 rfl k).1, ((g.2 373 f3).2 rfl k).1, ((g.2 374 f4).2 rfl k).1]
  exact ⟨h1, h2⟩
theorem rfree_loop {Y : gY} (hc : c ≤ 16) (ec : gFI S 361 m = nI c) (p : Int32) (w374 : Y.2.2 374 = false) : ∀ (d k n : Nat) (S1 : sSt), k + d = c → d < n → MI m G Λ Y S1 → gFI S1 361 m = nI c →
    (∀ j, j < k → gAI S1 (G 374) j = freeF (fun i => gAI S (G 374) i) p j) → (∀ j, k ≤ j → gAI S1 (G 374) j = gAI S (G 374) j) →
    T (L_X9_frees_2 Λ.2.2 n S1 m p (nI k)) (fun r : sSt => MI m G Λ Y r ∧ ∀ j, j < c → gAI r (G 374) j = freeF (fun i => gAI S (G 374) i) p j)
  | d, k, 0, _, _, h2, _, _, _, _ => absurd h2 (Nat.not_lt_zero d)
  | 0, k, n + 1, S1, h1, _, g, e1, ga, _ => by
    show T (Y_X9_frees_2 Λ.2.2 (L_X9_frees_2 Λ.2.2 n) S1 m p (nI k)) _
    unfold Y_X9_frees_2
    rw [e1, if_pos ((nI_leI (by omega) (by omega)).mpr (by omega))]
    exact T_some ⟨g, fun j hj => ga j (by omega)⟩
  | d + 1, k, n + 1, S1, h1, h2, g, e1, ga, gb2 => by
    show T (Y_X9_frees_2 Λ.2.2 (L_X9_frees_2 Λ.2.2 n) S1 m p (nI k)) _
    unfold Y_X9_frees_2
    rw [e1, if_neg (fun z => absurd ((nI_leI (by omega) (by omega)).mp z) (by omega))]
    have step : ∀ v : Int32, oB 15 v → v = freeF (fun i => gAI S (G 374) i) p k → T (B_X9_frees_36 Λ.2.2 (L_X9_frees_2 Λ.2.2 n) S1 m p (nI k) v (nI k) (some (G 374))) (fun r : sSt => MI m G Λ Y r ∧ ∀ j, j < c → gAI r (G 374) j = freeF (fun i => gAI S (G 374) i) p j) := fun v ho hv => by
      unfold B_X9_frees_36
      refine T_bsome (T_gi (g_in (g.c.l (f := 374) (kd := 10) (n := 16) (by decide)) rfl (by omega) (by omega)) ?_)
      refine T_st (fun S7 e7 => ?_)
      have h7 : MI m G Λ Y S7 := by rw [e7]; exact g.wI (f := 374) (by decide) w374 (rg0 (P := fun B => nB B _) (by decide)) (rg2 (B := 15) (by decide) ho)
      have c7 : ∀ j, gAI S7 (G 374) j = if j = k then v else gAI S1 (G 374) j := fun j => by
        rw [e7, gAI_sAI, n_cl (by omega)]
        by_cases cj : j = k
        · rw [if_pos ⟨rfl, cj⟩, if_pos cj]
        · rw [if_neg (fun z => cj z.2), if_neg cj]
      show T (L_X9_frees_2 Λ.2.2 n S7 m p (nI k + 1)) _
      rw [n_a1]
      refine rfree_loop hc ec p w374 d (k + 1) n S7 (by omega) (by omega) h7 (by rw [e7]; exact e1) (fun j hj => ?_) (fun j hj => ?_)
      · rw [c7]
        by_cases cj : j = k
        · rw [if_pos cj, cj]; exact hv
        · rw [if_neg cj]; exact ga j (by omega)
      · rw [c7, if_neg (by omega)]
        exact gb2 j (by omega)
    have ek : gAI S1 (G 374) k = gAI S (G 374) k := gb2 k (Nat.le_refl k)
    refine T_m (g.c.rf (f := 374) (by decide)) (T_m (g.c.rf (f := 374) (by decide)) (T_bsome (T_gi (g_in (g.c.l (f := 374) (kd := 10) (n := 16) (by decide)) rfl (by omega) (by omega)) ?_)))
    rw [n_cl (by omega), ek]
    by_cases z : gAI S (G 374) k = p
    · rw [if_pos z]
      exact step (-5) (Or.inl rfl) (by unfold freeF; rw [if_pos z])
    · rw [if_neg z]
      refine T_m (g.c.rf (f := 374) (by decide)) (T_bsome (T_gi (g_in (g.c.l (f := 374) (kd := 10) (n := 16) (by decide)) rfl (by omega) (by omega)) ?_))
      refine step _ (g.c.o (f := 374) (B := 15) (by decide) k) (by rw [ek]; unfold freeF; rw [if_neg z])
theorem rfree_spec {Y : gY} (hS : MI m G Λ Y S) (hc : c ≤ 16) (ec : gFI S 361 m = nI c) (w374 : Y.2.2 374 = false) (p : Int32) : T (F_X9_frees Λ.2.2 S m p) (fun r : sSt => MI m G Λ Y r ∧ ∀ j, j < c → gAI r (G 374) j = freeF (fun i => gAI S (G 374) i) p j) :=
  rfree_loop hc ec p w374 c 0 FU S (by omega) (by have := FU_big; omega) hS ec (fun j hj => absurd hj (Nat.not_lt_zero j)) (fun _ _ => rfl)
end
def up1 {α : Type} (f : Nat → α) (k : Nat) (v : α) (j : Nat) : α := if j = k then v else f j
theorem up1_s {α : Type} {f : Nat → α} {k : Nat} {v : α} : up1 f k v k = v := if_pos rfl
theorem up1_n {α : Type} {f : Nat → α} {k j : Nat} {v : α} (h : j ≠ k) : up1 f k v j = f j := if_neg h
/-- readers are made by none -/
def FI (c : Nat) (F : aF) : Prop := ∀ k, k < c → F.1 k = true → F.2.1 k ≠ 0 → F.2.2 k = -5
def aReader (c : Nat) (F : aF) (p q : Int32) : Int32 × aF := match uo c F.1 p with
  | none => (-1, F)
  | some k => if F.2.2 k = -5 then ((if F.2.1 k = 0 then 0 else 1), (F.1, up1 F.2.1 k q, if q = 0 then freeF F.2.2 p else F.2.2)) else (-3, F)
def aGen (c : Nat) (F : aF) (p q : Int32) : aF := match uo c F.1 p with
  | none => F
  | some k => if q = -5 then (F.1, F.2.1, up1 F.2.2 k (-5)) else match uo c F.1 q with
    | none => F
    | some j => if F.2.1 j = 0 then F else if F.2.1 k = 0 then (F.1, F.2.1, up1 F.2.2 k q) else F
def aRem (c : Nat) (F : aF) (p : Int32) : Int32 × aF := match uo c F.1 p with
  | none => (-1, F)
  | some k => (nI (cb (up1 F.1 k false) c), (up1 F.1 k false, F.2.1, freeF F.2.2 p))
section
variable {x m o us t c c2 : Nat} {R : List Nat} {G : Nat → Nat} {ρ ω : Nat → Nat} {Λ : sLay} {S S1 : sSt} {F : aF}
/-! the class's calls -/
theorem CF.set8 (h : PD x m o R G us t c c2 ρ ω Λ S) (hc : c ≤ 16) (hF : CF S t c F) {k u : Nat} (hk : k < c) (hu : gAR S t k = some u) (v : Int32) : CF (sFI S 248 u v) t c (F.1, up1 F.2.1 k v, F.2.2) := fun j hj => by
  obtain ⟨u2, hu2, h1, h2⟩ := hF j hj
  refine ⟨u2, hu2, ?_, fun z => ?_⟩
  · rw [gFI_sFI, if_neg (fun z => absurd z.1 (by decide))]; exact h1
  · rw [gFI_sFI, gFI_sFI, if_neg (fun z : 249 = 248 ∧ _ => absurd z.1 (by decide))]
    refine ⟨?_, (h2 z).2⟩
    by_cases cj : j = k
    · subst cj
      rw [hu] at hu2
      cases hu2
      rw [if_pos ⟨rfl, rfl⟩]
      exact up1_s.symm
    · rw [if_neg (fun y => cj (h.inj (by omega) (by omega) hu2 (by rw [y.2]; exact hu)))]
      exact (h2 z).1.trans (up1_n cj).symm
theorem CF.set9 (h : PD x m o R G us t c c2 ρ ω Λ S) (hc : c ≤ 16) (hF : CF S t c F) {k u : Nat} (hk : k < c) (hu : gAR S t k = some u) (v : Int32) : CF (sFI S 249 u v) t c (F.1, F.2.1, up1 F.2.2 k v) := fun j hj => by
  obtain ⟨u2, hu2, h1, h2⟩ := hF j hj
  refine ⟨u2, hu2, ?_, fun z => ?_⟩
  · rw [gFI_sFI, if_neg (fun z => absurd z.1 (by decide))]; exact h1
  · rw [gFI_sFI, gFI_sFI, if_neg (fun z : 248 = 249 ∧ _ => absurd z.1 (by decide))]
    refine ⟨(h2 z).1, ?_⟩
    by_cases cj : j = k
    · subst cj
      rw [hu] at hu2
      cases hu2
      rw [if_pos ⟨rfl, rfl⟩]
      exact up1_s.symm
    · rw [if_neg (fun y => cj (h.inj (by omega) (by omega) hu2 (by rw [y.2]; exact hu)))]
      exact (h2 z).2.trans (up1_n cj).symm
theorem CF.set7 (h : PD x m o R G us t c c2 ρ ω Λ S) (hc : c ≤ 16) (hF : CF S t c F) {k u : Nat} (hk : k < c) (hu : gAR S t k = some u) : CF (sFI S 247 u 0) t c (up1 F.1 k false, F.2.1, F.2.2) := fun j hj => by
  obtain ⟨u2, hu2, h1, h2⟩ := hF j hj
  refine ⟨u2, hu2, ?_, fun z => ?_⟩
  · rw [gFI_sFI]
    by_cases cj : j = k
    · subst cj
      rw [hu] at hu2
      cases hu2
      rw [if_pos ⟨rfl, rfl⟩]
      exact ⟨fun _ => up1_s, fun _ => rfl⟩
    · rw [if_neg (fun y => cj (h.inj (by omega) (by omega) hu2 (by rw [y.2]; exact hu)))]
      show _ ↔ up1 F.1 k false j = false
      rw [up1_n cj]
      exact h1
  · rw [gFI_sFI, gFI_sFI, if_neg (fun z : 249 = 247 ∧ _ => absurd z.1 (by decide)), if_neg (fun z : 248 = 247 ∧ _ => absurd z.1 (by decide))]
    have z' : up1 F.1 k false j = true := z
    by_cases cj : j = k
    · rw [cj, up1_s] at z'
      cases z'
    · rw [up1_n cj] at z'
      exact h2 z'
theorem reader_c (h : PD x m o R G us t c c2 ρ ω Λ S) (hc : c ≤ 16) (hF : CF S t c F) (p q : Int32) (hq : q = 0 ∨ q = 1) : T (F_X8_reader Λ.2.2 S x p q) (fun r : Int32 × sSt => r.1 = (aReader c F p q).1 ∧ Sh (S, nfz [248, 249], ρ, nfz []) (own Λ R) r.2 ∧ CF r.2 t c (aReader c F p q).2) := by
  have h320 := h.2.2.2.2.2.2.2.2.1
  unfold F_X8_reader aReader
  refine T_bndE h320 (T_bsome ?_)
  cases e : uo c F.1 p with
  | none =>
    rw [at_none h hc hF e]
    exact T_bsome (T_onlN (T_some ⟨rfl, h.shz _ _, hF⟩))
  | some k =>
    obtain ⟨u, hu, ea, h7, h8, h9⟩ := at_some h hc hF e
    obtain ⟨ep, hk, hT, -⟩ := uo_some e
    have tu := h.un hu
    rw [ea]
    refine T_bsome (T_onlS ?_)
    have main : ∀ s0 : Int32, T (B_X8_reader_39 Λ.2.2 S x p q u s0) (fun r : Int32 × sSt => r.1 = s0 ∧ Sh (S, nfz [248, 249], ρ, nfz []) (own Λ R) r.2 ∧ CF r.2 t c (F.1, up1 F.2.1 k q, if q = 0 then freeF F.2.2 p else F.2.2)) := fun s0 => by
      unfold B_X8_reader_39
      refine T_gb hq (T_bnd ?_)
      have g6 : Sh (S, nfz [248, 249], ρ, nfz []) (own Λ R) (sFI S 248 u q) := (h.shz _ _).sFI 248 tu q rfl (fun h => absurd h (by decide))
      have c6 := CF.set8 h hc hF hk hu q
      have p6 := h.clz g6 rfl rfl
      refine T_ite (fun z => ?_) (fun z => ?_)
      · refine T_bndE (b := us) h320 (T_bsome (T_bind (free_spec p6 hc c6 p) (fun S10 r10 => T_some ⟨rfl, g6.up r10.1 (nfz_sub (by decide)) (nfz_sub (by decide)), ?_⟩)))
        rw [if_pos z]
        exact r10.2
      · refine T_some ⟨rfl, g6, ?_⟩
        rw [if_neg z]
        exact c6
    show T _ (fun r : Int32 × sSt => r.1 = (if F.2.2 k = -5 then ((if F.2.1 k = 0 then 0 else 1), (F.1, up1 F.2.1 k q, if q = 0 then freeF F.2.2 p else F.2.2)) else (-3, F) : Int32 × aF).1 ∧ Sh (S, nfz [248, 249], ρ, nfz []) (own Λ R) r.2 ∧ CF r.2 t c (if F.2.2 k = -5 then ((if F.2.1 k = 0 then 0 else 1), (F.1, up1 F.2.1 k q, if q = 0 then freeF F.2.2 p else F.2.2)) else (-3, F) : Int32 × aF).2)
    rw [h9, h8]
    by_cases z : F.2.2 k = -5
    · rw [if_pos z, if_pos z]
      by_cases z2 : F.2.1 k = 0
      · rw [if_pos z2, if_pos z2]; exact main 0
      · rw [if_neg z2, if_neg z2]; exact main 1
    · rw [if_neg z, if_neg z]
      exact T_some ⟨rfl, h.shz _ _, hF⟩
theorem gen_c (h : PD x m o R G us t c c2 ρ ω Λ S) (hc : c ≤ 16) (hF : CF S t c F) (hI : FI c F) (p q : Int32) : T (F_X8_generated Λ.2.2 S x p q) (fun r : Int32 × sSt => Sh (S, nfz [249], ρ, nfz []) (own Λ R) r.2 ∧ CF r.2 t c (aGen c F p q)) := by
  have h320 := h.2.2.2.2.2.2.2.2.1
  unfold F_X8_generated aGen
  refine T_bndE h320 (T_bsome ?_)
  cases e : uo c F.1 p with
  | none =>
    rw [at_none h hc hF e]
    refine T_bsome (T_bndE h320 (T_bsome ?_))
    cases e2 : uo c F.1 q with
    | none => rw [at_none h hc hF e2]; exact T_bsome (T_onlN (T_some ⟨h.shz _ _, hF⟩))
    | some j =>
      obtain ⟨u2, -, ea2, -⟩ := at_some h hc hF e2
      rw [ea2]; exact T_bsome (T_onlN (T_some ⟨h.shz _ _, hF⟩))
  | some k =>
    obtain ⟨u, hu, ea, h7, h8, h9⟩ := at_some h hc hF e
    obtain ⟨ep, hk, hT, -⟩ := uo_some e
    have tu := h.un hu
    rw [ea]
    refine T_bsome (T_bndE h320 (T_bsome ?_))
    have fin : ∀ v : Int32, T (B_X8_generated_59 Λ.2.2 S v u) (fun r : Int32 × sSt => Sh (S, nfz [249], ρ, nfz []) (own Λ R) r.2 ∧ CF r.2 t c (F.1, F.2.1, up1 F.2.2 k v)) := fun v => by
      unfold B_X8_generated_59
      exact T_bnd (T_some ⟨(h.shz _ _).sFI 249 tu v rfl (fun h => absurd h (by decide)), CF.set9 h hc hF hk hu v⟩)
    cases e2 : uo c F.1 q with
    | none =>
      rw [at_none h hc hF e2]
      refine T_bsome (T_onlS (T_onlN ?_))
      show T _ (fun r : Int32 × sSt => Sh (S, nfz [249], ρ, nfz []) (own Λ R) r.2 ∧ CF r.2 t c (if q = -5 then (F.1, F.2.1, up1 F.2.2 k (-5)) else F))
      by_cases z : q = -5
      · rw [if_pos z, if_pos z]
        unfold B_X8_generated_36
        rw [h8]
        by_cases z2 : F.2.1 k = 0
        · rw [if_pos z2]
          refine T_onlN ?_
          rw [z]
          exact fin (-5)
        · rw [if_neg z2]
          refine T_some ⟨h.shz _ _, fun j hj => ?_⟩
          obtain ⟨u2, hu2, g1, g2⟩ := hF j hj
          refine ⟨u2, hu2, g1, fun y => ⟨(g2 y).1, ?_⟩⟩
          by_cases cj : j = k
          · subst cj
            exact ((g2 y).2.trans (hI j hj y z2)).trans up1_s.symm
          · exact (g2 y).2.trans (up1_n cj).symm
      · rw [if_neg z, if_neg z]
        exact T_some ⟨h.shz _ _, hF⟩
    | some j =>
      obtain ⟨u2, hu2, ea2, -, k8, -⟩ := at_some h hc hF e2
      obtain ⟨eq2, hj, hTj, hjb⟩ := uo_some e2
      have nq : q ≠ -5 := fun z => absurd (eq2.symm.trans z) (ne5 hjb)
      rw [ea2]
      refine T_bsome (T_onlS (T_onlS ?_))
      show T _ (fun r : Int32 × sSt => Sh (S, nfz [249], ρ, nfz []) (own Λ R) r.2 ∧ CF r.2 t c (if q = -5 then (F.1, F.2.1, up1 F.2.2 k (-5)) else if F.2.1 j = 0 then F else if F.2.1 k = 0 then (F.1, F.2.1, up1 F.2.2 k q) else F))
      rw [if_neg nq]
      unfold B_X8_generated_36
      rw [h8]
      by_cases z2 : F.2.1 k = 0
      · rw [if_pos z2, if_pos z2]
        refine T_onlS ?_
        rw [k8]
        by_cases z3 : F.2.1 j = 0
        · rw [if_pos z3, if_pos z3]; exact T_some ⟨h.shz _ _, hF⟩
        · rw [if_neg z3, if_neg z3]; exact fin q
      · rw [if_neg z2, if_neg z2, ite_self]
        exact T_some ⟨h.shz _ _, hF⟩
theorem rem_c (h : PD x m o R G us t c c2 ρ ω Λ S) (hc : c ≤ 16) (hF : CF S t c F) (p : Int32) : T (F_X8_remove Λ.2.2 S x p) (fun r : Int32 × sSt => r.1 = (aRem c F p).1 ∧ Sh (S, nfz [41, 247, 249], ρ, nfz [241, 1241, 2241]) (own Λ R) r.2 ∧ CF r.2 t c (aRem c F p).2) := by
  have h320 := h.2.2.2.2.2.2.2.2.1
  unfold F_X8_remove aRem
  refine T_bndE h320 (T_bsome ?_)
  cases e : uo c F.1 p with
  | none =>
    rw [at_none h hc hF e]
    exact T_bsome (T_onlN (T_some ⟨rfl, h.shz _ _, hF⟩))
  | some k =>
    obtain ⟨u, hu, ea, h7, h8, h9⟩ := at_some h hc hF e
    obtain ⟨ep, hk, hT, -⟩ := uo_some e
    have tu := h.un hu
    rw [ea]
    refine T_bsome (T_onlS (T_bndE h320 (T_bsome ?_)))
    have g4 : Sh (S, nfz [41, 247, 249], ρ, nfz [241, 1241, 2241]) (own Λ R) (sFI S 247 u 0) := (h.shz _ _).sFI 247 tu 0 rfl (fun h => absurd h (by decide))
    have c4 := CF.set7 h hc hF hk hu
    have p4 := h.clz g4 rfl rfl
    have hd : T (F_X7_dropOne Λ.2.2 S us p) (fun r : sSt => Sh (S, nfz [41, 247, 249], ρ, nfz [241, 1241, 2241]) (own Λ R) r ∧ CF r t c (up1 F.1 k false, F.2.1, freeF F.2.2 p)) := by
      unfold F_X7_dropOne
      rw [ea]
      refine T_bsome (T_onlS (T_bnd (T_bind (free_spec p4 hc c4 p) (fun S6 r6 => ?_))))
      have g6 := g4.up r6.1 (nfz_sub (by decide)) (nfz_sub (by decide))
      have p6 := h.clz g6 rfl rfl
      refine T_mono (tL_X7_dropOne_23 (Z := (S6, nfz [41], ρ, nfz [241, 1241, 2241])) ⟨rfl, rfl, rfl⟩ rfl FU S6 (p6.shz _ _) us h.kus p 0 m31.zero) (fun r hr => ⟨g6.up hr (nfz_sub (by decide)) (nfz_sub (by decide)), CF.fz p6 r6.2 hr rfl rfl rfl⟩)
    refine T_bind hd (fun S9 r9 => ?_)
    have p9 := h.clz r9.1 rfl rfl
    refine T_bndE (b := us) p9.2.2.2.2.2.2.2.2.1 (T_bsome ?_)
    rw [there_val p9 hc r9.2]
    exact T_bsome (T_some ⟨rfl, r9.1, r9.2⟩)
end
section
variable {m c : Nat} {G : Nat → Nat} {Λ : sLay} {S S1 : sSt} {F : aF}
/-! the reference's calls -/
theorem MC.mi (h : MC m G Λ S S) (fz : Nat → Bool) : MI m G Λ (S, S, fz) S := ⟨h, FZ.rf⟩
theorem iU0 {v : Option Nat} : (if v = none then (0 : Int32) else 1) = 0 ↔ v = none := by
  by_cases z : v = none
  · rw [if_pos z]; exact ⟨fun _ => z, fun _ => rfl⟩
  · rw [if_neg z]; exact ⟨fun y => absurd y (by decide), fun y => absurd y z⟩
theorem reader_r (hS : MC m G Λ S S) (hc : c ≤ 16) (ec : gFI S 361 m = nI c) (hF : RF G S c F) (p q : Int32) (hq : q = 0 ∨ q = 1) : T (F_X9_reader Λ.2.2 S m p q) (fun r : Int32 × sSt => r.1 = (aReader c F p q).1 ∧ MI m G Λ (S, S, nfz [360, 373, 374]) r.2 ∧ RF G r.2 c (aReader c F p q).2) := by
  unfold F_X9_reader aReader
  refine T_st (fun S1 e1 => ?_)
  have h1 : MI m G Λ (S, S, nfz [360, 373, 374]) S1 := by rw [e1]; exact (hS.mi _).wF (f := 360) rfl (rg0 (P := fun B => nB B _) (by decide))
  have ec1 : gFI S1 361 m = nI c := by rw [e1, gFI_ne (by decide)]; exact ec
  have hF1 : RF G S1 c F := by rw [e1]; exact hF
  rw [isU_val h1.c hc ec1 (fun k hk => (hF1 k hk).1) p]
  refine T_bsome ?_
  cases e : uo c F.1 p with
  | none =>
    rw [if_pos (iU0.mpr rfl)]
    exact T_some ⟨rfl, h1, hF1⟩
  | some k =>
    obtain ⟨ep, hk, hT, -⟩ := uo_some e
    rw [if_neg (fun z => by have := iU0.mp z; cases this)]
    have v4 := ((hF1 k hk).2 hT).2
    have v3 := ((hF1 k hk).2 hT).1
    have i1 := e_clamp ep (by omega)
    refine T_m (h1.c.rf (f := 374) (by decide)) (T_bsome (T_gi (g_in (h1.c.l (f := 374) (kd := 10) (n := 16) (by decide)) ep (by omega) (by omega)) ?_))
    rw [i1, v4]
    have main : ∀ s0 : Int32, T (B_X9_reader_43 Λ.2.2 S1 m p q s0) (fun r : Int32 × sSt => r.1 = s0 ∧ MI m G Λ (S, S, nfz [360, 373, 374]) r.2 ∧ RF G r.2 c (F.1, up1 F.2.1 k q, if q = 0 then freeF F.2.2 p else F.2.2)) := fun s0 => by
      unfold B_X9_reader_43
      refine T_m (h1.c.rf (f := 373) (by decide)) (T_bsome (T_gi (g_in (h1.c.l (f := 373) (kd := 12) (n := 16) (by decide)) ep (by omega) (by omega)) ?_))
      refine T_st (fun S10 e10 => ?_)
      have h10 : MI m G Λ (S, S, nfz [360, 373, 374]) S10 := by rw [e10]; exact h1.wI (f := 373) (by decide) rfl (rg0 (P := fun B => nB B _) (by decide)) (rg0 (P := fun B => oB B _) (by decide))
      have ec10 : gFI S10 361 m = nI c := by rw [e10]; exact ec1
      have c2 : ∀ j, gAI S10 (G 362) j = gAI S1 (G 362) j := fun j => by rw [e10, h1.c.oth (f := 362) (f' := 373) (by decide) (by decide) (by decide)]
      have c4 : ∀ j, gAI S10 (G 374) j = gAI S1 (G 374) j := fun j => by rw [e10, h1.c.oth (f := 374) (f' := 373) (by decide) (by decide) (by decide)]
      have c3 : ∀ j, gAI S10 (G 373) j = if j = k then q else gAI S1 (G 373) j := fun j => by
        rw [e10, gAI_sAI, i1, n_and1 hq]
        by_cases cj : j = k
        · rw [if_pos ⟨rfl, cj⟩, if_pos cj]
        · rw [if_neg (fun z => cj z.2), if_neg cj]
      have r3 : ∀ j, j < c → F.1 j = true → gAI S10 (G 373) j = up1 F.2.1 k q j := fun j hj y => by
        rw [c3]
        unfold up1
        by_cases cj : j = k
        · rw [if_pos cj, if_pos cj]
        · rw [if_neg cj, if_neg cj]; exact ((hF1 j hj).2 y).1
      refine T_ite (fun z => ?_) (fun z => ?_)
      · refine T_bind (rfree_spec (Y := (S, S10, nfz [374])) (h10.loc _) hc ec10 rfl p) (fun S12 r12 => T_some ⟨rfl, h10.up r12.1 (nfz_sub (by decide)), fun j hj => ?_⟩)
        rw [if_pos z, ((r12.1.2 362 rfl).2 rfl j).1, ((r12.1.2 373 rfl).2 rfl j).1, r12.2 j hj, c2]
        refine ⟨(hF1 j hj).1, fun y => ⟨r3 j hj y, ?_⟩⟩
        exact freeF_eq ((c4 j).trans ((hF1 j hj).2 y).2)
      · refine T_some ⟨rfl, h10, fun j hj => ?_⟩
        rw [if_neg z, c2, c4]
        exact ⟨(hF1 j hj).1, fun y => ⟨r3 j hj y, ((hF1 j hj).2 y).2⟩⟩
    show T _ (fun r : Int32 × sSt => r.1 = (if F.2.2 k = -5 then ((if F.2.1 k = 0 then 0 else 1), (F.1, up1 F.2.1 k q, if q = 0 then freeF F.2.2 p else F.2.2)) else (-3, F) : Int32 × aF).1 ∧ MI m G Λ (S, S, nfz [360, 373, 374]) r.2 ∧ RF G r.2 c (if F.2.2 k = -5 then ((if F.2.1 k = 0 then 0 else 1), (F.1, up1 F.2.1 k q, if q = 0 then freeF F.2.2 p else F.2.2)) else (-3, F) : Int32 × aF).2)
    by_cases z : F.2.2 k = -5
    · rw [if_pos z, if_pos z]
      refine T_m (h1.c.rf (f := 373) (by decide)) (T_bsome (T_gi (g_in (h1.c.l (f := 373) (kd := 12) (n := 16) (by decide)) ep (by omega) (by omega)) ?_))
      rw [v3]
      by_cases z2 : F.2.1 k = 0
      · rw [if_pos z2, if_pos z2]; exact main 0
      · rw [if_neg z2, if_neg z2]; exact main 1
    · rw [if_neg z, if_neg z]
      exact T_some ⟨rfl, h1, hF1⟩
theorem gen_r (hS : MC m G Λ S S) (hc : c ≤ 16) (ec : gFI S 361 m = nI c) (hF : RF G S c F) (p q : Int32) : T (F_X9_generated Λ.2.2 S m p q) (fun r : Int32 × sSt => MI m G Λ (S, S, nfz [360, 374]) r.2 ∧ RF G r.2 c (aGen c F p q)) := by
  unfold F_X9_generated aGen
  refine T_st (fun S1 e1 => ?_)
  have h1 : MI m G Λ (S, S, nfz [360, 374]) S1 := by rw [e1]; exact (hS.mi _).wF (f := 360) rfl (rg0 (P := fun B => nB B _) (by decide))
  have ec1 : gFI S1 361 m = nI c := by rw [e1, gFI_ne (by decide)]; exact ec
  have hF1 : RF G S1 c F := by rw [e1]; exact hF
  rw [isU_val h1.c hc ec1 (fun k hk => (hF1 k hk).1) p]
  refine T_bsome ?_
  cases e : uo c F.1 p with
  | none =>
    rw [if_pos (iU0.mpr rfl)]
    exact T_some ⟨h1, hF1⟩
  | some k =>
    obtain ⟨ep, hk, hT, -⟩ := uo_some e
    rw [if_neg (fun z => by have := iU0.mp z; cases this)]
    have i1 := e_clamp ep (by omega)
    have fin : oB 15 q → T (B_X9_generated_56 Λ.2.2 S1 m p q) (fun r : Int32 × sSt => MI m G Λ (S, S, nfz [360, 374]) r.2 ∧ RF G r.2 c (F.1, F.2.1, up1 F.2.2 k q)) := fun hq => by
      unfold B_X9_generated_56
      refine T_m (h1.c.rf (f := 374) (by decide)) (T_bsome (T_gi (g_in (h1.c.l (f := 374) (kd := 10) (n := 16) (by decide)) ep (by omega) (by omega)) ?_))
      refine T_st (fun S6 e6 => ?_)
      have h6 : MI m G Λ (S, S, nfz [360, 374]) S6 := by rw [e6]; exact h1.wI (f := 374) (by decide) rfl (rg0 (P := fun B => nB B _) (by decide)) (rg2 (B := 15) (by decide) hq)
      refine T_some ⟨h6, fun j hj => ?_⟩
      rw [e6, h1.c.oth (f := 362) (f' := 374) (by decide) (by decide) (by decide), h1.c.oth (f := 373) (f' := 374) (by decide) (by decide) (by decide), gAI_sAI, i1]
      refine ⟨(hF1 j hj).1, fun y => ⟨((hF1 j hj).2 y).1, ?_⟩⟩
      show _ = up1 F.2.2 k q j
      unfold up1
      by_cases cj : j = k
      · rw [if_pos ⟨rfl, cj⟩, if_pos cj]
      · rw [if_neg (fun z => cj z.2), if_neg cj]; exact ((hF1 j hj).2 y).2
    show T _ (fun r : Int32 × sSt => MI m G Λ (S, S, nfz [360, 374]) r.2 ∧ RF G r.2 c (if q = -5 then (F.1, F.2.1, up1 F.2.2 k (-5)) else match uo c F.1 q with
      | none => F
      | some j => if F.2.1 j = 0 then F else if F.2.1 k = 0 then (F.1, F.2.1, up1 F.2.2 k q) else F))
    by_cases z : q = -5
    · rw [if_pos z, if_pos z]
      unfold B_X9_generated_29
      rw [if_pos z]
      have := fin (Or.inl z)
      rw [z] at this ⊢
      exact this
    · rw [if_neg z, if_neg z, isU_val h1.c hc ec1 (fun k hk => (hF1 k hk).1) q]
      refine T_bsome ?_
      cases e2 : uo c F.1 q with
      | none =>
        rw [if_pos (iU0.mpr rfl)]
        exact T_some ⟨h1, hF1⟩
      | some j =>
        obtain ⟨eq2, hj, hTj, hjb⟩ := uo_some e2
        rw [if_neg (fun z => by have := iU0.mp z; cases this)]
        unfold B_X9_generated_29
        rw [if_neg z]
        refine T_m (h1.c.rf (f := 373) (by decide)) (T_bsome (T_gi (g_in (h1.c.l (f := 373) (kd := 12) (n := 16) (by decide)) eq2 (by omega) (by omega)) ?_))
        rw [e_clamp eq2 hjb, ((hF1 j hj).2 hTj).1]
        show T _ (fun r : Int32 × sSt => MI m G Λ (S, S, nfz [360, 374]) r.2 ∧ RF G r.2 c (if F.2.1 j = 0 then F else if F.2.1 k = 0 then (F.1, F.2.1, up1 F.2.2 k q) else F))
        by_cases z3 : F.2.1 j = 0
        · rw [if_pos z3, if_pos z3]; exact T_some ⟨h1, hF1⟩
        · rw [if_neg z3, if_neg z3]
          refine T_m (h1.c.rf (f := 373) (by decide)) (T_bsome (T_gi (g_in (h1.c.l (f := 373) (kd := 12) (n := 16) (by decide)) ep (by omega) (by omega)) ?_))
          rw [i1, ((hF1 k hk).2 hT).1]
          by_cases z4 : F.2.1 k = 0
          · rw [if_pos z4, if_pos z4]; exact fin (Or.inr ⟨j, by omega, eq2⟩)
          · rw [if_neg z4, if_neg z4]; exact T_some ⟨h1, hF1⟩
theorem rem_r (hS : MC m G Λ S S) (hc : c ≤ 16) (ec : gFI S 361 m = nI c) (hF : RF G S c F) (p : Int32) : T (F_X9_remove Λ.2.2 S m p) (fun r : Int32 × sSt => r.1 = (aRem c F p).1 ∧ MI m G Λ (S, S, nfz [360, 362, 369, 370, 374]) r.2 ∧ RF G r.2 c (aRem c F p).2) := by
  unfold F_X9_remove aRem
  have hFU := FU_big
  refine T_st (fun S1 e1 => ?_)
  have h1 : MI m G Λ (S, S, nfz [360, 362, 369, 370, 374]) S1 := by rw [e1]; exact (hS.mi _).wF (f := 360) rfl (rg0 (P := fun B => nB B _) (by decide))
  have ec1 : gFI S1 361 m = nI c := by rw [e1, gFI_ne (by decide)]; exact ec
  have hF1 : RF G S1 c F := by rw [e1]; exact hF
  rw [isU_val h1.c hc ec1 (fun k hk => (hF1 k hk).1) p]
  refine T_bsome ?_
  cases e : uo c F.1 p with
  | none =>
    rw [if_pos (iU0.mpr rfl)]
    exact T_some ⟨rfl, h1, hF1⟩
  | some k =>
    obtain ⟨ep, hk, hT, -⟩ := uo_some e
    rw [if_neg (fun z => by have := iU0.mp z; cases this)]
    have i1 := e_clamp ep (by omega)
    refine T_m (h1.c.rf (f := 362) (by decide)) (T_bsome (T_gi (g_in (h1.c.l (f := 362) (kd := 12) (n := 16) (by decide)) ep (by omega) (by omega)) ?_))
    refine T_st (fun S6 e6 => ?_)
    have h6 : MI m G Λ (S, S, nfz [360, 362, 369, 370, 374]) S6 := by rw [e6]; exact h1.wI (f := 362) (by decide) rfl (rg0 (P := fun B => nB B _) (by decide)) (rg0 (P := fun B => oB B _) (by decide))
    have ec6 : gFI S6 361 m = nI c := by rw [e6]; exact ec1
    have c2 : ∀ j, gAI S6 (G 362) j = if j = k then 0 else gAI S1 (G 362) j := fun j => by
      rw [e6, gAI_sAI, i1]
      by_cases cj : j = k
      · rw [if_pos ⟨rfl, cj⟩, if_pos cj]; rfl
      · rw [if_neg (fun z => cj z.2), if_neg cj]
    refine T_bind (rfree_spec (Y := (S, S6, nfz [374])) (h6.loc _) hc ec6 rfl p) (fun S8 r8 => ?_)
    have h8 := h6.up r8.1 (nfz_sub (l := [360, 362, 369, 370, 374]) (by decide))
    have ec8 : gFI S8 361 m = nI c := (r8.1.2 361 rfl).1.trans ec6
    have hF8 : RF G S8 c (up1 F.1 k false, F.2.1, freeF F.2.2 p) := fun j hj => by
      rw [((r8.1.2 362 rfl).2 rfl j).1, ((r8.1.2 373 rfl).2 rfl j).1, r8.2 j hj, c2]
      show (_ ↔ up1 F.1 k false j = false) ∧ (up1 F.1 k false j = true → _)
      unfold up1
      by_cases cj : j = k
      · rw [if_pos cj, if_pos cj]
        exact ⟨⟨fun _ => rfl, fun _ => rfl⟩, fun y => by cases y⟩
      · rw [if_neg cj, if_neg cj]
        refine ⟨(hF1 j hj).1, fun y => ⟨?_, ?_⟩⟩
        · rw [e6, h1.c.oth (f := 373) (f' := 362) (by decide) (by decide) (by decide)]
          exact ((hF1 j hj).2 y).1
        · refine freeF_eq ?_
          show gAI S6 (G 374) j = _
          rw [e6, h1.c.oth (f := 374) (f' := 362) (by decide) (by decide) (by decide)]
          exact ((hF1 j hj).2 y).2
    refine T_mono (tL_X9_remove_29 (Y := (S, S8, nfz [369, 370])) rfl rfl FU S8 (h8.loc _) p _ 0 k0 (by omega) (by omega)) (fun r hr => ?_)
    obtain ⟨hr1, c', hc', ec', er⟩ := hr
    have hFr : RF G r.2 c (up1 F.1 k false, F.2.1, freeF F.2.2 p) := RF.fz (Z := S) hF8 hr1 rfl rfl rfl
    have e2 : c' = c := by
      have z := (hr1.2 361 rfl).1.trans ec8
      rw [z] at ec'
      exact ((nI_eq (by omega) (by omega)).mp ec').symm
    refine ⟨?_, h8.up hr1 (nfz_sub (by decide)), hFr⟩
    rw [er, e2, thr_eq (F := (up1 F.1 k false, F.2.1, freeF F.2.2 p)) (fun j hj => (hFr j hj).1)]
end
