set_option maxHeartbeats 1000000 in
theorem tY_X9_thingOf_5 {m : Nat} {G : Nat → Nat} {Λ : sLay} {Y : gY} (S : sSt) (hS : MI m G Λ Y S) {n : Nat} {rec : Nat → Int32 → Int32 → Int32 → Option Int32} (hrec : ∀ (p1 : Int32) (qp1 : Nat) (ep1 : p1 = nI qp1) (bp1 : qp1 ≤ 15) (p2 : Int32) (p3 : Int32) (qp3 : Nat) (ep3 : p3 = nI qp3) (bp3 : qp3 ≤ 160), (10 * qp1 ≤ qp3) → (161 ≤ qp3 + n) → T (rec m p1 p2 p3) (fun r : Int32 => oB 159 r ∧ (r ≠ -5 → gAI S (G 363) qp1 ≠ 0))) (p1 : Int32) (qp1 : Nat) (ep1 : p1 = nI qp1) (bp1 : qp1 ≤ 15) (p2 : Int32) (p3 : Int32) (qp3 : Nat) (ep3 : p3 = nI qp3) (bp3 : qp3 ≤ 160) (f0 : 10 * qp1 ≤ qp3) (hm : 161 ≤ qp3 + (n + 1)) : T (Y_X9_thingOf_5 Λ.2.2 S rec m p1 p2 p3) (fun r : Int32 => oB 159 r ∧ (r ≠ -5 → gAI S (G 363) qp1 ≠ 0)) := by
  unfold Y_X9_thingOf_5
  refine T_m (hS.c.rf (f := 363) (by decide)) (T_bsome ?_)
  refine T_gi (g_in (hS.c.l (f := 363) (kd := 10) (n := 16) (by decide)) ep1 (by omega) (by omega)) ?_
  obtain ⟨j, gj, ej⟩ := hS.c.n (f := 363) (B := 10) (by decide) (Int32.toNatClampNeg p1)
  have ec := e_clamp ep1 (by omega)
  refine T_ite (fun c => T_some ⟨Or.inl rfl, fun h => absurd rfl h⟩) (fun c => ?_)
  have d := mt (e_le (e_add (e_mul k10 ep1) ej) ep3 (by omega) (by omega)).mpr c
  refine T_m (hS.c.rf (f := 364) (by decide)) (T_bsome ?_)
  refine T_gi (g_in (hS.c.l (f := 364) (kd := 10) (n := 160) (by decide)) ep3 (by omega) (by omega)) ?_
  refine T_ite (fun _ => T_some ⟨Or.inr ⟨qp3, by omega, ep3⟩, fun _ h => ?_⟩) (fun _ => hrec _ qp1 ep1 bp1 _ _ (qp3 + 1) (e_add ep3 k1) (by omega) (by omega) (by omega))
  rw [ec] at ej
  rw [ej] at h
  have h0 := (nI_eq (a := j) (b := 0) (by omega) (by omega)).mp h
  omega
theorem tL_X9_thingOf_5 {m : Nat} {G : Nat → Nat} {Λ : sLay} {Y : gY} (S : sSt) (hS : MI m G Λ Y S) : ∀ (n : Nat) (p1 : Int32) (qp1 : Nat) (ep1 : p1 = nI qp1) (bp1 : qp1 ≤ 15) (p2 : Int32) (p3 : Int32) (qp3 : Nat) (ep3 : p3 = nI qp3) (bp3 : qp3 ≤ 160) (_ : 10 * qp1 ≤ qp3) (_ : 161 ≤ qp3 + n), T (L_X9_thingOf_5 Λ.2.2 S n m p1 p2 p3) (fun r : Int32 => oB 159 r ∧ (r ≠ -5 → gAI S (G 363) qp1 ≠ 0)) := by
  intro n
  induction n with
  | zero =>
    intro p1 qp1 ep1 bp1 p2 p3 qp3 ep3 bp3 f0 hm
    exfalso
    omega
  | succ n ih =>
    intro p1 qp1 ep1 bp1 p2 p3 qp3 ep3 bp3 f0 hm
    exact tY_X9_thingOf_5 S hS (n := n) (rec := L_X9_thingOf_5 Λ.2.2 S n) (hrec := ih) (p1 := p1) (qp1 := qp1) (ep1 := ep1) (bp1 := bp1) (p2 := p2) (p3 := p3) (qp3 := qp3) (ep3 := ep3) (bp3 := bp3) (f0 := f0) (hm := hm)
set_option maxHeartbeats 1000000 in
theorem tF_X9_thingOf {m : Nat} {G : Nat → Nat} {Λ : sLay} {Y : gY} (S : sSt) (hS : MI m G Λ Y S) (p1 : Int32) (qp1 : Nat) (ep1 : p1 = nI qp1) (bp1 : qp1 ≤ 15) (p2 : Int32) : T (F_X9_thingOf Λ.2.2 S m p1 p2) (fun r : Int32 => oB 159 r ∧ (r ≠ -5 → gAI S (G 363) qp1 ≠ 0)) := by
  unfold F_X9_thingOf
  have hFU := FU_big
  exact tL_X9_thingOf_5 S hS FU _ qp1 ep1 (by omega) _ _ (10 * qp1) (e_mul k10 ep1) (by omega) (by omega) (by omega)
theorem L_thingOf_eq {m : Nat} {G : Nat → Nat} {Λ : sLay} {Y : gY} {S S' : sSt} (h : MI m G Λ Y S) (h' : MI m G Λ Y S') (f363 : Y.2.2 363 = true) (f364 : Y.2.2 364 = true) (n : Nat) : ∀ (p1 p2 p3 : Int32), L_X9_thingOf_5 Λ.2.2 S n m p1 p2 p3 = L_X9_thingOf_5 Λ.2.2 S' n m p1 p2 p3 := by
  have h1 : ∀ k, gAI S (G 363) k = gAI S' (G 363) k := fun k => (((h.2 363 f363).2 rfl k).1).trans (((h'.2 363 f363).2 rfl k).1).symm
  have h2 : ∀ k, gAI S (G 364) k = gAI S' (G 364) k := fun k => (((h.2 364 f364).2 rfl k).1).trans (((h'.2 364 f364).2 rfl k).1).symm
  induction n with
  | zero =>
    intro p1 p2 p3
    show (none : Option Int32) = none
    rfl
  | succ n ih =>
    intro p1 p2 p3
    show Y_X9_thingOf_5 Λ.2.2 S (L_X9_thingOf_5 Λ.2.2 S n) m p1 p2 p3 = Y_X9_thingOf_5 Λ.2.2 S' (L_X9_thingOf_5 Λ.2.2 S' n) m p1 p2 p3
    unfold Y_X9_thingOf_5
    simp only [bnd, h.c.rf (f := 363) (by decide), h'.c.rf (f := 363) (by decide), h.c.rf (f := 364) (by decide), h'.c.rf (f := 364) (by decide), Option.bind_some, h1, h2, ih]
theorem F_thingOf_eq {m : Nat} {G : Nat → Nat} {Λ : sLay} {Y : gY} {S S' : sSt} (h : MI m G Λ Y S) (h' : MI m G Λ Y S') (f363 : Y.2.2 363 = true) (f364 : Y.2.2 364 = true) (p1 p2 : Int32) : F_X9_thingOf Λ.2.2 S' m p1 p2 = F_X9_thingOf Λ.2.2 S m p1 p2 := (L_thingOf_eq h h' f363 f364 FU p1 p2 _).symm
set_option maxHeartbeats 1000000 in
theorem tB_X9_find_70 {m : Nat} {G : Nat → Nat} {Λ : sLay} {Y : gY} (S : sSt) (hS : MI m G Λ Y S) {n10 : Nat} {k10 : Nat → Int32 → Int32 → Int32 → Int32 → Option Int32} (hk10 : ∀ (p1 : Int32) (qp1 : Nat) (ep1 : p1 = nI qp1) (bp1 : qp1 ≤ 15) (p2 : Int32) (p3 : Int32) (op3 : oB 159 p3) (p4 : Int32) (qp4 : Nat) (ep4 : p4 = nI qp4) (bp4 : qp4 ≤ 6), (7 ≤ qp4 + n10) → T (k10 m p1 p2 p3 p4) (fun r : Int32 => oB 159 r)) (p1 : Int32) (qp1 : Nat) (ep1 : p1 = nI qp1) (bp1 : qp1 ≤ 15) (p2 : Int32) (p4 : Int32) (qp4 : Nat) (ep4 : p4 = nI qp4) (bp4 : qp4 ≤ 5) (s0 : Int32) (os0 : oB 159 s0) (f0 : 7 ≤ qp4 + n10 + 1) : T (B_X9_find_70 Λ.2.2 S k10 m p1 p2 p4 s0) (fun r : Int32 => oB 159 r) := by
  unfold B_X9_find_70
  exact hk10 _ qp1 ep1 (by omega) _ _ os0 _ (qp4 + 1) (e_add ep4 k1) (by omega) (by omega)
set_option maxHeartbeats 1000000 in
theorem tB_X9_find_68 {m : Nat} {G : Nat → Nat} {Λ : sLay} {Y : gY} (S : sSt) (hS : MI m G Λ Y S) {n10 : Nat} {k10 : Nat → Int32 → Int32 → Int32 → Int32 → Option Int32} (hk10 : ∀ (p1 : Int32) (qp1 : Nat) (ep1 : p1 = nI qp1) (bp1 : qp1 ≤ 15) (p2 : Int32) (p3 : Int32) (op3 : oB 159 p3) (p4 : Int32) (qp4 : Nat) (ep4 : p4 = nI qp4) (bp4 : qp4 ≤ 6), (7 ≤ qp4 + n10) → T (k10 m p1 p2 p3 p4) (fun r : Int32 => oB 159 r)) (p1 : Int32) (qp1 : Nat) (ep1 : p1 = nI qp1) (bp1 : qp1 ≤ 15) (p2 : Int32) (p4 : Int32) (qp4 : Nat) (ep4 : p4 = nI qp4) (bp4 : qp4 ≤ 5) (f0 : 7 ≤ qp4 + n10 + 1) : T (B_X9_find_68 Λ.2.2 S k10 m p1 p2 p4) (fun r : Int32 => oB 159 r) := by
  unfold B_X9_find_68
  exact tB_X9_find_70 (n10 := n10) (k10 := k10) (hk10 := hk10) S hS _ qp1 ep1 (by omega) _ _ qp4 ep4 (by omega) _ (Or.inl rfl) (by omega)
set_option maxHeartbeats 1000000 in
theorem tY_X9_find_10 {m : Nat} {G : Nat → Nat} {Λ : sLay} {Y : gY} (S : sSt) (hS : MI m G Λ Y S) {n : Nat} {rec : Nat → Int32 → Int32 → Int32 → Int32 → Option Int32} (hrec : ∀ (p1 : Int32) (qp1 : Nat) (ep1 : p1 = nI qp1) (bp1 : qp1 ≤ 15) (p2 : Int32) (p3 : Int32) (op3 : oB 159 p3) (p4 : Int32) (qp4 : Nat) (ep4 : p4 = nI qp4) (bp4 : qp4 ≤ 6), (7 ≤ qp4 + n) → T (rec m p1 p2 p3 p4) (fun r : Int32 => oB 159 r)) (p1 : Int32) (qp1 : Nat) (ep1 : p1 = nI qp1) (bp1 : qp1 ≤ 15) (p2 : Int32) (p3 : Int32) (op3 : oB 159 p3) (p4 : Int32) (qp4 : Nat) (ep4 : p4 = nI qp4) (bp4 : qp4 ≤ 6) (hm : 7 ≤ qp4 + (n + 1)) : T (Y_X9_find_10 Λ.2.2 S rec m p1 p2 p3 p4) (fun r : Int32 => oB 159 r) := by
  unfold Y_X9_find_10
  refine T_m ((hS).c.rf (f := 369) (by decide)) ?_
  refine T_bsome ?_
  refine T_gi (g_in ((hS).c.l (f := 369) (kd := 10) (n := 16) (by decide)) ep1 (by omega) (by omega)) ?_
  obtain ⟨j2, g2, e2⟩ := (hS).c.n (f := 369) (B := 6) (by decide) (Int32.toNatClampNeg p1)
  refine T_ite (fun c1 => ?_) (fun c1 => ?_)
  · skip
    have d1 := (e_le e2 ep4 (by omega) (by omega)).mp c1
    exact T_some op3
  · skip
    have d1 := mt (e_le e2 ep4 (by omega) (by omega)).mpr c1
    refine T_ite (fun c3 => ?_) (fun c3 => ?_)
    · skip
      refine T_m ((hS).c.rf (f := 370) (by decide)) ?_
      refine T_bsome ?_
      refine T_gi (g_in ((hS).c.l (f := 370) (kd := 10) (n := 96) (by decide)) (e_add (e_mul k6 ep1) ep4) (by omega) (by omega)) ?_
      obtain ⟨j4, g4, e4⟩ := (hS).c.n (f := 370) (B := 15) (by decide) (Int32.toNatClampNeg (((6 : Int32) * p1) + p4))
      refine T_bind (tF_X9_thingOf S hS _ j4 e4 (by omega) _) (fun v7 rv7 => ?_)
      refine T_ite (fun c5 => ?_) (fun c5 => ?_)
      · skip
        exact tB_X9_find_68 (n10 := n) (k10 := rec) (hk10 := hrec) S hS _ qp1 ep1 (by omega) _ _ qp4 ep4 (by omega) (by omega)
      · skip
        obtain ⟨j5, g5, e5⟩ := oB.ne rv7.1 c5
        have z5 := (rv7).2 c5
        refine T_m ((hS).c.rf (f := 366) (by decide)) ?_
        refine T_bsome ?_
        refine T_gi (g_in ((hS).c.l (f := 366) (kd := 12) (n := 160) (by decide)) e5 (by omega) (by omega)) ?_
        refine T_ite (fun c6 => ?_) (fun c6 => ?_)
        · skip
          exact tB_X9_find_70 (n10 := n) (k10 := rec) (hk10 := hrec) S hS _ qp1 ep1 (by omega) _ _ qp4 ep4 (by omega) _ (Or.inr ⟨j5, by omega, e5⟩) (by omega)
        · skip
          exact tB_X9_find_68 (n10 := n) (k10 := rec) (hk10 := hrec) S hS _ qp1 ep1 (by omega) _ _ qp4 ep4 (by omega) (by omega)
    · skip
      obtain ⟨j3, g3, e3⟩ := oB.ne op3 c3
      exact T_some (Or.inr ⟨j3, by omega, e3⟩)
theorem tL_X9_find_10 {m : Nat} {G : Nat → Nat} {Λ : sLay} {Y : gY} (S : sSt) (hS : MI m G Λ Y S) : ∀ (n : Nat) (p1 : Int32) (qp1 : Nat) (ep1 : p1 = nI qp1) (bp1 : qp1 ≤ 15) (p2 : Int32) (p3 : Int32) (op3 : oB 159 p3) (p4 : Int32) (qp4 : Nat) (ep4 : p4 = nI qp4) (bp4 : qp4 ≤ 6) (_ : 7 ≤ qp4 + n), T (L_X9_find_10 Λ.2.2 S n m p1 p2 p3 p4) (fun r : Int32 => oB 159 r) := by
  intro n
  induction n with
  | zero =>
    intro p1 qp1 ep1 bp1 p2 p3 op3 p4 qp4 ep4 bp4 hm
    exfalso
    omega
  | succ n ih =>
    intro p1 qp1 ep1 bp1 p2 p3 op3 p4 qp4 ep4 bp4 hm
    exact tY_X9_find_10 S hS (n := n) (rec := L_X9_find_10 Λ.2.2 S n) (hrec := ih) (p1 := p1) (qp1 := qp1) (ep1 := ep1) (bp1 := bp1) (p2 := p2) (p3 := p3) (op3 := op3) (p4 := p4) (qp4 := qp4) (ep4 := ep4) (bp4 := bp4) (hm := hm)
set_option maxHeartbeats 1000000 in
theorem tF_X9_find {m : Nat} {G : Nat → Nat} {Λ : sLay} {Y : gY} (S : sSt) (hS : MI m G Λ Y S) (p1 : Int32) (qp1 : Nat) (ep1 : p1 = nI qp1) (bp1 : qp1 ≤ 15) (p2 : Int32) : T (F_X9_find Λ.2.2 S m p1 p2) (fun r : Int32 => oB 159 r) := by
  unfold F_X9_find
  have hFU := FU_big
  refine T_bind (tF_X9_thingOf S hS _ qp1 ep1 (by omega) _) (fun v1 rv1 => ?_)
  exact tL_X9_find_10 S hS FU _ qp1 ep1 (by omega) _ _ rv1.1 _ 0 k0 (by omega) (by omega)
set_option maxHeartbeats 1000000 in
theorem tF_X9_points {m : Nat} {G : Nat → Nat} {Λ : sLay} {Y : gY} (w390 : Y.2.2 390 = false) (S : sSt) (hS : MI m G Λ Y S) (p1 : Int32) (qp1 : Nat) (ep1 : p1 = nI qp1) (bp1 : qp1 ≤ 15) (p2 : Int32) (op2 : oB 159 p2) : T (F_X9_points Λ.2.2 S m p1 p2) (fun r : sSt => MI m G Λ Y r) := by
  unfold F_X9_points
  refine T_ite (fun c1 => ?_) (fun c1 => ?_)
  · skip
    exact T_some hS
  · skip
    obtain ⟨j1, g1, e1⟩ := oB.ne op2 c1
    refine T_m ((hS).c.rf (f := 390) (by decide)) ?_
    refine T_bsome ?_
    refine T_gi (g_in ((hS).c.l (f := 390) (kd := 12) (n := 256) (by decide)) (e_add (e_mul k16 ep1) (e_div e1 k10 (by omega) (by omega))) (by omega) (by omega)) ?_
    refine T_st (fun S3 eS3 => ?_)
    have hS3 : MI m G Λ Y S3 := by rw [eS3]; exact (hS).wI (f := 390) (by decide) w390 (rg0 (P := fun B => nB B _) (by decide)) (rg0 (P := fun B => oB B _) (by decide))
    exact T_some hS3
set_option maxHeartbeats 1000000 in
theorem tB_X9_findLeads_262 {m : Nat} {G : Nat → Nat} {Λ : sLay} {Y : gY} (w390 : Y.2.2 390 = false) {n183 : Nat} {k183 : sSt → Nat → Int32 → Option sSt} (hk183 : ∀ (S : sSt) (hS : MI m G Λ Y S) (p1 : Int32) (qp1 : Nat) (ep1 : p1 = nI qp1) (bp1 : qp1 ≤ 16), (CL G S qp1) → (17 ≤ qp1 + n183) → T (k183 S m p1) (fun r : sSt => MI m G Λ Y r ∧ Tr G r)) {n191 : Nat} {k191 : sSt → Nat → Int32 → Int32 → Option sSt} (hk191 : ∀ (S : sSt) (hS : MI m G Λ Y S) (p1 : Int32) (qp1 : Nat) (ep1 : p1 = nI qp1) (bp1 : qp1 ≤ 15) (p2 : Int32) (qp2 : Nat) (ep2 : p2 = nI qp2) (bp2 : qp2 ≤ 16), (∃ W, CL G W qp1 ∧ RI G W S qp1 qp2 0) → (17 ≤ qp1 + n183 + 1) → (17 ≤ qp2 + n191) → T (k191 S m p1 p2) (fun r : sSt => MI m G Λ Y r ∧ Tr G r)) {n199 : Nat} {k199 : sSt → Nat → Int32 → Int32 → Int32 → Option sSt} (hk199 : ∀ (S : sSt) (hS : MI m G Λ Y S) (p1 : Int32) (qp1 : Nat) (ep1 : p1 = nI qp1) (bp1 : qp1 ≤ 15) (p2 : Int32) (qp2 : Nat) (ep2 : p2 = nI qp2) (bp2 : qp2 ≤ 15) (p3 : Int32) (qp3 : Nat) (ep3 : p3 = nI qp3) (bp3 : qp3 ≤ 16), (∃ W, CL G W qp1 ∧ RI G W S qp1 qp2 qp3) → (17 ≤ qp1 + n183 + 1) → (17 ≤ qp2 + n191 + 1) → (17 ≤ qp3 + n199) → T (k199 S m p1 p2 p3) (fun r : sSt => MI m G Λ Y r ∧ Tr G r)) (S : sSt) (hS : MI m G Λ Y S) (p1 : Int32) (qp1 : Nat) (ep1 : p1 = nI qp1) (bp1 : qp1 ≤ 15) (p2 : Int32) (qp2 : Nat) (ep2 : p2 = nI qp2) (bp2 : qp2 ≤ 15) (p3 : Int32) (qp3 : Nat) (ep3 : p3 = nI qp3) (bp3 : qp3 ≤ 15) (s0 : Int32) (s1 : Int32) (qs1 : Nat) (es1 : s1 = nI qs1) (bs1 : qs1 ≤ 255) (f0 : ∃ W, CL G W qp1 ∧ RI G W S qp1 qp2 qp3 ∧ (s0 = 0 ∨ s0 = 1) ∧ (s0 ≠ 0 ↔ (Rl G W qp2 qp3 ∨ (Rl G W qp2 qp1 ∧ Rl G W qp1 qp3)))) (f1 : qs1 = 16 * qp2 + qp3) (f2 : 17 ≤ qp1 + n183 + 1) (f3 : 17 ≤ qp2 + n191 + 1) (f4 : 17 ≤ qp3 + n199 + 1) : T (B_X9_findLeads_262 Λ.2.2 k183 k191 k199 S m p1 p2 p3 s0 s1 (some (G 390))) (fun r : sSt => MI m G Λ Y r ∧ Tr G r) := by
  unfold B_X9_findLeads_262
  obtain ⟨W, hC, hR, hb, hs⟩ := f0
  refine T_bsome ?_
  refine T_gi (g_in (hS.c.l (f := 390) (kd := 12) (n := 256) (by decide)) es1 (by omega) (by omega)) ?_
  refine T_st (fun S5 eS5 => ?_)
  have h5 : MI m G Λ Y S5 := by rw [eS5]; exact hS.wI (f := 390) (by decide) w390 (rg0 (P := fun B => nB B _) (by decide)) (rg0 (P := fun B => oB B _) (by decide))
  refine hk199 S5 h5 _ qp1 ep1 bp1 _ qp2 ep2 bp2 _ (qp3 + 1) (e_add ep3 k1) (by omega) ⟨W, hC, hR.step (s := s0) (by omega) (by omega) (fun j => ?_) hs⟩ (by omega) (by omega) (by omega)
  rw [eS5, gAI_sAI, e_clamp es1 (by omega), n_and1 hb, f1]
  by_cases cj : j = 16 * qp2 + qp3
  · rw [if_pos ⟨rfl, cj⟩, if_pos cj]
  · rw [if_neg (fun z => cj z.2), if_neg cj]
set_option maxHeartbeats 1000000 in
theorem tB_X9_findLeads_257 {m : Nat} {G : Nat → Nat} {Λ : sLay} {Y : gY} (w390 : Y.2.2 390 = false) {n183 : Nat} {k183 : sSt → Nat → Int32 → Option sSt} (hk183 : ∀ (S : sSt) (hS : MI m G Λ Y S) (p1 : Int32) (qp1 : Nat) (ep1 : p1 = nI qp1) (bp1 : qp1 ≤ 16), (CL G S qp1) → (17 ≤ qp1 + n183) → T (k183 S m p1) (fun r : sSt => MI m G Λ Y r ∧ Tr G r)) {n191 : Nat} {k191 : sSt → Nat → Int32 → Int32 → Option sSt} (hk191 : ∀ (S : sSt) (hS : MI m G Λ Y S) (p1 : Int32) (qp1 : Nat) (ep1 : p1 = nI qp1) (bp1 : qp1 ≤ 15) (p2 : Int32) (qp2 : Nat) (ep2 : p2 = nI qp2) (bp2 : qp2 ≤ 16), (∃ W, CL G W qp1 ∧ RI G W S qp1 qp2 0) → (17 ≤ qp1 + n183 + 1) → (17 ≤ qp2 + n191) → T (k191 S m p1 p2) (fun r : sSt => MI m G Λ Y r ∧ Tr G r)) {n199 : Nat} {k199 : sSt → Nat → Int32 → Int32 → Int32 → Option sSt} (hk199 : ∀ (S : sSt) (hS : MI m G Λ Y S) (p1 : Int32) (qp1 : Nat) (ep1 : p1 = nI qp1) (bp1 : qp1 ≤ 15) (p2 : Int32) (qp2 : Nat) (ep2 : p2 = nI qp2) (bp2 : qp2 ≤ 15) (p3 : Int32) (qp3 : Nat) (ep3 : p3 = nI qp3) (bp3 : qp3 ≤ 16), (∃ W, CL G W qp1 ∧ RI G W S qp1 qp2 qp3) → (17 ≤ qp1 + n183 + 1) → (17 ≤ qp2 + n191 + 1) → (17 ≤ qp3 + n199) → T (k199 S m p1 p2 p3) (fun r : sSt => MI m G Λ Y r ∧ Tr G r)) (S : sSt) (hS : MI m G Λ Y S) (p1 : Int32) (qp1 : Nat) (ep1 : p1 = nI qp1) (bp1 : qp1 ≤ 15) (p2 : Int32) (qp2 : Nat) (ep2 : p2 = nI qp2) (bp2 : qp2 ≤ 15) (p3 : Int32) (qp3 : Nat) (ep3 : p3 = nI qp3) (bp3 : qp3 ≤ 15) (s0 : Int32) (qs0 : Nat) (es0 : s0 = nI qs0) (bs0 : qs0 ≤ 255) (f0 : ∃ W, CL G W qp1 ∧ RI G W S qp1 qp2 qp3 ∧ (Rl G W qp2 qp3 ∨ (Rl G W qp2 qp1 ∧ Rl G W qp1 qp3))) (f1 : qs0 = 16 * qp2 + qp3) (f2 : 17 ≤ qp1 + n183 + 1) (f3 : 17 ≤ qp2 + n191 + 1) (f4 : 17 ≤ qp3 + n199 + 1) : T (B_X9_findLeads_257 Λ.2.2 k183 k191 k199 S m p1 p2 p3 s0 (some (G 390))) (fun r : sSt => MI m G Λ Y r ∧ Tr G r) := by
  unfold B_X9_findLeads_257
  obtain ⟨W, hC, hR, hs⟩ := f0
  exact tB_X9_findLeads_262 (w390 := w390) (hk183 := hk183) (hk191 := hk191) (hk199 := hk199) S hS _ qp1 ep1 bp1 _ qp2 ep2 bp2 _ qp3 ep3 bp3 _ _ qs0 es0 bs0 ⟨W, hC, hR, Or.inr rfl, fun _ => hs, fun _ => by decide⟩ f1 (by omega) (by omega) (by omega)
set_option maxHeartbeats 1000000 in
theorem tB_X9_findLeads_261 {m : Nat} {G : Nat → Nat} {Λ : sLay} {Y : gY} (w390 : Y.2.2 390 = false) {n183 : Nat} {k183 : sSt → Nat → Int32 → Option sSt} (hk183 : ∀ (S : sSt) (hS : MI m G Λ Y S) (p1 : Int32) (qp1 : Nat) (ep1 : p1 = nI qp1) (bp1 : qp1 ≤ 16), (CL G S qp1) → (17 ≤ qp1 + n183) → T (k183 S m p1) (fun r : sSt => MI m G Λ Y r ∧ Tr G r)) {n191 : Nat} {k191 : sSt → Nat → Int32 → Int32 → Option sSt} (hk191 : ∀ (S : sSt) (hS : MI m G Λ Y S) (p1 : Int32) (qp1 : Nat) (ep1 : p1 = nI qp1) (bp1 : qp1 ≤ 15) (p2 : Int32) (qp2 : Nat) (ep2 : p2 = nI qp2) (bp2 : qp2 ≤ 16), (∃ W, CL G W qp1 ∧ RI G W S qp1 qp2 0) → (17 ≤ qp1 + n183 + 1) → (17 ≤ qp2 + n191) → T (k191 S m p1 p2) (fun r : sSt => MI m G Λ Y r ∧ Tr G r)) {n199 : Nat} {k199 : sSt → Nat → Int32 → Int32 → Int32 → Option sSt} (hk199 : ∀ (S : sSt) (hS : MI m G Λ Y S) (p1 : Int32) (qp1 : Nat) (ep1 : p1 = nI qp1) (bp1 : qp1 ≤ 15) (p2 : Int32) (qp2 : Nat) (ep2 : p2 = nI qp2) (bp2 : qp2 ≤ 15) (p3 : Int32) (qp3 : Nat) (ep3 : p3 = nI qp3) (bp3 : qp3 ≤ 16), (∃ W, CL G W qp1 ∧ RI G W S qp1 qp2 qp3) → (17 ≤ qp1 + n183 + 1) → (17 ≤ qp2 + n191 + 1) → (17 ≤ qp3 + n199) → T (k199 S m p1 p2 p3) (fun r : sSt => MI m G Λ Y r ∧ Tr G r)) (S : sSt) (hS : MI m G Λ Y S) (p1 : Int32) (qp1 : Nat) (ep1 : p1 = nI qp1) (bp1 : qp1 ≤ 15) (p2 : Int32) (qp2 : Nat) (ep2 : p2 = nI qp2) (bp2 : qp2 ≤ 15) (p3 : Int32) (qp3 : Nat) (ep3 : p3 = nI qp3) (bp3 : qp3 ≤ 15) (s0 : Int32) (qs0 : Nat) (es0 : s0 = nI qs0) (bs0 : qs0 ≤ 255) (f0 : ∃ W, CL G W qp1 ∧ RI G W S qp1 qp2 qp3 ∧ ¬ (Rl G W qp2 qp3 ∨ (Rl G W qp2 qp1 ∧ Rl G W qp1 qp3))) (f1 : qs0 = 16 * qp2 + qp3) (f2 : 17 ≤ qp1 + n183 + 1) (f3 : 17 ≤ qp2 + n191 + 1) (f4 : 17 ≤ qp3 + n199 + 1) : T (B_X9_findLeads_261 Λ.2.2 k183 k191 k199 S m p1 p2 p3 s0 (some (G 390))) (fun r : sSt => MI m G Λ Y r ∧ Tr G r) := by
  unfold B_X9_findLeads_261
  obtain ⟨W, hC, hR, hs⟩ := f0
  exact tB_X9_findLeads_262 (w390 := w390) (hk183 := hk183) (hk191 := hk191) (hk199 := hk199) S hS _ qp1 ep1 bp1 _ qp2 ep2 bp2 _ qp3 ep3 bp3 _ _ qs0 es0 bs0 ⟨W, hC, hR, Or.inl rfl, fun z => absurd rfl z, fun z => absurd z hs⟩ f1 (by omega) (by omega) (by omega)
set_option maxHeartbeats 1000000 in
theorem tY_X9_findLeads_199 {m : Nat} {G : Nat → Nat} {Λ : sLay} {Y : gY} (w390 : Y.2.2 390 = false) {n183 : Nat} {k183 : sSt → Nat → Int32 → Option sSt} (hk183 : ∀ (S : sSt) (hS : MI m G Λ Y S) (p1 : Int32) (qp1 : Nat) (ep1 : p1 = nI qp1) (bp1 : qp1 ≤ 16), (CL G S qp1) → (17 ≤ qp1 + n183) → T (k183 S m p1) (fun r : sSt => MI m G Λ Y r ∧ Tr G r)) {n191 : Nat} {k191 : sSt → Nat → Int32 → Int32 → Option sSt} (hk191 : ∀ (S : sSt) (hS : MI m G Λ Y S) (p1 : Int32) (qp1 : Nat) (ep1 : p1 = nI qp1) (bp1 : qp1 ≤ 15) (p2 : Int32) (qp2 : Nat) (ep2 : p2 = nI qp2) (bp2 : qp2 ≤ 16), (∃ W, CL G W qp1 ∧ RI G W S qp1 qp2 0) → (17 ≤ qp1 + n183 + 1) → (17 ≤ qp2 + n191) → T (k191 S m p1 p2) (fun r : sSt => MI m G Λ Y r ∧ Tr G r)) {n : Nat} {rec : sSt → Nat → Int32 → Int32 → Int32 → Option sSt} (hrec : ∀ (S : sSt) (hS : MI m G Λ Y S) (p1 : Int32) (qp1 : Nat) (ep1 : p1 = nI qp1) (bp1 : qp1 ≤ 15) (p2 : Int32) (qp2 : Nat) (ep2 : p2 = nI qp2) (bp2 : qp2 ≤ 15) (p3 : Int32) (qp3 : Nat) (ep3 : p3 = nI qp3) (bp3 : qp3 ≤ 16), (∃ W, CL G W qp1 ∧ RI G W S qp1 qp2 qp3) → (17 ≤ qp1 + n183 + 1) → (17 ≤ qp2 + n191 + 1) → (17 ≤ qp3 + n) → T (rec S m p1 p2 p3) (fun r : sSt => MI m G Λ Y r ∧ Tr G r)) (S : sSt) (hS : MI m G Λ Y S) (p1 : Int32) (qp1 : Nat) (ep1 : p1 = nI qp1) (bp1 : qp1 ≤ 15) (p2 : Int32) (qp2 : Nat) (ep2 : p2 = nI qp2) (bp2 : qp2 ≤ 15) (p3 : Int32) (qp3 : Nat) (ep3 : p3 = nI qp3) (bp3 : qp3 ≤ 16) (f0 : ∃ W, CL G W qp1 ∧ RI G W S qp1 qp2 qp3) (f1 : 17 ≤ qp1 + n183 + 1) (f2 : 17 ≤ qp2 + n191 + 1) (hm : 17 ≤ qp3 + (n + 1)) : T (Y_X9_findLeads_199 Λ.2.2 k183 k191 rec S m p1 p2 p3) (fun r : sSt => MI m G Λ Y r ∧ Tr G r) := by
  unfold Y_X9_findLeads_199
  obtain ⟨W, hC, hR⟩ := f0
  refine T_ite (fun c => ?_) (fun c => ?_)
  · have d := (e_le k16 ep3 (by omega) (by omega)).mp c
    have e16 : qp3 = 16 := by omega
    subst e16
    exact hk191 S hS _ qp1 ep1 bp1 _ (qp2 + 1) (e_add ep2 k1) (by omega) ⟨W, hC, hR.row⟩ (by omega) (by omega)
  · have d := mt (e_le k16 ep3 (by omega) (by omega)).mpr c
    have r1 := hR.at (by omega) (by omega)
    have r2 := hR.col (by omega) (by omega)
    have r3 := hR.piv (by omega) (by omega)
    have i1 := e_clamp (e_add (e_mul k16 ep2) ep3) (by omega)
    have i2 := e_clamp (e_add (e_mul k16 ep2) ep1) (by omega)
    have i3 := e_clamp (e_add (e_mul k16 ep1) ep3) (by omega)
    have go0 : ¬ (Rl G W qp2 qp3 ∨ (Rl G W qp2 qp1 ∧ Rl G W qp1 qp3)) → T (B_X9_findLeads_261 Λ.2.2 k183 k191 rec S m p1 p2 p3 ((16 : Int32) * p2 + p3) (some (G 390))) (fun r : sSt => MI m G Λ Y r ∧ Tr G r) := fun hs => tB_X9_findLeads_261 (w390 := w390) (hk183 := hk183) (hk191 := hk191) (hk199 := hrec) S hS _ qp1 ep1 bp1 _ qp2 ep2 bp2 _ qp3 ep3 (by omega) _ (16 * qp2 + qp3) (e_add (e_mul k16 ep2) ep3) (by omega) ⟨W, hC, hR, hs⟩ rfl (by omega) (by omega) (by omega)
    have go1 : (Rl G W qp2 qp3 ∨ (Rl G W qp2 qp1 ∧ Rl G W qp1 qp3)) → T (B_X9_findLeads_257 Λ.2.2 k183 k191 rec S m p1 p2 p3 ((16 : Int32) * p2 + p3) (some (G 390))) (fun r : sSt => MI m G Λ Y r ∧ Tr G r) := fun hs => tB_X9_findLeads_257 (w390 := w390) (hk183 := hk183) (hk191 := hk191) (hk199 := hrec) S hS _ qp1 ep1 bp1 _ qp2 ep2 bp2 _ qp3 ep3 (by omega) _ (16 * qp2 + qp3) (e_add (e_mul k16 ep2) ep3) (by omega) ⟨W, hC, hR, hs⟩ rfl (by omega) (by omega) (by omega)
    refine T_m (hS.c.rf (f := 390) (by decide)) ?_
    refine T_m (hS.c.rf (f := 390) (by decide)) (T_bsome ?_)
    refine T_gi (g_in (hS.c.l (f := 390) (kd := 12) (n := 256) (by decide)) (e_add (e_mul k16 ep2) ep3) (by omega) (by omega)) ?_
    refine T_ite (fun c1 => ?_) (fun c1 => go1 (Or.inl (r1.mp (by rw [i1] at c1; exact c1))))
    rw [i1] at c1
    have n1 : ¬ Rl G W qp2 qp3 := fun z => r1.mpr z c1
    refine T_m (hS.c.rf (f := 390) (by decide)) (T_bsome ?_)
    refine T_gi (g_in (hS.c.l (f := 390) (kd := 12) (n := 256) (by decide)) (e_add (e_mul k16 ep2) ep1) (by omega) (by omega)) ?_
    refine T_ite (fun c2 => go0 (fun z => z.elim n1 (fun y => r2.mpr y.1 (by rw [i2] at c2; exact c2)))) (fun c2 => ?_)
    rw [i2] at c2
    refine T_m (hS.c.rf (f := 390) (by decide)) (T_bsome ?_)
    refine T_gi (g_in (hS.c.l (f := 390) (kd := 12) (n := 256) (by decide)) (e_add (e_mul k16 ep1) ep3) (by omega) (by omega)) ?_
    refine T_ite (fun c3 => go0 (fun z => z.elim n1 (fun y => r3.mpr y.2 (by rw [i3] at c3; exact c3)))) (fun c3 => go1 (Or.inr ⟨r2.mp c2, r3.mp (by rw [i3] at c3; exact c3)⟩))
theorem tL_X9_findLeads_199 {m : Nat} {G : Nat → Nat} {Λ : sLay} {Y : gY} (w390 : Y.2.2 390 = false) {n183 : Nat} {k183 : sSt → Nat → Int32 → Option sSt} (hk183 : ∀ (S : sSt) (hS : MI m G Λ Y S) (p1 : Int32) (qp1 : Nat) (ep1 : p1 = nI qp1) (bp1 : qp1 ≤ 16), (CL G S qp1) → (17 ≤ qp1 + n183) → T (k183 S m p1) (fun r : sSt => MI m G Λ Y r ∧ Tr G r)) {n191 : Nat} {k191 : sSt → Nat → Int32 → Int32 → Option sSt} (hk191 : ∀ (S : sSt) (hS : MI m G Λ Y S) (p1 : Int32) (qp1 : Nat) (ep1 : p1 = nI qp1) (bp1 : qp1 ≤ 15) (p2 : Int32) (qp2 : Nat) (ep2 : p2 = nI qp2) (bp2 : qp2 ≤ 16), (∃ W, CL G W qp1 ∧ RI G W S qp1 qp2 0) → (17 ≤ qp1 + n183 + 1) → (17 ≤ qp2 + n191) → T (k191 S m p1 p2) (fun r : sSt => MI m G Λ Y r ∧ Tr G r)) : ∀ (n : Nat) (S : sSt) (hS : MI m G Λ Y S) (p1 : Int32) (qp1 : Nat) (ep1 : p1 = nI qp1) (bp1 : qp1 ≤ 15) (p2 : Int32) (qp2 : Nat) (ep2 : p2 = nI qp2) (bp2 : qp2 ≤ 15) (p3 : Int32) (qp3 : Nat) (ep3 : p3 = nI qp3) (bp3 : qp3 ≤ 16) (_ : ∃ W, CL G W qp1 ∧ RI G W S qp1 qp2 qp3) (_ : 17 ≤ qp1 + n183 + 1) (_ : 17 ≤ qp2 + n191 + 1) (_ : 17 ≤ qp3 + n), T (L_X9_findLeads_199 Λ.2.2 k183 k191 n S m p1 p2 p3) (fun r : sSt => MI m G Λ Y r ∧ Tr G r) := by
  intro n
  induction n with
  | zero =>
    intro S hS p1 qp1 ep1 bp1 p2 qp2 ep2 bp2 p3 qp3 ep3 bp3 f0 f1 f2 hm
    exfalso
    omega
  | succ n ih =>
    intro S hS p1 qp1 ep1 bp1 p2 qp2 ep2 bp2 p3 qp3 ep3 bp3 f0 f1 f2 hm
    exact tY_X9_findLeads_199 (w390 := w390) (n := n) (rec := L_X9_findLeads_199 Λ.2.2 k183 k191 n) (hrec := ih) (n183 := n183) (k183 := k183) (hk183 := hk183) (n191 := n191) (k191 := k191) (hk191 := hk191) (S := S) (hS := hS) (p1 := p1) (qp1 := qp1) (ep1 := ep1) (bp1 := bp1) (p2 := p2) (qp2 := qp2) (ep2 := ep2) (bp2 := bp2) (p3 := p3) (qp3 := qp3) (ep3 := ep3) (bp3 := bp3) (f0 := f0) (f1 := f1) (f2 := f2) (hm := hm)
set_option maxHeartbeats 1000000 in
theorem tY_X9_findLeads_191 {m : Nat} {G : Nat → Nat} {Λ : sLay} {Y : gY} (w390 : Y.2.2 390 = false) {n183 : Nat} {k183 : sSt → Nat → Int32 → Option sSt} (hk183 : ∀ (S : sSt) (hS : MI m G Λ Y S) (p1 : Int32) (qp1 : Nat) (ep1 : p1 = nI qp1) (bp1 : qp1 ≤ 16), (CL G S qp1) → (17 ≤ qp1 + n183) → T (k183 S m p1) (fun r : sSt => MI m G Λ Y r ∧ Tr G r)) {n : Nat} {rec : sSt → Nat → Int32 → Int32 → Option sSt} (hrec : ∀ (S : sSt) (hS : MI m G Λ Y S) (p1 : Int32) (qp1 : Nat) (ep1 : p1 = nI qp1) (bp1 : qp1 ≤ 15) (p2 : Int32) (qp2 : Nat) (ep2 : p2 = nI qp2) (bp2 : qp2 ≤ 16), (∃ W, CL G W qp1 ∧ RI G W S qp1 qp2 0) → (17 ≤ qp1 + n183 + 1) → (17 ≤ qp2 + n) → T (rec S m p1 p2) (fun r : sSt => MI m G Λ Y r ∧ Tr G r)) (S : sSt) (hS : MI m G Λ Y S) (p1 : Int32) (qp1 : Nat) (ep1 : p1 = nI qp1) (bp1 : qp1 ≤ 15) (p2 : Int32) (qp2 : Nat) (ep2 : p2 = nI qp2) (bp2 : qp2 ≤ 16) (f0 : ∃ W, CL G W qp1 ∧ RI G W S qp1 qp2 0) (f1 : 17 ≤ qp1 + n183 + 1) (hm : 17 ≤ qp2 + (n + 1)) : T (Y_X9_findLeads_191 Λ.2.2 k183 rec S m p1 p2) (fun r : sSt => MI m G Λ Y r ∧ Tr G r) := by
  unfold Y_X9_findLeads_191
  have hFU := FU_big
  refine T_ite (fun c => ?_) (fun c => ?_)
  · have d := (e_le k16 ep2 (by omega) (by omega)).mp c
    have e16 : qp2 = 16 := by omega
    subst e16
    obtain ⟨W, hC, hR⟩ := f0
    exact hk183 S hS _ (qp1 + 1) (e_add ep1 k1) (by omega) (hC.next hR (by omega)) (by omega)
  · have d := mt (e_le k16 ep2 (by omega) (by omega)).mpr c
    exact tL_X9_findLeads_199 (w390 := w390) (hk183 := hk183) (hk191 := hrec) FU S hS _ qp1 ep1 bp1 _ qp2 ep2 (by omega) _ 0 k0 (by omega) f0 (by omega) (by omega) (by omega)
theorem tL_X9_findLeads_191 {m : Nat} {G : Nat → Nat} {Λ : sLay} {Y : gY} (w390 : Y.2.2 390 = false) {n183 : Nat} {k183 : sSt → Nat → Int32 → Option sSt} (hk183 : ∀ (S : sSt) (hS : MI m G Λ Y S) (p1 : Int32) (qp1 : Nat) (ep1 : p1 = nI qp1) (bp1 : qp1 ≤ 16), (CL G S qp1) → (17 ≤ qp1 + n183) → T (k183 S m p1) (fun r : sSt => MI m G Λ Y r ∧ Tr G r)) : ∀ (n : Nat) (S : sSt) (hS : MI m G Λ Y S) (p1 : Int32) (qp1 : Nat) (ep1 : p1 = nI qp1) (bp1 : qp1 ≤ 15) (p2 : Int32) (qp2 : Nat) (ep2 : p2 = nI qp2) (bp2 : qp2 ≤ 16) (_ : ∃ W, CL G W qp1 ∧ RI G W S qp1 qp2 0) (_ : 17 ≤ qp1 + n183 + 1) (_ : 17 ≤ qp2 + n), T (L_X9_findLeads_191 Λ.2.2 k183 n S m p1 p2) (fun r : sSt => MI m G Λ Y r ∧ Tr G r) := by
  intro n
  induction n with
  | zero =>
    intro S hS p1 qp1 ep1 bp1 p2 qp2 ep2 bp2 f0 f1 hm
    exfalso
    omega
  | succ n ih =>
    intro S hS p1 qp1 ep1 bp1 p2 qp2 ep2 bp2 f0 f1 hm
    exact tY_X9_findLeads_191 (w390 := w390) (n := n) (rec := L_X9_findLeads_191 Λ.2.2 k183 n) (hrec := ih) (n183 := n183) (k183 := k183) (hk183 := hk183) (S := S) (hS := hS) (p1 := p1) (qp1 := qp1) (ep1 := ep1) (bp1 := bp1) (p2 := p2) (qp2 := qp2) (ep2 := ep2) (bp2 := bp2) (f0 := f0) (f1 := f1) (hm := hm)
set_option maxHeartbeats 1000000 in
theorem tY_X9_findLeads_183 {m : Nat} {G : Nat → Nat} {Λ : sLay} {Y : gY} (w390 : Y.2.2 390 = false) {n : Nat} {rec : sSt → Nat → Int32 → Option sSt} (hrec : ∀ (S : sSt) (hS : MI m G Λ Y S) (p1 : Int32) (qp1 : Nat) (ep1 : p1 = nI qp1) (bp1 : qp1 ≤ 16), (CL G S qp1) → (17 ≤ qp1 + n) → T (rec S m p1) (fun r : sSt => MI m G Λ Y r ∧ Tr G r)) (S : sSt) (hS : MI m G Λ Y S) (p1 : Int32) (qp1 : Nat) (ep1 : p1 = nI qp1) (bp1 : qp1 ≤ 16) (f0 : CL G S qp1) (hm : 17 ≤ qp1 + (n + 1)) : T (Y_X9_findLeads_183 Λ.2.2 rec S m p1) (fun r : sSt => MI m G Λ Y r ∧ Tr G r) := by
  unfold Y_X9_findLeads_183
  have hFU := FU_big
  refine T_ite (fun c => T_some ⟨hS, ?_⟩) (fun c => ?_)
  · have d := (e_le k16 ep1 (by omega) (by omega)).mp c
    intro a b e ha hb he h1 h2
    exact f0 b a e (by omega) ha he h1 h2
  · have d := mt (e_le k16 ep1 (by omega) (by omega)).mpr c
    exact tL_X9_findLeads_191 (w390 := w390) (hk183 := hrec) FU S hS _ qp1 ep1 (by omega) _ 0 k0 (by omega) ⟨S, f0, RI.rf⟩ (by omega) (by omega)
theorem tL_X9_findLeads_183 {m : Nat} {G : Nat → Nat} {Λ : sLay} {Y : gY} (w390 : Y.2.2 390 = false) : ∀ (n : Nat) (S : sSt) (hS : MI m G Λ Y S) (p1 : Int32) (qp1 : Nat) (ep1 : p1 = nI qp1) (bp1 : qp1 ≤ 16) (_ : CL G S qp1) (_ : 17 ≤ qp1 + n), T (L_X9_findLeads_183 Λ.2.2 n S m p1) (fun r : sSt => MI m G Λ Y r ∧ Tr G r) := by
  intro n
  induction n with
  | zero =>
    intro S hS p1 qp1 ep1 bp1 f0 hm
    exfalso
    omega
  | succ n ih =>
    intro S hS p1 qp1 ep1 bp1 f0 hm
    exact tY_X9_findLeads_183 (w390 := w390) (n := n) (rec := L_X9_findLeads_183 Λ.2.2 n) (hrec := ih) (S := S) (hS := hS) (p1 := p1) (qp1 := qp1) (ep1 := ep1) (bp1 := bp1) (f0 := f0) (hm := hm)
set_option maxHeartbeats 1000000 in
theorem tB_X9_findLeads_175 {m : Nat} {G : Nat → Nat} {Λ : sLay} {Y : gY} {n24 : Nat} {k24 : sSt → Nat → Int32 → Option sSt} (hk24 : ∀ (S : sSt) (hS : MI m G Λ Y S) (p1 : Int32) (qp1 : Nat) (ep1 : p1 = nI qp1) (bp1 : qp1 ≤ 16), (17 ≤ qp1 + n24) → T (k24 S m p1) (fun r : sSt => MI m G Λ Y r ∧ Tr G r)) (S : sSt) (hS : MI m G Λ Y S) (p1 : Int32) (qp1 : Nat) (ep1 : p1 = nI qp1) (bp1 : qp1 ≤ 15) (f0 : 17 ≤ qp1 + n24 + 1) : T (B_X9_findLeads_175 Λ.2.2 k24 S m p1) (fun r : sSt => MI m G Λ Y r ∧ Tr G r) := by
  unfold B_X9_findLeads_175
  exact hk24 S hS _ (qp1 + 1) (e_add ep1 k1) (by omega) (by omega)
set_option maxHeartbeats 1000000 in
theorem tY_X9_findLeads_102 {m : Nat} {G : Nat → Nat} {Λ : sLay} {Y : gY} (w390 : Y.2.2 390 = false) {n24 : Nat} {k24 : sSt → Nat → Int32 → Option sSt} (hk24 : ∀ (S : sSt) (hS : MI m G Λ Y S) (p1 : Int32) (qp1 : Nat) (ep1 : p1 = nI qp1) (bp1 : qp1 ≤ 16), (17 ≤ qp1 + n24) → T (k24 S m p1) (fun r : sSt => MI m G Λ Y r ∧ Tr G r)) {n85 : Nat} {k85 : sSt → Nat → Int32 → Int32 → Option sSt} (hk85 : ∀ (S : sSt) (hS : MI m G Λ Y S) (p1 : Int32) (qp1 : Nat) (ep1 : p1 = nI qp1) (bp1 : qp1 ≤ 15) (p2 : Int32) (qp2 : Nat) (ep2 : p2 = nI qp2) (bp2 : qp2 ≤ 160), (17 ≤ qp1 + n24 + 1) → (161 ≤ qp2 + n85) → T (k85 S m p1 p2) (fun r : sSt => MI m G Λ Y r ∧ Tr G r)) {n : Nat} {rec : sSt → Nat → Int32 → Int32 → Int32 → Option sSt} (hrec : ∀ (S : sSt) (hS : MI m G Λ Y S) (p1 : Int32) (qp1 : Nat) (ep1 : p1 = nI qp1) (bp1 : qp1 ≤ 15) (p2 : Int32) (qp2 : Nat) (ep2 : p2 = nI qp2) (bp2 : qp2 ≤ 159) (p3 : Int32) (qp3 : Nat) (ep3 : p3 = nI qp3) (bp3 : qp3 ≤ 3), (17 ≤ qp1 + n24 + 1) → (161 ≤ qp2 + n85 + 1) → (4 ≤ qp3 + n) → T (rec S m p1 p2 p3) (fun r : sSt => MI m G Λ Y r ∧ Tr G r)) (S : sSt) (hS : MI m G Λ Y S) (p1 : Int32) (qp1 : Nat) (ep1 : p1 = nI qp1) (bp1 : qp1 ≤ 15) (p2 : Int32) (qp2 : Nat) (ep2 : p2 = nI qp2) (bp2 : qp2 ≤ 159) (p3 : Int32) (qp3 : Nat) (ep3 : p3 = nI qp3) (bp3 : qp3 ≤ 3) (f0 : 17 ≤ qp1 + n24 + 1) (f1 : 161 ≤ qp2 + n85 + 1) (hm : 4 ≤ qp3 + (n + 1)) : T (Y_X9_findLeads_102 Λ.2.2 k24 k85 rec S m p1 p2 p3) (fun r : sSt => MI m G Λ Y r ∧ Tr G r) := by
  unfold Y_X9_findLeads_102
  refine T_m ((hS).c.rf (f := 367) (by decide)) ?_
  refine T_bsome ?_
  refine T_gi (g_in ((hS).c.l (f := 367) (kd := 10) (n := 160) (by decide)) ep2 (by omega) (by omega)) ?_
  obtain ⟨j2, g2, e2⟩ := (hS).c.n (f := 367) (B := 3) (by decide) (Int32.toNatClampNeg p2)
  refine T_ite (fun c1 => ?_) (fun c1 => ?_)
  · skip
    have d1 := (e_le e2 ep3 (by omega) (by omega)).mp c1
    exact hk85 S hS _ qp1 ep1 (by omega) _ (qp2 + 1) (e_add ep2 k1) (by omega) (by omega) (by omega)
  · skip
    have d1 := mt (e_le e2 ep3 (by omega) (by omega)).mpr c1
    refine T_m ((hS).c.rf (f := 368) (by decide)) ?_
    refine T_bsome ?_
    refine T_gi (g_in ((hS).c.l (f := 368) (kd := 10) (n := 480) (by decide)) (e_add (e_mul k3 ep2) ep3) (by omega) (by omega)) ?_
    refine T_bind (tF_X9_find S hS _ qp1 ep1 (by omega) _) (fun v27 rv27 => ?_)
    refine T_bind (tF_X9_points (w390 := w390) S hS _ qp1 ep1 (by omega) _ rv27) (fun S30 rS30 => ?_)
    have hS30 := rS30
    exact hrec S30 hS30 _ qp1 ep1 (by omega) _ qp2 ep2 (by omega) _ (qp3 + 1) (e_add ep3 k1) (by omega) (by omega) (by omega) (by omega)
theorem tL_X9_findLeads_102 {m : Nat} {G : Nat → Nat} {Λ : sLay} {Y : gY} (w390 : Y.2.2 390 = false) {n24 : Nat} {k24 : sSt → Nat → Int32 → Option sSt} (hk24 : ∀ (S : sSt) (hS : MI m G Λ Y S) (p1 : Int32) (qp1 : Nat) (ep1 : p1 = nI qp1) (bp1 : qp1 ≤ 16), (17 ≤ qp1 + n24) → T (k24 S m p1) (fun r : sSt => MI m G Λ Y r ∧ Tr G r)) {n85 : Nat} {k85 : sSt → Nat → Int32 → Int32 → Option sSt} (hk85 : ∀ (S : sSt) (hS : MI m G Λ Y S) (p1 : Int32) (qp1 : Nat) (ep1 : p1 = nI qp1) (bp1 : qp1 ≤ 15) (p2 : Int32) (qp2 : Nat) (ep2 : p2 = nI qp2) (bp2 : qp2 ≤ 160), (17 ≤ qp1 + n24 + 1) → (161 ≤ qp2 + n85) → T (k85 S m p1 p2) (fun r : sSt => MI m G Λ Y r ∧ Tr G r)) : ∀ (n : Nat) (S : sSt) (hS : MI m G Λ Y S) (p1 : Int32) (qp1 : Nat) (ep1 : p1 = nI qp1) (bp1 : qp1 ≤ 15) (p2 : Int32) (qp2 : Nat) (ep2 : p2 = nI qp2) (bp2 : qp2 ≤ 159) (p3 : Int32) (qp3 : Nat) (ep3 : p3 = nI qp3) (bp3 : qp3 ≤ 3) (_ : 17 ≤ qp1 + n24 + 1) (_ : 161 ≤ qp2 + n85 + 1) (_ : 4 ≤ qp3 + n), T (L_X9_findLeads_102 Λ.2.2 k24 k85 n S m p1 p2 p3) (fun r : sSt => MI m G Λ Y r ∧ Tr G r) := by
  intro n
  induction n with
  | zero =>
    intro S hS p1 qp1 ep1 bp1 p2 qp2 ep2 bp2 p3 qp3 ep3 bp3 f0 f1 hm
    exfalso
    omega
  | succ n ih =>
    intro S hS p1 qp1 ep1 bp1 p2 qp2 ep2 bp2 p3 qp3 ep3 bp3 f0 f1 hm
    exact tY_X9_findLeads_102 (w390 := w390) (n := n) (rec := L_X9_findLeads_102 Λ.2.2 k24 k85 n) (hrec := ih) (n24 := n24) (k24 := k24) (hk24 := hk24) (n85 := n85) (k85 := k85) (hk85 := hk85) (S := S) (hS := hS) (p1 := p1) (qp1 := qp1) (ep1 := ep1) (bp1 := bp1) (p2 := p2) (qp2 := qp2) (ep2 := ep2) (bp2 := bp2) (p3 := p3) (qp3 := qp3) (ep3 := ep3) (bp3 := bp3) (f0 := f0) (f1 := f1) (hm := hm)
set_option maxHeartbeats 1000000 in
theorem tY_X9_findLeads_85 {m : Nat} {G : Nat → Nat} {Λ : sLay} {Y : gY} (w390 : Y.2.2 390 = false) {n24 : Nat} {k24 : sSt → Nat → Int32 → Option sSt} (hk24 : ∀ (S : sSt) (hS : MI m G Λ Y S) (p1 : Int32) (qp1 : Nat) (ep1 : p1 = nI qp1) (bp1 : qp1 ≤ 16), (17 ≤ qp1 + n24) → T (k24 S m p1) (fun r : sSt => MI m G Λ Y r ∧ Tr G r)) {n : Nat} {rec : sSt → Nat → Int32 → Int32 → Option sSt} (hrec : ∀ (S : sSt) (hS : MI m G Λ Y S) (p1 : Int32) (qp1 : Nat) (ep1 : p1 = nI qp1) (bp1 : qp1 ≤ 15) (p2 : Int32) (qp2 : Nat) (ep2 : p2 = nI qp2) (bp2 : qp2 ≤ 160), (17 ≤ qp1 + n24 + 1) → (161 ≤ qp2 + n) → T (rec S m p1 p2) (fun r : sSt => MI m G Λ Y r ∧ Tr G r)) (S : sSt) (hS : MI m G Λ Y S) (p1 : Int32) (qp1 : Nat) (ep1 : p1 = nI qp1) (bp1 : qp1 ≤ 15) (p2 : Int32) (qp2 : Nat) (ep2 : p2 = nI qp2) (bp2 : qp2 ≤ 160) (f0 : 17 ≤ qp1 + n24 + 1) (hm : 161 ≤ qp2 + (n + 1)) : T (Y_X9_findLeads_85 Λ.2.2 k24 rec S m p1 p2) (fun r : sSt => MI m G Λ Y r ∧ Tr G r) := by
  unfold Y_X9_findLeads_85
  have hFU := FU_big
  refine T_m ((hS).c.rf (f := 363) (by decide)) ?_
  refine T_bsome ?_
  refine T_gi (g_in ((hS).c.l (f := 363) (kd := 10) (n := 16) (by decide)) ep1 (by omega) (by omega)) ?_
  obtain ⟨j2, g2, e2⟩ := (hS).c.n (f := 363) (B := 10) (by decide) (Int32.toNatClampNeg p1)
  refine T_ite (fun c1 => ?_) (fun c1 => ?_)
  · skip
    have d1 := (e_le (e_add (e_mul k10 ep1) e2) ep2 (by omega) (by omega)).mp c1
    refine T_m ((hS).c.rf (f := 374) (by decide)) ?_
    refine T_bsome ?_
    refine T_gi (g_in ((hS).c.l (f := 374) (kd := 10) (n := 16) (by decide)) ep1 (by omega) (by omega)) ?_
    refine T_ite (fun c3 => ?_) (fun c3 => ?_)
    · skip
      exact tB_X9_findLeads_175 (n24 := n24) (k24 := k24) (hk24 := hk24) S hS _ qp1 ep1 (by omega) (by omega)
    · skip
      obtain ⟨j3, g3, e3⟩ := oB.ne ((hS).c.o (f := 374) (B := 15) (by decide) _) c3
      refine T_m ((hS).c.rf (f := 390) (by decide)) ?_
      refine T_m ((hS).c.rf (f := 374) (by decide)) ?_
      refine T_bsome ?_
      refine T_gi (g_in ((hS).c.l (f := 374) (kd := 10) (n := 16) (by decide)) ep1 (by omega) (by omega)) ?_
      refine T_bsome ?_
      refine T_gi (g_in ((hS).c.l (f := 390) (kd := 12) (n := 256) (by decide)) (e_add (e_mul k16 ep1) e3) (by omega) (by omega)) ?_
      refine T_st (fun S22 eS22 => ?_)
      have hS22 : MI m G Λ Y S22 := by rw [eS22]; exact (hS).wI (f := 390) (by decide) w390 (rg0 (P := fun B => nB B _) (by decide)) (rg0 (P := fun B => oB B _) (by decide))
      exact tB_X9_findLeads_175 (n24 := n24) (k24 := k24) (hk24 := hk24) S22 hS22 _ qp1 ep1 (by omega) (by omega)
  · skip
    have d1 := mt (e_le (e_add (e_mul k10 ep1) e2) ep2 (by omega) (by omega)).mpr c1
    exact tL_X9_findLeads_102 (w390 := w390) (n24 := n24) (k24 := k24) (hk24 := hk24) (n85 := n) (k85 := rec) (hk85 := hrec) FU S hS _ qp1 ep1 (by omega) _ qp2 ep2 (by omega) _ 0 k0 (by omega) (by omega) (by omega) (by omega)
theorem tL_X9_findLeads_85 {m : Nat} {G : Nat → Nat} {Λ : sLay} {Y : gY} (w390 : Y.2.2 390 = false) {n24 : Nat} {k24 : sSt → Nat → Int32 → Option sSt} (hk24 : ∀ (S : sSt) (hS : MI m G Λ Y S) (p1 : Int32) (qp1 : Nat) (ep1 : p1 = nI qp1) (bp1 : qp1 ≤ 16), (17 ≤ qp1 + n24) → T (k24 S m p1) (fun r : sSt => MI m G Λ Y r ∧ Tr G r)) : ∀ (n : Nat) (S : sSt) (hS : MI m G Λ Y S) (p1 : Int32) (qp1 : Nat) (ep1 : p1 = nI qp1) (bp1 : qp1 ≤ 15) (p2 : Int32) (qp2 : Nat) (ep2 : p2 = nI qp2) (bp2 : qp2 ≤ 160) (_ : 17 ≤ qp1 + n24 + 1) (_ : 161 ≤ qp2 + n), T (L_X9_findLeads_85 Λ.2.2 k24 n S m p1 p2) (fun r : sSt => MI m G Λ Y r ∧ Tr G r) := by
  intro n
  induction n with
  | zero =>
    intro S hS p1 qp1 ep1 bp1 p2 qp2 ep2 bp2 f0 hm
    exfalso
    omega
  | succ n ih =>
    intro S hS p1 qp1 ep1 bp1 p2 qp2 ep2 bp2 f0 hm
    exact tY_X9_findLeads_85 (w390 := w390) (n := n) (rec := L_X9_findLeads_85 Λ.2.2 k24 n) (hrec := ih) (n24 := n24) (k24 := k24) (hk24 := hk24) (S := S) (hS := hS) (p1 := p1) (qp1 := qp1) (ep1 := ep1) (bp1 := bp1) (p2 := p2) (qp2 := qp2) (ep2 := ep2) (bp2 := bp2) (f0 := f0) (hm := hm)
set_option maxHeartbeats 1000000 in
theorem tY_X9_findLeads_43 {m : Nat} {G : Nat → Nat} {Λ : sLay} {Y : gY} (w390 : Y.2.2 390 = false) {n24 : Nat} {k24 : sSt → Nat → Int32 → Option sSt} (hk24 : ∀ (S : sSt) (hS : MI m G Λ Y S) (p1 : Int32) (qp1 : Nat) (ep1 : p1 = nI qp1) (bp1 : qp1 ≤ 16), (17 ≤ qp1 + n24) → T (k24 S m p1) (fun r : sSt => MI m G Λ Y r ∧ Tr G r)) {n : Nat} {rec : sSt → Nat → Int32 → Int32 → Option sSt} (hrec : ∀ (S : sSt) (hS : MI m G Λ Y S) (p1 : Int32) (qp1 : Nat) (ep1 : p1 = nI qp1) (bp1 : qp1 ≤ 15) (p2 : Int32) (qp2 : Nat) (ep2 : p2 = nI qp2) (bp2 : qp2 ≤ 12), (17 ≤ qp1 + n24 + 1) → (13 ≤ qp2 + n) → T (rec S m p1 p2) (fun r : sSt => MI m G Λ Y r ∧ Tr G r)) (S : sSt) (hS : MI m G Λ Y S) (p1 : Int32) (qp1 : Nat) (ep1 : p1 = nI qp1) (bp1 : qp1 ≤ 15) (p2 : Int32) (qp2 : Nat) (ep2 : p2 = nI qp2) (bp2 : qp2 ≤ 12) (f0 : 17 ≤ qp1 + n24 + 1) (hm : 13 ≤ qp2 + (n + 1)) : T (Y_X9_findLeads_43 Λ.2.2 k24 rec S m p1 p2) (fun r : sSt => MI m G Λ Y r ∧ Tr G r) := by
  unfold Y_X9_findLeads_43
  have hFU := FU_big
  refine T_m ((hS).c.rf (f := 371) (by decide)) ?_
  refine T_bsome ?_
  refine T_gi (g_in ((hS).c.l (f := 371) (kd := 10) (n := 16) (by decide)) ep1 (by omega) (by omega)) ?_
  obtain ⟨j2, g2, e2⟩ := (hS).c.n (f := 371) (B := 12) (by decide) (Int32.toNatClampNeg p1)
  refine T_ite (fun c1 => ?_) (fun c1 => ?_)
  · skip
    have d1 := (e_le e2 ep2 (by omega) (by omega)).mp c1
    exact tL_X9_findLeads_85 (w390 := w390) (n24 := n24) (k24 := k24) (hk24 := hk24) FU S hS _ qp1 ep1 (by omega) _ (10 * qp1) (e_mul k10 ep1) (by omega) (by omega) (by omega)
  · skip
    have d1 := mt (e_le e2 ep2 (by omega) (by omega)).mpr c1
    refine T_m ((hS).c.rf (f := 372) (by decide)) ?_
    refine T_bsome ?_
    refine T_gi (g_in ((hS).c.l (f := 372) (kd := 10) (n := 192) (by decide)) (e_add (e_mul k12 ep1) ep2) (by omega) (by omega)) ?_
    refine T_bind (tF_X9_find S hS _ qp1 ep1 (by omega) _) (fun v33 rv33 => ?_)
    refine T_bind (tF_X9_points (w390 := w390) S hS _ qp1 ep1 (by omega) _ rv33) (fun S36 rS36 => ?_)
    have hS36 := rS36
    exact hrec S36 hS36 _ qp1 ep1 (by omega) _ (qp2 + 1) (e_add ep2 k1) (by omega) (by omega) (by omega)
theorem tL_X9_findLeads_43 {m : Nat} {G : Nat → Nat} {Λ : sLay} {Y : gY} (w390 : Y.2.2 390 = false) {n24 : Nat} {k24 : sSt → Nat → Int32 → Option sSt} (hk24 : ∀ (S : sSt) (hS : MI m G Λ Y S) (p1 : Int32) (qp1 : Nat) (ep1 : p1 = nI qp1) (bp1 : qp1 ≤ 16), (17 ≤ qp1 + n24) → T (k24 S m p1) (fun r : sSt => MI m G Λ Y r ∧ Tr G r)) : ∀ (n : Nat) (S : sSt) (hS : MI m G Λ Y S) (p1 : Int32) (qp1 : Nat) (ep1 : p1 = nI qp1) (bp1 : qp1 ≤ 15) (p2 : Int32) (qp2 : Nat) (ep2 : p2 = nI qp2) (bp2 : qp2 ≤ 12) (_ : 17 ≤ qp1 + n24 + 1) (_ : 13 ≤ qp2 + n), T (L_X9_findLeads_43 Λ.2.2 k24 n S m p1 p2) (fun r : sSt => MI m G Λ Y r ∧ Tr G r) := by
  intro n
  induction n with
  | zero =>
    intro S hS p1 qp1 ep1 bp1 p2 qp2 ep2 bp2 f0 hm
    exfalso
    omega
  | succ n ih =>
    intro S hS p1 qp1 ep1 bp1 p2 qp2 ep2 bp2 f0 hm
    exact tY_X9_findLeads_43 (w390 := w390) (n := n) (rec := L_X9_findLeads_43 Λ.2.2 k24 n) (hrec := ih) (n24 := n24) (k24 := k24) (hk24 := hk24) (S := S) (hS := hS) (p1 := p1) (qp1 := qp1) (ep1 := ep1) (bp1 := bp1) (p2 := p2) (qp2 := qp2) (ep2 := ep2) (bp2 := bp2) (f0 := f0) (hm := hm)
set_option maxHeartbeats 1000000 in
theorem tY_X9_findLeads_24 {m : Nat} {G : Nat → Nat} {Λ : sLay} {Y : gY} (w390 : Y.2.2 390 = false) {n : Nat} {rec : sSt → Nat → Int32 → Option sSt} (hrec : ∀ (S : sSt) (hS : MI m G Λ Y S) (p1 : Int32) (qp1 : Nat) (ep1 : p1 = nI qp1) (bp1 : qp1 ≤ 16), (17 ≤ qp1 + n) → T (rec S m p1) (fun r : sSt => MI m G Λ Y r ∧ Tr G r)) (S : sSt) (hS : MI m G Λ Y S) (p1 : Int32) (qp1 : Nat) (ep1 : p1 = nI qp1) (bp1 : qp1 ≤ 16) (hm : 17 ≤ qp1 + (n + 1)) : T (Y_X9_findLeads_24 Λ.2.2 rec S m p1) (fun r : sSt => MI m G Λ Y r ∧ Tr G r) := by
  unfold Y_X9_findLeads_24
  have hFU := FU_big
  obtain ⟨j2, g2, e2⟩ := (hS).c.f (f := 361) (B := 16) (by decide)
  refine T_ite (fun c1 => ?_) (fun c1 => ?_)
  · skip
    have d1 := (e_le e2 ep1 (by omega) (by omega)).mp c1
    exact tL_X9_findLeads_183 (w390 := w390) FU S hS _ 0 k0 (by omega) (fun j a b hj => absurd hj (by omega)) (by omega)
  · skip
    have d1 := mt (e_le e2 ep1 (by omega) (by omega)).mpr c1
    refine T_m ((hS).c.rf (f := 362) (by decide)) ?_
    refine T_bsome ?_
    refine T_gi (g_in ((hS).c.l (f := 362) (kd := 12) (n := 16) (by decide)) ep1 (by omega) (by omega)) ?_
    refine T_ite (fun c3 => ?_) (fun c3 => ?_)
    · skip
      exact tB_X9_findLeads_175 (n24 := n) (k24 := rec) (hk24 := hrec) S hS _ qp1 ep1 (by omega) (by omega)
    · skip
      exact tL_X9_findLeads_43 (w390 := w390) (n24 := n) (k24 := rec) (hk24 := hrec) FU S hS _ qp1 ep1 (by omega) _ 0 k0 (by omega) (by omega) (by omega)
theorem tL_X9_findLeads_24 {m : Nat} {G : Nat → Nat} {Λ : sLay} {Y : gY} (w390 : Y.2.2 390 = false) : ∀ (n : Nat) (S : sSt) (hS : MI m G Λ Y S) (p1 : Int32) (qp1 : Nat) (ep1 : p1 = nI qp1) (bp1 : qp1 ≤ 16) (_ : 17 ≤ qp1 + n), T (L_X9_findLeads_24 Λ.2.2 n S m p1) (fun r : sSt => MI m G Λ Y r ∧ Tr G r) := by
  intro n
  induction n with
  | zero =>
    intro S hS p1 qp1 ep1 bp1 hm
    exfalso
    omega
  | succ n ih =>
    intro S hS p1 qp1 ep1 bp1 hm
    exact tY_X9_findLeads_24 (w390 := w390) (n := n) (rec := L_X9_findLeads_24 Λ.2.2 n) (hrec := ih) (S := S) (hS := hS) (p1 := p1) (qp1 := qp1) (ep1 := ep1) (bp1 := bp1) (hm := hm)
set_option maxHeartbeats 1000000 in
theorem tY_X9_findLeads_2 {m : Nat} {G : Nat → Nat} {Λ : sLay} {Y : gY} (w390 : Y.2.2 390 = false) {n : Nat} {rec : sSt → Nat → Int32 → Option sSt} (hrec : ∀ (S : sSt) (hS : MI m G Λ Y S) (p1 : Int32) (qp1 : Nat) (ep1 : p1 = nI qp1) (bp1 : qp1 ≤ 256), (257 ≤ qp1 + n) → T (rec S m p1) (fun r : sSt => MI m G Λ Y r ∧ Tr G r)) (S : sSt) (hS : MI m G Λ Y S) (p1 : Int32) (qp1 : Nat) (ep1 : p1 = nI qp1) (bp1 : qp1 ≤ 256) (hm : 257 ≤ qp1 + (n + 1)) : T (Y_X9_findLeads_2 Λ.2.2 rec S m p1) (fun r : sSt => MI m G Λ Y r ∧ Tr G r) := by
  unfold Y_X9_findLeads_2
  have hFU := FU_big
  refine T_ite (fun c1 => ?_) (fun c1 => ?_)
  · skip
    have d1 := (e_le k256 ep1 (by omega) (by omega)).mp c1
    exact tL_X9_findLeads_24 (w390 := w390) FU S hS _ 0 k0 (by omega) (by omega)
  · skip
    have d1 := mt (e_le k256 ep1 (by omega) (by omega)).mpr c1
    refine T_m ((hS).c.rf (f := 390) (by decide)) ?_
    refine T_bsome ?_
    refine T_gi (g_in ((hS).c.l (f := 390) (kd := 12) (n := 256) (by decide)) ep1 (by omega) (by omega)) ?_
    refine T_st (fun S39 eS39 => ?_)
    have hS39 : MI m G Λ Y S39 := by rw [eS39]; exact (hS).wI (f := 390) (by decide) w390 (rg0 (P := fun B => nB B _) (by decide)) (rg0 (P := fun B => oB B _) (by decide))
    exact hrec S39 hS39 _ (qp1 + 1) (e_add ep1 k1) (by omega) (by omega)
theorem tL_X9_findLeads_2 {m : Nat} {G : Nat → Nat} {Λ : sLay} {Y : gY} (w390 : Y.2.2 390 = false) : ∀ (n : Nat) (S : sSt) (hS : MI m G Λ Y S) (p1 : Int32) (qp1 : Nat) (ep1 : p1 = nI qp1) (bp1 : qp1 ≤ 256) (_ : 257 ≤ qp1 + n), T (L_X9_findLeads_2 Λ.2.2 n S m p1) (fun r : sSt => MI m G Λ Y r ∧ Tr G r) := by
  intro n
  induction n with
  | zero =>
    intro S hS p1 qp1 ep1 bp1 hm
    exfalso
    omega
  | succ n ih =>
    intro S hS p1 qp1 ep1 bp1 hm
    exact tY_X9_findLeads_2 (w390 := w390) (n := n) (rec := L_X9_findLeads_2 Λ.2.2 n) (hrec := ih) (S := S) (hS := hS) (p1 := p1) (qp1 := qp1) (ep1 := ep1) (bp1 := bp1) (hm := hm)
set_option maxHeartbeats 1000000 in
theorem tF_X9_findLeads {m : Nat} {G : Nat → Nat} {Λ : sLay} {Y : gY} (w390 : Y.2.2 390 = false) (S : sSt) (hS : MI m G Λ Y S) : T (F_X9_findLeads Λ.2.2 S m) (fun r : sSt => MI m G Λ Y r ∧ Tr G r) := by
  unfold F_X9_findLeads
  have hFU := FU_big
  exact tL_X9_findLeads_2 (w390 := w390) FU S hS _ 0 k0 (by omega) (by omega)
set_option maxHeartbeats 1000000 in
theorem tB_X9_unitsThere_27 {m : Nat} {G : Nat → Nat} {Λ : sLay} {Y : gY} (S : sSt) (hS : MI m G Λ Y S) {n4 : Nat} {k4 : Nat → Int32 → Int32 → Option Int32} (hk4 : ∀ (p1 : Int32) (p2 : Int32) (qp2 : Nat) (ep2 : p2 = nI qp2) (bp2 : qp2 ≤ 16), (p1 = nI (thr G S qp2)) → (∃ c, c ≤ 16 ∧ gFI S 361 m = nI c ∧ qp2 ≤ c) → (17 ≤ qp2 + n4) → T (k4 m p1 p2) (fun r : Int32 => ∃ c, c ≤ 16 ∧ gFI S 361 m = nI c ∧ r = nI (thr G S c))) (p2 : Int32) (qp2 : Nat) (ep2 : p2 = nI qp2) (bp2 : qp2 ≤ 15) (s0 : Int32) (s1 : Int32) (f0 : s1 + s0 = nI (thr G S (qp2 + 1))) (f1 : ∃ c, c ≤ 16 ∧ gFI S 361 m = nI c ∧ qp2 + 1 ≤ c) (f2 : 17 ≤ qp2 + n4 + 1) : T (B_X9_unitsThere_27 Λ.2.2 S k4 m p2 s0 s1) (fun r : Int32 => ∃ c, c ≤ 16 ∧ gFI S 361 m = nI c ∧ r = nI (thr G S c)) := by
  unfold B_X9_unitsThere_27
  exact hk4 _ _ (qp2 + 1) (e_add ep2 k1) (by omega) f0 f1 (by omega)
set_option maxHeartbeats 1000000 in
theorem tY_X9_unitsThere_4 {m : Nat} {G : Nat → Nat} {Λ : sLay} {Y : gY} (S : sSt) (hS : MI m G Λ Y S) {n : Nat} {rec : Nat → Int32 → Int32 → Option Int32} (hrec : ∀ (p1 : Int32) (p2 : Int32) (qp2 : Nat) (ep2 : p2 = nI qp2) (bp2 : qp2 ≤ 16), (p1 = nI (thr G S qp2)) → (∃ c, c ≤ 16 ∧ gFI S 361 m = nI c ∧ qp2 ≤ c) → (17 ≤ qp2 + n) → T (rec m p1 p2) (fun r : Int32 => ∃ c, c ≤ 16 ∧ gFI S 361 m = nI c ∧ r = nI (thr G S c))) (p1 : Int32) (p2 : Int32) (qp2 : Nat) (ep2 : p2 = nI qp2) (bp2 : qp2 ≤ 16) (f0 : p1 = nI (thr G S qp2)) (f1 : ∃ c, c ≤ 16 ∧ gFI S 361 m = nI c ∧ qp2 ≤ c) (hm : 17 ≤ qp2 + (n + 1)) : T (Y_X9_unitsThere_4 Λ.2.2 S rec m p1 p2) (fun r : Int32 => ∃ c, c ≤ 16 ∧ gFI S 361 m = nI c ∧ r = nI (thr G S c)) := by
  unfold Y_X9_unitsThere_4
  obtain ⟨c, hc, ec, hq⟩ := f1
  refine T_ite (fun h => T_some ⟨c, hc, ec, ?_⟩) (fun h => ?_)
  · have d := (e_le ec ep2 (by omega) (by omega)).mp h
    have e : qp2 = c := by omega
    rw [f0, e]
  · have d := mt (e_le ec ep2 (by omega) (by omega)).mpr h
    refine T_m (hS.c.rf (f := 362) (by decide)) (T_bsome ?_)
    refine T_gi (g_in (hS.c.l (f := 362) (kd := 12) (n := 16) (by decide)) ep2 (by omega) (by omega)) ?_
    have i1 := e_clamp ep2 (by omega)
    refine T_ite (fun h0 => ?_) (fun h0 => ?_)
    · rw [i1] at h0
      exact tB_X9_unitsThere_27 S hS (hk4 := hrec) _ qp2 ep2 (by omega) _ _ (by rw [thr_s0 h0]; exact e_add f0 k0) ⟨c, hc, ec, by omega⟩ (by omega)
    · rw [i1] at h0
      exact tB_X9_unitsThere_27 S hS (hk4 := hrec) _ qp2 ep2 (by omega) _ _ (by rw [thr_s1 h0]; exact e_add f0 k1) ⟨c, hc, ec, by omega⟩ (by omega)
theorem tL_X9_unitsThere_4 {m : Nat} {G : Nat → Nat} {Λ : sLay} {Y : gY} (S : sSt) (hS : MI m G Λ Y S) : ∀ (n : Nat) (p1 : Int32) (p2 : Int32) (qp2 : Nat) (ep2 : p2 = nI qp2) (bp2 : qp2 ≤ 16) (_ : p1 = nI (thr G S qp2)) (_ : ∃ c, c ≤ 16 ∧ gFI S 361 m = nI c ∧ qp2 ≤ c) (_ : 17 ≤ qp2 + n), T (L_X9_unitsThere_4 Λ.2.2 S n m p1 p2) (fun r : Int32 => ∃ c, c ≤ 16 ∧ gFI S 361 m = nI c ∧ r = nI (thr G S c)) := by
  intro n
  induction n with
  | zero =>
    intro p1 p2 qp2 ep2 bp2 f0 f1 hm
    exfalso
    omega
  | succ n ih =>
    intro p1 p2 qp2 ep2 bp2 f0 f1 hm
    exact tY_X9_unitsThere_4 S hS (n := n) (rec := L_X9_unitsThere_4 Λ.2.2 S n) (hrec := ih) (p1 := p1) (p2 := p2) (qp2 := qp2) (ep2 := ep2) (bp2 := bp2) (f0 := f0) (f1 := f1) (hm := hm)
set_option maxHeartbeats 1000000 in
theorem tF_X9_unitsThere {m : Nat} {G : Nat → Nat} {Λ : sLay} {Y : gY} (S : sSt) (hS : MI m G Λ Y S) : T (F_X9_unitsThere Λ.2.2 S m) (fun r : Int32 => ∃ c, c ≤ 16 ∧ gFI S 361 m = nI c ∧ r = nI (thr G S c)) := by
  unfold F_X9_unitsThere
  have hFU := FU_big
  obtain ⟨c, hc, ec⟩ := hS.c.f (f := 361) (B := 16) (by decide)
  exact tL_X9_unitsThere_4 S hS FU _ _ 0 k0 (by omega) rfl ⟨c, hc, ec, by omega⟩ (by omega)
set_option maxHeartbeats 1000000 in
theorem tF_X9_areOne {m : Nat} {G : Nat → Nat} {Λ : sLay} {Y : gY} (S : sSt) (hS : MI m G Λ Y S) (p1 : Int32) (qp1 : Nat) (ep1 : p1 = nI qp1) (bp1 : qp1 ≤ 15) (p2 : Int32) (qp2 : Nat) (ep2 : p2 = nI qp2) (bp2 : qp2 ≤ 15) : T (F_X9_areOne Λ.2.2 S m p1 p2) (fun r : Int32 => (r = 0 ∨ r = 1) ∧ (r ≠ 0 ↔ One G S qp1 qp2)) := by
  unfold F_X9_areOne
  have i1 := e_clamp (e_add (e_mul k16 ep1) ep2) (by omega)
  have i2 := e_clamp (e_add (e_mul k16 ep2) ep1) (by omega)
  refine T_ite (fun c => ?_) (fun c => ?_)
  · unfold B_X9_areOne_33
    exact T_some ⟨Or.inr rfl, fun _ => Or.inl ((e_eq ep1 ep2 (by omega) (by omega)).mp c), fun _ => by decide⟩
  · have d := mt (e_eq ep1 ep2 (by omega) (by omega)).mpr c
    refine T_m (hS.c.rf (f := 390) (by decide)) (T_bsome ?_)
    refine T_gi (g_in (hS.c.l (f := 390) (kd := 12) (n := 256) (by decide)) (e_add (e_mul k16 ep1) ep2) (by omega) (by omega)) ?_
    refine T_ite (fun h => T_some ⟨Or.inl rfl, fun z => absurd rfl z, fun z => ?_⟩) (fun h => ?_)
    · rw [i1] at h
      exact absurd h (z.elim (fun y => absurd y d) (fun y => y.1))
    · rw [i1] at h
      refine T_m (hS.c.rf (f := 390) (by decide)) (T_bsome ?_)
      refine T_gi (g_in (hS.c.l (f := 390) (kd := 12) (n := 256) (by decide)) (e_add (e_mul k16 ep2) ep1) (by omega) (by omega)) ?_
      refine T_ite (fun g => T_some ⟨Or.inl rfl, fun z => absurd rfl z, fun z => ?_⟩) (fun g => ?_)
      · rw [i2] at g
        exact absurd g (z.elim (fun y => absurd y d) (fun y => y.2))
      · rw [i2] at g
        unfold B_X9_areOne_33
        exact T_some ⟨Or.inr rfl, fun _ => Or.inr ⟨h, g⟩, fun _ => by decide⟩
set_option maxHeartbeats 1000000 in
theorem tB_X9_mayCome_64 {m : Nat} {G : Nat → Nat} {Λ : sLay} {Y : gY} (S : sSt) (hS : MI m G Λ Y S) {n4 : Nat} {k4 : Nat → Int32 → Int32 → Int32 → Option Int32} (hk4 : ∀ (p1 : Int32) (qp1 : Nat) (ep1 : p1 = nI qp1) (bp1 : qp1 ≤ 15) (p2 : Int32) (bp2 : p2 = 0 ∨ p2 = 1) (p3 : Int32) (qp3 : Nat) (ep3 : p3 = nI qp3) (bp3 : qp3 ≤ 16), (p2 ≠ 0 ↔ ∀ v, v < qp3 → Ok1 G S qp1 v) → (∃ c, c ≤ 16 ∧ gFI S 361 m = nI c ∧ qp3 ≤ c) → (17 ≤ qp3 + n4) → T (k4 m p1 p2 p3) (fun r : Int32 => (r = 0 ∨ r = 1) ∧ ∀ c, c ≤ 16 → gFI S 361 m = nI c → (r ≠ 0 ↔ ∀ v, v < c → Ok1 G S qp1 v))) (p1 : Int32) (qp1 : Nat) (ep1 : p1 = nI qp1) (bp1 : qp1 ≤ 15) (p3 : Int32) (qp3 : Nat) (ep3 : p3 = nI qp3) (bp3 : qp3 ≤ 15) (s0 : Int32) (bs0 : s0 = 0 ∨ s0 = 1) (f0 : s0 ≠ 0 ↔ ∀ v, v < qp3 + 1 → Ok1 G S qp1 v) (f1 : ∃ c, c ≤ 16 ∧ gFI S 361 m = nI c ∧ qp3 + 1 ≤ c) (f2 : 17 ≤ qp3 + n4 + 1) : T (B_X9_mayCome_64 Λ.2.2 S k4 m p1 p3 s0) (fun r : Int32 => (r = 0 ∨ r = 1) ∧ ∀ c, c ≤ 16 → gFI S 361 m = nI c → (r ≠ 0 ↔ ∀ v, v < c → Ok1 G S qp1 v)) := by
  unfold B_X9_mayCome_64
  exact hk4 _ qp1 ep1 bp1 _ bs0 _ (qp3 + 1) (e_add ep3 k1) (by omega) f0 f1 (by omega)
set_option maxHeartbeats 1000000 in
theorem tB_X9_mayCome_63 {m : Nat} {G : Nat → Nat} {Λ : sLay} {Y : gY} (S : sSt) (hS : MI m G Λ Y S) {n4 : Nat} {k4 : Nat → Int32 → Int32 → Int32 → Option Int32} (hk4 : ∀ (p1 : Int32) (qp1 : Nat) (ep1 : p1 = nI qp1) (bp1 : qp1 ≤ 15) (p2 : Int32) (bp2 : p2 = 0 ∨ p2 = 1) (p3 : Int32) (qp3 : Nat) (ep3 : p3 = nI qp3) (bp3 : qp3 ≤ 16), (p2 ≠ 0 ↔ ∀ v, v < qp3 → Ok1 G S qp1 v) → (∃ c, c ≤ 16 ∧ gFI S 361 m = nI c ∧ qp3 ≤ c) → (17 ≤ qp3 + n4) → T (k4 m p1 p2 p3) (fun r : Int32 => (r = 0 ∨ r = 1) ∧ ∀ c, c ≤ 16 → gFI S 361 m = nI c → (r ≠ 0 ↔ ∀ v, v < c → Ok1 G S qp1 v))) (p1 : Int32) (qp1 : Nat) (ep1 : p1 = nI qp1) (bp1 : qp1 ≤ 15) (p3 : Int32) (qp3 : Nat) (ep3 : p3 = nI qp3) (bp3 : qp3 ≤ 15) (f0 : ¬ ∀ v, v < qp3 + 1 → Ok1 G S qp1 v) (f1 : ∃ c, c ≤ 16 ∧ gFI S 361 m = nI c ∧ qp3 + 1 ≤ c) (f2 : 17 ≤ qp3 + n4 + 1) : T (B_X9_mayCome_63 Λ.2.2 S k4 m p1 p3) (fun r : Int32 => (r = 0 ∨ r = 1) ∧ ∀ c, c ≤ 16 → gFI S 361 m = nI c → (r ≠ 0 ↔ ∀ v, v < c → Ok1 G S qp1 v)) := by
  unfold B_X9_mayCome_63
  exact tB_X9_mayCome_64 S hS (hk4 := hk4) _ qp1 ep1 bp1 _ qp3 ep3 bp3 _ (Or.inl rfl) ⟨fun z => absurd rfl z, fun z => absurd z f0⟩ f1 (by omega)
set_option maxHeartbeats 1000000 in
theorem tB_X9_mayCome_59 {m : Nat} {G : Nat → Nat} {Λ : sLay} {Y : gY} (S : sSt) (hS : MI m G Λ Y S) {n4 : Nat} {k4 : Nat → Int32 → Int32 → Int32 → Option Int32} (hk4 : ∀ (p1 : Int32) (qp1 : Nat) (ep1 : p1 = nI qp1) (bp1 : qp1 ≤ 15) (p2 : Int32) (bp2 : p2 = 0 ∨ p2 = 1) (p3 : Int32) (qp3 : Nat) (ep3 : p3 = nI qp3) (bp3 : qp3 ≤ 16), (p2 ≠ 0 ↔ ∀ v, v < qp3 → Ok1 G S qp1 v) → (∃ c, c ≤ 16 ∧ gFI S 361 m = nI c ∧ qp3 ≤ c) → (17 ≤ qp3 + n4) → T (k4 m p1 p2 p3) (fun r : Int32 => (r = 0 ∨ r = 1) ∧ ∀ c, c ≤ 16 → gFI S 361 m = nI c → (r ≠ 0 ↔ ∀ v, v < c → Ok1 G S qp1 v))) (p1 : Int32) (qp1 : Nat) (ep1 : p1 = nI qp1) (bp1 : qp1 ≤ 15) (p3 : Int32) (qp3 : Nat) (ep3 : p3 = nI qp3) (bp3 : qp3 ≤ 15) (f0 : ∀ v, v < qp3 + 1 → Ok1 G S qp1 v) (f1 : ∃ c, c ≤ 16 ∧ gFI S 361 m = nI c ∧ qp3 + 1 ≤ c) (f2 : 17 ≤ qp3 + n4 + 1) : T (B_X9_mayCome_59 Λ.2.2 S k4 m p1 p3) (fun r : Int32 => (r = 0 ∨ r = 1) ∧ ∀ c, c ≤ 16 → gFI S 361 m = nI c → (r ≠ 0 ↔ ∀ v, v < c → Ok1 G S qp1 v)) := by
  unfold B_X9_mayCome_59
  exact tB_X9_mayCome_64 S hS (hk4 := hk4) _ qp1 ep1 bp1 _ qp3 ep3 bp3 _ (Or.inr rfl) ⟨fun _ => f0, fun _ => by decide⟩ f1 (by omega)
set_option maxHeartbeats 1000000 in
theorem tY_X9_mayCome_4 {m : Nat} {G : Nat → Nat} {Λ : sLay} {Y : gY} (S : sSt) (hS : MI m G Λ Y S) {n : Nat} {rec : Nat → Int32 → Int32 → Int32 → Option Int32} (hrec : ∀ (p1 : Int32) (qp1 : Nat) (ep1 : p1 = nI qp1) (bp1 : qp1 ≤ 15) (p2 : Int32) (bp2 : p2 = 0 ∨ p2 = 1) (p3 : Int32) (qp3 : Nat) (ep3 : p3 = nI qp3) (bp3 : qp3 ≤ 16), (p2 ≠ 0 ↔ ∀ v, v < qp3 → Ok1 G S qp1 v) → (∃ c, c ≤ 16 ∧ gFI S 361 m = nI c ∧ qp3 ≤ c) → (17 ≤ qp3 + n) → T (rec m p1 p2 p3) (fun r : Int32 => (r = 0 ∨ r = 1) ∧ ∀ c, c ≤ 16 → gFI S 361 m = nI c → (r ≠ 0 ↔ ∀ v, v < c → Ok1 G S qp1 v))) (p1 : Int32) (qp1 : Nat) (ep1 : p1 = nI qp1) (bp1 : qp1 ≤ 15) (p2 : Int32) (bp2 : p2 = 0 ∨ p2 = 1) (p3 : Int32) (qp3 : Nat) (ep3 : p3 = nI qp3) (bp3 : qp3 ≤ 16) (f0 : p2 ≠ 0 ↔ ∀ v, v < qp3 → Ok1 G S qp1 v) (f1 : ∃ c, c ≤ 16 ∧ gFI S 361 m = nI c ∧ qp3 ≤ c) (hm : 17 ≤ qp3 + (n + 1)) : T (Y_X9_mayCome_4 Λ.2.2 S rec m p1 p2 p3) (fun r : Int32 => (r = 0 ∨ r = 1) ∧ ∀ c, c ≤ 16 → gFI S 361 m = nI c → (r ≠ 0 ↔ ∀ v, v < c → Ok1 G S qp1 v)) := by
  unfold Y_X9_mayCome_4
  obtain ⟨c, hc, ec, hq⟩ := f1
  refine T_ite (fun h => ?_) (fun h => ?_)
  · have d := (e_le ec ep3 (by omega) (by omega)).mp h
    have e : qp3 = c := by omega
    refine T_gb bp2 (T_some ⟨bp2, fun c' hc' ec' => ?_⟩)
    have e2 : c' = c := (e_eq (a := gFI S 361 m) (b := gFI S 361 m) ec' ec (by omega) (by omega)).mp rfl
    rw [e2, ← e]
    exact f0
  · have d := mt (e_le ec ep3 (by omega) (by omega)).mpr h
    have i3 := e_clamp ep3 (by omega)
    have go0 : (¬ ∀ v, v < qp3 + 1 → Ok1 G S qp1 v) → T (B_X9_mayCome_63 Λ.2.2 S rec m p1 p3) (fun r : Int32 => (r = 0 ∨ r = 1) ∧ ∀ c, c ≤ 16 → gFI S 361 m = nI c → (r ≠ 0 ↔ ∀ v, v < c → Ok1 G S qp1 v)) := fun hs => tB_X9_mayCome_63 S hS (hk4 := hrec) _ qp1 ep1 bp1 _ qp3 ep3 (by omega) hs ⟨c, hc, ec, by omega⟩ (by omega)
    have go1 : (∀ v, v < qp3 + 1 → Ok1 G S qp1 v) → T (B_X9_mayCome_59 Λ.2.2 S rec m p1 p3) (fun r : Int32 => (r = 0 ∨ r = 1) ∧ ∀ c, c ≤ 16 → gFI S 361 m = nI c → (r ≠ 0 ↔ ∀ v, v < c → Ok1 G S qp1 v)) := fun hs => tB_X9_mayCome_59 S hS (hk4 := hrec) _ qp1 ep1 bp1 _ qp3 ep3 (by omega) hs ⟨c, hc, ec, by omega⟩ (by omega)
    refine T_ite (fun h0 => go0 (fun z => f0.mpr (fun v hv => z v (by omega)) h0)) (fun h0 => ?_)
    have hall := f0.mp h0
    refine T_m (hS.c.rf (f := 362) (by decide)) (T_bsome ?_)
    refine T_gi (g_in (hS.c.l (f := 362) (kd := 12) (n := 16) (by decide)) ep3 (by omega) (by omega)) ?_
    refine T_ite (fun h1 => go1 (all_snoc hall (Or.inl (by rw [i3] at h1; exact h1)))) (fun h1 => ?_)
    rw [i3] at h1
    refine T_m (hS.c.rf (f := 390) (by decide)) (T_bsome ?_)
    refine T_gi (g_in (hS.c.l (f := 390) (kd := 12) (n := 256) (by decide)) (e_add (e_mul k16 ep1) ep3) (by omega) (by omega)) ?_
    have i4 := e_clamp (e_add (e_mul k16 ep1) ep3) (by omega)
    refine T_ite (fun h2 => go1 (all_snoc hall (Or.inr (Or.inl (fun z => z (by rw [i4] at h2; exact h2)))))) (fun h2 => ?_)
    rw [i4] at h2
    refine T_m (hS.c.rf (f := 391) (by decide)) (T_bsome ?_)
    refine T_gi (g_in (hS.c.l (f := 391) (kd := 10) (n := 16) (by decide)) ep3 (by omega) (by omega)) ?_
    refine T_ite (fun h3 => ?_) (fun h3 => go1 (all_snoc hall (Or.inr (Or.inr (Or.inl (by rw [i3] at h3; exact h3))))))
    rw [i3] at h3
    refine T_bind (tF_X9_areOne S hS _ qp1 ep1 bp1 _ qp3 ep3 (by omega)) (fun v7 r7 => T_ite (fun h4 => go0 (fun z => ?_)) (fun h4 => go1 (all_snoc hall (Or.inr (Or.inr (Or.inr (r7.2.mp h4)))))))
    rcases z qp3 (by omega) with y | y | y | y
    · exact h1 y
    · exact y h2
    · exact y h3
    · exact r7.2.mpr y h4
theorem tL_X9_mayCome_4 {m : Nat} {G : Nat → Nat} {Λ : sLay} {Y : gY} (S : sSt) (hS : MI m G Λ Y S) : ∀ (n : Nat) (p1 : Int32) (qp1 : Nat) (ep1 : p1 = nI qp1) (bp1 : qp1 ≤ 15) (p2 : Int32) (bp2 : p2 = 0 ∨ p2 = 1) (p3 : Int32) (qp3 : Nat) (ep3 : p3 = nI qp3) (bp3 : qp3 ≤ 16) (_ : p2 ≠ 0 ↔ ∀ v, v < qp3 → Ok1 G S qp1 v) (_ : ∃ c, c ≤ 16 ∧ gFI S 361 m = nI c ∧ qp3 ≤ c) (_ : 17 ≤ qp3 + n), T (L_X9_mayCome_4 Λ.2.2 S n m p1 p2 p3) (fun r : Int32 => (r = 0 ∨ r = 1) ∧ ∀ c, c ≤ 16 → gFI S 361 m = nI c → (r ≠ 0 ↔ ∀ v, v < c → Ok1 G S qp1 v)) := by
  intro n
  induction n with
  | zero =>
    intro p1 qp1 ep1 bp1 p2 bp2 p3 qp3 ep3 bp3 f0 f1 hm
    exfalso
    omega
  | succ n ih =>
    intro p1 qp1 ep1 bp1 p2 bp2 p3 qp3 ep3 bp3 f0 f1 hm
    exact tY_X9_mayCome_4 S hS (n := n) (rec := L_X9_mayCome_4 Λ.2.2 S n) (hrec := ih) (p1 := p1) (qp1 := qp1) (ep1 := ep1) (bp1 := bp1) (p2 := p2) (bp2 := bp2) (p3 := p3) (qp3 := qp3) (ep3 := ep3) (bp3 := bp3) (f0 := f0) (f1 := f1) (hm := hm)
set_option maxHeartbeats 1000000 in
theorem tF_X9_mayCome {m : Nat} {G : Nat → Nat} {Λ : sLay} {Y : gY} (S : sSt) (hS : MI m G Λ Y S) (p1 : Int32) (qp1 : Nat) (ep1 : p1 = nI qp1) (bp1 : qp1 ≤ 15) : T (F_X9_mayCome Λ.2.2 S m p1) (fun r : Int32 => (r = 0 ∨ r = 1) ∧ ∀ c, c ≤ 16 → gFI S 361 m = nI c → (r ≠ 0 ↔ ∀ v, v < c → Ok1 G S qp1 v)) := by
  unfold F_X9_mayCome
  have hFU := FU_big
  obtain ⟨c, hc, ec⟩ := hS.c.f (f := 361) (B := 16) (by decide)
  exact tL_X9_mayCome_4 S hS FU _ qp1 ep1 bp1 _ (Or.inr rfl) _ 0 k0 (by omega) ⟨fun _ v hv => absurd hv (by omega), fun _ => by decide⟩ ⟨c, hc, ec, by omega⟩ (by omega)
set_option maxHeartbeats 2000000 in
theorem tY_X9_findOrder_87 {m : Nat} {G : Nat → Nat} {Λ : sLay} {Y : gY} {n41 : Nat} {k41 : sSt → Nat → Int32 → Option sSt}  (w391 : Y.2.2 391 = false) (w392 : Y.2.2 392 = false) (w393 : Y.2.2 393 = false) (w394 : Y.2.2 394 = false) (hk : KO m G Λ Y k41 n41) {n : Nat} {rec : sSt → Nat → Int32 → Int32 → Int32 → Option sSt} {W : sSt} {c u w0 : Nat} {p1 p2 : Int32} (hO : OI m G W c w0) (e1 : p1 = nI (thr G W c)) (hw : 17 ≤ w0 + (n41 + 1)) (hu : u < c) (hC : Cand G W c u) (hmin : ∀ x, x < u → ¬ Cand G W c x) (e2 : p2 = nI u)
    (hrec : ∀ S, MI m G Λ Y S → ∀ v w p3 g, p3 = nI v → RO m G W S c u g w0 v w → 17 ≤ v + n → T (rec S m p1 p2 p3) (fun r : sSt => MI m G Λ Y r)) (S : sSt) (hS : MI m G Λ Y S) (v w : Nat) (p3 : Int32) (g : Nat) (e3 : p3 = nI v) (h : RO m G W S c u g w0 v w) (hm : 17 ≤ v + (n + 1)) : T (Y_X9_findOrder_87 Λ.2.2 k41 rec S m p1 p2 p3) (fun r : sSt => MI m G Λ Y r) := by
  unfold Y_X9_findOrder_87
  have hw16 := hO.le
  obtain ⟨r362, r390, r361, rA, rB, r393, rw', r394, hg, hw0, hw1, huv, hvc⟩ := h
  obtain ⟨hc16, -, -, -, -, hT, hI⟩ := hO
  have hTr : ∀ a b, Rl G S a b ↔ Rl G W a b := fun a b => by unfold Rl; rw [r390]
  have hone : ∀ a b, One G S a b ↔ One G W a b := fun a b => by unfold One; rw [hTr, hTr]
  have hth : ∀ a, th G S a ↔ th G W a := fun a => by unfold th; rw [r362]
  refine T_ite (fun h0 => ?_) (fun h0 => ?_)
  · have d := (e_le r361 e3 (by omega) (by omega)).mp h0
    have hv1 := hw1 (by omega)
    refine T_st (fun S13 e13 => ?_)
    have h13 : MI m G Λ Y S13 := by rw [e13]; exact hS.wF (f := 394) w394 (rg0 (P := fun B => nB B _) (by decide))
    refine hk S13 h13 c w p1 ⟨hc16, ?_, ?_, ?_, ⟨g + 1, by omega, ?_⟩, ?_, ?_⟩ ?_ (by omega)
    · rw [e13, gFI_ne (by decide)]; exact r361
    · rw [e13, gFI_ne (by decide)]; exact r393
    · rw [e13]; exact rw'
    · rw [e13, gFI_sFI, if_pos ⟨rfl, rfl⟩]; exact e_add r394 k1
    · rw [e13]
      intro a b e ha hb he h1 h2
      exact (hTr a e).mpr (hT a b e ha hb he ((hTr a b).mp h1) ((hTr b e).mp h2))
    · rw [e13]
      intro x y hx hy tx ty ho hr
      have tx' : th G W x := (hth x).mp tx
      have ty' : th G W y := (hth y).mp ty
      have ho' : One G W x y := (hone x y).mp ho
      show rg G S x ≠ -5
      have hr' : rg G S y ≠ -5 := hr
      by_cases cx : u ≤ x ∧ One G W u x
      · rw [rA x ⟨cx.1, by omega, tx', cx.2⟩]
        exact ne5 (by omega)
      · rw [rB x (fun z => cx ⟨z.1, z.2.2.2⟩)]
        intro hx5
        have hy0 : rg G W y = -5 := Classical.byContradiction (fun z => hI x y hx hy tx' ty' ho' z hx5)
        have hyn : u ≤ y ∧ y < v ∧ th G W y ∧ One G W u y := Classical.byContradiction (fun z => hr' (by rw [rB y z, hy0]))
        have hux : One G W u x := One.tr hT (by omega) (by omega) (by omega) hyn.2.2.2 (One.sy ho')
        have hlt : x < u := Nat.lt_of_not_le (fun z => cx ⟨z, hux⟩)
        refine hmin x hlt ⟨tx', hx5, fun z hz => ?_⟩
        rcases hC.2.2 z hz with q | q | q | q
        · exact Or.inl q
        · refine Or.inr (Or.inl (fun y => q ?_))
          rcases hux with rfl | ⟨y1, -⟩
          · exact y
          · exact hT u x z (by omega) (by omega) (by omega) y1 y
        · exact Or.inr (Or.inr (Or.inl q))
        · exact Or.inr (Or.inr (Or.inr (One.tr hT (by omega) (by omega) (by omega) (One.sy hux) q)))
    · rw [e1]
      congr 1
      unfold thr
      refine cb_eq c (fun i _ => ?_)
      rw [e13]
      show decide (gAI W (G 362) i ≠ 0) = decide (gAI S (G 362) i ≠ 0)
      rw [r362]
  · have d := mt (e_le r361 e3 (by omega) (by omega)).mpr h0
    have i3 := e_clamp e3 (by omega)
    have go : ¬ (th G W v ∧ One G W u v) → T (rec S m p1 p2 (p3 + (1 : Int32))) (fun r : sSt => MI m G Λ Y r) := fun hn => by
      have hne : u ≠ v := fun e => hn ⟨e ▸ hC.1, Or.inl e⟩
      refine hrec S hS (v + 1) w _ g (e_add e3 k1) ⟨r362, r390, r361, fun x hx => ?_, fun x hx => rB x (fun z => hx ⟨z.1, by omega, z.2.2⟩), r393, rw', r394, hg, hw0, fun _ => hw1 (by omega), by omega, by omega⟩ (by omega)
      by_cases cx : x = v
      · rw [cx] at hx
        exact absurd hx.2.2 hn
      · exact rA x ⟨hx.1, by omega, hx.2.2⟩
    refine T_m (hS.c.rf (f := 362) (by decide)) (T_bsome ?_)
    refine T_gi (g_in (hS.c.l (f := 362) (kd := 12) (n := 16) (by decide)) e3 (by omega) (by omega)) ?_
    refine T_ite (fun h1 => go (fun z => z.1 (by rw [i3, r362] at h1; exact h1))) (fun h1 => ?_)
    have tv : th G W v := by rw [i3, r362] at h1; exact h1
    refine T_bind (tF_X9_areOne S hS _ u e2 (by omega) _ v e3 (by omega)) (fun v16 r16 => T_ite (fun h2 => go (fun z => r16.2.mpr ((hone u v).mpr z.2) h2)) (fun h2 => ?_))
    have ho := (hone u v).mp (r16.2.mp h2)
    have hv5 : rg G W v = -5 := Classical.byContradiction (fun z => hI u v hu (by omega) hC.1 tv ho z hC.2.1)
    have hs5 : rg G S v = -5 := by rw [rB v (fun z => absurd z.2.1 (Nat.lt_irrefl v)), hv5]
    have hwlt : w < 16 := by
      have q1 := cb_lt (f := fun u => decide (gAI S (G 362) u ≠ 0 ∧ gAI S (G 391) u ≠ -5)) (g := fun _ => true) (j := v) c (fun _ _ _ => rfl) (by omega) rfl (fun z => (of_decide_eq_true z).2 hs5)
      have q2 := cb_le (f := fun _ => true) c
      unfold pl at rw'
      omega
    refine T_m (hS.c.rf (f := 391) (by decide)) (T_bsome ?_)
    refine T_gi (g_in (hS.c.l (f := 391) (kd := 10) (n := 16) (by decide)) e3 (by omega) (by omega)) ?_
    refine T_st (fun S20 eS20 => ?_)
    have h20 : MI m G Λ Y S20 := by rw [eS20]; exact hS.wI (f := 391) (by decide) w391 (rg0 (P := fun B => nB B _) (by decide)) (rg0 (P := fun B => oB B _) (by decide))
    have q393 : gFI S20 393 m = nI w := by rw [eS20]; exact r393
    refine T_m (h20.c.rf (f := 392) (by decide)) (T_bsome ?_)
    refine T_gi (g_in (h20.c.l (f := 392) (kd := 10) (n := 16) (by decide)) q393 (by omega) (by omega)) ?_
    refine T_st (fun S23 eS23 => ?_)
    have h23 : MI m G Λ Y S23 := by rw [eS23]; exact h20.wI (f := 392) (by decide) w392 (rg1 (B := 15) (by decide) ⟨v, by omega, e3⟩) (rg0 (P := fun B => oB B _) (by decide))
    have q23 : gFI S23 393 m = nI w := by rw [eS23]; exact q393
    refine T_st (fun S24 e24 => ?_)
    have h24 : MI m G Λ Y S24 := by rw [e24]; exact h23.wF (f := 393) w393 (rg1 (B := 16) (by decide) ⟨w + 1, by omega, e_add q23 k1⟩)
    have c362 : ∀ x, gAI S24 (G 362) x = gAI S (G 362) x := fun x => by
      rw [e24]
      show gAI S23 (G 362) x = _
      rw [eS23, h20.c.oth (f := 362) (f' := 392) (by decide) (by decide) (by decide), eS20, hS.c.oth (f := 362) (f' := 391) (by decide) (by decide) (by decide)]
    have c390 : ∀ x, gAI S24 (G 390) x = gAI S (G 390) x := fun x => by
      rw [e24]
      show gAI S23 (G 390) x = _
      rw [eS23, h20.c.oth (f := 390) (f' := 392) (by decide) (by decide) (by decide), eS20, hS.c.oth (f := 390) (f' := 391) (by decide) (by decide) (by decide)]
    have c391 : ∀ x, gAI S24 (G 391) x = if x = v then nI g else gAI S (G 391) x := fun x => by
      rw [e24]
      show gAI S23 (G 391) x = _
      rw [eS23, h20.c.oth (f := 391) (f' := 392) (by decide) (by decide) (by decide), eS20, gAI_sAI, i3, r394]
      by_cases cx : x = v
      · rw [if_pos ⟨rfl, cx⟩, if_pos cx]
      · rw [if_neg (fun z => cx z.2), if_neg cx]
    show T (rec S24 m p1 p2 (p3 + (1 : Int32))) _
    refine hrec S24 h24 (v + 1) (w + 1) _ g (e_add e3 k1) ⟨fun x => (c362 x).trans (r362 x), fun x => (c390 x).trans (r390 x), ?_, fun x hx => ?_, fun x hx => ?_, ?_, ?_, ?_, hg, by omega, fun _ => by omega, by omega, by omega⟩ (by omega)
    · rw [e24, gFI_ne (by decide), eS23, eS20]; exact r361
    · show gAI S24 (G 391) x = nI g
      rw [c391]
      by_cases cx : x = v
      · rw [if_pos cx]
      · rw [if_neg cx]
        exact rA x ⟨hx.1, by omega, hx.2.2⟩
    · show gAI S24 (G 391) x = rg G W x
      rw [c391]
      have cx : x ≠ v := fun e => hx ⟨by omega, by omega, by rw [e]; exact tv, by rw [e]; exact ho⟩
      rw [if_neg cx]
      exact rB x (fun z => hx ⟨z.1, by omega, z.2.2⟩)
    · rw [e24, gFI_sFI, if_pos ⟨rfl, rfl⟩]; exact e_add q23 k1
    · rw [rw']
      unfold pl
      refine (cb_set (j := v) c (fun i hi hne => ?_) (by omega) (decide_eq_true ⟨?_, ?_⟩) (fun z => (of_decide_eq_true z).2 hs5)).symm
      · show decide (gAI S (G 362) i ≠ 0 ∧ gAI S (G 391) i ≠ -5) = decide (gAI S24 (G 362) i ≠ 0 ∧ gAI S24 (G 391) i ≠ -5)
        rw [c362, c391, if_neg hne]
      · rw [c362, r362]; exact tv
      · rw [c391, if_pos rfl]; exact ne5 (by omega)
    · rw [e24, gFI_ne (by decide), eS23, eS20]; exact r394
theorem tL_X9_findOrder_87 {m : Nat} {G : Nat → Nat} {Λ : sLay} {Y : gY} {n41 : Nat} {k41 : sSt → Nat → Int32 → Option sSt}  (w391 : Y.2.2 391 = false) (w392 : Y.2.2 392 = false) (w393 : Y.2.2 393 = false) (w394 : Y.2.2 394 = false) (hk : KO m G Λ Y k41 n41) {W : sSt} {c u w0 : Nat} {p1 p2 : Int32} (hO : OI m G W c w0) (e1 : p1 = nI (thr G W c)) (hw : 17 ≤ w0 + (n41 + 1)) (hu : u < c) (hC : Cand G W c u) (hmin : ∀ x, x < u → ¬ Cand G W c x) (e2 : p2 = nI u) (n : Nat) :
    ∀ S, MI m G Λ Y S → ∀ v w p3 g, p3 = nI v → RO m G W S c u g w0 v w → 17 ≤ v + n → T (L_X9_findOrder_87 Λ.2.2 k41 n S m p1 p2 p3) (fun r : sSt => MI m G Λ Y r) := by
  induction n with
  | zero =>
    intro S hS v w p3 g e3 h hm
    have h1 := hO.1
    have h2 := h.2.2.2.2.2.2.2.2.2.2.2.2
    omega
  | succ n ih =>
    intro S hS v w p3 g e3 h hm
    exact tY_X9_findOrder_87 (w391 := w391) (w392 := w392) (w393 := w393) (w394 := w394) hk hO e1 hw hu hC hmin e2 (rec := L_X9_findOrder_87 Λ.2.2 k41 n) ih S hS v w p3 g e3 h hm
theorem tY_X9_findOrder_51 {m : Nat} {G : Nat → Nat} {Λ : sLay} {Y : gY} {n41 : Nat} {k41 : sSt → Nat → Int32 → Option sSt}  (w391 : Y.2.2 391 = false) (w392 : Y.2.2 392 = false) (w393 : Y.2.2 393 = false) (w394 : Y.2.2 394 = false) (hk : KO m G Λ Y k41 n41) {S : sSt} (hS : MI m G Λ Y S) {c w : Nat} {p1 : Int32} (hO : OI m G S c w) (e1 : p1 = nI (thr G S c)) (hw : 17 ≤ w + (n41 + 1)) {n : Nat} {rec : sSt → Nat → Int32 → Int32 → Option sSt}
    (hrec : ∀ q p2, p2 = nI q → (∃ u, q ≤ u ∧ u < c ∧ Cand G S c u) → (∀ x, x < q → ¬ Cand G S c x) → 17 ≤ q + n → T (rec S m p1 p2) (fun r : sSt => MI m G Λ Y r)) (q : Nat) (p2 : Int32) (e2 : p2 = nI q) (hex : ∃ u, q ≤ u ∧ u < c ∧ Cand G S c u) (hmin : ∀ x, x < q → ¬ Cand G S c x) (hm : 17 ≤ q + (n + 1)) : T (Y_X9_findOrder_51 Λ.2.2 k41 rec S m p1 p2) (fun r : sSt => MI m G Λ Y r) := by
  unfold Y_X9_findOrder_51
  have hFU := FU_big
  have hO' := hO
  obtain ⟨hc16, ec, e393, ew, ⟨g, hg, eg⟩, hT, hI⟩ := hO'
  obtain ⟨u, hqu, huc, hCu⟩ := hex
  have i2 := e_clamp e2 (by omega)
  have go : ¬ Cand G S c q → T (rec S m p1 (p2 + (1 : Int32))) (fun r : sSt => MI m G Λ Y r) := fun hn => by
    have hne : q ≠ u := fun e => hn (e ▸ hCu)
    exact hrec (q + 1) _ (e_add e2 k1) ⟨u, by omega, huc, hCu⟩ (all_snoc hmin hn) (by omega)
  refine T_m (hS.c.rf (f := 362) (by decide)) (T_bsome ?_)
  refine T_gi (g_in (hS.c.l (f := 362) (kd := 12) (n := 16) (by decide)) e2 (by omega) (by omega)) ?_
  refine T_ite (fun h0 => go (fun z => z.1 (by rw [i2] at h0; exact h0))) (fun h0 => ?_)
  rw [i2] at h0
  refine T_m (hS.c.rf (f := 391) (by decide)) (T_bsome ?_)
  refine T_gi (g_in (hS.c.l (f := 391) (kd := 10) (n := 16) (by decide)) e2 (by omega) (by omega)) ?_
  refine T_ite (fun h1 => ?_) (fun h1 => go (fun z => h1 (by rw [i2]; exact z.2.1)))
  rw [i2] at h1
  refine T_bind (tF_X9_mayCome S hS _ q e2 (by omega)) (fun v11 r11 => T_ite (fun h2 => go (fun z => (r11.2 c hc16 ec).mpr z.2.2 h2)) (fun h2 => ?_))
  exact tL_X9_findOrder_87 (w391 := w391) (w392 := w392) (w393 := w393) (w394 := w394) hk hO e1 hw (by omega) ⟨h0, h1, (r11.2 c hc16 ec).mp h2⟩ hmin e2 FU S hS q w p2 g e2 ⟨fun _ => rfl, fun _ => rfl, ec, fun x hx => by omega, fun x _ => rfl, e393, ew, eg, hg, Nat.le_refl _, fun z => absurd z (Nat.lt_irrefl q), Nat.le_refl _, by omega⟩ (by omega)
theorem tL_X9_findOrder_51 {m : Nat} {G : Nat → Nat} {Λ : sLay} {Y : gY} {n41 : Nat} {k41 : sSt → Nat → Int32 → Option sSt}  (w391 : Y.2.2 391 = false) (w392 : Y.2.2 392 = false) (w393 : Y.2.2 393 = false) (w394 : Y.2.2 394 = false) (hk : KO m G Λ Y k41 n41) {S : sSt} (hS : MI m G Λ Y S) {c w : Nat} {p1 : Int32} (hO : OI m G S c w) (e1 : p1 = nI (thr G S c)) (hw : 17 ≤ w + (n41 + 1)) (n : Nat) :
    ∀ q p2, p2 = nI q → (∃ u, q ≤ u ∧ u < c ∧ Cand G S c u) → (∀ x, x < q → ¬ Cand G S c x) → 17 ≤ q + n → T (L_X9_findOrder_51 Λ.2.2 k41 n S m p1 p2) (fun r : sSt => MI m G Λ Y r) := by
  induction n with
  | zero =>
    intro q p2 e2 hex hmin hm
    obtain ⟨u, h1, h2, -⟩ := hex
    have h3 := hO.1
    omega
  | succ n ih =>
    intro q p2 e2 hex hmin hm
    exact tY_X9_findOrder_51 (w391 := w391) (w392 := w392) (w393 := w393) (w394 := w394) hk hS hO e1 hw (rec := L_X9_findOrder_51 Λ.2.2 k41 n) ih q p2 e2 hex hmin hm
theorem tL_X9_findOrder_41 {m : Nat} {G : Nat → Nat} {Λ : sLay} {Y : gY}  (w391 : Y.2.2 391 = false) (w392 : Y.2.2 392 = false) (w393 : Y.2.2 393 = false) (w394 : Y.2.2 394 = false) (n : Nat) : KO m G Λ Y (L_X9_findOrder_41 Λ.2.2 n) n := by
  induction n with
  | zero =>
    intro S hS c w p1 hO e1 hm
    have := hO.le
    omega
  | succ n ih =>
    intro S hS c w p1 hO e1 hm
    have hFU := FU_big
    have h16 := hO.le
    have hth := cb_le (f := fun u => decide (gAI S (G 362) u ≠ 0)) c
    have hc := hO.1
    show T (Y_X9_findOrder_41 Λ.2.2 (L_X9_findOrder_41 Λ.2.2 n) S m p1) _
    unfold Y_X9_findOrder_41
    refine T_ite (fun _ => T_some hS) (fun h0 => ?_)
    have d := mt (e_le e1 hO.2.2.1 (by unfold thr; omega) (by omega)).mpr h0
    obtain ⟨u, hu, hC⟩ := cand_ex hO (by omega)
    exact tL_X9_findOrder_51 (w391 := w391) (w392 := w392) (w393 := w393) (w394 := w394) ih hS hO e1 hm FU 0 _ k0 ⟨u, by omega, hu, hC⟩ (fun x hx => absurd hx (Nat.not_lt_zero x)) (by omega)
theorem tL_X9_findOrder_6 {m : Nat} {G : Nat → Nat} {Λ : sLay} {Y : gY}  (w391 : Y.2.2 391 = false) (w392 : Y.2.2 392 = false) (w393 : Y.2.2 393 = false) (w394 : Y.2.2 394 = false) (n : Nat) : ∀ S, MI m G Λ Y S → ∀ q p1, p1 = nI q → q ≤ 16 → Tr G S → (∀ x, x < q → rg G S x = -5) → 17 ≤ q + n → T (L_X9_findOrder_6 Λ.2.2 n S m p1) (fun r : sSt => MI m G Λ Y r) := by
  induction n with
  | zero =>
    intro S hS q p1 e1 hq hT hr hm
    omega
  | succ n ih =>
    intro S hS q p1 e1 hq hT hr hm
    have hFU := FU_big
    show T (Y_X9_findOrder_6 Λ.2.2 (L_X9_findOrder_6 Λ.2.2 n) S m p1) _
    unfold Y_X9_findOrder_6
    refine T_ite (fun h0 => ?_) (fun h0 => ?_)
    · have d := (e_le k16 e1 (by omega) (by omega)).mp h0
      refine T_st (fun S3 e3 => ?_)
      have h3 : MI m G Λ Y S3 := by rw [e3]; exact hS.wF (f := 393) w393 (rg1 (B := 16) (by decide) ⟨0, by omega, k0⟩)
      refine T_st (fun S4 e4 => ?_)
      have h4 : MI m G Λ Y S4 := by rw [e4]; exact h3.wF (f := 394) w394 (rg0 (P := fun B => nB B _) (by decide))
      obtain ⟨v5, e5, c, hc, ec, r5⟩ := tF_X9_unitsThere S4 h4
      rw [e5]
      refine T_bsome ?_
      have hr4 : ∀ x, x < c → rg G S4 x = -5 := fun x hx => by
        rw [e4, e3]
        exact hr x (by omega)
      refine tL_X9_findOrder_41 (w391 := w391) (w392 := w392) (w393 := w393) (w394 := w394) FU S4 h4 c 0 v5 ⟨hc, ec, ?_, ?_, ⟨0, Nat.le_refl 0, ?_⟩, ?_, fun u v hu hv _ _ _ z => absurd (hr4 v hv) z⟩ r5 (by omega)
      · rw [e4, gFI_ne (by decide), e3, gFI_sFI, if_pos ⟨rfl, rfl⟩]; exact k0
      · have q1 : pl G S4 c ≤ cb (fun _ => false) c := by
          unfold pl
          exact cb_mono c (fun i hi z => absurd (hr4 i hi) (of_decide_eq_true z).2)
        rw [cb_false] at q1
        omega
      · rw [e4, gFI_sFI, if_pos ⟨rfl, rfl⟩]; exact k0
      · rw [e4, e3]; exact hT
    · have d := mt (e_le k16 e1 (by omega) (by omega)).mpr h0
      refine T_m (hS.c.rf (f := 391) (by decide)) (T_bsome ?_)
      refine T_gi (g_in (hS.c.l (f := 391) (kd := 10) (n := 16) (by decide)) e1 (by omega) (by omega)) ?_
      refine T_st (fun S27 eS27 => ?_)
      have h27 : MI m G Λ Y S27 := by rw [eS27]; exact hS.wI (f := 391) (by decide) w391 (rg0 (P := fun B => nB B _) (by decide)) (rg0 (P := fun B => oB B _) (by decide))
      refine ih S27 h27 (q + 1) _ (e_add e1 k1) (by omega) ?_ ?_ (by omega)
      · have hc : ∀ x, gAI S27 (G 390) x = gAI S (G 390) x := fun x => by rw [eS27, hS.c.oth (f := 390) (f' := 391) (by decide) (by decide) (by decide)]
        have hR : ∀ a b, Rl G S27 a b ↔ Rl G S a b := fun a b => by unfold Rl; rw [hc]
        intro a b e ha hb he h1 h2
        exact (hR a e).mpr (hT a b e ha hb he ((hR a b).mp h1) ((hR b e).mp h2))
      · intro x hx
        show gAI S27 (G 391) x = -5
        rw [eS27, gAI_sAI, e_clamp e1 (by omega)]
        by_cases cx : x = q
        · rw [if_pos ⟨rfl, cx⟩]
        · rw [if_neg (fun z => cx z.2)]
          exact hr x (by omega)
theorem tF_X9_findOrder {m : Nat} {G : Nat → Nat} {Λ : sLay} {Y : gY}  (w390 : Y.2.2 390 = false) (w391 : Y.2.2 391 = false) (w392 : Y.2.2 392 = false) (w393 : Y.2.2 393 = false) (w394 : Y.2.2 394 = false) (S : sSt) (hS : MI m G Λ Y S) : T (F_X9_findOrder Λ.2.2 S m) (fun r : sSt => MI m G Λ Y r) := by
  unfold F_X9_findOrder
  have hFU := FU_big
  exact T_bind (tF_X9_findLeads (w390 := w390) S hS) (fun S2 r2 => tL_X9_findOrder_6 (w391 := w391) (w392 := w392) (w393 := w393) (w394 := w394) FU S2 r2.1 0 _ k0 (by omega) r2.2 (fun x hx => absurd hx (Nat.not_lt_zero x)) (by omega))
set_option maxHeartbeats 2000000 in
theorem tY_X9_follow_43 {m : Nat} {G : Nat → Nat} {Λ : sLay} {Y : gY} {n : Nat} {rec : sSt → Nat → Int32 → Int32 → Option sSt} {p1 : Int32}  (w382 : Y.2.2 382 = false) (w383 : Y.2.2 383 = false) (w384 : Y.2.2 384 = false) (w385 : Y.2.2 385 = false) (w386 : Y.2.2 386 = false) (hrec : ∀ S, MI m G Λ Y S → ∀ q p2, p2 = nI q → FW m G S q n → T (rec S m p1 p2) (fun r : sSt => MI m G Λ Y r)) (S : sSt) (hS : MI m G Λ Y S) (q : Nat) (p2 : Int32) (e2 : p2 = nI q) (h : FW m G S q (n + 1)) : T (Y_X9_follow_43 Λ.2.2 rec S m p1 p2) (fun r : sSt => MI m G Λ Y r) := by
  unfold Y_X9_follow_43
  obtain ⟨hq, ⟨w, ew, hw⟩, hp⟩ := h
  refine T_ite (fun _ => T_some hS) (fun c => ?_)
  have d := mt (e_le e2 k0 (by omega) (by omega)).mpr c
  have em := e_sub e2 k1 (by omega)
  have i1 := e_clamp em (by omega)
  obtain ⟨t, ht, et⟩ := hS.c.n (f := 386) (B := 3) (by decide) (Int32.toNatClampNeg (p2 - (1 : Int32)))
  obtain ⟨a, ha, ea⟩ := hS.c.n (f := 385) (B := 159) (by decide) (Int32.toNatClampNeg (p2 - (1 : Int32)))
  have et1 : gAI S (G 386) (q - 1) = nI t := by rw [← i1]; exact et
  have ho := opn_s (by omega) et1 ht
  refine T_m (hS.c.rf (f := 386) (by decide)) (T_bsome ?_)
  refine T_gi (g_in (hS.c.l (f := 386) (kd := 10) (n := 170) (by decide)) em (by omega) (by omega)) ?_
  refine T_ite (fun h3 => ?_) (fun h3 => ?_)
  · have d3 := (e_eq et k3 (by omega) (by omega)).mp h3
    exact hrec S hS (q - 1) _ (e_prd e2 (by omega)) ⟨by omega, ⟨w, ew, hw⟩, by omega⟩
  · have d3 := mt (e_eq et k3 (by omega) (by omega)).mpr h3
    refine T_m (hS.c.rf (f := 379) (by decide)) ?_
    refine T_m (hS.c.rf (f := 385) (by decide)) (T_bsome ?_)
    refine T_gi (g_in (hS.c.l (f := 385) (kd := 10) (n := 170) (by decide)) em (by omega) (by omega)) ?_
    refine T_m (hS.c.rf (f := 386) (by decide)) (T_bsome ?_)
    refine T_gi (g_in (hS.c.l (f := 386) (kd := 10) (n := 170) (by decide)) em (by omega) (by omega)) ?_
    refine T_bsome ?_
    refine T_gi (g_in (hS.c.l (f := 379) (kd := 10) (n := 480) (by decide)) (e_add (e_mul k3 ea) et) (by omega) (by omega)) ?_
    refine T_m (hS.c.rf (f := 386) (by decide)) (T_bsome ?_)
    refine T_gi (g_in (hS.c.l (f := 386) (kd := 10) (n := 170) (by decide)) em (by omega) (by omega)) ?_
    refine T_gi (g_in (hS.c.l (f := 386) (kd := 10) (n := 170) (by decide)) em (by omega) (by omega)) ?_
    refine T_st (fun S18 eS18 => ?_)
    have h18 : MI m G Λ Y S18 := by rw [eS18]; exact hS.wI (f := 386) (by decide) w386 (rg1 (B := 3) (by decide) ⟨(t+1), by omega, (e_add et k1)⟩) (rg0 (P := fun B => oB B _) (by decide))
    have u18 : unkN G 383 S18 160 = unkN G 383 S 160 := unkN_eq 160 (fun k _ => by rw [eS18, hS.c.oth (f := 383) (f' := 386) (by decide) (by decide) (by decide)])
    have w18 : gFI S18 384 m = nI w := by rw [eS18]; exact ew
    have c18 : ∀ k, gAI S18 (G 386) k = if k = q - 1 then nI (t + 1) else gAI S (G 386) k := fun k => by
      rw [eS18, gAI_sAI, i1]
      by_cases ck : k = q - 1
      · rw [if_pos ⟨rfl, ck⟩, if_pos ck]
        exact e_add et1 k1
      · rw [if_neg (fun z => ck z.2), if_neg ck]
    have o18 : opn G S18 q = opn G S (q - 1) + (4 - (t + 1)) := by
      rw [opn_s (t := t + 1) (by omega) (by rw [c18, if_pos rfl]) (by omega), opn_eq (S := S) (q - 1) (fun k hk => by rw [c18, if_neg (by omega)])]
    have go : T (rec S18 m p1 p2) (fun r : sSt => MI m G Λ Y r) := hrec S18 h18 q _ e2 ⟨by omega, ⟨w, w18, by omega⟩, by omega⟩
    refine T_ite (fun h5 => go) (fun h5 => ?_)
    obtain ⟨i, hi, ei⟩ := (hS.c.o (f := 379) (B := 159) (by decide) _).ne h5
    have i6 := e_clamp ei (by omega)
    refine T_m (h18.c.rf (f := 383) (by decide)) (T_bsome ?_)
    refine T_gi (g_in (h18.c.l (f := 383) (kd := 12) (n := 160) (by decide)) ei (by omega) (by omega)) ?_
    refine T_ite (fun h6 => ?_) (fun _ => go)
    rw [i6] at h6
    refine T_m (h18.c.rf (f := 383) (by decide)) (T_bsome ?_)
    refine T_gi (g_in (h18.c.l (f := 383) (kd := 12) (n := 160) (by decide)) ei (by omega) (by omega)) ?_
    refine T_st (fun S23 eS23 => ?_)
    have h23 : MI m G Λ Y S23 := by rw [eS23]; exact h18.wI (f := 383) (by decide) w383 (rg0 (P := fun B => nB B _) (by decide)) (rg0 (P := fun B => oB B _) (by decide))
    have u23 : unkN G 383 S23 160 + 1 = unkN G 383 S18 160 := by
      refine unkN_set (i := i) (v := 1) (fun k => ?_) (by decide) h6 160 (by omega)
      rw [eS23, gAI_sAI, i6]
      by_cases ck : k = i
      · rw [if_pos ⟨rfl, ck⟩, if_pos ck]
        rfl
      · rw [if_neg (fun z => ck z.2), if_neg ck]
    have w23 : gFI S23 384 m = nI w := by rw [eS23]; exact w18
    refine T_m (h23.c.rf (f := 382) (by decide)) (T_bsome ?_)
    refine T_gi (g_in (h23.c.l (f := 382) (kd := 10) (n := 160) (by decide)) w23 (by omega) (by omega)) ?_
    refine T_st (fun S26 eS26 => ?_)
    have h26 : MI m G Λ Y S26 := by rw [eS26]; exact h23.wI (f := 382) (by decide) w382 (rg1 (B := 159) (by decide) ⟨i, by omega, ei⟩) (rg0 (P := fun B => oB B _) (by decide))
    have w26 : gFI S26 384 m = nI w := by rw [eS26]; exact w23
    refine T_st (fun S27 e27 => ?_)
    have h27 : MI m G Λ Y S27 := by rw [e27]; exact h26.wF (f := 384) w384 (rg1 (B := 160) (by decide) ⟨w + 1, by omega, e_add w26 k1⟩)
    have w27 : gFI S27 384 m = nI (w + 1) := by rw [e27, gFI_sFI, if_pos ⟨rfl, rfl⟩]; exact e_add w26 k1
    have c27 : ∀ k, gAI S27 (G 386) k = gAI S18 (G 386) k := fun k => by
      rw [e27]
      show gAI S26 (G 386) k = _
      rw [eS26, h23.c.oth (f := 386) (f' := 382) (by decide) (by decide) (by decide), eS23, h18.c.oth (f := 386) (f' := 383) (by decide) (by decide) (by decide)]
    have u27 : unkN G 383 S27 160 = unkN G 383 S23 160 := unkN_eq 160 (fun k _ => by
      rw [e27]
      show gAI S26 (G 383) k = _
      rw [eS26, h23.c.oth (f := 383) (f' := 382) (by decide) (by decide) (by decide)])
    have o27 : opn G S27 q = opn G S18 q := opn_eq q (fun k _ => c27 k)
    refine T_ite (fun _ => hrec S27 h27 q _ e2 ⟨by omega, ⟨w + 1, w27, by omega⟩, by omega⟩) (fun _ => ?_)
    refine T_m (h27.c.rf (f := 385) (by decide)) (T_bsome ?_)
    refine T_gi (g_in (h27.c.l (f := 385) (kd := 10) (n := 170) (by decide)) e2 (by omega) (by omega)) ?_
    refine T_st (fun S30 eS30 => ?_)
    have h30 : MI m G Λ Y S30 := by rw [eS30]; exact h27.wI (f := 385) (by decide) w385 (rg1 (B := 159) (by decide) ⟨i, by omega, ei⟩) (rg0 (P := fun B => oB B _) (by decide))
    refine T_m (h30.c.rf (f := 386) (by decide)) (T_bsome ?_)
    refine T_gi (g_in (h30.c.l (f := 386) (kd := 10) (n := 170) (by decide)) e2 (by omega) (by omega)) ?_
    refine T_st (fun S33 eS33 => ?_)
    have h33 : MI m G Λ Y S33 := by rw [eS33]; exact h30.wI (f := 386) (by decide) w386 (rg1 (B := 3) (by decide) ⟨0, by omega, k0⟩) (rg0 (P := fun B => oB B _) (by decide))
    have w33 : gFI S33 384 m = nI (w + 1) := by rw [eS33, eS30]; exact w27
    have c33 : ∀ k, gAI S33 (G 386) k = if k = q then nI 0 else gAI S27 (G 386) k := fun k => by
      rw [eS33, gAI_sAI, e_clamp e2 (by omega), eS30, h27.c.oth (f := 386) (f' := 385) (by decide) (by decide) (by decide)]
      by_cases ck : k = q
      · rw [if_pos ⟨rfl, ck⟩, if_pos ck]
        rfl
      · rw [if_neg (fun z => ck z.2), if_neg ck]
    have u33 : unkN G 383 S33 160 = unkN G 383 S27 160 := unkN_eq 160 (fun k _ => by rw [eS33, h30.c.oth (f := 383) (f' := 386) (by decide) (by decide) (by decide), eS30, h27.c.oth (f := 383) (f' := 385) (by decide) (by decide) (by decide)])
    have o33 : opn G S33 (q + 1) = opn G S27 q + 4 := by
      rw [opn_s (t := 0) (q := q + 1) (by omega) (by show gAI S33 (G 386) q = nI 0; rw [c33, if_pos rfl]) (by omega)]
      show opn G S33 q + 4 = _
      rw [opn_eq (S := S27) q (fun k hk => by rw [c33, if_neg (by omega)])]
    exact hrec S33 h33 (q + 1) _ (e_add e2 k1) ⟨by omega, ⟨w + 1, w33, by omega⟩, by omega⟩
theorem tL_X9_follow_43 {m : Nat} {G : Nat → Nat} {Λ : sLay} {Y : gY} {p1 : Int32}  (w382 : Y.2.2 382 = false) (w383 : Y.2.2 383 = false) (w384 : Y.2.2 384 = false) (w385 : Y.2.2 385 = false) (w386 : Y.2.2 386 = false) (n : Nat) : ∀ S, MI m G Λ Y S → ∀ q p2, p2 = nI q → FW m G S q n → T (L_X9_follow_43 Λ.2.2 n S m p1 p2) (fun r : sSt => MI m G Λ Y r) := by
  induction n with
  | zero =>
    intro S hS q p2 e2 h
    exact absurd h.2.2 (Nat.not_lt_zero _)
  | succ n ih =>
    intro S hS q p2 e2 h
    exact tY_X9_follow_43 (w382 := w382) (w383 := w383) (w384 := w384) (w385 := w385) (w386 := w386) (rec := L_X9_follow_43 Λ.2.2 n) ih S hS q p2 e2 h
set_option maxHeartbeats 1000000 in
theorem tF_X9_isConstant {m : Nat} {G : Nat → Nat} {Λ : sLay} {Y : gY} (S : sSt) (hS : MI m G Λ Y S) (p1 : Int32) (qp1 : Nat) (ep1 : p1 = nI qp1) (bp1 : qp1 ≤ 159) : T (F_X9_isConstant Λ.2.2 S m p1) (fun r : Int32 => True) := by
  unfold F_X9_isConstant
  refine T_m ((hS).c.rf (f := 362) (by decide)) ?_
  refine T_bsome ?_
  refine T_gi (g_in ((hS).c.l (f := 362) (kd := 12) (n := 16) (by decide)) (e_div ep1 k10 (by omega) (by omega)) (by omega) (by omega)) ?_
  refine T_ite (fun c1 => ?_) (fun c1 => ?_)
  · skip
    exact T_some True.intro
  · skip
    refine T_m ((hS).c.rf (f := 363) (by decide)) ?_
    refine T_bsome ?_
    refine T_gi (g_in ((hS).c.l (f := 363) (kd := 10) (n := 16) (by decide)) (e_div ep1 k10 (by omega) (by omega)) (by omega) (by omega)) ?_
    obtain ⟨j3, g3, e3⟩ := (hS).c.n (f := 363) (B := 10) (by decide) (Int32.toNatClampNeg (p1 / (10 : Int32)))
    refine T_ite (fun c2 => ?_) (fun c2 => ?_)
    · skip
      have d2 := (e_le e3 (e_sub ep1 (e_mul (e_div ep1 k10 (by omega) (by omega)) k10) (by omega)) (by omega) (by omega)).mp c2
      exact T_some True.intro
    · skip
      have d2 := mt (e_le e3 (e_sub ep1 (e_mul (e_div ep1 k10 (by omega) (by omega)) k10) (by omega)) (by omega) (by omega)).mpr c2
      refine T_m ((hS).c.rf (f := 364) (by decide)) ?_
      refine T_bsome ?_
      refine T_gi (g_in ((hS).c.l (f := 364) (kd := 10) (n := 160) (by decide)) ep1 (by omega) (by omega)) ?_
      refine T_ite (fun c4 => ?_) (fun c4 => ?_)
      · skip
        exact T_some True.intro
      · skip
        exact T_some True.intro
set_option maxHeartbeats 1000000 in
theorem tB_X9_waitsForNone_51 {m : Nat} {G : Nat → Nat} {Λ : sLay} {Y : gY} (S : sSt) (hS : MI m G Λ Y S) {n4 : Nat} {k4 : Nat → Int32 → Int32 → Int32 → Option Int32} (hk4 : ∀ (p1 : Int32) (qp1 : Nat) (ep1 : p1 = nI qp1) (bp1 : qp1 ≤ 159) (p2 : Int32) (bp2 : p2 = 0 ∨ p2 = 1) (p3 : Int32) (qp3 : Nat) (ep3 : p3 = nI qp3) (bp3 : qp3 ≤ 3), (4 ≤ qp3 + n4) → T (k4 m p1 p2 p3) (fun r : Int32 => True)) (p1 : Int32) (qp1 : Nat) (ep1 : p1 = nI qp1) (bp1 : qp1 ≤ 159) (p3 : Int32) (qp3 : Nat) (ep3 : p3 = nI qp3) (bp3 : qp3 ≤ 2) (s0 : Int32) (bs0 : s0 = 0 ∨ s0 = 1) (f0 : 4 ≤ qp3 + n4 + 1) : T (B_X9_waitsForNone_51 Λ.2.2 S k4 m p1 p3 s0) (fun r : Int32 => True) := by
  unfold B_X9_waitsForNone_51
  exact hk4 _ qp1 ep1 (by omega) _ bs0 _ (qp3 + 1) (e_add ep3 k1) (by omega) (by omega)
set_option maxHeartbeats 1000000 in
theorem tB_X9_waitsForNone_50 {m : Nat} {G : Nat → Nat} {Λ : sLay} {Y : gY} (S : sSt) (hS : MI m G Λ Y S) {n4 : Nat} {k4 : Nat → Int32 → Int32 → Int32 → Option Int32} (hk4 : ∀ (p1 : Int32) (qp1 : Nat) (ep1 : p1 = nI qp1) (bp1 : qp1 ≤ 159) (p2 : Int32) (bp2 : p2 = 0 ∨ p2 = 1) (p3 : Int32) (qp3 : Nat) (ep3 : p3 = nI qp3) (bp3 : qp3 ≤ 3), (4 ≤ qp3 + n4) → T (k4 m p1 p2 p3) (fun r : Int32 => True)) (p1 : Int32) (qp1 : Nat) (ep1 : p1 = nI qp1) (bp1 : qp1 ≤ 159) (p3 : Int32) (qp3 : Nat) (ep3 : p3 = nI qp3) (bp3 : qp3 ≤ 2) (f0 : 4 ≤ qp3 + n4 + 1) : T (B_X9_waitsForNone_50 Λ.2.2 S k4 m p1 p3) (fun r : Int32 => True) := by
  unfold B_X9_waitsForNone_50
  exact tB_X9_waitsForNone_51 (n4 := n4) (k4 := k4) (hk4 := hk4) S hS _ qp1 ep1 (by omega) _ qp3 ep3 (by omega) _ (Or.inl rfl) (by omega)
set_option maxHeartbeats 1000000 in
theorem tB_X9_waitsForNone_46 {m : Nat} {G : Nat → Nat} {Λ : sLay} {Y : gY} (S : sSt) (hS : MI m G Λ Y S) {n4 : Nat} {k4 : Nat → Int32 → Int32 → Int32 → Option Int32} (hk4 : ∀ (p1 : Int32) (qp1 : Nat) (ep1 : p1 = nI qp1) (bp1 : qp1 ≤ 159) (p2 : Int32) (bp2 : p2 = 0 ∨ p2 = 1) (p3 : Int32) (qp3 : Nat) (ep3 : p3 = nI qp3) (bp3 : qp3 ≤ 3), (4 ≤ qp3 + n4) → T (k4 m p1 p2 p3) (fun r : Int32 => True)) (p1 : Int32) (qp1 : Nat) (ep1 : p1 = nI qp1) (bp1 : qp1 ≤ 159) (p3 : Int32) (qp3 : Nat) (ep3 : p3 = nI qp3) (bp3 : qp3 ≤ 2) (f0 : 4 ≤ qp3 + n4 + 1) : T (B_X9_waitsForNone_46 Λ.2.2 S k4 m p1 p3) (fun r : Int32 => True) := by
  unfold B_X9_waitsForNone_46
  exact tB_X9_waitsForNone_51 (n4 := n4) (k4 := k4) (hk4 := hk4) S hS _ qp1 ep1 (by omega) _ qp3 ep3 (by omega) _ (Or.inr rfl) (by omega)
set_option maxHeartbeats 1000000 in
theorem tY_X9_waitsForNone_4 {m : Nat} {G : Nat → Nat} {Λ : sLay} {Y : gY} (S : sSt) (hS : MI m G Λ Y S) {n : Nat} {rec : Nat → Int32 → Int32 → Int32 → Option Int32} (hrec : ∀ (p1 : Int32) (qp1 : Nat) (ep1 : p1 = nI qp1) (bp1 : qp1 ≤ 159) (p2 : Int32) (bp2 : p2 = 0 ∨ p2 = 1) (p3 : Int32) (qp3 : Nat) (ep3 : p3 = nI qp3) (bp3 : qp3 ≤ 3), (4 ≤ qp3 + n) → T (rec m p1 p2 p3) (fun r : Int32 => True)) (p1 : Int32) (qp1 : Nat) (ep1 : p1 = nI qp1) (bp1 : qp1 ≤ 159) (p2 : Int32) (bp2 : p2 = 0 ∨ p2 = 1) (p3 : Int32) (qp3 : Nat) (ep3 : p3 = nI qp3) (bp3 : qp3 ≤ 3) (hm : 4 ≤ qp3 + (n + 1)) : T (Y_X9_waitsForNone_4 Λ.2.2 S rec m p1 p2 p3) (fun r : Int32 => True) := by
  unfold Y_X9_waitsForNone_4
  refine T_ite (fun c1 => ?_) (fun c1 => ?_)
  · skip
    have d1 := (e_le k3 ep3 (by omega) (by omega)).mp c1
    refine T_gb bp2 ?_
    exact T_some True.intro
  · skip
    have d1 := mt (e_le k3 ep3 (by omega) (by omega)).mpr c1
    refine T_ite (fun c2 => ?_) (fun c2 => ?_)
    · skip
      exact tB_X9_waitsForNone_50 (n4 := n) (k4 := rec) (hk4 := hrec) S hS _ qp1 ep1 (by omega) _ qp3 ep3 (by omega) (by omega)
    · skip
      refine T_m ((hS).c.rf (f := 379) (by decide)) ?_
      refine T_bsome ?_
      refine T_gi (g_in ((hS).c.l (f := 379) (kd := 10) (n := 480) (by decide)) (e_add (e_mul k3 ep1) ep3) (by omega) (by omega)) ?_
      refine T_ite (fun c3 => ?_) (fun c3 => ?_)
      · skip
        exact tB_X9_waitsForNone_46 (n4 := n) (k4 := rec) (hk4 := hrec) S hS _ qp1 ep1 (by omega) _ qp3 ep3 (by omega) (by omega)
      · skip
        obtain ⟨j3, g3, e3⟩ := oB.ne ((hS).c.o (f := 379) (B := 159) (by decide) _) c3
        refine T_m ((hS).c.rf (f := 380) (by decide)) ?_
        refine T_m ((hS).c.rf (f := 379) (by decide)) ?_
        refine T_bsome ?_
        refine T_gi (g_in ((hS).c.l (f := 379) (kd := 10) (n := 480) (by decide)) (e_add (e_mul k3 ep1) ep3) (by omega) (by omega)) ?_
        refine T_bsome ?_
        refine T_gi (g_in ((hS).c.l (f := 380) (kd := 12) (n := 160) (by decide)) e3 (by omega) (by omega)) ?_
        refine T_ite (fun c4 => ?_) (fun c4 => ?_)
        · skip
          exact tB_X9_waitsForNone_50 (n4 := n) (k4 := rec) (hk4 := hrec) S hS _ qp1 ep1 (by omega) _ qp3 ep3 (by omega) (by omega)
        · skip
          exact tB_X9_waitsForNone_46 (n4 := n) (k4 := rec) (hk4 := hrec) S hS _ qp1 ep1 (by omega) _ qp3 ep3 (by omega) (by omega)
theorem tL_X9_waitsForNone_4 {m : Nat} {G : Nat → Nat} {Λ : sLay} {Y : gY} (S : sSt) (hS : MI m G Λ Y S) : ∀ (n : Nat) (p1 : Int32) (qp1 : Nat) (ep1 : p1 = nI qp1) (bp1 : qp1 ≤ 159) (p2 : Int32) (bp2 : p2 = 0 ∨ p2 = 1) (p3 : Int32) (qp3 : Nat) (ep3 : p3 = nI qp3) (bp3 : qp3 ≤ 3) (_ : 4 ≤ qp3 + n), T (L_X9_waitsForNone_4 Λ.2.2 S n m p1 p2 p3) (fun r : Int32 => True) := by
  intro n
  induction n with
  | zero =>
    intro p1 qp1 ep1 bp1 p2 bp2 p3 qp3 ep3 bp3 hm
    exfalso
    omega
  | succ n ih =>
    intro p1 qp1 ep1 bp1 p2 bp2 p3 qp3 ep3 bp3 hm
    exact tY_X9_waitsForNone_4 S hS (n := n) (rec := L_X9_waitsForNone_4 Λ.2.2 S n) (hrec := ih) (p1 := p1) (qp1 := qp1) (ep1 := ep1) (bp1 := bp1) (p2 := p2) (bp2 := bp2) (p3 := p3) (qp3 := qp3) (ep3 := ep3) (bp3 := bp3) (hm := hm)
set_option maxHeartbeats 1000000 in
theorem tF_X9_waitsForNone {m : Nat} {G : Nat → Nat} {Λ : sLay} {Y : gY} (S : sSt) (hS : MI m G Λ Y S) (p1 : Int32) (qp1 : Nat) (ep1 : p1 = nI qp1) (bp1 : qp1 ≤ 159) : T (F_X9_waitsForNone Λ.2.2 S m p1) (fun r : Int32 => True) := by
  unfold F_X9_waitsForNone
  have hFU := FU_big
  exact tL_X9_waitsForNone_4 S hS FU _ qp1 ep1 (by omega) _ (Or.inr rfl) _ 0 k0 (by omega) (by omega)
set_option maxHeartbeats 1000000 in
theorem tB_X9_reckon_223 {m : Nat} {G : Nat → Nat} {Λ : sLay} {Y : gY} {n102 : Nat} {k102 : sSt → Nat → Int32 → Option sSt} (hk102 : ∀ (S : sSt) (hS : MI m G Λ Y S) (p1 : Int32) (qp1 : Nat) (ep1 : p1 = nI qp1) (bp1 : qp1 ≤ 1), ((qp1 = 0 ∧ 0 < n102) ∨ unk G S + 2 ≤ n102) → T (k102 S m p1) (fun r : sSt => MI m G Λ Y r)) {n110 : Nat} {k110 : sSt → Nat → Int32 → Int32 → Option sSt} (hk110 : ∀ (S : sSt) (hS : MI m G Λ Y S) (p1 : Int32) (qp1 : Nat) (ep1 : p1 = nI qp1) (bp1 : qp1 ≤ 1) (p2 : Int32) (qp2 : Nat) (ep2 : p2 = nI qp2) (bp2 : qp2 ≤ 160), (qp1 = 0 ∨ unk G S + 2 ≤ n102) → (unk G S + 1 ≤ n102) → (161 ≤ qp2 + n110) → T (k110 S m p1 p2) (fun r : sSt => MI m G Λ Y r)) (S : sSt) (hS : MI m G Λ Y S) (p1 : Int32) (qp1 : Nat) (ep1 : p1 = nI qp1) (bp1 : qp1 ≤ 1) (p2 : Int32) (qp2 : Nat) (ep2 : p2 = nI qp2) (bp2 : qp2 ≤ 159) (f0 : qp1 = 0 ∨ unk G S + 2 ≤ n102) (f1 : unk G S + 1 ≤ n102) (f2 : 161 ≤ qp2 + n110 + 1) : T (B_X9_reckon_223 Λ.2.2 k102 k110 S m p1 p2) (fun r : sSt => MI m G Λ Y r) := by
  unfold B_X9_reckon_223
  exact hk110 S hS _ qp1 ep1 (by omega) _ (qp2 + 1) (e_add ep2 k1) (by omega) (by omega) (by omega) (by omega)
set_option maxHeartbeats 1000000 in
theorem tB_X9_reckon_199 {m : Nat} {G : Nat → Nat} {Λ : sLay} {Y : gY} {n102 : Nat} {k102 : sSt → Nat → Int32 → Option sSt} (hk102 : ∀ (S : sSt) (hS : MI m G Λ Y S) (p1 : Int32) (qp1 : Nat) (ep1 : p1 = nI qp1) (bp1 : qp1 ≤ 1), ((qp1 = 0 ∧ 0 < n102) ∨ unk G S + 2 ≤ n102) → T (k102 S m p1) (fun r : sSt => MI m G Λ Y r)) {n110 : Nat} {k110 : sSt → Nat → Int32 → Int32 → Option sSt} (hk110 : ∀ (S : sSt) (hS : MI m G Λ Y S) (p1 : Int32) (qp1 : Nat) (ep1 : p1 = nI qp1) (bp1 : qp1 ≤ 1) (p2 : Int32) (qp2 : Nat) (ep2 : p2 = nI qp2) (bp2 : qp2 ≤ 160), (qp1 = 0 ∨ unk G S + 2 ≤ n102) → (unk G S + 1 ≤ n102) → (161 ≤ qp2 + n110) → T (k110 S m p1 p2) (fun r : sSt => MI m G Λ Y r)) {n156 : Nat} {k156 : sSt → Nat → Int32 → Int64 → Int32 → Option sSt} (hk156 : ∀ (S : sSt) (hS : MI m G Λ Y S) (p2 : Int32) (qp2 : Nat) (ep2 : p2 = nI qp2) (bp2 : qp2 ≤ 159) (p3 : Int64) (p5 : Int32) (qp5 : Nat) (ep5 : p5 = nI qp5) (bp5 : qp5 ≤ 3), (gAI S (G 380) qp2 = 0) → (unk G S + 1 ≤ n102) → (161 ≤ qp2 + n110 + 1) → (4 ≤ qp5 + n156) → T (k156 S m p2 p3 p5) (fun r : sSt => MI m G Λ Y r)) (S : sSt) (hS : MI m G Λ Y S) (p2 : Int32) (qp2 : Nat) (ep2 : p2 = nI qp2) (bp2 : qp2 ≤ 159) (p5 : Int32) (qp5 : Nat) (ep5 : p5 = nI qp5) (bp5 : qp5 ≤ 2) (s0 : Int64) (s1 : Int64) (f0 : gAI S (G 380) qp2 = 0) (f1 : unk G S + 1 ≤ n102) (f2 : 161 ≤ qp2 + n110 + 1) (f3 : 4 ≤ qp5 + n156 + 1) : T (B_X9_reckon_199 Λ.2.2 k102 k110 k156 S m p2 p5 s0 s1) (fun r : sSt => MI m G Λ Y r) := by
  unfold B_X9_reckon_199
  exact hk156 S hS _ qp2 ep2 (by omega) _ _ (qp5 + 1) (e_add ep5 k1) (by omega) (by assumption) (by omega) (by omega) (by omega)
set_option maxHeartbeats 1000000 in
theorem tY_X9_reckon_156 {m : Nat} {G : Nat → Nat} {Λ : sLay} {Y : gY} (w380 : Y.2.2 380 = false) (w381 : Y.2.2 381 = false) {n102 : Nat} {k102 : sSt → Nat → Int32 → Option sSt} (hk102 : ∀ (S : sSt) (hS : MI m G Λ Y S) (p1 : Int32) (qp1 : Nat) (ep1 : p1 = nI qp1) (bp1 : qp1 ≤ 1), ((qp1 = 0 ∧ 0 < n102) ∨ unk G S + 2 ≤ n102) → T (k102 S m p1) (fun r : sSt => MI m G Λ Y r)) {n110 : Nat} {k110 : sSt → Nat → Int32 → Int32 → Option sSt} (hk110 : ∀ (S : sSt) (hS : MI m G Λ Y S) (p1 : Int32) (qp1 : Nat) (ep1 : p1 = nI qp1) (bp1 : qp1 ≤ 1) (p2 : Int32) (qp2 : Nat) (ep2 : p2 = nI qp2) (bp2 : qp2 ≤ 160), (qp1 = 0 ∨ unk G S + 2 ≤ n102) → (unk G S + 1 ≤ n102) → (161 ≤ qp2 + n110) → T (k110 S m p1 p2) (fun r : sSt => MI m G Λ Y r)) {n : Nat} {rec : sSt → Nat → Int32 → Int64 → Int32 → Option sSt} (hrec : ∀ (S : sSt) (hS : MI m G Λ Y S) (p2 : Int32) (qp2 : Nat) (ep2 : p2 = nI qp2) (bp2 : qp2 ≤ 159) (p3 : Int64) (p5 : Int32) (qp5 : Nat) (ep5 : p5 = nI qp5) (bp5 : qp5 ≤ 3), (gAI S (G 380) qp2 = 0) → (unk G S + 1 ≤ n102) → (161 ≤ qp2 + n110 + 1) → (4 ≤ qp5 + n) → T (rec S m p2 p3 p5) (fun r : sSt => MI m G Λ Y r)) (S : sSt) (hS : MI m G Λ Y S) (p2 : Int32) (qp2 : Nat) (ep2 : p2 = nI qp2) (bp2 : qp2 ≤ 159) (p3 : Int64) (p5 : Int32) (qp5 : Nat) (ep5 : p5 = nI qp5) (bp5 : qp5 ≤ 3) (f0 : gAI S (G 380) qp2 = 0) (f1 : unk G S + 1 ≤ n102) (f2 : 161 ≤ qp2 + n110 + 1) (hm : 4 ≤ qp5 + (n + 1)) : T (Y_X9_reckon_156 Λ.2.2 k102 k110 rec S m p2 p3 p5) (fun r : sSt => MI m G Λ Y r) := by
  unfold Y_X9_reckon_156
  refine T_ite (fun c => ?_) (fun c => ?_)
  · refine T_m (hS.c.rf (f := 381) (by decide)) (T_bsome ?_)
    refine T_gi (g_in (hS.c.l (f := 381) (kd := 11) (n := 160) (by decide)) ep2 (by omega) (by omega)) ?_
    refine T_st (fun S11 e11 => ?_)
    have h11 : MI m G Λ Y S11 := by rw [e11]; exact hS.wJ (f := 381) (by decide) w381
    refine T_m (h11.c.rf (f := 380) (by decide)) (T_bsome ?_)
    refine T_gi (g_in (h11.c.l (f := 380) (kd := 12) (n := 160) (by decide)) ep2 (by omega) (by omega)) ?_
    refine T_st (fun S14 e14 => ?_)
    have h14 : MI m G Λ Y S14 := by rw [e14]; exact h11.wI (f := 380) (by decide) w380 (rg0 (P := fun B => nB B _) (by decide)) (rg0 (P := fun B => oB B _) (by decide))
    have hu : unk G S14 + 1 = unk G S := by
      refine unkN_set (i := qp2) (v := 1) (fun k => ?_) (by decide) f0 160 (by omega)
      rw [e14, gAI_sAI, e_clamp ep2 (by omega), e11]
      by_cases ck : k = qp2
      · rw [if_pos ⟨rfl, ck⟩, if_pos ck]
        rfl
      · rw [if_neg (fun z => ck z.2), if_neg ck]
        rfl
    exact tB_X9_reckon_223 (hk102 := hk102) (hk110 := hk110) S14 h14 _ 1 rfl (by omega) _ qp2 ep2 bp2 (by omega) (by omega) (by omega)
  · have d := mt (e_le k3 ep5 (by omega) (by omega)).mpr c
    refine T_m (hS.c.rf (f := 379) (by decide)) (T_bsome ?_)
    refine T_gi (g_in (hS.c.l (f := 379) (kd := 10) (n := 480) (by decide)) (e_add (e_mul k3 ep2) ep5) (by omega) (by omega)) ?_
    refine T_ite (fun _ => tB_X9_reckon_199 (hk102 := hk102) (hk110 := hk110) (hk156 := hrec) S hS _ qp2 ep2 bp2 _ qp5 ep5 (by omega) _ _ f0 f1 (by omega) (by omega)) (fun c3 => ?_)
    obtain ⟨j, gj, ej⟩ := (hS.c.o (f := 379) (B := 159) (by decide) _).ne c3
    refine T_m (hS.c.rf (f := 381) (by decide)) ?_
    refine T_m (hS.c.rf (f := 379) (by decide)) (T_bsome ?_)
    refine T_gi (g_in (hS.c.l (f := 379) (kd := 10) (n := 480) (by decide)) (e_add (e_mul k3 ep2) ep5) (by omega) (by omega)) ?_
    refine T_bsome ?_
    refine T_gi (g_in (hS.c.l (f := 381) (kd := 11) (n := 160) (by decide)) ej (by omega) (by omega)) ?_
    exact tB_X9_reckon_199 (hk102 := hk102) (hk110 := hk110) (hk156 := hrec) S hS _ qp2 ep2 bp2 _ qp5 ep5 (by omega) _ _ f0 f1 (by omega) (by omega)
theorem tL_X9_reckon_156 {m : Nat} {G : Nat → Nat} {Λ : sLay} {Y : gY} (w380 : Y.2.2 380 = false) (w381 : Y.2.2 381 = false) {n102 : Nat} {k102 : sSt → Nat → Int32 → Option sSt} (hk102 : ∀ (S : sSt) (hS : MI m G Λ Y S) (p1 : Int32) (qp1 : Nat) (ep1 : p1 = nI qp1) (bp1 : qp1 ≤ 1), ((qp1 = 0 ∧ 0 < n102) ∨ unk G S + 2 ≤ n102) → T (k102 S m p1) (fun r : sSt => MI m G Λ Y r)) {n110 : Nat} {k110 : sSt → Nat → Int32 → Int32 → Option sSt} (hk110 : ∀ (S : sSt) (hS : MI m G Λ Y S) (p1 : Int32) (qp1 : Nat) (ep1 : p1 = nI qp1) (bp1 : qp1 ≤ 1) (p2 : Int32) (qp2 : Nat) (ep2 : p2 = nI qp2) (bp2 : qp2 ≤ 160), (qp1 = 0 ∨ unk G S + 2 ≤ n102) → (unk G S + 1 ≤ n102) → (161 ≤ qp2 + n110) → T (k110 S m p1 p2) (fun r : sSt => MI m G Λ Y r)) : ∀ (n : Nat) (S : sSt) (hS : MI m G Λ Y S) (p2 : Int32) (qp2 : Nat) (ep2 : p2 = nI qp2) (bp2 : qp2 ≤ 159) (p3 : Int64) (p5 : Int32) (qp5 : Nat) (ep5 : p5 = nI qp5) (bp5 : qp5 ≤ 3) (_ : gAI S (G 380) qp2 = 0) (_ : unk G S + 1 ≤ n102) (_ : 161 ≤ qp2 + n110 + 1) (_ : 4 ≤ qp5 + n), T (L_X9_reckon_156 Λ.2.2 k102 k110 n S m p2 p3 p5) (fun r : sSt => MI m G Λ Y r) := by
  intro n
  induction n with
  | zero =>
    intro S hS p2 qp2 ep2 bp2 p3 p5 qp5 ep5 bp5 f0 f1 f2 hm
    exfalso
    omega
  | succ n ih =>
    intro S hS p2 qp2 ep2 bp2 p3 p5 qp5 ep5 bp5 f0 f1 f2 hm
    exact tY_X9_reckon_156 (w380 := w380) (w381 := w381) (n := n) (rec := L_X9_reckon_156 Λ.2.2 k102 k110 n) (hrec := ih) (n102 := n102) (k102 := k102) (hk102 := hk102) (n110 := n110) (k110 := k110) (hk110 := hk110) (S := S) (hS := hS) (p2 := p2) (qp2 := qp2) (ep2 := ep2) (bp2 := bp2) (p3 := p3) (p5 := p5) (qp5 := qp5) (ep5 := ep5) (bp5 := bp5) (f0 := f0) (f1 := f1) (f2 := f2) (hm := hm)
set_option maxHeartbeats 1000000 in
theorem tY_X9_reckon_110 {m : Nat} {G : Nat → Nat} {Λ : sLay} {Y : gY} (w380 : Y.2.2 380 = false) (w381 : Y.2.2 381 = false) {n102 : Nat} {k102 : sSt → Nat → Int32 → Option sSt} (hk102 : ∀ (S : sSt) (hS : MI m G Λ Y S) (p1 : Int32) (qp1 : Nat) (ep1 : p1 = nI qp1) (bp1 : qp1 ≤ 1), ((qp1 = 0 ∧ 0 < n102) ∨ unk G S + 2 ≤ n102) → T (k102 S m p1) (fun r : sSt => MI m G Λ Y r)) {n : Nat} {rec : sSt → Nat → Int32 → Int32 → Option sSt} (hrec : ∀ (S : sSt) (hS : MI m G Λ Y S) (p1 : Int32) (qp1 : Nat) (ep1 : p1 = nI qp1) (bp1 : qp1 ≤ 1) (p2 : Int32) (qp2 : Nat) (ep2 : p2 = nI qp2) (bp2 : qp2 ≤ 160), (qp1 = 0 ∨ unk G S + 2 ≤ n102) → (unk G S + 1 ≤ n102) → (161 ≤ qp2 + n) → T (rec S m p1 p2) (fun r : sSt => MI m G Λ Y r)) (S : sSt) (hS : MI m G Λ Y S) (p1 : Int32) (qp1 : Nat) (ep1 : p1 = nI qp1) (bp1 : qp1 ≤ 1) (p2 : Int32) (qp2 : Nat) (ep2 : p2 = nI qp2) (bp2 : qp2 ≤ 160) (f0 : qp1 = 0 ∨ unk G S + 2 ≤ n102) (f1 : unk G S + 1 ≤ n102) (hm : 161 ≤ qp2 + (n + 1)) : T (Y_X9_reckon_110 Λ.2.2 k102 rec S m p1 p2) (fun r : sSt => MI m G Λ Y r) := by
  unfold Y_X9_reckon_110
  obtain ⟨j, gj, ej⟩ := hS.c.f (f := 361) (B := 16) (by decide)
  refine T_ite (fun c => hk102 S hS _ qp1 ep1 bp1 (by omega)) (fun c => ?_)
  have d := mt (e_le (e_mul k10 ej) ep2 (by omega) (by omega)).mpr c
  refine T_bind (tF_X9_isConstant S hS _ qp2 ep2 (by omega)) (fun v1 _ => ?_)
  refine T_ite (fun _ => tB_X9_reckon_223 (hk102 := hk102) (hk110 := hrec) S hS _ qp1 ep1 bp1 _ qp2 ep2 (by omega) f0 f1 (by omega)) (fun _ => ?_)
  refine T_m (hS.c.rf (f := 380) (by decide)) (T_bsome ?_)
  refine T_gi (g_in (hS.c.l (f := 380) (kd := 12) (n := 160) (by decide)) ep2 (by omega) (by omega)) ?_
  refine T_ite (fun c3 => ?_) (fun _ => tB_X9_reckon_223 (hk102 := hk102) (hk110 := hrec) S hS _ qp1 ep1 bp1 _ qp2 ep2 (by omega) f0 f1 (by omega))
  rw [e_clamp ep2 (by omega)] at c3
  refine T_bind (tF_X9_waitsForNone S hS _ qp2 ep2 (by omega)) (fun v5 _ => ?_)
  refine T_ite (fun _ => tB_X9_reckon_223 (hk102 := hk102) (hk110 := hrec) S hS _ qp1 ep1 bp1 _ qp2 ep2 (by omega) f0 f1 (by omega)) (fun _ => ?_)
  refine T_m (hS.c.rf (f := 365) (by decide)) (T_bsome ?_)
  refine T_gi (g_in (hS.c.l (f := 365) (kd := 11) (n := 160) (by decide)) ep2 (by omega) (by omega)) ?_
  have hFU := FU_big
  exact tL_X9_reckon_156 (w380 := w380) (w381 := w381) (hk102 := hk102) (hk110 := hrec) FU S hS _ qp2 ep2 (by omega) _ _ 0 rfl (by omega) c3 f1 (by omega) (by omega)
theorem tL_X9_reckon_110 {m : Nat} {G : Nat → Nat} {Λ : sLay} {Y : gY} (w380 : Y.2.2 380 = false) (w381 : Y.2.2 381 = false) {n102 : Nat} {k102 : sSt → Nat → Int32 → Option sSt} (hk102 : ∀ (S : sSt) (hS : MI m G Λ Y S) (p1 : Int32) (qp1 : Nat) (ep1 : p1 = nI qp1) (bp1 : qp1 ≤ 1), ((qp1 = 0 ∧ 0 < n102) ∨ unk G S + 2 ≤ n102) → T (k102 S m p1) (fun r : sSt => MI m G Λ Y r)) : ∀ (n : Nat) (S : sSt) (hS : MI m G Λ Y S) (p1 : Int32) (qp1 : Nat) (ep1 : p1 = nI qp1) (bp1 : qp1 ≤ 1) (p2 : Int32) (qp2 : Nat) (ep2 : p2 = nI qp2) (bp2 : qp2 ≤ 160) (_ : qp1 = 0 ∨ unk G S + 2 ≤ n102) (_ : unk G S + 1 ≤ n102) (_ : 161 ≤ qp2 + n), T (L_X9_reckon_110 Λ.2.2 k102 n S m p1 p2) (fun r : sSt => MI m G Λ Y r) := by
  intro n
  induction n with
  | zero =>
    intro S hS p1 qp1 ep1 bp1 p2 qp2 ep2 bp2 f0 f1 hm
    exfalso
    omega
  | succ n ih =>
    intro S hS p1 qp1 ep1 bp1 p2 qp2 ep2 bp2 f0 f1 hm
    exact tY_X9_reckon_110 (w380 := w380) (w381 := w381) (n := n) (rec := L_X9_reckon_110 Λ.2.2 k102 n) (hrec := ih) (n102 := n102) (k102 := k102) (hk102 := hk102) (S := S) (hS := hS) (p1 := p1) (qp1 := qp1) (ep1 := ep1) (bp1 := bp1) (p2 := p2) (qp2 := qp2) (ep2 := ep2) (bp2 := bp2) (f0 := f0) (f1 := f1) (hm := hm)
set_option maxHeartbeats 1000000 in
theorem tY_X9_reckon_102 {m : Nat} {G : Nat → Nat} {Λ : sLay} {Y : gY} (w380 : Y.2.2 380 = false) (w381 : Y.2.2 381 = false) {n : Nat} {rec : sSt → Nat → Int32 → Option sSt} (hrec : ∀ (S : sSt) (hS : MI m G Λ Y S) (p1 : Int32) (qp1 : Nat) (ep1 : p1 = nI qp1) (bp1 : qp1 ≤ 1), ((qp1 = 0 ∧ 0 < n) ∨ unk G S + 2 ≤ n) → T (rec S m p1) (fun r : sSt => MI m G Λ Y r)) (S : sSt) (hS : MI m G Λ Y S) (p1 : Int32) (qp1 : Nat) (ep1 : p1 = nI qp1) (bp1 : qp1 ≤ 1) (hm : (qp1 = 0 ∧ 0 < (n + 1)) ∨ unk G S + 2 ≤ (n + 1)) : T (Y_X9_reckon_102 Λ.2.2 rec S m p1) (fun r : sSt => MI m G Λ Y r) := by
  unfold Y_X9_reckon_102
  have hFU := FU_big
  refine T_ite (fun c1 => ?_) (fun c1 => ?_)
  · skip
    have d1 := (e_eq ep1 k0 (by omega) (by omega)).mp c1
    exact T_some hS
  · skip
    have d1 := mt (e_eq ep1 k0 (by omega) (by omega)).mpr c1
    exact tL_X9_reckon_110 (w380 := w380) (w381 := w381) (n102 := n) (k102 := rec) (hk102 := hrec) FU S hS _ 0 k0 (by omega) _ 0 k0 (by omega) (by omega) (by omega) (by omega)
theorem tL_X9_reckon_102 {m : Nat} {G : Nat → Nat} {Λ : sLay} {Y : gY} (w380 : Y.2.2 380 = false) (w381 : Y.2.2 381 = false) : ∀ (n : Nat) (S : sSt) (hS : MI m G Λ Y S) (p1 : Int32) (qp1 : Nat) (ep1 : p1 = nI qp1) (bp1 : qp1 ≤ 1) (_ : (qp1 = 0 ∧ 0 < n) ∨ unk G S + 2 ≤ n), T (L_X9_reckon_102 Λ.2.2 n S m p1) (fun r : sSt => MI m G Λ Y r) := by
  intro n
  induction n with
  | zero =>
    intro S hS p1 qp1 ep1 bp1 hm
    exfalso
    omega
  | succ n ih =>
    intro S hS p1 qp1 ep1 bp1 hm
    exact tY_X9_reckon_102 (w380 := w380) (w381 := w381) (n := n) (rec := L_X9_reckon_102 Λ.2.2 n) (hrec := ih) (S := S) (hS := hS) (p1 := p1) (qp1 := qp1) (ep1 := ep1) (bp1 := bp1) (hm := hm)
set_option maxHeartbeats 1000000 in
theorem tB_X9_reckon_87 {m : Nat} {G : Nat → Nat} {Λ : sLay} {Y : gY} (w379 : Y.2.2 379 = false) {n2 : Nat} {k2 : sSt → Nat → Int32 → Option sSt} (hk2 : ∀ (S : sSt) (hS : MI m G Λ Y S) (p1 : Int32) (qp1 : Nat) (ep1 : p1 = nI qp1) (bp1 : qp1 ≤ 160), (161 ≤ qp1 + n2) → T (k2 S m p1) (fun r : sSt => MI m G Λ Y r)) {n29 : Nat} {k29 : sSt → Nat → Int32 → Int32 → Option sSt} (hk29 : ∀ (S : sSt) (hS : MI m G Λ Y S) (p1 : Int32) (qp1 : Nat) (ep1 : p1 = nI qp1) (bp1 : qp1 ≤ 159) (p2 : Int32) (qp2 : Nat) (ep2 : p2 = nI qp2) (bp2 : qp2 ≤ 3), (161 ≤ qp1 + n2 + 1) → (4 ≤ qp2 + n29) → T (k29 S m p1 p2) (fun r : sSt => MI m G Λ Y r)) (S : sSt) (hS : MI m G Λ Y S) (p1 : Int32) (qp1 : Nat) (ep1 : p1 = nI qp1) (bp1 : qp1 ≤ 159) (p2 : Int32) (qp2 : Nat) (ep2 : p2 = nI qp2) (bp2 : qp2 ≤ 2) (s0 : Int32) (os0 : oB 159 s0) (s1 : Int32) (qs1 : Nat) (es1 : s1 = nI qs1) (bs1 : qs1 ≤ 479) (f0 : 161 ≤ qp1 + n2 + 1) (f1 : 4 ≤ qp2 + n29 + 1) : T (B_X9_reckon_87 Λ.2.2 k2 k29 S m p1 p2 s0 s1 (some (G 379))) (fun r : sSt => MI m G Λ Y r) := by
  unfold B_X9_reckon_87
  refine T_bsome ?_
  refine T_gi (g_in ((hS).c.l (f := 379) (kd := 10) (n := 480) (by decide)) es1 (by omega) (by omega)) ?_
  refine T_st (fun S31 eS31 => ?_)
  have hS31 : MI m G Λ Y S31 := by rw [eS31]; exact (hS).wI (f := 379) (by decide) w379 (rg0 (P := fun B => nB B _) (by decide)) (rg2 (B := 159) (by decide) os0)
  exact hk29 S31 hS31 _ qp1 ep1 (by omega) _ (qp2 + 1) (e_add ep2 k1) (by omega) (by omega) (by omega)
set_option maxHeartbeats 1000000 in
theorem tB_X9_reckon_85 {m : Nat} {G : Nat → Nat} {Λ : sLay} {Y : gY} (w379 : Y.2.2 379 = false) {n2 : Nat} {k2 : sSt → Nat → Int32 → Option sSt} (hk2 : ∀ (S : sSt) (hS : MI m G Λ Y S) (p1 : Int32) (qp1 : Nat) (ep1 : p1 = nI qp1) (bp1 : qp1 ≤ 160), (161 ≤ qp1 + n2) → T (k2 S m p1) (fun r : sSt => MI m G Λ Y r)) {n29 : Nat} {k29 : sSt → Nat → Int32 → Int32 → Option sSt} (hk29 : ∀ (S : sSt) (hS : MI m G Λ Y S) (p1 : Int32) (qp1 : Nat) (ep1 : p1 = nI qp1) (bp1 : qp1 ≤ 159) (p2 : Int32) (qp2 : Nat) (ep2 : p2 = nI qp2) (bp2 : qp2 ≤ 3), (161 ≤ qp1 + n2 + 1) → (4 ≤ qp2 + n29) → T (k29 S m p1 p2) (fun r : sSt => MI m G Λ Y r)) (S : sSt) (hS : MI m G Λ Y S) (p1 : Int32) (qp1 : Nat) (ep1 : p1 = nI qp1) (bp1 : qp1 ≤ 159) (p2 : Int32) (qp2 : Nat) (ep2 : p2 = nI qp2) (bp2 : qp2 ≤ 2) (s0 : Int32) (qs0 : Nat) (es0 : s0 = nI qs0) (bs0 : qs0 ≤ 479) (f0 : 161 ≤ qp1 + n2 + 1) (f1 : 4 ≤ qp2 + n29 + 1) : T (B_X9_reckon_85 Λ.2.2 k2 k29 S m p1 p2 s0 (some (G 379))) (fun r : sSt => MI m G Λ Y r) := by
  unfold B_X9_reckon_85
  exact tB_X9_reckon_87 (w379 := w379) (n2 := n2) (k2 := k2) (hk2 := hk2) (n29 := n29) (k29 := k29) (hk29 := hk29) S hS _ qp1 ep1 (by omega) _ qp2 ep2 (by omega) _ (Or.inl rfl) _ qs0 es0 (by omega) (by omega) (by omega)
set_option maxHeartbeats 1000000 in
theorem tY_X9_reckon_29 {m : Nat} {G : Nat → Nat} {Λ : sLay} {Y : gY} (w379 : Y.2.2 379 = false) {n2 : Nat} {k2 : sSt → Nat → Int32 → Option sSt} (hk2 : ∀ (S : sSt) (hS : MI m G Λ Y S) (p1 : Int32) (qp1 : Nat) (ep1 : p1 = nI qp1) (bp1 : qp1 ≤ 160), (161 ≤ qp1 + n2) → T (k2 S m p1) (fun r : sSt => MI m G Λ Y r)) {n : Nat} {rec : sSt → Nat → Int32 → Int32 → Option sSt} (hrec : ∀ (S : sSt) (hS : MI m G Λ Y S) (p1 : Int32) (qp1 : Nat) (ep1 : p1 = nI qp1) (bp1 : qp1 ≤ 159) (p2 : Int32) (qp2 : Nat) (ep2 : p2 = nI qp2) (bp2 : qp2 ≤ 3), (161 ≤ qp1 + n2 + 1) → (4 ≤ qp2 + n) → T (rec S m p1 p2) (fun r : sSt => MI m G Λ Y r)) (S : sSt) (hS : MI m G Λ Y S) (p1 : Int32) (qp1 : Nat) (ep1 : p1 = nI qp1) (bp1 : qp1 ≤ 159) (p2 : Int32) (qp2 : Nat) (ep2 : p2 = nI qp2) (bp2 : qp2 ≤ 3) (f0 : 161 ≤ qp1 + n2 + 1) (hm : 4 ≤ qp2 + (n + 1)) : T (Y_X9_reckon_29 Λ.2.2 k2 rec S m p1 p2) (fun r : sSt => MI m G Λ Y r) := by
  unfold Y_X9_reckon_29
  refine T_ite (fun c1 => ?_) (fun c1 => ?_)
  · skip
    have d1 := (e_le k3 ep2 (by omega) (by omega)).mp c1
    exact hk2 S hS _ (qp1 + 1) (e_add ep1 k1) (by omega) (by omega)
  · skip
    have d1 := mt (e_le k3 ep2 (by omega) (by omega)).mpr c1
    refine T_m ((hS).c.rf (f := 379) (by decide)) ?_
    refine T_bind (tF_X9_isConstant S hS _ qp1 ep1 (by omega)) (fun v28 rv28 => ?_)
    refine T_ite (fun c2 => ?_) (fun c2 => ?_)
    · skip
      exact tB_X9_reckon_85 (w379 := w379) (n2 := n2) (k2 := k2) (hk2 := hk2) (n29 := n) (k29 := rec) (hk29 := hrec) S hS _ qp1 ep1 (by omega) _ qp2 ep2 (by omega) _ ((3 * qp1) + qp2) (e_add (e_mul k3 ep1) ep2) (by omega) (by omega) (by omega)
    · skip
      refine T_m ((hS).c.rf (f := 367) (by decide)) ?_
      refine T_bsome ?_
      refine T_gi (g_in ((hS).c.l (f := 367) (kd := 10) (n := 160) (by decide)) ep1 (by omega) (by omega)) ?_
      obtain ⟨j4, g4, e4⟩ := (hS).c.n (f := 367) (B := 3) (by decide) (Int32.toNatClampNeg p1)
      refine T_ite (fun c3 => ?_) (fun c3 => ?_)
      · skip
        have d3 := (e_le e4 ep2 (by omega) (by omega)).mp c3
        exact tB_X9_reckon_85 (w379 := w379) (n2 := n2) (k2 := k2) (hk2 := hk2) (n29 := n) (k29 := rec) (hk29 := hrec) S hS _ qp1 ep1 (by omega) _ qp2 ep2 (by omega) _ ((3 * qp1) + qp2) (e_add (e_mul k3 ep1) ep2) (by omega) (by omega) (by omega)
      · skip
        have d3 := mt (e_le e4 ep2 (by omega) (by omega)).mpr c3
        refine T_m ((hS).c.rf (f := 368) (by decide)) ?_
        refine T_bsome ?_
        refine T_gi (g_in ((hS).c.l (f := 368) (kd := 10) (n := 480) (by decide)) (e_add (e_mul k3 ep1) ep2) (by omega) (by omega)) ?_
        refine T_bind (tF_X9_find S hS _ (qp1 / 10) (e_div ep1 k10 (by omega) (by omega)) (by omega) _) (fun v36 rv36 => ?_)
        exact tB_X9_reckon_87 (w379 := w379) (n2 := n2) (k2 := k2) (hk2 := hk2) (n29 := n) (k29 := rec) (hk29 := hrec) S hS _ qp1 ep1 (by omega) _ qp2 ep2 (by omega) _ rv36 _ ((3 * qp1) + qp2) (e_add (e_mul k3 ep1) ep2) (by omega) (by omega) (by omega)
theorem tL_X9_reckon_29 {m : Nat} {G : Nat → Nat} {Λ : sLay} {Y : gY} (w379 : Y.2.2 379 = false) {n2 : Nat} {k2 : sSt → Nat → Int32 → Option sSt} (hk2 : ∀ (S : sSt) (hS : MI m G Λ Y S) (p1 : Int32) (qp1 : Nat) (ep1 : p1 = nI qp1) (bp1 : qp1 ≤ 160), (161 ≤ qp1 + n2) → T (k2 S m p1) (fun r : sSt => MI m G Λ Y r)) : ∀ (n : Nat) (S : sSt) (hS : MI m G Λ Y S) (p1 : Int32) (qp1 : Nat) (ep1 : p1 = nI qp1) (bp1 : qp1 ≤ 159) (p2 : Int32) (qp2 : Nat) (ep2 : p2 = nI qp2) (bp2 : qp2 ≤ 3) (_ : 161 ≤ qp1 + n2 + 1) (_ : 4 ≤ qp2 + n), T (L_X9_reckon_29 Λ.2.2 k2 n S m p1 p2) (fun r : sSt => MI m G Λ Y r) := by
  intro n
  induction n with
  | zero =>
    intro S hS p1 qp1 ep1 bp1 p2 qp2 ep2 bp2 f0 hm
    exfalso
    omega
  | succ n ih =>
    intro S hS p1 qp1 ep1 bp1 p2 qp2 ep2 bp2 f0 hm
    exact tY_X9_reckon_29 (w379 := w379) (n := n) (rec := L_X9_reckon_29 Λ.2.2 k2 n) (hrec := ih) (n2 := n2) (k2 := k2) (hk2 := hk2) (S := S) (hS := hS) (p1 := p1) (qp1 := qp1) (ep1 := ep1) (bp1 := bp1) (p2 := p2) (qp2 := qp2) (ep2 := ep2) (bp2 := bp2) (f0 := f0) (hm := hm)
set_option maxHeartbeats 1000000 in
theorem tY_X9_reckon_2 {m : Nat} {G : Nat → Nat} {Λ : sLay} {Y : gY} (w379 : Y.2.2 379 = false) (w380 : Y.2.2 380 = false) (w381 : Y.2.2 381 = false) {n : Nat} {rec : sSt → Nat → Int32 → Option sSt} (hrec : ∀ (S : sSt) (hS : MI m G Λ Y S) (p1 : Int32) (qp1 : Nat) (ep1 : p1 = nI qp1) (bp1 : qp1 ≤ 160), (161 ≤ qp1 + n) → T (rec S m p1) (fun r : sSt => MI m G Λ Y r)) (S : sSt) (hS : MI m G Λ Y S) (p1 : Int32) (qp1 : Nat) (ep1 : p1 = nI qp1) (bp1 : qp1 ≤ 160) (hm : 161 ≤ qp1 + (n + 1)) : T (Y_X9_reckon_2 Λ.2.2 rec S m p1) (fun r : sSt => MI m G Λ Y r) := by
  unfold Y_X9_reckon_2
  have hFU := FU_big
  obtain ⟨j2, g2, e2⟩ := (hS).c.f (f := 361) (B := 16) (by decide)
  refine T_ite (fun c1 => ?_) (fun c1 => ?_)
  · skip
    have d1 := (e_le (e_mul k10 e2) ep1 (by omega) (by omega)).mp c1
    exact tL_X9_reckon_102 (w380 := w380) (w381 := w381) FU S hS _ 1 k1 (by omega) (by have := unk_le G S; omega)
  · skip
    have d1 := mt (e_le (e_mul k10 e2) ep1 (by omega) (by omega)).mpr c1
    refine T_m ((hS).c.rf (f := 380) (by decide)) ?_
    refine T_bsome ?_
    refine T_gi (g_in ((hS).c.l (f := 380) (kd := 12) (n := 160) (by decide)) ep1 (by omega) (by omega)) ?_
    refine T_st (fun S23 eS23 => ?_)
    have hS23 : MI m G Λ Y S23 := by rw [eS23]; exact (hS).wI (f := 380) (by decide) w380 (rg0 (P := fun B => nB B _) (by decide)) (rg0 (P := fun B => oB B _) (by decide))
    refine T_m ((hS23).c.rf (f := 381) (by decide)) ?_
    refine T_bsome ?_
    refine T_gi (g_in ((hS).c.l (f := 381) (kd := 11) (n := 160) (by decide)) ep1 (by omega) (by omega)) ?_
    refine T_st (fun S26 eS26 => ?_)
    have hS26 : MI m G Λ Y S26 := by rw [eS26]; exact (hS23).wJ (f := 381) (by decide) w381
    exact tL_X9_reckon_29 (w379 := w379) (n2 := n) (k2 := rec) (hk2 := hrec) FU S26 hS26 _ qp1 ep1 (by omega) _ 0 k0 (by omega) (by omega) (by omega)
theorem tL_X9_reckon_2 {m : Nat} {G : Nat → Nat} {Λ : sLay} {Y : gY} (w379 : Y.2.2 379 = false) (w380 : Y.2.2 380 = false) (w381 : Y.2.2 381 = false) : ∀ (n : Nat) (S : sSt) (hS : MI m G Λ Y S) (p1 : Int32) (qp1 : Nat) (ep1 : p1 = nI qp1) (bp1 : qp1 ≤ 160) (_ : 161 ≤ qp1 + n), T (L_X9_reckon_2 Λ.2.2 n S m p1) (fun r : sSt => MI m G Λ Y r) := by
  intro n
  induction n with
  | zero =>
    intro S hS p1 qp1 ep1 bp1 hm
    exfalso
    omega
  | succ n ih =>
    intro S hS p1 qp1 ep1 bp1 hm
    exact tY_X9_reckon_2 (w379 := w379) (w380 := w380) (w381 := w381) (n := n) (rec := L_X9_reckon_2 Λ.2.2 n) (hrec := ih) (S := S) (hS := hS) (p1 := p1) (qp1 := qp1) (ep1 := ep1) (bp1 := bp1) (hm := hm)
set_option maxHeartbeats 1000000 in
theorem tF_X9_reckon {m : Nat} {G : Nat → Nat} {Λ : sLay} {Y : gY} (w379 : Y.2.2 379 = false) (w380 : Y.2.2 380 = false) (w381 : Y.2.2 381 = false) (S : sSt) (hS : MI m G Λ Y S) : T (F_X9_reckon Λ.2.2 S m) (fun r : sSt => MI m G Λ Y r) := by
  unfold F_X9_reckon
  have hFU := FU_big
  exact tL_X9_reckon_2 (w379 := w379) (w380 := w380) (w381 := w381) FU S hS _ 0 k0 (by omega) (by omega)
set_option maxHeartbeats 1000000 in
theorem tF_X9_lay {m : Nat} {G : Nat → Nat} {Λ : sLay} {Y : gY} (w387 : Y.2.2 387 = false) (w388 : Y.2.2 388 = false) (S : sSt) (hS : MI m G Λ Y S) (l : Nat) (lS : gFI S 388 m = nI l) (p1 : Int64) (f0 : l < 700) : T (F_X9_lay Λ.2.2 S m p1) (fun r : sSt => MI m G Λ Y r ∧ gFI r 388 m = nI (l + 1)) := by
  unfold F_X9_lay
  refine T_m ((hS).c.rf (f := 387) (by decide)) ?_
  refine T_bsome ?_
  refine T_gi (g_in ((hS).c.l (f := 387) (kd := 11) (n := 700) (by decide)) lS (by omega) (by omega)) ?_
  refine T_st (fun S3 eS3 => ?_)
  have hS3 : MI m G Λ Y S3 := by rw [eS3]; exact (hS).wJ (f := 387) (by decide) w387
  have lS3 : gFI S3 388 m = nI l := by rw [eS3]; exact lS
  refine T_st (fun S4 eS4 => ?_)
  have hS4 : MI m G Λ Y S4 := by rw [eS4]; exact (hS3).wF (f := 388) w388 (rg1 (B := 700) (by decide) ⟨(l + 1), by omega, (e_add lS3 k1)⟩)
  have lS4 : gFI S4 388 m = nI (l + 1) := by rw [eS4, gFI_sFI, if_pos ⟨rfl, rfl⟩]; exact (e_add lS3 k1)
  exact T_some ⟨hS4, lS4⟩
set_option maxHeartbeats 1000000 in
theorem tB_X9_layFound_60 {m : Nat} {G : Nat → Nat} {Λ : sLay} {Y : gY} (w387 : Y.2.2 387 = false) (w388 : Y.2.2 388 = false) (S : sSt) (hS : MI m G Λ Y S) (l : Nat) (lS : gFI S 388 m = nI l) (s0 : Int64) (f0 : l < 700) : T (B_X9_layFound_60 Λ.2.2 S s0 m) (fun r : sSt => MI m G Λ Y r ∧ gFI r 388 m = nI (l + 1)) := by
  unfold B_X9_layFound_60
  refine T_bind (tF_X9_lay (w387 := w387) (w388 := w388) S hS l lS _ (by omega)) (fun S8 rS8 => ?_)
  obtain ⟨rS8, lS8⟩ := rS8
  have hS8 := rS8
  exact T_some ⟨hS8, lS8⟩
set_option maxHeartbeats 1000000 in
theorem tB_X9_layFound_18 {m : Nat} {G : Nat → Nat} {Λ : sLay} {Y : gY} (w387 : Y.2.2 387 = false) (w388 : Y.2.2 388 = false) (S : sSt) (hS : MI m G Λ Y S) (l : Nat) (lS : gFI S 388 m = nI l) (p1 : Int32) (op1 : oB 159 p1) (s0 : Int64) (f0 : l < 699) : T (B_X9_layFound_18 Λ.2.2 S m p1 s0 m) (fun r : sSt => MI m G Λ Y r ∧ gFI r 388 m = nI (l + 2)) := by
  unfold B_X9_layFound_18
  refine T_bind (tF_X9_lay (w387 := w387) (w388 := w388) S hS l lS _ (by omega)) (fun S2 rS2 => ?_)
  obtain ⟨rS2, lS2⟩ := rS2
  have hS2 := rS2
  refine T_ite (fun c1 => ?_) (fun c1 => ?_)
  · skip
    exact tB_X9_layFound_60 (w387 := w387) (w388 := w388) S2 hS2 (l + 1) lS2 _ (by omega)
  · skip
    obtain ⟨j1, g1, e1⟩ := oB.ne op1 c1
    refine T_m ((hS2).c.rf (f := 364) (by decide)) ?_
    refine T_bsome ?_
    refine T_gi (g_in ((hS).c.l (f := 364) (kd := 10) (n := 160) (by decide)) e1 (by omega) (by omega)) ?_
    refine T_ite (fun c2 => ?_) (fun c2 => ?_)
    · skip
      refine T_m ((hS2).c.rf (f := 381) (by decide)) ?_
      refine T_bsome ?_
      refine T_gi (g_in ((hS).c.l (f := 381) (kd := 11) (n := 160) (by decide)) e1 (by omega) (by omega)) ?_
      exact tB_X9_layFound_60 (w387 := w387) (w388 := w388) S2 hS2 (l + 1) lS2 _ (by omega)
    · skip
      refine T_m ((hS2).c.rf (f := 365) (by decide)) ?_
      refine T_bsome ?_
      refine T_gi (g_in ((hS).c.l (f := 365) (kd := 11) (n := 160) (by decide)) e1 (by omega) (by omega)) ?_
      exact tB_X9_layFound_60 (w387 := w387) (w388 := w388) S2 hS2 (l + 1) lS2 _ (by omega)
set_option maxHeartbeats 1000000 in
theorem tF_X9_layFound {m : Nat} {G : Nat → Nat} {Λ : sLay} {Y : gY} (w387 : Y.2.2 387 = false) (w388 : Y.2.2 388 = false) (S : sSt) (hS : MI m G Λ Y S) (l : Nat) (lS : gFI S 388 m = nI l) (p1 : Int32) (op1 : oB 159 p1) (f0 : l < 699) : T (F_X9_layFound Λ.2.2 S m p1) (fun r : sSt => MI m G Λ Y r ∧ gFI r 388 m = nI (l + 2)) := by
  unfold F_X9_layFound
  refine T_ite (fun c1 => ?_) (fun c1 => ?_)
  · skip
    exact tB_X9_layFound_18 (w387 := w387) (w388 := w388) S hS l lS _ (Or.inl c1) _ (by omega)
  · skip
    obtain ⟨j1, g1, e1⟩ := oB.ne op1 c1
    exact tB_X9_layFound_18 (w387 := w387) (w388 := w388) S hS l lS _ (Or.inr ⟨j1, by omega, e1⟩) _ (by omega)
set_option maxHeartbeats 1000000 in
theorem tB_X9_layParts_500 {m : Nat} {G : Nat → Nat} {Λ : sLay} {Y : gY} (w389 : Y.2.2 389 = false) (S : sSt) (hS : MI m G Λ Y S) (l : Nat) (lS : gFI S 388 m = nI l) (f0 : l ≤ 678) : T (B_X9_layParts_500 Λ.2.2 S m) (fun r : sSt => MI m G Λ Y r ∧ ∃ l1, l1 ≤ 678 ∧ gFI r 388 m = nI l1) := by
  unfold B_X9_layParts_500
  refine T_m ((hS).c.rf (f := 389) (by decide)) ?_
  refine T_bsome ?_
  refine T_gi (g_in ((hS).c.l (f := 389) (kd := 10) (n := 6) (by decide)) k4 (by omega) (by omega)) ?_
  refine T_st (fun S40 eS40 => ?_)
  have hS40 : MI m G Λ Y S40 := by rw [eS40]; exact (hS).wI (f := 389) (by decide) w389 (rg1 (B := 690) (by decide) ⟨l, by omega, lS⟩) (rg0 (P := fun B => oB B _) (by decide))
  have lS40 : gFI S40 388 m = nI l := by rw [eS40]; exact lS
  exact T_some ⟨hS40, l, by omega, lS40⟩
set_option maxHeartbeats 1000000 in
theorem tB_X9_layParts_494 {m : Nat} {G : Nat → Nat} {Λ : sLay} {Y : gY} {n400 : Nat} {k400 : sSt → Nat → Int32 → Int32 → Option sSt} (hk400 : ∀ (S : sSt) (hS : MI m G Λ Y S) (l : Nat) (lS : gFI S 388 m = nI l) (p1 : Int32) (qp1 : Nat) (ep1 : p1 = nI qp1) (bp1 : qp1 ≤ 15) (p2 : Int32) (qp2 : Nat) (ep2 : p2 = nI qp2) (bp2 : qp2 ≤ 160), (l ≤ 198 + 3 * qp2) → (161 ≤ qp2 + n400) → T (k400 S m p1 p2) (fun r : sSt => MI m G Λ Y r ∧ ∃ l1, l1 ≤ 678 ∧ gFI r 388 m = nI l1)) (S : sSt) (hS : MI m G Λ Y S) (l : Nat) (lS : gFI S 388 m = nI l) (p1 : Int32) (qp1 : Nat) (ep1 : p1 = nI qp1) (bp1 : qp1 ≤ 15) (p2 : Int32) (qp2 : Nat) (ep2 : p2 = nI qp2) (bp2 : qp2 ≤ 159) (f0 : l ≤ 201 + 3 * qp2) (f1 : 161 ≤ qp2 + n400 + 1) : T (B_X9_layParts_494 Λ.2.2 k400 S m p1 p2) (fun r : sSt => MI m G Λ Y r ∧ ∃ l1, l1 ≤ 678 ∧ gFI r 388 m = nI l1) := by
  unfold B_X9_layParts_494
  exact hk400 S hS l lS _ qp1 ep1 (by omega) _ (qp2 + 1) (e_add ep2 k1) (by omega) (by omega) (by omega)
set_option maxHeartbeats 1000000 in
theorem tY_X9_layParts_400 {m : Nat} {G : Nat → Nat} {Λ : sLay} {Y : gY} (w387 : Y.2.2 387 = false) (w388 : Y.2.2 388 = false) (w389 : Y.2.2 389 = false) {n : Nat} {rec : sSt → Nat → Int32 → Int32 → Option sSt} (hrec : ∀ (S : sSt) (hS : MI m G Λ Y S) (l : Nat) (lS : gFI S 388 m = nI l) (p1 : Int32) (qp1 : Nat) (ep1 : p1 = nI qp1) (bp1 : qp1 ≤ 15) (p2 : Int32) (qp2 : Nat) (ep2 : p2 = nI qp2) (bp2 : qp2 ≤ 160), (l ≤ 198 + 3 * qp2) → (161 ≤ qp2 + n) → T (rec S m p1 p2) (fun r : sSt => MI m G Λ Y r ∧ ∃ l1, l1 ≤ 678 ∧ gFI r 388 m = nI l1)) (S : sSt) (hS : MI m G Λ Y S) (l : Nat) (lS : gFI S 388 m = nI l) (p1 : Int32) (qp1 : Nat) (ep1 : p1 = nI qp1) (bp1 : qp1 ≤ 15) (p2 : Int32) (qp2 : Nat) (ep2 : p2 = nI qp2) (bp2 : qp2 ≤ 160) (f0 : l ≤ 198 + 3 * qp2) (hm : 161 ≤ qp2 + (n + 1)) : T (Y_X9_layParts_400 Λ.2.2 rec S m p1 p2) (fun r : sSt => MI m G Λ Y r ∧ ∃ l1, l1 ≤ 678 ∧ gFI r 388 m = nI l1) := by
  unfold Y_X9_layParts_400
  obtain ⟨j2, g2, e2⟩ := (hS).c.f (f := 361) (B := 16) (by decide)
  refine T_ite (fun c1 => ?_) (fun c1 => ?_)
  · skip
    have d1 := (e_le (e_mul k10 e2) ep2 (by omega) (by omega)).mp c1
    exact tB_X9_layParts_500 (w389 := w389) S hS l lS  (by omega)
  · skip
    have d1 := mt (e_le (e_mul k10 e2) ep2 (by omega) (by omega)).mpr c1
    refine T_m ((hS).c.rf (f := 373) (by decide)) ?_
    refine T_bsome ?_
    refine T_gi (g_in ((hS).c.l (f := 373) (kd := 12) (n := 16) (by decide)) ep1 (by omega) (by omega)) ?_
    refine T_ite (fun c3 => ?_) (fun c3 => ?_)
    · skip
      exact tB_X9_layParts_500 (w389 := w389) S hS l lS  (by omega)
    · skip
      refine T_m ((hS).c.rf (f := 362) (by decide)) ?_
      refine T_bsome ?_
      refine T_gi (g_in ((hS).c.l (f := 362) (kd := 12) (n := 16) (by decide)) (e_div ep2 k10 (by omega) (by omega)) (by omega) (by omega)) ?_
      refine T_ite (fun c4 => ?_) (fun c4 => ?_)
      · skip
        exact tB_X9_layParts_494 (n400 := n) (k400 := rec) (hk400 := hrec) S hS l lS _ qp1 ep1 (by omega) _ qp2 ep2 (by omega) (by omega) (by omega)
      · skip
        refine T_m ((hS).c.rf (f := 363) (by decide)) ?_
        refine T_bsome ?_
        refine T_gi (g_in ((hS).c.l (f := 363) (kd := 10) (n := 16) (by decide)) (e_div ep2 k10 (by omega) (by omega)) (by omega) (by omega)) ?_
        obtain ⟨j6, g6, e6⟩ := (hS).c.n (f := 363) (B := 10) (by decide) (Int32.toNatClampNeg (p2 / (10 : Int32)))
        refine T_ite (fun c5 => ?_) (fun c5 => ?_)
        · skip
          have d5 := (e_le e6 (e_sub ep2 (e_mul (e_div ep2 k10 (by omega) (by omega)) k10) (by omega)) (by omega) (by omega)).mp c5
          exact tB_X9_layParts_494 (n400 := n) (k400 := rec) (hk400 := hrec) S hS l lS _ qp1 ep1 (by omega) _ qp2 ep2 (by omega) (by omega) (by omega)
        · skip
          have d5 := mt (e_le e6 (e_sub ep2 (e_mul (e_div ep2 k10 (by omega) (by omega)) k10) (by omega)) (by omega) (by omega)).mpr c5
          refine T_m ((hS).c.rf (f := 364) (by decide)) ?_
          refine T_bsome ?_
          refine T_gi (g_in ((hS).c.l (f := 364) (kd := 10) (n := 160) (by decide)) ep2 (by omega) (by omega)) ?_
          refine T_ite (fun c7 => ?_) (fun c7 => ?_)
          · skip
            refine T_bind (tF_X9_lay (w387 := w387) (w388 := w388) S hS l lS _ (by omega)) (fun S50 rS50 => ?_)
            obtain ⟨rS50, lS50⟩ := rS50
            have hS50 := rS50
            refine T_m ((hS50).c.rf (f := 364) (by decide)) ?_
            refine T_bsome ?_
            refine T_gi (g_in ((hS).c.l (f := 364) (kd := 10) (n := 160) (by decide)) ep2 (by omega) (by omega)) ?_
            refine T_bind (tF_X9_lay (w387 := w387) (w388 := w388) S50 hS50 (l + 1) lS50 _ (by omega)) (fun S54 rS54 => ?_)
            obtain ⟨rS54, lS54⟩ := rS54
            have hS54 := rS54
            refine T_m ((hS54).c.rf (f := 365) (by decide)) ?_
            refine T_bsome ?_
            refine T_gi (g_in ((hS).c.l (f := 365) (kd := 11) (n := 160) (by decide)) ep2 (by omega) (by omega)) ?_
            refine T_bind (tF_X9_lay (w387 := w387) (w388 := w388) S54 hS54 ((l + 1) + 1) lS54 _ (by omega)) (fun S58 rS58 => ?_)
            obtain ⟨rS58, lS58⟩ := rS58
            have hS58 := rS58
            exact tB_X9_layParts_494 (n400 := n) (k400 := rec) (hk400 := hrec) S58 hS58 (((l + 1) + 1) + 1) lS58 _ qp1 ep1 (by omega) _ qp2 ep2 (by omega) (by omega) (by omega)
          · skip
            exact tB_X9_layParts_494 (n400 := n) (k400 := rec) (hk400 := hrec) S hS l lS _ qp1 ep1 (by omega) _ qp2 ep2 (by omega) (by omega) (by omega)
theorem tL_X9_layParts_400 {m : Nat} {G : Nat → Nat} {Λ : sLay} {Y : gY} (w387 : Y.2.2 387 = false) (w388 : Y.2.2 388 = false) (w389 : Y.2.2 389 = false) : ∀ (n : Nat) (S : sSt) (hS : MI m G Λ Y S) (l : Nat) (lS : gFI S 388 m = nI l) (p1 : Int32) (qp1 : Nat) (ep1 : p1 = nI qp1) (bp1 : qp1 ≤ 15) (p2 : Int32) (qp2 : Nat) (ep2 : p2 = nI qp2) (bp2 : qp2 ≤ 160) (_ : l ≤ 198 + 3 * qp2) (_ : 161 ≤ qp2 + n), T (L_X9_layParts_400 Λ.2.2 n S m p1 p2) (fun r : sSt => MI m G Λ Y r ∧ ∃ l1, l1 ≤ 678 ∧ gFI r 388 m = nI l1) := by
  intro n
  induction n with
  | zero =>
    intro S hS l lS p1 qp1 ep1 bp1 p2 qp2 ep2 bp2 f0 hm
    exfalso
    omega
  | succ n ih =>
    intro S hS l lS p1 qp1 ep1 bp1 p2 qp2 ep2 bp2 f0 hm
    exact tY_X9_layParts_400 (w387 := w387) (w388 := w388) (w389 := w389) (n := n) (rec := L_X9_layParts_400 Λ.2.2 n) (hrec := ih) (S := S) (hS := hS) (l := l) (lS := lS) (p1 := p1) (qp1 := qp1) (ep1 := ep1) (bp1 := bp1) (p2 := p2) (qp2 := qp2) (ep2 := ep2) (bp2 := bp2) (f0 := f0) (hm := hm)
set_option maxHeartbeats 1000000 in
theorem tB_X9_layParts_395 {m : Nat} {G : Nat → Nat} {Λ : sLay} {Y : gY} (w387 : Y.2.2 387 = false) (w388 : Y.2.2 388 = false) (w389 : Y.2.2 389 = false) (S : sSt) (hS : MI m G Λ Y S) (l : Nat) (lS : gFI S 388 m = nI l) (p1 : Int32) (qp1 : Nat) (ep1 : p1 = nI qp1) (bp1 : qp1 ≤ 15) (s0 : Int64) (f0 : l ≤ 197) : T (B_X9_layParts_395 Λ.2.2 S m p1 s0 m) (fun r : sSt => MI m G Λ Y r ∧ ∃ l1, l1 ≤ 678 ∧ gFI r 388 m = nI l1) := by
  unfold B_X9_layParts_395
  have hFU := FU_big
  refine T_bind (tF_X9_lay (w387 := w387) (w388 := w388) S hS l lS _ (by omega)) (fun S37 rS37 => ?_)
  obtain ⟨rS37, lS37⟩ := rS37
  have hS37 := rS37
  exact tL_X9_layParts_400 (w387 := w387) (w388 := w388) (w389 := w389) FU S37 hS37 (l + 1) lS37 _ qp1 ep1 (by omega) _ 0 k0 (by omega) (by omega) (by omega)
set_option maxHeartbeats 1000000 in
theorem tY_X9_layParts_326 {m : Nat} {G : Nat → Nat} {Λ : sLay} {Y : gY} (w387 : Y.2.2 387 = false) (w388 : Y.2.2 388 = false) {n309 : Nat} {k309 : sSt → Nat → Int32 → Int32 → Option sSt} (hk309 : ∀ (S : sSt) (hS : MI m G Λ Y S) (l : Nat) (lS : gFI S 388 m = nI l) (p1 : Int32) (qp1 : Nat) (ep1 : p1 = nI qp1) (bp1 : qp1 ≤ 15) (p2 : Int32) (qp2 : Nat) (ep2 : p2 = nI qp2) (bp2 : qp2 ≤ 160), (10 * qp1 ≤ qp2) → (qp2 ≤ 10 * qp1 + 10) → (l ≤ 137 + 6 * (qp2 - 10 * qp1)) → (161 ≤ qp2 + n309) → T (k309 S m p1 p2) (fun r : sSt => MI m G Λ Y r ∧ ∃ l1, l1 ≤ 678 ∧ gFI r 388 m = nI l1)) {n : Nat} {rec : sSt → Nat → Int32 → Int32 → Int32 → Option sSt} (hrec : ∀ (S : sSt) (hS : MI m G Λ Y S) (l : Nat) (lS : gFI S 388 m = nI l) (p1 : Int32) (qp1 : Nat) (ep1 : p1 = nI qp1) (bp1 : qp1 ≤ 15) (p2 : Int32) (qp2 : Nat) (ep2 : p2 = nI qp2) (bp2 : qp2 ≤ 159) (p3 : Int32) (qp3 : Nat) (ep3 : p3 = nI qp3) (bp3 : qp3 ≤ 3), (10 * qp1 ≤ qp2) → (qp2 < 10 * qp1 + 10) → (l ≤ 137 + 6 * (qp2 - 10 * qp1) + 2 * qp3) → (161 ≤ qp2 + n309 + 1) → (4 ≤ qp3 + n) → T (rec S m p1 p2 p3) (fun r : sSt => MI m G Λ Y r ∧ ∃ l1, l1 ≤ 678 ∧ gFI r 388 m = nI l1)) (S : sSt) (hS : MI m G Λ Y S) (l : Nat) (lS : gFI S 388 m = nI l) (p1 : Int32) (qp1 : Nat) (ep1 : p1 = nI qp1) (bp1 : qp1 ≤ 15) (p2 : Int32) (qp2 : Nat) (ep2 : p2 = nI qp2) (bp2 : qp2 ≤ 159) (p3 : Int32) (qp3 : Nat) (ep3 : p3 = nI qp3) (bp3 : qp3 ≤ 3) (f0 : 10 * qp1 ≤ qp2) (f1 : qp2 < 10 * qp1 + 10) (f2 : l ≤ 137 + 6 * (qp2 - 10 * qp1) + 2 * qp3) (f3 : 161 ≤ qp2 + n309 + 1) (hm : 4 ≤ qp3 + (n + 1)) : T (Y_X9_layParts_326 Λ.2.2 k309 rec S m p1 p2 p3) (fun r : sSt => MI m G Λ Y r ∧ ∃ l1, l1 ≤ 678 ∧ gFI r 388 m = nI l1) := by
  unfold Y_X9_layParts_326
  refine T_m ((hS).c.rf (f := 367) (by decide)) ?_
  refine T_bsome ?_
  refine T_gi (g_in ((hS).c.l (f := 367) (kd := 10) (n := 160) (by decide)) ep2 (by omega) (by omega)) ?_
  obtain ⟨j2, g2, e2⟩ := (hS).c.n (f := 367) (B := 3) (by decide) (Int32.toNatClampNeg p2)
  refine T_ite (fun c1 => ?_) (fun c1 => ?_)
  · skip
    have d1 := (e_le e2 ep3 (by omega) (by omega)).mp c1
    exact hk309 S hS l lS _ qp1 ep1 (by omega) _ (qp2 + 1) (e_add ep2 k1) (by omega) (by omega) (by omega) (by omega) (by omega)
  · skip
    have d1 := mt (e_le e2 ep3 (by omega) (by omega)).mpr c1
    refine T_m ((hS).c.rf (f := 368) (by decide)) ?_
    refine T_bsome ?_
    refine T_gi (g_in ((hS).c.l (f := 368) (kd := 10) (n := 480) (by decide)) (e_add (e_mul k3 ep2) ep3) (by omega) (by omega)) ?_
    refine T_bind (tF_X9_find S hS _ qp1 ep1 (by omega) _) (fun v63 rv63 => ?_)
    refine T_bind (tF_X9_layFound (w387 := w387) (w388 := w388) S hS l lS _ rv63 (by omega)) (fun S66 rS66 => ?_)
    obtain ⟨rS66, lS66⟩ := rS66
    have hS66 := rS66
    exact hrec S66 hS66 (l + 2) lS66 _ qp1 ep1 (by omega) _ qp2 ep2 (by omega) _ (qp3 + 1) (e_add ep3 k1) (by omega) (by omega) (by omega) (by omega) (by omega) (by omega)
theorem tL_X9_layParts_326 {m : Nat} {G : Nat → Nat} {Λ : sLay} {Y : gY} (w387 : Y.2.2 387 = false) (w388 : Y.2.2 388 = false) {n309 : Nat} {k309 : sSt → Nat → Int32 → Int32 → Option sSt} (hk309 : ∀ (S : sSt) (hS : MI m G Λ Y S) (l : Nat) (lS : gFI S 388 m = nI l) (p1 : Int32) (qp1 : Nat) (ep1 : p1 = nI qp1) (bp1 : qp1 ≤ 15) (p2 : Int32) (qp2 : Nat) (ep2 : p2 = nI qp2) (bp2 : qp2 ≤ 160), (10 * qp1 ≤ qp2) → (qp2 ≤ 10 * qp1 + 10) → (l ≤ 137 + 6 * (qp2 - 10 * qp1)) → (161 ≤ qp2 + n309) → T (k309 S m p1 p2) (fun r : sSt => MI m G Λ Y r ∧ ∃ l1, l1 ≤ 678 ∧ gFI r 388 m = nI l1)) : ∀ (n : Nat) (S : sSt) (hS : MI m G Λ Y S) (l : Nat) (lS : gFI S 388 m = nI l) (p1 : Int32) (qp1 : Nat) (ep1 : p1 = nI qp1) (bp1 : qp1 ≤ 15) (p2 : Int32) (qp2 : Nat) (ep2 : p2 = nI qp2) (bp2 : qp2 ≤ 159) (p3 : Int32) (qp3 : Nat) (ep3 : p3 = nI qp3) (bp3 : qp3 ≤ 3) (_ : 10 * qp1 ≤ qp2) (_ : qp2 < 10 * qp1 + 10) (_ : l ≤ 137 + 6 * (qp2 - 10 * qp1) + 2 * qp3) (_ : 161 ≤ qp2 + n309 + 1) (_ : 4 ≤ qp3 + n), T (L_X9_layParts_326 Λ.2.2 k309 n S m p1 p2 p3) (fun r : sSt => MI m G Λ Y r ∧ ∃ l1, l1 ≤ 678 ∧ gFI r 388 m = nI l1) := by
  intro n
  induction n with
  | zero =>
    intro S hS l lS p1 qp1 ep1 bp1 p2 qp2 ep2 bp2 p3 qp3 ep3 bp3 f0 f1 f2 f3 hm
    exfalso
    omega
  | succ n ih =>
    intro S hS l lS p1 qp1 ep1 bp1 p2 qp2 ep2 bp2 p3 qp3 ep3 bp3 f0 f1 f2 f3 hm
    exact tY_X9_layParts_326 (w387 := w387) (w388 := w388) (n := n) (rec := L_X9_layParts_326 Λ.2.2 k309 n) (hrec := ih) (n309 := n309) (k309 := k309) (hk309 := hk309) (S := S) (hS := hS) (l := l) (lS := lS) (p1 := p1) (qp1 := qp1) (ep1 := ep1) (bp1 := bp1) (p2 := p2) (qp2 := qp2) (ep2 := ep2) (bp2 := bp2) (p3 := p3) (qp3 := qp3) (ep3 := ep3) (bp3 := bp3) (f0 := f0) (f1 := f1) (f2 := f2) (f3 := f3) (hm := hm)
set_option maxHeartbeats 1000000 in
theorem tY_X9_layParts_309 {m : Nat} {G : Nat → Nat} {Λ : sLay} {Y : gY} (w387 : Y.2.2 387 = false) (w388 : Y.2.2 388 = false) (w389 : Y.2.2 389 = false) {n : Nat} {rec : sSt → Nat → Int32 → Int32 → Option sSt} (hrec : ∀ (S : sSt) (hS : MI m G Λ Y S) (l : Nat) (lS : gFI S 388 m = nI l) (p1 : Int32) (qp1 : Nat) (ep1 : p1 = nI qp1) (bp1 : qp1 ≤ 15) (p2 : Int32) (qp2 : Nat) (ep2 : p2 = nI qp2) (bp2 : qp2 ≤ 160), (10 * qp1 ≤ qp2) → (qp2 ≤ 10 * qp1 + 10) → (l ≤ 137 + 6 * (qp2 - 10 * qp1)) → (161 ≤ qp2 + n) → T (rec S m p1 p2) (fun r : sSt => MI m G Λ Y r ∧ ∃ l1, l1 ≤ 678 ∧ gFI r 388 m = nI l1)) (S : sSt) (hS : MI m G Λ Y S) (l : Nat) (lS : gFI S 388 m = nI l) (p1 : Int32) (qp1 : Nat) (ep1 : p1 = nI qp1) (bp1 : qp1 ≤ 15) (p2 : Int32) (qp2 : Nat) (ep2 : p2 = nI qp2) (bp2 : qp2 ≤ 160) (f0 : 10 * qp1 ≤ qp2) (f1 : qp2 ≤ 10 * qp1 + 10) (f2 : l ≤ 137 + 6 * (qp2 - 10 * qp1)) (hm : 161 ≤ qp2 + (n + 1)) : T (Y_X9_layParts_309 Λ.2.2 rec S m p1 p2) (fun r : sSt => MI m G Λ Y r ∧ ∃ l1, l1 ≤ 678 ∧ gFI r 388 m = nI l1) := by
  unfold Y_X9_layParts_309
  have hFU := FU_big
  refine T_m ((hS).c.rf (f := 363) (by decide)) ?_
  refine T_bsome ?_
  refine T_gi (g_in ((hS).c.l (f := 363) (kd := 10) (n := 16) (by decide)) ep1 (by omega) (by omega)) ?_
  obtain ⟨j2, g2, e2⟩ := (hS).c.n (f := 363) (B := 10) (by decide) (Int32.toNatClampNeg p1)
  refine T_ite (fun c1 => ?_) (fun c1 => ?_)
  · skip
    have d1 := (e_le (e_add (e_mul k10 ep1) e2) ep2 (by omega) (by omega)).mp c1
    refine T_m ((hS).c.rf (f := 389) (by decide)) ?_
    refine T_bsome ?_
    refine T_gi (g_in ((hS).c.l (f := 389) (kd := 10) (n := 6) (by decide)) k3 (by omega) (by omega)) ?_
    refine T_st (fun S33 eS33 => ?_)
    have hS33 : MI m G Λ Y S33 := by rw [eS33]; exact (hS).wI (f := 389) (by decide) w389 (rg1 (B := 690) (by decide) ⟨l, by omega, lS⟩) (rg0 (P := fun B => oB B _) (by decide))
    have lS33 : gFI S33 388 m = nI l := by rw [eS33]; exact lS
    refine T_m ((hS33).c.rf (f := 373) (by decide)) ?_
    refine T_bsome ?_
    refine T_gi (g_in ((hS).c.l (f := 373) (kd := 12) (n := 16) (by decide)) ep1 (by omega) (by omega)) ?_
    refine T_ite (fun c3 => ?_) (fun c3 => ?_)
    · skip
      exact tB_X9_layParts_395 (w387 := w387) (w388 := w388) (w389 := w389) S33 hS33 l lS33 _ qp1 ep1 (by omega) _ (by omega)
    · skip
      exact tB_X9_layParts_395 (w387 := w387) (w388 := w388) (w389 := w389) S33 hS33 l lS33 _ qp1 ep1 (by omega) _ (by omega)
  · skip
    have d1 := mt (e_le (e_add (e_mul k10 ep1) e2) ep2 (by omega) (by omega)).mpr c1
    exact tL_X9_layParts_326 (w387 := w387) (w388 := w388) (n309 := n) (k309 := rec) (hk309 := hrec) FU S hS l lS _ qp1 ep1 (by omega) _ qp2 ep2 (by omega) _ 0 k0 (by omega) (by omega) (by omega) (by omega) (by omega) (by omega)
theorem tL_X9_layParts_309 {m : Nat} {G : Nat → Nat} {Λ : sLay} {Y : gY} (w387 : Y.2.2 387 = false) (w388 : Y.2.2 388 = false) (w389 : Y.2.2 389 = false) : ∀ (n : Nat) (S : sSt) (hS : MI m G Λ Y S) (l : Nat) (lS : gFI S 388 m = nI l) (p1 : Int32) (qp1 : Nat) (ep1 : p1 = nI qp1) (bp1 : qp1 ≤ 15) (p2 : Int32) (qp2 : Nat) (ep2 : p2 = nI qp2) (bp2 : qp2 ≤ 160) (_ : 10 * qp1 ≤ qp2) (_ : qp2 ≤ 10 * qp1 + 10) (_ : l ≤ 137 + 6 * (qp2 - 10 * qp1)) (_ : 161 ≤ qp2 + n), T (L_X9_layParts_309 Λ.2.2 n S m p1 p2) (fun r : sSt => MI m G Λ Y r ∧ ∃ l1, l1 ≤ 678 ∧ gFI r 388 m = nI l1) := by
  intro n
  induction n with
  | zero =>
    intro S hS l lS p1 qp1 ep1 bp1 p2 qp2 ep2 bp2 f0 f1 f2 hm
    exfalso
    omega
  | succ n ih =>
    intro S hS l lS p1 qp1 ep1 bp1 p2 qp2 ep2 bp2 f0 f1 f2 hm
    exact tY_X9_layParts_309 (w387 := w387) (w388 := w388) (w389 := w389) (n := n) (rec := L_X9_layParts_309 Λ.2.2 n) (hrec := ih) (S := S) (hS := hS) (l := l) (lS := lS) (p1 := p1) (qp1 := qp1) (ep1 := ep1) (bp1 := bp1) (p2 := p2) (qp2 := qp2) (ep2 := ep2) (bp2 := bp2) (f0 := f0) (f1 := f1) (f2 := f2) (hm := hm)
set_option maxHeartbeats 1000000 in
theorem tY_X9_layParts_220 {m : Nat} {G : Nat → Nat} {Λ : sLay} {Y : gY} (w387 : Y.2.2 387 = false) (w388 : Y.2.2 388 = false) (w389 : Y.2.2 389 = false) {n : Nat} {rec : sSt → Nat → Int32 → Int32 → Option sSt} (hrec : ∀ (S : sSt) (hS : MI m G Λ Y S) (l : Nat) (lS : gFI S 388 m = nI l) (p1 : Int32) (qp1 : Nat) (ep1 : p1 = nI qp1) (bp1 : qp1 ≤ 15) (p2 : Int32) (qp2 : Nat) (ep2 : p2 = nI qp2) (bp2 : qp2 ≤ 12), (l ≤ 89 + 4 * qp2) → (13 ≤ qp2 + n) → T (rec S m p1 p2) (fun r : sSt => MI m G Λ Y r ∧ ∃ l1, l1 ≤ 678 ∧ gFI r 388 m = nI l1)) (S : sSt) (hS : MI m G Λ Y S) (l : Nat) (lS : gFI S 388 m = nI l) (p1 : Int32) (qp1 : Nat) (ep1 : p1 = nI qp1) (bp1 : qp1 ≤ 15) (p2 : Int32) (qp2 : Nat) (ep2 : p2 = nI qp2) (bp2 : qp2 ≤ 12) (f0 : l ≤ 89 + 4 * qp2) (hm : 13 ≤ qp2 + (n + 1)) : T (Y_X9_layParts_220 Λ.2.2 rec S m p1 p2) (fun r : sSt => MI m G Λ Y r ∧ ∃ l1, l1 ≤ 678 ∧ gFI r 388 m = nI l1) := by
  unfold Y_X9_layParts_220
  have hFU := FU_big
  refine T_m ((hS).c.rf (f := 371) (by decide)) ?_
  refine T_bsome ?_
  refine T_gi (g_in ((hS).c.l (f := 371) (kd := 10) (n := 16) (by decide)) ep1 (by omega) (by omega)) ?_
  obtain ⟨j2, g2, e2⟩ := (hS).c.n (f := 371) (B := 12) (by decide) (Int32.toNatClampNeg p1)
  refine T_ite (fun c1 => ?_) (fun c1 => ?_)
  · skip
    have d1 := (e_le e2 ep2 (by omega) (by omega)).mp c1
    refine T_m ((hS).c.rf (f := 389) (by decide)) ?_
    refine T_bsome ?_
    refine T_gi (g_in ((hS).c.l (f := 389) (kd := 10) (n := 6) (by decide)) k2 (by omega) (by omega)) ?_
    refine T_st (fun S28 eS28 => ?_)
    have hS28 : MI m G Λ Y S28 := by rw [eS28]; exact (hS).wI (f := 389) (by decide) w389 (rg1 (B := 690) (by decide) ⟨l, by omega, lS⟩) (rg0 (P := fun B => oB B _) (by decide))
    have lS28 : gFI S28 388 m = nI l := by rw [eS28]; exact lS
    exact tL_X9_layParts_309 (w387 := w387) (w388 := w388) (w389 := w389) FU S28 hS28 l lS28 _ qp1 ep1 (by omega) _ (10 * qp1) (e_mul k10 ep1) (by omega) (by omega) (by omega) (by omega) (by omega)
  · skip
    have d1 := mt (e_le e2 ep2 (by omega) (by omega)).mpr c1
    refine T_m ((hS).c.rf (f := 372) (by decide)) ?_
    refine T_bsome ?_
    refine T_gi (g_in ((hS).c.l (f := 372) (kd := 10) (n := 192) (by decide)) (e_add (e_mul k12 ep1) ep2) (by omega) (by omega)) ?_
    refine T_bind (tF_X9_lay (w387 := w387) (w388 := w388) S hS l lS _ (by omega)) (fun S70 rS70 => ?_)
    obtain ⟨rS70, lS70⟩ := rS70
    have hS70 := rS70
    refine T_m ((hS70).c.rf (f := 372) (by decide)) ?_
    refine T_bsome ?_
    refine T_gi (g_in ((hS).c.l (f := 372) (kd := 10) (n := 192) (by decide)) (e_add (e_mul k12 ep1) ep2) (by omega) (by omega)) ?_
    refine T_bind (tF_X9_lay (w387 := w387) (w388 := w388) S70 hS70 (l + 1) lS70 _ (by omega)) (fun S74 rS74 => ?_)
    obtain ⟨rS74, lS74⟩ := rS74
    have hS74 := rS74
    refine T_m ((hS74).c.rf (f := 372) (by decide)) ?_
    refine T_bsome ?_
    refine T_gi (g_in ((hS).c.l (f := 372) (kd := 10) (n := 192) (by decide)) (e_add (e_mul k12 ep1) ep2) (by omega) (by omega)) ?_
    refine T_bind (tF_X9_find S74 hS74 _ qp1 ep1 (by omega) _) (fun v77 rv77 => ?_)
    refine T_bind (tF_X9_layFound (w387 := w387) (w388 := w388) S74 hS74 ((l + 1) + 1) lS74 _ rv77 (by omega)) (fun S80 rS80 => ?_)
    obtain ⟨rS80, lS80⟩ := rS80
    have hS80 := rS80
    exact hrec S80 hS80 (((l + 1) + 1) + 2) lS80 _ qp1 ep1 (by omega) _ (qp2 + 1) (e_add ep2 k1) (by omega) (by omega) (by omega)
theorem tL_X9_layParts_220 {m : Nat} {G : Nat → Nat} {Λ : sLay} {Y : gY} (w387 : Y.2.2 387 = false) (w388 : Y.2.2 388 = false) (w389 : Y.2.2 389 = false) : ∀ (n : Nat) (S : sSt) (hS : MI m G Λ Y S) (l : Nat) (lS : gFI S 388 m = nI l) (p1 : Int32) (qp1 : Nat) (ep1 : p1 = nI qp1) (bp1 : qp1 ≤ 15) (p2 : Int32) (qp2 : Nat) (ep2 : p2 = nI qp2) (bp2 : qp2 ≤ 12) (_ : l ≤ 89 + 4 * qp2) (_ : 13 ≤ qp2 + n), T (L_X9_layParts_220 Λ.2.2 n S m p1 p2) (fun r : sSt => MI m G Λ Y r ∧ ∃ l1, l1 ≤ 678 ∧ gFI r 388 m = nI l1) := by
  intro n
  induction n with
  | zero =>
    intro S hS l lS p1 qp1 ep1 bp1 p2 qp2 ep2 bp2 f0 hm
    exfalso
    omega
  | succ n ih =>
    intro S hS l lS p1 qp1 ep1 bp1 p2 qp2 ep2 bp2 f0 hm
    exact tY_X9_layParts_220 (w387 := w387) (w388 := w388) (w389 := w389) (n := n) (rec := L_X9_layParts_220 Λ.2.2 n) (hrec := ih) (S := S) (hS := hS) (l := l) (lS := lS) (p1 := p1) (qp1 := qp1) (ep1 := ep1) (bp1 := bp1) (p2 := p2) (qp2 := qp2) (ep2 := ep2) (bp2 := bp2) (f0 := f0) (hm := hm)
set_option maxHeartbeats 1000000 in
theorem tY_X9_layParts_165 {m : Nat} {G : Nat → Nat} {Λ : sLay} {Y : gY} (w387 : Y.2.2 387 = false) (w388 : Y.2.2 388 = false) (w389 : Y.2.2 389 = false) {n : Nat} {rec : sSt → Nat → Int32 → Int32 → Option sSt} (hrec : ∀ (S : sSt) (hS : MI m G Λ Y S) (l : Nat) (lS : gFI S 388 m = nI l) (p1 : Int32) (qp1 : Nat) (ep1 : p1 = nI qp1) (bp1 : qp1 ≤ 15) (p2 : Int32) (qp2 : Nat) (ep2 : p2 = nI qp2) (bp2 : qp2 ≤ 6), (l ≤ 82 + qp2) → (7 ≤ qp2 + n) → T (rec S m p1 p2) (fun r : sSt => MI m G Λ Y r ∧ ∃ l1, l1 ≤ 678 ∧ gFI r 388 m = nI l1)) (S : sSt) (hS : MI m G Λ Y S) (l : Nat) (lS : gFI S 388 m = nI l) (p1 : Int32) (qp1 : Nat) (ep1 : p1 = nI qp1) (bp1 : qp1 ≤ 15) (p2 : Int32) (qp2 : Nat) (ep2 : p2 = nI qp2) (bp2 : qp2 ≤ 6) (f0 : l ≤ 82 + qp2) (hm : 7 ≤ qp2 + (n + 1)) : T (Y_X9_layParts_165 Λ.2.2 rec S m p1 p2) (fun r : sSt => MI m G Λ Y r ∧ ∃ l1, l1 ≤ 678 ∧ gFI r 388 m = nI l1) := by
  unfold Y_X9_layParts_165
  have hFU := FU_big
  refine T_m ((hS).c.rf (f := 369) (by decide)) ?_
  refine T_bsome ?_
  refine T_gi (g_in ((hS).c.l (f := 369) (kd := 10) (n := 16) (by decide)) ep1 (by omega) (by omega)) ?_
  obtain ⟨j2, g2, e2⟩ := (hS).c.n (f := 369) (B := 6) (by decide) (Int32.toNatClampNeg p1)
  refine T_ite (fun c1 => ?_) (fun c1 => ?_)
  · skip
    have d1 := (e_le e2 ep2 (by omega) (by omega)).mp c1
    refine T_m ((hS).c.rf (f := 389) (by decide)) ?_
    refine T_bsome ?_
    refine T_gi (g_in ((hS).c.l (f := 389) (kd := 10) (n := 6) (by decide)) k1 (by omega) (by omega)) ?_
    refine T_st (fun S19 eS19 => ?_)
    have hS19 : MI m G Λ Y S19 := by rw [eS19]; exact (hS).wI (f := 389) (by decide) w389 (rg1 (B := 690) (by decide) ⟨l, by omega, lS⟩) (rg0 (P := fun B => oB B _) (by decide))
    have lS19 : gFI S19 388 m = nI l := by rw [eS19]; exact lS
    refine T_m ((hS19).c.rf (f := 371) (by decide)) ?_
    refine T_bsome ?_
    refine T_gi (g_in ((hS).c.l (f := 371) (kd := 10) (n := 16) (by decide)) ep1 (by omega) (by omega)) ?_
    refine T_bind (tF_X9_lay (w387 := w387) (w388 := w388) S19 hS19 l lS19 _ (by omega)) (fun S23 rS23 => ?_)
    obtain ⟨rS23, lS23⟩ := rS23
    have hS23 := rS23
    exact tL_X9_layParts_220 (w387 := w387) (w388 := w388) (w389 := w389) FU S23 hS23 (l + 1) lS23 _ qp1 ep1 (by omega) _ 0 k0 (by omega) (by omega) (by omega)
  · skip
    have d1 := mt (e_le e2 ep2 (by omega) (by omega)).mpr c1
    refine T_m ((hS).c.rf (f := 370) (by decide)) ?_
    refine T_bsome ?_
    refine T_gi (g_in ((hS).c.l (f := 370) (kd := 10) (n := 96) (by decide)) (e_add (e_mul k6 ep1) ep2) (by omega) (by omega)) ?_
    refine T_bind (tF_X9_lay (w387 := w387) (w388 := w388) S hS l lS _ (by omega)) (fun S84 rS84 => ?_)
    obtain ⟨rS84, lS84⟩ := rS84
    have hS84 := rS84
    exact hrec S84 hS84 (l + 1) lS84 _ qp1 ep1 (by omega) _ (qp2 + 1) (e_add ep2 k1) (by omega) (by omega) (by omega)
theorem tL_X9_layParts_165 {m : Nat} {G : Nat → Nat} {Λ : sLay} {Y : gY} (w387 : Y.2.2 387 = false) (w388 : Y.2.2 388 = false) (w389 : Y.2.2 389 = false) : ∀ (n : Nat) (S : sSt) (hS : MI m G Λ Y S) (l : Nat) (lS : gFI S 388 m = nI l) (p1 : Int32) (qp1 : Nat) (ep1 : p1 = nI qp1) (bp1 : qp1 ≤ 15) (p2 : Int32) (qp2 : Nat) (ep2 : p2 = nI qp2) (bp2 : qp2 ≤ 6) (_ : l ≤ 82 + qp2) (_ : 7 ≤ qp2 + n), T (L_X9_layParts_165 Λ.2.2 n S m p1 p2) (fun r : sSt => MI m G Λ Y r ∧ ∃ l1, l1 ≤ 678 ∧ gFI r 388 m = nI l1) := by
  intro n
  induction n with
  | zero =>
    intro S hS l lS p1 qp1 ep1 bp1 p2 qp2 ep2 bp2 f0 hm
    exfalso
    omega
  | succ n ih =>
    intro S hS l lS p1 qp1 ep1 bp1 p2 qp2 ep2 bp2 f0 hm
    exact tY_X9_layParts_165 (w387 := w387) (w388 := w388) (w389 := w389) (n := n) (rec := L_X9_layParts_165 Λ.2.2 n) (hrec := ih) (S := S) (hS := hS) (l := l) (lS := lS) (p1 := p1) (qp1 := qp1) (ep1 := ep1) (bp1 := bp1) (p2 := p2) (qp2 := qp2) (ep2 := ep2) (bp2 := bp2) (f0 := f0) (hm := hm)
set_option maxHeartbeats 1000000 in
theorem tY_X9_layParts_105 {m : Nat} {G : Nat → Nat} {Λ : sLay} {Y : gY} (w387 : Y.2.2 387 = false) (w388 : Y.2.2 388 = false) {n21 : Nat} {k21 : sSt → Nat → Int32 → Int32 → Option sSt} (hk21 : ∀ (S : sSt) (hS : MI m G Λ Y S) (l : Nat) (lS : gFI S 388 m = nI l) (p1 : Int32) (qp1 : Nat) (ep1 : p1 = nI qp1) (bp1 : qp1 ≤ 15) (p2 : Int32) (qp2 : Nat) (ep2 : p2 = nI qp2) (bp2 : qp2 ≤ 160), (10 * qp1 ≤ qp2) → (qp2 ≤ 10 * qp1 + 10) → (l ≤ 1 + 8 * (qp2 - 10 * qp1)) → (161 ≤ qp2 + n21) → T (k21 S m p1 p2) (fun r : sSt => MI m G Λ Y r ∧ ∃ l1, l1 ≤ 678 ∧ gFI r 388 m = nI l1)) {n : Nat} {rec : sSt → Nat → Int32 → Int32 → Int32 → Option sSt} (hrec : ∀ (S : sSt) (hS : MI m G Λ Y S) (l : Nat) (lS : gFI S 388 m = nI l) (p1 : Int32) (qp1 : Nat) (ep1 : p1 = nI qp1) (bp1 : qp1 ≤ 15) (p2 : Int32) (qp2 : Nat) (ep2 : p2 = nI qp2) (bp2 : qp2 ≤ 159) (p3 : Int32) (qp3 : Nat) (ep3 : p3 = nI qp3) (bp3 : qp3 ≤ 3), (10 * qp1 ≤ qp2) → (qp2 < 10 * qp1 + 10) → (l ≤ 6 + 8 * (qp2 - 10 * qp1) + qp3) → (161 ≤ qp2 + n21 + 1) → (4 ≤ qp3 + n) → T (rec S m p1 p2 p3) (fun r : sSt => MI m G Λ Y r ∧ ∃ l1, l1 ≤ 678 ∧ gFI r 388 m = nI l1)) (S : sSt) (hS : MI m G Λ Y S) (l : Nat) (lS : gFI S 388 m = nI l) (p1 : Int32) (qp1 : Nat) (ep1 : p1 = nI qp1) (bp1 : qp1 ≤ 15) (p2 : Int32) (qp2 : Nat) (ep2 : p2 = nI qp2) (bp2 : qp2 ≤ 159) (p3 : Int32) (qp3 : Nat) (ep3 : p3 = nI qp3) (bp3 : qp3 ≤ 3) (f0 : 10 * qp1 ≤ qp2) (f1 : qp2 < 10 * qp1 + 10) (f2 : l ≤ 6 + 8 * (qp2 - 10 * qp1) + qp3) (f3 : 161 ≤ qp2 + n21 + 1) (hm : 4 ≤ qp3 + (n + 1)) : T (Y_X9_layParts_105 Λ.2.2 k21 rec S m p1 p2 p3) (fun r : sSt => MI m G Λ Y r ∧ ∃ l1, l1 ≤ 678 ∧ gFI r 388 m = nI l1) := by
  unfold Y_X9_layParts_105
  refine T_m ((hS).c.rf (f := 367) (by decide)) ?_
  refine T_bsome ?_
  refine T_gi (g_in ((hS).c.l (f := 367) (kd := 10) (n := 160) (by decide)) ep2 (by omega) (by omega)) ?_
  obtain ⟨j2, g2, e2⟩ := (hS).c.n (f := 367) (B := 3) (by decide) (Int32.toNatClampNeg p2)
  refine T_ite (fun c1 => ?_) (fun c1 => ?_)
  · skip
    have d1 := (e_le e2 ep3 (by omega) (by omega)).mp c1
    exact hk21 S hS l lS _ qp1 ep1 (by omega) _ (qp2 + 1) (e_add ep2 k1) (by omega) (by omega) (by omega) (by omega) (by omega)
  · skip
    have d1 := mt (e_le e2 ep3 (by omega) (by omega)).mpr c1
    refine T_m ((hS).c.rf (f := 368) (by decide)) ?_
    refine T_bsome ?_
    refine T_gi (g_in ((hS).c.l (f := 368) (kd := 10) (n := 480) (by decide)) (e_add (e_mul k3 ep2) ep3) (by omega) (by omega)) ?_
    refine T_bind (tF_X9_lay (w387 := w387) (w388 := w388) S hS l lS _ (by omega)) (fun S110 rS110 => ?_)
    obtain ⟨rS110, lS110⟩ := rS110
    have hS110 := rS110
    exact hrec S110 hS110 (l + 1) lS110 _ qp1 ep1 (by omega) _ qp2 ep2 (by omega) _ (qp3 + 1) (e_add ep3 k1) (by omega) (by omega) (by omega) (by omega) (by omega) (by omega)
theorem tL_X9_layParts_105 {m : Nat} {G : Nat → Nat} {Λ : sLay} {Y : gY} (w387 : Y.2.2 387 = false) (w388 : Y.2.2 388 = false) {n21 : Nat} {k21 : sSt → Nat → Int32 → Int32 → Option sSt} (hk21 : ∀ (S : sSt) (hS : MI m G Λ Y S) (l : Nat) (lS : gFI S 388 m = nI l) (p1 : Int32) (qp1 : Nat) (ep1 : p1 = nI qp1) (bp1 : qp1 ≤ 15) (p2 : Int32) (qp2 : Nat) (ep2 : p2 = nI qp2) (bp2 : qp2 ≤ 160), (10 * qp1 ≤ qp2) → (qp2 ≤ 10 * qp1 + 10) → (l ≤ 1 + 8 * (qp2 - 10 * qp1)) → (161 ≤ qp2 + n21) → T (k21 S m p1 p2) (fun r : sSt => MI m G Λ Y r ∧ ∃ l1, l1 ≤ 678 ∧ gFI r 388 m = nI l1)) : ∀ (n : Nat) (S : sSt) (hS : MI m G Λ Y S) (l : Nat) (lS : gFI S 388 m = nI l) (p1 : Int32) (qp1 : Nat) (ep1 : p1 = nI qp1) (bp1 : qp1 ≤ 15) (p2 : Int32) (qp2 : Nat) (ep2 : p2 = nI qp2) (bp2 : qp2 ≤ 159) (p3 : Int32) (qp3 : Nat) (ep3 : p3 = nI qp3) (bp3 : qp3 ≤ 3) (_ : 10 * qp1 ≤ qp2) (_ : qp2 < 10 * qp1 + 10) (_ : l ≤ 6 + 8 * (qp2 - 10 * qp1) + qp3) (_ : 161 ≤ qp2 + n21 + 1) (_ : 4 ≤ qp3 + n), T (L_X9_layParts_105 Λ.2.2 k21 n S m p1 p2 p3) (fun r : sSt => MI m G Λ Y r ∧ ∃ l1, l1 ≤ 678 ∧ gFI r 388 m = nI l1) := by
  intro n
  induction n with
  | zero =>
    intro S hS l lS p1 qp1 ep1 bp1 p2 qp2 ep2 bp2 p3 qp3 ep3 bp3 f0 f1 f2 f3 hm
    exfalso
    omega
  | succ n ih =>
    intro S hS l lS p1 qp1 ep1 bp1 p2 qp2 ep2 bp2 p3 qp3 ep3 bp3 f0 f1 f2 f3 hm
    exact tY_X9_layParts_105 (w387 := w387) (w388 := w388) (n := n) (rec := L_X9_layParts_105 Λ.2.2 k21 n) (hrec := ih) (n21 := n21) (k21 := k21) (hk21 := hk21) (S := S) (hS := hS) (l := l) (lS := lS) (p1 := p1) (qp1 := qp1) (ep1 := ep1) (bp1 := bp1) (p2 := p2) (qp2 := qp2) (ep2 := ep2) (bp2 := bp2) (p3 := p3) (qp3 := qp3) (ep3 := ep3) (bp3 := bp3) (f0 := f0) (f1 := f1) (f2 := f2) (f3 := f3) (hm := hm)
set_option maxHeartbeats 1000000 in
theorem tB_X9_layParts_89 {m : Nat} {G : Nat → Nat} {Λ : sLay} {Y : gY} (w387 : Y.2.2 387 = false) (w388 : Y.2.2 388 = false) {n21 : Nat} {k21 : sSt → Nat → Int32 → Int32 → Option sSt} (hk21 : ∀ (S : sSt) (hS : MI m G Λ Y S) (l : Nat) (lS : gFI S 388 m = nI l) (p1 : Int32) (qp1 : Nat) (ep1 : p1 = nI qp1) (bp1 : qp1 ≤ 15) (p2 : Int32) (qp2 : Nat) (ep2 : p2 = nI qp2) (bp2 : qp2 ≤ 160), (10 * qp1 ≤ qp2) → (qp2 ≤ 10 * qp1 + 10) → (l ≤ 1 + 8 * (qp2 - 10 * qp1)) → (161 ≤ qp2 + n21) → T (k21 S m p1 p2) (fun r : sSt => MI m G Λ Y r ∧ ∃ l1, l1 ≤ 678 ∧ gFI r 388 m = nI l1)) (S : sSt) (hS : MI m G Λ Y S) (l : Nat) (lS : gFI S 388 m = nI l) (p1 : Int32) (qp1 : Nat) (ep1 : p1 = nI qp1) (bp1 : qp1 ≤ 15) (p2 : Int32) (qp2 : Nat) (ep2 : p2 = nI qp2) (bp2 : qp2 ≤ 159) (s0 : Int64) (f0 : 10 * qp1 ≤ qp2) (f1 : qp2 < 10 * qp1 + 10) (f2 : l ≤ 4 + 8 * (qp2 - 10 * qp1)) (f3 : 161 ≤ qp2 + n21 + 1) : T (B_X9_layParts_89 Λ.2.2 k21 S m p1 p2 s0 m) (fun r : sSt => MI m G Λ Y r ∧ ∃ l1, l1 ≤ 678 ∧ gFI r 388 m = nI l1) := by
  unfold B_X9_layParts_89
  have hFU := FU_big
  refine T_bind (tF_X9_lay (w387 := w387) (w388 := w388) S hS l lS _ (by omega)) (fun S100 rS100 => ?_)
  obtain ⟨rS100, lS100⟩ := rS100
  have hS100 := rS100
  refine T_m ((hS100).c.rf (f := 367) (by decide)) ?_
  refine T_bsome ?_
  refine T_gi (g_in ((hS).c.l (f := 367) (kd := 10) (n := 160) (by decide)) ep2 (by omega) (by omega)) ?_
  refine T_bind (tF_X9_lay (w387 := w387) (w388 := w388) S100 hS100 (l + 1) lS100 _ (by omega)) (fun S104 rS104 => ?_)
  obtain ⟨rS104, lS104⟩ := rS104
  have hS104 := rS104
  exact tL_X9_layParts_105 (w387 := w387) (w388 := w388) (n21 := n21) (k21 := k21) (hk21 := hk21) FU S104 hS104 ((l + 1) + 1) lS104 _ qp1 ep1 (by omega) _ qp2 ep2 (by omega) _ 0 k0 (by omega) (by omega) (by omega) (by omega) (by omega) (by omega)
set_option maxHeartbeats 1000000 in
theorem tY_X9_layParts_21 {m : Nat} {G : Nat → Nat} {Λ : sLay} {Y : gY} (w387 : Y.2.2 387 = false) (w388 : Y.2.2 388 = false) (w389 : Y.2.2 389 = false) {n : Nat} {rec : sSt → Nat → Int32 → Int32 → Option sSt} (hrec : ∀ (S : sSt) (hS : MI m G Λ Y S) (l : Nat) (lS : gFI S 388 m = nI l) (p1 : Int32) (qp1 : Nat) (ep1 : p1 = nI qp1) (bp1 : qp1 ≤ 15) (p2 : Int32) (qp2 : Nat) (ep2 : p2 = nI qp2) (bp2 : qp2 ≤ 160), (10 * qp1 ≤ qp2) → (qp2 ≤ 10 * qp1 + 10) → (l ≤ 1 + 8 * (qp2 - 10 * qp1)) → (161 ≤ qp2 + n) → T (rec S m p1 p2) (fun r : sSt => MI m G Λ Y r ∧ ∃ l1, l1 ≤ 678 ∧ gFI r 388 m = nI l1)) (S : sSt) (hS : MI m G Λ Y S) (l : Nat) (lS : gFI S 388 m = nI l) (p1 : Int32) (qp1 : Nat) (ep1 : p1 = nI qp1) (bp1 : qp1 ≤ 15) (p2 : Int32) (qp2 : Nat) (ep2 : p2 = nI qp2) (bp2 : qp2 ≤ 160) (f0 : 10 * qp1 ≤ qp2) (f1 : qp2 ≤ 10 * qp1 + 10) (f2 : l ≤ 1 + 8 * (qp2 - 10 * qp1)) (hm : 161 ≤ qp2 + (n + 1)) : T (Y_X9_layParts_21 Λ.2.2 rec S m p1 p2) (fun r : sSt => MI m G Λ Y r ∧ ∃ l1, l1 ≤ 678 ∧ gFI r 388 m = nI l1) := by
  unfold Y_X9_layParts_21
  have hFU := FU_big
  refine T_m ((hS).c.rf (f := 363) (by decide)) ?_
  refine T_bsome ?_
  refine T_gi (g_in ((hS).c.l (f := 363) (kd := 10) (n := 16) (by decide)) ep1 (by omega) (by omega)) ?_
  obtain ⟨j2, g2, e2⟩ := (hS).c.n (f := 363) (B := 10) (by decide) (Int32.toNatClampNeg p1)
  refine T_ite (fun c1 => ?_) (fun c1 => ?_)
  · skip
    have d1 := (e_le (e_add (e_mul k10 ep1) e2) ep2 (by omega) (by omega)).mp c1
    refine T_m ((hS).c.rf (f := 389) (by decide)) ?_
    refine T_bsome ?_
    refine T_gi (g_in ((hS).c.l (f := 389) (kd := 10) (n := 6) (by decide)) k0 (by omega) (by omega)) ?_
    refine T_st (fun S10 eS10 => ?_)
    have hS10 : MI m G Λ Y S10 := by rw [eS10]; exact (hS).wI (f := 389) (by decide) w389 (rg1 (B := 690) (by decide) ⟨l, by omega, lS⟩) (rg0 (P := fun B => oB B _) (by decide))
    have lS10 : gFI S10 388 m = nI l := by rw [eS10]; exact lS
    refine T_m ((hS10).c.rf (f := 369) (by decide)) ?_
    refine T_bsome ?_
    refine T_gi (g_in ((hS).c.l (f := 369) (kd := 10) (n := 16) (by decide)) ep1 (by omega) (by omega)) ?_
    refine T_bind (tF_X9_lay (w387 := w387) (w388 := w388) S10 hS10 l lS10 _ (by omega)) (fun S14 rS14 => ?_)
    obtain ⟨rS14, lS14⟩ := rS14
    have hS14 := rS14
    exact tL_X9_layParts_165 (w387 := w387) (w388 := w388) (w389 := w389) FU S14 hS14 (l + 1) lS14 _ qp1 ep1 (by omega) _ 0 k0 (by omega) (by omega) (by omega)
  · skip
    have d1 := mt (e_le (e_add (e_mul k10 ep1) e2) ep2 (by omega) (by omega)).mpr c1
    refine T_m ((hS).c.rf (f := 364) (by decide)) ?_
    refine T_bsome ?_
    refine T_gi (g_in ((hS).c.l (f := 364) (kd := 10) (n := 160) (by decide)) ep2 (by omega) (by omega)) ?_
    refine T_bind (tF_X9_lay (w387 := w387) (w388 := w388) S hS l lS _ (by omega)) (fun S88 rS88 => ?_)
    obtain ⟨rS88, lS88⟩ := rS88
    have hS88 := rS88
    refine T_m ((hS88).c.rf (f := 364) (by decide)) ?_
    refine T_bsome ?_
    refine T_gi (g_in ((hS).c.l (f := 364) (kd := 10) (n := 160) (by decide)) ep2 (by omega) (by omega)) ?_
    refine T_bind (tF_X9_lay (w387 := w387) (w388 := w388) S88 hS88 (l + 1) lS88 _ (by omega)) (fun S92 rS92 => ?_)
    obtain ⟨rS92, lS92⟩ := rS92
    have hS92 := rS92
    refine T_m ((hS92).c.rf (f := 365) (by decide)) ?_
    refine T_bsome ?_
    refine T_gi (g_in ((hS).c.l (f := 365) (kd := 11) (n := 160) (by decide)) ep2 (by omega) (by omega)) ?_
    refine T_bind (tF_X9_lay (w387 := w387) (w388 := w388) S92 hS92 ((l + 1) + 1) lS92 _ (by omega)) (fun S96 rS96 => ?_)
    obtain ⟨rS96, lS96⟩ := rS96
    have hS96 := rS96
    refine T_m ((hS96).c.rf (f := 366) (by decide)) ?_
    refine T_bsome ?_
    refine T_gi (g_in ((hS).c.l (f := 366) (kd := 12) (n := 160) (by decide)) ep2 (by omega) (by omega)) ?_
    refine T_ite (fun c3 => ?_) (fun c3 => ?_)
    · skip
      exact tB_X9_layParts_89 (w387 := w387) (w388 := w388) (n21 := n) (k21 := rec) (hk21 := hrec) S96 hS96 (((l + 1) + 1) + 1) lS96 _ qp1 ep1 (by omega) _ qp2 ep2 (by omega) _ (by omega) (by omega) (by omega) (by omega)
    · skip
      exact tB_X9_layParts_89 (w387 := w387) (w388 := w388) (n21 := n) (k21 := rec) (hk21 := hrec) S96 hS96 (((l + 1) + 1) + 1) lS96 _ qp1 ep1 (by omega) _ qp2 ep2 (by omega) _ (by omega) (by omega) (by omega) (by omega)
theorem tL_X9_layParts_21 {m : Nat} {G : Nat → Nat} {Λ : sLay} {Y : gY} (w387 : Y.2.2 387 = false) (w388 : Y.2.2 388 = false) (w389 : Y.2.2 389 = false) : ∀ (n : Nat) (S : sSt) (hS : MI m G Λ Y S) (l : Nat) (lS : gFI S 388 m = nI l) (p1 : Int32) (qp1 : Nat) (ep1 : p1 = nI qp1) (bp1 : qp1 ≤ 15) (p2 : Int32) (qp2 : Nat) (ep2 : p2 = nI qp2) (bp2 : qp2 ≤ 160) (_ : 10 * qp1 ≤ qp2) (_ : qp2 ≤ 10 * qp1 + 10) (_ : l ≤ 1 + 8 * (qp2 - 10 * qp1)) (_ : 161 ≤ qp2 + n), T (L_X9_layParts_21 Λ.2.2 n S m p1 p2) (fun r : sSt => MI m G Λ Y r ∧ ∃ l1, l1 ≤ 678 ∧ gFI r 388 m = nI l1) := by
  intro n
  induction n with
  | zero =>
    intro S hS l lS p1 qp1 ep1 bp1 p2 qp2 ep2 bp2 f0 f1 f2 hm
    exfalso
    omega
  | succ n ih =>
    intro S hS l lS p1 qp1 ep1 bp1 p2 qp2 ep2 bp2 f0 f1 f2 hm
    exact tY_X9_layParts_21 (w387 := w387) (w388 := w388) (w389 := w389) (n := n) (rec := L_X9_layParts_21 Λ.2.2 n) (hrec := ih) (S := S) (hS := hS) (l := l) (lS := lS) (p1 := p1) (qp1 := qp1) (ep1 := ep1) (bp1 := bp1) (p2 := p2) (qp2 := qp2) (ep2 := ep2) (bp2 := bp2) (f0 := f0) (f1 := f1) (f2 := f2) (hm := hm)
set_option maxHeartbeats 1000000 in
theorem tF_X9_layParts {m : Nat} {G : Nat → Nat} {Λ : sLay} {Y : gY} (w387 : Y.2.2 387 = false) (w388 : Y.2.2 388 = false) (w389 : Y.2.2 389 = false) (S : sSt) (hS : MI m G Λ Y S) (p1 : Int32) (qp1 : Nat) (ep1 : p1 = nI qp1) (bp1 : qp1 ≤ 15) : T (F_X9_layParts Λ.2.2 S m p1) (fun r : sSt => MI m G Λ Y r ∧ ∃ l1, l1 ≤ 678 ∧ gFI r 388 m = nI l1) := by
  unfold F_X9_layParts
  have hFU := FU_big
  refine T_st (fun S1 eS1 => ?_)
  have hS1 : MI m G Λ Y S1 := by rw [eS1]; exact (hS).wF (f := 388) w388 (rg1 (B := 700) (by decide) ⟨0, by omega, k0⟩)
  have lS1 : gFI S1 388 m = nI 0 := by rw [eS1, gFI_sFI, if_pos ⟨rfl, rfl⟩]; exact k0
  refine T_m ((hS1).c.rf (f := 363) (by decide)) ?_
  refine T_bsome ?_
  refine T_gi (g_in ((hS).c.l (f := 363) (kd := 10) (n := 16) (by decide)) ep1 (by omega) (by omega)) ?_
  refine T_bind (tF_X9_lay (w387 := w387) (w388 := w388) S1 hS1 0 lS1 _ (by omega)) (fun S5 rS5 => ?_)
  obtain ⟨rS5, lS5⟩ := rS5
  have hS5 := rS5
  exact tL_X9_layParts_21 (w387 := w387) (w388 := w388) (w389 := w389) FU S5 hS5 (0 + 1) lS5 _ qp1 ep1 (by omega) _ (10 * qp1) (e_mul k10 ep1) (by omega) (by omega) (by omega) (by omega) (by omega)
set_option maxHeartbeats 1000000 in
theorem tF_X9_mixed {m : Nat} {G : Nat → Nat} {Λ : sLay} {Y : gY} (S : sSt) (hS : MI m G Λ Y S) (p0 : Int64) (p2 : Int64) : T (F_X9_mixed Λ.2.2 S p0 p2) (fun r : Int64 => True) := by
  unfold F_X9_mixed
  exact T_some True.intro
set_option maxHeartbeats 1000000 in
theorem tY_X9_lineDigest_6 {m : Nat} {G : Nat → Nat} {Λ : sLay} {Y : gY} (S : sSt) (hS : MI m G Λ Y S) {n : Nat} {rec : Nat → Int64 → Int32 → Option Int64} (hrec : ∀ (p1 : Int64) (p3 : Int32) (qp3 : Nat) (ep3 : p3 = nI qp3) (bp3 : qp3 ≤ 700), (701 ≤ qp3 + n) → T (rec m p1 p3) (fun r : Int64 => True)) (p1 : Int64) (p3 : Int32) (qp3 : Nat) (ep3 : p3 = nI qp3) (bp3 : qp3 ≤ 700) (hm : 701 ≤ qp3 + (n + 1)) : T (Y_X9_lineDigest_6 Λ.2.2 S rec m p1 p3) (fun r : Int64 => True) := by
  unfold Y_X9_lineDigest_6
  obtain ⟨j2, g2, e2⟩ := (hS).c.f (f := 388) (B := 700) (by decide)
  refine T_ite (fun c1 => ?_) (fun c1 => ?_)
  · skip
    have d1 := (e_le e2 ep3 (by omega) (by omega)).mp c1
    exact T_some True.intro
  · skip
    have d1 := mt (e_le e2 ep3 (by omega) (by omega)).mpr c1
    refine T_m ((hS).c.rf (f := 387) (by decide)) ?_
    refine T_bsome ?_
    refine T_gi (g_in ((hS).c.l (f := 387) (kd := 11) (n := 700) (by decide)) ep3 (by omega) (by omega)) ?_
    refine T_bind (tF_X9_mixed S hS _ _) (fun v3 rv3 => ?_)
    exact hrec _ _ (qp3 + 1) (e_add ep3 k1) (by omega) (by omega)
theorem tL_X9_lineDigest_6 {m : Nat} {G : Nat → Nat} {Λ : sLay} {Y : gY} (S : sSt) (hS : MI m G Λ Y S) : ∀ (n : Nat) (p1 : Int64) (p3 : Int32) (qp3 : Nat) (ep3 : p3 = nI qp3) (bp3 : qp3 ≤ 700) (_ : 701 ≤ qp3 + n), T (L_X9_lineDigest_6 Λ.2.2 S n m p1 p3) (fun r : Int64 => True) := by
  intro n
  induction n with
  | zero =>
    intro p1 p3 qp3 ep3 bp3 hm
    exfalso
    omega
  | succ n ih =>
    intro p1 p3 qp3 ep3 bp3 hm
    exact tY_X9_lineDigest_6 S hS (n := n) (rec := L_X9_lineDigest_6 Λ.2.2 S n) (hrec := ih) (p1 := p1) (p3 := p3) (qp3 := qp3) (ep3 := ep3) (bp3 := bp3) (hm := hm)
set_option maxHeartbeats 1000000 in
theorem tF_X9_lineDigest {m : Nat} {G : Nat → Nat} {Λ : sLay} {Y : gY} (S : sSt) (hS : MI m G Λ Y S) : T (F_X9_lineDigest Λ.2.2 S m) (fun r : Int64 => True) := by
  unfold F_X9_lineDigest
  have hFU := FU_big
  exact tL_X9_lineDigest_6 S hS FU _ _ 0 k0 (by omega) (by omega)
set_option maxHeartbeats 1000000 in
theorem tB_X9_layRow_74 {m : Nat} {G : Nat → Nat} {Λ : sLay} {Y : gY} (w389 : Y.2.2 389 = false) (S : sSt) (hS : MI m G Λ Y S) (l : Nat) (lS : gFI S 388 m = nI l) (f0 : l ≤ 690) : T (B_X9_layRow_74 Λ.2.2 S m) (fun r : sSt => MI m G Λ Y r ∧ ∃ l1, l1 ≤ 690 ∧ gFI r 388 m = nI l1) := by
  unfold B_X9_layRow_74
  refine T_m ((hS).c.rf (f := 389) (by decide)) ?_
  refine T_bsome ?_
  refine T_gi (g_in ((hS).c.l (f := 389) (kd := 10) (n := 6) (by decide)) k5 (by omega) (by omega)) ?_
  refine T_st (fun S13 eS13 => ?_)
  have hS13 : MI m G Λ Y S13 := by rw [eS13]; exact (hS).wI (f := 389) (by decide) w389 (rg1 (B := 690) (by decide) ⟨l, by omega, lS⟩) (rg0 (P := fun B => oB B _) (by decide))
  have lS13 : gFI S13 388 m = nI l := by rw [eS13]; exact lS
  exact T_some ⟨hS13, l, by omega, lS13⟩
set_option maxHeartbeats 1000000 in
theorem tB_X9_layRow_55 {m : Nat} {G : Nat → Nat} {Λ : sLay} {Y : gY} (w387 : Y.2.2 387 = false) (w388 : Y.2.2 388 = false) (w389 : Y.2.2 389 = false) (S : sSt) (hS : MI m G Λ Y S) (l : Nat) (lS : gFI S 388 m = nI l) (p1 : Int32) (qp1 : Nat) (ep1 : p1 = nI qp1) (bp1 : qp1 ≤ 15) (p2 : Int64) (s0 : Int64) (f0 : l ≤ 678) : T (B_X9_layRow_55 Λ.2.2 S m p1 p2 s0 m) (fun r : sSt => MI m G Λ Y r ∧ ∃ l1, l1 ≤ 690 ∧ gFI r 388 m = nI l1) := by
  unfold B_X9_layRow_55
  refine T_bind (tF_X9_lay (w387 := w387) (w388 := w388) S hS l lS _ (by omega)) (fun S8 rS8 => ?_)
  obtain ⟨rS8, lS8⟩ := rS8
  have hS8 := rS8
  refine T_m ((hS8).c.rf (f := 374) (by decide)) ?_
  refine T_bsome ?_
  refine T_gi (g_in ((hS).c.l (f := 374) (kd := 10) (n := 16) (by decide)) ep1 (by omega) (by omega)) ?_
  refine T_ite (fun c1 => ?_) (fun c1 => ?_)
  · skip
    exact tB_X9_layRow_74 (w389 := w389) S8 hS8 (l + 1) lS8  (by omega)
  · skip
    obtain ⟨j1, g1, e1⟩ := oB.ne ((hS8).c.o (f := 374) (B := 15) (by decide) _) c1
    refine T_bind (tF_X9_lay (w387 := w387) (w388 := w388) S8 hS8 (l + 1) lS8 _ (by omega)) (fun S15 rS15 => ?_)
    obtain ⟨rS15, lS15⟩ := rS15
    have hS15 := rS15
    exact tB_X9_layRow_74 (w389 := w389) S15 hS15 ((l + 1) + 1) lS15  (by omega)
set_option maxHeartbeats 1000000 in
theorem tB_X9_layRow_33 {m : Nat} {G : Nat → Nat} {Λ : sLay} {Y : gY} (w387 : Y.2.2 387 = false) (w388 : Y.2.2 388 = false) (w389 : Y.2.2 389 = false) (S : sSt) (hS : MI m G Λ Y S) (p1 : Int32) (qp1 : Nat) (ep1 : p1 = nI qp1) (bp1 : qp1 ≤ 15) (p2 : Int64) : T (B_X9_layRow_33 Λ.2.2 S m p1 p2) (fun r : sSt => MI m G Λ Y r ∧ ∃ l1, l1 ≤ 690 ∧ gFI r 388 m = nI l1) := by
  unfold B_X9_layRow_33
  refine T_bind (tF_X9_layParts (w387 := w387) (w388 := w388) (w389 := w389) S hS _ qp1 ep1 (by omega)) (fun S4 rS4 => ?_)
  obtain ⟨rS4, kS4, uS4, lS4⟩ := rS4
  have hS4 := rS4
  refine T_m ((hS4).c.rf (f := 374) (by decide)) ?_
  refine T_bsome ?_
  refine T_gi (g_in ((hS).c.l (f := 374) (kd := 10) (n := 16) (by decide)) ep1 (by omega) (by omega)) ?_
  refine T_ite (fun c1 => ?_) (fun c1 => ?_)
  · skip
    exact tB_X9_layRow_55 (w387 := w387) (w388 := w388) (w389 := w389) S4 hS4 kS4 lS4 _ qp1 ep1 (by omega) _ _ (by omega)
  · skip
    obtain ⟨j1, g1, e1⟩ := oB.ne ((hS4).c.o (f := 374) (B := 15) (by decide) _) c1
    exact tB_X9_layRow_55 (w387 := w387) (w388 := w388) (w389 := w389) S4 hS4 kS4 lS4 _ qp1 ep1 (by omega) _ _ (by omega)
set_option maxHeartbeats 1000000 in
theorem tF_X9_layRow {m : Nat} {G : Nat → Nat} {Λ : sLay} {Y : gY} (w387 : Y.2.2 387 = false) (w388 : Y.2.2 388 = false) (w389 : Y.2.2 389 = false) (S : sSt) (hS : MI m G Λ Y S) (p1 : Int32) (qp1 : Nat) (ep1 : p1 = nI qp1) (bp1 : qp1 ≤ 15) : T (F_X9_layRow Λ.2.2 S m p1) (fun r : sSt => MI m G Λ Y r ∧ ∃ l1, l1 ≤ 690 ∧ gFI r 388 m = nI l1) := by
  unfold F_X9_layRow
  refine T_m ((hS).c.rf (f := 374) (by decide)) ?_
  refine T_bsome ?_
  refine T_gi (g_in ((hS).c.l (f := 374) (kd := 10) (n := 16) (by decide)) ep1 (by omega) (by omega)) ?_
  refine T_ite (fun c1 => ?_) (fun c1 => ?_)
  · skip
    exact tB_X9_layRow_33 (w387 := w387) (w388 := w388) (w389 := w389) S hS _ qp1 ep1 (by omega) _
  · skip
    obtain ⟨j1, g1, e1⟩ := oB.ne ((hS).c.o (f := 374) (B := 15) (by decide) _) c1
    refine T_m ((hS).c.rf (f := 374) (by decide)) ?_
    refine T_bsome ?_
    refine T_gi (g_in ((hS).c.l (f := 374) (kd := 10) (n := 16) (by decide)) ep1 (by omega) (by omega)) ?_
    refine T_bind (tF_X9_layParts (w387 := w387) (w388 := w388) (w389 := w389) S hS _ j1 e1 (by omega)) (fun S19 rS19 => ?_)
    obtain ⟨rS19, kS19, uS19, lS19⟩ := rS19
    have hS19 := rS19
    refine T_bind (tF_X9_lay (w387 := w387) (w388 := w388) S19 hS19 kS19 lS19 _ (by omega)) (fun S21 rS21 => ?_)
    obtain ⟨rS21, lS21⟩ := rS21
    have hS21 := rS21
    refine T_bind (tF_X9_lineDigest S21 hS21 ) (fun v22 rv22 => ?_)
    exact tB_X9_layRow_33 (w387 := w387) (w388 := w388) (w389 := w389) S21 hS21 _ qp1 ep1 (by omega) _
set_option maxHeartbeats 1000000 in
theorem tY_X9_anew_19 {m : Nat} {G : Nat → Nat} {Λ : sLay} {Y : gY} (w387 : Y.2.2 387 = false) (w388 : Y.2.2 388 = false) (w389 : Y.2.2 389 = false) {n : Nat} {rec : sSt → Nat → Int64 → Int32 → Option (Int64 × sSt)} (hrec : ∀ (S : sSt) (hS : MI m G Λ Y S) (p1 : Int64) (p3 : Int32) (qp3 : Nat) (ep3 : p3 = nI qp3) (bp3 : qp3 ≤ 16), (17 ≤ qp3 + n) → T (rec S m p1 p3) (fun r : Int64 × sSt => MI m G Λ Y r.2)) (S : sSt) (hS : MI m G Λ Y S) (p1 : Int64) (p3 : Int32) (qp3 : Nat) (ep3 : p3 = nI qp3) (bp3 : qp3 ≤ 16) (hm : 17 ≤ qp3 + (n + 1)) : T (Y_X9_anew_19 Λ.2.2 rec S m p1 p3) (fun r : Int64 × sSt => MI m G Λ Y r.2) := by
  unfold Y_X9_anew_19
  obtain ⟨j2, g2, e2⟩ := (hS).c.f (f := 393) (B := 16) (by decide)
  refine T_ite (fun c1 => ?_) (fun c1 => ?_)
  · skip
    have d1 := (e_le e2 ep3 (by omega) (by omega)).mp c1
    exact T_some hS
  · skip
    have d1 := mt (e_le e2 ep3 (by omega) (by omega)).mpr c1
    refine T_m ((hS).c.rf (f := 392) (by decide)) ?_
    refine T_bsome ?_
    refine T_gi (g_in ((hS).c.l (f := 392) (kd := 10) (n := 16) (by decide)) ep3 (by omega) (by omega)) ?_
    obtain ⟨j3, g3, e3⟩ := (hS).c.n (f := 392) (B := 15) (by decide) (Int32.toNatClampNeg p3)
    refine T_bind (tF_X9_layRow (w387 := w387) (w388 := w388) (w389 := w389) S hS _ j3 e3 (by omega)) (fun S9 rS9 => ?_)
    obtain ⟨rS9, kS9, uS9, lS9⟩ := rS9
    have hS9 := rS9
    refine T_bind (tF_X9_lineDigest S9 hS9 ) (fun v10 rv10 => ?_)
    refine T_bind (tF_X9_mixed S9 hS9 _ _) (fun v12 rv12 => ?_)
    exact hrec S9 hS9 _ _ (qp3 + 1) (e_add ep3 k1) (by omega) (by omega)
theorem tL_X9_anew_19 {m : Nat} {G : Nat → Nat} {Λ : sLay} {Y : gY} (w387 : Y.2.2 387 = false) (w388 : Y.2.2 388 = false) (w389 : Y.2.2 389 = false) : ∀ (n : Nat) (S : sSt) (hS : MI m G Λ Y S) (p1 : Int64) (p3 : Int32) (qp3 : Nat) (ep3 : p3 = nI qp3) (bp3 : qp3 ≤ 16) (_ : 17 ≤ qp3 + n), T (L_X9_anew_19 Λ.2.2 n S m p1 p3) (fun r : Int64 × sSt => MI m G Λ Y r.2) := by
  intro n
  induction n with
  | zero =>
    intro S hS p1 p3 qp3 ep3 bp3 hm
    exfalso
    omega
  | succ n ih =>
    intro S hS p1 p3 qp3 ep3 bp3 hm
    exact tY_X9_anew_19 (w387 := w387) (w388 := w388) (w389 := w389) (n := n) (rec := L_X9_anew_19 Λ.2.2 n) (hrec := ih) (S := S) (hS := hS) (p1 := p1) (p3 := p3) (qp3 := qp3) (ep3 := ep3) (bp3 := bp3) (hm := hm)
set_option maxHeartbeats 1000000 in
theorem tF_X9_anew {m : Nat} {G : Nat → Nat} {Λ : sLay} {Y : gY} (w360 : Y.2.2 360 = false) (w379 : Y.2.2 379 = false) (w380 : Y.2.2 380 = false) (w381 : Y.2.2 381 = false) (w387 : Y.2.2 387 = false) (w388 : Y.2.2 388 = false) (w389 : Y.2.2 389 = false) (w390 : Y.2.2 390 = false) (w391 : Y.2.2 391 = false) (w392 : Y.2.2 392 = false) (w393 : Y.2.2 393 = false) (w394 : Y.2.2 394 = false) (S : sSt) (hS : MI m G Λ Y S) : T (F_X9_anew Λ.2.2 S m) (fun r : Int64 × sSt => MI m G Λ Y r.2) := by
  unfold F_X9_anew
  have hFU := FU_big
  refine T_st (fun S1 eS1 => ?_)
  have hS1 : MI m G Λ Y S1 := by rw [eS1]; exact (hS).wF (f := 360) w360 (rg0 (P := fun B => nB B _) (by decide))
  refine T_bind (tF_X9_findOrder (w390 := w390) (w391 := w391) (w392 := w392) (w393 := w393) (w394 := w394) S1 hS1 ) (fun S3 rS3 => ?_)
  have hS3 := rS3
  refine T_bind (tF_X9_reckon (w379 := w379) (w380 := w380) (w381 := w381) S3 hS3 ) (fun S5 rS5 => ?_)
  have hS5 := rS5
  exact tL_X9_anew_19 (w387 := w387) (w388 := w388) (w389 := w389) FU S5 hS5 _ _ 0 k0 (by omega) (by omega)
set_option maxHeartbeats 1000000 in
theorem tF_X9_in {m : Nat} {G : Nat → Nat} {Λ : sLay} {Y : gY} (S : sSt) (hS : MI m G Λ Y S) (p0 : Int32) (p1 : Int32) (p2 : Int32) : T (F_X9_in Λ.2.2 S p0 p1 p2) (fun r : Int32 => r = 0 ∨ (r = 1 ∧ ¬ p0 < p1 ∧ ¬ p2 < p0)) := by
  unfold F_X9_in
  exact T_ite (fun _ => T_some (Or.inl rfl)) (fun c1 => T_ite (fun _ => T_some (Or.inl rfl)) (fun c2 => T_some (Or.inr ⟨rfl, c1, c2⟩)))
set_option maxHeartbeats 1000000 in
theorem tF_X9_isUnit {m : Nat} {G : Nat → Nat} {Λ : sLay} {Y : gY} (S : sSt) (hS : MI m G Λ Y S) (p1 : Int32) : T (F_X9_isUnit Λ.2.2 S m p1) (fun r : Int32 => r = 0 ∨ ∃ j, j ≤ 15 ∧ p1 = nI j) := by
  unfold F_X9_isUnit
  refine T_bind (tF_X9_in S hS p1 0 _) (fun v rv => ?_)
  refine T_ite (fun _ => T_some (Or.inl rfl)) (fun c => ?_)
  obtain ⟨j, gj, ej⟩ := hS.c.f (f := 361) (B := 16) (by decide)
  obtain ⟨q, gq, eq⟩ := in_nat (rv.resolve_left c).2 ej (by omega)
  refine T_m (hS.c.rf (f := 362) (by decide)) (T_bsome ?_)
  refine T_gi (g_in (hS.c.l (f := 362) (kd := 12) (n := 16) (by decide)) eq (by omega) (by omega)) ?_
  exact T_ite (fun _ => T_some (Or.inl rfl)) (fun _ => T_some (Or.inr ⟨q, by omega, eq⟩))
set_option maxHeartbeats 1000000 in
theorem tF_X9_isName {m : Nat} {G : Nat → Nat} {Λ : sLay} {Y : gY} (S : sSt) (hS : MI m G Λ Y S) (p0 : Int32) : T (F_X9_isName Λ.2.2 S p0) (fun r : Int32 => True) := by
  unfold F_X9_isName
  exact T_bind (tF_X9_in S hS p0 0 31) (fun v rv => T_gb (rv.imp id (fun z => z.1)) (T_some True.intro))
set_option maxHeartbeats 1000000 in
theorem tF_X9_build {m : Nat} {G : Nat → Nat} {Λ : sLay} {Y : gY} (w360 : Y.2.2 360 = false) (w367 : Y.2.2 367 = false) (w368 : Y.2.2 368 = false) (S : sSt) (hS : MI m G Λ Y S) (p1 : Int32) (p2 : Int32) (p3 : Int32) : T (F_X9_build Λ.2.2 S m p1 p2 p3) (fun r : Int32 × sSt => MI m G Λ Y r.2) := by
  unfold F_X9_build
  refine T_st (fun S1 eS1 => ?_)
  have hS1 : MI m G Λ Y S1 := by rw [eS1]; exact (hS).wF (f := 360) w360 (rg0 (P := fun B => nB B _) (by decide))
  refine T_bind (tF_X9_isUnit S1 hS1 _) (fun v2 rv2 => ?_)
  refine T_ite (fun c1 => ?_) (fun c1 => ?_)
  · skip
    exact T_some hS1
  · skip
    obtain ⟨j1, g1, e1⟩ := (rv2).resolve_left c1
    refine T_bind (tF_X9_isName S1 hS1 _) (fun v4 rv4 => ?_)
    refine T_ite (fun c2 => ?_) (fun c2 => ?_)
    · skip
      exact T_some hS1
    · skip
      refine T_bind (tF_X9_isName S1 hS1 _) (fun v6 rv6 => ?_)
      refine T_ite (fun c3 => ?_) (fun c3 => ?_)
      · skip
        exact T_some hS1
      · skip
        refine T_bind (tF_X9_thingOf S1 hS1 _ j1 e1 (by omega) _) (fun v8 rv8 => ?_)
        refine T_ite (fun c4 => ?_) (fun c4 => ?_)
        · skip
          exact T_some hS1
        · skip
          obtain ⟨j4, g4, e4⟩ := oB.ne rv8.1 c4
          have z4 := (rv8).2 c4
          refine T_m ((hS1).c.rf (f := 367) (by decide)) ?_
          refine T_bsome ?_
          refine T_gi (g_in ((hS).c.l (f := 367) (kd := 10) (n := 160) (by decide)) e4 (by omega) (by omega)) ?_
          obtain ⟨j6, g6, e6⟩ := (hS1).c.n (f := 367) (B := 3) (by decide) (Int32.toNatClampNeg v8)
          refine T_ite (fun c5 => ?_) (fun c5 => ?_)
          · skip
            have d5 := (e_eq e6 k3 (by omega) (by omega)).mp c5
            exact T_some hS1
          · skip
            have d5 := mt (e_eq e6 k3 (by omega) (by omega)).mpr c5
            refine T_m ((hS1).c.rf (f := 368) (by decide)) ?_
            refine T_m ((hS1).c.rf (f := 367) (by decide)) ?_
            refine T_bsome ?_
            refine T_gi (g_in ((hS).c.l (f := 367) (kd := 10) (n := 160) (by decide)) e4 (by omega) (by omega)) ?_
            refine T_bsome ?_
            refine T_gi (g_in ((hS).c.l (f := 368) (kd := 10) (n := 480) (by decide)) (e_add (e_mul k3 e4) e6) (by omega) (by omega)) ?_
            refine T_st (fun S16 eS16 => ?_)
            have hS16 : MI m G Λ Y S16 := by rw [eS16]; exact (hS1).wI (f := 368) (by decide) w368 (rg0 (P := fun B => nB B _) (by decide)) (rg0 (P := fun B => oB B _) (by decide))
            refine T_m ((hS16).c.rf (f := 367) (by decide)) ?_
            refine T_bsome ?_
            refine T_gi (g_in ((hS).c.l (f := 367) (kd := 10) (n := 160) (by decide)) e4 (by omega) (by omega)) ?_
            refine T_gi (g_in ((hS).c.l (f := 367) (kd := 10) (n := 160) (by decide)) e4 (by omega) (by omega)) ?_
            have e7 : (gAI S16 (G 367) (Int32.toNatClampNeg v8)) = nI j6 := by rw [eS16, (hS1).c.oth (f := 367) (f' := 368) (by decide) (by decide) (by decide)]; exact e6
            refine T_st (fun S19 eS19 => ?_)
            have hS19 : MI m G Λ Y S19 := by rw [eS19]; exact (hS16).wI (f := 367) (by decide) w367 (rg1 (B := 3) (by decide) ⟨(j6 + 1), by omega, (e_add e7 k1)⟩) (rg0 (P := fun B => oB B _) (by decide))
            refine T_m ((hS19).c.rf (f := 367) (by decide)) ?_
            refine T_bsome ?_
            refine T_gi (g_in ((hS).c.l (f := 367) (kd := 10) (n := 160) (by decide)) e4 (by omega) (by omega)) ?_
            exact T_some hS19
set_option maxHeartbeats 1000000 in
theorem tY_X9_follow_2 {m : Nat} {G : Nat → Nat} {Λ : sLay} {Y : gY} (w382 : Y.2.2 382 = false) (w383 : Y.2.2 383 = false) (w384 : Y.2.2 384 = false) (w385 : Y.2.2 385 = false) (w386 : Y.2.2 386 = false) {n : Nat} {rec : sSt → Nat → Int32 → Int32 → Option sSt} (hrec : ∀ (S : sSt) (hS : MI m G Λ Y S) (p1 : Int32) (qp1 : Nat) (ep1 : p1 = nI qp1) (bp1 : qp1 ≤ 159) (p2 : Int32) (qp2 : Nat) (ep2 : p2 = nI qp2) (bp2 : qp2 ≤ 160), (161 ≤ qp2 + n) → T (rec S m p1 p2) (fun r : sSt => MI m G Λ Y r)) (S : sSt) (hS : MI m G Λ Y S) (p1 : Int32) (qp1 : Nat) (ep1 : p1 = nI qp1) (bp1 : qp1 ≤ 159) (p2 : Int32) (qp2 : Nat) (ep2 : p2 = nI qp2) (bp2 : qp2 ≤ 160) (hm : 161 ≤ qp2 + (n + 1)) : T (Y_X9_follow_2 Λ.2.2 rec S m p1 p2) (fun r : sSt => MI m G Λ Y r) := by
  unfold Y_X9_follow_2
  have hFU := FU_big
  refine T_ite (fun c => ?_) (fun c => ?_)
  · refine T_st (fun S1 e1 => ?_)
    have h1 : MI m G Λ Y S1 := by rw [e1]; exact hS.wF (f := 384) w384 (rg1 (B := 160) (by decide) ⟨0, by omega, k0⟩)
    refine T_m (h1.c.rf (f := 385) (by decide)) (T_bsome ?_)
    refine T_gi (g_in (h1.c.l (f := 385) (kd := 10) (n := 170) (by decide)) k0 (by omega) (by omega)) ?_
    refine T_st (fun S4 eS4 => ?_)
    have h4 : MI m G Λ Y S4 := by rw [eS4]; exact h1.wI (f := 385) (by decide) w385 (rg1 (B := 159) (by decide) ⟨qp1, by omega, ep1⟩) (rg0 (P := fun B => oB B _) (by decide))
    refine T_m (h4.c.rf (f := 386) (by decide)) (T_bsome ?_)
    refine T_gi (g_in (h4.c.l (f := 386) (kd := 10) (n := 170) (by decide)) k0 (by omega) (by omega)) ?_
    refine T_st (fun S7 eS7 => ?_)
    have h7 : MI m G Λ Y S7 := by rw [eS7]; exact h4.wI (f := 386) (by decide) w386 (rg1 (B := 3) (by decide) ⟨0, by omega, k0⟩) (rg0 (P := fun B => oB B _) (by decide))
    have w7 : gFI S7 384 m = nI 0 := by rw [eS7, eS4, e1]; show gFI (sFI S 384 m 0) 384 m = nI 0; rw [gFI_sFI, if_pos ⟨rfl, rfl⟩]; exact k0
    have hu := unkN_le (G := G) (f := 383) (S := S7) 160
    have ho : opn G S7 1 ≤ 4 := by
      show 0 + (4 - _) ≤ 4
      omega
    exact tL_X9_follow_43 (w382 := w382) (w383 := w383) (w384 := w384) (w385 := w385) (w386 := w386) FU S7 h7 1 _ k1 ⟨by omega, ⟨0, w7, by omega⟩, by omega⟩
  · have d := mt (e_le k160 ep2 (by omega) (by omega)).mpr c
    refine T_m (hS.c.rf (f := 383) (by decide)) (T_bsome ?_)
    refine T_gi (g_in (hS.c.l (f := 383) (kd := 12) (n := 160) (by decide)) ep2 (by omega) (by omega)) ?_
    refine T_st (fun S36 eS36 => ?_)
    have h36 : MI m G Λ Y S36 := by rw [eS36]; exact hS.wI (f := 383) (by decide) w383 (rg0 (P := fun B => nB B _) (by decide)) (rg0 (P := fun B => oB B _) (by decide))
    exact hrec S36 h36 _ qp1 ep1 bp1 _ (qp2 + 1) (e_add ep2 k1) (by omega) (by omega)
theorem tL_X9_follow_2 {m : Nat} {G : Nat → Nat} {Λ : sLay} {Y : gY} (w382 : Y.2.2 382 = false) (w383 : Y.2.2 383 = false) (w384 : Y.2.2 384 = false) (w385 : Y.2.2 385 = false) (w386 : Y.2.2 386 = false) : ∀ (n : Nat) (S : sSt) (hS : MI m G Λ Y S) (p1 : Int32) (qp1 : Nat) (ep1 : p1 = nI qp1) (bp1 : qp1 ≤ 159) (p2 : Int32) (qp2 : Nat) (ep2 : p2 = nI qp2) (bp2 : qp2 ≤ 160) (_ : 161 ≤ qp2 + n), T (L_X9_follow_2 Λ.2.2 n S m p1 p2) (fun r : sSt => MI m G Λ Y r) := by
  intro n
  induction n with
  | zero =>
    intro S hS p1 qp1 ep1 bp1 p2 qp2 ep2 bp2 hm
    exfalso
    omega
  | succ n ih =>
    intro S hS p1 qp1 ep1 bp1 p2 qp2 ep2 bp2 hm
    exact tY_X9_follow_2 (w382 := w382) (w383 := w383) (w384 := w384) (w385 := w385) (w386 := w386) (n := n) (rec := L_X9_follow_2 Λ.2.2 n) (hrec := ih) (S := S) (hS := hS) (p1 := p1) (qp1 := qp1) (ep1 := ep1) (bp1 := bp1) (p2 := p2) (qp2 := qp2) (ep2 := ep2) (bp2 := bp2) (hm := hm)
set_option maxHeartbeats 1000000 in
theorem tF_X9_follow {m : Nat} {G : Nat → Nat} {Λ : sLay} {Y : gY} (w382 : Y.2.2 382 = false) (w383 : Y.2.2 383 = false) (w384 : Y.2.2 384 = false) (w385 : Y.2.2 385 = false) (w386 : Y.2.2 386 = false) (S : sSt) (hS : MI m G Λ Y S) (p1 : Int32) (qp1 : Nat) (ep1 : p1 = nI qp1) (bp1 : qp1 ≤ 159) : T (F_X9_follow Λ.2.2 S m p1) (fun r : sSt => MI m G Λ Y r) := by
  unfold F_X9_follow
  have hFU := FU_big
  exact tL_X9_follow_2 (w382 := w382) (w383 := w383) (w384 := w384) (w385 := w385) (w386 := w386) FU S hS _ qp1 ep1 (by omega) _ 0 k0 (by omega) (by omega)
set_option maxHeartbeats 1000000 in
theorem tF_X9_chain {m : Nat} {G : Nat → Nat} {Λ : sLay} {Y : gY} (w360 : Y.2.2 360 = false) (w379 : Y.2.2 379 = false) (w380 : Y.2.2 380 = false) (w381 : Y.2.2 381 = false) (w382 : Y.2.2 382 = false) (w383 : Y.2.2 383 = false) (w384 : Y.2.2 384 = false) (w385 : Y.2.2 385 = false) (w386 : Y.2.2 386 = false) (S : sSt) (hS : MI m G Λ Y S) (p1 : Int32) (p2 : Int32) (p3 : Int32) (p4 : Int32) : T (F_X9_chain Λ.2.2 S m p1 p2 p3 p4) (fun r : Int32 × sSt => MI m G Λ Y r.2) := by
  unfold F_X9_chain
  refine T_st (fun S1 eS1 => ?_)
  have h1 : MI m G Λ Y S1 := by rw [eS1]; exact hS.wF (f := 360) w360 (rg0 (P := fun B => nB B _) (by decide))
  refine T_bind (tF_X9_isUnit S1 h1 p1) (fun v2 r2 => T_ite (fun _ => T_some h1) (fun c2 => ?_))
  obtain ⟨q, gq, eq⟩ := r2.resolve_left c2
  refine T_bind (tF_X9_isName S1 h1 p2) (fun v4 _ => T_ite (fun _ => T_some h1) (fun _ => ?_))
  obtain ⟨v6, e6, r6, -⟩ := tF_X9_thingOf S1 h1 _ q eq gq ((32 : Int32) + p2)
  rw [e6]
  refine T_bsome (T_ite (fun _ => T_some h1) (fun c6 => ?_))
  obtain ⟨i, hi, ei⟩ := r6.ne c6
  refine T_bind (tF_X9_in S1 h1 p4 0 1) (fun v8 _ => T_ite (fun _ => T_some h1) (fun _ => ?_))
  refine T_bind (tF_X9_reckon (w379 := rfl) (w380 := rfl) (w381 := rfl) (Y := (Y.1, S1, nfz [379, 380, 381])) S1 (h1.loc _)) (fun S11 g11 => ?_)
  have h11 : MI m G Λ Y S11 := h1.up g11 (nfz_ok (fun g hg => by simp only [List.mem_cons, List.not_mem_nil, or_false] at hg; rcases hg with rfl | rfl | rfl <;> assumption))
  rw [F_thingOf_eq (h1.loc _) g11 rfl rfl, e6]
  refine T_bsome (T_bind (tF_X9_follow (w382 := w382) (w383 := w383) (w384 := w384) (w385 := w385) (w386 := w386) S11 h11 _ i ei hi) (fun S15 h15 => ?_))
  obtain ⟨j, gj, ej⟩ := h15.c.f (f := 384) (B := 160) (by decide)
  refine T_bind (tF_X9_in S15 h15 p3 0 _) (fun v16 r16 => T_ite (fun _ => T_some h15) (fun c16 => ?_))
  obtain ⟨k, hk, ek⟩ := in_nat (r16.resolve_left c16).2 ej (by omega)
  obtain ⟨t, ht, et⟩ := h15.c.n (f := 382) (B := 159) (by decide) (Int32.toNatClampNeg p3)
  refine T_ite (fun _ => ?_) (fun _ => ?_)
  · refine T_m (h15.c.rf (f := 382) (by decide)) (T_bsome ?_)
    refine T_gi (g_in (h15.c.l (f := 382) (kd := 10) (n := 160) (by decide)) ek (by omega) (by omega)) ?_
    exact T_some h15
  · refine T_m (h15.c.rf (f := 364) (by decide)) ?_
    refine T_m (h15.c.rf (f := 382) (by decide)) (T_bsome ?_)
    refine T_gi (g_in (h15.c.l (f := 382) (kd := 10) (n := 160) (by decide)) ek (by omega) (by omega)) ?_
    refine T_bsome ?_
    refine T_gi (g_in (h15.c.l (f := 364) (kd := 10) (n := 160) (by decide)) et (by omega) (by omega)) ?_
    exact T_some h15
set_option maxHeartbeats 1000000 in
theorem tY_X9_clear_22 {m : Nat} {G : Nat → Nat} {Λ : sLay} {Y : gY} (w362 : Y.2.2 362 = false) {n : Nat} {rec : sSt → Nat → Int32 → Int32 → Option (Int32 × sSt)} (hrec : ∀ (S : sSt) (hS : MI m G Λ Y S) (p1 : Int32) (p2 : Int32) (qp2 : Nat) (ep2 : p2 = nI qp2) (bp2 : qp2 ≤ 16), (17 ≤ qp2 + n) → T (rec S m p1 p2) (fun r : Int32 × sSt => MI m G Λ Y r.2 ∧ r.1 = p1)) (S : sSt) (hS : MI m G Λ Y S) (p1 : Int32) (p2 : Int32) (qp2 : Nat) (ep2 : p2 = nI qp2) (bp2 : qp2 ≤ 16) (hm : 17 ≤ qp2 + (n + 1)) : T (Y_X9_clear_22 Λ.2.2 rec S m p1 p2) (fun r : Int32 × sSt => MI m G Λ Y r.2 ∧ r.1 = p1) := by
  unfold Y_X9_clear_22
  refine T_ite (fun _ => T_some ⟨hS, rfl⟩) (fun c => ?_)
  have d := mt (e_le k16 ep2 (by omega) (by omega)).mpr c
  refine T_m (hS.c.rf (f := 362) (by decide)) (T_bsome ?_)
  refine T_gi (g_in (hS.c.l (f := 362) (kd := 12) (n := 16) (by decide)) ep2 (by omega) (by omega)) ?_
  refine T_st (fun S8 eS8 => ?_)
  have h8 : MI m G Λ Y S8 := by rw [eS8]; exact hS.wI (f := 362) (by decide) w362 (rg0 (P := fun B => nB B _) (by decide)) (rg0 (P := fun B => oB B _) (by decide))
  exact hrec S8 h8 _ _ (qp2 + 1) (e_add ep2 k1) (by omega) (by omega)
theorem tL_X9_clear_22 {m : Nat} {G : Nat → Nat} {Λ : sLay} {Y : gY} (w362 : Y.2.2 362 = false) : ∀ (n : Nat) (S : sSt) (hS : MI m G Λ Y S) (p1 : Int32) (p2 : Int32) (qp2 : Nat) (ep2 : p2 = nI qp2) (bp2 : qp2 ≤ 16) (_ : 17 ≤ qp2 + n), T (L_X9_clear_22 Λ.2.2 n S m p1 p2) (fun r : Int32 × sSt => MI m G Λ Y r.2 ∧ r.1 = p1) := by
  intro n
  induction n with
  | zero =>
    intro S hS p1 p2 qp2 ep2 bp2 hm
    exfalso
    omega
  | succ n ih =>
    intro S hS p1 p2 qp2 ep2 bp2 hm
    exact tY_X9_clear_22 (w362 := w362) (n := n) (rec := L_X9_clear_22 Λ.2.2 n) (hrec := ih) (S := S) (hS := hS) (p1 := p1) (p2 := p2) (qp2 := qp2) (ep2 := ep2) (bp2 := bp2) (hm := hm)
set_option maxHeartbeats 1000000 in
theorem tB_X9_isAs_46 {m : Nat} {G : Nat → Nat} {Λ : sLay} {Y : gY} (S : sSt) (hS : MI m G Λ Y S) {n6 : Nat} {k6 : Nat → Int32 → Int32 → Int32 → Int32 → Option Int32} (hk6 : ∀ (p1 : Int32) (qp1 : Nat) (ep1 : p1 = nI qp1) (bp1 : qp1 ≤ 15) (p3 : Int32) (qp3 : Nat) (ep3 : p3 = nI qp3) (bp3 : qp3 ≤ 700) (p4 : Int32) (bp4 : p4 = 0 ∨ p4 = 1) (p5 : Int32) (qp5 : Nat) (ep5 : p5 = nI qp5) (bp5 : qp5 ≤ 700), (701 ≤ qp5 + n6) → T (k6 m p1 p3 p4 p5) (fun r : Int32 => True)) (p1 : Int32) (qp1 : Nat) (ep1 : p1 = nI qp1) (bp1 : qp1 ≤ 15) (p3 : Int32) (qp3 : Nat) (ep3 : p3 = nI qp3) (bp3 : qp3 ≤ 700) (p5 : Int32) (qp5 : Nat) (ep5 : p5 = nI qp5) (bp5 : qp5 ≤ 699) (s0 : Int32) (bs0 : s0 = 0 ∨ s0 = 1) (f0 : 701 ≤ qp5 + n6 + 1) : T (B_X9_isAs_46 Λ.2.2 S k6 m p1 p3 p5 s0) (fun r : Int32 => True) := by
  unfold B_X9_isAs_46
  exact hk6 _ qp1 ep1 (by omega) _ qp3 ep3 (by omega) _ bs0 _ (qp5 + 1) (e_add ep5 k1) (by omega) (by omega)
set_option maxHeartbeats 1000000 in
theorem tB_X9_isAs_45 {m : Nat} {G : Nat → Nat} {Λ : sLay} {Y : gY} (S : sSt) (hS : MI m G Λ Y S) {n6 : Nat} {k6 : Nat → Int32 → Int32 → Int32 → Int32 → Option Int32} (hk6 : ∀ (p1 : Int32) (qp1 : Nat) (ep1 : p1 = nI qp1) (bp1 : qp1 ≤ 15) (p3 : Int32) (qp3 : Nat) (ep3 : p3 = nI qp3) (bp3 : qp3 ≤ 700) (p4 : Int32) (bp4 : p4 = 0 ∨ p4 = 1) (p5 : Int32) (qp5 : Nat) (ep5 : p5 = nI qp5) (bp5 : qp5 ≤ 700), (701 ≤ qp5 + n6) → T (k6 m p1 p3 p4 p5) (fun r : Int32 => True)) (p1 : Int32) (qp1 : Nat) (ep1 : p1 = nI qp1) (bp1 : qp1 ≤ 15) (p3 : Int32) (qp3 : Nat) (ep3 : p3 = nI qp3) (bp3 : qp3 ≤ 700) (p5 : Int32) (qp5 : Nat) (ep5 : p5 = nI qp5) (bp5 : qp5 ≤ 699) (f0 : 701 ≤ qp5 + n6 + 1) : T (B_X9_isAs_45 Λ.2.2 S k6 m p1 p3 p5) (fun r : Int32 => True) := by
  unfold B_X9_isAs_45
  exact tB_X9_isAs_46 (n6 := n6) (k6 := k6) (hk6 := hk6) S hS _ qp1 ep1 (by omega) _ qp3 ep3 (by omega) _ qp5 ep5 (by omega) _ (Or.inl rfl) (by omega)
set_option maxHeartbeats 1000000 in
theorem tY_X9_isAs_6 {m : Nat} {G : Nat → Nat} {Λ : sLay} {Y : gY} (S : sSt) (hS : MI m G Λ Y S) {n : Nat} {rec : Nat → Int32 → Int32 → Int32 → Int32 → Option Int32} (hrec : ∀ (p1 : Int32) (qp1 : Nat) (ep1 : p1 = nI qp1) (bp1 : qp1 ≤ 15) (p3 : Int32) (qp3 : Nat) (ep3 : p3 = nI qp3) (bp3 : qp3 ≤ 700) (p4 : Int32) (bp4 : p4 = 0 ∨ p4 = 1) (p5 : Int32) (qp5 : Nat) (ep5 : p5 = nI qp5) (bp5 : qp5 ≤ 700), (701 ≤ qp5 + n) → T (rec m p1 p3 p4 p5) (fun r : Int32 => True)) (p1 : Int32) (qp1 : Nat) (ep1 : p1 = nI qp1) (bp1 : qp1 ≤ 15) (p3 : Int32) (qp3 : Nat) (ep3 : p3 = nI qp3) (bp3 : qp3 ≤ 700) (p4 : Int32) (bp4 : p4 = 0 ∨ p4 = 1) (p5 : Int32) (qp5 : Nat) (ep5 : p5 = nI qp5) (bp5 : qp5 ≤ 700) (hm : 701 ≤ qp5 + (n + 1)) : T (Y_X9_isAs_6 Λ.2.2 S rec m p1 p3 p4 p5) (fun r : Int32 => True) := by
  unfold Y_X9_isAs_6
  refine T_ite (fun c1 => ?_) (fun c1 => ?_)
  · skip
    have d1 := (e_le ep3 ep5 (by omega) (by omega)).mp c1
    refine T_gb bp4 ?_
    exact T_some True.intro
  · skip
    have d1 := mt (e_le ep3 ep5 (by omega) (by omega)).mpr c1
    refine T_ite (fun c2 => ?_) (fun c2 => ?_)
    · skip
      exact tB_X9_isAs_45 (n6 := n) (k6 := rec) (hk6 := hrec) S hS _ qp1 ep1 (by omega) _ qp3 ep3 (by omega) _ qp5 ep5 (by omega) (by omega)
    · skip
      refine T_m ((hS).c.rf (f := 387) (by decide)) ?_
      refine T_bsome ?_
      refine T_gi (g_in ((hS).c.l (f := 387) (kd := 11) (n := 700) (by decide)) ep5 (by omega) (by omega)) ?_
      refine T_m ((hS).c.rf (f := 375) (by decide)) ?_
      refine T_bsome ?_
      refine T_gi (g_in ((hS).c.l (f := 375) (kd := 11) (n := 11200) (by decide)) (e_add (e_mul k700 ep1) ep5) (by omega) (by omega)) ?_
      refine T_ite (fun c3 => ?_) (fun c3 => ?_)
      · skip
        exact tB_X9_isAs_46 (n6 := n) (k6 := rec) (hk6 := hrec) S hS _ qp1 ep1 (by omega) _ qp3 ep3 (by omega) _ qp5 ep5 (by omega) _ (Or.inr rfl) (by omega)
      · skip
        exact tB_X9_isAs_45 (n6 := n) (k6 := rec) (hk6 := hrec) S hS _ qp1 ep1 (by omega) _ qp3 ep3 (by omega) _ qp5 ep5 (by omega) (by omega)
theorem tL_X9_isAs_6 {m : Nat} {G : Nat → Nat} {Λ : sLay} {Y : gY} (S : sSt) (hS : MI m G Λ Y S) : ∀ (n : Nat) (p1 : Int32) (qp1 : Nat) (ep1 : p1 = nI qp1) (bp1 : qp1 ≤ 15) (p3 : Int32) (qp3 : Nat) (ep3 : p3 = nI qp3) (bp3 : qp3 ≤ 700) (p4 : Int32) (bp4 : p4 = 0 ∨ p4 = 1) (p5 : Int32) (qp5 : Nat) (ep5 : p5 = nI qp5) (bp5 : qp5 ≤ 700) (_ : 701 ≤ qp5 + n), T (L_X9_isAs_6 Λ.2.2 S n m p1 p3 p4 p5) (fun r : Int32 => True) := by
  intro n
  induction n with
  | zero =>
    intro p1 qp1 ep1 bp1 p3 qp3 ep3 bp3 p4 bp4 p5 qp5 ep5 bp5 hm
    exfalso
    omega
  | succ n ih =>
    intro p1 qp1 ep1 bp1 p3 qp3 ep3 bp3 p4 bp4 p5 qp5 ep5 bp5 hm
    exact tY_X9_isAs_6 S hS (n := n) (rec := L_X9_isAs_6 Λ.2.2 S n) (hrec := ih) (p1 := p1) (qp1 := qp1) (ep1 := ep1) (bp1 := bp1) (p3 := p3) (qp3 := qp3) (ep3 := ep3) (bp3 := bp3) (p4 := p4) (bp4 := bp4) (p5 := p5) (qp5 := qp5) (ep5 := ep5) (bp5 := bp5) (hm := hm)
set_option maxHeartbeats 1000000 in
theorem tF_X9_isAs {m : Nat} {G : Nat → Nat} {Λ : sLay} {Y : gY} (S : sSt) (hS : MI m G Λ Y S) (p1 : Int32) (qp1 : Nat) (ep1 : p1 = nI qp1) (bp1 : qp1 ≤ 15) (p2 : Int32) (qp2 : Nat) (ep2 : p2 = nI qp2) (bp2 : qp2 ≤ 700) (p3 : Int32) (qp3 : Nat) (ep3 : p3 = nI qp3) (bp3 : qp3 ≤ 700) : T (F_X9_isAs Λ.2.2 S m p1 p2 p3) (fun r : Int32 => True) := by
  unfold F_X9_isAs
  have hFU := FU_big
  exact tL_X9_isAs_6 S hS FU _ qp1 ep1 (by omega) _ qp3 ep3 (by omega) _ (Or.inr rfl) _ qp2 ep2 (by omega) (by omega)
set_option maxHeartbeats 1000000 in
theorem tB_X9_whyOf_218 {m : Nat} {G : Nat → Nat} {Λ : sLay} {Y : gY} (S : sSt) (hS : MI m G Λ Y S) : T (B_X9_whyOf_218 Λ.2.2 S) (fun r : Int32 => True) := by
  unfold B_X9_whyOf_218
  exact T_some True.intro
set_option maxHeartbeats 1000000 in
theorem tB_X9_whyOf_101 {m : Nat} {G : Nat → Nat} {Λ : sLay} {Y : gY} (S : sSt) (hS : MI m G Λ Y S) {n70 : Nat} {k70 : Nat → Int32 → Int32 → Int32 → Option Int32} (hk70 : ∀ (p1 : Int32) (qp1 : Nat) (ep1 : p1 = nI qp1) (bp1 : qp1 ≤ 15) (p2 : Int32) (p3 : Int32) (qp3 : Nat) (ep3 : p3 = nI qp3) (bp3 : qp3 ≤ 700), (701 ≤ qp3 + n70) → T (k70 m p1 p2 p3) (fun r : Int32 => True)) (p1 : Int32) (qp1 : Nat) (ep1 : p1 = nI qp1) (bp1 : qp1 ≤ 15) (p3 : Int32) (qp3 : Nat) (ep3 : p3 = nI qp3) (bp3 : qp3 ≤ 690) (s0 : Int32) (f0 : 701 ≤ qp3 + n70 + 1) : T (B_X9_whyOf_101 Λ.2.2 S k70 m p1 p3 s0) (fun r : Int32 => True) := by
  unfold B_X9_whyOf_101
  exact hk70 _ qp1 ep1 (by omega) _ _ (qp3 + 4) (e_add ep3 k4) (by omega) (by omega)
set_option maxHeartbeats 1000000 in
theorem tB_X9_whyOf_100 {m : Nat} {G : Nat → Nat} {Λ : sLay} {Y : gY} (S : sSt) (hS : MI m G Λ Y S) {n70 : Nat} {k70 : Nat → Int32 → Int32 → Int32 → Option Int32} (hk70 : ∀ (p1 : Int32) (qp1 : Nat) (ep1 : p1 = nI qp1) (bp1 : qp1 ≤ 15) (p2 : Int32) (p3 : Int32) (qp3 : Nat) (ep3 : p3 = nI qp3) (bp3 : qp3 ≤ 700), (701 ≤ qp3 + n70) → T (k70 m p1 p2 p3) (fun r : Int32 => True)) (p1 : Int32) (qp1 : Nat) (ep1 : p1 = nI qp1) (bp1 : qp1 ≤ 15) (p3 : Int32) (qp3 : Nat) (ep3 : p3 = nI qp3) (bp3 : qp3 ≤ 690) (f0 : 701 ≤ qp3 + n70 + 1) : T (B_X9_whyOf_100 Λ.2.2 S k70 m p1 p3) (fun r : Int32 => True) := by
  unfold B_X9_whyOf_100
  exact tB_X9_whyOf_101 (n70 := n70) (k70 := k70) (hk70 := hk70) S hS _ qp1 ep1 (by omega) _ qp3 ep3 (by omega) _ (by omega)
set_option maxHeartbeats 1000000 in
theorem tY_X9_whyOf_70 {m : Nat} {G : Nat → Nat} {Λ : sLay} {Y : gY} (S : sSt) (hS : MI m G Λ Y S) {n : Nat} {rec : Nat → Int32 → Int32 → Int32 → Option Int32} (hrec : ∀ (p1 : Int32) (qp1 : Nat) (ep1 : p1 = nI qp1) (bp1 : qp1 ≤ 15) (p2 : Int32) (p3 : Int32) (qp3 : Nat) (ep3 : p3 = nI qp3) (bp3 : qp3 ≤ 700), (701 ≤ qp3 + n) → T (rec m p1 p2 p3) (fun r : Int32 => True)) (p1 : Int32) (qp1 : Nat) (ep1 : p1 = nI qp1) (bp1 : qp1 ≤ 15) (p2 : Int32) (p3 : Int32) (qp3 : Nat) (ep3 : p3 = nI qp3) (bp3 : qp3 ≤ 700) (hm : 701 ≤ qp3 + (n + 1)) : T (Y_X9_whyOf_70 Λ.2.2 S rec m p1 p2 p3) (fun r : Int32 => True) := by
  unfold Y_X9_whyOf_70
  refine T_m ((hS).c.rf (f := 389) (by decide)) ?_
  refine T_bsome ?_
  refine T_gi (g_in ((hS).c.l (f := 389) (kd := 10) (n := 6) (by decide)) k2 (by omega) (by omega)) ?_
  obtain ⟨j2, g2, e2⟩ := (hS).c.n (f := 389) (B := 690) (by decide) (Int32.toNatClampNeg (2 : Int32))
  refine T_ite (fun c1 => ?_) (fun c1 => ?_)
  · skip
    have d1 := (e_le e2 ep3 (by omega) (by omega)).mp c1
    refine T_ite (fun c3 => ?_) (fun c3 => ?_)
    · skip
      exact T_some True.intro
    · skip
      refine T_m ((hS).c.rf (f := 389) (by decide)) ?_
      refine T_bsome ?_
      refine T_gi (g_in ((hS).c.l (f := 389) (kd := 10) (n := 6) (by decide)) k1 (by omega) (by omega)) ?_
      refine T_m ((hS).c.rf (f := 389) (by decide)) ?_
      refine T_bsome ?_
      refine T_gi (g_in ((hS).c.l (f := 389) (kd := 10) (n := 6) (by decide)) k3 (by omega) (by omega)) ?_
      obtain ⟨j4, g4, e4⟩ := (hS).c.n (f := 389) (B := 690) (by decide) (Int32.toNatClampNeg (1 : Int32))
      obtain ⟨j5, g5, e5⟩ := (hS).c.n (f := 389) (B := 690) (by decide) (Int32.toNatClampNeg (3 : Int32))
      refine T_bind (tF_X9_isAs S hS _ qp1 ep1 (by omega) _ j4 e4 (by omega) _ j5 e5 (by omega)) (fun v15 rv15 => ?_)
      refine T_ite (fun c6 => ?_) (fun c6 => ?_)
      · skip
        exact T_some True.intro
      · skip
        refine T_m ((hS).c.rf (f := 389) (by decide)) ?_
        refine T_bsome ?_
        refine T_gi (g_in ((hS).c.l (f := 389) (kd := 10) (n := 6) (by decide)) k4 (by omega) (by omega)) ?_
        refine T_m ((hS).c.rf (f := 376) (by decide)) ?_
        refine T_bsome ?_
        refine T_gi (g_in ((hS).c.l (f := 376) (kd := 10) (n := 96) (by decide)) (e_add (e_mul k6 ep1) k4) (by omega) (by omega)) ?_
        obtain ⟨j8, g8, e8⟩ := (hS).c.n (f := 389) (B := 690) (by decide) (Int32.toNatClampNeg (4 : Int32))
        obtain ⟨j9, g9, e9⟩ := (hS).c.n (f := 376) (B := 690) (by decide) (Int32.toNatClampNeg (((6 : Int32) * p1) + (4 : Int32)))
        refine T_ite (fun c7 => ?_) (fun c7 => ?_)
        · skip
          have d7 := (e_eq e8 e9 (by omega) (by omega)).mp c7
          refine T_m ((hS).c.rf (f := 389) (by decide)) ?_
          refine T_bsome ?_
          refine T_gi (g_in ((hS).c.l (f := 389) (kd := 10) (n := 6) (by decide)) k3 (by omega) (by omega)) ?_
          refine T_m ((hS).c.rf (f := 389) (by decide)) ?_
          refine T_bsome ?_
          refine T_gi (g_in ((hS).c.l (f := 389) (kd := 10) (n := 6) (by decide)) k4 (by omega) (by omega)) ?_
          refine T_bind (tF_X9_isAs S hS _ qp1 ep1 (by omega) _ j5 e5 (by omega) _ j8 e8 (by omega)) (fun v25 rv25 => ?_)
          refine T_ite (fun c10 => ?_) (fun c10 => ?_)
          · skip
            exact T_some True.intro
          · skip
            refine T_m ((hS).c.rf (f := 389) (by decide)) ?_
            refine T_bsome ?_
            refine T_gi (g_in ((hS).c.l (f := 389) (kd := 10) (n := 6) (by decide)) k5 (by omega) (by omega)) ?_
            refine T_m ((hS).c.rf (f := 376) (by decide)) ?_
            refine T_bsome ?_
            refine T_gi (g_in ((hS).c.l (f := 376) (kd := 10) (n := 96) (by decide)) (e_add (e_mul k6 ep1) k5) (by omega) (by omega)) ?_
            obtain ⟨j12, g12, e12⟩ := (hS).c.n (f := 389) (B := 690) (by decide) (Int32.toNatClampNeg (5 : Int32))
            obtain ⟨j13, g13, e13⟩ := (hS).c.n (f := 376) (B := 690) (by decide) (Int32.toNatClampNeg (((6 : Int32) * p1) + (5 : Int32)))
            refine T_ite (fun c11 => ?_) (fun c11 => ?_)
            · skip
              have d11 := (e_eq e12 e13 (by omega) (by omega)).mp c11
              refine T_m ((hS).c.rf (f := 389) (by decide)) ?_
              refine T_bsome ?_
              refine T_gi (g_in ((hS).c.l (f := 389) (kd := 10) (n := 6) (by decide)) k4 (by omega) (by omega)) ?_
              refine T_m ((hS).c.rf (f := 389) (by decide)) ?_
              refine T_bsome ?_
              refine T_gi (g_in ((hS).c.l (f := 389) (kd := 10) (n := 6) (by decide)) k5 (by omega) (by omega)) ?_
              refine T_bind (tF_X9_isAs S hS _ qp1 ep1 (by omega) _ j8 e8 (by omega) _ j12 e12 (by omega)) (fun v35 rv35 => ?_)
              refine T_ite (fun c14 => ?_) (fun c14 => ?_)
              · skip
                exact tB_X9_whyOf_218 S hS 
              · skip
                exact T_some True.intro
            · skip
              have d11 := mt (e_eq e12 e13 (by omega) (by omega)).mpr c11
              exact tB_X9_whyOf_218 S hS 
        · skip
          have d7 := mt (e_eq e8 e9 (by omega) (by omega)).mpr c7
          exact T_some True.intro
  · skip
    have d1 := mt (e_le e2 ep3 (by omega) (by omega)).mpr c1
    refine T_ite (fun c15 => ?_) (fun c15 => ?_)
    · skip
      exact tB_X9_whyOf_100 (n70 := n) (k70 := rec) (hk70 := hrec) S hS _ qp1 ep1 (by omega) _ qp3 ep3 (by omega) (by omega)
    · skip
      refine T_bind (tF_X9_isAs S hS _ qp1 ep1 (by omega) _ qp3 ep3 (by omega) _ (qp3 + 2) (e_add ep3 k2) (by omega)) (fun v37 rv37 => ?_)
      refine T_ite (fun c16 => ?_) (fun c16 => ?_)
      · skip
        exact tB_X9_whyOf_100 (n70 := n) (k70 := rec) (hk70 := hrec) S hS _ qp1 ep1 (by omega) _ qp3 ep3 (by omega) (by omega)
      · skip
        exact tB_X9_whyOf_101 (n70 := n) (k70 := rec) (hk70 := hrec) S hS _ qp1 ep1 (by omega) _ qp3 ep3 (by omega) _ (by omega)
theorem tL_X9_whyOf_70 {m : Nat} {G : Nat → Nat} {Λ : sLay} {Y : gY} (S : sSt) (hS : MI m G Λ Y S) : ∀ (n : Nat) (p1 : Int32) (qp1 : Nat) (ep1 : p1 = nI qp1) (bp1 : qp1 ≤ 15) (p2 : Int32) (p3 : Int32) (qp3 : Nat) (ep3 : p3 = nI qp3) (bp3 : qp3 ≤ 700) (_ : 701 ≤ qp3 + n), T (L_X9_whyOf_70 Λ.2.2 S n m p1 p2 p3) (fun r : Int32 => True) := by
  intro n
  induction n with
  | zero =>
    intro p1 qp1 ep1 bp1 p2 p3 qp3 ep3 bp3 hm
    exfalso
    omega
  | succ n ih =>
    intro p1 qp1 ep1 bp1 p2 p3 qp3 ep3 bp3 hm
    exact tY_X9_whyOf_70 S hS (n := n) (rec := L_X9_whyOf_70 Λ.2.2 S n) (hrec := ih) (p1 := p1) (qp1 := qp1) (ep1 := ep1) (bp1 := bp1) (p2 := p2) (p3 := p3) (qp3 := qp3) (ep3 := ep3) (bp3 := bp3) (hm := hm)
set_option maxHeartbeats 1000000 in
theorem tY_X9_whyOf_13 {m : Nat} {G : Nat → Nat} {Λ : sLay} {Y : gY} (S : sSt) (hS : MI m G Λ Y S) {n : Nat} {rec : Nat → Int32 → Int32 → Option Int32} (hrec : ∀ (p1 : Int32) (qp1 : Nat) (ep1 : p1 = nI qp1) (bp1 : qp1 ≤ 15) (p2 : Int32) (qp2 : Nat) (ep2 : p2 = nI qp2) (bp2 : qp2 ≤ 4), (5 ≤ qp2 + n) → T (rec m p1 p2) (fun r : Int32 => True)) (p1 : Int32) (qp1 : Nat) (ep1 : p1 = nI qp1) (bp1 : qp1 ≤ 15) (p2 : Int32) (qp2 : Nat) (ep2 : p2 = nI qp2) (bp2 : qp2 ≤ 4) (hm : 5 ≤ qp2 + (n + 1)) : T (Y_X9_whyOf_13 Λ.2.2 S rec m p1 p2) (fun r : Int32 => True) := by
  unfold Y_X9_whyOf_13
  have hFU := FU_big
  refine T_ite (fun c1 => ?_) (fun c1 => ?_)
  · skip
    have d1 := (e_le k4 ep2 (by omega) (by omega)).mp c1
    refine T_m ((hS).c.rf (f := 389) (by decide)) ?_
    refine T_bsome ?_
    refine T_gi (g_in ((hS).c.l (f := 389) (kd := 10) (n := 6) (by decide)) k1 (by omega) (by omega)) ?_
    obtain ⟨j2, g2, e2⟩ := (hS).c.n (f := 389) (B := 690) (by decide) (Int32.toNatClampNeg (1 : Int32))
    refine T_bind (tF_X9_isAs S hS _ qp1 ep1 (by omega) _ 0 k0 (by omega) _ (j2 + 1) (e_add e2 k1) (by omega)) (fun v5 rv5 => ?_)
    refine T_m ((hS).c.rf (f := 389) (by decide)) ?_
    refine T_bsome ?_
    refine T_gi (g_in ((hS).c.l (f := 389) (kd := 10) (n := 6) (by decide)) k1 (by omega) (by omega)) ?_
    exact tL_X9_whyOf_70 S hS FU _ qp1 ep1 (by omega) _ _ (j2 + 1) (e_add e2 k1) (by omega) (by omega)
  · skip
    have d1 := mt (e_le k4 ep2 (by omega) (by omega)).mpr c1
    refine T_m ((hS).c.rf (f := 389) (by decide)) ?_
    refine T_bsome ?_
    refine T_gi (g_in ((hS).c.l (f := 389) (kd := 10) (n := 6) (by decide)) ep2 (by omega) (by omega)) ?_
    refine T_m ((hS).c.rf (f := 376) (by decide)) ?_
    refine T_bsome ?_
    refine T_gi (g_in ((hS).c.l (f := 376) (kd := 10) (n := 96) (by decide)) (e_add (e_mul k6 ep1) ep2) (by omega) (by omega)) ?_
    obtain ⟨j4, g4, e4⟩ := (hS).c.n (f := 389) (B := 690) (by decide) (Int32.toNatClampNeg p2)
    obtain ⟨j5, g5, e5⟩ := (hS).c.n (f := 376) (B := 690) (by decide) (Int32.toNatClampNeg (((6 : Int32) * p1) + p2))
    refine T_ite (fun c3 => ?_) (fun c3 => ?_)
    · skip
      have d3 := (e_eq e4 e5 (by omega) (by omega)).mp c3
      exact hrec _ qp1 ep1 (by omega) _ (qp2 + 1) (e_add ep2 k1) (by omega) (by omega)
    · skip
      have d3 := mt (e_eq e4 e5 (by omega) (by omega)).mpr c3
      exact T_some True.intro
theorem tL_X9_whyOf_13 {m : Nat} {G : Nat → Nat} {Λ : sLay} {Y : gY} (S : sSt) (hS : MI m G Λ Y S) : ∀ (n : Nat) (p1 : Int32) (qp1 : Nat) (ep1 : p1 = nI qp1) (bp1 : qp1 ≤ 15) (p2 : Int32) (qp2 : Nat) (ep2 : p2 = nI qp2) (bp2 : qp2 ≤ 4) (_ : 5 ≤ qp2 + n), T (L_X9_whyOf_13 Λ.2.2 S n m p1 p2) (fun r : Int32 => True) := by
  intro n
  induction n with
  | zero =>
    intro p1 qp1 ep1 bp1 p2 qp2 ep2 bp2 hm
    exfalso
    omega
  | succ n ih =>
    intro p1 qp1 ep1 bp1 p2 qp2 ep2 bp2 hm
    exact tY_X9_whyOf_13 S hS (n := n) (rec := L_X9_whyOf_13 Λ.2.2 S n) (hrec := ih) (p1 := p1) (qp1 := qp1) (ep1 := ep1) (bp1 := bp1) (p2 := p2) (qp2 := qp2) (ep2 := ep2) (bp2 := bp2) (hm := hm)
set_option maxHeartbeats 1000000 in
theorem tF_X9_whyOf {m : Nat} {G : Nat → Nat} {Λ : sLay} {Y : gY} (S : sSt) (hS : MI m G Λ Y S) (p1 : Int32) (qp1 : Nat) (ep1 : p1 = nI qp1) (bp1 : qp1 ≤ 15) : T (F_X9_whyOf Λ.2.2 S m p1) (fun r : Int32 => True) := by
  unfold F_X9_whyOf
  have hFU := FU_big
  refine T_m ((hS).c.rf (f := 377) (by decide)) ?_
  refine T_bsome ?_
  refine T_gi (g_in ((hS).c.l (f := 377) (kd := 10) (n := 16) (by decide)) ep1 (by omega) (by omega)) ?_
  refine T_ite (fun c1 => ?_) (fun c1 => ?_)
  · skip
    exact T_some True.intro
  · skip
    exact tL_X9_whyOf_13 S hS FU _ qp1 ep1 (by omega) _ 0 k0 (by omega) (by omega)
set_option maxHeartbeats 1000000 in
theorem tB_X9_coarse_157 {m : Nat} {G : Nat → Nat} {Λ : sLay} {Y : gY} {n70 : Nat} {k70 : sSt → Nat → Int32 → Int32 → Option (Int32 × sSt)} (hk70 : ∀ (S : sSt) (hS : MI m G Λ Y S) (p1 : Int32) (p2 : Int32) (qp2 : Nat) (ep2 : p2 = nI qp2) (bp2 : qp2 ≤ 16), (17 ≤ qp2 + n70) → T (k70 S m p1 p2) (fun r : Int32 × sSt => MI m G Λ Y r.2)) (S : sSt) (hS : MI m G Λ Y S) (p2 : Int32) (qp2 : Nat) (ep2 : p2 = nI qp2) (bp2 : qp2 ≤ 15) (s0 : Int32) (s1 : Int32) (f0 : 17 ≤ qp2 + n70 + 1) : T (B_X9_coarse_157 Λ.2.2 k70 S m p2 s0 s1) (fun r : Int32 × sSt => MI m G Λ Y r.2) := by
  unfold B_X9_coarse_157
  exact hk70 S hS _ _ (qp2 + 1) (e_add ep2 k1) (by omega) (by omega)
set_option maxHeartbeats 1000000 in
theorem tB_X9_coarse_140 {m : Nat} {G : Nat → Nat} {Λ : sLay} {Y : gY} {n70 : Nat} {k70 : sSt → Nat → Int32 → Int32 → Option (Int32 × sSt)} (hk70 : ∀ (S : sSt) (hS : MI m G Λ Y S) (p1 : Int32) (p2 : Int32) (qp2 : Nat) (ep2 : p2 = nI qp2) (bp2 : qp2 ≤ 16), (17 ≤ qp2 + n70) → T (k70 S m p1 p2) (fun r : Int32 × sSt => MI m G Λ Y r.2)) {n88 : Nat} {k88 : sSt → Nat → Int32 → Int32 → Int32 → Int32 → Option (Int32 × sSt)} (hk88 : ∀ (S : sSt) (hS : MI m G Λ Y S) (p1 : Int32) (p2 : Int32) (qp2 : Nat) (ep2 : p2 = nI qp2) (bp2 : qp2 ≤ 15) (p3 : Int32) (p4 : Int32) (qp4 : Nat) (ep4 : p4 = nI qp4) (bp4 : qp4 ≤ 16), (17 ≤ qp2 + n70 + 1) → (17 ≤ qp4 + n88) → T (k88 S m p1 p2 p3 p4) (fun r : Int32 × sSt => MI m G Λ Y r.2)) (S : sSt) (hS : MI m G Λ Y S) (p1 : Int32) (p2 : Int32) (qp2 : Nat) (ep2 : p2 = nI qp2) (bp2 : qp2 ≤ 15) (p4 : Int32) (qp4 : Nat) (ep4 : p4 = nI qp4) (bp4 : qp4 ≤ 15) (s0 : Int32) (f0 : 17 ≤ qp2 + n70 + 1) (f1 : 17 ≤ qp4 + n88 + 1) : T (B_X9_coarse_140 Λ.2.2 k70 k88 S m p1 p2 p4 s0) (fun r : Int32 × sSt => MI m G Λ Y r.2) := by
  unfold B_X9_coarse_140
  exact hk88 S hS _ _ qp2 ep2 (by omega) _ _ (qp4 + 1) (e_add ep4 k1) (by omega) (by omega) (by omega)
set_option maxHeartbeats 1000000 in
theorem tB_X9_coarse_135 {m : Nat} {G : Nat → Nat} {Λ : sLay} {Y : gY} {n70 : Nat} {k70 : sSt → Nat → Int32 → Int32 → Option (Int32 × sSt)} (hk70 : ∀ (S : sSt) (hS : MI m G Λ Y S) (p1 : Int32) (p2 : Int32) (qp2 : Nat) (ep2 : p2 = nI qp2) (bp2 : qp2 ≤ 16), (17 ≤ qp2 + n70) → T (k70 S m p1 p2) (fun r : Int32 × sSt => MI m G Λ Y r.2)) {n88 : Nat} {k88 : sSt → Nat → Int32 → Int32 → Int32 → Int32 → Option (Int32 × sSt)} (hk88 : ∀ (S : sSt) (hS : MI m G Λ Y S) (p1 : Int32) (p2 : Int32) (qp2 : Nat) (ep2 : p2 = nI qp2) (bp2 : qp2 ≤ 15) (p3 : Int32) (p4 : Int32) (qp4 : Nat) (ep4 : p4 = nI qp4) (bp4 : qp4 ≤ 16), (17 ≤ qp2 + n70 + 1) → (17 ≤ qp4 + n88) → T (k88 S m p1 p2 p3 p4) (fun r : Int32 × sSt => MI m G Λ Y r.2)) (S : sSt) (hS : MI m G Λ Y S) (p1 : Int32) (p2 : Int32) (qp2 : Nat) (ep2 : p2 = nI qp2) (bp2 : qp2 ≤ 15) (p4 : Int32) (qp4 : Nat) (ep4 : p4 = nI qp4) (bp4 : qp4 ≤ 15) (f0 : 17 ≤ qp2 + n70 + 1) (f1 : 17 ≤ qp4 + n88 + 1) : T (B_X9_coarse_135 Λ.2.2 k70 k88 S m p1 p2 p4) (fun r : Int32 × sSt => MI m G Λ Y r.2) := by
  unfold B_X9_coarse_135
  exact tB_X9_coarse_140 (n70 := n70) (k70 := k70) (hk70 := hk70) (n88 := n88) (k88 := k88) (hk88 := hk88) S hS _ _ qp2 ep2 (by omega) _ qp4 ep4 (by omega) _ (by omega) (by omega)
set_option maxHeartbeats 1000000 in
theorem tB_X9_coarse_139 {m : Nat} {G : Nat → Nat} {Λ : sLay} {Y : gY} {n70 : Nat} {k70 : sSt → Nat → Int32 → Int32 → Option (Int32 × sSt)} (hk70 : ∀ (S : sSt) (hS : MI m G Λ Y S) (p1 : Int32) (p2 : Int32) (qp2 : Nat) (ep2 : p2 = nI qp2) (bp2 : qp2 ≤ 16), (17 ≤ qp2 + n70) → T (k70 S m p1 p2) (fun r : Int32 × sSt => MI m G Λ Y r.2)) {n88 : Nat} {k88 : sSt → Nat → Int32 → Int32 → Int32 → Int32 → Option (Int32 × sSt)} (hk88 : ∀ (S : sSt) (hS : MI m G Λ Y S) (p1 : Int32) (p2 : Int32) (qp2 : Nat) (ep2 : p2 = nI qp2) (bp2 : qp2 ≤ 15) (p3 : Int32) (p4 : Int32) (qp4 : Nat) (ep4 : p4 = nI qp4) (bp4 : qp4 ≤ 16), (17 ≤ qp2 + n70 + 1) → (17 ≤ qp4 + n88) → T (k88 S m p1 p2 p3 p4) (fun r : Int32 × sSt => MI m G Λ Y r.2)) (S : sSt) (hS : MI m G Λ Y S) (p1 : Int32) (p2 : Int32) (qp2 : Nat) (ep2 : p2 = nI qp2) (bp2 : qp2 ≤ 15) (p4 : Int32) (qp4 : Nat) (ep4 : p4 = nI qp4) (bp4 : qp4 ≤ 15) (f0 : 17 ≤ qp2 + n70 + 1) (f1 : 17 ≤ qp4 + n88 + 1) : T (B_X9_coarse_139 Λ.2.2 k70 k88 S m p1 p2 p4) (fun r : Int32 × sSt => MI m G Λ Y r.2) := by
  unfold B_X9_coarse_139
  exact tB_X9_coarse_140 (n70 := n70) (k70 := k70) (hk70 := hk70) (n88 := n88) (k88 := k88) (hk88 := hk88) S hS _ _ qp2 ep2 (by omega) _ qp4 ep4 (by omega) _ (by omega) (by omega)
set_option maxHeartbeats 1000000 in
theorem tY_X9_coarse_88 {m : Nat} {G : Nat → Nat} {Λ : sLay} {Y : gY} {n70 : Nat} {k70 : sSt → Nat → Int32 → Int32 → Option (Int32 × sSt)} (hk70 : ∀ (S : sSt) (hS : MI m G Λ Y S) (p1 : Int32) (p2 : Int32) (qp2 : Nat) (ep2 : p2 = nI qp2) (bp2 : qp2 ≤ 16), (17 ≤ qp2 + n70) → T (k70 S m p1 p2) (fun r : Int32 × sSt => MI m G Λ Y r.2)) {n : Nat} {rec : sSt → Nat → Int32 → Int32 → Int32 → Int32 → Option (Int32 × sSt)} (hrec : ∀ (S : sSt) (hS : MI m G Λ Y S) (p1 : Int32) (p2 : Int32) (qp2 : Nat) (ep2 : p2 = nI qp2) (bp2 : qp2 ≤ 15) (p3 : Int32) (p4 : Int32) (qp4 : Nat) (ep4 : p4 = nI qp4) (bp4 : qp4 ≤ 16), (17 ≤ qp2 + n70 + 1) → (17 ≤ qp4 + n) → T (rec S m p1 p2 p3 p4) (fun r : Int32 × sSt => MI m G Λ Y r.2)) (S : sSt) (hS : MI m G Λ Y S) (p1 : Int32) (p2 : Int32) (qp2 : Nat) (ep2 : p2 = nI qp2) (bp2 : qp2 ≤ 15) (p3 : Int32) (p4 : Int32) (qp4 : Nat) (ep4 : p4 = nI qp4) (bp4 : qp4 ≤ 16) (f0 : 17 ≤ qp2 + n70 + 1) (hm : 17 ≤ qp4 + (n + 1)) : T (Y_X9_coarse_88 Λ.2.2 k70 rec S m p1 p2 p3 p4) (fun r : Int32 × sSt => MI m G Λ Y r.2) := by
  unfold Y_X9_coarse_88
  obtain ⟨j2, g2, e2⟩ := (hS).c.f (f := 361) (B := 16) (by decide)
  refine T_ite (fun c1 => ?_) (fun c1 => ?_)
  · skip
    have d1 := (e_le e2 ep4 (by omega) (by omega)).mp c1
    refine T_ite (fun c3 => ?_) (fun c3 => ?_)
    · skip
      exact tB_X9_coarse_157 (n70 := n70) (k70 := k70) (hk70 := hk70) S hS _ qp2 ep2 (by omega) _ _ (by omega)
    · skip
      exact tB_X9_coarse_157 (n70 := n70) (k70 := k70) (hk70 := hk70) S hS _ qp2 ep2 (by omega) _ _ (by omega)
  · skip
    have d1 := mt (e_le e2 ep4 (by omega) (by omega)).mpr c1
    refine T_ite (fun c4 => ?_) (fun c4 => ?_)
    · skip
      refine T_m ((hS).c.rf (f := 362) (by decide)) ?_
      refine T_bsome ?_
      refine T_gi (g_in ((hS).c.l (f := 362) (kd := 12) (n := 16) (by decide)) ep2 (by omega) (by omega)) ?_
      refine T_ite (fun c5 => ?_) (fun c5 => ?_)
      · skip
        exact tB_X9_coarse_139 (n70 := n70) (k70 := k70) (hk70 := hk70) (n88 := n) (k88 := rec) (hk88 := hrec) S hS _ _ qp2 ep2 (by omega) _ qp4 ep4 (by omega) (by omega) (by omega)
      · skip
        refine T_m ((hS).c.rf (f := 395) (by decide)) ?_
        refine T_bsome ?_
        refine T_gi (g_in ((hS).c.l (f := 395) (kd := 12) (n := 16) (by decide)) ep4 (by omega) (by omega)) ?_
        refine T_ite (fun c6 => ?_) (fun c6 => ?_)
        · skip
          exact tB_X9_coarse_139 (n70 := n70) (k70 := k70) (hk70 := hk70) (n88 := n) (k88 := rec) (hk88 := hrec) S hS _ _ qp2 ep2 (by omega) _ qp4 ep4 (by omega) (by omega) (by omega)
        · skip
          refine T_m ((hS).c.rf (f := 390) (by decide)) ?_
          refine T_bsome ?_
          refine T_gi (g_in ((hS).c.l (f := 390) (kd := 12) (n := 256) (by decide)) (e_add (e_mul k16 ep2) ep4) (by omega) (by omega)) ?_
          refine T_ite (fun c7 => ?_) (fun c7 => ?_)
          · skip
            exact tB_X9_coarse_139 (n70 := n70) (k70 := k70) (hk70 := hk70) (n88 := n) (k88 := rec) (hk88 := hrec) S hS _ _ qp2 ep2 (by omega) _ qp4 ep4 (by omega) (by omega) (by omega)
          · skip
            exact tB_X9_coarse_135 (n70 := n70) (k70 := k70) (hk70 := hk70) (n88 := n) (k88 := rec) (hk88 := hrec) S hS _ _ qp2 ep2 (by omega) _ qp4 ep4 (by omega) (by omega) (by omega)
    · skip
      exact tB_X9_coarse_135 (n70 := n70) (k70 := k70) (hk70 := hk70) (n88 := n) (k88 := rec) (hk88 := hrec) S hS _ _ qp2 ep2 (by omega) _ qp4 ep4 (by omega) (by omega) (by omega)
theorem tL_X9_coarse_88 {m : Nat} {G : Nat → Nat} {Λ : sLay} {Y : gY} {n70 : Nat} {k70 : sSt → Nat → Int32 → Int32 → Option (Int32 × sSt)} (hk70 : ∀ (S : sSt) (hS : MI m G Λ Y S) (p1 : Int32) (p2 : Int32) (qp2 : Nat) (ep2 : p2 = nI qp2) (bp2 : qp2 ≤ 16), (17 ≤ qp2 + n70) → T (k70 S m p1 p2) (fun r : Int32 × sSt => MI m G Λ Y r.2)) : ∀ (n : Nat) (S : sSt) (hS : MI m G Λ Y S) (p1 : Int32) (p2 : Int32) (qp2 : Nat) (ep2 : p2 = nI qp2) (bp2 : qp2 ≤ 15) (p3 : Int32) (p4 : Int32) (qp4 : Nat) (ep4 : p4 = nI qp4) (bp4 : qp4 ≤ 16) (_ : 17 ≤ qp2 + n70 + 1) (_ : 17 ≤ qp4 + n), T (L_X9_coarse_88 Λ.2.2 k70 n S m p1 p2 p3 p4) (fun r : Int32 × sSt => MI m G Λ Y r.2) := by
  intro n
  induction n with
  | zero =>
    intro S hS p1 p2 qp2 ep2 bp2 p3 p4 qp4 ep4 bp4 f0 hm
    exfalso
    omega
  | succ n ih =>
    intro S hS p1 p2 qp2 ep2 bp2 p3 p4 qp4 ep4 bp4 f0 hm
    exact tY_X9_coarse_88 (n := n) (rec := L_X9_coarse_88 Λ.2.2 k70 n) (hrec := ih) (n70 := n70) (k70 := k70) (hk70 := hk70) (S := S) (hS := hS) (p1 := p1) (p2 := p2) (qp2 := qp2) (ep2 := ep2) (bp2 := bp2) (p3 := p3) (p4 := p4) (qp4 := qp4) (ep4 := ep4) (bp4 := bp4) (f0 := f0) (hm := hm)
set_option maxHeartbeats 1000000 in
theorem tY_X9_coarse_70 {m : Nat} {G : Nat → Nat} {Λ : sLay} {Y : gY} {n : Nat} {rec : sSt → Nat → Int32 → Int32 → Option (Int32 × sSt)} (hrec : ∀ (S : sSt) (hS : MI m G Λ Y S) (p1 : Int32) (p2 : Int32) (qp2 : Nat) (ep2 : p2 = nI qp2) (bp2 : qp2 ≤ 16), (17 ≤ qp2 + n) → T (rec S m p1 p2) (fun r : Int32 × sSt => MI m G Λ Y r.2)) (S : sSt) (hS : MI m G Λ Y S) (p1 : Int32) (p2 : Int32) (qp2 : Nat) (ep2 : p2 = nI qp2) (bp2 : qp2 ≤ 16) (hm : 17 ≤ qp2 + (n + 1)) : T (Y_X9_coarse_70 Λ.2.2 rec S m p1 p2) (fun r : Int32 × sSt => MI m G Λ Y r.2) := by
  unfold Y_X9_coarse_70
  have hFU := FU_big
  obtain ⟨j2, g2, e2⟩ := (hS).c.f (f := 361) (B := 16) (by decide)
  refine T_ite (fun c1 => ?_) (fun c1 => ?_)
  · skip
    have d1 := (e_le e2 ep2 (by omega) (by omega)).mp c1
    exact T_some hS
  · skip
    have d1 := mt (e_le e2 ep2 (by omega) (by omega)).mpr c1
    refine T_m ((hS).c.rf (f := 395) (by decide)) ?_
    refine T_bsome ?_
    refine T_gi (g_in ((hS).c.l (f := 395) (kd := 12) (n := 16) (by decide)) ep2 (by omega) (by omega)) ?_
    exact tL_X9_coarse_88 (n70 := n) (k70 := rec) (hk70 := hrec) FU S hS _ _ qp2 ep2 (by omega) _ _ 0 k0 (by omega) (by omega) (by omega)
theorem tL_X9_coarse_70 {m : Nat} {G : Nat → Nat} {Λ : sLay} {Y : gY} : ∀ (n : Nat) (S : sSt) (hS : MI m G Λ Y S) (p1 : Int32) (p2 : Int32) (qp2 : Nat) (ep2 : p2 = nI qp2) (bp2 : qp2 ≤ 16) (_ : 17 ≤ qp2 + n), T (L_X9_coarse_70 Λ.2.2 n S m p1 p2) (fun r : Int32 × sSt => MI m G Λ Y r.2) := by
  intro n
  induction n with
  | zero =>
    intro S hS p1 p2 qp2 ep2 bp2 hm
    exfalso
    omega
  | succ n ih =>
    intro S hS p1 p2 qp2 ep2 bp2 hm
    exact tY_X9_coarse_70 (n := n) (rec := L_X9_coarse_70 Λ.2.2 n) (hrec := ih) (S := S) (hS := hS) (p1 := p1) (p2 := p2) (qp2 := qp2) (ep2 := ep2) (bp2 := bp2) (hm := hm)
set_option maxHeartbeats 1000000 in
theorem tB_X9_coarse_60 {m : Nat} {G : Nat → Nat} {Λ : sLay} {Y : gY} {n15 : Nat} {k15 : sSt → Nat → Int32 → Option (Int32 × sSt)} (hk15 : ∀ (S : sSt) (hS : MI m G Λ Y S) (p1 : Int32) (qp1 : Nat) (ep1 : p1 = nI qp1) (bp1 : qp1 ≤ 16), (17 ≤ qp1 + n15) → T (k15 S m p1) (fun r : Int32 × sSt => MI m G Λ Y r.2)) (S : sSt) (hS : MI m G Λ Y S) (p1 : Int32) (qp1 : Nat) (ep1 : p1 = nI qp1) (bp1 : qp1 ≤ 15) (f0 : 17 ≤ qp1 + n15 + 1) : T (B_X9_coarse_60 Λ.2.2 k15 S m p1) (fun r : Int32 × sSt => MI m G Λ Y r.2) := by
  unfold B_X9_coarse_60
  exact hk15 S hS _ (qp1 + 1) (e_add ep1 k1) (by omega) (by omega)
set_option maxHeartbeats 1000000 in
theorem tY_X9_coarse_15 {m : Nat} {G : Nat → Nat} {Λ : sLay} {Y : gY} (w387 : Y.2.2 387 = false) (w388 : Y.2.2 388 = false) (w389 : Y.2.2 389 = false) (w395 : Y.2.2 395 = false) {n : Nat} {rec : sSt → Nat → Int32 → Option (Int32 × sSt)} (hrec : ∀ (S : sSt) (hS : MI m G Λ Y S) (p1 : Int32) (qp1 : Nat) (ep1 : p1 = nI qp1) (bp1 : qp1 ≤ 16), (17 ≤ qp1 + n) → T (rec S m p1) (fun r : Int32 × sSt => MI m G Λ Y r.2)) (S : sSt) (hS : MI m G Λ Y S) (p1 : Int32) (qp1 : Nat) (ep1 : p1 = nI qp1) (bp1 : qp1 ≤ 16) (hm : 17 ≤ qp1 + (n + 1)) : T (Y_X9_coarse_15 Λ.2.2 rec S m p1) (fun r : Int32 × sSt => MI m G Λ Y r.2) := by
  unfold Y_X9_coarse_15
  have hFU := FU_big
  obtain ⟨j2, g2, e2⟩ := (hS).c.f (f := 361) (B := 16) (by decide)
  refine T_ite (fun c1 => ?_) (fun c1 => ?_)
  · skip
    have d1 := (e_le e2 ep1 (by omega) (by omega)).mp c1
    exact tL_X9_coarse_70 FU S hS _ _ 0 k0 (by omega) (by omega)
  · skip
    have d1 := mt (e_le e2 ep1 (by omega) (by omega)).mpr c1
    refine T_m ((hS).c.rf (f := 395) (by decide)) ?_
    refine T_bsome ?_
    refine T_gi (g_in ((hS).c.l (f := 395) (kd := 12) (n := 16) (by decide)) ep1 (by omega) (by omega)) ?_
    refine T_st (fun S16 eS16 => ?_)
    have hS16 : MI m G Λ Y S16 := by rw [eS16]; exact (hS).wI (f := 395) (by decide) w395 (rg0 (P := fun B => nB B _) (by decide)) (rg0 (P := fun B => oB B _) (by decide))
    refine T_m ((hS16).c.rf (f := 362) (by decide)) ?_
    refine T_bsome ?_
    refine T_gi (g_in ((hS).c.l (f := 362) (kd := 12) (n := 16) (by decide)) ep1 (by omega) (by omega)) ?_
    refine T_ite (fun c3 => ?_) (fun c3 => ?_)
    · skip
      exact tB_X9_coarse_60 (n15 := n) (k15 := rec) (hk15 := hrec) S16 hS16 _ qp1 ep1 (by omega) (by omega)
    · skip
      refine T_bind (tF_X9_layRow (w387 := w387) (w388 := w388) (w389 := w389) S16 hS16 _ qp1 ep1 (by omega)) (fun S20 rS20 => ?_)
      obtain ⟨rS20, kS20, uS20, lS20⟩ := rS20
      have hS20 := rS20
      refine T_m ((hS20).c.rf (f := 395) (by decide)) ?_
      refine T_bind (tF_X9_whyOf S20 hS20 _ qp1 ep1 (by omega)) (fun v22 rv22 => ?_)
      refine T_bind (tF_X9_in S20 hS20 _ _ _) (fun v24 rv24 => ?_)
      refine T_bsome ?_
      refine T_gi (g_in ((hS).c.l (f := 395) (kd := 12) (n := 16) (by decide)) ep1 (by omega) (by omega)) ?_
      refine T_st (fun S27 eS27 => ?_)
      have hS27 : MI m G Λ Y S27 := by rw [eS27]; exact (hS20).wI (f := 395) (by decide) w395 (rg0 (P := fun B => nB B _) (by decide)) (rg0 (P := fun B => oB B _) (by decide))
      have lS27 : gFI S27 388 m = nI kS20 := by rw [eS27]; exact lS20
      exact tB_X9_coarse_60 (n15 := n) (k15 := rec) (hk15 := hrec) S27 hS27 _ qp1 ep1 (by omega) (by omega)
theorem tL_X9_coarse_15 {m : Nat} {G : Nat → Nat} {Λ : sLay} {Y : gY} (w387 : Y.2.2 387 = false) (w388 : Y.2.2 388 = false) (w389 : Y.2.2 389 = false) (w395 : Y.2.2 395 = false) : ∀ (n : Nat) (S : sSt) (hS : MI m G Λ Y S) (p1 : Int32) (qp1 : Nat) (ep1 : p1 = nI qp1) (bp1 : qp1 ≤ 16) (_ : 17 ≤ qp1 + n), T (L_X9_coarse_15 Λ.2.2 n S m p1) (fun r : Int32 × sSt => MI m G Λ Y r.2) := by
  intro n
  induction n with
  | zero =>
    intro S hS p1 qp1 ep1 bp1 hm
    exfalso
    omega
  | succ n ih =>
    intro S hS p1 qp1 ep1 bp1 hm
    exact tY_X9_coarse_15 (w387 := w387) (w388 := w388) (w389 := w389) (w395 := w395) (n := n) (rec := L_X9_coarse_15 Λ.2.2 n) (hrec := ih) (S := S) (hS := hS) (p1 := p1) (qp1 := qp1) (ep1 := ep1) (bp1 := bp1) (hm := hm)
set_option maxHeartbeats 1000000 in
theorem tF_X9_coarse {m : Nat} {G : Nat → Nat} {Λ : sLay} {Y : gY} (w360 : Y.2.2 360 = false) (w379 : Y.2.2 379 = false) (w380 : Y.2.2 380 = false) (w381 : Y.2.2 381 = false) (w387 : Y.2.2 387 = false) (w388 : Y.2.2 388 = false) (w389 : Y.2.2 389 = false) (w390 : Y.2.2 390 = false) (w395 : Y.2.2 395 = false) (S : sSt) (hS : MI m G Λ Y S) : T (F_X9_coarse Λ.2.2 S m) (fun r : Int32 × sSt => MI m G Λ Y r.2) := by
  unfold F_X9_coarse
  have hFU := FU_big
  refine T_st (fun S1 eS1 => ?_)
  have hS1 : MI m G Λ Y S1 := by rw [eS1]; exact (hS).wF (f := 360) w360 (rg0 (P := fun B => nB B _) (by decide))
  refine T_bind (tF_X9_findLeads (w390 := w390) S1 hS1 ) (fun S3 rS3 => ?_)
  obtain ⟨rS3, trS3⟩ := rS3
  have hS3 := rS3
  refine T_bind (tF_X9_reckon (w379 := w379) (w380 := w380) (w381 := w381) S3 hS3 ) (fun S5 rS5 => ?_)
  have hS5 := rS5
  exact tL_X9_coarse_15 (w387 := w387) (w388 := w388) (w389 := w389) (w395 := w395) FU S5 hS5 _ 0 k0 (by omega) (by omega)
set_option maxHeartbeats 1000000 in
theorem tB_X9_count_98 {m : Nat} {G : Nat → Nat} {Λ : sLay} {Y : gY} {n13 : Nat} {k13 : sSt → Nat → Int32 → Int32 → Int32 → Option (Int32 × sSt)} (hk13 : ∀ (S : sSt) (hS : MI m G Λ Y S) (p1 : Int32) (p2 : Int32) (p3 : Int32) (qp3 : Nat) (ep3 : p3 = nI qp3) (bp3 : qp3 ≤ 16), (1 ≤ qp3) → (17 ≤ qp3 + n13) → T (k13 S m p1 p2 p3) (fun r : Int32 × sSt => MI m G Λ Y r.2)) (S : sSt) (hS : MI m G Λ Y S) (p1 : Int32) (p3 : Int32) (qp3 : Nat) (ep3 : p3 = nI qp3) (bp3 : qp3 ≤ 15) (s0 : Int32) (s1 : Int32) (f0 : 1 ≤ qp3) (f1 : 17 ≤ qp3 + n13 + 1) : T (B_X9_count_98 Λ.2.2 k13 S m p1 p3 s0 s1) (fun r : Int32 × sSt => MI m G Λ Y r.2) := by
  unfold B_X9_count_98
  exact hk13 S hS _ _ _ (qp3 + 1) (e_add ep3 k1) (by omega) (by omega) (by omega)
set_option maxHeartbeats 1000000 in
theorem tB_X9_count_97 {m : Nat} {G : Nat → Nat} {Λ : sLay} {Y : gY} {n13 : Nat} {k13 : sSt → Nat → Int32 → Int32 → Int32 → Option (Int32 × sSt)} (hk13 : ∀ (S : sSt) (hS : MI m G Λ Y S) (p1 : Int32) (p2 : Int32) (p3 : Int32) (qp3 : Nat) (ep3 : p3 = nI qp3) (bp3 : qp3 ≤ 16), (1 ≤ qp3) → (17 ≤ qp3 + n13) → T (k13 S m p1 p2 p3) (fun r : Int32 × sSt => MI m G Λ Y r.2)) (S : sSt) (hS : MI m G Λ Y S) (p1 : Int32) (p3 : Int32) (qp3 : Nat) (ep3 : p3 = nI qp3) (bp3 : qp3 ≤ 15) (s0 : Int32) (f0 : 1 ≤ qp3) (f1 : 17 ≤ qp3 + n13 + 1) : T (B_X9_count_97 Λ.2.2 k13 S m p1 p3 s0) (fun r : Int32 × sSt => MI m G Λ Y r.2) := by
  unfold B_X9_count_97
  exact tB_X9_count_98 (n13 := n13) (k13 := k13) (hk13 := hk13) S hS _ _ qp3 ep3 (by omega) _ _ (by omega) (by omega)
set_option maxHeartbeats 1000000 in
theorem tB_X9_count_58 {m : Nat} {G : Nat → Nat} {Λ : sLay} {Y : gY} {n13 : Nat} {k13 : sSt → Nat → Int32 → Int32 → Int32 → Option (Int32 × sSt)} (hk13 : ∀ (S : sSt) (hS : MI m G Λ Y S) (p1 : Int32) (p2 : Int32) (p3 : Int32) (qp3 : Nat) (ep3 : p3 = nI qp3) (bp3 : qp3 ≤ 16), (1 ≤ qp3) → (17 ≤ qp3 + n13) → T (k13 S m p1 p2 p3) (fun r : Int32 × sSt => MI m G Λ Y r.2)) (S : sSt) (hS : MI m G Λ Y S) (p1 : Int32) (p2 : Int32) (p3 : Int32) (qp3 : Nat) (ep3 : p3 = nI qp3) (bp3 : qp3 ≤ 15) (s0 : Int32) (f0 : 1 ≤ qp3) (f1 : 17 ≤ qp3 + n13 + 1) : T (B_X9_count_58 Λ.2.2 k13 S m p1 p2 p3 s0) (fun r : Int32 × sSt => MI m G Λ Y r.2) := by
  unfold B_X9_count_58
  refine T_m ((hS).c.rf (f := 391) (by decide)) ?_
  refine T_m ((hS).c.rf (f := 392) (by decide)) ?_
  refine T_bsome ?_
  refine T_gi (g_in ((hS).c.l (f := 392) (kd := 10) (n := 16) (by decide)) ep3 (by omega) (by omega)) ?_
  refine T_bsome ?_
  obtain ⟨j1, g1, e1⟩ := (hS).c.n (f := 392) (B := 15) (by decide) (Int32.toNatClampNeg p3)
  refine T_gi (g_in ((hS).c.l (f := 391) (kd := 10) (n := 16) (by decide)) e1 (by omega) (by omega)) ?_
  refine T_m ((hS).c.rf (f := 391) (by decide)) ?_
  refine T_m ((hS).c.rf (f := 392) (by decide)) ?_
  refine T_bsome ?_
  refine T_gi (g_in ((hS).c.l (f := 392) (kd := 10) (n := 16) (by decide)) (e_sub ep3 k1 (by omega)) (by omega) (by omega)) ?_
  refine T_bsome ?_
  obtain ⟨j2, g2, e2⟩ := (hS).c.n (f := 392) (B := 15) (by decide) (Int32.toNatClampNeg (p3 - (1 : Int32)))
  refine T_gi (g_in ((hS).c.l (f := 391) (kd := 10) (n := 16) (by decide)) e2 (by omega) (by omega)) ?_
  refine T_ite (fun c3 => ?_) (fun c3 => ?_)
  · skip
    refine T_ite (fun c4 => ?_) (fun c4 => ?_)
    · skip
      exact tB_X9_count_97 (n13 := n13) (k13 := k13) (hk13 := hk13) S hS _ _ qp3 ep3 (by omega) _ (by omega) (by omega)
    · skip
      exact tB_X9_count_98 (n13 := n13) (k13 := k13) (hk13 := hk13) S hS _ _ qp3 ep3 (by omega) _ _ (by omega) (by omega)
  · skip
    exact tB_X9_count_97 (n13 := n13) (k13 := k13) (hk13 := hk13) S hS _ _ qp3 ep3 (by omega) _ (by omega) (by omega)
set_option maxHeartbeats 1000000 in
theorem tB_X9_count_53 {m : Nat} {G : Nat → Nat} {Λ : sLay} {Y : gY} {n13 : Nat} {k13 : sSt → Nat → Int32 → Int32 → Int32 → Option (Int32 × sSt)} (hk13 : ∀ (S : sSt) (hS : MI m G Λ Y S) (p1 : Int32) (p2 : Int32) (p3 : Int32) (qp3 : Nat) (ep3 : p3 = nI qp3) (bp3 : qp3 ≤ 16), (1 ≤ qp3) → (17 ≤ qp3 + n13) → T (k13 S m p1 p2 p3) (fun r : Int32 × sSt => MI m G Λ Y r.2)) (S : sSt) (hS : MI m G Λ Y S) (p1 : Int32) (p2 : Int32) (p3 : Int32) (qp3 : Nat) (ep3 : p3 = nI qp3) (bp3 : qp3 ≤ 15) (f0 : 1 ≤ qp3) (f1 : 17 ≤ qp3 + n13 + 1) : T (B_X9_count_53 Λ.2.2 k13 S m p1 p2 p3) (fun r : Int32 × sSt => MI m G Λ Y r.2) := by
  unfold B_X9_count_53
  exact tB_X9_count_58 (n13 := n13) (k13 := k13) (hk13 := hk13) S hS _ _ _ qp3 ep3 (by omega) _ (by omega) (by omega)
set_option maxHeartbeats 1000000 in
theorem tY_X9_count_13 {m : Nat} {G : Nat → Nat} {Λ : sLay} {Y : gY} {n : Nat} {rec : sSt → Nat → Int32 → Int32 → Int32 → Option (Int32 × sSt)} (hrec : ∀ (S : sSt) (hS : MI m G Λ Y S) (p1 : Int32) (p2 : Int32) (p3 : Int32) (qp3 : Nat) (ep3 : p3 = nI qp3) (bp3 : qp3 ≤ 16), (1 ≤ qp3) → (17 ≤ qp3 + n) → T (rec S m p1 p2 p3) (fun r : Int32 × sSt => MI m G Λ Y r.2)) (S : sSt) (hS : MI m G Λ Y S) (p1 : Int32) (p2 : Int32) (p3 : Int32) (qp3 : Nat) (ep3 : p3 = nI qp3) (bp3 : qp3 ≤ 16) (f0 : 1 ≤ qp3) (hm : 17 ≤ qp3 + (n + 1)) : T (Y_X9_count_13 Λ.2.2 rec S m p1 p2 p3) (fun r : Int32 × sSt => MI m G Λ Y r.2) := by
  unfold Y_X9_count_13
  obtain ⟨j2, g2, e2⟩ := (hS).c.f (f := 393) (B := 16) (by decide)
  refine T_ite (fun c1 => ?_) (fun c1 => ?_)
  · skip
    have d1 := (e_le e2 ep3 (by omega) (by omega)).mp c1
    refine T_ite (fun c3 => ?_) (fun c3 => ?_)
    · skip
      exact T_some hS
    · skip
      refine T_ite (fun c4 => ?_) (fun c4 => ?_)
      · skip
        exact T_some hS
      · skip
        refine T_ite (fun c5 => ?_) (fun c5 => ?_)
        · skip
          exact T_some hS
        · skip
          refine T_ite (fun c6 => ?_) (fun c6 => ?_)
          · skip
            exact T_some hS
          · skip
            refine T_ite (fun c7 => ?_) (fun c7 => ?_)
            · skip
              exact T_some hS
            · skip
              exact T_some hS
  · skip
    have d1 := mt (e_le e2 ep3 (by omega) (by omega)).mpr c1
    refine T_ite (fun c8 => ?_) (fun c8 => ?_)
    · skip
      have d8 := (e_eq ep3 k1 (by omega) (by omega)).mp c8
      exact tB_X9_count_53 (n13 := n) (k13 := rec) (hk13 := hrec) S hS _ _ _ qp3 ep3 (by omega) (by omega) (by omega)
    · skip
      have d8 := mt (e_eq ep3 k1 (by omega) (by omega)).mpr c8
      refine T_m ((hS).c.rf (f := 391) (by decide)) ?_
      refine T_m ((hS).c.rf (f := 392) (by decide)) ?_
      refine T_bsome ?_
      refine T_gi (g_in ((hS).c.l (f := 392) (kd := 10) (n := 16) (by decide)) (e_sub ep3 k2 (by omega)) (by omega) (by omega)) ?_
      refine T_bsome ?_
      obtain ⟨j9, g9, e9⟩ := (hS).c.n (f := 392) (B := 15) (by decide) (Int32.toNatClampNeg (p3 - (2 : Int32)))
      refine T_gi (g_in ((hS).c.l (f := 391) (kd := 10) (n := 16) (by decide)) e9 (by omega) (by omega)) ?_
      refine T_m ((hS).c.rf (f := 391) (by decide)) ?_
      refine T_m ((hS).c.rf (f := 392) (by decide)) ?_
      refine T_bsome ?_
      refine T_gi (g_in ((hS).c.l (f := 392) (kd := 10) (n := 16) (by decide)) ep3 (by omega) (by omega)) ?_
      refine T_bsome ?_
      obtain ⟨j10, g10, e10⟩ := (hS).c.n (f := 392) (B := 15) (by decide) (Int32.toNatClampNeg p3)
      refine T_gi (g_in ((hS).c.l (f := 391) (kd := 10) (n := 16) (by decide)) e10 (by omega) (by omega)) ?_
      refine T_ite (fun c11 => ?_) (fun c11 => ?_)
      · skip
        exact tB_X9_count_58 (n13 := n) (k13 := rec) (hk13 := hrec) S hS _ _ _ qp3 ep3 (by omega) _ (by omega) (by omega)
      · skip
        exact tB_X9_count_53 (n13 := n) (k13 := rec) (hk13 := hrec) S hS _ _ _ qp3 ep3 (by omega) (by omega) (by omega)
theorem tL_X9_count_13 {m : Nat} {G : Nat → Nat} {Λ : sLay} {Y : gY} : ∀ (n : Nat) (S : sSt) (hS : MI m G Λ Y S) (p1 : Int32) (p2 : Int32) (p3 : Int32) (qp3 : Nat) (ep3 : p3 = nI qp3) (bp3 : qp3 ≤ 16) (_ : 1 ≤ qp3) (_ : 17 ≤ qp3 + n), T (L_X9_count_13 Λ.2.2 n S m p1 p2 p3) (fun r : Int32 × sSt => MI m G Λ Y r.2) := by
  intro n
  induction n with
  | zero =>
    intro S hS p1 p2 p3 qp3 ep3 bp3 f0 hm
    exfalso
    omega
  | succ n ih =>
    intro S hS p1 p2 p3 qp3 ep3 bp3 f0 hm
    exact tY_X9_count_13 (n := n) (rec := L_X9_count_13 Λ.2.2 n) (hrec := ih) (S := S) (hS := hS) (p1 := p1) (p2 := p2) (p3 := p3) (qp3 := qp3) (ep3 := ep3) (bp3 := bp3) (f0 := f0) (hm := hm)
set_option maxHeartbeats 1000000 in
theorem tF_X9_count {m : Nat} {G : Nat → Nat} {Λ : sLay} {Y : gY} (w360 : Y.2.2 360 = false) (w390 : Y.2.2 390 = false) (w391 : Y.2.2 391 = false) (w392 : Y.2.2 392 = false) (w393 : Y.2.2 393 = false) (w394 : Y.2.2 394 = false) (S : sSt) (hS : MI m G Λ Y S) (p1 : Int32) : T (F_X9_count Λ.2.2 S m p1) (fun r : Int32 × sSt => MI m G Λ Y r.2) := by
  unfold F_X9_count
  have hFU := FU_big
  refine T_st (fun S1 eS1 => ?_)
  have hS1 : MI m G Λ Y S1 := by rw [eS1]; exact (hS).wF (f := 360) w360 (rg0 (P := fun B => nB B _) (by decide))
  refine T_bind (tF_X9_findOrder (w390 := w390) (w391 := w391) (w392 := w392) (w393 := w393) (w394 := w394) S1 hS1 ) (fun S3 rS3 => ?_)
  have hS3 := rS3
  exact tL_X9_count_13 FU S3 hS3 _ _ _ 1 k1 (by omega) (by omega) (by omega)
set_option maxHeartbeats 1000000 in
theorem tF_X9_rowOf {m : Nat} {G : Nat → Nat} {Λ : sLay} {Y : gY} (w379 : Y.2.2 379 = false) (w380 : Y.2.2 380 = false) (w381 : Y.2.2 381 = false) (w387 : Y.2.2 387 = false) (w388 : Y.2.2 388 = false) (w389 : Y.2.2 389 = false) (S : sSt) (hS : MI m G Λ Y S) (p1 : Int32) (qp1 : Nat) (ep1 : p1 = nI qp1) (bp1 : qp1 ≤ 15) : T (F_X9_rowOf Λ.2.2 S m p1) (fun r : sSt => MI m G Λ Y r) := by
  unfold F_X9_rowOf
  refine T_bind (tF_X9_reckon (w379 := w379) (w380 := w380) (w381 := w381) S hS ) (fun S2 rS2 => ?_)
  have hS2 := rS2
  refine T_bind (tF_X9_layRow (w387 := w387) (w388 := w388) (w389 := w389) S2 hS2 _ qp1 ep1 (by omega)) (fun S4 rS4 => ?_)
  obtain ⟨rS4, kS4, uS4, lS4⟩ := rS4
  have hS4 := rS4
  exact T_some hS4
set_option maxHeartbeats 1000000 in
theorem tY_X9_keep_36 {m : Nat} {G : Nat → Nat} {Λ : sLay} {Y : gY} (w376 : Y.2.2 376 = false) (w377 : Y.2.2 377 = false) (w378 : Y.2.2 378 = false) {n : Nat} {rec : sSt → Nat → Int32 → Int32 → Option sSt} (hrec : ∀ (S : sSt) (hS : MI m G Λ Y S) (p1 : Int32) (qp1 : Nat) (ep1 : p1 = nI qp1) (bp1 : qp1 ≤ 15) (p2 : Int32) (qp2 : Nat) (ep2 : p2 = nI qp2) (bp2 : qp2 ≤ 6), (7 ≤ qp2 + n) → T (rec S m p1 p2) (fun r : sSt => MI m G Λ Y r)) (S : sSt) (hS : MI m G Λ Y S) (p1 : Int32) (qp1 : Nat) (ep1 : p1 = nI qp1) (bp1 : qp1 ≤ 15) (p2 : Int32) (qp2 : Nat) (ep2 : p2 = nI qp2) (bp2 : qp2 ≤ 6) (hm : 7 ≤ qp2 + (n + 1)) : T (Y_X9_keep_36 Λ.2.2 rec S m p1 p2) (fun r : sSt => MI m G Λ Y r) := by
  unfold Y_X9_keep_36
  refine T_ite (fun c1 => ?_) (fun c1 => ?_)
  · skip
    have d1 := (e_le k6 ep2 (by omega) (by omega)).mp c1
    refine T_m ((hS).c.rf (f := 377) (by decide)) ?_
    refine T_bsome ?_
    refine T_gi (g_in ((hS).c.l (f := 377) (kd := 10) (n := 16) (by decide)) ep1 (by omega) (by omega)) ?_
    refine T_gi (g_in ((hS).c.l (f := 377) (kd := 10) (n := 16) (by decide)) ep1 (by omega) (by omega)) ?_
    refine T_st (fun S3 eS3 => ?_)
    have hS3 : MI m G Λ Y S3 := by rw [eS3]; exact (hS).wI (f := 377) (by decide) w377 (rg0 (P := fun B => nB B _) (by decide)) (rg0 (P := fun B => oB B _) (by decide))
    refine T_st (fun S4 eS4 => ?_)
    have hS4 : MI m G Λ Y S4 := by rw [eS4]; exact (hS3).wF (f := 378) w378 (rg0 (P := fun B => nB B _) (by decide))
    exact T_some hS4
  · skip
    have d1 := mt (e_le k6 ep2 (by omega) (by omega)).mpr c1
    refine T_m ((hS).c.rf (f := 376) (by decide)) ?_
    refine T_m ((hS).c.rf (f := 389) (by decide)) ?_
    refine T_bsome ?_
    refine T_gi (g_in ((hS).c.l (f := 389) (kd := 10) (n := 6) (by decide)) ep2 (by omega) (by omega)) ?_
    refine T_bsome ?_
    refine T_gi (g_in ((hS).c.l (f := 376) (kd := 10) (n := 96) (by decide)) (e_add (e_mul k6 ep1) ep2) (by omega) (by omega)) ?_
    obtain ⟨j2, g2, e2⟩ := (hS).c.n (f := 389) (B := 690) (by decide) (Int32.toNatClampNeg p2)
    refine T_st (fun S9 eS9 => ?_)
    have hS9 : MI m G Λ Y S9 := by rw [eS9]; exact (hS).wI (f := 376) (by decide) w376 (rg1 (B := 690) (by decide) ⟨j2, by omega, e2⟩) (rg0 (P := fun B => oB B _) (by decide))
    exact hrec S9 hS9 _ qp1 ep1 (by omega) _ (qp2 + 1) (e_add ep2 k1) (by omega) (by omega)
theorem tL_X9_keep_36 {m : Nat} {G : Nat → Nat} {Λ : sLay} {Y : gY} (w376 : Y.2.2 376 = false) (w377 : Y.2.2 377 = false) (w378 : Y.2.2 378 = false) : ∀ (n : Nat) (S : sSt) (hS : MI m G Λ Y S) (p1 : Int32) (qp1 : Nat) (ep1 : p1 = nI qp1) (bp1 : qp1 ≤ 15) (p2 : Int32) (qp2 : Nat) (ep2 : p2 = nI qp2) (bp2 : qp2 ≤ 6) (_ : 7 ≤ qp2 + n), T (L_X9_keep_36 Λ.2.2 n S m p1 p2) (fun r : sSt => MI m G Λ Y r) := by
  intro n
  induction n with
  | zero =>
    intro S hS p1 qp1 ep1 bp1 p2 qp2 ep2 bp2 hm
    exfalso
    omega
  | succ n ih =>
    intro S hS p1 qp1 ep1 bp1 p2 qp2 ep2 bp2 hm
    exact tY_X9_keep_36 (w376 := w376) (w377 := w377) (w378 := w378) (n := n) (rec := L_X9_keep_36 Λ.2.2 n) (hrec := ih) (S := S) (hS := hS) (p1 := p1) (qp1 := qp1) (ep1 := ep1) (bp1 := bp1) (p2 := p2) (qp2 := qp2) (ep2 := ep2) (bp2 := bp2) (hm := hm)
set_option maxHeartbeats 1000000 in
theorem tY_X9_keep_2 {m : Nat} {G : Nat → Nat} {Λ : sLay} {Y : gY} (w375 : Y.2.2 375 = false) (w376 : Y.2.2 376 = false) (w377 : Y.2.2 377 = false) (w378 : Y.2.2 378 = false) {n : Nat} {rec : sSt → Nat → Int32 → Int32 → Option sSt} (hrec : ∀ (S : sSt) (hS : MI m G Λ Y S) (p1 : Int32) (qp1 : Nat) (ep1 : p1 = nI qp1) (bp1 : qp1 ≤ 15) (p2 : Int32) (qp2 : Nat) (ep2 : p2 = nI qp2) (bp2 : qp2 ≤ 700), (701 ≤ qp2 + n) → T (rec S m p1 p2) (fun r : sSt => MI m G Λ Y r)) (S : sSt) (hS : MI m G Λ Y S) (p1 : Int32) (qp1 : Nat) (ep1 : p1 = nI qp1) (bp1 : qp1 ≤ 15) (p2 : Int32) (qp2 : Nat) (ep2 : p2 = nI qp2) (bp2 : qp2 ≤ 700) (hm : 701 ≤ qp2 + (n + 1)) : T (Y_X9_keep_2 Λ.2.2 rec S m p1 p2) (fun r : sSt => MI m G Λ Y r) := by
  unfold Y_X9_keep_2
  have hFU := FU_big
  obtain ⟨j2, g2, e2⟩ := (hS).c.f (f := 388) (B := 700) (by decide)
  refine T_ite (fun c1 => ?_) (fun c1 => ?_)
  · skip
    have d1 := (e_le e2 ep2 (by omega) (by omega)).mp c1
    exact tL_X9_keep_36 (w376 := w376) (w377 := w377) (w378 := w378) FU S hS _ qp1 ep1 (by omega) _ 0 k0 (by omega) (by omega)
  · skip
    have d1 := mt (e_le e2 ep2 (by omega) (by omega)).mpr c1
    refine T_m ((hS).c.rf (f := 375) (by decide)) ?_
    refine T_m ((hS).c.rf (f := 387) (by decide)) ?_
    refine T_bsome ?_
    refine T_gi (g_in ((hS).c.l (f := 387) (kd := 11) (n := 700) (by decide)) ep2 (by omega) (by omega)) ?_
    refine T_bsome ?_
    refine T_gi (g_in ((hS).c.l (f := 375) (kd := 11) (n := 11200) (by decide)) (e_add (e_mul k700 ep1) ep2) (by omega) (by omega)) ?_
    refine T_st (fun S14 eS14 => ?_)
    have hS14 : MI m G Λ Y S14 := by rw [eS14]; exact (hS).wJ (f := 375) (by decide) w375
    exact hrec S14 hS14 _ qp1 ep1 (by omega) _ (qp2 + 1) (e_add ep2 k1) (by omega) (by omega)
theorem tL_X9_keep_2 {m : Nat} {G : Nat → Nat} {Λ : sLay} {Y : gY} (w375 : Y.2.2 375 = false) (w376 : Y.2.2 376 = false) (w377 : Y.2.2 377 = false) (w378 : Y.2.2 378 = false) : ∀ (n : Nat) (S : sSt) (hS : MI m G Λ Y S) (p1 : Int32) (qp1 : Nat) (ep1 : p1 = nI qp1) (bp1 : qp1 ≤ 15) (p2 : Int32) (qp2 : Nat) (ep2 : p2 = nI qp2) (bp2 : qp2 ≤ 700) (_ : 701 ≤ qp2 + n), T (L_X9_keep_2 Λ.2.2 n S m p1 p2) (fun r : sSt => MI m G Λ Y r) := by
  intro n
  induction n with
  | zero =>
    intro S hS p1 qp1 ep1 bp1 p2 qp2 ep2 bp2 hm
    exfalso
    omega
  | succ n ih =>
    intro S hS p1 qp1 ep1 bp1 p2 qp2 ep2 bp2 hm
    exact tY_X9_keep_2 (w375 := w375) (w376 := w376) (w377 := w377) (w378 := w378) (n := n) (rec := L_X9_keep_2 Λ.2.2 n) (hrec := ih) (S := S) (hS := hS) (p1 := p1) (qp1 := qp1) (ep1 := ep1) (bp1 := bp1) (p2 := p2) (qp2 := qp2) (ep2 := ep2) (bp2 := bp2) (hm := hm)
set_option maxHeartbeats 1000000 in
theorem tF_X9_keep {m : Nat} {G : Nat → Nat} {Λ : sLay} {Y : gY} (w375 : Y.2.2 375 = false) (w376 : Y.2.2 376 = false) (w377 : Y.2.2 377 = false) (w378 : Y.2.2 378 = false) (S : sSt) (hS : MI m G Λ Y S) (p1 : Int32) (qp1 : Nat) (ep1 : p1 = nI qp1) (bp1 : qp1 ≤ 15) : T (F_X9_keep Λ.2.2 S m p1) (fun r : sSt => MI m G Λ Y r) := by
  unfold F_X9_keep
  have hFU := FU_big
  exact tL_X9_keep_2 (w375 := w375) (w376 := w376) (w377 := w377) (w378 := w378) FU S hS _ qp1 ep1 (by omega) _ 0 k0 (by omega) (by omega)
set_option maxHeartbeats 1000000 in
theorem tF_X9_force {m : Nat} {G : Nat → Nat} {Λ : sLay} {Y : gY} (w360 : Y.2.2 360 = false) (w375 : Y.2.2 375 = false) (w376 : Y.2.2 376 = false) (w377 : Y.2.2 377 = false) (w378 : Y.2.2 378 = false) (w379 : Y.2.2 379 = false) (w380 : Y.2.2 380 = false) (w381 : Y.2.2 381 = false) (w387 : Y.2.2 387 = false) (w388 : Y.2.2 388 = false) (w389 : Y.2.2 389 = false) (S : sSt) (hS : MI m G Λ Y S) (p1 : Int32) : T (F_X9_force Λ.2.2 S m p1) (fun r : Int32 × sSt => MI m G Λ Y r.2) := by
  unfold F_X9_force
  refine T_st (fun S1 eS1 => ?_)
  have hS1 : MI m G Λ Y S1 := by rw [eS1]; exact (hS).wF (f := 360) w360 (rg0 (P := fun B => nB B _) (by decide))
  refine T_bind (tF_X9_isUnit S1 hS1 _) (fun v2 rv2 => ?_)
  refine T_ite (fun c1 => ?_) (fun c1 => ?_)
  · skip
    exact T_some hS1
  · skip
    obtain ⟨j1, g1, e1⟩ := (rv2).resolve_left c1
    refine T_bind (tF_X9_rowOf (w379 := w379) (w380 := w380) (w381 := w381) (w387 := w387) (w388 := w388) (w389 := w389) S1 hS1 _ j1 e1 (by omega)) (fun S5 rS5 => ?_)
    have hS5 := rS5
    refine T_bind (tF_X9_keep (w375 := w375) (w376 := w376) (w377 := w377) (w378 := w378) S5 hS5 _ j1 e1 (by omega)) (fun S7 rS7 => ?_)
    have hS7 := rS7
    refine T_m ((hS7).c.rf (f := 377) (by decide)) ?_
    refine T_bsome ?_
    refine T_gi (g_in ((hS).c.l (f := 377) (kd := 10) (n := 16) (by decide)) e1 (by omega) (by omega)) ?_
    exact T_some hS7
set_option maxHeartbeats 1000000 in
theorem tF_X9_found {m : Nat} {G : Nat → Nat} {Λ : sLay} {Y : gY} (w360 : Y.2.2 360 = false) (S : sSt) (hS : MI m G Λ Y S) (p1 : Int32) (p2 : Int32) (p3 : Int32) : T (F_X9_found Λ.2.2 S m p1 p2 p3) (fun r : Int32 × sSt => MI m G Λ Y r.2) := by
  unfold F_X9_found
  refine T_st (fun S1 eS1 => ?_)
  have hS1 : MI m G Λ Y S1 := by rw [eS1]; exact (hS).wF (f := 360) w360 (rg0 (P := fun B => nB B _) (by decide))
  refine T_bind (tF_X9_isUnit S1 hS1 _) (fun v2 rv2 => ?_)
  refine T_ite (fun c1 => ?_) (fun c1 => ?_)
  · skip
    exact T_some hS1
  · skip
    obtain ⟨j1, g1, e1⟩ := (rv2).resolve_left c1
    refine T_bind (tF_X9_in S1 hS1 _ _ _) (fun v4 rv4 => ?_)
    refine T_ite (fun c2 => ?_) (fun c2 => ?_)
    · skip
      exact T_some hS1
    · skip
      obtain ⟨j2, g2, e2⟩ := in_nat2 ((rv4).resolve_left c2).2 (n := 2) rfl (by omega)
      refine T_bind (tF_X9_isName S1 hS1 _) (fun v6 rv6 => ?_)
      refine T_ite (fun c3 => ?_) (fun c3 => ?_)
      · skip
        exact T_some hS1
      · skip
        refine T_bind (tF_X9_find S1 hS1 _ j1 e1 (by omega) _) (fun v8 rv8 => ?_)
        refine T_ite (fun c4 => ?_) (fun c4 => ?_)
        · skip
          exact T_some hS1
        · skip
          obtain ⟨j4, g4, e4⟩ := oB.ne rv8 c4
          exact T_some hS1
set_option maxHeartbeats 1000000 in
theorem tB_X9_frees_36 {m : Nat} {G : Nat → Nat} {Λ : sLay} {Y : gY} (w374 : Y.2.2 374 = false) {n2 : Nat} {k2 : sSt → Nat → Int32 → Int32 → Option sSt} (hk2 : ∀ (S : sSt) (hS : MI m G Λ Y S) (p1 : Int32) (p2 : Int32) (qp2 : Nat) (ep2 : p2 = nI qp2) (bp2 : qp2 ≤ 16), (17 ≤ qp2 + n2) → T (k2 S m p1 p2) (fun r : sSt => MI m G Λ Y r)) (S : sSt) (hS : MI m G Λ Y S) (p1 : Int32) (p2 : Int32) (qp2 : Nat) (ep2 : p2 = nI qp2) (bp2 : qp2 ≤ 15) (s0 : Int32) (os0 : oB 15 s0) (s1 : Int32) (qs1 : Nat) (es1 : s1 = nI qs1) (bs1 : qs1 ≤ 15) (f0 : 17 ≤ qp2 + n2 + 1) : T (B_X9_frees_36 Λ.2.2 k2 S m p1 p2 s0 s1 (some (G 374))) (fun r : sSt => MI m G Λ Y r) := by
  unfold B_X9_frees_36
  refine T_bsome ?_
  refine T_gi (g_in ((hS).c.l (f := 374) (kd := 10) (n := 16) (by decide)) es1 (by omega) (by omega)) ?_
  refine T_st (fun S7 eS7 => ?_)
  have hS7 : MI m G Λ Y S7 := by rw [eS7]; exact (hS).wI (f := 374) (by decide) w374 (rg0 (P := fun B => nB B _) (by decide)) (rg2 (B := 15) (by decide) os0)
  exact hk2 S7 hS7 _ _ (qp2 + 1) (e_add ep2 k1) (by omega) (by omega)
set_option maxHeartbeats 1000000 in
theorem tY_X9_frees_2 {m : Nat} {G : Nat → Nat} {Λ : sLay} {Y : gY} (w374 : Y.2.2 374 = false) {n : Nat} {rec : sSt → Nat → Int32 → Int32 → Option sSt} (hrec : ∀ (S : sSt) (hS : MI m G Λ Y S) (p1 : Int32) (p2 : Int32) (qp2 : Nat) (ep2 : p2 = nI qp2) (bp2 : qp2 ≤ 16), (17 ≤ qp2 + n) → T (rec S m p1 p2) (fun r : sSt => MI m G Λ Y r)) (S : sSt) (hS : MI m G Λ Y S) (p1 : Int32) (p2 : Int32) (qp2 : Nat) (ep2 : p2 = nI qp2) (bp2 : qp2 ≤ 16) (hm : 17 ≤ qp2 + (n + 1)) : T (Y_X9_frees_2 Λ.2.2 rec S m p1 p2) (fun r : sSt => MI m G Λ Y r) := by
  unfold Y_X9_frees_2
  obtain ⟨j2, g2, e2⟩ := (hS).c.f (f := 361) (B := 16) (by decide)
  refine T_ite (fun c1 => ?_) (fun c1 => ?_)
  · skip
    have d1 := (e_le e2 ep2 (by omega) (by omega)).mp c1
    exact T_some hS
  · skip
    have d1 := mt (e_le e2 ep2 (by omega) (by omega)).mpr c1
    refine T_m ((hS).c.rf (f := 374) (by decide)) ?_
    refine T_m ((hS).c.rf (f := 374) (by decide)) ?_
    refine T_bsome ?_
    refine T_gi (g_in ((hS).c.l (f := 374) (kd := 10) (n := 16) (by decide)) ep2 (by omega) (by omega)) ?_
    refine T_ite (fun c3 => ?_) (fun c3 => ?_)
    · skip
      exact tB_X9_frees_36 (w374 := w374) (n2 := n) (k2 := rec) (hk2 := hrec) S hS _ _ qp2 ep2 (by omega) _ (Or.inl rfl) _ qp2 ep2 (by omega) (by omega)
    · skip
      refine T_m ((hS).c.rf (f := 374) (by decide)) ?_
      refine T_bsome ?_
      refine T_gi (g_in ((hS).c.l (f := 374) (kd := 10) (n := 16) (by decide)) ep2 (by omega) (by omega)) ?_
      exact tB_X9_frees_36 (w374 := w374) (n2 := n) (k2 := rec) (hk2 := hrec) S hS _ _ qp2 ep2 (by omega) _ ((hS).c.o (f := 374) (B := 15) (by decide) _) _ qp2 ep2 (by omega) (by omega)
theorem tL_X9_frees_2 {m : Nat} {G : Nat → Nat} {Λ : sLay} {Y : gY} (w374 : Y.2.2 374 = false) : ∀ (n : Nat) (S : sSt) (hS : MI m G Λ Y S) (p1 : Int32) (p2 : Int32) (qp2 : Nat) (ep2 : p2 = nI qp2) (bp2 : qp2 ≤ 16) (_ : 17 ≤ qp2 + n), T (L_X9_frees_2 Λ.2.2 n S m p1 p2) (fun r : sSt => MI m G Λ Y r) := by
  intro n
  induction n with
  | zero =>
    intro S hS p1 p2 qp2 ep2 bp2 hm
    exfalso
    omega
  | succ n ih =>
    intro S hS p1 p2 qp2 ep2 bp2 hm
    exact tY_X9_frees_2 (w374 := w374) (n := n) (rec := L_X9_frees_2 Λ.2.2 n) (hrec := ih) (S := S) (hS := hS) (p1 := p1) (p2 := p2) (qp2 := qp2) (ep2 := ep2) (bp2 := bp2) (hm := hm)
set_option maxHeartbeats 1000000 in
theorem tF_X9_frees {m : Nat} {G : Nat → Nat} {Λ : sLay} {Y : gY} (w374 : Y.2.2 374 = false) (S : sSt) (hS : MI m G Λ Y S) (p1 : Int32) : T (F_X9_frees Λ.2.2 S m p1) (fun r : sSt => MI m G Λ Y r) := by
  unfold F_X9_frees
  have hFU := FU_big
  exact tL_X9_frees_2 (w374 := w374) FU S hS _ _ 0 k0 (by omega) (by omega)
set_option maxHeartbeats 1000000 in
theorem tB_X9_generated_56 {m : Nat} {G : Nat → Nat} {Λ : sLay} {Y : gY} (w374 : Y.2.2 374 = false) (S : sSt) (hS : MI m G Λ Y S) (p1 : Int32) (qp1 : Nat) (ep1 : p1 = nI qp1) (bp1 : qp1 ≤ 15) (p2 : Int32) (op2 : oB 15 p2) : T (B_X9_generated_56 Λ.2.2 S m p1 p2) (fun r : Int32 × sSt => MI m G Λ Y r.2) := by
  unfold B_X9_generated_56
  refine T_m ((hS).c.rf (f := 374) (by decide)) ?_
  refine T_bsome ?_
  refine T_gi (g_in ((hS).c.l (f := 374) (kd := 10) (n := 16) (by decide)) ep1 (by omega) (by omega)) ?_
  refine T_st (fun S6 eS6 => ?_)
  have hS6 : MI m G Λ Y S6 := by rw [eS6]; exact (hS).wI (f := 374) (by decide) w374 (rg0 (P := fun B => nB B _) (by decide)) (rg2 (B := 15) (by decide) op2)
  exact T_some hS6
set_option maxHeartbeats 1000000 in
theorem tB_X9_generated_29 {m : Nat} {G : Nat → Nat} {Λ : sLay} {Y : gY} (w374 : Y.2.2 374 = false) (S : sSt) (hS : MI m G Λ Y S) (p1 : Int32) (qp1 : Nat) (ep1 : p1 = nI qp1) (bp1 : qp1 ≤ 15) (p2 : Int32) (op2 : oB 15 p2) : T (B_X9_generated_29 Λ.2.2 S m p1 p2) (fun r : Int32 × sSt => MI m G Λ Y r.2) := by
  unfold B_X9_generated_29
  refine T_ite (fun c1 => ?_) (fun c1 => ?_)
  · skip
    exact tB_X9_generated_56 (w374 := w374) S hS _ qp1 ep1 (by omega) _ (Or.inl c1)
  · skip
    obtain ⟨j1, g1, e1⟩ := oB.ne op2 c1
    refine T_m ((hS).c.rf (f := 373) (by decide)) ?_
    refine T_bsome ?_
    refine T_gi (g_in ((hS).c.l (f := 373) (kd := 12) (n := 16) (by decide)) e1 (by omega) (by omega)) ?_
    refine T_ite (fun c2 => ?_) (fun c2 => ?_)
    · skip
      exact T_some hS
    · skip
      refine T_m ((hS).c.rf (f := 373) (by decide)) ?_
      refine T_bsome ?_
      refine T_gi (g_in ((hS).c.l (f := 373) (kd := 12) (n := 16) (by decide)) ep1 (by omega) (by omega)) ?_
      refine T_ite (fun c3 => ?_) (fun c3 => ?_)
      · skip
        exact tB_X9_generated_56 (w374 := w374) S hS _ qp1 ep1 (by omega) _ (Or.inr ⟨j1, by omega, e1⟩)
      · skip
        exact T_some hS
set_option maxHeartbeats 1000000 in
theorem tF_X9_generated {m : Nat} {G : Nat → Nat} {Λ : sLay} {Y : gY} (w360 : Y.2.2 360 = false) (w374 : Y.2.2 374 = false) (S : sSt) (hS : MI m G Λ Y S) (p1 : Int32) (p2 : Int32) : T (F_X9_generated Λ.2.2 S m p1 p2) (fun r : Int32 × sSt => MI m G Λ Y r.2) := by
  unfold F_X9_generated
  refine T_st (fun S1 eS1 => ?_)
  have hS1 : MI m G Λ Y S1 := by rw [eS1]; exact (hS).wF (f := 360) w360 (rg0 (P := fun B => nB B _) (by decide))
  refine T_bind (tF_X9_isUnit S1 hS1 _) (fun v2 rv2 => ?_)
  refine T_ite (fun c1 => ?_) (fun c1 => ?_)
  · skip
    exact T_some hS1
  · skip
    obtain ⟨j1, g1, e1⟩ := (rv2).resolve_left c1
    refine T_ite (fun c2 => ?_) (fun c2 => ?_)
    · skip
      exact tB_X9_generated_29 (w374 := w374) S1 hS1 _ j1 e1 (by omega) _ (Or.inl c2)
    · skip
      refine T_bind (tF_X9_isUnit S1 hS1 _) (fun v11 rv11 => ?_)
      refine T_ite (fun c3 => ?_) (fun c3 => ?_)
      · skip
        exact T_some hS1
      · skip
        obtain ⟨j3, g3, e3⟩ := (rv11).resolve_left c3
        exact tB_X9_generated_29 (w374 := w374) S1 hS1 _ j1 e1 (by omega) _ (Or.inr ⟨j3, by omega, e3⟩)
set_option maxHeartbeats 1000000 in
theorem tY_X9_move_50 {m : Nat} {G : Nat → Nat} {Λ : sLay} {Y : gY} (w368 : Y.2.2 368 = false) {n : Nat} {rec : sSt → Nat → Int32 → Int32 → Int32 → Option sSt} (hrec : ∀ (S : sSt) (hS : MI m G Λ Y S) (p1 : Int32) (qp1 : Nat) (ep1 : p1 = nI qp1) (bp1 : qp1 ≤ 159) (p2 : Int32) (qp2 : Nat) (ep2 : p2 = nI qp2) (bp2 : qp2 ≤ 159) (p3 : Int32) (qp3 : Nat) (ep3 : p3 = nI qp3) (bp3 : qp3 ≤ 3), (4 ≤ qp3 + n) → T (rec S m p1 p2 p3) (fun r : sSt => MI m G Λ Y r)) (S : sSt) (hS : MI m G Λ Y S) (p1 : Int32) (qp1 : Nat) (ep1 : p1 = nI qp1) (bp1 : qp1 ≤ 159) (p2 : Int32) (qp2 : Nat) (ep2 : p2 = nI qp2) (bp2 : qp2 ≤ 159) (p3 : Int32) (qp3 : Nat) (ep3 : p3 = nI qp3) (bp3 : qp3 ≤ 3) (hm : 4 ≤ qp3 + (n + 1)) : T (Y_X9_move_50 Λ.2.2 rec S m p1 p2 p3) (fun r : sSt => MI m G Λ Y r) := by
  unfold Y_X9_move_50
  refine T_ite (fun c1 => ?_) (fun c1 => ?_)
  · skip
    have d1 := (e_le k3 ep3 (by omega) (by omega)).mp c1
    exact T_some hS
  · skip
    have d1 := mt (e_le k3 ep3 (by omega) (by omega)).mpr c1
    refine T_m ((hS).c.rf (f := 368) (by decide)) ?_
    refine T_m ((hS).c.rf (f := 368) (by decide)) ?_
    refine T_bsome ?_
    refine T_gi (g_in ((hS).c.l (f := 368) (kd := 10) (n := 480) (by decide)) (e_add (e_mul k3 ep1) ep3) (by omega) (by omega)) ?_
    refine T_bsome ?_
    refine T_gi (g_in ((hS).c.l (f := 368) (kd := 10) (n := 480) (by decide)) (e_add (e_mul k3 ep2) ep3) (by omega) (by omega)) ?_
    refine T_st (fun S25 eS25 => ?_)
    have hS25 : MI m G Λ Y S25 := by rw [eS25]; exact (hS).wI (f := 368) (by decide) w368 (rg0 (P := fun B => nB B _) (by decide)) (rg0 (P := fun B => oB B _) (by decide))
    exact hrec S25 hS25 _ qp1 ep1 (by omega) _ qp2 ep2 (by omega) _ (qp3 + 1) (e_add ep3 k1) (by omega) (by omega)
theorem tL_X9_move_50 {m : Nat} {G : Nat → Nat} {Λ : sLay} {Y : gY} (w368 : Y.2.2 368 = false) : ∀ (n : Nat) (S : sSt) (hS : MI m G Λ Y S) (p1 : Int32) (qp1 : Nat) (ep1 : p1 = nI qp1) (bp1 : qp1 ≤ 159) (p2 : Int32) (qp2 : Nat) (ep2 : p2 = nI qp2) (bp2 : qp2 ≤ 159) (p3 : Int32) (qp3 : Nat) (ep3 : p3 = nI qp3) (bp3 : qp3 ≤ 3) (_ : 4 ≤ qp3 + n), T (L_X9_move_50 Λ.2.2 n S m p1 p2 p3) (fun r : sSt => MI m G Λ Y r) := by
  intro n
  induction n with
  | zero =>
    intro S hS p1 qp1 ep1 bp1 p2 qp2 ep2 bp2 p3 qp3 ep3 bp3 hm
    exfalso
    omega
  | succ n ih =>
    intro S hS p1 qp1 ep1 bp1 p2 qp2 ep2 bp2 p3 qp3 ep3 bp3 hm
    exact tY_X9_move_50 (w368 := w368) (n := n) (rec := L_X9_move_50 Λ.2.2 n) (hrec := ih) (S := S) (hS := hS) (p1 := p1) (qp1 := qp1) (ep1 := ep1) (bp1 := bp1) (p2 := p2) (qp2 := qp2) (ep2 := ep2) (bp2 := bp2) (p3 := p3) (qp3 := qp3) (ep3 := ep3) (bp3 := bp3) (hm := hm)
set_option maxHeartbeats 1000000 in
theorem tF_X9_move {m : Nat} {G : Nat → Nat} {Λ : sLay} {Y : gY} (w364 : Y.2.2 364 = false) (w365 : Y.2.2 365 = false) (w366 : Y.2.2 366 = false) (w367 : Y.2.2 367 = false) (w368 : Y.2.2 368 = false) (S : sSt) (hS : MI m G Λ Y S) (p1 : Int32) (qp1 : Nat) (ep1 : p1 = nI qp1) (bp1 : qp1 ≤ 159) (p2 : Int32) (qp2 : Nat) (ep2 : p2 = nI qp2) (bp2 : qp2 ≤ 159) : T (F_X9_move Λ.2.2 S m p1 p2) (fun r : sSt => MI m G Λ Y r) := by
  unfold F_X9_move
  have hFU := FU_big
  refine T_m ((hS).c.rf (f := 364) (by decide)) ?_
  refine T_m ((hS).c.rf (f := 364) (by decide)) ?_
  refine T_bsome ?_
  refine T_gi (g_in ((hS).c.l (f := 364) (kd := 10) (n := 160) (by decide)) ep1 (by omega) (by omega)) ?_
  refine T_bsome ?_
  refine T_gi (g_in ((hS).c.l (f := 364) (kd := 10) (n := 160) (by decide)) ep2 (by omega) (by omega)) ?_
  refine T_st (fun S5 eS5 => ?_)
  have hS5 : MI m G Λ Y S5 := by rw [eS5]; exact (hS).wI (f := 364) (by decide) w364 (rg0 (P := fun B => nB B _) (by decide)) (rg0 (P := fun B => oB B _) (by decide))
  refine T_m ((hS5).c.rf (f := 365) (by decide)) ?_
  refine T_m ((hS5).c.rf (f := 365) (by decide)) ?_
  refine T_bsome ?_
  refine T_gi (g_in ((hS).c.l (f := 365) (kd := 11) (n := 160) (by decide)) ep1 (by omega) (by omega)) ?_
  refine T_bsome ?_
  refine T_gi (g_in ((hS).c.l (f := 365) (kd := 11) (n := 160) (by decide)) ep2 (by omega) (by omega)) ?_
  refine T_st (fun S10 eS10 => ?_)
  have hS10 : MI m G Λ Y S10 := by rw [eS10]; exact (hS5).wJ (f := 365) (by decide) w365
  refine T_m ((hS10).c.rf (f := 366) (by decide)) ?_
  refine T_m ((hS10).c.rf (f := 366) (by decide)) ?_
  refine T_bsome ?_
  refine T_gi (g_in ((hS).c.l (f := 366) (kd := 12) (n := 160) (by decide)) ep1 (by omega) (by omega)) ?_
  refine T_bsome ?_
  refine T_gi (g_in ((hS).c.l (f := 366) (kd := 12) (n := 160) (by decide)) ep2 (by omega) (by omega)) ?_
  refine T_st (fun S15 eS15 => ?_)
  have hS15 : MI m G Λ Y S15 := by rw [eS15]; exact (hS10).wI (f := 366) (by decide) w366 (rg0 (P := fun B => nB B _) (by decide)) (rg0 (P := fun B => oB B _) (by decide))
  refine T_m ((hS15).c.rf (f := 367) (by decide)) ?_
  refine T_m ((hS15).c.rf (f := 367) (by decide)) ?_
  refine T_bsome ?_
  refine T_gi (g_in ((hS).c.l (f := 367) (kd := 10) (n := 160) (by decide)) ep1 (by omega) (by omega)) ?_
  refine T_bsome ?_
  refine T_gi (g_in ((hS).c.l (f := 367) (kd := 10) (n := 160) (by decide)) ep2 (by omega) (by omega)) ?_
  obtain ⟨j1, g1, e1⟩ := (hS15).c.n (f := 367) (B := 3) (by decide) (Int32.toNatClampNeg p1)
  refine T_st (fun S20 eS20 => ?_)
  have hS20 : MI m G Λ Y S20 := by rw [eS20]; exact (hS15).wI (f := 367) (by decide) w367 (rg1 (B := 3) (by decide) ⟨j1, by omega, e1⟩) (rg0 (P := fun B => oB B _) (by decide))
  exact tL_X9_move_50 (w368 := w368) FU S20 hS20 _ qp1 ep1 (by omega) _ qp2 ep2 (by omega) _ 0 k0 (by omega) (by omega)
set_option maxHeartbeats 1000000 in
theorem tB_X9_give_144 {m : Nat} {G : Nat → Nat} {Λ : sLay} {Y : gY} (w363 : Y.2.2 363 = false) (w364 : Y.2.2 364 = false) (w365 : Y.2.2 365 = false) (w366 : Y.2.2 366 = false) (w367 : Y.2.2 367 = false) (S : sSt) (hS : MI m G Λ Y S) (p1 : Int32) (qp1 : Nat) (ep1 : p1 = nI qp1) (bp1 : qp1 ≤ 15) (p4 : Int64) (p6 : Int32) (p7 : Int32) (p8 : Int32) (qp8 : Nat) (ep8 : p8 = nI qp8) (bp8 : qp8 ≤ 159) (f0 : ∃ t, t ≤ 9 ∧ gAI S (G 363) qp1 = nI t) : T (B_X9_give_144 Λ.2.2 S m p1 p4 p6 p7 p8) (fun r : Int32 × sSt => MI m G Λ Y r.2) := by
  unfold B_X9_give_144
  obtain ⟨t, ht, et⟩ := f0
  refine T_m (hS.c.rf (f := 364) (by decide)) (T_bsome ?_)
  refine T_gi (g_in (hS.c.l (f := 364) (kd := 10) (n := 160) (by decide)) ep8 (by omega) (by omega)) ?_
  refine T_st (fun S16 eS16 => ?_)
  have h16 : MI m G Λ Y S16 := by rw [eS16]; exact hS.wI (f := 364) (by decide) w364 (rg0 (P := fun B => nB B _) (by decide)) (rg0 (P := fun B => oB B _) (by decide))
  refine T_m (h16.c.rf (f := 365) (by decide)) (T_bsome ?_)
  refine T_gi (g_in (h16.c.l (f := 365) (kd := 11) (n := 160) (by decide)) ep8 (by omega) (by omega)) ?_
  refine T_st (fun S19 eS19 => ?_)
  have h19 : MI m G Λ Y S19 := by rw [eS19]; exact h16.wJ (f := 365) (by decide) w365
  refine T_m (h19.c.rf (f := 366) (by decide)) (T_bsome ?_)
  refine T_gi (g_in (h19.c.l (f := 366) (kd := 12) (n := 160) (by decide)) ep8 (by omega) (by omega)) ?_
  refine T_st (fun S22 eS22 => ?_)
  have h22 : MI m G Λ Y S22 := by rw [eS22]; exact h19.wI (f := 366) (by decide) w366 (rg0 (P := fun B => nB B _) (by decide)) (rg0 (P := fun B => oB B _) (by decide))
  refine T_m (h22.c.rf (f := 367) (by decide)) (T_bsome ?_)
  refine T_gi (g_in (h22.c.l (f := 367) (kd := 10) (n := 160) (by decide)) ep8 (by omega) (by omega)) ?_
  refine T_st (fun S25 eS25 => ?_)
  have h25 : MI m G Λ Y S25 := by rw [eS25]; exact h22.wI (f := 367) (by decide) w367 (rg1 (B := 3) (by decide) ⟨0, by omega, rfl⟩) (rg0 (P := fun B => oB B _) (by decide))
  refine T_m (h25.c.rf (f := 363) (by decide)) (T_bsome ?_)
  refine T_gi (g_in (h25.c.l (f := 363) (kd := 10) (n := 16) (by decide)) ep1 (by omega) (by omega)) ?_
  refine T_gi (g_in (h25.c.l (f := 363) (kd := 10) (n := 16) (by decide)) ep1 (by omega) (by omega)) ?_
  have e5 : gAI S25 (G 363) (Int32.toNatClampNeg p1) = nI t := by
    rw [eS25, h22.c.oth (f := 363) (f' := 367) (by decide) (by decide) (by decide), eS22, h19.c.oth (f := 363) (f' := 366) (by decide) (by decide) (by decide), eS19, gAI_sAJ, eS16, hS.c.oth (f := 363) (f' := 364) (by decide) (by decide) (by decide), e_clamp ep1 (by omega)]
    exact et
  refine T_st (fun S28 eS28 => ?_)
  have h28 : MI m G Λ Y S28 := by rw [eS28]; exact h25.wI (f := 363) (by decide) w363 (rg1 (B := 10) (by decide) ⟨(t+1), by omega, (e_add e5 k1)⟩) (rg0 (P := fun B => oB B _) (by decide))
  exact T_some h28
set_option maxHeartbeats 1000000 in
theorem tY_X9_give_105 {m : Nat} {G : Nat → Nat} {Λ : sLay} {Y : gY} (w363 : Y.2.2 363 = false) (w364 : Y.2.2 364 = false) (w365 : Y.2.2 365 = false) (w366 : Y.2.2 366 = false) (w367 : Y.2.2 367 = false) (w368 : Y.2.2 368 = false) {n : Nat} {rec : sSt → Nat → Int32 → Int64 → Int32 → Int32 → Int32 → Option (Int32 × sSt)} (hrec : ∀ (S : sSt) (hS : MI m G Λ Y S) (p1 : Int32) (qp1 : Nat) (ep1 : p1 = nI qp1) (bp1 : qp1 ≤ 15) (p4 : Int64) (p6 : Int32) (p7 : Int32) (p8 : Int32) (qp8 : Nat) (ep8 : p8 = nI qp8) (bp8 : qp8 ≤ 159), (∃ t, t ≤ 9 ∧ gAI S (G 363) qp1 = nI t) → (qp8 < n) → T (rec S m p1 p4 p6 p7 p8) (fun r : Int32 × sSt => MI m G Λ Y r.2)) (S : sSt) (hS : MI m G Λ Y S) (p1 : Int32) (qp1 : Nat) (ep1 : p1 = nI qp1) (bp1 : qp1 ≤ 15) (p4 : Int64) (p6 : Int32) (p7 : Int32) (p8 : Int32) (qp8 : Nat) (ep8 : p8 = nI qp8) (bp8 : qp8 ≤ 159) (f0 : ∃ t, t ≤ 9 ∧ gAI S (G 363) qp1 = nI t) (hm : qp8 < (n + 1)) : T (Y_X9_give_105 Λ.2.2 rec S m p1 p4 p6 p7 p8) (fun r : Int32 × sSt => MI m G Λ Y r.2) := by
  unfold Y_X9_give_105
  obtain ⟨t, ht, et⟩ := f0
  have ft : ∃ t, t ≤ 9 ∧ gAI S (G 363) qp1 = nI t := ⟨t, ht, et⟩
  refine T_ite (fun _ => tB_X9_give_144 (w363 := w363) (w364 := w364) (w365 := w365) (w366 := w366) (w367 := w367) S hS _ qp1 ep1 bp1 _ _ _ _ qp8 ep8 bp8 ft) (fun c => ?_)
  have d := mt (e_le ep8 (e_mul k10 ep1) (by omega) (by omega)).mpr c
  refine T_m (hS.c.rf (f := 364) (by decide)) (T_bsome ?_)
  refine T_gi (g_in (hS.c.l (f := 364) (kd := 10) (n := 160) (by decide)) (e_sub ep8 k1 (by omega)) (by omega) (by omega)) ?_
  refine T_ite (fun _ => tB_X9_give_144 (w363 := w363) (w364 := w364) (w365 := w365) (w366 := w366) (w367 := w367) S hS _ qp1 ep1 bp1 _ _ _ _ qp8 ep8 bp8 ft) (fun _ => ?_)
  refine T_bind (tF_X9_move (w364 := rfl) (w365 := rfl) (w366 := rfl) (w367 := rfl) (w368 := rfl) (Y := (Y.1, S, nfz [364, 365, 366, 367, 368])) S (hS.loc _) _ (qp8 - 1) (e_sub ep8 k1 (by omega)) (by omega) _ qp8 ep8 bp8) (fun S32 g32 => ?_)
  have h32 : MI m G Λ Y S32 := hS.up g32 (nfz_ok (fun g hg => by simp only [List.mem_cons, List.not_mem_nil, or_false] at hg; rcases hg with rfl | rfl | rfl | rfl | rfl <;> assumption))
  exact hrec S32 h32 _ qp1 ep1 bp1 _ _ _ _ (qp8 - 1) (e_prd ep8 (by omega)) (by omega) ⟨t, ht, (((g32.2 363 rfl).2 rfl qp1).1).trans et⟩ (by omega)
theorem tL_X9_give_105 {m : Nat} {G : Nat → Nat} {Λ : sLay} {Y : gY} (w363 : Y.2.2 363 = false) (w364 : Y.2.2 364 = false) (w365 : Y.2.2 365 = false) (w366 : Y.2.2 366 = false) (w367 : Y.2.2 367 = false) (w368 : Y.2.2 368 = false) : ∀ (n : Nat) (S : sSt) (hS : MI m G Λ Y S) (p1 : Int32) (qp1 : Nat) (ep1 : p1 = nI qp1) (bp1 : qp1 ≤ 15) (p4 : Int64) (p6 : Int32) (p7 : Int32) (p8 : Int32) (qp8 : Nat) (ep8 : p8 = nI qp8) (bp8 : qp8 ≤ 159) (_ : ∃ t, t ≤ 9 ∧ gAI S (G 363) qp1 = nI t) (_ : qp8 < n), T (L_X9_give_105 Λ.2.2 n S m p1 p4 p6 p7 p8) (fun r : Int32 × sSt => MI m G Λ Y r.2) := by
  intro n
  induction n with
  | zero =>
    intro S hS p1 qp1 ep1 bp1 p4 p6 p7 p8 qp8 ep8 bp8 f0 hm
    exfalso
    omega
  | succ n ih =>
    intro S hS p1 qp1 ep1 bp1 p4 p6 p7 p8 qp8 ep8 bp8 f0 hm
    exact tY_X9_give_105 (w363 := w363) (w364 := w364) (w365 := w365) (w366 := w366) (w367 := w367) (w368 := w368) (n := n) (rec := L_X9_give_105 Λ.2.2 n) (hrec := ih) (S := S) (hS := hS) (p1 := p1) (qp1 := qp1) (ep1 := ep1) (bp1 := bp1) (p4 := p4) (p6 := p6) (p7 := p7) (p8 := p8) (qp8 := qp8) (ep8 := ep8) (bp8 := bp8) (f0 := f0) (hm := hm)
set_option maxHeartbeats 1000000 in
theorem tF_X9_give {m : Nat} {G : Nat → Nat} {Λ : sLay} {Y : gY} (w360 : Y.2.2 360 = false) (w363 : Y.2.2 363 = false) (w364 : Y.2.2 364 = false) (w365 : Y.2.2 365 = false) (w366 : Y.2.2 366 = false) (w367 : Y.2.2 367 = false) (w368 : Y.2.2 368 = false) (S : sSt) (hS : MI m G Λ Y S) (p1 : Int32) (p2 : Int32) (p3 : Int32) (p4 : Int64) (p6 : Int32) : T (F_X9_give Λ.2.2 S m p1 p2 p3 p4 p6) (fun r : Int32 × sSt => MI m G Λ Y r.2) := by
  unfold F_X9_give
  refine T_st (fun S1 eS1 => ?_)
  have h1 : MI m G Λ Y S1 := by rw [eS1]; exact hS.wF (f := 360) w360 (rg0 (P := fun B => nB B _) (by decide))
  refine T_bind (tF_X9_isUnit S1 h1 p1) (fun v2 r2 => T_ite (fun _ => T_some h1) (fun c2 => ?_))
  obtain ⟨q, gq, eq⟩ := r2.resolve_left c2
  refine T_bind (tF_X9_in S1 h1 p2 0 2) (fun v4 _ => T_ite (fun _ => T_some h1) (fun _ => ?_))
  refine T_bind (tF_X9_isName S1 h1 p3) (fun v6 _ => T_ite (fun _ => T_some h1) (fun _ => ?_))
  refine T_bind (tF_X9_thingOf S1 h1 _ q eq gq _) (fun v8 r8 => T_ite (fun _ => ?_) (fun c8 => ?_))
  · refine T_m (h1.c.rf (f := 363) (by decide)) (T_bsome ?_)
    refine T_gi (g_in (h1.c.l (f := 363) (kd := 10) (n := 16) (by decide)) eq (by omega) (by omega)) ?_
    obtain ⟨t, ht, et⟩ := h1.c.n (f := 363) (B := 10) (by decide) (Int32.toNatClampNeg p1)
    refine T_ite (fun _ => T_some h1) (fun c => ?_)
    have d := mt (e_eq et k10 (by omega) (by omega)).mpr c
    refine T_m (h1.c.rf (f := 363) (by decide)) (T_bsome ?_)
    refine T_gi (g_in (h1.c.l (f := 363) (kd := 10) (n := 16) (by decide)) eq (by omega) (by omega)) ?_
    have et2 := et
    rw [e_clamp eq (by omega)] at et2
    have hFU := FU_big
    exact tL_X9_give_105 (w363 := w363) (w364 := w364) (w365 := w365) (w366 := w366) (w367 := w367) (w368 := w368) FU S1 h1 _ q eq gq _ _ _ _ (10 * q + t) (e_add (e_mul k10 eq) et) (by omega) ⟨t, by omega, et2⟩ (by omega)
  · obtain ⟨i, hi, ei⟩ := r8.1.ne c8
    refine T_m (h1.c.rf (f := 365) (by decide)) (T_bsome ?_)
    refine T_gi (g_in (h1.c.l (f := 365) (kd := 11) (n := 160) (by decide)) ei (by omega) (by omega)) ?_
    refine T_st (fun S35 eS35 => ?_)
    have h35 : MI m G Λ Y S35 := by rw [eS35]; exact h1.wJ (f := 365) (by decide) w365
    refine T_m (h35.c.rf (f := 366) (by decide)) (T_bsome ?_)
    refine T_gi (g_in (h35.c.l (f := 366) (kd := 12) (n := 160) (by decide)) ei (by omega) (by omega)) ?_
    refine T_st (fun S38 eS38 => ?_)
    have h38 : MI m G Λ Y S38 := by rw [eS38]; exact h35.wI (f := 366) (by decide) w366 (rg0 (P := fun B => nB B _) (by decide)) (rg0 (P := fun B => oB B _) (by decide))
    exact T_some h38
set_option maxHeartbeats 1000000 in
theorem tB_X9_isOnWay_41 {m : Nat} {G : Nat → Nat} {Λ : sLay} {Y : gY} (S : sSt) (hS : MI m G Λ Y S) {n5 : Nat} {k5 : Nat → Int32 → Int32 → Int32 → Int32 → Option Int32} (hk5 : ∀ (p1 : Int32) (qp1 : Nat) (ep1 : p1 = nI qp1) (bp1 : qp1 ≤ 15) (p2 : Int32) (p3 : Int32) (bp3 : p3 = 0 ∨ p3 = 1) (p4 : Int32) (qp4 : Nat) (ep4 : p4 = nI qp4) (bp4 : qp4 ≤ 6), (7 ≤ qp4 + n5) → T (k5 m p1 p2 p3 p4) (fun r : Int32 => True)) (p1 : Int32) (qp1 : Nat) (ep1 : p1 = nI qp1) (bp1 : qp1 ≤ 15) (p2 : Int32) (p4 : Int32) (qp4 : Nat) (ep4 : p4 = nI qp4) (bp4 : qp4 ≤ 5) (s0 : Int32) (bs0 : s0 = 0 ∨ s0 = 1) (f0 : 7 ≤ qp4 + n5 + 1) : T (B_X9_isOnWay_41 Λ.2.2 S k5 m p1 p2 p4 s0) (fun r : Int32 => True) := by
  unfold B_X9_isOnWay_41
  exact hk5 _ qp1 ep1 (by omega) _ _ bs0 _ (qp4 + 1) (e_add ep4 k1) (by omega) (by omega)
set_option maxHeartbeats 1000000 in
theorem tB_X9_isOnWay_36 {m : Nat} {G : Nat → Nat} {Λ : sLay} {Y : gY} (S : sSt) (hS : MI m G Λ Y S) {n5 : Nat} {k5 : Nat → Int32 → Int32 → Int32 → Int32 → Option Int32} (hk5 : ∀ (p1 : Int32) (qp1 : Nat) (ep1 : p1 = nI qp1) (bp1 : qp1 ≤ 15) (p2 : Int32) (p3 : Int32) (bp3 : p3 = 0 ∨ p3 = 1) (p4 : Int32) (qp4 : Nat) (ep4 : p4 = nI qp4) (bp4 : qp4 ≤ 6), (7 ≤ qp4 + n5) → T (k5 m p1 p2 p3 p4) (fun r : Int32 => True)) (p1 : Int32) (qp1 : Nat) (ep1 : p1 = nI qp1) (bp1 : qp1 ≤ 15) (p2 : Int32) (p4 : Int32) (qp4 : Nat) (ep4 : p4 = nI qp4) (bp4 : qp4 ≤ 5) (f0 : 7 ≤ qp4 + n5 + 1) : T (B_X9_isOnWay_36 Λ.2.2 S k5 m p1 p2 p4) (fun r : Int32 => True) := by
  unfold B_X9_isOnWay_36
  exact tB_X9_isOnWay_41 (n5 := n5) (k5 := k5) (hk5 := hk5) S hS _ qp1 ep1 (by omega) _ _ qp4 ep4 (by omega) _ (Or.inr rfl) (by omega)
set_option maxHeartbeats 1000000 in
theorem tY_X9_isOnWay_5 {m : Nat} {G : Nat → Nat} {Λ : sLay} {Y : gY} (S : sSt) (hS : MI m G Λ Y S) {n : Nat} {rec : Nat → Int32 → Int32 → Int32 → Int32 → Option Int32} (hrec : ∀ (p1 : Int32) (qp1 : Nat) (ep1 : p1 = nI qp1) (bp1 : qp1 ≤ 15) (p2 : Int32) (p3 : Int32) (bp3 : p3 = 0 ∨ p3 = 1) (p4 : Int32) (qp4 : Nat) (ep4 : p4 = nI qp4) (bp4 : qp4 ≤ 6), (7 ≤ qp4 + n) → T (rec m p1 p2 p3 p4) (fun r : Int32 => True)) (p1 : Int32) (qp1 : Nat) (ep1 : p1 = nI qp1) (bp1 : qp1 ≤ 15) (p2 : Int32) (p3 : Int32) (bp3 : p3 = 0 ∨ p3 = 1) (p4 : Int32) (qp4 : Nat) (ep4 : p4 = nI qp4) (bp4 : qp4 ≤ 6) (hm : 7 ≤ qp4 + (n + 1)) : T (Y_X9_isOnWay_5 Λ.2.2 S rec m p1 p2 p3 p4) (fun r : Int32 => True) := by
  unfold Y_X9_isOnWay_5
  refine T_m ((hS).c.rf (f := 369) (by decide)) ?_
  refine T_bsome ?_
  refine T_gi (g_in ((hS).c.l (f := 369) (kd := 10) (n := 16) (by decide)) ep1 (by omega) (by omega)) ?_
  obtain ⟨j2, g2, e2⟩ := (hS).c.n (f := 369) (B := 6) (by decide) (Int32.toNatClampNeg p1)
  refine T_ite (fun c1 => ?_) (fun c1 => ?_)
  · skip
    have d1 := (e_le e2 ep4 (by omega) (by omega)).mp c1
    refine T_gb bp3 ?_
    exact T_some True.intro
  · skip
    have d1 := mt (e_le e2 ep4 (by omega) (by omega)).mpr c1
    refine T_ite (fun c3 => ?_) (fun c3 => ?_)
    · skip
      refine T_m ((hS).c.rf (f := 370) (by decide)) ?_
      refine T_bsome ?_
      refine T_gi (g_in ((hS).c.l (f := 370) (kd := 10) (n := 96) (by decide)) (e_add (e_mul k6 ep1) ep4) (by omega) (by omega)) ?_
      obtain ⟨j5, g5, e5⟩ := (hS).c.n (f := 370) (B := 15) (by decide) (Int32.toNatClampNeg (((6 : Int32) * p1) + p4))
      refine T_ite (fun c4 => ?_) (fun c4 => ?_)
      · skip
        exact tB_X9_isOnWay_36 (n5 := n) (k5 := rec) (hk5 := hrec) S hS _ qp1 ep1 (by omega) _ _ qp4 ep4 (by omega) (by omega)
      · skip
        exact tB_X9_isOnWay_41 (n5 := n) (k5 := rec) (hk5 := hrec) S hS _ qp1 ep1 (by omega) _ _ qp4 ep4 (by omega) _ (Or.inl rfl) (by omega)
    · skip
      exact tB_X9_isOnWay_36 (n5 := n) (k5 := rec) (hk5 := hrec) S hS _ qp1 ep1 (by omega) _ _ qp4 ep4 (by omega) (by omega)
theorem tL_X9_isOnWay_5 {m : Nat} {G : Nat → Nat} {Λ : sLay} {Y : gY} (S : sSt) (hS : MI m G Λ Y S) : ∀ (n : Nat) (p1 : Int32) (qp1 : Nat) (ep1 : p1 = nI qp1) (bp1 : qp1 ≤ 15) (p2 : Int32) (p3 : Int32) (bp3 : p3 = 0 ∨ p3 = 1) (p4 : Int32) (qp4 : Nat) (ep4 : p4 = nI qp4) (bp4 : qp4 ≤ 6) (_ : 7 ≤ qp4 + n), T (L_X9_isOnWay_5 Λ.2.2 S n m p1 p2 p3 p4) (fun r : Int32 => True) := by
  intro n
  induction n with
  | zero =>
    intro p1 qp1 ep1 bp1 p2 p3 bp3 p4 qp4 ep4 bp4 hm
    exfalso
    omega
  | succ n ih =>
    intro p1 qp1 ep1 bp1 p2 p3 bp3 p4 qp4 ep4 bp4 hm
    exact tY_X9_isOnWay_5 S hS (n := n) (rec := L_X9_isOnWay_5 Λ.2.2 S n) (hrec := ih) (p1 := p1) (qp1 := qp1) (ep1 := ep1) (bp1 := bp1) (p2 := p2) (p3 := p3) (bp3 := bp3) (p4 := p4) (qp4 := qp4) (ep4 := ep4) (bp4 := bp4) (hm := hm)
set_option maxHeartbeats 1000000 in
theorem tF_X9_isOnWay {m : Nat} {G : Nat → Nat} {Λ : sLay} {Y : gY} (S : sSt) (hS : MI m G Λ Y S) (p1 : Int32) (qp1 : Nat) (ep1 : p1 = nI qp1) (bp1 : qp1 ≤ 15) (p2 : Int32) : T (F_X9_isOnWay Λ.2.2 S m p1 p2) (fun r : Int32 => True) := by
  unfold F_X9_isOnWay
  have hFU := FU_big
  exact tL_X9_isOnWay_5 S hS FU _ qp1 ep1 (by omega) _ _ (Or.inl rfl) _ 0 k0 (by omega) (by omega)
set_option maxHeartbeats 1000000 in
theorem tB_X9_kept_55 {m : Nat} {G : Nat → Nat} {Λ : sLay} {Y : gY} (w360 : Y.2.2 360 = false) (S : sSt) (hS : MI m G Λ Y S) (p1 : Int32) (qp1 : Nat) (ep1 : p1 = nI qp1) (bp1 : qp1 ≤ 15) (p2 : Int32) (s0 : Int32) (f0 : s0 = 0 → ∃ j, j < 700 ∧ p2 = nI j) : T (B_X9_kept_55 Λ.2.2 S m p1 p2 s0 m) (fun r : Int64 × sSt => MI m G Λ Y r.2) := by
  unfold B_X9_kept_55
  refine T_st (fun S10 eS10 => ?_)
  have h10 : MI m G Λ Y S10 := by rw [eS10]; exact hS.wF (f := 360) w360 (rg0 (P := fun B => nB B _) (by decide))
  have g10 : gFI S10 360 m = s0 := by rw [eS10, gFI_sFI, if_pos ⟨rfl, rfl⟩]
  refine T_ite (fun c => ?_) (fun _ => T_some h10)
  obtain ⟨j, gj, ej⟩ := f0 (g10.symm.trans c)
  refine T_m (h10.c.rf (f := 375) (by decide)) (T_bsome ?_)
  refine T_gi (g_in (h10.c.l (f := 375) (kd := 11) (n := 11200) (by decide)) (e_add (e_mul k700 ep1) ej) (by omega) (by omega)) ?_
  exact T_some h10
set_option maxHeartbeats 1000000 in
theorem tF_X9_kept {m : Nat} {G : Nat → Nat} {Λ : sLay} {Y : gY} (w360 : Y.2.2 360 = false) (S : sSt) (hS : MI m G Λ Y S) (p1 : Int32) (p2 : Int32) : T (F_X9_kept Λ.2.2 S m p1 p2) (fun r : Int64 × sSt => MI m G Λ Y r.2) := by
  unfold F_X9_kept
  refine T_st (fun S1 eS1 => ?_)
  have h1 : MI m G Λ Y S1 := by rw [eS1]; exact hS.wF (f := 360) w360 (rg0 (P := fun B => nB B _) (by decide))
  refine T_bind (tF_X9_isUnit S1 h1 p1) (fun v2 r2 => T_ite (fun _ => T_some h1) (fun c2 => ?_))
  obtain ⟨q, gq, eq⟩ := r2.resolve_left c2
  refine T_m (h1.c.rf (f := 377) (by decide)) (T_bsome ?_)
  refine T_gi (g_in (h1.c.l (f := 377) (kd := 10) (n := 16) (by decide)) eq (by omega) (by omega)) ?_
  refine T_ite (fun _ => tB_X9_kept_55 (w360 := w360) S1 h1 _ q eq gq _ _ (fun h => absurd h (by decide))) (fun _ => ?_)
  refine T_m (h1.c.rf (f := 376) (by decide)) (T_bsome ?_)
  refine T_gi (g_in (h1.c.l (f := 376) (kd := 10) (n := 96) (by decide)) (e_add (e_mul k6 eq) k5) (by omega) (by omega)) ?_
  obtain ⟨j, gj, ej⟩ := h1.c.n (f := 376) (B := 690) (by decide) (Int32.toNatClampNeg (((6 : Int32) * p1) + (5 : Int32)))
  refine T_bind (tF_X9_in S1 h1 p2 0 _) (fun v8 r8 => ?_)
  refine T_ite (fun _ => tB_X9_kept_55 (w360 := w360) S1 h1 _ q eq gq _ _ (fun h => absurd h (by decide))) (fun c8 => ?_)
  obtain ⟨i, hi, ei⟩ := in_nat (r8.resolve_left c8).2 ej (by omega)
  exact tB_X9_kept_55 (w360 := w360) S1 h1 _ q eq gq _ _ (fun _ => ⟨i, by omega, ei⟩)
set_option maxHeartbeats 1000000 in
theorem tF_X9_leads {m : Nat} {G : Nat → Nat} {Λ : sLay} {Y : gY} (w360 : Y.2.2 360 = false) (w390 : Y.2.2 390 = false) (S : sSt) (hS : MI m G Λ Y S) (p1 : Int32) (p2 : Int32) : T (F_X9_leads Λ.2.2 S m p1 p2) (fun r : Int32 × sSt => MI m G Λ Y r.2) := by
  unfold F_X9_leads
  refine T_st (fun S1 eS1 => ?_)
  have hS1 : MI m G Λ Y S1 := by rw [eS1]; exact (hS).wF (f := 360) w360 (rg0 (P := fun B => nB B _) (by decide))
  refine T_bind (tF_X9_isUnit S1 hS1 _) (fun v2 rv2 => ?_)
  refine T_ite (fun c1 => ?_) (fun c1 => ?_)
  · skip
    exact T_some hS1
  · skip
    obtain ⟨j1, g1, e1⟩ := (rv2).resolve_left c1
    refine T_bind (tF_X9_isUnit S1 hS1 _) (fun v4 rv4 => ?_)
    refine T_ite (fun c2 => ?_) (fun c2 => ?_)
    · skip
      exact T_some hS1
    · skip
      obtain ⟨j2, g2, e2⟩ := (rv4).resolve_left c2
      refine T_bind (tF_X9_findLeads (w390 := w390) S1 hS1 ) (fun S7 rS7 => ?_)
      obtain ⟨rS7, trS7⟩ := rS7
      have hS7 := rS7
      refine T_m ((hS7).c.rf (f := 390) (by decide)) ?_
      refine T_bsome ?_
      refine T_gi (g_in ((hS).c.l (f := 390) (kd := 12) (n := 256) (by decide)) (e_add (e_mul k16 e1) e2) (by omega) (by omega)) ?_
      refine T_ite (fun c3 => ?_) (fun c3 => ?_)
      · skip
        exact T_some hS7
      · skip
        exact T_some hS7
set_option maxHeartbeats 1000000 in
theorem tB_X9_make_79 {m : Nat} {G : Nat → Nat} {Λ : sLay} {Y : gY} {n30 : Nat} {k30 : sSt → Nat → Int32 → Int32 → Int32 → Option (Int32 × sSt)} (hk30 : ∀ (S : sSt) (hS : MI m G Λ Y S) (p1 : Int32) (p2 : Int32) (p3 : Int32) (qp3 : Nat) (ep3 : p3 = nI qp3) (bp3 : qp3 ≤ 16), (17 ≤ qp3 + n30) → T (k30 S m p1 p2 p3) (fun r : Int32 × sSt => MI m G Λ Y r.2)) (S : sSt) (hS : MI m G Λ Y S) (p1 : Int32) (p2 : Int32) (p3 : Int32) (qp3 : Nat) (ep3 : p3 = nI qp3) (bp3 : qp3 ≤ 15) (f0 : 17 ≤ qp3 + n30 + 1) : T (B_X9_make_79 Λ.2.2 k30 S m p1 p2 p3) (fun r : Int32 × sSt => MI m G Λ Y r.2) := by
  unfold B_X9_make_79
  exact hk30 S hS _ _ _ (qp3 + 1) (e_add ep3 k1) (by omega) (by omega)
set_option maxHeartbeats 1000000 in
theorem tY_X9_make_30 {m : Nat} {G : Nat → Nat} {Λ : sLay} {Y : gY} (w375 : Y.2.2 375 = false) (w376 : Y.2.2 376 = false) (w377 : Y.2.2 377 = false) (w378 : Y.2.2 378 = false) (w387 : Y.2.2 387 = false) (w388 : Y.2.2 388 = false) (w389 : Y.2.2 389 = false) {n : Nat} {rec : sSt → Nat → Int32 → Int32 → Int32 → Option (Int32 × sSt)} (hrec : ∀ (S : sSt) (hS : MI m G Λ Y S) (p1 : Int32) (p2 : Int32) (p3 : Int32) (qp3 : Nat) (ep3 : p3 = nI qp3) (bp3 : qp3 ≤ 16), (17 ≤ qp3 + n) → T (rec S m p1 p2 p3) (fun r : Int32 × sSt => MI m G Λ Y r.2)) (S : sSt) (hS : MI m G Λ Y S) (p1 : Int32) (p2 : Int32) (p3 : Int32) (qp3 : Nat) (ep3 : p3 = nI qp3) (bp3 : qp3 ≤ 16) (hm : 17 ≤ qp3 + (n + 1)) : T (Y_X9_make_30 Λ.2.2 rec S m p1 p2 p3) (fun r : Int32 × sSt => MI m G Λ Y r.2) := by
  unfold Y_X9_make_30
  obtain ⟨j2, g2, e2⟩ := (hS).c.f (f := 393) (B := 16) (by decide)
  refine T_ite (fun c1 => ?_) (fun c1 => ?_)
  · skip
    have d1 := (e_le e2 ep3 (by omega) (by omega)).mp c1
    exact T_some hS
  · skip
    have d1 := mt (e_le e2 ep3 (by omega) (by omega)).mpr c1
    refine T_ite (fun c3 => ?_) (fun c3 => ?_)
    · skip
      exact T_some hS
    · skip
      refine T_m ((hS).c.rf (f := 392) (by decide)) ?_
      refine T_bsome ?_
      refine T_gi (g_in ((hS).c.l (f := 392) (kd := 10) (n := 16) (by decide)) ep3 (by omega) (by omega)) ?_
      obtain ⟨j4, g4, e4⟩ := (hS).c.n (f := 392) (B := 15) (by decide) (Int32.toNatClampNeg p3)
      refine T_bind (tF_X9_layRow (w387 := w387) (w388 := w388) (w389 := w389) S hS _ j4 e4 (by omega)) (fun S11 rS11 => ?_)
      obtain ⟨rS11, kS11, uS11, lS11⟩ := rS11
      have hS11 := rS11
      refine T_m ((hS11).c.rf (f := 392) (by decide)) ?_
      refine T_bsome ?_
      refine T_gi (g_in ((hS).c.l (f := 392) (kd := 10) (n := 16) (by decide)) ep3 (by omega) (by omega)) ?_
      obtain ⟨j5, g5, e5⟩ := (hS11).c.n (f := 392) (B := 15) (by decide) (Int32.toNatClampNeg p3)
      refine T_bind (tF_X9_whyOf S11 hS11 _ j5 e5 (by omega)) (fun v14 rv14 => ?_)
      refine T_ite (fun c6 => ?_) (fun c6 => ?_)
      · skip
        exact tB_X9_make_79 (n30 := n) (k30 := rec) (hk30 := hrec) S11 hS11 _ _ _ qp3 ep3 (by omega) (by omega)
      · skip
        refine T_m ((hS11).c.rf (f := 392) (by decide)) ?_
        refine T_bsome ?_
        refine T_gi (g_in ((hS).c.l (f := 392) (kd := 10) (n := 16) (by decide)) ep3 (by omega) (by omega)) ?_
        refine T_bind (tF_X9_keep (w375 := w375) (w376 := w376) (w377 := w377) (w378 := w378) S11 hS11 _ j5 e5 (by omega)) (fun S19 rS19 => ?_)
        have hS19 := rS19
        exact tB_X9_make_79 (n30 := n) (k30 := rec) (hk30 := hrec) S19 hS19 _ _ _ qp3 ep3 (by omega) (by omega)
theorem tL_X9_make_30 {m : Nat} {G : Nat → Nat} {Λ : sLay} {Y : gY} (w375 : Y.2.2 375 = false) (w376 : Y.2.2 376 = false) (w377 : Y.2.2 377 = false) (w378 : Y.2.2 378 = false) (w387 : Y.2.2 387 = false) (w388 : Y.2.2 388 = false) (w389 : Y.2.2 389 = false) : ∀ (n : Nat) (S : sSt) (hS : MI m G Λ Y S) (p1 : Int32) (p2 : Int32) (p3 : Int32) (qp3 : Nat) (ep3 : p3 = nI qp3) (bp3 : qp3 ≤ 16) (_ : 17 ≤ qp3 + n), T (L_X9_make_30 Λ.2.2 n S m p1 p2 p3) (fun r : Int32 × sSt => MI m G Λ Y r.2) := by
  intro n
  induction n with
  | zero =>
    intro S hS p1 p2 p3 qp3 ep3 bp3 hm
    exfalso
    omega
  | succ n ih =>
    intro S hS p1 p2 p3 qp3 ep3 bp3 hm
    exact tY_X9_make_30 (w375 := w375) (w376 := w376) (w377 := w377) (w378 := w378) (w387 := w387) (w388 := w388) (w389 := w389) (n := n) (rec := L_X9_make_30 Λ.2.2 n) (hrec := ih) (S := S) (hS := hS) (p1 := p1) (p2 := p2) (p3 := p3) (qp3 := qp3) (ep3 := ep3) (bp3 := bp3) (hm := hm)
set_option maxHeartbeats 1000000 in
theorem tF_X9_make {m : Nat} {G : Nat → Nat} {Λ : sLay} {Y : gY} (w360 : Y.2.2 360 = false) (w375 : Y.2.2 375 = false) (w376 : Y.2.2 376 = false) (w377 : Y.2.2 377 = false) (w378 : Y.2.2 378 = false) (w379 : Y.2.2 379 = false) (w380 : Y.2.2 380 = false) (w381 : Y.2.2 381 = false) (w387 : Y.2.2 387 = false) (w388 : Y.2.2 388 = false) (w389 : Y.2.2 389 = false) (w390 : Y.2.2 390 = false) (w391 : Y.2.2 391 = false) (w392 : Y.2.2 392 = false) (w393 : Y.2.2 393 = false) (w394 : Y.2.2 394 = false) (S : sSt) (hS : MI m G Λ Y S) (p1 : Int32) : T (F_X9_make Λ.2.2 S m p1) (fun r : Int32 × sSt => MI m G Λ Y r.2) := by
  unfold F_X9_make
  have hFU := FU_big
  refine T_st (fun S1 eS1 => ?_)
  have hS1 : MI m G Λ Y S1 := by rw [eS1]; exact (hS).wF (f := 360) w360 (rg0 (P := fun B => nB B _) (by decide))
  refine T_bind (tF_X9_in S1 hS1 _ _ _) (fun v2 rv2 => ?_)
  refine T_ite (fun c1 => ?_) (fun c1 => ?_)
  · skip
    exact T_some hS1
  · skip
    obtain ⟨j1, g1, e1⟩ := in_nat2 ((rv2).resolve_left c1).2 (n := 16) rfl (by omega)
    refine T_bind (tF_X9_findOrder (w390 := w390) (w391 := w391) (w392 := w392) (w393 := w393) (w394 := w394) S1 hS1 ) (fun S5 rS5 => ?_)
    have hS5 := rS5
    refine T_bind (tF_X9_reckon (w379 := w379) (w380 := w380) (w381 := w381) S5 hS5 ) (fun S7 rS7 => ?_)
    have hS7 := rS7
    exact tL_X9_make_30 (w375 := w375) (w376 := w376) (w377 := w377) (w378 := w378) (w387 := w387) (w388 := w388) (w389 := w389) FU S7 hS7 _ _ _ 0 k0 (by omega) (by omega)
set_option maxHeartbeats 1000000 in
theorem tB_X9_missing_128 {m : Nat} {G : Nat → Nat} {Λ : sLay} {Y : gY} {n69 : Nat} {k69 : sSt → Nat → Int32 → Int32 → Int32 → Option (Int32 × sSt)} (hk69 : ∀ (S : sSt) (hS : MI m G Λ Y S) (p1 : Int32) (qp1 : Nat) (ep1 : p1 = nI qp1) (bp1 : qp1 ≤ 15) (p2 : Int32) (p3 : Int32) (qp3 : Nat) (ep3 : p3 = nI qp3) (bp3 : qp3 ≤ 160), (161 ≤ qp3 + n69) → T (k69 S m p1 p2 p3) (fun r : Int32 × sSt => MI m G Λ Y r.2)) {n87 : Nat} {k87 : sSt → Nat → Int32 → Int32 → Int32 → Int32 → Option (Int32 × sSt)} (hk87 : ∀ (S : sSt) (hS : MI m G Λ Y S) (p1 : Int32) (qp1 : Nat) (ep1 : p1 = nI qp1) (bp1 : qp1 ≤ 15) (p2 : Int32) (p3 : Int32) (qp3 : Nat) (ep3 : p3 = nI qp3) (bp3 : qp3 ≤ 159) (p4 : Int32) (qp4 : Nat) (ep4 : p4 = nI qp4) (bp4 : qp4 ≤ 3), (161 ≤ qp3 + n69 + 1) → (4 ≤ qp4 + n87) → T (k87 S m p1 p2 p3 p4) (fun r : Int32 × sSt => MI m G Λ Y r.2)) (S : sSt) (hS : MI m G Λ Y S) (p1 : Int32) (qp1 : Nat) (ep1 : p1 = nI qp1) (bp1 : qp1 ≤ 15) (p3 : Int32) (qp3 : Nat) (ep3 : p3 = nI qp3) (bp3 : qp3 ≤ 159) (p4 : Int32) (qp4 : Nat) (ep4 : p4 = nI qp4) (bp4 : qp4 ≤ 2) (s0 : Int32) (s1 : Int32) (f0 : 161 ≤ qp3 + n69 + 1) (f1 : 4 ≤ qp4 + n87 + 1) : T (B_X9_missing_128 Λ.2.2 k69 k87 S m p1 p3 p4 s0 s1) (fun r : Int32 × sSt => MI m G Λ Y r.2) := by
  unfold B_X9_missing_128
  exact hk87 S hS _ qp1 ep1 (by omega) _ _ qp3 ep3 (by omega) _ (qp4 + 1) (e_add ep4 k1) (by omega) (by omega) (by omega)
set_option maxHeartbeats 1000000 in
theorem tY_X9_missing_87 {m : Nat} {G : Nat → Nat} {Λ : sLay} {Y : gY} {n69 : Nat} {k69 : sSt → Nat → Int32 → Int32 → Int32 → Option (Int32 × sSt)} (hk69 : ∀ (S : sSt) (hS : MI m G Λ Y S) (p1 : Int32) (qp1 : Nat) (ep1 : p1 = nI qp1) (bp1 : qp1 ≤ 15) (p2 : Int32) (p3 : Int32) (qp3 : Nat) (ep3 : p3 = nI qp3) (bp3 : qp3 ≤ 160), (161 ≤ qp3 + n69) → T (k69 S m p1 p2 p3) (fun r : Int32 × sSt => MI m G Λ Y r.2)) {n : Nat} {rec : sSt → Nat → Int32 → Int32 → Int32 → Int32 → Option (Int32 × sSt)} (hrec : ∀ (S : sSt) (hS : MI m G Λ Y S) (p1 : Int32) (qp1 : Nat) (ep1 : p1 = nI qp1) (bp1 : qp1 ≤ 15) (p2 : Int32) (p3 : Int32) (qp3 : Nat) (ep3 : p3 = nI qp3) (bp3 : qp3 ≤ 159) (p4 : Int32) (qp4 : Nat) (ep4 : p4 = nI qp4) (bp4 : qp4 ≤ 3), (161 ≤ qp3 + n69 + 1) → (4 ≤ qp4 + n) → T (rec S m p1 p2 p3 p4) (fun r : Int32 × sSt => MI m G Λ Y r.2)) (S : sSt) (hS : MI m G Λ Y S) (p1 : Int32) (qp1 : Nat) (ep1 : p1 = nI qp1) (bp1 : qp1 ≤ 15) (p2 : Int32) (p3 : Int32) (qp3 : Nat) (ep3 : p3 = nI qp3) (bp3 : qp3 ≤ 159) (p4 : Int32) (qp4 : Nat) (ep4 : p4 = nI qp4) (bp4 : qp4 ≤ 3) (f0 : 161 ≤ qp3 + n69 + 1) (hm : 4 ≤ qp4 + (n + 1)) : T (Y_X9_missing_87 Λ.2.2 k69 rec S m p1 p2 p3 p4) (fun r : Int32 × sSt => MI m G Λ Y r.2) := by
  unfold Y_X9_missing_87
  refine T_m ((hS).c.rf (f := 367) (by decide)) ?_
  refine T_bsome ?_
  refine T_gi (g_in ((hS).c.l (f := 367) (kd := 10) (n := 160) (by decide)) ep3 (by omega) (by omega)) ?_
  obtain ⟨j2, g2, e2⟩ := (hS).c.n (f := 367) (B := 3) (by decide) (Int32.toNatClampNeg p3)
  refine T_ite (fun c1 => ?_) (fun c1 => ?_)
  · skip
    have d1 := (e_le e2 ep4 (by omega) (by omega)).mp c1
    exact hk69 S hS _ qp1 ep1 (by omega) _ _ (qp3 + 1) (e_add ep3 k1) (by omega) (by omega)
  · skip
    have d1 := mt (e_le e2 ep4 (by omega) (by omega)).mpr c1
    refine T_m ((hS).c.rf (f := 368) (by decide)) ?_
    refine T_bsome ?_
    refine T_gi (g_in ((hS).c.l (f := 368) (kd := 10) (n := 480) (by decide)) (e_add (e_mul k3 ep3) ep4) (by omega) (by omega)) ?_
    refine T_bind (tF_X9_find S hS _ qp1 ep1 (by omega) _) (fun v12 rv12 => ?_)
    refine T_ite (fun c3 => ?_) (fun c3 => ?_)
    · skip
      exact tB_X9_missing_128 (n69 := n69) (k69 := k69) (hk69 := hk69) (n87 := n) (k87 := rec) (hk87 := hrec) S hS _ qp1 ep1 (by omega) _ qp3 ep3 (by omega) _ qp4 ep4 (by omega) _ _ (by omega) (by omega)
    · skip
      obtain ⟨j3, g3, e3⟩ := oB.ne rv12 c3
      exact tB_X9_missing_128 (n69 := n69) (k69 := k69) (hk69 := hk69) (n87 := n) (k87 := rec) (hk87 := hrec) S hS _ qp1 ep1 (by omega) _ qp3 ep3 (by omega) _ qp4 ep4 (by omega) _ _ (by omega) (by omega)
theorem tL_X9_missing_87 {m : Nat} {G : Nat → Nat} {Λ : sLay} {Y : gY} {n69 : Nat} {k69 : sSt → Nat → Int32 → Int32 → Int32 → Option (Int32 × sSt)} (hk69 : ∀ (S : sSt) (hS : MI m G Λ Y S) (p1 : Int32) (qp1 : Nat) (ep1 : p1 = nI qp1) (bp1 : qp1 ≤ 15) (p2 : Int32) (p3 : Int32) (qp3 : Nat) (ep3 : p3 = nI qp3) (bp3 : qp3 ≤ 160), (161 ≤ qp3 + n69) → T (k69 S m p1 p2 p3) (fun r : Int32 × sSt => MI m G Λ Y r.2)) : ∀ (n : Nat) (S : sSt) (hS : MI m G Λ Y S) (p1 : Int32) (qp1 : Nat) (ep1 : p1 = nI qp1) (bp1 : qp1 ≤ 15) (p2 : Int32) (p3 : Int32) (qp3 : Nat) (ep3 : p3 = nI qp3) (bp3 : qp3 ≤ 159) (p4 : Int32) (qp4 : Nat) (ep4 : p4 = nI qp4) (bp4 : qp4 ≤ 3) (_ : 161 ≤ qp3 + n69 + 1) (_ : 4 ≤ qp4 + n), T (L_X9_missing_87 Λ.2.2 k69 n S m p1 p2 p3 p4) (fun r : Int32 × sSt => MI m G Λ Y r.2) := by
  intro n
  induction n with
  | zero =>
    intro S hS p1 qp1 ep1 bp1 p2 p3 qp3 ep3 bp3 p4 qp4 ep4 bp4 f0 hm
    exfalso
    omega
  | succ n ih =>
    intro S hS p1 qp1 ep1 bp1 p2 p3 qp3 ep3 bp3 p4 qp4 ep4 bp4 f0 hm
    exact tY_X9_missing_87 (n := n) (rec := L_X9_missing_87 Λ.2.2 k69 n) (hrec := ih) (n69 := n69) (k69 := k69) (hk69 := hk69) (S := S) (hS := hS) (p1 := p1) (qp1 := qp1) (ep1 := ep1) (bp1 := bp1) (p2 := p2) (p3 := p3) (qp3 := qp3) (ep3 := ep3) (bp3 := bp3) (p4 := p4) (qp4 := qp4) (ep4 := ep4) (bp4 := bp4) (f0 := f0) (hm := hm)
set_option maxHeartbeats 1000000 in
theorem tY_X9_missing_69 {m : Nat} {G : Nat → Nat} {Λ : sLay} {Y : gY} {n : Nat} {rec : sSt → Nat → Int32 → Int32 → Int32 → Option (Int32 × sSt)} (hrec : ∀ (S : sSt) (hS : MI m G Λ Y S) (p1 : Int32) (qp1 : Nat) (ep1 : p1 = nI qp1) (bp1 : qp1 ≤ 15) (p2 : Int32) (p3 : Int32) (qp3 : Nat) (ep3 : p3 = nI qp3) (bp3 : qp3 ≤ 160), (161 ≤ qp3 + n) → T (rec S m p1 p2 p3) (fun r : Int32 × sSt => MI m G Λ Y r.2)) (S : sSt) (hS : MI m G Λ Y S) (p1 : Int32) (qp1 : Nat) (ep1 : p1 = nI qp1) (bp1 : qp1 ≤ 15) (p2 : Int32) (p3 : Int32) (qp3 : Nat) (ep3 : p3 = nI qp3) (bp3 : qp3 ≤ 160) (hm : 161 ≤ qp3 + (n + 1)) : T (Y_X9_missing_69 Λ.2.2 rec S m p1 p2 p3) (fun r : Int32 × sSt => MI m G Λ Y r.2) := by
  unfold Y_X9_missing_69
  have hFU := FU_big
  refine T_m ((hS).c.rf (f := 363) (by decide)) ?_
  refine T_bsome ?_
  refine T_gi (g_in ((hS).c.l (f := 363) (kd := 10) (n := 16) (by decide)) ep1 (by omega) (by omega)) ?_
  obtain ⟨j2, g2, e2⟩ := (hS).c.n (f := 363) (B := 10) (by decide) (Int32.toNatClampNeg p1)
  refine T_ite (fun c1 => ?_) (fun c1 => ?_)
  · skip
    have d1 := (e_le (e_add (e_mul k10 ep1) e2) ep3 (by omega) (by omega)).mp c1
    exact T_some hS
  · skip
    have d1 := mt (e_le (e_add (e_mul k10 ep1) e2) ep3 (by omega) (by omega)).mpr c1
    exact tL_X9_missing_87 (n69 := n) (k69 := rec) (hk69 := hrec) FU S hS _ qp1 ep1 (by omega) _ _ qp3 ep3 (by omega) _ 0 k0 (by omega) (by omega) (by omega)
theorem tL_X9_missing_69 {m : Nat} {G : Nat → Nat} {Λ : sLay} {Y : gY} : ∀ (n : Nat) (S : sSt) (hS : MI m G Λ Y S) (p1 : Int32) (qp1 : Nat) (ep1 : p1 = nI qp1) (bp1 : qp1 ≤ 15) (p2 : Int32) (p3 : Int32) (qp3 : Nat) (ep3 : p3 = nI qp3) (bp3 : qp3 ≤ 160) (_ : 161 ≤ qp3 + n), T (L_X9_missing_69 Λ.2.2 n S m p1 p2 p3) (fun r : Int32 × sSt => MI m G Λ Y r.2) := by
  intro n
  induction n with
  | zero =>
    intro S hS p1 qp1 ep1 bp1 p2 p3 qp3 ep3 bp3 hm
    exfalso
    omega
  | succ n ih =>
    intro S hS p1 qp1 ep1 bp1 p2 p3 qp3 ep3 bp3 hm
    exact tY_X9_missing_69 (n := n) (rec := L_X9_missing_69 Λ.2.2 n) (hrec := ih) (S := S) (hS := hS) (p1 := p1) (qp1 := qp1) (ep1 := ep1) (bp1 := bp1) (p2 := p2) (p3 := p3) (qp3 := qp3) (ep3 := ep3) (bp3 := bp3) (hm := hm)
set_option maxHeartbeats 1000000 in
theorem tB_X9_missing_56 {m : Nat} {G : Nat → Nat} {Λ : sLay} {Y : gY} {n19 : Nat} {k19 : sSt → Nat → Int32 → Int32 → Int32 → Option (Int32 × sSt)} (hk19 : ∀ (S : sSt) (hS : MI m G Λ Y S) (p1 : Int32) (qp1 : Nat) (ep1 : p1 = nI qp1) (bp1 : qp1 ≤ 15) (p2 : Int32) (p3 : Int32) (qp3 : Nat) (ep3 : p3 = nI qp3) (bp3 : qp3 ≤ 12), (13 ≤ qp3 + n19) → T (k19 S m p1 p2 p3) (fun r : Int32 × sSt => MI m G Λ Y r.2)) (S : sSt) (hS : MI m G Λ Y S) (p1 : Int32) (qp1 : Nat) (ep1 : p1 = nI qp1) (bp1 : qp1 ≤ 15) (p3 : Int32) (qp3 : Nat) (ep3 : p3 = nI qp3) (bp3 : qp3 ≤ 11) (s0 : Int32) (s1 : Int32) (f0 : 13 ≤ qp3 + n19 + 1) : T (B_X9_missing_56 Λ.2.2 k19 S m p1 p3 s0 s1) (fun r : Int32 × sSt => MI m G Λ Y r.2) := by
  unfold B_X9_missing_56
  exact hk19 S hS _ qp1 ep1 (by omega) _ _ (qp3 + 1) (e_add ep3 k1) (by omega) (by omega)
set_option maxHeartbeats 1000000 in
theorem tY_X9_missing_19 {m : Nat} {G : Nat → Nat} {Λ : sLay} {Y : gY} {n : Nat} {rec : sSt → Nat → Int32 → Int32 → Int32 → Option (Int32 × sSt)} (hrec : ∀ (S : sSt) (hS : MI m G Λ Y S) (p1 : Int32) (qp1 : Nat) (ep1 : p1 = nI qp1) (bp1 : qp1 ≤ 15) (p2 : Int32) (p3 : Int32) (qp3 : Nat) (ep3 : p3 = nI qp3) (bp3 : qp3 ≤ 12), (13 ≤ qp3 + n) → T (rec S m p1 p2 p3) (fun r : Int32 × sSt => MI m G Λ Y r.2)) (S : sSt) (hS : MI m G Λ Y S) (p1 : Int32) (qp1 : Nat) (ep1 : p1 = nI qp1) (bp1 : qp1 ≤ 15) (p2 : Int32) (p3 : Int32) (qp3 : Nat) (ep3 : p3 = nI qp3) (bp3 : qp3 ≤ 12) (hm : 13 ≤ qp3 + (n + 1)) : T (Y_X9_missing_19 Λ.2.2 rec S m p1 p2 p3) (fun r : Int32 × sSt => MI m G Λ Y r.2) := by
  unfold Y_X9_missing_19
  have hFU := FU_big
  refine T_m ((hS).c.rf (f := 371) (by decide)) ?_
  refine T_bsome ?_
  refine T_gi (g_in ((hS).c.l (f := 371) (kd := 10) (n := 16) (by decide)) ep1 (by omega) (by omega)) ?_
  obtain ⟨j2, g2, e2⟩ := (hS).c.n (f := 371) (B := 12) (by decide) (Int32.toNatClampNeg p1)
  refine T_ite (fun c1 => ?_) (fun c1 => ?_)
  · skip
    have d1 := (e_le e2 ep3 (by omega) (by omega)).mp c1
    exact tL_X9_missing_69 FU S hS _ qp1 ep1 (by omega) _ _ (10 * qp1) (e_mul k10 ep1) (by omega) (by omega)
  · skip
    have d1 := mt (e_le e2 ep3 (by omega) (by omega)).mpr c1
    refine T_m ((hS).c.rf (f := 372) (by decide)) ?_
    refine T_bsome ?_
    refine T_gi (g_in ((hS).c.l (f := 372) (kd := 10) (n := 192) (by decide)) (e_add (e_mul k12 ep1) ep3) (by omega) (by omega)) ?_
    refine T_bind (tF_X9_find S hS _ qp1 ep1 (by omega) _) (fun v16 rv16 => ?_)
    refine T_ite (fun c3 => ?_) (fun c3 => ?_)
    · skip
      exact tB_X9_missing_56 (n19 := n) (k19 := rec) (hk19 := hrec) S hS _ qp1 ep1 (by omega) _ qp3 ep3 (by omega) _ _ (by omega)
    · skip
      obtain ⟨j3, g3, e3⟩ := oB.ne rv16 c3
      exact tB_X9_missing_56 (n19 := n) (k19 := rec) (hk19 := hrec) S hS _ qp1 ep1 (by omega) _ qp3 ep3 (by omega) _ _ (by omega)
theorem tL_X9_missing_19 {m : Nat} {G : Nat → Nat} {Λ : sLay} {Y : gY} : ∀ (n : Nat) (S : sSt) (hS : MI m G Λ Y S) (p1 : Int32) (qp1 : Nat) (ep1 : p1 = nI qp1) (bp1 : qp1 ≤ 15) (p2 : Int32) (p3 : Int32) (qp3 : Nat) (ep3 : p3 = nI qp3) (bp3 : qp3 ≤ 12) (_ : 13 ≤ qp3 + n), T (L_X9_missing_19 Λ.2.2 n S m p1 p2 p3) (fun r : Int32 × sSt => MI m G Λ Y r.2) := by
  intro n
  induction n with
  | zero =>
    intro S hS p1 qp1 ep1 bp1 p2 p3 qp3 ep3 bp3 hm
    exfalso
    omega
  | succ n ih =>
    intro S hS p1 qp1 ep1 bp1 p2 p3 qp3 ep3 bp3 hm
    exact tY_X9_missing_19 (n := n) (rec := L_X9_missing_19 Λ.2.2 n) (hrec := ih) (S := S) (hS := hS) (p1 := p1) (qp1 := qp1) (ep1 := ep1) (bp1 := bp1) (p2 := p2) (p3 := p3) (qp3 := qp3) (ep3 := ep3) (bp3 := bp3) (hm := hm)
set_option maxHeartbeats 1000000 in
theorem tF_X9_missing {m : Nat} {G : Nat → Nat} {Λ : sLay} {Y : gY} (w360 : Y.2.2 360 = false) (S : sSt) (hS : MI m G Λ Y S) (p1 : Int32) : T (F_X9_missing Λ.2.2 S m p1) (fun r : Int32 × sSt => MI m G Λ Y r.2) := by
  unfold F_X9_missing
  have hFU := FU_big
  refine T_st (fun S1 eS1 => ?_)
  have hS1 : MI m G Λ Y S1 := by rw [eS1]; exact (hS).wF (f := 360) w360 (rg0 (P := fun B => nB B _) (by decide))
  refine T_bind (tF_X9_isUnit S1 hS1 _) (fun v2 rv2 => ?_)
  refine T_ite (fun c1 => ?_) (fun c1 => ?_)
  · skip
    exact T_some hS1
  · skip
    obtain ⟨j1, g1, e1⟩ := (rv2).resolve_left c1
    exact tL_X9_missing_19 FU S1 hS1 _ j1 e1 (by omega) _ _ 0 k0 (by omega) (by omega)
set_option maxHeartbeats 1000000 in
theorem tB_X9_needs_51 {m : Nat} {G : Nat → Nat} {Λ : sLay} {Y : gY} {n13 : Nat} {k13 : sSt → Nat → Int32 → Int32 → Option (Int32 × sSt)} (hk13 : ∀ (S : sSt) (hS : MI m G Λ Y S) (p1 : Int32) (p2 : Int32) (qp2 : Nat) (ep2 : p2 = nI qp2) (bp2 : qp2 ≤ 16), (17 ≤ qp2 + n13) → T (k13 S m p1 p2) (fun r : Int32 × sSt => MI m G Λ Y r.2)) (S : sSt) (hS : MI m G Λ Y S) (p1 : Int32) (p2 : Int32) (qp2 : Nat) (ep2 : p2 = nI qp2) (bp2 : qp2 ≤ 15) (f0 : 17 ≤ qp2 + n13 + 1) : T (B_X9_needs_51 Λ.2.2 k13 S m p1 p2) (fun r : Int32 × sSt => MI m G Λ Y r.2) := by
  unfold B_X9_needs_51
  exact hk13 S hS _ _ (qp2 + 1) (e_add ep2 k1) (by omega) (by omega)
set_option maxHeartbeats 1000000 in
theorem tB_X9_needs_49 {m : Nat} {G : Nat → Nat} {Λ : sLay} {Y : gY} {n13 : Nat} {k13 : sSt → Nat → Int32 → Int32 → Option (Int32 × sSt)} (hk13 : ∀ (S : sSt) (hS : MI m G Λ Y S) (p1 : Int32) (p2 : Int32) (qp2 : Nat) (ep2 : p2 = nI qp2) (bp2 : qp2 ≤ 16), (17 ≤ qp2 + n13) → T (k13 S m p1 p2) (fun r : Int32 × sSt => MI m G Λ Y r.2)) (S : sSt) (hS : MI m G Λ Y S) (p2 : Int32) (qp2 : Nat) (ep2 : p2 = nI qp2) (bp2 : qp2 ≤ 15) (s0 : Int32) (s1 : Int32) (f0 : 17 ≤ qp2 + n13 + 1) : T (B_X9_needs_49 Λ.2.2 k13 S m p2 s0 s1) (fun r : Int32 × sSt => MI m G Λ Y r.2) := by
  unfold B_X9_needs_49
  exact tB_X9_needs_51 (n13 := n13) (k13 := k13) (hk13 := hk13) S hS _ _ qp2 ep2 (by omega) (by omega)
set_option maxHeartbeats 1000000 in
theorem tY_X9_needs_13 {m : Nat} {G : Nat → Nat} {Λ : sLay} {Y : gY} (w387 : Y.2.2 387 = false) (w388 : Y.2.2 388 = false) (w389 : Y.2.2 389 = false) {n : Nat} {rec : sSt → Nat → Int32 → Int32 → Option (Int32 × sSt)} (hrec : ∀ (S : sSt) (hS : MI m G Λ Y S) (p1 : Int32) (p2 : Int32) (qp2 : Nat) (ep2 : p2 = nI qp2) (bp2 : qp2 ≤ 16), (17 ≤ qp2 + n) → T (rec S m p1 p2) (fun r : Int32 × sSt => MI m G Λ Y r.2)) (S : sSt) (hS : MI m G Λ Y S) (p1 : Int32) (p2 : Int32) (qp2 : Nat) (ep2 : p2 = nI qp2) (bp2 : qp2 ≤ 16) (hm : 17 ≤ qp2 + (n + 1)) : T (Y_X9_needs_13 Λ.2.2 rec S m p1 p2) (fun r : Int32 × sSt => MI m G Λ Y r.2) := by
  unfold Y_X9_needs_13
  obtain ⟨j2, g2, e2⟩ := (hS).c.f (f := 361) (B := 16) (by decide)
  refine T_ite (fun c1 => ?_) (fun c1 => ?_)
  · skip
    have d1 := (e_le e2 ep2 (by omega) (by omega)).mp c1
    exact T_some hS
  · skip
    have d1 := mt (e_le e2 ep2 (by omega) (by omega)).mpr c1
    refine T_m ((hS).c.rf (f := 362) (by decide)) ?_
    refine T_bsome ?_
    refine T_gi (g_in ((hS).c.l (f := 362) (kd := 12) (n := 16) (by decide)) ep2 (by omega) (by omega)) ?_
    refine T_ite (fun c3 => ?_) (fun c3 => ?_)
    · skip
      exact tB_X9_needs_51 (n13 := n) (k13 := rec) (hk13 := hrec) S hS _ _ qp2 ep2 (by omega) (by omega)
    · skip
      refine T_bind (tF_X9_layRow (w387 := w387) (w388 := w388) (w389 := w389) S hS _ qp2 ep2 (by omega)) (fun S7 rS7 => ?_)
      obtain ⟨rS7, kS7, uS7, lS7⟩ := rS7
      have hS7 := rS7
      refine T_bind (tF_X9_whyOf S7 hS7 _ qp2 ep2 (by omega)) (fun v8 rv8 => ?_)
      refine T_ite (fun c4 => ?_) (fun c4 => ?_)
      · skip
        exact tB_X9_needs_49 (n13 := n) (k13 := rec) (hk13 := hrec) S7 hS7 _ qp2 ep2 (by omega) _ _ (by omega)
      · skip
        exact tB_X9_needs_49 (n13 := n) (k13 := rec) (hk13 := hrec) S7 hS7 _ qp2 ep2 (by omega) _ _ (by omega)
theorem tL_X9_needs_13 {m : Nat} {G : Nat → Nat} {Λ : sLay} {Y : gY} (w387 : Y.2.2 387 = false) (w388 : Y.2.2 388 = false) (w389 : Y.2.2 389 = false) : ∀ (n : Nat) (S : sSt) (hS : MI m G Λ Y S) (p1 : Int32) (p2 : Int32) (qp2 : Nat) (ep2 : p2 = nI qp2) (bp2 : qp2 ≤ 16) (_ : 17 ≤ qp2 + n), T (L_X9_needs_13 Λ.2.2 n S m p1 p2) (fun r : Int32 × sSt => MI m G Λ Y r.2) := by
  intro n
  induction n with
  | zero =>
    intro S hS p1 p2 qp2 ep2 bp2 hm
    exfalso
    omega
  | succ n ih =>
    intro S hS p1 p2 qp2 ep2 bp2 hm
    exact tY_X9_needs_13 (w387 := w387) (w388 := w388) (w389 := w389) (n := n) (rec := L_X9_needs_13 Λ.2.2 n) (hrec := ih) (S := S) (hS := hS) (p1 := p1) (p2 := p2) (qp2 := qp2) (ep2 := ep2) (bp2 := bp2) (hm := hm)
set_option maxHeartbeats 1000000 in
theorem tF_X9_needs {m : Nat} {G : Nat → Nat} {Λ : sLay} {Y : gY} (w360 : Y.2.2 360 = false) (w379 : Y.2.2 379 = false) (w380 : Y.2.2 380 = false) (w381 : Y.2.2 381 = false) (w387 : Y.2.2 387 = false) (w388 : Y.2.2 388 = false) (w389 : Y.2.2 389 = false) (S : sSt) (hS : MI m G Λ Y S) : T (F_X9_needs Λ.2.2 S m) (fun r : Int32 × sSt => MI m G Λ Y r.2) := by
  unfold F_X9_needs
  have hFU := FU_big
  refine T_st (fun S1 eS1 => ?_)
  have hS1 : MI m G Λ Y S1 := by rw [eS1]; exact (hS).wF (f := 360) w360 (rg0 (P := fun B => nB B _) (by decide))
  refine T_bind (tF_X9_reckon (w379 := w379) (w380 := w380) (w381 := w381) S1 hS1 ) (fun S3 rS3 => ?_)
  have hS3 := rS3
  exact tL_X9_needs_13 (w387 := w387) (w388 := w388) (w389 := w389) FU S3 hS3 _ _ 0 k0 (by omega) (by omega)
set_option maxHeartbeats 1000000 in
theorem tB_X9_order_29 {m : Nat} {G : Nat → Nat} {Λ : sLay} {Y : gY} (w360 : Y.2.2 360 = false) (S : sSt) (hS : MI m G Λ Y S) (p1 : Int32) (s0 : Int32) (f0 : s0 = 0 → ∃ j, j < 16 ∧ p1 = nI j) : T (B_X9_order_29 Λ.2.2 S m p1 s0 m) (fun r : Int32 × sSt => MI m G Λ Y r.2) := by
  unfold B_X9_order_29
  refine T_st (fun S6 eS6 => ?_)
  have h6 : MI m G Λ Y S6 := by rw [eS6]; exact hS.wF (f := 360) w360 (rg0 (P := fun B => nB B _) (by decide))
  have g6 : gFI S6 360 m = s0 := by rw [eS6, gFI_sFI, if_pos ⟨rfl, rfl⟩]
  refine T_ite (fun c => ?_) (fun _ => T_some h6)
  obtain ⟨j, gj, ej⟩ := f0 (g6.symm.trans c)
  refine T_m (h6.c.rf (f := 392) (by decide)) (T_bsome ?_)
  refine T_gi (g_in (h6.c.l (f := 392) (kd := 10) (n := 16) (by decide)) ej (by omega) (by omega)) ?_
  exact T_some h6
set_option maxHeartbeats 1000000 in
theorem tF_X9_order {m : Nat} {G : Nat → Nat} {Λ : sLay} {Y : gY} (w360 : Y.2.2 360 = false) (w390 : Y.2.2 390 = false) (w391 : Y.2.2 391 = false) (w392 : Y.2.2 392 = false) (w393 : Y.2.2 393 = false) (w394 : Y.2.2 394 = false) (S : sSt) (hS : MI m G Λ Y S) (p1 : Int32) : T (F_X9_order Λ.2.2 S m p1) (fun r : Int32 × sSt => MI m G Λ Y r.2) := by
  unfold F_X9_order
  refine T_st (fun S1 eS1 => ?_)
  have h1 : MI m G Λ Y S1 := by rw [eS1]; exact hS.wF (f := 360) w360 (rg0 (P := fun B => nB B _) (by decide))
  refine T_bind (tF_X9_findOrder (w390 := w390) (w391 := w391) (w392 := w392) (w393 := w393) (w394 := w394) S1 h1) (fun S3 h3 => ?_)
  obtain ⟨j, gj, ej⟩ := h3.c.f (f := 393) (B := 16) (by decide)
  refine T_bind (tF_X9_in S3 h3 p1 0 _) (fun v6 r6 => ?_)
  refine T_ite (fun _ => tB_X9_order_29 (w360 := w360) S3 h3 _ _ (fun h => absurd h (by decide))) (fun c6 => ?_)
  obtain ⟨i, hi, ei⟩ := in_nat (r6.resolve_left c6).2 ej (by omega)
  exact tB_X9_order_29 (w360 := w360) S3 h3 _ _ (fun _ => ⟨i, by omega, ei⟩)
set_option maxHeartbeats 1000000 in
theorem tY_X9_output_31 {m : Nat} {G : Nat → Nat} {Λ : sLay} {Y : gY} {n : Nat} {rec : sSt → Nat → Int32 → Int64 → Int32 → Option (Int64 × sSt)} (hrec : ∀ (S : sSt) (hS : MI m G Λ Y S) (p1 : Int32) (qp1 : Nat) (ep1 : p1 = nI qp1) (bp1 : qp1 ≤ 15) (p2 : Int64) (p4 : Int32) (qp4 : Nat) (ep4 : p4 = nI qp4) (bp4 : qp4 ≤ 690), (691 ≤ qp4 + n) → T (rec S m p1 p2 p4) (fun r : Int64 × sSt => MI m G Λ Y r.2)) (S : sSt) (hS : MI m G Λ Y S) (p1 : Int32) (qp1 : Nat) (ep1 : p1 = nI qp1) (bp1 : qp1 ≤ 15) (p2 : Int64) (p4 : Int32) (qp4 : Nat) (ep4 : p4 = nI qp4) (bp4 : qp4 ≤ 690) (hm : 691 ≤ qp4 + (n + 1)) : T (Y_X9_output_31 Λ.2.2 rec S m p1 p2 p4) (fun r : Int64 × sSt => MI m G Λ Y r.2) := by
  unfold Y_X9_output_31
  refine T_m ((hS).c.rf (f := 376) (by decide)) ?_
  refine T_bsome ?_
  refine T_gi (g_in ((hS).c.l (f := 376) (kd := 10) (n := 96) (by decide)) (e_add (e_mul k6 ep1) k5) (by omega) (by omega)) ?_
  obtain ⟨j2, g2, e2⟩ := (hS).c.n (f := 376) (B := 690) (by decide) (Int32.toNatClampNeg (((6 : Int32) * p1) + (5 : Int32)))
  refine T_ite (fun c1 => ?_) (fun c1 => ?_)
  · skip
    have d1 := (e_le e2 ep4 (by omega) (by omega)).mp c1
    exact T_some hS
  · skip
    have d1 := mt (e_le e2 ep4 (by omega) (by omega)).mpr c1
    refine T_m ((hS).c.rf (f := 375) (by decide)) ?_
    refine T_bsome ?_
    refine T_gi (g_in ((hS).c.l (f := 375) (kd := 11) (n := 11200) (by decide)) (e_add (e_mul k700 ep1) ep4) (by omega) (by omega)) ?_
    refine T_bind (tF_X9_mixed S hS _ _) (fun v10 rv10 => ?_)
    exact hrec S hS _ qp1 ep1 (by omega) _ _ (qp4 + 1) (e_add ep4 k1) (by omega) (by omega)
theorem tL_X9_output_31 {m : Nat} {G : Nat → Nat} {Λ : sLay} {Y : gY} : ∀ (n : Nat) (S : sSt) (hS : MI m G Λ Y S) (p1 : Int32) (qp1 : Nat) (ep1 : p1 = nI qp1) (bp1 : qp1 ≤ 15) (p2 : Int64) (p4 : Int32) (qp4 : Nat) (ep4 : p4 = nI qp4) (bp4 : qp4 ≤ 690) (_ : 691 ≤ qp4 + n), T (L_X9_output_31 Λ.2.2 n S m p1 p2 p4) (fun r : Int64 × sSt => MI m G Λ Y r.2) := by
  intro n
  induction n with
  | zero =>
    intro S hS p1 qp1 ep1 bp1 p2 p4 qp4 ep4 bp4 hm
    exfalso
    omega
  | succ n ih =>
    intro S hS p1 qp1 ep1 bp1 p2 p4 qp4 ep4 bp4 hm
    exact tY_X9_output_31 (n := n) (rec := L_X9_output_31 Λ.2.2 n) (hrec := ih) (S := S) (hS := hS) (p1 := p1) (qp1 := qp1) (ep1 := ep1) (bp1 := bp1) (p2 := p2) (p4 := p4) (qp4 := qp4) (ep4 := ep4) (bp4 := bp4) (hm := hm)
set_option maxHeartbeats 1000000 in
theorem tF_X9_output {m : Nat} {G : Nat → Nat} {Λ : sLay} {Y : gY} (w360 : Y.2.2 360 = false) (S : sSt) (hS : MI m G Λ Y S) (p1 : Int32) : T (F_X9_output Λ.2.2 S m p1) (fun r : Int64 × sSt => MI m G Λ Y r.2) := by
  unfold F_X9_output
  have hFU := FU_big
  refine T_st (fun S1 eS1 => ?_)
  have hS1 : MI m G Λ Y S1 := by rw [eS1]; exact (hS).wF (f := 360) w360 (rg0 (P := fun B => nB B _) (by decide))
  refine T_bind (tF_X9_isUnit S1 hS1 _) (fun v2 rv2 => ?_)
  refine T_ite (fun c1 => ?_) (fun c1 => ?_)
  · skip
    exact T_some hS1
  · skip
    obtain ⟨j1, g1, e1⟩ := (rv2).resolve_left c1
    refine T_m ((hS1).c.rf (f := 377) (by decide)) ?_
    refine T_bsome ?_
    refine T_gi (g_in ((hS).c.l (f := 377) (kd := 10) (n := 16) (by decide)) e1 (by omega) (by omega)) ?_
    refine T_ite (fun c2 => ?_) (fun c2 => ?_)
    · skip
      exact T_some hS1
    · skip
      exact tL_X9_output_31 FU S1 hS1 _ j1 e1 (by omega) _ _ 0 k0 (by omega) (by omega)
set_option maxHeartbeats 1000000 in
theorem tB_X9_reader_43 {m : Nat} {G : Nat → Nat} {Λ : sLay} {Y : gY} (w373 : Y.2.2 373 = false) (w374 : Y.2.2 374 = false) (S : sSt) (hS : MI m G Λ Y S) (p1 : Int32) (qp1 : Nat) (ep1 : p1 = nI qp1) (bp1 : qp1 ≤ 15) (p2 : Int32) (s0 : Int32) : T (B_X9_reader_43 Λ.2.2 S m p1 p2 s0) (fun r : Int32 × sSt => MI m G Λ Y r.2) := by
  unfold B_X9_reader_43
  refine T_m ((hS).c.rf (f := 373) (by decide)) ?_
  refine T_bsome ?_
  refine T_gi (g_in ((hS).c.l (f := 373) (kd := 12) (n := 16) (by decide)) ep1 (by omega) (by omega)) ?_
  refine T_st (fun S10 eS10 => ?_)
  have hS10 : MI m G Λ Y S10 := by rw [eS10]; exact (hS).wI (f := 373) (by decide) w373 (rg0 (P := fun B => nB B _) (by decide)) (rg0 (P := fun B => oB B _) (by decide))
  refine T_ite (fun c1 => ?_) (fun c1 => ?_)
  · skip
    refine T_bind (tF_X9_frees (w374 := w374) S10 hS10 _) (fun S12 rS12 => ?_)
    have hS12 := rS12
    exact T_some hS12
  · skip
    exact T_some hS10
set_option maxHeartbeats 1000000 in
theorem tF_X9_reader {m : Nat} {G : Nat → Nat} {Λ : sLay} {Y : gY} (w360 : Y.2.2 360 = false) (w373 : Y.2.2 373 = false) (w374 : Y.2.2 374 = false) (S : sSt) (hS : MI m G Λ Y S) (p1 : Int32) (p2 : Int32) : T (F_X9_reader Λ.2.2 S m p1 p2) (fun r : Int32 × sSt => MI m G Λ Y r.2) := by
  unfold F_X9_reader
  refine T_st (fun S1 eS1 => ?_)
  have hS1 : MI m G Λ Y S1 := by rw [eS1]; exact (hS).wF (f := 360) w360 (rg0 (P := fun B => nB B _) (by decide))
  refine T_bind (tF_X9_isUnit S1 hS1 _) (fun v2 rv2 => ?_)
  refine T_ite (fun c1 => ?_) (fun c1 => ?_)
  · skip
    exact T_some hS1
  · skip
    obtain ⟨j1, g1, e1⟩ := (rv2).resolve_left c1
    refine T_m ((hS1).c.rf (f := 374) (by decide)) ?_
    refine T_bsome ?_
    refine T_gi (g_in ((hS).c.l (f := 374) (kd := 10) (n := 16) (by decide)) e1 (by omega) (by omega)) ?_
    refine T_ite (fun c2 => ?_) (fun c2 => ?_)
    · skip
      refine T_m ((hS1).c.rf (f := 373) (by decide)) ?_
      refine T_bsome ?_
      refine T_gi (g_in ((hS).c.l (f := 373) (kd := 12) (n := 16) (by decide)) e1 (by omega) (by omega)) ?_
      refine T_ite (fun c3 => ?_) (fun c3 => ?_)
      · skip
        exact tB_X9_reader_43 (w373 := w373) (w374 := w374) S1 hS1 _ j1 e1 (by omega) _ _
      · skip
        exact tB_X9_reader_43 (w373 := w373) (w374 := w374) S1 hS1 _ j1 e1 (by omega) _ _
    · skip
      obtain ⟨j2, g2, e2⟩ := oB.ne ((hS1).c.o (f := 374) (B := 15) (by decide) _) c2
      exact T_some hS1
set_option maxHeartbeats 1000000 in
theorem tB_X9_remove_95 {m : Nat} {G : Nat → Nat} {Λ : sLay} {Y : gY} {n29 : Nat} {k29 : sSt → Nat → Int32 → Int32 → Option (Int32 × sSt)} (hk29 : ∀ (S : sSt) (hS : MI m G Λ Y S) (p1 : Int32) (p2 : Int32) (qp2 : Nat) (ep2 : p2 = nI qp2) (bp2 : qp2 ≤ 16), (17 ≤ qp2 + n29) → T (k29 S m p1 p2) (fun r : Int32 × sSt => MI m G Λ Y r.2 ∧ ∃ c, c ≤ 16 ∧ gFI r.2 361 m = nI c ∧ r.1 = nI (thr G r.2 c))) {n42 : Nat} {k42 : sSt → Nat → Int32 → Int32 → Int32 → Int32 → Option (Int32 × sSt)} (hk42 : ∀ (S : sSt) (hS : MI m G Λ Y S) (p1 : Int32) (p2 : Int32) (qp2 : Nat) (ep2 : p2 = nI qp2) (bp2 : qp2 ≤ 15) (p3 : Int32) (qp3 : Nat) (ep3 : p3 = nI qp3) (bp3 : qp3 ≤ 6) (p4 : Int32) (qp4 : Nat) (ep4 : p4 = nI qp4) (bp4 : qp4 ≤ 6), (qp3 ≤ qp4) → (17 ≤ qp2 + n29 + 1) → (7 ≤ qp4 + n42) → T (k42 S m p1 p2 p3 p4) (fun r : Int32 × sSt => MI m G Λ Y r.2 ∧ ∃ c, c ≤ 16 ∧ gFI r.2 361 m = nI c ∧ r.1 = nI (thr G r.2 c))) (S : sSt) (hS : MI m G Λ Y S) (p1 : Int32) (p2 : Int32) (qp2 : Nat) (ep2 : p2 = nI qp2) (bp2 : qp2 ≤ 15) (p3 : Int32) (qp3 : Nat) (ep3 : p3 = nI qp3) (bp3 : qp3 ≤ 6) (p4 : Int32) (qp4 : Nat) (ep4 : p4 = nI qp4) (bp4 : qp4 ≤ 5) (f0 : qp3 ≤ qp4 + 1) (f1 : 17 ≤ qp2 + n29 + 1) (f2 : 7 ≤ qp4 + n42 + 1) : T (B_X9_remove_95 Λ.2.2 k29 k42 S m p1 p2 p3 p4) (fun r : Int32 × sSt => MI m G Λ Y r.2 ∧ ∃ c, c ≤ 16 ∧ gFI r.2 361 m = nI c ∧ r.1 = nI (thr G r.2 c)) := by
  unfold B_X9_remove_95
  exact hk42 S hS _ _ qp2 ep2 (by omega) _ qp3 ep3 (by omega) _ (qp4 + 1) (e_add ep4 k1) (by omega) (by omega) (by omega) (by omega)
set_option maxHeartbeats 1000000 in
theorem tY_X9_remove_42 {m : Nat} {G : Nat → Nat} {Λ : sLay} {Y : gY} (w369 : Y.2.2 369 = false) (w370 : Y.2.2 370 = false) {n29 : Nat} {k29 : sSt → Nat → Int32 → Int32 → Option (Int32 × sSt)} (hk29 : ∀ (S : sSt) (hS : MI m G Λ Y S) (p1 : Int32) (p2 : Int32) (qp2 : Nat) (ep2 : p2 = nI qp2) (bp2 : qp2 ≤ 16), (17 ≤ qp2 + n29) → T (k29 S m p1 p2) (fun r : Int32 × sSt => MI m G Λ Y r.2 ∧ ∃ c, c ≤ 16 ∧ gFI r.2 361 m = nI c ∧ r.1 = nI (thr G r.2 c))) {n : Nat} {rec : sSt → Nat → Int32 → Int32 → Int32 → Int32 → Option (Int32 × sSt)} (hrec : ∀ (S : sSt) (hS : MI m G Λ Y S) (p1 : Int32) (p2 : Int32) (qp2 : Nat) (ep2 : p2 = nI qp2) (bp2 : qp2 ≤ 15) (p3 : Int32) (qp3 : Nat) (ep3 : p3 = nI qp3) (bp3 : qp3 ≤ 6) (p4 : Int32) (qp4 : Nat) (ep4 : p4 = nI qp4) (bp4 : qp4 ≤ 6), (qp3 ≤ qp4) → (17 ≤ qp2 + n29 + 1) → (7 ≤ qp4 + n) → T (rec S m p1 p2 p3 p4) (fun r : Int32 × sSt => MI m G Λ Y r.2 ∧ ∃ c, c ≤ 16 ∧ gFI r.2 361 m = nI c ∧ r.1 = nI (thr G r.2 c))) (S : sSt) (hS : MI m G Λ Y S) (p1 : Int32) (p2 : Int32) (qp2 : Nat) (ep2 : p2 = nI qp2) (bp2 : qp2 ≤ 15) (p3 : Int32) (qp3 : Nat) (ep3 : p3 = nI qp3) (bp3 : qp3 ≤ 6) (p4 : Int32) (qp4 : Nat) (ep4 : p4 = nI qp4) (bp4 : qp4 ≤ 6) (f0 : qp3 ≤ qp4) (f1 : 17 ≤ qp2 + n29 + 1) (hm : 7 ≤ qp4 + (n + 1)) : T (Y_X9_remove_42 Λ.2.2 k29 rec S m p1 p2 p3 p4) (fun r : Int32 × sSt => MI m G Λ Y r.2 ∧ ∃ c, c ≤ 16 ∧ gFI r.2 361 m = nI c ∧ r.1 = nI (thr G r.2 c)) := by
  unfold Y_X9_remove_42
  refine T_m ((hS).c.rf (f := 369) (by decide)) ?_
  refine T_bsome ?_
  refine T_gi (g_in ((hS).c.l (f := 369) (kd := 10) (n := 16) (by decide)) ep2 (by omega) (by omega)) ?_
  obtain ⟨j2, g2, e2⟩ := (hS).c.n (f := 369) (B := 6) (by decide) (Int32.toNatClampNeg p2)
  refine T_ite (fun c1 => ?_) (fun c1 => ?_)
  · skip
    have d1 := (e_le e2 ep4 (by omega) (by omega)).mp c1
    refine T_m ((hS).c.rf (f := 369) (by decide)) ?_
    refine T_bsome ?_
    refine T_gi (g_in ((hS).c.l (f := 369) (kd := 10) (n := 16) (by decide)) ep2 (by omega) (by omega)) ?_
    refine T_st (fun S15 eS15 => ?_)
    have hS15 : MI m G Λ Y S15 := by rw [eS15]; exact (hS).wI (f := 369) (by decide) w369 (rg1 (B := 6) (by decide) ⟨qp3, by omega, ep3⟩) (rg0 (P := fun B => oB B _) (by decide))
    exact hk29 S15 hS15 _ _ (qp2 + 1) (e_add ep2 k1) (by omega) (by omega)
  · skip
    have d1 := mt (e_le e2 ep4 (by omega) (by omega)).mpr c1
    refine T_m ((hS).c.rf (f := 370) (by decide)) ?_
    refine T_bsome ?_
    refine T_gi (g_in ((hS).c.l (f := 370) (kd := 10) (n := 96) (by decide)) (e_add (e_mul k6 ep2) ep4) (by omega) (by omega)) ?_
    obtain ⟨j4, g4, e4⟩ := (hS).c.n (f := 370) (B := 15) (by decide) (Int32.toNatClampNeg (((6 : Int32) * p2) + p4))
    refine T_ite (fun c3 => ?_) (fun c3 => ?_)
    · skip
      exact tB_X9_remove_95 (n29 := n29) (k29 := k29) (hk29 := hk29) (n42 := n) (k42 := rec) (hk42 := hrec) S hS _ _ qp2 ep2 (by omega) _ qp3 ep3 (by omega) _ qp4 ep4 (by omega) (by omega) (by omega) (by omega)
    · skip
      refine T_m ((hS).c.rf (f := 370) (by decide)) ?_
      refine T_m ((hS).c.rf (f := 370) (by decide)) ?_
      refine T_bsome ?_
      refine T_gi (g_in ((hS).c.l (f := 370) (kd := 10) (n := 96) (by decide)) (e_add (e_mul k6 ep2) ep4) (by omega) (by omega)) ?_
      refine T_bsome ?_
      refine T_gi (g_in ((hS).c.l (f := 370) (kd := 10) (n := 96) (by decide)) (e_add (e_mul k6 ep2) ep3) (by omega) (by omega)) ?_
      refine T_st (fun S22 eS22 => ?_)
      have hS22 : MI m G Λ Y S22 := by rw [eS22]; exact (hS).wI (f := 370) (by decide) w370 (rg1 (B := 15) (by decide) ⟨j4, by omega, e4⟩) (rg0 (P := fun B => oB B _) (by decide))
      exact tB_X9_remove_95 (n29 := n29) (k29 := k29) (hk29 := hk29) (n42 := n) (k42 := rec) (hk42 := hrec) S22 hS22 _ _ qp2 ep2 (by omega) _ (qp3 + 1) (e_add ep3 k1) (by omega) _ qp4 ep4 (by omega) (by omega) (by omega) (by omega)
theorem tL_X9_remove_42 {m : Nat} {G : Nat → Nat} {Λ : sLay} {Y : gY} (w369 : Y.2.2 369 = false) (w370 : Y.2.2 370 = false) {n29 : Nat} {k29 : sSt → Nat → Int32 → Int32 → Option (Int32 × sSt)} (hk29 : ∀ (S : sSt) (hS : MI m G Λ Y S) (p1 : Int32) (p2 : Int32) (qp2 : Nat) (ep2 : p2 = nI qp2) (bp2 : qp2 ≤ 16), (17 ≤ qp2 + n29) → T (k29 S m p1 p2) (fun r : Int32 × sSt => MI m G Λ Y r.2 ∧ ∃ c, c ≤ 16 ∧ gFI r.2 361 m = nI c ∧ r.1 = nI (thr G r.2 c))) : ∀ (n : Nat) (S : sSt) (hS : MI m G Λ Y S) (p1 : Int32) (p2 : Int32) (qp2 : Nat) (ep2 : p2 = nI qp2) (bp2 : qp2 ≤ 15) (p3 : Int32) (qp3 : Nat) (ep3 : p3 = nI qp3) (bp3 : qp3 ≤ 6) (p4 : Int32) (qp4 : Nat) (ep4 : p4 = nI qp4) (bp4 : qp4 ≤ 6) (_ : qp3 ≤ qp4) (_ : 17 ≤ qp2 + n29 + 1) (_ : 7 ≤ qp4 + n), T (L_X9_remove_42 Λ.2.2 k29 n S m p1 p2 p3 p4) (fun r : Int32 × sSt => MI m G Λ Y r.2 ∧ ∃ c, c ≤ 16 ∧ gFI r.2 361 m = nI c ∧ r.1 = nI (thr G r.2 c)) := by
  intro n
  induction n with
  | zero =>
    intro S hS p1 p2 qp2 ep2 bp2 p3 qp3 ep3 bp3 p4 qp4 ep4 bp4 f0 f1 hm
    exfalso
    omega
  | succ n ih =>
    intro S hS p1 p2 qp2 ep2 bp2 p3 qp3 ep3 bp3 p4 qp4 ep4 bp4 f0 f1 hm
    exact tY_X9_remove_42 (w369 := w369) (w370 := w370) (n := n) (rec := L_X9_remove_42 Λ.2.2 k29 n) (hrec := ih) (n29 := n29) (k29 := k29) (hk29 := hk29) (S := S) (hS := hS) (p1 := p1) (p2 := p2) (qp2 := qp2) (ep2 := ep2) (bp2 := bp2) (p3 := p3) (qp3 := qp3) (ep3 := ep3) (bp3 := bp3) (p4 := p4) (qp4 := qp4) (ep4 := ep4) (bp4 := bp4) (f0 := f0) (f1 := f1) (hm := hm)
set_option maxHeartbeats 1000000 in
theorem tY_X9_remove_29 {m : Nat} {G : Nat → Nat} {Λ : sLay} {Y : gY} (w369 : Y.2.2 369 = false) (w370 : Y.2.2 370 = false) {n : Nat} {rec : sSt → Nat → Int32 → Int32 → Option (Int32 × sSt)} (hrec : ∀ (S : sSt) (hS : MI m G Λ Y S) (p1 : Int32) (p2 : Int32) (qp2 : Nat) (ep2 : p2 = nI qp2) (bp2 : qp2 ≤ 16), (17 ≤ qp2 + n) → T (rec S m p1 p2) (fun r : Int32 × sSt => MI m G Λ Y r.2 ∧ ∃ c, c ≤ 16 ∧ gFI r.2 361 m = nI c ∧ r.1 = nI (thr G r.2 c))) (S : sSt) (hS : MI m G Λ Y S) (p1 : Int32) (p2 : Int32) (qp2 : Nat) (ep2 : p2 = nI qp2) (bp2 : qp2 ≤ 16) (hm : 17 ≤ qp2 + (n + 1)) : T (Y_X9_remove_29 Λ.2.2 rec S m p1 p2) (fun r : Int32 × sSt => MI m G Λ Y r.2 ∧ ∃ c, c ≤ 16 ∧ gFI r.2 361 m = nI c ∧ r.1 = nI (thr G r.2 c)) := by
  unfold Y_X9_remove_29
  have hFU := FU_big
  obtain ⟨j, gj, ej⟩ := hS.c.f (f := 361) (B := 16) (by decide)
  refine T_ite (fun _ => T_bind (tF_X9_unitsThere S hS) (fun v9 r9 => T_some ⟨hS, r9⟩)) (fun c => ?_)
  have d := mt (e_le ej ep2 (by omega) (by omega)).mpr c
  exact tL_X9_remove_42 (w369 := w369) (w370 := w370) (hk29 := hrec) FU S hS _ _ qp2 ep2 (by omega) _ 0 k0 (by omega) _ 0 k0 (by omega) (by omega) (by omega) (by omega)
theorem tL_X9_remove_29 {m : Nat} {G : Nat → Nat} {Λ : sLay} {Y : gY} (w369 : Y.2.2 369 = false) (w370 : Y.2.2 370 = false) : ∀ (n : Nat) (S : sSt) (hS : MI m G Λ Y S) (p1 : Int32) (p2 : Int32) (qp2 : Nat) (ep2 : p2 = nI qp2) (bp2 : qp2 ≤ 16) (_ : 17 ≤ qp2 + n), T (L_X9_remove_29 Λ.2.2 n S m p1 p2) (fun r : Int32 × sSt => MI m G Λ Y r.2 ∧ ∃ c, c ≤ 16 ∧ gFI r.2 361 m = nI c ∧ r.1 = nI (thr G r.2 c)) := by
  intro n
  induction n with
  | zero =>
    intro S hS p1 p2 qp2 ep2 bp2 hm
    exfalso
    omega
  | succ n ih =>
    intro S hS p1 p2 qp2 ep2 bp2 hm
    exact tY_X9_remove_29 (w369 := w369) (w370 := w370) (n := n) (rec := L_X9_remove_29 Λ.2.2 n) (hrec := ih) (S := S) (hS := hS) (p1 := p1) (p2 := p2) (qp2 := qp2) (ep2 := ep2) (bp2 := bp2) (hm := hm)
set_option maxHeartbeats 1000000 in
theorem tF_X9_remove {m : Nat} {G : Nat → Nat} {Λ : sLay} {Y : gY} (w360 : Y.2.2 360 = false) (w362 : Y.2.2 362 = false) (w369 : Y.2.2 369 = false) (w370 : Y.2.2 370 = false) (w374 : Y.2.2 374 = false) (S : sSt) (hS : MI m G Λ Y S) (p1 : Int32) : T (F_X9_remove Λ.2.2 S m p1) (fun r : Int32 × sSt => MI m G Λ Y r.2) := by
  unfold F_X9_remove
  have hFU := FU_big
  refine T_st (fun S1 eS1 => ?_)
  have h1 : MI m G Λ Y S1 := by rw [eS1]; exact hS.wF (f := 360) w360 (rg0 (P := fun B => nB B _) (by decide))
  refine T_bind (tF_X9_isUnit S1 h1 p1) (fun v2 r2 => T_ite (fun _ => T_some h1) (fun c2 => ?_))
  obtain ⟨q, gq, eq⟩ := r2.resolve_left c2
  refine T_m (h1.c.rf (f := 362) (by decide)) (T_bsome ?_)
  refine T_gi (g_in (h1.c.l (f := 362) (kd := 12) (n := 16) (by decide)) eq (by omega) (by omega)) ?_
  refine T_st (fun S6 eS6 => ?_)
  have h6 : MI m G Λ Y S6 := by rw [eS6]; exact h1.wI (f := 362) (by decide) w362 (rg0 (P := fun B => nB B _) (by decide)) (rg0 (P := fun B => oB B _) (by decide))
  exact T_bind (tF_X9_frees (w374 := w374) S6 h6 p1) (fun S8 h8 => T_mono (tL_X9_remove_29 (w369 := w369) (w370 := w370) FU S8 h8 _ _ 0 k0 (by omega) (by omega)) (fun r hr => hr.1))
set_option maxHeartbeats 1000000 in
theorem tF_X9_ring {m : Nat} {G : Nat → Nat} {Λ : sLay} {Y : gY} (w360 : Y.2.2 360 = false) (w390 : Y.2.2 390 = false) (w391 : Y.2.2 391 = false) (w392 : Y.2.2 392 = false) (w393 : Y.2.2 393 = false) (w394 : Y.2.2 394 = false) (S : sSt) (hS : MI m G Λ Y S) (p1 : Int32) : T (F_X9_ring Λ.2.2 S m p1) (fun r : Int32 × sSt => MI m G Λ Y r.2) := by
  unfold F_X9_ring
  refine T_st (fun S1 eS1 => ?_)
  have hS1 : MI m G Λ Y S1 := by rw [eS1]; exact (hS).wF (f := 360) w360 (rg0 (P := fun B => nB B _) (by decide))
  refine T_bind (tF_X9_isUnit S1 hS1 _) (fun v2 rv2 => ?_)
  refine T_ite (fun c1 => ?_) (fun c1 => ?_)
  · skip
    exact T_some hS1
  · skip
    obtain ⟨j1, g1, e1⟩ := (rv2).resolve_left c1
    refine T_bind (tF_X9_findOrder (w390 := w390) (w391 := w391) (w392 := w392) (w393 := w393) (w394 := w394) S1 hS1 ) (fun S5 rS5 => ?_)
    have hS5 := rS5
    refine T_m ((hS5).c.rf (f := 391) (by decide)) ?_
    refine T_bsome ?_
    refine T_gi (g_in ((hS).c.l (f := 391) (kd := 10) (n := 16) (by decide)) e1 (by omega) (by omega)) ?_
    exact T_some hS5
set_option maxHeartbeats 1000000 in
theorem tF_X9_round {m : Nat} {G : Nat → Nat} {Λ : sLay} {Y : gY} (w360 : Y.2.2 360 = false) (w379 : Y.2.2 379 = false) (w380 : Y.2.2 380 = false) (w381 : Y.2.2 381 = false) (S : sSt) (hS : MI m G Λ Y S) (p1 : Int32) (p2 : Int32) : T (F_X9_round Λ.2.2 S m p1 p2) (fun r : Int32 × sSt => MI m G Λ Y r.2) := by
  unfold F_X9_round
  refine T_st (fun S1 eS1 => ?_)
  have h1 : MI m G Λ Y S1 := by rw [eS1]; exact hS.wF (f := 360) w360 (rg0 (P := fun B => nB B _) (by decide))
  refine T_bind (tF_X9_isUnit S1 h1 p1) (fun v2 r2 => T_ite (fun _ => T_some h1) (fun c2 => ?_))
  obtain ⟨q, gq, eq⟩ := r2.resolve_left c2
  refine T_bind (tF_X9_isName S1 h1 p2) (fun v4 _ => T_ite (fun _ => T_some h1) (fun _ => ?_))
  obtain ⟨v6, e6, r6, -⟩ := tF_X9_thingOf S1 h1 _ q eq gq ((32 : Int32) + p2)
  rw [e6]
  refine T_bsome (T_ite (fun _ => T_some h1) (fun c6 => ?_))
  obtain ⟨i, hi, ei⟩ := r6.ne c6
  refine T_bind (tF_X9_reckon (w379 := rfl) (w380 := rfl) (w381 := rfl) (Y := (Y.1, S1, nfz [379, 380, 381])) S1 (h1.loc _)) (fun S9 g9 => ?_)
  have h9 : MI m G Λ Y S9 := h1.up g9 (nfz_ok (fun g hg => by simp only [List.mem_cons, List.not_mem_nil, or_false] at hg; rcases hg with rfl | rfl | rfl <;> assumption))
  refine T_m (h9.c.rf (f := 380) (by decide)) ?_
  rw [F_thingOf_eq (h1.loc _) g9 rfl rfl, e6]
  refine T_bsome (T_bsome ?_)
  refine T_gi (g_in (h9.c.l (f := 380) (kd := 12) (n := 160) (by decide)) ei (by omega) (by omega)) ?_
  exact T_ite (fun _ => T_some h9) (fun _ => T_some h9)
set_option maxHeartbeats 1000000 in
theorem tB_X9_row_40 {m : Nat} {G : Nat → Nat} {Λ : sLay} {Y : gY} (w360 : Y.2.2 360 = false) (S : sSt) (hS : MI m G Λ Y S) (p2 : Int32) (s0 : Int32) (f0 : s0 = 0 → ∃ j, j < 700 ∧ p2 = nI j) : T (B_X9_row_40 Λ.2.2 S m p2 s0 m) (fun r : Int64 × sSt => MI m G Λ Y r.2) := by
  unfold B_X9_row_40
  refine T_st (fun S8 eS8 => ?_)
  have h8 : MI m G Λ Y S8 := by rw [eS8]; exact hS.wF (f := 360) w360 (rg0 (P := fun B => nB B _) (by decide))
  have g8 : gFI S8 360 m = s0 := by rw [eS8, gFI_sFI, if_pos ⟨rfl, rfl⟩]
  refine T_ite (fun c => ?_) (fun _ => T_some h8)
  obtain ⟨j, gj, ej⟩ := f0 (g8.symm.trans c)
  refine T_m (h8.c.rf (f := 387) (by decide)) (T_bsome ?_)
  refine T_gi (g_in (h8.c.l (f := 387) (kd := 11) (n := 700) (by decide)) ej (by omega) (by omega)) ?_
  exact T_some h8
set_option maxHeartbeats 1000000 in
theorem tF_X9_row {m : Nat} {G : Nat → Nat} {Λ : sLay} {Y : gY} (w360 : Y.2.2 360 = false) (w379 : Y.2.2 379 = false) (w380 : Y.2.2 380 = false) (w381 : Y.2.2 381 = false) (w387 : Y.2.2 387 = false) (w388 : Y.2.2 388 = false) (w389 : Y.2.2 389 = false) (S : sSt) (hS : MI m G Λ Y S) (p1 : Int32) (p2 : Int32) : T (F_X9_row Λ.2.2 S m p1 p2) (fun r : Int64 × sSt => MI m G Λ Y r.2) := by
  unfold F_X9_row
  refine T_st (fun S1 eS1 => ?_)
  have h1 : MI m G Λ Y S1 := by rw [eS1]; exact hS.wF (f := 360) w360 (rg0 (P := fun B => nB B _) (by decide))
  refine T_bind (tF_X9_isUnit S1 h1 p1) (fun v2 r2 => T_ite (fun _ => T_some h1) (fun c2 => ?_))
  obtain ⟨q, gq, eq⟩ := r2.resolve_left c2
  refine T_bind (tF_X9_rowOf (w379 := w379) (w380 := w380) (w381 := w381) (w387 := w387) (w388 := w388) (w389 := w389) S1 h1 _ q eq gq) (fun S5 h5 => ?_)
  obtain ⟨j, gj, ej⟩ := h5.c.f (f := 388) (B := 700) (by decide)
  refine T_bind (tF_X9_in S5 h5 p2 0 _) (fun v6 r6 => ?_)
  refine T_ite (fun _ => tB_X9_row_40 (w360 := w360) S5 h5 _ _ (fun h => absurd h (by decide))) (fun c6 => ?_)
  obtain ⟨i, hi, ei⟩ := in_nat (r6.resolve_left c6).2 ej (by omega)
  exact tB_X9_row_40 (w360 := w360) S5 h5 _ _ (fun _ => ⟨i, by omega, ei⟩)
set_option maxHeartbeats 1000000 in
theorem tF_X9_size {m : Nat} {G : Nat → Nat} {Λ : sLay} {Y : gY} (w360 : Y.2.2 360 = false) (w379 : Y.2.2 379 = false) (w380 : Y.2.2 380 = false) (w381 : Y.2.2 381 = false) (w387 : Y.2.2 387 = false) (w388 : Y.2.2 388 = false) (w389 : Y.2.2 389 = false) (S : sSt) (hS : MI m G Λ Y S) (p1 : Int32) : T (F_X9_size Λ.2.2 S m p1) (fun r : Int32 × sSt => MI m G Λ Y r.2) := by
  unfold F_X9_size
  refine T_st (fun S1 eS1 => ?_)
  have hS1 : MI m G Λ Y S1 := by rw [eS1]; exact (hS).wF (f := 360) w360 (rg0 (P := fun B => nB B _) (by decide))
  refine T_bind (tF_X9_isUnit S1 hS1 _) (fun v2 rv2 => ?_)
  refine T_ite (fun c1 => ?_) (fun c1 => ?_)
  · skip
    exact T_some hS1
  · skip
    obtain ⟨j1, g1, e1⟩ := (rv2).resolve_left c1
    refine T_bind (tF_X9_rowOf (w379 := w379) (w380 := w380) (w381 := w381) (w387 := w387) (w388 := w388) (w389 := w389) S1 hS1 _ j1 e1 (by omega)) (fun S5 rS5 => ?_)
    have hS5 := rS5
    exact T_some hS5
set_option maxHeartbeats 1000000 in
theorem tY_X9_take_70 {m : Nat} {G : Nat → Nat} {Λ : sLay} {Y : gY} (w364 : Y.2.2 364 = false) (w365 : Y.2.2 365 = false) (w366 : Y.2.2 366 = false) (w367 : Y.2.2 367 = false) (w368 : Y.2.2 368 = false) {n : Nat} {rec : sSt → Nat → Int32 → Int32 → Option (Int32 × sSt)} (hrec : ∀ (S : sSt) (hS : MI m G Λ Y S) (p1 : Int32) (qp1 : Nat) (ep1 : p1 = nI qp1) (bp1 : qp1 ≤ 15) (p5 : Int32) (qp5 : Nat) (ep5 : p5 = nI qp5) (bp5 : qp5 ≤ 159), (∃ t, t ≤ 9 ∧ gAI S (G 363) qp1 = nI t) → (160 ≤ qp5 + n) → T (rec S m p1 p5) (fun r : Int32 × sSt => MI m G Λ Y r.2)) (S : sSt) (hS : MI m G Λ Y S) (p1 : Int32) (qp1 : Nat) (ep1 : p1 = nI qp1) (bp1 : qp1 ≤ 15) (p5 : Int32) (qp5 : Nat) (ep5 : p5 = nI qp5) (bp5 : qp5 ≤ 159) (f0 : ∃ t, t ≤ 9 ∧ gAI S (G 363) qp1 = nI t) (hm : 160 ≤ qp5 + (n + 1)) : T (Y_X9_take_70 Λ.2.2 rec S m p1 p5) (fun r : Int32 × sSt => MI m G Λ Y r.2) := by
  unfold Y_X9_take_70
  obtain ⟨t, ht, et⟩ := f0
  refine T_m (hS.c.rf (f := 363) (by decide)) (T_bsome ?_)
  refine T_gi (g_in (hS.c.l (f := 363) (kd := 10) (n := 16) (by decide)) ep1 (by omega) (by omega)) ?_
  have e5 : gAI S (G 363) (Int32.toNatClampNeg p1) = nI t := by
    rw [e_clamp ep1 (by omega)]
    exact et
  refine T_ite (fun _ => T_some hS) (fun c => ?_)
  have d := mt (e_le (e_add (e_mul k10 ep1) e5) ep5 (by omega) (by omega)).mpr c
  refine T_bind (tF_X9_move (w364 := rfl) (w365 := rfl) (w366 := rfl) (w367 := rfl) (w368 := rfl) (Y := (Y.1, S, nfz [364, 365, 366, 367, 368])) S (hS.loc _) _ (qp5 + 1) (e_add ep5 k1) (by omega) _ qp5 ep5 bp5) (fun S16 g16 => ?_)
  have h16 : MI m G Λ Y S16 := hS.up g16 (nfz_ok (fun g hg => by simp only [List.mem_cons, List.not_mem_nil, or_false] at hg; rcases hg with rfl | rfl | rfl | rfl | rfl <;> assumption))
  exact hrec S16 h16 _ qp1 ep1 bp1 _ (qp5 + 1) (e_add ep5 k1) (by omega) ⟨t, ht, (((g16.2 363 rfl).2 rfl qp1).1).trans et⟩ (by omega)
theorem tL_X9_take_70 {m : Nat} {G : Nat → Nat} {Λ : sLay} {Y : gY} (w364 : Y.2.2 364 = false) (w365 : Y.2.2 365 = false) (w366 : Y.2.2 366 = false) (w367 : Y.2.2 367 = false) (w368 : Y.2.2 368 = false) : ∀ (n : Nat) (S : sSt) (hS : MI m G Λ Y S) (p1 : Int32) (qp1 : Nat) (ep1 : p1 = nI qp1) (bp1 : qp1 ≤ 15) (p5 : Int32) (qp5 : Nat) (ep5 : p5 = nI qp5) (bp5 : qp5 ≤ 159) (_ : ∃ t, t ≤ 9 ∧ gAI S (G 363) qp1 = nI t) (_ : 160 ≤ qp5 + n), T (L_X9_take_70 Λ.2.2 n S m p1 p5) (fun r : Int32 × sSt => MI m G Λ Y r.2) := by
  intro n
  induction n with
  | zero =>
    intro S hS p1 qp1 ep1 bp1 p5 qp5 ep5 bp5 f0 hm
    exfalso
    omega
  | succ n ih =>
    intro S hS p1 qp1 ep1 bp1 p5 qp5 ep5 bp5 f0 hm
    exact tY_X9_take_70 (w364 := w364) (w365 := w365) (w366 := w366) (w367 := w367) (w368 := w368) (n := n) (rec := L_X9_take_70 Λ.2.2 n) (hrec := ih) (S := S) (hS := hS) (p1 := p1) (qp1 := qp1) (ep1 := ep1) (bp1 := bp1) (p5 := p5) (qp5 := qp5) (ep5 := ep5) (bp5 := bp5) (f0 := f0) (hm := hm)
set_option maxHeartbeats 1000000 in
theorem tF_X9_take {m : Nat} {G : Nat → Nat} {Λ : sLay} {Y : gY} (w360 : Y.2.2 360 = false) (w363 : Y.2.2 363 = false) (w364 : Y.2.2 364 = false) (w365 : Y.2.2 365 = false) (w366 : Y.2.2 366 = false) (w367 : Y.2.2 367 = false) (w368 : Y.2.2 368 = false) (S : sSt) (hS : MI m G Λ Y S) (p1 : Int32) (p2 : Int32) (p3 : Int32) : T (F_X9_take Λ.2.2 S m p1 p2 p3) (fun r : Int32 × sSt => MI m G Λ Y r.2) := by
  unfold F_X9_take
  refine T_st (fun S1 eS1 => ?_)
  have h1 : MI m G Λ Y S1 := by rw [eS1]; exact hS.wF (f := 360) w360 (rg0 (P := fun B => nB B _) (by decide))
  refine T_bind (tF_X9_isUnit S1 h1 p1) (fun v2 r2 => T_ite (fun _ => T_some h1) (fun c2 => ?_))
  obtain ⟨q, gq, eq⟩ := r2.resolve_left c2
  refine T_bind (tF_X9_in S1 h1 p2 0 2) (fun v4 _ => T_ite (fun _ => T_some h1) (fun _ => ?_))
  refine T_bind (tF_X9_isName S1 h1 p3) (fun v6 _ => T_ite (fun _ => T_some h1) (fun _ => ?_))
  refine T_bind (tF_X9_thingOf S1 h1 _ q eq gq _) (fun v8 r8 => T_ite (fun _ => T_some h1) (fun c8 => ?_))
  obtain ⟨i, hi, ei⟩ := r8.1.ne c8
  have hz := r8.2 c8
  refine T_m (h1.c.rf (f := 363) (by decide)) (T_bsome ?_)
  refine T_gi (g_in (h1.c.l (f := 363) (kd := 10) (n := 16) (by decide)) eq (by omega) (by omega)) ?_
  refine T_gi (g_in (h1.c.l (f := 363) (kd := 10) (n := 16) (by decide)) eq (by omega) (by omega)) ?_
  obtain ⟨t, ht, et⟩ := h1.c.n (f := 363) (B := 10) (by decide) q
  have h0 : t ≠ 0 := fun z => hz (by rw [et, z]; rfl)
  have et2 : gAI S1 (G 363) (Int32.toNatClampNeg p1) = nI t := by rw [e_clamp eq (by omega)]; exact et
  refine T_st (fun S12 eS12 => ?_)
  have h12 : MI m G Λ Y S12 := by rw [eS12]; exact h1.wI (f := 363) (by decide) w363 (rg1 (B := 10) (by decide) ⟨(t-1), by omega, (e_sub et2 k1 (by omega))⟩) (rg0 (P := fun B => oB B _) (by decide))
  have e12 : gAI S12 (G 363) q = nI (t - 1) := by
    rw [eS12, gAI_sAI, e_clamp eq (by omega), if_pos ⟨rfl, rfl⟩]
    exact e_sub et k1 (by omega)
  have hFU := FU_big
  exact tL_X9_take_70 (w364 := w364) (w365 := w365) (w366 := w366) (w367 := w367) (w368 := w368) FU S12 h12 _ q eq gq _ i ei hi ⟨t - 1, by omega, e12⟩ (by omega)
set_option maxHeartbeats 1000000 in
theorem tY_X9_unuse_43 {m : Nat} {G : Nat → Nat} {Λ : sLay} {Y : gY} (w372 : Y.2.2 372 = false) {n : Nat} {rec : sSt → Nat → Int32 → Int32 → Option (Int32 × sSt)} (hrec : ∀ (S : sSt) (hS : MI m G Λ Y S) (p1 : Int32) (qp1 : Nat) (ep1 : p1 = nI qp1) (bp1 : qp1 ≤ 15) (p3 : Int32) (qp3 : Nat) (ep3 : p3 = nI qp3) (bp3 : qp3 ≤ 12), (∃ t, t ≤ 11 ∧ gAI S (G 371) qp1 = nI t) → (13 ≤ qp3 + n) → T (rec S m p1 p3) (fun r : Int32 × sSt => MI m G Λ Y r.2)) (S : sSt) (hS : MI m G Λ Y S) (p1 : Int32) (qp1 : Nat) (ep1 : p1 = nI qp1) (bp1 : qp1 ≤ 15) (p3 : Int32) (qp3 : Nat) (ep3 : p3 = nI qp3) (bp3 : qp3 ≤ 12) (f0 : ∃ t, t ≤ 11 ∧ gAI S (G 371) qp1 = nI t) (hm : 13 ≤ qp3 + (n + 1)) : T (Y_X9_unuse_43 Λ.2.2 rec S m p1 p3) (fun r : Int32 × sSt => MI m G Λ Y r.2) := by
  unfold Y_X9_unuse_43
  obtain ⟨t, ht, et⟩ := f0
  refine T_m (hS.c.rf (f := 371) (by decide)) (T_bsome ?_)
  refine T_gi (g_in (hS.c.l (f := 371) (kd := 10) (n := 16) (by decide)) ep1 (by omega) (by omega)) ?_
  have e5 : gAI S (G 371) (Int32.toNatClampNeg p1) = nI t := by
    rw [e_clamp ep1 (by omega)]
    exact et
  refine T_ite (fun _ => ?_) (fun c => ?_)
  · refine T_m (hS.c.rf (f := 371) (by decide)) (T_bsome ?_)
    refine T_gi (g_in (hS.c.l (f := 371) (kd := 10) (n := 16) (by decide)) ep1 (by omega) (by omega)) ?_
    exact T_some hS
  · have d := mt (e_le e5 ep3 (by omega) (by omega)).mpr c
    refine T_m (hS.c.rf (f := 372) (by decide)) ?_
    refine T_m (hS.c.rf (f := 372) (by decide)) (T_bsome ?_)
    refine T_gi (g_in (hS.c.l (f := 372) (kd := 10) (n := 192) (by decide)) (e_add (e_add (e_mul k12 ep1) ep3) k1) (by omega) (by omega)) ?_
    refine T_bsome ?_
    refine T_gi (g_in (hS.c.l (f := 372) (kd := 10) (n := 192) (by decide)) (e_add (e_mul k12 ep1) ep3) (by omega) (by omega)) ?_
    refine T_st (fun S19 e19 => ?_)
    have h19 : MI m G Λ Y S19 := by rw [e19]; exact hS.wI (f := 372) (by decide) w372 (rg0 (P := fun B => nB B _) (by decide)) (rg0 (P := fun B => oB B _) (by decide))
    exact hrec S19 h19 _ qp1 ep1 bp1 _ (qp3 + 1) (e_add ep3 k1) (by omega) ⟨t, ht, by rw [e19, hS.c.oth (f := 371) (f' := 372) (by decide) (by decide) (by decide)]; exact et⟩ (by omega)
theorem tL_X9_unuse_43 {m : Nat} {G : Nat → Nat} {Λ : sLay} {Y : gY} (w372 : Y.2.2 372 = false) : ∀ (n : Nat) (S : sSt) (hS : MI m G Λ Y S) (p1 : Int32) (qp1 : Nat) (ep1 : p1 = nI qp1) (bp1 : qp1 ≤ 15) (p3 : Int32) (qp3 : Nat) (ep3 : p3 = nI qp3) (bp3 : qp3 ≤ 12) (_ : ∃ t, t ≤ 11 ∧ gAI S (G 371) qp1 = nI t) (_ : 13 ≤ qp3 + n), T (L_X9_unuse_43 Λ.2.2 n S m p1 p3) (fun r : Int32 × sSt => MI m G Λ Y r.2) := by
  intro n
  induction n with
  | zero =>
    intro S hS p1 qp1 ep1 bp1 p3 qp3 ep3 bp3 f0 hm
    exfalso
    omega
  | succ n ih =>
    intro S hS p1 qp1 ep1 bp1 p3 qp3 ep3 bp3 f0 hm
    exact tY_X9_unuse_43 (w372 := w372) (n := n) (rec := L_X9_unuse_43 Λ.2.2 n) (hrec := ih) (S := S) (hS := hS) (p1 := p1) (qp1 := qp1) (ep1 := ep1) (bp1 := bp1) (p3 := p3) (qp3 := qp3) (ep3 := ep3) (bp3 := bp3) (f0 := f0) (hm := hm)
set_option maxHeartbeats 1000000 in
theorem tF_X9_unuse {m : Nat} {G : Nat → Nat} {Λ : sLay} {Y : gY} (w360 : Y.2.2 360 = false) (w371 : Y.2.2 371 = false) (w372 : Y.2.2 372 = false) (S : sSt) (hS : MI m G Λ Y S) (p1 : Int32) (p2 : Int32) : T (F_X9_unuse Λ.2.2 S m p1 p2) (fun r : Int32 × sSt => MI m G Λ Y r.2) := by
  unfold F_X9_unuse
  refine T_st (fun S1 eS1 => ?_)
  have h1 : MI m G Λ Y S1 := by rw [eS1]; exact hS.wF (f := 360) w360 (rg0 (P := fun B => nB B _) (by decide))
  refine T_bind (tF_X9_isUnit S1 h1 p1) (fun v2 r2 => T_ite (fun _ => T_some h1) (fun c2 => ?_))
  obtain ⟨q, gq, eq⟩ := r2.resolve_left c2
  refine T_m (h1.c.rf (f := 371) (by decide)) (T_bsome ?_)
  refine T_gi (g_in (h1.c.l (f := 371) (kd := 10) (n := 16) (by decide)) eq (by omega) (by omega)) ?_
  obtain ⟨t, ht, et⟩ := h1.c.n (f := 371) (B := 12) (by decide) (Int32.toNatClampNeg p1)
  refine T_bind (tF_X9_in S1 h1 p2 0 _) (fun v6 r6 => T_ite (fun _ => T_some h1) (fun c6 => ?_))
  obtain ⟨i, hi, ei⟩ := in_nat (r6.resolve_left c6).2 et (by omega)
  refine T_m (h1.c.rf (f := 371) (by decide)) (T_bsome ?_)
  refine T_gi (g_in (h1.c.l (f := 371) (kd := 10) (n := 16) (by decide)) eq (by omega) (by omega)) ?_
  refine T_gi (g_in (h1.c.l (f := 371) (kd := 10) (n := 16) (by decide)) eq (by omega) (by omega)) ?_
  refine T_st (fun S10 eS10 => ?_)
  have h10 : MI m G Λ Y S10 := by rw [eS10]; exact h1.wI (f := 371) (by decide) w371 (rg1 (B := 12) (by decide) ⟨(t-1), by omega, (e_sub et k1 (by omega))⟩) (rg0 (P := fun B => oB B _) (by decide))
  have e10 : gAI S10 (G 371) q = nI (t - 1) := by
    rw [eS10, gAI_sAI, e_clamp eq (by omega), if_pos ⟨rfl, rfl⟩, ← e_clamp eq (by omega)]
    exact e_sub et k1 (by omega)
  have hFU := FU_big
  exact tL_X9_unuse_43 (w372 := w372) FU S10 h10 _ q eq gq _ i ei (by omega) ⟨t - 1, by omega, e10⟩ (by omega)
set_option maxHeartbeats 1000000 in
theorem tF_X9_unway {m : Nat} {G : Nat → Nat} {Λ : sLay} {Y : gY} (w360 : Y.2.2 360 = false) (w369 : Y.2.2 369 = false) (S : sSt) (hS : MI m G Λ Y S) (p1 : Int32) : T (F_X9_unway Λ.2.2 S m p1) (fun r : Int32 × sSt => MI m G Λ Y r.2) := by
  unfold F_X9_unway
  refine T_st (fun S1 eS1 => ?_)
  have hS1 : MI m G Λ Y S1 := by rw [eS1]; exact (hS).wF (f := 360) w360 (rg0 (P := fun B => nB B _) (by decide))
  refine T_bind (tF_X9_isUnit S1 hS1 _) (fun v2 rv2 => ?_)
  refine T_ite (fun c1 => ?_) (fun c1 => ?_)
  · skip
    exact T_some hS1
  · skip
    obtain ⟨j1, g1, e1⟩ := (rv2).resolve_left c1
    refine T_m ((hS1).c.rf (f := 369) (by decide)) ?_
    refine T_bsome ?_
    refine T_gi (g_in ((hS).c.l (f := 369) (kd := 10) (n := 16) (by decide)) e1 (by omega) (by omega)) ?_
    refine T_m ((hS1).c.rf (f := 369) (by decide)) ?_
    refine T_bsome ?_
    refine T_gi (g_in ((hS).c.l (f := 369) (kd := 10) (n := 16) (by decide)) e1 (by omega) (by omega)) ?_
    refine T_st (fun S8 eS8 => ?_)
    have hS8 : MI m G Λ Y S8 := by rw [eS8]; exact (hS1).wI (f := 369) (by decide) w369 (rg1 (B := 6) (by decide) ⟨0, by omega, k0⟩) (rg0 (P := fun B => oB B _) (by decide))
    exact T_some hS8
theorem tF_X9_unit {m : Nat} {G : Nat → Nat} {Λ : sLay} {Z : sSt} (S : sSt) (hS : MC m G Λ Z S) (c : Nat) (hc : c ≤ 16) (ec : gFI S 361 m = nI c) : T (F_X9_unit Λ.2.2 S m) (fun r : Int32 × sSt => MC m G Λ Z r.2 ∧ ((c = 16 ∧ r.1 = -4 ∧ gFI r.2 361 m = nI c) ∨ (c < 16 ∧ r.1 = nI c ∧ gFI r.2 361 m = nI (c + 1)))) := by
  have wn : ∀ {T : sSt} {f : Nat} (B : Nat) {k : Nat}, MC m G Λ Z T → isM f = true → (∀ q ∈ rgN, q.1 = f → q.2 = B) → (∀ q ∈ rgO, q.1 ≠ f) → MC m G Λ Z (sAI T (G f) k 0) := fun B _ h hf h1 h2 => h.wI hf (rg1 (B := B) h1 ⟨0, Nat.zero_le _, k0⟩) (rg0 (P := fun B => oB B _) h2) (by decide) (by decide)
  have wa : ∀ {T : sSt} {f k : Nat} {v : Int32}, MC m G Λ Z T → isM f = true → (∀ q ∈ rgN, q.1 ≠ f) → (∀ q ∈ rgO, q.1 ≠ f) → MC m G Λ Z (sAI T (G f) k v) := fun h hf h1 h2 => h.wI hf (rg0 (P := fun B => nB B _) h1) (rg0 (P := fun B => oB B _) h2) (by decide) (by decide)
  unfold F_X9_unit
  refine T_st (fun S1 e1 => ?_)
  have h1 : MC m G Λ Z S1 := by rw [e1]; exact hS.wF (f := 360) (rg0 (P := fun B => nB B _) (by decide))
  have q1 : gFI S1 361 m = nI c := by rw [e1, gFI_ne (by decide)]; exact ec
  refine T_ite (fun h => T_some ⟨h1, Or.inl ⟨(e_eq q1 k16 (by omega) (by omega)).mp h, rfl, q1⟩⟩) (fun h => ?_)
  have d := mt (e_eq q1 k16 (by omega) (by omega)).mpr h
  refine T_st (fun S2 e2 => ?_)
  have h2 : MC m G Λ Z S2 := by rw [e2]; exact h1.wF (f := 361) (rg1 (B := 16) (by decide) ⟨c + 1, by omega, e_add q1 k1⟩)
  have q2 : gFI S2 361 m = nI (c + 1) := by rw [e2, gFI_sFI, if_pos ⟨rfl, rfl⟩]; exact e_add q1 k1
  refine T_m (h2.rf (f := 362) (by decide)) (T_bsome ?_)
  refine T_gi (g_in (h2.l (f := 362) (kd := 12) (n := 16) (by decide)) q1 (by omega) (by omega)) ?_
  refine T_st (fun S5 e5 => ?_)
  have h5 : MC m G Λ Z S5 := by rw [e5]; exact wa h2 (by decide) (by decide) (by decide)
  refine T_m (h5.rf (f := 363) (by decide)) (T_bsome ?_)
  refine T_gi (g_in (h5.l (f := 363) (kd := 10) (n := 16) (by decide)) q1 (by omega) (by omega)) ?_
  refine T_st (fun S8 e8 => ?_)
  have h8 : MC m G Λ Z S8 := by rw [e8]; exact wn 10 h5 (by decide) (by decide) (by decide)
  refine T_m (h8.rf (f := 369) (by decide)) (T_bsome ?_)
  refine T_gi (g_in (h8.l (f := 369) (kd := 10) (n := 16) (by decide)) q1 (by omega) (by omega)) ?_
  refine T_st (fun S11 e11 => ?_)
  have h11 : MC m G Λ Z S11 := by rw [e11]; exact wn 6 h8 (by decide) (by decide) (by decide)
  refine T_m (h11.rf (f := 371) (by decide)) (T_bsome ?_)
  refine T_gi (g_in (h11.l (f := 371) (kd := 10) (n := 16) (by decide)) q1 (by omega) (by omega)) ?_
  refine T_st (fun S14 e14 => ?_)
  have h14 : MC m G Λ Z S14 := by rw [e14]; exact wn 12 h11 (by decide) (by decide) (by decide)
  refine T_m (h14.rf (f := 373) (by decide)) (T_bsome ?_)
  refine T_gi (g_in (h14.l (f := 373) (kd := 12) (n := 16) (by decide)) q1 (by omega) (by omega)) ?_
  refine T_st (fun S17 e17 => ?_)
  have h17 : MC m G Λ Z S17 := by rw [e17]; exact wa h14 (by decide) (by decide) (by decide)
  refine T_m (h17.rf (f := 374) (by decide)) (T_bsome ?_)
  refine T_gi (g_in (h17.l (f := 374) (kd := 10) (n := 16) (by decide)) q1 (by omega) (by omega)) ?_
  refine T_st (fun S20 e20 => ?_)
  have h20 : MC m G Λ Z S20 := by rw [e20]; exact h17.wI (f := 374) (by decide) (rg0 (P := fun B => nB B _) (by decide)) (rg2 (B := 15) (by decide) (Or.inl rfl)) (by decide) (by decide)
  refine T_m (h20.rf (f := 377) (by decide)) (T_bsome ?_)
  refine T_gi (g_in (h20.l (f := 377) (kd := 10) (n := 16) (by decide)) q1 (by omega) (by omega)) ?_
  refine T_st (fun S23 e23 => ?_)
  have h23 : MC m G Λ Z S23 := by rw [e23]; exact wa h20 (by decide) (by decide) (by decide)
  exact T_some ⟨h23, Or.inr ⟨by omega, q1, by rw [e23, e20, e17, e14, e11, e8, e5]; exact q2⟩⟩
theorem tF_X9_clear {m : Nat} {G : Nat → Nat} {Λ : sLay} {Z : sSt} (S : sSt) (hS : MC m G Λ Z S) : T (F_X9_clear Λ.2.2 S m) (fun r : Int32 × sSt => MC m G Λ Z r.2 ∧ gFI r.2 361 m = nI 0 ∧ ∃ c, c ≤ 16 ∧ gFI S 361 m = nI c ∧ r.1 = nI (thr G S c)) := by
  unfold F_X9_clear
  have hFU := FU_big
  refine T_st (fun S1 e1 => ?_)
  have h1 : MC m G Λ Z S1 := by rw [e1]; exact hS.wF (f := 360) (rg0 (P := fun B => nB B _) (by decide))
  obtain ⟨v2, ev, c, hc, ec, er⟩ := tF_X9_unitsThere (Y := (Z, S1, nfz [])) S1 ⟨h1, FZ.rf⟩
  rw [ev]
  refine T_bsome ?_
  refine T_st (fun S4 e4 => ?_)
  have h4 : MC m G Λ Z S4 := by rw [e4]; exact h1.wF (f := 361) (rg1 (B := 16) (by decide) ⟨0, by omega, k0⟩)
  refine T_st (fun S5 e5 => ?_)
  have h5 : MC m G Λ Z S5 := by rw [e5]; exact h4.wF (f := 378) (rg0 (P := fun B => nB B _) (by decide))
  have q5 : gFI S5 361 m = nI 0 := by rw [e5, gFI_ne (by decide), e4, gFI_sFI, if_pos ⟨rfl, rfl⟩]; exact k0
  refine T_mono (tL_X9_clear_22 (w362 := rfl) (Y := (Z, S5, nfz [362])) FU S5 ⟨h5, FZ.rf⟩ _ _ 0 k0 (by omega) (by omega)) (fun r hr => ⟨hr.1.1, (hr.1.2 361 rfl).1.trans q5, c, hc, ?_, ?_⟩)
  · rw [e1, gFI_ne (by decide)] at ec; exact ec
  · rw [hr.2, er, e1]; rfl
set_option maxHeartbeats 1000000 in
theorem tY_X9_use_37 {m : Nat} {G : Nat → Nat} {Λ : sLay} {Y : gY} (w371 : Y.2.2 371 = false) (w372 : Y.2.2 372 = false) {n : Nat} {rec : sSt → Nat → Int32 → Int32 → Int32 → Int32 → Option (Int32 × sSt)} (hrec : ∀ (S : sSt) (hS : MI m G Λ Y S) (p1 : Int32) (qp1 : Nat) (ep1 : p1 = nI qp1) (bp1 : qp1 ≤ 15) (p2 : Int32) (p3 : Int32) (p4 : Int32) (qp4 : Nat) (ep4 : p4 = nI qp4) (bp4 : qp4 ≤ 12), (13 ≤ qp4 + n) → T (rec S m p1 p2 p3 p4) (fun r : Int32 × sSt => MI m G Λ Y r.2)) (S : sSt) (hS : MI m G Λ Y S) (p1 : Int32) (qp1 : Nat) (ep1 : p1 = nI qp1) (bp1 : qp1 ≤ 15) (p2 : Int32) (p3 : Int32) (p4 : Int32) (qp4 : Nat) (ep4 : p4 = nI qp4) (bp4 : qp4 ≤ 12) (hm : 13 ≤ qp4 + (n + 1)) : T (Y_X9_use_37 Λ.2.2 rec S m p1 p2 p3 p4) (fun r : Int32 × sSt => MI m G Λ Y r.2) := by
  unfold Y_X9_use_37
  refine T_m ((hS).c.rf (f := 371) (by decide)) ?_
  refine T_bsome ?_
  refine T_gi (g_in ((hS).c.l (f := 371) (kd := 10) (n := 16) (by decide)) ep1 (by omega) (by omega)) ?_
  obtain ⟨j2, g2, e2⟩ := (hS).c.n (f := 371) (B := 12) (by decide) (Int32.toNatClampNeg p1)
  refine T_ite (fun c1 => ?_) (fun c1 => ?_)
  · skip
    have d1 := (e_le e2 ep4 (by omega) (by omega)).mp c1
    refine T_m ((hS).c.rf (f := 371) (by decide)) ?_
    refine T_bsome ?_
    refine T_gi (g_in ((hS).c.l (f := 371) (kd := 10) (n := 16) (by decide)) ep1 (by omega) (by omega)) ?_
    refine T_ite (fun c3 => ?_) (fun c3 => ?_)
    · skip
      have d3 := (e_eq e2 k12 (by omega) (by omega)).mp c3
      exact T_some hS
    · skip
      have d3 := mt (e_eq e2 k12 (by omega) (by omega)).mpr c3
      refine T_m ((hS).c.rf (f := 372) (by decide)) ?_
      refine T_m ((hS).c.rf (f := 371) (by decide)) ?_
      refine T_bsome ?_
      refine T_gi (g_in ((hS).c.l (f := 371) (kd := 10) (n := 16) (by decide)) ep1 (by omega) (by omega)) ?_
      refine T_bsome ?_
      refine T_gi (g_in ((hS).c.l (f := 372) (kd := 10) (n := 192) (by decide)) (e_add (e_mul k12 ep1) e2) (by omega) (by omega)) ?_
      refine T_st (fun S16 eS16 => ?_)
      have hS16 : MI m G Λ Y S16 := by rw [eS16]; exact (hS).wI (f := 372) (by decide) w372 (rg0 (P := fun B => nB B _) (by decide)) (rg0 (P := fun B => oB B _) (by decide))
      refine T_m ((hS16).c.rf (f := 371) (by decide)) ?_
      refine T_bsome ?_
      refine T_gi (g_in ((hS).c.l (f := 371) (kd := 10) (n := 16) (by decide)) ep1 (by omega) (by omega)) ?_
      refine T_gi (g_in ((hS).c.l (f := 371) (kd := 10) (n := 16) (by decide)) ep1 (by omega) (by omega)) ?_
      have e4 : (gAI S16 (G 371) (Int32.toNatClampNeg p1)) = nI j2 := by rw [eS16, (hS).c.oth (f := 371) (f' := 372) (by decide) (by decide) (by decide)]; exact e2
      refine T_st (fun S19 eS19 => ?_)
      have hS19 : MI m G Λ Y S19 := by rw [eS19]; exact (hS16).wI (f := 371) (by decide) w371 (rg1 (B := 12) (by decide) ⟨(j2 + 1), by omega, (e_add e4 k1)⟩) (rg0 (P := fun B => oB B _) (by decide))
      refine T_m ((hS19).c.rf (f := 371) (by decide)) ?_
      refine T_bsome ?_
      refine T_gi (g_in ((hS).c.l (f := 371) (kd := 10) (n := 16) (by decide)) ep1 (by omega) (by omega)) ?_
      exact T_some hS19
  · skip
    have d1 := mt (e_le e2 ep4 (by omega) (by omega)).mpr c1
    refine T_m ((hS).c.rf (f := 372) (by decide)) ?_
    refine T_bsome ?_
    refine T_gi (g_in ((hS).c.l (f := 372) (kd := 10) (n := 192) (by decide)) (e_add (e_mul k12 ep1) ep4) (by omega) (by omega)) ?_
    refine T_ite (fun c5 => ?_) (fun c5 => ?_)
    · skip
      exact T_some hS
    · skip
      exact hrec S hS _ qp1 ep1 (by omega) _ _ _ (qp4 + 1) (e_add ep4 k1) (by omega) (by omega)
theorem tL_X9_use_37 {m : Nat} {G : Nat → Nat} {Λ : sLay} {Y : gY} (w371 : Y.2.2 371 = false) (w372 : Y.2.2 372 = false) : ∀ (n : Nat) (S : sSt) (hS : MI m G Λ Y S) (p1 : Int32) (qp1 : Nat) (ep1 : p1 = nI qp1) (bp1 : qp1 ≤ 15) (p2 : Int32) (p3 : Int32) (p4 : Int32) (qp4 : Nat) (ep4 : p4 = nI qp4) (bp4 : qp4 ≤ 12) (_ : 13 ≤ qp4 + n), T (L_X9_use_37 Λ.2.2 n S m p1 p2 p3 p4) (fun r : Int32 × sSt => MI m G Λ Y r.2) := by
  intro n
  induction n with
  | zero =>
    intro S hS p1 qp1 ep1 bp1 p2 p3 p4 qp4 ep4 bp4 hm
    exfalso
    omega
  | succ n ih =>
    intro S hS p1 qp1 ep1 bp1 p2 p3 p4 qp4 ep4 bp4 hm
    exact tY_X9_use_37 (w371 := w371) (w372 := w372) (n := n) (rec := L_X9_use_37 Λ.2.2 n) (hrec := ih) (S := S) (hS := hS) (p1 := p1) (qp1 := qp1) (ep1 := ep1) (bp1 := bp1) (p2 := p2) (p3 := p3) (p4 := p4) (qp4 := qp4) (ep4 := ep4) (bp4 := bp4) (hm := hm)
set_option maxHeartbeats 1000000 in
theorem tF_X9_use {m : Nat} {G : Nat → Nat} {Λ : sLay} {Y : gY} (w360 : Y.2.2 360 = false) (w371 : Y.2.2 371 = false) (w372 : Y.2.2 372 = false) (S : sSt) (hS : MI m G Λ Y S) (p1 : Int32) (p2 : Int32) (p3 : Int32) : T (F_X9_use Λ.2.2 S m p1 p2 p3) (fun r : Int32 × sSt => MI m G Λ Y r.2) := by
  unfold F_X9_use
  have hFU := FU_big
  refine T_st (fun S1 eS1 => ?_)
  have hS1 : MI m G Λ Y S1 := by rw [eS1]; exact (hS).wF (f := 360) w360 (rg0 (P := fun B => nB B _) (by decide))
  refine T_bind (tF_X9_isUnit S1 hS1 _) (fun v2 rv2 => ?_)
  refine T_ite (fun c1 => ?_) (fun c1 => ?_)
  · skip
    exact T_some hS1
  · skip
    obtain ⟨j1, g1, e1⟩ := (rv2).resolve_left c1
    refine T_bind (tF_X9_in S1 hS1 _ _ _) (fun v4 rv4 => ?_)
    refine T_ite (fun c2 => ?_) (fun c2 => ?_)
    · skip
      exact T_some hS1
    · skip
      obtain ⟨j2, g2, e2⟩ := in_nat2 ((rv4).resolve_left c2).2 (n := 1) rfl (by omega)
      refine T_bind (tF_X9_isName S1 hS1 _) (fun v6 rv6 => ?_)
      refine T_ite (fun c3 => ?_) (fun c3 => ?_)
      · skip
        exact T_some hS1
      · skip
        exact tL_X9_use_37 (w371 := w371) (w372 := w372) FU S1 hS1 _ j1 e1 (by omega) _ _ _ 0 k0 (by omega) (by omega)
set_option maxHeartbeats 1000000 in
theorem tF_X9_value {m : Nat} {G : Nat → Nat} {Λ : sLay} {Y : gY} (w360 : Y.2.2 360 = false) (w379 : Y.2.2 379 = false) (w380 : Y.2.2 380 = false) (w381 : Y.2.2 381 = false) (S : sSt) (hS : MI m G Λ Y S) (p1 : Int32) (p2 : Int32) : T (F_X9_value Λ.2.2 S m p1 p2) (fun r : Int64 × sSt => MI m G Λ Y r.2) := by
  unfold F_X9_value
  refine T_st (fun S1 eS1 => ?_)
  have h1 : MI m G Λ Y S1 := by rw [eS1]; exact hS.wF (f := 360) w360 (rg0 (P := fun B => nB B _) (by decide))
  refine T_bind (tF_X9_isUnit S1 h1 p1) (fun v2 r2 => T_ite (fun _ => T_some h1) (fun c2 => ?_))
  obtain ⟨q, gq, eq⟩ := r2.resolve_left c2
  refine T_bind (tF_X9_isName S1 h1 p2) (fun v4 _ => T_ite (fun _ => T_some h1) (fun _ => ?_))
  obtain ⟨v6, e6, r6, -⟩ := tF_X9_thingOf S1 h1 _ q eq gq ((32 : Int32) + p2)
  rw [e6]
  refine T_bsome (T_ite (fun _ => T_some h1) (fun c6 => ?_))
  obtain ⟨i, hi, ei⟩ := r6.ne c6
  refine T_bind (tF_X9_reckon (w379 := rfl) (w380 := rfl) (w381 := rfl) (Y := (Y.1, S1, nfz [379, 380, 381])) S1 (h1.loc _)) (fun S9 g9 => ?_)
  have h9 : MI m G Λ Y S9 := h1.up g9 (nfz_ok (fun g hg => by simp only [List.mem_cons, List.not_mem_nil, or_false] at hg; rcases hg with rfl | rfl | rfl <;> assumption))
  refine T_m (h9.c.rf (f := 381) (by decide)) ?_
  rw [F_thingOf_eq (h1.loc _) g9 rfl rfl, e6]
  refine T_bsome (T_bsome ?_)
  refine T_gi (g_in (h9.c.l (f := 381) (kd := 11) (n := 160) (by decide)) ei (by omega) (by omega)) ?_
  exact T_some h9
set_option maxHeartbeats 1000000 in
theorem tF_X9_way {m : Nat} {G : Nat → Nat} {Λ : sLay} {Y : gY} (w360 : Y.2.2 360 = false) (w369 : Y.2.2 369 = false) (w370 : Y.2.2 370 = false) (S : sSt) (hS : MI m G Λ Y S) (p1 : Int32) (p2 : Int32) : T (F_X9_way Λ.2.2 S m p1 p2) (fun r : Int32 × sSt => MI m G Λ Y r.2) := by
  unfold F_X9_way
  refine T_st (fun S1 eS1 => ?_)
  have hS1 : MI m G Λ Y S1 := by rw [eS1]; exact (hS).wF (f := 360) w360 (rg0 (P := fun B => nB B _) (by decide))
  refine T_bind (tF_X9_isUnit S1 hS1 _) (fun v2 rv2 => ?_)
  refine T_ite (fun c1 => ?_) (fun c1 => ?_)
  · skip
    exact T_some hS1
  · skip
    obtain ⟨j1, g1, e1⟩ := (rv2).resolve_left c1
    refine T_bind (tF_X9_isUnit S1 hS1 _) (fun v4 rv4 => ?_)
    refine T_ite (fun c2 => ?_) (fun c2 => ?_)
    · skip
      exact T_some hS1
    · skip
      obtain ⟨j2, g2, e2⟩ := (rv4).resolve_left c2
      refine T_ite (fun c3 => ?_) (fun c3 => ?_)
      · skip
        have d3 := (e_eq e1 e2 (by omega) (by omega)).mp c3
        exact T_some hS1
      · skip
        have d3 := mt (e_eq e1 e2 (by omega) (by omega)).mpr c3
        refine T_bind (tF_X9_isOnWay S1 hS1 _ j1 e1 (by omega) _) (fun v6 rv6 => ?_)
        refine T_ite (fun c4 => ?_) (fun c4 => ?_)
        · skip
          refine T_m ((hS1).c.rf (f := 369) (by decide)) ?_
          refine T_bsome ?_
          refine T_gi (g_in ((hS).c.l (f := 369) (kd := 10) (n := 16) (by decide)) e1 (by omega) (by omega)) ?_
          obtain ⟨j6, g6, e6⟩ := (hS1).c.n (f := 369) (B := 6) (by decide) (Int32.toNatClampNeg p1)
          refine T_ite (fun c5 => ?_) (fun c5 => ?_)
          · skip
            have d5 := (e_eq e6 k6 (by omega) (by omega)).mp c5
            exact T_some hS1
          · skip
            have d5 := mt (e_eq e6 k6 (by omega) (by omega)).mpr c5
            refine T_m ((hS1).c.rf (f := 370) (by decide)) ?_
            refine T_m ((hS1).c.rf (f := 369) (by decide)) ?_
            refine T_bsome ?_
            refine T_gi (g_in ((hS).c.l (f := 369) (kd := 10) (n := 16) (by decide)) e1 (by omega) (by omega)) ?_
            refine T_bsome ?_
            refine T_gi (g_in ((hS).c.l (f := 370) (kd := 10) (n := 96) (by decide)) (e_add (e_mul k6 e1) e6) (by omega) (by omega)) ?_
            refine T_st (fun S14 eS14 => ?_)
            have hS14 : MI m G Λ Y S14 := by rw [eS14]; exact (hS1).wI (f := 370) (by decide) w370 (rg1 (B := 15) (by decide) ⟨j2, by omega, e2⟩) (rg0 (P := fun B => oB B _) (by decide))
            refine T_m ((hS14).c.rf (f := 369) (by decide)) ?_
            refine T_bsome ?_
            refine T_gi (g_in ((hS).c.l (f := 369) (kd := 10) (n := 16) (by decide)) e1 (by omega) (by omega)) ?_
            refine T_gi (g_in ((hS).c.l (f := 369) (kd := 10) (n := 16) (by decide)) e1 (by omega) (by omega)) ?_
            have e7 : (gAI S14 (G 369) (Int32.toNatClampNeg p1)) = nI j6 := by rw [eS14, (hS1).c.oth (f := 369) (f' := 370) (by decide) (by decide) (by decide)]; exact e6
            refine T_st (fun S17 eS17 => ?_)
            have hS17 : MI m G Λ Y S17 := by rw [eS17]; exact (hS14).wI (f := 369) (by decide) w369 (rg1 (B := 6) (by decide) ⟨(j6 + 1), by omega, (e_add e7 k1)⟩) (rg0 (P := fun B => oB B _) (by decide))
            refine T_m ((hS17).c.rf (f := 369) (by decide)) ?_
            refine T_bsome ?_
            refine T_gi (g_in ((hS).c.l (f := 369) (kd := 10) (n := 16) (by decide)) e1 (by omega) (by omega)) ?_
            exact T_some hS17
        · skip
          exact T_some hS1
set_option maxHeartbeats 1000000 in
theorem tF_X9_why {m : Nat} {G : Nat → Nat} {Λ : sLay} {Y : gY} (w360 : Y.2.2 360 = false) (w379 : Y.2.2 379 = false) (w380 : Y.2.2 380 = false) (w381 : Y.2.2 381 = false) (w387 : Y.2.2 387 = false) (w388 : Y.2.2 388 = false) (w389 : Y.2.2 389 = false) (S : sSt) (hS : MI m G Λ Y S) (p1 : Int32) : T (F_X9_why Λ.2.2 S m p1) (fun r : Int32 × sSt => MI m G Λ Y r.2) := by
  unfold F_X9_why
  refine T_st (fun S1 eS1 => ?_)
  have hS1 : MI m G Λ Y S1 := by rw [eS1]; exact (hS).wF (f := 360) w360 (rg0 (P := fun B => nB B _) (by decide))
  refine T_bind (tF_X9_isUnit S1 hS1 _) (fun v2 rv2 => ?_)
  refine T_ite (fun c1 => ?_) (fun c1 => ?_)
  · skip
    exact T_some hS1
  · skip
    obtain ⟨j1, g1, e1⟩ := (rv2).resolve_left c1
    refine T_bind (tF_X9_rowOf (w379 := w379) (w380 := w380) (w381 := w381) (w387 := w387) (w388 := w388) (w389 := w389) S1 hS1 _ j1 e1 (by omega)) (fun S5 rS5 => ?_)
    have hS5 := rS5
    refine T_bind (tF_X9_whyOf S5 hS5 _ j1 e1 (by omega)) (fun v6 rv6 => ?_)
    exact T_some hS5
