/-! What the reference keeps of each unit; why one is needed. -/
def RKp (G : Nat → Nat) (S : sSt) (c : Nat) (F : aF) (K : aK) : Prop := ∀ k, k < c → F.1 k = true → gAI S (G 377) k = K.1 k ∧ (K.1 k ≠ 0 → szS (K.2 k) k ∧ (sR (K.2 k) k).length ≤ 680 ∧ (∀ i v, (sR (K.2 k) k)[i]? = some v → gAJ S (G 375) (700 * k + i) = v) ∧ ∀ i, i < 6 → gAI S (G 376) (6 * k + i) = nI (sQ (K.2 k) k i))
theorem RKp.cg {G : Nat → Nat} {S S1 : sSt} {c : Nat} {F : aF} {K : aK} (h : RKp G S c F K) (e1 : ∀ p, gAI S1 (G 377) p = gAI S (G 377) p) (e2 : ∀ p, gAJ S1 (G 375) p = gAJ S (G 375) p) (e3 : ∀ p, gAI S1 (G 376) p = gAI S (G 376) p) : RKp G S1 c F K := fun k hk hT => by
  obtain ⟨q1, q2⟩ := h k hk hT
  refine ⟨(e1 k).trans q1, fun n => ?_⟩
  obtain ⟨a1, a2, a3, a4⟩ := q2 n
  exact ⟨a1, a2, fun i v hv => (e2 _).trans (a3 i v hv), fun i hi => (e3 _).trans (a4 i hi)⟩
theorem RKp.mono {G : Nat → Nat} {S : sSt} {c : Nat} {F F2 : aF} {K : aK} (h : RKp G S c F K) (hm : ∀ k, F2.1 k = true → F.1 k = true) : RKp G S c F2 K := fun k hk hT => h k hk (hm k hT)
theorem RKp.mi {m : Nat} {G : Nat → Nat} {Λ : sLay} {Z S S1 : sSt} {c : Nat} {F : aF} {K : aK} {fz : Nat → Bool} (h : RKp G S c F K) (g : MI m G Λ (Z, S, fz) S1) (f5 : fz 375 = true) (f6 : fz 376 = true) (f7 : fz 377 = true) : RKp G S1 c F K := h.cg (fun p => ((g.2 377 f7).2 rfl p).1) (fun p => ((g.2 375 f5).2 rfl p).2) (fun p => ((g.2 376 f6).2 rfl p).1)
theorem RKp.kp {G : Nat → Nat} {S S1 : sSt} {c : Nat} {F : aF} {K : aK} (h : RKp G S c F K) (k : ∀ f, isM f = true → kpA S S1 (G f)) : RKp G S1 c F K := h.cg (fun p => (k 377 rfl).2.2.2.1 p) (fun p => (k 375 rfl).2.2.2.2.1 p) (fun p => (k 376 rfl).2.2.2.1 p)
section
variable {m c : Nat} {G : Nat → Nat} {Λ : sLay} {N : Nat → Nat} {S0 S S1 S2 : sSt} {F : aF} {U W : aU} {H : aH} {X Y : List Int64} {k : Nat}
theorem RR.mi {Z : sSt} {fz : Nat → Bool} (h : RR m G Λ c F U W H S) (g : MI m G Λ (Z, S, fz) S1) (f : fyA fz) (f381 : fz 381 = true) : RR m G Λ c F U W H S1 := by
  obtain ⟨⟨h1, h2, h3, h4, h5⟩, hU, hV⟩ := h
  exact ⟨⟨g.1.1, ((g.2 361 (f 361 (by decide))).1).trans h2, h3.fz g (f 362 (by decide)) (f 373 (by decide)) (f 374 (by decide)), h4.fz g rfl rfl (f 369 (by decide)) (f 370 (by decide)), h5.fz g (fun q hq => f q (by revert q; decide))⟩, hU.fz g rfl rfl (f 371 (by decide)) (f 372 (by decide)), fun z th hz => (((g.2 381 f381).2 rfl _).2).trans (hV z th hz)⟩
/-- a stretch of the line and of what is kept -/
theorem ia_loop (g1 : gFR S 387 m = some (G 387)) (g2 : gFR S 375 m = some (G 375)) (hX : ∀ i v, X[i]? = some v → gAJ S (G 387) i = v) (hY : ∀ i v, Y[i]? = some v → gAJ S (G 375) (700 * k + i) = v) (lX : X.length ≤ 680) (hk : k < 16) : ∀ (n i d : Nat) (b e : Int32), e = nI (i + d) → i + d ≤ X.length → i + d ≤ Y.length → (b = 1 ∨ b = 0) → Pa (L_X9_isAs_6 N S n m (nI k) e b (nI i)) (fun q => ((b = 1 ∧ smB X Y i d = true) ∧ q = 1) ∨ (¬ (b = 1 ∧ smB X Y i d = true) ∧ q = 0))
  | 0, _, _, _, _, _, _, _, _ => Pa_none
  | n + 1, i, d, b, e, he, h1, h2, hb => by
    show Pa (Y_X9_isAs_6 N S (L_X9_isAs_6 N S n) m (nI k) e b (nI i)) _
    unfold Y_X9_isAs_6 B_X9_isAs_45 B_X9_isAs_46
    cases d with
    | zero =>
      refine Pa_it (by rw [he]; exact leN (by omega) (by omega) (by omega)) (Pa_gb (Pa_some ?_))
      rcases hb with rfl | rfl
      · exact Or.inl ⟨⟨rfl, rfl⟩, rfl⟩
      · exact Or.inr ⟨fun z => absurd z.1 (by decide), rfl⟩
    | succ d =>
      have l1 : i < X.length := by omega
      have l2 : i < Y.length := by omega
      have he' : e = nI (i + 1 + d) := by rw [he]; congr 1; omega
      have no : ∀ q : Int32, ((((0 : Int32) = 1 ∧ smB X Y (i + 1) d = true) ∧ q = 1) ∨ (¬ ((0 : Int32) = 1 ∧ smB X Y (i + 1) d = true) ∧ q = 0)) → q = 0 := fun q hq => by
        rcases hq with z | z
        · exact absurd z.1.1 (by decide)
        · exact z.2
      refine Pa_if (by rw [he]; exact nleN (by omega) (by omega) (by omega)) ?_
      rw [n_a1]
      rcases hb with rfl | rfl
      · have e1 : (700 : Int32) * nI k + nI i = nI (700 * k + i) := e_add (n_m700 k) rfl
        refine Pa_if (by decide) (Pa_r g1 (Pa_g (Pa_r g2 (Pa_g ?_))))
        rw [e1, n_cl (n := i) (by omega), n_cl (n := 700 * k + i) (by omega), hX i _ (List.getElem?_eq_getElem l1), hY i _ (List.getElem?_eq_getElem l2)]
        by_cases cc : X[i] = Y[i]
        · have es : smB X Y i (d + 1) = smB X Y (i + 1) d := by
            rw [smB_s, decide_eq_true (p := X[i]? = Y[i]?) (by rw [List.getElem?_eq_getElem l1, List.getElem?_eq_getElem l2, cc]), Bool.true_and]
          rw [es]
          exact Pa_it ((lg_cmp_eq _ _).mpr cc) (ia_loop g1 g2 hX hY lX hk n (i + 1) d 1 e he' (by omega) (by omega) (Or.inl rfl))
        · have es : smB X Y i (d + 1) = false := by
            rw [smB_s, decide_eq_false (p := X[i]? = Y[i]?) (fun z => cc (by rw [List.getElem?_eq_getElem l1, List.getElem?_eq_getElem l2] at z; exact Option.some.inj z)), Bool.false_and]
          refine Pa_if (fun z => cc ((lg_cmp_eq _ _).mp z)) (Pa_mono (ia_loop g1 g2 hX hY lX hk n (i + 1) d 0 e he' (by omega) (by omega) (Or.inr rfl)) (fun q hq => Or.inr ⟨fun z => ?_, no q hq⟩))
          rw [es] at z
          cases z.2
      · exact Pa_it rfl (Pa_mono (ia_loop g1 g2 hX hY lX hk n (i + 1) d 0 e he' (by omega) (by omega) (Or.inr rfl)) (fun q hq => Or.inr ⟨fun z => absurd z.1 (by decide), no q hq⟩))
theorem ia_val (g1 : gFR S 387 m = some (G 387)) (g2 : gFR S 375 m = some (G 375)) (hX : ∀ i v, X[i]? = some v → gAJ S (G 387) i = v) (hY : ∀ i v, Y[i]? = some v → gAJ S (G 375) (700 * k + i) = v) (lX : X.length ≤ 680) (hk : k < 16) {i e : Nat} (hi : i ≤ e) (h1 : e ≤ X.length) (h2 : e ≤ Y.length) : Pa (F_X9_isAs N S m (nI k) (nI i) (nI e)) (fun q => (smB X Y i (e - i) = true ∧ q = 1) ∨ (smB X Y i (e - i) = false ∧ q = 0)) := by
  refine Pa_mono (ia_loop g1 g2 hX hY lX hk FU i (e - i) 1 (nI e) (by congr 1; omega) (by omega) (by omega) (Or.inl rfl)) (fun q hq => ?_)
  rcases hq with z | z
  · exact Or.inl ⟨z.1.2, z.2⟩
  · refine Or.inr ⟨?_, z.2⟩
    cases h : smB X Y i (e - i) with
    | true => exact absurd ⟨rfl, h⟩ z.1
    | false => rfl
end
section
variable {m c : Nat} {G : Nat → Nat} {Λ : sLay} {N : Nat → Nat} {S : sSt} {s s' : aS} {k : Nat}
/-- a row is laid, another one kept -/
def LK (m : Nat) (G : Nat → Nat) (S : sSt) (s s' : aS) (k : Nat) : Prop := (∀ f, isM f = true → gFR S f m = some (G f)) ∧ (∀ i v, (sR s k)[i]? = some v → gAJ S (G 387) i = v) ∧ (∀ i, i < 6 → gAI S (G 389) i = nI (sQ s k i)) ∧ (∀ i v, (sR s' k)[i]? = some v → gAJ S (G 375) (700 * k + i) = v) ∧ (∀ i, i < 6 → gAI S (G 376) (6 * k + i) = nI (sQ s' k i)) ∧ (sR s k).length ≤ 680 ∧ (sR s' k).length ≤ 680 ∧ szS s k ∧ szS s' k ∧ k < 16
theorem LK.ia (h : LK m G S s s' k) {i e : Nat} (hi : i ≤ e) (h1 : e ≤ (sR s k).length) (h2 : e ≤ (sR s' k).length) : Pa (F_X9_isAs N S m (nI k) (nI i) (nI e)) (fun q => (smB (sR s k) (sR s' k) i (e - i) = true ∧ q = 1) ∨ (smB (sR s k) (sR s' k) i (e - i) = false ∧ q = 0)) := ia_val (h.1 387 rfl) (h.1 375 rfl) h.2.1 h.2.2.2.1 h.2.2.2.2.2.1 h.2.2.2.2.2.2.2.2.2 hi h1 h2
theorem LK.six (h : LK m G S s s' k) {i : Nat} (hi : i < 6) : gAI S (G 376) (Int32.toNatClampNeg ((6 : Int32) * nI k + nI i)) = nI (sQ s' k i) := by
  have hk := h.2.2.2.2.2.2.2.2.2
  have e1 : (6 : Int32) * nI k + nI i = nI (6 * k + i) := e_add (n_m6 k) rfl
  rw [e1, n_cl (by omega)]
  exact h.2.2.2.2.1 i hi
theorem LK.prt (h : LK m G S s s' k) {i : Nat} (hi : i < 6) : gAI S (G 389) (Int32.toNatClampNeg (nI i)) = nI (sQ s k i) := by
  rw [n_cl (by omega)]
  exact h.2.2.1 i hi
/-- the names of uses, and all behind them -/
theorem wo_70 (h : LK m G S s s' k) (h4 : ∀ i, i < 4 → sQ s k i = sQ s' k i) : ∀ (n j d : Nat) (b : Int32), j + d = sN s k → (b = 1 ∨ b = 0) → ((b = 1 ∧ unB (sR s k) (sR s' k) (sQ s k 1 + 1 + 4 * j) d = true) ↔ owB (sR s k) (sR s' k) (sQ s k) (sQ s' k) (sN s k) (sN s' k)) → Pa (L_X9_whyOf_70 N S n m (nI k) b (nI (sQ s k 1 + 1 + 4 * j))) (fun q => q = aWh (sR s k) (sR s' k) (sQ s k) (sQ s' k) (sN s k) (sN s' k))
  | 0, _, _, _, _, _, _ => Pa_none
  | n + 1, j, d, b, hj, hb, hO => by
    have lX := h.2.2.2.2.2.1
    have lY := h.2.2.2.2.2.2.1
    have a2 := sQ_2 (s := s) (k := k)
    have a3 := sQ_3 (s := s) (k := k)
    have a4 := sQ_4 (s := s) (k := k)
    have a5 := sQ_5 (s := s) (k := k)
    have a6 := sQ_len (s := s) (k := k)
    have b4 := sQ_4 (s := s') (k := k)
    have b5 := sQ_5 (s := s') (k := k)
    have b6 := sQ_len (s := s') (k := k)
    have q1 := h4 1 (by decide)
    have q2 := h4 2 (by decide)
    have q3 := h4 3 (by decide)
    have ne : ∀ {a b : Nat}, a < 2147483648 → b < 2147483648 → a ≠ b → nI a ≠ nI b := fun ha hb c z => c ((nI_eq ha hb).mp z)
    show Pa (Y_X9_whyOf_70 N S (L_X9_whyOf_70 N S n) m (nI k) b (nI (sQ s k 1 + 1 + 4 * j))) _
    unfold Y_X9_whyOf_70 B_X9_whyOf_100 B_X9_whyOf_101 B_X9_whyOf_218
    have p1 : gAI S (G 389) (Int32.toNatClampNeg (1 : Int32)) = nI (sQ s k 1) := h.prt (i := 1) (by decide)
    have p2 : gAI S (G 389) (Int32.toNatClampNeg (2 : Int32)) = nI (sQ s k 2) := h.prt (i := 2) (by decide)
    have p3 : gAI S (G 389) (Int32.toNatClampNeg (3 : Int32)) = nI (sQ s k 3) := h.prt (i := 3) (by decide)
    have p4 : gAI S (G 389) (Int32.toNatClampNeg (4 : Int32)) = nI (sQ s k 4) := h.prt (i := 4) (by decide)
    have p5 : gAI S (G 389) (Int32.toNatClampNeg (5 : Int32)) = nI (sQ s k 5) := h.prt (i := 5) (by decide)
    have r4 : gAI S (G 376) (Int32.toNatClampNeg ((6 : Int32) * nI k + (4 : Int32))) = nI (sQ s' k 4) := h.six (i := 4) (by decide)
    have r5 : gAI S (G 376) (Int32.toNatClampNeg ((6 : Int32) * nI k + (5 : Int32))) = nI (sQ s' k 5) := h.six (i := 5) (by decide)
    have g389 := h.1 389 rfl
    have g376 := h.1 376 rfl
    refine Pa_r g389 (Pa_g ?_)
    rw [p2]
    cases d with
    | zero =>
      refine Pa_it (leN (by omega) (by omega) (by omega)) ?_
      rcases hb with rfl | rfl
      · have hW := hO.mp ⟨rfl, rfl⟩
        refine Pa_if (by decide) (Pa_r g389 (Pa_g (Pa_r g389 (Pa_g ?_))))
        rw [p1, p3]
        refine Pa_bind (h.ia (by omega) (by omega) (by omega)) (fun v hv0 hv => ?_)
        rcases hv with ⟨g3, rfl⟩ | ⟨g3, rfl⟩
        · refine Pa_if (by decide) (Pa_r g389 (Pa_g (Pa_r g376 (Pa_g ?_))))
          rw [p4, r4]
          by_cases c4 : sQ s k 4 = sQ s' k 4
          · refine Pa_it (congrArg nI c4) (Pa_r g389 (Pa_g (Pa_r g389 (Pa_g ?_))))
            rw [p3, p4]
            refine Pa_bind (h.ia (by omega) (by omega) (by omega)) (fun v _ hv => ?_)
            rcases hv with ⟨g4, rfl⟩ | ⟨g4, rfl⟩
            · refine Pa_if (by decide) (Pa_r g389 (Pa_g (Pa_r g376 (Pa_g ?_))))
              rw [p5, r5]
              by_cases c5 : sQ s k 5 = sQ s' k 5
              · refine Pa_it (congrArg nI c5) (Pa_r g389 (Pa_g (Pa_r g389 (Pa_g ?_))))
                rw [p4, p5]
                refine Pa_bind (h.ia (by omega) (by omega) (by omega)) (fun v _ hv => ?_)
                rcases hv with ⟨g5, rfl⟩ | ⟨g5, rfl⟩
                · exact Pa_if (by decide) (Pa_some (aWh_0 hW ⟨q3, g3⟩ ⟨c4, g4⟩ ⟨c5, g5⟩).symm)
                · exact Pa_it rfl (Pa_some (aWh_5 hW ⟨q3, g3⟩ ⟨c4, g4⟩ (fun z => by have y := z.2; rw [g5] at y; cases y)).symm)
              · exact Pa_if (ne (by omega) (by omega) c5) (Pa_some (aWh_5 hW ⟨q3, g3⟩ ⟨c4, g4⟩ (fun z => c5 z.1)).symm)
            · exact Pa_it rfl (Pa_some (aWh_4 hW ⟨q3, g3⟩ (fun z => by have y := z.2; rw [g4] at y; cases y)).symm)
          · exact Pa_if (ne (by omega) (by omega) c4) (Pa_some (aWh_4 hW ⟨q3, g3⟩ (fun z => c4 z.1)).symm)
        · exact Pa_it rfl (Pa_some (aWh_3 hW (fun z => by have y := z.2; rw [g3] at y; cases y)).symm)
      · exact Pa_it rfl (Pa_some (aWh_2 (fun z => absurd (hO.mpr z).1 (by decide))).symm)
    | succ d =>
      refine Pa_if (nleN (by omega) (by omega) (by omega)) ?_
      rw [n_a4, n_a2]
      have e4 : sQ s k 1 + 1 + 4 * j + 4 = sQ s k 1 + 1 + 4 * (j + 1) := by omega
      rw [e4]
      rcases hb with rfl | rfl
      · refine Pa_if (by decide) (Pa_bind (h.ia (i := sQ s k 1 + 1 + 4 * j) (e := sQ s k 1 + 1 + 4 * j + 2) (by omega) (by omega) (by omega)) (fun v _ hv => ?_))
        rw [show sQ s k 1 + 1 + 4 * j + 2 - (sQ s k 1 + 1 + 4 * j) = 2 by omega] at hv
        rw [unB_s, e4] at hO
        rcases hv with ⟨g3, rfl⟩ | ⟨g3, rfl⟩
        · rw [g3, Bool.true_and] at hO
          exact Pa_if (by decide) (wo_70 h h4 n (j + 1) d 1 (by omega) (Or.inl rfl) hO)
        · rw [g3, Bool.false_and] at hO
          exact Pa_it rfl (wo_70 h h4 n (j + 1) d 0 (by omega) (Or.inr rfl) ⟨fun z => absurd z.1 (by decide), fun z => by cases (hO.mpr z).2⟩)
      · exact Pa_it rfl (wo_70 h h4 n (j + 1) d 0 (by omega) (Or.inr rfl) ⟨fun z => absurd z.1 (by decide), fun z => absurd (hO.mpr z).1 (by decide)⟩)
theorem wo_13 (h : LK m G S s s' k) : ∀ (n i : Nat), i ≤ 4 → (∀ j, j < i → sQ s k j = sQ s' k j) → Pa (L_X9_whyOf_13 N S n m (nI k) (nI i)) (fun q => q = aWh (sR s k) (sR s' k) (sQ s k) (sQ s' k) (sN s k) (sN s' k))
  | 0, _, _, _ => Pa_none
  | n + 1, i, hi, h4 => by
    have lX := h.2.2.2.2.2.1
    have lY := h.2.2.2.2.2.2.1
    have a2 := sQ_2 (s := s) (k := k)
    have a3 := sQ_3 (s := s) (k := k)
    have a4 := sQ_4 (s := s) (k := k)
    have a5 := sQ_5 (s := s) (k := k)
    have a6 := sQ_len (s := s) (k := k)
    have b2 := sQ_2 (s := s') (k := k)
    have b3 := sQ_3 (s := s') (k := k)
    have b4 := sQ_4 (s := s') (k := k)
    have b5 := sQ_5 (s := s') (k := k)
    have b6 := sQ_len (s := s') (k := k)
    have hiff := ow_iff h.2.2.2.2.2.2.2.1 h.2.2.2.2.2.2.2.2.1
    have g389 := h.1 389 rfl
    have g376 := h.1 376 rfl
    show Pa (Y_X9_whyOf_13 N S (L_X9_whyOf_13 N S n) m (nI k) (nI i)) _
    unfold Y_X9_whyOf_13
    by_cases c4 : i = 4
    · rw [c4] at h4
      have p1 : gAI S (G 389) (Int32.toNatClampNeg (1 : Int32)) = nI (sQ s k 1) := h.prt (i := 1) (by decide)
      have q1 := h4 1 (by decide)
      have q2 := h4 2 (by decide)
      refine Pa_it (leN (a := 4) (by omega) (by omega) (by omega)) (Pa_r g389 (Pa_g ?_))
      rw [p1, n_a1]
      refine Pa_bind (h.ia (i := 0) (e := sQ s k 1 + 1) (Nat.zero_le _) (by omega) (by omega)) (fun v _ hv => Pa_r g389 (Pa_g ?_))
      rw [p1, n_a1]
      rw [Nat.sub_zero] at hv
      refine wo_70 h h4 FU 0 (sN s k) v (by omega) ?_ ?_
      · rcases hv with z | z
        · exact Or.inl z.2
        · exact Or.inr z.2
      · rw [show sQ s k 1 + 1 + 4 * 0 = sQ s k 1 + 1 by omega, hiff]
        rcases hv with ⟨z, rfl⟩ | ⟨z, rfl⟩
        · exact ⟨fun y => ⟨h4, z, y.2⟩, fun y => ⟨rfl, y.2.2⟩⟩
        · refine ⟨fun y => absurd y.1 (by decide), fun y => ?_⟩
          have := y.2.1
          rw [z] at this
          cases this
    · have e6 := h.six (i := i) (by omega)
      have p6 := h.prt (i := i) (by omega)
      refine Pa_if (nleN (b := i) (a := 4) (by omega) (by omega) (by omega)) (Pa_r g389 (Pa_g (Pa_r g376 (Pa_g ?_))))
      rw [p6, e6]
      by_cases cq : sQ s k i = sQ s' k i
      · refine Pa_it (congrArg nI cq) ?_
        rw [n_a1]
        refine wo_13 h n (i + 1) (by omega) (fun j hj => ?_)
        by_cases cj : j = i
        · rw [cj]; exact cq
        · exact h4 j (by omega)
      · have lq : ∀ {s : aS}, sQ s k i ≤ (sR s k).length := fun {s} => by
          have a2 := sQ_2 (s := s) (k := k)
          have a3 := sQ_3 (s := s) (k := k)
          have a4 := sQ_4 (s := s) (k := k)
          have a5 := sQ_5 (s := s) (k := k)
          have a6 := sQ_len (s := s) (k := k)
          have a1 : sQ s k 0 ≤ sQ s k 1 := Nat.le_add_right _ _
          have : i = 0 ∨ i = 1 ∨ i = 2 ∨ i = 3 := by omega
          rcases this with e | e | e | e <;> rw [e] <;> omega
        have l1 := lq (s := s)
        have l2 := lq (s := s')
        refine Pa_if (fun z => cq ((nI_eq (by omega) (by omega)).mp z)) (Pa_some (aWh_2 (fun z => ?_)).symm)
        exact cq ((hiff.mp z).1 i (by omega))
end
section
variable {m c : Nat} {G : Nat → Nat} {Λ : sLay} {N : Nat → Nat} {S0 S S1 : sSt} {F : aF} {U W : aU} {H : aH} {K : aK} {j : Nat}
theorem RR.sz (h0 : RR m G Λ c F U W H S0) (hj : j < c) (hT : F.1 j = true) : szS (c, F, U, W, H) j := by
  have hU := (h0.2.1 j hj hT).2.1
  have hW := (h0.1.2.2.2.1 j hj hT).2.1
  obtain ⟨q1, q2, q3⟩ := h0.1.2.2.2.2 j hj hT
  refine ⟨q2, fun th hth => ?_, hU, hW⟩
  obtain ⟨i, hi, e⟩ := List.getElem_of_mem hth
  exact (q3 i th (by rw [List.getElem?_eq_getElem hi, e])).2.2.2.2.2.1
/-- why a unit is needed, in the reference: its row is laid -/
theorem wo_val (hG : MG m G Λ S0) (hz : szS (c, F, U, W, H) j) (hj : j < c) (hc : c ≤ 16) (hT : F.1 j = true) (h : LRw m G S0 S (rwR c F U W H j) (pE c F U W H j ++ [(rwR c F U W H j).length])) (hK : RKp G S c F K) : Pa (F_X9_whyOf N S m (nI j)) (fun q => q = aWhy K (c, F, U, W, H) j) := by
  obtain ⟨q1, q2⟩ := hK j hj hT
  unfold F_X9_whyOf
  refine Pa_r (hG.g h.1.1 377) (Pa_g ?_)
  rw [n_cl (n := j) (by omega), q1]
  by_cases c0 : K.1 j = 0
  · exact Pa_it c0 (Pa_some (aWhy_1 c0).symm)
  · obtain ⟨z1, z2, z3, z4⟩ := q2 c0
    rw [aWhy_n c0]
    refine Pa_if c0 (wo_13 (s := (c, F, U, W, H)) ⟨fun f hf => hG.g h.1.1 f hf, h.2.2.2.1, fun i hi => h.2.2.2.2 i _ (sP_q (s := (c, F, U, W, H)) hi), z3, z4, h.2.2.1, z2, hz, z1, by omega⟩ FU 0 (by omega) (fun i hi => absurd hi (Nat.not_lt_zero i)))
end
/-- only what is kept was written -/
def KX (m : Nat) (G : Nat → Nat) (S S1 : sSt) : Prop := S1.2.2.1 = S.2.2.1 ∧ (∀ f, f ≠ 378 → gFI S1 f m = gFI S f m) ∧ ∀ f, isM f = true → f ≠ 375 → f ≠ 376 → f ≠ 377 → ∀ k, gAI S1 (G f) k = gAI S (G f) k ∧ gAJ S1 (G f) k = gAJ S (G f) k
section
variable {m c : Nat} {G : Nat → Nat} {Λ : sLay} {N : Nat → Nat} {Sb S0 S S1 : sSt} {F : aF} {K : aK} {j : Nat} {X : List Int64} {ps : List Nat} {q : Nat → Nat}
theorem KX.rf : KX m G S S := ⟨rfl, fun _ _ => rfl, fun _ _ _ _ _ _ => ⟨rfl, rfl⟩⟩
theorem KX.J (hG : MG m G Λ Sb) (h : KX m G S S1) {k : Nat} {v : Int64} : KX m G S (sAJ S1 (G 375) k v) := ⟨h.1, h.2.1, fun f hf n5 n6 n7 p => ⟨(h.2.2 f hf n5 n6 n7 p).1, (hG.oJ f 375 hf rfl n5).trans (h.2.2 f hf n5 n6 n7 p).2⟩⟩
theorem KX.I (hG : MG m G Λ Sb) (h : KX m G S S1) (f' : Nat) (hf' : isM f' = true) (h2 : f' = 376 ∨ f' = 377) {k : Nat} {v : Int32} : KX m G S (sAI S1 (G f') k v) := ⟨h.1, h.2.1, fun f hf n5 n6 n7 p => ⟨(hG.o f f' hf hf' (by rcases h2 with rfl | rfl <;> assumption)).trans (h.2.2 f hf n5 n6 n7 p).1, (h.2.2 f hf n5 n6 n7 p).2⟩⟩
/-- what is kept behind it -/
def KD (m : Nat) (G : Nat → Nat) (S0 S2 : sSt) (j : Nat) (X : List Int64) (q : Nat → Nat) : Prop := KX m G S0 S2 ∧ (∀ i v, X[i]? = some v → gAJ S2 (G 375) (700 * j + i) = v) ∧ (∀ p, p < 700 * j ∨ 700 * j + 700 ≤ p → gAJ S2 (G 375) p = gAJ S0 (G 375) p) ∧ (∀ i, i < 6 → gAI S2 (G 376) (6 * j + i) = nI (q i)) ∧ (∀ p, p < 6 * j ∨ 6 * j + 6 ≤ p → gAI S2 (G 376) p = gAI S0 (G 376) p) ∧ (∀ p, gAI S2 (G 377) p = if p = j then gAI S0 (G 377) j + 1 else gAI S0 (G 377) p) ∧ gFI S2 378 m = gFI S0 378 m + 1
theorem kp_36 (hG : MG m G Λ Sb) (e0 : S0.2.2.1 = Sb.2.2.1) (hj : j < 16) (hq : ∀ i, i < 6 → gAI S0 (G 389) i = nI (q i)) : ∀ (n i : Nat) (S1 : sSt), i ≤ 6 → KX m G S0 S1 → gFI S1 378 m = gFI S0 378 m → (∀ i v, X[i]? = some v → gAJ S1 (G 375) (700 * j + i) = v) → (∀ p, p < 700 * j ∨ 700 * j + 700 ≤ p → gAJ S1 (G 375) p = gAJ S0 (G 375) p) → (∀ r, r < i → gAI S1 (G 376) (6 * j + r) = nI (q r)) → (∀ p, p < 6 * j ∨ 6 * j + 6 ≤ p → gAI S1 (G 376) p = gAI S0 (G 376) p) → (∀ p, gAI S1 (G 377) p = gAI S0 (G 377) p) → Pa (L_X9_keep_36 N n S1 m (nI j) (nI i)) (fun S2 => KD m G S0 S2 j X q)
  | 0, _, _, _, _, _, _, _, _, _, _ => Pa_none
  | n + 1, i, S1, hi, k, e8, d1, d2, d3, d4, d5 => by
    have gg : ∀ f, isM f = true → gFR S1 f m = some (G f) := fun f hf => hG.g (k.1.trans e0) f hf
    show Pa (Y_X9_keep_36 N (L_X9_keep_36 N n) S1 m (nI j) (nI i)) _
    unfold Y_X9_keep_36
    by_cases c6 : i = 6
    · refine Pa_it (leN (a := 6) (by omega) (by omega) (by omega)) (Pa_r (gg 377 rfl) (Pa_g (Pa_g (Pa_b (Pa_b (Pa_some ?_))))))
      rw [n_cl (n := j) (by omega)]
      refine ⟨⟨k.1, fun f hf => ?_, (k.I hG 377 rfl (Or.inr rfl)).2.2⟩, d1, d2, fun r hr => ?_, fun p hp => ?_, fun p => ?_, ?_⟩
      · rw [gFI_sFI, if_neg (fun z => hf z.1)]
        exact k.2.1 f hf
      · rw [gAI_sFI]
        exact (hG.o 376 377).trans (d3 r (by omega))
      · rw [gAI_sFI]
        exact (hG.o 376 377).trans (d4 p hp)
      · rw [gAI_sFI, sI, d5, d5]
      · rw [gFI_sFI, if_pos ⟨rfl, rfl⟩]
        show gFI S1 378 m + 1 = _
        rw [e8]
    · have e1 : (6 : Int32) * nI j + nI i = nI (6 * j + i) := e_add (n_m6 j) rfl
      refine Pa_if (nleN (b := i) (a := 6) (by omega) (by omega) (by omega)) (Pa_m (gg 376 rfl) (Pa_r (gg 389 rfl) (Pa_g (Pa_bs (Pa_g (Pa_b ?_))))))
      rw [e1, n_cl (n := i) (by omega), n_cl (n := 6 * j + i) (by omega), n_a1, (k.2.2 389 rfl (by decide) (by decide) (by decide) i).1, hq i (by omega)]
      refine kp_36 hG e0 hj hq n (i + 1) _ (by omega) (k.I hG 376 rfl (Or.inl rfl)) e8 d1 d2 (fun r hr => ?_) (fun p hp => ?_) (fun p => (hG.o 377 376).trans (d5 p))
      · rw [sI]
        by_cases cr : r = i
        · rw [if_pos (by omega), cr]
        · rw [if_neg (by omega)]
          exact d3 r (by omega)
      · rw [sI, if_neg (by omega)]
        exact d4 p hp
theorem kp_2 (hG : MG m G Λ Sb) (e0 : S0.2.2.1 = Sb.2.2.1) (hj : j < 16) (hq : ∀ i, i < 6 → gAI S0 (G 389) i = nI (q i)) (hX : ∀ i v, X[i]? = some v → gAJ S0 (G 387) i = v) (e388 : gFI S0 388 m = nI X.length) (lX : X.length ≤ 680) : ∀ (n i : Nat) (S1 : sSt), i ≤ X.length → KX m G S0 S1 → gFI S1 378 m = gFI S0 378 m → (∀ r v, r < i → X[r]? = some v → gAJ S1 (G 375) (700 * j + r) = v) → (∀ p, p < 700 * j ∨ 700 * j + 700 ≤ p → gAJ S1 (G 375) p = gAJ S0 (G 375) p) → (∀ p, gAI S1 (G 376) p = gAI S0 (G 376) p) → (∀ p, gAI S1 (G 377) p = gAI S0 (G 377) p) → Pa (L_X9_keep_2 N n S1 m (nI j) (nI i)) (fun S2 => KD m G S0 S2 j X q)
  | 0, _, _, _, _, _, _, _, _, _ => Pa_none
  | n + 1, i, S1, hi, k, e8, d1, d2, d3, d5 => by
    have gg : ∀ f, isM f = true → gFR S1 f m = some (G f) := fun f hf => hG.g (k.1.trans e0) f hf
    show Pa (Y_X9_keep_2 N (L_X9_keep_2 N n) S1 m (nI j) (nI i)) _
    unfold Y_X9_keep_2
    rw [k.2.1 388 (by decide), e388]
    by_cases c6 : i = X.length
    · exact Pa_it (leN (by omega) (by omega) (by omega)) (kp_36 hG e0 hj hq FU 0 S1 (by omega) k e8 (fun r v hv => d1 r v (by rw [c6]; exact (List.getElem?_eq_some_iff.mp hv).1) hv) d2 (fun r hr => absurd hr (Nat.not_lt_zero r)) (fun p _ => d3 p) d5)
    · have e1 : (700 : Int32) * nI j + nI i = nI (700 * j + i) := e_add (n_m700 j) rfl
      have l1 : i < X.length := by omega
      refine Pa_if (nleN (by omega) (by omega) l1) (Pa_m (gg 375 rfl) (Pa_r (gg 387 rfl) (Pa_g (Pa_bs (Pa_g (Pa_b ?_))))))
      rw [e1, n_cl (n := i) (by omega), n_cl (n := 700 * j + i) (by omega), n_a1, (k.2.2 387 rfl (by decide) (by decide) (by decide) i).2, hX i _ (List.getElem?_eq_getElem l1)]
      refine kp_2 hG e0 hj hq hX e388 lX n (i + 1) _ l1 (k.J hG) e8 (fun r v hr hv => ?_) (fun p hp => ?_) d3 d5
      · rw [sJ]
        by_cases cr : r = i
        · rw [if_pos (by omega)]
          rw [cr, List.getElem?_eq_getElem l1] at hv
          exact Option.some.inj hv
        · rw [if_neg (by omega)]
          exact d1 r v (by omega) hv
      · rw [sJ, if_neg (by omega)]
        exact d2 p hp
theorem kp_val (hG : MG m G Λ Sb) (hj : j < 16) (h : LRw m G Sb S0 X ps) (hps : ∀ i, i < 6 → ps[i]? = some (q i)) : Pa (F_X9_keep N S0 m (nI j)) (fun S2 => KD m G S0 S2 j X q) := kp_2 hG h.1.1 hj (fun i hi => h.2.2.2.2 i _ (hps i hi)) h.2.2.2.1 h.2.1 h.2.2.1 FU 0 S0 (Nat.zero_le _) KX.rf rfl (fun r _ hr => absurd hr (Nat.not_lt_zero r)) (fun _ _ => rfl) (fun _ => rfl) (fun _ => rfl)
theorem RKp.keep {s : aS} (h : RKp G S0 c F K) (hc : c ≤ 16) (hz : szS s j) (lX : (sR s j).length ≤ 680) (hj : j < c) (hT : F.1 j = true) (g : KD m G S0 S1 j (sR s j) (sQ s j)) : RKp G S1 c F (kpK K s j) := fun k hk hTk => by
  obtain ⟨-, d1, d2, d3, d4, d5, -⟩ := g
  obtain ⟨q1, q2⟩ := h k hk hTk
  by_cases ck : k = j
  · subst ck
    refine ⟨?_, fun _ => ?_⟩
    · rw [d5, if_pos rfl, q1]
      exact up1_s.symm
    · rw [show (kpK K s k).2 k = s from up1_s]
      exact ⟨hz, lX, d1, d3⟩
  · have e1 : (kpK K s j).1 k = K.1 k := up1_n ck
    have e2 : (kpK K s j).2 k = K.2 k := up1_n ck
    rw [e1, e2]
    refine ⟨by rw [d5, if_neg ck]; exact q1, fun n => ?_⟩
    obtain ⟨z1, z2, z3, z4⟩ := q2 n
    refine ⟨z1, z2, fun i v hv => ?_, fun i hi => ?_⟩
    · have li : i < (sR (K.2 k) k).length := (List.getElem?_eq_some_iff.mp hv).1
      rw [d2 _ (by omega)]
      exact z3 i v hv
    · rw [d4 _ (by omega)]
      exact z4 i hi
end
