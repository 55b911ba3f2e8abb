/-! The first turn's other cases, and the whole of it. -/
theorem in0 {N : Nat → Nat} {S : sSt} (u : Int32) : F_X9_in N S u 0 (0 - 1) = some 0 := by
  unfold F_X9_in
  by_cases c : u < 0
  · rw [if_pos c]
  · have c2 : (0 - 1 : Int32) < u := by
      rw [Int32.lt_iff_toInt_lt] at c ⊢
      have e1 : (0 - 1 : Int32).toInt = -1 := rfl
      have e2 : (0 : Int32).toInt = 0 := rfl
      omega
    rw [if_neg c, if_pos c2]
theorem below0 {N : Nat → Nat} {S : sSt} (u : Int32) : F_X8_isBelow N S u 0 = some 0 := by
  unfold F_X8_isBelow
  by_cases c : u < 0
  · rw [if_pos c]
  · rw [if_neg c, if_pos (Int32.not_lt.mp c)]
theorem FreshC.c0 {x us al cs rg re io : Nat} {Λ : sLay} {S : sSt} (h : FreshC x us al cs rg re io Λ S) : C0 x us cs rg re io Λ.2.2 S := by
  obtain ⟨h320, h321, h323, h324, hus, h280, hal, h281, hn, hal1, h80, hre, h82⟩ := h
  exact ⟨h320, h321, h323, h324, h281, h80, hre, h82⟩
theorem FreshM.m0 {m : Nat} {Λ : sLay} {S : sSt} (h : FreshM m Λ S) : M0 m Λ.2.2 S := ⟨h.2.1, h.2.2.1, fun f kd n hf => by
  obtain ⟨a, h1, -, h2⟩ := h.2.2.2 f kd n hf
  exact ⟨a, h1, h2⟩⟩
theorem M0.s360 {m v : Nat} {w : Int32} {N : Nat → Nat} {S : sSt} (h : M0 m N S) : M0 m N (sFI S 360 v w) := h.kp0 (kf.fi (f := 360) (by decide))
section
variable {x m o us cs rg re io : Nat} {N : Nat → Nat} {S : sSt}
theorem t_row (hC : C0 x us cs rg re io N S) (hM : M0 m N S) (ho : N o = 1) (a1 a2 : Int32) : F_L_row N S x a1 a2 o = some (0, sAJ S o (Int32.toNatClampNeg 0) 0) ∧ F_X9_row N (sAJ S o (Int32.toNatClampNeg 0) 0) m a1 a2 = some (0, sFI (sAJ S o (Int32.toNatClampNeg 0) 0) 360 m 0) := by
  have e : F_X8_row N S x a1 a2 = some (.inr 0, S) := by
    simp only [F_X8_row, bnd, hC.1, Option.bind_some, at0 hC.2.2.2.2.1, onl]
  have g : ∀ (F : Option (Int32 × sSt)), gi (0 : Int32) (N o) F = F := fun F => by rw [ho]; exact gi_n (j := 0) (by omega) (by omega)
  constructor
  · unfold F_L_row
    rw [e, Option.bind_some]
    exact g _
  · unfold F_X9_row
    simp only [bnd]
    rw [iu0 (by rw [gFI_sFI, if_neg (fun z => absurd z.1 (by decide))]; exact hM.1), Option.bind_some, if_pos rfl]
theorem t_kept (hC : C0 x us cs rg re io N S) (hM : M0 m N S) (ho : N o = 1) (a1 a2 : Int32) : F_L_kept N S x a1 a2 o = some (0, sAJ S o (Int32.toNatClampNeg 0) 0) ∧ F_X9_kept N (sAJ S o (Int32.toNatClampNeg 0) 0) m a1 a2 = some (0, sFI (sAJ S o (Int32.toNatClampNeg 0) 0) 360 m 0) := by
  have e : F_X8_kept N S x a1 a2 = some (.inr 0, S) := by
    simp only [F_X8_kept, bnd, hC.1, Option.bind_some, at0 hC.2.2.2.2.1, onl]
  have g : ∀ (F : Option (Int32 × sSt)), gi (0 : Int32) (N o) F = F := fun F => by rw [ho]; exact gi_n (j := 0) (by omega) (by omega)
  constructor
  · unfold F_L_kept
    rw [e, Option.bind_some]
    exact g _
  · unfold F_X9_kept
    simp only [bnd]
    rw [iu0 (by rw [gFI_sFI, if_neg (fun z => absurd z.1 (by decide))]; exact hM.1), Option.bind_some, if_pos rfl]
theorem t_order (hC : C0 x us cs rg re io N S) (hM : M0 m N S) (a1 : Int32) : ∃ S1 S2, F_L_order N S x a1 o = some (1, S1) ∧ F_X9_order N S1 m a1 = some (0, S2) ∧ gFI S2 360 m = 1 := by
  obtain ⟨S1, e1, k1, h83, h84, h41⟩ := arr0 hC
  have hC1 := hC.kf k1
  have hM1 := (hM.kp0 k1).s360 (v := m) (w := 0)
  obtain ⟨S3, e3, k3, h393, h394, h360⟩ := hM1.order
  have e : F_X8_order N S x a1 = some (.inl aiN, S1) := by
    simp only [F_X8_order, bnd, hC.1, hC.2.2.1, hC1.2.2.1, hC1.2.2.2.2.2.2.2, Option.bind_some, e1, F_X1_length, h41, below0, ↓reduceIte]
  have c1 : ¬ (1 : Int32) = 0 := by decide
  refine ⟨S1, sFI S3 360 m 1, ?_, ?_, ?_⟩
  · unfold F_L_order
    rw [e, Option.bind_some]
    exact if_pos rfl
  · unfold F_X9_order
    simp only [bnd, e3, Option.bind_some, h393, in0, ↓reduceIte, B_X9_order_29]
    rw [if_neg (by rw [gFI_sFI, if_pos ⟨rfl, rfl⟩]; exact c1)]
  · rw [gFI_sFI, if_pos ⟨rfl, rfl⟩]
theorem need13 {n : Nat} (h : gFI S 361 m = 0) : ∀ p : Int32, L_X9_needs_13 N (n + 1) S m p 0 = some (p, S) := fun p => by
  have e : ∀ q, L_X9_needs_13 N (n + 1) S m p q = Y_X9_needs_13 N (L_X9_needs_13 N n) S m p q := fun _ => rfl
  rw [e]
  unfold Y_X9_needs_13
  rw [h, if_pos (by decide)]
theorem t_needs (hC : C0 x us cs rg re io N S) (hM : M0 m N S) : F_X8_needs N S x = some (0, S) ∧ F_X9_needs N S m = some (0, sFI S 360 m 0) := by
  constructor
  · simp only [F_X8_needs, bnd, hC.1, hC.2.1, Option.bind_some, set0 hC.2.2.2.2.1]
    exact need15 hC.1 hC.2.2.2.2.1 16 FU 0 rfl FU_16
  · have g := hM.s360 (v := m) (w := 0)
    simp only [F_X9_needs, bnd, g.reck, Option.bind_some]
    obtain ⟨v, hv⟩ := FU_s
    rw [hv]
    exact need13 g.1 0
theorem make39 {n : Nat} (hC : C0 x us cs rg re io N S) (h41 : gFI S 41 io = 0) (p q : Int32) : L_X8_make_39 N (n + 1) S x p q 0 = some (q, S) := by
  have e : ∀ z, L_X8_make_39 N (n + 1) S x p q z = Y_X8_make_39 N (L_X8_make_39 N n) S x p q z := fun _ => rfl
  have c : (0 : Int32) ≤ 0 := by decide
  rw [e]
  simp only [Y_X8_make_39, bnd, hC.2.2.1, hC.2.2.2.2.2.2.2, Option.bind_some, F_X1_length, h41, c, ↓reduceIte]
theorem make30 {n : Nat} (h : gFI S 393 m = 0) (p q : Int32) : L_X9_make_30 N (n + 1) S m p q 0 = some (q, S) := by
  have e : ∀ z, L_X9_make_30 N (n + 1) S m p q z = Y_X9_make_30 N (L_X9_make_30 N n) S m p q z := fun _ => rfl
  rw [e]
  unfold Y_X9_make_30
  rw [h, if_pos (by decide)]
theorem t_make (hC : C0 x us cs rg re io N S) (hM : M0 m N S) (a1 : Int32) : ∃ r S1 S2, F_X8_make N S x a1 = some (r, S1) ∧ F_X9_make N S1 m a1 = some (r, S2) := by
  by_cases c1 : a1 < 0
  · refine ⟨-2, S, sFI S 360 m 0, ?_, ?_⟩
    · unfold F_X8_make
      rw [if_pos c1]
    · simp only [F_X9_make, bnd, F_X9_in, c1, ↓reduceIte, Option.bind_some]
  · by_cases c2 : a1 ≤ 16
    · obtain ⟨S1, e1, k1, h83, h84, h41⟩ := arr0 hC
      have hC1 := hC.kf k1
      have hM1 := (hM.kp0 k1).s360 (v := m) (w := 0)
      obtain ⟨S3, e3, k3, h393, h394, h360⟩ := hM1.order
      have hM3 := hM1.kp0 k3
      have c3 : ¬ (16 : Int32) < a1 := Int32.not_lt.mpr c2
      have c4 : ¬ (1 : Int32) = 0 := by decide
      obtain ⟨v, hv⟩ := FU_s
      refine ⟨0, S1, S3, ?_, ?_⟩
      · simp only [F_X8_make, c1, c2, ↓reduceIte, bnd, hC.1, hC.2.1, hC.2.2.1, Option.bind_some, set0 hC.2.2.2.2.1, e1]
        rw [hv]
        exact make39 hC1 h41 a1 0
      · simp only [F_X9_make, bnd, F_X9_in, c1, c3, c4, ↓reduceIte, Option.bind_some, e3, hM3.reck]
        rw [hv]
        exact make30 h393 a1 0
    · have c3 : (16 : Int32) < a1 := Int32.not_le.mp c2
      refine ⟨-2, S, sFI S 360 m 0, ?_, ?_⟩
      · simp only [F_X8_make, c1, c2, ↓reduceIte]
      · simp only [F_X9_make, bnd, F_X9_in, c1, c3, ↓reduceIte, Option.bind_some]
theorem anew28 {n : Nat} (hC : C0 x us cs rg re io N S) (h41 : gFI S 41 io = 0) (p : Int64) : L_X8_anew_28 N (n + 1) S x p 0 = some (p, S) := by
  have e : ∀ z, L_X8_anew_28 N (n + 1) S x p z = Y_X8_anew_28 N (L_X8_anew_28 N n) S x p z := fun _ => rfl
  have c : (0 : Int32) ≤ 0 := by decide
  rw [e]
  simp only [Y_X8_anew_28, bnd, hC.2.2.1, hC.2.2.2.2.2.2.2, Option.bind_some, F_X1_length, h41, c, ↓reduceIte]
theorem anew19 {n : Nat} (h : gFI S 393 m = 0) (p : Int64) : L_X9_anew_19 N (n + 1) S m p 0 = some (p, S) := by
  have e : ∀ z, L_X9_anew_19 N (n + 1) S m p z = Y_X9_anew_19 N (L_X9_anew_19 N n) S m p z := fun _ => rfl
  rw [e]
  unfold Y_X9_anew_19
  rw [h, if_pos (by decide)]
theorem t_anew (hC : C0 x us cs rg re io N S) (hM : M0 m N S) : ∃ r S1 S2, F_X8_anew N S x = some (r, S1) ∧ F_X9_anew N S1 m = some (r, S2) := by
  obtain ⟨S1, e1, k1, h83, h84, h41⟩ := arr0 hC
  have hC1 := hC.kf k1
  have hM1 := (hM.kp0 k1).s360 (v := m) (w := 0)
  obtain ⟨S3, e3, k3, h393, h394, h360⟩ := hM1.order
  have hM3 := hM1.kp0 k3
  obtain ⟨v, hv⟩ := FU_s
  refine ⟨17, S1, S3, ?_, ?_⟩
  · simp only [F_X8_anew, bnd, hC.1, hC.2.1, hC.2.2.1, Option.bind_some, set0 hC.2.2.2.2.1, e1]
    rw [hv]
    exact anew28 hC1 h41 17
  · simp only [F_X9_anew, bnd, Option.bind_some, e3, hM3.reck]
    rw [hv]
    exact anew19 h393 17
theorem co70 {n : Nat} (h : gFI S 361 m = 0) (p : Int32) : L_X9_coarse_70 N (n + 1) S m p 0 = some (p, S) := by
  have e : ∀ z, L_X9_coarse_70 N (n + 1) S m p z = Y_X9_coarse_70 N (L_X9_coarse_70 N n) S m p z := fun _ => rfl
  rw [e]
  unfold Y_X9_coarse_70
  rw [h, if_pos (by decide)]
theorem co15 {n : Nat} (h : gFI S 361 m = 0) : L_X9_coarse_15 N (n + 1) S m 0 = some (0, S) := by
  have e : ∀ z, L_X9_coarse_15 N (n + 1) S m z = Y_X9_coarse_15 N (L_X9_coarse_15 N n) S m z := fun _ => rfl
  rw [e]
  unfold Y_X9_coarse_15
  rw [h, if_pos (by decide)]
  obtain ⟨v, hv⟩ := FU_s
  rw [hv]
  exact co70 h 0
theorem t_coarse (hC : C0 x us cs rg re io N S) (hM : M0 m N S) : ∃ r S1 S2, F_X8_coarse N S x = some (r, S1) ∧ F_X9_coarse N S1 m = some (r, S2) := by
  obtain ⟨S1, e1, k1, h83, h84, h41⟩ := arr0 hC
  have hC1 := hC.kf k1
  have hM1 := (hM.kp0 k1).s360 (v := m) (w := 0)
  obtain ⟨S3, k3, e3⟩ := hM1.leads
  have hM3 := hM1.kp0 k3.kf
  obtain ⟨v, hv⟩ := FU_s
  refine ⟨0, S1, S3, ?_, ?_⟩
  · simp only [F_X8_coarse, bnd, hC.1, hC.2.1, hC.2.2.1, Option.bind_some, set0 hC.2.2.2.2.1, e1]
    exact co26 hC1 16 FU 0 rfl FU_16
  · simp only [F_X9_coarse, bnd, Option.bind_some, e3, hM3.reck]
    rw [hv]
    exact co15 hM3.1
theorem cnt13 {n : Nat} (h : gFI S 393 m = 0) (h1 : gFI S 361 m = 0) (h4 : gFI S 394 m = 0) (h8 : gFI S 378 m = 0) (p : Int32) : L_X9_count_13 N (n + 1) S m p 0 1 = some ((if p = 0 ∨ p = 1 ∨ p = 2 ∨ p = 3 ∨ p = 4 then 0 else -2), S) := by
  have e : ∀ z, L_X9_count_13 N (n + 1) S m p 0 z = Y_X9_count_13 N (L_X9_count_13 N n) S m p 0 z := fun _ => rfl
  rw [e]
  unfold Y_X9_count_13
  rw [h, if_pos (by decide), h1, h4, h8]
  by_cases c0 : p = 0
  · simp [c0]
  · by_cases c1 : p = 1
    · simp [c1]
    · by_cases c2 : p = 2
      · simp [c2]
      · by_cases c3 : p = 3
        · simp [c3]
        · by_cases c4 : p = 4
          · simp [c4]
          · simp [c0, c1, c2, c3, c4]
theorem t_count9 (hM : M0 m N S) (p : Int32) : ∃ S2, F_X9_count N S m p = some ((if p = 0 ∨ p = 1 ∨ p = 2 ∨ p = 3 ∨ p = 4 then 0 else -2), S2) := by
  have hM1 := hM.s360 (v := m) (w := 0)
  obtain ⟨S3, e3, k3, h393, h394, h360⟩ := hM1.order
  have hM3 := hM1.kp0 k3
  obtain ⟨v, hv⟩ := FU_s
  refine ⟨S3, ?_⟩
  simp only [F_X9_count, bnd, Option.bind_some, e3]
  rw [hv]
  exact cnt13 h393 hM3.1 h394 hM3.2.1 p
theorem t_count (hC : C0 x us cs rg re io N S) (hM : M0 m N S) (p : Int32) : ∃ r S1 S2, F_X8_count N S x p = some (r, S1) ∧ F_X9_count N S1 m p = some (r, S2) := by
  obtain ⟨S1, e1, k1, h83, h84, h41⟩ := arr0 hC
  have hC1 := hC.kf k1
  obtain ⟨T0, f0⟩ := t_count9 hM p
  obtain ⟨T1, f1⟩ := t_count9 (hM.kp0 k1) p
  unfold F_X8_count
  by_cases c0 : p = 0
  · refine ⟨0, S, T0, ?_, by rw [f0, if_pos (by simp [c0])]⟩
    simp only [c0, ↓reduceIte, bnd, hC.1, Option.bind_some, there0 hC.2.2.2.2.1]
  · by_cases c1 : p = 1
    · refine ⟨0, S, T0, ?_, by rw [f0, if_pos (by simp [c1])]⟩
      rw [if_neg c0, if_pos c1]
      simp only [bnd, hC.1, Option.bind_some, hC.2.2.2.2.1]
    · by_cases c2 : p = 2
      · refine ⟨0, S1, T1, ?_, by rw [f1, if_pos (by simp [c2])]⟩
        rw [if_neg c0, if_neg c1, if_pos c2]
        simp only [bnd, hC.1, hC.2.2.1, hC1.2.2.1, Option.bind_some, e1, h83]
      · by_cases c3 : p = 3
        · refine ⟨0, S1, T1, ?_, by rw [f1, if_pos (by simp [c3])]⟩
          rw [if_neg c0, if_neg c1, if_neg c2, if_pos c3]
          simp only [bnd, hC.1, hC.2.2.1, hC1.2.2.1, Option.bind_some, e1, h84]
        · by_cases c4 : p = 4
          · refine ⟨0, S, T0, ?_, by rw [f0, if_pos (by simp [c4])]⟩
            rw [if_neg c0, if_neg c1, if_neg c2, if_neg c3, if_pos c4, hC.2.2.2.1]
          · refine ⟨-2, S, T0, ?_, by rw [f0, if_neg (by simp [c0, c1, c2, c3, c4])]⟩
            rw [if_neg c0, if_neg c1, if_neg c2, if_neg c3, if_neg c4]
theorem t_clear (hC : C0 x us cs rg re io N S) (hM : M0 m N S) : ∃ r S1 S2, F_X8_clear N S x = some (r, S1) ∧ F_X9_clear N S1 m = some (r, S2) := by
  have k : kf S (sFI (sFI S 281 us 0) 324 x 0) := by
    refine ⟨fun f a hf => ?_, fun _ _ => rfl⟩
    rw [gFI_sFI]
    split
    · rename_i z
      obtain ⟨rfl, rfl⟩ := z
      exact hC.2.2.2.1.symm
    · rw [gFI_sFI]
      split
      · rename_i z
        obtain ⟨rfl, rfl⟩ := z
        exact hC.2.2.2.2.1.symm
      · rfl
  have hM1 := (hM.kp0 k).s360 (v := m) (w := 0)
  obtain ⟨a, h1, h2⟩ := hM1.2.2 362 12 16 (by decide)
  obtain ⟨S2, g1, g2⟩ := cl22 (p := 0) h2 16 FU (sFI (sFI (sFI (sFI (sFI S 281 us 0) 324 x 0) 360 m 0) 361 m 0) 378 m 0) 0 rfl FU_16 h1
  refine ⟨0, sFI (sFI S 281 us 0) 324 x 0, S2, ?_, ?_⟩
  · simp only [F_X8_clear, bnd, hC.1, Option.bind_some, there0 hC.2.2.2.2.1, F_X7_dropAll]
  · simp only [F_X9_clear, bnd, uth0 hM1.1, Option.bind_some]
    exact g2
end
theorem R_T.ext {t : Nat} {p1 : Int32} : ∀ (j i : Nat) {Λ Λ' : sLay} {S S' : sSt}, R_T t p1 j i Λ S Λ' S' → lExt Λ Λ' := by
  intro j
  induction j with
  | zero => intro i Λ Λ' S S' h; obtain ⟨rfl, rfl⟩ := h; exact lExt.rf
  | succ j ih =>
    intro i Λ Λ' S S' h
    obtain ⟨q, hq, Λ2, S2, r, rt⟩ := h
    exact (lExt.new hq).tr (r.ext.tr (ih _ rt))
theorem R_T.kp {t a : Nat} {p1 : Int32} (hn : a ≠ t) : ∀ (j i : Nat) {Λ Λ' : sLay} {S S' : sSt}, R_T t p1 j i Λ S Λ' S' → a ∈ Λ.1 → kpA S S' a := by
  intro j
  induction j with
  | zero => intro i Λ Λ' S S' h ha; obtain ⟨rfl, rfl⟩ := h; exact kpA.rf
  | succ j ih =>
    intro i Λ Λ' S S' h ha
    obtain ⟨q, hq, Λ2, S2, r, rt⟩ := h
    exact (kpA.new (ne_fresh ha hq)).tr ((r.kp (inNew ha) (ne_fresh ha hq)).tr ((kpA.sAR hn).tr (ih _ rt (r.ext a (inNew ha)).1)))
theorem R_X6_init.ext {Λ Λ' : sLay} {S S' : sSt} {p0 : Nat} {p1 : Int32} (h : R_X6_init Λ S p0 p1 Λ' S') : lExt Λ Λ' := by
  obtain ⟨q1, hq1, Λ6, S7, r1, q13, hq13, Λ18, S19, r2, q25, hq25, Λ30, S31, r3, q37, hq37, Λ50, S50, rt, q101, hq101, Λ106, S107, r5, rfl, rfl⟩ := h
  exact (lExt.new hq1).tr (r1.ext.tr ((lExt.new hq13).tr (r2.ext.tr ((lExt.new hq25).tr (r3.ext.tr ((lExt.new hq37).tr ((R_T.ext _ _ rt).tr ((lExt.new hq101).tr r5.ext))))))))
theorem R_X6_init.kp {Λ Λ' : sLay} {S S' : sSt} {p0 : Nat} {p1 : Int32} (h : R_X6_init Λ S p0 p1 Λ' S') {a : Nat} (ha : a ∈ Λ.1) (hp : a ≠ p0) : kpA S S' a := by
  obtain ⟨q1, hq1, Λ6, S7, r1, q13, hq13, Λ18, S19, r2, q25, hq25, Λ30, S31, r3, q37, hq37, Λ50, S50, rt, q101, hq101, Λ106, S107, r5, rfl, rfl⟩ := h
  have a6 : a ∈ Λ6.1 := (r1.ext a (inNew ha)).1
  have a18 : a ∈ Λ18.1 := (r2.ext a (inNew a6)).1
  have a30 : a ∈ Λ30.1 := (r3.ext a (inNew a18)).1
  have a50 : a ∈ Λ50.1 := (R_T.ext _ _ rt a (inNew a30)).1
  exact (kpA.sFI hp).tr ((kpA.new (ne_fresh ha hq1)).tr ((r1.kp (inNew ha) (ne_fresh ha hq1)).tr ((kpA.sFR hp).tr ((kpA.new (ne_fresh a6 hq13)).tr ((r2.kp (inNew a6) (ne_fresh a6 hq13)).tr ((kpA.sFR hp).tr ((kpA.new (ne_fresh a18 hq25)).tr ((r3.kp (inNew a18) (ne_fresh a18 hq25)).tr ((kpA.sFR hp).tr ((kpA.new (ne_fresh a30 hq37)).tr ((kpA.sFR hp).tr ((R_T.kp (ne_fresh a30 hq37) _ _ rt (inNew a30)).tr ((kpA.new (ne_fresh a50 hq101)).tr ((r5.kp (inNew a50) (ne_fresh a50 hq101)).tr (kpA.sFR hp)))))))))))))))
theorem R_X6_init.at {Λ Λ' : sLay} {S S' : sSt} {p0 : Nat} {p1 : Int32} (h : R_X6_init Λ S p0 p1 Λ' S') (ha : p0 ∈ Λ.1) : gFI S' 240 p0 = p1 ∧ (∃ a, gFR S' 241 p0 = some a) ∧ ∃ a, gFR S' 242 p0 = some a := by
  obtain ⟨q1, hq1, Λ6, S7, r1, q13, hq13, Λ18, S19, r2, q25, hq25, Λ30, S31, r3, q37, hq37, Λ50, S50, rt, q101, hq101, Λ106, S107, r5, rfl, rfl⟩ := h
  have a6 : p0 ∈ Λ6.1 := (r1.ext p0 (inNew ha)).1
  have a18 : p0 ∈ Λ18.1 := (r2.ext p0 (inNew a6)).1
  have a30 : p0 ∈ Λ30.1 := (r3.ext p0 (inNew a18)).1
  have a50 : p0 ∈ Λ50.1 := (R_T.ext _ _ rt p0 (inNew a30)).1
  have k1 := (kpA.new (S := sFI S 240 p0 p1) (ne_fresh ha hq1)).tr (r1.kp (inNew ha) (ne_fresh ha hq1))
  have k2 := (kpA.new (S := sFR S7 241 p0 (some q1)) (ne_fresh a6 hq13)).tr (r2.kp (inNew a6) (ne_fresh a6 hq13))
  have k3 := (kpA.new (S := sFR S19 242 p0 (some q13)) (ne_fresh a18 hq25)).tr (r3.kp (inNew a18) (ne_fresh a18 hq25))
  have k4 := kpA.new (S := sFR S31 243 p0 (some q25)) (ne_fresh a30 hq37)
  have k5 := (R_T.kp (ne_fresh a30 hq37) _ _ rt (inNew a30)).tr ((kpA.new (ne_fresh a50 hq101)).tr (r5.kp (inNew a50) (ne_fresh a50 hq101)))
  have d : ∀ {f g : Nat} {v w : Option Nat}, ¬ f = g → (if f = g ∧ p0 = p0 then v else w) = w := fun h => if_neg (fun z => h z.1)
  refine ⟨?_, ⟨q1, ?_⟩, ⟨q13, ?_⟩⟩
  · rw [gFI_sFR, k5.1 240, gFI_sFR, k4.1 240, gFI_sFR, k3.1 240, gFI_sFR, k2.1 240, gFI_sFR, k1.1 240, gFI_sFI, if_pos ⟨rfl, rfl⟩]
  · rw [gFR_sFR, d (by decide), k5.2.2.1 241, gFR_sFR, d (by decide), k4.2.2.1 241, gFR_sFR, d (by decide), k3.2.2.1 241, gFR_sFR, d (by decide), k2.2.2.1 241, gFR_sFR, if_pos ⟨rfl, rfl⟩]
  · rw [gFR_sFR, d (by decide), k5.2.2.1 242, gFR_sFR, d (by decide), k4.2.2.1 242, gFR_sFR, d (by decide), k3.2.2.1 242, gFR_sFR, if_pos ⟨rfl, rfl⟩]
theorem start6 {N : Nat → Nat} {S : sSt} {q a1 a2 : Nat} (h1 : gFR S 241 q = some a1) (h2 : gFR S 242 q = some a2) : ∃ S3, F_X6_start N S q = some S3 ∧ (∀ f a, gFR S3 f a = gFR S f a) ∧ ∀ f a, (f = 240 ∨ f = 281 ∨ f = 361 ∨ f = 378) → gFI S3 f a = gFI S f a := by
  refine ⟨sFI (sFI (sFI (sFI (sFI (sFI (sFI S 247 q 1) 248 q 0) 249 q (-5)) 250 q 0) 245 q 0) 41 a1 0) 41 a2 0, ?_, fun _ _ => rfl, fun f a hf => ?_⟩
  · simp only [F_X6_start, bnd, F_X1_empty, gFR_sFI, h1, h2, Option.bind_some]
  · rcases hf with rfl | rfl | rfl | rfl <;> simp [gFI_sFI]
theorem s0_0 {x m o us al cs rg re io : Nat} {Λ : sLay} {S : sSt} (hC : FreshC x us al cs rg re io Λ S) (hM : FreshM m Λ S) : St_0 Λ S x m o (fun _ _ => True) := by
  obtain ⟨h320, h321, h323, h324, hus, h280, hal, h281, hn, hal1, h80, hre, h82⟩ := hC
  obtain ⟨hm, h361, h378, harr⟩ := hM
  unfold St_0 P_X8_unit
  refine ⟨us, h320, ?_⟩
  unfold P_X7_addOne
  rw [h281]
  refine ⟨fun c => absurd c (by decide), fun _ => ⟨al, h280, fun c => ?_, fun _ => ⟨?_, fun u hu => ?_, fun _ q hq Λ2 S2 r => ?_⟩⟩⟩
  · rw [hal] at c
    exact absurd (nI_lt (a := 0) (b := 16) (by omega) (by omega)) c
  · rw [hal]
    exact vp_in_nI (n := 0) (by omega) (by omega)
  · rw [hn] at hu
    exact nomatch hu
  · have eS : gFI (sNew S q) 281 us = 0 := by rw [gFI_sNew, if_neg (ne_fresh hus hq)]; exact h281
    rw [eS] at r
    have hq1 : q ∈ (lNew Λ q 6 0).1 := (isK.mk (kd := 6) (len := 0)).1
    have ku := (kpA.new (S := S) (ne_fresh hus hq)).tr (r.kp (inNew hus) (ne_fresh hus hq))
    have km := (kpA.new (S := S) (ne_fresh hm hq)).tr (r.kp (inNew hm) (ne_fresh hm hq))
    have ex := (lExt.new (kd := 6) (len := 0) hq).tr r.ext
    obtain ⟨f240, ⟨b1, f241⟩, ⟨b2, f242⟩⟩ := r.at hq1
    have k281 : gFI S2 281 us = 0 := (ku.1 281).trans h281
    obtain ⟨S3, e3, kR, kI⟩ := start6 (N := Λ2.2.2) (S := sAR S2 al (Int32.toNatClampNeg (gFI S2 281 us)) (some q)) (q := q) f241 f242
    refine ⟨al, (ku.2.2.1 280).trans h280, ?_, S3, e3, ?_⟩
    · rw [k281, (ex al hal1).2.2, hal]
      exact vp_in_nI (n := 0) (by omega) (by omega)
    · refine ⟨fun z => absurd z (by simp), fun u hu => ?_⟩
      cases hu
      intro _
      have e240 : gFI (sFI S3 281 us (gFI S3 281 us + 1)) 240 q = 0 := by
        rw [gFI_sFI, if_neg (fun z => absurd z.1 (by decide)), kI 240 q (by decide)]
        exact f240
      rw [e240]
      have hM0 : M0 m Λ2.2.2 (sFI S3 281 us (gFI S3 281 us + 1)) := by
        refine ⟨?_, ?_, fun f kd n hf => ?_⟩
        · rw [gFI_sFI, if_neg (fun z => absurd z.1 (by decide)), kI 361 m (by decide)]
          exact (km.1 361).trans h361
        · rw [gFI_sFI, if_neg (fun z => absurd z.1 (by decide)), kI 378 m (by decide)]
          exact (km.1 378).trans h378
        · obtain ⟨a, g1, g2, g3⟩ := harr f kd n hf
          exact ⟨a, (kR f m).trans ((km.2.2.1 f).trans g1), ((ex a g2).2.2).trans g3⟩
      obtain ⟨S4, e4⟩ := mUnit hM0
      exact ⟨S4, e4, trivial⟩
/-- the one turn: what holds before it -/
def pInv (x m o t : Nat) (Λ : sLay) (S : sSt) : Prop := match t with
  | 0 => R_start x m o Λ S
  | _ + 1 => True
theorem pInv_0 : ∀ x m o Λ S, R_start x m o Λ S → pInv x m o 0 Λ S := fun _ _ _ _ _ h => h
theorem pInv_step : ∀ x m o t Λ S, 7 * t + 7 ≤ 7 → pInv x m o t Λ S → LawSteps Λ S x m o (pInv x m o (t + 1)) := by
  intro x m o t Λ S ht h
  obtain rfl : t = 0 := by omega
  show LawSteps Λ S x m o (fun _ _ => True)
  obtain ⟨⟨us, al, cs, rg, re, io, hC⟩, hM, ho⟩ := fresh_of h
  have c := hC.c0
  have d := hM.m0
  refine ⟨s0_0 hC hM, s0_1 hC hM ho, s0_2 hC hM ho, s0_3 hC hM ho, s0_4 hC hM ho, s0_5 hC hM ho, s0_6 hC hM ho, s0_7 hC hM ho, s0_8 hC hM ho, s0_9 hC hM ho, s0_10 hC hM ho, s0_11 hC hM ho, s0_12 hC hM ho, s0_13 hC hM ho, s0_14 hC hM ho, s0_15 hC hM ho, s0_16 hC hM ho, ?_, ?_, s0_19 hC hM ho, ?_, ?_, s0_22 hC hM ho, s0_23 hC hM ho, ?_, ?_, ?_, s0_27 hC hM ho, s0_28 hC hM ho, ?_, ?_, trivial⟩
  · intro a1 a2
    obtain ⟨e1, e2⟩ := t_row c d ho a1 a2
    refine ⟨0, _, 0, _, e1, e2, ?_, fun _ => ⟨?_, ?_⟩, trivial⟩
    · simp [F_X9_thrown, gFI_sFI]
    · rw [ho]; exact vp_in_nI (n := 0) (by omega) (by omega)
    · simp [gAJ_sFI, gAJ_sAJ]
  · intro a1 a2
    obtain ⟨e1, e2⟩ := t_kept c d ho a1 a2
    refine ⟨0, _, 0, _, e1, e2, ?_, fun _ => ⟨?_, ?_⟩, trivial⟩
    · simp [F_X9_thrown, gFI_sFI]
    · rw [ho]; exact vp_in_nI (n := 0) (by omega) (by omega)
    · simp [gAJ_sFI, gAJ_sAJ]
  · obtain ⟨e1, e2⟩ := t_needs c d
    exact ⟨0, _, _, e1, e2, trivial⟩
  · intro a1
    obtain ⟨r, S1, S2, e1, e2⟩ := t_make c d a1
    exact ⟨r, S1, S2, e1, e2, trivial⟩
  · obtain ⟨r, S1, S2, e1, e2⟩ := t_anew c d
    exact ⟨r, S1, S2, e1, e2, trivial⟩
  · obtain ⟨r, S1, S2, e1, e2⟩ := t_coarse c d
    exact ⟨r, S1, S2, e1, e2, trivial⟩
  · intro a1
    obtain ⟨S1, S2, e1, e2, e3⟩ := t_order (o := o) c d a1
    refine ⟨1, S1, 0, S2, e1, e2, ?_, fun z => absurd z (by decide), trivial⟩
    unfold F_X9_thrown
    rw [e3]
  · intro a1
    obtain ⟨r, S1, S2, e1, e2⟩ := t_count c d a1
    exact ⟨r, S1, S2, e1, e2, trivial⟩
  · obtain ⟨r, S1, S2, e1, e2⟩ := t_clear c d
    exact ⟨r, S1, S2, e1, e2, trivial⟩
