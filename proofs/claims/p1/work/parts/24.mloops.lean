/-! The loops of the reference while no unit was ever made. -/
theorem nI_mul (a b : Nat) : nI a * nI b = nI (a * b) := (Int32.ofNat_mul a b).symm
theorem ix16 (v j : Nat) : (16 : Int32) * nI v + nI j = nI (16 * v + j) := by
  rw [show (16 : Int32) = nI 16 from rfl, nI_mul, nI_add]
theorem fl199 {N : Nat → Nat} {m a : Nat} {k183 : sSt → Nat → Int32 → Option sSt} {k191 : sSt → Nat → Int32 → Int32 → Option sSt} {u v : Nat} (hN : N a = 256) (hu : u < 16) (hv : v < 16) : ∀ (d n : Nat) (S : sSt) (j : Nat), j + d = 16 → d < n → gFR S 390 m = some a → ∃ S1, onA S S1 ∧ L_X9_findLeads_199 N k183 k191 n S m (nI u) (nI v) (nI j) = k191 S1 m (nI u) (nI (v + 1)) := by
  intro d
  induction d with
  | zero =>
    intro n S j hj hn h390
    obtain ⟨w, rfl, hw⟩ := pr1 hn
    refine ⟨S, onA.rf, ?_⟩
    show Y_X9_findLeads_199 N k183 k191 (L_X9_findLeads_199 N k183 k191 w) S m (nI u) (nI v) (nI j) = _
    have e0 : (16 : Int32) ≤ nI j := nI_le (a := 16) (by omega) (by omega)
    simp only [Y_X9_findLeads_199, e0, ↓reduceIte, nI_succ]
  | succ d ih =>
    intro n S j hj hn h390
    obtain ⟨w, rfl, hw⟩ := pr1 hn
    show ∃ S1, onA S S1 ∧ Y_X9_findLeads_199 N k183 k191 (L_X9_findLeads_199 N k183 k191 w) S m (nI u) (nI v) (nI j) = k191 S1 m (nI u) (nI (v + 1))
    have e0 : ¬ (16 : Int32) ≤ nI j := nI_ge (b := 16) (by omega) (by omega)
    have e1 : ∀ (F : Option sSt), gi (nI (16 * v + j)) (N a) F = F := fun F => by rw [hN]; exact gi_n (by omega) (by omega)
    have e2 : ∀ (F : Option sSt), gi (nI (16 * v + u)) (N a) F = F := fun F => by rw [hN]; exact gi_n (by omega) (by omega)
    have e3 : ∀ (F : Option sSt), gi (nI (16 * u + j)) (N a) F = F := fun F => by rw [hN]; exact gi_n (by omega) (by omega)
    simp only [Y_X9_findLeads_199, bnd, h390, Option.bind_some, e0, ↓reduceIte, ix16, e1, e2, e3, B_X9_findLeads_261, B_X9_findLeads_257, B_X9_findLeads_262, ← nI_succ]
    repeat' split
    all_goals exact onA.ex onA.ai (ih w _ (j + 1) (by omega) (by omega) h390)
theorem fl191 {N : Nat → Nat} {m a : Nat} {k183 : sSt → Nat → Int32 → Option sSt} {u : Nat} (hN : N a = 256) (hu : u < 16) : ∀ (d n : Nat) (S : sSt) (j : Nat), j + d = 16 → d < n → gFR S 390 m = some a → ∃ S1, onA S S1 ∧ L_X9_findLeads_191 N k183 n S m (nI u) (nI j) = k183 S1 m (nI (u + 1)) := by
  intro d
  induction d with
  | zero =>
    intro n S j hj hn h390
    obtain ⟨w, rfl, hw⟩ := pr1 hn
    refine ⟨S, onA.rf, ?_⟩
    show Y_X9_findLeads_191 N k183 (L_X9_findLeads_191 N k183 w) S m (nI u) (nI j) = _
    have e0 : (16 : Int32) ≤ nI j := nI_le (a := 16) (by omega) (by omega)
    simp only [Y_X9_findLeads_191, e0, ↓reduceIte, nI_succ]
  | succ d ih =>
    intro n S j hj hn h390
    obtain ⟨w, rfl, hw⟩ := pr1 hn
    show ∃ S1, onA S S1 ∧ Y_X9_findLeads_191 N k183 (L_X9_findLeads_191 N k183 w) S m (nI u) (nI j) = k183 S1 m (nI (u + 1))
    have e0 : ¬ (16 : Int32) ≤ nI j := nI_ge (b := 16) (by omega) (by omega)
    simp only [Y_X9_findLeads_191, e0, ↓reduceIte]
    obtain ⟨S1, h1, h2⟩ := fl199 (k183 := k183) (k191 := L_X9_findLeads_191 N k183 w) hN hu (show j < 16 by omega) 16 FU S 0 rfl FU_16 h390
    obtain ⟨S2, h3, h4⟩ := ih w S1 (j + 1) (by omega) (by omega) ((h1.2.1 390 m).trans h390)
    exact ⟨S2, h1.tr h3, h2.trans h4⟩
theorem fl183 {N : Nat → Nat} {m a : Nat} (hN : N a = 256) : ∀ (d n : Nat) (S : sSt) (j : Nat), j + d = 16 → d < n → gFR S 390 m = some a → ∃ S1, onA S S1 ∧ L_X9_findLeads_183 N n S m (nI j) = some S1 := by
  intro d
  induction d with
  | zero =>
    intro n S j hj hn h390
    obtain ⟨w, rfl, hw⟩ := pr1 hn
    refine ⟨S, onA.rf, ?_⟩
    show Y_X9_findLeads_183 N (L_X9_findLeads_183 N w) S m (nI j) = _
    have e0 : (16 : Int32) ≤ nI j := nI_le (a := 16) (by omega) (by omega)
    simp only [Y_X9_findLeads_183, e0, ↓reduceIte]
  | succ d ih =>
    intro n S j hj hn h390
    obtain ⟨w, rfl, hw⟩ := pr1 hn
    show ∃ S1, onA S S1 ∧ Y_X9_findLeads_183 N (L_X9_findLeads_183 N w) S m (nI j) = some S1
    have e0 : ¬ (16 : Int32) ≤ nI j := nI_ge (b := 16) (by omega) (by omega)
    simp only [Y_X9_findLeads_183, e0, ↓reduceIte]
    obtain ⟨S1, h1, h2⟩ := fl191 (k183 := L_X9_findLeads_183 N w) hN (show j < 16 by omega) 16 FU S 0 rfl FU_16 h390
    obtain ⟨S2, h3, h4⟩ := ih w S1 (j + 1) (by omega) (by omega) ((h1.2.1 390 m).trans h390)
    exact ⟨S2, h1.tr h3, h2.trans h4⟩
theorem fl2 {N : Nat → Nat} {m a : Nat} (hN : N a = 256) : ∀ (d n : Nat) (S : sSt) (j : Nat), j + d = 256 → d < n → gFR S 390 m = some a → gFI S 361 m = 0 → ∃ S1, onA S S1 ∧ L_X9_findLeads_2 N n S m (nI j) = some S1 := by
  intro d
  induction d with
  | zero =>
    intro n S j hj hn h390 h361
    obtain ⟨w, rfl, hw⟩ := pr1 hn
    show ∃ S1, onA S S1 ∧ Y_X9_findLeads_2 N (L_X9_findLeads_2 N w) S m (nI j) = some S1
    have e0 : (256 : Int32) ≤ nI j := nI_le (a := 256) (by omega) (by omega)
    simp only [Y_X9_findLeads_2, e0, ↓reduceIte]
    obtain ⟨v, hv⟩ := FU_s
    rw [hv]
    show ∃ S1, onA S S1 ∧ Y_X9_findLeads_24 N (L_X9_findLeads_24 N (v + 1)) S m 0 = some S1
    have e1 : (0 : Int32) ≤ 0 := by decide
    simp only [Y_X9_findLeads_24, h361, e1, ↓reduceIte]
    exact fl183 hN 16 FU S 0 rfl FU_16 h390
  | succ d ih =>
    intro n S j hj hn h390 h361
    obtain ⟨w, rfl, hw⟩ := pr1 hn
    show ∃ S1, onA S S1 ∧ Y_X9_findLeads_2 N (L_X9_findLeads_2 N w) S m (nI j) = some S1
    have e0 : ¬ (256 : Int32) ≤ nI j := nI_ge (b := 256) (by omega) (by omega)
    have e1 : ∀ (F : Option sSt), gi (nI j) (N a) F = F := fun F => by rw [hN]; exact gi_n (by omega) (by omega)
    simp only [Y_X9_findLeads_2, bnd, h390, Option.bind_some, e0, ↓reduceIte, e1, ← nI_succ]
    exact onA.ex onA.ai (ih w _ (j + 1) (by omega) (by omega) h390 h361)
/-- what of the reference counts while no unit was ever made -/
def M0 (m : Nat) (N : Nat → Nat) (S : sSt) : Prop := gFI S 361 m = 0 ∧ gFI S 378 m = 0 ∧ ∀ f kd n, (f, kd, n) ∈ arrs9 → ∃ a, gFR S f m = some a ∧ N a = n
theorem M0.kp0 {m : Nat} {N : Nat → Nat} {S S1 : sSt} (h : M0 m N S) (k : kf S S1) : M0 m N S1 :=
  ⟨(k.1 _ _ (by decide)).trans h.1, (k.1 _ _ (by decide)).trans h.2.1, fun f kd n hf => by
    obtain ⟨a, h1, h2⟩ := h.2.2 f kd n hf
    exact ⟨a, (k.2 _ _).trans h1, h2⟩⟩
theorem onA.kf {S S1 : sSt} (h : onA S S1) : kf S S1 := ⟨fun f a _ => h.1 f a, h.2.1⟩
theorem kf.tr {S S1 S2 : sSt} (h : kf S S1) (g : kf S1 S2) : kf S S2 := ⟨fun f a hf => (g.1 f a hf).trans (h.1 f a hf), fun f a => (g.2 f a).trans (h.2 f a)⟩
theorem kf.rf {S : sSt} : kf S S := ⟨fun _ _ _ => rfl, fun _ _ => rfl⟩
theorem kf.fi {S : sSt} {f a : Nat} {v : Int32} (hf : f ≠ 281 ∧ f ≠ 324 ∧ f ≠ 361 ∧ f ≠ 378) : kf S (sFI S f a v) :=
  ⟨fun g b hg => by rw [gFI_sFI, if_neg (fun z => by obtain ⟨z, -⟩ := z; subst z; rcases hg with h | h | h | h <;> simp [h] at hf)], fun _ _ => rfl⟩
theorem M0.leads {m : Nat} {N : Nat → Nat} {S : sSt} (h : M0 m N S) : ∃ S1, onA S S1 ∧ F_X9_findLeads N S m = some S1 := by
  obtain ⟨a, h1, h2⟩ := h.2.2 390 12 256 (by decide)
  exact fl2 h2 256 FU S 0 rfl FU_256 h1 h.1
theorem uth0 {m : Nat} {N : Nat → Nat} {S : sSt} (h : gFI S 361 m = 0) : F_X9_unitsThere N S m = some 0 := by
  obtain ⟨v, hv⟩ := FU_s
  have h0 : (0 : Int32) ≤ 0 := by decide
  unfold F_X9_unitsThere
  rw [hv]
  show Y_X9_unitsThere_4 N S (L_X9_unitsThere_4 N S (v + 1)) m 0 0 = some 0
  simp only [Y_X9_unitsThere_4, h, h0, ↓reduceIte]
theorem fo6 {N : Nat → Nat} {m a : Nat} (hN : N a = 16) : ∀ (d n : Nat) (S : sSt) (j : Nat), j + d = 16 → d < n → gFR S 391 m = some a → gFI S 361 m = 0 → ∃ S1, onA S S1 ∧ L_X9_findOrder_6 N n S m (nI j) = some (sFI (sFI S1 393 m 0) 394 m 0) := by
  intro d
  induction d with
  | zero =>
    intro n S j hj hn h391 h361
    obtain ⟨w, rfl, hw⟩ := pr1 hn
    refine ⟨S, onA.rf, ?_⟩
    show Y_X9_findOrder_6 N (L_X9_findOrder_6 N w) S m (nI j) = _
    have e0 : (16 : Int32) ≤ nI j := nI_le (a := 16) (by omega) (by omega)
    have e2 : gFI (sFI (sFI S 393 m 0) 394 m 0) 361 m = 0 := by simp [gFI_sFI, h361]
    have e3 : gFI (sFI (sFI S 393 m 0) 394 m 0) 393 m = 0 := by simp [gFI_sFI]
    simp only [Y_X9_findOrder_6, e0, ↓reduceIte, bnd, uth0 e2, Option.bind_some]
    obtain ⟨v, hv⟩ := FU_s
    rw [hv]
    show Y_X9_findOrder_41 N (L_X9_findOrder_41 N (v + 1)) _ m 0 = _
    have e1 : (0 : Int32) ≤ 0 := by decide
    simp only [Y_X9_findOrder_41, e3, e1, ↓reduceIte]
  | succ d ih =>
    intro n S j hj hn h391 h361
    obtain ⟨w, rfl, hw⟩ := pr1 hn
    show ∃ S1, onA S S1 ∧ Y_X9_findOrder_6 N (L_X9_findOrder_6 N w) S m (nI j) = some (sFI (sFI S1 393 m 0) 394 m 0)
    have e0 : ¬ (16 : Int32) ≤ nI j := nI_ge (b := 16) (by omega) (by omega)
    have e1 : ∀ (F : Option sSt), gi (nI j) (N a) F = F := fun F => by rw [hN]; exact gi_n (by omega) (by omega)
    simp only [Y_X9_findOrder_6, bnd, h391, Option.bind_some, e0, ↓reduceIte, e1, ← nI_succ]
    exact onA.ex onA.ai (ih w _ (j + 1) (by omega) (by omega) h391 h361)
theorem M0.order {m : Nat} {N : Nat → Nat} {S : sSt} (h : M0 m N S) : ∃ S1, F_X9_findOrder N S m = some S1 ∧ kf S S1 ∧ gFI S1 393 m = 0 ∧ gFI S1 394 m = 0 ∧ gFI S1 360 m = gFI S 360 m := by
  obtain ⟨S1, h1, h2⟩ := h.leads
  have g := h.kp0 h1.kf
  obtain ⟨a, h3, h4⟩ := g.2.2 391 10 16 (by decide)
  obtain ⟨S2, h5, h6⟩ := fo6 h4 16 FU S1 0 rfl FU_16 h3 g.1
  refine ⟨sFI (sFI S2 393 m 0) 394 m 0, ?_, (h1.tr h5).kf.tr ((kf.fi (f := 393) (by decide)).tr (kf.fi (f := 394) (by decide))), ?_, ?_, ?_⟩
  · unfold F_X9_findOrder
    rw [h2, Option.bind_some]
    exact h6
  · simp [gFI_sFI]
  · simp [gFI_sFI]
  · simp [gFI_sFI, (h1.tr h5).1]
theorem rk110 {N : Nat → Nat} {m n : Nat} {S : sSt} {k102 : sSt → Nat → Int32 → Option sSt} {p : Int32} (h : gFI S 361 m = 0) : L_X9_reckon_110 N k102 (n + 1) S m p 0 = k102 S m p := by
  show Y_X9_reckon_110 N k102 (L_X9_reckon_110 N k102 n) S m p 0 = k102 S m p
  have e0 : (10 : Int32) * 0 ≤ 0 := by decide
  unfold Y_X9_reckon_110
  rw [h, if_pos e0]
theorem rk102z {N : Nat → Nat} {m n : Nat} {S : sSt} : L_X9_reckon_102 N (n + 1) S m 0 = some S := by
  show Y_X9_reckon_102 N (L_X9_reckon_102 N n) S m 0 = some S
  have e1 : (0 : Int32) = 0 := rfl
  unfold Y_X9_reckon_102
  rw [if_pos e1]
theorem rk102a {N : Nat → Nat} {m n : Nat} {S : sSt} : Y_X9_reckon_102 N (L_X9_reckon_102 N (n + 1)) S m 1 = L_X9_reckon_110 N (L_X9_reckon_102 N (n + 1)) FU S m 0 0 := by
  have e1 : ¬ (1 : Int32) = 0 := by decide
  unfold Y_X9_reckon_102
  rw [if_neg e1]
theorem rk102b {N : Nat → Nat} {m : Nat} {S : sSt} {k102 : sSt → Nat → Int32 → Option sSt} (h : gFI S 361 m = 0) : L_X9_reckon_110 N k102 FU S m 0 0 = k102 S m 0 := by
  obtain ⟨v, hv⟩ := FU_s
  rw [hv]
  exact rk110 (n := v + 1) h
theorem rk102 {N : Nat → Nat} {m n : Nat} {S : sSt} (h : gFI S 361 m = 0) : L_X9_reckon_102 N (n + 2) S m 1 = some S := by
  have e : ∀ p, L_X9_reckon_102 N (n + 2) S m p = Y_X9_reckon_102 N (L_X9_reckon_102 N (n + 1)) S m p := fun _ => rfl
  rw [e, rk102a, rk102b h]
  exact rk102z
theorem rk2 {N : Nat → Nat} {m n : Nat} {S : sSt} (h : gFI S 361 m = 0) : L_X9_reckon_2 N (n + 1) S m 0 = some S := by
  show Y_X9_reckon_2 N (L_X9_reckon_2 N n) S m 0 = some S
  have e0 : (10 : Int32) * 0 ≤ 0 := by decide
  unfold Y_X9_reckon_2
  rw [h, if_pos e0]
  obtain ⟨v, hv⟩ := FU_s
  rw [hv]
  exact rk102 h
theorem M0.reck {m : Nat} {N : Nat → Nat} {S : sSt} (h : M0 m N S) : F_X9_reckon N S m = some S := by
  unfold F_X9_reckon
  obtain ⟨v, hv⟩ := FU_s
  rw [hv]
  exact rk2 h.1
theorem cl22 {N : Nat → Nat} {m a : Nat} {p : Int32} (hN : N a = 16) : ∀ (d n : Nat) (S : sSt) (j : Nat), j + d = 16 → d < n → gFR S 362 m = some a → ∃ S1, onA S S1 ∧ L_X9_clear_22 N n S m p (nI j) = some (p, S1) := by
  intro d
  induction d with
  | zero =>
    intro n S j hj hn h362
    obtain ⟨w, rfl, hw⟩ := pr1 hn
    refine ⟨S, onA.rf, ?_⟩
    show Y_X9_clear_22 N (L_X9_clear_22 N w) S m p (nI j) = _
    have e0 : (16 : Int32) ≤ nI j := nI_le (a := 16) (by omega) (by omega)
    simp only [Y_X9_clear_22, e0, ↓reduceIte]
  | succ d ih =>
    intro n S j hj hn h362
    obtain ⟨w, rfl, hw⟩ := pr1 hn
    show ∃ S1, onA S S1 ∧ Y_X9_clear_22 N (L_X9_clear_22 N w) S m p (nI j) = some (p, S1)
    have e0 : ¬ (16 : Int32) ≤ nI j := nI_ge (b := 16) (by omega) (by omega)
    have e1 : ∀ (F : Option (Int32 × sSt)), gi (nI j) (N a) F = F := fun F => by rw [hN]; exact gi_n (by omega) (by omega)
    simp only [Y_X9_clear_22, bnd, h362, Option.bind_some, e0, ↓reduceIte, e1, ← nI_succ]
    exact onA.ex onA.ai (ih w _ (j + 1) (by omega) (by omega) h362)
theorem mUnit {m : Nat} {N : Nat → Nat} {S : sSt} (h : M0 m N S) : ∃ S2, F_X9_unit N S m = some (0, S2) := by
  obtain ⟨a1, h1, n1⟩ := h.2.2 362 12 16 (by decide)
  obtain ⟨a2, h2, n2⟩ := h.2.2 363 10 16 (by decide)
  obtain ⟨a3, h3, n3⟩ := h.2.2 369 10 16 (by decide)
  obtain ⟨a4, h4, n4⟩ := h.2.2 371 10 16 (by decide)
  obtain ⟨a5, h5, n5⟩ := h.2.2 373 12 16 (by decide)
  obtain ⟨a6, h6, n6⟩ := h.2.2 374 10 16 (by decide)
  obtain ⟨a7, h7, n7⟩ := h.2.2 377 10 16 (by decide)
  have g : ∀ (F : Option (Int32 × sSt)), gi (0 : Int32) 16 F = F := fun F => gi_n (j := 0) (by omega) (by omega)
  have e0 : gFI (sFI S 360 m 0) 361 m = 0 := by simp [gFI_sFI, h.1]
  have e1 : ¬ (0 : Int32) = 16 := by decide
  unfold F_X9_unit
  simp only [bnd, e0, e1, ↓reduceIte, gFR_sFI, gFR_sAI, h1, h2, h3, h4, h5, h6, h7, n1, n2, n3, n4, n5, n6, n7, Option.bind_some, g]
  exact ⟨_, rfl⟩
