/-! The loops of class and reference while no unit was ever made. -/
def onA (S S' : sSt) : Prop := (∀ f a, gFI S' f a = gFI S f a) ∧ (∀ f a, gFR S' f a = gFR S f a) ∧ ∀ a k, gAR S' a k = gAR S a k
theorem onA.rf {S : sSt} : onA S S := ⟨fun _ _ => rfl, fun _ _ => rfl, fun _ _ => rfl⟩
theorem onA.tr {S S1 S2 : sSt} (h : onA S S1) (g : onA S1 S2) : onA S S2 := ⟨fun f a => (g.1 f a).trans (h.1 f a), fun f a => (g.2.1 f a).trans (h.2.1 f a), fun a k => (g.2.2 a k).trans (h.2.2 a k)⟩
theorem onA.ai {S : sSt} {a k : Nat} {v : Int32} : onA S (sAI S a k v) := ⟨fun _ _ => rfl, fun _ _ => rfl, fun _ _ => rfl⟩
theorem onA.ex {S S' : sSt} {p : sSt → Prop} (h : onA S S') (g : ∃ S1, onA S' S1 ∧ p S1) : ∃ S1, onA S S1 ∧ p S1 := by
  obtain ⟨S1, g1, g2⟩ := g
  exact ⟨S1, h.tr g1, g2⟩
theorem gi_n {β : Type} {j n : Nat} {F : Option β} (h : j < n) (hn : n < 2147483648) : gi (nI j) n F = F := by
  unfold gi
  rw [if_neg (nI_in h hn)]
theorem FU_s : ∃ u, FU = u + 2 := ⟨4294967294, rfl⟩
theorem FU_16 : 16 < FU := by unfold FU; omega
theorem FU_256 : 256 < FU := by unfold FU; omega
theorem pr1 {n : Nat} {d : Nat} (h : d < n) : ∃ u, n = u + 1 ∧ d ≤ u := ⟨n - 1, by omega, by omega⟩
theorem frC {N : Nat → Nat} {g re : Nat} {k44 : sSt → Nat → Int32 → Option sSt} {p2 : Int32} (hN : N re = 16) (hv : vp_in p2 16) : ∀ (d n : Nat) (S : sSt) (j : Nat), j + d = 16 → d < n → gFR S 80 g = some re → ∃ S1, onA S S1 ∧ L_X2_findReach_55 N k44 n S g p2 (nI j) = k44 S1 g (p2 + 1) := by
  intro d
  induction d with
  | zero =>
    intro n S j hj hn h80
    obtain ⟨u, rfl, hu⟩ := pr1 hn
    refine ⟨S, onA.rf, ?_⟩
    show Y_X2_findReach_55 N k44 (L_X2_findReach_55 N k44 u) S g p2 (nI j) = _
    have e0 : nI (N re) ≤ nI j := by rw [hN]; exact nI_le (by omega) (by omega)
    simp only [Y_X2_findReach_55, bnd, h80, Option.bind_some, e0, ↓reduceIte]
  | succ d ih =>
    intro n S j hj hn h80
    obtain ⟨u, rfl, hu⟩ := pr1 hn
    show ∃ S1, onA S S1 ∧ Y_X2_findReach_55 N k44 (L_X2_findReach_55 N k44 u) S g p2 (nI j) = k44 S1 g (p2 + 1)
    have e0 : ¬ nI (N re) ≤ nI j := by rw [hN]; exact nI_ge (by omega) (by omega)
    have e1 : ∀ (F : Option sSt), gi (nI j) (N re) F = F := fun F => by rw [hN]; exact gi_n (by omega) (by omega)
    have e2 : ∀ (F : Option sSt), gi p2 (N re) F = F := fun F => by rw [hN]; unfold gi; rw [if_neg hv]
    simp only [Y_X2_findReach_55, bnd, h80, Option.bind_some, e0, ↓reduceIte, e1, e2, B_X2_findReach_92, ← nI_succ]
    split
    · exact ih u S (j + 1) (by omega) (by omega) h80
    · exact onA.ex onA.ai (ih u _ (j + 1) (by omega) (by omega) h80)
theorem fr44 {N : Nat → Nat} {g re : Nat} (hN : N re = 16) : ∀ (d n : Nat) (S : sSt) (j : Nat), j + d = 16 → d < n → gFR S 80 g = some re → ∃ S1, onA S S1 ∧ L_X2_findReach_44 N n S g (nI j) = some S1 := by
  intro d
  induction d with
  | zero =>
    intro n S j hj hn h80
    obtain ⟨u, rfl, hu⟩ := pr1 hn
    refine ⟨S, onA.rf, ?_⟩
    show Y_X2_findReach_44 N (L_X2_findReach_44 N u) S g (nI j) = _
    have e0 : nI (N re) ≤ nI j := by rw [hN]; exact nI_le (by omega) (by omega)
    simp only [Y_X2_findReach_44, bnd, h80, Option.bind_some, e0, ↓reduceIte]
  | succ d ih =>
    intro n S j hj hn h80
    obtain ⟨u, rfl, hu⟩ := pr1 hn
    show ∃ S1, onA S S1 ∧ Y_X2_findReach_44 N (L_X2_findReach_44 N u) S g (nI j) = some S1
    have e0 : ¬ nI (N re) ≤ nI j := by rw [hN]; exact nI_ge (by omega) (by omega)
    simp only [Y_X2_findReach_44, bnd, h80, Option.bind_some, e0, ↓reduceIte]
    obtain ⟨S1, h1, h2⟩ := frC (k44 := L_X2_findReach_44 N u) hN (vp_in_nI (n := j) (N := 16) (by omega) (by omega)) 16 FU S 0 rfl FU_16 h80
    obtain ⟨S2, h3, h4⟩ := ih u S1 (j + 1) (by omega) (by omega) ((h1.2.1 80 g).trans h80)
    rw [nI_succ] at h4
    exact ⟨S2, h1.tr h3, h2.trans h4⟩
theorem fr2 {N : Nat → Nat} {g re us : Nat} (hN : N re = 16) : ∀ (d n : Nat) (S : sSt) (j : Nat), j + d = 16 → d < n → gFR S 80 g = some re → gFI S 281 us = 0 → ∃ S1, onA S S1 ∧ L_X2_findReach_2 N n S g (some us) (nI j) = some S1 := by
  intro d
  induction d with
  | zero =>
    intro n S j hj hn h80 h281
    obtain ⟨u, rfl, hu⟩ := pr1 hn
    show ∃ S1, onA S S1 ∧ Y_X2_findReach_2 N (L_X2_findReach_2 N u) S g (some us) (nI j) = some S1
    have e0 : nI (N re) ≤ nI j := by rw [hN]; exact nI_le (by omega) (by omega)
    simp only [Y_X2_findReach_2, bnd, h80, Option.bind_some, e0, ↓reduceIte]
    exact fr44 hN 16 FU S 0 rfl FU_16 h80
  | succ d ih =>
    intro n S j hj hn h80 h281
    obtain ⟨u, rfl, hu⟩ := pr1 hn
    show ∃ S1, onA S S1 ∧ Y_X2_findReach_2 N (L_X2_findReach_2 N u) S g (some us) (nI j) = some S1
    have e0 : ¬ nI (N re) ≤ nI j := by rw [hN]; exact nI_ge (by omega) (by omega)
    have e1 : ∀ (F : Option sSt), gi (nI j) (N re) F = F := fun F => by rw [hN]; exact gi_n (by omega) (by omega)
    simp only [Y_X2_findReach_2, bnd, h80, Option.bind_some, e0, ↓reduceIte, at0 h281, onl, B_X2_findReach_35, e1, ← nI_succ]
    exact onA.ex onA.ai (ih u _ (j + 1) (by omega) (by omega) h80 h281)
theorem ar26 {N : Nat → Nat} {g re us : Nat} {S : sSt} (hN : N re = 16) (h80 : gFR S 80 g = some re) (h281 : gFI S 281 us = 0) : ∀ (d n : Nat) (j : Nat), j + d = 16 → d < n → L_X2_arrange_26 N n S g (some us) 0 (nI j) = some S := by
  intro d
  induction d with
  | zero =>
    intro n j hj hn
    obtain ⟨u, rfl, hu⟩ := pr1 hn
    show Y_X2_arrange_26 N (L_X2_arrange_26 N u) S g (some us) 0 (nI j) = some S
    have e0 : nI (N re) ≤ nI j := by rw [hN]; exact nI_le (by omega) (by omega)
    simp only [Y_X2_arrange_26, bnd, h80, Option.bind_some, e0, ↓reduceIte]
    obtain ⟨v, hv⟩ := FU_s
    rw [hv]
    show Y_X2_arrange_61 N (L_X2_arrange_61 N (v + 1)) S g 0 0 = some S
    unfold Y_X2_arrange_61
    rw [if_neg (by decide), if_pos rfl]
  | succ d ih =>
    intro n j hj hn
    obtain ⟨u, rfl, hu⟩ := pr1 hn
    show Y_X2_arrange_26 N (L_X2_arrange_26 N u) S g (some us) 0 (nI j) = some S
    have e0 : ¬ nI (N re) ≤ nI j := by rw [hN]; exact nI_ge (by omega) (by omega)
    have e1 : (0 ||| 0 : Int32) = 0 := rfl
    simp only [Y_X2_arrange_26, bnd, h80, Option.bind_some, e0, ↓reduceIte, at0 h281, onl, B_X2_arrange_51, ← nI_succ, e1]
    exact ih u (j + 1) (by omega) (by omega)
/-- what of the class counts while no unit was ever made -/
def C0 (x us cs rg re io : Nat) (N : Nat → Nat) (S : sSt) : Prop := gFR S 320 x = some us ∧ gFR S 321 x = some cs ∧ gFR S 323 x = some rg ∧ gFI S 324 x = 0 ∧ gFI S 281 us = 0 ∧ gFR S 80 rg = some re ∧ N re = 16 ∧ gFR S 82 rg = some io
def kf (S S1 : sSt) : Prop := (∀ f a, (f = 281 ∨ f = 324 ∨ f = 361 ∨ f = 378) → gFI S1 f a = gFI S f a) ∧ ∀ f a, gFR S1 f a = gFR S f a
theorem C0.kf {x us cs rg re io : Nat} {N : Nat → Nat} {S S1 : sSt} (h : C0 x us cs rg re io N S) (k : kf S S1) : C0 x us cs rg re io N S1 :=
  ⟨(k.2 _ _).trans h.1, (k.2 _ _).trans h.2.1, (k.2 _ _).trans h.2.2.1, (k.1 _ _ (by decide)).trans h.2.2.2.1, (k.1 _ _ (by decide)).trans h.2.2.2.2.1, (k.2 _ _).trans h.2.2.2.2.2.1, h.2.2.2.2.2.2.1, (k.2 _ _).trans h.2.2.2.2.2.2.2⟩
theorem arr0 {x us cs rg re io : Nat} {N : Nat → Nat} {S : sSt} (h : C0 x us cs rg re io N S) : ∃ S1, F_X2_arrange N S rg (some us) = some S1 ∧ kf S S1 ∧ gFI S1 83 rg = 0 ∧ gFI S1 84 rg = 0 ∧ gFI S1 41 io = 0 := by
  obtain ⟨h320, h321, h323, h324, h281, h80, hN, h82⟩ := h
  obtain ⟨S1, h1, h2⟩ := fr2 (g := rg) (us := us) hN 16 FU S 0 rfl FU_16 h80 h281
  have h2' : F_X2_findReach N S rg (some us) = some S1 := h2
  have e82 := (h1.2.1 82 rg).trans h82
  have e80 := (h1.2.1 80 rg).trans h80
  have e281 := (h1.1 281 us).trans h281
  refine ⟨sFI (sFI (sFI S1 41 io 0) 83 rg 0) 84 rg 0, ?_, ⟨?_, ?_⟩, ?_, ?_, ?_⟩
  · simp only [F_X2_arrange, h2', Option.bind_some, bnd, e82, F_X1_empty]
    have e2 : gFI (sFI (sFI (sFI S1 41 io 0) 83 rg 0) 84 rg 0) 281 us = 0 := by simp [gFI_sFI, e281]
    exact ar26 (S := sFI (sFI (sFI S1 41 io 0) 83 rg 0) 84 rg 0) hN e80 e2 16 FU 0 rfl FU_16
  · intro f a hf
    rw [← h1.1 f a]
    rcases hf with rfl | rfl | rfl | rfl <;> simp [gFI_sFI]
  · intro f a
    exact h1.2.1 f a
  · simp [gFI_sFI]
  · simp [gFI_sFI]
  · simp [gFI_sFI]
theorem set0 {N : Nat → Nat} {S : sSt} {cs us : Nat} (h : gFI S 281 us = 0) : F_X0_settleAll N S cs (some us) = some S := by
  obtain ⟨v, hv⟩ := FU_s
  have h0 : (0 : Int32) ≤ 0 := by decide
  have h1 : F_X0_refresh N S (some us) = some S := by
    unfold F_X0_refresh
    rw [hv]
    show Y_X0_refresh_2 N (L_X0_refresh_2 N (v + 1)) S (some us) 0 = some S
    simp only [Y_X0_refresh_2, Option.bind_some, h, h0, ↓reduceIte]
  unfold F_X0_settleAll
  rw [h1, Option.bind_some, hv]
  show Y_X0_settleAll_6 N (L_X0_settleAll_6 N (v + 1)) S cs (some us) 0 = some S
  simp only [Y_X0_settleAll_6, Option.bind_some, h, h0, ↓reduceIte]
theorem there0 {N : Nat → Nat} {S : sSt} {us : Nat} (h : gFI S 281 us = 0) : F_X7_thereNow N S us = some 0 := by
  obtain ⟨v, hv⟩ := FU_s
  have h0 : (0 : Int32) ≤ 0 := by decide
  unfold F_X7_thereNow
  rw [hv]
  show Y_X7_thereNow_4 N S (L_X7_thereNow_4 N S (v + 1)) us 0 0 = some 0
  simp only [Y_X7_thereNow_4, h, h0, ↓reduceIte]
theorem need15 {x us : Nat} {N : Nat → Nat} {S : sSt} (h320 : gFR S 320 x = some us) (h281 : gFI S 281 us = 0) : ∀ (d n j : Nat), j + d = 16 → d < n → L_X8_needs_15 N n S x 0 (nI j) = some (0, S) := by
  intro d
  induction d with
  | zero =>
    intro n j hj hn
    obtain ⟨u, rfl, hu⟩ := pr1 hn
    show Y_X8_needs_15 N (L_X8_needs_15 N u) S x 0 (nI j) = some (0, S)
    have e0 : (16 : Int32) ≤ nI j := nI_le (a := 16) (by omega) (by omega)
    simp only [Y_X8_needs_15, e0, ↓reduceIte]
  | succ d ih =>
    intro n j hj hn
    obtain ⟨u, rfl, hu⟩ := pr1 hn
    show Y_X8_needs_15 N (L_X8_needs_15 N u) S x 0 (nI j) = some (0, S)
    have e0 : ¬ (16 : Int32) ≤ nI j := nI_ge (b := 16) (by omega) (by omega)
    simp only [Y_X8_needs_15, bnd, h320, Option.bind_some, e0, ↓reduceIte, at0 h281, onl, B_X8_needs_52, ← nI_succ]
    exact ih u (j + 1) (by omega) (by omega)
theorem co91 {x us cs rg re io : Nat} {N : Nat → Nat} {S : sSt} (h : C0 x us cs rg re io N S) : ∀ (d n j : Nat), j + d = 16 → d < n → L_X8_coarse_91 N n S x 0 0 (nI j) = some (0, S) := by
  obtain ⟨h320, h321, h323, h324, h281, h80, hN, h82⟩ := h
  intro d
  induction d with
  | zero =>
    intro n j hj hn
    obtain ⟨u, rfl, hu⟩ := pr1 hn
    show Y_X8_coarse_91 N (L_X8_coarse_91 N u) S x 0 0 (nI j) = some (0, S)
    have e0 : (16 : Int32) ≤ nI j := nI_le (a := 16) (by omega) (by omega)
    have e1 : F_J6_bitCount_0f7a4 N S 0 = some 0 := rfl
    simp only [Y_X8_coarse_91, e0, ↓reduceIte, e1, Option.bind_some]
  | succ d ih =>
    intro n j hj hn
    obtain ⟨u, rfl, hu⟩ := pr1 hn
    show Y_X8_coarse_91 N (L_X8_coarse_91 N u) S x 0 0 (nI j) = some (0, S)
    have e0 : ¬ (16 : Int32) ≤ nI j := nI_ge (b := 16) (by omega) (by omega)
    have e1 : ∃ v, F_X2_reachOf N S rg (nI j) = some v := by
      have c1 : ¬ nI j < 0 := nI_pos (by omega)
      have c2 : ¬ nI (N re) ≤ nI j := by rw [hN]; exact nI_ge (by omega) (by omega)
      have c3 : ∀ (F : Option Int32), gi (nI j) (N re) F = F := fun F => by rw [hN]; exact gi_n (by omega) (by omega)
      refine ⟨gAI S re (nI j).toNatClampNeg, ?_⟩
      simp only [F_X2_reachOf, bnd, h80, Option.bind_some, c1, c2, c3, ↓reduceIte]
    obtain ⟨v, e1⟩ := e1
    have e2 : v &&& (0 : Int32) = 0 := by simp
    simp only [Y_X8_coarse_91, bnd, h323, Option.bind_some, e0, ↓reduceIte, e1, e2, B_X8_coarse_116, ← nI_succ]
    exact ih u (j + 1) (by omega) (by omega)
theorem co26 {x us cs rg re io : Nat} {N : Nat → Nat} {S : sSt} (h : C0 x us cs rg re io N S) : ∀ (d n j : Nat), j + d = 16 → d < n → L_X8_coarse_26 N n S x 0 (nI j) = some (0, S) := by
  have h0 := h
  obtain ⟨h320, h321, h323, h324, h281, h80, hN, h82⟩ := h
  intro d
  induction d with
  | zero =>
    intro n j hj hn
    obtain ⟨u, rfl, hu⟩ := pr1 hn
    show Y_X8_coarse_26 N (L_X8_coarse_26 N u) S x 0 (nI j) = some (0, S)
    have e0 : (16 : Int32) ≤ nI j := nI_le (a := 16) (by omega) (by omega)
    simp only [Y_X8_coarse_26, e0, ↓reduceIte]
    exact co91 h0 16 FU 0 rfl FU_16
  | succ d ih =>
    intro n j hj hn
    obtain ⟨u, rfl, hu⟩ := pr1 hn
    show Y_X8_coarse_26 N (L_X8_coarse_26 N u) S x 0 (nI j) = some (0, S)
    have e0 : ¬ (16 : Int32) ≤ nI j := nI_ge (b := 16) (by omega) (by omega)
    have e1 : ¬ (0 : Int32) = 1 := by decide
    have e2 : ¬ (0 : Int32) = 2 := by decide
    simp only [Y_X8_coarse_26, bnd, h320, Option.bind_some, e0, ↓reduceIte, at0 h281, onl, B_X8_coarse_61, B_X8_coarse_81, e1, e2, ← nI_succ]
    exact ih u (j + 1) (by omega) (by omega)
