/-! The class's lists of ints, as lists. -/
def LsI (N : Nat → Nat) (S : sSt) (l b : Nat) (xs : List Int32) : Prop := gFI S 41 l = nI xs.length ∧ gFR S 40 l = some b ∧ xs.length ≤ N b ∧ N b < 1000 ∧ ∀ i v, xs[i]? = some v → gAI S b i = v
section
variable {N : Nat → Nat} {S S' : sSt} {l b : Nat} {xs : List Int32}
theorem LsI.same (h : LsI N S l b xs) (e : gFI S' 41 l = gFI S 41 l) (e2 : gFR S' 40 l = gFR S 40 l) (e3 : ∀ i, gAI S' b i = gAI S b i) : LsI N S' l b xs := ⟨e.trans h.1, e2.trans h.2.1, h.2.2.1, h.2.2.2.1, fun i v hv => (e3 i).trans (h.2.2.2.2 i v hv)⟩
theorem LsI.lt (h : LsI N S l b xs) : xs.length < 2147483648 := by
  have := h.2.2.1
  have := h.2.2.2.1
  omega
theorem has_loop (h : LsI N S l b xs) (v : Int32) : ∀ (d k n : Nat), k + d = xs.length → d < n → L_X1_has_2 N S n l v (nI k) = some (if v ∈ xs.drop k then 1 else 0)
  | d, k, 0, _, h2 => absurd h2 (Nat.not_lt_zero d)
  | 0, k, n + 1, h1, _ => by
    have hl := h.lt
    show Y_X1_has_2 N S (L_X1_has_2 N S n) l v (nI k) = _
    unfold Y_X1_has_2
    rw [h.1, if_pos ((nI_leI (by omega) (by omega)).mpr (by omega)), List.drop_eq_nil_of_le (by omega), if_neg List.not_mem_nil]
  | d + 1, k, n + 1, h1, h2 => by
    have hl := h.lt
    have hb := h.2.2.1
    have hN := h.2.2.2.1
    have hk : k < xs.length := by omega
    have e1 : gAI S b k = xs[k] := h.2.2.2.2 k _ (List.getElem?_eq_getElem hk)
    have e2 : xs.drop k = xs[k] :: xs.drop (k + 1) := List.drop_eq_getElem_cons hk
    show Y_X1_has_2 N S (L_X1_has_2 N S n) l v (nI k) = _
    unfold Y_X1_has_2
    rw [h.1, if_neg (fun z => absurd ((nI_leI (by omega) (by omega)).mp z) (by omega))]
    simp only [bnd, h.2.1, Option.bind_some]
    rw [if_neg (fun z => absurd ((nI_leI (by omega) (by omega)).mp z) (by omega)), n_gi (by omega) (by omega), n_cl (by omega), e1, e2]
    by_cases c : xs[k] = v
    · rw [if_pos c, if_pos (by rw [c]; exact List.mem_cons_self)]
    · rw [if_neg c, n_a1, has_loop h v d (k + 1) n (by omega) (by omega)]
      by_cases c2 : v ∈ xs.drop (k + 1)
      · rw [if_pos c2, if_pos (List.mem_cons_of_mem _ c2)]
      · rw [if_neg c2, if_neg (fun z => (List.mem_cons.mp z).elim (fun y => c y.symm) c2)]
theorem has_val (h : LsI N S l b xs) (v : Int32) : F_X1_has N S l v = some (if v ∈ xs then 1 else 0) := by
  have := has_loop h v xs.length 0 FU (by omega) (by have := FU_big; have := h.lt; omega)
  rw [List.drop_zero] at this
  exact this
theorem app_no (h : LsI N S l b xs) (hl : ¬ xs.length < N b) (v : Int32) : F_X1_append N S l v = some (0, S) := by
  have hx := h.lt
  have hN := h.2.2.2.1
  unfold F_X1_append
  rw [h.1, if_neg (nI_pos (by omega))]
  simp only [bnd, h.2.1, Option.bind_some]
  rw [if_neg (fun z => hl ((nI_ltI (by omega) (by omega)).mp z))]
theorem app_yes (h : LsI N S l b xs) (hl : xs.length < N b) (v : Int32) : F_X1_append N S l v = some (1, sFI (sAI S b xs.length v) 41 l (nI (xs.length + 1))) := by
  have hx := h.lt
  have hN := h.2.2.2.1
  unfold F_X1_append
  rw [h.1, if_neg (nI_pos (by omega))]
  simp only [bnd, h.2.1, Option.bind_some]
  rw [if_pos ((nI_ltI (by omega) (by omega)).mpr hl), n_gi (by omega) (by omega), n_cl (by omega), gFI_sAI, h.1, n_a1]
theorem app_LS (h : LsI N S l b xs) (hl : xs.length < N b) (v : Int32) : LsI N (sFI (sAI S b xs.length v) 41 l (nI (xs.length + 1))) l b (xs ++ [v]) := by
  refine ⟨?_, h.2.1, by rw [List.length_append, List.length_singleton]; omega, h.2.2.2.1, fun i w hw => ?_⟩
  · rw [gFI_sFI, if_pos ⟨rfl, rfl⟩, List.length_append, List.length_singleton]
  · rw [gAI_sFI, gAI_sAI]
    by_cases c : i = xs.length
    · rw [if_pos ⟨rfl, c⟩]
      rw [c, List.getElem?_append_right (Nat.le_refl _), Nat.sub_self] at hw
      cases hw
      rfl
    · rw [if_neg (fun z => c z.2)]
      have hi : i < xs.length := by
        have := (List.getElem?_eq_some_iff.mp hw).1
        rw [List.length_append, List.length_singleton] at this
        omega
      rw [List.getElem?_append_left hi] at hw
      exact h.2.2.2.2 i w hw
theorem app_to (h : LsI N S l b xs) (v : Int32) : F_X8_appendTo N S (some l) v = if xs.length < N b then some (nI (xs.length + 1), sFI (sAI S b xs.length v) 41 l (nI (xs.length + 1))) else some (-4, S) := by
  unfold F_X8_appendTo
  rw [Option.bind_some]
  by_cases c : xs.length < N b
  · rw [if_pos c, app_yes h c v]
    show (if (1 : Int32) = 0 then some ((-4 : Int32), sFI (sAI S b xs.length v) 41 l (nI (xs.length + 1))) else Option.bind (F_X1_length N (sFI (sAI S b xs.length v) 41 l (nI (xs.length + 1))) l) (fun v4 => some (v4, sFI (sAI S b xs.length v) 41 l (nI (xs.length + 1))))) = _
    rw [if_neg (by decide)]
    unfold F_X1_length
    rw [Option.bind_some, gFI_sFI, if_pos ⟨rfl, rfl⟩]
  · rw [if_neg c, app_no h c v]
    rfl
theorem emp_val : F_X1_empty N S l = some (sFI S 41 l 0) := rfl
theorem emp_LS (h : LsI N S l b xs) : LsI N (sFI S 41 l 0) l b [] := ⟨by rw [gFI_sFI, if_pos ⟨rfl, rfl⟩]; rfl, h.2.1, Nat.zero_le _, h.2.2.2.1, fun i v hv => by cases hv⟩
/-- only the list and its array were written -/
def LF (S S' : sSt) (l b : Nat) : Prop := (∀ a, a ≠ l → a ≠ b → kpA S S' a) ∧ S'.2.2.1 = S.2.2.1 ∧ (∀ f a, f ≠ 41 → gFI S' f a = gFI S f a) ∧ (∀ f a, gFJ S' f a = gFJ S f a) ∧ (∀ a k, gAR S' a k = gAR S a k) ∧ ∀ a k, gAJ S' a k = gAJ S a k
theorem LF.rf : LF S S l b := ⟨fun _ _ _ => kpA.rf, rfl, fun _ _ _ => rfl, fun _ _ => rfl, fun _ _ => rfl, fun _ _ => rfl⟩
theorem LF.tr {S1 : sSt} (h : LF S S1 l b) (g : LF S1 S' l b) : LF S S' l b := ⟨fun a h1 h2 => (h.1 a h1 h2).tr (g.1 a h1 h2), g.2.1.trans h.2.1, fun f a hf => (g.2.2.1 f a hf).trans (h.2.2.1 f a hf), fun f a => (g.2.2.2.1 f a).trans (h.2.2.2.1 f a), fun a k => (g.2.2.2.2.1 a k).trans (h.2.2.2.2.1 a k), fun a k => (g.2.2.2.2.2 a k).trans (h.2.2.2.2.2 a k)⟩
theorem LF.ai {k : Nat} {v : Int32} : LF S (sAI S b k v) l b := ⟨fun _ _ h => kpA.sAI h, rfl, fun _ _ _ => rfl, fun _ _ => rfl, fun _ _ => rfl, fun _ _ => rfl⟩
theorem LF.fi {v : Int32} : LF S (sFI S 41 l v) l b := ⟨fun _ h _ => kpA.sFI h, rfl, fun f a hf => by rw [gFI_sFI, if_neg (fun z => hf z.1)], fun _ _ => rfl, fun _ _ => rfl, fun _ _ => rfl⟩
/-- item i is dropped: S1 is the store when the places before k are done -/
theorem drop_loop {xs : List Int32} {i : Nat} (h : LsI N S l b xs) (hi : i < xs.length) : ∀ (d k n : Nat) (S1 : sSt), k + d + 1 = xs.length → i ≤ k → d < n → LF S S1 l b → gFI S1 41 l = nI xs.length →
    (∀ j, j < i → gAI S1 b j = gAI S b j) → (∀ j, i ≤ j → j < k → gAI S1 b j = gAI S b (j + 1)) → (∀ j, k ≤ j → gAI S1 b j = gAI S b j) →
    ∃ S2, L_X1_dropAt_15 N n S1 l (nI k) = some S2 ∧ LF S S2 l b ∧ LsI N S2 l b (xs.eraseIdx i)
  | d, k, 0, _, _, _, h2, _, _, _, _, _ => absurd h2 (Nat.not_lt_zero d)
  | 0, k, n + 1, S1, h1, hik, _, hf, e41, ca, cb1, cc => by
    have hl := h.lt
    refine ⟨sFI S1 41 l (nI (xs.length - 1)), ?_, hf.tr LF.fi, ?_, ?_, ?_, h.2.2.2.1, fun j v hv => ?_⟩
    · show Y_X1_dropAt_15 N (L_X1_dropAt_15 N n) S1 l (nI k) = _
      unfold Y_X1_dropAt_15 B_X1_dropAt_56
      rw [n_a1, e41, if_pos ((nI_leI (by omega) (by omega)).mpr (by omega)), n_s1 (by omega)]
      rfl
    · rw [gFI_sFI, if_pos ⟨rfl, rfl⟩, List.length_eraseIdx, if_pos hi]
    · show gFR S1 40 l = some b
      unfold gFR
      rw [hf.2.1]
      exact h.2.1
    · rw [List.length_eraseIdx, if_pos hi]
      have := h.2.2.1
      omega
    · show gAI S1 b j = v
      have hj : j < xs.length - 1 := by
        have := (List.getElem?_eq_some_iff.mp hv).1
        rw [List.length_eraseIdx, if_pos hi] at this
        exact this
      rw [List.getElem?_eraseIdx] at hv
      by_cases c : j < i
      · rw [if_pos c] at hv
        rw [ca j c]
        exact h.2.2.2.2 j v hv
      · rw [if_neg c] at hv
        rw [cb1 j (by omega) (by omega)]
        exact h.2.2.2.2 (j + 1) v hv
  | d + 1, k, n + 1, S1, h1, hik, h2, hf, e41, ca, cb1, cc => by
    have hl := h.lt
    have hb := h.2.2.1
    have hN := h.2.2.2.1
    have e40 : gFR S1 40 l = some b := by
      unfold gFR
      rw [hf.2.1]
      exact h.2.1
    obtain ⟨S2, e2, g1, g2⟩ := drop_loop h hi d (k + 1) n (sAI S1 b k (gAI S1 b (k + 1))) (by omega) (by omega) (by omega) (hf.tr LF.ai) e41
      (fun j hj => by rw [gAI_sAI, if_neg (fun z => by have := z.2; omega)]; exact ca j hj)
      (fun j hj hj2 => by
        rw [gAI_sAI]
        by_cases c : j = k
        · rw [if_pos ⟨rfl, c⟩, c]; exact cc (k + 1) (by omega)
        · rw [if_neg (fun z => c z.2)]; exact cb1 j hj (by omega))
      (fun j hj => by rw [gAI_sAI, if_neg (fun z => by have := z.2; omega)]; exact cc j (by omega))
    refine ⟨S2, ?_, g1, g2⟩
    show Y_X1_dropAt_15 N (L_X1_dropAt_15 N n) S1 l (nI k) = _
    unfold Y_X1_dropAt_15
    rw [n_a1, e41, if_neg (fun z => absurd ((nI_leI (by omega) (by omega)).mp z) (by omega))]
    simp only [bnd, e40, Option.bind_some]
    rw [if_neg (fun z => absurd ((nI_leI (by omega) (by omega)).mp z) (by omega)), n_gi (by omega) (by omega), n_gi (by omega) (by omega), n_cl (by omega), n_cl (by omega)]
    exact e2
theorem drop_val (h : LsI N S l b xs) {i : Nat} (hi : i < xs.length) : ∃ S2, F_X1_dropAt N S l (nI i) = some S2 ∧ LF S S2 l b ∧ LsI N S2 l b (xs.eraseIdx i) := by
  have hl := h.lt
  obtain ⟨S2, e, g⟩ := drop_loop h hi (xs.length - i - 1) i FU S (by omega) (Nat.le_refl i) (by have := FU_big; omega) LF.rf h.1 (fun _ _ => rfl) (fun j hj hj2 => by omega) (fun _ _ => rfl)
  refine ⟨S2, ?_, g⟩
  unfold F_X1_dropAt
  rw [if_neg (nI_pos (by omega)), h.1, if_pos ((nI_ltI (by omega) (by omega)).mpr hi)]
  exact e
theorem at_val (h : LsI N S l b xs) {i : Nat} (hi : i < xs.length) : F_X1_at N S l (nI i) = some (xs[i]) := by
  have hl := h.lt
  have hb := h.2.2.1
  have hN := h.2.2.2.1
  unfold F_X1_at
  rw [if_neg (nI_pos (by omega)), h.1, if_neg (fun z => absurd ((nI_leI (by omega) (by omega)).mp z) (by omega))]
  simp only [bnd, h.2.1, Option.bind_some]
  rw [if_neg (fun z => absurd ((nI_leI (by omega) (by omega)).mp z) (by omega)), n_gi (by omega) (by omega), n_cl (by omega), h.2.2.2.2 i _ (List.getElem?_eq_getElem hi)]
/-- all items v are dropped, from behind -/
theorem item_loop (v : Int32) : ∀ (k n : Nat) (S1 : sSt) (ys : List Int32), k ≤ ys.length → k < n → LsI N S1 l b ys → ∃ S2, L_X1_dropItem_7 N n S1 l v (nI k - 1) = some S2 ∧ LF S1 S2 l b ∧ LsI N S2 l b ((ys.take k).filter (fun w => decide (w ≠ v)) ++ ys.drop k)
  | k, 0, _, _, _, h2, _ => absurd h2 (Nat.not_lt_zero k)
  | 0, n + 1, S1, ys, _, _, h => by
    refine ⟨S1, ?_, LF.rf, by rw [List.take_zero, List.filter_nil, List.nil_append, List.drop_zero]; exact h⟩
    show Y_X1_dropItem_7 N (L_X1_dropItem_7 N n) S1 l v (nI 0 - 1) = _
    unfold Y_X1_dropItem_7
    rw [if_pos (by decide)]
  | k + 1, n + 1, S1, ys, hk, h2, h => by
    have hl := h.lt
    have hk1 : k < ys.length := by omega
    have e0 : nI (k + 1) - 1 = nI k := n_s1 (by omega)
    have et : ys.take (k + 1) = ys.take k ++ [ys[k]] := (List.take_append_getElem hk1).symm
    have em : nI k + (-1) = nI k - 1 := (Int32.sub_eq_add_neg (nI k) 1).symm
    rw [e0]
    by_cases c : ys[k] = v
    · obtain ⟨S2, e2, f2, g2⟩ := drop_val h hk1
      have el : (ys.eraseIdx k).length = ys.length - 1 := by rw [List.length_eraseIdx, if_pos hk1]
      obtain ⟨S3, e3, f3, g3⟩ := item_loop v k n S2 (ys.eraseIdx k) (by omega) (by omega) g2
      refine ⟨S3, ?_, f2.tr f3, ?_⟩
      · show Y_X1_dropItem_7 N (L_X1_dropItem_7 N n) S1 l v (nI k) = _
        unfold Y_X1_dropItem_7 B_X1_dropItem_25
        rw [if_neg (nI_pos (by omega)), at_val h hk1, Option.bind_some, if_pos c, e2, Option.bind_some, em]
        exact e3
      · have e4 : (ys.eraseIdx k).take k = ys.take k := by rw [List.eraseIdx_eq_take_drop_succ, List.take_append_of_le_length (by rw [List.length_take]; omega), List.take_take, Nat.min_self]
        have e5 : (ys.eraseIdx k).drop k = ys.drop (k + 1) := by
          rw [List.eraseIdx_eq_take_drop_succ, List.drop_append_of_le_length (by rw [List.length_take]; omega), List.drop_eq_nil_of_le (by rw [List.length_take]; omega), List.nil_append]
        rw [e4, e5] at g3
        rw [et, List.filter_append, List.filter_cons_of_neg (by simp [c]), List.filter_nil, List.append_nil]
        exact g3
    · obtain ⟨S3, e3, f3, g3⟩ := item_loop v k n S1 ys (by omega) (by omega) h
      refine ⟨S3, ?_, f3, ?_⟩
      · show Y_X1_dropItem_7 N (L_X1_dropItem_7 N n) S1 l v (nI k) = _
        unfold Y_X1_dropItem_7 B_X1_dropItem_25
        rw [if_neg (nI_pos (by omega)), at_val h hk1, Option.bind_some, if_neg c, em]
        exact e3
      · have e5 : ys.drop k = ys[k] :: ys.drop (k + 1) := List.drop_eq_getElem_cons hk1
        rw [et, List.filter_append, List.filter_cons_of_pos (by simp [c]), List.filter_nil, List.append_assoc, List.singleton_append, ← e5]
        exact g3
theorem item_val (h : LsI N S l b xs) (v : Int32) : ∃ S2, F_X1_dropItem N S l v = some S2 ∧ LF S S2 l b ∧ LsI N S2 l b (xs.filter (fun w => decide (w ≠ v))) := by
  obtain ⟨S2, e, f, g⟩ := item_loop v xs.length FU S xs (Nat.le_refl _) (by have := FU_big; have := h.lt; omega) h
  refine ⟨S2, ?_, f, ?_⟩
  · unfold F_X1_dropItem
    rw [h.1]
    exact e
  · rw [List.take_length, List.drop_length, List.append_nil] at g
    exact g
end
