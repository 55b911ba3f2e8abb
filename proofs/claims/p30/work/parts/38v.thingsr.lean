/-! What units give: the reference. -/
theorem MG.g {m : Nat} {G : Nat → Nat} {Λ : sLay} {S0 S : sSt} (h : MG m G Λ S0) (e : S.2.2.1 = S0.2.2.1) (f : Nat) (hf : isM f = true := by decide) : gFR S f m = some (G f) := by
  unfold gFR
  rw [e]
  exact h.1 f hf
theorem MG.o {m : Nat} {G : Nat → Nat} {Λ : sLay} {S0 : sSt} (h : MG m G Λ S0) (f f' : Nat) (hf : isM f = true := by decide) (hf' : isM f' = true := by decide) (hne : f ≠ f' := by decide) {S : sSt} {k k' : Nat} {v : Int32} : gAI (sAI S (G f') k' v) (G f) k = gAI S (G f) k := by
  rw [gAI_sAI, if_neg (fun z => hne (h.2.2 f f' hf hf' z.1))]
theorem MG.oJ {m : Nat} {G : Nat → Nat} {Λ : sLay} {S0 : sSt} (h : MG m G Λ S0) (f f' : Nat) (hf : isM f = true := by decide) (hf' : isM f' = true := by decide) (hne : f ≠ f' := by decide) {S : sSt} {k k' : Nat} {v : Int64} : gAJ (sAJ S (G f') k' v) (G f) k = gAJ S (G f) k := by
  rw [gAJ_sAJ, if_neg (fun z => hne (h.2.2 f f' hf hf' z.1))]
theorem sI {S : sSt} {a k k' : Nat} {v : Int32} : gAI (sAI S a k' v) a k = if k = k' then v else gAI S a k := by
  rw [gAI_sAI]
  by_cases c : k = k'
  · rw [if_pos ⟨rfl, c⟩, if_pos c]
  · rw [if_neg (fun z => c z.2), if_neg c]
theorem sJ {S : sSt} {a k k' : Nat} {v : Int64} : gAJ (sAJ S a k' v) a k = if k = k' then v else gAJ S a k := by
  rw [gAJ_sAJ]
  by_cases c : k = k'
  · rw [if_pos ⟨rfl, c⟩, if_pos c]
  · rw [if_neg (fun z => c z.2), if_neg c]
/-- place j holds the thing th -/
def TR (G : Nat → Nat) (S : sSt) (j : Nat) (th : aT) : Prop := gAI S (G 364) j = th.1 ∧ gAJ S (G 365) j = th.2.1 ∧ gAI S (G 366) j = th.2.2.1 ∧ (th.2.2.1 = 0 ∨ th.2.2.1 = 1) ∧ gAI S (G 367) j = nI th.2.2.2.length ∧ th.2.2.2.length ≤ 3 ∧ ∀ i v, th.2.2.2[i]? = some v → gAI S (G 368) (3 * j + i) = v
def RH (G : Nat → Nat) (S : sSt) (c : Nat) (F : aF) (H : aH) : Prop := ∀ k, k < c → F.1 k = true → gAI S (G 363) k = nI (H k).length ∧ (H k).length ≤ 10 ∧ ∀ i th, (H k)[i]? = some th → TR G S (10 * k + i) th
theorem TR.cp {G : Nat → Nat} {S S1 : sSt} {i j : Nat} {th : aT} (h : TR G S i th) (e4 : gAI S1 (G 364) j = gAI S (G 364) i) (e5 : gAJ S1 (G 365) j = gAJ S (G 365) i) (e6 : gAI S1 (G 366) j = gAI S (G 366) i) (e7 : gAI S1 (G 367) j = gAI S (G 367) i) (e8 : ∀ k, k < 3 → gAI S1 (G 368) (3 * j + k) = gAI S (G 368) (3 * i + k)) : TR G S1 j th := by
  obtain ⟨h1, h2, h3, h4, h5, h6, h7⟩ := h
  refine ⟨e4.trans h1, e5.trans h2, e6.trans h3, h4, e7.trans h5, h6, fun k v hv => ?_⟩
  have hk := (List.getElem?_eq_some_iff.mp hv).1
  rw [e8 k (by omega)]
  exact h7 k v hv
theorem RH.put {G : Nat → Nat} {S S1 : sSt} {c k : Nat} {F : aF} {H : aH} {l2 : List aT} (hR : RH G S c F H) (hl : l2.length ≤ 10) (e363 : ∀ j, gAI S1 (G 363) j = if j = k then nI l2.length else gAI S (G 363) j) (eN : ∀ i th, l2[i]? = some th → TR G S1 (10 * k + i) th) (eo : ∀ j th, (∀ i, i < 10 → j ≠ 10 * k + i) → TR G S j th → TR G S1 j th) : RH G S1 c F (up1 H k l2) := fun j hj hT => by
  by_cases cj : j = k
  · subst cj
    rw [up1_s]
    exact ⟨by rw [e363, if_pos rfl], hl, eN⟩
  · rw [up1_n cj]
    obtain ⟨h1, h2, h3⟩ := hR j hj hT
    refine ⟨by rw [e363, if_neg cj]; exact h1, h2, fun i th hi => ?_⟩
    have hi2 := (List.getElem?_eq_some_iff.mp hi).1
    exact eo _ th (fun i2 h4 => by omega) (h3 i th hi)
def oT (k : Nat) : Option Nat → Int32
  | none => -5
  | some i => nI (10 * k + i)
theorem oT_n {k : Nat} {x : Option Nat} (hk : k < 16) (hx : ∀ i, x = some i → i < 10) : oT k x = -5 ↔ x = none := by
  cases x with
  | none => exact ⟨fun _ => rfl, fun _ => rfl⟩
  | some i => exact ⟨fun z => absurd z (ne5 (by have := hx i rfl; omega)), fun z => nomatch z⟩
theorem i_le3 {n : Int32} : (3 : Int32) ≤ n ↔ (2 : Int32) < n := by
  rw [Int32.le_iff_toInt_le, Int32.lt_iff_toInt_lt]
  have e1 : (3 : Int32).toInt = 3 := rfl
  have e2 : (2 : Int32).toInt = 2 := rfl
  omega
section
variable {m k : Nat} {G : Nat → Nat} {Λ : sLay} {N : Nat → Nat} {S S0 : sSt} {l : List aT} {p : Int32}
theorem tO_loop (hG : MG m G Λ S) (hn : gAI S (G 363) k = nI l.length) (hl : l.length ≤ 10) (hT : ∀ i th, l[i]? = some th → TR G S (10 * k + i) th) (hk : k < 16) (ep : p = nI k) (key : Int32) : ∀ (n i : Nat), i ≤ l.length → Pa (L_X9_thingOf_5 N S n m p key (nI (10 * k + i))) (fun r => r = oT k (tIx key (l.drop i) i))
  | 0, i, _ => Pa_none
  | n + 1, i, hi => by
    show Pa (Y_X9_thingOf_5 N S (L_X9_thingOf_5 N S n) m p key (nI (10 * k + i))) _
    unfold Y_X9_thingOf_5
    refine Pa_r (hG.1 363 rfl) (Pa_g ?_)
    have eL : (10 : Int32) * p + gAI S (G 363) (Int32.toNatClampNeg p) = nI (10 * k + l.length) := e_add (e_mul k10 ep) (by rw [e_clamp ep (by omega)]; exact hn)
    rw [eL]
    by_cases c : i = l.length
    · refine Pa_it (leN (by omega) (by omega) (by omega)) (Pa_some ?_)
      rw [List.drop_eq_nil_of_le (by omega)]
      rfl
    · have hi2 : i < l.length := by omega
      have e2 : l.drop i = l[i] :: l.drop (i + 1) := List.drop_eq_getElem_cons hi2
      refine Pa_if (nleN (by omega) (by omega) (by omega)) (Pa_r (hG.1 364 rfl) (Pa_g ?_))
      rw [n_cl (by omega), (hT i _ (List.getElem?_eq_getElem hi2)).1, e2, tIx_cons, n_a1]
      by_cases ck : (l[i]).1 = key
      · rw [if_pos ck, if_pos ck]
        exact Pa_some rfl
      · rw [if_neg ck, if_neg ck]
        exact tO_loop hG hn hl hT hk ep key n (i + 1) hi2
theorem tO_val (hG : MG m G Λ S) (hn : gAI S (G 363) k = nI l.length) (hl : l.length ≤ 10) (hT : ∀ i th, l[i]? = some th → TR G S (10 * k + i) th) (hk : k < 16) (ep : p = nI k) (key : Int32) : Pa (F_X9_thingOf N S m p key) (fun r => r = oT k (tIx key l 0)) := by
  have := tO_loop (N := N) hG hn hl hT hk ep key FU 0 (Nat.zero_le _)
  rw [List.drop_zero, Nat.add_zero] at this
  unfold F_X9_thingOf
  have e1 : (10 : Int32) * p = nI (10 * k) := e_mul k10 ep
  rw [e1]
  exact this
theorem mv_loop (hG : MG m G Λ S0) {a b : Nat} (ha : a < 200) (hb : b < 200) (hab : a ≠ b) {p1 p2 : Int32} (e1 : p1 = nI a) (e2 : p2 = nI b) : ∀ (n k : Nat) (S : sSt), k ≤ 3 → S.2.2.1 = S0.2.2.1 → Pa (L_X9_move_50 N n S m p1 p2 (nI k)) (fun r => r.2.2.1 = S0.2.2.1 ∧ (∀ f j, isM f = true → f ≠ 368 → gAI r (G f) j = gAI S (G f) j) ∧ (∀ x j, gAJ r x j = gAJ S x j) ∧ ∀ j i, i < 3 → gAI r (G 368) (3 * j + i) = if j = b ∧ k ≤ i then gAI S (G 368) (3 * a + i) else gAI S (G 368) (3 * j + i))
  | 0, _, _, _, _ => Pa_none
  | n + 1, k, S, hk, hS => by
    show Pa (Y_X9_move_50 N (L_X9_move_50 N n) S m p1 p2 (nI k)) _
    unfold Y_X9_move_50
    by_cases c : k = 3
    · refine Pa_it (leN (a := 3) (by omega) (by omega) (by omega)) (Pa_some ⟨hS, fun _ _ _ _ => rfl, fun _ _ => rfl, fun j i hi => ?_⟩)
      rw [if_neg (by omega)]
    · have ei : (3 : Int32) * p1 + nI k = nI (3 * a + k) := e_add (e_mul k3 e1) rfl
      have ej : (3 : Int32) * p2 + nI k = nI (3 * b + k) := e_add (e_mul k3 e2) rfl
      refine Pa_if (nleN (b := k) (a := 3) (by omega) (by omega) (by omega)) (Pa_m (hG.g hS 368) (Pa_r (hG.g hS 368) (Pa_g (Pa_bs (Pa_g (Pa_b ?_))))))
      rw [ei, ej, n_cl (by omega), n_cl (by omega), n_a1]
      refine Pa_mono (mv_loop hG ha hb hab e1 e2 n (k + 1) _ (by omega) hS) (fun r hr => ?_)
      obtain ⟨r1, r2, r3, r4⟩ := hr
      refine ⟨r1, fun f j hf hne => ?_, r3, fun j i hi => ?_⟩
      · rw [r2 f j hf hne, hG.o f 368 hf rfl hne]
      · have z1 : gAI (sAI S (G 368) (3 * b + k) (gAI S (G 368) (3 * a + k))) (G 368) (3 * a + i) = gAI S (G 368) (3 * a + i) := by rw [sI, if_neg (by omega)]
        have z2 : gAI (sAI S (G 368) (3 * b + k) (gAI S (G 368) (3 * a + k))) (G 368) (3 * j + i) = if 3 * j + i = 3 * b + k then gAI S (G 368) (3 * a + k) else gAI S (G 368) (3 * j + i) := sI
        rw [r4 j i hi, z1, z2]
        by_cases cj : j = b
        · by_cases ci : k ≤ i
          · rw [if_pos (show j = b ∧ k ≤ i from ⟨cj, ci⟩)]
            by_cases ck : k = i
            · rw [if_neg (show ¬ (j = b ∧ k + 1 ≤ i) by omega), if_pos (show 3 * j + i = 3 * b + k by omega), ck]
            · rw [if_pos (show j = b ∧ k + 1 ≤ i from ⟨cj, by omega⟩)]
          · rw [if_neg (show ¬ (j = b ∧ k + 1 ≤ i) by omega), if_neg (show ¬ 3 * j + i = 3 * b + k by omega), if_neg (show ¬ (j = b ∧ k ≤ i) by omega)]
        · rw [if_neg (show ¬ (j = b ∧ k + 1 ≤ i) by omega), if_neg (show ¬ 3 * j + i = 3 * b + k by omega), if_neg (show ¬ (j = b ∧ k ≤ i) by omega)]
/-- S1 is S, but that place b holds what place a held -/
def mvd (G : Nat → Nat) (S S1 : sSt) (a b : Nat) : Prop := (∀ j, gAI S1 (G 363) j = gAI S (G 363) j) ∧ (∀ th, TR G S a th → TR G S1 b th) ∧ ∀ j th, j ≠ b → TR G S j th → TR G S1 j th
theorem mv_val (hG : MG m G Λ S0) {a b : Nat} (ha : a < 200) (hb : b < 200) (hab : a ≠ b) {p1 p2 : Int32} (e1 : p1 = nI a) (e2 : p2 = nI b) {S : sSt} (hS : S.2.2.1 = S0.2.2.1) : Pa (F_X9_move N S m p1 p2) (fun r => r.2.2.1 = S0.2.2.1 ∧ mvd G S r a b) := by
  have c1 := e_clamp e1 (by omega)
  have c2 := e_clamp e2 (by omega)
  unfold F_X9_move
  rw [c1, c2]
  refine Pa_m (hG.g hS 364) (Pa_r (hG.g hS 364) (Pa_g (Pa_bs (Pa_g (Pa_st (fun S5 e5 => ?_))))))
  have h5 : S5.2.2.1 = S0.2.2.1 := by rw [e5]; exact hS
  refine Pa_m (hG.g h5 365) (Pa_r (hG.g h5 365) (Pa_g (Pa_bs (Pa_g (Pa_st (fun S10 e10 => ?_))))))
  have h10 : S10.2.2.1 = S0.2.2.1 := by rw [e10]; exact h5
  refine Pa_m (hG.g h10 366) (Pa_r (hG.g h10 366) (Pa_g (Pa_bs (Pa_g (Pa_st (fun S15 e15 => ?_))))))
  have h15 : S15.2.2.1 = S0.2.2.1 := by rw [e15]; exact h10
  refine Pa_m (hG.g h15 367) (Pa_r (hG.g h15 367) (Pa_g (Pa_bs (Pa_g (Pa_st (fun S20 e20 => ?_))))))
  have h20 : S20.2.2.1 = S0.2.2.1 := by rw [e20]; exact h15
  refine Pa_mono (mv_loop hG ha hb hab e1 e2 FU 0 S20 (by omega) h20) (fun r hr => ?_)
  obtain ⟨r1, r2, r3, r4⟩ := hr
  have x363 : ∀ j, gAI r (G 363) j = gAI S (G 363) j := fun j => by
    rw [r2 363 j rfl (by decide), e20, hG.o 363 367, e15, hG.o 363 366, e10, gAI_sAJ, e5, hG.o 363 364]
  have x364 : ∀ j, gAI r (G 364) j = if j = b then gAI S (G 364) a else gAI S (G 364) j := fun j => by
    rw [r2 364 j rfl (by decide), e20, hG.o 364 367, e15, hG.o 364 366, e10, gAI_sAJ, e5, sI]
  have x365 : ∀ j, gAJ r (G 365) j = if j = b then gAJ S (G 365) a else gAJ S (G 365) j := fun j => by
    rw [r3, e20, gAJ_sAI, e15, gAJ_sAI, e10, sJ, e5, gAJ_sAI, gAJ_sAI]
  have x366 : ∀ j, gAI r (G 366) j = if j = b then gAI S (G 366) a &&& 1 else gAI S (G 366) j := fun j => by
    rw [r2 366 j rfl (by decide), e20, hG.o 366 367, e15, sI, e10, gAI_sAJ, gAI_sAJ, e5, hG.o 366 364, hG.o 366 364]
  have x367 : ∀ j, gAI r (G 367) j = if j = b then gAI S (G 367) a else gAI S (G 367) j := fun j => by
    rw [r2 367 j rfl (by decide), e20, sI, e15, hG.o 367 366, hG.o 367 366, e10, gAI_sAJ, gAI_sAJ, e5, hG.o 367 364, hG.o 367 364]
  have x368 : ∀ j i, i < 3 → gAI r (G 368) (3 * j + i) = if j = b then gAI S (G 368) (3 * a + i) else gAI S (G 368) (3 * j + i) := fun j i hi => by
    have y : ∀ z, gAI S20 (G 368) z = gAI S (G 368) z := fun z => by
      rw [e20, hG.o 368 367, e15, hG.o 368 366, e10, gAI_sAJ, e5, hG.o 368 364]
    rw [r4 j i hi, y, y]
    by_cases cj : j = b
    · rw [if_pos ⟨cj, Nat.zero_le i⟩, if_pos cj]
    · rw [if_neg (fun z => cj z.1), if_neg cj]
  refine ⟨r1, x363, fun th h => h.cp ?_ ?_ ?_ ?_ (fun i hi => ?_), fun j th hj h => h.cp ?_ ?_ ?_ ?_ (fun i hi => ?_)⟩
  · rw [x364, if_pos rfl]
  · rw [x365, if_pos rfl]
  · rw [x366, if_pos rfl]
    have z := h.2.2.2.1
    rw [← h.2.2.1] at z
    exact n_and1 z
  · rw [x367, if_pos rfl]
  · rw [x368 b i hi, if_pos rfl]
  · rw [x364, if_neg hj]
  · rw [x365, if_neg hj]
  · rw [x366, if_neg hj]
  · rw [x367, if_neg hj]
  · rw [x368 j i hi, if_neg hj]
theorem gB_val (hG : MG m G Λ S0) (hk : k < 16) (ep : p = nI k) {j0 : Nat} (hj : j0 < 200) (key : Int32) (d : Int64) {q : Int32} (hq : q = 0 ∨ q = 1) {S : sSt} (hS : S.2.2.1 = S0.2.2.1) : Pa (B_X9_give_144 N S m p d q key (nI j0)) (fun r => r.1 = 1 ∧ (∀ j, gAI r.2 (G 363) j = if j = k then gAI S (G 363) k + 1 else gAI S (G 363) j) ∧ TR G r.2 j0 (key, d, q, []) ∧ ∀ j th, j ≠ j0 → TR G S j th → TR G r.2 j th) := by
  have c1 := e_clamp ep (by omega)
  unfold B_X9_give_144
  rw [c1, n_cl (by omega)]
  refine Pa_r (hG.g hS 364) (Pa_g (Pa_st (fun S5 e5 => ?_)))
  have h5 : S5.2.2.1 = S0.2.2.1 := by rw [e5]; exact hS
  refine Pa_r (hG.g h5 365) (Pa_g (Pa_st (fun S10 e10 => ?_)))
  have h10 : S10.2.2.1 = S0.2.2.1 := by rw [e10]; exact h5
  refine Pa_r (hG.g h10 366) (Pa_g (Pa_st (fun S15 e15 => ?_)))
  have h15 : S15.2.2.1 = S0.2.2.1 := by rw [e15]; exact h10
  refine Pa_r (hG.g h15 367) (Pa_g (Pa_st (fun S20 e20 => ?_)))
  have h20 : S20.2.2.1 = S0.2.2.1 := by rw [e20]; exact h15
  refine Pa_r (hG.g h20 363) (Pa_g (Pa_g (Pa_st (fun S25 e25 => ?_))))
  have x363 : ∀ j, gAI S25 (G 363) j = if j = k then gAI S (G 363) k + 1 else gAI S (G 363) j := fun j => by
    have y : ∀ z, gAI S20 (G 363) z = gAI S (G 363) z := fun z => by
      rw [e20, hG.o 363 367, e15, hG.o 363 366, e10, gAI_sAJ, e5, hG.o 363 364]
    rw [e25, sI, y, y]
  have x364 : ∀ j, gAI S25 (G 364) j = if j = j0 then key else gAI S (G 364) j := fun j => by
    rw [e25, hG.o 364 363, e20, hG.o 364 367, e15, hG.o 364 366, e10, gAI_sAJ, e5, sI]
  have x365 : ∀ j, gAJ S25 (G 365) j = if j = j0 then d else gAJ S (G 365) j := fun j => by
    rw [e25, gAJ_sAI, e20, gAJ_sAI, e15, gAJ_sAI, e10, sJ, e5, gAJ_sAI]
  have x366 : ∀ j, gAI S25 (G 366) j = if j = j0 then q &&& 1 else gAI S (G 366) j := fun j => by
    rw [e25, hG.o 366 363, e20, hG.o 366 367, e15, sI, e10, gAI_sAJ, e5, hG.o 366 364]
  have x367 : ∀ j, gAI S25 (G 367) j = if j = j0 then 0 else gAI S (G 367) j := fun j => by
    rw [e25, hG.o 367 363, e20, sI, e15, hG.o 367 366, e10, gAI_sAJ, e5, hG.o 367 364]
  have x368 : ∀ j, gAI S25 (G 368) j = gAI S (G 368) j := fun j => by
    rw [e25, hG.o 368 363, e20, hG.o 368 367, e15, hG.o 368 366, e10, gAI_sAJ, e5, hG.o 368 364]
  refine Pa_some ⟨rfl, x363, ⟨?_, ?_, ?_, hq, ?_, Nat.zero_le _, fun i v hv => by cases hv⟩, fun j th hj h => h.cp ?_ ?_ ?_ ?_ (fun i hi => ?_)⟩
  · show gAI S25 (G 364) j0 = _
    rw [x364, if_pos rfl]
  · show gAJ S25 (G 365) j0 = _
    rw [x365, if_pos rfl]
  · show gAI S25 (G 366) j0 = _
    rw [x366, if_pos rfl]
    exact n_and1 hq
  · show gAI S25 (G 367) j0 = _
    rw [x367, if_pos rfl]
    rfl
  · show gAI S25 (G 364) j = _
    rw [x364, if_neg hj]
  · show gAJ S25 (G 365) j = _
    rw [x365, if_neg hj]
  · show gAI S25 (G 366) j = _
    rw [x366, if_neg hj]
  · show gAI S25 (G 367) j = _
    rw [x367, if_neg hj]
  · show gAI S25 (G 368) _ = _
    rw [x368]
theorem gl_loop (hG : MG m G Λ S0) (hk : k < 16) (ep : p = nI k) (hl : l.length < 10) (key : Int32) (d : Int64) {q : Int32} (hq : q = 0 ∨ q = 1) : ∀ (n i : Nat) (S : sSt), i ≤ l.length → S.2.2.1 = S0.2.2.1 → gAI S (G 363) k = nI l.length → (∀ j th, j < i → l[j]? = some th → TR G S (10 * k + j) th) → (∀ j th, i ≤ j → l[j]? = some th → TR G S (10 * k + j + 1) th) →
    Pa (L_X9_give_105 N n S m p d q key (nI (10 * k + i))) (fun r => r.1 = 1 ∧ (∀ j, gAI r.2 (G 363) j = if j = k then nI (l.length + 1) else gAI S (G 363) j) ∧ (∀ j th, (ins l (insP key l i) (key, d, q, []))[j]? = some th → TR G r.2 (10 * k + j) th) ∧ ∀ j th, (∀ i, i < 10 → j ≠ 10 * k + i) → TR G S j th → TR G r.2 j th)
  | 0, _, _, _, _, _, _, _ => Pa_none
  | n + 1, i, S, hi, hS, hn, ha, hb => by
    have e1 : (10 : Int32) * p = nI (10 * k) := e_mul k10 ep
    have stop : insP key l i = i → Pa (B_X9_give_144 N S m p d q key (nI (10 * k + i))) (fun r => r.1 = 1 ∧ (∀ j, gAI r.2 (G 363) j = if j = k then nI (l.length + 1) else gAI S (G 363) j) ∧ (∀ j th, (ins l (insP key l i) (key, d, q, []))[j]? = some th → TR G r.2 (10 * k + j) th) ∧ ∀ j th, (∀ i, i < 10 → j ≠ 10 * k + i) → TR G S j th → TR G r.2 j th) := fun e => by
      refine Pa_mono (gB_val hG hk ep (j0 := 10 * k + i) (by omega) key d hq hS) (fun r hr => ?_)
      obtain ⟨r1, r2, r3, r4⟩ := hr
      refine ⟨r1, fun j => by rw [r2, hn, n_a1], fun j th hj => ?_, fun j th hj h => r4 j th (hj i (by omega)) h⟩
      rw [e, ins_get hi] at hj
      by_cases c1 : j < i
      · rw [if_pos c1] at hj
        exact r4 _ th (by omega) (ha j th c1 hj)
      · rw [if_neg c1] at hj
        by_cases c2 : j = i
        · rw [if_pos c2] at hj
          cases hj
          rw [c2]
          exact r3
        · rw [if_neg c2] at hj
          have h5 := hb (j - 1) th (by omega) hj
          have e5 : 10 * k + (j - 1) + 1 = 10 * k + j := by omega
          rw [e5] at h5
          exact r4 _ th (by omega) h5
    show Pa (Y_X9_give_105 N (L_X9_give_105 N n) S m p d q key (nI (10 * k + i))) _
    unfold Y_X9_give_105
    rw [e1]
    rcases Nat.eq_zero_or_pos i with h0 | h0
    · subst h0
      exact Pa_it (leN (by omega) (by omega) (by omega)) (stop rfl)
    · obtain ⟨i', rfl⟩ : ∃ i', i = i' + 1 := ⟨i - 1, by omega⟩
      have e0 : nI (10 * k + (i' + 1)) - 1 = nI (10 * k + i') := n_s1 (a := 10 * k + (i' + 1)) (by omega)
      have e0' : nI (10 * k + (i' + 1)) + (-1) = nI (10 * k + i') := n_p1 (a := 10 * k + (i' + 1)) (by omega)
      have hq1 : i' < l.length := by omega
      have hlq := List.getElem?_eq_getElem hq1
      refine Pa_if (nleN (by omega) (by omega) (by omega)) (Pa_r (hG.g hS 364) (Pa_g ?_))
      rw [e0, e0', n_cl (by omega), (ha i' _ (by omega) hlq).1]
      by_cases c : (l[i']).1 ≤ key
      · exact Pa_it c (stop (by rw [insP_s hlq, if_pos c]))
      · refine Pa_if c (Pa_bind (mv_val hG (a := 10 * k + i') (b := 10 * k + (i' + 1)) (by omega) (by omega) (by omega) rfl rfl hS) (fun S32 _ h32 => ?_))
        obtain ⟨y1, y2, y3, y4⟩ := h32
        refine Pa_mono (gl_loop hG hk ep hl key d hq n i' S32 (by omega) y1 (by rw [y2]; exact hn) (fun j th hj hh => y4 _ th (by omega) (ha j th (by omega) hh)) (fun j th hj hh => ?_)) (fun r hr => ?_)
        · by_cases cj : j = i'
          · subst cj
            exact y3 th (ha j th (by omega) hh)
          · exact y4 _ th (by omega) (hb j th (by omega) hh)
        · obtain ⟨r1, r2, r3, r4⟩ := hr
          refine ⟨r1, fun j => by rw [r2, y2], ?_, fun j th hj h => r4 j th hj (y4 j th (hj (i' + 1) (by omega)) h)⟩
          rw [insP_s hlq, if_neg c]
          exact r3
theorem tk_loop (hG : MG m G Λ S0) (hk : k < 16) (ep : p = nI k) {g : Nat} (hl : l.length ≤ 10) (hg : g < l.length) : ∀ (n i : Nat) (S : sSt), g ≤ i → i + 1 ≤ l.length → S.2.2.1 = S0.2.2.1 → gAI S (G 363) k = nI (l.length - 1) → (∀ j th, j < i → (l.eraseIdx g)[j]? = some th → TR G S (10 * k + j) th) → (∀ j th, i < j → l[j]? = some th → TR G S (10 * k + j) th) →
    Pa (L_X9_take_70 N n S m p (nI (10 * k + i))) (fun r => r.1 = 1 ∧ (∀ j, gAI r.2 (G 363) j = gAI S (G 363) j) ∧ (∀ j th, (l.eraseIdx g)[j]? = some th → TR G r.2 (10 * k + j) th) ∧ ∀ j th, (∀ i, i < 10 → j ≠ 10 * k + i) → TR G S j th → TR G r.2 j th)
  | 0, _, _, _, _, _, _, _, _ => Pa_none
  | n + 1, i, S, hgi, hi, hS, hn, ha, hb => by
    have eL : (10 : Int32) * p + gAI S (G 363) (Int32.toNatClampNeg p) = nI (10 * k + (l.length - 1)) := e_add (e_mul k10 ep) (by rw [e_clamp ep (by omega)]; exact hn)
    show Pa (Y_X9_take_70 N (L_X9_take_70 N n) S m p (nI (10 * k + i))) _
    unfold Y_X9_take_70
    refine Pa_r (hG.g hS 363) (Pa_g ?_)
    rw [eL]
    by_cases c : i + 1 = l.length
    · refine Pa_it (leN (by omega) (by omega) (by omega)) (Pa_some ⟨rfl, fun _ => rfl, fun j th hj => ha j th ?_ hj, fun _ _ _ h => h⟩)
      have := (List.getElem?_eq_some_iff.mp hj).1
      rw [List.length_eraseIdx, if_pos hg] at this
      omega
    · have ea : nI (10 * k + i) + 1 = nI (10 * k + (i + 1)) := n_a1 _
      refine Pa_if (nleN (by omega) (by omega) (by omega)) ?_
      rw [ea]
      refine Pa_bind (mv_val hG (a := 10 * k + (i + 1)) (b := 10 * k + i) (by omega) (by omega) (by omega) rfl rfl hS) (fun S16 _ h16 => ?_)
      obtain ⟨y1, y2, y3, y4⟩ := h16
      refine Pa_mono (tk_loop hG hk ep hl hg n (i + 1) S16 (by omega) (by omega) y1 (by rw [y2]; exact hn) (fun j th hj hh => ?_) (fun j th hj hh => y4 _ th (by omega) (hb j th (by omega) hh))) (fun r hr => ?_)
      · by_cases cj : j = i
        · subst cj
          refine y3 th (hb (j + 1) th (by omega) ?_)
          rw [List.getElem?_eraseIdx, if_neg (by omega)] at hh
          exact hh
        · exact y4 _ th (by omega) (ha j th (by omega) hh)
      · obtain ⟨r1, r2, r3, r4⟩ := hr
        exact ⟨r1, fun j => by rw [r2, y2], r3, fun j th hj h => r4 j th hj (y4 j th (hj i (by omega)) h)⟩
end
section
variable {m c : Nat} {G : Nat → Nat} {Λ : sLay} {S Z : sSt} {F : aF} {H : aH}
theorem cnd3 {s : Int32} : (s < 0 ∨ (2 : Int32) < s) ↔ (s < 0 ∨ (3 : Int32) ≤ s) := ⟨fun z => z.imp id i_le3.mpr, fun z => z.imp id i_le3.mp⟩
theorem cnd32 {s : Int32} : (s < 0 ∨ (31 : Int32) < s) ↔ (s < 0 ∨ (32 : Int32) ≤ s) := ⟨fun z => z.imp id i_le32.mpr, fun z => z.imp id i_le32.mp⟩
theorem MC.g0 (hS : MC m G Λ Z S) : MC m G Λ Z (sFI S 360 m 0) := hS.wF (f := 360) (rg0 (P := fun B => nB B _) (by decide))
theorem give_r (hS : MC m G Λ Z S) (hc : c ≤ 16) (ec : gFI S 361 m = nI c) (hF : RF G S c F) (hR : RH G S c F H) (p s n : Int32) (d : Int64) {q : Int32} (hq : q = 0 ∨ q = 1) : Pa (F_X9_give Λ.2.2 S m p s n d q) (fun r : Int32 × sSt => r.1 = (aGive c F H p s n d q).1 ∧ RH G r.2 c F (aGive c F H p s n d q).2) := by
  unfold F_X9_give aGive
  refine Pa_b ?_
  have hG : MG m G Λ (sFI S 360 m 0) := hS.g0.1
  have hR1 : RH G (sFI S 360 m 0) c F H := hR
  have ec1 : gFI (sFI S 360 m 0) 361 m = nI c := by rw [gFI_ne (by decide)]; exact ec
  refine Pa_be (isU_val hS.g0 hc ec1 (fun k hk => (hF k hk).1) p) ?_
  cases e : uo c F.1 p with
  | none => exact Pa_it (iU0.mpr rfl) (Pa_some ⟨rfl, hR1⟩)
  | some k =>
    obtain ⟨ep, hk, hT, -⟩ := uo_some e
    obtain ⟨q1, q2, q3⟩ := hR1 k hk hT
    have i1 := e_clamp ep (by omega)
    refine Pa_if (fun z => by have := iU0.mp z; cases this) (Pa_be in_val ?_)
    show Pa _ (fun r : Int32 × sSt => r.1 = (if s < 0 ∨ (3 : Int32) ≤ s then (-2, H) else if n < 0 ∨ (32 : Int32) ≤ n then (-2, H) else match tIx (s * 32 + n) (H k) 0 with
      | some i => (0, up1 H k ((H k).set i (s * 32 + n, d, q, ((H k)[i]?.getD (0, 0, 0, [])).2.2.2)))
      | none => if (H k).length < 10 then (1, up1 H k (ins (H k) (insP (s * 32 + n) (H k) (H k).length) (s * 32 + n, d, q, []))) else (-4, H) : Int32 × aH).1 ∧ RH G r.2 c F (if s < 0 ∨ (3 : Int32) ≤ s then (-2, H) else if n < 0 ∨ (32 : Int32) ≤ n then (-2, H) else match tIx (s * 32 + n) (H k) 0 with
      | some i => (0, up1 H k ((H k).set i (s * 32 + n, d, q, ((H k)[i]?.getD (0, 0, 0, [])).2.2.2)))
      | none => if (H k).length < 10 then (1, up1 H k (ins (H k) (insP (s * 32 + n) (H k) (H k).length) (s * 32 + n, d, q, []))) else (-4, H) : Int32 × aH).2)
    by_cases c1 : s < 0 ∨ (3 : Int32) ≤ s
    · rw [if_pos c1, if_pos (cnd3.mpr c1)]
      exact Pa_it rfl (Pa_some ⟨rfl, hR1⟩)
    rw [if_neg c1, if_neg (fun z => c1 (cnd3.mp z))]
    refine Pa_if (by decide) (Pa_be name_val ?_)
    by_cases c3 : n < 0 ∨ (32 : Int32) ≤ n
    · rw [if_pos c3, if_pos (cnd32.mpr c3)]
      exact Pa_it rfl (Pa_some ⟨rfl, hR1⟩)
    rw [if_neg c3, if_neg (fun z => c3 (cnd32.mp z)), Int32.mul_comm 32 s]
    refine Pa_if (by decide) (Pa_bind (tO_val hG q1 q2 q3 (by omega) ep (s * 32 + n)) (fun v _ hv => ?_))
    subst hv
    have iff1 := oT_n (k := k) (x := tIx (s * 32 + n) (H k) 0) (by omega) (fun i hi => by have := (tIx_0 hi).1; omega)
    cases ei : tIx (s * 32 + n) (H k) 0 with
    | some i =>
      rw [ei] at iff1
      obtain ⟨hil, th, hth, hkey⟩ := tIx_0 ei
      refine Pa_if (fun z => by have := iff1.mp z; cases this) ?_
      show Pa (bnd (gFR (sFI S 360 m 0) 365 m) _) _
      have cl : (oT k (some i)).toNatClampNeg = 10 * k + i := n_cl (by omega)
      rw [cl]
      refine Pa_r (hG.1 365 rfl) (Pa_g (Pa_st (fun S5 e5 => ?_)))
      have h5 : S5.2.2.1 = (sFI S 360 m 0).2.2.1 := by rw [e5]; rfl
      refine Pa_r (hG.g h5 366) (Pa_g (Pa_st (fun S6 e6 => ?_)))
      have x364 : ∀ j, gAI S6 (G 364) j = gAI (sFI S 360 m 0) (G 364) j := fun j => by rw [e6, hG.o 364 366, e5, gAI_sAJ]
      have x363 : ∀ j, gAI S6 (G 363) j = gAI (sFI S 360 m 0) (G 363) j := fun j => by rw [e6, hG.o 363 366, e5, gAI_sAJ]
      have x367 : ∀ j, gAI S6 (G 367) j = gAI (sFI S 360 m 0) (G 367) j := fun j => by rw [e6, hG.o 367 366, e5, gAI_sAJ]
      have x368 : ∀ j, gAI S6 (G 368) j = gAI (sFI S 360 m 0) (G 368) j := fun j => by rw [e6, hG.o 368 366, e5, gAI_sAJ]
      have x365 : ∀ j, gAJ S6 (G 365) j = if j = 10 * k + i then d else gAJ (sFI S 360 m 0) (G 365) j := fun j => by rw [e6, gAJ_sAI, e5, sJ]
      have x366 : ∀ j, gAI S6 (G 366) j = if j = 10 * k + i then q &&& 1 else gAI (sFI S 360 m 0) (G 366) j := fun j => by rw [e6, sI, e5, gAI_sAJ]
      have oth : ∀ j th, j ≠ 10 * k + i → TR G (sFI S 360 m 0) j th → TR G S6 j th := fun j th hj h => h.cp (x364 j) (by rw [x365, if_neg hj]) (by rw [x366, if_neg hj]) (x367 j) (fun z _ => x368 _)
      refine Pa_some ⟨rfl, RH.put hR1 (by rw [List.length_set]; exact q2) (fun j => ?_) (fun j th2 hj => ?_) (fun j th2 hj h => oth j th2 (hj i (by omega)) h)⟩
      · show gAI S6 (G 363) j = _
        rw [x363, List.length_set]
        by_cases cj : j = k
        · rw [if_pos cj, cj]; exact q1
        · rw [if_neg cj]
      · rw [List.getElem?_set] at hj
        by_cases cj : i = j
        · rw [if_pos cj, if_pos hil] at hj
          cases hj
          subst cj
          rw [get_getD hth]
          obtain ⟨y1, y2, y3, y4, y5, y6, y7⟩ := q3 i th hth
          refine ⟨(x364 _).trans (y1.trans hkey), ?_, ?_, hq, (x367 _).trans y5, y6, fun z v hz => (x368 _).trans (y7 z v hz)⟩
          · show gAJ S6 (G 365) _ = d
            rw [x365, if_pos rfl]
          · show gAI S6 (G 366) _ = q
            rw [x366, if_pos rfl]
            exact n_and1 hq
        · rw [if_neg cj] at hj
          exact oth _ th2 (by omega) (q3 j th2 hj)
    | none =>
      rw [ei] at iff1
      refine Pa_it (iff1.mpr rfl) (Pa_r (hG.1 363 rfl) (Pa_g ?_))
      rw [i1, q1]
      show Pa _ (fun r : Int32 × sSt => r.1 = (if (H k).length < 10 then (1, up1 H k (ins (H k) (insP (s * 32 + n) (H k) (H k).length) (s * 32 + n, d, q, []))) else (-4, H) : Int32 × aH).1 ∧ RH G r.2 c F (if (H k).length < 10 then (1, up1 H k (ins (H k) (insP (s * 32 + n) (H k) (H k).length) (s * 32 + n, d, q, []))) else (-4, H) : Int32 × aH).2)
      by_cases c4 : (H k).length < 10
      · rw [if_pos c4]
        refine Pa_if (fun z => by have := (e_eq (x := (H k).length) rfl k10 (by omega) (by omega)).mp z; omega) (Pa_r (hG.1 363 rfl) (Pa_g ?_))
        rw [q1, e_add (e_mul k10 ep) (rfl : nI (H k).length = nI (H k).length)]
        refine Pa_mono (gl_loop (S0 := sFI S 360 m 0) hG (by omega) ep c4 (s * 32 + n) d hq FU (H k).length _ (Nat.le_refl _) rfl q1 (fun j th _ hj => q3 j th hj) (fun j th hj hh => by have := (List.getElem?_eq_some_iff.mp hh).1; omega)) (fun r hr => ?_)
        obtain ⟨r1, r2, r3, r4⟩ := hr
        have hip := insP_le (key := s * 32 + n) (l := H k) (H k).length
        exact ⟨r1, RH.put hR1 (by rw [ins_len hip]; omega) (fun j => by rw [r2, ins_len hip]) r3 r4⟩
      · rw [if_neg c4]
        exact Pa_it ((e_eq (x := (H k).length) rfl k10 (by omega) (by omega)).mpr (by omega)) (Pa_some ⟨rfl, hR1⟩)
theorem take_r (hS : MC m G Λ Z S) (hc : c ≤ 16) (ec : gFI S 361 m = nI c) (hF : RF G S c F) (hR : RH G S c F H) (p s n : Int32) : Pa (F_X9_take Λ.2.2 S m p s n) (fun r : Int32 × sSt => r.1 = (aTake c F H p s n).1 ∧ RH G r.2 c F (aTake c F H p s n).2) := by
  unfold F_X9_take aTake
  refine Pa_b ?_
  have hG : MG m G Λ (sFI S 360 m 0) := hS.g0.1
  have hR1 : RH G (sFI S 360 m 0) c F H := hR
  have ec1 : gFI (sFI S 360 m 0) 361 m = nI c := by rw [gFI_ne (by decide)]; exact ec
  refine Pa_be (isU_val hS.g0 hc ec1 (fun k hk => (hF k hk).1) p) ?_
  cases e : uo c F.1 p with
  | none => exact Pa_it (iU0.mpr rfl) (Pa_some ⟨rfl, hR1⟩)
  | some k =>
    obtain ⟨ep, hk, hT, -⟩ := uo_some e
    obtain ⟨q1, q2, q3⟩ := hR1 k hk hT
    have i1 := e_clamp ep (by omega)
    refine Pa_if (fun z => by have := iU0.mp z; cases this) (Pa_be in_val ?_)
    show Pa _ (fun r : Int32 × sSt => r.1 = (if s < 0 ∨ (3 : Int32) ≤ s then (-2, H) else if n < 0 ∨ (32 : Int32) ≤ n then (-2, H) else match tIx (s * 32 + n) (H k) 0 with
      | some i => (1, up1 H k ((H k).eraseIdx i))
      | none => (-1, H) : Int32 × aH).1 ∧ RH G r.2 c F (if s < 0 ∨ (3 : Int32) ≤ s then (-2, H) else if n < 0 ∨ (32 : Int32) ≤ n then (-2, H) else match tIx (s * 32 + n) (H k) 0 with
      | some i => (1, up1 H k ((H k).eraseIdx i))
      | none => (-1, H) : Int32 × aH).2)
    by_cases c1 : s < 0 ∨ (3 : Int32) ≤ s
    · rw [if_pos c1, if_pos (cnd3.mpr c1)]
      exact Pa_it rfl (Pa_some ⟨rfl, hR1⟩)
    rw [if_neg c1, if_neg (fun z => c1 (cnd3.mp z))]
    refine Pa_if (by decide) (Pa_be name_val ?_)
    by_cases c3 : n < 0 ∨ (32 : Int32) ≤ n
    · rw [if_pos c3, if_pos (cnd32.mpr c3)]
      exact Pa_it rfl (Pa_some ⟨rfl, hR1⟩)
    rw [if_neg c3, if_neg (fun z => c3 (cnd32.mp z)), Int32.mul_comm 32 s]
    refine Pa_if (by decide) (Pa_bind (tO_val hG q1 q2 q3 (by omega) ep (s * 32 + n)) (fun v _ hv => ?_))
    subst hv
    have iff1 := oT_n (k := k) (x := tIx (s * 32 + n) (H k) 0) (by omega) (fun i hi => by have := (tIx_0 hi).1; omega)
    cases ei : tIx (s * 32 + n) (H k) 0 with
    | none =>
      rw [ei] at iff1
      exact Pa_it (iff1.mpr rfl) (Pa_some ⟨rfl, hR1⟩)
    | some i =>
      rw [ei] at iff1
      obtain ⟨hil, th, hth, hkey⟩ := tIx_0 ei
      refine Pa_if (fun z => by have := iff1.mp z; cases this) (Pa_r (hG.1 363 rfl) (Pa_g (Pa_g (Pa_st (fun S5 e5 => ?_)))))
      rw [i1, q1, n_s1 (by omega)] at e5
      have h5 : S5.2.2.1 = (sFI S 360 m 0).2.2.1 := by rw [e5]; rfl
      have x363 : ∀ j, gAI S5 (G 363) j = if j = k then nI ((H k).length - 1) else gAI (sFI S 360 m 0) (G 363) j := fun j => by rw [e5, sI]
      have oth : ∀ j th, TR G (sFI S 360 m 0) j th → TR G S5 j th := fun j th h => h.cp (by rw [e5, hG.o 364 363]) (by rw [e5, gAJ_sAI]) (by rw [e5, hG.o 366 363]) (by rw [e5, hG.o 367 363]) (fun z _ => by rw [e5, hG.o 368 363])
      refine Pa_mono (tk_loop (S0 := sFI S 360 m 0) hG (by omega) ep q2 hil FU i S5 (Nat.le_refl i) (by omega) h5 (by rw [x363, if_pos rfl]) (fun j th2 hj hh => ?_) (fun j th2 hj hh => oth _ th2 (q3 j th2 hh))) (fun r hr => ?_)
      · rw [List.getElem?_eraseIdx, if_pos hj] at hh
        exact oth _ th2 (q3 j th2 hh)
      · obtain ⟨r1, r2, r3, r4⟩ := hr
        refine ⟨r1, RH.put hR1 (by rw [List.length_eraseIdx, if_pos hil]; omega) (fun j => ?_) r3 (fun j th2 hj h => r4 j th2 hj (oth j th2 h))⟩
        rw [r2, x363, List.length_eraseIdx, if_pos hil]
theorem build_r (hS : MC m G Λ Z S) (hc : c ≤ 16) (ec : gFI S 361 m = nI c) (hF : RF G S c F) (hR : RH G S c F H) (p n d : Int32) : Pa (F_X9_build Λ.2.2 S m p n d) (fun r : Int32 × sSt => r.1 = (aBuild c F H p n d).1 ∧ RH G r.2 c F (aBuild c F H p n d).2) := by
  unfold F_X9_build aBuild
  refine Pa_b ?_
  have hG : MG m G Λ (sFI S 360 m 0) := hS.g0.1
  have hR1 : RH G (sFI S 360 m 0) c F H := hR
  have ec1 : gFI (sFI S 360 m 0) 361 m = nI c := by rw [gFI_ne (by decide)]; exact ec
  refine Pa_be (isU_val hS.g0 hc ec1 (fun k hk => (hF k hk).1) p) ?_
  cases e : uo c F.1 p with
  | none => exact Pa_it (iU0.mpr rfl) (Pa_some ⟨rfl, hR1⟩)
  | some k =>
    obtain ⟨ep, hk, hT, -⟩ := uo_some e
    obtain ⟨q1, q2, q3⟩ := hR1 k hk hT
    refine Pa_if (fun z => by have := iU0.mp z; cases this) (Pa_be name_val ?_)
    show Pa _ (fun r : Int32 × sSt => r.1 = (if n < 0 ∨ (32 : Int32) ≤ n then (-2, H) else if d < 0 ∨ (32 : Int32) ≤ d then (-2, H) else match tIx (32 + n) (H k) 0 with
      | none => (-3, H)
      | some i => match (H k)[i]? with
        | none => (-3, H)
        | some th => if th.2.2.2.length < 3 then (nI (th.2.2.2.length + 1), up1 H k ((H k).set i (th.1, th.2.1, th.2.2.1, th.2.2.2 ++ [d]))) else (-4, H) : Int32 × aH).1 ∧ RH G r.2 c F (if n < 0 ∨ (32 : Int32) ≤ n then (-2, H) else if d < 0 ∨ (32 : Int32) ≤ d then (-2, H) else match tIx (32 + n) (H k) 0 with
      | none => (-3, H)
      | some i => match (H k)[i]? with
        | none => (-3, H)
        | some th => if th.2.2.2.length < 3 then (nI (th.2.2.2.length + 1), up1 H k ((H k).set i (th.1, th.2.1, th.2.2.1, th.2.2.2 ++ [d]))) else (-4, H) : Int32 × aH).2)
    by_cases c1 : n < 0 ∨ (32 : Int32) ≤ n
    · rw [if_pos c1, if_pos (cnd32.mpr c1)]
      exact Pa_it rfl (Pa_some ⟨rfl, hR1⟩)
    rw [if_neg c1, if_neg (fun z => c1 (cnd32.mp z))]
    refine Pa_if (by decide) (Pa_be name_val ?_)
    by_cases c3 : d < 0 ∨ (32 : Int32) ≤ d
    · rw [if_pos c3, if_pos (cnd32.mpr c3)]
      exact Pa_it rfl (Pa_some ⟨rfl, hR1⟩)
    rw [if_neg c3, if_neg (fun z => c3 (cnd32.mp z))]
    refine Pa_if (by decide) (Pa_bind (tO_val hG q1 q2 q3 (by omega) ep (32 + n)) (fun v _ hv => ?_))
    subst hv
    have iff1 := oT_n (k := k) (x := tIx (32 + n) (H k) 0) (by omega) (fun i hi => by have := (tIx_0 hi).1; omega)
    cases ei : tIx (32 + n) (H k) 0 with
    | none =>
      rw [ei] at iff1
      exact Pa_it (iff1.mpr rfl) (Pa_some ⟨rfl, hR1⟩)
    | some i =>
      rw [ei] at iff1
      obtain ⟨hil, th, hth, hkey⟩ := tIx_0 ei
      obtain ⟨y1, y2, y3, y4, y5, y6, y7⟩ := q3 i th hth
      have eo : oT k (some i) = nI (10 * k + i) := rfl
      have cl : (oT k (some i)).toNatClampNeg = 10 * k + i := n_cl (by omega)
      refine Pa_if (fun z => by have := iff1.mp z; cases this) (Pa_r (hG.1 367 rfl) (Pa_g ?_))
      rw [cl, y5]
      show Pa _ (fun r : Int32 × sSt => r.1 = (match (H k)[i]? with
        | none => (-3, H)
        | some th => if th.2.2.2.length < 3 then (nI (th.2.2.2.length + 1), up1 H k ((H k).set i (th.1, th.2.1, th.2.2.1, th.2.2.2 ++ [d]))) else (-4, H) : Int32 × aH).1 ∧ RH G r.2 c F (match (H k)[i]? with
        | none => (-3, H)
        | some th => if th.2.2.2.length < 3 then (nI (th.2.2.2.length + 1), up1 H k ((H k).set i (th.1, th.2.1, th.2.2.1, th.2.2.2 ++ [d]))) else (-4, H) : Int32 × aH).2)
      rw [hth]
      show Pa _ (fun r : Int32 × sSt => r.1 = (if th.2.2.2.length < 3 then (nI (th.2.2.2.length + 1), up1 H k ((H k).set i (th.1, th.2.1, th.2.2.1, th.2.2.2 ++ [d]))) else (-4, H) : Int32 × aH).1 ∧ RH G r.2 c F (if th.2.2.2.length < 3 then (nI (th.2.2.2.length + 1), up1 H k ((H k).set i (th.1, th.2.1, th.2.2.1, th.2.2.2 ++ [d]))) else (-4, H) : Int32 × aH).2)
      by_cases c5 : th.2.2.2.length < 3
      · rw [if_pos c5]
        refine Pa_if (fun z => by have := (e_eq (x := th.2.2.2.length) rfl k3 (by omega) (by omega)).mp z; omega) (Pa_m (hG.1 368 rfl) (Pa_r (hG.1 367 rfl) (Pa_g (Pa_bs ?_))))
        have ej : (3 : Int32) * oT k (some i) + nI th.2.2.2.length = nI (3 * (10 * k + i) + th.2.2.2.length) := e_add (e_mul k3 eo) rfl
        rw [y5, ej, n_cl (by omega)]
        refine Pa_g (Pa_st (fun S5 e5 => ?_))
        have h5 : S5.2.2.1 = (sFI S 360 m 0).2.2.1 := by rw [e5]; rfl
        refine Pa_r (hG.g h5 367) (Pa_g (Pa_g (Pa_st (fun S6 e6 => ?_))))
        have h6 : S6.2.2.1 = (sFI S 360 m 0).2.2.1 := by rw [e6]; exact h5
        have e57 : ∀ j, gAI S5 (G 367) j = gAI (sFI S 360 m 0) (G 367) j := fun j => by rw [e5, hG.o 367 368]
        rw [e57, y5, n_a1] at e6
        refine Pa_r (hG.g h6 367) (Pa_g (Pa_some ⟨?_, ?_⟩))
        · show gAI S6 (G 367) (10 * k + i) = _
          rw [e6, sI, if_pos rfl]
        · have x364 : ∀ j, gAI S6 (G 364) j = gAI (sFI S 360 m 0) (G 364) j := fun j => by rw [e6, hG.o 364 367, e5, hG.o 364 368]
          have x363 : ∀ j, gAI S6 (G 363) j = gAI (sFI S 360 m 0) (G 363) j := fun j => by rw [e6, hG.o 363 367, e5, hG.o 363 368]
          have x366 : ∀ j, gAI S6 (G 366) j = gAI (sFI S 360 m 0) (G 366) j := fun j => by rw [e6, hG.o 366 367, e5, hG.o 366 368]
          have x365 : ∀ j, gAJ S6 (G 365) j = gAJ (sFI S 360 m 0) (G 365) j := fun j => by rw [e6, gAJ_sAI, e5, gAJ_sAI]
          have x367 : ∀ j, gAI S6 (G 367) j = if j = 10 * k + i then nI (th.2.2.2.length + 1) else gAI (sFI S 360 m 0) (G 367) j := fun j => by rw [e6, sI, e57]
          have x368 : ∀ j, gAI S6 (G 368) j = if j = 3 * (10 * k + i) + th.2.2.2.length then d else gAI (sFI S 360 m 0) (G 368) j := fun j => by rw [e6, hG.o 368 367, e5, sI]
          have oth : ∀ j th, j ≠ 10 * k + i → TR G (sFI S 360 m 0) j th → TR G S6 j th := fun j th hj h => h.cp (x364 j) (x365 j) (x366 j) (by rw [x367, if_neg hj]) (fun z hz => by rw [x368, if_neg (by omega)])
          refine RH.put hR1 (by rw [List.length_set]; exact q2) (fun j => ?_) (fun j th2 hj => ?_) (fun j th2 hj h => oth j th2 (hj i (by omega)) h)
          · show gAI S6 (G 363) j = _
            rw [x363, List.length_set]
            by_cases cj : j = k
            · rw [if_pos cj, cj]; exact q1
            · rw [if_neg cj]
          · rw [List.getElem?_set] at hj
            by_cases cj : i = j
            · rw [if_pos cj, if_pos hil] at hj
              cases hj
              subst cj
              refine ⟨(x364 _).trans y1, (x365 _).trans y2, (x366 _).trans y3, y4, ?_, ?_, fun z v hz => ?_⟩
              · show gAI S6 (G 367) (10 * k + i) = nI (th.2.2.2 ++ [d]).length
                rw [x367, if_pos rfl, List.length_append, List.length_singleton]
              · show (th.2.2.2 ++ [d]).length ≤ 3
                rw [List.length_append, List.length_singleton]
                omega
              · have hz : (th.2.2.2 ++ [d])[z]? = some v := hz
                show gAI S6 (G 368) (3 * (10 * k + i) + z) = v
                rw [x368]
                by_cases cz : z = th.2.2.2.length
                · rw [if_pos (by rw [cz])]
                  rw [cz, List.getElem?_append_right (Nat.le_refl _), Nat.sub_self] at hz
                  cases hz
                  rfl
                · rw [if_neg (by omega)]
                  have hzl := (List.getElem?_eq_some_iff.mp hz).1
                  rw [List.length_append, List.length_singleton] at hzl
                  rw [List.getElem?_append_left (by omega)] at hz
                  exact y7 z v hz
            · rw [if_neg cj] at hj
              exact oth _ th2 (by omega) (q3 j th2 hj)
      · rw [if_neg c5]
        exact Pa_it ((e_eq (x := th.2.2.2.length) rfl k3 (by omega) (by omega)).mpr (by omega)) (Pa_some ⟨rfl, hR1⟩)
end
