/-! Why a unit is needed: two rows compared, part by part. -/
/-- a kept state: units ever, flags, uses, ways, things -/
abbrev aS : Type := Nat × aF × aU × aU × aH
/-- how often each unit was made, and the state at the last time -/
abbrev aK : Type := (Nat → Int32) × (Nat → aS)
noncomputable def sR (s : aS) (k : Nat) : List Int64 := rwR s.1 s.2.1 s.2.2.1 s.2.2.2.1 s.2.2.2.2 k
def szS (s : aS) (k : Nat) : Prop := (s.2.2.2.2 k).length ≤ 10 ∧ (∀ th, th ∈ s.2.2.2.2 k → th.2.2.2.length ≤ 3) ∧ (s.2.2.1 k).length ≤ 12 ∧ (s.2.2.2.1 k).length ≤ 6
def sN (s : aS) (k : Nat) : Nat := (s.2.2.1 k).length
/-- where the parts of a row end -/
noncomputable def sQ (s : aS) (k : Nat) : Nat → Nat
  | 0 => (rwA s.2.2.2.2 k).length
  | 1 => (rwA s.2.2.2.2 k).length + (rwB s.2.2.2.1 k).length
  | 2 => (rwA s.2.2.2.2 k).length + (rwB s.2.2.2.1 k).length + (rwC s.2.2.1 s.2.2.2.1 s.2.2.2.2 k).length
  | 3 => (rwA s.2.2.2.2 k).length + (rwB s.2.2.2.1 k).length + (rwC s.2.2.1 s.2.2.2.1 s.2.2.2.2 k).length + (rwD s.2.2.2.1 s.2.2.2.2 k).length
  | 4 => (rwP s.1 s.2.1 s.2.2.1 s.2.2.2.1 s.2.2.2.2 k).length
  | _ => (rwR s.1 s.2.1 s.2.2.1 s.2.2.2.1 s.2.2.2.2 k).length
noncomputable def sP (s : aS) (k : Nat) : List Nat := pE s.1 s.2.1 s.2.2.1 s.2.2.2.1 s.2.2.2.2 k ++ [(rwR s.1 s.2.1 s.2.2.1 s.2.2.2.1 s.2.2.2.2 k).length]
theorem sP_q {s : aS} {k i : Nat} (hi : i < 6) : (sP s k)[i]? = some (sQ s k i) := by
  have : i = 0 ∨ i = 1 ∨ i = 2 ∨ i = 3 ∨ i = 4 ∨ i = 5 := by omega
  rcases this with rfl | rfl | rfl | rfl | rfl | rfl <;> rfl
theorem tj_inj {a b : Int32} (h : tj a = tj b) : a = b := by
  have e := congrArg Int64.toInt h
  rw [Int32.toInt_toInt64, Int32.toInt_toInt64] at e
  exact Int32.toInt_inj.mp e
theorem tjn_inj {a b : Nat} (ha : a < 2147483648) (hb : b < 2147483648) (h : tj (nI a) = tj (nI b)) : a = b := (nI_eq ha hb).mp (tj_inj h)
/-- as many longs alike, from a place on -/
def smB (X Y : List Int64) : Nat → Nat → Bool
  | _, 0 => true
  | i, n + 1 => decide (X[i]? = Y[i]?) && smB X Y (i + 1) n
theorem smB_s {X Y : List Int64} {i n : Nat} : smB X Y i (n + 1) = (decide (X[i]? = Y[i]?) && smB X Y (i + 1) n) := rfl
theorem smB_i {X Y : List Int64} : ∀ {n i : Nat}, smB X Y i n = true ↔ ∀ j, i ≤ j → j < i + n → X[j]? = Y[j]?
  | 0, i => ⟨fun _ j h1 h2 => absurd h2 (by omega), fun _ => rfl⟩
  | n + 1, i => by
    rw [smB_s, Bool.and_eq_true, decide_eq_true_iff, smB_i]
    refine ⟨fun h j h1 h2 => ?_, fun h => ⟨h i (Nat.le_refl i) (by omega), fun j h1 h2 => h j (by omega) (by omega)⟩⟩
    by_cases c : j = i
    · rw [c]; exact h.1
    · exact h.2 j (by omega) (by omega)
/-- of as many uses the first two longs -/
def unB (X Y : List Int64) : Nat → Nat → Bool
  | _, 0 => true
  | p, n + 1 => smB X Y p 2 && unB X Y (p + 4) n
theorem unB_s {X Y : List Int64} {p n : Nat} : unB X Y p (n + 1) = (smB X Y p 2 && unB X Y (p + 4) n) := rfl
/-- what was given, its way and uses are the same -/
def owB (X Y : List Int64) (q q' : Nat → Nat) (n n' : Nat) : Prop := q 1 = q' 1 ∧ smB X Y 0 (q 1) = true ∧ n = n' ∧ unB X Y (q 1 + 1) n = true
def fiB (X Y : List Int64) (q q' : Nat → Nat) : Prop := q 3 = q' 3 ∧ smB X Y (q 1) (q 3 - q 1) = true
def maB (X Y : List Int64) (q q' : Nat → Nat) : Prop := q 4 = q' 4 ∧ smB X Y (q 3) (q 4 - q 3) = true
def geB (X Y : List Int64) (q q' : Nat → Nat) : Prop := q 5 = q' 5 ∧ smB X Y (q 4) (q 5 - q 4) = true
noncomputable def aWh (X Y : List Int64) (q q' : Nat → Nat) (n n' : Nat) : Int32 := @ite _ (owB X Y q q' n n') (Classical.propDecidable _) (@ite _ (fiB X Y q q') (Classical.propDecidable _) (@ite _ (maB X Y q q') (Classical.propDecidable _) (@ite _ (geB X Y q q') (Classical.propDecidable _) 0 5) 4) 3) 2
section
variable {X Y : List Int64} {q q' : Nat → Nat} {n n' : Nat}
theorem aWh_2 (h : ¬ owB X Y q q' n n') : aWh X Y q q' n n' = 2 := @if_neg _ (Classical.propDecidable _) h _ _ _
theorem aWh_3 (h : owB X Y q q' n n') (h3 : ¬ fiB X Y q q') : aWh X Y q q' n n' = 3 := (@if_pos _ (Classical.propDecidable _) h _ _ _).trans (@if_neg _ (Classical.propDecidable _) h3 _ _ _)
theorem aWh_4 (h : owB X Y q q' n n') (h3 : fiB X Y q q') (h4 : ¬ maB X Y q q') : aWh X Y q q' n n' = 4 := (@if_pos _ (Classical.propDecidable _) h _ _ _).trans ((@if_pos _ (Classical.propDecidable _) h3 _ _ _).trans (@if_neg _ (Classical.propDecidable _) h4 _ _ _))
theorem aWh_5 (h : owB X Y q q' n n') (h3 : fiB X Y q q') (h4 : maB X Y q q') (h5 : ¬ geB X Y q q') : aWh X Y q q' n n' = 5 := (@if_pos _ (Classical.propDecidable _) h _ _ _).trans ((@if_pos _ (Classical.propDecidable _) h3 _ _ _).trans ((@if_pos _ (Classical.propDecidable _) h4 _ _ _).trans (@if_neg _ (Classical.propDecidable _) h5 _ _ _)))
theorem aWh_0 (h : owB X Y q q' n n') (h3 : fiB X Y q q') (h4 : maB X Y q q') (h5 : geB X Y q q') : aWh X Y q q' n n' = 0 := (@if_pos _ (Classical.propDecidable _) h _ _ _).trans ((@if_pos _ (Classical.propDecidable _) h3 _ _ _).trans ((@if_pos _ (Classical.propDecidable _) h4 _ _ _).trans (@if_pos _ (Classical.propDecidable _) h5 _ _ _)))
end
/-- rows of things tell how long they are -/
theorem ths_dec : ∀ {l l' : List aT} {r r' : List Int64}, l.length = l'.length → (∀ th, th ∈ l → th.2.2.2.length ≤ 3) → (∀ th, th ∈ l' → th.2.2.2.length ≤ 3) → thsJ l ++ r = thsJ l' ++ r' → (thsJ l).length = (thsJ l').length ∧ (blL l).length = (blL l').length
  | [], [], _, _, _, _, _, _ => ⟨rfl, rfl⟩
  | [], _ :: _, _, _, h, _, _, _ => by cases h
  | _ :: _, [], _, _, h, _, _, _ => by cases h
  | th :: l, th' :: l', r, r', h, b, b', e => by
    have b1 := b th List.mem_cons_self
    have b2 := b' th' List.mem_cons_self
    have e : tj (srt th.1) :: (tj (nmo th.1) :: (th.2.1 :: ((if th.2.2.1 = 0 then 0 else 1) :: (tj (nI th.2.2.2.length) :: (th.2.2.2.map tj ++ (thsJ l ++ r)))))) = tj (srt th'.1) :: (tj (nmo th'.1) :: (th'.2.1 :: ((if th'.2.2.1 = 0 then 0 else 1) :: (tj (nI th'.2.2.2.length) :: (th'.2.2.2.map tj ++ (thsJ l' ++ r')))))) := by
      have z := e
      rw [show thsJ (th :: l) = thJ th ++ thsJ l from rfl, show thsJ (th' :: l') = thJ th' ++ thsJ l' from rfl] at z
      unfold thJ itJ at z
      simp only [List.append_assoc, List.cons_append, List.nil_append] at z
      exact z
    have e5 := List.tail_eq_of_cons_eq (List.tail_eq_of_cons_eq (List.tail_eq_of_cons_eq (List.tail_eq_of_cons_eq e)))
    have en := tjn_inj (by omega) (by omega) (List.head_eq_of_cons_eq e5)
    have e6 := List.tail_eq_of_cons_eq e5
    obtain ⟨-, e7⟩ := List.append_inj e6 (by rw [List.length_map, List.length_map]; exact en)
    obtain ⟨i1, i2⟩ := ths_dec (Nat.succ.inj h) (fun t ht => b t (List.mem_cons_of_mem _ ht)) (fun t ht => b' t (List.mem_cons_of_mem _ ht)) e7
    refine ⟨?_, ?_⟩
    · rw [show thsJ (th :: l) = thJ th ++ thsJ l from rfl, show thsJ (th' :: l') = thJ th' ++ thsJ l' from rfl, List.length_append, List.length_append, i1]
      unfold thJ
      rw [List.length_append, List.length_append, itJ_len, itJ_len, en]
      simp only [List.length_cons, List.length_nil]
    · rw [blL_c, blL_c, List.length_append, List.length_append, List.length_map, List.length_map, en, i2]
theorem own_dec {W W' : aU} {H H' : aH} {k : Nat} (h1 : (H k).length ≤ 10) (h1' : (H' k).length ≤ 10) (b : ∀ th, th ∈ H k → th.2.2.2.length ≤ 3) (b' : ∀ th, th ∈ H' k → th.2.2.2.length ≤ 3) (e : rwA H k ++ rwB W k = rwA H' k ++ rwB W' k) : (rwA H k).length = (rwA H' k).length ∧ (blL (H k)).length = (blL (H' k)).length := by
  unfold rwA at e ⊢
  rw [List.cons_append, List.cons_append] at e
  have e1 := tjn_inj (by omega) (by omega) (List.head_eq_of_cons_eq e)
  obtain ⟨i1, i2⟩ := ths_dec e1 b b' (List.tail_eq_of_cons_eq e)
  exact ⟨by rw [List.length_cons, List.length_cons, i1], i2⟩
section
variable {s s' : aS} {k : Nat}
theorem sR_cut : sR s k = (rwA s.2.2.2.2 k ++ rwB s.2.2.2.1 k) ++ (rwC s.2.2.1 s.2.2.2.1 s.2.2.2.2 k ++ (rwD s.2.2.2.1 s.2.2.2.2 k ++ (rwE s.1 s.2.1 s.2.2.2.2 k ++ rwM s.1 s.2.1 s.2.2.1 s.2.2.2.1 s.2.2.2.2 k))) := by
  unfold sR rwR rwP
  simp only [List.append_assoc]
theorem sQ_1 : sQ s k 1 = (rwA s.2.2.2.2 k ++ rwB s.2.2.2.1 k).length := List.length_append.symm
theorem sQ_C : (rwC s.2.2.1 s.2.2.2.1 s.2.2.2.2 k).length = 1 + 4 * sN s k := by
  unfold rwC sN
  rw [List.length_cons, usJ_len]
  omega
theorem sQ_D : (rwD s.2.2.2.1 s.2.2.2.2 k).length = 2 * (blL (s.2.2.2.2 k)).length := by
  unfold rwD
  exact blJ_len
theorem sQ_2 : sQ s k 2 = sQ s k 1 + 1 + 4 * sN s k := by
  show sQ s k 1 + (rwC s.2.2.1 s.2.2.2.1 s.2.2.2.2 k).length = _
  rw [sQ_C]
  omega
theorem sQ_3 : sQ s k 3 = sQ s k 2 + 2 * (blL (s.2.2.2.2 k)).length := by
  show sQ s k 2 + (rwD s.2.2.2.1 s.2.2.2.2 k).length = _
  rw [sQ_D]
theorem sQ_4 : sQ s k 4 = sQ s k 3 + (rwE s.1 s.2.1 s.2.2.2.2 k).length := by
  show (rwP s.1 s.2.1 s.2.2.1 s.2.2.2.1 s.2.2.2.2 k).length = (rwA s.2.2.2.2 k).length + (rwB s.2.2.2.1 k).length + (rwC s.2.2.1 s.2.2.2.1 s.2.2.2.2 k).length + (rwD s.2.2.2.1 s.2.2.2.2 k).length + _
  unfold rwP
  rw [List.length_append, List.length_append, List.length_append, List.length_append]
  omega
theorem sQ_5 : sQ s k 5 = sQ s k 4 + (rwM s.1 s.2.1 s.2.2.1 s.2.2.2.1 s.2.2.2.2 k).length := by
  show (rwR s.1 s.2.1 s.2.2.1 s.2.2.2.1 s.2.2.2.2 k).length = (rwP s.1 s.2.1 s.2.2.1 s.2.2.2.1 s.2.2.2.2 k).length + _
  unfold rwR
  rw [List.length_append]
theorem sQ_len : sQ s k 5 = (sR s k).length := rfl
theorem sR_at {i : Nat} (hi : i < sQ s k 1) : (rwA s.2.2.2.2 k ++ rwB s.2.2.2.1 k)[i]? = (sR s k)[i]? := by
  rw [sR_cut]
  exact (List.getElem?_append_left (by rw [← sQ_1]; exact hi)).symm
theorem sR_n : (sR s k)[sQ s k 1]? = some (tj (nI (sN s k))) := by
  rw [sR_cut, sQ_1, List.getElem?_append_right (Nat.le_refl _), Nat.sub_self]
  rfl
/-- what both ways ask of the parts that are a unit's own is the same -/
theorem ow_iff (h : szS s k) (h' : szS s' k) : owB (sR s k) (sR s' k) (sQ s k) (sQ s' k) (sN s k) (sN s' k) ↔ ((∀ i, i < 4 → sQ s k i = sQ s' k i) ∧ smB (sR s k) (sR s' k) 0 (sQ s k 1 + 1) = true ∧ unB (sR s k) (sR s' k) (sQ s k 1 + 1) (sN s k) = true) := by
  unfold owB
  constructor
  · rintro ⟨e1, e2, e3, e4⟩
    rw [smB_i] at e2
    have eAB : rwA s.2.2.2.2 k ++ rwB s.2.2.2.1 k = rwA s'.2.2.2.2 k ++ rwB s'.2.2.2.1 k := by
      refine List.ext_getElem? (fun i => ?_)
      by_cases c : i < sQ s k 1
      · rw [sR_at c, sR_at (by rw [← e1]; exact c)]
        exact e2 i (Nat.zero_le _) (by omega)
      · rw [List.getElem?_eq_none (by rw [← sQ_1]; omega), List.getElem?_eq_none (by rw [← sQ_1]; omega)]
    obtain ⟨d1, d2⟩ := own_dec h.1 h'.1 h.2.1 h'.2.1 eAB
    have e5 : sQ s k 2 = sQ s' k 2 := by rw [sQ_2, sQ_2, e1, e3]
    refine ⟨fun i hi => ?_, smB_i.mpr (fun j _ hj => ?_), e4⟩
    · have : i = 0 ∨ i = 1 ∨ i = 2 ∨ i = 3 := by omega
      rcases this with rfl | rfl | rfl | rfl
      · exact d1
      · exact e1
      · exact e5
      · rw [sQ_3, sQ_3, e5, d2]
    · by_cases c : j = sQ s k 1
      · rw [c, sR_n, e1, sR_n, e3]
      · exact e2 j (Nat.zero_le _) (by omega)
  · rintro ⟨e1, e2, e3⟩
    rw [smB_i] at e2
    have q1 := e1 1 (by decide)
    have q2 := e1 2 (by decide)
    rw [sQ_2, sQ_2, q1] at q2
    exact ⟨q1, smB_i.mpr (fun j _ hj => e2 j (Nat.zero_le _) (by omega)), by omega, e3⟩
end
/-- why a unit is needed; 0: it is not -/
noncomputable def aWhy (K : aK) (s : aS) (k : Nat) : Int32 := if K.1 k = 0 then 1 else aWh (sR s k) (sR (K.2 k) k) (sQ s k) (sQ (K.2 k) k) (sN s k) (sN (K.2 k) k)
theorem aWhy_1 {K : aK} {s : aS} {k : Nat} (h : K.1 k = 0) : aWhy K s k = 1 := if_pos h
theorem aWhy_n {K : aK} {s : aS} {k : Nat} (h : K.1 k ≠ 0) : aWhy K s k = aWh (sR s k) (sR (K.2 k) k) (sQ s k) (sQ (K.2 k) k) (sN s k) (sN (K.2 k) k) := if_neg h
