/-! The class: rows compared; what a row's writing leaves. -/
/-- where the parts of a row end, of a kept state -/
abbrev ENs (S : sSt) (r : Nat) (s : aS) (k : Nat) : Prop := EN S r s.1 s.2.1 s.2.2.1 s.2.2.2.1 s.2.2.2.2 k
theorem Pa_an {β γ : Type} {P : γ → Prop} {x : Option β} {f : β → Option γ} (k : ∀ v, x = some v → Pa (f v) P) : Pa (Option.bind x f) P := Pa_bind (Q := fun _ => True) (fun _ _ => trivial) (fun v e _ => k v e)
section
variable {N : Nat → Nat} {S : sSt} {r la r' la' : Nat} {X Y : List Int64}
theorem sm_loop (h : RJ N S r la X) (h' : RJ N S r' la' Y) : ∀ (n i d : Nat) (e : Int32), e = nI (i + d) → i + d ≤ X.length → i + d ≤ Y.length → Pa (L_X3_isSame_3 N S n r (some r') e (nI i)) (fun q => (smB X Y i d = true ∧ q = 1) ∨ (smB X Y i d = false ∧ q = 0))
  | 0, _, _, _, _, _, _ => Pa_none
  | n + 1, i, d, e, he, h1, h2 => by
    have h680 := h.2.2.2.1
    show Pa (Y_X3_isSame_3 N S (L_X3_isSame_3 N S n) r (some r') e (nI i)) _
    unfold Y_X3_isSame_3
    cases d with
    | zero => exact Pa_it (by rw [he]; exact leN (by omega) (by omega) (by omega)) (Pa_some (Or.inl ⟨rfl, rfl⟩))
    | succ d =>
      have l1 : i < X.length := by omega
      have l2 : i < Y.length := by omega
      refine Pa_if (by rw [he]; exact nleN (by omega) (by omega) (by omega)) (Pa_be (atJ h l1) (Pa_bs (Pa_be (atJ h' l2) ?_)))
      by_cases c : X[i] = Y[i]
      · have es : smB X Y i (d + 1) = smB X Y (i + 1) d := by
          rw [smB_s, decide_eq_true (p := X[i]? = Y[i]?) (by rw [List.getElem?_eq_getElem l1, List.getElem?_eq_getElem l2, c]), Bool.true_and]
        rw [es, n_a1]
        exact Pa_it ((lg_cmp_eq _ _).mpr c) (sm_loop h h' n (i + 1) d e (by rw [he]; congr 1; omega) (by omega) (by omega))
      · have es : smB X Y i (d + 1) = false := by
          rw [smB_s, decide_eq_false (p := X[i]? = Y[i]?) (fun z => c (by rw [List.getElem?_eq_getElem l1, List.getElem?_eq_getElem l2] at z; exact Option.some.inj z)), Bool.false_and]
        exact Pa_if (fun z => c ((lg_cmp_eq _ _).mp z)) (Pa_some (Or.inr ⟨es, rfl⟩))
theorem sm_val (h : RJ N S r la X) (h' : RJ N S r' la' Y) {i e : Nat} (hi : i ≤ e) (h1 : e ≤ X.length) (h2 : e ≤ Y.length) : Pa (F_X3_isSame N S r (some r') (nI i) (nI e)) (fun q => (smB X Y i (e - i) = true ∧ q = 1) ∨ (smB X Y i (e - i) = false ∧ q = 0)) := sm_loop h h' FU i (e - i) (nI e) (by congr 1; omega) (by omega) (by omega)
theorem us_loop (h : RJ N S r la X) (h' : RJ N S r' la' Y) {a n0 : Nat} (e2 : gFI S 122 r = nI a) (e3 : gFI S 123 r = nI n0) (hX : a + 1 + 4 * n0 ≤ X.length) (hY : a + 1 + 4 * n0 ≤ Y.length) : ∀ (n j d : Nat), j + d = n0 → Pa (L_X3_hasSameUses_15 N S n r r' (nI j)) (fun q => (unB X Y (a + 1 + 4 * j) d = true ∧ q = 1) ∨ (unB X Y (a + 1 + 4 * j) d = false ∧ q = 0))
  | 0, _, _, _ => Pa_none
  | n + 1, j, d, hj => by
    have h680 := h.2.2.2.1
    show Pa (Y_X3_hasSameUses_15 N S (L_X3_hasSameUses_15 N S n) r r' (nI j)) _
    unfold Y_X3_hasSameUses_15
    rw [e3]
    cases d with
    | zero => exact Pa_it (leN (by omega) (by omega) (by omega)) (Pa_some (Or.inl ⟨rfl, rfl⟩))
    | succ d =>
      have ei : (gFI S 122 r + (1 : Int32)) + (nI j * (4 : Int32)) = nI (a + 1 + 4 * j) := by
        rw [e2]
        exact e_add (n_a1 a) (by rw [show 4 * j = j * 4 by omega]; exact e_mul rfl rfl)
      rw [ei, n_a2]
      refine Pa_if (nleN (by omega) (by omega) (by omega)) (Pa_bind (sm_val h h' (i := a + 1 + 4 * j) (e := a + 1 + 4 * j + 2) (by omega) (by omega) (by omega)) (fun v _ hv => ?_))
      rw [show a + 1 + 4 * j + 2 - (a + 1 + 4 * j) = 2 by omega] at hv
      rcases hv with ⟨b, rfl⟩ | ⟨b, rfl⟩
      · rw [unB_s, b, Bool.true_and, n_a1]
        have z := us_loop h h' e2 e3 hX hY n (j + 1) d (by omega)
        rw [show a + 1 + 4 * (j + 1) = a + 1 + 4 * j + 4 by omega] at z
        exact Pa_if (by decide) z
      · rw [unB_s, b, Bool.false_and]
        exact Pa_it rfl (Pa_some (Or.inr ⟨rfl, rfl⟩))
theorem ra_why {s s' : aS} {k : Nat} (hX : RJ N S r la (sR s k)) (hE : ENs S r s k) (hY : RJ N S r' la' (sR s' k)) (hE' : ENs S r' s' k) (hz : szS s k) (hz' : szS s' k) : Pa (F_X3_reasonAgainst N S r (some r')) (fun q => q = aWh (sR s k) (sR s' k) (sQ s k) (sQ s' k) (sN s k) (sN s' k)) := by
  have hX4 := hX.2.2.2.1
  have hY4 := hY.2.2.2.1
  have a2 := sQ_2 (s := s) (k := k)
  have a3 := sQ_3 (s := s) (k := k)
  have a4 := sQ_4 (s := s) (k := k)
  have a5 := sQ_5 (s := s) (k := k)
  have a6 := sQ_len (s := s) (k := k)
  have b2 := sQ_2 (s := s') (k := k)
  have b3 := sQ_3 (s := s') (k := k)
  have b4 := sQ_4 (s := s') (k := k)
  have b5 := sQ_5 (s := s') (k := k)
  have b6 := sQ_len (s := s') (k := k)
  have x1 : gFI S 122 r = nI (sQ s k 1) := hE.1
  have x2 : gFI S 123 r = nI (sN s k) := hE.2.1
  have x3 : gFI S 124 r = nI (sQ s k 3) := hE.2.2.1
  have x4 : gFI S 125 r = nI (sQ s k 4) := hE.2.2.2
  have x5 : gFI S 121 r = nI (sQ s k 5) := hX.1
  have y1 : gFI S 122 r' = nI (sQ s' k 1) := hE'.1
  have y2 : gFI S 123 r' = nI (sN s' k) := hE'.2.1
  have y3 : gFI S 124 r' = nI (sQ s' k 3) := hE'.2.2.1
  have y4 : gFI S 125 r' = nI (sQ s' k 4) := hE'.2.2.2
  have y5 : gFI S 121 r' = nI (sQ s' k 5) := hY.1
  have ne : ∀ {a b : Nat}, a < 2147483648 → b < 2147483648 → a ≠ b → nI a ≠ nI b := fun ha hb c z => c ((nI_eq ha hb).mp z)
  unfold F_X3_reasonAgainst B_X3_reasonAgainst_119 F_X3_hasSameUses
  rw [x1, x3, x4, x5]
  refine Pa_bs ?_
  rw [y1, y3, y4, y5]
  by_cases c1 : sQ s k 1 = sQ s' k 1
  · refine Pa_it (congrArg nI c1) (Pa_bind (sm_val hX hY (i := 0) (e := sQ s k 1) (Nat.zero_le _) (by omega) (by omega)) (fun v _ hv => ?_))
    rw [Nat.sub_zero] at hv
    rcases hv with ⟨g1, rfl⟩ | ⟨g1, rfl⟩
    · refine Pa_if (by decide) ?_
      have hu : Pa (Option.bind (some r') (fun a1 => (if (gFI S 123 r) = (gFI S 123 a1) then L_X3_hasSameUses_15 N S FU r a1 (0 : Int32) else some (0 : Int32)))) (fun q => ((sN s k = sN s' k ∧ unB (sR s k) (sR s' k) (sQ s k 1 + 1) (sN s k) = true) ∧ q = 1) ∨ (¬ (sN s k = sN s' k ∧ unB (sR s k) (sR s' k) (sQ s k 1 + 1) (sN s k) = true) ∧ q = 0)) := by
        refine Pa_bs ?_
        rw [x2, y2]
        by_cases c2 : sN s k = sN s' k
        · refine Pa_it (congrArg nI c2) (Pa_mono (us_loop hX hY x1 x2 (by omega) (by omega) FU 0 (sN s k) (by omega)) (fun q hq => ?_))
          rw [show sQ s k 1 + 1 + 4 * 0 = sQ s k 1 + 1 by omega] at hq
          rcases hq with ⟨g, e⟩ | ⟨g, e⟩
          · exact Or.inl ⟨⟨c2, g⟩, e⟩
          · exact Or.inr ⟨fun z => (by rw [z.2] at g; cases g), e⟩
        · exact Pa_if (ne (by omega) (by omega) c2) (Pa_some (Or.inr ⟨fun z => c2 z.1, rfl⟩))
      refine Pa_bind hu (fun v4 _ hv => ?_)
      rcases hv with ⟨g2, rfl⟩ | ⟨g2, rfl⟩
      · refine Pa_if (by decide) ?_
        have hO : owB (sR s k) (sR s' k) (sQ s k) (sQ s' k) (sN s k) (sN s' k) := ⟨c1, g1, g2.1, g2.2⟩
        by_cases c3 : sQ s k 3 = sQ s' k 3
        · refine Pa_it (congrArg nI c3) (Pa_bind (sm_val hX hY (i := sQ s k 1) (e := sQ s k 3) (by omega) (by omega) (by omega)) (fun v6 _ hv => ?_))
          rcases hv with ⟨g3, rfl⟩ | ⟨g3, rfl⟩
          · refine Pa_if (by decide) ?_
            by_cases c4 : sQ s k 4 = sQ s' k 4
            · refine Pa_it (congrArg nI c4) (Pa_bind (sm_val hX hY (i := sQ s k 3) (e := sQ s k 4) (by omega) (by omega) (by omega)) (fun v8 _ hv => ?_))
              rcases hv with ⟨g4, rfl⟩ | ⟨g4, rfl⟩
              · refine Pa_if (by decide) ?_
                by_cases c5 : sQ s k 5 = sQ s' k 5
                · refine Pa_it (congrArg nI c5) (Pa_bind (sm_val hX hY (i := sQ s k 4) (e := sQ s k 5) (by omega) (by omega) (by omega)) (fun v10 _ hv => ?_))
                  rcases hv with ⟨g5, rfl⟩ | ⟨g5, rfl⟩
                  · exact Pa_if (by decide) (Pa_some (aWh_0 hO ⟨c3, g3⟩ ⟨c4, g4⟩ ⟨c5, g5⟩).symm)
                  · exact Pa_it rfl (Pa_some (aWh_5 hO ⟨c3, g3⟩ ⟨c4, g4⟩ (fun z => by have y := z.2; rw [g5] at y; cases y)).symm)
                · exact Pa_if (ne (by omega) (by omega) c5) (Pa_some (aWh_5 hO ⟨c3, g3⟩ ⟨c4, g4⟩ (fun z => c5 z.1)).symm)
              · exact Pa_it rfl (Pa_some (aWh_4 hO ⟨c3, g3⟩ (fun z => by have y := z.2; rw [g4] at y; cases y)).symm)
            · exact Pa_if (ne (by omega) (by omega) c4) (Pa_some (aWh_4 hO ⟨c3, g3⟩ (fun z => c4 z.1)).symm)
          · exact Pa_it rfl (Pa_some (aWh_3 hO (fun z => by have y := z.2; rw [g3] at y; cases y)).symm)
        · exact Pa_if (ne (by omega) (by omega) c3) (Pa_some (aWh_3 hO (fun z => c3 z.1)).symm)
      · exact Pa_it rfl (Pa_some (aWh_2 (fun z => g2 z.2.2)).symm)
    · exact Pa_it rfl (Pa_some (aWh_2 (fun z => by have y := z.2.1; rw [g1] at y; cases y)).symm)
  · exact Pa_if (ne (by omega) (by omega) c1) (Pa_some (aWh_2 (fun z => c1 z.1)).symm)
end
/-! what a row's writing leaves -/
def FrA (A : Nat → Prop) (B S : sSt) : Prop := (∀ a, ¬ A a → kpA B S a) ∧ S.2.2.1 = B.2.2.1
/-- a row that may be written; a list -/
def RWa (A : Nat → Prop) (B : sSt) (r : Nat) : Prop := A r ∧ ∀ b, gFR B 120 r = some b → A b
def LWa (A : Nat → Prop) (B : sSt) (l : Nat) : Prop := A l ∧ ∀ b, gFR B 40 l = some b → A b
section
variable {N : Nat → Nat} {A : Nat → Prop} {B S : sSt} {r l u us : Nat}
theorem FrA.rf : FrA A B B := ⟨fun _ _ => kpA.rf, rfl⟩
theorem FrA.fr (h : FrA A B S) (f a : Nat) : gFR S f a = gFR B f a := congrFun (congrFun h.2 f) a
theorem FrA.i (h : FrA A B S) (hr : A r) {f : Nat} {v : Int32} : FrA A B (sFI S f r v) := ⟨fun a ha => (h.1 a ha).tr (kpA.sFI (fun e => ha (e ▸ hr))), h.2⟩
theorem FrA.ai (h : FrA A B S) (hr : A r) {k : Nat} {v : Int32} : FrA A B (sAI S r k v) := ⟨fun a ha => (h.1 a ha).tr (kpA.sAI (fun e => ha (e ▸ hr))), h.2⟩
theorem FrA.aj (h : FrA A B S) (hr : A r) {k : Nat} {v : Int64} : FrA A B (sAJ S r k v) := ⟨fun a ha => (h.1 a ha).tr (kpA.sAJ (fun e => ha (e ▸ hr))), h.2⟩
theorem fr_ap (h : FrA A B S) (k : RWa A B r) {v : Int64} : Pa (F_X3_append N S r v) (FrA A B) := by
  unfold F_X3_append
  refine Pa_ite (fun _ => Pa_some h) (fun _ => Pa_b (Pa_an (fun a2 _ => Pa_ite (fun _ => Pa_some h) (fun _ => Pa_b (Pa_an (fun a4 e4 => Pa_g (Pa_b (Pa_b (Pa_some ?_)))))))))
  exact (h.aj (k.2 a4 ((h.fr 120 r).symm.trans e4))).i k.1
theorem fr_la (h : FrA A B S) (k : LWa A B l) {v : Int32} : Pa (F_X1_append N S l v) (fun q => FrA A B q.2) := by
  unfold F_X1_append
  refine Pa_ite (fun _ => Pa_some h) (fun _ => Pa_b (Pa_an (fun a2 _ => Pa_ite (fun _ => Pa_b (Pa_an (fun a4 e4 => Pa_g (Pa_b (Pa_b (Pa_some ?_)))))) (fun _ => Pa_some h))))
  exact (h.ai (k.2 a4 ((h.fr 40 l).symm.trans e4))).i k.1
theorem fr_wi (k : RWa A B r) : ∀ (n : Nat) (S : sSt) (l : Nat) (i : Int32), FrA A B S → Pa (L_X4_writeInts_11 N n S r l i) (FrA A B)
  | 0, _, _, _, _ => Pa_none
  | n + 1, S, l, i, h => by
    show Pa (Y_X4_writeInts_11 N (L_X4_writeInts_11 N n) S r l i) _
    unfold Y_X4_writeInts_11
    exact Pa_an (fun v7 _ => Pa_ite (fun _ => Pa_some h) (fun _ => Pa_an (fun v9 _ => Pa_bind (fr_ap h k) (fun S12 _ h12 => fr_wi k n S12 l _ h12))))
theorem fr_wI (h : FrA A B S) (k : RWa A B r) {q : Option Nat} : Pa (F_X4_writeInts N S (some r) q) (FrA A B) := by
  unfold F_X4_writeInts
  exact Pa_an (fun a1 _ => Pa_an (fun v2 _ => Pa_bs (Pa_bind (fr_ap h k) (fun S6 _ h6 => fr_wi k FU S6 a1 _ h6))))
theorem fr_wt (k : RWa A B r) : ∀ (n : Nat) (S : sSt) (u : Nat) (i : Int32), FrA A B S → Pa (L_X4_writeThings_11 N n S r u i) (FrA A B)
  | 0, _, _, _, _ => Pa_none
  | n + 1, S, u, i, h => by
    have b74 : ∀ (S' : sSt) (a : Nat) (v : Int64), FrA A B S' → Pa (B_X4_writeThings_74 N (L_X4_writeThings_11 N n) S' r u i a v r) (FrA A B) := fun S' a v h' => by
      unfold B_X4_writeThings_74
      exact Pa_bind (fr_ap h' k) (fun S23 _ h23 => Pa_b (Pa_bind (fr_wI h23 k) (fun S26 _ h26 => fr_wt k n S26 u _ h26)))
    show Pa (Y_X4_writeThings_11 N (L_X4_writeThings_11 N n) S r u i) _
    unfold Y_X4_writeThings_11
    refine Pa_an (fun v7 _ => Pa_ite (fun _ => Pa_some h) (fun _ => Pa_an (fun v9 _ => Pa_onl (fun _ => fr_wt k n S u _ h) (fun a11 _ => Pa_an (fun v12 _ => Pa_bind (fr_ap h k) (fun S15 _ h15 => Pa_an (fun v16 _ => Pa_bind (fr_ap h15 k) (fun S19 _ h19 => Pa_bind (fr_ap h19 k) (fun S21 _ h21 => ?_)))))))))
    exact Pa_ite (fun _ => b74 S21 a11 0 h21) (fun _ => b74 S21 a11 1 h21)
theorem fr_wT (h : FrA A B S) (k : RWa A B r) {q : Option Nat} : Pa (F_X4_writeThings N S (some r) q) (FrA A B) := by
  unfold F_X4_writeThings
  exact Pa_an (fun a1 _ => Pa_an (fun v2 _ => Pa_bs (Pa_bind (fr_ap h k) (fun S6 _ h6 => fr_wt k FU S6 a1 _ h6))))
theorem fr_wf (h : FrA A B S) (k : RWa A B r) {q : Option Nat} : Pa (F_X4_writeFound N S (some r) q) (FrA A B) := by
  have b49 : ∀ (S' : sSt) (v : Int64), FrA A B S' → Pa (B_X4_writeFound_49 N S' v r) (FrA A B) := fun S' v h' => by
    unfold B_X4_writeFound_49
    exact Pa_bind (fr_ap h' k) (fun S13 _ h13 => Pa_some h13)
  unfold F_X4_writeFound
  refine Pa_onl (fun _ => Pa_bs (Pa_bind (fr_ap h k) (fun S4 _ h4 => Pa_bind (fr_ap h4 k) (fun S6 _ h6 => Pa_some h6)))) (fun a1 _ => Pa_bs (Pa_bind (fr_ap h k) (fun S9 _ h9 => Pa_an (fun v10 _ => ?_))))
  exact Pa_ite (fun _ => b49 S9 _ h9) (fun _ => b49 S9 _ h9)
theorem fr_s60 (k : ∀ l, gFR B 246 u = some l → LWa A B l) {k44 : sSt → Nat → Int32 → Option (Option Nat × sSt)} (hk : ∀ S' i, FrA A B S' → Pa (k44 S' u i) (fun q => FrA A B q.2)) : ∀ (n : Nat) (S : sSt) (i j : Int32) (q : Option Nat), FrA A B S → Pa (L_X6_sought_60 N k44 n S u i q j) (fun q => FrA A B q.2)
  | 0, _, _, _, _, _ => Pa_none
  | n + 1, S, i, j, q, h => by
    show Pa (Y_X6_sought_60 N k44 (L_X6_sought_60 N k44 n) S u i q j) _
    unfold Y_X6_sought_60 B_X6_sought_101
    exact Pa_onl (fun _ => hk S _ h) (fun a12 _ => Pa_b (Pa_an (fun a14 _ => Pa_an (fun v15 _ => Pa_ite (fun _ => hk S _ h) (fun _ => Pa_b (Pa_b (Pa_an (fun a19 _ => Pa_an (fun v20 _ => Pa_an (fun v22 _ => Pa_an (fun a24 e24 => Pa_obd (fr_la h (k a24 ((h.fr 246 u).symm.trans e24))) (fun v25 S26 _ h26 => fr_s60 k hk n S26 i _ (some a12) h26))))))))))))
theorem fr_s44 (k : ∀ l, gFR B 246 u = some l → LWa A B l) : ∀ (n : Nat) (S : sSt) (i : Int32), FrA A B S → Pa (L_X6_sought_44 N n S u i) (fun q => FrA A B q.2)
  | 0, _, _, _ => Pa_none
  | n + 1, S, i, h => by
    show Pa (Y_X6_sought_44 N (L_X6_sought_44 N n) S u i) _
    unfold Y_X6_sought_44
    exact Pa_ite (fun _ => Pa_b (Pa_some h)) (fun _ => Pa_an (fun v10 _ => fr_s60 k (fun S' i' h' => fr_s44 k n S' i' h') FU S i _ v10 h))
theorem fr_s9 (k : ∀ l, gFR B 246 u = some l → LWa A B l) : ∀ (n : Nat) (S : sSt) (i : Int32), FrA A B S → Pa (L_X6_sought_9 N n S u i) (fun q => FrA A B q.2)
  | 0, _, _, _ => Pa_none
  | n + 1, S, i, h => by
    show Pa (Y_X6_sought_9 N (L_X6_sought_9 N n) S u i) _
    unfold Y_X6_sought_9
    exact Pa_b (Pa_an (fun a6 _ => Pa_an (fun v7 _ => Pa_ite (fun _ => fr_s44 k FU S _ h) (fun _ => Pa_b (Pa_b (Pa_an (fun a29 _ => Pa_an (fun v30 _ => Pa_an (fun a32 e32 => Pa_obd (fr_la h (k a32 ((h.fr 246 u).symm.trans e32))) (fun v33 S34 _ h34 => fr_s9 k n S34 _ h34))))))))))
theorem fr_so (h : FrA A B S) (k : ∀ l, gFR B 246 u = some l → LWa A B l) : Pa (F_X6_sought N S u) (fun q => FrA A B q.2) := by
  unfold F_X6_sought F_X1_empty
  exact Pa_b (Pa_an (fun a2 e2 => Pa_bs (fr_s9 k FU _ _ (h.i (k a2 ((h.fr 246 u).symm.trans e2)).1))))
theorem fr_fi (k : RWa A B r) : ∀ (n : Nat) (S : sSt) (u : Nat) (o1 o2 : Option Nat) (a b : Int32), FrA A B S → Pa (L_X4_writeFinds_24 N n S r u o1 o2 a b) (FrA A B)
  | 0, _, _, _, _, _, _, _ => Pa_none
  | n + 1, S, u, o1, o2, a, b, h => by
    have b68 : ∀ (S' : sSt) (p3 : Nat) (p6 : Int32), FrA A B S' → Pa (B_X4_writeFinds_68 N (L_X4_writeFinds_24 N n) S' r u o1 p3 a b p6) (FrA A B) := fun S' p3 p6 h' => by
      unfold B_X4_writeFinds_68
      exact Pa_an (fun a16 _ => Pa_an (fun v17 _ => Pa_bind (fr_wf h' k) (fun S20 _ h20 => fr_fi k n S20 u _ _ a _ h20)))
    show Pa (Y_X4_writeFinds_24 N (L_X4_writeFinds_24 N n) S r u o1 o2 a b) _
    unfold Y_X4_writeFinds_24
    refine Pa_an (fun a11 _ => Pa_an (fun v12 _ => Pa_ite (fun _ => Pa_some h) (fun _ => Pa_an (fun v14 _ => Pa_ite (fun _ => b68 S a11 v14 h) (fun _ => Pa_an (fun v21 _ => Pa_bind (fr_ap h k) (fun S24 _ h24 => Pa_an (fun v25 _ => Pa_bind (fr_ap h24 k) (fun S28 _ h28 => b68 S28 a11 v14 h28)))))))))
theorem fr_wF (h : FrA A B S) (k : RWa A B r) (ks : ∀ l, gFR B 246 u = some l → LWa A B l) {q : Option Nat} : Pa (F_X4_writeFinds N S (some r) (some u) q) (FrA A B) := by
  unfold F_X4_writeFinds
  exact Pa_bs (Pa_obd (fr_so h ks) (fun v2 S3 _ h3 => Pa_b (Pa_an (fun a5 _ => Pa_an (fun v6 _ => Pa_bs (Pa_bind (fr_ap h3 k) (fun S10 _ h10 => fr_fi k FU S10 u q v2 v6 _ h10)))))))
theorem fr_m43 (k : RWa A B r) {k18 : sSt → Option Nat → Nat → Option Nat → Int32 → Option sSt} {u : Nat} {p2 : Nat} {p3 : Int32} (hk : ∀ S', FrA A B S' → Pa (k18 S' (some r) u (some p2) (p3 + 1)) (FrA A B)) : ∀ (n : Nat) (S : sSt) (q : Option Nat) (j : Int32), FrA A B S → Pa (L_X4_writeMarks_43 N k18 n S (some r) u p2 p3 q j) (FrA A B)
  | 0, _, _, _, _ => Pa_none
  | n + 1, S, q, j, h => by
    show Pa (Y_X4_writeMarks_43 N k18 (L_X4_writeMarks_43 N k18 n) S (some r) u p2 p3 q j) _
    unfold Y_X4_writeMarks_43 B_X4_writeMarks_118 B_X4_writeMarks_112
    refine Pa_onl (fun _ => hk S h) (fun a8 _ => Pa_an (fun v9 _ => Pa_ite (fun _ => hk S h) (fun _ => Pa_an (fun v11 _ => Pa_onl (fun _ => fr_m43 k hk n S (some a8) _ h) (fun a13 _ => Pa_an (fun v14 _ => ?_))))))
    exact Pa_ite (fun _ => Pa_bs (Pa_bind (fr_ap h k) (fun S18 _ h18 => Pa_an (fun v19 _ => Pa_bind (fr_ap h18 k) (fun S22 _ h22 => Pa_bind (fr_ap h22 k) (fun S24 _ h24 => fr_m43 k hk n S24 (some a8) _ h24)))))) (fun _ => fr_m43 k hk n S (some a8) _ h)
theorem fr_m18 (k : RWa A B r) : ∀ (n : Nat) (S : sSt) (u : Nat) (q : Option Nat) (j : Int32), FrA A B S → Pa (L_X4_writeMarks_18 N n S (some r) u q j) (FrA A B)
  | 0, _, _, _, _, _ => Pa_none
  | n + 1, S, u, q, j, h => by
    show Pa (Y_X4_writeMarks_18 N (L_X4_writeMarks_18 N n) S (some r) u q j) _
    unfold Y_X4_writeMarks_18
    exact Pa_ite (fun _ => Pa_some h) (fun _ => Pa_an (fun a5 _ => Pa_ite (fun _ => Pa_some h) (fun _ => Pa_an (fun v6 _ => fr_m43 k (fun S' h' => fr_m18 k n S' u _ _ h') FU S v6 _ h))))
theorem fr_wM (h : FrA A B S) (k : RWa A B r) {q1 q2 : Option Nat} : Pa (F_X4_writeMarks N S (some r) q1 q2) (FrA A B) := by
  have b13 : ∀ (a : Nat) (v : Int64), Pa (B_X4_writeMarks_13 N S (some r) a q2 v (some r)) (FrA A B) := fun a v => by
    unfold B_X4_writeMarks_13
    exact Pa_bs (Pa_bind (fr_ap h k) (fun S4 _ h4 => fr_m18 k FU S4 a q2 _ h4))
  unfold F_X4_writeMarks
  exact Pa_an (fun a1 _ => Pa_ite (fun _ => b13 a1 0) (fun _ => b13 a1 1))
theorem fr_wp (h : FrA A B S) (k : RWa A B r) (ks : ∀ l, gFR B 246 u = some l → LWa A B l) {q : Option Nat} : Pa (F_X4_writeAllButMaker N S (some r) (some u) q) (FrA A B) := by
  unfold F_X4_writeAllButMaker F_X3_empty F_X3_endOwn F_X3_endFinds F_X3_endMarks
  refine Pa_bs (Pa_bs (Pa_bind (fr_wT (h.i k.1) k) (fun S5 _ h5 => Pa_bs (Pa_b (Pa_bind (fr_wI h5 k) (fun S9 _ h9 => Pa_b (Pa_an (fun a11 _ => Pa_an (fun v12 _ => Pa_bs (Pa_bind (fr_wF ((h9.i k.1).i k.1) k ks) (fun S17 _ h17 => Pa_bs (Pa_bind (fr_wM (h17.i k.1) k) (fun S21 _ h21 => Pa_bs (Pa_some (h21.i k.1)))))))))))))))
/-- a unit that is named is one of the units -/
theorem at_ref {p : Int32} : Pa (F_X7_at N S us p) (fun v => ∀ a, v = some a → ∃ t k, gFR S 280 us = some t ∧ gAR S t k = some a) := by
  have no : ∀ a : Nat, (none : Option Nat) = some a → ∃ t k, gFR S 280 us = some t ∧ gAR S t k = some a := fun a z => nomatch z
  unfold F_X7_at
  exact Pa_ite (fun _ => Pa_some no) (fun _ => Pa_ite (fun _ => Pa_some no) (fun _ => Pa_b (Pa_an (fun a2 _ => Pa_ite (fun _ => Pa_b (Pa_an (fun a4 e4 => Pa_g (Pa_b (Pa_onl (fun _ => Pa_some no) (fun a6 e6 => Pa_ite (fun _ => Pa_some no) (fun _ => Pa_some (fun a z => ⟨a4, Int32.toNatClampNeg p, e4, e6.trans z⟩)))))))) (fun _ => Pa_some no)))))
theorem fr_wr {ro r2 : Nat} (h : FrA A B S) (k : RWa A B r) (k2 : RWa A B r2) (e161 : gFR B 161 ro = some r2) (ks : ∀ l, gFR B 246 u = some l → LWa A B l) (hat : ∀ S2 a, FrA A B S2 → (∃ t k, gFR S2 280 us = some t ∧ gAR S2 t k = some a) → ∀ l, gFR B 246 a = some l → LWa A B l) : Pa (F_X4_write N S ro (some r) (some u) (some us)) (FrA A B) := by
  unfold F_X4_write
  refine Pa_bind (fr_wp h k ks) (fun S2 _ h2 => Pa_bs (Pa_bs (Pa_bind at_ref (fun v5 _ h5 => Pa_onl (fun _ => Pa_bs (Pa_bind (fr_ap h2 k) (fun S10 _ h10 => Pa_some h10))) (fun a7 e7 => ?_)))))
  refine Pa_m ((h2.fr 161 ro).trans e161) (Pa_bind (fr_wp h2 k2 (hat S2 a7 h2 (h5 a7 e7))) (fun S13 _ h13 => Pa_m ((h13.fr 161 ro).trans e161) (Pa_bs (Pa_bind (fr_ap h13 k2) (fun S17 _ h17 => Pa_bs (Pa_bind (fr_ap h17 k) (fun S20 _ h20 => Pa_m ((h20.fr 161 ro).trans e161) (Pa_bs (Pa_an (fun v23 _ => Pa_bind (fr_ap h20 k) (fun S26 _ h26 => Pa_some h26)))))))))))
end
