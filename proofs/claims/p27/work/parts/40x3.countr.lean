/-! How many: units, rings, rings of more than one, times. -/
/-- of each place of the order its ring -/
def idL : List (List Nat) → Nat → List Nat
  | [], _ => []
  | a :: r, i => List.replicate a.length i ++ idL r (i + 1)
def g3 : Option Nat → Option Nat → List Nat → Nat
  | _, _, [] => 0
  | x, y, i :: r => (if y = some i ∧ x ≠ some i then 1 else 0) + g3 y (some i) r
theorem g3_c {x y : Option Nat} {i : Nat} {r : List Nat} : g3 x y (i :: r) = (if y = some i ∧ x ≠ some i then 1 else 0) + g3 y (some i) r := rfl
theorem g3_r {i : Nat} {l : List Nat} : ∀ k, g3 (some i) (some i) (List.replicate k i ++ l) = g3 (some i) (some i) l
  | 0 => rfl
  | k + 1 => by
    rw [List.replicate_succ, List.cons_append, g3_c, if_neg (fun z => z.2 rfl), g3_r k, Nat.zero_add]
theorem g3_id : ∀ (l : List (List Nat)) (i : Nat) (x y : Option Nat), (∀ j, i ≤ j → y ≠ some j) → g3 x y (idL l i) = bigN l
  | [], _, _, _, _ => rfl
  | a :: r, i, x, y, hy => by
    show g3 x y (List.replicate a.length i ++ idL r (i + 1)) = (if 1 < a.length then 1 else 0) + bigN r
    have hs : ∀ j, i + 1 ≤ j → (some i : Option Nat) ≠ some j := fun j hj z => by
      have := Option.some.inj z
      omega
    cases e : a.length with
    | zero =>
      rw [if_neg (by omega), Nat.zero_add]
      exact g3_id r (i + 1) x y (fun j hj => hy j (by omega))
    | succ n =>
      rw [List.replicate_succ, List.cons_append, g3_c, if_neg (fun z => hy i (Nat.le_refl i) z.1), Nat.zero_add]
      cases n with
      | zero =>
        rw [if_neg (by omega), Nat.zero_add]
        exact g3_id r (i + 1) y (some i) hs
      | succ k =>
        rw [List.replicate_succ, List.cons_append, g3_c, if_pos ⟨rfl, hy i (Nat.le_refl i)⟩, g3_r k, if_pos (by omega), g3_id r (i + 1) (some i) (some i) hs]
theorem idL_len : ∀ (l : List (List Nat)) (i : Nat), (idL l i).length = (fla l).length
  | [], _ => rfl
  | a :: r, i => by
    show (List.replicate a.length i ++ idL r (i + 1)).length = (a ++ fla r).length
    rw [List.length_append, List.length_replicate, List.length_append, idL_len r (i + 1)]
/-- a place of the order lies in its ring -/
theorem idL_at : ∀ (l : List (List Nat)) (i k v : Nat), (fla l)[k]? = some v → ∃ j r, (idL l i)[k]? = some (i + j) ∧ l[j]? = some r ∧ v ∈ r
  | [], _, _, _, h => by cases h
  | a :: l, i, k, v, h => by
    have h : (a ++ fla l)[k]? = some v := h
    show ∃ j r, (List.replicate a.length i ++ idL l (i + 1))[k]? = some (i + j) ∧ (a :: l)[j]? = some r ∧ v ∈ r
    by_cases c : k < a.length
    · rw [List.getElem?_append_left c] at h
      refine ⟨0, a, ?_, rfl, List.mem_of_getElem? h⟩
      rw [List.getElem?_append_left (by rw [List.length_replicate]; exact c), List.getElem?_replicate]
      exact if_pos c
    · rw [List.getElem?_append_right (by omega)] at h
      obtain ⟨j, r, e1, e2, e3⟩ := idL_at l (i + 1) (k - a.length) v h
      refine ⟨j + 1, r, ?_, e2, e3⟩
      rw [List.getElem?_append_right (by rw [List.length_replicate]; omega), List.length_replicate, e1]
      congr 1
      omega
theorem ord_n16 {E : aE} {T : Nat → Bool} : ∀ (n : Nat) (P : Nat → Bool), (ordL E T n P).length ≤ n
  | 0, _ => Nat.le_refl _
  | n + 1, P => by
    cases e : lstF (candB E T P) 16 with
    | none =>
      rw [ordL_n e]
      exact Nat.zero_le _
    | some u =>
      rw [ordL_s e, List.length_cons]
      exact Nat.succ_le_succ (ord_n16 n _)
noncomputable def aCount (s : aS) (n4 : Int32) (p : Int32) : Int32 := if p = 0 then nI (cb s.2.1.1 s.1) else if p = 1 then nI s.1 else if p = 2 then nI (aOrd s.1 s.2.1 s.2.2.1 s.2.2.2.1 s.2.2.2.2).length else if p = 3 then nI (bigN (aOrd s.1 s.2.1 s.2.2.1 s.2.2.2.1 s.2.2.2.2)) else if p = 4 then n4 else -2
section
variable {s : aS} {n4 p : Int32}
theorem aC0 (e : p = 0) : aCount s n4 p = nI (cb s.2.1.1 s.1) := if_pos e
theorem aC1 (h0 : ¬ p = 0) (e : p = 1) : aCount s n4 p = nI s.1 := (if_neg h0).trans (if_pos e)
theorem aC2 (h0 : ¬ p = 0) (h1 : ¬ p = 1) (e : p = 2) : aCount s n4 p = nI (aOrd s.1 s.2.1 s.2.2.1 s.2.2.2.1 s.2.2.2.2).length := (if_neg h0).trans ((if_neg h1).trans (if_pos e))
theorem aC3 (h0 : ¬ p = 0) (h1 : ¬ p = 1) (h2 : ¬ p = 2) (e : p = 3) : aCount s n4 p = nI (bigN (aOrd s.1 s.2.1 s.2.2.1 s.2.2.2.1 s.2.2.2.2)) := (if_neg h0).trans ((if_neg h1).trans ((if_neg h2).trans (if_pos e)))
theorem aC4 (h0 : ¬ p = 0) (h1 : ¬ p = 1) (h2 : ¬ p = 2) (h3 : ¬ p = 3) (e : p = 4) : aCount s n4 p = n4 := (if_neg h0).trans ((if_neg h1).trans ((if_neg h2).trans ((if_neg h3).trans (if_pos e))))
theorem aC5 (h0 : ¬ p = 0) (h1 : ¬ p = 1) (h2 : ¬ p = 2) (h3 : ¬ p = 3) (h4 : ¬ p = 4) : aCount s n4 p = -2 := (if_neg h0).trans ((if_neg h1).trans ((if_neg h2).trans ((if_neg h3).trans (if_neg h4))))
end
/-- the order has all units that are there -/
theorem ord_len {c : Nat} {F : aF} {U W : aU} {H : aH} (hA : WA c F W) (hc : c ≤ 16) : (fla (aOrd c F U W H)).length = cb F.1 c := by
  obtain ⟨P', h⟩ := ord_ab (lE_tr hA hc) (lE_in (U := U) (H := H) hA hc) 16 (fun _ => false) [] AB_0
  have this : (fla (aOrd c F U W H)).length = cb P' 16 := h.2.2.2
  rw [this, ← cb_tE (F := F) 16 hc]
  refine cb_eq 16 (fun i hi => ?_)
  cases e : tE c F i with
  | false =>
    cases e2 : P' i with
    | false => rfl
    | true =>
      have := h.2.1 i e2
      rw [e] at this
      cases this
  | true =>
    obtain ⟨h1, h2⟩ := tE_i.mp e
    obtain ⟨j, r, g1, g2⟩ := ord_at (U := U) (H := H) hA hc h1 h2
    exact h.2.2.1 i (mem_fla g1 g2)
section
variable {x m o us t c c2 : Nat} {R : List Nat} {G : Nat → Nat} {ρ ω : Nat → Nat} {Λ : sLay} {S S0 S1 : sSt} {F : aF} {U W : aU} {H : aH}
theorem count_c (h : CA x m o R G us t c c2 F U W H ρ ω Λ S) (hc : c ≤ 16) (e1 : gFI S 281 us = nI c) (hA : WA c F W) (hM : MA c F) (p : Int32) : Pa (F_X8_count Λ.2.2 S x p) (fun r => r.1 = aCount (c, F, U, W, H) (gFI S 324 x) p) := by
  have h320 := h.1.2.2.2.2.2.2.2.2.1
  obtain ⟨ri, a, b, l, d, e323, kI⟩ := h.ri
  unfold F_X8_count
  by_cases p0 : p = 0
  · rw [aC0 p0]
    exact Pa_it p0 (Pa_r h320 (Pa_be (there_val h.1 hc h.2.1) (Pa_some rfl)))
  · refine Pa_if p0 ?_
    by_cases p1 : p = 1
    · rw [aC1 p0 p1]
      exact Pa_it p1 (Pa_r h320 (Pa_some e1))
    · refine Pa_if p1 ?_
      by_cases p2 : p = 2
      · rw [aC2 p0 p1 p2]
        refine Pa_it p2 (Pa_m e323 (Pa_m h320 (Pa_bs (Pa_bind (ag_val h hc hA hM kI) (fun S11 _ h11 => ?_)))))
        obtain ⟨g, -, hR⟩ := h11
        exact Pa_r ((g.fr 323 x).trans e323) (Pa_some hR.1)
      · refine Pa_if p2 ?_
        by_cases p3 : p = 3
        · rw [aC3 p0 p1 p2 p3]
          refine Pa_it p3 (Pa_m e323 (Pa_m h320 (Pa_bs (Pa_bind (ag_val h hc hA hM kI) (fun S18 _ h18 => ?_)))))
          obtain ⟨g, -, hR⟩ := h18
          exact Pa_r ((g.fr 323 x).trans e323) (Pa_some hR.2.2.2.2)
        · refine Pa_if p3 ?_
          by_cases p4 : p = 4
          · rw [aC4 p0 p1 p2 p3 p4]
            exact Pa_it p4 (Pa_some rfl)
          · rw [aC5 p0 p1 p2 p3 p4]
            exact Pa_if p4 (Pa_some rfl)
end
section
variable {m c : Nat} {G : Nat → Nat} {Λ : sLay} {N : Nat → Nat} {S S0 S1 S2 : sSt} {F : aF} {U W : aU} {H : aH}
/-- the ring of a place, in the reference -/
def CQ (G : Nat → Nat) (m : Nat) (S : sSt) (O : List (List Nat)) : Prop := (∀ f, isM f = true → gFR S f m = some (G f)) ∧ gFI S 394 m = nI O.length ∧ gFI S 393 m = nI (fla O).length ∧ (∀ (i v : Nat), (fla O)[i]? = some v → gAI S (G 392) i = nI v) ∧ (∀ (i : Nat) (r : List Nat), O[i]? = some r → ∀ v, v ∈ r → gAI S (G 391) v = nI i) ∧ (fla O).length ≤ 16 ∧ (∀ v, v ∈ fla O → v < 16) ∧ O.length ≤ 16
theorem CQ.id {O : List (List Nat)} (h : CQ G m S O) {k : Nat} (hk : k < (fla O).length) : ∃ i, (idL O 0)[k]? = some i ∧ gAI S (G 391) (Int32.toNatClampNeg (gAI S (G 392) k)) = nI i ∧ i < 16 := by
  obtain ⟨j, r, e1, e2, e3⟩ := idL_at O 0 k _ (List.getElem?_eq_getElem hk)
  have hv := h.2.2.2.2.2.2.1 _ (List.getElem_mem hk)
  have lj := (List.getElem?_eq_some_iff.mp e2).1
  have lO := h.2.2.2.2.2.2.2
  refine ⟨0 + j, e1, ?_, by omega⟩
  rw [h.2.2.2.1 k _ (List.getElem?_eq_getElem hk), n_cl (by omega), h.2.2.2.2.1 j r e2 _ e3, Nat.zero_add]
def px (l : List Nat) (k : Nat) : Option Nat := if k = 1 then none else l[k - 2]?
theorem ct_loop {O : List (List Nat)} (h : CQ G m S O) (e361 : gFI S 361 m = nI c) (hl : (fla O).length = cb F.1 c) (eO : O = aOrd c F U W H) (p : Int32) : ∀ (n k a : Nat), 1 ≤ k → k ≤ 100 → a + g3 (px (idL O 0) k) ((idL O 0)[k - 1]?) ((idL O 0).drop k) = bigN O → Pa (L_X9_count_13 N n S m p (nI a) (nI k)) (fun r => r.1 = aCount (c, F, U, W, H) (gFI S 378 m) p)
  | 0, _, _, _, _, _ => Pa_none
  | n + 1, k, a, hk, hk2, ha => by
    have l16 := h.2.2.2.2.2.1
    have hlen := idL_len O 0
    show Pa (Y_X9_count_13 N (L_X9_count_13 N n) S m p (nI a) (nI k)) _
    unfold Y_X9_count_13
    rw [h.2.2.1]
    by_cases c0 : (fla O).length ≤ k
    · rw [List.drop_eq_nil_of_le (by omega)] at ha
      have ha : a = bigN O := ha
      refine Pa_it (leN (by omega) (by omega) c0) ?_
      by_cases p0 : p = 0
      · rw [aC0 p0]
        exact Pa_it p0 (Pa_some (congrArg nI hl))
      · refine Pa_if p0 ?_
        by_cases p1 : p = 1
        · rw [aC1 p0 p1]
          exact Pa_it p1 (Pa_some e361)
        · refine Pa_if p1 ?_
          by_cases p2 : p = 2
          · rw [aC2 p0 p1 p2]
            exact Pa_it p2 (Pa_some (by rw [eO] at h; exact h.2.1))
          · refine Pa_if p2 ?_
            by_cases p3 : p = 3
            · rw [aC3 p0 p1 p2 p3]
              exact Pa_it p3 (Pa_some (by rw [ha, eO]))
            · refine Pa_if p3 ?_
              by_cases p4 : p = 4
              · rw [aC4 p0 p1 p2 p3 p4]
                exact Pa_it p4 (Pa_some rfl)
              · rw [aC5 p0 p1 p2 p3 p4]
                exact Pa_if p4 (Pa_some rfl)
    · have lt : k < (fla O).length := by omega
      obtain ⟨i, ei, vi, hi⟩ := h.id lt
      obtain ⟨j, ej, vj, hj⟩ := h.id (k := k - 1) (by omega)
      have es1 : nI k - (1 : Int32) = nI (k - 1) := n_s1 hk
      have cl0 := n_cl (n := k) (by omega)
      have cl1 := n_cl (n := k - 1) (by omega)
      have lid : k < (idL O 0).length := by omega
      have edr : (idL O 0).drop k = i :: (idL O 0).drop (k + 1) := by
        rw [List.drop_eq_getElem_cons lid]
        rw [List.getElem?_eq_getElem lid] at ei
        rw [Option.some.inj ei]
      rw [edr, g3_c, ej] at ha
      have nx : ∀ q : Nat, a + q + g3 (some j) (some i) ((idL O 0).drop (k + 1)) = bigN O → Pa (L_X9_count_13 N n S m p (nI (a + q)) (nI k + 1)) (fun r => r.1 = aCount (c, F, U, W, H) (gFI S 378 m) p) := fun q hq => by
        rw [n_a1 k]
        refine ct_loop h e361 hl eO p n (k + 1) (a + q) (by omega) (by omega) ?_
        rw [show k + 1 - 1 = k by omega, ei]
        unfold px
        rw [if_neg (by omega), show k + 1 - 2 = k - 1 by omega, ej]
        exact hq
      have b97 : g3 (some j) (some i) ((idL O 0).drop (k + 1)) + a = bigN O → Pa (B_X9_count_97 N (L_X9_count_13 N n) S m p (nI k) (nI a)) (fun r => r.1 = aCount (c, F, U, W, H) (gFI S 378 m) p) := fun z => by
        unfold B_X9_count_97 B_X9_count_98
        rw [Int32.add_zero]
        exact nx 0 (by omega)
      have b58 : ∀ s0 : Int32, (s0 = 0 ↔ ¬ (px (idL O 0) k ≠ some i)) → Pa (B_X9_count_58 N (L_X9_count_13 N n) S m p (nI a) (nI k) s0) (fun r => r.1 = aCount (c, F, U, W, H) (gFI S 378 m) p) := fun s0 hs => by
        unfold B_X9_count_58
        refine Pa_m (h.1 391 rfl) (Pa_r (h.1 392 rfl) (Pa_g (Pa_bs (Pa_g (Pa_m (h.1 391 rfl) (Pa_r (h.1 392 rfl) (Pa_g (Pa_bs (Pa_g ?_)))))))))
        rw [es1, cl0, cl1, vi, vj]
        by_cases cij : i = j
        · refine Pa_it (by rw [cij]) ?_
          by_cases cs : s0 = 0
          · rw [if_neg (fun z => (hs.mp cs) z.2)] at ha
            exact Pa_it cs (b97 (by omega))
          · have nn : px (idL O 0) k ≠ some i := Classical.byContradiction (fun z => cs (hs.mpr z))
            rw [if_pos ⟨by rw [cij], nn⟩] at ha
            refine Pa_if cs ?_
            unfold B_X9_count_98
            rw [n_a1 a]
            exact nx 1 (by omega)
        · rw [if_neg (fun z => cij (Option.some.inj z.1).symm)] at ha
          exact Pa_if (fun z => cij ((nI_eq (by omega) (by omega)).mp z)) (b97 (by omega))
      refine Pa_if (nleN (by omega) (by omega) lt) ?_
      by_cases c1 : k = 1
      · refine Pa_it (congrArg nI c1) ?_
        unfold B_X9_count_53
        refine b58 1 ⟨fun z => absurd z (by decide), fun z => absurd (fun y => ?_) z⟩
        unfold px at y
        rw [if_pos c1] at y
        cases y
      · obtain ⟨j2, ej2, vj2, hj2⟩ := h.id (k := k - 2) (by omega)
        have es2 : nI k - (2 : Int32) = nI (k - 2) := n_sub (b := 2) (by omega)
        have cl2 := n_cl (n := k - 2) (by omega)
        have epx : px (idL O 0) k = some j2 := by
          unfold px
          rw [if_neg c1]
          exact ej2
        refine Pa_if (fun z => c1 ((nI_eq (a := k) (b := 1) (by omega) (by omega)).mp z)) (Pa_m (h.1 391 rfl) (Pa_r (h.1 392 rfl) (Pa_g (Pa_bs (Pa_g (Pa_m (h.1 391 rfl) (Pa_r (h.1 392 rfl) (Pa_g (Pa_bs (Pa_g ?_))))))))))
        rw [es2, cl2, cl0, vj2, vi]
        by_cases cj : j2 = i
        · exact Pa_it (by rw [cj]) (b58 0 ⟨fun _ y => y (by rw [epx, cj]), fun _ => rfl⟩)
        · refine Pa_if (fun z => cj ((nI_eq (by omega) (by omega)).mp z)) ?_
          unfold B_X9_count_53
          refine b58 1 ⟨fun z => absurd z (by decide), fun z => absurd (fun y => ?_) z⟩
          rw [epx] at y
          exact cj (Option.some.inj y)
theorem count_r (h : RA m G Λ c F U W H S) (hc : c ≤ 16) (hA : WA c F W) (hM : MA c F) (p : Int32) : Pa (F_X9_count Λ.2.2 S m p) (fun r => r.1 = aCount (c, F, U, W, H) (gFI S 378 m) p) := by
  have hmi : MI m G Λ (S, S, nfz [360, 390, 391, 392, 393, 394]) (sFI S 360 m 0) := h.1.mi0 rfl
  unfold F_X9_count
  refine Pa_b (Pa_bind (Pa_and (fo_val h.rc hc hA hM) (Pa_T (tF_X9_findOrder (Y := (S, S, nfz [360, 390, 391, 392, 393, 394])) rfl rfl rfl rfl rfl _ hmi))) (fun S3 _ h3 => ?_))
  obtain ⟨⟨Kq, -, hR⟩, hI⟩ := h3
  obtain ⟨r1, r2, r3, r4, -⟩ := hR
  rw [List.append_nil] at r2 r3
  have e378 : gFI S3 378 m = gFI S 378 m := (hI.2 378 rfl).1
  have l16 := ord_16 (U := U) (H := H) hA hc
  have hCQ : CQ G m S3 (aOrd c F U W H) := ⟨fun f hf => hI.c.1.1 f hf, r1, r2, r3, r4, l16, fun v hv => by have := (sO_in hA hc hv).1; omega, ord_n16 16 _⟩
  have z := ct_loop (N := Λ.2.2) (c := c) (F := F) (U := U) (W := W) (H := H) hCQ ((hI.2 361 rfl).1.trans h.2.1) (ord_len hA hc) rfl p FU 1 0 (Nat.le_refl 1) (by omega) (by
    rw [Nat.zero_add]
    have e := g3_id (aOrd c F U W H) 0 none none (fun j _ z => by cases z)
    cases el : idL (aOrd c F U W H) 0 with
    | nil =>
      rw [el] at e
      exact e
    | cons i r =>
      rw [el, g3_c, if_neg (fun z => by cases z.1), Nat.zero_add] at e
      exact e)
  rw [e378] at z
  exact z
end
