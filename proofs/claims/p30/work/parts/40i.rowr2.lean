/-! The reference lays rows: the loops, the whole. -/
section
variable {m c : Nat} {G : Nat → Nat} {Λ : sLay} {N : Nat → Nat} {S0 S S1 S2 : sSt} {F : aF} {U W : aU} {H : aH} {ys zs Z rest : List Int64} {ps : List Nat} {j n0 n1 n2 n3 : Nat}
theorem lp400 (h0 : RR m G Λ c F U W H S0) (hc : c ≤ 16) (hZ : Z.length ≤ 680) (hj : j < c) (hT : F.1 j = true) (hR : F.2.1 j ≠ 0) (h4 : ps.length = 4) : ∀ (n p d : Nat) (S1 : sSt) (ys : List Int64), p + d = 10 * c → LRw m G S0 S1 ys ps → ys ++ mkF F H p d = Z → Pa (L_X9_layParts_400 N n S1 m (nI j) (nI p)) (fun S2 => LRw m G S0 S2 Z (ps ++ [Z.length]))
  | 0, _, _, _, _, _, _, _ => Pa_none
  | n + 1, p, d, S1, ys, hp, h, eZ => by
    have hG := h0.1.1
    have hr := h0.ls h
    have hF := hr.1.2.2.1
    have hH := hr.1.2.2.2.2
    have eL : (10 : Int32) * gFI S1 361 m = nI (10 * c) := e_mul k10 hr.1.2.1
    show Pa (Y_X9_layParts_400 N (L_X9_layParts_400 N n) S1 m (nI j) (nI p)) _
    unfold Y_X9_layParts_400 B_X9_layParts_494 B_X9_layParts_500
    rw [eL]
    cases d with
    | zero =>
      have eZ : ys = Z := by rw [← eZ]; exact (List.append_nil _).symm
      refine Pa_it (leN (by omega) (by omega) (by omega)) (h.pa hG (by rw [h4]; rfl) (by omega) (fun S2 h2 => Pa_some ?_))
      rw [eZ] at h2
      exact h2
    | succ d =>
      have eZ : ys ++ (m1 F H p ++ mkF F H (p + 1) d) = Z := eZ
      have e10 : nI p / (10 : Int32) = nI (p / 10) := n_d10 (by omega)
      have e11 : nI p - nI (p / 10) * (10 : Int32) = nI (p % 10) := n_r10 (by omega)
      have ep : 10 * (p / 10) + p % 10 = p := by omega
      have hu : p / 10 < c := by omega
      refine Pa_if (nleN (by omega) (by omega) (by omega)) (Pa_r (hG.g h.1.1 373) (Pa_g ?_))
      rw [n_cl (n := j) (by omega), ((hF j hj).2 hT).1]
      refine Pa_if hR (Pa_r (hG.g h.1.1 362) (Pa_g ?_))
      rw [e10, n_cl (n := p / 10) (by omega), n_a1 p]
      by_cases q : F.1 (p / 10) = true
      · obtain ⟨q1, q2, q3⟩ := hH (p / 10) hu q
        refine Pa_if (fun z => by have := (hF (p / 10) hu).1.mp z; rw [q] at this; cases this) (Pa_r (hG.g h.1.1 363) (Pa_g ?_))
        rw [q1, e11]
        by_cases c2 : (H (p / 10)).length ≤ p % 10
        · rw [m1_n (List.getElem?_eq_none c2), List.nil_append] at eZ
          exact Pa_it (leN (by omega) (by omega) c2) (lp400 h0 hc hZ hj hT hR h4 n (p + 1) d S1 ys (by omega) h eZ)
        · have hth := List.getElem?_eq_getElem (Nat.lt_of_not_le c2)
          obtain ⟨th, eth⟩ : ∃ th, th = (H (p / 10))[p % 10]'(Nat.lt_of_not_le c2) := ⟨_, rfl⟩
          rw [← eth] at hth
          have hTR : ∀ {S' : sSt} {ys' : List Int64}, LRw m G S0 S' ys' ps → TR G S' p th := fun h' => by
            have := ((h0.ls h').1.2.2.2.2 (p / 10) hu q).2.2 (p % 10) th hth
            rw [ep] at this
            exact this
          refine Pa_if (nleN (by omega) (by omega) (by omega)) (Pa_r (hG.g h.1.1 364) (Pa_g ?_))
          rw [n_cl (n := p) (by omega), (hTR h).1]
          rw [m1_s q hth] at eZ
          by_cases cs : th.1 / 32 = (2 : Int32)
          · rw [if_pos cs] at eZ
            have eZ : ys ++ (tj (nI (p / 10)) :: (tj (nmo th.1) :: (th.2.1 :: mkF F H (p + 1) d))) = Z := eZ
            refine Pa_it cs (h.bi hG eZ hZ (fun S2 h2 e2 => Pa_r (hG.g h2.1.1 364) (Pa_g ?_)))
            rw [(hTR h2).1]
            refine h2.bi hG e2 hZ (fun S3 h3 e3 => Pa_r (hG.g h3.1.1 365) (Pa_g ?_))
            rw [(hTR h3).2.1]
            exact h3.bi hG e3 hZ (fun S4 h4' e4 => lp400 h0 hc hZ hj hT hR h4 n (p + 1) d S4 _ (by omega) h4' e4)
          · rw [if_neg cs, List.nil_append] at eZ
            exact Pa_if cs (lp400 h0 hc hZ hj hT hR h4 n (p + 1) d S1 ys (by omega) h eZ)
      · have qf : F.1 (p / 10) = false := by
          cases hq : F.1 (p / 10) with
          | false => rfl
          | true => exact absurd hq q
        rw [m1_f q, List.nil_append] at eZ
        exact Pa_it ((hF (p / 10) hu).1.mpr qf) (lp400 h0 hc hZ hj hT hR h4 n (p + 1) d S1 ys (by omega) h eZ)
theorem lp400z (h0 : RR m G Λ c F U W H S0) (hc : c ≤ 16) (hj : j < c) (hT : F.1 j = true) (hR : F.2.1 j = 0) (h4 : ps.length = 4) {p : Int32} (h : LRw m G S0 S1 Z ps) : ∀ (n : Nat), Pa (L_X9_layParts_400 N n S1 m (nI j) p) (fun S2 => LRw m G S0 S2 Z (ps ++ [Z.length]))
  | 0 => Pa_none
  | n + 1 => by
    have hG := h0.1.1
    have hF := (h0.ls h).1.2.2.1
    have fin : Pa (B_X9_layParts_500 N S1 m) (fun S2 => LRw m G S0 S2 Z (ps ++ [Z.length])) := by
      unfold B_X9_layParts_500
      exact h.pa hG (by rw [h4]; rfl) (by omega) (fun S2 h2 => Pa_some h2)
    show Pa (Y_X9_layParts_400 N (L_X9_layParts_400 N n) S1 m (nI j) p) _
    unfold Y_X9_layParts_400
    refine Pa_ite (fun _ => fin) (fun _ => Pa_r (hG.g h.1.1 373) (Pa_g ?_))
    rw [n_cl (n := j) (by omega), ((hF j hj).2 hT).1]
    exact Pa_it hR fin
theorem lpE (h0 : RR m G Λ c F U W H S0) (hc : c ≤ 16) (hZ : Z.length ≤ 680) (hj : j < c) (hT : F.1 j = true) (h4 : ps.length = 4) (h : LRw m G S0 S1 ys ps) {v : Int64} (ev : v = if F.2.1 j = 0 then 0 else 1) (eZ : ys ++ rwE c F H j = Z) : Pa (B_X9_layParts_395 N S1 m (nI j) v m) (fun S2 => LRw m G S0 S2 Z (ps ++ [Z.length])) := by
  have hG := h0.1.1
  unfold B_X9_layParts_395
  unfold rwE at eZ
  rw [← ev] at eZ
  refine h.bi hG eZ hZ (fun S2 h2 e2 => ?_)
  by_cases hR : F.2.1 j = 0
  · rw [if_pos hR, List.append_nil] at e2
    rw [e2] at h2
    exact lp400z h0 hc hj hT hR h4 h2 FU
  · rw [if_neg hR, ← mkF_all (fun k _ h2' h3 => (h0.1.2.2.2.2 k (by omega) h3).2.1)] at e2
    exact lp400 h0 hc hZ hj hT hR h4 FU 0 (10 * c) S2 _ (by omega) h2 e2
/-- names of which a thing is built: finds -/
theorem lp326 (h0 : RR m G Λ c F U W H S0) (hc : c ≤ 16) (hA : WA c F W) (hZ : Z.length ≤ 680) {i : Nat} {th : aT} (hj : j < c) (hT : F.1 j = true) (hth : (H j)[i]? = some th) {P : sSt → Prop} {k309 : sSt → Nat → Int32 → Int32 → Option sSt} (hk : ∀ S' zs, LRw m G S0 S' zs ps → zs ++ rest = Z → Pa (k309 S' m (nI j) (nI (10 * j + i) + 1)) P) : ∀ (n q : Nat) (S1 : sSt) (ys : List Int64), q ≤ th.2.2.2.length → LRw m G S0 S1 ys ps → ys ++ (blJ W H j ((th.2.2.2.drop q).map (fun v => 32 + v)) ++ rest) = Z → Pa (L_X9_layParts_326 N k309 n S1 m (nI j) (nI (10 * j + i)) (nI q)) P
  | 0, _, _, _, _, _, _ => Pa_none
  | n + 1, q, S1, ys, hq, h, eZ => by
    have hr := h0.ls h
    obtain ⟨hG1, -, -, hW, hH⟩ := hr.1
    obtain ⟨r1, r2, r3⟩ := hH j hj hT
    obtain ⟨y1, y2, y3, y4, y5, y6, y7⟩ := r3 i th hth
    have hi : i < 10 := by
      have := (List.getElem?_eq_some_iff.mp hth).1
      omega
    have e3 : (3 : Int32) * nI (10 * j + i) + nI q = nI (3 * (10 * j + i) + q) := e_add (e_mul k3 rfl) rfl
    show Pa (Y_X9_layParts_326 N k309 (L_X9_layParts_326 N k309 n) S1 m (nI j) (nI (10 * j + i)) (nI q)) P
    unfold Y_X9_layParts_326
    refine Pa_r (hG1.1 367 rfl) (Pa_g ?_)
    rw [n_cl (n := 10 * j + i) (by omega), y5]
    by_cases c0 : q = th.2.2.2.length
    · refine Pa_it (leN (by omega) (by omega) (by omega)) (hk S1 ys h ?_)
      rw [List.drop_eq_nil_of_le (by omega)] at eZ
      exact eZ
    · have hq2 : q < th.2.2.2.length := by omega
      rw [List.drop_eq_getElem_cons hq2, List.map_cons] at eZ
      have eZ : ys ++ ((ffz W H j (32 + th.2.2.2[q]) ++ blJ W H j ((th.2.2.2.drop (q + 1)).map (fun v => 32 + v))) ++ rest) = Z := eZ
      rw [List.append_assoc] at eZ
      refine Pa_if (nleN (by omega) (by omega) hq2) (Pa_r (hG1.1 368 rfl) (Pa_g ?_))
      rw [e3, n_cl (n := 3 * (10 * j + i) + q) (by omega), y7 q _ (List.getElem?_eq_getElem hq2)]
      refine Pa_bind (fn_val hG1 hW hH hc hA hj hT rfl _) (fun v _ hv => Pa_bind (lf_r h0 hc hA hZ hj hT h hv eZ) (fun S2 _ hr2 => ?_))
      obtain ⟨zs, h2, e2⟩ := hr2
      rw [n_a1]
      exact lp326 h0 hc hA hZ hj hT hth hk n (q + 1) S2 zs hq2 h2 e2
theorem lp309 (h0 : RR m G Λ c F U W H S0) (hc : c ≤ 16) (hA : WA c F W) (hZ : Z.length ≤ 680) (hj : j < c) (hT : F.1 j = true) (h3 : ps.length = 3) (e3 : n3 + (rwE c F H j).length = Z.length) : ∀ (n i : Nat) (S1 : sSt) (ys : List Int64), i ≤ (H j).length → LRw m G S0 S1 ys ps → ys ++ (blJ W H j (blL ((H j).drop i)) ++ rwE c F H j) = Z → Pa (L_X9_layParts_309 N n S1 m (nI j) (nI (10 * j + i))) (fun S2 => LRw m G S0 S2 Z ((ps ++ [n3]) ++ [Z.length]))
  | 0, _, _, _, _, _, _ => Pa_none
  | n + 1, i, S1, ys, hi, h, eZ => by
    have hG := h0.1.1
    have hr := h0.ls h
    obtain ⟨r1, r2, r3⟩ := hr.1.2.2.2.2 j hj hT
    have eL : (10 : Int32) * nI j + gAI S1 (G 363) (Int32.toNatClampNeg (nI j)) = nI (10 * j + (H j).length) := e_add (e_mul k10 rfl) (by rw [n_cl (by omega)]; exact r1)
    show Pa (Y_X9_layParts_309 N (L_X9_layParts_309 N n) S1 m (nI j) (nI (10 * j + i))) _
    unfold Y_X9_layParts_309
    refine Pa_r (hG.g h.1.1 363) (Pa_g ?_)
    rw [eL]
    by_cases c0 : i = (H j).length
    · rw [List.drop_eq_nil_of_le (by omega)] at eZ
      have eZ : ys ++ rwE c F H j = Z := eZ
      have ey : ys.length = n3 := by
        have := congrArg List.length eZ
        rw [List.length_append] at this
        omega
      refine Pa_it (leN (by omega) (by omega) (by omega)) (h.pa hG (by rw [h3]; rfl) (by omega) (fun S2 h2 => Pa_r (hG.g h2.1.1 373) (Pa_g ?_)))
      rw [n_cl (n := j) (by omega), (((h0.ls h2).1.2.2.1 j hj).2 hT).1]
      rw [ey] at h2
      have l4 : (ps ++ [n3]).length = 4 := by rw [List.length_append, h3]; rfl
      by_cases hR : F.2.1 j = 0
      · exact Pa_it hR (lpE h0 hc hZ hj hT l4 h2 (by rw [if_pos hR]) eZ)
      · exact Pa_if hR (lpE h0 hc hZ hj hT l4 h2 (by rw [if_neg hR]) eZ)
    · have hi2 : i < (H j).length := by omega
      rw [List.drop_eq_getElem_cons hi2, blL_c, blJ_app, List.append_assoc] at eZ
      refine Pa_if (nleN (by omega) (by omega) (by omega)) (lp326 h0 hc hA hZ hj hT (List.getElem?_eq_getElem hi2) (fun S' zs h' e' => ?_) FU 0 S1 ys (Nat.zero_le _) h (by rw [List.drop_zero]; exact eZ))
      rw [n_a1]
      exact lp309 h0 hc hA hZ hj hT h3 e3 n (i + 1) S' zs hi2 h' e'
theorem lp220 (h0 : RR m G Λ c F U W H S0) (hc : c ≤ 16) (hA : WA c F W) (hZ : Z.length ≤ 680) (hj : j < c) (hT : F.1 j = true) (h2 : ps.length = 2) (e3 : n3 + (rwE c F H j).length = Z.length) (e2 : n2 + (rwD W H j).length = n3) : ∀ (n i : Nat) (S1 : sSt) (ys : List Int64), i ≤ (U j).length → LRw m G S0 S1 ys ps → ys ++ (usJ W H j ((U j).drop i) ++ (rwD W H j ++ rwE c F H j)) = Z → Pa (L_X9_layParts_220 N n S1 m (nI j) (nI i)) (fun S2 => LRw m G S0 S2 Z (((ps ++ [n2]) ++ [n3]) ++ [Z.length]))
  | 0, _, _, _, _, _, _ => Pa_none
  | n + 1, i, S1, ys, hi, h, eZ => by
    have hG := h0.1.1
    have hr := h0.ls h
    obtain ⟨u1, u2, u3⟩ := hr.2.1 j hj hT
    have ej : (12 : Int32) * nI j + nI i = nI (12 * j + i) := e_add (e_mul k12 rfl) rfl
    have ek : (10 : Int32) * nI j = nI (10 * j + 0) := e_mul k10 rfl
    show Pa (Y_X9_layParts_220 N (L_X9_layParts_220 N n) S1 m (nI j) (nI i)) _
    unfold Y_X9_layParts_220
    refine Pa_r (hG.g h.1.1 371) (Pa_g ?_)
    rw [n_cl (n := j) (by omega), u1]
    by_cases c0 : i = (U j).length
    · rw [List.drop_eq_nil_of_le (by omega)] at eZ
      have eZ : ys ++ (rwD W H j ++ rwE c F H j) = Z := eZ
      have ey : ys.length = n2 := by
        have := congrArg List.length eZ
        rw [List.length_append, List.length_append] at this
        omega
      refine Pa_it (leN (by omega) (by omega) (by omega)) (h.pa hG (by rw [h2]; rfl) (by omega) (fun S2 g2 => ?_))
      rw [ey] at g2
      rw [ek]
      exact lp309 h0 hc hA hZ hj hT (by rw [List.length_append, h2]; rfl) e3 FU 0 S2 ys (Nat.zero_le _) g2 (by rw [List.drop_zero]; exact eZ)
    · have hi2 : i < (U j).length := by omega
      rw [List.drop_eq_getElem_cons hi2] at eZ
      have eZ : ys ++ (tj (srt (U j)[i]) :: (tj (nmo (U j)[i]) :: (ffz W H j (U j)[i] ++ (usJ W H j ((U j).drop (i + 1)) ++ (rwD W H j ++ rwE c F H j))))) = Z := by
        rw [← eZ]
        show _ = ys ++ (([tj (srt (U j)[i]), tj (nmo (U j)[i])] ++ ffz W H j (U j)[i] ++ usJ W H j ((U j).drop (i + 1))) ++ _)
        simp only [List.append_assoc, List.cons_append, List.nil_append]
      have hv : ∀ {S' : sSt} {ys' : List Int64}, LRw m G S0 S' ys' ps → gAI S' (G 372) (12 * j + i) = (U j)[i] := fun h' => ((h0.ls h').2.1 j hj hT).2.2 i _ (List.getElem?_eq_getElem hi2)
      refine Pa_if (nleN (by omega) (by omega) (by omega)) (Pa_r (hG.g h.1.1 372) (Pa_g ?_))
      rw [ej, n_cl (n := 12 * j + i) (by omega), hv h, n_a1 i]
      refine h.bi hG eZ hZ (fun S2 g2 e2' => Pa_r (hG.g g2.1.1 372) (Pa_g ?_))
      rw [hv g2]
      refine g2.bi hG e2' hZ (fun S3 g3 e3' => Pa_r (hG.g g3.1.1 372) (Pa_g ?_))
      rw [hv g3]
      have hr3 := h0.ls g3
      refine Pa_bind (fn_val hr3.1.1 hr3.1.2.2.2.1 hr3.1.2.2.2.2 hc hA hj hT rfl _) (fun v _ hv => Pa_bind (lf_r h0 hc hA hZ hj hT g3 hv e3') (fun S4 _ hr4 => ?_))
      obtain ⟨zs, g4, e4⟩ := hr4
      exact lp220 h0 hc hA hZ hj hT h2 e3 e2 n (i + 1) S4 zs hi2 g4 e4
theorem lp165 (h0 : RR m G Λ c F U W H S0) (hc : c ≤ 16) (hA : WA c F W) (hZ : Z.length ≤ 680) (hj : j < c) (hT : F.1 j = true) (h1 : ps.length = 1) (e3 : n3 + (rwE c F H j).length = Z.length) (e2 : n2 + (rwD W H j).length = n3) (e1 : n1 + (rwC U W H j).length = n2) : ∀ (n i : Nat) (S1 : sSt) (ys : List Int64), i ≤ (W j).length → LRw m G S0 S1 ys ps → ys ++ (((W j).drop i).map tj ++ (rwC U W H j ++ (rwD W H j ++ rwE c F H j))) = Z → Pa (L_X9_layParts_165 N n S1 m (nI j) (nI i)) (fun S2 => LRw m G S0 S2 Z ((((ps ++ [n1]) ++ [n2]) ++ [n3]) ++ [Z.length]))
  | 0, _, _, _, _, _, _ => Pa_none
  | n + 1, i, S1, ys, hi, h, eZ => by
    have hG := h0.1.1
    have hr := h0.ls h
    obtain ⟨u1, u2, u3⟩ := hr.1.2.2.2.1 j hj hT
    have ej : (6 : Int32) * nI j + nI i = nI (6 * j + i) := e_add (e_mul k6 rfl) rfl
    show Pa (Y_X9_layParts_165 N (L_X9_layParts_165 N n) S1 m (nI j) (nI i)) _
    unfold Y_X9_layParts_165
    refine Pa_r (hG.g h.1.1 369) (Pa_g ?_)
    rw [n_cl (n := j) (by omega), u1]
    by_cases c0 : i = (W j).length
    · rw [List.drop_eq_nil_of_le (by omega)] at eZ
      have eZ : ys ++ (rwC U W H j ++ (rwD W H j ++ rwE c F H j)) = Z := eZ
      have ey : ys.length = n1 := by
        have := congrArg List.length eZ
        rw [List.length_append, List.length_append, List.length_append] at this
        omega
      refine Pa_it (leN (by omega) (by omega) (by omega)) (h.pa hG (by rw [h1]; rfl) (by omega) (fun S2 g2 => Pa_r (hG.g g2.1.1 371) (Pa_g ?_)))
      rw [((h0.ls g2).2.1 j hj hT).1]
      rw [ey] at g2
      refine g2.bi hG (zs := usJ W H j (U j) ++ (rwD W H j ++ rwE c F H j)) eZ hZ (fun S3 g3 e3' => ?_)
      exact lp220 h0 hc hA hZ hj hT (by rw [List.length_append, h1]; rfl) e3 e2 FU 0 S3 _ (Nat.zero_le _) g3 (by rw [List.drop_zero]; exact e3')
    · have hi2 : i < (W j).length := by omega
      rw [List.drop_eq_getElem_cons hi2, List.map_cons, List.cons_append] at eZ
      refine Pa_if (nleN (by omega) (by omega) (by omega)) (Pa_r (hG.g h.1.1 370) (Pa_g ?_))
      rw [ej, n_cl (n := 6 * j + i) (by omega), u3 i _ (List.getElem?_eq_getElem hi2), n_a1 i]
      exact h.bi hG eZ hZ (fun S2 g2 e2' => lp165 h0 hc hA hZ hj hT h1 e3 e2 e1 n (i + 1) S2 _ hi2 g2 e2')
/-- names of which a thing is built, as they are -/
theorem lp105 (h0 : RR m G Λ c F U W H S0) (hc : c ≤ 16) (hZ : Z.length ≤ 680) {i : Nat} {th : aT} (hj : j < c) (hT : F.1 j = true) (hth : (H j)[i]? = some th) {P : sSt → Prop} {k21 : sSt → Nat → Int32 → Int32 → Option sSt} (hk : ∀ S' zs, LRw m G S0 S' zs ps → zs ++ rest = Z → Pa (k21 S' m (nI j) (nI (10 * j + i) + 1)) P) : ∀ (n q : Nat) (S1 : sSt) (ys : List Int64), q ≤ th.2.2.2.length → LRw m G S0 S1 ys ps → ys ++ ((th.2.2.2.drop q).map tj ++ rest) = Z → Pa (L_X9_layParts_105 N k21 n S1 m (nI j) (nI (10 * j + i)) (nI q)) P
  | 0, _, _, _, _, _, _ => Pa_none
  | n + 1, q, S1, ys, hq, h, eZ => by
    have hr := h0.ls h
    have hG := h0.1.1
    obtain ⟨r1, r2, r3⟩ := hr.1.2.2.2.2 j hj hT
    obtain ⟨y1, y2, y3, y4, y5, y6, y7⟩ := r3 i th hth
    have hi : i < 10 := by
      have := (List.getElem?_eq_some_iff.mp hth).1
      omega
    have e3 : (3 : Int32) * nI (10 * j + i) + nI q = nI (3 * (10 * j + i) + q) := e_add (e_mul k3 rfl) rfl
    show Pa (Y_X9_layParts_105 N k21 (L_X9_layParts_105 N k21 n) S1 m (nI j) (nI (10 * j + i)) (nI q)) P
    unfold Y_X9_layParts_105
    refine Pa_r (hG.g h.1.1 367) (Pa_g ?_)
    rw [n_cl (n := 10 * j + i) (by omega), y5]
    by_cases c0 : q = th.2.2.2.length
    · refine Pa_it (leN (by omega) (by omega) (by omega)) (hk S1 ys h ?_)
      rw [List.drop_eq_nil_of_le (by omega)] at eZ
      exact eZ
    · have hq2 : q < th.2.2.2.length := by omega
      rw [List.drop_eq_getElem_cons hq2, List.map_cons, List.cons_append] at eZ
      refine Pa_if (nleN (by omega) (by omega) hq2) (Pa_r (hG.g h.1.1 368) (Pa_g ?_))
      rw [e3, n_cl (n := 3 * (10 * j + i) + q) (by omega), y7 q _ (List.getElem?_eq_getElem hq2), n_a1 q]
      exact h.bi hG eZ hZ (fun S2 g2 e2 => lp105 h0 hc hZ hj hT hth hk n (q + 1) S2 _ hq2 g2 e2)
theorem lp21 (h0 : RR m G Λ c F U W H S0) (hc : c ≤ 16) (hA : WA c F W) (hZ : Z.length ≤ 680) (hj : j < c) (hT : F.1 j = true) (h00 : ps.length = 0) (e3 : n3 + (rwE c F H j).length = Z.length) (e2 : n2 + (rwD W H j).length = n3) (e1 : n1 + (rwC U W H j).length = n2) (e0 : n0 + (rwB W j).length = n1) : ∀ (n i : Nat) (S1 : sSt) (ys : List Int64), i ≤ (H j).length → LRw m G S0 S1 ys ps → ys ++ (thsJ ((H j).drop i) ++ (rwB W j ++ (rwC U W H j ++ (rwD W H j ++ rwE c F H j)))) = Z → Pa (L_X9_layParts_21 N n S1 m (nI j) (nI (10 * j + i))) (fun S2 => LRw m G S0 S2 Z (((((ps ++ [n0]) ++ [n1]) ++ [n2]) ++ [n3]) ++ [Z.length]))
  | 0, _, _, _, _, _, _ => Pa_none
  | n + 1, i, S1, ys, hi, h, eZ => by
    have hG := h0.1.1
    have hr := h0.ls h
    obtain ⟨r1, r2, r3⟩ := hr.1.2.2.2.2 j hj hT
    have eL : (10 : Int32) * nI j + gAI S1 (G 363) (Int32.toNatClampNeg (nI j)) = nI (10 * j + (H j).length) := e_add (e_mul k10 rfl) (by rw [n_cl (by omega)]; exact r1)
    show Pa (Y_X9_layParts_21 N (L_X9_layParts_21 N n) S1 m (nI j) (nI (10 * j + i))) _
    unfold Y_X9_layParts_21
    refine Pa_r (hG.g h.1.1 363) (Pa_g ?_)
    rw [eL]
    by_cases c0 : i = (H j).length
    · rw [List.drop_eq_nil_of_le (by omega), show thsJ [] = [] from rfl, List.nil_append] at eZ
      have eZ' : ys ++ (tj (nI (W j).length) :: ((W j).map tj ++ (rwC U W H j ++ (rwD W H j ++ rwE c F H j)))) = Z := by
        rw [← eZ]
        unfold rwB itJ
        rw [List.cons_append]
      have ey : ys.length = n0 := by
        have := congrArg List.length eZ
        rw [List.length_append, List.length_append, List.length_append, List.length_append] at this
        omega
      refine Pa_it (leN (by omega) (by omega) (by omega)) (h.pa hG (by rw [h00]; rfl) (by omega) (fun S2 g2 => Pa_r (hG.g g2.1.1 369) (Pa_g ?_)))
      rw [n_cl (n := j) (by omega), ((h0.ls g2).1.2.2.2.1 j hj hT).1]
      rw [ey] at g2
      refine g2.bi hG (zs := (W j).map tj ++ (rwC U W H j ++ (rwD W H j ++ rwE c F H j))) eZ' hZ (fun S3 g3 e3' => ?_)
      exact lp165 h0 hc hA hZ hj hT (by rw [List.length_append, h00]; rfl) e3 e2 e1 FU 0 S3 _ (Nat.zero_le _) g3 (by rw [List.drop_zero]; exact e3')
    · have hi2 : i < (H j).length := by omega
      have hth := List.getElem?_eq_getElem hi2
      obtain ⟨th, eth⟩ : ∃ th, th = (H j)[i] := ⟨_, rfl⟩
      rw [← eth] at hth
      rw [List.drop_eq_getElem_cons hi2, ← eth] at eZ
      have eZ : ys ++ (tj (srt th.1) :: (tj (nmo th.1) :: (th.2.1 :: ((if th.2.2.1 = 0 then 0 else 1) :: (tj (nI th.2.2.2.length) :: (th.2.2.2.map tj ++ (thsJ ((H j).drop (i + 1)) ++ (rwB W j ++ (rwC U W H j ++ (rwD W H j ++ rwE c F H j)))))))))) = Z := by
        rw [← eZ, show thsJ (th :: (H j).drop (i + 1)) = thJ th ++ thsJ ((H j).drop (i + 1)) from rfl]
        unfold thJ itJ
        simp only [List.append_assoc, List.cons_append, List.nil_append]
      have hTR : ∀ {S' : sSt} {ys' : List Int64}, LRw m G S0 S' ys' ps → TR G S' (10 * j + i) th := fun h' => ((h0.ls h').1.2.2.2.2 j hj hT).2.2 i th hth
      refine Pa_if (nleN (by omega) (by omega) (by omega)) (Pa_r (hG.g h.1.1 364) (Pa_g ?_))
      rw [n_cl (n := 10 * j + i) (by omega), (hTR h).1]
      refine h.bi hG eZ hZ (fun S2 g2 e2' => Pa_r (hG.g g2.1.1 364) (Pa_g ?_))
      rw [(hTR g2).1]
      refine g2.bi hG e2' hZ (fun S3 g3 e3' => Pa_r (hG.g g3.1.1 365) (Pa_g ?_))
      rw [(hTR g3).2.1]
      refine g3.bi hG e3' hZ (fun S4 g4 e4 => Pa_r (hG.g g4.1.1 366) (Pa_g ?_))
      rw [(hTR g4).2.2.1]
      have fin : Pa (B_X9_layParts_89 N (L_X9_layParts_21 N n) S4 m (nI j) (nI (10 * j + i)) (if th.2.2.1 = 0 then 0 else 1) m) (fun S2 => LRw m G S0 S2 Z (((((ps ++ [n0]) ++ [n1]) ++ [n2]) ++ [n3]) ++ [Z.length])) := by
        unfold B_X9_layParts_89
        refine g4.bi hG e4 hZ (fun S5 g5 e5 => Pa_r (hG.g g5.1.1 367) (Pa_g ?_))
        rw [n_cl (n := 10 * j + i) (by omega), (hTR g5).2.2.2.2.1]
        refine g5.bi hG e5 hZ (fun S6 g6 e6 => ?_)
        refine lp105 h0 hc hZ hj hT hth (fun S' zs h' e' => ?_) FU 0 S6 _ (Nat.zero_le _) g6 (by rw [List.drop_zero]; exact e6)
        rw [n_a1]
        exact lp21 h0 hc hA hZ hj hT h00 e3 e2 e1 e0 n (i + 1) S' zs hi2 h' e'
      by_cases cp : th.2.2.1 = 0
      · rw [if_pos cp] at fin
        exact Pa_it cp fin
      · rw [if_neg cp] at fin
        exact Pa_if cp fin
/-- where the parts end -/
noncomputable def pE (c : Nat) (F : aF) (U W : aU) (H : aH) (j : Nat) : List Nat := [(rwA H j).length, (rwA H j).length + (rwB W j).length, (rwA H j).length + (rwB W j).length + (rwC U W H j).length, (rwA H j).length + (rwB W j).length + (rwC U W H j).length + (rwD W H j).length, (rwP c F U W H j).length]
theorem RR.len (h0 : RR m G Λ c F U W H S0) (hc : c ≤ 16) (hj : j < c) (hT : F.1 j = true) : (rwP c F U W H j).length ≤ 678 := by
  have hU := (h0.2.1 j hj hT).2.1
  have hW := (h0.1.2.2.2.1 j hj hT).2.1
  refine rwP_len hc (fun k hk hTk => ?_) hU hW hj hT
  obtain ⟨q1, q2, q3⟩ := h0.1.2.2.2.2 k hk hTk
  refine ⟨q2, fun th hth => ?_⟩
  obtain ⟨i, hi, e⟩ := List.getElem_of_mem hth
  exact (q3 i th (by rw [List.getElem?_eq_getElem hi, e])).2.2.2.2.2.1
theorem lp_val (h0 : RR m G Λ c F U W H S0) (hc : c ≤ 16) (hA : WA c F W) (hj : j < c) (hT : F.1 j = true) (hK : KL m G S0 S1) : Pa (F_X9_layParts N S1 m (nI j)) (fun S2 => LRw m G S0 S2 (rwP c F U W H j) (pE c F U W H j)) := by
  have hG := h0.1.1
  have hlen := h0.len hc hj hT
  have hZ : (rwP c F U W H j).length ≤ 680 := by omega
  have w0 := LRw.new hK
  have hl : (rwP c F U W H j).length = (rwA H j).length + ((rwB W j).length + ((rwC U W H j).length + ((rwD W H j).length + (rwE c F H j).length))) := by
    unfold rwP
    rw [List.length_append, List.length_append, List.length_append, List.length_append]
  have ek : (10 : Int32) * nI j = nI (10 * j + 0) := e_mul k10 rfl
  unfold F_X9_layParts
  refine Pa_b (Pa_r (hG.g w0.1.1 363) (Pa_g ?_))
  rw [n_cl (n := j) (by omega), ((h0.ls w0).1.2.2.2.2 j hj hT).1, ek]
  have eP : [] ++ (tj (nI (H j).length) :: (thsJ (H j) ++ (rwB W j ++ (rwC U W H j ++ (rwD W H j ++ rwE c F H j))))) = rwP c F U W H j := by
    unfold rwP rwA
    rw [List.nil_append, List.cons_append]
  refine w0.bi hG (Z := rwP c F U W H j) (zs := thsJ (H j) ++ (rwB W j ++ (rwC U W H j ++ (rwD W H j ++ rwE c F H j)))) eP hZ (fun S2 g2 e2 => ?_)
  exact lp21 h0 hc hA hZ hj hT rfl (by omega) rfl rfl rfl FU 0 S2 _ (Nat.zero_le _) g2 (by rw [List.drop_zero]; exact e2)
theorem ld_loop (hG : MG m G Λ S0) {xs : List Int64} (h : LRw m G S0 S1 xs ps) : ∀ (n i : Nat) (hh : Int64), i ≤ xs.length → Pa (L_X9_lineDigest_6 N S1 n m hh (nI i)) (fun q => q = digF hh (xs.drop i))
  | 0, _, _, _ => Pa_none
  | n + 1, i, hh, hi => by
    have h4 := h.2.2.1
    show Pa (Y_X9_lineDigest_6 N S1 (L_X9_lineDigest_6 N S1 n) m hh (nI i)) _
    unfold Y_X9_lineDigest_6 F_X9_mixed
    rw [h.2.1]
    by_cases c0 : i = xs.length
    · refine Pa_it (leN (by omega) (by omega) (by omega)) (Pa_some ?_)
      rw [List.drop_eq_nil_of_le (by omega)]
      rfl
    · have hi2 : i < xs.length := by omega
      refine Pa_if (nleN (by omega) (by omega) hi2) (Pa_r (hG.g h.1.1 387) (Pa_g (Pa_bs ?_)))
      rw [n_cl (by omega), h.2.2.2.1 i _ (List.getElem?_eq_getElem hi2), n_a1, List.drop_eq_getElem_cons hi2]
      exact ld_loop hG h n (i + 1) _ hi2
theorem ld_val (hG : MG m G Λ S0) {xs : List Int64} (h : LRw m G S0 S1 xs ps) : Pa (F_X9_lineDigest N S1 m) (fun q => q = digJ xs) := by
  have := ld_loop (N := N) hG h FU 0 17 (Nat.zero_le _)
  rw [List.drop_zero] at this
  exact this
theorem uo_5 {T : Nat → Bool} : uo c T (-5) = none := by
  unfold uo
  rw [if_pos (by decide)]
theorem lr_val (h0 : RR m G Λ c F U W H S0) (hc : c ≤ 16) (hA : WA c F W) (hM : MA c F) (hj : j < c) (hT : F.1 j = true) : Pa (F_X9_layRow N S0 m (nI j)) (fun S2 => LRw m G S0 S2 (rwR c F U W H j) (pE c F U W H j ++ [(rwR c F U W H j).length])) := by
  have hG := h0.1.1
  have hlen := h0.len hc hj hT
  have cl := n_cl (n := j) (by omega)
  have e374 : ∀ {S' : sSt}, KL m G S0 S' → gAI S' (G 374) j = F.2.2 j := fun k => (((h0.kl k).1.2.2.1 j hj).2 hT).2
  -- the end
  have fin : ∀ (S1 : sSt) (v : Int64), KL m G S0 S1 → rwM c F U W H j = (if F.2.2 j = -5 then [0] else [1, v]) → Pa (B_X9_layRow_33 N S1 m (nI j) v) (fun S2 => LRw m G S0 S2 (rwR c F U W H j) (pE c F U W H j ++ [(rwR c F U W H j).length])) := fun S1 v hK hv => by
    have hZ : (rwR c F U W H j).length ≤ 680 := by
      unfold rwR
      rw [hv, List.length_append]
      by_cases c5 : F.2.2 j = -5
      · rw [if_pos c5]
        show _ + 1 ≤ 680
        omega
      · rw [if_neg c5]
        show _ + 2 ≤ 680
        omega
    have b74 : ∀ S', LRw m G S0 S' (rwR c F U W H j) (pE c F U W H j) → Pa (B_X9_layRow_74 N S' m) (fun S2 => LRw m G S0 S2 (rwR c F U W H j) (pE c F U W H j ++ [(rwR c F U W H j).length])) := fun S' h' => by
      unfold B_X9_layRow_74
      exact h'.pa hG rfl (by show 5 < 100; omega) (fun S2 h2 => Pa_some h2)
    unfold B_X9_layRow_33
    refine Pa_bind (lp_val h0 hc hA hj hT hK) (fun S4 _ h4 => Pa_r (hG.g h4.1.1 374) (Pa_g ?_))
    rw [cl, e374 h4.1]
    unfold B_X9_layRow_55
    by_cases c5 : F.2.2 j = -5
    · rw [if_pos c5] at hv
      refine Pa_it c5 (h4.bi hG (Z := rwR c F U W H j) (zs := []) (by unfold rwR; rw [hv]) hZ (fun S8 h8 e8 => Pa_r (hG.g h8.1.1 374) (Pa_g ?_)))
      rw [cl, e374 h8.1]
      rw [List.append_nil] at e8
      rw [e8] at h8
      exact Pa_it c5 (b74 S8 h8)
    · rw [if_neg c5] at hv
      refine Pa_if c5 (h4.bi hG (Z := rwR c F U W H j) (zs := [v]) (by unfold rwR; rw [hv]) hZ (fun S8 h8 e8 => Pa_r (hG.g h8.1.1 374) (Pa_g ?_)))
      rw [cl, e374 h8.1]
      refine Pa_if c5 (h8.bi hG e8 hZ (fun S15 h15 e15 => b74 S15 ?_))
      rw [List.append_nil] at e15
      rw [e15] at h15
      exact h15
  unfold F_X9_layRow
  refine Pa_r (hG.1 374 rfl) (Pa_g ?_)
  rw [cl, e374 KL.rf]
  rcases hM j hj hT with c5 | ⟨j2, hj2, ej2, hT2, -⟩
  · refine Pa_it c5 (fin S0 0 KL.rf ?_)
    unfold rwM
    rw [c5, uo_5, if_pos rfl]
  · have n5 : F.2.2 j ≠ -5 := by rw [ej2]; exact ne5 (by omega)
    refine Pa_if n5 (Pa_r (hG.1 374 rfl) (Pa_g ?_))
    rw [e374 KL.rf, ej2]
    have hlen2 := h0.len hc hj2 hT2
    refine Pa_bind (lp_val h0 hc hA hj2 hT2 KL.rf) (fun S19 _ h19 => ?_)
    refine h19.bi hG (Z := rwP c F U W H j2 ++ [0]) (zs := []) rfl (by rw [List.length_append, List.length_singleton]; omega) (fun S21 h21 _ => Pa_bind (ld_val hG h21) (fun v _ hv => fin S21 v h21.1 ?_))
    unfold rwM
    rw [ej2, uo_at hj2 hc hT2, if_neg (ne5 (by omega)), hv]
/-- the answers -/
noncomputable def aSize (c : Nat) (F : aF) (U W : aU) (H : aH) (p : Int32) : Int32 := match uo c F.1 p with
  | none => -1
  | some k => nI (rwR c F U W H k).length
theorem RV.rr (hU : RL2 371 372 12 G S0 c F U) (h0 : RB m G Λ c F W H S0) (h : RV m c F W H G S0 S) : RR m G Λ c F U W H S := by
  refine ⟨h0.kr h.1, hU.kp (fun j => (h.1.2.2 371 rfl (by decide) (by decide) (by decide) j).1) (fun j => (h.1.2.2 372 rfl (by decide) (by decide) (by decide) j).1), fun z th hz => ?_⟩
  obtain ⟨ov, vr, vs, -⟩ := h.2.2 z th hz
  rw [vs, VO_eq vr]
theorem ro_val (h : RA m G Λ c F U W H S) (hc : c ≤ 16) (hA : WA c F W) (hB : HA c F H) (hM : MA c F) (hj : j < c) (hT : F.1 j = true) : Pa (F_X9_rowOf Λ.2.2 (sFI S 360 m 0) m (nI j)) (fun S2 => ∃ S1, RR m G Λ c F U W H S1 ∧ LRw m G S1 S2 (rwR c F U W H j) (pE c F U W H j ++ [(rwR c F U W H j).length])) := by
  have hb := h.rb
  unfold F_X9_rowOf
  refine Pa_bind (rk_val hb hc hA hB) (fun S2 _ A => Pa_bind (lr_val (A.rr h.2.2.2.1 hb) hc hA hM hj hT) (fun S4 _ h4 => Pa_some ⟨S2, A.rr h.2.2.2.1 hb, h4⟩))
theorem size_r (h : RA m G Λ c F U W H S) (hc : c ≤ 16) (hA : WA c F W) (hB : HA c F H) (hM : MA c F) (p : Int32) : Pa (F_X9_size Λ.2.2 S m p) (fun r => r.1 = aSize c F U W H p) := by
  have hb := h.rb
  unfold F_X9_size aSize
  refine Pa_b (Pa_be (isU_val h.1.g0 hc hb.2.1 (fun k hk => (h.2.2.1 k hk).1) p) ?_)
  cases e : uo c F.1 p with
  | none => exact Pa_it (iU0.mpr rfl) (Pa_some rfl)
  | some k =>
    obtain ⟨ep, hk, hT, -⟩ := uo_some e
    refine Pa_if (fun z => by have := iU0.mp z; cases this) ?_
    rw [ep]
    exact Pa_bind (ro_val h hc hA hB hM hk hT) (fun S5 _ h5 => Pa_some (by obtain ⟨S1, -, h5⟩ := h5; exact h5.2.1))
end
section
variable {x m o us t c c2 : Nat} {R : List Nat} {G : Nat → Nat} {ρ ω : Nat → Nat} {Λ : sLay} {S S1 : sSt} {F : aF} {U W : aU} {H : aH}
theorem SC.vs (h : CA x m o R G us t c c2 F U W H ρ ω Λ S) {fz Ar : Nat → Bool} (g : Sh (S, fz, ρ, Ar) (own Λ R) S1) (a : arA Ar) (A : SC c F W H t S S1) : VS c F W H t S1 := fun z th hz => by
  have e : Ad S1 t z = Ad S t z := by
    unfold Ad
    rw [ad_fz h g a z]
  obtain ⟨ov, vr, vs, -⟩ := A z th hz
  rw [e, VO_eq vr]
  exact vs
/-- the row, in the class -/
theorem nw_val (h : CA x m o R G us t c c2 F U W H ρ ω Λ S) (hc : c ≤ 16) (hA : WA c F W) (hV : VS c F W H t S) {ro : Nat} (e322 : gFR S 322 x = some ro) {j u : Nat} (hj : j < c) (hT : F.1 j = true) (hu : gAR S t j = some u) : Pa (F_X4_now Λ.2.2 S ro (some u) (some us)) (fun r => ∃ r1 l1, r.1 = some r1 ∧ Sh (S, fzW, ρ, arX 160) (own Λ R) r.2 ∧ RJ Λ.2.2 r.2 r1 l1 (rwR c F U W H j) ∧ EN r.2 r1 c F U W H j) := by
  obtain ⟨ro', r1, l1, r2, l2, f1, f2, f3, f4, f5, n1, n2, k1, k2⟩ := h.rows
  rw [e322] at f1
  cases f1
  unfold F_X4_now
  exact Pa_m f2 (Pa_bind (wr_val h hc hA hV (Or.inl rfl) f3 f5 n2 k2 k1 f4 n1 hj hT hu) (fun S3 _ g => Pa_m ((g.1.fr 160 ro).trans f2) (Pa_some ⟨r1, l1, rfl, g⟩)))
theorem size_c (h : CA x m o R G us t c c2 F U W H ρ ω Λ S) (hc : c ≤ 16) (hA : WA c F W) (hB : HA c F H) (p : Int32) : Pa (F_X8_size Λ.2.2 S x p) (fun r => r.1 = aSize c F U W H p) := by
  have h320 := h.1.2.2.2.2.2.2.2.2.1
  obtain ⟨cs, pa, e321, kw⟩ := h.wk
  obtain ⟨ro, -, -, -, -, e322, -⟩ := h.rows
  unfold F_X8_size aSize
  refine Pa_r h320 ?_
  cases e : uo c F.1 p with
  | none => exact Pa_be (at_none h.1 hc h.2.1 e) (Pa_on rfl (Pa_some rfl))
  | some k =>
    obtain ⟨u, hu, ea, -⟩ := at_some h.1 hc h.2.1 e
    obtain ⟨-, hk, hT, -⟩ := uo_some e
    refine Pa_be ea (Pa_oS rfl (Pa_m e321 (Pa_m h320 (Pa_bs (Pa_bind (sa_val h hc hA hB kw) (fun S8 _ A => ?_))))))
    have h8 := h.fz A.1 (by unfold fzA; decide) (by unfold arA; decide)
    have e320 : gFR S8 320 x = some us := h8.1.2.2.2.2.2.2.2.2.1
    refine Pa_m ((A.1.fr 322 x).trans e322) (Pa_m e320 (Pa_bs (Pa_obd (nw_val h8 hc hA (SC.vs h A.1 (by unfold arA; decide) A.2) ((A.1.fr 322 x).trans e322) hk hT ((h.1.row A.1 k).trans hu)) (fun v S15 _ hv => ?_))))
    obtain ⟨r1, l1, e1, -, hJ, -⟩ := hv
    have e1 : v = some r1 := e1
    subst e1
    unfold F_X3_length
    exact Pa_bs (Pa_bs (Pa_some hJ.1))
end
