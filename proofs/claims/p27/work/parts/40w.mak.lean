/-! Units are made by the order. -/
noncomputable def mkL (s : aS) (q : Nat) : List Nat → Nat → aK → Nat × aK
  | [], d, K => (d, K)
  | u :: r, d, K => if q ≤ d then (d, K) else if aWhy K s u = 0 then mkL s q r d K else mkL s q r (d + 1) (kpK K s u)
theorem mkL_c {s : aS} {q u d : Nat} {r : List Nat} {K : aK} : mkL s q (u :: r) d K = if q ≤ d then (d, K) else if aWhy K s u = 0 then mkL s q r d K else mkL s q r (d + 1) (kpK K s u) := rfl
abbrev sO (s : aS) : List Nat := fla (aOrd s.1 s.2.1 s.2.2.1 s.2.2.2.1 s.2.2.2.2)
noncomputable def aMake (s : aS) (K : aK) (p : Int32) : Int32 × aK × Int32 := if p < 0 ∨ (16 : Int32) < p then (-2, K, 0) else (nI (mkL s p.toNatClampNeg (sO s) 0 K).1, (mkL s p.toNatClampNeg (sO s) 0 K).2, nI (mkL s p.toNatClampNeg (sO s) 0 K).1)
theorem ord_mem {E : aE} {T : Nat → Bool} (hI : inE T E) : ∀ (n : Nat) (P : Nat → Bool) (x : Nat), x ∈ fla (ordL E T n P) → T x = true
  | 0, _, _, h => absurd h List.not_mem_nil
  | n + 1, P, x, h => by
    cases e : lstF (candB E T P) 16 with
    | none =>
      rw [ordL_n e] at h
      exact absurd h List.not_mem_nil
    | some u =>
      rw [ordL_s e] at h
      rcases List.mem_append.mp h with a | b
      · exact one_t hI (cand_i.mp (lstF_s 16 u e).2.1).1 (rgL_m.mp a).2
      · exact ord_mem hI n _ x b
theorem sO_in {c : Nat} {F : aF} {U W : aU} {H : aH} (hA : WA c F W) (hc : c ≤ 16) {v : Nat} (h : v ∈ fla (aOrd c F U W H)) : v < c ∧ F.1 v = true := tE_i.mp (ord_mem (lE_in hA hc) 16 _ v h)
abbrev arM : Nat → Bool := nfz [246, 1246, 2246, 160, 1160, 2160, 161, 1161, 2161, 243, 1243, 2243]
theorem fzM_W : ∀ f, fzM f = true → fzW f = true := nfz_sub (by decide)
theorem arM_A : arA arM := by unfold arA; decide
theorem arM_160 : ∀ f, arM f = true → arX 160 f = true := nfz_sub (by decide)
theorem arM_243 : ∀ f, arM f = true → arX 243 f = true := nfz_sub (by decide)
section
variable {x m o us t c c2 : Nat} {R : List Nat} {G : Nat → Nat} {ρ ω : Nat → Nat} {Λ : sLay} {S S0 S1 : sSt} {F : aF} {U W : aU} {H : aH} {K : aK}
theorem mk_loop (h0 : CA x m o R G us t c c2 F U W H ρ ω Λ S0) (hc : c ≤ 16) (hA : WA c F W) (hV : VS c F W H t S0) {ri a b l dd : Nat} (kI : KI R ρ Λ S0 ri a b l dd) (e323 : gFR S0 323 x = some ri) {L : List Nat} (hL : LsI Λ.2.2 S0 l dd (L.map nI)) (hin : ∀ v, v ∈ L → v < c ∧ F.1 v = true) (l16 : L.length ≤ 16) {q : Nat} (hq : q ≤ 16) {a0 : Int32} : ∀ (n i d : Nat) (K : aK) (S1 : sSt), i ≤ L.length → d ≤ i → Sh (S0, fzM, ρ, arM) (own Λ R) S1 → KC Λ.2.2 S1 t c F K → gFI S1 324 x = a0 + nI d → Pa (L_X8_make_39 Λ.2.2 n S1 x (nI q) (nI d) (nI i)) (fun r => r.1 = nI (mkL (c, F, U, W, H) q (L.drop i) d K).1 ∧ KC Λ.2.2 r.2 t c F (mkL (c, F, U, W, H) q (L.drop i) d K).2 ∧ gFI r.2 324 x = a0 + nI (mkL (c, F, U, W, H) q (L.drop i) d K).1)
  | 0, _, _, _, _, _, _, _, _, _ => Pa_none
  | n + 1, i, d, K, S1, hi, hd, g, hK, e4 => by
    have h1 := h0.fz g (by unfold fzA; decide) arM_A
    have hV1 := VS.fz h0 hV g rfl arM_A
    have e320 : gFR S1 320 x = some us := h1.1.2.2.2.2.2.2.2.2.1
    have e323' := (g.fr 323 x).trans e323
    have e82 := (g.fr 82 ri).trans kI.2.2.2.1
    obtain ⟨ro, -, -, -, -, e322, -⟩ := h1.rows
    have hL1 : LsI Λ.2.2 S1 l dd (L.map nI) := hL.fz kI.2.2.2.2.2.1.2.2.1 kI.2.2.2.2.2.1.2.2.2 g (by rw [kI.2.2.2.2.2.2.1.2.2.1]; rfl) (by rw [kI.2.2.2.2.2.2.1.2.2.2]; rfl)
    show Pa (Y_X8_make_39 Λ.2.2 (L_X8_make_39 Λ.2.2 n) S1 x (nI q) (nI d) (nI i)) _
    unfold Y_X8_make_39 B_X8_make_108 F_X1_length
    refine Pa_r e323' (Pa_r e82 (Pa_bs ?_))
    rw [hL1.1, List.length_map]
    by_cases c0 : i = L.length
    · refine Pa_it (leN (by omega) (by omega) (by omega)) (Pa_some ?_)
      rw [List.drop_eq_nil_of_le (by omega)]
      exact ⟨rfl, hK, e4⟩
    · have lt : i < L.length := by omega
      rw [List.drop_eq_getElem_cons lt, mkL_c]
      refine Pa_if (nleN (by omega) (by omega) lt) ?_
      by_cases cq : q ≤ d
      · rw [if_pos cq]
        exact Pa_it (leN (by omega) (by omega) cq) (Pa_some ⟨rfl, hK, e4⟩)
      · rw [if_neg cq]
        obtain ⟨hv, hT⟩ := hin L[i] (List.getElem_mem lt)
        obtain ⟨w, hw, ea, -⟩ := at_some h1.1 hc h1.2.1 (uo_at hv hc hT)
        refine Pa_if (nleN (by omega) (by omega) (by omega)) (Pa_m e320 (Pa_r e323' (Pa_r e82 (Pa_be (at_val hL1 (by rw [List.length_map]; exact lt)) (Pa_bs ?_)))))
        rw [List.getElem_map, n_a1 i]
        refine Pa_be ea (Pa_oS rfl (Pa_m e322 (Pa_m e320 (Pa_bs (Pa_obd (rsf_val h1 hc hA hV1 hK e322 hv hT hw) (fun y S32 _ hy => ?_))))))
        obtain ⟨q1, q2⟩ := hy
        have q1 : y = aWhy K (c, F, U, W, H) L[i] := q1
        have q2 : Sh (S1, fzW, ρ, arX 160) (own Λ R) S32 := q2
        have g32 : Sh (S0, fzM, ρ, arM) (own Λ R) S32 := g.up q2 fzM_W arM_160
        have hK32 := hK.fz h1 q2 rfl rfl rfl
        have e32 : gFI S32 324 x = a0 + nI d := ((q2.2.2.2.2.2.2.2.1 324 rfl x).1).trans e4
        by_cases cw : aWhy K (c, F, U, W, H) L[i] = 0
        · rw [if_pos cw]
          exact Pa_it (q1.trans cw) (mk_loop h0 hc hA hV kI e323 hL hin l16 hq n (i + 1) d K S32 lt (by omega) g32 hK32 e32)
        · rw [if_neg cw]
          have h32 := h1.fz q2 (by unfold fzA; decide) (arX_A (Or.inl rfl))
          refine Pa_if (fun z => cw (q1.symm.trans z)) (Pa_bind (mk1_val h32 hc hA (VS.fz h1 hV1 q2 rfl (arX_A (Or.inl rfl))) hK32 hv hT ((h1.1.row q2 L[i]).trans hw)) (fun S34 _ g4 => ?_))
          obtain ⟨y1, y2, y3, -⟩ := g4
          rw [n_a1 d]
          exact mk_loop h0 hc hA hV kI e323 hL hin l16 hq n (i + 1) (d + 1) _ S34 lt (by omega) (g32.up y1 (fun _ z => z) arM_243) y2 (by rw [y3, e32, Int32.add_assoc, n_a1])
theorem make_c (h : CA x m o R G us t c c2 F U W H ρ ω Λ S) (hK : KC Λ.2.2 S t c F K) (hc : c ≤ 16) (hA : WA c F W) (hB : HA c F H) (hM : MA c F) (p : Int32) : Pa (F_X8_make Λ.2.2 S x p) (fun r => r.1 = (aMake (c, F, U, W, H) K p).1 ∧ KC Λ.2.2 r.2 t c F (aMake (c, F, U, W, H) K p).2.1 ∧ gFI r.2 324 x = gFI S 324 x + (aMake (c, F, U, W, H) K p).2.2) := by
  have h320 := h.1.2.2.2.2.2.2.2.2.1
  obtain ⟨cs, pa, e321, kw⟩ := h.wk
  unfold F_X8_make aMake
  by_cases c0 : p < 0
  · rw [if_pos (Or.inl c0)]
    exact Pa_it c0 (Pa_some ⟨rfl, hK, (Int32.add_zero _).symm⟩)
  · obtain ⟨q, hq, rfl⟩ := nI_of c0
    by_cases c1 : q ≤ 16
    · have n1 : ¬ (nI q < 0 ∨ (16 : Int32) < nI q) := fun z => z.elim c0 (nltN (a := 16) (by omega) (by omega) c1)
      rw [if_neg n1, n_cl hq]
      refine Pa_if c0 (Pa_it (leN (b := 16) (by omega) (by omega) c1) (Pa_m e321 (Pa_m h320 (Pa_bs (Pa_bind (sa_val h hc hA hB kw) (fun S5 _ A => ?_))))))
      have h5 := h.fz A.1 (by unfold fzA; decide) (by unfold arA; decide)
      have V5 := SC.vs h A.1 (by unfold arA; decide) A.2
      have hK5 := hK.fz h A.1 rfl rfl rfl
      have e320 : gFR S5 320 x = some us := h5.1.2.2.2.2.2.2.2.2.1
      obtain ⟨ri, a, b, l, d, e323, kI⟩ := h5.ri
      refine Pa_m e323 (Pa_m e320 (Pa_bs (Pa_bind (ag_val h5 hc hA hM kI) (fun S10 _ h10 => ?_))))
      obtain ⟨g, -, hR⟩ := h10
      obtain ⟨hL, l16⟩ := fla_len h5 kI g hR
      have h10 := h5.fz g (by unfold fzA; decide) (by unfold arA; decide)
      have e4 : gFI S10 324 x = gFI S 324 x + nI 0 := (((g.2.2.2.2.2.2.2.1 324 rfl x).1).trans ((A.1.2.2.2.2.2.2.2.1 324 rfl x).1)).trans (Int32.add_zero _).symm
      have z := mk_loop h10 hc hA (VS.fz h5 V5 g rfl (by unfold arA; decide)) (kI.go g) ((g.fr 323 x).trans e323) hL (fun v hv => sO_in hA hc hv) l16 c1 FU 0 0 K S10 (Nat.zero_le _) (Nat.le_refl _) (h10.1.shz _ _) (hK5.fz h5 g rfl rfl rfl) e4
      rw [List.drop_zero] at z
      exact z
    · have n1 : (16 : Int32) < nI q := ltN (a := 16) (by omega) (by omega) (by omega)
      rw [if_pos (Or.inr n1)]
      exact Pa_if c0 (Pa_if (nleN (b := 16) (by omega) (by omega) (by omega)) (Pa_some ⟨rfl, hK, (Int32.add_zero _).symm⟩))
end
section
variable {m c : Nat} {G : Nat → Nat} {Λ : sLay} {S S0 S1 S2 : sSt} {F : aF} {U W : aU} {H : aH} {K : aK}
abbrev fyM : Nat → Bool := nfz [375, 376, 377, 378, 387, 388, 389]
theorem mr_loop (h0 : RR m G Λ c F U W H S0) (hc : c ≤ 16) (hA : WA c F W) (hM : MA c F) {L : List Nat} (hQ1 : gFI S0 393 m = nI L.length) (hQ2 : ∀ (i v : Nat), L[i]? = some v → gAI S0 (G 392) i = nI v) (hin : ∀ v, v ∈ L → v < c ∧ F.1 v = true) (l16 : L.length ≤ 16) {q : Nat} (hq : q ≤ 16) {a0 : Int32} : ∀ (n i d : Nat) (K : aK) (S1 : sSt), i ≤ L.length → d ≤ i → MI m G Λ (S0, S0, fyM) S1 → RKp G S1 c F K → gFI S1 378 m = a0 + nI d → Pa (L_X9_make_30 Λ.2.2 n S1 m (nI q) (nI d) (nI i)) (fun r => r.1 = nI (mkL (c, F, U, W, H) q (L.drop i) d K).1 ∧ RKp G r.2 c F (mkL (c, F, U, W, H) q (L.drop i) d K).2 ∧ gFI r.2 378 m = a0 + nI (mkL (c, F, U, W, H) q (L.drop i) d K).1)
  | 0, _, _, _, _, _, _, _, _, _ => Pa_none
  | n + 1, i, d, K, S1, hi, hd, g, hK, e4 => by
    have h1 : RR m G Λ c F U W H S1 := h0.mi g (by unfold fyA; decide) rfl
    have hG := h1.1.1
    show Pa (Y_X9_make_30 Λ.2.2 (L_X9_make_30 Λ.2.2 n) S1 m (nI q) (nI d) (nI i)) _
    unfold Y_X9_make_30 B_X9_make_79
    rw [(g.2 393 rfl).1, hQ1]
    by_cases c0 : i = L.length
    · refine Pa_it (leN (by omega) (by omega) (by omega)) (Pa_some ?_)
      rw [List.drop_eq_nil_of_le (by omega)]
      exact ⟨rfl, hK, e4⟩
    · have lt : i < L.length := by omega
      rw [List.drop_eq_getElem_cons lt, mkL_c]
      refine Pa_if (nleN (by omega) (by omega) lt) ?_
      by_cases cq : q ≤ d
      · rw [if_pos cq]
        exact Pa_it (leN (by omega) (by omega) cq) (Pa_some ⟨rfl, hK, e4⟩)
      · rw [if_neg cq]
        obtain ⟨hv, hT⟩ := hin L[i] (List.getElem_mem lt)
        have e392 : ∀ {S' : sSt}, MI m G Λ (S0, S0, fyM) S' → gAI S' (G 392) (Int32.toNatClampNeg (nI i)) = nI L[i] := fun g' => by
          rw [n_cl (by omega), ((g'.2 392 rfl).2 rfl i).1]
          exact hQ2 i _ (List.getElem?_eq_getElem lt)
        refine Pa_if (nleN (by omega) (by omega) (by omega)) (Pa_r (hG.1 392 rfl) (Pa_g ?_))
        rw [e392 g, n_a1 i]
        refine Pa_bind (Pa_and (Pa_and (lr_val h1 hc hA hM hv hT) (Pa_T (tF_X9_layRow (Y := (S0, S0, fyM)) rfl rfl rfl S1 g (nI L[i]) L[i] rfl (by omega)))) (Pa_T (tF_X9_layRow (Y := (S1, S1, nfz [387, 388, 389])) rfl rfl rfl S1 (g.c.self.mi _) (nI L[i]) L[i] rfl (by omega)))) (fun S11 _ h11 => ?_)
        obtain ⟨⟨hL, hI, -⟩, hJ, -⟩ := h11
        have hK11 : RKp G S11 c F K := hK.mi hJ rfl rfl rfl
        have e11 : gFI S11 378 m = a0 + nI d := ((hJ.2 378 rfl).1).trans e4
        have gg : gFR S11 392 m = some (G 392) := hG.g hL.1.1 392
        refine Pa_r gg (Pa_g ?_)
        rw [e392 hI]
        refine Pa_bind (wo_val hG (h1.sz hv hT) hv hc hT hL hK11) (fun v14 _ hw => ?_)
        rw [hw]
        by_cases cw : aWhy K (c, F, U, W, H) L[i] = 0
        · rw [if_pos cw]
          exact Pa_it (aWhy_le.mpr cw) (mr_loop h0 hc hA hM hQ1 hQ2 hin l16 hq n (i + 1) d K S11 lt (by omega) hI hK11 e11)
        · rw [if_neg cw]
          refine Pa_if (fun z => cw (aWhy_le.mp z)) (Pa_r gg (Pa_g ?_))
          rw [e392 hI]
          refine Pa_bind (Pa_and (kp_val hG (by omega) hL (fun i hi => sP_q (s := (c, F, U, W, H)) hi)) (Pa_T (tF_X9_keep (Y := (S0, S0, fyM)) rfl rfl rfl rfl S11 hI (nI L[i]) L[i] rfl (by omega)))) (fun S19 _ h19 => ?_)
          obtain ⟨hD, hI19⟩ := h19
          rw [n_a1 d]
          exact mr_loop h0 hc hA hM hQ1 hQ2 hin l16 hq n (i + 1) (d + 1) _ S19 lt (by omega) hI19 (hK11.keep (s := (c, F, U, W, H)) hc (h1.sz hv hT) hL.2.2.1 hv hT hD) (by rw [hD.2.2.2.2.2.2, e11, Int32.add_assoc, n_a1])
/-- the order is found, and the values are reckoned -/
theorem fov_val (h : RA m G Λ c F U W H S) (hc : c ≤ 16) (hA : WA c F W) (hB : HA c F H) (hM : MA c F) {β : Type} {P : β → Prop} {f : sSt → Option β} (hk : ∀ S7, RR m G Λ c F U W H S7 → gFI S7 393 m = nI (fla (aOrd c F U W H)).length → (∀ (i v : Nat), (fla (aOrd c F U W H))[i]? = some v → gAI S7 (G 392) i = nI v) → MI m G Λ (S, S, nfz [360, 379, 380, 381, 390, 391, 392, 393, 394]) S7 → Pa (f S7) P) : Pa (Option.bind (F_X9_findOrder Λ.2.2 (sFI S 360 m 0) m) (fun S5 => Option.bind (F_X9_reckon Λ.2.2 S5 m) f)) P := by
  have hmi : MI m G Λ (S, S, nfz [360, 379, 380, 381, 390, 391, 392, 393, 394]) (sFI S 360 m 0) := h.1.mi0 rfl
  refine Pa_bind (Pa_and (fo_val h.rc hc hA hM) (Pa_T (tF_X9_findOrder (Y := (S, S, nfz [360, 379, 380, 381, 390, 391, 392, 393, 394])) rfl rfl rfl rfl rfl _ hmi))) (fun S5 _ h5 => ?_)
  obtain ⟨⟨K, -, hR⟩, hI⟩ := h5
  obtain ⟨-, r2, r3, -⟩ := hR
  rw [List.append_nil] at r2 r3
  have hRC := h.rc.kq K
  refine Pa_bind (Pa_and (Pa_and (rk_val hRC.1 hc hA hB) (Pa_T (tF_X9_reckon (Y := (S, S, nfz [360, 379, 380, 381, 390, 391, 392, 393, 394])) rfl rfl rfl _ hI))) (Pa_T (tF_X9_reckon (Y := (S5, S5, nfz [379, 380, 381])) rfl rfl rfl _ (hI.c.self.mi _)))) (fun S7 _ h7 => ?_)
  obtain ⟨⟨A, hI7⟩, hJ⟩ := h7
  exact hk S7 (A.rr hRC.2 hRC.1) (((hJ.2 393 rfl).1).trans r2) (fun i v hv => (((hJ.2 392 rfl).2 rfl i).1).trans (r3 i v hv)) hI7
theorem make_r (h : RA m G Λ c F U W H S) (hK : RKp G S c F K) (hc : c ≤ 16) (hA : WA c F W) (hB : HA c F H) (hM : MA c F) (l16 : (fla (aOrd c F U W H)).length ≤ 16) (p : Int32) : Pa (F_X9_make Λ.2.2 S m p) (fun r => r.1 = (aMake (c, F, U, W, H) K p).1 ∧ RKp G r.2 c F (aMake (c, F, U, W, H) K p).2.1 ∧ gFI r.2 378 m = gFI S 378 m + (aMake (c, F, U, W, H) K p).2.2) := by
  unfold F_X9_make F_X9_in aMake
  refine Pa_b ?_
  have out : Pa (some ((-2 : Int32), sFI S 360 m 0)) (fun r : Int32 × sSt => r.1 = ((-2, K, 0) : Int32 × aK × Int32).1 ∧ RKp G r.2 c F ((-2, K, 0) : Int32 × aK × Int32).2.1 ∧ gFI r.2 378 m = gFI S 378 m + ((-2, K, 0) : Int32 × aK × Int32).2.2) := Pa_some ⟨rfl, hK.cg (fun _ => rfl) (fun _ => rfl) (fun _ => rfl), by
    show gFI (sFI S 360 m 0) 378 m = _ + 0
    rw [gFI_ne (by decide), Int32.add_zero]⟩
  by_cases c0 : p < 0
  · rw [if_pos c0, if_pos (Or.inl c0)]
    exact Pa_bs (Pa_it rfl out)
  · obtain ⟨q, hq, rfl⟩ := nI_of c0
    by_cases c1 : q ≤ 16
    · have n16 : ¬ (16 : Int32) < nI q := nltN (a := 16) (by omega) (by omega) c1
      rw [if_neg c0, if_neg n16, if_neg (fun z => z.elim c0 n16), n_cl hq]
      refine Pa_bs (Pa_if (by decide) (fov_val h hc hA hB hM (fun S7 hRR e1 e2 hI => ?_)))
      have e4 : gFI S7 378 m = gFI S 378 m + nI 0 := ((hI.2 378 rfl).1).trans (Int32.add_zero _).symm
      have z := mr_loop hRR hc hA hM e1 e2 (fun v hv => sO_in hA hc hv) l16 c1 FU 0 0 K S7 (Nat.zero_le _) (Nat.le_refl _) (hI.c.self.mi _) (hK.mi hI rfl rfl rfl) e4
      rw [List.drop_zero] at z
      exact z
    · have n1 : (16 : Int32) < nI q := ltN (a := 16) (by omega) (by omega) (by omega)
      rw [if_neg c0, if_pos n1, if_pos (Or.inr n1)]
      exact Pa_bs (Pa_it rfl out)
end
