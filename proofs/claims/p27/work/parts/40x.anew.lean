/-! All made anew: the digest of all rows by the order. -/
theorem digF_c {h v : Int64} {r : List Int64} : digF h (v :: r) = digF (mixJ h v) r := rfl
noncomputable def anL (s : aS) (l : List Nat) (h : Int64) : Int64 := digF h (l.map (fun u => digJ (sR s u)))
theorem anL_c {s : aS} {u : Nat} {r : List Nat} {h : Int64} : anL s (u :: r) h = anL s r (mixJ h (digJ (sR s u))) := by
  unfold anL
  rw [List.map_cons, digF_c]
theorem anL_0 {s : aS} {h : Int64} : anL s [] h = h := by
  unfold anL
  rw [List.map_nil]
  rfl
noncomputable def aAnew (s : aS) : Int64 := anL s (sO s) 17
section
variable {x m o us t c c2 : Nat} {R : List Nat} {G : Nat → Nat} {ρ ω : Nat → Nat} {Λ : sLay} {S S0 S1 : sSt} {F : aF} {U W : aU} {H : aH} {K : aK}
theorem an_loop (h0 : CA x m o R G us t c c2 F U W H ρ ω Λ S0) (hc : c ≤ 16) (hA : WA c F W) (hV : VS c F W H t S0) {ri a b l dd : Nat} (kI : KI R ρ Λ S0 ri a b l dd) (e323 : gFR S0 323 x = some ri) {L : List Nat} (hL : LsI Λ.2.2 S0 l dd (L.map nI)) (hin : ∀ v, v ∈ L → v < c ∧ F.1 v = true) (l16 : L.length ≤ 16) : ∀ (n i : Nat) (hh : Int64) (S1 : sSt), i ≤ L.length → Sh (S0, fzW, ρ, arX 160) (own Λ R) S1 → Pa (L_X8_anew_28 Λ.2.2 n S1 x hh (nI i)) (fun r => r.1 = anL (c, F, U, W, H) (L.drop i) hh)
  | 0, _, _, _, _, _ => Pa_none
  | n + 1, i, hh, S1, hi, g => by
    have h1 := h0.fz g (by unfold fzA; decide) (arX_A (Or.inl rfl))
    have hV1 := VS.fz h0 hV g rfl (arX_A (Or.inl rfl))
    have e320 : gFR S1 320 x = some us := h1.1.2.2.2.2.2.2.2.2.1
    have e323' := (g.fr 323 x).trans e323
    have e82 := (g.fr 82 ri).trans kI.2.2.2.1
    obtain ⟨ro, -, -, -, -, e322, -⟩ := h1.rows
    have hL1 : LsI Λ.2.2 S1 l dd (L.map nI) := hL.fz kI.2.2.2.2.2.1.2.2.1 kI.2.2.2.2.2.1.2.2.2 g (by rw [kI.2.2.2.2.2.2.1.2.2.1]; rfl) (by rw [kI.2.2.2.2.2.2.1.2.2.2]; rfl)
    show Pa (Y_X8_anew_28 Λ.2.2 (L_X8_anew_28 Λ.2.2 n) S1 x hh (nI i)) _
    unfold Y_X8_anew_28 B_X8_anew_88 F_X1_length F_X3_mix
    refine Pa_r e323' (Pa_r e82 (Pa_bs ?_))
    rw [hL1.1, List.length_map]
    by_cases c0 : i = L.length
    · refine Pa_it (leN (by omega) (by omega) (by omega)) (Pa_some ?_)
      rw [List.drop_eq_nil_of_le (by omega), anL_0]
    · have lt : i < L.length := by omega
      rw [List.drop_eq_getElem_cons lt, anL_c]
      obtain ⟨hv, hT⟩ := hin L[i] (List.getElem_mem lt)
      obtain ⟨w, hw, ea, -⟩ := at_some h1.1 hc h1.2.1 (uo_at hv hc hT)
      refine Pa_if (nleN (by omega) (by omega) lt) (Pa_m e320 (Pa_r e323' (Pa_r e82 (Pa_be (at_val hL1 (by rw [List.length_map]; exact lt)) (Pa_bs ?_)))))
      rw [List.getElem_map, n_a1 i]
      refine Pa_be ea (Pa_oS rfl (Pa_m e322 (Pa_m e320 (Pa_bs (Pa_obd (nw_val h1 hc hA hV1 e322 hv hT hw) (fun y S32 _ hy => ?_))))))
      obtain ⟨r1, l1, e1, q2, hJ, -⟩ := hy
      have e1 : y = some r1 := e1
      have q2 : Sh (S1, fzW, ρ, arX 160) (own Λ R) S32 := q2
      have hJ : RJ Λ.2.2 S32 r1 l1 (rwR c F U W H L[i]) := hJ
      subst e1
      refine Pa_bs (Pa_bind (dg_val hJ) (fun v34 _ hv34 => Pa_bs ?_))
      rw [hv34]
      exact an_loop h0 hc hA hV kI e323 hL hin l16 n (i + 1) _ S32 lt (g.up q2 (fun _ z => z) (fun _ z => z))
theorem anew_c (h : CA x m o R G us t c c2 F U W H ρ ω Λ S) (hc : c ≤ 16) (hA : WA c F W) (hB : HA c F H) (hM : MA c F) : Pa (F_X8_anew Λ.2.2 S x) (fun r => r.1 = aAnew (c, F, U, W, H)) := by
  have h320 := h.1.2.2.2.2.2.2.2.2.1
  obtain ⟨cs, pa, e321, kw⟩ := h.wk
  unfold F_X8_anew
  refine Pa_m e321 (Pa_m h320 (Pa_bs (Pa_bind (sa_val h hc hA hB kw) (fun S5 _ A => ?_))))
  have h5 := h.fz A.1 (by unfold fzA; decide) (by unfold arA; decide)
  have V5 := SC.vs h A.1 (by unfold arA; decide) A.2
  have e320 : gFR S5 320 x = some us := h5.1.2.2.2.2.2.2.2.2.1
  obtain ⟨ri, a, b, l, d, e323, kI⟩ := h5.ri
  refine Pa_m e323 (Pa_m e320 (Pa_bs (Pa_bind (ag_val h5 hc hA hM kI) (fun S10 _ h10 => ?_))))
  obtain ⟨g, -, hR⟩ := h10
  obtain ⟨hL, l16⟩ := fla_len h5 kI g hR
  have h10 := h5.fz g (by unfold fzA; decide) (by unfold arA; decide)
  have z := an_loop h10 hc hA (VS.fz h5 V5 g rfl (by unfold arA; decide)) (kI.go g) ((g.fr 323 x).trans e323) hL (fun v hv => sO_in hA hc hv) l16 FU 0 17 S10 (Nat.zero_le _) (h10.1.shz _ _)
  rw [List.drop_zero] at z
  exact z
end
section
variable {m c : Nat} {G : Nat → Nat} {Λ : sLay} {S S0 S1 S2 : sSt} {F : aF} {U W : aU} {H : aH} {K : aK}
theorem anr_loop (h0 : RR m G Λ c F U W H S0) (hc : c ≤ 16) (hA : WA c F W) (hM : MA c F) {L : List Nat} (hQ1 : gFI S0 393 m = nI L.length) (hQ2 : ∀ (i v : Nat), L[i]? = some v → gAI S0 (G 392) i = nI v) (hin : ∀ v, v ∈ L → v < c ∧ F.1 v = true) (l16 : L.length ≤ 16) : ∀ (n i : Nat) (hh : Int64) (S1 : sSt), i ≤ L.length → MI m G Λ (S0, S0, nfz [387, 388, 389]) S1 → Pa (L_X9_anew_19 Λ.2.2 n S1 m hh (nI i)) (fun r => r.1 = anL (c, F, U, W, H) (L.drop i) hh)
  | 0, _, _, _, _, _ => Pa_none
  | n + 1, i, hh, S1, hi, g => by
    have h1 : RR m G Λ c F U W H S1 := h0.mi g (by unfold fyA; decide) rfl
    have hG := h1.1.1
    show Pa (Y_X9_anew_19 Λ.2.2 (L_X9_anew_19 Λ.2.2 n) S1 m hh (nI i)) _
    unfold Y_X9_anew_19 F_X9_mixed
    rw [(g.2 393 rfl).1, hQ1]
    by_cases c0 : i = L.length
    · refine Pa_it (leN (by omega) (by omega) (by omega)) (Pa_some ?_)
      rw [List.drop_eq_nil_of_le (by omega), anL_0]
    · have lt : i < L.length := by omega
      rw [List.drop_eq_getElem_cons lt, anL_c]
      obtain ⟨hv, hT⟩ := hin L[i] (List.getElem_mem lt)
      have e392 : gAI S1 (G 392) (Int32.toNatClampNeg (nI i)) = nI L[i] := by
        rw [n_cl (by omega), ((g.2 392 rfl).2 rfl i).1]
        exact hQ2 i _ (List.getElem?_eq_getElem lt)
      refine Pa_if (nleN (by omega) (by omega) lt) (Pa_r (hG.1 392 rfl) (Pa_g ?_))
      rw [e392, n_a1 i]
      refine Pa_bind (Pa_and (lr_val h1 hc hA hM hv hT) (Pa_T (tF_X9_layRow (Y := (S0, S0, nfz [387, 388, 389])) rfl rfl rfl S1 g (nI L[i]) L[i] rfl (by omega)))) (fun S9 _ h9 => ?_)
      obtain ⟨hL, hI, -⟩ := h9
      refine Pa_bind (ld_val hG hL) (fun v10 _ hv10 => Pa_bs ?_)
      rw [hv10]
      exact anr_loop h0 hc hA hM hQ1 hQ2 hin l16 n (i + 1) _ S9 lt hI
theorem anew_r (h : RA m G Λ c F U W H S) (hc : c ≤ 16) (hA : WA c F W) (hB : HA c F H) (hM : MA c F) (l16 : (fla (aOrd c F U W H)).length ≤ 16) : Pa (F_X9_anew Λ.2.2 S m) (fun r => r.1 = aAnew (c, F, U, W, H)) := by
  unfold F_X9_anew
  refine Pa_b (fov_val h hc hA hB hM (fun S7 hRR e1 e2 hI => ?_))
  have z := anr_loop hRR hc hA hM e1 e2 (fun v hv => sO_in hA hc hv) l16 FU 0 17 S7 (Nat.zero_le _) (hI.c.self.mi _)
  rw [List.drop_zero] at z
  exact z
end
