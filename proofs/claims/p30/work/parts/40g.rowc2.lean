/-! The class writes a row: finds, marks, the whole. -/
section
variable {x m o us t c c2 : Nat} {R : List Nat} {G : Nat → Nat} {ρ ω : Nat → Nat} {Λ : sLay} {S0 S S1 S2 S3 Sa : sSt} {F : aF} {U W : aU} {H : aH} {q r la : Nat} {A : Nat → Bool} {ys zs Z rest : List Int64}
theorem VS.fz (h0 : CA x m o R G us t c c2 F U W H ρ ω Λ S0) (hV : VS c F W H t S0) {fz Ar : Nat → Bool} (g : Sh (S0, fz, ρ, Ar) (own Λ R) S1) (f : fz 206 = true) (a : arA Ar) : VS c F W H t S1 := fun z th hz => by
  have e : Ad S1 t z = Ad S0 t z := by
    unfold Ad
    rw [ad_fz h0 g a z]
  rw [e, (g.2.2.2.2.2.2.2.1 206 f _).2]
  exact hV z th hz
theorem RJ.fz {fz Ar : Nat → Bool} {xs : List Int64} (hJ : RJ Λ.2.2 S0 r la xs) (tr : isK (own Λ R) 3 r) (tla : isK (own Λ R) 11 la) (g : Sh (S0, fz, ρ, Ar) (own Λ R) S1) (a1 : Ar (ρ r) = true) (a2 : Ar (ρ la) = true) : RJ Λ.2.2 S1 r la xs := hJ.same ((g.2.2.2.2.2.2.2.2.2 r tr.1 (by rw [tr.2]; rfl) a1).1 121) (g.fr 120 r) (g.2.2.2.2.2.2.2.2.2 la tla.1 (by rw [tla.2]; rfl) a2).2.2.2.1
theorem wz_val (h0 : CA x m o R G us t c c2 F U W H ρ ω Λ S0) (hc : c ≤ 16) (hWA : WA c F W) (hV : VS c F W H t S0) (hq : rq q) (k : WR R ρ Λ (arW q) q r la) (hZ : Z.length ≤ 680) {j u : Nat} (hj : j < c) (hT : F.1 j = true) (hu : gAR S0 t j = some u) (h : WS R ρ Λ S0 (arW q) r la S1 ys) (a : kf Sa S1) (eZ : ys ++ (rwC U W H j ++ (rwD W H j ++ rest)) = Z) : Pa (F_X4_writeFinds Λ.2.2 S1 (some r) (some u) (some us)) (fun S2 => ∃ zs, WS R ρ Λ S0 (arW q) r la S2 zs ∧ kf Sa S2 ∧ zs ++ rest = Z) := by
  have h1 := h.ca h0 (arW_A hq)
  have hu1 : gAR S1 t j = some u := (h0.1.row h.1 j).trans hu
  have tu := h1.1.un hu1
  obtain ⟨l, b, rl, tl, hso⟩ := so_val h1 hj hT hu1
  unfold F_X4_writeFinds
  refine Pa_bs (Pa_obd (Pa_T (T_Pa (tF_X6_sought (Z := (S1, nfz [41], ρ, nfz [246, 1246, 2246])) (Λ := own Λ R) S1 (h1.1.shz _ _) ⟨rfl, rfl, rfl⟩ rfl u tu) hso)) (fun v S3 _ hv => ?_))
  obtain ⟨⟨g3, -⟩, e1, lf, hL⟩ := hv
  have e1 : v = some l := e1
  subst e1
  have g3 : Sh (S1, nfz [41], ρ, nfz [246, 1246, 2246]) (own Λ R) S3 := g3
  have hL : LsI Λ.2.2 S3 l b (soL U H j) := hL
  have h3 := h1.fz g3 (by unfold fzA; decide) (by unfold arA; decide)
  have hV1 := VS.fz h0 hV h.1 (by decide) (arW_A hq)
  have hV3 := VS.fz h1 hV1 g3 (by decide) (by unfold arA; decide)
  have hu3 : gAR S3 t j = some u := (h1.1.row g3 j).trans hu1
  obtain ⟨tb, rb, -⟩ := h3.1.fb tl hL.2.1
  have kQ : WR R ρ Λ (arQ q) q r la := ⟨arQ_q.1, arQ_q.2, k.2.2⟩
  have hJ3 : RJ Λ.2.2 S3 r la ys := h.2.fz k.2.2.1 k.2.2.2.1 g3 (by rw [k.2.2.2.2.1]; rcases hq with rfl | rfl | rfl <;> rfl) (by rw [k.2.2.2.2.2]; rcases hq with rfl | rfl | rfl <;> rfl)
  have w3 : WS R ρ Λ S3 (arQ q) r la S3 ys := ⟨h3.1.shz _ _, hJ3⟩
  have a13 : kf S1 S3 := fun f z _ n41 => (g3.2.2.2.2.2.2.2.1 f (by simp [nfz, n41]) z).1
  obtain ⟨u2, l2, b2, hu2, e242, hL2⟩ := h3.2.2.1 j hj hT
  rw [hu3] at hu2
  cases hu2
  have hUl := hL2.lt
  unfold F_X1_length
  refine Pa_r e242 (Pa_bs ?_)
  rw [hL2.1]
  refine Pa_bs (w3.bi kQ (a.tr a13) eZ hZ (fun S4 h4 a4 _ e4 => ?_))
  have hso2 := so_val h3 hj hT hu3
  refine Pa_mono (ws_loop (A := arQ q) (rest := rest) (d := (U j).length) (l := l) (b := b) (xs := soL U H j) h3 hc hWA hV3 (arQ_A hq) kQ hZ hj hT hu3 hUl (fun S' ys' w' => hL.fz tl tb w'.1 (by rw [rl]; exact (arQ_so hq).1) (by rw [rb, rl]; exact (arQ_so hq).2)) FU 0 S4 _ (Nat.zero_le _) h4 a4 ?_) (fun S5 hr => ?_)
  · rw [List.drop_zero, Nat.sub_zero]
    have e5 : fiJ W H j (U j).length (soL U H j) = usJ W H j (U j) ++ blJ W H j (blL (H j)) := fiJ_app
    have e4 : (ys ++ [tj (nI (U j).length)]) ++ (usJ W H j (U j) ++ (rwD W H j ++ rest)) = Z := e4
    rw [e5, List.append_assoc (usJ W H j (U j))]
    exact e4
  · obtain ⟨zs, h5, a5, e5⟩ := hr
    exact ⟨zs, ⟨(h.1.up g3 (nfz_sub (by decide)) arW_so).up h5.1 (fun _ z => z) arW_Q, h5.2⟩, a5, e5⟩
/-- the marks of one unit -/
theorem wm_in (h0 : CA x m o R G us t c c2 F U W H ρ ω Λ S0) (hc : c ≤ 16) (hA : arA A) (k : WR R ρ Λ A q r la) (hZ : Z.length ≤ 680) {j u w : Nat} (hj : j < c) (hT : F.1 j = true) (hu : gAR S0 t j = some u) {P : sSt → Prop} {kk : sSt → Option Nat → Nat → Option Nat → Int32 → Option sSt} (hkk : ∀ S' zs, WS R ρ Λ S0 A r la S' zs → kf Sa S' → zs ++ rest = Z → Pa (kk S' (some r) w (some us) (nI j + 1)) P) : ∀ (n i : Nat) (S1 : sSt) (ys : List Int64), i ≤ (H j).length → WS R ρ Λ S0 A r la S1 ys → kf Sa S1 → ys ++ (mkJ j ((H j).drop i) ++ rest) = Z → Pa (L_X4_writeMarks_43 Λ.2.2 kk n S1 (some r) w us (nI j) (some u) (nI i)) P
  | 0, _, _, _, _, _, _, _ => Pa_none
  | n + 1, i, S1, ys, hi, h, a, eZ => by
    obtain ⟨tt, g1, ga⟩ := h0.un2 hc h.1 (by unfold fzA; decide) hA hj hT hu
    have hl := g1.2.2.1
    show Pa (Y_X4_writeMarks_43 Λ.2.2 kk (L_X4_writeMarks_43 Λ.2.2 kk n) S1 (some r) w us (nI j) (some u) (nI i)) P
    unfold Y_X4_writeMarks_43 B_X4_writeMarks_118 B_X4_writeMarks_112
    refine Pa_oS rfl (Pa_be (tC_val g1) ?_)
    by_cases c0 : i = (H j).length
    · refine Pa_it (leN (by omega) (by omega) (by omega)) (hkk S1 ys h a ?_)
      rw [List.drop_eq_nil_of_le (by omega)] at eZ
      exact eZ
    · have hi2 : i < (H j).length := by omega
      have hv : vt c F H (j, i) := ⟨hj, hT, hi2⟩
      have hth := List.getElem?_eq_getElem hi2
      have tc : ∀ S', Sh (S0, fzW, ρ, A) (own Λ R) S' → TC Λ.2.2 S' (Ad S0 t (j, i)) ((H j)[i]) := fun S' g => (h0.at2 hc g (by unfold fzA; decide) hA hv hth).2.1
      rw [List.drop_eq_getElem_cons hi2] at eZ
      have eZ : ys ++ (((if srt ((H j)[i]).1 = (2 : Int32) then [tj (nI j), tj (nmo ((H j)[i]).1), ((H j)[i]).2.1] else []) ++ mkJ j ((H j).drop (i + 1))) ++ rest) = Z := eZ
      unfold F_X8_sortOf F_X8_nameOf
      refine Pa_if (nleN (by omega) (by omega) hi2) (Pa_be (tA_val g1 hi2 (ga i hi2)) (Pa_oS rfl (Pa_bs ?_)))
      rw [(tc S1 h.1).1, n_a1 i]
      by_cases cs : ((H j)[i]).1 / 32 = (2 : Int32)
      · rw [if_pos cs] at eZ
        have eZ : ys ++ (tj (nI j) :: (tj (nmo ((H j)[i]).1) :: (((H j)[i]).2.1 :: (mkJ j ((H j).drop (i + 1)) ++ rest)))) = Z := by
          rw [← eZ]
          simp only [List.append_assoc, List.cons_append, List.nil_append]
        refine Pa_it cs (Pa_bs (h.bi k a eZ hZ (fun S2 h2 a2 _ e2 => Pa_bs ?_)))
        rw [(tc S2 h2.1).1]
        refine h2.bi k a2 e2 hZ (fun S3 h3 a3 _ e3 => ?_)
        rw [(tc S3 h3.1).2.1]
        refine h3.bi k a3 e3 hZ (fun S4 h4 a4 _ e4 => ?_)
        exact wm_in h0 hc hA k hZ hj hT hu hkk n (i + 1) S4 _ hi2 h4 a4 e4
      · rw [if_neg cs, List.nil_append] at eZ
        exact Pa_if cs (wm_in h0 hc hA k hZ hj hT hu hkk n (i + 1) S1 ys hi2 h a eZ)
theorem wm_no {N : Nat → Nat} {P : sSt → Prop} {w : Nat} {ro : Option Nat} {kk : sSt → Option Nat → Nat → Option Nat → Int32 → Option sSt} {p i : Int32} : ∀ n, Pa (kk S1 ro w (some us) (p + 1)) P → Pa (L_X4_writeMarks_43 N kk n S1 ro w us p none i) P
  | 0, _ => Pa_none
  | n + 1, h => by
    show Pa (Y_X4_writeMarks_43 N kk (L_X4_writeMarks_43 N kk n) S1 ro w us p none i) P
    unfold Y_X4_writeMarks_43 B_X4_writeMarks_118
    exact Pa_on rfl h
theorem wm_out (h0 : CA x m o R G us t c c2 F U W H ρ ω Λ S0) (hc : c ≤ 16) (hA : arA A) (k : WR R ρ Λ A q r la) (hZ : Z.length ≤ 680) {w : Nat} (hw : gFI S0 248 w ≠ 0) : ∀ (n j d : Nat) (S1 : sSt) (ys : List Int64), j + d = c → WS R ρ Λ S0 A r la S1 ys → kf Sa S1 → ys ++ (mksJ F H j d ++ rest) = Z → Pa (L_X4_writeMarks_18 Λ.2.2 n S1 (some r) w (some us) (nI j)) (fun S2 => ∃ zs, WS R ρ Λ S0 A r la S2 zs ∧ kf Sa S2 ∧ zs ++ rest = Z)
  | 0, _, _, _, _, _, _, _, _ => Pa_none
  | n + 1, j, d, S1, ys, hjd, h, a, eZ => by
    have h1 := h.ca h0 hA
    have e248 : gFI S1 248 w = gFI S0 248 w := (h.1.2.2.2.2.2.2.2.1 248 rfl w).1
    show Pa (Y_X4_writeMarks_18 Λ.2.2 (L_X4_writeMarks_18 Λ.2.2 n) S1 (some r) w (some us) (nI j)) _
    unfold Y_X4_writeMarks_18
    rw [e248]
    refine Pa_if hw (Pa_bs ?_)
    rw [h1.1.e1]
    cases d with
    | zero => exact Pa_it (leN (by omega) (by omega) (by omega)) (Pa_some ⟨ys, h, a, eZ⟩)
    | succ d =>
      have hj : j < c := by omega
      have eZ : ys ++ (((if F.1 j = true then mkJ j (H j) else []) ++ mksJ F H (j + 1) d) ++ rest) = Z := eZ
      refine Pa_if (nleN (by omega) (by omega) hj) ?_
      by_cases hT : F.1 j = true
      · rw [if_pos hT, List.append_assoc] at eZ
        obtain ⟨u, hu, ea, -⟩ := at_some h1.1 hc h1.2.1 (uo_at hj hc hT)
        have hu0 : gAR S0 t j = some u := (h0.1.row h.1 j).symm.trans hu
        refine Pa_be ea (wm_in h0 hc hA k hZ hj hT hu0 (fun S' zs h' a' e' => ?_) FU 0 S1 ys (Nat.zero_le _) h a (by rw [List.drop_zero]; exact eZ))
        rw [n_a1]
        exact wm_out h0 hc hA k hZ hw n (j + 1) d S' zs (by omega) h' a' e'
      · rw [if_neg hT, List.nil_append] at eZ
        have e : uo c F.1 (nI j) = none := by
          unfold uo
          rw [if_neg (nI_pos (by omega)), n_cl (by omega), if_neg (fun z => hT z.2)]
        refine Pa_be (at_none h1.1 hc h1.2.1 e) (wm_no FU ?_)
        rw [n_a1]
        exact wm_out h0 hc hA k hZ hw n (j + 1) d S1 ys (by omega) h a eZ
theorem wm_nr {N : Nat → Nat} {P : sSt → Prop} {w : Nat} {ro : Option Nat} {p : Int32} (hw : gFI S1 248 w = 0) : ∀ n, P S1 → Pa (L_X4_writeMarks_18 N n S1 ro w (some us) p) P
  | 0, _ => Pa_none
  | n + 1, h => by
    show Pa (Y_X4_writeMarks_18 N (L_X4_writeMarks_18 N n) S1 ro w (some us) p) P
    unfold Y_X4_writeMarks_18
    exact Pa_it hw (Pa_some h)
theorem wm_val (h0 : CA x m o R G us t c c2 F U W H ρ ω Λ S0) (hc : c ≤ 16) (hA : arA A) (k : WR R ρ Λ A q r la) (hZ : Z.length ≤ 680) {j u : Nat} (hj : j < c) (hT : F.1 j = true) (hu : gAR S0 t j = some u) (h : WS R ρ Λ S0 A r la S1 ys) (a : kf Sa S1) (eZ : ys ++ (rwE c F H j ++ rest) = Z) : Pa (F_X4_writeMarks Λ.2.2 S1 (some r) (some u) (some us)) (fun S2 => ∃ zs, WS R ρ Λ S0 A r la S2 zs ∧ kf Sa S2 ∧ zs ++ rest = Z) := by
  obtain ⟨u2, hu2, -, hfl⟩ := h0.2.1 j hj
  rw [hu] at hu2
  cases hu2
  have e0 : gFI S0 248 u = F.2.1 j := (hfl hT).1
  have e1 : gFI S1 248 u = gFI S0 248 u := (h.1.2.2.2.2.2.2.2.1 248 rfl u).1
  unfold F_X4_writeMarks B_X4_writeMarks_13
  unfold rwE at eZ
  refine Pa_bs ?_
  rw [e1, e0]
  by_cases cr : F.2.1 j = 0
  · rw [if_pos cr, if_pos cr, List.cons_append, List.nil_append] at eZ
    refine Pa_it cr (Pa_bs (h.bi k a eZ hZ (fun S2 h2 a2 _ e2 => ?_)))
    have e3 : gFI S2 248 u = 0 := ((h2.1.2.2.2.2.2.2.2.1 248 rfl u).1).trans (e0.trans cr)
    exact wm_nr e3 FU ⟨_, h2, a2, e2⟩
  · rw [if_neg cr, if_neg cr, List.cons_append] at eZ
    refine Pa_if cr (Pa_bs (h.bi k a eZ hZ (fun S2 h2 a2 _ e2 => ?_)))
    exact wm_out h0 hc hA k hZ (by rw [e0]; exact cr) FU 0 c S2 _ (by omega) h2 a2 e2
/-- where the parts of a row end -/
def EN (S : sSt) (r : Nat) (c : Nat) (F : aF) (U W : aU) (H : aH) (j : Nat) : Prop := gFI S 122 r = nI ((rwA H j).length + (rwB W j).length) ∧ gFI S 123 r = nI (U j).length ∧ gFI S 124 r = nI ((rwA H j).length + (rwB W j).length + (rwC U W H j).length + (rwD W H j).length) ∧ gFI S 125 r = nI (rwP c F U W H j).length
theorem CA.len (h0 : CA x m o R G us t c c2 F U W H ρ ω Λ S0) (hc : c ≤ 16) {j : Nat} (hj : j < c) (hT : F.1 j = true) : (rwP c F U W H j).length ≤ 678 := by
  obtain ⟨u2, l2, b2, hu2, e242, hL2⟩ := h0.2.2.1 j hj hT
  obtain ⟨u3, l3, b3, hu3, e241, hL3⟩ := h0.2.2.2.1 j hj hT
  have n12 := h0.1.n12 (h0.1.un hu2) e242 hL2.2.1
  have n6 := h0.1.n6 (h0.1.un hu3) e241 hL3.2.1
  have a1 := hL2.2.2.1
  have a2 := hL3.2.2.1
  refine rwP_len hc (fun k hk hTk => ?_) (by omega) (by omega) hj hT
  obtain ⟨u, tt, hu, g1, g2, g3, g4, g5⟩ := h0.2.2.2.2.1 k hk hTk
  refine ⟨g3, fun th hth => ?_⟩
  obtain ⟨i, hi, e⟩ := List.getElem_of_mem hth
  exact h0.b3 hc (z := (k, i)) ⟨hk, hTk, hi⟩ (by rw [List.getElem?_eq_getElem hi, e])
theorem wp_val (h0 : CA x m o R G us t c c2 F U W H ρ ω Λ S0) (hc : c ≤ 16) (hWA : WA c F W) (hV : VS c F W H t S0) (hq : rq q) (k : WR R ρ Λ (arW q) q r la) (e120 : gFR S0 120 r = some la) (nla : Λ.2.2 la = 680) {j u : Nat} (hj : j < c) (hT : F.1 j = true) (hu : gAR S0 t j = some u) : Pa (F_X4_writeAllButMaker Λ.2.2 S0 (some r) (some u) (some us)) (fun S2 => WS R ρ Λ S0 (arW q) r la S2 (rwP c F U W H j) ∧ EN S2 r c F U W H j) := by
  have hlen := h0.len hc hj hT
  have hZ : (rwP c F U W H j).length ≤ 680 := by omega
  obtain ⟨Zr, hZr⟩ : ∃ Zr, Zr = rwP c F U W H j := ⟨_, rfl⟩
  have hl : (rwP c F U W H j).length = (rwA H j).length + ((rwB W j).length + ((rwC U W H j).length + ((rwD W H j).length + (rwE c F H j).length))) := by
    unfold rwP
    rw [List.length_append, List.length_append, List.length_append, List.length_append]
  have kset : ∀ {S : sSt} {f : Nat} {v : Int32} {ys : List Int64}, WS R ρ Λ S0 (arW q) r la S ys → f ≠ 121 → fzW f = false → WS R ρ Λ S0 (arW q) r la (sFI S f r v) ys := fun w hf hz => ⟨w.1.sFI _ k.2.2.1 _ hz (fun _ => by show arW q (ρ r) = false; rw [k.2.2.2.2.1]; exact k.1), w.2.same (by rw [gFI_sFI, if_neg (fun z => hf z.1.symm)]) rfl (fun _ => rfl)⟩
  have w0 : WS R ρ Λ S0 (arW q) r la (sFI S0 121 r 0) [] := ⟨(h0.1.shz _ _).sFI 121 k.2.2.1 0 rfl (fun _ => by show arW q (ρ r) = false; rw [k.2.2.2.2.1]; exact k.1), by rw [gFI_sFI, if_pos ⟨rfl, rfl⟩]; rfl, e120, nla, Nat.zero_le _, fun i v hv => by cases hv⟩
  unfold F_X4_writeAllButMaker F_X3_empty F_X3_endOwn F_X3_endFinds F_X3_endMarks
  refine Pa_bs (Pa_bs (Pa_bind (wt_val (Z := rwP c F U W H j) (ys := []) (Sa := sFI S0 121 r 0) h0 hc (arW_A hq) k hZ hj hT hu w0 kf.rf (by rw [List.nil_append]; rfl)) (fun S5 _ hr => ?_)))
  obtain ⟨ys5, w5, -, e5⟩ := hr
  obtain ⟨u3, l3, b3, hu3, e241, hL3⟩ := h0.2.2.2.1 j hj hT
  rw [hu] at hu3
  cases hu3
  have tu := h0.1.un hu
  obtain ⟨tl3, rl3, -⟩ := h0.1.fl (f := 241) tu (by decide) rfl (by decide) (by decide) e241
  obtain ⟨tb3, rb3, -⟩ := h0.1.fb tl3 hL3.2.1
  refine Pa_bs (Pa_m ((w5.1.fr 241 u).trans e241) (Pa_bind (wi_val (A := arW q) (S0 := S0) (Sa := S5) k hZ (fun S' ys' w' => hL3.fz tl3 tb3 w'.1 (by rw [rl3]; exact arW_A hq 241 (by decide)) (by rw [rb3, rl3]; exact arW_A hq 1241 (by decide))) w5 kf.rf e5) (fun S9 _ hr => ?_)))
  obtain ⟨ys9, w9, -, e9⟩ := hr
  have h9 := w9.ca h0 (arW_A hq)
  have hu9 : gAR S9 t j = some u := (h0.1.row w9.1 j).trans hu
  obtain ⟨u2, l2, b2, hu2, e242, hL2⟩ := h9.2.2.1 j hj hT
  rw [hu9] at hu2
  cases hu2
  have l9 : ys9.length = (rwA H j).length + (rwB W j).length := by
    have := congrArg List.length e9
    rw [List.length_append, hl, List.length_append, List.length_append] at this
    omega
  unfold F_X1_length
  refine Pa_r e242 (Pa_bs ?_)
  rw [hL2.1]
  refine Pa_bs ?_
  have w15 := kset (kset w9 (f := 122) (v := gFI S9 121 r) (by decide) rfl) (f := 123) (v := nI (U j).length) (by decide) rfl
  refine Pa_bind (wz_val (Sa := sFI (sFI S9 122 r (gFI S9 121 r)) 123 r (nI (U j).length)) h0 hc hWA hV hq k hZ hj hT hu w15 kf.rf e9) (fun S17 _ hr => ?_)
  obtain ⟨ys17, w17, a17, e17⟩ := hr
  have l17 : ys17.length = (rwA H j).length + (rwB W j).length + (rwC U W H j).length + (rwD W H j).length := by
    have := congrArg List.length e17
    rw [List.length_append, hl] at this
    omega
  refine Pa_bs ?_
  have w19 := kset w17 (f := 124) (v := gFI S17 121 r) (by decide) rfl
  have eZ19 : ys17 ++ (rwE c F H j ++ []) = rwP c F U W H j := by rw [List.append_nil]; exact e17
  refine Pa_bind (wm_val (Sa := sFI S17 124 r (gFI S17 121 r)) h0 hc (arW_A hq) k hZ hj hT hu w19 kf.rf eZ19) (fun S21 _ hr => ?_)
  obtain ⟨ys21, w21, a21, e21⟩ := hr
  rw [List.append_nil] at e21
  rw [e21] at w21
  refine Pa_bs (Pa_some ⟨kset w21 (f := 125) (by decide) rfl, ?_, ?_, ?_, ?_⟩)
  · rw [gFI_sFI, if_neg (fun z => absurd z.1 (by decide)), a21 122 r (by decide) (by decide), gFI_sFI, if_neg (fun z => absurd z.1 (by decide)), a17 122 r (by decide) (by decide), gFI_sFI, if_neg (fun z => absurd z.1 (by decide)), gFI_sFI, if_pos ⟨rfl, rfl⟩, w9.2.1, l9]
  · rw [gFI_sFI, if_neg (fun z => absurd z.1 (by decide)), a21 123 r (by decide) (by decide), gFI_sFI, if_neg (fun z => absurd z.1 (by decide)), a17 123 r (by decide) (by decide), gFI_sFI, if_pos ⟨rfl, rfl⟩]
  · rw [gFI_sFI, if_neg (fun z => absurd z.1 (by decide)), a21 124 r (by decide) (by decide), gFI_sFI, if_pos ⟨rfl, rfl⟩, w17.2.1, l17]
  · rw [gFI_sFI, if_pos ⟨rfl, rfl⟩, w21.2.1]
/-- the rows object: its scratches -/
theorem CA.rows (h0 : CA x m o R G us t c c2 F U W H ρ ω Λ S0) : ∃ ro r1 l1 r2 l2, gFR S0 322 x = some ro ∧ gFR S0 160 ro = some r1 ∧ gFR S0 161 ro = some r2 ∧ gFR S0 120 r1 = some l1 ∧ gFR S0 120 r2 = some l2 ∧ Λ.2.2 l1 = 680 ∧ Λ.2.2 l2 = 680 ∧ WR R ρ Λ (arW 160) 160 r1 l1 ∧ WR R ρ Λ (arW 161) 161 r2 l2 := by
  have hE := h0.1.2.2.2.2.2.2.1.2.1
  obtain ⟨ro, e1⟩ := hE 322 (by decide) x h0.1.kx id
  obtain ⟨t1, -, -⟩ := h0.1.fz1 (f := 322) (by decide) (by decide) (by decide) h0.1.kx.1 e1
  obtain ⟨r1, e2⟩ := hE 160 (by decide) ro t1 id
  obtain ⟨t2, p2, -⟩ := h0.1.fz1 (f := 160) (by decide) (by decide) (by decide) t1.1 e2
  obtain ⟨r2, e3⟩ := hE 161 (by decide) ro t1 id
  obtain ⟨t3, p3, -⟩ := h0.1.fz1 (f := 161) (by decide) (by decide) (by decide) t1.1 e3
  obtain ⟨l1, e4⟩ := hE 120 (by decide) r1 t2 id
  obtain ⟨l2, e5⟩ := hE 120 (by decide) r2 t3 id
  have tl1 := h0.1.2.2.2.2.2.2.1.1.1 120 r1 t2.1 l1 e4
  have tl2 := h0.1.2.2.2.2.2.2.1.1.1 120 r2 t3.1 l2 e5
  have q1 : ρ l1 = 2160 := by
    have z := (h0.1.ro.1 120 (by decide) r1 l1 t2.1 e4).1
    unfold roL at z
    rw [if_neg (by decide), if_pos rfl, p2] at z
    exact z
  have q2 : ρ l2 = 2161 := by
    have z := (h0.1.ro.1 120 (by decide) r2 l2 t3.1 e5).1
    unfold roL at z
    rw [if_neg (by decide), if_pos rfl, p3] at z
    exact z
  exact ⟨ro, r1, l1, r2, l2, e1, e2, e3, e4, e5, h0.1.ro.2 l1 tl1.1 (2160, 680) (by decide) q1, h0.1.ro.2 l2 tl2.1 (2161, 680) (by decide) q2, ⟨arW_q.1, arW_q.2, t2, tl1, p2, q1⟩, ⟨arW_q.1, arW_q.2, t3, tl2, p3, q2⟩⟩
/-- what a row's writing may write -/
abbrev arX (q : Nat) : Nat → Bool := nfz [246, 1246, 2246, q, 1000 + q, 2000 + q, 161, 1161, 2161]
theorem arX_W {q : Nat} : ∀ f, arX q f = true → arW q f = true := nfz_sub (fun g hg => by
  simp only [List.mem_cons, List.not_mem_nil, or_false] at hg ⊢
  rcases hg with e | e | e | e | e | e <;> simp [e])
theorem arX_R {q : Nat} : ∀ f, arX q f = true → arW 161 f = true := nfz_sub (fun g hg => by
  simp only [List.mem_cons, List.not_mem_nil, or_false] at hg ⊢
  rcases hg with e | e | e | e | e | e <;> simp [e])
theorem arX_A {q : Nat} (hq : q = 160 ∨ q = 243) : arA (arX q) := by
  unfold arA
  rcases hq with rfl | rfl <;> decide
theorem wr_val (h0 : CA x m o R G us t c c2 F U W H ρ ω Λ S0) (hc : c ≤ 16) (hWA : WA c F W) (hV : VS c F W H t S0) (hq : q = 160 ∨ q = 243) {ro r2 l2 : Nat} (e161 : gFR S0 161 ro = some r2) (e2 : gFR S0 120 r2 = some l2) (nl2 : Λ.2.2 l2 = 680) (k2 : WR R ρ Λ (arW 161) 161 r2 l2) (k : WR R ρ Λ (arW q) q r la) (e120 : gFR S0 120 r = some la) (nla : Λ.2.2 la = 680) {j u : Nat} (hj : j < c) (hT : F.1 j = true) (hu : gAR S0 t j = some u) : Pa (F_X4_write Λ.2.2 S0 ro (some r) (some u) (some us)) (fun S2 => Sh (S0, fzW, ρ, arX q) (own Λ R) S2 ∧ RJ Λ.2.2 S2 r la (rwR c F U W H j) ∧ EN S2 r c F U W H j) := by
  have hq' : rq q := hq.elim (fun z => Or.inl z) (fun z => Or.inr (Or.inr z))
  have hlen := h0.len hc hj hT
  obtain ⟨u2, hu2, -, hfl⟩ := h0.2.1 j hj
  rw [hu] at hu2
  cases hu2
  unfold F_X4_write
  refine Pa_bind (wp_val h0 hc hWA hV hq' k e120 nla hj hT hu) (fun S2 _ hr => ?_)
  obtain ⟨w2, en2⟩ := hr
  have h2 := w2.ca h0 (arW_A hq')
  have e249 : gFI S2 249 u = F.2.2 j := ((w2.1.2.2.2.2.2.2.2.1 249 rfl u).1).trans (hfl hT).2
  refine Pa_bs (Pa_bs ?_)
  rw [e249]
  have up0 : ∀ {S' : sSt}, Sh (S0, fzW, ρ, arW q) (own Λ R) S' → Sh (S0, fzW, ρ, arX q) (own Λ R) S' := fun g => (h0.1.shz fzW (arX q)).up g (fun _ z => z) arX_W
  cases e : uo c F.1 (F.2.2 j) with
  | none =>
    refine Pa_be (at_none h2.1 hc h2.2.1 e) (Pa_on rfl (Pa_bs (w2.bi (Sa := S2) (zs := []) (Z := rwP c F U W H j ++ [0]) k kf.rf rfl (by rw [List.length_append, List.length_singleton]; omega) (fun S3 w3 a3 _ _ => Pa_some ⟨up0 w3.1, ?_, ?_⟩))))
    · unfold rwR rwM
      rw [e]
      exact w3.2
    · obtain ⟨y1, y2, y3, y4⟩ := en2
      exact ⟨(a3 122 r (by decide) (by decide)).trans y1, (a3 123 r (by decide) (by decide)).trans y2, (a3 124 r (by decide) (by decide)).trans y3, (a3 125 r (by decide) (by decide)).trans y4⟩
  | some j2 =>
    obtain ⟨u', hu', ea, -⟩ := at_some h2.1 hc h2.2.1 e
    obtain ⟨ej, hj2, hT2, -⟩ := uo_some e
    have hlen2 := h2.len hc hj2 hT2
    have hV2 := VS.fz h0 hV w2.1 (by decide) (arW_A hq')
    refine Pa_be ea (Pa_oS rfl (Pa_m ((w2.1.fr 161 ro).trans e161) (Pa_bind (wp_val h2 hc hWA hV2 (Or.inr (Or.inl rfl)) k2 ((w2.1.fr 120 r2).trans e2) nl2 hj2 hT2 hu') (fun S13 _ hr => ?_))))
    obtain ⟨w13, -⟩ := hr
    have qr : arW 161 (ρ r) = true := by rw [k.2.2.2.2.1]; rcases hq with rfl | rfl <;> rfl
    have ql : arW 161 (ρ la) = true := by rw [k.2.2.2.2.2]; rcases hq with rfl | rfl <;> rfl
    -- the reader's row gets its last long
    refine Pa_m ((w13.1.fr 161 ro).trans ((w2.1.fr 161 ro).trans e161)) (Pa_bs ?_)
    refine w13.bi (Sa := S13) (zs := []) (Z := rwP c F U W H j2 ++ [0]) k2 kf.rf rfl (by rw [List.length_append, List.length_singleton]; omega) (fun S17 w17 _ _ _ => Pa_bs ?_)
    have g17 : Sh (S0, fzW, ρ, arX q) (own Λ R) S17 := (up0 w2.1).up w17.1 (fun _ z => z) arX_R
    have J17 : RJ Λ.2.2 S17 r la (rwP c F U W H j) := w2.2.fz k.2.2.1 k.2.2.2.1 w17.1 qr ql
    have en17 : EN S17 r c F U W H j := by
      have kr := w17.1.2.2.2.2.2.2.2.2.2 r k.2.2.1.1 (by rw [k.2.2.1.2]; rfl) qr
      obtain ⟨y1, y2, y3, y4⟩ := en2
      exact ⟨(kr.1 122).trans y1, (kr.1 123).trans y2, (kr.1 124).trans y3, (kr.1 125).trans y4⟩
    have h17 := h0.fz g17 (by unfold fzA; decide) (arX_A hq)
    have kQ : WR R ρ Λ (arQ q) q r la := ⟨arQ_q.1, arQ_q.2, k.2.2⟩
    have w18 : WS R ρ Λ S17 (arQ q) r la S17 (rwP c F U W H j) := ⟨h17.1.shz _ _, J17⟩
    have eR : rwP c F U W H j ++ (1 :: [digJ (rwP c F U W H j2 ++ [0])]) = rwR c F U W H j := by
      unfold rwR rwM
      rw [e]
    have hZ : (rwR c F U W H j).length ≤ 680 := by
      rw [← eR, List.length_append]
      show _ + 2 ≤ 680
      omega
    refine w18.bi (Sa := S17) kQ kf.rf eR hZ (fun S20 w20 a20 _ e20 => ?_)
    refine Pa_m ((w20.1.fr 161 ro).trans ((g17.fr 161 ro).trans e161)) (Pa_bs ?_)
    have q2r : arQ q (ρ r2) = true := by rw [k2.2.2.2.2.1]; rcases hq with rfl | rfl <;> rfl
    have q2l : arQ q (ρ l2) = true := by rw [k2.2.2.2.2.2]; rcases hq with rfl | rfl <;> rfl
    have J20 : RJ Λ.2.2 S20 r2 l2 (rwP c F U W H j2 ++ [0]) := w17.2.fz k2.2.2.1 k2.2.2.2.1 w20.1 q2r q2l
    refine Pa_bind (dg_val J20) (fun v _ hv => ?_)
    rw [hv]
    refine w20.bi (zs := []) kQ a20 e20 hZ (fun S26 w26 a26 _ e26 => Pa_some ⟨?_, ?_, ?_⟩)
    · exact g17.up w26.1 (fun _ z => z) (nfz_sub (fun g hg => by
        simp only [List.mem_cons, List.not_mem_nil, or_false] at hg ⊢
        rcases hg with e | e | e <;> simp [e]))
    · rw [List.append_nil] at e26
      rw [← e26]
      exact w26.2
    · obtain ⟨y1, y2, y3, y4⟩ := en17
      exact ⟨(a26 122 r (by decide) (by decide)).trans y1, (a26 123 r (by decide) (by decide)).trans y2, (a26 124 r (by decide) (by decide)).trans y3, (a26 125 r (by decide) (by decide)).trans y4⟩
end
