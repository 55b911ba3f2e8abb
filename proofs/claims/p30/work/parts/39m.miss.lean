/-! What a unit looks for; how much of it is missing. -/
def blL : List aT → List Int32
  | [] => []
  | th :: r => th.2.2.2.map (fun v => 32 + v) ++ blL r
theorem blL_c {th : aT} {r : List aT} : blL (th :: r) = th.2.2.2.map (fun v => 32 + v) ++ blL r := rfl
def soL (U : aU) (H : aH) (k : Nat) : List Int32 := U k ++ blL (H k)
def mis (W : aU) (H : aH) (k : Nat) : List Int32 → Nat
  | [] => 0
  | key :: r => (if fd W H k key = none then 1 else 0) + mis W H k r
theorem mis_c {W : aU} {H : aH} {k : Nat} {key : Int32} {r : List Int32} : mis W H k (key :: r) = (if fd W H k key = none then 1 else 0) + mis W H k r := rfl
theorem mis_app {W : aU} {H : aH} {k : Nat} {ys : List Int32} : ∀ xs, mis W H k (xs ++ ys) = mis W H k xs + mis W H k ys
  | [] => by rw [List.nil_append]; unfold mis; omega
  | x :: r => by rw [List.cons_append, mis_c, mis_c, mis_app r]; omega
theorem blL_len : ∀ {l : List aT}, (∀ th, th ∈ l → th.2.2.2.length ≤ 3) → (blL l).length ≤ 3 * l.length
  | [], _ => Nat.zero_le _
  | th :: r, h => by
    have h1 := h th List.mem_cons_self
    have h2 := blL_len (l := r) (fun t ht => h t (List.mem_cons_of_mem _ ht))
    rw [blL_c, List.length_append, List.length_map, List.length_cons]
    omega
section
variable {x m o us t c c2 : Nat} {R : List Nat} {G : Nat → Nat} {ρ ω : Nat → Nat} {Λ : sLay} {S S1 S' : sSt} {F : aF} {U W : aU} {H : aH}
theorem LsI.lf {N : Nat → Nat} {l b l2 b2 : Nat} {xs : List Int32} (h : LsI N S l2 b2 xs) (lf : LF S S' l b) (n1 : l2 ≠ l) (n2 : l2 ≠ b) (n3 : b2 ≠ l) (n4 : b2 ≠ b) : LsI N S' l2 b2 xs := h.same ((lf.1 l2 n1 n2).1 41) ((lf.1 l2 n1 n2).2.2.1 40) (lf.1 b2 n3 n4).2.2.2.1
/-- the list of what is sought, of a unit -/
theorem CA.so (h : CA x m o R G us t c c2 F U W H ρ ω Λ S) {u : Nat} (tu : isK (own Λ R) 6 u) : ∃ l b, gFR S 246 u = some l ∧ gFR S 40 l = some b ∧ isK (own Λ R) 1 l ∧ isK (own Λ R) 10 b ∧ ρ l = 246 ∧ ρ b = 1246 ∧ Λ.2.2 b = 42 := by
  have h0 := h.1
  obtain ⟨l, el⟩ := h0.2.2.2.2.2.2.1.2.1 246 (by decide) u tu id
  obtain ⟨tl, rl, -⟩ := h0.fl tu (f := 246) (by decide) rfl (by decide) (by decide) el
  obtain ⟨b, eb⟩ := h0.2.2.2.2.2.2.1.2.1 40 (by decide) l tl id
  obtain ⟨tb, rb, -⟩ := h0.fb tl eb
  have rb' : ρ b = 1246 := by rw [rb, rl]
  exact ⟨l, b, el, eb, tl, tb, rl, rb', h0.ro.2 b tb.1 (1246, 42) (by decide) rb'⟩
/-- one more item on a list -/
theorem app_one {N : Nat → Nat} {l b : Nat} {ys : List Int32} {v : Int32} (hL : LsI N S' l b ys) (hl : ys.length < N b) : F_X1_append N S' l v = some (1, sFI (sAI S' b ys.length v) 41 l (nI (ys.length + 1))) ∧ LsI N (sFI (sAI S' b ys.length v) 41 l (nI (ys.length + 1))) l b (ys ++ [v]) := ⟨app_yes hL hl v, app_LS hL hl v⟩
theorem so60 (h : CA x m o R G us t c c2 F U W H ρ ω Λ S) {u l b a : Nat} {th : aT} {Z : List Int32} (ta : isK (own Λ R) 5 a) (hTC : TC Λ.2.2 S a th) (e246 : gFR S 246 u = some l) (tl : isK (own Λ R) 1 l) (tb : isK (own Λ R) 10 b) (rl : ρ l = 246) (rb : ρ b = 1246) (nb : Λ.2.2 b = 42) (hZ : Z.length ≤ 42) {P : Option Nat × sSt → Prop} {kk : sSt → Nat → Int32 → Option (Option Nat × sSt)} {p1 : Int32} {rest : List Int32} (hk : ∀ S' ys, LF S S' l b → LsI Λ.2.2 S' l b ys → ys ++ rest = Z → Pa (kk S' u (p1 + 1)) P) : ∀ (n j : Nat) (S' : sSt) (ys : List Int32), j ≤ th.2.2.2.length → LF S S' l b → LsI Λ.2.2 S' l b ys → ys ++ ((th.2.2.2.drop j).map (fun v => 32 + v) ++ rest) = Z → Pa (L_X6_sought_60 Λ.2.2 kk n S' u p1 (some a) (nI j)) P
  | 0, _, _, _, _, _, _, _ => Pa_none
  | n + 1, j, S', ys, hj, lf, hL, eZ => by
    obtain ⟨y1, y2, y3, l2, b2, e201, hL2⟩ := hTC
    obtain ⟨tl2, rl2, -⟩ := h.1.fbl ta e201
    obtain ⟨tb2, rb2, -⟩ := h.1.fb tl2 hL2.2.1
    have n1 : l2 ≠ l := fun z => by
      have := rl2.symm.trans ((congrArg ρ z).trans rl)
      omega
    have n4 : b2 ≠ b := fun z => by
      have := rb2.symm.trans ((congrArg ρ z).trans rb)
      rw [rl2] at this
      omega
    have hL2' := hL2.lf lf n1 (nek tl2 tb (by decide)) (nek tb2 tl (by decide)) n4
    have eR : ∀ f a, gFR S' f a = gFR S f a := fun f a => by
      unfold gFR
      rw [lf.2.1]
    have hlt := hL2.lt
    show Pa (Y_X6_sought_60 Λ.2.2 kk (L_X6_sought_60 Λ.2.2 kk n) S' u p1 (some a) (nI j)) P
    unfold Y_X6_sought_60 B_X6_sought_101 F_X1_length
    refine Pa_oS rfl (Pa_r ((eR 201 a).trans e201) (Pa_bs ?_))
    rw [hL2'.1]
    by_cases c0 : j = th.2.2.2.length
    · refine Pa_it (leN (by omega) (by omega) (by omega)) (hk S' ys lf hL ?_)
      rw [List.drop_eq_nil_of_le (by omega)] at eZ
      exact eZ
    · have hj2 : j < th.2.2.2.length := by omega
      have e2 : th.2.2.2.drop j = th.2.2.2[j] :: th.2.2.2.drop (j + 1) := List.drop_eq_getElem_cons hj2
      rw [e2, List.map_cons, List.cons_append] at eZ
      have hyl : ys.length < 42 := by
        have := congrArg List.length eZ
        rw [List.length_append, List.length_cons] at this
        omega
      refine Pa_if (nleN (by omega) (by omega) (by omega)) (Pa_m ((eR 246 u).trans e246) (Pa_r ((eR 201 a).trans e201) (Pa_be (at_val hL2' hj2) (Pa_bs (Pa_bs ?_)))))
      obtain ⟨ea, hL3⟩ := app_one (v := 32 + th.2.2.2[j]) hL (by rw [nb]; exact hyl)
      have ek : (1 : Int32) * 32 + th.2.2.2[j] = 32 + th.2.2.2[j] := rfl
      rw [ek]
      refine Pa_oe ea ?_
      rw [n_a1]
      refine so60 h ta ⟨y1, y2, y3, l2, b2, e201, hL2⟩ e246 tl tb rl rb nb hZ hk n (j + 1) _ _ hj2 (lf.tr (LF.ai.tr LF.fi)) hL3 ?_
      rw [List.append_assoc]
      exact eZ
theorem so44 (h : CA x m o R G us t c c2 F U W H ρ ω Λ S) {k u tt l b : Nat} {Z : List Int32} (g : CT1 Λ.2.2 S u tt (H k)) (tk : isK (own Λ R) 13 tt) (e246 : gFR S 246 u = some l) (tl : isK (own Λ R) 1 l) (tb : isK (own Λ R) 10 b) (rl : ρ l = 246) (rb : ρ b = 1246) (nb : Λ.2.2 b = 42) (hZ : Z.length ≤ 42) : ∀ (n i : Nat) (S' : sSt) (ys : List Int32), i ≤ (H k).length → LF S S' l b → LsI Λ.2.2 S' l b ys → ys ++ blL ((H k).drop i) = Z → Pa (L_X6_sought_44 Λ.2.2 n S' u (nI i)) (fun r => r.1 = some l ∧ LF S r.2 l b ∧ LsI Λ.2.2 r.2 l b Z)
  | 0, _, _, _, _, _, _, _ => Pa_none
  | n + 1, i, S', ys, hi, lf, hL, eZ => by
    have g' := g
    obtain ⟨g1, g2, g3, g4, g5⟩ := g'
    have eR : ∀ f a, gFR S' f a = gFR S f a := fun f a => by
      unfold gFR
      rw [lf.2.1]
    have e245 : gFI S' 245 u = nI (H k).length := (lf.2.2.1 245 u (by decide)).trans g2
    show Pa (Y_X6_sought_44 Λ.2.2 (L_X6_sought_44 Λ.2.2 n) S' u (nI i)) _
    unfold Y_X6_sought_44
    rw [e245]
    by_cases c0 : i = (H k).length
    · refine Pa_it (leN (by omega) (by omega) (by omega)) (Pa_b (Pa_some ⟨(eR 246 u).trans e246, lf, ?_⟩))
      rw [List.drop_eq_nil_of_le (by omega)] at eZ
      have eZ' : ys = Z := (List.append_nil ys).symm.trans eZ
      rw [← eZ']
      exact hL
    · have hi2 : i < (H k).length := by omega
      have e2 : (H k).drop i = (H k)[i] :: (H k).drop (i + 1) := List.drop_eq_getElem_cons hi2
      obtain ⟨a, ha, hTC⟩ := g5 i _ (List.getElem?_eq_getElem hi2)
      have ta := h.1.fth tk ha
      have eta : F_X6_thingAt Λ.2.2 S' u (nI i) = some (some a) := by
        unfold F_X6_thingAt
        rw [if_neg (nI_pos (by omega)), e245, if_neg (nleN (by omega) (by omega) (by omega))]
        simp only [bnd, (eR 244 u).trans g1, Option.bind_some, g4]
        rw [if_neg (nleN (by omega) (by omega) (by omega)), n_gi (by omega) (by omega), n_cl (by omega), lf.2.2.2.2.1 tt i, ha]
      rw [e2, blL_c] at eZ
      refine Pa_if (nleN (by omega) (by omega) (by omega)) (Pa_be eta ?_)
      refine so60 h ta hTC e246 tl tb rl rb nb hZ (fun S'' zs lf2 hL2 eZ2 => ?_) FU 0 S' ys (Nat.zero_le _) lf hL eZ
      rw [n_a1]
      exact so44 h g tk e246 tl tb rl rb nb hZ n (i + 1) S'' zs hi2 lf2 hL2 eZ2
theorem so9 (h : CA x m o R G us t c c2 F U W H ρ ω Λ S) {k u tt l b l2 b2 : Nat} {Z : List Int32} (g : CT1 Λ.2.2 S u tt (H k)) (tk : isK (own Λ R) 13 tt) (e242 : gFR S 242 u = some l2) (hL2 : LsI Λ.2.2 S l2 b2 (U k)) (tl2 : isK (own Λ R) 1 l2) (rl2 : ρ l2 = 242) (tb2 : isK (own Λ R) 10 b2) (rb2 : ρ b2 = 1242) (e246 : gFR S 246 u = some l) (tl : isK (own Λ R) 1 l) (tb : isK (own Λ R) 10 b) (rl : ρ l = 246) (rb : ρ b = 1246) (nb : Λ.2.2 b = 42) (hZ : Z.length ≤ 42) : ∀ (n i : Nat) (S' : sSt) (ys : List Int32), i ≤ (U k).length → LF S S' l b → LsI Λ.2.2 S' l b ys → ys ++ ((U k).drop i ++ blL (H k)) = Z → Pa (L_X6_sought_9 Λ.2.2 n S' u (nI i)) (fun r => r.1 = some l ∧ LF S r.2 l b ∧ LsI Λ.2.2 r.2 l b Z)
  | 0, _, _, _, _, _, _, _ => Pa_none
  | n + 1, i, S', ys, hi, lf, hL, eZ => by
    have n1 : l2 ≠ l := fun z => by
      have := rl2.symm.trans ((congrArg ρ z).trans rl)
      omega
    have n4 : b2 ≠ b := fun z => by
      have := rb2.symm.trans ((congrArg ρ z).trans rb)
      omega
    have hL2' := hL2.lf lf n1 (nek tl2 tb (by decide)) (nek tb2 tl (by decide)) n4
    have eR : ∀ f a, gFR S' f a = gFR S f a := fun f a => by
      unfold gFR
      rw [lf.2.1]
    have hlt := hL2.lt
    show Pa (Y_X6_sought_9 Λ.2.2 (L_X6_sought_9 Λ.2.2 n) S' u (nI i)) _
    unfold Y_X6_sought_9 F_X1_length
    refine Pa_r ((eR 242 u).trans e242) (Pa_bs ?_)
    rw [hL2'.1]
    by_cases c0 : i = (U k).length
    · refine Pa_it (leN (by omega) (by omega) (by omega)) ?_
      rw [List.drop_eq_nil_of_le (by omega), List.nil_append] at eZ
      exact so44 h g tk e246 tl tb rl rb nb hZ FU 0 S' ys (Nat.zero_le _) lf hL (by rw [List.drop_zero]; exact eZ)
    · have hi2 : i < (U k).length := by omega
      have e2 : (U k).drop i = (U k)[i] :: (U k).drop (i + 1) := List.drop_eq_getElem_cons hi2
      rw [e2, List.cons_append] at eZ
      have hyl : ys.length < 42 := by
        have := congrArg List.length eZ
        rw [List.length_append, List.length_cons] at this
        omega
      refine Pa_if (nleN (by omega) (by omega) (by omega)) (Pa_m ((eR 246 u).trans e246) (Pa_r ((eR 242 u).trans e242) (Pa_be (at_val hL2' hi2) (Pa_bs ?_))))
      obtain ⟨ea, hL3⟩ := app_one (v := (U k)[i]) hL (by rw [nb]; exact hyl)
      refine Pa_oe ea ?_
      rw [n_a1]
      refine so9 h g tk e242 hL2 tl2 rl2 tb2 rb2 e246 tl tb rl rb nb hZ n (i + 1) _ _ hi2 (lf.tr (LF.ai.tr LF.fi)) hL3 ?_
      rw [List.append_assoc]
      exact eZ
theorem soL_len (h : CA x m o R G us t c c2 F U W H ρ ω Λ S) {k : Nat} (hk : k < c) (hT : F.1 k = true) : (soL U H k).length ≤ 42 := by
  obtain ⟨u2, l2, b2, hu2, e242, hL2⟩ := h.2.2.1 k hk hT
  obtain ⟨u, tt, hu, g1, g2, g3, g4, g5⟩ := h.2.2.2.2.1 k hk hT
  have n12 := h.1.n12 (h.1.un hu2) e242 hL2.2.1
  have hU := hL2.2.2.1
  rw [n12] at hU
  have hB : (blL (H k)).length ≤ 3 * (H k).length := blL_len (fun th hth => by
    obtain ⟨i, hi, e⟩ := List.getElem_of_mem hth
    obtain ⟨a, ha, y1, y2, y3, l, b, y4, y5⟩ := g5 i th (by rw [List.getElem?_eq_getElem hi, e])
    have ta := h.1.fth (h.1.ftt (h.1.un hu) g1).1 ha
    have := y5.2.2.1
    rw [h.1.n3 ta y4 y5.2.1] at this
    exact this)
  unfold soL
  rw [List.length_append]
  omega
theorem so_val (h : CA x m o R G us t c c2 F U W H ρ ω Λ S) {k u : Nat} (hk : k < c) (hT : F.1 k = true) (hu : gAR S t k = some u) : ∃ l b, ρ l = 246 ∧ isK (own Λ R) 1 l ∧ Pa (F_X6_sought Λ.2.2 S u) (fun r => r.1 = some l ∧ LF S r.2 l b ∧ LsI Λ.2.2 r.2 l b (soL U H k)) := by
  obtain ⟨tt, g, tu, tk⟩ := h.1.uall h.2.2.2.2.1 hk hT hu
  obtain ⟨l, b, e246, e40, tl, tb, rl, rb, nb⟩ := h.so tu
  obtain ⟨u2, l2, b2, hu2, e242, hL2⟩ := h.2.2.1 k hk hT
  rw [hu] at hu2
  cases hu2
  obtain ⟨tl2, rl2, -⟩ := h.1.fl (f := 242) tu (by decide) rfl (by decide) (by decide) e242
  obtain ⟨tb2, rb2, -⟩ := h.1.fb tl2 hL2.2.1
  have rb2' : ρ b2 = 1242 := by rw [rb2, rl2]
  refine ⟨l, b, rl, tl, ?_⟩
  unfold F_X6_sought
  refine Pa_r e246 ?_
  rw [emp_val]
  refine Pa_bs (so9 h g tk e242 hL2 tl2 rl2 tb2 rb2' e246 tl tb rl rb nb (soL_len h hk hT) FU 0 _ [] (Nat.zero_le _) LF.fi ?_ ?_)
  · exact ⟨by rw [gFI_sFI, if_pos ⟨rfl, rfl⟩]; rfl, e40, Nat.zero_le _, by rw [nb]; omega, fun i v hv => by cases hv⟩
  · rw [List.nil_append, List.drop_zero]
    rfl
theorem mo_loop (h : CA x m o R G us t c c2 F U W H ρ ω Λ S) (hc : c ≤ 16) (hA : WA c F W) {k u l b : Nat} {Z : List Int32} (hk : k < c) (hT : F.1 k = true) (hu : gAR S t k = some u) (hL : LsI Λ.2.2 S l b Z) : ∀ (n i a : Nat), i ≤ Z.length → Pa (L_X7_missingOf_10 Λ.2.2 n S us u (some l) (nI a) (nI i)) (fun r => r.1 = nI (a + mis W H k (Z.drop i)))
  | 0, _, _, _ => Pa_none
  | n + 1, i, a, hi => by
    have hlt := hL.lt
    show Pa (Y_X7_missingOf_10 Λ.2.2 (L_X7_missingOf_10 Λ.2.2 n) S us u (some l) (nI a) (nI i)) _
    unfold Y_X7_missingOf_10 F_X1_length
    refine Pa_bs (Pa_bs ?_)
    rw [hL.1]
    by_cases c0 : i = Z.length
    · refine Pa_it (leN (by omega) (by omega) (by omega)) (Pa_some ?_)
      rw [List.drop_eq_nil_of_le (by omega)]
      rfl
    · have hi2 : i < Z.length := by omega
      have e2 : Z.drop i = Z[i] :: Z.drop (i + 1) := List.drop_eq_getElem_cons hi2
      refine Pa_if (nleN (by omega) (by omega) (by omega)) (Pa_be (at_val hL hi2) (Pa_bind (lf_th h hc hA hk hT hu _) (fun v _ hv => ?_)))
      unfold B_X7_missingOf_36
      rw [e2, mis_c, n_a1 a, n_a1 i]
      rcases hv with ⟨e1, rfl⟩ | ⟨z, a1, th, e1, rfl, -⟩
      · rw [e1, if_pos rfl]
        refine Pa_on rfl (Pa_mono (mo_loop h hc hA hk hT hu hL n (i + 1) (a + 1) hi2) (fun r hr => ?_))
        · rw [hr]
          congr 1
          omega
      · rw [e1, if_neg (fun y => nomatch y)]
        refine Pa_oS rfl (Pa_mono (mo_loop h hc hA hk hT hu hL n (i + 1) a hi2) (fun r hr => ?_))
        rw [hr]
        congr 1
        omega
end
def aMiss (c : Nat) (F : aF) (U W : aU) (H : aH) (p : Int32) : Int32 := match uo c F.1 p with
  | none => -1
  | some k => nI (mis W H k (soL U H k))
section
variable {x m o us t c c2 : Nat} {R : List Nat} {G : Nat → Nat} {ρ ω : Nat → Nat} {Λ : sLay} {S S1 S' : sSt} {F : aF} {U W : aU} {H : aH}
theorem missing_c (h : CA x m o R G us t c c2 F U W H ρ ω Λ S) (hc : c ≤ 16) (hA : WA c F W) (p : Int32) : Pa (F_X8_missing Λ.2.2 S x p) (fun r => r.1 = aMiss c F U W H p) := by
  have h320 := h.1.2.2.2.2.2.2.2.2.1
  unfold F_X8_missing aMiss
  refine Pa_r h320 ?_
  cases e : uo c F.1 p with
  | none => exact Pa_be (at_none h.1 hc h.2.1 e) (Pa_on rfl (Pa_some rfl))
  | some k =>
    obtain ⟨u, hu, ea, -⟩ := at_some h.1 hc h.2.1 e
    obtain ⟨ep, hk, hT, -⟩ := uo_some e
    have tu := h.1.un hu
    obtain ⟨l, b, rl, tl, hso⟩ := so_val h hk hT hu
    refine Pa_be ea (Pa_oS rfl (Pa_r h320 ?_))
    refine Pa_obd (Q := fun r => r.1 = nI (mis W H k (soL U H k))) ?_ (fun v S9 _ hv => Pa_some hv)
    unfold F_X7_missingOf
    refine Pa_bs (Pa_obd (T_Pa (tF_X6_sought (Z := (S, nfz [41], ρ, nfz [246, 1246, 2246])) (Λ := own Λ R) S (h.1.shz _ _) ⟨rfl, rfl, rfl⟩ rfl u tu) hso |> Pa_T) (fun v S3 _ hv => ?_))
    obtain ⟨⟨g3, -⟩, e1, lf, hL⟩ := hv
    have e1 : v = some l := e1
    have g3 : Sh (S, nfz [41], ρ, nfz [246, 1246, 2246]) (own Λ R) S3 := g3
    have h3 := h.fz g3 (by unfold fzA; decide) (by unfold arA; decide)
    rw [e1]
    have hu3 : gAR S3 t k = some u := (h.1.row g3 k).trans hu
    have := mo_loop h3 hc hA hk hT hu3 hL FU 0 0 (Nat.zero_le _)
    rw [List.drop_zero, Nat.zero_add] at this
    exact this
end
section
variable {m c k : Nat} {G : Nat → Nat} {Λ : sLay} {N : Nat → Nat} {S : sSt} {F : aF} {U W : aU} {H : aH} {p : Int32}
theorem mi87 (hG : MG m G Λ S) (hW : RL2 369 370 6 G S c F W) (hH : RH G S c F H) (hc : c ≤ 16) (hA : WA c F W) (hk : k < c) (hT : F.1 k = true) (ep : p = nI k) {i : Nat} {th : aT} (hi : i < 10) (hth : TR G S (10 * k + i) th) {P : Int32 × sSt → Prop} {kk : sSt → Nat → Int32 → Int32 → Int32 → Option (Int32 × sSt)} : ∀ (n j a : Nat), j ≤ th.2.2.2.length → Pa (kk S m p (nI (a + mis W H k ((th.2.2.2.drop j).map (fun v => 32 + v)))) (nI (10 * k + i) + 1)) P → Pa (L_X9_missing_87 N kk n S m p (nI a) (nI (10 * k + i)) (nI j)) P
  | 0, _, _, _, _ => Pa_none
  | n + 1, j, a, hj, hP => by
    obtain ⟨y1, y2, y3, y4, y5, y6, y7⟩ := hth
    show Pa (Y_X9_missing_87 N kk (L_X9_missing_87 N kk n) S m p (nI a) (nI (10 * k + i)) (nI j)) P
    unfold Y_X9_missing_87 B_X9_missing_128
    refine Pa_r (hG.1 367 rfl) (Pa_g ?_)
    rw [n_cl (by omega), y5]
    by_cases c0 : j = th.2.2.2.length
    · refine Pa_it (leN (by omega) (by omega) (by omega)) ?_
      rw [List.drop_eq_nil_of_le (by omega)] at hP
      exact hP
    · have hj2 : j < th.2.2.2.length := by omega
      have e2 : th.2.2.2.drop j = th.2.2.2[j] :: th.2.2.2.drop (j + 1) := List.drop_eq_getElem_cons hj2
      have ej : (3 : Int32) * nI (10 * k + i) + nI j = nI (3 * (10 * k + i) + j) := e_add (e_mul k3 rfl) rfl
      refine Pa_if (nleN (by omega) (by omega) (by omega)) (Pa_r (hG.1 368 rfl) (Pa_g ?_))
      rw [ej, n_cl (by omega), y7 j _ (List.getElem?_eq_getElem hj2)]
      refine Pa_bind (fn_val hG hW hH hc hA hk hT ep (32 + th.2.2.2[j])) (fun v _ hv => ?_)
      subst hv
      have iff1 := oF_n (x := fd W H k (32 + th.2.2.2[j])) (fun z hz => fd_lim hH hc hA hk hT hz)
      rw [e2, List.map_cons, mis_c] at hP
      rw [n_a1 a, n_a1 j]
      by_cases cn : fd W H k (32 + th.2.2.2[j]) = none
      · rw [if_pos cn] at hP
        refine Pa_it (iff1.mpr cn) ?_
        refine mi87 hG hW hH hc hA hk hT ep hi ⟨y1, y2, y3, y4, y5, y6, y7⟩ n (j + 1) (a + 1) hj2 ?_
        have e5 : a + 1 + mis W H k ((th.2.2.2.drop (j + 1)).map (fun v => 32 + v)) = a + (1 + mis W H k ((th.2.2.2.drop (j + 1)).map (fun v => 32 + v))) := by omega
        rw [e5]
        exact hP
      · rw [if_neg cn] at hP
        refine Pa_if (fun z => cn (iff1.mp z)) ?_
        have e0 : nI a + 0 = nI a := nI_add a 0
        rw [e0]
        refine mi87 hG hW hH hc hA hk hT ep hi ⟨y1, y2, y3, y4, y5, y6, y7⟩ n (j + 1) a hj2 ?_
        have e5 : a + mis W H k ((th.2.2.2.drop (j + 1)).map (fun v => 32 + v)) = a + (0 + mis W H k ((th.2.2.2.drop (j + 1)).map (fun v => 32 + v))) := by omega
        rw [e5]
        exact hP
theorem mi69 (hG : MG m G Λ S) (hW : RL2 369 370 6 G S c F W) (hH : RH G S c F H) (hc : c ≤ 16) (hA : WA c F W) (hk : k < c) (hT : F.1 k = true) (ep : p = nI k) : ∀ (n i a : Nat), i ≤ (H k).length → Pa (L_X9_missing_69 N n S m p (nI a) (nI (10 * k + i))) (fun r => r.1 = nI (a + mis W H k (blL ((H k).drop i))))
  | 0, _, _, _ => Pa_none
  | n + 1, i, a, hi => by
    obtain ⟨q1, q2, q3⟩ := hH k hk hT
    have eL : (10 : Int32) * p + gAI S (G 363) (Int32.toNatClampNeg p) = nI (10 * k + (H k).length) := e_add (e_mul k10 ep) (by rw [e_clamp ep (by omega)]; exact q1)
    show Pa (Y_X9_missing_69 N (L_X9_missing_69 N n) S m p (nI a) (nI (10 * k + i))) _
    unfold Y_X9_missing_69
    refine Pa_r (hG.1 363 rfl) (Pa_g ?_)
    rw [eL]
    by_cases c0 : i = (H k).length
    · refine Pa_it (leN (by omega) (by omega) (by omega)) (Pa_some ?_)
      rw [List.drop_eq_nil_of_le (by omega)]
      rfl
    · have hi2 : i < (H k).length := by omega
      have e2 : (H k).drop i = (H k)[i] :: (H k).drop (i + 1) := List.drop_eq_getElem_cons hi2
      refine Pa_if (nleN (by omega) (by omega) (by omega)) ?_
      refine mi87 hG hW hH hc hA hk hT ep (i := i) (by omega) (q3 i _ (List.getElem?_eq_getElem hi2)) FU 0 a (Nat.zero_le _) ?_
      rw [List.drop_zero, n_a1]
      refine Pa_mono (mi69 hG hW hH hc hA hk hT ep n (i + 1) _ hi2) (fun r hr => ?_)
      rw [hr, e2, blL_c, mis_app]
      congr 1
      omega
theorem mi19 (hG : MG m G Λ S) (hU : RL2 371 372 12 G S c F U) (hW : RL2 369 370 6 G S c F W) (hH : RH G S c F H) (hc : c ≤ 16) (hA : WA c F W) (hk : k < c) (hT : F.1 k = true) (ep : p = nI k) : ∀ (n i a : Nat), i ≤ (U k).length → Pa (L_X9_missing_19 N n S m p (nI a) (nI i)) (fun r => r.1 = nI (a + mis W H k ((U k).drop i ++ blL (H k))))
  | 0, _, _, _ => Pa_none
  | n + 1, i, a, hi => by
    obtain ⟨u1, u2, u3⟩ := hU k hk hT
    have c1 := e_clamp ep (by omega)
    show Pa (Y_X9_missing_19 N (L_X9_missing_19 N n) S m p (nI a) (nI i)) _
    unfold Y_X9_missing_19 B_X9_missing_56
    refine Pa_r (hG.1 371 rfl) (Pa_g ?_)
    rw [c1, u1]
    by_cases c0 : i = (U k).length
    · refine Pa_it (leN (by omega) (by omega) (by omega)) ?_
      have e1 : (10 : Int32) * p = nI (10 * k + 0) := e_mul k10 ep
      rw [e1, List.drop_eq_nil_of_le (by omega), List.nil_append]
      exact mi69 hG hW hH hc hA hk hT ep FU 0 a (Nat.zero_le _)
    · have hi2 : i < (U k).length := by omega
      have e2 : (U k).drop i = (U k)[i] :: (U k).drop (i + 1) := List.drop_eq_getElem_cons hi2
      have ej : (12 : Int32) * p + nI i = nI (12 * k + i) := e_add (e_mul k12 ep) rfl
      refine Pa_if (nleN (by omega) (by omega) (by omega)) (Pa_r (hG.1 372 rfl) (Pa_g ?_))
      rw [ej, n_cl (by omega), u3 i _ (List.getElem?_eq_getElem hi2)]
      refine Pa_bind (fn_val hG hW hH hc hA hk hT ep ((U k)[i])) (fun v _ hv => ?_)
      subst hv
      have iff1 := oF_n (x := fd W H k ((U k)[i])) (fun z hz => fd_lim hH hc hA hk hT hz)
      rw [e2, List.cons_append, mis_c, n_a1 a, n_a1 i]
      by_cases cn : fd W H k ((U k)[i]) = none
      · rw [if_pos cn]
        refine Pa_it (iff1.mpr cn) ?_
        refine Pa_mono (mi19 hG hU hW hH hc hA hk hT ep n (i + 1) (a + 1) hi2) (fun r hr => ?_)
        rw [hr]
        congr 1
        omega
      · rw [if_neg cn]
        refine Pa_if (fun z => cn (iff1.mp z)) ?_
        have e0 : nI a + 0 = nI a := nI_add a 0
        rw [e0]
        refine Pa_mono (mi19 hG hU hW hH hc hA hk hT ep n (i + 1) a hi2) (fun r hr => ?_)
        rw [hr]
        congr 1
        omega
theorem missing_r (h : RA m G Λ c F U W H S) (hc : c ≤ 16) (hA : WA c F W) (p : Int32) : Pa (F_X9_missing Λ.2.2 S m p) (fun r => r.1 = aMiss c F U W H p) := by
  obtain ⟨hS, ec, hF, hU, hW, hH⟩ := h
  unfold F_X9_missing aMiss
  refine Pa_b ?_
  have hG : MG m G Λ (sFI S 360 m 0) := hS.g0.1
  have hH1 : RH G (sFI S 360 m 0) c F H := hH
  have hW1 : RL2 369 370 6 G (sFI S 360 m 0) c F W := hW
  have hU1 : RL2 371 372 12 G (sFI S 360 m 0) c F U := hU
  have ec1 : gFI (sFI S 360 m 0) 361 m = nI c := by rw [gFI_ne (by decide)]; exact ec
  refine Pa_be (isU_val hS.g0 hc ec1 (fun k hk => (hF k hk).1) p) ?_
  cases e : uo c F.1 p with
  | none => exact Pa_it (iU0.mpr rfl) (Pa_some rfl)
  | some k =>
    obtain ⟨ep, hk, hT, -⟩ := uo_some e
    refine Pa_if (fun z => by have := iU0.mp z; cases this) ?_
    have := mi19 (N := Λ.2.2) hG hU1 hW1 hH1 hc hA hk hT ep FU 0 0 (Nat.zero_le _)
    rw [List.drop_zero, Nat.zero_add] at this
    exact this
end
