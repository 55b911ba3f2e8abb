/-! Answers that may be thrown. -/
theorem in0_val {N : Nat → Nat} {S : sSt} {p : Int32} {n : Nat} (hn : n < 2147483648) : F_X9_in N S p 0 (nI n - 1) = some (if p < 0 ∨ nI n ≤ p then 0 else 1) := by
  unfold F_X9_in
  by_cases c1 : p < 0
  · rw [if_pos c1, if_pos (Or.inl c1)]
  · rw [if_neg c1]
    obtain ⟨q, hq, rfl⟩ := nI_of c1
    have iff : nI n - 1 < nI q ↔ nI n ≤ nI q := by
      rw [nI_leI hn hq]
      by_cases c2 : n = 0
      · subst c2
        refine ⟨fun _ => Nat.zero_le q, fun _ => ?_⟩
        rw [Int32.lt_iff_toInt_lt, nI_toInt hq]
        have : (nI 0 - 1 : Int32).toInt = -1 := rfl
        omega
      · rw [n_s1 (by omega), nI_ltI (by omega) hq]
        omega
    by_cases c2 : nI n ≤ nI q
    · rw [if_pos (iff.mpr c2), if_pos (Or.inr c2)]
    · rw [if_neg (fun z => c2 (iff.mp z)), if_neg (fun z => z.elim c1 c2)]
/-- the order's places: 1 and nothing, or 0 and a unit -/
noncomputable def aOrder (c : Nat) (F : aF) (U W : aU) (H : aH) (p : Int32) : Int32 × Int64 := if p < 0 ∨ nI (fla (aOrd c F U W H)).length ≤ p then (1, 0) else (0, Int32.toInt64 (nI ((fla (aOrd c F U W H))[p.toNatClampNeg]?.getD 0)))
noncomputable def aRow (c : Nat) (F : aF) (U W : aU) (H : aH) (p i : Int32) : Int32 × Int64 := match uo c F.1 p with
  | none => (0, 0)
  | some k => if i < 0 ∨ nI (rwR c F U W H k).length ≤ i then (1, 0) else (0, (rwR c F U W H k)[i.toNatClampNeg]?.getD 0)
section
variable {x m o us t c c2 : Nat} {R : List Nat} {G : Nat → Nat} {ρ ω : Nat → Nat} {Λ : sLay} {S S0 S1 S2 S' : sSt} {F : aF} {U W : aU} {H : aH}
theorem fla_len (h : CA x m o R G us t c c2 F U W H ρ ω Λ S0) {ri a b l d : Nat} (kI : KI R ρ Λ S0 ri a b l d) (g : Sh (S0, fzR, ρ, arR) (own Λ R) S1) (hR : PR Λ.2.2 S1 ri b l d (aOrd c F U W H) []) : LsI Λ.2.2 S1 l d ((fla (aOrd c F U W H)).map nI) ∧ (fla (aOrd c F U W H)).length ≤ 16 := by
  have hL := hR.2.1
  rw [List.append_nil] at hL
  have := hL.2.2.1
  rw [List.length_map, kI.2.2.2.2.2.2.2.2.2] at this
  exact ⟨hL, this⟩
theorem order_c (h : CA x m o R G us t c c2 F U W H ρ ω Λ S) (hc : c ≤ 16) (hA : WA c F W) (hM : MA c F) (p : Int32) : Pa (F_L_order Λ.2.2 S x p o) (fun r => r.1 = (aOrder c F U W H p).1 ∧ ((aOrder c F U W H p).1 = 0 → gAJ r.2 o 0 = (aOrder c F U W H p).2)) := by
  have h320 := h.1.2.2.2.2.2.2.2.2.1
  obtain ⟨ri, a, b, l, d, e323, kI⟩ := h.ri
  have hX8 : Pa (F_X8_order Λ.2.2 S x p) (fun r => ((aOrder c F U W H p).1 = 1 ∧ r.1 = Sum.inl aiN) ∨ ((aOrder c F U W H p).1 = 0 ∧ ∃ v, r.1 = Sum.inr v ∧ Int32.toInt64 v = (aOrder c F U W H p).2)) := by
    unfold F_X8_order
    refine Pa_m e323 (Pa_m h320 (Pa_bs (Pa_bind (ag_val h hc hA hM kI) (fun S5 _ h5 => ?_))))
    obtain ⟨g, -, hR⟩ := h5
    obtain ⟨hL, l16⟩ := fla_len h kI g hR
    have e5 := (g.fr 323 x).trans e323
    have e82 := (kI.go g).2.2.2.1
    refine Pa_r e5 (Pa_r e82 ?_)
    unfold F_X1_length
    refine Pa_bs (Pa_be isB_val ?_)
    rw [hL.1, List.length_map]
    unfold aOrder
    by_cases c1 : p < 0 ∨ nI (fla (aOrd c F U W H)).length ≤ p
    · rw [if_pos c1, if_pos c1]
      exact Pa_it rfl (Pa_some (Or.inl ⟨rfl, rfl⟩))
    · rw [if_neg c1, if_neg c1]
      obtain ⟨q, hq, rfl⟩ := nI_of (fun z => c1 (Or.inl z))
      have lt : q < (fla (aOrd c F U W H)).length := Nat.lt_of_not_le (fun z => c1 (Or.inr (leN (by omega) hq z)))
      refine Pa_if (by decide) (Pa_r e5 (Pa_r e82 (Pa_be (at_val hL (by rw [List.length_map]; exact lt)) (Pa_some (Or.inr ⟨rfl, _, rfl, ?_⟩)))))
      rw [n_cl hq, List.getElem?_eq_getElem lt, List.getElem_map]
      rfl
  unfold F_L_order
  refine Pa_bind hX8 (fun q _ hq => ?_)
  obtain ⟨q1, q2⟩ := q
  rcases hq with ⟨c1, hq⟩ | ⟨c1, v, hq, ev⟩
  · have hq : q1 = Sum.inl aiN := hq
    subst hq
    refine Pa_it rfl (Pa_some ⟨c1.symm, fun z => ?_⟩)
    rw [c1] at z
    exact absurd z (by decide)
  · have hq : q1 = Sum.inr v := hq
    subst hq
    refine Pa_g (Pa_some ⟨c1.symm, fun _ => ?_⟩)
    show gAJ (sAJ q2 o (Int32.toNatClampNeg 0) _) o 0 = _
    rw [sJ, if_pos (show (0 : Nat) = Int32.toNatClampNeg 0 from rfl)]
    exact ev
theorem row_c (h : CA x m o R G us t c c2 F U W H ρ ω Λ S) (hc : c ≤ 16) (hA : WA c F W) (hB : HA c F H) (p i : Int32) : Pa (F_L_row Λ.2.2 S x p i o) (fun r => r.1 = (aRow c F U W H p i).1 ∧ ((aRow c F U W H p i).1 = 0 → gAJ r.2 o 0 = (aRow c F U W H p i).2)) := by
  have h320 := h.1.2.2.2.2.2.2.2.2.1
  obtain ⟨cs, pa, e321, kw⟩ := h.wk
  obtain ⟨ro, -, -, -, -, e322, -⟩ := h.rows
  have hX8 : Pa (F_X8_row Λ.2.2 S x p i) (fun r => ((aRow c F U W H p i).1 = 1 ∧ r.1 = Sum.inl aiN) ∨ ((aRow c F U W H p i).1 = 0 ∧ r.1 = Sum.inr (aRow c F U W H p i).2)) := by
    unfold F_X8_row aRow
    refine Pa_r h320 ?_
    cases e : uo c F.1 p with
    | none => exact Pa_be (at_none h.1 hc h.2.1 e) (Pa_on rfl (Pa_some (Or.inr ⟨rfl, rfl⟩)))
    | some k =>
      obtain ⟨u, hu, ea, -⟩ := at_some h.1 hc h.2.1 e
      obtain ⟨-, hk, hT, -⟩ := uo_some e
      refine Pa_be ea (Pa_oS rfl (Pa_m e321 (Pa_m h320 (Pa_bs (Pa_bind (sa_val h hc hA hB kw) (fun S8 _ A => ?_))))))
      have h8 := h.fz A.1 (by unfold fzA; decide) (by unfold arA; decide)
      have e320 : gFR S8 320 x = some us := h8.1.2.2.2.2.2.2.2.2.1
      refine Pa_m ((A.1.fr 322 x).trans e322) (Pa_m e320 (Pa_bs (Pa_obd (nw_val h8 hc hA (SC.vs h A.1 (by unfold arA; decide) A.2) ((A.1.fr 322 x).trans e322) hk hT ((h.1.row A.1 k).trans hu)) (fun v S15 _ hv => ?_))))
      obtain ⟨r1, l1, e1, -, hJ, -⟩ := hv
      have e1 : v = some r1 := e1
      have hJ : RJ Λ.2.2 S15 r1 l1 (rwR c F U W H k) := hJ
      have l680 := hJ.2.2.2.1
      subst e1
      unfold F_X3_length
      refine Pa_bs (Pa_bs (Pa_be isB_val ?_))
      rw [hJ.1]
      show Pa _ (fun r : (String ⊕ Int64) × sSt => ((if i < 0 ∨ nI (rwR c F U W H k).length ≤ i then (1, 0) else (0, (rwR c F U W H k)[i.toNatClampNeg]?.getD 0) : Int32 × Int64).1 = 1 ∧ r.1 = Sum.inl aiN) ∨ ((if i < 0 ∨ nI (rwR c F U W H k).length ≤ i then (1, 0) else (0, (rwR c F U W H k)[i.toNatClampNeg]?.getD 0) : Int32 × Int64).1 = 0 ∧ r.1 = Sum.inr (if i < 0 ∨ nI (rwR c F U W H k).length ≤ i then (1, 0) else (0, (rwR c F U W H k)[i.toNatClampNeg]?.getD 0) : Int32 × Int64).2))
      by_cases c1 : i < 0 ∨ nI (rwR c F U W H k).length ≤ i
      · rw [if_pos c1, if_pos c1]
        exact Pa_it rfl (Pa_some (Or.inl ⟨rfl, rfl⟩))
      · rw [if_neg c1, if_neg c1]
        obtain ⟨q, hq, rfl⟩ := nI_of (fun z => c1 (Or.inl z))
        have lt : q < (rwR c F U W H k).length := Nat.lt_of_not_le (fun z => c1 (Or.inr (leN (by omega) hq z)))
        refine Pa_if (by decide) (Pa_be (atJ hJ lt) (Pa_some (Or.inr ⟨rfl, ?_⟩)))
        rw [n_cl hq, List.getElem?_eq_getElem lt]
        rfl
  unfold F_L_row
  refine Pa_bind hX8 (fun q _ hq => ?_)
  obtain ⟨q1, q2⟩ := q
  rcases hq with ⟨c1, hq⟩ | ⟨c1, hq⟩
  · have hq : q1 = Sum.inl aiN := hq
    subst hq
    refine Pa_it rfl (Pa_some ⟨c1.symm, fun z => ?_⟩)
    rw [c1] at z
    exact absurd z (by decide)
  · have hq : q1 = Sum.inr _ := hq
    subst hq
    refine Pa_g (Pa_some ⟨c1.symm, fun _ => ?_⟩)
    show gAJ (sAJ q2 o (Int32.toNatClampNeg 0) _) o 0 = _
    rw [sJ, if_pos (show (0 : Nat) = Int32.toNatClampNeg 0 from rfl)]
end
section
variable {m c : Nat} {G : Nat → Nat} {Λ : sLay} {N : Nat → Nat} {S0 S S1 S2 : sSt} {F : aF} {U W : aU} {H : aH}
theorem order_r (h : RA m G Λ c F U W H S) (hc : c ≤ 16) (hA : WA c F W) (hM : MA c F) (hl : (fla (aOrd c F U W H)).length ≤ 16) (p : Int32) : Pa (F_X9_order Λ.2.2 S m p) (fun r => gFI r.2 360 m = (aOrder c F U W H p).1 ∧ ((aOrder c F U W H p).1 = 0 → Int32.toInt64 r.1 = (aOrder c F U W H p).2)) := by
  have hb := h.rc
  unfold F_X9_order
  refine Pa_b (Pa_bind (fo_val hb hc hA hM) (fun S3 _ h3 => ?_))
  obtain ⟨K, -, hR⟩ := h3
  obtain ⟨-, r2, r3, -⟩ := hR
  rw [List.append_nil] at r2 r3
  rw [r2]
  refine Pa_be (in0_val (by omega)) ?_
  unfold aOrder B_X9_order_29
  by_cases c1 : p < 0 ∨ nI (fla (aOrd c F U W H)).length ≤ p
  · rw [if_pos c1, if_pos c1]
    refine Pa_it rfl (Pa_st (fun S6 e6 => ?_))
    have e360 : gFI S6 360 m = 1 := by rw [e6, gFI_sFI, if_pos ⟨rfl, rfl⟩]
    rw [e360]
    exact Pa_if (by decide) (Pa_some ⟨e360, fun z => absurd z (by decide)⟩)
  · rw [if_neg c1, if_neg c1]
    obtain ⟨q, hq, rfl⟩ := nI_of (fun z => c1 (Or.inl z))
    have lt : q < (fla (aOrd c F U W H)).length := Nat.lt_of_not_le (fun z => c1 (Or.inr (leN (by omega) hq z)))
    refine Pa_if (by decide) (Pa_st (fun S6 e6 => ?_))
    have e360 : gFI S6 360 m = 0 := by rw [e6, gFI_sFI, if_pos ⟨rfl, rfl⟩]
    have h6 : S6.2.2.1 = S3.2.2.1 := by rw [e6]; rfl
    rw [e360]
    refine Pa_it rfl (Pa_r (hb.1.1.g (h6.trans K.1) 392) (Pa_g (Pa_some ⟨e360, fun _ => ?_⟩)))
    show Int32.toInt64 (gAI S6 (G 392) (Int32.toNatClampNeg (nI q))) = _
    rw [n_cl hq, List.getElem?_eq_getElem lt, e6, gAI_sFI, r3 q _ (List.getElem?_eq_getElem lt)]
    rfl
theorem row_r (h : RA m G Λ c F U W H S) (hc : c ≤ 16) (hA : WA c F W) (hB : HA c F H) (hM : MA c F) (p i : Int32) : Pa (F_X9_row Λ.2.2 S m p i) (fun r => gFI r.2 360 m = (aRow c F U W H p i).1 ∧ ((aRow c F U W H p i).1 = 0 → r.1 = (aRow c F U W H p i).2)) := by
  have hb := h.rb
  unfold F_X9_row aRow
  refine Pa_st (fun S1 e1 => ?_)
  have e360 : gFI S1 360 m = 0 := by rw [e1, gFI_sFI, if_pos ⟨rfl, rfl⟩]
  have eU := isU_val h.1.g0 hc hb.2.1 (fun k hk => (h.2.2.1 k hk).1) p
  rw [← e1] at eU
  refine Pa_be eU ?_
  cases e : uo c F.1 p with
  | none => exact Pa_it (iU0.mpr rfl) (Pa_some ⟨e360, fun _ => rfl⟩)
  | some k =>
    obtain ⟨ep, hk, hT, -⟩ := uo_some e
    refine Pa_if (fun z => by have := iU0.mp z; cases this) ?_
    have hro := ro_val h hc hA hB hM hk hT
    rw [← e1, ← ep] at hro
    refine Pa_bind hro (fun S5 _ h5 => ?_)
    obtain ⟨S4, hRR, h5⟩ := h5
    have l680 := h5.2.2.1
    rw [h5.2.1]
    refine Pa_be (in0_val (by omega)) ?_
    show Pa _ (fun r : Int64 × sSt => gFI r.2 360 m = (if i < 0 ∨ nI (rwR c F U W H k).length ≤ i then (1, 0) else (0, (rwR c F U W H k)[i.toNatClampNeg]?.getD 0) : Int32 × Int64).1 ∧ ((if i < 0 ∨ nI (rwR c F U W H k).length ≤ i then (1, 0) else (0, (rwR c F U W H k)[i.toNatClampNeg]?.getD 0) : Int32 × Int64).1 = 0 → r.1 = (if i < 0 ∨ nI (rwR c F U W H k).length ≤ i then (1, 0) else (0, (rwR c F U W H k)[i.toNatClampNeg]?.getD 0) : Int32 × Int64).2))
    unfold B_X9_row_40
    by_cases c1 : i < 0 ∨ nI (rwR c F U W H k).length ≤ i
    · rw [if_pos c1, if_pos c1]
      refine Pa_it rfl (Pa_st (fun S6 e6 => ?_))
      have e360 : gFI S6 360 m = 1 := by rw [e6, gFI_sFI, if_pos ⟨rfl, rfl⟩]
      rw [e360]
      exact Pa_if (by decide) (Pa_some ⟨e360, fun z => absurd z (by decide)⟩)
    · rw [if_neg c1, if_neg c1]
      obtain ⟨q, hq, rfl⟩ := nI_of (fun z => c1 (Or.inl z))
      have lt : q < (rwR c F U W H k).length := Nat.lt_of_not_le (fun z => c1 (Or.inr (leN (by omega) hq z)))
      refine Pa_if (by decide) (Pa_st (fun S6 e6 => ?_))
      have e360 : gFI S6 360 m = 0 := by rw [e6, gFI_sFI, if_pos ⟨rfl, rfl⟩]
      have h6 : S6.2.2.1 = S5.2.2.1 := by rw [e6]; rfl
      rw [e360]
      refine Pa_it rfl (Pa_r (hRR.1.1.g (h6.trans h5.1.1) 387) (Pa_g (Pa_some ⟨e360, fun _ => ?_⟩)))
      show gAJ S6 (G 387) (Int32.toNatClampNeg (nI q)) = _
      rw [n_cl hq, List.getElem?_eq_getElem lt, e6, gAJ_sFI, h5.2.2.2.1 q _ (List.getElem?_eq_getElem lt)]
      rfl
end
