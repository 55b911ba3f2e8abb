/-! The class's rings are placed. -/
/-- what is placed, with the members of w's ring below v -/
def plB (E : aE) (P : Nat → Bool) (w v : Nat) : Nat → Bool := fun x => P x || (oneB E w x && decide (x < v))
theorem plB_0 {E : aE} {P : Nat → Bool} {w : Nat} {x : Nat} : plB E P w 0 x = P x := by
  unfold plB
  rw [decide_eq_false (Nat.not_lt_zero x), Bool.and_false, Bool.or_false]
theorem plB_16 {E : aE} {P : Nat → Bool} {w : Nat} {x : Nat} (hx : x < 16) : plB E P w 16 x = plus E P w x := by
  unfold plB plus
  rw [decide_eq_true hx, Bool.and_true]
theorem plB_ne {E : aE} {P : Nat → Bool} {w v x : Nat} (h : x ≠ v) : plB E P w (v + 1) x = plB E P w v x := by
  unfold plB
  by_cases y : x < v
  · rw [decide_eq_true y, decide_eq_true (p := x < v + 1) (by omega)]
  · rw [decide_eq_false y, decide_eq_false (p := x < v + 1) (by omega)]
theorem cnt_n {E : aE} {P : Nat → Bool} {w v : Nat} (h : oneB E w v = false) : cb (plB E P w (v + 1)) 16 = cb (plB E P w v) 16 := cb_eq 16 (fun i _ => by
  by_cases y : i = v
  · unfold plB
    rw [y, h, Bool.false_and, Bool.false_and]
  · exact plB_ne y)
theorem cnt_s {E : aE} {P : Nat → Bool} {w v : Nat} (hv : v < 16) (h : oneB E w v = true) (hp : P v = false) : cb (plB E P w (v + 1)) 16 = cb (plB E P w v) 16 + 1 :=
  cb_set (f := plB E P w v) (g := plB E P w (v + 1)) (j := v) 16 (fun i _ y => (plB_ne y).symm) hv (by
    unfold plB
    rw [h, decide_eq_true (p := v < v + 1) (by omega), Bool.and_true, Bool.or_true]) (fun z => by
    unfold plB at z
    rw [hp, decide_eq_false (Nat.lt_irrefl v), Bool.and_false, Bool.or_false] at z
    cases z)
/-- rings and what is placed -/
def AB (E : aE) (T : Nat → Bool) (done : List (List Nat)) (P : Nat → Bool) : Prop := pdE E P ∧ (∀ x, P x = true → T x = true) ∧ (∀ x, x ∈ fla done → P x = true) ∧ (fla done).length = cb P 16
theorem AB_0 {E : aE} {T : Nat → Bool} : AB E T [] (fun _ => false) := ⟨pdE_0, (fun _ h => by cases h), (fun _ h => by cases h), (cb_false 16).symm⟩
theorem AB.s {E : aE} {T P : Nat → Bool} {done : List (List Nat)} {w : Nat} (h : AB E T done P) (hT : trE E) (hI : inE T E) (hw : candB E T P w = true) (hl : (fla done ++ rgL E w 16).length = cb (plB E P w 16) 16) : AB E T (done ++ [rgL E w 16]) (plus E P w) := by
  obtain ⟨h1, h2, h3, h4⟩ := h
  obtain ⟨tw, pw, -⟩ := cand_i.mp hw
  refine ⟨pdE_s hT h1, fun x hx => ?_, fun x hx => ?_, ?_⟩
  · unfold plus at hx
    rw [Bool.or_eq_true] at hx
    exact hx.elim (h2 x) (one_t hI tw)
  · rw [fla_1, List.mem_append] at hx
    unfold plus
    rw [Bool.or_eq_true]
    exact hx.imp (h3 x) (fun z => (rgL_m.mp z).2)
  · rw [fla_1, hl]
    exact cb_eq 16 (fun i hi => plB_16 hi)
/-- a candidate's ring isn't placed -/
theorem cand_p {E : aE} {T P : Nat → Bool} {w v : Nat} (h : pdE E P) (hw : candB E T P w = true) (hv : oneB E w v = true) : P v = false := bf_of (fun z => by
  have := h v w (one_sy hv) z
  rw [(cand_i.mp hw).2.1] at this
  cases this)
theorem rg_cnt {E : aE} {P : Nat → Bool} {w : Nat} {L : List Nat} (hw : ∀ v, oneB E w v = true → P v = false) (h : L.length = cb P 16) : ∀ v, v ≤ 16 → (L ++ rgL E w v).length = cb (plB E P w v) 16
  | 0, _ => by
    show (L ++ []).length = _
    rw [List.append_nil, h]
    exact cb_eq 16 (fun i _ => plB_0.symm)
  | v + 1, hv => by
    have ih := rg_cnt hw h v (by omega)
    by_cases c : oneB E w v = true
    · rw [rgL_y c, ← List.append_assoc, List.length_append, List.length_singleton, ih, cnt_s (by omega) c (hw v c)]
    · rw [rgL_n c, ih, cnt_n (by cases y : oneB E w v with
        | true => exact absurd y c
        | false => rfl)]
theorem ord_ab {E : aE} {T : Nat → Bool} (hT : trE E) (hI : inE T E) : ∀ n P done, AB E T done P → ∃ P', AB E T (done ++ ordL E T n P) P'
  | 0, P, done, h => ⟨P, by
    show AB E T (done ++ []) P
    rw [List.append_nil]
    exact h⟩
  | n + 1, P, done, h => by
    cases e : lstF (candB E T P) 16 with
    | none =>
      refine ⟨P, ?_⟩
      rw [ordL_n e, List.append_nil]
      exact h
    | some w =>
      have hw := (lstF_s 16 w e).2.1
      obtain ⟨P', h'⟩ := ord_ab hT hI n (plus E P w) (done ++ [rgL E w 16]) (h.s hT hI hw (rg_cnt (fun v hv => cand_p h.1 hw hv) h.2.2.2 16 (Nat.le_refl _)))
      refine ⟨P', ?_⟩
      rw [List.append_assoc] at h'
      rw [ordL_s e]
      exact h'
theorem ord_16 {c : Nat} {F : aF} {U W : aU} {H : aH} (hA : WA c F W) (hc : c ≤ 16) : (fla (aOrd c F U W H)).length ≤ 16 := by
  obtain ⟨P', h⟩ := ord_ab (lE_tr hA hc) (lE_in (U := U) (H := H) hA hc) 16 (fun _ => false) [] AB_0
  have := h.2.2.2
  have l := cb_le (f := P') 16
  have this : (fla (aOrd c F U W H)).length = cb P' 16 := this
  omega
/-- how many rings have more than one -/
def bigN : List (List Nat) → Nat
  | [] => 0
  | r :: s => (if 1 < r.length then 1 else 0) + bigN s
section
variable {x m o us t c c2 : Nat} {R : List Nat} {G : Nat → Nat} {ρ ω : Nat → Nat} {Λ : sLay} {S S0 S1 S2 S' : sSt} {F : aF} {U W : aU} {H : aH} {E : aE} {T P : Nat → Bool}
/-- the rings that are placed, in the class -/
def PR (N : Nat → Nat) (S : sSt) (ri b l d : Nat) (done : List (List Nat)) (cur : List Nat) : Prop := gFI S 83 ri = nI done.length ∧ LsI N S l d ((fla done ++ cur).map nI) ∧ (∀ (i : Nat) (r : List Nat), done[i]? = some r → ∀ v, v ∈ r → gAI S b v = nI i) ∧ ∀ v, v ∈ cur → gAI S b v = nI done.length
theorem sh_o {ri a b l d : Nat} (k : KI R ρ Λ S0 ri a b l d) (g : Sh (S0, fzR, ρ, arO) (own Λ R) S1) (i : Nat) (v : Int32) : Sh (S0, fzR, ρ, arO) (own Λ R) (sAI S1 b i v) := g.sAI k.2.2.2.2.2.1.2.1 (by
  show arO (ρ b) = false
  rw [k.2.2.2.2.2.2.1.2.1]
  rfl) i v
theorem sh_l {ri a b l d : Nat} (k : KI R ρ Λ S0 ri a b l d) (g : Sh (S0, fzR, ρ, arO) (own Λ R) S1) (i : Nat) (v w : Int32) : Sh (S0, fzR, ρ, arO) (own Λ R) (sFI (sAI S1 d i v) 41 l w) := (g.sAI k.2.2.2.2.2.1.2.2.2 (by
  show arO (ρ d) = false
  rw [k.2.2.2.2.2.2.1.2.2.2]
  rfl) i v).sFI 41 k.2.2.2.2.2.1.2.2.1 w rfl (fun _ => by
  show arO (ρ l) = false
  rw [k.2.2.2.2.2.2.1.2.2.1]
  rfl)
theorem sh_f {ri a b l d : Nat} (k : KI R ρ Λ S0 ri a b l d) (g : Sh (S0, fzR, ρ, arO) (own Λ R) S1) (f : Nat) (hf : fzR f = false) (v : Int32) : Sh (S0, fzR, ρ, arO) (own Λ R) (sFI S1 f ri v) := g.sFI f k.1 v hf (fun z => by cases z)
theorem KI.bd {ri a b l d : Nat} (k : KI R ρ Λ S0 ri a b l d) : b ≠ d := fun z => by
  have := k.2.2.2.2.2.2.1.2.1
  rw [z, k.2.2.2.2.2.2.1.2.2.2] at this
  omega
theorem pl_loop {ri a b l d : Nat} (kI : KI R ρ Λ S0 ri a b l d) {done : List (List Nat)} {w : Nat} {p1 : Int32} (hp : hb p1 (oneB E w)) (hP : ∀ v, oneB E w v = true → P v = false) (hD : ∀ x, x ∈ fla done → P x = true) (h16 : done.length < 1000) : ∀ (n v : Nat) (S1 : sSt), v ≤ 16 → Sh (S0, fzR, ρ, arO) (own Λ R) S1 → PR Λ.2.2 S1 ri b l d done (rgL E w v) → (fla done ++ rgL E w v).length = cb (plB E P w v) 16 → Pa (L_X2_place_2 Λ.2.2 n S1 ri p1 (nI v)) (fun r => Sh (S0, fzR, ρ, arO) (own Λ R) r ∧ PR Λ.2.2 r ri b l d (done ++ [rgL E w 16]) [] ∧ (fla done ++ rgL E w 16).length = cb (plB E P w 16) 16)
  | 0, _, _, _, _, _, _ => Pa_none
  | n + 1, v, S1, hv, g, hR, hl => by
    obtain ⟨tri, e80, e81, e82, e40, -, -, na, nb, nd⟩ := kI.go g
    obtain ⟨r1, r2, r3, r4⟩ := hR
    show Pa (Y_X2_place_2 Λ.2.2 (L_X2_place_2 Λ.2.2 n) S1 ri p1 (nI v)) _
    unfold Y_X2_place_2 B_X2_place_38
    refine Pa_r e81 ?_
    rw [nb]
    by_cases c0 : v = 16
    · rw [c0] at hl r2 r4
      have fin : ∀ S3, S3 = sFI S1 83 ri (nI (done.length + 1)) ∨ (∃ q, S3 = sFI (sFI S1 83 ri (nI (done.length + 1))) 84 ri q) → Sh (S0, fzR, ρ, arO) (own Λ R) S3 ∧ PR Λ.2.2 S3 ri b l d (done ++ [rgL E w 16]) [] ∧ (fla done ++ rgL E w 16).length = cb (plB E P w 16) 16 := fun S3 h3 => by
        have sh3 : Sh (S0, fzR, ρ, arO) (own Λ R) S3 := by
          rcases h3 with rfl | ⟨q, rfl⟩
          · exact sh_f kI g 83 rfl _
          · exact sh_f kI (sh_f kI g 83 rfl _) 84 rfl _
        have a3 : ∀ y k, gAI S3 y k = gAI S1 y k := fun y k => by
          rcases h3 with rfl | ⟨q, rfl⟩ <;> rfl
        have f3 : gFI S3 83 ri = nI (done.length + 1) := by
          rcases h3 with rfl | ⟨q, rfl⟩
          · rw [gFI_sFI, if_pos ⟨rfl, rfl⟩]
          · rw [gFI_sFI, if_neg (fun z => absurd z.1 (by decide)), gFI_sFI, if_pos ⟨rfl, rfl⟩]
        have f41 : gFI S3 41 l = gFI S1 41 l := by
          rcases h3 with rfl | ⟨q, rfl⟩
          · rw [gFI_sFI, if_neg (fun z => absurd z.1 (by decide))]
          · rw [gFI_sFI, if_neg (fun z => absurd z.1 (by decide)), gFI_sFI, if_neg (fun z => absurd z.1 (by decide))]
        have fr3 : gFR S3 40 l = gFR S1 40 l := by
          rcases h3 with rfl | ⟨q, rfl⟩ <;> rfl
        refine ⟨sh3, ⟨?_, ?_, ?_, fun v hv => by cases hv⟩, hl⟩
        · rw [f3, List.length_append, List.length_singleton]
        · rw [fla_1, List.append_nil]
          exact r2.same f41 fr3 (fun i => a3 d i)
        · refine sncP (P := fun i r => ∀ v, v ∈ r → gAI S3 b v = nI i) (fun i r hr v hv => (a3 b v).trans (r3 i r hr v hv)) (fun v hv => (a3 b v).trans (r4 v hv))
      refine Pa_it (leN (by omega) (by omega) (by omega)) (Pa_b ?_)
      rw [r1, n_a1]
      refine Pa_bind (Q := fun _ => True) (fun _ _ => trivial) (fun v4 _ _ => ?_)
      exact Pa_ite (fun _ => Pa_some (fin _ (Or.inl rfl))) (fun _ => Pa_b (Pa_some (fin _ (Or.inr ⟨_, rfl⟩))))
    · have hv2 : v < 16 := by omega
      refine Pa_if (nleN (by omega) (by omega) (by omega)) ?_
      rw [n_a1 v]
      by_cases c1 : oneB E w v = false
      · refine Pa_it ((hb_t hp (by omega)).mpr c1) (pl_loop kI hp hP hD h16 n (v + 1) S1 hv2 g ?_ ?_)
        · rw [rgL_n (fun z => by rw [c1] at z; cases z)]
          exact ⟨r1, r2, r3, r4⟩
        · rw [rgL_n (fun z => by rw [c1] at z; cases z), cnt_n c1]
          exact hl
      · have c1' := bt_of c1
        have pv := hP v c1'
        have hlt : (fla done ++ rgL E w v).length < 16 := by
          have q1 := cnt_s hv2 c1' pv
          have q2 := cb_le (f := plB E P w (v + 1)) 16
          omega
        refine Pa_if (fun z => c1 ((hb_t hp (by omega)).mp z)) (Pa_r e81 (Pa_g (Pa_b (Pa_r (g := _) (S := sAI S1 b (Int32.toNatClampNeg (nI v)) (gFI S1 83 ri)) e82 ?_))))
        rw [n_cl (by omega), r1]
        have hL9 : LsI Λ.2.2 (sAI S1 b v (nI done.length)) l d ((fla done ++ rgL E w v).map nI) := r2.same rfl rfl (fun i => by rw [gAI_sAI, if_neg (fun z => kI.bd z.1.symm)])
        have hlm : ((fla done ++ rgL E w v).map nI).length < Λ.2.2 d := by rw [List.length_map, nd]; exact hlt
        refine Pa_oe (app_yes hL9 hlm (nI v)) ?_
        have hL13 := app_LS hL9 hlm (nI v)
        refine pl_loop kI hp hP hD h16 n (v + 1) _ hv2 (sh_l kI (sh_o kI g v _) _ _ _) ⟨?_, ?_, ?_, ?_⟩ ?_
        · rw [gFI_sFI, if_neg (fun z => absurd z.1 (by decide))]
          exact r1
        · rw [rgL_y c1', ← List.append_assoc, show ((fla done ++ rgL E w v) ++ [v]).map nI = (fla done ++ rgL E w v).map nI ++ [nI v] from List.map_append]
          exact hL13
        · intro i r hr y hy
          rw [gAI_sFI, gAI_sAI, if_neg (fun z => kI.bd z.1), gAI_sAI, if_neg (fun z => ?_)]
          · exact r3 i r hr y hy
          · have : P y = true := hD y (mem_fla hr hy)
            rw [z.2, pv] at this
            cases this
        · intro y hy
          rw [gAI_sFI, gAI_sAI, if_neg (fun z => kI.bd z.1), gAI_sAI]
          by_cases cy : y = v
          · rw [if_pos ⟨rfl, cy⟩]
          · rw [if_neg (fun z => cy z.2)]
            rw [rgL_y c1', List.mem_append, List.mem_singleton] at hy
            exact r4 y (hy.elim id (fun z => absurd z cy))
        · rw [rgL_y c1', ← List.append_assoc, List.length_append, List.length_singleton, hl, cnt_s hv2 c1' pv]
theorem pl_val {ri a b l d : Nat} (kI : KI R ρ Λ S0 ri a b l d) {done : List (List Nat)} {w : Nat} {p1 : Int32} (hp : hb p1 (oneB E w)) (hA : AB E T done P) (hw : candB E T P w = true) (h16 : done.length < 1000) (g : Sh (S0, fzR, ρ, arO) (own Λ R) S1) (hR : PR Λ.2.2 S1 ri b l d done []) : Pa (F_X2_place Λ.2.2 S1 ri p1) (fun r => Sh (S0, fzR, ρ, arO) (own Λ R) r ∧ PR Λ.2.2 r ri b l d (done ++ [rgL E w 16]) [] ∧ (fla done ++ rgL E w 16).length = cb (plB E P w 16) 16) := by
  unfold F_X2_place
  refine pl_loop kI hp (fun v hv => cand_p hA.1 hw hv) hA.2.2.1 h16 FU 0 S1 (Nat.zero_le _) g hR ?_
  show (fla done ++ []).length = _
  rw [List.append_nil, hA.2.2.2]
  exact cb_eq 16 (fun i _ => plB_0.symm)
/-- the next ring -/
theorem pn_loop {ri a b l d : Nat} (kI : KI R ρ Λ S1 ri a b l d) (hX : ∀ k, k < 16 → hb (gAI S1 a k) (E k)) (hI : inE T E) (hS : ∀ x, T x = true → x < 16) {left : Int32} (hL : hb left (fun v => T v && !P v)) {Q : Nat → sSt → Prop} (hQ : ∀ w v3, candB E T P w = true → hb v3 (oneB E w) → Pa (F_X2_place Λ.2.2 S1 ri v3) (Q w)) : ∀ (n u : Nat), u ≤ 16 → (∀ x, x < u → candB E T P x = false) → Pa (L_X2_placeNext_2 Λ.2.2 n S1 ri left (nI u)) (fun r => (lstF (candB E T P) 16 = none ∧ r.1 = 0 ∧ r.2 = S1) ∨ ∃ w, lstF (candB E T P) 16 = some w ∧ hb r.1 (oneB E w) ∧ Q w r.2)
  | 0, _, _, _ => Pa_none
  | n + 1, u, hu, hm => by
    have kI' := kI
    obtain ⟨-, e80, -, -, -, -, -, na, -⟩ := kI'
    have h16 : ∀ u v, E u v = true → v < 16 := fun u v z => hS v (hI u v z).2
    show Pa (Y_X2_placeNext_2 Λ.2.2 (L_X2_placeNext_2 Λ.2.2 n) S1 ri left (nI u)) _
    unfold Y_X2_placeNext_2 B_X2_placeNext_47
    refine Pa_r e80 ?_
    rw [na]
    by_cases c0 : u = 16
    · rw [c0] at hm
      refine Pa_it (leN (by omega) (by omega) (by omega)) (Pa_some (Or.inl ⟨?_, rfl, rfl⟩))
      cases e : lstF (candB E T P) 16 with
      | none => rfl
      | some w =>
        obtain ⟨h1, h2, -⟩ := lstF_s 16 w e
        rw [hm w h1] at h2
        cases h2
    · have hu2 : u < 16 := by omega
      have next : candB E T P u = false → Pa (L_X2_placeNext_2 Λ.2.2 n S1 ri left (nI (u + 1))) (fun r => (lstF (candB E T P) 16 = none ∧ r.1 = 0 ∧ r.2 = S1) ∨ ∃ w, lstF (candB E T P) 16 = some w ∧ hb r.1 (oneB E w) ∧ Q w r.2) := fun hf =>
        pn_loop kI hX hI hS hL hQ n (u + 1) hu2 (all_snoc hm hf)
      refine Pa_if (nleN (by omega) (by omega) (by omega)) (Pa_bind (ra_val kI hX h16 hu2) (fun v3 _ hv3 => ?_))
      rw [n_a1 u]
      by_cases c1 : (T u && !P u) = false
      · refine Pa_it ((hb_t hL (by omega)).mpr c1) (next (bf_of (fun z => ?_)))
        obtain ⟨z1, z2, -⟩ := cand_i.mp z
        rw [z1, z2] at c1
        cases c1
      · refine Pa_if (fun z => c1 ((hb_t hL (by omega)).mp z)) (Pa_r e80 (Pa_g ?_))
        rw [n_cl (by omega)]
        have hz := hb_z (hb_and (hb_and (hX u hu2) hL) (hb_no hv3))
        have c1' := bt_of c1
        rw [Bool.and_eq_true] at c1'
        have pu : P u = false := by
          cases y : P u with
          | true =>
            have := c1'.2
            rw [y] at this
            cases this
          | false => rfl
        have iff : candB E T P u = true ↔ ∀ i, i < 32 → ((E u i && (T i && !P i)) && !oneB E u i) = false := by
          rw [cand_i]
          constructor
          · rintro ⟨-, -, h3⟩ i hi
            cases y1 : E u i with
            | false => rfl
            | true =>
              cases y2 : P i with
              | true => cases T i <;> rfl
              | false =>
                rw [h3 i (h16 u i y1) y1 y2]
                cases T i <;> rfl
          · intro h3
            refine ⟨c1'.1, pu, fun v hv y1 y2 => ?_⟩
            have := h3 v (by omega)
            rw [y1, y2, (hI u v y1).2] at this
            cases y3 : oneB E u v with
            | true => rfl
            | false => rw [y3] at this; cases this
        by_cases c2 : candB E T P u = true
        · refine Pa_it (hz.mpr (iff.mp c2)) (Pa_bind (hQ u v3 c2 hv3) (fun S8 _ h8 => Pa_some (Or.inr ⟨u, lstF_e hu2 c2 hm, hv3, h8⟩)))
        · exact Pa_if (fun z => c2 (iff.mpr (hz.mp z))) (next (bf_of c2))
/-- turn after turn -/
theorem ar_loop {ri a b l d : Nat} (kI : KI R ρ Λ S0 ri a b l d) (hX : ∀ k, k < 16 → hb (gAI S0 a k) (E k)) (hTr : trE E) (hI : inE T E) (hS : ∀ x, T x = true → x < 16) {tot : List (List Nat)} : ∀ (n i : Nat) (S1 : sSt) (left : Int32) (P : Nat → Bool) (done : List (List Nat)), i ≤ 16 → done.length ≤ i → hb left (fun v => T v && !P v) → AB E T done P → Sh (S0, fzR, ρ, arO) (own Λ R) S1 → PR Λ.2.2 S1 ri b l d done [] → tot = done ++ ordL E T (16 - i) P → Pa (L_X2_arrange_61 Λ.2.2 n S1 ri left (nI i)) (fun r => Sh (S0, fzR, ρ, arO) (own Λ R) r ∧ PR Λ.2.2 r ri b l d tot [])
  | 0, _, _, _, _, _, _, _, _, _, _, _, _ => Pa_none
  | n + 1, i, S1, left, P, done, hi, hd, hL, hA, g, hR, et => by
    show Pa (Y_X2_arrange_61 Λ.2.2 (L_X2_arrange_61 Λ.2.2 n) S1 ri left (nI i)) _
    unfold Y_X2_arrange_61
    have stop : ordL E T (16 - i) P = [] → Pa (some S1) (fun r => Sh (S0, fzR, ρ, arO) (own Λ R) r ∧ PR Λ.2.2 r ri b l d tot []) := fun e => Pa_some ⟨g, by rw [et, e, List.append_nil]; exact hR⟩
    by_cases c0 : i = 16
    · refine Pa_it (leN (a := 16) (by omega) (by omega) (by omega)) (stop ?_)
      rw [c0]
      rfl
    · have hi2 : i < 16 := by omega
      refine Pa_if (nleN (b := i) (a := 16) (by omega) (by omega) (by omega)) ?_
      by_cases c1 : left = 0
      · refine Pa_it c1 (stop (ordL_n ?_ _))
        cases e : lstF (candB E T P) 16 with
        | none => rfl
        | some w =>
          obtain ⟨h1, h2, -⟩ := lstF_s 16 w e
          obtain ⟨z1, z2, -⟩ := cand_i.mp h2
          have := (hb_z hL).mp c1 w (by omega)
          rw [z1, z2] at this
          cases this
      · refine Pa_if c1 ?_
        have k1 := kI.go g
        have ta := kI.2.2.2.2.2.1.1
        have hX1 : ∀ k, k < 16 → hb (gAI S1 a k) (E k) := fun k hk => by
          rw [(g.2.2.2.2.2.2.2.2.2 a ta.1 (by rw [ta.2]; rfl) (by
            show arO (ρ a) = true
            rw [kI.2.2.2.2.2.2.1.1]
            rfl)).2.2.1 k]
          exact hX k hk
        unfold F_X2_placeNext
        refine Pa_obd (pn_loop k1 hX1 hI hS hL (Q := fun w r => Sh (S0, fzR, ρ, arO) (own Λ R) r ∧ PR Λ.2.2 r ri b l d (done ++ [rgL E w 16]) [] ∧ (fla done ++ rgL E w 16).length = cb (plB E P w 16) 16) (fun w v3 hw hv3 => pl_val kI hv3 hA hw (by omega) g hR) FU 0 (Nat.zero_le _) (fun x hx => absurd hx (Nat.not_lt_zero x))) (fun v11 S12 _ hv => ?_)
        rw [n_a1 i]
        rcases hv with ⟨e, e1, e2⟩ | ⟨w, e, hv3, g2, hR2, hl2⟩
        · have e1 : v11 = 0 := e1
          have e2 : S12 = S1 := e2
          rw [e1, e2]
          refine ar_loop kI hX hTr hI hS n (i + 1) S1 _ P done hi2 (by omega) ((hb_and hL (hb_no hb_0)).cg (fun v _ => ?_)) hA g hR ?_
          · cases T v && !P v <;> rfl
          · rw [et, ordL_n e, ordL_n e]
        · have hv3 : hb v11 (oneB E w) := hv3
          have hw := (lstF_s 16 w e).2.1
          refine ar_loop kI hX hTr hI hS n (i + 1) S12 _ (plus E P w) (done ++ [rgL E w 16]) hi2 ?_ ((hb_and hL (hb_no hv3)).cg (fun v _ => ?_)) (hA.s hTr hI hw hl2) g2 hR2 ?_
          · rw [List.length_append, List.length_singleton]
            omega
          · unfold plus
            cases T v <;> cases P v <;> cases oneB E w v <;> rfl
          · rw [et, show 16 - i = 16 - (i + 1) + 1 by omega, ordL_s e, List.append_assoc]
            rfl
/-- who is left, at first -/
theorem al_loop (h : CA x m o R G us t c c2 F U W H ρ ω Λ S0) (hc : c ≤ 16) {ri a b l d : Nat} (kI : KI R ρ Λ S0 ri a b l d) {Q : sSt → Prop} (hQ : ∀ left, hb left (tE c F) → Pa (L_X2_arrange_61 Λ.2.2 FU S0 ri left 0) Q) : ∀ (n u : Nat) (w : Int32), u ≤ 16 → hb w (fun v => tE c F v && decide (v < u)) → Pa (L_X2_arrange_26 Λ.2.2 n S0 ri (some us) w (nI u)) Q
  | 0, _, _, _, _ => Pa_none
  | n + 1, u, w, hu, hw => by
    have kI' := kI
    obtain ⟨-, e80, -, -, -, -, -, na, -⟩ := kI'
    show Pa (Y_X2_arrange_26 Λ.2.2 (L_X2_arrange_26 Λ.2.2 n) S0 ri (some us) w (nI u)) Q
    unfold Y_X2_arrange_26 B_X2_arrange_51
    refine Pa_r e80 ?_
    rw [na]
    by_cases c0 : u = 16
    · refine Pa_it (leN (by omega) (by omega) (by omega)) (hQ w (hw.cg (fun v _ => ?_)))
      cases y : tE c F v with
      | false => rfl
      | true =>
        have := (tE_i.mp y).1
        rw [decide_eq_true (p := v < u) (by omega), Bool.and_true]
    · have hu2 : u < 16 := by omega
      refine Pa_if (nleN (by omega) (by omega) (by omega)) (Pa_bs ?_)
      rw [n_a1 u]
      have go : ∀ w2, hb w2 (fun v => decide (u = v) && tE c F u) → Pa (L_X2_arrange_26 Λ.2.2 n S0 ri (some us) (w ||| w2) (nI (u + 1))) Q := fun w2 h2 => by
        refine al_loop h hc kI hQ n (u + 1) _ hu2 ((hb_or hw h2).cg (fun v _ => ?_))
        by_cases y : u = v
        · rw [← y, decide_eq_false (Nat.lt_irrefl u), decide_eq_true (p := u < u + 1) (by omega), decide_eq_true (p := u = u) rfl]
          cases tE c F u <;> rfl
        · rw [decide_eq_false y, Bool.false_and, Bool.or_false]
          by_cases z : v < u
          · rw [decide_eq_true z, decide_eq_true (p := v < u + 1) (by omega)]
          · rw [decide_eq_false z, decide_eq_false (p := v < u + 1) (by omega)]
      cases e : uo c F.1 (nI u) with
      | none => exact Pa_be (at_none h.1 hc h.2.1 e) (Pa_on rfl (go 0 (hb_0.cg (fun v _ => by rw [uo_no hu2 e, Bool.and_false]))))
      | some k =>
        obtain ⟨rfl, hk, hT⟩ := uo_ye hu2 e
        obtain ⟨u1, hu1, ea, -⟩ := at_some h.1 hc h.2.1 e
        exact Pa_be ea (Pa_oS rfl (go _ ((hb_one (by omega)).cg (fun v _ => by rw [tE_i.mpr ⟨hk, hT⟩, Bool.and_true]))))
/-- all is arranged -/
theorem ag_val (h : CA x m o R G us t c c2 F U W H ρ ω Λ S0) (hc : c ≤ 16) (hA : WA c F W) (hM : MA c F) {ri a b l d : Nat} (kI : KI R ρ Λ S0 ri a b l d) : Pa (F_X2_arrange Λ.2.2 S0 ri (some us)) (fun r => Sh (S0, fzR, ρ, arR) (own Λ R) r ∧ (∀ k, k < 16 → hb (gAI r a k) (lE c F U W H k)) ∧ PR Λ.2.2 r ri b l d (aOrd c F U W H) []) := by
  unfold F_X2_arrange
  refine Pa_bind (fr_val h hc hA hM kI) (fun S2 _ h2 => ?_)
  obtain ⟨g2, hX⟩ := h2
  have k2 := kI.go g2
  have c2 := h.fz g2 (by unfold fzA; decide) (by unfold arA; decide)
  have k2' := k2
  obtain ⟨tri, e80, e81, e82, e40, ⟨ta, tb, tl, td⟩, ⟨pa, pb, pl, pd⟩, na, nb, nd⟩ := k2'
  refine Pa_r e82 (Pa_be emp_val (Pa_b (Pa_st (fun S8 e8 => ?_))))
  have g6 : Sh (S2, fzR, ρ, arO) (own Λ R) (sFI S2 41 l 0) := (c2.1.shz fzR arO).sFI 41 tl 0 rfl (fun _ => by
    show arO (ρ l) = false
    rw [pl]
    rfl)
  have g8 : Sh (S2, fzR, ρ, arO) (own Λ R) S8 := by
    rw [e8]
    exact sh_f k2 (sh_f k2 g6 83 rfl _) 84 rfl _
  have c8 := c2.fz g8 (by unfold fzA; decide) (by unfold arA; decide)
  have hX8 : ∀ k, k < 16 → hb (gAI S8 a k) (lE c F U W H k) := fun k hk => by
    rw [e8]
    exact hX k hk
  have fin : ∀ left, hb left (tE c F) → Pa (L_X2_arrange_61 Λ.2.2 FU S8 ri left 0) (fun r => Sh (S0, fzR, ρ, arR) (own Λ R) r ∧ (∀ k, k < 16 → hb (gAI r a k) (lE c F U W H k)) ∧ PR Λ.2.2 r ri b l d (aOrd c F U W H) []) := fun left hl => by
    have hR8 : PR Λ.2.2 S8 ri b l d [] [] := by
      refine ⟨?_, ⟨?_, ?_, Nat.zero_le _, by rw [nd]; omega, fun i v hv => by cases hv⟩, fun i r hr => (by cases hr), fun v hv => by cases hv⟩
      · rw [e8, gFI_sFI, if_neg (fun z => absurd z.1 (by decide)), gFI_sFI, if_pos ⟨rfl, rfl⟩]
        rfl
      · rw [e8, gFI_sFI, if_neg (fun z => absurd z.1 (by decide)), gFI_sFI, if_neg (fun z => absurd z.1 (by decide)), gFI_sFI, if_pos ⟨rfl, rfl⟩]
        rfl
      · rw [e8]
        exact e40
    refine Pa_mono (ar_loop (k2.go g8) hX8 (lE_tr hA hc) (lE_in hA hc) (fun x hx => by have := (tE_i.mp hx).1; omega) (tot := aOrd c F U W H) FU 0 S8 left (fun _ => false) [] (Nat.zero_le _) (Nat.zero_le _) (hl.cg (fun v _ => by cases tE c F v <;> rfl)) AB_0 (c8.1.shz _ _) hR8 rfl) (fun r hr => ?_)
    have gr : Sh (S8, fzR, ρ, arO) (own Λ R) r := hr.1
    refine ⟨g2.up (g8.up gr (fun _ z => z) (fun _ z => z)) (fun _ z => z) (nfz_sub (by decide)), fun k hk => ?_, hr.2⟩
    rw [(gr.2.2.2.2.2.2.2.2.2 a ta.1 (by rw [ta.2]; rfl) (by
      show arO (ρ a) = true
      rw [pa]
      rfl)).2.2.1 k]
    exact hX8 k hk
  exact al_loop c8 hc (k2.go g8) fin FU 0 0 (Nat.zero_le _) (hb_0.cg (fun v _ => by rw [decide_eq_false (Nat.not_lt_zero v), Bool.and_false]))
end
/-- the answers -/
def aLeads (c : Nat) (F : aF) (U W : aU) (H : aH) (p q : Int32) : Int32 := match uo c F.1 p with
  | none => -1
  | some k => match uo c F.1 q with
    | none => -1
    | some j => if lE c F U W H k j = true then 1 else 0
/-- which ring -/
noncomputable def rIx (c : Nat) (F : aF) (U W : aU) (H : aH) (k : Nat) : Nat := Classical.epsilon (fun i => ∃ r, (aOrd c F U W H)[i]? = some r ∧ k ∈ r)
theorem rIx_s {c k : Nat} {F : aF} {U W : aU} {H : aH} (hA : WA c F W) (hc : c ≤ 16) (hk : k < c) (hT : F.1 k = true) : ∃ r, (aOrd c F U W H)[rIx c F U W H k]? = some r ∧ k ∈ r := by
  obtain ⟨i, r, h1, h2⟩ := ord_at (U := U) (H := H) hA hc hk hT
  exact Classical.epsilon_spec (p := fun i => ∃ r, (aOrd c F U W H)[i]? = some r ∧ k ∈ r) ⟨i, r, h1, h2⟩
noncomputable def aRing (c : Nat) (F : aF) (U W : aU) (H : aH) (p : Int32) : Int32 := match uo c F.1 p with
  | none => -1
  | some k => nI (rIx c F U W H k)
section
variable {x m o us t c c2 : Nat} {R : List Nat} {G : Nat → Nat} {ρ ω : Nat → Nat} {Λ : sLay} {S S0 S1 S2 S' : sSt} {F : aF} {U W : aU} {H : aH}
theorem leads_c (h : CA x m o R G us t c c2 F U W H ρ ω Λ S) (hc : c ≤ 16) (hA : WA c F W) (hM : MA c F) (p q : Int32) : Pa (F_X8_leads Λ.2.2 S x p q) (fun r => r.1 = aLeads c F U W H p q) := by
  have h320 := h.1.2.2.2.2.2.2.2.2.1
  obtain ⟨ri, a, b, l, d, e323, kI⟩ := h.ri
  unfold F_X8_leads aLeads
  refine Pa_r h320 ?_
  cases e : uo c F.1 p with
  | none => exact Pa_be (at_none h.1 hc h.2.1 e) (Pa_on rfl (Pa_some rfl))
  | some k =>
    obtain ⟨u, hu, ea, -⟩ := at_some h.1 hc h.2.1 e
    obtain ⟨ep, hk, hT, -⟩ := uo_some e
    refine Pa_be ea (Pa_oS rfl (Pa_r h320 ?_))
    cases e2 : uo c F.1 q with
    | none => exact Pa_be (at_none h.1 hc h.2.1 e2) (Pa_on rfl (Pa_some rfl))
    | some j =>
      obtain ⟨u2, hu2, ea2, -⟩ := at_some h.1 hc h.2.1 e2
      obtain ⟨eq, hj, hTj, -⟩ := uo_some e2
      refine Pa_be ea2 (Pa_oS rfl (Pa_m e323 (Pa_m h320 (Pa_bs (Pa_bind (ag_val h hc hA hM kI) (fun S15 _ h15 => ?_))))))
      obtain ⟨g, hX, -⟩ := h15
      refine Pa_r ((g.fr 323 x).trans e323) ?_
      rw [ep]
      refine Pa_be (ro_w (kI.go g) (by omega)) (Pa_some ?_)
      rw [eq]
      exact hb_v (hX k (by omega)) (by omega)
theorem ring_c (h : CA x m o R G us t c c2 F U W H ρ ω Λ S) (hc : c ≤ 16) (hA : WA c F W) (hM : MA c F) (p : Int32) : Pa (F_X8_ring Λ.2.2 S x p) (fun r => r.1 = aRing c F U W H p) := by
  have h320 := h.1.2.2.2.2.2.2.2.2.1
  obtain ⟨ri, a, b, l, d, e323, kI⟩ := h.ri
  unfold F_X8_ring aRing
  refine Pa_r h320 ?_
  cases e : uo c F.1 p with
  | none => exact Pa_be (at_none h.1 hc h.2.1 e) (Pa_on rfl (Pa_some rfl))
  | some k =>
    obtain ⟨u, hu, ea, -⟩ := at_some h.1 hc h.2.1 e
    obtain ⟨ep, hk, hT, -⟩ := uo_some e
    refine Pa_be ea (Pa_oS rfl (Pa_m e323 (Pa_m h320 (Pa_bs (Pa_bind (ag_val h hc hA hM kI) (fun S10 _ h10 => ?_))))))
    obtain ⟨g, -, hR⟩ := h10
    refine Pa_r ((g.fr 323 x).trans e323) ?_
    obtain ⟨-, -, e81, -, -, -, -, -, nb, -⟩ := kI.go g
    unfold F_X2_ringOf
    rw [ep, if_neg (nI_pos (by omega))]
    refine Pa_bind (Q := fun v => v = nI (rIx c F U W H k)) (Pa_r e81 ?_) (fun v _ hv => Pa_some hv)
    rw [nb]
    refine Pa_if (nleN (by omega) (by omega) (by omega)) (Pa_r e81 (Pa_g (Pa_some ?_)))
    rw [n_cl (by omega)]
    obtain ⟨r, h1, h2⟩ := rIx_s (U := U) (H := H) hA hc hk hT
    exact hR.2.2.1 _ r h1 k h2
end
