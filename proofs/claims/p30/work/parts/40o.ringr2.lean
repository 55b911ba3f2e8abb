/-! The reference's order. -/
def QA (m : Nat) (G : Nat → Nat) (S : sSt) (done : List (List Nat)) (cur : List Nat) : Prop := gFI S 394 m = nI done.length ∧ gFI S 393 m = nI (fla done ++ cur).length ∧ (∀ (i : Nat) (v : Nat), (fla done ++ cur)[i]? = some v → gAI S (G 392) i = nI v) ∧ (∀ (i : Nat) (r : List Nat), done[i]? = some r → ∀ v, v ∈ r → gAI S (G 391) v = nI i) ∧ ∀ v, v ∈ cur → gAI S (G 391) v = nI done.length
def QB (G : Nat → Nat) (S : sSt) (P : Nat → Bool) : Prop := ∀ x, x < 16 → (gAI S (G 391) x = -5 ↔ P x = false)
theorem QB.cg {G : Nat → Nat} {S : sSt} {P P' : Nat → Bool} (h : QB G S P) (e : ∀ x, x < 16 → P x = P' x) : QB G S P' := fun x hx => by rw [← e x hx]; exact h x hx
theorem cand_one {E : aE} {T P : Nat → Bool} {w x : Nat} (hT : trE E) (hI : inE T E) (hP : pdE E P) (hw : candB E T P w = true) (h : oneB E w x = true) : candB E T P x = true := by
  obtain ⟨h1, h2, h3⟩ := cand_i.mp hw
  refine cand_i.mpr ⟨one_t hI h1 h, cand_p hP hw h, fun v hv e p => one_tr hT (one_sy h) ?_⟩
  rcases one_i.mp h with rfl | ⟨y, -⟩
  · exact h3 v hv e p
  · exact h3 v hv (hT w x v y e) p
theorem rgL_0 {E : aE} {w : Nat} : ∀ n, (∀ x, x < n → oneB E w x = false) → rgL E w n = []
  | 0, _ => rfl
  | n + 1, h => by
    rw [rgL_n (fun z => by rw [h n (by omega)] at z; cases z)]
    exact rgL_0 n (fun x hx => h x (by omega))
theorem rgL_g {E : aE} {w c : Nat} : ∀ n, c ≤ n → (∀ x, oneB E w x = true → x < c) → rgL E w n = rgL E w c
  | 0, hn, _ => by rw [show c = 0 by omega]
  | n + 1, hn, h => by
    by_cases y : c = n + 1
    · rw [y]
    · rw [rgL_n (fun z => by have := h n z; omega)]
      exact rgL_g n (by omega) h
theorem cb_tE {c : Nat} {F : aF} : ∀ n, c ≤ n → cb (tE c F) n = cb F.1 c
  | 0, hn => by rw [show c = 0 by omega]; rfl
  | n + 1, hn => by
    by_cases y : c = n + 1
    · rw [← y]
      exact cb_eq c (fun i hi => by unfold tE; rw [decide_eq_true hi, Bool.true_and])
    · show cb (tE c F) n + (if tE c F n = true then 1 else 0) = _
      rw [if_neg (fun z => by have := (tE_i.mp z).1; omega), cb_tE n (by omega), Nat.add_zero]
section
variable {m c : Nat} {G : Nat → Nat} {Λ : sLay} {N : Nat → Nat} {S0 S S1 S2 : sSt} {F : aF} {U W : aU} {H : aH} {E : aE} {P : Nat → Bool}
theorem ao_val (hG : MG m G Λ S) (hX : RM G S E) {u v : Nat} (hu : u < 16) (hv : v < 16) : Pa (F_X9_areOne N S m (nI u) (nI v)) (fun r => (oneB E u v = true ∧ r = 1) ∨ (oneB E u v = false ∧ r = 0)) := by
  have i1 : (16 : Int32) * nI u + nI v = nI (16 * u + v) := e_add (e_mul k16 rfl) rfl
  have i2 : (16 : Int32) * nI v + nI u = nI (16 * v + u) := e_add (e_mul k16 rfl) rfl
  have x1 := hX u v hu hv
  have x2 := hX v u hv hu
  unfold F_X9_areOne B_X9_areOne_33
  by_cases y : u = v
  · exact Pa_it (by rw [y]) (Pa_some (Or.inl ⟨one_i.mpr (Or.inl y), rfl⟩))
  · refine Pa_if (fun z => y ((nI_eq (by omega) (by omega)).mp z)) (Pa_r (hG.1 390 rfl) (Pa_g ?_))
    have no : ∀ {a b : Bool}, E u v = a → E v u = b → (a && b) = false → oneB E u v = false := fun ha hb h => by
      unfold oneB
      rw [ha, hb, h, decide_eq_false y]
      rfl
    rw [i1, i2, n_cl (n := 16 * u + v) (by omega), n_cl (n := 16 * v + u) (by omega)]
    by_cases c1 : E u v = false
    · exact Pa_it (x1.mpr c1) (Pa_some (Or.inr ⟨no c1 rfl rfl, rfl⟩))
    · refine Pa_if (fun z => c1 (x1.mp z)) (Pa_r (hG.1 390 rfl) (Pa_g ?_))
      by_cases c2 : E v u = false
      · exact Pa_it (x2.mpr c2) (Pa_some (Or.inr ⟨no rfl c2 (Bool.and_false _), rfl⟩))
      · exact Pa_if (fun z => c2 (x2.mp z)) (Pa_some (Or.inl ⟨one_i.mpr (Or.inr ⟨bt_of c1, bt_of c2⟩), rfl⟩))
theorem mc_loop (hb : RCo m G Λ c F U W H S) (hc : c ≤ 16) (hX : RM G S E) (hI : inE (tE c F) E) (hQ : QB G S P) {u : Nat} (hu : u < 16) : ∀ (n q : Nat) (b : Int32), q ≤ c → ((b = 1 ∧ ∀ v, v < q → okE E P u v = true) ∨ (b = 0 ∧ ∃ v, v < 16 ∧ okE E P u v = false)) → Pa (L_X9_mayCome_4 N S n m (nI u) b (nI q)) (fun r => (r = 1 ∧ ∀ v, v < 16 → okE E P u v = true) ∨ (r = 0 ∧ ∃ v, v < 16 ∧ okE E P u v = false))
  | 0, _, _, _, _ => Pa_none
  | n + 1, q, b, hq, hb1 => by
    have hG := hb.1.1
    have ec := hb.1.2.1
    show Pa (Y_X9_mayCome_4 N S (L_X9_mayCome_4 N S n) m (nI u) b (nI q)) _
    unfold Y_X9_mayCome_4 B_X9_mayCome_59 B_X9_mayCome_63 B_X9_mayCome_64
    rw [ec]
    by_cases c0 : q = c
    · refine Pa_it (leN (by omega) (by omega) (by omega)) (Pa_gb (Pa_some (hb1.imp (fun y => ⟨y.1, fun v hv => ?_⟩) id)))
      by_cases z : v < q
      · exact y.2 v z
      · refine okE_i.mpr (fun e => ?_)
        have := (tE_i.mp (hI u v e).2).1
        omega
    · have hq2 : q < c := by omega
      have i1 : (16 : Int32) * nI u + nI q = nI (16 * u + q) := e_add (e_mul k16 rfl) rfl
      refine Pa_if (nleN (by omega) (by omega) (by omega)) ?_
      rw [n_a1 q, i1, n_cl (n := q) (by omega), n_cl (n := 16 * u + q) (by omega)]
      rcases hb1 with ⟨rfl, hall⟩ | ⟨rfl, hex⟩
      · have yes : okE E P u q = true → Pa (L_X9_mayCome_4 N S n m (nI u) 1 (nI (q + 1))) (fun r => (r = 1 ∧ ∀ v, v < 16 → okE E P u v = true) ∨ (r = 0 ∧ ∃ v, v < 16 ∧ okE E P u v = false)) := fun ho => mc_loop hb hc hX hI hQ hu n (q + 1) 1 hq2 (Or.inl ⟨rfl, all_snoc hall ho⟩)
        refine Pa_if (by decide) (Pa_r (hG.1 362 rfl) (Pa_g ?_))
        by_cases c1 : gAI S (G 362) q = 0
        · refine Pa_it c1 (yes (okE_i.mpr (fun e => ?_)))
          have := (tE_i.mp (hI u q e).2).2
          rw [(hb.1.2.2.1 q hq2).1.mp c1] at this
          cases this
        · refine Pa_if c1 (Pa_r (hG.1 390 rfl) (Pa_g ?_))
          have x1 := hX u q hu (by omega)
          by_cases c2 : E u q = false
          · exact Pa_it (x1.mpr c2) (yes (okE_i.mpr (fun e => by rw [c2] at e; cases e)))
          · refine Pa_if (fun z => c2 (x1.mp z)) (Pa_r (hG.1 391 rfl) (Pa_g ?_))
            have x2 := hQ q (by omega)
            by_cases c3 : P q = false
            · refine Pa_it (x2.mpr c3) (Pa_bind (ao_val hG hX hu (by omega)) (fun v _ hv => ?_))
              rcases hv with ⟨ho, rfl⟩ | ⟨ho, rfl⟩
              · exact Pa_if (by decide) (yes (okE_i.mpr (fun _ _ => ho)))
              · refine Pa_it rfl (mc_loop hb hc hX hI hQ hu n (q + 1) 0 hq2 (Or.inr ⟨rfl, q, by omega, bf_of (fun z => ?_)⟩))
                have := okE_i.mp z (bt_of c2) c3
                rw [ho] at this
                cases this
            · exact Pa_if (fun z => c3 (x2.mp z)) (yes (okE_i.mpr (fun _ p => absurd p c3)))
      · exact Pa_it rfl (mc_loop hb hc hX hI hQ hu n (q + 1) 0 hq2 (Or.inr ⟨rfl, hex⟩))
theorem mc_val (hb : RCo m G Λ c F U W H S) (hc : c ≤ 16) (hX : RM G S E) (hI : inE (tE c F) E) (hQ : QB G S P) {u : Nat} (hu : u < 16) : Pa (F_X9_mayCome N S m (nI u)) (fun r => (r = 1 ∧ ∀ v, v < 16 → okE E P u v = true) ∨ (r = 0 ∧ ∃ v, v < 16 ∧ okE E P u v = false)) :=
  mc_loop hb hc hX hI hQ hu FU 0 1 (Nat.zero_le _) (Or.inl ⟨rfl, fun v hv => absurd hv (Nat.not_lt_zero v)⟩)
/-- a ring is placed -/
theorem fo_87 (h0 : RCo m G Λ c F U W H S0) (hc : c ≤ 16) (hI : inE (tE c F) E) {done : List (List Nat)} {w : Nat} {p1 : Int32} (hA : AB E (tE c F) done P) (hw : candB E (tE c F) P w = true) (h16 : done.length < 1000) (hwc : w < c) {Q : sSt → Prop} {k41 : sSt → Nat → Int32 → Option sSt} (hkk : ∀ S', KQ m G S0 S' → RM G S' E → QA m G S' (done ++ [rgL E w 16]) [] → QB G S' (plus E P w) → (fla done ++ rgL E w 16).length = cb (plB E P w 16) 16 → Pa (k41 S' m p1) Q) : ∀ (n v : Nat) (S1 : sSt), v ≤ c → KQ m G S0 S1 → RM G S1 E → QA m G S1 done (rgL E w v) → QB G S1 (plB E P w v) → (fla done ++ rgL E w v).length = cb (plB E P w v) 16 → Pa (L_X9_findOrder_87 N k41 n S1 m p1 (nI w) (nI v)) Q
  | 0, _, _, _, _, _, _, _, _ => Pa_none
  | n + 1, v, S1, hv, K, hX, hR, hB, hl => by
    have h1 := h0.kq K
    have hG := h1.1.1
    have ec := h1.1.2.1
    obtain ⟨r1, r2, r3, r4, r5⟩ := hR
    have tw := (cand_i.mp hw).1
    have inC : ∀ x, oneB E w x = true → x < c := fun x hx => (tE_i.mp (one_t hI tw hx)).1
    show Pa (Y_X9_findOrder_87 N k41 (L_X9_findOrder_87 N k41 n) S1 m p1 (nI w) (nI v)) Q
    unfold Y_X9_findOrder_87 B_X9_findOrder_143
    rw [ec]
    by_cases c0 : v = c
    · rw [c0] at r2 r3 r5 hl hB
      have eR : rgL E w 16 = rgL E w c := rgL_g 16 hc inC
      have eP : ∀ x, plB E P w 16 x = plB E P w c x := fun x => by
        unfold plB
        cases y : oneB E w x with
        | false => rfl
        | true =>
          have := inC x y
          rw [decide_eq_true (p := x < 16) (by omega), decide_eq_true this]
      refine Pa_it (leN (by omega) (by omega) (by omega)) (Pa_b ?_)
      rw [r1, n_a1]
      refine hkk _ (K.f (by decide)) hX ⟨?_, ?_, ?_, ?_, fun v hv => by cases hv⟩ (hB.cg (fun x hx => by rw [← eP, plB_16 hx])) ?_
      · rw [gFI_sFI, if_pos ⟨rfl, rfl⟩, List.length_append, List.length_singleton]
      · rw [gFI_sFI, if_neg (fun z => absurd z.1 (by decide)), fla_1, List.append_nil, eR]
        exact r2
      · rw [fla_1, List.append_nil, eR]
        exact r3
      · rw [eR]
        exact sncP (P := fun i r => ∀ v, v ∈ r → gAI S1 (G 391) v = nI i) r4 r5
      · rw [eR, hl]
        exact cb_eq 16 (fun i _ => (eP i).symm)
    · have hv2 : v < c := by omega
      have skip : oneB E w v = false → Pa (L_X9_findOrder_87 N k41 n S1 m p1 (nI w) (nI (v + 1))) Q := fun ho => by
        refine fo_87 h0 hc hI hA hw h16 hwc hkk n (v + 1) S1 hv2 K hX ?_ (hB.cg (fun x hx => ?_)) ?_
        · rw [rgL_n (fun z => by rw [ho] at z; cases z)]
          exact ⟨r1, r2, r3, r4, r5⟩
        · by_cases y : x = v
          · unfold plB
            rw [y, ho, Bool.false_and, Bool.false_and]
          · exact (plB_ne y).symm
        · rw [rgL_n (fun z => by rw [ho] at z; cases z), cnt_n ho]
          exact hl
      refine Pa_if (nleN (by omega) (by omega) (by omega)) (Pa_r (hG.1 362 rfl) (Pa_g ?_))
      rw [n_a1 v, n_cl (n := v) (by omega)]
      by_cases c1 : gAI S1 (G 362) v = 0
      · refine Pa_it c1 (skip (bf_of (fun z => ?_)))
        have := (tE_i.mp (one_t hI tw z)).2
        rw [(h1.1.2.2.1 v hv2).1.mp c1] at this
        cases this
      · refine Pa_if c1 (Pa_bind (ao_val hG hX (by omega) (by omega)) (fun v16 _ hv16 => ?_))
        rcases hv16 with ⟨ho, rfl⟩ | ⟨ho, rfl⟩
        · have pv := cand_p hA.1 hw ho
          have hlt : (fla done ++ rgL E w v).length < 16 := by
            have q1 := cnt_s (E := E) (P := P) (w := w) (v := v) (by omega) ho pv
            have q2 := cb_le (f := plB E P w (v + 1)) 16
            omega
          refine Pa_if (by decide) (Pa_r (hG.1 391 rfl) (Pa_g (Pa_st (fun S20 e20 => ?_))))
          have h20 : S20.2.2.1 = S1.2.2.1 := by rw [e20]; rfl
          have f393 : gFI S20 393 m = nI (fla done ++ rgL E w v).length := by rw [e20]; exact r2
          refine Pa_r (hG.g h20 392) (Pa_g (Pa_b (Pa_b ?_)))
          rw [gFI_sAI, f393, n_cl (n := (fla done ++ rgL E w v).length) (by omega), n_a1, e20, r1]
          refine fo_87 h0 hc hI hA hw h16 hwc hkk n (v + 1) _ hv2 (((K.I h0.1.1 391 rfl (Or.inr (Or.inl rfl))).I h0.1.1 392 rfl (Or.inr (Or.inr rfl))).f (by decide)) ?_ ⟨?_, ?_, ?_, ?_, ?_⟩ ?_ ?_
          · intro a b ha hb
            rw [gAI_sFI, hG.o 390 392, hG.o 390 391]
            exact hX a b ha hb
          · rw [gFI_sFI, if_neg (fun z => absurd z.1 (by decide))]
            exact r1
          · have el : ((fla done ++ rgL E w v) ++ [v]).length = (fla done ++ rgL E w v).length + 1 := List.length_append
            rw [gFI_sFI, if_pos ⟨rfl, rfl⟩, rgL_y ho, ← List.append_assoc, el]
          · rw [rgL_y ho, ← List.append_assoc]
            refine sncP (P := fun i y => gAI (sFI (sAI (sAI S1 (G 391) v (nI done.length)) (G 392) (fla done ++ rgL E w v).length (nI v)) 393 m (nI ((fla done ++ rgL E w v).length + 1))) (G 392) i = nI y) (fun i y hy => ?_) ?_
            · have hi := (List.getElem?_eq_some_iff.mp hy).1
              rw [gAI_sFI, sI, if_neg (by omega), hG.o 392 391]
              exact r3 i y hy
            · rw [gAI_sFI, sI, if_pos rfl]
          · intro i r hr y hy
            rw [gAI_sFI, hG.o 391 392, sI, if_neg (fun z => ?_)]
            · exact r4 i r hr y hy
            · have : P y = true := hA.2.2.1 y (mem_fla hr hy)
              rw [z, pv] at this
              cases this
          · intro y hy
            rw [gAI_sFI, hG.o 391 392, sI]
            by_cases cy : y = v
            · rw [if_pos cy]
            · rw [if_neg cy]
              rw [rgL_y ho, List.mem_append, List.mem_singleton] at hy
              exact r5 y (hy.elim id (fun z => absurd z cy))
          · intro y hy
            rw [gAI_sFI, hG.o 391 392, sI]
            by_cases cy : y = v
            · rw [if_pos cy]
              refine ⟨fun z => absurd z (ne5 (by omega)), fun z => ?_⟩
              unfold plB at z
              rw [cy, ho, decide_eq_true (p := v < v + 1) (by omega), Bool.and_true, Bool.or_true] at z
              cases z
            · rw [if_neg cy, plB_ne cy]
              exact hB y hy
          · rw [rgL_y ho, ← List.append_assoc, List.length_append, List.length_singleton, hl, cnt_s (by omega) ho pv]
        · exact Pa_it rfl (skip ho)
/-- the least that may come -/
theorem fo_51 (h0 : RCo m G Λ c F U W H S0) (hc : c ≤ 16) (hTr : trE E) (hI : inE (tE c F) E) {done : List (List Nat)} {w : Nat} {p1 : Int32} (hA : AB E (tE c F) done P) (hw : lstF (candB E (tE c F) P) 16 = some w) (h16 : done.length < 1000) {Q : sSt → Prop} {k41 : sSt → Nat → Int32 → Option sSt} (hkk : ∀ S', KQ m G S0 S' → RM G S' E → QA m G S' (done ++ [rgL E w 16]) [] → QB G S' (plus E P w) → (fla done ++ rgL E w 16).length = cb (plB E P w 16) 16 → Pa (k41 S' m p1) Q) (K : KQ m G S0 S1) (hX : RM G S1 E) (hR : QA m G S1 done []) (hB : QB G S1 P) : ∀ (n q : Nat), q ≤ w → Pa (L_X9_findOrder_51 N k41 n S1 m p1 (nI q)) Q
  | 0, _, _ => Pa_none
  | n + 1, q, hq => by
    have h1 := h0.kq K
    have hG := h1.1.1
    obtain ⟨w1, w2, w3⟩ := lstF_s 16 w hw
    have wc := (tE_i.mp (cand_i.mp w2).1).1
    have hq16 : q < 16 := by omega
    have next : candB E (tE c F) P q = false → Pa (L_X9_findOrder_51 N k41 n S1 m p1 (nI (q + 1))) Q := fun hf => by
      refine fo_51 h0 hc hTr hI hA hw h16 hkk K hX hR hB n (q + 1) ?_
      rcases Nat.lt_or_ge q w with z | z
      · exact z
      · have : q = w := by omega
        rw [this, w2] at hf
        cases hf
    show Pa (Y_X9_findOrder_51 N k41 (L_X9_findOrder_51 N k41 n) S1 m p1 (nI q)) Q
    unfold Y_X9_findOrder_51 B_X9_findOrder_79
    refine Pa_r (hG.1 362 rfl) (Pa_g ?_)
    rw [n_a1 q, n_cl (n := q) (by omega)]
    by_cases c1 : gAI S1 (G 362) q = 0
    · refine Pa_it c1 (next (bf_of (fun z => ?_)))
      have := (tE_i.mp (cand_i.mp z).1).2
      rw [(h1.1.2.2.1 q (by omega)).1.mp c1] at this
      cases this
    · have hT : F.1 q = true := bt_of (fun y => c1 ((h1.1.2.2.1 q (by omega)).1.mpr y))
      refine Pa_if c1 (Pa_r (hG.1 391 rfl) (Pa_g ?_))
      have x2 := hB q hq16
      by_cases c3 : P q = false
      · refine Pa_it (x2.mpr c3) (Pa_bind (mc_val h1 hc hX hI hB hq16) (fun v11 _ hv => ?_))
        rcases hv with ⟨rfl, hall⟩ | ⟨rfl, v, hv, hno⟩
        · have hcand : candB E (tE c F) P q = true := cand_i.mpr ⟨tE_i.mpr ⟨by omega, hT⟩, c3, fun v hv => okE_i.mp (hall v hv)⟩
          have eq : q = w := by
            rcases Nat.lt_or_ge q w with z | z
            · rw [w3 q z] at hcand
              cases hcand
            · omega
          subst eq
          have noq : ∀ x, x < q → oneB E q x = false := fun x hx => bf_of (fun z => by
            have := cand_one hTr hI hA.1 w2 z
            rw [w3 x hx] at this
            cases this)
          have eR := rgL_0 q noq
          have eP : ∀ x, P x = plB E P q q x := fun x => by
            unfold plB
            by_cases y : x < q
            · rw [noq x y, Bool.false_and, Bool.or_false]
            · rw [decide_eq_false y, Bool.and_false, Bool.or_false]
          refine Pa_if (by decide) (fo_87 h0 hc hI hA w2 h16 wc hkk FU q S1 (by omega) K hX ?_ (hB.cg (fun x _ => eP x)) ?_)
          · rw [eR]
            exact hR
          · rw [eR, List.append_nil, hA.2.2.2]
            exact cb_eq 16 (fun i _ => eP i)
        · refine Pa_it rfl (next (bf_of (fun z => ?_)))
          have := okE_i.mpr ((cand_i.mp z).2.2 v hv)
          rw [hno] at this
          cases this
      · refine Pa_if (fun z => c3 (x2.mp z)) (next (bf_of (fun z => c3 (cand_i.mp z).2.1)))
/-- ring after ring -/
theorem fo_41 (h0 : RCo m G Λ c F U W H S0) (hc : c ≤ 16) (hTr : trE E) (hI : inE (tE c F) E) {tot : List (List Nat)} : ∀ (n : Nat) (S1 : sSt) (P : Nat → Bool) (done : List (List Nat)), AB E (tE c F) done P → done.length ≤ cb P 16 → KQ m G S0 S1 → RM G S1 E → QA m G S1 done [] → QB G S1 P → tot = done ++ ordL E (tE c F) (16 - done.length) P → Pa (L_X9_findOrder_41 N n S1 m (nI (cb F.1 c))) (fun r => KQ m G S0 r ∧ RM G r E ∧ QA m G r tot [])
  | 0, _, _, _, _, _, _, _, _, _, _ => Pa_none
  | n + 1, S1, P, done, hA, hd, K, hX, hR, hB, et => by
    have hS : ∀ x, tE c F x = true → x < 16 := fun x hx => by have := (tE_i.mp hx).1; omega
    have l16 := cb_le (f := P) 16
    have lc := cb_le (f := F.1) c
    have eT := cb_tE (F := F) 16 hc
    have e393 : gFI S1 393 m = nI (cb P 16) := by
      have := hR.2.1
      rw [List.append_nil, hA.2.2.2] at this
      exact this
    show Pa (Y_X9_findOrder_41 N (L_X9_findOrder_41 N n) S1 m (nI (cb F.1 c))) _
    unfold Y_X9_findOrder_41
    rw [e393]
    by_cases c0 : cb F.1 c ≤ cb P 16
    · refine Pa_it (leN (by omega) (by omega) c0) (Pa_some ⟨K, hX, ?_⟩)
      have hno : lstF (candB E (tE c F) P) 16 = none := by
        cases e : lstF (candB E (tE c F) P) 16 with
        | none => rfl
        | some w =>
          obtain ⟨w1, w2, -⟩ := lstF_s 16 w e
          obtain ⟨t1, t2, -⟩ := cand_i.mp w2
          have := cb_lt (f := P) (g := tE c F) (j := w) 16 (fun i _ z => hA.2.1 i z) w1 t1 (fun z => by rw [t2] at z; cases z)
          omega
      rw [et, ordL_n hno, List.append_nil]
      exact hR
    · refine Pa_if (nleN (by omega) (by omega) (by omega)) ?_
      obtain ⟨u, hu, tu, pu⟩ := cb_ex (f := P) (g := tE c F) 16 (by omega)
      obtain ⟨w, hw⟩ := cand_y hTr hI hS tu (bf_of pu)
      obtain ⟨w1, w2, -⟩ := lstF_s 16 w hw
      obtain ⟨t1, t2, -⟩ := cand_i.mp w2
      have lt16 : cb P 16 < 16 := by
        have := cb_lt (f := P) (g := fun _ => true) (j := w) 16 (fun _ _ _ => rfl) w1 rfl (fun z => by rw [t2] at z; cases z)
        have := cb_le (f := fun _ => true) 16
        omega
      refine fo_51 h0 hc hTr hI hA hw (by omega) (fun S' K' X' R' B' l' => ?_) K hX hR hB FU 0 (Nat.zero_le _)
      refine fo_41 h0 hc hTr hI n S' (plus E P w) (done ++ [rgL E w 16]) (hA.s hTr hI w2 l') ?_ K' X' R' B' ?_
      · have := cb_lt (f := P) (g := plus E P w) (j := w) 16 (fun i _ z => by unfold plus; rw [z, Bool.true_or]) w1 (by
          unfold plus
          rw [one_i.mpr (Or.inl rfl), Bool.or_true]) (fun z => by rw [t2] at z; cases z)
        rw [List.length_append, List.length_singleton]
        omega
      · rw [et, show 16 - done.length = 16 - (done ++ [rgL E w 16]).length + 1 by rw [List.length_append, List.length_singleton]; omega, ordL_s hw, List.append_assoc]
        rfl
theorem uT_loop (hb : RCo m G Λ c F U W H S) (hc : c ≤ 16) : ∀ (n q : Nat), q ≤ c → Pa (L_X9_unitsThere_4 N S n m (nI (cb F.1 q)) (nI q)) (fun r => r = nI (cb F.1 c))
  | 0, _, _ => Pa_none
  | n + 1, q, hq => by
    have hG := hb.1.1
    have lq := cb_le (f := F.1) q
    show Pa (Y_X9_unitsThere_4 N S (L_X9_unitsThere_4 N S n) m (nI (cb F.1 q)) (nI q)) _
    unfold Y_X9_unitsThere_4 B_X9_unitsThere_27
    rw [hb.1.2.1]
    by_cases c0 : q = c
    · exact Pa_it (leN (by omega) (by omega) (by omega)) (Pa_some (by rw [c0]))
    · refine Pa_if (nleN (by omega) (by omega) (by omega)) (Pa_r (hG.1 362 rfl) (Pa_g ?_))
      have x1 := (hb.1.2.2.1 q (by omega)).1
      have ih := uT_loop hb hc n (q + 1) (by omega)
      rw [n_cl (by omega), n_a1 q]
      by_cases c1 : F.1 q = false
      · refine Pa_it (x1.mpr c1) ?_
        have e : cb F.1 (q + 1) = cb F.1 q + 0 := by
          show cb F.1 q + (if F.1 q = true then 1 else 0) = _
          rw [c1]
          rfl
        rw [e] at ih
        rw [show nI (cb F.1 q) + (0 : Int32) = nI (cb F.1 q + 0) from nI_add _ 0]
        exact ih
      · refine Pa_if (fun z => c1 (x1.mp z)) ?_
        have e : cb F.1 (q + 1) = cb F.1 q + 1 := by
          show cb F.1 q + (if F.1 q = true then 1 else 0) = _
          rw [bt_of c1]
          rfl
        rw [e] at ih
        rw [n_a1]
        exact ih
theorem fo_6 (h0 : RCo m G Λ c F U W H S0) (hc : c ≤ 16) (hA : WA c F W) : ∀ (n j : Nat) (S1 : sSt), j ≤ 16 → KQ m G S0 S1 → RM G S1 (lE c F U W H) → (∀ x, x < j → gAI S1 (G 391) x = -5) → Pa (L_X9_findOrder_6 N n S1 m (nI j)) (fun r => KQ m G S0 r ∧ RM G r (lE c F U W H) ∧ QA m G r (aOrd c F U W H) [])
  | 0, _, _, _, _, _, _ => Pa_none
  | n + 1, j, S1, hj, K, hX, hB => by
    have h1 := h0.kq K
    have hG := h1.1.1
    show Pa (Y_X9_findOrder_6 N (L_X9_findOrder_6 N n) S1 m (nI j)) _
    unfold Y_X9_findOrder_6
    by_cases c0 : j = 16
    · refine Pa_it (leN (a := 16) (by omega) (by omega) (by omega)) (Pa_st (fun S3 e3 => Pa_st (fun S4 e4 => ?_)))
      have K4 : KQ m G S0 S4 := by rw [e4, e3]; exact (K.f (by decide)).f (by decide)
      have h4 := h0.kq K4
      unfold F_X9_unitsThere
      refine Pa_bind (uT_loop h4 hc FU 0 (Nat.zero_le _)) (fun v5 _ hv5 => ?_)
      rw [hv5]
      refine fo_41 h0 hc (lE_tr hA hc) (lE_in hA hc) (tot := aOrd c F U W H) FU S4 (fun _ => false) [] AB_0 (Nat.zero_le _) K4 ?_ ⟨?_, ?_, fun i v hv => (by cases hv), fun i r hr => (by cases hr), fun v hv => by cases hv⟩ (fun x hx => ⟨fun _ => rfl, fun _ => ?_⟩) rfl
      · rw [e4, e3]
        exact hX
      · rw [e4, gFI_sFI, if_pos ⟨rfl, rfl⟩]
        rfl
      · rw [e4, gFI_sFI, if_neg (fun z => absurd z.1 (by decide)), e3, gFI_sFI, if_pos ⟨rfl, rfl⟩]
        rfl
      · rw [e4, e3]
        exact hB x (by omega)
    · refine Pa_if (nleN (b := j) (a := 16) (by omega) (by omega) (by omega)) (Pa_r (hG.1 391 rfl) (Pa_g (Pa_b ?_)))
      rw [n_cl (by omega), n_a1]
      refine fo_6 h0 hc hA n (j + 1) _ (by omega) (K.I h0.1.1 391 rfl (Or.inr (Or.inl rfl))) (fun a b ha hb => ?_) (fun x hx => ?_)
      · rw [hG.o 390 391]
        exact hX a b ha hb
      · rw [sI]
        by_cases y : x = j
        · rw [if_pos y]
        · rw [if_neg y]
          exact hB x (by omega)
theorem fo_val (h0 : RCo m G Λ c F U W H S0) (hc : c ≤ 16) (hA : WA c F W) (hM : MA c F) : Pa (F_X9_findOrder N S0 m) (fun r => KQ m G S0 r ∧ RM G r (lE c F U W H) ∧ QA m G r (aOrd c F U W H) []) := by
  unfold F_X9_findOrder
  exact Pa_bind (fl_val h0 hc hA hM) (fun S2 _ h2 => fo_6 h0 hc hA FU 0 S2 (Nat.zero_le _) h2.1 h2.2 (fun x hx => absurd hx (Nat.not_lt_zero x)))
theorem ring_r (h : RA m G Λ c F U W H S) (hc : c ≤ 16) (hA : WA c F W) (hM : MA c F) (p : Int32) : Pa (F_X9_ring Λ.2.2 S m p) (fun r => r.1 = aRing c F U W H p) := by
  have hb := h.rc
  unfold F_X9_ring aRing
  refine Pa_b (Pa_be (isU_val h.1.g0 hc hb.1.2.1 (fun k hk => (h.2.2.1 k hk).1) p) ?_)
  cases e : uo c F.1 p with
  | none => exact Pa_it (iU0.mpr rfl) (Pa_some rfl)
  | some k =>
    obtain ⟨ep, hk, hT, -⟩ := uo_some e
    refine Pa_if (fun z => by have := iU0.mp z; cases this) (Pa_bind (fo_val hb hc hA hM) (fun S5 _ h5 => ?_))
    obtain ⟨K, -, hR⟩ := h5
    refine Pa_r (hb.1.1.g K.1 391) (Pa_g (Pa_some ?_))
    rw [ep, n_cl (by omega)]
    obtain ⟨r, h1, h2⟩ := rIx_s (U := U) (H := H) hA hc hk hT
    exact hR.2.2.2.1 _ r h1 k h2
end
