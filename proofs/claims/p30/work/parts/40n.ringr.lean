/-! The reference finds what leads to what. -/
def RCo (m : Nat) (G : Nat → Nat) (Λ : sLay) (c : Nat) (F : aF) (U W : aU) (H : aH) (S : sSt) : Prop := RB m G Λ c F W H S ∧ RL2 371 372 12 G S c F U
def KQ (m : Nat) (G : Nat → Nat) (S S1 : sSt) : Prop := S1.2.2.1 = S.2.2.1 ∧ gFI S1 361 m = gFI S 361 m ∧ ∀ f, isM f = true → f ≠ 390 → f ≠ 391 → f ≠ 392 → ∀ k, gAI S1 (G f) k = gAI S (G f) k ∧ gAJ S1 (G f) k = gAJ S (G f) k
/-- what each leads to, in the reference -/
def RM (G : Nat → Nat) (S : sSt) (D : aE) : Prop := ∀ a b, a < 16 → b < 16 → (gAI S (G 390) (16 * a + b) = 0 ↔ D a b = false)
def Dg (E : aE) (u : Nat) (g : Nat → Bool) : aE := fun a b => (decide (a < u) && E a b) || (decide (a = u) && g b)
theorem RM.cg {G : Nat → Nat} {S : sSt} {D D' : aE} (h : RM G S D) (e : ∀ a b, a < 16 → b < 16 → D a b = D' a b) : RM G S D' := fun a b ha hb => by rw [← e a b ha hb]; exact h a b ha hb
theorem RM.set {G : Nat → Nat} {S : sSt} {D D' : aE} {u v : Nat} {w : Int32} {w' : Bool} (h : RM G S D) (hv : v < 16) (hw : w = 0 ↔ w' = false) (e1 : D' u v = w') (e : ∀ a b, a < 16 → b < 16 → ¬ (a = u ∧ b = v) → D' a b = D a b) : RM G (sAI S (G 390) (16 * u + v) w) D' := fun a b ha hb => by
  rw [sI]
  by_cases y : a = u ∧ b = v
  · obtain ⟨rfl, rfl⟩ := y
    rw [if_pos rfl, e1]
    exact hw
  · rw [if_neg (fun z => y (by omega)), e a b ha hb y]
    exact h a b ha hb
theorem Dg_n {E : aE} {u a b : Nat} {g g' : Nat → Bool} (h : a ≠ u) : Dg E u g a b = Dg E u g' a b := by
  unfold Dg
  rw [decide_eq_false h, Bool.false_and, Bool.false_and]
theorem Dg_u {E : aE} {u b : Nat} {g : Nat → Bool} : Dg E u g u b = g b := by
  unfold Dg
  rw [decide_eq_false (Nat.lt_irrefl u), decide_eq_true (p := u = u) rfl, Bool.false_and, Bool.false_or, Bool.true_and]
section
variable {m c : Nat} {G : Nat → Nat} {Λ : sLay} {N : Nat → Nat} {S0 S S1 S2 : sSt} {F : aF} {U W : aU} {H : aH}
theorem KQ.rf : KQ m G S S := ⟨rfl, rfl, fun _ _ _ _ _ _ => ⟨rfl, rfl⟩⟩
theorem KQ.I (hG : MG m G Λ S0) (h : KQ m G S S1) (f' : Nat) (hf' : isM f' = true) (h2 : f' = 390 ∨ f' = 391 ∨ f' = 392) {k : Nat} {v : Int32} : KQ m G S (sAI S1 (G f') k v) := ⟨h.1, h.2.1, fun f hf n1 n2 n3 j => by
  have hne : f ≠ f' := fun e => h2.elim (fun y => n1 (e.trans y)) (fun z => z.elim (fun y => n2 (e.trans y)) (fun y => n3 (e.trans y)))
  exact ⟨(hG.o f f' hf hf' hne).trans (h.2.2 f hf n1 n2 n3 j).1, (h.2.2 f hf n1 n2 n3 j).2⟩⟩
theorem KQ.f (h : KQ m G S S1) {f : Nat} (hf : 361 ≠ f) {v : Int32} : KQ m G S (sFI S1 f m v) := ⟨h.1, (gFI_ne hf).trans h.2.1, h.2.2⟩
theorem RCo.kq (h : RCo m G Λ c F U W H S) (k : KQ m G S S1) : RCo m G Λ c F U W H S1 := by
  obtain ⟨⟨h1, h2, h3, h4, h5⟩, hU⟩ := h
  have y : ∀ f, isM f = true → f ≠ 390 → f ≠ 391 → f ≠ 392 → ∀ j, gAI S1 (G f) j = gAI S (G f) j := fun f hf n1 n2 n3 j => (k.2.2 f hf n1 n2 n3 j).1
  refine ⟨⟨⟨fun f hf => h1.g k.1 f hf, h1.2⟩, k.2.1.trans h2, fun j hj => ?_, h4.kp (y 369 rfl (by decide) (by decide) (by decide)) (y 370 rfl (by decide) (by decide) (by decide)), fun j hj hT => ?_⟩, hU.kp (y 371 rfl (by decide) (by decide) (by decide)) (y 372 rfl (by decide) (by decide) (by decide))⟩
  · rw [y 362 rfl (by decide) (by decide) (by decide), y 373 rfl (by decide) (by decide) (by decide), y 374 rfl (by decide) (by decide) (by decide)]
    exact h3 j hj
  · obtain ⟨q1, q2, q3⟩ := h5 j hj hT
    exact ⟨(y 363 rfl (by decide) (by decide) (by decide) j).trans q1, q2, fun i th hi => (q3 i th hi).cp (y 364 rfl (by decide) (by decide) (by decide) _) ((k.2.2 365 rfl (by decide) (by decide) (by decide) _).2) (y 366 rfl (by decide) (by decide) (by decide) _) (y 367 rfl (by decide) (by decide) (by decide) _) (fun z _ => y 368 rfl (by decide) (by decide) (by decide) _)⟩
theorem RA.rc (h : RA m G Λ c F U W H S) : RCo m G Λ c F U W H (sFI S 360 m 0) := ⟨h.rb, h.2.2.2.1⟩
/-- one that is found is led to -/
theorem po_val (h0 : RCo m G Λ c F U W H S0) {E : aE} {u : Nat} {g : Nat → Bool} {z : Option (Nat × Nat)} {v : Int32} (K : KQ m G S0 S1) (hX : RM G S1 (Dg E u g)) (hu : u < 16) (ev : v = oF z) (hz : ∀ y, z = some y → y.1 < 16 ∧ y.2 < 10) : Pa (F_X9_points N S1 m (nI u) v) (fun r => KQ m G S0 r ∧ RM G r (Dg E u (fun b => g b || hit z b))) := by
  have hG := h0.1.1
  unfold F_X9_points
  cases z with
  | none => exact Pa_it ev (Pa_some ⟨K, hX.cg (fun a b _ _ => by
      show _ = Dg E u (fun b => g b || false) a b
      rw [show (fun b => g b || false) = g from funext (fun b => Bool.or_false _)])⟩)
  | some y =>
    obtain ⟨l1, l2⟩ := hz y rfl
    have ev : v = nI (10 * y.1 + y.2) := ev
    have e1 : v / (10 : Int32) = nI y.1 := by
      rw [ev, n_d10 (by omega)]
      congr 1
      omega
    have e2 : (16 : Int32) * nI u + nI y.1 = nI (16 * u + y.1) := e_add (e_mul k16 rfl) rfl
    refine Pa_if (by rw [ev]; exact ne5 (by omega)) (Pa_r (hG.g K.1 390) (Pa_g (Pa_b (Pa_some ⟨K.I hG 390 rfl (Or.inl rfl), ?_⟩))))
    rw [e1, e2, n_cl (by omega), and1_1]
    refine hX.set l1 (w' := true) ⟨fun z => absurd z (by decide), fun z => nomatch z⟩ ?_ (fun a b ha hb hn => ?_)
    · rw [Dg_u]
      show (g y.1 || decide (y.1 = y.1)) = true
      rw [decide_eq_true rfl, Bool.or_true]
    · by_cases ca : a = u
      · rw [ca, Dg_u, Dg_u]
        show (g b || decide (y.1 = b)) = g b
        rw [decide_eq_false (fun z => hn ⟨ca, z.symm⟩), Bool.or_false]
      · exact Dg_n ca
theorem fl_102 (h0 : RCo m G Λ c F U W H S0) (hc : c ≤ 16) (hA : WA c F W) {E : aE} {u i : Nat} {th : aT} {rest : List Int32} (hk : u < c) (hT : F.1 u = true) (hi : i < 10) (hth : (H u)[i]? = some th) {Q : sSt → Prop} {k24 : sSt → Nat → Int32 → Option sSt} {k85 : sSt → Nat → Int32 → Int32 → Option sSt} {GS : Nat → Bool} (hkk : ∀ S' g, KQ m G S0 S' → RM G S' (Dg E u g) → (∀ b, (g b || lds W H u b rest) = GS b) → Pa (k85 S' m (nI u) (nI (10 * u + i) + 1)) Q) : ∀ (n j : Nat) (S1 : sSt) (g : Nat → Bool), j ≤ th.2.2.2.length → KQ m G S0 S1 → RM G S1 (Dg E u g) → (∀ b, (g b || lds W H u b ((th.2.2.2.drop j).map (fun v => 32 + v) ++ rest)) = GS b) → Pa (L_X9_findLeads_102 N k24 k85 n S1 m (nI u) (nI (10 * u + i)) (nI j)) Q
  | 0, _, _, _, _, _, _, _ => Pa_none
  | n + 1, j, S1, g, hj, K, hX, hg => by
    have h1 := h0.kq K
    have hG := h1.1.1
    obtain ⟨q1, q2, q3⟩ := h1.1.2.2.2.2 u hk hT
    obtain ⟨y1, y2, y3, y4, y5, y6, y7⟩ := q3 i th hth
    show Pa (Y_X9_findLeads_102 N k24 k85 (L_X9_findLeads_102 N k24 k85 n) S1 m (nI u) (nI (10 * u + i)) (nI j)) Q
    unfold Y_X9_findLeads_102
    refine Pa_r (hG.1 367 rfl) (Pa_g ?_)
    rw [n_cl (by omega), y5]
    by_cases c0 : j = th.2.2.2.length
    · refine Pa_it (leN (by omega) (by omega) (by omega)) (hkk S1 g K hX (fun b => ?_))
      rw [← hg b, List.drop_eq_nil_of_le (by omega)]
      rfl
    · have hj2 : j < th.2.2.2.length := by omega
      have e2 : th.2.2.2.drop j = th.2.2.2[j] :: th.2.2.2.drop (j + 1) := List.drop_eq_getElem_cons hj2
      have ej : (3 : Int32) * nI (10 * u + i) + nI j = nI (3 * (10 * u + i) + j) := e_add (e_mul k3 rfl) rfl
      refine Pa_if (nleN (by omega) (by omega) (by omega)) (Pa_r (hG.1 368 rfl) (Pa_g ?_))
      rw [ej, n_cl (by omega), y7 j _ (List.getElem?_eq_getElem hj2), n_a1 j]
      refine Pa_bind (fn_val hG h1.1.2.2.2.1 h1.1.2.2.2.2 hc hA hk hT rfl (32 + th.2.2.2[j])) (fun v _ hv => ?_)
      refine Pa_bind (po_val h0 K hX (by omega) hv (fun z hz => fd_lim h1.1.2.2.2.2 hc hA hk hT hz)) (fun S30 _ h30 => ?_)
      refine fl_102 h0 hc hA hk hT hi hth hkk n (j + 1) S30 _ hj2 h30.1 h30.2 (fun b => ?_)
      rw [← hg b, e2, List.map_cons, List.cons_append, lds_c, Bool.or_assoc]
theorem fl_85 (h0 : RCo m G Λ c F U W H S0) (hc : c ≤ 16) (hA : WA c F W) (hM : MA c F) {u : Nat} (hk : u < c) (hT : F.1 u = true) {Q : sSt → Prop} {k24 : sSt → Nat → Int32 → Option sSt} (hkk : ∀ S', KQ m G S0 S' → RM G S' (fun a b => decide (a < u + 1) && eO c F U W H a b) → Pa (k24 S' m (nI u + 1)) Q) : ∀ (n i : Nat) (S1 : sSt) (g : Nat → Bool), i ≤ (H u).length → KQ m G S0 S1 → RM G S1 (Dg (eO c F U W H) u g) → (∀ b, (g b || lds W H u b (blL ((H u).drop i))) = lds W H u b (soL U H u)) → Pa (L_X9_findLeads_85 N k24 n S1 m (nI u) (nI (10 * u + i))) Q
  | 0, _, _, _, _, _, _, _ => Pa_none
  | n + 1, i, S1, g, hi, K, hX, hg => by
    have h1 := h0.kq K
    have hG := h1.1.1
    obtain ⟨q1, q2, q3⟩ := h1.1.2.2.2.2 u hk hT
    have cl := n_cl (n := u) (by omega)
    have e374 : gAI S1 (G 374) u = F.2.2 u := ((h1.1.2.2.1 u hk).2 hT).2
    have eL : (10 : Int32) * nI u + gAI S1 (G 363) (Int32.toNatClampNeg (nI u)) = nI (10 * u + (H u).length) := e_add (e_mul k10 rfl) (by rw [cl]; exact q1)
    show Pa (Y_X9_findLeads_85 N k24 (L_X9_findLeads_85 N k24 n) S1 m (nI u) (nI (10 * u + i))) Q
    unfold Y_X9_findLeads_85 B_X9_findLeads_175
    refine Pa_r (hG.1 363 rfl) (Pa_g ?_)
    rw [eL]
    by_cases c0 : i = (H u).length
    · refine Pa_it (leN (by omega) (by omega) (by omega)) (Pa_r (hG.1 374 rfl) (Pa_g ?_))
      have hg2 : ∀ b, g b = lds W H u b (soL U H u) := fun b => by
        have := hg b
        rw [List.drop_eq_nil_of_le (by omega)] at this
        rw [← this]
        exact (Bool.or_false (g b)).symm
      have ee : ∀ b, eO c F U W H u b = (decide (uo c F.1 (F.2.2 u) = some b) || g b) := fun b => by
        unfold eO
        rw [tE_i.mpr ⟨hk, hT⟩, Bool.true_and, hg2 b]
      have oth : ∀ a b, a ≠ u → Dg (eO c F U W H) u g a b = (decide (a < u + 1) && eO c F U W H a b) := fun a b y => by
        unfold Dg
        rw [decide_eq_false y, Bool.false_and, Bool.or_false]
        by_cases z : a < u
        · rw [decide_eq_true z, decide_eq_true (p := a < u + 1) (by omega)]
        · rw [decide_eq_false z, decide_eq_false (p := a < u + 1) (by omega)]
      rw [cl, e374]
      rcases hM u hk hT with c5 | ⟨j, hj, ej, hTj, -⟩
      · refine Pa_it c5 (hkk S1 K (hX.cg (fun a b _ _ => ?_)))
        by_cases y : a = u
        · rw [y, Dg_u, decide_eq_true (p := u < u + 1) (by omega), Bool.true_and, ee, c5, uo_m5]
          rfl
        · exact oth a b y
      · have e2 : (16 : Int32) * nI u + nI j = nI (16 * u + j) := e_add (e_mul k16 rfl) rfl
        refine Pa_if (by rw [ej]; exact ne5 (by omega)) (Pa_m (hG.1 390 rfl) (Pa_r (hG.1 374 rfl) (Pa_g (Pa_bs (Pa_g (Pa_b ?_))))))
        rw [e374, ej, e2, n_cl (by omega), and1_1]
        refine hkk _ (K.I h0.1.1 390 rfl (Or.inl rfl)) (hX.set (by omega) (w' := true) ⟨fun z => absurd z (by decide), fun z => nomatch z⟩ ?_ (fun a b ha hb hn => ?_))
        · show (decide (u < u + 1) && eO c F U W H u j) = true
          rw [decide_eq_true (p := u < u + 1) (by omega), Bool.true_and, ee, ej, uo_at hj hc hTj, decide_eq_true rfl, Bool.true_or]
        · show (decide (a < u + 1) && eO c F U W H a b) = _
          by_cases y : a = u
          · rw [y, Dg_u, decide_eq_true (p := u < u + 1) (by omega), Bool.true_and, ee, ej, uo_at hj hc hTj, decide_eq_false (fun z => hn ⟨y, by cases z; rfl⟩), Bool.false_or]
          · exact (oth a b y).symm
    · have hi2 : i < (H u).length := by omega
      have e2 : (H u).drop i = (H u)[i] :: (H u).drop (i + 1) := List.drop_eq_getElem_cons hi2
      refine Pa_if (nleN (by omega) (by omega) (by omega)) ?_
      refine fl_102 h0 hc hA (i := i) (rest := blL ((H u).drop (i + 1))) hk hT (by omega) (List.getElem?_eq_getElem hi2) (GS := fun b => lds W H u b (soL U H u)) (fun S' g' K' X' hg' => ?_) FU 0 S1 g (Nat.zero_le _) K hX (fun b => ?_)
      · rw [n_a1]
        exact fl_85 h0 hc hA hM hk hT hkk n (i + 1) S' g' hi2 K' X' hg'
      · rw [← hg b, e2, blL_c, List.drop_zero]
theorem fl_43 (h0 : RCo m G Λ c F U W H S0) (hc : c ≤ 16) (hA : WA c F W) (hM : MA c F) {u : Nat} (hk : u < c) (hT : F.1 u = true) {Q : sSt → Prop} {k24 : sSt → Nat → Int32 → Option sSt} (hkk : ∀ S', KQ m G S0 S' → RM G S' (fun a b => decide (a < u + 1) && eO c F U W H a b) → Pa (k24 S' m (nI u + 1)) Q) : ∀ (n i : Nat) (S1 : sSt) (g : Nat → Bool), i ≤ (U u).length → KQ m G S0 S1 → RM G S1 (Dg (eO c F U W H) u g) → (∀ b, (g b || lds W H u b ((U u).drop i ++ blL (H u))) = lds W H u b (soL U H u)) → Pa (L_X9_findLeads_43 N k24 n S1 m (nI u) (nI i)) Q
  | 0, _, _, _, _, _, _, _ => Pa_none
  | n + 1, i, S1, g, hi, K, hX, hg => by
    have h1 := h0.kq K
    have hG := h1.1.1
    obtain ⟨u1, u2, u3⟩ := h1.2 u hk hT
    have cl := n_cl (n := u) (by omega)
    show Pa (Y_X9_findLeads_43 N k24 (L_X9_findLeads_43 N k24 n) S1 m (nI u) (nI i)) Q
    unfold Y_X9_findLeads_43
    refine Pa_r (hG.1 371 rfl) (Pa_g ?_)
    rw [cl, u1]
    by_cases c0 : i = (U u).length
    · refine Pa_it (leN (by omega) (by omega) (by omega)) ?_
      have e1 : (10 : Int32) * nI u = nI (10 * u + 0) := e_mul k10 rfl
      rw [e1]
      refine fl_85 h0 hc hA hM hk hT hkk FU 0 S1 g (Nat.zero_le _) K hX (fun b => ?_)
      rw [← hg b, List.drop_eq_nil_of_le (i := i) (by omega), List.nil_append, List.drop_zero]
    · have hi2 : i < (U u).length := by omega
      have e2 : (U u).drop i = (U u)[i] :: (U u).drop (i + 1) := List.drop_eq_getElem_cons hi2
      have ej : (12 : Int32) * nI u + nI i = nI (12 * u + i) := e_add (e_mul k12 rfl) rfl
      refine Pa_if (nleN (by omega) (by omega) (by omega)) (Pa_r (hG.1 372 rfl) (Pa_g ?_))
      rw [ej, n_cl (by omega), u3 i _ (List.getElem?_eq_getElem hi2), n_a1 i]
      refine Pa_bind (fn_val hG h1.1.2.2.2.1 h1.1.2.2.2.2 hc hA hk hT rfl ((U u)[i])) (fun v _ hv => ?_)
      refine Pa_bind (po_val h0 K hX (by omega) hv (fun z hz => fd_lim h1.1.2.2.2.2 hc hA hk hT hz)) (fun S36 _ h36 => ?_)
      refine fl_43 h0 hc hA hM hk hT hkk n (i + 1) S36 _ hi2 h36.1 h36.2 (fun b => ?_)
      rw [← hg b, e2, List.cons_append, lds_c, Bool.or_assoc]
/-! the closure -/
def Wv (E : aE) (k u v : Nat) : aE := fun a b => if a < u ∨ (a = u ∧ b < v) then wE E (k + 1) a b else wE E k a b
theorem Wv_u {E : aE} {k u v : Nat} : Wv E k u v u v = wE E k u v := if_neg (by omega)
theorem Wv_q {E : aE} {k u v : Nat} : Wv E k u v u k = wE E k u k := by
  unfold Wv
  by_cases y : u < u ∨ (u = u ∧ k < v)
  · rw [if_pos y, wE_q]
  · rw [if_neg y]
theorem Wv_p {E : aE} {k u v b : Nat} : Wv E k u v k b = wE E k k b := by
  unfold Wv
  by_cases y : k < u ∨ (k = u ∧ b < v)
  · rw [if_pos y, wE_p]
  · rw [if_neg y]
theorem fl_199 (h0 : RCo m G Λ c F U W H S0) {E : aE} {k u : Nat} (hk : k < 16) (hu : u < 16) {Q : sSt → Prop} {k183 : sSt → Nat → Int32 → Option sSt} {k191 : sSt → Nat → Int32 → Int32 → Option sSt} (hkk : ∀ S', KQ m G S0 S' → RM G S' (Wv E k (u + 1) 0) → Pa (k191 S' m (nI k) (nI u + 1)) Q) : ∀ (n v : Nat) (S1 : sSt), v ≤ 16 → KQ m G S0 S1 → RM G S1 (Wv E k u v) → Pa (L_X9_findLeads_199 N k183 k191 n S1 m (nI k) (nI u) (nI v)) Q
  | 0, _, _, _, _, _ => Pa_none
  | n + 1, v, S1, hv, K, hX => by
    have hG := (h0.kq K).1.1
    show Pa (Y_X9_findLeads_199 N k183 k191 (L_X9_findLeads_199 N k183 k191 n) S1 m (nI k) (nI u) (nI v)) Q
    unfold Y_X9_findLeads_199 B_X9_findLeads_257 B_X9_findLeads_261 B_X9_findLeads_262
    by_cases c0 : v = 16
    · refine Pa_it (leN (a := 16) (by omega) (by omega) (by omega)) (hkk S1 K (hX.cg (fun a b _ hb => ?_)))
      unfold Wv
      by_cases y : a < u ∨ (a = u ∧ b < v)
      · rw [if_pos y, if_pos (by omega)]
      · rw [if_neg y, if_neg (by omega)]
    · have hv2 : v < 16 := by omega
      have i1 : (16 : Int32) * nI u + nI v = nI (16 * u + v) := e_add (e_mul k16 rfl) rfl
      have i2 : (16 : Int32) * nI u + nI k = nI (16 * u + k) := e_add (e_mul k16 rfl) rfl
      have i3 : (16 : Int32) * nI k + nI v = nI (16 * k + v) := e_add (e_mul k16 rfl) rfl
      refine Pa_if (nleN (b := v) (a := 16) (by omega) (by omega) (by omega)) ?_
      rw [i1, i2, i3, n_a1 v, n_cl (n := 16 * u + v) (by omega), n_cl (n := 16 * u + k) (by omega), n_cl (n := 16 * k + v) (by omega)]
      have wr : ∀ (s : Int32) (w' : Bool), (s &&& 1 = 0 ↔ w' = false) → wE E (k + 1) u v = w' → Pa (Option.bind (some (G 390)) (fun a4 => gi (nI (16 * u + v)) (N a4) (bnd (sAI S1 a4 (16 * u + v) (s &&& 1)) (fun S5 => L_X9_findLeads_199 N k183 k191 n S5 m (nI k) (nI u) (nI (v + 1)))))) Q := fun s w' hs hw => by
        refine Pa_bs (Pa_g (Pa_b (fl_199 h0 hk hu hkk n (v + 1) _ hv2 (K.I h0.1.1 390 rfl (Or.inl rfl)) (hX.set hv2 hs ?_ (fun a b ha hb hn => ?_)))))
        · unfold Wv
          rw [if_pos (by omega)]
          exact hw
        · unfold Wv
          by_cases y : a < u ∨ (a = u ∧ b < v)
          · rw [if_pos y, if_pos (by omega)]
          · rw [if_neg y, if_neg (by omega)]
      have w1 := wr 1 true ⟨fun z => absurd z (by decide), fun z => nomatch z⟩
      have w0 := wr 0 false ⟨fun _ => rfl, fun _ => rfl⟩
      have x1 := hX u v hu hv2
      have x2 := hX u k hu hk
      have x3 := hX k v hk hv2
      rw [Wv_u] at x1
      rw [Wv_q] at x2
      rw [Wv_p] at x3
      refine Pa_m (hG.1 390 rfl) (Pa_r (hG.1 390 rfl) (Pa_g ?_))
      by_cases c1 : wE E k u v = false
      · refine Pa_it (x1.mpr c1) (Pa_r (hG.1 390 rfl) (Pa_g ?_))
        by_cases c2 : wE E k u k = false
        · exact Pa_it (x2.mpr c2) (w0 (by rw [wE_s, c1, c2]; rfl))
        · refine Pa_if (fun z => c2 (x2.mp z)) (Pa_r (hG.1 390 rfl) (Pa_g ?_))
          by_cases c3 : wE E k k v = false
          · exact Pa_it (x3.mpr c3) (w0 (by rw [wE_s, c1, c3, Bool.and_false]; rfl))
          · exact Pa_if (fun z => c3 (x3.mp z)) (w1 (by rw [wE_s, bt_of c2, bt_of c3, c1]; rfl))
      · exact Pa_if (fun z => c1 (x1.mp z)) (w1 (by rw [wE_s, bt_of c1]; rfl))
theorem fl_191 (h0 : RCo m G Λ c F U W H S0) {E : aE} {k : Nat} (hk : k < 16) {Q : sSt → Prop} {k183 : sSt → Nat → Int32 → Option sSt} (hkk : ∀ S', KQ m G S0 S' → RM G S' (wE E (k + 1)) → Pa (k183 S' m (nI k + 1)) Q) : ∀ (n u : Nat) (S1 : sSt), u ≤ 16 → KQ m G S0 S1 → RM G S1 (Wv E k u 0) → Pa (L_X9_findLeads_191 N k183 n S1 m (nI k) (nI u)) Q
  | 0, _, _, _, _, _ => Pa_none
  | n + 1, u, S1, hu, K, hX => by
    show Pa (Y_X9_findLeads_191 N k183 (L_X9_findLeads_191 N k183 n) S1 m (nI k) (nI u)) Q
    unfold Y_X9_findLeads_191
    by_cases c0 : u = 16
    · refine Pa_it (leN (a := 16) (by omega) (by omega) (by omega)) (hkk S1 K (hX.cg (fun a b ha _ => ?_)))
      exact if_pos (Or.inl (by omega))
    · refine Pa_if (nleN (b := u) (a := 16) (by omega) (by omega) (by omega)) (fl_199 h0 hk (by omega) (fun S' K' X' => ?_) FU 0 S1 (Nat.zero_le _) K hX)
      rw [n_a1]
      exact fl_191 h0 hk hkk n (u + 1) S' (by omega) K' X'
theorem fl_183 (h0 : RCo m G Λ c F U W H S0) {E : aE} : ∀ (n k : Nat) (S1 : sSt), k ≤ 16 → KQ m G S0 S1 → RM G S1 (wE E k) → Pa (L_X9_findLeads_183 N n S1 m (nI k)) (fun r => KQ m G S0 r ∧ RM G r (wE E 16))
  | 0, _, _, _, _, _ => Pa_none
  | n + 1, k, S1, hk, K, hX => by
    show Pa (Y_X9_findLeads_183 N (L_X9_findLeads_183 N n) S1 m (nI k)) _
    unfold Y_X9_findLeads_183
    by_cases c0 : k = 16
    · rw [c0] at hX
      exact Pa_it (leN (a := 16) (by omega) (by omega) (by omega)) (Pa_some ⟨K, hX⟩)
    · refine Pa_if (nleN (b := k) (a := 16) (by omega) (by omega) (by omega)) (fl_191 h0 (k := k) (by omega) (fun S' K' X' => ?_) FU 0 S1 (Nat.zero_le _) K (hX.cg (fun a b _ _ => (if_neg (by omega)).symm)))
      rw [n_a1]
      exact fl_183 h0 n (k + 1) S' (by omega) K' X'
theorem fl_24 (h0 : RCo m G Λ c F U W H S0) (hc : c ≤ 16) (hA : WA c F W) (hM : MA c F) : ∀ (n u : Nat) (S1 : sSt), u ≤ c → KQ m G S0 S1 → RM G S1 (fun a b => decide (a < u) && eO c F U W H a b) → Pa (L_X9_findLeads_24 N n S1 m (nI u)) (fun r => KQ m G S0 r ∧ RM G r (lE c F U W H))
  | 0, _, _, _, _, _ => Pa_none
  | n + 1, u, S1, hu, K, hX => by
    have h1 := h0.kq K
    have hG := h1.1.1
    have ec := h1.1.2.1
    show Pa (Y_X9_findLeads_24 N (L_X9_findLeads_24 N n) S1 m (nI u)) _
    unfold Y_X9_findLeads_24 B_X9_findLeads_175
    rw [ec]
    by_cases c0 : u = c
    · refine Pa_it (leN (by omega) (by omega) (by omega)) (fl_183 h0 FU 0 S1 (Nat.zero_le _) K (hX.cg (fun a b _ _ => ?_)))
      show (decide (a < u) && eO c F U W H a b) = eO c F U W H a b
      by_cases y : a < u
      · rw [decide_eq_true y, Bool.true_and]
      · have : tE c F a = false := bf_of (fun z => y (by rw [c0]; exact (tE_i.mp z).1))
        unfold eO
        rw [this, Bool.false_and, Bool.and_false]
    · have hk : u < c := by omega
      have step0 : ∀ S' : sSt, KQ m G S0 S' → RM G S' (fun a b => decide (a < u + 1) && eO c F U W H a b) → Pa (L_X9_findLeads_24 N n S' m (nI u + 1)) (fun r => KQ m G S0 r ∧ RM G r (lE c F U W H)) := fun S' K' X' => by
        rw [n_a1]
        exact fl_24 h0 hc hA hM n (u + 1) S' hk K' X'
      refine Pa_if (nleN (by omega) (by omega) (by omega)) (Pa_r (hG.1 362 rfl) (Pa_g ?_))
      rw [n_cl (by omega)]
      by_cases c1 : gAI S1 (G 362) u = 0
      · refine Pa_it c1 (step0 S1 K (hX.cg (fun a b _ _ => ?_)))
        by_cases y : a = u
        · have : tE c F u = false := by
            unfold tE
            rw [(h1.1.2.2.1 u hk).1.mp c1, Bool.and_false]
          unfold eO
          rw [y, this, Bool.false_and, Bool.and_false, Bool.and_false]
        · by_cases z : a < u
          · rw [decide_eq_true z, decide_eq_true (p := a < u + 1) (by omega)]
          · rw [decide_eq_false z, decide_eq_false (p := a < u + 1) (by omega)]
      · have hT : F.1 u = true := bt_of (fun y => c1 ((h1.1.2.2.1 u hk).1.mpr y))
        refine Pa_if c1 (fl_43 h0 hc hA hM hk hT step0 FU 0 S1 (fun _ => false) (Nat.zero_le _) K (hX.cg (fun a b _ _ => ?_)) (fun b => ?_))
        · unfold Dg
          rw [Bool.and_false, Bool.or_false]
        · rw [List.drop_zero, Bool.false_or]
          rfl
theorem fl_2 (h0 : RCo m G Λ c F U W H S0) (hc : c ≤ 16) (hA : WA c F W) (hM : MA c F) : ∀ (n j : Nat) (S1 : sSt), j ≤ 256 → KQ m G S0 S1 → (∀ i, i < j → gAI S1 (G 390) i = 0) → Pa (L_X9_findLeads_2 N n S1 m (nI j)) (fun r => KQ m G S0 r ∧ RM G r (lE c F U W H))
  | 0, _, _, _, _, _ => Pa_none
  | n + 1, j, S1, hj, K, hX => by
    have hG := (h0.kq K).1.1
    show Pa (Y_X9_findLeads_2 N (L_X9_findLeads_2 N n) S1 m (nI j)) _
    unfold Y_X9_findLeads_2
    by_cases c0 : j = 256
    · refine Pa_it (leN (a := 256) (by omega) (by omega) (by omega)) (fl_24 h0 hc hA hM FU 0 S1 (Nat.zero_le _) K (fun a b ha hb => ⟨fun _ => ?_, fun _ => hX _ (by omega)⟩))
      show (decide (a < 0) && eO c F U W H a b) = false
      rw [decide_eq_false (Nat.not_lt_zero a), Bool.false_and]
    · refine Pa_if (nleN (b := j) (a := 256) (by omega) (by omega) (by omega)) (Pa_r (hG.1 390 rfl) (Pa_g (Pa_b ?_)))
      rw [n_cl (by omega), n_a1]
      refine fl_2 h0 hc hA hM n (j + 1) _ (by omega) (K.I h0.1.1 390 rfl (Or.inl rfl)) (fun i hi => ?_)
      rw [sI]
      by_cases y : i = j
      · rw [if_pos y]
        rfl
      · rw [if_neg y]
        exact hX i (by omega)
theorem fl_val (h0 : RCo m G Λ c F U W H S0) (hc : c ≤ 16) (hA : WA c F W) (hM : MA c F) : Pa (F_X9_findLeads N S0 m) (fun r => KQ m G S0 r ∧ RM G r (lE c F U W H)) :=
  fl_2 h0 hc hA hM FU 0 S0 (Nat.zero_le _) KQ.rf (fun i hi => absurd hi (Nat.not_lt_zero i))
theorem leads_r (h : RA m G Λ c F U W H S) (hc : c ≤ 16) (hA : WA c F W) (hM : MA c F) (p q : Int32) : Pa (F_X9_leads Λ.2.2 S m p q) (fun r => r.1 = aLeads c F U W H p q) := by
  have hb := h.rc
  unfold F_X9_leads aLeads
  refine Pa_b (Pa_be (isU_val h.1.g0 hc hb.1.2.1 (fun k hk => (h.2.2.1 k hk).1) p) ?_)
  cases e : uo c F.1 p with
  | none => exact Pa_it (iU0.mpr rfl) (Pa_some rfl)
  | some k =>
    obtain ⟨ep, hk, hT, -⟩ := uo_some e
    refine Pa_if (fun z => by have := iU0.mp z; cases this) (Pa_be (isU_val h.1.g0 hc hb.1.2.1 (fun k hk => (h.2.2.1 k hk).1) q) ?_)
    cases e2 : uo c F.1 q with
    | none => exact Pa_it (iU0.mpr rfl) (Pa_some rfl)
    | some j =>
      obtain ⟨eq, hj, hTj, -⟩ := uo_some e2
      refine Pa_if (fun z => by have := iU0.mp z; cases this) (Pa_bind (fl_val hb hc hA hM) (fun S7 _ h7 => ?_))
      obtain ⟨K, hX⟩ := h7
      have i1 : (16 : Int32) * p + q = nI (16 * k + j) := e_add (e_mul k16 ep) eq
      refine Pa_r (hb.1.1.g K.1 390) (Pa_g ?_)
      rw [i1, n_cl (by omega)]
      have x1 := hX k j (by omega) (by omega)
      show Pa _ (fun r : Int32 × sSt => r.1 = if lE c F U W H k j = true then 1 else 0)
      by_cases c1 : lE c F U W H k j = false
      · exact Pa_it (x1.mpr c1) (Pa_some (by rw [c1]; rfl))
      · exact Pa_if (fun z => c1 (x1.mp z)) (Pa_some (by rw [bt_of c1]; rfl))
end
