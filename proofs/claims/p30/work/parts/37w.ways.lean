/-! The ways of units: class and reference hold the same lists. -/
def aWay (c : Nat) (F : aF) (W : aU) (p q : Int32) : Int32 × aU := match uo c F.1 p with
  | none => (-1, W)
  | some k => match uo c F.1 q with
    | none => (-1, W)
    | some _ => if p = q then (-3, W) else if q ∈ W k then (-3, W) else if (W k).length < 6 then (nI ((W k).length + 1), up1 W k (W k ++ [q])) else (-4, W)
def aUnway (c : Nat) (F : aF) (W : aU) (p : Int32) : Int32 × aU := match uo c F.1 p with
  | none => (-1, W)
  | some k => (nI (W k).length, up1 W k [])
def outW (p : Int32) (W : aU) : aU := fun k => (W k).filter (fun w => decide (w ≠ p))
def aRemW (c : Nat) (F : aF) (W : aU) (p : Int32) : aU := match uo c F.1 p with
  | none => W
  | some _ => outW p W
section
variable {x m o us t c c2 : Nat} {R : List Nat} {G : Nat → Nat} {ρ ω : Nat → Nat} {Λ : sLay} {S S1 : sSt} {F : aF} {W : aU}
theorem PD.n6 (h : PD x m o R G us t c c2 ρ ω Λ S) {u l b : Nat} (hu : isK (own Λ R) 6 u) (hl : gFR S 241 u = some l) (hb : gFR S 40 l = some b) : Λ.2.2 b = 6 := by
  obtain ⟨tl, rl, -⟩ := h.fl hu (f := 241) (by decide) rfl (by decide) (by decide) hl
  obtain ⟨tb, rb, -⟩ := h.fb tl hb
  exact h.ro.2 b tb.1 (1241, 6) (by decide) (by rw [rb, rl])
theorem way_c (h : PD x m o R G us t c c2 ρ ω Λ S) (hc : c ≤ 16) (hF : CF S t c F) (hW : CL2 241 Λ.2.2 S t c F W) (p q : Int32) : T (F_X8_way Λ.2.2 S x p q) (fun r : Int32 × sSt => r.1 = (aWay c F W p q).1 ∧ CL2 241 Λ.2.2 r.2 t c F (aWay c F W p q).2) := by
  have h320 := h.2.2.2.2.2.2.2.2.1
  unfold F_X8_way aWay
  refine T_bndE h320 (T_bsome ?_)
  cases e : uo c F.1 p with
  | none =>
    rw [at_none h hc hF e]
    exact T_bsome (T_onlN (T_some ⟨rfl, hW⟩))
  | some k =>
    obtain ⟨u, hu, ea, -⟩ := at_some h hc hF e
    obtain ⟨ep, hk, hT, -⟩ := uo_some e
    have tu := h.un hu
    obtain ⟨u2, l, b, hu2, hl, hL⟩ := hW k hk hT
    rw [hu] at hu2
    cases hu2
    rw [ea]
    refine T_bsome (T_onlS (T_bndE h320 (T_bsome ?_)))
    cases e2 : uo c F.1 q with
    | none =>
      rw [at_none h hc hF e2]
      exact T_bsome (T_onlN (T_some ⟨rfl, hW⟩))
    | some k2 =>
      obtain ⟨u3, hu3, ea3, -⟩ := at_some h hc hF e2
      rw [ea3]
      refine T_bsome (T_onlS ?_)
      show T _ (fun r : Int32 × sSt => r.1 = (if p = q then (-3, W) else if q ∈ W k then (-3, W) else if (W k).length < 6 then (nI ((W k).length + 1), up1 W k (W k ++ [q])) else (-4, W) : Int32 × aU).1 ∧ CL2 241 Λ.2.2 r.2 t c F (if p = q then (-3, W) else if q ∈ W k then (-3, W) else if (W k).length < 6 then (nI ((W k).length + 1), up1 W k (W k ++ [q])) else (-4, W) : Int32 × aU).2)
      by_cases c1 : p = q
      · rw [if_pos c1, if_pos c1]
        exact T_some ⟨rfl, hW⟩
      · rw [if_neg c1, if_neg c1]
        refine T_bndE hl (T_bsome ?_)
        rw [has_val hL]
        refine T_bsome ?_
        by_cases c2 : q ∈ W k
        · rw [if_pos c2, if_pos c2, if_neg (by decide)]
          exact T_some ⟨rfl, hW⟩
        · rw [if_neg c2, if_neg c2, if_pos rfl]
          refine T_bndE hl ?_
          rw [app_to hL, h.n6 tu hl hL.2.1]
          by_cases c3 : (W k).length < 6
          · rw [if_pos c3, if_pos c3]
            refine T_some ⟨rfl, ?_⟩
            exact CL2.one h hc hW (by decide) rfl (by decide) (by decide) hk hu hl (app_LS hL (by rw [h.n6 tu hl hL.2.1]; exact c3) _) hL.2.1 (LF.ai.tr LF.fi)
          · rw [if_neg c3, if_neg c3]
            exact T_some ⟨rfl, hW⟩
theorem unway_c (h : PD x m o R G us t c c2 ρ ω Λ S) (hc : c ≤ 16) (hF : CF S t c F) (hW : CL2 241 Λ.2.2 S t c F W) (p : Int32) : T (F_X8_unway Λ.2.2 S x p) (fun r : Int32 × sSt => r.1 = (aUnway c F W p).1 ∧ CL2 241 Λ.2.2 r.2 t c F (aUnway c F W p).2) := by
  have h320 := h.2.2.2.2.2.2.2.2.1
  unfold F_X8_unway aUnway
  refine T_bndE h320 (T_bsome ?_)
  cases e : uo c F.1 p with
  | none =>
    rw [at_none h hc hF e]
    exact T_bsome (T_onlN (T_some ⟨rfl, hW⟩))
  | some k =>
    obtain ⟨u, hu, ea, -⟩ := at_some h hc hF e
    obtain ⟨ep, hk, hT, -⟩ := uo_some e
    have tu := h.un hu
    obtain ⟨u2, l, b, hu2, hl, hL⟩ := hW k hk hT
    rw [hu] at hu2
    cases hu2
    rw [ea]
    refine T_bsome (T_onlS (T_bndE hl (T_bsome ?_)))
    unfold F_X1_length
    rw [hL.1]
    refine T_bsome (T_bndE hl (T_bsome ?_))
    rw [emp_val]
    exact T_bsome (T_some ⟨rfl, CL2.one h hc hW (by decide) rfl (by decide) (by decide) hk hu hl (emp_LS hL) hL.2.1 LF.fi⟩)
end
/-! the reference -/
theorem ite10 {A B : Prop} [Decidable A] [Decidable B] (h : A ↔ B) : (if A then (1 : Int32) else 0) = if B then 1 else 0 := by
  by_cases a : A
  · rw [if_pos a, if_pos (h.mp a)]
  · rw [if_neg a, if_neg (fun b => a (h.mpr b))]
section
variable {m c : Nat} {G : Nat → Nat} {Λ : sLay} {S S1 Z : sSt} {F : aF} {W : aU}
theorem onW_loop (hS : MC m G Λ Z S) (hc : c ≤ 16) (hR : RL2 369 370 6 G S c F W) {k : Nat} (hk : k < c) (hT : F.1 k = true) {p : Int32} (ep : p = nI k) (q : Int32) : ∀ (d j n : Nat) (s : Int32), j + d = (W k).length → d < n → s = 0 ∨ s = 1 →
    T (L_X9_isOnWay_5 Λ.2.2 S n m p q s (nI j)) (fun r : Int32 => r = if s = 1 ∨ q ∈ (W k).drop j then 1 else 0)
  | d, j, 0, _, _, h2, _ => absurd h2 (Nat.not_lt_zero d)
  | 0, j, n + 1, s, h3, _, hs => by
    obtain ⟨r1, r2, r3⟩ := hR k hk hT
    have en : gAI S (G 369) (Int32.toNatClampNeg p) = nI (W k).length := by rw [e_clamp ep (by omega)]; exact r1
    show T (Y_X9_isOnWay_5 Λ.2.2 S (L_X9_isOnWay_5 Λ.2.2 S n) m p q s (nI j)) _
    unfold Y_X9_isOnWay_5
    refine T_m (hS.rf (f := 369) (by decide)) (T_bsome (T_gi (g_in (hS.l (f := 369) (kd := 10) (n := 16) (by decide)) ep (by omega) (by omega)) ?_))
    rw [en, if_pos ((nI_leI (by omega) (by omega)).mpr (by omega))]
    refine T_gb hs (T_some ?_)
    rw [List.drop_eq_nil_of_le (by omega)]
    rcases hs with rfl | rfl
    · rw [if_neg (fun z => z.elim (by decide) List.not_mem_nil)]
    · rw [if_pos (Or.inl rfl)]
  | d + 1, j, n + 1, s, h3, h4, hs => by
    obtain ⟨r1, r2, r3⟩ := hR k hk hT
    have en : gAI S (G 369) (Int32.toNatClampNeg p) = nI (W k).length := by rw [e_clamp ep (by omega)]; exact r1
    have hj : j < (W k).length := by omega
    have e2 : (W k).drop j = (W k)[j] :: (W k).drop (j + 1) := List.drop_eq_getElem_cons hj
    have ei : (6 : Int32) * p + nI j = nI (6 * k + j) := e_add (e_mul k6 ep) rfl
    have ev : gAI S (G 370) (Int32.toNatClampNeg ((6 : Int32) * p + nI j)) = (W k)[j] := by
      rw [e_clamp ei (by omega)]
      exact r3 j _ (List.getElem?_eq_getElem hj)
    have i0 := onW_loop hS hc hR hk hT ep q d (j + 1) n 0 (by omega) (by omega) (Or.inl rfl)
    have i1 := onW_loop hS hc hR hk hT ep q d (j + 1) n 1 (by omega) (by omega) (Or.inr rfl)
    show T (Y_X9_isOnWay_5 Λ.2.2 S (L_X9_isOnWay_5 Λ.2.2 S n) m p q s (nI j)) _
    unfold Y_X9_isOnWay_5 B_X9_isOnWay_36 B_X9_isOnWay_41
    refine T_m (hS.rf (f := 369) (by decide)) (T_bsome (T_gi (g_in (hS.l (f := 369) (kd := 10) (n := 16) (by decide)) ep (by omega) (by omega)) ?_))
    rw [en, if_neg (fun z => absurd ((nI_leI (by omega) (by omega)).mp z) (by omega)), n_a1]
    rcases hs with rfl | rfl
    · rw [if_pos rfl]
      refine T_m (hS.rf (f := 370) (by decide)) (T_bsome (T_gi (g_in (hS.l (f := 370) (kd := 10) (n := 96) (by decide)) ei (by omega) (by omega)) ?_))
      rw [ev, e2]
      by_cases cv : (W k)[j] = q
      · rw [if_pos cv]
        exact T_mono i1 (fun r hr => hr.trans (ite10 ⟨fun _ => Or.inr (by rw [cv]; exact List.mem_cons_self), fun _ => Or.inl rfl⟩))
      · rw [if_neg cv]
        exact T_mono i0 (fun r hr => hr.trans (ite10 ⟨fun z => z.imp id (fun y => List.mem_cons_of_mem _ y), fun z => z.imp id (fun y => (List.mem_cons.mp y).elim (fun w => absurd w.symm cv) id)⟩))
    · rw [if_neg (by decide)]
      exact T_mono i1 (fun r hr => hr.trans (ite10 ⟨fun _ => Or.inl rfl, fun _ => Or.inl rfl⟩))
theorem onW_val (hS : MC m G Λ Z S) (hc : c ≤ 16) (hR : RL2 369 370 6 G S c F W) {k : Nat} (hk : k < c) (hT : F.1 k = true) {p : Int32} (ep : p = nI k) (q : Int32) : T (F_X9_isOnWay Λ.2.2 S m p q) (fun r : Int32 => r = if q ∈ W k then 1 else 0) := by
  obtain ⟨-, r2, -⟩ := hR k hk hT
  have hFU := FU_big
  refine T_mono (onW_loop hS hc hR hk hT ep q (W k).length 0 FU 0 (by omega) (by omega) (Or.inl rfl)) (fun r hr => hr.trans (ite10 ?_))
  rw [List.drop_zero]
  exact ⟨fun z => z.elim (fun y => absurd y (by decide)) id, Or.inr⟩
end
section
variable {m c : Nat} {G : Nat → Nat} {Λ : sLay} {S S1 : sSt} {F : aF} {W : aU}
theorem way_r (hS : MC m G Λ S S) (hc : c ≤ 16) (ec : gFI S 361 m = nI c) (hF : RF G S c F) (hR : RL2 369 370 6 G S c F W) (p q : Int32) : T (F_X9_way Λ.2.2 S m p q) (fun r : Int32 × sSt => r.1 = (aWay c F W p q).1 ∧ MI m G Λ (S, S, nfz [360, 369, 370]) r.2 ∧ RL2 369 370 6 G r.2 c F (aWay c F W p q).2) := by
  unfold F_X9_way aWay
  refine T_st (fun S1 e1 => ?_)
  have h1 : MI m G Λ (S, S, nfz [360, 369, 370]) S1 := by rw [e1]; exact (hS.mi _).wF (f := 360) rfl (rg0 (P := fun B => nB B _) (by decide))
  have ec1 : gFI S1 361 m = nI c := by rw [e1, gFI_ne (by decide)]; exact ec
  have hF1 : RF G S1 c F := by rw [e1]; exact hF
  have hR1 : RL2 369 370 6 G S1 c F W := by rw [e1]; exact hR
  rw [isU_val h1.c hc ec1 (fun k hk => (hF1 k hk).1) p]
  refine T_bsome ?_
  cases e : uo c F.1 p with
  | none =>
    rw [if_pos (iU0.mpr rfl)]
    exact T_some ⟨rfl, h1, hR1⟩
  | some k =>
    obtain ⟨ep, hk, hT, -⟩ := uo_some e
    rw [if_neg (fun z => by have := iU0.mp z; cases this), isU_val h1.c hc ec1 (fun k hk => (hF1 k hk).1) q]
    refine T_bsome ?_
    cases e2 : uo c F.1 q with
    | none =>
      rw [if_pos (iU0.mpr rfl)]
      exact T_some ⟨rfl, h1, hR1⟩
    | some k2 =>
      rw [if_neg (fun z => by have := iU0.mp z; cases this)]
      show T _ (fun r : Int32 × sSt => r.1 = (if p = q then (-3, W) else if q ∈ W k then (-3, W) else if (W k).length < 6 then (nI ((W k).length + 1), up1 W k (W k ++ [q])) else (-4, W) : Int32 × aU).1 ∧ MI m G Λ (S, S, nfz [360, 369, 370]) r.2 ∧ RL2 369 370 6 G r.2 c F (if p = q then (-3, W) else if q ∈ W k then (-3, W) else if (W k).length < 6 then (nI ((W k).length + 1), up1 W k (W k ++ [q])) else (-4, W) : Int32 × aU).2)
      by_cases c1 : p = q
      · rw [if_pos c1, if_pos c1]
        exact T_some ⟨rfl, h1, hR1⟩
      · rw [if_neg c1, if_neg c1]
        refine T_bind (onW_val h1.c hc hR1 hk hT ep q) (fun v hv => ?_)
        subst hv
        by_cases cq : q ∈ W k
        · rw [if_pos cq, if_pos cq, if_neg (by decide)]
          exact T_some ⟨rfl, h1, hR1⟩
        · rw [if_neg cq, if_neg cq, if_pos rfl]
          obtain ⟨r1, r2, r3⟩ := hR1 k hk hT
          have i1 := e_clamp ep (by omega)
          have en : gAI S1 (G 369) (Int32.toNatClampNeg p) = nI (W k).length := by rw [i1]; exact r1
          refine T_m (h1.c.rf (f := 369) (by decide)) (T_bsome (T_gi (g_in (h1.c.l (f := 369) (kd := 10) (n := 16) (by decide)) ep (by omega) (by omega)) ?_))
          rw [en]
          by_cases c3 : (W k).length < 6
          · rw [if_pos c3, if_neg (fun z => absurd ((e_eq (x := (W k).length) rfl k6 (by omega) (by omega)).mp z) (by omega))]
            refine T_m (h1.c.rf (f := 370) (by decide)) (T_m (h1.c.rf (f := 369) (by decide)) (T_bsome (T_gi (g_in (h1.c.l (f := 369) (kd := 10) (n := 16) (by decide)) ep (by omega) (by omega)) (T_bsome ?_))))
            rw [en]
            have ei : (6 : Int32) * p + nI (W k).length = nI (6 * k + (W k).length) := e_add (e_mul k6 ep) rfl
            obtain ⟨eq2, hk2, -, -⟩ := uo_some e2
            refine T_gi (g_in (h1.c.l (f := 370) (kd := 10) (n := 96) (by decide)) ei (by omega) (by omega)) ?_
            refine T_st (fun S16 e16 => ?_)
            have h16 : MI m G Λ (S, S, nfz [360, 369, 370]) S16 := by rw [e16]; exact h1.wI (f := 370) (by decide) rfl (rg1 (B := 15) (by decide) ⟨k2, by omega, eq2⟩) (rg0 (P := fun B => oB B _) (by decide))
            have en16 : gAI S16 (G 369) (Int32.toNatClampNeg p) = nI (W k).length := by rw [e16, h1.c.oth (f := 369) (f' := 370) (by decide) (by decide) (by decide)]; exact en
            refine T_m (h16.c.rf (f := 369) (by decide)) (T_bsome (T_gi (g_in (h16.c.l (f := 369) (kd := 10) (n := 16) (by decide)) ep (by omega) (by omega)) (T_gi (g_in (h16.c.l (f := 369) (kd := 10) (n := 16) (by decide)) ep (by omega) (by omega)) ?_)))
            refine T_st (fun S19 e19 => ?_)
            have h19 : MI m G Λ (S, S, nfz [360, 369, 370]) S19 := by rw [e19]; exact h16.wI (f := 369) (by decide) rfl (rg1 (B := 6) (by decide) ⟨(W k).length + 1, by omega, e_add en16 k1⟩) (rg0 (P := fun B => oB B _) (by decide))
            refine T_m (h19.c.rf (f := 369) (by decide)) (T_bsome (T_gi (g_in (h19.c.l (f := 369) (kd := 10) (n := 16) (by decide)) ep (by omega) (by omega)) (T_some ⟨?_, h19, ?_⟩)))
            · show gAI S19 (G 369) (Int32.toNatClampNeg p) = nI ((W k).length + 1)
              rw [e19, gAI_sAI, if_pos ⟨rfl, rfl⟩]
              exact e_add en16 k1
            · refine RL2.app hR1 c3 (fun i => ?_) (fun i => ?_)
              · rw [e19, gAI_sAI, i1]
                by_cases ci : i = k
                · rw [if_pos ⟨rfl, ci⟩, if_pos ci]
                  have := e_add en16 k1
                  rw [i1] at this
                  exact this
                · rw [if_neg (fun z => ci z.2), if_neg ci, e16, h1.c.oth (f := 369) (f' := 370) (by decide) (by decide) (by decide)]
              · rw [e19, h16.c.oth (f := 370) (f' := 369) (by decide) (by decide) (by decide), e16, gAI_sAI, e_clamp ei (by omega)]
                by_cases ci : i = 6 * k + (W k).length
                · rw [if_pos ⟨rfl, ci⟩, if_pos ci]
                · rw [if_neg (fun z => ci z.2), if_neg ci]
          · rw [if_neg c3, if_pos ((e_eq (x := (W k).length) rfl k6 (by omega) (by omega)).mpr (by omega))]
            exact T_some ⟨rfl, h1, hR1⟩
theorem unway_r (hS : MC m G Λ S S) (hc : c ≤ 16) (ec : gFI S 361 m = nI c) (hF : RF G S c F) (hR : RL2 369 370 6 G S c F W) (p : Int32) : T (F_X9_unway Λ.2.2 S m p) (fun r : Int32 × sSt => r.1 = (aUnway c F W p).1 ∧ MI m G Λ (S, S, nfz [360, 369]) r.2 ∧ RL2 369 370 6 G r.2 c F (aUnway c F W p).2) := by
  unfold F_X9_unway aUnway
  refine T_st (fun S1 e1 => ?_)
  have h1 : MI m G Λ (S, S, nfz [360, 369]) S1 := by rw [e1]; exact (hS.mi _).wF (f := 360) rfl (rg0 (P := fun B => nB B _) (by decide))
  have ec1 : gFI S1 361 m = nI c := by rw [e1, gFI_ne (by decide)]; exact ec
  have hF1 : RF G S1 c F := by rw [e1]; exact hF
  have hR1 : RL2 369 370 6 G S1 c F W := by rw [e1]; exact hR
  rw [isU_val h1.c hc ec1 (fun k hk => (hF1 k hk).1) p]
  refine T_bsome ?_
  cases e : uo c F.1 p with
  | none =>
    rw [if_pos (iU0.mpr rfl)]
    exact T_some ⟨rfl, h1, hR1⟩
  | some k =>
    obtain ⟨ep, hk, hT, -⟩ := uo_some e
    obtain ⟨r1, r2, r3⟩ := hR1 k hk hT
    have i1 := e_clamp ep (by omega)
    rw [if_neg (fun z => by have := iU0.mp z; cases this)]
    refine T_m (h1.c.rf (f := 369) (by decide)) (T_bsome (T_gi (g_in (h1.c.l (f := 369) (kd := 10) (n := 16) (by decide)) ep (by omega) (by omega)) ?_))
    refine T_m (h1.c.rf (f := 369) (by decide)) (T_bsome (T_gi (g_in (h1.c.l (f := 369) (kd := 10) (n := 16) (by decide)) ep (by omega) (by omega)) ?_))
    refine T_st (fun S8 e8 => ?_)
    have h8 : MI m G Λ (S, S, nfz [360, 369]) S8 := by rw [e8]; exact h1.wI (f := 369) (by decide) rfl (rg1 (B := 6) (by decide) ⟨0, by omega, rfl⟩) (rg0 (P := fun B => oB B _) (by decide))
    refine T_some ⟨by rw [i1]; exact r1, h8, fun j hj hTj => ?_⟩
    obtain ⟨q1, q2, q3⟩ := hR1 j hj hTj
    show gAI S8 (G 369) j = nI (up1 W k [] j).length ∧ (up1 W k [] j).length ≤ 6 ∧ ∀ i v, (up1 W k [] j)[i]? = some v → gAI S8 (G 370) (6 * j + i) = v
    by_cases cj : j = k
    · subst cj
      rw [up1_s]
      refine ⟨?_, Nat.zero_le 6, fun i v hv => by cases hv⟩
      rw [e8, gAI_sAI, i1, if_pos ⟨rfl, rfl⟩]
      rfl
    · rw [up1_n cj]
      refine ⟨?_, q2, fun i v hv => ?_⟩
      · rw [e8, gAI_sAI, i1, if_neg (fun z => cj z.2)]
        exact q1
      · rw [e8, h1.c.oth (f := 370) (f' := 369) (by decide) (by decide) (by decide)]
        exact q3 i v hv
end
