/-! The reference reckons the values. -/
def RB (m : Nat) (G : Nat → Nat) (Λ : sLay) (c : Nat) (F : aF) (W : aU) (H : aH) (S : sSt) : Prop := MG m G Λ S ∧ gFI S 361 m = nI c ∧ RF G S c F ∧ RL2 369 370 6 G S c F W ∧ RH G S c F H
/-- only what is reckoned was written -/
def KR (m : Nat) (G : Nat → Nat) (S S1 : sSt) : Prop := S1.2.2.1 = S.2.2.1 ∧ gFI S1 361 m = gFI S 361 m ∧ ∀ f, isM f = true → f ≠ 379 → f ≠ 380 → f ≠ 381 → ∀ k, gAI S1 (G f) k = gAI S (G f) k ∧ gAJ S1 (G f) k = gAJ S (G f) k
section
variable {m c : Nat} {G : Nat → Nat} {Λ : sLay} {N : Nat → Nat} {S0 S S1 S2 : sSt} {F : aF} {W : aU} {H : aH}
theorem KR.rf : KR m G S S := ⟨rfl, rfl, fun _ _ _ _ _ _ => ⟨rfl, rfl⟩⟩
theorem KR.I (hG : MG m G Λ S0) (h : KR m G S S1) (f' : Nat) (hf' : isM f' = true) (h2 : f' = 379 ∨ f' = 380) {k : Nat} {v : Int32} : KR m G S (sAI S1 (G f') k v) := ⟨h.1, h.2.1, fun f hf n1 n2 n3 j => by
  have hne : f ≠ f' := fun e => h2.elim (fun y => n1 (e.trans y)) (fun y => n2 (e.trans y))
  exact ⟨(hG.o f f' hf hf' hne).trans (h.2.2 f hf n1 n2 n3 j).1, (h.2.2 f hf n1 n2 n3 j).2⟩⟩
theorem KR.J (hG : MG m G Λ S0) (h : KR m G S S1) {k : Nat} {v : Int64} : KR m G S (sAJ S1 (G 381) k v) := ⟨h.1, h.2.1, fun f hf n1 n2 n3 j => ⟨(h.2.2 f hf n1 n2 n3 j).1, (hG.oJ f 381 hf rfl n3).trans (h.2.2 f hf n1 n2 n3 j).2⟩⟩
theorem RB.kr (h : RB m G Λ c F W H S) (k : KR m G S S1) : RB m G Λ c F W H S1 := by
  obtain ⟨h1, h2, h3, h4, h5⟩ := h
  have y : ∀ f, isM f = true → f ≠ 379 → f ≠ 380 → f ≠ 381 → ∀ j, gAI S1 (G f) j = gAI S (G f) j := fun f hf n1 n2 n3 j => (k.2.2 f hf n1 n2 n3 j).1
  refine ⟨⟨fun f hf => h1.g k.1 f hf, h1.2⟩, k.2.1.trans h2, fun j hj => ?_, h4.kp (y 369 rfl (by decide) (by decide) (by decide)) (y 370 rfl (by decide) (by decide) (by decide)), fun j hj hT => ?_⟩
  · rw [y 362 rfl (by decide) (by decide) (by decide), y 373 rfl (by decide) (by decide) (by decide), y 374 rfl (by decide) (by decide) (by decide)]
    exact h3 j hj
  · obtain ⟨q1, q2, q3⟩ := h5 j hj hT
    exact ⟨(y 363 rfl (by decide) (by decide) (by decide) j).trans q1, q2, fun i th hi => (q3 i th hi).cp (y 364 rfl (by decide) (by decide) (by decide) _) ((k.2.2 365 rfl (by decide) (by decide) (by decide) _).2) (y 366 rfl (by decide) (by decide) (by decide) _) (y 367 rfl (by decide) (by decide) (by decide) _) (fun z _ => y 368 rfl (by decide) (by decide) (by decide) _)⟩
theorem RA.rb {U : aU} (h : RA m G Λ c F U W H S) : RB m G Λ c F W H (sFI S 360 m 0) := ⟨h.1.g0.1, by rw [gFI_ne (by decide)]; exact h.2.1, h.2.2.1, h.2.2.2.2.1, h.2.2.2.2.2⟩
theorem ic_val (h : RB m G Λ c F W H S) (hc : c ≤ 16) {k i : Nat} (hk : k < c) (hi : i < 10) : Pa (F_X9_isConstant N S m (nI (10 * k + i))) (fun r => (r = 1 ∧ ∃ th, nd c F H (k, i) th) ∨ (r = 0 ∧ ∀ th, ¬ nd c F H (k, i) th)) := by
  obtain ⟨hG, ec, hF, hW, hH⟩ := h
  have e1 : nI (10 * k + i) / (10 : Int32) = nI k := by
    rw [n_d10 (by omega)]
    congr 1
    omega
  have e2 : nI (10 * k + i) - nI k * (10 : Int32) = nI i := by
    rw [← e1, n_d10 (by omega), n_r10 (by omega)]
    congr 1
    omega
  unfold F_X9_isConstant
  rw [e1, e2, n_cl (by omega), n_cl (by omega)]
  refine Pa_r (hG.1 362 rfl) (Pa_g ?_)
  by_cases c1 : gAI S (G 362) k = 0
  · refine Pa_it c1 (Pa_some (Or.inr ⟨rfl, fun th hz => ?_⟩))
    have h2 : F.1 k = true := hz.2.1
    rw [(hF k hk).1.mp c1] at h2
    cases h2
  · have hT : F.1 k = true := bt_of (fun y => c1 ((hF k hk).1.mpr y))
    obtain ⟨q1, q2, q3⟩ := hH k hk hT
    refine Pa_if c1 (Pa_r (hG.1 363 rfl) (Pa_g ?_))
    rw [q1]
    by_cases c2 : (H k).length ≤ i
    · refine Pa_it (leN (by omega) (by omega) c2) (Pa_some (Or.inr ⟨rfl, fun th hz => ?_⟩))
      have := hz.vt.2.2
      have this : i < (H k).length := this
      omega
    · refine Pa_if (nleN (by omega) (by omega) (by omega)) (Pa_r (hG.1 364 rfl) (Pa_g ?_))
      have hth := List.getElem?_eq_getElem (Nat.lt_of_not_le c2)
      rw [(q3 i _ hth).1]
      by_cases c3 : ((H k)[i]'(Nat.lt_of_not_le c2)).1 / 32 = (1 : Int32)
      · exact Pa_it c3 (Pa_some (Or.inl ⟨rfl, _, hk, hT, hth, c3⟩))
      · refine Pa_if c3 (Pa_some (Or.inr ⟨rfl, fun th hz => ?_⟩))
        have := hz.2.2.1.symm.trans hth
        cases this
        exact c3 hz.2.2.2
end
/-- what is found for part kk of a constant -/
def chz (W : aU) (H : aH) (z : Nat × Nat) (kk : Nat) : Option (Nat × Nat) := Option.bind (H z.1)[z.2]? (fun th => Option.bind th.2.2.2[kk]? (fun v => fd W H z.1 (32 + v)))
theorem chz_n {W : aU} {H : aH} {z : Nat × Nat} {kk : Nat} {th : aT} (h : (H z.1)[z.2]? = some th) (h2 : th.2.2.2[kk]? = none) : chz W H z kk = none := by
  unfold chz
  rw [h, Option.bind_some, h2]
  rfl
theorem chz_s {W : aU} {H : aH} {z : Nat × Nat} {kk : Nat} {th : aT} {v : Int32} (h : (H z.1)[z.2]? = some th) (h2 : th.2.2.2[kk]? = some v) : chz W H z kk = fd W H z.1 (32 + v) := by
  unfold chz
  rw [h, Option.bind_some, h2, Option.bind_some]
theorem chz_nd {c : Nat} {F : aF} {W : aU} {H : aH} {z w : Nat × Nat} {kk : Nat} {th : aT} (hA : WA c F W) (hB : HA c F H) (hc : c ≤ 16) (hz : nd c F H z th) (h : chz W H z kk = some w) : ∃ tw, nd c F H w tw := by
  cases e : th.2.2.2[kk]? with
  | none => rw [chz_n hz.2.2.1 e] at h; cases h
  | some v =>
    rw [chz_s hz.2.2.1 e] at h
    exact fd_nd hA hB hc hz.vt hz.2.2.1 (List.mem_of_getElem? e) h
/-- a place in the rows of all things -/
abbrev ix (z : Nat × Nat) : Nat := 10 * z.1 + z.2
def chD (c : Nat) (F : aF) (W : aU) (H : aH) (G : Nat → Nat) (S : sSt) (j kk : Nat) : Prop := ∀ z th, nd c F H z th → ∀ q, q < 3 → (ix z < j ∨ (ix z = j ∧ q < kk)) → gAI S (G 379) (3 * ix z + q) = oF (chz W H z q)
def knD (G : Nat → Nat) (S : sSt) (j : Nat) : Prop := ∀ i, i < j → gAI S (G 380) i = 0 ∧ gAJ S (G 381) i = 0
section
variable {m c : Nat} {G : Nat → Nat} {Λ : sLay} {N : Nat → Nat} {S0 S S1 S2 : sSt} {F : aF} {W : aU} {H : aH}
theorem RB.l10 (h : RB m G Λ c F W H S) {z : Nat × Nat} (hz : vt c F H z) : z.2 < 10 := by
  have := (h.2.2.2.2 z.1 hz.1 hz.2.1).2.1
  have := hz.2.2
  omega
theorem ix_inj {z w : Nat × Nat} (h1 : z.2 < 10) (h2 : w.2 < 10) (e : ix z = ix w) : z = w := by
  unfold ix at e
  exact prodE (by omega) (by omega)
/-- the parts of one thing -/
theorem r29 (h0 : RB m G Λ c F W H S0) (hc : c ≤ 16) (hA : WA c F W) {k i : Nat} (hk : k < c) (hi : i < 10) {P : sSt → Prop} {kk : sSt → Nat → Int32 → Option sSt} (hkk : ∀ S', KR m G S0 S' → chD c F W H G S' (10 * k + i + 1) 0 → knD G S' (10 * k + i + 1) → Pa (kk S' m (nI (10 * k + i) + 1)) P) : ∀ (n q : Nat) (S1 : sSt), q ≤ 3 → KR m G S0 S1 → chD c F W H G S1 (10 * k + i) q → knD G S1 (10 * k + i + 1) → Pa (L_X9_reckon_29 N kk n S1 m (nI (10 * k + i)) (nI q)) P
  | 0, _, _, _, _, _, _ => Pa_none
  | n + 1, q, S1, hq, K, hD, hN => by
    have h1 := h0.kr K
    have hG := h1.1
    have e1 : nI (10 * k + i) / (10 : Int32) = nI k := by
      rw [n_d10 (by omega)]
      congr 1
      omega
    have e3 : (3 : Int32) * nI (10 * k + i) + nI q = nI (3 * (10 * k + i) + q) := e_add (e_mul k3 rfl) rfl
    show Pa (Y_X9_reckon_29 N kk (L_X9_reckon_29 N kk n) S1 m (nI (10 * k + i)) (nI q)) P
    unfold Y_X9_reckon_29 B_X9_reckon_85 B_X9_reckon_87
    by_cases c0 : q = 3
    · refine Pa_it (leN (a := 3) (by omega) (by omega) (by omega)) (hkk S1 K (fun z th hz q' hq' hlt => hD z th hz q' hq' ?_) hN)
      omega
    · rw [e1, e3, n_a1 q]
      -- what is written
      have wr : ∀ v : Int32, (∀ th, nd c F H (k, i) th → v = oF (chz W H (k, i) q)) → Pa (Option.bind (some (G 379)) (fun a30 => gi (nI (3 * (10 * k + i) + q)) (N a30) (bnd (sAI S1 a30 (Int32.toNatClampNeg (nI (3 * (10 * k + i) + q))) v) (fun S31 => L_X9_reckon_29 N kk n S31 m (nI (10 * k + i)) (nI (q + 1)))))) P := fun v hv => by
        refine Pa_bs (Pa_g (Pa_b ?_))
        rw [n_cl (by omega)]
        refine r29 h0 hc hA hk hi hkk n (q + 1) _ (by omega) (K.I hG 379 rfl (Or.inl rfl)) (fun z th hz q' hq' hlt => ?_) (fun i' hi' => ?_)
        · have hz10 := h1.l10 hz.vt
          rw [sI]
          by_cases ce : 3 * ix z + q' = 3 * (10 * k + i) + q
          · have ez : ix z = 10 * k + i := by omega
            have eq : q' = q := by omega
            have ezz : z = (k, i) := ix_inj (z := z) (w := (k, i)) hz10 hi ez
            rw [if_pos ce, eq, ezz]
            rw [ezz] at hz
            exact hv th hz
          · rw [if_neg ce]
            refine hD z th hz q' hq' ?_
            omega
        · have := hN i' hi'
          rw [hG.o 380 379, gAJ_sAI]
          exact this
      refine Pa_if (nleN (b := q) (a := 3) (by omega) (by omega) (by omega)) (Pa_m (hG.1 379 rfl) (Pa_bind (ic_val h1 hc hk hi) (fun v _ hv => ?_)))
      rcases hv with ⟨rfl, th, hz⟩ | ⟨rfl, hno⟩
      · obtain ⟨y1, y2, y3, y4, y5, y6, y7⟩ := (h1.2.2.2.2 k hk hz.2.1).2.2 i th hz.2.2.1
        refine Pa_if (by decide) (Pa_r (hG.1 367 rfl) (Pa_g ?_))
        rw [n_cl (by omega), y5]
        by_cases c1 : th.2.2.2.length ≤ q
        · refine Pa_it (leN (by omega) (by omega) c1) (wr (-5) (fun th' hz' => ?_))
          rw [chz_n hz.2.2.1 (List.getElem?_eq_none c1)]
          rfl
        · have hvq := List.getElem?_eq_getElem (Nat.lt_of_not_le c1)
          refine Pa_if (nleN (by omega) (by omega) (by omega)) (Pa_r (hG.1 368 rfl) (Pa_g ?_))
          rw [n_cl (by omega), y7 q _ hvq]
          refine Pa_bind (fn_val hG h1.2.2.2.1 h1.2.2.2.2 hc hA hk hz.2.1 rfl _) (fun v36 _ hv36 => ?_)
          have w := wr v36 (fun th' hz' => by rw [hv36, chz_s hz.2.2.1 hvq])
          rw [n_cl (by omega)] at w
          exact w
      · exact Pa_it rfl (wr (-5) (fun th' hz' => absurd hz' (hno th')))
/-- known are the values -/
def knI (c : Nat) (F : aF) (W : aU) (H : aH) (G : Nat → Nat) (S : sSt) : Prop := ∀ z th, nd c F H z th → (gAI S (G 380) (ix z) ≠ 0 → ∃ n, gv W H n z = some (gAJ S (G 381) (ix z))) ∧ (gAI S (G 380) (ix z) = 0 → gAJ S (G 381) (ix z) = 0)
/-- something of it isn't known -/
def wai (W : aU) (H : aH) (G : Nat → Nat) (S : sSt) (z : Nat × Nat) : Prop := ∃ q w, q < 3 ∧ chz W H z q = some w ∧ gAI S (G 380) (ix w) = 0
def chI (c : Nat) (F : aF) (W : aU) (H : aH) (G : Nat → Nat) (S : sSt) : Prop := ∀ z th, nd c F H z th → ∀ q, q < 3 → gAI S (G 379) (3 * ix z + q) = oF (chz W H z q)
theorem wf_loop (h1 : RB m G Λ c F W H S1) (hc : c ≤ 16) (hA : WA c F W) (hB : HA c F H) (hC : chI c F W H G S1) {z : Nat × Nat} {th : aT} (hz : nd c F H z th) : ∀ (n q : Nat) (b : Int32), q ≤ 3 → ((b = 1 ∧ ∀ q', q' < q → ∀ w, chz W H z q' = some w → gAI S1 (G 380) (ix w) ≠ 0) ∨ (b = 0 ∧ wai W H G S1 z)) → Pa (L_X9_waitsForNone_4 N S1 n m (nI (ix z)) b (nI q)) (fun r => (r = 1 ∧ ∀ q', q' < 3 → ∀ w, chz W H z q' = some w → gAI S1 (G 380) (ix w) ≠ 0) ∨ (r = 0 ∧ wai W H G S1 z))
  | 0, _, _, _, _ => Pa_none
  | n + 1, q, b, hq, hb => by
    have hG := h1.1
    have hz16 := hz.1
    have hz10 := h1.l10 hz.vt
    have lz : ix z < 160 := by unfold ix; omega
    have e3 : (3 : Int32) * nI (ix z) + nI q = nI (3 * ix z + q) := e_add (e_mul k3 rfl) rfl
    show Pa (Y_X9_waitsForNone_4 N S1 (L_X9_waitsForNone_4 N S1 n) m (nI (ix z)) b (nI q)) _
    unfold Y_X9_waitsForNone_4 B_X9_waitsForNone_46 B_X9_waitsForNone_50 B_X9_waitsForNone_51
    by_cases c0 : q = 3
    · refine Pa_it (leN (a := 3) (by omega) (by omega) (by omega)) (Pa_gb (Pa_some ?_))
      rw [c0] at hb
      exact hb
    · refine Pa_if (nleN (b := q) (a := 3) (by omega) (by omega) (by omega)) ?_
      rw [e3, n_cl (by omega), n_a1 q]
      rcases hb with ⟨rfl, hb⟩ | ⟨rfl, hb⟩
      · refine Pa_if (by decide) (Pa_r (hG.1 379 rfl) (Pa_g ?_))
        rw [hC z th hz q (by omega)]
        cases e : chz W H z q with
        | none =>
          refine Pa_it rfl (wf_loop h1 hc hA hB hC hz n (q + 1) 1 (by omega) (Or.inl ⟨rfl, fun q' hq' w hw => ?_⟩))
          by_cases cq : q' = q
          · rw [cq, e] at hw; cases hw
          · exact hb q' (by omega) w hw
        | some w =>
          obtain ⟨tw, hw⟩ := chz_nd hA hB hc hz e
          have hw16 := hw.1
          have hw10 := h1.l10 hw.vt
          have lw : ix w < 160 := by unfold ix; omega
          have cl : (oF (some w)).toNatClampNeg = ix w := n_cl (by omega)
          refine Pa_if (fun y => ne5 (a := ix w) (by omega) y) (Pa_m (hG.1 380 rfl) (Pa_r (hG.1 379 rfl) (Pa_g (Pa_bs ?_))))
          rw [hC z th hz q (by omega), e, cl]
          refine Pa_g ?_
          by_cases cw : gAI S1 (G 380) (ix w) = 0
          · exact Pa_it cw (wf_loop h1 hc hA hB hC hz n (q + 1) 0 (by omega) (Or.inr ⟨rfl, q, w, by omega, e, cw⟩))
          · refine Pa_if cw (wf_loop h1 hc hA hB hC hz n (q + 1) 1 (by omega) (Or.inl ⟨rfl, fun q' hq' w' hw' => ?_⟩))
            by_cases cq : q' = q
            · rw [cq, e] at hw'
              cases hw'
              exact cw
            · exact hb q' (by omega) w' hw'
      · exact Pa_it rfl (wf_loop h1 hc hA hB hC hz n (q + 1) 0 (by omega) (Or.inr ⟨rfl, hb⟩))
/-- a sum of what is known -/
theorem r156 (h1 : RB m G Λ c F W H S1) (hc : c ≤ 16) (hA : WA c F W) (hB : HA c F H) (hC : chI c F W H G S1) {z : Nat × Nat} {th : aT} (hz : nd c F H z th) {n0 : Nat} (hv : ∀ q, q < 3 → ∀ w, chz W H z q = some w → gv W H n0 w = some (gAJ S1 (G 381) (ix w))) {P : sSt → Prop} {k102 : sSt → Nat → Int32 → Option sSt} {k110 : sSt → Nat → Int32 → Int32 → Option sSt} : ∀ (n q : Nat) (acc : Int64), q ≤ 3 → (∀ y, gvs W H (gv W H n0) z.1 acc (th.2.2.2.drop q) = some y → Pa (k110 (sAI (sAJ S1 (G 381) (ix z) y) (G 380) (ix z) 1) m 1 (nI (ix z) + 1)) P) → Pa (L_X9_reckon_156 N k102 k110 n S1 m (nI (ix z)) acc (nI q)) P
  | 0, _, _, _, _ => Pa_none
  | n + 1, q, acc, hq, hk => by
    have hG := h1.1
    have hz16 := hz.1
    have hz10 := h1.l10 hz.vt
    have lz : ix z < 160 := by unfold ix; omega
    have h3 := ((h1.2.2.2.2 z.1 hz.1 hz.2.1).2.2 z.2 th hz.2.2.1).2.2.2.2.2.1
    have e3 : (3 : Int32) * nI (ix z) + nI q = nI (3 * ix z + q) := e_add (e_mul k3 rfl) rfl
    show Pa (Y_X9_reckon_156 N k102 k110 (L_X9_reckon_156 N k102 k110 n) S1 m (nI (ix z)) acc (nI q)) P
    unfold Y_X9_reckon_156 B_X9_reckon_199 B_X9_reckon_223
    by_cases c0 : q = 3
    · refine Pa_it (leN (a := 3) (by omega) (by omega) (by omega)) (Pa_r (hG.1 381 rfl) (Pa_g (Pa_st (fun S11 e11 => ?_))))
      have h11 : S11.2.2.1 = S1.2.2.1 := by rw [e11]; rfl
      refine Pa_r (hG.g h11 380) (Pa_g (Pa_b ?_))
      rw [e11, n_cl (by omega)]
      refine hk acc ?_
      rw [List.drop_eq_nil_of_le (by omega)]
      rfl
    · refine Pa_if (nleN (b := q) (a := 3) (by omega) (by omega) (by omega)) (Pa_r (hG.1 379 rfl) (Pa_g ?_))
      rw [e3, n_cl (by omega), n_a1 q, hC z th hz q (by omega)]
      have step0 : (∀ y, gvs W H (gv W H n0) z.1 acc (th.2.2.2.drop (q + 1)) = some y → gvs W H (gv W H n0) z.1 acc (th.2.2.2.drop q) = some y) → Pa (L_X9_reckon_156 N k102 k110 n S1 m (nI (ix z)) (acc + 0) (nI (q + 1))) P := fun hh => by
        rw [Int64.add_zero]
        exact r156 h1 hc hA hB hC hz hv n (q + 1) acc (by omega) (fun y hy => hk y (hh y hy))
      cases e : th.2.2.2[q]? with
      | none =>
        have hl := List.getElem?_eq_none_iff.mp e
        rw [chz_n hz.2.2.1 e]
        refine Pa_it rfl (step0 (fun y hy => ?_))
        rw [List.drop_eq_nil_of_le (by omega)] at hy ⊢
        exact hy
      | some v =>
        obtain ⟨hq2, ev⟩ := List.getElem?_eq_some_iff.mp e
        have e2 : th.2.2.2.drop q = v :: th.2.2.2.drop (q + 1) := by rw [← ev]; exact List.drop_eq_getElem_cons hq2
        have ecz := chz_s (W := W) hz.2.2.1 e
        rw [ecz]
        cases ef : fd W H z.1 (32 + v) with
        | none =>
          refine Pa_it rfl (step0 (fun y hy => ?_))
          rw [e2, gvs_n ef]
          exact hy
        | some w =>
          rw [ef] at ecz
          obtain ⟨tw, hw⟩ := chz_nd hA hB hc hz ecz
          have hw16 := hw.1
          have hw10 := h1.l10 hw.vt
          have lw : ix w < 160 := by unfold ix; omega
          have cl : (oF (some w)).toNatClampNeg = ix w := n_cl (by omega)
          refine Pa_if (fun y => ne5 (a := ix w) (by omega) y) (Pa_m (hG.1 381 rfl) (Pa_r (hG.1 379 rfl) (Pa_g (Pa_bs ?_))))
          rw [hC z th hz q (by omega), ecz, cl]
          refine Pa_g (r156 h1 hc hA hB hC hz hv n (q + 1) _ (by omega) (fun y hy => hk y ?_))
          rw [e2, gvs_s ef (hv q (by omega) w ecz)]
          exact hy
/-- one round of the reckoning -/
theorem r110 (h0 : RB m G Λ c F W H S0) (hc : c ≤ 16) (hA : WA c F W) (hB : HA c F H) {P : sSt → Prop} {k102 : sSt → Nat → Int32 → Option sSt} (hk1 : ∀ S', KR m G S0 S' → chI c F W H G S' → knI c F W H G S' → Pa (k102 S' m 1) P) (hk0 : ∀ S', KR m G S0 S' → chI c F W H G S' → knI c F W H G S' → (∀ z th, nd c F H z th → gAI S' (G 380) (ix z) = 0 → wai W H G S' z) → Pa (k102 S' m 0) P) : ∀ (n j : Nat) (b : Int32) (S1 : sSt), j ≤ 10 * c → KR m G S0 S1 → chI c F W H G S1 → knI c F W H G S1 → (b = 1 ∨ (b = 0 ∧ ∀ z th, nd c F H z th → ix z < j → gAI S1 (G 380) (ix z) = 0 → wai W H G S1 z)) → Pa (L_X9_reckon_110 N k102 n S1 m b (nI j)) P
  | 0, _, _, _, _, _, _, _, _ => Pa_none
  | n + 1, j, b, S1, hj, K, hC, hN, hb => by
    have h1 := h0.kr K
    have hG := h1.1
    have eL : (10 : Int32) * gFI S1 361 m = nI (10 * c) := e_mul k10 h1.2.1
    show Pa (Y_X9_reckon_110 N k102 (L_X9_reckon_110 N k102 n) S1 m b (nI j)) P
    unfold Y_X9_reckon_110 B_X9_reckon_223
    rw [eL, n_a1 j]
    by_cases c0 : j = 10 * c
    · refine Pa_it (leN (by omega) (by omega) (by omega)) ?_
      rcases hb with rfl | ⟨rfl, hb⟩
      · exact hk1 S1 K hC hN
      · refine hk0 S1 K hC hN (fun z th hz h => hb z th hz ?_ h)
        have := hz.1
        have := h1.l10 hz.vt
        unfold ix
        omega
    · obtain ⟨k, i, rfl, hi⟩ : ∃ k i, j = 10 * k + i ∧ i < 10 := ⟨j / 10, j % 10, by omega, by omega⟩
      have hk : k < c := by omega
      have skip : (∀ th, nd c F H (k, i) th → gAI S1 (G 380) (10 * k + i) = 0 → wai W H G S1 (k, i)) → Pa (L_X9_reckon_110 N k102 n S1 m b (nI (10 * k + i + 1))) P := fun hw => by
        refine r110 h0 hc hA hB hk1 hk0 n (10 * k + i + 1) b S1 (by omega) K hC hN (hb.imp id (fun y => ⟨y.1, fun z th hz hlt hz0 => ?_⟩))
        by_cases cz : ix z = 10 * k + i
        · have ez : z = (k, i) := ix_inj (z := z) (w := (k, i)) (h1.l10 hz.vt) hi cz
          subst ez
          exact hw th hz hz0
        · exact y.2 z th hz (by omega) hz0
      refine Pa_if (nleN (by omega) (by omega) (by omega)) (Pa_bind (ic_val h1 hc hk hi) (fun v _ hv => ?_))
      rcases hv with ⟨rfl, th, hz⟩ | ⟨rfl, hno⟩
      · refine Pa_if (by decide) (Pa_r (hG.1 380 rfl) (Pa_g ?_))
        rw [n_cl (by omega)]
        by_cases c1 : gAI S1 (G 380) (10 * k + i) = 0
        · refine Pa_it c1 (Pa_bind (wf_loop (z := (k, i)) h1 hc hA hB hC hz FU 0 1 (by omega) (Or.inl ⟨rfl, fun q' hq' => absurd hq' (Nat.not_lt_zero _)⟩)) (fun v5 _ hv5 => ?_))
          rcases hv5 with ⟨rfl, hall⟩ | ⟨rfl, hw⟩
          · refine Pa_if (by decide) (Pa_r (hG.1 365 rfl) (Pa_g ?_))
            rw [((h1.2.2.2.2 k hk hz.2.1).2.2 i th hz.2.2.1).2.1]
            have one : ∀ q, q < 3 → ∃ n', ∀ w, chz W H (k, i) q = some w → gv W H n' w = some (gAJ S1 (G 381) (ix w)) := fun q hq => by
              cases e : chz W H (k, i) q with
              | none => exact ⟨0, fun w hw => nomatch hw⟩
              | some w =>
                obtain ⟨tw, hnw⟩ := chz_nd hA hB hc hz e
                obtain ⟨n', hn'⟩ := (hN w tw hnw).1 (hall q hq w e)
                exact ⟨n', fun w' hw' => by cases hw'; exact hn'⟩
            obtain ⟨n1, z1⟩ := one 0 (by omega)
            obtain ⟨n2, z2⟩ := one 1 (by omega)
            obtain ⟨n3, z3⟩ := one 2 (by omega)
            have hv : ∀ q, q < 3 → ∀ w, chz W H (k, i) q = some w → gv W H (n1 + n2 + n3) w = some (gAJ S1 (G 381) (ix w)) := fun q hq w hw => by
              have hq3 : q = 0 ∨ q = 1 ∨ q = 2 := by omega
              rcases hq3 with rfl | rfl | rfl
              · rw [Nat.add_assoc]; exact gv_le (z1 w hw) (n2 + n3)
              · have := gv_le (z2 w hw) (n1 + n3)
                rw [show n1 + n2 + n3 = n2 + (n1 + n3) by omega]
                exact this
              · have := gv_le (z3 w hw) (n1 + n2)
                rw [show n1 + n2 + n3 = n3 + (n1 + n2) by omega]
                exact this
            refine r156 (z := (k, i)) h1 hc hA hB hC hz hv FU 0 th.2.1 (by omega) (fun y hy => ?_)
            rw [List.drop_zero] at hy
            rw [n_a1]
            have hgv : gv W H (n1 + n2 + n3 + 1) (k, i) = some y := by
              rw [gv_t hz.2.2.1]
              exact hy
            refine r110 h0 hc hA hB hk1 hk0 n (10 * k + i + 1) 1 _ (by omega) ((K.J hG).I hG 380 rfl (Or.inr rfl)) (fun z th hz q hq => ?_) (fun z tz hz2 => ?_) (Or.inl rfl)
            · rw [hG.o 379 380, gAI_sAJ]
              exact hC z th hz q hq
            · rw [sI, gAJ_sAI, sJ]
              by_cases cz : ix z = 10 * k + i
              · have ez : z = (k, i) := ix_inj (z := z) (w := (k, i)) (h1.l10 hz2.vt) hi cz
                rw [if_pos cz, if_pos cz]
                refine ⟨fun _ => ⟨_, by rw [ez]; exact hgv⟩, fun q => absurd q (by decide)⟩
              · rw [if_neg cz, if_neg cz]
                exact hN z tz hz2
          · exact Pa_it rfl (skip (fun _ _ _ => hw))
        · exact Pa_if c1 (skip (fun _ _ h => absurd h c1))
      · exact Pa_it rfl (skip (fun th hz _ => absurd hz (hno th)))
/-- all is reckoned -/
def RV (m c : Nat) (F : aF) (W : aU) (H : aH) (G : Nat → Nat) (S0 S : sSt) : Prop := KR m G S0 S ∧ chI c F W H G S ∧ ∀ z th, nd c F H z th → ∃ o, VR W H z o ∧ gAJ S (G 381) (ix z) = o.getD 0 ∧ (gAI S (G 380) (ix z) = 0 ↔ o = none)
theorem r102 (h0 : RB m G Λ c F W H S0) (hc : c ≤ 16) (hA : WA c F W) (hB : HA c F H) : ∀ (n : Nat) (b : Int32) (S1 : sSt), KR m G S0 S1 → chI c F W H G S1 → knI c F W H G S1 → (b = 1 ∨ (b = 0 ∧ ∀ z th, nd c F H z th → gAI S1 (G 380) (ix z) = 0 → wai W H G S1 z)) → Pa (L_X9_reckon_102 N n S1 m b) (fun r => RV m c F W H G S0 r)
  | 0, _, _, _, _, _, _ => Pa_none
  | n + 1, b, S1, K, hC, hN, hb => by
    show Pa (Y_X9_reckon_102 N (L_X9_reckon_102 N n) S1 m b) _
    unfold Y_X9_reckon_102
    rcases hb with rfl | ⟨rfl, hb⟩
    · refine Pa_if (by decide) ?_
      exact r110 h0 hc hA hB (fun S' K' C' N' => r102 h0 hc hA hB n 1 S' K' C' N' (Or.inl rfl)) (fun S' K' C' N' w' => r102 h0 hc hA hB n 0 S' K' C' N' (Or.inr ⟨rfl, w'⟩)) FU 0 0 S1 (Nat.zero_le _) K hC hN (Or.inr ⟨rfl, fun z th _ hlt => absurd hlt (Nat.not_lt_zero _)⟩)
    · refine Pa_it rfl (Pa_some ⟨K, hC, fun z th hz => ?_⟩)
      have non : ∀ q z th, nd c F H z th → gAI S1 (G 380) (ix z) = 0 → gv W H q z = none := by
        intro q
        induction q with
        | zero => intro z th _ _; rfl
        | succ q ih =>
          intro z th hz h
          cases e : gv W H (q + 1) z with
          | none => rfl
          | some x =>
            obtain ⟨qq, w, hqq, hw, hw0⟩ := hb z th hz h
            obtain ⟨tw, hnw⟩ := chz_nd hA hB hc hz hw
            rw [gv_t hz.2.2.1] at e
            cases ev : th.2.2.2[qq]? with
            | none => rw [chz_n hz.2.2.1 ev] at hw; cases hw
            | some v =>
              rw [chz_s hz.2.2.1 ev] at hw
              obtain ⟨y, hy⟩ := gvs_part hw _ _ _ e (List.mem_of_getElem? ev)
              rw [ih w tw hnw hw0] at hy
              cases hy
      by_cases c0 : gAI S1 (G 380) (ix z) = 0
      · exact ⟨none, fun q => non q z th hz c0, (hN z th hz).2 c0, ⟨fun _ => rfl, fun _ => c0⟩⟩
      · exact ⟨some (gAJ S1 (G 381) (ix z)), (hN z th hz).1 c0, rfl, ⟨fun y => absurd y c0, fun y => nomatch y⟩⟩
theorem r2 (h0 : RB m G Λ c F W H S0) (hc : c ≤ 16) (hA : WA c F W) (hB : HA c F H) : ∀ (n j : Nat) (S1 : sSt), j ≤ 10 * c → KR m G S0 S1 → chD c F W H G S1 j 0 → knD G S1 j → Pa (L_X9_reckon_2 N n S1 m (nI j)) (fun r => RV m c F W H G S0 r)
  | 0, _, _, _, _, _, _ => Pa_none
  | n + 1, j, S1, hj, K, hD, hN => by
    have h1 := h0.kr K
    have hG := h1.1
    have eL : (10 : Int32) * gFI S1 361 m = nI (10 * c) := e_mul k10 h1.2.1
    show Pa (Y_X9_reckon_2 N (L_X9_reckon_2 N n) S1 m (nI j)) _
    unfold Y_X9_reckon_2
    rw [eL]
    by_cases c0 : j = 10 * c
    · have lt : ∀ z th, nd c F H z th → ix z < j := fun z th hz => by
        have := hz.1
        have := h1.l10 hz.vt
        unfold ix
        omega
      refine Pa_it (leN (by omega) (by omega) (by omega)) (r102 h0 hc hA hB FU 1 S1 K (fun z th hz q hq => hD z th hz q hq (Or.inl (lt z th hz))) (fun z th hz => ?_) (Or.inl rfl))
      obtain ⟨y1, y2⟩ := hN _ (lt z th hz)
      exact ⟨fun y => absurd y1 y, fun _ => y2⟩
    · obtain ⟨k, i, rfl, hi⟩ : ∃ k i, j = 10 * k + i ∧ i < 10 := ⟨j / 10, j % 10, by omega, by omega⟩
      have hk : k < c := by omega
      refine Pa_if (nleN (by omega) (by omega) (by omega)) (Pa_r (hG.1 380 rfl) (Pa_g (Pa_st (fun S23 e23 => ?_))))
      have h23 : S23.2.2.1 = S1.2.2.1 := by rw [e23]; rfl
      refine Pa_r (hG.g h23 381) (Pa_g (Pa_b ?_))
      rw [e23, n_cl (by omega)]
      refine r29 h0 hc hA hk hi (fun S' K' D' N' => ?_) FU 0 _ (by omega) ((K.I hG 380 rfl (Or.inr rfl)).J hG) (fun z th hz q hq hlt => ?_) (fun i' hi' => ?_)
      · rw [n_a1]
        exact r2 h0 hc hA hB n (10 * k + i + 1) S' (by omega) K' D' N'
      · rw [gAI_sAJ, hG.o 379 380]
        exact hD z th hz q hq (by omega)
      · rw [gAI_sAJ, sI, sJ, gAJ_sAI]
        by_cases ci : i' = 10 * k + i
        · rw [if_pos ci, if_pos ci]
          exact ⟨rfl, rfl⟩
        · rw [if_neg ci, if_neg ci]
          exact hN i' (by omega)
theorem rk_val (h0 : RB m G Λ c F W H S0) (hc : c ≤ 16) (hA : WA c F W) (hB : HA c F H) : Pa (F_X9_reckon N S0 m) (fun r => RV m c F W H G S0 r) :=
  r2 h0 hc hA hB FU 0 S0 (Nat.zero_le _) KR.rf (fun z th _ q _ hlt => absurd hlt (by omega)) (fun i hi => absurd hi (Nat.not_lt_zero i))
end
section
variable {m c : Nat} {G : Nat → Nat} {Λ : sLay} {N : Nat → Nat} {S0 S S1 S2 : sSt} {F : aF} {U W : aU} {H : aH}
theorem value_r (h : RA m G Λ c F U W H S) (hc : c ≤ 16) (hA : WA c F W) (hB : HA c F H) (p n : Int32) : Pa (F_X9_value Λ.2.2 S m p n) (fun r => r.1 = aValue c F W H p n) := by
  have hb := h.rb
  obtain ⟨hS, ec, hF, hU, hW, hH⟩ := h
  unfold F_X9_value aValue cOf
  refine Pa_b (Pa_be (isU_val hS.g0 hc hb.2.1 (fun k hk => (hF k hk).1) p) ?_)
  cases e : uo c F.1 p with
  | none => exact Pa_it (iU0.mpr rfl) (Pa_some rfl)
  | some k =>
    obtain ⟨ep, hk, hT, -⟩ := uo_some e
    obtain ⟨q1, q2, q3⟩ := hb.2.2.2.2 k hk hT
    refine Pa_if (fun z => by have := iU0.mp z; cases this) (Pa_be name_val ?_)
    show Pa _ (fun r : Int64 × sSt => r.1 = match (if n < 0 ∨ (32 : Int32) ≤ n then none else match tIx (32 + n) (H k) 0 with
      | none => none
      | some i => some (k, i) : Option (Nat × Nat)) with
      | none => 0
      | some z => (VO W H z).getD 0)
    by_cases c3 : n < 0 ∨ (32 : Int32) ≤ n
    · rw [if_pos c3, if_pos (cnd32.mpr c3)]
      exact Pa_it rfl (Pa_some rfl)
    rw [if_neg c3, if_neg (fun z => c3 (cnd32.mp z))]
    refine Pa_if (by decide) (Pa_bind (tO_val hb.1 q1 q2 q3 (by omega) ep (32 + n)) (fun v _ hv => ?_))
    subst hv
    have iff1 := oT_n (k := k) (x := tIx (32 + n) (H k) 0) (by omega) (fun i hi => by have := (tIx_0 hi).1; omega)
    cases ei : tIx (32 + n) (H k) 0 with
    | none =>
      rw [ei] at iff1
      exact Pa_it (iff1.mpr rfl) (Pa_some rfl)
    | some i =>
      rw [ei] at iff1
      obtain ⟨hil, th, hth, hkey⟩ := tIx_0 ei
      obtain ⟨b, hbb, eb⟩ := nm32 c3
      have hz : nd c F H (k, i) th := ⟨hk, hT, hth, by rw [hkey, eb]; exact key32 hbb⟩
      refine Pa_if (fun z => by have := iff1.mp z; cases this) (Pa_bind (rk_val hb hc hA hB) (fun S9 _ A => ?_))
      have h9 := hb.kr A.1
      obtain ⟨p1, p2, p3⟩ := h9.2.2.2.2 k hk hT
      refine Pa_m (h9.1.1 381 rfl) (Pa_bind (tO_val h9.1 p1 p2 p3 (by omega) ep (32 + n)) (fun v _ hv => ?_))
      rw [ei] at hv
      rw [hv]
      refine Pa_bs (Pa_g (Pa_some ?_))
      have cl : (oT k (some i)).toNatClampNeg = 10 * k + i := n_cl (by omega)
      obtain ⟨ov, vr, vs, -⟩ := A.2.2 (k, i) th hz
      show gAJ S9 (G 381) (oT k (some i)).toNatClampNeg = (VO W H (k, i)).getD 0
      rw [cl, VO_eq vr]
      exact vs
theorem round_r (h : RA m G Λ c F U W H S) (hc : c ≤ 16) (hA : WA c F W) (hB : HA c F H) (p n : Int32) : Pa (F_X9_round Λ.2.2 S m p n) (fun r => r.1 = aRound c F W H p n) := by
  have hb := h.rb
  obtain ⟨hS, ec, hF, hU, hW, hH⟩ := h
  unfold F_X9_round aRound cOf
  refine Pa_b (Pa_be (isU_val hS.g0 hc hb.2.1 (fun k hk => (hF k hk).1) p) ?_)
  cases e : uo c F.1 p with
  | none => exact Pa_it (iU0.mpr rfl) (Pa_some rfl)
  | some k =>
    obtain ⟨ep, hk, hT, -⟩ := uo_some e
    obtain ⟨q1, q2, q3⟩ := hb.2.2.2.2 k hk hT
    refine Pa_if (fun z => by have := iU0.mp z; cases this) (Pa_be name_val ?_)
    show Pa _ (fun r : Int32 × sSt => r.1 = match (if n < 0 ∨ (32 : Int32) ≤ n then none else match tIx (32 + n) (H k) 0 with
      | none => none
      | some i => some (k, i) : Option (Nat × Nat)) with
      | none => -1
      | some z => match VO W H z with
        | none => 1
        | some _ => 0)
    by_cases c3 : n < 0 ∨ (32 : Int32) ≤ n
    · rw [if_pos c3, if_pos (cnd32.mpr c3)]
      exact Pa_it rfl (Pa_some rfl)
    rw [if_neg c3, if_neg (fun z => c3 (cnd32.mp z))]
    refine Pa_if (by decide) (Pa_bind (tO_val hb.1 q1 q2 q3 (by omega) ep (32 + n)) (fun v _ hv => ?_))
    subst hv
    have iff1 := oT_n (k := k) (x := tIx (32 + n) (H k) 0) (by omega) (fun i hi => by have := (tIx_0 hi).1; omega)
    cases ei : tIx (32 + n) (H k) 0 with
    | none =>
      rw [ei] at iff1
      exact Pa_it (iff1.mpr rfl) (Pa_some rfl)
    | some i =>
      rw [ei] at iff1
      obtain ⟨hil, th, hth, hkey⟩ := tIx_0 ei
      obtain ⟨b, hbb, eb⟩ := nm32 c3
      have hz : nd c F H (k, i) th := ⟨hk, hT, hth, by rw [hkey, eb]; exact key32 hbb⟩
      refine Pa_if (fun z => by have := iff1.mp z; cases this) (Pa_bind (rk_val hb hc hA hB) (fun S9 _ A => ?_))
      have h9 := hb.kr A.1
      obtain ⟨p1, p2, p3⟩ := h9.2.2.2.2 k hk hT
      refine Pa_m (h9.1.1 380 rfl) (Pa_bind (tO_val h9.1 p1 p2 p3 (by omega) ep (32 + n)) (fun v _ hv => ?_))
      rw [ei] at hv
      rw [hv]
      have cl : (oT k (some i)).toNatClampNeg = 10 * k + i := n_cl (by omega)
      rw [cl]
      refine Pa_bs (Pa_g ?_)
      obtain ⟨ov, vr, -, vi⟩ := A.2.2 (k, i) th hz
      have vi : gAI S9 (G 380) (10 * k + i) = 0 ↔ ov = none := vi
      show Pa _ (fun r : Int32 × sSt => r.1 = match VO W H (k, i) with
        | none => 1
        | some _ => 0)
      rw [VO_eq vr]
      cases ov with
      | none => exact Pa_it (vi.mpr rfl) (Pa_some rfl)
      | some _ => exact Pa_if (fun y => by have := vi.mp y; cases this) (Pa_some rfl)
end
