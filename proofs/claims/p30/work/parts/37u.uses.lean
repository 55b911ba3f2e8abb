/-! What each unit uses: class and reference hold the same lists. -/
abbrev aU : Type := Nat → List Int32
/-- the class's lists in the field f of units -/
def CL2 (f : Nat) (N : Nat → Nat) (S : sSt) (t c : Nat) (F : aF) (U : aU) : Prop := ∀ k, k < c → F.1 k = true → ∃ u l b, gAR S t k = some u ∧ gFR S f u = some l ∧ LsI N S l b (U k)
/-- the reference's: how many, and what, w places for each unit -/
def RL2 (fn fa w : Nat) (G : Nat → Nat) (S : sSt) (c : Nat) (F : aF) (U : aU) : Prop := ∀ k, k < c → F.1 k = true → gAI S (G fn) k = nI (U k).length ∧ (U k).length ≤ w ∧ ∀ i v, (U k)[i]? = some v → gAI S (G fa) (w * k + i) = v
theorem i_le32 {n : Int32} : (32 : Int32) ≤ n ↔ (31 : Int32) < n := by
  rw [Int32.le_iff_toInt_le, Int32.lt_iff_toInt_lt]
  have e1 : (32 : Int32).toInt = 32 := rfl
  have e2 : (31 : Int32).toInt = 31 := rfl
  omega
theorem i_01 {s : Int32} : (¬ s < 0 ∧ ¬ (1 : Int32) < s) ↔ (s = 0 ∨ s = 1) := by
  constructor
  · rintro ⟨h1, h2⟩
    obtain ⟨j, hj, rfl⟩ := nI_of h1
    have h3 : ¬ 1 < j := fun z => h2 ((nI_ltI (a := 1) (by omega) hj).mpr z)
    have h4 : j = 0 ∨ j = 1 := by omega
    rcases h4 with rfl | rfl
    · exact Or.inl rfl
    · exact Or.inr rfl
  · rintro (rfl | rfl)
    · exact ⟨by decide, by decide⟩
    · exact ⟨by decide, by decide⟩
section
variable {x m o us t c c2 : Nat} {R : List Nat} {G : Nat → Nat} {ρ ω : Nat → Nat} {Λ : sLay} {S S1 : sSt} {F : aF} {U : aU} {f : Nat}
theorem PD.fl (h : PD x m o R G us t c c2 ρ ω Λ S) {u l : Nat} (hu : isK (own Λ R) 6 u) (hf : f ∈ refF) (h1 : rk f = 1) (h40 : f ≠ 40) (h120 : f ≠ 120) (e : gFR S f u = some l) : isK (own Λ R) 1 l ∧ ρ l = f ∧ ω l = u := by
  have tl := h.2.2.2.2.2.2.1.1.1 f u hu.1 l e
  rw [h1] at tl
  obtain ⟨e1, e2⟩ := h.ro.1 f hf u l hu.1 e
  exact ⟨tl, e1.trans (roL_o h40 h120), e2⟩
theorem PD.fb (h : PD x m o R G us t c c2 ρ ω Λ S) {l b : Nat} (hl : isK (own Λ R) 1 l) (e : gFR S 40 l = some b) : isK (own Λ R) 10 b ∧ ρ b = 1000 + ρ l ∧ ω b = l := by
  have tb := h.2.2.2.2.2.2.1.1.1 40 l hl.1 b e
  obtain ⟨e1, e2⟩ := h.ro.1 40 (by decide) l b hl.1 e
  refine ⟨tb, e1.trans ?_, e2⟩
  unfold roL
  rw [if_pos rfl]
/-- lists whose role is frozen stay -/
theorem CL2.fz (h : PD x m o R G us t c c2 ρ ω Λ S) (hU : CL2 f Λ.2.2 S t c F U) (hf : f ∈ refF) (h1 : rk f = 1) (h40 : f ≠ 40) (h120 : f ≠ 120) {fz Ar : Nat → Bool} (g : Sh (S, fz, ρ, Ar) (own Λ R) S1) (a1 : Ar f = true) (a2 : Ar (1000 + f) = true) : CL2 f Λ.2.2 S1 t c F U := fun k hk hT => by
  obtain ⟨u, l, b, hu, hl, hL⟩ := hU k hk hT
  have tu := h.un hu
  obtain ⟨tl, rl, -⟩ := h.fl tu hf h1 h40 h120 hl
  obtain ⟨tb, rb, -⟩ := h.fb tl hL.2.1
  have kl := g.2.2.2.2.2.2.2.2.2 l tl.1 (by rw [tl.2]; rfl) (by show Ar (ρ l) = true; rw [rl]; exact a1)
  have kb := g.2.2.2.2.2.2.2.2.2 b tb.1 (by rw [tb.2]; rfl) (by show Ar (ρ b) = true; rw [rb, rl]; exact a2)
  have eR : ∀ f a, gFR S1 f a = gFR S f a := fun f a => by
    unfold gFR
    rw [g.2.2.2.2.2.1]
  exact ⟨u, l, b, (h.row g k).trans hu, (eR f u).trans hl, hL.same (kl.1 41) (eR 40 l) kb.2.2.1⟩
theorem CL2.kp (h : PD x m o R G us t c c2 ρ ω Λ S) (hU : CL2 f Λ.2.2 S t c F U) (hf : f ∈ refF) (h1 : rk f = 1) (h40 : f ≠ 40) (h120 : f ≠ 120) (k : ∀ a, a ∈ (own Λ R).1 → kpA S S1 a) : CL2 f Λ.2.2 S1 t c F U := fun j hj hT => by
  obtain ⟨u, l, b, hu, hl, hL⟩ := hU j hj hT
  have tu := h.un hu
  obtain ⟨tl, -⟩ := h.fl tu hf h1 h40 h120 hl
  obtain ⟨tb, -⟩ := h.fb tl hL.2.1
  exact ⟨u, l, b, ((k t h.kt.1).2.2.2.2.2 j).trans hu, ((k u tu.1).2.2.1 f).trans hl, hL.same ((k l tl.1).1 41) ((k l tl.1).2.2.1 40) (k b tb.1).2.2.2.1⟩
theorem CL2.mono {F2 : aF} (hU : CL2 f Λ.2.2 S t c F U) (hm : ∀ k, F2.1 k = true → F.1 k = true) : CL2 f Λ.2.2 S t c F2 U := fun k hk hT => hU k hk (hm k hT)
/-- one unit's list was written, and nothing else -/
theorem CL2.one (h : PD x m o R G us t c c2 ρ ω Λ S) (hc : c ≤ 16) (hU : CL2 f Λ.2.2 S t c F U) (hf : f ∈ refF) (h1 : rk f = 1) (h40 : f ≠ 40) (h120 : f ≠ 120) {k u l b : Nat} {xs : List Int32} (hk : k < c) (hu : gAR S t k = some u) (hl : gFR S f u = some l) (hL : LsI Λ.2.2 S1 l b xs) (eb : gFR S 40 l = some b) (lf : LF S S1 l b) : CL2 f Λ.2.2 S1 t c F (up1 U k xs) := fun j hj hT => by
  have eR : ∀ f a, gFR S1 f a = gFR S f a := fun f a => by
    unfold gFR
    rw [lf.2.1]
  have eA : gAR S1 t j = gAR S t j := lf.2.2.2.2.1 t j
  by_cases cj : j = k
  · subst cj
    rw [up1_s]
    exact ⟨u, l, b, eA.trans hu, (eR f u).trans hl, hL⟩
  · rw [up1_n cj]
    obtain ⟨u2, l2, b2, hu2, hl2, hL2⟩ := hU j hj hT
    have tu := h.un hu
    have tu2 := h.un hu2
    obtain ⟨tl, -, wl⟩ := h.fl tu hf h1 h40 h120 hl
    obtain ⟨tl2, -, wl2⟩ := h.fl tu2 hf h1 h40 h120 hl2
    obtain ⟨tb, -, wb⟩ := h.fb tl eb
    obtain ⟨tb2, -, wb2⟩ := h.fb tl2 hL2.2.1
    have nu : u2 ≠ u := fun e => cj (h.inj (by omega) (by omega) hu2 (by rw [e]; exact hu))
    have nl : l2 ≠ l := fun e => nu (by rw [← wl2, ← wl, e])
    have nb : b2 ≠ b := fun e => nl (by rw [← wb2, ← wb, e])
    have nlb : l2 ≠ b := fun e => absurd (tl2.2.symm.trans ((congrArg _ e).trans tb.2)) (by decide)
    have nbl : b2 ≠ l := fun e => absurd (tb2.2.symm.trans ((congrArg _ e).trans tl.2)) (by decide)
    exact ⟨u2, l2, b2, eA.trans hu2, (eR f u2).trans hl2, hL2.same ((lf.1 l2 nl nlb).1 41) (eR 40 l2) (lf.1 b2 nbl nb).2.2.2.1⟩
end
theorem RL2.kp {fn fa w c : Nat} {G : Nat → Nat} {S S1 : sSt} {F : aF} {U : aU} (hR : RL2 fn fa w G S c F U) (en : ∀ i, gAI S1 (G fn) i = gAI S (G fn) i) (ea : ∀ i, gAI S1 (G fa) i = gAI S (G fa) i) : RL2 fn fa w G S1 c F U := fun k hk hT => by
  obtain ⟨h1, h2, h3⟩ := hR k hk hT
  exact ⟨(en k).trans h1, h2, fun i v hv => (ea _).trans (h3 i v hv)⟩
theorem T_and {γ : Type} {x : Option γ} {P Q : γ → Prop} (h : T x P) (g : T x Q) : T x (fun r => P r ∧ Q r) := by
  obtain ⟨r, e, hp⟩ := h
  obtain ⟨r2, e2, hq⟩ := g
  rw [e] at e2
  cases e2
  exact ⟨r, e, hp, hq⟩
theorem isB_val {N : Nat → Nat} {S : sSt} {a b : Int32} : F_X8_isBelow N S a b = some (if a < 0 ∨ b ≤ a then 0 else 1) := by
  unfold F_X8_isBelow
  by_cases h1 : a < 0
  · rw [if_pos h1, if_pos (Or.inl h1)]
  · rw [if_neg h1]
    by_cases h2 : b ≤ a
    · rw [if_pos h2, if_pos (Or.inr h2)]
    · rw [if_neg h2, if_neg (fun z => z.elim h1 h2)]
theorem in_val {N : Nat → Nat} {S : sSt} {a b d : Int32} : F_X9_in N S a b d = some (if a < b ∨ d < a then 0 else 1) := by
  unfold F_X9_in
  by_cases h1 : a < b
  · rw [if_pos h1, if_pos (Or.inl h1)]
  · rw [if_neg h1]
    by_cases h2 : d < a
    · rw [if_pos h2, if_pos (Or.inr h2)]
    · rw [if_neg h2, if_neg (fun z => z.elim h1 h2)]
def aUse (c : Nat) (F : aF) (U : aU) (p s n : Int32) : Int32 × aU := match uo c F.1 p with
  | none => (-1, U)
  | some k => if s = 0 ∨ s = 1 then (if n < 0 ∨ (32 : Int32) ≤ n then (-2, U) else if s * 32 + n ∈ U k then (-3, U) else if (U k).length < 12 then (nI ((U k).length + 1), up1 U k (U k ++ [s * 32 + n])) else (-4, U)) else (-2, U)
def aUnuse (c : Nat) (F : aF) (U : aU) (p i : Int32) : Int32 × aU := match uo c F.1 p with
  | none => (-1, U)
  | some k => if i < 0 ∨ nI (U k).length ≤ i then (-1, U) else (nI ((U k).length - 1), up1 U k ((U k).eraseIdx i.toNatClampNeg))
section
variable {x m o us t c c2 : Nat} {R : List Nat} {G : Nat → Nat} {ρ ω : Nat → Nat} {Λ : sLay} {S S1 : sSt} {F : aF} {U : aU}
theorem PD.n12 (h : PD x m o R G us t c c2 ρ ω Λ S) {u l b : Nat} (hu : isK (own Λ R) 6 u) (hl : gFR S 242 u = some l) (hb : gFR S 40 l = some b) : Λ.2.2 b = 12 := by
  obtain ⟨tl, rl, -⟩ := h.fl hu (f := 242) (by decide) rfl (by decide) (by decide) hl
  obtain ⟨tb, rb, -⟩ := h.fb tl hb
  exact h.ro.2 b tb.1 (1242, 12) (by decide) (by rw [rb, rl])
theorem use_c (h : PD x m o R G us t c c2 ρ ω Λ S) (hc : c ≤ 16) (hF : CF S t c F) (hU : CL2 242 Λ.2.2 S t c F U) (p s n : Int32) : T (F_X8_use Λ.2.2 S x p s n) (fun r : Int32 × sSt => r.1 = (aUse c F U p s n).1 ∧ CL2 242 Λ.2.2 r.2 t c F (aUse c F U p s n).2) := by
  have h320 := h.2.2.2.2.2.2.2.2.1
  unfold F_X8_use aUse
  refine T_bndE h320 (T_bsome ?_)
  cases e : uo c F.1 p with
  | none =>
    rw [at_none h hc hF e]
    exact T_bsome (T_onlN (T_some ⟨rfl, hU⟩))
  | some k =>
    obtain ⟨u, hu, ea, -⟩ := at_some h hc hF e
    obtain ⟨ep, hk, hT, -⟩ := uo_some e
    have tu := h.un hu
    obtain ⟨u2, l, b, hu2, hl, hL⟩ := hU k hk hT
    rw [hu] at hu2
    cases hu2
    rw [ea]
    refine T_bsome (T_onlS ?_)
    have main : T (B_X8_use_26 Λ.2.2 S s n u) (fun r : Int32 × sSt => r.1 = (if n < 0 ∨ (32 : Int32) ≤ n then (-2, U) else if s * 32 + n ∈ U k then (-3, U) else if (U k).length < 12 then (nI ((U k).length + 1), up1 U k (U k ++ [s * 32 + n])) else (-4, U) : Int32 × aU).1 ∧ CL2 242 Λ.2.2 r.2 t c F (if n < 0 ∨ (32 : Int32) ≤ n then (-2, U) else if s * 32 + n ∈ U k then (-3, U) else if (U k).length < 12 then (nI ((U k).length + 1), up1 U k (U k ++ [s * 32 + n])) else (-4, U) : Int32 × aU).2) := by
      unfold B_X8_use_26
      rw [isB_val]
      refine T_bsome ?_
      by_cases c1 : n < 0 ∨ (32 : Int32) ≤ n
      · rw [if_pos c1, if_pos c1, if_pos rfl]
        exact T_some ⟨rfl, hU⟩
      · rw [if_neg c1, if_neg c1, if_neg (by decide)]
        unfold F_X8_keyOf
        refine T_bsome (T_bndE hl (T_bsome ?_))
        rw [has_val hL]
        refine T_bsome ?_
        by_cases c2 : s * 32 + n ∈ U k
        · rw [if_pos c2, if_pos c2, if_neg (by decide)]
          exact T_some ⟨rfl, hU⟩
        · rw [if_neg c2, if_neg c2, if_pos rfl]
          refine T_bndE hl ?_
          rw [app_to hL, h.n12 tu hl hL.2.1]
          by_cases c3 : (U k).length < 12
          · rw [if_pos c3, if_pos c3]
            refine T_some ⟨rfl, ?_⟩
            exact CL2.one h hc hU (by decide) rfl (by decide) (by decide) hk hu hl (app_LS hL (by rw [h.n12 tu hl hL.2.1]; exact c3) _) hL.2.1 (LF.ai.tr LF.fi)
          · rw [if_neg c3, if_neg c3]
            exact T_some ⟨rfl, hU⟩
    show T _ (fun r : Int32 × sSt => r.1 = (if s = 0 ∨ s = 1 then (if n < 0 ∨ (32 : Int32) ≤ n then (-2, U) else if s * 32 + n ∈ U k then (-3, U) else if (U k).length < 12 then (nI ((U k).length + 1), up1 U k (U k ++ [s * 32 + n])) else (-4, U)) else (-2, U) : Int32 × aU).1 ∧ CL2 242 Λ.2.2 r.2 t c F (if s = 0 ∨ s = 1 then (if n < 0 ∨ (32 : Int32) ≤ n then (-2, U) else if s * 32 + n ∈ U k then (-3, U) else if (U k).length < 12 then (nI ((U k).length + 1), up1 U k (U k ++ [s * 32 + n])) else (-4, U)) else (-2, U) : Int32 × aU).2)
    by_cases c0 : s = 0
    · rw [if_pos c0, if_pos (Or.inl c0)]; exact main
    · rw [if_neg c0]
      by_cases c1 : s = 1
      · rw [if_pos c1, if_pos (Or.inr c1)]; exact main
      · rw [if_neg c1, if_neg (fun z => z.elim c0 c1)]
        exact T_some ⟨rfl, hU⟩
theorem unuse_c (h : PD x m o R G us t c c2 ρ ω Λ S) (hc : c ≤ 16) (hF : CF S t c F) (hU : CL2 242 Λ.2.2 S t c F U) (p i : Int32) : T (F_X8_unuse Λ.2.2 S x p i) (fun r : Int32 × sSt => r.1 = (aUnuse c F U p i).1 ∧ CL2 242 Λ.2.2 r.2 t c F (aUnuse c F U p i).2) := by
  have h320 := h.2.2.2.2.2.2.2.2.1
  unfold F_X8_unuse aUnuse
  refine T_bndE h320 (T_bsome ?_)
  cases e : uo c F.1 p with
  | none =>
    rw [at_none h hc hF e]
    exact T_bsome (T_onlN (T_some ⟨rfl, hU⟩))
  | some k =>
    obtain ⟨u, hu, ea, -⟩ := at_some h hc hF e
    obtain ⟨ep, hk, hT, -⟩ := uo_some e
    have tu := h.un hu
    obtain ⟨u2, l, b, hu2, hl, hL⟩ := hU k hk hT
    rw [hu] at hu2
    cases hu2
    rw [ea]
    refine T_bsome (T_onlS (T_bndE hl (T_bsome ?_)))
    unfold F_X1_length
    rw [hL.1]
    refine T_bsome ?_
    rw [isB_val]
    refine T_bsome ?_
    show T _ (fun r : Int32 × sSt => r.1 = (if i < 0 ∨ nI (U k).length ≤ i then (-1, U) else (nI ((U k).length - 1), up1 U k ((U k).eraseIdx i.toNatClampNeg)) : Int32 × aU).1 ∧ CL2 242 Λ.2.2 r.2 t c F (if i < 0 ∨ nI (U k).length ≤ i then (-1, U) else (nI ((U k).length - 1), up1 U k ((U k).eraseIdx i.toNatClampNeg)) : Int32 × aU).2)
    by_cases c1 : i < 0 ∨ nI (U k).length ≤ i
    · rw [if_pos c1, if_pos c1, if_pos rfl]
      exact T_some ⟨rfl, hU⟩
    · rw [if_neg c1, if_neg c1, if_neg (by decide)]
      obtain ⟨j, hj, rfl⟩ := nI_of (fun z => c1 (Or.inl z))
      have hjl : j < (U k).length := Nat.lt_of_not_le (fun z => c1 (Or.inr ((nI_leI hL.lt hj).mpr z)))
      obtain ⟨S2, e2, lf, hL2⟩ := drop_val hL hjl
      have eR : ∀ f a, gFR S2 f a = gFR S f a := fun f a => by
        unfold gFR
        rw [lf.2.1]
      refine T_bndE hl (T_bsome ?_)
      rw [e2, n_cl hj]
      refine T_bsome (T_bndE ((eR 242 u).trans hl) (T_bsome ?_))
      rw [hL2.1]
      refine T_bsome (T_some ⟨?_, CL2.one h hc hU (by decide) rfl (by decide) (by decide) hk hu hl hL2 hL.2.1 lf⟩)
      rw [List.length_eraseIdx, if_pos hjl]
end
/-! the reference -/
theorem wk_inj {w a b i j : Nat} (hi : i < w) (hj : j < w) (e : w * a + i = w * b + j) : a = b ∧ i = j := by
  have h1 : (w * a + i) / w = a := by rw [Nat.mul_add_div (by omega), Nat.div_eq_of_lt hi, Nat.add_zero]
  have h2 : (w * b + j) / w = b := by rw [Nat.mul_add_div (by omega), Nat.div_eq_of_lt hj, Nat.add_zero]
  rw [e, h2] at h1
  subst h1
  exact ⟨rfl, by omega⟩
theorem name_val {N : Nat → Nat} {S : sSt} {n : Int32} : F_X9_isName N S n = some (if n < 0 ∨ (31 : Int32) < n then 0 else 1) := by
  unfold F_X9_isName
  rw [in_val, Option.bind_some]
  by_cases c : n < 0 ∨ (31 : Int32) < n
  · rw [if_pos c, n_gb0]
  · rw [if_neg c, n_gb1]
theorem RL2.app {fn fa w c k : Nat} {G : Nat → Nat} {S S1 : sSt} {F : aF} {U : aU} {v : Int32} (hR : RL2 fn fa w G S c F U) (hl : (U k).length < w) (en : ∀ j, gAI S1 (G fn) j = if j = k then nI ((U k).length + 1) else gAI S (G fn) j) (ea : ∀ j, gAI S1 (G fa) j = if j = w * k + (U k).length then v else gAI S (G fa) j) : RL2 fn fa w G S1 c F (up1 U k (U k ++ [v])) := fun j hj hT => by
  obtain ⟨h1, h2, h3⟩ := hR j hj hT
  by_cases cj : j = k
  · subst cj
    rw [up1_s]
    refine ⟨by rw [en, if_pos rfl, List.length_append, List.length_singleton], by rw [List.length_append, List.length_singleton]; omega, fun i x hx => ?_⟩
    rw [ea]
    by_cases ci : i = (U j).length
    · rw [if_pos (by rw [ci])]
      rw [ci, List.getElem?_append_right (Nat.le_refl _), Nat.sub_self] at hx
      cases hx
      rfl
    · rw [if_neg (by omega)]
      have hi : i < (U j).length := by
        have := (List.getElem?_eq_some_iff.mp hx).1
        rw [List.length_append, List.length_singleton] at this
        omega
      rw [List.getElem?_append_left hi] at hx
      exact h3 i x hx
  · rw [up1_n cj]
    refine ⟨by rw [en, if_neg cj]; exact h1, h2, fun i x hx => ?_⟩
    have hi := (List.getElem?_eq_some_iff.mp hx).1
    rw [ea, if_neg (fun z => cj (wk_inj (by omega) hl z).1)]
    exact h3 i x hx
section
variable {m c : Nat} {G : Nat → Nat} {Λ : sLay} {S S1 : sSt} {F : aF} {U : aU}
theorem use_loop {Y : gY} (w371 : Y.2.2 371 = false) (w372 : Y.2.2 372 = false) (h1 : MI m G Λ Y S) (hc : c ≤ 16) (hR : RL2 371 372 12 G S c F U) {k : Nat} (hk : k < c) (hT : F.1 k = true) {p : Int32} (ep : p = nI k) (s n : Int32) : ∀ (d j q : Nat), j + d = (U k).length → d < q →
    T (L_X9_use_37 Λ.2.2 q S m p s n (nI j)) (fun r : Int32 × sSt => r.1 = (if s * 32 + n ∈ (U k).drop j then (-3, U) else if (U k).length < 12 then (nI ((U k).length + 1), up1 U k (U k ++ [s * 32 + n])) else (-4, U) : Int32 × aU).1 ∧ MI m G Λ Y r.2 ∧ RL2 371 372 12 G r.2 c F (if s * 32 + n ∈ (U k).drop j then (-3, U) else if (U k).length < 12 then (nI ((U k).length + 1), up1 U k (U k ++ [s * 32 + n])) else (-4, U) : Int32 × aU).2)
  | d, j, 0, _, h2 => absurd h2 (Nat.not_lt_zero d)
  | 0, j, q + 1, h3, _ => by
    obtain ⟨r1, r2, r3⟩ := hR k hk hT
    have i1 := e_clamp ep (by omega)
    have en : gAI S (G 371) (Int32.toNatClampNeg p) = nI (U k).length := by rw [i1]; exact r1
    show T (Y_X9_use_37 Λ.2.2 (L_X9_use_37 Λ.2.2 q) S m p s n (nI j)) _
    unfold Y_X9_use_37
    rw [List.drop_eq_nil_of_le (by omega), if_neg List.not_mem_nil]
    refine T_m (h1.c.rf (f := 371) (by decide)) (T_bsome (T_gi (g_in (h1.c.l (f := 371) (kd := 10) (n := 16) (by decide)) ep (by omega) (by omega)) ?_))
    rw [en, if_pos ((nI_leI (by omega) (by omega)).mpr (by omega))]
    refine T_m (h1.c.rf (f := 371) (by decide)) (T_bsome (T_gi (g_in (h1.c.l (f := 371) (kd := 10) (n := 16) (by decide)) ep (by omega) (by omega)) ?_))
    rw [en]
    by_cases c3 : (U k).length < 12
    · rw [if_pos c3, if_neg (fun z => absurd ((e_eq (x := (U k).length) rfl k12 (by omega) (by omega)).mp z) (by omega))]
      refine T_m (h1.c.rf (f := 372) (by decide)) (T_m (h1.c.rf (f := 371) (by decide)) (T_bsome (T_gi (g_in (h1.c.l (f := 371) (kd := 10) (n := 16) (by decide)) ep (by omega) (by omega)) (T_bsome ?_))))
      rw [en]
      have ei : (12 : Int32) * p + nI (U k).length = nI (12 * k + (U k).length) := e_add (e_mul k12 ep) rfl
      refine T_gi (g_in (h1.c.l (f := 372) (kd := 10) (n := 192) (by decide)) ei (by omega) (by omega)) ?_
      refine T_st (fun S16 e16 => ?_)
      have h16 : MI m G Λ Y S16 := by rw [e16]; exact h1.wI (f := 372) (by decide) w372 (rg0 (P := fun B => nB B _) (by decide)) (rg0 (P := fun B => oB B _) (by decide))
      have en16 : gAI S16 (G 371) (Int32.toNatClampNeg p) = nI (U k).length := by rw [e16, h1.c.oth (f := 371) (f' := 372) (by decide) (by decide) (by decide)]; exact en
      refine T_m (h16.c.rf (f := 371) (by decide)) (T_bsome (T_gi (g_in (h16.c.l (f := 371) (kd := 10) (n := 16) (by decide)) ep (by omega) (by omega)) (T_gi (g_in (h16.c.l (f := 371) (kd := 10) (n := 16) (by decide)) ep (by omega) (by omega)) ?_)))
      refine T_st (fun S19 e19 => ?_)
      have h19 : MI m G Λ Y S19 := by rw [e19]; exact h16.wI (f := 371) (by decide) w371 (rg1 (B := 12) (by decide) ⟨(U k).length + 1, by omega, e_add en16 k1⟩) (rg0 (P := fun B => oB B _) (by decide))
      refine T_m (h19.c.rf (f := 371) (by decide)) (T_bsome (T_gi (g_in (h19.c.l (f := 371) (kd := 10) (n := 16) (by decide)) ep (by omega) (by omega)) (T_some ⟨?_, h19, ?_⟩)))
      · show gAI S19 (G 371) (Int32.toNatClampNeg p) = nI ((U k).length + 1)
        rw [e19, gAI_sAI, if_pos ⟨rfl, rfl⟩]
        exact e_add en16 k1
      · refine RL2.app hR c3 (fun i => ?_) (fun i => ?_)
        · rw [e19, gAI_sAI, i1]
          by_cases ci : i = k
          · rw [if_pos ⟨rfl, ci⟩, if_pos ci]
            have := e_add en16 k1
            rw [i1] at this
            exact this
          · rw [if_neg (fun z => ci z.2), if_neg ci, e16, h1.c.oth (f := 371) (f' := 372) (by decide) (by decide) (by decide)]
        · rw [e19, h16.c.oth (f := 372) (f' := 371) (by decide) (by decide) (by decide), e16, gAI_sAI, e_clamp ei (by omega)]
          by_cases ci : i = 12 * k + (U k).length
          · rw [if_pos ⟨rfl, ci⟩, if_pos ci, Int32.mul_comm]
          · rw [if_neg (fun z => ci z.2), if_neg ci]
    · rw [if_neg c3, if_pos ((e_eq (x := (U k).length) rfl k12 (by omega) (by omega)).mpr (by omega))]
      exact T_some ⟨rfl, h1, hR⟩
  | d + 1, j, q + 1, h3, h4 => by
    obtain ⟨r1, r2, r3⟩ := hR k hk hT
    have i1 := e_clamp ep (by omega)
    have en : gAI S (G 371) (Int32.toNatClampNeg p) = nI (U k).length := by rw [i1]; exact r1
    have hj : j < (U k).length := by omega
    have e2 : (U k).drop j = (U k)[j] :: (U k).drop (j + 1) := List.drop_eq_getElem_cons hj
    have ei : (12 : Int32) * p + nI j = nI (12 * k + j) := e_add (e_mul k12 ep) rfl
    have ev : gAI S (G 372) (Int32.toNatClampNeg ((12 : Int32) * p + nI j)) = (U k)[j] := by
      rw [e_clamp ei (by omega)]
      exact r3 j _ (List.getElem?_eq_getElem hj)
    have ih := use_loop w371 w372 h1 hc hR hk hT ep s n d (j + 1) q (by omega) (by omega)
    show T (Y_X9_use_37 Λ.2.2 (L_X9_use_37 Λ.2.2 q) S m p s n (nI j)) _
    unfold Y_X9_use_37
    refine T_m (h1.c.rf (f := 371) (by decide)) (T_bsome (T_gi (g_in (h1.c.l (f := 371) (kd := 10) (n := 16) (by decide)) ep (by omega) (by omega)) ?_))
    rw [en, if_neg (fun z => absurd ((nI_leI (by omega) (by omega)).mp z) (by omega))]
    refine T_m (h1.c.rf (f := 372) (by decide)) (T_bsome (T_gi (g_in (h1.c.l (f := 372) (kd := 10) (n := 192) (by decide)) ei (by omega) (by omega)) ?_))
    rw [ev, e2, Int32.mul_comm (32 : Int32) s]
    by_cases cv : (U k)[j] = s * 32 + n
    · rw [if_pos cv, if_pos (by rw [cv]; exact List.mem_cons_self)]
      exact T_some ⟨rfl, h1, hR⟩
    · rw [if_neg cv, n_a1]
      have em : (s * 32 + n ∈ (U k)[j] :: (U k).drop (j + 1)) = (s * 32 + n ∈ (U k).drop (j + 1)) := propext ⟨fun z => (List.mem_cons.mp z).elim (fun y => absurd y.symm cv) id, fun z => List.mem_cons_of_mem _ z⟩
      simp only [em]
      exact ih
theorem use_r (hS : MC m G Λ S S) (hc : c ≤ 16) (ec : gFI S 361 m = nI c) (hF : RF G S c F) (hR : RL2 371 372 12 G S c F U) (p s n : Int32) : T (F_X9_use Λ.2.2 S m p s n) (fun r : Int32 × sSt => r.1 = (aUse c F U p s n).1 ∧ MI m G Λ (S, S, nfz [360, 371, 372]) r.2 ∧ RL2 371 372 12 G r.2 c F (aUse c F U p s n).2) := by
  unfold F_X9_use aUse
  refine T_st (fun S1 e1 => ?_)
  have h1 : MI m G Λ (S, S, nfz [360, 371, 372]) S1 := by rw [e1]; exact (hS.mi _).wF (f := 360) rfl (rg0 (P := fun B => nB B _) (by decide))
  have ec1 : gFI S1 361 m = nI c := by rw [e1, gFI_ne (by decide)]; exact ec
  have hF1 : RF G S1 c F := by rw [e1]; exact hF
  have hR1 : RL2 371 372 12 G S1 c F U := by rw [e1]; exact hR
  rw [isU_val h1.c hc ec1 (fun k hk => (hF1 k hk).1) p]
  refine T_bsome ?_
  cases e : uo c F.1 p with
  | none =>
    rw [if_pos (iU0.mpr rfl)]
    exact T_some ⟨rfl, h1, hR1⟩
  | some k =>
    obtain ⟨ep, hk, hT, -⟩ := uo_some e
    rw [if_neg (fun z => by have := iU0.mp z; cases this), in_val]
    refine T_bsome ?_
    show T _ (fun r : Int32 × sSt => r.1 = (if s = 0 ∨ s = 1 then (if n < 0 ∨ (32 : Int32) ≤ n then (-2, U) else if s * 32 + n ∈ U k then (-3, U) else if (U k).length < 12 then (nI ((U k).length + 1), up1 U k (U k ++ [s * 32 + n])) else (-4, U)) else (-2, U) : Int32 × aU).1 ∧ MI m G Λ (S, S, nfz [360, 371, 372]) r.2 ∧ RL2 371 372 12 G r.2 c F (if s = 0 ∨ s = 1 then (if n < 0 ∨ (32 : Int32) ≤ n then (-2, U) else if s * 32 + n ∈ U k then (-3, U) else if (U k).length < 12 then (nI ((U k).length + 1), up1 U k (U k ++ [s * 32 + n])) else (-4, U)) else (-2, U) : Int32 × aU).2)
    by_cases c0 : s = 0 ∨ s = 1
    · have c0' := i_01.mpr c0
      rw [if_neg (fun z : s < 0 ∨ (1 : Int32) < s => z.elim c0'.1 c0'.2), if_neg (by decide), if_pos c0, name_val]
      refine T_bsome ?_
      by_cases c1 : n < 0 ∨ (32 : Int32) ≤ n
      · rw [if_pos (c1.imp id i_le32.mp), if_pos rfl, if_pos c1]
        exact T_some ⟨rfl, h1, hR1⟩
      · rw [if_neg (fun z : n < 0 ∨ (31 : Int32) < n => c1 (z.imp id i_le32.mpr)), if_neg (by decide), if_neg c1]
        have hl := (hR k hk hT).2.1
        have := use_loop (Y := (S, S, nfz [360, 371, 372])) rfl rfl h1 hc hR1 hk hT ep s n (U k).length 0 FU (by omega) (by have := FU_big; omega)
        rw [List.drop_zero] at this
        exact this
    · rw [if_pos (Classical.byContradiction (fun z => c0 (i_01.mp ⟨fun y => z (Or.inl y), fun y => z (Or.inr y)⟩))), if_pos rfl, if_neg c0]
      exact T_some ⟨rfl, h1, hR1⟩
end
section
variable {m c : Nat} {G : Nat → Nat} {Λ : sLay} {S S1 : sSt} {F : aF} {U : aU}
theorem RL2.drop {fn fa w c k i0 : Nat} {G : Nat → Nat} {S S1 : sSt} {F : aF} {U : aU} (hR : RL2 fn fa w G S c F U) (hi0 : i0 < (U k).length) (hw : (U k).length ≤ w) (en : ∀ j, gAI S1 (G fn) j = if j = k then nI ((U k).length - 1) else gAI S (G fn) j) (ea : ∀ i, i < i0 → gAI S1 (G fa) (w * k + i) = gAI S (G fa) (w * k + i)) (eb : ∀ i, i0 ≤ i → i + 1 < (U k).length → gAI S1 (G fa) (w * k + i) = gAI S (G fa) (w * k + (i + 1)))
    (eo : ∀ j i, j ≠ k → i < w → gAI S1 (G fa) (w * j + i) = gAI S (G fa) (w * j + i)) : RL2 fn fa w G S1 c F (up1 U k ((U k).eraseIdx i0)) := fun j hj hT => by
  obtain ⟨h1, h2, h3⟩ := hR j hj hT
  by_cases cj : j = k
  · subst cj
    rw [up1_s]
    have el : ((U j).eraseIdx i0).length = (U j).length - 1 := by rw [List.length_eraseIdx, if_pos hi0]
    refine ⟨by rw [en, if_pos rfl, el], by omega, fun i x hx => ?_⟩
    have hi := (List.getElem?_eq_some_iff.mp hx).1
    rw [el] at hi
    rw [List.getElem?_eraseIdx] at hx
    by_cases ci : i < i0
    · rw [if_pos ci] at hx
      rw [ea i ci]
      exact h3 i x hx
    · rw [if_neg ci] at hx
      rw [eb i (by omega) (by omega)]
      exact h3 (i + 1) x hx
  · rw [up1_n cj]
    refine ⟨by rw [en, if_neg cj]; exact h1, h2, fun i x hx => ?_⟩
    have hi := (List.getElem?_eq_some_iff.mp hx).1
    rw [eo j i cj (by omega)]
    exact h3 i x hx
theorem unuse_loop {Y : gY} (w372 : Y.2.2 372 = false) {k i0 L : Nat} (hk : k < 16) {p : Int32} (ep : p = nI k) (hL : L ≤ 11) : ∀ (d j q : Nat) (S1 : sSt), j + d = L → i0 ≤ j → d < q → MI m G Λ Y S1 → gAI S1 (G 371) k = nI L → (∀ a, gAI S1 (G 371) a = gAI S (G 371) a) →
    (∀ i, i < i0 → gAI S1 (G 372) (12 * k + i) = gAI S (G 372) (12 * k + i)) → (∀ i, i0 ≤ i → i < j → gAI S1 (G 372) (12 * k + i) = gAI S (G 372) (12 * k + (i + 1))) → (∀ i, j ≤ i → gAI S1 (G 372) (12 * k + i) = gAI S (G 372) (12 * k + i)) → (∀ a i, a ≠ k → i < 12 → gAI S1 (G 372) (12 * a + i) = gAI S (G 372) (12 * a + i)) →
    T (L_X9_unuse_43 Λ.2.2 q S1 m p (nI j)) (fun r : Int32 × sSt => r.1 = nI L ∧ MI m G Λ Y r.2 ∧ (∀ a, gAI r.2 (G 371) a = gAI S (G 371) a) ∧ (∀ i, i < i0 → gAI r.2 (G 372) (12 * k + i) = gAI S (G 372) (12 * k + i)) ∧ (∀ i, i0 ≤ i → i < L → gAI r.2 (G 372) (12 * k + i) = gAI S (G 372) (12 * k + (i + 1))) ∧ ∀ a i, a ≠ k → i < 12 → gAI r.2 (G 372) (12 * a + i) = gAI S (G 372) (12 * a + i))
  | d, j, 0, _, _, _, h2, _, _, _, _, _, _, _ => absurd h2 (Nat.not_lt_zero d)
  | 0, j, q + 1, S1, h3, _, _, h1, eL, en, ea, eb, ec, eo => by
    have i1 := e_clamp ep (by omega)
    have eL' : gAI S1 (G 371) (Int32.toNatClampNeg p) = nI L := by rw [i1]; exact eL
    show T (Y_X9_unuse_43 Λ.2.2 (L_X9_unuse_43 Λ.2.2 q) S1 m p (nI j)) _
    unfold Y_X9_unuse_43
    refine T_m (h1.c.rf (f := 371) (by decide)) (T_bsome (T_gi (g_in (h1.c.l (f := 371) (kd := 10) (n := 16) (by decide)) ep (by omega) (by omega)) ?_))
    rw [eL', if_pos ((nI_leI (by omega) (by omega)).mpr (by omega))]
    refine T_m (h1.c.rf (f := 371) (by decide)) (T_bsome (T_gi (g_in (h1.c.l (f := 371) (kd := 10) (n := 16) (by decide)) ep (by omega) (by omega)) (T_some ⟨eL', h1, en, ea, fun i hi hi2 => eb i hi (by omega), eo⟩)))
  | d + 1, j, q + 1, S1, h3, hij, h4, h1, eL, en, ea, eb, ec, eo => by
    have i1 := e_clamp ep (by omega)
    have eL' : gAI S1 (G 371) (Int32.toNatClampNeg p) = nI L := by rw [i1]; exact eL
    have ei : (12 : Int32) * p + nI j = nI (12 * k + j) := e_add (e_mul k12 ep) rfl
    have ei1 : (12 : Int32) * p + nI j + 1 = nI (12 * k + j + 1) := e_add ei k1
    show T (Y_X9_unuse_43 Λ.2.2 (L_X9_unuse_43 Λ.2.2 q) S1 m p (nI j)) _
    unfold Y_X9_unuse_43
    refine T_m (h1.c.rf (f := 371) (by decide)) (T_bsome (T_gi (g_in (h1.c.l (f := 371) (kd := 10) (n := 16) (by decide)) ep (by omega) (by omega)) ?_))
    rw [eL', if_neg (fun z => absurd ((nI_leI (by omega) (by omega)).mp z) (by omega))]
    refine T_m (h1.c.rf (f := 372) (by decide)) (T_m (h1.c.rf (f := 372) (by decide)) (T_bsome (T_gi (g_in (h1.c.l (f := 372) (kd := 10) (n := 192) (by decide)) ei1 (by omega) (by omega)) (T_bsome (T_gi (g_in (h1.c.l (f := 372) (kd := 10) (n := 192) (by decide)) ei (by omega) (by omega)) ?_)))))
    refine T_st (fun S2 e2 => ?_)
    have h2 : MI m G Λ Y S2 := by rw [e2]; exact h1.wI (f := 372) (by decide) w372 (rg0 (P := fun B => nB B _) (by decide)) (rg0 (P := fun B => oB B _) (by decide))
    have n2 : ∀ a, gAI S2 (G 371) a = gAI S1 (G 371) a := fun a => by rw [e2, h1.c.oth (f := 371) (f' := 372) (by decide) (by decide) (by decide)]
    have c2 : ∀ a, gAI S2 (G 372) a = if a = 12 * k + j then gAI S1 (G 372) (12 * k + j + 1) else gAI S1 (G 372) a := fun a => by
      rw [e2, gAI_sAI, e_clamp ei (by omega), e_clamp ei1 (by omega)]
      by_cases ca : a = 12 * k + j
      · rw [if_pos ⟨rfl, ca⟩, if_pos ca]
      · rw [if_neg (fun z => ca z.2), if_neg ca]
    rw [n_a1]
    refine unuse_loop w372 hk ep hL d (j + 1) q S2 (by omega) (by omega) (by omega) h2 ((n2 k).trans eL) (fun a => (n2 a).trans (en a)) (fun i hi => ?_) (fun i hi hi2 => ?_) (fun i hi => ?_) (fun a i ha hi => ?_)
    · rw [c2, if_neg (by omega)]; exact ea i hi
    · rw [c2]
      by_cases ci : i = j
      · rw [if_pos (by rw [ci]), ci]
        exact ec (j + 1) (by omega)
      · rw [if_neg (by omega)]
        exact eb i hi (by omega)
    · rw [c2, if_neg (by omega)]; exact ec i (by omega)
    · rw [c2, if_neg (fun z => ha (wk_inj hi (by omega) z).1)]; exact eo a i ha hi
theorem unuse_r (hS : MC m G Λ S S) (hc : c ≤ 16) (ec : gFI S 361 m = nI c) (hF : RF G S c F) (hR : RL2 371 372 12 G S c F U) (p i : Int32) : T (F_X9_unuse Λ.2.2 S m p i) (fun r : Int32 × sSt => r.1 = (aUnuse c F U p i).1 ∧ MI m G Λ (S, S, nfz [360, 371, 372]) r.2 ∧ RL2 371 372 12 G r.2 c F (aUnuse c F U p i).2) := by
  unfold F_X9_unuse aUnuse
  refine T_st (fun S1 e1 => ?_)
  have h1 : MI m G Λ (S, S, nfz [360, 371, 372]) S1 := by rw [e1]; exact (hS.mi _).wF (f := 360) rfl (rg0 (P := fun B => nB B _) (by decide))
  have ec1 : gFI S1 361 m = nI c := by rw [e1, gFI_ne (by decide)]; exact ec
  have hF1 : RF G S1 c F := by rw [e1]; exact hF
  have hR1 : RL2 371 372 12 G S1 c F U := by rw [e1]; exact hR
  rw [isU_val h1.c hc ec1 (fun k hk => (hF1 k hk).1) p]
  refine T_bsome ?_
  cases e : uo c F.1 p with
  | none =>
    rw [if_pos (iU0.mpr rfl)]
    exact T_some ⟨rfl, h1, hR1⟩
  | some k =>
    obtain ⟨ep, hk, hT, -⟩ := uo_some e
    obtain ⟨r1, r2, r3⟩ := hR1 k hk hT
    have i1 := e_clamp ep (by omega)
    have en : gAI S1 (G 371) (Int32.toNatClampNeg p) = nI (U k).length := by rw [i1]; exact r1
    rw [if_neg (fun z => by have := iU0.mp z; cases this)]
    refine T_m (h1.c.rf (f := 371) (by decide)) (T_bsome (T_gi (g_in (h1.c.l (f := 371) (kd := 10) (n := 16) (by decide)) ep (by omega) (by omega)) ?_))
    rw [en, in_val]
    refine T_bsome ?_
    show T _ (fun r : Int32 × sSt => r.1 = (if i < 0 ∨ nI (U k).length ≤ i then (-1, U) else (nI ((U k).length - 1), up1 U k ((U k).eraseIdx i.toNatClampNeg)) : Int32 × aU).1 ∧ MI m G Λ (S, S, nfz [360, 371, 372]) r.2 ∧ RL2 371 372 12 G r.2 c F (if i < 0 ∨ nI (U k).length ≤ i then (-1, U) else (nI ((U k).length - 1), up1 U k ((U k).eraseIdx i.toNatClampNeg)) : Int32 × aU).2)
    have eqv : (i < 0 ∨ nI (U k).length - 1 < i) ↔ (i < 0 ∨ nI (U k).length ≤ i) := by
      by_cases c0 : i < 0
      · exact ⟨fun _ => Or.inl c0, fun _ => Or.inl c0⟩
      · obtain ⟨j, hj, rfl⟩ := nI_of c0
        have : (nI (U k).length - 1 < nI j) ↔ (nI (U k).length ≤ nI j) := by
          rw [nI_leI (by omega) hj]
          rcases Nat.eq_zero_or_pos (U k).length with h0 | h0
          · rw [h0, Int32.lt_iff_toInt_lt, nI_toInt hj]
            have e1 : ((nI 0 : Int32) - 1).toInt = -1 := rfl
            omega
          · rw [n_s1 h0, nI_ltI (by omega) hj]
            omega
        exact ⟨fun z => z.imp id this.mp, fun z => z.imp id this.mpr⟩
    by_cases c1 : i < 0 ∨ nI (U k).length ≤ i
    · rw [if_pos (eqv.mpr c1), if_pos rfl, if_pos c1]
      exact T_some ⟨rfl, h1, hR1⟩
    · rw [if_neg (fun z => c1 (eqv.mp z)), if_neg (by decide), if_neg c1]
      obtain ⟨j, hj, rfl⟩ := nI_of (fun z => c1 (Or.inl z))
      have hjl : j < (U k).length := Nat.lt_of_not_le (fun z => c1 (Or.inr ((nI_leI (by omega) hj).mpr z)))
      refine T_m (h1.c.rf (f := 371) (by decide)) (T_bsome (T_gi (g_in (h1.c.l (f := 371) (kd := 10) (n := 16) (by decide)) ep (by omega) (by omega)) (T_gi (g_in (h1.c.l (f := 371) (kd := 10) (n := 16) (by decide)) ep (by omega) (by omega)) ?_)))
      refine T_st (fun S10 e10 => ?_)
      have em : gAI S1 (G 371) (Int32.toNatClampNeg p) - 1 = nI ((U k).length - 1) := e_sub en k1 (by omega)
      have h10 : MI m G Λ (S, S, nfz [360, 371, 372]) S10 := by rw [e10]; exact h1.wI (f := 371) (by decide) rfl (rg1 (B := 12) (by decide) ⟨(U k).length - 1, by omega, em⟩) (rg0 (P := fun B => oB B _) (by decide))
      have n10 : ∀ a, gAI S10 (G 371) a = if a = k then nI ((U k).length - 1) else gAI S1 (G 371) a := fun a => by
        rw [e10, gAI_sAI, i1]
        by_cases ca : a = k
        · rw [if_pos ⟨rfl, ca⟩, if_pos ca]
          rw [i1] at em
          exact em
        · rw [if_neg (fun z => ca z.2), if_neg ca]
      have a10 : ∀ a, gAI S10 (G 372) a = gAI S1 (G 372) a := fun a => by rw [e10, h1.c.oth (f := 372) (f' := 371) (by decide) (by decide) (by decide)]
      refine T_mono (unuse_loop (S := S10) (Y := (S, S, nfz [360, 371, 372])) (i0 := j) (L := (U k).length - 1) rfl (by omega) ep (by omega) ((U k).length - 1 - j) j FU S10 (by omega) (Nat.le_refl j) (by have := FU_big; omega) h10 (by rw [n10, if_pos rfl]) (fun _ => rfl) (fun _ _ => rfl) (fun i hi hi2 => by omega) (fun _ _ => rfl) (fun _ _ _ _ => rfl)) (fun r hr => ?_)
      obtain ⟨q1, q2, q3, q4, q5, q6⟩ := hr
      refine ⟨q1, q2, ?_⟩
      rw [n_cl hj]
      exact RL2.drop hR1 hjl r2 (fun a => (q3 a).trans (n10 a)) (fun a ha => (q4 a ha).trans (a10 _)) (fun a ha ha2 => (q5 a ha (by omega)).trans (a10 _)) (fun a b ha hb => (q6 a b ha hb).trans (a10 _))
end
