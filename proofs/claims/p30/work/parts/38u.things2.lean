/-! The calls that change what units give: the class. -/
def fr5 (S S1 : sSt) (u tt a la ba : Nat) : Prop := (∀ z, z ≠ u → z ≠ tt → z ≠ a → z ≠ la → z ≠ ba → kpA S S1 z) ∧ S1.2.2.1 = S.2.2.1
section
variable {x m o us t c c2 : Nat} {R : List Nat} {G : Nat → Nat} {ρ ω : Nat → Nat} {Λ : sLay} {S S1 : sSt} {F : aF} {H : aH}
theorem PD.fz1 (h : PD x m o R G us t c c2 ρ ω Λ S) {f a b : Nat} (hf : f ∈ refF) (h40 : f ≠ 40) (h120 : f ≠ 120) (ha : a ∈ (own Λ R).1) (e : gFR S f a = some b) : isK (own Λ R) (rk f) b ∧ ρ b = f ∧ ω b = a := by
  have tl := h.2.2.2.2.2.2.1.1.1 f a ha b e
  obtain ⟨e1, e2⟩ := h.ro.1 f hf a b ha e
  exact ⟨tl, e1.trans (roL_o h40 h120), e2⟩
theorem PD.ftt (h : PD x m o R G us t c c2 ρ ω Λ S) {u tt : Nat} (hu : isK (own Λ R) 6 u) (e : gFR S 244 u = some tt) : isK (own Λ R) 13 tt ∧ ρ tt = 244 ∧ ω tt = u := h.fz1 (f := 244) (by decide) (by decide) (by decide) hu.1 e
theorem PD.fth (h : PD x m o R G us t c c2 ρ ω Λ S) {tt i a : Nat} (ht : isK (own Λ R) 13 tt) (e : gAR S tt i = some a) : isK (own Λ R) 5 a := by
  have z := h.2.2.2.2.2.2.1.1.2 tt i ht.1
  rw [ht.2] at z
  exact z a e
theorem PD.fbl (h : PD x m o R G us t c c2 ρ ω Λ S) {a l : Nat} (ha : isK (own Λ R) 5 a) (e : gFR S 201 a = some l) : isK (own Λ R) 1 l ∧ ρ l = 201 ∧ ω l = a := h.fz1 (f := 201) (by decide) (by decide) (by decide) ha.1 e
theorem PD.n3 (h : PD x m o R G us t c c2 ρ ω Λ S) {a l b : Nat} (ha : isK (own Λ R) 5 a) (hl : gFR S 201 a = some l) (hb : gFR S 40 l = some b) : Λ.2.2 b = 3 := by
  obtain ⟨tl, rl, -⟩ := h.fbl ha hl
  obtain ⟨tb, rb, -⟩ := h.fb tl hb
  exact h.ro.2 b tb.1 (1201, 3) (by decide) (by rw [rb, rl])
theorem PD.n10 (h : PD x m o R G us t c c2 ρ ω Λ S) {u tt : Nat} (hu : isK (own Λ R) 6 u) (e : gFR S 244 u = some tt) : Λ.2.2 tt = 10 := by
  obtain ⟨tk, rt, -⟩ := h.ftt hu e
  exact h.ro.2 tt tk.1 (244, 10) (by decide) rt
theorem nek {Λ : sLay} {q q' a b : Nat} (ha : isK Λ q a) (hb : isK Λ q' b) (h : q ≠ q') : a ≠ b := fun e => h (by rw [← ha.2, ← hb.2, e])
/-- the list of names of a thing -/
theorem PD.tl3 (h : PD x m o R G us t c c2 ρ ω Λ S) {a : Nat} (ha : isK (own Λ R) 5 a) : ∃ la ba, gFR S 201 a = some la ∧ gFR S 40 la = some ba ∧ isK (own Λ R) 1 la ∧ isK (own Λ R) 10 ba ∧ ω la = a ∧ ω ba = la ∧ Λ.2.2 ba = 3 := by
  obtain ⟨la, ea⟩ := h.2.2.2.2.2.2.1.2.1 201 (by decide) a ha id
  obtain ⟨tl, -, wl⟩ := h.fbl ha ea
  obtain ⟨ba, eb⟩ := h.2.2.2.2.2.2.1.2.1 40 (by decide) la tl id
  obtain ⟨tb, -, wb⟩ := h.fb tl eb
  exact ⟨la, ba, ea, eb, tl, tb, wl, wb, h.n3 ha ea eb⟩
theorem TC.fr (h : PD x m o R G us t c c2 ρ ω Λ S) {u tt a la ba b : Nat} {th : aT} (hu : isK (own Λ R) 6 u) (ht : isK (own Λ R) 13 tt) (ha : isK (own Λ R) 5 a) (hla : isK (own Λ R) 1 la) (wla : ω la = a) (hba : isK (own Λ R) 10 ba) (wba : ω ba = la) (hf : fr5 S S1 u tt a la ba) (hb : isK (own Λ R) 5 b) (hn : b ≠ a) (hT : TC Λ.2.2 S b th) : TC Λ.2.2 S1 b th := by
  obtain ⟨h1, h2, h3, l, d, hl, hL⟩ := hT
  obtain ⟨tl, -, wl⟩ := h.fbl hb hl
  obtain ⟨td, -, wd⟩ := h.fb tl hL.2.1
  have nl : l ≠ la := fun e => hn (by rw [← wl, ← wla, e])
  have nd : d ≠ ba := fun e => nl (by rw [← wd, ← wba, e])
  have kb := hf.1 b (nek hb hu (by decide)) (nek hb ht (by decide)) hn (nek hb hla (by decide)) (nek hb hba (by decide))
  have kl := hf.1 l (nek tl hu (by decide)) (nek tl ht (by decide)) (nek tl ha (by decide)) nl (nek tl hba (by decide))
  have kd := hf.1 d (nek td hu (by decide)) (nek td ht (by decide)) (nek td ha (by decide)) (nek td hla (by decide)) nd
  have eR : ∀ f z, gFR S1 f z = gFR S f z := fun f z => by
    unfold gFR
    rw [hf.2]
  exact ⟨(kb.1 202).trans h1, (kb.2.1 203).trans h2, (kb.1 204).trans h3, l, d, (eR 201 b).trans hl, hL.same (kl.1 41) (eR 40 l) kd.2.2.2.1⟩
/-- the things of one unit are other ones -/
theorem CT.put (h : PD x m o R G us t c c2 ρ ω Λ S) (hc : c ≤ 16) (hI : TI ω t S) (hH : CT Λ.2.2 S t c F H) {k u tt a la ba i0 : Nat} {l2 : List aT} (hk : k < c) (hu : gAR S t k = some u) (e244 : gFR S 244 u = some tt) (hga : gAR S tt i0 = some a) (hla : isK (own Λ R) 1 la) (wla : ω la = a) (hba : isK (own Λ R) 10 ba) (wba : ω ba = la) (hf : fr5 S S1 u tt a la ba) (ht : ∀ j, gAR S1 t j = gAR S t j) (hN : CT1 Λ.2.2 S1 u tt l2) : CT Λ.2.2 S1 t c F (up1 H k l2) := fun j hj hT => by
  by_cases cj : j = k
  · subst cj
    rw [up1_s]
    exact ⟨u, tt, (ht j).trans hu, hN⟩
  · rw [up1_n cj]
    obtain ⟨u2, tt2, hu2, g1, g2, g3, g4, g5⟩ := hH j hj hT
    have tu := h.un hu
    have tu2 := h.un hu2
    obtain ⟨tk, -, wt⟩ := h.ftt tu e244
    obtain ⟨tk2, -, wt2⟩ := h.ftt tu2 g1
    have ta := h.fth tk hga
    have nu : u2 ≠ u := fun e => cj (h.inj (by omega) (by omega) hu2 (by rw [e]; exact hu))
    have nt : tt2 ≠ tt := fun e => nu (by rw [← wt2, ← wt, e])
    have ku := hf.1 u2 nu (nek tu2 tk (by decide)) (nek tu2 ta (by decide)) (nek tu2 hla (by decide)) (nek tu2 hba (by decide))
    have kt := hf.1 tt2 (nek tk2 tu (by decide)) nt (nek tk2 ta (by decide)) (nek tk2 hla (by decide)) (nek tk2 hba (by decide))
    refine ⟨u2, tt2, (ht j).trans hu2, (ku.2.2.1 244).trans g1, (ku.1 245).trans g2, g3, g4, fun i th hi => ?_⟩
    obtain ⟨b, hb, hTC⟩ := g5 i th hi
    have tb := h.fth tk2 hb
    have nb : b ≠ a := fun e => nt (by
      have e1 := ((hI j u2 tt2 (by omega) hu2 g1).1 i b hb).1
      have e2 := ((hI k u tt (by omega) hu e244).1 i0 a hga).1
      rw [← e1, ← e2, e])
    exact ⟨b, (kt.2.2.2.2.2 i).trans hb, hTC.fr h tu tk ta hla wla hba wba hf tb nb⟩
/-- rows of things that are kept -/
theorem TI.kp (hI : TI ω t S) (ht : ∀ j, gAR S1 t j = gAR S t j) (eR : S1.2.2.1 = S.2.2.1) (ea : ∀ k u tt i, k < 16 → gAR S t k = some u → gFR S 244 u = some tt → gAR S1 tt i = gAR S tt i) (e0 : ∀ a, gFI S1 200 a = gFI S 200 a) (e1 : ∀ a, gFI S1 240 a = gFI S 240 a) : TI ω t S1 := fun k u tt hk hu e => by
  rw [ht] at hu
  have e' : gFR S 244 u = some tt := by
    unfold gFR at e ⊢
    rw [← eR]
    exact e
  obtain ⟨g1, g2⟩ := hI k u tt hk hu e'
  refine ⟨fun i b hb => ?_, fun i j b hb hb2 => ?_⟩
  · rw [ea k u tt i hk hu e'] at hb
    obtain ⟨y1, y2⟩ := g1 i b hb
    exact ⟨y1, by rw [e0, e1]; exact y2⟩
  · rw [ea k u tt i hk hu e'] at hb
    rw [ea k u tt j hk hu e'] at hb2
    exact g2 i j b hb hb2
/-- a row of things is in another order -/
theorem TI.put (h : PD x m o R G us t c c2 ρ ω Λ S) (hI : TI ω t S) {k u tt : Nat} (hk : k < 16) (hu : gAR S t k = some u) (e244 : gFR S 244 u = some tt) (ht : ∀ j, gAR S1 t j = gAR S t j) (eR : S1.2.2.1 = S.2.2.1) (ea : ∀ a i, a ≠ tt → isK (own Λ R) 13 a → gAR S1 a i = gAR S a i) (e0 : ∀ a, gFI S1 200 a = gFI S 200 a) (e1 : ∀ a, gFI S1 240 a = gFI S 240 a) (hp : ∀ i b, gAR S1 tt i = some b → ∃ j, gAR S tt j = some b) (hq : ∀ i j b, gAR S1 tt i = some b → gAR S1 tt j = some b → i = j) : TI ω t S1 := fun k2 u2 tt2 hk2 hu2 e => by
  rw [ht] at hu2
  have e' : gFR S 244 u2 = some tt2 := by
    unfold gFR at e ⊢
    rw [← eR]
    exact e
  obtain ⟨g1, g2⟩ := hI k2 u2 tt2 hk2 hu2 e'
  have tu2 := h.un hu2
  obtain ⟨tk2, -, wt2⟩ := h.ftt tu2 e'
  by_cases ct : tt2 = tt
  · subst ct
    refine ⟨fun i b hb => ?_, fun i j b hb hb2 => hq i j b hb hb2⟩
    obtain ⟨j, hj⟩ := hp i b hb
    obtain ⟨y1, y2⟩ := g1 j b hj
    exact ⟨y1, by rw [e0, e1]; exact y2⟩
  · refine ⟨fun i b hb => ?_, fun i j b hb hb2 => ?_⟩
    · rw [ea tt2 i ct tk2] at hb
      obtain ⟨y1, y2⟩ := g1 i b hb
      exact ⟨y1, by rw [e0, e1]; exact y2⟩
    · rw [ea tt2 i ct tk2] at hb
      rw [ea tt2 j ct tk2] at hb2
      exact g2 i j b hb hb2
end
/-- thing i is another one -/
def md1 (l : List aT) (i : Nat) (th : aT) : List aT := l.set i th
def aGive (c : Nat) (F : aF) (H : aH) (p s n : Int32) (d : Int64) (q : Int32) : Int32 × aH := match uo c F.1 p with
  | none => (-1, H)
  | some k => if s < 0 ∨ (3 : Int32) ≤ s then (-2, H) else if n < 0 ∨ (32 : Int32) ≤ n then (-2, H) else match tIx (s * 32 + n) (H k) 0 with
    | some i => (0, up1 H k ((H k).set i (s * 32 + n, d, q, ((H k)[i]?.getD (0, 0, 0, [])).2.2.2)))
    | none => if (H k).length < 10 then (1, up1 H k (ins (H k) (insP (s * 32 + n) (H k) (H k).length) (s * 32 + n, d, q, []))) else (-4, H)
def aTake (c : Nat) (F : aF) (H : aH) (p s n : Int32) : Int32 × aH := match uo c F.1 p with
  | none => (-1, H)
  | some k => if s < 0 ∨ (3 : Int32) ≤ s then (-2, H) else if n < 0 ∨ (32 : Int32) ≤ n then (-2, H) else match tIx (s * 32 + n) (H k) 0 with
    | some i => (1, up1 H k ((H k).eraseIdx i))
    | none => (-1, H)
def aBuild (c : Nat) (F : aF) (H : aH) (p n d : Int32) : Int32 × aH := match uo c F.1 p with
  | none => (-1, H)
  | some k => if n < 0 ∨ (32 : Int32) ≤ n then (-2, H) else if d < 0 ∨ (32 : Int32) ≤ d then (-2, H) else match tIx (32 + n) (H k) 0 with
    | none => (-3, H)
    | some i => match (H k)[i]? with
      | none => (-3, H)
      | some th => if th.2.2.2.length < 3 then (nI (th.2.2.2.length + 1), up1 H k ((H k).set i (th.1, th.2.1, th.2.2.1, th.2.2.2 ++ [d]))) else (-4, H)
section
variable {x m o us t c c2 : Nat} {R : List Nat} {G : Nat → Nat} {ρ ω : Nat → Nat} {Λ : sLay} {S S1 : sSt} {F : aF} {H : aH}
theorem get_getD {l : List aT} {i : Nat} {th : aT} (h : l[i]? = some th) : l[i]?.getD (0, 0, 0, []) = th := by rw [h]; rfl
/-- all that is told of a unit -/
theorem PD.uall (h : PD x m o R G us t c c2 ρ ω Λ S) (hH : CT Λ.2.2 S t c F H) {k u : Nat} (hk : k < c) (hT : F.1 k = true) (hu : gAR S t k = some u) : ∃ tt, CT1 Λ.2.2 S u tt (H k) ∧ isK (own Λ R) 6 u ∧ isK (own Λ R) 13 tt := by
  obtain ⟨u2, tt, hu2, g⟩ := hH k hk hT
  rw [hu] at hu2
  cases hu2
  have tu := h.un hu
  exact ⟨tt, g, tu, (h.ftt tu g.1).1⟩
theorem give_c (h : PD x m o R G us t c c2 ρ ω Λ S) (hc : c ≤ 16) (hF : CF S t c F) (hI : TI ω t S) (hH : CT Λ.2.2 S t c F H) (p s n : Int32) (d : Int64) (q : Int32) : Pa (F_X8_give Λ.2.2 S x p s n d q) (fun r : Int32 × sSt => r.1 = (aGive c F H p s n d q).1 ∧ CT Λ.2.2 r.2 t c F (aGive c F H p s n d q).2 ∧ TI ω t r.2) := by
  have h320 := h.2.2.2.2.2.2.2.2.1
  unfold F_X8_give aGive
  refine Pa_r h320 ?_
  cases e : uo c F.1 p with
  | none => exact Pa_be (at_none h hc hF e) (Pa_on rfl (Pa_some ⟨rfl, hH, hI⟩))
  | some k =>
    obtain ⟨u, hu, ea, -⟩ := at_some h hc hF e
    obtain ⟨ep, hk, hT, -⟩ := uo_some e
    refine Pa_be ea (Pa_oS rfl (Pa_be isB_val ?_))
    show Pa _ (fun r : Int32 × sSt => r.1 = (if s < 0 ∨ (3 : Int32) ≤ s then (-2, H) else if n < 0 ∨ (32 : Int32) ≤ n then (-2, H) else match tIx (s * 32 + n) (H k) 0 with
      | some i => (0, up1 H k ((H k).set i (s * 32 + n, d, q, ((H k)[i]?.getD (0, 0, 0, [])).2.2.2)))
      | none => if (H k).length < 10 then (1, up1 H k (ins (H k) (insP (s * 32 + n) (H k) (H k).length) (s * 32 + n, d, q, []))) else (-4, H) : Int32 × aH).1 ∧ CT Λ.2.2 r.2 t c F (if s < 0 ∨ (3 : Int32) ≤ s then (-2, H) else if n < 0 ∨ (32 : Int32) ≤ n then (-2, H) else match tIx (s * 32 + n) (H k) 0 with
      | some i => (0, up1 H k ((H k).set i (s * 32 + n, d, q, ((H k)[i]?.getD (0, 0, 0, [])).2.2.2)))
      | none => if (H k).length < 10 then (1, up1 H k (ins (H k) (insP (s * 32 + n) (H k) (H k).length) (s * 32 + n, d, q, []))) else (-4, H) : Int32 × aH).2 ∧ TI ω t r.2)
    by_cases c1 : s < 0 ∨ (3 : Int32) ≤ s
    · rw [if_pos c1, if_pos c1]
      exact Pa_it rfl (Pa_some ⟨rfl, hH, hI⟩)
    rw [if_neg c1, if_neg c1]
    refine Pa_if (by decide) (Pa_be isB_val ?_)
    by_cases c3 : n < 0 ∨ (32 : Int32) ≤ n
    · rw [if_pos c3, if_pos c3]
      exact Pa_it rfl (Pa_some ⟨rfl, hH, hI⟩)
    rw [if_neg c3, if_neg c3]
    refine Pa_if (by decide) (Pa_bs ?_)
    obtain ⟨tt, g, tu, tk⟩ := h.uall hH hk hT hu
    refine Pa_bind (tf_val g (s * 32 + n)) (fun v _ hv => ?_)
    subst hv
    cases ei : tIx (s * 32 + n) (H k) 0 with
    | some i =>
      obtain ⟨hil, th, hth, hkey⟩ := tIx_0 ei
      obtain ⟨a, hga, hTC⟩ := g.2.2.2.2 i th hth
      have ta := h.fth tk hga
      obtain ⟨la, ba, e201, e40, tla, tba, wla, wba, n3⟩ := h.tl3 ta
      refine Pa_oS (a := a) hga ?_
      unfold B_X8_give_70
      refine Pa_oS rfl (Pa_b (Pa_gb (Pa_b (Pa_oS rfl (Pa_some ⟨rfl, ?_, ?_⟩)))))
      · have hf : fr5 S (sFI (sFJ S 203 a d) 204 a q) u tt a la ba := ⟨fun z _ _ hz _ _ => (kpA.sFJ hz).tr (kpA.sFI hz), rfl⟩
        refine CT.put h hc hI hH hk hu g.1 hga tla wla tba wba hf (fun _ => rfl) ⟨g.1, ?_, ?_, g.2.2.2.1, fun j th2 hj => ?_⟩
        · rw [gFI_sFI, if_neg (fun z => absurd z.1 (by decide)), List.length_set]
          exact g.2.1
        · rw [List.length_set]; exact g.2.2.1
        · rw [List.getElem?_set] at hj
          by_cases cj : i = j
          · rw [if_pos cj, if_pos hil] at hj
            cases hj
            subst cj
            rw [get_getD hth]
            obtain ⟨y1, y2, y3, l, b, y4, y5⟩ := hTC
            refine ⟨a, hga, ?_, ?_, ?_, l, b, y4, y5.same ?_ rfl (fun _ => rfl)⟩
            · rw [gFI_sFI, if_neg (fun z => absurd z.1 (by decide)), gFI_sFJ, y1, hkey]
            · rw [gFJ_sFI, gFJ_sFJ, if_pos ⟨rfl, rfl⟩]
            · rw [gFI_sFI, if_pos ⟨rfl, rfl⟩]
            · rw [gFI_sFI, if_neg (fun z => absurd z.1 (by decide)), gFI_sFJ]
          · rw [if_neg cj] at hj
            obtain ⟨b, hb, hTC2⟩ := g.2.2.2.2 j th2 hj
            have nb : b ≠ a := fun e => cj ((hI k u tt (by omega) hu g.1).2 i j a hga (by rw [← e]; exact hb))
            exact ⟨b, hb, hTC2.fr h tu tk ta tla wla tba wba hf (h.fth tk hb) nb⟩
      · exact hI.kp (fun _ => rfl) rfl (fun _ _ _ _ _ _ _ => rfl) (fun a => by rw [gFI_sFI, if_neg (fun z => absurd z.1 (by decide)), gFI_sFJ]) (fun a => by rw [gFI_sFI, if_neg (fun z => absurd z.1 (by decide)), gFI_sFJ])
    | none =>
      refine Pa_on rfl ?_
      show Pa _ (fun r : Int32 × sSt => r.1 = (if (H k).length < 10 then (1, up1 H k (ins (H k) (insP (s * 32 + n) (H k) (H k).length) (s * 32 + n, d, q, []))) else (-4, H) : Int32 × aH).1 ∧ CT Λ.2.2 r.2 t c F (if (H k).length < 10 then (1, up1 H k (ins (H k) (insP (s * 32 + n) (H k) (H k).length) (s * 32 + n, d, q, []))) else (-4, H) : Int32 × aH).2 ∧ TI ω t r.2)
      by_cases c4 : (H k).length < 10
      · rw [if_pos c4]
        obtain ⟨a, hga⟩ := h.2.2.2.2.2.2.1.2.2.2 u tt (H k).length tu id g.1 (by show _ < Λ.2.2 tt; rw [g.2.2.2.1]; exact c4)
        have ta := h.fth tk hga
        obtain ⟨la, ba, e201, e40, tla, tba, wla, wba, n3⟩ := h.tl3 ta
        refine Pa_obd (ad_val g c4 hga e201 (s * 32 + n)) (fun v S1 _ hv => ?_)
        cases hv
        unfold B_X8_give_70
        refine Pa_oS rfl (Pa_b (Pa_gb (Pa_b (Pa_on rfl (Pa_some ⟨rfl, ?_, ?_⟩)))))
        · have tkt := h.kt
          have ntt : t ≠ tt := nek tkt tk (by decide)
          have hip := insP_le (key := s * 32 + n) (l := H k) (H k).length
          have hf : fr5 S (sFI (sFJ (sFI (sFI (sFI (wR S tt (shF (gAR S tt) (insP (s * 32 + n) (H k) (H k).length) (H k).length a)) 245 u (gFI S 245 u + 1)) 202 a (s * 32 + n)) 41 la 0) 203 a d) 204 a q) u tt a la ba := by
            refine ⟨fun z h1 h2 h3 h4 h5 => ?_, rfl⟩
            have k0 : kpA S (wR S tt (shF (gAR S tt) (insP (s * 32 + n) (H k) (H k).length) (H k).length a)) z := ⟨fun _ => rfl, fun _ => rfl, fun _ => rfl, fun _ => rfl, fun _ => rfl, fun i => by rw [gAR_wR, if_neg h2]⟩
            exact k0.tr ((kpA.sFI h1).tr ((kpA.sFI h3).tr ((kpA.sFI h4).tr ((kpA.sFJ h3).tr (kpA.sFI h3)))))
          refine CT.put h hc hI hH hk hu g.1 hga tla wla tba wba hf (fun j => by show gAR (wR S tt _) t j = _; rw [gAR_wR, if_neg ntt]) ⟨g.1, ?_, ?_, g.2.2.2.1, fun j th2 hj => ?_⟩
          · rw [ins_len hip, gFI_sFI, if_neg (fun z => absurd z.1 (by decide)), gFI_sFJ, gFI_sFI, if_neg (fun z => absurd z.1 (by decide)), gFI_sFI, if_neg (fun z => absurd z.1 (by decide)), gFI_sFI, if_pos ⟨rfl, rfl⟩, g.2.1, n_a1]
          · rw [ins_len hip]; omega
          · rw [ins_get hip] at hj
            show ∃ a', gAR (wR S tt (shF (gAR S tt) (insP (s * 32 + n) (H k) (H k).length) (H k).length a)) tt j = some a' ∧ _
            rw [gAR_wRs]
            have other : ∀ i, (H k)[i]? = some th2 → ∃ a', gAR S tt i = some a' ∧ TC Λ.2.2 (sFI (sFJ (sFI (sFI (sFI (wR S tt (shF (gAR S tt) (insP (s * 32 + n) (H k) (H k).length) (H k).length a)) 245 u (gFI S 245 u + 1)) 202 a (s * 32 + n)) 41 la 0) 203 a d) 204 a q) a' th2 := fun i hi => by
              obtain ⟨b, hb, hTC2⟩ := g.2.2.2.2 i th2 hi
              have hil := (List.getElem?_eq_some_iff.mp hi).1
              have nb : b ≠ a := fun e => by
                have := (hI k u tt (by omega) hu g.1).2 i (H k).length a (by rw [← e]; exact hb) hga
                omega
              exact ⟨b, hb, hTC2.fr h tu tk ta tla wla tba wba hf (h.fth tk hb) nb⟩
            unfold shF
            by_cases c5 : j < insP (s * 32 + n) (H k) (H k).length
            · rw [if_pos c5] at hj
              rw [if_neg (by omega), if_neg (by omega)]
              exact other j hj
            · rw [if_neg c5] at hj
              by_cases c6 : j = insP (s * 32 + n) (H k) (H k).length
              · rw [if_pos c6] at hj
                cases hj
                rw [if_pos c6]
                refine ⟨a, rfl, ?_, ?_, ?_, la, ba, e201, ?_, e40, Nat.zero_le _, by rw [n3]; omega, fun i v hv => by cases hv⟩
                · rw [gFI_sFI, if_neg (fun z => absurd z.1 (by decide)), gFI_sFJ, gFI_sFI, if_neg (fun z => absurd z.1 (by decide)), gFI_sFI, if_pos ⟨rfl, rfl⟩]
                · rw [gFJ_sFI, gFJ_sFJ, if_pos ⟨rfl, rfl⟩]
                · rw [gFI_sFI, if_pos ⟨rfl, rfl⟩]
                · rw [gFI_sFI, if_neg (fun z => absurd z.1 (by decide)), gFI_sFJ, gFI_sFI, if_pos ⟨rfl, rfl⟩]
                  rfl
              · rw [if_neg c6] at hj
                have hil := (List.getElem?_eq_some_iff.mp hj).1
                rw [if_neg c6, if_pos (by omega)]
                exact other (j - 1) hj
        · have hip := insP_le (key := s * 32 + n) (l := H k) (H k).length
          have tkt := h.kt
          have ntt : t ≠ tt := nek tkt tk (by decide)
          have hinj := (hI k u tt (by omega) hu g.1).2
          refine TI.put (k := k) (u := u) (tt := tt) h hI (by omega) hu g.1 (fun j => by show gAR (wR S tt _) t j = _; rw [gAR_wR, if_neg ntt]) rfl (fun a' i hne _ => by show gAR (wR S tt _) a' i = _; rw [gAR_wR, if_neg hne]) (fun a' => ?_) (fun a' => ?_) (fun i b hb => ?_) (fun i j b hb hb2 => ?_)
          · rw [gFI_sFI, if_neg (fun z => absurd z.1 (by decide)), gFI_sFJ, gFI_sFI, if_neg (fun z => absurd z.1 (by decide)), gFI_sFI, if_neg (fun z => absurd z.1 (by decide)), gFI_sFI, if_neg (fun z => absurd z.1 (by decide))]
            rfl
          · rw [gFI_sFI, if_neg (fun z => absurd z.1 (by decide)), gFI_sFJ, gFI_sFI, if_neg (fun z => absurd z.1 (by decide)), gFI_sFI, if_neg (fun z => absurd z.1 (by decide)), gFI_sFI, if_neg (fun z => absurd z.1 (by decide))]
            rfl
          · have hb' : shF (gAR S tt) (insP (s * 32 + n) (H k) (H k).length) (H k).length a i = some b := by
              rw [← gAR_wRs (S := S) (tt := tt) (f := shF (gAR S tt) (insP (s * 32 + n) (H k) (H k).length) (H k).length a)]
              exact hb
            unfold shF at hb'
            by_cases c5 : i = insP (s * 32 + n) (H k) (H k).length
            · rw [if_pos c5] at hb'
              exact ⟨_, hga.trans hb'⟩
            · rw [if_neg c5] at hb'
              by_cases c6 : insP (s * 32 + n) (H k) (H k).length < i ∧ i ≤ (H k).length
              · rw [if_pos c6] at hb'
                exact ⟨_, hb'⟩
              · rw [if_neg c6] at hb'
                exact ⟨_, hb'⟩
          · have cv : ∀ i, shF (gAR S tt) (insP (s * 32 + n) (H k) (H k).length) (H k).length a i = gAR S tt (if i = insP (s * 32 + n) (H k) (H k).length then (H k).length else if insP (s * 32 + n) (H k) (H k).length < i ∧ i ≤ (H k).length then i - 1 else i) := fun i => by
              unfold shF
              by_cases c5 : i = insP (s * 32 + n) (H k) (H k).length
              · rw [if_pos c5, if_pos c5]
                exact hga.symm
              · rw [if_neg c5, if_neg c5]
                by_cases c6 : insP (s * 32 + n) (H k) (H k).length < i ∧ i ≤ (H k).length
                · rw [if_pos c6, if_pos c6]
                · rw [if_neg c6, if_neg c6]
            have hb' : shF (gAR S tt) (insP (s * 32 + n) (H k) (H k).length) (H k).length a i = some b := by
              rw [← gAR_wRs (S := S) (tt := tt) (f := shF (gAR S tt) (insP (s * 32 + n) (H k) (H k).length) (H k).length a)]
              exact hb
            have hb2' : shF (gAR S tt) (insP (s * 32 + n) (H k) (H k).length) (H k).length a j = some b := by
              rw [← gAR_wRs (S := S) (tt := tt) (f := shF (gAR S tt) (insP (s * 32 + n) (H k) (H k).length) (H k).length a)]
              exact hb2
            rw [cv] at hb' hb2'
            have := hinj _ _ b hb' hb2'
            split at this <;> split at this <;> (try split at this) <;> (try split at this) <;> omega
      · rw [if_neg c4]
        refine Pa_obd (ad_full g c4 (s * 32 + n)) (fun v S1 _ hv => ?_)
        cases hv
        exact Pa_on rfl (Pa_some ⟨rfl, hH, hI⟩)
theorem take_c (h : PD x m o R G us t c c2 ρ ω Λ S) (hc : c ≤ 16) (hF : CF S t c F) (hI : TI ω t S) (hH : CT Λ.2.2 S t c F H) (p s n : Int32) : Pa (F_X8_take Λ.2.2 S x p s n) (fun r : Int32 × sSt => r.1 = (aTake c F H p s n).1 ∧ CT Λ.2.2 r.2 t c F (aTake c F H p s n).2 ∧ TI ω t r.2) := by
  have h320 := h.2.2.2.2.2.2.2.2.1
  unfold F_X8_take aTake
  refine Pa_r h320 ?_
  cases e : uo c F.1 p with
  | none => exact Pa_be (at_none h hc hF e) (Pa_on rfl (Pa_some ⟨rfl, hH, hI⟩))
  | some k =>
    obtain ⟨u, hu, ea, -⟩ := at_some h hc hF e
    obtain ⟨ep, hk, hT, -⟩ := uo_some e
    refine Pa_be ea (Pa_oS rfl (Pa_be isB_val ?_))
    show Pa _ (fun r : Int32 × sSt => r.1 = (if s < 0 ∨ (3 : Int32) ≤ s then (-2, H) else if n < 0 ∨ (32 : Int32) ≤ n then (-2, H) else match tIx (s * 32 + n) (H k) 0 with
      | some i => (1, up1 H k ((H k).eraseIdx i))
      | none => (-1, H) : Int32 × aH).1 ∧ CT Λ.2.2 r.2 t c F (if s < 0 ∨ (3 : Int32) ≤ s then (-2, H) else if n < 0 ∨ (32 : Int32) ≤ n then (-2, H) else match tIx (s * 32 + n) (H k) 0 with
      | some i => (1, up1 H k ((H k).eraseIdx i))
      | none => (-1, H) : Int32 × aH).2 ∧ TI ω t r.2)
    by_cases c1 : s < 0 ∨ (3 : Int32) ≤ s
    · rw [if_pos c1, if_pos c1]
      exact Pa_it rfl (Pa_some ⟨rfl, hH, hI⟩)
    rw [if_neg c1, if_neg c1]
    refine Pa_if (by decide) (Pa_be isB_val ?_)
    by_cases c3 : n < 0 ∨ (32 : Int32) ≤ n
    · rw [if_pos c3, if_pos c3]
      exact Pa_it rfl (Pa_some ⟨rfl, hH, hI⟩)
    rw [if_neg c3, if_neg c3]
    refine Pa_if (by decide) (Pa_bs ?_)
    obtain ⟨tt, g, tu, tk⟩ := h.uall hH hk hT hu
    unfold F_X6_dropThing
    cases ei : tIx (s * 32 + n) (H k) 0 with
    | none =>
      refine Pa_obd (Q := fun r => r = (0, S)) (Pa_bind (tf_val g (s * 32 + n)) (fun v _ hv => ?_)) (fun v S1 _ hv => ?_)
      · rw [hv, ei]
        exact Pa_on rfl (Pa_some rfl)
      · cases hv
        exact Pa_it rfl (Pa_some ⟨rfl, hH, hI⟩)
    | some i =>
      obtain ⟨hil, th, hth, hkey⟩ := tIx_0 ei
      obtain ⟨a, hga, hTC⟩ := g.2.2.2.2 i th hth
      have ta := h.fth tk hga
      have hinj := (hI k u tt (by omega) hu g.1).2
      obtain ⟨la, ba, e201, e40, tla, tba, wla, wba, n3⟩ := h.tl3 ta
      refine Pa_obd (Q := fun r => r = (1, sFI (wR S tt (drF (gAR S tt) i (H k).length)) 245 u (nI ((H k).length - 1)))) (Pa_bind (tf_val g (s * 32 + n)) (fun v _ hv => ?_)) (fun v S1 _ hv => ?_)
      · rw [hv, ei]
        exact Pa_oS (a := a) hga (dr_val g hil hga (fun j hj => hinj j i a hj hga))
      · cases hv
        refine Pa_if (by decide) (Pa_some ⟨rfl, ?_, ?_⟩)
        · have tkt := h.kt
          have ntt : t ≠ tt := nek tkt tk (by decide)
          have hf : fr5 S (sFI (wR S tt (drF (gAR S tt) i (H k).length)) 245 u (nI ((H k).length - 1))) u tt a la ba := by
            refine ⟨fun z h1 h2 h3 h4 h5 => ?_, rfl⟩
            have k0 : kpA S (wR S tt (drF (gAR S tt) i (H k).length)) z := ⟨fun _ => rfl, fun _ => rfl, fun _ => rfl, fun _ => rfl, fun _ => rfl, fun i => by rw [gAR_wR, if_neg h2]⟩
            exact k0.tr (kpA.sFI h1)
          refine CT.put h hc hI hH hk hu g.1 hga tla wla tba wba hf (fun j => by show gAR (wR S tt _) t j = _; rw [gAR_wR, if_neg ntt]) ⟨g.1, ?_, ?_, g.2.2.2.1, fun j th2 hj => ?_⟩
          · rw [gFI_sFI, if_pos ⟨rfl, rfl⟩, List.length_eraseIdx, if_pos hil]
          · rw [List.length_eraseIdx, if_pos hil]
            have := g.2.2.1
            omega
          · show ∃ a', gAR (wR S tt (drF (gAR S tt) i (H k).length)) tt j = some a' ∧ _
            rw [gAR_wRs]
            have hjl := (List.getElem?_eq_some_iff.mp hj).1
            rw [List.length_eraseIdx, if_pos hil] at hjl
            rw [List.getElem?_eraseIdx] at hj
            have other : ∀ i', (H k)[i']? = some th2 → ∃ a', gAR S tt i' = some a' ∧ TC Λ.2.2 (sFI (wR S tt (drF (gAR S tt) i (H k).length)) 245 u (nI ((H k).length - 1))) a' th2 := fun i' hi => by
              obtain ⟨b, hb, y1, y2, y3, l, d, y4, y5⟩ := g.2.2.2.2 i' th2 hi
              refine ⟨b, hb, ?_, y2, ?_, l, d, y4, y5.same ?_ rfl (fun _ => rfl)⟩
              · rw [gFI_sFI, if_neg (fun z => absurd z.1 (by decide))]; exact y1
              · rw [gFI_sFI, if_neg (fun z => absurd z.1 (by decide))]; exact y3
              · rw [gFI_sFI, if_neg (fun z => absurd z.1 (by decide))]; rfl
            unfold drF
            by_cases c5 : j < i
            · rw [if_pos c5] at hj
              rw [if_pos c5]
              exact other j hj
            · rw [if_neg c5] at hj
              rw [if_neg c5, if_pos (by omega)]
              exact other (j + 1) hj
        · have tkt := h.kt
          have ntt : t ≠ tt := nek tkt tk (by decide)
          have cv : ∀ j, drF (gAR S tt) i (H k).length j = gAR S tt (if j < i then j else if j + 1 < (H k).length then j + 1 else if j + 1 = (H k).length then i else j) := fun j => by
            unfold drF
            by_cases c5 : j < i
            · rw [if_pos c5, if_pos c5]
            · rw [if_neg c5, if_neg c5]
              by_cases c6 : j + 1 < (H k).length
              · rw [if_pos c6, if_pos c6]
              · rw [if_neg c6, if_neg c6]
                by_cases c7 : j + 1 = (H k).length
                · rw [if_pos c7, if_pos c7]
                · rw [if_neg c7, if_neg c7]
          refine TI.put (k := k) (u := u) (tt := tt) h hI (by omega) hu g.1 (fun j => by show gAR (wR S tt _) t j = _; rw [gAR_wR, if_neg ntt]) rfl (fun a' i hne _ => by show gAR (wR S tt _) a' i = _; rw [gAR_wR, if_neg hne]) (fun a' => ?_) (fun a' => ?_) (fun j b hb => ?_) (fun j1 j2 b hb hb2 => ?_)
          · rw [gFI_sFI, if_neg (fun z => absurd z.1 (by decide))]; rfl
          · rw [gFI_sFI, if_neg (fun z => absurd z.1 (by decide))]; rfl
          · have hb' : drF (gAR S tt) i (H k).length j = some b := by
              rw [← gAR_wRs (S := S) (tt := tt) (f := drF (gAR S tt) i (H k).length)]
              exact hb
            rw [cv] at hb'
            exact ⟨_, hb'⟩
          · have hb' : drF (gAR S tt) i (H k).length j1 = some b := by
              rw [← gAR_wRs (S := S) (tt := tt) (f := drF (gAR S tt) i (H k).length)]
              exact hb
            have hb2' : drF (gAR S tt) i (H k).length j2 = some b := by
              rw [← gAR_wRs (S := S) (tt := tt) (f := drF (gAR S tt) i (H k).length)]
              exact hb2
            rw [cv] at hb' hb2'
            have := hinj _ _ b hb' hb2'
            split at this <;> split at this <;> (try split at this) <;> (try split at this) <;> (try split at this) <;> (try split at this) <;> omega
theorem build_c (h : PD x m o R G us t c c2 ρ ω Λ S) (hc : c ≤ 16) (hF : CF S t c F) (hI : TI ω t S) (hH : CT Λ.2.2 S t c F H) (p n d : Int32) : Pa (F_X8_build Λ.2.2 S x p n d) (fun r : Int32 × sSt => r.1 = (aBuild c F H p n d).1 ∧ CT Λ.2.2 r.2 t c F (aBuild c F H p n d).2 ∧ TI ω t r.2) := by
  have h320 := h.2.2.2.2.2.2.2.2.1
  unfold F_X8_build aBuild
  refine Pa_r h320 ?_
  cases e : uo c F.1 p with
  | none => exact Pa_be (at_none h hc hF e) (Pa_on rfl (Pa_some ⟨rfl, hH, hI⟩))
  | some k =>
    obtain ⟨u, hu, ea, -⟩ := at_some h hc hF e
    obtain ⟨ep, hk, hT, -⟩ := uo_some e
    refine Pa_be ea (Pa_oS rfl (Pa_be isB_val ?_))
    show Pa _ (fun r : Int32 × sSt => r.1 = (if n < 0 ∨ (32 : Int32) ≤ n then (-2, H) else if d < 0 ∨ (32 : Int32) ≤ d then (-2, H) else match tIx (32 + n) (H k) 0 with
      | none => (-3, H)
      | some i => match (H k)[i]? with
        | none => (-3, H)
        | some th => if th.2.2.2.length < 3 then (nI (th.2.2.2.length + 1), up1 H k ((H k).set i (th.1, th.2.1, th.2.2.1, th.2.2.2 ++ [d]))) else (-4, H) : Int32 × aH).1 ∧ CT Λ.2.2 r.2 t c F (if n < 0 ∨ (32 : Int32) ≤ n then (-2, H) else if d < 0 ∨ (32 : Int32) ≤ d then (-2, H) else match tIx (32 + n) (H k) 0 with
      | none => (-3, H)
      | some i => match (H k)[i]? with
        | none => (-3, H)
        | some th => if th.2.2.2.length < 3 then (nI (th.2.2.2.length + 1), up1 H k ((H k).set i (th.1, th.2.1, th.2.2.1, th.2.2.2 ++ [d]))) else (-4, H) : Int32 × aH).2 ∧ TI ω t r.2)
    by_cases c1 : n < 0 ∨ (32 : Int32) ≤ n
    · rw [if_pos c1, if_pos c1]
      exact Pa_it rfl (Pa_some ⟨rfl, hH, hI⟩)
    rw [if_neg c1, if_neg c1]
    refine Pa_if (by decide) (Pa_be isB_val ?_)
    by_cases c3 : d < 0 ∨ (32 : Int32) ≤ d
    · rw [if_pos c3, if_pos c3]
      exact Pa_it rfl (Pa_some ⟨rfl, hH, hI⟩)
    rw [if_neg c3, if_neg c3]
    refine Pa_if (by decide) (Pa_bs ?_)
    have ek : (1 : Int32) * 32 + n = 32 + n := rfl
    rw [ek]
    obtain ⟨tt, g, tu, tk⟩ := h.uall hH hk hT hu
    refine Pa_bind (tf_val g (32 + n)) (fun v _ hv => ?_)
    subst hv
    cases ei : tIx (32 + n) (H k) 0 with
    | none => exact Pa_on rfl (Pa_some ⟨rfl, hH, hI⟩)
    | some i =>
      obtain ⟨hil, th, hth, hkey⟩ := tIx_0 ei
      obtain ⟨a, hga, hTC⟩ := g.2.2.2.2 i th hth
      have ta := h.fth tk hga
      obtain ⟨y1, y2, y3, la, ba, e201, hL⟩ := hTC
      obtain ⟨tla, -, wla⟩ := h.fbl ta e201
      obtain ⟨tba, -, wba⟩ := h.fb tla hL.2.1
      have n3 := h.n3 ta e201 hL.2.1
      refine Pa_oS (a := a) hga (Pa_m e201 ?_)
      rw [app_to hL, n3]
      show Pa _ (fun r : Int32 × sSt => r.1 = (match (H k)[i]? with
        | none => (-3, H)
        | some th => if th.2.2.2.length < 3 then (nI (th.2.2.2.length + 1), up1 H k ((H k).set i (th.1, th.2.1, th.2.2.1, th.2.2.2 ++ [d]))) else (-4, H) : Int32 × aH).1 ∧ CT Λ.2.2 r.2 t c F (match (H k)[i]? with
        | none => (-3, H)
        | some th => if th.2.2.2.length < 3 then (nI (th.2.2.2.length + 1), up1 H k ((H k).set i (th.1, th.2.1, th.2.2.1, th.2.2.2 ++ [d]))) else (-4, H) : Int32 × aH).2 ∧ TI ω t r.2)
      rw [hth]
      show Pa _ (fun r : Int32 × sSt => r.1 = (if th.2.2.2.length < 3 then (nI (th.2.2.2.length + 1), up1 H k ((H k).set i (th.1, th.2.1, th.2.2.1, th.2.2.2 ++ [d]))) else (-4, H) : Int32 × aH).1 ∧ CT Λ.2.2 r.2 t c F (if th.2.2.2.length < 3 then (nI (th.2.2.2.length + 1), up1 H k ((H k).set i (th.1, th.2.1, th.2.2.1, th.2.2.2 ++ [d]))) else (-4, H) : Int32 × aH).2 ∧ TI ω t r.2)
      by_cases c5 : th.2.2.2.length < 3
      · rw [if_pos c5, if_pos c5]
        refine Pa_os (Pa_some ⟨rfl, ?_, ?_⟩)
        · have hL2 := app_LS hL (by rw [n3]; exact c5) d
          have hf : fr5 S (sFI (sAI S ba th.2.2.2.length d) 41 la (nI (th.2.2.2.length + 1))) u tt a la ba := ⟨fun z _ _ _ h4 h5 => (kpA.sAI h5).tr (kpA.sFI h4), rfl⟩
          refine CT.put h hc hI hH hk hu g.1 hga tla wla tba wba hf (fun _ => rfl) ⟨g.1, ?_, ?_, g.2.2.2.1, fun j th2 hj => ?_⟩
          · rw [gFI_sFI, if_neg (fun z => absurd z.1 (by decide)), List.length_set]
            exact g.2.1
          · rw [List.length_set]; exact g.2.2.1
          · rw [List.getElem?_set] at hj
            by_cases cj : i = j
            · rw [if_pos cj, if_pos hil] at hj
              cases hj
              subst cj
              refine ⟨a, hga, ?_, y2, ?_, la, ba, e201, hL2⟩
              · rw [gFI_sFI, if_neg (fun z => absurd z.1 (by decide))]; exact y1
              · rw [gFI_sFI, if_neg (fun z => absurd z.1 (by decide))]; exact y3
            · rw [if_neg cj] at hj
              obtain ⟨b, hb, hTC2⟩ := g.2.2.2.2 j th2 hj
              have nb : b ≠ a := fun e => cj ((hI k u tt (by omega) hu g.1).2 i j a hga (by rw [← e]; exact hb))
              exact ⟨b, hb, hTC2.fr h tu tk ta tla wla tba wba hf (h.fth tk hb) nb⟩
        · exact hI.kp (fun _ => rfl) rfl (fun _ _ _ _ _ _ _ => rfl) (fun a => by rw [gFI_sFI, if_neg (fun z => absurd z.1 (by decide))]; rfl) (fun a => by rw [gFI_sFI, if_neg (fun z => absurd z.1 (by decide))]; rfl)
      · rw [if_neg c5, if_neg c5]
        exact Pa_os (Pa_some ⟨rfl, hH, hI⟩)
end
