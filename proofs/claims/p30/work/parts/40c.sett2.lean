/-! The class's walk: closing, adding, to the end. -/
section
variable {x m o us t c c2 : Nat} {R : List Nat} {G : Nat → Nat} {ρ ω : Nat → Nat} {Λ : sLay} {S0 S S1 S' : sSt} {F : aF} {U W : aU} {H : aH}
theorem CA.b3 (h : CA x m o R G us t c c2 F U W H ρ ω Λ S0) (hc : c ≤ 16) {z : Nat × Nat} {th : aT} (hz : vt c F H z) (hth : (H z.1)[z.2]? = some th) : th.2.2.2.length ≤ 3 := by
  obtain ⟨-, ⟨-, -, -, l, b, e201, hL⟩, ta, -⟩ := h.at0 hc hz hth
  have := hL.2.2.1
  rw [h.1.n3 ta e201 hL.2.1] at this
  exact this
theorem cl_val {N : Nat → Nat} {a : Nat} : F_X0_close N S (some a) = some (if gFI S 207 a = 0 then sFI S 205 a 2 else sFJ (sFI S 205 a 2) 206 a 0) := by
  have e : gFI (sFI S 205 a 2) 207 a = gFI S 207 a := by rw [gFI_sFI, if_neg (fun z => absurd z.1 (by decide))]
  show (if gFI (sFI S 205 a 2) 207 a = 0 then some (sFI S 205 a 2) else some (sFJ (sFI S 205 a 2) 206 a 0)) = _
  rw [e]
  by_cases q : gFI S 207 a = 0
  · rw [if_pos q, if_pos q]
  · rw [if_neg q, if_neg q]
theorem ap_val {N : Nat → Nat} {a b : Nat} (hs : gFI S 205 b = 1 ∨ ¬ gFI S 205 b = 1) : F_X0_addPart N S (some a) (some b) = some (if gFI S 205 b = 1 ∨ gFI S 207 b ≠ 0 then sFI (sFJ S 206 a (gFJ S 206 a + gFJ S 206 b)) 207 a 1 else sFJ S 206 a (gFJ S 206 a + gFJ S 206 b)) := by
  show (if gFI (sFJ S 206 a (gFJ S 206 a + gFJ S 206 b)) 205 b = 1 then some (sFI (sFJ S 206 a (gFJ S 206 a + gFJ S 206 b)) 207 a 1) else if gFI (sFJ S 206 a (gFJ S 206 a + gFJ S 206 b)) 207 b = 0 then some (sFJ S 206 a (gFJ S 206 a + gFJ S 206 b)) else some (sFI (sFJ S 206 a (gFJ S 206 a + gFJ S 206 b)) 207 a 1)) = _
  rw [gFI_sFJ, gFI_sFJ]
  by_cases q : gFI S 205 b = 1
  · rw [if_pos q, if_pos (Or.inl q)]
  · rw [if_neg q]
    by_cases q2 : gFI S 207 b = 0
    · rw [if_pos q2, if_neg (fun y => y.elim q (fun y2 => y2 q2))]
    · rw [if_neg q2, if_pos (Or.inr q2)]
theorem JS.close (h : CA x m o R G us t c c2 F U W H ρ ω Λ S0) (hc : c ≤ 16) {cs pa : Nat} (k : WK R ρ Λ S0 cs pa) {z : Nat × Nat} {r : List (Nat × Nat)} {th : aT} (J : JS R ρ Λ c F W H S0 t cs pa S1 (z :: r)) (hz : nd c F H z th) (hn : th.2.2.2.length ≤ (ph S0 t S1 z).2.2.2) (hS : S' = sFI (if gFI S1 207 (Ad S0 t z) = 0 then sFI S1 205 (Ad S0 t z) 2 else sFJ (sFI S1 205 (Ad S0 t z) 2) 206 (Ad S0 t z) 0) 1 cs (nI r.length)) : JS R ρ Λ c F W H S0 t cs pa S' r ∧ MM c F H (ph S0 t S') r + 1 ≤ MM c F H (ph S0 t S1) (z :: r) ∧ ∀ y, vt c F H y → (ph S0 t S1 y).1 ≠ 0 → (ph S0 t S' y).1 ≠ 0 := by
  obtain ⟨g, d1, p1, n1, jp, c1⟩ := J
  have hv := hz.vt
  obtain ⟨-, -, ta, -⟩ := h.at0 hc hv hz.2.2.1
  have h3 := h.b3 hc hv hz.2.2.1
  have no : isL 5 = true → Aw (S0, fzS, ρ, arS) (Ad S0 t z) := fun y => absurd y (by decide)
  have gS : Sh (S0, fzS, ρ, arS) (own Λ R) S' := by
    rw [hS]
    by_cases q : gFI S1 207 (Ad S0 t z) = 0
    · rw [if_pos q]
      exact (g.sFI 205 ta 2 rfl no).sFI 1 k.1 _ rfl (fun y => absurd y (by decide))
    · rw [if_neg q]
      exact ((g.sFI 205 ta 2 rfl no).sFJ 206 ta 0 rfl no).sFI 1 k.1 _ rfl (fun y => absurd y (by decide))
  have e : ph S0 t S' z = (2, if (ph S0 t S1 z).2.2.1 = 0 then (ph S0 t S1 z).2.1 else 0, (ph S0 t S1 z).2.2.1, (ph S0 t S1 z).2.2.2) := by
    rw [hS]
    unfold ph
    by_cases q : gFI S1 207 (Ad S0 t z) = 0
    · rw [if_pos q]
      simp [gFI_sFI, gFJ_sFI, q]
    · rw [if_neg q]
      simp [gFI_sFI, gFI_sFJ, gFJ_sFI, gFJ_sFJ, q]
  have E : ∀ y, vt c F H y → y ≠ z → ph S0 t S' y = ph S0 t S1 y := fun y hy hne => by
    have hq : Ad S0 t y ≠ Ad S0 t z := fun e => hne (h.inj hc hy hv e)
    rw [hS]
    unfold ph
    by_cases q : gFI S1 207 (Ad S0 t z) = 0
    · rw [if_pos q]
      simp [gFI_sFI, gFJ_sFI, hq]
    · rw [if_neg q]
      simp [gFI_sFI, gFI_sFJ, gFJ_sFI, gFJ_sFJ, hq]
  have e9 : ∀ y, gFI S' 209 y = gFI S1 209 y := fun y => by
    rw [hS]
    by_cases q : gFI S1 207 (Ad S0 t z) = 0
    · rw [if_pos q]
      simp [gFI_sFI]
    · rw [if_neg q]
      simp [gFI_sFI, gFI_sFJ]
  have eA : ∀ i, gAR S' pa i = gAR S1 pa i := fun i => by
    rw [hS]
    by_cases q : gFI S1 207 (Ad S0 t z) = 0
    · rw [if_pos q]; rfl
    · rw [if_neg q]; rfl
  have zr : z ∉ r := (List.nodup_cons.mp jp.2.2.1).1
  have st : (ph S0 t S1 z).1 = 1 := ((jp.2.1 z th hz).2).mpr List.mem_cons_self
  have jq := jp.close hz hn E e
  have hcn : cnt c F H (ph S0 t S') ≤ cnt c F H (ph S0 t S1) := cnt_mono (fun w hw hw0 => by
    by_cases cw : w = z
    · rw [cw, e] at hw0
      exact absurd hw0 (show ¬ (2 : Int32) = 0 by decide)
    · rw [E w hw cw] at hw0
      exact hw0)
  have hlen : (z :: r).length = r.length + 1 := List.length_cons
  refine ⟨⟨gS, by rw [hS, gFI_sFI, if_pos ⟨rfl, rfl⟩], pth_congr r (fun i _ => eA i) p1.2, fun y hy => ?_, jq, by omega⟩, ?_, fun y hy hne => ?_⟩
  · obtain ⟨p, hp, ep⟩ := n1 y (List.mem_cons_of_mem _ hy)
    exact ⟨p, hp, (e9 _).trans ep⟩
  · have q1 := (jp.2.2.2.2.2.2 z th List.mem_cons_self hz).1
    unfold MM
    show _ + _ + 1 ≤ 8 * cnt c F H (ph S0 t S1) + ((7 - 2 * (ph S0 t S1 z).2.2.2) + mu (ph S0 t S1) r)
    rw [mu_congr (φ := ph S0 t S1) r (fun w hw => by
      obtain ⟨tw, hnw⟩ := jp.1 w (List.mem_cons_of_mem _ hw)
      exact E w hnw.vt (fun e => zr (e ▸ hw)))]
    omega
  · by_cases cy : y = z
    · rw [cy, e]; exact (show (2 : Int32) ≠ 0 by decide)
    · rw [E y hy cy]; exact hne
theorem JS.add (h : CA x m o R G us t c c2 F U W H ρ ω Λ S0) (hc : c ≤ 16) {cs pa p : Nat} {z : Nat × Nat} {r : List (Nat × Nat)} {th : aT} (J : JS R ρ Λ c F W H S0 t cs pa S1 (z :: r)) (hz : nd c F H z th) (ep : gFI S1 209 (Ad S0 t z) = nI p) (hp : p < th.2.2.2.length) (g' : Sh (S0, fzS, ρ, arS) (own Λ R) S') (d' : gFI S' 1 cs = gFI S1 1 cs) (a' : ∀ i, gAR S' pa i = gAR S1 pa i) (e9 : gFI S' 209 (Ad S0 t z) = nI (p + 1)) (E9 : ∀ y, vt c F H y → y ≠ z → gFI S' 209 (Ad S0 t y) = gFI S1 209 (Ad S0 t y)) (E : ∀ y, vt c F H y → y ≠ z → ph S0 t S' y = ph S0 t S1 y) (e1 : (ph S0 t S' z).1 = 1) (hq : kN W H z th (ph S0 t S' z)) : JS R ρ Λ c F W H S0 t cs pa S' (z :: r) ∧ MM c F H (ph S0 t S') (z :: r) + 1 ≤ MM c F H (ph S0 t S1) (z :: r) ∧ ∀ y, vt c F H y → (ph S0 t S1 y).1 ≠ 0 → (ph S0 t S' y).1 ≠ 0 := by
  obtain ⟨g, d1, p1, n1, jp, c1⟩ := J
  have hv := hz.vt
  have h3 := h.b3 hc hv hz.2.2.1
  have zr : z ∉ r := (List.nodup_cons.mp jp.2.2.1).1
  have st : (ph S0 t S1 z).1 = 1 := ((jp.2.1 z th hz).2).mpr List.mem_cons_self
  have hcn : cnt c F H (ph S0 t S') ≤ cnt c F H (ph S0 t S1) := cnt_mono (fun w hw hw0 => by
    by_cases cw : w = z
    · rw [cw, e1] at hw0
      exact absurd hw0 (by decide)
    · rw [E w hw cw] at hw0
      exact hw0)
  have nx1 : (ph S0 t S1 z).2.2.2 = p := by
    show (gFI S1 209 (Ad S0 t z)).toNatClampNeg = p
    rw [ep, n_cl (by omega)]
  have nx2 : (ph S0 t S' z).2.2.2 = p + 1 := by
    show (gFI S' 209 (Ad S0 t z)).toNatClampNeg = p + 1
    rw [e9, n_cl (by omega)]
  refine ⟨⟨g', d'.trans d1, pth_congr _ (fun i _ => a' i) p1, fun y hy => ?_, jp.add hz E e1 hq, by omega⟩, ?_, fun y hy hne => ?_⟩
  · by_cases cy : y = z
    · rw [cy]; exact ⟨p + 1, by omega, e9⟩
    · obtain ⟨q, hq, eq⟩ := n1 y hy
      obtain ⟨ty, hny⟩ := jp.1 y hy
      exact ⟨q, hq, (E9 y hny.vt cy).trans eq⟩
  · unfold MM
    show 8 * cnt c F H (ph S0 t S') + ((7 - 2 * (ph S0 t S' z).2.2.2) + mu (ph S0 t S') r) + 1 ≤ 8 * cnt c F H (ph S0 t S1) + ((7 - 2 * (ph S0 t S1 z).2.2.2) + mu (ph S0 t S1) r)
    rw [mu_congr (φ := ph S0 t S1) r (fun w hw => by
      obtain ⟨tw, hnw⟩ := jp.1 w (List.mem_cons_of_mem _ hw)
      exact E w hnw.vt (fun e => zr (e ▸ hw))), nx1, nx2]
    omega
  · by_cases cy : y = z
    · rw [cy, e1]; exact (show (1 : Int32) ≠ 0 by decide)
    · rw [E y hy cy]; exact hne
/-- what is found for the part of a constant -/
theorem pt_val (h : CA x m o R G us t c c2 F U W H ρ ω Λ S0) (hc : c ≤ 16) (hA : WA c F W) (hB : HA c F H) (g : Sh (S0, fzS, ρ, arS) (own Λ R) S1) {z : Nat × Nat} {th : aT} {q : Nat} {v : Int32} (hz : vt c F H z) (hth : (H z.1)[z.2]? = some th) (hv : th.2.2.2[q]? = some v) : Pa (F_X7_partOf Λ.2.2 S1 us (some (Ad S0 t z)) (nI q)) (fun r => (fd W H z.1 (32 + v) = none ∧ r = none) ∨ ∃ w tw, fd W H z.1 (32 + v) = some w ∧ r = some (Ad S0 t w) ∧ nd c F H w tw) := by
  have h1 := h.fz g (by unfold fzA; decide) (by unfold arA; decide)
  obtain ⟨e0, hTC, e200⟩ := h.at1 hc g hz hth
  obtain ⟨y1, y2, y3, la, ba, e201, hL⟩ := hTC
  obtain ⟨hq, ev⟩ := List.getElem?_eq_some_iff.mp hv
  unfold F_X7_partOf
  refine Pa_bs ?_
  rw [e200]
  obtain ⟨u, hu, ea, -⟩ := at_some h1.1 hc h1.2.1 (uo_at hz.1 hc hz.2.1)
  refine Pa_be ea (Pa_oS rfl (Pa_r e201 (Pa_be (at_val hL hq) (Pa_bs ?_))))
  rw [ev]
  have ek : (1 : Int32) * 32 + v = 32 + v := rfl
  rw [ek]
  refine Pa_bind (lf_th h1 hc hA hz.1 hz.2.1 hu (32 + v)) (fun r _ hr => Pa_some ?_)
  rcases hr with ⟨a1, a2⟩ | ⟨w, a, tw, b1, b2, b3, -⟩
  · exact Or.inl ⟨a1, a2⟩
  · obtain ⟨tw, hnw⟩ := fd_nd hA hB hc hz hth (List.mem_of_getElem? hv) b1
    refine Or.inr ⟨w, tw, b1, ?_, hnw⟩
    have e1 := (h.at1 hc g hnw.vt hnw.2.2.1).1
    rw [b3] at e1
    cases e1
    exact b2
theorem se_loop (h : CA x m o R G us t c c2 F U W H ρ ω Λ S0) (hc : c ≤ 16) (hA : WA c F W) (hB : HA c F H) {cs pa : Nat} (k : WK R ρ Λ S0 cs pa) : ∀ (n p : Nat) (l : List (Nat × Nat)) (S1 : sSt), JS R ρ Λ c F W H S0 t cs pa S1 l → p + MM c F H (ph S0 t S1) l < 1000000 → Pa (L_X0_settle_12 Λ.2.2 n S1 cs (some us) (nI p)) (fun r => JS R ρ Λ c F W H S0 t cs pa r [] ∧ ∀ y, vt c F H y → (ph S0 t S1 y).1 ≠ 0 → (ph S0 t r y).1 ≠ 0)
  | 0, _, _, _, _, _ => Pa_none
  | n + 1, p, [], S1, J, hM => by
    show Pa (Y_X0_settle_12 Λ.2.2 (L_X0_settle_12 Λ.2.2 n) S1 cs (some us) (nI p)) _
    unfold Y_X0_settle_12
    rw [kM, J.2.1]
    exact Pa_if (nleN (by omega) (by omega) (by omega)) (Pa_it (leN (b := 0) (by decide) (by omega) (Nat.le_refl 0)) (Pa_some ⟨J, fun _ _ y => y⟩))
  | n + 1, p, z :: r, S1, J, hM => by
    have J' := J
    obtain ⟨g, d1, p1, n1, jp, c1⟩ := J'
    obtain ⟨th, hz⟩ := jp.1 z List.mem_cons_self
    have hv := hz.vt
    obtain ⟨-, -, ta, -⟩ := h.at0 hc hv hz.2.2.1
    have h3 := h.b3 hc hv hz.2.2.1
    obtain ⟨-, ⟨-, -, -, la, ba, e201, hL⟩, -⟩ := h.at1 hc g hv hz.2.2.1
    obtain ⟨q, hq3, eq9⟩ := n1 z List.mem_cons_self
    have nx : (ph S0 t S1 z).2.2.2 = q := by
      show (gFI S1 209 (Ad S0 t z)).toNatClampNeg = q
      rw [eq9, n_cl (by omega)]
    have hlen : (z :: r).length = r.length + 1 := List.length_cons
    have e0 : gFR S1 0 cs = some pa := (g.fr 0 cs).trans k.2.1
    have go : ∀ S', JS R ρ Λ c F W H S0 t cs pa S' r ∨ JS R ρ Λ c F W H S0 t cs pa S' (z :: r) ∨ (∃ w, JS R ρ Λ c F W H S0 t cs pa S' (w :: z :: r)) → True := fun _ _ => trivial
    show Pa (Y_X0_settle_12 Λ.2.2 (L_X0_settle_12 Λ.2.2 n) S1 cs (some us) (nI p)) _
    unfold Y_X0_settle_12 B_X0_settle_71 B_X0_settle_124 B_X0_settle_142 F_X1_length
    rw [kM, d1, hlen, n_s1 (by omega), n_cl (by omega), n_a1]
    refine Pa_if (nleN (by omega) (by omega) (by omega)) (Pa_if (nleN (a := r.length + 1) (b := 0) (by omega) (by omega) (by omega)) (Pa_r e0 (Pa_if (by rw [k.2.2.2.2]; exact nltN (by omega) (by omega) (by omega)) (Pa_r e0 (Pa_g (Pa_a (b := Ad S0 t z) p1.1 (Pa_oS rfl (Pa_r e201 (Pa_bs ?_)))))))))
    rw [hL.1, eq9]
    by_cases cq : q < th.2.2.2.length
    · refine Pa_it (ltN (by omega) (by omega) cq) (Pa_bs ?_)
      have hvq : th.2.2.2[q]? = some (th.2.2.2[q]) := List.getElem?_eq_getElem cq
      have hmem := List.mem_of_getElem? hvq
      have j7 := jp.2.2.2.2.2.2 z th List.mem_cons_self hz
      have st : (ph S0 t S1 z).1 = 1 := ((jp.2.1 z th hz).2).mpr List.mem_cons_self
      have ph1 : ph S0 t S1 z = ((ph S0 t S1 z).1, (ph S0 t S1 z).2.1, (ph S0 t S1 z).2.2.1, q) := by rw [← nx]
      rw [ph1] at j7
      have no : isL 5 = true → Aw (S0, fzS, ρ, arS) (Ad S0 t z) := fun y => absurd y (by decide)
      refine Pa_bind (pt_val h hc hA hB g hv hz.2.2.1 hvq) (fun rr _ hr => ?_)
      rcases hr with ⟨f1, rfl⟩ | ⟨w, tw, f1, rfl, hw⟩
      · refine Pa_on rfl ?_
        refine Pa_be (a := S1) rfl ?_
        rw [eq9, n_a1 q]
        refine Pa_b ?_
        have hq := kN_n (s' := (1 : Int32)) j7 hvq f1
        have A := JS.add (S' := sFI S1 209 (Ad S0 t z) (nI (q + 1))) h hc J hz eq9 cq (g.sFI 209 ta _ rfl no) (by rw [gFI_sFI, if_neg (fun y => absurd y.1 (by decide))]) (fun _ => rfl) (by rw [gFI_sFI, if_pos ⟨rfl, rfl⟩]) (fun y hy hne => by rw [gFI_sFI, if_neg (fun y2 => hne (h.inj hc hy hv y2.2))]) (fun y hy hne => by
            have hn : Ad S0 t y ≠ Ad S0 t z := fun e => hne (h.inj hc hy hv e)
            unfold ph
            simp [gFI_sFI, gFJ_sFI, hn]) (by
            show gFI (sFI S1 209 (Ad S0 t z) (nI (q + 1))) 205 (Ad S0 t z) = 1
            rw [gFI_sFI, if_neg (fun y => absurd y.1 (by decide))]
            exact st) (by
            have e : ph S0 t (sFI S1 209 (Ad S0 t z) (nI (q + 1))) z = (1, (ph S0 t S1 z).2.1, (ph S0 t S1 z).2.2.1, q + 1) := by
              have s2 : gFI S1 205 (Ad S0 t z) = 1 := st
              unfold ph
              simp [gFI_sFI, gFJ_sFI, s2]
              exact n_cl (by omega)
            rw [e]
            exact hq)
        obtain ⟨A1, A2, A3⟩ := A
        exact Pa_mono (se_loop h hc hA hB k n (p + 1) _ _ A1 (by omega)) (fun r2 hr2 => ⟨hr2.1, fun y hy hne => hr2.2 y hy (A3 y hy hne)⟩)
      · refine Pa_oS rfl ?_
        have hw1 := hw.vt
        by_cases cw : gFI S1 205 (Ad S0 t w) = 0
        · refine Pa_it cw (Pa_bind (JS.enter h hc k J hw cw (fun z2 r2 e2 => ?_)) (fun S2 _ A => ?_))
          · cases e2
            exact ⟨th, _, hz.2.2.1, by rw [nx]; exact hvq, f1⟩
          · obtain ⟨A1, A2, A3, -⟩ := A
            exact Pa_mono (se_loop h hc hA hB k n (p + 1) _ _ A1 (by omega)) (fun r2 hr2 => ⟨hr2.1, fun y hy hne => hr2.2 y hy (A3 y hy hne)⟩)
        · refine Pa_if cw ?_
          rw [ap_val (Classical.em _)]
          refine Pa_bs ?_
          obtain ⟨S2, hS2⟩ : ∃ S2, S2 = (if gFI S1 205 (Ad S0 t w) = 1 ∨ gFI S1 207 (Ad S0 t w) ≠ 0 then sFI (sFJ S1 206 (Ad S0 t z) (gFJ S1 206 (Ad S0 t z) + gFJ S1 206 (Ad S0 t w))) 207 (Ad S0 t z) 1 else sFJ S1 206 (Ad S0 t z) (gFJ S1 206 (Ad S0 t z) + gFJ S1 206 (Ad S0 t w))) := ⟨_, rfl⟩
          rw [← hS2]
          have s9 : ∀ y, gFI S2 209 y = gFI S1 209 y := fun y => by
            rw [hS2]
            by_cases cc : gFI S1 205 (Ad S0 t w) = 1 ∨ gFI S1 207 (Ad S0 t w) ≠ 0
            · rw [if_pos cc, gFI_sFI, if_neg (fun y => absurd y.1 (by decide)), gFI_sFJ]
            · rw [if_neg cc, gFI_sFJ]
          have s1 : gFI S2 1 cs = gFI S1 1 cs := by
            rw [hS2]
            by_cases cc : gFI S1 205 (Ad S0 t w) = 1 ∨ gFI S1 207 (Ad S0 t w) ≠ 0
            · rw [if_pos cc, gFI_sFI, if_neg (fun y => absurd y.1 (by decide)), gFI_sFJ]
            · rw [if_neg cc, gFI_sFJ]
          have s5 : ∀ y, gFI S2 205 y = gFI S1 205 y := fun y => by
            rw [hS2]
            by_cases cc : gFI S1 205 (Ad S0 t w) = 1 ∨ gFI S1 207 (Ad S0 t w) ≠ 0
            · rw [if_pos cc, gFI_sFI, if_neg (fun y => absurd y.1 (by decide)), gFI_sFJ]
            · rw [if_neg cc, gFI_sFJ]
          have s7 : gFI S2 207 (Ad S0 t z) = if gFI S1 205 (Ad S0 t w) = 1 ∨ gFI S1 207 (Ad S0 t w) ≠ 0 then 1 else gFI S1 207 (Ad S0 t z) := by
            rw [hS2]
            by_cases cc : gFI S1 205 (Ad S0 t w) = 1 ∨ gFI S1 207 (Ad S0 t w) ≠ 0
            · rw [if_pos cc, if_pos cc, gFI_sFI, if_pos ⟨rfl, rfl⟩]
            · rw [if_neg cc, if_neg cc, gFI_sFJ]
          have s6 : gFJ S2 206 (Ad S0 t z) = gFJ S1 206 (Ad S0 t z) + gFJ S1 206 (Ad S0 t w) := by
            rw [hS2]
            by_cases cc : gFI S1 205 (Ad S0 t w) = 1 ∨ gFI S1 207 (Ad S0 t w) ≠ 0
            · rw [if_pos cc, gFJ_sFI, gFJ_sFJ, if_pos ⟨rfl, rfl⟩]
            · rw [if_neg cc, gFJ_sFJ, if_pos ⟨rfl, rfl⟩]
          have sA : ∀ i, gAR S2 pa i = gAR S1 pa i := fun i => by
            rw [hS2]
            by_cases cc : gFI S1 205 (Ad S0 t w) = 1 ∨ gFI S1 207 (Ad S0 t w) ≠ 0
            · rw [if_pos cc]; rfl
            · rw [if_neg cc]; rfl
          have s7o : ∀ y, y ≠ Ad S0 t z → gFI S2 207 y = gFI S1 207 y ∧ gFJ S2 206 y = gFJ S1 206 y := fun y hne => by
            rw [hS2]
            by_cases cc : gFI S1 205 (Ad S0 t w) = 1 ∨ gFI S1 207 (Ad S0 t w) ≠ 0
            · rw [if_pos cc]
              simp [gFI_sFI, gFI_sFJ, gFJ_sFI, gFJ_sFJ, hne]
            · rw [if_neg cc]
              simp [gFI_sFJ, gFJ_sFJ, hne]
          have g2 : Sh (S0, fzS, ρ, arS) (own Λ R) S2 := by
            rw [hS2]
            by_cases cc : gFI S1 205 (Ad S0 t w) = 1 ∨ gFI S1 207 (Ad S0 t w) ≠ 0
            · rw [if_pos cc]
              exact (g.sFJ 206 ta _ rfl no).sFI 207 ta 1 rfl no
            · rw [if_neg cc]
              exact g.sFJ 206 ta _ rfl no
          rw [s9, eq9, n_a1 q]
          refine Pa_b ?_
          have e : ph S0 t (sFI S2 209 (Ad S0 t z) (nI (q + 1))) z = (1, gFJ S1 206 (Ad S0 t z) + gFJ S1 206 (Ad S0 t w), (if gFI S1 205 (Ad S0 t w) = 1 ∨ gFI S1 207 (Ad S0 t w) ≠ 0 then 1 else gFI S1 207 (Ad S0 t z)), q + 1) := by
            have t5 : gFI (sFI S2 209 (Ad S0 t z) (nI (q + 1))) 205 (Ad S0 t z) = 1 := by
              rw [gFI_sFI, if_neg (fun y => absurd y.1 (by decide)), s5]
              exact st
            have t7 : gFI (sFI S2 209 (Ad S0 t z) (nI (q + 1))) 207 (Ad S0 t z) = if gFI S1 205 (Ad S0 t w) = 1 ∨ gFI S1 207 (Ad S0 t w) ≠ 0 then 1 else gFI S1 207 (Ad S0 t z) := by
              rw [gFI_sFI, if_neg (fun y => absurd y.1 (by decide)), s7]
            have t9 : gFI (sFI S2 209 (Ad S0 t z) (nI (q + 1))) 209 (Ad S0 t z) = nI (q + 1) := by rw [gFI_sFI, if_pos ⟨rfl, rfl⟩]
            unfold ph
            rw [t5, t7, t9, gFJ_sFI, s6, n_cl (by omega)]
          have hq : kN W H z th (ph S0 t (sFI S2 209 (Ad S0 t z) (nI (q + 1))) z) := by
            rw [e]
            have sw := (jp.2.1 w tw hw).1
            have sw0 : ¬ (ph S0 t S1 w).1 = 0 := cw
            by_cases c1w : gFI S1 205 (Ad S0 t w) = 1
            · rw [if_pos (Or.inl c1w)]
              have hin : w ∈ z :: r := ((jp.2.1 w tw hw).2).mp c1w
              exact kN_r j7 hvq (by decide) (lk_round jp.2.2.2.2.2.1 hin hz.2.2.1 hmem f1)
            · have s2w : (ph S0 t S1 w).1 = 2 := by
                rcases sw with a | a | a
                · exact absurd a sw0
                · exact absurd a c1w
                · exact a
              obtain ⟨ov, vr, vs, vi⟩ := jp.2.2.2.1 w tw hw s2w
              have vs : gFJ S1 206 (Ad S0 t w) = ov.getD 0 := vs
              have vi : gFI S1 207 (Ad S0 t w) = 0 ↔ ov ≠ none := vi
              cases ov with
              | none =>
                have c7 : gFI S1 207 (Ad S0 t w) ≠ 0 := fun y => absurd rfl (vi.mp y)
                rw [if_pos (Or.inr c7)]
                exact kN_r j7 hvq (by decide) (gv_non hz.2.2.1 hmem f1 vr)
              | some xv =>
                have c7 : gFI S1 207 (Ad S0 t w) = 0 := vi.mpr (fun y => nomatch y)
                rw [if_neg (fun y => y.elim c1w (fun y2 => y2 c7)), vs]
                obtain ⟨n2, hn2⟩ := vr
                exact kN_s j7 hvq f1 hn2
          have A := JS.add (S' := sFI S2 209 (Ad S0 t z) (nI (q + 1))) h hc J hz eq9 cq (g2.sFI 209 ta _ rfl no) (by rw [gFI_sFI, if_neg (fun y => absurd y.1 (by decide))]; exact s1) (fun i => sA i) (by rw [gFI_sFI, if_pos ⟨rfl, rfl⟩]) (fun y hy hne => by rw [gFI_sFI, if_neg (fun y2 => hne (h.inj hc hy hv y2.2)), s9]) (fun y hy hne => by
            have hn : Ad S0 t y ≠ Ad S0 t z := fun e => hne (h.inj hc hy hv e)
            obtain ⟨o7, o6⟩ := s7o _ hn
            unfold ph
            rw [gFI_sFI, if_neg (fun y2 => absurd y2.1 (by decide)), gFI_sFI, if_neg (fun y2 => absurd y2.1 (by decide)), gFI_sFI, if_neg (fun y2 => hn y2.2), gFJ_sFI, s5, o7, o6, s9]) (by rw [e]) hq
          obtain ⟨A1, A2, A3⟩ := A
          exact Pa_mono (se_loop h hc hA hB k n (p + 1) _ _ A1 (by omega)) (fun r2 hr2 => ⟨hr2.1, fun y hy hne => hr2.2 y hy (A3 y hy hne)⟩)
    · refine Pa_if (nltN (by omega) (by omega) (by omega)) ?_
      rw [cl_val]
      refine Pa_bs ?_
      obtain ⟨S2, hS2⟩ : ∃ S2, S2 = (if gFI S1 207 (Ad S0 t z) = 0 then sFI S1 205 (Ad S0 t z) 2 else sFJ (sFI S1 205 (Ad S0 t z) 2) 206 (Ad S0 t z) 0) := ⟨_, rfl⟩
      rw [← hS2]
      have s1 : gFI S2 1 cs = nI (r.length + 1) := by
        rw [hS2, ← hlen, ← d1]
        by_cases cc : gFI S1 207 (Ad S0 t z) = 0
        · rw [if_pos cc, gFI_sFI, if_neg (fun y => absurd y.1 (by decide))]
        · rw [if_neg cc, gFI_sFJ, gFI_sFI, if_neg (fun y => absurd y.1 (by decide))]
      rw [s1, n_s1 (by omega), Nat.add_sub_cancel]
      refine Pa_b ?_
      obtain ⟨A1, A2, A3⟩ := JS.close (S' := sFI S2 1 cs (nI r.length)) h hc k J hz (by rw [nx]; omega) (by rw [hS2])
      exact Pa_mono (se_loop h hc hA hB k n (p + 1) _ _ A1 (by omega)) (fun r2 hr2 => ⟨hr2.1, fun y hy hne => hr2.2 y hy (A3 y hy hne)⟩)
/-- between two walks -/
def JE (R : List Nat) (ρ : Nat → Nat) (Λ : sLay) (c : Nat) (F : aF) (W : aU) (H : aH) (S0 : sSt) (t : Nat) (S : sSt) : Prop := Sh (S0, fzS, ρ, arS) (own Λ R) S ∧ JP c F W H (ph S0 t S) []
theorem st_val (h : CA x m o R G us t c c2 F U W H ρ ω Λ S0) (hc : c ≤ 16) (hA : WA c F W) (hB : HA c F H) {cs pa : Nat} (k : WK R ρ Λ S0 cs pa) (J : JE R ρ Λ c F W H S0 t S1) {w : Nat × Nat} {tw : aT} (hw : nd c F H w tw) (h0 : gFI S1 205 (Ad S0 t w) = 0) : Pa (F_X0_settle Λ.2.2 S1 cs (some (Ad S0 t w)) (some us)) (fun r => JE R ρ Λ c F W H S0 t r ∧ (∀ y, vt c F H y → (ph S0 t S1 y).1 ≠ 0 → (ph S0 t r y).1 ≠ 0) ∧ (ph S0 t r w).1 ≠ 0) := by
  obtain ⟨g, jp⟩ := J
  have eph : ph S0 t (sFI S1 1 cs 0) = ph S0 t S1 := by
    funext y
    unfold ph
    simp [gFI_sFI, gFJ_sFI]
  have J2 : JS R ρ Λ c F W H S0 t cs pa (sFI S1 1 cs 0) [] := ⟨g.sFI 1 k.1 0 rfl (fun y => absurd y (by decide)), by rw [gFI_sFI, if_pos ⟨rfl, rfl⟩]; rfl, trivial, fun z hz => (nomatch hz), by rw [eph]; exact jp, by rw [List.length_nil, Nat.zero_add]; exact cnt_le⟩
  unfold F_X0_settle
  refine Pa_b (Pa_bind (JS.enter h hc k J2 hw (by rw [eph]; exact h0) (fun z r e => nomatch e)) (fun S3 _ A => ?_))
  obtain ⟨A1, A2, A3, A4⟩ := A
  have hm : MM c F H (ph S0 t (sFI S1 1 cs 0)) [] ≤ 1280 := by
    unfold MM
    have := cnt_le (c := c) (F := F) (H := H) (φ := ph S0 t (sFI S1 1 cs 0))
    show 8 * _ + 0 ≤ _
    omega
  refine Pa_mono (se_loop h hc hA hB k FU 0 _ S3 A1 (by omega)) (fun r hr => ⟨⟨hr.1.1, hr.1.2.2.2.2.1⟩, fun y hy hne => hr.2 y hy (A3 y hy (by rw [eph]; exact hne)), hr.2 w hw.vt A4⟩)
/-- all constants before a place are done -/
def dnD (c : Nat) (F : aF) (H : aH) (S0 : sSt) (t : Nat) (S : sSt) (k i : Nat) : Prop := ∀ z th, nd c F H z th → (z.1 < k ∨ (z.1 = k ∧ z.2 < i)) → (ph S0 t S z).1 ≠ 0
theorem sa_in (h : CA x m o R G us t c c2 F U W H ρ ω Λ S0) (hc : c ≤ 16) (hA : WA c F W) (hB : HA c F H) {cs pa : Nat} (kw : WK R ρ Λ S0 cs pa) {k u : Nat} (hk : k < c) (hT : F.1 k = true) (hu : gAR S0 t k = some u) {P : sSt → Prop} {kk : sSt → Nat → Option Nat → Int32 → Option sSt} (hkk : ∀ S', JE R ρ Λ c F W H S0 t S' → dnD c F H S0 t S' (k + 1) 0 → Pa (kk S' cs (some us) (nI k + 1)) P) : ∀ (n i : Nat) (S1 : sSt), i ≤ (H k).length → JE R ρ Λ c F W H S0 t S1 → dnD c F H S0 t S1 k i → Pa (L_X0_settleAll_23 Λ.2.2 kk n S1 cs us (nI k) (some u) (nI i)) P
  | 0, _, _, _, _, _ => Pa_none
  | n + 1, i, S1, hi, J, hD => by
    have hu1 : gAR S1 t k = some u := (h.1.row J.1 k).trans hu
    obtain ⟨tt, g1, ga⟩ := h.un1 hc J.1 hk hT hu1
    have hl := g1.2.2.1
    show Pa (Y_X0_settleAll_23 Λ.2.2 kk (L_X0_settleAll_23 Λ.2.2 kk n) S1 cs us (nI k) (some u) (nI i)) P
    unfold Y_X0_settleAll_23 B_X0_settleAll_82 F_X8_sortOf
    refine Pa_oS rfl (Pa_be (tC_val g1) ?_)
    by_cases c0 : i = (H k).length
    · refine Pa_it (leN (by omega) (by omega) (by omega)) (hkk S1 J (fun z th hz hlt => hD z th hz ?_))
      rcases hlt with q | q
      · by_cases cz : z.1 = k
        · refine Or.inr ⟨cz, ?_⟩
          have := hz.vt.2.2
          rw [cz] at this
          omega
        · exact Or.inl (by omega)
      · exact absurd q.2 (Nat.not_lt_zero _)
    · have hi2 : i < (H k).length := by omega
      have hv : vt c F H (k, i) := ⟨hk, hT, hi2⟩
      have hth := List.getElem?_eq_getElem hi2
      obtain ⟨-, hTC, -⟩ := h.at1 hc J.1 hv hth
      refine Pa_if (nleN (by omega) (by omega) (by omega)) (Pa_be (tA_val g1 hi2 (ga i hi2)) (Pa_oS rfl (Pa_bs ?_)))
      rw [hTC.1]
      unfold B_X0_settleAll_76
      rw [n_a1 i]
      have next : ∀ S2, JE R ρ Λ c F W H S0 t S2 → dnD c F H S0 t S2 k i → (∀ th, nd c F H (k, i) th → (ph S0 t S2 (k, i)).1 ≠ 0) → Pa (L_X0_settleAll_23 Λ.2.2 kk n S2 cs us (nI k) (some u) (nI (i + 1))) P := fun S2 J2 D2 e2 => sa_in h hc hA hB kw hk hT hu hkk n (i + 1) S2 hi2 J2 (fun z th hz hlt => by
        by_cases cz : z = (k, i)
        · rw [cz] at hz ⊢
          exact e2 th hz
        · refine D2 z th hz ?_
          rcases hlt with q | q
          · exact Or.inl q
          · refine Or.inr ⟨q.1, ?_⟩
            have : z.2 ≠ i := fun e => cz (prodE q.1 e)
            omega)
      by_cases c1 : ((H k)[i]).1 / 32 = (1 : Int32)
      · have hn : nd c F H (k, i) ((H k)[i]) := ⟨hk, hT, hth, c1⟩
        refine Pa_it c1 ?_
        by_cases c2 : gFI S1 205 (Ad S0 t (k, i)) = 0
        · refine Pa_it c2 (Pa_bind (st_val h hc hA hB kw J hn c2) (fun S2 _ A => ?_))
          obtain ⟨A1, A2, A3⟩ := A
          exact next S2 A1 (fun z th hz hlt => A2 z hz.vt (hD z th hz hlt)) (fun _ _ => A3)
        · exact Pa_if c2 (next S1 J hD (fun _ _ => c2))
      · exact Pa_if c1 (next S1 J hD (fun th hz => by
          have := hz.2.2.1.symm.trans hth
          cases this
          exact absurd hz.2.2.2 c1))
theorem sa_no {N : Nat → Nat} {cs : Nat} {P : sSt → Prop} {kk : sSt → Nat → Option Nat → Int32 → Option sSt} {p i : Int32} : ∀ n, Pa (kk S1 cs (some us) (p + 1)) P → Pa (L_X0_settleAll_23 N kk n S1 cs us p none i) P
  | 0, _ => Pa_none
  | n + 1, h => by
    show Pa (Y_X0_settleAll_23 N kk (L_X0_settleAll_23 N kk n) S1 cs us p none i) P
    unfold Y_X0_settleAll_23 B_X0_settleAll_82
    exact Pa_on rfl h
theorem sa_out (h : CA x m o R G us t c c2 F U W H ρ ω Λ S0) (hc : c ≤ 16) (hA : WA c F W) (hB : HA c F H) {cs pa : Nat} (kw : WK R ρ Λ S0 cs pa) : ∀ (n k : Nat) (S1 : sSt), k ≤ c → JE R ρ Λ c F W H S0 t S1 → dnD c F H S0 t S1 k 0 → Pa (L_X0_settleAll_6 Λ.2.2 n S1 cs (some us) (nI k)) (fun r => JE R ρ Λ c F W H S0 t r ∧ ∀ z th, nd c F H z th → (ph S0 t r z).1 ≠ 0)
  | 0, _, _, _, _, _ => Pa_none
  | n + 1, k, S1, hk, J, hD => by
    have h1 := h.fz J.1 (by unfold fzA; decide) (by unfold arA; decide)
    show Pa (Y_X0_settleAll_6 Λ.2.2 (L_X0_settleAll_6 Λ.2.2 n) S1 cs (some us) (nI k)) _
    unfold Y_X0_settleAll_6
    refine Pa_bs ?_
    rw [h1.1.e1]
    by_cases c0 : k = c
    · exact Pa_it (leN (by omega) (by omega) (by omega)) (Pa_some ⟨J, fun z th hz => hD z th hz (Or.inl (by rw [c0]; exact hz.1))⟩)
    · have hk2 : k < c := by omega
      refine Pa_if (nleN (by omega) (by omega) (by omega)) ?_
      by_cases hT : F.1 k = true
      · obtain ⟨u, hu, ea, -⟩ := at_some h1.1 hc h1.2.1 (uo_at hk2 hc hT)
        have hu0 : gAR S0 t k = some u := (h.1.row J.1 k).symm.trans hu
        refine Pa_be ea (sa_in h hc hA hB kw hk2 hT hu0 (fun S' J' hD' => ?_) FU 0 S1 (Nat.zero_le _) J hD)
        rw [n_a1]
        exact sa_out h hc hA hB kw n (k + 1) S' hk2 J' hD'
      · have e : uo c F.1 (nI k) = none := by
          unfold uo
          rw [if_neg (nI_pos (by omega)), n_cl (by omega), if_neg (fun z => hT z.2)]
        refine Pa_be (at_none h1.1 hc h1.2.1 e) (sa_no FU ?_)
        rw [n_a1]
        refine sa_out h hc hA hB kw n (k + 1) S1 hk2 J (fun z th hz hlt => hD z th hz ?_)
        rcases hlt with q | q
        · refine Or.inl ?_
          have : z.1 ≠ k := fun e => hT (by rw [← e]; exact hz.2.1)
          omega
        · exact absurd q.2 (Nat.not_lt_zero _)
/-- all values are found -/
def SC (c : Nat) (F : aF) (W : aU) (H : aH) (t : Nat) (S0 S : sSt) : Prop := ∀ z th, nd c F H z th → ∃ o, VR W H z o ∧ gFJ S 206 (Ad S0 t z) = o.getD 0 ∧ (gFI S 207 (Ad S0 t z) = 0 ↔ o ≠ none)
theorem sa_val (h : CA x m o R G us t c c2 F U W H ρ ω Λ S0) (hc : c ≤ 16) (hA : WA c F W) (hB : HA c F H) {cs pa : Nat} (kw : WK R ρ Λ S0 cs pa) : Pa (F_X0_settleAll Λ.2.2 S0 cs (some us)) (fun r => Sh (S0, fzS, ρ, arS) (own Λ R) r ∧ SC c F W H t S0 r) := by
  unfold F_X0_settleAll
  refine Pa_bind (rf_val h hc) (fun S2 _ A => ?_)
  obtain ⟨g, hf⟩ := A
  have jp : JP c F W H (ph S0 t S2) [] := by
    refine ⟨fun z hz => (nomatch hz), fun z th hz => ?_, List.nodup_nil, fun z th hz h2 => ?_, fun z th hz _ => ?_, trivial, fun z th hz => nomatch hz⟩
    · have e : (ph S0 t S2 z).1 = 0 := (hf z th hz.vt hz.2.2.1).1
      rw [e]
      exact ⟨Or.inl rfl, fun y => absurd y (by decide), fun y => nomatch y⟩
    · have e : (ph S0 t S2 z).1 = 0 := (hf z th hz.vt hz.2.2.1).1
      rw [e] at h2
      exact absurd h2 (by decide)
    · exact ⟨(hf z th hz.vt hz.2.2.1).2.1, (hf z th hz.vt hz.2.2.1).2.2.1⟩
  refine Pa_mono (sa_out h hc hA hB kw FU 0 S2 (Nat.zero_le _) ⟨g, jp⟩ (fun z th _ hlt => absurd hlt (by omega))) (fun r hr => ⟨hr.1.1, fun z th hz => ?_⟩)
  obtain ⟨⟨-, j1, j2, -, j4, -⟩, hn⟩ := hr
  obtain ⟨q1, q2⟩ := j2 z th hz
  refine j4 z th hz ?_
  rcases q1 with a | a | a
  · exact absurd a (hn z th hz)
  · exact nomatch q2.mp a
  · exact a
end
noncomputable def VO (W : aU) (H : aH) (z : Nat × Nat) : Option Int64 := Classical.epsilon (VR W H z)
theorem VO_eq {W : aU} {H : aH} {z : Nat × Nat} {o : Option Int64} (h : VR W H z o) : VO W H z = o := VR_un (Classical.epsilon_spec ⟨o, h⟩) h
/-- the constant that is named -/
def cOf (c : Nat) (F : aF) (H : aH) (p n : Int32) : Option (Nat × Nat) := match uo c F.1 p with
  | none => none
  | some k => if n < 0 ∨ (32 : Int32) ≤ n then none else match tIx (32 + n) (H k) 0 with
    | none => none
    | some i => some (k, i)
noncomputable def aValue (c : Nat) (F : aF) (W : aU) (H : aH) (p n : Int32) : Int64 := match cOf c F H p n with
  | none => 0
  | some z => (VO W H z).getD 0
noncomputable def aRound (c : Nat) (F : aF) (W : aU) (H : aH) (p n : Int32) : Int32 := match cOf c F H p n with
  | none => -1
  | some z => match VO W H z with
    | none => 1
    | some _ => 0
section
variable {x m o us t c c2 : Nat} {R : List Nat} {G : Nat → Nat} {ρ ω : Nat → Nat} {Λ : sLay} {S0 S S1 S' : sSt} {F : aF} {U W : aU} {H : aH}
theorem nm32 {n : Int32} (c3 : ¬ (n < 0 ∨ (32 : Int32) ≤ n)) : ∃ b, b < 32 ∧ n = nI b := by
  obtain ⟨b, hb, e⟩ := nI_of (fun z => c3 (Or.inl z))
  exact ⟨b, Nat.lt_of_not_le (fun z => c3 (Or.inr (by rw [e]; exact leN (a := 32) (by omega) hb z))), e⟩
theorem cOf_nd {p n : Int32} {z : Nat × Nat} (h : cOf c F H p n = some z) : ∃ th, nd c F H z th ∧ uo c F.1 p = some z.1 ∧ (¬ (n < 0 ∨ (32 : Int32) ≤ n)) ∧ tIx (32 + n) (H z.1) 0 = some z.2 := by
  unfold cOf at h
  cases e : uo c F.1 p with
  | none => rw [e] at h; cases h
  | some k =>
    obtain ⟨ep, hk, hT, -⟩ := uo_some e
    rw [e] at h
    have h : (if n < 0 ∨ (32 : Int32) ≤ n then none else match tIx (32 + n) (H k) 0 with
      | none => none
      | some i => some (k, i)) = some z := h
    by_cases c3 : n < 0 ∨ (32 : Int32) ≤ n
    · rw [if_pos c3] at h; cases h
    · rw [if_neg c3] at h
      cases e2 : tIx (32 + n) (H k) 0 with
      | none => rw [e2] at h; cases h
      | some i =>
        rw [e2] at h
        have h : some (k, i) = some z := h
        cases h
        obtain ⟨hil, th, hth, hkey⟩ := tIx_0 e2
        obtain ⟨b, hb, eb⟩ := nm32 c3
        exact ⟨th, ⟨hk, hT, hth, by rw [hkey, eb]; exact key32 hb⟩, rfl, c3, e2⟩
theorem co_val (h : CA x m o R G us t c c2 F U W H ρ ω Λ S) (hc : c ≤ 16) (p n : Int32) : Pa (F_X8_constantOf Λ.2.2 S x p n) (fun r => (cOf c F H p n = none ∧ r = none) ∨ ∃ z, cOf c F H p n = some z ∧ r = some (Ad S t z)) := by
  have h320 := h.1.2.2.2.2.2.2.2.2.1
  unfold F_X8_constantOf cOf B_X8_constantOf_22
  refine Pa_r h320 ?_
  cases e : uo c F.1 p with
  | none => exact Pa_be (at_none h.1 hc h.2.1 e) (Pa_on rfl (Pa_some (Or.inl ⟨rfl, rfl⟩)))
  | some k =>
    obtain ⟨u, hu, ea, -⟩ := at_some h.1 hc h.2.1 e
    obtain ⟨ep, hk, hT, -⟩ := uo_some e
    refine Pa_be ea (Pa_oS rfl (Pa_be isB_val ?_))
    show Pa _ (fun r => ((if n < 0 ∨ (32 : Int32) ≤ n then none else match tIx (32 + n) (H k) 0 with
      | none => none
      | some i => some (k, i)) = none ∧ r = none) ∨ ∃ z, (if n < 0 ∨ (32 : Int32) ≤ n then none else match tIx (32 + n) (H k) 0 with
      | none => none
      | some i => some (k, i)) = some z ∧ r = some (Ad S t z))
    by_cases c3 : n < 0 ∨ (32 : Int32) ≤ n
    · rw [if_pos c3, if_pos c3]
      exact Pa_it rfl (Pa_some (Or.inl ⟨rfl, rfl⟩))
    rw [if_neg c3, if_neg c3]
    refine Pa_if (by decide) (Pa_bs ?_)
    have ek : (1 : Int32) * 32 + n = 32 + n := rfl
    rw [ek]
    obtain ⟨tt, g, tu, tk⟩ := h.1.uall h.2.2.2.2.1 hk hT hu
    refine Pa_bind (tf_val g (32 + n)) (fun v _ hv => Pa_some ?_)
    subst hv
    cases ei : tIx (32 + n) (H k) 0 with
    | none => exact Or.inl ⟨rfl, rfl⟩
    | some i =>
      obtain ⟨hil, th, hth, hkey⟩ := tIx_0 ei
      refine Or.inr ⟨(k, i), rfl, ?_⟩
      have e1 := (h.at0 hc (z := (k, i)) ⟨hk, hT, hil⟩ hth).1
      rw [ad_of (z := (k, i)) hu g.1] at e1
      exact e1
theorem value_c (h : CA x m o R G us t c c2 F U W H ρ ω Λ S) (hc : c ≤ 16) (hA : WA c F W) (hB : HA c F H) (p n : Int32) : Pa (F_X8_value Λ.2.2 S x p n) (fun r => r.1 = aValue c F W H p n) := by
  have h320 := h.1.2.2.2.2.2.2.2.2.1
  obtain ⟨cs, pa, e321, kw⟩ := h.wk
  unfold F_X8_value aValue
  refine Pa_bind (co_val h hc p n) (fun v _ hv => ?_)
  rcases hv with ⟨e1, rfl⟩ | ⟨z, e1, rfl⟩
  · rw [e1]
    exact Pa_on rfl (Pa_some rfl)
  · rw [e1]
    obtain ⟨th, hz, -⟩ := cOf_nd e1
    refine Pa_oS rfl (Pa_m e321 (Pa_m h320 (Pa_bs (Pa_bind (sa_val h hc hA hB kw) (fun S8 _ A => Pa_some ?_)))))
    obtain ⟨ov, vr, vs, -⟩ := A.2 z th hz
    show gFJ S8 206 (Ad S t z) = (VO W H z).getD 0
    rw [VO_eq vr, vs]
theorem round_c (h : CA x m o R G us t c c2 F U W H ρ ω Λ S) (hc : c ≤ 16) (hA : WA c F W) (hB : HA c F H) (p n : Int32) : Pa (F_X8_round Λ.2.2 S x p n) (fun r => r.1 = aRound c F W H p n) := by
  have h320 := h.1.2.2.2.2.2.2.2.2.1
  obtain ⟨cs, pa, e321, kw⟩ := h.wk
  unfold F_X8_round aRound
  refine Pa_bind (co_val h hc p n) (fun v _ hv => ?_)
  rcases hv with ⟨e1, rfl⟩ | ⟨z, e1, rfl⟩
  · rw [e1]
    exact Pa_on rfl (Pa_some rfl)
  · rw [e1]
    obtain ⟨th, hz, -⟩ := cOf_nd e1
    refine Pa_oS rfl (Pa_m e321 (Pa_m h320 (Pa_bs (Pa_bind (sa_val h hc hA hB kw) (fun S8 _ A => ?_)))))
    obtain ⟨ov, vr, -, vi⟩ := A.2 z th hz
    show Pa _ (fun r : Int32 × sSt => r.1 = match VO W H z with
      | none => 1
      | some _ => 0)
    rw [VO_eq vr]
    cases ov with
    | none => exact Pa_if (fun y => absurd rfl (vi.mp y)) (Pa_some rfl)
    | some _ => exact Pa_it (vi.mpr (fun y => nomatch y)) (Pa_some rfl)
end
