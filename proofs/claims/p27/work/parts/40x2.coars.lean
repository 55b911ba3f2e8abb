/-! The coarse way. -/
def exB (g : Nat → Bool) : Nat → Bool
  | 0 => false
  | n + 1 => exB g n || g n
theorem exB_s {g : Nat → Bool} {n : Nat} : exB g (n + 1) = (exB g n || g n) := rfl
theorem exB_i {g : Nat → Bool} : ∀ n, exB g n = true ↔ ∃ i, i < n ∧ g i = true
  | 0 => by
    refine ⟨fun h => ?_, fun h => ?_⟩
    · cases h
    · obtain ⟨i, hi, -⟩ := h
      exact absurd hi (Nat.not_lt_zero i)
  | n + 1 => by
    rw [exB_s, Bool.or_eq_true, exB_i n]
    constructor
    · rintro (⟨i, hi, hg⟩ | hg)
      · exact ⟨i, by omega, hg⟩
      · exact ⟨n, by omega, hg⟩
    · rintro ⟨i, hi, hg⟩
      by_cases c : i = n
      · exact Or.inr (c ▸ hg)
      · exact Or.inl ⟨i, by omega, hg⟩
theorem exB_far {g : Nat → Bool} {c : Nat} (h : ∀ k, c ≤ k → g k = false) : ∀ n, c ≤ n → exB g n = exB g c
  | 0, hn => by rw [Nat.le_zero.mp hn]
  | n + 1, hn => by
    by_cases y : c = n + 1
    · rw [y]
    · rw [exB_s, h n (by omega), Bool.or_false]
      exact exB_far h n (by omega)
/-- it would be made by its own change -/
noncomputable def cB (s : aS) (K : aK) (k : Nat) : Bool := tE s.1 s.2.1 k && (decide (aWhy K s k = 1) || decide (aWhy K s k = 2))
abbrev sE (s : aS) : aE := lE s.1 s.2.1 s.2.2.1 s.2.2.2.1 s.2.2.2.2
/-- it leads to one of these -/
noncomputable def rB (s : aS) (K : aK) (k : Nat) : Bool := exB (fun v => sE s k v && cB s K v) 16
noncomputable def aCoarse (s : aS) (K : aK) : Int32 := nI (cb (fun k => cB s K k || rB s K k) 16)
section
variable {s : aS} {K : aK} {k : Nat}
theorem cB_f (h : tE s.1 s.2.1 k = false) : cB s K k = false := by unfold cB; rw [h, Bool.false_and]
theorem cB_y (h : tE s.1 s.2.1 k = true) (h2 : aWhy K s k = 1 ∨ aWhy K s k = 2) : cB s K k = true := by
  unfold cB
  rw [h, Bool.true_and, Bool.or_eq_true]
  exact h2.elim (fun e => Or.inl (decide_eq_true e)) (fun e => Or.inr (decide_eq_true e))
theorem cB_n (h1 : aWhy K s k ≠ 1) (h2 : aWhy K s k ≠ 2) : cB s K k = false := by
  unfold cB
  rw [decide_eq_false h1, decide_eq_false h2, Bool.or_false, Bool.and_false]
theorem tE_far {c : Nat} {F : aF} (h : c ≤ k) : tE c F k = false := by
  cases z : tE c F k with
  | false => rfl
  | true => have := (tE_i.mp z).1; omega
theorem tE_no {c : Nat} {F : aF} (h : ¬ F.1 k = true) : tE c F k = false := by
  cases z : tE c F k with
  | false => rfl
  | true => exact absurd (tE_i.mp z).2 h
theorem cut_f {f : Nat → Bool} {u i : Nat} (h : f u = false) : (decide (i < u) && f i) = (decide (i < u + 1) && f i) := by
  by_cases c : i = u
  · rw [c, h, Bool.and_false, Bool.and_false]
  · rw [show decide (i < u) = decide (i < u + 1) from decide_eq_decide.mpr ⟨fun _ => by omega, fun _ => by omega⟩]
theorem cut_t {f : Nat → Bool} {u i : Nat} (h : f u = true) : ((decide (i < u) && f i) || decide (u = i)) = (decide (i < u + 1) && f i) := by
  by_cases c : i = u
  · rw [c, h, decide_eq_true (p := u = u) rfl, Bool.or_true, decide_eq_true (p := u < u + 1) (by omega), Bool.true_and]
  · rw [decide_eq_false (p := u = i) (fun z => c z.symm), Bool.or_false, show decide (i < u) = decide (i < u + 1) from decide_eq_decide.mpr ⟨fun _ => by omega, fun _ => by omega⟩]
theorem cuo_f {f g : Nat → Bool} {u i : Nat} (h : f u = false) : (g i || (decide (i < u) && f i)) = (g i || (decide (i < u + 1) && f i)) := by rw [cut_f h]
theorem cuo_t {f g : Nat → Bool} {u i : Nat} (h : f u = true) : ((g i || (decide (i < u) && f i)) || decide (u = i)) = (g i || (decide (i < u + 1) && f i)) := by rw [Bool.or_assoc, cut_t h]
end
section
variable {x m o us t c c2 : Nat} {R : List Nat} {G : Nat → Nat} {ρ ω : Nat → Nat} {Λ : sLay} {S S0 S1 : sSt} {F : aF} {U W : aU} {H : aH} {K : aK}
theorem co_91 (h0 : CA x m o R G us t c c2 F U W H ρ ω Λ S0) (hc : c ≤ 16) (hA : WA c F W) {ri a b l dd : Nat} (kI : KI R ρ Λ S0 ri a b l dd) (e323 : gFR S0 323 x = some ri) (hX : ∀ k, k < 16 → hb (gAI S0 a k) (lE c F U W H k)) (g : Sh (S0, fzW, ρ, arX 160) (own Λ R) S1) {p1 : Int32} (h1 : hb p1 (cB (c, F, U, W, H) K)) : ∀ (n i : Nat) (p2 : Int32), i ≤ 16 → hb p2 (fun k => cB (c, F, U, W, H) K k || (decide (k < i) && rB (c, F, U, W, H) K k)) → Pa (L_X8_coarse_91 Λ.2.2 n S1 x p1 p2 (nI i)) (fun r => r.1 = aCoarse (c, F, U, W, H) K)
  | 0, _, _, _, _ => Pa_none
  | n + 1, i, p2, hi, h2 => by
    show Pa (Y_X8_coarse_91 Λ.2.2 (L_X8_coarse_91 Λ.2.2 n) S1 x p1 p2 (nI i)) _
    unfold Y_X8_coarse_91 B_X8_coarse_116
    by_cases c0 : i = 16
    · rw [c0] at h2
      refine Pa_it (leN (a := 16) (by omega) (by omega) (by omega)) (Pa_be (bc_val h2 (fun j hj => ?_)) (Pa_some ?_))
      · show (cB (c, F, U, W, H) K j || (decide (j < 16) && rB (c, F, U, W, H) K j)) = false
        rw [cB_f (s := (c, F, U, W, H)) (tE_far (by show c ≤ j; omega)), decide_eq_false (p := j < 16) (by omega)]
        rfl
      · exact congrArg nI (cb_eq 16 (fun j hj => by
          show (cB (c, F, U, W, H) K j || (decide (j < 16) && rB (c, F, U, W, H) K j)) = (cB (c, F, U, W, H) K j || rB (c, F, U, W, H) K j)
          rw [decide_eq_true (p := j < 16) hj, Bool.true_and]))
    · have hi2 : i < 16 := by omega
      have ta := kI.2.2.2.2.2.1.1
      have ea : gAI S1 a i = gAI S0 a i := (g.2.2.2.2.2.2.2.2.2 a ta.1 (by rw [ta.2]; rfl) (by
        show arX 160 (ρ a) = true
        rw [kI.2.2.2.2.2.2.1.1]
        rfl)).2.2.1 i
      refine Pa_if (nleN (b := i) (a := 16) (by omega) (by omega) (by omega)) (Pa_r ((g.fr 323 x).trans e323) (Pa_be (ro_w (kI.go g) hi2) ?_))
      rw [ea, n_a1 i]
      have hz := hb_z (hb_and (hX i hi2) h1)
      by_cases cr : rB (c, F, U, W, H) K i = true
      · obtain ⟨v, hv, y⟩ := (exB_i 16).mp cr
        refine Pa_if (fun z => ?_) (co_91 h0 hc hA kI e323 hX g h1 n (i + 1) _ hi2 ((hb_or h2 (hb_one (n := i) (by omega))).cg (fun j _ => cuo_t cr)))
        have q := hz.mp z v (by omega)
        rw [show (lE c F U W H i v && cB (c, F, U, W, H) K v) = true from y] at q
        cases q
      · have cr' := bf_of cr
        refine Pa_it (hz.mpr (fun v hv => ?_)) (co_91 h0 hc hA kI e323 hX g h1 n (i + 1) _ hi2 (h2.cg (fun j _ => cuo_f cr')))
        cases y : (lE c F U W H i v && cB (c, F, U, W, H) K v) with
        | false => rfl
        | true =>
          refine absurd ((exB_i 16).mpr ⟨v, ?_, y⟩) cr
          have := (tE_i.mp (lE_in hA hc i v (Bool.and_eq_true _ _ |>.mp y).1).2).1
          omega
theorem co_26 (h0 : CA x m o R G us t c c2 F U W H ρ ω Λ S0) (hc : c ≤ 16) (hA : WA c F W) (hV : VS c F W H t S0) (hK : KC Λ.2.2 S0 t c F K) {ro : Nat} (e322 : gFR S0 322 x = some ro) {ri a b l dd : Nat} (kI : KI R ρ Λ S0 ri a b l dd) (e323 : gFR S0 323 x = some ri) (hX : ∀ k, k < 16 → hb (gAI S0 a k) (lE c F U W H k)) : ∀ (n u : Nat) (p1 : Int32) (S1 : sSt), u ≤ 16 → hb p1 (fun k => decide (k < u) && cB (c, F, U, W, H) K k) → Sh (S0, fzW, ρ, arX 160) (own Λ R) S1 → Pa (L_X8_coarse_26 Λ.2.2 n S1 x p1 (nI u)) (fun r => r.1 = aCoarse (c, F, U, W, H) K)
  | 0, _, _, _, _, _, _ => Pa_none
  | n + 1, u, p1, S1, hu, hp, g => by
    have h1 := h0.fz g (by unfold fzA; decide) (arX_A (Or.inl rfl))
    have hV1 := VS.fz h0 hV g rfl (arX_A (Or.inl rfl))
    have hK1 := hK.fz h0 g rfl rfl rfl
    have e320 : gFR S1 320 x = some us := h1.1.2.2.2.2.2.2.2.2.1
    show Pa (Y_X8_coarse_26 Λ.2.2 (L_X8_coarse_26 Λ.2.2 n) S1 x p1 (nI u)) _
    unfold Y_X8_coarse_26
    by_cases c0 : u = 16
    · rw [c0] at hp
      have hp' : hb p1 (cB (c, F, U, W, H) K) := hp.cg (fun j _ => by
        by_cases y : j < 16
        · rw [decide_eq_true y, Bool.true_and]
        · rw [cB_f (s := (c, F, U, W, H)) (tE_far (by show c ≤ j; omega)), Bool.and_false])
      exact Pa_it (leN (a := 16) (by omega) (by omega) (by omega)) (co_91 h0 hc hA kI e323 hX g hp' FU 0 p1 (Nat.zero_le _) (hp'.cg (fun j _ => by rw [decide_eq_false (Nat.not_lt_zero j), Bool.false_and, Bool.or_false])))
    · have hu2 : u < 16 := by omega
      have yes : ∀ S', cB (c, F, U, W, H) K u = true → Sh (S0, fzW, ρ, arX 160) (own Λ R) S' → Pa (B_X8_coarse_75 Λ.2.2 (L_X8_coarse_26 Λ.2.2 n) S' x p1 (nI u)) (fun r => r.1 = aCoarse (c, F, U, W, H) K) := fun S' hy g' => by
        unfold B_X8_coarse_75 B_X8_coarse_81
        rw [n_a1 u]
        exact co_26 h0 hc hA hV hK e322 kI e323 hX n (u + 1) _ S' hu2 ((hb_or hp (hb_one (n := u) (by omega))).cg (fun j _ => cut_t hy)) g'
      have no : ∀ S', cB (c, F, U, W, H) K u = false → Sh (S0, fzW, ρ, arX 160) (own Λ R) S' → Pa (B_X8_coarse_81 Λ.2.2 (L_X8_coarse_26 Λ.2.2 n) S' x p1 (nI u)) (fun r => r.1 = aCoarse (c, F, U, W, H) K) := fun S' hy g' => by
        unfold B_X8_coarse_81
        rw [n_a1 u]
        exact co_26 h0 hc hA hV hK e322 kI e323 hX n (u + 1) _ S' hu2 (hp.cg (fun j _ => cut_f hy)) g'
      refine Pa_if (nleN (b := u) (a := 16) (by omega) (by omega) (by omega)) (Pa_r e320 ?_)
      unfold B_X8_coarse_61
      cases e : uo c F.1 (nI u) with
      | none => exact Pa_be (at_none h1.1 hc h1.2.1 e) (Pa_on rfl (Pa_if (by decide) (Pa_if (by decide) (no S1 (cB_f (s := (c, F, U, W, H)) (uo_no hu2 e)) g))))
      | some k =>
        obtain ⟨rfl, hk, hT⟩ := uo_ye hu2 e
        obtain ⟨v, hv, ea, -⟩ := at_some h1.1 hc h1.2.1 e
        have ht : tE c F k = true := tE_i.mpr ⟨hk, hT⟩
        refine Pa_be ea (Pa_oS rfl (Pa_m ((g.fr 322 x).trans e322) (Pa_m e320 (Pa_bs (Pa_obd (rsf_val h1 hc hA hV1 hK1 ((g.fr 322 x).trans e322) hk hT hv) (fun w S26 _ hw => ?_))))))
        obtain ⟨q1, q2⟩ := hw
        have q1 : w = aWhy K (c, F, U, W, H) k := q1
        have g26 : Sh (S0, fzW, ρ, arX 160) (own Λ R) S26 := g.up q2 (fun _ z => z) (fun _ z => z)
        by_cases w1 : aWhy K (c, F, U, W, H) k = 1
        · exact Pa_it (q1.trans w1) (yes S26 (cB_y (s := (c, F, U, W, H)) ht (Or.inl w1)) g26)
        · refine Pa_if (fun z => w1 (q1.symm.trans z)) ?_
          by_cases w2 : aWhy K (c, F, U, W, H) k = 2
          · exact Pa_it (q1.trans w2) (yes S26 (cB_y (s := (c, F, U, W, H)) ht (Or.inr w2)) g26)
          · exact Pa_if (fun z => w2 (q1.symm.trans z)) (no S26 (cB_n w1 w2) g26)
theorem coarse_c (h : CA x m o R G us t c c2 F U W H ρ ω Λ S) (hK : KC Λ.2.2 S t c F K) (hc : c ≤ 16) (hA : WA c F W) (hB : HA c F H) (hM : MA c F) : Pa (F_X8_coarse Λ.2.2 S x) (fun r => r.1 = aCoarse (c, F, U, W, H) K) := by
  have h320 := h.1.2.2.2.2.2.2.2.2.1
  obtain ⟨cs, pa, e321, kw⟩ := h.wk
  unfold F_X8_coarse
  refine Pa_m e321 (Pa_m h320 (Pa_bs (Pa_bind (sa_val h hc hA hB kw) (fun S5 _ A => ?_))))
  have h5 := h.fz A.1 (by unfold fzA; decide) (by unfold arA; decide)
  have V5 := SC.vs h A.1 (by unfold arA; decide) A.2
  have hK5 := hK.fz h A.1 rfl rfl rfl
  have e320 : gFR S5 320 x = some us := h5.1.2.2.2.2.2.2.2.2.1
  obtain ⟨ri, a, b, l, d, e323, kI⟩ := h5.ri
  refine Pa_m e323 (Pa_m e320 (Pa_bs (Pa_bind (ag_val h5 hc hA hM kI) (fun S10 _ h10 => ?_))))
  obtain ⟨g, hX, -⟩ := h10
  have h10 := h5.fz g (by unfold fzA; decide) (by unfold arA; decide)
  obtain ⟨ro, -, -, -, -, e322, -⟩ := h10.rows
  exact co_26 h10 hc hA (VS.fz h5 V5 g rfl (by unfold arA; decide)) (hK5.fz h5 g rfl rfl rfl) e322 (kI.go g) ((g.fr 323 x).trans e323) hX FU 0 0 S10 (Nat.zero_le _) (hb_0.cg (fun j _ => by rw [decide_eq_false (Nat.not_lt_zero j), Bool.false_and])) (h10.1.shz _ _)
end
section
variable {m c : Nat} {G : Nat → Nat} {Λ : sLay} {S S0 S1 S2 : sSt} {F : aF} {U W : aU} {H : aH} {K : aK}
abbrev fyC : Nat → Bool := nfz [387, 388, 389, 395]
theorem co_88 (h1 : RR m G Λ c F U W H S1) (hc : c ≤ 16) (hA : WA c F W) (hX : RM G S1 (lE c F U W H)) (hI : ∀ k, k < c → (gAI S1 (G 395) k = 0 ↔ cB (c, F, U, W, H) K k = false)) {k70 : sSt → Nat → Int32 → Int32 → Option (Int32 × sSt)} {P : Int32 × sSt → Prop} {u : Nat} (hu : u < c) {p1 : Int32} (hk : Pa (k70 S1 m (p1 + (if (cB (c, F, U, W, H) K u || rB (c, F, U, W, H) K u) = true then 1 else 0)) (nI u + 1)) P) {N : Nat → Nat} : ∀ (n q : Nat) (p3 : Int32), q ≤ c → (p3 = 0 ↔ (cB (c, F, U, W, H) K u || exB (fun v => lE c F U W H u v && cB (c, F, U, W, H) K v) q) = false) → Pa (L_X9_coarse_88 N k70 n S1 m p1 (nI u) p3 (nI q)) P
  | 0, _, _, _, _ => Pa_none
  | n + 1, q, p3, hq, h3 => by
    have hG := h1.1.1
    show Pa (Y_X9_coarse_88 N k70 (L_X9_coarse_88 N k70 n) S1 m p1 (nI u) p3 (nI q)) _
    unfold Y_X9_coarse_88 B_X9_coarse_157 B_X9_coarse_135 B_X9_coarse_139 B_X9_coarse_140
    rw [h1.1.2.1]
    by_cases c0 : q = c
    · rw [c0] at h3 ⊢
      have er : rB (c, F, U, W, H) K u = exB (fun v => lE c F U W H u v && cB (c, F, U, W, H) K v) c := exB_far (fun v hv => by
        show (lE c F U W H u v && cB (c, F, U, W, H) K v) = false
        rw [cB_f (s := (c, F, U, W, H)) (tE_far hv), Bool.and_false]) 16 hc
      refine Pa_it (leN (by omega) (by omega) (by omega)) ?_
      by_cases c3 : p3 = 0
      · have z := h3.mp c3
        rw [← er] at z
        rw [z, if_neg (fun y => by cases y)] at hk
        exact Pa_it c3 hk
      · have z := bt_of (fun y => c3 (h3.mpr y))
        rw [← er] at z
        rw [z, if_pos rfl] at hk
        exact Pa_if c3 hk
    · have hq2 : q < c := by omega
      have cl1 := n_cl (n := u) (by omega)
      have cl2 := n_cl (n := q) (by omega)
      have ei : (16 : Int32) * nI u + nI q = nI (16 * u + q) := e_add (e_mul k16 rfl) rfl
      have nx : ∀ p' : Int32, (p' = 0 ↔ (cB (c, F, U, W, H) K u || exB (fun v => lE c F U W H u v && cB (c, F, U, W, H) K v) (q + 1)) = false) → Pa (L_X9_coarse_88 N k70 n S1 m p1 (nI u) p' (nI q + 1)) P := fun p' h' => by
        rw [n_a1 q]
        exact co_88 h1 hc hA hX hI hu hk n (q + 1) p' hq2 h'
      refine Pa_if (nleN (by omega) (by omega) hq2) ?_
      by_cases c3 : p3 = 0
      · have z := h3.mp c3
        have nz : (lE c F U W H u q && cB (c, F, U, W, H) K q) = false → ((0 : Int32) = 0 ↔ (cB (c, F, U, W, H) K u || exB (fun v => lE c F U W H u v && cB (c, F, U, W, H) K v) (q + 1)) = false) := fun y => ⟨fun _ => by
          rw [exB_s, ← Bool.or_assoc, z, Bool.false_or]
          exact y, fun _ => rfl⟩
        refine Pa_it c3 (Pa_r (hG.1 362 rfl) (Pa_g ?_))
        rw [cl1]
        have e362 := (h1.1.2.2.1 u hu).1
        by_cases cT : F.1 u = true
        · refine Pa_if (fun y => by rw [e362.mp y] at cT; cases cT) (Pa_r (hG.1 395 rfl) (Pa_g ?_))
          rw [cl2]
          by_cases cq : cB (c, F, U, W, H) K q = false
          · exact Pa_it ((hI q hq2).mpr cq) (nx 0 (nz (by rw [cq, Bool.and_false])))
          · refine Pa_if (fun y => cq ((hI q hq2).mp y)) (Pa_r (hG.1 390 rfl) (Pa_g ?_))
            rw [ei, n_cl (n := 16 * u + q) (by omega)]
            have e390 := hX u q (by omega) (by omega)
            by_cases cl : lE c F U W H u q = false
            · exact Pa_it (e390.mpr cl) (nx 0 (nz (by rw [cl, Bool.false_and])))
            · refine Pa_if (fun y => cl (e390.mp y)) (nx 1 ⟨fun y => absurd y (by decide), fun y => ?_⟩)
              rw [exB_s, bt_of cl, bt_of cq] at y
              rw [Bool.true_and, Bool.or_true, Bool.or_true] at y
              cases y
        · refine Pa_it (e362.mpr (bf_of cT)) (nx 0 (nz ?_))
          cases y : lE c F U W H u q with
          | false => rfl
          | true => exact absurd (tE_i.mp (lE_in hA hc u q y).1).2 cT
      · refine Pa_if c3 (nx 1 ⟨fun y => absurd y (by decide), fun y => ?_⟩)
        have z := bt_of (fun y => c3 (h3.mpr y))
        rw [exB_s, ← Bool.or_assoc, z, Bool.true_or] at y
        cases y
theorem co_70 (h1 : RR m G Λ c F U W H S1) (hc : c ≤ 16) (hA : WA c F W) (hX : RM G S1 (lE c F U W H)) (hI : ∀ k, k < c → (gAI S1 (G 395) k = 0 ↔ cB (c, F, U, W, H) K k = false)) {N : Nat → Nat} : ∀ (n u : Nat), u ≤ c → Pa (L_X9_coarse_70 N n S1 m (nI (cb (fun k => cB (c, F, U, W, H) K k || rB (c, F, U, W, H) K k) u)) (nI u)) (fun r => r.1 = aCoarse (c, F, U, W, H) K)
  | 0, _, _ => Pa_none
  | n + 1, u, hu => by
    have hG := h1.1.1
    show Pa (Y_X9_coarse_70 N (L_X9_coarse_70 N n) S1 m (nI (cb (fun k => cB (c, F, U, W, H) K k || rB (c, F, U, W, H) K k) u)) (nI u)) _
    unfold Y_X9_coarse_70
    rw [h1.1.2.1]
    by_cases c0 : u = c
    · refine Pa_it (leN (by omega) (by omega) (by omega)) (Pa_some ?_)
      show _ = nI (cb (fun k => cB (c, F, U, W, H) K k || rB (c, F, U, W, H) K k) 16)
      rw [c0, cb_far (g := fun k => cB (c, F, U, W, H) K k || rB (c, F, U, W, H) K k) (c := c) (fun k hk => by
        show (cB (c, F, U, W, H) K k || rB (c, F, U, W, H) K k) = false
        rw [cB_f (s := (c, F, U, W, H)) (tE_far hk), Bool.false_or]
        cases y : rB (c, F, U, W, H) K k with
        | false => rfl
        | true =>
          obtain ⟨v, _, z⟩ := (exB_i 16).mp y
          have := (tE_i.mp (lE_in hA hc k v (Bool.and_eq_true _ _ |>.mp z).1).1).1
          omega) 16 hc]
    · have hu2 : u < c := by omega
      refine Pa_if (nleN (by omega) (by omega) hu2) (Pa_r (hG.1 395 rfl) (Pa_g ?_))
      rw [n_cl (n := u) (by omega)]
      refine co_88 h1 hc hA hX hI hu2 ?_ FU 0 _ (Nat.zero_le _) ?_
      · rw [n_a1 u]
        have z := co_70 h1 hc hA hX hI (N := N) n (u + 1) hu2
        by_cases y : (cB (c, F, U, W, H) K u || rB (c, F, U, W, H) K u) = true
        · rw [cb_t (g := fun k => cB (c, F, U, W, H) K k || rB (c, F, U, W, H) K k) y] at z
          rw [if_pos y, n_a1 (cb (fun k => cB (c, F, U, W, H) K k || rB (c, F, U, W, H) K k) u)]
          exact z
        · rw [cb_f (g := fun k => cB (c, F, U, W, H) K k || rB (c, F, U, W, H) K k) (bf_of y)] at z
          rw [if_neg y, Int32.add_zero]
          exact z
      · show _ ↔ (cB (c, F, U, W, H) K u || false) = false
        rw [Bool.or_false]
        exact hI u hu2
theorem in12 {N : Nat → Nat} {w : Int32} : F_X9_in N S w 1 2 = some (if w < 1 then 0 else if (2 : Int32) < w then 0 else 1) := by
  unfold F_X9_in
  by_cases y : w < 1
  · rw [if_pos y, if_pos y]
  · rw [if_neg y, if_neg y]
    by_cases z : (2 : Int32) < w
    · rw [if_pos z, if_pos z]
    · rw [if_neg z, if_neg z]
theorem co_15 (h0 : RR m G Λ c F U W H S0) (hK : RKp G S0 c F K) (hc : c ≤ 16) (hA : WA c F W) (hM : MA c F) (hX : RM G S0 (lE c F U W H)) : ∀ (n u : Nat) (S1 : sSt), u ≤ c → MI m G Λ (S0, S0, fyC) S1 → (∀ k, k < u → (gAI S1 (G 395) k = 0 ↔ cB (c, F, U, W, H) K k = false)) → Pa (L_X9_coarse_15 Λ.2.2 n S1 m (nI u)) (fun r => r.1 = aCoarse (c, F, U, W, H) K)
  | 0, _, _, _, _, _ => Pa_none
  | n + 1, u, S1, hu, g, hI => by
    have h1 : RR m G Λ c F U W H S1 := h0.mi g (by unfold fyA; decide) rfl
    have hG := h1.1.1
    have w395 : ∀ {T : sSt} {k : Nat} {v : Int32}, MI m G Λ (S0, S0, fyC) T → MI m G Λ (S0, S0, fyC) (sAI T (G 395) k v) := fun h => h.wI (f := 395) rfl rfl (rg0 (P := fun B => nB B _) (by decide)) (rg0 (P := fun B => oB B _) (by decide))
    show Pa (Y_X9_coarse_15 Λ.2.2 (L_X9_coarse_15 Λ.2.2 n) S1 m (nI u)) _
    unfold Y_X9_coarse_15 B_X9_coarse_60
    rw [h1.1.2.1]
    by_cases c0 : u = c
    · rw [c0] at hI
      have hX1 : RM G S1 (lE c F U W H) := fun a b ha hb => by
        rw [((g.2 390 rfl).2 rfl _).1]
        exact hX a b ha hb
      exact Pa_it (leN (by omega) (by omega) (by omega)) (co_70 h1 hc hA hX1 hI FU 0 (Nat.zero_le _))
    · have hu2 : u < c := by omega
      refine Pa_if (nleN (by omega) (by omega) hu2) (Pa_r (hG.1 395 rfl) (Pa_g ?_))
      rw [n_cl (n := u) (by omega), n_a1 u]
      refine Pa_st (fun S16 e16 => ?_)
      have g16 : MI m G Λ (S0, S0, fyC) S16 := by rw [e16]; exact w395 g
      have h16 : RR m G Λ c F U W H S16 := h0.mi g16 (by unfold fyA; decide) rfl
      have i16 : ∀ k, gAI S16 (G 395) k = if k = u then (0 : Int32) &&& 1 else gAI S1 (G 395) k := fun k => by rw [e16, sI]
      refine Pa_r (h16.1.1.1 362 rfl) (Pa_g ?_)
      have e362 := (h16.1.2.2.1 u hu2).1
      by_cases cT : F.1 u = true
      · refine Pa_if (fun z => by rw [e362.mp z] at cT; cases cT) (Pa_bind (Pa_and (Pa_and (lr_val h16 hc hA hM hu2 cT) (Pa_T (tF_X9_layRow (Y := (S0, S0, fyC)) rfl rfl rfl S16 g16 (nI u) u rfl (by omega)))) (Pa_T (tF_X9_layRow (Y := (S16, S16, nfz [387, 388, 389])) rfl rfl rfl S16 (g16.c.self.mi _) (nI u) u rfl (by omega)))) (fun S20 _ h20 => ?_))
        obtain ⟨⟨hL, hI20, -⟩, hJ, -⟩ := h20
        have gg : gFR S20 395 m = some (G 395) := h16.1.1.g hL.1.1 395
        refine Pa_m gg (Pa_bind (wo_val h16.1.1 (h16.sz hu2 cT) hu2 hc cT hL (hK.mi hI20 rfl rfl rfl)) (fun v _ hv => ?_))
        rw [hv]
        refine Pa_be in12 (Pa_bs (Pa_g (Pa_b ?_)))
        refine co_15 h0 hK hc hA hM hX n (u + 1) _ hu2 (w395 hI20) (fun k hk => ?_)
        rw [sI]
        by_cases ck : k = u
        · rw [if_pos ck, ck]
          have ht : tE c F u = true := tE_i.mpr ⟨hu2, cT⟩
          rcases aWhy_or (K := K) (s := (c, F, U, W, H)) (k := u) with e | e | e | e | e | e
          · rw [e, cB_n (s := (c, F, U, W, H)) (by rw [e]; decide) (by rw [e]; decide)]
            exact ⟨fun _ => rfl, fun _ => by decide⟩
          · rw [e, cB_y (s := (c, F, U, W, H)) ht (Or.inl e)]
            exact ⟨fun z => absurd z (by decide), fun z => by cases z⟩
          · rw [e, cB_y (s := (c, F, U, W, H)) ht (Or.inr e)]
            exact ⟨fun z => absurd z (by decide), fun z => by cases z⟩
          · rw [e, cB_n (s := (c, F, U, W, H)) (by rw [e]; decide) (by rw [e]; decide)]
            exact ⟨fun _ => rfl, fun _ => by decide⟩
          · rw [e, cB_n (s := (c, F, U, W, H)) (by rw [e]; decide) (by rw [e]; decide)]
            exact ⟨fun _ => rfl, fun _ => by decide⟩
          · rw [e, cB_n (s := (c, F, U, W, H)) (by rw [e]; decide) (by rw [e]; decide)]
            exact ⟨fun _ => rfl, fun _ => by decide⟩
        · rw [if_neg ck, ((hJ.2 395 rfl).2 rfl k).1, i16, if_neg ck]
          exact hI k (by omega)
      · refine Pa_it (e362.mpr (bf_of cT)) (co_15 h0 hK hc hA hM hX n (u + 1) S16 hu2 g16 (fun k hk => ?_))
        rw [i16]
        by_cases ck : k = u
        · rw [if_pos ck, ck, cB_f (s := (c, F, U, W, H)) (tE_no cT)]
          exact ⟨fun _ => rfl, fun _ => by decide⟩
        · rw [if_neg ck]
          exact hI k (by omega)
theorem coarse_r (h : RA m G Λ c F U W H S) (hK : RKp G S c F K) (hc : c ≤ 16) (hA : WA c F W) (hB : HA c F H) (hM : MA c F) : Pa (F_X9_coarse Λ.2.2 S m) (fun r => r.1 = aCoarse (c, F, U, W, H) K) := by
  have hmi : MI m G Λ (S, S, nfz [360, 379, 380, 381, 390]) (sFI S 360 m 0) := h.1.mi0 rfl
  unfold F_X9_coarse
  refine Pa_b (Pa_bind (Pa_and (fl_val h.rc hc hA hM) (Pa_T (tF_X9_findLeads (Y := (S, S, nfz [360, 379, 380, 381, 390])) rfl _ hmi))) (fun S3 _ h3 => ?_))
  obtain ⟨⟨Kq, hX⟩, hI, -⟩ := h3
  have hRC := h.rc.kq Kq
  refine Pa_bind (Pa_and (Pa_and (rk_val hRC.1 hc hA hB) (Pa_T (tF_X9_reckon (Y := (S, S, nfz [360, 379, 380, 381, 390])) rfl rfl rfl _ hI))) (Pa_T (tF_X9_reckon (Y := (S3, S3, nfz [379, 380, 381])) rfl rfl rfl _ (hI.c.self.mi _)))) (fun S5 _ h5 => ?_)
  obtain ⟨⟨A, hI5⟩, hJ⟩ := h5
  have hX5 : RM G S5 (lE c F U W H) := fun a b ha hb => by
    rw [((hJ.2 390 rfl).2 rfl _).1]
    exact hX a b ha hb
  exact co_15 (A.rr hRC.2 hRC.1) (hK.mi hI5 rfl rfl rfl) hc hA hM hX5 FU 0 S5 (Nat.zero_le _) (hI5.c.self.mi _) (fun k hk => absurd hk (Nat.not_lt_zero k))
end
