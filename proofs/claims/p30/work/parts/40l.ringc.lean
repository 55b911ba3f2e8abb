/-! The class's rings: bits. -/
def hb (w : Int32) (f : Nat → Bool) : Prop := ∀ i, i < 32 → bt w i = f i
theorem bt_1 : ∀ i, i < 32 → bt 1 i = decide (i = 0) := by decide +kernel
theorem hb_0 : hb 0 (fun _ => false) := fun i _ => b_0 i
theorem hb.cg {w : Int32} {f g : Nat → Bool} (h : hb w f) (e : ∀ i, i < 32 → f i = g i) : hb w g := fun i hi => (h i hi).trans (e i hi)
theorem hb_one {n : Nat} (hn : n < 32) : hb ((1 : Int32) <<< (nI n &&& 31)) (fun i => decide (n = i)) := fun i hi => by
  show bt ((1 : Int32) <<< (nI n &&& 31)) i = decide (n = i)
  rw [b_shl n hn _ hi]
  by_cases c : n ≤ i
  · rw [bt_1 (i - n) (by omega), decide_eq_true c, Bool.true_and]
    by_cases e : n = i
    · rw [decide_eq_true (p := i - n = 0) (by omega), decide_eq_true e]
    · rw [decide_eq_false (p := i - n = 0) (by omega), decide_eq_false e]
  · rw [decide_eq_false c, Bool.false_and, decide_eq_false (p := n = i) (by omega)]
theorem hb_or {a b : Int32} {f g : Nat → Bool} (h : hb a f) (k : hb b g) : hb (a ||| b) (fun i => f i || g i) := fun i hi => by rw [b_or, h i hi, k i hi]
theorem hb_and {a b : Int32} {f g : Nat → Bool} (h : hb a f) (k : hb b g) : hb (a &&& b) (fun i => f i && g i) := fun i hi => by rw [b_and, h i hi, k i hi]
theorem hb_no {a : Int32} {f : Nat → Bool} (h : hb a f) : hb (a ^^^ (-1 : Int32)) (fun i => !f i) := fun i hi => by
  show bt (a ^^^ (-1 : Int32)) i = !f i
  rw [b_xor, h i hi, b_m1 i hi]
  cases f i <;> rfl
theorem hb_z {w : Int32} {f : Nat → Bool} (h : hb w f) : w = 0 ↔ ∀ i, i < 32 → f i = false := by
  constructor
  · rintro rfl i hi
    rw [← h i hi]
    exact b_0 i
  · exact fun k => b_ext (fun i hi => by rw [h i hi, k i hi, b_0])
theorem and1_hb {x : Int32} : hb (x &&& 1) (fun i => decide (i = 0) && bt x 0) := fun i hi => by
  show bt (x &&& 1) i = (decide (i = 0) && bt x 0)
  rw [b_and, bt_1 i hi]
  by_cases c : i = 0
  · rw [c]
    cases bt x 0 <;> rfl
  · rw [decide_eq_false c]
    cases bt x i <;> rfl
theorem and1_z {x : Int32} : (x &&& 1) = 0 ↔ bt x 0 = false := by
  rw [hb_z and1_hb]
  constructor
  · intro h
    have y : (decide ((0 : Nat) = 0) && bt x 0) = false := h 0 (by omega)
    rw [decide_eq_true rfl, Bool.true_and] at y
    exact y
  · intro h i _
    show (decide (i = 0) && bt x 0) = false
    rw [h, Bool.and_false]
theorem and1_v {x : Int32} : (x &&& 1) = if bt x 0 = true then (1 : Int32) else 0 := by
  by_cases c : bt x 0 = true
  · rw [if_pos c]
    refine b_ext (fun i hi => ?_)
    have y : bt (x &&& 1) i = (decide (i = 0) && bt x 0) := and1_hb i hi
    rw [y, bt_1 i hi, c, Bool.and_true]
  · rw [if_neg c]
    exact and1_z.mpr (by cases y : bt x 0 with
      | true => exact absurd y c
      | false => rfl)
theorem hb_sh {w : Int32} {f : Nat → Bool} (h : hb w f) {v : Nat} (hv : v < 32) : bt (w >>> (nI v &&& 31)) 0 = f v := by
  rw [b_sshr v hv w (by omega), if_pos (by omega), Nat.add_zero]
  exact h v hv
theorem hb_t {w : Int32} {f : Nat → Bool} (h : hb w f) {v : Nat} (hv : v < 32) : ((w >>> (nI v &&& 31)) &&& (1 : Int32)) = 0 ↔ f v = false := by
  rw [and1_z, hb_sh h hv]
theorem hb_v {w : Int32} {f : Nat → Bool} (h : hb w f) {v : Nat} (hv : v < 32) : ((w >>> (nI v &&& 31)) &&& (1 : Int32)) = if f v = true then (1 : Int32) else 0 := by
  rw [and1_v, hb_sh h hv]
theorem bf_of {b : Bool} (h : ¬ b = true) : b = false := by
  cases b
  · rfl
  · exact absurd rfl h
theorem uo_m5 {c : Nat} {T : Nat → Bool} : uo c T (-5) = none := by
  unfold uo
  rw [if_pos (by decide)]
theorem uo_no {c u : Nat} {F : aF} (hu : u < 16) (e : uo c F.1 (nI u) = none) : tE c F u = false := by
  refine bf_of (fun z => ?_)
  obtain ⟨h1, h2⟩ := tE_i.mp z
  unfold uo at e
  rw [if_neg (nI_pos (by omega)), n_cl (by omega), if_pos ⟨h1, h2⟩] at e
  cases e
theorem uo_ye {c u k : Nat} {F : aF} (hu : u < 16) (e : uo c F.1 (nI u) = some k) : k = u ∧ u < c ∧ F.1 u = true := by
  obtain ⟨e1, h1, h2, h3⟩ := uo_some e
  have : u = k := (nI_eq (by omega) (by omega)).mp e1
  rw [this]
  exact ⟨rfl, h1, h2⟩
section
variable {x m o us t c c2 : Nat} {R : List Nat} {G : Nat → Nat} {ρ ω : Nat → Nat} {Λ : sLay} {S S0 S1 S2 S' : sSt} {F : aF} {U W : aU} {H : aH} {E : aE} {T P : Nat → Bool} {a k u : Nat}
/-! one step -/
theorem nx_loop (h : CA x m o R G us t c c2 F U W H ρ ω Λ S) (hc : c ≤ 16) (hA : WA c F W) {k u l b : Nat} {Z : List Int32} (hk : k < c) (hT : F.1 k = true) (hu : gAR S t k = some u) (hL : LsI Λ.2.2 S l b Z) : ∀ (n i : Nat) (w : Int32) (g : Nat → Bool), i ≤ Z.length → hb w g → Pa (L_X7_nextTo_28 Λ.2.2 n S us u (some l) w (nI i)) (fun r => hb r.1 (fun v => g v || lds W H k v (Z.drop i)) ∧ r.2 = S)
  | 0, _, _, _, _, _ => Pa_none
  | n + 1, i, w, g, hi, hw => by
    have hlt := hL.lt
    show Pa (Y_X7_nextTo_28 Λ.2.2 (L_X7_nextTo_28 Λ.2.2 n) S us u (some l) w (nI i)) _
    unfold Y_X7_nextTo_28 F_X1_length
    refine Pa_bs (Pa_bs ?_)
    rw [hL.1]
    by_cases c0 : i = Z.length
    · refine Pa_it (leN (by omega) (by omega) (by omega)) (Pa_some ⟨?_, rfl⟩)
      rw [List.drop_eq_nil_of_le (by omega)]
      exact hw.cg (fun v _ => (Bool.or_false (g v)).symm)
    · have hi2 : i < Z.length := by omega
      have e2 : Z.drop i = Z[i] :: Z.drop (i + 1) := List.drop_eq_getElem_cons hi2
      refine Pa_if (nleN (by omega) (by omega) (by omega)) (Pa_be (at_val hL hi2) (Pa_bind (lf_th h hc hA hk hT hu _) (fun v _ hv => ?_)))
      unfold B_X7_nextTo_67
      rw [n_a1 i]
      have go : ∀ w2, hb w2 (fun v => hit (fd W H k Z[i]) v) → Pa (L_X7_nextTo_28 Λ.2.2 n S us u (some l) (w ||| w2) (nI (i + 1))) (fun r => hb r.1 (fun v => g v || lds W H k v (Z.drop i)) ∧ r.2 = S) := fun w2 h2 =>
        Pa_mono (nx_loop h hc hA hk hT hu hL n (i + 1) _ _ hi2 (hb_or hw h2)) (fun r hr => ⟨hr.1.cg (fun v _ => by rw [e2, lds_c, Bool.or_assoc]), hr.2⟩)
      rcases hv with ⟨e1, rfl⟩ | ⟨z, a1, th, e1, rfl, -, z1, -, -, -, -, -, e200⟩
      · exact Pa_on rfl (go 0 (hb_0.cg (fun v _ => by rw [e1]; rfl)))
      · refine Pa_oS rfl ?_
        rw [e200]
        exact go _ ((hb_one (by omega)).cg (fun v _ => by rw [e1]; rfl))
theorem nx_val (h : CA x m o R G us t c c2 F U W H ρ ω Λ S) (hc : c ≤ 16) (hA : WA c F W) (hM : MA c F) {k u : Nat} (hk : k < c) (hT : F.1 k = true) (hu : gAR S t k = some u) : Pa (F_X7_nextTo Λ.2.2 S us (some u)) (fun r => hb r.1 (eO c F U W H k) ∧ Sh (S, nfz [41], ρ, nfz [246, 1246, 2246]) (own Λ R) r.2) := by
  have tu := h.1.un hu
  obtain ⟨l, b, rl, tl, hso⟩ := so_val h hk hT hu
  unfold F_X7_nextTo
  refine Pa_bs (Pa_obd (T_Pa (tF_X6_sought (Z := (S, nfz [41], ρ, nfz [246, 1246, 2246])) (Λ := own Λ R) S (h.1.shz _ _) ⟨rfl, rfl, rfl⟩ rfl u tu) hso |> Pa_T) (fun v S3 _ hv => ?_))
  obtain ⟨⟨g3, -⟩, e1, lf, hL⟩ := hv
  have e1 : v = some l := e1
  have g3 : Sh (S, nfz [41], ρ, nfz [246, 1246, 2246]) (own Λ R) S3 := g3
  subst e1
  have h3 := h.fz g3 (by unfold fzA; decide) (by unfold arA; decide)
  have hu3 : gAR S3 t k = some u := (h.1.row g3 k).trans hu
  have e249 : gFI S3 249 u = F.2.2 k := by
    obtain ⟨u', hu', -, h2⟩ := h3.2.1 k hk
    rw [hu3] at hu'
    cases hu'
    exact (h2 hT).2
  have go : ∀ w, hb w (fun v => decide (uo c F.1 (F.2.2 k) = some v)) → Pa (B_X7_nextTo_24 Λ.2.2 S3 us u (some l) w) (fun r => hb r.1 (eO c F U W H k) ∧ Sh (S, nfz [41], ρ, nfz [246, 1246, 2246]) (own Λ R) r.2) := fun w hw => by
    unfold B_X7_nextTo_24
    refine Pa_mono (nx_loop h3 hc hA hk hT hu3 hL FU 0 w _ (Nat.zero_le _) hw) (fun r hr => ⟨hr.1.cg (fun v _ => ?_), by rw [hr.2]; exact g3⟩)
    unfold eO
    rw [tE_i.mpr ⟨hk, hT⟩, Bool.true_and]
    rfl
  rw [e249]
  rcases hM k hk hT with c5 | ⟨j, hj, ej, hTj, -⟩
  · exact Pa_it c5 (go 0 (hb_0.cg (fun v _ => by rw [c5, uo_m5]; rfl)))
  · refine Pa_if (by rw [ej]; exact ne5 (by omega)) (go _ ?_)
    rw [ej]
    refine (hb_one (by omega)).cg (fun v _ => ?_)
    rw [uo_at hj hc hTj]
    by_cases y : j = v
    · rw [y, decide_eq_true rfl, decide_eq_true rfl]
    · rw [decide_eq_false y, decide_eq_false (fun z => y (by cases z; rfl))]
/-! the rings' object -/
def KI (R : List Nat) (ρ : Nat → Nat) (Λ : sLay) (S0 : sSt) (ri a b l d : Nat) : Prop := isK (own Λ R) 2 ri ∧ gFR S0 80 ri = some a ∧ gFR S0 81 ri = some b ∧ gFR S0 82 ri = some l ∧ gFR S0 40 l = some d ∧ (isK (own Λ R) 10 a ∧ isK (own Λ R) 10 b ∧ isK (own Λ R) 1 l ∧ isK (own Λ R) 10 d) ∧ (ρ a = 80 ∧ ρ b = 81 ∧ ρ l = 82 ∧ ρ d = 1082) ∧ Λ.2.2 a = 16 ∧ Λ.2.2 b = 16 ∧ Λ.2.2 d = 16
theorem CA.ri (h0 : CA x m o R G us t c c2 F U W H ρ ω Λ S0) : ∃ ri a b l d, gFR S0 323 x = some ri ∧ KI R ρ Λ S0 ri a b l d := by
  have hE := h0.1.2.2.2.2.2.2.1.2.1
  obtain ⟨ri, e1⟩ := hE 323 (by decide) x h0.1.kx id
  obtain ⟨t1, -, -⟩ := h0.1.fz1 (f := 323) (by decide) (by decide) (by decide) h0.1.kx.1 e1
  obtain ⟨a, e2⟩ := hE 80 (by decide) ri t1 id
  obtain ⟨t2, p2, -⟩ := h0.1.fz1 (f := 80) (by decide) (by decide) (by decide) t1.1 e2
  obtain ⟨b, e3⟩ := hE 81 (by decide) ri t1 id
  obtain ⟨t3, p3, -⟩ := h0.1.fz1 (f := 81) (by decide) (by decide) (by decide) t1.1 e3
  obtain ⟨l, e4⟩ := hE 82 (by decide) ri t1 id
  obtain ⟨t4, p4, -⟩ := h0.1.fz1 (f := 82) (by decide) (by decide) (by decide) t1.1 e4
  obtain ⟨d, e5⟩ := hE 40 (by decide) l t4 id
  obtain ⟨t5, p5, -⟩ := h0.1.fb t4 e5
  have p5' : ρ d = 1082 := by rw [p5, p4]
  exact ⟨ri, a, b, l, d, e1, t1, e2, e3, e4, e5, ⟨t2, t3, t4, t5⟩, ⟨p2, p3, p4, p5'⟩, h0.1.ro.2 a t2.1 (80, 16) (by decide) p2, h0.1.ro.2 b t3.1 (81, 16) (by decide) p3, h0.1.ro.2 d t5.1 (1082, 16) (by decide) p5'⟩
abbrev fzR : Nat → Bool := nfz [41, 83, 84]
abbrev arR : Nat → Bool := nfz [246, 1246, 2246, 80, 1080, 2080, 81, 1081, 2081, 82, 1082, 2082]
abbrev arO : Nat → Bool := nfz [81, 1081, 2081, 82, 1082, 2082]
theorem KI.go {ri a b l d : Nat} (k : KI R ρ Λ S0 ri a b l d) {fz Ar : Nat → Bool} (g : Sh (S0, fz, ρ, Ar) (own Λ R) S1) : KI R ρ Λ S1 ri a b l d := by
  obtain ⟨k1, k2, k3, k4, k5, k6⟩ := k
  exact ⟨k1, (g.fr 80 ri).trans k2, (g.fr 81 ri).trans k3, (g.fr 82 ri).trans k4, (g.fr 40 l).trans k5, k6⟩
/-- what each leads to, with pivot k done for the rows before u -/
def RXs (E : aE) (S : sSt) (a k u : Nat) : Prop := ∀ r, r < 16 → hb (gAI S a r) (fun v => if r < u then wE E (k + 1) r v else wE E k r v)
theorem RXs.at (h : RXs E S a k u) {r : Nat} (hr : r < 16) (hu : u ≤ r) : hb (gAI S a r) (wE E k r) := (h r hr).cg (fun v _ => if_neg (by omega))
theorem RXs.pv (h : RXs E S a k u) (hk : k < 16) : hb (gAI S a k) (wE E k k) := (h k hk).cg (fun v _ => by
  by_cases y : k < u
  · rw [if_pos y, wE_p]
  · rw [if_neg y])
theorem RXs.nx (h : RXs E S a k u) (h2 : hb (gAI S' a u) (wE E (k + 1) u)) (e : ∀ r, r ≠ u → gAI S' a r = gAI S a r) : RXs E S' a k (u + 1) := fun r hr => by
  by_cases y : r = u
  · rw [y]
    exact h2.cg (fun v _ => by rw [if_pos (by omega)])
  · rw [e r y]
    refine (h r hr).cg (fun v _ => ?_)
    by_cases z : r < u
    · rw [if_pos z, if_pos (by omega)]
    · rw [if_neg z, if_neg (by omega)]
theorem sh_a {ri a b l d : Nat} (k : KI R ρ Λ S0 ri a b l d) (g : Sh (S0, fzR, ρ, arR) (own Λ R) S1) (i : Nat) (v : Int32) : Sh (S0, fzR, ρ, arR) (own Λ R) (sAI S1 a i v) := g.sAI k.2.2.2.2.2.1.1 (by
  show arR (ρ a) = false
  rw [k.2.2.2.2.2.2.1.1]
  rfl) i v
theorem fr_55 {ri a b l d : Nat} (kI : KI R ρ Λ S0 ri a b l d) {k : Nat} (hk : k < 16) {Q : sSt → Prop} {kk : sSt → Nat → Int32 → Option sSt} (hkk : ∀ S', Sh (S0, fzR, ρ, arR) (own Λ R) S' → RXs E S' a (k + 1) 0 → Pa (kk S' ri (nI k + 1)) Q) : ∀ (n u : Nat) (S1 : sSt), u ≤ 16 → Sh (S0, fzR, ρ, arR) (own Λ R) S1 → RXs E S1 a k u → Pa (L_X2_findReach_55 Λ.2.2 kk n S1 ri (nI k) (nI u)) Q
  | 0, _, _, _, _, _ => Pa_none
  | n + 1, u, S1, hu, g, hX => by
    obtain ⟨-, e80, -, -, -, -, -, na, -⟩ := kI.go g
    show Pa (Y_X2_findReach_55 Λ.2.2 kk (L_X2_findReach_55 Λ.2.2 kk n) S1 ri (nI k) (nI u)) Q
    unfold Y_X2_findReach_55 B_X2_findReach_92
    refine Pa_r e80 ?_
    rw [na]
    by_cases c0 : u = 16
    · refine Pa_it (leN (by omega) (by omega) (by omega)) (hkk S1 g (fun r hr => ?_))
      rw [c0] at hX
      exact (hX r hr).cg (fun v _ => by rw [if_pos hr, if_neg (Nat.not_lt_zero r)])
    · have hu2 : u < 16 := by omega
      refine Pa_if (nleN (by omega) (by omega) (by omega)) (Pa_r e80 (Pa_g ?_))
      rw [n_cl (by omega), n_cl (n := k) (by omega), n_a1 u]
      have hr := hX.at hu2 (Nat.le_refl u)
      by_cases c1 : wE E k u k = false
      · refine Pa_it ((hb_t hr (by omega)).mpr c1) (fr_55 kI hk hkk n (u + 1) S1 hu2 g (hX.nx (hr.cg (fun v _ => ?_)) (fun _ _ => rfl)))
        rw [wE_s, c1, Bool.false_and, Bool.or_false]
      · refine Pa_if (fun z => c1 ((hb_t hr (by omega)).mp z)) (Pa_r e80 (Pa_g (Pa_r e80 (Pa_g (Pa_g (Pa_b ?_))))))
        refine fr_55 kI hk hkk n (u + 1) _ hu2 (sh_a kI g u _) (hX.nx ?_ (fun r y => ?_))
        · rw [gAI_sAI, if_pos ⟨rfl, rfl⟩]
          refine (hb_or hr (hX.pv hk)).cg (fun v _ => ?_)
          rw [wE_s, bt_of c1, Bool.true_and]
        · rw [gAI_sAI, if_neg (fun z => y z.2)]
theorem fr_44 {ri a b l d : Nat} (kI : KI R ρ Λ S0 ri a b l d) : ∀ (n k : Nat) (S1 : sSt), k ≤ 16 → Sh (S0, fzR, ρ, arR) (own Λ R) S1 → RXs E S1 a k 0 → Pa (L_X2_findReach_44 Λ.2.2 n S1 ri (nI k)) (fun r => Sh (S0, fzR, ρ, arR) (own Λ R) r ∧ RXs E r a 16 0)
  | 0, _, _, _, _, _ => Pa_none
  | n + 1, k, S1, hk, g, hX => by
    obtain ⟨-, e80, -, -, -, -, -, na, -⟩ := kI.go g
    show Pa (Y_X2_findReach_44 Λ.2.2 (L_X2_findReach_44 Λ.2.2 n) S1 ri (nI k)) _
    unfold Y_X2_findReach_44
    refine Pa_r e80 ?_
    rw [na]
    by_cases c0 : k = 16
    · rw [c0] at hX
      exact Pa_it (leN (by omega) (by omega) (by omega)) (Pa_some ⟨g, hX⟩)
    · refine Pa_if (nleN (by omega) (by omega) (by omega)) (fr_55 kI (k := k) (by omega) (fun S' g' hX' => ?_) FU 0 S1 (Nat.zero_le _) g hX)
      rw [n_a1]
      exact fr_44 kI n (k + 1) S' (by omega) g' hX'
theorem fr_2 (h : CA x m o R G us t c c2 F U W H ρ ω Λ S0) (hc : c ≤ 16) (hA : WA c F W) (hM : MA c F) {ri a b l d : Nat} (kI : KI R ρ Λ S0 ri a b l d) : ∀ (n u : Nat) (S1 : sSt), u ≤ 16 → Sh (S0, fzR, ρ, arR) (own Λ R) S1 → (∀ r, r < u → hb (gAI S1 a r) (eO c F U W H r)) → Pa (L_X2_findReach_2 Λ.2.2 n S1 ri (some us) (nI u)) (fun r => Sh (S0, fzR, ρ, arR) (own Λ R) r ∧ RXs (eO c F U W H) r a 16 0)
  | 0, _, _, _, _, _ => Pa_none
  | n + 1, u, S1, hu, g, hX => by
    obtain ⟨-, e80, -, -, -, -, -, na, -⟩ := kI.go g
    have h1 := h.fz g (by unfold fzA; decide) (by unfold arA; decide)
    show Pa (Y_X2_findReach_2 Λ.2.2 (L_X2_findReach_2 Λ.2.2 n) S1 ri (some us) (nI u)) _
    unfold Y_X2_findReach_2 B_X2_findReach_35
    refine Pa_r e80 ?_
    rw [na]
    by_cases c0 : u = 16
    · rw [c0] at hX
      exact Pa_it (leN (by omega) (by omega) (by omega)) (fr_44 kI FU 0 S1 (Nat.zero_le _) g (fun r hr => (hX r hr).cg (fun v _ => by rw [if_neg (Nat.not_lt_zero r)]; rfl)))
    · have hu2 : u < 16 := by omega
      refine Pa_if (nleN (by omega) (by omega) (by omega)) (Pa_bs ?_)
      rw [n_a1 u]
      have wr : ∀ (S' : sSt) (w : Int32), Sh (S0, fzR, ρ, arR) (own Λ R) S' → (∀ r, gAI S' a r = gAI S1 a r) → hb w (eO c F U W H u) → Pa (Option.bind (some a) (fun a19 => gi (nI u) (Λ.2.2 a19) (bnd (sAI S' a19 (Int32.toNatClampNeg (nI u)) w) (fun S20 => L_X2_findReach_2 Λ.2.2 n S20 ri (some us) (nI (u + 1)))))) (fun r => Sh (S0, fzR, ρ, arR) (own Λ R) r ∧ RXs (eO c F U W H) r a 16 0) := fun S' w g' e' hw => by
        refine Pa_bs (Pa_g (Pa_b ?_))
        rw [n_cl (by omega)]
        refine fr_2 h hc hA hM kI n (u + 1) _ hu2 (sh_a kI g' u _) (fun r hr => ?_)
        rw [gAI_sAI]
        by_cases y : r = u
        · rw [y, if_pos ⟨rfl, rfl⟩]
          exact hw
        · rw [if_neg (fun z => y z.2), e' r]
          exact hX r (by omega)
      cases e : uo c F.1 (nI u) with
      | none =>
        refine Pa_be (at_none h1.1 hc h1.2.1 e) (Pa_m e80 (Pa_on rfl (wr S1 0 g (fun _ => rfl) (hb_0.cg (fun v _ => ?_)))))
        unfold eO
        rw [uo_no hu2 e, Bool.false_and]
      | some k =>
        obtain ⟨rfl, hk, hT⟩ := uo_ye hu2 e
        obtain ⟨u1, hu1, ea, -⟩ := at_some h1.1 hc h1.2.1 e
        refine Pa_be ea (Pa_m e80 (Pa_oS rfl (Pa_obd (nx_val h1 hc hA hM hk hT hu1) (fun v S22 _ hv => ?_))))
        obtain ⟨hv1, hv2⟩ := hv
        have hv2 : Sh (S1, nfz [41], ρ, nfz [246, 1246, 2246]) (own Λ R) S22 := hv2
        have ta := kI.2.2.2.2.2.1.1
        refine wr S22 v (g.up hv2 (nfz_sub (by decide)) (nfz_sub (by decide))) (fun r => ?_) hv1
        exact (hv2.2.2.2.2.2.2.2.2.2 a ta.1 (by rw [ta.2]; rfl) (by
          show nfz [246, 1246, 2246] (ρ a) = true
          rw [kI.2.2.2.2.2.2.1.1]
          rfl)).2.2.1 r
theorem fr_val (h : CA x m o R G us t c c2 F U W H ρ ω Λ S0) (hc : c ≤ 16) (hA : WA c F W) (hM : MA c F) {ri a b l d : Nat} (kI : KI R ρ Λ S0 ri a b l d) : Pa (F_X2_findReach Λ.2.2 S0 ri (some us)) (fun r => Sh (S0, fzR, ρ, arR) (own Λ R) r ∧ ∀ k, k < 16 → hb (gAI r a k) (lE c F U W H k)) := by
  unfold F_X2_findReach
  exact Pa_mono (fr_2 h hc hA hM kI FU 0 S0 (Nat.zero_le _) (h.1.shz _ _) (fun r hr => absurd hr (Nat.not_lt_zero r))) (fun r hr => ⟨hr.1, fun k hk => hr.2.at hk (Nat.zero_le _)⟩)
/-! a ring -/
theorem ro_w {ri a b l d : Nat} (kI : KI R ρ Λ S ri a b l d) {u : Nat} (hu : u < 16) : F_X2_reachOf Λ.2.2 S ri (nI u) = some (gAI S a u) := by
  obtain ⟨-, e80, -, -, -, -, -, na, -⟩ := kI
  unfold F_X2_reachOf
  rw [if_neg (nI_pos (by omega))]
  simp only [bnd, e80, Option.bind_some, na]
  rw [if_neg (nleN (by omega) (by omega) (by omega)), n_gi (by omega) (by omega), n_cl (by omega)]
theorem ra_loop {ri a b l d : Nat} (kI : KI R ρ Λ S ri a b l d) (hX : ∀ k, k < 16 → hb (gAI S a k) (E k)) (h16 : ∀ u v, E u v = true → v < 16) {u : Nat} (hu : u < 16) : ∀ (n i : Nat) (w : Int32), i ≤ 16 → hb w (fun v => decide (u = v) || (decide (v < i) && (E u v && E v u))) → Pa (L_X2_ringAround_6 Λ.2.2 S n ri (nI u) w (nI i)) (fun r => hb r (oneB E u))
  | 0, _, _, _, _ => Pa_none
  | n + 1, i, w, hi, hw => by
    have kI' := kI
    obtain ⟨-, e80, -, -, -, -, -, na, -⟩ := kI'
    show Pa (Y_X2_ringAround_6 Λ.2.2 S (L_X2_ringAround_6 Λ.2.2 S n) ri (nI u) w (nI i)) _
    unfold Y_X2_ringAround_6 B_X2_ringAround_46
    refine Pa_r e80 ?_
    rw [na]
    by_cases c0 : i = 16
    · refine Pa_it (leN (by omega) (by omega) (by omega)) (Pa_some (hw.cg (fun v _ => ?_)))
      unfold oneB
      cases y : E u v with
      | false => rw [Bool.false_and, Bool.and_false]
      | true =>
        have := h16 u v y
        rw [decide_eq_true (p := v < i) (by omega), Bool.true_and]
    · have hi2 : i < 16 := by omega
      have stay : E u i = false ∨ E i u = false → Pa (L_X2_ringAround_6 Λ.2.2 S n ri (nI u) w (nI (i + 1))) (fun r => hb r (oneB E u)) := fun hf =>
        ra_loop kI hX h16 hu n (i + 1) w hi2 (hw.cg (fun v _ => by
          by_cases y : v = i
          · rw [y]
            have : (E u i && E i u) = false := by rcases hf with z | z <;> rw [z] <;> simp
            rw [this, Bool.and_false, Bool.and_false]
          · by_cases z : v < i
            · rw [decide_eq_true z, decide_eq_true (p := v < i + 1) (by omega)]
            · rw [decide_eq_false z, decide_eq_false (p := v < i + 1) (by omega)]))
      refine Pa_if (nleN (by omega) (by omega) (by omega)) (Pa_be (ro_w kI hu) ?_)
      rw [n_a1 i]
      by_cases c1 : E u i = false
      · exact Pa_it ((hb_t (hX u hu) (by omega)).mpr c1) (stay (Or.inl c1))
      · refine Pa_if (fun z => c1 ((hb_t (hX u hu) (by omega)).mp z)) (Pa_r e80 (Pa_g ?_))
        rw [n_cl (by omega)]
        by_cases c2 : E i u = false
        · exact Pa_it ((hb_t (hX i hi2) (by omega)).mpr c2) (stay (Or.inr c2))
        · refine Pa_if (fun z => c2 ((hb_t (hX i hi2) (by omega)).mp z)) (ra_loop kI hX h16 hu n (i + 1) _ hi2 ((hb_or hw (hb_one (n := i) (by omega))).cg (fun v _ => ?_)))
          by_cases y : v = i
          · rw [y, bt_of c1, bt_of c2, decide_eq_true (p := i = i) rfl, decide_eq_true (p := i < i + 1) (by omega)]
            simp
          · have y2 : ¬ i = v := fun z => y z.symm
            rw [decide_eq_false y2, Bool.or_false]
            by_cases z : v < i
            · rw [decide_eq_true z, decide_eq_true (p := v < i + 1) (by omega)]
            · rw [decide_eq_false z, decide_eq_false (p := v < i + 1) (by omega)]
theorem ra_val {ri a b l d : Nat} (kI : KI R ρ Λ S ri a b l d) (hX : ∀ k, k < 16 → hb (gAI S a k) (E k)) (h16 : ∀ u v, E u v = true → v < 16) {u : Nat} (hu : u < 16) : Pa (F_X2_ringAround Λ.2.2 S ri (nI u)) (fun r => hb r (oneB E u)) := by
  unfold F_X2_ringAround
  exact ra_loop kI hX h16 hu FU 0 _ (Nat.zero_le _) ((hb_one (by omega)).cg (fun v _ => by rw [decide_eq_false (Nat.not_lt_zero v), Bool.false_and, Bool.or_false]))
end
