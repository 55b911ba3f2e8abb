theorem unit_r {m : Nat} {G : Nat → Nat} {Λ : sLay} {Z : sSt} {F : aF} (S : sSt) (hS : MC m G Λ Z S) (c : Nat) (hc : c < 16) (ec : gFI S 361 m = nI c) (hF : RF G S c F) : T (F_X9_unit Λ.2.2 S m) (fun r : Int32 × sSt => MC m G Λ Z r.2 ∧ r.1 = nI c ∧ gFI r.2 361 m = nI (c + 1) ∧ RF G r.2 (c + 1) (up1 F.1 c true, up1 F.2.1 c 0, up1 F.2.2 c (-5))) := by
  have wn : ∀ {T : sSt} {f : Nat} (B : Nat) {k : Nat}, MC m G Λ Z T → isM f = true → (∀ q ∈ rgN, q.1 = f → q.2 = B) → (∀ q ∈ rgO, q.1 ≠ f) → MC m G Λ Z (sAI T (G f) k 0) := fun B _ h hf h1 h2 => h.wI hf (rg1 (B := B) h1 ⟨0, Nat.zero_le _, k0⟩) (rg0 (P := fun B => oB B _) h2) (by decide) (by decide)
  have wa : ∀ {T : sSt} {f k : Nat} {v : Int32}, MC m G Λ Z T → isM f = true → (∀ q ∈ rgN, q.1 ≠ f) → (∀ q ∈ rgO, q.1 ≠ f) → MC m G Λ Z (sAI T (G f) k v) := fun h hf h1 h2 => h.wI hf (rg0 (P := fun B => nB B _) h1) (rg0 (P := fun B => oB B _) h2) (by decide) (by decide)
  unfold F_X9_unit
  refine T_st (fun S1 e1 => ?_)
  have h1 : MC m G Λ Z S1 := by rw [e1]; exact hS.wF (f := 360) (rg0 (P := fun B => nB B _) (by decide))
  have q1 : gFI S1 361 m = nI c := by rw [e1, gFI_ne (by decide)]; exact ec
  refine T_ite (fun h => absurd ((e_eq q1 k16 (by omega) (by omega)).mp h) (by omega)) (fun h => ?_)
  have d := mt (e_eq q1 k16 (by omega) (by omega)).mpr h
  refine T_st (fun S2 e2 => ?_)
  have h2 : MC m G Λ Z S2 := by rw [e2]; exact h1.wF (f := 361) (rg1 (B := 16) (by decide) ⟨c + 1, by omega, e_add q1 k1⟩)
  have q2 : gFI S2 361 m = nI (c + 1) := by rw [e2, gFI_sFI, if_pos ⟨rfl, rfl⟩]; exact e_add q1 k1
  refine T_m (h2.rf (f := 362) (by decide)) (T_bsome ?_)
  refine T_gi (g_in (h2.l (f := 362) (kd := 12) (n := 16) (by decide)) q1 (by omega) (by omega)) ?_
  refine T_st (fun S5 e5 => ?_)
  have h5 : MC m G Λ Z S5 := by rw [e5]; exact wa h2 (by decide) (by decide) (by decide)
  refine T_m (h5.rf (f := 363) (by decide)) (T_bsome ?_)
  refine T_gi (g_in (h5.l (f := 363) (kd := 10) (n := 16) (by decide)) q1 (by omega) (by omega)) ?_
  refine T_st (fun S8 e8 => ?_)
  have h8 : MC m G Λ Z S8 := by rw [e8]; exact wn 10 h5 (by decide) (by decide) (by decide)
  refine T_m (h8.rf (f := 369) (by decide)) (T_bsome ?_)
  refine T_gi (g_in (h8.l (f := 369) (kd := 10) (n := 16) (by decide)) q1 (by omega) (by omega)) ?_
  refine T_st (fun S11 e11 => ?_)
  have h11 : MC m G Λ Z S11 := by rw [e11]; exact wn 6 h8 (by decide) (by decide) (by decide)
  refine T_m (h11.rf (f := 371) (by decide)) (T_bsome ?_)
  refine T_gi (g_in (h11.l (f := 371) (kd := 10) (n := 16) (by decide)) q1 (by omega) (by omega)) ?_
  refine T_st (fun S14 e14 => ?_)
  have h14 : MC m G Λ Z S14 := by rw [e14]; exact wn 12 h11 (by decide) (by decide) (by decide)
  refine T_m (h14.rf (f := 373) (by decide)) (T_bsome ?_)
  refine T_gi (g_in (h14.l (f := 373) (kd := 12) (n := 16) (by decide)) q1 (by omega) (by omega)) ?_
  refine T_st (fun S17 e17 => ?_)
  have h17 : MC m G Λ Z S17 := by rw [e17]; exact wa h14 (by decide) (by decide) (by decide)
  refine T_m (h17.rf (f := 374) (by decide)) (T_bsome ?_)
  refine T_gi (g_in (h17.l (f := 374) (kd := 10) (n := 16) (by decide)) q1 (by omega) (by omega)) ?_
  refine T_st (fun S20 e20 => ?_)
  have h20 : MC m G Λ Z S20 := by rw [e20]; exact h17.wI (f := 374) (by decide) (rg0 (P := fun B => nB B _) (by decide)) (rg2 (B := 15) (by decide) (Or.inl rfl)) (by decide) (by decide)
  refine T_m (h20.rf (f := 377) (by decide)) (T_bsome ?_)
  refine T_gi (g_in (h20.l (f := 377) (kd := 10) (n := 16) (by decide)) q1 (by omega) (by omega)) ?_
  refine T_st (fun S23 e23 => ?_)
  have h23 : MC m G Λ Z S23 := by rw [e23]; exact wa h20 (by decide) (by decide) (by decide)
  have ecl := e_clamp q1 (by omega)
  have c362 : ∀ k, gAI S23 (G 362) k = if k = c then 1 else gAI S (G 362) k := fun k => by
    rw [e23, h20.oth (f := 362) (f' := 377) (by decide) (by decide) (by decide), e20, h17.oth (f := 362) (f' := 374) (by decide) (by decide) (by decide), e17, h14.oth (f := 362) (f' := 373) (by decide) (by decide) (by decide), e14, h11.oth (f := 362) (f' := 371) (by decide) (by decide) (by decide), e11, h8.oth (f := 362) (f' := 369) (by decide) (by decide) (by decide), e8, h5.oth (f := 362) (f' := 363) (by decide) (by decide) (by decide), e5, gAI_sAI, ecl]
    by_cases ck : k = c
    · rw [if_pos ⟨rfl, ck⟩, if_pos ck]; rfl
    · rw [if_neg (fun z => ck z.2), if_neg ck]
      rw [e2, e1]
      rfl
  have c373 : ∀ k, gAI S23 (G 373) k = if k = c then 0 else gAI S (G 373) k := fun k => by
    rw [e23, h20.oth (f := 373) (f' := 377) (by decide) (by decide) (by decide), e20, h17.oth (f := 373) (f' := 374) (by decide) (by decide) (by decide), e17, gAI_sAI, ecl]
    by_cases ck : k = c
    · rw [if_pos ⟨rfl, ck⟩, if_pos ck]; rfl
    · rw [if_neg (fun z => ck z.2), if_neg ck]
      rw [e14, h11.oth (f := 373) (f' := 371) (by decide) (by decide) (by decide), e11, h8.oth (f := 373) (f' := 369) (by decide) (by decide) (by decide), e8, h5.oth (f := 373) (f' := 363) (by decide) (by decide) (by decide), e5, h2.oth (f := 373) (f' := 362) (by decide) (by decide) (by decide), e2, e1]
      rfl
  have c374 : ∀ k, gAI S23 (G 374) k = if k = c then -5 else gAI S (G 374) k := fun k => by
    rw [e23, h20.oth (f := 374) (f' := 377) (by decide) (by decide) (by decide), e20, gAI_sAI, ecl]
    by_cases ck : k = c
    · rw [if_pos ⟨rfl, ck⟩, if_pos ck]
    · rw [if_neg (fun z => ck z.2), if_neg ck]
      rw [e17, h14.oth (f := 374) (f' := 373) (by decide) (by decide) (by decide), e14, h11.oth (f := 374) (f' := 371) (by decide) (by decide) (by decide), e11, h8.oth (f := 374) (f' := 369) (by decide) (by decide) (by decide), e8, h5.oth (f := 374) (f' := 363) (by decide) (by decide) (by decide), e5, h2.oth (f := 374) (f' := 362) (by decide) (by decide) (by decide), e2, e1]
      rfl
  refine T_some ⟨h23, q1, by rw [e23, e20, e17, e14, e11, e8, e5]; exact q2, fun k hk => ?_⟩
  rw [c362, c373, c374]
  show (_ ↔ up1 F.1 c true k = false) ∧ (up1 F.1 c true k = true → _ = up1 F.2.1 c 0 k ∧ _ = up1 F.2.2 c (-5) k)
  unfold up1
  by_cases ck : k = c
  · rw [if_pos ck, if_pos ck, if_pos ck, if_pos ck, if_pos ck, if_pos ck]
    exact ⟨⟨fun z => absurd z (by decide), fun z => by cases z⟩, fun _ => ⟨rfl, rfl⟩⟩
  · rw [if_neg ck, if_neg ck, if_neg ck, if_neg ck, if_neg ck, if_neg ck]
    exact hF k (by omega)
theorem start7 {N : Nat → Nat} {S : sSt} {q a1 a2 : Nat} (h1 : gFR S 241 q = some a1) (h2 : gFR S 242 q = some a2) : F_X6_start N S q = some (sFI (sFI (sFI (sFI (sFI (sFI (sFI S 247 q 1) 248 q 0) 249 q (-5)) 250 q 0) 245 q 0) 41 a1 0) 41 a2 0) := by
  simp only [F_X6_start, bnd, F_X1_empty, gFR_sFI, h1, h2, Option.bind_some]
theorem CF.start {N : Nat → Nat} {S S3 : sSt} {t c u us : Nat} {v : Int32} {F : aF} {a1 a2 : Nat} (h1 : gFR S 241 u = some a1) (h2 : gFR S 242 u = some a2) (e : F_X6_start N S u = some S3) (hF : CF S t c F) (hu : gAR S t c = some u) (hne : ∀ k u2, k < c → gAR S t k = some u2 → u2 ≠ u) : CF (sFI S3 281 us v) t (c + 1) (up1 F.1 c true, up1 F.2.1 c 0, up1 F.2.2 c (-5)) := by
  rw [start7 h1 h2] at e
  cases e
  intro k hk
  by_cases ck : k = c
  · refine ⟨u, by rw [ck]; exact hu, ?_, fun _ => ?_⟩
    · show _ ↔ up1 F.1 c true k = false
      rw [ck, up1_s]
      simp [gFI_sFI]
    · show _ = up1 F.2.1 c 0 k ∧ _ = up1 F.2.2 c (-5) k
      rw [ck, up1_s, up1_s]
      simp [gFI_sFI]
  · obtain ⟨u2, hu2, g1, g2⟩ := hF k (by omega)
    have n2 := hne k u2 (by omega) hu2
    refine ⟨u2, hu2, ?_, fun z => ?_⟩
    · show _ ↔ up1 F.1 c true k = false
      rw [up1_n ck]
      simpa [gFI_sFI, n2] using g1
    · show _ = up1 F.2.1 c 0 k ∧ _ = up1 F.2.2 c (-5) k
      have z' : up1 F.1 c true k = true := z
      rw [up1_n ck] at z'
      rw [up1_n ck, up1_n ck]
      simpa [gFI_sFI, n2] using g2 z'
theorem clear_c {x m o us t c c2 : Nat} {R : List Nat} {G : Nat → Nat} {ρ ω : Nat → Nat} {Λ : sLay} {S : sSt} {F : aF} (h : PD x m o R G us t c c2 ρ ω Λ S) (hc : c ≤ 16) (hF : CF S t c F) : T (F_X8_clear Λ.2.2 S x) (fun r : Int32 × sSt => r.1 = nI (cb F.1 c) ∧ Sh (sFI S 281 us 0, nfz [324], ρ, nfz []) (own Λ R) r.2) := by
  have h320 := h.2.2.2.2.2.2.2.2.1
  unfold F_X8_clear
  refine T_bndE h320 (T_bsome ?_)
  rw [there_val h hc hF]
  exact T_bsome (T_bndE h320 (T_bsome (T_bind (tF_X7_dropAll S (h.shz _ _) us h.kus) (fun S8 h8 => T_bFI h8 h.kx rfl (fun h => absurd h (by decide)) (fun S9 h9 => T_some ⟨rfl, h9⟩)))))
theorem unit_x {m : Nat} {G : Nat → Nat} {Λ : sLay} {Z : sSt} (S : sSt) (hS : MC m G Λ Z S) (c : Nat) (hc : c < 16) (ec : gFI S 361 m = nI c) : T (F_X9_unit Λ.2.2 S m) (fun r : Int32 × sSt => (∀ k, gAI r.2 (G 363) k = if k = c then 0 else gAI S (G 363) k) ∧ (∀ k, gAI r.2 (G 369) k = if k = c then 0 else gAI S (G 369) k) ∧ (∀ k, gAI r.2 (G 371) k = if k = c then 0 else gAI S (G 371) k) ∧ (∀ k, gAI r.2 (G 370) k = gAI S (G 370) k) ∧ ∀ k, gAI r.2 (G 372) k = gAI S (G 372) k) := by
  have wn : ∀ {T : sSt} {f : Nat} (B : Nat) {k : Nat}, MC m G Λ Z T → isM f = true → (∀ q ∈ rgN, q.1 = f → q.2 = B) → (∀ q ∈ rgO, q.1 ≠ f) → MC m G Λ Z (sAI T (G f) k 0) := fun B _ h hf h1 h2 => h.wI hf (rg1 (B := B) h1 ⟨0, Nat.zero_le _, k0⟩) (rg0 (P := fun B => oB B _) h2) (by decide) (by decide)
  have wa : ∀ {T : sSt} {f k : Nat} {v : Int32}, MC m G Λ Z T → isM f = true → (∀ q ∈ rgN, q.1 ≠ f) → (∀ q ∈ rgO, q.1 ≠ f) → MC m G Λ Z (sAI T (G f) k v) := fun h hf h1 h2 => h.wI hf (rg0 (P := fun B => nB B _) h1) (rg0 (P := fun B => oB B _) h2) (by decide) (by decide)
  unfold F_X9_unit
  refine T_st (fun S1 e1 => ?_)
  have h1 : MC m G Λ Z S1 := by rw [e1]; exact hS.wF (f := 360) (rg0 (P := fun B => nB B _) (by decide))
  have q1 : gFI S1 361 m = nI c := by rw [e1, gFI_ne (by decide)]; exact ec
  refine T_ite (fun h => absurd ((e_eq q1 k16 (by omega) (by omega)).mp h) (by omega)) (fun h => ?_)
  have d := mt (e_eq q1 k16 (by omega) (by omega)).mpr h
  refine T_st (fun S2 e2 => ?_)
  have h2 : MC m G Λ Z S2 := by rw [e2]; exact h1.wF (f := 361) (rg1 (B := 16) (by decide) ⟨c + 1, by omega, e_add q1 k1⟩)
  have q2 : gFI S2 361 m = nI (c + 1) := by rw [e2, gFI_sFI, if_pos ⟨rfl, rfl⟩]; exact e_add q1 k1
  refine T_m (h2.rf (f := 362) (by decide)) (T_bsome ?_)
  refine T_gi (g_in (h2.l (f := 362) (kd := 12) (n := 16) (by decide)) q1 (by omega) (by omega)) ?_
  refine T_st (fun S5 e5 => ?_)
  have h5 : MC m G Λ Z S5 := by rw [e5]; exact wa h2 (by decide) (by decide) (by decide)
  refine T_m (h5.rf (f := 363) (by decide)) (T_bsome ?_)
  refine T_gi (g_in (h5.l (f := 363) (kd := 10) (n := 16) (by decide)) q1 (by omega) (by omega)) ?_
  refine T_st (fun S8 e8 => ?_)
  have h8 : MC m G Λ Z S8 := by rw [e8]; exact wn 10 h5 (by decide) (by decide) (by decide)
  refine T_m (h8.rf (f := 369) (by decide)) (T_bsome ?_)
  refine T_gi (g_in (h8.l (f := 369) (kd := 10) (n := 16) (by decide)) q1 (by omega) (by omega)) ?_
  refine T_st (fun S11 e11 => ?_)
  have h11 : MC m G Λ Z S11 := by rw [e11]; exact wn 6 h8 (by decide) (by decide) (by decide)
  refine T_m (h11.rf (f := 371) (by decide)) (T_bsome ?_)
  refine T_gi (g_in (h11.l (f := 371) (kd := 10) (n := 16) (by decide)) q1 (by omega) (by omega)) ?_
  refine T_st (fun S14 e14 => ?_)
  have h14 : MC m G Λ Z S14 := by rw [e14]; exact wn 12 h11 (by decide) (by decide) (by decide)
  refine T_m (h14.rf (f := 373) (by decide)) (T_bsome ?_)
  refine T_gi (g_in (h14.l (f := 373) (kd := 12) (n := 16) (by decide)) q1 (by omega) (by omega)) ?_
  refine T_st (fun S17 e17 => ?_)
  have h17 : MC m G Λ Z S17 := by rw [e17]; exact wa h14 (by decide) (by decide) (by decide)
  refine T_m (h17.rf (f := 374) (by decide)) (T_bsome ?_)
  refine T_gi (g_in (h17.l (f := 374) (kd := 10) (n := 16) (by decide)) q1 (by omega) (by omega)) ?_
  refine T_st (fun S20 e20 => ?_)
  have h20 : MC m G Λ Z S20 := by rw [e20]; exact h17.wI (f := 374) (by decide) (rg0 (P := fun B => nB B _) (by decide)) (rg2 (B := 15) (by decide) (Or.inl rfl)) (by decide) (by decide)
  refine T_m (h20.rf (f := 377) (by decide)) (T_bsome ?_)
  refine T_gi (g_in (h20.l (f := 377) (kd := 10) (n := 16) (by decide)) q1 (by omega) (by omega)) ?_
  refine T_st (fun S23 e23 => ?_)
  have h23 : MC m G Λ Z S23 := by rw [e23]; exact wa h20 (by decide) (by decide) (by decide)
  have ecl := e_clamp q1 (by omega)
  have c363 : ∀ k, gAI S23 (G 363) k = if k = c then 0 else gAI S (G 363) k := fun k => by
    rw [e23, h20.oth (f := 363) (f' := 377) (by decide) (by decide) (by decide), e20, h17.oth (f := 363) (f' := 374) (by decide) (by decide) (by decide), e17, h14.oth (f := 363) (f' := 373) (by decide) (by decide) (by decide), e14, h11.oth (f := 363) (f' := 371) (by decide) (by decide) (by decide), e11, h8.oth (f := 363) (f' := 369) (by decide) (by decide) (by decide), e8, gAI_sAI, ecl]
    by_cases ck : k = c
    · rw [if_pos ⟨rfl, ck⟩, if_pos ck]
    · rw [if_neg (fun z => ck z.2), if_neg ck]
      rw [e5, h2.oth (f := 363) (f' := 362) (by decide) (by decide) (by decide), e2, e1]
      rfl
  have c369 : ∀ k, gAI S23 (G 369) k = if k = c then 0 else gAI S (G 369) k := fun k => by
    rw [e23, h20.oth (f := 369) (f' := 377) (by decide) (by decide) (by decide), e20, h17.oth (f := 369) (f' := 374) (by decide) (by decide) (by decide), e17, h14.oth (f := 369) (f' := 373) (by decide) (by decide) (by decide), e14, h11.oth (f := 369) (f' := 371) (by decide) (by decide) (by decide), e11, gAI_sAI, ecl]
    by_cases ck : k = c
    · rw [if_pos ⟨rfl, ck⟩, if_pos ck]
    · rw [if_neg (fun z => ck z.2), if_neg ck]
      rw [e8, h5.oth (f := 369) (f' := 363) (by decide) (by decide) (by decide), e5, h2.oth (f := 369) (f' := 362) (by decide) (by decide) (by decide), e2, e1]
      rfl
  have c371 : ∀ k, gAI S23 (G 371) k = if k = c then 0 else gAI S (G 371) k := fun k => by
    rw [e23, h20.oth (f := 371) (f' := 377) (by decide) (by decide) (by decide), e20, h17.oth (f := 371) (f' := 374) (by decide) (by decide) (by decide), e17, h14.oth (f := 371) (f' := 373) (by decide) (by decide) (by decide), e14, gAI_sAI, ecl]
    by_cases ck : k = c
    · rw [if_pos ⟨rfl, ck⟩, if_pos ck]
    · rw [if_neg (fun z => ck z.2), if_neg ck]
      rw [e11, h8.oth (f := 371) (f' := 369) (by decide) (by decide) (by decide), e8, h5.oth (f := 371) (f' := 363) (by decide) (by decide) (by decide), e5, h2.oth (f := 371) (f' := 362) (by decide) (by decide) (by decide), e2, e1]
      rfl
  have c370 : ∀ k, gAI S23 (G 370) k = gAI S (G 370) k := fun k => by
    rw [e23, h20.oth (f := 370) (f' := 377) (by decide) (by decide) (by decide), e20, h17.oth (f := 370) (f' := 374) (by decide) (by decide) (by decide), e17, h14.oth (f := 370) (f' := 373) (by decide) (by decide) (by decide), e14, h11.oth (f := 370) (f' := 371) (by decide) (by decide) (by decide), e11, h8.oth (f := 370) (f' := 369) (by decide) (by decide) (by decide), e8, h5.oth (f := 370) (f' := 363) (by decide) (by decide) (by decide), e5, h2.oth (f := 370) (f' := 362) (by decide) (by decide) (by decide), e2, e1]
    rfl
  have c372 : ∀ k, gAI S23 (G 372) k = gAI S (G 372) k := fun k => by
    rw [e23, h20.oth (f := 372) (f' := 377) (by decide) (by decide) (by decide), e20, h17.oth (f := 372) (f' := 374) (by decide) (by decide) (by decide), e17, h14.oth (f := 372) (f' := 373) (by decide) (by decide) (by decide), e14, h11.oth (f := 372) (f' := 371) (by decide) (by decide) (by decide), e11, h8.oth (f := 372) (f' := 369) (by decide) (by decide) (by decide), e8, h5.oth (f := 372) (f' := 363) (by decide) (by decide) (by decide), e5, h2.oth (f := 372) (f' := 362) (by decide) (by decide) (by decide), e2, e1]
    rfl
  exact T_some ⟨c363, c369, c371, c370, c372⟩
