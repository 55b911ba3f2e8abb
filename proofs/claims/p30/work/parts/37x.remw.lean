/-! A unit is removed: it goes off all ways. -/
theorem CL2.congr {f t c : Nat} {N : Nat → Nat} {S : sSt} {F : aF} {U V : aU} (h : CL2 f N S t c F U) (e : ∀ k, k < c → F.1 k = true → V k = U k) : CL2 f N S t c F V := fun k hk hT => by
  rw [e k hk hT]
  exact h k hk hT
theorem RL2.congr {fn fa w c : Nat} {G : Nat → Nat} {S : sSt} {F : aF} {U V : aU} (h : RL2 fn fa w G S c F U) (e : ∀ k, k < c → F.1 k = true → V k = U k) : RL2 fn fa w G S c F V := fun k hk hT => by
  rw [e k hk hT]
  exact h k hk hT
/-- done from j on -/
def outF (j : Nat) (p : Int32) (W : aU) : aU := fun k => if j ≤ k then (W k).filter (fun w => decide (w ≠ p)) else W k
section
variable {x m o us t c c2 : Nat} {R : List Nat} {G : Nat → Nat} {ρ ω : Nat → Nat} {Λ : sLay} {S S1 : sSt} {F : aF}
theorem dropW_loop (hc : c ≤ 16) (p : Int32) : ∀ (d j n : Nat) (S : sSt) (W : aU), PD x m o R G us t c c2 ρ ω Λ S → CF S t c F → CL2 241 Λ.2.2 S t c F W → j + d = c → d < n → T (L_X7_dropOne_23 Λ.2.2 n S us p (nI j)) (fun r : sSt => CL2 241 Λ.2.2 r t c F (outF j p W))
  | d, j, 0, _, _, _, _, _, _, h2 => absurd h2 (Nat.not_lt_zero d)
  | 0, j, n + 1, S, W, h, hF, hW, h3, _ => by
    show T (Y_X7_dropOne_23 Λ.2.2 (L_X7_dropOne_23 Λ.2.2 n) S us p (nI j)) _
    unfold Y_X7_dropOne_23
    rw [h.e1, if_pos ((nI_leI (by omega) (by omega)).mpr (by omega))]
    refine T_some (hW.congr (fun k hk _ => ?_))
    unfold outF
    rw [if_neg (by omega)]
  | d + 1, j, n + 1, S, W, h, hF, hW, h3, h4 => by
    show T (Y_X7_dropOne_23 Λ.2.2 (L_X7_dropOne_23 Λ.2.2 n) S us p (nI j)) _
    unfold Y_X7_dropOne_23 B_X7_dropOne_52
    rw [h.e1, if_neg (fun z => absurd ((nI_leI (by omega) (by omega)).mp z) (by omega)), n_a1]
    cases e : uo c F.1 (nI j) with
    | none =>
      rw [at_none h hc hF e]
      refine T_bsome (T_onlN (T_mono (dropW_loop hc p d (j + 1) n S W h hF hW (by omega) (by omega)) (fun r hr => hr.congr (fun k hk hk2 => ?_))))
      have hjT := uo_none (k := j) e (by omega) hc rfl
      unfold outF
      by_cases ck : j + 1 ≤ k
      · rw [if_pos ck, if_pos (by omega)]
      · have nk : k ≠ j := fun z => by rw [z, hjT] at hk2; cases hk2
        rw [if_neg ck, if_neg (by omega)]
    | some k0 =>
      obtain ⟨u, hu, ea, -⟩ := at_some h hc hF e
      obtain ⟨ek, hk, hT, hb⟩ := uo_some e
      have ej : j = k0 := (nI_eq (by omega) hb).mp ek
      subst ej
      obtain ⟨u2, l, b, hu2, hl, hL⟩ := hW j hk hT
      rw [hu] at hu2
      cases hu2
      have tu := h.un hu
      obtain ⟨tl, rl, -⟩ := h.fl (f := 241) tu (by decide) rfl (by decide) (by decide) hl
      obtain ⟨S2, e2, lf, hL2⟩ := item_val hL p
      have g : Sh (S, nfz [41], ρ, nfz [241, 1241, 2241]) (own Λ R) S2 := by
        obtain ⟨r, er, gr⟩ := tF_X1_dropItem (Z := (S, nfz [41], ρ, nfz [241, 1241, 2241])) (Λ := own Λ R) S (h.shz _ _) rfl l tl p (Nw.of (f := 241) rl ⟨rfl, rfl, rfl⟩)
        have e3 : F_X1_dropItem (own Λ R).2.2 S l p = some S2 := e2
        rw [e3] at er
        cases er
        exact gr
      have h2 := h.clz g rfl rfl
      have F2 := CF.fz h hF g rfl rfl rfl
      have W2 := CL2.one h hc hW (by decide) rfl (by decide) (by decide) hk hu hl hL2 hL.2.1 lf
      rw [ea]
      refine T_bsome (T_onlS (T_bndE hl (T_bsome ?_)))
      rw [e2]
      refine T_bsome (T_mono (dropW_loop hc p d (j + 1) n S2 _ h2 F2 W2 (by omega) (by omega)) (fun r hr => hr.congr (fun k hk _ => ?_)))
      unfold outF
      by_cases cj : k = j
      · rw [cj, if_pos (Nat.le_refl j), if_neg (by omega), up1_s]
      · rw [up1_n cj]
        by_cases ck : j + 1 ≤ k
        · rw [if_pos ck, if_pos (by omega)]
        · rw [if_neg ck, if_neg (by omega)]
theorem remW_c (h : PD x m o R G us t c c2 ρ ω Λ S) (hc : c ≤ 16) (hF : CF S t c F) {W : aU} (hW : CL2 241 Λ.2.2 S t c F W) (p : Int32) : T (F_X8_remove Λ.2.2 S x p) (fun r : Int32 × sSt => CL2 241 Λ.2.2 r.2 t c (aRem c F p).2 (aRemW c F W p)) := by
  have h320 := h.2.2.2.2.2.2.2.2.1
  have hFU := FU_big
  unfold F_X8_remove aRem aRemW
  refine T_bndE h320 (T_bsome ?_)
  cases e : uo c F.1 p with
  | none =>
    rw [at_none h hc hF e]
    exact T_bsome (T_onlN (T_some hW))
  | some k =>
    obtain ⟨u, hu, ea, h7, h8, h9⟩ := at_some h hc hF e
    obtain ⟨ep, hk, hT, -⟩ := uo_some e
    have tu := h.un hu
    rw [ea]
    refine T_bsome (T_onlS (T_bndE h320 (T_bsome ?_)))
    have g4 : Sh (S, nfz [41, 247, 249], ρ, nfz [241, 1241, 2241]) (own Λ R) (sFI S 247 u 0) := (h.shz _ _).sFI 247 tu 0 rfl (fun h => absurd h (by decide))
    have g4' : Sh (S, nfz [247], ρ, nfz []) (own Λ R) (sFI S 247 u 0) := (h.shz _ _).sFI 247 tu 0 rfl (fun h => absurd h (by decide))
    have c4 := CF.set7 h hc hF hk hu
    have p4 := h.clz g4 rfl rfl
    have w4 := CL2.fz h hW (by decide) rfl (by decide) (by decide) g4' rfl rfl
    have hm : ∀ j, up1 F.1 k false j = true → F.1 j = true := fun j hj => by
      by_cases cj : j = k
      · rw [cj, up1_s] at hj; cases hj
      · rw [up1_n cj] at hj; exact hj
    have hd : T (F_X7_dropOne Λ.2.2 S us p) (fun r : sSt => Sh (S, nfz [41, 247, 249], ρ, nfz [241, 1241, 2241]) (own Λ R) r ∧ CF r t c (up1 F.1 k false, F.2.1, freeF F.2.2 p) ∧ CL2 241 Λ.2.2 r t c (up1 F.1 k false, F.2.1, freeF F.2.2 p) (outW p W)) := by
      unfold F_X7_dropOne
      rw [ea]
      refine T_bsome (T_onlS (T_bnd (T_bind (free_spec p4 hc c4 p) (fun S6 r6 => ?_))))
      have g6 := g4.up r6.1 (nfz_sub (by decide)) (nfz_sub (by decide))
      have p6 := h.clz g6 rfl rfl
      have w6 : CL2 241 Λ.2.2 S6 t c (up1 F.1 k false, F.2.1, freeF F.2.2 p) W := (CL2.fz p4 w4 (by decide) rfl (by decide) (by decide) r6.1 rfl rfl).mono hm
      refine T_mono (T_and (tL_X7_dropOne_23 (Z := (S6, nfz [41], ρ, nfz [241, 1241, 2241])) ⟨rfl, rfl, rfl⟩ rfl FU S6 (p6.shz _ _) us h.kus p 0 m31.zero) (dropW_loop hc p c 0 FU S6 W p6 r6.2 w6 (by omega) (by omega))) (fun r hr => ⟨g6.up hr.1 (nfz_sub (by decide)) (nfz_sub (by decide)), CF.fz p6 r6.2 hr.1 rfl rfl rfl, hr.2.congr (fun j hj _ => ?_)⟩)
      unfold outF outW
      rw [if_pos (Nat.zero_le j)]
    refine T_bind hd (fun S9 r9 => ?_)
    have p9 := h.clz r9.1 rfl rfl
    refine T_bndE (b := us) p9.2.2.2.2.2.2.2.2.1 (T_bsome ?_)
    rw [there_val p9 hc r9.2.1]
    exact T_bsome (T_some r9.2.2)
end
/-! the reference -/
section
variable {m c : Nat} {G : Nat → Nat} {Λ : sLay}
theorem rw_in {Y : gY} (w369 : Y.2.2 369 = false) (w370 : Y.2.2 370 = false) {q : Nat} (hq : q < 16) {p : Int32} {xs : List Int32} (hx : xs.length ≤ 6) {S0 : sSt} {k29 : sSt → Nat → Int32 → Int32 → Option (Int32 × sSt)} {P : Int32 × sSt → Prop} (e0 : gAI S0 (G 369) q = nI xs.length)
    (hk : ∀ S1, MI m G Λ Y S1 → (∀ a, gAI S1 (G 369) a = if a = q then nI (xs.filter (fun w => decide (w ≠ p))).length else gAI S0 (G 369) a) → (∀ i v, (xs.filter (fun w => decide (w ≠ p)))[i]? = some v → gAI S1 (G 370) (6 * q + i) = v) → (∀ a i, a ≠ q → i < 6 → gAI S1 (G 370) (6 * a + i) = gAI S0 (G 370) (6 * a + i)) → T (k29 S1 m p (nI q + 1)) P) :
    ∀ (d r n : Nat) (S : sSt), r + d = xs.length → d < n → MI m G Λ Y S → (∀ a, gAI S (G 369) a = gAI S0 (G 369) a) → (∀ i v, ((xs.take r).filter (fun w => decide (w ≠ p)))[i]? = some v → gAI S (G 370) (6 * q + i) = v) → (∀ i v, r ≤ i → xs[i]? = some v → gAI S (G 370) (6 * q + i) = v) → (∀ a i, a ≠ q → i < 6 → gAI S (G 370) (6 * a + i) = gAI S0 (G 370) (6 * a + i)) →
    T (L_X9_remove_42 Λ.2.2 k29 n S m p (nI q) (nI ((xs.take r).filter (fun w => decide (w ≠ p))).length) (nI r)) P
  | d, r, 0, _, _, h2, _, _, _, _, _ => absurd h2 (Nat.not_lt_zero d)
  | 0, r, n + 1, S, h3, _, h, en, ea, eb, eo => by
    have et : xs.take r = xs := List.take_of_length_le (by omega)
    have e1 : gAI S (G 369) (Int32.toNatClampNeg (nI q)) = nI xs.length := by rw [nI_clamp (by omega), en]; exact e0
    have hl := List.length_filter_le (fun w => decide (w ≠ p)) xs
    rw [et] at ea ⊢
    show T (Y_X9_remove_42 Λ.2.2 k29 (L_X9_remove_42 Λ.2.2 k29 n) S m p (nI q) (nI (xs.filter (fun w => decide (w ≠ p))).length) (nI r)) P
    unfold Y_X9_remove_42
    refine T_m (h.c.rf (f := 369) (by decide)) (T_bsome (T_gi (g_in (h.c.l (f := 369) (kd := 10) (n := 16) (by decide)) rfl (by omega) (by omega)) ?_))
    rw [e1, if_pos ((nI_leI (by omega) (by omega)).mpr (by omega))]
    refine T_m (h.c.rf (f := 369) (by decide)) (T_bsome (T_gi (g_in (h.c.l (f := 369) (kd := 10) (n := 16) (by decide)) rfl (by omega) (by omega)) ?_))
    refine T_st (fun S15 e15 => ?_)
    refine hk S15 ?_ (fun a => ?_) (fun i v hv => ?_) (fun a i ha hi => ?_)
    · rw [e15]
      exact h.wI (f := 369) (by decide) w369 (rg1 (B := 6) (by decide) ⟨_, by omega, rfl⟩) (rg0 (P := fun B => oB B _) (by decide))
    · rw [e15, gAI_sAI, nI_clamp (by omega)]
      by_cases ca : a = q
      · rw [if_pos ⟨rfl, ca⟩, if_pos ca]
      · rw [if_neg (fun z => ca z.2), if_neg ca]
        exact en a
    · rw [e15, h.c.oth (f := 370) (f' := 369) (by decide) (by decide) (by decide)]
      exact ea i v hv
    · rw [e15, h.c.oth (f := 370) (f' := 369) (by decide) (by decide) (by decide)]
      exact eo a i ha hi
  | d + 1, r, n + 1, S, h3, h4, h, en, ea, eb, eo => by
    have hr : r < xs.length := by omega
    have e1 : gAI S (G 369) (Int32.toNatClampNeg (nI q)) = nI xs.length := by rw [nI_clamp (by omega), en]; exact e0
    have et : xs.take (r + 1) = xs.take r ++ [xs[r]] := (List.take_append_getElem hr).symm
    have hl := List.length_filter_le (fun w => decide (w ≠ p)) (xs.take r)
    have hl2 : (xs.take r).length = r := by rw [List.length_take]; omega
    have ei : (6 : Int32) * nI q + nI r = nI (6 * q + r) := e_add (e_mul k6 rfl) rfl
    have ev : gAI S (G 370) (Int32.toNatClampNeg ((6 : Int32) * nI q + nI r)) = xs[r] := by
      rw [e_clamp ei (by omega)]
      exact eb r _ (Nat.le_refl r) (List.getElem?_eq_getElem hr)
    show T (Y_X9_remove_42 Λ.2.2 k29 (L_X9_remove_42 Λ.2.2 k29 n) S m p (nI q) (nI ((xs.take r).filter (fun w => decide (w ≠ p))).length) (nI r)) P
    unfold Y_X9_remove_42 B_X9_remove_95
    refine T_m (h.c.rf (f := 369) (by decide)) (T_bsome (T_gi (g_in (h.c.l (f := 369) (kd := 10) (n := 16) (by decide)) rfl (by omega) (by omega)) ?_))
    rw [e1, if_neg (fun z => absurd ((nI_leI (by omega) (by omega)).mp z) (by omega))]
    refine T_m (h.c.rf (f := 370) (by decide)) (T_bsome (T_gi (g_in (h.c.l (f := 370) (kd := 10) (n := 96) (by decide)) ei (by omega) (by omega)) ?_))
    rw [ev, n_a1]
    by_cases cv : xs[r] = p
    · rw [if_pos cv]
      have ef : (xs.take (r + 1)).filter (fun w => decide (w ≠ p)) = (xs.take r).filter (fun w => decide (w ≠ p)) := by
        rw [et, List.filter_append, List.filter_cons_of_neg (by simp [cv]), List.filter_nil, List.append_nil]
      have ih := rw_in w369 w370 hq hx e0 hk d (r + 1) n S (by omega) (by omega) h en (by rw [ef]; exact ea) (fun i v hi hv => eb i v (by omega) hv) eo
      rw [ef] at ih
      exact ih
    · rw [if_neg cv]
      have ef : (xs.take (r + 1)).filter (fun w => decide (w ≠ p)) = (xs.take r).filter (fun w => decide (w ≠ p)) ++ [xs[r]] := by
        rw [et, List.filter_append, List.filter_cons_of_pos (by simp [cv]), List.filter_nil]
      have ew : (6 : Int32) * nI q + nI ((xs.take r).filter (fun w => decide (w ≠ p))).length = nI (6 * q + ((xs.take r).filter (fun w => decide (w ≠ p))).length) := e_add (e_mul k6 rfl) rfl
      refine T_m (h.c.rf (f := 370) (by decide)) (T_m (h.c.rf (f := 370) (by decide)) (T_bsome (T_gi (g_in (h.c.l (f := 370) (kd := 10) (n := 96) (by decide)) ei (by omega) (by omega)) (T_bsome (T_gi (g_in (h.c.l (f := 370) (kd := 10) (n := 96) (by decide)) ew (by omega) (by omega)) ?_)))))
      rw [ev]
      obtain ⟨j15, hj15, ej15⟩ := h.c.n (f := 370) (B := 15) (by decide) (Int32.toNatClampNeg ((6 : Int32) * nI q + nI r))
      rw [ev] at ej15
      refine T_st (fun S22 e22 => ?_)
      have h22 : MI m G Λ Y S22 := by rw [e22]; exact h.wI (f := 370) (by decide) w370 (rg1 (B := 15) (by decide) ⟨j15, hj15, ej15⟩) (rg0 (P := fun B => oB B _) (by decide))
      have a22 : ∀ a, gAI S22 (G 370) a = if a = 6 * q + ((xs.take r).filter (fun w => decide (w ≠ p))).length then xs[r] else gAI S (G 370) a := fun a => by
        rw [e22, gAI_sAI, e_clamp ew (by omega)]
        by_cases ca : a = 6 * q + ((xs.take r).filter (fun w => decide (w ≠ p))).length
        · rw [if_pos ⟨rfl, ca⟩, if_pos ca]
        · rw [if_neg (fun z => ca z.2), if_neg ca]
      have ih := rw_in w369 w370 hq hx e0 hk d (r + 1) n S22 (by omega) (by omega) h22 (fun a => by rw [e22, h.c.oth (f := 369) (f' := 370) (by decide) (by decide) (by decide)]; exact en a) (fun i v hv => ?_) (fun i v hi hv => ?_) (fun a i ha hi => ?_)
      · rw [ef, List.length_append, List.length_singleton] at ih
        rw [n_a1]
        exact ih
      · rw [ef] at hv
        rw [a22]
        by_cases ci : i = ((xs.take r).filter (fun w => decide (w ≠ p))).length
        · rw [if_pos (by rw [ci])]
          rw [ci, List.getElem?_append_right (Nat.le_refl _), Nat.sub_self] at hv
          cases hv
          rfl
        · rw [if_neg (by omega)]
          have hi := (List.getElem?_eq_some_iff.mp hv).1
          rw [List.length_append, List.length_singleton] at hi
          rw [List.getElem?_append_left (by omega)] at hv
          exact ea i v hv
      · rw [a22, if_neg (by omega)]
        exact eb i v (by omega) hv
      · rw [a22, if_neg (fun z => ha (wk_inj hi (by omega) z).1)]
        exact eo a i ha hi
end
section
variable {m c : Nat} {G : Nat → Nat} {Λ : sLay}
theorem rw_out {Y : gY} (w369 : Y.2.2 369 = false) (w370 : Y.2.2 370 = false) (f361 : Y.2.2 361 = true) (hc : c ≤ 16) (ecY : gFI Y.2.1 361 m = nI c) {A : aF} (hA : ∀ k, A.1 k = true) (p : Int32) : ∀ (d q n : Nat) (S : sSt) (W : aU), q + d = c → d < n → MI m G Λ Y S → RL2 369 370 6 G S c A W → T (L_X9_remove_29 Λ.2.2 n S m p (nI q)) (fun r : Int32 × sSt => RL2 369 370 6 G r.2 c A (outF q p W))
  | d, q, 0, _, _, _, h2, _, _ => absurd h2 (Nat.not_lt_zero d)
  | 0, q, n + 1, S, W, h3, _, h, hR => by
    have ec : gFI S 361 m = nI c := (h.2 361 f361).1.trans ecY
    show T (Y_X9_remove_29 Λ.2.2 (L_X9_remove_29 Λ.2.2 n) S m p (nI q)) _
    unfold Y_X9_remove_29
    rw [ec, if_pos ((nI_leI (by omega) (by omega)).mpr (by omega))]
    refine T_bind (tF_X9_unitsThere S h) (fun v _ => T_some (hR.congr (fun k hk _ => ?_)))
    unfold outF
    rw [if_neg (by omega)]
  | d + 1, q, n + 1, S, W, h3, h4, h, hR => by
    have hFU := FU_big
    have ec : gFI S 361 m = nI c := (h.2 361 f361).1.trans ecY
    obtain ⟨r1, r2, r3⟩ := hR q (by omega) (hA q)
    show T (Y_X9_remove_29 Λ.2.2 (L_X9_remove_29 Λ.2.2 n) S m p (nI q)) _
    unfold Y_X9_remove_29
    rw [ec, if_neg (fun z => absurd ((nI_leI (by omega) (by omega)).mp z) (by omega))]
    refine rw_in w369 w370 (q := q) (by omega) r2 (S0 := S) r1 (fun S1 h1 en ea eo => ?_) (W q).length 0 FU S (by omega) (by omega) h (fun _ => rfl) (fun i v hv => by rw [List.take_zero, List.filter_nil] at hv; cases hv) (fun i v _ hv => r3 i v hv) (fun _ _ _ _ => rfl)
    rw [n_a1]
    have hR1 : RL2 369 370 6 G S1 c A (up1 W q ((W q).filter (fun w => decide (w ≠ p)))) := fun j hj hT => by
      obtain ⟨q1, q2, q3⟩ := hR j hj hT
      by_cases cj : j = q
      · subst cj
        rw [up1_s]
        have hl := List.length_filter_le (fun w => decide (w ≠ p)) (W j)
        exact ⟨by rw [en, if_pos rfl], by omega, ea⟩
      · rw [up1_n cj]
        refine ⟨by rw [en, if_neg cj]; exact q1, q2, fun i v hv => ?_⟩
        have hi := (List.getElem?_eq_some_iff.mp hv).1
        rw [eo j i cj (by omega)]
        exact q3 i v hv
    refine T_mono (rw_out w369 w370 f361 hc ecY hA p d (q + 1) n S1 _ (by omega) (by omega) h1 hR1) (fun r hr => hr.congr (fun k hk _ => ?_))
    unfold outF
    by_cases cj : k = q
    · rw [cj, if_pos (Nat.le_refl q), if_neg (by omega), up1_s]
    · rw [up1_n cj]
      by_cases ck : q + 1 ≤ k
      · rw [if_pos ck, if_pos (by omega)]
      · rw [if_neg ck, if_neg (by omega)]
/-- what the rows hold, also of units that are not there -/
def conW (G : Nat → Nat) (S : sSt) (F : aF) (W : aU) : aU := fun k => if F.1 k = true then W k else (List.range (Int32.toNatClampNeg (gAI S (G 369) k))).map (fun i => gAI S (G 370) (6 * k + i))
theorem con_RL {Z S : sSt} {F : aF} {W : aU} (hS : MC m G Λ Z S) (hR : RL2 369 370 6 G S c F W) (A : aF) : RL2 369 370 6 G S c A (conW G S F W) := fun k hk _ => by
  unfold conW
  by_cases ck : F.1 k = true
  · rw [if_pos ck]
    exact hR k hk ck
  · rw [if_neg ck]
    obtain ⟨j, hj, ej⟩ := hS.n (f := 369) (B := 6) (by decide) k
    rw [ej, nI_clamp (by omega)]
    refine ⟨by rw [List.length_map, List.length_range], by rw [List.length_map, List.length_range]; exact hj, fun i v hv => ?_⟩
    obtain ⟨hi, e⟩ := List.getElem?_eq_some_iff.mp hv
    rw [List.getElem_map, List.getElem_range] at e
    exact e
theorem remW_r {S : sSt} {F : aF} {W : aU} (hS : MC m G Λ S S) (hc : c ≤ 16) (ec : gFI S 361 m = nI c) (hF : RF G S c F) (hR : RL2 369 370 6 G S c F W) (p : Int32) : T (F_X9_remove Λ.2.2 S m p) (fun r : Int32 × sSt => RL2 369 370 6 G r.2 c (aRem c F p).2 (aRemW c F W p)) := by
  unfold F_X9_remove aRem aRemW
  have hFU := FU_big
  refine T_st (fun S1 e1 => ?_)
  have h1 : MI m G Λ (S, S, nfz [360, 362, 369, 370, 374]) S1 := by rw [e1]; exact (hS.mi _).wF (f := 360) rfl (rg0 (P := fun B => nB B _) (by decide))
  have ec1 : gFI S1 361 m = nI c := by rw [e1, gFI_ne (by decide)]; exact ec
  have hF1 : RF G S1 c F := by rw [e1]; exact hF
  have hR1 : RL2 369 370 6 G S1 c F W := by rw [e1]; exact hR
  rw [isU_val h1.c hc ec1 (fun k hk => (hF1 k hk).1) p]
  refine T_bsome ?_
  cases e : uo c F.1 p with
  | none =>
    rw [if_pos (iU0.mpr rfl)]
    exact T_some hR1
  | some k =>
    obtain ⟨ep, hk, hT, -⟩ := uo_some e
    rw [if_neg (fun z => by have := iU0.mp z; cases this)]
    have i1 := e_clamp ep (by omega)
    refine T_m (h1.c.rf (f := 362) (by decide)) (T_bsome (T_gi (g_in (h1.c.l (f := 362) (kd := 12) (n := 16) (by decide)) ep (by omega) (by omega)) ?_))
    refine T_st (fun S6 e6 => ?_)
    have h6 : MI m G Λ (S, S, nfz [360, 362, 369, 370, 374]) S6 := by rw [e6]; exact h1.wI (f := 362) (by decide) rfl (rg0 (P := fun B => nB B _) (by decide)) (rg0 (P := fun B => oB B _) (by decide))
    have ec6 : gFI S6 361 m = nI c := by rw [e6]; exact ec1
    have hR6 : RL2 369 370 6 G S6 c F W := hR1.kp (fun i => by rw [e6, h1.c.oth (f := 369) (f' := 362) (by decide) (by decide) (by decide)]) (fun i => by rw [e6, h1.c.oth (f := 370) (f' := 362) (by decide) (by decide) (by decide)])
    refine T_bind (rfree_spec (Y := (S, S6, nfz [374])) (h6.loc _) hc ec6 rfl p) (fun S8 r8 => ?_)
    have h8 := h6.up r8.1 (nfz_sub (l := [360, 362, 369, 370, 374]) (by decide))
    have ec8 : gFI S8 361 m = nI c := (r8.1.2 361 rfl).1.trans ec6
    have hR8 : RL2 369 370 6 G S8 c F W := hR6.kp (fun i => ((r8.1.2 369 rfl).2 rfl i).1) (fun i => ((r8.1.2 370 rfl).2 rfl i).1)
    have hA := con_RL h8.c hR8 (fun _ => true, F.2)
    refine T_mono (rw_out (Y := (S, S8, nfz [369, 370])) rfl rfl rfl hc ec8 (A := (fun _ => true, F.2)) (fun _ => rfl) p c 0 FU S8 _ (by omega) (by omega) (h8.loc _) hA) (fun r hr => ?_)
    intro j hj hTj
    have hTF : F.1 j = true := by
      have hTj' : up1 F.1 k false j = true := hTj
      by_cases cj : j = k
      · rw [cj, up1_s] at hTj'; cases hTj'
      · rw [up1_n cj] at hTj'; exact hTj'
    have ho : outF 0 p (conW G S8 F W) j = outW p W j := by
      unfold outF outW conW
      rw [if_pos (Nat.zero_le j), if_pos hTF]
    have hj2 := hr j hj rfl
    rw [ho] at hj2
    exact hj2
end
