/-! The reference's walk along a chain. -/
def KF (m : Nat) (G : Nat → Nat) (S S1 : sSt) : Prop := S1.2.2.1 = S.2.2.1 ∧ ∀ f, isM f = true → f ≠ 382 → f ≠ 383 → f ≠ 385 → f ≠ 386 → ∀ k, gAI S1 (G f) k = gAI S (G f) k ∧ gAJ S1 (G f) k = gAJ S (G f) k
/-- the pile, its top ahead -/
def pil (G : Nat → Nat) (S : sSt) : List ((Nat × Nat) × Nat) → Prop
  | [] => True
  | q :: r => gAI S (G 385) r.length = nI (ix q.1) ∧ gAI S (G 386) r.length = nI q.2 ∧ pil G S r
theorem pil.pilcg {G : Nat → Nat} {S S1 : sSt} : ∀ {l : List ((Nat × Nat) × Nat)}, pil G S l → (∀ i, i < l.length → gAI S1 (G 385) i = gAI S (G 385) i ∧ gAI S1 (G 386) i = gAI S (G 386) i) → pil G S1 l
  | [], _, _ => trivial
  | q :: r, h, e => by
    obtain ⟨h1, h2, h3⟩ := h
    have z := e r.length (by rw [List.length_cons]; omega)
    exact ⟨z.1.trans h1, z.2.trans h2, pil.pilcg h3 (fun i hi => e i (by rw [List.length_cons]; omega))⟩
def FQ (m c : Nat) (F : aF) (H : aH) (G : Nat → Nat) (S0 S : sSt) (l : List ((Nat × Nat) × Nat)) (M : List (Nat × Nat)) : Prop :=
  KF m G S0 S ∧ pil G S l ∧ (∀ q, q ∈ l → q.2 ≤ 3 ∧ ∃ th, nd c F H q.1 th) ∧ (gFI S 384 m = nI M.length ∧ (∀ (i : Nat) (w : Nat × Nat), M[i]? = some w → gAI S (G 382) i = nI (ix w)) ∧ ∀ w, w ∈ M → ∃ th, nd c F H w th) ∧ (∀ w th, nd c F H w th → (gAI S (G 383) (ix w) = 0 ↔ w ∉ M)) ∧ (M.length + cb (fun j => decide (gAI S (G 383) j = 0)) 160 ≤ 160 ∧ l.length ≤ M.length + 1)
section
variable {m c p : Nat} {G : Nat → Nat} {Λ : sLay} {N : Nat → Nat} {S0 S S1 : sSt} {F : aF} {W : aU} {H : aH} {z w s : Nat × Nat} {l r : List ((Nat × Nat) × Nat)} {M : List (Nat × Nat)} {tw th : aT}
theorem KF.kfI (hG : MG m G Λ S0) (h : KF m G S0 S) (f' : Nat) (hf' : isM f' = true) (h2 : f' = 382 ∨ f' = 383 ∨ f' = 385 ∨ f' = 386) {k : Nat} {v : Int32} : KF m G S0 (sAI S (G f') k v) := ⟨h.1, fun f hf n2 n3 n5 n6 q => ⟨(hG.o f f' hf hf' (by rcases h2 with rfl | rfl | rfl | rfl <;> assumption)).trans (h.2 f hf n2 n3 n5 n6 q).1, (h.2 f hf n2 n3 n5 n6 q).2⟩⟩
theorem ix_lt (hc : c ≤ 16) (hz : nd c F H z th) (h10 : z.2 < 10) : ix z < 160 := by
  have := hz.1
  show 10 * z.1 + z.2 < 160
  omega
theorem cbz {S1 : sSt} (e : ∀ j, gAI S1 (G 383) j = gAI S (G 383) j) : cb (fun j => decide (gAI S1 (G 383) j = 0)) 160 = cb (fun j => decide (gAI S (G 383) j = 0)) 160 := cb_eq 160 (fun i _ => by
  show decide _ = decide _
  rw [e])
theorem FQ.fqpop (h : FQ m c F H G S0 S ((z, p) :: r) M) : FQ m c F H G S0 S r M := by
  obtain ⟨h1, h2, h3, h4, h5, h6, h7⟩ := h
  rw [List.length_cons] at h7
  exact ⟨h1, h2.2.2, fun q hq => h3 q (List.mem_cons_of_mem _ hq), h4, h5, h6, by omega⟩
theorem FQ.fqnx (hG : MG m G Λ S0) (h : FQ m c F H G S0 S ((z, p) :: r) M) (hp : p < 3) : FQ m c F H G S0 (sAI S (G 386) r.length (nI (p + 1))) ((z, p + 1) :: r) M := by
  obtain ⟨h1, h2, h3, h4, h5, h6, h7⟩ := h
  refine ⟨h1.kfI hG 386 rfl (Or.inr (Or.inr (Or.inr rfl))), ⟨(hG.o 385 386).trans h2.1, by rw [sI, if_pos rfl], h2.2.2.pilcg (fun i hi => ⟨hG.o 385 386, by rw [sI, if_neg (by omega)]⟩)⟩, fun q hq => ?_, ⟨h4.1, fun i y hy => (hG.o 382 386).trans (h4.2.1 i y hy), h4.2.2⟩, fun y ty hy => ?_, ?_, h7⟩
  · rcases List.mem_cons.mp hq with e | e
    · rw [e]
      exact ⟨by show p + 1 ≤ 3; omega, (h3 (z, p) List.mem_cons_self).2⟩
    · exact h3 q (List.mem_cons_of_mem _ e)
  · rw [hG.o 383 386]
    exact h5 y ty hy
  · rw [cbz (S := S) (fun j => hG.o 383 386)]
    exact h6
theorem FQ.fqmet (hG : MG m G Λ S0) (hc : c ≤ 16) (l10 : ∀ y ty, nd c F H y ty → y.2 < 10) (h : FQ m c F H G S0 S l M) (hw : nd c F H w tw) (hM : w ∉ M) {v : Int32} (hv : v ≠ 0) : FQ m c F H G S0 (sFI (sAI (sAI S (G 383) (ix w) v) (G 382) M.length (nI (ix w))) 384 m (nI (M.length + 1))) l (M ++ [w]) := by
  obtain ⟨h1, h2, h3, h4, h5, h6, h7⟩ := h
  have e383 : ∀ i, gAI (sFI (sAI (sAI S (G 383) (ix w) v) (G 382) M.length (nI (ix w))) 384 m (nI (M.length + 1))) (G 383) i = if i = ix w then v else gAI S (G 383) i := fun i => by rw [gAI_sFI, hG.o 383 382, sI]
  have eo : ∀ f, isM f = true → f ≠ 382 → f ≠ 383 → ∀ i, gAI (sFI (sAI (sAI S (G 383) (ix w) v) (G 382) M.length (nI (ix w))) 384 m (nI (M.length + 1))) (G f) i = gAI S (G f) i := fun f hf n2 n3 i => by rw [gAI_sFI, hG.o f 382 hf rfl n2, hG.o f 383 hf rfl n3]
  have k3 := (h1.kfI hG 383 rfl (Or.inr (Or.inl rfl)) (k := ix w) (v := v)).kfI hG 382 rfl (Or.inl rfl) (k := M.length) (v := nI (ix w))
  refine ⟨k3, h2.pilcg (fun i _ => ⟨eo 385 rfl (by decide) (by decide) i, eo 386 rfl (by decide) (by decide) i⟩), h3, ⟨?_, sncP (P := fun i y => gAI (sFI (sAI (sAI S (G 383) (ix w) v) (G 382) M.length (nI (ix w))) 384 m (nI (M.length + 1))) (G 382) i = nI (ix y)) (fun i y hy => ?_) ?_, fun y hy => ?_⟩, fun y ty hy => ?_, ?_, ?_⟩
  · rw [gFI_sFI, if_pos ⟨rfl, rfl⟩, List.length_append, List.length_singleton]
  · have hi := (List.getElem?_eq_some_iff.mp hy).1
    rw [gAI_sFI, sI, if_neg (by omega), hG.o 382 383]
    exact h4.2.1 i y hy
  · rw [gAI_sFI, sI, if_pos rfl]
  · rcases List.mem_append.mp hy with e | e
    · exact h4.2.2 y e
    · rw [List.mem_singleton.mp e]
      exact ⟨tw, hw⟩
  · rw [e383, List.mem_append, List.mem_singleton]
    by_cases cy : y = w
    · rw [cy, if_pos rfl]
      exact ⟨fun e => absurd e hv, fun e => absurd (Or.inr rfl) e⟩
    · rw [if_neg (fun e => cy (ix_inj (l10 y ty hy) (l10 w tw hw) e)), h5 y ty hy]
      exact ⟨fun e z => z.elim e cy, fun e z => e (Or.inl z)⟩
  · rw [List.length_append, List.length_singleton]
    have e0 : gAI S (G 383) (ix w) = 0 := (h5 w tw hw).mpr hM
    have := cb_set (f := fun j => decide (gAI (sFI (sAI (sAI S (G 383) (ix w) v) (G 382) M.length (nI (ix w))) 384 m (nI (M.length + 1))) (G 383) j = 0)) (g := fun j => decide (gAI S (G 383) j = 0)) (j := ix w) 160 (fun i _ hi => by
      show decide _ = decide _
      rw [e383, if_neg hi]) (ix_lt hc hw (l10 w tw hw)) (decide_eq_true e0) (fun z => hv (by
      have y := of_decide_eq_true z
      rw [e383, if_pos rfl] at y
      exact y))
    omega
  · rw [List.length_append, List.length_singleton]
    omega
theorem FQ.fqpush (hG : MG m G Λ S0) (h : FQ m c F H G S0 S l M) (hw : nd c F H w tw) (hl : l.length ≤ M.length) : FQ m c F H G S0 (sAI (sAI S (G 385) l.length (nI (ix w))) (G 386) l.length 0) ((w, 0) :: l) M := by
  obtain ⟨h1, h2, h3, h4, h5, h6, h7⟩ := h
  have eo : ∀ f, isM f = true → f ≠ 385 → f ≠ 386 → ∀ i, gAI (sAI (sAI S (G 385) l.length (nI (ix w))) (G 386) l.length 0) (G f) i = gAI S (G f) i := fun f hf n5 n6 i => by rw [hG.o f 386 hf rfl n6, hG.o f 385 hf rfl n5]
  refine ⟨(h1.kfI hG 385 rfl (Or.inr (Or.inr (Or.inl rfl)))).kfI hG 386 rfl (Or.inr (Or.inr (Or.inr rfl))), ⟨by rw [hG.o 385 386, sI, if_pos rfl], by rw [sI, if_pos rfl]; rfl, h2.pilcg (fun i hi => ⟨by rw [hG.o 385 386, sI, if_neg (by omega)], by rw [sI, if_neg (by omega), hG.o 386 385]⟩)⟩, fun q hq => ?_, ⟨h4.1, fun i y hy => (eo 382 rfl (by decide) (by decide) i).trans (h4.2.1 i y hy), h4.2.2⟩, fun y ty hy => ?_, ?_, ?_⟩
  · rcases List.mem_cons.mp hq with e | e
    · rw [e]
      exact ⟨Nat.zero_le _, tw, hw⟩
    · exact h3 q e
  · rw [eo 383 rfl (by decide) (by decide)]
    exact h5 y ty hy
  · rw [cbz (S := S) (fun j => eo 383 rfl (by decide) (by decide) j)]
    exact h6
  · rw [List.length_cons]
    omega
theorem fq_loop (hG : MG m G Λ S0) (hC : chI c F W H G S0) (hc : c ≤ 16) (hA : WA c F W) (hB : HA c F H) (l10 : ∀ y ty, nd c F H y ty → y.2 < 10) (s10 : s.2 < 10) (s16 : s.1 < 16) : ∀ (n : Nat) (l : List ((Nat × Nat) × Nat)) (M : List (Nat × Nat)) (S1 : sSt), FQ m c F H G S0 S1 l M → Pa (L_X9_follow_43 N n S1 m (nI (ix s)) (nI l.length)) (fun r => ∃ X, chR W H s l M X ∧ FQ m c F H G S0 r [] X)
  | 0, _, _, _, _ => Pa_none
  | n + 1, [], M, S1, h => by
    show Pa (Y_X9_follow_43 N (L_X9_follow_43 N n) S1 m (nI (ix s)) 0) _
    unfold Y_X9_follow_43
    exact Pa_it (by decide) (Pa_some ⟨M, chR_e, h⟩)
  | n + 1, (z, p) :: r, M, S1, h => by
    have h' := h
    obtain ⟨h1, ⟨p1, p2, p3⟩, h3, h4, h5, h6, h7⟩ := h'
    rw [List.length_cons] at h7
    obtain ⟨hp3, th, hz⟩ := h3 (z, p) List.mem_cons_self
    have hp3 : p ≤ 3 := hp3
    have hz : nd c F H z th := hz
    have p1 : gAI S1 (G 385) r.length = nI (ix z) := p1
    have p2 : gAI S1 (G 386) r.length = nI p := p2
    have lz := ix_lt hc hz (l10 z th hz)
    have gg : ∀ f, isM f = true → ∀ {S' : sSt}, S'.2.2.1 = S1.2.2.1 → gFR S' f m = some (G f) := fun f hf _ e => hG.g (e.trans h1.1) f hf
    have ed : nI (r.length + 1) - (1 : Int32) = nI r.length := n_s1 (by omega)
    have ed2 : nI (r.length + 1) + (-1 : Int32) = nI r.length := n_p1 (by omega)
    show Pa (Y_X9_follow_43 N (L_X9_follow_43 N n) S1 m (nI (ix s)) (nI (r.length + 1))) _
    unfold Y_X9_follow_43 B_X9_follow_169
    refine Pa_if (nleN (b := 0) (by omega) (by omega) (by omega)) (Pa_r (gg 386 rfl rfl) (Pa_g ?_))
    rw [ed, ed2, n_cl (n := r.length) (by omega), p2]
    by_cases c3 : p = 3
    · refine Pa_it (congrArg nI c3) (Pa_mono (fq_loop hG hC hc hA hB l10 s10 s16 n r M S1 h.fqpop) (fun q hq => ?_))
      obtain ⟨X, y1, y2⟩ := hq
      exact ⟨X, chR_p (by omega) y1, y2⟩
    · have ei : (3 : Int32) * gAI S1 (G 385) r.length + nI p = nI (3 * ix z + p) := by
        rw [p1]
        exact e_add (n_m3 _) rfl
      have ec : gAI S1 (G 379) (3 * ix z + p) = oF (chz W H z p) := ((h1.2 379 rfl (by decide) (by decide) (by decide) (by decide) _).1).trans (hC z th hz p (by omega))
      refine Pa_if (fun y => c3 ((nI_eq (a := p) (b := 3) (by omega) (by omega)).mp y)) (Pa_m (gg 379 rfl rfl) (Pa_r (gg 385 rfl rfl) (Pa_g (Pa_r (gg 386 rfl rfl) (Pa_g (Pa_bs (Pa_g (Pa_r (gg 386 rfl rfl) (Pa_g (Pa_g ?_))))))))))
      rw [p2, ei, n_cl (n := 3 * ix z + p) (by omega), ec, n_a1 p]
      refine Pa_b ?_
      have hn := h.fqnx hG (by omega : p < 3)
      cases ez : chz W H z p with
      | none =>
        refine Pa_it rfl (Pa_mono (fq_loop hG hC hc hA hB l10 s10 s16 n ((z, p + 1) :: r) M _ hn) (fun q hq => ?_))
        obtain ⟨X, y1, y2⟩ := hq
        exact ⟨X, chR_n (by omega) ez y1, y2⟩
      | some w =>
        obtain ⟨tw, hw⟩ := chz_nd hA hB hc hz ez
        have lw := ix_lt hc hw (l10 w tw hw)
        have eo : oF (some w) = nI (ix w) := rfl
        rw [eo]
        refine Pa_if (ne5 (by omega)) (Pa_r (gg 383 rfl rfl) (Pa_g ?_))
        rw [n_cl (n := ix w) (by omega)]
        have iff := hn.2.2.2.2.1 w tw hw
        by_cases hm : w ∈ M
        · refine Pa_if (fun y => (iff.mp y) hm) (Pa_mono (fq_loop hG hC hc hA hB l10 s10 s16 n ((z, p + 1) :: r) M _ hn) (fun q hq => ?_))
          obtain ⟨X, y1, y2⟩ := hq
          exact ⟨X, chR_m (by omega) ez hm y1, y2⟩
        · have h7n : M.length ≤ 160 := by omega
          have hMt := hn.fqmet hG hc l10 hw hm (v := (1 : Int32) &&& 1) (by decide)
          refine Pa_it (iff.mpr hm) (Pa_r (gg 383 rfl rfl) (Pa_g (Pa_b (Pa_r (g := _) (S := sAI (sAI S1 (G 386) r.length (nI (p + 1))) (G 383) (ix w) ((1 : Int32) &&& 1)) (gg 382 rfl rfl) (Pa_g (Pa_b (Pa_b ?_)))))))
          have e384 : gFI (sAI (sAI S1 (G 386) r.length (nI (p + 1))) (G 383) (ix w) ((1 : Int32) &&& 1)) 384 m = nI M.length := h4.1
          rw [e384, n_cl (n := M.length) (by omega)]
          have e384' : gFI (sAI (sAI (sAI S1 (G 386) r.length (nI (p + 1))) (G 383) (ix w) ((1 : Int32) &&& 1)) (G 382) M.length (nI (ix w))) 384 m + (1 : Int32) = nI (M.length + 1) := by
            show gFI S1 384 m + (1 : Int32) = _
            rw [h4.1, n_a1]
          rw [e384']
          by_cases cs : w = s
          · refine Pa_it (by rw [cs]) (Pa_mono (fq_loop hG hC hc hA hB l10 s10 s16 n ((z, p + 1) :: r) (M ++ [w]) _ hMt) (fun q hq => ?_))
            obtain ⟨X, y1, y2⟩ := hq
            exact ⟨X, chR_s (by omega) ez hm cs y1, y2⟩
          · refine Pa_if (fun y => cs (ix_inj (l10 w tw hw) s10 ((nI_eq (by omega) (by show 10 * s.1 + s.2 < 2147483648; omega)).mp y))) (Pa_r (g := _) (S := sFI (sAI (sAI (sAI S1 (G 386) r.length (nI (p + 1))) (G 383) (ix w) ((1 : Int32) &&& 1)) (G 382) M.length (nI (ix w))) 384 m (nI (M.length + 1))) (gg 385 rfl rfl) (Pa_g (Pa_b (Pa_r (g := _) (S := sAI (sFI (sAI (sAI (sAI S1 (G 386) r.length (nI (p + 1))) (G 383) (ix w) ((1 : Int32) &&& 1)) (G 382) M.length (nI (ix w))) 384 m (nI (M.length + 1))) (G 385) (Int32.toNatClampNeg (nI (r.length + 1))) (nI (ix w))) (gg 386 rfl rfl) (Pa_g (Pa_b ?_))))))
            rw [n_cl (n := r.length + 1) (by omega), n_a1 (r.length + 1)]
            have hps := hMt.fqpush hG hw (by rw [List.length_cons, List.length_append, List.length_singleton]; omega)
            refine Pa_mono (fq_loop hG hC hc hA hB l10 s10 s16 n ((w, 0) :: (z, p + 1) :: r) (M ++ [w]) _ hps) (fun q hq => ?_)
            obtain ⟨X, y1, y2⟩ := hq
            exact ⟨X, chR_w (by omega) ez hm cs y1, y2⟩
theorem f2_loop (hG : MG m G Λ S0) (hC : chI c F W H G S0) (hc : c ≤ 16) (hA : WA c F W) (hB : HA c F H) (l10 : ∀ y ty, nd c F H y ty → y.2 < 10) (hs : nd c F H s th) : ∀ (n i : Nat) (S1 : sSt), i ≤ 160 → KF m G S0 S1 → (∀ j, j < i → gAI S1 (G 383) j = 0) → Pa (L_X9_follow_2 N n S1 m (nI (ix s)) (nI i)) (fun r => FQ m c F H G S0 r [] (chL W H s))
  | 0, _, _, _, _, _ => Pa_none
  | n + 1, i, S1, hi, k, h0 => by
    have gg : ∀ f, isM f = true → ∀ {S' : sSt}, S'.2.2.1 = S1.2.2.1 → gFR S' f m = some (G f) := fun f hf _ e => hG.g (e.trans k.1) f hf
    show Pa (Y_X9_follow_2 N (L_X9_follow_2 N n) S1 m (nI (ix s)) (nI i)) _
    unfold Y_X9_follow_2
    by_cases c0 : i = 160
    · refine Pa_it (leN (a := 160) (by omega) (by omega) (by omega)) (Pa_b (Pa_r (g := _) (S := sFI S1 384 m 0) (gg 385 rfl rfl) (Pa_g (Pa_b (Pa_r (g := _) (S := sAI (sFI S1 384 m 0) (G 385) (Int32.toNatClampNeg 0) (nI (ix s))) (gg 386 rfl rfl) (Pa_g (Pa_b ?_)))))))
      have e0 : Int32.toNatClampNeg (0 : Int32) = 0 := rfl
      rw [e0]
      have kk : KF m G S0 (sFI S1 384 m 0) := ⟨k.1, k.2⟩
      have hF : FQ m c F H G S0 (sAI (sAI (sFI S1 384 m 0) (G 385) 0 (nI (ix s))) (G 386) 0 0) [(s, 0)] [] := by
        have e383 : ∀ j, gAI (sAI (sAI (sFI S1 384 m 0) (G 385) 0 (nI (ix s))) (G 386) 0 0) (G 383) j = gAI S1 (G 383) j := fun j => by rw [hG.o 383 386, hG.o 383 385, gAI_sFI]
        refine ⟨(kk.kfI hG 385 rfl (Or.inr (Or.inr (Or.inl rfl)))).kfI hG 386 rfl (Or.inr (Or.inr (Or.inr rfl))), ⟨?_, ?_, trivial⟩, fun q hq => ?_, ⟨?_, fun i y hy => (by cases hy), fun y hy => (by cases hy)⟩, fun y ty hy => ?_, ?_, ?_⟩
        · show gAI _ (G 385) 0 = nI (ix s)
          rw [hG.o 385 386, sI, if_pos rfl]
        · show gAI _ (G 386) 0 = nI 0
          rw [sI, if_pos rfl]
          rfl
        · rw [List.mem_singleton.mp hq]
          exact ⟨Nat.zero_le _, th, hs⟩
        · show gFI (sFI S1 384 m 0) 384 m = nI 0
          rw [gFI_sFI, if_pos ⟨rfl, rfl⟩]
          rfl
        · rw [e383, h0 _ (by rw [c0]; exact ix_lt hc hy (l10 y ty hy))]
          exact ⟨fun _ z => (by cases z), fun _ => rfl⟩
        · show 0 + _ ≤ 160
          rw [Nat.zero_add]
          exact cb_le 160
        · exact Nat.le_refl _
      refine Pa_mono (fq_loop hG hC hc hA hB l10 (l10 s th hs) (by have := hs.1; omega) FU [(s, 0)] [] _ hF) (fun q hq => ?_)
      obtain ⟨X, y1, y2⟩ := hq
      rw [chL_e y1]
      exact y2
    · refine Pa_if (nleN (b := i) (a := 160) (by omega) (by omega) (by omega)) (Pa_r (gg 383 rfl rfl) (Pa_g (Pa_b ?_)))
      rw [n_cl (n := i) (by omega), n_a1]
      refine f2_loop hG hC hc hA hB l10 hs n (i + 1) _ (by omega) (k.kfI hG 383 rfl (Or.inr (Or.inl rfl))) (fun j hj => ?_)
      rw [sI]
      by_cases cj : j = i
      · rw [if_pos cj]
        rfl
      · rw [if_neg cj]
        exact h0 j (by omega)
end
section
variable {m c : Nat} {G : Nat → Nat} {Λ : sLay} {S S0 S1 : sSt} {F : aF} {U W : aU} {H : aH}
theorem in01 {N : Nat → Nat} {w : Int32} : F_X9_in N S w 0 1 = some (if w < 0 ∨ nI 2 ≤ w then 0 else 1) := by
  have h := in0_val (N := N) (S := S) (p := w) (n := 2) (by omega)
  have e : nI 2 - (1 : Int32) = 1 := by decide
  rw [e] at h
  exact h
theorem chain_r (h : RA m G Λ c F U W H S) (hc : c ≤ 16) (hA : WA c F W) (hB : HA c F H) (p n i w : Int32) : Pa (F_X9_chain Λ.2.2 S m p n i w) (fun r => r.1 = aChain c F W H p n i w) := by
  have hb := h.rb
  obtain ⟨hS, ec, hF, hU, hW, hH⟩ := h
  unfold F_X9_chain
  refine Pa_b (Pa_be (isU_val hS.g0 hc hb.2.1 (fun k hk => (hF k hk).1) p) ?_)
  cases e : uo c F.1 p with
  | none =>
    have e0 : cOf c F H p n = none := by unfold cOf; rw [e]
    rw [aChain_n e0]
    exact Pa_it (iU0.mpr rfl) (Pa_some rfl)
  | some k =>
    obtain ⟨ep, hk, hT, -⟩ := uo_some e
    obtain ⟨q1, q2, q3⟩ := hb.2.2.2.2 k hk hT
    refine Pa_if (fun z => by have := iU0.mp z; cases this) (Pa_be name_val ?_)
    by_cases c3 : n < 0 ∨ (32 : Int32) ≤ n
    · have e0 : cOf c F H p n = none := by unfold cOf; rw [e]; exact if_pos c3
      rw [aChain_n e0, if_pos (cnd32.mpr c3)]
      exact Pa_it rfl (Pa_some rfl)
    have e1 : cOf c F H p n = (match tIx (32 + n) (H k) 0 with
      | none => none
      | some i => some (k, i)) := by unfold cOf; rw [e]; exact if_neg c3
    rw [if_neg (fun z => c3 (cnd32.mp z))]
    refine Pa_if (by decide) (Pa_bind (tO_val hb.1 q1 q2 q3 (by omega) ep (32 + n)) (fun v _ hv => ?_))
    subst hv
    have iff1 := oT_n (k := k) (x := tIx (32 + n) (H k) 0) (by omega) (fun i hi => by have := (tIx_0 hi).1; omega)
    cases ei : tIx (32 + n) (H k) 0 with
    | none =>
      rw [ei] at iff1 e1
      rw [aChain_n e1]
      exact Pa_it (iff1.mpr rfl) (Pa_some rfl)
    | some j =>
      rw [ei] at iff1 e1
      have e1 : cOf c F H p n = some (k, j) := e1
      obtain ⟨hil, th, hth, hkey⟩ := tIx_0 ei
      obtain ⟨b, hbb, eb⟩ := nm32 c3
      have hz : nd c F H (k, j) th := ⟨hk, hT, hth, by rw [hkey, eb]; exact key32 hbb⟩
      refine Pa_if (fun z => by have := iff1.mp z; cases this) (Pa_be in01 ?_)
      by_cases cw : w = 0 ∨ w = 1
      · have nw : ¬ (w < 0 ∨ nI 2 ≤ w) := by rcases cw with rfl | rfl <;> decide
        rw [if_neg nw]
        refine Pa_if (by decide) (Pa_bind (rk_val hb hc hA hB) (fun S9 _ A => ?_))
        have h9 := hb.kr A.1
        have l10 : ∀ y ty, nd c F H y ty → y.2 < 10 := fun y ty hy => h9.l10 hy.vt
        obtain ⟨p1, p2, p3⟩ := h9.2.2.2.2 k hk hT
        refine Pa_bind (tO_val h9.1 p1 p2 p3 (by omega) ep (32 + n)) (fun v _ hv => ?_)
        rw [ei] at hv
        rw [hv]
        have eo : oT k (some j) = nI (ix (k, j)) := rfl
        rw [eo]
        refine Pa_bind (f2_loop h9.1 A.2.1 hc hA hB l10 hz FU 0 S9 (Nat.zero_le _) ⟨rfl, fun _ _ _ _ _ _ _ => ⟨rfl, rfl⟩⟩ (fun j hj => absurd hj (Nat.not_lt_zero j))) (fun S15 _ hQ => ?_)
        obtain ⟨k1, -, -, ⟨m1, m2, m3⟩, -, m6, -⟩ := hQ
        rw [m1]
        refine Pa_be (in0_val (by omega)) ?_
        by_cases c1 : i < 0 ∨ nI (chL W H (k, j)).length ≤ i
        · rw [if_pos c1, aChain_x e1 cw c1]
          exact Pa_it rfl (Pa_some rfl)
        · rw [if_neg c1]
          have c1' := c1
          obtain ⟨q, hq, rfl⟩ := nI_of (fun z => c1 (Or.inl z))
          have lt : q < (chL W H (k, j)).length := Nat.lt_of_not_le (fun z => c1 (Or.inr (leN (by omega) hq z)))
          have el := List.getElem?_eq_getElem lt
          obtain ⟨ty, hy⟩ := m3 _ (List.getElem_mem lt)
          have y10 := l10 _ ty hy
          have lx := ix_lt hc hy y10
          have g382 : gFR S15 382 m = some (G 382) := h9.1.g k1.1 382
          have g364 : gFR S15 364 m = some (G 364) := h9.1.g k1.1 364
          have ev : gAI S15 (G 382) (Int32.toNatClampNeg (nI q)) = nI (ix (chL W H (k, j))[q]) := by
            rw [n_cl hq]
            exact m2 q _ el
          refine Pa_if (by decide) ?_
          by_cases c4 : w = 0
          · rw [aChain_0 e1 c4 c1']
            refine Pa_it c4 (Pa_r g382 (Pa_g (Pa_some ?_)))
            show gAI S15 (G 382) (Int32.toNatClampNeg (nI q)) / (10 : Int32) = _
            rw [ev, n_d10 (by omega), n_cl hq, el]
            show nI ((10 * (chL W H (k, j))[q].1 + (chL W H (k, j))[q].2) / 10) = nI (chL W H (k, j))[q].1
            congr 1
            omega
          · have c5 : w = 1 := cw.elim (fun y => absurd y c4) id
            rw [aChain_1 (y := (chL W H (k, j))[q]) e1 c5 c1' (by rw [n_cl hq, el]; rfl) hy.2.2.1]
            refine Pa_if c4 (Pa_m g364 (Pa_r g382 (Pa_g (Pa_bs (Pa_g (Pa_some ?_))))))
            have e364 : gAI S15 (G 364) (ix (chL W H (k, j))[q]) = ty.1 := ((k1.2 364 rfl (by decide) (by decide) (by decide) (by decide) _).1).trans (((h9.2.2.2.2 _ hy.1 hy.2.1).2.2 _ ty hy.2.2.1).1)
            show gAI S15 (G 364) (Int32.toNatClampNeg (gAI S15 (G 382) (Int32.toNatClampNeg (nI q)))) - gAI S15 (G 364) (Int32.toNatClampNeg (gAI S15 (G 382) (Int32.toNatClampNeg (nI q)))) / (32 : Int32) * (32 : Int32) = _
            rw [ev, n_cl (n := ix (chL W H (k, j))[q]) (by omega), e364]
      · have nw : w < 0 ∨ nI 2 ≤ w := by
          by_cases c0 : w < 0
          · exact Or.inl c0
          · obtain ⟨q, hq, rfl⟩ := nI_of c0
            refine Or.inr (leN (by omega) hq ?_)
            by_cases y : q < 2
            · have : q = 0 ∨ q = 1 := by omega
              rcases this with rfl | rfl
              · exact absurd (Or.inl rfl) cw
              · exact absurd (Or.inr rfl) cw
            · omega
        rw [if_pos nw, aChain_o e1 cw]
        exact Pa_it rfl (Pa_some rfl)
end
