/-! The reference lays rows. -/
def RR (m : Nat) (G : Nat → Nat) (Λ : sLay) (c : Nat) (F : aF) (U W : aU) (H : aH) (S : sSt) : Prop := RB m G Λ c F W H S ∧ RL2 371 372 12 G S c F U ∧ ∀ z th, nd c F H z th → gAJ S (G 381) (ix z) = (VO W H z).getD 0
/-- only the line and its parts were written -/
def KL (m : Nat) (G : Nat → Nat) (S S1 : sSt) : Prop := S1.2.2.1 = S.2.2.1 ∧ gFI S1 361 m = gFI S 361 m ∧ ∀ f, isM f = true → f ≠ 387 → f ≠ 389 → ∀ k, gAI S1 (G f) k = gAI S (G f) k ∧ gAJ S1 (G f) k = gAJ S (G f) k
def LRw (m : Nat) (G : Nat → Nat) (S0 S : sSt) (xs : List Int64) (ps : List Nat) : Prop := KL m G S0 S ∧ gFI S 388 m = nI xs.length ∧ xs.length ≤ 680 ∧ (∀ i v, xs[i]? = some v → gAJ S (G 387) i = v) ∧ ∀ i v, ps[i]? = some v → gAI S (G 389) i = nI v
theorem snocP {α : Type} {P : Nat → α → Prop} {l : List α} {v : α} (h : ∀ i w, l[i]? = some w → P i w) (g : P l.length v) : ∀ i w, (l ++ [v])[i]? = some w → P i w := fun i w hw => by
  by_cases c : i < l.length
  · rw [List.getElem?_append_left c] at hw
    exact h i w hw
  · rw [List.getElem?_append_right (by omega)] at hw
    by_cases c2 : i = l.length
    · rw [c2, Nat.sub_self] at hw
      cases hw
      rw [c2]
      exact g
    · rw [List.getElem?_eq_none (by show 0 + 1 ≤ i - l.length; omega)] at hw
      cases hw
section
variable {m c : Nat} {G : Nat → Nat} {Λ : sLay} {N : Nat → Nat} {S0 S S1 S2 : sSt} {F : aF} {U W : aU} {H : aH} {ys zs Z rest : List Int64} {ps : List Nat}
theorem KL.rf : KL m G S S := ⟨rfl, rfl, fun _ _ _ _ _ => ⟨rfl, rfl⟩⟩
theorem RR.kl (h : RR m G Λ c F U W H S) (k : KL m G S S1) : RR m G Λ c F U W H S1 := by
  obtain ⟨⟨h1, h2, h3, h4, h5⟩, hU, hV⟩ := h
  have y : ∀ f, isM f = true → f ≠ 387 → f ≠ 389 → ∀ j, gAI S1 (G f) j = gAI S (G f) j := fun f hf n1 n2 j => (k.2.2 f hf n1 n2 j).1
  refine ⟨⟨⟨fun f hf => h1.g k.1 f hf, h1.2⟩, k.2.1.trans h2, fun j hj => ?_, h4.kp (y 369 rfl (by decide) (by decide)) (y 370 rfl (by decide) (by decide)), fun j hj hT => ?_⟩, hU.kp (y 371 rfl (by decide) (by decide)) (y 372 rfl (by decide) (by decide)), fun z th hz => ((k.2.2 381 rfl (by decide) (by decide) _).2).trans (hV z th hz)⟩
  · rw [y 362 rfl (by decide) (by decide), y 373 rfl (by decide) (by decide), y 374 rfl (by decide) (by decide)]
    exact h3 j hj
  · obtain ⟨q1, q2, q3⟩ := h5 j hj hT
    exact ⟨(y 363 rfl (by decide) (by decide) j).trans q1, q2, fun i th hi => (q3 i th hi).cp (y 364 rfl (by decide) (by decide) _) ((k.2.2 365 rfl (by decide) (by decide) _).2) (y 366 rfl (by decide) (by decide) _) (y 367 rfl (by decide) (by decide) _) (fun z _ => y 368 rfl (by decide) (by decide) _)⟩
theorem RR.ls (h : RR m G Λ c F U W H S0) (g : LRw m G S0 S ys ps) : RR m G Λ c F U W H S := h.kl g.1
theorem LRw.new (h : KL m G S0 S) : LRw m G S0 (sFI S 388 m 0) [] [] := ⟨⟨h.1, (gFI_ne (by decide)).trans h.2.1, h.2.2⟩, by rw [gFI_sFI, if_pos ⟨rfl, rfl⟩]; rfl, Nat.zero_le _, (fun _ _ hv => by cases hv), (fun _ _ hv => by cases hv)⟩
/-- one long more, in a program -/
theorem LRw.bi {β : Type} {P : β → Prop} {f : sSt → Option β} {v : Int64} (hG : MG m G Λ S0) (h : LRw m G S0 S1 ys ps) (eZ : ys ++ (v :: zs) = Z) (hZ : Z.length ≤ 680) (kk : ∀ S2, LRw m G S0 S2 (ys ++ [v]) ps → (ys ++ [v]) ++ zs = Z → Pa (f S2) P) : Pa (Option.bind (F_X9_lay N S1 m v) f) P := by
  have hl := ln680 eZ hZ
  obtain ⟨⟨k1, k2, k3⟩, h2, h3, h4, h5⟩ := h
  refine Pa_bind (Q := fun S2 => LRw m G S0 S2 (ys ++ [v]) ps) ?_ (fun S2 _ g2 => kk S2 g2 (by rw [List.append_assoc]; exact eZ))
  unfold F_X9_lay
  refine Pa_r (hG.g k1 387) (Pa_g (Pa_b (Pa_b (Pa_some ?_))))
  rw [gFI_sAJ, h2, n_cl (by omega), n_a1]
  refine ⟨⟨k1, ?_, fun f hf n1 n2 j => ⟨(k3 f hf n1 n2 j).1, ?_⟩⟩, ?_, ?_, snocP (fun i w hw => ?_) ?_, h5⟩
  · rw [gFI_ne (by decide)]
    exact k2
  · exact (hG.oJ f 387 hf rfl n1).trans (k3 f hf n1 n2 j).2
  · rw [gFI_sFI, if_pos ⟨rfl, rfl⟩, List.length_append, List.length_singleton]
  · rw [List.length_append, List.length_singleton]
    omega
  · have hi : i < ys.length := (List.getElem?_eq_some_iff.mp hw).1
    rw [gAJ_sFI, sJ, if_neg (by omega)]
    exact h4 i w hw
  · rw [gAJ_sFI, sJ, if_pos rfl]
/-- a part ends, in a program -/
theorem LRw.pa {β : Type} {P : β → Prop} {f : sSt → Option β} {i : Int32} (hG : MG m G Λ S0) (h : LRw m G S0 S1 ys ps) (ei : i = nI ps.length) (hi : ps.length < 100) (kk : ∀ S2, LRw m G S0 S2 ys (ps ++ [ys.length]) → Pa (f S2) P) : Pa (bnd (gFR S1 389 m) (fun x => Option.bind x (fun a => gi i (N a) (bnd (sAI S1 a (Int32.toNatClampNeg i) (gFI S1 388 m)) f)))) P := by
  obtain ⟨⟨k1, k2, k3⟩, h2, h3, h4, h5⟩ := h
  refine Pa_r (hG.g k1 389) (Pa_g (Pa_b (kk _ ?_)))
  rw [ei, n_cl (by omega), h2]
  refine ⟨⟨k1, k2, fun f hf n1 n2 j => ⟨?_, (k3 f hf n1 n2 j).2⟩⟩, h2, h3, h4, snocP (fun i w hw => ?_) ?_⟩
  · exact (hG.o f 389 hf rfl n2).trans (k3 f hf n1 n2 j).1
  · have hi : i < ps.length := (List.getElem?_eq_some_iff.mp hw).1
    rw [sI, if_neg (by omega)]
    exact h5 i w hw
  · rw [sI, if_pos rfl]
/-- what is found is laid -/
theorem lf_r (h0 : RR m G Λ c F U W H S0) (hc : c ≤ 16) (hA : WA c F W) (hZ : Z.length ≤ 680) {j : Nat} {key p : Int32} (hj : j < c) (hT : F.1 j = true) (h : LRw m G S0 S1 ys ps) (ep : p = oF (fd W H j key)) (eZ : ys ++ (ffz W H j key ++ rest) = Z) : Pa (F_X9_layFound N S1 m p) (fun S2 => ∃ zs, LRw m G S0 S2 zs ps ∧ zs ++ rest = Z) := by
  have hG := h0.1.1
  unfold F_X9_layFound B_X9_layFound_18 B_X9_layFound_60
  cases e : fd W H j key with
  | none =>
    rw [ffz_n e] at eZ
    rw [e] at ep
    have ep : p = -5 := ep
    refine Pa_it ep (h.bi hG eZ hZ (fun S2 h2 e2 => Pa_it ep (h2.bi hG e2 hZ (fun S3 h3 e3 => Pa_some ⟨_, h3, e3⟩))))
  | some z =>
    obtain ⟨z1, z2, th, hth, -⟩ := fd_ok hA hc hj hT e
    obtain ⟨l1, l2⟩ := fd_lim h0.1.2.2.2.2 hc hA hj hT e
    rw [ffz_s e, vlz_s hth] at eZ
    rw [e] at ep
    have ep : p = nI (10 * z.1 + z.2) := ep
    have n5 : p ≠ -5 := by rw [ep]; exact ne5 (by omega)
    have e1 : p / (10 : Int32) = nI z.1 := by
      rw [ep, n_d10 (by omega)]
      congr 1
      omega
    have cl : p.toNatClampNeg = ix z := by rw [ep]; exact n_cl (by omega)
    rw [e1]
    refine Pa_if n5 (h.bi hG eZ hZ (fun S2 h2 e2 => Pa_if n5 (Pa_r (hG.g h2.1.1 364) (Pa_g ?_))))
    have hth2 := ((h0.ls h2).1.2.2.2.2 z.1 z1 z2).2.2 z.2 th hth
    rw [cl, hth2.1]
    by_cases cs : th.1 / 32 = (1 : Int32)
    · rw [if_pos cs] at e2
      have ev : gAJ S2 (G 381) (ix z) = (VO W H z).getD 0 := (h0.ls h2).2.2 z th ⟨z1, z2, hth, cs⟩
      refine Pa_it cs (Pa_r (hG.g h2.1.1 381) (Pa_g ?_))
      rw [ev]
      exact h2.bi hG e2 hZ (fun S3 h3 e3 => Pa_some ⟨_, h3, e3⟩)
    · rw [if_neg cs] at e2
      refine Pa_if cs (Pa_r (hG.g h2.1.1 365) (Pa_g ?_))
      rw [hth2.2.1]
      exact h2.bi hG e2 hZ (fun S3 h3 e3 => Pa_some ⟨_, h3, e3⟩)
end
theorem blJ_app {W : aU} {H : aH} {k : Nat} {l2 : List Int32} : ∀ {l : List Int32}, blJ W H k (l ++ l2) = blJ W H k l ++ blJ W H k l2
  | [] => rfl
  | key :: r => by
    show ffz W H k key ++ blJ W H k (r ++ l2) = (ffz W H k key ++ blJ W H k r) ++ blJ W H k l2
    rw [blJ_app, List.append_assoc]
/-- the mark at a flat place -/
def m1 (F : aF) (H : aH) (p : Nat) : List Int64 := if F.1 (p / 10) = true then (match (H (p / 10))[p % 10]? with
  | none => []
  | some th => if srt th.1 = (2 : Int32) then [tj (nI (p / 10)), tj (nmo th.1), th.2.1] else []) else []
def mkF (F : aF) (H : aH) : Nat → Nat → List Int64
  | _, 0 => []
  | p, d + 1 => m1 F H p ++ mkF F H (p + 1) d
theorem m1_f {F : aF} {H : aH} {p : Nat} (h : F.1 (p / 10) ≠ true) : m1 F H p = [] := by
  unfold m1
  rw [if_neg h]
theorem m1_n {F : aF} {H : aH} {p : Nat} (h : (H (p / 10))[p % 10]? = none) : m1 F H p = [] := by
  unfold m1
  rw [h]
  by_cases q : F.1 (p / 10) = true
  · rw [if_pos q]
  · rw [if_neg q]
theorem m1_s {F : aF} {H : aH} {p : Nat} {th : aT} (h : F.1 (p / 10) = true) (g : (H (p / 10))[p % 10]? = some th) : m1 F H p = if srt th.1 = (2 : Int32) then [tj (nI (p / 10)), tj (nmo th.1), th.2.1] else [] := by
  unfold m1
  rw [if_pos h, g]
theorem mkF_app {F : aF} {H : aH} : ∀ {a p b : Nat}, mkF F H p (a + b) = mkF F H p a ++ mkF F H (p + a) b
  | 0, p, b => by
    rw [Nat.zero_add]
    rfl
  | a + 1, p, b => by
    have e : a + 1 + b = (a + b) + 1 := by omega
    rw [e]
    show m1 F H p ++ mkF F H (p + 1) (a + b) = (m1 F H p ++ mkF F H (p + 1) a) ++ mkF F H (p + (a + 1)) b
    rw [mkF_app, List.append_assoc]
    have e2 : p + 1 + a = p + (a + 1) := by omega
    rw [e2]
theorem mkF_u {F : aF} {H : aH} {u : Nat} (hl : F.1 u = true → (H u).length ≤ 10) : ∀ (e i : Nat), i + e = 10 → mkF F H (10 * u + i) e = if F.1 u = true then mkJ u ((H u).drop i) else []
  | 0, i, h => by
    by_cases q : F.1 u = true
    · have := hl q
      rw [if_pos q, List.drop_eq_nil_of_le (by omega)]
      rfl
    · rw [if_neg q]
      rfl
  | e + 1, i, h => by
    have e1 : (10 * u + i) / 10 = u := by omega
    have e2 : (10 * u + i) % 10 = i := by omega
    show m1 F H (10 * u + i) ++ mkF F H (10 * u + (i + 1)) e = _
    rw [mkF_u hl e (i + 1) (by omega)]
    by_cases q : F.1 u = true
    · rw [if_pos q, if_pos q]
      by_cases hi : i < (H u).length
      · rw [m1_s (th := (H u)[i]) (by rw [e1]; exact q) (by rw [e1, e2]; exact List.getElem?_eq_getElem hi), e1, List.drop_eq_getElem_cons hi]
        rfl
      · rw [m1_n (by rw [e1, e2]; exact List.getElem?_eq_none (by omega)), List.drop_eq_nil_of_le (by omega), List.drop_eq_nil_of_le (by omega)]
        rfl
    · rw [if_neg q, if_neg q, m1_f (by rw [e1]; exact q)]
      rfl
theorem mkF_all {F : aF} {H : aH} : ∀ {d u : Nat}, (∀ k, u ≤ k → k < u + d → F.1 k = true → (H k).length ≤ 10) → mkF F H (10 * u) (10 * d) = mksJ F H u d
  | 0, _, _ => rfl
  | d + 1, u, h => by
    have e : 10 * (d + 1) = 10 + 10 * d := by omega
    have e2 : 10 * u + 10 = 10 * (u + 1) := by omega
    rw [e, mkF_app, e2, mkF_all (fun k h1 h2 => h k (by omega) (by omega))]
    have := mkF_u (F := F) (H := H) (u := u) (h u (Nat.le_refl u) (by omega)) 10 0 rfl
    rw [List.drop_zero] at this
    show mkF F H (10 * u + 0) 10 ++ _ = _
    rw [this]
    rfl
