/-! The chain of a constant: a walk, as a function. -/
def cwk (W : aU) (H : aH) (s : Nat × Nat) : Nat → List ((Nat × Nat) × Nat) → List (Nat × Nat) → Option (List (Nat × Nat))
  | 0, _, _ => none
  | _ + 1, [], M => some M
  | n + 1, (z, p) :: r, M => if 3 ≤ p then cwk W H s n r M else match chz W H z p with
    | none => cwk W H s n ((z, p + 1) :: r) M
    | some w => if w ∈ M then cwk W H s n ((z, p + 1) :: r) M else if w = s then cwk W H s n ((z, p + 1) :: r) (M ++ [w]) else cwk W H s n ((w, 0) :: (z, p + 1) :: r) (M ++ [w])
section
variable {W : aU} {H : aH} {s z w : Nat × Nat} {n p : Nat} {l r : List ((Nat × Nat) × Nat)} {M X Y : List (Nat × Nat)}
theorem cwk_c : cwk W H s (n + 1) ((z, p) :: r) M = (if 3 ≤ p then cwk W H s n r M else match chz W H z p with
    | none => cwk W H s n ((z, p + 1) :: r) M
    | some w => if w ∈ M then cwk W H s n ((z, p + 1) :: r) M else if w = s then cwk W H s n ((z, p + 1) :: r) (M ++ [w]) else cwk W H s n ((w, 0) :: (z, p + 1) :: r) (M ++ [w])) := rfl
theorem cwk_p (h : 3 ≤ p) : cwk W H s (n + 1) ((z, p) :: r) M = cwk W H s n r M := by
  rw [cwk_c, if_pos h]
theorem cwk_n (h : ¬ 3 ≤ p) (e : chz W H z p = none) : cwk W H s (n + 1) ((z, p) :: r) M = cwk W H s n ((z, p + 1) :: r) M := by
  rw [cwk_c, if_neg h, e]
theorem cwk_m (h : ¬ 3 ≤ p) (e : chz W H z p = some w) (hm : w ∈ M) : cwk W H s (n + 1) ((z, p) :: r) M = cwk W H s n ((z, p + 1) :: r) M := by
  rw [cwk_c, if_neg h, e]
  exact if_pos hm
theorem cwk_s (h : ¬ 3 ≤ p) (e : chz W H z p = some w) (hm : w ∉ M) (es : w = s) : cwk W H s (n + 1) ((z, p) :: r) M = cwk W H s n ((z, p + 1) :: r) (M ++ [w]) := by
  rw [cwk_c, if_neg h, e]
  show (if w ∈ M then _ else if w = s then _ else _) = _
  rw [if_neg hm, if_pos es]
theorem cwk_w (h : ¬ 3 ≤ p) (e : chz W H z p = some w) (hm : w ∉ M) (es : w ≠ s) : cwk W H s (n + 1) ((z, p) :: r) M = cwk W H s n ((w, 0) :: (z, p + 1) :: r) (M ++ [w]) := by
  rw [cwk_c, if_neg h, e]
  show (if w ∈ M then _ else if w = s then _ else _) = _
  rw [if_neg hm, if_neg es]
theorem cwk_le : ∀ (n : Nat) (l : List ((Nat × Nat) × Nat)) (M : List (Nat × Nat)), cwk W H s n l M = some X → cwk W H s (n + 1) l M = some X
  | 0, _, _, h => by cases h
  | n + 1, [], M, h => h
  | n + 1, (z, p) :: r, M, h => by
    by_cases c : 3 ≤ p
    · rw [cwk_p c] at h ⊢
      exact cwk_le n _ _ h
    · cases e : chz W H z p with
      | none =>
        rw [cwk_n c e] at h ⊢
        exact cwk_le n _ _ h
      | some w =>
        by_cases hm : w ∈ M
        · rw [cwk_m c e hm] at h ⊢
          exact cwk_le n _ _ h
        · by_cases es : w = s
          · rw [cwk_s c e hm es] at h ⊢
            exact cwk_le n _ _ h
          · rw [cwk_w c e hm es] at h ⊢
            exact cwk_le n _ _ h
theorem cwk_up (k : Nat) (h : cwk W H s n l M = some X) : cwk W H s (n + k) l M = some X := by
  induction k with
  | zero => exact h
  | succ k ih => exact cwk_le _ _ _ ih
def chR (W : aU) (H : aH) (s : Nat × Nat) (l : List ((Nat × Nat) × Nat)) (M X : List (Nat × Nat)) : Prop := ∃ n, cwk W H s n l M = some X
theorem chR_un (h : chR W H s l M X) (g : chR W H s l M Y) : X = Y := by
  obtain ⟨n, h⟩ := h
  obtain ⟨k, g⟩ := g
  have h1 := cwk_up k h
  have g1 := cwk_up n g
  rw [Nat.add_comm] at g1
  rw [h1] at g1
  cases g1
  rfl
theorem chR_e : chR W H s [] M M := ⟨1, rfl⟩
theorem chR_p (h : 3 ≤ p) (g : chR W H s r M X) : chR W H s ((z, p) :: r) M X := by
  obtain ⟨n, g⟩ := g
  exact ⟨n + 1, by rw [cwk_p h]; exact g⟩
theorem chR_n (h : p < 3) (e : chz W H z p = none) (g : chR W H s ((z, p + 1) :: r) M X) : chR W H s ((z, p) :: r) M X := by
  obtain ⟨n, g⟩ := g
  exact ⟨n + 1, by rw [cwk_n (by omega) e]; exact g⟩
theorem chR_m (h : p < 3) (e : chz W H z p = some w) (hm : w ∈ M) (g : chR W H s ((z, p + 1) :: r) M X) : chR W H s ((z, p) :: r) M X := by
  obtain ⟨n, g⟩ := g
  exact ⟨n + 1, by rw [cwk_m (by omega) e hm]; exact g⟩
theorem chR_s (h : p < 3) (e : chz W H z p = some w) (hm : w ∉ M) (es : w = s) (g : chR W H s ((z, p + 1) :: r) (M ++ [w]) X) : chR W H s ((z, p) :: r) M X := by
  obtain ⟨n, g⟩ := g
  exact ⟨n + 1, by rw [cwk_s (by omega) e hm es]; exact g⟩
theorem chR_w (h : p < 3) (e : chz W H z p = some w) (hm : w ∉ M) (es : w ≠ s) (g : chR W H s ((w, 0) :: (z, p + 1) :: r) (M ++ [w]) X) : chR W H s ((z, p) :: r) M X := by
  obtain ⟨n, g⟩ := g
  exact ⟨n + 1, by rw [cwk_w (by omega) e hm es]; exact g⟩
/-- behind the last part nothing is found -/
theorem chR_l {th : aT} (hth : (H z.1)[z.2]? = some th) (g : chR W H s r M X) : ∀ d p, p + d = 3 → th.2.2.2.length ≤ p → chR W H s ((z, p) :: r) M X
  | 0, p, e, _ => chR_p (by omega) g
  | d + 1, p, e, hl => chR_n (by omega) (chz_n hth (List.getElem?_eq_none hl)) (chR_l hth g d (p + 1) (by omega) (by omega))
theorem chR_k {th : aT} (hth : (H z.1)[z.2]? = some th) (g : chR W H s r M X) (hl : th.2.2.2.length ≤ p) : chR W H s ((z, p) :: r) M X := by
  by_cases c : 3 ≤ p
  · exact chR_p c g
  · exact chR_l hth g (3 - p) p (by omega) hl
end
noncomputable def chL (W : aU) (H : aH) (z : Nat × Nat) : List (Nat × Nat) := Classical.epsilon (fun X => chR W H z [(z, 0)] [] X)
theorem chL_e {W : aU} {H : aH} {z : Nat × Nat} {X : List (Nat × Nat)} (h : chR W H z [(z, 0)] [] X) : chL W H z = X := chR_un (Classical.epsilon_spec (p := fun X => chR W H z [(z, 0)] [] X) ⟨X, h⟩) h
/-- a place of the chain -/
noncomputable def aChain (c : Nat) (F : aF) (W : aU) (H : aH) (p n i w : Int32) : Int32 := match cOf c F H p n with
  | none => -1
  | some z => if w = 0 ∨ w = 1 then (if i < 0 ∨ nI (chL W H z).length ≤ i then -5 else if w = 0 then nI ((chL W H z)[i.toNatClampNeg]?.getD (0, 0)).1 else match (H ((chL W H z)[i.toNatClampNeg]?.getD (0, 0)).1)[((chL W H z)[i.toNatClampNeg]?.getD (0, 0)).2]? with
    | none => 0
    | some th => nmo th.1) else -2
/-! the class's walk along the chain -/
def φs (S0 : sSt) (t : Nat) (S : sSt) : aN := fun z => (gFI S 205 (Ad S0 t z), 0, 0, 0)
def φm (S0 : sSt) (t : Nat) (S : sSt) : aN := fun z => (gFI S 208 (Ad S0 t z), 0, 0, 0)
def mf : List ((Nat × Nat) × Nat) → Nat
  | [] => 0
  | q :: r => (7 - 2 * q.2) + mf r
/-- the list of what was met -/
def WK2 (R : List Nat) (ρ : Nat → Nat) (Λ : sLay) (S0 : sSt) (cs pa ma : Nat) : Prop := WK R ρ Λ S0 cs pa ∧ gFR S0 2 cs = some ma ∧ isK (own Λ R) 13 ma ∧ ρ ma = 2 ∧ Λ.2.2 ma = 160
def FSc (R : List Nat) (ρ : Nat → Nat) (Λ : sLay) (c : Nat) (F : aF) (H : aH) (S0 : sSt) (t cs pa ma : Nat) (S : sSt) (l : List ((Nat × Nat) × Nat)) (M : List (Nat × Nat)) (St : Nat × Nat → Prop) : Prop :=
  Sh (S0, fzS, ρ, arS) (own Λ R) S ∧ (gFI S 1 cs = nI l.length ∧ pth S0 t pa S (l.map (fun q => q.1)) ∧ (∀ q, q ∈ l → q.2 ≤ 3 ∧ gFI S 209 (Ad S0 t q.1) = nI q.2 ∧ (∃ th, nd c F H q.1 th) ∧ ¬ St q.1) ∧ (l.map (fun q => q.1)).Nodup) ∧
  (gFI S 3 cs = nI M.length ∧ (∀ (i : Nat) (w : Nat × Nat), M[i]? = some w → gAR S ma i = some (Ad S0 t w)) ∧ ∀ w, w ∈ M → ∃ th, nd c F H w th) ∧
  (∀ w th, nd c F H w th → (gFI S 208 (Ad S0 t w) = 0 ↔ w ∉ M) ∧ (gFI S 205 (Ad S0 t w) = 0 ↔ St w)) ∧
  (l.length + cnt c F H (φs S0 t S) ≤ 160 ∧ M.length + cnt c F H (φm S0 t S) ≤ 160)
section
variable {x m o us t c c2 : Nat} {R : List Nat} {G : Nat → Nat} {ρ ω : Nat → Nat} {Λ : sLay} {S0 S S1 S' : sSt} {F : aF} {U W : aU} {H : aH} {cs pa ma p : Nat} {z w s : Nat × Nat} {l r : List ((Nat × Nat) × Nat)} {M : List (Nat × Nat)} {St St' : Nat × Nat → Prop} {th tw : aT}
theorem CA.wk2 (h : CA x m o R G us t c c2 F U W H ρ ω Λ S0) : ∃ cs pa ma, gFR S0 321 x = some cs ∧ WK2 R ρ Λ S0 cs pa ma := by
  obtain ⟨cs, pa, e1, k⟩ := h.wk
  obtain ⟨ma, e2⟩ := h.1.2.2.2.2.2.2.1.2.1 2 (by decide) cs k.1 id
  obtain ⟨t2, r2, -⟩ := h.1.fz1 (f := 2) (by decide) (by decide) (by decide) k.1.1 e2
  exact ⟨cs, pa, ma, e1, k, e2, t2, r2, h.1.ro.2 ma t2.1 (2, 160) (by decide) r2⟩
theorem WK2.ne (k : WK2 R ρ Λ S0 cs pa ma) : pa ≠ ma := fun e => by
  have h1 := k.1.2.2.2.1
  rw [e, k.2.2.2.1] at h1
  omega
theorem FSc.cg (h : FSc R ρ Λ c F H S0 t cs pa ma S l M St) (e : ∀ y ty, nd c F H y ty → (St y ↔ St' y)) : FSc R ρ Λ c F H S0 t cs pa ma S l M St' := by
  obtain ⟨h1, ⟨h2, h3, h4, h5⟩, h6, h7, h8⟩ := h
  refine ⟨h1, ⟨h2, h3, fun q hq => ?_, h5⟩, h6, fun y ty hy => ⟨(h7 y ty hy).1, (h7 y ty hy).2.trans (e y ty hy)⟩, h8⟩
  obtain ⟨a, b, ⟨ty, hy⟩, d⟩ := h4 q hq
  exact ⟨a, b, ⟨ty, hy⟩, fun z => d ((e _ ty hy).mpr z)⟩
/-- the top is left -/
theorem FSc.pop (h : FSc R ρ Λ c F H S0 t cs pa ma S ((z, p) :: r) M St) (k : WK2 R ρ Λ S0 cs pa ma) : FSc R ρ Λ c F H S0 t cs pa ma (sFI S 1 cs (nI r.length)) r M St := by
  obtain ⟨h1, ⟨h2, h3, h4, h5⟩, ⟨h6, h6b, h6c⟩, h7, h8, h9⟩ := h
  have e : ∀ f a, f ≠ 1 → gFI (sFI S 1 cs (nI r.length)) f a = gFI S f a := fun f a hf => by rw [gFI_sFI, if_neg (fun z => hf z.1)]
  have es : φs S0 t (sFI S 1 cs (nI r.length)) = φs S0 t S := funext (fun y => by unfold φs; rw [e 205 _ (by decide)])
  have em : φm S0 t (sFI S 1 cs (nI r.length)) = φm S0 t S := funext (fun y => by unfold φm; rw [e 208 _ (by decide)])
  rw [List.map_cons, List.nodup_cons] at h5
  refine ⟨h1.sFI 1 k.1.1 _ rfl (fun y => absurd y (by decide)), ⟨by rw [gFI_sFI, if_pos ⟨rfl, rfl⟩], pth_congr (S := S) _ (fun _ _ => rfl) h3.2, fun q hq => ?_, h5.2⟩, ⟨(e 3 cs (by decide)).trans h6, h6b, h6c⟩, fun y ty hy => ?_, ?_, ?_⟩
  · rw [e 209 _ (by decide)]
    exact h4 q (List.mem_cons_of_mem _ hq)
  · rw [e 208 _ (by decide), e 205 _ (by decide)]
    exact h7 y ty hy
  · rw [es]
    have : ((z, p) :: r).length = r.length + 1 := List.length_cons
    omega
  · rw [em]
    exact h9
/-- the next part of the top -/
theorem FSc.nx (h0 : CA x m o R G us t c c2 F U W H ρ ω Λ S0) (hc : c ≤ 16) (h : FSc R ρ Λ c F H S0 t cs pa ma S ((z, p) :: r) M St) (hp : p < 3) : FSc R ρ Λ c F H S0 t cs pa ma (sFI S 209 (Ad S0 t z) (nI (p + 1))) ((z, p + 1) :: r) M St := by
  obtain ⟨h1, ⟨h2, h3, h4, h5⟩, ⟨h6, h6b, h6c⟩, h7, h8, h9⟩ := h
  obtain ⟨-, -, ⟨th, hz⟩, nz⟩ := h4 (z, p) List.mem_cons_self
  have hz : nd c F H z th := hz
  obtain ⟨-, -, ta, -⟩ := h0.at0 hc hz.vt hz.2.2.1
  have e : ∀ f a, f ≠ 209 → gFI (sFI S 209 (Ad S0 t z) (nI (p + 1))) f a = gFI S f a := fun f a hf => by rw [gFI_sFI, if_neg (fun z => hf z.1)]
  have es : φs S0 t (sFI S 209 (Ad S0 t z) (nI (p + 1))) = φs S0 t S := funext (fun y => by unfold φs; rw [e 205 _ (by decide)])
  have em : φm S0 t (sFI S 209 (Ad S0 t z) (nI (p + 1))) = φm S0 t S := funext (fun y => by unfold φm; rw [e 208 _ (by decide)])
  have h5' := h5
  rw [List.map_cons, List.nodup_cons] at h5'
  refine ⟨h1.sFI 209 ta _ rfl (fun y => absurd y (by decide)), ⟨(e 1 cs (by decide)).trans h2, pth_congr (S := S) _ (fun _ _ => rfl) h3, fun q hq => ?_, h5⟩, ⟨(e 3 cs (by decide)).trans h6, h6b, h6c⟩, fun y ty hy => ?_, ?_, ?_⟩
  · rcases List.mem_cons.mp hq with y | y
    · rw [y]
      exact ⟨by show p + 1 ≤ 3; omega, by rw [gFI_sFI, if_pos ⟨rfl, rfl⟩], ⟨th, hz⟩, nz⟩
    · obtain ⟨a, b, ⟨ty, hy⟩, d⟩ := h4 q (List.mem_cons_of_mem _ y)
      refine ⟨a, ?_, ⟨ty, hy⟩, d⟩
      rw [gFI_sFI, if_neg (fun y2 => ?_)]
      · exact b
      · have : z = q.1 := h0.inj hc hz.vt hy.vt y2.2.symm
        exact h5'.1 (List.mem_map.mpr ⟨q, y, this.symm⟩)
  · rw [e 208 _ (by decide), e 205 _ (by decide)]
    exact h7 y ty hy
  · rw [es]
    exact h8
  · rw [em]
    exact h9
/-- one more is met -/
theorem nt_val {a d : Nat} (k : WK2 R ρ Λ S0 cs pa ma) (g : Sh (S0, fzS, ρ, arS) (own Λ R) S1) (hd : gFI S1 3 cs = nI d) (h160 : d < 160) : F_X0_note Λ.2.2 S1 cs (some a) = some (sFI (sAR (sFI S1 208 a 1) ma d (some a)) 3 cs (nI (d + 1))) := by
  have e0 : gFR S1 2 cs = some ma := (g.fr 2 cs).trans k.2.1
  have e1 : gFI (sAR (sFI S1 208 a 1) ma d (some a)) 3 cs = nI d := by
    rw [gFI_sAR, gFI_sFI, if_neg (fun z => absurd z.1 (by decide))]
    exact hd
  have e2 : gFI (sFI S1 208 a 1) 3 cs = nI d := e1
  have e3 : gFR (sFI S1 208 a 1) 2 cs = some ma := e0
  unfold F_X0_note
  rw [hd, if_neg (nI_pos (by omega))]
  simp only [bnd, e0, Option.bind_some, k.2.2.2.2]
  rw [if_neg (nleN (by omega) (by omega) h160)]
  simp only [bnd, e3, e2, Option.bind_some, k.2.2.2.2]
  rw [n_gi (by omega) (by omega), n_cl (by omega), e1, n_a1]
theorem FSc.note (h0 : CA x m o R G us t c c2 F U W H ρ ω Λ S0) (hc : c ≤ 16) (h : FSc R ρ Λ c F H S0 t cs pa ma S l M St) (k : WK2 R ρ Λ S0 cs pa ma) (hw : nd c F H w tw) (hM : w ∉ M) (h10 : w.2 < 10) : ∃ S', F_X0_note Λ.2.2 S cs (some (Ad S0 t w)) = some S' ∧ FSc R ρ Λ c F H S0 t cs pa ma S' l (M ++ [w]) St ∧ (∀ f a, f ≠ 3 → f ≠ 208 → gFI S' f a = gFI S f a) := by
  obtain ⟨h1, ⟨h2, h3, h4, h5⟩, ⟨h6, h6b, h6c⟩, h7, h8, h9⟩ := h
  obtain ⟨-, -, ta, -⟩ := h0.at0 hc hw.vt hw.2.2.1
  have w0 := ((h7 w tw hw).1).mpr hM
  have one : cnt c F H (φm S0 t S) = cnt c F H (fun y => if y = w then (1, 0, 0, 0) else φm S0 t S y) + 1 := cnt_one hc hw.vt h10 w0 (by simp) (fun y _ hy => by simp [hy])
  have lt : M.length < 160 := by omega
  have e : ∀ f a, f ≠ 3 → f ≠ 208 → gFI (sFI (sAR (sFI S 208 (Ad S0 t w) 1) ma M.length (some (Ad S0 t w))) 3 cs (nI (M.length + 1))) f a = gFI S f a := fun f a n1 n2 => by
    rw [gFI_sFI, if_neg (fun z => n1 z.1), gFI_sAR, gFI_sFI, if_neg (fun z => n2 z.1)]
  have e8 : ∀ y, vt c F H y → gFI (sFI (sAR (sFI S 208 (Ad S0 t w) 1) ma M.length (some (Ad S0 t w))) 3 cs (nI (M.length + 1))) 208 (Ad S0 t y) = if y = w then 1 else gFI S 208 (Ad S0 t y) := fun y hy => by
    rw [gFI_sFI, if_neg (fun z => absurd z.1 (by decide)), gFI_sAR, gFI_sFI]
    by_cases cy : y = w
    · rw [cy, if_pos ⟨rfl, rfl⟩, if_pos rfl]
    · rw [if_neg (fun z => cy (h0.inj hc hy hw.vt z.2)), if_neg cy]
  have es : φs S0 t (sFI (sAR (sFI S 208 (Ad S0 t w) 1) ma M.length (some (Ad S0 t w))) 3 cs (nI (M.length + 1))) = φs S0 t S := funext (fun y => by unfold φs; rw [e 205 _ (by decide) (by decide)])
  refine ⟨_, nt_val k h1 h6 lt, ⟨((h1.sFI 208 ta 1 rfl (fun y => absurd y (by decide))).sAR k.2.2.1 (by show arS (ρ ma) = false; rw [k.2.2.2.1]; rfl) M.length _ (okK.ek k.2.2.1 (okK.of ta))).sFI 3 k.1.1 _ rfl (fun y => absurd y (by decide)), ⟨(e 1 cs (by decide) (by decide)).trans h2, pth_congr _ (fun i hi => ?_) h3, fun q hq => ?_, h5⟩, ⟨?_, ?_, fun y hy => ?_⟩, fun y ty hy => ⟨?_, ?_⟩, ?_, ?_⟩, e⟩
  · rw [gAR_sFI, gAR_sAR, if_neg (fun z => k.ne z.1)]
    rfl
  · rw [e 209 _ (by decide) (by decide)]
    exact h4 q hq
  · rw [gFI_sFI, if_pos ⟨rfl, rfl⟩, List.length_append, List.length_singleton]
  · refine sncP (P := fun i y => gAR (sFI (sAR (sFI S 208 (Ad S0 t w) 1) ma M.length (some (Ad S0 t w))) 3 cs (nI (M.length + 1))) ma i = some (Ad S0 t y)) (fun i y hy => ?_) ?_
    · have hi := (List.getElem?_eq_some_iff.mp hy).1
      rw [gAR_sFI, gAR_sAR, if_neg (fun z => by have := z.2; omega)]
      exact h6b i y hy
    · rw [gAR_sFI, gAR_sAR, if_pos ⟨rfl, rfl⟩]
  · rcases List.mem_append.mp hy with y1 | y1
    · exact h6c y y1
    · rw [List.mem_singleton.mp y1]
      exact ⟨tw, hw⟩
  · rw [e8 y hy.vt, List.mem_append, List.mem_singleton]
    by_cases cy : y = w
    · rw [if_pos cy]
      exact ⟨fun z => absurd z (by decide), fun z => absurd (Or.inr cy) z⟩
    · rw [if_neg cy, (h7 y ty hy).1]
      exact ⟨fun z1 z2 => z2.elim z1 cy, fun z1 z2 => z1 (Or.inl z2)⟩
  · rw [e 205 _ (by decide) (by decide)]
    exact (h7 y ty hy).2
  · rw [es]
    exact h8
  · have : cnt c F H (φm S0 t (sFI (sAR (sFI S 208 (Ad S0 t w) 1) ma M.length (some (Ad S0 t w))) 3 cs (nI (M.length + 1)))) ≤ cnt c F H (fun y => if y = w then (1, 0, 0, 0) else φm S0 t S y) := cnt_mono (fun y hy h0' => by
      have h0' : gFI (sFI (sAR (sFI S 208 (Ad S0 t w) 1) ma M.length (some (Ad S0 t w))) 3 cs (nI (M.length + 1))) 208 (Ad S0 t y) = 0 := h0'
      rw [e8 y hy] at h0'
      by_cases cy : y = w
      · rw [if_pos cy] at h0'
        exact absurd h0' (by decide)
      · rw [if_neg cy] at h0'
        simp only [cy, if_false]
        exact h0')
    rw [List.length_append, List.length_singleton]
    omega
/-- a fresh one is entered -/
theorem FSc.enter (h0 : CA x m o R G us t c c2 F U W H ρ ω Λ S0) (hc : c ≤ 16) (h : FSc R ρ Λ c F H S0 t cs pa ma S l M St) (k : WK2 R ρ Λ S0 cs pa ma) (hw : nd c F H w tw) (hS : St w) (h10 : w.2 < 10) : Pa (F_X0_enter Λ.2.2 S cs (some (Ad S0 t w))) (fun S' => FSc R ρ Λ c F H S0 t cs pa ma S' ((w, 0) :: l) M (fun y => St y ∧ y ≠ w) ∧ cnt c F H (φs S0 t S') + 1 ≤ cnt c F H (φs S0 t S)) := by
  obtain ⟨h1, ⟨h2, h3, h4, h5⟩, ⟨h6, h6b, h6c⟩, h7, h8, h9⟩ := h
  obtain ⟨-, -, ta, -⟩ := h0.at0 hc hw.vt hw.2.2.1
  have w0 := ((h7 w tw hw).2).mpr hS
  have one : cnt c F H (φs S0 t S) = cnt c F H (fun y => if y = w then (1, 0, 0, 0) else φs S0 t S y) + 1 := cnt_one hc hw.vt h10 w0 (by simp) (fun y _ hy => by simp [hy])
  refine Pa_mono (en_val k.1 h1 h2 (by omega)) (fun S' hS' => ?_)
  have e : ∀ f a, f ≠ 1 → f ≠ 205 → f ≠ 209 → gFI S' f a = gFI S f a := fun f a n1 n2 n3 => by
    rw [hS', gFI_sFI, if_neg (fun z => n1 z.1), gFI_sAR, gFI_sFI, if_neg (fun z => n3 z.1), gFI_sFI, if_neg (fun z => n2 z.1)]
  have e5 : ∀ y, vt c F H y → gFI S' 205 (Ad S0 t y) = if y = w then 1 else gFI S 205 (Ad S0 t y) := fun y hy => by
    rw [hS', gFI_sFI, if_neg (fun z => absurd z.1 (by decide)), gFI_sAR, gFI_sFI, if_neg (fun z => absurd z.1 (by decide)), gFI_sFI]
    by_cases cy : y = w
    · rw [cy, if_pos ⟨rfl, rfl⟩, if_pos rfl]
    · rw [if_neg (fun z => cy (h0.inj hc hy hw.vt z.2)), if_neg cy]
  have e9 : ∀ y, vt c F H y → gFI S' 209 (Ad S0 t y) = if y = w then 0 else gFI S 209 (Ad S0 t y) := fun y hy => by
    rw [hS', gFI_sFI, if_neg (fun z => absurd z.1 (by decide)), gFI_sAR, gFI_sFI]
    by_cases cy : y = w
    · rw [cy, if_pos ⟨rfl, rfl⟩, if_pos rfl]
    · rw [if_neg (fun z => cy (h0.inj hc hy hw.vt z.2)), if_neg cy, gFI_sFI, if_neg (fun z => absurd z.1 (by decide))]
  have em : φm S0 t S' = φm S0 t S := funext (fun y => by unfold φm; rw [e 208 _ (by decide) (by decide) (by decide)])
  have le : cnt c F H (φs S0 t S') ≤ cnt c F H (fun y => if y = w then (1, 0, 0, 0) else φs S0 t S y) := cnt_mono (fun y hy h0' => by
    have h0' : gFI S' 205 (Ad S0 t y) = 0 := h0'
    rw [e5 y hy] at h0'
    by_cases cy : y = w
    · rw [if_pos cy] at h0'
      exact absurd h0' (by decide)
    · rw [if_neg cy] at h0'
      simp only [cy, if_false]
      exact h0')
  have wl : ∀ q, q ∈ l → q.1 ≠ w := fun q hq e => (h4 q hq).2.2.2 (e ▸ hS)
  have ll : (l.map (fun q => q.1)).length = l.length := List.length_map _
  refine ⟨⟨?_, ⟨?_, ⟨?_, pth_congr _ (fun i hi => ?_) h3⟩, fun q hq => ?_, ?_⟩, ⟨(e 3 cs (by decide) (by decide) (by decide)).trans h6, fun i y hy => ?_, h6c⟩, fun y ty hy => ⟨?_, ?_⟩, ?_, ?_⟩, by omega⟩
  · rw [hS']
    exact sh_en k.1 h1 ta
  · rw [hS', gFI_sFI, if_pos ⟨rfl, rfl⟩, List.length_cons]
  · rw [hS', gAR_sFI, gAR_sAR, if_pos ⟨rfl, ll⟩]
  · rw [hS', gAR_sFI, gAR_sAR, if_neg (fun z => by have := z.2; omega)]
    rfl
  · rcases List.mem_cons.mp hq with y | y
    · rw [y]
      refine ⟨Nat.zero_le _, ?_, ⟨tw, hw⟩, fun z => z.2 rfl⟩
      rw [e9 w hw.vt, if_pos rfl]
      rfl
    · obtain ⟨a, b, ⟨ty, hy⟩, d⟩ := h4 q y
      refine ⟨a, ?_, ⟨ty, hy⟩, fun z => d z.1⟩
      rw [e9 q.1 hy.vt, if_neg (wl q y)]
      exact b
  · rw [List.map_cons, List.nodup_cons]
    refine ⟨fun z => ?_, h5⟩
    obtain ⟨q, hq, eq⟩ := List.mem_map.mp z
    exact wl q hq eq
  · rw [hS', gAR_sFI, gAR_sAR, if_neg (fun z => k.ne z.1.symm)]
    exact h6b i y hy
  · rw [e 208 _ (by decide) (by decide) (by decide)]
    exact (h7 y ty hy).1
  · rw [e5 y hy.vt]
    by_cases cy : y = w
    · rw [if_pos cy]
      exact ⟨fun z => absurd z (by decide), fun z => absurd cy z.2⟩
    · rw [if_neg cy, (h7 y ty hy).2]
      exact ⟨fun z => ⟨z, cy⟩, fun z => z.1⟩
  · rw [List.length_cons]
    omega
  · rw [em]
    exact h9
/-- all along -/
theorem fw_loop (h : CA x m o R G us t c c2 F U W H ρ ω Λ S0) (hc : c ≤ 16) (hA : WA c F W) (hB : HA c F H) (k : WK2 R ρ Λ S0 cs pa ma) : ∀ (n p : Nat) (l : List ((Nat × Nat) × Nat)) (M : List (Nat × Nat)) (S1 : sSt), FSc R ρ Λ c F H S0 t cs pa ma S1 l M (fun y => y ∉ M ∧ y ≠ s) → p + (8 * cnt c F H (φs S0 t S1) + mf l) < 1000000 → Pa (L_X0_follow_21 Λ.2.2 n S1 cs (some us) (nI p)) (fun r => ∃ X, chR W H s l M X ∧ FSc R ρ Λ c F H S0 t cs pa ma r [] X (fun y => y ∉ X ∧ y ≠ s))
  | 0, _, _, _, _, _, _ => Pa_none
  | n + 1, p, [], M, S1, J, hM => by
    show Pa (Y_X0_follow_21 Λ.2.2 (L_X0_follow_21 Λ.2.2 n) S1 cs (some us) (nI p)) _
    unfold Y_X0_follow_21
    rw [kM, J.2.1.1]
    exact Pa_if (nleN (by omega) (by omega) (by omega)) (Pa_it (leN (b := 0) (by decide) (by omega) (Nat.le_refl 0)) (Pa_some ⟨M, chR_e, J⟩))
  | n + 1, p, (z, q) :: r, M, S1, J, hM => by
    have J' := J
    obtain ⟨g, ⟨d1, p1, n1, nd1⟩, ⟨m1, m2, m3⟩, iff, c1, c2⟩ := J'
    obtain ⟨hq3, eq9, ⟨th, hz⟩, nz⟩ := n1 (z, q) List.mem_cons_self
    have hz : nd c F H z th := hz
    have hq3 : q ≤ 3 := hq3
    have eq9 : gFI S1 209 (Ad S0 t z) = nI q := eq9
    have hv := hz.vt
    obtain ⟨-, -, ta, -⟩ := h.at0 hc hv hz.2.2.1
    have h3 := h.b3 hc hv hz.2.2.1
    obtain ⟨-, ⟨-, -, -, la, ba, e201, hL⟩, -⟩ := h.at1 hc g hv hz.2.2.1
    have hlen : ((z, q) :: r).length = r.length + 1 := List.length_cons
    have e0 : gFR S1 0 cs = some pa := (g.fr 0 cs).trans k.1.2.1
    have lr : (r.map (fun q => q.1)).length = r.length := List.length_map _
    have top : gAR S1 pa r.length = some (Ad S0 t z) := by
      have := p1.1
      rw [lr] at this
      exact this
    have mz : mf ((z, q) :: r) = (7 - 2 * q) + mf r := rfl
    show Pa (Y_X0_follow_21 Λ.2.2 (L_X0_follow_21 Λ.2.2 n) S1 cs (some us) (nI p)) _
    unfold Y_X0_follow_21 B_X0_follow_80 B_X0_follow_153 F_X1_length
    rw [kM, d1, hlen, n_s1 (by omega), n_cl (by omega), n_a1]
    refine Pa_if (nleN (by omega) (by omega) (by omega)) (Pa_if (nleN (a := r.length + 1) (b := 0) (by omega) (by omega) (by omega)) (Pa_r e0 (Pa_if (by rw [k.1.2.2.2.2]; exact nltN (by omega) (by omega) (by omega)) (Pa_r e0 (Pa_g (Pa_a (b := Ad S0 t z) top (Pa_oS rfl (Pa_r e201 (Pa_bs ?_)))))))))
    rw [hL.1, eq9]
    by_cases cq : q < th.2.2.2.length
    · have q3 : q < 3 := by omega
      refine Pa_it (ltN (by omega) (by omega) cq) (Pa_bs ?_)
      have hvq : th.2.2.2[q]? = some (th.2.2.2[q]) := List.getElem?_eq_getElem cq
      have ez := chz_s (W := W) hz.2.2.1 hvq
      refine Pa_bind (pt_val h hc hA hB g hv hz.2.2.1 hvq) (fun rr _ hr => ?_)
      rw [n_a1 q]
      have J2 := FSc.nx h hc J q3
      refine Pa_st (fun S2 e2 => ?_)
      rw [← e2] at J2
      have s5 : ∀ y, gFI S2 205 y = gFI S1 205 y := fun y => by rw [e2, gFI_sFI, if_neg (fun z => absurd z.1 (by decide))]
      have es : φs S0 t S2 = φs S0 t S1 := funext (fun y => by unfold φs; rw [s5])
      have mz2 : mf ((z, q + 1) :: r) = (7 - 2 * (q + 1)) + mf r := rfl
      have cont : Pa (L_X0_follow_21 Λ.2.2 n S2 cs (some us) (nI (p + 1))) (fun r' => ∃ X, chR W H s ((z, q + 1) :: r) M X ∧ FSc R ρ Λ c F H S0 t cs pa ma r' [] X (fun y => y ∉ X ∧ y ≠ s)) := fw_loop h hc hA hB k n (p + 1) _ M S2 J2 (by rw [es]; omega)
      rcases hr with ⟨f1, rfl⟩ | ⟨w, tw, f1, rfl, hw⟩
      · rw [f1] at ez
        exact Pa_on rfl (Pa_mono cont (fun r' hr' => by
          obtain ⟨X, hX, hF⟩ := hr'
          exact ⟨X, chR_n q3 ez hX, hF⟩))
      · rw [f1] at ez
        refine Pa_oS rfl ?_
        have w10 : w.2 < 10 := by
          obtain ⟨u, tt, -, g1⟩ := h.2.2.2.2.1 w.1 hw.vt.1 hw.vt.2.1
          have := g1.2.2.1
          have := hw.vt.2.2
          omega
        have iw := (J2.2.2.2.1 w tw hw)
        by_cases cm : gFI S2 208 (Ad S0 t w) = 0
        · have hwM := iw.1.mp cm
          obtain ⟨S4, eN, J4, o4⟩ := FSc.note h hc J2 k hw hwM w10
          refine Pa_it cm (Pa_be eN ?_)
          have es4 : φs S0 t S4 = φs S0 t S1 := funext (fun y => by unfold φs; rw [o4 205 _ (by decide) (by decide), s5])
          have iw4 := (J4.2.2.2.1 w tw hw).2
          by_cases cs0 : gFI S4 205 (Ad S0 t w) = 0
          · have hSt := iw4.mp cs0
            refine Pa_it cs0 (Pa_bind (FSc.enter h hc J4 k hw hSt w10) (fun S6 _ h6 => ?_))
            obtain ⟨J6, l6⟩ := h6
            have J6' := J6.cg (St' := fun y => y ∉ M ++ [w] ∧ y ≠ s) (fun y _ _ => by
              rw [List.mem_append, List.mem_singleton]
              exact ⟨fun z => ⟨fun z2 => z2.elim z.1.1 z.2, z.1.2⟩, fun z => ⟨⟨fun z2 => z.1 (Or.inl z2), z.2⟩, fun z2 => z.1 (Or.inr z2)⟩⟩)
            refine Pa_mono (fw_loop h hc hA hB k n (p + 1) _ (M ++ [w]) S6 J6' ?_) (fun r' hr' => ?_)
            · rw [es4] at l6
              show p + 1 + (8 * cnt c F H (φs S0 t S6) + ((7 - 2 * 0) + mf ((z, q + 1) :: r))) < 1000000
              omega
            · obtain ⟨X, hX, hF⟩ := hr'
              exact ⟨X, chR_w q3 ez hwM hSt.2 hX, hF⟩
          · have hws : w = s := Classical.byContradiction (fun z => cs0 (iw4.mpr ⟨hwM, z⟩))
            have J4' := J4.cg (St' := fun y => y ∉ M ++ [w] ∧ y ≠ s) (fun y _ _ => by
              rw [List.mem_append, List.mem_singleton]
              exact ⟨fun z => ⟨fun z2 => z2.elim z.1 (fun z3 => z.2 (z3.trans hws)), z.2⟩, fun z => ⟨fun z2 => z.1 (Or.inl z2), z.2⟩⟩)
            refine Pa_if cs0 (Pa_mono (fw_loop h hc hA hB k n (p + 1) _ (M ++ [w]) S4 J4' (by rw [es4]; omega)) (fun r' hr' => ?_))
            obtain ⟨X, hX, hF⟩ := hr'
            exact ⟨X, chR_s q3 ez hwM hws hX, hF⟩
        · have hwM : w ∈ M := Classical.byContradiction (fun z => cm (iw.1.mpr z))
          refine Pa_if cm (Pa_mono cont (fun r' hr' => ?_))
          obtain ⟨X, hX, hF⟩ := hr'
          exact ⟨X, chR_m q3 ez hwM hX, hF⟩
    · refine Pa_if (nltN (by omega) (by omega) (by omega)) (Pa_b ?_)
      have J2 := J.pop k
      refine Pa_mono (fw_loop h hc hA hB k n (p + 1) r M _ J2 ?_) (fun r' hr' => ?_)
      · have es : φs S0 t (sFI S1 1 cs (nI (r.length + 1 - 1))) = φs S0 t S1 := funext (fun y => by unfold φs; rw [gFI_sFI, if_neg (fun z => absurd z.1 (by decide))])
        rw [es]
        omega
      · obtain ⟨X, hX, hF⟩ := hr'
        exact ⟨X, chR_k hz.2.2.1 hX (by omega), hF⟩
theorem mf_le : ∀ (l : List ((Nat × Nat) × Nat)), mf l ≤ 7 * l.length
  | [] => Nat.zero_le _
  | q :: r => by
    have := mf_le r
    show (7 - 2 * q.2) + mf r ≤ 7 * (r.length + 1)
    omega
theorem fw_val (h : CA x m o R G us t c c2 F U W H ρ ω Λ S0) (hc : c ≤ 16) (hA : WA c F W) (hB : HA c F H) (k : WK2 R ρ Λ S0 cs pa ma) (hs : nd c F H s th) (h10 : s.2 < 10) : Pa (F_X0_follow Λ.2.2 S0 cs (some (Ad S0 t s)) (some us)) (fun r => FSc R ρ Λ c F H S0 t cs pa ma r [] (chL W H s) (fun y => y ∉ chL W H s ∧ y ≠ s)) := by
  unfold F_X0_follow
  refine Pa_bind (rf_val h hc) (fun S2 _ h2 => Pa_b (Pa_st (fun S4 e4 => ?_)))
  obtain ⟨g2, hfr⟩ := h2
  have e : ∀ f a, f ≠ 1 → f ≠ 3 → gFI S4 f a = gFI S2 f a := fun f a n1 n2 => by
    rw [e4, gFI_sFI, if_neg (fun z => n1 z.1), gFI_sFI, if_neg (fun z => n2 z.1)]
  have J4 : FSc R ρ Λ c F H S0 t cs pa ma S4 [] [] (fun _ => True) := by
    refine ⟨?_, ⟨?_, trivial, fun q hq => (by cases hq), List.nodup_nil⟩, ⟨?_, fun i w hw => (by cases hw), fun w hw => by cases hw⟩, fun y ty hy => ?_, ?_, ?_⟩
    · rw [e4]
      exact (g2.sFI 3 k.1.1 _ rfl (fun y => absurd y (by decide))).sFI 1 k.1.1 _ rfl (fun y => absurd y (by decide))
    · rw [e4, gFI_sFI, if_pos ⟨rfl, rfl⟩]
      rfl
    · rw [e4, gFI_sFI, if_neg (fun z => absurd z.1 (by decide)), gFI_sFI, if_pos ⟨rfl, rfl⟩]
      rfl
    · obtain ⟨f1, f2, f3, f4⟩ := hfr y ty hy.vt hy.2.2.1
      rw [e 208 _ (by decide) (by decide), e 205 _ (by decide) (by decide)]
      exact ⟨⟨(fun _ z => by cases z), fun _ => f4⟩, ⟨fun _ => trivial, fun _ => f1⟩⟩
    · have := cnt_le (c := c) (F := F) (H := H) (φ := φs S0 t S4)
      show 0 + _ ≤ _
      omega
    · have := cnt_le (c := c) (F := F) (H := H) (φ := φm S0 t S4)
      show 0 + _ ≤ _
      omega
  refine Pa_bind (FSc.enter h hc J4 k hs trivial h10) (fun S6 _ h6 => ?_)
  obtain ⟨J6, -⟩ := h6
  have J6' := J6.cg (St' := fun y => y ∉ ([] : List (Nat × Nat)) ∧ y ≠ s) (fun y _ _ => ⟨fun z => ⟨fun z2 => (by cases z2), z.2⟩, fun z => ⟨trivial, z.2⟩⟩)
  refine Pa_mono (fw_loop (s := s) h hc hA hB k FU 0 [(s, 0)] [] S6 J6' ?_) (fun r hr => ?_)
  · have l1 := cnt_le (c := c) (F := F) (H := H) (φ := φs S0 t S6)
    have l2 := mf_le [(s, 0)]
    show 0 + _ < 1000000
    have l3 : [(s, 0)].length = 1 := rfl
    omega
  · obtain ⟨X, hX, hF⟩ := hr
    rw [chL_e hX]
    exact hF
end
section
variable {c : Nat} {F : aF} {W : aU} {H : aH} {p n i w : Int32} {z : Nat × Nat}
theorem aChain_n (e : cOf c F H p n = none) : aChain c F W H p n i w = -1 := by unfold aChain; rw [e]
theorem aChain_o (e : cOf c F H p n = some z) (h : ¬ (w = 0 ∨ w = 1)) : aChain c F W H p n i w = -2 := by unfold aChain; rw [e]; exact if_neg h
theorem aChain_x (e : cOf c F H p n = some z) (h : w = 0 ∨ w = 1) (h2 : i < 0 ∨ nI (chL W H z).length ≤ i) : aChain c F W H p n i w = -5 := by unfold aChain; rw [e]; exact (if_pos h).trans (if_pos h2)
theorem aChain_0 (e : cOf c F H p n = some z) (h : w = 0) (h2 : ¬ (i < 0 ∨ nI (chL W H z).length ≤ i)) : aChain c F W H p n i w = nI ((chL W H z)[i.toNatClampNeg]?.getD (0, 0)).1 := by unfold aChain; rw [e]; exact (if_pos (Or.inl h)).trans ((if_neg h2).trans (if_pos h))
theorem aChain_1 (e : cOf c F H p n = some z) (h : w = 1) (h2 : ¬ (i < 0 ∨ nI (chL W H z).length ≤ i)) {y : Nat × Nat} (ey : (chL W H z)[i.toNatClampNeg]?.getD (0, 0) = y) {th : aT} (hth : (H y.1)[y.2]? = some th) : aChain c F W H p n i w = nmo th.1 := by
  have hn : ¬ w = 0 := by rw [h]; decide
  subst ey
  unfold aChain
  rw [e]
  refine (if_pos (Or.inr h)).trans ((if_neg h2).trans ((if_neg hn).trans ?_))
  rw [hth]
end
section
variable {x m o us t c c2 : Nat} {R : List Nat} {G : Nat → Nat} {ρ ω : Nat → Nat} {Λ : sLay} {S : sSt} {F : aF} {U W : aU} {H : aH}
theorem chain_c (h : CA x m o R G us t c c2 F U W H ρ ω Λ S) (hc : c ≤ 16) (hA : WA c F W) (hB : HA c F H) (p n i w : Int32) : Pa (F_X8_chain Λ.2.2 S x p n i w) (fun r => r.1 = aChain c F W H p n i w) := by
  have h320 := h.1.2.2.2.2.2.2.2.2.1
  obtain ⟨cs, pa, ma, e321, k⟩ := h.wk2
  unfold F_X8_chain
  refine Pa_bind (co_val h hc p n) (fun v _ hv => ?_)
  rcases hv with ⟨e, rfl⟩ | ⟨z, e, rfl⟩
  · exact Pa_on rfl (Pa_some (aChain_n e).symm)
  · obtain ⟨th, hz, -, -, -⟩ := cOf_nd e
    have z10 : z.2 < 10 := by
      obtain ⟨u, tt, -, g1⟩ := h.2.2.2.2.1 z.1 hz.vt.1 hz.vt.2.1
      have := g1.2.2.1
      have := hz.vt.2.2
      omega
    refine Pa_oS rfl ?_
    have go : w = 0 ∨ w = 1 → Pa (B_X8_chain_29 Λ.2.2 S x i w (Ad S t z)) (fun r => r.1 = aChain c F W H p n i w) := fun hw => by
      unfold B_X8_chain_29
      refine Pa_m e321 (Pa_m h320 (Pa_bs (Pa_bind (fw_val h hc hA hB k hz z10) (fun S8 _ J => ?_))))
      obtain ⟨g, -, ⟨m1, m2, m3⟩, -, -, c9⟩ := J
      refine Pa_r ((g.fr 321 x).trans e321) ?_
      unfold F_X0_metAt
      rw [m1]
      by_cases c1 : i < 0
      · rw [if_pos c1]
        exact Pa_bs (Pa_on rfl (Pa_some (aChain_x e hw (Or.inl c1)).symm))
      · rw [if_neg c1]
        have c1' := c1
        obtain ⟨q, hq, rfl⟩ := nI_of c1
        by_cases c2 : nI (chL W H z).length ≤ nI q
        · rw [if_pos c2]
          exact Pa_bs (Pa_on rfl (Pa_some (aChain_x e hw (Or.inr c2)).symm))
        · have lt : q < (chL W H z).length := Nat.lt_of_not_le (fun y => c2 (leN (by omega) hq y))
          have nx : ¬ (nI q < 0 ∨ nI (chL W H z).length ≤ nI q) := fun y => y.elim c1' c2
          rw [if_neg c2]
          have e2 : gFR S8 2 cs = some ma := (g.fr 2 cs).trans k.2.1
          simp only [bnd, e2, Option.bind_some, k.2.2.2.2]
          have el := List.getElem?_eq_getElem lt
          rw [if_neg (nleN (by omega) (by omega) (by omega)), n_gi (by omega) (by omega), n_cl hq, m2 q _ el]
          obtain ⟨tw, hw2⟩ := m3 _ (List.getElem_mem lt)
          obtain ⟨-, hTC, e200⟩ := h.at1 hc g hw2.vt hw2.2.2.1
          have ey : (chL W H z)[(nI q).toNatClampNeg]?.getD (0, 0) = (chL W H z)[q] := by
            rw [n_cl hq, el]
            rfl
          refine Pa_bs (Pa_oS rfl ?_)
          by_cases c3 : w = 0
          · have ea := aChain_0 e c3 nx
            rw [ey] at ea
            exact Pa_it c3 (Pa_some (e200.trans ea.symm))
          · have c4 : w = 1 := hw.elim (fun y => absurd y c3) id
            have ea := aChain_1 e c4 nx ey hw2.2.2.1
            refine Pa_if c3 ?_
            unfold F_X8_nameOf
            refine Pa_bs (Pa_some (Eq.trans ?_ ea.symm))
            show nmo (gFI S8 202 (Ad S t (chL W H z)[q])) = nmo tw.1
            rw [hTC.1]
    by_cases c1 : w = 0
    · exact Pa_it c1 (go (Or.inl c1))
    · refine Pa_if c1 ?_
      by_cases c2 : w = 1
      · exact Pa_it c2 (go (Or.inr c2))
      · exact Pa_if c2 (Pa_some (aChain_o e (fun y => y.elim c1 c2)).symm)
end
