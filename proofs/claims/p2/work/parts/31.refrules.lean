/-! Safety of the reference: its arrays lie where G says, its ints keep within their bounds. -/
def isM (f : Nat) : Bool := (Nat.ble 362 f && Nat.ble f 377) || (Nat.ble 379 f && Nat.ble f 383) || (Nat.ble 385 f && Nat.ble f 387) || (Nat.ble 389 f && Nat.ble f 392) || Nat.beq f 395
def isB (f : Nat) : Bool := Nat.ble 362 f && Nat.ble f 374
def isC (f : Nat) : Bool := Nat.ble 375 f && Nat.ble f 377
def rgN : List (Nat × Nat) := [(363, 10), (367, 3), (369, 6), (371, 12), (370, 15), (376, 690), (382, 159), (385, 159), (386, 3), (389, 690), (392, 15)]
def rgO : List (Nat × Nat) := [(374, 15), (379, 159)]
def rgF : List (Nat × Nat) := [(361, 16), (384, 160), (388, 700), (393, 16)]
def nB (B : Nat) (v : Int32) : Prop := ∃ j, j ≤ B ∧ v = nI j
def oB (B : Nat) (v : Int32) : Prop := v = -5 ∨ nB B v
theorem oB.ne {B : Nat} {v : Int32} (h : oB B v) (c : ¬ v = -5) : ∃ j, j ≤ B ∧ v = nI j := h.resolve_left c
theorem oB.mono {B B' : Nat} {v : Int32} (h : oB B v) (c : B ≤ B') : oB B' v := h.imp id (fun ⟨j, hj, e⟩ => ⟨j, Nat.le_trans hj c, e⟩)
/-- ghosts: what lies elsewhere, what lay of the units, what was kept -/
abbrev gY : Type := sSt × sSt × sSt
def MG (m : Nat) (G : Nat → Nat) (Λ : sLay) (S : sSt) : Prop := (∀ f, isM f = true → gFR S f m = some (G f)) ∧ (∀ t ∈ arrs9, Λ.2.2 (G t.1) = t.2.2) ∧ ∀ f f', isM f = true → isM f' = true → G f = G f' → f = f'
def MC (m : Nat) (G : Nat → Nat) (Λ : sLay) (Z S : sSt) : Prop := MG m G Λ S ∧ (∀ q ∈ rgN, ∀ k, nB q.2 (gAI S (G q.1) k)) ∧ (∀ q ∈ rgO, ∀ k, oB q.2 (gAI S (G q.1) k)) ∧ (∀ q ∈ rgF, nB q.2 (gFI S q.1 m)) ∧
  ∀ a, a ≠ m → (∀ f, isM f = true → a ≠ G f) → kpA Z S a
def BE (m : Nat) (G : Nat → Nat) (S0 S : sSt) : Prop := gFI S 361 m = gFI S0 361 m ∧ ∀ f, isB f = true → ∀ k, gAI S (G f) k = gAI S0 (G f) k ∧ gAJ S (G f) k = gAJ S0 (G f) k
def KE (m : Nat) (G : Nat → Nat) (S0 S : sSt) : Prop := gFI S 378 m = gFI S0 378 m ∧ ∀ f, isC f = true → ∀ k, gAI S (G f) k = gAI S0 (G f) k ∧ gAJ S (G f) k = gAJ S0 (G f) k
def ME (m : Nat) (G : Nat → Nat) (S0 S : sSt) : Prop := gFI S 361 m = gFI S0 361 m ∧ ∀ k, gAI S (G 363) k = gAI S0 (G 363) k ∧ gAI S (G 371) k = gAI S0 (G 371) k
/-- units and what is kept stay -/
def MI (m : Nat) (G : Nat → Nat) (Λ : sLay) (Y : gY) (S : sSt) : Prop := MC m G Λ Y.1 S ∧ BE m G Y.2.1 S ∧ KE m G Y.2.2 S
/-- units stay -/
def MK (m : Nat) (G : Nat → Nat) (Λ : sLay) (Y : gY) (S : sSt) : Prop := MC m G Λ Y.1 S ∧ BE m G Y.2.1 S
/-- how many ever stays -/
def MB (m : Nat) (G : Nat → Nat) (Λ : sLay) (Y : gY) (S : sSt) : Prop := MC m G Λ Y.1 S ∧ gFI S 361 m = gFI Y.2.1 361 m
/-- how many ever, and how many things and uses, stay -/
def MM (m : Nat) (G : Nat → Nat) (Λ : sLay) (Y : gY) (S : sSt) : Prop := MC m G Λ Y.1 S ∧ ME m G Y.2.1 S
section
variable {m : Nat} {G : Nat → Nat} {Λ : sLay} {Y : gY} {Z S S0 r : sSt}
theorem BE.rf : BE m G S S := ⟨rfl, fun _ _ _ => ⟨rfl, rfl⟩⟩
theorem KE.rf : KE m G S S := ⟨rfl, fun _ _ _ => ⟨rfl, rfl⟩⟩
theorem ME.rf : ME m G S S := ⟨rfl, fun _ => ⟨rfl, rfl⟩⟩
theorem BE.tr (h : BE m G S0 S) (g : BE m G S r) : BE m G S0 r := ⟨g.1.trans h.1, fun f hf k => ⟨(g.2 f hf k).1.trans (h.2 f hf k).1, (g.2 f hf k).2.trans (h.2 f hf k).2⟩⟩
theorem MI.d (h : MI m G Λ Y S) : MI m G Λ Y S := h
theorem MI.of (_ : MI m G Λ Y S) (g : MI m G Λ Y r) : MI m G Λ Y r := g
theorem MK.d (h : MK m G Λ Y S) : MI m G Λ (Y.1, Y.2.1, S) S := ⟨h.1, h.2, KE.rf⟩
theorem MK.of (_ : MK m G Λ Y S) (g : MI m G Λ (Y.1, Y.2.1, S) r) : MK m G Λ Y r := ⟨g.1, g.2.1⟩
theorem MB.d (h : MB m G Λ Y S) : MI m G Λ (Y.1, S, S) S := ⟨h.1, BE.rf, KE.rf⟩
theorem MB.of (h : MB m G Λ Y S) (g : MI m G Λ (Y.1, S, S) r) : MB m G Λ Y r := ⟨g.1, g.2.1.1.trans h.2⟩
theorem MM.d (h : MM m G Λ Y S) : MI m G Λ (Y.1, S, S) S := ⟨h.1, BE.rf, KE.rf⟩
theorem MM.b (h : MM m G Λ Y S) : MB m G Λ Y S := ⟨h.1, h.2.1⟩
theorem MB.mv (h : MB m G Λ Y S) : MM m G Λ (Y.1, S, S) S := ⟨h.1, ME.rf⟩
theorem MB.ofm (h : MB m G Λ Y S) (g : MB m G Λ (Y.1, S, S) r) : MB m G Λ Y r := ⟨g.1, g.2.trans h.2⟩
theorem MI.c (h : MI m G Λ Y S) : MC m G Λ Y.1 S := h.1
theorem MK.c (h : MK m G Λ Y S) : MC m G Λ Y.1 S := h.1
theorem MB.c (h : MB m G Λ Y S) : MC m G Λ Y.1 S := h.1
theorem MM.c (h : MM m G Λ Y S) : MC m G Λ Y.1 S := h.1
theorem MC.rf (h : MC m G Λ Z S) {f : Nat} (hm : isM f = true) : gFR S f m = some (G f) := h.1.1 f hm
theorem MC.l (h : MC m G Λ Z S) {f kd n : Nat} (hm : (f, kd, n) ∈ arrs9) : Λ.2.2 (G f) = n := h.1.2.1 _ hm
theorem MC.n (h : MC m G Λ Z S) {f B : Nat} (hm : (f, B) ∈ rgN) (k : Nat) : ∃ j, j ≤ B ∧ gAI S (G f) k = nI j := h.2.1 _ hm k
theorem MC.o (h : MC m G Λ Z S) {f B : Nat} (hm : (f, B) ∈ rgO) (k : Nat) : oB B (gAI S (G f) k) := h.2.2.1 _ hm k
theorem MC.f (h : MC m G Λ Z S) {f B : Nat} (hm : (f, B) ∈ rgF) : ∃ j, j ≤ B ∧ gFI S f m = nI j := h.2.2.2.1 _ hm
theorem MC.ne (h : MC m G Λ Z S) {f f' : Nat} (hf : isM f = true) (hf' : isM f' = true) (hne : f ≠ f') : G f ≠ G f' := fun e => hne (h.1.2.2 f f' hf hf' e)
theorem MC.oth (h : MC m G Λ Z S) {f f' : Nat} (hf : isM f = true) (hf' : isM f' = true) (hne : f ≠ f') {T : sSt} {k k' : Nat} {v : Int32} : gAI (sAI T (G f') k' v) (G f) k = gAI T (G f) k := by
  rw [gAI_sAI, if_neg (fun c => h.ne hf hf' hne c.1)]
theorem MC.wI (h : MC m G Λ Z S) {f k : Nat} {v : Int32} (hf : isM f = true) (hn : ∀ q ∈ rgN, q.1 = f → nB q.2 v) (ho : ∀ q ∈ rgO, q.1 = f → oB q.2 v) (hN : ∀ q ∈ rgN, isM q.1 = true) (hO : ∀ q ∈ rgO, isM q.1 = true) : MC m G Λ Z (sAI S (G f) k v) := by
  refine ⟨h.1, fun q hq j => ?_, fun q hq j => ?_, h.2.2.2.1, fun a ha hg => (h.2.2.2.2 a ha hg).tr (kpA.sAI (hg f hf))⟩
  · rw [gAI_sAI]
    split
    · next c => exact hn q hq (h.1.2.2 _ _ (hN q hq) hf c.1)
    · exact h.2.1 q hq j
  · rw [gAI_sAI]
    split
    · next c => exact ho q hq (h.1.2.2 _ _ (hO q hq) hf c.1)
    · exact h.2.2.1 q hq j
theorem MC.wJ (h : MC m G Λ Z S) {f k : Nat} {v : Int64} (hf : isM f = true) : MC m G Λ Z (sAJ S (G f) k v) := ⟨h.1, h.2.1, h.2.2.1, h.2.2.2.1, fun a ha hg => (h.2.2.2.2 a ha hg).tr (kpA.sAJ (hg f hf))⟩
theorem MC.wF (h : MC m G Λ Z S) {f : Nat} {v : Int32} (hn : ∀ q ∈ rgF, q.1 = f → nB q.2 v) : MC m G Λ Z (sFI S f m v) := by
  refine ⟨h.1, h.2.1, h.2.2.1, fun q hq => ?_, fun a ha hg => (h.2.2.2.2 a ha hg).tr (kpA.sFI ha)⟩
  rw [gFI_sFI]
  split
  · next c => exact hn q hq c.1
  · exact h.2.2.2.1 q hq
theorem rg1 {L : List (Nat × Nat)} {f B : Nat} {v : Int32} (hm : ∀ q ∈ L, q.1 = f → q.2 = B) (hv : nB B v) : ∀ q ∈ L, q.1 = f → nB q.2 v := fun q hq e => by rw [hm q hq e]; exact hv
theorem rg2 {L : List (Nat × Nat)} {f B : Nat} {v : Int32} (hm : ∀ q ∈ L, q.1 = f → q.2 = B) (hv : oB B v) : ∀ q ∈ L, q.1 = f → oB q.2 v := fun q hq e => by rw [hm q hq e]; exact hv
theorem rg0 {L : List (Nat × Nat)} {f : Nat} {P : Nat → Prop} (hm : ∀ q ∈ L, q.1 ≠ f) : ∀ q ∈ L, q.1 = f → P q.2 := fun q hq e => absurd e (hm q hq)
theorem BE.wI (h : BE m G S0 S) (g : MC m G Λ Z S) {f k : Nat} {v : Int32} (hf : isM f = true) (hb : isB f = false) : BE m G S0 (sAI S (G f) k v) := by
  refine ⟨h.1, fun f' hf' k' => ⟨?_, (h.2 f' hf' k').2⟩⟩
  have hM' : isM f' = true := by simp only [isM, isB, Bool.and_eq_true, Bool.or_eq_true, Nat.ble_eq] at *; omega
  rw [g.oth hM' hf (fun e => by rw [e, hb] at hf'; cases hf')]
  exact (h.2 f' hf' k').1
theorem BE.wJ (h : BE m G S0 S) (g : MC m G Λ Z S) {f k : Nat} {v : Int64} (hf : isM f = true) (hb : isB f = false) : BE m G S0 (sAJ S (G f) k v) := by
  refine ⟨h.1, fun f' hf' k' => ⟨(h.2 f' hf' k').1, ?_⟩⟩
  have hM' : isM f' = true := by simp only [isM, isB, Bool.and_eq_true, Bool.or_eq_true, Nat.ble_eq] at *; omega
  rw [gAJ_sAJ, if_neg (fun c => g.ne hM' hf (fun e => by rw [e, hb] at hf'; cases hf') c.1)]
  exact (h.2 f' hf' k').2
theorem KE.wI (h : KE m G S0 S) (g : MC m G Λ Z S) {f k : Nat} {v : Int32} (hf : isM f = true) (hb : isC f = false) : KE m G S0 (sAI S (G f) k v) := by
  refine ⟨h.1, fun f' hf' k' => ⟨?_, (h.2 f' hf' k').2⟩⟩
  have hM' : isM f' = true := by simp only [isM, isC, Bool.and_eq_true, Bool.or_eq_true, Nat.ble_eq] at *; omega
  rw [g.oth hM' hf (fun e => by rw [e, hb] at hf'; cases hf')]
  exact (h.2 f' hf' k').1
theorem KE.wJ (h : KE m G S0 S) (g : MC m G Λ Z S) {f k : Nat} {v : Int64} (hf : isM f = true) (hb : isC f = false) : KE m G S0 (sAJ S (G f) k v) := by
  refine ⟨h.1, fun f' hf' k' => ⟨(h.2 f' hf' k').1, ?_⟩⟩
  have hM' : isM f' = true := by simp only [isM, isC, Bool.and_eq_true, Bool.or_eq_true, Nat.ble_eq] at *; omega
  rw [gAJ_sAJ, if_neg (fun c => g.ne hM' hf (fun e => by rw [e, hb] at hf'; cases hf') c.1)]
  exact (h.2 f' hf' k').2
theorem gFI_ne {f g : Nat} {v : Int32} (h : g ≠ f) : gFI (sFI S f m v) g m = gFI S g m := by rw [gFI_sFI, if_neg (fun c => h c.1)]
theorem BE.wF (h : BE m G S0 S) {f : Nat} {v : Int32} (hf : 361 ≠ f) : BE m G S0 (sFI S f m v) := ⟨(gFI_ne hf).trans h.1, h.2⟩
theorem KE.wF (h : KE m G S0 S) {f : Nat} {v : Int32} (hf : 378 ≠ f) : KE m G S0 (sFI S f m v) := ⟨(gFI_ne hf).trans h.1, h.2⟩
theorem ME.wF (h : ME m G S0 S) {f : Nat} {v : Int32} (hf : 361 ≠ f) : ME m G S0 (sFI S f m v) := ⟨(gFI_ne hf).trans h.1, h.2⟩
theorem ME.wI (h : ME m G S0 S) (g : MC m G Λ Z S) {f k : Nat} {v : Int32} (hf : isM f = true) (hb : f ≠ 363) (hc : f ≠ 371) : ME m G S0 (sAI S (G f) k v) := ⟨h.1, fun j => ⟨(g.oth (by decide) hf hb.symm).trans (h.2 j).1, (g.oth (by decide) hf hc.symm).trans (h.2 j).2⟩⟩
theorem MI.wI (h : MI m G Λ Y S) {f k : Nat} {v : Int32} (hf : isM f = true ∧ isB f = false ∧ isC f = false) (hn : ∀ q ∈ rgN, q.1 = f → nB q.2 v) (ho : ∀ q ∈ rgO, q.1 = f → oB q.2 v) : MI m G Λ Y (sAI S (G f) k v) := ⟨h.1.wI hf.1 hn ho (by decide) (by decide), h.2.1.wI h.1 hf.1 hf.2.1, h.2.2.wI h.1 hf.1 hf.2.2⟩
theorem MI.wJ (h : MI m G Λ Y S) {f k : Nat} {v : Int64} (hf : isM f = true ∧ isB f = false ∧ isC f = false) : MI m G Λ Y (sAJ S (G f) k v) := ⟨h.1.wJ hf.1, h.2.1.wJ h.1 hf.1 hf.2.1, h.2.2.wJ h.1 hf.1 hf.2.2⟩
theorem MI.wF (h : MI m G Λ Y S) {f : Nat} {v : Int32} (hf : 361 ≠ f ∧ 378 ≠ f) (hn : ∀ q ∈ rgF, q.1 = f → nB q.2 v) : MI m G Λ Y (sFI S f m v) := ⟨h.1.wF hn, h.2.1.wF hf.1, h.2.2.wF hf.2⟩
theorem MK.wI (h : MK m G Λ Y S) {f k : Nat} {v : Int32} (hf : isM f = true ∧ isB f = false) (hn : ∀ q ∈ rgN, q.1 = f → nB q.2 v) (ho : ∀ q ∈ rgO, q.1 = f → oB q.2 v) : MK m G Λ Y (sAI S (G f) k v) := ⟨h.1.wI hf.1 hn ho (by decide) (by decide), h.2.wI h.1 hf.1 hf.2⟩
theorem MK.wJ (h : MK m G Λ Y S) {f k : Nat} {v : Int64} (hf : isM f = true ∧ isB f = false) : MK m G Λ Y (sAJ S (G f) k v) := ⟨h.1.wJ hf.1, h.2.wJ h.1 hf.1 hf.2⟩
theorem MK.wF (h : MK m G Λ Y S) {f : Nat} {v : Int32} (hf : 361 ≠ f) (hn : ∀ q ∈ rgF, q.1 = f → nB q.2 v) : MK m G Λ Y (sFI S f m v) := ⟨h.1.wF hn, h.2.wF hf⟩
theorem MB.wI (h : MB m G Λ Y S) {f k : Nat} {v : Int32} (hf : isM f = true) (hn : ∀ q ∈ rgN, q.1 = f → nB q.2 v) (ho : ∀ q ∈ rgO, q.1 = f → oB q.2 v) : MB m G Λ Y (sAI S (G f) k v) := ⟨h.1.wI hf hn ho (by decide) (by decide), h.2⟩
theorem MB.wJ (h : MB m G Λ Y S) {f k : Nat} {v : Int64} (hf : isM f = true) : MB m G Λ Y (sAJ S (G f) k v) := ⟨h.1.wJ hf, h.2⟩
theorem MB.wF (h : MB m G Λ Y S) {f : Nat} {v : Int32} (hf : 361 ≠ f) (hn : ∀ q ∈ rgF, q.1 = f → nB q.2 v) : MB m G Λ Y (sFI S f m v) := ⟨h.1.wF hn, (gFI_ne hf).trans h.2⟩
theorem MM.wI (h : MM m G Λ Y S) {f k : Nat} {v : Int32} (hf : isM f = true ∧ f ≠ 363 ∧ f ≠ 371) (hn : ∀ q ∈ rgN, q.1 = f → nB q.2 v) (ho : ∀ q ∈ rgO, q.1 = f → oB q.2 v) : MM m G Λ Y (sAI S (G f) k v) := ⟨h.1.wI hf.1 hn ho (by decide) (by decide), h.2.wI h.1 hf.1 hf.2.1 hf.2.2⟩
theorem MM.wJ (h : MM m G Λ Y S) {f k : Nat} {v : Int64} (hf : isM f = true) : MM m G Λ Y (sAJ S (G f) k v) := ⟨h.1.wJ hf, h.2⟩
theorem MM.wF (h : MM m G Λ Y S) {f : Nat} {v : Int32} (hf : 361 ≠ f) (hn : ∀ q ∈ rgF, q.1 = f → nB q.2 v) : MM m G Λ Y (sFI S f m v) := ⟨h.1.wF hn, h.2.wF hf⟩
end
section
variable {α β γ : Type} {P Q : γ → Prop}
theorem T_st {S1 : sSt} {g : sSt → Option γ} (k : ∀ S2, S2 = S1 → T (g S2) P) : T (bnd S1 g) P := k _ rfl
theorem T_mono {x : Option γ} (h : T x Q) (k : ∀ r, Q r → P r) : T x P := by
  obtain ⟨r, e, q⟩ := h
  exact ⟨r, e, k r q⟩
/-- a reference of the reference, and its array -/
theorem T_m {S : sSt} {f a b : Nat} {g : Option Nat → Option γ} (e : gFR S f a = some b) (h : T (g (some b)) P) : T (bnd (gFR S f a) g) P := by
  unfold bnd
  rw [e]
  exact h
end
theorem g_in {i : Int32} {len n j : Nat} (hl : len = n) (e : i = nI j) (hj : j < n) (hn : n < 2147483648) : vp_in i len := by
  rw [hl, e]
  exact vp_in_nI hj hn
theorem k0 : (0 : Int32) = nI 0 := rfl
theorem k1 : (1 : Int32) = nI 1 := rfl
theorem k2 : (2 : Int32) = nI 2 := rfl
theorem k3 : (3 : Int32) = nI 3 := rfl
theorem k4 : (4 : Int32) = nI 4 := rfl
theorem k5 : (5 : Int32) = nI 5 := rfl
theorem k6 : (6 : Int32) = nI 6 := rfl
theorem k10 : (10 : Int32) = nI 10 := rfl
theorem k12 : (12 : Int32) = nI 12 := rfl
theorem k16 : (16 : Int32) = nI 16 := rfl
theorem k31 : (31 : Int32) = nI 31 := rfl
theorem k32 : (32 : Int32) = nI 32 := rfl
theorem k160 : (160 : Int32) = nI 160 := rfl
theorem k256 : (256 : Int32) = nI 256 := rfl
theorem k700 : (700 : Int32) = nI 700 := rfl
theorem e_add {a b : Int32} {x y : Nat} (h : a = nI x) (g : b = nI y) : a + b = nI (x + y) := by rw [h, g]; exact nI_add x y
theorem e_mul {a b : Int32} {x y : Nat} (h : a = nI x) (g : b = nI y) : a * b = nI (x * y) := by rw [h, g]; exact n_mul x y
theorem e_sub {a b : Int32} {x y : Nat} (h : a = nI x) (g : b = nI y) (c : y ≤ x) : a - b = nI (x - y) := by rw [h, g]; exact n_sub c
theorem e_prd {a : Int32} {x : Nat} (h : a = nI x) (c : 1 ≤ x) : a + (-1 : Int32) = nI (x - 1) := by rw [h]; exact n_p1 c
theorem e_div {a b : Int32} {x y : Nat} (h : a = nI x) (g : b = nI y) (c : x < 2147483648) (d : y < 2147483648) : a / b = nI (x / y) := by rw [h, g]; exact n_div x y c d
theorem e_le {a b : Int32} {x y : Nat} (h : a = nI x) (g : b = nI y) (c : x < 2147483648) (d : y < 2147483648) : a ≤ b ↔ x ≤ y := by rw [h, g]; exact nI_leI c d
theorem e_lt {a b : Int32} {x y : Nat} (h : a = nI x) (g : b = nI y) (c : x < 2147483648) (d : y < 2147483648) : a < b ↔ x < y := by rw [h, g]; exact nI_ltI c d
theorem e_eq {a b : Int32} {x y : Nat} (h : a = nI x) (g : b = nI y) (c : x < 2147483648) (d : y < 2147483648) : a = b ↔ x = y := by rw [h, g]; exact nI_eq c d
theorem e_clamp {a : Int32} {x : Nat} (h : a = nI x) (c : x < 2147483648) : Int32.toNatClampNeg a = x := by rw [h]; exact nI_clamp c
/-- a place between 0 and less than n -/
theorem in_nat {x hi : Int32} {n : Nat} (g : ¬ x < 0 ∧ ¬ hi - 1 < x) (e : hi = nI n) (hn : n < 2147483648) : ∃ j, j < n ∧ x = nI j := by
  obtain ⟨j, hj, rfl⟩ := nI_of g.1
  refine ⟨j, ?_, rfl⟩
  rcases Nat.eq_zero_or_pos n with h0 | h0
  · exfalso
    apply g.2
    rw [e, h0, Int32.lt_iff_toInt_lt, nI_toInt hj]
    have e1 : ((nI 0 : Int32) - 1).toInt = -1 := rfl
    omega
  · rcases Nat.lt_or_ge j n with h | h
    · exact h
    · exfalso
      apply g.2
      rw [e, n_s1 h0, nI_ltI (by omega) hj]
      omega
theorem in_nat2 {x hi : Int32} {n : Nat} (g : ¬ x < 0 ∧ ¬ hi < x) (e : hi = nI n) (hn : n < 2147483648) : ∃ j, j ≤ n ∧ x = nI j := by
  obtain ⟨j, hj, rfl⟩ := nI_of g.1
  refine ⟨j, ?_, rfl⟩
  rcases Nat.lt_or_ge n j with h | h
  · exact absurd (by rw [e, nI_ltI hn hj]; exact h) g.2
  · exact h
/-- how many of the first n aren't known, aren't met -/
def unkN (G : Nat → Nat) (f : Nat) (S : sSt) : Nat → Nat
  | 0 => 0
  | n + 1 => unkN G f S n + if gAI S (G f) n = 0 then 1 else 0
def unk (G : Nat → Nat) (S : sSt) : Nat := unkN G 380 S 160
theorem unkN_le {G : Nat → Nat} {f : Nat} {S : sSt} : ∀ n, unkN G f S n ≤ n
  | 0 => Nat.le_refl 0
  | n + 1 => by
    have := unkN_le (G := G) (f := f) (S := S) n
    unfold unkN
    split <;> omega
theorem unkN_eq {G : Nat → Nat} {f : Nat} {S S' : sSt} : ∀ n, (∀ k, k < n → gAI S' (G f) k = gAI S (G f) k) → unkN G f S' n = unkN G f S n
  | 0, _ => rfl
  | n + 1, h => by
    unfold unkN
    rw [unkN_eq n (fun k hk => h k (by omega)), h n (by omega)]
theorem unkN_set {G : Nat → Nat} {f : Nat} {S S' : sSt} {i : Nat} {v : Int32} (h : ∀ k, gAI S' (G f) k = if k = i then v else gAI S (G f) k) (hv : v ≠ 0) (h0 : gAI S (G f) i = 0) : ∀ n, i < n → unkN G f S' n + 1 = unkN G f S n
  | 0, hi => absurd hi (Nat.not_lt_zero i)
  | n + 1, hi => by
    unfold unkN
    by_cases c : i = n
    · subst c
      have e := unkN_eq (G := G) (f := f) (S := S) (S' := S') i (fun k hk => by rw [h, if_neg (by omega)])
      have e1 := h i
      rw [if_pos rfl] at e1
      rw [e, e1, h0, if_neg hv, if_pos rfl]
    · have := unkN_set h hv h0 n (by omega)
      have e := h n
      rw [if_neg (fun z => c z.symm)] at e
      rw [e]
      omega
theorem and1_1 : ((1 : Int32) &&& 1) = 1 := rfl
theorem unk_le (G : Nat → Nat) (S : sSt) : unk G S ≤ 160 := unkN_le 160
/-- a unit leads to another -/
def Rl (G : Nat → Nat) (S : sSt) (a b : Nat) : Prop := gAI S (G 390) (16 * a + b) ≠ 0
def Tr (G : Nat → Nat) (S : sSt) : Prop := ∀ a b c, a < 16 → b < 16 → c < 16 → Rl G S a b → Rl G S b c → Rl G S a c
