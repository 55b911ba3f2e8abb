/-! Safety of the reference: its arrays lie where G says, its ints keep within their bounds. -/
def isM (f : Nat) : Bool := (Nat.ble 362 f && Nat.ble f 377) || (Nat.ble 379 f && Nat.ble f 383) || (Nat.ble 385 f && Nat.ble f 387) || (Nat.ble 389 f && Nat.ble f 392) || Nat.beq f 395
def isB (f : Nat) : Bool := Nat.ble 362 f && Nat.ble f 374
def isC (f : Nat) : Bool := Nat.ble 375 f && Nat.ble f 377
def rgN : List (Nat × Nat) := [(363, 10), (367, 3), (369, 6), (371, 12), (370, 15), (376, 690), (382, 159), (385, 159), (386, 3), (389, 690), (392, 15)]
def rgO : List (Nat × Nat) := [(374, 15), (379, 159)]
def rgF : List (Nat × Nat) := [(361, 16), (384, 160), (388, 700), (393, 16)]
def nB (B : Nat) (v : Int32) : Prop := ∃ j, j ≤ B ∧ v = nI j
def oB (B : Nat) (v : Int32) : Prop := v = -5 ∨ nB B v
theorem oB.ne {B : Nat} {v : Int32} (h : oB B v) (c : ¬ v = -5) : ∃ j, j ≤ B ∧ v = nI j := h.resolve_left c
theorem oB.mono {B B' : Nat} {v : Int32} (h : oB B v) (c : B ≤ B') : oB B' v := h.imp id (fun ⟨j, hj, e⟩ => ⟨j, Nat.le_trans hj c, e⟩)
/-- ghosts: what lies elsewhere, a store, and which of the reference's fields and arrays are as in that store -/
abbrev gY : Type := sSt × sSt × (Nat → Bool)
def MG (m : Nat) (G : Nat → Nat) (Λ : sLay) (S : sSt) : Prop := (∀ f, isM f = true → gFR S f m = some (G f)) ∧ (∀ t ∈ arrs9, Λ.2.2 (G t.1) = t.2.2) ∧ ∀ f f', isM f = true → isM f' = true → G f = G f' → f = f'
def MC (m : Nat) (G : Nat → Nat) (Λ : sLay) (Z S : sSt) : Prop := MG m G Λ S ∧ (∀ q ∈ rgN, ∀ k, nB q.2 (gAI S (G q.1) k)) ∧ (∀ q ∈ rgO, ∀ k, oB q.2 (gAI S (G q.1) k)) ∧ (∀ q ∈ rgF, nB q.2 (gFI S q.1 m)) ∧
  ∀ a, a ≠ m → (∀ f, isM f = true → a ≠ G f) → kpA Z S a
def FZ (m : Nat) (G : Nat → Nat) (fz : Nat → Bool) (S0 S : sSt) : Prop := ∀ f, fz f = true → gFI S f m = gFI S0 f m ∧ (isM f = true → ∀ k, gAI S (G f) k = gAI S0 (G f) k ∧ gAJ S (G f) k = gAJ S0 (G f) k)
def MI (m : Nat) (G : Nat → Nat) (Λ : sLay) (Y : gY) (S : sSt) : Prop := MC m G Λ Y.1 S ∧ FZ m G Y.2.2 Y.2.1 S
/-- frozen is all but the list -/
def nfz (l : List Nat) (f : Nat) : Bool := !(l.contains f)
section
variable {m : Nat} {G : Nat → Nat} {Λ : sLay} {Y : gY} {Z S S0 r : sSt}
theorem MI.c (h : MI m G Λ Y S) : MC m G Λ Y.1 S := h.1
theorem FZ.rf {fz : Nat → Bool} : FZ m G fz S S := fun _ _ => ⟨rfl, fun _ _ => ⟨rfl, rfl⟩⟩
/-- from here on, with other things frozen -/
theorem MI.loc (h : MI m G Λ Y S) (fz : Nat → Bool) : MI m G Λ (Y.1, S, fz) S := ⟨h.1, FZ.rf⟩
theorem MI.up {fz : Nat → Bool} (h : MI m G Λ Y S) (g : MI m G Λ (Y.1, S, fz) r) (c : ∀ f, Y.2.2 f = true → fz f = true) : MI m G Λ Y r := ⟨g.1, fun f hf => ⟨(g.2 f (c f hf)).1.trans (h.2 f hf).1, fun hM k => ⟨((g.2 f (c f hf)).2 hM k).1.trans ((h.2 f hf).2 hM k).1, ((g.2 f (c f hf)).2 hM k).2.trans ((h.2 f hf).2 hM k).2⟩⟩⟩
theorem nfz_ok {l : List Nat} {z : Nat → Bool} (h : ∀ g ∈ l, z g = false) : ∀ f, z f = true → nfz l f = true := fun f hf => by
  unfold nfz
  by_cases c : f ∈ l
  · rw [h f c] at hf
    cases hf
  · simp [c]
theorem MC.rf (h : MC m G Λ Z S) {f : Nat} (hm : isM f = true) : gFR S f m = some (G f) := h.1.1 f hm
theorem MC.l (h : MC m G Λ Z S) {f kd n : Nat} (hm : (f, kd, n) ∈ arrs9) : Λ.2.2 (G f) = n := h.1.2.1 _ hm
theorem MC.n (h : MC m G Λ Z S) {f B : Nat} (hm : (f, B) ∈ rgN) (k : Nat) : ∃ j, j ≤ B ∧ gAI S (G f) k = nI j := h.2.1 _ hm k
theorem MC.o (h : MC m G Λ Z S) {f B : Nat} (hm : (f, B) ∈ rgO) (k : Nat) : oB B (gAI S (G f) k) := h.2.2.1 _ hm k
theorem MC.f (h : MC m G Λ Z S) {f B : Nat} (hm : (f, B) ∈ rgF) : ∃ j, j ≤ B ∧ gFI S f m = nI j := h.2.2.2.1 _ hm
theorem MC.ne (h : MC m G Λ Z S) {f f' : Nat} (hf : isM f = true) (hf' : isM f' = true) (hne : f ≠ f') : G f ≠ G f' := fun e => hne (h.1.2.2 f f' hf hf' e)
theorem MC.oth (h : MC m G Λ Z S) {f f' : Nat} (hf : isM f = true) (hf' : isM f' = true) (hne : f ≠ f') {T : sSt} {k k' : Nat} {v : Int32} : gAI (sAI T (G f') k' v) (G f) k = gAI T (G f) k := by
  rw [gAI_sAI, if_neg (fun c => h.ne hf hf' hne c.1)]
theorem MC.wI (h : MC m G Λ Z S) {f k : Nat} {v : Int32} (hf : isM f = true) (hn : ∀ q ∈ rgN, q.1 = f → nB q.2 v) (ho : ∀ q ∈ rgO, q.1 = f → oB q.2 v) (hN : ∀ q ∈ rgN, isM q.1 = true) (hO : ∀ q ∈ rgO, isM q.1 = true) : MC m G Λ Z (sAI S (G f) k v) := by
  refine ⟨h.1, fun q hq j => ?_, fun q hq j => ?_, h.2.2.2.1, fun a ha hg => (h.2.2.2.2 a ha hg).tr (kpA.sAI (hg f hf))⟩
  · rw [gAI_sAI]
    split
    · next c => exact hn q hq (h.1.2.2 _ _ (hN q hq) hf c.1)
    · exact h.2.1 q hq j
  · rw [gAI_sAI]
    split
    · next c => exact ho q hq (h.1.2.2 _ _ (hO q hq) hf c.1)
    · exact h.2.2.1 q hq j
theorem MC.wJ (h : MC m G Λ Z S) {f k : Nat} {v : Int64} (hf : isM f = true) : MC m G Λ Z (sAJ S (G f) k v) := ⟨h.1, h.2.1, h.2.2.1, h.2.2.2.1, fun a ha hg => (h.2.2.2.2 a ha hg).tr (kpA.sAJ (hg f hf))⟩
theorem MC.wF (h : MC m G Λ Z S) {f : Nat} {v : Int32} (hn : ∀ q ∈ rgF, q.1 = f → nB q.2 v) : MC m G Λ Z (sFI S f m v) := by
  refine ⟨h.1, h.2.1, h.2.2.1, fun q hq => ?_, fun a ha hg => (h.2.2.2.2 a ha hg).tr (kpA.sFI ha)⟩
  rw [gFI_sFI]
  split
  · next c => exact hn q hq c.1
  · exact h.2.2.2.1 q hq
theorem rg1 {L : List (Nat × Nat)} {f B : Nat} {v : Int32} (hm : ∀ q ∈ L, q.1 = f → q.2 = B) (hv : nB B v) : ∀ q ∈ L, q.1 = f → nB q.2 v := fun q hq e => by rw [hm q hq e]; exact hv
theorem rg2 {L : List (Nat × Nat)} {f B : Nat} {v : Int32} (hm : ∀ q ∈ L, q.1 = f → q.2 = B) (hv : oB B v) : ∀ q ∈ L, q.1 = f → oB q.2 v := fun q hq e => by rw [hm q hq e]; exact hv
theorem rg0 {L : List (Nat × Nat)} {f : Nat} {P : Nat → Prop} (hm : ∀ q ∈ L, q.1 ≠ f) : ∀ q ∈ L, q.1 = f → P q.2 := fun q hq e => absurd e (hm q hq)
theorem gFI_ne {f g : Nat} {v : Int32} (h : g ≠ f) : gFI (sFI S f m v) g m = gFI S g m := by rw [gFI_sFI, if_neg (fun c => h c.1)]
theorem MI.wI (h : MI m G Λ Y S) {f k : Nat} {v : Int32} (hf : isM f = true) (w : Y.2.2 f = false) (hn : ∀ q ∈ rgN, q.1 = f → nB q.2 v) (ho : ∀ q ∈ rgO, q.1 = f → oB q.2 v) : MI m G Λ Y (sAI S (G f) k v) := by
  refine ⟨h.1.wI hf hn ho (by decide) (by decide), fun f' hf' => ⟨(h.2 f' hf').1, fun hM k' => ⟨?_, ((h.2 f' hf').2 hM k').2⟩⟩⟩
  rw [h.1.oth hM hf (fun e => by rw [e, w] at hf'; cases hf')]
  exact ((h.2 f' hf').2 hM k').1
theorem MI.wJ (h : MI m G Λ Y S) {f k : Nat} {v : Int64} (hf : isM f = true) (w : Y.2.2 f = false) : MI m G Λ Y (sAJ S (G f) k v) := by
  refine ⟨h.1.wJ hf, fun f' hf' => ⟨(h.2 f' hf').1, fun hM k' => ⟨((h.2 f' hf').2 hM k').1, ?_⟩⟩⟩
  rw [gAJ_sAJ, if_neg (fun c => h.1.ne hM hf (fun e => by rw [e, w] at hf'; cases hf') c.1)]
  exact ((h.2 f' hf').2 hM k').2
theorem MI.wF (h : MI m G Λ Y S) {f : Nat} {v : Int32} (w : Y.2.2 f = false) (hn : ∀ q ∈ rgF, q.1 = f → nB q.2 v) : MI m G Λ Y (sFI S f m v) :=
  ⟨h.1.wF hn, fun f' hf' => ⟨(gFI_ne (fun e => by rw [e, w] at hf'; cases hf')).trans (h.2 f' hf').1, (h.2 f' hf').2⟩⟩
end
section
variable {α β γ : Type} {P Q : γ → Prop}
theorem T_st {S1 : sSt} {g : sSt → Option γ} (k : ∀ S2, S2 = S1 → T (g S2) P) : T (bnd S1 g) P := k _ rfl
theorem T_mono {x : Option γ} (h : T x Q) (k : ∀ r, Q r → P r) : T x P := by
  obtain ⟨r, e, q⟩ := h
  exact ⟨r, e, k r q⟩
/-- a reference of the reference, and its array -/
theorem T_m {S : sSt} {f a b : Nat} {g : Option Nat → Option γ} (e : gFR S f a = some b) (h : T (g (some b)) P) : T (bnd (gFR S f a) g) P := by
  unfold bnd
  rw [e]
  exact h
end
theorem g_in {i : Int32} {len n j : Nat} (hl : len = n) (e : i = nI j) (hj : j < n) (hn : n < 2147483648) : vp_in i len := by
  rw [hl, e]
  exact vp_in_nI hj hn
theorem k0 : (0 : Int32) = nI 0 := rfl
theorem k1 : (1 : Int32) = nI 1 := rfl
theorem k2 : (2 : Int32) = nI 2 := rfl
theorem k3 : (3 : Int32) = nI 3 := rfl
theorem k4 : (4 : Int32) = nI 4 := rfl
theorem k5 : (5 : Int32) = nI 5 := rfl
theorem k6 : (6 : Int32) = nI 6 := rfl
theorem k10 : (10 : Int32) = nI 10 := rfl
theorem k12 : (12 : Int32) = nI 12 := rfl
theorem k16 : (16 : Int32) = nI 16 := rfl
theorem k31 : (31 : Int32) = nI 31 := rfl
theorem k32 : (32 : Int32) = nI 32 := rfl
theorem k160 : (160 : Int32) = nI 160 := rfl
theorem k256 : (256 : Int32) = nI 256 := rfl
theorem k700 : (700 : Int32) = nI 700 := rfl
theorem e_add {a b : Int32} {x y : Nat} (h : a = nI x) (g : b = nI y) : a + b = nI (x + y) := by rw [h, g]; exact nI_add x y
theorem e_mul {a b : Int32} {x y : Nat} (h : a = nI x) (g : b = nI y) : a * b = nI (x * y) := by rw [h, g]; exact n_mul x y
theorem e_sub {a b : Int32} {x y : Nat} (h : a = nI x) (g : b = nI y) (c : y ≤ x) : a - b = nI (x - y) := by rw [h, g]; exact n_sub c
theorem e_prd {a : Int32} {x : Nat} (h : a = nI x) (c : 1 ≤ x) : a + (-1 : Int32) = nI (x - 1) := by rw [h]; exact n_p1 c
theorem e_div {a b : Int32} {x y : Nat} (h : a = nI x) (g : b = nI y) (c : x < 2147483648) (d : y < 2147483648) : a / b = nI (x / y) := by rw [h, g]; exact n_div x y c d
theorem e_le {a b : Int32} {x y : Nat} (h : a = nI x) (g : b = nI y) (c : x < 2147483648) (d : y < 2147483648) : a ≤ b ↔ x ≤ y := by rw [h, g]; exact nI_leI c d
theorem e_lt {a b : Int32} {x y : Nat} (h : a = nI x) (g : b = nI y) (c : x < 2147483648) (d : y < 2147483648) : a < b ↔ x < y := by rw [h, g]; exact nI_ltI c d
theorem e_eq {a b : Int32} {x y : Nat} (h : a = nI x) (g : b = nI y) (c : x < 2147483648) (d : y < 2147483648) : a = b ↔ x = y := by rw [h, g]; exact nI_eq c d
theorem e_clamp {a : Int32} {x : Nat} (h : a = nI x) (c : x < 2147483648) : Int32.toNatClampNeg a = x := by rw [h]; exact nI_clamp c
/-- a place between 0 and less than n -/
theorem in_nat {x hi : Int32} {n : Nat} (g : ¬ x < 0 ∧ ¬ hi - 1 < x) (e : hi = nI n) (hn : n < 2147483648) : ∃ j, j < n ∧ x = nI j := by
  obtain ⟨j, hj, rfl⟩ := nI_of g.1
  refine ⟨j, ?_, rfl⟩
  rcases Nat.eq_zero_or_pos n with h0 | h0
  · exfalso
    apply g.2
    rw [e, h0, Int32.lt_iff_toInt_lt, nI_toInt hj]
    have e1 : ((nI 0 : Int32) - 1).toInt = -1 := rfl
    omega
  · rcases Nat.lt_or_ge j n with h | h
    · exact h
    · exfalso
      apply g.2
      rw [e, n_s1 h0, nI_ltI (by omega) hj]
      omega
theorem in_nat2 {x hi : Int32} {n : Nat} (g : ¬ x < 0 ∧ ¬ hi < x) (e : hi = nI n) (hn : n < 2147483648) : ∃ j, j ≤ n ∧ x = nI j := by
  obtain ⟨j, hj, rfl⟩ := nI_of g.1
  refine ⟨j, ?_, rfl⟩
  rcases Nat.lt_or_ge n j with h | h
  · exact absurd (by rw [e, nI_ltI hn hj]; exact h) g.2
  · exact h
/-- how many of the first n aren't known, aren't met -/
def unkN (G : Nat → Nat) (f : Nat) (S : sSt) : Nat → Nat
  | 0 => 0
  | n + 1 => unkN G f S n + if gAI S (G f) n = 0 then 1 else 0
def unk (G : Nat → Nat) (S : sSt) : Nat := unkN G 380 S 160
theorem unkN_le {G : Nat → Nat} {f : Nat} {S : sSt} : ∀ n, unkN G f S n ≤ n
  | 0 => Nat.le_refl 0
  | n + 1 => by
    have := unkN_le (G := G) (f := f) (S := S) n
    unfold unkN
    split <;> omega
theorem unkN_eq {G : Nat → Nat} {f : Nat} {S S' : sSt} : ∀ n, (∀ k, k < n → gAI S' (G f) k = gAI S (G f) k) → unkN G f S' n = unkN G f S n
  | 0, _ => rfl
  | n + 1, h => by
    unfold unkN
    rw [unkN_eq n (fun k hk => h k (by omega)), h n (by omega)]
theorem unkN_set {G : Nat → Nat} {f : Nat} {S S' : sSt} {i : Nat} {v : Int32} (h : ∀ k, gAI S' (G f) k = if k = i then v else gAI S (G f) k) (hv : v ≠ 0) (h0 : gAI S (G f) i = 0) : ∀ n, i < n → unkN G f S' n + 1 = unkN G f S n
  | 0, hi => absurd hi (Nat.not_lt_zero i)
  | n + 1, hi => by
    unfold unkN
    by_cases c : i = n
    · subst c
      have e := unkN_eq (G := G) (f := f) (S := S) (S' := S') i (fun k hk => by rw [h, if_neg (by omega)])
      have e1 := h i
      rw [if_pos rfl] at e1
      rw [e, e1, h0, if_neg hv, if_pos rfl]
    · have := unkN_set h hv h0 n (by omega)
      have e := h n
      rw [if_neg (fun z => c z.symm)] at e
      rw [e]
      omega
theorem and1_1 : ((1 : Int32) &&& 1) = 1 := rfl
theorem unk_le (G : Nat → Nat) (S : sSt) : unk G S ≤ 160 := unkN_le 160
/-- a unit leads to another -/
def Rl (G : Nat → Nat) (S : sSt) (a b : Nat) : Prop := gAI S (G 390) (16 * a + b) ≠ 0
def Tr (G : Nat → Nat) (S : sSt) : Prop := ∀ a b c, a < 16 → b < 16 → c < 16 → Rl G S a b → Rl G S b c → Rl G S a c
/-! Leads, rings and order. -/
def One (G : Nat → Nat) (S : sSt) (u v : Nat) : Prop := u = v ∨ (Rl G S u v ∧ Rl G S v u)
def CL (G : Nat → Nat) (W : sSt) (k : Nat) : Prop := ∀ j a b, j < k → a < 16 → b < 16 → Rl G W a j → Rl G W j b → Rl G W a b
/-- S is W with the pivot k done for the rows before u and the first v of row u -/
def RI (G : Nat → Nat) (W S : sSt) (k u v : Nat) : Prop := ∀ a b, a < 16 → b < 16 → (Rl G S a b ↔ (Rl G W a b ∨ ((a < u ∨ (a = u ∧ b < v)) ∧ Rl G W a k ∧ Rl G W k b)))
section
variable {G : Nat → Nat} {W S S' : sSt} {k u v : Nat}
theorem RI.rf : RI G S S k 0 0 := fun a b _ _ => ⟨Or.inl, fun h => h.elim id (fun z => z.1.elim (fun y => absurd y (Nat.not_lt_zero a)) (fun y => absurd y.2 (Nat.not_lt_zero b)))⟩
theorem RI.row (h : RI G W S k u 16) : RI G W S k (u + 1) 0 := by
  intro a b ha hb
  rw [h a b ha hb]
  constructor
  · rintro (z | ⟨z, y⟩)
    · exact Or.inl z
    · exact Or.inr ⟨Or.inl (by omega), y⟩
  · rintro (z | ⟨z, y⟩)
    · exact Or.inl z
    · exact Or.inr ⟨by omega, y⟩
theorem RI.at (h : RI G W S k u v) (hu : u < 16) (hv : v < 16) : Rl G S u v ↔ Rl G W u v := by
  rw [h u v hu hv]
  exact ⟨fun z => z.elim id (fun y => absurd y.1 (by omega)), Or.inl⟩
theorem RI.col (h : RI G W S k u v) (hu : u < 16) (hk : k < 16) : Rl G S u k ↔ Rl G W u k := by
  rw [h u k hu hk]
  exact ⟨fun z => z.elim id (fun y => y.2.1), Or.inl⟩
theorem RI.piv (h : RI G W S k u v) (hk : k < 16) (hv : v < 16) : Rl G S k v ↔ Rl G W k v := by
  rw [h k v hk hv]
  exact ⟨fun z => z.elim id (fun y => y.2.2), Or.inl⟩
theorem RI.step (h : RI G W S k u v) (hu : u < 16) (hv : v < 16) {s : Int32} (hc : ∀ j, gAI S' (G 390) j = if j = 16 * u + v then s else gAI S (G 390) j) (hs : s ≠ 0 ↔ (Rl G W u v ∨ (Rl G W u k ∧ Rl G W k v))) : RI G W S' k u (v + 1) := by
  intro a b ha hb
  by_cases c : a = u ∧ b = v
  · obtain ⟨rfl, rfl⟩ := c
    unfold Rl at *
    rw [hc, if_pos rfl, hs]
    constructor
    · rintro (z | z)
      · exact Or.inl z
      · exact Or.inr ⟨Or.inr ⟨rfl, by omega⟩, z⟩
    · rintro (z | z)
      · exact Or.inl z
      · exact Or.inr z.2
  · have e : Rl G S' a b ↔ Rl G S a b := by
      unfold Rl
      rw [hc, if_neg (by omega)]
    rw [e, h a b ha hb]
    constructor
    · rintro (z | ⟨z, y⟩)
      · exact Or.inl z
      · exact Or.inr ⟨by omega, y⟩
    · rintro (z | ⟨z, y⟩)
      · exact Or.inl z
      · exact Or.inr ⟨by omega, y⟩
theorem CL.next (hC : CL G W k) (hR : RI G W S k 16 0) (hk : k < 16) : CL G S (k + 1) := by
  intro j a b hj ha hb h1 h2
  have hj16 : j < 16 := by omega
  rw [hR a j ha hj16] at h1
  rw [hR j b hj16 hb] at h2
  rw [hR a b ha hb]
  have rt : Rl G W a k → Rl G W k b → (Rl G W a b ∨ ((a < 16 ∨ (a = 16 ∧ b < 0)) ∧ Rl G W a k ∧ Rl G W k b)) := fun x y => Or.inr ⟨Or.inl ha, x, y⟩
  by_cases c : j = k
  · subst c
    exact rt (h1.elim id (fun z => z.2.1)) (h2.elim id (fun z => z.2.2))
  · have hlt : j < k := by omega
    rcases h1 with h1 | ⟨-, h1, h1'⟩
    · rcases h2 with h2 | ⟨-, h2, h2'⟩
      · exact Or.inl (hC j a b hlt ha hb h1 h2)
      · exact rt (hC j a k hlt ha hk h1 h2) h2'
    · rcases h2 with h2 | ⟨-, h2, h2'⟩
      · exact rt h1 (hC j k b hlt hk hb h1' h2)
      · exact rt h1 h2'
theorem One.tr (hT : Tr G S) {a b c : Nat} (ha : a < 16) (hb : b < 16) (hc : c < 16) (h : One G S a b) (g : One G S b c) : One G S a c := by
  rcases h with rfl | ⟨h1, h2⟩
  · exact g
  · rcases g with rfl | ⟨g1, g2⟩
    · exact Or.inr ⟨h1, h2⟩
    · exact Or.inr ⟨hT a b c ha hb hc h1 g1, hT c b a hc hb ha g2 h2⟩
theorem One.sy {a b : Nat} (h : One G S a b) : One G S b a := h.imp Eq.symm (fun z => ⟨z.2, z.1⟩)
end
/-- how many of the first n -/
def cb (f : Nat → Bool) : Nat → Nat
  | 0 => 0
  | n + 1 => cb f n + if f n = true then 1 else 0
theorem cb_le {f : Nat → Bool} : ∀ n, cb f n ≤ n
  | 0 => Nat.le_refl 0
  | n + 1 => by
    have := cb_le (f := f) n
    unfold cb
    split <;> omega
theorem cb_mono {f g : Nat → Bool} : ∀ n, (∀ i, i < n → f i = true → g i = true) → cb f n ≤ cb g n
  | 0, _ => Nat.le_refl 0
  | n + 1, h => by
    have := cb_mono n (fun i hi => h i (by omega))
    have h1 := h n (by omega)
    unfold cb
    by_cases c : f n = true
    · rw [if_pos c, if_pos (h1 c)]; omega
    · rw [if_neg c]; omega
theorem cb_lt {f g : Nat → Bool} {j : Nat} : ∀ n, (∀ i, i < n → f i = true → g i = true) → j < n → g j = true → ¬ f j = true → cb f n < cb g n
  | 0, _, hj, _, _ => absurd hj (Nat.not_lt_zero j)
  | n + 1, h, hj, hg, hf => by
    by_cases c : j = n
    · subst c
      have := cb_mono j (fun i hi => h i (by omega))
      unfold cb
      rw [if_neg hf, if_pos hg]
      omega
    · have := cb_lt n (fun i hi => h i (by omega)) (by omega) hg hf
      have h1 := h n (by omega)
      unfold cb
      by_cases c : f n = true
      · rw [if_pos c, if_pos (h1 c)]; omega
      · rw [if_neg c]; omega
theorem cb_ex {f g : Nat → Bool} : ∀ n, cb f n < cb g n → ∃ i, i < n ∧ g i = true ∧ ¬ f i = true
  | 0, h => absurd h (Nat.lt_irrefl 0)
  | n + 1, h => by
    by_cases c : g n = true ∧ ¬ f n = true
    · exact ⟨n, by omega, c⟩
    · unfold cb at h
      have h2 : cb f n < cb g n := by
        by_cases c1 : g n = true
        · have c2 : f n = true := Decidable.byContradiction (fun z => c ⟨c1, z⟩)
          rw [if_pos c1, if_pos c2] at h
          omega
        · rw [if_neg c1] at h
          omega
      obtain ⟨i, hi, z⟩ := cb_ex n h2
      exact ⟨i, by omega, z⟩
theorem cb_eq {f g : Nat → Bool} (n : Nat) (h : ∀ i, i < n → f i = g i) : cb f n = cb g n := Nat.le_antisymm (cb_mono n (fun i hi z => (h i hi) ▸ z)) (cb_mono n (fun i hi z => (h i hi).symm ▸ z))
theorem cb_set {f g : Nat → Bool} {j : Nat} : ∀ n, (∀ i, i < n → i ≠ j → f i = g i) → j < n → g j = true → ¬ f j = true → cb g n = cb f n + 1
  | 0, _, hj, _, _ => absurd hj (Nat.not_lt_zero j)
  | n + 1, h, hj, hg, hf => by
    by_cases c : j = n
    · subst c
      have := cb_eq j (fun i hi => h i (by omega) (by omega))
      unfold cb
      rw [if_neg hf, if_pos hg, this]
    · have := cb_set n (fun i hi => h i (by omega)) (by omega) hg hf
      have h1 := h n (by omega) (fun z => c z.symm)
      unfold cb
      rw [this, h1]
      omega
def th (G : Nat → Nat) (S : sSt) (u : Nat) : Prop := gAI S (G 362) u ≠ 0
def rg (G : Nat → Nat) (S : sSt) (u : Nat) : Int32 := gAI S (G 391) u
def thr (G : Nat → Nat) (S : sSt) (n : Nat) : Nat := cb (fun u => decide (gAI S (G 362) u ≠ 0)) n
def pl (G : Nat → Nat) (S : sSt) (n : Nat) : Nat := cb (fun u => decide (gAI S (G 362) u ≠ 0 ∧ gAI S (G 391) u ≠ -5)) n
def Ok1 (G : Nat → Nat) (S : sSt) (u v : Nat) : Prop := gAI S (G 362) v = 0 ∨ ¬ Rl G S u v ∨ gAI S (G 391) v ≠ -5 ∨ One G S u v
def Cand (G : Nat → Nat) (S : sSt) (c u : Nat) : Prop := th G S u ∧ rg G S u = -5 ∧ ∀ v, v < c → Ok1 G S u v
theorem thr_s0 {G : Nat → Nat} {S : sSt} {n : Nat} (h : gAI S (G 362) n = 0) : thr G S (n + 1) = thr G S n + 0 := by
  unfold thr
  show cb _ n + _ = _
  rw [if_neg (fun z : decide (gAI S (G 362) n ≠ 0) = true => of_decide_eq_true z h)]
theorem thr_s1 {G : Nat → Nat} {S : sSt} {n : Nat} (h : ¬ gAI S (G 362) n = 0) : thr G S (n + 1) = thr G S n + 1 := by
  unfold thr
  show cb _ n + _ = _
  rw [if_pos (decide_eq_true h)]
theorem all_snoc {P : Nat → Prop} {n : Nat} (h : ∀ v, v < n → P v) (g : P n) : ∀ v, v < n + 1 → P v := fun v hv => by
  by_cases c : v = n
  · rw [c]; exact g
  · exact h v (by omega)
/-- what holds while the order is sought: c units ever, w of them placed -/
def OI (m : Nat) (G : Nat → Nat) (W : sSt) (c w : Nat) : Prop := c ≤ 16 ∧ gFI W 361 m = nI c ∧ gFI W 393 m = nI w ∧ w = pl G W c ∧ (∃ g, g ≤ w ∧ gFI W 394 m = nI g) ∧ Tr G W ∧ ∀ u v, u < c → v < c → th G W u → th G W v → One G W u v → rg G W v ≠ -5 → rg G W u ≠ -5
theorem OI.le {m : Nat} {G : Nat → Nat} {W : sSt} {c w : Nat} (h : OI m G W c w) : w ≤ 16 := by
  have := cb_le (f := fun u => decide (gAI W (G 362) u ≠ 0 ∧ gAI W (G 391) u ≠ -5)) c
  have h1 := h.2.2.2.1
  unfold pl at h1
  have := h.1
  omega
/-- a unit whose ring leads to nothing that isn't placed -/
theorem cand_of {G : Nat → Nat} {S : sSt} {c : Nat} (hc : c ≤ 16) (hT : Tr G S) : ∀ n u, cb (fun x => decide (gAI S (G 362) x ≠ 0 ∧ gAI S (G 391) x = -5 ∧ (x = u ∨ gAI S (G 390) (16 * u + x) ≠ 0))) c ≤ n → u < c → th G S u → rg G S u = -5 → ∃ y, y < c ∧ Cand G S c y
  | 0, u, hn, hu, h1, h2 => by
    have := cb_lt (f := fun _ => false) (g := fun x => decide (gAI S (G 362) x ≠ 0 ∧ gAI S (G 391) x = -5 ∧ (x = u ∨ gAI S (G 390) (16 * u + x) ≠ 0))) (j := u) c (fun i _ z => by cases z) hu (decide_eq_true ⟨h1, h2, Or.inl rfl⟩) (by decide)
    omega
  | n + 1, u, hn, hu, h1, h2 => by
    by_cases k : ∀ v, v < c → Ok1 G S u v
    · exact ⟨u, hu, h1, h2, k⟩
    · obtain ⟨v, hv⟩ := Classical.not_forall.mp k
      obtain ⟨hvc, hno⟩ := Classical.not_imp.mp hv
      unfold Ok1 at hno
      have a1 : gAI S (G 362) v ≠ 0 := fun z => hno (Or.inl z)
      have a2 : Rl G S u v := Classical.byContradiction (fun z => hno (Or.inr (Or.inl z)))
      have a3 : gAI S (G 391) v = -5 := Classical.byContradiction (fun z => hno (Or.inr (Or.inr (Or.inl z))))
      have a4 : ¬ One G S u v := fun z => hno (Or.inr (Or.inr (Or.inr z)))
      have lt := cb_lt (f := fun x => decide (gAI S (G 362) x ≠ 0 ∧ gAI S (G 391) x = -5 ∧ (x = v ∨ gAI S (G 390) (16 * v + x) ≠ 0))) (g := fun x => decide (gAI S (G 362) x ≠ 0 ∧ gAI S (G 391) x = -5 ∧ (x = u ∨ gAI S (G 390) (16 * u + x) ≠ 0))) (j := u) c
        (fun i hi z => by
          have z := of_decide_eq_true z
          refine decide_eq_true ⟨z.1, z.2.1, Or.inr ?_⟩
          rcases z.2.2 with rfl | z3
          · exact a2
          · exact hT u v i (by omega) (by omega) (by omega) a2 z3)
        hu (decide_eq_true ⟨h1, h2, Or.inl rfl⟩) (fun z => by
          have z := of_decide_eq_true z
          rcases z.2.2 with z3 | z3
          · exact a4 (Or.inl z3)
          · exact a4 (Or.inr ⟨a2, z3⟩))
      exact cand_of hc hT n v (by omega) hvc a1 a3
theorem cand_ex {m : Nat} {G : Nat → Nat} {S : sSt} {c w : Nat} (h : OI m G S c w) (hw : w < thr G S c) : ∃ y, y < c ∧ Cand G S c y := by
  have h1 := h.2.2.2.1
  rw [h1] at hw
  unfold pl thr at hw
  obtain ⟨u, hu, hg, hf⟩ := cb_ex c hw
  have hg := of_decide_eq_true hg
  have h2 : rg G S u = -5 := Classical.byContradiction (fun z => hf (decide_eq_true ⟨hg, z⟩))
  exact cand_of h.1 h.2.2.2.2.2.1 _ u (Nat.le_refl _) hu hg h2
theorem cb_false : ∀ n, cb (fun _ => false) n = 0
  | 0 => rfl
  | n + 1 => by
    unfold cb
    rw [cb_false n, if_neg (by decide)]
theorem ne5 {a : Nat} (h : a < 2147483648) : nI a ≠ -5 := fun z => by
  rw [n_ne5 h] at z
  exact z
/-- the outer loop of the order -/
def KO (m : Nat) (G : Nat → Nat) (Λ : sLay) (Y : gY) (k : sSt → Nat → Int32 → Option sSt) (n : Nat) : Prop := ∀ S, MI m G Λ Y S → ∀ c w p1, OI m G S c w → p1 = nI (thr G S c) → 17 ≤ w + n → T (k S m p1) (fun r : sSt => MI m G Λ Y r)
/-- S is W with the members of u's ring before v placed -/
def RO (m : Nat) (G : Nat → Nat) (W S : sSt) (c u g w0 v w : Nat) : Prop :=
  (∀ x, gAI S (G 362) x = gAI W (G 362) x) ∧ (∀ x, gAI S (G 390) x = gAI W (G 390) x) ∧ gFI S 361 m = nI c ∧
  (∀ x, (u ≤ x ∧ x < v ∧ th G W x ∧ One G W u x) → rg G S x = nI g) ∧ (∀ x, ¬ (u ≤ x ∧ x < v ∧ th G W x ∧ One G W u x) → rg G S x = rg G W x) ∧
  gFI S 393 m = nI w ∧ w = pl G S c ∧ gFI S 394 m = nI g ∧ g ≤ w0 ∧ w0 ≤ w ∧ (u < v → w0 + 1 ≤ w) ∧ u ≤ v ∧ v ≤ c
def opn (G : Nat → Nat) (S : sSt) : Nat → Nat
  | 0 => 0
  | d + 1 => opn G S d + (4 - (gAI S (G 386) d).toNatClampNeg)
theorem opn_eq {G : Nat → Nat} {S S' : sSt} : ∀ n, (∀ k, k < n → gAI S' (G 386) k = gAI S (G 386) k) → opn G S' n = opn G S n
  | 0, _ => rfl
  | n + 1, h => by
    unfold opn
    rw [opn_eq n (fun k hk => h k (by omega)), h n (by omega)]
theorem opn_s {G : Nat → Nat} {S : sSt} {q t : Nat} (hq : 1 ≤ q) (h : gAI S (G 386) (q - 1) = nI t) (ht : t ≤ 3) : opn G S q = opn G S (q - 1) + (4 - t) := by
  obtain ⟨d, rfl⟩ : ∃ d, q = d + 1 := ⟨q - 1, by omega⟩
  have h : gAI S (G 386) d = nI t := h
  show opn G S d + (4 - (gAI S (G 386) d).toNatClampNeg) = opn G S d + (4 - t)
  rw [h, n_cl (by omega)]
def FW (m : Nat) (G : Nat → Nat) (S : sSt) (q n : Nat) : Prop := q + unkN G 383 S 160 ≤ 161 ∧ (∃ w, gFI S 384 m = nI w ∧ w + unkN G 383 S 160 ≤ 160) ∧ opn G S q + 5 * unkN G 383 S 160 < n
