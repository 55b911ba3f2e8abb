/-! Safety: what a method's function gives is there, and the store keeps its shape. -/
def refF : List Nat := [0, 2, 40, 80, 81, 82, 120, 160, 161, 201, 241, 242, 243, 244, 246, 280, 320, 321, 322, 323]
/-- the shape: references are of their kinds, and those that a constructor lays are there; lengths are ints -/
def Sh (Λ : sLay) (S : sSt) : Prop := TS Λ S ∧ (∀ f, f ∈ refF → ∀ a, isK Λ (f / 40) a → ∃ b, gFR S f a = some b) ∧ (∀ q a, isK Λ q a → Λ.2.2 a < 2147483648) ∧ ∀ u t k, isK Λ 6 u → gFR S 244 u = some t → k < Λ.2.2 t → ∃ b, gAR S t k = some b
theorem Sh.sFI {Λ : sLay} {S : sSt} (h : Sh Λ S) (i a : Nat) (v : Int32) : Sh Λ (sFI S i a v) := ⟨h.1.sFI i a v, h.2.1, h.2.2⟩
theorem Sh.sFJ {Λ : sLay} {S : sSt} (h : Sh Λ S) (i a : Nat) (v : Int64) : Sh Λ (sFJ S i a v) := ⟨h.1.sFJ i a v, h.2.1, h.2.2⟩
theorem Sh.sAI {Λ : sLay} {S : sSt} (h : Sh Λ S) (a k : Nat) (v : Int32) : Sh Λ (sAI S a k v) := ⟨h.1.sAI a k v, h.2.1, h.2.2⟩
theorem Sh.sAJ {Λ : sLay} {S : sSt} (h : Sh Λ S) (a k : Nat) (v : Int64) : Sh Λ (sAJ S a k v) := ⟨h.1.sAJ a k v, h.2.1, h.2.2⟩
theorem Sh.sAR {Λ : sLay} {S : sSt} (h : Sh Λ S) (a k v : Nat) (hv : okK Λ (ek (Λ.2.1 a)) (some v)) : Sh Λ (sAR S a k (some v)) := ⟨h.1.sAR a k _ hv, h.2.1, h.2.2.1, fun u t j hu ht hj => by
  rw [gAR_sAR]
  split
  · exact ⟨v, rfl⟩
  · exact h.2.2.2 u t j hu ht hj⟩
theorem okK.of {Λ : sLay} {q a : Nat} (h : isK Λ q a) : okK Λ q (some a) := fun b hb => by cases hb; exact h
theorem okK.no {Λ : sLay} {q : Nat} : okK Λ q none := fun b hb => by cases hb
theorem okK.ek {Λ : sLay} {q t : Nat} {x : Option Nat} (ht : isK Λ q t) (h : okK Λ (ek q) x) : okK Λ (ek (Λ.2.1 t)) x := by rw [ht.2]; exact h
def T {β : Type} (x : Option β) (P : β → Prop) : Prop := ∃ r, x = some r ∧ P r
section
variable {β γ : Type} {P : γ → Prop} {Λ : sLay} {S : sSt}
theorem T_some {r : γ} (h : P r) : T (some r) P := ⟨r, rfl, h⟩
theorem T_bsome {a : β} {f : β → Option γ} (h : T (f a) P) : T (Option.bind (some a) f) P := h
theorem T_bind {x : Option β} {f : β → Option γ} {Q : β → Prop} (h : T x Q) (k : ∀ v, Q v → T (f v) P) : T (Option.bind x f) P := by
  obtain ⟨v, e, q⟩ := h
  rw [e]
  exact k v q
theorem T_obd {x : Option (β × sSt)} {f : β → sSt → Option γ} {Q : β × sSt → Prop} (h : T x Q) (k : ∀ v S1, Q (v, S1) → T (f v S1) P) : T (obd x f) P := by
  obtain ⟨⟨v, S1⟩, e, q⟩ := h
  rw [e]
  exact k v S1 q
theorem T_bnd {x : β} {g : β → Option γ} (h : T (g x) P) : T (bnd x g) P := h
theorem T_bndE {f a b : Nat} {g : Option Nat → Option γ} (e : gFR S f a = some b) (h : T (g (some b)) P) : T (bnd (gFR S f a) g) P := by
  unfold bnd
  rw [e]
  exact h
theorem T_bndR {f a : Nat} {g : Option Nat → Option γ} (hs : Sh Λ S) (hm : f ∈ refF) (ha : isK Λ (f / 40) a) (k : ∀ b, gFR S f a = some b → isK Λ (rk f) b → T (g (some b)) P) : T (bnd (gFR S f a) g) P := by
  obtain ⟨b, e⟩ := hs.2.1 f hm a ha
  exact T_bndE e (k b e (hs.1.1 f a b e))
theorem T_bndA {q t i : Nat} {g : Option Nat → Option γ} (hs : Sh Λ S) (ht : isK Λ q t) (k : ∀ x, gAR S t i = x → okK Λ (ek q) x → T (g x) P) : T (bnd (gAR S t i) g) P := k _ rfl (by have := hs.1.2 t i; rw [ht.2] at this; exact this)
theorem T_bndS {S1 : sSt} {g : sSt → Option γ} (h : Sh Λ S1) (k : ∀ S2, Sh Λ S2 → T (g S2) P) : T (bnd S1 g) P := k S1 h
theorem T_gi {i : Int32} {n : Nat} {F : Option γ} (h : vp_in i n) (k : T F P) : T (gi i n F) P := by
  unfold gi
  rw [if_neg h]
  exact k
theorem T_gb {v : Int32} {F : Option γ} (h : v = 0 ∨ v = 1) (k : T F P) : T (gb v F) P := by
  unfold gb
  rw [if_pos h]
  exact k
theorem T_ite {c : Prop} [Decidable c] {A B : Option γ} (h1 : c → T A P) (h2 : ¬ c → T B P) : T (if c then A else B) P := by
  by_cases h : c
  · rw [if_pos h]; exact h1 h
  · rw [if_neg h]; exact h2 h
theorem T_onl {q : Nat} {x : Option Nat} {F : Option γ} {f : Nat → Option γ} (hx : okK Λ q x) (h1 : T F P) (h2 : ∀ a, x = some a → isK Λ q a → T (f a) P) : T (onl x F f) P := by
  cases x with
  | none => exact h1
  | some a => exact h2 a rfl (hx a rfl)
theorem T_onlS {a : Nat} {F : Option γ} {f : Nat → Option γ} (h : T (f a) P) : T (onl (some a) F f) P := h
theorem T_onlN {F : Option γ} {f : Nat → Option γ} (h : T F P) : T (onl none F f) P := h
theorem T_bndAE {t i b : Nat} {g : Option Nat → Option γ} (e : gAR S t i = some b) (h : T (g (some b)) P) : T (bnd (gAR S t i) g) P := by
  unfold bnd
  rw [e]
  exact h
theorem T_obdI {x : Option (β × sSt)} {f : β → sSt → Option γ} (h : T x (fun r => Sh Λ r.2)) (k : ∀ v S1, Sh Λ S1 → T (f v S1) P) : T (obd x f) P := T_obd h k
theorem T_obdK {q : Nat} {x : Option (Option Nat × sSt)} {f : Option Nat → sSt → Option γ} (h : T x (fun r => Sh Λ r.2 ∧ okK Λ q r.1)) (k : ∀ v S1, Sh Λ S1 → okK Λ q v → T (f v S1) P) : T (obd x f) P := T_obd h (fun v S1 hq => k v S1 hq.1 hq.2)
theorem T_obdR {q : Nat} {x : Option (Option Nat × sSt)} {f : Option Nat → sSt → Option γ} (h : T x (fun r => Sh Λ r.2 ∧ ∃ a, r.1 = some a ∧ isK Λ q a)) (k : ∀ a S1, Sh Λ S1 → isK Λ q a → T (f (some a) S1) P) : T (obd x f) P := T_obd h (fun v S1 hq => by
  obtain ⟨h1, a, h2, h3⟩ := hq
  cases h2
  exact k a S1 h1 h3)
end
theorem vp_c {Λ : sLay} {i : Int32} {q a : Nat} {S : sSt} (hs : Sh Λ S) (ha : isK Λ q a) (h0 : ¬ i < 0) (h1 : ¬ nI (Λ.2.2 a) ≤ i) : vp_in i (Λ.2.2 a) := by
  have hN := hs.2.2.1 q a ha
  obtain ⟨j, hj, rfl⟩ := nI_of h0
  have : j < Λ.2.2 a := by
    rcases Nat.lt_or_ge j (Λ.2.2 a) with h | h
    · exact h
    · exact absurd (nI_le h hj) h1
  exact vp_in_nI this hN
theorem vp_d {Λ : sLay} {i : Int32} {q a : Nat} {S : sSt} (hs : Sh Λ S) (ha : isK Λ q a) (h0 : ¬ i < 0) (h1 : i < nI (Λ.2.2 a)) : vp_in i (Λ.2.2 a) := vp_c hs ha h0 (Int32.not_le.mpr h1)
theorem vp_m {Λ : sLay} {d : Int32} {q a : Nat} {S : sSt} (hs : Sh Λ S) (ha : isK Λ q a) (h0 : ¬ d ≤ 0) (h1 : ¬ nI (Λ.2.2 a) < d) : vp_in (d - 1) (Λ.2.2 a) := by
  have hN := hs.2.2.1 q a ha
  have h2 : ¬ d < 0 := fun h => h0 (Int32.le_of_lt h)
  obtain ⟨j, hj, rfl⟩ := nI_of h2
  cases j with
  | zero => exact absurd (nI_le (a := 0) (b := 0) (by omega) (by omega)) h0
  | succ j =>
    rw [nI_pred]
    have : j < Λ.2.2 a := by
      rcases Nat.lt_or_ge j (Λ.2.2 a) with h | h
      · exact h
      · exact absurd (nI_lt (by omega) hj) h1
    exact vp_in_nI this hN
theorem vp_f {S : sSt} {Λ : sLay} {i : Int32} {f a b : Nat} (e : gFR S f a = some b) (h : vp_in i (Λ.2.2 b)) : ∀ t, gFR S f a = some t → vp_in i (Λ.2.2 t) := fun t h1 => by
  rw [e] at h1
  cases h1
  exact h
/-- a loop's place: not under 0, and the fuel outlasts it -/
def m31 (v : Int32) (n : Nat) : Prop := 0 ≤ v.toInt ∧ 2147483648 ≤ v.toInt + n
/-- the same for a place that may start under 0 -/
def w31 (v : Int32) (n : Nat) : Prop := 2147483648 ≤ v.toInt + n
def b31 (v : Int32) : Prop := v.toInt < 2147483647
theorem m31.no {v : Int32} (h : m31 v 0) : False := by
  have h1 := Int32.toInt_le v
  obtain ⟨h2, h3⟩ := h
  have e : Int32.maxValue.toInt = 2147483647 := rfl
  simp only [Int32.toInt_maxValue] at *
  omega
theorem m31.nn {v : Int32} {n : Nat} (h : m31 v n) : ¬ v < 0 := by
  rw [Int32.lt_iff_toInt_lt]
  have e : (0 : Int32).toInt = 0 := rfl
  have := h.1
  omega
theorem b31.of {b v : Int32} (h : ¬ b ≤ v) : b31 v := by
  rw [Int32.le_iff_toInt_le] at h
  have h1 := Int32.toInt_le b
  simp only [Int32.toInt_maxValue] at *
  unfold b31
  omega
theorem m31.up {v : Int32} {n : Nat} (h : m31 v (n + 1)) (hb : b31 v) : m31 (v + 1) n := by
  obtain ⟨h1, h2⟩ := h
  unfold b31 at hb
  have e : (v + 1).toInt = v.toInt + 1 := by
    rw [Int32.toInt_add]
    have e1 : (1 : Int32).toInt = 1 := rfl
    rw [e1, Int.bmod_def]
    omega
  unfold m31
  rw [e]
  omega
theorem w31.no {v : Int32} (h : w31 v 0) : False := by
  have h1 := Int32.toInt_le v
  unfold w31 at h
  simp only [Int32.toInt_maxValue] at *
  omega
theorem w31.up {v : Int32} {n : Nat} (h : w31 v (n + 1)) (hb : b31 v) : w31 (v + 1) n := by
  unfold w31 at h
  unfold b31 at hb
  have h0 : -2147483648 ≤ v.toInt := Int32.minValue_le_toInt v
  have e : (v + 1).toInt = v.toInt + 1 := by
    rw [Int32.toInt_add]
    have e1 : (1 : Int32).toInt = 1 := rfl
    rw [e1, Int.bmod_def]
    omega
  unfold w31
  rw [e]
  omega
theorem w31.all (v : Int32) : w31 v FU := by
  unfold w31 FU
  have h0 : -2147483648 ≤ v.toInt := Int32.minValue_le_toInt v
  omega
/-- a place that is counted down to under 0 -/
def d31 (v : Int32) (n : Nat) : Prop := 0 < n ∧ v.toInt + 1 < n
theorem d31.no {v : Int32} (h : d31 v 0) : False := by
  have := h.1
  omega
theorem d31.down {v : Int32} {n : Nat} (h : d31 v (n + 1)) (hv : ¬ v < 0) : d31 (v + -1) n := by
  obtain ⟨h1, h2⟩ := h
  rw [Int32.lt_iff_toInt_lt] at hv
  have e0 : (0 : Int32).toInt = 0 := rfl
  rw [e0] at hv
  have hm := Int32.toInt_le v
  simp only [Int32.toInt_maxValue] at *
  have e : (v + -1).toInt = v.toInt - 1 := by
    rw [Int32.toInt_add]
    have e1 : (-1 : Int32).toInt = -1 := rfl
    rw [e1, Int.bmod_def]
    omega
  unfold d31
  rw [e]
  omega
theorem d31.all (v : Int32) : d31 v FU := by
  unfold d31 FU
  have h1 := Int32.toInt_le v
  simp only [Int32.toInt_maxValue] at *
  omega
theorem b31.succ {v : Int32} {n : Nat} (h : m31 v n) (hb : b31 v) : (v + 1).toInt = v.toInt + 1 := by
  have h1 := h.1
  unfold b31 at hb
  rw [Int32.toInt_add]
  have e1 : (1 : Int32).toInt = 1 := rfl
  rw [e1, Int.bmod_def]
  omega
theorem m31.from {j : Nat} (hj : j < 2 ^ 31) : m31 (nI j) FU := by
  unfold m31 FU
  rw [nI_toInt hj]
  omega
theorem m31.zero : m31 0 FU := by
  unfold m31 FU
  have e : (0 : Int32).toInt = 0 := rfl
  rw [e]
  omega
theorem T_R0 {γ : Type} {P : γ → Prop} {Λ : sLay} {S : sSt} {a : Nat} {g : Option Nat → Option γ} (hs : Sh Λ S) (ha : isK Λ 0 a) (k : ∀ b, gFR S 0 a = some b → isK Λ 13 b → T (g (some b)) P) : T (bnd (gFR S 0 a) g) P := T_bndR hs (by decide) ha k
theorem T_R2 {γ : Type} {P : γ → Prop} {Λ : sLay} {S : sSt} {a : Nat} {g : Option Nat → Option γ} (hs : Sh Λ S) (ha : isK Λ 0 a) (k : ∀ b, gFR S 2 a = some b → isK Λ 13 b → T (g (some b)) P) : T (bnd (gFR S 2 a) g) P := T_bndR hs (by decide) ha k
theorem T_R40 {γ : Type} {P : γ → Prop} {Λ : sLay} {S : sSt} {a : Nat} {g : Option Nat → Option γ} (hs : Sh Λ S) (ha : isK Λ 1 a) (k : ∀ b, gFR S 40 a = some b → isK Λ 10 b → T (g (some b)) P) : T (bnd (gFR S 40 a) g) P := T_bndR hs (by decide) ha k
theorem T_R80 {γ : Type} {P : γ → Prop} {Λ : sLay} {S : sSt} {a : Nat} {g : Option Nat → Option γ} (hs : Sh Λ S) (ha : isK Λ 2 a) (k : ∀ b, gFR S 80 a = some b → isK Λ 10 b → T (g (some b)) P) : T (bnd (gFR S 80 a) g) P := T_bndR hs (by decide) ha k
theorem T_R81 {γ : Type} {P : γ → Prop} {Λ : sLay} {S : sSt} {a : Nat} {g : Option Nat → Option γ} (hs : Sh Λ S) (ha : isK Λ 2 a) (k : ∀ b, gFR S 81 a = some b → isK Λ 10 b → T (g (some b)) P) : T (bnd (gFR S 81 a) g) P := T_bndR hs (by decide) ha k
theorem T_R82 {γ : Type} {P : γ → Prop} {Λ : sLay} {S : sSt} {a : Nat} {g : Option Nat → Option γ} (hs : Sh Λ S) (ha : isK Λ 2 a) (k : ∀ b, gFR S 82 a = some b → isK Λ 1 b → T (g (some b)) P) : T (bnd (gFR S 82 a) g) P := T_bndR hs (by decide) ha k
theorem T_R120 {γ : Type} {P : γ → Prop} {Λ : sLay} {S : sSt} {a : Nat} {g : Option Nat → Option γ} (hs : Sh Λ S) (ha : isK Λ 3 a) (k : ∀ b, gFR S 120 a = some b → isK Λ 11 b → T (g (some b)) P) : T (bnd (gFR S 120 a) g) P := T_bndR hs (by decide) ha k
theorem T_R160 {γ : Type} {P : γ → Prop} {Λ : sLay} {S : sSt} {a : Nat} {g : Option Nat → Option γ} (hs : Sh Λ S) (ha : isK Λ 4 a) (k : ∀ b, gFR S 160 a = some b → isK Λ 3 b → T (g (some b)) P) : T (bnd (gFR S 160 a) g) P := T_bndR hs (by decide) ha k
theorem T_R161 {γ : Type} {P : γ → Prop} {Λ : sLay} {S : sSt} {a : Nat} {g : Option Nat → Option γ} (hs : Sh Λ S) (ha : isK Λ 4 a) (k : ∀ b, gFR S 161 a = some b → isK Λ 3 b → T (g (some b)) P) : T (bnd (gFR S 161 a) g) P := T_bndR hs (by decide) ha k
theorem T_R201 {γ : Type} {P : γ → Prop} {Λ : sLay} {S : sSt} {a : Nat} {g : Option Nat → Option γ} (hs : Sh Λ S) (ha : isK Λ 5 a) (k : ∀ b, gFR S 201 a = some b → isK Λ 1 b → T (g (some b)) P) : T (bnd (gFR S 201 a) g) P := T_bndR hs (by decide) ha k
theorem T_R241 {γ : Type} {P : γ → Prop} {Λ : sLay} {S : sSt} {a : Nat} {g : Option Nat → Option γ} (hs : Sh Λ S) (ha : isK Λ 6 a) (k : ∀ b, gFR S 241 a = some b → isK Λ 1 b → T (g (some b)) P) : T (bnd (gFR S 241 a) g) P := T_bndR hs (by decide) ha k
theorem T_R242 {γ : Type} {P : γ → Prop} {Λ : sLay} {S : sSt} {a : Nat} {g : Option Nat → Option γ} (hs : Sh Λ S) (ha : isK Λ 6 a) (k : ∀ b, gFR S 242 a = some b → isK Λ 1 b → T (g (some b)) P) : T (bnd (gFR S 242 a) g) P := T_bndR hs (by decide) ha k
theorem T_R243 {γ : Type} {P : γ → Prop} {Λ : sLay} {S : sSt} {a : Nat} {g : Option Nat → Option γ} (hs : Sh Λ S) (ha : isK Λ 6 a) (k : ∀ b, gFR S 243 a = some b → isK Λ 3 b → T (g (some b)) P) : T (bnd (gFR S 243 a) g) P := T_bndR hs (by decide) ha k
theorem T_R244 {γ : Type} {P : γ → Prop} {Λ : sLay} {S : sSt} {a : Nat} {g : Option Nat → Option γ} (hs : Sh Λ S) (ha : isK Λ 6 a) (k : ∀ b, gFR S 244 a = some b → isK Λ 13 b → T (g (some b)) P) : T (bnd (gFR S 244 a) g) P := T_bndR hs (by decide) ha k
theorem T_R246 {γ : Type} {P : γ → Prop} {Λ : sLay} {S : sSt} {a : Nat} {g : Option Nat → Option γ} (hs : Sh Λ S) (ha : isK Λ 6 a) (k : ∀ b, gFR S 246 a = some b → isK Λ 1 b → T (g (some b)) P) : T (bnd (gFR S 246 a) g) P := T_bndR hs (by decide) ha k
theorem T_R280 {γ : Type} {P : γ → Prop} {Λ : sLay} {S : sSt} {a : Nat} {g : Option Nat → Option γ} (hs : Sh Λ S) (ha : isK Λ 7 a) (k : ∀ b, gFR S 280 a = some b → isK Λ 14 b → T (g (some b)) P) : T (bnd (gFR S 280 a) g) P := T_bndR hs (by decide) ha k
theorem T_R320 {γ : Type} {P : γ → Prop} {Λ : sLay} {S : sSt} {a : Nat} {g : Option Nat → Option γ} (hs : Sh Λ S) (ha : isK Λ 8 a) (k : ∀ b, gFR S 320 a = some b → isK Λ 7 b → T (g (some b)) P) : T (bnd (gFR S 320 a) g) P := T_bndR hs (by decide) ha k
theorem T_R321 {γ : Type} {P : γ → Prop} {Λ : sLay} {S : sSt} {a : Nat} {g : Option Nat → Option γ} (hs : Sh Λ S) (ha : isK Λ 8 a) (k : ∀ b, gFR S 321 a = some b → isK Λ 0 b → T (g (some b)) P) : T (bnd (gFR S 321 a) g) P := T_bndR hs (by decide) ha k
theorem T_R322 {γ : Type} {P : γ → Prop} {Λ : sLay} {S : sSt} {a : Nat} {g : Option Nat → Option γ} (hs : Sh Λ S) (ha : isK Λ 8 a) (k : ∀ b, gFR S 322 a = some b → isK Λ 4 b → T (g (some b)) P) : T (bnd (gFR S 322 a) g) P := T_bndR hs (by decide) ha k
theorem T_R323 {γ : Type} {P : γ → Prop} {Λ : sLay} {S : sSt} {a : Nat} {g : Option Nat → Option γ} (hs : Sh Λ S) (ha : isK Λ 8 a) (k : ∀ b, gFR S 323 a = some b → isK Λ 2 b → T (g (some b)) P) : T (bnd (gFR S 323 a) g) P := T_bndR hs (by decide) ha k
theorem T_bndF {γ : Type} {P : γ → Prop} {Λ : sLay} {S : sSt} {u t : Nat} {i : Int32} {g : Option Nat → Option γ} (hs : Sh Λ S) (hu : isK Λ 6 u) (e : gFR S 244 u = some t) (ht : isK Λ 13 t) (hi : vp_in i (Λ.2.2 t)) (k : ∀ b, gAR S t (Int32.toNatClampNeg i) = some b → isK Λ 5 b → T (g (some b)) P) : T (bnd (gAR S t (Int32.toNatClampNeg i)) g) P := by
  obtain ⟨b, eb⟩ := hs.2.2.2 u t (Int32.toNatClampNeg i) hu e (Nat.lt_of_not_le (fun h => hi (Or.inr h)))
  have h1 := hs.1.2 t (Int32.toNatClampNeg i)
  rw [ht.2] at h1
  exact T_bndAE eb (k b eb (h1 b eb))
theorem T_A13 {γ : Type} {P : γ → Prop} {Λ : sLay} {S : sSt} {t i : Nat} {g : Option Nat → Option γ} (hs : Sh Λ S) (ht : isK Λ 13 t) (k : ∀ x, gAR S t i = x → okK Λ 5 x → T (g x) P) : T (bnd (gAR S t i) g) P := T_bndA hs ht k
theorem T_A14 {γ : Type} {P : γ → Prop} {Λ : sLay} {S : sSt} {t i : Nat} {g : Option Nat → Option γ} (hs : Sh Λ S) (ht : isK Λ 14 t) (k : ∀ x, gAR S t i = x → okK Λ 6 x → T (g x) P) : T (bnd (gAR S t i) g) P := T_bndA hs ht k
theorem T_bFI {γ : Type} {P : γ → Prop} {Λ : sLay} {S : sSt} {i a : Nat} {v : Int32} {g : sSt → Option γ} (h : Sh Λ S) (k : ∀ S2, Sh Λ S2 → T (g S2) P) : T (bnd (sFI S i a v) g) P := k _ (h.sFI i a v)
theorem T_bFJ {γ : Type} {P : γ → Prop} {Λ : sLay} {S : sSt} {i a : Nat} {v : Int64} {g : sSt → Option γ} (h : Sh Λ S) (k : ∀ S2, Sh Λ S2 → T (g S2) P) : T (bnd (sFJ S i a v) g) P := k _ (h.sFJ i a v)
theorem T_bAI {γ : Type} {P : γ → Prop} {Λ : sLay} {S : sSt} {i a : Nat} {v : Int32} {g : sSt → Option γ} (h : Sh Λ S) (k : ∀ S2, Sh Λ S2 → T (g S2) P) : T (bnd (sAI S i a v) g) P := k _ (h.sAI i a v)
theorem T_bAJ {γ : Type} {P : γ → Prop} {Λ : sLay} {S : sSt} {i a : Nat} {v : Int64} {g : sSt → Option γ} (h : Sh Λ S) (k : ∀ S2, Sh Λ S2 → T (g S2) P) : T (bnd (sAJ S i a v) g) P := k _ (h.sAJ i a v)
theorem T_b13 {γ : Type} {P : γ → Prop} {Λ : sLay} {S : sSt} {i a v : Nat} {g : sSt → Option γ} (h : Sh Λ S) (ha : isK Λ 13 a) (hv : okK Λ 5 (some v)) (k : ∀ S2, Sh Λ S2 → T (g S2) P) : T (bnd (sAR S a i (some v)) g) P := k _ (h.sAR a i v (okK.ek ha hv))
theorem T_b14 {γ : Type} {P : γ → Prop} {Λ : sLay} {S : sSt} {i a v : Nat} {g : sSt → Option γ} (h : Sh Λ S) (ha : isK Λ 14 a) (hv : okK Λ 6 (some v)) (k : ∀ S2, Sh Λ S2 → T (g S2) P) : T (bnd (sAR S a i (some v)) g) P := k _ (h.sAR a i v (okK.ek ha hv))
syntax "sk" : tactic
macro_rules | `(tactic| sk) => `(tactic| with_reducible first | assumption | exact okK.no | exact okK.of (by assumption))
syntax "sv" : tactic
macro_rules | `(tactic| sv) => `(tactic| with_reducible first
  | assumption
  | exact vp_c (by assumption) (by assumption) (by first | assumption | exact m31.nn (by assumption)) (by assumption)
  | exact vp_d (by assumption) (by assumption) (by first | assumption | exact m31.nn (by assumption)) (by assumption)
  | exact vp_m (by assumption) (by assumption) (by assumption) (by assumption))
syntax "st1" : tactic
macro_rules | `(tactic| st1) => `(tactic| with_reducible first
  | refine T_some ?_
  | refine T_bsome ?_
  | refine T_bndE (by assumption) ?_
  | refine T_R0 (by assumption) (by assumption) (fun _ _ _ => ?_)
  | refine T_R2 (by assumption) (by assumption) (fun _ _ _ => ?_)
  | refine T_R40 (by assumption) (by assumption) (fun _ _ _ => ?_)
  | refine T_R80 (by assumption) (by assumption) (fun _ _ _ => ?_)
  | refine T_R81 (by assumption) (by assumption) (fun _ _ _ => ?_)
  | refine T_R82 (by assumption) (by assumption) (fun _ _ _ => ?_)
  | refine T_R120 (by assumption) (by assumption) (fun _ _ _ => ?_)
  | refine T_R160 (by assumption) (by assumption) (fun _ _ _ => ?_)
  | refine T_R161 (by assumption) (by assumption) (fun _ _ _ => ?_)
  | refine T_R201 (by assumption) (by assumption) (fun _ _ _ => ?_)
  | refine T_R241 (by assumption) (by assumption) (fun _ _ _ => ?_)
  | refine T_R242 (by assumption) (by assumption) (fun _ _ _ => ?_)
  | refine T_R243 (by assumption) (by assumption) (fun _ _ _ => ?_)
  | refine T_R244 (by assumption) (by assumption) (fun _ _ _ => ?_)
  | refine T_R246 (by assumption) (by assumption) (fun _ _ _ => ?_)
  | refine T_R280 (by assumption) (by assumption) (fun _ _ _ => ?_)
  | refine T_R320 (by assumption) (by assumption) (fun _ _ _ => ?_)
  | refine T_R321 (by assumption) (by assumption) (fun _ _ _ => ?_)
  | refine T_R322 (by assumption) (by assumption) (fun _ _ _ => ?_)
  | refine T_R323 (by assumption) (by assumption) (fun _ _ _ => ?_)
  | refine T_bndAE (by assumption) ?_
  | refine T_A13 (by assumption) (by assumption) (fun _ _ _ => ?_)
  | refine T_A14 (by assumption) (by assumption) (fun _ _ _ => ?_)
  | refine T_gb (by assumption) ?_
  | refine T_onlS ?_
  | refine T_onlN ?_
  | refine T_bFI (by assumption) (fun _ _ => ?_)
  | refine T_bFJ (by assumption) (fun _ _ => ?_)
  | refine T_bAI (by assumption) (fun _ _ => ?_)
  | refine T_bAJ (by assumption) (fun _ _ => ?_)
  | refine T_b13 (by assumption) (by assumption) (by sk) (fun _ _ => ?_)
  | refine T_b14 (by assumption) (by assumption) (by sk) (fun _ _ => ?_)
  | refine T_gi (by sv) ?_
  | refine T_ite (fun _ => ?_) (fun _ => ?_)
  | refine T_onl (by sk) ?_ ?_
  | (intro a hxa ha; subst hxa))
syntax "sp" : tactic
macro_rules | `(tactic| sp) => `(tactic| with_reducible first | exact True.intro | assumption | sk | exact ⟨by assumption, by sk⟩ | exact ⟨by assumption, _, rfl, by assumption⟩)
syntax "sa" : tactic
macro_rules | `(tactic| sa) => `(tactic| with_reducible first | assumption | sk | exact m31.zero | exact w31.all _ | exact d31.all _ | sv | exact vp_f (by assumption) (by sv) | exact d31.down (by assumption) (by assumption) | exact w31.up (by assumption) (by first | assumption | exact b31.of (by assumption)) | exact m31.up (by assumption) (by first | assumption | exact b31.of (by assumption)) | exact b31.of (by assumption) | decide)
set_option maxHeartbeats 2000000 in
theorem tB_X0_addPart_33 {Λ : sLay} (S : sSt) (hs : Sh Λ S) (p0 : Nat) (tp0 : isK Λ 5 p0) : T (B_X0_addPart_33 Λ.2.2 S p0) (fun r : sSt => Sh Λ r) := by
  unfold B_X0_addPart_33
  repeat' (first | sp | st1)
set_option maxHeartbeats 2000000 in
theorem tF_X0_addPart {Λ : sLay} (S : sSt) (hs : Sh Λ S) (p0 : Nat) (tp0 : isK Λ 5 p0) (p1 : Option Nat) (tp1 : okK Λ 5 p1) : T (F_X0_addPart Λ.2.2 S (some p0) p1) (fun r : sSt => Sh Λ r) := by
  unfold F_X0_addPart
  repeat' (first | sp | st1 | ((with_reducible apply tB_X0_addPart_33) <;> sa))
set_option maxHeartbeats 2000000 in
theorem tF_X0_close {Λ : sLay} (S : sSt) (hs : Sh Λ S) (p0 : Option Nat) (tp0 : okK Λ 5 p0) : T (F_X0_close Λ.2.2 S p0) (fun r : sSt => Sh Λ r) := by
  unfold F_X0_close
  repeat' (first | sp | st1)
set_option maxHeartbeats 2000000 in
theorem tF_X0_enter {Λ : sLay} (S : sSt) (hs : Sh Λ S) (p0 : Nat) (tp0 : isK Λ 0 p0) (p1 : Nat) (tp1 : isK Λ 5 p1) : T (F_X0_enter Λ.2.2 S p0 (some p1)) (fun r : sSt => Sh Λ r) := by
  unfold F_X0_enter
  refine T_ite (fun _ => T_some hs) (fun c1 => ?_)
  refine T_R0 hs tp0 (fun b e tb => T_bsome (T_ite (fun _ => T_some hs) (fun c2 => T_bsome (T_bnd (T_bnd ?_)))))
  refine T_bndE e (T_bsome ?_)
  have e1 : gFI (sFI (sFI S 205 p1 1) 209 p1 0) 1 p0 = gFI S 1 p0 := by simp [gFI_sFI]
  rw [e1]
  refine T_gi (vp_c hs tb c1 c2) ?_
  refine T_b13 ((hs.sFI 205 p1 1).sFI 209 p1 0) tb (okK.of tp1) (fun S2 h2 => ?_)
  exact T_bFI h2 (fun S3 h3 => T_some h3)
set_option maxHeartbeats 2000000 in
theorem tF_X7_at {Λ : sLay} (S : sSt) (hs : Sh Λ S) (p0 : Nat) (tp0 : isK Λ 7 p0) (p1 : Int32) : T (F_X7_at Λ.2.2 S p0 p1) (fun r : Option Nat => okK Λ 6 r) := by
  unfold F_X7_at
  repeat' (first | sp | st1)
set_option maxHeartbeats 2000000 in
theorem tF_X6_thingCount {Λ : sLay} (S : sSt) (hs : Sh Λ S) (p0 : Nat) (tp0 : isK Λ 6 p0) : T (F_X6_thingCount Λ.2.2 S p0) (fun r : Int32 => True) := by
  unfold F_X6_thingCount
  repeat' (first | sp | st1)
set_option maxHeartbeats 2000000 in
theorem tF_X6_thingAt {Λ : sLay} (S : sSt) (hs : Sh Λ S) (p0 : Nat) (tp0 : isK Λ 6 p0) (p1 : Int32) : T (F_X6_thingAt Λ.2.2 S p0 p1) (fun r : Option Nat => okK Λ 5 r) := by
  unfold F_X6_thingAt
  repeat' (first | sp | st1)
set_option maxHeartbeats 2000000 in
theorem tB_X0_refresh_76 {Λ : sLay} (S : sSt) (hs : Sh Λ S) {n2 : Nat} (k2 : sSt → (Option Nat) → Int32 → Option sSt) (hk2 : ∀ (S : sSt) (hs : Sh Λ S) (p0 : Nat) (tp0 : isK Λ 7 p0) (p1 : Int32), (m31 p1 n2) → T (k2 S (some p0) p1) (fun r : sSt => Sh Λ r)) (p0 : Nat) (tp0 : isK Λ 7 p0) (p1 : Int32) (f0 : m31 p1 (n2 + 1)) (f1 : b31 p1) : T (B_X0_refresh_76 Λ.2.2 k2 S p0 p1) (fun r : sSt => Sh Λ r) := by
  unfold B_X0_refresh_76
  repeat' (first | sp | st1 | ((with_reducible apply hk2) <;> sa))
set_option maxHeartbeats 2000000 in
theorem tB_X0_refresh_70 {Λ : sLay} (S : sSt) (hs : Sh Λ S) {n2 : Nat} (k2 : sSt → (Option Nat) → Int32 → Option sSt) (hk2 : ∀ (S : sSt) (hs : Sh Λ S) (p0 : Nat) (tp0 : isK Λ 7 p0) (p1 : Int32), (m31 p1 n2) → T (k2 S (some p0) p1) (fun r : sSt => Sh Λ r)) {n18 : Nat} (k18 : sSt → Nat → Int32 → (Option Nat) → Int32 → Option sSt) (hk18 : ∀ (S : sSt) (hs : Sh Λ S) (p0 : Nat) (tp0 : isK Λ 7 p0) (p1 : Int32) (p2 : Option Nat) (tp2 : okK Λ 6 p2) (p3 : Int32), (m31 p3 n18) → (m31 p1 (n2 + 1)) → (b31 p1) → T (k18 S p0 p1 p2 p3) (fun r : sSt => Sh Λ r)) (p0 : Nat) (tp0 : isK Λ 7 p0) (p1 : Int32) (p2 : Nat) (tp2 : isK Λ 6 p2) (p3 : Int32) (f0 : m31 p1 (n2 + 1)) (f1 : b31 p1) (f2 : m31 p3 (n18 + 1)) (f3 : b31 p3) : T (B_X0_refresh_70 Λ.2.2 k2 k18 S p0 p1 p2 p3) (fun r : sSt => Sh Λ r) := by
  unfold B_X0_refresh_70
  repeat' (first | sp | st1 | ((with_reducible apply hk2) <;> sa) | ((with_reducible apply hk18) <;> sa))
set_option maxHeartbeats 2000000 in
theorem tY_X0_refresh_18 {Λ : sLay} (S : sSt) (hs : Sh Λ S) {n2 : Nat} (k2 : sSt → (Option Nat) → Int32 → Option sSt) (hk2 : ∀ (S : sSt) (hs : Sh Λ S) (p0 : Nat) (tp0 : isK Λ 7 p0) (p1 : Int32), (m31 p1 n2) → T (k2 S (some p0) p1) (fun r : sSt => Sh Λ r)) {n : Nat} (rec : sSt → Nat → Int32 → (Option Nat) → Int32 → Option sSt) (hrec : ∀ (S : sSt) (hs : Sh Λ S) (p0 : Nat) (tp0 : isK Λ 7 p0) (p1 : Int32) (p2 : Option Nat) (tp2 : okK Λ 6 p2) (p3 : Int32), (m31 p3 n) → (m31 p1 (n2 + 1)) → (b31 p1) → T (rec S p0 p1 p2 p3) (fun r : sSt => Sh Λ r)) (p0 : Nat) (tp0 : isK Λ 7 p0) (p1 : Int32) (p2 : Option Nat) (tp2 : okK Λ 6 p2) (p3 : Int32) (f0 : m31 p3 (n + 1)) (f1 : m31 p1 (n2 + 1)) (f2 : b31 p1) : T (Y_X0_refresh_18 Λ.2.2 k2 rec S p0 p1 p2 p3) (fun r : sSt => Sh Λ r) := by
  unfold Y_X0_refresh_18
  repeat' (first | sp | st1 | ((with_reducible apply tB_X0_refresh_76) <;> sa) | (with_reducible refine T_bind (by with_reducible apply tF_X6_thingCount <;> sa) (fun _ hq => ?_)) | ((with_reducible apply tF_X6_thingCount) <;> sa) | (with_reducible refine T_bind (by with_reducible apply tF_X6_thingAt <;> sa) (fun _ hq => ?_)) | ((with_reducible apply tF_X6_thingAt) <;> sa) | ((with_reducible apply tB_X0_refresh_70) <;> sa) | ((with_reducible apply hk2) <;> sa) | ((with_reducible apply hrec) <;> sa))
theorem tL_X0_refresh_18 {Λ : sLay} {n2 : Nat} (k2 : sSt → (Option Nat) → Int32 → Option sSt) (hk2 : ∀ (S : sSt) (hs : Sh Λ S) (p0 : Nat) (tp0 : isK Λ 7 p0) (p1 : Int32), (m31 p1 n2) → T (k2 S (some p0) p1) (fun r : sSt => Sh Λ r)) : ∀ (n : Nat) (S : sSt) (hs : Sh Λ S) (p0 : Nat) (tp0 : isK Λ 7 p0) (p1 : Int32) (p2 : Option Nat) (tp2 : okK Λ 6 p2) (p3 : Int32) (_ : m31 p3 n) (_ : m31 p1 (n2 + 1)) (_ : b31 p1), T (L_X0_refresh_18 Λ.2.2 k2 n S p0 p1 p2 p3) (fun r : sSt => Sh Λ r) := by
  intro n
  induction n with
  | zero => intro S hs p0 tp0 p1 p2 tp2 p3 f0 f1 f2; exact (m31.no f0).elim
  | succ n ih =>
    intro S hs p0 tp0 p1 p2 tp2 p3 f0 f1 f2
    exact tY_X0_refresh_18 S hs  (rec := L_X0_refresh_18 Λ.2.2 k2 n) (hrec := ih) (k2 := k2) (hk2 := hk2) (p0 := p0) (tp0 := tp0) (p1 := p1) (p2 := p2) (tp2 := tp2) (p3 := p3) (f0 := f0) (f1 := f1) (f2 := f2)
set_option maxHeartbeats 2000000 in
theorem tY_X0_refresh_2 {Λ : sLay} (S : sSt) (hs : Sh Λ S) {n : Nat} (rec : sSt → (Option Nat) → Int32 → Option sSt) (hrec : ∀ (S : sSt) (hs : Sh Λ S) (p0 : Nat) (tp0 : isK Λ 7 p0) (p1 : Int32), (m31 p1 n) → T (rec S (some p0) p1) (fun r : sSt => Sh Λ r)) (p0 : Nat) (tp0 : isK Λ 7 p0) (p1 : Int32) (f0 : m31 p1 (n + 1)) : T (Y_X0_refresh_2 Λ.2.2 rec S (some p0) p1) (fun r : sSt => Sh Λ r) := by
  unfold Y_X0_refresh_2
  repeat' (first | sp | st1 | (with_reducible refine T_bind (by with_reducible apply tF_X7_at <;> sa) (fun _ hq => ?_)) | ((with_reducible apply tF_X7_at) <;> sa) | ((with_reducible apply tL_X0_refresh_18) <;> sa) | ((with_reducible apply hrec) <;> sa))
theorem tL_X0_refresh_2 {Λ : sLay} : ∀ (n : Nat) (S : sSt) (hs : Sh Λ S) (p0 : Nat) (tp0 : isK Λ 7 p0) (p1 : Int32) (_ : m31 p1 n), T (L_X0_refresh_2 Λ.2.2 n S (some p0) p1) (fun r : sSt => Sh Λ r) := by
  intro n
  induction n with
  | zero => intro S hs p0 tp0 p1 f0; exact (m31.no f0).elim
  | succ n ih =>
    intro S hs p0 tp0 p1 f0
    exact tY_X0_refresh_2 S hs  (rec := L_X0_refresh_2 Λ.2.2 n) (hrec := ih)  (p0 := p0) (tp0 := tp0) (p1 := p1) (f0 := f0)
set_option maxHeartbeats 2000000 in
theorem tF_X0_refresh {Λ : sLay} (S : sSt) (hs : Sh Λ S) (p0 : Nat) (tp0 : isK Λ 7 p0) : T (F_X0_refresh Λ.2.2 S (some p0)) (fun r : sSt => Sh Λ r) := by
  unfold F_X0_refresh
  repeat' (first | sp | st1 | ((with_reducible apply tL_X0_refresh_2) <;> sa))
set_option maxHeartbeats 2000000 in
theorem tF_X1_length {Λ : sLay} (S : sSt) (hs : Sh Λ S) (p0 : Nat) (tp0 : isK Λ 1 p0) : T (F_X1_length Λ.2.2 S p0) (fun r : Int32 => True) := by
  unfold F_X1_length
  repeat' (first | sp | st1)
set_option maxHeartbeats 2000000 in
theorem tF_X1_at {Λ : sLay} (S : sSt) (hs : Sh Λ S) (p0 : Nat) (tp0 : isK Λ 1 p0) (p1 : Int32) : T (F_X1_at Λ.2.2 S p0 p1) (fun r : Int32 => True) := by
  unfold F_X1_at
  repeat' (first | sp | st1)
set_option maxHeartbeats 2000000 in
theorem tF_X8_keyOf {Λ : sLay} (S : sSt) (hs : Sh Λ S) (p0 : Int32) (p1 : Int32) : T (F_X8_keyOf Λ.2.2 S p0 p1) (fun r : Int32 => True) := by
  unfold F_X8_keyOf
  repeat' (first | sp | st1)
set_option maxHeartbeats 2000000 in
theorem tB_X6_thingFor_48 {Λ : sLay} (S : sSt) (hs : Sh Λ S) {n2 : Nat} (k2 : Nat → Int32 → Int32 → Option (Option Nat)) (hk2 : ∀ (p0 : Nat) (tp0 : isK Λ 6 p0) (p1 : Int32) (p2 : Int32), (m31 p2 n2) → T (k2 p0 p1 p2) (fun r : Option Nat => okK Λ 5 r)) (p0 : Nat) (tp0 : isK Λ 6 p0) (p1 : Int32) (p2 : Int32) (f0 : m31 p2 (n2 + 1)) (f1 : b31 p2) : T (B_X6_thingFor_48 Λ.2.2 S k2 p0 p1 p2) (fun r : Option Nat => okK Λ 5 r) := by
  unfold B_X6_thingFor_48
  repeat' (first | sp | st1 | ((with_reducible apply hk2) <;> sa))
set_option maxHeartbeats 2000000 in
theorem tY_X6_thingFor_2 {Λ : sLay} (S : sSt) (hs : Sh Λ S) {n : Nat} (rec : Nat → Int32 → Int32 → Option (Option Nat)) (hrec : ∀ (p0 : Nat) (tp0 : isK Λ 6 p0) (p1 : Int32) (p2 : Int32), (m31 p2 n) → T (rec p0 p1 p2) (fun r : Option Nat => okK Λ 5 r)) (p0 : Nat) (tp0 : isK Λ 6 p0) (p1 : Int32) (p2 : Int32) (f0 : m31 p2 (n + 1)) : T (Y_X6_thingFor_2 Λ.2.2 S rec p0 p1 p2) (fun r : Option Nat => okK Λ 5 r) := by
  unfold Y_X6_thingFor_2
  repeat' (first | sp | st1 | ((with_reducible apply tB_X6_thingFor_48) <;> sa) | ((with_reducible apply hrec) <;> sa))
theorem tL_X6_thingFor_2 {Λ : sLay} (S : sSt) (hs : Sh Λ S) : ∀ (n : Nat) (p0 : Nat) (tp0 : isK Λ 6 p0) (p1 : Int32) (p2 : Int32) (_ : m31 p2 n), T (L_X6_thingFor_2 Λ.2.2 S n p0 p1 p2) (fun r : Option Nat => okK Λ 5 r) := by
  intro n
  induction n with
  | zero => intro p0 tp0 p1 p2 f0; exact (m31.no f0).elim
  | succ n ih =>
    intro p0 tp0 p1 p2 f0
    exact tY_X6_thingFor_2 S hs  (rec := L_X6_thingFor_2 Λ.2.2 S n) (hrec := ih)  (p0 := p0) (tp0 := tp0) (p1 := p1) (p2 := p2) (f0 := f0)
set_option maxHeartbeats 2000000 in
theorem tF_X6_thingFor {Λ : sLay} (S : sSt) (hs : Sh Λ S) (p0 : Nat) (tp0 : isK Λ 6 p0) (p1 : Int32) : T (F_X6_thingFor Λ.2.2 S p0 p1) (fun r : Option Nat => okK Λ 5 r) := by
  unfold F_X6_thingFor
  repeat' (first | sp | st1 | ((with_reducible apply tL_X6_thingFor_2) <;> sa))
set_option maxHeartbeats 2000000 in
theorem tB_X7_lookFrom_75 {Λ : sLay} (S : sSt) (hs : Sh Λ S) {n15 : Nat} (k15 : Nat → Nat → Int32 → Int32 → Option (Option Nat)) (hk15 : ∀ (p0 : Nat) (tp0 : isK Λ 7 p0) (p1 : Nat) (tp1 : isK Λ 6 p1) (p2 : Int32) (p4 : Int32), (m31 p4 n15) → T (k15 p0 p1 p2 p4) (fun r : Option Nat => okK Λ 5 r)) (p0 : Nat) (tp0 : isK Λ 7 p0) (p1 : Nat) (tp1 : isK Λ 6 p1) (p2 : Int32) (p4 : Int32) (f0 : m31 p4 (n15 + 1)) (f1 : b31 p4) : T (B_X7_lookFrom_75 Λ.2.2 S k15 p0 p1 p2 p4) (fun r : Option Nat => okK Λ 5 r) := by
  unfold B_X7_lookFrom_75
  repeat' (first | sp | st1 | ((with_reducible apply hk15) <;> sa))
set_option maxHeartbeats 2000000 in
theorem tB_X7_lookFrom_57 {Λ : sLay} (S : sSt) (hs : Sh Λ S) {n15 : Nat} (k15 : Nat → Nat → Int32 → Int32 → Option (Option Nat)) (hk15 : ∀ (p0 : Nat) (tp0 : isK Λ 7 p0) (p1 : Nat) (tp1 : isK Λ 6 p1) (p2 : Int32) (p4 : Int32), (m31 p4 n15) → T (k15 p0 p1 p2 p4) (fun r : Option Nat => okK Λ 5 r)) (p0 : Nat) (tp0 : isK Λ 7 p0) (p1 : Nat) (tp1 : isK Λ 6 p1) (p2 : Int32) (p4 : Int32) (s0 : Option Nat) (ts0 : okK Λ 5 s0) (f0 : m31 p4 (n15 + 1)) (f1 : b31 p4) : T (B_X7_lookFrom_57 Λ.2.2 S k15 p0 p1 p2 p4 s0) (fun r : Option Nat => okK Λ 5 r) := by
  unfold B_X7_lookFrom_57
  repeat' (first | sp | st1 | ((with_reducible apply tB_X7_lookFrom_75) <;> sa) | ((with_reducible apply hk15) <;> sa))
set_option maxHeartbeats 2000000 in
theorem tY_X7_lookFrom_15 {Λ : sLay} (S : sSt) (hs : Sh Λ S) {n : Nat} (rec : Nat → Nat → Int32 → Int32 → Option (Option Nat)) (hrec : ∀ (p0 : Nat) (tp0 : isK Λ 7 p0) (p1 : Nat) (tp1 : isK Λ 6 p1) (p2 : Int32) (p4 : Int32), (m31 p4 n) → T (rec p0 p1 p2 p4) (fun r : Option Nat => okK Λ 5 r)) (p0 : Nat) (tp0 : isK Λ 7 p0) (p1 : Nat) (tp1 : isK Λ 6 p1) (p2 : Int32) (p4 : Int32) (f0 : m31 p4 (n + 1)) : T (Y_X7_lookFrom_15 Λ.2.2 S rec p0 p1 p2 p4) (fun r : Option Nat => okK Λ 5 r) := by
  unfold Y_X7_lookFrom_15
  repeat' (first | sp | st1 | (with_reducible refine T_bind (by with_reducible apply tF_X1_length <;> sa) (fun _ hq => ?_)) | ((with_reducible apply tF_X1_length) <;> sa) | (with_reducible refine T_bind (by with_reducible apply tF_X1_at <;> sa) (fun _ hq => ?_)) | ((with_reducible apply tF_X1_at) <;> sa) | (with_reducible refine T_bind (by with_reducible apply tF_X7_at <;> sa) (fun _ hq => ?_)) | ((with_reducible apply tF_X7_at) <;> sa) | ((with_reducible apply tB_X7_lookFrom_57) <;> sa) | (with_reducible refine T_bind (by with_reducible apply tF_X6_thingFor <;> sa) (fun _ hq => ?_)) | ((with_reducible apply tF_X6_thingFor) <;> sa) | ((with_reducible apply hrec) <;> sa))
theorem tL_X7_lookFrom_15 {Λ : sLay} (S : sSt) (hs : Sh Λ S) : ∀ (n : Nat) (p0 : Nat) (tp0 : isK Λ 7 p0) (p1 : Nat) (tp1 : isK Λ 6 p1) (p2 : Int32) (p4 : Int32) (_ : m31 p4 n), T (L_X7_lookFrom_15 Λ.2.2 S n p0 p1 p2 p4) (fun r : Option Nat => okK Λ 5 r) := by
  intro n
  induction n with
  | zero => intro p0 tp0 p1 tp1 p2 p4 f0; exact (m31.no f0).elim
  | succ n ih =>
    intro p0 tp0 p1 tp1 p2 p4 f0
    exact tY_X7_lookFrom_15 S hs  (rec := L_X7_lookFrom_15 Λ.2.2 S n) (hrec := ih)  (p0 := p0) (tp0 := tp0) (p1 := p1) (tp1 := tp1) (p2 := p2) (p4 := p4) (f0 := f0)
set_option maxHeartbeats 2000000 in
theorem tF_X7_lookFrom {Λ : sLay} (S : sSt) (hs : Sh Λ S) (p0 : Nat) (tp0 : isK Λ 7 p0) (p1 : Nat) (tp1 : isK Λ 6 p1) (p2 : Int32) : T (F_X7_lookFrom Λ.2.2 S p0 (some p1) p2) (fun r : Option Nat => okK Λ 5 r) := by
  unfold F_X7_lookFrom
  repeat' (first | sp | st1 | (with_reducible refine T_bind (by with_reducible apply tF_X6_thingFor <;> sa) (fun _ hq => ?_)) | ((with_reducible apply tF_X6_thingFor) <;> sa) | ((with_reducible apply tL_X7_lookFrom_15) <;> sa))
set_option maxHeartbeats 2000000 in
theorem tF_X7_partOf {Λ : sLay} (S : sSt) (hs : Sh Λ S) (p0 : Nat) (tp0 : isK Λ 7 p0) (p1 : Nat) (tp1 : isK Λ 5 p1) (p2 : Int32) : T (F_X7_partOf Λ.2.2 S p0 (some p1) p2) (fun r : Option Nat => okK Λ 5 r) := by
  unfold F_X7_partOf
  repeat' (first | sp | st1 | (with_reducible refine T_bind (by with_reducible apply tF_X7_at <;> sa) (fun _ hq => ?_)) | ((with_reducible apply tF_X7_at) <;> sa) | (with_reducible refine T_bind (by with_reducible apply tF_X1_at <;> sa) (fun _ hq => ?_)) | ((with_reducible apply tF_X1_at) <;> sa) | (with_reducible refine T_bind (by with_reducible apply tF_X8_keyOf <;> sa) (fun _ hq => ?_)) | ((with_reducible apply tF_X8_keyOf) <;> sa) | (with_reducible refine T_bind (by with_reducible apply tF_X7_lookFrom <;> sa) (fun _ hq => ?_)) | ((with_reducible apply tF_X7_lookFrom) <;> sa))
set_option maxHeartbeats 2000000 in
theorem tF_X0_note {Λ : sLay} (S : sSt) (hs : Sh Λ S) (p0 : Nat) (tp0 : isK Λ 0 p0) (p1 : Nat) (tp1 : isK Λ 5 p1) : T (F_X0_note Λ.2.2 S p0 (some p1)) (fun r : sSt => Sh Λ r) := by
  unfold F_X0_note
  refine T_ite (fun _ => T_some hs) (fun c1 => ?_)
  refine T_R2 hs tp0 (fun b e tb => T_bsome (T_ite (fun _ => T_some hs) (fun c2 => T_bsome (T_bnd ?_))))
  refine T_bndE e (T_bsome ?_)
  have e1 : gFI (sFI S 208 p1 1) 3 p0 = gFI S 3 p0 := by simp [gFI_sFI]
  rw [e1]
  refine T_gi (vp_c hs tb c1 c2) ?_
  refine T_b13 (hs.sFI 208 p1 1) tb (okK.of tp1) (fun S2 h2 => ?_)
  exact T_bFI h2 (fun S3 h3 => T_some h3)
set_option maxHeartbeats 2000000 in
theorem tB_X0_follow_153 {Λ : sLay} (S : sSt) (hs : Sh Λ S) {n21 : Nat} (k21 : sSt → Nat → (Option Nat) → Int32 → Option sSt) (hk21 : ∀ (S : sSt) (hs : Sh Λ S) (p0 : Nat) (tp0 : isK Λ 0 p0) (p2 : Nat) (tp2 : isK Λ 7 p2) (p3 : Int32), (m31 p3 n21) → T (k21 S p0 (some p2) p3) (fun r : sSt => Sh Λ r)) (p0 : Nat) (tp0 : isK Λ 0 p0) (p2 : Nat) (tp2 : isK Λ 7 p2) (p3 : Int32) (f0 : m31 p3 (n21 + 1)) (f1 : b31 p3) : T (B_X0_follow_153 Λ.2.2 k21 S p0 (some p2) p3) (fun r : sSt => Sh Λ r) := by
  unfold B_X0_follow_153
  repeat' (first | sp | st1 | ((with_reducible apply hk21) <;> sa))
set_option maxHeartbeats 2000000 in
theorem tB_X0_follow_80 {Λ : sLay} (S : sSt) (hs : Sh Λ S) {n21 : Nat} (k21 : sSt → Nat → (Option Nat) → Int32 → Option sSt) (hk21 : ∀ (S : sSt) (hs : Sh Λ S) (p0 : Nat) (tp0 : isK Λ 0 p0) (p2 : Nat) (tp2 : isK Λ 7 p2) (p3 : Int32), (m31 p3 n21) → T (k21 S p0 (some p2) p3) (fun r : sSt => Sh Λ r)) (p0 : Nat) (tp0 : isK Λ 0 p0) (p2 : Nat) (tp2 : isK Λ 7 p2) (p3 : Int32) (f0 : m31 p3 (n21 + 1)) (f1 : b31 p3) : T (B_X0_follow_80 Λ.2.2 k21 S p0 (some p2) p3) (fun r : sSt => Sh Λ r) := by
  unfold B_X0_follow_80
  repeat' (first | sp | st1 | ((with_reducible apply tB_X0_follow_153) <;> sa) | ((with_reducible apply hk21) <;> sa))
set_option maxHeartbeats 2000000 in
theorem tY_X0_follow_21 {Λ : sLay} (S : sSt) (hs : Sh Λ S) {n : Nat} (rec : sSt → Nat → (Option Nat) → Int32 → Option sSt) (hrec : ∀ (S : sSt) (hs : Sh Λ S) (p0 : Nat) (tp0 : isK Λ 0 p0) (p2 : Nat) (tp2 : isK Λ 7 p2) (p3 : Int32), (m31 p3 n) → T (rec S p0 (some p2) p3) (fun r : sSt => Sh Λ r)) (p0 : Nat) (tp0 : isK Λ 0 p0) (p2 : Nat) (tp2 : isK Λ 7 p2) (p3 : Int32) (f0 : m31 p3 (n + 1)) : T (Y_X0_follow_21 Λ.2.2 rec S p0 (some p2) p3) (fun r : sSt => Sh Λ r) := by
  unfold Y_X0_follow_21
  repeat' (first | sp | st1 | ((with_reducible apply tB_X0_follow_80) <;> sa) | (with_reducible refine T_bind (by with_reducible apply tF_X1_length <;> sa) (fun _ hq => ?_)) | ((with_reducible apply tF_X1_length) <;> sa) | (with_reducible refine T_bind (by with_reducible apply tF_X7_partOf <;> sa) (fun _ hq => ?_)) | ((with_reducible apply tF_X7_partOf) <;> sa) | ((with_reducible apply tB_X0_follow_153) <;> sa) | (with_reducible refine T_bind (by with_reducible apply tF_X0_note <;> sa) (fun _ hq => ?_)) | ((with_reducible apply tF_X0_note) <;> sa) | (with_reducible refine T_bind (by with_reducible apply tF_X0_enter <;> sa) (fun _ hq => ?_)) | ((with_reducible apply tF_X0_enter) <;> sa) | ((with_reducible apply hrec) <;> sa))
theorem tL_X0_follow_21 {Λ : sLay} : ∀ (n : Nat) (S : sSt) (hs : Sh Λ S) (p0 : Nat) (tp0 : isK Λ 0 p0) (p2 : Nat) (tp2 : isK Λ 7 p2) (p3 : Int32) (_ : m31 p3 n), T (L_X0_follow_21 Λ.2.2 n S p0 (some p2) p3) (fun r : sSt => Sh Λ r) := by
  intro n
  induction n with
  | zero => intro S hs p0 tp0 p2 tp2 p3 f0; exact (m31.no f0).elim
  | succ n ih =>
    intro S hs p0 tp0 p2 tp2 p3 f0
    exact tY_X0_follow_21 S hs  (rec := L_X0_follow_21 Λ.2.2 n) (hrec := ih)  (p0 := p0) (tp0 := tp0) (p2 := p2) (tp2 := tp2) (p3 := p3) (f0 := f0)
set_option maxHeartbeats 2000000 in
theorem tF_X0_follow {Λ : sLay} (S : sSt) (hs : Sh Λ S) (p0 : Nat) (tp0 : isK Λ 0 p0) (p1 : Nat) (tp1 : isK Λ 5 p1) (p2 : Nat) (tp2 : isK Λ 7 p2) : T (F_X0_follow Λ.2.2 S p0 (some p1) (some p2)) (fun r : sSt => Sh Λ r) := by
  unfold F_X0_follow
  repeat' (first | sp | st1 | (with_reducible refine T_bind (by with_reducible apply tF_X0_refresh <;> sa) (fun _ hq => ?_)) | ((with_reducible apply tF_X0_refresh) <;> sa) | (with_reducible refine T_bind (by with_reducible apply tF_X0_enter <;> sa) (fun _ hq => ?_)) | ((with_reducible apply tF_X0_enter) <;> sa) | ((with_reducible apply tL_X0_follow_21) <;> sa))
set_option maxHeartbeats 2000000 in
theorem tF_X0_metAt {Λ : sLay} (S : sSt) (hs : Sh Λ S) (p0 : Nat) (tp0 : isK Λ 0 p0) (p1 : Int32) : T (F_X0_metAt Λ.2.2 S p0 p1) (fun r : Option Nat => okK Λ 5 r) := by
  unfold F_X0_metAt
  repeat' (first | sp | st1)
set_option maxHeartbeats 2000000 in
theorem tB_X0_settle_142 {Λ : sLay} (S : sSt) (hs : Sh Λ S) {n12 : Nat} (k12 : sSt → Nat → (Option Nat) → Int32 → Option sSt) (hk12 : ∀ (S : sSt) (hs : Sh Λ S) (p0 : Nat) (tp0 : isK Λ 0 p0) (p2 : Nat) (tp2 : isK Λ 7 p2) (p3 : Int32), (m31 p3 n12) → T (k12 S p0 (some p2) p3) (fun r : sSt => Sh Λ r)) (p0 : Nat) (tp0 : isK Λ 0 p0) (p2 : Nat) (tp2 : isK Λ 7 p2) (p3 : Int32) (f0 : m31 p3 (n12 + 1)) (f1 : b31 p3) : T (B_X0_settle_142 Λ.2.2 k12 S p0 (some p2) p3) (fun r : sSt => Sh Λ r) := by
  unfold B_X0_settle_142
  repeat' (first | sp | st1 | ((with_reducible apply hk12) <;> sa))
set_option maxHeartbeats 2000000 in
theorem tB_X0_settle_71 {Λ : sLay} (S : sSt) (hs : Sh Λ S) {n12 : Nat} (k12 : sSt → Nat → (Option Nat) → Int32 → Option sSt) (hk12 : ∀ (S : sSt) (hs : Sh Λ S) (p0 : Nat) (tp0 : isK Λ 0 p0) (p2 : Nat) (tp2 : isK Λ 7 p2) (p3 : Int32), (m31 p3 n12) → T (k12 S p0 (some p2) p3) (fun r : sSt => Sh Λ r)) (p0 : Nat) (tp0 : isK Λ 0 p0) (p2 : Nat) (tp2 : isK Λ 7 p2) (p3 : Int32) (p4 : Option Nat) (tp4 : okK Λ 5 p4) (f0 : m31 p3 (n12 + 1)) (f1 : b31 p3) : T (B_X0_settle_71 Λ.2.2 k12 S p0 (some p2) p3 p4) (fun r : sSt => Sh Λ r) := by
  unfold B_X0_settle_71
  repeat' (first | sp | st1 | (with_reducible refine T_bind (by with_reducible apply tF_X0_close <;> sa) (fun _ hq => ?_)) | ((with_reducible apply tF_X0_close) <;> sa) | ((with_reducible apply tB_X0_settle_142) <;> sa) | ((with_reducible apply hk12) <;> sa))
set_option maxHeartbeats 2000000 in
theorem tB_X0_settle_124 {Λ : sLay} (S : sSt) (hs : Sh Λ S) {n12 : Nat} (k12 : sSt → Nat → (Option Nat) → Int32 → Option sSt) (hk12 : ∀ (S : sSt) (hs : Sh Λ S) (p0 : Nat) (tp0 : isK Λ 0 p0) (p2 : Nat) (tp2 : isK Λ 7 p2) (p3 : Int32), (m31 p3 n12) → T (k12 S p0 (some p2) p3) (fun r : sSt => Sh Λ r)) (p0 : Nat) (tp0 : isK Λ 0 p0) (p2 : Nat) (tp2 : isK Λ 7 p2) (p3 : Int32) (p4 : Nat) (tp4 : isK Λ 5 p4) (p5 : Option Nat) (tp5 : okK Λ 5 p5) (f0 : m31 p3 (n12 + 1)) (f1 : b31 p3) : T (B_X0_settle_124 Λ.2.2 k12 S p0 p2 p3 p4 p5) (fun r : sSt => Sh Λ r) := by
  unfold B_X0_settle_124
  repeat' (first | sp | st1 | (with_reducible refine T_bind (by with_reducible apply tF_X0_addPart <;> sa) (fun _ hq => ?_)) | ((with_reducible apply tF_X0_addPart) <;> sa) | ((with_reducible apply tB_X0_settle_142) <;> sa) | ((with_reducible apply hk12) <;> sa))
set_option maxHeartbeats 2000000 in
theorem tY_X0_settle_12 {Λ : sLay} (S : sSt) (hs : Sh Λ S) {n : Nat} (rec : sSt → Nat → (Option Nat) → Int32 → Option sSt) (hrec : ∀ (S : sSt) (hs : Sh Λ S) (p0 : Nat) (tp0 : isK Λ 0 p0) (p2 : Nat) (tp2 : isK Λ 7 p2) (p3 : Int32), (m31 p3 n) → T (rec S p0 (some p2) p3) (fun r : sSt => Sh Λ r)) (p0 : Nat) (tp0 : isK Λ 0 p0) (p2 : Nat) (tp2 : isK Λ 7 p2) (p3 : Int32) (f0 : m31 p3 (n + 1)) : T (Y_X0_settle_12 Λ.2.2 rec S p0 (some p2) p3) (fun r : sSt => Sh Λ r) := by
  unfold Y_X0_settle_12
  repeat' (first | sp | st1 | ((with_reducible apply tB_X0_settle_71) <;> sa) | (with_reducible refine T_bind (by with_reducible apply tF_X1_length <;> sa) (fun _ hq => ?_)) | ((with_reducible apply tF_X1_length) <;> sa) | (with_reducible refine T_bind (by with_reducible apply tF_X7_partOf <;> sa) (fun _ hq => ?_)) | ((with_reducible apply tF_X7_partOf) <;> sa) | ((with_reducible apply tB_X0_settle_124) <;> sa) | (with_reducible refine T_bind (by with_reducible apply tF_X0_enter <;> sa) (fun _ hq => ?_)) | ((with_reducible apply tF_X0_enter) <;> sa) | ((with_reducible apply tB_X0_settle_142) <;> sa) | ((with_reducible apply hrec) <;> sa))
theorem tL_X0_settle_12 {Λ : sLay} : ∀ (n : Nat) (S : sSt) (hs : Sh Λ S) (p0 : Nat) (tp0 : isK Λ 0 p0) (p2 : Nat) (tp2 : isK Λ 7 p2) (p3 : Int32) (_ : m31 p3 n), T (L_X0_settle_12 Λ.2.2 n S p0 (some p2) p3) (fun r : sSt => Sh Λ r) := by
  intro n
  induction n with
  | zero => intro S hs p0 tp0 p2 tp2 p3 f0; exact (m31.no f0).elim
  | succ n ih =>
    intro S hs p0 tp0 p2 tp2 p3 f0
    exact tY_X0_settle_12 S hs  (rec := L_X0_settle_12 Λ.2.2 n) (hrec := ih)  (p0 := p0) (tp0 := tp0) (p2 := p2) (tp2 := tp2) (p3 := p3) (f0 := f0)
set_option maxHeartbeats 2000000 in
theorem tF_X0_settle {Λ : sLay} (S : sSt) (hs : Sh Λ S) (p0 : Nat) (tp0 : isK Λ 0 p0) (p1 : Nat) (tp1 : isK Λ 5 p1) (p2 : Nat) (tp2 : isK Λ 7 p2) : T (F_X0_settle Λ.2.2 S p0 (some p1) (some p2)) (fun r : sSt => Sh Λ r) := by
  unfold F_X0_settle
  repeat' (first | sp | st1 | (with_reducible refine T_bind (by with_reducible apply tF_X0_enter <;> sa) (fun _ hq => ?_)) | ((with_reducible apply tF_X0_enter) <;> sa) | ((with_reducible apply tL_X0_settle_12) <;> sa))
set_option maxHeartbeats 2000000 in
theorem tF_X8_sortOf {Λ : sLay} (S : sSt) (hs : Sh Λ S) (p0 : Int32) : T (F_X8_sortOf Λ.2.2 S p0) (fun r : Int32 => True) := by
  unfold F_X8_sortOf
  repeat' (first | sp | st1)
set_option maxHeartbeats 2000000 in
theorem tB_X0_settleAll_82 {Λ : sLay} (S : sSt) (hs : Sh Λ S) {n6 : Nat} (k6 : sSt → Nat → (Option Nat) → Int32 → Option sSt) (hk6 : ∀ (S : sSt) (hs : Sh Λ S) (p0 : Nat) (tp0 : isK Λ 0 p0) (p1 : Nat) (tp1 : isK Λ 7 p1) (p2 : Int32), (m31 p2 n6) → T (k6 S p0 (some p1) p2) (fun r : sSt => Sh Λ r)) (p0 : Nat) (tp0 : isK Λ 0 p0) (p1 : Nat) (tp1 : isK Λ 7 p1) (p2 : Int32) (f0 : m31 p2 (n6 + 1)) (f1 : b31 p2) : T (B_X0_settleAll_82 Λ.2.2 k6 S p0 p1 p2) (fun r : sSt => Sh Λ r) := by
  unfold B_X0_settleAll_82
  repeat' (first | sp | st1 | ((with_reducible apply hk6) <;> sa))
set_option maxHeartbeats 2000000 in
theorem tB_X0_settleAll_76 {Λ : sLay} (S : sSt) (hs : Sh Λ S) {n6 : Nat} (k6 : sSt → Nat → (Option Nat) → Int32 → Option sSt) (hk6 : ∀ (S : sSt) (hs : Sh Λ S) (p0 : Nat) (tp0 : isK Λ 0 p0) (p1 : Nat) (tp1 : isK Λ 7 p1) (p2 : Int32), (m31 p2 n6) → T (k6 S p0 (some p1) p2) (fun r : sSt => Sh Λ r)) {n23 : Nat} (k23 : sSt → Nat → Nat → Int32 → (Option Nat) → Int32 → Option sSt) (hk23 : ∀ (S : sSt) (hs : Sh Λ S) (p0 : Nat) (tp0 : isK Λ 0 p0) (p1 : Nat) (tp1 : isK Λ 7 p1) (p2 : Int32) (p3 : Option Nat) (tp3 : okK Λ 6 p3) (p4 : Int32), (m31 p4 n23) → (m31 p2 (n6 + 1)) → (b31 p2) → T (k23 S p0 p1 p2 p3 p4) (fun r : sSt => Sh Λ r)) (p0 : Nat) (tp0 : isK Λ 0 p0) (p1 : Nat) (tp1 : isK Λ 7 p1) (p2 : Int32) (p3 : Nat) (tp3 : isK Λ 6 p3) (p4 : Int32) (f0 : m31 p2 (n6 + 1)) (f1 : b31 p2) (f2 : m31 p4 (n23 + 1)) (f3 : b31 p4) : T (B_X0_settleAll_76 Λ.2.2 k6 k23 S p0 p1 p2 p3 p4) (fun r : sSt => Sh Λ r) := by
  unfold B_X0_settleAll_76
  repeat' (first | sp | st1 | ((with_reducible apply hk6) <;> sa) | ((with_reducible apply hk23) <;> sa))
set_option maxHeartbeats 2000000 in
theorem tY_X0_settleAll_23 {Λ : sLay} (S : sSt) (hs : Sh Λ S) {n6 : Nat} (k6 : sSt → Nat → (Option Nat) → Int32 → Option sSt) (hk6 : ∀ (S : sSt) (hs : Sh Λ S) (p0 : Nat) (tp0 : isK Λ 0 p0) (p1 : Nat) (tp1 : isK Λ 7 p1) (p2 : Int32), (m31 p2 n6) → T (k6 S p0 (some p1) p2) (fun r : sSt => Sh Λ r)) {n : Nat} (rec : sSt → Nat → Nat → Int32 → (Option Nat) → Int32 → Option sSt) (hrec : ∀ (S : sSt) (hs : Sh Λ S) (p0 : Nat) (tp0 : isK Λ 0 p0) (p1 : Nat) (tp1 : isK Λ 7 p1) (p2 : Int32) (p3 : Option Nat) (tp3 : okK Λ 6 p3) (p4 : Int32), (m31 p4 n) → (m31 p2 (n6 + 1)) → (b31 p2) → T (rec S p0 p1 p2 p3 p4) (fun r : sSt => Sh Λ r)) (p0 : Nat) (tp0 : isK Λ 0 p0) (p1 : Nat) (tp1 : isK Λ 7 p1) (p2 : Int32) (p3 : Option Nat) (tp3 : okK Λ 6 p3) (p4 : Int32) (f0 : m31 p4 (n + 1)) (f1 : m31 p2 (n6 + 1)) (f2 : b31 p2) : T (Y_X0_settleAll_23 Λ.2.2 k6 rec S p0 p1 p2 p3 p4) (fun r : sSt => Sh Λ r) := by
  unfold Y_X0_settleAll_23
  repeat' (first | sp | st1 | ((with_reducible apply tB_X0_settleAll_82) <;> sa) | (with_reducible refine T_bind (by with_reducible apply tF_X6_thingCount <;> sa) (fun _ hq => ?_)) | ((with_reducible apply tF_X6_thingCount) <;> sa) | (with_reducible refine T_bind (by with_reducible apply tF_X6_thingAt <;> sa) (fun _ hq => ?_)) | ((with_reducible apply tF_X6_thingAt) <;> sa) | ((with_reducible apply tB_X0_settleAll_76) <;> sa) | (with_reducible refine T_bind (by with_reducible apply tF_X8_sortOf <;> sa) (fun _ hq => ?_)) | ((with_reducible apply tF_X8_sortOf) <;> sa) | (with_reducible refine T_bind (by with_reducible apply tF_X0_settle <;> sa) (fun _ hq => ?_)) | ((with_reducible apply tF_X0_settle) <;> sa) | ((with_reducible apply hk6) <;> sa) | ((with_reducible apply hrec) <;> sa))
theorem tL_X0_settleAll_23 {Λ : sLay} {n6 : Nat} (k6 : sSt → Nat → (Option Nat) → Int32 → Option sSt) (hk6 : ∀ (S : sSt) (hs : Sh Λ S) (p0 : Nat) (tp0 : isK Λ 0 p0) (p1 : Nat) (tp1 : isK Λ 7 p1) (p2 : Int32), (m31 p2 n6) → T (k6 S p0 (some p1) p2) (fun r : sSt => Sh Λ r)) : ∀ (n : Nat) (S : sSt) (hs : Sh Λ S) (p0 : Nat) (tp0 : isK Λ 0 p0) (p1 : Nat) (tp1 : isK Λ 7 p1) (p2 : Int32) (p3 : Option Nat) (tp3 : okK Λ 6 p3) (p4 : Int32) (_ : m31 p4 n) (_ : m31 p2 (n6 + 1)) (_ : b31 p2), T (L_X0_settleAll_23 Λ.2.2 k6 n S p0 p1 p2 p3 p4) (fun r : sSt => Sh Λ r) := by
  intro n
  induction n with
  | zero => intro S hs p0 tp0 p1 tp1 p2 p3 tp3 p4 f0 f1 f2; exact (m31.no f0).elim
  | succ n ih =>
    intro S hs p0 tp0 p1 tp1 p2 p3 tp3 p4 f0 f1 f2
    exact tY_X0_settleAll_23 S hs  (rec := L_X0_settleAll_23 Λ.2.2 k6 n) (hrec := ih) (k6 := k6) (hk6 := hk6) (p0 := p0) (tp0 := tp0) (p1 := p1) (tp1 := tp1) (p2 := p2) (p3 := p3) (tp3 := tp3) (p4 := p4) (f0 := f0) (f1 := f1) (f2 := f2)
set_option maxHeartbeats 2000000 in
theorem tY_X0_settleAll_6 {Λ : sLay} (S : sSt) (hs : Sh Λ S) {n : Nat} (rec : sSt → Nat → (Option Nat) → Int32 → Option sSt) (hrec : ∀ (S : sSt) (hs : Sh Λ S) (p0 : Nat) (tp0 : isK Λ 0 p0) (p1 : Nat) (tp1 : isK Λ 7 p1) (p2 : Int32), (m31 p2 n) → T (rec S p0 (some p1) p2) (fun r : sSt => Sh Λ r)) (p0 : Nat) (tp0 : isK Λ 0 p0) (p1 : Nat) (tp1 : isK Λ 7 p1) (p2 : Int32) (f0 : m31 p2 (n + 1)) : T (Y_X0_settleAll_6 Λ.2.2 rec S p0 (some p1) p2) (fun r : sSt => Sh Λ r) := by
  unfold Y_X0_settleAll_6
  repeat' (first | sp | st1 | (with_reducible refine T_bind (by with_reducible apply tF_X7_at <;> sa) (fun _ hq => ?_)) | ((with_reducible apply tF_X7_at) <;> sa) | ((with_reducible apply tL_X0_settleAll_23) <;> sa) | ((with_reducible apply hrec) <;> sa))
theorem tL_X0_settleAll_6 {Λ : sLay} : ∀ (n : Nat) (S : sSt) (hs : Sh Λ S) (p0 : Nat) (tp0 : isK Λ 0 p0) (p1 : Nat) (tp1 : isK Λ 7 p1) (p2 : Int32) (_ : m31 p2 n), T (L_X0_settleAll_6 Λ.2.2 n S p0 (some p1) p2) (fun r : sSt => Sh Λ r) := by
  intro n
  induction n with
  | zero => intro S hs p0 tp0 p1 tp1 p2 f0; exact (m31.no f0).elim
  | succ n ih =>
    intro S hs p0 tp0 p1 tp1 p2 f0
    exact tY_X0_settleAll_6 S hs  (rec := L_X0_settleAll_6 Λ.2.2 n) (hrec := ih)  (p0 := p0) (tp0 := tp0) (p1 := p1) (tp1 := tp1) (p2 := p2) (f0 := f0)
set_option maxHeartbeats 2000000 in
theorem tF_X0_settleAll {Λ : sLay} (S : sSt) (hs : Sh Λ S) (p0 : Nat) (tp0 : isK Λ 0 p0) (p1 : Nat) (tp1 : isK Λ 7 p1) : T (F_X0_settleAll Λ.2.2 S p0 (some p1)) (fun r : sSt => Sh Λ r) := by
  unfold F_X0_settleAll
  repeat' (first | sp | st1 | (with_reducible refine T_bind (by with_reducible apply tF_X0_refresh <;> sa) (fun _ hq => ?_)) | ((with_reducible apply tF_X0_refresh) <;> sa) | ((with_reducible apply tL_X0_settleAll_6) <;> sa))
set_option maxHeartbeats 2000000 in
theorem tF_X1_append {Λ : sLay} (S : sSt) (hs : Sh Λ S) (p0 : Nat) (tp0 : isK Λ 1 p0) (p1 : Int32) : T (F_X1_append Λ.2.2 S p0 p1) (fun r : Int32 × sSt => Sh Λ r.2) := by
  unfold F_X1_append
  repeat' (first | sp | st1)
set_option maxHeartbeats 2000000 in
theorem tB_X1_dropAt_56 {Λ : sLay} (S : sSt) (hs : Sh Λ S) (p0 : Nat) (tp0 : isK Λ 1 p0) : T (B_X1_dropAt_56 Λ.2.2 S p0) (fun r : sSt => Sh Λ r) := by
  unfold B_X1_dropAt_56
  repeat' (first | sp | st1)
set_option maxHeartbeats 2000000 in
theorem tY_X1_dropAt_15 {Λ : sLay} (S : sSt) (hs : Sh Λ S) {n : Nat} (rec : sSt → Nat → Int32 → Option sSt) (hrec : ∀ (S : sSt) (hs : Sh Λ S) (p0 : Nat) (tp0 : isK Λ 1 p0) (p2 : Int32), (m31 p2 n) → (b31 p2) → T (rec S p0 p2) (fun r : sSt => Sh Λ r)) (p0 : Nat) (tp0 : isK Λ 1 p0) (p2 : Int32) (f0 : m31 p2 (n + 1)) (f1 : b31 p2) : T (Y_X1_dropAt_15 Λ.2.2 rec S p0 p2) (fun r : sSt => Sh Λ r) := by
  unfold Y_X1_dropAt_15
  have u := m31.up f0 f1
  refine T_ite (fun _ => tB_X1_dropAt_56 S hs p0 tp0) (fun c1 => ?_)
  refine T_R40 hs tp0 (fun b e tb => T_bsome (T_ite (fun _ => tB_X1_dropAt_56 S hs p0 tp0) (fun c2 => T_bndE e (T_bndE e (T_bsome ?_)))))
  refine T_gi (vp_c hs tb u.nn c2) (T_bsome (T_gi ?_ ?_))
  · refine vp_c hs tb f0.nn (fun h => c2 ?_)
    rw [Int32.le_iff_toInt_le] at h ⊢
    rw [b31.succ f0 f1]
    omega
  · exact T_bAI hs (fun S2 h2 => hrec S2 h2 p0 tp0 (p2 + 1) u (b31.of c1))
theorem tL_X1_dropAt_15 {Λ : sLay} : ∀ (n : Nat) (S : sSt) (hs : Sh Λ S) (p0 : Nat) (tp0 : isK Λ 1 p0) (p2 : Int32) (_ : m31 p2 n) (_ : b31 p2), T (L_X1_dropAt_15 Λ.2.2 n S p0 p2) (fun r : sSt => Sh Λ r) := by
  intro n
  induction n with
  | zero => intro S hs p0 tp0 p2 f0 f1; exact (m31.no f0).elim
  | succ n ih =>
    intro S hs p0 tp0 p2 f0 f1
    exact tY_X1_dropAt_15 S hs  (rec := L_X1_dropAt_15 Λ.2.2 n) (hrec := ih)  (p0 := p0) (tp0 := tp0) (p2 := p2) (f0 := f0) (f1 := f1)
set_option maxHeartbeats 2000000 in
theorem tF_X1_dropAt {Λ : sLay} (S : sSt) (hs : Sh Λ S) (p0 : Nat) (tp0 : isK Λ 1 p0) (p1 : Int32) : T (F_X1_dropAt Λ.2.2 S p0 p1) (fun r : sSt => Sh Λ r) := by
  unfold F_X1_dropAt
  refine T_ite (fun _ => T_some hs) (fun c1 => T_ite (fun c2 => ?_) (fun _ => T_some hs))
  refine tL_X1_dropAt_15 FU S hs p0 tp0 p1 ?_ (b31.of (Int32.not_le.mpr c2))
  obtain ⟨j, hj, rfl⟩ := nI_of c1
  exact m31.from hj
set_option maxHeartbeats 2000000 in
theorem tB_X1_dropItem_25 {Λ : sLay} (S : sSt) (hs : Sh Λ S) {n7 : Nat} (k7 : sSt → Nat → Int32 → Int32 → Option sSt) (hk7 : ∀ (S : sSt) (hs : Sh Λ S) (p0 : Nat) (tp0 : isK Λ 1 p0) (p1 : Int32) (p2 : Int32), (d31 p2 n7) → T (k7 S p0 p1 p2) (fun r : sSt => Sh Λ r)) (p0 : Nat) (tp0 : isK Λ 1 p0) (p1 : Int32) (p2 : Int32) (f0 : d31 p2 (n7 + 1)) (f1 : ¬ p2 < 0) : T (B_X1_dropItem_25 Λ.2.2 k7 S p0 p1 p2) (fun r : sSt => Sh Λ r) := by
  unfold B_X1_dropItem_25
  repeat' (first | sp | st1 | ((with_reducible apply hk7) <;> sa))
set_option maxHeartbeats 2000000 in
theorem tY_X1_dropItem_7 {Λ : sLay} (S : sSt) (hs : Sh Λ S) {n : Nat} (rec : sSt → Nat → Int32 → Int32 → Option sSt) (hrec : ∀ (S : sSt) (hs : Sh Λ S) (p0 : Nat) (tp0 : isK Λ 1 p0) (p1 : Int32) (p2 : Int32), (d31 p2 n) → T (rec S p0 p1 p2) (fun r : sSt => Sh Λ r)) (p0 : Nat) (tp0 : isK Λ 1 p0) (p1 : Int32) (p2 : Int32) (f0 : d31 p2 (n + 1)) : T (Y_X1_dropItem_7 Λ.2.2 rec S p0 p1 p2) (fun r : sSt => Sh Λ r) := by
  unfold Y_X1_dropItem_7
  repeat' (first | sp | st1 | (with_reducible refine T_bind (by with_reducible apply tF_X1_at <;> sa) (fun _ hq => ?_)) | ((with_reducible apply tF_X1_at) <;> sa) | (with_reducible refine T_bind (by with_reducible apply tF_X1_dropAt <;> sa) (fun _ hq => ?_)) | ((with_reducible apply tF_X1_dropAt) <;> sa) | ((with_reducible apply tB_X1_dropItem_25) <;> sa) | ((with_reducible apply hrec) <;> sa))
theorem tL_X1_dropItem_7 {Λ : sLay} : ∀ (n : Nat) (S : sSt) (hs : Sh Λ S) (p0 : Nat) (tp0 : isK Λ 1 p0) (p1 : Int32) (p2 : Int32) (_ : d31 p2 n), T (L_X1_dropItem_7 Λ.2.2 n S p0 p1 p2) (fun r : sSt => Sh Λ r) := by
  intro n
  induction n with
  | zero => intro S hs p0 tp0 p1 p2 f0; exact (d31.no f0).elim
  | succ n ih =>
    intro S hs p0 tp0 p1 p2 f0
    exact tY_X1_dropItem_7 S hs  (rec := L_X1_dropItem_7 Λ.2.2 n) (hrec := ih)  (p0 := p0) (tp0 := tp0) (p1 := p1) (p2 := p2) (f0 := f0)
set_option maxHeartbeats 2000000 in
theorem tF_X1_dropItem {Λ : sLay} (S : sSt) (hs : Sh Λ S) (p0 : Nat) (tp0 : isK Λ 1 p0) (p1 : Int32) : T (F_X1_dropItem Λ.2.2 S p0 p1) (fun r : sSt => Sh Λ r) := by
  unfold F_X1_dropItem
  repeat' (first | sp | st1 | ((with_reducible apply tL_X1_dropItem_7) <;> sa))
set_option maxHeartbeats 2000000 in
theorem tF_X1_empty {Λ : sLay} (S : sSt) (hs : Sh Λ S) (p0 : Nat) (tp0 : isK Λ 1 p0) : T (F_X1_empty Λ.2.2 S p0) (fun r : sSt => Sh Λ r) := by
  unfold F_X1_empty
  repeat' (first | sp | st1)
set_option maxHeartbeats 2000000 in
theorem tY_X1_has_2 {Λ : sLay} (S : sSt) (hs : Sh Λ S) {n : Nat} (rec : Nat → Int32 → Int32 → Option Int32) (hrec : ∀ (p0 : Nat) (tp0 : isK Λ 1 p0) (p1 : Int32) (p2 : Int32), (m31 p2 n) → T (rec p0 p1 p2) (fun r : Int32 => True)) (p0 : Nat) (tp0 : isK Λ 1 p0) (p1 : Int32) (p2 : Int32) (f0 : m31 p2 (n + 1)) : T (Y_X1_has_2 Λ.2.2 S rec p0 p1 p2) (fun r : Int32 => True) := by
  unfold Y_X1_has_2
  repeat' (first | sp | st1 | ((with_reducible apply hrec) <;> sa))
theorem tL_X1_has_2 {Λ : sLay} (S : sSt) (hs : Sh Λ S) : ∀ (n : Nat) (p0 : Nat) (tp0 : isK Λ 1 p0) (p1 : Int32) (p2 : Int32) (_ : m31 p2 n), T (L_X1_has_2 Λ.2.2 S n p0 p1 p2) (fun r : Int32 => True) := by
  intro n
  induction n with
  | zero => intro p0 tp0 p1 p2 f0; exact (m31.no f0).elim
  | succ n ih =>
    intro p0 tp0 p1 p2 f0
    exact tY_X1_has_2 S hs  (rec := L_X1_has_2 Λ.2.2 S n) (hrec := ih)  (p0 := p0) (tp0 := tp0) (p1 := p1) (p2 := p2) (f0 := f0)
set_option maxHeartbeats 2000000 in
theorem tF_X1_has {Λ : sLay} (S : sSt) (hs : Sh Λ S) (p0 : Nat) (tp0 : isK Λ 1 p0) (p1 : Int32) : T (F_X1_has Λ.2.2 S p0 p1) (fun r : Int32 => True) := by
  unfold F_X1_has
  repeat' (first | sp | st1 | ((with_reducible apply tL_X1_has_2) <;> sa))
set_option maxHeartbeats 2000000 in
theorem tB_X6_sought_101 {Λ : sLay} (S : sSt) (hs : Sh Λ S) {n44 : Nat} (k44 : sSt → Nat → Int32 → Option (Option Nat × sSt)) (hk44 : ∀ (S : sSt) (hs : Sh Λ S) (p0 : Nat) (tp0 : isK Λ 6 p0) (p1 : Int32), (m31 p1 n44) → T (k44 S p0 p1) (fun r : Option Nat × sSt => Sh Λ r.2 ∧ ∃ a, r.1 = some a ∧ isK Λ 1 a)) (p0 : Nat) (tp0 : isK Λ 6 p0) (p1 : Int32) (f0 : m31 p1 (n44 + 1)) (f1 : b31 p1) : T (B_X6_sought_101 Λ.2.2 k44 S p0 p1) (fun r : Option Nat × sSt => Sh Λ r.2 ∧ ∃ a, r.1 = some a ∧ isK Λ 1 a) := by
  unfold B_X6_sought_101
  repeat' (first | sp | st1 | ((with_reducible apply hk44) <;> sa))
set_option maxHeartbeats 2000000 in
theorem tY_X6_sought_60 {Λ : sLay} (S : sSt) (hs : Sh Λ S) {n44 : Nat} (k44 : sSt → Nat → Int32 → Option (Option Nat × sSt)) (hk44 : ∀ (S : sSt) (hs : Sh Λ S) (p0 : Nat) (tp0 : isK Λ 6 p0) (p1 : Int32), (m31 p1 n44) → T (k44 S p0 p1) (fun r : Option Nat × sSt => Sh Λ r.2 ∧ ∃ a, r.1 = some a ∧ isK Λ 1 a)) {n : Nat} (rec : sSt → Nat → Int32 → (Option Nat) → Int32 → Option (Option Nat × sSt)) (hrec : ∀ (S : sSt) (hs : Sh Λ S) (p0 : Nat) (tp0 : isK Λ 6 p0) (p1 : Int32) (p2 : Option Nat) (tp2 : okK Λ 5 p2) (p3 : Int32), (m31 p3 n) → (m31 p1 (n44 + 1)) → (b31 p1) → T (rec S p0 p1 p2 p3) (fun r : Option Nat × sSt => Sh Λ r.2 ∧ ∃ a, r.1 = some a ∧ isK Λ 1 a)) (p0 : Nat) (tp0 : isK Λ 6 p0) (p1 : Int32) (p2 : Option Nat) (tp2 : okK Λ 5 p2) (p3 : Int32) (f0 : m31 p3 (n + 1)) (f1 : m31 p1 (n44 + 1)) (f2 : b31 p1) : T (Y_X6_sought_60 Λ.2.2 k44 rec S p0 p1 p2 p3) (fun r : Option Nat × sSt => Sh Λ r.2 ∧ ∃ a, r.1 = some a ∧ isK Λ 1 a) := by
  unfold Y_X6_sought_60
  repeat' (first | sp | st1 | ((with_reducible apply tB_X6_sought_101) <;> sa) | (with_reducible refine T_bind (by with_reducible apply tF_X1_length <;> sa) (fun _ hq => ?_)) | ((with_reducible apply tF_X1_length) <;> sa) | (with_reducible refine T_bind (by with_reducible apply tF_X1_at <;> sa) (fun _ hq => ?_)) | ((with_reducible apply tF_X1_at) <;> sa) | (with_reducible refine T_bind (by with_reducible apply tF_X8_keyOf <;> sa) (fun _ hq => ?_)) | ((with_reducible apply tF_X8_keyOf) <;> sa) | (with_reducible refine T_obdI (by with_reducible apply tF_X1_append <;> sa) (fun _ _ _ => ?_)) | ((with_reducible apply tF_X1_append) <;> sa) | ((with_reducible apply hk44) <;> sa) | ((with_reducible apply hrec) <;> sa))
theorem tL_X6_sought_60 {Λ : sLay} {n44 : Nat} (k44 : sSt → Nat → Int32 → Option (Option Nat × sSt)) (hk44 : ∀ (S : sSt) (hs : Sh Λ S) (p0 : Nat) (tp0 : isK Λ 6 p0) (p1 : Int32), (m31 p1 n44) → T (k44 S p0 p1) (fun r : Option Nat × sSt => Sh Λ r.2 ∧ ∃ a, r.1 = some a ∧ isK Λ 1 a)) : ∀ (n : Nat) (S : sSt) (hs : Sh Λ S) (p0 : Nat) (tp0 : isK Λ 6 p0) (p1 : Int32) (p2 : Option Nat) (tp2 : okK Λ 5 p2) (p3 : Int32) (_ : m31 p3 n) (_ : m31 p1 (n44 + 1)) (_ : b31 p1), T (L_X6_sought_60 Λ.2.2 k44 n S p0 p1 p2 p3) (fun r : Option Nat × sSt => Sh Λ r.2 ∧ ∃ a, r.1 = some a ∧ isK Λ 1 a) := by
  intro n
  induction n with
  | zero => intro S hs p0 tp0 p1 p2 tp2 p3 f0 f1 f2; exact (m31.no f0).elim
  | succ n ih =>
    intro S hs p0 tp0 p1 p2 tp2 p3 f0 f1 f2
    exact tY_X6_sought_60 S hs  (rec := L_X6_sought_60 Λ.2.2 k44 n) (hrec := ih) (k44 := k44) (hk44 := hk44) (p0 := p0) (tp0 := tp0) (p1 := p1) (p2 := p2) (tp2 := tp2) (p3 := p3) (f0 := f0) (f1 := f1) (f2 := f2)
set_option maxHeartbeats 2000000 in
theorem tY_X6_sought_44 {Λ : sLay} (S : sSt) (hs : Sh Λ S) {n : Nat} (rec : sSt → Nat → Int32 → Option (Option Nat × sSt)) (hrec : ∀ (S : sSt) (hs : Sh Λ S) (p0 : Nat) (tp0 : isK Λ 6 p0) (p1 : Int32), (m31 p1 n) → T (rec S p0 p1) (fun r : Option Nat × sSt => Sh Λ r.2 ∧ ∃ a, r.1 = some a ∧ isK Λ 1 a)) (p0 : Nat) (tp0 : isK Λ 6 p0) (p1 : Int32) (f0 : m31 p1 (n + 1)) : T (Y_X6_sought_44 Λ.2.2 rec S p0 p1) (fun r : Option Nat × sSt => Sh Λ r.2 ∧ ∃ a, r.1 = some a ∧ isK Λ 1 a) := by
  unfold Y_X6_sought_44
  repeat' (first | sp | st1 | (with_reducible refine T_bind (by with_reducible apply tF_X6_thingAt <;> sa) (fun _ hq => ?_)) | ((with_reducible apply tF_X6_thingAt) <;> sa) | ((with_reducible apply tL_X6_sought_60) <;> sa) | ((with_reducible apply hrec) <;> sa))
theorem tL_X6_sought_44 {Λ : sLay} : ∀ (n : Nat) (S : sSt) (hs : Sh Λ S) (p0 : Nat) (tp0 : isK Λ 6 p0) (p1 : Int32) (_ : m31 p1 n), T (L_X6_sought_44 Λ.2.2 n S p0 p1) (fun r : Option Nat × sSt => Sh Λ r.2 ∧ ∃ a, r.1 = some a ∧ isK Λ 1 a) := by
  intro n
  induction n with
  | zero => intro S hs p0 tp0 p1 f0; exact (m31.no f0).elim
  | succ n ih =>
    intro S hs p0 tp0 p1 f0
    exact tY_X6_sought_44 S hs  (rec := L_X6_sought_44 Λ.2.2 n) (hrec := ih)  (p0 := p0) (tp0 := tp0) (p1 := p1) (f0 := f0)
set_option maxHeartbeats 2000000 in
theorem tY_X6_sought_9 {Λ : sLay} (S : sSt) (hs : Sh Λ S) {n : Nat} (rec : sSt → Nat → Int32 → Option (Option Nat × sSt)) (hrec : ∀ (S : sSt) (hs : Sh Λ S) (p0 : Nat) (tp0 : isK Λ 6 p0) (p1 : Int32), (m31 p1 n) → T (rec S p0 p1) (fun r : Option Nat × sSt => Sh Λ r.2 ∧ ∃ a, r.1 = some a ∧ isK Λ 1 a)) (p0 : Nat) (tp0 : isK Λ 6 p0) (p1 : Int32) (f0 : m31 p1 (n + 1)) : T (Y_X6_sought_9 Λ.2.2 rec S p0 p1) (fun r : Option Nat × sSt => Sh Λ r.2 ∧ ∃ a, r.1 = some a ∧ isK Λ 1 a) := by
  unfold Y_X6_sought_9
  repeat' (first | sp | st1 | (with_reducible refine T_bind (by with_reducible apply tF_X1_length <;> sa) (fun _ hq => ?_)) | ((with_reducible apply tF_X1_length) <;> sa) | ((with_reducible apply tL_X6_sought_44) <;> sa) | (with_reducible refine T_bind (by with_reducible apply tF_X1_at <;> sa) (fun _ hq => ?_)) | ((with_reducible apply tF_X1_at) <;> sa) | (with_reducible refine T_obdI (by with_reducible apply tF_X1_append <;> sa) (fun _ _ _ => ?_)) | ((with_reducible apply tF_X1_append) <;> sa) | ((with_reducible apply hrec) <;> sa))
theorem tL_X6_sought_9 {Λ : sLay} : ∀ (n : Nat) (S : sSt) (hs : Sh Λ S) (p0 : Nat) (tp0 : isK Λ 6 p0) (p1 : Int32) (_ : m31 p1 n), T (L_X6_sought_9 Λ.2.2 n S p0 p1) (fun r : Option Nat × sSt => Sh Λ r.2 ∧ ∃ a, r.1 = some a ∧ isK Λ 1 a) := by
  intro n
  induction n with
  | zero => intro S hs p0 tp0 p1 f0; exact (m31.no f0).elim
  | succ n ih =>
    intro S hs p0 tp0 p1 f0
    exact tY_X6_sought_9 S hs  (rec := L_X6_sought_9 Λ.2.2 n) (hrec := ih)  (p0 := p0) (tp0 := tp0) (p1 := p1) (f0 := f0)
set_option maxHeartbeats 2000000 in
theorem tF_X6_sought {Λ : sLay} (S : sSt) (hs : Sh Λ S) (p0 : Nat) (tp0 : isK Λ 6 p0) : T (F_X6_sought Λ.2.2 S p0) (fun r : Option Nat × sSt => Sh Λ r.2 ∧ ∃ a, r.1 = some a ∧ isK Λ 1 a) := by
  unfold F_X6_sought
  repeat' (first | sp | st1 | (with_reducible refine T_bind (by with_reducible apply tF_X1_empty <;> sa) (fun _ hq => ?_)) | ((with_reducible apply tF_X1_empty) <;> sa) | ((with_reducible apply tL_X6_sought_9) <;> sa))
set_option maxHeartbeats 2000000 in
theorem tB_X7_nextTo_67 {Λ : sLay} (S : sSt) (hs : Sh Λ S) {n28 : Nat} (k28 : sSt → Nat → Nat → (Option Nat) → Int32 → Int32 → Option (Int32 × sSt)) (hk28 : ∀ (S : sSt) (hs : Sh Λ S) (p0 : Nat) (tp0 : isK Λ 7 p0) (p1 : Nat) (tp1 : isK Λ 6 p1) (p2 : Nat) (tp2 : isK Λ 1 p2) (p3 : Int32) (p4 : Int32), (m31 p4 n28) → T (k28 S p0 p1 (some p2) p3 p4) (fun r : Int32 × sSt => Sh Λ r.2)) (p0 : Nat) (tp0 : isK Λ 7 p0) (p1 : Nat) (tp1 : isK Λ 6 p1) (p2 : Nat) (tp2 : isK Λ 1 p2) (p4 : Int32) (s0 : Int32) (s1 : Int32) (f0 : m31 p4 (n28 + 1)) (f1 : b31 p4) : T (B_X7_nextTo_67 Λ.2.2 k28 S p0 p1 p2 p4 s0 s1) (fun r : Int32 × sSt => Sh Λ r.2) := by
  unfold B_X7_nextTo_67
  repeat' (first | sp | st1 | ((with_reducible apply hk28) <;> sa))
set_option maxHeartbeats 2000000 in
theorem tY_X7_nextTo_28 {Λ : sLay} (S : sSt) (hs : Sh Λ S) {n : Nat} (rec : sSt → Nat → Nat → (Option Nat) → Int32 → Int32 → Option (Int32 × sSt)) (hrec : ∀ (S : sSt) (hs : Sh Λ S) (p0 : Nat) (tp0 : isK Λ 7 p0) (p1 : Nat) (tp1 : isK Λ 6 p1) (p2 : Nat) (tp2 : isK Λ 1 p2) (p3 : Int32) (p4 : Int32), (m31 p4 n) → T (rec S p0 p1 (some p2) p3 p4) (fun r : Int32 × sSt => Sh Λ r.2)) (p0 : Nat) (tp0 : isK Λ 7 p0) (p1 : Nat) (tp1 : isK Λ 6 p1) (p2 : Nat) (tp2 : isK Λ 1 p2) (p3 : Int32) (p4 : Int32) (f0 : m31 p4 (n + 1)) : T (Y_X7_nextTo_28 Λ.2.2 rec S p0 p1 (some p2) p3 p4) (fun r : Int32 × sSt => Sh Λ r.2) := by
  unfold Y_X7_nextTo_28
  repeat' (first | sp | st1 | (with_reducible refine T_bind (by with_reducible apply tF_X1_length <;> sa) (fun _ hq => ?_)) | ((with_reducible apply tF_X1_length) <;> sa) | (with_reducible refine T_bind (by with_reducible apply tF_X1_at <;> sa) (fun _ hq => ?_)) | ((with_reducible apply tF_X1_at) <;> sa) | (with_reducible refine T_bind (by with_reducible apply tF_X7_lookFrom <;> sa) (fun _ hq => ?_)) | ((with_reducible apply tF_X7_lookFrom) <;> sa) | ((with_reducible apply tB_X7_nextTo_67) <;> sa) | ((with_reducible apply hrec) <;> sa))
theorem tL_X7_nextTo_28 {Λ : sLay} : ∀ (n : Nat) (S : sSt) (hs : Sh Λ S) (p0 : Nat) (tp0 : isK Λ 7 p0) (p1 : Nat) (tp1 : isK Λ 6 p1) (p2 : Nat) (tp2 : isK Λ 1 p2) (p3 : Int32) (p4 : Int32) (_ : m31 p4 n), T (L_X7_nextTo_28 Λ.2.2 n S p0 p1 (some p2) p3 p4) (fun r : Int32 × sSt => Sh Λ r.2) := by
  intro n
  induction n with
  | zero => intro S hs p0 tp0 p1 tp1 p2 tp2 p3 p4 f0; exact (m31.no f0).elim
  | succ n ih =>
    intro S hs p0 tp0 p1 tp1 p2 tp2 p3 p4 f0
    exact tY_X7_nextTo_28 S hs  (rec := L_X7_nextTo_28 Λ.2.2 n) (hrec := ih)  (p0 := p0) (tp0 := tp0) (p1 := p1) (tp1 := tp1) (p2 := p2) (tp2 := tp2) (p3 := p3) (p4 := p4) (f0 := f0)
set_option maxHeartbeats 2000000 in
theorem tB_X7_nextTo_24 {Λ : sLay} (S : sSt) (hs : Sh Λ S) (p0 : Nat) (tp0 : isK Λ 7 p0) (p1 : Nat) (tp1 : isK Λ 6 p1) (p2 : Nat) (tp2 : isK Λ 1 p2) (s0 : Int32) : T (B_X7_nextTo_24 Λ.2.2 S p0 p1 (some p2) s0) (fun r : Int32 × sSt => Sh Λ r.2) := by
  unfold B_X7_nextTo_24
  repeat' (first | sp | st1 | ((with_reducible apply tL_X7_nextTo_28) <;> sa))
set_option maxHeartbeats 2000000 in
theorem tF_X7_nextTo {Λ : sLay} (S : sSt) (hs : Sh Λ S) (p0 : Nat) (tp0 : isK Λ 7 p0) (p1 : Nat) (tp1 : isK Λ 6 p1) : T (F_X7_nextTo Λ.2.2 S p0 (some p1)) (fun r : Int32 × sSt => Sh Λ r.2) := by
  unfold F_X7_nextTo
  repeat' (first | sp | st1 | (with_reducible refine T_obdR (by with_reducible apply tF_X6_sought <;> sa) (fun _ _ _ _ => ?_)) | ((with_reducible apply tF_X6_sought) <;> sa) | ((with_reducible apply tB_X7_nextTo_24) <;> sa))
set_option maxHeartbeats 2000000 in
theorem tB_X2_findReach_92 {Λ : sLay} (S : sSt) (hs : Sh Λ S) {n44 : Nat} (k44 : sSt → Nat → Int32 → Option sSt) (hk44 : ∀ (S : sSt) (hs : Sh Λ S) (p0 : Nat) (tp0 : isK Λ 2 p0) (p2 : Int32), (m31 p2 n44) → T (k44 S p0 p2) (fun r : sSt => Sh Λ r)) {n55 : Nat} (k55 : sSt → Nat → Int32 → Int32 → Option sSt) (hk55 : ∀ (S : sSt) (hs : Sh Λ S) (p0 : Nat) (tp0 : isK Λ 2 p0) (p2 : Int32) (p3 : Int32), (m31 p3 n55) → (∀ t, gFR S 80 p0 = some t → vp_in p2 (Λ.2.2 t)) → (m31 p2 (n44 + 1)) → (b31 p2) → T (k55 S p0 p2 p3) (fun r : sSt => Sh Λ r)) (p0 : Nat) (tp0 : isK Λ 2 p0) (p2 : Int32) (p3 : Int32) (f0 : m31 p2 (n44 + 1)) (f1 : b31 p2) (f2 : ∀ t, gFR S 80 p0 = some t → vp_in p2 (Λ.2.2 t)) (f3 : m31 p3 (n55 + 1)) (f4 : b31 p3) : T (B_X2_findReach_92 Λ.2.2 k44 k55 S p0 p2 p3) (fun r : sSt => Sh Λ r) := by
  unfold B_X2_findReach_92
  repeat' (first | sp | st1 | ((with_reducible apply hk44) <;> sa) | ((with_reducible apply hk55) <;> sa))
set_option maxHeartbeats 2000000 in
theorem tY_X2_findReach_55 {Λ : sLay} (S : sSt) (hs : Sh Λ S) {n44 : Nat} (k44 : sSt → Nat → Int32 → Option sSt) (hk44 : ∀ (S : sSt) (hs : Sh Λ S) (p0 : Nat) (tp0 : isK Λ 2 p0) (p2 : Int32), (m31 p2 n44) → T (k44 S p0 p2) (fun r : sSt => Sh Λ r)) {n : Nat} (rec : sSt → Nat → Int32 → Int32 → Option sSt) (hrec : ∀ (S : sSt) (hs : Sh Λ S) (p0 : Nat) (tp0 : isK Λ 2 p0) (p2 : Int32) (p3 : Int32), (m31 p3 n) → (∀ t, gFR S 80 p0 = some t → vp_in p2 (Λ.2.2 t)) → (m31 p2 (n44 + 1)) → (b31 p2) → T (rec S p0 p2 p3) (fun r : sSt => Sh Λ r)) (p0 : Nat) (tp0 : isK Λ 2 p0) (p2 : Int32) (p3 : Int32) (f0 : m31 p3 (n + 1)) (f1 : ∀ t, gFR S 80 p0 = some t → vp_in p2 (Λ.2.2 t)) (f2 : m31 p2 (n44 + 1)) (f3 : b31 p2) : T (Y_X2_findReach_55 Λ.2.2 k44 rec S p0 p2 p3) (fun r : sSt => Sh Λ r) := by
  unfold Y_X2_findReach_55
  refine T_R80 hs tp0 (fun b e tb => T_bsome (T_ite (fun _ => ?_) (fun c1 => T_bndE e (T_bsome (T_gi (vp_c hs tb (m31.nn ‹m31 p3 (n + 1)›) c1) (T_ite (fun _ => ?_) (fun _ => T_bndE e (T_bsome (T_gi (vp_c hs tb (m31.nn ‹m31 p3 (n + 1)›) c1) (T_bndE e (T_bsome (T_gi (‹∀ t, gFR S 80 p0 = some t → vp_in p2 (Λ.2.2 t)› b e) (T_gi (vp_c hs tb (m31.nn ‹m31 p3 (n + 1)›) c1) (T_bnd ?_))))))))))))))
  · with_reducible apply hk44 <;> sa
  · with_reducible apply tB_X2_findReach_92 <;> sa
  · have h2 := hs.sAI b p3.toNatClampNeg (gAI S b p3.toNatClampNeg ||| gAI S b p2.toNatClampNeg)
    have h3 : ∀ t, gFR (sAI S b p3.toNatClampNeg (gAI S b p3.toNatClampNeg ||| gAI S b p2.toNatClampNeg)) 80 p0 = some t → vp_in p2 (Λ.2.2 t) := ‹∀ t, gFR S 80 p0 = some t → vp_in p2 (Λ.2.2 t)›
    with_reducible apply tB_X2_findReach_92 <;> sa
theorem tL_X2_findReach_55 {Λ : sLay} {n44 : Nat} (k44 : sSt → Nat → Int32 → Option sSt) (hk44 : ∀ (S : sSt) (hs : Sh Λ S) (p0 : Nat) (tp0 : isK Λ 2 p0) (p2 : Int32), (m31 p2 n44) → T (k44 S p0 p2) (fun r : sSt => Sh Λ r)) : ∀ (n : Nat) (S : sSt) (hs : Sh Λ S) (p0 : Nat) (tp0 : isK Λ 2 p0) (p2 : Int32) (p3 : Int32) (_ : m31 p3 n) (_ : ∀ t, gFR S 80 p0 = some t → vp_in p2 (Λ.2.2 t)) (_ : m31 p2 (n44 + 1)) (_ : b31 p2), T (L_X2_findReach_55 Λ.2.2 k44 n S p0 p2 p3) (fun r : sSt => Sh Λ r) := by
  intro n
  induction n with
  | zero => intro S hs p0 tp0 p2 p3 f0 f1 f2 f3; exact (m31.no f0).elim
  | succ n ih =>
    intro S hs p0 tp0 p2 p3 f0 f1 f2 f3
    exact tY_X2_findReach_55 S hs  (rec := L_X2_findReach_55 Λ.2.2 k44 n) (hrec := ih) (k44 := k44) (hk44 := hk44) (p0 := p0) (tp0 := tp0) (p2 := p2) (p3 := p3) (f0 := f0) (f1 := f1) (f2 := f2) (f3 := f3)
set_option maxHeartbeats 2000000 in
theorem tY_X2_findReach_44 {Λ : sLay} (S : sSt) (hs : Sh Λ S) {n : Nat} (rec : sSt → Nat → Int32 → Option sSt) (hrec : ∀ (S : sSt) (hs : Sh Λ S) (p0 : Nat) (tp0 : isK Λ 2 p0) (p2 : Int32), (m31 p2 n) → T (rec S p0 p2) (fun r : sSt => Sh Λ r)) (p0 : Nat) (tp0 : isK Λ 2 p0) (p2 : Int32) (f0 : m31 p2 (n + 1)) : T (Y_X2_findReach_44 Λ.2.2 rec S p0 p2) (fun r : sSt => Sh Λ r) := by
  unfold Y_X2_findReach_44
  repeat' (first | sp | st1 | ((with_reducible apply tL_X2_findReach_55) <;> sa) | ((with_reducible apply hrec) <;> sa))
theorem tL_X2_findReach_44 {Λ : sLay} : ∀ (n : Nat) (S : sSt) (hs : Sh Λ S) (p0 : Nat) (tp0 : isK Λ 2 p0) (p2 : Int32) (_ : m31 p2 n), T (L_X2_findReach_44 Λ.2.2 n S p0 p2) (fun r : sSt => Sh Λ r) := by
  intro n
  induction n with
  | zero => intro S hs p0 tp0 p2 f0; exact (m31.no f0).elim
  | succ n ih =>
    intro S hs p0 tp0 p2 f0
    exact tY_X2_findReach_44 S hs  (rec := L_X2_findReach_44 Λ.2.2 n) (hrec := ih)  (p0 := p0) (tp0 := tp0) (p2 := p2) (f0 := f0)
set_option maxHeartbeats 2000000 in
theorem tB_X2_findReach_35 {Λ : sLay} (S : sSt) (hs : Sh Λ S) {n2 : Nat} (k2 : sSt → Nat → (Option Nat) → Int32 → Option sSt) (hk2 : ∀ (S : sSt) (hs : Sh Λ S) (p0 : Nat) (tp0 : isK Λ 2 p0) (p1 : Nat) (tp1 : isK Λ 7 p1) (p2 : Int32), (m31 p2 n2) → T (k2 S p0 (some p1) p2) (fun r : sSt => Sh Λ r)) (p0 : Nat) (tp0 : isK Λ 2 p0) (p1 : Nat) (tp1 : isK Λ 7 p1) (p2 : Int32) (s0 : Int32) (s1 : Int32) (s2 : Nat) (ts2 : isK Λ 10 s2) (f0 : m31 p2 (n2 + 1)) (f1 : b31 p2) (f2 : vp_in s1 (Λ.2.2 s2)) : T (B_X2_findReach_35 Λ.2.2 k2 S p0 p1 p2 s0 s1 (some s2)) (fun r : sSt => Sh Λ r) := by
  unfold B_X2_findReach_35
  repeat' (first | sp | st1 | ((with_reducible apply hk2) <;> sa))
set_option maxHeartbeats 2000000 in
theorem tY_X2_findReach_2 {Λ : sLay} (S : sSt) (hs : Sh Λ S) {n : Nat} (rec : sSt → Nat → (Option Nat) → Int32 → Option sSt) (hrec : ∀ (S : sSt) (hs : Sh Λ S) (p0 : Nat) (tp0 : isK Λ 2 p0) (p1 : Nat) (tp1 : isK Λ 7 p1) (p2 : Int32), (m31 p2 n) → T (rec S p0 (some p1) p2) (fun r : sSt => Sh Λ r)) (p0 : Nat) (tp0 : isK Λ 2 p0) (p1 : Nat) (tp1 : isK Λ 7 p1) (p2 : Int32) (f0 : m31 p2 (n + 1)) : T (Y_X2_findReach_2 Λ.2.2 rec S p0 (some p1) p2) (fun r : sSt => Sh Λ r) := by
  unfold Y_X2_findReach_2
  repeat' (first | sp | st1 | ((with_reducible apply tL_X2_findReach_44) <;> sa) | (with_reducible refine T_bind (by with_reducible apply tF_X7_at <;> sa) (fun _ hq => ?_)) | ((with_reducible apply tF_X7_at) <;> sa) | ((with_reducible apply tB_X2_findReach_35) <;> sa) | (with_reducible refine T_obdI (by with_reducible apply tF_X7_nextTo <;> sa) (fun _ _ _ => ?_)) | ((with_reducible apply tF_X7_nextTo) <;> sa) | ((with_reducible apply hrec) <;> sa))
theorem tL_X2_findReach_2 {Λ : sLay} : ∀ (n : Nat) (S : sSt) (hs : Sh Λ S) (p0 : Nat) (tp0 : isK Λ 2 p0) (p1 : Nat) (tp1 : isK Λ 7 p1) (p2 : Int32) (_ : m31 p2 n), T (L_X2_findReach_2 Λ.2.2 n S p0 (some p1) p2) (fun r : sSt => Sh Λ r) := by
  intro n
  induction n with
  | zero => intro S hs p0 tp0 p1 tp1 p2 f0; exact (m31.no f0).elim
  | succ n ih =>
    intro S hs p0 tp0 p1 tp1 p2 f0
    exact tY_X2_findReach_2 S hs  (rec := L_X2_findReach_2 Λ.2.2 n) (hrec := ih)  (p0 := p0) (tp0 := tp0) (p1 := p1) (tp1 := tp1) (p2 := p2) (f0 := f0)
set_option maxHeartbeats 2000000 in
theorem tF_X2_findReach {Λ : sLay} (S : sSt) (hs : Sh Λ S) (p0 : Nat) (tp0 : isK Λ 2 p0) (p1 : Nat) (tp1 : isK Λ 7 p1) : T (F_X2_findReach Λ.2.2 S p0 (some p1)) (fun r : sSt => Sh Λ r) := by
  unfold F_X2_findReach
  repeat' (first | sp | st1 | ((with_reducible apply tL_X2_findReach_2) <;> sa))
set_option maxHeartbeats 2000000 in
theorem tF_X2_reachOf {Λ : sLay} (S : sSt) (hs : Sh Λ S) (p0 : Nat) (tp0 : isK Λ 2 p0) (p1 : Int32) : T (F_X2_reachOf Λ.2.2 S p0 p1) (fun r : Int32 => True) := by
  unfold F_X2_reachOf
  repeat' (first | sp | st1)
set_option maxHeartbeats 2000000 in
theorem tB_X2_ringAround_46 {Λ : sLay} (S : sSt) (hs : Sh Λ S) {n6 : Nat} (k6 : Nat → Int32 → Int32 → Int32 → Option Int32) (hk6 : ∀ (p0 : Nat) (tp0 : isK Λ 2 p0) (p1 : Int32) (p2 : Int32) (p3 : Int32), (m31 p3 n6) → T (k6 p0 p1 p2 p3) (fun r : Int32 => True)) (p0 : Nat) (tp0 : isK Λ 2 p0) (p1 : Int32) (p2 : Int32) (p3 : Int32) (f0 : m31 p3 (n6 + 1)) (f1 : b31 p3) : T (B_X2_ringAround_46 Λ.2.2 S k6 p0 p1 p2 p3) (fun r : Int32 => True) := by
  unfold B_X2_ringAround_46
  repeat' (first | sp | st1 | ((with_reducible apply hk6) <;> sa))
set_option maxHeartbeats 2000000 in
theorem tY_X2_ringAround_6 {Λ : sLay} (S : sSt) (hs : Sh Λ S) {n : Nat} (rec : Nat → Int32 → Int32 → Int32 → Option Int32) (hrec : ∀ (p0 : Nat) (tp0 : isK Λ 2 p0) (p1 : Int32) (p2 : Int32) (p3 : Int32), (m31 p3 n) → T (rec p0 p1 p2 p3) (fun r : Int32 => True)) (p0 : Nat) (tp0 : isK Λ 2 p0) (p1 : Int32) (p2 : Int32) (p3 : Int32) (f0 : m31 p3 (n + 1)) : T (Y_X2_ringAround_6 Λ.2.2 S rec p0 p1 p2 p3) (fun r : Int32 => True) := by
  unfold Y_X2_ringAround_6
  repeat' (first | sp | st1 | (with_reducible refine T_bind (by with_reducible apply tF_X2_reachOf <;> sa) (fun _ hq => ?_)) | ((with_reducible apply tF_X2_reachOf) <;> sa) | ((with_reducible apply tB_X2_ringAround_46) <;> sa) | ((with_reducible apply hrec) <;> sa))
theorem tL_X2_ringAround_6 {Λ : sLay} (S : sSt) (hs : Sh Λ S) : ∀ (n : Nat) (p0 : Nat) (tp0 : isK Λ 2 p0) (p1 : Int32) (p2 : Int32) (p3 : Int32) (_ : m31 p3 n), T (L_X2_ringAround_6 Λ.2.2 S n p0 p1 p2 p3) (fun r : Int32 => True) := by
  intro n
  induction n with
  | zero => intro p0 tp0 p1 p2 p3 f0; exact (m31.no f0).elim
  | succ n ih =>
    intro p0 tp0 p1 p2 p3 f0
    exact tY_X2_ringAround_6 S hs  (rec := L_X2_ringAround_6 Λ.2.2 S n) (hrec := ih)  (p0 := p0) (tp0 := tp0) (p1 := p1) (p2 := p2) (p3 := p3) (f0 := f0)
set_option maxHeartbeats 2000000 in
theorem tF_X2_ringAround {Λ : sLay} (S : sSt) (hs : Sh Λ S) (p0 : Nat) (tp0 : isK Λ 2 p0) (p1 : Int32) : T (F_X2_ringAround Λ.2.2 S p0 p1) (fun r : Int32 => True) := by
  unfold F_X2_ringAround
  repeat' (first | sp | st1 | ((with_reducible apply tL_X2_ringAround_6) <;> sa))
set_option maxHeartbeats 2000000 in
theorem tF_J6_bitCount_0f7a4 {Λ : sLay} (S : sSt) (hs : Sh Λ S) (p0 : Int32) : T (F_J6_bitCount_0f7a4 Λ.2.2 S p0) (fun r : Int32 => True) := by
  unfold F_J6_bitCount_0f7a4
  repeat' (first | sp | st1)
set_option maxHeartbeats 2000000 in
theorem tB_X2_place_38 {Λ : sLay} (S : sSt) (hs : Sh Λ S) {n2 : Nat} (k2 : sSt → Nat → Int32 → Int32 → Option sSt) (hk2 : ∀ (S : sSt) (hs : Sh Λ S) (p0 : Nat) (tp0 : isK Λ 2 p0) (p1 : Int32) (p2 : Int32), (m31 p2 n2) → T (k2 S p0 p1 p2) (fun r : sSt => Sh Λ r)) (p0 : Nat) (tp0 : isK Λ 2 p0) (p1 : Int32) (p2 : Int32) (f0 : m31 p2 (n2 + 1)) (f1 : b31 p2) : T (B_X2_place_38 Λ.2.2 k2 S p0 p1 p2) (fun r : sSt => Sh Λ r) := by
  unfold B_X2_place_38
  repeat' (first | sp | st1 | ((with_reducible apply hk2) <;> sa))
set_option maxHeartbeats 2000000 in
theorem tY_X2_place_2 {Λ : sLay} (S : sSt) (hs : Sh Λ S) {n : Nat} (rec : sSt → Nat → Int32 → Int32 → Option sSt) (hrec : ∀ (S : sSt) (hs : Sh Λ S) (p0 : Nat) (tp0 : isK Λ 2 p0) (p1 : Int32) (p2 : Int32), (m31 p2 n) → T (rec S p0 p1 p2) (fun r : sSt => Sh Λ r)) (p0 : Nat) (tp0 : isK Λ 2 p0) (p1 : Int32) (p2 : Int32) (f0 : m31 p2 (n + 1)) : T (Y_X2_place_2 Λ.2.2 rec S p0 p1 p2) (fun r : sSt => Sh Λ r) := by
  unfold Y_X2_place_2
  repeat' (first | sp | st1 | (with_reducible refine T_bind (by with_reducible apply tF_J6_bitCount_0f7a4 <;> sa) (fun _ hq => ?_)) | ((with_reducible apply tF_J6_bitCount_0f7a4) <;> sa) | ((with_reducible apply tB_X2_place_38) <;> sa) | (with_reducible refine T_obdI (by with_reducible apply tF_X1_append <;> sa) (fun _ _ _ => ?_)) | ((with_reducible apply tF_X1_append) <;> sa) | ((with_reducible apply hrec) <;> sa))
theorem tL_X2_place_2 {Λ : sLay} : ∀ (n : Nat) (S : sSt) (hs : Sh Λ S) (p0 : Nat) (tp0 : isK Λ 2 p0) (p1 : Int32) (p2 : Int32) (_ : m31 p2 n), T (L_X2_place_2 Λ.2.2 n S p0 p1 p2) (fun r : sSt => Sh Λ r) := by
  intro n
  induction n with
  | zero => intro S hs p0 tp0 p1 p2 f0; exact (m31.no f0).elim
  | succ n ih =>
    intro S hs p0 tp0 p1 p2 f0
    exact tY_X2_place_2 S hs  (rec := L_X2_place_2 Λ.2.2 n) (hrec := ih)  (p0 := p0) (tp0 := tp0) (p1 := p1) (p2 := p2) (f0 := f0)
set_option maxHeartbeats 2000000 in
theorem tF_X2_place {Λ : sLay} (S : sSt) (hs : Sh Λ S) (p0 : Nat) (tp0 : isK Λ 2 p0) (p1 : Int32) : T (F_X2_place Λ.2.2 S p0 p1) (fun r : sSt => Sh Λ r) := by
  unfold F_X2_place
  repeat' (first | sp | st1 | ((with_reducible apply tL_X2_place_2) <;> sa))
set_option maxHeartbeats 2000000 in
theorem tB_X2_placeNext_47 {Λ : sLay} (S : sSt) (hs : Sh Λ S) {n2 : Nat} (k2 : sSt → Nat → Int32 → Int32 → Option (Int32 × sSt)) (hk2 : ∀ (S : sSt) (hs : Sh Λ S) (p0 : Nat) (tp0 : isK Λ 2 p0) (p1 : Int32) (p2 : Int32), (m31 p2 n2) → T (k2 S p0 p1 p2) (fun r : Int32 × sSt => Sh Λ r.2)) (p0 : Nat) (tp0 : isK Λ 2 p0) (p1 : Int32) (p2 : Int32) (f0 : m31 p2 (n2 + 1)) (f1 : b31 p2) : T (B_X2_placeNext_47 Λ.2.2 k2 S p0 p1 p2) (fun r : Int32 × sSt => Sh Λ r.2) := by
  unfold B_X2_placeNext_47
  repeat' (first | sp | st1 | ((with_reducible apply hk2) <;> sa))
set_option maxHeartbeats 2000000 in
theorem tY_X2_placeNext_2 {Λ : sLay} (S : sSt) (hs : Sh Λ S) {n : Nat} (rec : sSt → Nat → Int32 → Int32 → Option (Int32 × sSt)) (hrec : ∀ (S : sSt) (hs : Sh Λ S) (p0 : Nat) (tp0 : isK Λ 2 p0) (p1 : Int32) (p2 : Int32), (m31 p2 n) → T (rec S p0 p1 p2) (fun r : Int32 × sSt => Sh Λ r.2)) (p0 : Nat) (tp0 : isK Λ 2 p0) (p1 : Int32) (p2 : Int32) (f0 : m31 p2 (n + 1)) : T (Y_X2_placeNext_2 Λ.2.2 rec S p0 p1 p2) (fun r : Int32 × sSt => Sh Λ r.2) := by
  unfold Y_X2_placeNext_2
  repeat' (first | sp | st1 | (with_reducible refine T_bind (by with_reducible apply tF_X2_ringAround <;> sa) (fun _ hq => ?_)) | ((with_reducible apply tF_X2_ringAround) <;> sa) | ((with_reducible apply tB_X2_placeNext_47) <;> sa) | (with_reducible refine T_bind (by with_reducible apply tF_X2_place <;> sa) (fun _ hq => ?_)) | ((with_reducible apply tF_X2_place) <;> sa) | ((with_reducible apply hrec) <;> sa))
theorem tL_X2_placeNext_2 {Λ : sLay} : ∀ (n : Nat) (S : sSt) (hs : Sh Λ S) (p0 : Nat) (tp0 : isK Λ 2 p0) (p1 : Int32) (p2 : Int32) (_ : m31 p2 n), T (L_X2_placeNext_2 Λ.2.2 n S p0 p1 p2) (fun r : Int32 × sSt => Sh Λ r.2) := by
  intro n
  induction n with
  | zero => intro S hs p0 tp0 p1 p2 f0; exact (m31.no f0).elim
  | succ n ih =>
    intro S hs p0 tp0 p1 p2 f0
    exact tY_X2_placeNext_2 S hs  (rec := L_X2_placeNext_2 Λ.2.2 n) (hrec := ih)  (p0 := p0) (tp0 := tp0) (p1 := p1) (p2 := p2) (f0 := f0)
set_option maxHeartbeats 2000000 in
theorem tF_X2_placeNext {Λ : sLay} (S : sSt) (hs : Sh Λ S) (p0 : Nat) (tp0 : isK Λ 2 p0) (p1 : Int32) : T (F_X2_placeNext Λ.2.2 S p0 p1) (fun r : Int32 × sSt => Sh Λ r.2) := by
  unfold F_X2_placeNext
  repeat' (first | sp | st1 | ((with_reducible apply tL_X2_placeNext_2) <;> sa))
set_option maxHeartbeats 2000000 in
theorem tY_X2_arrange_61 {Λ : sLay} (S : sSt) (hs : Sh Λ S) {n : Nat} (rec : sSt → Nat → Int32 → Int32 → Option sSt) (hrec : ∀ (S : sSt) (hs : Sh Λ S) (p0 : Nat) (tp0 : isK Λ 2 p0) (p2 : Int32) (p3 : Int32), (m31 p3 n) → T (rec S p0 p2 p3) (fun r : sSt => Sh Λ r)) (p0 : Nat) (tp0 : isK Λ 2 p0) (p2 : Int32) (p3 : Int32) (f0 : m31 p3 (n + 1)) : T (Y_X2_arrange_61 Λ.2.2 rec S p0 p2 p3) (fun r : sSt => Sh Λ r) := by
  unfold Y_X2_arrange_61
  repeat' (first | sp | st1 | (with_reducible refine T_obdI (by with_reducible apply tF_X2_placeNext <;> sa) (fun _ _ _ => ?_)) | ((with_reducible apply tF_X2_placeNext) <;> sa) | ((with_reducible apply hrec) <;> sa))
theorem tL_X2_arrange_61 {Λ : sLay} : ∀ (n : Nat) (S : sSt) (hs : Sh Λ S) (p0 : Nat) (tp0 : isK Λ 2 p0) (p2 : Int32) (p3 : Int32) (_ : m31 p3 n), T (L_X2_arrange_61 Λ.2.2 n S p0 p2 p3) (fun r : sSt => Sh Λ r) := by
  intro n
  induction n with
  | zero => intro S hs p0 tp0 p2 p3 f0; exact (m31.no f0).elim
  | succ n ih =>
    intro S hs p0 tp0 p2 p3 f0
    exact tY_X2_arrange_61 S hs  (rec := L_X2_arrange_61 Λ.2.2 n) (hrec := ih)  (p0 := p0) (tp0 := tp0) (p2 := p2) (p3 := p3) (f0 := f0)
set_option maxHeartbeats 2000000 in
theorem tB_X2_arrange_51 {Λ : sLay} (S : sSt) (hs : Sh Λ S) {n26 : Nat} (k26 : sSt → Nat → (Option Nat) → Int32 → Int32 → Option sSt) (hk26 : ∀ (S : sSt) (hs : Sh Λ S) (p0 : Nat) (tp0 : isK Λ 2 p0) (p1 : Nat) (tp1 : isK Λ 7 p1) (p2 : Int32) (p3 : Int32), (m31 p3 n26) → T (k26 S p0 (some p1) p2 p3) (fun r : sSt => Sh Λ r)) (p0 : Nat) (tp0 : isK Λ 2 p0) (p1 : Nat) (tp1 : isK Λ 7 p1) (p3 : Int32) (s0 : Int32) (s1 : Int32) (f0 : m31 p3 (n26 + 1)) (f1 : b31 p3) : T (B_X2_arrange_51 Λ.2.2 k26 S p0 p1 p3 s0 s1) (fun r : sSt => Sh Λ r) := by
  unfold B_X2_arrange_51
  repeat' (first | sp | st1 | ((with_reducible apply hk26) <;> sa))
set_option maxHeartbeats 2000000 in
theorem tY_X2_arrange_26 {Λ : sLay} (S : sSt) (hs : Sh Λ S) {n : Nat} (rec : sSt → Nat → (Option Nat) → Int32 → Int32 → Option sSt) (hrec : ∀ (S : sSt) (hs : Sh Λ S) (p0 : Nat) (tp0 : isK Λ 2 p0) (p1 : Nat) (tp1 : isK Λ 7 p1) (p2 : Int32) (p3 : Int32), (m31 p3 n) → T (rec S p0 (some p1) p2 p3) (fun r : sSt => Sh Λ r)) (p0 : Nat) (tp0 : isK Λ 2 p0) (p1 : Nat) (tp1 : isK Λ 7 p1) (p2 : Int32) (p3 : Int32) (f0 : m31 p3 (n + 1)) : T (Y_X2_arrange_26 Λ.2.2 rec S p0 (some p1) p2 p3) (fun r : sSt => Sh Λ r) := by
  unfold Y_X2_arrange_26
  repeat' (first | sp | st1 | ((with_reducible apply tL_X2_arrange_61) <;> sa) | (with_reducible refine T_bind (by with_reducible apply tF_X7_at <;> sa) (fun _ hq => ?_)) | ((with_reducible apply tF_X7_at) <;> sa) | ((with_reducible apply tB_X2_arrange_51) <;> sa) | ((with_reducible apply hrec) <;> sa))
theorem tL_X2_arrange_26 {Λ : sLay} : ∀ (n : Nat) (S : sSt) (hs : Sh Λ S) (p0 : Nat) (tp0 : isK Λ 2 p0) (p1 : Nat) (tp1 : isK Λ 7 p1) (p2 : Int32) (p3 : Int32) (_ : m31 p3 n), T (L_X2_arrange_26 Λ.2.2 n S p0 (some p1) p2 p3) (fun r : sSt => Sh Λ r) := by
  intro n
  induction n with
  | zero => intro S hs p0 tp0 p1 tp1 p2 p3 f0; exact (m31.no f0).elim
  | succ n ih =>
    intro S hs p0 tp0 p1 tp1 p2 p3 f0
    exact tY_X2_arrange_26 S hs  (rec := L_X2_arrange_26 Λ.2.2 n) (hrec := ih)  (p0 := p0) (tp0 := tp0) (p1 := p1) (tp1 := tp1) (p2 := p2) (p3 := p3) (f0 := f0)
set_option maxHeartbeats 2000000 in
theorem tF_X2_arrange {Λ : sLay} (S : sSt) (hs : Sh Λ S) (p0 : Nat) (tp0 : isK Λ 2 p0) (p1 : Nat) (tp1 : isK Λ 7 p1) : T (F_X2_arrange Λ.2.2 S p0 (some p1)) (fun r : sSt => Sh Λ r) := by
  unfold F_X2_arrange
  repeat' (first | sp | st1 | (with_reducible refine T_bind (by with_reducible apply tF_X2_findReach <;> sa) (fun _ hq => ?_)) | ((with_reducible apply tF_X2_findReach) <;> sa) | (with_reducible refine T_bind (by with_reducible apply tF_X1_empty <;> sa) (fun _ hq => ?_)) | ((with_reducible apply tF_X1_empty) <;> sa) | ((with_reducible apply tL_X2_arrange_26) <;> sa))
set_option maxHeartbeats 2000000 in
theorem tF_X2_ringOf {Λ : sLay} (S : sSt) (hs : Sh Λ S) (p0 : Nat) (tp0 : isK Λ 2 p0) (p1 : Int32) : T (F_X2_ringOf Λ.2.2 S p0 p1) (fun r : Int32 => True) := by
  unfold F_X2_ringOf
  repeat' (first | sp | st1)
set_option maxHeartbeats 2000000 in
theorem tF_X3_append {Λ : sLay} (S : sSt) (hs : Sh Λ S) (p0 : Nat) (tp0 : isK Λ 3 p0) (p1 : Int64) : T (F_X3_append Λ.2.2 S p0 p1) (fun r : sSt => Sh Λ r) := by
  unfold F_X3_append
  repeat' (first | sp | st1)
set_option maxHeartbeats 2000000 in
theorem tF_X3_at {Λ : sLay} (S : sSt) (hs : Sh Λ S) (p0 : Nat) (tp0 : isK Λ 3 p0) (p1 : Int32) : T (F_X3_at Λ.2.2 S p0 p1) (fun r : Int64 => True) := by
  unfold F_X3_at
  repeat' (first | sp | st1)
set_option maxHeartbeats 2000000 in
theorem tF_X3_mix {Λ : sLay} (S : sSt) (hs : Sh Λ S) (p0 : Int64) (p2 : Int64) : T (F_X3_mix Λ.2.2 S p0 p2) (fun r : Int64 => True) := by
  unfold F_X3_mix
  repeat' (first | sp | st1)
set_option maxHeartbeats 2000000 in
theorem tY_X3_digest_6 {Λ : sLay} (S : sSt) (hs : Sh Λ S) {n : Nat} (rec : Nat → Int64 → Int32 → Option Int64) (hrec : ∀ (p0 : Nat) (tp0 : isK Λ 3 p0) (p1 : Int64) (p3 : Int32), (m31 p3 n) → T (rec p0 p1 p3) (fun r : Int64 => True)) (p0 : Nat) (tp0 : isK Λ 3 p0) (p1 : Int64) (p3 : Int32) (f0 : m31 p3 (n + 1)) : T (Y_X3_digest_6 Λ.2.2 S rec p0 p1 p3) (fun r : Int64 => True) := by
  unfold Y_X3_digest_6
  repeat' (first | sp | st1 | (with_reducible refine T_bind (by with_reducible apply tF_X3_at <;> sa) (fun _ hq => ?_)) | ((with_reducible apply tF_X3_at) <;> sa) | (with_reducible refine T_bind (by with_reducible apply tF_X3_mix <;> sa) (fun _ hq => ?_)) | ((with_reducible apply tF_X3_mix) <;> sa) | ((with_reducible apply hrec) <;> sa))
theorem tL_X3_digest_6 {Λ : sLay} (S : sSt) (hs : Sh Λ S) : ∀ (n : Nat) (p0 : Nat) (tp0 : isK Λ 3 p0) (p1 : Int64) (p3 : Int32) (_ : m31 p3 n), T (L_X3_digest_6 Λ.2.2 S n p0 p1 p3) (fun r : Int64 => True) := by
  intro n
  induction n with
  | zero => intro p0 tp0 p1 p3 f0; exact (m31.no f0).elim
  | succ n ih =>
    intro p0 tp0 p1 p3 f0
    exact tY_X3_digest_6 S hs  (rec := L_X3_digest_6 Λ.2.2 S n) (hrec := ih)  (p0 := p0) (tp0 := tp0) (p1 := p1) (p3 := p3) (f0 := f0)
set_option maxHeartbeats 2000000 in
theorem tF_X3_digest {Λ : sLay} (S : sSt) (hs : Sh Λ S) (p0 : Nat) (tp0 : isK Λ 3 p0) : T (F_X3_digest Λ.2.2 S p0) (fun r : Int64 => True) := by
  unfold F_X3_digest
  repeat' (first | sp | st1 | ((with_reducible apply tL_X3_digest_6) <;> sa))
set_option maxHeartbeats 2000000 in
theorem tF_X3_empty {Λ : sLay} (S : sSt) (hs : Sh Λ S) (p0 : Nat) (tp0 : isK Λ 3 p0) : T (F_X3_empty Λ.2.2 S p0) (fun r : sSt => Sh Λ r) := by
  unfold F_X3_empty
  repeat' (first | sp | st1)
set_option maxHeartbeats 2000000 in
theorem tF_X3_endFinds {Λ : sLay} (S : sSt) (hs : Sh Λ S) (p0 : Nat) (tp0 : isK Λ 3 p0) : T (F_X3_endFinds Λ.2.2 S p0) (fun r : sSt => Sh Λ r) := by
  unfold F_X3_endFinds
  repeat' (first | sp | st1)
set_option maxHeartbeats 2000000 in
theorem tF_X3_endMarks {Λ : sLay} (S : sSt) (hs : Sh Λ S) (p0 : Nat) (tp0 : isK Λ 3 p0) : T (F_X3_endMarks Λ.2.2 S p0) (fun r : sSt => Sh Λ r) := by
  unfold F_X3_endMarks
  repeat' (first | sp | st1)
set_option maxHeartbeats 2000000 in
theorem tF_X3_endOwn {Λ : sLay} (S : sSt) (hs : Sh Λ S) (p0 : Nat) (tp0 : isK Λ 3 p0) (p1 : Int32) : T (F_X3_endOwn Λ.2.2 S p0 p1) (fun r : sSt => Sh Λ r) := by
  unfold F_X3_endOwn
  repeat' (first | sp | st1)
set_option maxHeartbeats 2000000 in
theorem tY_X3_isSame_3 {Λ : sLay} (S : sSt) (hs : Sh Λ S) {n : Nat} (rec : Nat → (Option Nat) → Int32 → Int32 → Option Int32) (hrec : ∀ (p0 : Nat) (tp0 : isK Λ 3 p0) (p1 : Nat) (tp1 : isK Λ 3 p1) (p3 : Int32) (p4 : Int32), (w31 p4 n) → T (rec p0 (some p1) p3 p4) (fun r : Int32 => True)) (p0 : Nat) (tp0 : isK Λ 3 p0) (p1 : Nat) (tp1 : isK Λ 3 p1) (p3 : Int32) (p4 : Int32) (f0 : w31 p4 (n + 1)) : T (Y_X3_isSame_3 Λ.2.2 S rec p0 (some p1) p3 p4) (fun r : Int32 => True) := by
  unfold Y_X3_isSame_3
  repeat' (first | sp | st1 | (with_reducible refine T_bind (by with_reducible apply tF_X3_at <;> sa) (fun _ hq => ?_)) | ((with_reducible apply tF_X3_at) <;> sa) | ((with_reducible apply hrec) <;> sa))
theorem tL_X3_isSame_3 {Λ : sLay} (S : sSt) (hs : Sh Λ S) : ∀ (n : Nat) (p0 : Nat) (tp0 : isK Λ 3 p0) (p1 : Nat) (tp1 : isK Λ 3 p1) (p3 : Int32) (p4 : Int32) (_ : w31 p4 n), T (L_X3_isSame_3 Λ.2.2 S n p0 (some p1) p3 p4) (fun r : Int32 => True) := by
  intro n
  induction n with
  | zero => intro p0 tp0 p1 tp1 p3 p4 f0; exact (w31.no f0).elim
  | succ n ih =>
    intro p0 tp0 p1 tp1 p3 p4 f0
    exact tY_X3_isSame_3 S hs  (rec := L_X3_isSame_3 Λ.2.2 S n) (hrec := ih)  (p0 := p0) (tp0 := tp0) (p1 := p1) (tp1 := tp1) (p3 := p3) (p4 := p4) (f0 := f0)
set_option maxHeartbeats 2000000 in
theorem tF_X3_isSame {Λ : sLay} (S : sSt) (hs : Sh Λ S) (p0 : Nat) (tp0 : isK Λ 3 p0) (p1 : Nat) (tp1 : isK Λ 3 p1) (p2 : Int32) (p3 : Int32) : T (F_X3_isSame Λ.2.2 S p0 (some p1) p2 p3) (fun r : Int32 => True) := by
  unfold F_X3_isSame
  repeat' (first | sp | st1 | ((with_reducible apply tL_X3_isSame_3) <;> sa))
set_option maxHeartbeats 2000000 in
theorem tY_X3_hasSameUses_15 {Λ : sLay} (S : sSt) (hs : Sh Λ S) {n : Nat} (rec : Nat → Nat → Int32 → Option Int32) (hrec : ∀ (p0 : Nat) (tp0 : isK Λ 3 p0) (p1 : Nat) (tp1 : isK Λ 3 p1) (p2 : Int32), (m31 p2 n) → T (rec p0 p1 p2) (fun r : Int32 => True)) (p0 : Nat) (tp0 : isK Λ 3 p0) (p1 : Nat) (tp1 : isK Λ 3 p1) (p2 : Int32) (f0 : m31 p2 (n + 1)) : T (Y_X3_hasSameUses_15 Λ.2.2 S rec p0 p1 p2) (fun r : Int32 => True) := by
  unfold Y_X3_hasSameUses_15
  repeat' (first | sp | st1 | (with_reducible refine T_bind (by with_reducible apply tF_X3_isSame <;> sa) (fun _ hq => ?_)) | ((with_reducible apply tF_X3_isSame) <;> sa) | ((with_reducible apply hrec) <;> sa))
theorem tL_X3_hasSameUses_15 {Λ : sLay} (S : sSt) (hs : Sh Λ S) : ∀ (n : Nat) (p0 : Nat) (tp0 : isK Λ 3 p0) (p1 : Nat) (tp1 : isK Λ 3 p1) (p2 : Int32) (_ : m31 p2 n), T (L_X3_hasSameUses_15 Λ.2.2 S n p0 p1 p2) (fun r : Int32 => True) := by
  intro n
  induction n with
  | zero => intro p0 tp0 p1 tp1 p2 f0; exact (m31.no f0).elim
  | succ n ih =>
    intro p0 tp0 p1 tp1 p2 f0
    exact tY_X3_hasSameUses_15 S hs  (rec := L_X3_hasSameUses_15 Λ.2.2 S n) (hrec := ih)  (p0 := p0) (tp0 := tp0) (p1 := p1) (tp1 := tp1) (p2 := p2) (f0 := f0)
set_option maxHeartbeats 2000000 in
theorem tF_X3_hasSameUses {Λ : sLay} (S : sSt) (hs : Sh Λ S) (p0 : Nat) (tp0 : isK Λ 3 p0) (p1 : Nat) (tp1 : isK Λ 3 p1) : T (F_X3_hasSameUses Λ.2.2 S p0 (some p1)) (fun r : Int32 => True) := by
  unfold F_X3_hasSameUses
  repeat' (first | sp | st1 | ((with_reducible apply tL_X3_hasSameUses_15) <;> sa))
set_option maxHeartbeats 2000000 in
theorem tF_X3_length {Λ : sLay} (S : sSt) (hs : Sh Λ S) (p0 : Nat) (tp0 : isK Λ 3 p0) : T (F_X3_length Λ.2.2 S p0) (fun r : Int32 => True) := by
  unfold F_X3_length
  repeat' (first | sp | st1)
set_option maxHeartbeats 2000000 in
theorem tB_X3_reasonAgainst_119 {Λ : sLay} (S : sSt) (hs : Sh Λ S) : T (B_X3_reasonAgainst_119 Λ.2.2 S ) (fun r : Int32 => True) := by
  unfold B_X3_reasonAgainst_119
  repeat' (first | sp | st1)
set_option maxHeartbeats 2000000 in
theorem tF_X3_reasonAgainst {Λ : sLay} (S : sSt) (hs : Sh Λ S) (p0 : Nat) (tp0 : isK Λ 3 p0) (p1 : Nat) (tp1 : isK Λ 3 p1) : T (F_X3_reasonAgainst Λ.2.2 S p0 (some p1)) (fun r : Int32 => True) := by
  unfold F_X3_reasonAgainst
  repeat' (first | sp | st1 | (with_reducible refine T_bind (by with_reducible apply tF_X3_isSame <;> sa) (fun _ hq => ?_)) | ((with_reducible apply tF_X3_isSame) <;> sa) | (with_reducible refine T_bind (by with_reducible apply tF_X3_hasSameUses <;> sa) (fun _ hq => ?_)) | ((with_reducible apply tF_X3_hasSameUses) <;> sa) | ((with_reducible apply tB_X3_reasonAgainst_119) <;> sa))
set_option maxHeartbeats 2000000 in
theorem tF_X8_nameOf {Λ : sLay} (S : sSt) (hs : Sh Λ S) (p0 : Int32) : T (F_X8_nameOf Λ.2.2 S p0) (fun r : Int32 => True) := by
  unfold F_X8_nameOf
  repeat' (first | sp | st1)
set_option maxHeartbeats 2000000 in
theorem tY_X4_writeInts_11 {Λ : sLay} (S : sSt) (hs : Sh Λ S) {n : Nat} (rec : sSt → Nat → Nat → Int32 → Option sSt) (hrec : ∀ (S : sSt) (hs : Sh Λ S) (p0 : Nat) (tp0 : isK Λ 3 p0) (p1 : Nat) (tp1 : isK Λ 1 p1) (p2 : Int32), (m31 p2 n) → T (rec S p0 p1 p2) (fun r : sSt => Sh Λ r)) (p0 : Nat) (tp0 : isK Λ 3 p0) (p1 : Nat) (tp1 : isK Λ 1 p1) (p2 : Int32) (f0 : m31 p2 (n + 1)) : T (Y_X4_writeInts_11 Λ.2.2 rec S p0 p1 p2) (fun r : sSt => Sh Λ r) := by
  unfold Y_X4_writeInts_11
  repeat' (first | sp | st1 | (with_reducible refine T_bind (by with_reducible apply tF_X1_length <;> sa) (fun _ hq => ?_)) | ((with_reducible apply tF_X1_length) <;> sa) | (with_reducible refine T_bind (by with_reducible apply tF_X1_at <;> sa) (fun _ hq => ?_)) | ((with_reducible apply tF_X1_at) <;> sa) | (with_reducible refine T_bind (by with_reducible apply tF_X3_append <;> sa) (fun _ hq => ?_)) | ((with_reducible apply tF_X3_append) <;> sa) | ((with_reducible apply hrec) <;> sa))
theorem tL_X4_writeInts_11 {Λ : sLay} : ∀ (n : Nat) (S : sSt) (hs : Sh Λ S) (p0 : Nat) (tp0 : isK Λ 3 p0) (p1 : Nat) (tp1 : isK Λ 1 p1) (p2 : Int32) (_ : m31 p2 n), T (L_X4_writeInts_11 Λ.2.2 n S p0 p1 p2) (fun r : sSt => Sh Λ r) := by
  intro n
  induction n with
  | zero => intro S hs p0 tp0 p1 tp1 p2 f0; exact (m31.no f0).elim
  | succ n ih =>
    intro S hs p0 tp0 p1 tp1 p2 f0
    exact tY_X4_writeInts_11 S hs  (rec := L_X4_writeInts_11 Λ.2.2 n) (hrec := ih)  (p0 := p0) (tp0 := tp0) (p1 := p1) (tp1 := tp1) (p2 := p2) (f0 := f0)
set_option maxHeartbeats 2000000 in
theorem tF_X4_writeInts {Λ : sLay} (S : sSt) (hs : Sh Λ S) (p0 : Nat) (tp0 : isK Λ 3 p0) (p1 : Nat) (tp1 : isK Λ 1 p1) : T (F_X4_writeInts Λ.2.2 S (some p0) (some p1)) (fun r : sSt => Sh Λ r) := by
  unfold F_X4_writeInts
  repeat' (first | sp | st1 | (with_reducible refine T_bind (by with_reducible apply tF_X1_length <;> sa) (fun _ hq => ?_)) | ((with_reducible apply tF_X1_length) <;> sa) | (with_reducible refine T_bind (by with_reducible apply tF_X3_append <;> sa) (fun _ hq => ?_)) | ((with_reducible apply tF_X3_append) <;> sa) | ((with_reducible apply tL_X4_writeInts_11) <;> sa))
set_option maxHeartbeats 2000000 in
theorem tB_X4_writeThings_85 {Λ : sLay} (S : sSt) (hs : Sh Λ S) {n11 : Nat} (k11 : sSt → Nat → Nat → Int32 → Option sSt) (hk11 : ∀ (S : sSt) (hs : Sh Λ S) (p0 : Nat) (tp0 : isK Λ 3 p0) (p1 : Nat) (tp1 : isK Λ 6 p1) (p2 : Int32), (m31 p2 n11) → T (k11 S p0 p1 p2) (fun r : sSt => Sh Λ r)) (p0 : Nat) (tp0 : isK Λ 3 p0) (p1 : Nat) (tp1 : isK Λ 6 p1) (p2 : Int32) (f0 : m31 p2 (n11 + 1)) (f1 : b31 p2) : T (B_X4_writeThings_85 Λ.2.2 k11 S p0 p1 p2) (fun r : sSt => Sh Λ r) := by
  unfold B_X4_writeThings_85
  repeat' (first | sp | st1 | ((with_reducible apply hk11) <;> sa))
set_option maxHeartbeats 2000000 in
theorem tB_X4_writeThings_74 {Λ : sLay} (S : sSt) (hs : Sh Λ S) {n11 : Nat} (k11 : sSt → Nat → Nat → Int32 → Option sSt) (hk11 : ∀ (S : sSt) (hs : Sh Λ S) (p0 : Nat) (tp0 : isK Λ 3 p0) (p1 : Nat) (tp1 : isK Λ 6 p1) (p2 : Int32), (m31 p2 n11) → T (k11 S p0 p1 p2) (fun r : sSt => Sh Λ r)) (p0 : Nat) (tp0 : isK Λ 3 p0) (p1 : Nat) (tp1 : isK Λ 6 p1) (p2 : Int32) (p3 : Nat) (tp3 : isK Λ 5 p3) (s0 : Int64) (s1 : Nat) (ts1 : isK Λ 3 s1) (f0 : m31 p2 (n11 + 1)) (f1 : b31 p2) : T (B_X4_writeThings_74 Λ.2.2 k11 S p0 p1 p2 p3 s0 s1) (fun r : sSt => Sh Λ r) := by
  unfold B_X4_writeThings_74
  repeat' (first | sp | st1 | (with_reducible refine T_bind (by with_reducible apply tF_X3_append <;> sa) (fun _ hq => ?_)) | ((with_reducible apply tF_X3_append) <;> sa) | (with_reducible refine T_bind (by with_reducible apply tF_X4_writeInts <;> sa) (fun _ hq => ?_)) | ((with_reducible apply tF_X4_writeInts) <;> sa) | ((with_reducible apply tB_X4_writeThings_85) <;> sa) | ((with_reducible apply hk11) <;> sa))
set_option maxHeartbeats 2000000 in
theorem tY_X4_writeThings_11 {Λ : sLay} (S : sSt) (hs : Sh Λ S) {n : Nat} (rec : sSt → Nat → Nat → Int32 → Option sSt) (hrec : ∀ (S : sSt) (hs : Sh Λ S) (p0 : Nat) (tp0 : isK Λ 3 p0) (p1 : Nat) (tp1 : isK Λ 6 p1) (p2 : Int32), (m31 p2 n) → T (rec S p0 p1 p2) (fun r : sSt => Sh Λ r)) (p0 : Nat) (tp0 : isK Λ 3 p0) (p1 : Nat) (tp1 : isK Λ 6 p1) (p2 : Int32) (f0 : m31 p2 (n + 1)) : T (Y_X4_writeThings_11 Λ.2.2 rec S p0 p1 p2) (fun r : sSt => Sh Λ r) := by
  unfold Y_X4_writeThings_11
  repeat' (first | sp | st1 | (with_reducible refine T_bind (by with_reducible apply tF_X6_thingCount <;> sa) (fun _ hq => ?_)) | ((with_reducible apply tF_X6_thingCount) <;> sa) | (with_reducible refine T_bind (by with_reducible apply tF_X6_thingAt <;> sa) (fun _ hq => ?_)) | ((with_reducible apply tF_X6_thingAt) <;> sa) | ((with_reducible apply tB_X4_writeThings_85) <;> sa) | (with_reducible refine T_bind (by with_reducible apply tF_X8_sortOf <;> sa) (fun _ hq => ?_)) | ((with_reducible apply tF_X8_sortOf) <;> sa) | (with_reducible refine T_bind (by with_reducible apply tF_X3_append <;> sa) (fun _ hq => ?_)) | ((with_reducible apply tF_X3_append) <;> sa) | (with_reducible refine T_bind (by with_reducible apply tF_X8_nameOf <;> sa) (fun _ hq => ?_)) | ((with_reducible apply tF_X8_nameOf) <;> sa) | ((with_reducible apply tB_X4_writeThings_74) <;> sa) | ((with_reducible apply hrec) <;> sa))
theorem tL_X4_writeThings_11 {Λ : sLay} : ∀ (n : Nat) (S : sSt) (hs : Sh Λ S) (p0 : Nat) (tp0 : isK Λ 3 p0) (p1 : Nat) (tp1 : isK Λ 6 p1) (p2 : Int32) (_ : m31 p2 n), T (L_X4_writeThings_11 Λ.2.2 n S p0 p1 p2) (fun r : sSt => Sh Λ r) := by
  intro n
  induction n with
  | zero => intro S hs p0 tp0 p1 tp1 p2 f0; exact (m31.no f0).elim
  | succ n ih =>
    intro S hs p0 tp0 p1 tp1 p2 f0
    exact tY_X4_writeThings_11 S hs  (rec := L_X4_writeThings_11 Λ.2.2 n) (hrec := ih)  (p0 := p0) (tp0 := tp0) (p1 := p1) (tp1 := tp1) (p2 := p2) (f0 := f0)
set_option maxHeartbeats 2000000 in
theorem tF_X4_writeThings {Λ : sLay} (S : sSt) (hs : Sh Λ S) (p0 : Nat) (tp0 : isK Λ 3 p0) (p1 : Nat) (tp1 : isK Λ 6 p1) : T (F_X4_writeThings Λ.2.2 S (some p0) (some p1)) (fun r : sSt => Sh Λ r) := by
  unfold F_X4_writeThings
  repeat' (first | sp | st1 | (with_reducible refine T_bind (by with_reducible apply tF_X6_thingCount <;> sa) (fun _ hq => ?_)) | ((with_reducible apply tF_X6_thingCount) <;> sa) | (with_reducible refine T_bind (by with_reducible apply tF_X3_append <;> sa) (fun _ hq => ?_)) | ((with_reducible apply tF_X3_append) <;> sa) | ((with_reducible apply tL_X4_writeThings_11) <;> sa))
set_option maxHeartbeats 2000000 in
theorem tB_X4_writeFound_49 {Λ : sLay} (S : sSt) (hs : Sh Λ S) (s0 : Int64) (s1 : Nat) (ts1 : isK Λ 3 s1) : T (B_X4_writeFound_49 Λ.2.2 S s0 s1) (fun r : sSt => Sh Λ r) := by
  unfold B_X4_writeFound_49
  repeat' (first | sp | st1 | (with_reducible refine T_bind (by with_reducible apply tF_X3_append <;> sa) (fun _ hq => ?_)) | ((with_reducible apply tF_X3_append) <;> sa))
set_option maxHeartbeats 2000000 in
theorem tF_X4_writeFound {Λ : sLay} (S : sSt) (hs : Sh Λ S) (p0 : Nat) (tp0 : isK Λ 3 p0) (p1 : Option Nat) (tp1 : okK Λ 5 p1) : T (F_X4_writeFound Λ.2.2 S (some p0) p1) (fun r : sSt => Sh Λ r) := by
  unfold F_X4_writeFound
  repeat' (first | sp | st1 | (with_reducible refine T_bind (by with_reducible apply tF_X3_append <;> sa) (fun _ hq => ?_)) | ((with_reducible apply tF_X3_append) <;> sa) | (with_reducible refine T_bind (by with_reducible apply tF_X8_sortOf <;> sa) (fun _ hq => ?_)) | ((with_reducible apply tF_X8_sortOf) <;> sa) | ((with_reducible apply tB_X4_writeFound_49) <;> sa))
set_option maxHeartbeats 2000000 in
theorem tB_X4_writeFinds_68 {Λ : sLay} (S : sSt) (hs : Sh Λ S) {n24 : Nat} (k24 : sSt → Nat → Nat → (Option Nat) → (Option Nat) → Int32 → Int32 → Option sSt) (hk24 : ∀ (S : sSt) (hs : Sh Λ S) (p0 : Nat) (tp0 : isK Λ 3 p0) (p1 : Nat) (tp1 : isK Λ 6 p1) (p2 : Nat) (tp2 : isK Λ 7 p2) (p3 : Nat) (tp3 : isK Λ 1 p3) (p4 : Int32) (p5 : Int32), (m31 p5 n24) → T (k24 S p0 p1 (some p2) (some p3) p4 p5) (fun r : sSt => Sh Λ r)) (p0 : Nat) (tp0 : isK Λ 3 p0) (p1 : Nat) (tp1 : isK Λ 6 p1) (p2 : Nat) (tp2 : isK Λ 7 p2) (p3 : Nat) (tp3 : isK Λ 1 p3) (p4 : Int32) (p5 : Int32) (p6 : Int32) (f0 : m31 p5 (n24 + 1)) (f1 : b31 p5) : T (B_X4_writeFinds_68 Λ.2.2 k24 S p0 p1 (some p2) p3 p4 p5 p6) (fun r : sSt => Sh Λ r) := by
  unfold B_X4_writeFinds_68
  repeat' (first | sp | st1 | (with_reducible refine T_bind (by with_reducible apply tF_X7_lookFrom <;> sa) (fun _ hq => ?_)) | ((with_reducible apply tF_X7_lookFrom) <;> sa) | (with_reducible refine T_bind (by with_reducible apply tF_X4_writeFound <;> sa) (fun _ hq => ?_)) | ((with_reducible apply tF_X4_writeFound) <;> sa) | ((with_reducible apply hk24) <;> sa))
set_option maxHeartbeats 2000000 in
theorem tY_X4_writeFinds_24 {Λ : sLay} (S : sSt) (hs : Sh Λ S) {n : Nat} (rec : sSt → Nat → Nat → (Option Nat) → (Option Nat) → Int32 → Int32 → Option sSt) (hrec : ∀ (S : sSt) (hs : Sh Λ S) (p0 : Nat) (tp0 : isK Λ 3 p0) (p1 : Nat) (tp1 : isK Λ 6 p1) (p2 : Nat) (tp2 : isK Λ 7 p2) (p3 : Nat) (tp3 : isK Λ 1 p3) (p4 : Int32) (p5 : Int32), (m31 p5 n) → T (rec S p0 p1 (some p2) (some p3) p4 p5) (fun r : sSt => Sh Λ r)) (p0 : Nat) (tp0 : isK Λ 3 p0) (p1 : Nat) (tp1 : isK Λ 6 p1) (p2 : Nat) (tp2 : isK Λ 7 p2) (p3 : Nat) (tp3 : isK Λ 1 p3) (p4 : Int32) (p5 : Int32) (f0 : m31 p5 (n + 1)) : T (Y_X4_writeFinds_24 Λ.2.2 rec S p0 p1 (some p2) (some p3) p4 p5) (fun r : sSt => Sh Λ r) := by
  unfold Y_X4_writeFinds_24
  repeat' (first | sp | st1 | (with_reducible refine T_bind (by with_reducible apply tF_X1_length <;> sa) (fun _ hq => ?_)) | ((with_reducible apply tF_X1_length) <;> sa) | (with_reducible refine T_bind (by with_reducible apply tF_X1_at <;> sa) (fun _ hq => ?_)) | ((with_reducible apply tF_X1_at) <;> sa) | ((with_reducible apply tB_X4_writeFinds_68) <;> sa) | (with_reducible refine T_bind (by with_reducible apply tF_X8_sortOf <;> sa) (fun _ hq => ?_)) | ((with_reducible apply tF_X8_sortOf) <;> sa) | (with_reducible refine T_bind (by with_reducible apply tF_X3_append <;> sa) (fun _ hq => ?_)) | ((with_reducible apply tF_X3_append) <;> sa) | (with_reducible refine T_bind (by with_reducible apply tF_X8_nameOf <;> sa) (fun _ hq => ?_)) | ((with_reducible apply tF_X8_nameOf) <;> sa) | ((with_reducible apply hrec) <;> sa))
theorem tL_X4_writeFinds_24 {Λ : sLay} : ∀ (n : Nat) (S : sSt) (hs : Sh Λ S) (p0 : Nat) (tp0 : isK Λ 3 p0) (p1 : Nat) (tp1 : isK Λ 6 p1) (p2 : Nat) (tp2 : isK Λ 7 p2) (p3 : Nat) (tp3 : isK Λ 1 p3) (p4 : Int32) (p5 : Int32) (_ : m31 p5 n), T (L_X4_writeFinds_24 Λ.2.2 n S p0 p1 (some p2) (some p3) p4 p5) (fun r : sSt => Sh Λ r) := by
  intro n
  induction n with
  | zero => intro S hs p0 tp0 p1 tp1 p2 tp2 p3 tp3 p4 p5 f0; exact (m31.no f0).elim
  | succ n ih =>
    intro S hs p0 tp0 p1 tp1 p2 tp2 p3 tp3 p4 p5 f0
    exact tY_X4_writeFinds_24 S hs  (rec := L_X4_writeFinds_24 Λ.2.2 n) (hrec := ih)  (p0 := p0) (tp0 := tp0) (p1 := p1) (tp1 := tp1) (p2 := p2) (tp2 := tp2) (p3 := p3) (tp3 := tp3) (p4 := p4) (p5 := p5) (f0 := f0)
set_option maxHeartbeats 2000000 in
theorem tF_X4_writeFinds {Λ : sLay} (S : sSt) (hs : Sh Λ S) (p0 : Nat) (tp0 : isK Λ 3 p0) (p1 : Nat) (tp1 : isK Λ 6 p1) (p2 : Nat) (tp2 : isK Λ 7 p2) : T (F_X4_writeFinds Λ.2.2 S (some p0) (some p1) (some p2)) (fun r : sSt => Sh Λ r) := by
  unfold F_X4_writeFinds
  repeat' (first | sp | st1 | (with_reducible refine T_obdR (by with_reducible apply tF_X6_sought <;> sa) (fun _ _ _ _ => ?_)) | ((with_reducible apply tF_X6_sought) <;> sa) | (with_reducible refine T_bind (by with_reducible apply tF_X1_length <;> sa) (fun _ hq => ?_)) | ((with_reducible apply tF_X1_length) <;> sa) | (with_reducible refine T_bind (by with_reducible apply tF_X3_append <;> sa) (fun _ hq => ?_)) | ((with_reducible apply tF_X3_append) <;> sa) | ((with_reducible apply tL_X4_writeFinds_24) <;> sa))
set_option maxHeartbeats 2000000 in
theorem tB_X4_writeMarks_118 {Λ : sLay} (S : sSt) (hs : Sh Λ S) {n18 : Nat} (k18 : sSt → (Option Nat) → Nat → (Option Nat) → Int32 → Option sSt) (hk18 : ∀ (S : sSt) (hs : Sh Λ S) (p0 : Nat) (tp0 : isK Λ 3 p0) (p1 : Nat) (tp1 : isK Λ 6 p1) (p2 : Nat) (tp2 : isK Λ 7 p2) (p3 : Int32), (m31 p3 n18) → T (k18 S (some p0) p1 (some p2) p3) (fun r : sSt => Sh Λ r)) (p0 : Nat) (tp0 : isK Λ 3 p0) (p1 : Nat) (tp1 : isK Λ 6 p1) (p2 : Nat) (tp2 : isK Λ 7 p2) (p3 : Int32) (f0 : m31 p3 (n18 + 1)) (f1 : b31 p3) : T (B_X4_writeMarks_118 Λ.2.2 k18 S (some p0) p1 p2 p3) (fun r : sSt => Sh Λ r) := by
  unfold B_X4_writeMarks_118
  repeat' (first | sp | st1 | ((with_reducible apply hk18) <;> sa))
set_option maxHeartbeats 2000000 in
theorem tB_X4_writeMarks_112 {Λ : sLay} (S : sSt) (hs : Sh Λ S) {n18 : Nat} (k18 : sSt → (Option Nat) → Nat → (Option Nat) → Int32 → Option sSt) (hk18 : ∀ (S : sSt) (hs : Sh Λ S) (p0 : Nat) (tp0 : isK Λ 3 p0) (p1 : Nat) (tp1 : isK Λ 6 p1) (p2 : Nat) (tp2 : isK Λ 7 p2) (p3 : Int32), (m31 p3 n18) → T (k18 S (some p0) p1 (some p2) p3) (fun r : sSt => Sh Λ r)) {n43 : Nat} (k43 : sSt → (Option Nat) → Nat → Nat → Int32 → (Option Nat) → Int32 → Option sSt) (hk43 : ∀ (S : sSt) (hs : Sh Λ S) (p0 : Nat) (tp0 : isK Λ 3 p0) (p1 : Nat) (tp1 : isK Λ 6 p1) (p2 : Nat) (tp2 : isK Λ 7 p2) (p3 : Int32) (p4 : Option Nat) (tp4 : okK Λ 6 p4) (p5 : Int32), (m31 p5 n43) → (m31 p3 (n18 + 1)) → (b31 p3) → T (k43 S (some p0) p1 p2 p3 p4 p5) (fun r : sSt => Sh Λ r)) (p0 : Nat) (tp0 : isK Λ 3 p0) (p1 : Nat) (tp1 : isK Λ 6 p1) (p2 : Nat) (tp2 : isK Λ 7 p2) (p3 : Int32) (p4 : Nat) (tp4 : isK Λ 6 p4) (p5 : Int32) (f0 : m31 p3 (n18 + 1)) (f1 : b31 p3) (f2 : m31 p5 (n43 + 1)) (f3 : b31 p5) : T (B_X4_writeMarks_112 Λ.2.2 k18 k43 S (some p0) p1 p2 p3 p4 p5) (fun r : sSt => Sh Λ r) := by
  unfold B_X4_writeMarks_112
  repeat' (first | sp | st1 | ((with_reducible apply hk18) <;> sa) | ((with_reducible apply hk43) <;> sa))
set_option maxHeartbeats 2000000 in
theorem tY_X4_writeMarks_43 {Λ : sLay} (S : sSt) (hs : Sh Λ S) {n18 : Nat} (k18 : sSt → (Option Nat) → Nat → (Option Nat) → Int32 → Option sSt) (hk18 : ∀ (S : sSt) (hs : Sh Λ S) (p0 : Nat) (tp0 : isK Λ 3 p0) (p1 : Nat) (tp1 : isK Λ 6 p1) (p2 : Nat) (tp2 : isK Λ 7 p2) (p3 : Int32), (m31 p3 n18) → T (k18 S (some p0) p1 (some p2) p3) (fun r : sSt => Sh Λ r)) {n : Nat} (rec : sSt → (Option Nat) → Nat → Nat → Int32 → (Option Nat) → Int32 → Option sSt) (hrec : ∀ (S : sSt) (hs : Sh Λ S) (p0 : Nat) (tp0 : isK Λ 3 p0) (p1 : Nat) (tp1 : isK Λ 6 p1) (p2 : Nat) (tp2 : isK Λ 7 p2) (p3 : Int32) (p4 : Option Nat) (tp4 : okK Λ 6 p4) (p5 : Int32), (m31 p5 n) → (m31 p3 (n18 + 1)) → (b31 p3) → T (rec S (some p0) p1 p2 p3 p4 p5) (fun r : sSt => Sh Λ r)) (p0 : Nat) (tp0 : isK Λ 3 p0) (p1 : Nat) (tp1 : isK Λ 6 p1) (p2 : Nat) (tp2 : isK Λ 7 p2) (p3 : Int32) (p4 : Option Nat) (tp4 : okK Λ 6 p4) (p5 : Int32) (f0 : m31 p5 (n + 1)) (f1 : m31 p3 (n18 + 1)) (f2 : b31 p3) : T (Y_X4_writeMarks_43 Λ.2.2 k18 rec S (some p0) p1 p2 p3 p4 p5) (fun r : sSt => Sh Λ r) := by
  unfold Y_X4_writeMarks_43
  repeat' (first | sp | st1 | ((with_reducible apply tB_X4_writeMarks_118) <;> sa) | (with_reducible refine T_bind (by with_reducible apply tF_X6_thingCount <;> sa) (fun _ hq => ?_)) | ((with_reducible apply tF_X6_thingCount) <;> sa) | (with_reducible refine T_bind (by with_reducible apply tF_X6_thingAt <;> sa) (fun _ hq => ?_)) | ((with_reducible apply tF_X6_thingAt) <;> sa) | ((with_reducible apply tB_X4_writeMarks_112) <;> sa) | (with_reducible refine T_bind (by with_reducible apply tF_X8_sortOf <;> sa) (fun _ hq => ?_)) | ((with_reducible apply tF_X8_sortOf) <;> sa) | (with_reducible refine T_bind (by with_reducible apply tF_X3_append <;> sa) (fun _ hq => ?_)) | ((with_reducible apply tF_X3_append) <;> sa) | (with_reducible refine T_bind (by with_reducible apply tF_X8_nameOf <;> sa) (fun _ hq => ?_)) | ((with_reducible apply tF_X8_nameOf) <;> sa) | ((with_reducible apply hk18) <;> sa) | ((with_reducible apply hrec) <;> sa))
theorem tL_X4_writeMarks_43 {Λ : sLay} {n18 : Nat} (k18 : sSt → (Option Nat) → Nat → (Option Nat) → Int32 → Option sSt) (hk18 : ∀ (S : sSt) (hs : Sh Λ S) (p0 : Nat) (tp0 : isK Λ 3 p0) (p1 : Nat) (tp1 : isK Λ 6 p1) (p2 : Nat) (tp2 : isK Λ 7 p2) (p3 : Int32), (m31 p3 n18) → T (k18 S (some p0) p1 (some p2) p3) (fun r : sSt => Sh Λ r)) : ∀ (n : Nat) (S : sSt) (hs : Sh Λ S) (p0 : Nat) (tp0 : isK Λ 3 p0) (p1 : Nat) (tp1 : isK Λ 6 p1) (p2 : Nat) (tp2 : isK Λ 7 p2) (p3 : Int32) (p4 : Option Nat) (tp4 : okK Λ 6 p4) (p5 : Int32) (_ : m31 p5 n) (_ : m31 p3 (n18 + 1)) (_ : b31 p3), T (L_X4_writeMarks_43 Λ.2.2 k18 n S (some p0) p1 p2 p3 p4 p5) (fun r : sSt => Sh Λ r) := by
  intro n
  induction n with
  | zero => intro S hs p0 tp0 p1 tp1 p2 tp2 p3 p4 tp4 p5 f0 f1 f2; exact (m31.no f0).elim
  | succ n ih =>
    intro S hs p0 tp0 p1 tp1 p2 tp2 p3 p4 tp4 p5 f0 f1 f2
    exact tY_X4_writeMarks_43 S hs  (rec := L_X4_writeMarks_43 Λ.2.2 k18 n) (hrec := ih) (k18 := k18) (hk18 := hk18) (p0 := p0) (tp0 := tp0) (p1 := p1) (tp1 := tp1) (p2 := p2) (tp2 := tp2) (p3 := p3) (p4 := p4) (tp4 := tp4) (p5 := p5) (f0 := f0) (f1 := f1) (f2 := f2)
set_option maxHeartbeats 2000000 in
theorem tY_X4_writeMarks_18 {Λ : sLay} (S : sSt) (hs : Sh Λ S) {n : Nat} (rec : sSt → (Option Nat) → Nat → (Option Nat) → Int32 → Option sSt) (hrec : ∀ (S : sSt) (hs : Sh Λ S) (p0 : Nat) (tp0 : isK Λ 3 p0) (p1 : Nat) (tp1 : isK Λ 6 p1) (p2 : Nat) (tp2 : isK Λ 7 p2) (p3 : Int32), (m31 p3 n) → T (rec S (some p0) p1 (some p2) p3) (fun r : sSt => Sh Λ r)) (p0 : Nat) (tp0 : isK Λ 3 p0) (p1 : Nat) (tp1 : isK Λ 6 p1) (p2 : Nat) (tp2 : isK Λ 7 p2) (p3 : Int32) (f0 : m31 p3 (n + 1)) : T (Y_X4_writeMarks_18 Λ.2.2 rec S (some p0) p1 (some p2) p3) (fun r : sSt => Sh Λ r) := by
  unfold Y_X4_writeMarks_18
  repeat' (first | sp | st1 | (with_reducible refine T_bind (by with_reducible apply tF_X7_at <;> sa) (fun _ hq => ?_)) | ((with_reducible apply tF_X7_at) <;> sa) | ((with_reducible apply tL_X4_writeMarks_43) <;> sa) | ((with_reducible apply hrec) <;> sa))
theorem tL_X4_writeMarks_18 {Λ : sLay} : ∀ (n : Nat) (S : sSt) (hs : Sh Λ S) (p0 : Nat) (tp0 : isK Λ 3 p0) (p1 : Nat) (tp1 : isK Λ 6 p1) (p2 : Nat) (tp2 : isK Λ 7 p2) (p3 : Int32) (_ : m31 p3 n), T (L_X4_writeMarks_18 Λ.2.2 n S (some p0) p1 (some p2) p3) (fun r : sSt => Sh Λ r) := by
  intro n
  induction n with
  | zero => intro S hs p0 tp0 p1 tp1 p2 tp2 p3 f0; exact (m31.no f0).elim
  | succ n ih =>
    intro S hs p0 tp0 p1 tp1 p2 tp2 p3 f0
    exact tY_X4_writeMarks_18 S hs  (rec := L_X4_writeMarks_18 Λ.2.2 n) (hrec := ih)  (p0 := p0) (tp0 := tp0) (p1 := p1) (tp1 := tp1) (p2 := p2) (tp2 := tp2) (p3 := p3) (f0 := f0)
set_option maxHeartbeats 2000000 in
theorem tB_X4_writeMarks_13 {Λ : sLay} (S : sSt) (hs : Sh Λ S) (p0 : Nat) (tp0 : isK Λ 3 p0) (p1 : Nat) (tp1 : isK Λ 6 p1) (p2 : Nat) (tp2 : isK Λ 7 p2) (s0 : Int64) (s1 : Nat) (ts1 : isK Λ 3 s1) : T (B_X4_writeMarks_13 Λ.2.2 S (some p0) p1 (some p2) s0 (some s1)) (fun r : sSt => Sh Λ r) := by
  unfold B_X4_writeMarks_13
  repeat' (first | sp | st1 | (with_reducible refine T_bind (by with_reducible apply tF_X3_append <;> sa) (fun _ hq => ?_)) | ((with_reducible apply tF_X3_append) <;> sa) | ((with_reducible apply tL_X4_writeMarks_18) <;> sa))
set_option maxHeartbeats 2000000 in
theorem tF_X4_writeMarks {Λ : sLay} (S : sSt) (hs : Sh Λ S) (p0 : Nat) (tp0 : isK Λ 3 p0) (p1 : Nat) (tp1 : isK Λ 6 p1) (p2 : Nat) (tp2 : isK Λ 7 p2) : T (F_X4_writeMarks Λ.2.2 S (some p0) (some p1) (some p2)) (fun r : sSt => Sh Λ r) := by
  unfold F_X4_writeMarks
  repeat' (first | sp | st1 | ((with_reducible apply tB_X4_writeMarks_13) <;> sa))
set_option maxHeartbeats 2000000 in
theorem tF_X4_writeAllButMaker {Λ : sLay} (S : sSt) (hs : Sh Λ S) (p0 : Nat) (tp0 : isK Λ 3 p0) (p1 : Nat) (tp1 : isK Λ 6 p1) (p2 : Nat) (tp2 : isK Λ 7 p2) : T (F_X4_writeAllButMaker Λ.2.2 S (some p0) (some p1) (some p2)) (fun r : sSt => Sh Λ r) := by
  unfold F_X4_writeAllButMaker
  repeat' (first | sp | st1 | (with_reducible refine T_bind (by with_reducible apply tF_X3_empty <;> sa) (fun _ hq => ?_)) | ((with_reducible apply tF_X3_empty) <;> sa) | (with_reducible refine T_bind (by with_reducible apply tF_X4_writeThings <;> sa) (fun _ hq => ?_)) | ((with_reducible apply tF_X4_writeThings) <;> sa) | (with_reducible refine T_bind (by with_reducible apply tF_X4_writeInts <;> sa) (fun _ hq => ?_)) | ((with_reducible apply tF_X4_writeInts) <;> sa) | (with_reducible refine T_bind (by with_reducible apply tF_X1_length <;> sa) (fun _ hq => ?_)) | ((with_reducible apply tF_X1_length) <;> sa) | (with_reducible refine T_bind (by with_reducible apply tF_X3_endOwn <;> sa) (fun _ hq => ?_)) | ((with_reducible apply tF_X3_endOwn) <;> sa) | (with_reducible refine T_bind (by with_reducible apply tF_X4_writeFinds <;> sa) (fun _ hq => ?_)) | ((with_reducible apply tF_X4_writeFinds) <;> sa) | (with_reducible refine T_bind (by with_reducible apply tF_X3_endFinds <;> sa) (fun _ hq => ?_)) | ((with_reducible apply tF_X3_endFinds) <;> sa) | (with_reducible refine T_bind (by with_reducible apply tF_X4_writeMarks <;> sa) (fun _ hq => ?_)) | ((with_reducible apply tF_X4_writeMarks) <;> sa) | (with_reducible refine T_bind (by with_reducible apply tF_X3_endMarks <;> sa) (fun _ hq => ?_)) | ((with_reducible apply tF_X3_endMarks) <;> sa))
set_option maxHeartbeats 2000000 in
theorem tF_X4_write {Λ : sLay} (S : sSt) (hs : Sh Λ S) (p0 : Nat) (tp0 : isK Λ 4 p0) (p1 : Nat) (tp1 : isK Λ 3 p1) (p2 : Nat) (tp2 : isK Λ 6 p2) (p3 : Nat) (tp3 : isK Λ 7 p3) : T (F_X4_write Λ.2.2 S p0 (some p1) (some p2) (some p3)) (fun r : sSt => Sh Λ r) := by
  unfold F_X4_write
  repeat' (first | sp | st1 | (with_reducible refine T_bind (by with_reducible apply tF_X4_writeAllButMaker <;> sa) (fun _ hq => ?_)) | ((with_reducible apply tF_X4_writeAllButMaker) <;> sa) | (with_reducible refine T_bind (by with_reducible apply tF_X7_at <;> sa) (fun _ hq => ?_)) | ((with_reducible apply tF_X7_at) <;> sa) | (with_reducible refine T_bind (by with_reducible apply tF_X3_append <;> sa) (fun _ hq => ?_)) | ((with_reducible apply tF_X3_append) <;> sa) | (with_reducible refine T_bind (by with_reducible apply tF_X3_digest <;> sa) (fun _ hq => ?_)) | ((with_reducible apply tF_X3_digest) <;> sa))
set_option maxHeartbeats 2000000 in
theorem tF_X4_now {Λ : sLay} (S : sSt) (hs : Sh Λ S) (p0 : Nat) (tp0 : isK Λ 4 p0) (p1 : Nat) (tp1 : isK Λ 6 p1) (p2 : Nat) (tp2 : isK Λ 7 p2) : T (F_X4_now Λ.2.2 S p0 (some p1) (some p2)) (fun r : Option Nat × sSt => Sh Λ r.2 ∧ ∃ a, r.1 = some a ∧ isK Λ 3 a) := by
  unfold F_X4_now
  repeat' (first | sp | st1 | (with_reducible refine T_bind (by with_reducible apply tF_X4_write <;> sa) (fun _ hq => ?_)) | ((with_reducible apply tF_X4_write) <;> sa))
set_option maxHeartbeats 2000000 in
theorem tF_X4_reasonFor {Λ : sLay} (S : sSt) (hs : Sh Λ S) (p0 : Nat) (tp0 : isK Λ 4 p0) (p1 : Nat) (tp1 : isK Λ 6 p1) (p2 : Nat) (tp2 : isK Λ 7 p2) : T (F_X4_reasonFor Λ.2.2 S p0 (some p1) (some p2)) (fun r : Int32 × sSt => Sh Λ r.2) := by
  unfold F_X4_reasonFor
  repeat' (first | sp | st1 | (with_reducible refine T_bind (by with_reducible apply tF_X4_write <;> sa) (fun _ hq => ?_)) | ((with_reducible apply tF_X4_write) <;> sa) | (with_reducible refine T_bind (by with_reducible apply tF_X3_reasonAgainst <;> sa) (fun _ hq => ?_)) | ((with_reducible apply tF_X3_reasonAgainst) <;> sa))
set_option maxHeartbeats 2000000 in
theorem tF_X6_isBehind {Λ : sLay} (S : sSt) (hs : Sh Λ S) (p0 : Option Nat) (tp0 : okK Λ 5 p0) (p1 : Int32) : T (F_X6_isBehind Λ.2.2 S p0 p1) (fun r : Int32 => True) := by
  unfold F_X6_isBehind
  repeat' (first | sp | st1)
set_option maxHeartbeats 2000000 in
theorem tB_X6_addThing_96 {Λ : sLay} (S : sSt) (hs : Sh Λ S) (p0 : Nat) (tp0 : isK Λ 6 p0) (p1 : Int32) (p2 : Nat) (tp2 : isK Λ 5 p2) (p3 : Int32) (f0 : ∀ t, gFR S 244 p0 = some t → vp_in p3 (Λ.2.2 t)) : T (B_X6_addThing_96 Λ.2.2 S p0 p1 (some p2) p3) (fun r : Option Nat × sSt => Sh Λ r.2 ∧ okK Λ 5 r.1) := by
  unfold B_X6_addThing_96
  refine T_R244 hs tp0 (fun b e tb => T_bsome (T_bsome (T_gi (f0 b e) ?_)))
  refine T_b13 hs tb (okK.of tp2) (fun S2 h2 => T_bFI h2 (fun S3 h3 => T_bFI h3 (fun S4 h4 => T_R201 h4 tp2 (fun c _ tc => T_bsome ?_))))
  exact T_bind (tF_X1_empty S4 h4 c tc) (fun S5 h5 => T_some ⟨h5, okK.of tp2⟩)
set_option maxHeartbeats 2000000 in
theorem tY_X6_addThing_48 {Λ : sLay} (S : sSt) (hs : Sh Λ S) {n : Nat} (rec : sSt → Nat → Int32 → (Option Nat) → Int32 → Option (Option Nat × sSt)) (hrec : ∀ (S : sSt) (hs : Sh Λ S) (p0 : Nat) (tp0 : isK Λ 6 p0) (p1 : Int32) (p2 : Nat) (tp2 : isK Λ 5 p2) (p3 : Int32), (d31 p3 n) → (¬ p3 < 0) → (∀ t, gFR S 244 p0 = some t → vp_in p3 (Λ.2.2 t)) → T (rec S p0 p1 (some p2) p3) (fun r : Option Nat × sSt => Sh Λ r.2 ∧ okK Λ 5 r.1)) (p0 : Nat) (tp0 : isK Λ 6 p0) (p1 : Int32) (p2 : Nat) (tp2 : isK Λ 5 p2) (p3 : Int32) (f0 : d31 p3 (n + 1)) (f1 : ¬ p3 < 0) (f2 : ∀ t, gFR S 244 p0 = some t → vp_in p3 (Λ.2.2 t)) : T (Y_X6_addThing_48 Λ.2.2 rec S p0 p1 (some p2) p3) (fun r : Option Nat × sSt => Sh Λ r.2 ∧ okK Λ 5 r.1) := by
  unfold Y_X6_addThing_48
  refine T_ite (fun _ => tB_X6_addThing_96 S hs p0 tp0 p1 p2 tp2 p3 f2) (fun c1 => ?_)
  refine T_R244 hs tp0 (fun b e tb => T_bsome (T_ite (fun _ => tB_X6_addThing_96 S hs p0 tp0 p1 p2 tp2 p3 f2) (fun c2 => T_bndE e (T_bsome ?_))))
  have v1 : vp_in (p3 - 1) (Λ.2.2 b) := vp_m hs tb c1 (fun h => c2 (Int32.le_of_lt h))
  refine T_gi v1 (T_bndF hs tp0 e tb v1 (fun a ea ta => ?_))
  refine T_bind (by with_reducible apply tF_X6_isBehind <;> sa) (fun v _ => T_ite (fun _ => tB_X6_addThing_96 S hs p0 tp0 p1 p2 tp2 p3 f2) (fun _ => ?_))
  refine T_bndE e (T_bndE e (T_bsome (T_gi v1 (T_bndAE ea (T_bsome (T_bsome (T_gi (f2 b e) (T_bnd ?_))))))))
  have ep : p3 + -1 = p3 - 1 := (Int32.sub_eq_add_neg p3 1).symm
  refine hrec _ (hs.sAR b _ a (okK.ek tb (okK.of ta))) p0 tp0 p1 p2 tp2 (p3 + -1) (d31.down f0 f1) ?_ ?_
  · rw [ep]; exact fun h => v1 (Or.inl h)
  · rw [ep]; exact vp_f (b := b) e v1
theorem tL_X6_addThing_48 {Λ : sLay} : ∀ (n : Nat) (S : sSt) (hs : Sh Λ S) (p0 : Nat) (tp0 : isK Λ 6 p0) (p1 : Int32) (p2 : Nat) (tp2 : isK Λ 5 p2) (p3 : Int32) (_ : d31 p3 n) (_ : ¬ p3 < 0) (_ : ∀ t, gFR S 244 p0 = some t → vp_in p3 (Λ.2.2 t)), T (L_X6_addThing_48 Λ.2.2 n S p0 p1 (some p2) p3) (fun r : Option Nat × sSt => Sh Λ r.2 ∧ okK Λ 5 r.1) := by
  intro n
  induction n with
  | zero => intro S hs p0 tp0 p1 p2 tp2 p3 f0 f1 f2; exact (d31.no f0).elim
  | succ n ih =>
    intro S hs p0 tp0 p1 p2 tp2 p3 f0 f1 f2
    exact tY_X6_addThing_48 S hs  (rec := L_X6_addThing_48 Λ.2.2 n) (hrec := ih)  (p0 := p0) (tp0 := tp0) (p1 := p1) (p2 := p2) (tp2 := tp2) (p3 := p3) (f0 := f0) (f1 := f1) (f2 := f2)
set_option maxHeartbeats 2000000 in
theorem tF_X6_addThing {Λ : sLay} (S : sSt) (hs : Sh Λ S) (p0 : Nat) (tp0 : isK Λ 6 p0) (p1 : Int32) : T (F_X6_addThing Λ.2.2 S p0 p1) (fun r : Option Nat × sSt => Sh Λ r.2 ∧ okK Λ 5 r.1) := by
  unfold F_X6_addThing
  repeat' (first | sp | st1 | ((with_reducible apply tL_X6_addThing_48) <;> sa))
set_option maxHeartbeats 2000000 in
theorem tB_X6_dropThing_94 {Λ : sLay} (S : sSt) (hs : Sh Λ S) (p0 : Nat) (tp0 : isK Λ 6 p0) (p3 : Int32) : T (B_X6_dropThing_94 Λ.2.2 S p0 p3) (fun r : Int32 × sSt => Sh Λ r.2) := by
  unfold B_X6_dropThing_94
  repeat' (first | sp | st1)
set_option maxHeartbeats 2000000 in
theorem tB_X6_dropThing_78 {Λ : sLay} (S : sSt) (hs : Sh Λ S) (p0 : Nat) (tp0 : isK Λ 6 p0) (p2 : Nat) (tp2 : isK Λ 5 p2) (p3 : Int32) (f0 : ¬ p3 < 0) : T (B_X6_dropThing_78 Λ.2.2 S p0 p2 p3) (fun r : Int32 × sSt => Sh Λ r.2) := by
  unfold B_X6_dropThing_78
  repeat' (first | sp | st1 | ((with_reducible apply tB_X6_dropThing_94) <;> sa))
set_option maxHeartbeats 2000000 in
theorem tB_X6_dropThing_72 {Λ : sLay} (S : sSt) (hs : Sh Λ S) {n17 : Nat} (k17 : sSt → Nat → Nat → Int32 → Int32 → Option (Int32 × sSt)) (hk17 : ∀ (S : sSt) (hs : Sh Λ S) (p0 : Nat) (tp0 : isK Λ 6 p0) (p2 : Nat) (tp2 : isK Λ 5 p2) (p3 : Int32) (p4 : Int32), (m31 p4 n17) → (0 ≤ p3.toInt) → (p3.toInt ≤ p4.toInt) → T (k17 S p0 p2 p3 p4) (fun r : Int32 × sSt => Sh Λ r.2)) (p0 : Nat) (tp0 : isK Λ 6 p0) (p2 : Nat) (tp2 : isK Λ 5 p2) (p3 : Int32) (p4 : Int32) (f0 : m31 p4 (n17 + 1)) (f1 : b31 p4) (f2 : 0 ≤ p3.toInt) (f3 : p3.toInt ≤ p4.toInt + 1) : T (B_X6_dropThing_72 Λ.2.2 k17 S p0 p2 p3 p4) (fun r : Int32 × sSt => Sh Λ r.2) := by
  unfold B_X6_dropThing_72
  exact hk17 S hs p0 tp0 p2 tp2 p3 (p4 + 1) (m31.up f0 f1) f2 (by rw [b31.succ f0 f1]; exact f3)
set_option maxHeartbeats 2000000 in
theorem tY_X6_dropThing_17 {Λ : sLay} (S : sSt) (hs : Sh Λ S) {n : Nat} (rec : sSt → Nat → Nat → Int32 → Int32 → Option (Int32 × sSt)) (hrec : ∀ (S : sSt) (hs : Sh Λ S) (p0 : Nat) (tp0 : isK Λ 6 p0) (p2 : Nat) (tp2 : isK Λ 5 p2) (p3 : Int32) (p4 : Int32), (m31 p4 n) → (0 ≤ p3.toInt) → (p3.toInt ≤ p4.toInt) → T (rec S p0 p2 p3 p4) (fun r : Int32 × sSt => Sh Λ r.2)) (p0 : Nat) (tp0 : isK Λ 6 p0) (p2 : Nat) (tp2 : isK Λ 5 p2) (p3 : Int32) (p4 : Int32) (f0 : m31 p4 (n + 1)) (f1 : 0 ≤ p3.toInt) (f2 : p3.toInt ≤ p4.toInt) : T (Y_X6_dropThing_17 Λ.2.2 rec S p0 p2 p3 p4) (fun r : Int32 × sSt => Sh Λ r.2) := by
  have g3 : ¬ p3 < 0 := by
    rw [Int32.lt_iff_toInt_lt]
    have e : (0 : Int32).toInt = 0 := rfl
    omega
  unfold Y_X6_dropThing_17
  refine T_ite (fun _ => tB_X6_dropThing_78 S hs p0 tp0 p2 tp2 p3 g3) (fun c1 => ?_)
  have b4 := b31.of c1
  have b3 : b31 p3 := by unfold b31 at *; omega
  have e3 : (p3 + 1).toInt = p3.toInt + 1 := b31.succ (n := 4294967296) ⟨f1, by omega⟩ b3
  refine T_R244 hs tp0 (fun b e tb => T_bsome (T_ite (fun _ => tB_X6_dropThing_78 S hs p0 tp0 p2 tp2 p3 g3) (fun c2 => T_bndE e (T_bsome (T_gi (vp_c hs tb f0.nn c2) ?_)))))
  refine T_bndF hs tp0 e tb (vp_c hs tb f0.nn c2) (fun a ea ta => T_ite (fun _ => tB_X6_dropThing_72 S hs rec hrec p0 tp0 p2 tp2 p3 p4 f0 b4 f1 (by omega)) (fun _ => T_bndE e (T_bsome (T_ite (fun _ => tB_X6_dropThing_72 S hs rec hrec p0 tp0 p2 tp2 p3 p4 f0 b4 f1 (by omega)) (fun c5 => T_bndE e (T_bndE e (T_bsome (T_gi (vp_c hs tb f0.nn c2) (T_bndAE ea (T_bsome (T_bsome (T_gi (vp_c hs tb g3 c5) ?_))))))))))))
  refine T_b13 hs tb (okK.of ta) (fun S2 h2 => ?_)
  exact tB_X6_dropThing_72 S2 h2 rec hrec p0 tp0 p2 tp2 (p3 + 1) p4 f0 b4 (by omega) (by omega)
theorem tL_X6_dropThing_17 {Λ : sLay} : ∀ (n : Nat) (S : sSt) (hs : Sh Λ S) (p0 : Nat) (tp0 : isK Λ 6 p0) (p2 : Nat) (tp2 : isK Λ 5 p2) (p3 : Int32) (p4 : Int32) (_ : m31 p4 n) (_ : 0 ≤ p3.toInt) (_ : p3.toInt ≤ p4.toInt), T (L_X6_dropThing_17 Λ.2.2 n S p0 p2 p3 p4) (fun r : Int32 × sSt => Sh Λ r.2) := by
  intro n
  induction n with
  | zero => intro S hs p0 tp0 p2 tp2 p3 p4 f0 f1 f2; exact (m31.no f0).elim
  | succ n ih =>
    intro S hs p0 tp0 p2 tp2 p3 p4 f0 f1 f2
    exact tY_X6_dropThing_17 S hs  (rec := L_X6_dropThing_17 Λ.2.2 n) (hrec := ih)  (p0 := p0) (tp0 := tp0) (p2 := p2) (tp2 := tp2) (p3 := p3) (p4 := p4) (f0 := f0) (f1 := f1) (f2 := f2)
set_option maxHeartbeats 2000000 in
theorem tF_X6_dropThing {Λ : sLay} (S : sSt) (hs : Sh Λ S) (p0 : Nat) (tp0 : isK Λ 6 p0) (p1 : Int32) : T (F_X6_dropThing Λ.2.2 S p0 p1) (fun r : Int32 × sSt => Sh Λ r.2) := by
  unfold F_X6_dropThing
  repeat' (first | sp | st1 | (with_reducible refine T_bind (by with_reducible apply tF_X6_thingFor <;> sa) (fun _ hq => ?_)) | ((with_reducible apply tF_X6_thingFor) <;> sa) | ((with_reducible apply tL_X6_dropThing_17) <;> sa))
set_option maxHeartbeats 2000000 in
theorem tF_X6_start {Λ : sLay} (S : sSt) (hs : Sh Λ S) (p0 : Nat) (tp0 : isK Λ 6 p0) : T (F_X6_start Λ.2.2 S p0) (fun r : sSt => Sh Λ r) := by
  unfold F_X6_start
  repeat' (first | sp | st1 | (with_reducible refine T_bind (by with_reducible apply tF_X1_empty <;> sa) (fun _ hq => ?_)) | ((with_reducible apply tF_X1_empty) <;> sa))
set_option maxHeartbeats 2000000 in
theorem tF_X7_dropAll {Λ : sLay} (S : sSt) (hs : Sh Λ S) (p0 : Nat) (tp0 : isK Λ 7 p0) : T (F_X7_dropAll Λ.2.2 S p0) (fun r : sSt => Sh Λ r) := by
  unfold F_X7_dropAll
  repeat' (first | sp | st1)
set_option maxHeartbeats 2000000 in
theorem tB_X7_freeFrom_34 {Λ : sLay} (S : sSt) (hs : Sh Λ S) {n2 : Nat} (k2 : sSt → Nat → Int32 → Int32 → Option sSt) (hk2 : ∀ (S : sSt) (hs : Sh Λ S) (p0 : Nat) (tp0 : isK Λ 7 p0) (p1 : Int32) (p2 : Int32), (m31 p2 n2) → T (k2 S p0 p1 p2) (fun r : sSt => Sh Λ r)) (p0 : Nat) (tp0 : isK Λ 7 p0) (p1 : Int32) (p2 : Int32) (f0 : m31 p2 (n2 + 1)) (f1 : b31 p2) : T (B_X7_freeFrom_34 Λ.2.2 k2 S p0 p1 p2) (fun r : sSt => Sh Λ r) := by
  unfold B_X7_freeFrom_34
  repeat' (first | sp | st1 | ((with_reducible apply hk2) <;> sa))
set_option maxHeartbeats 2000000 in
theorem tY_X7_freeFrom_2 {Λ : sLay} (S : sSt) (hs : Sh Λ S) {n : Nat} (rec : sSt → Nat → Int32 → Int32 → Option sSt) (hrec : ∀ (S : sSt) (hs : Sh Λ S) (p0 : Nat) (tp0 : isK Λ 7 p0) (p1 : Int32) (p2 : Int32), (m31 p2 n) → T (rec S p0 p1 p2) (fun r : sSt => Sh Λ r)) (p0 : Nat) (tp0 : isK Λ 7 p0) (p1 : Int32) (p2 : Int32) (f0 : m31 p2 (n + 1)) : T (Y_X7_freeFrom_2 Λ.2.2 rec S p0 p1 p2) (fun r : sSt => Sh Λ r) := by
  unfold Y_X7_freeFrom_2
  repeat' (first | sp | st1 | (with_reducible refine T_bind (by with_reducible apply tF_X7_at <;> sa) (fun _ hq => ?_)) | ((with_reducible apply tF_X7_at) <;> sa) | ((with_reducible apply tB_X7_freeFrom_34) <;> sa) | ((with_reducible apply hrec) <;> sa))
theorem tL_X7_freeFrom_2 {Λ : sLay} : ∀ (n : Nat) (S : sSt) (hs : Sh Λ S) (p0 : Nat) (tp0 : isK Λ 7 p0) (p1 : Int32) (p2 : Int32) (_ : m31 p2 n), T (L_X7_freeFrom_2 Λ.2.2 n S p0 p1 p2) (fun r : sSt => Sh Λ r) := by
  intro n
  induction n with
  | zero => intro S hs p0 tp0 p1 p2 f0; exact (m31.no f0).elim
  | succ n ih =>
    intro S hs p0 tp0 p1 p2 f0
    exact tY_X7_freeFrom_2 S hs  (rec := L_X7_freeFrom_2 Λ.2.2 n) (hrec := ih)  (p0 := p0) (tp0 := tp0) (p1 := p1) (p2 := p2) (f0 := f0)
set_option maxHeartbeats 2000000 in
theorem tF_X7_freeFrom {Λ : sLay} (S : sSt) (hs : Sh Λ S) (p0 : Nat) (tp0 : isK Λ 7 p0) (p1 : Int32) : T (F_X7_freeFrom Λ.2.2 S p0 p1) (fun r : sSt => Sh Λ r) := by
  unfold F_X7_freeFrom
  repeat' (first | sp | st1 | ((with_reducible apply tL_X7_freeFrom_2) <;> sa))
set_option maxHeartbeats 2000000 in
theorem tB_X7_dropOne_52 {Λ : sLay} (S : sSt) (hs : Sh Λ S) {n23 : Nat} (k23 : sSt → Nat → Int32 → Int32 → Option sSt) (hk23 : ∀ (S : sSt) (hs : Sh Λ S) (p0 : Nat) (tp0 : isK Λ 7 p0) (p1 : Int32) (p3 : Int32), (m31 p3 n23) → T (k23 S p0 p1 p3) (fun r : sSt => Sh Λ r)) (p0 : Nat) (tp0 : isK Λ 7 p0) (p1 : Int32) (p3 : Int32) (f0 : m31 p3 (n23 + 1)) (f1 : b31 p3) : T (B_X7_dropOne_52 Λ.2.2 k23 S p0 p1 p3) (fun r : sSt => Sh Λ r) := by
  unfold B_X7_dropOne_52
  repeat' (first | sp | st1 | ((with_reducible apply hk23) <;> sa))
set_option maxHeartbeats 2000000 in
theorem tY_X7_dropOne_23 {Λ : sLay} (S : sSt) (hs : Sh Λ S) {n : Nat} (rec : sSt → Nat → Int32 → Int32 → Option sSt) (hrec : ∀ (S : sSt) (hs : Sh Λ S) (p0 : Nat) (tp0 : isK Λ 7 p0) (p1 : Int32) (p3 : Int32), (m31 p3 n) → T (rec S p0 p1 p3) (fun r : sSt => Sh Λ r)) (p0 : Nat) (tp0 : isK Λ 7 p0) (p1 : Int32) (p3 : Int32) (f0 : m31 p3 (n + 1)) : T (Y_X7_dropOne_23 Λ.2.2 rec S p0 p1 p3) (fun r : sSt => Sh Λ r) := by
  unfold Y_X7_dropOne_23
  repeat' (first | sp | st1 | (with_reducible refine T_bind (by with_reducible apply tF_X7_at <;> sa) (fun _ hq => ?_)) | ((with_reducible apply tF_X7_at) <;> sa) | ((with_reducible apply tB_X7_dropOne_52) <;> sa) | (with_reducible refine T_bind (by with_reducible apply tF_X1_dropItem <;> sa) (fun _ hq => ?_)) | ((with_reducible apply tF_X1_dropItem) <;> sa) | ((with_reducible apply hrec) <;> sa))
theorem tL_X7_dropOne_23 {Λ : sLay} : ∀ (n : Nat) (S : sSt) (hs : Sh Λ S) (p0 : Nat) (tp0 : isK Λ 7 p0) (p1 : Int32) (p3 : Int32) (_ : m31 p3 n), T (L_X7_dropOne_23 Λ.2.2 n S p0 p1 p3) (fun r : sSt => Sh Λ r) := by
  intro n
  induction n with
  | zero => intro S hs p0 tp0 p1 p3 f0; exact (m31.no f0).elim
  | succ n ih =>
    intro S hs p0 tp0 p1 p3 f0
    exact tY_X7_dropOne_23 S hs  (rec := L_X7_dropOne_23 Λ.2.2 n) (hrec := ih)  (p0 := p0) (tp0 := tp0) (p1 := p1) (p3 := p3) (f0 := f0)
set_option maxHeartbeats 2000000 in
theorem tF_X7_dropOne {Λ : sLay} (S : sSt) (hs : Sh Λ S) (p0 : Nat) (tp0 : isK Λ 7 p0) (p1 : Int32) : T (F_X7_dropOne Λ.2.2 S p0 p1) (fun r : sSt => Sh Λ r) := by
  unfold F_X7_dropOne
  repeat' (first | sp | st1 | (with_reducible refine T_bind (by with_reducible apply tF_X7_at <;> sa) (fun _ hq => ?_)) | ((with_reducible apply tF_X7_at) <;> sa) | (with_reducible refine T_bind (by with_reducible apply tF_X7_freeFrom <;> sa) (fun _ hq => ?_)) | ((with_reducible apply tF_X7_freeFrom) <;> sa) | ((with_reducible apply tL_X7_dropOne_23) <;> sa))
set_option maxHeartbeats 2000000 in
theorem tB_X7_missingOf_36 {Λ : sLay} (S : sSt) (hs : Sh Λ S) {n10 : Nat} (k10 : sSt → Nat → Nat → (Option Nat) → Int32 → Int32 → Option (Int32 × sSt)) (hk10 : ∀ (S : sSt) (hs : Sh Λ S) (p0 : Nat) (tp0 : isK Λ 7 p0) (p1 : Nat) (tp1 : isK Λ 6 p1) (p2 : Nat) (tp2 : isK Λ 1 p2) (p3 : Int32) (p4 : Int32), (m31 p4 n10) → T (k10 S p0 p1 (some p2) p3 p4) (fun r : Int32 × sSt => Sh Λ r.2)) (p0 : Nat) (tp0 : isK Λ 7 p0) (p1 : Nat) (tp1 : isK Λ 6 p1) (p2 : Nat) (tp2 : isK Λ 1 p2) (p3 : Int32) (p4 : Int32) (f0 : m31 p4 (n10 + 1)) (f1 : b31 p4) : T (B_X7_missingOf_36 Λ.2.2 k10 S p0 p1 p2 p3 p4) (fun r : Int32 × sSt => Sh Λ r.2) := by
  unfold B_X7_missingOf_36
  repeat' (first | sp | st1 | ((with_reducible apply hk10) <;> sa))
set_option maxHeartbeats 2000000 in
theorem tY_X7_missingOf_10 {Λ : sLay} (S : sSt) (hs : Sh Λ S) {n : Nat} (rec : sSt → Nat → Nat → (Option Nat) → Int32 → Int32 → Option (Int32 × sSt)) (hrec : ∀ (S : sSt) (hs : Sh Λ S) (p0 : Nat) (tp0 : isK Λ 7 p0) (p1 : Nat) (tp1 : isK Λ 6 p1) (p2 : Nat) (tp2 : isK Λ 1 p2) (p3 : Int32) (p4 : Int32), (m31 p4 n) → T (rec S p0 p1 (some p2) p3 p4) (fun r : Int32 × sSt => Sh Λ r.2)) (p0 : Nat) (tp0 : isK Λ 7 p0) (p1 : Nat) (tp1 : isK Λ 6 p1) (p2 : Nat) (tp2 : isK Λ 1 p2) (p3 : Int32) (p4 : Int32) (f0 : m31 p4 (n + 1)) : T (Y_X7_missingOf_10 Λ.2.2 rec S p0 p1 (some p2) p3 p4) (fun r : Int32 × sSt => Sh Λ r.2) := by
  unfold Y_X7_missingOf_10
  repeat' (first | sp | st1 | (with_reducible refine T_bind (by with_reducible apply tF_X1_length <;> sa) (fun _ hq => ?_)) | ((with_reducible apply tF_X1_length) <;> sa) | (with_reducible refine T_bind (by with_reducible apply tF_X1_at <;> sa) (fun _ hq => ?_)) | ((with_reducible apply tF_X1_at) <;> sa) | (with_reducible refine T_bind (by with_reducible apply tF_X7_lookFrom <;> sa) (fun _ hq => ?_)) | ((with_reducible apply tF_X7_lookFrom) <;> sa) | ((with_reducible apply tB_X7_missingOf_36) <;> sa) | ((with_reducible apply hrec) <;> sa))
theorem tL_X7_missingOf_10 {Λ : sLay} : ∀ (n : Nat) (S : sSt) (hs : Sh Λ S) (p0 : Nat) (tp0 : isK Λ 7 p0) (p1 : Nat) (tp1 : isK Λ 6 p1) (p2 : Nat) (tp2 : isK Λ 1 p2) (p3 : Int32) (p4 : Int32) (_ : m31 p4 n), T (L_X7_missingOf_10 Λ.2.2 n S p0 p1 (some p2) p3 p4) (fun r : Int32 × sSt => Sh Λ r.2) := by
  intro n
  induction n with
  | zero => intro S hs p0 tp0 p1 tp1 p2 tp2 p3 p4 f0; exact (m31.no f0).elim
  | succ n ih =>
    intro S hs p0 tp0 p1 tp1 p2 tp2 p3 p4 f0
    exact tY_X7_missingOf_10 S hs  (rec := L_X7_missingOf_10 Λ.2.2 n) (hrec := ih)  (p0 := p0) (tp0 := tp0) (p1 := p1) (tp1 := tp1) (p2 := p2) (tp2 := tp2) (p3 := p3) (p4 := p4) (f0 := f0)
set_option maxHeartbeats 2000000 in
theorem tF_X7_missingOf {Λ : sLay} (S : sSt) (hs : Sh Λ S) (p0 : Nat) (tp0 : isK Λ 7 p0) (p1 : Nat) (tp1 : isK Λ 6 p1) : T (F_X7_missingOf Λ.2.2 S p0 (some p1)) (fun r : Int32 × sSt => Sh Λ r.2) := by
  unfold F_X7_missingOf
  repeat' (first | sp | st1 | (with_reducible refine T_obdR (by with_reducible apply tF_X6_sought <;> sa) (fun _ _ _ _ => ?_)) | ((with_reducible apply tF_X6_sought) <;> sa) | ((with_reducible apply tL_X7_missingOf_10) <;> sa))
set_option maxHeartbeats 2000000 in
theorem tB_X7_thereNow_23 {Λ : sLay} (S : sSt) (hs : Sh Λ S) {n4 : Nat} (k4 : Nat → Int32 → Int32 → Option Int32) (hk4 : ∀ (p0 : Nat) (tp0 : isK Λ 7 p0) (p1 : Int32) (p2 : Int32), (m31 p2 n4) → T (k4 p0 p1 p2) (fun r : Int32 => True)) (p0 : Nat) (tp0 : isK Λ 7 p0) (p1 : Int32) (p2 : Int32) (f0 : m31 p2 (n4 + 1)) (f1 : b31 p2) : T (B_X7_thereNow_23 Λ.2.2 S k4 p0 p1 p2) (fun r : Int32 => True) := by
  unfold B_X7_thereNow_23
  repeat' (first | sp | st1 | ((with_reducible apply hk4) <;> sa))
set_option maxHeartbeats 2000000 in
theorem tY_X7_thereNow_4 {Λ : sLay} (S : sSt) (hs : Sh Λ S) {n : Nat} (rec : Nat → Int32 → Int32 → Option Int32) (hrec : ∀ (p0 : Nat) (tp0 : isK Λ 7 p0) (p1 : Int32) (p2 : Int32), (m31 p2 n) → T (rec p0 p1 p2) (fun r : Int32 => True)) (p0 : Nat) (tp0 : isK Λ 7 p0) (p1 : Int32) (p2 : Int32) (f0 : m31 p2 (n + 1)) : T (Y_X7_thereNow_4 Λ.2.2 S rec p0 p1 p2) (fun r : Int32 => True) := by
  unfold Y_X7_thereNow_4
  repeat' (first | sp | st1 | (with_reducible refine T_bind (by with_reducible apply tF_X7_at <;> sa) (fun _ hq => ?_)) | ((with_reducible apply tF_X7_at) <;> sa) | ((with_reducible apply tB_X7_thereNow_23) <;> sa) | ((with_reducible apply hrec) <;> sa))
theorem tL_X7_thereNow_4 {Λ : sLay} (S : sSt) (hs : Sh Λ S) : ∀ (n : Nat) (p0 : Nat) (tp0 : isK Λ 7 p0) (p1 : Int32) (p2 : Int32) (_ : m31 p2 n), T (L_X7_thereNow_4 Λ.2.2 S n p0 p1 p2) (fun r : Int32 => True) := by
  intro n
  induction n with
  | zero => intro p0 tp0 p1 p2 f0; exact (m31.no f0).elim
  | succ n ih =>
    intro p0 tp0 p1 p2 f0
    exact tY_X7_thereNow_4 S hs  (rec := L_X7_thereNow_4 Λ.2.2 S n) (hrec := ih)  (p0 := p0) (tp0 := tp0) (p1 := p1) (p2 := p2) (f0 := f0)
set_option maxHeartbeats 2000000 in
theorem tF_X7_thereNow {Λ : sLay} (S : sSt) (hs : Sh Λ S) (p0 : Nat) (tp0 : isK Λ 7 p0) : T (F_X7_thereNow Λ.2.2 S p0) (fun r : Int32 => True) := by
  unfold F_X7_thereNow
  repeat' (first | sp | st1 | ((with_reducible apply tL_X7_thereNow_4) <;> sa))
set_option maxHeartbeats 2000000 in
theorem tB_X8_anew_88 {Λ : sLay} (S : sSt) (hs : Sh Λ S) {n28 : Nat} (k28 : sSt → Nat → Int64 → Int32 → Option (Int64 × sSt)) (hk28 : ∀ (S : sSt) (hs : Sh Λ S) (p0 : Nat) (tp0 : isK Λ 8 p0) (p1 : Int64) (p3 : Int32), (m31 p3 n28) → T (k28 S p0 p1 p3) (fun r : Int64 × sSt => Sh Λ r.2)) (p0 : Nat) (tp0 : isK Λ 8 p0) (p1 : Int64) (p3 : Int32) (f0 : m31 p3 (n28 + 1)) (f1 : b31 p3) : T (B_X8_anew_88 Λ.2.2 k28 S p0 p1 p3) (fun r : Int64 × sSt => Sh Λ r.2) := by
  unfold B_X8_anew_88
  repeat' (first | sp | st1 | ((with_reducible apply hk28) <;> sa))
set_option maxHeartbeats 2000000 in
theorem tY_X8_anew_28 {Λ : sLay} (S : sSt) (hs : Sh Λ S) {n : Nat} (rec : sSt → Nat → Int64 → Int32 → Option (Int64 × sSt)) (hrec : ∀ (S : sSt) (hs : Sh Λ S) (p0 : Nat) (tp0 : isK Λ 8 p0) (p1 : Int64) (p3 : Int32), (m31 p3 n) → T (rec S p0 p1 p3) (fun r : Int64 × sSt => Sh Λ r.2)) (p0 : Nat) (tp0 : isK Λ 8 p0) (p1 : Int64) (p3 : Int32) (f0 : m31 p3 (n + 1)) : T (Y_X8_anew_28 Λ.2.2 rec S p0 p1 p3) (fun r : Int64 × sSt => Sh Λ r.2) := by
  unfold Y_X8_anew_28
  repeat' (first | sp | st1 | (with_reducible refine T_bind (by with_reducible apply tF_X1_length <;> sa) (fun _ hq => ?_)) | ((with_reducible apply tF_X1_length) <;> sa) | (with_reducible refine T_bind (by with_reducible apply tF_X1_at <;> sa) (fun _ hq => ?_)) | ((with_reducible apply tF_X1_at) <;> sa) | (with_reducible refine T_bind (by with_reducible apply tF_X7_at <;> sa) (fun _ hq => ?_)) | ((with_reducible apply tF_X7_at) <;> sa) | ((with_reducible apply tB_X8_anew_88) <;> sa) | (with_reducible refine T_obdR (by with_reducible apply tF_X4_now <;> sa) (fun _ _ _ _ => ?_)) | ((with_reducible apply tF_X4_now) <;> sa) | (with_reducible refine T_bind (by with_reducible apply tF_X3_digest <;> sa) (fun _ hq => ?_)) | ((with_reducible apply tF_X3_digest) <;> sa) | (with_reducible refine T_bind (by with_reducible apply tF_X3_mix <;> sa) (fun _ hq => ?_)) | ((with_reducible apply tF_X3_mix) <;> sa) | ((with_reducible apply hrec) <;> sa))
theorem tL_X8_anew_28 {Λ : sLay} : ∀ (n : Nat) (S : sSt) (hs : Sh Λ S) (p0 : Nat) (tp0 : isK Λ 8 p0) (p1 : Int64) (p3 : Int32) (_ : m31 p3 n), T (L_X8_anew_28 Λ.2.2 n S p0 p1 p3) (fun r : Int64 × sSt => Sh Λ r.2) := by
  intro n
  induction n with
  | zero => intro S hs p0 tp0 p1 p3 f0; exact (m31.no f0).elim
  | succ n ih =>
    intro S hs p0 tp0 p1 p3 f0
    exact tY_X8_anew_28 S hs  (rec := L_X8_anew_28 Λ.2.2 n) (hrec := ih)  (p0 := p0) (tp0 := tp0) (p1 := p1) (p3 := p3) (f0 := f0)
set_option maxHeartbeats 2000000 in
theorem tF_X8_anew {Λ : sLay} (S : sSt) (hs : Sh Λ S) (p0 : Nat) (tp0 : isK Λ 8 p0) : T (F_X8_anew Λ.2.2 S p0) (fun r : Int64 × sSt => Sh Λ r.2) := by
  unfold F_X8_anew
  repeat' (first | sp | st1 | (with_reducible refine T_bind (by with_reducible apply tF_X0_settleAll <;> sa) (fun _ hq => ?_)) | ((with_reducible apply tF_X0_settleAll) <;> sa) | (with_reducible refine T_bind (by with_reducible apply tF_X2_arrange <;> sa) (fun _ hq => ?_)) | ((with_reducible apply tF_X2_arrange) <;> sa) | ((with_reducible apply tL_X8_anew_28) <;> sa))
set_option maxHeartbeats 2000000 in
theorem tF_X8_appendTo {Λ : sLay} (S : sSt) (hs : Sh Λ S) (p0 : Nat) (tp0 : isK Λ 1 p0) (p1 : Int32) : T (F_X8_appendTo Λ.2.2 S (some p0) p1) (fun r : Int32 × sSt => Sh Λ r.2) := by
  unfold F_X8_appendTo
  repeat' (first | sp | st1 | (with_reducible refine T_obdI (by with_reducible apply tF_X1_append <;> sa) (fun _ _ _ => ?_)) | ((with_reducible apply tF_X1_append) <;> sa) | (with_reducible refine T_bind (by with_reducible apply tF_X1_length <;> sa) (fun _ hq => ?_)) | ((with_reducible apply tF_X1_length) <;> sa))
set_option maxHeartbeats 2000000 in
theorem tF_X8_isBelow {Λ : sLay} (S : sSt) (hs : Sh Λ S) (p0 : Int32) (p1 : Int32) : T (F_X8_isBelow Λ.2.2 S p0 p1) (fun r : Int32 => True) := by
  unfold F_X8_isBelow
  repeat' (first | sp | st1)
set_option maxHeartbeats 2000000 in
theorem tF_X8_build {Λ : sLay} (S : sSt) (hs : Sh Λ S) (p0 : Nat) (tp0 : isK Λ 8 p0) (p1 : Int32) (p2 : Int32) (p3 : Int32) : T (F_X8_build Λ.2.2 S p0 p1 p2 p3) (fun r : Int32 × sSt => Sh Λ r.2) := by
  unfold F_X8_build
  repeat' (first | sp | st1 | (with_reducible refine T_bind (by with_reducible apply tF_X7_at <;> sa) (fun _ hq => ?_)) | ((with_reducible apply tF_X7_at) <;> sa) | (with_reducible refine T_bind (by with_reducible apply tF_X8_isBelow <;> sa) (fun _ hq => ?_)) | ((with_reducible apply tF_X8_isBelow) <;> sa) | (with_reducible refine T_bind (by with_reducible apply tF_X8_keyOf <;> sa) (fun _ hq => ?_)) | ((with_reducible apply tF_X8_keyOf) <;> sa) | (with_reducible refine T_bind (by with_reducible apply tF_X6_thingFor <;> sa) (fun _ hq => ?_)) | ((with_reducible apply tF_X6_thingFor) <;> sa) | (with_reducible refine T_obdI (by with_reducible apply tF_X8_appendTo <;> sa) (fun _ _ _ => ?_)) | ((with_reducible apply tF_X8_appendTo) <;> sa))
set_option maxHeartbeats 2000000 in
theorem tB_X8_constantOf_22 {Λ : sLay} (S : sSt) (hs : Sh Λ S) : T (B_X8_constantOf_22 Λ.2.2 S ) (fun r : Option Nat => okK Λ 5 r) := by
  unfold B_X8_constantOf_22
  repeat' (first | sp | st1)
set_option maxHeartbeats 2000000 in
theorem tF_X8_constantOf {Λ : sLay} (S : sSt) (hs : Sh Λ S) (p0 : Nat) (tp0 : isK Λ 8 p0) (p1 : Int32) (p2 : Int32) : T (F_X8_constantOf Λ.2.2 S p0 p1 p2) (fun r : Option Nat => okK Λ 5 r) := by
  unfold F_X8_constantOf
  repeat' (first | sp | st1 | (with_reducible refine T_bind (by with_reducible apply tF_X7_at <;> sa) (fun _ hq => ?_)) | ((with_reducible apply tF_X7_at) <;> sa) | ((with_reducible apply tB_X8_constantOf_22) <;> sa) | (with_reducible refine T_bind (by with_reducible apply tF_X8_isBelow <;> sa) (fun _ hq => ?_)) | ((with_reducible apply tF_X8_isBelow) <;> sa) | (with_reducible refine T_bind (by with_reducible apply tF_X8_keyOf <;> sa) (fun _ hq => ?_)) | ((with_reducible apply tF_X8_keyOf) <;> sa) | (with_reducible refine T_bind (by with_reducible apply tF_X6_thingFor <;> sa) (fun _ hq => ?_)) | ((with_reducible apply tF_X6_thingFor) <;> sa))
set_option maxHeartbeats 2000000 in
theorem tB_X8_chain_29 {Λ : sLay} (S : sSt) (hs : Sh Λ S) (p0 : Nat) (tp0 : isK Λ 8 p0) (p3 : Int32) (p4 : Int32) (p5 : Nat) (tp5 : isK Λ 5 p5) : T (B_X8_chain_29 Λ.2.2 S p0 p3 p4 p5) (fun r : Int32 × sSt => Sh Λ r.2) := by
  unfold B_X8_chain_29
  repeat' (first | sp | st1 | (with_reducible refine T_bind (by with_reducible apply tF_X0_follow <;> sa) (fun _ hq => ?_)) | ((with_reducible apply tF_X0_follow) <;> sa) | (with_reducible refine T_bind (by with_reducible apply tF_X0_metAt <;> sa) (fun _ hq => ?_)) | ((with_reducible apply tF_X0_metAt) <;> sa) | (with_reducible refine T_bind (by with_reducible apply tF_X8_nameOf <;> sa) (fun _ hq => ?_)) | ((with_reducible apply tF_X8_nameOf) <;> sa))
set_option maxHeartbeats 2000000 in
theorem tF_X8_chain {Λ : sLay} (S : sSt) (hs : Sh Λ S) (p0 : Nat) (tp0 : isK Λ 8 p0) (p1 : Int32) (p2 : Int32) (p3 : Int32) (p4 : Int32) : T (F_X8_chain Λ.2.2 S p0 p1 p2 p3 p4) (fun r : Int32 × sSt => Sh Λ r.2) := by
  unfold F_X8_chain
  repeat' (first | sp | st1 | (with_reducible refine T_bind (by with_reducible apply tF_X8_constantOf <;> sa) (fun _ hq => ?_)) | ((with_reducible apply tF_X8_constantOf) <;> sa) | ((with_reducible apply tB_X8_chain_29) <;> sa))
set_option maxHeartbeats 2000000 in
theorem tF_X8_clear {Λ : sLay} (S : sSt) (hs : Sh Λ S) (p0 : Nat) (tp0 : isK Λ 8 p0) : T (F_X8_clear Λ.2.2 S p0) (fun r : Int32 × sSt => Sh Λ r.2) := by
  unfold F_X8_clear
  repeat' (first | sp | st1 | (with_reducible refine T_bind (by with_reducible apply tF_X7_thereNow <;> sa) (fun _ hq => ?_)) | ((with_reducible apply tF_X7_thereNow) <;> sa) | (with_reducible refine T_bind (by with_reducible apply tF_X7_dropAll <;> sa) (fun _ hq => ?_)) | ((with_reducible apply tF_X7_dropAll) <;> sa))
set_option maxHeartbeats 2000000 in
theorem tB_X8_coarse_116 {Λ : sLay} (S : sSt) (hs : Sh Λ S) {n91 : Nat} (k91 : sSt → Nat → Int32 → Int32 → Int32 → Option (Int32 × sSt)) (hk91 : ∀ (S : sSt) (hs : Sh Λ S) (p0 : Nat) (tp0 : isK Λ 8 p0) (p1 : Int32) (p2 : Int32) (p3 : Int32), (m31 p3 n91) → T (k91 S p0 p1 p2 p3) (fun r : Int32 × sSt => Sh Λ r.2)) (p0 : Nat) (tp0 : isK Λ 8 p0) (p1 : Int32) (p2 : Int32) (p3 : Int32) (f0 : m31 p3 (n91 + 1)) (f1 : b31 p3) : T (B_X8_coarse_116 Λ.2.2 k91 S p0 p1 p2 p3) (fun r : Int32 × sSt => Sh Λ r.2) := by
  unfold B_X8_coarse_116
  repeat' (first | sp | st1 | ((with_reducible apply hk91) <;> sa))
set_option maxHeartbeats 2000000 in
theorem tY_X8_coarse_91 {Λ : sLay} (S : sSt) (hs : Sh Λ S) {n : Nat} (rec : sSt → Nat → Int32 → Int32 → Int32 → Option (Int32 × sSt)) (hrec : ∀ (S : sSt) (hs : Sh Λ S) (p0 : Nat) (tp0 : isK Λ 8 p0) (p1 : Int32) (p2 : Int32) (p3 : Int32), (m31 p3 n) → T (rec S p0 p1 p2 p3) (fun r : Int32 × sSt => Sh Λ r.2)) (p0 : Nat) (tp0 : isK Λ 8 p0) (p1 : Int32) (p2 : Int32) (p3 : Int32) (f0 : m31 p3 (n + 1)) : T (Y_X8_coarse_91 Λ.2.2 rec S p0 p1 p2 p3) (fun r : Int32 × sSt => Sh Λ r.2) := by
  unfold Y_X8_coarse_91
  repeat' (first | sp | st1 | (with_reducible refine T_bind (by with_reducible apply tF_J6_bitCount_0f7a4 <;> sa) (fun _ hq => ?_)) | ((with_reducible apply tF_J6_bitCount_0f7a4) <;> sa) | (with_reducible refine T_bind (by with_reducible apply tF_X2_reachOf <;> sa) (fun _ hq => ?_)) | ((with_reducible apply tF_X2_reachOf) <;> sa) | ((with_reducible apply tB_X8_coarse_116) <;> sa) | ((with_reducible apply hrec) <;> sa))
theorem tL_X8_coarse_91 {Λ : sLay} : ∀ (n : Nat) (S : sSt) (hs : Sh Λ S) (p0 : Nat) (tp0 : isK Λ 8 p0) (p1 : Int32) (p2 : Int32) (p3 : Int32) (_ : m31 p3 n), T (L_X8_coarse_91 Λ.2.2 n S p0 p1 p2 p3) (fun r : Int32 × sSt => Sh Λ r.2) := by
  intro n
  induction n with
  | zero => intro S hs p0 tp0 p1 p2 p3 f0; exact (m31.no f0).elim
  | succ n ih =>
    intro S hs p0 tp0 p1 p2 p3 f0
    exact tY_X8_coarse_91 S hs  (rec := L_X8_coarse_91 Λ.2.2 n) (hrec := ih)  (p0 := p0) (tp0 := tp0) (p1 := p1) (p2 := p2) (p3 := p3) (f0 := f0)
set_option maxHeartbeats 2000000 in
theorem tB_X8_coarse_81 {Λ : sLay} (S : sSt) (hs : Sh Λ S) {n26 : Nat} (k26 : sSt → Nat → Int32 → Int32 → Option (Int32 × sSt)) (hk26 : ∀ (S : sSt) (hs : Sh Λ S) (p0 : Nat) (tp0 : isK Λ 8 p0) (p1 : Int32) (p2 : Int32), (m31 p2 n26) → T (k26 S p0 p1 p2) (fun r : Int32 × sSt => Sh Λ r.2)) (p0 : Nat) (tp0 : isK Λ 8 p0) (p1 : Int32) (p2 : Int32) (f0 : m31 p2 (n26 + 1)) (f1 : b31 p2) : T (B_X8_coarse_81 Λ.2.2 k26 S p0 p1 p2) (fun r : Int32 × sSt => Sh Λ r.2) := by
  unfold B_X8_coarse_81
  repeat' (first | sp | st1 | ((with_reducible apply hk26) <;> sa))
set_option maxHeartbeats 2000000 in
theorem tB_X8_coarse_75 {Λ : sLay} (S : sSt) (hs : Sh Λ S) {n26 : Nat} (k26 : sSt → Nat → Int32 → Int32 → Option (Int32 × sSt)) (hk26 : ∀ (S : sSt) (hs : Sh Λ S) (p0 : Nat) (tp0 : isK Λ 8 p0) (p1 : Int32) (p2 : Int32), (m31 p2 n26) → T (k26 S p0 p1 p2) (fun r : Int32 × sSt => Sh Λ r.2)) (p0 : Nat) (tp0 : isK Λ 8 p0) (p1 : Int32) (p2 : Int32) (f0 : m31 p2 (n26 + 1)) (f1 : b31 p2) : T (B_X8_coarse_75 Λ.2.2 k26 S p0 p1 p2) (fun r : Int32 × sSt => Sh Λ r.2) := by
  unfold B_X8_coarse_75
  repeat' (first | sp | st1 | ((with_reducible apply tB_X8_coarse_81) <;> sa) | ((with_reducible apply hk26) <;> sa))
set_option maxHeartbeats 2000000 in
theorem tB_X8_coarse_61 {Λ : sLay} (S : sSt) (hs : Sh Λ S) {n26 : Nat} (k26 : sSt → Nat → Int32 → Int32 → Option (Int32 × sSt)) (hk26 : ∀ (S : sSt) (hs : Sh Λ S) (p0 : Nat) (tp0 : isK Λ 8 p0) (p1 : Int32) (p2 : Int32), (m31 p2 n26) → T (k26 S p0 p1 p2) (fun r : Int32 × sSt => Sh Λ r.2)) (p0 : Nat) (tp0 : isK Λ 8 p0) (p1 : Int32) (p2 : Int32) (s0 : Int32) (f0 : m31 p2 (n26 + 1)) (f1 : b31 p2) : T (B_X8_coarse_61 Λ.2.2 k26 S p0 p1 p2 s0) (fun r : Int32 × sSt => Sh Λ r.2) := by
  unfold B_X8_coarse_61
  repeat' (first | sp | st1 | ((with_reducible apply tB_X8_coarse_75) <;> sa) | ((with_reducible apply tB_X8_coarse_81) <;> sa) | ((with_reducible apply hk26) <;> sa))
set_option maxHeartbeats 2000000 in
theorem tY_X8_coarse_26 {Λ : sLay} (S : sSt) (hs : Sh Λ S) {n : Nat} (rec : sSt → Nat → Int32 → Int32 → Option (Int32 × sSt)) (hrec : ∀ (S : sSt) (hs : Sh Λ S) (p0 : Nat) (tp0 : isK Λ 8 p0) (p1 : Int32) (p2 : Int32), (m31 p2 n) → T (rec S p0 p1 p2) (fun r : Int32 × sSt => Sh Λ r.2)) (p0 : Nat) (tp0 : isK Λ 8 p0) (p1 : Int32) (p2 : Int32) (f0 : m31 p2 (n + 1)) : T (Y_X8_coarse_26 Λ.2.2 rec S p0 p1 p2) (fun r : Int32 × sSt => Sh Λ r.2) := by
  unfold Y_X8_coarse_26
  repeat' (first | sp | st1 | ((with_reducible apply tL_X8_coarse_91) <;> sa) | (with_reducible refine T_bind (by with_reducible apply tF_X7_at <;> sa) (fun _ hq => ?_)) | ((with_reducible apply tF_X7_at) <;> sa) | ((with_reducible apply tB_X8_coarse_61) <;> sa) | (with_reducible refine T_obdI (by with_reducible apply tF_X4_reasonFor <;> sa) (fun _ _ _ => ?_)) | ((with_reducible apply tF_X4_reasonFor) <;> sa) | ((with_reducible apply hrec) <;> sa))
theorem tL_X8_coarse_26 {Λ : sLay} : ∀ (n : Nat) (S : sSt) (hs : Sh Λ S) (p0 : Nat) (tp0 : isK Λ 8 p0) (p1 : Int32) (p2 : Int32) (_ : m31 p2 n), T (L_X8_coarse_26 Λ.2.2 n S p0 p1 p2) (fun r : Int32 × sSt => Sh Λ r.2) := by
  intro n
  induction n with
  | zero => intro S hs p0 tp0 p1 p2 f0; exact (m31.no f0).elim
  | succ n ih =>
    intro S hs p0 tp0 p1 p2 f0
    exact tY_X8_coarse_26 S hs  (rec := L_X8_coarse_26 Λ.2.2 n) (hrec := ih)  (p0 := p0) (tp0 := tp0) (p1 := p1) (p2 := p2) (f0 := f0)
set_option maxHeartbeats 2000000 in
theorem tF_X8_coarse {Λ : sLay} (S : sSt) (hs : Sh Λ S) (p0 : Nat) (tp0 : isK Λ 8 p0) : T (F_X8_coarse Λ.2.2 S p0) (fun r : Int32 × sSt => Sh Λ r.2) := by
  unfold F_X8_coarse
  repeat' (first | sp | st1 | (with_reducible refine T_bind (by with_reducible apply tF_X0_settleAll <;> sa) (fun _ hq => ?_)) | ((with_reducible apply tF_X0_settleAll) <;> sa) | (with_reducible refine T_bind (by with_reducible apply tF_X2_arrange <;> sa) (fun _ hq => ?_)) | ((with_reducible apply tF_X2_arrange) <;> sa) | ((with_reducible apply tL_X8_coarse_26) <;> sa))
set_option maxHeartbeats 2000000 in
theorem tF_X8_count {Λ : sLay} (S : sSt) (hs : Sh Λ S) (p0 : Nat) (tp0 : isK Λ 8 p0) (p1 : Int32) : T (F_X8_count Λ.2.2 S p0 p1) (fun r : Int32 × sSt => Sh Λ r.2) := by
  unfold F_X8_count
  repeat' (first | sp | st1 | (with_reducible refine T_bind (by with_reducible apply tF_X7_thereNow <;> sa) (fun _ hq => ?_)) | ((with_reducible apply tF_X7_thereNow) <;> sa) | (with_reducible refine T_bind (by with_reducible apply tF_X2_arrange <;> sa) (fun _ hq => ?_)) | ((with_reducible apply tF_X2_arrange) <;> sa))
set_option maxHeartbeats 2000000 in
theorem tF_X8_makeOne {Λ : sLay} (S : sSt) (hs : Sh Λ S) (p0 : Nat) (tp0 : isK Λ 8 p0) (p1 : Nat) (tp1 : isK Λ 6 p1) : T (F_X8_makeOne Λ.2.2 S p0 (some p1)) (fun r : sSt => Sh Λ r) := by
  unfold F_X8_makeOne
  repeat' (first | sp | st1 | (with_reducible refine T_bind (by with_reducible apply tF_X4_write <;> sa) (fun _ hq => ?_)) | ((with_reducible apply tF_X4_write) <;> sa))
set_option maxHeartbeats 2000000 in
theorem tF_X8_force {Λ : sLay} (S : sSt) (hs : Sh Λ S) (p0 : Nat) (tp0 : isK Λ 8 p0) (p1 : Int32) : T (F_X8_force Λ.2.2 S p0 p1) (fun r : Int32 × sSt => Sh Λ r.2) := by
  unfold F_X8_force
  repeat' (first | sp | st1 | (with_reducible refine T_bind (by with_reducible apply tF_X7_at <;> sa) (fun _ hq => ?_)) | ((with_reducible apply tF_X7_at) <;> sa) | (with_reducible refine T_bind (by with_reducible apply tF_X0_settleAll <;> sa) (fun _ hq => ?_)) | ((with_reducible apply tF_X0_settleAll) <;> sa) | (with_reducible refine T_bind (by with_reducible apply tF_X8_makeOne <;> sa) (fun _ hq => ?_)) | ((with_reducible apply tF_X8_makeOne) <;> sa))
set_option maxHeartbeats 2000000 in
theorem tF_X8_found {Λ : sLay} (S : sSt) (hs : Sh Λ S) (p0 : Nat) (tp0 : isK Λ 8 p0) (p1 : Int32) (p2 : Int32) (p3 : Int32) : T (F_X8_found Λ.2.2 S p0 p1 p2 p3) (fun r : Int32 => True) := by
  unfold F_X8_found
  repeat' (first | sp | st1 | (with_reducible refine T_bind (by with_reducible apply tF_X7_at <;> sa) (fun _ hq => ?_)) | ((with_reducible apply tF_X7_at) <;> sa) | (with_reducible refine T_bind (by with_reducible apply tF_X8_isBelow <;> sa) (fun _ hq => ?_)) | ((with_reducible apply tF_X8_isBelow) <;> sa) | (with_reducible refine T_bind (by with_reducible apply tF_X8_keyOf <;> sa) (fun _ hq => ?_)) | ((with_reducible apply tF_X8_keyOf) <;> sa) | (with_reducible refine T_bind (by with_reducible apply tF_X7_lookFrom <;> sa) (fun _ hq => ?_)) | ((with_reducible apply tF_X7_lookFrom) <;> sa))
set_option maxHeartbeats 2000000 in
theorem tB_X8_generated_59 {Λ : sLay} (S : sSt) (hs : Sh Λ S) (p2 : Int32) (p3 : Nat) (tp3 : isK Λ 6 p3) : T (B_X8_generated_59 Λ.2.2 S p2 p3) (fun r : Int32 × sSt => Sh Λ r.2) := by
  unfold B_X8_generated_59
  repeat' (first | sp | st1)
set_option maxHeartbeats 2000000 in
theorem tB_X8_generated_36 {Λ : sLay} (S : sSt) (hs : Sh Λ S) (p2 : Int32) (p3 : Nat) (tp3 : isK Λ 6 p3) (p4 : Option Nat) (tp4 : okK Λ 6 p4) : T (B_X8_generated_36 Λ.2.2 S p2 p3 p4) (fun r : Int32 × sSt => Sh Λ r.2) := by
  unfold B_X8_generated_36
  repeat' (first | sp | st1 | ((with_reducible apply tB_X8_generated_59) <;> sa))
set_option maxHeartbeats 2000000 in
theorem tF_X8_generated {Λ : sLay} (S : sSt) (hs : Sh Λ S) (p0 : Nat) (tp0 : isK Λ 8 p0) (p1 : Int32) (p2 : Int32) : T (F_X8_generated Λ.2.2 S p0 p1 p2) (fun r : Int32 × sSt => Sh Λ r.2) := by
  unfold F_X8_generated
  repeat' (first | sp | st1 | (with_reducible refine T_bind (by with_reducible apply tF_X7_at <;> sa) (fun _ hq => ?_)) | ((with_reducible apply tF_X7_at) <;> sa) | ((with_reducible apply tB_X8_generated_36) <;> sa))
set_option maxHeartbeats 2000000 in
theorem tB_X8_give_70 {Λ : sLay} (S : sSt) (hs : Sh Λ S) (p4 : Int64) (p6 : Int32) (p9 : Option Nat) (tp9 : okK Λ 5 p9) (s0 : Option Nat) (ts0 : okK Λ 5 s0) (bp6 : p6 = 0 ∨ p6 = 1) : T (B_X8_give_70 Λ.2.2 S p4 p6 p9 s0) (fun r : Int32 × sSt => Sh Λ r.2) := by
  unfold B_X8_give_70
  repeat' (first | sp | st1)
set_option maxHeartbeats 2000000 in
theorem tF_X8_give {Λ : sLay} (S : sSt) (hs : Sh Λ S) (p0 : Nat) (tp0 : isK Λ 8 p0) (p1 : Int32) (p2 : Int32) (p3 : Int32) (p4 : Int64) (p6 : Int32) (bp6 : p6 = 0 ∨ p6 = 1) : T (F_X8_give Λ.2.2 S p0 p1 p2 p3 p4 p6) (fun r : Int32 × sSt => Sh Λ r.2) := by
  unfold F_X8_give
  repeat' (first | sp | st1 | (with_reducible refine T_bind (by with_reducible apply tF_X7_at <;> sa) (fun _ hq => ?_)) | ((with_reducible apply tF_X7_at) <;> sa) | (with_reducible refine T_bind (by with_reducible apply tF_X8_isBelow <;> sa) (fun _ hq => ?_)) | ((with_reducible apply tF_X8_isBelow) <;> sa) | (with_reducible refine T_bind (by with_reducible apply tF_X8_keyOf <;> sa) (fun _ hq => ?_)) | ((with_reducible apply tF_X8_keyOf) <;> sa) | (with_reducible refine T_bind (by with_reducible apply tF_X6_thingFor <;> sa) (fun _ hq => ?_)) | ((with_reducible apply tF_X6_thingFor) <;> sa) | (with_reducible refine T_obdK (by with_reducible apply tF_X6_addThing <;> sa) (fun _ _ _ _ => ?_)) | ((with_reducible apply tF_X6_addThing) <;> sa) | ((with_reducible apply tB_X8_give_70) <;> sa))
set_option maxHeartbeats 2000000 in
theorem tF_X8_leads {Λ : sLay} (S : sSt) (hs : Sh Λ S) (p0 : Nat) (tp0 : isK Λ 8 p0) (p1 : Int32) (p2 : Int32) : T (F_X8_leads Λ.2.2 S p0 p1 p2) (fun r : Int32 × sSt => Sh Λ r.2) := by
  unfold F_X8_leads
  repeat' (first | sp | st1 | (with_reducible refine T_bind (by with_reducible apply tF_X7_at <;> sa) (fun _ hq => ?_)) | ((with_reducible apply tF_X7_at) <;> sa) | (with_reducible refine T_bind (by with_reducible apply tF_X2_arrange <;> sa) (fun _ hq => ?_)) | ((with_reducible apply tF_X2_arrange) <;> sa) | (with_reducible refine T_bind (by with_reducible apply tF_X2_reachOf <;> sa) (fun _ hq => ?_)) | ((with_reducible apply tF_X2_reachOf) <;> sa))
set_option maxHeartbeats 2000000 in
theorem tB_X8_make_108 {Λ : sLay} (S : sSt) (hs : Sh Λ S) {n39 : Nat} (k39 : sSt → Nat → Int32 → Int32 → Int32 → Option (Int32 × sSt)) (hk39 : ∀ (S : sSt) (hs : Sh Λ S) (p0 : Nat) (tp0 : isK Λ 8 p0) (p1 : Int32) (p2 : Int32) (p3 : Int32), (m31 p3 n39) → T (k39 S p0 p1 p2 p3) (fun r : Int32 × sSt => Sh Λ r.2)) (p0 : Nat) (tp0 : isK Λ 8 p0) (p1 : Int32) (p2 : Int32) (p3 : Int32) (f0 : m31 p3 (n39 + 1)) (f1 : b31 p3) : T (B_X8_make_108 Λ.2.2 k39 S p0 p1 p2 p3) (fun r : Int32 × sSt => Sh Λ r.2) := by
  unfold B_X8_make_108
  repeat' (first | sp | st1 | ((with_reducible apply hk39) <;> sa))
set_option maxHeartbeats 2000000 in
theorem tY_X8_make_39 {Λ : sLay} (S : sSt) (hs : Sh Λ S) {n : Nat} (rec : sSt → Nat → Int32 → Int32 → Int32 → Option (Int32 × sSt)) (hrec : ∀ (S : sSt) (hs : Sh Λ S) (p0 : Nat) (tp0 : isK Λ 8 p0) (p1 : Int32) (p2 : Int32) (p3 : Int32), (m31 p3 n) → T (rec S p0 p1 p2 p3) (fun r : Int32 × sSt => Sh Λ r.2)) (p0 : Nat) (tp0 : isK Λ 8 p0) (p1 : Int32) (p2 : Int32) (p3 : Int32) (f0 : m31 p3 (n + 1)) : T (Y_X8_make_39 Λ.2.2 rec S p0 p1 p2 p3) (fun r : Int32 × sSt => Sh Λ r.2) := by
  unfold Y_X8_make_39
  repeat' (first | sp | st1 | (with_reducible refine T_bind (by with_reducible apply tF_X1_length <;> sa) (fun _ hq => ?_)) | ((with_reducible apply tF_X1_length) <;> sa) | (with_reducible refine T_bind (by with_reducible apply tF_X1_at <;> sa) (fun _ hq => ?_)) | ((with_reducible apply tF_X1_at) <;> sa) | (with_reducible refine T_bind (by with_reducible apply tF_X7_at <;> sa) (fun _ hq => ?_)) | ((with_reducible apply tF_X7_at) <;> sa) | ((with_reducible apply tB_X8_make_108) <;> sa) | (with_reducible refine T_obdI (by with_reducible apply tF_X4_reasonFor <;> sa) (fun _ _ _ => ?_)) | ((with_reducible apply tF_X4_reasonFor) <;> sa) | (with_reducible refine T_bind (by with_reducible apply tF_X8_makeOne <;> sa) (fun _ hq => ?_)) | ((with_reducible apply tF_X8_makeOne) <;> sa) | ((with_reducible apply hrec) <;> sa))
theorem tL_X8_make_39 {Λ : sLay} : ∀ (n : Nat) (S : sSt) (hs : Sh Λ S) (p0 : Nat) (tp0 : isK Λ 8 p0) (p1 : Int32) (p2 : Int32) (p3 : Int32) (_ : m31 p3 n), T (L_X8_make_39 Λ.2.2 n S p0 p1 p2 p3) (fun r : Int32 × sSt => Sh Λ r.2) := by
  intro n
  induction n with
  | zero => intro S hs p0 tp0 p1 p2 p3 f0; exact (m31.no f0).elim
  | succ n ih =>
    intro S hs p0 tp0 p1 p2 p3 f0
    exact tY_X8_make_39 S hs  (rec := L_X8_make_39 Λ.2.2 n) (hrec := ih)  (p0 := p0) (tp0 := tp0) (p1 := p1) (p2 := p2) (p3 := p3) (f0 := f0)
set_option maxHeartbeats 2000000 in
theorem tF_X8_make {Λ : sLay} (S : sSt) (hs : Sh Λ S) (p0 : Nat) (tp0 : isK Λ 8 p0) (p1 : Int32) : T (F_X8_make Λ.2.2 S p0 p1) (fun r : Int32 × sSt => Sh Λ r.2) := by
  unfold F_X8_make
  repeat' (first | sp | st1 | (with_reducible refine T_bind (by with_reducible apply tF_X0_settleAll <;> sa) (fun _ hq => ?_)) | ((with_reducible apply tF_X0_settleAll) <;> sa) | (with_reducible refine T_bind (by with_reducible apply tF_X2_arrange <;> sa) (fun _ hq => ?_)) | ((with_reducible apply tF_X2_arrange) <;> sa) | ((with_reducible apply tL_X8_make_39) <;> sa))
set_option maxHeartbeats 2000000 in
theorem tF_X8_missing {Λ : sLay} (S : sSt) (hs : Sh Λ S) (p0 : Nat) (tp0 : isK Λ 8 p0) (p1 : Int32) : T (F_X8_missing Λ.2.2 S p0 p1) (fun r : Int32 × sSt => Sh Λ r.2) := by
  unfold F_X8_missing
  repeat' (first | sp | st1 | (with_reducible refine T_bind (by with_reducible apply tF_X7_at <;> sa) (fun _ hq => ?_)) | ((with_reducible apply tF_X7_at) <;> sa) | (with_reducible refine T_obdI (by with_reducible apply tF_X7_missingOf <;> sa) (fun _ _ _ => ?_)) | ((with_reducible apply tF_X7_missingOf) <;> sa))
set_option maxHeartbeats 2000000 in
theorem tB_X8_needs_52 {Λ : sLay} (S : sSt) (hs : Sh Λ S) {n15 : Nat} (k15 : sSt → Nat → Int32 → Int32 → Option (Int32 × sSt)) (hk15 : ∀ (S : sSt) (hs : Sh Λ S) (p0 : Nat) (tp0 : isK Λ 8 p0) (p1 : Int32) (p2 : Int32), (m31 p2 n15) → T (k15 S p0 p1 p2) (fun r : Int32 × sSt => Sh Λ r.2)) (p0 : Nat) (tp0 : isK Λ 8 p0) (p1 : Int32) (p2 : Int32) (f0 : m31 p2 (n15 + 1)) (f1 : b31 p2) : T (B_X8_needs_52 Λ.2.2 k15 S p0 p1 p2) (fun r : Int32 × sSt => Sh Λ r.2) := by
  unfold B_X8_needs_52
  repeat' (first | sp | st1 | ((with_reducible apply hk15) <;> sa))
set_option maxHeartbeats 2000000 in
theorem tY_X8_needs_15 {Λ : sLay} (S : sSt) (hs : Sh Λ S) {n : Nat} (rec : sSt → Nat → Int32 → Int32 → Option (Int32 × sSt)) (hrec : ∀ (S : sSt) (hs : Sh Λ S) (p0 : Nat) (tp0 : isK Λ 8 p0) (p1 : Int32) (p2 : Int32), (m31 p2 n) → T (rec S p0 p1 p2) (fun r : Int32 × sSt => Sh Λ r.2)) (p0 : Nat) (tp0 : isK Λ 8 p0) (p1 : Int32) (p2 : Int32) (f0 : m31 p2 (n + 1)) : T (Y_X8_needs_15 Λ.2.2 rec S p0 p1 p2) (fun r : Int32 × sSt => Sh Λ r.2) := by
  unfold Y_X8_needs_15
  repeat' (first | sp | st1 | (with_reducible refine T_bind (by with_reducible apply tF_X7_at <;> sa) (fun _ hq => ?_)) | ((with_reducible apply tF_X7_at) <;> sa) | ((with_reducible apply tB_X8_needs_52) <;> sa) | (with_reducible refine T_obdI (by with_reducible apply tF_X4_reasonFor <;> sa) (fun _ _ _ => ?_)) | ((with_reducible apply tF_X4_reasonFor) <;> sa) | ((with_reducible apply hrec) <;> sa))
theorem tL_X8_needs_15 {Λ : sLay} : ∀ (n : Nat) (S : sSt) (hs : Sh Λ S) (p0 : Nat) (tp0 : isK Λ 8 p0) (p1 : Int32) (p2 : Int32) (_ : m31 p2 n), T (L_X8_needs_15 Λ.2.2 n S p0 p1 p2) (fun r : Int32 × sSt => Sh Λ r.2) := by
  intro n
  induction n with
  | zero => intro S hs p0 tp0 p1 p2 f0; exact (m31.no f0).elim
  | succ n ih =>
    intro S hs p0 tp0 p1 p2 f0
    exact tY_X8_needs_15 S hs  (rec := L_X8_needs_15 Λ.2.2 n) (hrec := ih)  (p0 := p0) (tp0 := tp0) (p1 := p1) (p2 := p2) (f0 := f0)
set_option maxHeartbeats 2000000 in
theorem tF_X8_needs {Λ : sLay} (S : sSt) (hs : Sh Λ S) (p0 : Nat) (tp0 : isK Λ 8 p0) : T (F_X8_needs Λ.2.2 S p0) (fun r : Int32 × sSt => Sh Λ r.2) := by
  unfold F_X8_needs
  repeat' (first | sp | st1 | (with_reducible refine T_bind (by with_reducible apply tF_X0_settleAll <;> sa) (fun _ hq => ?_)) | ((with_reducible apply tF_X0_settleAll) <;> sa) | ((with_reducible apply tL_X8_needs_15) <;> sa))
set_option maxHeartbeats 2000000 in
theorem tB_X8_output_20 {Λ : sLay} (S : sSt) (hs : Sh Λ S) : T (B_X8_output_20 Λ.2.2 S ) (fun r : Int64 => True) := by
  unfold B_X8_output_20
  repeat' (first | sp | st1)
set_option maxHeartbeats 2000000 in
theorem tF_X8_output {Λ : sLay} (S : sSt) (hs : Sh Λ S) (p0 : Nat) (tp0 : isK Λ 8 p0) (p1 : Int32) : T (F_X8_output Λ.2.2 S p0 p1) (fun r : Int64 => True) := by
  unfold F_X8_output
  repeat' (first | sp | st1 | (with_reducible refine T_bind (by with_reducible apply tF_X7_at <;> sa) (fun _ hq => ?_)) | ((with_reducible apply tF_X7_at) <;> sa) | ((with_reducible apply tB_X8_output_20) <;> sa) | (with_reducible refine T_bind (by with_reducible apply tF_X3_digest <;> sa) (fun _ hq => ?_)) | ((with_reducible apply tF_X3_digest) <;> sa))
set_option maxHeartbeats 2000000 in
theorem tB_X8_reader_39 {Λ : sLay} (S : sSt) (hs : Sh Λ S) (p0 : Nat) (tp0 : isK Λ 8 p0) (p1 : Int32) (p2 : Int32) (p3 : Nat) (tp3 : isK Λ 6 p3) (s0 : Int32) (bp2 : p2 = 0 ∨ p2 = 1) : T (B_X8_reader_39 Λ.2.2 S p0 p1 p2 p3 s0) (fun r : Int32 × sSt => Sh Λ r.2) := by
  unfold B_X8_reader_39
  repeat' (first | sp | st1 | (with_reducible refine T_bind (by with_reducible apply tF_X7_freeFrom <;> sa) (fun _ hq => ?_)) | ((with_reducible apply tF_X7_freeFrom) <;> sa))
set_option maxHeartbeats 2000000 in
theorem tF_X8_reader {Λ : sLay} (S : sSt) (hs : Sh Λ S) (p0 : Nat) (tp0 : isK Λ 8 p0) (p1 : Int32) (p2 : Int32) (bp2 : p2 = 0 ∨ p2 = 1) : T (F_X8_reader Λ.2.2 S p0 p1 p2) (fun r : Int32 × sSt => Sh Λ r.2) := by
  unfold F_X8_reader
  repeat' (first | sp | st1 | (with_reducible refine T_bind (by with_reducible apply tF_X7_at <;> sa) (fun _ hq => ?_)) | ((with_reducible apply tF_X7_at) <;> sa) | ((with_reducible apply tB_X8_reader_39) <;> sa))
set_option maxHeartbeats 2000000 in
theorem tF_X8_remove {Λ : sLay} (S : sSt) (hs : Sh Λ S) (p0 : Nat) (tp0 : isK Λ 8 p0) (p1 : Int32) : T (F_X8_remove Λ.2.2 S p0 p1) (fun r : Int32 × sSt => Sh Λ r.2) := by
  unfold F_X8_remove
  repeat' (first | sp | st1 | (with_reducible refine T_bind (by with_reducible apply tF_X7_at <;> sa) (fun _ hq => ?_)) | ((with_reducible apply tF_X7_at) <;> sa) | (with_reducible refine T_bind (by with_reducible apply tF_X7_dropOne <;> sa) (fun _ hq => ?_)) | ((with_reducible apply tF_X7_dropOne) <;> sa) | (with_reducible refine T_bind (by with_reducible apply tF_X7_thereNow <;> sa) (fun _ hq => ?_)) | ((with_reducible apply tF_X7_thereNow) <;> sa))
set_option maxHeartbeats 2000000 in
theorem tF_X8_ring {Λ : sLay} (S : sSt) (hs : Sh Λ S) (p0 : Nat) (tp0 : isK Λ 8 p0) (p1 : Int32) : T (F_X8_ring Λ.2.2 S p0 p1) (fun r : Int32 × sSt => Sh Λ r.2) := by
  unfold F_X8_ring
  repeat' (first | sp | st1 | (with_reducible refine T_bind (by with_reducible apply tF_X7_at <;> sa) (fun _ hq => ?_)) | ((with_reducible apply tF_X7_at) <;> sa) | (with_reducible refine T_bind (by with_reducible apply tF_X2_arrange <;> sa) (fun _ hq => ?_)) | ((with_reducible apply tF_X2_arrange) <;> sa) | (with_reducible refine T_bind (by with_reducible apply tF_X2_ringOf <;> sa) (fun _ hq => ?_)) | ((with_reducible apply tF_X2_ringOf) <;> sa))
set_option maxHeartbeats 2000000 in
theorem tF_X8_round {Λ : sLay} (S : sSt) (hs : Sh Λ S) (p0 : Nat) (tp0 : isK Λ 8 p0) (p1 : Int32) (p2 : Int32) : T (F_X8_round Λ.2.2 S p0 p1 p2) (fun r : Int32 × sSt => Sh Λ r.2) := by
  unfold F_X8_round
  repeat' (first | sp | st1 | (with_reducible refine T_bind (by with_reducible apply tF_X8_constantOf <;> sa) (fun _ hq => ?_)) | ((with_reducible apply tF_X8_constantOf) <;> sa) | (with_reducible refine T_bind (by with_reducible apply tF_X0_settleAll <;> sa) (fun _ hq => ?_)) | ((with_reducible apply tF_X0_settleAll) <;> sa))
set_option maxHeartbeats 2000000 in
theorem tF_X8_size {Λ : sLay} (S : sSt) (hs : Sh Λ S) (p0 : Nat) (tp0 : isK Λ 8 p0) (p1 : Int32) : T (F_X8_size Λ.2.2 S p0 p1) (fun r : Int32 × sSt => Sh Λ r.2) := by
  unfold F_X8_size
  repeat' (first | sp | st1 | (with_reducible refine T_bind (by with_reducible apply tF_X7_at <;> sa) (fun _ hq => ?_)) | ((with_reducible apply tF_X7_at) <;> sa) | (with_reducible refine T_bind (by with_reducible apply tF_X0_settleAll <;> sa) (fun _ hq => ?_)) | ((with_reducible apply tF_X0_settleAll) <;> sa) | (with_reducible refine T_obdR (by with_reducible apply tF_X4_now <;> sa) (fun _ _ _ _ => ?_)) | ((with_reducible apply tF_X4_now) <;> sa) | (with_reducible refine T_bind (by with_reducible apply tF_X3_length <;> sa) (fun _ hq => ?_)) | ((with_reducible apply tF_X3_length) <;> sa))
set_option maxHeartbeats 2000000 in
theorem tF_X8_take {Λ : sLay} (S : sSt) (hs : Sh Λ S) (p0 : Nat) (tp0 : isK Λ 8 p0) (p1 : Int32) (p2 : Int32) (p3 : Int32) : T (F_X8_take Λ.2.2 S p0 p1 p2 p3) (fun r : Int32 × sSt => Sh Λ r.2) := by
  unfold F_X8_take
  repeat' (first | sp | st1 | (with_reducible refine T_bind (by with_reducible apply tF_X7_at <;> sa) (fun _ hq => ?_)) | ((with_reducible apply tF_X7_at) <;> sa) | (with_reducible refine T_bind (by with_reducible apply tF_X8_isBelow <;> sa) (fun _ hq => ?_)) | ((with_reducible apply tF_X8_isBelow) <;> sa) | (with_reducible refine T_bind (by with_reducible apply tF_X8_keyOf <;> sa) (fun _ hq => ?_)) | ((with_reducible apply tF_X8_keyOf) <;> sa) | (with_reducible refine T_obdI (by with_reducible apply tF_X6_dropThing <;> sa) (fun _ _ _ => ?_)) | ((with_reducible apply tF_X6_dropThing) <;> sa))
set_option maxHeartbeats 2000000 in
theorem tF_X8_unuse {Λ : sLay} (S : sSt) (hs : Sh Λ S) (p0 : Nat) (tp0 : isK Λ 8 p0) (p1 : Int32) (p2 : Int32) : T (F_X8_unuse Λ.2.2 S p0 p1 p2) (fun r : Int32 × sSt => Sh Λ r.2) := by
  unfold F_X8_unuse
  repeat' (first | sp | st1 | (with_reducible refine T_bind (by with_reducible apply tF_X7_at <;> sa) (fun _ hq => ?_)) | ((with_reducible apply tF_X7_at) <;> sa) | (with_reducible refine T_bind (by with_reducible apply tF_X1_length <;> sa) (fun _ hq => ?_)) | ((with_reducible apply tF_X1_length) <;> sa) | (with_reducible refine T_bind (by with_reducible apply tF_X8_isBelow <;> sa) (fun _ hq => ?_)) | ((with_reducible apply tF_X8_isBelow) <;> sa) | (with_reducible refine T_bind (by with_reducible apply tF_X1_dropAt <;> sa) (fun _ hq => ?_)) | ((with_reducible apply tF_X1_dropAt) <;> sa))
set_option maxHeartbeats 2000000 in
theorem tF_X8_unway {Λ : sLay} (S : sSt) (hs : Sh Λ S) (p0 : Nat) (tp0 : isK Λ 8 p0) (p1 : Int32) : T (F_X8_unway Λ.2.2 S p0 p1) (fun r : Int32 × sSt => Sh Λ r.2) := by
  unfold F_X8_unway
  repeat' (first | sp | st1 | (with_reducible refine T_bind (by with_reducible apply tF_X7_at <;> sa) (fun _ hq => ?_)) | ((with_reducible apply tF_X7_at) <;> sa) | (with_reducible refine T_bind (by with_reducible apply tF_X1_length <;> sa) (fun _ hq => ?_)) | ((with_reducible apply tF_X1_length) <;> sa) | (with_reducible refine T_bind (by with_reducible apply tF_X1_empty <;> sa) (fun _ hq => ?_)) | ((with_reducible apply tF_X1_empty) <;> sa))
set_option maxHeartbeats 2000000 in
theorem tB_X8_use_26 {Λ : sLay} (S : sSt) (hs : Sh Λ S) (p2 : Int32) (p3 : Int32) (p4 : Nat) (tp4 : isK Λ 6 p4) : T (B_X8_use_26 Λ.2.2 S p2 p3 p4) (fun r : Int32 × sSt => Sh Λ r.2) := by
  unfold B_X8_use_26
  repeat' (first | sp | st1 | (with_reducible refine T_bind (by with_reducible apply tF_X8_isBelow <;> sa) (fun _ hq => ?_)) | ((with_reducible apply tF_X8_isBelow) <;> sa) | (with_reducible refine T_bind (by with_reducible apply tF_X8_keyOf <;> sa) (fun _ hq => ?_)) | ((with_reducible apply tF_X8_keyOf) <;> sa) | (with_reducible refine T_bind (by with_reducible apply tF_X1_has <;> sa) (fun _ hq => ?_)) | ((with_reducible apply tF_X1_has) <;> sa) | (with_reducible refine T_obdI (by with_reducible apply tF_X8_appendTo <;> sa) (fun _ _ _ => ?_)) | ((with_reducible apply tF_X8_appendTo) <;> sa))
set_option maxHeartbeats 2000000 in
theorem tF_X8_use {Λ : sLay} (S : sSt) (hs : Sh Λ S) (p0 : Nat) (tp0 : isK Λ 8 p0) (p1 : Int32) (p2 : Int32) (p3 : Int32) : T (F_X8_use Λ.2.2 S p0 p1 p2 p3) (fun r : Int32 × sSt => Sh Λ r.2) := by
  unfold F_X8_use
  repeat' (first | sp | st1 | (with_reducible refine T_bind (by with_reducible apply tF_X7_at <;> sa) (fun _ hq => ?_)) | ((with_reducible apply tF_X7_at) <;> sa) | ((with_reducible apply tB_X8_use_26) <;> sa))
set_option maxHeartbeats 2000000 in
theorem tF_X8_value {Λ : sLay} (S : sSt) (hs : Sh Λ S) (p0 : Nat) (tp0 : isK Λ 8 p0) (p1 : Int32) (p2 : Int32) : T (F_X8_value Λ.2.2 S p0 p1 p2) (fun r : Int64 × sSt => Sh Λ r.2) := by
  unfold F_X8_value
  repeat' (first | sp | st1 | (with_reducible refine T_bind (by with_reducible apply tF_X8_constantOf <;> sa) (fun _ hq => ?_)) | ((with_reducible apply tF_X8_constantOf) <;> sa) | (with_reducible refine T_bind (by with_reducible apply tF_X0_settleAll <;> sa) (fun _ hq => ?_)) | ((with_reducible apply tF_X0_settleAll) <;> sa))
set_option maxHeartbeats 2000000 in
theorem tF_X8_way {Λ : sLay} (S : sSt) (hs : Sh Λ S) (p0 : Nat) (tp0 : isK Λ 8 p0) (p1 : Int32) (p2 : Int32) : T (F_X8_way Λ.2.2 S p0 p1 p2) (fun r : Int32 × sSt => Sh Λ r.2) := by
  unfold F_X8_way
  repeat' (first | sp | st1 | (with_reducible refine T_bind (by with_reducible apply tF_X7_at <;> sa) (fun _ hq => ?_)) | ((with_reducible apply tF_X7_at) <;> sa) | (with_reducible refine T_bind (by with_reducible apply tF_X1_has <;> sa) (fun _ hq => ?_)) | ((with_reducible apply tF_X1_has) <;> sa) | (with_reducible refine T_obdI (by with_reducible apply tF_X8_appendTo <;> sa) (fun _ _ _ => ?_)) | ((with_reducible apply tF_X8_appendTo) <;> sa))
set_option maxHeartbeats 2000000 in
theorem tF_X8_why {Λ : sLay} (S : sSt) (hs : Sh Λ S) (p0 : Nat) (tp0 : isK Λ 8 p0) (p1 : Int32) : T (F_X8_why Λ.2.2 S p0 p1) (fun r : Int32 × sSt => Sh Λ r.2) := by
  unfold F_X8_why
  repeat' (first | sp | st1 | (with_reducible refine T_bind (by with_reducible apply tF_X7_at <;> sa) (fun _ hq => ?_)) | ((with_reducible apply tF_X7_at) <;> sa) | (with_reducible refine T_bind (by with_reducible apply tF_X0_settleAll <;> sa) (fun _ hq => ?_)) | ((with_reducible apply tF_X0_settleAll) <;> sa) | (with_reducible refine T_obdI (by with_reducible apply tF_X4_reasonFor <;> sa) (fun _ _ _ => ?_)) | ((with_reducible apply tF_X4_reasonFor) <;> sa))
