/-! Safety: what a method's function gives is there, and the store keeps its shape. -/
def refF : List Nat := [0, 2, 40, 80, 81, 82, 120, 160, 161, 201, 241, 242, 243, 244, 246, 280, 320, 321, 322, 323]
/-- the shape: references are of their kinds, and those that a constructor lays are there; lengths are ints -/
def Sh (Λ : sLay) (S : sSt) : Prop := TS Λ S ∧ (∀ f, f ∈ refF → ∀ a, isK Λ (f / 40) a → ∃ b, gFR S f a = some b) ∧ ∀ q a, isK Λ q a → Λ.2.2 a < 2147483648
theorem Sh.sFI {Λ : sLay} {S : sSt} (h : Sh Λ S) (i a : Nat) (v : Int32) : Sh Λ (sFI S i a v) := ⟨h.1.sFI i a v, h.2.1, h.2.2⟩
theorem Sh.sFJ {Λ : sLay} {S : sSt} (h : Sh Λ S) (i a : Nat) (v : Int64) : Sh Λ (sFJ S i a v) := ⟨h.1.sFJ i a v, h.2.1, h.2.2⟩
theorem Sh.sAI {Λ : sLay} {S : sSt} (h : Sh Λ S) (a k : Nat) (v : Int32) : Sh Λ (sAI S a k v) := ⟨h.1.sAI a k v, h.2.1, h.2.2⟩
theorem Sh.sAJ {Λ : sLay} {S : sSt} (h : Sh Λ S) (a k : Nat) (v : Int64) : Sh Λ (sAJ S a k v) := ⟨h.1.sAJ a k v, h.2.1, h.2.2⟩
theorem Sh.sAR {Λ : sLay} {S : sSt} (h : Sh Λ S) (a k : Nat) (v : Option Nat) (hv : okK Λ (ek (Λ.2.1 a)) v) : Sh Λ (sAR S a k v) := ⟨h.1.sAR a k v hv, h.2.1, h.2.2⟩
theorem okK.of {Λ : sLay} {q a : Nat} (h : isK Λ q a) : okK Λ q (some a) := fun b hb => by cases hb; exact h
theorem okK.no {Λ : sLay} {q : Nat} : okK Λ q none := fun b hb => by cases hb
theorem okK.ek {Λ : sLay} {q t : Nat} {x : Option Nat} (ht : isK Λ q t) (h : okK Λ (ek q) x) : okK Λ (ek (Λ.2.1 t)) x := by rw [ht.2]; exact h
def T {β : Type} (x : Option β) (P : β → Prop) : Prop := ∃ r, x = some r ∧ P r
section
variable {β γ : Type} {P : γ → Prop} {Λ : sLay} {S : sSt}
theorem T_some {r : γ} (h : P r) : T (some r) P := ⟨r, rfl, h⟩
theorem T_bsome {a : β} {f : β → Option γ} (h : T (f a) P) : T (Option.bind (some a) f) P := h
theorem T_bind {x : Option β} {f : β → Option γ} {Q : β → Prop} (h : T x Q) (k : ∀ v, Q v → T (f v) P) : T (Option.bind x f) P := by
  obtain ⟨v, e, q⟩ := h
  rw [e]
  exact k v q
theorem T_obd {x : Option (β × sSt)} {f : β → sSt → Option γ} {Q : β × sSt → Prop} (h : T x Q) (k : ∀ v S1, Q (v, S1) → T (f v S1) P) : T (obd x f) P := by
  obtain ⟨⟨v, S1⟩, e, q⟩ := h
  rw [e]
  exact k v S1 q
theorem T_bnd {x : β} {g : β → Option γ} (h : T (g x) P) : T (bnd x g) P := h
theorem T_bndE {f a b : Nat} {g : Option Nat → Option γ} (e : gFR S f a = some b) (h : T (g (some b)) P) : T (bnd (gFR S f a) g) P := by
  unfold bnd
  rw [e]
  exact h
theorem T_bndR {f a : Nat} {g : Option Nat → Option γ} (hs : Sh Λ S) (hm : f ∈ refF) (ha : isK Λ (f / 40) a) (k : ∀ b, gFR S f a = some b → isK Λ (rk f) b → T (g (some b)) P) : T (bnd (gFR S f a) g) P := by
  obtain ⟨b, e⟩ := hs.2.1 f hm a ha
  exact T_bndE e (k b e (hs.1.1 f a b e))
theorem T_bndA {q t i : Nat} {g : Option Nat → Option γ} (hs : Sh Λ S) (ht : isK Λ q t) (k : ∀ x, okK Λ (ek q) x → T (g x) P) : T (bnd (gAR S t i) g) P := k _ (by have := hs.1.2 t i; rw [ht.2] at this; exact this)
theorem T_bndS {S1 : sSt} {g : sSt → Option γ} (h : Sh Λ S1) (k : ∀ S2, Sh Λ S2 → T (g S2) P) : T (bnd S1 g) P := k S1 h
theorem T_gi {i : Int32} {n : Nat} {F : Option γ} (h : vp_in i n) (k : T F P) : T (gi i n F) P := by
  unfold gi
  rw [if_neg h]
  exact k
theorem T_gb {v : Int32} {F : Option γ} (h : v = 0 ∨ v = 1) (k : T F P) : T (gb v F) P := by
  unfold gb
  rw [if_pos h]
  exact k
theorem T_ite {c : Prop} [Decidable c] {A B : Option γ} (h1 : c → T A P) (h2 : ¬ c → T B P) : T (if c then A else B) P := by
  by_cases h : c
  · rw [if_pos h]; exact h1 h
  · rw [if_neg h]; exact h2 h
theorem T_onl {q : Nat} {x : Option Nat} {F : Option γ} {f : Nat → Option γ} (hx : okK Λ q x) (h1 : T F P) (h2 : ∀ a, isK Λ q a → T (f a) P) : T (onl x F f) P := by
  cases x with
  | none => exact h1
  | some a => exact h2 a (hx a rfl)
end
theorem vp_c {Λ : sLay} {i : Int32} {q a : Nat} {S : sSt} (hs : Sh Λ S) (ha : isK Λ q a) (h0 : ¬ i < 0) (h1 : ¬ nI (Λ.2.2 a) ≤ i) : vp_in i (Λ.2.2 a) := by
  have hN := hs.2.2 q a ha
  obtain ⟨j, hj, rfl⟩ := nI_of h0
  have : j < Λ.2.2 a := by
    rcases Nat.lt_or_ge j (Λ.2.2 a) with h | h
    · exact h
    · exact absurd (nI_le h hj) h1
  exact vp_in_nI this hN
theorem vp_d {Λ : sLay} {i : Int32} {q a : Nat} {S : sSt} (hs : Sh Λ S) (ha : isK Λ q a) (h0 : ¬ i < 0) (h1 : i < nI (Λ.2.2 a)) : vp_in i (Λ.2.2 a) := vp_c hs ha h0 (Int32.not_le.mpr h1)
/-- a loop's place: not under 0, and the fuel outlasts it -/
def m31 (v : Int32) (n : Nat) : Prop := 0 ≤ v.toInt ∧ 2147483648 < v.toInt + n
def b31 (v : Int32) : Prop := v.toInt < 2147483647
theorem m31.no {v : Int32} (h : m31 v 0) : False := by
  have h1 := Int32.toInt_le v
  obtain ⟨h2, h3⟩ := h
  have e : Int32.maxValue.toInt = 2147483647 := rfl
  simp only [Int32.toInt_maxValue] at *
  omega
theorem m31.nn {v : Int32} {n : Nat} (h : m31 v n) : ¬ v < 0 := by
  rw [Int32.lt_iff_toInt_lt]
  have e : (0 : Int32).toInt = 0 := rfl
  have := h.1
  omega
theorem b31.of {b v : Int32} (h : ¬ b ≤ v) : b31 v := by
  rw [Int32.le_iff_toInt_le] at h
  have h1 := Int32.toInt_le b
  simp only [Int32.toInt_maxValue] at *
  unfold b31
  omega
theorem m31.up {v : Int32} {n : Nat} (h : m31 v (n + 1)) (hb : b31 v) : m31 (v + 1) n := by
  obtain ⟨h1, h2⟩ := h
  unfold b31 at hb
  have e : (v + 1).toInt = v.toInt + 1 := by
    rw [Int32.toInt_add]
    have e1 : (1 : Int32).toInt = 1 := rfl
    rw [e1, Int.bmod_def]
    omega
  unfold m31
  rw [e]
  omega
theorem m31.zero : m31 0 FU := by
  unfold m31 FU
  have e : (0 : Int32).toInt = 0 := rfl
  rw [e]
  omega
syntax "sk" : tactic
macro_rules | `(tactic| sk) => `(tactic| first | assumption | exact okK.no | (refine okK.of ?_; assumption) | (refine okK.ek (by assumption) ?_; first | assumption | (refine okK.of ?_; assumption)))
syntax "sh" : tactic
macro_rules | `(tactic| sh) => `(tactic| first | assumption | exact Sh.sFI (by assumption) _ _ _ | exact Sh.sFJ (by assumption) _ _ _ | exact Sh.sAI (by assumption) _ _ _ | exact Sh.sAJ (by assumption) _ _ _ | exact Sh.sAR (by assumption) _ _ _ (by sk))
syntax "sv" : tactic
macro_rules | `(tactic| sv) => `(tactic| first
  | exact vp_c (by assumption) (by assumption) (by first | assumption | exact m31.nn (by assumption)) (by assumption)
  | exact vp_d (by assumption) (by assumption) (by first | assumption | exact m31.nn (by assumption)) (by assumption))
syntax "st1" : tactic
macro_rules | `(tactic| st1) => `(tactic| first
  | refine T_some ?_
  | refine T_bsome ?_
  | refine T_bndE (by assumption) ?_
  | refine T_bndR (by assumption) (by decide) (by assumption) (fun _ _ _ => ?_)
  | refine T_bndA (by assumption) (by assumption) (fun _ _ => ?_)
  | refine T_bndS (by sh) (fun _ _ => ?_)
  | refine T_bnd ?_
  | refine T_gi (by sv) ?_
  | refine T_gb (by first | assumption | decide) ?_
  | refine T_ite (fun _ => ?_) (fun _ => ?_)
  | refine T_onl (by sk) ?_ (fun _ _ => ?_))
syntax "sp" : tactic
macro_rules | `(tactic| sp) => `(tactic| first | exact True.intro | sh | sk | exact ⟨by sh, by sk⟩)
syntax "sa" : tactic
macro_rules | `(tactic| sa) => `(tactic| first | assumption | sk | sh | exact m31.zero | exact m31.up (by assumption) (by first | assumption | exact b31.of (by assumption)) | exact b31.of (by assumption))
set_option maxHeartbeats 2000000 in
theorem tB_X0_addPart_33 {Λ : sLay} (S : sSt) (hs : Sh Λ S) (p0 : Nat) (tp0 : isK Λ 5 p0) : T (B_X0_addPart_33 Λ.2.2 S p0) (fun r : sSt => Sh Λ r) := by
  unfold B_X0_addPart_33
  repeat' (first | sp | st1)
set_option maxHeartbeats 2000000 in
theorem tF_X0_addPart {Λ : sLay} (S : sSt) (hs : Sh Λ S) (p0 : Nat) (tp0 : isK Λ 5 p0) (p1 : Option Nat) (tp1 : okK Λ 5 p1) : T (F_X0_addPart Λ.2.2 S (some p0) p1) (fun r : sSt => Sh Λ r) := by
  unfold F_X0_addPart
  repeat' (first | sp | st1 | ((with_reducible apply tB_X0_addPart_33) <;> sa))
set_option maxHeartbeats 2000000 in
theorem tF_X0_close {Λ : sLay} (S : sSt) (hs : Sh Λ S) (p0 : Option Nat) (tp0 : okK Λ 5 p0) : T (F_X0_close Λ.2.2 S p0) (fun r : sSt => Sh Λ r) := by
  unfold F_X0_close
  repeat' (first | sp | st1)
set_option maxHeartbeats 2000000 in
theorem tF_X0_enter {Λ : sLay} (S : sSt) (hs : Sh Λ S) (p0 : Nat) (tp0 : isK Λ 0 p0) (p1 : Nat) (tp1 : isK Λ 5 p1) : T (F_X0_enter Λ.2.2 S p0 (some p1)) (fun r : sSt => Sh Λ r) := by
  unfold F_X0_enter
  repeat' (first | sp | st1)
set_option maxHeartbeats 2000000 in
theorem tF_X7_at {Λ : sLay} (S : sSt) (hs : Sh Λ S) (p0 : Nat) (tp0 : isK Λ 7 p0) (p1 : Int32) : T (F_X7_at Λ.2.2 S p0 p1) (fun r : Option Nat => okK Λ 6 r) := by
  unfold F_X7_at
  repeat' (first | sp | st1)
set_option maxHeartbeats 2000000 in
theorem tF_X6_thingCount {Λ : sLay} (S : sSt) (hs : Sh Λ S) (p0 : Nat) (tp0 : isK Λ 6 p0) : T (F_X6_thingCount Λ.2.2 S p0) (fun r : Int32 => True) := by
  unfold F_X6_thingCount
  repeat' (first | sp | st1)
set_option maxHeartbeats 2000000 in
theorem tF_X6_thingAt {Λ : sLay} (S : sSt) (hs : Sh Λ S) (p0 : Nat) (tp0 : isK Λ 6 p0) (p1 : Int32) : T (F_X6_thingAt Λ.2.2 S p0 p1) (fun r : Option Nat => okK Λ 5 r) := by
  unfold F_X6_thingAt
  repeat' (first | sp | st1)
set_option maxHeartbeats 2000000 in
theorem tB_X0_refresh_76 {Λ : sLay} (S : sSt) (hs : Sh Λ S) {n2 : Nat} (k2 : sSt → (Option Nat) → Int32 → Option sSt) (hk2 : ∀ (S : sSt) (hs : Sh Λ S) (p0 : Nat) (tp0 : isK Λ 7 p0) (p1 : Int32), m31 p1 n2 → T (k2 S (some p0) p1) (fun r : sSt => Sh Λ r)) (p0 : Nat) (tp0 : isK Λ 7 p0) (p1 : Int32) (f0 : m31 p1 (n2 + 1)) (f1 : b31 p1) : T (B_X0_refresh_76 Λ.2.2 k2 S p0 p1) (fun r : sSt => Sh Λ r) := by
  unfold B_X0_refresh_76
  repeat' (first | sp | st1 | ((with_reducible apply hk2) <;> sa))
set_option maxHeartbeats 2000000 in
theorem tB_X0_refresh_70 {Λ : sLay} (S : sSt) (hs : Sh Λ S) {n2 : Nat} (k2 : sSt → (Option Nat) → Int32 → Option sSt) (hk2 : ∀ (S : sSt) (hs : Sh Λ S) (p0 : Nat) (tp0 : isK Λ 7 p0) (p1 : Int32), m31 p1 n2 → T (k2 S (some p0) p1) (fun r : sSt => Sh Λ r)) {n18 : Nat} (k18 : sSt → Nat → Int32 → (Option Nat) → Int32 → Option sSt) (hk18 : ∀ (S : sSt) (hs : Sh Λ S) (p0 : Nat) (tp0 : isK Λ 7 p0) (p1 : Int32) (p2 : Option Nat) (tp2 : okK Λ 6 p2) (p3 : Int32), m31 p3 n18 → m31 p1 (n2 + 1) → b31 p1 → T (k18 S p0 p1 p2 p3) (fun r : sSt => Sh Λ r)) (p0 : Nat) (tp0 : isK Λ 7 p0) (p1 : Int32) (p2 : Nat) (tp2 : isK Λ 6 p2) (p3 : Int32) (f0 : m31 p1 (n2 + 1)) (f1 : b31 p1) (f2 : m31 p3 (n18 + 1)) (f3 : b31 p3) : T (B_X0_refresh_70 Λ.2.2 k2 k18 S p0 p1 p2 p3) (fun r : sSt => Sh Λ r) := by
  unfold B_X0_refresh_70
  repeat' (first | sp | st1 | ((with_reducible apply hk2) <;> sa) | ((with_reducible apply hk18) <;> sa))
set_option maxHeartbeats 2000000 in
theorem tY_X0_refresh_18 {Λ : sLay} (S : sSt) (hs : Sh Λ S) {n2 : Nat} (k2 : sSt → (Option Nat) → Int32 → Option sSt) (hk2 : ∀ (S : sSt) (hs : Sh Λ S) (p0 : Nat) (tp0 : isK Λ 7 p0) (p1 : Int32), m31 p1 n2 → T (k2 S (some p0) p1) (fun r : sSt => Sh Λ r)) {n : Nat} (rec : sSt → Nat → Int32 → (Option Nat) → Int32 → Option sSt) (hrec : ∀ (S : sSt) (hs : Sh Λ S) (p0 : Nat) (tp0 : isK Λ 7 p0) (p1 : Int32) (p2 : Option Nat) (tp2 : okK Λ 6 p2) (p3 : Int32), m31 p3 n → m31 p1 (n2 + 1) → b31 p1 → T (rec S p0 p1 p2 p3) (fun r : sSt => Sh Λ r)) (p0 : Nat) (tp0 : isK Λ 7 p0) (p1 : Int32) (p2 : Option Nat) (tp2 : okK Λ 6 p2) (p3 : Int32) (f0 : m31 p3 (n + 1)) (f1 : m31 p1 (n2 + 1)) (f2 : b31 p1) : T (Y_X0_refresh_18 Λ.2.2 k2 rec S p0 p1 p2 p3) (fun r : sSt => Sh Λ r) := by
  unfold Y_X0_refresh_18
  repeat' (first | sp | st1 | ((with_reducible apply tB_X0_refresh_76) <;> sa) | (refine T_bind (by with_reducible apply tF_X6_thingCount <;> sa) ?_; intro _ hq) | ((with_reducible apply tF_X6_thingCount) <;> sa) | (refine T_bind (by with_reducible apply tF_X6_thingAt <;> sa) ?_; intro _ hq) | ((with_reducible apply tF_X6_thingAt) <;> sa) | ((with_reducible apply tB_X0_refresh_70) <;> sa) | ((with_reducible apply hk2) <;> sa) | ((with_reducible apply hrec) <;> sa))
theorem tL_X0_refresh_18 {Λ : sLay} {n2 : Nat} (k2 : sSt → (Option Nat) → Int32 → Option sSt) (hk2 : ∀ (S : sSt) (hs : Sh Λ S) (p0 : Nat) (tp0 : isK Λ 7 p0) (p1 : Int32), m31 p1 n2 → T (k2 S (some p0) p1) (fun r : sSt => Sh Λ r)) : ∀ (n : Nat) (S : sSt) (hs : Sh Λ S) (p0 : Nat) (tp0 : isK Λ 7 p0) (p1 : Int32) (p2 : Option Nat) (tp2 : okK Λ 6 p2) (p3 : Int32) (_ : m31 p3 n) (_ : m31 p1 (n2 + 1)) (_ : b31 p1), T (L_X0_refresh_18 Λ.2.2 k2 n S p0 p1 p2 p3) (fun r : sSt => Sh Λ r) := by
  intro n
  induction n with
  | zero => intro S hs p0 tp0 p1 p2 tp2 p3 f0 f1 f2; exact (m31.no f0).elim
  | succ n ih =>
    intro S hs p0 tp0 p1 p2 tp2 p3 f0 f1 f2
    exact tY_X0_refresh_18  (rec := L_X0_refresh_18 Λ.2.2 k2 n) (hrec := ih) (k2 := k2) (hk2 := hk2) (p0 := p0) (tp0 := tp0) (p1 := p1) (p2 := p2) (tp2 := tp2) (p3 := p3) (f0 := f0) (f1 := f1) (f2 := f2)
set_option maxHeartbeats 2000000 in
theorem tY_X0_refresh_2 {Λ : sLay} (S : sSt) (hs : Sh Λ S) {n : Nat} (rec : sSt → (Option Nat) → Int32 → Option sSt) (hrec : ∀ (S : sSt) (hs : Sh Λ S) (p0 : Nat) (tp0 : isK Λ 7 p0) (p1 : Int32), m31 p1 n → T (rec S (some p0) p1) (fun r : sSt => Sh Λ r)) (p0 : Nat) (tp0 : isK Λ 7 p0) (p1 : Int32) (f0 : m31 p1 (n + 1)) : T (Y_X0_refresh_2 Λ.2.2 rec S (some p0) p1) (fun r : sSt => Sh Λ r) := by
  unfold Y_X0_refresh_2
  repeat' (first | sp | st1 | (refine T_bind (by with_reducible apply tF_X7_at <;> sa) ?_; intro _ hq) | ((with_reducible apply tF_X7_at) <;> sa) | ((with_reducible apply tL_X0_refresh_18) <;> sa) | ((with_reducible apply hrec) <;> sa))
theorem tL_X0_refresh_2 {Λ : sLay} : ∀ (n : Nat) (S : sSt) (hs : Sh Λ S) (p0 : Nat) (tp0 : isK Λ 7 p0) (p1 : Int32) (_ : m31 p1 n), T (L_X0_refresh_2 Λ.2.2 n S (some p0) p1) (fun r : sSt => Sh Λ r) := by
  intro n
  induction n with
  | zero => intro S hs p0 tp0 p1 f0; exact (m31.no f0).elim
  | succ n ih =>
    intro S hs p0 tp0 p1 f0
    exact tY_X0_refresh_2  (rec := L_X0_refresh_2 Λ.2.2 n) (hrec := ih)  (p0 := p0) (tp0 := tp0) (p1 := p1) (f0 := f0)
set_option maxHeartbeats 2000000 in
theorem tF_X0_refresh {Λ : sLay} (S : sSt) (hs : Sh Λ S) (p0 : Nat) (tp0 : isK Λ 7 p0) : T (F_X0_refresh Λ.2.2 S (some p0)) (fun r : sSt => Sh Λ r) := by
  unfold F_X0_refresh
  repeat' (first | sp | st1 | ((with_reducible apply tL_X0_refresh_2) <;> sa))
set_option maxHeartbeats 2000000 in
theorem tF_X1_length {Λ : sLay} (S : sSt) (hs : Sh Λ S) (p0 : Nat) (tp0 : isK Λ 1 p0) : T (F_X1_length Λ.2.2 S p0) (fun r : Int32 => True) := by
  unfold F_X1_length
  repeat' (first | sp | st1)
set_option maxHeartbeats 2000000 in
theorem tF_X1_at {Λ : sLay} (S : sSt) (hs : Sh Λ S) (p0 : Nat) (tp0 : isK Λ 1 p0) (p1 : Int32) : T (F_X1_at Λ.2.2 S p0 p1) (fun r : Int32 => True) := by
  unfold F_X1_at
  repeat' (first | sp | st1)
set_option maxHeartbeats 2000000 in
theorem tF_X8_keyOf {Λ : sLay} (S : sSt) (hs : Sh Λ S) (p0 : Int32) (p1 : Int32) : T (F_X8_keyOf Λ.2.2 S p0 p1) (fun r : Int32 => True) := by
  unfold F_X8_keyOf
  repeat' (first | sp | st1)
set_option maxHeartbeats 2000000 in
theorem tB_X6_thingFor_48 {Λ : sLay} (S : sSt) (hs : Sh Λ S) {n2 : Nat} (k2 : Nat → Int32 → Int32 → Option (Option Nat)) (hk2 : ∀ (p0 : Nat) (tp0 : isK Λ 6 p0) (p1 : Int32) (p2 : Int32), m31 p2 n2 → T (k2 p0 p1 p2) (fun r : Option Nat => okK Λ 5 r)) (p0 : Nat) (tp0 : isK Λ 6 p0) (p1 : Int32) (p2 : Int32) (f0 : m31 p2 (n2 + 1)) (f1 : b31 p2) : T (B_X6_thingFor_48 Λ.2.2 S k2 p0 p1 p2) (fun r : Option Nat => okK Λ 5 r) := by
  unfold B_X6_thingFor_48
  repeat' (first | sp | st1 | ((with_reducible apply hk2) <;> sa))
set_option maxHeartbeats 2000000 in
theorem tY_X6_thingFor_2 {Λ : sLay} (S : sSt) (hs : Sh Λ S) {n : Nat} (rec : Nat → Int32 → Int32 → Option (Option Nat)) (hrec : ∀ (p0 : Nat) (tp0 : isK Λ 6 p0) (p1 : Int32) (p2 : Int32), m31 p2 n → T (rec p0 p1 p2) (fun r : Option Nat => okK Λ 5 r)) (p0 : Nat) (tp0 : isK Λ 6 p0) (p1 : Int32) (p2 : Int32) (f0 : m31 p2 (n + 1)) : T (Y_X6_thingFor_2 Λ.2.2 S rec p0 p1 p2) (fun r : Option Nat => okK Λ 5 r) := by
  unfold Y_X6_thingFor_2
  repeat' (first | sp | st1 | ((with_reducible apply tB_X6_thingFor_48) <;> sa) | ((with_reducible apply hrec) <;> sa))
theorem tL_X6_thingFor_2 {Λ : sLay} (S : sSt) (hs : Sh Λ S) : ∀ (n : Nat) (p0 : Nat) (tp0 : isK Λ 6 p0) (p1 : Int32) (p2 : Int32) (_ : m31 p2 n), T (L_X6_thingFor_2 Λ.2.2 S n p0 p1 p2) (fun r : Option Nat => okK Λ 5 r) := by
  intro n
  induction n with
  | zero => intro p0 tp0 p1 p2 f0; exact (m31.no f0).elim
  | succ n ih =>
    intro p0 tp0 p1 p2 f0
    exact tY_X6_thingFor_2 (hs := hs) (rec := L_X6_thingFor_2 Λ.2.2 S n) (hrec := ih)  (p0 := p0) (tp0 := tp0) (p1 := p1) (p2 := p2) (f0 := f0)
set_option maxHeartbeats 2000000 in
theorem tF_X6_thingFor {Λ : sLay} (S : sSt) (hs : Sh Λ S) (p0 : Nat) (tp0 : isK Λ 6 p0) (p1 : Int32) : T (F_X6_thingFor Λ.2.2 S p0 p1) (fun r : Option Nat => okK Λ 5 r) := by
  unfold F_X6_thingFor
  repeat' (first | sp | st1 | ((with_reducible apply tL_X6_thingFor_2) <;> sa))
set_option maxHeartbeats 2000000 in
theorem tB_X7_lookFrom_75 {Λ : sLay} (S : sSt) (hs : Sh Λ S) {n15 : Nat} (k15 : Nat → Nat → Int32 → Int32 → Option (Option Nat)) (hk15 : ∀ (p0 : Nat) (tp0 : isK Λ 7 p0) (p1 : Nat) (tp1 : isK Λ 6 p1) (p2 : Int32) (p4 : Int32), m31 p4 n15 → T (k15 p0 p1 p2 p4) (fun r : Option Nat => okK Λ 5 r)) (p0 : Nat) (tp0 : isK Λ 7 p0) (p1 : Nat) (tp1 : isK Λ 6 p1) (p2 : Int32) (p4 : Int32) (f0 : m31 p4 (n15 + 1)) (f1 : b31 p4) : T (B_X7_lookFrom_75 Λ.2.2 S k15 p0 p1 p2 p4) (fun r : Option Nat => okK Λ 5 r) := by
  unfold B_X7_lookFrom_75
  repeat' (first | sp | st1 | ((with_reducible apply hk15) <;> sa))
set_option maxHeartbeats 2000000 in
theorem tB_X7_lookFrom_57 {Λ : sLay} (S : sSt) (hs : Sh Λ S) {n15 : Nat} (k15 : Nat → Nat → Int32 → Int32 → Option (Option Nat)) (hk15 : ∀ (p0 : Nat) (tp0 : isK Λ 7 p0) (p1 : Nat) (tp1 : isK Λ 6 p1) (p2 : Int32) (p4 : Int32), m31 p4 n15 → T (k15 p0 p1 p2 p4) (fun r : Option Nat => okK Λ 5 r)) (p0 : Nat) (tp0 : isK Λ 7 p0) (p1 : Nat) (tp1 : isK Λ 6 p1) (p2 : Int32) (p4 : Int32) (s0 : Option Nat) (ts0 : okK Λ 5 s0) (f0 : m31 p4 (n15 + 1)) (f1 : b31 p4) : T (B_X7_lookFrom_57 Λ.2.2 S k15 p0 p1 p2 p4 s0) (fun r : Option Nat => okK Λ 5 r) := by
  unfold B_X7_lookFrom_57
  repeat' (first | sp | st1 | ((with_reducible apply tB_X7_lookFrom_75) <;> sa) | ((with_reducible apply hk15) <;> sa))
set_option maxHeartbeats 2000000 in
theorem tY_X7_lookFrom_15 {Λ : sLay} (S : sSt) (hs : Sh Λ S) {n : Nat} (rec : Nat → Nat → Int32 → Int32 → Option (Option Nat)) (hrec : ∀ (p0 : Nat) (tp0 : isK Λ 7 p0) (p1 : Nat) (tp1 : isK Λ 6 p1) (p2 : Int32) (p4 : Int32), m31 p4 n → T (rec p0 p1 p2 p4) (fun r : Option Nat => okK Λ 5 r)) (p0 : Nat) (tp0 : isK Λ 7 p0) (p1 : Nat) (tp1 : isK Λ 6 p1) (p2 : Int32) (p4 : Int32) (f0 : m31 p4 (n + 1)) : T (Y_X7_lookFrom_15 Λ.2.2 S rec p0 p1 p2 p4) (fun r : Option Nat => okK Λ 5 r) := by
  unfold Y_X7_lookFrom_15
  repeat' (first | sp | st1 | (refine T_bind (by with_reducible apply tF_X1_length <;> sa) ?_; intro _ hq) | ((with_reducible apply tF_X1_length) <;> sa) | (refine T_bind (by with_reducible apply tF_X1_at <;> sa) ?_; intro _ hq) | ((with_reducible apply tF_X1_at) <;> sa) | (refine T_bind (by with_reducible apply tF_X7_at <;> sa) ?_; intro _ hq) | ((with_reducible apply tF_X7_at) <;> sa) | ((with_reducible apply tB_X7_lookFrom_57) <;> sa) | (refine T_bind (by with_reducible apply tF_X6_thingFor <;> sa) ?_; intro _ hq) | ((with_reducible apply tF_X6_thingFor) <;> sa) | ((with_reducible apply hrec) <;> sa))
theorem tL_X7_lookFrom_15 {Λ : sLay} (S : sSt) (hs : Sh Λ S) : ∀ (n : Nat) (p0 : Nat) (tp0 : isK Λ 7 p0) (p1 : Nat) (tp1 : isK Λ 6 p1) (p2 : Int32) (p4 : Int32) (_ : m31 p4 n), T (L_X7_lookFrom_15 Λ.2.2 S n p0 p1 p2 p4) (fun r : Option Nat => okK Λ 5 r) := by
  intro n
  induction n with
  | zero => intro p0 tp0 p1 tp1 p2 p4 f0; exact (m31.no f0).elim
  | succ n ih =>
    intro p0 tp0 p1 tp1 p2 p4 f0
    exact tY_X7_lookFrom_15 (hs := hs) (rec := L_X7_lookFrom_15 Λ.2.2 S n) (hrec := ih)  (p0 := p0) (tp0 := tp0) (p1 := p1) (tp1 := tp1) (p2 := p2) (p4 := p4) (f0 := f0)
set_option maxHeartbeats 2000000 in
theorem tF_X7_lookFrom {Λ : sLay} (S : sSt) (hs : Sh Λ S) (p0 : Nat) (tp0 : isK Λ 7 p0) (p1 : Nat) (tp1 : isK Λ 6 p1) (p2 : Int32) : T (F_X7_lookFrom Λ.2.2 S p0 (some p1) p2) (fun r : Option Nat => okK Λ 5 r) := by
  unfold F_X7_lookFrom
  repeat' (first | sp | st1 | (refine T_bind (by with_reducible apply tF_X6_thingFor <;> sa) ?_; intro _ hq) | ((with_reducible apply tF_X6_thingFor) <;> sa) | ((with_reducible apply tL_X7_lookFrom_15) <;> sa))
set_option maxHeartbeats 2000000 in
theorem tF_X7_partOf {Λ : sLay} (S : sSt) (hs : Sh Λ S) (p0 : Nat) (tp0 : isK Λ 7 p0) (p1 : Nat) (tp1 : isK Λ 5 p1) (p2 : Int32) : T (F_X7_partOf Λ.2.2 S p0 (some p1) p2) (fun r : Option Nat => okK Λ 5 r) := by
  unfold F_X7_partOf
  repeat' (first | sp | st1 | (refine T_bind (by with_reducible apply tF_X7_at <;> sa) ?_; intro _ hq) | ((with_reducible apply tF_X7_at) <;> sa) | (refine T_bind (by with_reducible apply tF_X1_at <;> sa) ?_; intro _ hq) | ((with_reducible apply tF_X1_at) <;> sa) | (refine T_bind (by with_reducible apply tF_X8_keyOf <;> sa) ?_; intro _ hq) | ((with_reducible apply tF_X8_keyOf) <;> sa) | (refine T_bind (by with_reducible apply tF_X7_lookFrom <;> sa) ?_; intro _ hq) | ((with_reducible apply tF_X7_lookFrom) <;> sa))
set_option maxHeartbeats 2000000 in
theorem tF_X0_note {Λ : sLay} (S : sSt) (hs : Sh Λ S) (p0 : Nat) (tp0 : isK Λ 0 p0) (p1 : Nat) (tp1 : isK Λ 5 p1) : T (F_X0_note Λ.2.2 S p0 (some p1)) (fun r : sSt => Sh Λ r) := by
  unfold F_X0_note
  repeat' (first | sp | st1)
set_option maxHeartbeats 2000000 in
theorem tB_X0_follow_153 {Λ : sLay} (S : sSt) (hs : Sh Λ S) {n21 : Nat} (k21 : sSt → Nat → (Option Nat) → Int32 → Option sSt) (hk21 : ∀ (S : sSt) (hs : Sh Λ S) (p0 : Nat) (tp0 : isK Λ 0 p0) (p2 : Nat) (tp2 : isK Λ 7 p2) (p3 : Int32), m31 p3 n21 → T (k21 S p0 (some p2) p3) (fun r : sSt => Sh Λ r)) (p0 : Nat) (tp0 : isK Λ 0 p0) (p2 : Nat) (tp2 : isK Λ 7 p2) (p3 : Int32) (f0 : m31 p3 (n21 + 1)) (f1 : b31 p3) : T (B_X0_follow_153 Λ.2.2 k21 S p0 (some p2) p3) (fun r : sSt => Sh Λ r) := by
  unfold B_X0_follow_153
  repeat' (first | sp | st1 | ((with_reducible apply hk21) <;> sa))
set_option maxHeartbeats 2000000 in
theorem tB_X0_follow_80 {Λ : sLay} (S : sSt) (hs : Sh Λ S) {n21 : Nat} (k21 : sSt → Nat → (Option Nat) → Int32 → Option sSt) (hk21 : ∀ (S : sSt) (hs : Sh Λ S) (p0 : Nat) (tp0 : isK Λ 0 p0) (p2 : Nat) (tp2 : isK Λ 7 p2) (p3 : Int32), m31 p3 n21 → T (k21 S p0 (some p2) p3) (fun r : sSt => Sh Λ r)) (p0 : Nat) (tp0 : isK Λ 0 p0) (p2 : Nat) (tp2 : isK Λ 7 p2) (p3 : Int32) (f0 : m31 p3 (n21 + 1)) (f1 : b31 p3) : T (B_X0_follow_80 Λ.2.2 k21 S p0 (some p2) p3) (fun r : sSt => Sh Λ r) := by
  unfold B_X0_follow_80
  repeat' (first | sp | st1 | ((with_reducible apply tB_X0_follow_153) <;> sa) | ((with_reducible apply hk21) <;> sa))
set_option maxHeartbeats 2000000 in
theorem tY_X0_follow_21 {Λ : sLay} (S : sSt) (hs : Sh Λ S) {n : Nat} (rec : sSt → Nat → (Option Nat) → Int32 → Option sSt) (hrec : ∀ (S : sSt) (hs : Sh Λ S) (p0 : Nat) (tp0 : isK Λ 0 p0) (p2 : Nat) (tp2 : isK Λ 7 p2) (p3 : Int32), m31 p3 n → T (rec S p0 (some p2) p3) (fun r : sSt => Sh Λ r)) (p0 : Nat) (tp0 : isK Λ 0 p0) (p2 : Nat) (tp2 : isK Λ 7 p2) (p3 : Int32) (f0 : m31 p3 (n + 1)) : T (Y_X0_follow_21 Λ.2.2 rec S p0 (some p2) p3) (fun r : sSt => Sh Λ r) := by
  unfold Y_X0_follow_21
  repeat' (first | sp | st1 | ((with_reducible apply tB_X0_follow_80) <;> sa) | (refine T_bind (by with_reducible apply tF_X1_length <;> sa) ?_; intro _ hq) | ((with_reducible apply tF_X1_length) <;> sa) | (refine T_bind (by with_reducible apply tF_X7_partOf <;> sa) ?_; intro _ hq) | ((with_reducible apply tF_X7_partOf) <;> sa) | ((with_reducible apply tB_X0_follow_153) <;> sa) | (refine T_bind (by with_reducible apply tF_X0_note <;> sa) ?_; intro _ hq) | ((with_reducible apply tF_X0_note) <;> sa) | (refine T_bind (by with_reducible apply tF_X0_enter <;> sa) ?_; intro _ hq) | ((with_reducible apply tF_X0_enter) <;> sa) | ((with_reducible apply hrec) <;> sa))
theorem tL_X0_follow_21 {Λ : sLay} : ∀ (n : Nat) (S : sSt) (hs : Sh Λ S) (p0 : Nat) (tp0 : isK Λ 0 p0) (p2 : Nat) (tp2 : isK Λ 7 p2) (p3 : Int32) (_ : m31 p3 n), T (L_X0_follow_21 Λ.2.2 n S p0 (some p2) p3) (fun r : sSt => Sh Λ r) := by
  intro n
  induction n with
  | zero => intro S hs p0 tp0 p2 tp2 p3 f0; exact (m31.no f0).elim
  | succ n ih =>
    intro S hs p0 tp0 p2 tp2 p3 f0
    exact tY_X0_follow_21  (rec := L_X0_follow_21 Λ.2.2 n) (hrec := ih)  (p0 := p0) (tp0 := tp0) (p2 := p2) (tp2 := tp2) (p3 := p3) (f0 := f0)
set_option maxHeartbeats 2000000 in
theorem tF_X0_follow {Λ : sLay} (S : sSt) (hs : Sh Λ S) (p0 : Nat) (tp0 : isK Λ 0 p0) (p1 : Nat) (tp1 : isK Λ 5 p1) (p2 : Nat) (tp2 : isK Λ 7 p2) : T (F_X0_follow Λ.2.2 S p0 (some p1) (some p2)) (fun r : sSt => Sh Λ r) := by
  unfold F_X0_follow
  repeat' (first | sp | st1 | (refine T_bind (by with_reducible apply tF_X0_refresh <;> sa) ?_; intro _ hq) | ((with_reducible apply tF_X0_refresh) <;> sa) | (refine T_bind (by with_reducible apply tF_X0_enter <;> sa) ?_; intro _ hq) | ((with_reducible apply tF_X0_enter) <;> sa) | ((with_reducible apply tL_X0_follow_21) <;> sa))
set_option maxHeartbeats 2000000 in
theorem tF_X0_metAt {Λ : sLay} (S : sSt) (hs : Sh Λ S) (p0 : Nat) (tp0 : isK Λ 0 p0) (p1 : Int32) : T (F_X0_metAt Λ.2.2 S p0 p1) (fun r : Option Nat => okK Λ 5 r) := by
  unfold F_X0_metAt
  repeat' (first | sp | st1)
set_option maxHeartbeats 2000000 in
theorem tB_X0_settle_142 {Λ : sLay} (S : sSt) (hs : Sh Λ S) {n12 : Nat} (k12 : sSt → Nat → (Option Nat) → Int32 → Option sSt) (hk12 : ∀ (S : sSt) (hs : Sh Λ S) (p0 : Nat) (tp0 : isK Λ 0 p0) (p2 : Nat) (tp2 : isK Λ 7 p2) (p3 : Int32), m31 p3 n12 → T (k12 S p0 (some p2) p3) (fun r : sSt => Sh Λ r)) (p0 : Nat) (tp0 : isK Λ 0 p0) (p2 : Nat) (tp2 : isK Λ 7 p2) (p3 : Int32) (f0 : m31 p3 (n12 + 1)) (f1 : b31 p3) : T (B_X0_settle_142 Λ.2.2 k12 S p0 (some p2) p3) (fun r : sSt => Sh Λ r) := by
  unfold B_X0_settle_142
  repeat' (first | sp | st1 | ((with_reducible apply hk12) <;> sa))
set_option maxHeartbeats 2000000 in
theorem tB_X0_settle_71 {Λ : sLay} (S : sSt) (hs : Sh Λ S) {n12 : Nat} (k12 : sSt → Nat → (Option Nat) → Int32 → Option sSt) (hk12 : ∀ (S : sSt) (hs : Sh Λ S) (p0 : Nat) (tp0 : isK Λ 0 p0) (p2 : Nat) (tp2 : isK Λ 7 p2) (p3 : Int32), m31 p3 n12 → T (k12 S p0 (some p2) p3) (fun r : sSt => Sh Λ r)) (p0 : Nat) (tp0 : isK Λ 0 p0) (p2 : Nat) (tp2 : isK Λ 7 p2) (p3 : Int32) (p4 : Option Nat) (tp4 : okK Λ 5 p4) (f0 : m31 p3 (n12 + 1)) (f1 : b31 p3) : T (B_X0_settle_71 Λ.2.2 k12 S p0 (some p2) p3 p4) (fun r : sSt => Sh Λ r) := by
  unfold B_X0_settle_71
  repeat' (first | sp | st1 | (refine T_bind (by with_reducible apply tF_X0_close <;> sa) ?_; intro _ hq) | ((with_reducible apply tF_X0_close) <;> sa) | ((with_reducible apply tB_X0_settle_142) <;> sa) | ((with_reducible apply hk12) <;> sa))
set_option maxHeartbeats 2000000 in
theorem tB_X0_settle_124 {Λ : sLay} (S : sSt) (hs : Sh Λ S) {n12 : Nat} (k12 : sSt → Nat → (Option Nat) → Int32 → Option sSt) (hk12 : ∀ (S : sSt) (hs : Sh Λ S) (p0 : Nat) (tp0 : isK Λ 0 p0) (p2 : Nat) (tp2 : isK Λ 7 p2) (p3 : Int32), m31 p3 n12 → T (k12 S p0 (some p2) p3) (fun r : sSt => Sh Λ r)) (p0 : Nat) (tp0 : isK Λ 0 p0) (p2 : Nat) (tp2 : isK Λ 7 p2) (p3 : Int32) (p4 : Nat) (tp4 : isK Λ 5 p4) (p5 : Option Nat) (tp5 : okK Λ 5 p5) (f0 : m31 p3 (n12 + 1)) (f1 : b31 p3) : T (B_X0_settle_124 Λ.2.2 k12 S p0 p2 p3 p4 p5) (fun r : sSt => Sh Λ r) := by
  unfold B_X0_settle_124
  repeat' (first | sp | st1 | (refine T_bind (by with_reducible apply tF_X0_addPart <;> sa) ?_; intro _ hq) | ((with_reducible apply tF_X0_addPart) <;> sa) | ((with_reducible apply tB_X0_settle_142) <;> sa) | ((with_reducible apply hk12) <;> sa))
set_option maxHeartbeats 2000000 in
theorem tY_X0_settle_12 {Λ : sLay} (S : sSt) (hs : Sh Λ S) {n : Nat} (rec : sSt → Nat → (Option Nat) → Int32 → Option sSt) (hrec : ∀ (S : sSt) (hs : Sh Λ S) (p0 : Nat) (tp0 : isK Λ 0 p0) (p2 : Nat) (tp2 : isK Λ 7 p2) (p3 : Int32), m31 p3 n → T (rec S p0 (some p2) p3) (fun r : sSt => Sh Λ r)) (p0 : Nat) (tp0 : isK Λ 0 p0) (p2 : Nat) (tp2 : isK Λ 7 p2) (p3 : Int32) (f0 : m31 p3 (n + 1)) : T (Y_X0_settle_12 Λ.2.2 rec S p0 (some p2) p3) (fun r : sSt => Sh Λ r) := by
  unfold Y_X0_settle_12
  repeat' (first | sp | st1 | ((with_reducible apply tB_X0_settle_71) <;> sa) | (refine T_bind (by with_reducible apply tF_X1_length <;> sa) ?_; intro _ hq) | ((with_reducible apply tF_X1_length) <;> sa) | (refine T_bind (by with_reducible apply tF_X7_partOf <;> sa) ?_; intro _ hq) | ((with_reducible apply tF_X7_partOf) <;> sa) | ((with_reducible apply tB_X0_settle_124) <;> sa) | (refine T_bind (by with_reducible apply tF_X0_enter <;> sa) ?_; intro _ hq) | ((with_reducible apply tF_X0_enter) <;> sa) | ((with_reducible apply tB_X0_settle_142) <;> sa) | ((with_reducible apply hrec) <;> sa))
theorem tL_X0_settle_12 {Λ : sLay} : ∀ (n : Nat) (S : sSt) (hs : Sh Λ S) (p0 : Nat) (tp0 : isK Λ 0 p0) (p2 : Nat) (tp2 : isK Λ 7 p2) (p3 : Int32) (_ : m31 p3 n), T (L_X0_settle_12 Λ.2.2 n S p0 (some p2) p3) (fun r : sSt => Sh Λ r) := by
  intro n
  induction n with
  | zero => intro S hs p0 tp0 p2 tp2 p3 f0; exact (m31.no f0).elim
  | succ n ih =>
    intro S hs p0 tp0 p2 tp2 p3 f0
    exact tY_X0_settle_12  (rec := L_X0_settle_12 Λ.2.2 n) (hrec := ih)  (p0 := p0) (tp0 := tp0) (p2 := p2) (tp2 := tp2) (p3 := p3) (f0 := f0)
set_option maxHeartbeats 2000000 in
theorem tF_X0_settle {Λ : sLay} (S : sSt) (hs : Sh Λ S) (p0 : Nat) (tp0 : isK Λ 0 p0) (p1 : Nat) (tp1 : isK Λ 5 p1) (p2 : Nat) (tp2 : isK Λ 7 p2) : T (F_X0_settle Λ.2.2 S p0 (some p1) (some p2)) (fun r : sSt => Sh Λ r) := by
  unfold F_X0_settle
  repeat' (first | sp | st1 | (refine T_bind (by with_reducible apply tF_X0_enter <;> sa) ?_; intro _ hq) | ((with_reducible apply tF_X0_enter) <;> sa) | ((with_reducible apply tL_X0_settle_12) <;> sa))
