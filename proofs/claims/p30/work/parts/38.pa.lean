/-! What an answer is, if there is one: with the T of the same call, what is given is so. -/
def Pa {β : Type} (x : Option β) (P : β → Prop) : Prop := ∀ r, x = some r → P r
section
variable {β γ : Type} {P : γ → Prop} {Q : β → Prop} {S : sSt}
theorem Pa_none : Pa (none : Option γ) P := fun r h => nomatch h
theorem Pa_some {r : γ} (h : P r) : Pa (some r) P := fun r' e => by cases e; exact h
theorem Pa_bind {x : Option β} {f : β → Option γ} (h : Pa x Q) (k : ∀ v, x = some v → Q v → Pa (f v) P) : Pa (Option.bind x f) P := by
  cases x with
  | none => exact Pa_none
  | some v => exact k v rfl (h v rfl)
theorem Pa_obd {x : Option (β × sSt)} {f : β → sSt → Option γ} {Q : β × sSt → Prop} (h : Pa x Q) (k : ∀ v S1, x = some (v, S1) → Q (v, S1) → Pa (f v S1) P) : Pa (obd x f) P := by
  cases x with
  | none => exact Pa_none
  | some v =>
    obtain ⟨v, S1⟩ := v
    exact k v S1 rfl (h _ rfl)
theorem Pa_eq {x y : Option γ} (e : x = y) (h : Pa y P) : Pa x P := by rw [e]; exact h
theorem Pa_bs {a : β} {f : β → Option γ} (h : Pa (f a) P) : Pa (Option.bind (some a) f) P := h
theorem Pa_os {a : β} {S1 : sSt} {f : β → sSt → Option γ} (h : Pa (f a S1) P) : Pa (obd (some (a, S1)) f) P := h
theorem Pa_be {x : Option β} {a : β} {f : β → Option γ} (e : x = some a) (h : Pa (f a) P) : Pa (Option.bind x f) P := by rw [e]; exact h
theorem Pa_oe {x : Option (β × sSt)} {a : β} {S1 : sSt} {f : β → sSt → Option γ} (e : x = some (a, S1)) (h : Pa (f a S1) P) : Pa (obd x f) P := by rw [e]; exact h
theorem Pa_b {x : β} {g : β → Option γ} (h : Pa (g x) P) : Pa (bnd x g) P := h
theorem Pa_st {S1 : sSt} {g : sSt → Option γ} (k : ∀ S2, S2 = S1 → Pa (g S2) P) : Pa (bnd S1 g) P := k _ rfl
theorem Pa_m {f a b : Nat} {g : Option Nat → Option γ} (e : gFR S f a = some b) (h : Pa (g (some b)) P) : Pa (bnd (gFR S f a) g) P := by
  unfold bnd
  rw [e]
  exact h
theorem Pa_r {f a b : Nat} {g : Nat → Option γ} (e : gFR S f a = some b) (h : Pa (g b) P) : Pa (bnd (gFR S f a) (fun x => Option.bind x g)) P := by
  unfold bnd
  rw [e]
  exact h
theorem Pa_a {t i b : Nat} {g : Option Nat → Option γ} (e : gAR S t i = some b) (h : Pa (g (some b)) P) : Pa (bnd (gAR S t i) g) P := by
  unfold bnd
  rw [e]
  exact h
theorem Pa_gi {i : Int32} {n : Nat} {F : Option γ} (k : vp_in i n → Pa F P) : Pa (gi i n F) P := by
  unfold gi
  by_cases h : i < 0 ∨ n ≤ i.toNatClampNeg
  · rw [if_pos h]; exact Pa_none
  · rw [if_neg h]; exact k h
theorem Pa_g {i : Int32} {n : Nat} {F : Option γ} (k : Pa F P) : Pa (gi i n F) P := Pa_gi (fun _ => k)
theorem Pa_gb {v : Int32} {F : Option γ} (k : Pa F P) : Pa (gb v F) P := by
  unfold gb
  by_cases h : v = 0 ∨ v = 1
  · rw [if_pos h]; exact k
  · rw [if_neg h]; exact Pa_none
theorem Pa_ite {c : Prop} [Decidable c] {A B : Option γ} (h1 : c → Pa A P) (h2 : ¬ c → Pa B P) : Pa (if c then A else B) P := by
  by_cases h : c
  · rw [if_pos h]; exact h1 h
  · rw [if_neg h]; exact h2 h
theorem Pa_it {c : Prop} [Decidable c] {A B : Option γ} (h : c) (h1 : Pa A P) : Pa (if c then A else B) P := by rw [if_pos h]; exact h1
theorem Pa_if {c : Prop} [Decidable c] {A B : Option γ} (h : ¬ c) (h1 : Pa B P) : Pa (if c then A else B) P := by rw [if_neg h]; exact h1
theorem Pa_on {x : Option Nat} {F : Option γ} {f : Nat → Option γ} (e : x = none) (h : Pa F P) : Pa (onl x F f) P := by rw [e]; exact h
theorem Pa_oS {x : Option Nat} {a : Nat} {F : Option γ} {f : Nat → Option γ} (e : x = some a) (h : Pa (f a) P) : Pa (onl x F f) P := by rw [e]; exact h
theorem Pa_onl {x : Option Nat} {F : Option γ} {f : Nat → Option γ} (h1 : x = none → Pa F P) (h2 : ∀ a, x = some a → Pa (f a) P) : Pa (onl x F f) P := by
  cases x with
  | none => exact h1 rfl
  | some a => exact h2 a rfl
theorem Pa_mono {x : Option γ} {Q : γ → Prop} (h : Pa x Q) (k : ∀ r, Q r → P r) : Pa x P := fun r e => k r (h r e)
theorem Pa_and {x : Option γ} {Q : γ → Prop} (h : Pa x P) (g : Pa x Q) : Pa x (fun r => P r ∧ Q r) := fun r e => ⟨h r e, g r e⟩
theorem Pa_T {x : Option γ} (h : T x P) : Pa x P := by
  obtain ⟨r, e, p⟩ := h
  intro r' e'
  rw [e] at e'
  cases e'
  exact p
theorem T_Pa {x : Option γ} {Q : γ → Prop} (h : T x P) (g : Pa x Q) : T x (fun r => P r ∧ Q r) := by
  obtain ⟨r, e, p⟩ := h
  exact ⟨r, e, p, g r e⟩
/-- what a call that gives something gives has what T says of it -/
theorem T_at {x : Option γ} {r : γ} (h : T x P) (e : x = some r) : P r := Pa_T h r e
theorem Pa_of {x : Option γ} (e : ∀ r, x = some r → P r) : Pa x P := e
end
/-- an equation of what is given -/
theorem Pa_val {γ : Type} {x : Option γ} {v : γ} (h : T x (fun _ => True)) (g : Pa x (fun r => r = v)) : x = some v := by
  obtain ⟨r, e, -⟩ := h
  rw [e, g r e]
theorem leN {a b : Nat} (ha : a < 2147483648) (hb : b < 2147483648) (h : a ≤ b) : nI a ≤ nI b := (nI_leI ha hb).mpr h
theorem nleN {a b : Nat} (ha : a < 2147483648) (hb : b < 2147483648) (h : b < a) : ¬ nI a ≤ nI b := fun z => absurd ((nI_leI ha hb).mp z) (by omega)
theorem ltN {a b : Nat} (ha : a < 2147483648) (hb : b < 2147483648) (h : a < b) : nI a < nI b := (nI_ltI ha hb).mpr h
theorem nltN {a b : Nat} (ha : a < 2147483648) (hb : b < 2147483648) (h : b ≤ a) : ¬ nI a < nI b := fun z => absurd ((nI_ltI ha hb).mp z) (by omega)
