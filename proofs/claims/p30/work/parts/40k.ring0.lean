/-! Which units lead to which; rings, and the order of all. -/
abbrev aE : Type := Nat → Nat → Bool
def hit (o : Option (Nat × Nat)) (v : Nat) : Bool := match o with
  | none => false
  | some z => decide (z.1 = v)
def lds (W : aU) (H : aH) (k v : Nat) : List Int32 → Bool
  | [] => false
  | key :: r => hit (fd W H k key) v || lds W H k v r
theorem lds_c {W : aU} {H : aH} {k v : Nat} {key : Int32} {r : List Int32} : lds W H k v (key :: r) = (hit (fd W H k key) v || lds W H k v r) := rfl
theorem lds_app {W : aU} {H : aH} {k v : Nat} {ys : List Int32} : ∀ xs, lds W H k v (xs ++ ys) = (lds W H k v xs || lds W H k v ys)
  | [] => rfl
  | x :: r => by rw [List.cons_append, lds_c, lds_c, lds_app r, Bool.or_assoc]
/-- one step: what is found, and who made it -/
def tE (c : Nat) (F : aF) (u : Nat) : Bool := decide (u < c) && F.1 u
def eO (c : Nat) (F : aF) (U W : aU) (H : aH) : aE := fun k v => tE c F k && (decide (uo c F.1 (F.2.2 k) = some v) || lds W H k v (soL U H k))
def wE (E : aE) : Nat → aE
  | 0 => E
  | k + 1 => fun u v => wE E k u v || (wE E k u k && wE E k k v)
theorem wE_s {E : aE} {k u v : Nat} : wE E (k + 1) u v = (wE E k u v || (wE E k u k && wE E k k v)) := rfl
theorem wE_i {E : aE} {k u v : Nat} : wE E (k + 1) u v = true ↔ (wE E k u v = true ∨ (wE E k u k = true ∧ wE E k k v = true)) := by
  rw [wE_s, Bool.or_eq_true, Bool.and_eq_true]
def inE (T : Nat → Bool) (E : aE) : Prop := ∀ u v, E u v = true → T u = true ∧ T v = true
theorem wE_in {T : Nat → Bool} {E : aE} (h : inE T E) : ∀ k, inE T (wE E k)
  | 0 => h
  | k + 1 => fun u v e => by
    rcases wE_i.mp e with z | ⟨z, y⟩
    · exact wE_in h k u v z
    · exact ⟨(wE_in h k u k z).1, (wE_in h k k v y).2⟩
theorem wE_C {E : aE} : ∀ k j a b, j < k → wE E k a j = true → wE E k j b = true → wE E k a b = true
  | 0, _, _, _, hj, _, _ => absurd hj (Nat.not_lt_zero _)
  | k + 1, j, a, b, hj, h1, h2 => by
    rw [wE_i] at h1 h2 ⊢
    by_cases c : j = k
    · subst c
      exact Or.inr ⟨h1.elim id (fun z => z.1), h2.elim id (fun z => z.2)⟩
    · have hlt : j < k := by omega
      rcases h1 with h1 | ⟨h1, h1'⟩
      · rcases h2 with h2 | ⟨h2, h2'⟩
        · exact Or.inl (wE_C k j a b hlt h1 h2)
        · exact Or.inr ⟨wE_C k j a k hlt h1 h2, h2'⟩
      · rcases h2 with h2 | ⟨h2, h2'⟩
        · exact Or.inr ⟨h1, wE_C k j k b hlt h1' h2⟩
        · exact Or.inr ⟨h1, h2'⟩
/-- the row of the pivot, and its column, stay -/
theorem wE_p {E : aE} {k v : Nat} : wE E (k + 1) k v = wE E k k v := by
  rw [wE_s]
  cases wE E k k v <;> simp
theorem wE_q {E : aE} {k u : Nat} : wE E (k + 1) u k = wE E k u k := by
  rw [wE_s]
  cases wE E k u k <;> simp
/-- what leads to what -/
def lE (c : Nat) (F : aF) (U W : aU) (H : aH) : aE := wE (eO c F U W H) 16
theorem tE_i {c : Nat} {F : aF} {u : Nat} : tE c F u = true ↔ u < c ∧ F.1 u = true := by
  unfold tE
  rw [Bool.and_eq_true, decide_eq_true_iff]
theorem lds_in {c k v : Nat} {F : aF} {W : aU} {H : aH} (hA : WA c F W) (hc : c ≤ 16) (hk : k < c) (hT : F.1 k = true) : ∀ {l : List Int32}, lds W H k v l = true → tE c F v = true
  | [], h => by cases h
  | key :: r, h => by
    rw [lds_c, Bool.or_eq_true] at h
    rcases h with h | h
    · unfold hit at h
      cases e : fd W H k key with
      | none => rw [e] at h; cases h
      | some z =>
        rw [e] at h
        have h := of_decide_eq_true h
        obtain ⟨z1, z2, -⟩ := fd_ok hA hc hk hT e
        rw [h] at z1 z2
        exact tE_i.mpr ⟨z1, z2⟩
    · exact lds_in hA hc hk hT h
theorem eO_in {c : Nat} {F : aF} {U W : aU} {H : aH} (hA : WA c F W) (hc : c ≤ 16) : inE (tE c F) (eO c F U W H) := fun u v e => by
  unfold eO at e
  rw [Bool.and_eq_true, Bool.or_eq_true] at e
  obtain ⟨hu, e⟩ := e
  refine ⟨hu, ?_⟩
  obtain ⟨hk, hT⟩ := tE_i.mp hu
  rcases e with e | e
  · obtain ⟨-, h1, h2, -⟩ := uo_some (of_decide_eq_true e)
    exact tE_i.mpr ⟨h1, h2⟩
  · exact lds_in hA hc hk hT e
theorem lE_in {c : Nat} {F : aF} {U W : aU} {H : aH} (hA : WA c F W) (hc : c ≤ 16) : inE (tE c F) (lE c F U W H) := wE_in (eO_in hA hc) 16
/-- leading is transitive -/
def trE (E : aE) : Prop := ∀ a b c, E a b = true → E b c = true → E a c = true
theorem lE_tr {c : Nat} {F : aF} {U W : aU} {H : aH} (hA : WA c F W) (hc : c ≤ 16) : trE (lE c F U W H) := fun a b d h1 h2 => by
  have := (tE_i.mp (lE_in hA hc a b h1).2).1
  exact wE_C 16 b a d (by omega) h1 h2
/-! rings -/
def oneB (E : aE) (u v : Nat) : Bool := decide (u = v) || (E u v && E v u)
theorem one_i {E : aE} {u v : Nat} : oneB E u v = true ↔ u = v ∨ (E u v = true ∧ E v u = true) := by
  unfold oneB
  rw [Bool.or_eq_true, Bool.and_eq_true, decide_eq_true_iff]
theorem one_sy {E : aE} {u v : Nat} (h : oneB E u v = true) : oneB E v u = true := one_i.mpr ((one_i.mp h).imp Eq.symm (fun z => ⟨z.2, z.1⟩))
theorem one_tr {E : aE} (hT : trE E) {a b c : Nat} (h : oneB E a b = true) (g : oneB E b c = true) : oneB E a c = true := by
  rw [one_i] at h g ⊢
  rcases h with rfl | ⟨h1, h2⟩
  · exact g
  · rcases g with rfl | ⟨g1, g2⟩
    · exact Or.inr ⟨h1, h2⟩
    · exact Or.inr ⟨hT a b c h1 g1, hT c b a g2 h2⟩
theorem one_t {E : aE} {T : Nat → Bool} (hI : inE T E) {u v : Nat} (hu : T u = true) (h : oneB E u v = true) : T v = true := by
  rcases one_i.mp h with rfl | ⟨h1, -⟩
  · exact hu
  · exact (hI u v h1).2
def allB (f : Nat → Bool) : Nat → Bool
  | 0 => true
  | n + 1 => allB f n && f n
theorem allB_i {f : Nat → Bool} : ∀ n, allB f n = true ↔ ∀ i, i < n → f i = true
  | 0 => ⟨fun _ i hi => absurd hi (Nat.not_lt_zero i), fun _ => rfl⟩
  | n + 1 => by
    show (allB f n && f n) = true ↔ _
    rw [Bool.and_eq_true, allB_i n]
    constructor
    · rintro ⟨h1, h2⟩ i hi
      by_cases c : i = n
      · rw [c]; exact h2
      · exact h1 i (by omega)
    · exact fun h => ⟨fun i hi => h i (by omega), h n (by omega)⟩
/-- the least below n -/
def lstF (f : Nat → Bool) : Nat → Option Nat
  | 0 => none
  | n + 1 => match lstF f n with
    | some u => some u
    | none => if f n = true then some n else none
theorem lstF_no {f : Nat → Bool} : ∀ n, lstF f n = none → ∀ x, x < n → f x = false
  | 0, _, x, hx => absurd hx (Nat.not_lt_zero x)
  | n + 1, h, x, hx => by
    unfold lstF at h
    cases e : lstF f n with
    | some w => rw [e] at h; cases h
    | none =>
      rw [e] at h
      have h : (if f n = true then some n else none) = none := h
      by_cases c : f n = true
      · rw [if_pos c] at h
        cases h
      · by_cases cx : x = n
        · rw [cx]
          cases y : f n with
          | true => exact absurd y c
          | false => rfl
        · exact lstF_no n e x (by omega)
theorem lstF_s {f : Nat → Bool} : ∀ n u, lstF f n = some u → u < n ∧ f u = true ∧ ∀ x, x < u → f x = false
  | 0, _, h => nomatch h
  | n + 1, u, h => by
    have hn := lstF_no (f := f) n
    unfold lstF at h
    cases e : lstF f n with
    | some w =>
      rw [e] at h
      cases h
      obtain ⟨h1, h2⟩ := lstF_s n u e
      exact ⟨by omega, h2⟩
    | none =>
      rw [e] at h
      have h : (if f n = true then some n else none) = some u := h
      by_cases c : f n = true
      · rw [if_pos c] at h
        cases h
        exact ⟨by omega, c, hn e⟩
      · rw [if_neg c] at h
        cases h
theorem lstF_e {f : Nat → Bool} {n u : Nat} (hu : u < n) (h : f u = true) (hm : ∀ x, x < u → f x = false) : lstF f n = some u := by
  cases e : lstF f n with
  | none => rw [lstF_no n e u hu] at h; cases h
  | some w =>
    obtain ⟨h1, h2, h3⟩ := lstF_s n w e
    by_cases c : w = u
    · rw [c]
    · exfalso
      by_cases c2 : w < u
      · rw [hm w c2] at h2; cases h2
      · rw [h3 u (by omega)] at h; cases h
/-- u's ring leads to nothing that isn't placed, but the ring -/
def okE (E : aE) (P : Nat → Bool) (u v : Nat) : Bool := !E u v || (P v || oneB E u v)
def candB (E : aE) (T P : Nat → Bool) (u : Nat) : Bool := T u && (!P u && allB (okE E P u) 16)
theorem okE_i {E : aE} {P : Nat → Bool} {u v : Nat} : okE E P u v = true ↔ (E u v = true → P v = false → oneB E u v = true) := by
  unfold okE
  cases E u v <;> cases P v <;> simp
theorem cand_i {E : aE} {T P : Nat → Bool} {u : Nat} : candB E T P u = true ↔ T u = true ∧ P u = false ∧ ∀ v, v < 16 → E u v = true → P v = false → oneB E u v = true := by
  unfold candB
  rw [Bool.and_eq_true, Bool.and_eq_true, allB_i]
  constructor
  · rintro ⟨h1, h2, h3⟩
    exact ⟨h1, by cases y : P u with
      | true => rw [y] at h2; cases h2
      | false => rfl, fun v hv => okE_i.mp (h3 v hv)⟩
  · rintro ⟨h1, h2, h3⟩
    exact ⟨h1, by rw [h2]; rfl, fun v hv => okE_i.mpr (h3 v hv)⟩
def rgL (E : aE) (u : Nat) : Nat → List Nat
  | 0 => []
  | n + 1 => if oneB E u n = true then rgL E u n ++ [n] else rgL E u n
theorem rgL_y {E : aE} {u n : Nat} (h : oneB E u n = true) : rgL E u (n + 1) = rgL E u n ++ [n] := if_pos h
theorem rgL_n {E : aE} {u n : Nat} (h : ¬ oneB E u n = true) : rgL E u (n + 1) = rgL E u n := if_neg h
theorem rgL_m {E : aE} {u x : Nat} : ∀ {n}, x ∈ rgL E u n ↔ x < n ∧ oneB E u x = true
  | 0 => ⟨(fun h => by cases h), fun h => absurd h.1 (Nat.not_lt_zero x)⟩
  | n + 1 => by
    by_cases c : oneB E u n = true
    · rw [rgL_y c, List.mem_append, List.mem_singleton, rgL_m]
      constructor
      · rintro (⟨h1, h2⟩ | rfl)
        · exact ⟨by omega, h2⟩
        · exact ⟨by omega, c⟩
      · rintro ⟨h1, h2⟩
        by_cases cx : x = n
        · exact Or.inr cx
        · exact Or.inl ⟨by omega, h2⟩
    · rw [rgL_n c, rgL_m]
      constructor
      · rintro ⟨h1, h2⟩
        exact ⟨by omega, h2⟩
      · rintro ⟨h1, h2⟩
        by_cases cx : x = n
        · rw [cx] at h2
          exact absurd h2 c
        · exact ⟨by omega, h2⟩
def plus (E : aE) (P : Nat → Bool) (u : Nat) : Nat → Bool := fun v => P v || oneB E u v
def ordL (E : aE) (T : Nat → Bool) : Nat → (Nat → Bool) → List (List Nat)
  | 0, _ => []
  | n + 1, P => match lstF (candB E T P) 16 with
    | none => []
    | some u => rgL E u 16 :: ordL E T n (plus E P u)
theorem ordL_n {E : aE} {T P : Nat → Bool} (h : lstF (candB E T P) 16 = none) : ∀ n, ordL E T n P = []
  | 0 => rfl
  | n + 1 => by unfold ordL; rw [h]
theorem ordL_s {E : aE} {T P : Nat → Bool} {u n : Nat} (h : lstF (candB E T P) 16 = some u) : ordL E T (n + 1) P = rgL E u 16 :: ordL E T n (plus E P u) := by
  show (match lstF (candB E T P) 16 with
    | none => []
    | some u => rgL E u 16 :: ordL E T n (plus E P u)) = _
  rw [h]
def fla : List (List Nat) → List Nat
  | [] => []
  | a :: r => a ++ fla r
theorem fla_app {ys : List (List Nat)} : ∀ xs, fla (xs ++ ys) = fla xs ++ fla ys
  | [] => rfl
  | x :: r => by
    show x ++ fla (r ++ ys) = x ++ fla r ++ fla ys
    rw [fla_app r, List.append_assoc]
theorem fla_1 {xs : List (List Nat)} {a : List Nat} : fla (xs ++ [a]) = fla xs ++ a := by
  rw [fla_app]
  show fla xs ++ (a ++ []) = _
  rw [List.append_nil]
theorem mem_fla {x : Nat} : ∀ {l : List (List Nat)} {i : Nat} {r : List Nat}, l[i]? = some r → x ∈ r → x ∈ fla l
  | [], _, _, h, _ => by cases h
  | a :: s, 0, r, h, hx => by
    have h : some a = some r := h
    cases h
    exact List.mem_append.mpr (Or.inl hx)
  | a :: s, i + 1, r, h, hx => List.mem_append.mpr (Or.inr (mem_fla (l := s) (i := i) h hx))
/-- what is placed: whole rings -/
def pdE (E : aE) (P : Nat → Bool) : Prop := ∀ x y, oneB E x y = true → P x = true → P y = true
theorem pdE_0 {E : aE} : pdE E (fun _ => false) := fun _ _ _ h => nomatch h
theorem pdE_s {E : aE} {P : Nat → Bool} {u : Nat} (hT : trE E) (h : pdE E P) : pdE E (plus E P u) := fun x y hxy hx => by
  unfold plus at *
  rw [Bool.or_eq_true] at *
  rcases hx with hx | hx
  · exact Or.inl (h x y hxy hx)
  · exact Or.inr (one_tr hT hx hxy)
/-- who isn't placed leads to one that may be placed -/
theorem cand_o {E : aE} {T P : Nat → Bool} (hT : trE E) (hI : inE T E) (hS : ∀ x, T x = true → x < 16) : ∀ n u, cb (fun x => T x && (!P x && (decide (x = u) || E u x))) 16 ≤ n → T u = true → P u = false → ∃ y, y < 16 ∧ candB E T P y = true
  | 0, u, hn, h1, h2 => by
    have := cb_lt (f := fun _ => false) (g := fun x => T x && (!P x && (decide (x = u) || E u x))) (j := u) 16 (fun i _ z => by cases z) (hS u h1) (by simp [h1, h2]) (fun z => by cases z)
    omega
  | n + 1, u, hn, h1, h2 => by
    by_cases k : candB E T P u = true
    · exact ⟨u, hS u h1, k⟩
    · have k2 : ¬ ∀ v, v < 16 → E u v = true → P v = false → oneB E u v = true := fun z => k (cand_i.mpr ⟨h1, h2, z⟩)
      obtain ⟨v, hv⟩ := Classical.not_forall.mp k2
      obtain ⟨hv16, hv⟩ := Classical.not_imp.mp hv
      obtain ⟨a2, hv⟩ := Classical.not_imp.mp hv
      obtain ⟨a3, a4⟩ := Classical.not_imp.mp hv
      have tv := (hI u v a2).2
      have nvu : ¬ E v u = true := fun z => a4 (one_i.mpr (Or.inr ⟨a2, z⟩))
      have nuv : ¬ u = v := fun z => a4 (one_i.mpr (Or.inl z))
      have lt := cb_lt (f := fun x => T x && (!P x && (decide (x = v) || E v x))) (g := fun x => T x && (!P x && (decide (x = u) || E u x))) (j := u) 16
        (fun i hi z => by
          simp only [Bool.and_eq_true, Bool.or_eq_true, decide_eq_true_iff] at z ⊢
          refine ⟨z.1, z.2.1, Or.inr ?_⟩
          rcases z.2.2 with rfl | z3
          · exact a2
          · exact hT u v i a2 z3)
        (hS u h1) (by simp [h1, h2]) (fun z => by
          simp only [Bool.and_eq_true, Bool.or_eq_true, decide_eq_true_iff] at z
          exact z.2.2.elim nuv nvu)
      exact cand_o hT hI hS n v (by omega) tv a3
theorem cand_y {E : aE} {T P : Nat → Bool} (hT : trE E) (hI : inE T E) (hS : ∀ x, T x = true → x < 16) {u : Nat} (h1 : T u = true) (h2 : P u = false) : ∃ w, lstF (candB E T P) 16 = some w := by
  obtain ⟨y, hy, hc⟩ := cand_o hT hI hS _ u (Nat.le_refl _) h1 h2
  cases e : lstF (candB E T P) 16 with
  | none => rw [lstF_no 16 e y hy] at hc; cases hc
  | some w => exact ⟨w, rfl⟩
/-- all are placed -/
theorem ord_all {E : aE} {T : Nat → Bool} (hT : trE E) (hI : inE T E) (hS : ∀ x, T x = true → x < 16) : ∀ n P u, cb (fun x => T x && !P x) 16 ≤ n → T u = true → P u = false → ∃ (i : Nat) (r : List Nat), (ordL E T n P)[i]? = some r ∧ u ∈ r
  | 0, P, u, hn, h1, h2 => by
    have := cb_lt (f := fun _ => false) (g := fun x => T x && !P x) (j := u) 16 (fun i _ z => by cases z) (hS u h1) (by simp [h1, h2]) (fun z => by cases z)
    omega
  | n + 1, P, u, hn, h1, h2 => by
    obtain ⟨w, hw⟩ := cand_y hT hI hS h1 h2
    obtain ⟨hw16, hwc, -⟩ := lstF_s 16 w hw
    obtain ⟨tw, pw, -⟩ := cand_i.mp hwc
    rw [ordL_s hw]
    by_cases c : oneB E w u = true
    · exact ⟨0, rgL E w 16, rfl, rgL_m.mpr ⟨hS u h1, c⟩⟩
    · have c' : oneB E w u = false := by
        cases y : oneB E w u with
        | true => exact absurd y c
        | false => rfl
      have lt := cb_lt (f := fun x => T x && !(plus E P w x)) (g := fun x => T x && !P x) (j := w) 16
        (fun i hi z => by
          unfold plus at z
          simp only [Bool.and_eq_true, Bool.not_eq_true', Bool.or_eq_false_iff] at z ⊢
          exact ⟨z.1, z.2.1⟩)
        hw16 (by simp [tw, pw]) (fun z => by
          unfold plus at z
          simp only [Bool.and_eq_true, Bool.not_eq_true', Bool.or_eq_false_iff] at z
          have z2 := z.2.2
          rw [one_i.mpr (Or.inl rfl)] at z2
          cases z2)
      obtain ⟨i, r, hr, hu⟩ := ord_all hT hI hS n (plus E P w) u (by omega) h1 (by unfold plus; rw [h2, c']; rfl)
      exact ⟨i + 1, r, hr, hu⟩
/-- the order of all, in rings -/
def aOrd (c : Nat) (F : aF) (U W : aU) (H : aH) : List (List Nat) := ordL (lE c F U W H) (tE c F) 16 (fun _ => false)
theorem ord_at {c : Nat} {F : aF} {U W : aU} {H : aH} (hA : WA c F W) (hc : c ≤ 16) {u : Nat} (hu : u < c) (hT : F.1 u = true) : ∃ (i : Nat) (r : List Nat), (aOrd c F U W H)[i]? = some r ∧ u ∈ r :=
  ord_all (lE_tr hA hc) (lE_in hA hc) (fun x hx => by have := (tE_i.mp hx).1; omega) 16 _ u (cb_le 16) (tE_i.mpr ⟨hu, hT⟩) rfl
theorem sncP {α : Type} {P : Nat → α → Prop} {l : List α} {v : α} (h : ∀ i w, l[i]? = some w → P i w) (g : P l.length v) : ∀ i w, (l ++ [v])[i]? = some w → P i w := fun i w hw => by
  by_cases c : i < l.length
  · rw [List.getElem?_append_left c] at hw
    exact h i w hw
  · rw [List.getElem?_append_right (by omega)] at hw
    by_cases c2 : i = l.length
    · rw [c2, Nat.sub_self] at hw
      cases hw
      rw [c2]
      exact g
    · rw [List.getElem?_eq_none (by show 0 + 1 ≤ i - l.length; omega)] at hw
      cases hw
