/-! The values of constants: what they are, and how a walk finds them. -/
theorem prodE {a b : Nat × Nat} (h1 : a.1 = b.1) (h2 : a.2 = b.2) : a = b := by
  obtain ⟨a1, a2⟩ := a
  obtain ⟨b1, b2⟩ := b
  have h1 : a1 = b1 := h1
  have h2 : a2 = b2 := h2
  rw [h1, h2]
def gvs (W : aU) (H : aH) (g : Nat × Nat → Option Int64) (u : Nat) : Int64 → List Int32 → Option Int64
  | acc, [] => some acc
  | acc, v :: r => match fd W H u (32 + v) with
    | none => gvs W H g u acc r
    | some w => match g w with
      | none => none
      | some y => gvs W H g u (acc + y) r
def gv (W : aU) (H : aH) : Nat → Nat × Nat → Option Int64
  | 0, _ => none
  | n + 1, z => match (H z.1)[z.2]? with
    | none => none
    | some th => gvs W H (gv W H n) z.1 th.2.1 th.2.2.2
section
variable {W : aU} {H : aH} {g g' : Nat × Nat → Option Int64} {u : Nat} {acc : Int64} {v : Int32} {r : List Int32}
theorem gvs_c : gvs W H g u acc (v :: r) = (match fd W H u (32 + v) with
    | none => gvs W H g u acc r
    | some w => match g w with
      | none => none
      | some y => gvs W H g u (acc + y) r) := rfl
theorem gvs_n (h : fd W H u (32 + v) = none) : gvs W H g u acc (v :: r) = gvs W H g u acc r := by simp only [gvs_c, h]
theorem gvs_s {w : Nat × Nat} {y : Int64} (h : fd W H u (32 + v) = some w) (h2 : g w = some y) : gvs W H g u acc (v :: r) = gvs W H g u (acc + y) r := by simp only [gvs_c, h, h2]
theorem gvs_x {w : Nat × Nat} (h : fd W H u (32 + v) = some w) (h2 : g w = none) : gvs W H g u acc (v :: r) = none := by simp only [gvs_c, h, h2]
theorem gvs_app {ys : List Int32} : ∀ (xs : List Int32) (acc : Int64), gvs W H g u acc (xs ++ ys) = Option.bind (gvs W H g u acc xs) (fun a => gvs W H g u a ys)
  | [], _ => rfl
  | v :: r, acc => by
    rw [List.cons_append]
    cases h : fd W H u (32 + v) with
    | none => rw [gvs_n h, gvs_n h]; exact gvs_app r acc
    | some w =>
      cases h2 : g w with
      | none => rw [gvs_x h h2, gvs_x h h2]; rfl
      | some y => rw [gvs_s h h2, gvs_s h h2]; exact gvs_app r (acc + y)
theorem gvs_mono (hg : ∀ w x, g w = some x → g' w = some x) : ∀ (l : List Int32) (acc y : Int64), gvs W H g u acc l = some y → gvs W H g' u acc l = some y
  | [], _, _, h => h
  | v :: r, acc, y, h => by
    cases h1 : fd W H u (32 + v) with
    | none =>
      rw [gvs_n h1] at h ⊢
      exact gvs_mono hg r acc y h
    | some w =>
      cases h2 : g w with
      | none => rw [gvs_x h1 h2] at h; cases h
      | some q =>
        rw [gvs_s h1 h2] at h
        rw [gvs_s h1 (hg w q h2)]
        exact gvs_mono hg r _ y h
theorem gvs_part {w : Nat × Nat} (h1 : fd W H u (32 + v) = some w) : ∀ (l : List Int32) (acc y : Int64), gvs W H g u acc l = some y → v ∈ l → ∃ q, g w = some q
  | [], _, _, _, hm => nomatch hm
  | v' :: r, acc, y, h, hm => by
    cases h3 : fd W H u (32 + v') with
    | none =>
      rw [gvs_n h3] at h
      rcases List.mem_cons.mp hm with e | e
      · rw [← e, h1] at h3; cases h3
      · exact gvs_part h1 r acc y h e
    | some w' =>
      cases h2 : g w' with
      | none => rw [gvs_x h3 h2] at h; cases h
      | some q =>
        rw [gvs_s h3 h2] at h
        rcases List.mem_cons.mp hm with e | e
        · rw [← e, h1] at h3
          cases h3
          exact ⟨q, h2⟩
        · exact gvs_part h1 r _ y h e
theorem gv_t {n : Nat} {z : Nat × Nat} {th : aT} (h : (H z.1)[z.2]? = some th) : gv W H (n + 1) z = gvs W H (gv W H n) z.1 th.2.1 th.2.2.2 := by
  show (match (H z.1)[z.2]? with
    | none => none
    | some th => gvs W H (gv W H n) z.1 th.2.1 th.2.2.2) = _
  rw [h]
theorem gv_n {n : Nat} {z : Nat × Nat} (h : (H z.1)[z.2]? = none) : gv W H (n + 1) z = none := by
  show (match (H z.1)[z.2]? with
    | none => none
    | some th => gvs W H (gv W H n) z.1 th.2.1 th.2.2.2) = _
  rw [h]
theorem gv_mono : ∀ (n : Nat) (z : Nat × Nat) (x : Int64), gv W H n z = some x → gv W H (n + 1) z = some x
  | 0, _, _, h => nomatch h
  | n + 1, z, x, h => by
    cases e : (H z.1)[z.2]? with
    | none => rw [gv_n e] at h; cases h
    | some th =>
      rw [gv_t e] at h ⊢
      exact gvs_mono (fun w y hy => gv_mono n w y hy) _ _ _ h
theorem gv_le {z : Nat × Nat} {x : Int64} {n : Nat} (h : gv W H n z = some x) : ∀ k, gv W H (n + k) z = some x
  | 0 => h
  | k + 1 => gv_mono _ _ _ (gv_le h k)
theorem gv_un {z : Nat × Nat} {x y : Int64} {n m : Nat} (h : gv W H n z = some x) (h2 : gv W H m z = some y) : x = y := by
  have a := gv_le h m
  have b := gv_le h2 n
  rw [Nat.add_comm] at b
  rw [a] at b
  cases b
  rfl
end
/-- what a constant is worth: none, if it is round or leads to one that is -/
def VR (W : aU) (H : aH) (z : Nat × Nat) (o : Option Int64) : Prop := match o with
  | some x => ∃ n, gv W H n z = some x
  | none => ∀ n, gv W H n z = none
theorem VR_s {W : aU} {H : aH} {z : Nat × Nat} {x : Int64} {n : Nat} (h : gv W H n z = some x) : VR W H z (some x) := ⟨n, h⟩
theorem VR_un {W : aU} {H : aH} {z : Nat × Nat} : ∀ {o o' : Option Int64}, VR W H z o → VR W H z o' → o = o'
  | none, none, _, _ => rfl
  | none, some _, h, ⟨n, h2⟩ => by rw [h n] at h2; cases h2
  | some _, none, ⟨n, h⟩, h2 => by rw [h2 n] at h; cases h
  | some _, some _, ⟨_, h⟩, ⟨_, h2⟩ => by rw [gv_un h h2]
/-- a constant that is there -/
def nd (c : Nat) (F : aF) (H : aH) (z : Nat × Nat) (th : aT) : Prop := z.1 < c ∧ F.1 z.1 = true ∧ (H z.1)[z.2]? = some th ∧ th.1 / 32 = (1 : Int32)
/-- a thing that is there -/
def vt (c : Nat) (F : aF) (H : aH) (z : Nat × Nat) : Prop := z.1 < c ∧ F.1 z.1 = true ∧ z.2 < (H z.1).length
theorem nd.vt {c : Nat} {F : aF} {H : aH} {z : Nat × Nat} {th : aT} (h : nd c F H z th) : vt c F H z := ⟨h.1, h.2.1, (List.getElem?_eq_some_iff.mp h.2.2.1).1⟩
theorem nd.un {c : Nat} {F : aF} {H : aH} {z : Nat × Nat} {th th' : aT} (h : nd c F H z th) (h2 : nd c F H z th') : th' = th := by
  have := h.2.2.1.symm.trans h2.2.2.1
  cases this
  rfl
theorem key32 {n : Nat} (h : n < 32) : ((32 : Int32) + nI n) / 32 = 1 := by
  rw [show (32 : Int32) + nI n = nI (32 + n) from nI_add 32 n]
  rw [show (nI (32 + n) : Int32) / 32 = nI ((32 + n) / 32) from n_div (32 + n) 32 (by omega) (by omega)]
  rw [show (32 + n) / 32 = 1 by omega]
  rfl
/-- what is found for a name of which a constant is built is a constant -/
theorem fd_nd {c : Nat} {F : aF} {W : aU} {H : aH} {z w : Nat × Nat} {th : aT} {v : Int32} (hA : WA c F W) (hB : HA c F H) (hc : c ≤ 16) (hz : vt c F H z) (hth : (H z.1)[z.2]? = some th) (hv : v ∈ th.2.2.2) (h : fd W H z.1 (32 + v) = some w) : ∃ tw, nd c F H w tw := by
  obtain ⟨y1, y2, tw, y3, y4⟩ := fd_ok hA hc hz.1 hz.2.1 h
  obtain ⟨n, hn, en⟩ := (hB z.1 hz.1 hz.2.1 z.2 th hth).2 v hv
  exact ⟨tw, y1, y2, y3, by rw [y4, en]; exact key32 hn⟩
/-! a walk: of each constant its stage, sum, round or not, and the next part; and the path, its top ahead -/
abbrev aN : Type := Nat × Nat → Int32 × Int64 × Int32 × Nat
def lk (W : aU) (H : aH) (φ : aN) : List (Nat × Nat) → Prop
  | [] => True
  | [_] => True
  | z :: y :: r => (∃ th v, (H y.1)[y.2]? = some th ∧ th.2.2.2[(φ y).2.2.2]? = some v ∧ fd W H y.1 (32 + v) = some z) ∧ lk W H φ (y :: r)
theorem lk_congr {W : aU} {H : aH} {φ φ' : aN} : ∀ (l : List (Nat × Nat)), (∀ w, w ∈ l.tail → φ' w = φ w) → lk W H φ l → lk W H φ' l
  | [], _, _ => trivial
  | [_], _, _ => trivial
  | z :: y :: r, h, ⟨⟨th, v, a, b, d⟩, k⟩ => ⟨⟨th, v, a, by rw [h y List.mem_cons_self]; exact b, d⟩, lk_congr (y :: r) (fun w hw => h w (List.mem_cons_of_mem _ hw)) k⟩
theorem lk_tail {W : aU} {H : aH} {φ : aN} {z : Nat × Nat} : ∀ {r : List (Nat × Nat)}, lk W H φ (z :: r) → lk W H φ r
  | [], _ => trivial
  | _ :: _, h => h.2
theorem lk_top {W : aU} {H : aH} {φ : aN} : ∀ {r : List (Nat × Nat)} {z w : Nat × Nat} {n : Nat} {x : Int64}, lk W H φ (z :: r) → w ∈ z :: r → gv W H n w = some x → ∃ n' x', n' ≤ n ∧ gv W H n' z = some x'
  | [], z, w, n, x, _, hw, h => by
    rcases List.mem_cons.mp hw with e | e
    · exact ⟨n, x, Nat.le_refl n, by rw [← e]; exact h⟩
    · cases e
  | y :: r, z, w, n, x, hl, hw, h => by
    rcases List.mem_cons.mp hw with e | e
    · exact ⟨n, x, Nat.le_refl n, by rw [← e]; exact h⟩
    · obtain ⟨⟨th, v, a, b, d⟩, k⟩ := hl
      obtain ⟨n', x', hn', h'⟩ := lk_top k e h
      cases n' with
      | zero => cases h'
      | succ q =>
        rw [gv_t a] at h'
        obtain ⟨x2, h2⟩ := gvs_part d _ _ _ h' (List.mem_of_getElem? b)
        exact ⟨q, x2, by omega, h2⟩
/-- a part that is on the path makes round -/
theorem lk_round {W : aU} {H : aH} {φ : aN} {r : List (Nat × Nat)} {z w : Nat × Nat} {th : aT} {v : Int32} (hl : lk W H φ (z :: r)) (hw : w ∈ z :: r) (hth : (H z.1)[z.2]? = some th) (hv : v ∈ th.2.2.2) (h : fd W H z.1 (32 + v) = some w) : ∀ n, gv W H n z = none := by
  have key : ∀ n m, m ≤ n → gv W H m z = none := by
    intro n
    induction n with
    | zero =>
      intro m hm
      have : m = 0 := by omega
      rw [this]
      rfl
    | succ n ih =>
      intro m hm
      cases m with
      | zero => rfl
      | succ q =>
        cases e : gv W H (q + 1) z with
        | none => rfl
        | some x =>
          rw [gv_t hth] at e
          obtain ⟨x2, h2⟩ := gvs_part h _ _ _ e hv
          obtain ⟨n', x', hn', h'⟩ := lk_top hl hw h2
          rw [ih n' (by omega)] at h'
          cases h'
  exact fun n => key n n (Nat.le_refl n)
def kN (W : aU) (H : aH) (z : Nat × Nat) (th : aT) (f : Int32 × Int64 × Int32 × Nat) : Prop := f.2.2.2 ≤ th.2.2.2.length ∧ ((f.2.2.1 = 0 ∧ ∃ n, gvs W H (gv W H n) z.1 th.2.1 (th.2.2.2.take f.2.2.2) = some f.2.1) ∨ (f.2.2.1 ≠ 0 ∧ ∀ n, gv W H n z = none))
def JP (c : Nat) (F : aF) (W : aU) (H : aH) (φ : aN) (l : List (Nat × Nat)) : Prop := (∀ z, z ∈ l → ∃ th, nd c F H z th) ∧ (∀ z th, nd c F H z th → ((φ z).1 = 0 ∨ (φ z).1 = 1 ∨ (φ z).1 = 2) ∧ ((φ z).1 = 1 ↔ z ∈ l)) ∧ l.Nodup ∧ (∀ z th, nd c F H z th → (φ z).1 = 2 → ∃ o, VR W H z o ∧ (φ z).2.1 = o.getD 0 ∧ ((φ z).2.2.1 = 0 ↔ o ≠ none)) ∧ (∀ z th, nd c F H z th → (φ z).1 = 0 → (φ z).2.1 = th.2.1 ∧ (φ z).2.2.1 = 0) ∧ lk W H φ l ∧ ∀ z th, z ∈ l → nd c F H z th → kN W H z th (φ z)
section
variable {c : Nat} {F : aF} {W : aU} {H : aH} {φ φ' : aN} {l r : List (Nat × Nat)} {z w : Nat × Nat} {th : aT} {v : Int32}
theorem JP.close (J : JP c F W H φ (z :: r)) (hz : nd c F H z th) (hn : th.2.2.2.length ≤ (φ z).2.2.2) (E : ∀ w, vt c F H w → w ≠ z → φ' w = φ w) (e : φ' z = (2, if (φ z).2.2.1 = 0 then (φ z).2.1 else 0, (φ z).2.2.1, (φ z).2.2.2)) : JP c F W H φ' r := by
  obtain ⟨j1, j2, j3, j4, j5, j6, j7⟩ := J
  have zr : z ∉ r := (List.nodup_cons.mp j3).1
  have ne : ∀ w, w ∈ r → w ≠ z := fun w hw e => zr (e ▸ hw)
  obtain ⟨q1, q2⟩ := j7 z th List.mem_cons_self hz
  refine ⟨fun w hw => j1 w (List.mem_cons_of_mem _ hw), fun w tw hw => ?_, (List.nodup_cons.mp j3).2, fun w tw hw h2 => ?_, fun w tw hw h0 => ?_, lk_congr r (fun w hw => ?_) (lk_tail j6), fun w tw hw hnw => ?_⟩
  · by_cases cw : w = z
    · rw [cw, e]
      exact ⟨Or.inr (Or.inr rfl), fun y => absurd y (show ¬ (2 : Int32) = 1 by decide), fun y => absurd y zr⟩
    · rw [E w hw.vt cw]
      obtain ⟨a, b⟩ := j2 w tw hw
      exact ⟨a, b.trans ⟨fun y => (List.mem_cons.mp y).resolve_left cw, fun y => List.mem_cons_of_mem _ y⟩⟩
  · by_cases cw : w = z
    · rw [cw, e]
      rcases q2 with ⟨r0, n, hg⟩ | ⟨r1, hg⟩
      · refine ⟨some (φ z).2.1, VR_s (n := n + 1) ?_, ?_, ⟨fun _ y => (nomatch y), fun _ => r0⟩⟩
        · rw [gv_t hz.2.2.1]
          rw [List.take_of_length_le hn] at hg
          exact hg
        · show (if (φ z).2.2.1 = 0 then (φ z).2.1 else 0) = _
          rw [if_pos r0]
          rfl
      · refine ⟨none, hg, ?_, ⟨fun y => absurd y r1, fun y => absurd rfl y⟩⟩
        show (if (φ z).2.2.1 = 0 then (φ z).2.1 else 0) = _
        rw [if_neg r1]
        rfl
    · rw [E w hw.vt cw] at h2 ⊢
      exact j4 w tw hw h2
  · by_cases cw : w = z
    · rw [cw, e] at h0
      exact absurd h0 (show ¬ (2 : Int32) = 0 by decide)
    · rw [E w hw.vt cw] at h0 ⊢
      exact j5 w tw hw h0
  · have hwr := List.mem_of_mem_tail hw
    obtain ⟨tw, hnw⟩ := j1 w (List.mem_cons_of_mem _ hwr)
    exact E w hnw.vt (ne w hwr)
  · rw [E w hnw.vt (ne w hw)]
    exact j7 w tw (List.mem_cons_of_mem _ hw) hnw
theorem JP.enter (J : JP c F W H φ l) {tw : aT} (hw : nd c F H w tw) (h0 : (φ w).1 = 0) (hl : ∀ z r, l = z :: r → ∃ th v, (H z.1)[z.2]? = some th ∧ th.2.2.2[(φ z).2.2.2]? = some v ∧ fd W H z.1 (32 + v) = some w) (E : ∀ y, vt c F H y → y ≠ w → φ' y = φ y) (e : φ' w = (1, (φ w).2.1, (φ w).2.2.1, 0)) : JP c F W H φ' (w :: l) := by
  obtain ⟨j1, j2, j3, j4, j5, j6, j7⟩ := J
  have wl : w ∉ l := fun y => by
    have := ((j2 w tw hw).2).mpr y
    rw [h0] at this
    exact absurd this (by decide)
  have ne : ∀ y, y ∈ l → y ≠ w := fun y hy e => wl (e ▸ hy)
  have El : ∀ y, y ∈ l → φ' y = φ y := fun y hy => by
    obtain ⟨ty, hny⟩ := j1 y hy
    exact E y hny.vt (ne y hy)
  obtain ⟨s1, s2⟩ := j5 w tw hw h0
  refine ⟨fun y hy => ?_, fun y ty hy => ?_, List.nodup_cons.mpr ⟨wl, j3⟩, fun y ty hy h2 => ?_, fun y ty hy h3 => ?_, ?_, fun y ty hyl hy => ?_⟩
  · rcases List.mem_cons.mp hy with q | q
    · rw [q]; exact ⟨tw, hw⟩
    · exact j1 y q
  · by_cases cy : y = w
    · rw [cy, e]
      exact ⟨Or.inr (Or.inl rfl), fun _ => List.mem_cons_self, fun _ => rfl⟩
    · rw [E y hy.vt cy]
      obtain ⟨a, b⟩ := j2 y ty hy
      exact ⟨a, b.trans ⟨fun q => List.mem_cons_of_mem _ q, fun q => (List.mem_cons.mp q).resolve_left cy⟩⟩
  · by_cases cy : y = w
    · rw [cy, e] at h2
      exact absurd h2 (show ¬ (1 : Int32) = 2 by decide)
    · rw [E y hy.vt cy] at h2 ⊢
      exact j4 y ty hy h2
  · by_cases cy : y = w
    · rw [cy, e] at h3
      exact absurd h3 (show ¬ (1 : Int32) = 0 by decide)
    · rw [E y hy.vt cy] at h3 ⊢
      exact j5 y ty hy h3
  · cases l with
    | nil => exact trivial
    | cons z r =>
      obtain ⟨th, v, a, b, d⟩ := hl z r rfl
      exact ⟨⟨th, v, a, by rw [El z List.mem_cons_self]; exact b, d⟩, lk_congr (z :: r) (fun y hy => El y (List.mem_of_mem_tail hy)) j6⟩
  · by_cases cy : y = w
    · subst cy
      have ety := hw.un hy
      subst ety
      rw [e]
      exact ⟨Nat.zero_le _, Or.inl ⟨s2, 0, by rw [s1, List.take_zero]; rfl⟩⟩
    · rw [E y hy.vt cy]
      exact j7 y ty ((List.mem_cons.mp hyl).resolve_left cy) hy
theorem JP.add (J : JP c F W H φ (z :: r)) (hz : nd c F H z th) (E : ∀ w, vt c F H w → w ≠ z → φ' w = φ w) (e1 : (φ' z).1 = 1) (hq : kN W H z th (φ' z)) : JP c F W H φ' (z :: r) := by
  obtain ⟨j1, j2, j3, j4, j5, j6, j7⟩ := J
  have zr : z ∉ r := (List.nodup_cons.mp j3).1
  refine ⟨j1, fun w tw hw => ?_, j3, fun w tw hw h2 => ?_, fun w tw hw h0 => ?_, lk_congr _ (fun w hw => ?_) j6, fun w tw hwl hw => ?_⟩
  · by_cases cw : w = z
    · rw [cw, e1]
      exact ⟨Or.inr (Or.inl rfl), fun _ => List.mem_cons_self, fun _ => rfl⟩
    · rw [E w hw.vt cw]
      exact j2 w tw hw
  · by_cases cw : w = z
    · rw [cw, e1] at h2
      exact absurd h2 (by decide)
    · rw [E w hw.vt cw] at h2 ⊢
      exact j4 w tw hw h2
  · by_cases cw : w = z
    · rw [cw, e1] at h0
      exact absurd h0 (by decide)
    · rw [E w hw.vt cw] at h0 ⊢
      exact j5 w tw hw h0
  · have hw' : w ∈ r := hw
    obtain ⟨tw, hnw⟩ := j1 w (List.mem_cons_of_mem _ hw')
    exact E w hnw.vt (fun e => zr (e ▸ hw'))
  · by_cases cw : w = z
    · subst cw
      have ety := hz.un hw
      subst ety
      exact hq
    · rw [E w hw.vt cw]
      exact j7 w tw hwl hw
theorem take_s {l : List Int32} {p : Nat} {v : Int32} (h : l[p]? = some v) : l.take (p + 1) = l.take p ++ [v] := by
  obtain ⟨hp, e⟩ := List.getElem?_eq_some_iff.mp h
  rw [← e]
  exact (List.take_append_getElem hp).symm
/-- one more part: none is found -/
theorem kN_n {s s' : Int32} {a : Int64} {b : Int32} {p : Nat} (h : kN W H z th (s, a, b, p)) (hv : th.2.2.2[p]? = some v) (hf : fd W H z.1 (32 + v) = none) : kN W H z th (s', a, b, p + 1) := by
  obtain ⟨h1, h2⟩ := h
  refine ⟨(List.getElem?_eq_some_iff.mp hv).1, ?_⟩
  rcases h2 with ⟨r0, n, hg⟩ | h2
  · refine Or.inl ⟨r0, n, ?_⟩
    show gvs W H (gv W H n) z.1 th.2.1 (th.2.2.2.take (p + 1)) = some a
    have hg : gvs W H (gv W H n) z.1 th.2.1 (th.2.2.2.take p) = some a := hg
    rw [take_s hv, gvs_app, hg, Option.bind_some, gvs_n hf]
    rfl
  · exact Or.inr h2
/-- it is worth something -/
theorem kN_s {s s' : Int32} {a x : Int64} {b : Int32} {p : Nat} (h : kN W H z th (s, a, b, p)) (hv : th.2.2.2[p]? = some v) (hf : fd W H z.1 (32 + v) = some w) {n2 : Nat} (hx : gv W H n2 w = some x) : kN W H z th (s', a + x, b, p + 1) := by
  obtain ⟨h1, h2⟩ := h
  refine ⟨(List.getElem?_eq_some_iff.mp hv).1, ?_⟩
  rcases h2 with ⟨r0, n, hg⟩ | h2
  · refine Or.inl ⟨r0, n + n2, ?_⟩
    show gvs W H (gv W H (n + n2)) z.1 th.2.1 (th.2.2.2.take (p + 1)) = some (a + x)
    have hg : gvs W H (gv W H n) z.1 th.2.1 (th.2.2.2.take p) = some a := hg
    have hg2 := gvs_mono (fun w y hy => gv_le hy n2) _ _ _ hg
    have hx2 := gv_le hx n
    rw [Nat.add_comm] at hx2
    rw [take_s hv, gvs_app, hg2, Option.bind_some, gvs_s hf hx2]
    rfl
  · exact Or.inr h2
/-- it is round, or leads to one that is -/
theorem kN_r {s s' : Int32} {a a' : Int64} {b b' : Int32} {p : Nat} (h : kN W H z th (s, a, b, p)) (hv : th.2.2.2[p]? = some v) (hb : b' ≠ 0) (hno : ∀ n, gv W H n z = none) : kN W H z th (s', a', b', p + 1) := ⟨(List.getElem?_eq_some_iff.mp hv).1, Or.inr ⟨hb, hno⟩⟩
theorem gv_non (hth : (H z.1)[z.2]? = some th) (hv : v ∈ th.2.2.2) (hf : fd W H z.1 (32 + v) = some w) (hw : ∀ n, gv W H n w = none) : ∀ n, gv W H n z = none
  | 0 => rfl
  | n + 1 => by
    cases e : gv W H (n + 1) z with
    | none => rfl
    | some x =>
      rw [gv_t hth] at e
      obtain ⟨y, hy⟩ := gvs_part hf _ _ _ e hv
      rw [hw n] at hy
      cases hy
end
/-! how many are fresh, and how long a walk may last -/
def vb (c : Nat) (F : aF) (H : aH) (j : Nat) : Bool := decide (j / 10 < c) && F.1 (j / 10) && decide (j % 10 < (H (j / 10)).length)
def cnt (c : Nat) (F : aF) (H : aH) (φ : aN) : Nat := cb (fun j => vb c F H j && decide ((φ (j / 10, j % 10)).1 = 0)) 160
def mu (φ : aN) : List (Nat × Nat) → Nat
  | [] => 0
  | z :: r => (7 - 2 * (φ z).2.2.2) + mu φ r
theorem mu_congr {φ φ' : aN} : ∀ (l : List (Nat × Nat)), (∀ w, w ∈ l → φ' w = φ w) → mu φ' l = mu φ l
  | [], _ => rfl
  | z :: r, h => by
    show (7 - 2 * (φ' z).2.2.2) + mu φ' r = (7 - 2 * (φ z).2.2.2) + mu φ r
    rw [h z List.mem_cons_self, mu_congr r (fun w hw => h w (List.mem_cons_of_mem _ hw))]
section
variable {c : Nat} {F : aF} {H : aH} {φ φ' : aN} {w : Nat × Nat}
theorem vb_of {j : Nat} (h : vb c F H j = true) : vt c F H (j / 10, j % 10) := by
  unfold vb at h
  simp only [Bool.and_eq_true, decide_eq_true_eq] at h
  exact ⟨h.1.1, h.1.2, h.2⟩
theorem vb_to (h : vt c F H w) (h10 : w.2 < 10) : vb c F H (10 * w.1 + w.2) = true ∧ (10 * w.1 + w.2) / 10 = w.1 ∧ (10 * w.1 + w.2) % 10 = w.2 := by
  have e1 : (10 * w.1 + w.2) / 10 = w.1 := by omega
  have e2 : (10 * w.1 + w.2) % 10 = w.2 := by omega
  refine ⟨?_, e1, e2⟩
  unfold vb
  rw [e1, e2]
  simp only [Bool.and_eq_true, decide_eq_true_eq]
  exact ⟨⟨h.1, h.2.1⟩, h.2.2⟩
theorem cnt_le : cnt c F H φ ≤ 160 := cb_le 160
theorem cnt_mono (h : ∀ w, vt c F H w → (φ' w).1 = 0 → (φ w).1 = 0) : cnt c F H φ' ≤ cnt c F H φ := by
  refine cb_mono 160 (fun j _ hj => ?_)
  simp only [Bool.and_eq_true, decide_eq_true_eq] at hj ⊢
  exact ⟨hj.1, h _ (vb_of hj.1) hj.2⟩
theorem cnt_one (hc : c ≤ 16) (hw : vt c F H w) (h10 : w.2 < 10) (h0 : (φ w).1 = 0) (h1 : (φ' w).1 ≠ 0) (E : ∀ y, vt c F H y → y ≠ w → φ' y = φ y) : cnt c F H φ = cnt c F H φ' + 1 := by
  obtain ⟨a, b, d⟩ := vb_to hw h10
  have h16 := hw.1
  refine cb_set (j := 10 * w.1 + w.2) 160 (fun i hi hne => ?_) (by omega) ?_ ?_
  · show (vb c F H i && decide ((φ' (i / 10, i % 10)).1 = 0)) = (vb c F H i && decide ((φ (i / 10, i % 10)).1 = 0))
    cases e : vb c F H i with
    | false => rfl
    | true =>
      rw [E (i / 10, i % 10) (vb_of e) (fun z => hne (by
        have z1 : i / 10 = w.1 := congrArg Prod.fst z
        have z2 : i % 10 = w.2 := congrArg Prod.snd z
        omega))]
  · show (vb c F H (10 * w.1 + w.2) && decide ((φ ((10 * w.1 + w.2) / 10, (10 * w.1 + w.2) % 10)).1 = 0)) = true
    rw [a, b, d, Bool.true_and]
    exact decide_eq_true h0
  · show ¬ (vb c F H (10 * w.1 + w.2) && decide ((φ' ((10 * w.1 + w.2) / 10, (10 * w.1 + w.2) % 10)).1 = 0)) = true
    rw [a, b, d, Bool.true_and]
    exact fun z => h1 (of_decide_eq_true z)
end
