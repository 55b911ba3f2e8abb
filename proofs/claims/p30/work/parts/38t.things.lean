/-! What units give: the class. -/
/-- key, digest, private, built of -/
abbrev aT : Type := Int32 × Int64 × Int32 × List Int32
abbrev aH : Type := Nat → List aT
/-- where a key stands, from i on -/
def tIx (key : Int32) : List aT → Nat → Option Nat
  | [], _ => none
  | t :: r, i => if t.1 = key then some i else tIx key r (i + 1)
theorem tIx_nil {key : Int32} {i : Nat} : tIx key [] i = none := rfl
theorem tIx_cons {key : Int32} {t : aT} {r : List aT} {i : Nat} : tIx key (t :: r) i = if t.1 = key then some i else tIx key r (i + 1) := rfl
theorem tIx_some {key : Int32} : ∀ {l : List aT} {i j : Nat}, tIx key l i = some j → i ≤ j ∧ j < i + l.length ∧ ∃ t, l[j - i]? = some t ∧ t.1 = key
  | [], i, j, h => by rw [tIx_nil] at h; cases h
  | t :: r, i, j, h => by
    rw [tIx_cons] at h
    by_cases c : t.1 = key
    · rw [if_pos c] at h
      cases h
      exact ⟨Nat.le_refl _, by rw [List.length_cons]; omega, t, by rw [Nat.sub_self]; rfl, c⟩
    · rw [if_neg c] at h
      obtain ⟨h1, h2, t', h3, h4⟩ := tIx_some h
      refine ⟨by omega, by rw [List.length_cons]; omega, t', ?_, h4⟩
      have e : j - i = (j - (i + 1)) + 1 := by omega
      rw [e, List.getElem?_cons_succ]
      exact h3
theorem tIx_0 {key : Int32} {l : List aT} {j : Nat} (h : tIx key l 0 = some j) : j < l.length ∧ ∃ t, l[j]? = some t ∧ t.1 = key := by
  obtain ⟨-, h2, t, h3, h4⟩ := tIx_some h
  exact ⟨by omega, t, h3, h4⟩
def TC (N : Nat → Nat) (S : sSt) (a : Nat) (th : aT) : Prop := gFI S 202 a = th.1 ∧ gFJ S 203 a = th.2.1 ∧ gFI S 204 a = th.2.2.1 ∧ ∃ l b, gFR S 201 a = some l ∧ LsI N S l b th.2.2.2
def CT1 (N : Nat → Nat) (S : sSt) (u tt : Nat) (l : List aT) : Prop := gFR S 244 u = some tt ∧ gFI S 245 u = nI l.length ∧ l.length ≤ 10 ∧ N tt = 10 ∧ ∀ i th, l[i]? = some th → ∃ a, gAR S tt i = some a ∧ TC N S a th
def CT (N : Nat → Nat) (S : sSt) (t c : Nat) (F : aF) (H : aH) : Prop := ∀ k, k < c → F.1 k = true → ∃ u tt, gAR S t k = some u ∧ CT1 N S u tt (H k)
/-- the things of each unit in the table are its own, and no two of them one -/
def TI (ω : Nat → Nat) (t : Nat) (S : sSt) : Prop := ∀ k u tt, k < 16 → gAR S t k = some u → gFR S 244 u = some tt → (∀ i b, gAR S tt i = some b → ω b = tt ∧ gFI S 200 b = gFI S 240 u) ∧ ∀ i j b, gAR S tt i = some b → gAR S tt j = some b → i = j
def oA (S : sSt) (tt : Nat) (x : Option Nat) : Option Nat := Option.bind x (fun j => gAR S tt j)
section
variable {N : Nat → Nat} {S : sSt} {u tt : Nat} {l : List aT}
theorem tf_loop (h : CT1 N S u tt l) (key : Int32) : ∀ (n i : Nat), i ≤ l.length → Pa (L_X6_thingFor_2 N S n u key (nI i)) (fun r => r = oA S tt (tIx key (l.drop i) i))
  | 0, i, _ => Pa_none
  | n + 1, i, hi => by
    obtain ⟨h1, h2, h3, h4, h5⟩ := h
    show Pa (Y_X6_thingFor_2 N S (L_X6_thingFor_2 N S n) u key (nI i)) _
    unfold Y_X6_thingFor_2 B_X6_thingFor_48
    rw [h2]
    by_cases c : i = l.length
    · refine Pa_it (leN (by omega) (by omega) (by omega)) (Pa_some ?_)
      rw [List.drop_eq_nil_of_le (by omega)]
      rfl
    · have hi2 : i < l.length := by omega
      have e1 : (nI i).toNatClampNeg = i := n_cl (by omega)
      have e2 : l.drop i = l[i] :: l.drop (i + 1) := List.drop_eq_getElem_cons hi2
      obtain ⟨a, ha, hk, -⟩ := h5 i _ (List.getElem?_eq_getElem hi2)
      rw [e1, n_a1, e2]
      refine Pa_if (nleN (by omega) (by omega) (by omega)) (Pa_r h1 (Pa_if (by rw [h4]; exact nleN (by omega) (by omega) (by omega)) (Pa_r h1 (Pa_g (Pa_a ha (Pa_oS rfl (Pa_r h1 (Pa_g (Pa_a ha (Pa_bs ?_)))))))))) 
      rw [hk, tIx_cons]
      by_cases ck : (l[i]).1 = key
      · refine Pa_it ck (Pa_r h1 (Pa_g (Pa_a ha (Pa_some ?_))))
        rw [if_pos ck]
        exact ha.symm
      · refine Pa_if ck ?_
        rw [if_neg ck]
        exact tf_loop ⟨h1, h2, h3, h4, h5⟩ key n (i + 1) hi2
theorem tf_val (h : CT1 N S u tt l) (key : Int32) : Pa (F_X6_thingFor N S u key) (fun r => r = oA S tt (tIx key l 0)) := by
  have := tf_loop h key FU 0 (Nat.zero_le _)
  rw [List.drop_zero] at this
  exact this
end
/-! rows of references, rewritten -/
def wR (S : sSt) (tt : Nat) (f : Nat → Option Nat) : sSt := (S.1, S.2.1, S.2.2.1, S.2.2.2.1, S.2.2.2.2.1, fun a k => if a = tt then f k else S.2.2.2.2.2 a k)
theorem wR_self {S : sSt} {tt : Nat} : S = wR S tt (gAR S tt) := by
  have e : (fun a k => if a = tt then gAR S tt k else S.2.2.2.2.2 a k) = S.2.2.2.2.2 := by
    funext a k
    by_cases c : a = tt
    · rw [if_pos c, c]; rfl
    · rw [if_neg c]
  show S = (S.1, S.2.1, S.2.2.1, S.2.2.2.1, S.2.2.2.2.1, fun a k => if a = tt then gAR S tt k else S.2.2.2.2.2 a k)
  rw [e]
theorem wR_set {S : sSt} {tt i : Nat} {f : Nat → Option Nat} {v : Option Nat} : sAR (wR S tt f) tt i v = wR S tt (up1 f i v) := by
  have e : u2 (wR S tt f).2.2.2.2.2 tt i v = fun a k => if a = tt then up1 f i v k else S.2.2.2.2.2 a k := by
    funext a k
    show (if a = tt ∧ k = i then v else if a = tt then f k else S.2.2.2.2.2 a k) = _
    unfold up1
    by_cases c : a = tt
    · by_cases c2 : k = i
      · rw [if_pos ⟨c, c2⟩, if_pos c, if_pos c2]
      · rw [if_neg (fun z => c2 z.2), if_pos c, if_pos c, if_neg c2]
    · rw [if_neg (fun z => c z.1), if_neg c, if_neg c]
  show (S.1, S.2.1, S.2.2.1, S.2.2.2.1, S.2.2.2.2.1, u2 (wR S tt f).2.2.2.2.2 tt i v) = _
  rw [e]
  rfl
theorem gAR_wR {S : sSt} {tt a k : Nat} {f : Nat → Option Nat} : gAR (wR S tt f) a k = if a = tt then f k else gAR S a k := rfl
theorem gAR_wRs {S : sSt} {tt k : Nat} {f : Nat → Option Nat} : gAR (wR S tt f) tt k = f k := if_pos rfl
/-- where a key goes -/
def insP (key : Int32) (l : List aT) : Nat → Nat
  | 0 => 0
  | n + 1 => match l[n]? with
    | some t => if t.1 ≤ key then n + 1 else insP key l n
    | none => n + 1
theorem insP_le {key : Int32} {l : List aT} : ∀ n, insP key l n ≤ n
  | 0 => Nat.le_refl _
  | n + 1 => by
    unfold insP
    cases l[n]? with
    | none => exact Nat.le_refl _
    | some t =>
      show (if t.1 ≤ key then n + 1 else insP key l n) ≤ n + 1
      by_cases c : t.1 ≤ key
      · rw [if_pos c]; omega
      · rw [if_neg c]; have := insP_le (key := key) (l := l) n; omega
theorem insP_s {key : Int32} {l : List aT} {n : Nat} {t : aT} (h : l[n]? = some t) : insP key l (n + 1) = if t.1 ≤ key then n + 1 else insP key l n := by
  show (match l[n]? with
    | some t => if t.1 ≤ key then n + 1 else insP key l n
    | none => n + 1) = _
  rw [h]
def ins (l : List aT) (p : Nat) (th : aT) : List aT := l.take p ++ th :: l.drop p
theorem ins_len {l : List aT} {p : Nat} {th : aT} (hp : p ≤ l.length) : (ins l p th).length = l.length + 1 := by
  unfold ins
  rw [List.length_append, List.length_cons, List.length_take, List.length_drop]
  omega
theorem ins_get {l : List aT} {p i : Nat} {th : aT} (hp : p ≤ l.length) : (ins l p th)[i]? = if i < p then l[i]? else if i = p then some th else l[i - 1]? := by
  unfold ins
  have e : (l.take p).length = p := by rw [List.length_take]; omega
  rw [List.getElem?_append, e]
  by_cases c : i < p
  · rw [if_pos c, if_pos c, List.getElem?_take, if_pos c]
  · rw [if_neg c, if_neg c]
    by_cases c2 : i = p
    · rw [if_pos c2, c2, Nat.sub_self]
      rfl
    · rw [if_neg c2]
      have e2 : i - p = (i - p - 1) + 1 := by omega
      rw [e2, List.getElem?_cons_succ, List.getElem?_drop]
      congr 1
      omega
/-- the row behind an insertion at q out of p -/
def shF (f : Nat → Option Nat) (q p a i : Nat) : Option Nat := if i = q then some a else if q < i ∧ i ≤ p then f (i - 1) else f i
section
variable {N : Nat → Nat} {S : sSt} {u tt a lb : Nat} {l : List aT}
theorem ad_loop (h244 : gFR S 244 u = some tt) (hn : l.length < 10) (hN : N tt = 10) (hl : ∀ i th, l[i]? = some th → ∃ b, gAR S tt i = some b ∧ gFI S 202 b = th.1) (h201 : gFR S 201 a = some lb) (key : Int32) : ∀ (n p : Nat) (f : Nat → Option Nat), p ≤ l.length → (∀ i, i < p → f i = gAR S tt i) →
    Pa (L_X6_addThing_48 N n (wR S tt f) u key (some a) (nI p)) (fun r => r = (some a, sFI (sFI (sFI (wR S tt (shF f (insP key l p) p a)) 245 u (gFI S 245 u + 1)) 202 a key) 41 lb 0))
  | 0, p, f, _, _ => Pa_none
  | n + 1, p, f, hp, hf => by
    have e1 : (nI p).toNatClampNeg = p := n_cl (by omega)
    have stop : insP key l p = p → Pa (B_X6_addThing_96 N (wR S tt f) u key (some a) (nI p)) (fun r => r = (some a, sFI (sFI (sFI (wR S tt (shF f (insP key l p) p a)) 245 u (gFI S 245 u + 1)) 202 a key) 41 lb 0)) := fun e => by
      unfold B_X6_addThing_96
      rw [e1]
      refine Pa_r h244 (Pa_bs (Pa_g (Pa_b (Pa_b (Pa_b ?_)))))
      refine Pa_r (b := lb) h201 ?_
      rw [emp_val]
      refine Pa_bs (Pa_some ?_)
      have e2 : up1 f p (some a) = shF f (insP key l p) p a := by
        funext i
        unfold up1 shF
        rw [e]
        by_cases c : i = p
        · rw [if_pos c, if_pos c]
        · rw [if_neg c, if_neg c, if_neg (by omega)]
      rw [wR_set, e2]
      rfl
    show Pa (Y_X6_addThing_48 N (L_X6_addThing_48 N n) (wR S tt f) u key (some a) (nI p)) _
    unfold Y_X6_addThing_48
    rcases Nat.eq_zero_or_pos p with h0 | h0
    · subst h0
      exact Pa_it (by decide) (stop rfl)
    · obtain ⟨q, rfl⟩ : ∃ q, p = q + 1 := ⟨p - 1, by omega⟩
      have e0 : nI (q + 1) - 1 = nI q := n_s1 (by omega)
      have e0' : nI (q + 1) + (-1) = nI q := n_p1 (by omega)
      have e3 : (nI q).toNatClampNeg = q := n_cl (by omega)
      have hq : q < l.length := by omega
      have hlq := List.getElem?_eq_getElem hq
      obtain ⟨b, hb, hk⟩ := hl q _ hlq
      have hfb : gAR (wR S tt f) tt q = some b := by rw [gAR_wRs, hf q (by omega)]; exact hb
      have h244' : gFR (wR S tt f) 244 u = some tt := h244
      rw [e0, e0', e1, e3]
      refine Pa_if (fun z => absurd ((nI_leI (b := 0) (by omega) (by omega)).mp z) (by omega)) (Pa_r h244' (Pa_if (by rw [hN]; exact nleN (by omega) (by omega) (by omega)) (Pa_r h244' (Pa_g (Pa_a hfb ?_)))))
      have eB : F_X6_isBehind N (wR S tt f) (some b) key = if (l[q]).1 ≤ key then some 0 else some 1 := by
        show (if gFI S 202 b ≤ key then some (0 : Int32) else some (1 : Int32)) = _
        rw [hk]
      rw [eB]
      by_cases c : (l[q]).1 ≤ key
      · rw [if_pos c]
        exact Pa_bs (Pa_it rfl (stop (by rw [insP_s hlq, if_pos c])))
      · rw [if_neg c]
        refine Pa_bs (Pa_if (by decide) (Pa_m h244' (Pa_r h244' (Pa_g (Pa_a hfb (Pa_bs (Pa_bs (Pa_g (Pa_b ?_)))))))))
        rw [wR_set]
        refine Pa_mono (ad_loop h244 hn hN hl h201 key n q (up1 f (q + 1) (some b)) (by omega) (fun i hi => by rw [up1_n (by omega)]; exact hf i (by omega))) (fun r hr => ?_)
        rw [hr, insP_s hlq, if_neg c]
        have hi := insP_le (key := key) (l := l) q
        have e5 : shF (up1 f (q + 1) (some b)) (insP key l q) q a = shF f (insP key l q) (q + 1) a := by
          funext i
          unfold shF up1
          by_cases c1 : i = insP key l q
          · rw [if_pos c1, if_pos c1]
          · rw [if_neg c1, if_neg c1]
            by_cases c2 : i = q + 1
            · rw [if_neg (by omega), if_pos c2, if_pos (by omega), c2]
              show some b = f q
              rw [hf q (by omega)]
              exact hb.symm
            · by_cases c3 : insP key l q < i ∧ i ≤ q
              · rw [if_pos c3, if_neg (by omega), if_pos (by omega)]
              · rw [if_neg c3, if_neg c2, if_neg (by omega)]
        rw [e5]
theorem ad_val (h : CT1 N S u tt l) (hn : l.length < 10) (ha : gAR S tt l.length = some a) (h201 : gFR S 201 a = some lb) (key : Int32) : Pa (F_X6_addThing N S u key) (fun r => r = (some a, sFI (sFI (sFI (wR S tt (shF (gAR S tt) (insP key l l.length) l.length a)) 245 u (gFI S 245 u + 1)) 202 a key) 41 lb 0)) := by
  obtain ⟨h1, h2, h3, h4, h5⟩ := h
  have hl : ∀ i th, l[i]? = some th → ∃ b, gAR S tt i = some b ∧ gFI S 202 b = th.1 := fun i th hi => by
    obtain ⟨b, hb, hk, -⟩ := h5 i th hi
    exact ⟨b, hb, hk⟩
  have e1 : (nI l.length).toNatClampNeg = l.length := n_cl (by omega)
  have main := ad_loop (N := N) h1 hn h4 hl h201 key FU l.length (gAR S tt) (Nat.le_refl _) (fun _ _ => rfl)
  rw [← wR_self] at main
  unfold F_X6_addThing
  rw [h2, e1]
  refine Pa_if (nI_pos (by omega)) (Pa_r h1 (Pa_if (by rw [h4]; exact nleN (by omega) (by omega) (by omega)) (Pa_r h1 (Pa_g (Pa_a ha (Pa_oS rfl (Pa_r h1 (Pa_g (Pa_a ha ?_)))))))))
  rw [h2] at main
  exact main
theorem ad_full (h : CT1 N S u tt l) (hn : ¬ l.length < 10) (key : Int32) : Pa (F_X6_addThing N S u key) (fun r => r = (none, S)) := by
  obtain ⟨h1, h2, h3, h4, h5⟩ := h
  unfold F_X6_addThing
  rw [h2]
  refine Pa_if (nI_pos (by omega)) (Pa_r h1 (Pa_it (by rw [h4]; exact leN (by omega) (by omega) (by omega)) (Pa_some rfl)))
/-- the row behind a removal at g out of n -/
def drF (f : Nat → Option Nat) (g n i : Nat) : Option Nat := if i < g then f i else if i + 1 < n then f (i + 1) else if i + 1 = n then f g else f i
theorem dr_loop (h244 : gFR S 244 u = some tt) (h245 : gFI S 245 u = nI l.length) (hn : l.length ≤ 10) (hN : N tt = 10) {g : Nat} (hg : g < l.length) (hga : gAR S tt g = some a) (hs : ∀ i, i < l.length → ∃ b, gAR S tt i = some b) (hi : ∀ i, gAR S tt i = some a → i = g) : ∀ (n i to : Nat) (f : Nat → Option Nat), i ≤ l.length → to = (if i ≤ g then i else i - 1) → (∀ j, j < to → f j = if j < g then gAR S tt j else gAR S tt (j + 1)) → (∀ j, to ≤ j → f j = gAR S tt j) →
    Pa (L_X6_dropThing_17 N n (wR S tt f) u a (nI to) (nI i)) (fun r => r = (1, sFI (wR S tt (drF (gAR S tt) g l.length)) 245 u (nI (l.length - 1))))
  | 0, i, to, f, _, _, _, _ => Pa_none
  | n + 1, i, to, f, hil, hto, ha, hb => by
    have e1 : (nI to).toNatClampNeg = to := n_cl (by split at hto <;> omega)
    have e2 : (nI i).toNatClampNeg = i := n_cl (by omega)
    have h244' : gFR (wR S tt f) 244 u = some tt := h244
    have h245' : gFI (wR S tt f) 245 u = nI l.length := h245
    have tl : to ≤ i := by split at hto <;> omega
    show Pa (Y_X6_dropThing_17 N (L_X6_dropThing_17 N n) (wR S tt f) u a (nI to) (nI i)) _
    unfold Y_X6_dropThing_17 B_X6_dropThing_72
    rw [h245']
    by_cases c : i = l.length
    · refine Pa_it (leN (by omega) (by omega) (by omega)) ?_
      have et : to = l.length - 1 := by rw [hto, if_neg (by omega), c]
      unfold B_X6_dropThing_78 B_X6_dropThing_94
      rw [e1]
      refine Pa_r h244' (Pa_if (by rw [hN]; exact nleN (by omega) (by omega) (by omega)) (Pa_r h244' (Pa_g (Pa_b (Pa_b (Pa_some ?_))))))
      have e3 : up1 f to (some a) = drF (gAR S tt) g l.length := by
        funext j
        unfold up1 drF
        by_cases c1 : j = to
        · rw [if_pos c1, if_neg (by omega), if_neg (by omega), if_pos (by omega)]
          exact hga.symm
        · rw [if_neg c1]
          by_cases c2 : j < to
          · rw [ha j c2]
            by_cases c3 : j < g
            · rw [if_pos c3, if_pos c3]
            · rw [if_neg c3, if_neg c3, if_pos (by omega)]
          · rw [hb j (by omega), if_neg (by omega), if_neg (by omega), if_neg (by omega)]
      rw [wR_set, e3, et]
    · have hil2 : i < l.length := by omega
      obtain ⟨b, hbb⟩ := hs i hil2
      have hfb : gAR (wR S tt f) tt i = some b := by rw [gAR_wRs, hb i tl]; exact hbb
      refine Pa_if (nleN (by omega) (by omega) (by omega)) (Pa_r h244' (Pa_if (by rw [hN]; exact nleN (by omega) (by omega) (by omega)) (Pa_r h244' (Pa_g ?_))))
      rw [e1, e2, n_a1, n_a1]
      refine Pa_a hfb ?_
      by_cases cb : b = a
      · have eg : i = g := hi i (by rw [← cb]; exact hbb)
        refine Pa_it (by rw [cb]) ?_
        refine dr_loop h244 h245 hn hN hg hga hs hi n (i + 1) to f (by omega) ?_ ha hb
        rw [hto, if_pos (by omega), if_neg (by omega)]
        omega
      · have neg : i ≠ g := fun e => by
          rw [e, hga] at hbb
          cases hbb
          exact cb rfl
        refine Pa_if (fun z => by cases z; exact cb rfl) (Pa_r h244' (Pa_if (by rw [hN]; exact nleN (by omega) (by omega) (by omega)) (Pa_m h244' (Pa_r h244' (Pa_g (Pa_a hfb (Pa_bs (Pa_bs (Pa_g (Pa_b ?_)))))))))) 
        rw [wR_set]
        refine dr_loop h244 h245 hn hN hg hga hs hi n (i + 1) (to + 1) _ (by omega) ?_ (fun j hj => ?_) (fun j hj => ?_)
        · rw [hto]
          by_cases c5 : i ≤ g
          · rw [if_pos c5, if_pos (by omega)]
          · rw [if_neg c5, if_neg (by omega)]
            omega
        · by_cases cj : j = to
          · rw [cj, up1_s, ← hbb]
            rw [hto]
            by_cases c5 : i ≤ g
            · rw [if_pos c5, if_pos (by omega)]
            · rw [if_neg c5, if_neg (by omega)]
              congr 1
              omega
          · rw [up1_n cj]
            exact ha j (by omega)
        · rw [up1_n (by omega)]
          exact hb j (by omega)
theorem dr_val (h : CT1 N S u tt l) {g : Nat} (hg : g < l.length) (hga : gAR S tt g = some a) (hi : ∀ i, gAR S tt i = some a → i = g) : Pa (L_X6_dropThing_17 N FU S u a 0 0) (fun r => r = (1, sFI (wR S tt (drF (gAR S tt) g l.length)) 245 u (nI (l.length - 1)))) := by
  obtain ⟨h1, h2, h3, h4, h5⟩ := h
  have hs : ∀ i, i < l.length → ∃ b, gAR S tt i = some b := fun i hi => by
    obtain ⟨b, hb, -⟩ := h5 i _ (List.getElem?_eq_getElem hi)
    exact ⟨b, hb⟩
  have main := dr_loop (N := N) h1 h2 h3 h4 hg hga hs hi FU 0 0 (gAR S tt) (Nat.zero_le _) (by rw [if_pos (Nat.zero_le g)]) (fun j hj => absurd hj (Nat.not_lt_zero j)) (fun _ _ => rfl)
  rw [← wR_self] at main
  exact main
end
