theorem R_X7_init.ext {Λ Λ' : sLay} {S S' : sSt} {p0 : Nat} (h : R_X7_init Λ S p0 Λ' S') : lExt Λ Λ' := by
  obtain ⟨q1, hq1, rfl, -⟩ := h
  exact (lExt.new hq1)
theorem R_X7_init.kp {Λ Λ' : sLay} {S S' : sSt} {p0 : Nat} (h : R_X7_init Λ S p0 Λ' S') {a : Nat} (ha : a ∈ Λ.1) (hp : a ≠ p0) : kpA S S' a := by
  obtain ⟨q1, hq1, -, rfl⟩ := h
  exact (kpA.tr (kpA.new (ne_fresh ha hq1)) (kpA.tr (kpA.sFR hp) (kpA.sFI hp)))
theorem R_X0_init.ext {Λ Λ' : sLay} {S S' : sSt} {p0 : Nat} (h : R_X0_init Λ S p0 Λ' S') : lExt Λ Λ' := by
  obtain ⟨q1, hq1, q6, hq6, rfl, -⟩ := h
  exact (lExt.tr (lExt.new hq1) (lExt.new hq6))
theorem R_X0_init.kp {Λ Λ' : sLay} {S S' : sSt} {p0 : Nat} (h : R_X0_init Λ S p0 Λ' S') {a : Nat} (ha : a ∈ Λ.1) (hp : a ≠ p0) : kpA S S' a := by
  obtain ⟨q1, hq1, q6, hq6, -, rfl⟩ := h
  exact (kpA.tr (kpA.new (ne_fresh ha hq1)) (kpA.tr (kpA.sFR hp) (kpA.tr (kpA.sFI hp) (kpA.tr (kpA.new (ne_fresh (inNew ha) hq6)) (kpA.tr (kpA.sFR hp) (kpA.sFI hp))))))
theorem R_X4_init.ext {Λ Λ' : sLay} {S S' : sSt} {p0 : Nat} (h : R_X4_init Λ S p0 Λ' S') : lExt Λ Λ' := by
  obtain ⟨q1, hq1, Λ6, S7, r8, q13, hq13, Λ18, S19, r20, rfl, -⟩ := h
  exact (lExt.tr (lExt.new hq1) (lExt.tr r8.ext (lExt.tr (lExt.new hq13) r20.ext)))
theorem R_X4_init.kp {Λ Λ' : sLay} {S S' : sSt} {p0 : Nat} (h : R_X4_init Λ S p0 Λ' S') {a : Nat} (ha : a ∈ Λ.1) (hp : a ≠ p0) : kpA S S' a := by
  obtain ⟨q1, hq1, Λ6, S7, r8, q13, hq13, Λ18, S19, r20, -, rfl⟩ := h
  exact (kpA.tr (kpA.new (ne_fresh ha hq1)) (kpA.tr (r8.kp (inNew ha) (ne_fresh ha hq1)) (kpA.tr (kpA.sFR hp) (kpA.tr (kpA.new (ne_fresh (r8.ext a (inNew ha)).1 hq13)) (kpA.tr (r20.kp (inNew (r8.ext a (inNew ha)).1) (ne_fresh (r8.ext a (inNew ha)).1 hq13)) (kpA.sFR hp))))))
theorem R_X2_init.ext {Λ Λ' : sLay} {S S' : sSt} {p0 : Nat} (h : R_X2_init Λ S p0 Λ' S') : lExt Λ Λ' := by
  obtain ⟨q1, hq1, q6, hq6, q11, hq11, Λ16, S17, r18, rfl, -⟩ := h
  exact (lExt.tr (lExt.new hq1) (lExt.tr (lExt.new hq6) (lExt.tr (lExt.new hq11) r18.ext)))
theorem R_X2_init.kp {Λ Λ' : sLay} {S S' : sSt} {p0 : Nat} (h : R_X2_init Λ S p0 Λ' S') {a : Nat} (ha : a ∈ Λ.1) (hp : a ≠ p0) : kpA S S' a := by
  obtain ⟨q1, hq1, q6, hq6, q11, hq11, Λ16, S17, r18, -, rfl⟩ := h
  exact (kpA.tr (kpA.new (ne_fresh ha hq1)) (kpA.tr (kpA.sFR hp) (kpA.tr (kpA.new (ne_fresh (inNew ha) hq6)) (kpA.tr (kpA.sFR hp) (kpA.tr (kpA.new (ne_fresh (inNew (inNew ha)) hq11)) (kpA.tr (r18.kp (inNew (inNew (inNew ha))) (ne_fresh (inNew (inNew ha)) hq11)) (kpA.sFR hp)))))))
theorem R_X8_init.ext {Λ Λ' : sLay} {S S' : sSt} {p0 : Nat} (h : R_X8_init Λ S p0 Λ' S') : lExt Λ Λ' := by
  obtain ⟨q1, hq1, Λ6, S7, r8, q13, hq13, Λ18, S19, r20, q25, hq25, Λ30, S31, r32, q37, hq37, Λ42, S43, r44, rfl, -⟩ := h
  exact (lExt.tr (lExt.new hq1) (lExt.tr r8.ext (lExt.tr (lExt.new hq13) (lExt.tr r20.ext (lExt.tr (lExt.new hq25) (lExt.tr r32.ext (lExt.tr (lExt.new hq37) r44.ext)))))))
theorem R_X8_init.kp {Λ Λ' : sLay} {S S' : sSt} {p0 : Nat} (h : R_X8_init Λ S p0 Λ' S') {a : Nat} (ha : a ∈ Λ.1) (hp : a ≠ p0) : kpA S S' a := by
  obtain ⟨q1, hq1, Λ6, S7, r8, q13, hq13, Λ18, S19, r20, q25, hq25, Λ30, S31, r32, q37, hq37, Λ42, S43, r44, -, rfl⟩ := h
  exact (kpA.tr (kpA.new (ne_fresh ha hq1)) (kpA.tr (r8.kp (inNew ha) (ne_fresh ha hq1)) (kpA.tr (kpA.sFR hp) (kpA.tr (kpA.new (ne_fresh (r8.ext a (inNew ha)).1 hq13)) (kpA.tr (r20.kp (inNew (r8.ext a (inNew ha)).1) (ne_fresh (r8.ext a (inNew ha)).1 hq13)) (kpA.tr (kpA.sFR hp) (kpA.tr (kpA.new (ne_fresh (r20.ext a (inNew (r8.ext a (inNew ha)).1)).1 hq25)) (kpA.tr (r32.kp (inNew (r20.ext a (inNew (r8.ext a (inNew ha)).1)).1) (ne_fresh (r20.ext a (inNew (r8.ext a (inNew ha)).1)).1 hq25)) (kpA.tr (kpA.sFR hp) (kpA.tr (kpA.new (ne_fresh (r32.ext a (inNew (r20.ext a (inNew (r8.ext a (inNew ha)).1)).1)).1 hq37)) (kpA.tr (r44.kp (inNew (r32.ext a (inNew (r20.ext a (inNew (r8.ext a (inNew ha)).1)).1)).1) (ne_fresh (r32.ext a (inNew (r20.ext a (inNew (r8.ext a (inNew ha)).1)).1)).1 hq37)) (kpA.tr (kpA.sFR hp) (kpA.sFI hp)))))))))))))
/-- rows made one after another, each put into a field of p0 -/
def R_arrs (p0 : Nat) : List (Nat × Nat × Nat) → sLay → sSt → sLay → sSt → Prop
  | [], Λ, S, Λ', S' => Λ' = Λ ∧ S' = S
  | t :: r, Λ, S, Λ', S' => ∃ q, q ∉ Λ.1 ∧ R_arrs p0 r (lNew Λ q t.2.1 t.2.2) (sFR (sNew S q) t.1 p0 (some q)) Λ' S'
theorem R_arrs.ext {p0 : Nat} : ∀ {l : List (Nat × Nat × Nat)} {Λ Λ' : sLay} {S S' : sSt}, R_arrs p0 l Λ S Λ' S' → lExt Λ Λ'
  | [], _, _, _, _, h => by rw [h.1]; exact lExt.rf
  | _ :: _, _, _, _, _, h => by obtain ⟨q, hq, h⟩ := h; exact (lExt.new hq).tr h.ext
theorem R_arrs.kp {p0 : Nat} : ∀ {l : List (Nat × Nat × Nat)} {Λ Λ' : sLay} {S S' : sSt}, R_arrs p0 l Λ S Λ' S' → ∀ {a : Nat}, a ∈ Λ.1 → a ≠ p0 → kpA S S' a
  | [], _, _, _, _, h, a, _, _ => by rw [h.2]; exact kpA.rf
  | _ :: _, _, _, _, _, h, a, ha, hp => by obtain ⟨q, hq, h⟩ := h; exact (kpA.new (ne_fresh ha hq)).tr ((kpA.sFR hp).tr (h.kp (inNew ha) hp))
theorem R_arrs.ints {p0 : Nat} : ∀ {l : List (Nat × Nat × Nat)} {Λ Λ' : sLay} {S S' : sSt}, R_arrs p0 l Λ S Λ' S' → p0 ∈ Λ.1 → ∀ i, gFI S' i p0 = gFI S i p0
  | [], _, _, _, _, h, _, i => by rw [h.2]
  | _ :: _, _, _, _, _, h, hp, i => by
    obtain ⟨q, hq, h⟩ := h
    rw [h.ints (inNew hp) i, gFI_sFR, gFI_sNew, if_neg (ne_fresh hp hq)]
theorem R_arrs.other {p0 : Nat} : ∀ {l : List (Nat × Nat × Nat)} {Λ Λ' : sLay} {S S' : sSt}, R_arrs p0 l Λ S Λ' S' → p0 ∈ Λ.1 → ∀ f, f ∉ l.map (fun t => t.1) → gFR S' f p0 = gFR S f p0
  | [], _, _, _, _, h, _, f, _ => by rw [h.2]
  | t :: r, _, _, _, _, h, hp, f, hf => by
    obtain ⟨q, hq, h⟩ := h
    have h1 : f ≠ t.1 := fun e => hf (by rw [e]; exact List.mem_cons_self)
    have h2 : f ∉ r.map (fun t => t.1) := fun e => hf (List.mem_cons_of_mem _ e)
    rw [h.other (inNew hp) f h2, gFR_sFR, if_neg (fun z => h1 z.1), gFR_sNew, if_neg (ne_fresh hp hq)]
/-- each field holds its row, of its length, all zero -/
theorem R_arrs.at {p0 : Nat} : ∀ {l : List (Nat × Nat × Nat)} {Λ Λ' : sLay} {S S' : sSt}, R_arrs p0 l Λ S Λ' S' → p0 ∈ Λ.1 → (l.map (fun t => t.1)).Nodup → ∀ f kd n, (f, kd, n) ∈ l → ∃ a, gFR S' f p0 = some a ∧ isK Λ' kd a ∧ Λ'.2.2 a = n ∧ (∀ k, gAI S' a k = 0) ∧ (∀ k, gAJ S' a k = 0) ∧ a ∉ Λ.1
  | [], _, _, _, _, _, _, _, f, kd, n, hm => by cases hm
  | t :: r, Λ, _, _, _, h, hp, hn, f, kd, n, hm => by
    obtain ⟨q, hq, h⟩ := h
    have hn1 : t.1 ∉ r.map (fun t => t.1) := (List.nodup_cons.mp hn).1
    have hn2 : (r.map (fun t => t.1)).Nodup := (List.nodup_cons.mp hn).2
    have hpq : p0 ≠ q := ne_fresh hp hq
    rcases List.mem_cons.mp hm with e | hm
    · subst e
      have hk : isK (lNew Λ q kd n) kd q := isK.mk
      have hkp := h.kp hk.1 (Ne.symm hpq)
      refine ⟨q, ?_, isK.ext h.ext hk, (h.ext q hk.1).2.2.trans (va_up_self _ _ _), fun k => ?_, fun k => ?_, hq⟩
      · rw [h.other (inNew hp) _ hn1, gFR_sFR, if_pos ⟨rfl, rfl⟩]
      · rw [hkp.2.2.2.1 k, gAI_sFR, gAI_sNew, if_pos rfl]
      · rw [hkp.2.2.2.2.1 k, gAJ_sFR, gAJ_sNew, if_pos rfl]
    · obtain ⟨a, h1, h2, h3, h4, h5, h6⟩ := h.at (inNew hp) hn2 f kd n hm
      exact ⟨a, h1, h2, h3, h4, h5, fun z => h6 (inNew z)⟩
abbrev arrs9 : List (Nat × Nat × Nat) := [(362, 12, 16), (363, 10, 16), (364, 10, 160), (365, 11, 160), (366, 12, 160), (367, 10, 160), (368, 10, 480), (369, 10, 16), (370, 10, 96), (371, 10, 16), (372, 10, 192), (373, 12, 16), (374, 10, 16), (375, 11, 11200), (376, 10, 96), (377, 10, 16), (379, 10, 480), (380, 12, 160), (381, 11, 160), (382, 10, 160), (383, 12, 160), (385, 10, 170), (386, 10, 170), (387, 11, 700), (389, 10, 6), (390, 12, 256), (391, 10, 16), (392, 10, 16), (395, 12, 16)]
theorem R_X9_arrs {Λ Λ' : sLay} {S S' : sSt} {p0 : Nat} (h : R_X9_init Λ S p0 Λ' S') : R_arrs p0 arrs9 Λ S Λ' S' := h
