/-! The places of class and reference: a role and a number give an address. -/
/-- roles of one place: 0 the class's object, 1 Units, 2 Constants, 3 Rows, 4 Rings, 5 all, 6 path, 7 met, 8 scratch, 9 readerScratch, 10 and 11 their longs, 12 reach, 13 ringNumbers, 14 inOrder, 15 its items, 16 the reference, 17 the law's row -/
def is1 (r : Nat) : Bool := Nat.ble r 17
/-- roles of a unit: 20 itself, 21 ways, 22 their items, 23 uses, 24 their items, 25 keptRow, 26 its longs, 27 things, 28 sought, 29 its items -/
def is2 (r : Nat) : Bool := Nat.ble 20 r && Nat.ble r 29
/-- roles of a thing: 30 itself, 31 builtOf, 32 its items -/
def is3 (r : Nat) : Bool := Nat.ble 30 r && Nat.ble r 32
/-- the reference's arrays, by their fields -/
def isM (f : Nat) : Bool := (Nat.ble 362 f && Nat.ble f 377) || (Nat.ble 379 f && Nat.ble f 383) || (Nat.ble 385 f && Nat.ble f 387) || (Nat.ble 389 f && Nat.ble f 392) || Nat.beq f 395
/-- there is such a place, when n units were made -/
def vld (n r i : Nat) : Prop := (is1 r = true ∧ i = 0) ∨ (is2 r = true ∧ i < n) ∨ (is3 r = true ∧ i < 10 * n) ∨ (isM r = true ∧ i = 0)
/-- fields that hold references: (field, the role that has it, the role that it holds) -/
def lnkT : List (Nat × Nat × Nat) := [(320, 0, 1), (321, 0, 2), (322, 0, 3), (323, 0, 4), (280, 1, 5), (0, 2, 6), (2, 2, 7), (160, 3, 8), (161, 3, 9), (120, 8, 10), (120, 9, 11), (80, 4, 12), (81, 4, 13), (82, 4, 14), (40, 14, 15),
  (241, 20, 21), (242, 20, 23), (243, 20, 25), (244, 20, 27), (246, 20, 28), (40, 21, 22), (40, 23, 24), (40, 28, 29), (120, 25, 26), (201, 30, 31), (40, 31, 32)]
def lenT : List (Nat × Nat) := [(5, 16), (6, 160), (7, 160), (10, 680), (11, 680), (12, 16), (13, 16), (15, 16), (17, 1), (22, 6), (24, 12), (26, 680), (27, 10), (29, 42), (32, 3)]
def l16 (f : Nat) : Bool := f == 362 || f == 363 || f == 369 || f == 371 || f == 373 || f == 374 || f == 377 || f == 391 || f == 392 || f == 395
def l160 (f : Nat) : Bool := f == 364 || f == 365 || f == 366 || f == 367 || f == 380 || f == 381 || f == 382 || f == 383
def l480 (f : Nat) : Bool := f == 368 || f == 379
def l96 (f : Nat) : Bool := f == 370 || f == 376
def l170 (f : Nat) : Bool := f == 385 || f == 386
abbrev gG : Type := Nat → Nat → Nat
/-- where all lies -/
def Geo (G : gG) (n : Nat) (Λ : sLay) (S : sSt) : Prop :=
  n ≤ 16 ∧ (∀ q ∈ lnkT, ∀ i, vld n q.2.1 i → gFR S q.1 (G q.2.1 i) = some (G q.2.2 i)) ∧ (∀ f, isM f = true → gFR S f (G 16 0) = some (G f 0)) ∧
  (∀ q ∈ lenT, ∀ i, vld n q.1 i → Λ.2.2 (G q.1 i) = q.2) ∧
  ((∀ f, l16 f = true → Λ.2.2 (G f 0) = 16) ∧ (∀ f, l160 f = true → Λ.2.2 (G f 0) = 160) ∧ (∀ f, l480 f = true → Λ.2.2 (G f 0) = 480) ∧ (∀ f, l96 f = true → Λ.2.2 (G f 0) = 96) ∧ (∀ f, l170 f = true → Λ.2.2 (G f 0) = 170) ∧
    Λ.2.2 (G 372 0) = 192 ∧ Λ.2.2 (G 375 0) = 11200 ∧ Λ.2.2 (G 387 0) = 700 ∧ Λ.2.2 (G 389 0) = 6 ∧ Λ.2.2 (G 390 0) = 256) ∧
  (∀ r i r' i', vld n r i → vld n r' i' → G r i = G r' i' → r = r' ∧ i = i') ∧
  (∀ r i, vld n r i → G r i ∈ Λ.1)
section
variable {G : gG} {n : Nat} {Λ : sLay} {S : sSt}
theorem vld1 {r : Nat} (h : is1 r = true) : vld n r 0 := Or.inl ⟨h, rfl⟩
theorem vld2 {r i : Nat} (h : is2 r = true) (hi : i < n) : vld n r i := Or.inr (Or.inl ⟨h, hi⟩)
theorem vld3 {r i : Nat} (h : is3 r = true) (hi : i < 10 * n) : vld n r i := Or.inr (Or.inr (Or.inl ⟨h, hi⟩))
theorem vldM {r : Nat} (h : isM r = true) : vld n r 0 := Or.inr (Or.inr (Or.inr ⟨h, rfl⟩))
theorem Geo.m (h : Geo G n Λ S) {f : Nat} (hf : isM f = true) : gFR S f (G 16 0) = some (G f 0) := h.2.2.1 f hf
theorem Geo.k1 (h : Geo G n Λ S) {f r r' : Nat} (hm : (f, r, r') ∈ lnkT) (hr : is1 r = true) : gFR S f (G r 0) = some (G r' 0) := h.2.1 _ hm 0 (vld1 hr)
theorem Geo.k2 (h : Geo G n Λ S) {f r r' i : Nat} (hm : (f, r, r') ∈ lnkT) (hr : is2 r = true) (hi : i < n) : gFR S f (G r i) = some (G r' i) := h.2.1 _ hm i (vld2 hr hi)
theorem Geo.k3 (h : Geo G n Λ S) {f r r' i : Nat} (hm : (f, r, r') ∈ lnkT) (hr : is3 r = true) (hi : i < 10 * n) : gFR S f (G r i) = some (G r' i) := h.2.1 _ hm i (vld3 hr hi)
theorem Geo.n1 (h : Geo G n Λ S) {r k : Nat} (hm : (r, k) ∈ lenT) (hr : is1 r = true) : Λ.2.2 (G r 0) = k := h.2.2.2.1 _ hm 0 (vld1 hr)
theorem Geo.n2 (h : Geo G n Λ S) {r k i : Nat} (hm : (r, k) ∈ lenT) (hr : is2 r = true) (hi : i < n) : Λ.2.2 (G r i) = k := h.2.2.2.1 _ hm i (vld2 hr hi)
theorem Geo.n3 (h : Geo G n Λ S) {r k i : Nat} (hm : (r, k) ∈ lenT) (hr : is3 r = true) (hi : i < 10 * n) : Λ.2.2 (G r i) = k := h.2.2.2.1 _ hm i (vld3 hr hi)
theorem Geo.n16 (h : Geo G n Λ S) {f : Nat} (hf : l16 f = true) : Λ.2.2 (G f 0) = 16 := h.2.2.2.2.1.1 f hf
theorem Geo.n160 (h : Geo G n Λ S) {f : Nat} (hf : l160 f = true) : Λ.2.2 (G f 0) = 160 := h.2.2.2.2.1.2.1 f hf
theorem Geo.n480 (h : Geo G n Λ S) {f : Nat} (hf : l480 f = true) : Λ.2.2 (G f 0) = 480 := h.2.2.2.2.1.2.2.1 f hf
theorem Geo.n96 (h : Geo G n Λ S) {f : Nat} (hf : l96 f = true) : Λ.2.2 (G f 0) = 96 := h.2.2.2.2.1.2.2.2.1 f hf
theorem Geo.n170 (h : Geo G n Λ S) {f : Nat} (hf : l170 f = true) : Λ.2.2 (G f 0) = 170 := h.2.2.2.2.1.2.2.2.2.1 f hf
theorem Geo.n372 (h : Geo G n Λ S) : Λ.2.2 (G 372 0) = 192 := h.2.2.2.2.1.2.2.2.2.2.1
theorem Geo.n375 (h : Geo G n Λ S) : Λ.2.2 (G 375 0) = 11200 := h.2.2.2.2.1.2.2.2.2.2.2.1
theorem Geo.n387 (h : Geo G n Λ S) : Λ.2.2 (G 387 0) = 700 := h.2.2.2.2.1.2.2.2.2.2.2.2.1
theorem Geo.n389 (h : Geo G n Λ S) : Λ.2.2 (G 389 0) = 6 := h.2.2.2.2.1.2.2.2.2.2.2.2.2.1
theorem Geo.n390 (h : Geo G n Λ S) : Λ.2.2 (G 390 0) = 256 := h.2.2.2.2.1.2.2.2.2.2.2.2.2.2
theorem Geo.inj (h : Geo G n Λ S) {r i r' i' : Nat} (hv : vld n r i) (hv' : vld n r' i') : G r i = G r' i' ↔ r = r' ∧ i = i' := ⟨h.2.2.2.2.2.1 r i r' i' hv hv', fun e => by rw [e.1, e.2]⟩
/-- the same places, whatever else was written -/
theorem Geo.of {S' : sSt} (h : Geo G n Λ S) (e : S'.2.2.1 = S.2.2.1) : Geo G n Λ S' := by
  have e2 : ∀ f a, gFR S' f a = gFR S f a := fun f a => by unfold gFR; rw [e]
  refine ⟨h.1, fun q hq i hv => ?_, fun f hf => ?_, h.2.2.2.1, h.2.2.2.2⟩
  · rw [e2]; exact h.2.1 q hq i hv
  · rw [e2]; exact h.2.2.1 f hf
/-- what an array of the reference holds behind a write -/
theorem Geo.mI (h : Geo G n Λ S) {f f' k k' : Nat} {T : sSt} {v : Int32} (hf : isM f = true) (hf' : isM f' = true) : gAI (sAI T (G f 0) k v) (G f' 0) k' = if f' = f ∧ k' = k then v else gAI T (G f' 0) k' := by
  rw [gAI_sAI]
  have e := h.inj (vldM (n := n) hf') (vldM hf)
  by_cases c : f' = f ∧ k' = k
  · rw [if_pos c, if_pos ⟨e.mpr ⟨c.1, rfl⟩, c.2⟩]
  · rw [if_neg c, if_neg (fun z => c ⟨(e.mp z.1).1, z.2⟩)]
theorem Geo.mJ (h : Geo G n Λ S) {f f' k k' : Nat} {T : sSt} {v : Int64} (hf : isM f = true) (hf' : isM f' = true) : gAJ (sAJ T (G f 0) k v) (G f' 0) k' = if f' = f ∧ k' = k then v else gAJ T (G f' 0) k' := by
  rw [gAJ_sAJ]
  have e := h.inj (vldM (n := n) hf') (vldM hf)
  by_cases c : f' = f ∧ k' = k
  · rw [if_pos c, if_pos ⟨e.mpr ⟨c.1, rfl⟩, c.2⟩]
  · rw [if_neg c, if_neg (fun z => c ⟨(e.mp z.1).1, z.2⟩)]
end
/-- behind S' all is as in S but at the places that Q names: (field, role, number), arrays as field 1000 -/
def Foot (G : gG) (n : Nat) (Q : Nat → Nat → Nat → Prop) (S S' : sSt) : Prop :=
  S'.2.2.1 = S.2.2.1 ∧ (∀ f r i, vld n r i → ¬ Q f r i → gFI S' f (G r i) = gFI S f (G r i) ∧ gFJ S' f (G r i) = gFJ S f (G r i)) ∧
  (∀ r i, vld n r i → ¬ Q 1000 r i → ∀ k, gAI S' (G r i) k = gAI S (G r i) k ∧ gAJ S' (G r i) k = gAJ S (G r i) k ∧ gAR S' (G r i) k = gAR S (G r i) k)
section
variable {G : gG} {n : Nat} {Λ : sLay} {S S1 S2 : sSt} {Q Q' : Nat → Nat → Nat → Prop}
theorem Foot.rf : Foot G n Q S S := ⟨rfl, fun _ _ _ _ _ => ⟨rfl, rfl⟩, fun _ _ _ _ _ => ⟨rfl, rfl, rfl⟩⟩
theorem Foot.tr (h : Foot G n Q S S1) (g : Foot G n Q S1 S2) : Foot G n Q S S2 := ⟨g.1.trans h.1, fun f r i hv hq => ⟨(g.2.1 f r i hv hq).1.trans (h.2.1 f r i hv hq).1, (g.2.1 f r i hv hq).2.trans (h.2.1 f r i hv hq).2⟩,
  fun r i hv hq k => ⟨(g.2.2 r i hv hq k).1.trans (h.2.2 r i hv hq k).1, (g.2.2 r i hv hq k).2.1.trans (h.2.2 r i hv hq k).2.1, (g.2.2 r i hv hq k).2.2.trans (h.2.2 r i hv hq k).2.2⟩⟩
theorem Foot.mono (h : Foot G n Q S S1) (hq : ∀ f r i, Q f r i → Q' f r i) : Foot G n Q' S S1 := ⟨h.1, fun f r i hv hn => h.2.1 f r i hv (fun z => hn (hq _ _ _ z)), fun r i hv hn => h.2.2 r i hv (fun z => hn (hq _ _ _ z))⟩
theorem Foot.geo (h : Foot G n Q S S1) (g : Geo G n Λ S) : Geo G n Λ S1 := g.of h.1
theorem Foot.sFI (hg : Geo G n Λ S) {T : sSt} {f r i : Nat} {v : Int32} (hv : vld n r i) (hq : Q f r i) : Foot G n Q T (sFI T f (G r i) v) := by
  refine ⟨rfl, fun f' r' i' hv' hn => ⟨?_, rfl⟩, fun _ _ _ _ _ => ⟨rfl, rfl, rfl⟩⟩
  rw [gFI_sFI, if_neg]
  rintro ⟨rfl, z⟩
  obtain ⟨rfl, rfl⟩ := (hg.inj hv' hv).mp z
  exact hn hq
theorem Foot.sFJ (hg : Geo G n Λ S) {T : sSt} {f r i : Nat} {v : Int64} (hv : vld n r i) (hq : Q f r i) : Foot G n Q T (sFJ T f (G r i) v) := by
  refine ⟨rfl, fun f' r' i' hv' hn => ⟨rfl, ?_⟩, fun _ _ _ _ _ => ⟨rfl, rfl, rfl⟩⟩
  rw [gFJ_sFJ, if_neg]
  rintro ⟨rfl, z⟩
  obtain ⟨rfl, rfl⟩ := (hg.inj hv' hv).mp z
  exact hn hq
theorem Foot.sAI (hg : Geo G n Λ S) {T : sSt} {r i k : Nat} {v : Int32} (hv : vld n r i) (hq : Q 1000 r i) : Foot G n Q T (sAI T (G r i) k v) := by
  refine ⟨rfl, fun _ _ _ _ _ => ⟨rfl, rfl⟩, fun r' i' hv' hn k' => ⟨?_, rfl, rfl⟩⟩
  rw [gAI_sAI, if_neg]
  rintro ⟨z, -⟩
  obtain ⟨rfl, rfl⟩ := (hg.inj hv' hv).mp z
  exact hn hq
theorem Foot.sAJ (hg : Geo G n Λ S) {T : sSt} {r i k : Nat} {v : Int64} (hv : vld n r i) (hq : Q 1000 r i) : Foot G n Q T (sAJ T (G r i) k v) := by
  refine ⟨rfl, fun _ _ _ _ _ => ⟨rfl, rfl⟩, fun r' i' hv' hn k' => ⟨rfl, ?_, rfl⟩⟩
  rw [gAJ_sAJ, if_neg]
  rintro ⟨z, -⟩
  obtain ⟨rfl, rfl⟩ := (hg.inj hv' hv).mp z
  exact hn hq
theorem Foot.sAR (hg : Geo G n Λ S) {T : sSt} {r i k : Nat} {v : Option Nat} (hv : vld n r i) (hq : Q 1000 r i) : Foot G n Q T (sAR T (G r i) k v) := by
  refine ⟨rfl, fun _ _ _ _ _ => ⟨rfl, rfl⟩, fun r' i' hv' hn k' => ⟨rfl, rfl, ?_⟩⟩
  rw [gAR_sAR, if_neg]
  rintro ⟨z, -⟩
  obtain ⟨rfl, rfl⟩ := (hg.inj hv' hv).mp z
  exact hn hq
end
