theorem at0 {N : Nat → Nat} {S : sSt} {us : Nat} (h : gFI S 281 us = 0) (i : Int32) : F_X7_at N S us i = some none := by
  unfold F_X7_at
  by_cases c : i < 0
  · rw [if_pos c]
  · rw [if_neg c, h, if_pos (Int32.not_lt.mp c)]
theorem iu0 {N : Nat → Nat} {S : sSt} {m : Nat} (h : gFI S 361 m = 0) (u : Int32) : F_X9_isUnit N S m u = some 0 := by
  unfold F_X9_isUnit F_X9_in
  rw [h]
  by_cases c : u < 0
  · rw [if_pos c]; rfl
  · have c2 : (0 - 1 : Int32) < u := by
      rw [Int32.lt_iff_toInt_lt] at c ⊢
      have e1 : (0 - 1 : Int32).toInt = -1 := rfl
      have e2 : (0 : Int32).toInt = 0 := rfl
      omega
    rw [if_neg c, if_pos c2]; rfl
theorem s0_1 {x m o us al cs rg re io : Nat} {Λ : sLay} {S : sSt} (hC : FreshC x us al cs rg re io Λ S) (hM : FreshM m Λ S) (ho : Λ.2.2 o = 1) : St_1 Λ S x m o (fun _ _ => True) := by
  obtain ⟨h320, h321, h323, h324, hus, h280, hal, h281, hn, hal1, h80, hre, h82⟩ := hC
  obtain ⟨hm, h361, h378, harr⟩ := hM
  have a0 : ∀ (i : Int32), F_X7_at Λ.2.2 S us i = some none := at0 h281
  have iu : ∀ (u : Int32), F_X9_isUnit Λ.2.2 (sFI S 360 m 0) m u = some 0 := iu0 (by rw [gFI_sFI, if_neg (fun z => absurd z.1 (by decide))]; exact h361)
  unfold St_1
  intro a1 a2 a3 a4 a5 z0
  refine ⟨-1, S, sFI S 360 m 0, ?_, ?_, trivial⟩
  · simp [F_X8_give, F_X8_constantOf, F_X8_isBelow, bnd, onl, h320, h321, a0]
  · simp [F_X9_give, bnd, iu]
theorem s0_2 {x m o us al cs rg re io : Nat} {Λ : sLay} {S : sSt} (hC : FreshC x us al cs rg re io Λ S) (hM : FreshM m Λ S) (ho : Λ.2.2 o = 1) : St_2 Λ S x m o (fun _ _ => True) := by
  obtain ⟨h320, h321, h323, h324, hus, h280, hal, h281, hn, hal1, h80, hre, h82⟩ := hC
  obtain ⟨hm, h361, h378, harr⟩ := hM
  have a0 : ∀ (i : Int32), F_X7_at Λ.2.2 S us i = some none := at0 h281
  have iu : ∀ (u : Int32), F_X9_isUnit Λ.2.2 (sFI S 360 m 0) m u = some 0 := iu0 (by rw [gFI_sFI, if_neg (fun z => absurd z.1 (by decide))]; exact h361)
  unfold St_2
  intro a1 a2 a3
  refine ⟨-1, S, sFI S 360 m 0, ?_, ?_, trivial⟩
  · simp [F_X8_take, F_X8_constantOf, F_X8_isBelow, bnd, onl, h320, h321, a0]
  · simp [F_X9_take, bnd, iu]
theorem s0_3 {x m o us al cs rg re io : Nat} {Λ : sLay} {S : sSt} (hC : FreshC x us al cs rg re io Λ S) (hM : FreshM m Λ S) (ho : Λ.2.2 o = 1) : St_3 Λ S x m o (fun _ _ => True) := by
  obtain ⟨h320, h321, h323, h324, hus, h280, hal, h281, hn, hal1, h80, hre, h82⟩ := hC
  obtain ⟨hm, h361, h378, harr⟩ := hM
  have a0 : ∀ (i : Int32), F_X7_at Λ.2.2 S us i = some none := at0 h281
  have iu : ∀ (u : Int32), F_X9_isUnit Λ.2.2 (sFI S 360 m 0) m u = some 0 := iu0 (by rw [gFI_sFI, if_neg (fun z => absurd z.1 (by decide))]; exact h361)
  unfold St_3
  intro a1 a2 a3
  refine ⟨-1, S, sFI S 360 m 0, ?_, ?_, trivial⟩
  · simp [F_X8_build, F_X8_constantOf, F_X8_isBelow, bnd, onl, h320, h321, a0]
  · simp [F_X9_build, bnd, iu]
theorem s0_4 {x m o us al cs rg re io : Nat} {Λ : sLay} {S : sSt} (hC : FreshC x us al cs rg re io Λ S) (hM : FreshM m Λ S) (ho : Λ.2.2 o = 1) : St_4 Λ S x m o (fun _ _ => True) := by
  obtain ⟨h320, h321, h323, h324, hus, h280, hal, h281, hn, hal1, h80, hre, h82⟩ := hC
  obtain ⟨hm, h361, h378, harr⟩ := hM
  have a0 : ∀ (i : Int32), F_X7_at Λ.2.2 S us i = some none := at0 h281
  have iu : ∀ (u : Int32), F_X9_isUnit Λ.2.2 (sFI S 360 m 0) m u = some 0 := iu0 (by rw [gFI_sFI, if_neg (fun z => absurd z.1 (by decide))]; exact h361)
  unfold St_4
  intro a1 a2
  refine ⟨-1, S, sFI S 360 m 0, ?_, ?_, trivial⟩
  · simp [F_X8_way, F_X8_constantOf, F_X8_isBelow, bnd, onl, h320, h321, a0]
  · simp [F_X9_way, bnd, iu]
theorem s0_5 {x m o us al cs rg re io : Nat} {Λ : sLay} {S : sSt} (hC : FreshC x us al cs rg re io Λ S) (hM : FreshM m Λ S) (ho : Λ.2.2 o = 1) : St_5 Λ S x m o (fun _ _ => True) := by
  obtain ⟨h320, h321, h323, h324, hus, h280, hal, h281, hn, hal1, h80, hre, h82⟩ := hC
  obtain ⟨hm, h361, h378, harr⟩ := hM
  have a0 : ∀ (i : Int32), F_X7_at Λ.2.2 S us i = some none := at0 h281
  have iu : ∀ (u : Int32), F_X9_isUnit Λ.2.2 (sFI S 360 m 0) m u = some 0 := iu0 (by rw [gFI_sFI, if_neg (fun z => absurd z.1 (by decide))]; exact h361)
  unfold St_5
  intro a1
  refine ⟨-1, S, sFI S 360 m 0, ?_, ?_, trivial⟩
  · simp [F_X8_unway, F_X8_constantOf, F_X8_isBelow, bnd, onl, h320, h321, a0]
  · simp [F_X9_unway, bnd, iu]
theorem s0_6 {x m o us al cs rg re io : Nat} {Λ : sLay} {S : sSt} (hC : FreshC x us al cs rg re io Λ S) (hM : FreshM m Λ S) (ho : Λ.2.2 o = 1) : St_6 Λ S x m o (fun _ _ => True) := by
  obtain ⟨h320, h321, h323, h324, hus, h280, hal, h281, hn, hal1, h80, hre, h82⟩ := hC
  obtain ⟨hm, h361, h378, harr⟩ := hM
  have a0 : ∀ (i : Int32), F_X7_at Λ.2.2 S us i = some none := at0 h281
  have iu : ∀ (u : Int32), F_X9_isUnit Λ.2.2 (sFI S 360 m 0) m u = some 0 := iu0 (by rw [gFI_sFI, if_neg (fun z => absurd z.1 (by decide))]; exact h361)
  unfold St_6
  intro a1 a2 a3
  refine ⟨-1, S, sFI S 360 m 0, ?_, ?_, trivial⟩
  · simp [F_X8_use, F_X8_constantOf, F_X8_isBelow, bnd, onl, h320, h321, a0]
  · simp [F_X9_use, bnd, iu]
theorem s0_7 {x m o us al cs rg re io : Nat} {Λ : sLay} {S : sSt} (hC : FreshC x us al cs rg re io Λ S) (hM : FreshM m Λ S) (ho : Λ.2.2 o = 1) : St_7 Λ S x m o (fun _ _ => True) := by
  obtain ⟨h320, h321, h323, h324, hus, h280, hal, h281, hn, hal1, h80, hre, h82⟩ := hC
  obtain ⟨hm, h361, h378, harr⟩ := hM
  have a0 : ∀ (i : Int32), F_X7_at Λ.2.2 S us i = some none := at0 h281
  have iu : ∀ (u : Int32), F_X9_isUnit Λ.2.2 (sFI S 360 m 0) m u = some 0 := iu0 (by rw [gFI_sFI, if_neg (fun z => absurd z.1 (by decide))]; exact h361)
  unfold St_7
  intro a1 a2
  refine ⟨-1, S, sFI S 360 m 0, ?_, ?_, trivial⟩
  · simp [F_X8_unuse, F_X8_constantOf, F_X8_isBelow, bnd, onl, h320, h321, a0]
  · simp [F_X9_unuse, bnd, iu]
theorem s0_8 {x m o us al cs rg re io : Nat} {Λ : sLay} {S : sSt} (hC : FreshC x us al cs rg re io Λ S) (hM : FreshM m Λ S) (ho : Λ.2.2 o = 1) : St_8 Λ S x m o (fun _ _ => True) := by
  obtain ⟨h320, h321, h323, h324, hus, h280, hal, h281, hn, hal1, h80, hre, h82⟩ := hC
  obtain ⟨hm, h361, h378, harr⟩ := hM
  have a0 : ∀ (i : Int32), F_X7_at Λ.2.2 S us i = some none := at0 h281
  have iu : ∀ (u : Int32), F_X9_isUnit Λ.2.2 (sFI S 360 m 0) m u = some 0 := iu0 (by rw [gFI_sFI, if_neg (fun z => absurd z.1 (by decide))]; exact h361)
  unfold St_8
  intro a1 a2 z0
  refine ⟨-1, S, sFI S 360 m 0, ?_, ?_, trivial⟩
  · simp [F_X8_reader, F_X8_constantOf, F_X8_isBelow, bnd, onl, h320, h321, a0]
  · simp [F_X9_reader, bnd, iu]
theorem s0_9 {x m o us al cs rg re io : Nat} {Λ : sLay} {S : sSt} (hC : FreshC x us al cs rg re io Λ S) (hM : FreshM m Λ S) (ho : Λ.2.2 o = 1) : St_9 Λ S x m o (fun _ _ => True) := by
  obtain ⟨h320, h321, h323, h324, hus, h280, hal, h281, hn, hal1, h80, hre, h82⟩ := hC
  obtain ⟨hm, h361, h378, harr⟩ := hM
  have a0 : ∀ (i : Int32), F_X7_at Λ.2.2 S us i = some none := at0 h281
  have iu : ∀ (u : Int32), F_X9_isUnit Λ.2.2 (sFI S 360 m 0) m u = some 0 := iu0 (by rw [gFI_sFI, if_neg (fun z => absurd z.1 (by decide))]; exact h361)
  unfold St_9
  intro a1 a2
  refine ⟨-1, S, sFI S 360 m 0, ?_, ?_, trivial⟩
  · simp [F_X8_generated, F_X8_constantOf, F_X8_isBelow, bnd, onl, h320, h321, a0]
  · simp [F_X9_generated, bnd, iu]
theorem s0_10 {x m o us al cs rg re io : Nat} {Λ : sLay} {S : sSt} (hC : FreshC x us al cs rg re io Λ S) (hM : FreshM m Λ S) (ho : Λ.2.2 o = 1) : St_10 Λ S x m o (fun _ _ => True) := by
  obtain ⟨h320, h321, h323, h324, hus, h280, hal, h281, hn, hal1, h80, hre, h82⟩ := hC
  obtain ⟨hm, h361, h378, harr⟩ := hM
  have a0 : ∀ (i : Int32), F_X7_at Λ.2.2 S us i = some none := at0 h281
  have iu : ∀ (u : Int32), F_X9_isUnit Λ.2.2 (sFI S 360 m 0) m u = some 0 := iu0 (by rw [gFI_sFI, if_neg (fun z => absurd z.1 (by decide))]; exact h361)
  unfold St_10
  intro a1
  refine ⟨-1, S, sFI S 360 m 0, ?_, ?_, trivial⟩
  · simp [F_X8_remove, F_X8_constantOf, F_X8_isBelow, bnd, onl, h320, h321, a0]
  · simp [F_X9_remove, bnd, iu]
theorem s0_11 {x m o us al cs rg re io : Nat} {Λ : sLay} {S : sSt} (hC : FreshC x us al cs rg re io Λ S) (hM : FreshM m Λ S) (ho : Λ.2.2 o = 1) : St_11 Λ S x m o (fun _ _ => True) := by
  obtain ⟨h320, h321, h323, h324, hus, h280, hal, h281, hn, hal1, h80, hre, h82⟩ := hC
  obtain ⟨hm, h361, h378, harr⟩ := hM
  have a0 : ∀ (i : Int32), F_X7_at Λ.2.2 S us i = some none := at0 h281
  have iu : ∀ (u : Int32), F_X9_isUnit Λ.2.2 (sFI S 360 m 0) m u = some 0 := iu0 (by rw [gFI_sFI, if_neg (fun z => absurd z.1 (by decide))]; exact h361)
  unfold St_11
  intro a1 a2 a3
  refine ⟨-1, sFI S 360 m 0, ?_, ?_, trivial⟩
  · simp [F_X8_found, F_X8_constantOf, F_X8_isBelow, bnd, onl, h320, h321, a0]
  · simp [F_X9_found, bnd, iu]
theorem s0_12 {x m o us al cs rg re io : Nat} {Λ : sLay} {S : sSt} (hC : FreshC x us al cs rg re io Λ S) (hM : FreshM m Λ S) (ho : Λ.2.2 o = 1) : St_12 Λ S x m o (fun _ _ => True) := by
  obtain ⟨h320, h321, h323, h324, hus, h280, hal, h281, hn, hal1, h80, hre, h82⟩ := hC
  obtain ⟨hm, h361, h378, harr⟩ := hM
  have a0 : ∀ (i : Int32), F_X7_at Λ.2.2 S us i = some none := at0 h281
  have iu : ∀ (u : Int32), F_X9_isUnit Λ.2.2 (sFI S 360 m 0) m u = some 0 := iu0 (by rw [gFI_sFI, if_neg (fun z => absurd z.1 (by decide))]; exact h361)
  unfold St_12
  intro a1 a2
  refine ⟨0, S, sFI S 360 m 0, ?_, ?_, trivial⟩
  · simp [F_X8_value, F_X8_constantOf, F_X8_isBelow, B_X8_constantOf_22, bnd, onl, h320, h321, a0]
  · simp [F_X9_value, bnd, iu]
theorem s0_13 {x m o us al cs rg re io : Nat} {Λ : sLay} {S : sSt} (hC : FreshC x us al cs rg re io Λ S) (hM : FreshM m Λ S) (ho : Λ.2.2 o = 1) : St_13 Λ S x m o (fun _ _ => True) := by
  obtain ⟨h320, h321, h323, h324, hus, h280, hal, h281, hn, hal1, h80, hre, h82⟩ := hC
  obtain ⟨hm, h361, h378, harr⟩ := hM
  have a0 : ∀ (i : Int32), F_X7_at Λ.2.2 S us i = some none := at0 h281
  have iu : ∀ (u : Int32), F_X9_isUnit Λ.2.2 (sFI S 360 m 0) m u = some 0 := iu0 (by rw [gFI_sFI, if_neg (fun z => absurd z.1 (by decide))]; exact h361)
  unfold St_13
  intro a1 a2
  refine ⟨-1, S, sFI S 360 m 0, ?_, ?_, trivial⟩
  · simp [F_X8_round, F_X8_constantOf, F_X8_isBelow, B_X8_constantOf_22, bnd, onl, h320, h321, a0]
  · simp [F_X9_round, bnd, iu]
theorem s0_14 {x m o us al cs rg re io : Nat} {Λ : sLay} {S : sSt} (hC : FreshC x us al cs rg re io Λ S) (hM : FreshM m Λ S) (ho : Λ.2.2 o = 1) : St_14 Λ S x m o (fun _ _ => True) := by
  obtain ⟨h320, h321, h323, h324, hus, h280, hal, h281, hn, hal1, h80, hre, h82⟩ := hC
  obtain ⟨hm, h361, h378, harr⟩ := hM
  have a0 : ∀ (i : Int32), F_X7_at Λ.2.2 S us i = some none := at0 h281
  have iu : ∀ (u : Int32), F_X9_isUnit Λ.2.2 (sFI S 360 m 0) m u = some 0 := iu0 (by rw [gFI_sFI, if_neg (fun z => absurd z.1 (by decide))]; exact h361)
  unfold St_14
  intro a1 a2 a3 a4
  refine ⟨-1, S, sFI S 360 m 0, ?_, ?_, trivial⟩
  · simp [F_X8_chain, F_X8_constantOf, F_X8_isBelow, B_X8_constantOf_22, bnd, onl, h320, h321, a0]
  · simp [F_X9_chain, bnd, iu]
theorem s0_15 {x m o us al cs rg re io : Nat} {Λ : sLay} {S : sSt} (hC : FreshC x us al cs rg re io Λ S) (hM : FreshM m Λ S) (ho : Λ.2.2 o = 1) : St_15 Λ S x m o (fun _ _ => True) := by
  obtain ⟨h320, h321, h323, h324, hus, h280, hal, h281, hn, hal1, h80, hre, h82⟩ := hC
  obtain ⟨hm, h361, h378, harr⟩ := hM
  have a0 : ∀ (i : Int32), F_X7_at Λ.2.2 S us i = some none := at0 h281
  have iu : ∀ (u : Int32), F_X9_isUnit Λ.2.2 (sFI S 360 m 0) m u = some 0 := iu0 (by rw [gFI_sFI, if_neg (fun z => absurd z.1 (by decide))]; exact h361)
  unfold St_15
  intro a1
  refine ⟨-1, S, sFI S 360 m 0, ?_, ?_, trivial⟩
  · simp [F_X8_missing, F_X8_constantOf, F_X8_isBelow, bnd, onl, h320, h321, a0]
  · simp [F_X9_missing, bnd, iu]
theorem s0_16 {x m o us al cs rg re io : Nat} {Λ : sLay} {S : sSt} (hC : FreshC x us al cs rg re io Λ S) (hM : FreshM m Λ S) (ho : Λ.2.2 o = 1) : St_16 Λ S x m o (fun _ _ => True) := by
  obtain ⟨h320, h321, h323, h324, hus, h280, hal, h281, hn, hal1, h80, hre, h82⟩ := hC
  obtain ⟨hm, h361, h378, harr⟩ := hM
  have a0 : ∀ (i : Int32), F_X7_at Λ.2.2 S us i = some none := at0 h281
  have iu : ∀ (u : Int32), F_X9_isUnit Λ.2.2 (sFI S 360 m 0) m u = some 0 := iu0 (by rw [gFI_sFI, if_neg (fun z => absurd z.1 (by decide))]; exact h361)
  unfold St_16
  intro a1
  refine ⟨-1, S, sFI S 360 m 0, ?_, ?_, trivial⟩
  · simp [F_X8_size, F_X8_constantOf, F_X8_isBelow, bnd, onl, h320, h321, a0]
  · simp [F_X9_size, bnd, iu]
theorem s0_19 {x m o us al cs rg re io : Nat} {Λ : sLay} {S : sSt} (hC : FreshC x us al cs rg re io Λ S) (hM : FreshM m Λ S) (ho : Λ.2.2 o = 1) : St_19 Λ S x m o (fun _ _ => True) := by
  obtain ⟨h320, h321, h323, h324, hus, h280, hal, h281, hn, hal1, h80, hre, h82⟩ := hC
  obtain ⟨hm, h361, h378, harr⟩ := hM
  have a0 : ∀ (i : Int32), F_X7_at Λ.2.2 S us i = some none := at0 h281
  have iu : ∀ (u : Int32), F_X9_isUnit Λ.2.2 (sFI S 360 m 0) m u = some 0 := iu0 (by rw [gFI_sFI, if_neg (fun z => absurd z.1 (by decide))]; exact h361)
  unfold St_19
  intro a1
  refine ⟨-1, S, sFI S 360 m 0, ?_, ?_, trivial⟩
  · simp [F_X8_why, F_X8_constantOf, F_X8_isBelow, bnd, onl, h320, h321, a0]
  · simp [F_X9_why, bnd, iu]
theorem s0_22 {x m o us al cs rg re io : Nat} {Λ : sLay} {S : sSt} (hC : FreshC x us al cs rg re io Λ S) (hM : FreshM m Λ S) (ho : Λ.2.2 o = 1) : St_22 Λ S x m o (fun _ _ => True) := by
  obtain ⟨h320, h321, h323, h324, hus, h280, hal, h281, hn, hal1, h80, hre, h82⟩ := hC
  obtain ⟨hm, h361, h378, harr⟩ := hM
  have a0 : ∀ (i : Int32), F_X7_at Λ.2.2 S us i = some none := at0 h281
  have iu : ∀ (u : Int32), F_X9_isUnit Λ.2.2 (sFI S 360 m 0) m u = some 0 := iu0 (by rw [gFI_sFI, if_neg (fun z => absurd z.1 (by decide))]; exact h361)
  unfold St_22
  intro a1
  refine ⟨-1, S, sFI S 360 m 0, ?_, ?_, trivial⟩
  · simp [F_X8_force, F_X8_constantOf, F_X8_isBelow, bnd, onl, h320, h321, a0]
  · simp [F_X9_force, bnd, iu]
theorem s0_23 {x m o us al cs rg re io : Nat} {Λ : sLay} {S : sSt} (hC : FreshC x us al cs rg re io Λ S) (hM : FreshM m Λ S) (ho : Λ.2.2 o = 1) : St_23 Λ S x m o (fun _ _ => True) := by
  obtain ⟨h320, h321, h323, h324, hus, h280, hal, h281, hn, hal1, h80, hre, h82⟩ := hC
  obtain ⟨hm, h361, h378, harr⟩ := hM
  have a0 : ∀ (i : Int32), F_X7_at Λ.2.2 S us i = some none := at0 h281
  have iu : ∀ (u : Int32), F_X9_isUnit Λ.2.2 (sFI S 360 m 0) m u = some 0 := iu0 (by rw [gFI_sFI, if_neg (fun z => absurd z.1 (by decide))]; exact h361)
  unfold St_23
  intro a1
  refine ⟨0, sFI S 360 m 0, ?_, ?_, trivial⟩
  · simp [F_X8_output, F_X8_constantOf, F_X8_isBelow, B_X8_output_20, bnd, onl, h320, h321, a0]
  · simp [F_X9_output, bnd, iu]
theorem s0_27 {x m o us al cs rg re io : Nat} {Λ : sLay} {S : sSt} (hC : FreshC x us al cs rg re io Λ S) (hM : FreshM m Λ S) (ho : Λ.2.2 o = 1) : St_27 Λ S x m o (fun _ _ => True) := by
  obtain ⟨h320, h321, h323, h324, hus, h280, hal, h281, hn, hal1, h80, hre, h82⟩ := hC
  obtain ⟨hm, h361, h378, harr⟩ := hM
  have a0 : ∀ (i : Int32), F_X7_at Λ.2.2 S us i = some none := at0 h281
  have iu : ∀ (u : Int32), F_X9_isUnit Λ.2.2 (sFI S 360 m 0) m u = some 0 := iu0 (by rw [gFI_sFI, if_neg (fun z => absurd z.1 (by decide))]; exact h361)
  unfold St_27
  intro a1
  refine ⟨-1, S, sFI S 360 m 0, ?_, ?_, trivial⟩
  · simp [F_X8_ring, F_X8_constantOf, F_X8_isBelow, bnd, onl, h320, h321, a0]
  · simp [F_X9_ring, bnd, iu]
theorem s0_28 {x m o us al cs rg re io : Nat} {Λ : sLay} {S : sSt} (hC : FreshC x us al cs rg re io Λ S) (hM : FreshM m Λ S) (ho : Λ.2.2 o = 1) : St_28 Λ S x m o (fun _ _ => True) := by
  obtain ⟨h320, h321, h323, h324, hus, h280, hal, h281, hn, hal1, h80, hre, h82⟩ := hC
  obtain ⟨hm, h361, h378, harr⟩ := hM
  have a0 : ∀ (i : Int32), F_X7_at Λ.2.2 S us i = some none := at0 h281
  have iu : ∀ (u : Int32), F_X9_isUnit Λ.2.2 (sFI S 360 m 0) m u = some 0 := iu0 (by rw [gFI_sFI, if_neg (fun z => absurd z.1 (by decide))]; exact h361)
  unfold St_28
  intro a1 a2
  refine ⟨-1, S, sFI S 360 m 0, ?_, ?_, trivial⟩
  · simp [F_X8_leads, F_X8_constantOf, F_X8_isBelow, bnd, onl, h320, h321, a0]
  · simp [F_X9_leads, bnd, iu]
