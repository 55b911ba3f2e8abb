theorem st_1 {x m o us tt c : Nat} {R : List Nat} {G : Nat → Nat} {Λ : sLay} {S : sSt} {Qn : sLay → sSt → Prop} (h : PD x m o R G us tt c c Λ S) (hQ : ∀ S2, PD x m o R G us tt c c Λ S2 → Qn Λ S2) : St_1 Λ S x m o Qn := by
  unfold St_1
  intro a1 a2 a3 a4 a5 hba5
  obtain ⟨⟨r, S1⟩, e1, g1⟩ := tF_X8_give S h.sh rfl rfl rfl rfl rfl x h.kx a1 a2 a3 a4 a5 hba5
  have h1 := h.cl g1
  obtain ⟨⟨r2, S2⟩, e2, g2⟩ := tF_X9_give (Y := (S1, S1, S1)) S1 h1.mb a1 a2 a3 a4 a5
  exact ⟨r, S1, r2, S2, e1, e2, hQ S2 (h1.ref g2.1 (g2.2.trans h1.e2))⟩
theorem st_2 {x m o us tt c : Nat} {R : List Nat} {G : Nat → Nat} {Λ : sLay} {S : sSt} {Qn : sLay → sSt → Prop} (h : PD x m o R G us tt c c Λ S) (hQ : ∀ S2, PD x m o R G us tt c c Λ S2 → Qn Λ S2) : St_2 Λ S x m o Qn := by
  unfold St_2
  intro a1 a2 a3
  obtain ⟨⟨r, S1⟩, e1, g1⟩ := tF_X8_take S h.sh rfl x h.kx a1 a2 a3
  have h1 := h.cl g1
  obtain ⟨⟨r2, S2⟩, e2, g2⟩ := tF_X9_take (Y := (S1, S1, S1)) S1 h1.mb a1 a2 a3
  exact ⟨r, S1, r2, S2, e1, e2, hQ S2 (h1.ref g2.1 (g2.2.trans h1.e2))⟩
theorem st_3 {x m o us tt c : Nat} {R : List Nat} {G : Nat → Nat} {Λ : sLay} {S : sSt} {Qn : sLay → sSt → Prop} (h : PD x m o R G us tt c c Λ S) (hQ : ∀ S2, PD x m o R G us tt c c Λ S2 → Qn Λ S2) : St_3 Λ S x m o Qn := by
  unfold St_3
  intro a1 a2 a3
  obtain ⟨⟨r, S1⟩, e1, g1⟩ := tF_X8_build S h.sh rfl x h.kx a1 a2 a3
  have h1 := h.cl g1
  obtain ⟨⟨r2, S2⟩, e2, g2⟩ := tF_X9_build (Y := (S1, S1, S1)) S1 h1.mb a1 a2 a3
  exact ⟨r, S1, r2, S2, e1, e2, hQ S2 (h1.ref g2.1 (g2.2.trans h1.e2))⟩
theorem st_4 {x m o us tt c : Nat} {R : List Nat} {G : Nat → Nat} {Λ : sLay} {S : sSt} {Qn : sLay → sSt → Prop} (h : PD x m o R G us tt c c Λ S) (hQ : ∀ S2, PD x m o R G us tt c c Λ S2 → Qn Λ S2) : St_4 Λ S x m o Qn := by
  unfold St_4
  intro a1 a2
  obtain ⟨⟨r, S1⟩, e1, g1⟩ := tF_X8_way S h.sh rfl x h.kx a1 a2
  have h1 := h.cl g1
  obtain ⟨⟨r2, S2⟩, e2, g2⟩ := tF_X9_way (Y := (S1, S1, S1)) S1 h1.mb a1 a2
  exact ⟨r, S1, r2, S2, e1, e2, hQ S2 (h1.ref g2.1 (g2.2.trans h1.e2))⟩
theorem st_5 {x m o us tt c : Nat} {R : List Nat} {G : Nat → Nat} {Λ : sLay} {S : sSt} {Qn : sLay → sSt → Prop} (h : PD x m o R G us tt c c Λ S) (hQ : ∀ S2, PD x m o R G us tt c c Λ S2 → Qn Λ S2) : St_5 Λ S x m o Qn := by
  unfold St_5
  intro a1
  obtain ⟨⟨r, S1⟩, e1, g1⟩ := tF_X8_unway S h.sh rfl x h.kx a1
  have h1 := h.cl g1
  obtain ⟨⟨r2, S2⟩, e2, g2⟩ := tF_X9_unway (Y := (S1, S1, S1)) S1 h1.mb a1
  exact ⟨r, S1, r2, S2, e1, e2, hQ S2 (h1.ref g2.1 (g2.2.trans h1.e2))⟩
theorem st_6 {x m o us tt c : Nat} {R : List Nat} {G : Nat → Nat} {Λ : sLay} {S : sSt} {Qn : sLay → sSt → Prop} (h : PD x m o R G us tt c c Λ S) (hQ : ∀ S2, PD x m o R G us tt c c Λ S2 → Qn Λ S2) : St_6 Λ S x m o Qn := by
  unfold St_6
  intro a1 a2 a3
  obtain ⟨⟨r, S1⟩, e1, g1⟩ := tF_X8_use S h.sh rfl x h.kx a1 a2 a3
  have h1 := h.cl g1
  obtain ⟨⟨r2, S2⟩, e2, g2⟩ := tF_X9_use (Y := (S1, S1, S1)) S1 h1.mb a1 a2 a3
  exact ⟨r, S1, r2, S2, e1, e2, hQ S2 (h1.ref g2.1 (g2.2.trans h1.e2))⟩
theorem st_7 {x m o us tt c : Nat} {R : List Nat} {G : Nat → Nat} {Λ : sLay} {S : sSt} {Qn : sLay → sSt → Prop} (h : PD x m o R G us tt c c Λ S) (hQ : ∀ S2, PD x m o R G us tt c c Λ S2 → Qn Λ S2) : St_7 Λ S x m o Qn := by
  unfold St_7
  intro a1 a2
  obtain ⟨⟨r, S1⟩, e1, g1⟩ := tF_X8_unuse S h.sh rfl x h.kx a1 a2
  have h1 := h.cl g1
  obtain ⟨⟨r2, S2⟩, e2, g2⟩ := tF_X9_unuse (Y := (S1, S1, S1)) S1 h1.mb a1 a2
  exact ⟨r, S1, r2, S2, e1, e2, hQ S2 (h1.ref g2.1 (g2.2.trans h1.e2))⟩
theorem st_8 {x m o us tt c : Nat} {R : List Nat} {G : Nat → Nat} {Λ : sLay} {S : sSt} {Qn : sLay → sSt → Prop} (h : PD x m o R G us tt c c Λ S) (hQ : ∀ S2, PD x m o R G us tt c c Λ S2 → Qn Λ S2) : St_8 Λ S x m o Qn := by
  unfold St_8
  intro a1 a2 hba2
  obtain ⟨⟨r, S1⟩, e1, g1⟩ := tF_X8_reader S h.sh rfl rfl x h.kx a1 a2 hba2
  have h1 := h.cl g1
  obtain ⟨⟨r2, S2⟩, e2, g2⟩ := tF_X9_reader (Y := (S1, S1, S1)) S1 h1.mb a1 a2
  exact ⟨r, S1, r2, S2, e1, e2, hQ S2 (h1.ref g2.1 (g2.2.trans h1.e2))⟩
theorem st_9 {x m o us tt c : Nat} {R : List Nat} {G : Nat → Nat} {Λ : sLay} {S : sSt} {Qn : sLay → sSt → Prop} (h : PD x m o R G us tt c c Λ S) (hQ : ∀ S2, PD x m o R G us tt c c Λ S2 → Qn Λ S2) : St_9 Λ S x m o Qn := by
  unfold St_9
  intro a1 a2
  obtain ⟨⟨r, S1⟩, e1, g1⟩ := tF_X8_generated S h.sh rfl x h.kx a1 a2
  have h1 := h.cl g1
  obtain ⟨⟨r2, S2⟩, e2, g2⟩ := tF_X9_generated (Y := (S1, S1, S1)) S1 h1.mb a1 a2
  exact ⟨r, S1, r2, S2, e1, e2, hQ S2 (h1.ref g2.1 (g2.2.trans h1.e2))⟩
theorem st_10 {x m o us tt c : Nat} {R : List Nat} {G : Nat → Nat} {Λ : sLay} {S : sSt} {Qn : sLay → sSt → Prop} (h : PD x m o R G us tt c c Λ S) (hQ : ∀ S2, PD x m o R G us tt c c Λ S2 → Qn Λ S2) : St_10 Λ S x m o Qn := by
  unfold St_10
  intro a1
  obtain ⟨⟨r, S1⟩, e1, g1⟩ := tF_X8_remove S h.sh rfl rfl rfl x h.kx a1
  have h1 := h.cl g1
  obtain ⟨⟨r2, S2⟩, e2, g2⟩ := tF_X9_remove (Y := (S1, S1, S1)) S1 h1.mb a1
  exact ⟨r, S1, r2, S2, e1, e2, hQ S2 (h1.ref g2.1 (g2.2.trans h1.e2))⟩
theorem st_11 {x m o us tt c : Nat} {R : List Nat} {G : Nat → Nat} {Λ : sLay} {S : sSt} {Qn : sLay → sSt → Prop} (h : PD x m o R G us tt c c Λ S) (hQ : ∀ S2, PD x m o R G us tt c c Λ S2 → Qn Λ S2) : St_11 Λ S x m o Qn := by
  unfold St_11
  intro a1 a2 a3
  obtain ⟨r, e1, -⟩ := tF_X8_found S h.sh x h.kx a1 a2 a3
  obtain ⟨⟨r2, S2⟩, e2, g2⟩ := tF_X9_found (Y := (S, S, S)) S h.mi a1 a2 a3
  exact ⟨r, r2, S2, e1, e2, hQ S2 (h.ref g2.1 (g2.2.1.1.trans h.e2))⟩
theorem st_12 {x m o us tt c : Nat} {R : List Nat} {G : Nat → Nat} {Λ : sLay} {S : sSt} {Qn : sLay → sSt → Prop} (h : PD x m o R G us tt c c Λ S) (hQ : ∀ S2, PD x m o R G us tt c c Λ S2 → Qn Λ S2) : St_12 Λ S x m o Qn := by
  unfold St_12
  intro a1 a2
  obtain ⟨⟨r, S1⟩, e1, g1⟩ := tF_X8_value S h.sh rfl rfl rfl rfl rfl rfl x h.kx a1 a2
  have h1 := h.cl g1
  obtain ⟨⟨r2, S2⟩, e2, g2⟩ := tF_X9_value (Y := (S1, S1, S1)) S1 h1.mi a1 a2
  exact ⟨r, S1, r2, S2, e1, e2, hQ S2 (h1.ref g2.1 (g2.2.1.1.trans h1.e2))⟩
theorem st_13 {x m o us tt c : Nat} {R : List Nat} {G : Nat → Nat} {Λ : sLay} {S : sSt} {Qn : sLay → sSt → Prop} (h : PD x m o R G us tt c c Λ S) (hQ : ∀ S2, PD x m o R G us tt c c Λ S2 → Qn Λ S2) : St_13 Λ S x m o Qn := by
  unfold St_13
  intro a1 a2
  obtain ⟨⟨r, S1⟩, e1, g1⟩ := tF_X8_round S h.sh rfl rfl rfl rfl rfl rfl x h.kx a1 a2
  have h1 := h.cl g1
  obtain ⟨⟨r2, S2⟩, e2, g2⟩ := tF_X9_round (Y := (S1, S1, S1)) S1 h1.mi a1 a2
  exact ⟨r, S1, r2, S2, e1, e2, hQ S2 (h1.ref g2.1 (g2.2.1.1.trans h1.e2))⟩
theorem st_14 {x m o us tt c : Nat} {R : List Nat} {G : Nat → Nat} {Λ : sLay} {S : sSt} {Qn : sLay → sSt → Prop} (h : PD x m o R G us tt c c Λ S) (hQ : ∀ S2, PD x m o R G us tt c c Λ S2 → Qn Λ S2) : St_14 Λ S x m o Qn := by
  unfold St_14
  intro a1 a2 a3 a4
  obtain ⟨⟨r, S1⟩, e1, g1⟩ := tF_X8_chain S h.sh rfl rfl rfl rfl rfl rfl rfl x h.kx a1 a2 a3 a4
  have h1 := h.cl g1
  obtain ⟨⟨r2, S2⟩, e2, g2⟩ := tF_X9_chain (Y := (S1, S1, S1)) S1 h1.mi a1 a2 a3 a4
  exact ⟨r, S1, r2, S2, e1, e2, hQ S2 (h1.ref g2.1 (g2.2.1.1.trans h1.e2))⟩
theorem st_15 {x m o us tt c : Nat} {R : List Nat} {G : Nat → Nat} {Λ : sLay} {S : sSt} {Qn : sLay → sSt → Prop} (h : PD x m o R G us tt c c Λ S) (hQ : ∀ S2, PD x m o R G us tt c c Λ S2 → Qn Λ S2) : St_15 Λ S x m o Qn := by
  unfold St_15
  intro a1
  obtain ⟨⟨r, S1⟩, e1, g1⟩ := tF_X8_missing S h.sh rfl x h.kx a1
  have h1 := h.cl g1
  obtain ⟨⟨r2, S2⟩, e2, g2⟩ := tF_X9_missing (Y := (S1, S1, S1)) S1 h1.mi a1
  exact ⟨r, S1, r2, S2, e1, e2, hQ S2 (h1.ref g2.1 (g2.2.1.1.trans h1.e2))⟩
theorem st_16 {x m o us tt c : Nat} {R : List Nat} {G : Nat → Nat} {Λ : sLay} {S : sSt} {Qn : sLay → sSt → Prop} (h : PD x m o R G us tt c c Λ S) (hQ : ∀ S2, PD x m o R G us tt c c Λ S2 → Qn Λ S2) : St_16 Λ S x m o Qn := by
  unfold St_16
  intro a1
  obtain ⟨⟨r, S1⟩, e1, g1⟩ := tF_X8_size S h.sh rfl rfl rfl rfl rfl rfl rfl rfl rfl rfl rfl rfl x h.kx a1
  have h1 := h.cl g1
  obtain ⟨⟨r2, S2⟩, e2, g2⟩ := tF_X9_size (Y := (S1, S1, S1)) S1 h1.mi a1
  exact ⟨r, S1, r2, S2, e1, e2, hQ S2 (h1.ref g2.1 (g2.2.1.1.trans h1.e2))⟩
theorem st_17 {x m o us tt c : Nat} {R : List Nat} {G : Nat → Nat} {Λ : sLay} {S : sSt} {Qn : sLay → sSt → Prop} (h : PD x m o R G us tt c c Λ S) (hQ : ∀ S2, PD x m o R G us tt c c Λ S2 → Qn Λ S2) : St_17 Λ S x m o Qn := by
  unfold St_17
  intro a1 a2
  obtain ⟨⟨r, S1⟩, e1, g1⟩ := tF_L_row S h.sh rfl rfl rfl rfl rfl rfl rfl rfl rfl rfl rfl rfl x h.kx a1 a2 o h.ko h.ol
  have h1 := h.cl g1
  obtain ⟨⟨r2, S2⟩, e2, g2⟩ := tF_X9_row (Y := (S1, S1, S1)) S1 h1.mi a1 a2
  exact ⟨r, S1, r2, S2, e1, e2, hQ S2 (h1.ref g2.1 (g2.2.1.1.trans h1.e2))⟩
theorem st_18 {x m o us tt c : Nat} {R : List Nat} {G : Nat → Nat} {Λ : sLay} {S : sSt} {Qn : sLay → sSt → Prop} (h : PD x m o R G us tt c c Λ S) (hQ : ∀ S2, PD x m o R G us tt c c Λ S2 → Qn Λ S2) : St_18 Λ S x m o Qn := by
  unfold St_18
  intro a1 a2
  obtain ⟨⟨r, S1⟩, e1, g1⟩ := tF_L_kept S h.sh x h.kx a1 a2 o h.ko h.ol
  have h1 := h.cl g1
  obtain ⟨⟨r2, S2⟩, e2, g2⟩ := tF_X9_kept (Y := (S1, S1, S1)) S1 h1.mi a1 a2
  exact ⟨r, S1, r2, S2, e1, e2, hQ S2 (h1.ref g2.1 (g2.2.1.1.trans h1.e2))⟩
theorem st_19 {x m o us tt c : Nat} {R : List Nat} {G : Nat → Nat} {Λ : sLay} {S : sSt} {Qn : sLay → sSt → Prop} (h : PD x m o R G us tt c c Λ S) (hQ : ∀ S2, PD x m o R G us tt c c Λ S2 → Qn Λ S2) : St_19 Λ S x m o Qn := by
  unfold St_19
  intro a1
  obtain ⟨⟨r, S1⟩, e1, g1⟩ := tF_X8_why S h.sh rfl rfl rfl rfl rfl rfl rfl rfl rfl rfl rfl rfl x h.kx a1
  have h1 := h.cl g1
  obtain ⟨⟨r2, S2⟩, e2, g2⟩ := tF_X9_why (Y := (S1, S1, S1)) S1 h1.mi a1
  exact ⟨r, S1, r2, S2, e1, e2, hQ S2 (h1.ref g2.1 (g2.2.1.1.trans h1.e2))⟩
theorem st_20 {x m o us tt c : Nat} {R : List Nat} {G : Nat → Nat} {Λ : sLay} {S : sSt} {Qn : sLay → sSt → Prop} (h : PD x m o R G us tt c c Λ S) (hQ : ∀ S2, PD x m o R G us tt c c Λ S2 → Qn Λ S2) : St_20 Λ S x m o Qn := by
  unfold St_20
  obtain ⟨⟨r, S1⟩, e1, g1⟩ := tF_X8_needs S h.sh rfl rfl rfl rfl rfl rfl rfl rfl rfl rfl rfl rfl x h.kx
  have h1 := h.cl g1
  obtain ⟨⟨r2, S2⟩, e2, g2⟩ := tF_X9_needs (Y := (S1, S1, S1)) S1 h1.mi
  exact ⟨r, S1, r2, S2, e1, e2, hQ S2 (h1.ref g2.1 (g2.2.1.1.trans h1.e2))⟩
theorem st_21 {x m o us tt c : Nat} {R : List Nat} {G : Nat → Nat} {Λ : sLay} {S : sSt} {Qn : sLay → sSt → Prop} (h : PD x m o R G us tt c c Λ S) (hQ : ∀ S2, PD x m o R G us tt c c Λ S2 → Qn Λ S2) : St_21 Λ S x m o Qn := by
  unfold St_21
  intro a1
  obtain ⟨⟨r, S1⟩, e1, g1⟩ := tF_X8_make S h.sh rfl rfl rfl rfl rfl rfl rfl rfl rfl rfl rfl rfl rfl rfl rfl rfl x h.kx a1
  have h1 := h.cl g1
  obtain ⟨⟨r2, S2⟩, e2, g2⟩ := tF_X9_make (Y := (S1, S1, S1)) S1 h1.mk a1
  exact ⟨r, S1, r2, S2, e1, e2, hQ S2 (h1.ref g2.1 (g2.2.1.trans h1.e2))⟩
theorem st_22 {x m o us tt c : Nat} {R : List Nat} {G : Nat → Nat} {Λ : sLay} {S : sSt} {Qn : sLay → sSt → Prop} (h : PD x m o R G us tt c c Λ S) (hQ : ∀ S2, PD x m o R G us tt c c Λ S2 → Qn Λ S2) : St_22 Λ S x m o Qn := by
  unfold St_22
  intro a1
  obtain ⟨⟨r, S1⟩, e1, g1⟩ := tF_X8_force S h.sh rfl rfl rfl rfl rfl rfl rfl rfl rfl rfl rfl rfl rfl rfl x h.kx a1
  have h1 := h.cl g1
  obtain ⟨⟨r2, S2⟩, e2, g2⟩ := tF_X9_force (Y := (S1, S1, S1)) S1 h1.mk a1
  exact ⟨r, S1, r2, S2, e1, e2, hQ S2 (h1.ref g2.1 (g2.2.1.trans h1.e2))⟩
theorem st_23 {x m o us tt c : Nat} {R : List Nat} {G : Nat → Nat} {Λ : sLay} {S : sSt} {Qn : sLay → sSt → Prop} (h : PD x m o R G us tt c c Λ S) (hQ : ∀ S2, PD x m o R G us tt c c Λ S2 → Qn Λ S2) : St_23 Λ S x m o Qn := by
  unfold St_23
  intro a1
  obtain ⟨r, e1, -⟩ := tF_X8_output S h.sh x h.kx a1
  obtain ⟨⟨r2, S2⟩, e2, g2⟩ := tF_X9_output (Y := (S, S, S)) S h.mi a1
  exact ⟨r, r2, S2, e1, e2, hQ S2 (h.ref g2.1 (g2.2.1.1.trans h.e2))⟩
theorem st_24 {x m o us tt c : Nat} {R : List Nat} {G : Nat → Nat} {Λ : sLay} {S : sSt} {Qn : sLay → sSt → Prop} (h : PD x m o R G us tt c c Λ S) (hQ : ∀ S2, PD x m o R G us tt c c Λ S2 → Qn Λ S2) : St_24 Λ S x m o Qn := by
  unfold St_24
  obtain ⟨⟨r, S1⟩, e1, g1⟩ := tF_X8_anew S h.sh rfl rfl rfl rfl rfl rfl rfl rfl rfl rfl rfl rfl rfl rfl x h.kx
  have h1 := h.cl g1
  obtain ⟨⟨r2, S2⟩, e2, g2⟩ := tF_X9_anew (Y := (S1, S1, S1)) S1 h1.mi
  exact ⟨r, S1, r2, S2, e1, e2, hQ S2 (h1.ref g2.1 (g2.2.1.1.trans h1.e2))⟩
theorem st_25 {x m o us tt c : Nat} {R : List Nat} {G : Nat → Nat} {Λ : sLay} {S : sSt} {Qn : sLay → sSt → Prop} (h : PD x m o R G us tt c c Λ S) (hQ : ∀ S2, PD x m o R G us tt c c Λ S2 → Qn Λ S2) : St_25 Λ S x m o Qn := by
  unfold St_25
  obtain ⟨⟨r, S1⟩, e1, g1⟩ := tF_X8_coarse S h.sh rfl rfl rfl rfl rfl rfl rfl rfl rfl rfl rfl rfl rfl rfl x h.kx
  have h1 := h.cl g1
  obtain ⟨⟨r2, S2⟩, e2, g2⟩ := tF_X9_coarse (Y := (S1, S1, S1)) S1 h1.mi
  exact ⟨r, S1, r2, S2, e1, e2, hQ S2 (h1.ref g2.1 (g2.2.1.1.trans h1.e2))⟩
theorem st_26 {x m o us tt c : Nat} {R : List Nat} {G : Nat → Nat} {Λ : sLay} {S : sSt} {Qn : sLay → sSt → Prop} (h : PD x m o R G us tt c c Λ S) (hQ : ∀ S2, PD x m o R G us tt c c Λ S2 → Qn Λ S2) : St_26 Λ S x m o Qn := by
  unfold St_26
  intro a1
  obtain ⟨⟨r, S1⟩, e1, g1⟩ := tF_L_order S h.sh rfl rfl rfl x h.kx a1 o h.ko h.ol
  have h1 := h.cl g1
  obtain ⟨⟨r2, S2⟩, e2, g2⟩ := tF_X9_order (Y := (S1, S1, S1)) S1 h1.mi a1
  exact ⟨r, S1, r2, S2, e1, e2, hQ S2 (h1.ref g2.1 (g2.2.1.1.trans h1.e2))⟩
theorem st_27 {x m o us tt c : Nat} {R : List Nat} {G : Nat → Nat} {Λ : sLay} {S : sSt} {Qn : sLay → sSt → Prop} (h : PD x m o R G us tt c c Λ S) (hQ : ∀ S2, PD x m o R G us tt c c Λ S2 → Qn Λ S2) : St_27 Λ S x m o Qn := by
  unfold St_27
  intro a1
  obtain ⟨⟨r, S1⟩, e1, g1⟩ := tF_X8_ring S h.sh rfl rfl rfl x h.kx a1
  have h1 := h.cl g1
  obtain ⟨⟨r2, S2⟩, e2, g2⟩ := tF_X9_ring (Y := (S1, S1, S1)) S1 h1.mi a1
  exact ⟨r, S1, r2, S2, e1, e2, hQ S2 (h1.ref g2.1 (g2.2.1.1.trans h1.e2))⟩
theorem st_28 {x m o us tt c : Nat} {R : List Nat} {G : Nat → Nat} {Λ : sLay} {S : sSt} {Qn : sLay → sSt → Prop} (h : PD x m o R G us tt c c Λ S) (hQ : ∀ S2, PD x m o R G us tt c c Λ S2 → Qn Λ S2) : St_28 Λ S x m o Qn := by
  unfold St_28
  intro a1 a2
  obtain ⟨⟨r, S1⟩, e1, g1⟩ := tF_X8_leads S h.sh rfl rfl rfl x h.kx a1 a2
  have h1 := h.cl g1
  obtain ⟨⟨r2, S2⟩, e2, g2⟩ := tF_X9_leads (Y := (S1, S1, S1)) S1 h1.mi a1 a2
  exact ⟨r, S1, r2, S2, e1, e2, hQ S2 (h1.ref g2.1 (g2.2.1.1.trans h1.e2))⟩
theorem st_29 {x m o us tt c : Nat} {R : List Nat} {G : Nat → Nat} {Λ : sLay} {S : sSt} {Qn : sLay → sSt → Prop} (h : PD x m o R G us tt c c Λ S) (hQ : ∀ S2, PD x m o R G us tt c c Λ S2 → Qn Λ S2) : St_29 Λ S x m o Qn := by
  unfold St_29
  intro a1
  obtain ⟨⟨r, S1⟩, e1, g1⟩ := tF_X8_count S h.sh rfl rfl rfl x h.kx a1
  have h1 := h.cl g1
  obtain ⟨⟨r2, S2⟩, e2, g2⟩ := tF_X9_count (Y := (S1, S1, S1)) S1 h1.mi a1
  exact ⟨r, S1, r2, S2, e1, e2, hQ S2 (h1.ref g2.1 (g2.2.1.1.trans h1.e2))⟩
theorem PD.lay {x m o us tt c1 c2 q : Nat} {R : List Nat} {G : Nat → Nat} {Λ Λ2 : sLay} {S S2 : sSt} {p1 : Int32} (h : PD x m o R G us tt c1 c2 Λ S) (hq : q ∉ Λ.1) (r : R_X6_init (lNew Λ q 6 0) (sNew S q) q p1 Λ2 S2) : PD x m o R G us tt c1 c2 Λ2 S2 ∧ isK (own Λ2 R) 6 q := by
  have hus := h.kus
  have htt := h.kt
  obtain ⟨h1, h2, h3, h4, h5, h6, h7, h8, h9, h10, h11, h12, h13, h14⟩ := h
  have ex := (lExt.new (kd := 6) (len := 0) hq).tr r.ext
  have kk : ∀ a, a ∈ Λ.1 → kpA S S2 a := fun a ha => (kpA.new (ne_fresh ha hq)).tr (r.kp (inNew ha) (ne_fresh ha hq))
  obtain ⟨g1, tq⟩ := N6 h7 h1 hq r
  have hu := own_isK.mp hus
  have ht := own_isK.mp htt
  refine ⟨⟨fun a ha => (ex a (h1 a ha)).1, h2, h3, isK.ext (own_ext ex) h4, isK.ext (own_ext ex) h5, ?_, g1, ?_, ?_, ?_, ?_, fun k u hk hu2 => ?_, ?_, ?_⟩, tq⟩
  · rw [(ex o (own_isK.mp h5).1.1).2.2]; exact h6
  · exact (h8.kp (kk m (h1 m h2)) (fun f hf => kk _ (h1 _ (h3 f hf)))).lay (fun f hf => (ex _ (h1 _ (h3 f hf))).2.2)
  · rw [(kk x (own_isK.mp h4).1.1).2.2.1 320]; exact h9
  · rw [(kk us hu.1.1).2.2.1 280]; exact h10
  · rw [(ex tt ht.1.1).2.2]; exact h11
  · rw [(kk tt ht.1.1).2.2.2.2.2 k] at hu2
    have tu := own_isK.mp (h7.1.2 tt k htt.1 u (by rw [hu2]))
    rw [(kk u tu.1.1).1 240]
    exact h12 k u hk hu2
  · rw [(kk us hu.1.1).1 281]; exact h13
  · rw [(kk m (h1 m h2)).1 361]; exact h14
/-- one more unit -/
theorem unit_end {x m o us tt c u : Nat} {R : List Nat} {G : Nat → Nat} {Λ : sLay} {S S1 : sSt} {t : Nat} (hc : c < 16) (h : PD x m o R G us tt c c Λ S) (g : Sh (S, fzN) (own Λ R) S1) (hu : gAR S tt c = some u) : ∃ S2, F_X9_unit Λ.2.2 (sFI S1 281 us (gFI S1 281 us + 1)) m = some (gFI (sFI S1 281 us (gFI S1 281 us + 1)) 240 u, S2) ∧ pInv x m o (t + 1) Λ S2 := by
  have h1 := h.cl g
  have hus := h1.kus
  have e281 := h1.e1
  have hd : PD x m o R G us tt (c + 1) c Λ (sFI S1 281 us (gFI S1 281 us + 1)) := by
    refine h1.cls (W := sFI S1 281 us (gFI S1 281 us + 1)) (fun a ha => kpA.sFI (fun e => ha (e ▸ hus.1))) rfl (fun _ => rfl) (fun a => by rw [gFI_sFI, if_neg (fun z => absurd z.1 (by decide))]) (by rw [gFI_sFI, if_pos ⟨rfl, rfl⟩]; exact e_add e281 k1) ?_
    exact ((h1.2.2.2.2.2.2.1.fi 281 us _)).sh fzN
  obtain ⟨⟨r, S2⟩, e2, g1, g2⟩ := tF_X9_unit _ hd.mc c (by omega) hd.e2
  have e240 : gFI (sFI S1 281 us (gFI S1 281 us + 1)) 240 u = nI c := hd.2.2.2.2.2.2.2.2.2.2.2.1 c u hc (by
    show gAR S1 tt c = some u
    rw [g.2.2.2.2.2.2.1 tt c h.kt.2]
    exact hu)
  rcases g2 with ⟨z, -⟩ | ⟨-, z1, z2⟩
  · omega
  · refine ⟨S2, ?_, R, G, us, tt, c + 1, by omega, hd.ref g1 z2⟩
    rw [e2, e240]
    have z1 : r = nI c := z1
    rw [z1]
set_option maxHeartbeats 1000000 in
theorem st_0 {x m o us tt c t : Nat} {R : List Nat} {G : Nat → Nat} {Λ : sLay} {S : sSt} (hc : c ≤ 16) (h : PD x m o R G us tt c c Λ S) : St_0 Λ S x m o (pInv x m o (t + 1)) := by
  unfold St_0 P_X8_unit
  have h320 := h.2.2.2.2.2.2.2.2.1
  have h280 := h.2.2.2.2.2.2.2.2.2.1
  have hlen := h.2.2.2.2.2.2.2.2.2.2.1
  have htt := h.kt
  have e281 := h.e1
  refine ⟨us, h320, ?_⟩
  unfold P_X7_addOne
  rw [e281]
  refine ⟨fun z => absurd z (nI_pos (by omega)), fun _ => ⟨tt, h280, fun z => ?_, fun z => ?_⟩⟩
  · rw [hlen] at z
    have hc16 : c = 16 := by
      rcases Nat.lt_or_ge c 16 with q | q
      · exact absurd ((nI_ltI (by omega) (by omega)).mpr q) z
      · omega
    refine ⟨fun _ _ => ?_, fun u hu => nomatch hu⟩
    obtain ⟨⟨r, S2⟩, e2, g1, g2⟩ := tF_X9_unit S h.mc c hc h.e2
    rcases g2 with ⟨-, z1, z2⟩ | ⟨y, -⟩
    · have z1 : r = -4 := z1
      refine ⟨S2, ?_, R, G, us, tt, c, hc, h.ref g1 z2⟩
      rw [e2, z1]
    · omega
  · rw [hlen] at z
    have hlt : c < 16 := (nI_ltI (by omega) (by omega)).mp z
    have ecl : (nI c).toNatClampNeg = c := nI_clamp (by omega)
    refine ⟨?_, fun u hu => ?_, fun hn q hq Λ2 S2 r => ?_⟩
    · rw [hlen]
      exact vp_in_nI hlt (by omega)
    · rw [ecl] at hu
      have tu : isK (own Λ R) 6 u := by
        have z1 := h.2.2.2.2.2.2.1.1.2 tt c htt.1
        rw [htt.2] at z1
        exact z1 u hu
      obtain ⟨S1, e1, g1⟩ := tF_X6_start S h.sh rfl rfl rfl rfl rfl rfl u tu
      refine ⟨S1, e1, ?_⟩
      refine ⟨fun y => absurd y (by simp), fun u' hu' => ?_⟩
      cases hu'
      intro _
      exact unit_end hlt h g1 hu
    · have eq0 : gFI (sNew S q) 281 us = nI c := by
        rw [gFI_sNew, if_neg (ne_fresh (own_isK.mp h.kus).1.1 hq)]
        exact e281
      rw [eq0] at r
      obtain ⟨h2, tq⟩ := h.lay hq r
      have ht2 := h2.kt
      have e2 := h2.e1
      have hlen2 := h2.2.2.2.2.2.2.2.2.2.2.1
      have f240 := (r.at (isK.mk (kd := 6) (len := 0)).1).1
      refine ⟨tt, h2.2.2.2.2.2.2.2.2.2.1, ?_, ?_⟩
      · rw [e2, hlen2]
        exact vp_in_nI hlt (by omega)
      · rw [e2, ecl]
        -- the row of units holds the new one
        have h3 : PD x m o R G us tt c c Λ2 (sAR S2 tt c (some q)) := by
          obtain ⟨a1, a2, a3, a4, a5, a6, a7, a8, a9, a10, a11, a12, a13, a14⟩ := h2
          have ntt : tt ∉ R := (own_isK.mp ht2).2
          refine ⟨a1, a2, a3, a4, a5, a6, a7.ar tt c (by rw [ht2.2]; exact okK.of tq), a8.kp (kpA.sAR (fun e => ntt (e ▸ a2))) (fun f hf => kpA.sAR (fun e => ntt (e ▸ a3 f hf))), a9, a10, a11, fun k u hk hu => ?_, a13, a14⟩
          rw [gAR_sAR] at hu
          by_cases ck : tt = tt ∧ k = c
          · rw [if_pos ck] at hu
            cases hu
            rw [ck.2]
            exact f240
          · rw [if_neg ck] at hu
            exact a12 k u hk hu
        obtain ⟨S3, e3, g3⟩ := tF_X6_start (sAR S2 tt c (some q)) h3.sh rfl rfl rfl rfl rfl rfl q tq
        refine ⟨S3, e3, ?_⟩
        refine ⟨fun y => absurd y (by simp), fun u' hu' => ?_⟩
        cases hu'
        intro _
        exact unit_end hlt h3 g3 (by rw [gAR_sAR, if_pos ⟨rfl, rfl⟩])
theorem st_30 {x m o us tt c t : Nat} {R : List Nat} {G : Nat → Nat} {Λ : sLay} {S : sSt} (h : PD x m o R G us tt c c Λ S) : St_30 Λ S x m o (pInv x m o (t + 1)) := by
  unfold St_30
  obtain ⟨⟨r, S1⟩, e1, u, eu, g1⟩ := tF_X8_clear S h.sh rfl x h.kx
  have hu : u = us := by
    have z := h.2.2.2.2.2.2.2.2.1
    rw [eu] at z
    cases z
    rfl
  subst hu
  have h1 : PD x m o R G u tt 0 c Λ S1 := h.cls (W := sFI S 281 u 0) (fun a ha => kpA.sFI (fun e => ha (e ▸ h.kus.1))) rfl (fun _ => rfl) (fun a => by rw [gFI_sFI, if_neg (fun z => absurd z.1 (by decide))]) (by rw [gFI_sFI, if_pos ⟨rfl, rfl⟩]; rfl) g1
  obtain ⟨⟨r2, S2⟩, e2, g2, z2⟩ := tF_X9_clear S1 h1.mc
  exact ⟨r, S1, r2, S2, e1, e2, R, G, u, tt, 0, Nat.zero_le _, h1.ref g2 z2⟩
theorem pInv_step : ∀ x m o t Λ S, 7 * t + 7 ≤ 448 → pInv x m o t Λ S → LawSteps Λ S x m o (pInv x m o (t + 1)) := by
  intro x m o t Λ S _ hI
  obtain ⟨R, G, us, tt, c, hc, h⟩ := hI
  have hQ : ∀ S2, PD x m o R G us tt c c Λ S2 → pInv x m o (t + 1) Λ S2 := fun S2 h2 => ⟨R, G, us, tt, c, hc, h2⟩
  exact ⟨st_0 hc h, st_1 h hQ, st_2 h hQ, st_3 h hQ, st_4 h hQ, st_5 h hQ, st_6 h hQ, st_7 h hQ, st_8 h hQ, st_9 h hQ, st_10 h hQ, st_11 h hQ, st_12 h hQ, st_13 h hQ, st_14 h hQ, st_15 h hQ, st_16 h hQ, st_17 h hQ, st_18 h hQ, st_19 h hQ, st_20 h hQ, st_21 h hQ, st_22 h hQ, st_23 h hQ, st_24 h hQ, st_25 h hQ, st_26 h hQ, st_27 h hQ, st_28 h hQ, st_29 h hQ, st_30 h, hQ S h⟩
