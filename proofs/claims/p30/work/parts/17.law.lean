def LawSteps (Λ : sLay) (S : sSt) (x m o : Nat) (Qn : sLay → sSt → Prop) : Prop := St_0 Λ S x m o Qn ∧ St_1 Λ S x m o Qn ∧ St_2 Λ S x m o Qn ∧ St_3 Λ S x m o Qn ∧ St_4 Λ S x m o Qn ∧ St_5 Λ S x m o Qn ∧ St_6 Λ S x m o Qn ∧ St_7 Λ S x m o Qn ∧ St_8 Λ S x m o Qn ∧ St_9 Λ S x m o Qn ∧ St_10 Λ S x m o Qn ∧ St_11 Λ S x m o Qn ∧ St_12 Λ S x m o Qn ∧ St_13 Λ S x m o Qn ∧ St_14 Λ S x m o Qn ∧ St_15 Λ S x m o Qn ∧ St_16 Λ S x m o Qn ∧ St_17 Λ S x m o Qn ∧ St_18 Λ S x m o Qn ∧ St_19 Λ S x m o Qn ∧ St_20 Λ S x m o Qn ∧ St_21 Λ S x m o Qn ∧ St_22 Λ S x m o Qn ∧ St_23 Λ S x m o Qn ∧ St_24 Λ S x m o Qn ∧ St_25 Λ S x m o Qn ∧ St_26 Λ S x m o Qn ∧ St_27 Λ S x m o Qn ∧ St_28 Λ S x m o Qn ∧ St_29 Λ S x m o Qn ∧ St_30 Λ S x m o Qn ∧ Qn Λ S
theorem sub7 {L : Nat} (h : L < 2 ^ 31) : (nI L - 7).toInt = (L : Int) - 7 := by
  rw [Int32.toInt_sub, nI_toInt h]
  have e : (7 : Int32).toInt = 7 := rfl
  rw [e, Int.bmod_def]
  omega
set_option maxRecDepth 100000 in
set_option maxHeartbeats 4000000 in
/-- the law's loop, over what holds at each turn -/
theorem law_loop {X : jX} {b L : Nat} {sc : Nat → Int32} (C : jC X code 8 RL room_1) (Q0 : lawC X b L sc) {x m o : Nat} (Inv : Nat → sLay → sSt → Prop) (Hst : ∀ t Λ S, 7 * t + 7 ≤ L → Inv t Λ S → LawSteps Λ S x m o (Inv (t + 1))) :
    ∀ (d t k n : Nat) (Λ : sLay) (S : sSt), 7 * t ≤ L → L < 7 * t + 7 * (d + 1) → k + 40 * (d + 1) ≤ 600384 → n + 923 * (d + 1) ≤ 7289322 → isK Λ 8 x → isK Λ 9 m → isK Λ 11 o → Inv t Λ S → J X 8 k n 23 [(0, vR (some b)), (1, vR (some x)), (2, vR (some m)), (3, vR (some o)), (4, vI (nI (7 * t)))] [] Λ S True := by
  have hLs : L < 2 ^ 31 := Q0.2.2.2.2.1
  intro d
  induction d with
  | zero =>
    intro t k n Λ S h1 h2 h3 h4 tx tm to hI
    refine j_iload C dL_law_23 4 rfl ?_
    refine j_aload_n C dL_law_25 0 rfl ?_
    refine jl_slen C Q0 dL_law_26 ?_
    refine j_bipush C (v := (7 : Int32)) dL_law_27 (by decide) ?_
    refine j_isub C dL_law_29 ?_
    refine jb_icmp_gt C (tgt := 1264) (φ1 := True) (φ2 := True) dL_law_30 (by decide) (fun _ _ => trivial) (fun _ _ => trivial) (fun _ => ?_) (fun c => ?_)
    · refine j_iconst C (v := (1 : Int32)) dL_law_1264 (by decide) ?_
      exact Q0.2.2.2.2.2.2.2 _ _ _ _ _ _ _ (by omega) (by omega) dL_law_1265
    · exact absurd (Int32.lt_iff_toInt_lt.mpr (by rw [sub7 hLs, nI_toInt (by omega)]; omega)) c
  | succ d ih =>
    intro t k n Λ S h1 h2 h3 h4 tx tm to hI
    refine j_iload C dL_law_23 4 rfl ?_
    refine j_aload_n C dL_law_25 0 rfl ?_
    refine jl_slen C Q0 dL_law_26 ?_
    refine j_bipush C (v := (7 : Int32)) dL_law_27 (by decide) ?_
    refine j_isub C dL_law_29 ?_
    refine jb_icmp_gt C (tgt := 1264) (φ1 := True) (φ2 := True) dL_law_30 (by decide) (fun _ _ => trivial) (fun _ _ => trivial) (fun _ => ?_) (fun c => ?_)
    · refine j_iconst C (v := (1 : Int32)) dL_law_1264 (by decide) ?_
      exact Q0.2.2.2.2.2.2.2 _ _ _ _ _ _ _ (by omega) (by omega) dL_law_1265
    · have hc : 7 * t + 7 ≤ L := by
        rcases Nat.lt_or_ge L (7 * t + 7) with q | q
        · exact absurd (Int32.lt_iff_toInt_lt.mpr (by rw [sub7 hLs, nI_toInt (by omega)]; omega)) c
        · exact q
      have hk40 : k + 40 ≤ room_1.cells := (by omega : k + 40 ≤ 600384)
      have hn923 : n + 923 ≤ room_1.slots := (by omega : n + 923 ≤ 7289322)
      have hinc : ∀ Λ1 S1 k1 n1, Inv (t + 1) Λ1 S1 → lExt Λ Λ1 → k1 ≤ k + 40 → n1 ≤ n + 923 → J X 8 k1 n1 1258 [(0, vR (some b)), (1, vR (some x)), (2, vR (some m)), (3, vR (some o)), (4, vI (nI (7 * t)))] [] Λ1 S1 True := by
        intro Λ1 S1 k1 n1 hI1 hx hk1 hn1
        refine j_iinc C (v := (7 : Int32)) (L' := [(4, vI (nI (7 * t) + 7)), (0, vR (some b)), (1, vR (some x)), (2, vR (some m)), (3, vR (some o))]) dL_law_1258 4 rfl (by decide) (by decide) rfl ?_
        refine j_goto C (tgt := 23) dL_law_1261 (by decide) ?_
        have e7 : nI (7 * t) + 7 = nI (7 * (t + 1)) := nI_add (7 * t) 7
        rw [e7]
        refine j_sub (L' := [(0, vR (some b)), (1, vR (some x)), (2, vR (some m)), (3, vR (some o)), (4, vI (nI (7 * (t + 1))))]) [1, 2, 3, 4, 0] rfl ?_
        exact ih (t + 1) k1 n1 Λ1 S1 (by omega) (by omega) (by omega) (by omega) (isK.ext hx tx) (isK.ext hx tm) (isK.ext hx to) hI1
      refine j_aload_n C dL_law_33 0 rfl ?_
      refine j_iload C dL_law_34 4 rfl ?_
      refine jl_sld C Q0 (j := 7 * t) rfl (by omega) dL_law_36 ?_
      refine j_bipush C (v := (31 : Int32)) dL_law_37 (by decide) ?_
      refine j_iand C dL_law_39 ?_
      obtain ⟨q, hq, e⟩ := and31 (sc (7 * t))
      have hq2 : q = 0 ∨ q = 1 ∨ q = 2 ∨ q = 3 ∨ q = 4 ∨ q = 5 ∨ q = 6 ∨ q = 7 ∨ q = 8 ∨ q = 9 ∨ q = 10 ∨ q = 11 ∨ q = 12 ∨ q = 13 ∨ q = 14 ∨ q = 15 ∨ q = 16 ∨ q = 17 ∨ q = 18 ∨ q = 19 ∨ q = 20 ∨ q = 21 ∨ q = 22 ∨ q = 23 ∨ q = 24 ∨ q = 25 ∨ q = 26 ∨ q = 27 ∨ q = 28 ∨ q = 29 ∨ q = 30 ∨ q = 31 := by omega
      rcases hq2 with rfl | rfl | rfl | rfl | rfl | rfl | rfl | rfl | rfl | rfl | rfl | rfl | rfl | rfl | rfl | rfl | rfl | rfl | rfl | rfl | rfl | rfl | rfl | rfl | rfl | rfl | rfl | rfl | rfl | rfl | rfl | rfl
      · refine j_tableIn C (tgt := 180) (nI 0) e dL_law_40 (by decide) (by decide) rfl (by decide) ?_
        exact lc_0 C Q0 hc tx tm to hk40 hn923 ((Hst t Λ S hc hI).1) hinc
      · refine j_tableIn C (tgt := 193) (nI 1) e dL_law_40 (by decide) (by decide) rfl (by decide) ?_
        exact lc_1 C Q0 hc tx tm to hk40 hn923 ((Hst t Λ S hc hI).2.1) hinc
      · refine j_tableIn C (tgt := 316) (nI 2) e dL_law_40 (by decide) (by decide) rfl (by decide) ?_
        exact lc_2 C Q0 hc tx tm to hk40 hn923 ((Hst t Λ S hc hI).2.2.1) hinc
      · refine j_tableIn C (tgt := 365) (nI 3) e dL_law_40 (by decide) (by decide) rfl (by decide) ?_
        exact lc_3 C Q0 hc tx tm to hk40 hn923 ((Hst t Λ S hc hI).2.2.2.1) hinc
      · refine j_tableIn C (tgt := 414) (nI 4) e dL_law_40 (by decide) (by decide) rfl (by decide) ?_
        exact lc_4 C Q0 hc tx tm to hk40 hn923 ((Hst t Λ S hc hI).2.2.2.2.1) hinc
      · refine j_tableIn C (tgt := 451) (nI 5) e dL_law_40 (by decide) (by decide) rfl (by decide) ?_
        exact lc_5 C Q0 hc tx tm to hk40 hn923 ((Hst t Λ S hc hI).2.2.2.2.2.1) hinc
      · refine j_tableIn C (tgt := 476) (nI 6) e dL_law_40 (by decide) (by decide) rfl (by decide) ?_
        exact lc_6 C Q0 hc tx tm to hk40 hn923 ((Hst t Λ S hc hI).2.2.2.2.2.2.1) hinc
      · refine j_tableIn C (tgt := 525) (nI 7) e dL_law_40 (by decide) (by decide) rfl (by decide) ?_
        exact lc_7 C Q0 hc tx tm to hk40 hn923 ((Hst t Λ S hc hI).2.2.2.2.2.2.2.1) hinc
      · refine j_tableIn C (tgt := 562) (nI 8) e dL_law_40 (by decide) (by decide) rfl (by decide) ?_
        exact lc_8 C Q0 hc tx tm to hk40 hn923 ((Hst t Λ S hc hI).2.2.2.2.2.2.2.2.1) hinc
      · refine j_tableIn C (tgt := 615) (nI 9) e dL_law_40 (by decide) (by decide) rfl (by decide) ?_
        exact lc_9 C Q0 hc tx tm to hk40 hn923 ((Hst t Λ S hc hI).2.2.2.2.2.2.2.2.2.1) hinc
      · refine j_tableIn C (tgt := 652) (nI 10) e dL_law_40 (by decide) (by decide) rfl (by decide) ?_
        exact lc_10 C Q0 hc tx tm to hk40 hn923 ((Hst t Λ S hc hI).2.2.2.2.2.2.2.2.2.2.1) hinc
      · refine j_tableIn C (tgt := 677) (nI 11) e dL_law_40 (by decide) (by decide) rfl (by decide) ?_
        exact lc_11 C Q0 hc tx tm to hk40 hn923 ((Hst t Λ S hc hI).2.2.2.2.2.2.2.2.2.2.2.1) hinc
      · refine j_tableIn C (tgt := 726) (nI 12) e dL_law_40 (by decide) (by decide) rfl (by decide) ?_
        exact lc_12 C Q0 hc tx tm to hk40 hn923 ((Hst t Λ S hc hI).2.2.2.2.2.2.2.2.2.2.2.2.1) hinc
      · refine j_tableIn C (tgt := 763) (nI 13) e dL_law_40 (by decide) (by decide) rfl (by decide) ?_
        exact lc_13 C Q0 hc tx tm to hk40 hn923 ((Hst t Λ S hc hI).2.2.2.2.2.2.2.2.2.2.2.2.2.1) hinc
      · refine j_tableIn C (tgt := 800) (nI 14) e dL_law_40 (by decide) (by decide) rfl (by decide) ?_
        exact lc_14 C Q0 hc tx tm to hk40 hn923 ((Hst t Λ S hc hI).2.2.2.2.2.2.2.2.2.2.2.2.2.2.1) hinc
      · refine j_tableIn C (tgt := 861) (nI 15) e dL_law_40 (by decide) (by decide) rfl (by decide) ?_
        exact lc_15 C Q0 hc tx tm to hk40 hn923 ((Hst t Λ S hc hI).2.2.2.2.2.2.2.2.2.2.2.2.2.2.2.1) hinc
      · refine j_tableIn C (tgt := 886) (nI 16) e dL_law_40 (by decide) (by decide) rfl (by decide) ?_
        exact lc_16 C Q0 hc tx tm to hk40 hn923 ((Hst t Λ S hc hI).2.2.2.2.2.2.2.2.2.2.2.2.2.2.2.2.1) hinc
      · refine j_tableIn C (tgt := 911) (nI 17) e dL_law_40 (by decide) (by decide) rfl (by decide) ?_
        exact lc_17 C Q0 hc tx tm to hk40 hn923 ((Hst t Λ S hc hI).2.2.2.2.2.2.2.2.2.2.2.2.2.2.2.2.2.1) hinc
      · refine j_tableIn C (tgt := 951) (nI 18) e dL_law_40 (by decide) (by decide) rfl (by decide) ?_
        exact lc_18 C Q0 hc tx tm to hk40 hn923 ((Hst t Λ S hc hI).2.2.2.2.2.2.2.2.2.2.2.2.2.2.2.2.2.2.1) hinc
      · refine j_tableIn C (tgt := 991) (nI 19) e dL_law_40 (by decide) (by decide) rfl (by decide) ?_
        exact lc_19 C Q0 hc tx tm to hk40 hn923 ((Hst t Λ S hc hI).2.2.2.2.2.2.2.2.2.2.2.2.2.2.2.2.2.2.2.1) hinc
      · refine j_tableIn C (tgt := 1016) (nI 20) e dL_law_40 (by decide) (by decide) rfl (by decide) ?_
        exact lc_20 C Q0 hc tx tm to hk40 hn923 ((Hst t Λ S hc hI).2.2.2.2.2.2.2.2.2.2.2.2.2.2.2.2.2.2.2.2.1) hinc
      · refine j_tableIn C (tgt := 1029) (nI 21) e dL_law_40 (by decide) (by decide) rfl (by decide) ?_
        exact lc_21 C Q0 hc tx tm to hk40 hn923 ((Hst t Λ S hc hI).2.2.2.2.2.2.2.2.2.2.2.2.2.2.2.2.2.2.2.2.2.1) hinc
      · refine j_tableIn C (tgt := 1054) (nI 22) e dL_law_40 (by decide) (by decide) rfl (by decide) ?_
        exact lc_22 C Q0 hc tx tm to hk40 hn923 ((Hst t Λ S hc hI).2.2.2.2.2.2.2.2.2.2.2.2.2.2.2.2.2.2.2.2.2.2.1) hinc
      · refine j_tableIn C (tgt := 1079) (nI 23) e dL_law_40 (by decide) (by decide) rfl (by decide) ?_
        exact lc_23 C Q0 hc tx tm to hk40 hn923 ((Hst t Λ S hc hI).2.2.2.2.2.2.2.2.2.2.2.2.2.2.2.2.2.2.2.2.2.2.2.1) hinc
      · refine j_tableIn C (tgt := 1104) (nI 24) e dL_law_40 (by decide) (by decide) rfl (by decide) ?_
        exact lc_24 C Q0 hc tx tm to hk40 hn923 ((Hst t Λ S hc hI).2.2.2.2.2.2.2.2.2.2.2.2.2.2.2.2.2.2.2.2.2.2.2.2.1) hinc
      · refine j_tableIn C (tgt := 1117) (nI 25) e dL_law_40 (by decide) (by decide) rfl (by decide) ?_
        exact lc_25 C Q0 hc tx tm to hk40 hn923 ((Hst t Λ S hc hI).2.2.2.2.2.2.2.2.2.2.2.2.2.2.2.2.2.2.2.2.2.2.2.2.2.1) hinc
      · refine j_tableIn C (tgt := 1130) (nI 26) e dL_law_40 (by decide) (by decide) rfl (by decide) ?_
        exact lc_26 C Q0 hc tx tm to hk40 hn923 ((Hst t Λ S hc hI).2.2.2.2.2.2.2.2.2.2.2.2.2.2.2.2.2.2.2.2.2.2.2.2.2.2.1) hinc
      · refine j_tableIn C (tgt := 1158) (nI 27) e dL_law_40 (by decide) (by decide) rfl (by decide) ?_
        exact lc_27 C Q0 hc tx tm to hk40 hn923 ((Hst t Λ S hc hI).2.2.2.2.2.2.2.2.2.2.2.2.2.2.2.2.2.2.2.2.2.2.2.2.2.2.2.1) hinc
      · refine j_tableIn C (tgt := 1183) (nI 28) e dL_law_40 (by decide) (by decide) rfl (by decide) ?_
        exact lc_28 C Q0 hc tx tm to hk40 hn923 ((Hst t Λ S hc hI).2.2.2.2.2.2.2.2.2.2.2.2.2.2.2.2.2.2.2.2.2.2.2.2.2.2.2.2.1) hinc
      · refine j_tableIn C (tgt := 1220) (nI 29) e dL_law_40 (by decide) (by decide) rfl (by decide) ?_
        exact lc_29 C Q0 hc tx tm to hk40 hn923 ((Hst t Λ S hc hI).2.2.2.2.2.2.2.2.2.2.2.2.2.2.2.2.2.2.2.2.2.2.2.2.2.2.2.2.2.1) hinc
      · refine j_tableIn C (tgt := 1245) (nI 30) e dL_law_40 (by decide) (by decide) rfl (by decide) ?_
        exact lc_30 C Q0 hc tx tm to hk40 hn923 ((Hst t Λ S hc hI).2.2.2.2.2.2.2.2.2.2.2.2.2.2.2.2.2.2.2.2.2.2.2.2.2.2.2.2.2.2.1) hinc
      · refine j_tableOut C (tgt := 1258) dL_law_40 (Or.inr (by rw [e]; decide)) (by decide) ?_
        exact hinc Λ S k n ((Hst t Λ S hc hI).2.2.2.2.2.2.2.2.2.2.2.2.2.2.2.2.2.2.2.2.2.2.2.2.2.2.2.2.2.2.2) lExt.rf (by omega) (by omega)

