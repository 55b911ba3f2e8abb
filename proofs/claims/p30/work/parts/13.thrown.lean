theorem kmX8_181 : Cond.methodLink RX8 181 yX3_at ∈ bigW := (big_mem 834 (by decide +kernel) (by decide +kernel))
theorem kYX8_row : jY yX8_row cX8_row 5 (some .long) 2 := ⟨(big_mem 830 (by decide +kernel) (by decide +kernel)), (big_mem 39 (by decide +kernel) (by decide +kernel)), by decide +kernel⟩
theorem kVX8_row : jYv yX8_row := ⟨(big_mem 828 (by decide +kernel) (by decide +kernel)), (big_mem 829 (by decide +kernel) (by decide +kernel))⟩
theorem kYX8_kept : jY yX8_kept cX8_kept 4 (some .long) 2 := ⟨(big_mem 866 (by decide +kernel) (by decide +kernel)), (big_mem 39 (by decide +kernel) (by decide +kernel)), by decide +kernel⟩
theorem kVX8_kept : jYv yX8_kept := ⟨(big_mem 864 (by decide +kernel) (by decide +kernel)), (big_mem 865 (by decide +kernel) (by decide +kernel))⟩
theorem kYX8_order : jY yX8_order cX8_order 2 (some .int) 1 := ⟨(big_mem 880 (by decide +kernel) (by decide +kernel)), (big_mem 39 (by decide +kernel) (by decide +kernel)), by decide +kernel⟩
theorem kVX8_order : jYv yX8_order := ⟨(big_mem 878 (by decide +kernel) (by decide +kernel)), (big_mem 879 (by decide +kernel) (by decide +kernel))⟩
theorem ai8_hi : ∀ w ∈ vx_atS RX8 178 aiN aiC, w ∈ lw_tbl := by
  have h : ((vx_atS RX8 178 aiN aiC).all (fun w => decide (w ∈ lw_tbl))) = true := by decide +kernel
  exact fun w hw => of_decide_eq_true (List.all_eq_true.mp h w hw)
theorem ai8_hg : ∀ w ∈ vx_atS RX8 178 aiN aiC, goodWord w = true ∨ w ∈ ngW := by
  have h : ((vx_atS RX8 178 aiN aiC).all (fun w => goodWord w || decide (w ∈ ngW))) = true := by decide +kernel
  intro w hw
  have h1 := List.all_eq_true.mp h w hw
  rcases Bool.or_eq_true_iff.mp h1 with h2 | h2
  · exact Or.inl h2
  · exact Or.inr (of_decide_eq_true h2)
theorem ai8_ot : ∀ w ∈ vx_atS RX8 178 aiN aiC, vx_ot w = true := by
  have h : ((vx_atS RX8 178 aiN aiC).all vx_ot) = true := by decide +kernel
  exact fun w hw => List.all_eq_true.mp h w hw
theorem np8_hi : ∀ w ∈ vn_at RX8 191, w ∈ lw_tbl := by
  have h : ((vn_at RX8 191).all (fun w => decide (w ∈ lw_tbl))) = true := by decide +kernel
  exact fun w hw => of_decide_eq_true (List.all_eq_true.mp h w hw)
theorem np8_hg : ∀ w ∈ vn_at RX8 191, goodWord w = true ∨ w ∈ ngW := by
  have h : ((vn_at RX8 191).all (fun w => goodWord w || decide (w ∈ ngW))) = true := by decide +kernel
  intro w hw
  have h1 := List.all_eq_true.mp h w hw
  rcases Bool.or_eq_true_iff.mp h1 with h2 | h2
  · exact Or.inl h2
  · exact Or.inr (of_decide_eq_true h2)
theorem np8_ot : ∀ w ∈ vn_at RX8 191, vx_ot w = true := by
  have h : ((vn_at RX8 191).all vx_ot) = true := by decide +kernel
  exact fun w hw => List.all_eq_true.mp h w hw
abbrev rm_X8_row : Room := { frames := 7, cells := 1, slots := 8, locals := 142 }
def F_X8_row (N : Nat → Nat) (S : sSt) (p0 : Nat) (p1 : Int32) (p2 : Int32) : Option ((String ⊕ Int64) × sSt) := bnd (gFR S 320 p0) (fun x1 => Option.bind x1 (fun a2 => Option.bind (F_X7_at N S a2 p1) (fun v3 => onl v3 (some (Sum.inr (0 : Int64), S)) (fun a5 => bnd (gFR S 321 p0) (fun x6 => bnd (gFR S 320 p0) (fun x7 => Option.bind x6 (fun a8 => Option.bind (F_X0_settleAll N S a8 x7) (fun S10 => bnd (gFR S10 322 p0) (fun x11 => bnd (gFR S10 320 p0) (fun x12 => Option.bind x11 (fun a13 => obd (F_X4_now N S10 a13 (some a5) x12) (fun v14 S15 => Option.bind v14 (fun a16 => Option.bind (F_X3_length N S15 a16) (fun v17 => Option.bind (F_X8_isBelow N S15 p2 v17) (fun v19 => (if v19 = 0 then some (Sum.inl aiN, S15) else Option.bind (F_X3_at N S15 a16 p2) (fun v21 => some (Sum.inr v21, S15))))))))))))))))))
set_option maxHeartbeats 4000000 in
theorem jF_X8_row {X : jX} (C : jC X cX8_row 5 RX8 rm_X8_row) {Λ : sLay} {S : sSt} {r : ((String ⊕ Int64) × sSt)} (E : jEx X (some .long) rJ Λ r) (p0 : Nat) (tp0 : isK Λ 8 p0) (p1 : Int32) (p2 : Int32) : J X 5 0 0 0 [(0, vR (some p0)), (1, vI p1), (2, vI p2)] [] Λ S (F_X8_row Λ.2.2 S p0 p1 p2 = some r) := by
  unfold F_X8_row
  refine j_aload_n C dX8_row_0 0 rfl ?_
  refine j_getR C kK8 f320 kfX8_12 (by decide) rfl tp0 dX8_row_1 (fun x1 tx1 => ?_)
  refine j_iload_n C dX8_row_4 1 rfl ?_
  refine j_oc tx1 (fun a2 ta2 ea2 => ?_)
  subst ea2
  refine j_cVRP C [vI p1] [] (fun _ e => c_X7_at a2 ta2 p1 e) kYX7_at kVX7_at kmX8_50 kO7 ta2 rfl rfl ⟨rfl, rfl, by decide, by decide⟩ (Nat.le_of_ble_eq_true rfl) ⟨Nat.zero_le _, Nat.zero_le _⟩ dX8_row_5 (fun v3 tv3 => ?_)
  refine j_astore_n C (L' := [(3, vR v3), (0, vR (some p0)), (1, vI p1), (2, vI p2)]) dX8_row_8 (by decide) rfl ?_
  refine j_aload_n C dX8_row_9 0 rfl ?_
  refine j_ifnonnull C (tgt := 15) tv3 dX8_row_10 (by decide) (fun ea5 => ?_) (fun a5 ta5 ea5 => ?_)
  · subst ea5
    refine j_lconst C (v := (0 : Int64)) dX8_row_13 (by decide) ?_
    exact j_lretX C E ⟨Nat.zero_le _, Nat.zero_le _⟩ dX8_row_14
  · subst ea5
    refine j_aload_n C dX8_row_15 1 rfl ?_
    refine j_getR C kK8 f321 kfX8_19 (by decide) rfl tp0 dX8_row_16 (fun x6 tx6 => ?_)
    refine j_aload_n C dX8_row_19 1 rfl ?_
    refine j_getR C kK8 f320 kfX8_12 (by decide) rfl tp0 dX8_row_20 (fun x7 tx7 => ?_)
    refine j_oc tx6 (fun a8 ta8 ea8 => ?_)
    subst ea8
    refine j_cVVV C [vR x7] [] (fun _ e => c_X0_settleAll a8 ta8 x7 tx7 e) kYX0_settleAll kVX0_settleAll kmX8_139 kO0 ta8 rfl rfl ⟨rfl, rfl, by decide, by decide⟩ (Nat.le_of_ble_eq_true rfl) ⟨Nat.zero_le _, Nat.zero_le _⟩ dX8_row_23 (fun S10 => ?_)
    refine j_aload_n C dX8_row_26 1 rfl ?_
    refine j_getR C kK8 f322 kfX8_26 (by decide) rfl tp0 dX8_row_27 (fun x11 tx11 => ?_)
    refine j_aload_n C dX8_row_30 0 rfl ?_
    refine j_aload_n C dX8_row_31 1 rfl ?_
    refine j_getR C kK8 f320 kfX8_12 (by decide) rfl tp0 dX8_row_32 (fun x12 tx12 => ?_)
    refine j_oc tx11 (fun a13 ta13 ea13 => ?_)
    subst ea13
    refine j_cVRG C [vR (some a5), vR x12] [] (fun _ _ e => c_X4_now a13 ta13 (some a5) (okS ta5) x12 tx12 e) kYX4_now kVX4_now kmX8_167 kO4 ta13 rfl rfl ⟨rfl, rfl, by decide, by decide⟩ (Nat.le_of_ble_eq_true rfl) ⟨Nat.zero_le _, Nat.zero_le _⟩ dX8_row_35 (fun v14 S15 tv14 => ?_)
    refine j_astore C (L' := [(4, vR v14), (3, vR (some a5)), (0, vR (some p0)), (1, vI p1), (2, vI p2)]) dX8_row_38 (by decide) rfl ?_
    refine j_iload_n C dX8_row_40 4 rfl ?_
    refine j_aload C dX8_row_41 0 rfl ?_
    refine j_oc tv14 (fun a16 ta16 ea16 => ?_)
    subst ea16
    refine j_cVIP C [] [vI p2] (fun _ e => c_X3_length a16 ta16 e) kYX3_length kVX3_length kmX8_171 kO3 ta16 rfl rfl ⟨rfl, rfl, by decide, by decide⟩ (Nat.le_of_ble_eq_true rfl) ⟨Nat.zero_le _, Nat.zero_le _⟩ dX8_row_43 (fun v17 => ?_)
    refine j_cSIP C [vI p2, vI v17] [] (fun _ e => c_X8_isBelow p2 v17 e) kYX8_isBelow kSX8_isBelow kmX8_54 rfl rfl ⟨rfl, rfl, by decide, by decide⟩ (Nat.le_of_ble_eq_true rfl) ⟨Nat.zero_le _, Nat.zero_le _⟩ dX8_row_46 (fun v19 => ?_)
    refine j_if_ne C (tgt := 62) dX8_row_49 (by decide) ?_ ?_
    · refine j_aload C dX8_row_62 0 rfl ?_
      refine j_iload_n C dX8_row_64 4 rfl ?_
      refine j_cVJP C [vI p2] [] (fun _ e => c_X3_at a16 ta16 p2 e) kYX3_at kVX3_at kmX8_181 kO3 ta16 rfl rfl ⟨rfl, rfl, by decide, by decide⟩ (Nat.le_of_ble_eq_true rfl) ⟨Nat.zero_le _, Nat.zero_le _⟩ dX8_row_65 (fun v21 => ?_)
      exact j_lretX C E ⟨Nat.zero_le _, Nat.zero_le _⟩ dX8_row_68
    · exact j_throwAI C E (big_mem 831 (by decide +kernel) (by decide +kernel)) (big_mem 54 (by decide +kernel) (by decide +kernel)) E.2.2.2.2.1.2.1.1 ai8_hi ai8_hg ai8_ot dX8_row_52 dX8_row_55 dX8_row_56 dX8_row_58 dX8_row_61 ⟨Nat.le_of_ble_eq_true rfl, Nat.le_of_ble_eq_true rfl, Nat.le_of_ble_eq_true rfl, Nat.le_of_ble_eq_true rfl⟩ (Nat.le_of_ble_eq_true rfl) ⟨Nat.le_of_ble_eq_true rfl, Nat.le_of_ble_eq_true rfl⟩
theorem c_X8_row {l : Launch} (hl : l.stackTraces = false) {D : va_G} {cy : Nat → ClassId} {Λ : sLay} {S : sSt} (p0 : Nat) (tp0 : isK Λ 8 p0) (p1 : Int32) (p2 : Int32) {r : ((String ⊕ Int64) × sSt)} (h : F_X8_row Λ.2.2 S p0 p1 p2 = some r) : jMx l yX8_row (Cond.code yX8_row cX8_row 5 (some .long) :: bigW) rm_X8_row D cy Λ S [vR (some p0), vI p1, vI p2] rJ r := jMx_of (by decide +kernel) (Nat.le_of_ble_eq_true rfl) hl (fun X C E => j_sub [0, 1, 2] rfl (jF_X8_row C E p0 tp0 p1 p2)) h
abbrev rm_X8_kept : Room := { frames := 7, cells := 1, slots := 8, locals := 110 }
def F_X8_kept (N : Nat → Nat) (S : sSt) (p0 : Nat) (p1 : Int32) (p2 : Int32) : Option ((String ⊕ Int64) × sSt) := bnd (gFR S 320 p0) (fun x1 => Option.bind x1 (fun a2 => Option.bind (F_X7_at N S a2 p1) (fun v3 => onl v3 (some (Sum.inr (0 : Int64), S)) (fun a5 => (if (gFI S 250 a5) = 0 then some (Sum.inl npN, S) else bnd (gFR S 243 a5) (fun x6 => Option.bind x6 (fun a7 => Option.bind (F_X3_length N S a7) (fun v8 => Option.bind (F_X8_isBelow N S p2 v8) (fun v10 => (if v10 = 0 then some (Sum.inl aiN, S) else bnd (gFR S 243 a5) (fun x12 => Option.bind x12 (fun a13 => Option.bind (F_X3_at N S a13 p2) (fun v14 => some (Sum.inr v14, S))))))))))))))
set_option maxHeartbeats 4000000 in
theorem jF_X8_kept {X : jX} (C : jC X cX8_kept 4 RX8 rm_X8_kept) {Λ : sLay} {S : sSt} {r : ((String ⊕ Int64) × sSt)} (E : jEx X (some .long) rJ Λ r) (p0 : Nat) (tp0 : isK Λ 8 p0) (p1 : Int32) (p2 : Int32) : J X 4 0 0 0 [(0, vR (some p0)), (1, vI p1), (2, vI p2)] [] Λ S (F_X8_kept Λ.2.2 S p0 p1 p2 = some r) := by
  unfold F_X8_kept
  refine j_aload_n C dX8_kept_0 0 rfl ?_
  refine j_getR C kK8 f320 kfX8_12 (by decide) rfl tp0 dX8_kept_1 (fun x1 tx1 => ?_)
  refine j_iload_n C dX8_kept_4 1 rfl ?_
  refine j_oc tx1 (fun a2 ta2 ea2 => ?_)
  subst ea2
  refine j_cVRP C [vI p1] [] (fun _ e => c_X7_at a2 ta2 p1 e) kYX7_at kVX7_at kmX8_50 kO7 ta2 rfl rfl ⟨rfl, rfl, by decide, by decide⟩ (Nat.le_of_ble_eq_true rfl) ⟨Nat.zero_le _, Nat.zero_le _⟩ dX8_kept_5 (fun v3 tv3 => ?_)
  refine j_astore_n C (L' := [(3, vR v3), (0, vR (some p0)), (1, vI p1), (2, vI p2)]) dX8_kept_8 (by decide) rfl ?_
  refine j_aload_n C dX8_kept_9 0 rfl ?_
  refine j_ifnonnull C (tgt := 15) tv3 dX8_kept_10 (by decide) (fun ea5 => ?_) (fun a5 ta5 ea5 => ?_)
  · subst ea5
    refine j_lconst C (v := (0 : Int64)) dX8_kept_13 (by decide) ?_
    exact j_lretX C E ⟨Nat.zero_le _, Nat.zero_le _⟩ dX8_kept_14
  · subst ea5
    refine j_aload_n C dX8_kept_15 0 rfl ?_
    refine j_getI C kK6 f250 kfX8_184 (by decide) ta5 dX8_kept_16 ?_
    refine j_if_ne C (tgt := 32) dX8_kept_19 (by decide) ?_ ?_
    · refine j_iload_n C dX8_kept_32 3 rfl ?_
      refine j_aload_n C dX8_kept_33 0 rfl ?_
      refine j_getR C kK6 f243 kfX8_192 (by decide) rfl ta5 dX8_kept_34 (fun x6 tx6 => ?_)
      refine j_oc tx6 (fun a7 ta7 ea7 => ?_)
      subst ea7
      refine j_cVIP C [] [vI p2] (fun _ e => c_X3_length a7 ta7 e) kYX3_length kVX3_length kmX8_171 kO3 ta7 rfl rfl ⟨rfl, rfl, by decide, by decide⟩ (Nat.le_of_ble_eq_true rfl) ⟨Nat.zero_le _, Nat.zero_le _⟩ dX8_kept_37 (fun v8 => ?_)
      refine j_cSIP C [vI p2, vI v8] [] (fun _ e => c_X8_isBelow p2 v8 e) kYX8_isBelow kSX8_isBelow kmX8_54 rfl rfl ⟨rfl, rfl, by decide, by decide⟩ (Nat.le_of_ble_eq_true rfl) ⟨Nat.zero_le _, Nat.zero_le _⟩ dX8_kept_40 (fun v10 => ?_)
      refine j_if_ne C (tgt := 56) dX8_kept_43 (by decide) ?_ ?_
      · refine j_aload_n C dX8_kept_56 0 rfl ?_
        refine j_getR C kK6 f243 kfX8_192 (by decide) rfl ta5 dX8_kept_57 (fun x12 tx12 => ?_)
        refine j_iload_n C dX8_kept_60 3 rfl ?_
        refine j_oc tx12 (fun a13 ta13 ea13 => ?_)
        subst ea13
        refine j_cVJP C [vI p2] [] (fun _ e => c_X3_at a13 ta13 p2 e) kYX3_at kVX3_at kmX8_181 kO3 ta13 rfl rfl ⟨rfl, rfl, by decide, by decide⟩ (Nat.le_of_ble_eq_true rfl) ⟨Nat.zero_le _, Nat.zero_le _⟩ dX8_kept_61 (fun v14 => ?_)
        exact j_lretX C E ⟨Nat.zero_le _, Nat.zero_le _⟩ dX8_kept_64
      · exact j_throwAI C E (big_mem 831 (by decide +kernel) (by decide +kernel)) (big_mem 54 (by decide +kernel) (by decide +kernel)) E.2.2.2.2.1.2.1.2.1 ai8_hi ai8_hg ai8_ot dX8_kept_46 dX8_kept_49 dX8_kept_50 dX8_kept_52 dX8_kept_55 ⟨Nat.le_of_ble_eq_true rfl, Nat.le_of_ble_eq_true rfl, Nat.le_of_ble_eq_true rfl, Nat.le_of_ble_eq_true rfl⟩ (Nat.le_of_ble_eq_true rfl) ⟨Nat.le_of_ble_eq_true rfl, Nat.le_of_ble_eq_true rfl⟩
    · exact j_throwNP C E (big_mem 867 (by decide +kernel) (by decide +kernel)) (big_mem 56 (by decide +kernel) (by decide +kernel)) E.2.2.2.2.1.2.1.2.2.2 np8_hi np8_hg np8_ot dX8_kept_22 dX8_kept_25 dX8_kept_26 dX8_kept_28 dX8_kept_31 ⟨Nat.le_of_ble_eq_true rfl, Nat.le_of_ble_eq_true rfl, Nat.le_of_ble_eq_true rfl, Nat.le_of_ble_eq_true rfl⟩ (Nat.le_of_ble_eq_true rfl) ⟨Nat.le_of_ble_eq_true rfl, Nat.le_of_ble_eq_true rfl⟩
theorem c_X8_kept {l : Launch} (hl : l.stackTraces = false) {D : va_G} {cy : Nat → ClassId} {Λ : sLay} {S : sSt} (p0 : Nat) (tp0 : isK Λ 8 p0) (p1 : Int32) (p2 : Int32) {r : ((String ⊕ Int64) × sSt)} (h : F_X8_kept Λ.2.2 S p0 p1 p2 = some r) : jMx l yX8_kept (Cond.code yX8_kept cX8_kept 4 (some .long) :: bigW) rm_X8_kept D cy Λ S [vR (some p0), vI p1, vI p2] rJ r := jMx_of (by decide +kernel) (Nat.le_of_ble_eq_true rfl) hl (fun X C E => j_sub [0, 1, 2] rfl (jF_X8_kept C E p0 tp0 p1 p2)) h
abbrev rm_X8_order : Room := { frames := 7, cells := 1, slots := 8, locals := 119 }
def F_X8_order (N : Nat → Nat) (S : sSt) (p0 : Nat) (p1 : Int32) : Option ((String ⊕ Int32) × sSt) := bnd (gFR S 323 p0) (fun x1 => bnd (gFR S 320 p0) (fun x2 => Option.bind x1 (fun a3 => Option.bind (F_X2_arrange N S a3 x2) (fun S5 => bnd (gFR S5 323 p0) (fun x6 => Option.bind x6 (fun a7 => bnd (gFR S5 82 a7) (fun x8 => Option.bind x8 (fun a9 => Option.bind (F_X1_length N S5 a9) (fun v10 => Option.bind (F_X8_isBelow N S5 p1 v10) (fun v12 => (if v12 = 0 then some (Sum.inl aiN, S5) else bnd (gFR S5 323 p0) (fun x14 => Option.bind x14 (fun a15 => bnd (gFR S5 82 a15) (fun x16 => Option.bind x16 (fun a17 => Option.bind (F_X1_at N S5 a17 p1) (fun v18 => some (Sum.inr v18, S5)))))))))))))))))
set_option maxHeartbeats 4000000 in
theorem jF_X8_order {X : jX} (C : jC X cX8_order 2 RX8 rm_X8_order) {Λ : sLay} {S : sSt} {r : ((String ⊕ Int32) × sSt)} (E : jEx X (some .int) rI Λ r) (p0 : Nat) (tp0 : isK Λ 8 p0) (p1 : Int32) : J X 2 0 0 0 [(0, vR (some p0)), (1, vI p1)] [] Λ S (F_X8_order Λ.2.2 S p0 p1 = some r) := by
  unfold F_X8_order
  refine j_aload_n C dX8_order_0 0 rfl ?_
  refine j_getR C kK8 f323 kfX8_33 (by decide) rfl tp0 dX8_order_1 (fun x1 tx1 => ?_)
  refine j_aload_n C dX8_order_4 0 rfl ?_
  refine j_getR C kK8 f320 kfX8_12 (by decide) rfl tp0 dX8_order_5 (fun x2 tx2 => ?_)
  refine j_oc tx1 (fun a3 ta3 ea3 => ?_)
  subst ea3
  refine j_cVVV C [vR x2] [] (fun _ e => c_X2_arrange a3 ta3 x2 tx2 e) kYX2_arrange kVX2_arrange kmX8_202 kO2 ta3 rfl rfl ⟨rfl, rfl, by decide, by decide⟩ (Nat.le_of_ble_eq_true rfl) ⟨Nat.zero_le _, Nat.zero_le _⟩ dX8_order_8 (fun S5 => ?_)
  refine j_iload_n C dX8_order_11 1 rfl ?_
  refine j_aload_n C dX8_order_12 0 rfl ?_
  refine j_getR C kK8 f323 kfX8_33 (by decide) rfl tp0 dX8_order_13 (fun x6 tx6 => ?_)
  refine j_oc tx6 (fun a7 ta7 ea7 => ?_)
  subst ea7
  refine j_getR C kK2 f82 kfX8_205 (by decide) rfl ta7 dX8_order_16 (fun x8 tx8 => ?_)
  refine j_oc tx8 (fun a9 ta9 ea9 => ?_)
  subst ea9
  refine j_cVIP C [] [vI p1] (fun _ e => c_X1_length a9 ta9 e) kYX1_length kVX1_length kmX8_99 kO1 ta9 rfl rfl ⟨rfl, rfl, by decide, by decide⟩ (Nat.le_of_ble_eq_true rfl) ⟨Nat.zero_le _, Nat.zero_le _⟩ dX8_order_19 (fun v10 => ?_)
  refine j_cSIP C [vI p1, vI v10] [] (fun _ e => c_X8_isBelow p1 v10 e) kYX8_isBelow kSX8_isBelow kmX8_54 rfl rfl ⟨rfl, rfl, by decide, by decide⟩ (Nat.le_of_ble_eq_true rfl) ⟨Nat.zero_le _, Nat.zero_le _⟩ dX8_order_22 (fun v12 => ?_)
  refine j_if_ne C (tgt := 38) dX8_order_25 (by decide) ?_ ?_
  · refine j_aload_n C dX8_order_38 0 rfl ?_
    refine j_getR C kK8 f323 kfX8_33 (by decide) rfl tp0 dX8_order_39 (fun x14 tx14 => ?_)
    refine j_oc tx14 (fun a15 ta15 ea15 => ?_)
    subst ea15
    refine j_getR C kK2 f82 kfX8_205 (by decide) rfl ta15 dX8_order_42 (fun x16 tx16 => ?_)
    refine j_iload_n C dX8_order_45 1 rfl ?_
    refine j_oc tx16 (fun a17 ta17 ea17 => ?_)
    subst ea17
    refine j_cVIP C [vI p1] [] (fun _ e => c_X1_at a17 ta17 p1 e) kYX1_at kVX1_at kmX8_208 kO1 ta17 rfl rfl ⟨rfl, rfl, by decide, by decide⟩ (Nat.le_of_ble_eq_true rfl) ⟨Nat.zero_le _, Nat.zero_le _⟩ dX8_order_46 (fun v18 => ?_)
    exact j_iretX C E ⟨Nat.zero_le _, Nat.zero_le _⟩ dX8_order_49
  · exact j_throwAI C E (big_mem 831 (by decide +kernel) (by decide +kernel)) (big_mem 54 (by decide +kernel) (by decide +kernel)) E.2.2.2.2.1.2.1.2.2.1 ai8_hi ai8_hg ai8_ot dX8_order_28 dX8_order_31 dX8_order_32 dX8_order_34 dX8_order_37 ⟨Nat.le_of_ble_eq_true rfl, Nat.le_of_ble_eq_true rfl, Nat.le_of_ble_eq_true rfl, Nat.le_of_ble_eq_true rfl⟩ (Nat.le_of_ble_eq_true rfl) ⟨Nat.le_of_ble_eq_true rfl, Nat.le_of_ble_eq_true rfl⟩
theorem c_X8_order {l : Launch} (hl : l.stackTraces = false) {D : va_G} {cy : Nat → ClassId} {Λ : sLay} {S : sSt} (p0 : Nat) (tp0 : isK Λ 8 p0) (p1 : Int32) {r : ((String ⊕ Int32) × sSt)} (h : F_X8_order Λ.2.2 S p0 p1 = some r) : jMx l yX8_order (Cond.code yX8_order cX8_order 2 (some .int) :: bigW) rm_X8_order D cy Λ S [vR (some p0), vI p1] rI r := jMx_of (by decide +kernel) (Nat.le_of_ble_eq_true rfl) hl (fun X C E => j_sub [0, 1] rfl (jF_X8_order C E p0 tp0 p1)) h
