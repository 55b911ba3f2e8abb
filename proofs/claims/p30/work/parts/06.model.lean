/-! RemakeNeeds2Model.thingOf(II)I -/
abbrev rm_X9_thingOf : Room := { frames := 0, cells := 0, slots := 0, locals := 0 }
def Y_X9_thingOf_5 (N : Nat → Nat) (S : sSt) (rec : Nat → Int32 → Int32 → Int32 → Option Int32) (p0 : Nat) (p1 : Int32) (p2 : Int32) (p3 : Int32) : Option Int32 := bnd (gFR S 363 p0) (fun x1 => Option.bind x1 (fun a2 => gi p1 (N a2) ((if (((10 : Int32) * p1) + (gAI S a2 (Int32.toNatClampNeg p1))) ≤ p3 then some (-5 : Int32) else bnd (gFR S 364 p0) (fun x3 => Option.bind x3 (fun a4 => gi p3 (N a4) ((if (gAI S a4 (Int32.toNatClampNeg p3)) = p2 then some p3 else rec p0 p1 p2 (p3 + (1 : Int32))))))))))
set_option maxHeartbeats 4000000 in
theorem jY_X9_thingOf_5 {X : jX} (C : jC X cX9_thingOf 4 RX9 rm_X9_thingOf) {Λ : sLay} {S : sSt} {r : Int32} (E : jE X (some .int) rI Λ (r, S)) (rec : Nat → Int32 → Int32 → Int32 → Option Int32) (hrec : ∀ (p0 : Nat) (tp0 : isK Λ 9 p0) (p1 : Int32) (p2 : Int32) (p3 : Int32), J X 4 0 0 5 [(0, vR (some p0)), (1, vI p1), (2, vI p2), (3, vI p3)] [] Λ S (rec p0 p1 p2 p3 = some r)) : ∀ (p0 : Nat) (tp0 : isK Λ 9 p0) (p1 : Int32) (p2 : Int32) (p3 : Int32), J X 4 0 0 5 [(0, vR (some p0)), (1, vI p1), (2, vI p2), (3, vI p3)] [] Λ S (Y_X9_thingOf_5 Λ.2.2 S rec p0 p1 p2 p3 = some r) := by
  intro p0 tp0 p1 p2 p3
  unfold Y_X9_thingOf_5
  refine j_iload_n C dX9_thingOf_5 3 rfl ?_
  refine j_bipush C (v := (10 : Int32)) dX9_thingOf_6 (by decide) ?_
  refine j_iload_n C dX9_thingOf_8 1 rfl ?_
  refine j_imul C dX9_thingOf_9 ?_
  refine j_aload_n C dX9_thingOf_10 0 rfl ?_
  refine j_getR C kK9 f363 kfX9_13 (by decide) rfl tp0 dX9_thingOf_11 (fun x1 tx1 => ?_)
  refine j_iload_n C dX9_thingOf_14 1 rfl ?_
  refine j_oc tx1 (fun a2 ta2 ea2 => ?_)
  subst ea2
  refine j_iald C ta2 dX9_thingOf_15 ?_
  refine j_iadd C dX9_thingOf_16 ?_
  refine j_icmp_ge C (tgt := 38) dX9_thingOf_17 (by decide) ?_ ?_
  · refine j_bipush C (v := (-5 : Int32)) dX9_thingOf_38 (by decide) ?_
    exact j_iretP C E dX9_thingOf_40
  · refine j_aload_n C dX9_thingOf_20 0 rfl ?_
    refine j_getR C kK9 f364 kfX9_17 (by decide) rfl tp0 dX9_thingOf_21 (fun x3 tx3 => ?_)
    refine j_iload_n C dX9_thingOf_24 3 rfl ?_
    refine j_oc tx3 (fun a4 ta4 ea4 => ?_)
    subst ea4
    refine j_iald C ta4 dX9_thingOf_25 ?_
    refine j_iload_n C dX9_thingOf_26 2 rfl ?_
    refine j_icmp_ne C (tgt := 32) dX9_thingOf_27 (by decide) ?_ ?_
    · refine j_iinc C (v := (1 : Int32)) (L' := [(3, vI (p3 + (1 : Int32))), (0, vR (some p0)), (1, vI p1), (2, vI p2)]) dX9_thingOf_32 3 rfl (by decide) (by decide) rfl ?_
      refine j_goto C (tgt := 5) dX9_thingOf_35 (by decide) ?_
      refine j_sub (L' := [(0, vR (some p0)), (1, vI p1), (2, vI p2), (3, vI (p3 + (1 : Int32)))]) [1, 2, 3, 0] rfl ?_
      exact hrec p0 tp0 p1 p2 (p3 + (1 : Int32))
    · refine j_iload_n C dX9_thingOf_30 3 rfl ?_
      exact j_iretP C E dX9_thingOf_31
def L_X9_thingOf_5 (N : Nat → Nat) (S : sSt) (n : Nat) : Nat → Int32 → Int32 → Int32 → Option Int32 := iter (fun _ _ _ _ => none) (Y_X9_thingOf_5 N S) n
theorem jL_X9_thingOf_5 {X : jX} (C : jC X cX9_thingOf 4 RX9 rm_X9_thingOf) {Λ : sLay} {S : sSt} {r : Int32} (E : jE X (some .int) rI Λ (r, S)) : ∀ (n : Nat) (p0 : Nat) (tp0 : isK Λ 9 p0) (p1 : Int32) (p2 : Int32) (p3 : Int32), J X 4 0 0 5 [(0, vR (some p0)), (1, vI p1), (2, vI p2), (3, vI p3)] [] Λ S (L_X9_thingOf_5 Λ.2.2 S n p0 p1 p2 p3 = some r) := by
  intro n
  induction n with
  | zero => intro p0 tp0 p1 p2 p3; exact j_no (fun h => by have h2 : (none : Option Int32) = some r := h; cases h2)
  | succ n ih => intro p0 tp0 p1 p2 p3; exact jY_X9_thingOf_5 C E (L_X9_thingOf_5 Λ.2.2 S n) ih p0 tp0 p1 p2 p3
def F_X9_thingOf (N : Nat → Nat) (S : sSt) (p0 : Nat) (p1 : Int32) (p2 : Int32) : Option Int32 := L_X9_thingOf_5 N S FU p0 p1 p2 ((10 : Int32) * p1)
set_option maxHeartbeats 4000000 in
theorem jF_X9_thingOf {X : jX} (C : jC X cX9_thingOf 4 RX9 rm_X9_thingOf) {Λ : sLay} {S : sSt} {r : Int32} (E : jE X (some .int) rI Λ (r, S)) (p0 : Nat) (tp0 : isK Λ 9 p0) (p1 : Int32) (p2 : Int32) : J X 4 0 0 0 [(0, vR (some p0)), (1, vI p1), (2, vI p2)] [] Λ S (F_X9_thingOf Λ.2.2 S p0 p1 p2 = some r) := by
  unfold F_X9_thingOf
  refine j_bipush C (v := (10 : Int32)) dX9_thingOf_0 (by decide) ?_
  refine j_iload_n C dX9_thingOf_2 1 rfl ?_
  refine j_imul C dX9_thingOf_3 ?_
  refine j_istore_n C (L' := [(3, vI ((10 : Int32) * p1)), (0, vR (some p0)), (1, vI p1), (2, vI p2)]) dX9_thingOf_4 (by decide) rfl ?_
  refine j_sub (L' := [(0, vR (some p0)), (1, vI p1), (2, vI p2), (3, vI ((10 : Int32) * p1))]) [1, 2, 3, 0] rfl ?_
  exact jL_X9_thingOf_5 C E FU p0 tp0 p1 p2 ((10 : Int32) * p1)
theorem c_X9_thingOf {l : Launch} {D : va_G} {cy : Nat → ClassId} {Λ : sLay} {S : sSt} (p0 : Nat) (tp0 : isK Λ 9 p0) (p1 : Int32) (p2 : Int32) {r : Int32} (h : F_X9_thingOf Λ.2.2 S p0 p1 p2 = some r) : jM l yX9_thingOf (Cond.code yX9_thingOf cX9_thingOf 4 (some .int) :: bigW) rm_X9_thingOf D cy Λ S [vR (some p0), vI p1, vI p2] rI (r, S) := jM_of (by decide +kernel) (Nat.le_of_ble_eq_true rfl) (fun X C E _ _ _ => j_sub [0, 1, 2] rfl (jF_X9_thingOf C E p0 tp0 p1 p2)) h
/-! RemakeNeeds2Model.find(II)I -/
abbrev rm_X9_find : Room := { frames := 1, cells := 0, slots := 0, locals := 23 }
def B_X9_find_70 (N : Nat → Nat) (S : sSt) (k10 : Nat → Int32 → Int32 → Int32 → Int32 → Option Int32) (p0 : Nat) (p1 : Int32) (p2 : Int32) (p4 : Int32) (s0 : Int32) : Option Int32 := k10 p0 p1 p2 s0 (p4 + (1 : Int32))
set_option maxHeartbeats 4000000 in
theorem jB_X9_find_70 {X : jX} (C : jC X cX9_find 6 RX9 rm_X9_find) {Λ : sLay} {S : sSt} {r : Int32} (E : jE X (some .int) rI Λ (r, S)) (k10 : Nat → Int32 → Int32 → Int32 → Int32 → Option Int32) (hk10 : ∀ (p0 : Nat) (tp0 : isK Λ 9 p0) (p1 : Int32) (p2 : Int32) (p3 : Int32) (p4 : Int32), J X 6 0 0 10 [(0, vR (some p0)), (1, vI p1), (2, vI p2), (3, vI p3), (4, vI p4)] [] Λ S (k10 p0 p1 p2 p3 p4 = some r)) : ∀ (p0 : Nat) (tp0 : isK Λ 9 p0) (p1 : Int32) (p2 : Int32) (p4 : Int32) (s0 : Int32), J X 6 0 0 70 [(0, vR (some p0)), (1, vI p1), (2, vI p2), (4, vI p4)] [vI s0] Λ S (B_X9_find_70 Λ.2.2 S k10 p0 p1 p2 p4 s0 = some r) := by
  intro p0 tp0 p1 p2 p4 s0
  unfold B_X9_find_70
  refine j_istore_n C (L' := [(3, vI s0), (0, vR (some p0)), (1, vI p1), (2, vI p2), (4, vI p4)]) dX9_find_70 (by decide) rfl ?_
  refine j_iinc C (v := (1 : Int32)) (L' := [(4, vI (p4 + (1 : Int32))), (3, vI s0), (0, vR (some p0)), (1, vI p1), (2, vI p2)]) dX9_find_71 4 rfl (by decide) (by decide) rfl ?_
  refine j_goto C (tgt := 10) dX9_find_74 (by decide) ?_
  refine j_sub (L' := [(0, vR (some p0)), (1, vI p1), (2, vI p2), (3, vI s0), (4, vI (p4 + (1 : Int32)))]) [2, 3, 4, 1, 0] rfl ?_
  exact hk10 p0 tp0 p1 p2 s0 (p4 + (1 : Int32))
def B_X9_find_68 (N : Nat → Nat) (S : sSt) (k10 : Nat → Int32 → Int32 → Int32 → Int32 → Option Int32) (p0 : Nat) (p1 : Int32) (p2 : Int32) (p4 : Int32) : Option Int32 := B_X9_find_70 N S k10 p0 p1 p2 p4 (-5 : Int32)
set_option maxHeartbeats 4000000 in
theorem jB_X9_find_68 {X : jX} (C : jC X cX9_find 6 RX9 rm_X9_find) {Λ : sLay} {S : sSt} {r : Int32} (E : jE X (some .int) rI Λ (r, S)) (k10 : Nat → Int32 → Int32 → Int32 → Int32 → Option Int32) (hk10 : ∀ (p0 : Nat) (tp0 : isK Λ 9 p0) (p1 : Int32) (p2 : Int32) (p3 : Int32) (p4 : Int32), J X 6 0 0 10 [(0, vR (some p0)), (1, vI p1), (2, vI p2), (3, vI p3), (4, vI p4)] [] Λ S (k10 p0 p1 p2 p3 p4 = some r)) : ∀ (p0 : Nat) (tp0 : isK Λ 9 p0) (p1 : Int32) (p2 : Int32) (p4 : Int32), J X 6 0 0 68 [(0, vR (some p0)), (1, vI p1), (2, vI p2), (4, vI p4)] [] Λ S (B_X9_find_68 Λ.2.2 S k10 p0 p1 p2 p4 = some r) := by
  intro p0 tp0 p1 p2 p4
  unfold B_X9_find_68
  refine j_bipush C (v := (-5 : Int32)) dX9_find_68 (by decide) ?_
  exact jB_X9_find_70 C E k10 hk10 p0 tp0 p1 p2 p4 (-5 : Int32)
def Y_X9_find_10 (N : Nat → Nat) (S : sSt) (rec : Nat → Int32 → Int32 → Int32 → Int32 → Option Int32) (p0 : Nat) (p1 : Int32) (p2 : Int32) (p3 : Int32) (p4 : Int32) : Option Int32 := bnd (gFR S 369 p0) (fun x3 => Option.bind x3 (fun a4 => gi p1 (N a4) ((if (gAI S a4 (Int32.toNatClampNeg p1)) ≤ p4 then some p3 else (if p3 = (-5 : Int32) then bnd (gFR S 370 p0) (fun x5 => Option.bind x5 (fun a6 => gi (((6 : Int32) * p1) + p4) (N a6) (Option.bind (F_X9_thingOf N S p0 (gAI S a6 (Int32.toNatClampNeg (((6 : Int32) * p1) + p4))) p2) (fun v7 => (if v7 = (-5 : Int32) then B_X9_find_68 N S rec p0 p1 p2 p4 else bnd (gFR S 366 p0) (fun x9 => Option.bind x9 (fun a10 => gi v7 (N a10) ((if (gAI S a10 (Int32.toNatClampNeg v7)) = 0 then B_X9_find_70 N S rec p0 p1 p2 p4 v7 else B_X9_find_68 N S rec p0 p1 p2 p4))))))))) else some p3)))))
set_option maxHeartbeats 4000000 in
theorem jY_X9_find_10 {X : jX} (C : jC X cX9_find 6 RX9 rm_X9_find) {Λ : sLay} {S : sSt} {r : Int32} (E : jE X (some .int) rI Λ (r, S)) (rec : Nat → Int32 → Int32 → Int32 → Int32 → Option Int32) (hrec : ∀ (p0 : Nat) (tp0 : isK Λ 9 p0) (p1 : Int32) (p2 : Int32) (p3 : Int32) (p4 : Int32), J X 6 0 0 10 [(0, vR (some p0)), (1, vI p1), (2, vI p2), (3, vI p3), (4, vI p4)] [] Λ S (rec p0 p1 p2 p3 p4 = some r)) : ∀ (p0 : Nat) (tp0 : isK Λ 9 p0) (p1 : Int32) (p2 : Int32) (p3 : Int32) (p4 : Int32), J X 6 0 0 10 [(0, vR (some p0)), (1, vI p1), (2, vI p2), (3, vI p3), (4, vI p4)] [] Λ S (Y_X9_find_10 Λ.2.2 S rec p0 p1 p2 p3 p4 = some r) := by
  intro p0 tp0 p1 p2 p3 p4
  unfold Y_X9_find_10
  refine j_iload C dX9_find_10 4 rfl ?_
  refine j_aload_n C dX9_find_12 0 rfl ?_
  refine j_getR C kK9 f369 kfX9_33 (by decide) rfl tp0 dX9_find_13 (fun x3 tx3 => ?_)
  refine j_iload_n C dX9_find_16 1 rfl ?_
  refine j_oc tx3 (fun a4 ta4 ea4 => ?_)
  subst ea4
  refine j_iald C ta4 dX9_find_17 ?_
  refine j_icmp_ge C (tgt := 77) dX9_find_18 (by decide) ?_ ?_
  · refine j_iload_n C dX9_find_77 3 rfl ?_
    exact j_iretP C E dX9_find_78
  · refine j_iload_n C dX9_find_21 3 rfl ?_
    refine j_bipush C (v := (-5 : Int32)) dX9_find_22 (by decide) ?_
    refine j_icmp_ne C (tgt := 77) dX9_find_24 (by decide) ?_ ?_
    · refine j_iload_n C dX9_find_77 3 rfl ?_
      exact j_iretP C E dX9_find_78
    · refine j_aload_n C dX9_find_27 0 rfl ?_
      refine j_aload_n C dX9_find_28 0 rfl ?_
      refine j_getR C kK9 f370 kfX9_36 (by decide) rfl tp0 dX9_find_29 (fun x5 tx5 => ?_)
      refine j_bipush C (v := (6 : Int32)) dX9_find_32 (by decide) ?_
      refine j_iload_n C dX9_find_34 1 rfl ?_
      refine j_imul C dX9_find_35 ?_
      refine j_iload C dX9_find_36 4 rfl ?_
      refine j_iadd C dX9_find_38 ?_
      refine j_oc tx5 (fun a6 ta6 ea6 => ?_)
      subst ea6
      refine j_iald C ta6 dX9_find_39 ?_
      refine j_iload_n C dX9_find_40 2 rfl ?_
      refine j_cVIP C [vI (gAI S a6 (Int32.toNatClampNeg (((6 : Int32) * p1) + p4))), vI p2] [] (fun _ e => c_X9_thingOf p0 tp0 (gAI S a6 (Int32.toNatClampNeg (((6 : Int32) * p1) + p4))) p2 e) kYX9_thingOf kVX9_thingOf kmX9_117 kO9 tp0 rfl rfl ⟨rfl, rfl, by decide, by decide⟩ (Nat.le_of_ble_eq_true rfl) ⟨Nat.zero_le _, Nat.zero_le _⟩ dX9_find_41 (fun v7 => ?_)
      refine j_istore C (L' := [(5, vI v7), (0, vR (some p0)), (1, vI p1), (2, vI p2), (3, vI p3), (4, vI p4)]) dX9_find_44 (by decide) rfl ?_
      refine j_iload C dX9_find_46 0 rfl ?_
      refine j_bipush C (v := (-5 : Int32)) dX9_find_48 (by decide) ?_
      refine j_icmp_eq C (tgt := 68) dX9_find_50 (by decide) ?_ ?_
      · refine j_sub (L' := [(0, vR (some p0)), (1, vI p1), (2, vI p2), (4, vI p4)]) [1, 2, 3, 5] rfl ?_
        exact jB_X9_find_68 C E rec hrec p0 tp0 p1 p2 p4
      · refine j_aload_n C dX9_find_53 1 rfl ?_
        refine j_getR C kK9 f366 kfX9_24 (by decide) rfl tp0 dX9_find_54 (fun x9 tx9 => ?_)
        refine j_iload C dX9_find_57 0 rfl ?_
        refine j_oc tx9 (fun a10 ta10 ea10 => ?_)
        subst ea10
        refine j_zald C ta10 dX9_find_59 ?_
        refine j_if_ne C (tgt := 68) dX9_find_60 (by decide) ?_ ?_
        · refine j_sub (L' := [(0, vR (some p0)), (1, vI p1), (2, vI p2), (4, vI p4)]) [1, 2, 3, 5] rfl ?_
          exact jB_X9_find_68 C E rec hrec p0 tp0 p1 p2 p4
        · refine j_iload C dX9_find_63 0 rfl ?_
          refine j_goto C (tgt := 70) dX9_find_65 (by decide) ?_
          refine j_sub (L' := [(0, vR (some p0)), (1, vI p1), (2, vI p2), (4, vI p4)]) [1, 2, 3, 5] rfl ?_
          exact jB_X9_find_70 C E rec hrec p0 tp0 p1 p2 p4 v7
def L_X9_find_10 (N : Nat → Nat) (S : sSt) (n : Nat) : Nat → Int32 → Int32 → Int32 → Int32 → Option Int32 := iter (fun _ _ _ _ _ => none) (Y_X9_find_10 N S) n
theorem jL_X9_find_10 {X : jX} (C : jC X cX9_find 6 RX9 rm_X9_find) {Λ : sLay} {S : sSt} {r : Int32} (E : jE X (some .int) rI Λ (r, S)) : ∀ (n : Nat) (p0 : Nat) (tp0 : isK Λ 9 p0) (p1 : Int32) (p2 : Int32) (p3 : Int32) (p4 : Int32), J X 6 0 0 10 [(0, vR (some p0)), (1, vI p1), (2, vI p2), (3, vI p3), (4, vI p4)] [] Λ S (L_X9_find_10 Λ.2.2 S n p0 p1 p2 p3 p4 = some r) := by
  intro n
  induction n with
  | zero => intro p0 tp0 p1 p2 p3 p4; exact j_no (fun h => by have h2 : (none : Option Int32) = some r := h; cases h2)
  | succ n ih => intro p0 tp0 p1 p2 p3 p4; exact jY_X9_find_10 C E (L_X9_find_10 Λ.2.2 S n) ih p0 tp0 p1 p2 p3 p4
def F_X9_find (N : Nat → Nat) (S : sSt) (p0 : Nat) (p1 : Int32) (p2 : Int32) : Option Int32 := Option.bind (F_X9_thingOf N S p0 p1 p2) (fun v1 => L_X9_find_10 N S FU p0 p1 p2 v1 (0 : Int32))
set_option maxHeartbeats 4000000 in
theorem jF_X9_find {X : jX} (C : jC X cX9_find 6 RX9 rm_X9_find) {Λ : sLay} {S : sSt} {r : Int32} (E : jE X (some .int) rI Λ (r, S)) (p0 : Nat) (tp0 : isK Λ 9 p0) (p1 : Int32) (p2 : Int32) : J X 6 0 0 0 [(0, vR (some p0)), (1, vI p1), (2, vI p2)] [] Λ S (F_X9_find Λ.2.2 S p0 p1 p2 = some r) := by
  unfold F_X9_find
  refine j_aload_n C dX9_find_0 0 rfl ?_
  refine j_iload_n C dX9_find_1 1 rfl ?_
  refine j_iload_n C dX9_find_2 2 rfl ?_
  refine j_cVIP C [vI p1, vI p2] [] (fun _ e => c_X9_thingOf p0 tp0 p1 p2 e) kYX9_thingOf kVX9_thingOf kmX9_117 kO9 tp0 rfl rfl ⟨rfl, rfl, by decide, by decide⟩ (Nat.le_of_ble_eq_true rfl) ⟨Nat.zero_le _, Nat.zero_le _⟩ dX9_find_3 (fun v1 => ?_)
  refine j_istore_n C (L' := [(3, vI v1), (0, vR (some p0)), (1, vI p1), (2, vI p2)]) dX9_find_6 (by decide) rfl ?_
  refine j_iconst C (v := (0 : Int32)) dX9_find_7 (by decide) ?_
  refine j_istore C (L' := [(4, vI (0 : Int32)), (3, vI v1), (0, vR (some p0)), (1, vI p1), (2, vI p2)]) dX9_find_8 (by decide) rfl ?_
  refine j_sub (L' := [(0, vR (some p0)), (1, vI p1), (2, vI p2), (3, vI v1), (4, vI (0 : Int32))]) [2, 3, 4, 1, 0] rfl ?_
  exact jL_X9_find_10 C E FU p0 tp0 p1 p2 v1 (0 : Int32)
theorem c_X9_find {l : Launch} {D : va_G} {cy : Nat → ClassId} {Λ : sLay} {S : sSt} (p0 : Nat) (tp0 : isK Λ 9 p0) (p1 : Int32) (p2 : Int32) {r : Int32} (h : F_X9_find Λ.2.2 S p0 p1 p2 = some r) : jM l yX9_find (Cond.code yX9_find cX9_find 6 (some .int) :: bigW) rm_X9_find D cy Λ S [vR (some p0), vI p1, vI p2] rI (r, S) := jM_of (by decide +kernel) (Nat.le_of_ble_eq_true rfl) (fun X C E _ _ _ => j_sub [0, 1, 2] rfl (jF_X9_find C E p0 tp0 p1 p2)) h
/-! RemakeNeeds2Model.points(II)V -/
abbrev rm_X9_points : Room := { frames := 0, cells := 0, slots := 0, locals := 0 }
def F_X9_points (N : Nat → Nat) (S : sSt) (p0 : Nat) (p1 : Int32) (p2 : Int32) : Option sSt := (if p2 = (-5 : Int32) then some S else bnd (gFR S 390 p0) (fun x1 => Option.bind x1 (fun a2 => gi (((16 : Int32) * p1) + (p2 / (10 : Int32))) (N a2) (bnd (sAI S a2 (Int32.toNatClampNeg (((16 : Int32) * p1) + (p2 / (10 : Int32)))) ((1 : Int32) &&& 1)) (fun S3 => some S3)))))
set_option maxHeartbeats 4000000 in
theorem jF_X9_points {X : jX} (C : jC X cX9_points 3 RX9 rm_X9_points) {Λ : sLay} {S : sSt} {r : sSt} (E : jE X none rV Λ ((), r)) (p0 : Nat) (tp0 : isK Λ 9 p0) (p1 : Int32) (p2 : Int32) : J X 3 0 0 0 [(0, vR (some p0)), (1, vI p1), (2, vI p2)] [] Λ S (F_X9_points Λ.2.2 S p0 p1 p2 = some r) := by
  unfold F_X9_points
  refine j_iload_n C dX9_points_0 2 rfl ?_
  refine j_bipush C (v := (-5 : Int32)) dX9_points_1 (by decide) ?_
  refine j_icmp_eq C (tgt := 21) dX9_points_3 (by decide) ?_ ?_
  · exact j_vretP C E dX9_points_21
  · refine j_aload_n C dX9_points_6 0 rfl ?_
    refine j_getR C kK9 f390 kfX9_87 (by decide) rfl tp0 dX9_points_7 (fun x1 tx1 => ?_)
    refine j_bipush C (v := (16 : Int32)) dX9_points_10 (by decide) ?_
    refine j_iload_n C dX9_points_12 1 rfl ?_
    refine j_imul C dX9_points_13 ?_
    refine j_iload_n C dX9_points_14 2 rfl ?_
    refine j_bipush C (v := (10 : Int32)) dX9_points_15 (by decide) ?_
    refine j_idiv C dX9_points_17 (by decide) ?_
    refine j_iadd C dX9_points_18 ?_
    refine j_iconst C (v := (1 : Int32)) dX9_points_19 (by decide) ?_
    refine j_oc tx1 (fun a2 ta2 ea2 => ?_)
    subst ea2
    refine j_zast C ta2 dX9_points_20 (fun S3 => ?_)
    exact j_vretP C E dX9_points_21
theorem c_X9_points {l : Launch} {D : va_G} {cy : Nat → ClassId} {Λ : sLay} {S : sSt} (p0 : Nat) (tp0 : isK Λ 9 p0) (p1 : Int32) (p2 : Int32) {r : sSt} (h : F_X9_points Λ.2.2 S p0 p1 p2 = some r) : jM l yX9_points (Cond.code yX9_points cX9_points 3 none :: bigW) rm_X9_points D cy Λ S [vR (some p0), vI p1, vI p2] rV ((), r) := jM_of (by decide +kernel) (Nat.le_of_ble_eq_true rfl) (fun X C E _ _ _ => j_sub [0, 1, 2] rfl (jF_X9_points C E p0 tp0 p1 p2)) h
/-! RemakeNeeds2Model.findLeads()V -/
abbrev rm_X9_findLeads : Room := { frames := 2, cells := 0, slots := 0, locals := 48 }
def B_X9_findLeads_262 (N : Nat → Nat) (k183 : sSt → Nat → Int32 → Option sSt) (k191 : sSt → Nat → Int32 → Int32 → Option sSt) (k199 : sSt → Nat → Int32 → Int32 → Int32 → Option sSt) (S : sSt) (p0 : Nat) (p1 : Int32) (p2 : Int32) (p3 : Int32) (s0 : Int32) (s1 : Int32) (s2 : Option Nat) : Option sSt := Option.bind s2 (fun a4 => gi s1 (N a4) (bnd (sAI S a4 (Int32.toNatClampNeg s1) (s0 &&& 1)) (fun S5 => k199 S5 p0 p1 p2 (p3 + (1 : Int32)))))
set_option maxHeartbeats 4000000 in
theorem jB_X9_findLeads_262 {X : jX} (C : jC X cX9_findLeads 4 RX9 rm_X9_findLeads) {Λ : sLay} {r : sSt} (E : jE X none rV Λ ((), r)) (k183 : sSt → Nat → Int32 → Option sSt) (hk183 : ∀ (S : sSt) (p0 : Nat) (tp0 : isK Λ 9 p0) (p1 : Int32), J X 4 0 0 183 [(0, vR (some p0)), (1, vI p1)] [] Λ S (k183 S p0 p1 = some r)) (k191 : sSt → Nat → Int32 → Int32 → Option sSt) (hk191 : ∀ (S : sSt) (p0 : Nat) (tp0 : isK Λ 9 p0) (p1 : Int32) (p2 : Int32), J X 4 0 0 191 [(0, vR (some p0)), (1, vI p1), (2, vI p2)] [] Λ S (k191 S p0 p1 p2 = some r)) (k199 : sSt → Nat → Int32 → Int32 → Int32 → Option sSt) (hk199 : ∀ (S : sSt) (p0 : Nat) (tp0 : isK Λ 9 p0) (p1 : Int32) (p2 : Int32) (p3 : Int32), J X 4 0 0 199 [(0, vR (some p0)), (1, vI p1), (2, vI p2), (3, vI p3)] [] Λ S (k199 S p0 p1 p2 p3 = some r)) : ∀ (S : sSt) (p0 : Nat) (tp0 : isK Λ 9 p0) (p1 : Int32) (p2 : Int32) (p3 : Int32) (s0 : Int32) (s1 : Int32) (s2 : Option Nat) (ts2 : okK Λ 12 s2), J X 4 0 0 262 [(0, vR (some p0)), (1, vI p1), (2, vI p2), (3, vI p3)] [vI s0, vI s1, vR s2] Λ S (B_X9_findLeads_262 Λ.2.2 k183 k191 k199 S p0 p1 p2 p3 s0 s1 s2 = some r) := by
  intro S p0 tp0 p1 p2 p3 s0 s1 s2 ts2
  unfold B_X9_findLeads_262
  refine j_oc ts2 (fun a4 ta4 ea4 => ?_)
  subst ea4
  refine j_zast C ta4 dX9_findLeads_262 (fun S5 => ?_)
  refine j_iinc C (v := (1 : Int32)) (L' := [(3, vI (p3 + (1 : Int32))), (0, vR (some p0)), (1, vI p1), (2, vI p2)]) dX9_findLeads_263 3 rfl (by decide) (by decide) rfl ?_
  refine j_goto C (tgt := 199) dX9_findLeads_266 (by decide) ?_
  refine j_sub (L' := [(0, vR (some p0)), (1, vI p1), (2, vI p2), (3, vI (p3 + (1 : Int32)))]) [1, 2, 3, 0] rfl ?_
  exact hk199 S5 p0 tp0 p1 p2 (p3 + (1 : Int32))
def B_X9_findLeads_257 (N : Nat → Nat) (k183 : sSt → Nat → Int32 → Option sSt) (k191 : sSt → Nat → Int32 → Int32 → Option sSt) (k199 : sSt → Nat → Int32 → Int32 → Int32 → Option sSt) (S : sSt) (p0 : Nat) (p1 : Int32) (p2 : Int32) (p3 : Int32) (s0 : Int32) (s1 : Option Nat) : Option sSt := B_X9_findLeads_262 N k183 k191 k199 S p0 p1 p2 p3 (1 : Int32) s0 s1
set_option maxHeartbeats 4000000 in
theorem jB_X9_findLeads_257 {X : jX} (C : jC X cX9_findLeads 4 RX9 rm_X9_findLeads) {Λ : sLay} {r : sSt} (E : jE X none rV Λ ((), r)) (k183 : sSt → Nat → Int32 → Option sSt) (hk183 : ∀ (S : sSt) (p0 : Nat) (tp0 : isK Λ 9 p0) (p1 : Int32), J X 4 0 0 183 [(0, vR (some p0)), (1, vI p1)] [] Λ S (k183 S p0 p1 = some r)) (k191 : sSt → Nat → Int32 → Int32 → Option sSt) (hk191 : ∀ (S : sSt) (p0 : Nat) (tp0 : isK Λ 9 p0) (p1 : Int32) (p2 : Int32), J X 4 0 0 191 [(0, vR (some p0)), (1, vI p1), (2, vI p2)] [] Λ S (k191 S p0 p1 p2 = some r)) (k199 : sSt → Nat → Int32 → Int32 → Int32 → Option sSt) (hk199 : ∀ (S : sSt) (p0 : Nat) (tp0 : isK Λ 9 p0) (p1 : Int32) (p2 : Int32) (p3 : Int32), J X 4 0 0 199 [(0, vR (some p0)), (1, vI p1), (2, vI p2), (3, vI p3)] [] Λ S (k199 S p0 p1 p2 p3 = some r)) : ∀ (S : sSt) (p0 : Nat) (tp0 : isK Λ 9 p0) (p1 : Int32) (p2 : Int32) (p3 : Int32) (s0 : Int32) (s1 : Option Nat) (ts1 : okK Λ 12 s1), J X 4 0 0 257 [(0, vR (some p0)), (1, vI p1), (2, vI p2), (3, vI p3)] [vI s0, vR s1] Λ S (B_X9_findLeads_257 Λ.2.2 k183 k191 k199 S p0 p1 p2 p3 s0 s1 = some r) := by
  intro S p0 tp0 p1 p2 p3 s0 s1 ts1
  unfold B_X9_findLeads_257
  refine j_iconst C (v := (1 : Int32)) dX9_findLeads_257 (by decide) ?_
  refine j_goto C (tgt := 262) dX9_findLeads_258 (by decide) ?_
  exact jB_X9_findLeads_262 C E k183 hk183 k191 hk191 k199 hk199 S p0 tp0 p1 p2 p3 (1 : Int32) s0 s1 ts1
def B_X9_findLeads_261 (N : Nat → Nat) (k183 : sSt → Nat → Int32 → Option sSt) (k191 : sSt → Nat → Int32 → Int32 → Option sSt) (k199 : sSt → Nat → Int32 → Int32 → Int32 → Option sSt) (S : sSt) (p0 : Nat) (p1 : Int32) (p2 : Int32) (p3 : Int32) (s0 : Int32) (s1 : Option Nat) : Option sSt := B_X9_findLeads_262 N k183 k191 k199 S p0 p1 p2 p3 (0 : Int32) s0 s1
set_option maxHeartbeats 4000000 in
theorem jB_X9_findLeads_261 {X : jX} (C : jC X cX9_findLeads 4 RX9 rm_X9_findLeads) {Λ : sLay} {r : sSt} (E : jE X none rV Λ ((), r)) (k183 : sSt → Nat → Int32 → Option sSt) (hk183 : ∀ (S : sSt) (p0 : Nat) (tp0 : isK Λ 9 p0) (p1 : Int32), J X 4 0 0 183 [(0, vR (some p0)), (1, vI p1)] [] Λ S (k183 S p0 p1 = some r)) (k191 : sSt → Nat → Int32 → Int32 → Option sSt) (hk191 : ∀ (S : sSt) (p0 : Nat) (tp0 : isK Λ 9 p0) (p1 : Int32) (p2 : Int32), J X 4 0 0 191 [(0, vR (some p0)), (1, vI p1), (2, vI p2)] [] Λ S (k191 S p0 p1 p2 = some r)) (k199 : sSt → Nat → Int32 → Int32 → Int32 → Option sSt) (hk199 : ∀ (S : sSt) (p0 : Nat) (tp0 : isK Λ 9 p0) (p1 : Int32) (p2 : Int32) (p3 : Int32), J X 4 0 0 199 [(0, vR (some p0)), (1, vI p1), (2, vI p2), (3, vI p3)] [] Λ S (k199 S p0 p1 p2 p3 = some r)) : ∀ (S : sSt) (p0 : Nat) (tp0 : isK Λ 9 p0) (p1 : Int32) (p2 : Int32) (p3 : Int32) (s0 : Int32) (s1 : Option Nat) (ts1 : okK Λ 12 s1), J X 4 0 0 261 [(0, vR (some p0)), (1, vI p1), (2, vI p2), (3, vI p3)] [vI s0, vR s1] Λ S (B_X9_findLeads_261 Λ.2.2 k183 k191 k199 S p0 p1 p2 p3 s0 s1 = some r) := by
  intro S p0 tp0 p1 p2 p3 s0 s1 ts1
  unfold B_X9_findLeads_261
  refine j_iconst C (v := (0 : Int32)) dX9_findLeads_261 (by decide) ?_
  exact jB_X9_findLeads_262 C E k183 hk183 k191 hk191 k199 hk199 S p0 tp0 p1 p2 p3 (0 : Int32) s0 s1 ts1
def Y_X9_findLeads_199 (N : Nat → Nat) (k183 : sSt → Nat → Int32 → Option sSt) (k191 : sSt → Nat → Int32 → Int32 → Option sSt) (rec : sSt → Nat → Int32 → Int32 → Int32 → Option sSt) (S : sSt) (p0 : Nat) (p1 : Int32) (p2 : Int32) (p3 : Int32) : Option sSt := (if (16 : Int32) ≤ p3 then k191 S p0 p1 (p2 + (1 : Int32)) else bnd (gFR S 390 p0) (fun x1 => bnd (gFR S 390 p0) (fun x2 => Option.bind x2 (fun a3 => gi (((16 : Int32) * p2) + p3) (N a3) ((if (gAI S a3 (Int32.toNatClampNeg (((16 : Int32) * p2) + p3))) = 0 then bnd (gFR S 390 p0) (fun x6 => Option.bind x6 (fun a7 => gi (((16 : Int32) * p2) + p1) (N a7) ((if (gAI S a7 (Int32.toNatClampNeg (((16 : Int32) * p2) + p1))) = 0 then B_X9_findLeads_261 N k183 k191 rec S p0 p1 p2 p3 (((16 : Int32) * p2) + p3) x1 else bnd (gFR S 390 p0) (fun x8 => Option.bind x8 (fun a9 => gi (((16 : Int32) * p1) + p3) (N a9) ((if (gAI S a9 (Int32.toNatClampNeg (((16 : Int32) * p1) + p3))) = 0 then B_X9_findLeads_261 N k183 k191 rec S p0 p1 p2 p3 (((16 : Int32) * p2) + p3) x1 else B_X9_findLeads_257 N k183 k191 rec S p0 p1 p2 p3 (((16 : Int32) * p2) + p3) x1)))))))) else B_X9_findLeads_257 N k183 k191 rec S p0 p1 p2 p3 (((16 : Int32) * p2) + p3) x1))))))
set_option maxHeartbeats 4000000 in
theorem jY_X9_findLeads_199 {X : jX} (C : jC X cX9_findLeads 4 RX9 rm_X9_findLeads) {Λ : sLay} {r : sSt} (E : jE X none rV Λ ((), r)) (k183 : sSt → Nat → Int32 → Option sSt) (hk183 : ∀ (S : sSt) (p0 : Nat) (tp0 : isK Λ 9 p0) (p1 : Int32), J X 4 0 0 183 [(0, vR (some p0)), (1, vI p1)] [] Λ S (k183 S p0 p1 = some r)) (k191 : sSt → Nat → Int32 → Int32 → Option sSt) (hk191 : ∀ (S : sSt) (p0 : Nat) (tp0 : isK Λ 9 p0) (p1 : Int32) (p2 : Int32), J X 4 0 0 191 [(0, vR (some p0)), (1, vI p1), (2, vI p2)] [] Λ S (k191 S p0 p1 p2 = some r)) (rec : sSt → Nat → Int32 → Int32 → Int32 → Option sSt) (hrec : ∀ (S : sSt) (p0 : Nat) (tp0 : isK Λ 9 p0) (p1 : Int32) (p2 : Int32) (p3 : Int32), J X 4 0 0 199 [(0, vR (some p0)), (1, vI p1), (2, vI p2), (3, vI p3)] [] Λ S (rec S p0 p1 p2 p3 = some r)) : ∀ (S : sSt) (p0 : Nat) (tp0 : isK Λ 9 p0) (p1 : Int32) (p2 : Int32) (p3 : Int32), J X 4 0 0 199 [(0, vR (some p0)), (1, vI p1), (2, vI p2), (3, vI p3)] [] Λ S (Y_X9_findLeads_199 Λ.2.2 k183 k191 rec S p0 p1 p2 p3 = some r) := by
  intro S p0 tp0 p1 p2 p3
  unfold Y_X9_findLeads_199
  refine j_iload_n C dX9_findLeads_199 3 rfl ?_
  refine j_bipush C (v := (16 : Int32)) dX9_findLeads_200 (by decide) ?_
  refine j_icmp_ge C (tgt := 269) dX9_findLeads_202 (by decide) ?_ ?_
  · refine j_iinc C (v := (1 : Int32)) (L' := [(2, vI (p2 + (1 : Int32))), (0, vR (some p0)), (1, vI p1), (3, vI p3)]) dX9_findLeads_269 2 rfl (by decide) (by decide) rfl ?_
    refine j_goto C (tgt := 191) dX9_findLeads_272 (by decide) ?_
    refine j_sub (L' := [(0, vR (some p0)), (1, vI p1), (2, vI (p2 + (1 : Int32)))]) [1, 2, 0] rfl ?_
    exact hk191 S p0 tp0 p1 (p2 + (1 : Int32))
  · refine j_aload_n C dX9_findLeads_205 0 rfl ?_
    refine j_getR C kK9 f390 kfX9_87 (by decide) rfl tp0 dX9_findLeads_206 (fun x1 tx1 => ?_)
    refine j_bipush C (v := (16 : Int32)) dX9_findLeads_209 (by decide) ?_
    refine j_iload_n C dX9_findLeads_211 2 rfl ?_
    refine j_imul C dX9_findLeads_212 ?_
    refine j_iload_n C dX9_findLeads_213 3 rfl ?_
    refine j_iadd C dX9_findLeads_214 ?_
    refine j_aload_n C dX9_findLeads_215 0 rfl ?_
    refine j_getR C kK9 f390 kfX9_87 (by decide) rfl tp0 dX9_findLeads_216 (fun x2 tx2 => ?_)
    refine j_bipush C (v := (16 : Int32)) dX9_findLeads_219 (by decide) ?_
    refine j_iload_n C dX9_findLeads_221 2 rfl ?_
    refine j_imul C dX9_findLeads_222 ?_
    refine j_iload_n C dX9_findLeads_223 3 rfl ?_
    refine j_iadd C dX9_findLeads_224 ?_
    refine j_oc tx2 (fun a3 ta3 ea3 => ?_)
    subst ea3
    refine j_zald C ta3 dX9_findLeads_225 ?_
    refine j_if_ne C (tgt := 257) dX9_findLeads_226 (by decide) ?_ ?_
    · exact jB_X9_findLeads_257 C E k183 hk183 k191 hk191 rec hrec S p0 tp0 p1 p2 p3 (((16 : Int32) * p2) + p3) x1 tx1
    · refine j_aload_n C dX9_findLeads_229 0 rfl ?_
      refine j_getR C kK9 f390 kfX9_87 (by decide) rfl tp0 dX9_findLeads_230 (fun x6 tx6 => ?_)
      refine j_bipush C (v := (16 : Int32)) dX9_findLeads_233 (by decide) ?_
      refine j_iload_n C dX9_findLeads_235 2 rfl ?_
      refine j_imul C dX9_findLeads_236 ?_
      refine j_iload_n C dX9_findLeads_237 1 rfl ?_
      refine j_iadd C dX9_findLeads_238 ?_
      refine j_oc tx6 (fun a7 ta7 ea7 => ?_)
      subst ea7
      refine j_zald C ta7 dX9_findLeads_239 ?_
      refine j_if_eq C (tgt := 261) dX9_findLeads_240 (by decide) ?_ ?_
      · exact jB_X9_findLeads_261 C E k183 hk183 k191 hk191 rec hrec S p0 tp0 p1 p2 p3 (((16 : Int32) * p2) + p3) x1 tx1
      · refine j_aload_n C dX9_findLeads_243 0 rfl ?_
        refine j_getR C kK9 f390 kfX9_87 (by decide) rfl tp0 dX9_findLeads_244 (fun x8 tx8 => ?_)
        refine j_bipush C (v := (16 : Int32)) dX9_findLeads_247 (by decide) ?_
        refine j_iload_n C dX9_findLeads_249 1 rfl ?_
        refine j_imul C dX9_findLeads_250 ?_
        refine j_iload_n C dX9_findLeads_251 3 rfl ?_
        refine j_iadd C dX9_findLeads_252 ?_
        refine j_oc tx8 (fun a9 ta9 ea9 => ?_)
        subst ea9
        refine j_zald C ta9 dX9_findLeads_253 ?_
        refine j_if_eq C (tgt := 261) dX9_findLeads_254 (by decide) ?_ ?_
        · exact jB_X9_findLeads_261 C E k183 hk183 k191 hk191 rec hrec S p0 tp0 p1 p2 p3 (((16 : Int32) * p2) + p3) x1 tx1
        · exact jB_X9_findLeads_257 C E k183 hk183 k191 hk191 rec hrec S p0 tp0 p1 p2 p3 (((16 : Int32) * p2) + p3) x1 tx1
def L_X9_findLeads_199 (N : Nat → Nat) (k183 : sSt → Nat → Int32 → Option sSt) (k191 : sSt → Nat → Int32 → Int32 → Option sSt) (n : Nat) : sSt → Nat → Int32 → Int32 → Int32 → Option sSt := iter (fun _ _ _ _ _ => none) (Y_X9_findLeads_199 N k183 k191) n
theorem jL_X9_findLeads_199 {X : jX} (C : jC X cX9_findLeads 4 RX9 rm_X9_findLeads) {Λ : sLay} {r : sSt} (E : jE X none rV Λ ((), r)) (k183 : sSt → Nat → Int32 → Option sSt) (hk183 : ∀ (S : sSt) (p0 : Nat) (tp0 : isK Λ 9 p0) (p1 : Int32), J X 4 0 0 183 [(0, vR (some p0)), (1, vI p1)] [] Λ S (k183 S p0 p1 = some r)) (k191 : sSt → Nat → Int32 → Int32 → Option sSt) (hk191 : ∀ (S : sSt) (p0 : Nat) (tp0 : isK Λ 9 p0) (p1 : Int32) (p2 : Int32), J X 4 0 0 191 [(0, vR (some p0)), (1, vI p1), (2, vI p2)] [] Λ S (k191 S p0 p1 p2 = some r)) : ∀ (n : Nat) (S : sSt) (p0 : Nat) (tp0 : isK Λ 9 p0) (p1 : Int32) (p2 : Int32) (p3 : Int32), J X 4 0 0 199 [(0, vR (some p0)), (1, vI p1), (2, vI p2), (3, vI p3)] [] Λ S (L_X9_findLeads_199 Λ.2.2 k183 k191 n S p0 p1 p2 p3 = some r) := by
  intro n
  induction n with
  | zero => intro S p0 tp0 p1 p2 p3; exact j_no (fun h => by have h2 : (none : Option sSt) = some r := h; cases h2)
  | succ n ih => intro S p0 tp0 p1 p2 p3; exact jY_X9_findLeads_199 C E k183 hk183 k191 hk191 (L_X9_findLeads_199 Λ.2.2 k183 k191 n) ih S p0 tp0 p1 p2 p3
def Y_X9_findLeads_191 (N : Nat → Nat) (k183 : sSt → Nat → Int32 → Option sSt) (rec : sSt → Nat → Int32 → Int32 → Option sSt) (S : sSt) (p0 : Nat) (p1 : Int32) (p2 : Int32) : Option sSt := (if (16 : Int32) ≤ p2 then k183 S p0 (p1 + (1 : Int32)) else L_X9_findLeads_199 N k183 rec FU S p0 p1 p2 (0 : Int32))
set_option maxHeartbeats 4000000 in
theorem jY_X9_findLeads_191 {X : jX} (C : jC X cX9_findLeads 4 RX9 rm_X9_findLeads) {Λ : sLay} {r : sSt} (E : jE X none rV Λ ((), r)) (k183 : sSt → Nat → Int32 → Option sSt) (hk183 : ∀ (S : sSt) (p0 : Nat) (tp0 : isK Λ 9 p0) (p1 : Int32), J X 4 0 0 183 [(0, vR (some p0)), (1, vI p1)] [] Λ S (k183 S p0 p1 = some r)) (rec : sSt → Nat → Int32 → Int32 → Option sSt) (hrec : ∀ (S : sSt) (p0 : Nat) (tp0 : isK Λ 9 p0) (p1 : Int32) (p2 : Int32), J X 4 0 0 191 [(0, vR (some p0)), (1, vI p1), (2, vI p2)] [] Λ S (rec S p0 p1 p2 = some r)) : ∀ (S : sSt) (p0 : Nat) (tp0 : isK Λ 9 p0) (p1 : Int32) (p2 : Int32), J X 4 0 0 191 [(0, vR (some p0)), (1, vI p1), (2, vI p2)] [] Λ S (Y_X9_findLeads_191 Λ.2.2 k183 rec S p0 p1 p2 = some r) := by
  intro S p0 tp0 p1 p2
  unfold Y_X9_findLeads_191
  refine j_iload_n C dX9_findLeads_191 2 rfl ?_
  refine j_bipush C (v := (16 : Int32)) dX9_findLeads_192 (by decide) ?_
  refine j_icmp_ge C (tgt := 275) dX9_findLeads_194 (by decide) ?_ ?_
  · refine j_iinc C (v := (1 : Int32)) (L' := [(1, vI (p1 + (1 : Int32))), (0, vR (some p0)), (2, vI p2)]) dX9_findLeads_275 1 rfl (by decide) (by decide) rfl ?_
    refine j_goto C (tgt := 183) dX9_findLeads_278 (by decide) ?_
    refine j_sub (L' := [(0, vR (some p0)), (1, vI (p1 + (1 : Int32)))]) [1, 0] rfl ?_
    exact hk183 S p0 tp0 (p1 + (1 : Int32))
  · refine j_iconst C (v := (0 : Int32)) dX9_findLeads_197 (by decide) ?_
    refine j_istore_n C (L' := [(3, vI (0 : Int32)), (0, vR (some p0)), (1, vI p1), (2, vI p2)]) dX9_findLeads_198 (by decide) rfl ?_
    refine j_sub (L' := [(0, vR (some p0)), (1, vI p1), (2, vI p2), (3, vI (0 : Int32))]) [1, 2, 3, 0] rfl ?_
    exact jL_X9_findLeads_199 C E k183 hk183 rec hrec FU S p0 tp0 p1 p2 (0 : Int32)
def L_X9_findLeads_191 (N : Nat → Nat) (k183 : sSt → Nat → Int32 → Option sSt) (n : Nat) : sSt → Nat → Int32 → Int32 → Option sSt := iter (fun _ _ _ _ => none) (Y_X9_findLeads_191 N k183) n
theorem jL_X9_findLeads_191 {X : jX} (C : jC X cX9_findLeads 4 RX9 rm_X9_findLeads) {Λ : sLay} {r : sSt} (E : jE X none rV Λ ((), r)) (k183 : sSt → Nat → Int32 → Option sSt) (hk183 : ∀ (S : sSt) (p0 : Nat) (tp0 : isK Λ 9 p0) (p1 : Int32), J X 4 0 0 183 [(0, vR (some p0)), (1, vI p1)] [] Λ S (k183 S p0 p1 = some r)) : ∀ (n : Nat) (S : sSt) (p0 : Nat) (tp0 : isK Λ 9 p0) (p1 : Int32) (p2 : Int32), J X 4 0 0 191 [(0, vR (some p0)), (1, vI p1), (2, vI p2)] [] Λ S (L_X9_findLeads_191 Λ.2.2 k183 n S p0 p1 p2 = some r) := by
  intro n
  induction n with
  | zero => intro S p0 tp0 p1 p2; exact j_no (fun h => by have h2 : (none : Option sSt) = some r := h; cases h2)
  | succ n ih => intro S p0 tp0 p1 p2; exact jY_X9_findLeads_191 C E k183 hk183 (L_X9_findLeads_191 Λ.2.2 k183 n) ih S p0 tp0 p1 p2
def Y_X9_findLeads_183 (N : Nat → Nat) (rec : sSt → Nat → Int32 → Option sSt) (S : sSt) (p0 : Nat) (p1 : Int32) : Option sSt := (if (16 : Int32) ≤ p1 then some S else L_X9_findLeads_191 N rec FU S p0 p1 (0 : Int32))
set_option maxHeartbeats 4000000 in
theorem jY_X9_findLeads_183 {X : jX} (C : jC X cX9_findLeads 4 RX9 rm_X9_findLeads) {Λ : sLay} {r : sSt} (E : jE X none rV Λ ((), r)) (rec : sSt → Nat → Int32 → Option sSt) (hrec : ∀ (S : sSt) (p0 : Nat) (tp0 : isK Λ 9 p0) (p1 : Int32), J X 4 0 0 183 [(0, vR (some p0)), (1, vI p1)] [] Λ S (rec S p0 p1 = some r)) : ∀ (S : sSt) (p0 : Nat) (tp0 : isK Λ 9 p0) (p1 : Int32), J X 4 0 0 183 [(0, vR (some p0)), (1, vI p1)] [] Λ S (Y_X9_findLeads_183 Λ.2.2 rec S p0 p1 = some r) := by
  intro S p0 tp0 p1
  unfold Y_X9_findLeads_183
  refine j_iload_n C dX9_findLeads_183 1 rfl ?_
  refine j_bipush C (v := (16 : Int32)) dX9_findLeads_184 (by decide) ?_
  refine j_icmp_ge C (tgt := 281) dX9_findLeads_186 (by decide) ?_ ?_
  · exact j_vretP C E dX9_findLeads_281
  · refine j_iconst C (v := (0 : Int32)) dX9_findLeads_189 (by decide) ?_
    refine j_istore_n C (L' := [(2, vI (0 : Int32)), (0, vR (some p0)), (1, vI p1)]) dX9_findLeads_190 (by decide) rfl ?_
    refine j_sub (L' := [(0, vR (some p0)), (1, vI p1), (2, vI (0 : Int32))]) [1, 2, 0] rfl ?_
    exact jL_X9_findLeads_191 C E rec hrec FU S p0 tp0 p1 (0 : Int32)
def L_X9_findLeads_183 (N : Nat → Nat) (n : Nat) : sSt → Nat → Int32 → Option sSt := iter (fun _ _ _ => none) (Y_X9_findLeads_183 N) n
theorem jL_X9_findLeads_183 {X : jX} (C : jC X cX9_findLeads 4 RX9 rm_X9_findLeads) {Λ : sLay} {r : sSt} (E : jE X none rV Λ ((), r)) : ∀ (n : Nat) (S : sSt) (p0 : Nat) (tp0 : isK Λ 9 p0) (p1 : Int32), J X 4 0 0 183 [(0, vR (some p0)), (1, vI p1)] [] Λ S (L_X9_findLeads_183 Λ.2.2 n S p0 p1 = some r) := by
  intro n
  induction n with
  | zero => intro S p0 tp0 p1; exact j_no (fun h => by have h2 : (none : Option sSt) = some r := h; cases h2)
  | succ n ih => intro S p0 tp0 p1; exact jY_X9_findLeads_183 C E (L_X9_findLeads_183 Λ.2.2 n) ih S p0 tp0 p1
def B_X9_findLeads_175 (N : Nat → Nat) (k24 : sSt → Nat → Int32 → Option sSt) (S : sSt) (p0 : Nat) (p1 : Int32) : Option sSt := k24 S p0 (p1 + (1 : Int32))
set_option maxHeartbeats 4000000 in
theorem jB_X9_findLeads_175 {X : jX} (C : jC X cX9_findLeads 4 RX9 rm_X9_findLeads) {Λ : sLay} {r : sSt} (E : jE X none rV Λ ((), r)) (k24 : sSt → Nat → Int32 → Option sSt) (hk24 : ∀ (S : sSt) (p0 : Nat) (tp0 : isK Λ 9 p0) (p1 : Int32), J X 4 0 0 24 [(0, vR (some p0)), (1, vI p1)] [] Λ S (k24 S p0 p1 = some r)) : ∀ (S : sSt) (p0 : Nat) (tp0 : isK Λ 9 p0) (p1 : Int32), J X 4 0 0 175 [(0, vR (some p0)), (1, vI p1)] [] Λ S (B_X9_findLeads_175 Λ.2.2 k24 S p0 p1 = some r) := by
  intro S p0 tp0 p1
  unfold B_X9_findLeads_175
  refine j_iinc C (v := (1 : Int32)) (L' := [(1, vI (p1 + (1 : Int32))), (0, vR (some p0))]) dX9_findLeads_175 1 rfl (by decide) (by decide) rfl ?_
  refine j_goto C (tgt := 24) dX9_findLeads_178 (by decide) ?_
  refine j_sub (L' := [(0, vR (some p0)), (1, vI (p1 + (1 : Int32)))]) [1, 0] rfl ?_
  exact hk24 S p0 tp0 (p1 + (1 : Int32))
def Y_X9_findLeads_102 (N : Nat → Nat) (k24 : sSt → Nat → Int32 → Option sSt) (k85 : sSt → Nat → Int32 → Int32 → Option sSt) (rec : sSt → Nat → Int32 → Int32 → Int32 → Option sSt) (S : sSt) (p0 : Nat) (p1 : Int32) (p2 : Int32) (p3 : Int32) : Option sSt := bnd (gFR S 367 p0) (fun x23 => Option.bind x23 (fun a24 => gi p2 (N a24) ((if (gAI S a24 (Int32.toNatClampNeg p2)) ≤ p3 then k85 S p0 p1 (p2 + (1 : Int32)) else bnd (gFR S 368 p0) (fun x25 => Option.bind x25 (fun a26 => gi (((3 : Int32) * p2) + p3) (N a26) (Option.bind (F_X9_find N S p0 p1 ((32 : Int32) + (gAI S a26 (Int32.toNatClampNeg (((3 : Int32) * p2) + p3))))) (fun v27 => Option.bind (F_X9_points N S p0 p1 v27) (fun S30 => rec S30 p0 p1 p2 (p3 + (1 : Int32)))))))))))
set_option maxHeartbeats 4000000 in
theorem jY_X9_findLeads_102 {X : jX} (C : jC X cX9_findLeads 4 RX9 rm_X9_findLeads) {Λ : sLay} {r : sSt} (E : jE X none rV Λ ((), r)) (k24 : sSt → Nat → Int32 → Option sSt) (hk24 : ∀ (S : sSt) (p0 : Nat) (tp0 : isK Λ 9 p0) (p1 : Int32), J X 4 0 0 24 [(0, vR (some p0)), (1, vI p1)] [] Λ S (k24 S p0 p1 = some r)) (k85 : sSt → Nat → Int32 → Int32 → Option sSt) (hk85 : ∀ (S : sSt) (p0 : Nat) (tp0 : isK Λ 9 p0) (p1 : Int32) (p2 : Int32), J X 4 0 0 85 [(0, vR (some p0)), (1, vI p1), (2, vI p2)] [] Λ S (k85 S p0 p1 p2 = some r)) (rec : sSt → Nat → Int32 → Int32 → Int32 → Option sSt) (hrec : ∀ (S : sSt) (p0 : Nat) (tp0 : isK Λ 9 p0) (p1 : Int32) (p2 : Int32) (p3 : Int32), J X 4 0 0 102 [(0, vR (some p0)), (1, vI p1), (2, vI p2), (3, vI p3)] [] Λ S (rec S p0 p1 p2 p3 = some r)) : ∀ (S : sSt) (p0 : Nat) (tp0 : isK Λ 9 p0) (p1 : Int32) (p2 : Int32) (p3 : Int32), J X 4 0 0 102 [(0, vR (some p0)), (1, vI p1), (2, vI p2), (3, vI p3)] [] Λ S (Y_X9_findLeads_102 Λ.2.2 k24 k85 rec S p0 p1 p2 p3 = some r) := by
  intro S p0 tp0 p1 p2 p3
  unfold Y_X9_findLeads_102
  refine j_iload_n C dX9_findLeads_102 3 rfl ?_
  refine j_aload_n C dX9_findLeads_103 0 rfl ?_
  refine j_getR C kK9 f367 kfX9_27 (by decide) rfl tp0 dX9_findLeads_104 (fun x23 tx23 => ?_)
  refine j_iload_n C dX9_findLeads_107 2 rfl ?_
  refine j_oc tx23 (fun a24 ta24 ea24 => ?_)
  subst ea24
  refine j_iald C ta24 dX9_findLeads_108 ?_
  refine j_icmp_ge C (tgt := 141) dX9_findLeads_109 (by decide) ?_ ?_
  · refine j_iinc C (v := (1 : Int32)) (L' := [(2, vI (p2 + (1 : Int32))), (0, vR (some p0)), (1, vI p1), (3, vI p3)]) dX9_findLeads_141 2 rfl (by decide) (by decide) rfl ?_
    refine j_goto C (tgt := 85) dX9_findLeads_144 (by decide) ?_
    refine j_sub (L' := [(0, vR (some p0)), (1, vI p1), (2, vI (p2 + (1 : Int32)))]) [1, 2, 0] rfl ?_
    exact hk85 S p0 tp0 p1 (p2 + (1 : Int32))
  · refine j_aload_n C dX9_findLeads_112 0 rfl ?_
    refine j_iload_n C dX9_findLeads_113 1 rfl ?_
    refine j_aload_n C dX9_findLeads_114 0 rfl ?_
    refine j_iload_n C dX9_findLeads_115 1 rfl ?_
    refine j_bipush C (v := (32 : Int32)) dX9_findLeads_116 (by decide) ?_
    refine j_aload_n C dX9_findLeads_118 0 rfl ?_
    refine j_getR C kK9 f368 kfX9_30 (by decide) rfl tp0 dX9_findLeads_119 (fun x25 tx25 => ?_)
    refine j_iconst C (v := (3 : Int32)) dX9_findLeads_122 (by decide) ?_
    refine j_iload_n C dX9_findLeads_123 2 rfl ?_
    refine j_imul C dX9_findLeads_124 ?_
    refine j_iload_n C dX9_findLeads_125 3 rfl ?_
    refine j_iadd C dX9_findLeads_126 ?_
    refine j_oc tx25 (fun a26 ta26 ea26 => ?_)
    subst ea26
    refine j_iald C ta26 dX9_findLeads_127 ?_
    refine j_iadd C dX9_findLeads_128 ?_
    refine j_cVIP C [vI p1, vI ((32 : Int32) + (gAI S a26 (Int32.toNatClampNeg (((3 : Int32) * p2) + p3))))] [vI p1, vR (some p0)] (fun _ e => c_X9_find p0 tp0 p1 ((32 : Int32) + (gAI S a26 (Int32.toNatClampNeg (((3 : Int32) * p2) + p3)))) e) kYX9_find kVX9_find kmX9_137 kO9 tp0 rfl rfl ⟨rfl, rfl, by decide, by decide⟩ (Nat.le_of_ble_eq_true rfl) ⟨Nat.zero_le _, Nat.zero_le _⟩ dX9_findLeads_129 (fun v27 => ?_)
    refine j_cVVV C [vI p1, vI v27] [] (fun _ e => c_X9_points p0 tp0 p1 v27 e) kYX9_points kVX9_points kmX9_207 kO9 tp0 rfl rfl ⟨rfl, rfl, by decide, by decide⟩ (Nat.le_of_ble_eq_true rfl) ⟨Nat.zero_le _, Nat.zero_le _⟩ dX9_findLeads_132 (fun S30 => ?_)
    refine j_iinc C (v := (1 : Int32)) (L' := [(3, vI (p3 + (1 : Int32))), (0, vR (some p0)), (1, vI p1), (2, vI p2)]) dX9_findLeads_135 3 rfl (by decide) (by decide) rfl ?_
    refine j_goto C (tgt := 102) dX9_findLeads_138 (by decide) ?_
    refine j_sub (L' := [(0, vR (some p0)), (1, vI p1), (2, vI p2), (3, vI (p3 + (1 : Int32)))]) [1, 2, 3, 0] rfl ?_
    exact hrec S30 p0 tp0 p1 p2 (p3 + (1 : Int32))
def L_X9_findLeads_102 (N : Nat → Nat) (k24 : sSt → Nat → Int32 → Option sSt) (k85 : sSt → Nat → Int32 → Int32 → Option sSt) (n : Nat) : sSt → Nat → Int32 → Int32 → Int32 → Option sSt := iter (fun _ _ _ _ _ => none) (Y_X9_findLeads_102 N k24 k85) n
theorem jL_X9_findLeads_102 {X : jX} (C : jC X cX9_findLeads 4 RX9 rm_X9_findLeads) {Λ : sLay} {r : sSt} (E : jE X none rV Λ ((), r)) (k24 : sSt → Nat → Int32 → Option sSt) (hk24 : ∀ (S : sSt) (p0 : Nat) (tp0 : isK Λ 9 p0) (p1 : Int32), J X 4 0 0 24 [(0, vR (some p0)), (1, vI p1)] [] Λ S (k24 S p0 p1 = some r)) (k85 : sSt → Nat → Int32 → Int32 → Option sSt) (hk85 : ∀ (S : sSt) (p0 : Nat) (tp0 : isK Λ 9 p0) (p1 : Int32) (p2 : Int32), J X 4 0 0 85 [(0, vR (some p0)), (1, vI p1), (2, vI p2)] [] Λ S (k85 S p0 p1 p2 = some r)) : ∀ (n : Nat) (S : sSt) (p0 : Nat) (tp0 : isK Λ 9 p0) (p1 : Int32) (p2 : Int32) (p3 : Int32), J X 4 0 0 102 [(0, vR (some p0)), (1, vI p1), (2, vI p2), (3, vI p3)] [] Λ S (L_X9_findLeads_102 Λ.2.2 k24 k85 n S p0 p1 p2 p3 = some r) := by
  intro n
  induction n with
  | zero => intro S p0 tp0 p1 p2 p3; exact j_no (fun h => by have h2 : (none : Option sSt) = some r := h; cases h2)
  | succ n ih => intro S p0 tp0 p1 p2 p3; exact jY_X9_findLeads_102 C E k24 hk24 k85 hk85 (L_X9_findLeads_102 Λ.2.2 k24 k85 n) ih S p0 tp0 p1 p2 p3
def Y_X9_findLeads_85 (N : Nat → Nat) (k24 : sSt → Nat → Int32 → Option sSt) (rec : sSt → Nat → Int32 → Int32 → Option sSt) (S : sSt) (p0 : Nat) (p1 : Int32) (p2 : Int32) : Option sSt := bnd (gFR S 363 p0) (fun x14 => Option.bind x14 (fun a15 => gi p1 (N a15) ((if (((10 : Int32) * p1) + (gAI S a15 (Int32.toNatClampNeg p1))) ≤ p2 then bnd (gFR S 374 p0) (fun x16 => Option.bind x16 (fun a17 => gi p1 (N a17) ((if (gAI S a17 (Int32.toNatClampNeg p1)) = (-5 : Int32) then B_X9_findLeads_175 N k24 S p0 p1 else bnd (gFR S 390 p0) (fun x18 => bnd (gFR S 374 p0) (fun x19 => Option.bind x19 (fun a20 => gi p1 (N a20) (Option.bind x18 (fun a21 => gi (((16 : Int32) * p1) + (gAI S a20 (Int32.toNatClampNeg p1))) (N a21) (bnd (sAI S a21 (Int32.toNatClampNeg (((16 : Int32) * p1) + (gAI S a20 (Int32.toNatClampNeg p1)))) ((1 : Int32) &&& 1)) (fun S22 => B_X9_findLeads_175 N k24 S22 p0 p1))))))))))) else L_X9_findLeads_102 N k24 rec FU S p0 p1 p2 (0 : Int32)))))
set_option maxHeartbeats 4000000 in
theorem jY_X9_findLeads_85 {X : jX} (C : jC X cX9_findLeads 4 RX9 rm_X9_findLeads) {Λ : sLay} {r : sSt} (E : jE X none rV Λ ((), r)) (k24 : sSt → Nat → Int32 → Option sSt) (hk24 : ∀ (S : sSt) (p0 : Nat) (tp0 : isK Λ 9 p0) (p1 : Int32), J X 4 0 0 24 [(0, vR (some p0)), (1, vI p1)] [] Λ S (k24 S p0 p1 = some r)) (rec : sSt → Nat → Int32 → Int32 → Option sSt) (hrec : ∀ (S : sSt) (p0 : Nat) (tp0 : isK Λ 9 p0) (p1 : Int32) (p2 : Int32), J X 4 0 0 85 [(0, vR (some p0)), (1, vI p1), (2, vI p2)] [] Λ S (rec S p0 p1 p2 = some r)) : ∀ (S : sSt) (p0 : Nat) (tp0 : isK Λ 9 p0) (p1 : Int32) (p2 : Int32), J X 4 0 0 85 [(0, vR (some p0)), (1, vI p1), (2, vI p2)] [] Λ S (Y_X9_findLeads_85 Λ.2.2 k24 rec S p0 p1 p2 = some r) := by
  intro S p0 tp0 p1 p2
  unfold Y_X9_findLeads_85
  refine j_iload_n C dX9_findLeads_85 2 rfl ?_
  refine j_bipush C (v := (10 : Int32)) dX9_findLeads_86 (by decide) ?_
  refine j_iload_n C dX9_findLeads_88 1 rfl ?_
  refine j_imul C dX9_findLeads_89 ?_
  refine j_aload_n C dX9_findLeads_90 0 rfl ?_
  refine j_getR C kK9 f363 kfX9_13 (by decide) rfl tp0 dX9_findLeads_91 (fun x14 tx14 => ?_)
  refine j_iload_n C dX9_findLeads_94 1 rfl ?_
  refine j_oc tx14 (fun a15 ta15 ea15 => ?_)
  subst ea15
  refine j_iald C ta15 dX9_findLeads_95 ?_
  refine j_iadd C dX9_findLeads_96 ?_
  refine j_icmp_ge C (tgt := 147) dX9_findLeads_97 (by decide) ?_ ?_
  · refine j_aload_n C dX9_findLeads_147 0 rfl ?_
    refine j_getR C kK9 f374 kfX9_48 (by decide) rfl tp0 dX9_findLeads_148 (fun x16 tx16 => ?_)
    refine j_iload_n C dX9_findLeads_151 1 rfl ?_
    refine j_oc tx16 (fun a17 ta17 ea17 => ?_)
    subst ea17
    refine j_iald C ta17 dX9_findLeads_152 ?_
    refine j_bipush C (v := (-5 : Int32)) dX9_findLeads_153 (by decide) ?_
    refine j_icmp_eq C (tgt := 175) dX9_findLeads_155 (by decide) ?_ ?_
    · refine j_sub (L' := [(0, vR (some p0)), (1, vI p1)]) [0, 1] rfl ?_
      exact jB_X9_findLeads_175 C E k24 hk24 S p0 tp0 p1
    · refine j_aload_n C dX9_findLeads_158 0 rfl ?_
      refine j_getR C kK9 f390 kfX9_87 (by decide) rfl tp0 dX9_findLeads_159 (fun x18 tx18 => ?_)
      refine j_bipush C (v := (16 : Int32)) dX9_findLeads_162 (by decide) ?_
      refine j_iload_n C dX9_findLeads_164 1 rfl ?_
      refine j_imul C dX9_findLeads_165 ?_
      refine j_aload_n C dX9_findLeads_166 0 rfl ?_
      refine j_getR C kK9 f374 kfX9_48 (by decide) rfl tp0 dX9_findLeads_167 (fun x19 tx19 => ?_)
      refine j_iload_n C dX9_findLeads_170 1 rfl ?_
      refine j_oc tx19 (fun a20 ta20 ea20 => ?_)
      subst ea20
      refine j_iald C ta20 dX9_findLeads_171 ?_
      refine j_iadd C dX9_findLeads_172 ?_
      refine j_iconst C (v := (1 : Int32)) dX9_findLeads_173 (by decide) ?_
      refine j_oc tx18 (fun a21 ta21 ea21 => ?_)
      subst ea21
      refine j_zast C ta21 dX9_findLeads_174 (fun S22 => ?_)
      refine j_sub (L' := [(0, vR (some p0)), (1, vI p1)]) [0, 1] rfl ?_
      exact jB_X9_findLeads_175 C E k24 hk24 S22 p0 tp0 p1
  · refine j_iconst C (v := (0 : Int32)) dX9_findLeads_100 (by decide) ?_
    refine j_istore_n C (L' := [(3, vI (0 : Int32)), (0, vR (some p0)), (1, vI p1), (2, vI p2)]) dX9_findLeads_101 (by decide) rfl ?_
    refine j_sub (L' := [(0, vR (some p0)), (1, vI p1), (2, vI p2), (3, vI (0 : Int32))]) [1, 2, 3, 0] rfl ?_
    exact jL_X9_findLeads_102 C E k24 hk24 rec hrec FU S p0 tp0 p1 p2 (0 : Int32)
def L_X9_findLeads_85 (N : Nat → Nat) (k24 : sSt → Nat → Int32 → Option sSt) (n : Nat) : sSt → Nat → Int32 → Int32 → Option sSt := iter (fun _ _ _ _ => none) (Y_X9_findLeads_85 N k24) n
theorem jL_X9_findLeads_85 {X : jX} (C : jC X cX9_findLeads 4 RX9 rm_X9_findLeads) {Λ : sLay} {r : sSt} (E : jE X none rV Λ ((), r)) (k24 : sSt → Nat → Int32 → Option sSt) (hk24 : ∀ (S : sSt) (p0 : Nat) (tp0 : isK Λ 9 p0) (p1 : Int32), J X 4 0 0 24 [(0, vR (some p0)), (1, vI p1)] [] Λ S (k24 S p0 p1 = some r)) : ∀ (n : Nat) (S : sSt) (p0 : Nat) (tp0 : isK Λ 9 p0) (p1 : Int32) (p2 : Int32), J X 4 0 0 85 [(0, vR (some p0)), (1, vI p1), (2, vI p2)] [] Λ S (L_X9_findLeads_85 Λ.2.2 k24 n S p0 p1 p2 = some r) := by
  intro n
  induction n with
  | zero => intro S p0 tp0 p1 p2; exact j_no (fun h => by have h2 : (none : Option sSt) = some r := h; cases h2)
  | succ n ih => intro S p0 tp0 p1 p2; exact jY_X9_findLeads_85 C E k24 hk24 (L_X9_findLeads_85 Λ.2.2 k24 n) ih S p0 tp0 p1 p2
def Y_X9_findLeads_43 (N : Nat → Nat) (k24 : sSt → Nat → Int32 → Option sSt) (rec : sSt → Nat → Int32 → Int32 → Option sSt) (S : sSt) (p0 : Nat) (p1 : Int32) (p2 : Int32) : Option sSt := bnd (gFR S 371 p0) (fun x12 => Option.bind x12 (fun a13 => gi p1 (N a13) ((if (gAI S a13 (Int32.toNatClampNeg p1)) ≤ p2 then L_X9_findLeads_85 N k24 FU S p0 p1 ((10 : Int32) * p1) else bnd (gFR S 372 p0) (fun x31 => Option.bind x31 (fun a32 => gi (((12 : Int32) * p1) + p2) (N a32) (Option.bind (F_X9_find N S p0 p1 (gAI S a32 (Int32.toNatClampNeg (((12 : Int32) * p1) + p2)))) (fun v33 => Option.bind (F_X9_points N S p0 p1 v33) (fun S36 => rec S36 p0 p1 (p2 + (1 : Int32)))))))))))
set_option maxHeartbeats 4000000 in
theorem jY_X9_findLeads_43 {X : jX} (C : jC X cX9_findLeads 4 RX9 rm_X9_findLeads) {Λ : sLay} {r : sSt} (E : jE X none rV Λ ((), r)) (k24 : sSt → Nat → Int32 → Option sSt) (hk24 : ∀ (S : sSt) (p0 : Nat) (tp0 : isK Λ 9 p0) (p1 : Int32), J X 4 0 0 24 [(0, vR (some p0)), (1, vI p1)] [] Λ S (k24 S p0 p1 = some r)) (rec : sSt → Nat → Int32 → Int32 → Option sSt) (hrec : ∀ (S : sSt) (p0 : Nat) (tp0 : isK Λ 9 p0) (p1 : Int32) (p2 : Int32), J X 4 0 0 43 [(0, vR (some p0)), (1, vI p1), (2, vI p2)] [] Λ S (rec S p0 p1 p2 = some r)) : ∀ (S : sSt) (p0 : Nat) (tp0 : isK Λ 9 p0) (p1 : Int32) (p2 : Int32), J X 4 0 0 43 [(0, vR (some p0)), (1, vI p1), (2, vI p2)] [] Λ S (Y_X9_findLeads_43 Λ.2.2 k24 rec S p0 p1 p2 = some r) := by
  intro S p0 tp0 p1 p2
  unfold Y_X9_findLeads_43
  refine j_iload_n C dX9_findLeads_43 2 rfl ?_
  refine j_aload_n C dX9_findLeads_44 0 rfl ?_
  refine j_getR C kK9 f371 kfX9_39 (by decide) rfl tp0 dX9_findLeads_45 (fun x12 tx12 => ?_)
  refine j_iload_n C dX9_findLeads_48 1 rfl ?_
  refine j_oc tx12 (fun a13 ta13 ea13 => ?_)
  subst ea13
  refine j_iald C ta13 dX9_findLeads_49 ?_
  refine j_icmp_ge C (tgt := 80) dX9_findLeads_50 (by decide) ?_ ?_
  · refine j_bipush C (v := (10 : Int32)) dX9_findLeads_80 (by decide) ?_
    refine j_iload_n C dX9_findLeads_82 1 rfl ?_
    refine j_imul C dX9_findLeads_83 ?_
    refine j_istore_n C (L' := [(2, vI ((10 : Int32) * p1)), (0, vR (some p0)), (1, vI p1)]) dX9_findLeads_84 (by decide) rfl ?_
    refine j_sub (L' := [(0, vR (some p0)), (1, vI p1), (2, vI ((10 : Int32) * p1))]) [1, 2, 0] rfl ?_
    exact jL_X9_findLeads_85 C E k24 hk24 FU S p0 tp0 p1 ((10 : Int32) * p1)
  · refine j_aload_n C dX9_findLeads_53 0 rfl ?_
    refine j_iload_n C dX9_findLeads_54 1 rfl ?_
    refine j_aload_n C dX9_findLeads_55 0 rfl ?_
    refine j_iload_n C dX9_findLeads_56 1 rfl ?_
    refine j_aload_n C dX9_findLeads_57 0 rfl ?_
    refine j_getR C kK9 f372 kfX9_42 (by decide) rfl tp0 dX9_findLeads_58 (fun x31 tx31 => ?_)
    refine j_bipush C (v := (12 : Int32)) dX9_findLeads_61 (by decide) ?_
    refine j_iload_n C dX9_findLeads_63 1 rfl ?_
    refine j_imul C dX9_findLeads_64 ?_
    refine j_iload_n C dX9_findLeads_65 2 rfl ?_
    refine j_iadd C dX9_findLeads_66 ?_
    refine j_oc tx31 (fun a32 ta32 ea32 => ?_)
    subst ea32
    refine j_iald C ta32 dX9_findLeads_67 ?_
    refine j_cVIP C [vI p1, vI (gAI S a32 (Int32.toNatClampNeg (((12 : Int32) * p1) + p2)))] [vI p1, vR (some p0)] (fun _ e => c_X9_find p0 tp0 p1 (gAI S a32 (Int32.toNatClampNeg (((12 : Int32) * p1) + p2))) e) kYX9_find kVX9_find kmX9_137 kO9 tp0 rfl rfl ⟨rfl, rfl, by decide, by decide⟩ (Nat.le_of_ble_eq_true rfl) ⟨Nat.zero_le _, Nat.zero_le _⟩ dX9_findLeads_68 (fun v33 => ?_)
    refine j_cVVV C [vI p1, vI v33] [] (fun _ e => c_X9_points p0 tp0 p1 v33 e) kYX9_points kVX9_points kmX9_207 kO9 tp0 rfl rfl ⟨rfl, rfl, by decide, by decide⟩ (Nat.le_of_ble_eq_true rfl) ⟨Nat.zero_le _, Nat.zero_le _⟩ dX9_findLeads_71 (fun S36 => ?_)
    refine j_iinc C (v := (1 : Int32)) (L' := [(2, vI (p2 + (1 : Int32))), (0, vR (some p0)), (1, vI p1)]) dX9_findLeads_74 2 rfl (by decide) (by decide) rfl ?_
    refine j_goto C (tgt := 43) dX9_findLeads_77 (by decide) ?_
    refine j_sub (L' := [(0, vR (some p0)), (1, vI p1), (2, vI (p2 + (1 : Int32)))]) [1, 2, 0] rfl ?_
    exact hrec S36 p0 tp0 p1 (p2 + (1 : Int32))
def L_X9_findLeads_43 (N : Nat → Nat) (k24 : sSt → Nat → Int32 → Option sSt) (n : Nat) : sSt → Nat → Int32 → Int32 → Option sSt := iter (fun _ _ _ _ => none) (Y_X9_findLeads_43 N k24) n
theorem jL_X9_findLeads_43 {X : jX} (C : jC X cX9_findLeads 4 RX9 rm_X9_findLeads) {Λ : sLay} {r : sSt} (E : jE X none rV Λ ((), r)) (k24 : sSt → Nat → Int32 → Option sSt) (hk24 : ∀ (S : sSt) (p0 : Nat) (tp0 : isK Λ 9 p0) (p1 : Int32), J X 4 0 0 24 [(0, vR (some p0)), (1, vI p1)] [] Λ S (k24 S p0 p1 = some r)) : ∀ (n : Nat) (S : sSt) (p0 : Nat) (tp0 : isK Λ 9 p0) (p1 : Int32) (p2 : Int32), J X 4 0 0 43 [(0, vR (some p0)), (1, vI p1), (2, vI p2)] [] Λ S (L_X9_findLeads_43 Λ.2.2 k24 n S p0 p1 p2 = some r) := by
  intro n
  induction n with
  | zero => intro S p0 tp0 p1 p2; exact j_no (fun h => by have h2 : (none : Option sSt) = some r := h; cases h2)
  | succ n ih => intro S p0 tp0 p1 p2; exact jY_X9_findLeads_43 C E k24 hk24 (L_X9_findLeads_43 Λ.2.2 k24 n) ih S p0 tp0 p1 p2
def Y_X9_findLeads_24 (N : Nat → Nat) (rec : sSt → Nat → Int32 → Option sSt) (S : sSt) (p0 : Nat) (p1 : Int32) : Option sSt := (if (gFI S 361 p0) ≤ p1 then L_X9_findLeads_183 N FU S p0 (0 : Int32) else bnd (gFR S 362 p0) (fun x10 => Option.bind x10 (fun a11 => gi p1 (N a11) ((if (gAI S a11 (Int32.toNatClampNeg p1)) = 0 then B_X9_findLeads_175 N rec S p0 p1 else L_X9_findLeads_43 N rec FU S p0 p1 (0 : Int32))))))
set_option maxHeartbeats 4000000 in
theorem jY_X9_findLeads_24 {X : jX} (C : jC X cX9_findLeads 4 RX9 rm_X9_findLeads) {Λ : sLay} {r : sSt} (E : jE X none rV Λ ((), r)) (rec : sSt → Nat → Int32 → Option sSt) (hrec : ∀ (S : sSt) (p0 : Nat) (tp0 : isK Λ 9 p0) (p1 : Int32), J X 4 0 0 24 [(0, vR (some p0)), (1, vI p1)] [] Λ S (rec S p0 p1 = some r)) : ∀ (S : sSt) (p0 : Nat) (tp0 : isK Λ 9 p0) (p1 : Int32), J X 4 0 0 24 [(0, vR (some p0)), (1, vI p1)] [] Λ S (Y_X9_findLeads_24 Λ.2.2 rec S p0 p1 = some r) := by
  intro S p0 tp0 p1
  unfold Y_X9_findLeads_24
  refine j_iload_n C dX9_findLeads_24 1 rfl ?_
  refine j_aload_n C dX9_findLeads_25 0 rfl ?_
  refine j_getI C kK9 f361 kfX9_103 (by decide) tp0 dX9_findLeads_26 ?_
  refine j_icmp_ge C (tgt := 181) dX9_findLeads_29 (by decide) ?_ ?_
  · refine j_iconst C (v := (0 : Int32)) dX9_findLeads_181 (by decide) ?_
    refine j_istore_n C (L' := [(1, vI (0 : Int32)), (0, vR (some p0))]) dX9_findLeads_182 (by decide) rfl ?_
    refine j_sub (L' := [(0, vR (some p0)), (1, vI (0 : Int32))]) [1, 0] rfl ?_
    exact jL_X9_findLeads_183 C E FU S p0 tp0 (0 : Int32)
  · refine j_aload_n C dX9_findLeads_32 0 rfl ?_
    refine j_getR C kK9 f362 kfX9_7 (by decide) rfl tp0 dX9_findLeads_33 (fun x10 tx10 => ?_)
    refine j_iload_n C dX9_findLeads_36 1 rfl ?_
    refine j_oc tx10 (fun a11 ta11 ea11 => ?_)
    subst ea11
    refine j_zald C ta11 dX9_findLeads_37 ?_
    refine j_if_eq C (tgt := 175) dX9_findLeads_38 (by decide) ?_ ?_
    · exact jB_X9_findLeads_175 C E rec hrec S p0 tp0 p1
    · refine j_iconst C (v := (0 : Int32)) dX9_findLeads_41 (by decide) ?_
      refine j_istore_n C (L' := [(2, vI (0 : Int32)), (0, vR (some p0)), (1, vI p1)]) dX9_findLeads_42 (by decide) rfl ?_
      refine j_sub (L' := [(0, vR (some p0)), (1, vI p1), (2, vI (0 : Int32))]) [1, 2, 0] rfl ?_
      exact jL_X9_findLeads_43 C E rec hrec FU S p0 tp0 p1 (0 : Int32)
def L_X9_findLeads_24 (N : Nat → Nat) (n : Nat) : sSt → Nat → Int32 → Option sSt := iter (fun _ _ _ => none) (Y_X9_findLeads_24 N) n
theorem jL_X9_findLeads_24 {X : jX} (C : jC X cX9_findLeads 4 RX9 rm_X9_findLeads) {Λ : sLay} {r : sSt} (E : jE X none rV Λ ((), r)) : ∀ (n : Nat) (S : sSt) (p0 : Nat) (tp0 : isK Λ 9 p0) (p1 : Int32), J X 4 0 0 24 [(0, vR (some p0)), (1, vI p1)] [] Λ S (L_X9_findLeads_24 Λ.2.2 n S p0 p1 = some r) := by
  intro n
  induction n with
  | zero => intro S p0 tp0 p1; exact j_no (fun h => by have h2 : (none : Option sSt) = some r := h; cases h2)
  | succ n ih => intro S p0 tp0 p1; exact jY_X9_findLeads_24 C E (L_X9_findLeads_24 Λ.2.2 n) ih S p0 tp0 p1
def Y_X9_findLeads_2 (N : Nat → Nat) (rec : sSt → Nat → Int32 → Option sSt) (S : sSt) (p0 : Nat) (p1 : Int32) : Option sSt := (if (256 : Int32) ≤ p1 then L_X9_findLeads_24 N FU S p0 (0 : Int32) else bnd (gFR S 390 p0) (fun x37 => Option.bind x37 (fun a38 => gi p1 (N a38) (bnd (sAI S a38 (Int32.toNatClampNeg p1) ((0 : Int32) &&& 1)) (fun S39 => rec S39 p0 (p1 + (1 : Int32)))))))
set_option maxHeartbeats 4000000 in
theorem jY_X9_findLeads_2 {X : jX} (C : jC X cX9_findLeads 4 RX9 rm_X9_findLeads) {Λ : sLay} {r : sSt} (E : jE X none rV Λ ((), r)) (rec : sSt → Nat → Int32 → Option sSt) (hrec : ∀ (S : sSt) (p0 : Nat) (tp0 : isK Λ 9 p0) (p1 : Int32), J X 4 0 0 2 [(0, vR (some p0)), (1, vI p1)] [] Λ S (rec S p0 p1 = some r)) : ∀ (S : sSt) (p0 : Nat) (tp0 : isK Λ 9 p0) (p1 : Int32), J X 4 0 0 2 [(0, vR (some p0)), (1, vI p1)] [] Λ S (Y_X9_findLeads_2 Λ.2.2 rec S p0 p1 = some r) := by
  intro S p0 tp0 p1
  unfold Y_X9_findLeads_2
  refine j_iload_n C dX9_findLeads_2 1 rfl ?_
  refine j_sipush C (v := (256 : Int32)) dX9_findLeads_3 (by decide) ?_
  refine j_icmp_ge C (tgt := 22) dX9_findLeads_6 (by decide) ?_ ?_
  · refine j_iconst C (v := (0 : Int32)) dX9_findLeads_22 (by decide) ?_
    refine j_istore_n C (L' := [(1, vI (0 : Int32)), (0, vR (some p0))]) dX9_findLeads_23 (by decide) rfl ?_
    refine j_sub (L' := [(0, vR (some p0)), (1, vI (0 : Int32))]) [1, 0] rfl ?_
    exact jL_X9_findLeads_24 C E FU S p0 tp0 (0 : Int32)
  · refine j_aload_n C dX9_findLeads_9 0 rfl ?_
    refine j_getR C kK9 f390 kfX9_87 (by decide) rfl tp0 dX9_findLeads_10 (fun x37 tx37 => ?_)
    refine j_iload_n C dX9_findLeads_13 1 rfl ?_
    refine j_iconst C (v := (0 : Int32)) dX9_findLeads_14 (by decide) ?_
    refine j_oc tx37 (fun a38 ta38 ea38 => ?_)
    subst ea38
    refine j_zast C ta38 dX9_findLeads_15 (fun S39 => ?_)
    refine j_iinc C (v := (1 : Int32)) (L' := [(1, vI (p1 + (1 : Int32))), (0, vR (some p0))]) dX9_findLeads_16 1 rfl (by decide) (by decide) rfl ?_
    refine j_goto C (tgt := 2) dX9_findLeads_19 (by decide) ?_
    refine j_sub (L' := [(0, vR (some p0)), (1, vI (p1 + (1 : Int32)))]) [1, 0] rfl ?_
    exact hrec S39 p0 tp0 (p1 + (1 : Int32))
def L_X9_findLeads_2 (N : Nat → Nat) (n : Nat) : sSt → Nat → Int32 → Option sSt := iter (fun _ _ _ => none) (Y_X9_findLeads_2 N) n
theorem jL_X9_findLeads_2 {X : jX} (C : jC X cX9_findLeads 4 RX9 rm_X9_findLeads) {Λ : sLay} {r : sSt} (E : jE X none rV Λ ((), r)) : ∀ (n : Nat) (S : sSt) (p0 : Nat) (tp0 : isK Λ 9 p0) (p1 : Int32), J X 4 0 0 2 [(0, vR (some p0)), (1, vI p1)] [] Λ S (L_X9_findLeads_2 Λ.2.2 n S p0 p1 = some r) := by
  intro n
  induction n with
  | zero => intro S p0 tp0 p1; exact j_no (fun h => by have h2 : (none : Option sSt) = some r := h; cases h2)
  | succ n ih => intro S p0 tp0 p1; exact jY_X9_findLeads_2 C E (L_X9_findLeads_2 Λ.2.2 n) ih S p0 tp0 p1
def F_X9_findLeads (N : Nat → Nat) (S : sSt) (p0 : Nat) : Option sSt := L_X9_findLeads_2 N FU S p0 (0 : Int32)
set_option maxHeartbeats 4000000 in
theorem jF_X9_findLeads {X : jX} (C : jC X cX9_findLeads 4 RX9 rm_X9_findLeads) {Λ : sLay} {S : sSt} {r : sSt} (E : jE X none rV Λ ((), r)) (p0 : Nat) (tp0 : isK Λ 9 p0) : J X 4 0 0 0 [(0, vR (some p0))] [] Λ S (F_X9_findLeads Λ.2.2 S p0 = some r) := by
  unfold F_X9_findLeads
  refine j_iconst C (v := (0 : Int32)) dX9_findLeads_0 (by decide) ?_
  refine j_istore_n C (L' := [(1, vI (0 : Int32)), (0, vR (some p0))]) dX9_findLeads_1 (by decide) rfl ?_
  refine j_sub (L' := [(0, vR (some p0)), (1, vI (0 : Int32))]) [1, 0] rfl ?_
  exact jL_X9_findLeads_2 C E FU S p0 tp0 (0 : Int32)
theorem c_X9_findLeads {l : Launch} {D : va_G} {cy : Nat → ClassId} {Λ : sLay} {S : sSt} (p0 : Nat) (tp0 : isK Λ 9 p0) {r : sSt} (h : F_X9_findLeads Λ.2.2 S p0 = some r) : jM l yX9_findLeads (Cond.code yX9_findLeads cX9_findLeads 4 none :: bigW) rm_X9_findLeads D cy Λ S [vR (some p0)] rV ((), r) := jM_of (by decide +kernel) (Nat.le_of_ble_eq_true rfl) (fun X C E _ _ _ => j_sub [0] rfl (jF_X9_findLeads C E p0 tp0)) h
/-! RemakeNeeds2Model.unitsThere()I -/
abbrev rm_X9_unitsThere : Room := { frames := 0, cells := 0, slots := 0, locals := 0 }
def B_X9_unitsThere_27 (N : Nat → Nat) (S : sSt) (k4 : Nat → Int32 → Int32 → Option Int32) (p0 : Nat) (p2 : Int32) (s0 : Int32) (s1 : Int32) : Option Int32 := k4 p0 (s1 + s0) (p2 + (1 : Int32))
set_option maxHeartbeats 4000000 in
theorem jB_X9_unitsThere_27 {X : jX} (C : jC X cX9_unitsThere 3 RX9 rm_X9_unitsThere) {Λ : sLay} {S : sSt} {r : Int32} (E : jE X (some .int) rI Λ (r, S)) (k4 : Nat → Int32 → Int32 → Option Int32) (hk4 : ∀ (p0 : Nat) (tp0 : isK Λ 9 p0) (p1 : Int32) (p2 : Int32), J X 3 0 0 4 [(0, vR (some p0)), (1, vI p1), (2, vI p2)] [] Λ S (k4 p0 p1 p2 = some r)) : ∀ (p0 : Nat) (tp0 : isK Λ 9 p0) (p2 : Int32) (s0 : Int32) (s1 : Int32), J X 3 0 0 27 [(0, vR (some p0)), (2, vI p2)] [vI s0, vI s1] Λ S (B_X9_unitsThere_27 Λ.2.2 S k4 p0 p2 s0 s1 = some r) := by
  intro p0 tp0 p2 s0 s1
  unfold B_X9_unitsThere_27
  refine j_iadd C dX9_unitsThere_27 ?_
  refine j_istore_n C (L' := [(1, vI (s1 + s0)), (0, vR (some p0)), (2, vI p2)]) dX9_unitsThere_28 (by decide) rfl ?_
  refine j_iinc C (v := (1 : Int32)) (L' := [(2, vI (p2 + (1 : Int32))), (1, vI (s1 + s0)), (0, vR (some p0))]) dX9_unitsThere_29 2 rfl (by decide) (by decide) rfl ?_
  refine j_goto C (tgt := 4) dX9_unitsThere_32 (by decide) ?_
  refine j_sub (L' := [(0, vR (some p0)), (1, vI (s1 + s0)), (2, vI (p2 + (1 : Int32)))]) [2, 1, 0] rfl ?_
  exact hk4 p0 tp0 (s1 + s0) (p2 + (1 : Int32))
def Y_X9_unitsThere_4 (N : Nat → Nat) (S : sSt) (rec : Nat → Int32 → Int32 → Option Int32) (p0 : Nat) (p1 : Int32) (p2 : Int32) : Option Int32 := (if (gFI S 361 p0) ≤ p2 then some p1 else bnd (gFR S 362 p0) (fun x1 => Option.bind x1 (fun a2 => gi p2 (N a2) ((if (gAI S a2 (Int32.toNatClampNeg p2)) = 0 then B_X9_unitsThere_27 N S rec p0 p2 (0 : Int32) p1 else B_X9_unitsThere_27 N S rec p0 p2 (1 : Int32) p1)))))
set_option maxHeartbeats 4000000 in
theorem jY_X9_unitsThere_4 {X : jX} (C : jC X cX9_unitsThere 3 RX9 rm_X9_unitsThere) {Λ : sLay} {S : sSt} {r : Int32} (E : jE X (some .int) rI Λ (r, S)) (rec : Nat → Int32 → Int32 → Option Int32) (hrec : ∀ (p0 : Nat) (tp0 : isK Λ 9 p0) (p1 : Int32) (p2 : Int32), J X 3 0 0 4 [(0, vR (some p0)), (1, vI p1), (2, vI p2)] [] Λ S (rec p0 p1 p2 = some r)) : ∀ (p0 : Nat) (tp0 : isK Λ 9 p0) (p1 : Int32) (p2 : Int32), J X 3 0 0 4 [(0, vR (some p0)), (1, vI p1), (2, vI p2)] [] Λ S (Y_X9_unitsThere_4 Λ.2.2 S rec p0 p1 p2 = some r) := by
  intro p0 tp0 p1 p2
  unfold Y_X9_unitsThere_4
  refine j_iload_n C dX9_unitsThere_4 2 rfl ?_
  refine j_aload_n C dX9_unitsThere_5 0 rfl ?_
  refine j_getI C kK9 f361 kfX9_103 (by decide) tp0 dX9_unitsThere_6 ?_
  refine j_icmp_ge C (tgt := 35) dX9_unitsThere_9 (by decide) ?_ ?_
  · refine j_iload_n C dX9_unitsThere_35 1 rfl ?_
    exact j_iretP C E dX9_unitsThere_36
  · refine j_iload_n C dX9_unitsThere_12 1 rfl ?_
    refine j_aload_n C dX9_unitsThere_13 0 rfl ?_
    refine j_getR C kK9 f362 kfX9_7 (by decide) rfl tp0 dX9_unitsThere_14 (fun x1 tx1 => ?_)
    refine j_iload_n C dX9_unitsThere_17 2 rfl ?_
    refine j_oc tx1 (fun a2 ta2 ea2 => ?_)
    subst ea2
    refine j_zald C ta2 dX9_unitsThere_18 ?_
    refine j_if_eq C (tgt := 26) dX9_unitsThere_19 (by decide) ?_ ?_
    · refine j_iconst C (v := (0 : Int32)) dX9_unitsThere_26 (by decide) ?_
      refine j_sub (L' := [(0, vR (some p0)), (2, vI p2)]) [0, 2] rfl ?_
      exact jB_X9_unitsThere_27 C E rec hrec p0 tp0 p2 (0 : Int32) p1
    · refine j_iconst C (v := (1 : Int32)) dX9_unitsThere_22 (by decide) ?_
      refine j_goto C (tgt := 27) dX9_unitsThere_23 (by decide) ?_
      refine j_sub (L' := [(0, vR (some p0)), (2, vI p2)]) [0, 2] rfl ?_
      exact jB_X9_unitsThere_27 C E rec hrec p0 tp0 p2 (1 : Int32) p1
def L_X9_unitsThere_4 (N : Nat → Nat) (S : sSt) (n : Nat) : Nat → Int32 → Int32 → Option Int32 := iter (fun _ _ _ => none) (Y_X9_unitsThere_4 N S) n
theorem jL_X9_unitsThere_4 {X : jX} (C : jC X cX9_unitsThere 3 RX9 rm_X9_unitsThere) {Λ : sLay} {S : sSt} {r : Int32} (E : jE X (some .int) rI Λ (r, S)) : ∀ (n : Nat) (p0 : Nat) (tp0 : isK Λ 9 p0) (p1 : Int32) (p2 : Int32), J X 3 0 0 4 [(0, vR (some p0)), (1, vI p1), (2, vI p2)] [] Λ S (L_X9_unitsThere_4 Λ.2.2 S n p0 p1 p2 = some r) := by
  intro n
  induction n with
  | zero => intro p0 tp0 p1 p2; exact j_no (fun h => by have h2 : (none : Option Int32) = some r := h; cases h2)
  | succ n ih => intro p0 tp0 p1 p2; exact jY_X9_unitsThere_4 C E (L_X9_unitsThere_4 Λ.2.2 S n) ih p0 tp0 p1 p2
def F_X9_unitsThere (N : Nat → Nat) (S : sSt) (p0 : Nat) : Option Int32 := L_X9_unitsThere_4 N S FU p0 (0 : Int32) (0 : Int32)
set_option maxHeartbeats 4000000 in
theorem jF_X9_unitsThere {X : jX} (C : jC X cX9_unitsThere 3 RX9 rm_X9_unitsThere) {Λ : sLay} {S : sSt} {r : Int32} (E : jE X (some .int) rI Λ (r, S)) (p0 : Nat) (tp0 : isK Λ 9 p0) : J X 3 0 0 0 [(0, vR (some p0))] [] Λ S (F_X9_unitsThere Λ.2.2 S p0 = some r) := by
  unfold F_X9_unitsThere
  refine j_iconst C (v := (0 : Int32)) dX9_unitsThere_0 (by decide) ?_
  refine j_istore_n C (L' := [(1, vI (0 : Int32)), (0, vR (some p0))]) dX9_unitsThere_1 (by decide) rfl ?_
  refine j_iconst C (v := (0 : Int32)) dX9_unitsThere_2 (by decide) ?_
  refine j_istore_n C (L' := [(2, vI (0 : Int32)), (1, vI (0 : Int32)), (0, vR (some p0))]) dX9_unitsThere_3 (by decide) rfl ?_
  refine j_sub (L' := [(0, vR (some p0)), (1, vI (0 : Int32)), (2, vI (0 : Int32))]) [2, 1, 0] rfl ?_
  exact jL_X9_unitsThere_4 C E FU p0 tp0 (0 : Int32) (0 : Int32)
theorem c_X9_unitsThere {l : Launch} {D : va_G} {cy : Nat → ClassId} {Λ : sLay} {S : sSt} (p0 : Nat) (tp0 : isK Λ 9 p0) {r : Int32} (h : F_X9_unitsThere Λ.2.2 S p0 = some r) : jM l yX9_unitsThere (Cond.code yX9_unitsThere cX9_unitsThere 3 (some .int) :: bigW) rm_X9_unitsThere D cy Λ S [vR (some p0)] rI (r, S) := jM_of (by decide +kernel) (Nat.le_of_ble_eq_true rfl) (fun X C E _ _ _ => j_sub [0] rfl (jF_X9_unitsThere C E p0 tp0)) h
/-! RemakeNeeds2Model.areOne(II)Z -/
abbrev rm_X9_areOne : Room := { frames := 0, cells := 0, slots := 0, locals := 0 }
def B_X9_areOne_33 (N : Nat → Nat) (S : sSt) : Option Int32 := some (1 : Int32)
set_option maxHeartbeats 4000000 in
theorem jB_X9_areOne_33 {X : jX} (C : jC X cX9_areOne 3 RX9 rm_X9_areOne) {Λ : sLay} {S : sSt} {r : Int32} (E : jE X (some .boolean) rI Λ (r, S)) : ∀ (_ : Unit), J X 3 0 0 33 [] [] Λ S (B_X9_areOne_33 Λ.2.2 S  = some r) := by
  intro _
  unfold B_X9_areOne_33
  refine j_iconst C (v := (1 : Int32)) dX9_areOne_33 (by decide) ?_
  refine j_goto C (tgt := 38) dX9_areOne_34 (by decide) ?_
  exact j_zretKP C E (by decide) dX9_areOne_38
def F_X9_areOne (N : Nat → Nat) (S : sSt) (p0 : Nat) (p1 : Int32) (p2 : Int32) : Option Int32 := (if p1 = p2 then B_X9_areOne_33 N S  else bnd (gFR S 390 p0) (fun x1 => Option.bind x1 (fun a2 => gi (((16 : Int32) * p1) + p2) (N a2) ((if (gAI S a2 (Int32.toNatClampNeg (((16 : Int32) * p1) + p2))) = 0 then some (0 : Int32) else bnd (gFR S 390 p0) (fun x3 => Option.bind x3 (fun a4 => gi (((16 : Int32) * p2) + p1) (N a4) ((if (gAI S a4 (Int32.toNatClampNeg (((16 : Int32) * p2) + p1))) = 0 then some (0 : Int32) else B_X9_areOne_33 N S )))))))))
set_option maxHeartbeats 4000000 in
theorem jF_X9_areOne {X : jX} (C : jC X cX9_areOne 3 RX9 rm_X9_areOne) {Λ : sLay} {S : sSt} {r : Int32} (E : jE X (some .boolean) rI Λ (r, S)) (p0 : Nat) (tp0 : isK Λ 9 p0) (p1 : Int32) (p2 : Int32) : J X 3 0 0 0 [(0, vR (some p0)), (1, vI p1), (2, vI p2)] [] Λ S (F_X9_areOne Λ.2.2 S p0 p1 p2 = some r) := by
  unfold F_X9_areOne
  refine j_iload_n C dX9_areOne_0 1 rfl ?_
  refine j_iload_n C dX9_areOne_1 2 rfl ?_
  refine j_icmp_eq C (tgt := 33) dX9_areOne_2 (by decide) ?_ ?_
  · refine j_sub (L' := []) [] rfl ?_
    exact jB_X9_areOne_33 C E ()
  · refine j_aload_n C dX9_areOne_5 0 rfl ?_
    refine j_getR C kK9 f390 kfX9_87 (by decide) rfl tp0 dX9_areOne_6 (fun x1 tx1 => ?_)
    refine j_bipush C (v := (16 : Int32)) dX9_areOne_9 (by decide) ?_
    refine j_iload_n C dX9_areOne_11 1 rfl ?_
    refine j_imul C dX9_areOne_12 ?_
    refine j_iload_n C dX9_areOne_13 2 rfl ?_
    refine j_iadd C dX9_areOne_14 ?_
    refine j_oc tx1 (fun a2 ta2 ea2 => ?_)
    subst ea2
    refine j_zald C ta2 dX9_areOne_15 ?_
    refine j_if_eq C (tgt := 37) dX9_areOne_16 (by decide) ?_ ?_
    · refine j_iconst C (v := (0 : Int32)) dX9_areOne_37 (by decide) ?_
      exact j_zretKP C E (by decide) dX9_areOne_38
    · refine j_aload_n C dX9_areOne_19 0 rfl ?_
      refine j_getR C kK9 f390 kfX9_87 (by decide) rfl tp0 dX9_areOne_20 (fun x3 tx3 => ?_)
      refine j_bipush C (v := (16 : Int32)) dX9_areOne_23 (by decide) ?_
      refine j_iload_n C dX9_areOne_25 2 rfl ?_
      refine j_imul C dX9_areOne_26 ?_
      refine j_iload_n C dX9_areOne_27 1 rfl ?_
      refine j_iadd C dX9_areOne_28 ?_
      refine j_oc tx3 (fun a4 ta4 ea4 => ?_)
      subst ea4
      refine j_zald C ta4 dX9_areOne_29 ?_
      refine j_if_eq C (tgt := 37) dX9_areOne_30 (by decide) ?_ ?_
      · refine j_iconst C (v := (0 : Int32)) dX9_areOne_37 (by decide) ?_
        exact j_zretKP C E (by decide) dX9_areOne_38
      · refine j_sub (L' := []) [] rfl ?_
        exact jB_X9_areOne_33 C E ()
theorem c_X9_areOne {l : Launch} {D : va_G} {cy : Nat → ClassId} {Λ : sLay} {S : sSt} (p0 : Nat) (tp0 : isK Λ 9 p0) (p1 : Int32) (p2 : Int32) {r : Int32} (h : F_X9_areOne Λ.2.2 S p0 p1 p2 = some r) : jM l yX9_areOne (Cond.code yX9_areOne cX9_areOne 3 (some .boolean) :: bigW) rm_X9_areOne D cy Λ S [vR (some p0), vI p1, vI p2] rI (r, S) := jM_of (by decide +kernel) (Nat.le_of_ble_eq_true rfl) (fun X C E _ _ _ => j_sub [0, 1, 2] rfl (jF_X9_areOne C E p0 tp0 p1 p2)) h
/-! RemakeNeeds2Model.mayCome(I)Z -/
abbrev rm_X9_mayCome : Room := { frames := 1, cells := 0, slots := 0, locals := 22 }
def B_X9_mayCome_64 (N : Nat → Nat) (S : sSt) (k4 : Nat → Int32 → Int32 → Int32 → Option Int32) (p0 : Nat) (p1 : Int32) (p3 : Int32) (s0 : Int32) : Option Int32 := k4 p0 p1 s0 (p3 + (1 : Int32))
set_option maxHeartbeats 4000000 in
theorem jB_X9_mayCome_64 {X : jX} (C : jC X cX9_mayCome 4 RX9 rm_X9_mayCome) {Λ : sLay} {S : sSt} {r : Int32} (E : jE X (some .boolean) rI Λ (r, S)) (k4 : Nat → Int32 → Int32 → Int32 → Option Int32) (hk4 : ∀ (p0 : Nat) (tp0 : isK Λ 9 p0) (p1 : Int32) (p2 : Int32) (p3 : Int32), J X 4 0 0 4 [(0, vR (some p0)), (1, vI p1), (2, vI p2), (3, vI p3)] [] Λ S (k4 p0 p1 p2 p3 = some r)) : ∀ (p0 : Nat) (tp0 : isK Λ 9 p0) (p1 : Int32) (p3 : Int32) (s0 : Int32), J X 4 0 0 64 [(0, vR (some p0)), (1, vI p1), (3, vI p3)] [vI s0] Λ S (B_X9_mayCome_64 Λ.2.2 S k4 p0 p1 p3 s0 = some r) := by
  intro p0 tp0 p1 p3 s0
  unfold B_X9_mayCome_64
  refine j_istore_n C (L' := [(2, vI s0), (0, vR (some p0)), (1, vI p1), (3, vI p3)]) dX9_mayCome_64 (by decide) rfl ?_
  refine j_iinc C (v := (1 : Int32)) (L' := [(3, vI (p3 + (1 : Int32))), (2, vI s0), (0, vR (some p0)), (1, vI p1)]) dX9_mayCome_65 3 rfl (by decide) (by decide) rfl ?_
  refine j_goto C (tgt := 4) dX9_mayCome_68 (by decide) ?_
  refine j_sub (L' := [(0, vR (some p0)), (1, vI p1), (2, vI s0), (3, vI (p3 + (1 : Int32)))]) [2, 3, 1, 0] rfl ?_
  exact hk4 p0 tp0 p1 s0 (p3 + (1 : Int32))
def B_X9_mayCome_63 (N : Nat → Nat) (S : sSt) (k4 : Nat → Int32 → Int32 → Int32 → Option Int32) (p0 : Nat) (p1 : Int32) (p3 : Int32) : Option Int32 := B_X9_mayCome_64 N S k4 p0 p1 p3 (0 : Int32)
set_option maxHeartbeats 4000000 in
theorem jB_X9_mayCome_63 {X : jX} (C : jC X cX9_mayCome 4 RX9 rm_X9_mayCome) {Λ : sLay} {S : sSt} {r : Int32} (E : jE X (some .boolean) rI Λ (r, S)) (k4 : Nat → Int32 → Int32 → Int32 → Option Int32) (hk4 : ∀ (p0 : Nat) (tp0 : isK Λ 9 p0) (p1 : Int32) (p2 : Int32) (p3 : Int32), J X 4 0 0 4 [(0, vR (some p0)), (1, vI p1), (2, vI p2), (3, vI p3)] [] Λ S (k4 p0 p1 p2 p3 = some r)) : ∀ (p0 : Nat) (tp0 : isK Λ 9 p0) (p1 : Int32) (p3 : Int32), J X 4 0 0 63 [(0, vR (some p0)), (1, vI p1), (3, vI p3)] [] Λ S (B_X9_mayCome_63 Λ.2.2 S k4 p0 p1 p3 = some r) := by
  intro p0 tp0 p1 p3
  unfold B_X9_mayCome_63
  refine j_iconst C (v := (0 : Int32)) dX9_mayCome_63 (by decide) ?_
  exact jB_X9_mayCome_64 C E k4 hk4 p0 tp0 p1 p3 (0 : Int32)
def B_X9_mayCome_59 (N : Nat → Nat) (S : sSt) (k4 : Nat → Int32 → Int32 → Int32 → Option Int32) (p0 : Nat) (p1 : Int32) (p3 : Int32) : Option Int32 := B_X9_mayCome_64 N S k4 p0 p1 p3 (1 : Int32)
set_option maxHeartbeats 4000000 in
theorem jB_X9_mayCome_59 {X : jX} (C : jC X cX9_mayCome 4 RX9 rm_X9_mayCome) {Λ : sLay} {S : sSt} {r : Int32} (E : jE X (some .boolean) rI Λ (r, S)) (k4 : Nat → Int32 → Int32 → Int32 → Option Int32) (hk4 : ∀ (p0 : Nat) (tp0 : isK Λ 9 p0) (p1 : Int32) (p2 : Int32) (p3 : Int32), J X 4 0 0 4 [(0, vR (some p0)), (1, vI p1), (2, vI p2), (3, vI p3)] [] Λ S (k4 p0 p1 p2 p3 = some r)) : ∀ (p0 : Nat) (tp0 : isK Λ 9 p0) (p1 : Int32) (p3 : Int32), J X 4 0 0 59 [(0, vR (some p0)), (1, vI p1), (3, vI p3)] [] Λ S (B_X9_mayCome_59 Λ.2.2 S k4 p0 p1 p3 = some r) := by
  intro p0 tp0 p1 p3
  unfold B_X9_mayCome_59
  refine j_iconst C (v := (1 : Int32)) dX9_mayCome_59 (by decide) ?_
  refine j_goto C (tgt := 64) dX9_mayCome_60 (by decide) ?_
  exact jB_X9_mayCome_64 C E k4 hk4 p0 tp0 p1 p3 (1 : Int32)
def Y_X9_mayCome_4 (N : Nat → Nat) (S : sSt) (rec : Nat → Int32 → Int32 → Int32 → Option Int32) (p0 : Nat) (p1 : Int32) (p2 : Int32) (p3 : Int32) : Option Int32 := (if (gFI S 361 p0) ≤ p3 then gb p2 (some p2) else (if p2 = 0 then B_X9_mayCome_63 N S rec p0 p1 p3 else bnd (gFR S 362 p0) (fun x1 => Option.bind x1 (fun a2 => gi p3 (N a2) ((if (gAI S a2 (Int32.toNatClampNeg p3)) = 0 then B_X9_mayCome_59 N S rec p0 p1 p3 else bnd (gFR S 390 p0) (fun x3 => Option.bind x3 (fun a4 => gi (((16 : Int32) * p1) + p3) (N a4) ((if (gAI S a4 (Int32.toNatClampNeg (((16 : Int32) * p1) + p3))) = 0 then B_X9_mayCome_59 N S rec p0 p1 p3 else bnd (gFR S 391 p0) (fun x5 => Option.bind x5 (fun a6 => gi p3 (N a6) ((if (gAI S a6 (Int32.toNatClampNeg p3)) = (-5 : Int32) then Option.bind (F_X9_areOne N S p0 p1 p3) (fun v7 => (if v7 = 0 then B_X9_mayCome_63 N S rec p0 p1 p3 else B_X9_mayCome_59 N S rec p0 p1 p3)) else B_X9_mayCome_59 N S rec p0 p1 p3))))))))))))))
set_option maxHeartbeats 4000000 in
theorem jY_X9_mayCome_4 {X : jX} (C : jC X cX9_mayCome 4 RX9 rm_X9_mayCome) {Λ : sLay} {S : sSt} {r : Int32} (E : jE X (some .boolean) rI Λ (r, S)) (rec : Nat → Int32 → Int32 → Int32 → Option Int32) (hrec : ∀ (p0 : Nat) (tp0 : isK Λ 9 p0) (p1 : Int32) (p2 : Int32) (p3 : Int32), J X 4 0 0 4 [(0, vR (some p0)), (1, vI p1), (2, vI p2), (3, vI p3)] [] Λ S (rec p0 p1 p2 p3 = some r)) : ∀ (p0 : Nat) (tp0 : isK Λ 9 p0) (p1 : Int32) (p2 : Int32) (p3 : Int32), J X 4 0 0 4 [(0, vR (some p0)), (1, vI p1), (2, vI p2), (3, vI p3)] [] Λ S (Y_X9_mayCome_4 Λ.2.2 S rec p0 p1 p2 p3 = some r) := by
  intro p0 tp0 p1 p2 p3
  unfold Y_X9_mayCome_4
  refine j_iload_n C dX9_mayCome_4 3 rfl ?_
  refine j_aload_n C dX9_mayCome_5 0 rfl ?_
  refine j_getI C kK9 f361 kfX9_103 (by decide) tp0 dX9_mayCome_6 ?_
  refine j_icmp_ge C (tgt := 71) dX9_mayCome_9 (by decide) ?_ ?_
  · refine j_iload_n C dX9_mayCome_71 2 rfl ?_
    exact j_zretP C E dX9_mayCome_72
  · refine j_iload_n C dX9_mayCome_12 2 rfl ?_
    refine j_if_eq C (tgt := 63) dX9_mayCome_13 (by decide) ?_ ?_
    · refine j_sub (L' := [(0, vR (some p0)), (1, vI p1), (3, vI p3)]) [0, 1, 3] rfl ?_
      exact jB_X9_mayCome_63 C E rec hrec p0 tp0 p1 p3
    · refine j_aload_n C dX9_mayCome_16 0 rfl ?_
      refine j_getR C kK9 f362 kfX9_7 (by decide) rfl tp0 dX9_mayCome_17 (fun x1 tx1 => ?_)
      refine j_iload_n C dX9_mayCome_20 3 rfl ?_
      refine j_oc tx1 (fun a2 ta2 ea2 => ?_)
      subst ea2
      refine j_zald C ta2 dX9_mayCome_21 ?_
      refine j_if_eq C (tgt := 59) dX9_mayCome_22 (by decide) ?_ ?_
      · refine j_sub (L' := [(0, vR (some p0)), (1, vI p1), (3, vI p3)]) [0, 1, 3] rfl ?_
        exact jB_X9_mayCome_59 C E rec hrec p0 tp0 p1 p3
      · refine j_aload_n C dX9_mayCome_25 0 rfl ?_
        refine j_getR C kK9 f390 kfX9_87 (by decide) rfl tp0 dX9_mayCome_26 (fun x3 tx3 => ?_)
        refine j_bipush C (v := (16 : Int32)) dX9_mayCome_29 (by decide) ?_
        refine j_iload_n C dX9_mayCome_31 1 rfl ?_
        refine j_imul C dX9_mayCome_32 ?_
        refine j_iload_n C dX9_mayCome_33 3 rfl ?_
        refine j_iadd C dX9_mayCome_34 ?_
        refine j_oc tx3 (fun a4 ta4 ea4 => ?_)
        subst ea4
        refine j_zald C ta4 dX9_mayCome_35 ?_
        refine j_if_eq C (tgt := 59) dX9_mayCome_36 (by decide) ?_ ?_
        · refine j_sub (L' := [(0, vR (some p0)), (1, vI p1), (3, vI p3)]) [0, 1, 3] rfl ?_
          exact jB_X9_mayCome_59 C E rec hrec p0 tp0 p1 p3
        · refine j_aload_n C dX9_mayCome_39 0 rfl ?_
          refine j_getR C kK9 f391 kfX9_90 (by decide) rfl tp0 dX9_mayCome_40 (fun x5 tx5 => ?_)
          refine j_iload_n C dX9_mayCome_43 3 rfl ?_
          refine j_oc tx5 (fun a6 ta6 ea6 => ?_)
          subst ea6
          refine j_iald C ta6 dX9_mayCome_44 ?_
          refine j_bipush C (v := (-5 : Int32)) dX9_mayCome_45 (by decide) ?_
          refine j_icmp_ne C (tgt := 59) dX9_mayCome_47 (by decide) ?_ ?_
          · refine j_sub (L' := [(0, vR (some p0)), (1, vI p1), (3, vI p3)]) [0, 1, 3] rfl ?_
            exact jB_X9_mayCome_59 C E rec hrec p0 tp0 p1 p3
          · refine j_aload_n C dX9_mayCome_50 0 rfl ?_
            refine j_iload_n C dX9_mayCome_51 1 rfl ?_
            refine j_iload_n C dX9_mayCome_52 3 rfl ?_
            refine j_cVIP C [vI p1, vI p3] [] (fun _ e => c_X9_areOne p0 tp0 p1 p3 e) kYX9_areOne kVX9_areOne kmX9_210 kO9 tp0 rfl rfl ⟨rfl, rfl, by decide, by decide⟩ (Nat.le_of_ble_eq_true rfl) ⟨Nat.zero_le _, Nat.zero_le _⟩ dX9_mayCome_53 (fun v7 => ?_)
            refine j_if_eq C (tgt := 63) dX9_mayCome_56 (by decide) ?_ ?_
            · refine j_sub (L' := [(0, vR (some p0)), (1, vI p1), (3, vI p3)]) [0, 1, 3] rfl ?_
              exact jB_X9_mayCome_63 C E rec hrec p0 tp0 p1 p3
            · refine j_sub (L' := [(0, vR (some p0)), (1, vI p1), (3, vI p3)]) [0, 1, 3] rfl ?_
              exact jB_X9_mayCome_59 C E rec hrec p0 tp0 p1 p3
def L_X9_mayCome_4 (N : Nat → Nat) (S : sSt) (n : Nat) : Nat → Int32 → Int32 → Int32 → Option Int32 := iter (fun _ _ _ _ => none) (Y_X9_mayCome_4 N S) n
theorem jL_X9_mayCome_4 {X : jX} (C : jC X cX9_mayCome 4 RX9 rm_X9_mayCome) {Λ : sLay} {S : sSt} {r : Int32} (E : jE X (some .boolean) rI Λ (r, S)) : ∀ (n : Nat) (p0 : Nat) (tp0 : isK Λ 9 p0) (p1 : Int32) (p2 : Int32) (p3 : Int32), J X 4 0 0 4 [(0, vR (some p0)), (1, vI p1), (2, vI p2), (3, vI p3)] [] Λ S (L_X9_mayCome_4 Λ.2.2 S n p0 p1 p2 p3 = some r) := by
  intro n
  induction n with
  | zero => intro p0 tp0 p1 p2 p3; exact j_no (fun h => by have h2 : (none : Option Int32) = some r := h; cases h2)
  | succ n ih => intro p0 tp0 p1 p2 p3; exact jY_X9_mayCome_4 C E (L_X9_mayCome_4 Λ.2.2 S n) ih p0 tp0 p1 p2 p3
def F_X9_mayCome (N : Nat → Nat) (S : sSt) (p0 : Nat) (p1 : Int32) : Option Int32 := L_X9_mayCome_4 N S FU p0 p1 (1 : Int32) (0 : Int32)
set_option maxHeartbeats 4000000 in
theorem jF_X9_mayCome {X : jX} (C : jC X cX9_mayCome 4 RX9 rm_X9_mayCome) {Λ : sLay} {S : sSt} {r : Int32} (E : jE X (some .boolean) rI Λ (r, S)) (p0 : Nat) (tp0 : isK Λ 9 p0) (p1 : Int32) : J X 4 0 0 0 [(0, vR (some p0)), (1, vI p1)] [] Λ S (F_X9_mayCome Λ.2.2 S p0 p1 = some r) := by
  unfold F_X9_mayCome
  refine j_iconst C (v := (1 : Int32)) dX9_mayCome_0 (by decide) ?_
  refine j_istore_n C (L' := [(2, vI (1 : Int32)), (0, vR (some p0)), (1, vI p1)]) dX9_mayCome_1 (by decide) rfl ?_
  refine j_iconst C (v := (0 : Int32)) dX9_mayCome_2 (by decide) ?_
  refine j_istore_n C (L' := [(3, vI (0 : Int32)), (2, vI (1 : Int32)), (0, vR (some p0)), (1, vI p1)]) dX9_mayCome_3 (by decide) rfl ?_
  refine j_sub (L' := [(0, vR (some p0)), (1, vI p1), (2, vI (1 : Int32)), (3, vI (0 : Int32))]) [2, 3, 1, 0] rfl ?_
  exact jL_X9_mayCome_4 C E FU p0 tp0 p1 (1 : Int32) (0 : Int32)
theorem c_X9_mayCome {l : Launch} {D : va_G} {cy : Nat → ClassId} {Λ : sLay} {S : sSt} (p0 : Nat) (tp0 : isK Λ 9 p0) (p1 : Int32) {r : Int32} (h : F_X9_mayCome Λ.2.2 S p0 p1 = some r) : jM l yX9_mayCome (Cond.code yX9_mayCome cX9_mayCome 4 (some .boolean) :: bigW) rm_X9_mayCome D cy Λ S [vR (some p0), vI p1] rI (r, S) := jM_of (by decide +kernel) (Nat.le_of_ble_eq_true rfl) (fun X C E _ _ _ => j_sub [0, 1] rfl (jF_X9_mayCome C E p0 tp0 p1)) h
/-! RemakeNeeds2Model.findOrder()V -/
abbrev rm_X9_findOrder : Room := { frames := 3, cells := 0, slots := 0, locals := 71 }
def B_X9_findOrder_79 (N : Nat → Nat) (k41 : sSt → Nat → Int32 → Option sSt) (k51 : sSt → Nat → Int32 → Int32 → Option sSt) (S : sSt) (p0 : Nat) (p1 : Int32) (p2 : Int32) : Option sSt := k51 S p0 p1 (p2 + (1 : Int32))
set_option maxHeartbeats 4000000 in
theorem jB_X9_findOrder_79 {X : jX} (C : jC X cX9_findOrder 4 RX9 rm_X9_findOrder) {Λ : sLay} {r : sSt} (E : jE X none rV Λ ((), r)) (k41 : sSt → Nat → Int32 → Option sSt) (hk41 : ∀ (S : sSt) (p0 : Nat) (tp0 : isK Λ 9 p0) (p1 : Int32), J X 4 0 0 41 [(0, vR (some p0)), (1, vI p1)] [] Λ S (k41 S p0 p1 = some r)) (k51 : sSt → Nat → Int32 → Int32 → Option sSt) (hk51 : ∀ (S : sSt) (p0 : Nat) (tp0 : isK Λ 9 p0) (p1 : Int32) (p2 : Int32), J X 4 0 0 51 [(0, vR (some p0)), (1, vI p1), (2, vI p2)] [] Λ S (k51 S p0 p1 p2 = some r)) : ∀ (S : sSt) (p0 : Nat) (tp0 : isK Λ 9 p0) (p1 : Int32) (p2 : Int32), J X 4 0 0 79 [(0, vR (some p0)), (1, vI p1), (2, vI p2)] [] Λ S (B_X9_findOrder_79 Λ.2.2 k41 k51 S p0 p1 p2 = some r) := by
  intro S p0 tp0 p1 p2
  unfold B_X9_findOrder_79
  refine j_iinc C (v := (1 : Int32)) (L' := [(2, vI (p2 + (1 : Int32))), (0, vR (some p0)), (1, vI p1)]) dX9_findOrder_79 2 rfl (by decide) (by decide) rfl ?_
  refine j_goto C (tgt := 51) dX9_findOrder_82 (by decide) ?_
  refine j_sub (L' := [(0, vR (some p0)), (1, vI p1), (2, vI (p2 + (1 : Int32)))]) [1, 2, 0] rfl ?_
  exact hk51 S p0 tp0 p1 (p2 + (1 : Int32))
def B_X9_findOrder_143 (N : Nat → Nat) (k41 : sSt → Nat → Int32 → Option sSt) (k87 : sSt → Nat → Int32 → Int32 → Int32 → Option sSt) (S : sSt) (p0 : Nat) (p1 : Int32) (p2 : Int32) (p3 : Int32) : Option sSt := k87 S p0 p1 p2 (p3 + (1 : Int32))
set_option maxHeartbeats 4000000 in
theorem jB_X9_findOrder_143 {X : jX} (C : jC X cX9_findOrder 4 RX9 rm_X9_findOrder) {Λ : sLay} {r : sSt} (E : jE X none rV Λ ((), r)) (k41 : sSt → Nat → Int32 → Option sSt) (hk41 : ∀ (S : sSt) (p0 : Nat) (tp0 : isK Λ 9 p0) (p1 : Int32), J X 4 0 0 41 [(0, vR (some p0)), (1, vI p1)] [] Λ S (k41 S p0 p1 = some r)) (k87 : sSt → Nat → Int32 → Int32 → Int32 → Option sSt) (hk87 : ∀ (S : sSt) (p0 : Nat) (tp0 : isK Λ 9 p0) (p1 : Int32) (p2 : Int32) (p3 : Int32), J X 4 0 0 87 [(0, vR (some p0)), (1, vI p1), (2, vI p2), (3, vI p3)] [] Λ S (k87 S p0 p1 p2 p3 = some r)) : ∀ (S : sSt) (p0 : Nat) (tp0 : isK Λ 9 p0) (p1 : Int32) (p2 : Int32) (p3 : Int32), J X 4 0 0 143 [(0, vR (some p0)), (1, vI p1), (2, vI p2), (3, vI p3)] [] Λ S (B_X9_findOrder_143 Λ.2.2 k41 k87 S p0 p1 p2 p3 = some r) := by
  intro S p0 tp0 p1 p2 p3
  unfold B_X9_findOrder_143
  refine j_iinc C (v := (1 : Int32)) (L' := [(3, vI (p3 + (1 : Int32))), (0, vR (some p0)), (1, vI p1), (2, vI p2)]) dX9_findOrder_143 3 rfl (by decide) (by decide) rfl ?_
  refine j_goto C (tgt := 87) dX9_findOrder_146 (by decide) ?_
  refine j_sub (L' := [(0, vR (some p0)), (1, vI p1), (2, vI p2), (3, vI (p3 + (1 : Int32)))]) [1, 2, 3, 0] rfl ?_
  exact hk87 S p0 tp0 p1 p2 (p3 + (1 : Int32))
def Y_X9_findOrder_87 (N : Nat → Nat) (k41 : sSt → Nat → Int32 → Option sSt) (rec : sSt → Nat → Int32 → Int32 → Int32 → Option sSt) (S : sSt) (p0 : Nat) (p1 : Int32) (p2 : Int32) (p3 : Int32) : Option sSt := (if (gFI S 361 p0) ≤ p3 then bnd (sFI S 394 p0 ((gFI S 394 p0) + (1 : Int32))) (fun S13 => k41 S13 p0 p1) else bnd (gFR S 362 p0) (fun x14 => Option.bind x14 (fun a15 => gi p3 (N a15) ((if (gAI S a15 (Int32.toNatClampNeg p3)) = 0 then B_X9_findOrder_143 N k41 rec S p0 p1 p2 p3 else Option.bind (F_X9_areOne N S p0 p2 p3) (fun v16 => (if v16 = 0 then B_X9_findOrder_143 N k41 rec S p0 p1 p2 p3 else bnd (gFR S 391 p0) (fun x18 => Option.bind x18 (fun a19 => gi p3 (N a19) (bnd (sAI S a19 (Int32.toNatClampNeg p3) (gFI S 394 p0)) (fun S20 => bnd (gFR S20 392 p0) (fun x21 => Option.bind x21 (fun a22 => gi (gFI S20 393 p0) (N a22) (bnd (sAI S20 a22 (Int32.toNatClampNeg (gFI S20 393 p0)) p3) (fun S23 => bnd (sFI S23 393 p0 ((gFI S23 393 p0) + (1 : Int32))) (fun S24 => B_X9_findOrder_143 N k41 rec S24 p0 p1 p2 p3))))))))))))))))
set_option maxHeartbeats 4000000 in
theorem jY_X9_findOrder_87 {X : jX} (C : jC X cX9_findOrder 4 RX9 rm_X9_findOrder) {Λ : sLay} {r : sSt} (E : jE X none rV Λ ((), r)) (k41 : sSt → Nat → Int32 → Option sSt) (hk41 : ∀ (S : sSt) (p0 : Nat) (tp0 : isK Λ 9 p0) (p1 : Int32), J X 4 0 0 41 [(0, vR (some p0)), (1, vI p1)] [] Λ S (k41 S p0 p1 = some r)) (rec : sSt → Nat → Int32 → Int32 → Int32 → Option sSt) (hrec : ∀ (S : sSt) (p0 : Nat) (tp0 : isK Λ 9 p0) (p1 : Int32) (p2 : Int32) (p3 : Int32), J X 4 0 0 87 [(0, vR (some p0)), (1, vI p1), (2, vI p2), (3, vI p3)] [] Λ S (rec S p0 p1 p2 p3 = some r)) : ∀ (S : sSt) (p0 : Nat) (tp0 : isK Λ 9 p0) (p1 : Int32) (p2 : Int32) (p3 : Int32), J X 4 0 0 87 [(0, vR (some p0)), (1, vI p1), (2, vI p2), (3, vI p3)] [] Λ S (Y_X9_findOrder_87 Λ.2.2 k41 rec S p0 p1 p2 p3 = some r) := by
  intro S p0 tp0 p1 p2 p3
  unfold Y_X9_findOrder_87
  refine j_iload_n C dX9_findOrder_87 3 rfl ?_
  refine j_aload_n C dX9_findOrder_88 0 rfl ?_
  refine j_getI C kK9 f361 kfX9_103 (by decide) tp0 dX9_findOrder_89 ?_
  refine j_icmp_ge C (tgt := 149) dX9_findOrder_92 (by decide) ?_ ?_
  · refine j_aload_n C dX9_findOrder_149 0 rfl ?_
    refine j_dup C dX9_findOrder_150 rfl ?_
    refine j_getI C kK9 f394 kfX9_216 (by decide) tp0 dX9_findOrder_151 ?_
    refine j_iconst C (v := (1 : Int32)) dX9_findOrder_154 (by decide) ?_
    refine j_iadd C dX9_findOrder_155 ?_
    refine j_putI C kK9 f394 kfX9_216 (by decide) rfl rfl rfl tp0 dX9_findOrder_156 (fun S13 => ?_)
    refine j_goto C (tgt := 41) dX9_findOrder_159 (by decide) ?_
    refine j_sub (L' := [(0, vR (some p0)), (1, vI p1)]) [0, 1] rfl ?_
    exact hk41 S13 p0 tp0 p1
  · refine j_aload_n C dX9_findOrder_95 0 rfl ?_
    refine j_getR C kK9 f362 kfX9_7 (by decide) rfl tp0 dX9_findOrder_96 (fun x14 tx14 => ?_)
    refine j_iload_n C dX9_findOrder_99 3 rfl ?_
    refine j_oc tx14 (fun a15 ta15 ea15 => ?_)
    subst ea15
    refine j_zald C ta15 dX9_findOrder_100 ?_
    refine j_if_eq C (tgt := 143) dX9_findOrder_101 (by decide) ?_ ?_
    · exact jB_X9_findOrder_143 C E k41 hk41 rec hrec S p0 tp0 p1 p2 p3
    · refine j_aload_n C dX9_findOrder_104 0 rfl ?_
      refine j_iload_n C dX9_findOrder_105 2 rfl ?_
      refine j_iload_n C dX9_findOrder_106 3 rfl ?_
      refine j_cVIP C [vI p2, vI p3] [] (fun _ e => c_X9_areOne p0 tp0 p2 p3 e) kYX9_areOne kVX9_areOne kmX9_210 kO9 tp0 rfl rfl ⟨rfl, rfl, by decide, by decide⟩ (Nat.le_of_ble_eq_true rfl) ⟨Nat.zero_le _, Nat.zero_le _⟩ dX9_findOrder_107 (fun v16 => ?_)
      refine j_if_eq C (tgt := 143) dX9_findOrder_110 (by decide) ?_ ?_
      · exact jB_X9_findOrder_143 C E k41 hk41 rec hrec S p0 tp0 p1 p2 p3
      · refine j_aload_n C dX9_findOrder_113 0 rfl ?_
        refine j_getR C kK9 f391 kfX9_90 (by decide) rfl tp0 dX9_findOrder_114 (fun x18 tx18 => ?_)
        refine j_iload_n C dX9_findOrder_117 3 rfl ?_
        refine j_aload_n C dX9_findOrder_118 0 rfl ?_
        refine j_getI C kK9 f394 kfX9_216 (by decide) tp0 dX9_findOrder_119 ?_
        refine j_oc tx18 (fun a19 ta19 ea19 => ?_)
        subst ea19
        refine j_iast C ta19 dX9_findOrder_122 (fun S20 => ?_)
        refine j_aload_n C dX9_findOrder_123 0 rfl ?_
        refine j_getR C kK9 f392 kfX9_93 (by decide) rfl tp0 dX9_findOrder_124 (fun x21 tx21 => ?_)
        refine j_aload_n C dX9_findOrder_127 0 rfl ?_
        refine j_getI C kK9 f393 kfX9_201 (by decide) tp0 dX9_findOrder_128 ?_
        refine j_iload_n C dX9_findOrder_131 3 rfl ?_
        refine j_oc tx21 (fun a22 ta22 ea22 => ?_)
        subst ea22
        refine j_iast C ta22 dX9_findOrder_132 (fun S23 => ?_)
        refine j_aload_n C dX9_findOrder_133 0 rfl ?_
        refine j_dup C dX9_findOrder_134 rfl ?_
        refine j_getI C kK9 f393 kfX9_201 (by decide) tp0 dX9_findOrder_135 ?_
        refine j_iconst C (v := (1 : Int32)) dX9_findOrder_138 (by decide) ?_
        refine j_iadd C dX9_findOrder_139 ?_
        refine j_putI C kK9 f393 kfX9_201 (by decide) rfl rfl rfl tp0 dX9_findOrder_140 (fun S24 => ?_)
        exact jB_X9_findOrder_143 C E k41 hk41 rec hrec S24 p0 tp0 p1 p2 p3
def L_X9_findOrder_87 (N : Nat → Nat) (k41 : sSt → Nat → Int32 → Option sSt) (n : Nat) : sSt → Nat → Int32 → Int32 → Int32 → Option sSt := iter (fun _ _ _ _ _ => none) (Y_X9_findOrder_87 N k41) n
theorem jL_X9_findOrder_87 {X : jX} (C : jC X cX9_findOrder 4 RX9 rm_X9_findOrder) {Λ : sLay} {r : sSt} (E : jE X none rV Λ ((), r)) (k41 : sSt → Nat → Int32 → Option sSt) (hk41 : ∀ (S : sSt) (p0 : Nat) (tp0 : isK Λ 9 p0) (p1 : Int32), J X 4 0 0 41 [(0, vR (some p0)), (1, vI p1)] [] Λ S (k41 S p0 p1 = some r)) : ∀ (n : Nat) (S : sSt) (p0 : Nat) (tp0 : isK Λ 9 p0) (p1 : Int32) (p2 : Int32) (p3 : Int32), J X 4 0 0 87 [(0, vR (some p0)), (1, vI p1), (2, vI p2), (3, vI p3)] [] Λ S (L_X9_findOrder_87 Λ.2.2 k41 n S p0 p1 p2 p3 = some r) := by
  intro n
  induction n with
  | zero => intro S p0 tp0 p1 p2 p3; exact j_no (fun h => by have h2 : (none : Option sSt) = some r := h; cases h2)
  | succ n ih => intro S p0 tp0 p1 p2 p3; exact jY_X9_findOrder_87 C E k41 hk41 (L_X9_findOrder_87 Λ.2.2 k41 n) ih S p0 tp0 p1 p2 p3
def Y_X9_findOrder_51 (N : Nat → Nat) (k41 : sSt → Nat → Int32 → Option sSt) (rec : sSt → Nat → Int32 → Int32 → Option sSt) (S : sSt) (p0 : Nat) (p1 : Int32) (p2 : Int32) : Option sSt := bnd (gFR S 362 p0) (fun x7 => Option.bind x7 (fun a8 => gi p2 (N a8) ((if (gAI S a8 (Int32.toNatClampNeg p2)) = 0 then B_X9_findOrder_79 N k41 rec S p0 p1 p2 else bnd (gFR S 391 p0) (fun x9 => Option.bind x9 (fun a10 => gi p2 (N a10) ((if (gAI S a10 (Int32.toNatClampNeg p2)) = (-5 : Int32) then Option.bind (F_X9_mayCome N S p0 p2) (fun v11 => (if v11 = 0 then B_X9_findOrder_79 N k41 rec S p0 p1 p2 else L_X9_findOrder_87 N k41 FU S p0 p1 p2 p2)) else B_X9_findOrder_79 N k41 rec S p0 p1 p2))))))))
set_option maxHeartbeats 4000000 in
theorem jY_X9_findOrder_51 {X : jX} (C : jC X cX9_findOrder 4 RX9 rm_X9_findOrder) {Λ : sLay} {r : sSt} (E : jE X none rV Λ ((), r)) (k41 : sSt → Nat → Int32 → Option sSt) (hk41 : ∀ (S : sSt) (p0 : Nat) (tp0 : isK Λ 9 p0) (p1 : Int32), J X 4 0 0 41 [(0, vR (some p0)), (1, vI p1)] [] Λ S (k41 S p0 p1 = some r)) (rec : sSt → Nat → Int32 → Int32 → Option sSt) (hrec : ∀ (S : sSt) (p0 : Nat) (tp0 : isK Λ 9 p0) (p1 : Int32) (p2 : Int32), J X 4 0 0 51 [(0, vR (some p0)), (1, vI p1), (2, vI p2)] [] Λ S (rec S p0 p1 p2 = some r)) : ∀ (S : sSt) (p0 : Nat) (tp0 : isK Λ 9 p0) (p1 : Int32) (p2 : Int32), J X 4 0 0 51 [(0, vR (some p0)), (1, vI p1), (2, vI p2)] [] Λ S (Y_X9_findOrder_51 Λ.2.2 k41 rec S p0 p1 p2 = some r) := by
  intro S p0 tp0 p1 p2
  unfold Y_X9_findOrder_51
  refine j_aload_n C dX9_findOrder_51 0 rfl ?_
  refine j_getR C kK9 f362 kfX9_7 (by decide) rfl tp0 dX9_findOrder_52 (fun x7 tx7 => ?_)
  refine j_iload_n C dX9_findOrder_55 2 rfl ?_
  refine j_oc tx7 (fun a8 ta8 ea8 => ?_)
  subst ea8
  refine j_zald C ta8 dX9_findOrder_56 ?_
  refine j_if_eq C (tgt := 79) dX9_findOrder_57 (by decide) ?_ ?_
  · exact jB_X9_findOrder_79 C E k41 hk41 rec hrec S p0 tp0 p1 p2
  · refine j_aload_n C dX9_findOrder_60 0 rfl ?_
    refine j_getR C kK9 f391 kfX9_90 (by decide) rfl tp0 dX9_findOrder_61 (fun x9 tx9 => ?_)
    refine j_iload_n C dX9_findOrder_64 2 rfl ?_
    refine j_oc tx9 (fun a10 ta10 ea10 => ?_)
    subst ea10
    refine j_iald C ta10 dX9_findOrder_65 ?_
    refine j_bipush C (v := (-5 : Int32)) dX9_findOrder_66 (by decide) ?_
    refine j_icmp_ne C (tgt := 79) dX9_findOrder_68 (by decide) ?_ ?_
    · exact jB_X9_findOrder_79 C E k41 hk41 rec hrec S p0 tp0 p1 p2
    · refine j_aload_n C dX9_findOrder_71 0 rfl ?_
      refine j_iload_n C dX9_findOrder_72 2 rfl ?_
      refine j_cVIP C [vI p2] [] (fun _ e => c_X9_mayCome p0 tp0 p2 e) kYX9_mayCome kVX9_mayCome kmX9_219 kO9 tp0 rfl rfl ⟨rfl, rfl, by decide, by decide⟩ (Nat.le_of_ble_eq_true rfl) ⟨Nat.zero_le _, Nat.zero_le _⟩ dX9_findOrder_73 (fun v11 => ?_)
      refine j_if_ne C (tgt := 85) dX9_findOrder_76 (by decide) ?_ ?_
      · refine j_iload_n C dX9_findOrder_85 2 rfl ?_
        refine j_istore_n C (L' := [(3, vI p2), (0, vR (some p0)), (1, vI p1), (2, vI p2)]) dX9_findOrder_86 (by decide) rfl ?_
        refine j_sub (L' := [(0, vR (some p0)), (1, vI p1), (2, vI p2), (3, vI p2)]) [1, 2, 3, 0] rfl ?_
        exact jL_X9_findOrder_87 C E k41 hk41 FU S p0 tp0 p1 p2 p2
      · exact jB_X9_findOrder_79 C E k41 hk41 rec hrec S p0 tp0 p1 p2
def L_X9_findOrder_51 (N : Nat → Nat) (k41 : sSt → Nat → Int32 → Option sSt) (n : Nat) : sSt → Nat → Int32 → Int32 → Option sSt := iter (fun _ _ _ _ => none) (Y_X9_findOrder_51 N k41) n
theorem jL_X9_findOrder_51 {X : jX} (C : jC X cX9_findOrder 4 RX9 rm_X9_findOrder) {Λ : sLay} {r : sSt} (E : jE X none rV Λ ((), r)) (k41 : sSt → Nat → Int32 → Option sSt) (hk41 : ∀ (S : sSt) (p0 : Nat) (tp0 : isK Λ 9 p0) (p1 : Int32), J X 4 0 0 41 [(0, vR (some p0)), (1, vI p1)] [] Λ S (k41 S p0 p1 = some r)) : ∀ (n : Nat) (S : sSt) (p0 : Nat) (tp0 : isK Λ 9 p0) (p1 : Int32) (p2 : Int32), J X 4 0 0 51 [(0, vR (some p0)), (1, vI p1), (2, vI p2)] [] Λ S (L_X9_findOrder_51 Λ.2.2 k41 n S p0 p1 p2 = some r) := by
  intro n
  induction n with
  | zero => intro S p0 tp0 p1 p2; exact j_no (fun h => by have h2 : (none : Option sSt) = some r := h; cases h2)
  | succ n ih => intro S p0 tp0 p1 p2; exact jY_X9_findOrder_51 C E k41 hk41 (L_X9_findOrder_51 Λ.2.2 k41 n) ih S p0 tp0 p1 p2
def Y_X9_findOrder_41 (N : Nat → Nat) (rec : sSt → Nat → Int32 → Option sSt) (S : sSt) (p0 : Nat) (p1 : Int32) : Option sSt := (if p1 ≤ (gFI S 393 p0) then some S else L_X9_findOrder_51 N rec FU S p0 p1 (0 : Int32))
set_option maxHeartbeats 4000000 in
theorem jY_X9_findOrder_41 {X : jX} (C : jC X cX9_findOrder 4 RX9 rm_X9_findOrder) {Λ : sLay} {r : sSt} (E : jE X none rV Λ ((), r)) (rec : sSt → Nat → Int32 → Option sSt) (hrec : ∀ (S : sSt) (p0 : Nat) (tp0 : isK Λ 9 p0) (p1 : Int32), J X 4 0 0 41 [(0, vR (some p0)), (1, vI p1)] [] Λ S (rec S p0 p1 = some r)) : ∀ (S : sSt) (p0 : Nat) (tp0 : isK Λ 9 p0) (p1 : Int32), J X 4 0 0 41 [(0, vR (some p0)), (1, vI p1)] [] Λ S (Y_X9_findOrder_41 Λ.2.2 rec S p0 p1 = some r) := by
  intro S p0 tp0 p1
  unfold Y_X9_findOrder_41
  refine j_aload_n C dX9_findOrder_41 0 rfl ?_
  refine j_getI C kK9 f393 kfX9_201 (by decide) tp0 dX9_findOrder_42 ?_
  refine j_iload_n C dX9_findOrder_45 1 rfl ?_
  refine j_icmp_ge C (tgt := 162) dX9_findOrder_46 (by decide) ?_ ?_
  · exact j_vretP C E dX9_findOrder_162
  · refine j_iconst C (v := (0 : Int32)) dX9_findOrder_49 (by decide) ?_
    refine j_istore_n C (L' := [(2, vI (0 : Int32)), (0, vR (some p0)), (1, vI p1)]) dX9_findOrder_50 (by decide) rfl ?_
    refine j_sub (L' := [(0, vR (some p0)), (1, vI p1), (2, vI (0 : Int32))]) [1, 2, 0] rfl ?_
    exact jL_X9_findOrder_51 C E rec hrec FU S p0 tp0 p1 (0 : Int32)
def L_X9_findOrder_41 (N : Nat → Nat) (n : Nat) : sSt → Nat → Int32 → Option sSt := iter (fun _ _ _ => none) (Y_X9_findOrder_41 N) n
theorem jL_X9_findOrder_41 {X : jX} (C : jC X cX9_findOrder 4 RX9 rm_X9_findOrder) {Λ : sLay} {r : sSt} (E : jE X none rV Λ ((), r)) : ∀ (n : Nat) (S : sSt) (p0 : Nat) (tp0 : isK Λ 9 p0) (p1 : Int32), J X 4 0 0 41 [(0, vR (some p0)), (1, vI p1)] [] Λ S (L_X9_findOrder_41 Λ.2.2 n S p0 p1 = some r) := by
  intro n
  induction n with
  | zero => intro S p0 tp0 p1; exact j_no (fun h => by have h2 : (none : Option sSt) = some r := h; cases h2)
  | succ n ih => intro S p0 tp0 p1; exact jY_X9_findOrder_41 C E (L_X9_findOrder_41 Λ.2.2 n) ih S p0 tp0 p1
def Y_X9_findOrder_6 (N : Nat → Nat) (rec : sSt → Nat → Int32 → Option sSt) (S : sSt) (p0 : Nat) (p1 : Int32) : Option sSt := (if (16 : Int32) ≤ p1 then bnd (sFI S 393 p0 (0 : Int32)) (fun S3 => bnd (sFI S3 394 p0 (0 : Int32)) (fun S4 => Option.bind (F_X9_unitsThere N S4 p0) (fun v5 => L_X9_findOrder_41 N FU S4 p0 v5))) else bnd (gFR S 391 p0) (fun x25 => Option.bind x25 (fun a26 => gi p1 (N a26) (bnd (sAI S a26 (Int32.toNatClampNeg p1) (-5 : Int32)) (fun S27 => rec S27 p0 (p1 + (1 : Int32)))))))
set_option maxHeartbeats 4000000 in
theorem jY_X9_findOrder_6 {X : jX} (C : jC X cX9_findOrder 4 RX9 rm_X9_findOrder) {Λ : sLay} {r : sSt} (E : jE X none rV Λ ((), r)) (rec : sSt → Nat → Int32 → Option sSt) (hrec : ∀ (S : sSt) (p0 : Nat) (tp0 : isK Λ 9 p0) (p1 : Int32), J X 4 0 0 6 [(0, vR (some p0)), (1, vI p1)] [] Λ S (rec S p0 p1 = some r)) : ∀ (S : sSt) (p0 : Nat) (tp0 : isK Λ 9 p0) (p1 : Int32), J X 4 0 0 6 [(0, vR (some p0)), (1, vI p1)] [] Λ S (Y_X9_findOrder_6 Λ.2.2 rec S p0 p1 = some r) := by
  intro S p0 tp0 p1
  unfold Y_X9_findOrder_6
  refine j_iload_n C dX9_findOrder_6 1 rfl ?_
  refine j_bipush C (v := (16 : Int32)) dX9_findOrder_7 (by decide) ?_
  refine j_icmp_ge C (tgt := 26) dX9_findOrder_9 (by decide) ?_ ?_
  · refine j_aload_n C dX9_findOrder_26 0 rfl ?_
    refine j_iconst C (v := (0 : Int32)) dX9_findOrder_27 (by decide) ?_
    refine j_putI C kK9 f393 kfX9_201 (by decide) rfl rfl rfl tp0 dX9_findOrder_28 (fun S3 => ?_)
    refine j_aload_n C dX9_findOrder_31 0 rfl ?_
    refine j_iconst C (v := (0 : Int32)) dX9_findOrder_32 (by decide) ?_
    refine j_putI C kK9 f394 kfX9_216 (by decide) rfl rfl rfl tp0 dX9_findOrder_33 (fun S4 => ?_)
    refine j_aload_n C dX9_findOrder_36 0 rfl ?_
    refine j_cVIP C [] [] (fun _ e => c_X9_unitsThere p0 tp0 e) kYX9_unitsThere kVX9_unitsThere kmX9_133 kO9 tp0 rfl rfl ⟨rfl, rfl, by decide, by decide⟩ (Nat.le_of_ble_eq_true rfl) ⟨Nat.zero_le _, Nat.zero_le _⟩ dX9_findOrder_37 (fun v5 => ?_)
    refine j_istore_n C (L' := [(1, vI v5), (0, vR (some p0))]) dX9_findOrder_40 (by decide) rfl ?_
    refine j_sub (L' := [(0, vR (some p0)), (1, vI v5)]) [1, 0] rfl ?_
    exact jL_X9_findOrder_41 C E FU S4 p0 tp0 v5
  · refine j_aload_n C dX9_findOrder_12 0 rfl ?_
    refine j_getR C kK9 f391 kfX9_90 (by decide) rfl tp0 dX9_findOrder_13 (fun x25 tx25 => ?_)
    refine j_iload_n C dX9_findOrder_16 1 rfl ?_
    refine j_bipush C (v := (-5 : Int32)) dX9_findOrder_17 (by decide) ?_
    refine j_oc tx25 (fun a26 ta26 ea26 => ?_)
    subst ea26
    refine j_iast C ta26 dX9_findOrder_19 (fun S27 => ?_)
    refine j_iinc C (v := (1 : Int32)) (L' := [(1, vI (p1 + (1 : Int32))), (0, vR (some p0))]) dX9_findOrder_20 1 rfl (by decide) (by decide) rfl ?_
    refine j_goto C (tgt := 6) dX9_findOrder_23 (by decide) ?_
    refine j_sub (L' := [(0, vR (some p0)), (1, vI (p1 + (1 : Int32)))]) [1, 0] rfl ?_
    exact hrec S27 p0 tp0 (p1 + (1 : Int32))
def L_X9_findOrder_6 (N : Nat → Nat) (n : Nat) : sSt → Nat → Int32 → Option sSt := iter (fun _ _ _ => none) (Y_X9_findOrder_6 N) n
theorem jL_X9_findOrder_6 {X : jX} (C : jC X cX9_findOrder 4 RX9 rm_X9_findOrder) {Λ : sLay} {r : sSt} (E : jE X none rV Λ ((), r)) : ∀ (n : Nat) (S : sSt) (p0 : Nat) (tp0 : isK Λ 9 p0) (p1 : Int32), J X 4 0 0 6 [(0, vR (some p0)), (1, vI p1)] [] Λ S (L_X9_findOrder_6 Λ.2.2 n S p0 p1 = some r) := by
  intro n
  induction n with
  | zero => intro S p0 tp0 p1; exact j_no (fun h => by have h2 : (none : Option sSt) = some r := h; cases h2)
  | succ n ih => intro S p0 tp0 p1; exact jY_X9_findOrder_6 C E (L_X9_findOrder_6 Λ.2.2 n) ih S p0 tp0 p1
def F_X9_findOrder (N : Nat → Nat) (S : sSt) (p0 : Nat) : Option sSt := Option.bind (F_X9_findLeads N S p0) (fun S2 => L_X9_findOrder_6 N FU S2 p0 (0 : Int32))
set_option maxHeartbeats 4000000 in
theorem jF_X9_findOrder {X : jX} (C : jC X cX9_findOrder 4 RX9 rm_X9_findOrder) {Λ : sLay} {S : sSt} {r : sSt} (E : jE X none rV Λ ((), r)) (p0 : Nat) (tp0 : isK Λ 9 p0) : J X 4 0 0 0 [(0, vR (some p0))] [] Λ S (F_X9_findOrder Λ.2.2 S p0 = some r) := by
  unfold F_X9_findOrder
  refine j_aload_n C dX9_findOrder_0 0 rfl ?_
  refine j_cVVV C [] [] (fun _ e => c_X9_findLeads p0 tp0 e) kYX9_findLeads kVX9_findLeads kmX9_213 kO9 tp0 rfl rfl ⟨rfl, rfl, by decide, by decide⟩ (Nat.le_of_ble_eq_true rfl) ⟨Nat.zero_le _, Nat.zero_le _⟩ dX9_findOrder_1 (fun S2 => ?_)
  refine j_iconst C (v := (0 : Int32)) dX9_findOrder_4 (by decide) ?_
  refine j_istore_n C (L' := [(1, vI (0 : Int32)), (0, vR (some p0))]) dX9_findOrder_5 (by decide) rfl ?_
  refine j_sub (L' := [(0, vR (some p0)), (1, vI (0 : Int32))]) [1, 0] rfl ?_
  exact jL_X9_findOrder_6 C E FU S2 p0 tp0 (0 : Int32)
theorem c_X9_findOrder {l : Launch} {D : va_G} {cy : Nat → ClassId} {Λ : sLay} {S : sSt} (p0 : Nat) (tp0 : isK Λ 9 p0) {r : sSt} (h : F_X9_findOrder Λ.2.2 S p0 = some r) : jM l yX9_findOrder (Cond.code yX9_findOrder cX9_findOrder 4 none :: bigW) rm_X9_findOrder D cy Λ S [vR (some p0)] rV ((), r) := jM_of (by decide +kernel) (Nat.le_of_ble_eq_true rfl) (fun X C E _ _ _ => j_sub [0] rfl (jF_X9_findOrder C E p0 tp0)) h
/-! RemakeNeeds2Model.isConstant(I)Z -/
abbrev rm_X9_isConstant : Room := { frames := 0, cells := 0, slots := 0, locals := 0 }
def F_X9_isConstant (N : Nat → Nat) (S : sSt) (p0 : Nat) (p1 : Int32) : Option Int32 := bnd (gFR S 362 p0) (fun x1 => Option.bind x1 (fun a2 => gi (p1 / (10 : Int32)) (N a2) ((if (gAI S a2 (Int32.toNatClampNeg (p1 / (10 : Int32)))) = 0 then some (0 : Int32) else bnd (gFR S 363 p0) (fun x3 => Option.bind x3 (fun a4 => gi (p1 / (10 : Int32)) (N a4) ((if (gAI S a4 (Int32.toNatClampNeg (p1 / (10 : Int32)))) ≤ (p1 - p1 / (10 : Int32) * (10 : Int32)) then some (0 : Int32) else bnd (gFR S 364 p0) (fun x5 => Option.bind x5 (fun a6 => gi p1 (N a6) ((if ((gAI S a6 (Int32.toNatClampNeg p1)) / (32 : Int32)) = (1 : Int32) then some (1 : Int32) else some (0 : Int32)))))))))))))
set_option maxHeartbeats 4000000 in
theorem jF_X9_isConstant {X : jX} (C : jC X cX9_isConstant 3 RX9 rm_X9_isConstant) {Λ : sLay} {S : sSt} {r : Int32} (E : jE X (some .boolean) rI Λ (r, S)) (p0 : Nat) (tp0 : isK Λ 9 p0) (p1 : Int32) : J X 3 0 0 0 [(0, vR (some p0)), (1, vI p1)] [] Λ S (F_X9_isConstant Λ.2.2 S p0 p1 = some r) := by
  unfold F_X9_isConstant
  refine j_iload_n C dX9_isConstant_0 1 rfl ?_
  refine j_bipush C (v := (10 : Int32)) dX9_isConstant_1 (by decide) ?_
  refine j_idiv C dX9_isConstant_3 (by decide) ?_
  refine j_istore_n C (L' := [(2, vI (p1 / (10 : Int32))), (0, vR (some p0)), (1, vI p1)]) dX9_isConstant_4 (by decide) rfl ?_
  refine j_aload_n C dX9_isConstant_5 1 rfl ?_
  refine j_getR C kK9 f362 kfX9_7 (by decide) rfl tp0 dX9_isConstant_6 (fun x1 tx1 => ?_)
  refine j_iload_n C dX9_isConstant_9 0 rfl ?_
  refine j_oc tx1 (fun a2 ta2 ea2 => ?_)
  subst ea2
  refine j_zald C ta2 dX9_isConstant_10 ?_
  refine j_if_eq C (tgt := 44) dX9_isConstant_11 (by decide) ?_ ?_
  · refine j_iconst C (v := (0 : Int32)) dX9_isConstant_44 (by decide) ?_
    exact j_zretKP C E (by decide) dX9_isConstant_45
  · refine j_iload_n C dX9_isConstant_14 2 rfl ?_
    refine j_bipush C (v := (10 : Int32)) dX9_isConstant_15 (by decide) ?_
    refine j_irem C dX9_isConstant_17 (by decide) ?_
    refine j_aload_n C dX9_isConstant_18 1 rfl ?_
    refine j_getR C kK9 f363 kfX9_13 (by decide) rfl tp0 dX9_isConstant_19 (fun x3 tx3 => ?_)
    refine j_iload_n C dX9_isConstant_22 0 rfl ?_
    refine j_oc tx3 (fun a4 ta4 ea4 => ?_)
    subst ea4
    refine j_iald C ta4 dX9_isConstant_23 ?_
    refine j_icmp_ge C (tgt := 44) dX9_isConstant_24 (by decide) ?_ ?_
    · refine j_iconst C (v := (0 : Int32)) dX9_isConstant_44 (by decide) ?_
      exact j_zretKP C E (by decide) dX9_isConstant_45
    · refine j_aload_n C dX9_isConstant_27 1 rfl ?_
      refine j_getR C kK9 f364 kfX9_17 (by decide) rfl tp0 dX9_isConstant_28 (fun x5 tx5 => ?_)
      refine j_iload_n C dX9_isConstant_31 2 rfl ?_
      refine j_oc tx5 (fun a6 ta6 ea6 => ?_)
      subst ea6
      refine j_iald C ta6 dX9_isConstant_32 ?_
      refine j_bipush C (v := (32 : Int32)) dX9_isConstant_33 (by decide) ?_
      refine j_idiv C dX9_isConstant_35 (by decide) ?_
      refine j_iconst C (v := (1 : Int32)) dX9_isConstant_36 (by decide) ?_
      refine j_icmp_ne C (tgt := 44) dX9_isConstant_37 (by decide) ?_ ?_
      · refine j_iconst C (v := (0 : Int32)) dX9_isConstant_44 (by decide) ?_
        exact j_zretKP C E (by decide) dX9_isConstant_45
      · refine j_iconst C (v := (1 : Int32)) dX9_isConstant_40 (by decide) ?_
        refine j_goto C (tgt := 45) dX9_isConstant_41 (by decide) ?_
        exact j_zretKP C E (by decide) dX9_isConstant_45
theorem c_X9_isConstant {l : Launch} {D : va_G} {cy : Nat → ClassId} {Λ : sLay} {S : sSt} (p0 : Nat) (tp0 : isK Λ 9 p0) (p1 : Int32) {r : Int32} (h : F_X9_isConstant Λ.2.2 S p0 p1 = some r) : jM l yX9_isConstant (Cond.code yX9_isConstant cX9_isConstant 3 (some .boolean) :: bigW) rm_X9_isConstant D cy Λ S [vR (some p0), vI p1] rI (r, S) := jM_of (by decide +kernel) (Nat.le_of_ble_eq_true rfl) (fun X C E _ _ _ => j_sub [0, 1] rfl (jF_X9_isConstant C E p0 tp0 p1)) h
/-! RemakeNeeds2Model.waitsForNone(I)Z -/
abbrev rm_X9_waitsForNone : Room := { frames := 0, cells := 0, slots := 0, locals := 0 }
def B_X9_waitsForNone_51 (N : Nat → Nat) (S : sSt) (k4 : Nat → Int32 → Int32 → Int32 → Option Int32) (p0 : Nat) (p1 : Int32) (p3 : Int32) (s0 : Int32) : Option Int32 := k4 p0 p1 s0 (p3 + (1 : Int32))
set_option maxHeartbeats 4000000 in
theorem jB_X9_waitsForNone_51 {X : jX} (C : jC X cX9_waitsForNone 4 RX9 rm_X9_waitsForNone) {Λ : sLay} {S : sSt} {r : Int32} (E : jE X (some .boolean) rI Λ (r, S)) (k4 : Nat → Int32 → Int32 → Int32 → Option Int32) (hk4 : ∀ (p0 : Nat) (tp0 : isK Λ 9 p0) (p1 : Int32) (p2 : Int32) (p3 : Int32), J X 4 0 0 4 [(0, vR (some p0)), (1, vI p1), (2, vI p2), (3, vI p3)] [] Λ S (k4 p0 p1 p2 p3 = some r)) : ∀ (p0 : Nat) (tp0 : isK Λ 9 p0) (p1 : Int32) (p3 : Int32) (s0 : Int32), J X 4 0 0 51 [(0, vR (some p0)), (1, vI p1), (3, vI p3)] [vI s0] Λ S (B_X9_waitsForNone_51 Λ.2.2 S k4 p0 p1 p3 s0 = some r) := by
  intro p0 tp0 p1 p3 s0
  unfold B_X9_waitsForNone_51
  refine j_istore_n C (L' := [(2, vI s0), (0, vR (some p0)), (1, vI p1), (3, vI p3)]) dX9_waitsForNone_51 (by decide) rfl ?_
  refine j_iinc C (v := (1 : Int32)) (L' := [(3, vI (p3 + (1 : Int32))), (2, vI s0), (0, vR (some p0)), (1, vI p1)]) dX9_waitsForNone_52 3 rfl (by decide) (by decide) rfl ?_
  refine j_goto C (tgt := 4) dX9_waitsForNone_55 (by decide) ?_
  refine j_sub (L' := [(0, vR (some p0)), (1, vI p1), (2, vI s0), (3, vI (p3 + (1 : Int32)))]) [2, 3, 1, 0] rfl ?_
  exact hk4 p0 tp0 p1 s0 (p3 + (1 : Int32))
def B_X9_waitsForNone_50 (N : Nat → Nat) (S : sSt) (k4 : Nat → Int32 → Int32 → Int32 → Option Int32) (p0 : Nat) (p1 : Int32) (p3 : Int32) : Option Int32 := B_X9_waitsForNone_51 N S k4 p0 p1 p3 (0 : Int32)
set_option maxHeartbeats 4000000 in
theorem jB_X9_waitsForNone_50 {X : jX} (C : jC X cX9_waitsForNone 4 RX9 rm_X9_waitsForNone) {Λ : sLay} {S : sSt} {r : Int32} (E : jE X (some .boolean) rI Λ (r, S)) (k4 : Nat → Int32 → Int32 → Int32 → Option Int32) (hk4 : ∀ (p0 : Nat) (tp0 : isK Λ 9 p0) (p1 : Int32) (p2 : Int32) (p3 : Int32), J X 4 0 0 4 [(0, vR (some p0)), (1, vI p1), (2, vI p2), (3, vI p3)] [] Λ S (k4 p0 p1 p2 p3 = some r)) : ∀ (p0 : Nat) (tp0 : isK Λ 9 p0) (p1 : Int32) (p3 : Int32), J X 4 0 0 50 [(0, vR (some p0)), (1, vI p1), (3, vI p3)] [] Λ S (B_X9_waitsForNone_50 Λ.2.2 S k4 p0 p1 p3 = some r) := by
  intro p0 tp0 p1 p3
  unfold B_X9_waitsForNone_50
  refine j_iconst C (v := (0 : Int32)) dX9_waitsForNone_50 (by decide) ?_
  exact jB_X9_waitsForNone_51 C E k4 hk4 p0 tp0 p1 p3 (0 : Int32)
def B_X9_waitsForNone_46 (N : Nat → Nat) (S : sSt) (k4 : Nat → Int32 → Int32 → Int32 → Option Int32) (p0 : Nat) (p1 : Int32) (p3 : Int32) : Option Int32 := B_X9_waitsForNone_51 N S k4 p0 p1 p3 (1 : Int32)
set_option maxHeartbeats 4000000 in
theorem jB_X9_waitsForNone_46 {X : jX} (C : jC X cX9_waitsForNone 4 RX9 rm_X9_waitsForNone) {Λ : sLay} {S : sSt} {r : Int32} (E : jE X (some .boolean) rI Λ (r, S)) (k4 : Nat → Int32 → Int32 → Int32 → Option Int32) (hk4 : ∀ (p0 : Nat) (tp0 : isK Λ 9 p0) (p1 : Int32) (p2 : Int32) (p3 : Int32), J X 4 0 0 4 [(0, vR (some p0)), (1, vI p1), (2, vI p2), (3, vI p3)] [] Λ S (k4 p0 p1 p2 p3 = some r)) : ∀ (p0 : Nat) (tp0 : isK Λ 9 p0) (p1 : Int32) (p3 : Int32), J X 4 0 0 46 [(0, vR (some p0)), (1, vI p1), (3, vI p3)] [] Λ S (B_X9_waitsForNone_46 Λ.2.2 S k4 p0 p1 p3 = some r) := by
  intro p0 tp0 p1 p3
  unfold B_X9_waitsForNone_46
  refine j_iconst C (v := (1 : Int32)) dX9_waitsForNone_46 (by decide) ?_
  refine j_goto C (tgt := 51) dX9_waitsForNone_47 (by decide) ?_
  exact jB_X9_waitsForNone_51 C E k4 hk4 p0 tp0 p1 p3 (1 : Int32)
def Y_X9_waitsForNone_4 (N : Nat → Nat) (S : sSt) (rec : Nat → Int32 → Int32 → Int32 → Option Int32) (p0 : Nat) (p1 : Int32) (p2 : Int32) (p3 : Int32) : Option Int32 := (if (3 : Int32) ≤ p3 then gb p2 (some p2) else (if p2 = 0 then B_X9_waitsForNone_50 N S rec p0 p1 p3 else bnd (gFR S 379 p0) (fun x1 => Option.bind x1 (fun a2 => gi (((3 : Int32) * p1) + p3) (N a2) ((if (gAI S a2 (Int32.toNatClampNeg (((3 : Int32) * p1) + p3))) = (-5 : Int32) then B_X9_waitsForNone_46 N S rec p0 p1 p3 else bnd (gFR S 380 p0) (fun x3 => bnd (gFR S 379 p0) (fun x4 => Option.bind x4 (fun a5 => gi (((3 : Int32) * p1) + p3) (N a5) (Option.bind x3 (fun a6 => gi (gAI S a5 (Int32.toNatClampNeg (((3 : Int32) * p1) + p3))) (N a6) ((if (gAI S a6 (Int32.toNatClampNeg (gAI S a5 (Int32.toNatClampNeg (((3 : Int32) * p1) + p3))))) = 0 then B_X9_waitsForNone_50 N S rec p0 p1 p3 else B_X9_waitsForNone_46 N S rec p0 p1 p3)))))))))))))
set_option maxHeartbeats 4000000 in
theorem jY_X9_waitsForNone_4 {X : jX} (C : jC X cX9_waitsForNone 4 RX9 rm_X9_waitsForNone) {Λ : sLay} {S : sSt} {r : Int32} (E : jE X (some .boolean) rI Λ (r, S)) (rec : Nat → Int32 → Int32 → Int32 → Option Int32) (hrec : ∀ (p0 : Nat) (tp0 : isK Λ 9 p0) (p1 : Int32) (p2 : Int32) (p3 : Int32), J X 4 0 0 4 [(0, vR (some p0)), (1, vI p1), (2, vI p2), (3, vI p3)] [] Λ S (rec p0 p1 p2 p3 = some r)) : ∀ (p0 : Nat) (tp0 : isK Λ 9 p0) (p1 : Int32) (p2 : Int32) (p3 : Int32), J X 4 0 0 4 [(0, vR (some p0)), (1, vI p1), (2, vI p2), (3, vI p3)] [] Λ S (Y_X9_waitsForNone_4 Λ.2.2 S rec p0 p1 p2 p3 = some r) := by
  intro p0 tp0 p1 p2 p3
  unfold Y_X9_waitsForNone_4
  refine j_iload_n C dX9_waitsForNone_4 3 rfl ?_
  refine j_iconst C (v := (3 : Int32)) dX9_waitsForNone_5 (by decide) ?_
  refine j_icmp_ge C (tgt := 58) dX9_waitsForNone_6 (by decide) ?_ ?_
  · refine j_iload_n C dX9_waitsForNone_58 2 rfl ?_
    exact j_zretP C E dX9_waitsForNone_59
  · refine j_iload_n C dX9_waitsForNone_9 2 rfl ?_
    refine j_if_eq C (tgt := 50) dX9_waitsForNone_10 (by decide) ?_ ?_
    · refine j_sub (L' := [(0, vR (some p0)), (1, vI p1), (3, vI p3)]) [0, 1, 3] rfl ?_
      exact jB_X9_waitsForNone_50 C E rec hrec p0 tp0 p1 p3
    · refine j_aload_n C dX9_waitsForNone_13 0 rfl ?_
      refine j_getR C kK9 f379 kfX9_60 (by decide) rfl tp0 dX9_waitsForNone_14 (fun x1 tx1 => ?_)
      refine j_iconst C (v := (3 : Int32)) dX9_waitsForNone_17 (by decide) ?_
      refine j_iload_n C dX9_waitsForNone_18 1 rfl ?_
      refine j_imul C dX9_waitsForNone_19 ?_
      refine j_iload_n C dX9_waitsForNone_20 3 rfl ?_
      refine j_iadd C dX9_waitsForNone_21 ?_
      refine j_oc tx1 (fun a2 ta2 ea2 => ?_)
      subst ea2
      refine j_iald C ta2 dX9_waitsForNone_22 ?_
      refine j_bipush C (v := (-5 : Int32)) dX9_waitsForNone_23 (by decide) ?_
      refine j_icmp_eq C (tgt := 46) dX9_waitsForNone_25 (by decide) ?_ ?_
      · refine j_sub (L' := [(0, vR (some p0)), (1, vI p1), (3, vI p3)]) [0, 1, 3] rfl ?_
        exact jB_X9_waitsForNone_46 C E rec hrec p0 tp0 p1 p3
      · refine j_aload_n C dX9_waitsForNone_28 0 rfl ?_
        refine j_getR C kK9 f380 kfX9_63 (by decide) rfl tp0 dX9_waitsForNone_29 (fun x3 tx3 => ?_)
        refine j_aload_n C dX9_waitsForNone_32 0 rfl ?_
        refine j_getR C kK9 f379 kfX9_60 (by decide) rfl tp0 dX9_waitsForNone_33 (fun x4 tx4 => ?_)
        refine j_iconst C (v := (3 : Int32)) dX9_waitsForNone_36 (by decide) ?_
        refine j_iload_n C dX9_waitsForNone_37 1 rfl ?_
        refine j_imul C dX9_waitsForNone_38 ?_
        refine j_iload_n C dX9_waitsForNone_39 3 rfl ?_
        refine j_iadd C dX9_waitsForNone_40 ?_
        refine j_oc tx4 (fun a5 ta5 ea5 => ?_)
        subst ea5
        refine j_iald C ta5 dX9_waitsForNone_41 ?_
        refine j_oc tx3 (fun a6 ta6 ea6 => ?_)
        subst ea6
        refine j_zald C ta6 dX9_waitsForNone_42 ?_
        refine j_if_eq C (tgt := 50) dX9_waitsForNone_43 (by decide) ?_ ?_
        · refine j_sub (L' := [(0, vR (some p0)), (1, vI p1), (3, vI p3)]) [0, 1, 3] rfl ?_
          exact jB_X9_waitsForNone_50 C E rec hrec p0 tp0 p1 p3
        · refine j_sub (L' := [(0, vR (some p0)), (1, vI p1), (3, vI p3)]) [0, 1, 3] rfl ?_
          exact jB_X9_waitsForNone_46 C E rec hrec p0 tp0 p1 p3
def L_X9_waitsForNone_4 (N : Nat → Nat) (S : sSt) (n : Nat) : Nat → Int32 → Int32 → Int32 → Option Int32 := iter (fun _ _ _ _ => none) (Y_X9_waitsForNone_4 N S) n
theorem jL_X9_waitsForNone_4 {X : jX} (C : jC X cX9_waitsForNone 4 RX9 rm_X9_waitsForNone) {Λ : sLay} {S : sSt} {r : Int32} (E : jE X (some .boolean) rI Λ (r, S)) : ∀ (n : Nat) (p0 : Nat) (tp0 : isK Λ 9 p0) (p1 : Int32) (p2 : Int32) (p3 : Int32), J X 4 0 0 4 [(0, vR (some p0)), (1, vI p1), (2, vI p2), (3, vI p3)] [] Λ S (L_X9_waitsForNone_4 Λ.2.2 S n p0 p1 p2 p3 = some r) := by
  intro n
  induction n with
  | zero => intro p0 tp0 p1 p2 p3; exact j_no (fun h => by have h2 : (none : Option Int32) = some r := h; cases h2)
  | succ n ih => intro p0 tp0 p1 p2 p3; exact jY_X9_waitsForNone_4 C E (L_X9_waitsForNone_4 Λ.2.2 S n) ih p0 tp0 p1 p2 p3
def F_X9_waitsForNone (N : Nat → Nat) (S : sSt) (p0 : Nat) (p1 : Int32) : Option Int32 := L_X9_waitsForNone_4 N S FU p0 p1 (1 : Int32) (0 : Int32)
set_option maxHeartbeats 4000000 in
theorem jF_X9_waitsForNone {X : jX} (C : jC X cX9_waitsForNone 4 RX9 rm_X9_waitsForNone) {Λ : sLay} {S : sSt} {r : Int32} (E : jE X (some .boolean) rI Λ (r, S)) (p0 : Nat) (tp0 : isK Λ 9 p0) (p1 : Int32) : J X 4 0 0 0 [(0, vR (some p0)), (1, vI p1)] [] Λ S (F_X9_waitsForNone Λ.2.2 S p0 p1 = some r) := by
  unfold F_X9_waitsForNone
  refine j_iconst C (v := (1 : Int32)) dX9_waitsForNone_0 (by decide) ?_
  refine j_istore_n C (L' := [(2, vI (1 : Int32)), (0, vR (some p0)), (1, vI p1)]) dX9_waitsForNone_1 (by decide) rfl ?_
  refine j_iconst C (v := (0 : Int32)) dX9_waitsForNone_2 (by decide) ?_
  refine j_istore_n C (L' := [(3, vI (0 : Int32)), (2, vI (1 : Int32)), (0, vR (some p0)), (1, vI p1)]) dX9_waitsForNone_3 (by decide) rfl ?_
  refine j_sub (L' := [(0, vR (some p0)), (1, vI p1), (2, vI (1 : Int32)), (3, vI (0 : Int32))]) [2, 3, 1, 0] rfl ?_
  exact jL_X9_waitsForNone_4 C E FU p0 tp0 p1 (1 : Int32) (0 : Int32)
theorem c_X9_waitsForNone {l : Launch} {D : va_G} {cy : Nat → ClassId} {Λ : sLay} {S : sSt} (p0 : Nat) (tp0 : isK Λ 9 p0) (p1 : Int32) {r : Int32} (h : F_X9_waitsForNone Λ.2.2 S p0 p1 = some r) : jM l yX9_waitsForNone (Cond.code yX9_waitsForNone cX9_waitsForNone 4 (some .boolean) :: bigW) rm_X9_waitsForNone D cy Λ S [vR (some p0), vI p1] rI (r, S) := jM_of (by decide +kernel) (Nat.le_of_ble_eq_true rfl) (fun X C E _ _ _ => j_sub [0, 1] rfl (jF_X9_waitsForNone C E p0 tp0 p1)) h
/-! RemakeNeeds2Model.reckon()V -/
abbrev rm_X9_reckon : Room := { frames := 2, cells := 0, slots := 0, locals := 48 }
def B_X9_reckon_223 (N : Nat → Nat) (k102 : sSt → Nat → Int32 → Option sSt) (k110 : sSt → Nat → Int32 → Int32 → Option sSt) (S : sSt) (p0 : Nat) (p1 : Int32) (p2 : Int32) : Option sSt := k110 S p0 p1 (p2 + (1 : Int32))
set_option maxHeartbeats 4000000 in
theorem jB_X9_reckon_223 {X : jX} (C : jC X cX9_reckon 6 RX9 rm_X9_reckon) {Λ : sLay} {r : sSt} (E : jE X none rV Λ ((), r)) (k102 : sSt → Nat → Int32 → Option sSt) (hk102 : ∀ (S : sSt) (p0 : Nat) (tp0 : isK Λ 9 p0) (p1 : Int32), J X 6 0 0 102 [(0, vR (some p0)), (1, vI p1)] [] Λ S (k102 S p0 p1 = some r)) (k110 : sSt → Nat → Int32 → Int32 → Option sSt) (hk110 : ∀ (S : sSt) (p0 : Nat) (tp0 : isK Λ 9 p0) (p1 : Int32) (p2 : Int32), J X 6 0 0 110 [(0, vR (some p0)), (1, vI p1), (2, vI p2)] [] Λ S (k110 S p0 p1 p2 = some r)) : ∀ (S : sSt) (p0 : Nat) (tp0 : isK Λ 9 p0) (p1 : Int32) (p2 : Int32), J X 6 0 0 223 [(0, vR (some p0)), (1, vI p1), (2, vI p2)] [] Λ S (B_X9_reckon_223 Λ.2.2 k102 k110 S p0 p1 p2 = some r) := by
  intro S p0 tp0 p1 p2
  unfold B_X9_reckon_223
  refine j_iinc C (v := (1 : Int32)) (L' := [(2, vI (p2 + (1 : Int32))), (0, vR (some p0)), (1, vI p1)]) dX9_reckon_223 2 rfl (by decide) (by decide) rfl ?_
  refine j_goto C (tgt := 110) dX9_reckon_226 (by decide) ?_
  refine j_sub (L' := [(0, vR (some p0)), (1, vI p1), (2, vI (p2 + (1 : Int32)))]) [1, 2, 0] rfl ?_
  exact hk110 S p0 tp0 p1 (p2 + (1 : Int32))
def B_X9_reckon_199 (N : Nat → Nat) (k102 : sSt → Nat → Int32 → Option sSt) (k110 : sSt → Nat → Int32 → Int32 → Option sSt) (k156 : sSt → Nat → Int32 → Int64 → Int32 → Option sSt) (S : sSt) (p0 : Nat) (p2 : Int32) (p5 : Int32) (s0 : Int64) (s1 : Int64) : Option sSt := k156 S p0 p2 (s1 + s0) (p5 + (1 : Int32))
set_option maxHeartbeats 4000000 in
theorem jB_X9_reckon_199 {X : jX} (C : jC X cX9_reckon 6 RX9 rm_X9_reckon) {Λ : sLay} {r : sSt} (E : jE X none rV Λ ((), r)) (k102 : sSt → Nat → Int32 → Option sSt) (hk102 : ∀ (S : sSt) (p0 : Nat) (tp0 : isK Λ 9 p0) (p1 : Int32), J X 6 0 0 102 [(0, vR (some p0)), (1, vI p1)] [] Λ S (k102 S p0 p1 = some r)) (k110 : sSt → Nat → Int32 → Int32 → Option sSt) (hk110 : ∀ (S : sSt) (p0 : Nat) (tp0 : isK Λ 9 p0) (p1 : Int32) (p2 : Int32), J X 6 0 0 110 [(0, vR (some p0)), (1, vI p1), (2, vI p2)] [] Λ S (k110 S p0 p1 p2 = some r)) (k156 : sSt → Nat → Int32 → Int64 → Int32 → Option sSt) (hk156 : ∀ (S : sSt) (p0 : Nat) (tp0 : isK Λ 9 p0) (p2 : Int32) (p3 : Int64) (p5 : Int32), J X 6 0 0 156 [(0, vR (some p0)), (2, vI p2), (3, vJ p3), (5, vI p5)] [] Λ S (k156 S p0 p2 p3 p5 = some r)) : ∀ (S : sSt) (p0 : Nat) (tp0 : isK Λ 9 p0) (p2 : Int32) (p5 : Int32) (s0 : Int64) (s1 : Int64), J X 6 0 0 199 [(0, vR (some p0)), (2, vI p2), (5, vI p5)] [vJ s0, vJ s1] Λ S (B_X9_reckon_199 Λ.2.2 k102 k110 k156 S p0 p2 p5 s0 s1 = some r) := by
  intro S p0 tp0 p2 p5 s0 s1
  unfold B_X9_reckon_199
  refine j_ladd C dX9_reckon_199 ?_
  refine j_lstore_n C (L' := [(3, vJ (s1 + s0)), (0, vR (some p0)), (2, vI p2), (5, vI p5)]) dX9_reckon_200 (by decide) rfl ?_
  refine j_iinc C (v := (1 : Int32)) (L' := [(5, vI (p5 + (1 : Int32))), (3, vJ (s1 + s0)), (0, vR (some p0)), (2, vI p2)]) dX9_reckon_201 3 rfl (by decide) (by decide) rfl ?_
  refine j_goto C (tgt := 156) dX9_reckon_204 (by decide) ?_
  refine j_sub (L' := [(0, vR (some p0)), (2, vI p2), (3, vJ (s1 + s0)), (5, vI (p5 + (1 : Int32)))]) [2, 3, 1, 0] rfl ?_
  exact hk156 S p0 tp0 p2 (s1 + s0) (p5 + (1 : Int32))
def Y_X9_reckon_156 (N : Nat → Nat) (k102 : sSt → Nat → Int32 → Option sSt) (k110 : sSt → Nat → Int32 → Int32 → Option sSt) (rec : sSt → Nat → Int32 → Int64 → Int32 → Option sSt) (S : sSt) (p0 : Nat) (p2 : Int32) (p3 : Int64) (p5 : Int32) : Option sSt := (if (3 : Int32) ≤ p5 then bnd (gFR S 381 p0) (fun x9 => Option.bind x9 (fun a10 => gi p2 (N a10) (bnd (sAJ S a10 (Int32.toNatClampNeg p2) p3) (fun S11 => bnd (gFR S11 380 p0) (fun x12 => Option.bind x12 (fun a13 => gi p2 (N a13) (bnd (sAI S11 a13 (Int32.toNatClampNeg p2) ((1 : Int32) &&& 1)) (fun S14 => B_X9_reckon_223 N k102 k110 S14 p0 (1 : Int32) p2)))))))) else bnd (gFR S 379 p0) (fun x15 => Option.bind x15 (fun a16 => gi (((3 : Int32) * p2) + p5) (N a16) ((if (gAI S a16 (Int32.toNatClampNeg (((3 : Int32) * p2) + p5))) = (-5 : Int32) then B_X9_reckon_199 N k102 k110 rec S p0 p2 p5 (0 : Int64) p3 else bnd (gFR S 381 p0) (fun x17 => bnd (gFR S 379 p0) (fun x18 => Option.bind x18 (fun a19 => gi (((3 : Int32) * p2) + p5) (N a19) (Option.bind x17 (fun a20 => gi (gAI S a19 (Int32.toNatClampNeg (((3 : Int32) * p2) + p5))) (N a20) (B_X9_reckon_199 N k102 k110 rec S p0 p2 p5 (gAJ S a20 (Int32.toNatClampNeg (gAI S a19 (Int32.toNatClampNeg (((3 : Int32) * p2) + p5))))) p3)))))))))))
set_option maxHeartbeats 4000000 in
theorem jY_X9_reckon_156 {X : jX} (C : jC X cX9_reckon 6 RX9 rm_X9_reckon) {Λ : sLay} {r : sSt} (E : jE X none rV Λ ((), r)) (k102 : sSt → Nat → Int32 → Option sSt) (hk102 : ∀ (S : sSt) (p0 : Nat) (tp0 : isK Λ 9 p0) (p1 : Int32), J X 6 0 0 102 [(0, vR (some p0)), (1, vI p1)] [] Λ S (k102 S p0 p1 = some r)) (k110 : sSt → Nat → Int32 → Int32 → Option sSt) (hk110 : ∀ (S : sSt) (p0 : Nat) (tp0 : isK Λ 9 p0) (p1 : Int32) (p2 : Int32), J X 6 0 0 110 [(0, vR (some p0)), (1, vI p1), (2, vI p2)] [] Λ S (k110 S p0 p1 p2 = some r)) (rec : sSt → Nat → Int32 → Int64 → Int32 → Option sSt) (hrec : ∀ (S : sSt) (p0 : Nat) (tp0 : isK Λ 9 p0) (p2 : Int32) (p3 : Int64) (p5 : Int32), J X 6 0 0 156 [(0, vR (some p0)), (2, vI p2), (3, vJ p3), (5, vI p5)] [] Λ S (rec S p0 p2 p3 p5 = some r)) : ∀ (S : sSt) (p0 : Nat) (tp0 : isK Λ 9 p0) (p2 : Int32) (p3 : Int64) (p5 : Int32), J X 6 0 0 156 [(0, vR (some p0)), (2, vI p2), (3, vJ p3), (5, vI p5)] [] Λ S (Y_X9_reckon_156 Λ.2.2 k102 k110 rec S p0 p2 p3 p5 = some r) := by
  intro S p0 tp0 p2 p3 p5
  unfold Y_X9_reckon_156
  refine j_iload C dX9_reckon_156 3 rfl ?_
  refine j_iconst C (v := (3 : Int32)) dX9_reckon_158 (by decide) ?_
  refine j_icmp_ge C (tgt := 207) dX9_reckon_159 (by decide) ?_ ?_
  · refine j_aload_n C dX9_reckon_207 0 rfl ?_
    refine j_getR C kK9 f381 kfX9_66 (by decide) rfl tp0 dX9_reckon_208 (fun x9 tx9 => ?_)
    refine j_iload_n C dX9_reckon_211 1 rfl ?_
    refine j_lload_n C dX9_reckon_212 2 rfl ?_
    refine j_oc tx9 (fun a10 ta10 ea10 => ?_)
    subst ea10
    refine j_last C ta10 dX9_reckon_213 (fun S11 => ?_)
    refine j_aload_n C dX9_reckon_214 0 rfl ?_
    refine j_getR C kK9 f380 kfX9_63 (by decide) rfl tp0 dX9_reckon_215 (fun x12 tx12 => ?_)
    refine j_iload_n C dX9_reckon_218 1 rfl ?_
    refine j_iconst C (v := (1 : Int32)) dX9_reckon_219 (by decide) ?_
    refine j_oc tx12 (fun a13 ta13 ea13 => ?_)
    subst ea13
    refine j_zast C ta13 dX9_reckon_220 (fun S14 => ?_)
    refine j_iconst C (v := (1 : Int32)) dX9_reckon_221 (by decide) ?_
    refine j_istore_n C (L' := [(1, vI (1 : Int32)), (0, vR (some p0)), (2, vI p2), (3, vJ p3), (5, vI p5)]) dX9_reckon_222 (by decide) rfl ?_
    refine j_sub (L' := [(0, vR (some p0)), (1, vI (1 : Int32)), (2, vI p2)]) [1, 0, 2] rfl ?_
    exact jB_X9_reckon_223 C E k102 hk102 k110 hk110 S14 p0 tp0 (1 : Int32) p2
  · refine j_lload_n C dX9_reckon_162 2 rfl ?_
    refine j_aload_n C dX9_reckon_163 0 rfl ?_
    refine j_getR C kK9 f379 kfX9_60 (by decide) rfl tp0 dX9_reckon_164 (fun x15 tx15 => ?_)
    refine j_iconst C (v := (3 : Int32)) dX9_reckon_167 (by decide) ?_
    refine j_iload_n C dX9_reckon_168 1 rfl ?_
    refine j_imul C dX9_reckon_169 ?_
    refine j_iload C dX9_reckon_170 3 rfl ?_
    refine j_iadd C dX9_reckon_172 ?_
    refine j_oc tx15 (fun a16 ta16 ea16 => ?_)
    subst ea16
    refine j_iald C ta16 dX9_reckon_173 ?_
    refine j_bipush C (v := (-5 : Int32)) dX9_reckon_174 (by decide) ?_
    refine j_icmp_ne C (tgt := 183) dX9_reckon_176 (by decide) ?_ ?_
    · refine j_aload_n C dX9_reckon_183 0 rfl ?_
      refine j_getR C kK9 f381 kfX9_66 (by decide) rfl tp0 dX9_reckon_184 (fun x17 tx17 => ?_)
      refine j_aload_n C dX9_reckon_187 0 rfl ?_
      refine j_getR C kK9 f379 kfX9_60 (by decide) rfl tp0 dX9_reckon_188 (fun x18 tx18 => ?_)
      refine j_iconst C (v := (3 : Int32)) dX9_reckon_191 (by decide) ?_
      refine j_iload_n C dX9_reckon_192 1 rfl ?_
      refine j_imul C dX9_reckon_193 ?_
      refine j_iload C dX9_reckon_194 3 rfl ?_
      refine j_iadd C dX9_reckon_196 ?_
      refine j_oc tx18 (fun a19 ta19 ea19 => ?_)
      subst ea19
      refine j_iald C ta19 dX9_reckon_197 ?_
      refine j_oc tx17 (fun a20 ta20 ea20 => ?_)
      subst ea20
      refine j_lald C ta20 dX9_reckon_198 ?_
      refine j_sub (L' := [(0, vR (some p0)), (2, vI p2), (5, vI p5)]) [0, 1, 3] rfl ?_
      exact jB_X9_reckon_199 C E k102 hk102 k110 hk110 rec hrec S p0 tp0 p2 p5 (gAJ S a20 (Int32.toNatClampNeg (gAI S a19 (Int32.toNatClampNeg (((3 : Int32) * p2) + p5))))) p3
    · refine j_lconst C (v := (0 : Int64)) dX9_reckon_179 (by decide) ?_
      refine j_goto C (tgt := 199) dX9_reckon_180 (by decide) ?_
      refine j_sub (L' := [(0, vR (some p0)), (2, vI p2), (5, vI p5)]) [0, 1, 3] rfl ?_
      exact jB_X9_reckon_199 C E k102 hk102 k110 hk110 rec hrec S p0 tp0 p2 p5 (0 : Int64) p3
def L_X9_reckon_156 (N : Nat → Nat) (k102 : sSt → Nat → Int32 → Option sSt) (k110 : sSt → Nat → Int32 → Int32 → Option sSt) (n : Nat) : sSt → Nat → Int32 → Int64 → Int32 → Option sSt := iter (fun _ _ _ _ _ => none) (Y_X9_reckon_156 N k102 k110) n
theorem jL_X9_reckon_156 {X : jX} (C : jC X cX9_reckon 6 RX9 rm_X9_reckon) {Λ : sLay} {r : sSt} (E : jE X none rV Λ ((), r)) (k102 : sSt → Nat → Int32 → Option sSt) (hk102 : ∀ (S : sSt) (p0 : Nat) (tp0 : isK Λ 9 p0) (p1 : Int32), J X 6 0 0 102 [(0, vR (some p0)), (1, vI p1)] [] Λ S (k102 S p0 p1 = some r)) (k110 : sSt → Nat → Int32 → Int32 → Option sSt) (hk110 : ∀ (S : sSt) (p0 : Nat) (tp0 : isK Λ 9 p0) (p1 : Int32) (p2 : Int32), J X 6 0 0 110 [(0, vR (some p0)), (1, vI p1), (2, vI p2)] [] Λ S (k110 S p0 p1 p2 = some r)) : ∀ (n : Nat) (S : sSt) (p0 : Nat) (tp0 : isK Λ 9 p0) (p2 : Int32) (p3 : Int64) (p5 : Int32), J X 6 0 0 156 [(0, vR (some p0)), (2, vI p2), (3, vJ p3), (5, vI p5)] [] Λ S (L_X9_reckon_156 Λ.2.2 k102 k110 n S p0 p2 p3 p5 = some r) := by
  intro n
  induction n with
  | zero => intro S p0 tp0 p2 p3 p5; exact j_no (fun h => by have h2 : (none : Option sSt) = some r := h; cases h2)
  | succ n ih => intro S p0 tp0 p2 p3 p5; exact jY_X9_reckon_156 C E k102 hk102 k110 hk110 (L_X9_reckon_156 Λ.2.2 k102 k110 n) ih S p0 tp0 p2 p3 p5
def Y_X9_reckon_110 (N : Nat → Nat) (k102 : sSt → Nat → Int32 → Option sSt) (rec : sSt → Nat → Int32 → Int32 → Option sSt) (S : sSt) (p0 : Nat) (p1 : Int32) (p2 : Int32) : Option sSt := (if ((10 : Int32) * (gFI S 361 p0)) ≤ p2 then k102 S p0 p1 else Option.bind (F_X9_isConstant N S p0 p2) (fun v1 => (if v1 = 0 then B_X9_reckon_223 N k102 rec S p0 p1 p2 else bnd (gFR S 380 p0) (fun x3 => Option.bind x3 (fun a4 => gi p2 (N a4) ((if (gAI S a4 (Int32.toNatClampNeg p2)) = 0 then Option.bind (F_X9_waitsForNone N S p0 p2) (fun v5 => (if v5 = 0 then B_X9_reckon_223 N k102 rec S p0 p1 p2 else bnd (gFR S 365 p0) (fun x7 => Option.bind x7 (fun a8 => gi p2 (N a8) (L_X9_reckon_156 N k102 rec FU S p0 p2 (gAJ S a8 (Int32.toNatClampNeg p2)) (0 : Int32)))))) else B_X9_reckon_223 N k102 rec S p0 p1 p2)))))))
set_option maxHeartbeats 4000000 in
theorem jY_X9_reckon_110 {X : jX} (C : jC X cX9_reckon 6 RX9 rm_X9_reckon) {Λ : sLay} {r : sSt} (E : jE X none rV Λ ((), r)) (k102 : sSt → Nat → Int32 → Option sSt) (hk102 : ∀ (S : sSt) (p0 : Nat) (tp0 : isK Λ 9 p0) (p1 : Int32), J X 6 0 0 102 [(0, vR (some p0)), (1, vI p1)] [] Λ S (k102 S p0 p1 = some r)) (rec : sSt → Nat → Int32 → Int32 → Option sSt) (hrec : ∀ (S : sSt) (p0 : Nat) (tp0 : isK Λ 9 p0) (p1 : Int32) (p2 : Int32), J X 6 0 0 110 [(0, vR (some p0)), (1, vI p1), (2, vI p2)] [] Λ S (rec S p0 p1 p2 = some r)) : ∀ (S : sSt) (p0 : Nat) (tp0 : isK Λ 9 p0) (p1 : Int32) (p2 : Int32), J X 6 0 0 110 [(0, vR (some p0)), (1, vI p1), (2, vI p2)] [] Λ S (Y_X9_reckon_110 Λ.2.2 k102 rec S p0 p1 p2 = some r) := by
  intro S p0 tp0 p1 p2
  unfold Y_X9_reckon_110
  refine j_iload_n C dX9_reckon_110 2 rfl ?_
  refine j_bipush C (v := (10 : Int32)) dX9_reckon_111 (by decide) ?_
  refine j_aload_n C dX9_reckon_113 0 rfl ?_
  refine j_getI C kK9 f361 kfX9_103 (by decide) tp0 dX9_reckon_114 ?_
  refine j_imul C dX9_reckon_117 ?_
  refine j_icmp_ge C (tgt := 229) dX9_reckon_118 (by decide) ?_ ?_
  · refine j_goto C (tgt := 102) dX9_reckon_229 (by decide) ?_
    refine j_sub (L' := [(0, vR (some p0)), (1, vI p1)]) [0, 1] rfl ?_
    exact hk102 S p0 tp0 p1
  · refine j_aload_n C dX9_reckon_121 0 rfl ?_
    refine j_iload_n C dX9_reckon_122 2 rfl ?_
    refine j_cVIP C [vI p2] [] (fun _ e => c_X9_isConstant p0 tp0 p2 e) kYX9_isConstant kVX9_isConstant kmX9_140 kO9 tp0 rfl rfl ⟨rfl, rfl, by decide, by decide⟩ (Nat.le_of_ble_eq_true rfl) ⟨Nat.zero_le _, Nat.zero_le _⟩ dX9_reckon_123 (fun v1 => ?_)
    refine j_if_eq C (tgt := 223) dX9_reckon_126 (by decide) ?_ ?_
    · exact jB_X9_reckon_223 C E k102 hk102 rec hrec S p0 tp0 p1 p2
    · refine j_aload_n C dX9_reckon_129 0 rfl ?_
      refine j_getR C kK9 f380 kfX9_63 (by decide) rfl tp0 dX9_reckon_130 (fun x3 tx3 => ?_)
      refine j_iload_n C dX9_reckon_133 2 rfl ?_
      refine j_oc tx3 (fun a4 ta4 ea4 => ?_)
      subst ea4
      refine j_zald C ta4 dX9_reckon_134 ?_
      refine j_if_ne C (tgt := 223) dX9_reckon_135 (by decide) ?_ ?_
      · exact jB_X9_reckon_223 C E k102 hk102 rec hrec S p0 tp0 p1 p2
      · refine j_aload_n C dX9_reckon_138 0 rfl ?_
        refine j_iload_n C dX9_reckon_139 2 rfl ?_
        refine j_cVIP C [vI p2] [] (fun _ e => c_X9_waitsForNone p0 tp0 p2 e) kYX9_waitsForNone kVX9_waitsForNone kmX9_143 kO9 tp0 rfl rfl ⟨rfl, rfl, by decide, by decide⟩ (Nat.le_of_ble_eq_true rfl) ⟨Nat.zero_le _, Nat.zero_le _⟩ dX9_reckon_140 (fun v5 => ?_)
        refine j_if_eq C (tgt := 223) dX9_reckon_143 (by decide) ?_ ?_
        · exact jB_X9_reckon_223 C E k102 hk102 rec hrec S p0 tp0 p1 p2
        · refine j_aload_n C dX9_reckon_146 0 rfl ?_
          refine j_getR C kK9 f365 kfX9_20 (by decide) rfl tp0 dX9_reckon_147 (fun x7 tx7 => ?_)
          refine j_iload_n C dX9_reckon_150 2 rfl ?_
          refine j_oc tx7 (fun a8 ta8 ea8 => ?_)
          subst ea8
          refine j_lald C ta8 dX9_reckon_151 ?_
          refine j_lstore_n C (L' := [(3, vJ (gAJ S a8 (Int32.toNatClampNeg p2))), (0, vR (some p0)), (1, vI p1), (2, vI p2)]) dX9_reckon_152 (by decide) rfl ?_
          refine j_iconst C (v := (0 : Int32)) dX9_reckon_153 (by decide) ?_
          refine j_istore C (L' := [(5, vI (0 : Int32)), (3, vJ (gAJ S a8 (Int32.toNatClampNeg p2))), (0, vR (some p0)), (1, vI p1), (2, vI p2)]) dX9_reckon_154 (by decide) rfl ?_
          refine j_sub (L' := [(0, vR (some p0)), (2, vI p2), (3, vJ (gAJ S a8 (Int32.toNatClampNeg p2))), (5, vI (0 : Int32))]) [2, 4, 1, 0] rfl ?_
          exact jL_X9_reckon_156 C E k102 hk102 rec hrec FU S p0 tp0 p2 (gAJ S a8 (Int32.toNatClampNeg p2)) (0 : Int32)
def L_X9_reckon_110 (N : Nat → Nat) (k102 : sSt → Nat → Int32 → Option sSt) (n : Nat) : sSt → Nat → Int32 → Int32 → Option sSt := iter (fun _ _ _ _ => none) (Y_X9_reckon_110 N k102) n
theorem jL_X9_reckon_110 {X : jX} (C : jC X cX9_reckon 6 RX9 rm_X9_reckon) {Λ : sLay} {r : sSt} (E : jE X none rV Λ ((), r)) (k102 : sSt → Nat → Int32 → Option sSt) (hk102 : ∀ (S : sSt) (p0 : Nat) (tp0 : isK Λ 9 p0) (p1 : Int32), J X 6 0 0 102 [(0, vR (some p0)), (1, vI p1)] [] Λ S (k102 S p0 p1 = some r)) : ∀ (n : Nat) (S : sSt) (p0 : Nat) (tp0 : isK Λ 9 p0) (p1 : Int32) (p2 : Int32), J X 6 0 0 110 [(0, vR (some p0)), (1, vI p1), (2, vI p2)] [] Λ S (L_X9_reckon_110 Λ.2.2 k102 n S p0 p1 p2 = some r) := by
  intro n
  induction n with
  | zero => intro S p0 tp0 p1 p2; exact j_no (fun h => by have h2 : (none : Option sSt) = some r := h; cases h2)
  | succ n ih => intro S p0 tp0 p1 p2; exact jY_X9_reckon_110 C E k102 hk102 (L_X9_reckon_110 Λ.2.2 k102 n) ih S p0 tp0 p1 p2
def Y_X9_reckon_102 (N : Nat → Nat) (rec : sSt → Nat → Int32 → Option sSt) (S : sSt) (p0 : Nat) (p1 : Int32) : Option sSt := (if p1 = 0 then some S else L_X9_reckon_110 N rec FU S p0 (0 : Int32) (0 : Int32))
set_option maxHeartbeats 4000000 in
theorem jY_X9_reckon_102 {X : jX} (C : jC X cX9_reckon 6 RX9 rm_X9_reckon) {Λ : sLay} {r : sSt} (E : jE X none rV Λ ((), r)) (rec : sSt → Nat → Int32 → Option sSt) (hrec : ∀ (S : sSt) (p0 : Nat) (tp0 : isK Λ 9 p0) (p1 : Int32), J X 6 0 0 102 [(0, vR (some p0)), (1, vI p1)] [] Λ S (rec S p0 p1 = some r)) : ∀ (S : sSt) (p0 : Nat) (tp0 : isK Λ 9 p0) (p1 : Int32), J X 6 0 0 102 [(0, vR (some p0)), (1, vI p1)] [] Λ S (Y_X9_reckon_102 Λ.2.2 rec S p0 p1 = some r) := by
  intro S p0 tp0 p1
  unfold Y_X9_reckon_102
  refine j_iload_n C dX9_reckon_102 1 rfl ?_
  refine j_if_eq C (tgt := 232) dX9_reckon_103 (by decide) ?_ ?_
  · exact j_vretP C E dX9_reckon_232
  · refine j_iconst C (v := (0 : Int32)) dX9_reckon_106 (by decide) ?_
    refine j_istore_n C (L' := [(1, vI (0 : Int32)), (0, vR (some p0))]) dX9_reckon_107 (by decide) rfl ?_
    refine j_iconst C (v := (0 : Int32)) dX9_reckon_108 (by decide) ?_
    refine j_istore_n C (L' := [(2, vI (0 : Int32)), (1, vI (0 : Int32)), (0, vR (some p0))]) dX9_reckon_109 (by decide) rfl ?_
    refine j_sub (L' := [(0, vR (some p0)), (1, vI (0 : Int32)), (2, vI (0 : Int32))]) [2, 1, 0] rfl ?_
    exact jL_X9_reckon_110 C E rec hrec FU S p0 tp0 (0 : Int32) (0 : Int32)
def L_X9_reckon_102 (N : Nat → Nat) (n : Nat) : sSt → Nat → Int32 → Option sSt := iter (fun _ _ _ => none) (Y_X9_reckon_102 N) n
theorem jL_X9_reckon_102 {X : jX} (C : jC X cX9_reckon 6 RX9 rm_X9_reckon) {Λ : sLay} {r : sSt} (E : jE X none rV Λ ((), r)) : ∀ (n : Nat) (S : sSt) (p0 : Nat) (tp0 : isK Λ 9 p0) (p1 : Int32), J X 6 0 0 102 [(0, vR (some p0)), (1, vI p1)] [] Λ S (L_X9_reckon_102 Λ.2.2 n S p0 p1 = some r) := by
  intro n
  induction n with
  | zero => intro S p0 tp0 p1; exact j_no (fun h => by have h2 : (none : Option sSt) = some r := h; cases h2)
  | succ n ih => intro S p0 tp0 p1; exact jY_X9_reckon_102 C E (L_X9_reckon_102 Λ.2.2 n) ih S p0 tp0 p1
def B_X9_reckon_87 (N : Nat → Nat) (k2 : sSt → Nat → Int32 → Option sSt) (k29 : sSt → Nat → Int32 → Int32 → Option sSt) (S : sSt) (p0 : Nat) (p1 : Int32) (p2 : Int32) (s0 : Int32) (s1 : Int32) (s2 : Option Nat) : Option sSt := Option.bind s2 (fun a30 => gi s1 (N a30) (bnd (sAI S a30 (Int32.toNatClampNeg s1) s0) (fun S31 => k29 S31 p0 p1 (p2 + (1 : Int32)))))
set_option maxHeartbeats 4000000 in
theorem jB_X9_reckon_87 {X : jX} (C : jC X cX9_reckon 6 RX9 rm_X9_reckon) {Λ : sLay} {r : sSt} (E : jE X none rV Λ ((), r)) (k2 : sSt → Nat → Int32 → Option sSt) (hk2 : ∀ (S : sSt) (p0 : Nat) (tp0 : isK Λ 9 p0) (p1 : Int32), J X 6 0 0 2 [(0, vR (some p0)), (1, vI p1)] [] Λ S (k2 S p0 p1 = some r)) (k29 : sSt → Nat → Int32 → Int32 → Option sSt) (hk29 : ∀ (S : sSt) (p0 : Nat) (tp0 : isK Λ 9 p0) (p1 : Int32) (p2 : Int32), J X 6 0 0 29 [(0, vR (some p0)), (1, vI p1), (2, vI p2)] [] Λ S (k29 S p0 p1 p2 = some r)) : ∀ (S : sSt) (p0 : Nat) (tp0 : isK Λ 9 p0) (p1 : Int32) (p2 : Int32) (s0 : Int32) (s1 : Int32) (s2 : Option Nat) (ts2 : okK Λ 10 s2), J X 6 0 0 87 [(0, vR (some p0)), (1, vI p1), (2, vI p2)] [vI s0, vI s1, vR s2] Λ S (B_X9_reckon_87 Λ.2.2 k2 k29 S p0 p1 p2 s0 s1 s2 = some r) := by
  intro S p0 tp0 p1 p2 s0 s1 s2 ts2
  unfold B_X9_reckon_87
  refine j_oc ts2 (fun a30 ta30 ea30 => ?_)
  subst ea30
  refine j_iast C ta30 dX9_reckon_87 (fun S31 => ?_)
  refine j_iinc C (v := (1 : Int32)) (L' := [(2, vI (p2 + (1 : Int32))), (0, vR (some p0)), (1, vI p1)]) dX9_reckon_88 2 rfl (by decide) (by decide) rfl ?_
  refine j_goto C (tgt := 29) dX9_reckon_91 (by decide) ?_
  refine j_sub (L' := [(0, vR (some p0)), (1, vI p1), (2, vI (p2 + (1 : Int32)))]) [1, 2, 0] rfl ?_
  exact hk29 S31 p0 tp0 p1 (p2 + (1 : Int32))
def B_X9_reckon_85 (N : Nat → Nat) (k2 : sSt → Nat → Int32 → Option sSt) (k29 : sSt → Nat → Int32 → Int32 → Option sSt) (S : sSt) (p0 : Nat) (p1 : Int32) (p2 : Int32) (s0 : Int32) (s1 : Option Nat) : Option sSt := B_X9_reckon_87 N k2 k29 S p0 p1 p2 (-5 : Int32) s0 s1
set_option maxHeartbeats 4000000 in
theorem jB_X9_reckon_85 {X : jX} (C : jC X cX9_reckon 6 RX9 rm_X9_reckon) {Λ : sLay} {r : sSt} (E : jE X none rV Λ ((), r)) (k2 : sSt → Nat → Int32 → Option sSt) (hk2 : ∀ (S : sSt) (p0 : Nat) (tp0 : isK Λ 9 p0) (p1 : Int32), J X 6 0 0 2 [(0, vR (some p0)), (1, vI p1)] [] Λ S (k2 S p0 p1 = some r)) (k29 : sSt → Nat → Int32 → Int32 → Option sSt) (hk29 : ∀ (S : sSt) (p0 : Nat) (tp0 : isK Λ 9 p0) (p1 : Int32) (p2 : Int32), J X 6 0 0 29 [(0, vR (some p0)), (1, vI p1), (2, vI p2)] [] Λ S (k29 S p0 p1 p2 = some r)) : ∀ (S : sSt) (p0 : Nat) (tp0 : isK Λ 9 p0) (p1 : Int32) (p2 : Int32) (s0 : Int32) (s1 : Option Nat) (ts1 : okK Λ 10 s1), J X 6 0 0 85 [(0, vR (some p0)), (1, vI p1), (2, vI p2)] [vI s0, vR s1] Λ S (B_X9_reckon_85 Λ.2.2 k2 k29 S p0 p1 p2 s0 s1 = some r) := by
  intro S p0 tp0 p1 p2 s0 s1 ts1
  unfold B_X9_reckon_85
  refine j_bipush C (v := (-5 : Int32)) dX9_reckon_85 (by decide) ?_
  exact jB_X9_reckon_87 C E k2 hk2 k29 hk29 S p0 tp0 p1 p2 (-5 : Int32) s0 s1 ts1
def Y_X9_reckon_29 (N : Nat → Nat) (k2 : sSt → Nat → Int32 → Option sSt) (rec : sSt → Nat → Int32 → Int32 → Option sSt) (S : sSt) (p0 : Nat) (p1 : Int32) (p2 : Int32) : Option sSt := (if (3 : Int32) ≤ p2 then k2 S p0 (p1 + (1 : Int32)) else bnd (gFR S 379 p0) (fun x27 => Option.bind (F_X9_isConstant N S p0 p1) (fun v28 => (if v28 = 0 then B_X9_reckon_85 N k2 rec S p0 p1 p2 (((3 : Int32) * p1) + p2) x27 else bnd (gFR S 367 p0) (fun x32 => Option.bind x32 (fun a33 => gi p1 (N a33) ((if (gAI S a33 (Int32.toNatClampNeg p1)) ≤ p2 then B_X9_reckon_85 N k2 rec S p0 p1 p2 (((3 : Int32) * p1) + p2) x27 else bnd (gFR S 368 p0) (fun x34 => Option.bind x34 (fun a35 => gi (((3 : Int32) * p1) + p2) (N a35) (Option.bind (F_X9_find N S p0 (p1 / (10 : Int32)) ((32 : Int32) + (gAI S a35 (Int32.toNatClampNeg (((3 : Int32) * p1) + p2))))) (fun v36 => B_X9_reckon_87 N k2 rec S p0 p1 p2 v36 (((3 : Int32) * p1) + p2) x27))))))))))))
set_option maxHeartbeats 4000000 in
theorem jY_X9_reckon_29 {X : jX} (C : jC X cX9_reckon 6 RX9 rm_X9_reckon) {Λ : sLay} {r : sSt} (E : jE X none rV Λ ((), r)) (k2 : sSt → Nat → Int32 → Option sSt) (hk2 : ∀ (S : sSt) (p0 : Nat) (tp0 : isK Λ 9 p0) (p1 : Int32), J X 6 0 0 2 [(0, vR (some p0)), (1, vI p1)] [] Λ S (k2 S p0 p1 = some r)) (rec : sSt → Nat → Int32 → Int32 → Option sSt) (hrec : ∀ (S : sSt) (p0 : Nat) (tp0 : isK Λ 9 p0) (p1 : Int32) (p2 : Int32), J X 6 0 0 29 [(0, vR (some p0)), (1, vI p1), (2, vI p2)] [] Λ S (rec S p0 p1 p2 = some r)) : ∀ (S : sSt) (p0 : Nat) (tp0 : isK Λ 9 p0) (p1 : Int32) (p2 : Int32), J X 6 0 0 29 [(0, vR (some p0)), (1, vI p1), (2, vI p2)] [] Λ S (Y_X9_reckon_29 Λ.2.2 k2 rec S p0 p1 p2 = some r) := by
  intro S p0 tp0 p1 p2
  unfold Y_X9_reckon_29
  refine j_iload_n C dX9_reckon_29 2 rfl ?_
  refine j_iconst C (v := (3 : Int32)) dX9_reckon_30 (by decide) ?_
  refine j_icmp_ge C (tgt := 94) dX9_reckon_31 (by decide) ?_ ?_
  · refine j_iinc C (v := (1 : Int32)) (L' := [(1, vI (p1 + (1 : Int32))), (0, vR (some p0)), (2, vI p2)]) dX9_reckon_94 1 rfl (by decide) (by decide) rfl ?_
    refine j_goto C (tgt := 2) dX9_reckon_97 (by decide) ?_
    refine j_sub (L' := [(0, vR (some p0)), (1, vI (p1 + (1 : Int32)))]) [1, 0] rfl ?_
    exact hk2 S p0 tp0 (p1 + (1 : Int32))
  · refine j_aload_n C dX9_reckon_34 0 rfl ?_
    refine j_getR C kK9 f379 kfX9_60 (by decide) rfl tp0 dX9_reckon_35 (fun x27 tx27 => ?_)
    refine j_iconst C (v := (3 : Int32)) dX9_reckon_38 (by decide) ?_
    refine j_iload_n C dX9_reckon_39 1 rfl ?_
    refine j_imul C dX9_reckon_40 ?_
    refine j_iload_n C dX9_reckon_41 2 rfl ?_
    refine j_iadd C dX9_reckon_42 ?_
    refine j_aload_n C dX9_reckon_43 0 rfl ?_
    refine j_iload_n C dX9_reckon_44 1 rfl ?_
    refine j_cVIP C [vI p1] [vI (((3 : Int32) * p1) + p2), vR x27] (fun _ e => c_X9_isConstant p0 tp0 p1 e) kYX9_isConstant kVX9_isConstant kmX9_140 kO9 tp0 rfl rfl ⟨rfl, rfl, by decide, by decide⟩ (Nat.le_of_ble_eq_true rfl) ⟨Nat.zero_le _, Nat.zero_le _⟩ dX9_reckon_45 (fun v28 => ?_)
    refine j_if_eq C (tgt := 85) dX9_reckon_48 (by decide) ?_ ?_
    · exact jB_X9_reckon_85 C E k2 hk2 rec hrec S p0 tp0 p1 p2 (((3 : Int32) * p1) + p2) x27 tx27
    · refine j_iload_n C dX9_reckon_51 2 rfl ?_
      refine j_aload_n C dX9_reckon_52 0 rfl ?_
      refine j_getR C kK9 f367 kfX9_27 (by decide) rfl tp0 dX9_reckon_53 (fun x32 tx32 => ?_)
      refine j_iload_n C dX9_reckon_56 1 rfl ?_
      refine j_oc tx32 (fun a33 ta33 ea33 => ?_)
      subst ea33
      refine j_iald C ta33 dX9_reckon_57 ?_
      refine j_icmp_ge C (tgt := 85) dX9_reckon_58 (by decide) ?_ ?_
      · exact jB_X9_reckon_85 C E k2 hk2 rec hrec S p0 tp0 p1 p2 (((3 : Int32) * p1) + p2) x27 tx27
      · refine j_aload_n C dX9_reckon_61 0 rfl ?_
        refine j_iload_n C dX9_reckon_62 1 rfl ?_
        refine j_bipush C (v := (10 : Int32)) dX9_reckon_63 (by decide) ?_
        refine j_idiv C dX9_reckon_65 (by decide) ?_
        refine j_bipush C (v := (32 : Int32)) dX9_reckon_66 (by decide) ?_
        refine j_aload_n C dX9_reckon_68 0 rfl ?_
        refine j_getR C kK9 f368 kfX9_30 (by decide) rfl tp0 dX9_reckon_69 (fun x34 tx34 => ?_)
        refine j_iconst C (v := (3 : Int32)) dX9_reckon_72 (by decide) ?_
        refine j_iload_n C dX9_reckon_73 1 rfl ?_
        refine j_imul C dX9_reckon_74 ?_
        refine j_iload_n C dX9_reckon_75 2 rfl ?_
        refine j_iadd C dX9_reckon_76 ?_
        refine j_oc tx34 (fun a35 ta35 ea35 => ?_)
        subst ea35
        refine j_iald C ta35 dX9_reckon_77 ?_
        refine j_iadd C dX9_reckon_78 ?_
        refine j_cVIP C [vI (p1 / (10 : Int32)), vI ((32 : Int32) + (gAI S a35 (Int32.toNatClampNeg (((3 : Int32) * p1) + p2))))] [vI (((3 : Int32) * p1) + p2), vR x27] (fun _ e => c_X9_find p0 tp0 (p1 / (10 : Int32)) ((32 : Int32) + (gAI S a35 (Int32.toNatClampNeg (((3 : Int32) * p1) + p2)))) e) kYX9_find kVX9_find kmX9_137 kO9 tp0 rfl rfl ⟨rfl, rfl, by decide, by decide⟩ (Nat.le_of_ble_eq_true rfl) ⟨Nat.zero_le _, Nat.zero_le _⟩ dX9_reckon_79 (fun v36 => ?_)
        refine j_goto C (tgt := 87) dX9_reckon_82 (by decide) ?_
        exact jB_X9_reckon_87 C E k2 hk2 rec hrec S p0 tp0 p1 p2 v36 (((3 : Int32) * p1) + p2) x27 tx27
def L_X9_reckon_29 (N : Nat → Nat) (k2 : sSt → Nat → Int32 → Option sSt) (n : Nat) : sSt → Nat → Int32 → Int32 → Option sSt := iter (fun _ _ _ _ => none) (Y_X9_reckon_29 N k2) n
theorem jL_X9_reckon_29 {X : jX} (C : jC X cX9_reckon 6 RX9 rm_X9_reckon) {Λ : sLay} {r : sSt} (E : jE X none rV Λ ((), r)) (k2 : sSt → Nat → Int32 → Option sSt) (hk2 : ∀ (S : sSt) (p0 : Nat) (tp0 : isK Λ 9 p0) (p1 : Int32), J X 6 0 0 2 [(0, vR (some p0)), (1, vI p1)] [] Λ S (k2 S p0 p1 = some r)) : ∀ (n : Nat) (S : sSt) (p0 : Nat) (tp0 : isK Λ 9 p0) (p1 : Int32) (p2 : Int32), J X 6 0 0 29 [(0, vR (some p0)), (1, vI p1), (2, vI p2)] [] Λ S (L_X9_reckon_29 Λ.2.2 k2 n S p0 p1 p2 = some r) := by
  intro n
  induction n with
  | zero => intro S p0 tp0 p1 p2; exact j_no (fun h => by have h2 : (none : Option sSt) = some r := h; cases h2)
  | succ n ih => intro S p0 tp0 p1 p2; exact jY_X9_reckon_29 C E k2 hk2 (L_X9_reckon_29 Λ.2.2 k2 n) ih S p0 tp0 p1 p2
def Y_X9_reckon_2 (N : Nat → Nat) (rec : sSt → Nat → Int32 → Option sSt) (S : sSt) (p0 : Nat) (p1 : Int32) : Option sSt := (if ((10 : Int32) * (gFI S 361 p0)) ≤ p1 then L_X9_reckon_102 N FU S p0 (1 : Int32) else bnd (gFR S 380 p0) (fun x21 => Option.bind x21 (fun a22 => gi p1 (N a22) (bnd (sAI S a22 (Int32.toNatClampNeg p1) ((0 : Int32) &&& 1)) (fun S23 => bnd (gFR S23 381 p0) (fun x24 => Option.bind x24 (fun a25 => gi p1 (N a25) (bnd (sAJ S23 a25 (Int32.toNatClampNeg p1) (0 : Int64)) (fun S26 => L_X9_reckon_29 N rec FU S26 p0 p1 (0 : Int32))))))))))
set_option maxHeartbeats 4000000 in
theorem jY_X9_reckon_2 {X : jX} (C : jC X cX9_reckon 6 RX9 rm_X9_reckon) {Λ : sLay} {r : sSt} (E : jE X none rV Λ ((), r)) (rec : sSt → Nat → Int32 → Option sSt) (hrec : ∀ (S : sSt) (p0 : Nat) (tp0 : isK Λ 9 p0) (p1 : Int32), J X 6 0 0 2 [(0, vR (some p0)), (1, vI p1)] [] Λ S (rec S p0 p1 = some r)) : ∀ (S : sSt) (p0 : Nat) (tp0 : isK Λ 9 p0) (p1 : Int32), J X 6 0 0 2 [(0, vR (some p0)), (1, vI p1)] [] Λ S (Y_X9_reckon_2 Λ.2.2 rec S p0 p1 = some r) := by
  intro S p0 tp0 p1
  unfold Y_X9_reckon_2
  refine j_iload_n C dX9_reckon_2 1 rfl ?_
  refine j_bipush C (v := (10 : Int32)) dX9_reckon_3 (by decide) ?_
  refine j_aload_n C dX9_reckon_5 0 rfl ?_
  refine j_getI C kK9 f361 kfX9_103 (by decide) tp0 dX9_reckon_6 ?_
  refine j_imul C dX9_reckon_9 ?_
  refine j_icmp_ge C (tgt := 100) dX9_reckon_10 (by decide) ?_ ?_
  · refine j_iconst C (v := (1 : Int32)) dX9_reckon_100 (by decide) ?_
    refine j_istore_n C (L' := [(1, vI (1 : Int32)), (0, vR (some p0))]) dX9_reckon_101 (by decide) rfl ?_
    refine j_sub (L' := [(0, vR (some p0)), (1, vI (1 : Int32))]) [1, 0] rfl ?_
    exact jL_X9_reckon_102 C E FU S p0 tp0 (1 : Int32)
  · refine j_aload_n C dX9_reckon_13 0 rfl ?_
    refine j_getR C kK9 f380 kfX9_63 (by decide) rfl tp0 dX9_reckon_14 (fun x21 tx21 => ?_)
    refine j_iload_n C dX9_reckon_17 1 rfl ?_
    refine j_iconst C (v := (0 : Int32)) dX9_reckon_18 (by decide) ?_
    refine j_oc tx21 (fun a22 ta22 ea22 => ?_)
    subst ea22
    refine j_zast C ta22 dX9_reckon_19 (fun S23 => ?_)
    refine j_aload_n C dX9_reckon_20 0 rfl ?_
    refine j_getR C kK9 f381 kfX9_66 (by decide) rfl tp0 dX9_reckon_21 (fun x24 tx24 => ?_)
    refine j_iload_n C dX9_reckon_24 1 rfl ?_
    refine j_lconst C (v := (0 : Int64)) dX9_reckon_25 (by decide) ?_
    refine j_oc tx24 (fun a25 ta25 ea25 => ?_)
    subst ea25
    refine j_last C ta25 dX9_reckon_26 (fun S26 => ?_)
    refine j_iconst C (v := (0 : Int32)) dX9_reckon_27 (by decide) ?_
    refine j_istore_n C (L' := [(2, vI (0 : Int32)), (0, vR (some p0)), (1, vI p1)]) dX9_reckon_28 (by decide) rfl ?_
    refine j_sub (L' := [(0, vR (some p0)), (1, vI p1), (2, vI (0 : Int32))]) [1, 2, 0] rfl ?_
    exact jL_X9_reckon_29 C E rec hrec FU S26 p0 tp0 p1 (0 : Int32)
def L_X9_reckon_2 (N : Nat → Nat) (n : Nat) : sSt → Nat → Int32 → Option sSt := iter (fun _ _ _ => none) (Y_X9_reckon_2 N) n
theorem jL_X9_reckon_2 {X : jX} (C : jC X cX9_reckon 6 RX9 rm_X9_reckon) {Λ : sLay} {r : sSt} (E : jE X none rV Λ ((), r)) : ∀ (n : Nat) (S : sSt) (p0 : Nat) (tp0 : isK Λ 9 p0) (p1 : Int32), J X 6 0 0 2 [(0, vR (some p0)), (1, vI p1)] [] Λ S (L_X9_reckon_2 Λ.2.2 n S p0 p1 = some r) := by
  intro n
  induction n with
  | zero => intro S p0 tp0 p1; exact j_no (fun h => by have h2 : (none : Option sSt) = some r := h; cases h2)
  | succ n ih => intro S p0 tp0 p1; exact jY_X9_reckon_2 C E (L_X9_reckon_2 Λ.2.2 n) ih S p0 tp0 p1
def F_X9_reckon (N : Nat → Nat) (S : sSt) (p0 : Nat) : Option sSt := L_X9_reckon_2 N FU S p0 (0 : Int32)
set_option maxHeartbeats 4000000 in
theorem jF_X9_reckon {X : jX} (C : jC X cX9_reckon 6 RX9 rm_X9_reckon) {Λ : sLay} {S : sSt} {r : sSt} (E : jE X none rV Λ ((), r)) (p0 : Nat) (tp0 : isK Λ 9 p0) : J X 6 0 0 0 [(0, vR (some p0))] [] Λ S (F_X9_reckon Λ.2.2 S p0 = some r) := by
  unfold F_X9_reckon
  refine j_iconst C (v := (0 : Int32)) dX9_reckon_0 (by decide) ?_
  refine j_istore_n C (L' := [(1, vI (0 : Int32)), (0, vR (some p0))]) dX9_reckon_1 (by decide) rfl ?_
  refine j_sub (L' := [(0, vR (some p0)), (1, vI (0 : Int32))]) [1, 0] rfl ?_
  exact jL_X9_reckon_2 C E FU S p0 tp0 (0 : Int32)
theorem c_X9_reckon {l : Launch} {D : va_G} {cy : Nat → ClassId} {Λ : sLay} {S : sSt} (p0 : Nat) (tp0 : isK Λ 9 p0) {r : sSt} (h : F_X9_reckon Λ.2.2 S p0 = some r) : jM l yX9_reckon (Cond.code yX9_reckon cX9_reckon 6 none :: bigW) rm_X9_reckon D cy Λ S [vR (some p0)] rV ((), r) := jM_of (by decide +kernel) (Nat.le_of_ble_eq_true rfl) (fun X C E _ _ _ => j_sub [0] rfl (jF_X9_reckon C E p0 tp0)) h
/-! RemakeNeeds2Model.lay(J)V -/
abbrev rm_X9_lay : Room := { frames := 0, cells := 0, slots := 0, locals := 0 }
def F_X9_lay (N : Nat → Nat) (S : sSt) (p0 : Nat) (p1 : Int64) : Option sSt := bnd (gFR S 387 p0) (fun x1 => Option.bind x1 (fun a2 => gi (gFI S 388 p0) (N a2) (bnd (sAJ S a2 (Int32.toNatClampNeg (gFI S 388 p0)) p1) (fun S3 => bnd (sFI S3 388 p0 ((gFI S3 388 p0) + (1 : Int32))) (fun S4 => some S4)))))
set_option maxHeartbeats 4000000 in
theorem jF_X9_lay {X : jX} (C : jC X cX9_lay 3 RX9 rm_X9_lay) {Λ : sLay} {S : sSt} {r : sSt} (E : jE X none rV Λ ((), r)) (p0 : Nat) (tp0 : isK Λ 9 p0) (p1 : Int64) : J X 3 0 0 0 [(0, vR (some p0)), (1, vJ p1)] [] Λ S (F_X9_lay Λ.2.2 S p0 p1 = some r) := by
  unfold F_X9_lay
  refine j_aload_n C dX9_lay_0 0 rfl ?_
  refine j_getR C kK9 f387 kfX9_81 (by decide) rfl tp0 dX9_lay_1 (fun x1 tx1 => ?_)
  refine j_aload_n C dX9_lay_4 0 rfl ?_
  refine j_getI C kK9 f388 kfX9_155 (by decide) tp0 dX9_lay_5 ?_
  refine j_lload_n C dX9_lay_8 1 rfl ?_
  refine j_oc tx1 (fun a2 ta2 ea2 => ?_)
  subst ea2
  refine j_last C ta2 dX9_lay_9 (fun S3 => ?_)
  refine j_aload_n C dX9_lay_10 0 rfl ?_
  refine j_dup C dX9_lay_11 rfl ?_
  refine j_getI C kK9 f388 kfX9_155 (by decide) tp0 dX9_lay_12 ?_
  refine j_iconst C (v := (1 : Int32)) dX9_lay_15 (by decide) ?_
  refine j_iadd C dX9_lay_16 ?_
  refine j_putI C kK9 f388 kfX9_155 (by decide) rfl rfl rfl tp0 dX9_lay_17 (fun S4 => ?_)
  exact j_vretP C E dX9_lay_20
theorem c_X9_lay {l : Launch} {D : va_G} {cy : Nat → ClassId} {Λ : sLay} {S : sSt} (p0 : Nat) (tp0 : isK Λ 9 p0) (p1 : Int64) {r : sSt} (h : F_X9_lay Λ.2.2 S p0 p1 = some r) : jM l yX9_lay (Cond.code yX9_lay cX9_lay 3 none :: bigW) rm_X9_lay D cy Λ S [vR (some p0), vJ p1] rV ((), r) := jM_of (by decide +kernel) (Nat.le_of_ble_eq_true rfl) (fun X C E _ _ _ => j_sub [0, 1] rfl (jF_X9_lay C E p0 tp0 p1)) h
/-! RemakeNeeds2Model.layFound(I)V -/
abbrev rm_X9_layFound : Room := { frames := 1, cells := 0, slots := 0, locals := 22 }
def B_X9_layFound_60 (N : Nat → Nat) (S : sSt) (s0 : Int64) (s1 : Nat) : Option sSt := Option.bind (F_X9_lay N S s1 s0) (fun S8 => some S8)
set_option maxHeartbeats 4000000 in
theorem jB_X9_layFound_60 {X : jX} (C : jC X cX9_layFound 2 RX9 rm_X9_layFound) {Λ : sLay} {r : sSt} (E : jE X none rV Λ ((), r)) : ∀ (S : sSt) (s0 : Int64) (s1 : Nat) (ts1 : isK Λ 9 s1), J X 2 0 0 60 [] [vJ s0, vR (some s1)] Λ S (B_X9_layFound_60 Λ.2.2 S s0 s1 = some r) := by
  intro S s0 s1 ts1
  unfold B_X9_layFound_60
  refine j_cVVV C [vJ s0] [] (fun _ e => c_X9_lay s1 ts1 s0 e) kYX9_lay kVX9_lay kmX9_160 kO9 ts1 rfl rfl ⟨rfl, rfl, by decide, by decide⟩ (Nat.le_of_ble_eq_true rfl) ⟨Nat.zero_le _, Nat.zero_le _⟩ dX9_layFound_60 (fun S8 => ?_)
  exact j_vretP C E dX9_layFound_63
def B_X9_layFound_18 (N : Nat → Nat) (S : sSt) (p0 : Nat) (p1 : Int32) (s0 : Int64) (s1 : Nat) : Option sSt := Option.bind (F_X9_lay N S s1 s0) (fun S2 => (if p1 = (-5 : Int32) then B_X9_layFound_60 N S2 (0 : Int64) p0 else bnd (gFR S2 364 p0) (fun x3 => Option.bind x3 (fun a4 => gi p1 (N a4) ((if ((gAI S2 a4 (Int32.toNatClampNeg p1)) / (32 : Int32)) = (1 : Int32) then bnd (gFR S2 381 p0) (fun x9 => Option.bind x9 (fun a10 => gi p1 (N a10) (B_X9_layFound_60 N S2 (gAJ S2 a10 (Int32.toNatClampNeg p1)) p0))) else bnd (gFR S2 365 p0) (fun x5 => Option.bind x5 (fun a6 => gi p1 (N a6) (B_X9_layFound_60 N S2 (gAJ S2 a6 (Int32.toNatClampNeg p1)) p0)))))))))
set_option maxHeartbeats 4000000 in
theorem jB_X9_layFound_18 {X : jX} (C : jC X cX9_layFound 2 RX9 rm_X9_layFound) {Λ : sLay} {r : sSt} (E : jE X none rV Λ ((), r)) : ∀ (S : sSt) (p0 : Nat) (tp0 : isK Λ 9 p0) (p1 : Int32) (s0 : Int64) (s1 : Nat) (ts1 : isK Λ 9 s1), J X 2 0 0 18 [(0, vR (some p0)), (1, vI p1)] [vJ s0, vR (some s1)] Λ S (B_X9_layFound_18 Λ.2.2 S p0 p1 s0 s1 = some r) := by
  intro S p0 tp0 p1 s0 s1 ts1
  unfold B_X9_layFound_18
  refine j_cVVV C [vJ s0] [] (fun _ e => c_X9_lay s1 ts1 s0 e) kYX9_lay kVX9_lay kmX9_160 kO9 ts1 rfl rfl ⟨rfl, rfl, by decide, by decide⟩ (Nat.le_of_ble_eq_true rfl) ⟨Nat.zero_le _, Nat.zero_le _⟩ dX9_layFound_18 (fun S2 => ?_)
  refine j_aload_n C dX9_layFound_21 0 rfl ?_
  refine j_iload_n C dX9_layFound_22 1 rfl ?_
  refine j_bipush C (v := (-5 : Int32)) dX9_layFound_23 (by decide) ?_
  refine j_icmp_ne C (tgt := 32) dX9_layFound_25 (by decide) ?_ ?_
  · refine j_aload_n C dX9_layFound_32 0 rfl ?_
    refine j_getR C kK9 f364 kfX9_17 (by decide) rfl tp0 dX9_layFound_33 (fun x3 tx3 => ?_)
    refine j_iload_n C dX9_layFound_36 1 rfl ?_
    refine j_oc tx3 (fun a4 ta4 ea4 => ?_)
    subst ea4
    refine j_iald C ta4 dX9_layFound_37 ?_
    refine j_bipush C (v := (32 : Int32)) dX9_layFound_38 (by decide) ?_
    refine j_idiv C dX9_layFound_40 (by decide) ?_
    refine j_iconst C (v := (1 : Int32)) dX9_layFound_41 (by decide) ?_
    refine j_icmp_ne C (tgt := 54) dX9_layFound_42 (by decide) ?_ ?_
    · refine j_aload_n C dX9_layFound_54 0 rfl ?_
      refine j_getR C kK9 f365 kfX9_20 (by decide) rfl tp0 dX9_layFound_55 (fun x5 tx5 => ?_)
      refine j_iload_n C dX9_layFound_58 1 rfl ?_
      refine j_oc tx5 (fun a6 ta6 ea6 => ?_)
      subst ea6
      refine j_lald C ta6 dX9_layFound_59 ?_
      refine j_sub (L' := []) [] rfl ?_
      exact jB_X9_layFound_60 C E S2 (gAJ S2 a6 (Int32.toNatClampNeg p1)) p0 tp0
    · refine j_aload_n C dX9_layFound_45 0 rfl ?_
      refine j_getR C kK9 f381 kfX9_66 (by decide) rfl tp0 dX9_layFound_46 (fun x9 tx9 => ?_)
      refine j_iload_n C dX9_layFound_49 1 rfl ?_
      refine j_oc tx9 (fun a10 ta10 ea10 => ?_)
      subst ea10
      refine j_lald C ta10 dX9_layFound_50 ?_
      refine j_goto C (tgt := 60) dX9_layFound_51 (by decide) ?_
      refine j_sub (L' := []) [] rfl ?_
      exact jB_X9_layFound_60 C E S2 (gAJ S2 a10 (Int32.toNatClampNeg p1)) p0 tp0
  · refine j_lconst C (v := (0 : Int64)) dX9_layFound_28 (by decide) ?_
    refine j_goto C (tgt := 60) dX9_layFound_29 (by decide) ?_
    refine j_sub (L' := []) [] rfl ?_
    exact jB_X9_layFound_60 C E S2 (0 : Int64) p0 tp0
def F_X9_layFound (N : Nat → Nat) (S : sSt) (p0 : Nat) (p1 : Int32) : Option sSt := (if p1 = (-5 : Int32) then B_X9_layFound_18 N S p0 p1 (-5 : Int64) p0 else B_X9_layFound_18 N S p0 p1 (Int32.toInt64 (p1 / (10 : Int32))) p0)
set_option maxHeartbeats 4000000 in
theorem jF_X9_layFound {X : jX} (C : jC X cX9_layFound 2 RX9 rm_X9_layFound) {Λ : sLay} {S : sSt} {r : sSt} (E : jE X none rV Λ ((), r)) (p0 : Nat) (tp0 : isK Λ 9 p0) (p1 : Int32) : J X 2 0 0 0 [(0, vR (some p0)), (1, vI p1)] [] Λ S (F_X9_layFound Λ.2.2 S p0 p1 = some r) := by
  unfold F_X9_layFound
  refine j_aload_n C dX9_layFound_0 0 rfl ?_
  refine j_iload_n C dX9_layFound_1 1 rfl ?_
  refine j_bipush C (v := (-5 : Int32)) dX9_layFound_2 (by decide) ?_
  refine j_icmp_ne C (tgt := 13) dX9_layFound_4 (by decide) ?_ ?_
  · refine j_iload_n C dX9_layFound_13 1 rfl ?_
    refine j_bipush C (v := (10 : Int32)) dX9_layFound_14 (by decide) ?_
    refine j_idiv C dX9_layFound_16 (by decide) ?_
    refine j_i2l C dX9_layFound_17 ?_
    exact jB_X9_layFound_18 C E S p0 tp0 p1 (Int32.toInt64 (p1 / (10 : Int32))) p0 tp0
  · refine j_ldc2 C kcX9_158 dX9_layFound_7 ?_
    refine j_goto C (tgt := 18) dX9_layFound_10 (by decide) ?_
    exact jB_X9_layFound_18 C E S p0 tp0 p1 (-5 : Int64) p0 tp0
theorem c_X9_layFound {l : Launch} {D : va_G} {cy : Nat → ClassId} {Λ : sLay} {S : sSt} (p0 : Nat) (tp0 : isK Λ 9 p0) (p1 : Int32) {r : sSt} (h : F_X9_layFound Λ.2.2 S p0 p1 = some r) : jM l yX9_layFound (Cond.code yX9_layFound cX9_layFound 2 none :: bigW) rm_X9_layFound D cy Λ S [vR (some p0), vI p1] rV ((), r) := jM_of (by decide +kernel) (Nat.le_of_ble_eq_true rfl) (fun X C E _ _ _ => j_sub [0, 1] rfl (jF_X9_layFound C E p0 tp0 p1)) h
/-! RemakeNeeds2Model.layParts(I)V -/
abbrev rm_X9_layParts : Room := { frames := 2, cells := 0, slots := 0, locals := 48 }
def B_X9_layParts_500 (N : Nat → Nat) (S : sSt) (p0 : Nat) : Option sSt := bnd (gFR S 389 p0) (fun x38 => Option.bind x38 (fun a39 => gi (4 : Int32) (N a39) (bnd (sAI S a39 (Int32.toNatClampNeg (4 : Int32)) (gFI S 388 p0)) (fun S40 => some S40))))
set_option maxHeartbeats 4000000 in
theorem jB_X9_layParts_500 {X : jX} (C : jC X cX9_layParts 4 RX9 rm_X9_layParts) {Λ : sLay} {r : sSt} (E : jE X none rV Λ ((), r)) : ∀ (S : sSt) (p0 : Nat) (tp0 : isK Λ 9 p0), J X 4 0 0 500 [(0, vR (some p0))] [] Λ S (B_X9_layParts_500 Λ.2.2 S p0 = some r) := by
  intro S p0 tp0
  unfold B_X9_layParts_500
  refine j_aload_n C dX9_layParts_500 0 rfl ?_
  refine j_getR C kK9 f389 kfX9_84 (by decide) rfl tp0 dX9_layParts_501 (fun x38 tx38 => ?_)
  refine j_iconst C (v := (4 : Int32)) dX9_layParts_504 (by decide) ?_
  refine j_aload_n C dX9_layParts_505 0 rfl ?_
  refine j_getI C kK9 f388 kfX9_155 (by decide) tp0 dX9_layParts_506 ?_
  refine j_oc tx38 (fun a39 ta39 ea39 => ?_)
  subst ea39
  refine j_iast C ta39 dX9_layParts_509 (fun S40 => ?_)
  exact j_vretP C E dX9_layParts_510
def B_X9_layParts_494 (N : Nat → Nat) (k400 : sSt → Nat → Int32 → Int32 → Option sSt) (S : sSt) (p0 : Nat) (p1 : Int32) (p2 : Int32) : Option sSt := k400 S p0 p1 (p2 + (1 : Int32))
set_option maxHeartbeats 4000000 in
theorem jB_X9_layParts_494 {X : jX} (C : jC X cX9_layParts 4 RX9 rm_X9_layParts) {Λ : sLay} {r : sSt} (E : jE X none rV Λ ((), r)) (k400 : sSt → Nat → Int32 → Int32 → Option sSt) (hk400 : ∀ (S : sSt) (p0 : Nat) (tp0 : isK Λ 9 p0) (p1 : Int32) (p2 : Int32), J X 4 0 0 400 [(0, vR (some p0)), (1, vI p1), (2, vI p2)] [] Λ S (k400 S p0 p1 p2 = some r)) : ∀ (S : sSt) (p0 : Nat) (tp0 : isK Λ 9 p0) (p1 : Int32) (p2 : Int32), J X 4 0 0 494 [(0, vR (some p0)), (1, vI p1), (2, vI p2)] [] Λ S (B_X9_layParts_494 Λ.2.2 k400 S p0 p1 p2 = some r) := by
  intro S p0 tp0 p1 p2
  unfold B_X9_layParts_494
  refine j_iinc C (v := (1 : Int32)) (L' := [(2, vI (p2 + (1 : Int32))), (0, vR (some p0)), (1, vI p1)]) dX9_layParts_494 2 rfl (by decide) (by decide) rfl ?_
  refine j_goto C (tgt := 400) dX9_layParts_497 (by decide) ?_
  refine j_sub (L' := [(0, vR (some p0)), (1, vI p1), (2, vI (p2 + (1 : Int32)))]) [1, 2, 0] rfl ?_
  exact hk400 S p0 tp0 p1 (p2 + (1 : Int32))
def Y_X9_layParts_400 (N : Nat → Nat) (rec : sSt → Nat → Int32 → Int32 → Option sSt) (S : sSt) (p0 : Nat) (p1 : Int32) (p2 : Int32) : Option sSt := (if ((10 : Int32) * (gFI S 361 p0)) ≤ p2 then B_X9_layParts_500 N S p0 else bnd (gFR S 373 p0) (fun x41 => Option.bind x41 (fun a42 => gi p1 (N a42) ((if (gAI S a42 (Int32.toNatClampNeg p1)) = 0 then B_X9_layParts_500 N S p0 else bnd (gFR S 362 p0) (fun x43 => Option.bind x43 (fun a44 => gi (p2 / (10 : Int32)) (N a44) ((if (gAI S a44 (Int32.toNatClampNeg (p2 / (10 : Int32)))) = 0 then B_X9_layParts_494 N rec S p0 p1 p2 else bnd (gFR S 363 p0) (fun x45 => Option.bind x45 (fun a46 => gi (p2 / (10 : Int32)) (N a46) ((if (gAI S a46 (Int32.toNatClampNeg (p2 / (10 : Int32)))) ≤ (p2 - p2 / (10 : Int32) * (10 : Int32)) then B_X9_layParts_494 N rec S p0 p1 p2 else bnd (gFR S 364 p0) (fun x47 => Option.bind x47 (fun a48 => gi p2 (N a48) ((if ((gAI S a48 (Int32.toNatClampNeg p2)) / (32 : Int32)) = (2 : Int32) then Option.bind (F_X9_lay N S p0 (Int32.toInt64 (p2 / (10 : Int32)))) (fun S50 => bnd (gFR S50 364 p0) (fun x51 => Option.bind x51 (fun a52 => gi p2 (N a52) (Option.bind (F_X9_lay N S50 p0 (Int32.toInt64 ((gAI S50 a52 (Int32.toNatClampNeg p2)) - (gAI S50 a52 (Int32.toNatClampNeg p2)) / (32 : Int32) * (32 : Int32)))) (fun S54 => bnd (gFR S54 365 p0) (fun x55 => Option.bind x55 (fun a56 => gi p2 (N a56) (Option.bind (F_X9_lay N S54 p0 (gAJ S54 a56 (Int32.toNatClampNeg p2))) (fun S58 => B_X9_layParts_494 N rec S58 p0 p1 p2))))))))) else B_X9_layParts_494 N rec S p0 p1 p2)))))))))))))))))
set_option maxHeartbeats 4000000 in
theorem jY_X9_layParts_400 {X : jX} (C : jC X cX9_layParts 4 RX9 rm_X9_layParts) {Λ : sLay} {r : sSt} (E : jE X none rV Λ ((), r)) (rec : sSt → Nat → Int32 → Int32 → Option sSt) (hrec : ∀ (S : sSt) (p0 : Nat) (tp0 : isK Λ 9 p0) (p1 : Int32) (p2 : Int32), J X 4 0 0 400 [(0, vR (some p0)), (1, vI p1), (2, vI p2)] [] Λ S (rec S p0 p1 p2 = some r)) : ∀ (S : sSt) (p0 : Nat) (tp0 : isK Λ 9 p0) (p1 : Int32) (p2 : Int32), J X 4 0 0 400 [(0, vR (some p0)), (1, vI p1), (2, vI p2)] [] Λ S (Y_X9_layParts_400 Λ.2.2 rec S p0 p1 p2 = some r) := by
  intro S p0 tp0 p1 p2
  unfold Y_X9_layParts_400
  refine j_iload_n C dX9_layParts_400 2 rfl ?_
  refine j_bipush C (v := (10 : Int32)) dX9_layParts_401 (by decide) ?_
  refine j_aload_n C dX9_layParts_403 0 rfl ?_
  refine j_getI C kK9 f361 kfX9_103 (by decide) tp0 dX9_layParts_404 ?_
  refine j_imul C dX9_layParts_407 ?_
  refine j_icmp_ge C (tgt := 500) dX9_layParts_408 (by decide) ?_ ?_
  · refine j_sub (L' := [(0, vR (some p0))]) [0] rfl ?_
    exact jB_X9_layParts_500 C E S p0 tp0
  · refine j_aload_n C dX9_layParts_411 0 rfl ?_
    refine j_getR C kK9 f373 kfX9_45 (by decide) rfl tp0 dX9_layParts_412 (fun x41 tx41 => ?_)
    refine j_iload_n C dX9_layParts_415 1 rfl ?_
    refine j_oc tx41 (fun a42 ta42 ea42 => ?_)
    subst ea42
    refine j_zald C ta42 dX9_layParts_416 ?_
    refine j_if_eq C (tgt := 500) dX9_layParts_417 (by decide) ?_ ?_
    · refine j_sub (L' := [(0, vR (some p0))]) [0] rfl ?_
      exact jB_X9_layParts_500 C E S p0 tp0
    · refine j_aload_n C dX9_layParts_420 0 rfl ?_
      refine j_getR C kK9 f362 kfX9_7 (by decide) rfl tp0 dX9_layParts_421 (fun x43 tx43 => ?_)
      refine j_iload_n C dX9_layParts_424 2 rfl ?_
      refine j_bipush C (v := (10 : Int32)) dX9_layParts_425 (by decide) ?_
      refine j_idiv C dX9_layParts_427 (by decide) ?_
      refine j_oc tx43 (fun a44 ta44 ea44 => ?_)
      subst ea44
      refine j_zald C ta44 dX9_layParts_428 ?_
      refine j_if_eq C (tgt := 494) dX9_layParts_429 (by decide) ?_ ?_
      · exact jB_X9_layParts_494 C E rec hrec S p0 tp0 p1 p2
      · refine j_iload_n C dX9_layParts_432 2 rfl ?_
        refine j_bipush C (v := (10 : Int32)) dX9_layParts_433 (by decide) ?_
        refine j_irem C dX9_layParts_435 (by decide) ?_
        refine j_aload_n C dX9_layParts_436 0 rfl ?_
        refine j_getR C kK9 f363 kfX9_13 (by decide) rfl tp0 dX9_layParts_437 (fun x45 tx45 => ?_)
        refine j_iload_n C dX9_layParts_440 2 rfl ?_
        refine j_bipush C (v := (10 : Int32)) dX9_layParts_441 (by decide) ?_
        refine j_idiv C dX9_layParts_443 (by decide) ?_
        refine j_oc tx45 (fun a46 ta46 ea46 => ?_)
        subst ea46
        refine j_iald C ta46 dX9_layParts_444 ?_
        refine j_icmp_ge C (tgt := 494) dX9_layParts_445 (by decide) ?_ ?_
        · exact jB_X9_layParts_494 C E rec hrec S p0 tp0 p1 p2
        · refine j_aload_n C dX9_layParts_448 0 rfl ?_
          refine j_getR C kK9 f364 kfX9_17 (by decide) rfl tp0 dX9_layParts_449 (fun x47 tx47 => ?_)
          refine j_iload_n C dX9_layParts_452 2 rfl ?_
          refine j_oc tx47 (fun a48 ta48 ea48 => ?_)
          subst ea48
          refine j_iald C ta48 dX9_layParts_453 ?_
          refine j_bipush C (v := (32 : Int32)) dX9_layParts_454 (by decide) ?_
          refine j_idiv C dX9_layParts_456 (by decide) ?_
          refine j_iconst C (v := (2 : Int32)) dX9_layParts_457 (by decide) ?_
          refine j_icmp_ne C (tgt := 494) dX9_layParts_458 (by decide) ?_ ?_
          · exact jB_X9_layParts_494 C E rec hrec S p0 tp0 p1 p2
          · refine j_aload_n C dX9_layParts_461 0 rfl ?_
            refine j_iload_n C dX9_layParts_462 2 rfl ?_
            refine j_bipush C (v := (10 : Int32)) dX9_layParts_463 (by decide) ?_
            refine j_idiv C dX9_layParts_465 (by decide) ?_
            refine j_i2l C dX9_layParts_466 ?_
            refine j_cVVV C [vJ (Int32.toInt64 (p2 / (10 : Int32)))] [] (fun _ e => c_X9_lay p0 tp0 (Int32.toInt64 (p2 / (10 : Int32))) e) kYX9_lay kVX9_lay kmX9_160 kO9 tp0 rfl rfl ⟨rfl, rfl, by decide, by decide⟩ (Nat.le_of_ble_eq_true rfl) ⟨Nat.zero_le _, Nat.zero_le _⟩ dX9_layParts_467 (fun S50 => ?_)
            refine j_aload_n C dX9_layParts_470 0 rfl ?_
            refine j_aload_n C dX9_layParts_471 0 rfl ?_
            refine j_getR C kK9 f364 kfX9_17 (by decide) rfl tp0 dX9_layParts_472 (fun x51 tx51 => ?_)
            refine j_iload_n C dX9_layParts_475 2 rfl ?_
            refine j_oc tx51 (fun a52 ta52 ea52 => ?_)
            subst ea52
            refine j_iald C ta52 dX9_layParts_476 ?_
            refine j_bipush C (v := (32 : Int32)) dX9_layParts_477 (by decide) ?_
            refine j_irem C dX9_layParts_479 (by decide) ?_
            refine j_i2l C dX9_layParts_480 ?_
            refine j_cVVV C [vJ (Int32.toInt64 ((gAI S50 a52 (Int32.toNatClampNeg p2)) - (gAI S50 a52 (Int32.toNatClampNeg p2)) / (32 : Int32) * (32 : Int32)))] [] (fun _ e => c_X9_lay p0 tp0 (Int32.toInt64 ((gAI S50 a52 (Int32.toNatClampNeg p2)) - (gAI S50 a52 (Int32.toNatClampNeg p2)) / (32 : Int32) * (32 : Int32))) e) kYX9_lay kVX9_lay kmX9_160 kO9 tp0 rfl rfl ⟨rfl, rfl, by decide, by decide⟩ (Nat.le_of_ble_eq_true rfl) ⟨Nat.zero_le _, Nat.zero_le _⟩ dX9_layParts_481 (fun S54 => ?_)
            refine j_aload_n C dX9_layParts_484 0 rfl ?_
            refine j_aload_n C dX9_layParts_485 0 rfl ?_
            refine j_getR C kK9 f365 kfX9_20 (by decide) rfl tp0 dX9_layParts_486 (fun x55 tx55 => ?_)
            refine j_iload_n C dX9_layParts_489 2 rfl ?_
            refine j_oc tx55 (fun a56 ta56 ea56 => ?_)
            subst ea56
            refine j_lald C ta56 dX9_layParts_490 ?_
            refine j_cVVV C [vJ (gAJ S54 a56 (Int32.toNatClampNeg p2))] [] (fun _ e => c_X9_lay p0 tp0 (gAJ S54 a56 (Int32.toNatClampNeg p2)) e) kYX9_lay kVX9_lay kmX9_160 kO9 tp0 rfl rfl ⟨rfl, rfl, by decide, by decide⟩ (Nat.le_of_ble_eq_true rfl) ⟨Nat.zero_le _, Nat.zero_le _⟩ dX9_layParts_491 (fun S58 => ?_)
            exact jB_X9_layParts_494 C E rec hrec S58 p0 tp0 p1 p2
def L_X9_layParts_400 (N : Nat → Nat) (n : Nat) : sSt → Nat → Int32 → Int32 → Option sSt := iter (fun _ _ _ _ => none) (Y_X9_layParts_400 N) n
theorem jL_X9_layParts_400 {X : jX} (C : jC X cX9_layParts 4 RX9 rm_X9_layParts) {Λ : sLay} {r : sSt} (E : jE X none rV Λ ((), r)) : ∀ (n : Nat) (S : sSt) (p0 : Nat) (tp0 : isK Λ 9 p0) (p1 : Int32) (p2 : Int32), J X 4 0 0 400 [(0, vR (some p0)), (1, vI p1), (2, vI p2)] [] Λ S (L_X9_layParts_400 Λ.2.2 n S p0 p1 p2 = some r) := by
  intro n
  induction n with
  | zero => intro S p0 tp0 p1 p2; exact j_no (fun h => by have h2 : (none : Option sSt) = some r := h; cases h2)
  | succ n ih => intro S p0 tp0 p1 p2; exact jY_X9_layParts_400 C E (L_X9_layParts_400 Λ.2.2 n) ih S p0 tp0 p1 p2
def B_X9_layParts_395 (N : Nat → Nat) (S : sSt) (p0 : Nat) (p1 : Int32) (s0 : Int64) (s1 : Nat) : Option sSt := Option.bind (F_X9_lay N S s1 s0) (fun S37 => L_X9_layParts_400 N FU S37 p0 p1 (0 : Int32))
set_option maxHeartbeats 4000000 in
theorem jB_X9_layParts_395 {X : jX} (C : jC X cX9_layParts 4 RX9 rm_X9_layParts) {Λ : sLay} {r : sSt} (E : jE X none rV Λ ((), r)) : ∀ (S : sSt) (p0 : Nat) (tp0 : isK Λ 9 p0) (p1 : Int32) (s0 : Int64) (s1 : Nat) (ts1 : isK Λ 9 s1), J X 4 0 0 395 [(0, vR (some p0)), (1, vI p1)] [vJ s0, vR (some s1)] Λ S (B_X9_layParts_395 Λ.2.2 S p0 p1 s0 s1 = some r) := by
  intro S p0 tp0 p1 s0 s1 ts1
  unfold B_X9_layParts_395
  refine j_cVVV C [vJ s0] [] (fun _ e => c_X9_lay s1 ts1 s0 e) kYX9_lay kVX9_lay kmX9_160 kO9 ts1 rfl rfl ⟨rfl, rfl, by decide, by decide⟩ (Nat.le_of_ble_eq_true rfl) ⟨Nat.zero_le _, Nat.zero_le _⟩ dX9_layParts_395 (fun S37 => ?_)
  refine j_iconst C (v := (0 : Int32)) dX9_layParts_398 (by decide) ?_
  refine j_istore_n C (L' := [(2, vI (0 : Int32)), (0, vR (some p0)), (1, vI p1)]) dX9_layParts_399 (by decide) rfl ?_
  refine j_sub (L' := [(0, vR (some p0)), (1, vI p1), (2, vI (0 : Int32))]) [1, 2, 0] rfl ?_
  exact jL_X9_layParts_400 C E FU S37 p0 tp0 p1 (0 : Int32)
def Y_X9_layParts_326 (N : Nat → Nat) (k309 : sSt → Nat → Int32 → Int32 → Option sSt) (rec : sSt → Nat → Int32 → Int32 → Int32 → Option sSt) (S : sSt) (p0 : Nat) (p1 : Int32) (p2 : Int32) (p3 : Int32) : Option sSt := bnd (gFR S 367 p0) (fun x59 => Option.bind x59 (fun a60 => gi p2 (N a60) ((if (gAI S a60 (Int32.toNatClampNeg p2)) ≤ p3 then k309 S p0 p1 (p2 + (1 : Int32)) else bnd (gFR S 368 p0) (fun x61 => Option.bind x61 (fun a62 => gi (((3 : Int32) * p2) + p3) (N a62) (Option.bind (F_X9_find N S p0 p1 ((32 : Int32) + (gAI S a62 (Int32.toNatClampNeg (((3 : Int32) * p2) + p3))))) (fun v63 => Option.bind (F_X9_layFound N S p0 v63) (fun S66 => rec S66 p0 p1 p2 (p3 + (1 : Int32)))))))))))
set_option maxHeartbeats 4000000 in
theorem jY_X9_layParts_326 {X : jX} (C : jC X cX9_layParts 4 RX9 rm_X9_layParts) {Λ : sLay} {r : sSt} (E : jE X none rV Λ ((), r)) (k309 : sSt → Nat → Int32 → Int32 → Option sSt) (hk309 : ∀ (S : sSt) (p0 : Nat) (tp0 : isK Λ 9 p0) (p1 : Int32) (p2 : Int32), J X 4 0 0 309 [(0, vR (some p0)), (1, vI p1), (2, vI p2)] [] Λ S (k309 S p0 p1 p2 = some r)) (rec : sSt → Nat → Int32 → Int32 → Int32 → Option sSt) (hrec : ∀ (S : sSt) (p0 : Nat) (tp0 : isK Λ 9 p0) (p1 : Int32) (p2 : Int32) (p3 : Int32), J X 4 0 0 326 [(0, vR (some p0)), (1, vI p1), (2, vI p2), (3, vI p3)] [] Λ S (rec S p0 p1 p2 p3 = some r)) : ∀ (S : sSt) (p0 : Nat) (tp0 : isK Λ 9 p0) (p1 : Int32) (p2 : Int32) (p3 : Int32), J X 4 0 0 326 [(0, vR (some p0)), (1, vI p1), (2, vI p2), (3, vI p3)] [] Λ S (Y_X9_layParts_326 Λ.2.2 k309 rec S p0 p1 p2 p3 = some r) := by
  intro S p0 tp0 p1 p2 p3
  unfold Y_X9_layParts_326
  refine j_iload_n C dX9_layParts_326 3 rfl ?_
  refine j_aload_n C dX9_layParts_327 0 rfl ?_
  refine j_getR C kK9 f367 kfX9_27 (by decide) rfl tp0 dX9_layParts_328 (fun x59 tx59 => ?_)
  refine j_iload_n C dX9_layParts_331 2 rfl ?_
  refine j_oc tx59 (fun a60 ta60 ea60 => ?_)
  subst ea60
  refine j_iald C ta60 dX9_layParts_332 ?_
  refine j_icmp_ge C (tgt := 364) dX9_layParts_333 (by decide) ?_ ?_
  · refine j_iinc C (v := (1 : Int32)) (L' := [(2, vI (p2 + (1 : Int32))), (0, vR (some p0)), (1, vI p1), (3, vI p3)]) dX9_layParts_364 2 rfl (by decide) (by decide) rfl ?_
    refine j_goto C (tgt := 309) dX9_layParts_367 (by decide) ?_
    refine j_sub (L' := [(0, vR (some p0)), (1, vI p1), (2, vI (p2 + (1 : Int32)))]) [1, 2, 0] rfl ?_
    exact hk309 S p0 tp0 p1 (p2 + (1 : Int32))
  · refine j_aload_n C dX9_layParts_336 0 rfl ?_
    refine j_aload_n C dX9_layParts_337 0 rfl ?_
    refine j_iload_n C dX9_layParts_338 1 rfl ?_
    refine j_bipush C (v := (32 : Int32)) dX9_layParts_339 (by decide) ?_
    refine j_aload_n C dX9_layParts_341 0 rfl ?_
    refine j_getR C kK9 f368 kfX9_30 (by decide) rfl tp0 dX9_layParts_342 (fun x61 tx61 => ?_)
    refine j_iconst C (v := (3 : Int32)) dX9_layParts_345 (by decide) ?_
    refine j_iload_n C dX9_layParts_346 2 rfl ?_
    refine j_imul C dX9_layParts_347 ?_
    refine j_iload_n C dX9_layParts_348 3 rfl ?_
    refine j_iadd C dX9_layParts_349 ?_
    refine j_oc tx61 (fun a62 ta62 ea62 => ?_)
    subst ea62
    refine j_iald C ta62 dX9_layParts_350 ?_
    refine j_iadd C dX9_layParts_351 ?_
    refine j_cVIP C [vI p1, vI ((32 : Int32) + (gAI S a62 (Int32.toNatClampNeg (((3 : Int32) * p2) + p3))))] [vR (some p0)] (fun _ e => c_X9_find p0 tp0 p1 ((32 : Int32) + (gAI S a62 (Int32.toNatClampNeg (((3 : Int32) * p2) + p3)))) e) kYX9_find kVX9_find kmX9_137 kO9 tp0 rfl rfl ⟨rfl, rfl, by decide, by decide⟩ (Nat.le_of_ble_eq_true rfl) ⟨Nat.zero_le _, Nat.zero_le _⟩ dX9_layParts_352 (fun v63 => ?_)
    refine j_cVVV C [vI v63] [] (fun _ e => c_X9_layFound p0 tp0 v63 e) kYX9_layFound kVX9_layFound kmX9_172 kO9 tp0 rfl rfl ⟨rfl, rfl, by decide, by decide⟩ (Nat.le_of_ble_eq_true rfl) ⟨Nat.zero_le _, Nat.zero_le _⟩ dX9_layParts_355 (fun S66 => ?_)
    refine j_iinc C (v := (1 : Int32)) (L' := [(3, vI (p3 + (1 : Int32))), (0, vR (some p0)), (1, vI p1), (2, vI p2)]) dX9_layParts_358 3 rfl (by decide) (by decide) rfl ?_
    refine j_goto C (tgt := 326) dX9_layParts_361 (by decide) ?_
    refine j_sub (L' := [(0, vR (some p0)), (1, vI p1), (2, vI p2), (3, vI (p3 + (1 : Int32)))]) [1, 2, 3, 0] rfl ?_
    exact hrec S66 p0 tp0 p1 p2 (p3 + (1 : Int32))
def L_X9_layParts_326 (N : Nat → Nat) (k309 : sSt → Nat → Int32 → Int32 → Option sSt) (n : Nat) : sSt → Nat → Int32 → Int32 → Int32 → Option sSt := iter (fun _ _ _ _ _ => none) (Y_X9_layParts_326 N k309) n
theorem jL_X9_layParts_326 {X : jX} (C : jC X cX9_layParts 4 RX9 rm_X9_layParts) {Λ : sLay} {r : sSt} (E : jE X none rV Λ ((), r)) (k309 : sSt → Nat → Int32 → Int32 → Option sSt) (hk309 : ∀ (S : sSt) (p0 : Nat) (tp0 : isK Λ 9 p0) (p1 : Int32) (p2 : Int32), J X 4 0 0 309 [(0, vR (some p0)), (1, vI p1), (2, vI p2)] [] Λ S (k309 S p0 p1 p2 = some r)) : ∀ (n : Nat) (S : sSt) (p0 : Nat) (tp0 : isK Λ 9 p0) (p1 : Int32) (p2 : Int32) (p3 : Int32), J X 4 0 0 326 [(0, vR (some p0)), (1, vI p1), (2, vI p2), (3, vI p3)] [] Λ S (L_X9_layParts_326 Λ.2.2 k309 n S p0 p1 p2 p3 = some r) := by
  intro n
  induction n with
  | zero => intro S p0 tp0 p1 p2 p3; exact j_no (fun h => by have h2 : (none : Option sSt) = some r := h; cases h2)
  | succ n ih => intro S p0 tp0 p1 p2 p3; exact jY_X9_layParts_326 C E k309 hk309 (L_X9_layParts_326 Λ.2.2 k309 n) ih S p0 tp0 p1 p2 p3
def Y_X9_layParts_309 (N : Nat → Nat) (rec : sSt → Nat → Int32 → Int32 → Option sSt) (S : sSt) (p0 : Nat) (p1 : Int32) (p2 : Int32) : Option sSt := bnd (gFR S 363 p0) (fun x29 => Option.bind x29 (fun a30 => gi p1 (N a30) ((if (((10 : Int32) * p1) + (gAI S a30 (Int32.toNatClampNeg p1))) ≤ p2 then bnd (gFR S 389 p0) (fun x31 => Option.bind x31 (fun a32 => gi (3 : Int32) (N a32) (bnd (sAI S a32 (Int32.toNatClampNeg (3 : Int32)) (gFI S 388 p0)) (fun S33 => bnd (gFR S33 373 p0) (fun x34 => Option.bind x34 (fun a35 => gi p1 (N a35) ((if (gAI S33 a35 (Int32.toNatClampNeg p1)) = 0 then B_X9_layParts_395 N S33 p0 p1 (0 : Int64) p0 else B_X9_layParts_395 N S33 p0 p1 (1 : Int64) p0)))))))) else L_X9_layParts_326 N rec FU S p0 p1 p2 (0 : Int32)))))
set_option maxHeartbeats 4000000 in
theorem jY_X9_layParts_309 {X : jX} (C : jC X cX9_layParts 4 RX9 rm_X9_layParts) {Λ : sLay} {r : sSt} (E : jE X none rV Λ ((), r)) (rec : sSt → Nat → Int32 → Int32 → Option sSt) (hrec : ∀ (S : sSt) (p0 : Nat) (tp0 : isK Λ 9 p0) (p1 : Int32) (p2 : Int32), J X 4 0 0 309 [(0, vR (some p0)), (1, vI p1), (2, vI p2)] [] Λ S (rec S p0 p1 p2 = some r)) : ∀ (S : sSt) (p0 : Nat) (tp0 : isK Λ 9 p0) (p1 : Int32) (p2 : Int32), J X 4 0 0 309 [(0, vR (some p0)), (1, vI p1), (2, vI p2)] [] Λ S (Y_X9_layParts_309 Λ.2.2 rec S p0 p1 p2 = some r) := by
  intro S p0 tp0 p1 p2
  unfold Y_X9_layParts_309
  refine j_iload_n C dX9_layParts_309 2 rfl ?_
  refine j_bipush C (v := (10 : Int32)) dX9_layParts_310 (by decide) ?_
  refine j_iload_n C dX9_layParts_312 1 rfl ?_
  refine j_imul C dX9_layParts_313 ?_
  refine j_aload_n C dX9_layParts_314 0 rfl ?_
  refine j_getR C kK9 f363 kfX9_13 (by decide) rfl tp0 dX9_layParts_315 (fun x29 tx29 => ?_)
  refine j_iload_n C dX9_layParts_318 1 rfl ?_
  refine j_oc tx29 (fun a30 ta30 ea30 => ?_)
  subst ea30
  refine j_iald C ta30 dX9_layParts_319 ?_
  refine j_iadd C dX9_layParts_320 ?_
  refine j_icmp_ge C (tgt := 370) dX9_layParts_321 (by decide) ?_ ?_
  · refine j_aload_n C dX9_layParts_370 0 rfl ?_
    refine j_getR C kK9 f389 kfX9_84 (by decide) rfl tp0 dX9_layParts_371 (fun x31 tx31 => ?_)
    refine j_iconst C (v := (3 : Int32)) dX9_layParts_374 (by decide) ?_
    refine j_aload_n C dX9_layParts_375 0 rfl ?_
    refine j_getI C kK9 f388 kfX9_155 (by decide) tp0 dX9_layParts_376 ?_
    refine j_oc tx31 (fun a32 ta32 ea32 => ?_)
    subst ea32
    refine j_iast C ta32 dX9_layParts_379 (fun S33 => ?_)
    refine j_aload_n C dX9_layParts_380 0 rfl ?_
    refine j_aload_n C dX9_layParts_381 0 rfl ?_
    refine j_getR C kK9 f373 kfX9_45 (by decide) rfl tp0 dX9_layParts_382 (fun x34 tx34 => ?_)
    refine j_iload_n C dX9_layParts_385 1 rfl ?_
    refine j_oc tx34 (fun a35 ta35 ea35 => ?_)
    subst ea35
    refine j_zald C ta35 dX9_layParts_386 ?_
    refine j_if_eq C (tgt := 394) dX9_layParts_387 (by decide) ?_ ?_
    · refine j_lconst C (v := (0 : Int64)) dX9_layParts_394 (by decide) ?_
      refine j_sub (L' := [(0, vR (some p0)), (1, vI p1)]) [0, 1] rfl ?_
      exact jB_X9_layParts_395 C E S33 p0 tp0 p1 (0 : Int64) p0 tp0
    · refine j_lconst C (v := (1 : Int64)) dX9_layParts_390 (by decide) ?_
      refine j_goto C (tgt := 395) dX9_layParts_391 (by decide) ?_
      refine j_sub (L' := [(0, vR (some p0)), (1, vI p1)]) [0, 1] rfl ?_
      exact jB_X9_layParts_395 C E S33 p0 tp0 p1 (1 : Int64) p0 tp0
  · refine j_iconst C (v := (0 : Int32)) dX9_layParts_324 (by decide) ?_
    refine j_istore_n C (L' := [(3, vI (0 : Int32)), (0, vR (some p0)), (1, vI p1), (2, vI p2)]) dX9_layParts_325 (by decide) rfl ?_
    refine j_sub (L' := [(0, vR (some p0)), (1, vI p1), (2, vI p2), (3, vI (0 : Int32))]) [1, 2, 3, 0] rfl ?_
    exact jL_X9_layParts_326 C E rec hrec FU S p0 tp0 p1 p2 (0 : Int32)
def L_X9_layParts_309 (N : Nat → Nat) (n : Nat) : sSt → Nat → Int32 → Int32 → Option sSt := iter (fun _ _ _ _ => none) (Y_X9_layParts_309 N) n
theorem jL_X9_layParts_309 {X : jX} (C : jC X cX9_layParts 4 RX9 rm_X9_layParts) {Λ : sLay} {r : sSt} (E : jE X none rV Λ ((), r)) : ∀ (n : Nat) (S : sSt) (p0 : Nat) (tp0 : isK Λ 9 p0) (p1 : Int32) (p2 : Int32), J X 4 0 0 309 [(0, vR (some p0)), (1, vI p1), (2, vI p2)] [] Λ S (L_X9_layParts_309 Λ.2.2 n S p0 p1 p2 = some r) := by
  intro n
  induction n with
  | zero => intro S p0 tp0 p1 p2; exact j_no (fun h => by have h2 : (none : Option sSt) = some r := h; cases h2)
  | succ n ih => intro S p0 tp0 p1 p2; exact jY_X9_layParts_309 C E (L_X9_layParts_309 Λ.2.2 n) ih S p0 tp0 p1 p2
def Y_X9_layParts_220 (N : Nat → Nat) (rec : sSt → Nat → Int32 → Int32 → Option sSt) (S : sSt) (p0 : Nat) (p1 : Int32) (p2 : Int32) : Option sSt := bnd (gFR S 371 p0) (fun x24 => Option.bind x24 (fun a25 => gi p1 (N a25) ((if (gAI S a25 (Int32.toNatClampNeg p1)) ≤ p2 then bnd (gFR S 389 p0) (fun x26 => Option.bind x26 (fun a27 => gi (2 : Int32) (N a27) (bnd (sAI S a27 (Int32.toNatClampNeg (2 : Int32)) (gFI S 388 p0)) (fun S28 => L_X9_layParts_309 N FU S28 p0 p1 ((10 : Int32) * p1))))) else bnd (gFR S 372 p0) (fun x67 => Option.bind x67 (fun a68 => gi (((12 : Int32) * p1) + p2) (N a68) (Option.bind (F_X9_lay N S p0 (Int32.toInt64 ((gAI S a68 (Int32.toNatClampNeg (((12 : Int32) * p1) + p2))) / (32 : Int32)))) (fun S70 => bnd (gFR S70 372 p0) (fun x71 => Option.bind x71 (fun a72 => gi (((12 : Int32) * p1) + p2) (N a72) (Option.bind (F_X9_lay N S70 p0 (Int32.toInt64 ((gAI S70 a72 (Int32.toNatClampNeg (((12 : Int32) * p1) + p2))) - (gAI S70 a72 (Int32.toNatClampNeg (((12 : Int32) * p1) + p2))) / (32 : Int32) * (32 : Int32)))) (fun S74 => bnd (gFR S74 372 p0) (fun x75 => Option.bind x75 (fun a76 => gi (((12 : Int32) * p1) + p2) (N a76) (Option.bind (F_X9_find N S74 p0 p1 (gAI S74 a76 (Int32.toNatClampNeg (((12 : Int32) * p1) + p2)))) (fun v77 => Option.bind (F_X9_layFound N S74 p0 v77) (fun S80 => rec S80 p0 p1 (p2 + (1 : Int32)))))))))))))))))))
set_option maxHeartbeats 4000000 in
theorem jY_X9_layParts_220 {X : jX} (C : jC X cX9_layParts 4 RX9 rm_X9_layParts) {Λ : sLay} {r : sSt} (E : jE X none rV Λ ((), r)) (rec : sSt → Nat → Int32 → Int32 → Option sSt) (hrec : ∀ (S : sSt) (p0 : Nat) (tp0 : isK Λ 9 p0) (p1 : Int32) (p2 : Int32), J X 4 0 0 220 [(0, vR (some p0)), (1, vI p1), (2, vI p2)] [] Λ S (rec S p0 p1 p2 = some r)) : ∀ (S : sSt) (p0 : Nat) (tp0 : isK Λ 9 p0) (p1 : Int32) (p2 : Int32), J X 4 0 0 220 [(0, vR (some p0)), (1, vI p1), (2, vI p2)] [] Λ S (Y_X9_layParts_220 Λ.2.2 rec S p0 p1 p2 = some r) := by
  intro S p0 tp0 p1 p2
  unfold Y_X9_layParts_220
  refine j_iload_n C dX9_layParts_220 2 rfl ?_
  refine j_aload_n C dX9_layParts_221 0 rfl ?_
  refine j_getR C kK9 f371 kfX9_39 (by decide) rfl tp0 dX9_layParts_222 (fun x24 tx24 => ?_)
  refine j_iload_n C dX9_layParts_225 1 rfl ?_
  refine j_oc tx24 (fun a25 ta25 ea25 => ?_)
  subst ea25
  refine j_iald C ta25 dX9_layParts_226 ?_
  refine j_icmp_ge C (tgt := 294) dX9_layParts_227 (by decide) ?_ ?_
  · refine j_aload_n C dX9_layParts_294 0 rfl ?_
    refine j_getR C kK9 f389 kfX9_84 (by decide) rfl tp0 dX9_layParts_295 (fun x26 tx26 => ?_)
    refine j_iconst C (v := (2 : Int32)) dX9_layParts_298 (by decide) ?_
    refine j_aload_n C dX9_layParts_299 0 rfl ?_
    refine j_getI C kK9 f388 kfX9_155 (by decide) tp0 dX9_layParts_300 ?_
    refine j_oc tx26 (fun a27 ta27 ea27 => ?_)
    subst ea27
    refine j_iast C ta27 dX9_layParts_303 (fun S28 => ?_)
    refine j_bipush C (v := (10 : Int32)) dX9_layParts_304 (by decide) ?_
    refine j_iload_n C dX9_layParts_306 1 rfl ?_
    refine j_imul C dX9_layParts_307 ?_
    refine j_istore_n C (L' := [(2, vI ((10 : Int32) * p1)), (0, vR (some p0)), (1, vI p1)]) dX9_layParts_308 (by decide) rfl ?_
    refine j_sub (L' := [(0, vR (some p0)), (1, vI p1), (2, vI ((10 : Int32) * p1))]) [1, 2, 0] rfl ?_
    exact jL_X9_layParts_309 C E FU S28 p0 tp0 p1 ((10 : Int32) * p1)
  · refine j_aload_n C dX9_layParts_230 0 rfl ?_
    refine j_aload_n C dX9_layParts_231 0 rfl ?_
    refine j_getR C kK9 f372 kfX9_42 (by decide) rfl tp0 dX9_layParts_232 (fun x67 tx67 => ?_)
    refine j_bipush C (v := (12 : Int32)) dX9_layParts_235 (by decide) ?_
    refine j_iload_n C dX9_layParts_237 1 rfl ?_
    refine j_imul C dX9_layParts_238 ?_
    refine j_iload_n C dX9_layParts_239 2 rfl ?_
    refine j_iadd C dX9_layParts_240 ?_
    refine j_oc tx67 (fun a68 ta68 ea68 => ?_)
    subst ea68
    refine j_iald C ta68 dX9_layParts_241 ?_
    refine j_bipush C (v := (32 : Int32)) dX9_layParts_242 (by decide) ?_
    refine j_idiv C dX9_layParts_244 (by decide) ?_
    refine j_i2l C dX9_layParts_245 ?_
    refine j_cVVV C [vJ (Int32.toInt64 ((gAI S a68 (Int32.toNatClampNeg (((12 : Int32) * p1) + p2))) / (32 : Int32)))] [] (fun _ e => c_X9_lay p0 tp0 (Int32.toInt64 ((gAI S a68 (Int32.toNatClampNeg (((12 : Int32) * p1) + p2))) / (32 : Int32))) e) kYX9_lay kVX9_lay kmX9_160 kO9 tp0 rfl rfl ⟨rfl, rfl, by decide, by decide⟩ (Nat.le_of_ble_eq_true rfl) ⟨Nat.zero_le _, Nat.zero_le _⟩ dX9_layParts_246 (fun S70 => ?_)
    refine j_aload_n C dX9_layParts_249 0 rfl ?_
    refine j_aload_n C dX9_layParts_250 0 rfl ?_
    refine j_getR C kK9 f372 kfX9_42 (by decide) rfl tp0 dX9_layParts_251 (fun x71 tx71 => ?_)
    refine j_bipush C (v := (12 : Int32)) dX9_layParts_254 (by decide) ?_
    refine j_iload_n C dX9_layParts_256 1 rfl ?_
    refine j_imul C dX9_layParts_257 ?_
    refine j_iload_n C dX9_layParts_258 2 rfl ?_
    refine j_iadd C dX9_layParts_259 ?_
    refine j_oc tx71 (fun a72 ta72 ea72 => ?_)
    subst ea72
    refine j_iald C ta72 dX9_layParts_260 ?_
    refine j_bipush C (v := (32 : Int32)) dX9_layParts_261 (by decide) ?_
    refine j_irem C dX9_layParts_263 (by decide) ?_
    refine j_i2l C dX9_layParts_264 ?_
    refine j_cVVV C [vJ (Int32.toInt64 ((gAI S70 a72 (Int32.toNatClampNeg (((12 : Int32) * p1) + p2))) - (gAI S70 a72 (Int32.toNatClampNeg (((12 : Int32) * p1) + p2))) / (32 : Int32) * (32 : Int32)))] [] (fun _ e => c_X9_lay p0 tp0 (Int32.toInt64 ((gAI S70 a72 (Int32.toNatClampNeg (((12 : Int32) * p1) + p2))) - (gAI S70 a72 (Int32.toNatClampNeg (((12 : Int32) * p1) + p2))) / (32 : Int32) * (32 : Int32))) e) kYX9_lay kVX9_lay kmX9_160 kO9 tp0 rfl rfl ⟨rfl, rfl, by decide, by decide⟩ (Nat.le_of_ble_eq_true rfl) ⟨Nat.zero_le _, Nat.zero_le _⟩ dX9_layParts_265 (fun S74 => ?_)
    refine j_aload_n C dX9_layParts_268 0 rfl ?_
    refine j_aload_n C dX9_layParts_269 0 rfl ?_
    refine j_iload_n C dX9_layParts_270 1 rfl ?_
    refine j_aload_n C dX9_layParts_271 0 rfl ?_
    refine j_getR C kK9 f372 kfX9_42 (by decide) rfl tp0 dX9_layParts_272 (fun x75 tx75 => ?_)
    refine j_bipush C (v := (12 : Int32)) dX9_layParts_275 (by decide) ?_
    refine j_iload_n C dX9_layParts_277 1 rfl ?_
    refine j_imul C dX9_layParts_278 ?_
    refine j_iload_n C dX9_layParts_279 2 rfl ?_
    refine j_iadd C dX9_layParts_280 ?_
    refine j_oc tx75 (fun a76 ta76 ea76 => ?_)
    subst ea76
    refine j_iald C ta76 dX9_layParts_281 ?_
    refine j_cVIP C [vI p1, vI (gAI S74 a76 (Int32.toNatClampNeg (((12 : Int32) * p1) + p2)))] [vR (some p0)] (fun _ e => c_X9_find p0 tp0 p1 (gAI S74 a76 (Int32.toNatClampNeg (((12 : Int32) * p1) + p2))) e) kYX9_find kVX9_find kmX9_137 kO9 tp0 rfl rfl ⟨rfl, rfl, by decide, by decide⟩ (Nat.le_of_ble_eq_true rfl) ⟨Nat.zero_le _, Nat.zero_le _⟩ dX9_layParts_282 (fun v77 => ?_)
    refine j_cVVV C [vI v77] [] (fun _ e => c_X9_layFound p0 tp0 v77 e) kYX9_layFound kVX9_layFound kmX9_172 kO9 tp0 rfl rfl ⟨rfl, rfl, by decide, by decide⟩ (Nat.le_of_ble_eq_true rfl) ⟨Nat.zero_le _, Nat.zero_le _⟩ dX9_layParts_285 (fun S80 => ?_)
    refine j_iinc C (v := (1 : Int32)) (L' := [(2, vI (p2 + (1 : Int32))), (0, vR (some p0)), (1, vI p1)]) dX9_layParts_288 2 rfl (by decide) (by decide) rfl ?_
    refine j_goto C (tgt := 220) dX9_layParts_291 (by decide) ?_
    refine j_sub (L' := [(0, vR (some p0)), (1, vI p1), (2, vI (p2 + (1 : Int32)))]) [1, 2, 0] rfl ?_
    exact hrec S80 p0 tp0 p1 (p2 + (1 : Int32))
def L_X9_layParts_220 (N : Nat → Nat) (n : Nat) : sSt → Nat → Int32 → Int32 → Option sSt := iter (fun _ _ _ _ => none) (Y_X9_layParts_220 N) n
theorem jL_X9_layParts_220 {X : jX} (C : jC X cX9_layParts 4 RX9 rm_X9_layParts) {Λ : sLay} {r : sSt} (E : jE X none rV Λ ((), r)) : ∀ (n : Nat) (S : sSt) (p0 : Nat) (tp0 : isK Λ 9 p0) (p1 : Int32) (p2 : Int32), J X 4 0 0 220 [(0, vR (some p0)), (1, vI p1), (2, vI p2)] [] Λ S (L_X9_layParts_220 Λ.2.2 n S p0 p1 p2 = some r) := by
  intro n
  induction n with
  | zero => intro S p0 tp0 p1 p2; exact j_no (fun h => by have h2 : (none : Option sSt) = some r := h; cases h2)
  | succ n ih => intro S p0 tp0 p1 p2; exact jY_X9_layParts_220 C E (L_X9_layParts_220 Λ.2.2 n) ih S p0 tp0 p1 p2
def Y_X9_layParts_165 (N : Nat → Nat) (rec : sSt → Nat → Int32 → Int32 → Option sSt) (S : sSt) (p0 : Nat) (p1 : Int32) (p2 : Int32) : Option sSt := bnd (gFR S 369 p0) (fun x15 => Option.bind x15 (fun a16 => gi p1 (N a16) ((if (gAI S a16 (Int32.toNatClampNeg p1)) ≤ p2 then bnd (gFR S 389 p0) (fun x17 => Option.bind x17 (fun a18 => gi (1 : Int32) (N a18) (bnd (sAI S a18 (Int32.toNatClampNeg (1 : Int32)) (gFI S 388 p0)) (fun S19 => bnd (gFR S19 371 p0) (fun x20 => Option.bind x20 (fun a21 => gi p1 (N a21) (Option.bind (F_X9_lay N S19 p0 (Int32.toInt64 (gAI S19 a21 (Int32.toNatClampNeg p1)))) (fun S23 => L_X9_layParts_220 N FU S23 p0 p1 (0 : Int32))))))))) else bnd (gFR S 370 p0) (fun x81 => Option.bind x81 (fun a82 => gi (((6 : Int32) * p1) + p2) (N a82) (Option.bind (F_X9_lay N S p0 (Int32.toInt64 (gAI S a82 (Int32.toNatClampNeg (((6 : Int32) * p1) + p2))))) (fun S84 => rec S84 p0 p1 (p2 + (1 : Int32))))))))))
set_option maxHeartbeats 4000000 in
theorem jY_X9_layParts_165 {X : jX} (C : jC X cX9_layParts 4 RX9 rm_X9_layParts) {Λ : sLay} {r : sSt} (E : jE X none rV Λ ((), r)) (rec : sSt → Nat → Int32 → Int32 → Option sSt) (hrec : ∀ (S : sSt) (p0 : Nat) (tp0 : isK Λ 9 p0) (p1 : Int32) (p2 : Int32), J X 4 0 0 165 [(0, vR (some p0)), (1, vI p1), (2, vI p2)] [] Λ S (rec S p0 p1 p2 = some r)) : ∀ (S : sSt) (p0 : Nat) (tp0 : isK Λ 9 p0) (p1 : Int32) (p2 : Int32), J X 4 0 0 165 [(0, vR (some p0)), (1, vI p1), (2, vI p2)] [] Λ S (Y_X9_layParts_165 Λ.2.2 rec S p0 p1 p2 = some r) := by
  intro S p0 tp0 p1 p2
  unfold Y_X9_layParts_165
  refine j_iload_n C dX9_layParts_165 2 rfl ?_
  refine j_aload_n C dX9_layParts_166 0 rfl ?_
  refine j_getR C kK9 f369 kfX9_33 (by decide) rfl tp0 dX9_layParts_167 (fun x15 tx15 => ?_)
  refine j_iload_n C dX9_layParts_170 1 rfl ?_
  refine j_oc tx15 (fun a16 ta16 ea16 => ?_)
  subst ea16
  refine j_iald C ta16 dX9_layParts_171 ?_
  refine j_icmp_ge C (tgt := 197) dX9_layParts_172 (by decide) ?_ ?_
  · refine j_aload_n C dX9_layParts_197 0 rfl ?_
    refine j_getR C kK9 f389 kfX9_84 (by decide) rfl tp0 dX9_layParts_198 (fun x17 tx17 => ?_)
    refine j_iconst C (v := (1 : Int32)) dX9_layParts_201 (by decide) ?_
    refine j_aload_n C dX9_layParts_202 0 rfl ?_
    refine j_getI C kK9 f388 kfX9_155 (by decide) tp0 dX9_layParts_203 ?_
    refine j_oc tx17 (fun a18 ta18 ea18 => ?_)
    subst ea18
    refine j_iast C ta18 dX9_layParts_206 (fun S19 => ?_)
    refine j_aload_n C dX9_layParts_207 0 rfl ?_
    refine j_aload_n C dX9_layParts_208 0 rfl ?_
    refine j_getR C kK9 f371 kfX9_39 (by decide) rfl tp0 dX9_layParts_209 (fun x20 tx20 => ?_)
    refine j_iload_n C dX9_layParts_212 1 rfl ?_
    refine j_oc tx20 (fun a21 ta21 ea21 => ?_)
    subst ea21
    refine j_iald C ta21 dX9_layParts_213 ?_
    refine j_i2l C dX9_layParts_214 ?_
    refine j_cVVV C [vJ (Int32.toInt64 (gAI S19 a21 (Int32.toNatClampNeg p1)))] [] (fun _ e => c_X9_lay p0 tp0 (Int32.toInt64 (gAI S19 a21 (Int32.toNatClampNeg p1))) e) kYX9_lay kVX9_lay kmX9_160 kO9 tp0 rfl rfl ⟨rfl, rfl, by decide, by decide⟩ (Nat.le_of_ble_eq_true rfl) ⟨Nat.zero_le _, Nat.zero_le _⟩ dX9_layParts_215 (fun S23 => ?_)
    refine j_iconst C (v := (0 : Int32)) dX9_layParts_218 (by decide) ?_
    refine j_istore_n C (L' := [(2, vI (0 : Int32)), (0, vR (some p0)), (1, vI p1)]) dX9_layParts_219 (by decide) rfl ?_
    refine j_sub (L' := [(0, vR (some p0)), (1, vI p1), (2, vI (0 : Int32))]) [1, 2, 0] rfl ?_
    exact jL_X9_layParts_220 C E FU S23 p0 tp0 p1 (0 : Int32)
  · refine j_aload_n C dX9_layParts_175 0 rfl ?_
    refine j_aload_n C dX9_layParts_176 0 rfl ?_
    refine j_getR C kK9 f370 kfX9_36 (by decide) rfl tp0 dX9_layParts_177 (fun x81 tx81 => ?_)
    refine j_bipush C (v := (6 : Int32)) dX9_layParts_180 (by decide) ?_
    refine j_iload_n C dX9_layParts_182 1 rfl ?_
    refine j_imul C dX9_layParts_183 ?_
    refine j_iload_n C dX9_layParts_184 2 rfl ?_
    refine j_iadd C dX9_layParts_185 ?_
    refine j_oc tx81 (fun a82 ta82 ea82 => ?_)
    subst ea82
    refine j_iald C ta82 dX9_layParts_186 ?_
    refine j_i2l C dX9_layParts_187 ?_
    refine j_cVVV C [vJ (Int32.toInt64 (gAI S a82 (Int32.toNatClampNeg (((6 : Int32) * p1) + p2))))] [] (fun _ e => c_X9_lay p0 tp0 (Int32.toInt64 (gAI S a82 (Int32.toNatClampNeg (((6 : Int32) * p1) + p2)))) e) kYX9_lay kVX9_lay kmX9_160 kO9 tp0 rfl rfl ⟨rfl, rfl, by decide, by decide⟩ (Nat.le_of_ble_eq_true rfl) ⟨Nat.zero_le _, Nat.zero_le _⟩ dX9_layParts_188 (fun S84 => ?_)
    refine j_iinc C (v := (1 : Int32)) (L' := [(2, vI (p2 + (1 : Int32))), (0, vR (some p0)), (1, vI p1)]) dX9_layParts_191 2 rfl (by decide) (by decide) rfl ?_
    refine j_goto C (tgt := 165) dX9_layParts_194 (by decide) ?_
    refine j_sub (L' := [(0, vR (some p0)), (1, vI p1), (2, vI (p2 + (1 : Int32)))]) [1, 2, 0] rfl ?_
    exact hrec S84 p0 tp0 p1 (p2 + (1 : Int32))
def L_X9_layParts_165 (N : Nat → Nat) (n : Nat) : sSt → Nat → Int32 → Int32 → Option sSt := iter (fun _ _ _ _ => none) (Y_X9_layParts_165 N) n
theorem jL_X9_layParts_165 {X : jX} (C : jC X cX9_layParts 4 RX9 rm_X9_layParts) {Λ : sLay} {r : sSt} (E : jE X none rV Λ ((), r)) : ∀ (n : Nat) (S : sSt) (p0 : Nat) (tp0 : isK Λ 9 p0) (p1 : Int32) (p2 : Int32), J X 4 0 0 165 [(0, vR (some p0)), (1, vI p1), (2, vI p2)] [] Λ S (L_X9_layParts_165 Λ.2.2 n S p0 p1 p2 = some r) := by
  intro n
  induction n with
  | zero => intro S p0 tp0 p1 p2; exact j_no (fun h => by have h2 : (none : Option sSt) = some r := h; cases h2)
  | succ n ih => intro S p0 tp0 p1 p2; exact jY_X9_layParts_165 C E (L_X9_layParts_165 Λ.2.2 n) ih S p0 tp0 p1 p2
def Y_X9_layParts_105 (N : Nat → Nat) (k21 : sSt → Nat → Int32 → Int32 → Option sSt) (rec : sSt → Nat → Int32 → Int32 → Int32 → Option sSt) (S : sSt) (p0 : Nat) (p1 : Int32) (p2 : Int32) (p3 : Int32) : Option sSt := bnd (gFR S 367 p0) (fun x105 => Option.bind x105 (fun a106 => gi p2 (N a106) ((if (gAI S a106 (Int32.toNatClampNeg p2)) ≤ p3 then k21 S p0 p1 (p2 + (1 : Int32)) else bnd (gFR S 368 p0) (fun x107 => Option.bind x107 (fun a108 => gi (((3 : Int32) * p2) + p3) (N a108) (Option.bind (F_X9_lay N S p0 (Int32.toInt64 (gAI S a108 (Int32.toNatClampNeg (((3 : Int32) * p2) + p3))))) (fun S110 => rec S110 p0 p1 p2 (p3 + (1 : Int32))))))))))
set_option maxHeartbeats 4000000 in
theorem jY_X9_layParts_105 {X : jX} (C : jC X cX9_layParts 4 RX9 rm_X9_layParts) {Λ : sLay} {r : sSt} (E : jE X none rV Λ ((), r)) (k21 : sSt → Nat → Int32 → Int32 → Option sSt) (hk21 : ∀ (S : sSt) (p0 : Nat) (tp0 : isK Λ 9 p0) (p1 : Int32) (p2 : Int32), J X 4 0 0 21 [(0, vR (some p0)), (1, vI p1), (2, vI p2)] [] Λ S (k21 S p0 p1 p2 = some r)) (rec : sSt → Nat → Int32 → Int32 → Int32 → Option sSt) (hrec : ∀ (S : sSt) (p0 : Nat) (tp0 : isK Λ 9 p0) (p1 : Int32) (p2 : Int32) (p3 : Int32), J X 4 0 0 105 [(0, vR (some p0)), (1, vI p1), (2, vI p2), (3, vI p3)] [] Λ S (rec S p0 p1 p2 p3 = some r)) : ∀ (S : sSt) (p0 : Nat) (tp0 : isK Λ 9 p0) (p1 : Int32) (p2 : Int32) (p3 : Int32), J X 4 0 0 105 [(0, vR (some p0)), (1, vI p1), (2, vI p2), (3, vI p3)] [] Λ S (Y_X9_layParts_105 Λ.2.2 k21 rec S p0 p1 p2 p3 = some r) := by
  intro S p0 tp0 p1 p2 p3
  unfold Y_X9_layParts_105
  refine j_iload_n C dX9_layParts_105 3 rfl ?_
  refine j_aload_n C dX9_layParts_106 0 rfl ?_
  refine j_getR C kK9 f367 kfX9_27 (by decide) rfl tp0 dX9_layParts_107 (fun x105 tx105 => ?_)
  refine j_iload_n C dX9_layParts_110 2 rfl ?_
  refine j_oc tx105 (fun a106 ta106 ea106 => ?_)
  subst ea106
  refine j_iald C ta106 dX9_layParts_111 ?_
  refine j_icmp_ge C (tgt := 136) dX9_layParts_112 (by decide) ?_ ?_
  · refine j_iinc C (v := (1 : Int32)) (L' := [(2, vI (p2 + (1 : Int32))), (0, vR (some p0)), (1, vI p1), (3, vI p3)]) dX9_layParts_136 2 rfl (by decide) (by decide) rfl ?_
    refine j_goto C (tgt := 21) dX9_layParts_139 (by decide) ?_
    refine j_sub (L' := [(0, vR (some p0)), (1, vI p1), (2, vI (p2 + (1 : Int32)))]) [1, 2, 0] rfl ?_
    exact hk21 S p0 tp0 p1 (p2 + (1 : Int32))
  · refine j_aload_n C dX9_layParts_115 0 rfl ?_
    refine j_aload_n C dX9_layParts_116 0 rfl ?_
    refine j_getR C kK9 f368 kfX9_30 (by decide) rfl tp0 dX9_layParts_117 (fun x107 tx107 => ?_)
    refine j_iconst C (v := (3 : Int32)) dX9_layParts_120 (by decide) ?_
    refine j_iload_n C dX9_layParts_121 2 rfl ?_
    refine j_imul C dX9_layParts_122 ?_
    refine j_iload_n C dX9_layParts_123 3 rfl ?_
    refine j_iadd C dX9_layParts_124 ?_
    refine j_oc tx107 (fun a108 ta108 ea108 => ?_)
    subst ea108
    refine j_iald C ta108 dX9_layParts_125 ?_
    refine j_i2l C dX9_layParts_126 ?_
    refine j_cVVV C [vJ (Int32.toInt64 (gAI S a108 (Int32.toNatClampNeg (((3 : Int32) * p2) + p3))))] [] (fun _ e => c_X9_lay p0 tp0 (Int32.toInt64 (gAI S a108 (Int32.toNatClampNeg (((3 : Int32) * p2) + p3)))) e) kYX9_lay kVX9_lay kmX9_160 kO9 tp0 rfl rfl ⟨rfl, rfl, by decide, by decide⟩ (Nat.le_of_ble_eq_true rfl) ⟨Nat.zero_le _, Nat.zero_le _⟩ dX9_layParts_127 (fun S110 => ?_)
    refine j_iinc C (v := (1 : Int32)) (L' := [(3, vI (p3 + (1 : Int32))), (0, vR (some p0)), (1, vI p1), (2, vI p2)]) dX9_layParts_130 3 rfl (by decide) (by decide) rfl ?_
    refine j_goto C (tgt := 105) dX9_layParts_133 (by decide) ?_
    refine j_sub (L' := [(0, vR (some p0)), (1, vI p1), (2, vI p2), (3, vI (p3 + (1 : Int32)))]) [1, 2, 3, 0] rfl ?_
    exact hrec S110 p0 tp0 p1 p2 (p3 + (1 : Int32))
def L_X9_layParts_105 (N : Nat → Nat) (k21 : sSt → Nat → Int32 → Int32 → Option sSt) (n : Nat) : sSt → Nat → Int32 → Int32 → Int32 → Option sSt := iter (fun _ _ _ _ _ => none) (Y_X9_layParts_105 N k21) n
theorem jL_X9_layParts_105 {X : jX} (C : jC X cX9_layParts 4 RX9 rm_X9_layParts) {Λ : sLay} {r : sSt} (E : jE X none rV Λ ((), r)) (k21 : sSt → Nat → Int32 → Int32 → Option sSt) (hk21 : ∀ (S : sSt) (p0 : Nat) (tp0 : isK Λ 9 p0) (p1 : Int32) (p2 : Int32), J X 4 0 0 21 [(0, vR (some p0)), (1, vI p1), (2, vI p2)] [] Λ S (k21 S p0 p1 p2 = some r)) : ∀ (n : Nat) (S : sSt) (p0 : Nat) (tp0 : isK Λ 9 p0) (p1 : Int32) (p2 : Int32) (p3 : Int32), J X 4 0 0 105 [(0, vR (some p0)), (1, vI p1), (2, vI p2), (3, vI p3)] [] Λ S (L_X9_layParts_105 Λ.2.2 k21 n S p0 p1 p2 p3 = some r) := by
  intro n
  induction n with
  | zero => intro S p0 tp0 p1 p2 p3; exact j_no (fun h => by have h2 : (none : Option sSt) = some r := h; cases h2)
  | succ n ih => intro S p0 tp0 p1 p2 p3; exact jY_X9_layParts_105 C E k21 hk21 (L_X9_layParts_105 Λ.2.2 k21 n) ih S p0 tp0 p1 p2 p3
def B_X9_layParts_89 (N : Nat → Nat) (k21 : sSt → Nat → Int32 → Int32 → Option sSt) (S : sSt) (p0 : Nat) (p1 : Int32) (p2 : Int32) (s0 : Int64) (s1 : Nat) : Option sSt := Option.bind (F_X9_lay N S s1 s0) (fun S100 => bnd (gFR S100 367 p0) (fun x101 => Option.bind x101 (fun a102 => gi p2 (N a102) (Option.bind (F_X9_lay N S100 p0 (Int32.toInt64 (gAI S100 a102 (Int32.toNatClampNeg p2)))) (fun S104 => L_X9_layParts_105 N k21 FU S104 p0 p1 p2 (0 : Int32))))))
set_option maxHeartbeats 4000000 in
theorem jB_X9_layParts_89 {X : jX} (C : jC X cX9_layParts 4 RX9 rm_X9_layParts) {Λ : sLay} {r : sSt} (E : jE X none rV Λ ((), r)) (k21 : sSt → Nat → Int32 → Int32 → Option sSt) (hk21 : ∀ (S : sSt) (p0 : Nat) (tp0 : isK Λ 9 p0) (p1 : Int32) (p2 : Int32), J X 4 0 0 21 [(0, vR (some p0)), (1, vI p1), (2, vI p2)] [] Λ S (k21 S p0 p1 p2 = some r)) : ∀ (S : sSt) (p0 : Nat) (tp0 : isK Λ 9 p0) (p1 : Int32) (p2 : Int32) (s0 : Int64) (s1 : Nat) (ts1 : isK Λ 9 s1), J X 4 0 0 89 [(0, vR (some p0)), (1, vI p1), (2, vI p2)] [vJ s0, vR (some s1)] Λ S (B_X9_layParts_89 Λ.2.2 k21 S p0 p1 p2 s0 s1 = some r) := by
  intro S p0 tp0 p1 p2 s0 s1 ts1
  unfold B_X9_layParts_89
  refine j_cVVV C [vJ s0] [] (fun _ e => c_X9_lay s1 ts1 s0 e) kYX9_lay kVX9_lay kmX9_160 kO9 ts1 rfl rfl ⟨rfl, rfl, by decide, by decide⟩ (Nat.le_of_ble_eq_true rfl) ⟨Nat.zero_le _, Nat.zero_le _⟩ dX9_layParts_89 (fun S100 => ?_)
  refine j_aload_n C dX9_layParts_92 0 rfl ?_
  refine j_aload_n C dX9_layParts_93 0 rfl ?_
  refine j_getR C kK9 f367 kfX9_27 (by decide) rfl tp0 dX9_layParts_94 (fun x101 tx101 => ?_)
  refine j_iload_n C dX9_layParts_97 2 rfl ?_
  refine j_oc tx101 (fun a102 ta102 ea102 => ?_)
  subst ea102
  refine j_iald C ta102 dX9_layParts_98 ?_
  refine j_i2l C dX9_layParts_99 ?_
  refine j_cVVV C [vJ (Int32.toInt64 (gAI S100 a102 (Int32.toNatClampNeg p2)))] [] (fun _ e => c_X9_lay p0 tp0 (Int32.toInt64 (gAI S100 a102 (Int32.toNatClampNeg p2))) e) kYX9_lay kVX9_lay kmX9_160 kO9 tp0 rfl rfl ⟨rfl, rfl, by decide, by decide⟩ (Nat.le_of_ble_eq_true rfl) ⟨Nat.zero_le _, Nat.zero_le _⟩ dX9_layParts_100 (fun S104 => ?_)
  refine j_iconst C (v := (0 : Int32)) dX9_layParts_103 (by decide) ?_
  refine j_istore_n C (L' := [(3, vI (0 : Int32)), (0, vR (some p0)), (1, vI p1), (2, vI p2)]) dX9_layParts_104 (by decide) rfl ?_
  refine j_sub (L' := [(0, vR (some p0)), (1, vI p1), (2, vI p2), (3, vI (0 : Int32))]) [1, 2, 3, 0] rfl ?_
  exact jL_X9_layParts_105 C E k21 hk21 FU S104 p0 tp0 p1 p2 (0 : Int32)
def Y_X9_layParts_21 (N : Nat → Nat) (rec : sSt → Nat → Int32 → Int32 → Option sSt) (S : sSt) (p0 : Nat) (p1 : Int32) (p2 : Int32) : Option sSt := bnd (gFR S 363 p0) (fun x6 => Option.bind x6 (fun a7 => gi p1 (N a7) ((if (((10 : Int32) * p1) + (gAI S a7 (Int32.toNatClampNeg p1))) ≤ p2 then bnd (gFR S 389 p0) (fun x8 => Option.bind x8 (fun a9 => gi (0 : Int32) (N a9) (bnd (sAI S a9 (Int32.toNatClampNeg (0 : Int32)) (gFI S 388 p0)) (fun S10 => bnd (gFR S10 369 p0) (fun x11 => Option.bind x11 (fun a12 => gi p1 (N a12) (Option.bind (F_X9_lay N S10 p0 (Int32.toInt64 (gAI S10 a12 (Int32.toNatClampNeg p1)))) (fun S14 => L_X9_layParts_165 N FU S14 p0 p1 (0 : Int32))))))))) else bnd (gFR S 364 p0) (fun x85 => Option.bind x85 (fun a86 => gi p2 (N a86) (Option.bind (F_X9_lay N S p0 (Int32.toInt64 ((gAI S a86 (Int32.toNatClampNeg p2)) / (32 : Int32)))) (fun S88 => bnd (gFR S88 364 p0) (fun x89 => Option.bind x89 (fun a90 => gi p2 (N a90) (Option.bind (F_X9_lay N S88 p0 (Int32.toInt64 ((gAI S88 a90 (Int32.toNatClampNeg p2)) - (gAI S88 a90 (Int32.toNatClampNeg p2)) / (32 : Int32) * (32 : Int32)))) (fun S92 => bnd (gFR S92 365 p0) (fun x93 => Option.bind x93 (fun a94 => gi p2 (N a94) (Option.bind (F_X9_lay N S92 p0 (gAJ S92 a94 (Int32.toNatClampNeg p2))) (fun S96 => bnd (gFR S96 366 p0) (fun x97 => Option.bind x97 (fun a98 => gi p2 (N a98) ((if (gAI S96 a98 (Int32.toNatClampNeg p2)) = 0 then B_X9_layParts_89 N rec S96 p0 p1 p2 (0 : Int64) p0 else B_X9_layParts_89 N rec S96 p0 p1 p2 (1 : Int64) p0))))))))))))))))))))
set_option maxHeartbeats 4000000 in
theorem jY_X9_layParts_21 {X : jX} (C : jC X cX9_layParts 4 RX9 rm_X9_layParts) {Λ : sLay} {r : sSt} (E : jE X none rV Λ ((), r)) (rec : sSt → Nat → Int32 → Int32 → Option sSt) (hrec : ∀ (S : sSt) (p0 : Nat) (tp0 : isK Λ 9 p0) (p1 : Int32) (p2 : Int32), J X 4 0 0 21 [(0, vR (some p0)), (1, vI p1), (2, vI p2)] [] Λ S (rec S p0 p1 p2 = some r)) : ∀ (S : sSt) (p0 : Nat) (tp0 : isK Λ 9 p0) (p1 : Int32) (p2 : Int32), J X 4 0 0 21 [(0, vR (some p0)), (1, vI p1), (2, vI p2)] [] Λ S (Y_X9_layParts_21 Λ.2.2 rec S p0 p1 p2 = some r) := by
  intro S p0 tp0 p1 p2
  unfold Y_X9_layParts_21
  refine j_iload_n C dX9_layParts_21 2 rfl ?_
  refine j_bipush C (v := (10 : Int32)) dX9_layParts_22 (by decide) ?_
  refine j_iload_n C dX9_layParts_24 1 rfl ?_
  refine j_imul C dX9_layParts_25 ?_
  refine j_aload_n C dX9_layParts_26 0 rfl ?_
  refine j_getR C kK9 f363 kfX9_13 (by decide) rfl tp0 dX9_layParts_27 (fun x6 tx6 => ?_)
  refine j_iload_n C dX9_layParts_30 1 rfl ?_
  refine j_oc tx6 (fun a7 ta7 ea7 => ?_)
  subst ea7
  refine j_iald C ta7 dX9_layParts_31 ?_
  refine j_iadd C dX9_layParts_32 ?_
  refine j_icmp_ge C (tgt := 142) dX9_layParts_33 (by decide) ?_ ?_
  · refine j_aload_n C dX9_layParts_142 0 rfl ?_
    refine j_getR C kK9 f389 kfX9_84 (by decide) rfl tp0 dX9_layParts_143 (fun x8 tx8 => ?_)
    refine j_iconst C (v := (0 : Int32)) dX9_layParts_146 (by decide) ?_
    refine j_aload_n C dX9_layParts_147 0 rfl ?_
    refine j_getI C kK9 f388 kfX9_155 (by decide) tp0 dX9_layParts_148 ?_
    refine j_oc tx8 (fun a9 ta9 ea9 => ?_)
    subst ea9
    refine j_iast C ta9 dX9_layParts_151 (fun S10 => ?_)
    refine j_aload_n C dX9_layParts_152 0 rfl ?_
    refine j_aload_n C dX9_layParts_153 0 rfl ?_
    refine j_getR C kK9 f369 kfX9_33 (by decide) rfl tp0 dX9_layParts_154 (fun x11 tx11 => ?_)
    refine j_iload_n C dX9_layParts_157 1 rfl ?_
    refine j_oc tx11 (fun a12 ta12 ea12 => ?_)
    subst ea12
    refine j_iald C ta12 dX9_layParts_158 ?_
    refine j_i2l C dX9_layParts_159 ?_
    refine j_cVVV C [vJ (Int32.toInt64 (gAI S10 a12 (Int32.toNatClampNeg p1)))] [] (fun _ e => c_X9_lay p0 tp0 (Int32.toInt64 (gAI S10 a12 (Int32.toNatClampNeg p1))) e) kYX9_lay kVX9_lay kmX9_160 kO9 tp0 rfl rfl ⟨rfl, rfl, by decide, by decide⟩ (Nat.le_of_ble_eq_true rfl) ⟨Nat.zero_le _, Nat.zero_le _⟩ dX9_layParts_160 (fun S14 => ?_)
    refine j_iconst C (v := (0 : Int32)) dX9_layParts_163 (by decide) ?_
    refine j_istore_n C (L' := [(2, vI (0 : Int32)), (0, vR (some p0)), (1, vI p1)]) dX9_layParts_164 (by decide) rfl ?_
    refine j_sub (L' := [(0, vR (some p0)), (1, vI p1), (2, vI (0 : Int32))]) [1, 2, 0] rfl ?_
    exact jL_X9_layParts_165 C E FU S14 p0 tp0 p1 (0 : Int32)
  · refine j_aload_n C dX9_layParts_36 0 rfl ?_
    refine j_aload_n C dX9_layParts_37 0 rfl ?_
    refine j_getR C kK9 f364 kfX9_17 (by decide) rfl tp0 dX9_layParts_38 (fun x85 tx85 => ?_)
    refine j_iload_n C dX9_layParts_41 2 rfl ?_
    refine j_oc tx85 (fun a86 ta86 ea86 => ?_)
    subst ea86
    refine j_iald C ta86 dX9_layParts_42 ?_
    refine j_bipush C (v := (32 : Int32)) dX9_layParts_43 (by decide) ?_
    refine j_idiv C dX9_layParts_45 (by decide) ?_
    refine j_i2l C dX9_layParts_46 ?_
    refine j_cVVV C [vJ (Int32.toInt64 ((gAI S a86 (Int32.toNatClampNeg p2)) / (32 : Int32)))] [] (fun _ e => c_X9_lay p0 tp0 (Int32.toInt64 ((gAI S a86 (Int32.toNatClampNeg p2)) / (32 : Int32))) e) kYX9_lay kVX9_lay kmX9_160 kO9 tp0 rfl rfl ⟨rfl, rfl, by decide, by decide⟩ (Nat.le_of_ble_eq_true rfl) ⟨Nat.zero_le _, Nat.zero_le _⟩ dX9_layParts_47 (fun S88 => ?_)
    refine j_aload_n C dX9_layParts_50 0 rfl ?_
    refine j_aload_n C dX9_layParts_51 0 rfl ?_
    refine j_getR C kK9 f364 kfX9_17 (by decide) rfl tp0 dX9_layParts_52 (fun x89 tx89 => ?_)
    refine j_iload_n C dX9_layParts_55 2 rfl ?_
    refine j_oc tx89 (fun a90 ta90 ea90 => ?_)
    subst ea90
    refine j_iald C ta90 dX9_layParts_56 ?_
    refine j_bipush C (v := (32 : Int32)) dX9_layParts_57 (by decide) ?_
    refine j_irem C dX9_layParts_59 (by decide) ?_
    refine j_i2l C dX9_layParts_60 ?_
    refine j_cVVV C [vJ (Int32.toInt64 ((gAI S88 a90 (Int32.toNatClampNeg p2)) - (gAI S88 a90 (Int32.toNatClampNeg p2)) / (32 : Int32) * (32 : Int32)))] [] (fun _ e => c_X9_lay p0 tp0 (Int32.toInt64 ((gAI S88 a90 (Int32.toNatClampNeg p2)) - (gAI S88 a90 (Int32.toNatClampNeg p2)) / (32 : Int32) * (32 : Int32))) e) kYX9_lay kVX9_lay kmX9_160 kO9 tp0 rfl rfl ⟨rfl, rfl, by decide, by decide⟩ (Nat.le_of_ble_eq_true rfl) ⟨Nat.zero_le _, Nat.zero_le _⟩ dX9_layParts_61 (fun S92 => ?_)
    refine j_aload_n C dX9_layParts_64 0 rfl ?_
    refine j_aload_n C dX9_layParts_65 0 rfl ?_
    refine j_getR C kK9 f365 kfX9_20 (by decide) rfl tp0 dX9_layParts_66 (fun x93 tx93 => ?_)
    refine j_iload_n C dX9_layParts_69 2 rfl ?_
    refine j_oc tx93 (fun a94 ta94 ea94 => ?_)
    subst ea94
    refine j_lald C ta94 dX9_layParts_70 ?_
    refine j_cVVV C [vJ (gAJ S92 a94 (Int32.toNatClampNeg p2))] [] (fun _ e => c_X9_lay p0 tp0 (gAJ S92 a94 (Int32.toNatClampNeg p2)) e) kYX9_lay kVX9_lay kmX9_160 kO9 tp0 rfl rfl ⟨rfl, rfl, by decide, by decide⟩ (Nat.le_of_ble_eq_true rfl) ⟨Nat.zero_le _, Nat.zero_le _⟩ dX9_layParts_71 (fun S96 => ?_)
    refine j_aload_n C dX9_layParts_74 0 rfl ?_
    refine j_aload_n C dX9_layParts_75 0 rfl ?_
    refine j_getR C kK9 f366 kfX9_24 (by decide) rfl tp0 dX9_layParts_76 (fun x97 tx97 => ?_)
    refine j_iload_n C dX9_layParts_79 2 rfl ?_
    refine j_oc tx97 (fun a98 ta98 ea98 => ?_)
    subst ea98
    refine j_zald C ta98 dX9_layParts_80 ?_
    refine j_if_eq C (tgt := 88) dX9_layParts_81 (by decide) ?_ ?_
    · refine j_lconst C (v := (0 : Int64)) dX9_layParts_88 (by decide) ?_
      exact jB_X9_layParts_89 C E rec hrec S96 p0 tp0 p1 p2 (0 : Int64) p0 tp0
    · refine j_lconst C (v := (1 : Int64)) dX9_layParts_84 (by decide) ?_
      refine j_goto C (tgt := 89) dX9_layParts_85 (by decide) ?_
      exact jB_X9_layParts_89 C E rec hrec S96 p0 tp0 p1 p2 (1 : Int64) p0 tp0
def L_X9_layParts_21 (N : Nat → Nat) (n : Nat) : sSt → Nat → Int32 → Int32 → Option sSt := iter (fun _ _ _ _ => none) (Y_X9_layParts_21 N) n
theorem jL_X9_layParts_21 {X : jX} (C : jC X cX9_layParts 4 RX9 rm_X9_layParts) {Λ : sLay} {r : sSt} (E : jE X none rV Λ ((), r)) : ∀ (n : Nat) (S : sSt) (p0 : Nat) (tp0 : isK Λ 9 p0) (p1 : Int32) (p2 : Int32), J X 4 0 0 21 [(0, vR (some p0)), (1, vI p1), (2, vI p2)] [] Λ S (L_X9_layParts_21 Λ.2.2 n S p0 p1 p2 = some r) := by
  intro n
  induction n with
  | zero => intro S p0 tp0 p1 p2; exact j_no (fun h => by have h2 : (none : Option sSt) = some r := h; cases h2)
  | succ n ih => intro S p0 tp0 p1 p2; exact jY_X9_layParts_21 C E (L_X9_layParts_21 Λ.2.2 n) ih S p0 tp0 p1 p2
def F_X9_layParts (N : Nat → Nat) (S : sSt) (p0 : Nat) (p1 : Int32) : Option sSt := bnd (sFI S 388 p0 (0 : Int32)) (fun S1 => bnd (gFR S1 363 p0) (fun x2 => Option.bind x2 (fun a3 => gi p1 (N a3) (Option.bind (F_X9_lay N S1 p0 (Int32.toInt64 (gAI S1 a3 (Int32.toNatClampNeg p1)))) (fun S5 => L_X9_layParts_21 N FU S5 p0 p1 ((10 : Int32) * p1))))))
set_option maxHeartbeats 4000000 in
theorem jF_X9_layParts {X : jX} (C : jC X cX9_layParts 4 RX9 rm_X9_layParts) {Λ : sLay} {S : sSt} {r : sSt} (E : jE X none rV Λ ((), r)) (p0 : Nat) (tp0 : isK Λ 9 p0) (p1 : Int32) : J X 4 0 0 0 [(0, vR (some p0)), (1, vI p1)] [] Λ S (F_X9_layParts Λ.2.2 S p0 p1 = some r) := by
  unfold F_X9_layParts
  refine j_aload_n C dX9_layParts_0 0 rfl ?_
  refine j_iconst C (v := (0 : Int32)) dX9_layParts_1 (by decide) ?_
  refine j_putI C kK9 f388 kfX9_155 (by decide) rfl rfl rfl tp0 dX9_layParts_2 (fun S1 => ?_)
  refine j_aload_n C dX9_layParts_5 0 rfl ?_
  refine j_aload_n C dX9_layParts_6 0 rfl ?_
  refine j_getR C kK9 f363 kfX9_13 (by decide) rfl tp0 dX9_layParts_7 (fun x2 tx2 => ?_)
  refine j_iload_n C dX9_layParts_10 1 rfl ?_
  refine j_oc tx2 (fun a3 ta3 ea3 => ?_)
  subst ea3
  refine j_iald C ta3 dX9_layParts_11 ?_
  refine j_i2l C dX9_layParts_12 ?_
  refine j_cVVV C [vJ (Int32.toInt64 (gAI S1 a3 (Int32.toNatClampNeg p1)))] [] (fun _ e => c_X9_lay p0 tp0 (Int32.toInt64 (gAI S1 a3 (Int32.toNatClampNeg p1))) e) kYX9_lay kVX9_lay kmX9_160 kO9 tp0 rfl rfl ⟨rfl, rfl, by decide, by decide⟩ (Nat.le_of_ble_eq_true rfl) ⟨Nat.zero_le _, Nat.zero_le _⟩ dX9_layParts_13 (fun S5 => ?_)
  refine j_bipush C (v := (10 : Int32)) dX9_layParts_16 (by decide) ?_
  refine j_iload_n C dX9_layParts_18 1 rfl ?_
  refine j_imul C dX9_layParts_19 ?_
  refine j_istore_n C (L' := [(2, vI ((10 : Int32) * p1)), (0, vR (some p0)), (1, vI p1)]) dX9_layParts_20 (by decide) rfl ?_
  refine j_sub (L' := [(0, vR (some p0)), (1, vI p1), (2, vI ((10 : Int32) * p1))]) [1, 2, 0] rfl ?_
  exact jL_X9_layParts_21 C E FU S5 p0 tp0 p1 ((10 : Int32) * p1)
theorem c_X9_layParts {l : Launch} {D : va_G} {cy : Nat → ClassId} {Λ : sLay} {S : sSt} (p0 : Nat) (tp0 : isK Λ 9 p0) (p1 : Int32) {r : sSt} (h : F_X9_layParts Λ.2.2 S p0 p1 = some r) : jM l yX9_layParts (Cond.code yX9_layParts cX9_layParts 4 none :: bigW) rm_X9_layParts D cy Λ S [vR (some p0), vI p1] rV ((), r) := jM_of (by decide +kernel) (Nat.le_of_ble_eq_true rfl) (fun X C E _ _ _ => j_sub [0, 1] rfl (jF_X9_layParts C E p0 tp0 p1)) h
/-! RemakeNeeds2Model.mixed(JJ)J -/
abbrev rm_X9_mixed : Room := { frames := 0, cells := 0, slots := 0, locals := 0 }
def F_X9_mixed (N : Nat → Nat) (S : sSt) (p0 : Int64) (p2 : Int64) : Option Int64 := some (((p0 ^^^ p2) * (-7046029254386353131 : Int64)) ^^^ (jushr ((p0 ^^^ p2) * (-7046029254386353131 : Int64)) (29 : Int32)))
set_option maxHeartbeats 4000000 in
theorem jF_X9_mixed {X : jX} (C : jC X cX9_mixed 6 RX9 rm_X9_mixed) {Λ : sLay} {S : sSt} {r : Int64} (E : jE X (some .long) rJ Λ (r, S)) (p0 : Int64) (p2 : Int64) : J X 6 0 0 0 [(0, vJ p0), (2, vJ p2)] [] Λ S (F_X9_mixed Λ.2.2 S p0 p2 = some r) := by
  unfold F_X9_mixed
  refine j_lload_n C dX9_mixed_0 0 rfl ?_
  refine j_lload_n C dX9_mixed_1 1 rfl ?_
  refine j_lxor C dX9_mixed_2 ?_
  refine j_ldc2 C kcX9_164 dX9_mixed_3 ?_
  refine j_lmul C dX9_mixed_6 ?_
  refine j_lstore C (L' := [(4, vJ ((p0 ^^^ p2) * (-7046029254386353131 : Int64))), (0, vJ p0), (2, vJ p2)]) dX9_mixed_7 (by decide) rfl ?_
  refine j_lload C dX9_mixed_9 0 rfl ?_
  refine j_lload C dX9_mixed_11 0 rfl ?_
  refine j_bipush C (v := (29 : Int32)) dX9_mixed_13 (by decide) ?_
  refine j_lushr C dX9_mixed_15 ?_
  refine j_lxor C dX9_mixed_16 ?_
  exact j_lretP C E dX9_mixed_17
theorem c_X9_mixed {l : Launch} {D : va_G} {cy : Nat → ClassId} {Λ : sLay} {S : sSt} (p0 : Int64) (p2 : Int64) {r : Int64} (h : F_X9_mixed Λ.2.2 S p0 p2 = some r) : jM l yX9_mixed (Cond.code yX9_mixed cX9_mixed 6 (some .long) :: bigW) rm_X9_mixed D cy Λ S [vJ p0, vJ p2] rJ (r, S) := jM_of (by decide +kernel) (Nat.le_of_ble_eq_true rfl) (fun X C E _ _ _ => j_sub [0, 1] rfl (jF_X9_mixed C E p0 p2)) h
/-! RemakeNeeds2Model.lineDigest()J -/
abbrev rm_X9_lineDigest : Room := { frames := 1, cells := 0, slots := 0, locals := 25 }
def Y_X9_lineDigest_6 (N : Nat → Nat) (S : sSt) (rec : Nat → Int64 → Int32 → Option Int64) (p0 : Nat) (p1 : Int64) (p3 : Int32) : Option Int64 := (if (gFI S 388 p0) ≤ p3 then some p1 else bnd (gFR S 387 p0) (fun x1 => Option.bind x1 (fun a2 => gi p3 (N a2) (Option.bind (F_X9_mixed N S p1 (gAJ S a2 (Int32.toNatClampNeg p3))) (fun v3 => rec p0 v3 (p3 + (1 : Int32)))))))
set_option maxHeartbeats 4000000 in
theorem jY_X9_lineDigest_6 {X : jX} (C : jC X cX9_lineDigest 4 RX9 rm_X9_lineDigest) {Λ : sLay} {S : sSt} {r : Int64} (E : jE X (some .long) rJ Λ (r, S)) (rec : Nat → Int64 → Int32 → Option Int64) (hrec : ∀ (p0 : Nat) (tp0 : isK Λ 9 p0) (p1 : Int64) (p3 : Int32), J X 4 0 0 6 [(0, vR (some p0)), (1, vJ p1), (3, vI p3)] [] Λ S (rec p0 p1 p3 = some r)) : ∀ (p0 : Nat) (tp0 : isK Λ 9 p0) (p1 : Int64) (p3 : Int32), J X 4 0 0 6 [(0, vR (some p0)), (1, vJ p1), (3, vI p3)] [] Λ S (Y_X9_lineDigest_6 Λ.2.2 S rec p0 p1 p3 = some r) := by
  intro p0 tp0 p1 p3
  unfold Y_X9_lineDigest_6
  refine j_iload_n C dX9_lineDigest_6 2 rfl ?_
  refine j_aload_n C dX9_lineDigest_7 0 rfl ?_
  refine j_getI C kK9 f388 kfX9_155 (by decide) tp0 dX9_lineDigest_8 ?_
  refine j_icmp_ge C (tgt := 31) dX9_lineDigest_11 (by decide) ?_ ?_
  · refine j_lload_n C dX9_lineDigest_31 1 rfl ?_
    exact j_lretP C E dX9_lineDigest_32
  · refine j_lload_n C dX9_lineDigest_14 1 rfl ?_
    refine j_aload_n C dX9_lineDigest_15 0 rfl ?_
    refine j_getR C kK9 f387 kfX9_81 (by decide) rfl tp0 dX9_lineDigest_16 (fun x1 tx1 => ?_)
    refine j_iload_n C dX9_lineDigest_19 2 rfl ?_
    refine j_oc tx1 (fun a2 ta2 ea2 => ?_)
    subst ea2
    refine j_lald C ta2 dX9_lineDigest_20 ?_
    refine j_cSJP C [vJ p1, vJ (gAJ S a2 (Int32.toNatClampNeg p3))] [] (fun _ e => c_X9_mixed p1 (gAJ S a2 (Int32.toNatClampNeg p3)) e) kYX9_mixed kSX9_mixed kmX9_168 rfl rfl ⟨rfl, rfl, by decide, by decide⟩ (Nat.le_of_ble_eq_true rfl) ⟨Nat.zero_le _, Nat.zero_le _⟩ dX9_lineDigest_21 (fun v3 => ?_)
    refine j_lstore_n C (L' := [(1, vJ v3), (0, vR (some p0)), (3, vI p3)]) dX9_lineDigest_24 (by decide) rfl ?_
    refine j_iinc C (v := (1 : Int32)) (L' := [(3, vI (p3 + (1 : Int32))), (1, vJ v3), (0, vR (some p0))]) dX9_lineDigest_25 2 rfl (by decide) (by decide) rfl ?_
    refine j_goto C (tgt := 6) dX9_lineDigest_28 (by decide) ?_
    refine j_sub (L' := [(0, vR (some p0)), (1, vJ v3), (3, vI (p3 + (1 : Int32)))]) [2, 1, 0] rfl ?_
    exact hrec p0 tp0 v3 (p3 + (1 : Int32))
def L_X9_lineDigest_6 (N : Nat → Nat) (S : sSt) (n : Nat) : Nat → Int64 → Int32 → Option Int64 := iter (fun _ _ _ => none) (Y_X9_lineDigest_6 N S) n
theorem jL_X9_lineDigest_6 {X : jX} (C : jC X cX9_lineDigest 4 RX9 rm_X9_lineDigest) {Λ : sLay} {S : sSt} {r : Int64} (E : jE X (some .long) rJ Λ (r, S)) : ∀ (n : Nat) (p0 : Nat) (tp0 : isK Λ 9 p0) (p1 : Int64) (p3 : Int32), J X 4 0 0 6 [(0, vR (some p0)), (1, vJ p1), (3, vI p3)] [] Λ S (L_X9_lineDigest_6 Λ.2.2 S n p0 p1 p3 = some r) := by
  intro n
  induction n with
  | zero => intro p0 tp0 p1 p3; exact j_no (fun h => by have h2 : (none : Option Int64) = some r := h; cases h2)
  | succ n ih => intro p0 tp0 p1 p3; exact jY_X9_lineDigest_6 C E (L_X9_lineDigest_6 Λ.2.2 S n) ih p0 tp0 p1 p3
def F_X9_lineDigest (N : Nat → Nat) (S : sSt) (p0 : Nat) : Option Int64 := L_X9_lineDigest_6 N S FU p0 (17 : Int64) (0 : Int32)
set_option maxHeartbeats 4000000 in
theorem jF_X9_lineDigest {X : jX} (C : jC X cX9_lineDigest 4 RX9 rm_X9_lineDigest) {Λ : sLay} {S : sSt} {r : Int64} (E : jE X (some .long) rJ Λ (r, S)) (p0 : Nat) (tp0 : isK Λ 9 p0) : J X 4 0 0 0 [(0, vR (some p0))] [] Λ S (F_X9_lineDigest Λ.2.2 S p0 = some r) := by
  unfold F_X9_lineDigest
  refine j_ldc2 C kcX9_166 dX9_lineDigest_0 ?_
  refine j_lstore_n C (L' := [(1, vJ (17 : Int64)), (0, vR (some p0))]) dX9_lineDigest_3 (by decide) rfl ?_
  refine j_iconst C (v := (0 : Int32)) dX9_lineDigest_4 (by decide) ?_
  refine j_istore_n C (L' := [(3, vI (0 : Int32)), (1, vJ (17 : Int64)), (0, vR (some p0))]) dX9_lineDigest_5 (by decide) rfl ?_
  refine j_sub (L' := [(0, vR (some p0)), (1, vJ (17 : Int64)), (3, vI (0 : Int32))]) [2, 1, 0] rfl ?_
  exact jL_X9_lineDigest_6 C E FU p0 tp0 (17 : Int64) (0 : Int32)
theorem c_X9_lineDigest {l : Launch} {D : va_G} {cy : Nat → ClassId} {Λ : sLay} {S : sSt} (p0 : Nat) (tp0 : isK Λ 9 p0) {r : Int64} (h : F_X9_lineDigest Λ.2.2 S p0 = some r) : jM l yX9_lineDigest (Cond.code yX9_lineDigest cX9_lineDigest 4 (some .long) :: bigW) rm_X9_lineDigest D cy Λ S [vR (some p0)] rJ (r, S) := jM_of (by decide +kernel) (Nat.le_of_ble_eq_true rfl) (fun X C E _ _ _ => j_sub [0] rfl (jF_X9_lineDigest C E p0 tp0)) h
/-! RemakeNeeds2Model.layRow(I)V -/
abbrev rm_X9_layRow : Room := { frames := 3, cells := 0, slots := 0, locals := 71 }
def B_X9_layRow_74 (N : Nat → Nat) (S : sSt) (p0 : Nat) : Option sSt := bnd (gFR S 389 p0) (fun x11 => Option.bind x11 (fun a12 => gi (5 : Int32) (N a12) (bnd (sAI S a12 (Int32.toNatClampNeg (5 : Int32)) (gFI S 388 p0)) (fun S13 => some S13))))
set_option maxHeartbeats 4000000 in
theorem jB_X9_layRow_74 {X : jX} (C : jC X cX9_layRow 4 RX9 rm_X9_layRow) {Λ : sLay} {r : sSt} (E : jE X none rV Λ ((), r)) : ∀ (S : sSt) (p0 : Nat) (tp0 : isK Λ 9 p0), J X 4 0 0 74 [(0, vR (some p0))] [] Λ S (B_X9_layRow_74 Λ.2.2 S p0 = some r) := by
  intro S p0 tp0
  unfold B_X9_layRow_74
  refine j_aload_n C dX9_layRow_74 0 rfl ?_
  refine j_getR C kK9 f389 kfX9_84 (by decide) rfl tp0 dX9_layRow_75 (fun x11 tx11 => ?_)
  refine j_iconst C (v := (5 : Int32)) dX9_layRow_78 (by decide) ?_
  refine j_aload_n C dX9_layRow_79 0 rfl ?_
  refine j_getI C kK9 f388 kfX9_155 (by decide) tp0 dX9_layRow_80 ?_
  refine j_oc tx11 (fun a12 ta12 ea12 => ?_)
  subst ea12
  refine j_iast C ta12 dX9_layRow_83 (fun S13 => ?_)
  exact j_vretP C E dX9_layRow_84
def B_X9_layRow_55 (N : Nat → Nat) (S : sSt) (p0 : Nat) (p1 : Int32) (p2 : Int64) (s0 : Int64) (s1 : Nat) : Option sSt := Option.bind (F_X9_lay N S s1 s0) (fun S8 => bnd (gFR S8 374 p0) (fun x9 => Option.bind x9 (fun a10 => gi p1 (N a10) ((if (gAI S8 a10 (Int32.toNatClampNeg p1)) = (-5 : Int32) then B_X9_layRow_74 N S8 p0 else Option.bind (F_X9_lay N S8 p0 p2) (fun S15 => B_X9_layRow_74 N S15 p0))))))
set_option maxHeartbeats 4000000 in
theorem jB_X9_layRow_55 {X : jX} (C : jC X cX9_layRow 4 RX9 rm_X9_layRow) {Λ : sLay} {r : sSt} (E : jE X none rV Λ ((), r)) : ∀ (S : sSt) (p0 : Nat) (tp0 : isK Λ 9 p0) (p1 : Int32) (p2 : Int64) (s0 : Int64) (s1 : Nat) (ts1 : isK Λ 9 s1), J X 4 0 0 55 [(0, vR (some p0)), (1, vI p1), (2, vJ p2)] [vJ s0, vR (some s1)] Λ S (B_X9_layRow_55 Λ.2.2 S p0 p1 p2 s0 s1 = some r) := by
  intro S p0 tp0 p1 p2 s0 s1 ts1
  unfold B_X9_layRow_55
  refine j_cVVV C [vJ s0] [] (fun _ e => c_X9_lay s1 ts1 s0 e) kYX9_lay kVX9_lay kmX9_160 kO9 ts1 rfl rfl ⟨rfl, rfl, by decide, by decide⟩ (Nat.le_of_ble_eq_true rfl) ⟨Nat.zero_le _, Nat.zero_le _⟩ dX9_layRow_55 (fun S8 => ?_)
  refine j_aload_n C dX9_layRow_58 0 rfl ?_
  refine j_getR C kK9 f374 kfX9_48 (by decide) rfl tp0 dX9_layRow_59 (fun x9 tx9 => ?_)
  refine j_iload_n C dX9_layRow_62 1 rfl ?_
  refine j_oc tx9 (fun a10 ta10 ea10 => ?_)
  subst ea10
  refine j_iald C ta10 dX9_layRow_63 ?_
  refine j_bipush C (v := (-5 : Int32)) dX9_layRow_64 (by decide) ?_
  refine j_icmp_eq C (tgt := 74) dX9_layRow_66 (by decide) ?_ ?_
  · refine j_sub (L' := [(0, vR (some p0))]) [0] rfl ?_
    exact jB_X9_layRow_74 C E S8 p0 tp0
  · refine j_aload_n C dX9_layRow_69 0 rfl ?_
    refine j_lload_n C dX9_layRow_70 2 rfl ?_
    refine j_cVVV C [vJ p2] [] (fun _ e => c_X9_lay p0 tp0 p2 e) kYX9_lay kVX9_lay kmX9_160 kO9 tp0 rfl rfl ⟨rfl, rfl, by decide, by decide⟩ (Nat.le_of_ble_eq_true rfl) ⟨Nat.zero_le _, Nat.zero_le _⟩ dX9_layRow_71 (fun S15 => ?_)
    refine j_sub (L' := [(0, vR (some p0))]) [0] rfl ?_
    exact jB_X9_layRow_74 C E S15 p0 tp0
def B_X9_layRow_33 (N : Nat → Nat) (S : sSt) (p0 : Nat) (p1 : Int32) (p2 : Int64) : Option sSt := Option.bind (F_X9_layParts N S p0 p1) (fun S4 => bnd (gFR S4 374 p0) (fun x5 => Option.bind x5 (fun a6 => gi p1 (N a6) ((if (gAI S4 a6 (Int32.toNatClampNeg p1)) = (-5 : Int32) then B_X9_layRow_55 N S4 p0 p1 p2 (0 : Int64) p0 else B_X9_layRow_55 N S4 p0 p1 p2 (1 : Int64) p0)))))
set_option maxHeartbeats 4000000 in
theorem jB_X9_layRow_33 {X : jX} (C : jC X cX9_layRow 4 RX9 rm_X9_layRow) {Λ : sLay} {r : sSt} (E : jE X none rV Λ ((), r)) : ∀ (S : sSt) (p0 : Nat) (tp0 : isK Λ 9 p0) (p1 : Int32) (p2 : Int64), J X 4 0 0 33 [(0, vR (some p0)), (1, vI p1), (2, vJ p2)] [] Λ S (B_X9_layRow_33 Λ.2.2 S p0 p1 p2 = some r) := by
  intro S p0 tp0 p1 p2
  unfold B_X9_layRow_33
  refine j_aload_n C dX9_layRow_33 0 rfl ?_
  refine j_iload_n C dX9_layRow_34 1 rfl ?_
  refine j_cVVV C [vI p1] [] (fun _ e => c_X9_layParts p0 tp0 p1 e) kYX9_layParts kVX9_layParts kmX9_175 kO9 tp0 rfl rfl ⟨rfl, rfl, by decide, by decide⟩ (Nat.le_of_ble_eq_true rfl) ⟨Nat.zero_le _, Nat.zero_le _⟩ dX9_layRow_35 (fun S4 => ?_)
  refine j_aload_n C dX9_layRow_38 0 rfl ?_
  refine j_aload_n C dX9_layRow_39 0 rfl ?_
  refine j_getR C kK9 f374 kfX9_48 (by decide) rfl tp0 dX9_layRow_40 (fun x5 tx5 => ?_)
  refine j_iload_n C dX9_layRow_43 1 rfl ?_
  refine j_oc tx5 (fun a6 ta6 ea6 => ?_)
  subst ea6
  refine j_iald C ta6 dX9_layRow_44 ?_
  refine j_bipush C (v := (-5 : Int32)) dX9_layRow_45 (by decide) ?_
  refine j_icmp_eq C (tgt := 54) dX9_layRow_47 (by decide) ?_ ?_
  · refine j_lconst C (v := (0 : Int64)) dX9_layRow_54 (by decide) ?_
    exact jB_X9_layRow_55 C E S4 p0 tp0 p1 p2 (0 : Int64) p0 tp0
  · refine j_lconst C (v := (1 : Int64)) dX9_layRow_50 (by decide) ?_
    refine j_goto C (tgt := 55) dX9_layRow_51 (by decide) ?_
    exact jB_X9_layRow_55 C E S4 p0 tp0 p1 p2 (1 : Int64) p0 tp0
def F_X9_layRow (N : Nat → Nat) (S : sSt) (p0 : Nat) (p1 : Int32) : Option sSt := bnd (gFR S 374 p0) (fun x1 => Option.bind x1 (fun a2 => gi p1 (N a2) ((if (gAI S a2 (Int32.toNatClampNeg p1)) = (-5 : Int32) then B_X9_layRow_33 N S p0 p1 (0 : Int64) else bnd (gFR S 374 p0) (fun x16 => Option.bind x16 (fun a17 => gi p1 (N a17) (Option.bind (F_X9_layParts N S p0 (gAI S a17 (Int32.toNatClampNeg p1))) (fun S19 => Option.bind (F_X9_lay N S19 p0 (0 : Int64)) (fun S21 => Option.bind (F_X9_lineDigest N S21 p0) (fun v22 => B_X9_layRow_33 N S21 p0 p1 v22))))))))))
set_option maxHeartbeats 4000000 in
theorem jF_X9_layRow {X : jX} (C : jC X cX9_layRow 4 RX9 rm_X9_layRow) {Λ : sLay} {S : sSt} {r : sSt} (E : jE X none rV Λ ((), r)) (p0 : Nat) (tp0 : isK Λ 9 p0) (p1 : Int32) : J X 4 0 0 0 [(0, vR (some p0)), (1, vI p1)] [] Λ S (F_X9_layRow Λ.2.2 S p0 p1 = some r) := by
  unfold F_X9_layRow
  refine j_lconst C (v := (0 : Int64)) dX9_layRow_0 (by decide) ?_
  refine j_lstore_n C (L' := [(2, vJ (0 : Int64)), (0, vR (some p0)), (1, vI p1)]) dX9_layRow_1 (by decide) rfl ?_
  refine j_aload_n C dX9_layRow_2 1 rfl ?_
  refine j_getR C kK9 f374 kfX9_48 (by decide) rfl tp0 dX9_layRow_3 (fun x1 tx1 => ?_)
  refine j_iload_n C dX9_layRow_6 2 rfl ?_
  refine j_oc tx1 (fun a2 ta2 ea2 => ?_)
  subst ea2
  refine j_iald C ta2 dX9_layRow_7 ?_
  refine j_bipush C (v := (-5 : Int32)) dX9_layRow_8 (by decide) ?_
  refine j_icmp_eq C (tgt := 33) dX9_layRow_10 (by decide) ?_ ?_
  · refine j_sub (L' := [(0, vR (some p0)), (1, vI p1), (2, vJ (0 : Int64))]) [1, 2, 0] rfl ?_
    exact jB_X9_layRow_33 C E S p0 tp0 p1 (0 : Int64)
  · refine j_aload_n C dX9_layRow_13 1 rfl ?_
    refine j_aload_n C dX9_layRow_14 1 rfl ?_
    refine j_getR C kK9 f374 kfX9_48 (by decide) rfl tp0 dX9_layRow_15 (fun x16 tx16 => ?_)
    refine j_iload_n C dX9_layRow_18 2 rfl ?_
    refine j_oc tx16 (fun a17 ta17 ea17 => ?_)
    subst ea17
    refine j_iald C ta17 dX9_layRow_19 ?_
    refine j_cVVV C [vI (gAI S a17 (Int32.toNatClampNeg p1))] [] (fun _ e => c_X9_layParts p0 tp0 (gAI S a17 (Int32.toNatClampNeg p1)) e) kYX9_layParts kVX9_layParts kmX9_175 kO9 tp0 rfl rfl ⟨rfl, rfl, by decide, by decide⟩ (Nat.le_of_ble_eq_true rfl) ⟨Nat.zero_le _, Nat.zero_le _⟩ dX9_layRow_20 (fun S19 => ?_)
    refine j_aload_n C dX9_layRow_23 1 rfl ?_
    refine j_lconst C (v := (0 : Int64)) dX9_layRow_24 (by decide) ?_
    refine j_cVVV C [vJ (0 : Int64)] [] (fun _ e => c_X9_lay p0 tp0 (0 : Int64) e) kYX9_lay kVX9_lay kmX9_160 kO9 tp0 rfl rfl ⟨rfl, rfl, by decide, by decide⟩ (Nat.le_of_ble_eq_true rfl) ⟨Nat.zero_le _, Nat.zero_le _⟩ dX9_layRow_25 (fun S21 => ?_)
    refine j_aload_n C dX9_layRow_28 1 rfl ?_
    refine j_cVJP C [] [] (fun _ e => c_X9_lineDigest p0 tp0 e) kYX9_lineDigest kVX9_lineDigest kmX9_178 kO9 tp0 rfl rfl ⟨rfl, rfl, by decide, by decide⟩ (Nat.le_of_ble_eq_true rfl) ⟨Nat.zero_le _, Nat.zero_le _⟩ dX9_layRow_29 (fun v22 => ?_)
    refine j_lstore_n C (L' := [(2, vJ v22), (0, vR (some p0)), (1, vI p1)]) dX9_layRow_32 (by decide) rfl ?_
    refine j_sub (L' := [(0, vR (some p0)), (1, vI p1), (2, vJ v22)]) [1, 2, 0] rfl ?_
    exact jB_X9_layRow_33 C E S21 p0 tp0 p1 v22
theorem c_X9_layRow {l : Launch} {D : va_G} {cy : Nat → ClassId} {Λ : sLay} {S : sSt} (p0 : Nat) (tp0 : isK Λ 9 p0) (p1 : Int32) {r : sSt} (h : F_X9_layRow Λ.2.2 S p0 p1 = some r) : jM l yX9_layRow (Cond.code yX9_layRow cX9_layRow 4 none :: bigW) rm_X9_layRow D cy Λ S [vR (some p0), vI p1] rV ((), r) := jM_of (by decide +kernel) (Nat.le_of_ble_eq_true rfl) (fun X C E _ _ _ => j_sub [0, 1] rfl (jF_X9_layRow C E p0 tp0 p1)) h
/-! RemakeNeeds2Model.anew()J -/
abbrev rm_X9_anew : Room := { frames := 4, cells := 0, slots := 0, locals := 94 }
def Y_X9_anew_19 (N : Nat → Nat) (rec : sSt → Nat → Int64 → Int32 → Option (Int64 × sSt)) (S : sSt) (p0 : Nat) (p1 : Int64) (p3 : Int32) : Option (Int64 × sSt) := (if (gFI S 393 p0) ≤ p3 then some (p1, S) else bnd (gFR S 392 p0) (fun x6 => Option.bind x6 (fun a7 => gi p3 (N a7) (Option.bind (F_X9_layRow N S p0 (gAI S a7 (Int32.toNatClampNeg p3))) (fun S9 => Option.bind (F_X9_lineDigest N S9 p0) (fun v10 => Option.bind (F_X9_mixed N S9 p1 v10) (fun v12 => rec S9 p0 v12 (p3 + (1 : Int32)))))))))
set_option maxHeartbeats 4000000 in
theorem jY_X9_anew_19 {X : jX} (C : jC X cX9_anew 4 RX9 rm_X9_anew) {Λ : sLay} {r : (Int64 × sSt)} (E : jE X (some .long) rJ Λ r) (rec : sSt → Nat → Int64 → Int32 → Option (Int64 × sSt)) (hrec : ∀ (S : sSt) (p0 : Nat) (tp0 : isK Λ 9 p0) (p1 : Int64) (p3 : Int32), J X 4 0 0 19 [(0, vR (some p0)), (1, vJ p1), (3, vI p3)] [] Λ S (rec S p0 p1 p3 = some r)) : ∀ (S : sSt) (p0 : Nat) (tp0 : isK Λ 9 p0) (p1 : Int64) (p3 : Int32), J X 4 0 0 19 [(0, vR (some p0)), (1, vJ p1), (3, vI p3)] [] Λ S (Y_X9_anew_19 Λ.2.2 rec S p0 p1 p3 = some r) := by
  intro S p0 tp0 p1 p3
  unfold Y_X9_anew_19
  refine j_iload_n C dX9_anew_19 2 rfl ?_
  refine j_aload_n C dX9_anew_20 0 rfl ?_
  refine j_getI C kK9 f393 kfX9_201 (by decide) tp0 dX9_anew_21 ?_
  refine j_icmp_ge C (tgt := 52) dX9_anew_24 (by decide) ?_ ?_
  · refine j_lload_n C dX9_anew_52 1 rfl ?_
    exact j_lret C E dX9_anew_53
  · refine j_aload_n C dX9_anew_27 0 rfl ?_
    refine j_aload_n C dX9_anew_28 0 rfl ?_
    refine j_getR C kK9 f392 kfX9_93 (by decide) rfl tp0 dX9_anew_29 (fun x6 tx6 => ?_)
    refine j_iload_n C dX9_anew_32 2 rfl ?_
    refine j_oc tx6 (fun a7 ta7 ea7 => ?_)
    subst ea7
    refine j_iald C ta7 dX9_anew_33 ?_
    refine j_cVVV C [vI (gAI S a7 (Int32.toNatClampNeg p3))] [] (fun _ e => c_X9_layRow p0 tp0 (gAI S a7 (Int32.toNatClampNeg p3)) e) kYX9_layRow kVX9_layRow kmX9_182 kO9 tp0 rfl rfl ⟨rfl, rfl, by decide, by decide⟩ (Nat.le_of_ble_eq_true rfl) ⟨Nat.zero_le _, Nat.zero_le _⟩ dX9_anew_34 (fun S9 => ?_)
    refine j_lload_n C dX9_anew_37 1 rfl ?_
    refine j_aload_n C dX9_anew_38 0 rfl ?_
    refine j_cVJP C [] [vJ p1] (fun _ e => c_X9_lineDigest p0 tp0 e) kYX9_lineDigest kVX9_lineDigest kmX9_178 kO9 tp0 rfl rfl ⟨rfl, rfl, by decide, by decide⟩ (Nat.le_of_ble_eq_true rfl) ⟨Nat.zero_le _, Nat.zero_le _⟩ dX9_anew_39 (fun v10 => ?_)
    refine j_cSJP C [vJ p1, vJ v10] [] (fun _ e => c_X9_mixed p1 v10 e) kYX9_mixed kSX9_mixed kmX9_168 rfl rfl ⟨rfl, rfl, by decide, by decide⟩ (Nat.le_of_ble_eq_true rfl) ⟨Nat.zero_le _, Nat.zero_le _⟩ dX9_anew_42 (fun v12 => ?_)
    refine j_lstore_n C (L' := [(1, vJ v12), (0, vR (some p0)), (3, vI p3)]) dX9_anew_45 (by decide) rfl ?_
    refine j_iinc C (v := (1 : Int32)) (L' := [(3, vI (p3 + (1 : Int32))), (1, vJ v12), (0, vR (some p0))]) dX9_anew_46 2 rfl (by decide) (by decide) rfl ?_
    refine j_goto C (tgt := 19) dX9_anew_49 (by decide) ?_
    refine j_sub (L' := [(0, vR (some p0)), (1, vJ v12), (3, vI (p3 + (1 : Int32)))]) [2, 1, 0] rfl ?_
    exact hrec S9 p0 tp0 v12 (p3 + (1 : Int32))
def L_X9_anew_19 (N : Nat → Nat) (n : Nat) : sSt → Nat → Int64 → Int32 → Option (Int64 × sSt) := iter (fun _ _ _ _ => none) (Y_X9_anew_19 N) n
theorem jL_X9_anew_19 {X : jX} (C : jC X cX9_anew 4 RX9 rm_X9_anew) {Λ : sLay} {r : (Int64 × sSt)} (E : jE X (some .long) rJ Λ r) : ∀ (n : Nat) (S : sSt) (p0 : Nat) (tp0 : isK Λ 9 p0) (p1 : Int64) (p3 : Int32), J X 4 0 0 19 [(0, vR (some p0)), (1, vJ p1), (3, vI p3)] [] Λ S (L_X9_anew_19 Λ.2.2 n S p0 p1 p3 = some r) := by
  intro n
  induction n with
  | zero => intro S p0 tp0 p1 p3; exact j_no (fun h => by have h2 : (none : Option (Int64 × sSt)) = some r := h; cases h2)
  | succ n ih => intro S p0 tp0 p1 p3; exact jY_X9_anew_19 C E (L_X9_anew_19 Λ.2.2 n) ih S p0 tp0 p1 p3
def F_X9_anew (N : Nat → Nat) (S : sSt) (p0 : Nat) : Option (Int64 × sSt) := bnd (sFI S 360 p0 (0 : Int32)) (fun S1 => Option.bind (F_X9_findOrder N S1 p0) (fun S3 => Option.bind (F_X9_reckon N S3 p0) (fun S5 => L_X9_anew_19 N FU S5 p0 (17 : Int64) (0 : Int32))))
set_option maxHeartbeats 4000000 in
theorem jF_X9_anew {X : jX} (C : jC X cX9_anew 4 RX9 rm_X9_anew) {Λ : sLay} {S : sSt} {r : (Int64 × sSt)} (E : jE X (some .long) rJ Λ r) (p0 : Nat) (tp0 : isK Λ 9 p0) : J X 4 0 0 0 [(0, vR (some p0))] [] Λ S (F_X9_anew Λ.2.2 S p0 = some r) := by
  unfold F_X9_anew
  refine j_aload_n C dX9_anew_0 0 rfl ?_
  refine j_iconst C (v := (0 : Int32)) dX9_anew_1 (by decide) ?_
  refine j_putI C kK9 f360 kfX9_99 (by decide) rfl rfl rfl tp0 dX9_anew_2 (fun S1 => ?_)
  refine j_aload_n C dX9_anew_5 0 rfl ?_
  refine j_cVVV C [] [] (fun _ e => c_X9_findOrder p0 tp0 e) kYX9_findOrder kVX9_findOrder kmX9_198 kO9 tp0 rfl rfl ⟨rfl, rfl, by decide, by decide⟩ (Nat.le_of_ble_eq_true rfl) ⟨Nat.zero_le _, Nat.zero_le _⟩ dX9_anew_6 (fun S3 => ?_)
  refine j_aload_n C dX9_anew_9 0 rfl ?_
  refine j_cVVV C [] [] (fun _ e => c_X9_reckon p0 tp0 e) kYX9_reckon kVX9_reckon kmX9_146 kO9 tp0 rfl rfl ⟨rfl, rfl, by decide, by decide⟩ (Nat.le_of_ble_eq_true rfl) ⟨Nat.zero_le _, Nat.zero_le _⟩ dX9_anew_10 (fun S5 => ?_)
  refine j_ldc2 C kcX9_166 dX9_anew_13 ?_
  refine j_lstore_n C (L' := [(1, vJ (17 : Int64)), (0, vR (some p0))]) dX9_anew_16 (by decide) rfl ?_
  refine j_iconst C (v := (0 : Int32)) dX9_anew_17 (by decide) ?_
  refine j_istore_n C (L' := [(3, vI (0 : Int32)), (1, vJ (17 : Int64)), (0, vR (some p0))]) dX9_anew_18 (by decide) rfl ?_
  refine j_sub (L' := [(0, vR (some p0)), (1, vJ (17 : Int64)), (3, vI (0 : Int32))]) [2, 1, 0] rfl ?_
  exact jL_X9_anew_19 C E FU S5 p0 tp0 (17 : Int64) (0 : Int32)
theorem c_X9_anew {l : Launch} {D : va_G} {cy : Nat → ClassId} {Λ : sLay} {S : sSt} (p0 : Nat) (tp0 : isK Λ 9 p0) {v : Int64} {S1 : sSt} (h : F_X9_anew Λ.2.2 S p0 = some (v, S1)) : jM l yX9_anew (Cond.code yX9_anew cX9_anew 4 (some .long) :: bigW) rm_X9_anew D cy Λ S [vR (some p0)] rJ (v, S1) := jM_of (by decide +kernel) (Nat.le_of_ble_eq_true rfl) (fun X C E _ _ _ => j_sub [0] rfl (jF_X9_anew C E p0 tp0)) h
/-! RemakeNeeds2Model.in(III)Z -/
abbrev rm_X9_in : Room := { frames := 0, cells := 0, slots := 0, locals := 0 }
def F_X9_in (N : Nat → Nat) (S : sSt) (p0 : Int32) (p1 : Int32) (p2 : Int32) : Option Int32 := (if p0 < p1 then some (0 : Int32) else (if p2 < p0 then some (0 : Int32) else some (1 : Int32)))
set_option maxHeartbeats 4000000 in
theorem jF_X9_in {X : jX} (C : jC X cX9_in 3 RX9 rm_X9_in) {Λ : sLay} {S : sSt} {r : Int32} (E : jE X (some .boolean) rI Λ (r, S)) (p0 : Int32) (p1 : Int32) (p2 : Int32) : J X 3 0 0 0 [(0, vI p0), (1, vI p1), (2, vI p2)] [] Λ S (F_X9_in Λ.2.2 S p0 p1 p2 = some r) := by
  unfold F_X9_in
  refine j_iload_n C dX9_in_0 0 rfl ?_
  refine j_iload_n C dX9_in_1 1 rfl ?_
  refine j_icmp_lt C (tgt := 14) dX9_in_2 (by decide) ?_ ?_
  · refine j_iconst C (v := (0 : Int32)) dX9_in_14 (by decide) ?_
    exact j_zretKP C E (by decide) dX9_in_15
  · refine j_iload_n C dX9_in_5 0 rfl ?_
    refine j_iload_n C dX9_in_6 2 rfl ?_
    refine j_icmp_gt C (tgt := 14) dX9_in_7 (by decide) ?_ ?_
    · refine j_iconst C (v := (0 : Int32)) dX9_in_14 (by decide) ?_
      exact j_zretKP C E (by decide) dX9_in_15
    · refine j_iconst C (v := (1 : Int32)) dX9_in_10 (by decide) ?_
      refine j_goto C (tgt := 15) dX9_in_11 (by decide) ?_
      exact j_zretKP C E (by decide) dX9_in_15
theorem c_X9_in {l : Launch} {D : va_G} {cy : Nat → ClassId} {Λ : sLay} {S : sSt} (p0 : Int32) (p1 : Int32) (p2 : Int32) {r : Int32} (h : F_X9_in Λ.2.2 S p0 p1 p2 = some r) : jM l yX9_in (Cond.code yX9_in cX9_in 3 (some .boolean) :: bigW) rm_X9_in D cy Λ S [vI p0, vI p1, vI p2] rI (r, S) := jM_of (by decide +kernel) (Nat.le_of_ble_eq_true rfl) (fun X C E _ _ _ => j_sub [0, 1, 2] rfl (jF_X9_in C E p0 p1 p2)) h
/-! RemakeNeeds2Model.isUnit(I)Z -/
abbrev rm_X9_isUnit : Room := { frames := 1, cells := 0, slots := 0, locals := 22 }
def F_X9_isUnit (N : Nat → Nat) (S : sSt) (p0 : Nat) (p1 : Int32) : Option Int32 := Option.bind (F_X9_in N S p1 (0 : Int32) ((gFI S 361 p0) - (1 : Int32))) (fun v1 => (if v1 = 0 then some (0 : Int32) else bnd (gFR S 362 p0) (fun x3 => Option.bind x3 (fun a4 => gi p1 (N a4) ((if (gAI S a4 (Int32.toNatClampNeg p1)) = 0 then some (0 : Int32) else some (1 : Int32)))))))
set_option maxHeartbeats 4000000 in
theorem jF_X9_isUnit {X : jX} (C : jC X cX9_isUnit 2 RX9 rm_X9_isUnit) {Λ : sLay} {S : sSt} {r : Int32} (E : jE X (some .boolean) rI Λ (r, S)) (p0 : Nat) (tp0 : isK Λ 9 p0) (p1 : Int32) : J X 2 0 0 0 [(0, vR (some p0)), (1, vI p1)] [] Λ S (F_X9_isUnit Λ.2.2 S p0 p1 = some r) := by
  unfold F_X9_isUnit
  refine j_iload_n C dX9_isUnit_0 1 rfl ?_
  refine j_iconst C (v := (0 : Int32)) dX9_isUnit_1 (by decide) ?_
  refine j_aload_n C dX9_isUnit_2 0 rfl ?_
  refine j_getI C kK9 f361 kfX9_103 (by decide) tp0 dX9_isUnit_3 ?_
  refine j_iconst C (v := (1 : Int32)) dX9_isUnit_6 (by decide) ?_
  refine j_isub C dX9_isUnit_7 ?_
  refine j_cSIP C [vI p1, vI (0 : Int32), vI ((gFI S 361 p0) - (1 : Int32))] [] (fun _ e => c_X9_in p1 (0 : Int32) ((gFI S 361 p0) - (1 : Int32)) e) kYX9_in kSX9_in kmX9_106 rfl rfl ⟨rfl, rfl, by decide, by decide⟩ (Nat.le_of_ble_eq_true rfl) ⟨Nat.zero_le _, Nat.zero_le _⟩ dX9_isUnit_8 (fun v1 => ?_)
  refine j_if_eq C (tgt := 27) dX9_isUnit_11 (by decide) ?_ ?_
  · refine j_iconst C (v := (0 : Int32)) dX9_isUnit_27 (by decide) ?_
    exact j_zretKP C E (by decide) dX9_isUnit_28
  · refine j_aload_n C dX9_isUnit_14 0 rfl ?_
    refine j_getR C kK9 f362 kfX9_7 (by decide) rfl tp0 dX9_isUnit_15 (fun x3 tx3 => ?_)
    refine j_iload_n C dX9_isUnit_18 1 rfl ?_
    refine j_oc tx3 (fun a4 ta4 ea4 => ?_)
    subst ea4
    refine j_zald C ta4 dX9_isUnit_19 ?_
    refine j_if_eq C (tgt := 27) dX9_isUnit_20 (by decide) ?_ ?_
    · refine j_iconst C (v := (0 : Int32)) dX9_isUnit_27 (by decide) ?_
      exact j_zretKP C E (by decide) dX9_isUnit_28
    · refine j_iconst C (v := (1 : Int32)) dX9_isUnit_23 (by decide) ?_
      refine j_goto C (tgt := 28) dX9_isUnit_24 (by decide) ?_
      exact j_zretKP C E (by decide) dX9_isUnit_28
theorem c_X9_isUnit {l : Launch} {D : va_G} {cy : Nat → ClassId} {Λ : sLay} {S : sSt} (p0 : Nat) (tp0 : isK Λ 9 p0) (p1 : Int32) {r : Int32} (h : F_X9_isUnit Λ.2.2 S p0 p1 = some r) : jM l yX9_isUnit (Cond.code yX9_isUnit cX9_isUnit 2 (some .boolean) :: bigW) rm_X9_isUnit D cy Λ S [vR (some p0), vI p1] rI (r, S) := jM_of (by decide +kernel) (Nat.le_of_ble_eq_true rfl) (fun X C E _ _ _ => j_sub [0, 1] rfl (jF_X9_isUnit C E p0 tp0 p1)) h
/-! RemakeNeeds2Model.isName(I)Z -/
abbrev rm_X9_isName : Room := { frames := 1, cells := 0, slots := 0, locals := 22 }
def F_X9_isName (N : Nat → Nat) (S : sSt) (p0 : Int32) : Option Int32 := Option.bind (F_X9_in N S p0 (0 : Int32) (31 : Int32)) (fun v1 => gb v1 (some v1))
set_option maxHeartbeats 4000000 in
theorem jF_X9_isName {X : jX} (C : jC X cX9_isName 1 RX9 rm_X9_isName) {Λ : sLay} {S : sSt} {r : Int32} (E : jE X (some .boolean) rI Λ (r, S)) (p0 : Int32) : J X 1 0 0 0 [(0, vI p0)] [] Λ S (F_X9_isName Λ.2.2 S p0 = some r) := by
  unfold F_X9_isName
  refine j_iload_n C dX9_isName_0 0 rfl ?_
  refine j_iconst C (v := (0 : Int32)) dX9_isName_1 (by decide) ?_
  refine j_bipush C (v := (31 : Int32)) dX9_isName_2 (by decide) ?_
  refine j_cSIP C [vI p0, vI (0 : Int32), vI (31 : Int32)] [] (fun _ e => c_X9_in p0 (0 : Int32) (31 : Int32) e) kYX9_in kSX9_in kmX9_106 rfl rfl ⟨rfl, rfl, by decide, by decide⟩ (Nat.le_of_ble_eq_true rfl) ⟨Nat.zero_le _, Nat.zero_le _⟩ dX9_isName_4 (fun v1 => ?_)
  exact j_zretP C E dX9_isName_7
theorem c_X9_isName {l : Launch} {D : va_G} {cy : Nat → ClassId} {Λ : sLay} {S : sSt} (p0 : Int32) {r : Int32} (h : F_X9_isName Λ.2.2 S p0 = some r) : jM l yX9_isName (Cond.code yX9_isName cX9_isName 1 (some .boolean) :: bigW) rm_X9_isName D cy Λ S [vI p0] rI (r, S) := jM_of (by decide +kernel) (Nat.le_of_ble_eq_true rfl) (fun X C E _ _ _ => j_sub [0] rfl (jF_X9_isName C E p0)) h
/-! RemakeNeeds2Model.build(III)I -/
abbrev rm_X9_build : Room := { frames := 2, cells := 0, slots := 0, locals := 43 }
def F_X9_build (N : Nat → Nat) (S : sSt) (p0 : Nat) (p1 : Int32) (p2 : Int32) (p3 : Int32) : Option (Int32 × sSt) := bnd (sFI S 360 p0 (0 : Int32)) (fun S1 => Option.bind (F_X9_isUnit N S1 p0 p1) (fun v2 => (if v2 = 0 then some ((-1 : Int32), S1) else Option.bind (F_X9_isName N S1 p2) (fun v4 => (if v4 = 0 then some ((-2 : Int32), S1) else Option.bind (F_X9_isName N S1 p3) (fun v6 => (if v6 = 0 then some ((-2 : Int32), S1) else Option.bind (F_X9_thingOf N S1 p0 p1 ((32 : Int32) + p2)) (fun v8 => (if v8 = (-5 : Int32) then some ((-3 : Int32), S1) else bnd (gFR S1 367 p0) (fun x10 => Option.bind x10 (fun a11 => gi v8 (N a11) ((if (gAI S1 a11 (Int32.toNatClampNeg v8)) = (3 : Int32) then some ((-4 : Int32), S1) else bnd (gFR S1 368 p0) (fun x12 => bnd (gFR S1 367 p0) (fun x13 => Option.bind x13 (fun a14 => gi v8 (N a14) (Option.bind x12 (fun a15 => gi (((3 : Int32) * v8) + (gAI S1 a14 (Int32.toNatClampNeg v8))) (N a15) (bnd (sAI S1 a15 (Int32.toNatClampNeg (((3 : Int32) * v8) + (gAI S1 a14 (Int32.toNatClampNeg v8)))) p3) (fun S16 => bnd (gFR S16 367 p0) (fun x17 => Option.bind x17 (fun a18 => gi v8 (N a18) (gi v8 (N a18) (bnd (sAI S16 a18 (Int32.toNatClampNeg v8) ((gAI S16 a18 (Int32.toNatClampNeg v8)) + (1 : Int32))) (fun S19 => bnd (gFR S19 367 p0) (fun x20 => Option.bind x20 (fun a21 => gi v8 (N a21) (some ((gAI S19 a21 (Int32.toNatClampNeg v8)), S19)))))))))))))))))))))))))))))
set_option maxHeartbeats 4000000 in
theorem jF_X9_build {X : jX} (C : jC X cX9_build 5 RX9 rm_X9_build) {Λ : sLay} {S : sSt} {r : (Int32 × sSt)} (E : jE X (some .int) rI Λ r) (p0 : Nat) (tp0 : isK Λ 9 p0) (p1 : Int32) (p2 : Int32) (p3 : Int32) : J X 5 0 0 0 [(0, vR (some p0)), (1, vI p1), (2, vI p2), (3, vI p3)] [] Λ S (F_X9_build Λ.2.2 S p0 p1 p2 p3 = some r) := by
  unfold F_X9_build
  refine j_aload_n C dX9_build_0 0 rfl ?_
  refine j_iconst C (v := (0 : Int32)) dX9_build_1 (by decide) ?_
  refine j_putI C kK9 f360 kfX9_99 (by decide) rfl rfl rfl tp0 dX9_build_2 (fun S1 => ?_)
  refine j_aload_n C dX9_build_5 0 rfl ?_
  refine j_iload_n C dX9_build_6 1 rfl ?_
  refine j_cVIP C [vI p1] [] (fun _ e => c_X9_isUnit p0 tp0 p1 e) kYX9_isUnit kVX9_isUnit kmX9_110 kO9 tp0 rfl rfl ⟨rfl, rfl, by decide, by decide⟩ (Nat.le_of_ble_eq_true rfl) ⟨Nat.zero_le _, Nat.zero_le _⟩ dX9_build_7 (fun v2 => ?_)
  refine j_if_ne C (tgt := 15) dX9_build_10 (by decide) ?_ ?_
  · refine j_iload_n C dX9_build_15 2 rfl ?_
    refine j_cSIP C [vI p2] [] (fun _ e => c_X9_isName p2 e) kYX9_isName kSX9_isName kmX9_114 rfl rfl ⟨rfl, rfl, by decide, by decide⟩ (Nat.le_of_ble_eq_true rfl) ⟨Nat.zero_le _, Nat.zero_le _⟩ dX9_build_16 (fun v4 => ?_)
    refine j_if_eq C (tgt := 29) dX9_build_19 (by decide) ?_ ?_
    · refine j_bipush C (v := (-2 : Int32)) dX9_build_29 (by decide) ?_
      exact j_iret C E dX9_build_31
    · refine j_iload_n C dX9_build_22 3 rfl ?_
      refine j_cSIP C [vI p3] [] (fun _ e => c_X9_isName p3 e) kYX9_isName kSX9_isName kmX9_114 rfl rfl ⟨rfl, rfl, by decide, by decide⟩ (Nat.le_of_ble_eq_true rfl) ⟨Nat.zero_le _, Nat.zero_le _⟩ dX9_build_23 (fun v6 => ?_)
      refine j_if_ne C (tgt := 32) dX9_build_26 (by decide) ?_ ?_
      · refine j_aload_n C dX9_build_32 0 rfl ?_
        refine j_iload_n C dX9_build_33 1 rfl ?_
        refine j_bipush C (v := (32 : Int32)) dX9_build_34 (by decide) ?_
        refine j_iload_n C dX9_build_36 2 rfl ?_
        refine j_iadd C dX9_build_37 ?_
        refine j_cVIP C [vI p1, vI ((32 : Int32) + p2)] [] (fun _ e => c_X9_thingOf p0 tp0 p1 ((32 : Int32) + p2) e) kYX9_thingOf kVX9_thingOf kmX9_117 kO9 tp0 rfl rfl ⟨rfl, rfl, by decide, by decide⟩ (Nat.le_of_ble_eq_true rfl) ⟨Nat.zero_le _, Nat.zero_le _⟩ dX9_build_38 (fun v8 => ?_)
        refine j_istore C (L' := [(4, vI v8), (0, vR (some p0)), (1, vI p1), (2, vI p2), (3, vI p3)]) dX9_build_41 (by decide) rfl ?_
        refine j_iload C dX9_build_43 0 rfl ?_
        refine j_bipush C (v := (-5 : Int32)) dX9_build_45 (by decide) ?_
        refine j_icmp_ne C (tgt := 53) dX9_build_47 (by decide) ?_ ?_
        · refine j_aload_n C dX9_build_53 1 rfl ?_
          refine j_getR C kK9 f367 kfX9_27 (by decide) rfl tp0 dX9_build_54 (fun x10 tx10 => ?_)
          refine j_iload C dX9_build_57 0 rfl ?_
          refine j_oc tx10 (fun a11 ta11 ea11 => ?_)
          subst ea11
          refine j_iald C ta11 dX9_build_59 ?_
          refine j_iconst C (v := (3 : Int32)) dX9_build_60 (by decide) ?_
          refine j_icmp_ne C (tgt := 67) dX9_build_61 (by decide) ?_ ?_
          · refine j_aload_n C dX9_build_67 1 rfl ?_
            refine j_getR C kK9 f368 kfX9_30 (by decide) rfl tp0 dX9_build_68 (fun x12 tx12 => ?_)
            refine j_iconst C (v := (3 : Int32)) dX9_build_71 (by decide) ?_
            refine j_iload C dX9_build_72 0 rfl ?_
            refine j_imul C dX9_build_74 ?_
            refine j_aload_n C dX9_build_75 1 rfl ?_
            refine j_getR C kK9 f367 kfX9_27 (by decide) rfl tp0 dX9_build_76 (fun x13 tx13 => ?_)
            refine j_iload C dX9_build_79 0 rfl ?_
            refine j_oc tx13 (fun a14 ta14 ea14 => ?_)
            subst ea14
            refine j_iald C ta14 dX9_build_81 ?_
            refine j_iadd C dX9_build_82 ?_
            refine j_iload_n C dX9_build_83 4 rfl ?_
            refine j_oc tx12 (fun a15 ta15 ea15 => ?_)
            subst ea15
            refine j_iast C ta15 dX9_build_84 (fun S16 => ?_)
            refine j_aload_n C dX9_build_85 1 rfl ?_
            refine j_getR C kK9 f367 kfX9_27 (by decide) rfl tp0 dX9_build_86 (fun x17 tx17 => ?_)
            refine j_iload C dX9_build_89 0 rfl ?_
            refine j_dup2 C dX9_build_91 rfl rfl ?_
            refine j_oc tx17 (fun a18 ta18 ea18 => ?_)
            subst ea18
            refine j_iald C ta18 dX9_build_92 ?_
            refine j_iconst C (v := (1 : Int32)) dX9_build_93 (by decide) ?_
            refine j_iadd C dX9_build_94 ?_
            refine j_iast C ta18 dX9_build_95 (fun S19 => ?_)
            refine j_aload_n C dX9_build_96 1 rfl ?_
            refine j_getR C kK9 f367 kfX9_27 (by decide) rfl tp0 dX9_build_97 (fun x20 tx20 => ?_)
            refine j_iload C dX9_build_100 0 rfl ?_
            refine j_oc tx20 (fun a21 ta21 ea21 => ?_)
            subst ea21
            refine j_iald C ta21 dX9_build_102 ?_
            exact j_iret C E dX9_build_103
          · refine j_bipush C (v := (-4 : Int32)) dX9_build_64 (by decide) ?_
            exact j_iret C E dX9_build_66
        · refine j_bipush C (v := (-3 : Int32)) dX9_build_50 (by decide) ?_
          exact j_iret C E dX9_build_52
      · refine j_bipush C (v := (-2 : Int32)) dX9_build_29 (by decide) ?_
        exact j_iret C E dX9_build_31
  · refine j_iconst C (v := (-1 : Int32)) dX9_build_13 (by decide) ?_
    exact j_iret C E dX9_build_14
theorem c_X9_build {l : Launch} {D : va_G} {cy : Nat → ClassId} {Λ : sLay} {S : sSt} (p0 : Nat) (tp0 : isK Λ 9 p0) (p1 : Int32) (p2 : Int32) (p3 : Int32) {v : Int32} {S1 : sSt} (h : F_X9_build Λ.2.2 S p0 p1 p2 p3 = some (v, S1)) : jM l yX9_build (Cond.code yX9_build cX9_build 5 (some .int) :: bigW) rm_X9_build D cy Λ S [vR (some p0), vI p1, vI p2, vI p3] rI (v, S1) := jM_of (by decide +kernel) (Nat.le_of_ble_eq_true rfl) (fun X C E _ _ _ => j_sub [0, 1, 2, 3] rfl (jF_X9_build C E p0 tp0 p1 p2 p3)) h
/-! RemakeNeeds2Model.follow(I)V -/
abbrev rm_X9_follow : Room := { frames := 0, cells := 0, slots := 0, locals := 0 }
def B_X9_follow_169 (N : Nat → Nat) (k43 : sSt → Nat → Int32 → Int32 → Option sSt) (S : sSt) (p0 : Nat) (p1 : Int32) (p2 : Int32) : Option sSt := k43 S p0 p1 p2
set_option maxHeartbeats 4000000 in
theorem jB_X9_follow_169 {X : jX} (C : jC X cX9_follow 5 RX9 rm_X9_follow) {Λ : sLay} {r : sSt} (E : jE X none rV Λ ((), r)) (k43 : sSt → Nat → Int32 → Int32 → Option sSt) (hk43 : ∀ (S : sSt) (p0 : Nat) (tp0 : isK Λ 9 p0) (p1 : Int32) (p2 : Int32), J X 5 0 0 43 [(0, vR (some p0)), (1, vI p1), (2, vI p2)] [] Λ S (k43 S p0 p1 p2 = some r)) : ∀ (S : sSt) (p0 : Nat) (tp0 : isK Λ 9 p0) (p1 : Int32) (p2 : Int32), J X 5 0 0 169 [(0, vR (some p0)), (1, vI p1), (2, vI p2)] [] Λ S (B_X9_follow_169 Λ.2.2 k43 S p0 p1 p2 = some r) := by
  intro S p0 tp0 p1 p2
  unfold B_X9_follow_169
  refine j_goto C (tgt := 43) dX9_follow_169 (by decide) ?_
  exact hk43 S p0 tp0 p1 p2
def Y_X9_follow_43 (N : Nat → Nat) (rec : sSt → Nat → Int32 → Int32 → Option sSt) (S : sSt) (p0 : Nat) (p1 : Int32) (p2 : Int32) : Option sSt := (if p2 ≤ 0 then some S else bnd (gFR S 386 p0) (fun x8 => Option.bind x8 (fun a9 => gi (p2 - (1 : Int32)) (N a9) ((if (gAI S a9 (Int32.toNatClampNeg (p2 - (1 : Int32)))) = (3 : Int32) then B_X9_follow_169 N rec S p0 p1 (p2 + (-1 : Int32)) else bnd (gFR S 379 p0) (fun x10 => bnd (gFR S 385 p0) (fun x11 => Option.bind x11 (fun a12 => gi (p2 - (1 : Int32)) (N a12) (bnd (gFR S 386 p0) (fun x13 => Option.bind x13 (fun a14 => gi (p2 - (1 : Int32)) (N a14) (Option.bind x10 (fun a15 => gi (((3 : Int32) * (gAI S a12 (Int32.toNatClampNeg (p2 - (1 : Int32))))) + (gAI S a14 (Int32.toNatClampNeg (p2 - (1 : Int32))))) (N a15) (bnd (gFR S 386 p0) (fun x16 => Option.bind x16 (fun a17 => gi (p2 - (1 : Int32)) (N a17) (gi (p2 - (1 : Int32)) (N a17) (bnd (sAI S a17 (Int32.toNatClampNeg (p2 - (1 : Int32))) ((gAI S a17 (Int32.toNatClampNeg (p2 - (1 : Int32)))) + (1 : Int32))) (fun S18 => (if (gAI S a15 (Int32.toNatClampNeg (((3 : Int32) * (gAI S a12 (Int32.toNatClampNeg (p2 - (1 : Int32))))) + (gAI S a14 (Int32.toNatClampNeg (p2 - (1 : Int32))))))) = (-5 : Int32) then B_X9_follow_169 N rec S18 p0 p1 p2 else bnd (gFR S18 383 p0) (fun x19 => Option.bind x19 (fun a20 => gi (gAI S a15 (Int32.toNatClampNeg (((3 : Int32) * (gAI S a12 (Int32.toNatClampNeg (p2 - (1 : Int32))))) + (gAI S a14 (Int32.toNatClampNeg (p2 - (1 : Int32))))))) (N a20) ((if (gAI S18 a20 (Int32.toNatClampNeg (gAI S a15 (Int32.toNatClampNeg (((3 : Int32) * (gAI S a12 (Int32.toNatClampNeg (p2 - (1 : Int32))))) + (gAI S a14 (Int32.toNatClampNeg (p2 - (1 : Int32))))))))) = 0 then bnd (gFR S18 383 p0) (fun x21 => Option.bind x21 (fun a22 => gi (gAI S a15 (Int32.toNatClampNeg (((3 : Int32) * (gAI S a12 (Int32.toNatClampNeg (p2 - (1 : Int32))))) + (gAI S a14 (Int32.toNatClampNeg (p2 - (1 : Int32))))))) (N a22) (bnd (sAI S18 a22 (Int32.toNatClampNeg (gAI S a15 (Int32.toNatClampNeg (((3 : Int32) * (gAI S a12 (Int32.toNatClampNeg (p2 - (1 : Int32))))) + (gAI S a14 (Int32.toNatClampNeg (p2 - (1 : Int32)))))))) ((1 : Int32) &&& 1)) (fun S23 => bnd (gFR S23 382 p0) (fun x24 => Option.bind x24 (fun a25 => gi (gFI S23 384 p0) (N a25) (bnd (sAI S23 a25 (Int32.toNatClampNeg (gFI S23 384 p0)) (gAI S a15 (Int32.toNatClampNeg (((3 : Int32) * (gAI S a12 (Int32.toNatClampNeg (p2 - (1 : Int32))))) + (gAI S a14 (Int32.toNatClampNeg (p2 - (1 : Int32)))))))) (fun S26 => bnd (sFI S26 384 p0 ((gFI S26 384 p0) + (1 : Int32))) (fun S27 => (if (gAI S a15 (Int32.toNatClampNeg (((3 : Int32) * (gAI S a12 (Int32.toNatClampNeg (p2 - (1 : Int32))))) + (gAI S a14 (Int32.toNatClampNeg (p2 - (1 : Int32))))))) = p1 then B_X9_follow_169 N rec S27 p0 p1 p2 else bnd (gFR S27 385 p0) (fun x28 => Option.bind x28 (fun a29 => gi p2 (N a29) (bnd (sAI S27 a29 (Int32.toNatClampNeg p2) (gAI S a15 (Int32.toNatClampNeg (((3 : Int32) * (gAI S a12 (Int32.toNatClampNeg (p2 - (1 : Int32))))) + (gAI S a14 (Int32.toNatClampNeg (p2 - (1 : Int32)))))))) (fun S30 => bnd (gFR S30 386 p0) (fun x31 => Option.bind x31 (fun a32 => gi p2 (N a32) (bnd (sAI S30 a32 (Int32.toNatClampNeg p2) (0 : Int32)) (fun S33 => B_X9_follow_169 N rec S33 p0 p1 (p2 + (1 : Int32)))))))))))))))))))) else B_X9_follow_169 N rec S18 p0 p1 p2))))))))))))))))))))))))
set_option maxHeartbeats 4000000 in
theorem jY_X9_follow_43 {X : jX} (C : jC X cX9_follow 5 RX9 rm_X9_follow) {Λ : sLay} {r : sSt} (E : jE X none rV Λ ((), r)) (rec : sSt → Nat → Int32 → Int32 → Option sSt) (hrec : ∀ (S : sSt) (p0 : Nat) (tp0 : isK Λ 9 p0) (p1 : Int32) (p2 : Int32), J X 5 0 0 43 [(0, vR (some p0)), (1, vI p1), (2, vI p2)] [] Λ S (rec S p0 p1 p2 = some r)) : ∀ (S : sSt) (p0 : Nat) (tp0 : isK Λ 9 p0) (p1 : Int32) (p2 : Int32), J X 5 0 0 43 [(0, vR (some p0)), (1, vI p1), (2, vI p2)] [] Λ S (Y_X9_follow_43 Λ.2.2 rec S p0 p1 p2 = some r) := by
  intro S p0 tp0 p1 p2
  unfold Y_X9_follow_43
  refine j_iload_n C dX9_follow_43 2 rfl ?_
  refine j_if_le C (tgt := 172) dX9_follow_44 (by decide) ?_ ?_
  · exact j_vretP C E dX9_follow_172
  · refine j_iload_n C dX9_follow_47 2 rfl ?_
    refine j_iconst C (v := (1 : Int32)) dX9_follow_48 (by decide) ?_
    refine j_isub C dX9_follow_49 ?_
    refine j_istore_n C (L' := [(3, vI (p2 - (1 : Int32))), (0, vR (some p0)), (1, vI p1), (2, vI p2)]) dX9_follow_50 (by decide) rfl ?_
    refine j_aload_n C dX9_follow_51 1 rfl ?_
    refine j_getR C kK9 f386 kfX9_78 (by decide) rfl tp0 dX9_follow_52 (fun x8 tx8 => ?_)
    refine j_iload_n C dX9_follow_55 0 rfl ?_
    refine j_oc tx8 (fun a9 ta9 ea9 => ?_)
    subst ea9
    refine j_iald C ta9 dX9_follow_56 ?_
    refine j_iconst C (v := (3 : Int32)) dX9_follow_57 (by decide) ?_
    refine j_icmp_ne C (tgt := 67) dX9_follow_58 (by decide) ?_ ?_
    · refine j_aload_n C dX9_follow_67 1 rfl ?_
      refine j_getR C kK9 f379 kfX9_60 (by decide) rfl tp0 dX9_follow_68 (fun x10 tx10 => ?_)
      refine j_iconst C (v := (3 : Int32)) dX9_follow_71 (by decide) ?_
      refine j_aload_n C dX9_follow_72 1 rfl ?_
      refine j_getR C kK9 f385 kfX9_75 (by decide) rfl tp0 dX9_follow_73 (fun x11 tx11 => ?_)
      refine j_iload_n C dX9_follow_76 0 rfl ?_
      refine j_oc tx11 (fun a12 ta12 ea12 => ?_)
      subst ea12
      refine j_iald C ta12 dX9_follow_77 ?_
      refine j_imul C dX9_follow_78 ?_
      refine j_aload_n C dX9_follow_79 1 rfl ?_
      refine j_getR C kK9 f386 kfX9_78 (by decide) rfl tp0 dX9_follow_80 (fun x13 tx13 => ?_)
      refine j_iload_n C dX9_follow_83 0 rfl ?_
      refine j_oc tx13 (fun a14 ta14 ea14 => ?_)
      subst ea14
      refine j_iald C ta14 dX9_follow_84 ?_
      refine j_iadd C dX9_follow_85 ?_
      refine j_oc tx10 (fun a15 ta15 ea15 => ?_)
      subst ea15
      refine j_iald C ta15 dX9_follow_86 ?_
      refine j_istore C (L' := [(4, vI (gAI S a15 (Int32.toNatClampNeg (((3 : Int32) * (gAI S a12 (Int32.toNatClampNeg (p2 - (1 : Int32))))) + (gAI S a14 (Int32.toNatClampNeg (p2 - (1 : Int32)))))))), (3, vI (p2 - (1 : Int32))), (0, vR (some p0)), (1, vI p1), (2, vI p2)]) dX9_follow_87 (by decide) rfl ?_
      refine j_aload_n C dX9_follow_89 2 rfl ?_
      refine j_getR C kK9 f386 kfX9_78 (by decide) rfl tp0 dX9_follow_90 (fun x16 tx16 => ?_)
      refine j_iload_n C dX9_follow_93 1 rfl ?_
      refine j_dup2 C dX9_follow_94 rfl rfl ?_
      refine j_oc tx16 (fun a17 ta17 ea17 => ?_)
      subst ea17
      refine j_iald C ta17 dX9_follow_95 ?_
      refine j_iconst C (v := (1 : Int32)) dX9_follow_96 (by decide) ?_
      refine j_iadd C dX9_follow_97 ?_
      refine j_iast C ta17 dX9_follow_98 (fun S18 => ?_)
      refine j_iload C dX9_follow_99 0 rfl ?_
      refine j_bipush C (v := (-5 : Int32)) dX9_follow_101 (by decide) ?_
      refine j_icmp_eq C (tgt := 169) dX9_follow_103 (by decide) ?_ ?_
      · refine j_sub (L' := [(0, vR (some p0)), (1, vI p1), (2, vI p2)]) [2, 3, 4] rfl ?_
        exact jB_X9_follow_169 C E rec hrec S18 p0 tp0 p1 p2
      · refine j_aload_n C dX9_follow_106 2 rfl ?_
        refine j_getR C kK9 f383 kfX9_72 (by decide) rfl tp0 dX9_follow_107 (fun x19 tx19 => ?_)
        refine j_iload C dX9_follow_110 0 rfl ?_
        refine j_oc tx19 (fun a20 ta20 ea20 => ?_)
        subst ea20
        refine j_zald C ta20 dX9_follow_112 ?_
        refine j_if_ne C (tgt := 169) dX9_follow_113 (by decide) ?_ ?_
        · refine j_sub (L' := [(0, vR (some p0)), (1, vI p1), (2, vI p2)]) [2, 3, 4] rfl ?_
          exact jB_X9_follow_169 C E rec hrec S18 p0 tp0 p1 p2
        · refine j_aload_n C dX9_follow_116 2 rfl ?_
          refine j_getR C kK9 f383 kfX9_72 (by decide) rfl tp0 dX9_follow_117 (fun x21 tx21 => ?_)
          refine j_iload C dX9_follow_120 0 rfl ?_
          refine j_iconst C (v := (1 : Int32)) dX9_follow_122 (by decide) ?_
          refine j_oc tx21 (fun a22 ta22 ea22 => ?_)
          subst ea22
          refine j_zast C ta22 dX9_follow_123 (fun S23 => ?_)
          refine j_aload_n C dX9_follow_124 2 rfl ?_
          refine j_getR C kK9 f382 kfX9_69 (by decide) rfl tp0 dX9_follow_125 (fun x24 tx24 => ?_)
          refine j_aload_n C dX9_follow_128 2 rfl ?_
          refine j_getI C kK9 f384 kfX9_149 (by decide) tp0 dX9_follow_129 ?_
          refine j_iload C dX9_follow_132 0 rfl ?_
          refine j_oc tx24 (fun a25 ta25 ea25 => ?_)
          subst ea25
          refine j_iast C ta25 dX9_follow_134 (fun S26 => ?_)
          refine j_aload_n C dX9_follow_135 2 rfl ?_
          refine j_dup C dX9_follow_136 rfl ?_
          refine j_getI C kK9 f384 kfX9_149 (by decide) tp0 dX9_follow_137 ?_
          refine j_iconst C (v := (1 : Int32)) dX9_follow_140 (by decide) ?_
          refine j_iadd C dX9_follow_141 ?_
          refine j_putI C kK9 f384 kfX9_149 (by decide) rfl rfl rfl tp0 dX9_follow_142 (fun S27 => ?_)
          refine j_iload C dX9_follow_145 0 rfl ?_
          refine j_iload_n C dX9_follow_147 3 rfl ?_
          refine j_icmp_eq C (tgt := 169) dX9_follow_148 (by decide) ?_ ?_
          · refine j_sub (L' := [(0, vR (some p0)), (1, vI p1), (2, vI p2)]) [2, 3, 4] rfl ?_
            exact jB_X9_follow_169 C E rec hrec S27 p0 tp0 p1 p2
          · refine j_aload_n C dX9_follow_151 2 rfl ?_
            refine j_getR C kK9 f385 kfX9_75 (by decide) rfl tp0 dX9_follow_152 (fun x28 tx28 => ?_)
            refine j_iload_n C dX9_follow_155 4 rfl ?_
            refine j_iload C dX9_follow_156 0 rfl ?_
            refine j_oc tx28 (fun a29 ta29 ea29 => ?_)
            subst ea29
            refine j_iast C ta29 dX9_follow_158 (fun S30 => ?_)
            refine j_aload_n C dX9_follow_159 2 rfl ?_
            refine j_getR C kK9 f386 kfX9_78 (by decide) rfl tp0 dX9_follow_160 (fun x31 tx31 => ?_)
            refine j_iload_n C dX9_follow_163 4 rfl ?_
            refine j_iconst C (v := (0 : Int32)) dX9_follow_164 (by decide) ?_
            refine j_oc tx31 (fun a32 ta32 ea32 => ?_)
            subst ea32
            refine j_iast C ta32 dX9_follow_165 (fun S33 => ?_)
            refine j_iinc C (v := (1 : Int32)) (L' := [(2, vI (p2 + (1 : Int32))), (4, vI (gAI S a15 (Int32.toNatClampNeg (((3 : Int32) * (gAI S a12 (Int32.toNatClampNeg (p2 - (1 : Int32))))) + (gAI S a14 (Int32.toNatClampNeg (p2 - (1 : Int32)))))))), (3, vI (p2 - (1 : Int32))), (0, vR (some p0)), (1, vI p1)]) dX9_follow_166 4 rfl (by decide) (by decide) rfl ?_
            refine j_sub (L' := [(0, vR (some p0)), (1, vI p1), (2, vI (p2 + (1 : Int32)))]) [3, 4, 0] rfl ?_
            exact jB_X9_follow_169 C E rec hrec S33 p0 tp0 p1 (p2 + (1 : Int32))
    · refine j_iinc C (v := (-1 : Int32)) (L' := [(2, vI (p2 + (-1 : Int32))), (3, vI (p2 - (1 : Int32))), (0, vR (some p0)), (1, vI p1)]) dX9_follow_61 3 rfl (by decide) (by decide) rfl ?_
      refine j_goto C (tgt := 169) dX9_follow_64 (by decide) ?_
      refine j_sub (L' := [(0, vR (some p0)), (1, vI p1), (2, vI (p2 + (-1 : Int32)))]) [2, 3, 0] rfl ?_
      exact jB_X9_follow_169 C E rec hrec S p0 tp0 p1 (p2 + (-1 : Int32))
def L_X9_follow_43 (N : Nat → Nat) (n : Nat) : sSt → Nat → Int32 → Int32 → Option sSt := iter (fun _ _ _ _ => none) (Y_X9_follow_43 N) n
theorem jL_X9_follow_43 {X : jX} (C : jC X cX9_follow 5 RX9 rm_X9_follow) {Λ : sLay} {r : sSt} (E : jE X none rV Λ ((), r)) : ∀ (n : Nat) (S : sSt) (p0 : Nat) (tp0 : isK Λ 9 p0) (p1 : Int32) (p2 : Int32), J X 5 0 0 43 [(0, vR (some p0)), (1, vI p1), (2, vI p2)] [] Λ S (L_X9_follow_43 Λ.2.2 n S p0 p1 p2 = some r) := by
  intro n
  induction n with
  | zero => intro S p0 tp0 p1 p2; exact j_no (fun h => by have h2 : (none : Option sSt) = some r := h; cases h2)
  | succ n ih => intro S p0 tp0 p1 p2; exact jY_X9_follow_43 C E (L_X9_follow_43 Λ.2.2 n) ih S p0 tp0 p1 p2
def Y_X9_follow_2 (N : Nat → Nat) (rec : sSt → Nat → Int32 → Int32 → Option sSt) (S : sSt) (p0 : Nat) (p1 : Int32) (p2 : Int32) : Option sSt := (if (160 : Int32) ≤ p2 then bnd (sFI S 384 p0 (0 : Int32)) (fun S1 => bnd (gFR S1 385 p0) (fun x2 => Option.bind x2 (fun a3 => gi (0 : Int32) (N a3) (bnd (sAI S1 a3 (Int32.toNatClampNeg (0 : Int32)) p1) (fun S4 => bnd (gFR S4 386 p0) (fun x5 => Option.bind x5 (fun a6 => gi (0 : Int32) (N a6) (bnd (sAI S4 a6 (Int32.toNatClampNeg (0 : Int32)) (0 : Int32)) (fun S7 => L_X9_follow_43 N FU S7 p0 p1 (1 : Int32)))))))))) else bnd (gFR S 383 p0) (fun x34 => Option.bind x34 (fun a35 => gi p2 (N a35) (bnd (sAI S a35 (Int32.toNatClampNeg p2) ((0 : Int32) &&& 1)) (fun S36 => rec S36 p0 p1 (p2 + (1 : Int32)))))))
set_option maxHeartbeats 4000000 in
theorem jY_X9_follow_2 {X : jX} (C : jC X cX9_follow 5 RX9 rm_X9_follow) {Λ : sLay} {r : sSt} (E : jE X none rV Λ ((), r)) (rec : sSt → Nat → Int32 → Int32 → Option sSt) (hrec : ∀ (S : sSt) (p0 : Nat) (tp0 : isK Λ 9 p0) (p1 : Int32) (p2 : Int32), J X 5 0 0 2 [(0, vR (some p0)), (1, vI p1), (2, vI p2)] [] Λ S (rec S p0 p1 p2 = some r)) : ∀ (S : sSt) (p0 : Nat) (tp0 : isK Λ 9 p0) (p1 : Int32) (p2 : Int32), J X 5 0 0 2 [(0, vR (some p0)), (1, vI p1), (2, vI p2)] [] Λ S (Y_X9_follow_2 Λ.2.2 rec S p0 p1 p2 = some r) := by
  intro S p0 tp0 p1 p2
  unfold Y_X9_follow_2
  refine j_iload_n C dX9_follow_2 2 rfl ?_
  refine j_sipush C (v := (160 : Int32)) dX9_follow_3 (by decide) ?_
  refine j_icmp_ge C (tgt := 22) dX9_follow_6 (by decide) ?_ ?_
  · refine j_aload_n C dX9_follow_22 0 rfl ?_
    refine j_iconst C (v := (0 : Int32)) dX9_follow_23 (by decide) ?_
    refine j_putI C kK9 f384 kfX9_149 (by decide) rfl rfl rfl tp0 dX9_follow_24 (fun S1 => ?_)
    refine j_iconst C (v := (1 : Int32)) dX9_follow_27 (by decide) ?_
    refine j_istore_n C (L' := [(2, vI (1 : Int32)), (0, vR (some p0)), (1, vI p1)]) dX9_follow_28 (by decide) rfl ?_
    refine j_aload_n C dX9_follow_29 1 rfl ?_
    refine j_getR C kK9 f385 kfX9_75 (by decide) rfl tp0 dX9_follow_30 (fun x2 tx2 => ?_)
    refine j_iconst C (v := (0 : Int32)) dX9_follow_33 (by decide) ?_
    refine j_iload_n C dX9_follow_34 2 rfl ?_
    refine j_oc tx2 (fun a3 ta3 ea3 => ?_)
    subst ea3
    refine j_iast C ta3 dX9_follow_35 (fun S4 => ?_)
    refine j_aload_n C dX9_follow_36 1 rfl ?_
    refine j_getR C kK9 f386 kfX9_78 (by decide) rfl tp0 dX9_follow_37 (fun x5 tx5 => ?_)
    refine j_iconst C (v := (0 : Int32)) dX9_follow_40 (by decide) ?_
    refine j_iconst C (v := (0 : Int32)) dX9_follow_41 (by decide) ?_
    refine j_oc tx5 (fun a6 ta6 ea6 => ?_)
    subst ea6
    refine j_iast C ta6 dX9_follow_42 (fun S7 => ?_)
    refine j_sub (L' := [(0, vR (some p0)), (1, vI p1), (2, vI (1 : Int32))]) [1, 2, 0] rfl ?_
    exact jL_X9_follow_43 C E FU S7 p0 tp0 p1 (1 : Int32)
  · refine j_aload_n C dX9_follow_9 0 rfl ?_
    refine j_getR C kK9 f383 kfX9_72 (by decide) rfl tp0 dX9_follow_10 (fun x34 tx34 => ?_)
    refine j_iload_n C dX9_follow_13 2 rfl ?_
    refine j_iconst C (v := (0 : Int32)) dX9_follow_14 (by decide) ?_
    refine j_oc tx34 (fun a35 ta35 ea35 => ?_)
    subst ea35
    refine j_zast C ta35 dX9_follow_15 (fun S36 => ?_)
    refine j_iinc C (v := (1 : Int32)) (L' := [(2, vI (p2 + (1 : Int32))), (0, vR (some p0)), (1, vI p1)]) dX9_follow_16 2 rfl (by decide) (by decide) rfl ?_
    refine j_goto C (tgt := 2) dX9_follow_19 (by decide) ?_
    refine j_sub (L' := [(0, vR (some p0)), (1, vI p1), (2, vI (p2 + (1 : Int32)))]) [1, 2, 0] rfl ?_
    exact hrec S36 p0 tp0 p1 (p2 + (1 : Int32))
def L_X9_follow_2 (N : Nat → Nat) (n : Nat) : sSt → Nat → Int32 → Int32 → Option sSt := iter (fun _ _ _ _ => none) (Y_X9_follow_2 N) n
theorem jL_X9_follow_2 {X : jX} (C : jC X cX9_follow 5 RX9 rm_X9_follow) {Λ : sLay} {r : sSt} (E : jE X none rV Λ ((), r)) : ∀ (n : Nat) (S : sSt) (p0 : Nat) (tp0 : isK Λ 9 p0) (p1 : Int32) (p2 : Int32), J X 5 0 0 2 [(0, vR (some p0)), (1, vI p1), (2, vI p2)] [] Λ S (L_X9_follow_2 Λ.2.2 n S p0 p1 p2 = some r) := by
  intro n
  induction n with
  | zero => intro S p0 tp0 p1 p2; exact j_no (fun h => by have h2 : (none : Option sSt) = some r := h; cases h2)
  | succ n ih => intro S p0 tp0 p1 p2; exact jY_X9_follow_2 C E (L_X9_follow_2 Λ.2.2 n) ih S p0 tp0 p1 p2
def F_X9_follow (N : Nat → Nat) (S : sSt) (p0 : Nat) (p1 : Int32) : Option sSt := L_X9_follow_2 N FU S p0 p1 (0 : Int32)
set_option maxHeartbeats 4000000 in
theorem jF_X9_follow {X : jX} (C : jC X cX9_follow 5 RX9 rm_X9_follow) {Λ : sLay} {S : sSt} {r : sSt} (E : jE X none rV Λ ((), r)) (p0 : Nat) (tp0 : isK Λ 9 p0) (p1 : Int32) : J X 5 0 0 0 [(0, vR (some p0)), (1, vI p1)] [] Λ S (F_X9_follow Λ.2.2 S p0 p1 = some r) := by
  unfold F_X9_follow
  refine j_iconst C (v := (0 : Int32)) dX9_follow_0 (by decide) ?_
  refine j_istore_n C (L' := [(2, vI (0 : Int32)), (0, vR (some p0)), (1, vI p1)]) dX9_follow_1 (by decide) rfl ?_
  refine j_sub (L' := [(0, vR (some p0)), (1, vI p1), (2, vI (0 : Int32))]) [1, 2, 0] rfl ?_
  exact jL_X9_follow_2 C E FU S p0 tp0 p1 (0 : Int32)
theorem c_X9_follow {l : Launch} {D : va_G} {cy : Nat → ClassId} {Λ : sLay} {S : sSt} (p0 : Nat) (tp0 : isK Λ 9 p0) (p1 : Int32) {r : sSt} (h : F_X9_follow Λ.2.2 S p0 p1 = some r) : jM l yX9_follow (Cond.code yX9_follow cX9_follow 5 none :: bigW) rm_X9_follow D cy Λ S [vR (some p0), vI p1] rV ((), r) := jM_of (by decide +kernel) (Nat.le_of_ble_eq_true rfl) (fun X C E _ _ _ => j_sub [0, 1] rfl (jF_X9_follow C E p0 tp0 p1)) h
/-! RemakeNeeds2Model.chain(IIII)I -/
abbrev rm_X9_chain : Room := { frames := 3, cells := 0, slots := 0, locals := 73 }
def F_X9_chain (N : Nat → Nat) (S : sSt) (p0 : Nat) (p1 : Int32) (p2 : Int32) (p3 : Int32) (p4 : Int32) : Option (Int32 × sSt) := bnd (sFI S 360 p0 (0 : Int32)) (fun S1 => Option.bind (F_X9_isUnit N S1 p0 p1) (fun v2 => (if v2 = 0 then some ((-1 : Int32), S1) else Option.bind (F_X9_isName N S1 p2) (fun v4 => (if v4 = 0 then some ((-1 : Int32), S1) else Option.bind (F_X9_thingOf N S1 p0 p1 ((32 : Int32) + p2)) (fun v6 => (if v6 = (-5 : Int32) then some ((-1 : Int32), S1) else Option.bind (F_X9_in N S1 p4 (0 : Int32) (1 : Int32)) (fun v8 => (if v8 = 0 then some ((-2 : Int32), S1) else Option.bind (F_X9_reckon N S1 p0) (fun S11 => Option.bind (F_X9_thingOf N S11 p0 p1 ((32 : Int32) + p2)) (fun v12 => Option.bind (F_X9_follow N S11 p0 v12) (fun S15 => Option.bind (F_X9_in N S15 p3 (0 : Int32) ((gFI S15 384 p0) - (1 : Int32))) (fun v16 => (if v16 = 0 then some ((-5 : Int32), S15) else (if p4 = 0 then bnd (gFR S15 382 p0) (fun x22 => Option.bind x22 (fun a23 => gi p3 (N a23) (some (((gAI S15 a23 (Int32.toNatClampNeg p3)) / (10 : Int32)), S15)))) else bnd (gFR S15 364 p0) (fun x18 => bnd (gFR S15 382 p0) (fun x19 => Option.bind x19 (fun a20 => gi p3 (N a20) (Option.bind x18 (fun a21 => gi (gAI S15 a20 (Int32.toNatClampNeg p3)) (N a21) (some (((gAI S15 a21 (Int32.toNatClampNeg (gAI S15 a20 (Int32.toNatClampNeg p3)))) - (gAI S15 a21 (Int32.toNatClampNeg (gAI S15 a20 (Int32.toNatClampNeg p3)))) / (32 : Int32) * (32 : Int32)), S15))))))))))))))))))))))
set_option maxHeartbeats 4000000 in
theorem jF_X9_chain {X : jX} (C : jC X cX9_chain 5 RX9 rm_X9_chain) {Λ : sLay} {S : sSt} {r : (Int32 × sSt)} (E : jE X (some .int) rI Λ r) (p0 : Nat) (tp0 : isK Λ 9 p0) (p1 : Int32) (p2 : Int32) (p3 : Int32) (p4 : Int32) : J X 5 0 0 0 [(0, vR (some p0)), (1, vI p1), (2, vI p2), (3, vI p3), (4, vI p4)] [] Λ S (F_X9_chain Λ.2.2 S p0 p1 p2 p3 p4 = some r) := by
  unfold F_X9_chain
  refine j_aload_n C dX9_chain_0 0 rfl ?_
  refine j_iconst C (v := (0 : Int32)) dX9_chain_1 (by decide) ?_
  refine j_putI C kK9 f360 kfX9_99 (by decide) rfl rfl rfl tp0 dX9_chain_2 (fun S1 => ?_)
  refine j_aload_n C dX9_chain_5 0 rfl ?_
  refine j_iload_n C dX9_chain_6 1 rfl ?_
  refine j_cVIP C [vI p1] [] (fun _ e => c_X9_isUnit p0 tp0 p1 e) kYX9_isUnit kVX9_isUnit kmX9_110 kO9 tp0 rfl rfl ⟨rfl, rfl, by decide, by decide⟩ (Nat.le_of_ble_eq_true rfl) ⟨Nat.zero_le _, Nat.zero_le _⟩ dX9_chain_7 (fun v2 => ?_)
  refine j_if_eq C (tgt := 34) dX9_chain_10 (by decide) ?_ ?_
  · refine j_iconst C (v := (-1 : Int32)) dX9_chain_34 (by decide) ?_
    exact j_iret C E dX9_chain_35
  · refine j_iload_n C dX9_chain_13 2 rfl ?_
    refine j_cSIP C [vI p2] [] (fun _ e => c_X9_isName p2 e) kYX9_isName kSX9_isName kmX9_114 rfl rfl ⟨rfl, rfl, by decide, by decide⟩ (Nat.le_of_ble_eq_true rfl) ⟨Nat.zero_le _, Nat.zero_le _⟩ dX9_chain_14 (fun v4 => ?_)
    refine j_if_eq C (tgt := 34) dX9_chain_17 (by decide) ?_ ?_
    · refine j_iconst C (v := (-1 : Int32)) dX9_chain_34 (by decide) ?_
      exact j_iret C E dX9_chain_35
    · refine j_aload_n C dX9_chain_20 0 rfl ?_
      refine j_iload_n C dX9_chain_21 1 rfl ?_
      refine j_bipush C (v := (32 : Int32)) dX9_chain_22 (by decide) ?_
      refine j_iload_n C dX9_chain_24 2 rfl ?_
      refine j_iadd C dX9_chain_25 ?_
      refine j_cVIP C [vI p1, vI ((32 : Int32) + p2)] [] (fun _ e => c_X9_thingOf p0 tp0 p1 ((32 : Int32) + p2) e) kYX9_thingOf kVX9_thingOf kmX9_117 kO9 tp0 rfl rfl ⟨rfl, rfl, by decide, by decide⟩ (Nat.le_of_ble_eq_true rfl) ⟨Nat.zero_le _, Nat.zero_le _⟩ dX9_chain_26 (fun v6 => ?_)
      refine j_bipush C (v := (-5 : Int32)) dX9_chain_29 (by decide) ?_
      refine j_icmp_ne C (tgt := 36) dX9_chain_31 (by decide) ?_ ?_
      · refine j_iload C dX9_chain_36 4 rfl ?_
        refine j_iconst C (v := (0 : Int32)) dX9_chain_38 (by decide) ?_
        refine j_iconst C (v := (1 : Int32)) dX9_chain_39 (by decide) ?_
        refine j_cSIP C [vI p4, vI (0 : Int32), vI (1 : Int32)] [] (fun _ e => c_X9_in p4 (0 : Int32) (1 : Int32) e) kYX9_in kSX9_in kmX9_106 rfl rfl ⟨rfl, rfl, by decide, by decide⟩ (Nat.le_of_ble_eq_true rfl) ⟨Nat.zero_le _, Nat.zero_le _⟩ dX9_chain_40 (fun v8 => ?_)
        refine j_if_ne C (tgt := 49) dX9_chain_43 (by decide) ?_ ?_
        · refine j_aload_n C dX9_chain_49 0 rfl ?_
          refine j_cVVV C [] [] (fun _ e => c_X9_reckon p0 tp0 e) kYX9_reckon kVX9_reckon kmX9_146 kO9 tp0 rfl rfl ⟨rfl, rfl, by decide, by decide⟩ (Nat.le_of_ble_eq_true rfl) ⟨Nat.zero_le _, Nat.zero_le _⟩ dX9_chain_50 (fun S11 => ?_)
          refine j_aload_n C dX9_chain_53 0 rfl ?_
          refine j_aload_n C dX9_chain_54 0 rfl ?_
          refine j_iload_n C dX9_chain_55 1 rfl ?_
          refine j_bipush C (v := (32 : Int32)) dX9_chain_56 (by decide) ?_
          refine j_iload_n C dX9_chain_58 2 rfl ?_
          refine j_iadd C dX9_chain_59 ?_
          refine j_cVIP C [vI p1, vI ((32 : Int32) + p2)] [vR (some p0)] (fun _ e => c_X9_thingOf p0 tp0 p1 ((32 : Int32) + p2) e) kYX9_thingOf kVX9_thingOf kmX9_117 kO9 tp0 rfl rfl ⟨rfl, rfl, by decide, by decide⟩ (Nat.le_of_ble_eq_true rfl) ⟨Nat.zero_le _, Nat.zero_le _⟩ dX9_chain_60 (fun v12 => ?_)
          refine j_cVVV C [vI v12] [] (fun _ e => c_X9_follow p0 tp0 v12 e) kYX9_follow kVX9_follow kmX9_152 kO9 tp0 rfl rfl ⟨rfl, rfl, by decide, by decide⟩ (Nat.le_of_ble_eq_true rfl) ⟨Nat.zero_le _, Nat.zero_le _⟩ dX9_chain_63 (fun S15 => ?_)
          refine j_iload_n C dX9_chain_66 3 rfl ?_
          refine j_iconst C (v := (0 : Int32)) dX9_chain_67 (by decide) ?_
          refine j_aload_n C dX9_chain_68 0 rfl ?_
          refine j_getI C kK9 f384 kfX9_149 (by decide) tp0 dX9_chain_69 ?_
          refine j_iconst C (v := (1 : Int32)) dX9_chain_72 (by decide) ?_
          refine j_isub C dX9_chain_73 ?_
          refine j_cSIP C [vI p3, vI (0 : Int32), vI ((gFI S15 384 p0) - (1 : Int32))] [] (fun _ e => c_X9_in p3 (0 : Int32) ((gFI S15 384 p0) - (1 : Int32)) e) kYX9_in kSX9_in kmX9_106 rfl rfl ⟨rfl, rfl, by decide, by decide⟩ (Nat.le_of_ble_eq_true rfl) ⟨Nat.zero_le _, Nat.zero_le _⟩ dX9_chain_74 (fun v16 => ?_)
          refine j_if_ne C (tgt := 85) dX9_chain_77 (by decide) ?_ ?_
          · refine j_iload C dX9_chain_85 4 rfl ?_
            refine j_if_ne C (tgt := 102) dX9_chain_87 (by decide) ?_ ?_
            · refine j_aload_n C dX9_chain_102 0 rfl ?_
              refine j_getR C kK9 f364 kfX9_17 (by decide) rfl tp0 dX9_chain_103 (fun x18 tx18 => ?_)
              refine j_aload_n C dX9_chain_106 0 rfl ?_
              refine j_getR C kK9 f382 kfX9_69 (by decide) rfl tp0 dX9_chain_107 (fun x19 tx19 => ?_)
              refine j_iload_n C dX9_chain_110 3 rfl ?_
              refine j_oc tx19 (fun a20 ta20 ea20 => ?_)
              subst ea20
              refine j_iald C ta20 dX9_chain_111 ?_
              refine j_oc tx18 (fun a21 ta21 ea21 => ?_)
              subst ea21
              refine j_iald C ta21 dX9_chain_112 ?_
              refine j_bipush C (v := (32 : Int32)) dX9_chain_113 (by decide) ?_
              refine j_irem C dX9_chain_115 (by decide) ?_
              exact j_iret C E dX9_chain_116
            · refine j_aload_n C dX9_chain_90 0 rfl ?_
              refine j_getR C kK9 f382 kfX9_69 (by decide) rfl tp0 dX9_chain_91 (fun x22 tx22 => ?_)
              refine j_iload_n C dX9_chain_94 3 rfl ?_
              refine j_oc tx22 (fun a23 ta23 ea23 => ?_)
              subst ea23
              refine j_iald C ta23 dX9_chain_95 ?_
              refine j_bipush C (v := (10 : Int32)) dX9_chain_96 (by decide) ?_
              refine j_idiv C dX9_chain_98 (by decide) ?_
              refine j_goto C (tgt := 116) dX9_chain_99 (by decide) ?_
              exact j_iret C E dX9_chain_116
          · refine j_bipush C (v := (-5 : Int32)) dX9_chain_80 (by decide) ?_
            refine j_goto C (tgt := 116) dX9_chain_82 (by decide) ?_
            exact j_iret C E dX9_chain_116
        · refine j_bipush C (v := (-2 : Int32)) dX9_chain_46 (by decide) ?_
          exact j_iret C E dX9_chain_48
      · refine j_iconst C (v := (-1 : Int32)) dX9_chain_34 (by decide) ?_
        exact j_iret C E dX9_chain_35
theorem c_X9_chain {l : Launch} {D : va_G} {cy : Nat → ClassId} {Λ : sLay} {S : sSt} (p0 : Nat) (tp0 : isK Λ 9 p0) (p1 : Int32) (p2 : Int32) (p3 : Int32) (p4 : Int32) {v : Int32} {S1 : sSt} (h : F_X9_chain Λ.2.2 S p0 p1 p2 p3 p4 = some (v, S1)) : jM l yX9_chain (Cond.code yX9_chain cX9_chain 5 (some .int) :: bigW) rm_X9_chain D cy Λ S [vR (some p0), vI p1, vI p2, vI p3, vI p4] rI (v, S1) := jM_of (by decide +kernel) (Nat.le_of_ble_eq_true rfl) (fun X C E _ _ _ => j_sub [0, 1, 2, 3, 4] rfl (jF_X9_chain C E p0 tp0 p1 p2 p3 p4)) h
/-! RemakeNeeds2Model.clear()I -/
abbrev rm_X9_clear : Room := { frames := 1, cells := 0, slots := 0, locals := 22 }
def Y_X9_clear_22 (N : Nat → Nat) (rec : sSt → Nat → Int32 → Int32 → Option (Int32 × sSt)) (S : sSt) (p0 : Nat) (p1 : Int32) (p2 : Int32) : Option (Int32 × sSt) := (if (16 : Int32) ≤ p2 then some (p1, S) else bnd (gFR S 362 p0) (fun x6 => Option.bind x6 (fun a7 => gi p2 (N a7) (bnd (sAI S a7 (Int32.toNatClampNeg p2) ((0 : Int32) &&& 1)) (fun S8 => rec S8 p0 p1 (p2 + (1 : Int32)))))))
set_option maxHeartbeats 4000000 in
theorem jY_X9_clear_22 {X : jX} (C : jC X cX9_clear 3 RX9 rm_X9_clear) {Λ : sLay} {r : (Int32 × sSt)} (E : jE X (some .int) rI Λ r) (rec : sSt → Nat → Int32 → Int32 → Option (Int32 × sSt)) (hrec : ∀ (S : sSt) (p0 : Nat) (tp0 : isK Λ 9 p0) (p1 : Int32) (p2 : Int32), J X 3 0 0 22 [(0, vR (some p0)), (1, vI p1), (2, vI p2)] [] Λ S (rec S p0 p1 p2 = some r)) : ∀ (S : sSt) (p0 : Nat) (tp0 : isK Λ 9 p0) (p1 : Int32) (p2 : Int32), J X 3 0 0 22 [(0, vR (some p0)), (1, vI p1), (2, vI p2)] [] Λ S (Y_X9_clear_22 Λ.2.2 rec S p0 p1 p2 = some r) := by
  intro S p0 tp0 p1 p2
  unfold Y_X9_clear_22
  refine j_iload_n C dX9_clear_22 2 rfl ?_
  refine j_bipush C (v := (16 : Int32)) dX9_clear_23 (by decide) ?_
  refine j_icmp_ge C (tgt := 41) dX9_clear_25 (by decide) ?_ ?_
  · refine j_iload_n C dX9_clear_41 1 rfl ?_
    exact j_iret C E dX9_clear_42
  · refine j_aload_n C dX9_clear_28 0 rfl ?_
    refine j_getR C kK9 f362 kfX9_7 (by decide) rfl tp0 dX9_clear_29 (fun x6 tx6 => ?_)
    refine j_iload_n C dX9_clear_32 2 rfl ?_
    refine j_iconst C (v := (0 : Int32)) dX9_clear_33 (by decide) ?_
    refine j_oc tx6 (fun a7 ta7 ea7 => ?_)
    subst ea7
    refine j_zast C ta7 dX9_clear_34 (fun S8 => ?_)
    refine j_iinc C (v := (1 : Int32)) (L' := [(2, vI (p2 + (1 : Int32))), (0, vR (some p0)), (1, vI p1)]) dX9_clear_35 2 rfl (by decide) (by decide) rfl ?_
    refine j_goto C (tgt := 22) dX9_clear_38 (by decide) ?_
    refine j_sub (L' := [(0, vR (some p0)), (1, vI p1), (2, vI (p2 + (1 : Int32)))]) [1, 2, 0] rfl ?_
    exact hrec S8 p0 tp0 p1 (p2 + (1 : Int32))
def L_X9_clear_22 (N : Nat → Nat) (n : Nat) : sSt → Nat → Int32 → Int32 → Option (Int32 × sSt) := iter (fun _ _ _ _ => none) (Y_X9_clear_22 N) n
theorem jL_X9_clear_22 {X : jX} (C : jC X cX9_clear 3 RX9 rm_X9_clear) {Λ : sLay} {r : (Int32 × sSt)} (E : jE X (some .int) rI Λ r) : ∀ (n : Nat) (S : sSt) (p0 : Nat) (tp0 : isK Λ 9 p0) (p1 : Int32) (p2 : Int32), J X 3 0 0 22 [(0, vR (some p0)), (1, vI p1), (2, vI p2)] [] Λ S (L_X9_clear_22 Λ.2.2 n S p0 p1 p2 = some r) := by
  intro n
  induction n with
  | zero => intro S p0 tp0 p1 p2; exact j_no (fun h => by have h2 : (none : Option (Int32 × sSt)) = some r := h; cases h2)
  | succ n ih => intro S p0 tp0 p1 p2; exact jY_X9_clear_22 C E (L_X9_clear_22 Λ.2.2 n) ih S p0 tp0 p1 p2
def F_X9_clear (N : Nat → Nat) (S : sSt) (p0 : Nat) : Option (Int32 × sSt) := bnd (sFI S 360 p0 (0 : Int32)) (fun S1 => Option.bind (F_X9_unitsThere N S1 p0) (fun v2 => bnd (sFI S1 361 p0 (0 : Int32)) (fun S4 => bnd (sFI S4 378 p0 (0 : Int32)) (fun S5 => L_X9_clear_22 N FU S5 p0 v2 (0 : Int32)))))
set_option maxHeartbeats 4000000 in
theorem jF_X9_clear {X : jX} (C : jC X cX9_clear 3 RX9 rm_X9_clear) {Λ : sLay} {S : sSt} {r : (Int32 × sSt)} (E : jE X (some .int) rI Λ r) (p0 : Nat) (tp0 : isK Λ 9 p0) : J X 3 0 0 0 [(0, vR (some p0))] [] Λ S (F_X9_clear Λ.2.2 S p0 = some r) := by
  unfold F_X9_clear
  refine j_aload_n C dX9_clear_0 0 rfl ?_
  refine j_iconst C (v := (0 : Int32)) dX9_clear_1 (by decide) ?_
  refine j_putI C kK9 f360 kfX9_99 (by decide) rfl rfl rfl tp0 dX9_clear_2 (fun S1 => ?_)
  refine j_aload_n C dX9_clear_5 0 rfl ?_
  refine j_cVIP C [] [] (fun _ e => c_X9_unitsThere p0 tp0 e) kYX9_unitsThere kVX9_unitsThere kmX9_133 kO9 tp0 rfl rfl ⟨rfl, rfl, by decide, by decide⟩ (Nat.le_of_ble_eq_true rfl) ⟨Nat.zero_le _, Nat.zero_le _⟩ dX9_clear_6 (fun v2 => ?_)
  refine j_istore_n C (L' := [(1, vI v2), (0, vR (some p0))]) dX9_clear_9 (by decide) rfl ?_
  refine j_aload_n C dX9_clear_10 1 rfl ?_
  refine j_iconst C (v := (0 : Int32)) dX9_clear_11 (by decide) ?_
  refine j_putI C kK9 f361 kfX9_103 (by decide) rfl rfl rfl tp0 dX9_clear_12 (fun S4 => ?_)
  refine j_aload_n C dX9_clear_15 1 rfl ?_
  refine j_iconst C (v := (0 : Int32)) dX9_clear_16 (by decide) ?_
  refine j_putI C kK9 f378 kfX9_195 (by decide) rfl rfl rfl tp0 dX9_clear_17 (fun S5 => ?_)
  refine j_iconst C (v := (0 : Int32)) dX9_clear_20 (by decide) ?_
  refine j_istore_n C (L' := [(2, vI (0 : Int32)), (1, vI v2), (0, vR (some p0))]) dX9_clear_21 (by decide) rfl ?_
  refine j_sub (L' := [(0, vR (some p0)), (1, vI v2), (2, vI (0 : Int32))]) [2, 1, 0] rfl ?_
  exact jL_X9_clear_22 C E FU S5 p0 tp0 v2 (0 : Int32)
theorem c_X9_clear {l : Launch} {D : va_G} {cy : Nat → ClassId} {Λ : sLay} {S : sSt} (p0 : Nat) (tp0 : isK Λ 9 p0) {v : Int32} {S1 : sSt} (h : F_X9_clear Λ.2.2 S p0 = some (v, S1)) : jM l yX9_clear (Cond.code yX9_clear cX9_clear 3 (some .int) :: bigW) rm_X9_clear D cy Λ S [vR (some p0)] rI (v, S1) := jM_of (by decide +kernel) (Nat.le_of_ble_eq_true rfl) (fun X C E _ _ _ => j_sub [0] rfl (jF_X9_clear C E p0 tp0)) h
/-! RemakeNeeds2Model.isAs(III)Z -/
abbrev rm_X9_isAs : Room := { frames := 0, cells := 0, slots := 0, locals := 0 }
def B_X9_isAs_46 (N : Nat → Nat) (S : sSt) (k6 : Nat → Int32 → Int32 → Int32 → Int32 → Option Int32) (p0 : Nat) (p1 : Int32) (p3 : Int32) (p5 : Int32) (s0 : Int32) : Option Int32 := k6 p0 p1 p3 s0 (p5 + (1 : Int32))
set_option maxHeartbeats 4000000 in
theorem jB_X9_isAs_46 {X : jX} (C : jC X cX9_isAs 6 RX9 rm_X9_isAs) {Λ : sLay} {S : sSt} {r : Int32} (E : jE X (some .boolean) rI Λ (r, S)) (k6 : Nat → Int32 → Int32 → Int32 → Int32 → Option Int32) (hk6 : ∀ (p0 : Nat) (tp0 : isK Λ 9 p0) (p1 : Int32) (p3 : Int32) (p4 : Int32) (p5 : Int32), J X 6 0 0 6 [(0, vR (some p0)), (1, vI p1), (3, vI p3), (4, vI p4), (5, vI p5)] [] Λ S (k6 p0 p1 p3 p4 p5 = some r)) : ∀ (p0 : Nat) (tp0 : isK Λ 9 p0) (p1 : Int32) (p3 : Int32) (p5 : Int32) (s0 : Int32), J X 6 0 0 46 [(0, vR (some p0)), (1, vI p1), (3, vI p3), (5, vI p5)] [vI s0] Λ S (B_X9_isAs_46 Λ.2.2 S k6 p0 p1 p3 p5 s0 = some r) := by
  intro p0 tp0 p1 p3 p5 s0
  unfold B_X9_isAs_46
  refine j_istore C (L' := [(4, vI s0), (0, vR (some p0)), (1, vI p1), (3, vI p3), (5, vI p5)]) dX9_isAs_46 (by decide) rfl ?_
  refine j_iinc C (v := (1 : Int32)) (L' := [(5, vI (p5 + (1 : Int32))), (4, vI s0), (0, vR (some p0)), (1, vI p1), (3, vI p3)]) dX9_isAs_48 4 rfl (by decide) (by decide) rfl ?_
  refine j_goto C (tgt := 6) dX9_isAs_51 (by decide) ?_
  refine j_sub (L' := [(0, vR (some p0)), (1, vI p1), (3, vI p3), (4, vI s0), (5, vI (p5 + (1 : Int32)))]) [2, 3, 4, 1, 0] rfl ?_
  exact hk6 p0 tp0 p1 p3 s0 (p5 + (1 : Int32))
def B_X9_isAs_45 (N : Nat → Nat) (S : sSt) (k6 : Nat → Int32 → Int32 → Int32 → Int32 → Option Int32) (p0 : Nat) (p1 : Int32) (p3 : Int32) (p5 : Int32) : Option Int32 := B_X9_isAs_46 N S k6 p0 p1 p3 p5 (0 : Int32)
set_option maxHeartbeats 4000000 in
theorem jB_X9_isAs_45 {X : jX} (C : jC X cX9_isAs 6 RX9 rm_X9_isAs) {Λ : sLay} {S : sSt} {r : Int32} (E : jE X (some .boolean) rI Λ (r, S)) (k6 : Nat → Int32 → Int32 → Int32 → Int32 → Option Int32) (hk6 : ∀ (p0 : Nat) (tp0 : isK Λ 9 p0) (p1 : Int32) (p3 : Int32) (p4 : Int32) (p5 : Int32), J X 6 0 0 6 [(0, vR (some p0)), (1, vI p1), (3, vI p3), (4, vI p4), (5, vI p5)] [] Λ S (k6 p0 p1 p3 p4 p5 = some r)) : ∀ (p0 : Nat) (tp0 : isK Λ 9 p0) (p1 : Int32) (p3 : Int32) (p5 : Int32), J X 6 0 0 45 [(0, vR (some p0)), (1, vI p1), (3, vI p3), (5, vI p5)] [] Λ S (B_X9_isAs_45 Λ.2.2 S k6 p0 p1 p3 p5 = some r) := by
  intro p0 tp0 p1 p3 p5
  unfold B_X9_isAs_45
  refine j_iconst C (v := (0 : Int32)) dX9_isAs_45 (by decide) ?_
  exact jB_X9_isAs_46 C E k6 hk6 p0 tp0 p1 p3 p5 (0 : Int32)
def Y_X9_isAs_6 (N : Nat → Nat) (S : sSt) (rec : Nat → Int32 → Int32 → Int32 → Int32 → Option Int32) (p0 : Nat) (p1 : Int32) (p3 : Int32) (p4 : Int32) (p5 : Int32) : Option Int32 := (if p3 ≤ p5 then gb p4 (some p4) else (if p4 = 0 then B_X9_isAs_45 N S rec p0 p1 p3 p5 else bnd (gFR S 387 p0) (fun x1 => Option.bind x1 (fun a2 => gi p5 (N a2) (bnd (gFR S 375 p0) (fun x3 => Option.bind x3 (fun a4 => gi (((700 : Int32) * p1) + p5) (N a4) ((if (lg_cmp (gAJ S a2 (Int32.toNatClampNeg p5)) (gAJ S a4 (Int32.toNatClampNeg (((700 : Int32) * p1) + p5)))) = 0 then B_X9_isAs_46 N S rec p0 p1 p3 p5 (1 : Int32) else B_X9_isAs_45 N S rec p0 p1 p3 p5)))))))))
set_option maxHeartbeats 4000000 in
theorem jY_X9_isAs_6 {X : jX} (C : jC X cX9_isAs 6 RX9 rm_X9_isAs) {Λ : sLay} {S : sSt} {r : Int32} (E : jE X (some .boolean) rI Λ (r, S)) (rec : Nat → Int32 → Int32 → Int32 → Int32 → Option Int32) (hrec : ∀ (p0 : Nat) (tp0 : isK Λ 9 p0) (p1 : Int32) (p3 : Int32) (p4 : Int32) (p5 : Int32), J X 6 0 0 6 [(0, vR (some p0)), (1, vI p1), (3, vI p3), (4, vI p4), (5, vI p5)] [] Λ S (rec p0 p1 p3 p4 p5 = some r)) : ∀ (p0 : Nat) (tp0 : isK Λ 9 p0) (p1 : Int32) (p3 : Int32) (p4 : Int32) (p5 : Int32), J X 6 0 0 6 [(0, vR (some p0)), (1, vI p1), (3, vI p3), (4, vI p4), (5, vI p5)] [] Λ S (Y_X9_isAs_6 Λ.2.2 S rec p0 p1 p3 p4 p5 = some r) := by
  intro p0 tp0 p1 p3 p4 p5
  unfold Y_X9_isAs_6
  refine j_iload C dX9_isAs_6 4 rfl ?_
  refine j_iload_n C dX9_isAs_8 2 rfl ?_
  refine j_icmp_ge C (tgt := 54) dX9_isAs_9 (by decide) ?_ ?_
  · refine j_iload C dX9_isAs_54 3 rfl ?_
    exact j_zretP C E dX9_isAs_56
  · refine j_iload C dX9_isAs_12 3 rfl ?_
    refine j_if_eq C (tgt := 45) dX9_isAs_14 (by decide) ?_ ?_
    · refine j_sub (L' := [(0, vR (some p0)), (1, vI p1), (3, vI p3), (5, vI p5)]) [0, 1, 2, 4] rfl ?_
      exact jB_X9_isAs_45 C E rec hrec p0 tp0 p1 p3 p5
    · refine j_aload_n C dX9_isAs_17 0 rfl ?_
      refine j_getR C kK9 f387 kfX9_81 (by decide) rfl tp0 dX9_isAs_18 (fun x1 tx1 => ?_)
      refine j_iload C dX9_isAs_21 4 rfl ?_
      refine j_oc tx1 (fun a2 ta2 ea2 => ?_)
      subst ea2
      refine j_lald C ta2 dX9_isAs_23 ?_
      refine j_aload_n C dX9_isAs_24 0 rfl ?_
      refine j_getR C kK9 f375 kfX9_51 (by decide) rfl tp0 dX9_isAs_25 (fun x3 tx3 => ?_)
      refine j_sipush C (v := (700 : Int32)) dX9_isAs_28 (by decide) ?_
      refine j_iload_n C dX9_isAs_31 1 rfl ?_
      refine j_imul C dX9_isAs_32 ?_
      refine j_iload C dX9_isAs_33 4 rfl ?_
      refine j_iadd C dX9_isAs_35 ?_
      refine j_oc tx3 (fun a4 ta4 ea4 => ?_)
      subst ea4
      refine j_lald C ta4 dX9_isAs_36 ?_
      refine j_lcmp C dX9_isAs_37 ?_
      refine j_if_ne C (tgt := 45) dX9_isAs_38 (by decide) ?_ ?_
      · refine j_sub (L' := [(0, vR (some p0)), (1, vI p1), (3, vI p3), (5, vI p5)]) [0, 1, 2, 4] rfl ?_
        exact jB_X9_isAs_45 C E rec hrec p0 tp0 p1 p3 p5
      · refine j_iconst C (v := (1 : Int32)) dX9_isAs_41 (by decide) ?_
        refine j_goto C (tgt := 46) dX9_isAs_42 (by decide) ?_
        refine j_sub (L' := [(0, vR (some p0)), (1, vI p1), (3, vI p3), (5, vI p5)]) [0, 1, 2, 4] rfl ?_
        exact jB_X9_isAs_46 C E rec hrec p0 tp0 p1 p3 p5 (1 : Int32)
def L_X9_isAs_6 (N : Nat → Nat) (S : sSt) (n : Nat) : Nat → Int32 → Int32 → Int32 → Int32 → Option Int32 := iter (fun _ _ _ _ _ => none) (Y_X9_isAs_6 N S) n
theorem jL_X9_isAs_6 {X : jX} (C : jC X cX9_isAs 6 RX9 rm_X9_isAs) {Λ : sLay} {S : sSt} {r : Int32} (E : jE X (some .boolean) rI Λ (r, S)) : ∀ (n : Nat) (p0 : Nat) (tp0 : isK Λ 9 p0) (p1 : Int32) (p3 : Int32) (p4 : Int32) (p5 : Int32), J X 6 0 0 6 [(0, vR (some p0)), (1, vI p1), (3, vI p3), (4, vI p4), (5, vI p5)] [] Λ S (L_X9_isAs_6 Λ.2.2 S n p0 p1 p3 p4 p5 = some r) := by
  intro n
  induction n with
  | zero => intro p0 tp0 p1 p3 p4 p5; exact j_no (fun h => by have h2 : (none : Option Int32) = some r := h; cases h2)
  | succ n ih => intro p0 tp0 p1 p3 p4 p5; exact jY_X9_isAs_6 C E (L_X9_isAs_6 Λ.2.2 S n) ih p0 tp0 p1 p3 p4 p5
def F_X9_isAs (N : Nat → Nat) (S : sSt) (p0 : Nat) (p1 : Int32) (p2 : Int32) (p3 : Int32) : Option Int32 := L_X9_isAs_6 N S FU p0 p1 p3 (1 : Int32) p2
set_option maxHeartbeats 4000000 in
theorem jF_X9_isAs {X : jX} (C : jC X cX9_isAs 6 RX9 rm_X9_isAs) {Λ : sLay} {S : sSt} {r : Int32} (E : jE X (some .boolean) rI Λ (r, S)) (p0 : Nat) (tp0 : isK Λ 9 p0) (p1 : Int32) (p2 : Int32) (p3 : Int32) : J X 6 0 0 0 [(0, vR (some p0)), (1, vI p1), (2, vI p2), (3, vI p3)] [] Λ S (F_X9_isAs Λ.2.2 S p0 p1 p2 p3 = some r) := by
  unfold F_X9_isAs
  refine j_iconst C (v := (1 : Int32)) dX9_isAs_0 (by decide) ?_
  refine j_istore C (L' := [(4, vI (1 : Int32)), (0, vR (some p0)), (1, vI p1), (2, vI p2), (3, vI p3)]) dX9_isAs_1 (by decide) rfl ?_
  refine j_iload_n C dX9_isAs_3 3 rfl ?_
  refine j_istore C (L' := [(5, vI p2), (4, vI (1 : Int32)), (0, vR (some p0)), (1, vI p1), (2, vI p2), (3, vI p3)]) dX9_isAs_4 (by decide) rfl ?_
  refine j_sub (L' := [(0, vR (some p0)), (1, vI p1), (3, vI p3), (4, vI (1 : Int32)), (5, vI p2)]) [2, 3, 5, 1, 0] rfl ?_
  exact jL_X9_isAs_6 C E FU p0 tp0 p1 p3 (1 : Int32) p2
theorem c_X9_isAs {l : Launch} {D : va_G} {cy : Nat → ClassId} {Λ : sLay} {S : sSt} (p0 : Nat) (tp0 : isK Λ 9 p0) (p1 : Int32) (p2 : Int32) (p3 : Int32) {r : Int32} (h : F_X9_isAs Λ.2.2 S p0 p1 p2 p3 = some r) : jM l yX9_isAs (Cond.code yX9_isAs cX9_isAs 6 (some .boolean) :: bigW) rm_X9_isAs D cy Λ S [vR (some p0), vI p1, vI p2, vI p3] rI (r, S) := jM_of (by decide +kernel) (Nat.le_of_ble_eq_true rfl) (fun X C E _ _ _ => j_sub [0, 1, 2, 3] rfl (jF_X9_isAs C E p0 tp0 p1 p2 p3)) h
/-! RemakeNeeds2Model.whyOf(I)I -/
abbrev rm_X9_whyOf : Room := { frames := 1, cells := 0, slots := 0, locals := 25 }
def B_X9_whyOf_218 (N : Nat → Nat) (S : sSt) : Option Int32 := some (5 : Int32)
set_option maxHeartbeats 4000000 in
theorem jB_X9_whyOf_218 {X : jX} (C : jC X cX9_whyOf 4 RX9 rm_X9_whyOf) {Λ : sLay} {S : sSt} {r : Int32} (E : jE X (some .int) rI Λ (r, S)) : ∀ (_ : Unit), J X 4 0 0 218 [] [] Λ S (B_X9_whyOf_218 Λ.2.2 S  = some r) := by
  intro _
  unfold B_X9_whyOf_218
  refine j_iconst C (v := (5 : Int32)) dX9_whyOf_218 (by decide) ?_
  refine j_goto C (tgt := 223) dX9_whyOf_219 (by decide) ?_
  exact j_iretP C E dX9_whyOf_223
def B_X9_whyOf_101 (N : Nat → Nat) (S : sSt) (k70 : Nat → Int32 → Int32 → Int32 → Option Int32) (p0 : Nat) (p1 : Int32) (p3 : Int32) (s0 : Int32) : Option Int32 := k70 p0 p1 s0 (p3 + (4 : Int32))
set_option maxHeartbeats 4000000 in
theorem jB_X9_whyOf_101 {X : jX} (C : jC X cX9_whyOf 4 RX9 rm_X9_whyOf) {Λ : sLay} {S : sSt} {r : Int32} (E : jE X (some .int) rI Λ (r, S)) (k70 : Nat → Int32 → Int32 → Int32 → Option Int32) (hk70 : ∀ (p0 : Nat) (tp0 : isK Λ 9 p0) (p1 : Int32) (p2 : Int32) (p3 : Int32), J X 4 0 0 70 [(0, vR (some p0)), (1, vI p1), (2, vI p2), (3, vI p3)] [] Λ S (k70 p0 p1 p2 p3 = some r)) : ∀ (p0 : Nat) (tp0 : isK Λ 9 p0) (p1 : Int32) (p3 : Int32) (s0 : Int32), J X 4 0 0 101 [(0, vR (some p0)), (1, vI p1), (3, vI p3)] [vI s0] Λ S (B_X9_whyOf_101 Λ.2.2 S k70 p0 p1 p3 s0 = some r) := by
  intro p0 tp0 p1 p3 s0
  unfold B_X9_whyOf_101
  refine j_istore_n C (L' := [(2, vI s0), (0, vR (some p0)), (1, vI p1), (3, vI p3)]) dX9_whyOf_101 (by decide) rfl ?_
  refine j_iinc C (v := (4 : Int32)) (L' := [(3, vI (p3 + (4 : Int32))), (2, vI s0), (0, vR (some p0)), (1, vI p1)]) dX9_whyOf_102 3 rfl (by decide) (by decide) rfl ?_
  refine j_goto C (tgt := 70) dX9_whyOf_105 (by decide) ?_
  refine j_sub (L' := [(0, vR (some p0)), (1, vI p1), (2, vI s0), (3, vI (p3 + (4 : Int32)))]) [2, 3, 1, 0] rfl ?_
  exact hk70 p0 tp0 p1 s0 (p3 + (4 : Int32))
def B_X9_whyOf_100 (N : Nat → Nat) (S : sSt) (k70 : Nat → Int32 → Int32 → Int32 → Option Int32) (p0 : Nat) (p1 : Int32) (p3 : Int32) : Option Int32 := B_X9_whyOf_101 N S k70 p0 p1 p3 (0 : Int32)
set_option maxHeartbeats 4000000 in
theorem jB_X9_whyOf_100 {X : jX} (C : jC X cX9_whyOf 4 RX9 rm_X9_whyOf) {Λ : sLay} {S : sSt} {r : Int32} (E : jE X (some .int) rI Λ (r, S)) (k70 : Nat → Int32 → Int32 → Int32 → Option Int32) (hk70 : ∀ (p0 : Nat) (tp0 : isK Λ 9 p0) (p1 : Int32) (p2 : Int32) (p3 : Int32), J X 4 0 0 70 [(0, vR (some p0)), (1, vI p1), (2, vI p2), (3, vI p3)] [] Λ S (k70 p0 p1 p2 p3 = some r)) : ∀ (p0 : Nat) (tp0 : isK Λ 9 p0) (p1 : Int32) (p3 : Int32), J X 4 0 0 100 [(0, vR (some p0)), (1, vI p1), (3, vI p3)] [] Λ S (B_X9_whyOf_100 Λ.2.2 S k70 p0 p1 p3 = some r) := by
  intro p0 tp0 p1 p3
  unfold B_X9_whyOf_100
  refine j_iconst C (v := (0 : Int32)) dX9_whyOf_100 (by decide) ?_
  exact jB_X9_whyOf_101 C E k70 hk70 p0 tp0 p1 p3 (0 : Int32)
def Y_X9_whyOf_70 (N : Nat → Nat) (S : sSt) (rec : Nat → Int32 → Int32 → Int32 → Option Int32) (p0 : Nat) (p1 : Int32) (p2 : Int32) (p3 : Int32) : Option Int32 := bnd (gFR S 389 p0) (fun x9 => Option.bind x9 (fun a10 => gi (2 : Int32) (N a10) ((if (gAI S a10 (Int32.toNatClampNeg (2 : Int32))) ≤ p3 then (if p2 = 0 then some (2 : Int32) else bnd (gFR S 389 p0) (fun x11 => Option.bind x11 (fun a12 => gi (1 : Int32) (N a12) (bnd (gFR S 389 p0) (fun x13 => Option.bind x13 (fun a14 => gi (3 : Int32) (N a14) (Option.bind (F_X9_isAs N S p0 p1 (gAI S a12 (Int32.toNatClampNeg (1 : Int32))) (gAI S a14 (Int32.toNatClampNeg (3 : Int32)))) (fun v15 => (if v15 = 0 then some (3 : Int32) else bnd (gFR S 389 p0) (fun x17 => Option.bind x17 (fun a18 => gi (4 : Int32) (N a18) (bnd (gFR S 376 p0) (fun x19 => Option.bind x19 (fun a20 => gi (((6 : Int32) * p1) + (4 : Int32)) (N a20) ((if (gAI S a18 (Int32.toNatClampNeg (4 : Int32))) = (gAI S a20 (Int32.toNatClampNeg (((6 : Int32) * p1) + (4 : Int32)))) then bnd (gFR S 389 p0) (fun x21 => Option.bind x21 (fun a22 => gi (3 : Int32) (N a22) (bnd (gFR S 389 p0) (fun x23 => Option.bind x23 (fun a24 => gi (4 : Int32) (N a24) (Option.bind (F_X9_isAs N S p0 p1 (gAI S a22 (Int32.toNatClampNeg (3 : Int32))) (gAI S a24 (Int32.toNatClampNeg (4 : Int32)))) (fun v25 => (if v25 = 0 then some (4 : Int32) else bnd (gFR S 389 p0) (fun x27 => Option.bind x27 (fun a28 => gi (5 : Int32) (N a28) (bnd (gFR S 376 p0) (fun x29 => Option.bind x29 (fun a30 => gi (((6 : Int32) * p1) + (5 : Int32)) (N a30) ((if (gAI S a28 (Int32.toNatClampNeg (5 : Int32))) = (gAI S a30 (Int32.toNatClampNeg (((6 : Int32) * p1) + (5 : Int32)))) then bnd (gFR S 389 p0) (fun x31 => Option.bind x31 (fun a32 => gi (4 : Int32) (N a32) (bnd (gFR S 389 p0) (fun x33 => Option.bind x33 (fun a34 => gi (5 : Int32) (N a34) (Option.bind (F_X9_isAs N S p0 p1 (gAI S a32 (Int32.toNatClampNeg (4 : Int32))) (gAI S a34 (Int32.toNatClampNeg (5 : Int32)))) (fun v35 => (if v35 = 0 then B_X9_whyOf_218 N S  else some (0 : Int32))))))))) else B_X9_whyOf_218 N S ))))))))))))))) else some (4 : Int32))))))))))))))))) else (if p2 = 0 then B_X9_whyOf_100 N S rec p0 p1 p3 else Option.bind (F_X9_isAs N S p0 p1 p3 (p3 + (2 : Int32))) (fun v37 => (if v37 = 0 then B_X9_whyOf_100 N S rec p0 p1 p3 else B_X9_whyOf_101 N S rec p0 p1 p3 (1 : Int32))))))))
set_option maxHeartbeats 4000000 in
theorem jY_X9_whyOf_70 {X : jX} (C : jC X cX9_whyOf 4 RX9 rm_X9_whyOf) {Λ : sLay} {S : sSt} {r : Int32} (E : jE X (some .int) rI Λ (r, S)) (rec : Nat → Int32 → Int32 → Int32 → Option Int32) (hrec : ∀ (p0 : Nat) (tp0 : isK Λ 9 p0) (p1 : Int32) (p2 : Int32) (p3 : Int32), J X 4 0 0 70 [(0, vR (some p0)), (1, vI p1), (2, vI p2), (3, vI p3)] [] Λ S (rec p0 p1 p2 p3 = some r)) : ∀ (p0 : Nat) (tp0 : isK Λ 9 p0) (p1 : Int32) (p2 : Int32) (p3 : Int32), J X 4 0 0 70 [(0, vR (some p0)), (1, vI p1), (2, vI p2), (3, vI p3)] [] Λ S (Y_X9_whyOf_70 Λ.2.2 S rec p0 p1 p2 p3 = some r) := by
  intro p0 tp0 p1 p2 p3
  unfold Y_X9_whyOf_70
  refine j_iload_n C dX9_whyOf_70 3 rfl ?_
  refine j_aload_n C dX9_whyOf_71 0 rfl ?_
  refine j_getR C kK9 f389 kfX9_84 (by decide) rfl tp0 dX9_whyOf_72 (fun x9 tx9 => ?_)
  refine j_iconst C (v := (2 : Int32)) dX9_whyOf_75 (by decide) ?_
  refine j_oc tx9 (fun a10 ta10 ea10 => ?_)
  subst ea10
  refine j_iald C ta10 dX9_whyOf_76 ?_
  refine j_icmp_ge C (tgt := 108) dX9_whyOf_77 (by decide) ?_ ?_
  · refine j_iload_n C dX9_whyOf_108 2 rfl ?_
    refine j_if_ne C (tgt := 114) dX9_whyOf_109 (by decide) ?_ ?_
    · refine j_aload_n C dX9_whyOf_114 0 rfl ?_
      refine j_iload_n C dX9_whyOf_115 1 rfl ?_
      refine j_aload_n C dX9_whyOf_116 0 rfl ?_
      refine j_getR C kK9 f389 kfX9_84 (by decide) rfl tp0 dX9_whyOf_117 (fun x11 tx11 => ?_)
      refine j_iconst C (v := (1 : Int32)) dX9_whyOf_120 (by decide) ?_
      refine j_oc tx11 (fun a12 ta12 ea12 => ?_)
      subst ea12
      refine j_iald C ta12 dX9_whyOf_121 ?_
      refine j_aload_n C dX9_whyOf_122 0 rfl ?_
      refine j_getR C kK9 f389 kfX9_84 (by decide) rfl tp0 dX9_whyOf_123 (fun x13 tx13 => ?_)
      refine j_iconst C (v := (3 : Int32)) dX9_whyOf_126 (by decide) ?_
      refine j_oc tx13 (fun a14 ta14 ea14 => ?_)
      subst ea14
      refine j_iald C ta14 dX9_whyOf_127 ?_
      refine j_cVIP C [vI p1, vI (gAI S a12 (Int32.toNatClampNeg (1 : Int32))), vI (gAI S a14 (Int32.toNatClampNeg (3 : Int32)))] [] (fun _ e => c_X9_isAs p0 tp0 p1 (gAI S a12 (Int32.toNatClampNeg (1 : Int32))) (gAI S a14 (Int32.toNatClampNeg (3 : Int32))) e) kYX9_isAs kVX9_isAs kmX9_188 kO9 tp0 rfl rfl ⟨rfl, rfl, by decide, by decide⟩ (Nat.le_of_ble_eq_true rfl) ⟨Nat.zero_le _, Nat.zero_le _⟩ dX9_whyOf_128 (fun v15 => ?_)
      refine j_if_ne C (tgt := 136) dX9_whyOf_131 (by decide) ?_ ?_
      · refine j_aload_n C dX9_whyOf_136 0 rfl ?_
        refine j_getR C kK9 f389 kfX9_84 (by decide) rfl tp0 dX9_whyOf_137 (fun x17 tx17 => ?_)
        refine j_iconst C (v := (4 : Int32)) dX9_whyOf_140 (by decide) ?_
        refine j_oc tx17 (fun a18 ta18 ea18 => ?_)
        subst ea18
        refine j_iald C ta18 dX9_whyOf_141 ?_
        refine j_aload_n C dX9_whyOf_142 0 rfl ?_
        refine j_getR C kK9 f376 kfX9_54 (by decide) rfl tp0 dX9_whyOf_143 (fun x19 tx19 => ?_)
        refine j_bipush C (v := (6 : Int32)) dX9_whyOf_146 (by decide) ?_
        refine j_iload_n C dX9_whyOf_148 1 rfl ?_
        refine j_imul C dX9_whyOf_149 ?_
        refine j_iconst C (v := (4 : Int32)) dX9_whyOf_150 (by decide) ?_
        refine j_iadd C dX9_whyOf_151 ?_
        refine j_oc tx19 (fun a20 ta20 ea20 => ?_)
        subst ea20
        refine j_iald C ta20 dX9_whyOf_152 ?_
        refine j_icmp_ne C (tgt := 176) dX9_whyOf_153 (by decide) ?_ ?_
        · refine j_iconst C (v := (4 : Int32)) dX9_whyOf_176 (by decide) ?_
          exact j_iretP C E dX9_whyOf_177
        · refine j_aload_n C dX9_whyOf_156 0 rfl ?_
          refine j_iload_n C dX9_whyOf_157 1 rfl ?_
          refine j_aload_n C dX9_whyOf_158 0 rfl ?_
          refine j_getR C kK9 f389 kfX9_84 (by decide) rfl tp0 dX9_whyOf_159 (fun x21 tx21 => ?_)
          refine j_iconst C (v := (3 : Int32)) dX9_whyOf_162 (by decide) ?_
          refine j_oc tx21 (fun a22 ta22 ea22 => ?_)
          subst ea22
          refine j_iald C ta22 dX9_whyOf_163 ?_
          refine j_aload_n C dX9_whyOf_164 0 rfl ?_
          refine j_getR C kK9 f389 kfX9_84 (by decide) rfl tp0 dX9_whyOf_165 (fun x23 tx23 => ?_)
          refine j_iconst C (v := (4 : Int32)) dX9_whyOf_168 (by decide) ?_
          refine j_oc tx23 (fun a24 ta24 ea24 => ?_)
          subst ea24
          refine j_iald C ta24 dX9_whyOf_169 ?_
          refine j_cVIP C [vI p1, vI (gAI S a22 (Int32.toNatClampNeg (3 : Int32))), vI (gAI S a24 (Int32.toNatClampNeg (4 : Int32)))] [] (fun _ e => c_X9_isAs p0 tp0 p1 (gAI S a22 (Int32.toNatClampNeg (3 : Int32))) (gAI S a24 (Int32.toNatClampNeg (4 : Int32))) e) kYX9_isAs kVX9_isAs kmX9_188 kO9 tp0 rfl rfl ⟨rfl, rfl, by decide, by decide⟩ (Nat.le_of_ble_eq_true rfl) ⟨Nat.zero_le _, Nat.zero_le _⟩ dX9_whyOf_170 (fun v25 => ?_)
          refine j_if_ne C (tgt := 178) dX9_whyOf_173 (by decide) ?_ ?_
          · refine j_aload_n C dX9_whyOf_178 0 rfl ?_
            refine j_getR C kK9 f389 kfX9_84 (by decide) rfl tp0 dX9_whyOf_179 (fun x27 tx27 => ?_)
            refine j_iconst C (v := (5 : Int32)) dX9_whyOf_182 (by decide) ?_
            refine j_oc tx27 (fun a28 ta28 ea28 => ?_)
            subst ea28
            refine j_iald C ta28 dX9_whyOf_183 ?_
            refine j_aload_n C dX9_whyOf_184 0 rfl ?_
            refine j_getR C kK9 f376 kfX9_54 (by decide) rfl tp0 dX9_whyOf_185 (fun x29 tx29 => ?_)
            refine j_bipush C (v := (6 : Int32)) dX9_whyOf_188 (by decide) ?_
            refine j_iload_n C dX9_whyOf_190 1 rfl ?_
            refine j_imul C dX9_whyOf_191 ?_
            refine j_iconst C (v := (5 : Int32)) dX9_whyOf_192 (by decide) ?_
            refine j_iadd C dX9_whyOf_193 ?_
            refine j_oc tx29 (fun a30 ta30 ea30 => ?_)
            subst ea30
            refine j_iald C ta30 dX9_whyOf_194 ?_
            refine j_icmp_ne C (tgt := 218) dX9_whyOf_195 (by decide) ?_ ?_
            · refine j_sub (L' := []) [] rfl ?_
              exact jB_X9_whyOf_218 C E ()
            · refine j_aload_n C dX9_whyOf_198 0 rfl ?_
              refine j_iload_n C dX9_whyOf_199 1 rfl ?_
              refine j_aload_n C dX9_whyOf_200 0 rfl ?_
              refine j_getR C kK9 f389 kfX9_84 (by decide) rfl tp0 dX9_whyOf_201 (fun x31 tx31 => ?_)
              refine j_iconst C (v := (4 : Int32)) dX9_whyOf_204 (by decide) ?_
              refine j_oc tx31 (fun a32 ta32 ea32 => ?_)
              subst ea32
              refine j_iald C ta32 dX9_whyOf_205 ?_
              refine j_aload_n C dX9_whyOf_206 0 rfl ?_
              refine j_getR C kK9 f389 kfX9_84 (by decide) rfl tp0 dX9_whyOf_207 (fun x33 tx33 => ?_)
              refine j_iconst C (v := (5 : Int32)) dX9_whyOf_210 (by decide) ?_
              refine j_oc tx33 (fun a34 ta34 ea34 => ?_)
              subst ea34
              refine j_iald C ta34 dX9_whyOf_211 ?_
              refine j_cVIP C [vI p1, vI (gAI S a32 (Int32.toNatClampNeg (4 : Int32))), vI (gAI S a34 (Int32.toNatClampNeg (5 : Int32)))] [] (fun _ e => c_X9_isAs p0 tp0 p1 (gAI S a32 (Int32.toNatClampNeg (4 : Int32))) (gAI S a34 (Int32.toNatClampNeg (5 : Int32))) e) kYX9_isAs kVX9_isAs kmX9_188 kO9 tp0 rfl rfl ⟨rfl, rfl, by decide, by decide⟩ (Nat.le_of_ble_eq_true rfl) ⟨Nat.zero_le _, Nat.zero_le _⟩ dX9_whyOf_212 (fun v35 => ?_)
              refine j_if_ne C (tgt := 222) dX9_whyOf_215 (by decide) ?_ ?_
              · refine j_iconst C (v := (0 : Int32)) dX9_whyOf_222 (by decide) ?_
                exact j_iretP C E dX9_whyOf_223
              · refine j_sub (L' := []) [] rfl ?_
                exact jB_X9_whyOf_218 C E ()
          · refine j_iconst C (v := (4 : Int32)) dX9_whyOf_176 (by decide) ?_
            exact j_iretP C E dX9_whyOf_177
      · refine j_iconst C (v := (3 : Int32)) dX9_whyOf_134 (by decide) ?_
        exact j_iretP C E dX9_whyOf_135
    · refine j_iconst C (v := (2 : Int32)) dX9_whyOf_112 (by decide) ?_
      exact j_iretP C E dX9_whyOf_113
  · refine j_iload_n C dX9_whyOf_80 2 rfl ?_
    refine j_if_eq C (tgt := 100) dX9_whyOf_81 (by decide) ?_ ?_
    · refine j_sub (L' := [(0, vR (some p0)), (1, vI p1), (3, vI p3)]) [0, 1, 3] rfl ?_
      exact jB_X9_whyOf_100 C E rec hrec p0 tp0 p1 p3
    · refine j_aload_n C dX9_whyOf_84 0 rfl ?_
      refine j_iload_n C dX9_whyOf_85 1 rfl ?_
      refine j_iload_n C dX9_whyOf_86 3 rfl ?_
      refine j_iload_n C dX9_whyOf_87 3 rfl ?_
      refine j_iconst C (v := (2 : Int32)) dX9_whyOf_88 (by decide) ?_
      refine j_iadd C dX9_whyOf_89 ?_
      refine j_cVIP C [vI p1, vI p3, vI (p3 + (2 : Int32))] [] (fun _ e => c_X9_isAs p0 tp0 p1 p3 (p3 + (2 : Int32)) e) kYX9_isAs kVX9_isAs kmX9_188 kO9 tp0 rfl rfl ⟨rfl, rfl, by decide, by decide⟩ (Nat.le_of_ble_eq_true rfl) ⟨Nat.zero_le _, Nat.zero_le _⟩ dX9_whyOf_90 (fun v37 => ?_)
      refine j_if_eq C (tgt := 100) dX9_whyOf_93 (by decide) ?_ ?_
      · refine j_sub (L' := [(0, vR (some p0)), (1, vI p1), (3, vI p3)]) [0, 1, 3] rfl ?_
        exact jB_X9_whyOf_100 C E rec hrec p0 tp0 p1 p3
      · refine j_iconst C (v := (1 : Int32)) dX9_whyOf_96 (by decide) ?_
        refine j_goto C (tgt := 101) dX9_whyOf_97 (by decide) ?_
        refine j_sub (L' := [(0, vR (some p0)), (1, vI p1), (3, vI p3)]) [0, 1, 3] rfl ?_
        exact jB_X9_whyOf_101 C E rec hrec p0 tp0 p1 p3 (1 : Int32)
def L_X9_whyOf_70 (N : Nat → Nat) (S : sSt) (n : Nat) : Nat → Int32 → Int32 → Int32 → Option Int32 := iter (fun _ _ _ _ => none) (Y_X9_whyOf_70 N S) n
theorem jL_X9_whyOf_70 {X : jX} (C : jC X cX9_whyOf 4 RX9 rm_X9_whyOf) {Λ : sLay} {S : sSt} {r : Int32} (E : jE X (some .int) rI Λ (r, S)) : ∀ (n : Nat) (p0 : Nat) (tp0 : isK Λ 9 p0) (p1 : Int32) (p2 : Int32) (p3 : Int32), J X 4 0 0 70 [(0, vR (some p0)), (1, vI p1), (2, vI p2), (3, vI p3)] [] Λ S (L_X9_whyOf_70 Λ.2.2 S n p0 p1 p2 p3 = some r) := by
  intro n
  induction n with
  | zero => intro p0 tp0 p1 p2 p3; exact j_no (fun h => by have h2 : (none : Option Int32) = some r := h; cases h2)
  | succ n ih => intro p0 tp0 p1 p2 p3; exact jY_X9_whyOf_70 C E (L_X9_whyOf_70 Λ.2.2 S n) ih p0 tp0 p1 p2 p3
def Y_X9_whyOf_13 (N : Nat → Nat) (S : sSt) (rec : Nat → Int32 → Int32 → Option Int32) (p0 : Nat) (p1 : Int32) (p2 : Int32) : Option Int32 := (if (4 : Int32) ≤ p2 then bnd (gFR S 389 p0) (fun x3 => Option.bind x3 (fun a4 => gi (1 : Int32) (N a4) (Option.bind (F_X9_isAs N S p0 p1 (0 : Int32) ((gAI S a4 (Int32.toNatClampNeg (1 : Int32))) + (1 : Int32))) (fun v5 => bnd (gFR S 389 p0) (fun x7 => Option.bind x7 (fun a8 => gi (1 : Int32) (N a8) (L_X9_whyOf_70 N S FU p0 p1 v5 ((gAI S a8 (Int32.toNatClampNeg (1 : Int32))) + (1 : Int32))))))))) else bnd (gFR S 389 p0) (fun x39 => Option.bind x39 (fun a40 => gi p2 (N a40) (bnd (gFR S 376 p0) (fun x41 => Option.bind x41 (fun a42 => gi (((6 : Int32) * p1) + p2) (N a42) ((if (gAI S a40 (Int32.toNatClampNeg p2)) = (gAI S a42 (Int32.toNatClampNeg (((6 : Int32) * p1) + p2))) then rec p0 p1 (p2 + (1 : Int32)) else some (2 : Int32)))))))))
set_option maxHeartbeats 4000000 in
theorem jY_X9_whyOf_13 {X : jX} (C : jC X cX9_whyOf 4 RX9 rm_X9_whyOf) {Λ : sLay} {S : sSt} {r : Int32} (E : jE X (some .int) rI Λ (r, S)) (rec : Nat → Int32 → Int32 → Option Int32) (hrec : ∀ (p0 : Nat) (tp0 : isK Λ 9 p0) (p1 : Int32) (p2 : Int32), J X 4 0 0 13 [(0, vR (some p0)), (1, vI p1), (2, vI p2)] [] Λ S (rec p0 p1 p2 = some r)) : ∀ (p0 : Nat) (tp0 : isK Λ 9 p0) (p1 : Int32) (p2 : Int32), J X 4 0 0 13 [(0, vR (some p0)), (1, vI p1), (2, vI p2)] [] Λ S (Y_X9_whyOf_13 Λ.2.2 S rec p0 p1 p2 = some r) := by
  intro p0 tp0 p1 p2
  unfold Y_X9_whyOf_13
  refine j_iload_n C dX9_whyOf_13 2 rfl ?_
  refine j_iconst C (v := (4 : Int32)) dX9_whyOf_14 (by decide) ?_
  refine j_icmp_ge C (tgt := 46) dX9_whyOf_15 (by decide) ?_ ?_
  · refine j_aload_n C dX9_whyOf_46 0 rfl ?_
    refine j_iload_n C dX9_whyOf_47 1 rfl ?_
    refine j_iconst C (v := (0 : Int32)) dX9_whyOf_48 (by decide) ?_
    refine j_aload_n C dX9_whyOf_49 0 rfl ?_
    refine j_getR C kK9 f389 kfX9_84 (by decide) rfl tp0 dX9_whyOf_50 (fun x3 tx3 => ?_)
    refine j_iconst C (v := (1 : Int32)) dX9_whyOf_53 (by decide) ?_
    refine j_oc tx3 (fun a4 ta4 ea4 => ?_)
    subst ea4
    refine j_iald C ta4 dX9_whyOf_54 ?_
    refine j_iconst C (v := (1 : Int32)) dX9_whyOf_55 (by decide) ?_
    refine j_iadd C dX9_whyOf_56 ?_
    refine j_cVIP C [vI p1, vI (0 : Int32), vI ((gAI S a4 (Int32.toNatClampNeg (1 : Int32))) + (1 : Int32))] [] (fun _ e => c_X9_isAs p0 tp0 p1 (0 : Int32) ((gAI S a4 (Int32.toNatClampNeg (1 : Int32))) + (1 : Int32)) e) kYX9_isAs kVX9_isAs kmX9_188 kO9 tp0 rfl rfl ⟨rfl, rfl, by decide, by decide⟩ (Nat.le_of_ble_eq_true rfl) ⟨Nat.zero_le _, Nat.zero_le _⟩ dX9_whyOf_57 (fun v5 => ?_)
    refine j_istore_n C (L' := [(2, vI v5), (0, vR (some p0)), (1, vI p1)]) dX9_whyOf_60 (by decide) rfl ?_
    refine j_aload_n C dX9_whyOf_61 1 rfl ?_
    refine j_getR C kK9 f389 kfX9_84 (by decide) rfl tp0 dX9_whyOf_62 (fun x7 tx7 => ?_)
    refine j_iconst C (v := (1 : Int32)) dX9_whyOf_65 (by decide) ?_
    refine j_oc tx7 (fun a8 ta8 ea8 => ?_)
    subst ea8
    refine j_iald C ta8 dX9_whyOf_66 ?_
    refine j_iconst C (v := (1 : Int32)) dX9_whyOf_67 (by decide) ?_
    refine j_iadd C dX9_whyOf_68 ?_
    refine j_istore_n C (L' := [(3, vI ((gAI S a8 (Int32.toNatClampNeg (1 : Int32))) + (1 : Int32))), (2, vI v5), (0, vR (some p0)), (1, vI p1)]) dX9_whyOf_69 (by decide) rfl ?_
    refine j_sub (L' := [(0, vR (some p0)), (1, vI p1), (2, vI v5), (3, vI ((gAI S a8 (Int32.toNatClampNeg (1 : Int32))) + (1 : Int32)))]) [2, 3, 1, 0] rfl ?_
    exact jL_X9_whyOf_70 C E FU p0 tp0 p1 v5 ((gAI S a8 (Int32.toNatClampNeg (1 : Int32))) + (1 : Int32))
  · refine j_aload_n C dX9_whyOf_18 0 rfl ?_
    refine j_getR C kK9 f389 kfX9_84 (by decide) rfl tp0 dX9_whyOf_19 (fun x39 tx39 => ?_)
    refine j_iload_n C dX9_whyOf_22 2 rfl ?_
    refine j_oc tx39 (fun a40 ta40 ea40 => ?_)
    subst ea40
    refine j_iald C ta40 dX9_whyOf_23 ?_
    refine j_aload_n C dX9_whyOf_24 0 rfl ?_
    refine j_getR C kK9 f376 kfX9_54 (by decide) rfl tp0 dX9_whyOf_25 (fun x41 tx41 => ?_)
    refine j_bipush C (v := (6 : Int32)) dX9_whyOf_28 (by decide) ?_
    refine j_iload_n C dX9_whyOf_30 1 rfl ?_
    refine j_imul C dX9_whyOf_31 ?_
    refine j_iload_n C dX9_whyOf_32 2 rfl ?_
    refine j_iadd C dX9_whyOf_33 ?_
    refine j_oc tx41 (fun a42 ta42 ea42 => ?_)
    subst ea42
    refine j_iald C ta42 dX9_whyOf_34 ?_
    refine j_icmp_eq C (tgt := 40) dX9_whyOf_35 (by decide) ?_ ?_
    · refine j_iinc C (v := (1 : Int32)) (L' := [(2, vI (p2 + (1 : Int32))), (0, vR (some p0)), (1, vI p1)]) dX9_whyOf_40 2 rfl (by decide) (by decide) rfl ?_
      refine j_goto C (tgt := 13) dX9_whyOf_43 (by decide) ?_
      refine j_sub (L' := [(0, vR (some p0)), (1, vI p1), (2, vI (p2 + (1 : Int32)))]) [1, 2, 0] rfl ?_
      exact hrec p0 tp0 p1 (p2 + (1 : Int32))
    · refine j_iconst C (v := (2 : Int32)) dX9_whyOf_38 (by decide) ?_
      exact j_iretP C E dX9_whyOf_39
def L_X9_whyOf_13 (N : Nat → Nat) (S : sSt) (n : Nat) : Nat → Int32 → Int32 → Option Int32 := iter (fun _ _ _ => none) (Y_X9_whyOf_13 N S) n
theorem jL_X9_whyOf_13 {X : jX} (C : jC X cX9_whyOf 4 RX9 rm_X9_whyOf) {Λ : sLay} {S : sSt} {r : Int32} (E : jE X (some .int) rI Λ (r, S)) : ∀ (n : Nat) (p0 : Nat) (tp0 : isK Λ 9 p0) (p1 : Int32) (p2 : Int32), J X 4 0 0 13 [(0, vR (some p0)), (1, vI p1), (2, vI p2)] [] Λ S (L_X9_whyOf_13 Λ.2.2 S n p0 p1 p2 = some r) := by
  intro n
  induction n with
  | zero => intro p0 tp0 p1 p2; exact j_no (fun h => by have h2 : (none : Option Int32) = some r := h; cases h2)
  | succ n ih => intro p0 tp0 p1 p2; exact jY_X9_whyOf_13 C E (L_X9_whyOf_13 Λ.2.2 S n) ih p0 tp0 p1 p2
def F_X9_whyOf (N : Nat → Nat) (S : sSt) (p0 : Nat) (p1 : Int32) : Option Int32 := bnd (gFR S 377 p0) (fun x1 => Option.bind x1 (fun a2 => gi p1 (N a2) ((if (gAI S a2 (Int32.toNatClampNeg p1)) = 0 then some (1 : Int32) else L_X9_whyOf_13 N S FU p0 p1 (0 : Int32)))))
set_option maxHeartbeats 4000000 in
theorem jF_X9_whyOf {X : jX} (C : jC X cX9_whyOf 4 RX9 rm_X9_whyOf) {Λ : sLay} {S : sSt} {r : Int32} (E : jE X (some .int) rI Λ (r, S)) (p0 : Nat) (tp0 : isK Λ 9 p0) (p1 : Int32) : J X 4 0 0 0 [(0, vR (some p0)), (1, vI p1)] [] Λ S (F_X9_whyOf Λ.2.2 S p0 p1 = some r) := by
  unfold F_X9_whyOf
  refine j_aload_n C dX9_whyOf_0 0 rfl ?_
  refine j_getR C kK9 f377 kfX9_57 (by decide) rfl tp0 dX9_whyOf_1 (fun x1 tx1 => ?_)
  refine j_iload_n C dX9_whyOf_4 1 rfl ?_
  refine j_oc tx1 (fun a2 ta2 ea2 => ?_)
  subst ea2
  refine j_iald C ta2 dX9_whyOf_5 ?_
  refine j_if_ne C (tgt := 11) dX9_whyOf_6 (by decide) ?_ ?_
  · refine j_iconst C (v := (0 : Int32)) dX9_whyOf_11 (by decide) ?_
    refine j_istore_n C (L' := [(2, vI (0 : Int32)), (0, vR (some p0)), (1, vI p1)]) dX9_whyOf_12 (by decide) rfl ?_
    refine j_sub (L' := [(0, vR (some p0)), (1, vI p1), (2, vI (0 : Int32))]) [1, 2, 0] rfl ?_
    exact jL_X9_whyOf_13 C E FU p0 tp0 p1 (0 : Int32)
  · refine j_iconst C (v := (1 : Int32)) dX9_whyOf_9 (by decide) ?_
    exact j_iretP C E dX9_whyOf_10
theorem c_X9_whyOf {l : Launch} {D : va_G} {cy : Nat → ClassId} {Λ : sLay} {S : sSt} (p0 : Nat) (tp0 : isK Λ 9 p0) (p1 : Int32) {r : Int32} (h : F_X9_whyOf Λ.2.2 S p0 p1 = some r) : jM l yX9_whyOf (Cond.code yX9_whyOf cX9_whyOf 4 (some .int) :: bigW) rm_X9_whyOf D cy Λ S [vR (some p0), vI p1] rI (r, S) := jM_of (by decide +kernel) (Nat.le_of_ble_eq_true rfl) (fun X C E _ _ _ => j_sub [0, 1] rfl (jF_X9_whyOf C E p0 tp0 p1)) h
/-! RemakeNeeds2Model.coarse()I -/
abbrev rm_X9_coarse : Room := { frames := 4, cells := 0, slots := 0, locals := 94 }
def B_X9_coarse_157 (N : Nat → Nat) (k70 : sSt → Nat → Int32 → Int32 → Option (Int32 × sSt)) (S : sSt) (p0 : Nat) (p2 : Int32) (s0 : Int32) (s1 : Int32) : Option (Int32 × sSt) := k70 S p0 (s1 + s0) (p2 + (1 : Int32))
set_option maxHeartbeats 4000000 in
theorem jB_X9_coarse_157 {X : jX} (C : jC X cX9_coarse 5 RX9 rm_X9_coarse) {Λ : sLay} {r : (Int32 × sSt)} (E : jE X (some .int) rI Λ r) (k70 : sSt → Nat → Int32 → Int32 → Option (Int32 × sSt)) (hk70 : ∀ (S : sSt) (p0 : Nat) (tp0 : isK Λ 9 p0) (p1 : Int32) (p2 : Int32), J X 5 0 0 70 [(0, vR (some p0)), (1, vI p1), (2, vI p2)] [] Λ S (k70 S p0 p1 p2 = some r)) : ∀ (S : sSt) (p0 : Nat) (tp0 : isK Λ 9 p0) (p2 : Int32) (s0 : Int32) (s1 : Int32), J X 5 0 0 157 [(0, vR (some p0)), (2, vI p2)] [vI s0, vI s1] Λ S (B_X9_coarse_157 Λ.2.2 k70 S p0 p2 s0 s1 = some r) := by
  intro S p0 tp0 p2 s0 s1
  unfold B_X9_coarse_157
  refine j_iadd C dX9_coarse_157 ?_
  refine j_istore_n C (L' := [(1, vI (s1 + s0)), (0, vR (some p0)), (2, vI p2)]) dX9_coarse_158 (by decide) rfl ?_
  refine j_iinc C (v := (1 : Int32)) (L' := [(2, vI (p2 + (1 : Int32))), (1, vI (s1 + s0)), (0, vR (some p0))]) dX9_coarse_159 2 rfl (by decide) (by decide) rfl ?_
  refine j_goto C (tgt := 70) dX9_coarse_162 (by decide) ?_
  refine j_sub (L' := [(0, vR (some p0)), (1, vI (s1 + s0)), (2, vI (p2 + (1 : Int32)))]) [2, 1, 0] rfl ?_
  exact hk70 S p0 tp0 (s1 + s0) (p2 + (1 : Int32))
def B_X9_coarse_140 (N : Nat → Nat) (k70 : sSt → Nat → Int32 → Int32 → Option (Int32 × sSt)) (k88 : sSt → Nat → Int32 → Int32 → Int32 → Int32 → Option (Int32 × sSt)) (S : sSt) (p0 : Nat) (p1 : Int32) (p2 : Int32) (p4 : Int32) (s0 : Int32) : Option (Int32 × sSt) := k88 S p0 p1 p2 s0 (p4 + (1 : Int32))
set_option maxHeartbeats 4000000 in
theorem jB_X9_coarse_140 {X : jX} (C : jC X cX9_coarse 5 RX9 rm_X9_coarse) {Λ : sLay} {r : (Int32 × sSt)} (E : jE X (some .int) rI Λ r) (k70 : sSt → Nat → Int32 → Int32 → Option (Int32 × sSt)) (hk70 : ∀ (S : sSt) (p0 : Nat) (tp0 : isK Λ 9 p0) (p1 : Int32) (p2 : Int32), J X 5 0 0 70 [(0, vR (some p0)), (1, vI p1), (2, vI p2)] [] Λ S (k70 S p0 p1 p2 = some r)) (k88 : sSt → Nat → Int32 → Int32 → Int32 → Int32 → Option (Int32 × sSt)) (hk88 : ∀ (S : sSt) (p0 : Nat) (tp0 : isK Λ 9 p0) (p1 : Int32) (p2 : Int32) (p3 : Int32) (p4 : Int32), J X 5 0 0 88 [(0, vR (some p0)), (1, vI p1), (2, vI p2), (3, vI p3), (4, vI p4)] [] Λ S (k88 S p0 p1 p2 p3 p4 = some r)) : ∀ (S : sSt) (p0 : Nat) (tp0 : isK Λ 9 p0) (p1 : Int32) (p2 : Int32) (p4 : Int32) (s0 : Int32), J X 5 0 0 140 [(0, vR (some p0)), (1, vI p1), (2, vI p2), (4, vI p4)] [vI s0] Λ S (B_X9_coarse_140 Λ.2.2 k70 k88 S p0 p1 p2 p4 s0 = some r) := by
  intro S p0 tp0 p1 p2 p4 s0
  unfold B_X9_coarse_140
  refine j_istore_n C (L' := [(3, vI s0), (0, vR (some p0)), (1, vI p1), (2, vI p2), (4, vI p4)]) dX9_coarse_140 (by decide) rfl ?_
  refine j_iinc C (v := (1 : Int32)) (L' := [(4, vI (p4 + (1 : Int32))), (3, vI s0), (0, vR (some p0)), (1, vI p1), (2, vI p2)]) dX9_coarse_141 4 rfl (by decide) (by decide) rfl ?_
  refine j_goto C (tgt := 88) dX9_coarse_144 (by decide) ?_
  refine j_sub (L' := [(0, vR (some p0)), (1, vI p1), (2, vI p2), (3, vI s0), (4, vI (p4 + (1 : Int32)))]) [2, 3, 4, 1, 0] rfl ?_
  exact hk88 S p0 tp0 p1 p2 s0 (p4 + (1 : Int32))
def B_X9_coarse_135 (N : Nat → Nat) (k70 : sSt → Nat → Int32 → Int32 → Option (Int32 × sSt)) (k88 : sSt → Nat → Int32 → Int32 → Int32 → Int32 → Option (Int32 × sSt)) (S : sSt) (p0 : Nat) (p1 : Int32) (p2 : Int32) (p4 : Int32) : Option (Int32 × sSt) := B_X9_coarse_140 N k70 k88 S p0 p1 p2 p4 (1 : Int32)
set_option maxHeartbeats 4000000 in
theorem jB_X9_coarse_135 {X : jX} (C : jC X cX9_coarse 5 RX9 rm_X9_coarse) {Λ : sLay} {r : (Int32 × sSt)} (E : jE X (some .int) rI Λ r) (k70 : sSt → Nat → Int32 → Int32 → Option (Int32 × sSt)) (hk70 : ∀ (S : sSt) (p0 : Nat) (tp0 : isK Λ 9 p0) (p1 : Int32) (p2 : Int32), J X 5 0 0 70 [(0, vR (some p0)), (1, vI p1), (2, vI p2)] [] Λ S (k70 S p0 p1 p2 = some r)) (k88 : sSt → Nat → Int32 → Int32 → Int32 → Int32 → Option (Int32 × sSt)) (hk88 : ∀ (S : sSt) (p0 : Nat) (tp0 : isK Λ 9 p0) (p1 : Int32) (p2 : Int32) (p3 : Int32) (p4 : Int32), J X 5 0 0 88 [(0, vR (some p0)), (1, vI p1), (2, vI p2), (3, vI p3), (4, vI p4)] [] Λ S (k88 S p0 p1 p2 p3 p4 = some r)) : ∀ (S : sSt) (p0 : Nat) (tp0 : isK Λ 9 p0) (p1 : Int32) (p2 : Int32) (p4 : Int32), J X 5 0 0 135 [(0, vR (some p0)), (1, vI p1), (2, vI p2), (4, vI p4)] [] Λ S (B_X9_coarse_135 Λ.2.2 k70 k88 S p0 p1 p2 p4 = some r) := by
  intro S p0 tp0 p1 p2 p4
  unfold B_X9_coarse_135
  refine j_iconst C (v := (1 : Int32)) dX9_coarse_135 (by decide) ?_
  refine j_goto C (tgt := 140) dX9_coarse_136 (by decide) ?_
  exact jB_X9_coarse_140 C E k70 hk70 k88 hk88 S p0 tp0 p1 p2 p4 (1 : Int32)
def B_X9_coarse_139 (N : Nat → Nat) (k70 : sSt → Nat → Int32 → Int32 → Option (Int32 × sSt)) (k88 : sSt → Nat → Int32 → Int32 → Int32 → Int32 → Option (Int32 × sSt)) (S : sSt) (p0 : Nat) (p1 : Int32) (p2 : Int32) (p4 : Int32) : Option (Int32 × sSt) := B_X9_coarse_140 N k70 k88 S p0 p1 p2 p4 (0 : Int32)
set_option maxHeartbeats 4000000 in
theorem jB_X9_coarse_139 {X : jX} (C : jC X cX9_coarse 5 RX9 rm_X9_coarse) {Λ : sLay} {r : (Int32 × sSt)} (E : jE X (some .int) rI Λ r) (k70 : sSt → Nat → Int32 → Int32 → Option (Int32 × sSt)) (hk70 : ∀ (S : sSt) (p0 : Nat) (tp0 : isK Λ 9 p0) (p1 : Int32) (p2 : Int32), J X 5 0 0 70 [(0, vR (some p0)), (1, vI p1), (2, vI p2)] [] Λ S (k70 S p0 p1 p2 = some r)) (k88 : sSt → Nat → Int32 → Int32 → Int32 → Int32 → Option (Int32 × sSt)) (hk88 : ∀ (S : sSt) (p0 : Nat) (tp0 : isK Λ 9 p0) (p1 : Int32) (p2 : Int32) (p3 : Int32) (p4 : Int32), J X 5 0 0 88 [(0, vR (some p0)), (1, vI p1), (2, vI p2), (3, vI p3), (4, vI p4)] [] Λ S (k88 S p0 p1 p2 p3 p4 = some r)) : ∀ (S : sSt) (p0 : Nat) (tp0 : isK Λ 9 p0) (p1 : Int32) (p2 : Int32) (p4 : Int32), J X 5 0 0 139 [(0, vR (some p0)), (1, vI p1), (2, vI p2), (4, vI p4)] [] Λ S (B_X9_coarse_139 Λ.2.2 k70 k88 S p0 p1 p2 p4 = some r) := by
  intro S p0 tp0 p1 p2 p4
  unfold B_X9_coarse_139
  refine j_iconst C (v := (0 : Int32)) dX9_coarse_139 (by decide) ?_
  exact jB_X9_coarse_140 C E k70 hk70 k88 hk88 S p0 tp0 p1 p2 p4 (0 : Int32)
def Y_X9_coarse_88 (N : Nat → Nat) (k70 : sSt → Nat → Int32 → Int32 → Option (Int32 × sSt)) (rec : sSt → Nat → Int32 → Int32 → Int32 → Int32 → Option (Int32 × sSt)) (S : sSt) (p0 : Nat) (p1 : Int32) (p2 : Int32) (p3 : Int32) (p4 : Int32) : Option (Int32 × sSt) := (if (gFI S 361 p0) ≤ p4 then (if p3 = 0 then B_X9_coarse_157 N k70 S p0 p2 (0 : Int32) p1 else B_X9_coarse_157 N k70 S p0 p2 (1 : Int32) p1) else (if p3 = 0 then bnd (gFR S 362 p0) (fun x8 => Option.bind x8 (fun a9 => gi p2 (N a9) ((if (gAI S a9 (Int32.toNatClampNeg p2)) = 0 then B_X9_coarse_139 N k70 rec S p0 p1 p2 p4 else bnd (gFR S 395 p0) (fun x10 => Option.bind x10 (fun a11 => gi p4 (N a11) ((if (gAI S a11 (Int32.toNatClampNeg p4)) = 0 then B_X9_coarse_139 N k70 rec S p0 p1 p2 p4 else bnd (gFR S 390 p0) (fun x12 => Option.bind x12 (fun a13 => gi (((16 : Int32) * p2) + p4) (N a13) ((if (gAI S a13 (Int32.toNatClampNeg (((16 : Int32) * p2) + p4))) = 0 then B_X9_coarse_139 N k70 rec S p0 p1 p2 p4 else B_X9_coarse_135 N k70 rec S p0 p1 p2 p4)))))))))))) else B_X9_coarse_135 N k70 rec S p0 p1 p2 p4))
set_option maxHeartbeats 4000000 in
theorem jY_X9_coarse_88 {X : jX} (C : jC X cX9_coarse 5 RX9 rm_X9_coarse) {Λ : sLay} {r : (Int32 × sSt)} (E : jE X (some .int) rI Λ r) (k70 : sSt → Nat → Int32 → Int32 → Option (Int32 × sSt)) (hk70 : ∀ (S : sSt) (p0 : Nat) (tp0 : isK Λ 9 p0) (p1 : Int32) (p2 : Int32), J X 5 0 0 70 [(0, vR (some p0)), (1, vI p1), (2, vI p2)] [] Λ S (k70 S p0 p1 p2 = some r)) (rec : sSt → Nat → Int32 → Int32 → Int32 → Int32 → Option (Int32 × sSt)) (hrec : ∀ (S : sSt) (p0 : Nat) (tp0 : isK Λ 9 p0) (p1 : Int32) (p2 : Int32) (p3 : Int32) (p4 : Int32), J X 5 0 0 88 [(0, vR (some p0)), (1, vI p1), (2, vI p2), (3, vI p3), (4, vI p4)] [] Λ S (rec S p0 p1 p2 p3 p4 = some r)) : ∀ (S : sSt) (p0 : Nat) (tp0 : isK Λ 9 p0) (p1 : Int32) (p2 : Int32) (p3 : Int32) (p4 : Int32), J X 5 0 0 88 [(0, vR (some p0)), (1, vI p1), (2, vI p2), (3, vI p3), (4, vI p4)] [] Λ S (Y_X9_coarse_88 Λ.2.2 k70 rec S p0 p1 p2 p3 p4 = some r) := by
  intro S p0 tp0 p1 p2 p3 p4
  unfold Y_X9_coarse_88
  refine j_iload C dX9_coarse_88 4 rfl ?_
  refine j_aload_n C dX9_coarse_90 0 rfl ?_
  refine j_getI C kK9 f361 kfX9_103 (by decide) tp0 dX9_coarse_91 ?_
  refine j_icmp_ge C (tgt := 147) dX9_coarse_94 (by decide) ?_ ?_
  · refine j_iload_n C dX9_coarse_147 1 rfl ?_
    refine j_iload_n C dX9_coarse_148 3 rfl ?_
    refine j_if_eq C (tgt := 156) dX9_coarse_149 (by decide) ?_ ?_
    · refine j_iconst C (v := (0 : Int32)) dX9_coarse_156 (by decide) ?_
      refine j_sub (L' := [(0, vR (some p0)), (2, vI p2)]) [0, 2] rfl ?_
      exact jB_X9_coarse_157 C E k70 hk70 S p0 tp0 p2 (0 : Int32) p1
    · refine j_iconst C (v := (1 : Int32)) dX9_coarse_152 (by decide) ?_
      refine j_goto C (tgt := 157) dX9_coarse_153 (by decide) ?_
      refine j_sub (L' := [(0, vR (some p0)), (2, vI p2)]) [0, 2] rfl ?_
      exact jB_X9_coarse_157 C E k70 hk70 S p0 tp0 p2 (1 : Int32) p1
  · refine j_iload_n C dX9_coarse_97 3 rfl ?_
    refine j_if_ne C (tgt := 135) dX9_coarse_98 (by decide) ?_ ?_
    · refine j_sub (L' := [(0, vR (some p0)), (1, vI p1), (2, vI p2), (4, vI p4)]) [0, 1, 2, 4] rfl ?_
      exact jB_X9_coarse_135 C E k70 hk70 rec hrec S p0 tp0 p1 p2 p4
    · refine j_aload_n C dX9_coarse_101 0 rfl ?_
      refine j_getR C kK9 f362 kfX9_7 (by decide) rfl tp0 dX9_coarse_102 (fun x8 tx8 => ?_)
      refine j_iload_n C dX9_coarse_105 2 rfl ?_
      refine j_oc tx8 (fun a9 ta9 ea9 => ?_)
      subst ea9
      refine j_zald C ta9 dX9_coarse_106 ?_
      refine j_if_eq C (tgt := 139) dX9_coarse_107 (by decide) ?_ ?_
      · refine j_sub (L' := [(0, vR (some p0)), (1, vI p1), (2, vI p2), (4, vI p4)]) [0, 1, 2, 4] rfl ?_
        exact jB_X9_coarse_139 C E k70 hk70 rec hrec S p0 tp0 p1 p2 p4
      · refine j_aload_n C dX9_coarse_110 0 rfl ?_
        refine j_getR C kK9 f395 kfX9_96 (by decide) rfl tp0 dX9_coarse_111 (fun x10 tx10 => ?_)
        refine j_iload C dX9_coarse_114 4 rfl ?_
        refine j_oc tx10 (fun a11 ta11 ea11 => ?_)
        subst ea11
        refine j_zald C ta11 dX9_coarse_116 ?_
        refine j_if_eq C (tgt := 139) dX9_coarse_117 (by decide) ?_ ?_
        · refine j_sub (L' := [(0, vR (some p0)), (1, vI p1), (2, vI p2), (4, vI p4)]) [0, 1, 2, 4] rfl ?_
          exact jB_X9_coarse_139 C E k70 hk70 rec hrec S p0 tp0 p1 p2 p4
        · refine j_aload_n C dX9_coarse_120 0 rfl ?_
          refine j_getR C kK9 f390 kfX9_87 (by decide) rfl tp0 dX9_coarse_121 (fun x12 tx12 => ?_)
          refine j_bipush C (v := (16 : Int32)) dX9_coarse_124 (by decide) ?_
          refine j_iload_n C dX9_coarse_126 2 rfl ?_
          refine j_imul C dX9_coarse_127 ?_
          refine j_iload C dX9_coarse_128 4 rfl ?_
          refine j_iadd C dX9_coarse_130 ?_
          refine j_oc tx12 (fun a13 ta13 ea13 => ?_)
          subst ea13
          refine j_zald C ta13 dX9_coarse_131 ?_
          refine j_if_eq C (tgt := 139) dX9_coarse_132 (by decide) ?_ ?_
          · refine j_sub (L' := [(0, vR (some p0)), (1, vI p1), (2, vI p2), (4, vI p4)]) [0, 1, 2, 4] rfl ?_
            exact jB_X9_coarse_139 C E k70 hk70 rec hrec S p0 tp0 p1 p2 p4
          · refine j_sub (L' := [(0, vR (some p0)), (1, vI p1), (2, vI p2), (4, vI p4)]) [0, 1, 2, 4] rfl ?_
            exact jB_X9_coarse_135 C E k70 hk70 rec hrec S p0 tp0 p1 p2 p4
def L_X9_coarse_88 (N : Nat → Nat) (k70 : sSt → Nat → Int32 → Int32 → Option (Int32 × sSt)) (n : Nat) : sSt → Nat → Int32 → Int32 → Int32 → Int32 → Option (Int32 × sSt) := iter (fun _ _ _ _ _ _ => none) (Y_X9_coarse_88 N k70) n
theorem jL_X9_coarse_88 {X : jX} (C : jC X cX9_coarse 5 RX9 rm_X9_coarse) {Λ : sLay} {r : (Int32 × sSt)} (E : jE X (some .int) rI Λ r) (k70 : sSt → Nat → Int32 → Int32 → Option (Int32 × sSt)) (hk70 : ∀ (S : sSt) (p0 : Nat) (tp0 : isK Λ 9 p0) (p1 : Int32) (p2 : Int32), J X 5 0 0 70 [(0, vR (some p0)), (1, vI p1), (2, vI p2)] [] Λ S (k70 S p0 p1 p2 = some r)) : ∀ (n : Nat) (S : sSt) (p0 : Nat) (tp0 : isK Λ 9 p0) (p1 : Int32) (p2 : Int32) (p3 : Int32) (p4 : Int32), J X 5 0 0 88 [(0, vR (some p0)), (1, vI p1), (2, vI p2), (3, vI p3), (4, vI p4)] [] Λ S (L_X9_coarse_88 Λ.2.2 k70 n S p0 p1 p2 p3 p4 = some r) := by
  intro n
  induction n with
  | zero => intro S p0 tp0 p1 p2 p3 p4; exact j_no (fun h => by have h2 : (none : Option (Int32 × sSt)) = some r := h; cases h2)
  | succ n ih => intro S p0 tp0 p1 p2 p3 p4; exact jY_X9_coarse_88 C E k70 hk70 (L_X9_coarse_88 Λ.2.2 k70 n) ih S p0 tp0 p1 p2 p3 p4
def Y_X9_coarse_70 (N : Nat → Nat) (rec : sSt → Nat → Int32 → Int32 → Option (Int32 × sSt)) (S : sSt) (p0 : Nat) (p1 : Int32) (p2 : Int32) : Option (Int32 × sSt) := (if (gFI S 361 p0) ≤ p2 then some (p1, S) else bnd (gFR S 395 p0) (fun x6 => Option.bind x6 (fun a7 => gi p2 (N a7) (L_X9_coarse_88 N rec FU S p0 p1 p2 (gAI S a7 (Int32.toNatClampNeg p2)) (0 : Int32)))))
set_option maxHeartbeats 4000000 in
theorem jY_X9_coarse_70 {X : jX} (C : jC X cX9_coarse 5 RX9 rm_X9_coarse) {Λ : sLay} {r : (Int32 × sSt)} (E : jE X (some .int) rI Λ r) (rec : sSt → Nat → Int32 → Int32 → Option (Int32 × sSt)) (hrec : ∀ (S : sSt) (p0 : Nat) (tp0 : isK Λ 9 p0) (p1 : Int32) (p2 : Int32), J X 5 0 0 70 [(0, vR (some p0)), (1, vI p1), (2, vI p2)] [] Λ S (rec S p0 p1 p2 = some r)) : ∀ (S : sSt) (p0 : Nat) (tp0 : isK Λ 9 p0) (p1 : Int32) (p2 : Int32), J X 5 0 0 70 [(0, vR (some p0)), (1, vI p1), (2, vI p2)] [] Λ S (Y_X9_coarse_70 Λ.2.2 rec S p0 p1 p2 = some r) := by
  intro S p0 tp0 p1 p2
  unfold Y_X9_coarse_70
  refine j_iload_n C dX9_coarse_70 2 rfl ?_
  refine j_aload_n C dX9_coarse_71 0 rfl ?_
  refine j_getI C kK9 f361 kfX9_103 (by decide) tp0 dX9_coarse_72 ?_
  refine j_icmp_ge C (tgt := 165) dX9_coarse_75 (by decide) ?_ ?_
  · refine j_iload_n C dX9_coarse_165 1 rfl ?_
    exact j_iret C E dX9_coarse_166
  · refine j_aload_n C dX9_coarse_78 0 rfl ?_
    refine j_getR C kK9 f395 kfX9_96 (by decide) rfl tp0 dX9_coarse_79 (fun x6 tx6 => ?_)
    refine j_iload_n C dX9_coarse_82 2 rfl ?_
    refine j_oc tx6 (fun a7 ta7 ea7 => ?_)
    subst ea7
    refine j_zald C ta7 dX9_coarse_83 ?_
    refine j_istore_n C (L' := [(3, vI (gAI S a7 (Int32.toNatClampNeg p2))), (0, vR (some p0)), (1, vI p1), (2, vI p2)]) dX9_coarse_84 (by decide) rfl ?_
    refine j_iconst C (v := (0 : Int32)) dX9_coarse_85 (by decide) ?_
    refine j_istore C (L' := [(4, vI (0 : Int32)), (3, vI (gAI S a7 (Int32.toNatClampNeg p2))), (0, vR (some p0)), (1, vI p1), (2, vI p2)]) dX9_coarse_86 (by decide) rfl ?_
    refine j_sub (L' := [(0, vR (some p0)), (1, vI p1), (2, vI p2), (3, vI (gAI S a7 (Int32.toNatClampNeg p2))), (4, vI (0 : Int32))]) [2, 3, 4, 1, 0] rfl ?_
    exact jL_X9_coarse_88 C E rec hrec FU S p0 tp0 p1 p2 (gAI S a7 (Int32.toNatClampNeg p2)) (0 : Int32)
def L_X9_coarse_70 (N : Nat → Nat) (n : Nat) : sSt → Nat → Int32 → Int32 → Option (Int32 × sSt) := iter (fun _ _ _ _ => none) (Y_X9_coarse_70 N) n
theorem jL_X9_coarse_70 {X : jX} (C : jC X cX9_coarse 5 RX9 rm_X9_coarse) {Λ : sLay} {r : (Int32 × sSt)} (E : jE X (some .int) rI Λ r) : ∀ (n : Nat) (S : sSt) (p0 : Nat) (tp0 : isK Λ 9 p0) (p1 : Int32) (p2 : Int32), J X 5 0 0 70 [(0, vR (some p0)), (1, vI p1), (2, vI p2)] [] Λ S (L_X9_coarse_70 Λ.2.2 n S p0 p1 p2 = some r) := by
  intro n
  induction n with
  | zero => intro S p0 tp0 p1 p2; exact j_no (fun h => by have h2 : (none : Option (Int32 × sSt)) = some r := h; cases h2)
  | succ n ih => intro S p0 tp0 p1 p2; exact jY_X9_coarse_70 C E (L_X9_coarse_70 Λ.2.2 n) ih S p0 tp0 p1 p2
def B_X9_coarse_60 (N : Nat → Nat) (k15 : sSt → Nat → Int32 → Option (Int32 × sSt)) (S : sSt) (p0 : Nat) (p1 : Int32) : Option (Int32 × sSt) := k15 S p0 (p1 + (1 : Int32))
set_option maxHeartbeats 4000000 in
theorem jB_X9_coarse_60 {X : jX} (C : jC X cX9_coarse 5 RX9 rm_X9_coarse) {Λ : sLay} {r : (Int32 × sSt)} (E : jE X (some .int) rI Λ r) (k15 : sSt → Nat → Int32 → Option (Int32 × sSt)) (hk15 : ∀ (S : sSt) (p0 : Nat) (tp0 : isK Λ 9 p0) (p1 : Int32), J X 5 0 0 15 [(0, vR (some p0)), (1, vI p1)] [] Λ S (k15 S p0 p1 = some r)) : ∀ (S : sSt) (p0 : Nat) (tp0 : isK Λ 9 p0) (p1 : Int32), J X 5 0 0 60 [(0, vR (some p0)), (1, vI p1)] [] Λ S (B_X9_coarse_60 Λ.2.2 k15 S p0 p1 = some r) := by
  intro S p0 tp0 p1
  unfold B_X9_coarse_60
  refine j_iinc C (v := (1 : Int32)) (L' := [(1, vI (p1 + (1 : Int32))), (0, vR (some p0))]) dX9_coarse_60 1 rfl (by decide) (by decide) rfl ?_
  refine j_goto C (tgt := 15) dX9_coarse_63 (by decide) ?_
  refine j_sub (L' := [(0, vR (some p0)), (1, vI (p1 + (1 : Int32)))]) [1, 0] rfl ?_
  exact hk15 S p0 tp0 (p1 + (1 : Int32))
def Y_X9_coarse_15 (N : Nat → Nat) (rec : sSt → Nat → Int32 → Option (Int32 × sSt)) (S : sSt) (p0 : Nat) (p1 : Int32) : Option (Int32 × sSt) := (if (gFI S 361 p0) ≤ p1 then L_X9_coarse_70 N FU S p0 (0 : Int32) (0 : Int32) else bnd (gFR S 395 p0) (fun x14 => Option.bind x14 (fun a15 => gi p1 (N a15) (bnd (sAI S a15 (Int32.toNatClampNeg p1) ((0 : Int32) &&& 1)) (fun S16 => bnd (gFR S16 362 p0) (fun x17 => Option.bind x17 (fun a18 => gi p1 (N a18) ((if (gAI S16 a18 (Int32.toNatClampNeg p1)) = 0 then B_X9_coarse_60 N rec S16 p0 p1 else Option.bind (F_X9_layRow N S16 p0 p1) (fun S20 => bnd (gFR S20 395 p0) (fun x21 => Option.bind (F_X9_whyOf N S20 p0 p1) (fun v22 => Option.bind (F_X9_in N S20 v22 (1 : Int32) (2 : Int32)) (fun v24 => Option.bind x21 (fun a26 => gi p1 (N a26) (bnd (sAI S20 a26 (Int32.toNatClampNeg p1) (v24 &&& 1)) (fun S27 => B_X9_coarse_60 N rec S27 p0 p1))))))))))))))))
set_option maxHeartbeats 4000000 in
theorem jY_X9_coarse_15 {X : jX} (C : jC X cX9_coarse 5 RX9 rm_X9_coarse) {Λ : sLay} {r : (Int32 × sSt)} (E : jE X (some .int) rI Λ r) (rec : sSt → Nat → Int32 → Option (Int32 × sSt)) (hrec : ∀ (S : sSt) (p0 : Nat) (tp0 : isK Λ 9 p0) (p1 : Int32), J X 5 0 0 15 [(0, vR (some p0)), (1, vI p1)] [] Λ S (rec S p0 p1 = some r)) : ∀ (S : sSt) (p0 : Nat) (tp0 : isK Λ 9 p0) (p1 : Int32), J X 5 0 0 15 [(0, vR (some p0)), (1, vI p1)] [] Λ S (Y_X9_coarse_15 Λ.2.2 rec S p0 p1 = some r) := by
  intro S p0 tp0 p1
  unfold Y_X9_coarse_15
  refine j_iload_n C dX9_coarse_15 1 rfl ?_
  refine j_aload_n C dX9_coarse_16 0 rfl ?_
  refine j_getI C kK9 f361 kfX9_103 (by decide) tp0 dX9_coarse_17 ?_
  refine j_icmp_ge C (tgt := 66) dX9_coarse_20 (by decide) ?_ ?_
  · refine j_iconst C (v := (0 : Int32)) dX9_coarse_66 (by decide) ?_
    refine j_istore_n C (L' := [(1, vI (0 : Int32)), (0, vR (some p0))]) dX9_coarse_67 (by decide) rfl ?_
    refine j_iconst C (v := (0 : Int32)) dX9_coarse_68 (by decide) ?_
    refine j_istore_n C (L' := [(2, vI (0 : Int32)), (1, vI (0 : Int32)), (0, vR (some p0))]) dX9_coarse_69 (by decide) rfl ?_
    refine j_sub (L' := [(0, vR (some p0)), (1, vI (0 : Int32)), (2, vI (0 : Int32))]) [2, 1, 0] rfl ?_
    exact jL_X9_coarse_70 C E FU S p0 tp0 (0 : Int32) (0 : Int32)
  · refine j_aload_n C dX9_coarse_23 0 rfl ?_
    refine j_getR C kK9 f395 kfX9_96 (by decide) rfl tp0 dX9_coarse_24 (fun x14 tx14 => ?_)
    refine j_iload_n C dX9_coarse_27 1 rfl ?_
    refine j_iconst C (v := (0 : Int32)) dX9_coarse_28 (by decide) ?_
    refine j_oc tx14 (fun a15 ta15 ea15 => ?_)
    subst ea15
    refine j_zast C ta15 dX9_coarse_29 (fun S16 => ?_)
    refine j_aload_n C dX9_coarse_30 0 rfl ?_
    refine j_getR C kK9 f362 kfX9_7 (by decide) rfl tp0 dX9_coarse_31 (fun x17 tx17 => ?_)
    refine j_iload_n C dX9_coarse_34 1 rfl ?_
    refine j_oc tx17 (fun a18 ta18 ea18 => ?_)
    subst ea18
    refine j_zald C ta18 dX9_coarse_35 ?_
    refine j_if_eq C (tgt := 60) dX9_coarse_36 (by decide) ?_ ?_
    · exact jB_X9_coarse_60 C E rec hrec S16 p0 tp0 p1
    · refine j_aload_n C dX9_coarse_39 0 rfl ?_
      refine j_iload_n C dX9_coarse_40 1 rfl ?_
      refine j_cVVV C [vI p1] [] (fun _ e => c_X9_layRow p0 tp0 p1 e) kYX9_layRow kVX9_layRow kmX9_182 kO9 tp0 rfl rfl ⟨rfl, rfl, by decide, by decide⟩ (Nat.le_of_ble_eq_true rfl) ⟨Nat.zero_le _, Nat.zero_le _⟩ dX9_coarse_41 (fun S20 => ?_)
      refine j_aload_n C dX9_coarse_44 0 rfl ?_
      refine j_getR C kK9 f395 kfX9_96 (by decide) rfl tp0 dX9_coarse_45 (fun x21 tx21 => ?_)
      refine j_iload_n C dX9_coarse_48 1 rfl ?_
      refine j_aload_n C dX9_coarse_49 0 rfl ?_
      refine j_iload_n C dX9_coarse_50 1 rfl ?_
      refine j_cVIP C [vI p1] [vI p1, vR x21] (fun _ e => c_X9_whyOf p0 tp0 p1 e) kYX9_whyOf kVX9_whyOf kmX9_191 kO9 tp0 rfl rfl ⟨rfl, rfl, by decide, by decide⟩ (Nat.le_of_ble_eq_true rfl) ⟨Nat.zero_le _, Nat.zero_le _⟩ dX9_coarse_51 (fun v22 => ?_)
      refine j_iconst C (v := (1 : Int32)) dX9_coarse_54 (by decide) ?_
      refine j_iconst C (v := (2 : Int32)) dX9_coarse_55 (by decide) ?_
      refine j_cSIP C [vI v22, vI (1 : Int32), vI (2 : Int32)] [vI p1, vR x21] (fun _ e => c_X9_in v22 (1 : Int32) (2 : Int32) e) kYX9_in kSX9_in kmX9_106 rfl rfl ⟨rfl, rfl, by decide, by decide⟩ (Nat.le_of_ble_eq_true rfl) ⟨Nat.zero_le _, Nat.zero_le _⟩ dX9_coarse_56 (fun v24 => ?_)
      refine j_oc tx21 (fun a26 ta26 ea26 => ?_)
      subst ea26
      refine j_zast C ta26 dX9_coarse_59 (fun S27 => ?_)
      exact jB_X9_coarse_60 C E rec hrec S27 p0 tp0 p1
def L_X9_coarse_15 (N : Nat → Nat) (n : Nat) : sSt → Nat → Int32 → Option (Int32 × sSt) := iter (fun _ _ _ => none) (Y_X9_coarse_15 N) n
theorem jL_X9_coarse_15 {X : jX} (C : jC X cX9_coarse 5 RX9 rm_X9_coarse) {Λ : sLay} {r : (Int32 × sSt)} (E : jE X (some .int) rI Λ r) : ∀ (n : Nat) (S : sSt) (p0 : Nat) (tp0 : isK Λ 9 p0) (p1 : Int32), J X 5 0 0 15 [(0, vR (some p0)), (1, vI p1)] [] Λ S (L_X9_coarse_15 Λ.2.2 n S p0 p1 = some r) := by
  intro n
  induction n with
  | zero => intro S p0 tp0 p1; exact j_no (fun h => by have h2 : (none : Option (Int32 × sSt)) = some r := h; cases h2)
  | succ n ih => intro S p0 tp0 p1; exact jY_X9_coarse_15 C E (L_X9_coarse_15 Λ.2.2 n) ih S p0 tp0 p1
def F_X9_coarse (N : Nat → Nat) (S : sSt) (p0 : Nat) : Option (Int32 × sSt) := bnd (sFI S 360 p0 (0 : Int32)) (fun S1 => Option.bind (F_X9_findLeads N S1 p0) (fun S3 => Option.bind (F_X9_reckon N S3 p0) (fun S5 => L_X9_coarse_15 N FU S5 p0 (0 : Int32))))
set_option maxHeartbeats 4000000 in
theorem jF_X9_coarse {X : jX} (C : jC X cX9_coarse 5 RX9 rm_X9_coarse) {Λ : sLay} {S : sSt} {r : (Int32 × sSt)} (E : jE X (some .int) rI Λ r) (p0 : Nat) (tp0 : isK Λ 9 p0) : J X 5 0 0 0 [(0, vR (some p0))] [] Λ S (F_X9_coarse Λ.2.2 S p0 = some r) := by
  unfold F_X9_coarse
  refine j_aload_n C dX9_coarse_0 0 rfl ?_
  refine j_iconst C (v := (0 : Int32)) dX9_coarse_1 (by decide) ?_
  refine j_putI C kK9 f360 kfX9_99 (by decide) rfl rfl rfl tp0 dX9_coarse_2 (fun S1 => ?_)
  refine j_aload_n C dX9_coarse_5 0 rfl ?_
  refine j_cVVV C [] [] (fun _ e => c_X9_findLeads p0 tp0 e) kYX9_findLeads kVX9_findLeads kmX9_213 kO9 tp0 rfl rfl ⟨rfl, rfl, by decide, by decide⟩ (Nat.le_of_ble_eq_true rfl) ⟨Nat.zero_le _, Nat.zero_le _⟩ dX9_coarse_6 (fun S3 => ?_)
  refine j_aload_n C dX9_coarse_9 0 rfl ?_
  refine j_cVVV C [] [] (fun _ e => c_X9_reckon p0 tp0 e) kYX9_reckon kVX9_reckon kmX9_146 kO9 tp0 rfl rfl ⟨rfl, rfl, by decide, by decide⟩ (Nat.le_of_ble_eq_true rfl) ⟨Nat.zero_le _, Nat.zero_le _⟩ dX9_coarse_10 (fun S5 => ?_)
  refine j_iconst C (v := (0 : Int32)) dX9_coarse_13 (by decide) ?_
  refine j_istore_n C (L' := [(1, vI (0 : Int32)), (0, vR (some p0))]) dX9_coarse_14 (by decide) rfl ?_
  refine j_sub (L' := [(0, vR (some p0)), (1, vI (0 : Int32))]) [1, 0] rfl ?_
  exact jL_X9_coarse_15 C E FU S5 p0 tp0 (0 : Int32)
theorem c_X9_coarse {l : Launch} {D : va_G} {cy : Nat → ClassId} {Λ : sLay} {S : sSt} (p0 : Nat) (tp0 : isK Λ 9 p0) {v : Int32} {S1 : sSt} (h : F_X9_coarse Λ.2.2 S p0 = some (v, S1)) : jM l yX9_coarse (Cond.code yX9_coarse cX9_coarse 5 (some .int) :: bigW) rm_X9_coarse D cy Λ S [vR (some p0)] rI (v, S1) := jM_of (by decide +kernel) (Nat.le_of_ble_eq_true rfl) (fun X C E _ _ _ => j_sub [0] rfl (jF_X9_coarse C E p0 tp0)) h
/-! RemakeNeeds2Model.count(I)I -/
abbrev rm_X9_count : Room := { frames := 4, cells := 0, slots := 0, locals := 94 }
def B_X9_count_98 (N : Nat → Nat) (k13 : sSt → Nat → Int32 → Int32 → Int32 → Option (Int32 × sSt)) (S : sSt) (p0 : Nat) (p1 : Int32) (p3 : Int32) (s0 : Int32) (s1 : Int32) : Option (Int32 × sSt) := k13 S p0 p1 (s1 + s0) (p3 + (1 : Int32))
set_option maxHeartbeats 4000000 in
theorem jB_X9_count_98 {X : jX} (C : jC X cX9_count 5 RX9 rm_X9_count) {Λ : sLay} {r : (Int32 × sSt)} (E : jE X (some .int) rI Λ r) (k13 : sSt → Nat → Int32 → Int32 → Int32 → Option (Int32 × sSt)) (hk13 : ∀ (S : sSt) (p0 : Nat) (tp0 : isK Λ 9 p0) (p1 : Int32) (p2 : Int32) (p3 : Int32), J X 5 0 0 13 [(0, vR (some p0)), (1, vI p1), (2, vI p2), (3, vI p3)] [] Λ S (k13 S p0 p1 p2 p3 = some r)) : ∀ (S : sSt) (p0 : Nat) (tp0 : isK Λ 9 p0) (p1 : Int32) (p3 : Int32) (s0 : Int32) (s1 : Int32), J X 5 0 0 98 [(0, vR (some p0)), (1, vI p1), (3, vI p3)] [vI s0, vI s1] Λ S (B_X9_count_98 Λ.2.2 k13 S p0 p1 p3 s0 s1 = some r) := by
  intro S p0 tp0 p1 p3 s0 s1
  unfold B_X9_count_98
  refine j_iadd C dX9_count_98 ?_
  refine j_istore_n C (L' := [(2, vI (s1 + s0)), (0, vR (some p0)), (1, vI p1), (3, vI p3)]) dX9_count_99 (by decide) rfl ?_
  refine j_iinc C (v := (1 : Int32)) (L' := [(3, vI (p3 + (1 : Int32))), (2, vI (s1 + s0)), (0, vR (some p0)), (1, vI p1)]) dX9_count_100 3 rfl (by decide) (by decide) rfl ?_
  refine j_goto C (tgt := 13) dX9_count_103 (by decide) ?_
  refine j_sub (L' := [(0, vR (some p0)), (1, vI p1), (2, vI (s1 + s0)), (3, vI (p3 + (1 : Int32)))]) [2, 3, 1, 0] rfl ?_
  exact hk13 S p0 tp0 p1 (s1 + s0) (p3 + (1 : Int32))
def B_X9_count_97 (N : Nat → Nat) (k13 : sSt → Nat → Int32 → Int32 → Int32 → Option (Int32 × sSt)) (S : sSt) (p0 : Nat) (p1 : Int32) (p3 : Int32) (s0 : Int32) : Option (Int32 × sSt) := B_X9_count_98 N k13 S p0 p1 p3 (0 : Int32) s0
set_option maxHeartbeats 4000000 in
theorem jB_X9_count_97 {X : jX} (C : jC X cX9_count 5 RX9 rm_X9_count) {Λ : sLay} {r : (Int32 × sSt)} (E : jE X (some .int) rI Λ r) (k13 : sSt → Nat → Int32 → Int32 → Int32 → Option (Int32 × sSt)) (hk13 : ∀ (S : sSt) (p0 : Nat) (tp0 : isK Λ 9 p0) (p1 : Int32) (p2 : Int32) (p3 : Int32), J X 5 0 0 13 [(0, vR (some p0)), (1, vI p1), (2, vI p2), (3, vI p3)] [] Λ S (k13 S p0 p1 p2 p3 = some r)) : ∀ (S : sSt) (p0 : Nat) (tp0 : isK Λ 9 p0) (p1 : Int32) (p3 : Int32) (s0 : Int32), J X 5 0 0 97 [(0, vR (some p0)), (1, vI p1), (3, vI p3)] [vI s0] Λ S (B_X9_count_97 Λ.2.2 k13 S p0 p1 p3 s0 = some r) := by
  intro S p0 tp0 p1 p3 s0
  unfold B_X9_count_97
  refine j_iconst C (v := (0 : Int32)) dX9_count_97 (by decide) ?_
  exact jB_X9_count_98 C E k13 hk13 S p0 tp0 p1 p3 (0 : Int32) s0
def B_X9_count_58 (N : Nat → Nat) (k13 : sSt → Nat → Int32 → Int32 → Int32 → Option (Int32 × sSt)) (S : sSt) (p0 : Nat) (p1 : Int32) (p2 : Int32) (p3 : Int32) (s0 : Int32) : Option (Int32 × sSt) := bnd (gFR S 391 p0) (fun x4 => bnd (gFR S 392 p0) (fun x5 => Option.bind x5 (fun a6 => gi p3 (N a6) (Option.bind x4 (fun a7 => gi (gAI S a6 (Int32.toNatClampNeg p3)) (N a7) (bnd (gFR S 391 p0) (fun x8 => bnd (gFR S 392 p0) (fun x9 => Option.bind x9 (fun a10 => gi (p3 - (1 : Int32)) (N a10) (Option.bind x8 (fun a11 => gi (gAI S a10 (Int32.toNatClampNeg (p3 - (1 : Int32)))) (N a11) ((if (gAI S a7 (Int32.toNatClampNeg (gAI S a6 (Int32.toNatClampNeg p3)))) = (gAI S a11 (Int32.toNatClampNeg (gAI S a10 (Int32.toNatClampNeg (p3 - (1 : Int32)))))) then (if s0 = 0 then B_X9_count_97 N k13 S p0 p1 p3 p2 else B_X9_count_98 N k13 S p0 p1 p3 (1 : Int32) p2) else B_X9_count_97 N k13 S p0 p1 p3 p2)))))))))))))
set_option maxHeartbeats 4000000 in
theorem jB_X9_count_58 {X : jX} (C : jC X cX9_count 5 RX9 rm_X9_count) {Λ : sLay} {r : (Int32 × sSt)} (E : jE X (some .int) rI Λ r) (k13 : sSt → Nat → Int32 → Int32 → Int32 → Option (Int32 × sSt)) (hk13 : ∀ (S : sSt) (p0 : Nat) (tp0 : isK Λ 9 p0) (p1 : Int32) (p2 : Int32) (p3 : Int32), J X 5 0 0 13 [(0, vR (some p0)), (1, vI p1), (2, vI p2), (3, vI p3)] [] Λ S (k13 S p0 p1 p2 p3 = some r)) : ∀ (S : sSt) (p0 : Nat) (tp0 : isK Λ 9 p0) (p1 : Int32) (p2 : Int32) (p3 : Int32) (s0 : Int32), J X 5 0 0 58 [(0, vR (some p0)), (1, vI p1), (2, vI p2), (3, vI p3)] [vI s0] Λ S (B_X9_count_58 Λ.2.2 k13 S p0 p1 p2 p3 s0 = some r) := by
  intro S p0 tp0 p1 p2 p3 s0
  unfold B_X9_count_58
  refine j_istore C (L' := [(4, vI s0), (0, vR (some p0)), (1, vI p1), (2, vI p2), (3, vI p3)]) dX9_count_58 (by decide) rfl ?_
  refine j_iload_n C dX9_count_60 3 rfl ?_
  refine j_aload_n C dX9_count_61 1 rfl ?_
  refine j_getR C kK9 f391 kfX9_90 (by decide) rfl tp0 dX9_count_62 (fun x4 tx4 => ?_)
  refine j_aload_n C dX9_count_65 1 rfl ?_
  refine j_getR C kK9 f392 kfX9_93 (by decide) rfl tp0 dX9_count_66 (fun x5 tx5 => ?_)
  refine j_iload_n C dX9_count_69 4 rfl ?_
  refine j_oc tx5 (fun a6 ta6 ea6 => ?_)
  subst ea6
  refine j_iald C ta6 dX9_count_70 ?_
  refine j_oc tx4 (fun a7 ta7 ea7 => ?_)
  subst ea7
  refine j_iald C ta7 dX9_count_71 ?_
  refine j_aload_n C dX9_count_72 1 rfl ?_
  refine j_getR C kK9 f391 kfX9_90 (by decide) rfl tp0 dX9_count_73 (fun x8 tx8 => ?_)
  refine j_aload_n C dX9_count_76 1 rfl ?_
  refine j_getR C kK9 f392 kfX9_93 (by decide) rfl tp0 dX9_count_77 (fun x9 tx9 => ?_)
  refine j_iload_n C dX9_count_80 4 rfl ?_
  refine j_iconst C (v := (1 : Int32)) dX9_count_81 (by decide) ?_
  refine j_isub C dX9_count_82 ?_
  refine j_oc tx9 (fun a10 ta10 ea10 => ?_)
  subst ea10
  refine j_iald C ta10 dX9_count_83 ?_
  refine j_oc tx8 (fun a11 ta11 ea11 => ?_)
  subst ea11
  refine j_iald C ta11 dX9_count_84 ?_
  refine j_icmp_ne C (tgt := 97) dX9_count_85 (by decide) ?_ ?_
  · refine j_sub (L' := [(0, vR (some p0)), (1, vI p1), (3, vI p3)]) [1, 2, 4] rfl ?_
    exact jB_X9_count_97 C E k13 hk13 S p0 tp0 p1 p3 p2
  · refine j_iload C dX9_count_88 0 rfl ?_
    refine j_if_eq C (tgt := 97) dX9_count_90 (by decide) ?_ ?_
    · refine j_sub (L' := [(0, vR (some p0)), (1, vI p1), (3, vI p3)]) [1, 2, 4] rfl ?_
      exact jB_X9_count_97 C E k13 hk13 S p0 tp0 p1 p3 p2
    · refine j_iconst C (v := (1 : Int32)) dX9_count_93 (by decide) ?_
      refine j_goto C (tgt := 98) dX9_count_94 (by decide) ?_
      refine j_sub (L' := [(0, vR (some p0)), (1, vI p1), (3, vI p3)]) [1, 2, 4] rfl ?_
      exact jB_X9_count_98 C E k13 hk13 S p0 tp0 p1 p3 (1 : Int32) p2
def B_X9_count_53 (N : Nat → Nat) (k13 : sSt → Nat → Int32 → Int32 → Int32 → Option (Int32 × sSt)) (S : sSt) (p0 : Nat) (p1 : Int32) (p2 : Int32) (p3 : Int32) : Option (Int32 × sSt) := B_X9_count_58 N k13 S p0 p1 p2 p3 (1 : Int32)
set_option maxHeartbeats 4000000 in
theorem jB_X9_count_53 {X : jX} (C : jC X cX9_count 5 RX9 rm_X9_count) {Λ : sLay} {r : (Int32 × sSt)} (E : jE X (some .int) rI Λ r) (k13 : sSt → Nat → Int32 → Int32 → Int32 → Option (Int32 × sSt)) (hk13 : ∀ (S : sSt) (p0 : Nat) (tp0 : isK Λ 9 p0) (p1 : Int32) (p2 : Int32) (p3 : Int32), J X 5 0 0 13 [(0, vR (some p0)), (1, vI p1), (2, vI p2), (3, vI p3)] [] Λ S (k13 S p0 p1 p2 p3 = some r)) : ∀ (S : sSt) (p0 : Nat) (tp0 : isK Λ 9 p0) (p1 : Int32) (p2 : Int32) (p3 : Int32), J X 5 0 0 53 [(0, vR (some p0)), (1, vI p1), (2, vI p2), (3, vI p3)] [] Λ S (B_X9_count_53 Λ.2.2 k13 S p0 p1 p2 p3 = some r) := by
  intro S p0 tp0 p1 p2 p3
  unfold B_X9_count_53
  refine j_iconst C (v := (1 : Int32)) dX9_count_53 (by decide) ?_
  refine j_goto C (tgt := 58) dX9_count_54 (by decide) ?_
  exact jB_X9_count_58 C E k13 hk13 S p0 tp0 p1 p2 p3 (1 : Int32)
def Y_X9_count_13 (N : Nat → Nat) (rec : sSt → Nat → Int32 → Int32 → Int32 → Option (Int32 × sSt)) (S : sSt) (p0 : Nat) (p1 : Int32) (p2 : Int32) (p3 : Int32) : Option (Int32 × sSt) := (if (gFI S 393 p0) ≤ p3 then (if p1 = 0 then some ((gFI S 393 p0), S) else (if p1 = 1 then some ((gFI S 361 p0), S) else (if p1 = 2 then some ((gFI S 394 p0), S) else (if p1 = 3 then some (p2, S) else (if p1 = 4 then some ((gFI S 378 p0), S) else some ((-2 : Int32), S)))))) else (if p3 = (1 : Int32) then B_X9_count_53 N rec S p0 p1 p2 p3 else bnd (gFR S 391 p0) (fun x12 => bnd (gFR S 392 p0) (fun x13 => Option.bind x13 (fun a14 => gi (p3 - (2 : Int32)) (N a14) (Option.bind x12 (fun a15 => gi (gAI S a14 (Int32.toNatClampNeg (p3 - (2 : Int32)))) (N a15) (bnd (gFR S 391 p0) (fun x16 => bnd (gFR S 392 p0) (fun x17 => Option.bind x17 (fun a18 => gi p3 (N a18) (Option.bind x16 (fun a19 => gi (gAI S a18 (Int32.toNatClampNeg p3)) (N a19) ((if (gAI S a15 (Int32.toNatClampNeg (gAI S a14 (Int32.toNatClampNeg (p3 - (2 : Int32)))))) = (gAI S a19 (Int32.toNatClampNeg (gAI S a18 (Int32.toNatClampNeg p3)))) then B_X9_count_58 N rec S p0 p1 p2 p3 (0 : Int32) else B_X9_count_53 N rec S p0 p1 p2 p3)))))))))))))))
set_option maxHeartbeats 4000000 in
theorem jY_X9_count_13 {X : jX} (C : jC X cX9_count 5 RX9 rm_X9_count) {Λ : sLay} {r : (Int32 × sSt)} (E : jE X (some .int) rI Λ r) (rec : sSt → Nat → Int32 → Int32 → Int32 → Option (Int32 × sSt)) (hrec : ∀ (S : sSt) (p0 : Nat) (tp0 : isK Λ 9 p0) (p1 : Int32) (p2 : Int32) (p3 : Int32), J X 5 0 0 13 [(0, vR (some p0)), (1, vI p1), (2, vI p2), (3, vI p3)] [] Λ S (rec S p0 p1 p2 p3 = some r)) : ∀ (S : sSt) (p0 : Nat) (tp0 : isK Λ 9 p0) (p1 : Int32) (p2 : Int32) (p3 : Int32), J X 5 0 0 13 [(0, vR (some p0)), (1, vI p1), (2, vI p2), (3, vI p3)] [] Λ S (Y_X9_count_13 Λ.2.2 rec S p0 p1 p2 p3 = some r) := by
  intro S p0 tp0 p1 p2 p3
  unfold Y_X9_count_13
  refine j_iload_n C dX9_count_13 3 rfl ?_
  refine j_aload_n C dX9_count_14 0 rfl ?_
  refine j_getI C kK9 f393 kfX9_201 (by decide) tp0 dX9_count_15 ?_
  refine j_icmp_ge C (tgt := 106) dX9_count_18 (by decide) ?_ ?_
  · refine j_iload_n C dX9_count_106 1 rfl ?_
    refine j_ite (fun g0 => ?_) (fun g0 => ?_)
    · refine j_tableIn C (tgt := 140) 0 g0 dX9_count_107 (by decide) (by decide) rfl (by decide) ?_
      refine j_aload_n C dX9_count_140 0 rfl ?_
      refine j_getI C kK9 f393 kfX9_201 (by decide) tp0 dX9_count_141 ?_
      exact j_iret C E dX9_count_144
    refine j_ite (fun g1 => ?_) (fun g1 => ?_)
    · refine j_tableIn C (tgt := 145) 1 g1 dX9_count_107 (by decide) (by decide) rfl (by decide) ?_
      refine j_aload_n C dX9_count_145 0 rfl ?_
      refine j_getI C kK9 f361 kfX9_103 (by decide) tp0 dX9_count_146 ?_
      exact j_iret C E dX9_count_149
    refine j_ite (fun g2 => ?_) (fun g2 => ?_)
    · refine j_tableIn C (tgt := 150) 2 g2 dX9_count_107 (by decide) (by decide) rfl (by decide) ?_
      refine j_aload_n C dX9_count_150 0 rfl ?_
      refine j_getI C kK9 f394 kfX9_216 (by decide) tp0 dX9_count_151 ?_
      exact j_iret C E dX9_count_154
    refine j_ite (fun g3 => ?_) (fun g3 => ?_)
    · refine j_tableIn C (tgt := 155) 3 g3 dX9_count_107 (by decide) (by decide) rfl (by decide) ?_
      refine j_iload_n C dX9_count_155 2 rfl ?_
      exact j_iret C E dX9_count_156
    refine j_ite (fun g4 => ?_) (fun g4 => ?_)
    · refine j_tableIn C (tgt := 157) 4 g4 dX9_count_107 (by decide) (by decide) rfl (by decide) ?_
      refine j_aload_n C dX9_count_157 0 rfl ?_
      refine j_getI C kK9 f378 kfX9_195 (by decide) tp0 dX9_count_158 ?_
      exact j_iret C E dX9_count_161
    refine j_tableOut C (tgt := 162) dX9_count_107 (sw_out (x := p1) 4 (fun j hj => by have h5 : j = 0 ∨ j = 1 ∨ j = 2 ∨ j = 3 ∨ j = 4 := (by omega); rcases h5 with rfl | rfl | rfl | rfl | rfl <;> assumption)) (by decide) ?_
    refine j_bipush C (v := (-2 : Int32)) dX9_count_162 (by decide) ?_
    exact j_iret C E dX9_count_164
  · refine j_iload_n C dX9_count_21 3 rfl ?_
    refine j_iconst C (v := (1 : Int32)) dX9_count_22 (by decide) ?_
    refine j_icmp_eq C (tgt := 53) dX9_count_23 (by decide) ?_ ?_
    · exact jB_X9_count_53 C E rec hrec S p0 tp0 p1 p2 p3
    · refine j_aload_n C dX9_count_26 0 rfl ?_
      refine j_getR C kK9 f391 kfX9_90 (by decide) rfl tp0 dX9_count_27 (fun x12 tx12 => ?_)
      refine j_aload_n C dX9_count_30 0 rfl ?_
      refine j_getR C kK9 f392 kfX9_93 (by decide) rfl tp0 dX9_count_31 (fun x13 tx13 => ?_)
      refine j_iload_n C dX9_count_34 3 rfl ?_
      refine j_iconst C (v := (2 : Int32)) dX9_count_35 (by decide) ?_
      refine j_isub C dX9_count_36 ?_
      refine j_oc tx13 (fun a14 ta14 ea14 => ?_)
      subst ea14
      refine j_iald C ta14 dX9_count_37 ?_
      refine j_oc tx12 (fun a15 ta15 ea15 => ?_)
      subst ea15
      refine j_iald C ta15 dX9_count_38 ?_
      refine j_aload_n C dX9_count_39 0 rfl ?_
      refine j_getR C kK9 f391 kfX9_90 (by decide) rfl tp0 dX9_count_40 (fun x16 tx16 => ?_)
      refine j_aload_n C dX9_count_43 0 rfl ?_
      refine j_getR C kK9 f392 kfX9_93 (by decide) rfl tp0 dX9_count_44 (fun x17 tx17 => ?_)
      refine j_iload_n C dX9_count_47 3 rfl ?_
      refine j_oc tx17 (fun a18 ta18 ea18 => ?_)
      subst ea18
      refine j_iald C ta18 dX9_count_48 ?_
      refine j_oc tx16 (fun a19 ta19 ea19 => ?_)
      subst ea19
      refine j_iald C ta19 dX9_count_49 ?_
      refine j_icmp_eq C (tgt := 57) dX9_count_50 (by decide) ?_ ?_
      · refine j_iconst C (v := (0 : Int32)) dX9_count_57 (by decide) ?_
        exact jB_X9_count_58 C E rec hrec S p0 tp0 p1 p2 p3 (0 : Int32)
      · exact jB_X9_count_53 C E rec hrec S p0 tp0 p1 p2 p3
def L_X9_count_13 (N : Nat → Nat) (n : Nat) : sSt → Nat → Int32 → Int32 → Int32 → Option (Int32 × sSt) := iter (fun _ _ _ _ _ => none) (Y_X9_count_13 N) n
theorem jL_X9_count_13 {X : jX} (C : jC X cX9_count 5 RX9 rm_X9_count) {Λ : sLay} {r : (Int32 × sSt)} (E : jE X (some .int) rI Λ r) : ∀ (n : Nat) (S : sSt) (p0 : Nat) (tp0 : isK Λ 9 p0) (p1 : Int32) (p2 : Int32) (p3 : Int32), J X 5 0 0 13 [(0, vR (some p0)), (1, vI p1), (2, vI p2), (3, vI p3)] [] Λ S (L_X9_count_13 Λ.2.2 n S p0 p1 p2 p3 = some r) := by
  intro n
  induction n with
  | zero => intro S p0 tp0 p1 p2 p3; exact j_no (fun h => by have h2 : (none : Option (Int32 × sSt)) = some r := h; cases h2)
  | succ n ih => intro S p0 tp0 p1 p2 p3; exact jY_X9_count_13 C E (L_X9_count_13 Λ.2.2 n) ih S p0 tp0 p1 p2 p3
def F_X9_count (N : Nat → Nat) (S : sSt) (p0 : Nat) (p1 : Int32) : Option (Int32 × sSt) := bnd (sFI S 360 p0 (0 : Int32)) (fun S1 => Option.bind (F_X9_findOrder N S1 p0) (fun S3 => L_X9_count_13 N FU S3 p0 p1 (0 : Int32) (1 : Int32)))
set_option maxHeartbeats 4000000 in
theorem jF_X9_count {X : jX} (C : jC X cX9_count 5 RX9 rm_X9_count) {Λ : sLay} {S : sSt} {r : (Int32 × sSt)} (E : jE X (some .int) rI Λ r) (p0 : Nat) (tp0 : isK Λ 9 p0) (p1 : Int32) : J X 5 0 0 0 [(0, vR (some p0)), (1, vI p1)] [] Λ S (F_X9_count Λ.2.2 S p0 p1 = some r) := by
  unfold F_X9_count
  refine j_aload_n C dX9_count_0 0 rfl ?_
  refine j_iconst C (v := (0 : Int32)) dX9_count_1 (by decide) ?_
  refine j_putI C kK9 f360 kfX9_99 (by decide) rfl rfl rfl tp0 dX9_count_2 (fun S1 => ?_)
  refine j_aload_n C dX9_count_5 0 rfl ?_
  refine j_cVVV C [] [] (fun _ e => c_X9_findOrder p0 tp0 e) kYX9_findOrder kVX9_findOrder kmX9_198 kO9 tp0 rfl rfl ⟨rfl, rfl, by decide, by decide⟩ (Nat.le_of_ble_eq_true rfl) ⟨Nat.zero_le _, Nat.zero_le _⟩ dX9_count_6 (fun S3 => ?_)
  refine j_iconst C (v := (0 : Int32)) dX9_count_9 (by decide) ?_
  refine j_istore_n C (L' := [(2, vI (0 : Int32)), (0, vR (some p0)), (1, vI p1)]) dX9_count_10 (by decide) rfl ?_
  refine j_iconst C (v := (1 : Int32)) dX9_count_11 (by decide) ?_
  refine j_istore_n C (L' := [(3, vI (1 : Int32)), (2, vI (0 : Int32)), (0, vR (some p0)), (1, vI p1)]) dX9_count_12 (by decide) rfl ?_
  refine j_sub (L' := [(0, vR (some p0)), (1, vI p1), (2, vI (0 : Int32)), (3, vI (1 : Int32))]) [2, 3, 1, 0] rfl ?_
  exact jL_X9_count_13 C E FU S3 p0 tp0 p1 (0 : Int32) (1 : Int32)
theorem c_X9_count {l : Launch} {D : va_G} {cy : Nat → ClassId} {Λ : sLay} {S : sSt} (p0 : Nat) (tp0 : isK Λ 9 p0) (p1 : Int32) {v : Int32} {S1 : sSt} (h : F_X9_count Λ.2.2 S p0 p1 = some (v, S1)) : jM l yX9_count (Cond.code yX9_count cX9_count 5 (some .int) :: bigW) rm_X9_count D cy Λ S [vR (some p0), vI p1] rI (v, S1) := jM_of (by decide +kernel) (Nat.le_of_ble_eq_true rfl) (fun X C E _ _ _ => j_sub [0, 1] rfl (jF_X9_count C E p0 tp0 p1)) h
/-! RemakeNeeds2Model.rowOf(I)V -/
abbrev rm_X9_rowOf : Room := { frames := 4, cells := 0, slots := 0, locals := 94 }
def F_X9_rowOf (N : Nat → Nat) (S : sSt) (p0 : Nat) (p1 : Int32) : Option sSt := Option.bind (F_X9_reckon N S p0) (fun S2 => Option.bind (F_X9_layRow N S2 p0 p1) (fun S4 => some S4))
set_option maxHeartbeats 4000000 in
theorem jF_X9_rowOf {X : jX} (C : jC X cX9_rowOf 2 RX9 rm_X9_rowOf) {Λ : sLay} {S : sSt} {r : sSt} (E : jE X none rV Λ ((), r)) (p0 : Nat) (tp0 : isK Λ 9 p0) (p1 : Int32) : J X 2 0 0 0 [(0, vR (some p0)), (1, vI p1)] [] Λ S (F_X9_rowOf Λ.2.2 S p0 p1 = some r) := by
  unfold F_X9_rowOf
  refine j_aload_n C dX9_rowOf_0 0 rfl ?_
  refine j_cVVV C [] [] (fun _ e => c_X9_reckon p0 tp0 e) kYX9_reckon kVX9_reckon kmX9_146 kO9 tp0 rfl rfl ⟨rfl, rfl, by decide, by decide⟩ (Nat.le_of_ble_eq_true rfl) ⟨Nat.zero_le _, Nat.zero_le _⟩ dX9_rowOf_1 (fun S2 => ?_)
  refine j_aload_n C dX9_rowOf_4 0 rfl ?_
  refine j_iload_n C dX9_rowOf_5 1 rfl ?_
  refine j_cVVV C [vI p1] [] (fun _ e => c_X9_layRow p0 tp0 p1 e) kYX9_layRow kVX9_layRow kmX9_182 kO9 tp0 rfl rfl ⟨rfl, rfl, by decide, by decide⟩ (Nat.le_of_ble_eq_true rfl) ⟨Nat.zero_le _, Nat.zero_le _⟩ dX9_rowOf_6 (fun S4 => ?_)
  exact j_vretP C E dX9_rowOf_9
theorem c_X9_rowOf {l : Launch} {D : va_G} {cy : Nat → ClassId} {Λ : sLay} {S : sSt} (p0 : Nat) (tp0 : isK Λ 9 p0) (p1 : Int32) {r : sSt} (h : F_X9_rowOf Λ.2.2 S p0 p1 = some r) : jM l yX9_rowOf (Cond.code yX9_rowOf cX9_rowOf 2 none :: bigW) rm_X9_rowOf D cy Λ S [vR (some p0), vI p1] rV ((), r) := jM_of (by decide +kernel) (Nat.le_of_ble_eq_true rfl) (fun X C E _ _ _ => j_sub [0, 1] rfl (jF_X9_rowOf C E p0 tp0 p1)) h
/-! RemakeNeeds2Model.keep(I)V -/
abbrev rm_X9_keep : Room := { frames := 0, cells := 0, slots := 0, locals := 0 }
def Y_X9_keep_36 (N : Nat → Nat) (rec : sSt → Nat → Int32 → Int32 → Option sSt) (S : sSt) (p0 : Nat) (p1 : Int32) (p2 : Int32) : Option sSt := (if (6 : Int32) ≤ p2 then bnd (gFR S 377 p0) (fun x1 => Option.bind x1 (fun a2 => gi p1 (N a2) (gi p1 (N a2) (bnd (sAI S a2 (Int32.toNatClampNeg p1) ((gAI S a2 (Int32.toNatClampNeg p1)) + (1 : Int32))) (fun S3 => bnd (sFI S3 378 p0 ((gFI S3 378 p0) + (1 : Int32))) (fun S4 => some S4)))))) else bnd (gFR S 376 p0) (fun x5 => bnd (gFR S 389 p0) (fun x6 => Option.bind x6 (fun a7 => gi p2 (N a7) (Option.bind x5 (fun a8 => gi (((6 : Int32) * p1) + p2) (N a8) (bnd (sAI S a8 (Int32.toNatClampNeg (((6 : Int32) * p1) + p2)) (gAI S a7 (Int32.toNatClampNeg p2))) (fun S9 => rec S9 p0 p1 (p2 + (1 : Int32))))))))))
set_option maxHeartbeats 4000000 in
theorem jY_X9_keep_36 {X : jX} (C : jC X cX9_keep 3 RX9 rm_X9_keep) {Λ : sLay} {r : sSt} (E : jE X none rV Λ ((), r)) (rec : sSt → Nat → Int32 → Int32 → Option sSt) (hrec : ∀ (S : sSt) (p0 : Nat) (tp0 : isK Λ 9 p0) (p1 : Int32) (p2 : Int32), J X 3 0 0 36 [(0, vR (some p0)), (1, vI p1), (2, vI p2)] [] Λ S (rec S p0 p1 p2 = some r)) : ∀ (S : sSt) (p0 : Nat) (tp0 : isK Λ 9 p0) (p1 : Int32) (p2 : Int32), J X 3 0 0 36 [(0, vR (some p0)), (1, vI p1), (2, vI p2)] [] Λ S (Y_X9_keep_36 Λ.2.2 rec S p0 p1 p2 = some r) := by
  intro S p0 tp0 p1 p2
  unfold Y_X9_keep_36
  refine j_iload_n C dX9_keep_36 2 rfl ?_
  refine j_bipush C (v := (6 : Int32)) dX9_keep_37 (by decide) ?_
  refine j_icmp_ge C (tgt := 65) dX9_keep_39 (by decide) ?_ ?_
  · refine j_aload_n C dX9_keep_65 0 rfl ?_
    refine j_getR C kK9 f377 kfX9_57 (by decide) rfl tp0 dX9_keep_66 (fun x1 tx1 => ?_)
    refine j_iload_n C dX9_keep_69 1 rfl ?_
    refine j_dup2 C dX9_keep_70 rfl rfl ?_
    refine j_oc tx1 (fun a2 ta2 ea2 => ?_)
    subst ea2
    refine j_iald C ta2 dX9_keep_71 ?_
    refine j_iconst C (v := (1 : Int32)) dX9_keep_72 (by decide) ?_
    refine j_iadd C dX9_keep_73 ?_
    refine j_iast C ta2 dX9_keep_74 (fun S3 => ?_)
    refine j_aload_n C dX9_keep_75 0 rfl ?_
    refine j_dup C dX9_keep_76 rfl ?_
    refine j_getI C kK9 f378 kfX9_195 (by decide) tp0 dX9_keep_77 ?_
    refine j_iconst C (v := (1 : Int32)) dX9_keep_80 (by decide) ?_
    refine j_iadd C dX9_keep_81 ?_
    refine j_putI C kK9 f378 kfX9_195 (by decide) rfl rfl rfl tp0 dX9_keep_82 (fun S4 => ?_)
    exact j_vretP C E dX9_keep_85
  · refine j_aload_n C dX9_keep_42 0 rfl ?_
    refine j_getR C kK9 f376 kfX9_54 (by decide) rfl tp0 dX9_keep_43 (fun x5 tx5 => ?_)
    refine j_bipush C (v := (6 : Int32)) dX9_keep_46 (by decide) ?_
    refine j_iload_n C dX9_keep_48 1 rfl ?_
    refine j_imul C dX9_keep_49 ?_
    refine j_iload_n C dX9_keep_50 2 rfl ?_
    refine j_iadd C dX9_keep_51 ?_
    refine j_aload_n C dX9_keep_52 0 rfl ?_
    refine j_getR C kK9 f389 kfX9_84 (by decide) rfl tp0 dX9_keep_53 (fun x6 tx6 => ?_)
    refine j_iload_n C dX9_keep_56 2 rfl ?_
    refine j_oc tx6 (fun a7 ta7 ea7 => ?_)
    subst ea7
    refine j_iald C ta7 dX9_keep_57 ?_
    refine j_oc tx5 (fun a8 ta8 ea8 => ?_)
    subst ea8
    refine j_iast C ta8 dX9_keep_58 (fun S9 => ?_)
    refine j_iinc C (v := (1 : Int32)) (L' := [(2, vI (p2 + (1 : Int32))), (0, vR (some p0)), (1, vI p1)]) dX9_keep_59 2 rfl (by decide) (by decide) rfl ?_
    refine j_goto C (tgt := 36) dX9_keep_62 (by decide) ?_
    refine j_sub (L' := [(0, vR (some p0)), (1, vI p1), (2, vI (p2 + (1 : Int32)))]) [1, 2, 0] rfl ?_
    exact hrec S9 p0 tp0 p1 (p2 + (1 : Int32))
def L_X9_keep_36 (N : Nat → Nat) (n : Nat) : sSt → Nat → Int32 → Int32 → Option sSt := iter (fun _ _ _ _ => none) (Y_X9_keep_36 N) n
theorem jL_X9_keep_36 {X : jX} (C : jC X cX9_keep 3 RX9 rm_X9_keep) {Λ : sLay} {r : sSt} (E : jE X none rV Λ ((), r)) : ∀ (n : Nat) (S : sSt) (p0 : Nat) (tp0 : isK Λ 9 p0) (p1 : Int32) (p2 : Int32), J X 3 0 0 36 [(0, vR (some p0)), (1, vI p1), (2, vI p2)] [] Λ S (L_X9_keep_36 Λ.2.2 n S p0 p1 p2 = some r) := by
  intro n
  induction n with
  | zero => intro S p0 tp0 p1 p2; exact j_no (fun h => by have h2 : (none : Option sSt) = some r := h; cases h2)
  | succ n ih => intro S p0 tp0 p1 p2; exact jY_X9_keep_36 C E (L_X9_keep_36 Λ.2.2 n) ih S p0 tp0 p1 p2
def Y_X9_keep_2 (N : Nat → Nat) (rec : sSt → Nat → Int32 → Int32 → Option sSt) (S : sSt) (p0 : Nat) (p1 : Int32) (p2 : Int32) : Option sSt := (if (gFI S 388 p0) ≤ p2 then L_X9_keep_36 N FU S p0 p1 (0 : Int32) else bnd (gFR S 375 p0) (fun x10 => bnd (gFR S 387 p0) (fun x11 => Option.bind x11 (fun a12 => gi p2 (N a12) (Option.bind x10 (fun a13 => gi (((700 : Int32) * p1) + p2) (N a13) (bnd (sAJ S a13 (Int32.toNatClampNeg (((700 : Int32) * p1) + p2)) (gAJ S a12 (Int32.toNatClampNeg p2))) (fun S14 => rec S14 p0 p1 (p2 + (1 : Int32))))))))))
set_option maxHeartbeats 4000000 in
theorem jY_X9_keep_2 {X : jX} (C : jC X cX9_keep 3 RX9 rm_X9_keep) {Λ : sLay} {r : sSt} (E : jE X none rV Λ ((), r)) (rec : sSt → Nat → Int32 → Int32 → Option sSt) (hrec : ∀ (S : sSt) (p0 : Nat) (tp0 : isK Λ 9 p0) (p1 : Int32) (p2 : Int32), J X 3 0 0 2 [(0, vR (some p0)), (1, vI p1), (2, vI p2)] [] Λ S (rec S p0 p1 p2 = some r)) : ∀ (S : sSt) (p0 : Nat) (tp0 : isK Λ 9 p0) (p1 : Int32) (p2 : Int32), J X 3 0 0 2 [(0, vR (some p0)), (1, vI p1), (2, vI p2)] [] Λ S (Y_X9_keep_2 Λ.2.2 rec S p0 p1 p2 = some r) := by
  intro S p0 tp0 p1 p2
  unfold Y_X9_keep_2
  refine j_iload_n C dX9_keep_2 2 rfl ?_
  refine j_aload_n C dX9_keep_3 0 rfl ?_
  refine j_getI C kK9 f388 kfX9_155 (by decide) tp0 dX9_keep_4 ?_
  refine j_icmp_ge C (tgt := 34) dX9_keep_7 (by decide) ?_ ?_
  · refine j_iconst C (v := (0 : Int32)) dX9_keep_34 (by decide) ?_
    refine j_istore_n C (L' := [(2, vI (0 : Int32)), (0, vR (some p0)), (1, vI p1)]) dX9_keep_35 (by decide) rfl ?_
    refine j_sub (L' := [(0, vR (some p0)), (1, vI p1), (2, vI (0 : Int32))]) [1, 2, 0] rfl ?_
    exact jL_X9_keep_36 C E FU S p0 tp0 p1 (0 : Int32)
  · refine j_aload_n C dX9_keep_10 0 rfl ?_
    refine j_getR C kK9 f375 kfX9_51 (by decide) rfl tp0 dX9_keep_11 (fun x10 tx10 => ?_)
    refine j_sipush C (v := (700 : Int32)) dX9_keep_14 (by decide) ?_
    refine j_iload_n C dX9_keep_17 1 rfl ?_
    refine j_imul C dX9_keep_18 ?_
    refine j_iload_n C dX9_keep_19 2 rfl ?_
    refine j_iadd C dX9_keep_20 ?_
    refine j_aload_n C dX9_keep_21 0 rfl ?_
    refine j_getR C kK9 f387 kfX9_81 (by decide) rfl tp0 dX9_keep_22 (fun x11 tx11 => ?_)
    refine j_iload_n C dX9_keep_25 2 rfl ?_
    refine j_oc tx11 (fun a12 ta12 ea12 => ?_)
    subst ea12
    refine j_lald C ta12 dX9_keep_26 ?_
    refine j_oc tx10 (fun a13 ta13 ea13 => ?_)
    subst ea13
    refine j_last C ta13 dX9_keep_27 (fun S14 => ?_)
    refine j_iinc C (v := (1 : Int32)) (L' := [(2, vI (p2 + (1 : Int32))), (0, vR (some p0)), (1, vI p1)]) dX9_keep_28 2 rfl (by decide) (by decide) rfl ?_
    refine j_goto C (tgt := 2) dX9_keep_31 (by decide) ?_
    refine j_sub (L' := [(0, vR (some p0)), (1, vI p1), (2, vI (p2 + (1 : Int32)))]) [1, 2, 0] rfl ?_
    exact hrec S14 p0 tp0 p1 (p2 + (1 : Int32))
def L_X9_keep_2 (N : Nat → Nat) (n : Nat) : sSt → Nat → Int32 → Int32 → Option sSt := iter (fun _ _ _ _ => none) (Y_X9_keep_2 N) n
theorem jL_X9_keep_2 {X : jX} (C : jC X cX9_keep 3 RX9 rm_X9_keep) {Λ : sLay} {r : sSt} (E : jE X none rV Λ ((), r)) : ∀ (n : Nat) (S : sSt) (p0 : Nat) (tp0 : isK Λ 9 p0) (p1 : Int32) (p2 : Int32), J X 3 0 0 2 [(0, vR (some p0)), (1, vI p1), (2, vI p2)] [] Λ S (L_X9_keep_2 Λ.2.2 n S p0 p1 p2 = some r) := by
  intro n
  induction n with
  | zero => intro S p0 tp0 p1 p2; exact j_no (fun h => by have h2 : (none : Option sSt) = some r := h; cases h2)
  | succ n ih => intro S p0 tp0 p1 p2; exact jY_X9_keep_2 C E (L_X9_keep_2 Λ.2.2 n) ih S p0 tp0 p1 p2
def F_X9_keep (N : Nat → Nat) (S : sSt) (p0 : Nat) (p1 : Int32) : Option sSt := L_X9_keep_2 N FU S p0 p1 (0 : Int32)
set_option maxHeartbeats 4000000 in
theorem jF_X9_keep {X : jX} (C : jC X cX9_keep 3 RX9 rm_X9_keep) {Λ : sLay} {S : sSt} {r : sSt} (E : jE X none rV Λ ((), r)) (p0 : Nat) (tp0 : isK Λ 9 p0) (p1 : Int32) : J X 3 0 0 0 [(0, vR (some p0)), (1, vI p1)] [] Λ S (F_X9_keep Λ.2.2 S p0 p1 = some r) := by
  unfold F_X9_keep
  refine j_iconst C (v := (0 : Int32)) dX9_keep_0 (by decide) ?_
  refine j_istore_n C (L' := [(2, vI (0 : Int32)), (0, vR (some p0)), (1, vI p1)]) dX9_keep_1 (by decide) rfl ?_
  refine j_sub (L' := [(0, vR (some p0)), (1, vI p1), (2, vI (0 : Int32))]) [1, 2, 0] rfl ?_
  exact jL_X9_keep_2 C E FU S p0 tp0 p1 (0 : Int32)
theorem c_X9_keep {l : Launch} {D : va_G} {cy : Nat → ClassId} {Λ : sLay} {S : sSt} (p0 : Nat) (tp0 : isK Λ 9 p0) (p1 : Int32) {r : sSt} (h : F_X9_keep Λ.2.2 S p0 p1 = some r) : jM l yX9_keep (Cond.code yX9_keep cX9_keep 3 none :: bigW) rm_X9_keep D cy Λ S [vR (some p0), vI p1] rV ((), r) := jM_of (by decide +kernel) (Nat.le_of_ble_eq_true rfl) (fun X C E _ _ _ => j_sub [0, 1] rfl (jF_X9_keep C E p0 tp0 p1)) h
/-! RemakeNeeds2Model.force(I)I -/
abbrev rm_X9_force : Room := { frames := 5, cells := 0, slots := 0, locals := 115 }
def F_X9_force (N : Nat → Nat) (S : sSt) (p0 : Nat) (p1 : Int32) : Option (Int32 × sSt) := bnd (sFI S 360 p0 (0 : Int32)) (fun S1 => Option.bind (F_X9_isUnit N S1 p0 p1) (fun v2 => (if v2 = 0 then some ((-1 : Int32), S1) else Option.bind (F_X9_rowOf N S1 p0 p1) (fun S5 => Option.bind (F_X9_keep N S5 p0 p1) (fun S7 => bnd (gFR S7 377 p0) (fun x8 => Option.bind x8 (fun a9 => gi p1 (N a9) (some ((gAI S7 a9 (Int32.toNatClampNeg p1)), S7)))))))))
set_option maxHeartbeats 4000000 in
theorem jF_X9_force {X : jX} (C : jC X cX9_force 2 RX9 rm_X9_force) {Λ : sLay} {S : sSt} {r : (Int32 × sSt)} (E : jE X (some .int) rI Λ r) (p0 : Nat) (tp0 : isK Λ 9 p0) (p1 : Int32) : J X 2 0 0 0 [(0, vR (some p0)), (1, vI p1)] [] Λ S (F_X9_force Λ.2.2 S p0 p1 = some r) := by
  unfold F_X9_force
  refine j_aload_n C dX9_force_0 0 rfl ?_
  refine j_iconst C (v := (0 : Int32)) dX9_force_1 (by decide) ?_
  refine j_putI C kK9 f360 kfX9_99 (by decide) rfl rfl rfl tp0 dX9_force_2 (fun S1 => ?_)
  refine j_aload_n C dX9_force_5 0 rfl ?_
  refine j_iload_n C dX9_force_6 1 rfl ?_
  refine j_cVIP C [vI p1] [] (fun _ e => c_X9_isUnit p0 tp0 p1 e) kYX9_isUnit kVX9_isUnit kmX9_110 kO9 tp0 rfl rfl ⟨rfl, rfl, by decide, by decide⟩ (Nat.le_of_ble_eq_true rfl) ⟨Nat.zero_le _, Nat.zero_le _⟩ dX9_force_7 (fun v2 => ?_)
  refine j_if_ne C (tgt := 15) dX9_force_10 (by decide) ?_ ?_
  · refine j_aload_n C dX9_force_15 0 rfl ?_
    refine j_iload_n C dX9_force_16 1 rfl ?_
    refine j_cVVV C [vI p1] [] (fun _ e => c_X9_rowOf p0 tp0 p1 e) kYX9_rowOf kVX9_rowOf kmX9_185 kO9 tp0 rfl rfl ⟨rfl, rfl, by decide, by decide⟩ (Nat.le_of_ble_eq_true rfl) ⟨Nat.zero_le _, Nat.zero_le _⟩ dX9_force_17 (fun S5 => ?_)
    refine j_aload_n C dX9_force_20 0 rfl ?_
    refine j_iload_n C dX9_force_21 1 rfl ?_
    refine j_cVVV C [vI p1] [] (fun _ e => c_X9_keep p0 tp0 p1 e) kYX9_keep kVX9_keep kmX9_204 kO9 tp0 rfl rfl ⟨rfl, rfl, by decide, by decide⟩ (Nat.le_of_ble_eq_true rfl) ⟨Nat.zero_le _, Nat.zero_le _⟩ dX9_force_22 (fun S7 => ?_)
    refine j_aload_n C dX9_force_25 0 rfl ?_
    refine j_getR C kK9 f377 kfX9_57 (by decide) rfl tp0 dX9_force_26 (fun x8 tx8 => ?_)
    refine j_iload_n C dX9_force_29 1 rfl ?_
    refine j_oc tx8 (fun a9 ta9 ea9 => ?_)
    subst ea9
    refine j_iald C ta9 dX9_force_30 ?_
    exact j_iret C E dX9_force_31
  · refine j_iconst C (v := (-1 : Int32)) dX9_force_13 (by decide) ?_
    exact j_iret C E dX9_force_14
theorem c_X9_force {l : Launch} {D : va_G} {cy : Nat → ClassId} {Λ : sLay} {S : sSt} (p0 : Nat) (tp0 : isK Λ 9 p0) (p1 : Int32) {v : Int32} {S1 : sSt} (h : F_X9_force Λ.2.2 S p0 p1 = some (v, S1)) : jM l yX9_force (Cond.code yX9_force cX9_force 2 (some .int) :: bigW) rm_X9_force D cy Λ S [vR (some p0), vI p1] rI (v, S1) := jM_of (by decide +kernel) (Nat.le_of_ble_eq_true rfl) (fun X C E _ _ _ => j_sub [0, 1] rfl (jF_X9_force C E p0 tp0 p1)) h
/-! RemakeNeeds2Model.found(III)I -/
abbrev rm_X9_found : Room := { frames := 2, cells := 0, slots := 0, locals := 48 }
def F_X9_found (N : Nat → Nat) (S : sSt) (p0 : Nat) (p1 : Int32) (p2 : Int32) (p3 : Int32) : Option (Int32 × sSt) := bnd (sFI S 360 p0 (0 : Int32)) (fun S1 => Option.bind (F_X9_isUnit N S1 p0 p1) (fun v2 => (if v2 = 0 then some ((-1 : Int32), S1) else Option.bind (F_X9_in N S1 p2 (0 : Int32) (2 : Int32)) (fun v4 => (if v4 = 0 then some ((-2 : Int32), S1) else Option.bind (F_X9_isName N S1 p3) (fun v6 => (if v6 = 0 then some ((-2 : Int32), S1) else Option.bind (F_X9_find N S1 p0 p1 (((32 : Int32) * p2) + p3)) (fun v8 => (if v8 = (-5 : Int32) then some ((-5 : Int32), S1) else some ((v8 / (10 : Int32)), S1))))))))))
set_option maxHeartbeats 4000000 in
theorem jF_X9_found {X : jX} (C : jC X cX9_found 5 RX9 rm_X9_found) {Λ : sLay} {S : sSt} {r : (Int32 × sSt)} (E : jE X (some .int) rI Λ r) (p0 : Nat) (tp0 : isK Λ 9 p0) (p1 : Int32) (p2 : Int32) (p3 : Int32) : J X 5 0 0 0 [(0, vR (some p0)), (1, vI p1), (2, vI p2), (3, vI p3)] [] Λ S (F_X9_found Λ.2.2 S p0 p1 p2 p3 = some r) := by
  unfold F_X9_found
  refine j_aload_n C dX9_found_0 0 rfl ?_
  refine j_iconst C (v := (0 : Int32)) dX9_found_1 (by decide) ?_
  refine j_putI C kK9 f360 kfX9_99 (by decide) rfl rfl rfl tp0 dX9_found_2 (fun S1 => ?_)
  refine j_aload_n C dX9_found_5 0 rfl ?_
  refine j_iload_n C dX9_found_6 1 rfl ?_
  refine j_cVIP C [vI p1] [] (fun _ e => c_X9_isUnit p0 tp0 p1 e) kYX9_isUnit kVX9_isUnit kmX9_110 kO9 tp0 rfl rfl ⟨rfl, rfl, by decide, by decide⟩ (Nat.le_of_ble_eq_true rfl) ⟨Nat.zero_le _, Nat.zero_le _⟩ dX9_found_7 (fun v2 => ?_)
  refine j_if_ne C (tgt := 15) dX9_found_10 (by decide) ?_ ?_
  · refine j_iload_n C dX9_found_15 2 rfl ?_
    refine j_iconst C (v := (0 : Int32)) dX9_found_16 (by decide) ?_
    refine j_iconst C (v := (2 : Int32)) dX9_found_17 (by decide) ?_
    refine j_cSIP C [vI p2, vI (0 : Int32), vI (2 : Int32)] [] (fun _ e => c_X9_in p2 (0 : Int32) (2 : Int32) e) kYX9_in kSX9_in kmX9_106 rfl rfl ⟨rfl, rfl, by decide, by decide⟩ (Nat.le_of_ble_eq_true rfl) ⟨Nat.zero_le _, Nat.zero_le _⟩ dX9_found_18 (fun v4 => ?_)
    refine j_if_eq C (tgt := 31) dX9_found_21 (by decide) ?_ ?_
    · refine j_bipush C (v := (-2 : Int32)) dX9_found_31 (by decide) ?_
      exact j_iret C E dX9_found_33
    · refine j_iload_n C dX9_found_24 3 rfl ?_
      refine j_cSIP C [vI p3] [] (fun _ e => c_X9_isName p3 e) kYX9_isName kSX9_isName kmX9_114 rfl rfl ⟨rfl, rfl, by decide, by decide⟩ (Nat.le_of_ble_eq_true rfl) ⟨Nat.zero_le _, Nat.zero_le _⟩ dX9_found_25 (fun v6 => ?_)
      refine j_if_ne C (tgt := 34) dX9_found_28 (by decide) ?_ ?_
      · refine j_aload_n C dX9_found_34 0 rfl ?_
        refine j_iload_n C dX9_found_35 1 rfl ?_
        refine j_bipush C (v := (32 : Int32)) dX9_found_36 (by decide) ?_
        refine j_iload_n C dX9_found_38 2 rfl ?_
        refine j_imul C dX9_found_39 ?_
        refine j_iload_n C dX9_found_40 3 rfl ?_
        refine j_iadd C dX9_found_41 ?_
        refine j_cVIP C [vI p1, vI (((32 : Int32) * p2) + p3)] [] (fun _ e => c_X9_find p0 tp0 p1 (((32 : Int32) * p2) + p3) e) kYX9_find kVX9_find kmX9_137 kO9 tp0 rfl rfl ⟨rfl, rfl, by decide, by decide⟩ (Nat.le_of_ble_eq_true rfl) ⟨Nat.zero_le _, Nat.zero_le _⟩ dX9_found_42 (fun v8 => ?_)
        refine j_istore C (L' := [(4, vI v8), (0, vR (some p0)), (1, vI p1), (2, vI p2), (3, vI p3)]) dX9_found_45 (by decide) rfl ?_
        refine j_iload C dX9_found_47 0 rfl ?_
        refine j_bipush C (v := (-5 : Int32)) dX9_found_49 (by decide) ?_
        refine j_icmp_ne C (tgt := 59) dX9_found_51 (by decide) ?_ ?_
        · refine j_iload C dX9_found_59 0 rfl ?_
          refine j_bipush C (v := (10 : Int32)) dX9_found_61 (by decide) ?_
          refine j_idiv C dX9_found_63 (by decide) ?_
          exact j_iret C E dX9_found_64
        · refine j_bipush C (v := (-5 : Int32)) dX9_found_54 (by decide) ?_
          refine j_goto C (tgt := 64) dX9_found_56 (by decide) ?_
          exact j_iret C E dX9_found_64
      · refine j_bipush C (v := (-2 : Int32)) dX9_found_31 (by decide) ?_
        exact j_iret C E dX9_found_33
  · refine j_iconst C (v := (-1 : Int32)) dX9_found_13 (by decide) ?_
    exact j_iret C E dX9_found_14
theorem c_X9_found {l : Launch} {D : va_G} {cy : Nat → ClassId} {Λ : sLay} {S : sSt} (p0 : Nat) (tp0 : isK Λ 9 p0) (p1 : Int32) (p2 : Int32) (p3 : Int32) {v : Int32} {S1 : sSt} (h : F_X9_found Λ.2.2 S p0 p1 p2 p3 = some (v, S1)) : jM l yX9_found (Cond.code yX9_found cX9_found 5 (some .int) :: bigW) rm_X9_found D cy Λ S [vR (some p0), vI p1, vI p2, vI p3] rI (v, S1) := jM_of (by decide +kernel) (Nat.le_of_ble_eq_true rfl) (fun X C E _ _ _ => j_sub [0, 1, 2, 3] rfl (jF_X9_found C E p0 tp0 p1 p2 p3)) h
/-! RemakeNeeds2Model.frees(I)V -/
abbrev rm_X9_frees : Room := { frames := 0, cells := 0, slots := 0, locals := 0 }
def B_X9_frees_36 (N : Nat → Nat) (k2 : sSt → Nat → Int32 → Int32 → Option sSt) (S : sSt) (p0 : Nat) (p1 : Int32) (p2 : Int32) (s0 : Int32) (s1 : Int32) (s2 : Option Nat) : Option sSt := Option.bind s2 (fun a6 => gi s1 (N a6) (bnd (sAI S a6 (Int32.toNatClampNeg s1) s0) (fun S7 => k2 S7 p0 p1 (p2 + (1 : Int32)))))
set_option maxHeartbeats 4000000 in
theorem jB_X9_frees_36 {X : jX} (C : jC X cX9_frees 3 RX9 rm_X9_frees) {Λ : sLay} {r : sSt} (E : jE X none rV Λ ((), r)) (k2 : sSt → Nat → Int32 → Int32 → Option sSt) (hk2 : ∀ (S : sSt) (p0 : Nat) (tp0 : isK Λ 9 p0) (p1 : Int32) (p2 : Int32), J X 3 0 0 2 [(0, vR (some p0)), (1, vI p1), (2, vI p2)] [] Λ S (k2 S p0 p1 p2 = some r)) : ∀ (S : sSt) (p0 : Nat) (tp0 : isK Λ 9 p0) (p1 : Int32) (p2 : Int32) (s0 : Int32) (s1 : Int32) (s2 : Option Nat) (ts2 : okK Λ 10 s2), J X 3 0 0 36 [(0, vR (some p0)), (1, vI p1), (2, vI p2)] [vI s0, vI s1, vR s2] Λ S (B_X9_frees_36 Λ.2.2 k2 S p0 p1 p2 s0 s1 s2 = some r) := by
  intro S p0 tp0 p1 p2 s0 s1 s2 ts2
  unfold B_X9_frees_36
  refine j_oc ts2 (fun a6 ta6 ea6 => ?_)
  subst ea6
  refine j_iast C ta6 dX9_frees_36 (fun S7 => ?_)
  refine j_iinc C (v := (1 : Int32)) (L' := [(2, vI (p2 + (1 : Int32))), (0, vR (some p0)), (1, vI p1)]) dX9_frees_37 2 rfl (by decide) (by decide) rfl ?_
  refine j_goto C (tgt := 2) dX9_frees_40 (by decide) ?_
  refine j_sub (L' := [(0, vR (some p0)), (1, vI p1), (2, vI (p2 + (1 : Int32)))]) [1, 2, 0] rfl ?_
  exact hk2 S7 p0 tp0 p1 (p2 + (1 : Int32))
def Y_X9_frees_2 (N : Nat → Nat) (rec : sSt → Nat → Int32 → Int32 → Option sSt) (S : sSt) (p0 : Nat) (p1 : Int32) (p2 : Int32) : Option sSt := (if (gFI S 361 p0) ≤ p2 then some S else bnd (gFR S 374 p0) (fun x1 => bnd (gFR S 374 p0) (fun x2 => Option.bind x2 (fun a3 => gi p2 (N a3) ((if (gAI S a3 (Int32.toNatClampNeg p2)) = p1 then B_X9_frees_36 N rec S p0 p1 p2 (-5 : Int32) p2 x1 else bnd (gFR S 374 p0) (fun x4 => Option.bind x4 (fun a5 => gi p2 (N a5) (B_X9_frees_36 N rec S p0 p1 p2 (gAI S a5 (Int32.toNatClampNeg p2)) p2 x1)))))))))
set_option maxHeartbeats 4000000 in
theorem jY_X9_frees_2 {X : jX} (C : jC X cX9_frees 3 RX9 rm_X9_frees) {Λ : sLay} {r : sSt} (E : jE X none rV Λ ((), r)) (rec : sSt → Nat → Int32 → Int32 → Option sSt) (hrec : ∀ (S : sSt) (p0 : Nat) (tp0 : isK Λ 9 p0) (p1 : Int32) (p2 : Int32), J X 3 0 0 2 [(0, vR (some p0)), (1, vI p1), (2, vI p2)] [] Λ S (rec S p0 p1 p2 = some r)) : ∀ (S : sSt) (p0 : Nat) (tp0 : isK Λ 9 p0) (p1 : Int32) (p2 : Int32), J X 3 0 0 2 [(0, vR (some p0)), (1, vI p1), (2, vI p2)] [] Λ S (Y_X9_frees_2 Λ.2.2 rec S p0 p1 p2 = some r) := by
  intro S p0 tp0 p1 p2
  unfold Y_X9_frees_2
  refine j_iload_n C dX9_frees_2 2 rfl ?_
  refine j_aload_n C dX9_frees_3 0 rfl ?_
  refine j_getI C kK9 f361 kfX9_103 (by decide) tp0 dX9_frees_4 ?_
  refine j_icmp_ge C (tgt := 43) dX9_frees_7 (by decide) ?_ ?_
  · exact j_vretP C E dX9_frees_43
  · refine j_aload_n C dX9_frees_10 0 rfl ?_
    refine j_getR C kK9 f374 kfX9_48 (by decide) rfl tp0 dX9_frees_11 (fun x1 tx1 => ?_)
    refine j_iload_n C dX9_frees_14 2 rfl ?_
    refine j_aload_n C dX9_frees_15 0 rfl ?_
    refine j_getR C kK9 f374 kfX9_48 (by decide) rfl tp0 dX9_frees_16 (fun x2 tx2 => ?_)
    refine j_iload_n C dX9_frees_19 2 rfl ?_
    refine j_oc tx2 (fun a3 ta3 ea3 => ?_)
    subst ea3
    refine j_iald C ta3 dX9_frees_20 ?_
    refine j_iload_n C dX9_frees_21 1 rfl ?_
    refine j_icmp_ne C (tgt := 30) dX9_frees_22 (by decide) ?_ ?_
    · refine j_aload_n C dX9_frees_30 0 rfl ?_
      refine j_getR C kK9 f374 kfX9_48 (by decide) rfl tp0 dX9_frees_31 (fun x4 tx4 => ?_)
      refine j_iload_n C dX9_frees_34 2 rfl ?_
      refine j_oc tx4 (fun a5 ta5 ea5 => ?_)
      subst ea5
      refine j_iald C ta5 dX9_frees_35 ?_
      exact jB_X9_frees_36 C E rec hrec S p0 tp0 p1 p2 (gAI S a5 (Int32.toNatClampNeg p2)) p2 x1 tx1
    · refine j_bipush C (v := (-5 : Int32)) dX9_frees_25 (by decide) ?_
      refine j_goto C (tgt := 36) dX9_frees_27 (by decide) ?_
      exact jB_X9_frees_36 C E rec hrec S p0 tp0 p1 p2 (-5 : Int32) p2 x1 tx1
def L_X9_frees_2 (N : Nat → Nat) (n : Nat) : sSt → Nat → Int32 → Int32 → Option sSt := iter (fun _ _ _ _ => none) (Y_X9_frees_2 N) n
theorem jL_X9_frees_2 {X : jX} (C : jC X cX9_frees 3 RX9 rm_X9_frees) {Λ : sLay} {r : sSt} (E : jE X none rV Λ ((), r)) : ∀ (n : Nat) (S : sSt) (p0 : Nat) (tp0 : isK Λ 9 p0) (p1 : Int32) (p2 : Int32), J X 3 0 0 2 [(0, vR (some p0)), (1, vI p1), (2, vI p2)] [] Λ S (L_X9_frees_2 Λ.2.2 n S p0 p1 p2 = some r) := by
  intro n
  induction n with
  | zero => intro S p0 tp0 p1 p2; exact j_no (fun h => by have h2 : (none : Option sSt) = some r := h; cases h2)
  | succ n ih => intro S p0 tp0 p1 p2; exact jY_X9_frees_2 C E (L_X9_frees_2 Λ.2.2 n) ih S p0 tp0 p1 p2
def F_X9_frees (N : Nat → Nat) (S : sSt) (p0 : Nat) (p1 : Int32) : Option sSt := L_X9_frees_2 N FU S p0 p1 (0 : Int32)
set_option maxHeartbeats 4000000 in
theorem jF_X9_frees {X : jX} (C : jC X cX9_frees 3 RX9 rm_X9_frees) {Λ : sLay} {S : sSt} {r : sSt} (E : jE X none rV Λ ((), r)) (p0 : Nat) (tp0 : isK Λ 9 p0) (p1 : Int32) : J X 3 0 0 0 [(0, vR (some p0)), (1, vI p1)] [] Λ S (F_X9_frees Λ.2.2 S p0 p1 = some r) := by
  unfold F_X9_frees
  refine j_iconst C (v := (0 : Int32)) dX9_frees_0 (by decide) ?_
  refine j_istore_n C (L' := [(2, vI (0 : Int32)), (0, vR (some p0)), (1, vI p1)]) dX9_frees_1 (by decide) rfl ?_
  refine j_sub (L' := [(0, vR (some p0)), (1, vI p1), (2, vI (0 : Int32))]) [1, 2, 0] rfl ?_
  exact jL_X9_frees_2 C E FU S p0 tp0 p1 (0 : Int32)
theorem c_X9_frees {l : Launch} {D : va_G} {cy : Nat → ClassId} {Λ : sLay} {S : sSt} (p0 : Nat) (tp0 : isK Λ 9 p0) (p1 : Int32) {r : sSt} (h : F_X9_frees Λ.2.2 S p0 p1 = some r) : jM l yX9_frees (Cond.code yX9_frees cX9_frees 3 none :: bigW) rm_X9_frees D cy Λ S [vR (some p0), vI p1] rV ((), r) := jM_of (by decide +kernel) (Nat.le_of_ble_eq_true rfl) (fun X C E _ _ _ => j_sub [0, 1] rfl (jF_X9_frees C E p0 tp0 p1)) h
/-! RemakeNeeds2Model.generated(II)I -/
abbrev rm_X9_generated : Room := { frames := 2, cells := 0, slots := 0, locals := 43 }
def B_X9_generated_56 (N : Nat → Nat) (S : sSt) (p0 : Nat) (p1 : Int32) (p2 : Int32) : Option (Int32 × sSt) := bnd (gFR S 374 p0) (fun x4 => Option.bind x4 (fun a5 => gi p1 (N a5) (bnd (sAI S a5 (Int32.toNatClampNeg p1) p2) (fun S6 => some ((1 : Int32), S6)))))
set_option maxHeartbeats 4000000 in
theorem jB_X9_generated_56 {X : jX} (C : jC X cX9_generated 3 RX9 rm_X9_generated) {Λ : sLay} {r : (Int32 × sSt)} (E : jE X (some .int) rI Λ r) : ∀ (S : sSt) (p0 : Nat) (tp0 : isK Λ 9 p0) (p1 : Int32) (p2 : Int32), J X 3 0 0 56 [(0, vR (some p0)), (1, vI p1), (2, vI p2)] [] Λ S (B_X9_generated_56 Λ.2.2 S p0 p1 p2 = some r) := by
  intro S p0 tp0 p1 p2
  unfold B_X9_generated_56
  refine j_aload_n C dX9_generated_56 0 rfl ?_
  refine j_getR C kK9 f374 kfX9_48 (by decide) rfl tp0 dX9_generated_57 (fun x4 tx4 => ?_)
  refine j_iload_n C dX9_generated_60 1 rfl ?_
  refine j_iload_n C dX9_generated_61 2 rfl ?_
  refine j_oc tx4 (fun a5 ta5 ea5 => ?_)
  subst ea5
  refine j_iast C ta5 dX9_generated_62 (fun S6 => ?_)
  refine j_iconst C (v := (1 : Int32)) dX9_generated_63 (by decide) ?_
  exact j_iret C E dX9_generated_64
def B_X9_generated_29 (N : Nat → Nat) (S : sSt) (p0 : Nat) (p1 : Int32) (p2 : Int32) : Option (Int32 × sSt) := (if p2 = (-5 : Int32) then B_X9_generated_56 N S p0 p1 p2 else bnd (gFR S 373 p0) (fun x7 => Option.bind x7 (fun a8 => gi p2 (N a8) ((if (gAI S a8 (Int32.toNatClampNeg p2)) = 0 then some ((-3 : Int32), S) else bnd (gFR S 373 p0) (fun x9 => Option.bind x9 (fun a10 => gi p1 (N a10) ((if (gAI S a10 (Int32.toNatClampNeg p1)) = 0 then B_X9_generated_56 N S p0 p1 p2 else some ((-3 : Int32), S))))))))))
set_option maxHeartbeats 4000000 in
theorem jB_X9_generated_29 {X : jX} (C : jC X cX9_generated 3 RX9 rm_X9_generated) {Λ : sLay} {r : (Int32 × sSt)} (E : jE X (some .int) rI Λ r) : ∀ (S : sSt) (p0 : Nat) (tp0 : isK Λ 9 p0) (p1 : Int32) (p2 : Int32), J X 3 0 0 29 [(0, vR (some p0)), (1, vI p1), (2, vI p2)] [] Λ S (B_X9_generated_29 Λ.2.2 S p0 p1 p2 = some r) := by
  intro S p0 tp0 p1 p2
  unfold B_X9_generated_29
  refine j_iload_n C dX9_generated_29 2 rfl ?_
  refine j_bipush C (v := (-5 : Int32)) dX9_generated_30 (by decide) ?_
  refine j_icmp_eq C (tgt := 56) dX9_generated_32 (by decide) ?_ ?_
  · exact jB_X9_generated_56 C E S p0 tp0 p1 p2
  · refine j_aload_n C dX9_generated_35 0 rfl ?_
    refine j_getR C kK9 f373 kfX9_45 (by decide) rfl tp0 dX9_generated_36 (fun x7 tx7 => ?_)
    refine j_iload_n C dX9_generated_39 2 rfl ?_
    refine j_oc tx7 (fun a8 ta8 ea8 => ?_)
    subst ea8
    refine j_zald C ta8 dX9_generated_40 ?_
    refine j_if_eq C (tgt := 53) dX9_generated_41 (by decide) ?_ ?_
    · refine j_bipush C (v := (-3 : Int32)) dX9_generated_53 (by decide) ?_
      exact j_iret C E dX9_generated_55
    · refine j_aload_n C dX9_generated_44 0 rfl ?_
      refine j_getR C kK9 f373 kfX9_45 (by decide) rfl tp0 dX9_generated_45 (fun x9 tx9 => ?_)
      refine j_iload_n C dX9_generated_48 1 rfl ?_
      refine j_oc tx9 (fun a10 ta10 ea10 => ?_)
      subst ea10
      refine j_zald C ta10 dX9_generated_49 ?_
      refine j_if_eq C (tgt := 56) dX9_generated_50 (by decide) ?_ ?_
      · exact jB_X9_generated_56 C E S p0 tp0 p1 p2
      · refine j_bipush C (v := (-3 : Int32)) dX9_generated_53 (by decide) ?_
        exact j_iret C E dX9_generated_55
def F_X9_generated (N : Nat → Nat) (S : sSt) (p0 : Nat) (p1 : Int32) (p2 : Int32) : Option (Int32 × sSt) := bnd (sFI S 360 p0 (0 : Int32)) (fun S1 => Option.bind (F_X9_isUnit N S1 p0 p1) (fun v2 => (if v2 = 0 then some ((-1 : Int32), S1) else (if p2 = (-5 : Int32) then B_X9_generated_29 N S1 p0 p1 p2 else Option.bind (F_X9_isUnit N S1 p0 p2) (fun v11 => (if v11 = 0 then some ((-1 : Int32), S1) else B_X9_generated_29 N S1 p0 p1 p2))))))
set_option maxHeartbeats 4000000 in
theorem jF_X9_generated {X : jX} (C : jC X cX9_generated 3 RX9 rm_X9_generated) {Λ : sLay} {S : sSt} {r : (Int32 × sSt)} (E : jE X (some .int) rI Λ r) (p0 : Nat) (tp0 : isK Λ 9 p0) (p1 : Int32) (p2 : Int32) : J X 3 0 0 0 [(0, vR (some p0)), (1, vI p1), (2, vI p2)] [] Λ S (F_X9_generated Λ.2.2 S p0 p1 p2 = some r) := by
  unfold F_X9_generated
  refine j_aload_n C dX9_generated_0 0 rfl ?_
  refine j_iconst C (v := (0 : Int32)) dX9_generated_1 (by decide) ?_
  refine j_putI C kK9 f360 kfX9_99 (by decide) rfl rfl rfl tp0 dX9_generated_2 (fun S1 => ?_)
  refine j_aload_n C dX9_generated_5 0 rfl ?_
  refine j_iload_n C dX9_generated_6 1 rfl ?_
  refine j_cVIP C [vI p1] [] (fun _ e => c_X9_isUnit p0 tp0 p1 e) kYX9_isUnit kVX9_isUnit kmX9_110 kO9 tp0 rfl rfl ⟨rfl, rfl, by decide, by decide⟩ (Nat.le_of_ble_eq_true rfl) ⟨Nat.zero_le _, Nat.zero_le _⟩ dX9_generated_7 (fun v2 => ?_)
  refine j_if_eq C (tgt := 27) dX9_generated_10 (by decide) ?_ ?_
  · refine j_iconst C (v := (-1 : Int32)) dX9_generated_27 (by decide) ?_
    exact j_iret C E dX9_generated_28
  · refine j_iload_n C dX9_generated_13 2 rfl ?_
    refine j_bipush C (v := (-5 : Int32)) dX9_generated_14 (by decide) ?_
    refine j_icmp_eq C (tgt := 29) dX9_generated_16 (by decide) ?_ ?_
    · exact jB_X9_generated_29 C E S1 p0 tp0 p1 p2
    · refine j_aload_n C dX9_generated_19 0 rfl ?_
      refine j_iload_n C dX9_generated_20 2 rfl ?_
      refine j_cVIP C [vI p2] [] (fun _ e => c_X9_isUnit p0 tp0 p2 e) kYX9_isUnit kVX9_isUnit kmX9_110 kO9 tp0 rfl rfl ⟨rfl, rfl, by decide, by decide⟩ (Nat.le_of_ble_eq_true rfl) ⟨Nat.zero_le _, Nat.zero_le _⟩ dX9_generated_21 (fun v11 => ?_)
      refine j_if_ne C (tgt := 29) dX9_generated_24 (by decide) ?_ ?_
      · exact jB_X9_generated_29 C E S1 p0 tp0 p1 p2
      · refine j_iconst C (v := (-1 : Int32)) dX9_generated_27 (by decide) ?_
        exact j_iret C E dX9_generated_28
theorem c_X9_generated {l : Launch} {D : va_G} {cy : Nat → ClassId} {Λ : sLay} {S : sSt} (p0 : Nat) (tp0 : isK Λ 9 p0) (p1 : Int32) (p2 : Int32) {v : Int32} {S1 : sSt} (h : F_X9_generated Λ.2.2 S p0 p1 p2 = some (v, S1)) : jM l yX9_generated (Cond.code yX9_generated cX9_generated 3 (some .int) :: bigW) rm_X9_generated D cy Λ S [vR (some p0), vI p1, vI p2] rI (v, S1) := jM_of (by decide +kernel) (Nat.le_of_ble_eq_true rfl) (fun X C E _ _ _ => j_sub [0, 1, 2] rfl (jF_X9_generated C E p0 tp0 p1 p2)) h
/-! RemakeNeeds2Model.move(II)V -/
abbrev rm_X9_move : Room := { frames := 0, cells := 0, slots := 0, locals := 0 }
def Y_X9_move_50 (N : Nat → Nat) (rec : sSt → Nat → Int32 → Int32 → Int32 → Option sSt) (S : sSt) (p0 : Nat) (p1 : Int32) (p2 : Int32) (p3 : Int32) : Option sSt := (if (3 : Int32) ≤ p3 then some S else bnd (gFR S 368 p0) (fun x21 => bnd (gFR S 368 p0) (fun x22 => Option.bind x22 (fun a23 => gi (((3 : Int32) * p1) + p3) (N a23) (Option.bind x21 (fun a24 => gi (((3 : Int32) * p2) + p3) (N a24) (bnd (sAI S a24 (Int32.toNatClampNeg (((3 : Int32) * p2) + p3)) (gAI S a23 (Int32.toNatClampNeg (((3 : Int32) * p1) + p3)))) (fun S25 => rec S25 p0 p1 p2 (p3 + (1 : Int32))))))))))
set_option maxHeartbeats 4000000 in
theorem jY_X9_move_50 {X : jX} (C : jC X cX9_move 4 RX9 rm_X9_move) {Λ : sLay} {r : sSt} (E : jE X none rV Λ ((), r)) (rec : sSt → Nat → Int32 → Int32 → Int32 → Option sSt) (hrec : ∀ (S : sSt) (p0 : Nat) (tp0 : isK Λ 9 p0) (p1 : Int32) (p2 : Int32) (p3 : Int32), J X 4 0 0 50 [(0, vR (some p0)), (1, vI p1), (2, vI p2), (3, vI p3)] [] Λ S (rec S p0 p1 p2 p3 = some r)) : ∀ (S : sSt) (p0 : Nat) (tp0 : isK Λ 9 p0) (p1 : Int32) (p2 : Int32) (p3 : Int32), J X 4 0 0 50 [(0, vR (some p0)), (1, vI p1), (2, vI p2), (3, vI p3)] [] Λ S (Y_X9_move_50 Λ.2.2 rec S p0 p1 p2 p3 = some r) := by
  intro S p0 tp0 p1 p2 p3
  unfold Y_X9_move_50
  refine j_iload_n C dX9_move_50 3 rfl ?_
  refine j_iconst C (v := (3 : Int32)) dX9_move_51 (by decide) ?_
  refine j_icmp_ge C (tgt := 81) dX9_move_52 (by decide) ?_ ?_
  · exact j_vretP C E dX9_move_81
  · refine j_aload_n C dX9_move_55 0 rfl ?_
    refine j_getR C kK9 f368 kfX9_30 (by decide) rfl tp0 dX9_move_56 (fun x21 tx21 => ?_)
    refine j_iconst C (v := (3 : Int32)) dX9_move_59 (by decide) ?_
    refine j_iload_n C dX9_move_60 2 rfl ?_
    refine j_imul C dX9_move_61 ?_
    refine j_iload_n C dX9_move_62 3 rfl ?_
    refine j_iadd C dX9_move_63 ?_
    refine j_aload_n C dX9_move_64 0 rfl ?_
    refine j_getR C kK9 f368 kfX9_30 (by decide) rfl tp0 dX9_move_65 (fun x22 tx22 => ?_)
    refine j_iconst C (v := (3 : Int32)) dX9_move_68 (by decide) ?_
    refine j_iload_n C dX9_move_69 1 rfl ?_
    refine j_imul C dX9_move_70 ?_
    refine j_iload_n C dX9_move_71 3 rfl ?_
    refine j_iadd C dX9_move_72 ?_
    refine j_oc tx22 (fun a23 ta23 ea23 => ?_)
    subst ea23
    refine j_iald C ta23 dX9_move_73 ?_
    refine j_oc tx21 (fun a24 ta24 ea24 => ?_)
    subst ea24
    refine j_iast C ta24 dX9_move_74 (fun S25 => ?_)
    refine j_iinc C (v := (1 : Int32)) (L' := [(3, vI (p3 + (1 : Int32))), (0, vR (some p0)), (1, vI p1), (2, vI p2)]) dX9_move_75 3 rfl (by decide) (by decide) rfl ?_
    refine j_goto C (tgt := 50) dX9_move_78 (by decide) ?_
    refine j_sub (L' := [(0, vR (some p0)), (1, vI p1), (2, vI p2), (3, vI (p3 + (1 : Int32)))]) [1, 2, 3, 0] rfl ?_
    exact hrec S25 p0 tp0 p1 p2 (p3 + (1 : Int32))
def L_X9_move_50 (N : Nat → Nat) (n : Nat) : sSt → Nat → Int32 → Int32 → Int32 → Option sSt := iter (fun _ _ _ _ _ => none) (Y_X9_move_50 N) n
theorem jL_X9_move_50 {X : jX} (C : jC X cX9_move 4 RX9 rm_X9_move) {Λ : sLay} {r : sSt} (E : jE X none rV Λ ((), r)) : ∀ (n : Nat) (S : sSt) (p0 : Nat) (tp0 : isK Λ 9 p0) (p1 : Int32) (p2 : Int32) (p3 : Int32), J X 4 0 0 50 [(0, vR (some p0)), (1, vI p1), (2, vI p2), (3, vI p3)] [] Λ S (L_X9_move_50 Λ.2.2 n S p0 p1 p2 p3 = some r) := by
  intro n
  induction n with
  | zero => intro S p0 tp0 p1 p2 p3; exact j_no (fun h => by have h2 : (none : Option sSt) = some r := h; cases h2)
  | succ n ih => intro S p0 tp0 p1 p2 p3; exact jY_X9_move_50 C E (L_X9_move_50 Λ.2.2 n) ih S p0 tp0 p1 p2 p3
def F_X9_move (N : Nat → Nat) (S : sSt) (p0 : Nat) (p1 : Int32) (p2 : Int32) : Option sSt := bnd (gFR S 364 p0) (fun x1 => bnd (gFR S 364 p0) (fun x2 => Option.bind x2 (fun a3 => gi p1 (N a3) (Option.bind x1 (fun a4 => gi p2 (N a4) (bnd (sAI S a4 (Int32.toNatClampNeg p2) (gAI S a3 (Int32.toNatClampNeg p1))) (fun S5 => bnd (gFR S5 365 p0) (fun x6 => bnd (gFR S5 365 p0) (fun x7 => Option.bind x7 (fun a8 => gi p1 (N a8) (Option.bind x6 (fun a9 => gi p2 (N a9) (bnd (sAJ S5 a9 (Int32.toNatClampNeg p2) (gAJ S5 a8 (Int32.toNatClampNeg p1))) (fun S10 => bnd (gFR S10 366 p0) (fun x11 => bnd (gFR S10 366 p0) (fun x12 => Option.bind x12 (fun a13 => gi p1 (N a13) (Option.bind x11 (fun a14 => gi p2 (N a14) (bnd (sAI S10 a14 (Int32.toNatClampNeg p2) ((gAI S10 a13 (Int32.toNatClampNeg p1)) &&& 1)) (fun S15 => bnd (gFR S15 367 p0) (fun x16 => bnd (gFR S15 367 p0) (fun x17 => Option.bind x17 (fun a18 => gi p1 (N a18) (Option.bind x16 (fun a19 => gi p2 (N a19) (bnd (sAI S15 a19 (Int32.toNatClampNeg p2) (gAI S15 a18 (Int32.toNatClampNeg p1))) (fun S20 => L_X9_move_50 N FU S20 p0 p1 p2 (0 : Int32)))))))))))))))))))))))))))))
set_option maxHeartbeats 4000000 in
theorem jF_X9_move {X : jX} (C : jC X cX9_move 4 RX9 rm_X9_move) {Λ : sLay} {S : sSt} {r : sSt} (E : jE X none rV Λ ((), r)) (p0 : Nat) (tp0 : isK Λ 9 p0) (p1 : Int32) (p2 : Int32) : J X 4 0 0 0 [(0, vR (some p0)), (1, vI p1), (2, vI p2)] [] Λ S (F_X9_move Λ.2.2 S p0 p1 p2 = some r) := by
  unfold F_X9_move
  refine j_aload_n C dX9_move_0 0 rfl ?_
  refine j_getR C kK9 f364 kfX9_17 (by decide) rfl tp0 dX9_move_1 (fun x1 tx1 => ?_)
  refine j_iload_n C dX9_move_4 2 rfl ?_
  refine j_aload_n C dX9_move_5 0 rfl ?_
  refine j_getR C kK9 f364 kfX9_17 (by decide) rfl tp0 dX9_move_6 (fun x2 tx2 => ?_)
  refine j_iload_n C dX9_move_9 1 rfl ?_
  refine j_oc tx2 (fun a3 ta3 ea3 => ?_)
  subst ea3
  refine j_iald C ta3 dX9_move_10 ?_
  refine j_oc tx1 (fun a4 ta4 ea4 => ?_)
  subst ea4
  refine j_iast C ta4 dX9_move_11 (fun S5 => ?_)
  refine j_aload_n C dX9_move_12 0 rfl ?_
  refine j_getR C kK9 f365 kfX9_20 (by decide) rfl tp0 dX9_move_13 (fun x6 tx6 => ?_)
  refine j_iload_n C dX9_move_16 2 rfl ?_
  refine j_aload_n C dX9_move_17 0 rfl ?_
  refine j_getR C kK9 f365 kfX9_20 (by decide) rfl tp0 dX9_move_18 (fun x7 tx7 => ?_)
  refine j_iload_n C dX9_move_21 1 rfl ?_
  refine j_oc tx7 (fun a8 ta8 ea8 => ?_)
  subst ea8
  refine j_lald C ta8 dX9_move_22 ?_
  refine j_oc tx6 (fun a9 ta9 ea9 => ?_)
  subst ea9
  refine j_last C ta9 dX9_move_23 (fun S10 => ?_)
  refine j_aload_n C dX9_move_24 0 rfl ?_
  refine j_getR C kK9 f366 kfX9_24 (by decide) rfl tp0 dX9_move_25 (fun x11 tx11 => ?_)
  refine j_iload_n C dX9_move_28 2 rfl ?_
  refine j_aload_n C dX9_move_29 0 rfl ?_
  refine j_getR C kK9 f366 kfX9_24 (by decide) rfl tp0 dX9_move_30 (fun x12 tx12 => ?_)
  refine j_iload_n C dX9_move_33 1 rfl ?_
  refine j_oc tx12 (fun a13 ta13 ea13 => ?_)
  subst ea13
  refine j_zald C ta13 dX9_move_34 ?_
  refine j_oc tx11 (fun a14 ta14 ea14 => ?_)
  subst ea14
  refine j_zast C ta14 dX9_move_35 (fun S15 => ?_)
  refine j_aload_n C dX9_move_36 0 rfl ?_
  refine j_getR C kK9 f367 kfX9_27 (by decide) rfl tp0 dX9_move_37 (fun x16 tx16 => ?_)
  refine j_iload_n C dX9_move_40 2 rfl ?_
  refine j_aload_n C dX9_move_41 0 rfl ?_
  refine j_getR C kK9 f367 kfX9_27 (by decide) rfl tp0 dX9_move_42 (fun x17 tx17 => ?_)
  refine j_iload_n C dX9_move_45 1 rfl ?_
  refine j_oc tx17 (fun a18 ta18 ea18 => ?_)
  subst ea18
  refine j_iald C ta18 dX9_move_46 ?_
  refine j_oc tx16 (fun a19 ta19 ea19 => ?_)
  subst ea19
  refine j_iast C ta19 dX9_move_47 (fun S20 => ?_)
  refine j_iconst C (v := (0 : Int32)) dX9_move_48 (by decide) ?_
  refine j_istore_n C (L' := [(3, vI (0 : Int32)), (0, vR (some p0)), (1, vI p1), (2, vI p2)]) dX9_move_49 (by decide) rfl ?_
  refine j_sub (L' := [(0, vR (some p0)), (1, vI p1), (2, vI p2), (3, vI (0 : Int32))]) [1, 2, 3, 0] rfl ?_
  exact jL_X9_move_50 C E FU S20 p0 tp0 p1 p2 (0 : Int32)
theorem c_X9_move {l : Launch} {D : va_G} {cy : Nat → ClassId} {Λ : sLay} {S : sSt} (p0 : Nat) (tp0 : isK Λ 9 p0) (p1 : Int32) (p2 : Int32) {r : sSt} (h : F_X9_move Λ.2.2 S p0 p1 p2 = some r) : jM l yX9_move (Cond.code yX9_move cX9_move 4 none :: bigW) rm_X9_move D cy Λ S [vR (some p0), vI p1, vI p2] rV ((), r) := jM_of (by decide +kernel) (Nat.le_of_ble_eq_true rfl) (fun X C E _ _ _ => j_sub [0, 1, 2] rfl (jF_X9_move C E p0 tp0 p1 p2)) h
/-! RemakeNeeds2Model.give(IIIJZ)I -/
abbrev rm_X9_give : Room := { frames := 2, cells := 0, slots := 0, locals := 43 }
def B_X9_give_144 (N : Nat → Nat) (S : sSt) (p0 : Nat) (p1 : Int32) (p4 : Int64) (p6 : Int32) (p7 : Int32) (p8 : Int32) : Option (Int32 × sSt) := bnd (gFR S 364 p0) (fun x14 => Option.bind x14 (fun a15 => gi p8 (N a15) (bnd (sAI S a15 (Int32.toNatClampNeg p8) p7) (fun S16 => bnd (gFR S16 365 p0) (fun x17 => Option.bind x17 (fun a18 => gi p8 (N a18) (bnd (sAJ S16 a18 (Int32.toNatClampNeg p8) p4) (fun S19 => bnd (gFR S19 366 p0) (fun x20 => Option.bind x20 (fun a21 => gi p8 (N a21) (bnd (sAI S19 a21 (Int32.toNatClampNeg p8) (p6 &&& 1)) (fun S22 => bnd (gFR S22 367 p0) (fun x23 => Option.bind x23 (fun a24 => gi p8 (N a24) (bnd (sAI S22 a24 (Int32.toNatClampNeg p8) (0 : Int32)) (fun S25 => bnd (gFR S25 363 p0) (fun x26 => Option.bind x26 (fun a27 => gi p1 (N a27) (gi p1 (N a27) (bnd (sAI S25 a27 (Int32.toNatClampNeg p1) ((gAI S25 a27 (Int32.toNatClampNeg p1)) + (1 : Int32))) (fun S28 => some ((1 : Int32), S28))))))))))))))))))))))
set_option maxHeartbeats 4000000 in
theorem jB_X9_give_144 {X : jX} (C : jC X cX9_give 9 RX9 rm_X9_give) {Λ : sLay} {r : (Int32 × sSt)} (E : jE X (some .int) rI Λ r) : ∀ (S : sSt) (p0 : Nat) (tp0 : isK Λ 9 p0) (p1 : Int32) (p4 : Int64) (p6 : Int32) (p7 : Int32) (p8 : Int32), J X 9 0 0 144 [(0, vR (some p0)), (1, vI p1), (4, vJ p4), (6, vI p6), (7, vI p7), (8, vI p8)] [] Λ S (B_X9_give_144 Λ.2.2 S p0 p1 p4 p6 p7 p8 = some r) := by
  intro S p0 tp0 p1 p4 p6 p7 p8
  unfold B_X9_give_144
  refine j_aload_n C dX9_give_144 0 rfl ?_
  refine j_getR C kK9 f364 kfX9_17 (by decide) rfl tp0 dX9_give_145 (fun x14 tx14 => ?_)
  refine j_iload C dX9_give_148 5 rfl ?_
  refine j_iload C dX9_give_150 4 rfl ?_
  refine j_oc tx14 (fun a15 ta15 ea15 => ?_)
  subst ea15
  refine j_iast C ta15 dX9_give_152 (fun S16 => ?_)
  refine j_aload_n C dX9_give_153 0 rfl ?_
  refine j_getR C kK9 f365 kfX9_20 (by decide) rfl tp0 dX9_give_154 (fun x17 tx17 => ?_)
  refine j_iload C dX9_give_157 5 rfl ?_
  refine j_lload C dX9_give_159 2 rfl ?_
  refine j_oc tx17 (fun a18 ta18 ea18 => ?_)
  subst ea18
  refine j_last C ta18 dX9_give_161 (fun S19 => ?_)
  refine j_aload_n C dX9_give_162 0 rfl ?_
  refine j_getR C kK9 f366 kfX9_24 (by decide) rfl tp0 dX9_give_163 (fun x20 tx20 => ?_)
  refine j_iload C dX9_give_166 5 rfl ?_
  refine j_iload C dX9_give_168 3 rfl ?_
  refine j_oc tx20 (fun a21 ta21 ea21 => ?_)
  subst ea21
  refine j_zast C ta21 dX9_give_170 (fun S22 => ?_)
  refine j_aload_n C dX9_give_171 0 rfl ?_
  refine j_getR C kK9 f367 kfX9_27 (by decide) rfl tp0 dX9_give_172 (fun x23 tx23 => ?_)
  refine j_iload C dX9_give_175 5 rfl ?_
  refine j_iconst C (v := (0 : Int32)) dX9_give_177 (by decide) ?_
  refine j_oc tx23 (fun a24 ta24 ea24 => ?_)
  subst ea24
  refine j_iast C ta24 dX9_give_178 (fun S25 => ?_)
  refine j_aload_n C dX9_give_179 0 rfl ?_
  refine j_getR C kK9 f363 kfX9_13 (by decide) rfl tp0 dX9_give_180 (fun x26 tx26 => ?_)
  refine j_iload_n C dX9_give_183 1 rfl ?_
  refine j_dup2 C dX9_give_184 rfl rfl ?_
  refine j_oc tx26 (fun a27 ta27 ea27 => ?_)
  subst ea27
  refine j_iald C ta27 dX9_give_185 ?_
  refine j_iconst C (v := (1 : Int32)) dX9_give_186 (by decide) ?_
  refine j_iadd C dX9_give_187 ?_
  refine j_iast C ta27 dX9_give_188 (fun S28 => ?_)
  refine j_iconst C (v := (1 : Int32)) dX9_give_189 (by decide) ?_
  exact j_iret C E dX9_give_190
def Y_X9_give_105 (N : Nat → Nat) (rec : sSt → Nat → Int32 → Int64 → Int32 → Int32 → Int32 → Option (Int32 × sSt)) (S : sSt) (p0 : Nat) (p1 : Int32) (p4 : Int64) (p6 : Int32) (p7 : Int32) (p8 : Int32) : Option (Int32 × sSt) := (if p8 ≤ ((10 : Int32) * p1) then B_X9_give_144 N S p0 p1 p4 p6 p7 p8 else bnd (gFR S 364 p0) (fun x29 => Option.bind x29 (fun a30 => gi (p8 - (1 : Int32)) (N a30) ((if (gAI S a30 (Int32.toNatClampNeg (p8 - (1 : Int32)))) ≤ p7 then B_X9_give_144 N S p0 p1 p4 p6 p7 p8 else Option.bind (F_X9_move N S p0 (p8 - (1 : Int32)) p8) (fun S32 => rec S32 p0 p1 p4 p6 p7 (p8 + (-1 : Int32))))))))
set_option maxHeartbeats 4000000 in
theorem jY_X9_give_105 {X : jX} (C : jC X cX9_give 9 RX9 rm_X9_give) {Λ : sLay} {r : (Int32 × sSt)} (E : jE X (some .int) rI Λ r) (rec : sSt → Nat → Int32 → Int64 → Int32 → Int32 → Int32 → Option (Int32 × sSt)) (hrec : ∀ (S : sSt) (p0 : Nat) (tp0 : isK Λ 9 p0) (p1 : Int32) (p4 : Int64) (p6 : Int32) (p7 : Int32) (p8 : Int32), J X 9 0 0 105 [(0, vR (some p0)), (1, vI p1), (4, vJ p4), (6, vI p6), (7, vI p7), (8, vI p8)] [] Λ S (rec S p0 p1 p4 p6 p7 p8 = some r)) : ∀ (S : sSt) (p0 : Nat) (tp0 : isK Λ 9 p0) (p1 : Int32) (p4 : Int64) (p6 : Int32) (p7 : Int32) (p8 : Int32), J X 9 0 0 105 [(0, vR (some p0)), (1, vI p1), (4, vJ p4), (6, vI p6), (7, vI p7), (8, vI p8)] [] Λ S (Y_X9_give_105 Λ.2.2 rec S p0 p1 p4 p6 p7 p8 = some r) := by
  intro S p0 tp0 p1 p4 p6 p7 p8
  unfold Y_X9_give_105
  refine j_iload C dX9_give_105 5 rfl ?_
  refine j_bipush C (v := (10 : Int32)) dX9_give_107 (by decide) ?_
  refine j_iload_n C dX9_give_109 1 rfl ?_
  refine j_imul C dX9_give_110 ?_
  refine j_icmp_le C (tgt := 144) dX9_give_111 (by decide) ?_ ?_
  · exact jB_X9_give_144 C E S p0 tp0 p1 p4 p6 p7 p8
  · refine j_aload_n C dX9_give_114 0 rfl ?_
    refine j_getR C kK9 f364 kfX9_17 (by decide) rfl tp0 dX9_give_115 (fun x29 tx29 => ?_)
    refine j_iload C dX9_give_118 5 rfl ?_
    refine j_iconst C (v := (1 : Int32)) dX9_give_120 (by decide) ?_
    refine j_isub C dX9_give_121 ?_
    refine j_oc tx29 (fun a30 ta30 ea30 => ?_)
    subst ea30
    refine j_iald C ta30 dX9_give_122 ?_
    refine j_iload C dX9_give_123 4 rfl ?_
    refine j_icmp_le C (tgt := 144) dX9_give_125 (by decide) ?_ ?_
    · exact jB_X9_give_144 C E S p0 tp0 p1 p4 p6 p7 p8
    · refine j_aload_n C dX9_give_128 0 rfl ?_
      refine j_iload C dX9_give_129 5 rfl ?_
      refine j_iconst C (v := (1 : Int32)) dX9_give_131 (by decide) ?_
      refine j_isub C dX9_give_132 ?_
      refine j_iload C dX9_give_133 5 rfl ?_
      refine j_cVVV C [vI (p8 - (1 : Int32)), vI p8] [] (fun _ e => c_X9_move p0 tp0 (p8 - (1 : Int32)) p8 e) kYX9_move kVX9_move kmX9_121 kO9 tp0 rfl rfl ⟨rfl, rfl, by decide, by decide⟩ (Nat.le_of_ble_eq_true rfl) ⟨Nat.zero_le _, Nat.zero_le _⟩ dX9_give_135 (fun S32 => ?_)
      refine j_iinc C (v := (-1 : Int32)) (L' := [(8, vI (p8 + (-1 : Int32))), (0, vR (some p0)), (1, vI p1), (4, vJ p4), (6, vI p6), (7, vI p7)]) dX9_give_138 5 rfl (by decide) (by decide) rfl ?_
      refine j_goto C (tgt := 105) dX9_give_141 (by decide) ?_
      refine j_sub (L' := [(0, vR (some p0)), (1, vI p1), (4, vJ p4), (6, vI p6), (7, vI p7), (8, vI (p8 + (-1 : Int32)))]) [1, 2, 3, 4, 5, 0] rfl ?_
      exact hrec S32 p0 tp0 p1 p4 p6 p7 (p8 + (-1 : Int32))
def L_X9_give_105 (N : Nat → Nat) (n : Nat) : sSt → Nat → Int32 → Int64 → Int32 → Int32 → Int32 → Option (Int32 × sSt) := iter (fun _ _ _ _ _ _ _ => none) (Y_X9_give_105 N) n
theorem jL_X9_give_105 {X : jX} (C : jC X cX9_give 9 RX9 rm_X9_give) {Λ : sLay} {r : (Int32 × sSt)} (E : jE X (some .int) rI Λ r) : ∀ (n : Nat) (S : sSt) (p0 : Nat) (tp0 : isK Λ 9 p0) (p1 : Int32) (p4 : Int64) (p6 : Int32) (p7 : Int32) (p8 : Int32), J X 9 0 0 105 [(0, vR (some p0)), (1, vI p1), (4, vJ p4), (6, vI p6), (7, vI p7), (8, vI p8)] [] Λ S (L_X9_give_105 Λ.2.2 n S p0 p1 p4 p6 p7 p8 = some r) := by
  intro n
  induction n with
  | zero => intro S p0 tp0 p1 p4 p6 p7 p8; exact j_no (fun h => by have h2 : (none : Option (Int32 × sSt)) = some r := h; cases h2)
  | succ n ih => intro S p0 tp0 p1 p4 p6 p7 p8; exact jY_X9_give_105 C E (L_X9_give_105 Λ.2.2 n) ih S p0 tp0 p1 p4 p6 p7 p8
def F_X9_give (N : Nat → Nat) (S : sSt) (p0 : Nat) (p1 : Int32) (p2 : Int32) (p3 : Int32) (p4 : Int64) (p6 : Int32) : Option (Int32 × sSt) := bnd (sFI S 360 p0 (0 : Int32)) (fun S1 => Option.bind (F_X9_isUnit N S1 p0 p1) (fun v2 => (if v2 = 0 then some ((-1 : Int32), S1) else Option.bind (F_X9_in N S1 p2 (0 : Int32) (2 : Int32)) (fun v4 => (if v4 = 0 then some ((-2 : Int32), S1) else Option.bind (F_X9_isName N S1 p3) (fun v6 => (if v6 = 0 then some ((-2 : Int32), S1) else Option.bind (F_X9_thingOf N S1 p0 p1 (((32 : Int32) * p2) + p3)) (fun v8 => (if v8 = (-5 : Int32) then bnd (gFR S1 363 p0) (fun x10 => Option.bind x10 (fun a11 => gi p1 (N a11) ((if (gAI S1 a11 (Int32.toNatClampNeg p1)) = (10 : Int32) then some ((-4 : Int32), S1) else bnd (gFR S1 363 p0) (fun x12 => Option.bind x12 (fun a13 => gi p1 (N a13) (L_X9_give_105 N FU S1 p0 p1 p4 p6 (((32 : Int32) * p2) + p3) (((10 : Int32) * p1) + (gAI S1 a13 (Int32.toNatClampNeg p1)))))))))) else bnd (gFR S1 365 p0) (fun x33 => Option.bind x33 (fun a34 => gi v8 (N a34) (bnd (sAJ S1 a34 (Int32.toNatClampNeg v8) p4) (fun S35 => bnd (gFR S35 366 p0) (fun x36 => Option.bind x36 (fun a37 => gi v8 (N a37) (bnd (sAI S35 a37 (Int32.toNatClampNeg v8) (p6 &&& 1)) (fun S38 => some ((0 : Int32), S38))))))))))))))))))
set_option maxHeartbeats 4000000 in
theorem jF_X9_give {X : jX} (C : jC X cX9_give 9 RX9 rm_X9_give) {Λ : sLay} {S : sSt} {r : (Int32 × sSt)} (E : jE X (some .int) rI Λ r) (p0 : Nat) (tp0 : isK Λ 9 p0) (p1 : Int32) (p2 : Int32) (p3 : Int32) (p4 : Int64) (p6 : Int32) : J X 9 0 0 0 [(0, vR (some p0)), (1, vI p1), (2, vI p2), (3, vI p3), (4, vJ p4), (6, vI p6)] [] Λ S (F_X9_give Λ.2.2 S p0 p1 p2 p3 p4 p6 = some r) := by
  unfold F_X9_give
  refine j_aload_n C dX9_give_0 0 rfl ?_
  refine j_iconst C (v := (0 : Int32)) dX9_give_1 (by decide) ?_
  refine j_putI C kK9 f360 kfX9_99 (by decide) rfl rfl rfl tp0 dX9_give_2 (fun S1 => ?_)
  refine j_aload_n C dX9_give_5 0 rfl ?_
  refine j_iload_n C dX9_give_6 1 rfl ?_
  refine j_cVIP C [vI p1] [] (fun _ e => c_X9_isUnit p0 tp0 p1 e) kYX9_isUnit kVX9_isUnit kmX9_110 kO9 tp0 rfl rfl ⟨rfl, rfl, by decide, by decide⟩ (Nat.le_of_ble_eq_true rfl) ⟨Nat.zero_le _, Nat.zero_le _⟩ dX9_give_7 (fun v2 => ?_)
  refine j_if_ne C (tgt := 15) dX9_give_10 (by decide) ?_ ?_
  · refine j_iload_n C dX9_give_15 2 rfl ?_
    refine j_iconst C (v := (0 : Int32)) dX9_give_16 (by decide) ?_
    refine j_iconst C (v := (2 : Int32)) dX9_give_17 (by decide) ?_
    refine j_cSIP C [vI p2, vI (0 : Int32), vI (2 : Int32)] [] (fun _ e => c_X9_in p2 (0 : Int32) (2 : Int32) e) kYX9_in kSX9_in kmX9_106 rfl rfl ⟨rfl, rfl, by decide, by decide⟩ (Nat.le_of_ble_eq_true rfl) ⟨Nat.zero_le _, Nat.zero_le _⟩ dX9_give_18 (fun v4 => ?_)
    refine j_if_eq C (tgt := 31) dX9_give_21 (by decide) ?_ ?_
    · refine j_bipush C (v := (-2 : Int32)) dX9_give_31 (by decide) ?_
      exact j_iret C E dX9_give_33
    · refine j_iload_n C dX9_give_24 3 rfl ?_
      refine j_cSIP C [vI p3] [] (fun _ e => c_X9_isName p3 e) kYX9_isName kSX9_isName kmX9_114 rfl rfl ⟨rfl, rfl, by decide, by decide⟩ (Nat.le_of_ble_eq_true rfl) ⟨Nat.zero_le _, Nat.zero_le _⟩ dX9_give_25 (fun v6 => ?_)
      refine j_if_ne C (tgt := 34) dX9_give_28 (by decide) ?_ ?_
      · refine j_bipush C (v := (32 : Int32)) dX9_give_34 (by decide) ?_
        refine j_iload_n C dX9_give_36 2 rfl ?_
        refine j_imul C dX9_give_37 ?_
        refine j_iload_n C dX9_give_38 3 rfl ?_
        refine j_iadd C dX9_give_39 ?_
        refine j_istore C (L' := [(7, vI (((32 : Int32) * p2) + p3)), (0, vR (some p0)), (1, vI p1), (2, vI p2), (3, vI p3), (4, vJ p4), (6, vI p6)]) dX9_give_40 (by decide) rfl ?_
        refine j_aload_n C dX9_give_42 1 rfl ?_
        refine j_iload_n C dX9_give_43 2 rfl ?_
        refine j_iload C dX9_give_44 0 rfl ?_
        refine j_cVIP C [vI p1, vI (((32 : Int32) * p2) + p3)] [] (fun _ e => c_X9_thingOf p0 tp0 p1 (((32 : Int32) * p2) + p3) e) kYX9_thingOf kVX9_thingOf kmX9_117 kO9 tp0 rfl rfl ⟨rfl, rfl, by decide, by decide⟩ (Nat.le_of_ble_eq_true rfl) ⟨Nat.zero_le _, Nat.zero_le _⟩ dX9_give_46 (fun v8 => ?_)
        refine j_istore C (L' := [(8, vI v8), (7, vI (((32 : Int32) * p2) + p3)), (0, vR (some p0)), (1, vI p1), (2, vI p2), (3, vI p3), (4, vJ p4), (6, vI p6)]) dX9_give_49 (by decide) rfl ?_
        refine j_iload C dX9_give_51 0 rfl ?_
        refine j_bipush C (v := (-5 : Int32)) dX9_give_53 (by decide) ?_
        refine j_icmp_eq C (tgt := 78) dX9_give_55 (by decide) ?_ ?_
        · refine j_aload_n C dX9_give_78 2 rfl ?_
          refine j_getR C kK9 f363 kfX9_13 (by decide) rfl tp0 dX9_give_79 (fun x10 tx10 => ?_)
          refine j_iload_n C dX9_give_82 3 rfl ?_
          refine j_oc tx10 (fun a11 ta11 ea11 => ?_)
          subst ea11
          refine j_iald C ta11 dX9_give_83 ?_
          refine j_bipush C (v := (10 : Int32)) dX9_give_84 (by decide) ?_
          refine j_icmp_ne C (tgt := 92) dX9_give_86 (by decide) ?_ ?_
          · refine j_bipush C (v := (10 : Int32)) dX9_give_92 (by decide) ?_
            refine j_iload_n C dX9_give_94 3 rfl ?_
            refine j_imul C dX9_give_95 ?_
            refine j_aload_n C dX9_give_96 2 rfl ?_
            refine j_getR C kK9 f363 kfX9_13 (by decide) rfl tp0 dX9_give_97 (fun x12 tx12 => ?_)
            refine j_iload_n C dX9_give_100 3 rfl ?_
            refine j_oc tx12 (fun a13 ta13 ea13 => ?_)
            subst ea13
            refine j_iald C ta13 dX9_give_101 ?_
            refine j_iadd C dX9_give_102 ?_
            refine j_istore C (L' := [(8, vI (((10 : Int32) * p1) + (gAI S1 a13 (Int32.toNatClampNeg p1)))), (7, vI (((32 : Int32) * p2) + p3)), (0, vR (some p0)), (1, vI p1), (2, vI p2), (3, vI p3), (4, vJ p4), (6, vI p6)]) dX9_give_103 (by decide) rfl ?_
            refine j_sub (L' := [(0, vR (some p0)), (1, vI p1), (4, vJ p4), (6, vI p6), (7, vI (((32 : Int32) * p2) + p3)), (8, vI (((10 : Int32) * p1) + (gAI S1 a13 (Int32.toNatClampNeg p1))))]) [2, 3, 6, 7, 1, 0] rfl ?_
            exact jL_X9_give_105 C E FU S1 p0 tp0 p1 p4 p6 (((32 : Int32) * p2) + p3) (((10 : Int32) * p1) + (gAI S1 a13 (Int32.toNatClampNeg p1)))
          · refine j_bipush C (v := (-4 : Int32)) dX9_give_89 (by decide) ?_
            exact j_iret C E dX9_give_91
        · refine j_aload_n C dX9_give_58 2 rfl ?_
          refine j_getR C kK9 f365 kfX9_20 (by decide) rfl tp0 dX9_give_59 (fun x33 tx33 => ?_)
          refine j_iload C dX9_give_62 0 rfl ?_
          refine j_lload C dX9_give_64 6 rfl ?_
          refine j_oc tx33 (fun a34 ta34 ea34 => ?_)
          subst ea34
          refine j_last C ta34 dX9_give_66 (fun S35 => ?_)
          refine j_aload_n C dX9_give_67 2 rfl ?_
          refine j_getR C kK9 f366 kfX9_24 (by decide) rfl tp0 dX9_give_68 (fun x36 tx36 => ?_)
          refine j_iload C dX9_give_71 0 rfl ?_
          refine j_iload C dX9_give_73 7 rfl ?_
          refine j_oc tx36 (fun a37 ta37 ea37 => ?_)
          subst ea37
          refine j_zast C ta37 dX9_give_75 (fun S38 => ?_)
          refine j_iconst C (v := (0 : Int32)) dX9_give_76 (by decide) ?_
          exact j_iret C E dX9_give_77
      · refine j_bipush C (v := (-2 : Int32)) dX9_give_31 (by decide) ?_
        exact j_iret C E dX9_give_33
  · refine j_iconst C (v := (-1 : Int32)) dX9_give_13 (by decide) ?_
    exact j_iret C E dX9_give_14
theorem c_X9_give {l : Launch} {D : va_G} {cy : Nat → ClassId} {Λ : sLay} {S : sSt} (p0 : Nat) (tp0 : isK Λ 9 p0) (p1 : Int32) (p2 : Int32) (p3 : Int32) (p4 : Int64) (p6 : Int32) {v : Int32} {S1 : sSt} (h : F_X9_give Λ.2.2 S p0 p1 p2 p3 p4 p6 = some (v, S1)) : jM l yX9_give (Cond.code yX9_give cX9_give 9 (some .int) :: bigW) rm_X9_give D cy Λ S [vR (some p0), vI p1, vI p2, vI p3, vJ p4, vI p6] rI (v, S1) := jM_of (by decide +kernel) (Nat.le_of_ble_eq_true rfl) (fun X C E _ _ _ => j_sub [0, 1, 2, 3, 4, 5] rfl (jF_X9_give C E p0 tp0 p1 p2 p3 p4 p6)) h
/-! RemakeNeeds2Model.isOnWay(II)Z -/
abbrev rm_X9_isOnWay : Room := { frames := 0, cells := 0, slots := 0, locals := 0 }
def B_X9_isOnWay_41 (N : Nat → Nat) (S : sSt) (k5 : Nat → Int32 → Int32 → Int32 → Int32 → Option Int32) (p0 : Nat) (p1 : Int32) (p2 : Int32) (p4 : Int32) (s0 : Int32) : Option Int32 := k5 p0 p1 p2 s0 (p4 + (1 : Int32))
set_option maxHeartbeats 4000000 in
theorem jB_X9_isOnWay_41 {X : jX} (C : jC X cX9_isOnWay 5 RX9 rm_X9_isOnWay) {Λ : sLay} {S : sSt} {r : Int32} (E : jE X (some .boolean) rI Λ (r, S)) (k5 : Nat → Int32 → Int32 → Int32 → Int32 → Option Int32) (hk5 : ∀ (p0 : Nat) (tp0 : isK Λ 9 p0) (p1 : Int32) (p2 : Int32) (p3 : Int32) (p4 : Int32), J X 5 0 0 5 [(0, vR (some p0)), (1, vI p1), (2, vI p2), (3, vI p3), (4, vI p4)] [] Λ S (k5 p0 p1 p2 p3 p4 = some r)) : ∀ (p0 : Nat) (tp0 : isK Λ 9 p0) (p1 : Int32) (p2 : Int32) (p4 : Int32) (s0 : Int32), J X 5 0 0 41 [(0, vR (some p0)), (1, vI p1), (2, vI p2), (4, vI p4)] [vI s0] Λ S (B_X9_isOnWay_41 Λ.2.2 S k5 p0 p1 p2 p4 s0 = some r) := by
  intro p0 tp0 p1 p2 p4 s0
  unfold B_X9_isOnWay_41
  refine j_istore_n C (L' := [(3, vI s0), (0, vR (some p0)), (1, vI p1), (2, vI p2), (4, vI p4)]) dX9_isOnWay_41 (by decide) rfl ?_
  refine j_iinc C (v := (1 : Int32)) (L' := [(4, vI (p4 + (1 : Int32))), (3, vI s0), (0, vR (some p0)), (1, vI p1), (2, vI p2)]) dX9_isOnWay_42 4 rfl (by decide) (by decide) rfl ?_
  refine j_goto C (tgt := 5) dX9_isOnWay_45 (by decide) ?_
  refine j_sub (L' := [(0, vR (some p0)), (1, vI p1), (2, vI p2), (3, vI s0), (4, vI (p4 + (1 : Int32)))]) [2, 3, 4, 1, 0] rfl ?_
  exact hk5 p0 tp0 p1 p2 s0 (p4 + (1 : Int32))
def B_X9_isOnWay_36 (N : Nat → Nat) (S : sSt) (k5 : Nat → Int32 → Int32 → Int32 → Int32 → Option Int32) (p0 : Nat) (p1 : Int32) (p2 : Int32) (p4 : Int32) : Option Int32 := B_X9_isOnWay_41 N S k5 p0 p1 p2 p4 (1 : Int32)
set_option maxHeartbeats 4000000 in
theorem jB_X9_isOnWay_36 {X : jX} (C : jC X cX9_isOnWay 5 RX9 rm_X9_isOnWay) {Λ : sLay} {S : sSt} {r : Int32} (E : jE X (some .boolean) rI Λ (r, S)) (k5 : Nat → Int32 → Int32 → Int32 → Int32 → Option Int32) (hk5 : ∀ (p0 : Nat) (tp0 : isK Λ 9 p0) (p1 : Int32) (p2 : Int32) (p3 : Int32) (p4 : Int32), J X 5 0 0 5 [(0, vR (some p0)), (1, vI p1), (2, vI p2), (3, vI p3), (4, vI p4)] [] Λ S (k5 p0 p1 p2 p3 p4 = some r)) : ∀ (p0 : Nat) (tp0 : isK Λ 9 p0) (p1 : Int32) (p2 : Int32) (p4 : Int32), J X 5 0 0 36 [(0, vR (some p0)), (1, vI p1), (2, vI p2), (4, vI p4)] [] Λ S (B_X9_isOnWay_36 Λ.2.2 S k5 p0 p1 p2 p4 = some r) := by
  intro p0 tp0 p1 p2 p4
  unfold B_X9_isOnWay_36
  refine j_iconst C (v := (1 : Int32)) dX9_isOnWay_36 (by decide) ?_
  refine j_goto C (tgt := 41) dX9_isOnWay_37 (by decide) ?_
  exact jB_X9_isOnWay_41 C E k5 hk5 p0 tp0 p1 p2 p4 (1 : Int32)
def Y_X9_isOnWay_5 (N : Nat → Nat) (S : sSt) (rec : Nat → Int32 → Int32 → Int32 → Int32 → Option Int32) (p0 : Nat) (p1 : Int32) (p2 : Int32) (p3 : Int32) (p4 : Int32) : Option Int32 := bnd (gFR S 369 p0) (fun x1 => Option.bind x1 (fun a2 => gi p1 (N a2) ((if (gAI S a2 (Int32.toNatClampNeg p1)) ≤ p4 then gb p3 (some p3) else (if p3 = 0 then bnd (gFR S 370 p0) (fun x3 => Option.bind x3 (fun a4 => gi (((6 : Int32) * p1) + p4) (N a4) ((if (gAI S a4 (Int32.toNatClampNeg (((6 : Int32) * p1) + p4))) = p2 then B_X9_isOnWay_36 N S rec p0 p1 p2 p4 else B_X9_isOnWay_41 N S rec p0 p1 p2 p4 (0 : Int32))))) else B_X9_isOnWay_36 N S rec p0 p1 p2 p4)))))
set_option maxHeartbeats 4000000 in
theorem jY_X9_isOnWay_5 {X : jX} (C : jC X cX9_isOnWay 5 RX9 rm_X9_isOnWay) {Λ : sLay} {S : sSt} {r : Int32} (E : jE X (some .boolean) rI Λ (r, S)) (rec : Nat → Int32 → Int32 → Int32 → Int32 → Option Int32) (hrec : ∀ (p0 : Nat) (tp0 : isK Λ 9 p0) (p1 : Int32) (p2 : Int32) (p3 : Int32) (p4 : Int32), J X 5 0 0 5 [(0, vR (some p0)), (1, vI p1), (2, vI p2), (3, vI p3), (4, vI p4)] [] Λ S (rec p0 p1 p2 p3 p4 = some r)) : ∀ (p0 : Nat) (tp0 : isK Λ 9 p0) (p1 : Int32) (p2 : Int32) (p3 : Int32) (p4 : Int32), J X 5 0 0 5 [(0, vR (some p0)), (1, vI p1), (2, vI p2), (3, vI p3), (4, vI p4)] [] Λ S (Y_X9_isOnWay_5 Λ.2.2 S rec p0 p1 p2 p3 p4 = some r) := by
  intro p0 tp0 p1 p2 p3 p4
  unfold Y_X9_isOnWay_5
  refine j_iload C dX9_isOnWay_5 4 rfl ?_
  refine j_aload_n C dX9_isOnWay_7 0 rfl ?_
  refine j_getR C kK9 f369 kfX9_33 (by decide) rfl tp0 dX9_isOnWay_8 (fun x1 tx1 => ?_)
  refine j_iload_n C dX9_isOnWay_11 1 rfl ?_
  refine j_oc tx1 (fun a2 ta2 ea2 => ?_)
  subst ea2
  refine j_iald C ta2 dX9_isOnWay_12 ?_
  refine j_icmp_ge C (tgt := 48) dX9_isOnWay_13 (by decide) ?_ ?_
  · refine j_iload_n C dX9_isOnWay_48 3 rfl ?_
    exact j_zretP C E dX9_isOnWay_49
  · refine j_iload_n C dX9_isOnWay_16 3 rfl ?_
    refine j_if_ne C (tgt := 36) dX9_isOnWay_17 (by decide) ?_ ?_
    · refine j_sub (L' := [(0, vR (some p0)), (1, vI p1), (2, vI p2), (4, vI p4)]) [0, 1, 2, 4] rfl ?_
      exact jB_X9_isOnWay_36 C E rec hrec p0 tp0 p1 p2 p4
    · refine j_aload_n C dX9_isOnWay_20 0 rfl ?_
      refine j_getR C kK9 f370 kfX9_36 (by decide) rfl tp0 dX9_isOnWay_21 (fun x3 tx3 => ?_)
      refine j_bipush C (v := (6 : Int32)) dX9_isOnWay_24 (by decide) ?_
      refine j_iload_n C dX9_isOnWay_26 1 rfl ?_
      refine j_imul C dX9_isOnWay_27 ?_
      refine j_iload C dX9_isOnWay_28 4 rfl ?_
      refine j_iadd C dX9_isOnWay_30 ?_
      refine j_oc tx3 (fun a4 ta4 ea4 => ?_)
      subst ea4
      refine j_iald C ta4 dX9_isOnWay_31 ?_
      refine j_iload_n C dX9_isOnWay_32 2 rfl ?_
      refine j_icmp_ne C (tgt := 40) dX9_isOnWay_33 (by decide) ?_ ?_
      · refine j_iconst C (v := (0 : Int32)) dX9_isOnWay_40 (by decide) ?_
        refine j_sub (L' := [(0, vR (some p0)), (1, vI p1), (2, vI p2), (4, vI p4)]) [0, 1, 2, 4] rfl ?_
        exact jB_X9_isOnWay_41 C E rec hrec p0 tp0 p1 p2 p4 (0 : Int32)
      · refine j_sub (L' := [(0, vR (some p0)), (1, vI p1), (2, vI p2), (4, vI p4)]) [0, 1, 2, 4] rfl ?_
        exact jB_X9_isOnWay_36 C E rec hrec p0 tp0 p1 p2 p4
def L_X9_isOnWay_5 (N : Nat → Nat) (S : sSt) (n : Nat) : Nat → Int32 → Int32 → Int32 → Int32 → Option Int32 := iter (fun _ _ _ _ _ => none) (Y_X9_isOnWay_5 N S) n
theorem jL_X9_isOnWay_5 {X : jX} (C : jC X cX9_isOnWay 5 RX9 rm_X9_isOnWay) {Λ : sLay} {S : sSt} {r : Int32} (E : jE X (some .boolean) rI Λ (r, S)) : ∀ (n : Nat) (p0 : Nat) (tp0 : isK Λ 9 p0) (p1 : Int32) (p2 : Int32) (p3 : Int32) (p4 : Int32), J X 5 0 0 5 [(0, vR (some p0)), (1, vI p1), (2, vI p2), (3, vI p3), (4, vI p4)] [] Λ S (L_X9_isOnWay_5 Λ.2.2 S n p0 p1 p2 p3 p4 = some r) := by
  intro n
  induction n with
  | zero => intro p0 tp0 p1 p2 p3 p4; exact j_no (fun h => by have h2 : (none : Option Int32) = some r := h; cases h2)
  | succ n ih => intro p0 tp0 p1 p2 p3 p4; exact jY_X9_isOnWay_5 C E (L_X9_isOnWay_5 Λ.2.2 S n) ih p0 tp0 p1 p2 p3 p4
def F_X9_isOnWay (N : Nat → Nat) (S : sSt) (p0 : Nat) (p1 : Int32) (p2 : Int32) : Option Int32 := L_X9_isOnWay_5 N S FU p0 p1 p2 (0 : Int32) (0 : Int32)
set_option maxHeartbeats 4000000 in
theorem jF_X9_isOnWay {X : jX} (C : jC X cX9_isOnWay 5 RX9 rm_X9_isOnWay) {Λ : sLay} {S : sSt} {r : Int32} (E : jE X (some .boolean) rI Λ (r, S)) (p0 : Nat) (tp0 : isK Λ 9 p0) (p1 : Int32) (p2 : Int32) : J X 5 0 0 0 [(0, vR (some p0)), (1, vI p1), (2, vI p2)] [] Λ S (F_X9_isOnWay Λ.2.2 S p0 p1 p2 = some r) := by
  unfold F_X9_isOnWay
  refine j_iconst C (v := (0 : Int32)) dX9_isOnWay_0 (by decide) ?_
  refine j_istore_n C (L' := [(3, vI (0 : Int32)), (0, vR (some p0)), (1, vI p1), (2, vI p2)]) dX9_isOnWay_1 (by decide) rfl ?_
  refine j_iconst C (v := (0 : Int32)) dX9_isOnWay_2 (by decide) ?_
  refine j_istore C (L' := [(4, vI (0 : Int32)), (3, vI (0 : Int32)), (0, vR (some p0)), (1, vI p1), (2, vI p2)]) dX9_isOnWay_3 (by decide) rfl ?_
  refine j_sub (L' := [(0, vR (some p0)), (1, vI p1), (2, vI p2), (3, vI (0 : Int32)), (4, vI (0 : Int32))]) [2, 3, 4, 1, 0] rfl ?_
  exact jL_X9_isOnWay_5 C E FU p0 tp0 p1 p2 (0 : Int32) (0 : Int32)
theorem c_X9_isOnWay {l : Launch} {D : va_G} {cy : Nat → ClassId} {Λ : sLay} {S : sSt} (p0 : Nat) (tp0 : isK Λ 9 p0) (p1 : Int32) (p2 : Int32) {r : Int32} (h : F_X9_isOnWay Λ.2.2 S p0 p1 p2 = some r) : jM l yX9_isOnWay (Cond.code yX9_isOnWay cX9_isOnWay 5 (some .boolean) :: bigW) rm_X9_isOnWay D cy Λ S [vR (some p0), vI p1, vI p2] rI (r, S) := jM_of (by decide +kernel) (Nat.le_of_ble_eq_true rfl) (fun X C E _ _ _ => j_sub [0, 1, 2] rfl (jF_X9_isOnWay C E p0 tp0 p1 p2)) h
/-! RemakeNeeds2Model.kept(II)J -/
abbrev rm_X9_kept : Room := { frames := 2, cells := 0, slots := 0, locals := 43 }
def B_X9_kept_55 (N : Nat → Nat) (S : sSt) (p0 : Nat) (p1 : Int32) (p2 : Int32) (s0 : Int32) (s1 : Nat) : Option (Int64 × sSt) := bnd (sFI S 360 s1 s0) (fun S10 => (if (gFI S10 360 p0) = 0 then bnd (gFR S10 375 p0) (fun x11 => Option.bind x11 (fun a12 => gi (((700 : Int32) * p1) + p2) (N a12) (some ((gAJ S10 a12 (Int32.toNatClampNeg (((700 : Int32) * p1) + p2))), S10)))) else some ((0 : Int64), S10)))
set_option maxHeartbeats 4000000 in
theorem jB_X9_kept_55 {X : jX} (C : jC X cX9_kept 3 RX9 rm_X9_kept) {Λ : sLay} {r : (Int64 × sSt)} (E : jE X (some .long) rJ Λ r) : ∀ (S : sSt) (p0 : Nat) (tp0 : isK Λ 9 p0) (p1 : Int32) (p2 : Int32) (s0 : Int32) (s1 : Nat) (ts1 : isK Λ 9 s1), J X 3 0 0 55 [(0, vR (some p0)), (1, vI p1), (2, vI p2)] [vI s0, vR (some s1)] Λ S (B_X9_kept_55 Λ.2.2 S p0 p1 p2 s0 s1 = some r) := by
  intro S p0 tp0 p1 p2 s0 s1 ts1
  unfold B_X9_kept_55
  refine j_putI C kK9 f360 kfX9_99 (by decide) rfl rfl rfl ts1 dX9_kept_55 (fun S10 => ?_)
  refine j_aload_n C dX9_kept_58 0 rfl ?_
  refine j_getI C kK9 f360 kfX9_99 (by decide) tp0 dX9_kept_59 ?_
  refine j_if_ne C (tgt := 80) dX9_kept_62 (by decide) ?_ ?_
  · refine j_lconst C (v := (0 : Int64)) dX9_kept_80 (by decide) ?_
    exact j_lret C E dX9_kept_81
  · refine j_aload_n C dX9_kept_65 0 rfl ?_
    refine j_getR C kK9 f375 kfX9_51 (by decide) rfl tp0 dX9_kept_66 (fun x11 tx11 => ?_)
    refine j_sipush C (v := (700 : Int32)) dX9_kept_69 (by decide) ?_
    refine j_iload_n C dX9_kept_72 1 rfl ?_
    refine j_imul C dX9_kept_73 ?_
    refine j_iload_n C dX9_kept_74 2 rfl ?_
    refine j_iadd C dX9_kept_75 ?_
    refine j_oc tx11 (fun a12 ta12 ea12 => ?_)
    subst ea12
    refine j_lald C ta12 dX9_kept_76 ?_
    refine j_goto C (tgt := 81) dX9_kept_77 (by decide) ?_
    exact j_lret C E dX9_kept_81
def F_X9_kept (N : Nat → Nat) (S : sSt) (p0 : Nat) (p1 : Int32) (p2 : Int32) : Option (Int64 × sSt) := bnd (sFI S 360 p0 (0 : Int32)) (fun S1 => Option.bind (F_X9_isUnit N S1 p0 p1) (fun v2 => (if v2 = 0 then some ((0 : Int64), S1) else bnd (gFR S1 377 p0) (fun x4 => Option.bind x4 (fun a5 => gi p1 (N a5) ((if (gAI S1 a5 (Int32.toNatClampNeg p1)) = 0 then B_X9_kept_55 N S1 p0 p1 p2 (1 : Int32) p0 else bnd (gFR S1 376 p0) (fun x6 => Option.bind x6 (fun a7 => gi (((6 : Int32) * p1) + (5 : Int32)) (N a7) (Option.bind (F_X9_in N S1 p2 (0 : Int32) ((gAI S1 a7 (Int32.toNatClampNeg (((6 : Int32) * p1) + (5 : Int32)))) - (1 : Int32))) (fun v8 => (if v8 = 0 then B_X9_kept_55 N S1 p0 p1 p2 (2 : Int32) p0 else B_X9_kept_55 N S1 p0 p1 p2 (0 : Int32) p0))))))))))))
set_option maxHeartbeats 4000000 in
theorem jF_X9_kept {X : jX} (C : jC X cX9_kept 3 RX9 rm_X9_kept) {Λ : sLay} {S : sSt} {r : (Int64 × sSt)} (E : jE X (some .long) rJ Λ r) (p0 : Nat) (tp0 : isK Λ 9 p0) (p1 : Int32) (p2 : Int32) : J X 3 0 0 0 [(0, vR (some p0)), (1, vI p1), (2, vI p2)] [] Λ S (F_X9_kept Λ.2.2 S p0 p1 p2 = some r) := by
  unfold F_X9_kept
  refine j_aload_n C dX9_kept_0 0 rfl ?_
  refine j_iconst C (v := (0 : Int32)) dX9_kept_1 (by decide) ?_
  refine j_putI C kK9 f360 kfX9_99 (by decide) rfl rfl rfl tp0 dX9_kept_2 (fun S1 => ?_)
  refine j_aload_n C dX9_kept_5 0 rfl ?_
  refine j_iload_n C dX9_kept_6 1 rfl ?_
  refine j_cVIP C [vI p1] [] (fun _ e => c_X9_isUnit p0 tp0 p1 e) kYX9_isUnit kVX9_isUnit kmX9_110 kO9 tp0 rfl rfl ⟨rfl, rfl, by decide, by decide⟩ (Nat.le_of_ble_eq_true rfl) ⟨Nat.zero_le _, Nat.zero_le _⟩ dX9_kept_7 (fun v2 => ?_)
  refine j_if_ne C (tgt := 15) dX9_kept_10 (by decide) ?_ ?_
  · refine j_aload_n C dX9_kept_15 0 rfl ?_
    refine j_aload_n C dX9_kept_16 0 rfl ?_
    refine j_getR C kK9 f377 kfX9_57 (by decide) rfl tp0 dX9_kept_17 (fun x4 tx4 => ?_)
    refine j_iload_n C dX9_kept_20 1 rfl ?_
    refine j_oc tx4 (fun a5 ta5 ea5 => ?_)
    subst ea5
    refine j_iald C ta5 dX9_kept_21 ?_
    refine j_if_ne C (tgt := 29) dX9_kept_22 (by decide) ?_ ?_
    · refine j_iload_n C dX9_kept_29 2 rfl ?_
      refine j_iconst C (v := (0 : Int32)) dX9_kept_30 (by decide) ?_
      refine j_aload_n C dX9_kept_31 0 rfl ?_
      refine j_getR C kK9 f376 kfX9_54 (by decide) rfl tp0 dX9_kept_32 (fun x6 tx6 => ?_)
      refine j_bipush C (v := (6 : Int32)) dX9_kept_35 (by decide) ?_
      refine j_iload_n C dX9_kept_37 1 rfl ?_
      refine j_imul C dX9_kept_38 ?_
      refine j_iconst C (v := (5 : Int32)) dX9_kept_39 (by decide) ?_
      refine j_iadd C dX9_kept_40 ?_
      refine j_oc tx6 (fun a7 ta7 ea7 => ?_)
      subst ea7
      refine j_iald C ta7 dX9_kept_41 ?_
      refine j_iconst C (v := (1 : Int32)) dX9_kept_42 (by decide) ?_
      refine j_isub C dX9_kept_43 ?_
      refine j_cSIP C [vI p2, vI (0 : Int32), vI ((gAI S1 a7 (Int32.toNatClampNeg (((6 : Int32) * p1) + (5 : Int32)))) - (1 : Int32))] [vR (some p0)] (fun _ e => c_X9_in p2 (0 : Int32) ((gAI S1 a7 (Int32.toNatClampNeg (((6 : Int32) * p1) + (5 : Int32)))) - (1 : Int32)) e) kYX9_in kSX9_in kmX9_106 rfl rfl ⟨rfl, rfl, by decide, by decide⟩ (Nat.le_of_ble_eq_true rfl) ⟨Nat.zero_le _, Nat.zero_le _⟩ dX9_kept_44 (fun v8 => ?_)
      refine j_if_eq C (tgt := 54) dX9_kept_47 (by decide) ?_ ?_
      · refine j_iconst C (v := (2 : Int32)) dX9_kept_54 (by decide) ?_
        exact jB_X9_kept_55 C E S1 p0 tp0 p1 p2 (2 : Int32) p0 tp0
      · refine j_iconst C (v := (0 : Int32)) dX9_kept_50 (by decide) ?_
        refine j_goto C (tgt := 55) dX9_kept_51 (by decide) ?_
        exact jB_X9_kept_55 C E S1 p0 tp0 p1 p2 (0 : Int32) p0 tp0
    · refine j_iconst C (v := (1 : Int32)) dX9_kept_25 (by decide) ?_
      refine j_goto C (tgt := 55) dX9_kept_26 (by decide) ?_
      exact jB_X9_kept_55 C E S1 p0 tp0 p1 p2 (1 : Int32) p0 tp0
  · refine j_lconst C (v := (0 : Int64)) dX9_kept_13 (by decide) ?_
    exact j_lret C E dX9_kept_14
theorem c_X9_kept {l : Launch} {D : va_G} {cy : Nat → ClassId} {Λ : sLay} {S : sSt} (p0 : Nat) (tp0 : isK Λ 9 p0) (p1 : Int32) (p2 : Int32) {v : Int64} {S1 : sSt} (h : F_X9_kept Λ.2.2 S p0 p1 p2 = some (v, S1)) : jM l yX9_kept (Cond.code yX9_kept cX9_kept 3 (some .long) :: bigW) rm_X9_kept D cy Λ S [vR (some p0), vI p1, vI p2] rJ (v, S1) := jM_of (by decide +kernel) (Nat.le_of_ble_eq_true rfl) (fun X C E _ _ _ => j_sub [0, 1, 2] rfl (jF_X9_kept C E p0 tp0 p1 p2)) h
/-! RemakeNeeds2Model.leads(II)I -/
abbrev rm_X9_leads : Room := { frames := 3, cells := 0, slots := 0, locals := 71 }
def F_X9_leads (N : Nat → Nat) (S : sSt) (p0 : Nat) (p1 : Int32) (p2 : Int32) : Option (Int32 × sSt) := bnd (sFI S 360 p0 (0 : Int32)) (fun S1 => Option.bind (F_X9_isUnit N S1 p0 p1) (fun v2 => (if v2 = 0 then some ((-1 : Int32), S1) else Option.bind (F_X9_isUnit N S1 p0 p2) (fun v4 => (if v4 = 0 then some ((-1 : Int32), S1) else Option.bind (F_X9_findLeads N S1 p0) (fun S7 => bnd (gFR S7 390 p0) (fun x8 => Option.bind x8 (fun a9 => gi (((16 : Int32) * p1) + p2) (N a9) ((if (gAI S7 a9 (Int32.toNatClampNeg (((16 : Int32) * p1) + p2))) = 0 then some ((0 : Int32), S7) else some ((1 : Int32), S7)))))))))))
set_option maxHeartbeats 4000000 in
theorem jF_X9_leads {X : jX} (C : jC X cX9_leads 3 RX9 rm_X9_leads) {Λ : sLay} {S : sSt} {r : (Int32 × sSt)} (E : jE X (some .int) rI Λ r) (p0 : Nat) (tp0 : isK Λ 9 p0) (p1 : Int32) (p2 : Int32) : J X 3 0 0 0 [(0, vR (some p0)), (1, vI p1), (2, vI p2)] [] Λ S (F_X9_leads Λ.2.2 S p0 p1 p2 = some r) := by
  unfold F_X9_leads
  refine j_aload_n C dX9_leads_0 0 rfl ?_
  refine j_iconst C (v := (0 : Int32)) dX9_leads_1 (by decide) ?_
  refine j_putI C kK9 f360 kfX9_99 (by decide) rfl rfl rfl tp0 dX9_leads_2 (fun S1 => ?_)
  refine j_aload_n C dX9_leads_5 0 rfl ?_
  refine j_iload_n C dX9_leads_6 1 rfl ?_
  refine j_cVIP C [vI p1] [] (fun _ e => c_X9_isUnit p0 tp0 p1 e) kYX9_isUnit kVX9_isUnit kmX9_110 kO9 tp0 rfl rfl ⟨rfl, rfl, by decide, by decide⟩ (Nat.le_of_ble_eq_true rfl) ⟨Nat.zero_le _, Nat.zero_le _⟩ dX9_leads_7 (fun v2 => ?_)
  refine j_if_eq C (tgt := 21) dX9_leads_10 (by decide) ?_ ?_
  · refine j_iconst C (v := (-1 : Int32)) dX9_leads_21 (by decide) ?_
    exact j_iret C E dX9_leads_22
  · refine j_aload_n C dX9_leads_13 0 rfl ?_
    refine j_iload_n C dX9_leads_14 2 rfl ?_
    refine j_cVIP C [vI p2] [] (fun _ e => c_X9_isUnit p0 tp0 p2 e) kYX9_isUnit kVX9_isUnit kmX9_110 kO9 tp0 rfl rfl ⟨rfl, rfl, by decide, by decide⟩ (Nat.le_of_ble_eq_true rfl) ⟨Nat.zero_le _, Nat.zero_le _⟩ dX9_leads_15 (fun v4 => ?_)
    refine j_if_ne C (tgt := 23) dX9_leads_18 (by decide) ?_ ?_
    · refine j_aload_n C dX9_leads_23 0 rfl ?_
      refine j_cVVV C [] [] (fun _ e => c_X9_findLeads p0 tp0 e) kYX9_findLeads kVX9_findLeads kmX9_213 kO9 tp0 rfl rfl ⟨rfl, rfl, by decide, by decide⟩ (Nat.le_of_ble_eq_true rfl) ⟨Nat.zero_le _, Nat.zero_le _⟩ dX9_leads_24 (fun S7 => ?_)
      refine j_aload_n C dX9_leads_27 0 rfl ?_
      refine j_getR C kK9 f390 kfX9_87 (by decide) rfl tp0 dX9_leads_28 (fun x8 tx8 => ?_)
      refine j_bipush C (v := (16 : Int32)) dX9_leads_31 (by decide) ?_
      refine j_iload_n C dX9_leads_33 1 rfl ?_
      refine j_imul C dX9_leads_34 ?_
      refine j_iload_n C dX9_leads_35 2 rfl ?_
      refine j_iadd C dX9_leads_36 ?_
      refine j_oc tx8 (fun a9 ta9 ea9 => ?_)
      subst ea9
      refine j_zald C ta9 dX9_leads_37 ?_
      refine j_if_eq C (tgt := 45) dX9_leads_38 (by decide) ?_ ?_
      · refine j_iconst C (v := (0 : Int32)) dX9_leads_45 (by decide) ?_
        exact j_iret C E dX9_leads_46
      · refine j_iconst C (v := (1 : Int32)) dX9_leads_41 (by decide) ?_
        refine j_goto C (tgt := 46) dX9_leads_42 (by decide) ?_
        exact j_iret C E dX9_leads_46
    · refine j_iconst C (v := (-1 : Int32)) dX9_leads_21 (by decide) ?_
      exact j_iret C E dX9_leads_22
theorem c_X9_leads {l : Launch} {D : va_G} {cy : Nat → ClassId} {Λ : sLay} {S : sSt} (p0 : Nat) (tp0 : isK Λ 9 p0) (p1 : Int32) (p2 : Int32) {v : Int32} {S1 : sSt} (h : F_X9_leads Λ.2.2 S p0 p1 p2 = some (v, S1)) : jM l yX9_leads (Cond.code yX9_leads cX9_leads 3 (some .int) :: bigW) rm_X9_leads D cy Λ S [vR (some p0), vI p1, vI p2] rI (v, S1) := jM_of (by decide +kernel) (Nat.le_of_ble_eq_true rfl) (fun X C E _ _ _ => j_sub [0, 1, 2] rfl (jF_X9_leads C E p0 tp0 p1 p2)) h
/-! RemakeNeeds2Model.make(I)I -/
abbrev rm_X9_make : Room := { frames := 4, cells := 0, slots := 0, locals := 94 }
def B_X9_make_79 (N : Nat → Nat) (k30 : sSt → Nat → Int32 → Int32 → Int32 → Option (Int32 × sSt)) (S : sSt) (p0 : Nat) (p1 : Int32) (p2 : Int32) (p3 : Int32) : Option (Int32 × sSt) := k30 S p0 p1 p2 (p3 + (1 : Int32))
set_option maxHeartbeats 4000000 in
theorem jB_X9_make_79 {X : jX} (C : jC X cX9_make 4 RX9 rm_X9_make) {Λ : sLay} {r : (Int32 × sSt)} (E : jE X (some .int) rI Λ r) (k30 : sSt → Nat → Int32 → Int32 → Int32 → Option (Int32 × sSt)) (hk30 : ∀ (S : sSt) (p0 : Nat) (tp0 : isK Λ 9 p0) (p1 : Int32) (p2 : Int32) (p3 : Int32), J X 4 0 0 30 [(0, vR (some p0)), (1, vI p1), (2, vI p2), (3, vI p3)] [] Λ S (k30 S p0 p1 p2 p3 = some r)) : ∀ (S : sSt) (p0 : Nat) (tp0 : isK Λ 9 p0) (p1 : Int32) (p2 : Int32) (p3 : Int32), J X 4 0 0 79 [(0, vR (some p0)), (1, vI p1), (2, vI p2), (3, vI p3)] [] Λ S (B_X9_make_79 Λ.2.2 k30 S p0 p1 p2 p3 = some r) := by
  intro S p0 tp0 p1 p2 p3
  unfold B_X9_make_79
  refine j_iinc C (v := (1 : Int32)) (L' := [(3, vI (p3 + (1 : Int32))), (0, vR (some p0)), (1, vI p1), (2, vI p2)]) dX9_make_79 3 rfl (by decide) (by decide) rfl ?_
  refine j_goto C (tgt := 30) dX9_make_82 (by decide) ?_
  refine j_sub (L' := [(0, vR (some p0)), (1, vI p1), (2, vI p2), (3, vI (p3 + (1 : Int32)))]) [1, 2, 3, 0] rfl ?_
  exact hk30 S p0 tp0 p1 p2 (p3 + (1 : Int32))
def Y_X9_make_30 (N : Nat → Nat) (rec : sSt → Nat → Int32 → Int32 → Int32 → Option (Int32 × sSt)) (S : sSt) (p0 : Nat) (p1 : Int32) (p2 : Int32) (p3 : Int32) : Option (Int32 × sSt) := (if (gFI S 393 p0) ≤ p3 then some (p2, S) else (if p1 ≤ p2 then some (p2, S) else bnd (gFR S 392 p0) (fun x8 => Option.bind x8 (fun a9 => gi p3 (N a9) (Option.bind (F_X9_layRow N S p0 (gAI S a9 (Int32.toNatClampNeg p3))) (fun S11 => bnd (gFR S11 392 p0) (fun x12 => Option.bind x12 (fun a13 => gi p3 (N a13) (Option.bind (F_X9_whyOf N S11 p0 (gAI S11 a13 (Int32.toNatClampNeg p3))) (fun v14 => (if v14 ≤ 0 then B_X9_make_79 N rec S11 p0 p1 p2 p3 else bnd (gFR S11 392 p0) (fun x16 => Option.bind x16 (fun a17 => gi p3 (N a17) (Option.bind (F_X9_keep N S11 p0 (gAI S11 a17 (Int32.toNatClampNeg p3))) (fun S19 => B_X9_make_79 N rec S19 p0 p1 (p2 + (1 : Int32)) p3)))))))))))))))
set_option maxHeartbeats 4000000 in
theorem jY_X9_make_30 {X : jX} (C : jC X cX9_make 4 RX9 rm_X9_make) {Λ : sLay} {r : (Int32 × sSt)} (E : jE X (some .int) rI Λ r) (rec : sSt → Nat → Int32 → Int32 → Int32 → Option (Int32 × sSt)) (hrec : ∀ (S : sSt) (p0 : Nat) (tp0 : isK Λ 9 p0) (p1 : Int32) (p2 : Int32) (p3 : Int32), J X 4 0 0 30 [(0, vR (some p0)), (1, vI p1), (2, vI p2), (3, vI p3)] [] Λ S (rec S p0 p1 p2 p3 = some r)) : ∀ (S : sSt) (p0 : Nat) (tp0 : isK Λ 9 p0) (p1 : Int32) (p2 : Int32) (p3 : Int32), J X 4 0 0 30 [(0, vR (some p0)), (1, vI p1), (2, vI p2), (3, vI p3)] [] Λ S (Y_X9_make_30 Λ.2.2 rec S p0 p1 p2 p3 = some r) := by
  intro S p0 tp0 p1 p2 p3
  unfold Y_X9_make_30
  refine j_iload_n C dX9_make_30 3 rfl ?_
  refine j_aload_n C dX9_make_31 0 rfl ?_
  refine j_getI C kK9 f393 kfX9_201 (by decide) tp0 dX9_make_32 ?_
  refine j_icmp_ge C (tgt := 85) dX9_make_35 (by decide) ?_ ?_
  · refine j_iload_n C dX9_make_85 2 rfl ?_
    exact j_iret C E dX9_make_86
  · refine j_iload_n C dX9_make_38 2 rfl ?_
    refine j_iload_n C dX9_make_39 1 rfl ?_
    refine j_icmp_ge C (tgt := 85) dX9_make_40 (by decide) ?_ ?_
    · refine j_iload_n C dX9_make_85 2 rfl ?_
      exact j_iret C E dX9_make_86
    · refine j_aload_n C dX9_make_43 0 rfl ?_
      refine j_aload_n C dX9_make_44 0 rfl ?_
      refine j_getR C kK9 f392 kfX9_93 (by decide) rfl tp0 dX9_make_45 (fun x8 tx8 => ?_)
      refine j_iload_n C dX9_make_48 3 rfl ?_
      refine j_oc tx8 (fun a9 ta9 ea9 => ?_)
      subst ea9
      refine j_iald C ta9 dX9_make_49 ?_
      refine j_cVVV C [vI (gAI S a9 (Int32.toNatClampNeg p3))] [] (fun _ e => c_X9_layRow p0 tp0 (gAI S a9 (Int32.toNatClampNeg p3)) e) kYX9_layRow kVX9_layRow kmX9_182 kO9 tp0 rfl rfl ⟨rfl, rfl, by decide, by decide⟩ (Nat.le_of_ble_eq_true rfl) ⟨Nat.zero_le _, Nat.zero_le _⟩ dX9_make_50 (fun S11 => ?_)
      refine j_aload_n C dX9_make_53 0 rfl ?_
      refine j_aload_n C dX9_make_54 0 rfl ?_
      refine j_getR C kK9 f392 kfX9_93 (by decide) rfl tp0 dX9_make_55 (fun x12 tx12 => ?_)
      refine j_iload_n C dX9_make_58 3 rfl ?_
      refine j_oc tx12 (fun a13 ta13 ea13 => ?_)
      subst ea13
      refine j_iald C ta13 dX9_make_59 ?_
      refine j_cVIP C [vI (gAI S11 a13 (Int32.toNatClampNeg p3))] [] (fun _ e => c_X9_whyOf p0 tp0 (gAI S11 a13 (Int32.toNatClampNeg p3)) e) kYX9_whyOf kVX9_whyOf kmX9_191 kO9 tp0 rfl rfl ⟨rfl, rfl, by decide, by decide⟩ (Nat.le_of_ble_eq_true rfl) ⟨Nat.zero_le _, Nat.zero_le _⟩ dX9_make_60 (fun v14 => ?_)
      refine j_if_le C (tgt := 79) dX9_make_63 (by decide) ?_ ?_
      · exact jB_X9_make_79 C E rec hrec S11 p0 tp0 p1 p2 p3
      · refine j_aload_n C dX9_make_66 0 rfl ?_
        refine j_aload_n C dX9_make_67 0 rfl ?_
        refine j_getR C kK9 f392 kfX9_93 (by decide) rfl tp0 dX9_make_68 (fun x16 tx16 => ?_)
        refine j_iload_n C dX9_make_71 3 rfl ?_
        refine j_oc tx16 (fun a17 ta17 ea17 => ?_)
        subst ea17
        refine j_iald C ta17 dX9_make_72 ?_
        refine j_cVVV C [vI (gAI S11 a17 (Int32.toNatClampNeg p3))] [] (fun _ e => c_X9_keep p0 tp0 (gAI S11 a17 (Int32.toNatClampNeg p3)) e) kYX9_keep kVX9_keep kmX9_204 kO9 tp0 rfl rfl ⟨rfl, rfl, by decide, by decide⟩ (Nat.le_of_ble_eq_true rfl) ⟨Nat.zero_le _, Nat.zero_le _⟩ dX9_make_73 (fun S19 => ?_)
        refine j_iinc C (v := (1 : Int32)) (L' := [(2, vI (p2 + (1 : Int32))), (0, vR (some p0)), (1, vI p1), (3, vI p3)]) dX9_make_76 2 rfl (by decide) (by decide) rfl ?_
        refine j_sub (L' := [(0, vR (some p0)), (1, vI p1), (2, vI (p2 + (1 : Int32))), (3, vI p3)]) [1, 2, 0, 3] rfl ?_
        exact jB_X9_make_79 C E rec hrec S19 p0 tp0 p1 (p2 + (1 : Int32)) p3
def L_X9_make_30 (N : Nat → Nat) (n : Nat) : sSt → Nat → Int32 → Int32 → Int32 → Option (Int32 × sSt) := iter (fun _ _ _ _ _ => none) (Y_X9_make_30 N) n
theorem jL_X9_make_30 {X : jX} (C : jC X cX9_make 4 RX9 rm_X9_make) {Λ : sLay} {r : (Int32 × sSt)} (E : jE X (some .int) rI Λ r) : ∀ (n : Nat) (S : sSt) (p0 : Nat) (tp0 : isK Λ 9 p0) (p1 : Int32) (p2 : Int32) (p3 : Int32), J X 4 0 0 30 [(0, vR (some p0)), (1, vI p1), (2, vI p2), (3, vI p3)] [] Λ S (L_X9_make_30 Λ.2.2 n S p0 p1 p2 p3 = some r) := by
  intro n
  induction n with
  | zero => intro S p0 tp0 p1 p2 p3; exact j_no (fun h => by have h2 : (none : Option (Int32 × sSt)) = some r := h; cases h2)
  | succ n ih => intro S p0 tp0 p1 p2 p3; exact jY_X9_make_30 C E (L_X9_make_30 Λ.2.2 n) ih S p0 tp0 p1 p2 p3
def F_X9_make (N : Nat → Nat) (S : sSt) (p0 : Nat) (p1 : Int32) : Option (Int32 × sSt) := bnd (sFI S 360 p0 (0 : Int32)) (fun S1 => Option.bind (F_X9_in N S1 p1 (0 : Int32) (16 : Int32)) (fun v2 => (if v2 = 0 then some ((-2 : Int32), S1) else Option.bind (F_X9_findOrder N S1 p0) (fun S5 => Option.bind (F_X9_reckon N S5 p0) (fun S7 => L_X9_make_30 N FU S7 p0 p1 (0 : Int32) (0 : Int32))))))
set_option maxHeartbeats 4000000 in
theorem jF_X9_make {X : jX} (C : jC X cX9_make 4 RX9 rm_X9_make) {Λ : sLay} {S : sSt} {r : (Int32 × sSt)} (E : jE X (some .int) rI Λ r) (p0 : Nat) (tp0 : isK Λ 9 p0) (p1 : Int32) : J X 4 0 0 0 [(0, vR (some p0)), (1, vI p1)] [] Λ S (F_X9_make Λ.2.2 S p0 p1 = some r) := by
  unfold F_X9_make
  refine j_aload_n C dX9_make_0 0 rfl ?_
  refine j_iconst C (v := (0 : Int32)) dX9_make_1 (by decide) ?_
  refine j_putI C kK9 f360 kfX9_99 (by decide) rfl rfl rfl tp0 dX9_make_2 (fun S1 => ?_)
  refine j_iload_n C dX9_make_5 1 rfl ?_
  refine j_iconst C (v := (0 : Int32)) dX9_make_6 (by decide) ?_
  refine j_bipush C (v := (16 : Int32)) dX9_make_7 (by decide) ?_
  refine j_cSIP C [vI p1, vI (0 : Int32), vI (16 : Int32)] [] (fun _ e => c_X9_in p1 (0 : Int32) (16 : Int32) e) kYX9_in kSX9_in kmX9_106 rfl rfl ⟨rfl, rfl, by decide, by decide⟩ (Nat.le_of_ble_eq_true rfl) ⟨Nat.zero_le _, Nat.zero_le _⟩ dX9_make_9 (fun v2 => ?_)
  refine j_if_ne C (tgt := 18) dX9_make_12 (by decide) ?_ ?_
  · refine j_aload_n C dX9_make_18 0 rfl ?_
    refine j_cVVV C [] [] (fun _ e => c_X9_findOrder p0 tp0 e) kYX9_findOrder kVX9_findOrder kmX9_198 kO9 tp0 rfl rfl ⟨rfl, rfl, by decide, by decide⟩ (Nat.le_of_ble_eq_true rfl) ⟨Nat.zero_le _, Nat.zero_le _⟩ dX9_make_19 (fun S5 => ?_)
    refine j_aload_n C dX9_make_22 0 rfl ?_
    refine j_cVVV C [] [] (fun _ e => c_X9_reckon p0 tp0 e) kYX9_reckon kVX9_reckon kmX9_146 kO9 tp0 rfl rfl ⟨rfl, rfl, by decide, by decide⟩ (Nat.le_of_ble_eq_true rfl) ⟨Nat.zero_le _, Nat.zero_le _⟩ dX9_make_23 (fun S7 => ?_)
    refine j_iconst C (v := (0 : Int32)) dX9_make_26 (by decide) ?_
    refine j_istore_n C (L' := [(2, vI (0 : Int32)), (0, vR (some p0)), (1, vI p1)]) dX9_make_27 (by decide) rfl ?_
    refine j_iconst C (v := (0 : Int32)) dX9_make_28 (by decide) ?_
    refine j_istore_n C (L' := [(3, vI (0 : Int32)), (2, vI (0 : Int32)), (0, vR (some p0)), (1, vI p1)]) dX9_make_29 (by decide) rfl ?_
    refine j_sub (L' := [(0, vR (some p0)), (1, vI p1), (2, vI (0 : Int32)), (3, vI (0 : Int32))]) [2, 3, 1, 0] rfl ?_
    exact jL_X9_make_30 C E FU S7 p0 tp0 p1 (0 : Int32) (0 : Int32)
  · refine j_bipush C (v := (-2 : Int32)) dX9_make_15 (by decide) ?_
    exact j_iret C E dX9_make_17
theorem c_X9_make {l : Launch} {D : va_G} {cy : Nat → ClassId} {Λ : sLay} {S : sSt} (p0 : Nat) (tp0 : isK Λ 9 p0) (p1 : Int32) {v : Int32} {S1 : sSt} (h : F_X9_make Λ.2.2 S p0 p1 = some (v, S1)) : jM l yX9_make (Cond.code yX9_make cX9_make 4 (some .int) :: bigW) rm_X9_make D cy Λ S [vR (some p0), vI p1] rI (v, S1) := jM_of (by decide +kernel) (Nat.le_of_ble_eq_true rfl) (fun X C E _ _ _ => j_sub [0, 1] rfl (jF_X9_make C E p0 tp0 p1)) h
/-! RemakeNeeds2Model.missing(I)I -/
abbrev rm_X9_missing : Room := { frames := 2, cells := 0, slots := 0, locals := 48 }
def B_X9_missing_128 (N : Nat → Nat) (k69 : sSt → Nat → Int32 → Int32 → Int32 → Option (Int32 × sSt)) (k87 : sSt → Nat → Int32 → Int32 → Int32 → Int32 → Option (Int32 × sSt)) (S : sSt) (p0 : Nat) (p1 : Int32) (p3 : Int32) (p4 : Int32) (s0 : Int32) (s1 : Int32) : Option (Int32 × sSt) := k87 S p0 p1 (s1 + s0) p3 (p4 + (1 : Int32))
set_option maxHeartbeats 4000000 in
theorem jB_X9_missing_128 {X : jX} (C : jC X cX9_missing 5 RX9 rm_X9_missing) {Λ : sLay} {r : (Int32 × sSt)} (E : jE X (some .int) rI Λ r) (k69 : sSt → Nat → Int32 → Int32 → Int32 → Option (Int32 × sSt)) (hk69 : ∀ (S : sSt) (p0 : Nat) (tp0 : isK Λ 9 p0) (p1 : Int32) (p2 : Int32) (p3 : Int32), J X 5 0 0 69 [(0, vR (some p0)), (1, vI p1), (2, vI p2), (3, vI p3)] [] Λ S (k69 S p0 p1 p2 p3 = some r)) (k87 : sSt → Nat → Int32 → Int32 → Int32 → Int32 → Option (Int32 × sSt)) (hk87 : ∀ (S : sSt) (p0 : Nat) (tp0 : isK Λ 9 p0) (p1 : Int32) (p2 : Int32) (p3 : Int32) (p4 : Int32), J X 5 0 0 87 [(0, vR (some p0)), (1, vI p1), (2, vI p2), (3, vI p3), (4, vI p4)] [] Λ S (k87 S p0 p1 p2 p3 p4 = some r)) : ∀ (S : sSt) (p0 : Nat) (tp0 : isK Λ 9 p0) (p1 : Int32) (p3 : Int32) (p4 : Int32) (s0 : Int32) (s1 : Int32), J X 5 0 0 128 [(0, vR (some p0)), (1, vI p1), (3, vI p3), (4, vI p4)] [vI s0, vI s1] Λ S (B_X9_missing_128 Λ.2.2 k69 k87 S p0 p1 p3 p4 s0 s1 = some r) := by
  intro S p0 tp0 p1 p3 p4 s0 s1
  unfold B_X9_missing_128
  refine j_iadd C dX9_missing_128 ?_
  refine j_istore_n C (L' := [(2, vI (s1 + s0)), (0, vR (some p0)), (1, vI p1), (3, vI p3), (4, vI p4)]) dX9_missing_129 (by decide) rfl ?_
  refine j_iinc C (v := (1 : Int32)) (L' := [(4, vI (p4 + (1 : Int32))), (2, vI (s1 + s0)), (0, vR (some p0)), (1, vI p1), (3, vI p3)]) dX9_missing_130 4 rfl (by decide) (by decide) rfl ?_
  refine j_goto C (tgt := 87) dX9_missing_133 (by decide) ?_
  refine j_sub (L' := [(0, vR (some p0)), (1, vI p1), (2, vI (s1 + s0)), (3, vI p3), (4, vI (p4 + (1 : Int32)))]) [2, 3, 1, 4, 0] rfl ?_
  exact hk87 S p0 tp0 p1 (s1 + s0) p3 (p4 + (1 : Int32))
def Y_X9_missing_87 (N : Nat → Nat) (k69 : sSt → Nat → Int32 → Int32 → Int32 → Option (Int32 × sSt)) (rec : sSt → Nat → Int32 → Int32 → Int32 → Int32 → Option (Int32 × sSt)) (S : sSt) (p0 : Nat) (p1 : Int32) (p2 : Int32) (p3 : Int32) (p4 : Int32) : Option (Int32 × sSt) := bnd (gFR S 367 p0) (fun x8 => Option.bind x8 (fun a9 => gi p3 (N a9) ((if (gAI S a9 (Int32.toNatClampNeg p3)) ≤ p4 then k69 S p0 p1 p2 (p3 + (1 : Int32)) else bnd (gFR S 368 p0) (fun x10 => Option.bind x10 (fun a11 => gi (((3 : Int32) * p3) + p4) (N a11) (Option.bind (F_X9_find N S p0 p1 ((32 : Int32) + (gAI S a11 (Int32.toNatClampNeg (((3 : Int32) * p3) + p4))))) (fun v12 => (if v12 = (-5 : Int32) then B_X9_missing_128 N k69 rec S p0 p1 p3 p4 (1 : Int32) p2 else B_X9_missing_128 N k69 rec S p0 p1 p3 p4 (0 : Int32) p2)))))))))
set_option maxHeartbeats 4000000 in
theorem jY_X9_missing_87 {X : jX} (C : jC X cX9_missing 5 RX9 rm_X9_missing) {Λ : sLay} {r : (Int32 × sSt)} (E : jE X (some .int) rI Λ r) (k69 : sSt → Nat → Int32 → Int32 → Int32 → Option (Int32 × sSt)) (hk69 : ∀ (S : sSt) (p0 : Nat) (tp0 : isK Λ 9 p0) (p1 : Int32) (p2 : Int32) (p3 : Int32), J X 5 0 0 69 [(0, vR (some p0)), (1, vI p1), (2, vI p2), (3, vI p3)] [] Λ S (k69 S p0 p1 p2 p3 = some r)) (rec : sSt → Nat → Int32 → Int32 → Int32 → Int32 → Option (Int32 × sSt)) (hrec : ∀ (S : sSt) (p0 : Nat) (tp0 : isK Λ 9 p0) (p1 : Int32) (p2 : Int32) (p3 : Int32) (p4 : Int32), J X 5 0 0 87 [(0, vR (some p0)), (1, vI p1), (2, vI p2), (3, vI p3), (4, vI p4)] [] Λ S (rec S p0 p1 p2 p3 p4 = some r)) : ∀ (S : sSt) (p0 : Nat) (tp0 : isK Λ 9 p0) (p1 : Int32) (p2 : Int32) (p3 : Int32) (p4 : Int32), J X 5 0 0 87 [(0, vR (some p0)), (1, vI p1), (2, vI p2), (3, vI p3), (4, vI p4)] [] Λ S (Y_X9_missing_87 Λ.2.2 k69 rec S p0 p1 p2 p3 p4 = some r) := by
  intro S p0 tp0 p1 p2 p3 p4
  unfold Y_X9_missing_87
  refine j_iload C dX9_missing_87 4 rfl ?_
  refine j_aload_n C dX9_missing_89 0 rfl ?_
  refine j_getR C kK9 f367 kfX9_27 (by decide) rfl tp0 dX9_missing_90 (fun x8 tx8 => ?_)
  refine j_iload_n C dX9_missing_93 3 rfl ?_
  refine j_oc tx8 (fun a9 ta9 ea9 => ?_)
  subst ea9
  refine j_iald C ta9 dX9_missing_94 ?_
  refine j_icmp_ge C (tgt := 136) dX9_missing_95 (by decide) ?_ ?_
  · refine j_iinc C (v := (1 : Int32)) (L' := [(3, vI (p3 + (1 : Int32))), (0, vR (some p0)), (1, vI p1), (2, vI p2), (4, vI p4)]) dX9_missing_136 3 rfl (by decide) (by decide) rfl ?_
    refine j_goto C (tgt := 69) dX9_missing_139 (by decide) ?_
    refine j_sub (L' := [(0, vR (some p0)), (1, vI p1), (2, vI p2), (3, vI (p3 + (1 : Int32)))]) [1, 2, 3, 0] rfl ?_
    exact hk69 S p0 tp0 p1 p2 (p3 + (1 : Int32))
  · refine j_iload_n C dX9_missing_98 2 rfl ?_
    refine j_aload_n C dX9_missing_99 0 rfl ?_
    refine j_iload_n C dX9_missing_100 1 rfl ?_
    refine j_bipush C (v := (32 : Int32)) dX9_missing_101 (by decide) ?_
    refine j_aload_n C dX9_missing_103 0 rfl ?_
    refine j_getR C kK9 f368 kfX9_30 (by decide) rfl tp0 dX9_missing_104 (fun x10 tx10 => ?_)
    refine j_iconst C (v := (3 : Int32)) dX9_missing_107 (by decide) ?_
    refine j_iload_n C dX9_missing_108 3 rfl ?_
    refine j_imul C dX9_missing_109 ?_
    refine j_iload C dX9_missing_110 4 rfl ?_
    refine j_iadd C dX9_missing_112 ?_
    refine j_oc tx10 (fun a11 ta11 ea11 => ?_)
    subst ea11
    refine j_iald C ta11 dX9_missing_113 ?_
    refine j_iadd C dX9_missing_114 ?_
    refine j_cVIP C [vI p1, vI ((32 : Int32) + (gAI S a11 (Int32.toNatClampNeg (((3 : Int32) * p3) + p4))))] [vI p2] (fun _ e => c_X9_find p0 tp0 p1 ((32 : Int32) + (gAI S a11 (Int32.toNatClampNeg (((3 : Int32) * p3) + p4)))) e) kYX9_find kVX9_find kmX9_137 kO9 tp0 rfl rfl ⟨rfl, rfl, by decide, by decide⟩ (Nat.le_of_ble_eq_true rfl) ⟨Nat.zero_le _, Nat.zero_le _⟩ dX9_missing_115 (fun v12 => ?_)
    refine j_bipush C (v := (-5 : Int32)) dX9_missing_118 (by decide) ?_
    refine j_icmp_ne C (tgt := 127) dX9_missing_120 (by decide) ?_ ?_
    · refine j_iconst C (v := (0 : Int32)) dX9_missing_127 (by decide) ?_
      refine j_sub (L' := [(0, vR (some p0)), (1, vI p1), (3, vI p3), (4, vI p4)]) [0, 1, 3, 4] rfl ?_
      exact jB_X9_missing_128 C E k69 hk69 rec hrec S p0 tp0 p1 p3 p4 (0 : Int32) p2
    · refine j_iconst C (v := (1 : Int32)) dX9_missing_123 (by decide) ?_
      refine j_goto C (tgt := 128) dX9_missing_124 (by decide) ?_
      refine j_sub (L' := [(0, vR (some p0)), (1, vI p1), (3, vI p3), (4, vI p4)]) [0, 1, 3, 4] rfl ?_
      exact jB_X9_missing_128 C E k69 hk69 rec hrec S p0 tp0 p1 p3 p4 (1 : Int32) p2
def L_X9_missing_87 (N : Nat → Nat) (k69 : sSt → Nat → Int32 → Int32 → Int32 → Option (Int32 × sSt)) (n : Nat) : sSt → Nat → Int32 → Int32 → Int32 → Int32 → Option (Int32 × sSt) := iter (fun _ _ _ _ _ _ => none) (Y_X9_missing_87 N k69) n
theorem jL_X9_missing_87 {X : jX} (C : jC X cX9_missing 5 RX9 rm_X9_missing) {Λ : sLay} {r : (Int32 × sSt)} (E : jE X (some .int) rI Λ r) (k69 : sSt → Nat → Int32 → Int32 → Int32 → Option (Int32 × sSt)) (hk69 : ∀ (S : sSt) (p0 : Nat) (tp0 : isK Λ 9 p0) (p1 : Int32) (p2 : Int32) (p3 : Int32), J X 5 0 0 69 [(0, vR (some p0)), (1, vI p1), (2, vI p2), (3, vI p3)] [] Λ S (k69 S p0 p1 p2 p3 = some r)) : ∀ (n : Nat) (S : sSt) (p0 : Nat) (tp0 : isK Λ 9 p0) (p1 : Int32) (p2 : Int32) (p3 : Int32) (p4 : Int32), J X 5 0 0 87 [(0, vR (some p0)), (1, vI p1), (2, vI p2), (3, vI p3), (4, vI p4)] [] Λ S (L_X9_missing_87 Λ.2.2 k69 n S p0 p1 p2 p3 p4 = some r) := by
  intro n
  induction n with
  | zero => intro S p0 tp0 p1 p2 p3 p4; exact j_no (fun h => by have h2 : (none : Option (Int32 × sSt)) = some r := h; cases h2)
  | succ n ih => intro S p0 tp0 p1 p2 p3 p4; exact jY_X9_missing_87 C E k69 hk69 (L_X9_missing_87 Λ.2.2 k69 n) ih S p0 tp0 p1 p2 p3 p4
def Y_X9_missing_69 (N : Nat → Nat) (rec : sSt → Nat → Int32 → Int32 → Int32 → Option (Int32 × sSt)) (S : sSt) (p0 : Nat) (p1 : Int32) (p2 : Int32) (p3 : Int32) : Option (Int32 × sSt) := bnd (gFR S 363 p0) (fun x6 => Option.bind x6 (fun a7 => gi p1 (N a7) ((if (((10 : Int32) * p1) + (gAI S a7 (Int32.toNatClampNeg p1))) ≤ p3 then some (p2, S) else L_X9_missing_87 N rec FU S p0 p1 p2 p3 (0 : Int32)))))
set_option maxHeartbeats 4000000 in
theorem jY_X9_missing_69 {X : jX} (C : jC X cX9_missing 5 RX9 rm_X9_missing) {Λ : sLay} {r : (Int32 × sSt)} (E : jE X (some .int) rI Λ r) (rec : sSt → Nat → Int32 → Int32 → Int32 → Option (Int32 × sSt)) (hrec : ∀ (S : sSt) (p0 : Nat) (tp0 : isK Λ 9 p0) (p1 : Int32) (p2 : Int32) (p3 : Int32), J X 5 0 0 69 [(0, vR (some p0)), (1, vI p1), (2, vI p2), (3, vI p3)] [] Λ S (rec S p0 p1 p2 p3 = some r)) : ∀ (S : sSt) (p0 : Nat) (tp0 : isK Λ 9 p0) (p1 : Int32) (p2 : Int32) (p3 : Int32), J X 5 0 0 69 [(0, vR (some p0)), (1, vI p1), (2, vI p2), (3, vI p3)] [] Λ S (Y_X9_missing_69 Λ.2.2 rec S p0 p1 p2 p3 = some r) := by
  intro S p0 tp0 p1 p2 p3
  unfold Y_X9_missing_69
  refine j_iload_n C dX9_missing_69 3 rfl ?_
  refine j_bipush C (v := (10 : Int32)) dX9_missing_70 (by decide) ?_
  refine j_iload_n C dX9_missing_72 1 rfl ?_
  refine j_imul C dX9_missing_73 ?_
  refine j_aload_n C dX9_missing_74 0 rfl ?_
  refine j_getR C kK9 f363 kfX9_13 (by decide) rfl tp0 dX9_missing_75 (fun x6 tx6 => ?_)
  refine j_iload_n C dX9_missing_78 1 rfl ?_
  refine j_oc tx6 (fun a7 ta7 ea7 => ?_)
  subst ea7
  refine j_iald C ta7 dX9_missing_79 ?_
  refine j_iadd C dX9_missing_80 ?_
  refine j_icmp_ge C (tgt := 142) dX9_missing_81 (by decide) ?_ ?_
  · refine j_iload_n C dX9_missing_142 2 rfl ?_
    exact j_iret C E dX9_missing_143
  · refine j_iconst C (v := (0 : Int32)) dX9_missing_84 (by decide) ?_
    refine j_istore C (L' := [(4, vI (0 : Int32)), (0, vR (some p0)), (1, vI p1), (2, vI p2), (3, vI p3)]) dX9_missing_85 (by decide) rfl ?_
    refine j_sub (L' := [(0, vR (some p0)), (1, vI p1), (2, vI p2), (3, vI p3), (4, vI (0 : Int32))]) [1, 2, 3, 4, 0] rfl ?_
    exact jL_X9_missing_87 C E rec hrec FU S p0 tp0 p1 p2 p3 (0 : Int32)
def L_X9_missing_69 (N : Nat → Nat) (n : Nat) : sSt → Nat → Int32 → Int32 → Int32 → Option (Int32 × sSt) := iter (fun _ _ _ _ _ => none) (Y_X9_missing_69 N) n
theorem jL_X9_missing_69 {X : jX} (C : jC X cX9_missing 5 RX9 rm_X9_missing) {Λ : sLay} {r : (Int32 × sSt)} (E : jE X (some .int) rI Λ r) : ∀ (n : Nat) (S : sSt) (p0 : Nat) (tp0 : isK Λ 9 p0) (p1 : Int32) (p2 : Int32) (p3 : Int32), J X 5 0 0 69 [(0, vR (some p0)), (1, vI p1), (2, vI p2), (3, vI p3)] [] Λ S (L_X9_missing_69 Λ.2.2 n S p0 p1 p2 p3 = some r) := by
  intro n
  induction n with
  | zero => intro S p0 tp0 p1 p2 p3; exact j_no (fun h => by have h2 : (none : Option (Int32 × sSt)) = some r := h; cases h2)
  | succ n ih => intro S p0 tp0 p1 p2 p3; exact jY_X9_missing_69 C E (L_X9_missing_69 Λ.2.2 n) ih S p0 tp0 p1 p2 p3
def B_X9_missing_56 (N : Nat → Nat) (k19 : sSt → Nat → Int32 → Int32 → Int32 → Option (Int32 × sSt)) (S : sSt) (p0 : Nat) (p1 : Int32) (p3 : Int32) (s0 : Int32) (s1 : Int32) : Option (Int32 × sSt) := k19 S p0 p1 (s1 + s0) (p3 + (1 : Int32))
set_option maxHeartbeats 4000000 in
theorem jB_X9_missing_56 {X : jX} (C : jC X cX9_missing 5 RX9 rm_X9_missing) {Λ : sLay} {r : (Int32 × sSt)} (E : jE X (some .int) rI Λ r) (k19 : sSt → Nat → Int32 → Int32 → Int32 → Option (Int32 × sSt)) (hk19 : ∀ (S : sSt) (p0 : Nat) (tp0 : isK Λ 9 p0) (p1 : Int32) (p2 : Int32) (p3 : Int32), J X 5 0 0 19 [(0, vR (some p0)), (1, vI p1), (2, vI p2), (3, vI p3)] [] Λ S (k19 S p0 p1 p2 p3 = some r)) : ∀ (S : sSt) (p0 : Nat) (tp0 : isK Λ 9 p0) (p1 : Int32) (p3 : Int32) (s0 : Int32) (s1 : Int32), J X 5 0 0 56 [(0, vR (some p0)), (1, vI p1), (3, vI p3)] [vI s0, vI s1] Λ S (B_X9_missing_56 Λ.2.2 k19 S p0 p1 p3 s0 s1 = some r) := by
  intro S p0 tp0 p1 p3 s0 s1
  unfold B_X9_missing_56
  refine j_iadd C dX9_missing_56 ?_
  refine j_istore_n C (L' := [(2, vI (s1 + s0)), (0, vR (some p0)), (1, vI p1), (3, vI p3)]) dX9_missing_57 (by decide) rfl ?_
  refine j_iinc C (v := (1 : Int32)) (L' := [(3, vI (p3 + (1 : Int32))), (2, vI (s1 + s0)), (0, vR (some p0)), (1, vI p1)]) dX9_missing_58 3 rfl (by decide) (by decide) rfl ?_
  refine j_goto C (tgt := 19) dX9_missing_61 (by decide) ?_
  refine j_sub (L' := [(0, vR (some p0)), (1, vI p1), (2, vI (s1 + s0)), (3, vI (p3 + (1 : Int32)))]) [2, 3, 1, 0] rfl ?_
  exact hk19 S p0 tp0 p1 (s1 + s0) (p3 + (1 : Int32))
def Y_X9_missing_19 (N : Nat → Nat) (rec : sSt → Nat → Int32 → Int32 → Int32 → Option (Int32 × sSt)) (S : sSt) (p0 : Nat) (p1 : Int32) (p2 : Int32) (p3 : Int32) : Option (Int32 × sSt) := bnd (gFR S 371 p0) (fun x4 => Option.bind x4 (fun a5 => gi p1 (N a5) ((if (gAI S a5 (Int32.toNatClampNeg p1)) ≤ p3 then L_X9_missing_69 N FU S p0 p1 p2 ((10 : Int32) * p1) else bnd (gFR S 372 p0) (fun x14 => Option.bind x14 (fun a15 => gi (((12 : Int32) * p1) + p3) (N a15) (Option.bind (F_X9_find N S p0 p1 (gAI S a15 (Int32.toNatClampNeg (((12 : Int32) * p1) + p3)))) (fun v16 => (if v16 = (-5 : Int32) then B_X9_missing_56 N rec S p0 p1 p3 (1 : Int32) p2 else B_X9_missing_56 N rec S p0 p1 p3 (0 : Int32) p2)))))))))
set_option maxHeartbeats 4000000 in
theorem jY_X9_missing_19 {X : jX} (C : jC X cX9_missing 5 RX9 rm_X9_missing) {Λ : sLay} {r : (Int32 × sSt)} (E : jE X (some .int) rI Λ r) (rec : sSt → Nat → Int32 → Int32 → Int32 → Option (Int32 × sSt)) (hrec : ∀ (S : sSt) (p0 : Nat) (tp0 : isK Λ 9 p0) (p1 : Int32) (p2 : Int32) (p3 : Int32), J X 5 0 0 19 [(0, vR (some p0)), (1, vI p1), (2, vI p2), (3, vI p3)] [] Λ S (rec S p0 p1 p2 p3 = some r)) : ∀ (S : sSt) (p0 : Nat) (tp0 : isK Λ 9 p0) (p1 : Int32) (p2 : Int32) (p3 : Int32), J X 5 0 0 19 [(0, vR (some p0)), (1, vI p1), (2, vI p2), (3, vI p3)] [] Λ S (Y_X9_missing_19 Λ.2.2 rec S p0 p1 p2 p3 = some r) := by
  intro S p0 tp0 p1 p2 p3
  unfold Y_X9_missing_19
  refine j_iload_n C dX9_missing_19 3 rfl ?_
  refine j_aload_n C dX9_missing_20 0 rfl ?_
  refine j_getR C kK9 f371 kfX9_39 (by decide) rfl tp0 dX9_missing_21 (fun x4 tx4 => ?_)
  refine j_iload_n C dX9_missing_24 1 rfl ?_
  refine j_oc tx4 (fun a5 ta5 ea5 => ?_)
  subst ea5
  refine j_iald C ta5 dX9_missing_25 ?_
  refine j_icmp_ge C (tgt := 64) dX9_missing_26 (by decide) ?_ ?_
  · refine j_bipush C (v := (10 : Int32)) dX9_missing_64 (by decide) ?_
    refine j_iload_n C dX9_missing_66 1 rfl ?_
    refine j_imul C dX9_missing_67 ?_
    refine j_istore_n C (L' := [(3, vI ((10 : Int32) * p1)), (0, vR (some p0)), (1, vI p1), (2, vI p2)]) dX9_missing_68 (by decide) rfl ?_
    refine j_sub (L' := [(0, vR (some p0)), (1, vI p1), (2, vI p2), (3, vI ((10 : Int32) * p1))]) [1, 2, 3, 0] rfl ?_
    exact jL_X9_missing_69 C E FU S p0 tp0 p1 p2 ((10 : Int32) * p1)
  · refine j_iload_n C dX9_missing_29 2 rfl ?_
    refine j_aload_n C dX9_missing_30 0 rfl ?_
    refine j_iload_n C dX9_missing_31 1 rfl ?_
    refine j_aload_n C dX9_missing_32 0 rfl ?_
    refine j_getR C kK9 f372 kfX9_42 (by decide) rfl tp0 dX9_missing_33 (fun x14 tx14 => ?_)
    refine j_bipush C (v := (12 : Int32)) dX9_missing_36 (by decide) ?_
    refine j_iload_n C dX9_missing_38 1 rfl ?_
    refine j_imul C dX9_missing_39 ?_
    refine j_iload_n C dX9_missing_40 3 rfl ?_
    refine j_iadd C dX9_missing_41 ?_
    refine j_oc tx14 (fun a15 ta15 ea15 => ?_)
    subst ea15
    refine j_iald C ta15 dX9_missing_42 ?_
    refine j_cVIP C [vI p1, vI (gAI S a15 (Int32.toNatClampNeg (((12 : Int32) * p1) + p3)))] [vI p2] (fun _ e => c_X9_find p0 tp0 p1 (gAI S a15 (Int32.toNatClampNeg (((12 : Int32) * p1) + p3))) e) kYX9_find kVX9_find kmX9_137 kO9 tp0 rfl rfl ⟨rfl, rfl, by decide, by decide⟩ (Nat.le_of_ble_eq_true rfl) ⟨Nat.zero_le _, Nat.zero_le _⟩ dX9_missing_43 (fun v16 => ?_)
    refine j_bipush C (v := (-5 : Int32)) dX9_missing_46 (by decide) ?_
    refine j_icmp_ne C (tgt := 55) dX9_missing_48 (by decide) ?_ ?_
    · refine j_iconst C (v := (0 : Int32)) dX9_missing_55 (by decide) ?_
      refine j_sub (L' := [(0, vR (some p0)), (1, vI p1), (3, vI p3)]) [0, 1, 3] rfl ?_
      exact jB_X9_missing_56 C E rec hrec S p0 tp0 p1 p3 (0 : Int32) p2
    · refine j_iconst C (v := (1 : Int32)) dX9_missing_51 (by decide) ?_
      refine j_goto C (tgt := 56) dX9_missing_52 (by decide) ?_
      refine j_sub (L' := [(0, vR (some p0)), (1, vI p1), (3, vI p3)]) [0, 1, 3] rfl ?_
      exact jB_X9_missing_56 C E rec hrec S p0 tp0 p1 p3 (1 : Int32) p2
def L_X9_missing_19 (N : Nat → Nat) (n : Nat) : sSt → Nat → Int32 → Int32 → Int32 → Option (Int32 × sSt) := iter (fun _ _ _ _ _ => none) (Y_X9_missing_19 N) n
theorem jL_X9_missing_19 {X : jX} (C : jC X cX9_missing 5 RX9 rm_X9_missing) {Λ : sLay} {r : (Int32 × sSt)} (E : jE X (some .int) rI Λ r) : ∀ (n : Nat) (S : sSt) (p0 : Nat) (tp0 : isK Λ 9 p0) (p1 : Int32) (p2 : Int32) (p3 : Int32), J X 5 0 0 19 [(0, vR (some p0)), (1, vI p1), (2, vI p2), (3, vI p3)] [] Λ S (L_X9_missing_19 Λ.2.2 n S p0 p1 p2 p3 = some r) := by
  intro n
  induction n with
  | zero => intro S p0 tp0 p1 p2 p3; exact j_no (fun h => by have h2 : (none : Option (Int32 × sSt)) = some r := h; cases h2)
  | succ n ih => intro S p0 tp0 p1 p2 p3; exact jY_X9_missing_19 C E (L_X9_missing_19 Λ.2.2 n) ih S p0 tp0 p1 p2 p3
def F_X9_missing (N : Nat → Nat) (S : sSt) (p0 : Nat) (p1 : Int32) : Option (Int32 × sSt) := bnd (sFI S 360 p0 (0 : Int32)) (fun S1 => Option.bind (F_X9_isUnit N S1 p0 p1) (fun v2 => (if v2 = 0 then some ((-1 : Int32), S1) else L_X9_missing_19 N FU S1 p0 p1 (0 : Int32) (0 : Int32))))
set_option maxHeartbeats 4000000 in
theorem jF_X9_missing {X : jX} (C : jC X cX9_missing 5 RX9 rm_X9_missing) {Λ : sLay} {S : sSt} {r : (Int32 × sSt)} (E : jE X (some .int) rI Λ r) (p0 : Nat) (tp0 : isK Λ 9 p0) (p1 : Int32) : J X 5 0 0 0 [(0, vR (some p0)), (1, vI p1)] [] Λ S (F_X9_missing Λ.2.2 S p0 p1 = some r) := by
  unfold F_X9_missing
  refine j_aload_n C dX9_missing_0 0 rfl ?_
  refine j_iconst C (v := (0 : Int32)) dX9_missing_1 (by decide) ?_
  refine j_putI C kK9 f360 kfX9_99 (by decide) rfl rfl rfl tp0 dX9_missing_2 (fun S1 => ?_)
  refine j_aload_n C dX9_missing_5 0 rfl ?_
  refine j_iload_n C dX9_missing_6 1 rfl ?_
  refine j_cVIP C [vI p1] [] (fun _ e => c_X9_isUnit p0 tp0 p1 e) kYX9_isUnit kVX9_isUnit kmX9_110 kO9 tp0 rfl rfl ⟨rfl, rfl, by decide, by decide⟩ (Nat.le_of_ble_eq_true rfl) ⟨Nat.zero_le _, Nat.zero_le _⟩ dX9_missing_7 (fun v2 => ?_)
  refine j_if_ne C (tgt := 15) dX9_missing_10 (by decide) ?_ ?_
  · refine j_iconst C (v := (0 : Int32)) dX9_missing_15 (by decide) ?_
    refine j_istore_n C (L' := [(2, vI (0 : Int32)), (0, vR (some p0)), (1, vI p1)]) dX9_missing_16 (by decide) rfl ?_
    refine j_iconst C (v := (0 : Int32)) dX9_missing_17 (by decide) ?_
    refine j_istore_n C (L' := [(3, vI (0 : Int32)), (2, vI (0 : Int32)), (0, vR (some p0)), (1, vI p1)]) dX9_missing_18 (by decide) rfl ?_
    refine j_sub (L' := [(0, vR (some p0)), (1, vI p1), (2, vI (0 : Int32)), (3, vI (0 : Int32))]) [2, 3, 1, 0] rfl ?_
    exact jL_X9_missing_19 C E FU S1 p0 tp0 p1 (0 : Int32) (0 : Int32)
  · refine j_iconst C (v := (-1 : Int32)) dX9_missing_13 (by decide) ?_
    exact j_iret C E dX9_missing_14
theorem c_X9_missing {l : Launch} {D : va_G} {cy : Nat → ClassId} {Λ : sLay} {S : sSt} (p0 : Nat) (tp0 : isK Λ 9 p0) (p1 : Int32) {v : Int32} {S1 : sSt} (h : F_X9_missing Λ.2.2 S p0 p1 = some (v, S1)) : jM l yX9_missing (Cond.code yX9_missing cX9_missing 5 (some .int) :: bigW) rm_X9_missing D cy Λ S [vR (some p0), vI p1] rI (v, S1) := jM_of (by decide +kernel) (Nat.le_of_ble_eq_true rfl) (fun X C E _ _ _ => j_sub [0, 1] rfl (jF_X9_missing C E p0 tp0 p1)) h
/-! RemakeNeeds2Model.needs()I -/
abbrev rm_X9_needs : Room := { frames := 4, cells := 0, slots := 0, locals := 94 }
def B_X9_needs_51 (N : Nat → Nat) (k13 : sSt → Nat → Int32 → Int32 → Option (Int32 × sSt)) (S : sSt) (p0 : Nat) (p1 : Int32) (p2 : Int32) : Option (Int32 × sSt) := k13 S p0 p1 (p2 + (1 : Int32))
set_option maxHeartbeats 4000000 in
theorem jB_X9_needs_51 {X : jX} (C : jC X cX9_needs 3 RX9 rm_X9_needs) {Λ : sLay} {r : (Int32 × sSt)} (E : jE X (some .int) rI Λ r) (k13 : sSt → Nat → Int32 → Int32 → Option (Int32 × sSt)) (hk13 : ∀ (S : sSt) (p0 : Nat) (tp0 : isK Λ 9 p0) (p1 : Int32) (p2 : Int32), J X 3 0 0 13 [(0, vR (some p0)), (1, vI p1), (2, vI p2)] [] Λ S (k13 S p0 p1 p2 = some r)) : ∀ (S : sSt) (p0 : Nat) (tp0 : isK Λ 9 p0) (p1 : Int32) (p2 : Int32), J X 3 0 0 51 [(0, vR (some p0)), (1, vI p1), (2, vI p2)] [] Λ S (B_X9_needs_51 Λ.2.2 k13 S p0 p1 p2 = some r) := by
  intro S p0 tp0 p1 p2
  unfold B_X9_needs_51
  refine j_iinc C (v := (1 : Int32)) (L' := [(2, vI (p2 + (1 : Int32))), (0, vR (some p0)), (1, vI p1)]) dX9_needs_51 2 rfl (by decide) (by decide) rfl ?_
  refine j_goto C (tgt := 13) dX9_needs_54 (by decide) ?_
  refine j_sub (L' := [(0, vR (some p0)), (1, vI p1), (2, vI (p2 + (1 : Int32)))]) [1, 2, 0] rfl ?_
  exact hk13 S p0 tp0 p1 (p2 + (1 : Int32))
def B_X9_needs_49 (N : Nat → Nat) (k13 : sSt → Nat → Int32 → Int32 → Option (Int32 × sSt)) (S : sSt) (p0 : Nat) (p2 : Int32) (s0 : Int32) (s1 : Int32) : Option (Int32 × sSt) := B_X9_needs_51 N k13 S p0 (s1 + s0) p2
set_option maxHeartbeats 4000000 in
theorem jB_X9_needs_49 {X : jX} (C : jC X cX9_needs 3 RX9 rm_X9_needs) {Λ : sLay} {r : (Int32 × sSt)} (E : jE X (some .int) rI Λ r) (k13 : sSt → Nat → Int32 → Int32 → Option (Int32 × sSt)) (hk13 : ∀ (S : sSt) (p0 : Nat) (tp0 : isK Λ 9 p0) (p1 : Int32) (p2 : Int32), J X 3 0 0 13 [(0, vR (some p0)), (1, vI p1), (2, vI p2)] [] Λ S (k13 S p0 p1 p2 = some r)) : ∀ (S : sSt) (p0 : Nat) (tp0 : isK Λ 9 p0) (p2 : Int32) (s0 : Int32) (s1 : Int32), J X 3 0 0 49 [(0, vR (some p0)), (2, vI p2)] [vI s0, vI s1] Λ S (B_X9_needs_49 Λ.2.2 k13 S p0 p2 s0 s1 = some r) := by
  intro S p0 tp0 p2 s0 s1
  unfold B_X9_needs_49
  refine j_iadd C dX9_needs_49 ?_
  refine j_istore_n C (L' := [(1, vI (s1 + s0)), (0, vR (some p0)), (2, vI p2)]) dX9_needs_50 (by decide) rfl ?_
  refine j_sub (L' := [(0, vR (some p0)), (1, vI (s1 + s0)), (2, vI p2)]) [1, 0, 2] rfl ?_
  exact jB_X9_needs_51 C E k13 hk13 S p0 tp0 (s1 + s0) p2
def Y_X9_needs_13 (N : Nat → Nat) (rec : sSt → Nat → Int32 → Int32 → Option (Int32 × sSt)) (S : sSt) (p0 : Nat) (p1 : Int32) (p2 : Int32) : Option (Int32 × sSt) := (if (gFI S 361 p0) ≤ p2 then some (p1, S) else bnd (gFR S 362 p0) (fun x4 => Option.bind x4 (fun a5 => gi p2 (N a5) ((if (gAI S a5 (Int32.toNatClampNeg p2)) = 0 then B_X9_needs_51 N rec S p0 p1 p2 else Option.bind (F_X9_layRow N S p0 p2) (fun S7 => Option.bind (F_X9_whyOf N S7 p0 p2) (fun v8 => (if v8 ≤ 0 then B_X9_needs_49 N rec S7 p0 p2 (0 : Int32) p1 else B_X9_needs_49 N rec S7 p0 p2 (1 : Int32) p1))))))))
set_option maxHeartbeats 4000000 in
theorem jY_X9_needs_13 {X : jX} (C : jC X cX9_needs 3 RX9 rm_X9_needs) {Λ : sLay} {r : (Int32 × sSt)} (E : jE X (some .int) rI Λ r) (rec : sSt → Nat → Int32 → Int32 → Option (Int32 × sSt)) (hrec : ∀ (S : sSt) (p0 : Nat) (tp0 : isK Λ 9 p0) (p1 : Int32) (p2 : Int32), J X 3 0 0 13 [(0, vR (some p0)), (1, vI p1), (2, vI p2)] [] Λ S (rec S p0 p1 p2 = some r)) : ∀ (S : sSt) (p0 : Nat) (tp0 : isK Λ 9 p0) (p1 : Int32) (p2 : Int32), J X 3 0 0 13 [(0, vR (some p0)), (1, vI p1), (2, vI p2)] [] Λ S (Y_X9_needs_13 Λ.2.2 rec S p0 p1 p2 = some r) := by
  intro S p0 tp0 p1 p2
  unfold Y_X9_needs_13
  refine j_iload_n C dX9_needs_13 2 rfl ?_
  refine j_aload_n C dX9_needs_14 0 rfl ?_
  refine j_getI C kK9 f361 kfX9_103 (by decide) tp0 dX9_needs_15 ?_
  refine j_icmp_ge C (tgt := 57) dX9_needs_18 (by decide) ?_ ?_
  · refine j_iload_n C dX9_needs_57 1 rfl ?_
    exact j_iret C E dX9_needs_58
  · refine j_aload_n C dX9_needs_21 0 rfl ?_
    refine j_getR C kK9 f362 kfX9_7 (by decide) rfl tp0 dX9_needs_22 (fun x4 tx4 => ?_)
    refine j_iload_n C dX9_needs_25 2 rfl ?_
    refine j_oc tx4 (fun a5 ta5 ea5 => ?_)
    subst ea5
    refine j_zald C ta5 dX9_needs_26 ?_
    refine j_if_eq C (tgt := 51) dX9_needs_27 (by decide) ?_ ?_
    · exact jB_X9_needs_51 C E rec hrec S p0 tp0 p1 p2
    · refine j_aload_n C dX9_needs_30 0 rfl ?_
      refine j_iload_n C dX9_needs_31 2 rfl ?_
      refine j_cVVV C [vI p2] [] (fun _ e => c_X9_layRow p0 tp0 p2 e) kYX9_layRow kVX9_layRow kmX9_182 kO9 tp0 rfl rfl ⟨rfl, rfl, by decide, by decide⟩ (Nat.le_of_ble_eq_true rfl) ⟨Nat.zero_le _, Nat.zero_le _⟩ dX9_needs_32 (fun S7 => ?_)
      refine j_iload_n C dX9_needs_35 1 rfl ?_
      refine j_aload_n C dX9_needs_36 0 rfl ?_
      refine j_iload_n C dX9_needs_37 2 rfl ?_
      refine j_cVIP C [vI p2] [vI p1] (fun _ e => c_X9_whyOf p0 tp0 p2 e) kYX9_whyOf kVX9_whyOf kmX9_191 kO9 tp0 rfl rfl ⟨rfl, rfl, by decide, by decide⟩ (Nat.le_of_ble_eq_true rfl) ⟨Nat.zero_le _, Nat.zero_le _⟩ dX9_needs_38 (fun v8 => ?_)
      refine j_if_le C (tgt := 48) dX9_needs_41 (by decide) ?_ ?_
      · refine j_iconst C (v := (0 : Int32)) dX9_needs_48 (by decide) ?_
        refine j_sub (L' := [(0, vR (some p0)), (2, vI p2)]) [0, 2] rfl ?_
        exact jB_X9_needs_49 C E rec hrec S7 p0 tp0 p2 (0 : Int32) p1
      · refine j_iconst C (v := (1 : Int32)) dX9_needs_44 (by decide) ?_
        refine j_goto C (tgt := 49) dX9_needs_45 (by decide) ?_
        refine j_sub (L' := [(0, vR (some p0)), (2, vI p2)]) [0, 2] rfl ?_
        exact jB_X9_needs_49 C E rec hrec S7 p0 tp0 p2 (1 : Int32) p1
def L_X9_needs_13 (N : Nat → Nat) (n : Nat) : sSt → Nat → Int32 → Int32 → Option (Int32 × sSt) := iter (fun _ _ _ _ => none) (Y_X9_needs_13 N) n
theorem jL_X9_needs_13 {X : jX} (C : jC X cX9_needs 3 RX9 rm_X9_needs) {Λ : sLay} {r : (Int32 × sSt)} (E : jE X (some .int) rI Λ r) : ∀ (n : Nat) (S : sSt) (p0 : Nat) (tp0 : isK Λ 9 p0) (p1 : Int32) (p2 : Int32), J X 3 0 0 13 [(0, vR (some p0)), (1, vI p1), (2, vI p2)] [] Λ S (L_X9_needs_13 Λ.2.2 n S p0 p1 p2 = some r) := by
  intro n
  induction n with
  | zero => intro S p0 tp0 p1 p2; exact j_no (fun h => by have h2 : (none : Option (Int32 × sSt)) = some r := h; cases h2)
  | succ n ih => intro S p0 tp0 p1 p2; exact jY_X9_needs_13 C E (L_X9_needs_13 Λ.2.2 n) ih S p0 tp0 p1 p2
def F_X9_needs (N : Nat → Nat) (S : sSt) (p0 : Nat) : Option (Int32 × sSt) := bnd (sFI S 360 p0 (0 : Int32)) (fun S1 => Option.bind (F_X9_reckon N S1 p0) (fun S3 => L_X9_needs_13 N FU S3 p0 (0 : Int32) (0 : Int32)))
set_option maxHeartbeats 4000000 in
theorem jF_X9_needs {X : jX} (C : jC X cX9_needs 3 RX9 rm_X9_needs) {Λ : sLay} {S : sSt} {r : (Int32 × sSt)} (E : jE X (some .int) rI Λ r) (p0 : Nat) (tp0 : isK Λ 9 p0) : J X 3 0 0 0 [(0, vR (some p0))] [] Λ S (F_X9_needs Λ.2.2 S p0 = some r) := by
  unfold F_X9_needs
  refine j_aload_n C dX9_needs_0 0 rfl ?_
  refine j_iconst C (v := (0 : Int32)) dX9_needs_1 (by decide) ?_
  refine j_putI C kK9 f360 kfX9_99 (by decide) rfl rfl rfl tp0 dX9_needs_2 (fun S1 => ?_)
  refine j_aload_n C dX9_needs_5 0 rfl ?_
  refine j_cVVV C [] [] (fun _ e => c_X9_reckon p0 tp0 e) kYX9_reckon kVX9_reckon kmX9_146 kO9 tp0 rfl rfl ⟨rfl, rfl, by decide, by decide⟩ (Nat.le_of_ble_eq_true rfl) ⟨Nat.zero_le _, Nat.zero_le _⟩ dX9_needs_6 (fun S3 => ?_)
  refine j_iconst C (v := (0 : Int32)) dX9_needs_9 (by decide) ?_
  refine j_istore_n C (L' := [(1, vI (0 : Int32)), (0, vR (some p0))]) dX9_needs_10 (by decide) rfl ?_
  refine j_iconst C (v := (0 : Int32)) dX9_needs_11 (by decide) ?_
  refine j_istore_n C (L' := [(2, vI (0 : Int32)), (1, vI (0 : Int32)), (0, vR (some p0))]) dX9_needs_12 (by decide) rfl ?_
  refine j_sub (L' := [(0, vR (some p0)), (1, vI (0 : Int32)), (2, vI (0 : Int32))]) [2, 1, 0] rfl ?_
  exact jL_X9_needs_13 C E FU S3 p0 tp0 (0 : Int32) (0 : Int32)
theorem c_X9_needs {l : Launch} {D : va_G} {cy : Nat → ClassId} {Λ : sLay} {S : sSt} (p0 : Nat) (tp0 : isK Λ 9 p0) {v : Int32} {S1 : sSt} (h : F_X9_needs Λ.2.2 S p0 = some (v, S1)) : jM l yX9_needs (Cond.code yX9_needs cX9_needs 3 (some .int) :: bigW) rm_X9_needs D cy Λ S [vR (some p0)] rI (v, S1) := jM_of (by decide +kernel) (Nat.le_of_ble_eq_true rfl) (fun X C E _ _ _ => j_sub [0] rfl (jF_X9_needs C E p0 tp0)) h
/-! RemakeNeeds2Model.order(I)I -/
abbrev rm_X9_order : Room := { frames := 4, cells := 0, slots := 0, locals := 94 }
def B_X9_order_29 (N : Nat → Nat) (S : sSt) (p0 : Nat) (p1 : Int32) (s0 : Int32) (s1 : Nat) : Option (Int32 × sSt) := bnd (sFI S 360 s1 s0) (fun S6 => (if (gFI S6 360 p0) = 0 then bnd (gFR S6 392 p0) (fun x7 => Option.bind x7 (fun a8 => gi p1 (N a8) (some ((gAI S6 a8 (Int32.toNatClampNeg p1)), S6)))) else some ((0 : Int32), S6)))
set_option maxHeartbeats 4000000 in
theorem jB_X9_order_29 {X : jX} (C : jC X cX9_order 2 RX9 rm_X9_order) {Λ : sLay} {r : (Int32 × sSt)} (E : jE X (some .int) rI Λ r) : ∀ (S : sSt) (p0 : Nat) (tp0 : isK Λ 9 p0) (p1 : Int32) (s0 : Int32) (s1 : Nat) (ts1 : isK Λ 9 s1), J X 2 0 0 29 [(0, vR (some p0)), (1, vI p1)] [vI s0, vR (some s1)] Λ S (B_X9_order_29 Λ.2.2 S p0 p1 s0 s1 = some r) := by
  intro S p0 tp0 p1 s0 s1 ts1
  unfold B_X9_order_29
  refine j_putI C kK9 f360 kfX9_99 (by decide) rfl rfl rfl ts1 dX9_order_29 (fun S6 => ?_)
  refine j_aload_n C dX9_order_32 0 rfl ?_
  refine j_getI C kK9 f360 kfX9_99 (by decide) tp0 dX9_order_33 ?_
  refine j_if_ne C (tgt := 48) dX9_order_36 (by decide) ?_ ?_
  · refine j_iconst C (v := (0 : Int32)) dX9_order_48 (by decide) ?_
    exact j_iret C E dX9_order_49
  · refine j_aload_n C dX9_order_39 0 rfl ?_
    refine j_getR C kK9 f392 kfX9_93 (by decide) rfl tp0 dX9_order_40 (fun x7 tx7 => ?_)
    refine j_iload_n C dX9_order_43 1 rfl ?_
    refine j_oc tx7 (fun a8 ta8 ea8 => ?_)
    subst ea8
    refine j_iald C ta8 dX9_order_44 ?_
    refine j_goto C (tgt := 49) dX9_order_45 (by decide) ?_
    exact j_iret C E dX9_order_49
def F_X9_order (N : Nat → Nat) (S : sSt) (p0 : Nat) (p1 : Int32) : Option (Int32 × sSt) := bnd (sFI S 360 p0 (0 : Int32)) (fun S1 => Option.bind (F_X9_findOrder N S1 p0) (fun S3 => Option.bind (F_X9_in N S3 p1 (0 : Int32) ((gFI S3 393 p0) - (1 : Int32))) (fun v4 => (if v4 = 0 then B_X9_order_29 N S3 p0 p1 (1 : Int32) p0 else B_X9_order_29 N S3 p0 p1 (0 : Int32) p0))))
set_option maxHeartbeats 4000000 in
theorem jF_X9_order {X : jX} (C : jC X cX9_order 2 RX9 rm_X9_order) {Λ : sLay} {S : sSt} {r : (Int32 × sSt)} (E : jE X (some .int) rI Λ r) (p0 : Nat) (tp0 : isK Λ 9 p0) (p1 : Int32) : J X 2 0 0 0 [(0, vR (some p0)), (1, vI p1)] [] Λ S (F_X9_order Λ.2.2 S p0 p1 = some r) := by
  unfold F_X9_order
  refine j_aload_n C dX9_order_0 0 rfl ?_
  refine j_iconst C (v := (0 : Int32)) dX9_order_1 (by decide) ?_
  refine j_putI C kK9 f360 kfX9_99 (by decide) rfl rfl rfl tp0 dX9_order_2 (fun S1 => ?_)
  refine j_aload_n C dX9_order_5 0 rfl ?_
  refine j_cVVV C [] [] (fun _ e => c_X9_findOrder p0 tp0 e) kYX9_findOrder kVX9_findOrder kmX9_198 kO9 tp0 rfl rfl ⟨rfl, rfl, by decide, by decide⟩ (Nat.le_of_ble_eq_true rfl) ⟨Nat.zero_le _, Nat.zero_le _⟩ dX9_order_6 (fun S3 => ?_)
  refine j_aload_n C dX9_order_9 0 rfl ?_
  refine j_iload_n C dX9_order_10 1 rfl ?_
  refine j_iconst C (v := (0 : Int32)) dX9_order_11 (by decide) ?_
  refine j_aload_n C dX9_order_12 0 rfl ?_
  refine j_getI C kK9 f393 kfX9_201 (by decide) tp0 dX9_order_13 ?_
  refine j_iconst C (v := (1 : Int32)) dX9_order_16 (by decide) ?_
  refine j_isub C dX9_order_17 ?_
  refine j_cSIP C [vI p1, vI (0 : Int32), vI ((gFI S3 393 p0) - (1 : Int32))] [vR (some p0)] (fun _ e => c_X9_in p1 (0 : Int32) ((gFI S3 393 p0) - (1 : Int32)) e) kYX9_in kSX9_in kmX9_106 rfl rfl ⟨rfl, rfl, by decide, by decide⟩ (Nat.le_of_ble_eq_true rfl) ⟨Nat.zero_le _, Nat.zero_le _⟩ dX9_order_18 (fun v4 => ?_)
  refine j_if_eq C (tgt := 28) dX9_order_21 (by decide) ?_ ?_
  · refine j_iconst C (v := (1 : Int32)) dX9_order_28 (by decide) ?_
    exact jB_X9_order_29 C E S3 p0 tp0 p1 (1 : Int32) p0 tp0
  · refine j_iconst C (v := (0 : Int32)) dX9_order_24 (by decide) ?_
    refine j_goto C (tgt := 29) dX9_order_25 (by decide) ?_
    exact jB_X9_order_29 C E S3 p0 tp0 p1 (0 : Int32) p0 tp0
theorem c_X9_order {l : Launch} {D : va_G} {cy : Nat → ClassId} {Λ : sLay} {S : sSt} (p0 : Nat) (tp0 : isK Λ 9 p0) (p1 : Int32) {v : Int32} {S1 : sSt} (h : F_X9_order Λ.2.2 S p0 p1 = some (v, S1)) : jM l yX9_order (Cond.code yX9_order cX9_order 2 (some .int) :: bigW) rm_X9_order D cy Λ S [vR (some p0), vI p1] rI (v, S1) := jM_of (by decide +kernel) (Nat.le_of_ble_eq_true rfl) (fun X C E _ _ _ => j_sub [0, 1] rfl (jF_X9_order C E p0 tp0 p1)) h
/-! RemakeNeeds2Model.output(I)J -/
abbrev rm_X9_output : Room := { frames := 2, cells := 0, slots := 0, locals := 43 }
def Y_X9_output_31 (N : Nat → Nat) (rec : sSt → Nat → Int32 → Int64 → Int32 → Option (Int64 × sSt)) (S : sSt) (p0 : Nat) (p1 : Int32) (p2 : Int64) (p4 : Int32) : Option (Int64 × sSt) := bnd (gFR S 376 p0) (fun x6 => Option.bind x6 (fun a7 => gi (((6 : Int32) * p1) + (5 : Int32)) (N a7) ((if (gAI S a7 (Int32.toNatClampNeg (((6 : Int32) * p1) + (5 : Int32)))) ≤ p4 then some (p2, S) else bnd (gFR S 375 p0) (fun x8 => Option.bind x8 (fun a9 => gi (((700 : Int32) * p1) + p4) (N a9) (Option.bind (F_X9_mixed N S p2 (gAJ S a9 (Int32.toNatClampNeg (((700 : Int32) * p1) + p4)))) (fun v10 => rec S p0 p1 v10 (p4 + (1 : Int32))))))))))
set_option maxHeartbeats 4000000 in
theorem jY_X9_output_31 {X : jX} (C : jC X cX9_output 5 RX9 rm_X9_output) {Λ : sLay} {r : (Int64 × sSt)} (E : jE X (some .long) rJ Λ r) (rec : sSt → Nat → Int32 → Int64 → Int32 → Option (Int64 × sSt)) (hrec : ∀ (S : sSt) (p0 : Nat) (tp0 : isK Λ 9 p0) (p1 : Int32) (p2 : Int64) (p4 : Int32), J X 5 0 0 31 [(0, vR (some p0)), (1, vI p1), (2, vJ p2), (4, vI p4)] [] Λ S (rec S p0 p1 p2 p4 = some r)) : ∀ (S : sSt) (p0 : Nat) (tp0 : isK Λ 9 p0) (p1 : Int32) (p2 : Int64) (p4 : Int32), J X 5 0 0 31 [(0, vR (some p0)), (1, vI p1), (2, vJ p2), (4, vI p4)] [] Λ S (Y_X9_output_31 Λ.2.2 rec S p0 p1 p2 p4 = some r) := by
  intro S p0 tp0 p1 p2 p4
  unfold Y_X9_output_31
  refine j_iload C dX9_output_31 3 rfl ?_
  refine j_aload_n C dX9_output_33 0 rfl ?_
  refine j_getR C kK9 f376 kfX9_54 (by decide) rfl tp0 dX9_output_34 (fun x6 tx6 => ?_)
  refine j_bipush C (v := (6 : Int32)) dX9_output_37 (by decide) ?_
  refine j_iload_n C dX9_output_39 1 rfl ?_
  refine j_imul C dX9_output_40 ?_
  refine j_iconst C (v := (5 : Int32)) dX9_output_41 (by decide) ?_
  refine j_iadd C dX9_output_42 ?_
  refine j_oc tx6 (fun a7 ta7 ea7 => ?_)
  subst ea7
  refine j_iald C ta7 dX9_output_43 ?_
  refine j_icmp_ge C (tgt := 71) dX9_output_44 (by decide) ?_ ?_
  · refine j_lload_n C dX9_output_71 2 rfl ?_
    exact j_lret C E dX9_output_72
  · refine j_lload_n C dX9_output_47 2 rfl ?_
    refine j_aload_n C dX9_output_48 0 rfl ?_
    refine j_getR C kK9 f375 kfX9_51 (by decide) rfl tp0 dX9_output_49 (fun x8 tx8 => ?_)
    refine j_sipush C (v := (700 : Int32)) dX9_output_52 (by decide) ?_
    refine j_iload_n C dX9_output_55 1 rfl ?_
    refine j_imul C dX9_output_56 ?_
    refine j_iload C dX9_output_57 3 rfl ?_
    refine j_iadd C dX9_output_59 ?_
    refine j_oc tx8 (fun a9 ta9 ea9 => ?_)
    subst ea9
    refine j_lald C ta9 dX9_output_60 ?_
    refine j_cSJP C [vJ p2, vJ (gAJ S a9 (Int32.toNatClampNeg (((700 : Int32) * p1) + p4)))] [] (fun _ e => c_X9_mixed p2 (gAJ S a9 (Int32.toNatClampNeg (((700 : Int32) * p1) + p4))) e) kYX9_mixed kSX9_mixed kmX9_168 rfl rfl ⟨rfl, rfl, by decide, by decide⟩ (Nat.le_of_ble_eq_true rfl) ⟨Nat.zero_le _, Nat.zero_le _⟩ dX9_output_61 (fun v10 => ?_)
    refine j_lstore_n C (L' := [(2, vJ v10), (0, vR (some p0)), (1, vI p1), (4, vI p4)]) dX9_output_64 (by decide) rfl ?_
    refine j_iinc C (v := (1 : Int32)) (L' := [(4, vI (p4 + (1 : Int32))), (2, vJ v10), (0, vR (some p0)), (1, vI p1)]) dX9_output_65 3 rfl (by decide) (by decide) rfl ?_
    refine j_goto C (tgt := 31) dX9_output_68 (by decide) ?_
    refine j_sub (L' := [(0, vR (some p0)), (1, vI p1), (2, vJ v10), (4, vI (p4 + (1 : Int32)))]) [2, 3, 1, 0] rfl ?_
    exact hrec S p0 tp0 p1 v10 (p4 + (1 : Int32))
def L_X9_output_31 (N : Nat → Nat) (n : Nat) : sSt → Nat → Int32 → Int64 → Int32 → Option (Int64 × sSt) := iter (fun _ _ _ _ _ => none) (Y_X9_output_31 N) n
theorem jL_X9_output_31 {X : jX} (C : jC X cX9_output 5 RX9 rm_X9_output) {Λ : sLay} {r : (Int64 × sSt)} (E : jE X (some .long) rJ Λ r) : ∀ (n : Nat) (S : sSt) (p0 : Nat) (tp0 : isK Λ 9 p0) (p1 : Int32) (p2 : Int64) (p4 : Int32), J X 5 0 0 31 [(0, vR (some p0)), (1, vI p1), (2, vJ p2), (4, vI p4)] [] Λ S (L_X9_output_31 Λ.2.2 n S p0 p1 p2 p4 = some r) := by
  intro n
  induction n with
  | zero => intro S p0 tp0 p1 p2 p4; exact j_no (fun h => by have h2 : (none : Option (Int64 × sSt)) = some r := h; cases h2)
  | succ n ih => intro S p0 tp0 p1 p2 p4; exact jY_X9_output_31 C E (L_X9_output_31 Λ.2.2 n) ih S p0 tp0 p1 p2 p4
def F_X9_output (N : Nat → Nat) (S : sSt) (p0 : Nat) (p1 : Int32) : Option (Int64 × sSt) := bnd (sFI S 360 p0 (0 : Int32)) (fun S1 => Option.bind (F_X9_isUnit N S1 p0 p1) (fun v2 => (if v2 = 0 then some ((0 : Int64), S1) else bnd (gFR S1 377 p0) (fun x4 => Option.bind x4 (fun a5 => gi p1 (N a5) ((if (gAI S1 a5 (Int32.toNatClampNeg p1)) = 0 then some ((0 : Int64), S1) else L_X9_output_31 N FU S1 p0 p1 (17 : Int64) (0 : Int32))))))))
set_option maxHeartbeats 4000000 in
theorem jF_X9_output {X : jX} (C : jC X cX9_output 5 RX9 rm_X9_output) {Λ : sLay} {S : sSt} {r : (Int64 × sSt)} (E : jE X (some .long) rJ Λ r) (p0 : Nat) (tp0 : isK Λ 9 p0) (p1 : Int32) : J X 5 0 0 0 [(0, vR (some p0)), (1, vI p1)] [] Λ S (F_X9_output Λ.2.2 S p0 p1 = some r) := by
  unfold F_X9_output
  refine j_aload_n C dX9_output_0 0 rfl ?_
  refine j_iconst C (v := (0 : Int32)) dX9_output_1 (by decide) ?_
  refine j_putI C kK9 f360 kfX9_99 (by decide) rfl rfl rfl tp0 dX9_output_2 (fun S1 => ?_)
  refine j_aload_n C dX9_output_5 0 rfl ?_
  refine j_iload_n C dX9_output_6 1 rfl ?_
  refine j_cVIP C [vI p1] [] (fun _ e => c_X9_isUnit p0 tp0 p1 e) kYX9_isUnit kVX9_isUnit kmX9_110 kO9 tp0 rfl rfl ⟨rfl, rfl, by decide, by decide⟩ (Nat.le_of_ble_eq_true rfl) ⟨Nat.zero_le _, Nat.zero_le _⟩ dX9_output_7 (fun v2 => ?_)
  refine j_if_eq C (tgt := 22) dX9_output_10 (by decide) ?_ ?_
  · refine j_lconst C (v := (0 : Int64)) dX9_output_22 (by decide) ?_
    exact j_lret C E dX9_output_23
  · refine j_aload_n C dX9_output_13 0 rfl ?_
    refine j_getR C kK9 f377 kfX9_57 (by decide) rfl tp0 dX9_output_14 (fun x4 tx4 => ?_)
    refine j_iload_n C dX9_output_17 1 rfl ?_
    refine j_oc tx4 (fun a5 ta5 ea5 => ?_)
    subst ea5
    refine j_iald C ta5 dX9_output_18 ?_
    refine j_if_ne C (tgt := 24) dX9_output_19 (by decide) ?_ ?_
    · refine j_ldc2 C kcX9_166 dX9_output_24 ?_
      refine j_lstore_n C (L' := [(2, vJ (17 : Int64)), (0, vR (some p0)), (1, vI p1)]) dX9_output_27 (by decide) rfl ?_
      refine j_iconst C (v := (0 : Int32)) dX9_output_28 (by decide) ?_
      refine j_istore C (L' := [(4, vI (0 : Int32)), (2, vJ (17 : Int64)), (0, vR (some p0)), (1, vI p1)]) dX9_output_29 (by decide) rfl ?_
      refine j_sub (L' := [(0, vR (some p0)), (1, vI p1), (2, vJ (17 : Int64)), (4, vI (0 : Int32))]) [2, 3, 1, 0] rfl ?_
      exact jL_X9_output_31 C E FU S1 p0 tp0 p1 (17 : Int64) (0 : Int32)
    · refine j_lconst C (v := (0 : Int64)) dX9_output_22 (by decide) ?_
      exact j_lret C E dX9_output_23
theorem c_X9_output {l : Launch} {D : va_G} {cy : Nat → ClassId} {Λ : sLay} {S : sSt} (p0 : Nat) (tp0 : isK Λ 9 p0) (p1 : Int32) {v : Int64} {S1 : sSt} (h : F_X9_output Λ.2.2 S p0 p1 = some (v, S1)) : jM l yX9_output (Cond.code yX9_output cX9_output 5 (some .long) :: bigW) rm_X9_output D cy Λ S [vR (some p0), vI p1] rJ (v, S1) := jM_of (by decide +kernel) (Nat.le_of_ble_eq_true rfl) (fun X C E _ _ _ => j_sub [0, 1] rfl (jF_X9_output C E p0 tp0 p1)) h
/-! RemakeNeeds2Model.reader(IZ)I -/
abbrev rm_X9_reader : Room := { frames := 2, cells := 0, slots := 0, locals := 43 }
def B_X9_reader_43 (N : Nat → Nat) (S : sSt) (p0 : Nat) (p1 : Int32) (p2 : Int32) (s0 : Int32) : Option (Int32 × sSt) := bnd (gFR S 373 p0) (fun x8 => Option.bind x8 (fun a9 => gi p1 (N a9) (bnd (sAI S a9 (Int32.toNatClampNeg p1) (p2 &&& 1)) (fun S10 => (if p2 = 0 then Option.bind (F_X9_frees N S10 p0 p1) (fun S12 => some (s0, S12)) else some (s0, S10))))))
set_option maxHeartbeats 4000000 in
theorem jB_X9_reader_43 {X : jX} (C : jC X cX9_reader 4 RX9 rm_X9_reader) {Λ : sLay} {r : (Int32 × sSt)} (E : jE X (some .int) rI Λ r) : ∀ (S : sSt) (p0 : Nat) (tp0 : isK Λ 9 p0) (p1 : Int32) (p2 : Int32) (s0 : Int32), J X 4 0 0 43 [(0, vR (some p0)), (1, vI p1), (2, vI p2)] [vI s0] Λ S (B_X9_reader_43 Λ.2.2 S p0 p1 p2 s0 = some r) := by
  intro S p0 tp0 p1 p2 s0
  unfold B_X9_reader_43
  refine j_istore_n C (L' := [(3, vI s0), (0, vR (some p0)), (1, vI p1), (2, vI p2)]) dX9_reader_43 (by decide) rfl ?_
  refine j_aload_n C dX9_reader_44 1 rfl ?_
  refine j_getR C kK9 f373 kfX9_45 (by decide) rfl tp0 dX9_reader_45 (fun x8 tx8 => ?_)
  refine j_iload_n C dX9_reader_48 2 rfl ?_
  refine j_iload_n C dX9_reader_49 3 rfl ?_
  refine j_oc tx8 (fun a9 ta9 ea9 => ?_)
  subst ea9
  refine j_zast C ta9 dX9_reader_50 (fun S10 => ?_)
  refine j_iload_n C dX9_reader_51 3 rfl ?_
  refine j_if_ne C (tgt := 60) dX9_reader_52 (by decide) ?_ ?_
  · refine j_iload_n C dX9_reader_60 0 rfl ?_
    exact j_iret C E dX9_reader_61
  · refine j_aload_n C dX9_reader_55 1 rfl ?_
    refine j_iload_n C dX9_reader_56 2 rfl ?_
    refine j_cVVV C [vI p1] [] (fun _ e => c_X9_frees p0 tp0 p1 e) kYX9_frees kVX9_frees kmX9_129 kO9 tp0 rfl rfl ⟨rfl, rfl, by decide, by decide⟩ (Nat.le_of_ble_eq_true rfl) ⟨Nat.zero_le _, Nat.zero_le _⟩ dX9_reader_57 (fun S12 => ?_)
    refine j_iload_n C dX9_reader_60 0 rfl ?_
    exact j_iret C E dX9_reader_61
def F_X9_reader (N : Nat → Nat) (S : sSt) (p0 : Nat) (p1 : Int32) (p2 : Int32) : Option (Int32 × sSt) := bnd (sFI S 360 p0 (0 : Int32)) (fun S1 => Option.bind (F_X9_isUnit N S1 p0 p1) (fun v2 => (if v2 = 0 then some ((-1 : Int32), S1) else bnd (gFR S1 374 p0) (fun x4 => Option.bind x4 (fun a5 => gi p1 (N a5) ((if (gAI S1 a5 (Int32.toNatClampNeg p1)) = (-5 : Int32) then bnd (gFR S1 373 p0) (fun x6 => Option.bind x6 (fun a7 => gi p1 (N a7) ((if (gAI S1 a7 (Int32.toNatClampNeg p1)) = 0 then B_X9_reader_43 N S1 p0 p1 p2 (0 : Int32) else B_X9_reader_43 N S1 p0 p1 p2 (1 : Int32))))) else some ((-3 : Int32), S1))))))))
set_option maxHeartbeats 4000000 in
theorem jF_X9_reader {X : jX} (C : jC X cX9_reader 4 RX9 rm_X9_reader) {Λ : sLay} {S : sSt} {r : (Int32 × sSt)} (E : jE X (some .int) rI Λ r) (p0 : Nat) (tp0 : isK Λ 9 p0) (p1 : Int32) (p2 : Int32) : J X 4 0 0 0 [(0, vR (some p0)), (1, vI p1), (2, vI p2)] [] Λ S (F_X9_reader Λ.2.2 S p0 p1 p2 = some r) := by
  unfold F_X9_reader
  refine j_aload_n C dX9_reader_0 0 rfl ?_
  refine j_iconst C (v := (0 : Int32)) dX9_reader_1 (by decide) ?_
  refine j_putI C kK9 f360 kfX9_99 (by decide) rfl rfl rfl tp0 dX9_reader_2 (fun S1 => ?_)
  refine j_aload_n C dX9_reader_5 0 rfl ?_
  refine j_iload_n C dX9_reader_6 1 rfl ?_
  refine j_cVIP C [vI p1] [] (fun _ e => c_X9_isUnit p0 tp0 p1 e) kYX9_isUnit kVX9_isUnit kmX9_110 kO9 tp0 rfl rfl ⟨rfl, rfl, by decide, by decide⟩ (Nat.le_of_ble_eq_true rfl) ⟨Nat.zero_le _, Nat.zero_le _⟩ dX9_reader_7 (fun v2 => ?_)
  refine j_if_ne C (tgt := 15) dX9_reader_10 (by decide) ?_ ?_
  · refine j_aload_n C dX9_reader_15 0 rfl ?_
    refine j_getR C kK9 f374 kfX9_48 (by decide) rfl tp0 dX9_reader_16 (fun x4 tx4 => ?_)
    refine j_iload_n C dX9_reader_19 1 rfl ?_
    refine j_oc tx4 (fun a5 ta5 ea5 => ?_)
    subst ea5
    refine j_iald C ta5 dX9_reader_20 ?_
    refine j_bipush C (v := (-5 : Int32)) dX9_reader_21 (by decide) ?_
    refine j_icmp_eq C (tgt := 29) dX9_reader_23 (by decide) ?_ ?_
    · refine j_aload_n C dX9_reader_29 0 rfl ?_
      refine j_getR C kK9 f373 kfX9_45 (by decide) rfl tp0 dX9_reader_30 (fun x6 tx6 => ?_)
      refine j_iload_n C dX9_reader_33 1 rfl ?_
      refine j_oc tx6 (fun a7 ta7 ea7 => ?_)
      subst ea7
      refine j_zald C ta7 dX9_reader_34 ?_
      refine j_if_eq C (tgt := 42) dX9_reader_35 (by decide) ?_ ?_
      · refine j_iconst C (v := (0 : Int32)) dX9_reader_42 (by decide) ?_
        exact jB_X9_reader_43 C E S1 p0 tp0 p1 p2 (0 : Int32)
      · refine j_iconst C (v := (1 : Int32)) dX9_reader_38 (by decide) ?_
        refine j_goto C (tgt := 43) dX9_reader_39 (by decide) ?_
        exact jB_X9_reader_43 C E S1 p0 tp0 p1 p2 (1 : Int32)
    · refine j_bipush C (v := (-3 : Int32)) dX9_reader_26 (by decide) ?_
      exact j_iret C E dX9_reader_28
  · refine j_iconst C (v := (-1 : Int32)) dX9_reader_13 (by decide) ?_
    exact j_iret C E dX9_reader_14
theorem c_X9_reader {l : Launch} {D : va_G} {cy : Nat → ClassId} {Λ : sLay} {S : sSt} (p0 : Nat) (tp0 : isK Λ 9 p0) (p1 : Int32) (p2 : Int32) {v : Int32} {S1 : sSt} (h : F_X9_reader Λ.2.2 S p0 p1 p2 = some (v, S1)) : jM l yX9_reader (Cond.code yX9_reader cX9_reader 4 (some .int) :: bigW) rm_X9_reader D cy Λ S [vR (some p0), vI p1, vI p2] rI (v, S1) := jM_of (by decide +kernel) (Nat.le_of_ble_eq_true rfl) (fun X C E _ _ _ => j_sub [0, 1, 2] rfl (jF_X9_reader C E p0 tp0 p1 p2)) h
/-! RemakeNeeds2Model.remove(I)I -/
abbrev rm_X9_remove : Room := { frames := 2, cells := 0, slots := 0, locals := 43 }
def B_X9_remove_95 (N : Nat → Nat) (k29 : sSt → Nat → Int32 → Int32 → Option (Int32 × sSt)) (k42 : sSt → Nat → Int32 → Int32 → Int32 → Int32 → Option (Int32 × sSt)) (S : sSt) (p0 : Nat) (p1 : Int32) (p2 : Int32) (p3 : Int32) (p4 : Int32) : Option (Int32 × sSt) := k42 S p0 p1 p2 p3 (p4 + (1 : Int32))
set_option maxHeartbeats 4000000 in
theorem jB_X9_remove_95 {X : jX} (C : jC X cX9_remove 5 RX9 rm_X9_remove) {Λ : sLay} {r : (Int32 × sSt)} (E : jE X (some .int) rI Λ r) (k29 : sSt → Nat → Int32 → Int32 → Option (Int32 × sSt)) (hk29 : ∀ (S : sSt) (p0 : Nat) (tp0 : isK Λ 9 p0) (p1 : Int32) (p2 : Int32), J X 5 0 0 29 [(0, vR (some p0)), (1, vI p1), (2, vI p2)] [] Λ S (k29 S p0 p1 p2 = some r)) (k42 : sSt → Nat → Int32 → Int32 → Int32 → Int32 → Option (Int32 × sSt)) (hk42 : ∀ (S : sSt) (p0 : Nat) (tp0 : isK Λ 9 p0) (p1 : Int32) (p2 : Int32) (p3 : Int32) (p4 : Int32), J X 5 0 0 42 [(0, vR (some p0)), (1, vI p1), (2, vI p2), (3, vI p3), (4, vI p4)] [] Λ S (k42 S p0 p1 p2 p3 p4 = some r)) : ∀ (S : sSt) (p0 : Nat) (tp0 : isK Λ 9 p0) (p1 : Int32) (p2 : Int32) (p3 : Int32) (p4 : Int32), J X 5 0 0 95 [(0, vR (some p0)), (1, vI p1), (2, vI p2), (3, vI p3), (4, vI p4)] [] Λ S (B_X9_remove_95 Λ.2.2 k29 k42 S p0 p1 p2 p3 p4 = some r) := by
  intro S p0 tp0 p1 p2 p3 p4
  unfold B_X9_remove_95
  refine j_iinc C (v := (1 : Int32)) (L' := [(4, vI (p4 + (1 : Int32))), (0, vR (some p0)), (1, vI p1), (2, vI p2), (3, vI p3)]) dX9_remove_95 4 rfl (by decide) (by decide) rfl ?_
  refine j_goto C (tgt := 42) dX9_remove_98 (by decide) ?_
  refine j_sub (L' := [(0, vR (some p0)), (1, vI p1), (2, vI p2), (3, vI p3), (4, vI (p4 + (1 : Int32)))]) [1, 2, 3, 4, 0] rfl ?_
  exact hk42 S p0 tp0 p1 p2 p3 (p4 + (1 : Int32))
def Y_X9_remove_42 (N : Nat → Nat) (k29 : sSt → Nat → Int32 → Int32 → Option (Int32 × sSt)) (rec : sSt → Nat → Int32 → Int32 → Int32 → Int32 → Option (Int32 × sSt)) (S : sSt) (p0 : Nat) (p1 : Int32) (p2 : Int32) (p3 : Int32) (p4 : Int32) : Option (Int32 × sSt) := bnd (gFR S 369 p0) (fun x11 => Option.bind x11 (fun a12 => gi p2 (N a12) ((if (gAI S a12 (Int32.toNatClampNeg p2)) ≤ p4 then bnd (gFR S 369 p0) (fun x13 => Option.bind x13 (fun a14 => gi p2 (N a14) (bnd (sAI S a14 (Int32.toNatClampNeg p2) p3) (fun S15 => k29 S15 p0 p1 (p2 + (1 : Int32)))))) else bnd (gFR S 370 p0) (fun x16 => Option.bind x16 (fun a17 => gi (((6 : Int32) * p2) + p4) (N a17) ((if (gAI S a17 (Int32.toNatClampNeg (((6 : Int32) * p2) + p4))) = p1 then B_X9_remove_95 N k29 rec S p0 p1 p2 p3 p4 else bnd (gFR S 370 p0) (fun x18 => bnd (gFR S 370 p0) (fun x19 => Option.bind x19 (fun a20 => gi (((6 : Int32) * p2) + p4) (N a20) (Option.bind x18 (fun a21 => gi (((6 : Int32) * p2) + p3) (N a21) (bnd (sAI S a21 (Int32.toNatClampNeg (((6 : Int32) * p2) + p3)) (gAI S a20 (Int32.toNatClampNeg (((6 : Int32) * p2) + p4)))) (fun S22 => B_X9_remove_95 N k29 rec S22 p0 p1 p2 (p3 + (1 : Int32)) p4)))))))))))))))
set_option maxHeartbeats 4000000 in
theorem jY_X9_remove_42 {X : jX} (C : jC X cX9_remove 5 RX9 rm_X9_remove) {Λ : sLay} {r : (Int32 × sSt)} (E : jE X (some .int) rI Λ r) (k29 : sSt → Nat → Int32 → Int32 → Option (Int32 × sSt)) (hk29 : ∀ (S : sSt) (p0 : Nat) (tp0 : isK Λ 9 p0) (p1 : Int32) (p2 : Int32), J X 5 0 0 29 [(0, vR (some p0)), (1, vI p1), (2, vI p2)] [] Λ S (k29 S p0 p1 p2 = some r)) (rec : sSt → Nat → Int32 → Int32 → Int32 → Int32 → Option (Int32 × sSt)) (hrec : ∀ (S : sSt) (p0 : Nat) (tp0 : isK Λ 9 p0) (p1 : Int32) (p2 : Int32) (p3 : Int32) (p4 : Int32), J X 5 0 0 42 [(0, vR (some p0)), (1, vI p1), (2, vI p2), (3, vI p3), (4, vI p4)] [] Λ S (rec S p0 p1 p2 p3 p4 = some r)) : ∀ (S : sSt) (p0 : Nat) (tp0 : isK Λ 9 p0) (p1 : Int32) (p2 : Int32) (p3 : Int32) (p4 : Int32), J X 5 0 0 42 [(0, vR (some p0)), (1, vI p1), (2, vI p2), (3, vI p3), (4, vI p4)] [] Λ S (Y_X9_remove_42 Λ.2.2 k29 rec S p0 p1 p2 p3 p4 = some r) := by
  intro S p0 tp0 p1 p2 p3 p4
  unfold Y_X9_remove_42
  refine j_iload C dX9_remove_42 4 rfl ?_
  refine j_aload_n C dX9_remove_44 0 rfl ?_
  refine j_getR C kK9 f369 kfX9_33 (by decide) rfl tp0 dX9_remove_45 (fun x11 tx11 => ?_)
  refine j_iload_n C dX9_remove_48 2 rfl ?_
  refine j_oc tx11 (fun a12 ta12 ea12 => ?_)
  subst ea12
  refine j_iald C ta12 dX9_remove_49 ?_
  refine j_icmp_ge C (tgt := 101) dX9_remove_50 (by decide) ?_ ?_
  · refine j_aload_n C dX9_remove_101 0 rfl ?_
    refine j_getR C kK9 f369 kfX9_33 (by decide) rfl tp0 dX9_remove_102 (fun x13 tx13 => ?_)
    refine j_iload_n C dX9_remove_105 2 rfl ?_
    refine j_iload_n C dX9_remove_106 3 rfl ?_
    refine j_oc tx13 (fun a14 ta14 ea14 => ?_)
    subst ea14
    refine j_iast C ta14 dX9_remove_107 (fun S15 => ?_)
    refine j_iinc C (v := (1 : Int32)) (L' := [(2, vI (p2 + (1 : Int32))), (0, vR (some p0)), (1, vI p1), (3, vI p3), (4, vI p4)]) dX9_remove_108 2 rfl (by decide) (by decide) rfl ?_
    refine j_goto C (tgt := 29) dX9_remove_111 (by decide) ?_
    refine j_sub (L' := [(0, vR (some p0)), (1, vI p1), (2, vI (p2 + (1 : Int32)))]) [1, 2, 0] rfl ?_
    exact hk29 S15 p0 tp0 p1 (p2 + (1 : Int32))
  · refine j_aload_n C dX9_remove_53 0 rfl ?_
    refine j_getR C kK9 f370 kfX9_36 (by decide) rfl tp0 dX9_remove_54 (fun x16 tx16 => ?_)
    refine j_bipush C (v := (6 : Int32)) dX9_remove_57 (by decide) ?_
    refine j_iload_n C dX9_remove_59 2 rfl ?_
    refine j_imul C dX9_remove_60 ?_
    refine j_iload C dX9_remove_61 4 rfl ?_
    refine j_iadd C dX9_remove_63 ?_
    refine j_oc tx16 (fun a17 ta17 ea17 => ?_)
    subst ea17
    refine j_iald C ta17 dX9_remove_64 ?_
    refine j_iload_n C dX9_remove_65 1 rfl ?_
    refine j_icmp_eq C (tgt := 95) dX9_remove_66 (by decide) ?_ ?_
    · exact jB_X9_remove_95 C E k29 hk29 rec hrec S p0 tp0 p1 p2 p3 p4
    · refine j_aload_n C dX9_remove_69 0 rfl ?_
      refine j_getR C kK9 f370 kfX9_36 (by decide) rfl tp0 dX9_remove_70 (fun x18 tx18 => ?_)
      refine j_bipush C (v := (6 : Int32)) dX9_remove_73 (by decide) ?_
      refine j_iload_n C dX9_remove_75 2 rfl ?_
      refine j_imul C dX9_remove_76 ?_
      refine j_iload_n C dX9_remove_77 3 rfl ?_
      refine j_iadd C dX9_remove_78 ?_
      refine j_aload_n C dX9_remove_79 0 rfl ?_
      refine j_getR C kK9 f370 kfX9_36 (by decide) rfl tp0 dX9_remove_80 (fun x19 tx19 => ?_)
      refine j_bipush C (v := (6 : Int32)) dX9_remove_83 (by decide) ?_
      refine j_iload_n C dX9_remove_85 2 rfl ?_
      refine j_imul C dX9_remove_86 ?_
      refine j_iload C dX9_remove_87 4 rfl ?_
      refine j_iadd C dX9_remove_89 ?_
      refine j_oc tx19 (fun a20 ta20 ea20 => ?_)
      subst ea20
      refine j_iald C ta20 dX9_remove_90 ?_
      refine j_oc tx18 (fun a21 ta21 ea21 => ?_)
      subst ea21
      refine j_iast C ta21 dX9_remove_91 (fun S22 => ?_)
      refine j_iinc C (v := (1 : Int32)) (L' := [(3, vI (p3 + (1 : Int32))), (0, vR (some p0)), (1, vI p1), (2, vI p2), (4, vI p4)]) dX9_remove_92 3 rfl (by decide) (by decide) rfl ?_
      refine j_sub (L' := [(0, vR (some p0)), (1, vI p1), (2, vI p2), (3, vI (p3 + (1 : Int32))), (4, vI p4)]) [1, 2, 3, 0, 4] rfl ?_
      exact jB_X9_remove_95 C E k29 hk29 rec hrec S22 p0 tp0 p1 p2 (p3 + (1 : Int32)) p4
def L_X9_remove_42 (N : Nat → Nat) (k29 : sSt → Nat → Int32 → Int32 → Option (Int32 × sSt)) (n : Nat) : sSt → Nat → Int32 → Int32 → Int32 → Int32 → Option (Int32 × sSt) := iter (fun _ _ _ _ _ _ => none) (Y_X9_remove_42 N k29) n
theorem jL_X9_remove_42 {X : jX} (C : jC X cX9_remove 5 RX9 rm_X9_remove) {Λ : sLay} {r : (Int32 × sSt)} (E : jE X (some .int) rI Λ r) (k29 : sSt → Nat → Int32 → Int32 → Option (Int32 × sSt)) (hk29 : ∀ (S : sSt) (p0 : Nat) (tp0 : isK Λ 9 p0) (p1 : Int32) (p2 : Int32), J X 5 0 0 29 [(0, vR (some p0)), (1, vI p1), (2, vI p2)] [] Λ S (k29 S p0 p1 p2 = some r)) : ∀ (n : Nat) (S : sSt) (p0 : Nat) (tp0 : isK Λ 9 p0) (p1 : Int32) (p2 : Int32) (p3 : Int32) (p4 : Int32), J X 5 0 0 42 [(0, vR (some p0)), (1, vI p1), (2, vI p2), (3, vI p3), (4, vI p4)] [] Λ S (L_X9_remove_42 Λ.2.2 k29 n S p0 p1 p2 p3 p4 = some r) := by
  intro n
  induction n with
  | zero => intro S p0 tp0 p1 p2 p3 p4; exact j_no (fun h => by have h2 : (none : Option (Int32 × sSt)) = some r := h; cases h2)
  | succ n ih => intro S p0 tp0 p1 p2 p3 p4; exact jY_X9_remove_42 C E k29 hk29 (L_X9_remove_42 Λ.2.2 k29 n) ih S p0 tp0 p1 p2 p3 p4
def Y_X9_remove_29 (N : Nat → Nat) (rec : sSt → Nat → Int32 → Int32 → Option (Int32 × sSt)) (S : sSt) (p0 : Nat) (p1 : Int32) (p2 : Int32) : Option (Int32 × sSt) := (if (gFI S 361 p0) ≤ p2 then Option.bind (F_X9_unitsThere N S p0) (fun v9 => some (v9, S)) else L_X9_remove_42 N rec FU S p0 p1 p2 (0 : Int32) (0 : Int32))
set_option maxHeartbeats 4000000 in
theorem jY_X9_remove_29 {X : jX} (C : jC X cX9_remove 5 RX9 rm_X9_remove) {Λ : sLay} {r : (Int32 × sSt)} (E : jE X (some .int) rI Λ r) (rec : sSt → Nat → Int32 → Int32 → Option (Int32 × sSt)) (hrec : ∀ (S : sSt) (p0 : Nat) (tp0 : isK Λ 9 p0) (p1 : Int32) (p2 : Int32), J X 5 0 0 29 [(0, vR (some p0)), (1, vI p1), (2, vI p2)] [] Λ S (rec S p0 p1 p2 = some r)) : ∀ (S : sSt) (p0 : Nat) (tp0 : isK Λ 9 p0) (p1 : Int32) (p2 : Int32), J X 5 0 0 29 [(0, vR (some p0)), (1, vI p1), (2, vI p2)] [] Λ S (Y_X9_remove_29 Λ.2.2 rec S p0 p1 p2 = some r) := by
  intro S p0 tp0 p1 p2
  unfold Y_X9_remove_29
  refine j_iload_n C dX9_remove_29 2 rfl ?_
  refine j_aload_n C dX9_remove_30 0 rfl ?_
  refine j_getI C kK9 f361 kfX9_103 (by decide) tp0 dX9_remove_31 ?_
  refine j_icmp_ge C (tgt := 114) dX9_remove_34 (by decide) ?_ ?_
  · refine j_aload_n C dX9_remove_114 0 rfl ?_
    refine j_cVIP C [] [] (fun _ e => c_X9_unitsThere p0 tp0 e) kYX9_unitsThere kVX9_unitsThere kmX9_133 kO9 tp0 rfl rfl ⟨rfl, rfl, by decide, by decide⟩ (Nat.le_of_ble_eq_true rfl) ⟨Nat.zero_le _, Nat.zero_le _⟩ dX9_remove_115 (fun v9 => ?_)
    exact j_iret C E dX9_remove_118
  · refine j_iconst C (v := (0 : Int32)) dX9_remove_37 (by decide) ?_
    refine j_istore_n C (L' := [(3, vI (0 : Int32)), (0, vR (some p0)), (1, vI p1), (2, vI p2)]) dX9_remove_38 (by decide) rfl ?_
    refine j_iconst C (v := (0 : Int32)) dX9_remove_39 (by decide) ?_
    refine j_istore C (L' := [(4, vI (0 : Int32)), (3, vI (0 : Int32)), (0, vR (some p0)), (1, vI p1), (2, vI p2)]) dX9_remove_40 (by decide) rfl ?_
    refine j_sub (L' := [(0, vR (some p0)), (1, vI p1), (2, vI p2), (3, vI (0 : Int32)), (4, vI (0 : Int32))]) [2, 3, 4, 1, 0] rfl ?_
    exact jL_X9_remove_42 C E rec hrec FU S p0 tp0 p1 p2 (0 : Int32) (0 : Int32)
def L_X9_remove_29 (N : Nat → Nat) (n : Nat) : sSt → Nat → Int32 → Int32 → Option (Int32 × sSt) := iter (fun _ _ _ _ => none) (Y_X9_remove_29 N) n
theorem jL_X9_remove_29 {X : jX} (C : jC X cX9_remove 5 RX9 rm_X9_remove) {Λ : sLay} {r : (Int32 × sSt)} (E : jE X (some .int) rI Λ r) : ∀ (n : Nat) (S : sSt) (p0 : Nat) (tp0 : isK Λ 9 p0) (p1 : Int32) (p2 : Int32), J X 5 0 0 29 [(0, vR (some p0)), (1, vI p1), (2, vI p2)] [] Λ S (L_X9_remove_29 Λ.2.2 n S p0 p1 p2 = some r) := by
  intro n
  induction n with
  | zero => intro S p0 tp0 p1 p2; exact j_no (fun h => by have h2 : (none : Option (Int32 × sSt)) = some r := h; cases h2)
  | succ n ih => intro S p0 tp0 p1 p2; exact jY_X9_remove_29 C E (L_X9_remove_29 Λ.2.2 n) ih S p0 tp0 p1 p2
def F_X9_remove (N : Nat → Nat) (S : sSt) (p0 : Nat) (p1 : Int32) : Option (Int32 × sSt) := bnd (sFI S 360 p0 (0 : Int32)) (fun S1 => Option.bind (F_X9_isUnit N S1 p0 p1) (fun v2 => (if v2 = 0 then some ((-1 : Int32), S1) else bnd (gFR S1 362 p0) (fun x4 => Option.bind x4 (fun a5 => gi p1 (N a5) (bnd (sAI S1 a5 (Int32.toNatClampNeg p1) ((0 : Int32) &&& 1)) (fun S6 => Option.bind (F_X9_frees N S6 p0 p1) (fun S8 => L_X9_remove_29 N FU S8 p0 p1 (0 : Int32)))))))))
set_option maxHeartbeats 4000000 in
theorem jF_X9_remove {X : jX} (C : jC X cX9_remove 5 RX9 rm_X9_remove) {Λ : sLay} {S : sSt} {r : (Int32 × sSt)} (E : jE X (some .int) rI Λ r) (p0 : Nat) (tp0 : isK Λ 9 p0) (p1 : Int32) : J X 5 0 0 0 [(0, vR (some p0)), (1, vI p1)] [] Λ S (F_X9_remove Λ.2.2 S p0 p1 = some r) := by
  unfold F_X9_remove
  refine j_aload_n C dX9_remove_0 0 rfl ?_
  refine j_iconst C (v := (0 : Int32)) dX9_remove_1 (by decide) ?_
  refine j_putI C kK9 f360 kfX9_99 (by decide) rfl rfl rfl tp0 dX9_remove_2 (fun S1 => ?_)
  refine j_aload_n C dX9_remove_5 0 rfl ?_
  refine j_iload_n C dX9_remove_6 1 rfl ?_
  refine j_cVIP C [vI p1] [] (fun _ e => c_X9_isUnit p0 tp0 p1 e) kYX9_isUnit kVX9_isUnit kmX9_110 kO9 tp0 rfl rfl ⟨rfl, rfl, by decide, by decide⟩ (Nat.le_of_ble_eq_true rfl) ⟨Nat.zero_le _, Nat.zero_le _⟩ dX9_remove_7 (fun v2 => ?_)
  refine j_if_ne C (tgt := 15) dX9_remove_10 (by decide) ?_ ?_
  · refine j_aload_n C dX9_remove_15 0 rfl ?_
    refine j_getR C kK9 f362 kfX9_7 (by decide) rfl tp0 dX9_remove_16 (fun x4 tx4 => ?_)
    refine j_iload_n C dX9_remove_19 1 rfl ?_
    refine j_iconst C (v := (0 : Int32)) dX9_remove_20 (by decide) ?_
    refine j_oc tx4 (fun a5 ta5 ea5 => ?_)
    subst ea5
    refine j_zast C ta5 dX9_remove_21 (fun S6 => ?_)
    refine j_aload_n C dX9_remove_22 0 rfl ?_
    refine j_iload_n C dX9_remove_23 1 rfl ?_
    refine j_cVVV C [vI p1] [] (fun _ e => c_X9_frees p0 tp0 p1 e) kYX9_frees kVX9_frees kmX9_129 kO9 tp0 rfl rfl ⟨rfl, rfl, by decide, by decide⟩ (Nat.le_of_ble_eq_true rfl) ⟨Nat.zero_le _, Nat.zero_le _⟩ dX9_remove_24 (fun S8 => ?_)
    refine j_iconst C (v := (0 : Int32)) dX9_remove_27 (by decide) ?_
    refine j_istore_n C (L' := [(2, vI (0 : Int32)), (0, vR (some p0)), (1, vI p1)]) dX9_remove_28 (by decide) rfl ?_
    refine j_sub (L' := [(0, vR (some p0)), (1, vI p1), (2, vI (0 : Int32))]) [1, 2, 0] rfl ?_
    exact jL_X9_remove_29 C E FU S8 p0 tp0 p1 (0 : Int32)
  · refine j_iconst C (v := (-1 : Int32)) dX9_remove_13 (by decide) ?_
    exact j_iret C E dX9_remove_14
theorem c_X9_remove {l : Launch} {D : va_G} {cy : Nat → ClassId} {Λ : sLay} {S : sSt} (p0 : Nat) (tp0 : isK Λ 9 p0) (p1 : Int32) {v : Int32} {S1 : sSt} (h : F_X9_remove Λ.2.2 S p0 p1 = some (v, S1)) : jM l yX9_remove (Cond.code yX9_remove cX9_remove 5 (some .int) :: bigW) rm_X9_remove D cy Λ S [vR (some p0), vI p1] rI (v, S1) := jM_of (by decide +kernel) (Nat.le_of_ble_eq_true rfl) (fun X C E _ _ _ => j_sub [0, 1] rfl (jF_X9_remove C E p0 tp0 p1)) h
/-! RemakeNeeds2Model.ring(I)I -/
abbrev rm_X9_ring : Room := { frames := 4, cells := 0, slots := 0, locals := 94 }
def F_X9_ring (N : Nat → Nat) (S : sSt) (p0 : Nat) (p1 : Int32) : Option (Int32 × sSt) := bnd (sFI S 360 p0 (0 : Int32)) (fun S1 => Option.bind (F_X9_isUnit N S1 p0 p1) (fun v2 => (if v2 = 0 then some ((-1 : Int32), S1) else Option.bind (F_X9_findOrder N S1 p0) (fun S5 => bnd (gFR S5 391 p0) (fun x6 => Option.bind x6 (fun a7 => gi p1 (N a7) (some ((gAI S5 a7 (Int32.toNatClampNeg p1)), S5))))))))
set_option maxHeartbeats 4000000 in
theorem jF_X9_ring {X : jX} (C : jC X cX9_ring 2 RX9 rm_X9_ring) {Λ : sLay} {S : sSt} {r : (Int32 × sSt)} (E : jE X (some .int) rI Λ r) (p0 : Nat) (tp0 : isK Λ 9 p0) (p1 : Int32) : J X 2 0 0 0 [(0, vR (some p0)), (1, vI p1)] [] Λ S (F_X9_ring Λ.2.2 S p0 p1 = some r) := by
  unfold F_X9_ring
  refine j_aload_n C dX9_ring_0 0 rfl ?_
  refine j_iconst C (v := (0 : Int32)) dX9_ring_1 (by decide) ?_
  refine j_putI C kK9 f360 kfX9_99 (by decide) rfl rfl rfl tp0 dX9_ring_2 (fun S1 => ?_)
  refine j_aload_n C dX9_ring_5 0 rfl ?_
  refine j_iload_n C dX9_ring_6 1 rfl ?_
  refine j_cVIP C [vI p1] [] (fun _ e => c_X9_isUnit p0 tp0 p1 e) kYX9_isUnit kVX9_isUnit kmX9_110 kO9 tp0 rfl rfl ⟨rfl, rfl, by decide, by decide⟩ (Nat.le_of_ble_eq_true rfl) ⟨Nat.zero_le _, Nat.zero_le _⟩ dX9_ring_7 (fun v2 => ?_)
  refine j_if_ne C (tgt := 15) dX9_ring_10 (by decide) ?_ ?_
  · refine j_aload_n C dX9_ring_15 0 rfl ?_
    refine j_cVVV C [] [] (fun _ e => c_X9_findOrder p0 tp0 e) kYX9_findOrder kVX9_findOrder kmX9_198 kO9 tp0 rfl rfl ⟨rfl, rfl, by decide, by decide⟩ (Nat.le_of_ble_eq_true rfl) ⟨Nat.zero_le _, Nat.zero_le _⟩ dX9_ring_16 (fun S5 => ?_)
    refine j_aload_n C dX9_ring_19 0 rfl ?_
    refine j_getR C kK9 f391 kfX9_90 (by decide) rfl tp0 dX9_ring_20 (fun x6 tx6 => ?_)
    refine j_iload_n C dX9_ring_23 1 rfl ?_
    refine j_oc tx6 (fun a7 ta7 ea7 => ?_)
    subst ea7
    refine j_iald C ta7 dX9_ring_24 ?_
    exact j_iret C E dX9_ring_25
  · refine j_iconst C (v := (-1 : Int32)) dX9_ring_13 (by decide) ?_
    exact j_iret C E dX9_ring_14
theorem c_X9_ring {l : Launch} {D : va_G} {cy : Nat → ClassId} {Λ : sLay} {S : sSt} (p0 : Nat) (tp0 : isK Λ 9 p0) (p1 : Int32) {v : Int32} {S1 : sSt} (h : F_X9_ring Λ.2.2 S p0 p1 = some (v, S1)) : jM l yX9_ring (Cond.code yX9_ring cX9_ring 2 (some .int) :: bigW) rm_X9_ring D cy Λ S [vR (some p0), vI p1] rI (v, S1) := jM_of (by decide +kernel) (Nat.le_of_ble_eq_true rfl) (fun X C E _ _ _ => j_sub [0, 1] rfl (jF_X9_ring C E p0 tp0 p1)) h
/-! RemakeNeeds2Model.round(II)I -/
abbrev rm_X9_round : Room := { frames := 3, cells := 0, slots := 0, locals := 73 }
def F_X9_round (N : Nat → Nat) (S : sSt) (p0 : Nat) (p1 : Int32) (p2 : Int32) : Option (Int32 × sSt) := bnd (sFI S 360 p0 (0 : Int32)) (fun S1 => Option.bind (F_X9_isUnit N S1 p0 p1) (fun v2 => (if v2 = 0 then some ((-1 : Int32), S1) else Option.bind (F_X9_isName N S1 p2) (fun v4 => (if v4 = 0 then some ((-1 : Int32), S1) else Option.bind (F_X9_thingOf N S1 p0 p1 ((32 : Int32) + p2)) (fun v6 => (if v6 = (-5 : Int32) then some ((-1 : Int32), S1) else Option.bind (F_X9_reckon N S1 p0) (fun S9 => bnd (gFR S9 380 p0) (fun x10 => Option.bind (F_X9_thingOf N S9 p0 p1 ((32 : Int32) + p2)) (fun v11 => Option.bind x10 (fun a13 => gi v11 (N a13) ((if (gAI S9 a13 (Int32.toNatClampNeg v11)) = 0 then some ((1 : Int32), S9) else some ((0 : Int32), S9))))))))))))))
set_option maxHeartbeats 4000000 in
theorem jF_X9_round {X : jX} (C : jC X cX9_round 3 RX9 rm_X9_round) {Λ : sLay} {S : sSt} {r : (Int32 × sSt)} (E : jE X (some .int) rI Λ r) (p0 : Nat) (tp0 : isK Λ 9 p0) (p1 : Int32) (p2 : Int32) : J X 3 0 0 0 [(0, vR (some p0)), (1, vI p1), (2, vI p2)] [] Λ S (F_X9_round Λ.2.2 S p0 p1 p2 = some r) := by
  unfold F_X9_round
  refine j_aload_n C dX9_round_0 0 rfl ?_
  refine j_iconst C (v := (0 : Int32)) dX9_round_1 (by decide) ?_
  refine j_putI C kK9 f360 kfX9_99 (by decide) rfl rfl rfl tp0 dX9_round_2 (fun S1 => ?_)
  refine j_aload_n C dX9_round_5 0 rfl ?_
  refine j_iload_n C dX9_round_6 1 rfl ?_
  refine j_cVIP C [vI p1] [] (fun _ e => c_X9_isUnit p0 tp0 p1 e) kYX9_isUnit kVX9_isUnit kmX9_110 kO9 tp0 rfl rfl ⟨rfl, rfl, by decide, by decide⟩ (Nat.le_of_ble_eq_true rfl) ⟨Nat.zero_le _, Nat.zero_le _⟩ dX9_round_7 (fun v2 => ?_)
  refine j_if_eq C (tgt := 34) dX9_round_10 (by decide) ?_ ?_
  · refine j_iconst C (v := (-1 : Int32)) dX9_round_34 (by decide) ?_
    exact j_iret C E dX9_round_35
  · refine j_iload_n C dX9_round_13 2 rfl ?_
    refine j_cSIP C [vI p2] [] (fun _ e => c_X9_isName p2 e) kYX9_isName kSX9_isName kmX9_114 rfl rfl ⟨rfl, rfl, by decide, by decide⟩ (Nat.le_of_ble_eq_true rfl) ⟨Nat.zero_le _, Nat.zero_le _⟩ dX9_round_14 (fun v4 => ?_)
    refine j_if_eq C (tgt := 34) dX9_round_17 (by decide) ?_ ?_
    · refine j_iconst C (v := (-1 : Int32)) dX9_round_34 (by decide) ?_
      exact j_iret C E dX9_round_35
    · refine j_aload_n C dX9_round_20 0 rfl ?_
      refine j_iload_n C dX9_round_21 1 rfl ?_
      refine j_bipush C (v := (32 : Int32)) dX9_round_22 (by decide) ?_
      refine j_iload_n C dX9_round_24 2 rfl ?_
      refine j_iadd C dX9_round_25 ?_
      refine j_cVIP C [vI p1, vI ((32 : Int32) + p2)] [] (fun _ e => c_X9_thingOf p0 tp0 p1 ((32 : Int32) + p2) e) kYX9_thingOf kVX9_thingOf kmX9_117 kO9 tp0 rfl rfl ⟨rfl, rfl, by decide, by decide⟩ (Nat.le_of_ble_eq_true rfl) ⟨Nat.zero_le _, Nat.zero_le _⟩ dX9_round_26 (fun v6 => ?_)
      refine j_bipush C (v := (-5 : Int32)) dX9_round_29 (by decide) ?_
      refine j_icmp_ne C (tgt := 36) dX9_round_31 (by decide) ?_ ?_
      · refine j_aload_n C dX9_round_36 0 rfl ?_
        refine j_cVVV C [] [] (fun _ e => c_X9_reckon p0 tp0 e) kYX9_reckon kVX9_reckon kmX9_146 kO9 tp0 rfl rfl ⟨rfl, rfl, by decide, by decide⟩ (Nat.le_of_ble_eq_true rfl) ⟨Nat.zero_le _, Nat.zero_le _⟩ dX9_round_37 (fun S9 => ?_)
        refine j_aload_n C dX9_round_40 0 rfl ?_
        refine j_getR C kK9 f380 kfX9_63 (by decide) rfl tp0 dX9_round_41 (fun x10 tx10 => ?_)
        refine j_aload_n C dX9_round_44 0 rfl ?_
        refine j_iload_n C dX9_round_45 1 rfl ?_
        refine j_bipush C (v := (32 : Int32)) dX9_round_46 (by decide) ?_
        refine j_iload_n C dX9_round_48 2 rfl ?_
        refine j_iadd C dX9_round_49 ?_
        refine j_cVIP C [vI p1, vI ((32 : Int32) + p2)] [vR x10] (fun _ e => c_X9_thingOf p0 tp0 p1 ((32 : Int32) + p2) e) kYX9_thingOf kVX9_thingOf kmX9_117 kO9 tp0 rfl rfl ⟨rfl, rfl, by decide, by decide⟩ (Nat.le_of_ble_eq_true rfl) ⟨Nat.zero_le _, Nat.zero_le _⟩ dX9_round_50 (fun v11 => ?_)
        refine j_oc tx10 (fun a13 ta13 ea13 => ?_)
        subst ea13
        refine j_zald C ta13 dX9_round_53 ?_
        refine j_if_eq C (tgt := 61) dX9_round_54 (by decide) ?_ ?_
        · refine j_iconst C (v := (1 : Int32)) dX9_round_61 (by decide) ?_
          exact j_iret C E dX9_round_62
        · refine j_iconst C (v := (0 : Int32)) dX9_round_57 (by decide) ?_
          refine j_goto C (tgt := 62) dX9_round_58 (by decide) ?_
          exact j_iret C E dX9_round_62
      · refine j_iconst C (v := (-1 : Int32)) dX9_round_34 (by decide) ?_
        exact j_iret C E dX9_round_35
theorem c_X9_round {l : Launch} {D : va_G} {cy : Nat → ClassId} {Λ : sLay} {S : sSt} (p0 : Nat) (tp0 : isK Λ 9 p0) (p1 : Int32) (p2 : Int32) {v : Int32} {S1 : sSt} (h : F_X9_round Λ.2.2 S p0 p1 p2 = some (v, S1)) : jM l yX9_round (Cond.code yX9_round cX9_round 3 (some .int) :: bigW) rm_X9_round D cy Λ S [vR (some p0), vI p1, vI p2] rI (v, S1) := jM_of (by decide +kernel) (Nat.le_of_ble_eq_true rfl) (fun X C E _ _ _ => j_sub [0, 1, 2] rfl (jF_X9_round C E p0 tp0 p1 p2)) h
/-! RemakeNeeds2Model.row(II)J -/
abbrev rm_X9_row : Room := { frames := 5, cells := 0, slots := 0, locals := 115 }
def B_X9_row_40 (N : Nat → Nat) (S : sSt) (p0 : Nat) (p2 : Int32) (s0 : Int32) (s1 : Nat) : Option (Int64 × sSt) := bnd (sFI S 360 s1 s0) (fun S8 => (if (gFI S8 360 p0) = 0 then bnd (gFR S8 387 p0) (fun x9 => Option.bind x9 (fun a10 => gi p2 (N a10) (some ((gAJ S8 a10 (Int32.toNatClampNeg p2)), S8)))) else some ((0 : Int64), S8)))
set_option maxHeartbeats 4000000 in
theorem jB_X9_row_40 {X : jX} (C : jC X cX9_row 3 RX9 rm_X9_row) {Λ : sLay} {r : (Int64 × sSt)} (E : jE X (some .long) rJ Λ r) : ∀ (S : sSt) (p0 : Nat) (tp0 : isK Λ 9 p0) (p2 : Int32) (s0 : Int32) (s1 : Nat) (ts1 : isK Λ 9 s1), J X 3 0 0 40 [(0, vR (some p0)), (2, vI p2)] [vI s0, vR (some s1)] Λ S (B_X9_row_40 Λ.2.2 S p0 p2 s0 s1 = some r) := by
  intro S p0 tp0 p2 s0 s1 ts1
  unfold B_X9_row_40
  refine j_putI C kK9 f360 kfX9_99 (by decide) rfl rfl rfl ts1 dX9_row_40 (fun S8 => ?_)
  refine j_aload_n C dX9_row_43 0 rfl ?_
  refine j_getI C kK9 f360 kfX9_99 (by decide) tp0 dX9_row_44 ?_
  refine j_if_ne C (tgt := 59) dX9_row_47 (by decide) ?_ ?_
  · refine j_lconst C (v := (0 : Int64)) dX9_row_59 (by decide) ?_
    exact j_lret C E dX9_row_60
  · refine j_aload_n C dX9_row_50 0 rfl ?_
    refine j_getR C kK9 f387 kfX9_81 (by decide) rfl tp0 dX9_row_51 (fun x9 tx9 => ?_)
    refine j_iload_n C dX9_row_54 1 rfl ?_
    refine j_oc tx9 (fun a10 ta10 ea10 => ?_)
    subst ea10
    refine j_lald C ta10 dX9_row_55 ?_
    refine j_goto C (tgt := 60) dX9_row_56 (by decide) ?_
    exact j_lret C E dX9_row_60
def F_X9_row (N : Nat → Nat) (S : sSt) (p0 : Nat) (p1 : Int32) (p2 : Int32) : Option (Int64 × sSt) := bnd (sFI S 360 p0 (0 : Int32)) (fun S1 => Option.bind (F_X9_isUnit N S1 p0 p1) (fun v2 => (if v2 = 0 then some ((0 : Int64), S1) else Option.bind (F_X9_rowOf N S1 p0 p1) (fun S5 => Option.bind (F_X9_in N S5 p2 (0 : Int32) ((gFI S5 388 p0) - (1 : Int32))) (fun v6 => (if v6 = 0 then B_X9_row_40 N S5 p0 p2 (1 : Int32) p0 else B_X9_row_40 N S5 p0 p2 (0 : Int32) p0))))))
set_option maxHeartbeats 4000000 in
theorem jF_X9_row {X : jX} (C : jC X cX9_row 3 RX9 rm_X9_row) {Λ : sLay} {S : sSt} {r : (Int64 × sSt)} (E : jE X (some .long) rJ Λ r) (p0 : Nat) (tp0 : isK Λ 9 p0) (p1 : Int32) (p2 : Int32) : J X 3 0 0 0 [(0, vR (some p0)), (1, vI p1), (2, vI p2)] [] Λ S (F_X9_row Λ.2.2 S p0 p1 p2 = some r) := by
  unfold F_X9_row
  refine j_aload_n C dX9_row_0 0 rfl ?_
  refine j_iconst C (v := (0 : Int32)) dX9_row_1 (by decide) ?_
  refine j_putI C kK9 f360 kfX9_99 (by decide) rfl rfl rfl tp0 dX9_row_2 (fun S1 => ?_)
  refine j_aload_n C dX9_row_5 0 rfl ?_
  refine j_iload_n C dX9_row_6 1 rfl ?_
  refine j_cVIP C [vI p1] [] (fun _ e => c_X9_isUnit p0 tp0 p1 e) kYX9_isUnit kVX9_isUnit kmX9_110 kO9 tp0 rfl rfl ⟨rfl, rfl, by decide, by decide⟩ (Nat.le_of_ble_eq_true rfl) ⟨Nat.zero_le _, Nat.zero_le _⟩ dX9_row_7 (fun v2 => ?_)
  refine j_if_ne C (tgt := 15) dX9_row_10 (by decide) ?_ ?_
  · refine j_aload_n C dX9_row_15 0 rfl ?_
    refine j_iload_n C dX9_row_16 1 rfl ?_
    refine j_cVVV C [vI p1] [] (fun _ e => c_X9_rowOf p0 tp0 p1 e) kYX9_rowOf kVX9_rowOf kmX9_185 kO9 tp0 rfl rfl ⟨rfl, rfl, by decide, by decide⟩ (Nat.le_of_ble_eq_true rfl) ⟨Nat.zero_le _, Nat.zero_le _⟩ dX9_row_17 (fun S5 => ?_)
    refine j_aload_n C dX9_row_20 0 rfl ?_
    refine j_iload_n C dX9_row_21 2 rfl ?_
    refine j_iconst C (v := (0 : Int32)) dX9_row_22 (by decide) ?_
    refine j_aload_n C dX9_row_23 0 rfl ?_
    refine j_getI C kK9 f388 kfX9_155 (by decide) tp0 dX9_row_24 ?_
    refine j_iconst C (v := (1 : Int32)) dX9_row_27 (by decide) ?_
    refine j_isub C dX9_row_28 ?_
    refine j_cSIP C [vI p2, vI (0 : Int32), vI ((gFI S5 388 p0) - (1 : Int32))] [vR (some p0)] (fun _ e => c_X9_in p2 (0 : Int32) ((gFI S5 388 p0) - (1 : Int32)) e) kYX9_in kSX9_in kmX9_106 rfl rfl ⟨rfl, rfl, by decide, by decide⟩ (Nat.le_of_ble_eq_true rfl) ⟨Nat.zero_le _, Nat.zero_le _⟩ dX9_row_29 (fun v6 => ?_)
    refine j_if_eq C (tgt := 39) dX9_row_32 (by decide) ?_ ?_
    · refine j_iconst C (v := (1 : Int32)) dX9_row_39 (by decide) ?_
      refine j_sub (L' := [(0, vR (some p0)), (2, vI p2)]) [0, 2] rfl ?_
      exact jB_X9_row_40 C E S5 p0 tp0 p2 (1 : Int32) p0 tp0
    · refine j_iconst C (v := (0 : Int32)) dX9_row_35 (by decide) ?_
      refine j_goto C (tgt := 40) dX9_row_36 (by decide) ?_
      refine j_sub (L' := [(0, vR (some p0)), (2, vI p2)]) [0, 2] rfl ?_
      exact jB_X9_row_40 C E S5 p0 tp0 p2 (0 : Int32) p0 tp0
  · refine j_lconst C (v := (0 : Int64)) dX9_row_13 (by decide) ?_
    exact j_lret C E dX9_row_14
theorem c_X9_row {l : Launch} {D : va_G} {cy : Nat → ClassId} {Λ : sLay} {S : sSt} (p0 : Nat) (tp0 : isK Λ 9 p0) (p1 : Int32) (p2 : Int32) {v : Int64} {S1 : sSt} (h : F_X9_row Λ.2.2 S p0 p1 p2 = some (v, S1)) : jM l yX9_row (Cond.code yX9_row cX9_row 3 (some .long) :: bigW) rm_X9_row D cy Λ S [vR (some p0), vI p1, vI p2] rJ (v, S1) := jM_of (by decide +kernel) (Nat.le_of_ble_eq_true rfl) (fun X C E _ _ _ => j_sub [0, 1, 2] rfl (jF_X9_row C E p0 tp0 p1 p2)) h
/-! RemakeNeeds2Model.size(I)I -/
abbrev rm_X9_size : Room := { frames := 5, cells := 0, slots := 0, locals := 115 }
def F_X9_size (N : Nat → Nat) (S : sSt) (p0 : Nat) (p1 : Int32) : Option (Int32 × sSt) := bnd (sFI S 360 p0 (0 : Int32)) (fun S1 => Option.bind (F_X9_isUnit N S1 p0 p1) (fun v2 => (if v2 = 0 then some ((-1 : Int32), S1) else Option.bind (F_X9_rowOf N S1 p0 p1) (fun S5 => some ((gFI S5 388 p0), S5)))))
set_option maxHeartbeats 4000000 in
theorem jF_X9_size {X : jX} (C : jC X cX9_size 2 RX9 rm_X9_size) {Λ : sLay} {S : sSt} {r : (Int32 × sSt)} (E : jE X (some .int) rI Λ r) (p0 : Nat) (tp0 : isK Λ 9 p0) (p1 : Int32) : J X 2 0 0 0 [(0, vR (some p0)), (1, vI p1)] [] Λ S (F_X9_size Λ.2.2 S p0 p1 = some r) := by
  unfold F_X9_size
  refine j_aload_n C dX9_size_0 0 rfl ?_
  refine j_iconst C (v := (0 : Int32)) dX9_size_1 (by decide) ?_
  refine j_putI C kK9 f360 kfX9_99 (by decide) rfl rfl rfl tp0 dX9_size_2 (fun S1 => ?_)
  refine j_aload_n C dX9_size_5 0 rfl ?_
  refine j_iload_n C dX9_size_6 1 rfl ?_
  refine j_cVIP C [vI p1] [] (fun _ e => c_X9_isUnit p0 tp0 p1 e) kYX9_isUnit kVX9_isUnit kmX9_110 kO9 tp0 rfl rfl ⟨rfl, rfl, by decide, by decide⟩ (Nat.le_of_ble_eq_true rfl) ⟨Nat.zero_le _, Nat.zero_le _⟩ dX9_size_7 (fun v2 => ?_)
  refine j_if_ne C (tgt := 15) dX9_size_10 (by decide) ?_ ?_
  · refine j_aload_n C dX9_size_15 0 rfl ?_
    refine j_iload_n C dX9_size_16 1 rfl ?_
    refine j_cVVV C [vI p1] [] (fun _ e => c_X9_rowOf p0 tp0 p1 e) kYX9_rowOf kVX9_rowOf kmX9_185 kO9 tp0 rfl rfl ⟨rfl, rfl, by decide, by decide⟩ (Nat.le_of_ble_eq_true rfl) ⟨Nat.zero_le _, Nat.zero_le _⟩ dX9_size_17 (fun S5 => ?_)
    refine j_aload_n C dX9_size_20 0 rfl ?_
    refine j_getI C kK9 f388 kfX9_155 (by decide) tp0 dX9_size_21 ?_
    exact j_iret C E dX9_size_24
  · refine j_iconst C (v := (-1 : Int32)) dX9_size_13 (by decide) ?_
    exact j_iret C E dX9_size_14
theorem c_X9_size {l : Launch} {D : va_G} {cy : Nat → ClassId} {Λ : sLay} {S : sSt} (p0 : Nat) (tp0 : isK Λ 9 p0) (p1 : Int32) {v : Int32} {S1 : sSt} (h : F_X9_size Λ.2.2 S p0 p1 = some (v, S1)) : jM l yX9_size (Cond.code yX9_size cX9_size 2 (some .int) :: bigW) rm_X9_size D cy Λ S [vR (some p0), vI p1] rI (v, S1) := jM_of (by decide +kernel) (Nat.le_of_ble_eq_true rfl) (fun X C E _ _ _ => j_sub [0, 1] rfl (jF_X9_size C E p0 tp0 p1)) h
/-! RemakeNeeds2Model.take(III)I -/
abbrev rm_X9_take : Room := { frames := 2, cells := 0, slots := 0, locals := 43 }
def Y_X9_take_70 (N : Nat → Nat) (rec : sSt → Nat → Int32 → Int32 → Option (Int32 × sSt)) (S : sSt) (p0 : Nat) (p1 : Int32) (p5 : Int32) : Option (Int32 × sSt) := bnd (gFR S 363 p0) (fun x13 => Option.bind x13 (fun a14 => gi p1 (N a14) ((if (((10 : Int32) * p1) + (gAI S a14 (Int32.toNatClampNeg p1))) ≤ p5 then some ((1 : Int32), S) else Option.bind (F_X9_move N S p0 (p5 + (1 : Int32)) p5) (fun S16 => rec S16 p0 p1 (p5 + (1 : Int32)))))))
set_option maxHeartbeats 4000000 in
theorem jY_X9_take_70 {X : jX} (C : jC X cX9_take 6 RX9 rm_X9_take) {Λ : sLay} {r : (Int32 × sSt)} (E : jE X (some .int) rI Λ r) (rec : sSt → Nat → Int32 → Int32 → Option (Int32 × sSt)) (hrec : ∀ (S : sSt) (p0 : Nat) (tp0 : isK Λ 9 p0) (p1 : Int32) (p5 : Int32), J X 6 0 0 70 [(0, vR (some p0)), (1, vI p1), (5, vI p5)] [] Λ S (rec S p0 p1 p5 = some r)) : ∀ (S : sSt) (p0 : Nat) (tp0 : isK Λ 9 p0) (p1 : Int32) (p5 : Int32), J X 6 0 0 70 [(0, vR (some p0)), (1, vI p1), (5, vI p5)] [] Λ S (Y_X9_take_70 Λ.2.2 rec S p0 p1 p5 = some r) := by
  intro S p0 tp0 p1 p5
  unfold Y_X9_take_70
  refine j_iload C dX9_take_70 2 rfl ?_
  refine j_bipush C (v := (10 : Int32)) dX9_take_72 (by decide) ?_
  refine j_iload_n C dX9_take_74 1 rfl ?_
  refine j_imul C dX9_take_75 ?_
  refine j_aload_n C dX9_take_76 0 rfl ?_
  refine j_getR C kK9 f363 kfX9_13 (by decide) rfl tp0 dX9_take_77 (fun x13 tx13 => ?_)
  refine j_iload_n C dX9_take_80 1 rfl ?_
  refine j_oc tx13 (fun a14 ta14 ea14 => ?_)
  subst ea14
  refine j_iald C ta14 dX9_take_81 ?_
  refine j_iadd C dX9_take_82 ?_
  refine j_icmp_ge C (tgt := 102) dX9_take_83 (by decide) ?_ ?_
  · refine j_iconst C (v := (1 : Int32)) dX9_take_102 (by decide) ?_
    exact j_iret C E dX9_take_103
  · refine j_aload_n C dX9_take_86 0 rfl ?_
    refine j_iload C dX9_take_87 2 rfl ?_
    refine j_iconst C (v := (1 : Int32)) dX9_take_89 (by decide) ?_
    refine j_iadd C dX9_take_90 ?_
    refine j_iload C dX9_take_91 2 rfl ?_
    refine j_cVVV C [vI (p5 + (1 : Int32)), vI p5] [] (fun _ e => c_X9_move p0 tp0 (p5 + (1 : Int32)) p5 e) kYX9_move kVX9_move kmX9_121 kO9 tp0 rfl rfl ⟨rfl, rfl, by decide, by decide⟩ (Nat.le_of_ble_eq_true rfl) ⟨Nat.zero_le _, Nat.zero_le _⟩ dX9_take_93 (fun S16 => ?_)
    refine j_iinc C (v := (1 : Int32)) (L' := [(5, vI (p5 + (1 : Int32))), (0, vR (some p0)), (1, vI p1)]) dX9_take_96 2 rfl (by decide) (by decide) rfl ?_
    refine j_goto C (tgt := 70) dX9_take_99 (by decide) ?_
    refine j_sub (L' := [(0, vR (some p0)), (1, vI p1), (5, vI (p5 + (1 : Int32)))]) [1, 2, 0] rfl ?_
    exact hrec S16 p0 tp0 p1 (p5 + (1 : Int32))
def L_X9_take_70 (N : Nat → Nat) (n : Nat) : sSt → Nat → Int32 → Int32 → Option (Int32 × sSt) := iter (fun _ _ _ _ => none) (Y_X9_take_70 N) n
theorem jL_X9_take_70 {X : jX} (C : jC X cX9_take 6 RX9 rm_X9_take) {Λ : sLay} {r : (Int32 × sSt)} (E : jE X (some .int) rI Λ r) : ∀ (n : Nat) (S : sSt) (p0 : Nat) (tp0 : isK Λ 9 p0) (p1 : Int32) (p5 : Int32), J X 6 0 0 70 [(0, vR (some p0)), (1, vI p1), (5, vI p5)] [] Λ S (L_X9_take_70 Λ.2.2 n S p0 p1 p5 = some r) := by
  intro n
  induction n with
  | zero => intro S p0 tp0 p1 p5; exact j_no (fun h => by have h2 : (none : Option (Int32 × sSt)) = some r := h; cases h2)
  | succ n ih => intro S p0 tp0 p1 p5; exact jY_X9_take_70 C E (L_X9_take_70 Λ.2.2 n) ih S p0 tp0 p1 p5
def F_X9_take (N : Nat → Nat) (S : sSt) (p0 : Nat) (p1 : Int32) (p2 : Int32) (p3 : Int32) : Option (Int32 × sSt) := bnd (sFI S 360 p0 (0 : Int32)) (fun S1 => Option.bind (F_X9_isUnit N S1 p0 p1) (fun v2 => (if v2 = 0 then some ((-1 : Int32), S1) else Option.bind (F_X9_in N S1 p2 (0 : Int32) (2 : Int32)) (fun v4 => (if v4 = 0 then some ((-2 : Int32), S1) else Option.bind (F_X9_isName N S1 p3) (fun v6 => (if v6 = 0 then some ((-2 : Int32), S1) else Option.bind (F_X9_thingOf N S1 p0 p1 (((32 : Int32) * p2) + p3)) (fun v8 => (if v8 = (-5 : Int32) then some ((-1 : Int32), S1) else bnd (gFR S1 363 p0) (fun x10 => Option.bind x10 (fun a11 => gi p1 (N a11) (gi p1 (N a11) (bnd (sAI S1 a11 (Int32.toNatClampNeg p1) ((gAI S1 a11 (Int32.toNatClampNeg p1)) - (1 : Int32))) (fun S12 => L_X9_take_70 N FU S12 p0 p1 v8))))))))))))))
set_option maxHeartbeats 4000000 in
theorem jF_X9_take {X : jX} (C : jC X cX9_take 6 RX9 rm_X9_take) {Λ : sLay} {S : sSt} {r : (Int32 × sSt)} (E : jE X (some .int) rI Λ r) (p0 : Nat) (tp0 : isK Λ 9 p0) (p1 : Int32) (p2 : Int32) (p3 : Int32) : J X 6 0 0 0 [(0, vR (some p0)), (1, vI p1), (2, vI p2), (3, vI p3)] [] Λ S (F_X9_take Λ.2.2 S p0 p1 p2 p3 = some r) := by
  unfold F_X9_take
  refine j_aload_n C dX9_take_0 0 rfl ?_
  refine j_iconst C (v := (0 : Int32)) dX9_take_1 (by decide) ?_
  refine j_putI C kK9 f360 kfX9_99 (by decide) rfl rfl rfl tp0 dX9_take_2 (fun S1 => ?_)
  refine j_aload_n C dX9_take_5 0 rfl ?_
  refine j_iload_n C dX9_take_6 1 rfl ?_
  refine j_cVIP C [vI p1] [] (fun _ e => c_X9_isUnit p0 tp0 p1 e) kYX9_isUnit kVX9_isUnit kmX9_110 kO9 tp0 rfl rfl ⟨rfl, rfl, by decide, by decide⟩ (Nat.le_of_ble_eq_true rfl) ⟨Nat.zero_le _, Nat.zero_le _⟩ dX9_take_7 (fun v2 => ?_)
  refine j_if_ne C (tgt := 15) dX9_take_10 (by decide) ?_ ?_
  · refine j_iload_n C dX9_take_15 2 rfl ?_
    refine j_iconst C (v := (0 : Int32)) dX9_take_16 (by decide) ?_
    refine j_iconst C (v := (2 : Int32)) dX9_take_17 (by decide) ?_
    refine j_cSIP C [vI p2, vI (0 : Int32), vI (2 : Int32)] [] (fun _ e => c_X9_in p2 (0 : Int32) (2 : Int32) e) kYX9_in kSX9_in kmX9_106 rfl rfl ⟨rfl, rfl, by decide, by decide⟩ (Nat.le_of_ble_eq_true rfl) ⟨Nat.zero_le _, Nat.zero_le _⟩ dX9_take_18 (fun v4 => ?_)
    refine j_if_eq C (tgt := 31) dX9_take_21 (by decide) ?_ ?_
    · refine j_bipush C (v := (-2 : Int32)) dX9_take_31 (by decide) ?_
      exact j_iret C E dX9_take_33
    · refine j_iload_n C dX9_take_24 3 rfl ?_
      refine j_cSIP C [vI p3] [] (fun _ e => c_X9_isName p3 e) kYX9_isName kSX9_isName kmX9_114 rfl rfl ⟨rfl, rfl, by decide, by decide⟩ (Nat.le_of_ble_eq_true rfl) ⟨Nat.zero_le _, Nat.zero_le _⟩ dX9_take_25 (fun v6 => ?_)
      refine j_if_ne C (tgt := 34) dX9_take_28 (by decide) ?_ ?_
      · refine j_aload_n C dX9_take_34 0 rfl ?_
        refine j_iload_n C dX9_take_35 1 rfl ?_
        refine j_bipush C (v := (32 : Int32)) dX9_take_36 (by decide) ?_
        refine j_iload_n C dX9_take_38 2 rfl ?_
        refine j_imul C dX9_take_39 ?_
        refine j_iload_n C dX9_take_40 3 rfl ?_
        refine j_iadd C dX9_take_41 ?_
        refine j_cVIP C [vI p1, vI (((32 : Int32) * p2) + p3)] [] (fun _ e => c_X9_thingOf p0 tp0 p1 (((32 : Int32) * p2) + p3) e) kYX9_thingOf kVX9_thingOf kmX9_117 kO9 tp0 rfl rfl ⟨rfl, rfl, by decide, by decide⟩ (Nat.le_of_ble_eq_true rfl) ⟨Nat.zero_le _, Nat.zero_le _⟩ dX9_take_42 (fun v8 => ?_)
        refine j_istore C (L' := [(4, vI v8), (0, vR (some p0)), (1, vI p1), (2, vI p2), (3, vI p3)]) dX9_take_45 (by decide) rfl ?_
        refine j_iload C dX9_take_47 0 rfl ?_
        refine j_bipush C (v := (-5 : Int32)) dX9_take_49 (by decide) ?_
        refine j_icmp_ne C (tgt := 56) dX9_take_51 (by decide) ?_ ?_
        · refine j_aload_n C dX9_take_56 1 rfl ?_
          refine j_getR C kK9 f363 kfX9_13 (by decide) rfl tp0 dX9_take_57 (fun x10 tx10 => ?_)
          refine j_iload_n C dX9_take_60 2 rfl ?_
          refine j_dup2 C dX9_take_61 rfl rfl ?_
          refine j_oc tx10 (fun a11 ta11 ea11 => ?_)
          subst ea11
          refine j_iald C ta11 dX9_take_62 ?_
          refine j_iconst C (v := (1 : Int32)) dX9_take_63 (by decide) ?_
          refine j_isub C dX9_take_64 ?_
          refine j_iast C ta11 dX9_take_65 (fun S12 => ?_)
          refine j_iload C dX9_take_66 0 rfl ?_
          refine j_istore C (L' := [(5, vI v8), (4, vI v8), (0, vR (some p0)), (1, vI p1), (2, vI p2), (3, vI p3)]) dX9_take_68 (by decide) rfl ?_
          refine j_sub (L' := [(0, vR (some p0)), (1, vI p1), (5, vI v8)]) [2, 3, 0] rfl ?_
          exact jL_X9_take_70 C E FU S12 p0 tp0 p1 v8
        · refine j_iconst C (v := (-1 : Int32)) dX9_take_54 (by decide) ?_
          exact j_iret C E dX9_take_55
      · refine j_bipush C (v := (-2 : Int32)) dX9_take_31 (by decide) ?_
        exact j_iret C E dX9_take_33
  · refine j_iconst C (v := (-1 : Int32)) dX9_take_13 (by decide) ?_
    exact j_iret C E dX9_take_14
theorem c_X9_take {l : Launch} {D : va_G} {cy : Nat → ClassId} {Λ : sLay} {S : sSt} (p0 : Nat) (tp0 : isK Λ 9 p0) (p1 : Int32) (p2 : Int32) (p3 : Int32) {v : Int32} {S1 : sSt} (h : F_X9_take Λ.2.2 S p0 p1 p2 p3 = some (v, S1)) : jM l yX9_take (Cond.code yX9_take cX9_take 6 (some .int) :: bigW) rm_X9_take D cy Λ S [vR (some p0), vI p1, vI p2, vI p3] rI (v, S1) := jM_of (by decide +kernel) (Nat.le_of_ble_eq_true rfl) (fun X C E _ _ _ => j_sub [0, 1, 2, 3] rfl (jF_X9_take C E p0 tp0 p1 p2 p3)) h
/-! RemakeNeeds2Model.unit()I -/
abbrev rm_X9_unit : Room := { frames := 0, cells := 0, slots := 0, locals := 0 }
def F_X9_unit (N : Nat → Nat) (S : sSt) (p0 : Nat) : Option (Int32 × sSt) := bnd (sFI S 360 p0 (0 : Int32)) (fun S1 => (if (gFI S1 361 p0) = (16 : Int32) then some ((-4 : Int32), S1) else bnd (sFI S1 361 p0 ((gFI S1 361 p0) + (1 : Int32))) (fun S2 => bnd (gFR S2 362 p0) (fun x3 => Option.bind x3 (fun a4 => gi (gFI S1 361 p0) (N a4) (bnd (sAI S2 a4 (Int32.toNatClampNeg (gFI S1 361 p0)) ((1 : Int32) &&& 1)) (fun S5 => bnd (gFR S5 363 p0) (fun x6 => Option.bind x6 (fun a7 => gi (gFI S1 361 p0) (N a7) (bnd (sAI S5 a7 (Int32.toNatClampNeg (gFI S1 361 p0)) (0 : Int32)) (fun S8 => bnd (gFR S8 369 p0) (fun x9 => Option.bind x9 (fun a10 => gi (gFI S1 361 p0) (N a10) (bnd (sAI S8 a10 (Int32.toNatClampNeg (gFI S1 361 p0)) (0 : Int32)) (fun S11 => bnd (gFR S11 371 p0) (fun x12 => Option.bind x12 (fun a13 => gi (gFI S1 361 p0) (N a13) (bnd (sAI S11 a13 (Int32.toNatClampNeg (gFI S1 361 p0)) (0 : Int32)) (fun S14 => bnd (gFR S14 373 p0) (fun x15 => Option.bind x15 (fun a16 => gi (gFI S1 361 p0) (N a16) (bnd (sAI S14 a16 (Int32.toNatClampNeg (gFI S1 361 p0)) ((0 : Int32) &&& 1)) (fun S17 => bnd (gFR S17 374 p0) (fun x18 => Option.bind x18 (fun a19 => gi (gFI S1 361 p0) (N a19) (bnd (sAI S17 a19 (Int32.toNatClampNeg (gFI S1 361 p0)) (-5 : Int32)) (fun S20 => bnd (gFR S20 377 p0) (fun x21 => Option.bind x21 (fun a22 => gi (gFI S1 361 p0) (N a22) (bnd (sAI S20 a22 (Int32.toNatClampNeg (gFI S1 361 p0)) (0 : Int32)) (fun S23 => some ((gFI S1 361 p0), S23))))))))))))))))))))))))))))))))
set_option maxHeartbeats 4000000 in
theorem jF_X9_unit {X : jX} (C : jC X cX9_unit 2 RX9 rm_X9_unit) {Λ : sLay} {S : sSt} {r : (Int32 × sSt)} (E : jE X (some .int) rI Λ r) (p0 : Nat) (tp0 : isK Λ 9 p0) : J X 2 0 0 0 [(0, vR (some p0))] [] Λ S (F_X9_unit Λ.2.2 S p0 = some r) := by
  unfold F_X9_unit
  refine j_aload_n C dX9_unit_0 0 rfl ?_
  refine j_iconst C (v := (0 : Int32)) dX9_unit_1 (by decide) ?_
  refine j_putI C kK9 f360 kfX9_99 (by decide) rfl rfl rfl tp0 dX9_unit_2 (fun S1 => ?_)
  refine j_aload_n C dX9_unit_5 0 rfl ?_
  refine j_getI C kK9 f361 kfX9_103 (by decide) tp0 dX9_unit_6 ?_
  refine j_bipush C (v := (16 : Int32)) dX9_unit_9 (by decide) ?_
  refine j_icmp_ne C (tgt := 17) dX9_unit_11 (by decide) ?_ ?_
  · refine j_aload_n C dX9_unit_17 0 rfl ?_
    refine j_getI C kK9 f361 kfX9_103 (by decide) tp0 dX9_unit_18 ?_
    refine j_istore_n C (L' := [(1, vI (gFI S1 361 p0)), (0, vR (some p0))]) dX9_unit_21 (by decide) rfl ?_
    refine j_aload_n C dX9_unit_22 1 rfl ?_
    refine j_dup C dX9_unit_23 rfl ?_
    refine j_getI C kK9 f361 kfX9_103 (by decide) tp0 dX9_unit_24 ?_
    refine j_iconst C (v := (1 : Int32)) dX9_unit_27 (by decide) ?_
    refine j_iadd C dX9_unit_28 ?_
    refine j_putI C kK9 f361 kfX9_103 (by decide) rfl rfl rfl tp0 dX9_unit_29 (fun S2 => ?_)
    refine j_aload_n C dX9_unit_32 1 rfl ?_
    refine j_getR C kK9 f362 kfX9_7 (by decide) rfl tp0 dX9_unit_33 (fun x3 tx3 => ?_)
    refine j_iload_n C dX9_unit_36 0 rfl ?_
    refine j_iconst C (v := (1 : Int32)) dX9_unit_37 (by decide) ?_
    refine j_oc tx3 (fun a4 ta4 ea4 => ?_)
    subst ea4
    refine j_zast C ta4 dX9_unit_38 (fun S5 => ?_)
    refine j_aload_n C dX9_unit_39 1 rfl ?_
    refine j_getR C kK9 f363 kfX9_13 (by decide) rfl tp0 dX9_unit_40 (fun x6 tx6 => ?_)
    refine j_iload_n C dX9_unit_43 0 rfl ?_
    refine j_iconst C (v := (0 : Int32)) dX9_unit_44 (by decide) ?_
    refine j_oc tx6 (fun a7 ta7 ea7 => ?_)
    subst ea7
    refine j_iast C ta7 dX9_unit_45 (fun S8 => ?_)
    refine j_aload_n C dX9_unit_46 1 rfl ?_
    refine j_getR C kK9 f369 kfX9_33 (by decide) rfl tp0 dX9_unit_47 (fun x9 tx9 => ?_)
    refine j_iload_n C dX9_unit_50 0 rfl ?_
    refine j_iconst C (v := (0 : Int32)) dX9_unit_51 (by decide) ?_
    refine j_oc tx9 (fun a10 ta10 ea10 => ?_)
    subst ea10
    refine j_iast C ta10 dX9_unit_52 (fun S11 => ?_)
    refine j_aload_n C dX9_unit_53 1 rfl ?_
    refine j_getR C kK9 f371 kfX9_39 (by decide) rfl tp0 dX9_unit_54 (fun x12 tx12 => ?_)
    refine j_iload_n C dX9_unit_57 0 rfl ?_
    refine j_iconst C (v := (0 : Int32)) dX9_unit_58 (by decide) ?_
    refine j_oc tx12 (fun a13 ta13 ea13 => ?_)
    subst ea13
    refine j_iast C ta13 dX9_unit_59 (fun S14 => ?_)
    refine j_aload_n C dX9_unit_60 1 rfl ?_
    refine j_getR C kK9 f373 kfX9_45 (by decide) rfl tp0 dX9_unit_61 (fun x15 tx15 => ?_)
    refine j_iload_n C dX9_unit_64 0 rfl ?_
    refine j_iconst C (v := (0 : Int32)) dX9_unit_65 (by decide) ?_
    refine j_oc tx15 (fun a16 ta16 ea16 => ?_)
    subst ea16
    refine j_zast C ta16 dX9_unit_66 (fun S17 => ?_)
    refine j_aload_n C dX9_unit_67 1 rfl ?_
    refine j_getR C kK9 f374 kfX9_48 (by decide) rfl tp0 dX9_unit_68 (fun x18 tx18 => ?_)
    refine j_iload_n C dX9_unit_71 0 rfl ?_
    refine j_bipush C (v := (-5 : Int32)) dX9_unit_72 (by decide) ?_
    refine j_oc tx18 (fun a19 ta19 ea19 => ?_)
    subst ea19
    refine j_iast C ta19 dX9_unit_74 (fun S20 => ?_)
    refine j_aload_n C dX9_unit_75 1 rfl ?_
    refine j_getR C kK9 f377 kfX9_57 (by decide) rfl tp0 dX9_unit_76 (fun x21 tx21 => ?_)
    refine j_iload_n C dX9_unit_79 0 rfl ?_
    refine j_iconst C (v := (0 : Int32)) dX9_unit_80 (by decide) ?_
    refine j_oc tx21 (fun a22 ta22 ea22 => ?_)
    subst ea22
    refine j_iast C ta22 dX9_unit_81 (fun S23 => ?_)
    refine j_iload_n C dX9_unit_82 0 rfl ?_
    exact j_iret C E dX9_unit_83
  · refine j_bipush C (v := (-4 : Int32)) dX9_unit_14 (by decide) ?_
    exact j_iret C E dX9_unit_16
theorem c_X9_unit {l : Launch} {D : va_G} {cy : Nat → ClassId} {Λ : sLay} {S : sSt} (p0 : Nat) (tp0 : isK Λ 9 p0) {v : Int32} {S1 : sSt} (h : F_X9_unit Λ.2.2 S p0 = some (v, S1)) : jM l yX9_unit (Cond.code yX9_unit cX9_unit 2 (some .int) :: bigW) rm_X9_unit D cy Λ S [vR (some p0)] rI (v, S1) := jM_of (by decide +kernel) (Nat.le_of_ble_eq_true rfl) (fun X C E _ _ _ => j_sub [0] rfl (jF_X9_unit C E p0 tp0)) h
/-! RemakeNeeds2Model.unuse(II)I -/
abbrev rm_X9_unuse : Room := { frames := 2, cells := 0, slots := 0, locals := 43 }
def Y_X9_unuse_43 (N : Nat → Nat) (rec : sSt → Nat → Int32 → Int32 → Option (Int32 × sSt)) (S : sSt) (p0 : Nat) (p1 : Int32) (p3 : Int32) : Option (Int32 × sSt) := bnd (gFR S 371 p0) (fun x11 => Option.bind x11 (fun a12 => gi p1 (N a12) ((if (gAI S a12 (Int32.toNatClampNeg p1)) ≤ p3 then bnd (gFR S 371 p0) (fun x13 => Option.bind x13 (fun a14 => gi p1 (N a14) (some ((gAI S a14 (Int32.toNatClampNeg p1)), S)))) else bnd (gFR S 372 p0) (fun x15 => bnd (gFR S 372 p0) (fun x16 => Option.bind x16 (fun a17 => gi ((((12 : Int32) * p1) + p3) + (1 : Int32)) (N a17) (Option.bind x15 (fun a18 => gi (((12 : Int32) * p1) + p3) (N a18) (bnd (sAI S a18 (Int32.toNatClampNeg (((12 : Int32) * p1) + p3)) (gAI S a17 (Int32.toNatClampNeg ((((12 : Int32) * p1) + p3) + (1 : Int32))))) (fun S19 => rec S19 p0 p1 (p3 + (1 : Int32)))))))))))))
set_option maxHeartbeats 4000000 in
theorem jY_X9_unuse_43 {X : jX} (C : jC X cX9_unuse 4 RX9 rm_X9_unuse) {Λ : sLay} {r : (Int32 × sSt)} (E : jE X (some .int) rI Λ r) (rec : sSt → Nat → Int32 → Int32 → Option (Int32 × sSt)) (hrec : ∀ (S : sSt) (p0 : Nat) (tp0 : isK Λ 9 p0) (p1 : Int32) (p3 : Int32), J X 4 0 0 43 [(0, vR (some p0)), (1, vI p1), (3, vI p3)] [] Λ S (rec S p0 p1 p3 = some r)) : ∀ (S : sSt) (p0 : Nat) (tp0 : isK Λ 9 p0) (p1 : Int32) (p3 : Int32), J X 4 0 0 43 [(0, vR (some p0)), (1, vI p1), (3, vI p3)] [] Λ S (Y_X9_unuse_43 Λ.2.2 rec S p0 p1 p3 = some r) := by
  intro S p0 tp0 p1 p3
  unfold Y_X9_unuse_43
  refine j_iload_n C dX9_unuse_43 2 rfl ?_
  refine j_aload_n C dX9_unuse_44 0 rfl ?_
  refine j_getR C kK9 f371 kfX9_39 (by decide) rfl tp0 dX9_unuse_45 (fun x11 tx11 => ?_)
  refine j_iload_n C dX9_unuse_48 1 rfl ?_
  refine j_oc tx11 (fun a12 ta12 ea12 => ?_)
  subst ea12
  refine j_iald C ta12 dX9_unuse_49 ?_
  refine j_icmp_ge C (tgt := 83) dX9_unuse_50 (by decide) ?_ ?_
  · refine j_aload_n C dX9_unuse_83 0 rfl ?_
    refine j_getR C kK9 f371 kfX9_39 (by decide) rfl tp0 dX9_unuse_84 (fun x13 tx13 => ?_)
    refine j_iload_n C dX9_unuse_87 1 rfl ?_
    refine j_oc tx13 (fun a14 ta14 ea14 => ?_)
    subst ea14
    refine j_iald C ta14 dX9_unuse_88 ?_
    exact j_iret C E dX9_unuse_89
  · refine j_aload_n C dX9_unuse_53 0 rfl ?_
    refine j_getR C kK9 f372 kfX9_42 (by decide) rfl tp0 dX9_unuse_54 (fun x15 tx15 => ?_)
    refine j_bipush C (v := (12 : Int32)) dX9_unuse_57 (by decide) ?_
    refine j_iload_n C dX9_unuse_59 1 rfl ?_
    refine j_imul C dX9_unuse_60 ?_
    refine j_iload_n C dX9_unuse_61 2 rfl ?_
    refine j_iadd C dX9_unuse_62 ?_
    refine j_aload_n C dX9_unuse_63 0 rfl ?_
    refine j_getR C kK9 f372 kfX9_42 (by decide) rfl tp0 dX9_unuse_64 (fun x16 tx16 => ?_)
    refine j_bipush C (v := (12 : Int32)) dX9_unuse_67 (by decide) ?_
    refine j_iload_n C dX9_unuse_69 1 rfl ?_
    refine j_imul C dX9_unuse_70 ?_
    refine j_iload_n C dX9_unuse_71 2 rfl ?_
    refine j_iadd C dX9_unuse_72 ?_
    refine j_iconst C (v := (1 : Int32)) dX9_unuse_73 (by decide) ?_
    refine j_iadd C dX9_unuse_74 ?_
    refine j_oc tx16 (fun a17 ta17 ea17 => ?_)
    subst ea17
    refine j_iald C ta17 dX9_unuse_75 ?_
    refine j_oc tx15 (fun a18 ta18 ea18 => ?_)
    subst ea18
    refine j_iast C ta18 dX9_unuse_76 (fun S19 => ?_)
    refine j_iinc C (v := (1 : Int32)) (L' := [(3, vI (p3 + (1 : Int32))), (0, vR (some p0)), (1, vI p1)]) dX9_unuse_77 2 rfl (by decide) (by decide) rfl ?_
    refine j_goto C (tgt := 43) dX9_unuse_80 (by decide) ?_
    refine j_sub (L' := [(0, vR (some p0)), (1, vI p1), (3, vI (p3 + (1 : Int32)))]) [1, 2, 0] rfl ?_
    exact hrec S19 p0 tp0 p1 (p3 + (1 : Int32))
def L_X9_unuse_43 (N : Nat → Nat) (n : Nat) : sSt → Nat → Int32 → Int32 → Option (Int32 × sSt) := iter (fun _ _ _ _ => none) (Y_X9_unuse_43 N) n
theorem jL_X9_unuse_43 {X : jX} (C : jC X cX9_unuse 4 RX9 rm_X9_unuse) {Λ : sLay} {r : (Int32 × sSt)} (E : jE X (some .int) rI Λ r) : ∀ (n : Nat) (S : sSt) (p0 : Nat) (tp0 : isK Λ 9 p0) (p1 : Int32) (p3 : Int32), J X 4 0 0 43 [(0, vR (some p0)), (1, vI p1), (3, vI p3)] [] Λ S (L_X9_unuse_43 Λ.2.2 n S p0 p1 p3 = some r) := by
  intro n
  induction n with
  | zero => intro S p0 tp0 p1 p3; exact j_no (fun h => by have h2 : (none : Option (Int32 × sSt)) = some r := h; cases h2)
  | succ n ih => intro S p0 tp0 p1 p3; exact jY_X9_unuse_43 C E (L_X9_unuse_43 Λ.2.2 n) ih S p0 tp0 p1 p3
def F_X9_unuse (N : Nat → Nat) (S : sSt) (p0 : Nat) (p1 : Int32) (p2 : Int32) : Option (Int32 × sSt) := bnd (sFI S 360 p0 (0 : Int32)) (fun S1 => Option.bind (F_X9_isUnit N S1 p0 p1) (fun v2 => (if v2 = 0 then some ((-1 : Int32), S1) else bnd (gFR S1 371 p0) (fun x4 => Option.bind x4 (fun a5 => gi p1 (N a5) (Option.bind (F_X9_in N S1 p2 (0 : Int32) ((gAI S1 a5 (Int32.toNatClampNeg p1)) - (1 : Int32))) (fun v6 => (if v6 = 0 then some ((-1 : Int32), S1) else bnd (gFR S1 371 p0) (fun x8 => Option.bind x8 (fun a9 => gi p1 (N a9) (gi p1 (N a9) (bnd (sAI S1 a9 (Int32.toNatClampNeg p1) ((gAI S1 a9 (Int32.toNatClampNeg p1)) - (1 : Int32))) (fun S10 => L_X9_unuse_43 N FU S10 p0 p1 p2)))))))))))))
set_option maxHeartbeats 4000000 in
theorem jF_X9_unuse {X : jX} (C : jC X cX9_unuse 4 RX9 rm_X9_unuse) {Λ : sLay} {S : sSt} {r : (Int32 × sSt)} (E : jE X (some .int) rI Λ r) (p0 : Nat) (tp0 : isK Λ 9 p0) (p1 : Int32) (p2 : Int32) : J X 4 0 0 0 [(0, vR (some p0)), (1, vI p1), (2, vI p2)] [] Λ S (F_X9_unuse Λ.2.2 S p0 p1 p2 = some r) := by
  unfold F_X9_unuse
  refine j_aload_n C dX9_unuse_0 0 rfl ?_
  refine j_iconst C (v := (0 : Int32)) dX9_unuse_1 (by decide) ?_
  refine j_putI C kK9 f360 kfX9_99 (by decide) rfl rfl rfl tp0 dX9_unuse_2 (fun S1 => ?_)
  refine j_aload_n C dX9_unuse_5 0 rfl ?_
  refine j_iload_n C dX9_unuse_6 1 rfl ?_
  refine j_cVIP C [vI p1] [] (fun _ e => c_X9_isUnit p0 tp0 p1 e) kYX9_isUnit kVX9_isUnit kmX9_110 kO9 tp0 rfl rfl ⟨rfl, rfl, by decide, by decide⟩ (Nat.le_of_ble_eq_true rfl) ⟨Nat.zero_le _, Nat.zero_le _⟩ dX9_unuse_7 (fun v2 => ?_)
  refine j_if_eq C (tgt := 29) dX9_unuse_10 (by decide) ?_ ?_
  · refine j_iconst C (v := (-1 : Int32)) dX9_unuse_29 (by decide) ?_
    exact j_iret C E dX9_unuse_30
  · refine j_iload_n C dX9_unuse_13 2 rfl ?_
    refine j_iconst C (v := (0 : Int32)) dX9_unuse_14 (by decide) ?_
    refine j_aload_n C dX9_unuse_15 0 rfl ?_
    refine j_getR C kK9 f371 kfX9_39 (by decide) rfl tp0 dX9_unuse_16 (fun x4 tx4 => ?_)
    refine j_iload_n C dX9_unuse_19 1 rfl ?_
    refine j_oc tx4 (fun a5 ta5 ea5 => ?_)
    subst ea5
    refine j_iald C ta5 dX9_unuse_20 ?_
    refine j_iconst C (v := (1 : Int32)) dX9_unuse_21 (by decide) ?_
    refine j_isub C dX9_unuse_22 ?_
    refine j_cSIP C [vI p2, vI (0 : Int32), vI ((gAI S1 a5 (Int32.toNatClampNeg p1)) - (1 : Int32))] [] (fun _ e => c_X9_in p2 (0 : Int32) ((gAI S1 a5 (Int32.toNatClampNeg p1)) - (1 : Int32)) e) kYX9_in kSX9_in kmX9_106 rfl rfl ⟨rfl, rfl, by decide, by decide⟩ (Nat.le_of_ble_eq_true rfl) ⟨Nat.zero_le _, Nat.zero_le _⟩ dX9_unuse_23 (fun v6 => ?_)
    refine j_if_ne C (tgt := 31) dX9_unuse_26 (by decide) ?_ ?_
    · refine j_aload_n C dX9_unuse_31 0 rfl ?_
      refine j_getR C kK9 f371 kfX9_39 (by decide) rfl tp0 dX9_unuse_32 (fun x8 tx8 => ?_)
      refine j_iload_n C dX9_unuse_35 1 rfl ?_
      refine j_dup2 C dX9_unuse_36 rfl rfl ?_
      refine j_oc tx8 (fun a9 ta9 ea9 => ?_)
      subst ea9
      refine j_iald C ta9 dX9_unuse_37 ?_
      refine j_iconst C (v := (1 : Int32)) dX9_unuse_38 (by decide) ?_
      refine j_isub C dX9_unuse_39 ?_
      refine j_iast C ta9 dX9_unuse_40 (fun S10 => ?_)
      refine j_iload_n C dX9_unuse_41 2 rfl ?_
      refine j_istore_n C (L' := [(3, vI p2), (0, vR (some p0)), (1, vI p1), (2, vI p2)]) dX9_unuse_42 (by decide) rfl ?_
      refine j_sub (L' := [(0, vR (some p0)), (1, vI p1), (3, vI p2)]) [1, 2, 0] rfl ?_
      exact jL_X9_unuse_43 C E FU S10 p0 tp0 p1 p2
    · refine j_iconst C (v := (-1 : Int32)) dX9_unuse_29 (by decide) ?_
      exact j_iret C E dX9_unuse_30
theorem c_X9_unuse {l : Launch} {D : va_G} {cy : Nat → ClassId} {Λ : sLay} {S : sSt} (p0 : Nat) (tp0 : isK Λ 9 p0) (p1 : Int32) (p2 : Int32) {v : Int32} {S1 : sSt} (h : F_X9_unuse Λ.2.2 S p0 p1 p2 = some (v, S1)) : jM l yX9_unuse (Cond.code yX9_unuse cX9_unuse 4 (some .int) :: bigW) rm_X9_unuse D cy Λ S [vR (some p0), vI p1, vI p2] rI (v, S1) := jM_of (by decide +kernel) (Nat.le_of_ble_eq_true rfl) (fun X C E _ _ _ => j_sub [0, 1, 2] rfl (jF_X9_unuse C E p0 tp0 p1 p2)) h
/-! RemakeNeeds2Model.unway(I)I -/
abbrev rm_X9_unway : Room := { frames := 2, cells := 0, slots := 0, locals := 43 }
def F_X9_unway (N : Nat → Nat) (S : sSt) (p0 : Nat) (p1 : Int32) : Option (Int32 × sSt) := bnd (sFI S 360 p0 (0 : Int32)) (fun S1 => Option.bind (F_X9_isUnit N S1 p0 p1) (fun v2 => (if v2 = 0 then some ((-1 : Int32), S1) else bnd (gFR S1 369 p0) (fun x4 => Option.bind x4 (fun a5 => gi p1 (N a5) (bnd (gFR S1 369 p0) (fun x6 => Option.bind x6 (fun a7 => gi p1 (N a7) (bnd (sAI S1 a7 (Int32.toNatClampNeg p1) (0 : Int32)) (fun S8 => some ((gAI S1 a5 (Int32.toNatClampNeg p1)), S8)))))))))))
set_option maxHeartbeats 4000000 in
theorem jF_X9_unway {X : jX} (C : jC X cX9_unway 3 RX9 rm_X9_unway) {Λ : sLay} {S : sSt} {r : (Int32 × sSt)} (E : jE X (some .int) rI Λ r) (p0 : Nat) (tp0 : isK Λ 9 p0) (p1 : Int32) : J X 3 0 0 0 [(0, vR (some p0)), (1, vI p1)] [] Λ S (F_X9_unway Λ.2.2 S p0 p1 = some r) := by
  unfold F_X9_unway
  refine j_aload_n C dX9_unway_0 0 rfl ?_
  refine j_iconst C (v := (0 : Int32)) dX9_unway_1 (by decide) ?_
  refine j_putI C kK9 f360 kfX9_99 (by decide) rfl rfl rfl tp0 dX9_unway_2 (fun S1 => ?_)
  refine j_aload_n C dX9_unway_5 0 rfl ?_
  refine j_iload_n C dX9_unway_6 1 rfl ?_
  refine j_cVIP C [vI p1] [] (fun _ e => c_X9_isUnit p0 tp0 p1 e) kYX9_isUnit kVX9_isUnit kmX9_110 kO9 tp0 rfl rfl ⟨rfl, rfl, by decide, by decide⟩ (Nat.le_of_ble_eq_true rfl) ⟨Nat.zero_le _, Nat.zero_le _⟩ dX9_unway_7 (fun v2 => ?_)
  refine j_if_ne C (tgt := 15) dX9_unway_10 (by decide) ?_ ?_
  · refine j_aload_n C dX9_unway_15 0 rfl ?_
    refine j_getR C kK9 f369 kfX9_33 (by decide) rfl tp0 dX9_unway_16 (fun x4 tx4 => ?_)
    refine j_iload_n C dX9_unway_19 1 rfl ?_
    refine j_oc tx4 (fun a5 ta5 ea5 => ?_)
    subst ea5
    refine j_iald C ta5 dX9_unway_20 ?_
    refine j_istore_n C (L' := [(2, vI (gAI S1 a5 (Int32.toNatClampNeg p1))), (0, vR (some p0)), (1, vI p1)]) dX9_unway_21 (by decide) rfl ?_
    refine j_aload_n C dX9_unway_22 1 rfl ?_
    refine j_getR C kK9 f369 kfX9_33 (by decide) rfl tp0 dX9_unway_23 (fun x6 tx6 => ?_)
    refine j_iload_n C dX9_unway_26 2 rfl ?_
    refine j_iconst C (v := (0 : Int32)) dX9_unway_27 (by decide) ?_
    refine j_oc tx6 (fun a7 ta7 ea7 => ?_)
    subst ea7
    refine j_iast C ta7 dX9_unway_28 (fun S8 => ?_)
    refine j_iload_n C dX9_unway_29 0 rfl ?_
    exact j_iret C E dX9_unway_30
  · refine j_iconst C (v := (-1 : Int32)) dX9_unway_13 (by decide) ?_
    exact j_iret C E dX9_unway_14
theorem c_X9_unway {l : Launch} {D : va_G} {cy : Nat → ClassId} {Λ : sLay} {S : sSt} (p0 : Nat) (tp0 : isK Λ 9 p0) (p1 : Int32) {v : Int32} {S1 : sSt} (h : F_X9_unway Λ.2.2 S p0 p1 = some (v, S1)) : jM l yX9_unway (Cond.code yX9_unway cX9_unway 3 (some .int) :: bigW) rm_X9_unway D cy Λ S [vR (some p0), vI p1] rI (v, S1) := jM_of (by decide +kernel) (Nat.le_of_ble_eq_true rfl) (fun X C E _ _ _ => j_sub [0, 1] rfl (jF_X9_unway C E p0 tp0 p1)) h
/-! RemakeNeeds2Model.use(III)I -/
abbrev rm_X9_use : Room := { frames := 2, cells := 0, slots := 0, locals := 43 }
def Y_X9_use_37 (N : Nat → Nat) (rec : sSt → Nat → Int32 → Int32 → Int32 → Int32 → Option (Int32 × sSt)) (S : sSt) (p0 : Nat) (p1 : Int32) (p2 : Int32) (p3 : Int32) (p4 : Int32) : Option (Int32 × sSt) := bnd (gFR S 371 p0) (fun x8 => Option.bind x8 (fun a9 => gi p1 (N a9) ((if (gAI S a9 (Int32.toNatClampNeg p1)) ≤ p4 then bnd (gFR S 371 p0) (fun x10 => Option.bind x10 (fun a11 => gi p1 (N a11) ((if (gAI S a11 (Int32.toNatClampNeg p1)) = (12 : Int32) then some ((-4 : Int32), S) else bnd (gFR S 372 p0) (fun x12 => bnd (gFR S 371 p0) (fun x13 => Option.bind x13 (fun a14 => gi p1 (N a14) (Option.bind x12 (fun a15 => gi (((12 : Int32) * p1) + (gAI S a14 (Int32.toNatClampNeg p1))) (N a15) (bnd (sAI S a15 (Int32.toNatClampNeg (((12 : Int32) * p1) + (gAI S a14 (Int32.toNatClampNeg p1)))) (((32 : Int32) * p2) + p3)) (fun S16 => bnd (gFR S16 371 p0) (fun x17 => Option.bind x17 (fun a18 => gi p1 (N a18) (gi p1 (N a18) (bnd (sAI S16 a18 (Int32.toNatClampNeg p1) ((gAI S16 a18 (Int32.toNatClampNeg p1)) + (1 : Int32))) (fun S19 => bnd (gFR S19 371 p0) (fun x20 => Option.bind x20 (fun a21 => gi p1 (N a21) (some ((gAI S19 a21 (Int32.toNatClampNeg p1)), S19)))))))))))))))))))) else bnd (gFR S 372 p0) (fun x22 => Option.bind x22 (fun a23 => gi (((12 : Int32) * p1) + p4) (N a23) ((if (gAI S a23 (Int32.toNatClampNeg (((12 : Int32) * p1) + p4))) = (((32 : Int32) * p2) + p3) then some ((-3 : Int32), S) else rec S p0 p1 p2 p3 (p4 + (1 : Int32))))))))))
set_option maxHeartbeats 4000000 in
theorem jY_X9_use_37 {X : jX} (C : jC X cX9_use 5 RX9 rm_X9_use) {Λ : sLay} {r : (Int32 × sSt)} (E : jE X (some .int) rI Λ r) (rec : sSt → Nat → Int32 → Int32 → Int32 → Int32 → Option (Int32 × sSt)) (hrec : ∀ (S : sSt) (p0 : Nat) (tp0 : isK Λ 9 p0) (p1 : Int32) (p2 : Int32) (p3 : Int32) (p4 : Int32), J X 5 0 0 37 [(0, vR (some p0)), (1, vI p1), (2, vI p2), (3, vI p3), (4, vI p4)] [] Λ S (rec S p0 p1 p2 p3 p4 = some r)) : ∀ (S : sSt) (p0 : Nat) (tp0 : isK Λ 9 p0) (p1 : Int32) (p2 : Int32) (p3 : Int32) (p4 : Int32), J X 5 0 0 37 [(0, vR (some p0)), (1, vI p1), (2, vI p2), (3, vI p3), (4, vI p4)] [] Λ S (Y_X9_use_37 Λ.2.2 rec S p0 p1 p2 p3 p4 = some r) := by
  intro S p0 tp0 p1 p2 p3 p4
  unfold Y_X9_use_37
  refine j_iload C dX9_use_37 4 rfl ?_
  refine j_aload_n C dX9_use_39 0 rfl ?_
  refine j_getR C kK9 f371 kfX9_39 (by decide) rfl tp0 dX9_use_40 (fun x8 tx8 => ?_)
  refine j_iload_n C dX9_use_43 1 rfl ?_
  refine j_oc tx8 (fun a9 ta9 ea9 => ?_)
  subst ea9
  refine j_iald C ta9 dX9_use_44 ?_
  refine j_icmp_ge C (tgt := 78) dX9_use_45 (by decide) ?_ ?_
  · refine j_aload_n C dX9_use_78 0 rfl ?_
    refine j_getR C kK9 f371 kfX9_39 (by decide) rfl tp0 dX9_use_79 (fun x10 tx10 => ?_)
    refine j_iload_n C dX9_use_82 1 rfl ?_
    refine j_oc tx10 (fun a11 ta11 ea11 => ?_)
    subst ea11
    refine j_iald C ta11 dX9_use_83 ?_
    refine j_bipush C (v := (12 : Int32)) dX9_use_84 (by decide) ?_
    refine j_icmp_ne C (tgt := 92) dX9_use_86 (by decide) ?_ ?_
    · refine j_aload_n C dX9_use_92 0 rfl ?_
      refine j_getR C kK9 f372 kfX9_42 (by decide) rfl tp0 dX9_use_93 (fun x12 tx12 => ?_)
      refine j_bipush C (v := (12 : Int32)) dX9_use_96 (by decide) ?_
      refine j_iload_n C dX9_use_98 1 rfl ?_
      refine j_imul C dX9_use_99 ?_
      refine j_aload_n C dX9_use_100 0 rfl ?_
      refine j_getR C kK9 f371 kfX9_39 (by decide) rfl tp0 dX9_use_101 (fun x13 tx13 => ?_)
      refine j_iload_n C dX9_use_104 1 rfl ?_
      refine j_oc tx13 (fun a14 ta14 ea14 => ?_)
      subst ea14
      refine j_iald C ta14 dX9_use_105 ?_
      refine j_iadd C dX9_use_106 ?_
      refine j_bipush C (v := (32 : Int32)) dX9_use_107 (by decide) ?_
      refine j_iload_n C dX9_use_109 2 rfl ?_
      refine j_imul C dX9_use_110 ?_
      refine j_iload_n C dX9_use_111 3 rfl ?_
      refine j_iadd C dX9_use_112 ?_
      refine j_oc tx12 (fun a15 ta15 ea15 => ?_)
      subst ea15
      refine j_iast C ta15 dX9_use_113 (fun S16 => ?_)
      refine j_aload_n C dX9_use_114 0 rfl ?_
      refine j_getR C kK9 f371 kfX9_39 (by decide) rfl tp0 dX9_use_115 (fun x17 tx17 => ?_)
      refine j_iload_n C dX9_use_118 1 rfl ?_
      refine j_dup2 C dX9_use_119 rfl rfl ?_
      refine j_oc tx17 (fun a18 ta18 ea18 => ?_)
      subst ea18
      refine j_iald C ta18 dX9_use_120 ?_
      refine j_iconst C (v := (1 : Int32)) dX9_use_121 (by decide) ?_
      refine j_iadd C dX9_use_122 ?_
      refine j_iast C ta18 dX9_use_123 (fun S19 => ?_)
      refine j_aload_n C dX9_use_124 0 rfl ?_
      refine j_getR C kK9 f371 kfX9_39 (by decide) rfl tp0 dX9_use_125 (fun x20 tx20 => ?_)
      refine j_iload_n C dX9_use_128 1 rfl ?_
      refine j_oc tx20 (fun a21 ta21 ea21 => ?_)
      subst ea21
      refine j_iald C ta21 dX9_use_129 ?_
      exact j_iret C E dX9_use_130
    · refine j_bipush C (v := (-4 : Int32)) dX9_use_89 (by decide) ?_
      exact j_iret C E dX9_use_91
  · refine j_aload_n C dX9_use_48 0 rfl ?_
    refine j_getR C kK9 f372 kfX9_42 (by decide) rfl tp0 dX9_use_49 (fun x22 tx22 => ?_)
    refine j_bipush C (v := (12 : Int32)) dX9_use_52 (by decide) ?_
    refine j_iload_n C dX9_use_54 1 rfl ?_
    refine j_imul C dX9_use_55 ?_
    refine j_iload C dX9_use_56 4 rfl ?_
    refine j_iadd C dX9_use_58 ?_
    refine j_oc tx22 (fun a23 ta23 ea23 => ?_)
    subst ea23
    refine j_iald C ta23 dX9_use_59 ?_
    refine j_bipush C (v := (32 : Int32)) dX9_use_60 (by decide) ?_
    refine j_iload_n C dX9_use_62 2 rfl ?_
    refine j_imul C dX9_use_63 ?_
    refine j_iload_n C dX9_use_64 3 rfl ?_
    refine j_iadd C dX9_use_65 ?_
    refine j_icmp_ne C (tgt := 72) dX9_use_66 (by decide) ?_ ?_
    · refine j_iinc C (v := (1 : Int32)) (L' := [(4, vI (p4 + (1 : Int32))), (0, vR (some p0)), (1, vI p1), (2, vI p2), (3, vI p3)]) dX9_use_72 4 rfl (by decide) (by decide) rfl ?_
      refine j_goto C (tgt := 37) dX9_use_75 (by decide) ?_
      refine j_sub (L' := [(0, vR (some p0)), (1, vI p1), (2, vI p2), (3, vI p3), (4, vI (p4 + (1 : Int32)))]) [1, 2, 3, 4, 0] rfl ?_
      exact hrec S p0 tp0 p1 p2 p3 (p4 + (1 : Int32))
    · refine j_bipush C (v := (-3 : Int32)) dX9_use_69 (by decide) ?_
      exact j_iret C E dX9_use_71
def L_X9_use_37 (N : Nat → Nat) (n : Nat) : sSt → Nat → Int32 → Int32 → Int32 → Int32 → Option (Int32 × sSt) := iter (fun _ _ _ _ _ _ => none) (Y_X9_use_37 N) n
theorem jL_X9_use_37 {X : jX} (C : jC X cX9_use 5 RX9 rm_X9_use) {Λ : sLay} {r : (Int32 × sSt)} (E : jE X (some .int) rI Λ r) : ∀ (n : Nat) (S : sSt) (p0 : Nat) (tp0 : isK Λ 9 p0) (p1 : Int32) (p2 : Int32) (p3 : Int32) (p4 : Int32), J X 5 0 0 37 [(0, vR (some p0)), (1, vI p1), (2, vI p2), (3, vI p3), (4, vI p4)] [] Λ S (L_X9_use_37 Λ.2.2 n S p0 p1 p2 p3 p4 = some r) := by
  intro n
  induction n with
  | zero => intro S p0 tp0 p1 p2 p3 p4; exact j_no (fun h => by have h2 : (none : Option (Int32 × sSt)) = some r := h; cases h2)
  | succ n ih => intro S p0 tp0 p1 p2 p3 p4; exact jY_X9_use_37 C E (L_X9_use_37 Λ.2.2 n) ih S p0 tp0 p1 p2 p3 p4
def F_X9_use (N : Nat → Nat) (S : sSt) (p0 : Nat) (p1 : Int32) (p2 : Int32) (p3 : Int32) : Option (Int32 × sSt) := bnd (sFI S 360 p0 (0 : Int32)) (fun S1 => Option.bind (F_X9_isUnit N S1 p0 p1) (fun v2 => (if v2 = 0 then some ((-1 : Int32), S1) else Option.bind (F_X9_in N S1 p2 (0 : Int32) (1 : Int32)) (fun v4 => (if v4 = 0 then some ((-2 : Int32), S1) else Option.bind (F_X9_isName N S1 p3) (fun v6 => (if v6 = 0 then some ((-2 : Int32), S1) else L_X9_use_37 N FU S1 p0 p1 p2 p3 (0 : Int32))))))))
set_option maxHeartbeats 4000000 in
theorem jF_X9_use {X : jX} (C : jC X cX9_use 5 RX9 rm_X9_use) {Λ : sLay} {S : sSt} {r : (Int32 × sSt)} (E : jE X (some .int) rI Λ r) (p0 : Nat) (tp0 : isK Λ 9 p0) (p1 : Int32) (p2 : Int32) (p3 : Int32) : J X 5 0 0 0 [(0, vR (some p0)), (1, vI p1), (2, vI p2), (3, vI p3)] [] Λ S (F_X9_use Λ.2.2 S p0 p1 p2 p3 = some r) := by
  unfold F_X9_use
  refine j_aload_n C dX9_use_0 0 rfl ?_
  refine j_iconst C (v := (0 : Int32)) dX9_use_1 (by decide) ?_
  refine j_putI C kK9 f360 kfX9_99 (by decide) rfl rfl rfl tp0 dX9_use_2 (fun S1 => ?_)
  refine j_aload_n C dX9_use_5 0 rfl ?_
  refine j_iload_n C dX9_use_6 1 rfl ?_
  refine j_cVIP C [vI p1] [] (fun _ e => c_X9_isUnit p0 tp0 p1 e) kYX9_isUnit kVX9_isUnit kmX9_110 kO9 tp0 rfl rfl ⟨rfl, rfl, by decide, by decide⟩ (Nat.le_of_ble_eq_true rfl) ⟨Nat.zero_le _, Nat.zero_le _⟩ dX9_use_7 (fun v2 => ?_)
  refine j_if_ne C (tgt := 15) dX9_use_10 (by decide) ?_ ?_
  · refine j_iload_n C dX9_use_15 2 rfl ?_
    refine j_iconst C (v := (0 : Int32)) dX9_use_16 (by decide) ?_
    refine j_iconst C (v := (1 : Int32)) dX9_use_17 (by decide) ?_
    refine j_cSIP C [vI p2, vI (0 : Int32), vI (1 : Int32)] [] (fun _ e => c_X9_in p2 (0 : Int32) (1 : Int32) e) kYX9_in kSX9_in kmX9_106 rfl rfl ⟨rfl, rfl, by decide, by decide⟩ (Nat.le_of_ble_eq_true rfl) ⟨Nat.zero_le _, Nat.zero_le _⟩ dX9_use_18 (fun v4 => ?_)
    refine j_if_eq C (tgt := 31) dX9_use_21 (by decide) ?_ ?_
    · refine j_bipush C (v := (-2 : Int32)) dX9_use_31 (by decide) ?_
      exact j_iret C E dX9_use_33
    · refine j_iload_n C dX9_use_24 3 rfl ?_
      refine j_cSIP C [vI p3] [] (fun _ e => c_X9_isName p3 e) kYX9_isName kSX9_isName kmX9_114 rfl rfl ⟨rfl, rfl, by decide, by decide⟩ (Nat.le_of_ble_eq_true rfl) ⟨Nat.zero_le _, Nat.zero_le _⟩ dX9_use_25 (fun v6 => ?_)
      refine j_if_ne C (tgt := 34) dX9_use_28 (by decide) ?_ ?_
      · refine j_iconst C (v := (0 : Int32)) dX9_use_34 (by decide) ?_
        refine j_istore C (L' := [(4, vI (0 : Int32)), (0, vR (some p0)), (1, vI p1), (2, vI p2), (3, vI p3)]) dX9_use_35 (by decide) rfl ?_
        refine j_sub (L' := [(0, vR (some p0)), (1, vI p1), (2, vI p2), (3, vI p3), (4, vI (0 : Int32))]) [1, 2, 3, 4, 0] rfl ?_
        exact jL_X9_use_37 C E FU S1 p0 tp0 p1 p2 p3 (0 : Int32)
      · refine j_bipush C (v := (-2 : Int32)) dX9_use_31 (by decide) ?_
        exact j_iret C E dX9_use_33
  · refine j_iconst C (v := (-1 : Int32)) dX9_use_13 (by decide) ?_
    exact j_iret C E dX9_use_14
theorem c_X9_use {l : Launch} {D : va_G} {cy : Nat → ClassId} {Λ : sLay} {S : sSt} (p0 : Nat) (tp0 : isK Λ 9 p0) (p1 : Int32) (p2 : Int32) (p3 : Int32) {v : Int32} {S1 : sSt} (h : F_X9_use Λ.2.2 S p0 p1 p2 p3 = some (v, S1)) : jM l yX9_use (Cond.code yX9_use cX9_use 5 (some .int) :: bigW) rm_X9_use D cy Λ S [vR (some p0), vI p1, vI p2, vI p3] rI (v, S1) := jM_of (by decide +kernel) (Nat.le_of_ble_eq_true rfl) (fun X C E _ _ _ => j_sub [0, 1, 2, 3] rfl (jF_X9_use C E p0 tp0 p1 p2 p3)) h
/-! RemakeNeeds2Model.value(II)J -/
abbrev rm_X9_value : Room := { frames := 3, cells := 0, slots := 0, locals := 73 }
def F_X9_value (N : Nat → Nat) (S : sSt) (p0 : Nat) (p1 : Int32) (p2 : Int32) : Option (Int64 × sSt) := bnd (sFI S 360 p0 (0 : Int32)) (fun S1 => Option.bind (F_X9_isUnit N S1 p0 p1) (fun v2 => (if v2 = 0 then some ((0 : Int64), S1) else Option.bind (F_X9_isName N S1 p2) (fun v4 => (if v4 = 0 then some ((0 : Int64), S1) else Option.bind (F_X9_thingOf N S1 p0 p1 ((32 : Int32) + p2)) (fun v6 => (if v6 = (-5 : Int32) then some ((0 : Int64), S1) else Option.bind (F_X9_reckon N S1 p0) (fun S9 => bnd (gFR S9 381 p0) (fun x10 => Option.bind (F_X9_thingOf N S9 p0 p1 ((32 : Int32) + p2)) (fun v11 => Option.bind x10 (fun a13 => gi v11 (N a13) (some ((gAJ S9 a13 (Int32.toNatClampNeg v11)), S9)))))))))))))
set_option maxHeartbeats 4000000 in
theorem jF_X9_value {X : jX} (C : jC X cX9_value 3 RX9 rm_X9_value) {Λ : sLay} {S : sSt} {r : (Int64 × sSt)} (E : jE X (some .long) rJ Λ r) (p0 : Nat) (tp0 : isK Λ 9 p0) (p1 : Int32) (p2 : Int32) : J X 3 0 0 0 [(0, vR (some p0)), (1, vI p1), (2, vI p2)] [] Λ S (F_X9_value Λ.2.2 S p0 p1 p2 = some r) := by
  unfold F_X9_value
  refine j_aload_n C dX9_value_0 0 rfl ?_
  refine j_iconst C (v := (0 : Int32)) dX9_value_1 (by decide) ?_
  refine j_putI C kK9 f360 kfX9_99 (by decide) rfl rfl rfl tp0 dX9_value_2 (fun S1 => ?_)
  refine j_aload_n C dX9_value_5 0 rfl ?_
  refine j_iload_n C dX9_value_6 1 rfl ?_
  refine j_cVIP C [vI p1] [] (fun _ e => c_X9_isUnit p0 tp0 p1 e) kYX9_isUnit kVX9_isUnit kmX9_110 kO9 tp0 rfl rfl ⟨rfl, rfl, by decide, by decide⟩ (Nat.le_of_ble_eq_true rfl) ⟨Nat.zero_le _, Nat.zero_le _⟩ dX9_value_7 (fun v2 => ?_)
  refine j_if_eq C (tgt := 34) dX9_value_10 (by decide) ?_ ?_
  · refine j_lconst C (v := (0 : Int64)) dX9_value_34 (by decide) ?_
    exact j_lret C E dX9_value_35
  · refine j_iload_n C dX9_value_13 2 rfl ?_
    refine j_cSIP C [vI p2] [] (fun _ e => c_X9_isName p2 e) kYX9_isName kSX9_isName kmX9_114 rfl rfl ⟨rfl, rfl, by decide, by decide⟩ (Nat.le_of_ble_eq_true rfl) ⟨Nat.zero_le _, Nat.zero_le _⟩ dX9_value_14 (fun v4 => ?_)
    refine j_if_eq C (tgt := 34) dX9_value_17 (by decide) ?_ ?_
    · refine j_lconst C (v := (0 : Int64)) dX9_value_34 (by decide) ?_
      exact j_lret C E dX9_value_35
    · refine j_aload_n C dX9_value_20 0 rfl ?_
      refine j_iload_n C dX9_value_21 1 rfl ?_
      refine j_bipush C (v := (32 : Int32)) dX9_value_22 (by decide) ?_
      refine j_iload_n C dX9_value_24 2 rfl ?_
      refine j_iadd C dX9_value_25 ?_
      refine j_cVIP C [vI p1, vI ((32 : Int32) + p2)] [] (fun _ e => c_X9_thingOf p0 tp0 p1 ((32 : Int32) + p2) e) kYX9_thingOf kVX9_thingOf kmX9_117 kO9 tp0 rfl rfl ⟨rfl, rfl, by decide, by decide⟩ (Nat.le_of_ble_eq_true rfl) ⟨Nat.zero_le _, Nat.zero_le _⟩ dX9_value_26 (fun v6 => ?_)
      refine j_bipush C (v := (-5 : Int32)) dX9_value_29 (by decide) ?_
      refine j_icmp_ne C (tgt := 36) dX9_value_31 (by decide) ?_ ?_
      · refine j_aload_n C dX9_value_36 0 rfl ?_
        refine j_cVVV C [] [] (fun _ e => c_X9_reckon p0 tp0 e) kYX9_reckon kVX9_reckon kmX9_146 kO9 tp0 rfl rfl ⟨rfl, rfl, by decide, by decide⟩ (Nat.le_of_ble_eq_true rfl) ⟨Nat.zero_le _, Nat.zero_le _⟩ dX9_value_37 (fun S9 => ?_)
        refine j_aload_n C dX9_value_40 0 rfl ?_
        refine j_getR C kK9 f381 kfX9_66 (by decide) rfl tp0 dX9_value_41 (fun x10 tx10 => ?_)
        refine j_aload_n C dX9_value_44 0 rfl ?_
        refine j_iload_n C dX9_value_45 1 rfl ?_
        refine j_bipush C (v := (32 : Int32)) dX9_value_46 (by decide) ?_
        refine j_iload_n C dX9_value_48 2 rfl ?_
        refine j_iadd C dX9_value_49 ?_
        refine j_cVIP C [vI p1, vI ((32 : Int32) + p2)] [vR x10] (fun _ e => c_X9_thingOf p0 tp0 p1 ((32 : Int32) + p2) e) kYX9_thingOf kVX9_thingOf kmX9_117 kO9 tp0 rfl rfl ⟨rfl, rfl, by decide, by decide⟩ (Nat.le_of_ble_eq_true rfl) ⟨Nat.zero_le _, Nat.zero_le _⟩ dX9_value_50 (fun v11 => ?_)
        refine j_oc tx10 (fun a13 ta13 ea13 => ?_)
        subst ea13
        refine j_lald C ta13 dX9_value_53 ?_
        exact j_lret C E dX9_value_54
      · refine j_lconst C (v := (0 : Int64)) dX9_value_34 (by decide) ?_
        exact j_lret C E dX9_value_35
theorem c_X9_value {l : Launch} {D : va_G} {cy : Nat → ClassId} {Λ : sLay} {S : sSt} (p0 : Nat) (tp0 : isK Λ 9 p0) (p1 : Int32) (p2 : Int32) {v : Int64} {S1 : sSt} (h : F_X9_value Λ.2.2 S p0 p1 p2 = some (v, S1)) : jM l yX9_value (Cond.code yX9_value cX9_value 3 (some .long) :: bigW) rm_X9_value D cy Λ S [vR (some p0), vI p1, vI p2] rJ (v, S1) := jM_of (by decide +kernel) (Nat.le_of_ble_eq_true rfl) (fun X C E _ _ _ => j_sub [0, 1, 2] rfl (jF_X9_value C E p0 tp0 p1 p2)) h
/-! RemakeNeeds2Model.way(II)I -/
abbrev rm_X9_way : Room := { frames := 2, cells := 0, slots := 0, locals := 43 }
def F_X9_way (N : Nat → Nat) (S : sSt) (p0 : Nat) (p1 : Int32) (p2 : Int32) : Option (Int32 × sSt) := bnd (sFI S 360 p0 (0 : Int32)) (fun S1 => Option.bind (F_X9_isUnit N S1 p0 p1) (fun v2 => (if v2 = 0 then some ((-1 : Int32), S1) else Option.bind (F_X9_isUnit N S1 p0 p2) (fun v4 => (if v4 = 0 then some ((-1 : Int32), S1) else (if p1 = p2 then some ((-3 : Int32), S1) else Option.bind (F_X9_isOnWay N S1 p0 p1 p2) (fun v6 => (if v6 = 0 then bnd (gFR S1 369 p0) (fun x8 => Option.bind x8 (fun a9 => gi p1 (N a9) ((if (gAI S1 a9 (Int32.toNatClampNeg p1)) = (6 : Int32) then some ((-4 : Int32), S1) else bnd (gFR S1 370 p0) (fun x10 => bnd (gFR S1 369 p0) (fun x11 => Option.bind x11 (fun a12 => gi p1 (N a12) (Option.bind x10 (fun a13 => gi (((6 : Int32) * p1) + (gAI S1 a12 (Int32.toNatClampNeg p1))) (N a13) (bnd (sAI S1 a13 (Int32.toNatClampNeg (((6 : Int32) * p1) + (gAI S1 a12 (Int32.toNatClampNeg p1)))) p2) (fun S14 => bnd (gFR S14 369 p0) (fun x15 => Option.bind x15 (fun a16 => gi p1 (N a16) (gi p1 (N a16) (bnd (sAI S14 a16 (Int32.toNatClampNeg p1) ((gAI S14 a16 (Int32.toNatClampNeg p1)) + (1 : Int32))) (fun S17 => bnd (gFR S17 369 p0) (fun x18 => Option.bind x18 (fun a19 => gi p1 (N a19) (some ((gAI S17 a19 (Int32.toNatClampNeg p1)), S17)))))))))))))))))))) else some ((-3 : Int32), S1)))))))))
set_option maxHeartbeats 4000000 in
theorem jF_X9_way {X : jX} (C : jC X cX9_way 3 RX9 rm_X9_way) {Λ : sLay} {S : sSt} {r : (Int32 × sSt)} (E : jE X (some .int) rI Λ r) (p0 : Nat) (tp0 : isK Λ 9 p0) (p1 : Int32) (p2 : Int32) : J X 3 0 0 0 [(0, vR (some p0)), (1, vI p1), (2, vI p2)] [] Λ S (F_X9_way Λ.2.2 S p0 p1 p2 = some r) := by
  unfold F_X9_way
  refine j_aload_n C dX9_way_0 0 rfl ?_
  refine j_iconst C (v := (0 : Int32)) dX9_way_1 (by decide) ?_
  refine j_putI C kK9 f360 kfX9_99 (by decide) rfl rfl rfl tp0 dX9_way_2 (fun S1 => ?_)
  refine j_aload_n C dX9_way_5 0 rfl ?_
  refine j_iload_n C dX9_way_6 1 rfl ?_
  refine j_cVIP C [vI p1] [] (fun _ e => c_X9_isUnit p0 tp0 p1 e) kYX9_isUnit kVX9_isUnit kmX9_110 kO9 tp0 rfl rfl ⟨rfl, rfl, by decide, by decide⟩ (Nat.le_of_ble_eq_true rfl) ⟨Nat.zero_le _, Nat.zero_le _⟩ dX9_way_7 (fun v2 => ?_)
  refine j_if_eq C (tgt := 21) dX9_way_10 (by decide) ?_ ?_
  · refine j_iconst C (v := (-1 : Int32)) dX9_way_21 (by decide) ?_
    exact j_iret C E dX9_way_22
  · refine j_aload_n C dX9_way_13 0 rfl ?_
    refine j_iload_n C dX9_way_14 2 rfl ?_
    refine j_cVIP C [vI p2] [] (fun _ e => c_X9_isUnit p0 tp0 p2 e) kYX9_isUnit kVX9_isUnit kmX9_110 kO9 tp0 rfl rfl ⟨rfl, rfl, by decide, by decide⟩ (Nat.le_of_ble_eq_true rfl) ⟨Nat.zero_le _, Nat.zero_le _⟩ dX9_way_15 (fun v4 => ?_)
    refine j_if_ne C (tgt := 23) dX9_way_18 (by decide) ?_ ?_
    · refine j_iload_n C dX9_way_23 1 rfl ?_
      refine j_iload_n C dX9_way_24 2 rfl ?_
      refine j_icmp_eq C (tgt := 37) dX9_way_25 (by decide) ?_ ?_
      · refine j_bipush C (v := (-3 : Int32)) dX9_way_37 (by decide) ?_
        exact j_iret C E dX9_way_39
      · refine j_aload_n C dX9_way_28 0 rfl ?_
        refine j_iload_n C dX9_way_29 1 rfl ?_
        refine j_iload_n C dX9_way_30 2 rfl ?_
        refine j_cVIP C [vI p1, vI p2] [] (fun _ e => c_X9_isOnWay p0 tp0 p1 p2 e) kYX9_isOnWay kVX9_isOnWay kmX9_125 kO9 tp0 rfl rfl ⟨rfl, rfl, by decide, by decide⟩ (Nat.le_of_ble_eq_true rfl) ⟨Nat.zero_le _, Nat.zero_le _⟩ dX9_way_31 (fun v6 => ?_)
        refine j_if_eq C (tgt := 40) dX9_way_34 (by decide) ?_ ?_
        · refine j_aload_n C dX9_way_40 0 rfl ?_
          refine j_getR C kK9 f369 kfX9_33 (by decide) rfl tp0 dX9_way_41 (fun x8 tx8 => ?_)
          refine j_iload_n C dX9_way_44 1 rfl ?_
          refine j_oc tx8 (fun a9 ta9 ea9 => ?_)
          subst ea9
          refine j_iald C ta9 dX9_way_45 ?_
          refine j_bipush C (v := (6 : Int32)) dX9_way_46 (by decide) ?_
          refine j_icmp_ne C (tgt := 54) dX9_way_48 (by decide) ?_ ?_
          · refine j_aload_n C dX9_way_54 0 rfl ?_
            refine j_getR C kK9 f370 kfX9_36 (by decide) rfl tp0 dX9_way_55 (fun x10 tx10 => ?_)
            refine j_bipush C (v := (6 : Int32)) dX9_way_58 (by decide) ?_
            refine j_iload_n C dX9_way_60 1 rfl ?_
            refine j_imul C dX9_way_61 ?_
            refine j_aload_n C dX9_way_62 0 rfl ?_
            refine j_getR C kK9 f369 kfX9_33 (by decide) rfl tp0 dX9_way_63 (fun x11 tx11 => ?_)
            refine j_iload_n C dX9_way_66 1 rfl ?_
            refine j_oc tx11 (fun a12 ta12 ea12 => ?_)
            subst ea12
            refine j_iald C ta12 dX9_way_67 ?_
            refine j_iadd C dX9_way_68 ?_
            refine j_iload_n C dX9_way_69 2 rfl ?_
            refine j_oc tx10 (fun a13 ta13 ea13 => ?_)
            subst ea13
            refine j_iast C ta13 dX9_way_70 (fun S14 => ?_)
            refine j_aload_n C dX9_way_71 0 rfl ?_
            refine j_getR C kK9 f369 kfX9_33 (by decide) rfl tp0 dX9_way_72 (fun x15 tx15 => ?_)
            refine j_iload_n C dX9_way_75 1 rfl ?_
            refine j_dup2 C dX9_way_76 rfl rfl ?_
            refine j_oc tx15 (fun a16 ta16 ea16 => ?_)
            subst ea16
            refine j_iald C ta16 dX9_way_77 ?_
            refine j_iconst C (v := (1 : Int32)) dX9_way_78 (by decide) ?_
            refine j_iadd C dX9_way_79 ?_
            refine j_iast C ta16 dX9_way_80 (fun S17 => ?_)
            refine j_aload_n C dX9_way_81 0 rfl ?_
            refine j_getR C kK9 f369 kfX9_33 (by decide) rfl tp0 dX9_way_82 (fun x18 tx18 => ?_)
            refine j_iload_n C dX9_way_85 1 rfl ?_
            refine j_oc tx18 (fun a19 ta19 ea19 => ?_)
            subst ea19
            refine j_iald C ta19 dX9_way_86 ?_
            exact j_iret C E dX9_way_87
          · refine j_bipush C (v := (-4 : Int32)) dX9_way_51 (by decide) ?_
            exact j_iret C E dX9_way_53
        · refine j_bipush C (v := (-3 : Int32)) dX9_way_37 (by decide) ?_
          exact j_iret C E dX9_way_39
    · refine j_iconst C (v := (-1 : Int32)) dX9_way_21 (by decide) ?_
      exact j_iret C E dX9_way_22
theorem c_X9_way {l : Launch} {D : va_G} {cy : Nat → ClassId} {Λ : sLay} {S : sSt} (p0 : Nat) (tp0 : isK Λ 9 p0) (p1 : Int32) (p2 : Int32) {v : Int32} {S1 : sSt} (h : F_X9_way Λ.2.2 S p0 p1 p2 = some (v, S1)) : jM l yX9_way (Cond.code yX9_way cX9_way 3 (some .int) :: bigW) rm_X9_way D cy Λ S [vR (some p0), vI p1, vI p2] rI (v, S1) := jM_of (by decide +kernel) (Nat.le_of_ble_eq_true rfl) (fun X C E _ _ _ => j_sub [0, 1, 2] rfl (jF_X9_way C E p0 tp0 p1 p2)) h
/-! RemakeNeeds2Model.why(I)I -/
abbrev rm_X9_why : Room := { frames := 5, cells := 0, slots := 0, locals := 115 }
def F_X9_why (N : Nat → Nat) (S : sSt) (p0 : Nat) (p1 : Int32) : Option (Int32 × sSt) := bnd (sFI S 360 p0 (0 : Int32)) (fun S1 => Option.bind (F_X9_isUnit N S1 p0 p1) (fun v2 => (if v2 = 0 then some ((-1 : Int32), S1) else Option.bind (F_X9_rowOf N S1 p0 p1) (fun S5 => Option.bind (F_X9_whyOf N S5 p0 p1) (fun v6 => some (v6, S5))))))
set_option maxHeartbeats 4000000 in
theorem jF_X9_why {X : jX} (C : jC X cX9_why 2 RX9 rm_X9_why) {Λ : sLay} {S : sSt} {r : (Int32 × sSt)} (E : jE X (some .int) rI Λ r) (p0 : Nat) (tp0 : isK Λ 9 p0) (p1 : Int32) : J X 2 0 0 0 [(0, vR (some p0)), (1, vI p1)] [] Λ S (F_X9_why Λ.2.2 S p0 p1 = some r) := by
  unfold F_X9_why
  refine j_aload_n C dX9_why_0 0 rfl ?_
  refine j_iconst C (v := (0 : Int32)) dX9_why_1 (by decide) ?_
  refine j_putI C kK9 f360 kfX9_99 (by decide) rfl rfl rfl tp0 dX9_why_2 (fun S1 => ?_)
  refine j_aload_n C dX9_why_5 0 rfl ?_
  refine j_iload_n C dX9_why_6 1 rfl ?_
  refine j_cVIP C [vI p1] [] (fun _ e => c_X9_isUnit p0 tp0 p1 e) kYX9_isUnit kVX9_isUnit kmX9_110 kO9 tp0 rfl rfl ⟨rfl, rfl, by decide, by decide⟩ (Nat.le_of_ble_eq_true rfl) ⟨Nat.zero_le _, Nat.zero_le _⟩ dX9_why_7 (fun v2 => ?_)
  refine j_if_ne C (tgt := 15) dX9_why_10 (by decide) ?_ ?_
  · refine j_aload_n C dX9_why_15 0 rfl ?_
    refine j_iload_n C dX9_why_16 1 rfl ?_
    refine j_cVVV C [vI p1] [] (fun _ e => c_X9_rowOf p0 tp0 p1 e) kYX9_rowOf kVX9_rowOf kmX9_185 kO9 tp0 rfl rfl ⟨rfl, rfl, by decide, by decide⟩ (Nat.le_of_ble_eq_true rfl) ⟨Nat.zero_le _, Nat.zero_le _⟩ dX9_why_17 (fun S5 => ?_)
    refine j_aload_n C dX9_why_20 0 rfl ?_
    refine j_iload_n C dX9_why_21 1 rfl ?_
    refine j_cVIP C [vI p1] [] (fun _ e => c_X9_whyOf p0 tp0 p1 e) kYX9_whyOf kVX9_whyOf kmX9_191 kO9 tp0 rfl rfl ⟨rfl, rfl, by decide, by decide⟩ (Nat.le_of_ble_eq_true rfl) ⟨Nat.zero_le _, Nat.zero_le _⟩ dX9_why_22 (fun v6 => ?_)
    exact j_iret C E dX9_why_25
  · refine j_iconst C (v := (-1 : Int32)) dX9_why_13 (by decide) ?_
    exact j_iret C E dX9_why_14
theorem c_X9_why {l : Launch} {D : va_G} {cy : Nat → ClassId} {Λ : sLay} {S : sSt} (p0 : Nat) (tp0 : isK Λ 9 p0) (p1 : Int32) {v : Int32} {S1 : sSt} (h : F_X9_why Λ.2.2 S p0 p1 = some (v, S1)) : jM l yX9_why (Cond.code yX9_why cX9_why 2 (some .int) :: bigW) rm_X9_why D cy Λ S [vR (some p0), vI p1] rI (v, S1) := jM_of (by decide +kernel) (Nat.le_of_ble_eq_true rfl) (fun X C E _ _ _ => j_sub [0, 1] rfl (jF_X9_why C E p0 tp0 p1)) h
