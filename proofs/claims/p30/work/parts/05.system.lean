def iter {α : Type} (z : α) (f : α → α) : Nat → α
  | 0 => z
  | n + 1 => f (iter z f n)
theorem sw_out {x : Int32} (n : Nat) (h : ∀ j : Nat, j ≤ n → ¬ x = nI j) : x.toInt < ((0 : Nat) : Int) ∨ (n : Int) < x.toInt := by
  rcases Int.lt_or_le x.toInt 0 with h0 | h0
  · exact Or.inl h0
  · rcases Int.lt_or_le (n : Int) x.toInt with h1 | h1
    · exact Or.inr h1
    · exfalso
      have hb : x.toInt < 2 ^ 31 := Int32.toInt_lt x
      obtain ⟨j, hj⟩ := Int.eq_ofNat_of_zero_le h0
      refine h j (by omega) ?_
      apply Int32.toInt_inj.mp
      rw [nI_toInt (by omega)]
      exact hj
/-! RemakeNeeds2.Constants.addPart(LRemakeNeeds2$Thing;LRemakeNeeds2$Thing;)V -/
abbrev rm_X0_addPart : Room := { frames := 0, cells := 0, slots := 0, locals := 0 }
def B_X0_addPart_33 (N : Nat → Nat) (S : sSt) (p0 : Nat) : Option sSt := bnd (sFI S 207 p0 (1 : Int32)) (fun S4 => some S4)
set_option maxHeartbeats 4000000 in
theorem jB_X0_addPart_33 {X : jX} (C : jC X cX0_addPart 2 RX0 rm_X0_addPart) {Λ : sLay} {r : sSt} (E : jE X none rV Λ ((), r)) : ∀ (S : sSt) (p0 : Nat) (tp0 : isK Λ 5 p0), J X 2 0 0 33 [(0, vR (some p0))] [] Λ S (B_X0_addPart_33 Λ.2.2 S p0 = some r) := by
  intro S p0 tp0
  unfold B_X0_addPart_33
  refine j_aload_n C dX0_addPart_33 0 rfl ?_
  refine j_iconst C (v := (1 : Int32)) dX0_addPart_34 (by decide) ?_
  refine j_putI C kK5 f207 kfX0_71 (by decide) rfl rfl rfl tp0 dX0_addPart_35 (fun S4 => ?_)
  exact j_vretP C E dX0_addPart_38
def F_X0_addPart (N : Nat → Nat) (S : sSt) (p0 : Option Nat) (p1 : Option Nat) : Option sSt := onl p1 (some S) (fun a1 => Option.bind p0 (fun a2 => bnd (sFJ S 206 a2 ((gFJ S 206 a2) + (gFJ S 206 a1))) (fun S3 => (if (gFI S3 205 a1) = (1 : Int32) then B_X0_addPart_33 N S3 a2 else (if (gFI S3 207 a1) = 0 then some S3 else B_X0_addPart_33 N S3 a2)))))
set_option maxHeartbeats 4000000 in
theorem jF_X0_addPart {X : jX} (C : jC X cX0_addPart 2 RX0 rm_X0_addPart) {Λ : sLay} {S : sSt} {r : sSt} (E : jE X none rV Λ ((), r)) (p0 : Option Nat) (tp0 : okK Λ 5 p0) (p1 : Option Nat) (tp1 : okK Λ 5 p1) : J X 2 0 0 0 [(0, vR p0), (1, vR p1)] [] Λ S (F_X0_addPart Λ.2.2 S p0 p1 = some r) := by
  unfold F_X0_addPart
  refine j_aload_n C dX0_addPart_0 1 rfl ?_
  refine j_ifnonnull C (tgt := 5) tp1 dX0_addPart_1 (by decide) (fun ea1 => ?_) (fun a1 ta1 ea1 => ?_)
  · subst ea1
    exact j_vretP C E dX0_addPart_4
  · subst ea1
    refine j_aload_n C dX0_addPart_5 0 rfl ?_
    refine j_dup C dX0_addPart_6 rfl ?_
    refine j_oc tp0 (fun a2 ta2 ea2 => ?_)
    subst ea2
    refine j_getJ C kK5 f206 kfX0_68 (by decide) ta2 dX0_addPart_7 ?_
    refine j_aload_n C dX0_addPart_10 1 rfl ?_
    refine j_getJ C kK5 f206 kfX0_68 (by decide) ta1 dX0_addPart_11 ?_
    refine j_ladd C dX0_addPart_14 ?_
    refine j_putJ C kK5 f206 kfX0_68 (by decide) rfl rfl rfl ta2 dX0_addPart_15 (fun S3 => ?_)
    refine j_aload_n C dX0_addPart_18 1 rfl ?_
    refine j_getI C kK5 f205 kfX0_57 (by decide) ta1 dX0_addPart_19 ?_
    refine j_iconst C (v := (1 : Int32)) dX0_addPart_22 (by decide) ?_
    refine j_icmp_eq C (tgt := 33) dX0_addPart_23 (by decide) ?_ ?_
    · refine j_sub (L' := [(0, vR (some a2))]) [0] rfl ?_
      exact jB_X0_addPart_33 C E S3 a2 ta2
    · refine j_aload_n C dX0_addPart_26 1 rfl ?_
      refine j_getI C kK5 f207 kfX0_71 (by decide) ta1 dX0_addPart_27 ?_
      refine j_if_eq C (tgt := 38) dX0_addPart_30 (by decide) ?_ ?_
      · exact j_vretP C E dX0_addPart_38
      · refine j_sub (L' := [(0, vR (some a2))]) [0] rfl ?_
        exact jB_X0_addPart_33 C E S3 a2 ta2
theorem c_X0_addPart {l : Launch} {D : va_G} {cy : Nat → ClassId} {Λ : sLay} {S : sSt} (p0 : Option Nat) (tp0 : okK Λ 5 p0) (p1 : Option Nat) (tp1 : okK Λ 5 p1) {r : sSt} (h : F_X0_addPart Λ.2.2 S p0 p1 = some r) : jM l yX0_addPart (Cond.code yX0_addPart cX0_addPart 2 none :: bigW) rm_X0_addPart D cy Λ S [vR p0, vR p1] rV ((), r) := jM_of (by decide +kernel) (Nat.le_of_ble_eq_true rfl) (fun X C E _ _ _ => j_sub [0, 1] rfl (jF_X0_addPart C E p0 tp0 p1 tp1)) h
/-! RemakeNeeds2.Constants.close(LRemakeNeeds2$Thing;)V -/
abbrev rm_X0_close : Room := { frames := 0, cells := 0, slots := 0, locals := 0 }
def F_X0_close (N : Nat → Nat) (S : sSt) (p0 : Option Nat) : Option sSt := onl p0 (some S) (fun a1 => bnd (sFI S 205 a1 (2 : Int32)) (fun S2 => (if (gFI S2 207 a1) = 0 then some S2 else bnd (sFJ S2 206 a1 (0 : Int64)) (fun S3 => some S3))))
set_option maxHeartbeats 4000000 in
theorem jF_X0_close {X : jX} (C : jC X cX0_close 1 RX0 rm_X0_close) {Λ : sLay} {S : sSt} {r : sSt} (E : jE X none rV Λ ((), r)) (p0 : Option Nat) (tp0 : okK Λ 5 p0) : J X 1 0 0 0 [(0, vR p0)] [] Λ S (F_X0_close Λ.2.2 S p0 = some r) := by
  unfold F_X0_close
  refine j_aload_n C dX0_close_0 0 rfl ?_
  refine j_ifnonnull C (tgt := 5) tp0 dX0_close_1 (by decide) (fun ea1 => ?_) (fun a1 ta1 ea1 => ?_)
  · subst ea1
    exact j_vretP C E dX0_close_4
  · subst ea1
    refine j_aload_n C dX0_close_5 0 rfl ?_
    refine j_iconst C (v := (2 : Int32)) dX0_close_6 (by decide) ?_
    refine j_putI C kK5 f205 kfX0_57 (by decide) rfl rfl rfl ta1 dX0_close_7 (fun S2 => ?_)
    refine j_aload_n C dX0_close_10 0 rfl ?_
    refine j_getI C kK5 f207 kfX0_71 (by decide) ta1 dX0_close_11 ?_
    refine j_if_eq C (tgt := 22) dX0_close_14 (by decide) ?_ ?_
    · exact j_vretP C E dX0_close_22
    · refine j_aload_n C dX0_close_17 0 rfl ?_
      refine j_lconst C (v := (0 : Int64)) dX0_close_18 (by decide) ?_
      refine j_putJ C kK5 f206 kfX0_68 (by decide) rfl rfl rfl ta1 dX0_close_19 (fun S3 => ?_)
      exact j_vretP C E dX0_close_22
theorem c_X0_close {l : Launch} {D : va_G} {cy : Nat → ClassId} {Λ : sLay} {S : sSt} (p0 : Option Nat) (tp0 : okK Λ 5 p0) {r : sSt} (h : F_X0_close Λ.2.2 S p0 = some r) : jM l yX0_close (Cond.code yX0_close cX0_close 1 none :: bigW) rm_X0_close D cy Λ S [vR p0] rV ((), r) := jM_of (by decide +kernel) (Nat.le_of_ble_eq_true rfl) (fun X C E _ _ _ => j_sub [0] rfl (jF_X0_close C E p0 tp0)) h
/-! RemakeNeeds2.Constants.enter(LRemakeNeeds2$Thing;)V -/
abbrev rm_X0_enter : Room := { frames := 0, cells := 0, slots := 0, locals := 0 }
def F_X0_enter (N : Nat → Nat) (S : sSt) (p0 : Nat) (p1 : Option Nat) : Option sSt := (if (gFI S 1 p0) < 0 then some S else bnd (gFR S 0 p0) (fun x1 => Option.bind x1 (fun a2 => (if (nI (N a2)) ≤ (gFI S 1 p0) then some S else Option.bind p1 (fun a3 => bnd (sFI S 205 a3 (1 : Int32)) (fun S4 => bnd (sFI S4 209 a3 (0 : Int32)) (fun S5 => bnd (gFR S5 0 p0) (fun x6 => Option.bind x6 (fun a7 => gi (gFI S5 1 p0) (N a7) (bnd (sAR S5 a7 (Int32.toNatClampNeg (gFI S5 1 p0)) (some a3)) (fun S8 => bnd (sFI S8 1 p0 ((gFI S8 1 p0) + (1 : Int32))) (fun S9 => some S9))))))))))))
set_option maxHeartbeats 4000000 in
theorem jF_X0_enter {X : jX} (C : jC X cX0_enter 2 RX0 rm_X0_enter) {Λ : sLay} {S : sSt} {r : sSt} (E : jE X none rV Λ ((), r)) (p0 : Nat) (tp0 : isK Λ 0 p0) (p1 : Option Nat) (tp1 : okK Λ 5 p1) : J X 2 0 0 0 [(0, vR (some p0)), (1, vR p1)] [] Λ S (F_X0_enter Λ.2.2 S p0 p1 = some r) := by
  unfold F_X0_enter
  refine j_aload_n C dX0_enter_0 0 rfl ?_
  refine j_getI C kK0 f1 kfX0_17 (by decide) tp0 dX0_enter_1 ?_
  refine j_if_lt C (tgt := 49) dX0_enter_4 (by decide) ?_ ?_
  · exact j_vretP C E dX0_enter_49
  · refine j_aload_n C dX0_enter_7 0 rfl ?_
    refine j_getI C kK0 f1 kfX0_17 (by decide) tp0 dX0_enter_8 ?_
    refine j_aload_n C dX0_enter_11 0 rfl ?_
    refine j_getR C kK0 f0 kfX0_11 (by decide) rfl tp0 dX0_enter_12 (fun x1 tx1 => ?_)
    refine j_oc tx1 (fun a2 ta2 ea2 => ?_)
    subst ea2
    refine j_alen C ta2 (by decide) dX0_enter_15 ?_
    refine j_icmp_ge C (tgt := 49) dX0_enter_16 (by decide) ?_ ?_
    · exact j_vretP C E dX0_enter_49
    · refine j_aload_n C dX0_enter_19 1 rfl ?_
      refine j_iconst C (v := (1 : Int32)) dX0_enter_20 (by decide) ?_
      refine j_oc tp1 (fun a3 ta3 ea3 => ?_)
      subst ea3
      refine j_putI C kK5 f205 kfX0_57 (by decide) rfl rfl rfl ta3 dX0_enter_21 (fun S4 => ?_)
      refine j_aload_n C dX0_enter_24 1 rfl ?_
      refine j_iconst C (v := (0 : Int32)) dX0_enter_25 (by decide) ?_
      refine j_putI C kK5 f209 kfX0_83 (by decide) rfl rfl rfl ta3 dX0_enter_26 (fun S5 => ?_)
      refine j_aload_n C dX0_enter_29 0 rfl ?_
      refine j_getR C kK0 f0 kfX0_11 (by decide) rfl tp0 dX0_enter_30 (fun x6 tx6 => ?_)
      refine j_aload_n C dX0_enter_33 0 rfl ?_
      refine j_getI C kK0 f1 kfX0_17 (by decide) tp0 dX0_enter_34 ?_
      refine j_aload_n C dX0_enter_37 1 rfl ?_
      refine j_oc tx6 (fun a7 ta7 ea7 => ?_)
      subst ea7
      refine j_aast C 13 ta7 (by decide) rfl ta3 dX0_enter_38 (fun S8 => ?_)
      refine j_aload_n C dX0_enter_39 0 rfl ?_
      refine j_dup C dX0_enter_40 rfl ?_
      refine j_getI C kK0 f1 kfX0_17 (by decide) tp0 dX0_enter_41 ?_
      refine j_iconst C (v := (1 : Int32)) dX0_enter_44 (by decide) ?_
      refine j_iadd C dX0_enter_45 ?_
      refine j_putI C kK0 f1 kfX0_17 (by decide) rfl rfl rfl tp0 dX0_enter_46 (fun S9 => ?_)
      exact j_vretP C E dX0_enter_49
theorem c_X0_enter {l : Launch} {D : va_G} {cy : Nat → ClassId} {Λ : sLay} {S : sSt} (p0 : Nat) (tp0 : isK Λ 0 p0) (p1 : Option Nat) (tp1 : okK Λ 5 p1) {r : sSt} (h : F_X0_enter Λ.2.2 S p0 p1 = some r) : jM l yX0_enter (Cond.code yX0_enter cX0_enter 2 none :: bigW) rm_X0_enter D cy Λ S [vR (some p0), vR p1] rV ((), r) := jM_of (by decide +kernel) (Nat.le_of_ble_eq_true rfl) (fun X C E _ _ _ => j_sub [0, 1] rfl (jF_X0_enter C E p0 tp0 p1 tp1)) h
/-! RemakeNeeds2.Units.at(I)LRemakeNeeds2$Unit; -/
abbrev rm_X7_at : Room := { frames := 0, cells := 0, slots := 0, locals := 0 }
def F_X7_at (N : Nat → Nat) (S : sSt) (p0 : Nat) (p1 : Int32) : Option (Option Nat) := (if p1 < 0 then some none else (if (gFI S 281 p0) ≤ p1 then some none else bnd (gFR S 280 p0) (fun x1 => Option.bind x1 (fun a2 => (if p1 < (nI (N a2)) then bnd (gFR S 280 p0) (fun x3 => Option.bind x3 (fun a4 => gi p1 (N a4) (bnd (gAR S a4 (Int32.toNatClampNeg p1)) (fun x5 => onl x5 (some none) (fun a6 => (if (gFI S 247 a6) = 0 then some none else some (some a6))))))) else some none)))))
set_option maxHeartbeats 4000000 in
theorem jF_X7_at {X : jX} (C : jC X cX7_at 3 RX7 rm_X7_at) {Λ : sLay} {S : sSt} {r : (Option Nat)} (E : jE X (some (.object "RemakeNeeds2$Unit")) (rR 6) Λ (r, S)) (p0 : Nat) (tp0 : isK Λ 7 p0) (p1 : Int32) : J X 3 0 0 0 [(0, vR (some p0)), (1, vI p1)] [] Λ S (F_X7_at Λ.2.2 S p0 p1 = some r) := by
  unfold F_X7_at
  refine j_iload_n C dX7_at_0 1 rfl ?_
  refine j_if_lt C (tgt := 21) dX7_at_1 (by decide) ?_ ?_
  · refine j_null C dX7_at_21 ?_
    exact j_aretP C E okN dX7_at_22
  · refine j_iload_n C dX7_at_4 1 rfl ?_
    refine j_aload_n C dX7_at_5 0 rfl ?_
    refine j_getI C kK7 f281 kfX7_17 (by decide) tp0 dX7_at_6 ?_
    refine j_icmp_ge C (tgt := 21) dX7_at_9 (by decide) ?_ ?_
    · refine j_null C dX7_at_21 ?_
      exact j_aretP C E okN dX7_at_22
    · refine j_iload_n C dX7_at_12 1 rfl ?_
      refine j_aload_n C dX7_at_13 0 rfl ?_
      refine j_getR C kK7 f280 kfX7_11 (by decide) rfl tp0 dX7_at_14 (fun x1 tx1 => ?_)
      refine j_oc tx1 (fun a2 ta2 ea2 => ?_)
      subst ea2
      refine j_alen C ta2 (by decide) dX7_at_17 ?_
      refine j_icmp_lt C (tgt := 23) dX7_at_18 (by decide) ?_ ?_
      · refine j_aload_n C dX7_at_23 0 rfl ?_
        refine j_getR C kK7 f280 kfX7_11 (by decide) rfl tp0 dX7_at_24 (fun x3 tx3 => ?_)
        refine j_iload_n C dX7_at_27 1 rfl ?_
        refine j_oc tx3 (fun a4 ta4 ea4 => ?_)
        subst ea4
        refine j_aald C ta4 (by decide) rfl dX7_at_28 (fun x5 tx5 => ?_)
        refine j_astore_n C (L' := [(2, vR x5), (0, vR (some p0)), (1, vI p1)]) dX7_at_29 (by decide) rfl ?_
        refine j_aload_n C dX7_at_30 0 rfl ?_
        refine j_ifnull C (tgt := 45) tx5 dX7_at_31 (by decide) (fun ea6 => ?_) (fun a6 ta6 ea6 => ?_)
        · subst ea6
          refine j_null C dX7_at_45 ?_
          exact j_aretP C E okN dX7_at_46
        · subst ea6
          refine j_aload_n C dX7_at_34 0 rfl ?_
          refine j_getI C kK6 f247 kfX7_21 (by decide) ta6 dX7_at_35 ?_
          refine j_if_eq C (tgt := 45) dX7_at_38 (by decide) ?_ ?_
          · refine j_null C dX7_at_45 ?_
            exact j_aretP C E okN dX7_at_46
          · refine j_aload_n C dX7_at_41 0 rfl ?_
            refine j_goto C (tgt := 46) dX7_at_42 (by decide) ?_
            exact j_aretP C E (okS ta6) dX7_at_46
      · refine j_null C dX7_at_21 ?_
        exact j_aretP C E okN dX7_at_22
theorem c_X7_at {l : Launch} {D : va_G} {cy : Nat → ClassId} {Λ : sLay} {S : sSt} (p0 : Nat) (tp0 : isK Λ 7 p0) (p1 : Int32) {r : Option Nat} (h : F_X7_at Λ.2.2 S p0 p1 = some r) : jM l yX7_at (Cond.code yX7_at cX7_at 3 (some (.object "RemakeNeeds2$Unit")) :: bigW) rm_X7_at D cy Λ S [vR (some p0), vI p1] (rR 6) (r, S) := jM_of (by decide +kernel) (Nat.le_of_ble_eq_true rfl) (fun X C E _ _ _ => j_sub [0, 1] rfl (jF_X7_at C E p0 tp0 p1)) h
/-! RemakeNeeds2.Unit.thingCount()I -/
abbrev rm_X6_thingCount : Room := { frames := 0, cells := 0, slots := 0, locals := 0 }
def F_X6_thingCount (N : Nat → Nat) (S : sSt) (p0 : Nat) : Option Int32 := some (gFI S 245 p0)
set_option maxHeartbeats 4000000 in
theorem jF_X6_thingCount {X : jX} (C : jC X cX6_thingCount 1 RX6 rm_X6_thingCount) {Λ : sLay} {S : sSt} {r : Int32} (E : jE X (some .int) rI Λ (r, S)) (p0 : Nat) (tp0 : isK Λ 6 p0) : J X 1 0 0 0 [(0, vR (some p0))] [] Λ S (F_X6_thingCount Λ.2.2 S p0 = some r) := by
  unfold F_X6_thingCount
  refine j_aload_n C dX6_thingCount_0 0 rfl ?_
  refine j_getI C kK6 f245 kfX6_57 (by decide) tp0 dX6_thingCount_1 ?_
  exact j_iretP C E dX6_thingCount_4
theorem c_X6_thingCount {l : Launch} {D : va_G} {cy : Nat → ClassId} {Λ : sLay} {S : sSt} (p0 : Nat) (tp0 : isK Λ 6 p0) {r : Int32} (h : F_X6_thingCount Λ.2.2 S p0 = some r) : jM l yX6_thingCount (Cond.code yX6_thingCount cX6_thingCount 1 (some .int) :: bigW) rm_X6_thingCount D cy Λ S [vR (some p0)] rI (r, S) := jM_of (by decide +kernel) (Nat.le_of_ble_eq_true rfl) (fun X C E _ _ _ => j_sub [0] rfl (jF_X6_thingCount C E p0 tp0)) h
/-! RemakeNeeds2.Unit.thingAt(I)LRemakeNeeds2$Thing; -/
abbrev rm_X6_thingAt : Room := { frames := 0, cells := 0, slots := 0, locals := 0 }
def F_X6_thingAt (N : Nat → Nat) (S : sSt) (p0 : Nat) (p1 : Int32) : Option (Option Nat) := (if p1 < 0 then some none else (if (gFI S 245 p0) ≤ p1 then some none else bnd (gFR S 244 p0) (fun x1 => Option.bind x1 (fun a2 => (if (nI (N a2)) ≤ p1 then some none else bnd (gFR S 244 p0) (fun x3 => Option.bind x3 (fun a4 => gi p1 (N a4) (bnd (gAR S a4 (Int32.toNatClampNeg p1)) (fun x5 => some x5)))))))))
set_option maxHeartbeats 4000000 in
theorem jF_X6_thingAt {X : jX} (C : jC X cX6_thingAt 2 RX6 rm_X6_thingAt) {Λ : sLay} {S : sSt} {r : (Option Nat)} (E : jE X (some (.object "RemakeNeeds2$Thing")) (rR 5) Λ (r, S)) (p0 : Nat) (tp0 : isK Λ 6 p0) (p1 : Int32) : J X 2 0 0 0 [(0, vR (some p0)), (1, vI p1)] [] Λ S (F_X6_thingAt Λ.2.2 S p0 p1 = some r) := by
  unfold F_X6_thingAt
  refine j_iload_n C dX6_thingAt_0 1 rfl ?_
  refine j_if_lt C (tgt := 30) dX6_thingAt_1 (by decide) ?_ ?_
  · refine j_null C dX6_thingAt_30 ?_
    exact j_aretP C E okN dX6_thingAt_31
  · refine j_iload_n C dX6_thingAt_4 1 rfl ?_
    refine j_aload_n C dX6_thingAt_5 0 rfl ?_
    refine j_getI C kK6 f245 kfX6_57 (by decide) tp0 dX6_thingAt_6 ?_
    refine j_icmp_ge C (tgt := 30) dX6_thingAt_9 (by decide) ?_ ?_
    · refine j_null C dX6_thingAt_30 ?_
      exact j_aretP C E okN dX6_thingAt_31
    · refine j_iload_n C dX6_thingAt_12 1 rfl ?_
      refine j_aload_n C dX6_thingAt_13 0 rfl ?_
      refine j_getR C kK6 f244 kfX6_36 (by decide) rfl tp0 dX6_thingAt_14 (fun x1 tx1 => ?_)
      refine j_oc tx1 (fun a2 ta2 ea2 => ?_)
      subst ea2
      refine j_alen C ta2 (by decide) dX6_thingAt_17 ?_
      refine j_icmp_ge C (tgt := 30) dX6_thingAt_18 (by decide) ?_ ?_
      · refine j_null C dX6_thingAt_30 ?_
        exact j_aretP C E okN dX6_thingAt_31
      · refine j_aload_n C dX6_thingAt_21 0 rfl ?_
        refine j_getR C kK6 f244 kfX6_36 (by decide) rfl tp0 dX6_thingAt_22 (fun x3 tx3 => ?_)
        refine j_iload_n C dX6_thingAt_25 1 rfl ?_
        refine j_oc tx3 (fun a4 ta4 ea4 => ?_)
        subst ea4
        refine j_aald C ta4 (by decide) rfl dX6_thingAt_26 (fun x5 tx5 => ?_)
        refine j_goto C (tgt := 31) dX6_thingAt_27 (by decide) ?_
        exact j_aretP C E tx5 dX6_thingAt_31
theorem c_X6_thingAt {l : Launch} {D : va_G} {cy : Nat → ClassId} {Λ : sLay} {S : sSt} (p0 : Nat) (tp0 : isK Λ 6 p0) (p1 : Int32) {r : Option Nat} (h : F_X6_thingAt Λ.2.2 S p0 p1 = some r) : jM l yX6_thingAt (Cond.code yX6_thingAt cX6_thingAt 2 (some (.object "RemakeNeeds2$Thing")) :: bigW) rm_X6_thingAt D cy Λ S [vR (some p0), vI p1] (rR 5) (r, S) := jM_of (by decide +kernel) (Nat.le_of_ble_eq_true rfl) (fun X C E _ _ _ => j_sub [0, 1] rfl (jF_X6_thingAt C E p0 tp0 p1)) h
/-! RemakeNeeds2.Constants.refresh(LRemakeNeeds2$Units;)V -/
abbrev rm_X0_refresh : Room := { frames := 1, cells := 0, slots := 0, locals := 22 }
def B_X0_refresh_76 (N : Nat → Nat) (k2 : sSt → (Option Nat) → Int32 → Option sSt) (S : sSt) (p0 : Nat) (p1 : Int32) : Option sSt := k2 S (some p0) (p1 + (1 : Int32))
set_option maxHeartbeats 4000000 in
theorem jB_X0_refresh_76 {X : jX} (C : jC X cX0_refresh 5 RX0 rm_X0_refresh) {Λ : sLay} {r : sSt} (E : jE X none rV Λ ((), r)) (k2 : sSt → (Option Nat) → Int32 → Option sSt) (hk2 : ∀ (S : sSt) (p0 : Option Nat) (tp0 : okK Λ 7 p0) (p1 : Int32), J X 5 0 0 2 [(0, vR p0), (1, vI p1)] [] Λ S (k2 S p0 p1 = some r)) : ∀ (S : sSt) (p0 : Nat) (tp0 : isK Λ 7 p0) (p1 : Int32), J X 5 0 0 76 [(0, vR (some p0)), (1, vI p1)] [] Λ S (B_X0_refresh_76 Λ.2.2 k2 S p0 p1 = some r) := by
  intro S p0 tp0 p1
  unfold B_X0_refresh_76
  refine j_iinc C (v := (1 : Int32)) (L' := [(1, vI (p1 + (1 : Int32))), (0, vR (some p0))]) dX0_refresh_76 1 rfl (by decide) (by decide) rfl ?_
  refine j_goto C (tgt := 2) dX0_refresh_79 (by decide) ?_
  refine j_sub (L' := [(0, vR (some p0)), (1, vI (p1 + (1 : Int32)))]) [1, 0] rfl ?_
  exact hk2 S (some p0) (okS tp0) (p1 + (1 : Int32))
def B_X0_refresh_70 (N : Nat → Nat) (k2 : sSt → (Option Nat) → Int32 → Option sSt) (k18 : sSt → Nat → Int32 → (Option Nat) → Int32 → Option sSt) (S : sSt) (p0 : Nat) (p1 : Int32) (p2 : Nat) (p3 : Int32) : Option sSt := k18 S p0 p1 (some p2) (p3 + (1 : Int32))
set_option maxHeartbeats 4000000 in
theorem jB_X0_refresh_70 {X : jX} (C : jC X cX0_refresh 5 RX0 rm_X0_refresh) {Λ : sLay} {r : sSt} (E : jE X none rV Λ ((), r)) (k2 : sSt → (Option Nat) → Int32 → Option sSt) (hk2 : ∀ (S : sSt) (p0 : Option Nat) (tp0 : okK Λ 7 p0) (p1 : Int32), J X 5 0 0 2 [(0, vR p0), (1, vI p1)] [] Λ S (k2 S p0 p1 = some r)) (k18 : sSt → Nat → Int32 → (Option Nat) → Int32 → Option sSt) (hk18 : ∀ (S : sSt) (p0 : Nat) (tp0 : isK Λ 7 p0) (p1 : Int32) (p2 : Option Nat) (tp2 : okK Λ 6 p2) (p3 : Int32), J X 5 0 0 18 [(0, vR (some p0)), (1, vI p1), (2, vR p2), (3, vI p3)] [] Λ S (k18 S p0 p1 p2 p3 = some r)) : ∀ (S : sSt) (p0 : Nat) (tp0 : isK Λ 7 p0) (p1 : Int32) (p2 : Nat) (tp2 : isK Λ 6 p2) (p3 : Int32), J X 5 0 0 70 [(0, vR (some p0)), (1, vI p1), (2, vR (some p2)), (3, vI p3)] [] Λ S (B_X0_refresh_70 Λ.2.2 k2 k18 S p0 p1 p2 p3 = some r) := by
  intro S p0 tp0 p1 p2 tp2 p3
  unfold B_X0_refresh_70
  refine j_iinc C (v := (1 : Int32)) (L' := [(3, vI (p3 + (1 : Int32))), (0, vR (some p0)), (1, vI p1), (2, vR (some p2))]) dX0_refresh_70 3 rfl (by decide) (by decide) rfl ?_
  refine j_goto C (tgt := 18) dX0_refresh_73 (by decide) ?_
  refine j_sub (L' := [(0, vR (some p0)), (1, vI p1), (2, vR (some p2)), (3, vI (p3 + (1 : Int32)))]) [1, 2, 3, 0] rfl ?_
  exact hk18 S p0 tp0 p1 (some p2) (okS tp2) (p3 + (1 : Int32))
def Y_X0_refresh_18 (N : Nat → Nat) (k2 : sSt → (Option Nat) → Int32 → Option sSt) (rec : sSt → Nat → Int32 → (Option Nat) → Int32 → Option sSt) (S : sSt) (p0 : Nat) (p1 : Int32) (p2 : Option Nat) (p3 : Int32) : Option sSt := onl p2 (B_X0_refresh_76 N k2 S p0 p1) (fun a4 => Option.bind (F_X6_thingCount N S a4) (fun v5 => (if v5 ≤ p3 then B_X0_refresh_76 N k2 S p0 p1 else Option.bind (F_X6_thingAt N S a4 p3) (fun v7 => onl v7 (B_X0_refresh_70 N k2 rec S p0 p1 a4 p3) (fun a9 => bnd (sFI S 205 a9 (0 : Int32)) (fun S10 => bnd (sFJ S10 206 a9 (gFJ S10 203 a9)) (fun S11 => bnd (sFI S11 207 a9 (0 : Int32)) (fun S12 => bnd (sFI S12 208 a9 (0 : Int32)) (fun S13 => B_X0_refresh_70 N k2 rec S13 p0 p1 a4 p3)))))))))
set_option maxHeartbeats 4000000 in
theorem jY_X0_refresh_18 {X : jX} (C : jC X cX0_refresh 5 RX0 rm_X0_refresh) {Λ : sLay} {r : sSt} (E : jE X none rV Λ ((), r)) (k2 : sSt → (Option Nat) → Int32 → Option sSt) (hk2 : ∀ (S : sSt) (p0 : Option Nat) (tp0 : okK Λ 7 p0) (p1 : Int32), J X 5 0 0 2 [(0, vR p0), (1, vI p1)] [] Λ S (k2 S p0 p1 = some r)) (rec : sSt → Nat → Int32 → (Option Nat) → Int32 → Option sSt) (hrec : ∀ (S : sSt) (p0 : Nat) (tp0 : isK Λ 7 p0) (p1 : Int32) (p2 : Option Nat) (tp2 : okK Λ 6 p2) (p3 : Int32), J X 5 0 0 18 [(0, vR (some p0)), (1, vI p1), (2, vR p2), (3, vI p3)] [] Λ S (rec S p0 p1 p2 p3 = some r)) : ∀ (S : sSt) (p0 : Nat) (tp0 : isK Λ 7 p0) (p1 : Int32) (p2 : Option Nat) (tp2 : okK Λ 6 p2) (p3 : Int32), J X 5 0 0 18 [(0, vR (some p0)), (1, vI p1), (2, vR p2), (3, vI p3)] [] Λ S (Y_X0_refresh_18 Λ.2.2 k2 rec S p0 p1 p2 p3 = some r) := by
  intro S p0 tp0 p1 p2 tp2 p3
  unfold Y_X0_refresh_18
  refine j_aload_n C dX0_refresh_18 2 rfl ?_
  refine j_ifnull C (tgt := 76) tp2 dX0_refresh_19 (by decide) (fun ea4 => ?_) (fun a4 ta4 ea4 => ?_)
  · subst ea4
    refine j_sub (L' := [(0, vR (some p0)), (1, vI p1)]) [0, 1] rfl ?_
    exact jB_X0_refresh_76 C E k2 hk2 S p0 tp0 p1
  · subst ea4
    refine j_iload_n C dX0_refresh_22 3 rfl ?_
    refine j_aload_n C dX0_refresh_23 2 rfl ?_
    refine j_cVIP C [] [vI p3] (fun _ e => c_X6_thingCount a4 ta4 e) kYX6_thingCount kVX6_thingCount kmX0_40 kO6 ta4 rfl rfl ⟨rfl, rfl, by decide, by decide⟩ (Nat.le_of_ble_eq_true rfl) ⟨Nat.zero_le _, Nat.zero_le _⟩ dX0_refresh_24 (fun v5 => ?_)
    refine j_icmp_ge C (tgt := 76) dX0_refresh_27 (by decide) ?_ ?_
    · refine j_sub (L' := [(0, vR (some p0)), (1, vI p1)]) [0, 1] rfl ?_
      exact jB_X0_refresh_76 C E k2 hk2 S p0 tp0 p1
    · refine j_aload_n C dX0_refresh_30 2 rfl ?_
      refine j_iload_n C dX0_refresh_31 3 rfl ?_
      refine j_cVRP C [vI p3] [] (fun _ e => c_X6_thingAt a4 ta4 p3 e) kYX6_thingAt kVX6_thingAt kmX0_46 kO6 ta4 rfl rfl ⟨rfl, rfl, by decide, by decide⟩ (Nat.le_of_ble_eq_true rfl) ⟨Nat.zero_le _, Nat.zero_le _⟩ dX0_refresh_32 (fun v7 tv7 => ?_)
      refine j_astore C (L' := [(4, vR v7), (0, vR (some p0)), (1, vI p1), (2, vR (some a4)), (3, vI p3)]) dX0_refresh_35 (by decide) rfl ?_
      refine j_aload C dX0_refresh_37 0 rfl ?_
      refine j_ifnull C (tgt := 70) tv7 dX0_refresh_39 (by decide) (fun ea9 => ?_) (fun a9 ta9 ea9 => ?_)
      · subst ea9
        refine j_sub (L' := [(0, vR (some p0)), (1, vI p1), (2, vR (some a4)), (3, vI p3)]) [1, 2, 3, 4] rfl ?_
        exact jB_X0_refresh_70 C E k2 hk2 rec hrec S p0 tp0 p1 a4 ta4 p3
      · subst ea9
        refine j_aload C dX0_refresh_42 0 rfl ?_
        refine j_iconst C (v := (0 : Int32)) dX0_refresh_44 (by decide) ?_
        refine j_putI C kK5 f205 kfX0_57 (by decide) rfl rfl rfl ta9 dX0_refresh_45 (fun S10 => ?_)
        refine j_aload C dX0_refresh_48 0 rfl ?_
        refine j_aload C dX0_refresh_50 0 rfl ?_
        refine j_getJ C kK5 f203 kfX0_64 (by decide) ta9 dX0_refresh_52 ?_
        refine j_putJ C kK5 f206 kfX0_68 (by decide) rfl rfl rfl ta9 dX0_refresh_55 (fun S11 => ?_)
        refine j_aload C dX0_refresh_58 0 rfl ?_
        refine j_iconst C (v := (0 : Int32)) dX0_refresh_60 (by decide) ?_
        refine j_putI C kK5 f207 kfX0_71 (by decide) rfl rfl rfl ta9 dX0_refresh_61 (fun S12 => ?_)
        refine j_aload C dX0_refresh_64 0 rfl ?_
        refine j_iconst C (v := (0 : Int32)) dX0_refresh_66 (by decide) ?_
        refine j_putI C kK5 f208 kfX0_75 (by decide) rfl rfl rfl ta9 dX0_refresh_67 (fun S13 => ?_)
        refine j_sub (L' := [(0, vR (some p0)), (1, vI p1), (2, vR (some a4)), (3, vI p3)]) [1, 2, 3, 4] rfl ?_
        exact jB_X0_refresh_70 C E k2 hk2 rec hrec S13 p0 tp0 p1 a4 ta4 p3
def L_X0_refresh_18 (N : Nat → Nat) (k2 : sSt → (Option Nat) → Int32 → Option sSt) (n : Nat) : sSt → Nat → Int32 → (Option Nat) → Int32 → Option sSt := iter (fun _ _ _ _ _ => none) (Y_X0_refresh_18 N k2) n
theorem jL_X0_refresh_18 {X : jX} (C : jC X cX0_refresh 5 RX0 rm_X0_refresh) {Λ : sLay} {r : sSt} (E : jE X none rV Λ ((), r)) (k2 : sSt → (Option Nat) → Int32 → Option sSt) (hk2 : ∀ (S : sSt) (p0 : Option Nat) (tp0 : okK Λ 7 p0) (p1 : Int32), J X 5 0 0 2 [(0, vR p0), (1, vI p1)] [] Λ S (k2 S p0 p1 = some r)) : ∀ (n : Nat) (S : sSt) (p0 : Nat) (tp0 : isK Λ 7 p0) (p1 : Int32) (p2 : Option Nat) (tp2 : okK Λ 6 p2) (p3 : Int32), J X 5 0 0 18 [(0, vR (some p0)), (1, vI p1), (2, vR p2), (3, vI p3)] [] Λ S (L_X0_refresh_18 Λ.2.2 k2 n S p0 p1 p2 p3 = some r) := by
  intro n
  induction n with
  | zero => intro S p0 tp0 p1 p2 tp2 p3; exact j_no (fun h => by have h2 : (none : Option sSt) = some r := h; cases h2)
  | succ n ih => intro S p0 tp0 p1 p2 tp2 p3; exact jY_X0_refresh_18 C E k2 hk2 (L_X0_refresh_18 Λ.2.2 k2 n) ih S p0 tp0 p1 p2 tp2 p3
def Y_X0_refresh_2 (N : Nat → Nat) (rec : sSt → (Option Nat) → Int32 → Option sSt) (S : sSt) (p0 : Option Nat) (p1 : Int32) : Option sSt := Option.bind p0 (fun a1 => (if (gFI S 281 a1) ≤ p1 then some S else Option.bind (F_X7_at N S a1 p1) (fun v2 => L_X0_refresh_18 N rec FU S a1 p1 v2 (0 : Int32))))
set_option maxHeartbeats 4000000 in
theorem jY_X0_refresh_2 {X : jX} (C : jC X cX0_refresh 5 RX0 rm_X0_refresh) {Λ : sLay} {r : sSt} (E : jE X none rV Λ ((), r)) (rec : sSt → (Option Nat) → Int32 → Option sSt) (hrec : ∀ (S : sSt) (p0 : Option Nat) (tp0 : okK Λ 7 p0) (p1 : Int32), J X 5 0 0 2 [(0, vR p0), (1, vI p1)] [] Λ S (rec S p0 p1 = some r)) : ∀ (S : sSt) (p0 : Option Nat) (tp0 : okK Λ 7 p0) (p1 : Int32), J X 5 0 0 2 [(0, vR p0), (1, vI p1)] [] Λ S (Y_X0_refresh_2 Λ.2.2 rec S p0 p1 = some r) := by
  intro S p0 tp0 p1
  unfold Y_X0_refresh_2
  refine j_iload_n C dX0_refresh_2 1 rfl ?_
  refine j_aload_n C dX0_refresh_3 0 rfl ?_
  refine j_oc tp0 (fun a1 ta1 ea1 => ?_)
  subst ea1
  refine j_getI C kK7 f281 kfX0_31 (by decide) ta1 dX0_refresh_4 ?_
  refine j_icmp_ge C (tgt := 82) dX0_refresh_7 (by decide) ?_ ?_
  · exact j_vretP C E dX0_refresh_82
  · refine j_aload_n C dX0_refresh_10 0 rfl ?_
    refine j_iload_n C dX0_refresh_11 1 rfl ?_
    refine j_cVRP C [vI p1] [] (fun _ e => c_X7_at a1 ta1 p1 e) kYX7_at kVX7_at kmX0_36 kO7 ta1 rfl rfl ⟨rfl, rfl, by decide, by decide⟩ (Nat.le_of_ble_eq_true rfl) ⟨Nat.zero_le _, Nat.zero_le _⟩ dX0_refresh_12 (fun v2 tv2 => ?_)
    refine j_astore_n C (L' := [(2, vR v2), (0, vR (some a1)), (1, vI p1)]) dX0_refresh_15 (by decide) rfl ?_
    refine j_iconst C (v := (0 : Int32)) dX0_refresh_16 (by decide) ?_
    refine j_istore_n C (L' := [(3, vI (0 : Int32)), (2, vR v2), (0, vR (some a1)), (1, vI p1)]) dX0_refresh_17 (by decide) rfl ?_
    refine j_sub (L' := [(0, vR (some a1)), (1, vI p1), (2, vR v2), (3, vI (0 : Int32))]) [2, 3, 1, 0] rfl ?_
    exact jL_X0_refresh_18 C E rec hrec FU S a1 ta1 p1 v2 tv2 (0 : Int32)
def L_X0_refresh_2 (N : Nat → Nat) (n : Nat) : sSt → (Option Nat) → Int32 → Option sSt := iter (fun _ _ _ => none) (Y_X0_refresh_2 N) n
theorem jL_X0_refresh_2 {X : jX} (C : jC X cX0_refresh 5 RX0 rm_X0_refresh) {Λ : sLay} {r : sSt} (E : jE X none rV Λ ((), r)) : ∀ (n : Nat) (S : sSt) (p0 : Option Nat) (tp0 : okK Λ 7 p0) (p1 : Int32), J X 5 0 0 2 [(0, vR p0), (1, vI p1)] [] Λ S (L_X0_refresh_2 Λ.2.2 n S p0 p1 = some r) := by
  intro n
  induction n with
  | zero => intro S p0 tp0 p1; exact j_no (fun h => by have h2 : (none : Option sSt) = some r := h; cases h2)
  | succ n ih => intro S p0 tp0 p1; exact jY_X0_refresh_2 C E (L_X0_refresh_2 Λ.2.2 n) ih S p0 tp0 p1
def F_X0_refresh (N : Nat → Nat) (S : sSt) (p0 : Option Nat) : Option sSt := L_X0_refresh_2 N FU S p0 (0 : Int32)
set_option maxHeartbeats 4000000 in
theorem jF_X0_refresh {X : jX} (C : jC X cX0_refresh 5 RX0 rm_X0_refresh) {Λ : sLay} {S : sSt} {r : sSt} (E : jE X none rV Λ ((), r)) (p0 : Option Nat) (tp0 : okK Λ 7 p0) : J X 5 0 0 0 [(0, vR p0)] [] Λ S (F_X0_refresh Λ.2.2 S p0 = some r) := by
  unfold F_X0_refresh
  refine j_iconst C (v := (0 : Int32)) dX0_refresh_0 (by decide) ?_
  refine j_istore_n C (L' := [(1, vI (0 : Int32)), (0, vR p0)]) dX0_refresh_1 (by decide) rfl ?_
  refine j_sub (L' := [(0, vR p0), (1, vI (0 : Int32))]) [1, 0] rfl ?_
  exact jL_X0_refresh_2 C E FU S p0 tp0 (0 : Int32)
theorem c_X0_refresh {l : Launch} {D : va_G} {cy : Nat → ClassId} {Λ : sLay} {S : sSt} (p0 : Option Nat) (tp0 : okK Λ 7 p0) {r : sSt} (h : F_X0_refresh Λ.2.2 S p0 = some r) : jM l yX0_refresh (Cond.code yX0_refresh cX0_refresh 5 none :: bigW) rm_X0_refresh D cy Λ S [vR p0] rV ((), r) := jM_of (by decide +kernel) (Nat.le_of_ble_eq_true rfl) (fun X C E _ _ _ => j_sub [0] rfl (jF_X0_refresh C E p0 tp0)) h
/-! RemakeNeeds2.Ints.length()I -/
abbrev rm_X1_length : Room := { frames := 0, cells := 0, slots := 0, locals := 0 }
def F_X1_length (N : Nat → Nat) (S : sSt) (p0 : Nat) : Option Int32 := some (gFI S 41 p0)
set_option maxHeartbeats 4000000 in
theorem jF_X1_length {X : jX} (C : jC X cX1_length 1 RX1 rm_X1_length) {Λ : sLay} {S : sSt} {r : Int32} (E : jE X (some .int) rI Λ (r, S)) (p0 : Nat) (tp0 : isK Λ 1 p0) : J X 1 0 0 0 [(0, vR (some p0))] [] Λ S (F_X1_length Λ.2.2 S p0 = some r) := by
  unfold F_X1_length
  refine j_aload_n C dX1_length_0 0 rfl ?_
  refine j_getI C kK1 f41 kfX1_21 (by decide) tp0 dX1_length_1 ?_
  exact j_iretP C E dX1_length_4
theorem c_X1_length {l : Launch} {D : va_G} {cy : Nat → ClassId} {Λ : sLay} {S : sSt} (p0 : Nat) (tp0 : isK Λ 1 p0) {r : Int32} (h : F_X1_length Λ.2.2 S p0 = some r) : jM l yX1_length (Cond.code yX1_length cX1_length 1 (some .int) :: bigW) rm_X1_length D cy Λ S [vR (some p0)] rI (r, S) := jM_of (by decide +kernel) (Nat.le_of_ble_eq_true rfl) (fun X C E _ _ _ => j_sub [0] rfl (jF_X1_length C E p0 tp0)) h
/-! RemakeNeeds2.Ints.at(I)I -/
abbrev rm_X1_at : Room := { frames := 0, cells := 0, slots := 0, locals := 0 }
def F_X1_at (N : Nat → Nat) (S : sSt) (p0 : Nat) (p1 : Int32) : Option Int32 := (if p1 < 0 then some (-5 : Int32) else (if (gFI S 41 p0) ≤ p1 then some (-5 : Int32) else bnd (gFR S 40 p0) (fun x1 => Option.bind x1 (fun a2 => (if (nI (N a2)) ≤ p1 then some (-5 : Int32) else bnd (gFR S 40 p0) (fun x3 => Option.bind x3 (fun a4 => gi p1 (N a4) (some (gAI S a4 (Int32.toNatClampNeg p1))))))))))
set_option maxHeartbeats 4000000 in
theorem jF_X1_at {X : jX} (C : jC X cX1_at 2 RX1 rm_X1_at) {Λ : sLay} {S : sSt} {r : Int32} (E : jE X (some .int) rI Λ (r, S)) (p0 : Nat) (tp0 : isK Λ 1 p0) (p1 : Int32) : J X 2 0 0 0 [(0, vR (some p0)), (1, vI p1)] [] Λ S (F_X1_at Λ.2.2 S p0 p1 = some r) := by
  unfold F_X1_at
  refine j_iload_n C dX1_at_0 1 rfl ?_
  refine j_if_lt C (tgt := 30) dX1_at_1 (by decide) ?_ ?_
  · refine j_bipush C (v := (-5 : Int32)) dX1_at_30 (by decide) ?_
    exact j_iretP C E dX1_at_32
  · refine j_iload_n C dX1_at_4 1 rfl ?_
    refine j_aload_n C dX1_at_5 0 rfl ?_
    refine j_getI C kK1 f41 kfX1_21 (by decide) tp0 dX1_at_6 ?_
    refine j_icmp_ge C (tgt := 30) dX1_at_9 (by decide) ?_ ?_
    · refine j_bipush C (v := (-5 : Int32)) dX1_at_30 (by decide) ?_
      exact j_iretP C E dX1_at_32
    · refine j_iload_n C dX1_at_12 1 rfl ?_
      refine j_aload_n C dX1_at_13 0 rfl ?_
      refine j_getR C kK1 f40 kfX1_15 (by decide) rfl tp0 dX1_at_14 (fun x1 tx1 => ?_)
      refine j_oc tx1 (fun a2 ta2 ea2 => ?_)
      subst ea2
      refine j_alen C ta2 (by decide) dX1_at_17 ?_
      refine j_icmp_ge C (tgt := 30) dX1_at_18 (by decide) ?_ ?_
      · refine j_bipush C (v := (-5 : Int32)) dX1_at_30 (by decide) ?_
        exact j_iretP C E dX1_at_32
      · refine j_aload_n C dX1_at_21 0 rfl ?_
        refine j_getR C kK1 f40 kfX1_15 (by decide) rfl tp0 dX1_at_22 (fun x3 tx3 => ?_)
        refine j_iload_n C dX1_at_25 1 rfl ?_
        refine j_oc tx3 (fun a4 ta4 ea4 => ?_)
        subst ea4
        refine j_iald C ta4 dX1_at_26 ?_
        refine j_goto C (tgt := 32) dX1_at_27 (by decide) ?_
        exact j_iretP C E dX1_at_32
theorem c_X1_at {l : Launch} {D : va_G} {cy : Nat → ClassId} {Λ : sLay} {S : sSt} (p0 : Nat) (tp0 : isK Λ 1 p0) (p1 : Int32) {r : Int32} (h : F_X1_at Λ.2.2 S p0 p1 = some r) : jM l yX1_at (Cond.code yX1_at cX1_at 2 (some .int) :: bigW) rm_X1_at D cy Λ S [vR (some p0), vI p1] rI (r, S) := jM_of (by decide +kernel) (Nat.le_of_ble_eq_true rfl) (fun X C E _ _ _ => j_sub [0, 1] rfl (jF_X1_at C E p0 tp0 p1)) h
/-! RemakeNeeds2.keyOf(II)I -/
abbrev rm_X8_keyOf : Room := { frames := 0, cells := 0, slots := 0, locals := 0 }
def F_X8_keyOf (N : Nat → Nat) (S : sSt) (p0 : Int32) (p1 : Int32) : Option Int32 := some ((p0 * (32 : Int32)) + p1)
set_option maxHeartbeats 4000000 in
theorem jF_X8_keyOf {X : jX} (C : jC X cX8_keyOf 2 RX8 rm_X8_keyOf) {Λ : sLay} {S : sSt} {r : Int32} (E : jE X (some .int) rI Λ (r, S)) (p0 : Int32) (p1 : Int32) : J X 2 0 0 0 [(0, vI p0), (1, vI p1)] [] Λ S (F_X8_keyOf Λ.2.2 S p0 p1 = some r) := by
  unfold F_X8_keyOf
  refine j_iload_n C dX8_keyOf_0 0 rfl ?_
  refine j_bipush C (v := (32 : Int32)) dX8_keyOf_1 (by decide) ?_
  refine j_imul C dX8_keyOf_3 ?_
  refine j_iload_n C dX8_keyOf_4 1 rfl ?_
  refine j_iadd C dX8_keyOf_5 ?_
  exact j_iretP C E dX8_keyOf_6
theorem c_X8_keyOf {l : Launch} {D : va_G} {cy : Nat → ClassId} {Λ : sLay} {S : sSt} (p0 : Int32) (p1 : Int32) {r : Int32} (h : F_X8_keyOf Λ.2.2 S p0 p1 = some r) : jM l yX8_keyOf (Cond.code yX8_keyOf cX8_keyOf 2 (some .int) :: bigW) rm_X8_keyOf D cy Λ S [vI p0, vI p1] rI (r, S) := jM_of (by decide +kernel) (Nat.le_of_ble_eq_true rfl) (fun X C E _ _ _ => j_sub [0, 1] rfl (jF_X8_keyOf C E p0 p1)) h
/-! RemakeNeeds2.Unit.thingFor(I)LRemakeNeeds2$Thing; -/
abbrev rm_X6_thingFor : Room := { frames := 0, cells := 0, slots := 0, locals := 0 }
def B_X6_thingFor_48 (N : Nat → Nat) (S : sSt) (k2 : Nat → Int32 → Int32 → Option (Option Nat)) (p0 : Nat) (p1 : Int32) (p2 : Int32) : Option (Option Nat) := k2 p0 p1 (p2 + (1 : Int32))
set_option maxHeartbeats 4000000 in
theorem jB_X6_thingFor_48 {X : jX} (C : jC X cX6_thingFor 3 RX6 rm_X6_thingFor) {Λ : sLay} {S : sSt} {r : (Option Nat)} (E : jE X (some (.object "RemakeNeeds2$Thing")) (rR 5) Λ (r, S)) (k2 : Nat → Int32 → Int32 → Option (Option Nat)) (hk2 : ∀ (p0 : Nat) (tp0 : isK Λ 6 p0) (p1 : Int32) (p2 : Int32), J X 3 0 0 2 [(0, vR (some p0)), (1, vI p1), (2, vI p2)] [] Λ S (k2 p0 p1 p2 = some r)) : ∀ (p0 : Nat) (tp0 : isK Λ 6 p0) (p1 : Int32) (p2 : Int32), J X 3 0 0 48 [(0, vR (some p0)), (1, vI p1), (2, vI p2)] [] Λ S (B_X6_thingFor_48 Λ.2.2 S k2 p0 p1 p2 = some r) := by
  intro p0 tp0 p1 p2
  unfold B_X6_thingFor_48
  refine j_iinc C (v := (1 : Int32)) (L' := [(2, vI (p2 + (1 : Int32))), (0, vR (some p0)), (1, vI p1)]) dX6_thingFor_48 2 rfl (by decide) (by decide) rfl ?_
  refine j_goto C (tgt := 2) dX6_thingFor_51 (by decide) ?_
  refine j_sub (L' := [(0, vR (some p0)), (1, vI p1), (2, vI (p2 + (1 : Int32)))]) [1, 2, 0] rfl ?_
  exact hk2 p0 tp0 p1 (p2 + (1 : Int32))
def Y_X6_thingFor_2 (N : Nat → Nat) (S : sSt) (rec : Nat → Int32 → Int32 → Option (Option Nat)) (p0 : Nat) (p1 : Int32) (p2 : Int32) : Option (Option Nat) := (if (gFI S 245 p0) ≤ p2 then some none else bnd (gFR S 244 p0) (fun x1 => Option.bind x1 (fun a2 => (if (nI (N a2)) ≤ p2 then some none else bnd (gFR S 244 p0) (fun x3 => Option.bind x3 (fun a4 => gi p2 (N a4) (bnd (gAR S a4 (Int32.toNatClampNeg p2)) (fun x5 => onl x5 (B_X6_thingFor_48 N S rec p0 p1 p2) (fun a6 => bnd (gFR S 244 p0) (fun x7 => Option.bind x7 (fun a8 => gi p2 (N a8) (bnd (gAR S a8 (Int32.toNatClampNeg p2)) (fun x9 => Option.bind x9 (fun a10 => (if (gFI S 202 a10) = p1 then bnd (gFR S 244 p0) (fun x11 => Option.bind x11 (fun a12 => gi p2 (N a12) (bnd (gAR S a12 (Int32.toNatClampNeg p2)) (fun x13 => some x13)))) else B_X6_thingFor_48 N S rec p0 p1 p2)))))))))))))))
set_option maxHeartbeats 4000000 in
theorem jY_X6_thingFor_2 {X : jX} (C : jC X cX6_thingFor 3 RX6 rm_X6_thingFor) {Λ : sLay} {S : sSt} {r : (Option Nat)} (E : jE X (some (.object "RemakeNeeds2$Thing")) (rR 5) Λ (r, S)) (rec : Nat → Int32 → Int32 → Option (Option Nat)) (hrec : ∀ (p0 : Nat) (tp0 : isK Λ 6 p0) (p1 : Int32) (p2 : Int32), J X 3 0 0 2 [(0, vR (some p0)), (1, vI p1), (2, vI p2)] [] Λ S (rec p0 p1 p2 = some r)) : ∀ (p0 : Nat) (tp0 : isK Λ 6 p0) (p1 : Int32) (p2 : Int32), J X 3 0 0 2 [(0, vR (some p0)), (1, vI p1), (2, vI p2)] [] Λ S (Y_X6_thingFor_2 Λ.2.2 S rec p0 p1 p2 = some r) := by
  intro p0 tp0 p1 p2
  unfold Y_X6_thingFor_2
  refine j_iload_n C dX6_thingFor_2 2 rfl ?_
  refine j_aload_n C dX6_thingFor_3 0 rfl ?_
  refine j_getI C kK6 f245 kfX6_57 (by decide) tp0 dX6_thingFor_4 ?_
  refine j_icmp_ge C (tgt := 54) dX6_thingFor_7 (by decide) ?_ ?_
  · refine j_null C dX6_thingFor_54 ?_
    exact j_aretP C E okN dX6_thingFor_55
  · refine j_iload_n C dX6_thingFor_10 2 rfl ?_
    refine j_aload_n C dX6_thingFor_11 0 rfl ?_
    refine j_getR C kK6 f244 kfX6_36 (by decide) rfl tp0 dX6_thingFor_12 (fun x1 tx1 => ?_)
    refine j_oc tx1 (fun a2 ta2 ea2 => ?_)
    subst ea2
    refine j_alen C ta2 (by decide) dX6_thingFor_15 ?_
    refine j_icmp_ge C (tgt := 54) dX6_thingFor_16 (by decide) ?_ ?_
    · refine j_null C dX6_thingFor_54 ?_
      exact j_aretP C E okN dX6_thingFor_55
    · refine j_aload_n C dX6_thingFor_19 0 rfl ?_
      refine j_getR C kK6 f244 kfX6_36 (by decide) rfl tp0 dX6_thingFor_20 (fun x3 tx3 => ?_)
      refine j_iload_n C dX6_thingFor_23 2 rfl ?_
      refine j_oc tx3 (fun a4 ta4 ea4 => ?_)
      subst ea4
      refine j_aald C ta4 (by decide) rfl dX6_thingFor_24 (fun x5 tx5 => ?_)
      refine j_ifnull C (tgt := 48) tx5 dX6_thingFor_25 (by decide) (fun ea6 => ?_) (fun a6 ta6 ea6 => ?_)
      · subst ea6
        exact jB_X6_thingFor_48 C E rec hrec p0 tp0 p1 p2
      · subst ea6
        refine j_aload_n C dX6_thingFor_28 0 rfl ?_
        refine j_getR C kK6 f244 kfX6_36 (by decide) rfl tp0 dX6_thingFor_29 (fun x7 tx7 => ?_)
        refine j_iload_n C dX6_thingFor_32 2 rfl ?_
        refine j_oc tx7 (fun a8 ta8 ea8 => ?_)
        subst ea8
        refine j_aald C ta8 (by decide) rfl dX6_thingFor_33 (fun x9 tx9 => ?_)
        refine j_oc tx9 (fun a10 ta10 ea10 => ?_)
        subst ea10
        refine j_getI C kK5 f202 kfX6_63 (by decide) ta10 dX6_thingFor_34 ?_
        refine j_iload_n C dX6_thingFor_37 1 rfl ?_
        refine j_icmp_ne C (tgt := 48) dX6_thingFor_38 (by decide) ?_ ?_
        · exact jB_X6_thingFor_48 C E rec hrec p0 tp0 p1 p2
        · refine j_aload_n C dX6_thingFor_41 0 rfl ?_
          refine j_getR C kK6 f244 kfX6_36 (by decide) rfl tp0 dX6_thingFor_42 (fun x11 tx11 => ?_)
          refine j_iload_n C dX6_thingFor_45 2 rfl ?_
          refine j_oc tx11 (fun a12 ta12 ea12 => ?_)
          subst ea12
          refine j_aald C ta12 (by decide) rfl dX6_thingFor_46 (fun x13 tx13 => ?_)
          exact j_aretP C E tx13 dX6_thingFor_47
def L_X6_thingFor_2 (N : Nat → Nat) (S : sSt) (n : Nat) : Nat → Int32 → Int32 → Option (Option Nat) := iter (fun _ _ _ => none) (Y_X6_thingFor_2 N S) n
theorem jL_X6_thingFor_2 {X : jX} (C : jC X cX6_thingFor 3 RX6 rm_X6_thingFor) {Λ : sLay} {S : sSt} {r : (Option Nat)} (E : jE X (some (.object "RemakeNeeds2$Thing")) (rR 5) Λ (r, S)) : ∀ (n : Nat) (p0 : Nat) (tp0 : isK Λ 6 p0) (p1 : Int32) (p2 : Int32), J X 3 0 0 2 [(0, vR (some p0)), (1, vI p1), (2, vI p2)] [] Λ S (L_X6_thingFor_2 Λ.2.2 S n p0 p1 p2 = some r) := by
  intro n
  induction n with
  | zero => intro p0 tp0 p1 p2; exact j_no (fun h => by have h2 : (none : Option (Option Nat)) = some r := h; cases h2)
  | succ n ih => intro p0 tp0 p1 p2; exact jY_X6_thingFor_2 C E (L_X6_thingFor_2 Λ.2.2 S n) ih p0 tp0 p1 p2
def F_X6_thingFor (N : Nat → Nat) (S : sSt) (p0 : Nat) (p1 : Int32) : Option (Option Nat) := L_X6_thingFor_2 N S FU p0 p1 (0 : Int32)
set_option maxHeartbeats 4000000 in
theorem jF_X6_thingFor {X : jX} (C : jC X cX6_thingFor 3 RX6 rm_X6_thingFor) {Λ : sLay} {S : sSt} {r : (Option Nat)} (E : jE X (some (.object "RemakeNeeds2$Thing")) (rR 5) Λ (r, S)) (p0 : Nat) (tp0 : isK Λ 6 p0) (p1 : Int32) : J X 3 0 0 0 [(0, vR (some p0)), (1, vI p1)] [] Λ S (F_X6_thingFor Λ.2.2 S p0 p1 = some r) := by
  unfold F_X6_thingFor
  refine j_iconst C (v := (0 : Int32)) dX6_thingFor_0 (by decide) ?_
  refine j_istore_n C (L' := [(2, vI (0 : Int32)), (0, vR (some p0)), (1, vI p1)]) dX6_thingFor_1 (by decide) rfl ?_
  refine j_sub (L' := [(0, vR (some p0)), (1, vI p1), (2, vI (0 : Int32))]) [1, 2, 0] rfl ?_
  exact jL_X6_thingFor_2 C E FU p0 tp0 p1 (0 : Int32)
theorem c_X6_thingFor {l : Launch} {D : va_G} {cy : Nat → ClassId} {Λ : sLay} {S : sSt} (p0 : Nat) (tp0 : isK Λ 6 p0) (p1 : Int32) {r : Option Nat} (h : F_X6_thingFor Λ.2.2 S p0 p1 = some r) : jM l yX6_thingFor (Cond.code yX6_thingFor cX6_thingFor 3 (some (.object "RemakeNeeds2$Thing")) :: bigW) rm_X6_thingFor D cy Λ S [vR (some p0), vI p1] (rR 5) (r, S) := jM_of (by decide +kernel) (Nat.le_of_ble_eq_true rfl) (fun X C E _ _ _ => j_sub [0, 1] rfl (jF_X6_thingFor C E p0 tp0 p1)) h
/-! RemakeNeeds2.Units.lookFrom(LRemakeNeeds2$Unit;I)LRemakeNeeds2$Thing; -/
abbrev rm_X7_lookFrom : Room := { frames := 1, cells := 0, slots := 0, locals := 22 }
def B_X7_lookFrom_75 (N : Nat → Nat) (S : sSt) (k15 : Nat → Nat → Int32 → Int32 → Option (Option Nat)) (p0 : Nat) (p1 : Nat) (p2 : Int32) (p4 : Int32) : Option (Option Nat) := k15 p0 p1 p2 (p4 + (1 : Int32))
set_option maxHeartbeats 4000000 in
theorem jB_X7_lookFrom_75 {X : jX} (C : jC X cX7_lookFrom 7 RX7 rm_X7_lookFrom) {Λ : sLay} {S : sSt} {r : (Option Nat)} (E : jE X (some (.object "RemakeNeeds2$Thing")) (rR 5) Λ (r, S)) (k15 : Nat → Nat → Int32 → Int32 → Option (Option Nat)) (hk15 : ∀ (p0 : Nat) (tp0 : isK Λ 7 p0) (p1 : Nat) (tp1 : isK Λ 6 p1) (p2 : Int32) (p4 : Int32), J X 7 0 0 15 [(0, vR (some p0)), (1, vR (some p1)), (2, vI p2), (4, vI p4)] [] Λ S (k15 p0 p1 p2 p4 = some r)) : ∀ (p0 : Nat) (tp0 : isK Λ 7 p0) (p1 : Nat) (tp1 : isK Λ 6 p1) (p2 : Int32) (p4 : Int32), J X 7 0 0 75 [(0, vR (some p0)), (1, vR (some p1)), (2, vI p2), (4, vI p4)] [] Λ S (B_X7_lookFrom_75 Λ.2.2 S k15 p0 p1 p2 p4 = some r) := by
  intro p0 tp0 p1 tp1 p2 p4
  unfold B_X7_lookFrom_75
  refine j_iinc C (v := (1 : Int32)) (L' := [(4, vI (p4 + (1 : Int32))), (0, vR (some p0)), (1, vR (some p1)), (2, vI p2)]) dX7_lookFrom_75 3 rfl (by decide) (by decide) rfl ?_
  refine j_goto C (tgt := 15) dX7_lookFrom_78 (by decide) ?_
  refine j_sub (L' := [(0, vR (some p0)), (1, vR (some p1)), (2, vI p2), (4, vI (p4 + (1 : Int32)))]) [1, 2, 3, 0] rfl ?_
  exact hk15 p0 tp0 p1 tp1 p2 (p4 + (1 : Int32))
def B_X7_lookFrom_57 (N : Nat → Nat) (S : sSt) (k15 : Nat → Nat → Int32 → Int32 → Option (Option Nat)) (p0 : Nat) (p1 : Nat) (p2 : Int32) (p4 : Int32) (s0 : Option Nat) : Option (Option Nat) := onl s0 (B_X7_lookFrom_75 N S k15 p0 p1 p2 p4) (fun a16 => (if (gFI S 204 a16) = 0 then some (some a16) else B_X7_lookFrom_75 N S k15 p0 p1 p2 p4))
set_option maxHeartbeats 4000000 in
theorem jB_X7_lookFrom_57 {X : jX} (C : jC X cX7_lookFrom 7 RX7 rm_X7_lookFrom) {Λ : sLay} {S : sSt} {r : (Option Nat)} (E : jE X (some (.object "RemakeNeeds2$Thing")) (rR 5) Λ (r, S)) (k15 : Nat → Nat → Int32 → Int32 → Option (Option Nat)) (hk15 : ∀ (p0 : Nat) (tp0 : isK Λ 7 p0) (p1 : Nat) (tp1 : isK Λ 6 p1) (p2 : Int32) (p4 : Int32), J X 7 0 0 15 [(0, vR (some p0)), (1, vR (some p1)), (2, vI p2), (4, vI p4)] [] Λ S (k15 p0 p1 p2 p4 = some r)) : ∀ (p0 : Nat) (tp0 : isK Λ 7 p0) (p1 : Nat) (tp1 : isK Λ 6 p1) (p2 : Int32) (p4 : Int32) (s0 : Option Nat) (ts0 : okK Λ 5 s0), J X 7 0 0 57 [(0, vR (some p0)), (1, vR (some p1)), (2, vI p2), (4, vI p4)] [vR s0] Λ S (B_X7_lookFrom_57 Λ.2.2 S k15 p0 p1 p2 p4 s0 = some r) := by
  intro p0 tp0 p1 tp1 p2 p4 s0 ts0
  unfold B_X7_lookFrom_57
  refine j_astore C (L' := [(6, vR s0), (0, vR (some p0)), (1, vR (some p1)), (2, vI p2), (4, vI p4)]) dX7_lookFrom_57 (by decide) rfl ?_
  refine j_aload C dX7_lookFrom_59 0 rfl ?_
  refine j_ifnull C (tgt := 75) ts0 dX7_lookFrom_61 (by decide) (fun ea16 => ?_) (fun a16 ta16 ea16 => ?_)
  · subst ea16
    refine j_sub (L' := [(0, vR (some p0)), (1, vR (some p1)), (2, vI p2), (4, vI p4)]) [1, 2, 3, 4] rfl ?_
    exact jB_X7_lookFrom_75 C E k15 hk15 p0 tp0 p1 tp1 p2 p4
  · subst ea16
    refine j_aload C dX7_lookFrom_64 0 rfl ?_
    refine j_getI C kK5 f204 kfX7_61 (by decide) ta16 dX7_lookFrom_66 ?_
    refine j_if_ne C (tgt := 75) dX7_lookFrom_69 (by decide) ?_ ?_
    · refine j_sub (L' := [(0, vR (some p0)), (1, vR (some p1)), (2, vI p2), (4, vI p4)]) [1, 2, 3, 4] rfl ?_
      exact jB_X7_lookFrom_75 C E k15 hk15 p0 tp0 p1 tp1 p2 p4
    · refine j_aload C dX7_lookFrom_72 0 rfl ?_
      exact j_aretP C E (okS ta16) dX7_lookFrom_74
def Y_X7_lookFrom_15 (N : Nat → Nat) (S : sSt) (rec : Nat → Nat → Int32 → Int32 → Option (Option Nat)) (p0 : Nat) (p1 : Nat) (p2 : Int32) (p4 : Int32) : Option (Option Nat) := bnd (gFR S 241 p1) (fun x5 => Option.bind x5 (fun a6 => Option.bind (F_X1_length N S a6) (fun v7 => (if v7 ≤ p4 then some none else bnd (gFR S 241 p1) (fun x9 => Option.bind x9 (fun a10 => Option.bind (F_X1_at N S a10 p4) (fun v11 => Option.bind (F_X7_at N S p0 v11) (fun v13 => onl v13 (B_X7_lookFrom_57 N S rec p0 p1 p2 p4 none) (fun a15 => Option.bind (F_X6_thingFor N S a15 p2) (fun v17 => B_X7_lookFrom_57 N S rec p0 p1 p2 p4 v17))))))))))
set_option maxHeartbeats 4000000 in
theorem jY_X7_lookFrom_15 {X : jX} (C : jC X cX7_lookFrom 7 RX7 rm_X7_lookFrom) {Λ : sLay} {S : sSt} {r : (Option Nat)} (E : jE X (some (.object "RemakeNeeds2$Thing")) (rR 5) Λ (r, S)) (rec : Nat → Nat → Int32 → Int32 → Option (Option Nat)) (hrec : ∀ (p0 : Nat) (tp0 : isK Λ 7 p0) (p1 : Nat) (tp1 : isK Λ 6 p1) (p2 : Int32) (p4 : Int32), J X 7 0 0 15 [(0, vR (some p0)), (1, vR (some p1)), (2, vI p2), (4, vI p4)] [] Λ S (rec p0 p1 p2 p4 = some r)) : ∀ (p0 : Nat) (tp0 : isK Λ 7 p0) (p1 : Nat) (tp1 : isK Λ 6 p1) (p2 : Int32) (p4 : Int32), J X 7 0 0 15 [(0, vR (some p0)), (1, vR (some p1)), (2, vI p2), (4, vI p4)] [] Λ S (Y_X7_lookFrom_15 Λ.2.2 S rec p0 p1 p2 p4 = some r) := by
  intro p0 tp0 p1 tp1 p2 p4
  unfold Y_X7_lookFrom_15
  refine j_iload C dX7_lookFrom_15 3 rfl ?_
  refine j_aload_n C dX7_lookFrom_17 1 rfl ?_
  refine j_getR C kK6 f241 kfX7_38 (by decide) rfl tp1 dX7_lookFrom_18 (fun x5 tx5 => ?_)
  refine j_oc tx5 (fun a6 ta6 ea6 => ?_)
  subst ea6
  refine j_cVIP C [] [vI p4] (fun _ e => c_X1_length a6 ta6 e) kYX1_length kVX1_length kmX7_54 kO1 ta6 rfl rfl ⟨rfl, rfl, by decide, by decide⟩ (Nat.le_of_ble_eq_true rfl) ⟨Nat.zero_le _, Nat.zero_le _⟩ dX7_lookFrom_21 (fun v7 => ?_)
  refine j_icmp_ge C (tgt := 81) dX7_lookFrom_24 (by decide) ?_ ?_
  · refine j_null C dX7_lookFrom_81 ?_
    exact j_aretP C E okN dX7_lookFrom_82
  · refine j_aload_n C dX7_lookFrom_27 0 rfl ?_
    refine j_aload_n C dX7_lookFrom_28 1 rfl ?_
    refine j_getR C kK6 f241 kfX7_38 (by decide) rfl tp1 dX7_lookFrom_29 (fun x9 tx9 => ?_)
    refine j_iload C dX7_lookFrom_32 3 rfl ?_
    refine j_oc tx9 (fun a10 ta10 ea10 => ?_)
    subst ea10
    refine j_cVIP C [vI p4] [vR (some p0)] (fun _ e => c_X1_at a10 ta10 p4 e) kYX1_at kVX1_at kmX7_58 kO1 ta10 rfl rfl ⟨rfl, rfl, by decide, by decide⟩ (Nat.le_of_ble_eq_true rfl) ⟨Nat.zero_le _, Nat.zero_le _⟩ dX7_lookFrom_34 (fun v11 => ?_)
    refine j_cVRP C [vI v11] [] (fun _ e => c_X7_at p0 tp0 v11 e) kYX7_at kVX7_at kmX7_31 kO7 tp0 rfl rfl ⟨rfl, rfl, by decide, by decide⟩ (Nat.le_of_ble_eq_true rfl) ⟨Nat.zero_le _, Nat.zero_le _⟩ dX7_lookFrom_37 (fun v13 tv13 => ?_)
    refine j_astore C (L' := [(5, vR v13), (0, vR (some p0)), (1, vR (some p1)), (2, vI p2), (4, vI p4)]) dX7_lookFrom_40 (by decide) rfl ?_
    refine j_aload C dX7_lookFrom_42 0 rfl ?_
    refine j_ifnonnull C (tgt := 51) tv13 dX7_lookFrom_44 (by decide) (fun ea15 => ?_) (fun a15 ta15 ea15 => ?_)
    · subst ea15
      refine j_null C dX7_lookFrom_47 ?_
      refine j_goto C (tgt := 57) dX7_lookFrom_48 (by decide) ?_
      refine j_sub (L' := [(0, vR (some p0)), (1, vR (some p1)), (2, vI p2), (4, vI p4)]) [1, 2, 3, 4] rfl ?_
      exact jB_X7_lookFrom_57 C E rec hrec p0 tp0 p1 tp1 p2 p4 none okN
    · subst ea15
      refine j_aload C dX7_lookFrom_51 0 rfl ?_
      refine j_iload_n C dX7_lookFrom_53 3 rfl ?_
      refine j_cVRP C [vI p2] [] (fun _ e => c_X6_thingFor a15 ta15 p2 e) kYX6_thingFor kVX6_thingFor kmX7_50 kO6 ta15 rfl rfl ⟨rfl, rfl, by decide, by decide⟩ (Nat.le_of_ble_eq_true rfl) ⟨Nat.zero_le _, Nat.zero_le _⟩ dX7_lookFrom_54 (fun v17 tv17 => ?_)
      refine j_sub (L' := [(0, vR (some p0)), (1, vR (some p1)), (2, vI p2), (4, vI p4)]) [1, 2, 3, 4] rfl ?_
      exact jB_X7_lookFrom_57 C E rec hrec p0 tp0 p1 tp1 p2 p4 v17 tv17
def L_X7_lookFrom_15 (N : Nat → Nat) (S : sSt) (n : Nat) : Nat → Nat → Int32 → Int32 → Option (Option Nat) := iter (fun _ _ _ _ => none) (Y_X7_lookFrom_15 N S) n
theorem jL_X7_lookFrom_15 {X : jX} (C : jC X cX7_lookFrom 7 RX7 rm_X7_lookFrom) {Λ : sLay} {S : sSt} {r : (Option Nat)} (E : jE X (some (.object "RemakeNeeds2$Thing")) (rR 5) Λ (r, S)) : ∀ (n : Nat) (p0 : Nat) (tp0 : isK Λ 7 p0) (p1 : Nat) (tp1 : isK Λ 6 p1) (p2 : Int32) (p4 : Int32), J X 7 0 0 15 [(0, vR (some p0)), (1, vR (some p1)), (2, vI p2), (4, vI p4)] [] Λ S (L_X7_lookFrom_15 Λ.2.2 S n p0 p1 p2 p4 = some r) := by
  intro n
  induction n with
  | zero => intro p0 tp0 p1 tp1 p2 p4; exact j_no (fun h => by have h2 : (none : Option (Option Nat)) = some r := h; cases h2)
  | succ n ih => intro p0 tp0 p1 tp1 p2 p4; exact jY_X7_lookFrom_15 C E (L_X7_lookFrom_15 Λ.2.2 S n) ih p0 tp0 p1 tp1 p2 p4
def F_X7_lookFrom (N : Nat → Nat) (S : sSt) (p0 : Nat) (p1 : Option Nat) (p2 : Int32) : Option (Option Nat) := Option.bind p1 (fun a1 => Option.bind (F_X6_thingFor N S a1 p2) (fun v2 => onl v2 (L_X7_lookFrom_15 N S FU p0 a1 p2 (0 : Int32)) (fun a4 => some (some a4))))
set_option maxHeartbeats 4000000 in
theorem jF_X7_lookFrom {X : jX} (C : jC X cX7_lookFrom 7 RX7 rm_X7_lookFrom) {Λ : sLay} {S : sSt} {r : (Option Nat)} (E : jE X (some (.object "RemakeNeeds2$Thing")) (rR 5) Λ (r, S)) (p0 : Nat) (tp0 : isK Λ 7 p0) (p1 : Option Nat) (tp1 : okK Λ 6 p1) (p2 : Int32) : J X 7 0 0 0 [(0, vR (some p0)), (1, vR p1), (2, vI p2)] [] Λ S (F_X7_lookFrom Λ.2.2 S p0 p1 p2 = some r) := by
  unfold F_X7_lookFrom
  refine j_aload_n C dX7_lookFrom_0 1 rfl ?_
  refine j_iload_n C dX7_lookFrom_1 2 rfl ?_
  refine j_oc tp1 (fun a1 ta1 ea1 => ?_)
  subst ea1
  refine j_cVRP C [vI p2] [] (fun _ e => c_X6_thingFor a1 ta1 p2 e) kYX6_thingFor kVX6_thingFor kmX7_50 kO6 ta1 rfl rfl ⟨rfl, rfl, by decide, by decide⟩ (Nat.le_of_ble_eq_true rfl) ⟨Nat.zero_le _, Nat.zero_le _⟩ dX7_lookFrom_2 (fun v2 tv2 => ?_)
  refine j_astore_n C (L' := [(3, vR v2), (0, vR (some p0)), (1, vR (some a1)), (2, vI p2)]) dX7_lookFrom_5 (by decide) rfl ?_
  refine j_aload_n C dX7_lookFrom_6 0 rfl ?_
  refine j_ifnull C (tgt := 12) tv2 dX7_lookFrom_7 (by decide) (fun ea4 => ?_) (fun a4 ta4 ea4 => ?_)
  · subst ea4
    refine j_iconst C (v := (0 : Int32)) dX7_lookFrom_12 (by decide) ?_
    refine j_istore C (L' := [(4, vI (0 : Int32)), (3, vR none), (0, vR (some p0)), (1, vR (some a1)), (2, vI p2)]) dX7_lookFrom_13 (by decide) rfl ?_
    refine j_sub (L' := [(0, vR (some p0)), (1, vR (some a1)), (2, vI p2), (4, vI (0 : Int32))]) [2, 3, 4, 0] rfl ?_
    exact jL_X7_lookFrom_15 C E FU p0 tp0 a1 ta1 p2 (0 : Int32)
  · subst ea4
    refine j_aload_n C dX7_lookFrom_10 0 rfl ?_
    exact j_aretP C E (okS ta4) dX7_lookFrom_11
theorem c_X7_lookFrom {l : Launch} {D : va_G} {cy : Nat → ClassId} {Λ : sLay} {S : sSt} (p0 : Nat) (tp0 : isK Λ 7 p0) (p1 : Option Nat) (tp1 : okK Λ 6 p1) (p2 : Int32) {r : Option Nat} (h : F_X7_lookFrom Λ.2.2 S p0 p1 p2 = some r) : jM l yX7_lookFrom (Cond.code yX7_lookFrom cX7_lookFrom 7 (some (.object "RemakeNeeds2$Thing")) :: bigW) rm_X7_lookFrom D cy Λ S [vR (some p0), vR p1, vI p2] (rR 5) (r, S) := jM_of (by decide +kernel) (Nat.le_of_ble_eq_true rfl) (fun X C E _ _ _ => j_sub [0, 1, 2] rfl (jF_X7_lookFrom C E p0 tp0 p1 tp1 p2)) h
/-! RemakeNeeds2.Units.partOf(LRemakeNeeds2$Thing;I)LRemakeNeeds2$Thing; -/
abbrev rm_X7_partOf : Room := { frames := 2, cells := 0, slots := 0, locals := 48 }
def F_X7_partOf (N : Nat → Nat) (S : sSt) (p0 : Nat) (p1 : Option Nat) (p2 : Int32) : Option (Option Nat) := Option.bind p1 (fun a1 => Option.bind (F_X7_at N S p0 (gFI S 200 a1)) (fun v2 => onl v2 (some none) (fun a4 => bnd (gFR S 201 a1) (fun x5 => Option.bind x5 (fun a6 => Option.bind (F_X1_at N S a6 p2) (fun v7 => Option.bind (F_X8_keyOf N S (1 : Int32) v7) (fun v9 => Option.bind (F_X7_lookFrom N S p0 (some a4) v9) (fun v11 => some v11))))))))
set_option maxHeartbeats 4000000 in
theorem jF_X7_partOf {X : jX} (C : jC X cX7_partOf 4 RX7 rm_X7_partOf) {Λ : sLay} {S : sSt} {r : (Option Nat)} (E : jE X (some (.object "RemakeNeeds2$Thing")) (rR 5) Λ (r, S)) (p0 : Nat) (tp0 : isK Λ 7 p0) (p1 : Option Nat) (tp1 : okK Λ 5 p1) (p2 : Int32) : J X 4 0 0 0 [(0, vR (some p0)), (1, vR p1), (2, vI p2)] [] Λ S (F_X7_partOf Λ.2.2 S p0 p1 p2 = some r) := by
  unfold F_X7_partOf
  refine j_aload_n C dX7_partOf_0 0 rfl ?_
  refine j_aload_n C dX7_partOf_1 1 rfl ?_
  refine j_oc tp1 (fun a1 ta1 ea1 => ?_)
  subst ea1
  refine j_getI C kK5 f200 kfX7_66 (by decide) ta1 dX7_partOf_2 ?_
  refine j_cVRP C [vI (gFI S 200 a1)] [] (fun _ e => c_X7_at p0 tp0 (gFI S 200 a1) e) kYX7_at kVX7_at kmX7_31 kO7 tp0 rfl rfl ⟨rfl, rfl, by decide, by decide⟩ (Nat.le_of_ble_eq_true rfl) ⟨Nat.zero_le _, Nat.zero_le _⟩ dX7_partOf_5 (fun v2 tv2 => ?_)
  refine j_astore_n C (L' := [(3, vR v2), (0, vR (some p0)), (1, vR (some a1)), (2, vI p2)]) dX7_partOf_8 (by decide) rfl ?_
  refine j_aload_n C dX7_partOf_9 0 rfl ?_
  refine j_ifnonnull C (tgt := 17) tv2 dX7_partOf_10 (by decide) (fun ea4 => ?_) (fun a4 ta4 ea4 => ?_)
  · subst ea4
    refine j_null C dX7_partOf_13 ?_
    refine j_goto C (tgt := 34) dX7_partOf_14 (by decide) ?_
    exact j_aretP C E okN dX7_partOf_34
  · subst ea4
    refine j_aload_n C dX7_partOf_17 1 rfl ?_
    refine j_aload_n C dX7_partOf_18 0 rfl ?_
    refine j_iconst C (v := (1 : Int32)) dX7_partOf_19 (by decide) ?_
    refine j_aload_n C dX7_partOf_20 2 rfl ?_
    refine j_getR C kK5 f201 kfX7_69 (by decide) rfl ta1 dX7_partOf_21 (fun x5 tx5 => ?_)
    refine j_iload_n C dX7_partOf_24 3 rfl ?_
    refine j_oc tx5 (fun a6 ta6 ea6 => ?_)
    subst ea6
    refine j_cVIP C [vI p2] [vI (1 : Int32), vR (some a4), vR (some p0)] (fun _ e => c_X1_at a6 ta6 p2 e) kYX1_at kVX1_at kmX7_58 kO1 ta6 rfl rfl ⟨rfl, rfl, by decide, by decide⟩ (Nat.le_of_ble_eq_true rfl) ⟨Nat.zero_le _, Nat.zero_le _⟩ dX7_partOf_25 (fun v7 => ?_)
    refine j_cNIP C [vI (1 : Int32), vI v7] [vR (some a4), vR (some p0)] (fun _ e => c_X8_keyOf (1 : Int32) v7 e) kYX8_keyOf kSX8_keyOf (by decide +kernel : (RX7, 72, yX8_keyOf, "RemakeNeeds2") ∈ nests) rfl rfl ⟨rfl, rfl, by decide, by decide⟩ (Nat.le_of_ble_eq_true rfl) ⟨Nat.zero_le _, Nat.zero_le _⟩ dX7_partOf_28 (fun v9 => ?_)
    refine j_cVRP C [vR (some a4), vI v9] [] (fun _ e => c_X7_lookFrom p0 tp0 (some a4) (okS ta4) v9 e) kYX7_lookFrom kVX7_lookFrom kmX7_76 kO7 tp0 rfl rfl ⟨rfl, rfl, by decide, by decide⟩ (Nat.le_of_ble_eq_true rfl) ⟨Nat.zero_le _, Nat.zero_le _⟩ dX7_partOf_31 (fun v11 tv11 => ?_)
    exact j_aretP C E tv11 dX7_partOf_34
theorem c_X7_partOf {l : Launch} {D : va_G} {cy : Nat → ClassId} {Λ : sLay} {S : sSt} (p0 : Nat) (tp0 : isK Λ 7 p0) (p1 : Option Nat) (tp1 : okK Λ 5 p1) (p2 : Int32) {r : Option Nat} (h : F_X7_partOf Λ.2.2 S p0 p1 p2 = some r) : jM l yX7_partOf (Cond.code yX7_partOf cX7_partOf 4 (some (.object "RemakeNeeds2$Thing")) :: bigW) rm_X7_partOf D cy Λ S [vR (some p0), vR p1, vI p2] (rR 5) (r, S) := jM_of (by decide +kernel) (Nat.le_of_ble_eq_true rfl) (fun X C E _ _ _ => j_sub [0, 1, 2] rfl (jF_X7_partOf C E p0 tp0 p1 tp1 p2)) h
/-! RemakeNeeds2.Constants.note(LRemakeNeeds2$Thing;)V -/
abbrev rm_X0_note : Room := { frames := 0, cells := 0, slots := 0, locals := 0 }
def F_X0_note (N : Nat → Nat) (S : sSt) (p0 : Nat) (p1 : Option Nat) : Option sSt := (if (gFI S 3 p0) < 0 then some S else bnd (gFR S 2 p0) (fun x1 => Option.bind x1 (fun a2 => (if (nI (N a2)) ≤ (gFI S 3 p0) then some S else Option.bind p1 (fun a3 => bnd (sFI S 208 a3 (1 : Int32)) (fun S4 => bnd (gFR S4 2 p0) (fun x5 => Option.bind x5 (fun a6 => gi (gFI S4 3 p0) (N a6) (bnd (sAR S4 a6 (Int32.toNatClampNeg (gFI S4 3 p0)) (some a3)) (fun S7 => bnd (sFI S7 3 p0 ((gFI S7 3 p0) + (1 : Int32))) (fun S8 => some S8)))))))))))
set_option maxHeartbeats 4000000 in
theorem jF_X0_note {X : jX} (C : jC X cX0_note 2 RX0 rm_X0_note) {Λ : sLay} {S : sSt} {r : sSt} (E : jE X none rV Λ ((), r)) (p0 : Nat) (tp0 : isK Λ 0 p0) (p1 : Option Nat) (tp1 : okK Λ 5 p1) : J X 2 0 0 0 [(0, vR (some p0)), (1, vR p1)] [] Λ S (F_X0_note Λ.2.2 S p0 p1 = some r) := by
  unfold F_X0_note
  refine j_aload_n C dX0_note_0 0 rfl ?_
  refine j_getI C kK0 f3 kfX0_24 (by decide) tp0 dX0_note_1 ?_
  refine j_if_lt C (tgt := 44) dX0_note_4 (by decide) ?_ ?_
  · exact j_vretP C E dX0_note_44
  · refine j_aload_n C dX0_note_7 0 rfl ?_
    refine j_getI C kK0 f3 kfX0_24 (by decide) tp0 dX0_note_8 ?_
    refine j_aload_n C dX0_note_11 0 rfl ?_
    refine j_getR C kK0 f2 kfX0_21 (by decide) rfl tp0 dX0_note_12 (fun x1 tx1 => ?_)
    refine j_oc tx1 (fun a2 ta2 ea2 => ?_)
    subst ea2
    refine j_alen C ta2 (by decide) dX0_note_15 ?_
    refine j_icmp_ge C (tgt := 44) dX0_note_16 (by decide) ?_ ?_
    · exact j_vretP C E dX0_note_44
    · refine j_aload_n C dX0_note_19 1 rfl ?_
      refine j_iconst C (v := (1 : Int32)) dX0_note_20 (by decide) ?_
      refine j_oc tp1 (fun a3 ta3 ea3 => ?_)
      subst ea3
      refine j_putI C kK5 f208 kfX0_75 (by decide) rfl rfl rfl ta3 dX0_note_21 (fun S4 => ?_)
      refine j_aload_n C dX0_note_24 0 rfl ?_
      refine j_getR C kK0 f2 kfX0_21 (by decide) rfl tp0 dX0_note_25 (fun x5 tx5 => ?_)
      refine j_aload_n C dX0_note_28 0 rfl ?_
      refine j_getI C kK0 f3 kfX0_24 (by decide) tp0 dX0_note_29 ?_
      refine j_aload_n C dX0_note_32 1 rfl ?_
      refine j_oc tx5 (fun a6 ta6 ea6 => ?_)
      subst ea6
      refine j_aast C 13 ta6 (by decide) rfl ta3 dX0_note_33 (fun S7 => ?_)
      refine j_aload_n C dX0_note_34 0 rfl ?_
      refine j_dup C dX0_note_35 rfl ?_
      refine j_getI C kK0 f3 kfX0_24 (by decide) tp0 dX0_note_36 ?_
      refine j_iconst C (v := (1 : Int32)) dX0_note_39 (by decide) ?_
      refine j_iadd C dX0_note_40 ?_
      refine j_putI C kK0 f3 kfX0_24 (by decide) rfl rfl rfl tp0 dX0_note_41 (fun S8 => ?_)
      exact j_vretP C E dX0_note_44
theorem c_X0_note {l : Launch} {D : va_G} {cy : Nat → ClassId} {Λ : sLay} {S : sSt} (p0 : Nat) (tp0 : isK Λ 0 p0) (p1 : Option Nat) (tp1 : okK Λ 5 p1) {r : sSt} (h : F_X0_note Λ.2.2 S p0 p1 = some r) : jM l yX0_note (Cond.code yX0_note cX0_note 2 none :: bigW) rm_X0_note D cy Λ S [vR (some p0), vR p1] rV ((), r) := jM_of (by decide +kernel) (Nat.le_of_ble_eq_true rfl) (fun X C E _ _ _ => j_sub [0, 1] rfl (jF_X0_note C E p0 tp0 p1 tp1)) h
/-! RemakeNeeds2.Constants.follow(LRemakeNeeds2$Thing;LRemakeNeeds2$Units;)V -/
abbrev rm_X0_follow : Room := { frames := 3, cells := 0, slots := 0, locals := 71 }
def B_X0_follow_153 (N : Nat → Nat) (k21 : sSt → Nat → (Option Nat) → Int32 → Option sSt) (S : sSt) (p0 : Nat) (p2 : Option Nat) (p3 : Int32) : Option sSt := k21 S p0 p2 (p3 + (1 : Int32))
set_option maxHeartbeats 4000000 in
theorem jB_X0_follow_153 {X : jX} (C : jC X cX0_follow 6 RX0 rm_X0_follow) {Λ : sLay} {r : sSt} (E : jE X none rV Λ ((), r)) (k21 : sSt → Nat → (Option Nat) → Int32 → Option sSt) (hk21 : ∀ (S : sSt) (p0 : Nat) (tp0 : isK Λ 0 p0) (p2 : Option Nat) (tp2 : okK Λ 7 p2) (p3 : Int32), J X 6 0 0 21 [(0, vR (some p0)), (2, vR p2), (3, vI p3)] [] Λ S (k21 S p0 p2 p3 = some r)) : ∀ (S : sSt) (p0 : Nat) (tp0 : isK Λ 0 p0) (p2 : Option Nat) (tp2 : okK Λ 7 p2) (p3 : Int32), J X 6 0 0 153 [(0, vR (some p0)), (2, vR p2), (3, vI p3)] [] Λ S (B_X0_follow_153 Λ.2.2 k21 S p0 p2 p3 = some r) := by
  intro S p0 tp0 p2 tp2 p3
  unfold B_X0_follow_153
  refine j_iinc C (v := (1 : Int32)) (L' := [(3, vI (p3 + (1 : Int32))), (0, vR (some p0)), (2, vR p2)]) dX0_follow_153 2 rfl (by decide) (by decide) rfl ?_
  refine j_goto C (tgt := 21) dX0_follow_156 (by decide) ?_
  refine j_sub (L' := [(0, vR (some p0)), (2, vR p2), (3, vI (p3 + (1 : Int32)))]) [1, 2, 0] rfl ?_
  exact hk21 S p0 tp0 p2 tp2 (p3 + (1 : Int32))
def B_X0_follow_80 (N : Nat → Nat) (k21 : sSt → Nat → (Option Nat) → Int32 → Option sSt) (S : sSt) (p0 : Nat) (p2 : Option Nat) (p3 : Int32) : Option sSt := bnd (sFI S 1 p0 ((gFI S 1 p0) - (1 : Int32))) (fun S13 => B_X0_follow_153 N k21 S13 p0 p2 p3)
set_option maxHeartbeats 4000000 in
theorem jB_X0_follow_80 {X : jX} (C : jC X cX0_follow 6 RX0 rm_X0_follow) {Λ : sLay} {r : sSt} (E : jE X none rV Λ ((), r)) (k21 : sSt → Nat → (Option Nat) → Int32 → Option sSt) (hk21 : ∀ (S : sSt) (p0 : Nat) (tp0 : isK Λ 0 p0) (p2 : Option Nat) (tp2 : okK Λ 7 p2) (p3 : Int32), J X 6 0 0 21 [(0, vR (some p0)), (2, vR p2), (3, vI p3)] [] Λ S (k21 S p0 p2 p3 = some r)) : ∀ (S : sSt) (p0 : Nat) (tp0 : isK Λ 0 p0) (p2 : Option Nat) (tp2 : okK Λ 7 p2) (p3 : Int32), J X 6 0 0 80 [(0, vR (some p0)), (2, vR p2), (3, vI p3)] [] Λ S (B_X0_follow_80 Λ.2.2 k21 S p0 p2 p3 = some r) := by
  intro S p0 tp0 p2 tp2 p3
  unfold B_X0_follow_80
  refine j_aload_n C dX0_follow_80 0 rfl ?_
  refine j_dup C dX0_follow_81 rfl ?_
  refine j_getI C kK0 f1 kfX0_17 (by decide) tp0 dX0_follow_82 ?_
  refine j_iconst C (v := (1 : Int32)) dX0_follow_85 (by decide) ?_
  refine j_isub C dX0_follow_86 ?_
  refine j_putI C kK0 f1 kfX0_17 (by decide) rfl rfl rfl tp0 dX0_follow_87 (fun S13 => ?_)
  refine j_goto C (tgt := 153) dX0_follow_90 (by decide) ?_
  exact jB_X0_follow_153 C E k21 hk21 S13 p0 tp0 p2 tp2 p3
def Y_X0_follow_21 (N : Nat → Nat) (rec : sSt → Nat → (Option Nat) → Int32 → Option sSt) (S : sSt) (p0 : Nat) (p2 : Option Nat) (p3 : Int32) : Option sSt := (if (1000000 : Int32) ≤ p3 then some S else (if (gFI S 1 p0) ≤ 0 then some S else bnd (gFR S 0 p0) (fun x7 => Option.bind x7 (fun a8 => (if (nI (N a8)) < (gFI S 1 p0) then some S else bnd (gFR S 0 p0) (fun x9 => Option.bind x9 (fun a10 => gi ((gFI S 1 p0) - (1 : Int32)) (N a10) (bnd (gAR S a10 (Int32.toNatClampNeg ((gFI S 1 p0) - (1 : Int32)))) (fun x11 => onl x11 (B_X0_follow_80 N rec S p0 p2 p3) (fun a12 => bnd (gFR S 201 a12) (fun x14 => Option.bind x14 (fun a15 => Option.bind (F_X1_length N S a15) (fun v16 => (if (gFI S 209 a12) < v16 then Option.bind p2 (fun a18 => Option.bind (F_X7_partOf N S a18 (some a12) (gFI S 209 a12)) (fun v19 => bnd (sFI S 209 a12 ((gFI S 209 a12) + (1 : Int32))) (fun S21 => onl v19 (B_X0_follow_153 N rec S21 p0 (some a18) p3) (fun a22 => (if (gFI S21 208 a22) = 0 then Option.bind (F_X0_note N S21 p0 (some a22)) (fun S24 => (if (gFI S24 205 a22) = 0 then Option.bind (F_X0_enter N S24 p0 (some a22)) (fun S26 => B_X0_follow_153 N rec S26 p0 (some a18) p3) else B_X0_follow_153 N rec S24 p0 (some a18) p3)) else B_X0_follow_153 N rec S21 p0 (some a18) p3))))) else B_X0_follow_80 N rec S p0 p2 p3))))))))))))))
set_option maxHeartbeats 4000000 in
theorem jY_X0_follow_21 {X : jX} (C : jC X cX0_follow 6 RX0 rm_X0_follow) {Λ : sLay} {r : sSt} (E : jE X none rV Λ ((), r)) (rec : sSt → Nat → (Option Nat) → Int32 → Option sSt) (hrec : ∀ (S : sSt) (p0 : Nat) (tp0 : isK Λ 0 p0) (p2 : Option Nat) (tp2 : okK Λ 7 p2) (p3 : Int32), J X 6 0 0 21 [(0, vR (some p0)), (2, vR p2), (3, vI p3)] [] Λ S (rec S p0 p2 p3 = some r)) : ∀ (S : sSt) (p0 : Nat) (tp0 : isK Λ 0 p0) (p2 : Option Nat) (tp2 : okK Λ 7 p2) (p3 : Int32), J X 6 0 0 21 [(0, vR (some p0)), (2, vR p2), (3, vI p3)] [] Λ S (Y_X0_follow_21 Λ.2.2 rec S p0 p2 p3 = some r) := by
  intro S p0 tp0 p2 tp2 p3
  unfold Y_X0_follow_21
  refine j_iload_n C dX0_follow_21 2 rfl ?_
  refine j_ldc C kcX0_82 dX0_follow_22 ?_
  refine j_icmp_ge C (tgt := 159) dX0_follow_24 (by decide) ?_ ?_
  · exact j_vretP C E dX0_follow_159
  · refine j_aload_n C dX0_follow_27 0 rfl ?_
    refine j_getI C kK0 f1 kfX0_17 (by decide) tp0 dX0_follow_28 ?_
    refine j_if_le C (tgt := 159) dX0_follow_31 (by decide) ?_ ?_
    · exact j_vretP C E dX0_follow_159
    · refine j_aload_n C dX0_follow_34 0 rfl ?_
      refine j_getI C kK0 f1 kfX0_17 (by decide) tp0 dX0_follow_35 ?_
      refine j_aload_n C dX0_follow_38 0 rfl ?_
      refine j_getR C kK0 f0 kfX0_11 (by decide) rfl tp0 dX0_follow_39 (fun x7 tx7 => ?_)
      refine j_oc tx7 (fun a8 ta8 ea8 => ?_)
      subst ea8
      refine j_alen C ta8 (by decide) dX0_follow_42 ?_
      refine j_icmp_gt C (tgt := 159) dX0_follow_43 (by decide) ?_ ?_
      · exact j_vretP C E dX0_follow_159
      · refine j_aload_n C dX0_follow_46 0 rfl ?_
        refine j_getR C kK0 f0 kfX0_11 (by decide) rfl tp0 dX0_follow_47 (fun x9 tx9 => ?_)
        refine j_aload_n C dX0_follow_50 0 rfl ?_
        refine j_getI C kK0 f1 kfX0_17 (by decide) tp0 dX0_follow_51 ?_
        refine j_iconst C (v := (1 : Int32)) dX0_follow_54 (by decide) ?_
        refine j_isub C dX0_follow_55 ?_
        refine j_oc tx9 (fun a10 ta10 ea10 => ?_)
        subst ea10
        refine j_aald C ta10 (by decide) rfl dX0_follow_56 (fun x11 tx11 => ?_)
        refine j_astore C (L' := [(4, vR x11), (0, vR (some p0)), (2, vR p2), (3, vI p3)]) dX0_follow_57 (by decide) rfl ?_
        refine j_aload C dX0_follow_59 0 rfl ?_
        refine j_ifnull C (tgt := 80) tx11 dX0_follow_61 (by decide) (fun ea12 => ?_) (fun a12 ta12 ea12 => ?_)
        · subst ea12
          refine j_sub (L' := [(0, vR (some p0)), (2, vR p2), (3, vI p3)]) [1, 2, 3] rfl ?_
          exact jB_X0_follow_80 C E rec hrec S p0 tp0 p2 tp2 p3
        · subst ea12
          refine j_aload C dX0_follow_64 0 rfl ?_
          refine j_getI C kK5 f209 kfX0_83 (by decide) ta12 dX0_follow_66 ?_
          refine j_aload C dX0_follow_69 0 rfl ?_
          refine j_getR C kK5 f201 kfX0_86 (by decide) rfl ta12 dX0_follow_71 (fun x14 tx14 => ?_)
          refine j_oc tx14 (fun a15 ta15 ea15 => ?_)
          subst ea15
          refine j_cVIP C [] [vI (gFI S 209 a12)] (fun _ e => c_X1_length a15 ta15 e) kYX1_length kVX1_length kmX0_90 kO1 ta15 rfl rfl ⟨rfl, rfl, by decide, by decide⟩ (Nat.le_of_ble_eq_true rfl) ⟨Nat.zero_le _, Nat.zero_le _⟩ dX0_follow_74 (fun v16 => ?_)
          refine j_icmp_lt C (tgt := 93) dX0_follow_77 (by decide) ?_ ?_
          · refine j_aload_n C dX0_follow_93 2 rfl ?_
            refine j_aload C dX0_follow_94 0 rfl ?_
            refine j_aload C dX0_follow_96 0 rfl ?_
            refine j_getI C kK5 f209 kfX0_83 (by decide) ta12 dX0_follow_98 ?_
            refine j_oc tp2 (fun a18 ta18 ea18 => ?_)
            subst ea18
            refine j_cVRP C [vR (some a12), vI (gFI S 209 a12)] [] (fun _ e => c_X7_partOf a18 ta18 (some a12) (okS ta12) (gFI S 209 a12) e) kYX7_partOf kVX7_partOf kmX0_98 kO7 ta18 rfl rfl ⟨rfl, rfl, by decide, by decide⟩ (Nat.le_of_ble_eq_true rfl) ⟨Nat.zero_le _, Nat.zero_le _⟩ dX0_follow_101 (fun v19 tv19 => ?_)
            refine j_astore C (L' := [(5, vR v19), (4, vR (some a12)), (0, vR (some p0)), (2, vR (some a18)), (3, vI p3)]) dX0_follow_104 (by decide) rfl ?_
            refine j_aload C dX0_follow_106 1 rfl ?_
            refine j_dup C dX0_follow_108 rfl ?_
            refine j_getI C kK5 f209 kfX0_83 (by decide) ta12 dX0_follow_109 ?_
            refine j_iconst C (v := (1 : Int32)) dX0_follow_112 (by decide) ?_
            refine j_iadd C dX0_follow_113 ?_
            refine j_putI C kK5 f209 kfX0_83 (by decide) rfl rfl rfl ta12 dX0_follow_114 (fun S21 => ?_)
            refine j_aload C dX0_follow_117 0 rfl ?_
            refine j_ifnull C (tgt := 153) tv19 dX0_follow_119 (by decide) (fun ea22 => ?_) (fun a22 ta22 ea22 => ?_)
            · subst ea22
              refine j_sub (L' := [(0, vR (some p0)), (2, vR (some a18)), (3, vI p3)]) [2, 3, 4] rfl ?_
              exact jB_X0_follow_153 C E rec hrec S21 p0 tp0 (some a18) (okS ta18) p3
            · subst ea22
              refine j_aload C dX0_follow_122 0 rfl ?_
              refine j_getI C kK5 f208 kfX0_75 (by decide) ta22 dX0_follow_124 ?_
              refine j_if_eq C (tgt := 133) dX0_follow_127 (by decide) ?_ ?_
              · refine j_aload_n C dX0_follow_133 2 rfl ?_
                refine j_aload C dX0_follow_134 0 rfl ?_
                refine j_cVVV C [vR (some a22)] [] (fun _ e => c_X0_note p0 tp0 (some a22) (okS ta22) e) kYX0_note kVX0_note kmX0_106 kO0 tp0 rfl rfl ⟨rfl, rfl, by decide, by decide⟩ (Nat.le_of_ble_eq_true rfl) ⟨Nat.zero_le _, Nat.zero_le _⟩ dX0_follow_136 (fun S24 => ?_)
                refine j_aload C dX0_follow_139 0 rfl ?_
                refine j_getI C kK5 f205 kfX0_57 (by decide) ta22 dX0_follow_141 ?_
                refine j_if_ne C (tgt := 153) dX0_follow_144 (by decide) ?_ ?_
                · refine j_sub (L' := [(0, vR (some p0)), (2, vR (some a18)), (3, vI p3)]) [2, 3, 4] rfl ?_
                  exact jB_X0_follow_153 C E rec hrec S24 p0 tp0 (some a18) (okS ta18) p3
                · refine j_aload_n C dX0_follow_147 2 rfl ?_
                  refine j_aload C dX0_follow_148 0 rfl ?_
                  refine j_cVVV C [vR (some a22)] [] (fun _ e => c_X0_enter p0 tp0 (some a22) (okS ta22) e) kYX0_enter kVX0_enter kmX0_78 kO0 tp0 rfl rfl ⟨rfl, rfl, by decide, by decide⟩ (Nat.le_of_ble_eq_true rfl) ⟨Nat.zero_le _, Nat.zero_le _⟩ dX0_follow_150 (fun S26 => ?_)
                  refine j_sub (L' := [(0, vR (some p0)), (2, vR (some a18)), (3, vI p3)]) [2, 3, 4] rfl ?_
                  exact jB_X0_follow_153 C E rec hrec S26 p0 tp0 (some a18) (okS ta18) p3
              · refine j_goto C (tgt := 153) dX0_follow_130 (by decide) ?_
                refine j_sub (L' := [(0, vR (some p0)), (2, vR (some a18)), (3, vI p3)]) [2, 3, 4] rfl ?_
                exact jB_X0_follow_153 C E rec hrec S21 p0 tp0 (some a18) (okS ta18) p3
          · refine j_sub (L' := [(0, vR (some p0)), (2, vR p2), (3, vI p3)]) [1, 2, 3] rfl ?_
            exact jB_X0_follow_80 C E rec hrec S p0 tp0 p2 tp2 p3
def L_X0_follow_21 (N : Nat → Nat) (n : Nat) : sSt → Nat → (Option Nat) → Int32 → Option sSt := iter (fun _ _ _ _ => none) (Y_X0_follow_21 N) n
theorem jL_X0_follow_21 {X : jX} (C : jC X cX0_follow 6 RX0 rm_X0_follow) {Λ : sLay} {r : sSt} (E : jE X none rV Λ ((), r)) : ∀ (n : Nat) (S : sSt) (p0 : Nat) (tp0 : isK Λ 0 p0) (p2 : Option Nat) (tp2 : okK Λ 7 p2) (p3 : Int32), J X 6 0 0 21 [(0, vR (some p0)), (2, vR p2), (3, vI p3)] [] Λ S (L_X0_follow_21 Λ.2.2 n S p0 p2 p3 = some r) := by
  intro n
  induction n with
  | zero => intro S p0 tp0 p2 tp2 p3; exact j_no (fun h => by have h2 : (none : Option sSt) = some r := h; cases h2)
  | succ n ih => intro S p0 tp0 p2 tp2 p3; exact jY_X0_follow_21 C E (L_X0_follow_21 Λ.2.2 n) ih S p0 tp0 p2 tp2 p3
def F_X0_follow (N : Nat → Nat) (S : sSt) (p0 : Nat) (p1 : Option Nat) (p2 : Option Nat) : Option sSt := Option.bind (F_X0_refresh N S p2) (fun S2 => bnd (sFI S2 3 p0 (0 : Int32)) (fun S3 => bnd (sFI S3 1 p0 (0 : Int32)) (fun S4 => Option.bind (F_X0_enter N S4 p0 p1) (fun S6 => L_X0_follow_21 N FU S6 p0 p2 (0 : Int32)))))
set_option maxHeartbeats 4000000 in
theorem jF_X0_follow {X : jX} (C : jC X cX0_follow 6 RX0 rm_X0_follow) {Λ : sLay} {S : sSt} {r : sSt} (E : jE X none rV Λ ((), r)) (p0 : Nat) (tp0 : isK Λ 0 p0) (p1 : Option Nat) (tp1 : okK Λ 5 p1) (p2 : Option Nat) (tp2 : okK Λ 7 p2) : J X 6 0 0 0 [(0, vR (some p0)), (1, vR p1), (2, vR p2)] [] Λ S (F_X0_follow Λ.2.2 S p0 p1 p2 = some r) := by
  unfold F_X0_follow
  refine j_aload_n C dX0_follow_0 2 rfl ?_
  refine j_cSVV C [vR p2] [] (fun _ e => c_X0_refresh p2 tp2 e) kYX0_refresh kSX0_refresh kmX0_27 rfl rfl ⟨rfl, rfl, by decide, by decide⟩ (Nat.le_of_ble_eq_true rfl) ⟨Nat.zero_le _, Nat.zero_le _⟩ dX0_follow_1 (fun S2 => ?_)
  refine j_aload_n C dX0_follow_4 0 rfl ?_
  refine j_iconst C (v := (0 : Int32)) dX0_follow_5 (by decide) ?_
  refine j_putI C kK0 f3 kfX0_24 (by decide) rfl rfl rfl tp0 dX0_follow_6 (fun S3 => ?_)
  refine j_aload_n C dX0_follow_9 0 rfl ?_
  refine j_iconst C (v := (0 : Int32)) dX0_follow_10 (by decide) ?_
  refine j_putI C kK0 f1 kfX0_17 (by decide) rfl rfl rfl tp0 dX0_follow_11 (fun S4 => ?_)
  refine j_aload_n C dX0_follow_14 0 rfl ?_
  refine j_aload_n C dX0_follow_15 1 rfl ?_
  refine j_cVVV C [vR p1] [] (fun _ e => c_X0_enter p0 tp0 p1 tp1 e) kYX0_enter kVX0_enter kmX0_78 kO0 tp0 rfl rfl ⟨rfl, rfl, by decide, by decide⟩ (Nat.le_of_ble_eq_true rfl) ⟨Nat.zero_le _, Nat.zero_le _⟩ dX0_follow_16 (fun S6 => ?_)
  refine j_iconst C (v := (0 : Int32)) dX0_follow_19 (by decide) ?_
  refine j_istore_n C (L' := [(3, vI (0 : Int32)), (0, vR (some p0)), (1, vR p1), (2, vR p2)]) dX0_follow_20 (by decide) rfl ?_
  refine j_sub (L' := [(0, vR (some p0)), (2, vR p2), (3, vI (0 : Int32))]) [1, 3, 0] rfl ?_
  exact jL_X0_follow_21 C E FU S6 p0 tp0 p2 tp2 (0 : Int32)
theorem c_X0_follow {l : Launch} {D : va_G} {cy : Nat → ClassId} {Λ : sLay} {S : sSt} (p0 : Nat) (tp0 : isK Λ 0 p0) (p1 : Option Nat) (tp1 : okK Λ 5 p1) (p2 : Option Nat) (tp2 : okK Λ 7 p2) {r : sSt} (h : F_X0_follow Λ.2.2 S p0 p1 p2 = some r) : jM l yX0_follow (Cond.code yX0_follow cX0_follow 6 none :: bigW) rm_X0_follow D cy Λ S [vR (some p0), vR p1, vR p2] rV ((), r) := jM_of (by decide +kernel) (Nat.le_of_ble_eq_true rfl) (fun X C E _ _ _ => j_sub [0, 1, 2] rfl (jF_X0_follow C E p0 tp0 p1 tp1 p2 tp2)) h
/-! RemakeNeeds2.Constants.metAt(I)LRemakeNeeds2$Thing; -/
abbrev rm_X0_metAt : Room := { frames := 0, cells := 0, slots := 0, locals := 0 }
def F_X0_metAt (N : Nat → Nat) (S : sSt) (p0 : Nat) (p1 : Int32) : Option (Option Nat) := (if p1 < 0 then some none else (if (gFI S 3 p0) ≤ p1 then some none else bnd (gFR S 2 p0) (fun x1 => Option.bind x1 (fun a2 => (if (nI (N a2)) ≤ p1 then some none else bnd (gFR S 2 p0) (fun x3 => Option.bind x3 (fun a4 => gi p1 (N a4) (bnd (gAR S a4 (Int32.toNatClampNeg p1)) (fun x5 => some x5)))))))))
set_option maxHeartbeats 4000000 in
theorem jF_X0_metAt {X : jX} (C : jC X cX0_metAt 2 RX0 rm_X0_metAt) {Λ : sLay} {S : sSt} {r : (Option Nat)} (E : jE X (some (.object "RemakeNeeds2$Thing")) (rR 5) Λ (r, S)) (p0 : Nat) (tp0 : isK Λ 0 p0) (p1 : Int32) : J X 2 0 0 0 [(0, vR (some p0)), (1, vI p1)] [] Λ S (F_X0_metAt Λ.2.2 S p0 p1 = some r) := by
  unfold F_X0_metAt
  refine j_iload_n C dX0_metAt_0 1 rfl ?_
  refine j_if_lt C (tgt := 30) dX0_metAt_1 (by decide) ?_ ?_
  · refine j_null C dX0_metAt_30 ?_
    exact j_aretP C E okN dX0_metAt_31
  · refine j_iload_n C dX0_metAt_4 1 rfl ?_
    refine j_aload_n C dX0_metAt_5 0 rfl ?_
    refine j_getI C kK0 f3 kfX0_24 (by decide) tp0 dX0_metAt_6 ?_
    refine j_icmp_ge C (tgt := 30) dX0_metAt_9 (by decide) ?_ ?_
    · refine j_null C dX0_metAt_30 ?_
      exact j_aretP C E okN dX0_metAt_31
    · refine j_iload_n C dX0_metAt_12 1 rfl ?_
      refine j_aload_n C dX0_metAt_13 0 rfl ?_
      refine j_getR C kK0 f2 kfX0_21 (by decide) rfl tp0 dX0_metAt_14 (fun x1 tx1 => ?_)
      refine j_oc tx1 (fun a2 ta2 ea2 => ?_)
      subst ea2
      refine j_alen C ta2 (by decide) dX0_metAt_17 ?_
      refine j_icmp_ge C (tgt := 30) dX0_metAt_18 (by decide) ?_ ?_
      · refine j_null C dX0_metAt_30 ?_
        exact j_aretP C E okN dX0_metAt_31
      · refine j_aload_n C dX0_metAt_21 0 rfl ?_
        refine j_getR C kK0 f2 kfX0_21 (by decide) rfl tp0 dX0_metAt_22 (fun x3 tx3 => ?_)
        refine j_iload_n C dX0_metAt_25 1 rfl ?_
        refine j_oc tx3 (fun a4 ta4 ea4 => ?_)
        subst ea4
        refine j_aald C ta4 (by decide) rfl dX0_metAt_26 (fun x5 tx5 => ?_)
        refine j_goto C (tgt := 31) dX0_metAt_27 (by decide) ?_
        exact j_aretP C E tx5 dX0_metAt_31
theorem c_X0_metAt {l : Launch} {D : va_G} {cy : Nat → ClassId} {Λ : sLay} {S : sSt} (p0 : Nat) (tp0 : isK Λ 0 p0) (p1 : Int32) {r : Option Nat} (h : F_X0_metAt Λ.2.2 S p0 p1 = some r) : jM l yX0_metAt (Cond.code yX0_metAt cX0_metAt 2 (some (.object "RemakeNeeds2$Thing")) :: bigW) rm_X0_metAt D cy Λ S [vR (some p0), vI p1] (rR 5) (r, S) := jM_of (by decide +kernel) (Nat.le_of_ble_eq_true rfl) (fun X C E _ _ _ => j_sub [0, 1] rfl (jF_X0_metAt C E p0 tp0 p1)) h
/-! RemakeNeeds2.Constants.settle(LRemakeNeeds2$Thing;LRemakeNeeds2$Units;)V -/
abbrev rm_X0_settle : Room := { frames := 3, cells := 0, slots := 0, locals := 71 }
def B_X0_settle_142 (N : Nat → Nat) (k12 : sSt → Nat → (Option Nat) → Int32 → Option sSt) (S : sSt) (p0 : Nat) (p2 : Option Nat) (p3 : Int32) : Option sSt := k12 S p0 p2 (p3 + (1 : Int32))
set_option maxHeartbeats 4000000 in
theorem jB_X0_settle_142 {X : jX} (C : jC X cX0_settle 6 RX0 rm_X0_settle) {Λ : sLay} {r : sSt} (E : jE X none rV Λ ((), r)) (k12 : sSt → Nat → (Option Nat) → Int32 → Option sSt) (hk12 : ∀ (S : sSt) (p0 : Nat) (tp0 : isK Λ 0 p0) (p2 : Option Nat) (tp2 : okK Λ 7 p2) (p3 : Int32), J X 6 0 0 12 [(0, vR (some p0)), (2, vR p2), (3, vI p3)] [] Λ S (k12 S p0 p2 p3 = some r)) : ∀ (S : sSt) (p0 : Nat) (tp0 : isK Λ 0 p0) (p2 : Option Nat) (tp2 : okK Λ 7 p2) (p3 : Int32), J X 6 0 0 142 [(0, vR (some p0)), (2, vR p2), (3, vI p3)] [] Λ S (B_X0_settle_142 Λ.2.2 k12 S p0 p2 p3 = some r) := by
  intro S p0 tp0 p2 tp2 p3
  unfold B_X0_settle_142
  refine j_iinc C (v := (1 : Int32)) (L' := [(3, vI (p3 + (1 : Int32))), (0, vR (some p0)), (2, vR p2)]) dX0_settle_142 2 rfl (by decide) (by decide) rfl ?_
  refine j_goto C (tgt := 12) dX0_settle_145 (by decide) ?_
  refine j_sub (L' := [(0, vR (some p0)), (2, vR p2), (3, vI (p3 + (1 : Int32)))]) [1, 2, 0] rfl ?_
  exact hk12 S p0 tp0 p2 tp2 (p3 + (1 : Int32))
def B_X0_settle_71 (N : Nat → Nat) (k12 : sSt → Nat → (Option Nat) → Int32 → Option sSt) (S : sSt) (p0 : Nat) (p2 : Option Nat) (p3 : Int32) (p4 : Option Nat) : Option sSt := Option.bind (F_X0_close N S p4) (fun S11 => bnd (sFI S11 1 p0 ((gFI S11 1 p0) - (1 : Int32))) (fun S12 => B_X0_settle_142 N k12 S12 p0 p2 p3))
set_option maxHeartbeats 4000000 in
theorem jB_X0_settle_71 {X : jX} (C : jC X cX0_settle 6 RX0 rm_X0_settle) {Λ : sLay} {r : sSt} (E : jE X none rV Λ ((), r)) (k12 : sSt → Nat → (Option Nat) → Int32 → Option sSt) (hk12 : ∀ (S : sSt) (p0 : Nat) (tp0 : isK Λ 0 p0) (p2 : Option Nat) (tp2 : okK Λ 7 p2) (p3 : Int32), J X 6 0 0 12 [(0, vR (some p0)), (2, vR p2), (3, vI p3)] [] Λ S (k12 S p0 p2 p3 = some r)) : ∀ (S : sSt) (p0 : Nat) (tp0 : isK Λ 0 p0) (p2 : Option Nat) (tp2 : okK Λ 7 p2) (p3 : Int32) (p4 : Option Nat) (tp4 : okK Λ 5 p4), J X 6 0 0 71 [(0, vR (some p0)), (2, vR p2), (3, vI p3), (4, vR p4)] [] Λ S (B_X0_settle_71 Λ.2.2 k12 S p0 p2 p3 p4 = some r) := by
  intro S p0 tp0 p2 tp2 p3 p4 tp4
  unfold B_X0_settle_71
  refine j_aload C dX0_settle_71 3 rfl ?_
  refine j_cSVV C [vR p4] [] (fun _ e => c_X0_close p4 tp4 e) kYX0_close kSX0_close kmX0_95 rfl rfl ⟨rfl, rfl, by decide, by decide⟩ (Nat.le_of_ble_eq_true rfl) ⟨Nat.zero_le _, Nat.zero_le _⟩ dX0_settle_73 (fun S11 => ?_)
  refine j_aload_n C dX0_settle_76 0 rfl ?_
  refine j_dup C dX0_settle_77 rfl ?_
  refine j_getI C kK0 f1 kfX0_17 (by decide) tp0 dX0_settle_78 ?_
  refine j_iconst C (v := (1 : Int32)) dX0_settle_81 (by decide) ?_
  refine j_isub C dX0_settle_82 ?_
  refine j_putI C kK0 f1 kfX0_17 (by decide) rfl rfl rfl tp0 dX0_settle_83 (fun S12 => ?_)
  refine j_goto C (tgt := 142) dX0_settle_86 (by decide) ?_
  refine j_sub (L' := [(0, vR (some p0)), (2, vR p2), (3, vI p3)]) [0, 1, 2] rfl ?_
  exact jB_X0_settle_142 C E k12 hk12 S12 p0 tp0 p2 tp2 p3
def B_X0_settle_124 (N : Nat → Nat) (k12 : sSt → Nat → (Option Nat) → Int32 → Option sSt) (S : sSt) (p0 : Nat) (p2 : Nat) (p3 : Int32) (p4 : Nat) (p5 : Option Nat) : Option sSt := Option.bind (F_X0_addPart N S (some p4) p5) (fun S22 => bnd (sFI S22 209 p4 ((gFI S22 209 p4) + (1 : Int32))) (fun S23 => B_X0_settle_142 N k12 S23 p0 (some p2) p3))
set_option maxHeartbeats 4000000 in
theorem jB_X0_settle_124 {X : jX} (C : jC X cX0_settle 6 RX0 rm_X0_settle) {Λ : sLay} {r : sSt} (E : jE X none rV Λ ((), r)) (k12 : sSt → Nat → (Option Nat) → Int32 → Option sSt) (hk12 : ∀ (S : sSt) (p0 : Nat) (tp0 : isK Λ 0 p0) (p2 : Option Nat) (tp2 : okK Λ 7 p2) (p3 : Int32), J X 6 0 0 12 [(0, vR (some p0)), (2, vR p2), (3, vI p3)] [] Λ S (k12 S p0 p2 p3 = some r)) : ∀ (S : sSt) (p0 : Nat) (tp0 : isK Λ 0 p0) (p2 : Nat) (tp2 : isK Λ 7 p2) (p3 : Int32) (p4 : Nat) (tp4 : isK Λ 5 p4) (p5 : Option Nat) (tp5 : okK Λ 5 p5), J X 6 0 0 124 [(0, vR (some p0)), (2, vR (some p2)), (3, vI p3), (4, vR (some p4)), (5, vR p5)] [] Λ S (B_X0_settle_124 Λ.2.2 k12 S p0 p2 p3 p4 p5 = some r) := by
  intro S p0 tp0 p2 tp2 p3 p4 tp4 p5 tp5
  unfold B_X0_settle_124
  refine j_aload C dX0_settle_124 3 rfl ?_
  refine j_aload C dX0_settle_126 4 rfl ?_
  refine j_cSVV C [vR (some p4), vR p5] [] (fun _ e => c_X0_addPart (some p4) (okS tp4) p5 tp5 e) kYX0_addPart kSX0_addPart kmX0_102 rfl rfl ⟨rfl, rfl, by decide, by decide⟩ (Nat.le_of_ble_eq_true rfl) ⟨Nat.zero_le _, Nat.zero_le _⟩ dX0_settle_128 (fun S22 => ?_)
  refine j_aload C dX0_settle_131 3 rfl ?_
  refine j_dup C dX0_settle_133 rfl ?_
  refine j_getI C kK5 f209 kfX0_83 (by decide) tp4 dX0_settle_134 ?_
  refine j_iconst C (v := (1 : Int32)) dX0_settle_137 (by decide) ?_
  refine j_iadd C dX0_settle_138 ?_
  refine j_putI C kK5 f209 kfX0_83 (by decide) rfl rfl rfl tp4 dX0_settle_139 (fun S23 => ?_)
  refine j_sub (L' := [(0, vR (some p0)), (2, vR (some p2)), (3, vI p3)]) [0, 1, 2] rfl ?_
  exact jB_X0_settle_142 C E k12 hk12 S23 p0 tp0 (some p2) (okS tp2) p3
def Y_X0_settle_12 (N : Nat → Nat) (rec : sSt → Nat → (Option Nat) → Int32 → Option sSt) (S : sSt) (p0 : Nat) (p2 : Option Nat) (p3 : Int32) : Option sSt := (if (1000000 : Int32) ≤ p3 then some S else (if (gFI S 1 p0) ≤ 0 then some S else bnd (gFR S 0 p0) (fun x4 => Option.bind x4 (fun a5 => (if (nI (N a5)) < (gFI S 1 p0) then some S else bnd (gFR S 0 p0) (fun x6 => Option.bind x6 (fun a7 => gi ((gFI S 1 p0) - (1 : Int32)) (N a7) (bnd (gAR S a7 (Int32.toNatClampNeg ((gFI S 1 p0) - (1 : Int32)))) (fun x8 => onl x8 (B_X0_settle_71 N rec S p0 p2 p3 none) (fun a9 => bnd (gFR S 201 a9) (fun x13 => Option.bind x13 (fun a14 => Option.bind (F_X1_length N S a14) (fun v15 => (if (gFI S 209 a9) < v15 then Option.bind p2 (fun a17 => Option.bind (F_X7_partOf N S a17 (some a9) (gFI S 209 a9)) (fun v18 => onl v18 (B_X0_settle_124 N rec S p0 a17 p3 a9 none) (fun a20 => (if (gFI S 205 a20) = 0 then Option.bind (F_X0_enter N S p0 (some a20)) (fun S25 => B_X0_settle_142 N rec S25 p0 (some a17) p3) else B_X0_settle_124 N rec S p0 a17 p3 a9 (some a20))))) else B_X0_settle_71 N rec S p0 p2 p3 (some a9)))))))))))))))
set_option maxHeartbeats 4000000 in
theorem jY_X0_settle_12 {X : jX} (C : jC X cX0_settle 6 RX0 rm_X0_settle) {Λ : sLay} {r : sSt} (E : jE X none rV Λ ((), r)) (rec : sSt → Nat → (Option Nat) → Int32 → Option sSt) (hrec : ∀ (S : sSt) (p0 : Nat) (tp0 : isK Λ 0 p0) (p2 : Option Nat) (tp2 : okK Λ 7 p2) (p3 : Int32), J X 6 0 0 12 [(0, vR (some p0)), (2, vR p2), (3, vI p3)] [] Λ S (rec S p0 p2 p3 = some r)) : ∀ (S : sSt) (p0 : Nat) (tp0 : isK Λ 0 p0) (p2 : Option Nat) (tp2 : okK Λ 7 p2) (p3 : Int32), J X 6 0 0 12 [(0, vR (some p0)), (2, vR p2), (3, vI p3)] [] Λ S (Y_X0_settle_12 Λ.2.2 rec S p0 p2 p3 = some r) := by
  intro S p0 tp0 p2 tp2 p3
  unfold Y_X0_settle_12
  refine j_iload_n C dX0_settle_12 2 rfl ?_
  refine j_ldc C kcX0_82 dX0_settle_13 ?_
  refine j_icmp_ge C (tgt := 148) dX0_settle_15 (by decide) ?_ ?_
  · exact j_vretP C E dX0_settle_148
  · refine j_aload_n C dX0_settle_18 0 rfl ?_
    refine j_getI C kK0 f1 kfX0_17 (by decide) tp0 dX0_settle_19 ?_
    refine j_if_le C (tgt := 148) dX0_settle_22 (by decide) ?_ ?_
    · exact j_vretP C E dX0_settle_148
    · refine j_aload_n C dX0_settle_25 0 rfl ?_
      refine j_getI C kK0 f1 kfX0_17 (by decide) tp0 dX0_settle_26 ?_
      refine j_aload_n C dX0_settle_29 0 rfl ?_
      refine j_getR C kK0 f0 kfX0_11 (by decide) rfl tp0 dX0_settle_30 (fun x4 tx4 => ?_)
      refine j_oc tx4 (fun a5 ta5 ea5 => ?_)
      subst ea5
      refine j_alen C ta5 (by decide) dX0_settle_33 ?_
      refine j_icmp_gt C (tgt := 148) dX0_settle_34 (by decide) ?_ ?_
      · exact j_vretP C E dX0_settle_148
      · refine j_aload_n C dX0_settle_37 0 rfl ?_
        refine j_getR C kK0 f0 kfX0_11 (by decide) rfl tp0 dX0_settle_38 (fun x6 tx6 => ?_)
        refine j_aload_n C dX0_settle_41 0 rfl ?_
        refine j_getI C kK0 f1 kfX0_17 (by decide) tp0 dX0_settle_42 ?_
        refine j_iconst C (v := (1 : Int32)) dX0_settle_45 (by decide) ?_
        refine j_isub C dX0_settle_46 ?_
        refine j_oc tx6 (fun a7 ta7 ea7 => ?_)
        subst ea7
        refine j_aald C ta7 (by decide) rfl dX0_settle_47 (fun x8 tx8 => ?_)
        refine j_astore C (L' := [(4, vR x8), (0, vR (some p0)), (2, vR p2), (3, vI p3)]) dX0_settle_48 (by decide) rfl ?_
        refine j_aload C dX0_settle_50 0 rfl ?_
        refine j_ifnull C (tgt := 71) tx8 dX0_settle_52 (by decide) (fun ea9 => ?_) (fun a9 ta9 ea9 => ?_)
        · subst ea9
          refine j_sub (L' := [(0, vR (some p0)), (2, vR p2), (3, vI p3), (4, vR none)]) [1, 2, 3, 0] rfl ?_
          exact jB_X0_settle_71 C E rec hrec S p0 tp0 p2 tp2 p3 none okN
        · subst ea9
          refine j_aload C dX0_settle_55 0 rfl ?_
          refine j_getI C kK5 f209 kfX0_83 (by decide) ta9 dX0_settle_57 ?_
          refine j_aload C dX0_settle_60 0 rfl ?_
          refine j_getR C kK5 f201 kfX0_86 (by decide) rfl ta9 dX0_settle_62 (fun x13 tx13 => ?_)
          refine j_oc tx13 (fun a14 ta14 ea14 => ?_)
          subst ea14
          refine j_cVIP C [] [vI (gFI S 209 a9)] (fun _ e => c_X1_length a14 ta14 e) kYX1_length kVX1_length kmX0_90 kO1 ta14 rfl rfl ⟨rfl, rfl, by decide, by decide⟩ (Nat.le_of_ble_eq_true rfl) ⟨Nat.zero_le _, Nat.zero_le _⟩ dX0_settle_65 (fun v15 => ?_)
          refine j_icmp_lt C (tgt := 89) dX0_settle_68 (by decide) ?_ ?_
          · refine j_aload_n C dX0_settle_89 2 rfl ?_
            refine j_aload C dX0_settle_90 0 rfl ?_
            refine j_aload C dX0_settle_92 0 rfl ?_
            refine j_getI C kK5 f209 kfX0_83 (by decide) ta9 dX0_settle_94 ?_
            refine j_oc tp2 (fun a17 ta17 ea17 => ?_)
            subst ea17
            refine j_cVRP C [vR (some a9), vI (gFI S 209 a9)] [] (fun _ e => c_X7_partOf a17 ta17 (some a9) (okS ta9) (gFI S 209 a9) e) kYX7_partOf kVX7_partOf kmX0_98 kO7 ta17 rfl rfl ⟨rfl, rfl, by decide, by decide⟩ (Nat.le_of_ble_eq_true rfl) ⟨Nat.zero_le _, Nat.zero_le _⟩ dX0_settle_97 (fun v18 tv18 => ?_)
            refine j_astore C (L' := [(5, vR v18), (4, vR (some a9)), (0, vR (some p0)), (2, vR (some a17)), (3, vI p3)]) dX0_settle_100 (by decide) rfl ?_
            refine j_aload C dX0_settle_102 0 rfl ?_
            refine j_ifnull C (tgt := 124) tv18 dX0_settle_104 (by decide) (fun ea20 => ?_) (fun a20 ta20 ea20 => ?_)
            · subst ea20
              refine j_sub (L' := [(0, vR (some p0)), (2, vR (some a17)), (3, vI p3), (4, vR (some a9)), (5, vR none)]) [2, 3, 4, 1, 0] rfl ?_
              exact jB_X0_settle_124 C E rec hrec S p0 tp0 a17 ta17 p3 a9 ta9 none okN
            · subst ea20
              refine j_aload C dX0_settle_107 0 rfl ?_
              refine j_getI C kK5 f205 kfX0_57 (by decide) ta20 dX0_settle_109 ?_
              refine j_if_ne C (tgt := 124) dX0_settle_112 (by decide) ?_ ?_
              · refine j_sub (L' := [(0, vR (some p0)), (2, vR (some a17)), (3, vI p3), (4, vR (some a9)), (5, vR (some a20))]) [2, 3, 4, 1, 0] rfl ?_
                exact jB_X0_settle_124 C E rec hrec S p0 tp0 a17 ta17 p3 a9 ta9 (some a20) (okS ta20)
              · refine j_aload_n C dX0_settle_115 2 rfl ?_
                refine j_aload C dX0_settle_116 0 rfl ?_
                refine j_cVVV C [vR (some a20)] [] (fun _ e => c_X0_enter p0 tp0 (some a20) (okS ta20) e) kYX0_enter kVX0_enter kmX0_78 kO0 tp0 rfl rfl ⟨rfl, rfl, by decide, by decide⟩ (Nat.le_of_ble_eq_true rfl) ⟨Nat.zero_le _, Nat.zero_le _⟩ dX0_settle_118 (fun S25 => ?_)
                refine j_goto C (tgt := 142) dX0_settle_121 (by decide) ?_
                refine j_sub (L' := [(0, vR (some p0)), (2, vR (some a17)), (3, vI p3)]) [2, 3, 4] rfl ?_
                exact jB_X0_settle_142 C E rec hrec S25 p0 tp0 (some a17) (okS ta17) p3
          · refine j_sub (L' := [(0, vR (some p0)), (2, vR p2), (3, vI p3), (4, vR (some a9))]) [1, 2, 3, 0] rfl ?_
            exact jB_X0_settle_71 C E rec hrec S p0 tp0 p2 tp2 p3 (some a9) (okS ta9)
def L_X0_settle_12 (N : Nat → Nat) (n : Nat) : sSt → Nat → (Option Nat) → Int32 → Option sSt := iter (fun _ _ _ _ => none) (Y_X0_settle_12 N) n
theorem jL_X0_settle_12 {X : jX} (C : jC X cX0_settle 6 RX0 rm_X0_settle) {Λ : sLay} {r : sSt} (E : jE X none rV Λ ((), r)) : ∀ (n : Nat) (S : sSt) (p0 : Nat) (tp0 : isK Λ 0 p0) (p2 : Option Nat) (tp2 : okK Λ 7 p2) (p3 : Int32), J X 6 0 0 12 [(0, vR (some p0)), (2, vR p2), (3, vI p3)] [] Λ S (L_X0_settle_12 Λ.2.2 n S p0 p2 p3 = some r) := by
  intro n
  induction n with
  | zero => intro S p0 tp0 p2 tp2 p3; exact j_no (fun h => by have h2 : (none : Option sSt) = some r := h; cases h2)
  | succ n ih => intro S p0 tp0 p2 tp2 p3; exact jY_X0_settle_12 C E (L_X0_settle_12 Λ.2.2 n) ih S p0 tp0 p2 tp2 p3
def F_X0_settle (N : Nat → Nat) (S : sSt) (p0 : Nat) (p1 : Option Nat) (p2 : Option Nat) : Option sSt := bnd (sFI S 1 p0 (0 : Int32)) (fun S1 => Option.bind (F_X0_enter N S1 p0 p1) (fun S3 => L_X0_settle_12 N FU S3 p0 p2 (0 : Int32)))
set_option maxHeartbeats 4000000 in
theorem jF_X0_settle {X : jX} (C : jC X cX0_settle 6 RX0 rm_X0_settle) {Λ : sLay} {S : sSt} {r : sSt} (E : jE X none rV Λ ((), r)) (p0 : Nat) (tp0 : isK Λ 0 p0) (p1 : Option Nat) (tp1 : okK Λ 5 p1) (p2 : Option Nat) (tp2 : okK Λ 7 p2) : J X 6 0 0 0 [(0, vR (some p0)), (1, vR p1), (2, vR p2)] [] Λ S (F_X0_settle Λ.2.2 S p0 p1 p2 = some r) := by
  unfold F_X0_settle
  refine j_aload_n C dX0_settle_0 0 rfl ?_
  refine j_iconst C (v := (0 : Int32)) dX0_settle_1 (by decide) ?_
  refine j_putI C kK0 f1 kfX0_17 (by decide) rfl rfl rfl tp0 dX0_settle_2 (fun S1 => ?_)
  refine j_aload_n C dX0_settle_5 0 rfl ?_
  refine j_aload_n C dX0_settle_6 1 rfl ?_
  refine j_cVVV C [vR p1] [] (fun _ e => c_X0_enter p0 tp0 p1 tp1 e) kYX0_enter kVX0_enter kmX0_78 kO0 tp0 rfl rfl ⟨rfl, rfl, by decide, by decide⟩ (Nat.le_of_ble_eq_true rfl) ⟨Nat.zero_le _, Nat.zero_le _⟩ dX0_settle_7 (fun S3 => ?_)
  refine j_iconst C (v := (0 : Int32)) dX0_settle_10 (by decide) ?_
  refine j_istore_n C (L' := [(3, vI (0 : Int32)), (0, vR (some p0)), (1, vR p1), (2, vR p2)]) dX0_settle_11 (by decide) rfl ?_
  refine j_sub (L' := [(0, vR (some p0)), (2, vR p2), (3, vI (0 : Int32))]) [1, 3, 0] rfl ?_
  exact jL_X0_settle_12 C E FU S3 p0 tp0 p2 tp2 (0 : Int32)
theorem c_X0_settle {l : Launch} {D : va_G} {cy : Nat → ClassId} {Λ : sLay} {S : sSt} (p0 : Nat) (tp0 : isK Λ 0 p0) (p1 : Option Nat) (tp1 : okK Λ 5 p1) (p2 : Option Nat) (tp2 : okK Λ 7 p2) {r : sSt} (h : F_X0_settle Λ.2.2 S p0 p1 p2 = some r) : jM l yX0_settle (Cond.code yX0_settle cX0_settle 6 none :: bigW) rm_X0_settle D cy Λ S [vR (some p0), vR p1, vR p2] rV ((), r) := jM_of (by decide +kernel) (Nat.le_of_ble_eq_true rfl) (fun X C E _ _ _ => j_sub [0, 1, 2] rfl (jF_X0_settle C E p0 tp0 p1 tp1 p2 tp2)) h
/-! RemakeNeeds2.sortOf(I)I -/
abbrev rm_X8_sortOf : Room := { frames := 0, cells := 0, slots := 0, locals := 0 }
def F_X8_sortOf (N : Nat → Nat) (S : sSt) (p0 : Int32) : Option Int32 := some (p0 / (32 : Int32))
set_option maxHeartbeats 4000000 in
theorem jF_X8_sortOf {X : jX} (C : jC X cX8_sortOf 1 RX8 rm_X8_sortOf) {Λ : sLay} {S : sSt} {r : Int32} (E : jE X (some .int) rI Λ (r, S)) (p0 : Int32) : J X 1 0 0 0 [(0, vI p0)] [] Λ S (F_X8_sortOf Λ.2.2 S p0 = some r) := by
  unfold F_X8_sortOf
  refine j_iload_n C dX8_sortOf_0 0 rfl ?_
  refine j_bipush C (v := (32 : Int32)) dX8_sortOf_1 (by decide) ?_
  refine j_idiv C dX8_sortOf_3 (by decide) ?_
  exact j_iretP C E dX8_sortOf_4
theorem c_X8_sortOf {l : Launch} {D : va_G} {cy : Nat → ClassId} {Λ : sLay} {S : sSt} (p0 : Int32) {r : Int32} (h : F_X8_sortOf Λ.2.2 S p0 = some r) : jM l yX8_sortOf (Cond.code yX8_sortOf cX8_sortOf 1 (some .int) :: bigW) rm_X8_sortOf D cy Λ S [vI p0] rI (r, S) := jM_of (by decide +kernel) (Nat.le_of_ble_eq_true rfl) (fun X C E _ _ _ => j_sub [0] rfl (jF_X8_sortOf C E p0)) h
/-! RemakeNeeds2.Constants.settleAll(LRemakeNeeds2$Units;)V -/
abbrev rm_X0_settleAll : Room := { frames := 4, cells := 0, slots := 0, locals := 96 }
def B_X0_settleAll_82 (N : Nat → Nat) (k6 : sSt → Nat → (Option Nat) → Int32 → Option sSt) (S : sSt) (p0 : Nat) (p1 : Nat) (p2 : Int32) : Option sSt := k6 S p0 (some p1) (p2 + (1 : Int32))
set_option maxHeartbeats 4000000 in
theorem jB_X0_settleAll_82 {X : jX} (C : jC X cX0_settleAll 6 RX0 rm_X0_settleAll) {Λ : sLay} {r : sSt} (E : jE X none rV Λ ((), r)) (k6 : sSt → Nat → (Option Nat) → Int32 → Option sSt) (hk6 : ∀ (S : sSt) (p0 : Nat) (tp0 : isK Λ 0 p0) (p1 : Option Nat) (tp1 : okK Λ 7 p1) (p2 : Int32), J X 6 0 0 6 [(0, vR (some p0)), (1, vR p1), (2, vI p2)] [] Λ S (k6 S p0 p1 p2 = some r)) : ∀ (S : sSt) (p0 : Nat) (tp0 : isK Λ 0 p0) (p1 : Nat) (tp1 : isK Λ 7 p1) (p2 : Int32), J X 6 0 0 82 [(0, vR (some p0)), (1, vR (some p1)), (2, vI p2)] [] Λ S (B_X0_settleAll_82 Λ.2.2 k6 S p0 p1 p2 = some r) := by
  intro S p0 tp0 p1 tp1 p2
  unfold B_X0_settleAll_82
  refine j_iinc C (v := (1 : Int32)) (L' := [(2, vI (p2 + (1 : Int32))), (0, vR (some p0)), (1, vR (some p1))]) dX0_settleAll_82 2 rfl (by decide) (by decide) rfl ?_
  refine j_goto C (tgt := 6) dX0_settleAll_85 (by decide) ?_
  refine j_sub (L' := [(0, vR (some p0)), (1, vR (some p1)), (2, vI (p2 + (1 : Int32)))]) [1, 2, 0] rfl ?_
  exact hk6 S p0 tp0 (some p1) (okS tp1) (p2 + (1 : Int32))
def B_X0_settleAll_76 (N : Nat → Nat) (k6 : sSt → Nat → (Option Nat) → Int32 → Option sSt) (k23 : sSt → Nat → Nat → Int32 → (Option Nat) → Int32 → Option sSt) (S : sSt) (p0 : Nat) (p1 : Nat) (p2 : Int32) (p3 : Nat) (p4 : Int32) : Option sSt := k23 S p0 p1 p2 (some p3) (p4 + (1 : Int32))
set_option maxHeartbeats 4000000 in
theorem jB_X0_settleAll_76 {X : jX} (C : jC X cX0_settleAll 6 RX0 rm_X0_settleAll) {Λ : sLay} {r : sSt} (E : jE X none rV Λ ((), r)) (k6 : sSt → Nat → (Option Nat) → Int32 → Option sSt) (hk6 : ∀ (S : sSt) (p0 : Nat) (tp0 : isK Λ 0 p0) (p1 : Option Nat) (tp1 : okK Λ 7 p1) (p2 : Int32), J X 6 0 0 6 [(0, vR (some p0)), (1, vR p1), (2, vI p2)] [] Λ S (k6 S p0 p1 p2 = some r)) (k23 : sSt → Nat → Nat → Int32 → (Option Nat) → Int32 → Option sSt) (hk23 : ∀ (S : sSt) (p0 : Nat) (tp0 : isK Λ 0 p0) (p1 : Nat) (tp1 : isK Λ 7 p1) (p2 : Int32) (p3 : Option Nat) (tp3 : okK Λ 6 p3) (p4 : Int32), J X 6 0 0 23 [(0, vR (some p0)), (1, vR (some p1)), (2, vI p2), (3, vR p3), (4, vI p4)] [] Λ S (k23 S p0 p1 p2 p3 p4 = some r)) : ∀ (S : sSt) (p0 : Nat) (tp0 : isK Λ 0 p0) (p1 : Nat) (tp1 : isK Λ 7 p1) (p2 : Int32) (p3 : Nat) (tp3 : isK Λ 6 p3) (p4 : Int32), J X 6 0 0 76 [(0, vR (some p0)), (1, vR (some p1)), (2, vI p2), (3, vR (some p3)), (4, vI p4)] [] Λ S (B_X0_settleAll_76 Λ.2.2 k6 k23 S p0 p1 p2 p3 p4 = some r) := by
  intro S p0 tp0 p1 tp1 p2 p3 tp3 p4
  unfold B_X0_settleAll_76
  refine j_iinc C (v := (1 : Int32)) (L' := [(4, vI (p4 + (1 : Int32))), (0, vR (some p0)), (1, vR (some p1)), (2, vI p2), (3, vR (some p3))]) dX0_settleAll_76 4 rfl (by decide) (by decide) rfl ?_
  refine j_goto C (tgt := 23) dX0_settleAll_79 (by decide) ?_
  refine j_sub (L' := [(0, vR (some p0)), (1, vR (some p1)), (2, vI p2), (3, vR (some p3)), (4, vI (p4 + (1 : Int32)))]) [1, 2, 3, 4, 0] rfl ?_
  exact hk23 S p0 tp0 p1 tp1 p2 (some p3) (okS tp3) (p4 + (1 : Int32))
def Y_X0_settleAll_23 (N : Nat → Nat) (k6 : sSt → Nat → (Option Nat) → Int32 → Option sSt) (rec : sSt → Nat → Nat → Int32 → (Option Nat) → Int32 → Option sSt) (S : sSt) (p0 : Nat) (p1 : Nat) (p2 : Int32) (p3 : Option Nat) (p4 : Int32) : Option sSt := onl p3 (B_X0_settleAll_82 N k6 S p0 p1 p2) (fun a6 => Option.bind (F_X6_thingCount N S a6) (fun v7 => (if v7 ≤ p4 then B_X0_settleAll_82 N k6 S p0 p1 p2 else Option.bind (F_X6_thingAt N S a6 p4) (fun v9 => onl v9 (B_X0_settleAll_76 N k6 rec S p0 p1 p2 a6 p4) (fun a11 => Option.bind (F_X8_sortOf N S (gFI S 202 a11)) (fun v12 => (if v12 = (1 : Int32) then (if (gFI S 205 a11) = 0 then Option.bind (F_X0_settle N S p0 (some a11) (some p1)) (fun S15 => B_X0_settleAll_76 N k6 rec S15 p0 p1 p2 a6 p4) else B_X0_settleAll_76 N k6 rec S p0 p1 p2 a6 p4) else B_X0_settleAll_76 N k6 rec S p0 p1 p2 a6 p4)))))))
set_option maxHeartbeats 4000000 in
theorem jY_X0_settleAll_23 {X : jX} (C : jC X cX0_settleAll 6 RX0 rm_X0_settleAll) {Λ : sLay} {r : sSt} (E : jE X none rV Λ ((), r)) (k6 : sSt → Nat → (Option Nat) → Int32 → Option sSt) (hk6 : ∀ (S : sSt) (p0 : Nat) (tp0 : isK Λ 0 p0) (p1 : Option Nat) (tp1 : okK Λ 7 p1) (p2 : Int32), J X 6 0 0 6 [(0, vR (some p0)), (1, vR p1), (2, vI p2)] [] Λ S (k6 S p0 p1 p2 = some r)) (rec : sSt → Nat → Nat → Int32 → (Option Nat) → Int32 → Option sSt) (hrec : ∀ (S : sSt) (p0 : Nat) (tp0 : isK Λ 0 p0) (p1 : Nat) (tp1 : isK Λ 7 p1) (p2 : Int32) (p3 : Option Nat) (tp3 : okK Λ 6 p3) (p4 : Int32), J X 6 0 0 23 [(0, vR (some p0)), (1, vR (some p1)), (2, vI p2), (3, vR p3), (4, vI p4)] [] Λ S (rec S p0 p1 p2 p3 p4 = some r)) : ∀ (S : sSt) (p0 : Nat) (tp0 : isK Λ 0 p0) (p1 : Nat) (tp1 : isK Λ 7 p1) (p2 : Int32) (p3 : Option Nat) (tp3 : okK Λ 6 p3) (p4 : Int32), J X 6 0 0 23 [(0, vR (some p0)), (1, vR (some p1)), (2, vI p2), (3, vR p3), (4, vI p4)] [] Λ S (Y_X0_settleAll_23 Λ.2.2 k6 rec S p0 p1 p2 p3 p4 = some r) := by
  intro S p0 tp0 p1 tp1 p2 p3 tp3 p4
  unfold Y_X0_settleAll_23
  refine j_aload_n C dX0_settleAll_23 3 rfl ?_
  refine j_ifnull C (tgt := 82) tp3 dX0_settleAll_24 (by decide) (fun ea6 => ?_) (fun a6 ta6 ea6 => ?_)
  · subst ea6
    refine j_sub (L' := [(0, vR (some p0)), (1, vR (some p1)), (2, vI p2)]) [0, 1, 2] rfl ?_
    exact jB_X0_settleAll_82 C E k6 hk6 S p0 tp0 p1 tp1 p2
  · subst ea6
    refine j_iload C dX0_settleAll_27 4 rfl ?_
    refine j_aload_n C dX0_settleAll_29 3 rfl ?_
    refine j_cVIP C [] [vI p4] (fun _ e => c_X6_thingCount a6 ta6 e) kYX6_thingCount kVX6_thingCount kmX0_40 kO6 ta6 rfl rfl ⟨rfl, rfl, by decide, by decide⟩ (Nat.le_of_ble_eq_true rfl) ⟨Nat.zero_le _, Nat.zero_le _⟩ dX0_settleAll_30 (fun v7 => ?_)
    refine j_icmp_ge C (tgt := 82) dX0_settleAll_33 (by decide) ?_ ?_
    · refine j_sub (L' := [(0, vR (some p0)), (1, vR (some p1)), (2, vI p2)]) [0, 1, 2] rfl ?_
      exact jB_X0_settleAll_82 C E k6 hk6 S p0 tp0 p1 tp1 p2
    · refine j_aload_n C dX0_settleAll_36 3 rfl ?_
      refine j_iload C dX0_settleAll_37 4 rfl ?_
      refine j_cVRP C [vI p4] [] (fun _ e => c_X6_thingAt a6 ta6 p4 e) kYX6_thingAt kVX6_thingAt kmX0_46 kO6 ta6 rfl rfl ⟨rfl, rfl, by decide, by decide⟩ (Nat.le_of_ble_eq_true rfl) ⟨Nat.zero_le _, Nat.zero_le _⟩ dX0_settleAll_39 (fun v9 tv9 => ?_)
      refine j_astore C (L' := [(5, vR v9), (0, vR (some p0)), (1, vR (some p1)), (2, vI p2), (3, vR (some a6)), (4, vI p4)]) dX0_settleAll_42 (by decide) rfl ?_
      refine j_aload C dX0_settleAll_44 0 rfl ?_
      refine j_ifnull C (tgt := 76) tv9 dX0_settleAll_46 (by decide) (fun ea11 => ?_) (fun a11 ta11 ea11 => ?_)
      · subst ea11
        refine j_sub (L' := [(0, vR (some p0)), (1, vR (some p1)), (2, vI p2), (3, vR (some a6)), (4, vI p4)]) [1, 2, 3, 4, 5] rfl ?_
        exact jB_X0_settleAll_76 C E k6 hk6 rec hrec S p0 tp0 p1 tp1 p2 a6 ta6 p4
      · subst ea11
        refine j_aload C dX0_settleAll_49 0 rfl ?_
        refine j_getI C kK5 f202 kfX0_50 (by decide) ta11 dX0_settleAll_51 ?_
        refine j_cNIP C [vI (gFI S 202 a11)] [] (fun _ e => c_X8_sortOf (gFI S 202 a11) e) kYX8_sortOf kSX8_sortOf (by decide +kernel : (RX0, 53, yX8_sortOf, "RemakeNeeds2") ∈ nests) rfl rfl ⟨rfl, rfl, by decide, by decide⟩ (Nat.le_of_ble_eq_true rfl) ⟨Nat.zero_le _, Nat.zero_le _⟩ dX0_settleAll_54 (fun v12 => ?_)
        refine j_iconst C (v := (1 : Int32)) dX0_settleAll_57 (by decide) ?_
        refine j_icmp_ne C (tgt := 76) dX0_settleAll_58 (by decide) ?_ ?_
        · refine j_sub (L' := [(0, vR (some p0)), (1, vR (some p1)), (2, vI p2), (3, vR (some a6)), (4, vI p4)]) [1, 2, 3, 4, 5] rfl ?_
          exact jB_X0_settleAll_76 C E k6 hk6 rec hrec S p0 tp0 p1 tp1 p2 a6 ta6 p4
        · refine j_aload C dX0_settleAll_61 0 rfl ?_
          refine j_getI C kK5 f205 kfX0_57 (by decide) ta11 dX0_settleAll_63 ?_
          refine j_if_ne C (tgt := 76) dX0_settleAll_66 (by decide) ?_ ?_
          · refine j_sub (L' := [(0, vR (some p0)), (1, vR (some p1)), (2, vI p2), (3, vR (some a6)), (4, vI p4)]) [1, 2, 3, 4, 5] rfl ?_
            exact jB_X0_settleAll_76 C E k6 hk6 rec hrec S p0 tp0 p1 tp1 p2 a6 ta6 p4
          · refine j_aload_n C dX0_settleAll_69 1 rfl ?_
            refine j_aload C dX0_settleAll_70 0 rfl ?_
            refine j_aload_n C dX0_settleAll_72 2 rfl ?_
            refine j_cVVV C [vR (some a11), vR (some p1)] [] (fun _ e => c_X0_settle p0 tp0 (some a11) (okS ta11) (some p1) (okS tp1) e) kYX0_settle kVX0_settle kmX0_60 kO0 tp0 rfl rfl ⟨rfl, rfl, by decide, by decide⟩ (Nat.le_of_ble_eq_true rfl) ⟨Nat.zero_le _, Nat.zero_le _⟩ dX0_settleAll_73 (fun S15 => ?_)
            refine j_sub (L' := [(0, vR (some p0)), (1, vR (some p1)), (2, vI p2), (3, vR (some a6)), (4, vI p4)]) [1, 2, 3, 4, 5] rfl ?_
            exact jB_X0_settleAll_76 C E k6 hk6 rec hrec S15 p0 tp0 p1 tp1 p2 a6 ta6 p4
def L_X0_settleAll_23 (N : Nat → Nat) (k6 : sSt → Nat → (Option Nat) → Int32 → Option sSt) (n : Nat) : sSt → Nat → Nat → Int32 → (Option Nat) → Int32 → Option sSt := iter (fun _ _ _ _ _ _ => none) (Y_X0_settleAll_23 N k6) n
theorem jL_X0_settleAll_23 {X : jX} (C : jC X cX0_settleAll 6 RX0 rm_X0_settleAll) {Λ : sLay} {r : sSt} (E : jE X none rV Λ ((), r)) (k6 : sSt → Nat → (Option Nat) → Int32 → Option sSt) (hk6 : ∀ (S : sSt) (p0 : Nat) (tp0 : isK Λ 0 p0) (p1 : Option Nat) (tp1 : okK Λ 7 p1) (p2 : Int32), J X 6 0 0 6 [(0, vR (some p0)), (1, vR p1), (2, vI p2)] [] Λ S (k6 S p0 p1 p2 = some r)) : ∀ (n : Nat) (S : sSt) (p0 : Nat) (tp0 : isK Λ 0 p0) (p1 : Nat) (tp1 : isK Λ 7 p1) (p2 : Int32) (p3 : Option Nat) (tp3 : okK Λ 6 p3) (p4 : Int32), J X 6 0 0 23 [(0, vR (some p0)), (1, vR (some p1)), (2, vI p2), (3, vR p3), (4, vI p4)] [] Λ S (L_X0_settleAll_23 Λ.2.2 k6 n S p0 p1 p2 p3 p4 = some r) := by
  intro n
  induction n with
  | zero => intro S p0 tp0 p1 tp1 p2 p3 tp3 p4; exact j_no (fun h => by have h2 : (none : Option sSt) = some r := h; cases h2)
  | succ n ih => intro S p0 tp0 p1 tp1 p2 p3 tp3 p4; exact jY_X0_settleAll_23 C E k6 hk6 (L_X0_settleAll_23 Λ.2.2 k6 n) ih S p0 tp0 p1 tp1 p2 p3 tp3 p4
def Y_X0_settleAll_6 (N : Nat → Nat) (rec : sSt → Nat → (Option Nat) → Int32 → Option sSt) (S : sSt) (p0 : Nat) (p1 : Option Nat) (p2 : Int32) : Option sSt := Option.bind p1 (fun a3 => (if (gFI S 281 a3) ≤ p2 then some S else Option.bind (F_X7_at N S a3 p2) (fun v4 => L_X0_settleAll_23 N rec FU S p0 a3 p2 v4 (0 : Int32))))
set_option maxHeartbeats 4000000 in
theorem jY_X0_settleAll_6 {X : jX} (C : jC X cX0_settleAll 6 RX0 rm_X0_settleAll) {Λ : sLay} {r : sSt} (E : jE X none rV Λ ((), r)) (rec : sSt → Nat → (Option Nat) → Int32 → Option sSt) (hrec : ∀ (S : sSt) (p0 : Nat) (tp0 : isK Λ 0 p0) (p1 : Option Nat) (tp1 : okK Λ 7 p1) (p2 : Int32), J X 6 0 0 6 [(0, vR (some p0)), (1, vR p1), (2, vI p2)] [] Λ S (rec S p0 p1 p2 = some r)) : ∀ (S : sSt) (p0 : Nat) (tp0 : isK Λ 0 p0) (p1 : Option Nat) (tp1 : okK Λ 7 p1) (p2 : Int32), J X 6 0 0 6 [(0, vR (some p0)), (1, vR p1), (2, vI p2)] [] Λ S (Y_X0_settleAll_6 Λ.2.2 rec S p0 p1 p2 = some r) := by
  intro S p0 tp0 p1 tp1 p2
  unfold Y_X0_settleAll_6
  refine j_iload_n C dX0_settleAll_6 2 rfl ?_
  refine j_aload_n C dX0_settleAll_7 1 rfl ?_
  refine j_oc tp1 (fun a3 ta3 ea3 => ?_)
  subst ea3
  refine j_getI C kK7 f281 kfX0_31 (by decide) ta3 dX0_settleAll_8 ?_
  refine j_icmp_ge C (tgt := 88) dX0_settleAll_11 (by decide) ?_ ?_
  · exact j_vretP C E dX0_settleAll_88
  · refine j_aload_n C dX0_settleAll_14 1 rfl ?_
    refine j_iload_n C dX0_settleAll_15 2 rfl ?_
    refine j_cVRP C [vI p2] [] (fun _ e => c_X7_at a3 ta3 p2 e) kYX7_at kVX7_at kmX0_36 kO7 ta3 rfl rfl ⟨rfl, rfl, by decide, by decide⟩ (Nat.le_of_ble_eq_true rfl) ⟨Nat.zero_le _, Nat.zero_le _⟩ dX0_settleAll_16 (fun v4 tv4 => ?_)
    refine j_astore_n C (L' := [(3, vR v4), (0, vR (some p0)), (1, vR (some a3)), (2, vI p2)]) dX0_settleAll_19 (by decide) rfl ?_
    refine j_iconst C (v := (0 : Int32)) dX0_settleAll_20 (by decide) ?_
    refine j_istore C (L' := [(4, vI (0 : Int32)), (3, vR v4), (0, vR (some p0)), (1, vR (some a3)), (2, vI p2)]) dX0_settleAll_21 (by decide) rfl ?_
    refine j_sub (L' := [(0, vR (some p0)), (1, vR (some a3)), (2, vI p2), (3, vR v4), (4, vI (0 : Int32))]) [2, 3, 4, 1, 0] rfl ?_
    exact jL_X0_settleAll_23 C E rec hrec FU S p0 tp0 a3 ta3 p2 v4 tv4 (0 : Int32)
def L_X0_settleAll_6 (N : Nat → Nat) (n : Nat) : sSt → Nat → (Option Nat) → Int32 → Option sSt := iter (fun _ _ _ _ => none) (Y_X0_settleAll_6 N) n
theorem jL_X0_settleAll_6 {X : jX} (C : jC X cX0_settleAll 6 RX0 rm_X0_settleAll) {Λ : sLay} {r : sSt} (E : jE X none rV Λ ((), r)) : ∀ (n : Nat) (S : sSt) (p0 : Nat) (tp0 : isK Λ 0 p0) (p1 : Option Nat) (tp1 : okK Λ 7 p1) (p2 : Int32), J X 6 0 0 6 [(0, vR (some p0)), (1, vR p1), (2, vI p2)] [] Λ S (L_X0_settleAll_6 Λ.2.2 n S p0 p1 p2 = some r) := by
  intro n
  induction n with
  | zero => intro S p0 tp0 p1 tp1 p2; exact j_no (fun h => by have h2 : (none : Option sSt) = some r := h; cases h2)
  | succ n ih => intro S p0 tp0 p1 tp1 p2; exact jY_X0_settleAll_6 C E (L_X0_settleAll_6 Λ.2.2 n) ih S p0 tp0 p1 tp1 p2
def F_X0_settleAll (N : Nat → Nat) (S : sSt) (p0 : Nat) (p1 : Option Nat) : Option sSt := Option.bind (F_X0_refresh N S p1) (fun S2 => L_X0_settleAll_6 N FU S2 p0 p1 (0 : Int32))
set_option maxHeartbeats 4000000 in
theorem jF_X0_settleAll {X : jX} (C : jC X cX0_settleAll 6 RX0 rm_X0_settleAll) {Λ : sLay} {S : sSt} {r : sSt} (E : jE X none rV Λ ((), r)) (p0 : Nat) (tp0 : isK Λ 0 p0) (p1 : Option Nat) (tp1 : okK Λ 7 p1) : J X 6 0 0 0 [(0, vR (some p0)), (1, vR p1)] [] Λ S (F_X0_settleAll Λ.2.2 S p0 p1 = some r) := by
  unfold F_X0_settleAll
  refine j_aload_n C dX0_settleAll_0 1 rfl ?_
  refine j_cSVV C [vR p1] [] (fun _ e => c_X0_refresh p1 tp1 e) kYX0_refresh kSX0_refresh kmX0_27 rfl rfl ⟨rfl, rfl, by decide, by decide⟩ (Nat.le_of_ble_eq_true rfl) ⟨Nat.zero_le _, Nat.zero_le _⟩ dX0_settleAll_1 (fun S2 => ?_)
  refine j_iconst C (v := (0 : Int32)) dX0_settleAll_4 (by decide) ?_
  refine j_istore_n C (L' := [(2, vI (0 : Int32)), (0, vR (some p0)), (1, vR p1)]) dX0_settleAll_5 (by decide) rfl ?_
  refine j_sub (L' := [(0, vR (some p0)), (1, vR p1), (2, vI (0 : Int32))]) [1, 2, 0] rfl ?_
  exact jL_X0_settleAll_6 C E FU S2 p0 tp0 p1 tp1 (0 : Int32)
theorem c_X0_settleAll {l : Launch} {D : va_G} {cy : Nat → ClassId} {Λ : sLay} {S : sSt} (p0 : Nat) (tp0 : isK Λ 0 p0) (p1 : Option Nat) (tp1 : okK Λ 7 p1) {r : sSt} (h : F_X0_settleAll Λ.2.2 S p0 p1 = some r) : jM l yX0_settleAll (Cond.code yX0_settleAll cX0_settleAll 6 none :: bigW) rm_X0_settleAll D cy Λ S [vR (some p0), vR p1] rV ((), r) := jM_of (by decide +kernel) (Nat.le_of_ble_eq_true rfl) (fun X C E _ _ _ => j_sub [0, 1] rfl (jF_X0_settleAll C E p0 tp0 p1 tp1)) h
/-! RemakeNeeds2.Ints.append(I)Z -/
abbrev rm_X1_append : Room := { frames := 0, cells := 0, slots := 0, locals := 0 }
def F_X1_append (N : Nat → Nat) (S : sSt) (p0 : Nat) (p1 : Int32) : Option (Int32 × sSt) := (if (gFI S 41 p0) < 0 then some ((0 : Int32), S) else bnd (gFR S 40 p0) (fun x1 => Option.bind x1 (fun a2 => (if (gFI S 41 p0) < (nI (N a2)) then bnd (gFR S 40 p0) (fun x3 => Option.bind x3 (fun a4 => gi (gFI S 41 p0) (N a4) (bnd (sAI S a4 (Int32.toNatClampNeg (gFI S 41 p0)) p1) (fun S5 => bnd (sFI S5 41 p0 ((gFI S5 41 p0) + (1 : Int32))) (fun S6 => some ((1 : Int32), S6)))))) else some ((0 : Int32), S)))))
set_option maxHeartbeats 4000000 in
theorem jF_X1_append {X : jX} (C : jC X cX1_append 2 RX1 rm_X1_append) {Λ : sLay} {S : sSt} {r : (Int32 × sSt)} (E : jE X (some .boolean) rI Λ r) (p0 : Nat) (tp0 : isK Λ 1 p0) (p1 : Int32) : J X 2 0 0 0 [(0, vR (some p0)), (1, vI p1)] [] Λ S (F_X1_append Λ.2.2 S p0 p1 = some r) := by
  unfold F_X1_append
  refine j_aload_n C dX1_append_0 0 rfl ?_
  refine j_getI C kK1 f41 kfX1_21 (by decide) tp0 dX1_append_1 ?_
  refine j_if_lt C (tgt := 19) dX1_append_4 (by decide) ?_ ?_
  · refine j_iconst C (v := (0 : Int32)) dX1_append_19 (by decide) ?_
    exact j_zretK C E (by decide) dX1_append_20
  · refine j_aload_n C dX1_append_7 0 rfl ?_
    refine j_getI C kK1 f41 kfX1_21 (by decide) tp0 dX1_append_8 ?_
    refine j_aload_n C dX1_append_11 0 rfl ?_
    refine j_getR C kK1 f40 kfX1_15 (by decide) rfl tp0 dX1_append_12 (fun x1 tx1 => ?_)
    refine j_oc tx1 (fun a2 ta2 ea2 => ?_)
    subst ea2
    refine j_alen C ta2 (by decide) dX1_append_15 ?_
    refine j_icmp_lt C (tgt := 21) dX1_append_16 (by decide) ?_ ?_
    · refine j_aload_n C dX1_append_21 0 rfl ?_
      refine j_getR C kK1 f40 kfX1_15 (by decide) rfl tp0 dX1_append_22 (fun x3 tx3 => ?_)
      refine j_aload_n C dX1_append_25 0 rfl ?_
      refine j_getI C kK1 f41 kfX1_21 (by decide) tp0 dX1_append_26 ?_
      refine j_iload_n C dX1_append_29 1 rfl ?_
      refine j_oc tx3 (fun a4 ta4 ea4 => ?_)
      subst ea4
      refine j_iast C ta4 dX1_append_30 (fun S5 => ?_)
      refine j_aload_n C dX1_append_31 0 rfl ?_
      refine j_dup C dX1_append_32 rfl ?_
      refine j_getI C kK1 f41 kfX1_21 (by decide) tp0 dX1_append_33 ?_
      refine j_iconst C (v := (1 : Int32)) dX1_append_36 (by decide) ?_
      refine j_iadd C dX1_append_37 ?_
      refine j_putI C kK1 f41 kfX1_21 (by decide) rfl rfl rfl tp0 dX1_append_38 (fun S6 => ?_)
      refine j_iconst C (v := (1 : Int32)) dX1_append_41 (by decide) ?_
      exact j_zretK C E (by decide) dX1_append_42
    · refine j_iconst C (v := (0 : Int32)) dX1_append_19 (by decide) ?_
      exact j_zretK C E (by decide) dX1_append_20
theorem c_X1_append {l : Launch} {D : va_G} {cy : Nat → ClassId} {Λ : sLay} {S : sSt} (p0 : Nat) (tp0 : isK Λ 1 p0) (p1 : Int32) {v : Int32} {S1 : sSt} (h : F_X1_append Λ.2.2 S p0 p1 = some (v, S1)) : jM l yX1_append (Cond.code yX1_append cX1_append 2 (some .boolean) :: bigW) rm_X1_append D cy Λ S [vR (some p0), vI p1] rI (v, S1) := jM_of (by decide +kernel) (Nat.le_of_ble_eq_true rfl) (fun X C E _ _ _ => j_sub [0, 1] rfl (jF_X1_append C E p0 tp0 p1)) h
/-! RemakeNeeds2.Ints.dropAt(I)V -/
abbrev rm_X1_dropAt : Room := { frames := 0, cells := 0, slots := 0, locals := 0 }
def B_X1_dropAt_56 (N : Nat → Nat) (S : sSt) (p0 : Nat) : Option sSt := bnd (sFI S 41 p0 ((gFI S 41 p0) - (1 : Int32))) (fun S1 => some S1)
set_option maxHeartbeats 4000000 in
theorem jB_X1_dropAt_56 {X : jX} (C : jC X cX1_dropAt 3 RX1 rm_X1_dropAt) {Λ : sLay} {r : sSt} (E : jE X none rV Λ ((), r)) : ∀ (S : sSt) (p0 : Nat) (tp0 : isK Λ 1 p0), J X 3 0 0 56 [(0, vR (some p0))] [] Λ S (B_X1_dropAt_56 Λ.2.2 S p0 = some r) := by
  intro S p0 tp0
  unfold B_X1_dropAt_56
  refine j_aload_n C dX1_dropAt_56 0 rfl ?_
  refine j_dup C dX1_dropAt_57 rfl ?_
  refine j_getI C kK1 f41 kfX1_21 (by decide) tp0 dX1_dropAt_58 ?_
  refine j_iconst C (v := (1 : Int32)) dX1_dropAt_61 (by decide) ?_
  refine j_isub C dX1_dropAt_62 ?_
  refine j_putI C kK1 f41 kfX1_21 (by decide) rfl rfl rfl tp0 dX1_dropAt_63 (fun S1 => ?_)
  exact j_vretP C E dX1_dropAt_66
def Y_X1_dropAt_15 (N : Nat → Nat) (rec : sSt → Nat → Int32 → Option sSt) (S : sSt) (p0 : Nat) (p2 : Int32) : Option sSt := (if (gFI S 41 p0) ≤ (p2 + (1 : Int32)) then B_X1_dropAt_56 N S p0 else bnd (gFR S 40 p0) (fun x2 => Option.bind x2 (fun a3 => (if (nI (N a3)) ≤ (p2 + (1 : Int32)) then B_X1_dropAt_56 N S p0 else bnd (gFR S 40 p0) (fun x4 => bnd (gFR S 40 p0) (fun x5 => Option.bind x5 (fun a6 => gi (p2 + (1 : Int32)) (N a6) (Option.bind x4 (fun a7 => gi p2 (N a7) (bnd (sAI S a7 (Int32.toNatClampNeg p2) (gAI S a6 (Int32.toNatClampNeg (p2 + (1 : Int32))))) (fun S8 => rec S8 p0 (p2 + (1 : Int32)))))))))))))
set_option maxHeartbeats 4000000 in
theorem jY_X1_dropAt_15 {X : jX} (C : jC X cX1_dropAt 3 RX1 rm_X1_dropAt) {Λ : sLay} {r : sSt} (E : jE X none rV Λ ((), r)) (rec : sSt → Nat → Int32 → Option sSt) (hrec : ∀ (S : sSt) (p0 : Nat) (tp0 : isK Λ 1 p0) (p2 : Int32), J X 3 0 0 15 [(0, vR (some p0)), (2, vI p2)] [] Λ S (rec S p0 p2 = some r)) : ∀ (S : sSt) (p0 : Nat) (tp0 : isK Λ 1 p0) (p2 : Int32), J X 3 0 0 15 [(0, vR (some p0)), (2, vI p2)] [] Λ S (Y_X1_dropAt_15 Λ.2.2 rec S p0 p2 = some r) := by
  intro S p0 tp0 p2
  unfold Y_X1_dropAt_15
  refine j_iload_n C dX1_dropAt_15 1 rfl ?_
  refine j_iconst C (v := (1 : Int32)) dX1_dropAt_16 (by decide) ?_
  refine j_iadd C dX1_dropAt_17 ?_
  refine j_aload_n C dX1_dropAt_18 0 rfl ?_
  refine j_getI C kK1 f41 kfX1_21 (by decide) tp0 dX1_dropAt_19 ?_
  refine j_icmp_ge C (tgt := 56) dX1_dropAt_22 (by decide) ?_ ?_
  · refine j_sub (L' := [(0, vR (some p0))]) [0] rfl ?_
    exact jB_X1_dropAt_56 C E S p0 tp0
  · refine j_iload_n C dX1_dropAt_25 1 rfl ?_
    refine j_iconst C (v := (1 : Int32)) dX1_dropAt_26 (by decide) ?_
    refine j_iadd C dX1_dropAt_27 ?_
    refine j_aload_n C dX1_dropAt_28 0 rfl ?_
    refine j_getR C kK1 f40 kfX1_15 (by decide) rfl tp0 dX1_dropAt_29 (fun x2 tx2 => ?_)
    refine j_oc tx2 (fun a3 ta3 ea3 => ?_)
    subst ea3
    refine j_alen C ta3 (by decide) dX1_dropAt_32 ?_
    refine j_icmp_ge C (tgt := 56) dX1_dropAt_33 (by decide) ?_ ?_
    · refine j_sub (L' := [(0, vR (some p0))]) [0] rfl ?_
      exact jB_X1_dropAt_56 C E S p0 tp0
    · refine j_aload_n C dX1_dropAt_36 0 rfl ?_
      refine j_getR C kK1 f40 kfX1_15 (by decide) rfl tp0 dX1_dropAt_37 (fun x4 tx4 => ?_)
      refine j_iload_n C dX1_dropAt_40 1 rfl ?_
      refine j_aload_n C dX1_dropAt_41 0 rfl ?_
      refine j_getR C kK1 f40 kfX1_15 (by decide) rfl tp0 dX1_dropAt_42 (fun x5 tx5 => ?_)
      refine j_iload_n C dX1_dropAt_45 1 rfl ?_
      refine j_iconst C (v := (1 : Int32)) dX1_dropAt_46 (by decide) ?_
      refine j_iadd C dX1_dropAt_47 ?_
      refine j_oc tx5 (fun a6 ta6 ea6 => ?_)
      subst ea6
      refine j_iald C ta6 dX1_dropAt_48 ?_
      refine j_oc tx4 (fun a7 ta7 ea7 => ?_)
      subst ea7
      refine j_iast C ta7 dX1_dropAt_49 (fun S8 => ?_)
      refine j_iinc C (v := (1 : Int32)) (L' := [(2, vI (p2 + (1 : Int32))), (0, vR (some p0))]) dX1_dropAt_50 1 rfl (by decide) (by decide) rfl ?_
      refine j_goto C (tgt := 15) dX1_dropAt_53 (by decide) ?_
      refine j_sub (L' := [(0, vR (some p0)), (2, vI (p2 + (1 : Int32)))]) [1, 0] rfl ?_
      exact hrec S8 p0 tp0 (p2 + (1 : Int32))
def L_X1_dropAt_15 (N : Nat → Nat) (n : Nat) : sSt → Nat → Int32 → Option sSt := iter (fun _ _ _ => none) (Y_X1_dropAt_15 N) n
theorem jL_X1_dropAt_15 {X : jX} (C : jC X cX1_dropAt 3 RX1 rm_X1_dropAt) {Λ : sLay} {r : sSt} (E : jE X none rV Λ ((), r)) : ∀ (n : Nat) (S : sSt) (p0 : Nat) (tp0 : isK Λ 1 p0) (p2 : Int32), J X 3 0 0 15 [(0, vR (some p0)), (2, vI p2)] [] Λ S (L_X1_dropAt_15 Λ.2.2 n S p0 p2 = some r) := by
  intro n
  induction n with
  | zero => intro S p0 tp0 p2; exact j_no (fun h => by have h2 : (none : Option sSt) = some r := h; cases h2)
  | succ n ih => intro S p0 tp0 p2; exact jY_X1_dropAt_15 C E (L_X1_dropAt_15 Λ.2.2 n) ih S p0 tp0 p2
def F_X1_dropAt (N : Nat → Nat) (S : sSt) (p0 : Nat) (p1 : Int32) : Option sSt := (if p1 < 0 then some S else (if p1 < (gFI S 41 p0) then L_X1_dropAt_15 N FU S p0 p1 else some S))
set_option maxHeartbeats 4000000 in
theorem jF_X1_dropAt {X : jX} (C : jC X cX1_dropAt 3 RX1 rm_X1_dropAt) {Λ : sLay} {S : sSt} {r : sSt} (E : jE X none rV Λ ((), r)) (p0 : Nat) (tp0 : isK Λ 1 p0) (p1 : Int32) : J X 3 0 0 0 [(0, vR (some p0)), (1, vI p1)] [] Λ S (F_X1_dropAt Λ.2.2 S p0 p1 = some r) := by
  unfold F_X1_dropAt
  refine j_iload_n C dX1_dropAt_0 1 rfl ?_
  refine j_if_lt C (tgt := 12) dX1_dropAt_1 (by decide) ?_ ?_
  · exact j_vretP C E dX1_dropAt_12
  · refine j_iload_n C dX1_dropAt_4 1 rfl ?_
    refine j_aload_n C dX1_dropAt_5 0 rfl ?_
    refine j_getI C kK1 f41 kfX1_21 (by decide) tp0 dX1_dropAt_6 ?_
    refine j_icmp_lt C (tgt := 13) dX1_dropAt_9 (by decide) ?_ ?_
    · refine j_iload_n C dX1_dropAt_13 1 rfl ?_
      refine j_istore_n C (L' := [(2, vI p1), (0, vR (some p0)), (1, vI p1)]) dX1_dropAt_14 (by decide) rfl ?_
      refine j_sub (L' := [(0, vR (some p0)), (2, vI p1)]) [1, 0] rfl ?_
      exact jL_X1_dropAt_15 C E FU S p0 tp0 p1
    · exact j_vretP C E dX1_dropAt_12
theorem c_X1_dropAt {l : Launch} {D : va_G} {cy : Nat → ClassId} {Λ : sLay} {S : sSt} (p0 : Nat) (tp0 : isK Λ 1 p0) (p1 : Int32) {r : sSt} (h : F_X1_dropAt Λ.2.2 S p0 p1 = some r) : jM l yX1_dropAt (Cond.code yX1_dropAt cX1_dropAt 3 none :: bigW) rm_X1_dropAt D cy Λ S [vR (some p0), vI p1] rV ((), r) := jM_of (by decide +kernel) (Nat.le_of_ble_eq_true rfl) (fun X C E _ _ _ => j_sub [0, 1] rfl (jF_X1_dropAt C E p0 tp0 p1)) h
/-! RemakeNeeds2.Ints.dropItem(I)V -/
abbrev rm_X1_dropItem : Room := { frames := 1, cells := 0, slots := 0, locals := 22 }
def B_X1_dropItem_25 (N : Nat → Nat) (k7 : sSt → Nat → Int32 → Int32 → Option sSt) (S : sSt) (p0 : Nat) (p1 : Int32) (p2 : Int32) : Option sSt := k7 S p0 p1 (p2 + (-1 : Int32))
set_option maxHeartbeats 4000000 in
theorem jB_X1_dropItem_25 {X : jX} (C : jC X cX1_dropItem 3 RX1 rm_X1_dropItem) {Λ : sLay} {r : sSt} (E : jE X none rV Λ ((), r)) (k7 : sSt → Nat → Int32 → Int32 → Option sSt) (hk7 : ∀ (S : sSt) (p0 : Nat) (tp0 : isK Λ 1 p0) (p1 : Int32) (p2 : Int32), J X 3 0 0 7 [(0, vR (some p0)), (1, vI p1), (2, vI p2)] [] Λ S (k7 S p0 p1 p2 = some r)) : ∀ (S : sSt) (p0 : Nat) (tp0 : isK Λ 1 p0) (p1 : Int32) (p2 : Int32), J X 3 0 0 25 [(0, vR (some p0)), (1, vI p1), (2, vI p2)] [] Λ S (B_X1_dropItem_25 Λ.2.2 k7 S p0 p1 p2 = some r) := by
  intro S p0 tp0 p1 p2
  unfold B_X1_dropItem_25
  refine j_iinc C (v := (-1 : Int32)) (L' := [(2, vI (p2 + (-1 : Int32))), (0, vR (some p0)), (1, vI p1)]) dX1_dropItem_25 2 rfl (by decide) (by decide) rfl ?_
  refine j_goto C (tgt := 7) dX1_dropItem_28 (by decide) ?_
  refine j_sub (L' := [(0, vR (some p0)), (1, vI p1), (2, vI (p2 + (-1 : Int32)))]) [1, 2, 0] rfl ?_
  exact hk7 S p0 tp0 p1 (p2 + (-1 : Int32))
def Y_X1_dropItem_7 (N : Nat → Nat) (rec : sSt → Nat → Int32 → Int32 → Option sSt) (S : sSt) (p0 : Nat) (p1 : Int32) (p2 : Int32) : Option sSt := (if p2 < 0 then some S else Option.bind (F_X1_at N S p0 p2) (fun v1 => (if v1 = p1 then Option.bind (F_X1_dropAt N S p0 p2) (fun S4 => B_X1_dropItem_25 N rec S4 p0 p1 p2) else B_X1_dropItem_25 N rec S p0 p1 p2)))
set_option maxHeartbeats 4000000 in
theorem jY_X1_dropItem_7 {X : jX} (C : jC X cX1_dropItem 3 RX1 rm_X1_dropItem) {Λ : sLay} {r : sSt} (E : jE X none rV Λ ((), r)) (rec : sSt → Nat → Int32 → Int32 → Option sSt) (hrec : ∀ (S : sSt) (p0 : Nat) (tp0 : isK Λ 1 p0) (p1 : Int32) (p2 : Int32), J X 3 0 0 7 [(0, vR (some p0)), (1, vI p1), (2, vI p2)] [] Λ S (rec S p0 p1 p2 = some r)) : ∀ (S : sSt) (p0 : Nat) (tp0 : isK Λ 1 p0) (p1 : Int32) (p2 : Int32), J X 3 0 0 7 [(0, vR (some p0)), (1, vI p1), (2, vI p2)] [] Λ S (Y_X1_dropItem_7 Λ.2.2 rec S p0 p1 p2 = some r) := by
  intro S p0 tp0 p1 p2
  unfold Y_X1_dropItem_7
  refine j_iload_n C dX1_dropItem_7 2 rfl ?_
  refine j_if_lt C (tgt := 31) dX1_dropItem_8 (by decide) ?_ ?_
  · exact j_vretP C E dX1_dropItem_31
  · refine j_aload_n C dX1_dropItem_11 0 rfl ?_
    refine j_iload_n C dX1_dropItem_12 2 rfl ?_
    refine j_cVIP C [vI p2] [] (fun _ e => c_X1_at p0 tp0 p2 e) kYX1_at kVX1_at kmX1_25 kO1 tp0 rfl rfl ⟨rfl, rfl, by decide, by decide⟩ (Nat.le_of_ble_eq_true rfl) ⟨Nat.zero_le _, Nat.zero_le _⟩ dX1_dropItem_13 (fun v1 => ?_)
    refine j_iload_n C dX1_dropItem_16 1 rfl ?_
    refine j_icmp_ne C (tgt := 25) dX1_dropItem_17 (by decide) ?_ ?_
    · exact jB_X1_dropItem_25 C E rec hrec S p0 tp0 p1 p2
    · refine j_aload_n C dX1_dropItem_20 0 rfl ?_
      refine j_iload_n C dX1_dropItem_21 2 rfl ?_
      refine j_cVVV C [vI p2] [] (fun _ e => c_X1_dropAt p0 tp0 p2 e) kYX1_dropAt kVX1_dropAt kmX1_29 kO1 tp0 rfl rfl ⟨rfl, rfl, by decide, by decide⟩ (Nat.le_of_ble_eq_true rfl) ⟨Nat.zero_le _, Nat.zero_le _⟩ dX1_dropItem_22 (fun S4 => ?_)
      exact jB_X1_dropItem_25 C E rec hrec S4 p0 tp0 p1 p2
def L_X1_dropItem_7 (N : Nat → Nat) (n : Nat) : sSt → Nat → Int32 → Int32 → Option sSt := iter (fun _ _ _ _ => none) (Y_X1_dropItem_7 N) n
theorem jL_X1_dropItem_7 {X : jX} (C : jC X cX1_dropItem 3 RX1 rm_X1_dropItem) {Λ : sLay} {r : sSt} (E : jE X none rV Λ ((), r)) : ∀ (n : Nat) (S : sSt) (p0 : Nat) (tp0 : isK Λ 1 p0) (p1 : Int32) (p2 : Int32), J X 3 0 0 7 [(0, vR (some p0)), (1, vI p1), (2, vI p2)] [] Λ S (L_X1_dropItem_7 Λ.2.2 n S p0 p1 p2 = some r) := by
  intro n
  induction n with
  | zero => intro S p0 tp0 p1 p2; exact j_no (fun h => by have h2 : (none : Option sSt) = some r := h; cases h2)
  | succ n ih => intro S p0 tp0 p1 p2; exact jY_X1_dropItem_7 C E (L_X1_dropItem_7 Λ.2.2 n) ih S p0 tp0 p1 p2
def F_X1_dropItem (N : Nat → Nat) (S : sSt) (p0 : Nat) (p1 : Int32) : Option sSt := L_X1_dropItem_7 N FU S p0 p1 ((gFI S 41 p0) - (1 : Int32))
set_option maxHeartbeats 4000000 in
theorem jF_X1_dropItem {X : jX} (C : jC X cX1_dropItem 3 RX1 rm_X1_dropItem) {Λ : sLay} {S : sSt} {r : sSt} (E : jE X none rV Λ ((), r)) (p0 : Nat) (tp0 : isK Λ 1 p0) (p1 : Int32) : J X 3 0 0 0 [(0, vR (some p0)), (1, vI p1)] [] Λ S (F_X1_dropItem Λ.2.2 S p0 p1 = some r) := by
  unfold F_X1_dropItem
  refine j_aload_n C dX1_dropItem_0 0 rfl ?_
  refine j_getI C kK1 f41 kfX1_21 (by decide) tp0 dX1_dropItem_1 ?_
  refine j_iconst C (v := (1 : Int32)) dX1_dropItem_4 (by decide) ?_
  refine j_isub C dX1_dropItem_5 ?_
  refine j_istore_n C (L' := [(2, vI ((gFI S 41 p0) - (1 : Int32))), (0, vR (some p0)), (1, vI p1)]) dX1_dropItem_6 (by decide) rfl ?_
  refine j_sub (L' := [(0, vR (some p0)), (1, vI p1), (2, vI ((gFI S 41 p0) - (1 : Int32)))]) [1, 2, 0] rfl ?_
  exact jL_X1_dropItem_7 C E FU S p0 tp0 p1 ((gFI S 41 p0) - (1 : Int32))
theorem c_X1_dropItem {l : Launch} {D : va_G} {cy : Nat → ClassId} {Λ : sLay} {S : sSt} (p0 : Nat) (tp0 : isK Λ 1 p0) (p1 : Int32) {r : sSt} (h : F_X1_dropItem Λ.2.2 S p0 p1 = some r) : jM l yX1_dropItem (Cond.code yX1_dropItem cX1_dropItem 3 none :: bigW) rm_X1_dropItem D cy Λ S [vR (some p0), vI p1] rV ((), r) := jM_of (by decide +kernel) (Nat.le_of_ble_eq_true rfl) (fun X C E _ _ _ => j_sub [0, 1] rfl (jF_X1_dropItem C E p0 tp0 p1)) h
/-! RemakeNeeds2.Ints.empty()V -/
abbrev rm_X1_empty : Room := { frames := 0, cells := 0, slots := 0, locals := 0 }
def F_X1_empty (N : Nat → Nat) (S : sSt) (p0 : Nat) : Option sSt := bnd (sFI S 41 p0 (0 : Int32)) (fun S1 => some S1)
set_option maxHeartbeats 4000000 in
theorem jF_X1_empty {X : jX} (C : jC X cX1_empty 1 RX1 rm_X1_empty) {Λ : sLay} {S : sSt} {r : sSt} (E : jE X none rV Λ ((), r)) (p0 : Nat) (tp0 : isK Λ 1 p0) : J X 1 0 0 0 [(0, vR (some p0))] [] Λ S (F_X1_empty Λ.2.2 S p0 = some r) := by
  unfold F_X1_empty
  refine j_aload_n C dX1_empty_0 0 rfl ?_
  refine j_iconst C (v := (0 : Int32)) dX1_empty_1 (by decide) ?_
  refine j_putI C kK1 f41 kfX1_21 (by decide) rfl rfl rfl tp0 dX1_empty_2 (fun S1 => ?_)
  exact j_vretP C E dX1_empty_5
theorem c_X1_empty {l : Launch} {D : va_G} {cy : Nat → ClassId} {Λ : sLay} {S : sSt} (p0 : Nat) (tp0 : isK Λ 1 p0) {r : sSt} (h : F_X1_empty Λ.2.2 S p0 = some r) : jM l yX1_empty (Cond.code yX1_empty cX1_empty 1 none :: bigW) rm_X1_empty D cy Λ S [vR (some p0)] rV ((), r) := jM_of (by decide +kernel) (Nat.le_of_ble_eq_true rfl) (fun X C E _ _ _ => j_sub [0] rfl (jF_X1_empty C E p0 tp0)) h
/-! RemakeNeeds2.Ints.has(I)Z -/
abbrev rm_X1_has : Room := { frames := 0, cells := 0, slots := 0, locals := 0 }
def Y_X1_has_2 (N : Nat → Nat) (S : sSt) (rec : Nat → Int32 → Int32 → Option Int32) (p0 : Nat) (p1 : Int32) (p2 : Int32) : Option Int32 := (if (gFI S 41 p0) ≤ p2 then some (0 : Int32) else bnd (gFR S 40 p0) (fun x1 => Option.bind x1 (fun a2 => (if (nI (N a2)) ≤ p2 then some (0 : Int32) else bnd (gFR S 40 p0) (fun x3 => Option.bind x3 (fun a4 => gi p2 (N a4) ((if (gAI S a4 (Int32.toNatClampNeg p2)) = p1 then some (1 : Int32) else rec p0 p1 (p2 + (1 : Int32))))))))))
set_option maxHeartbeats 4000000 in
theorem jY_X1_has_2 {X : jX} (C : jC X cX1_has 3 RX1 rm_X1_has) {Λ : sLay} {S : sSt} {r : Int32} (E : jE X (some .boolean) rI Λ (r, S)) (rec : Nat → Int32 → Int32 → Option Int32) (hrec : ∀ (p0 : Nat) (tp0 : isK Λ 1 p0) (p1 : Int32) (p2 : Int32), J X 3 0 0 2 [(0, vR (some p0)), (1, vI p1), (2, vI p2)] [] Λ S (rec p0 p1 p2 = some r)) : ∀ (p0 : Nat) (tp0 : isK Λ 1 p0) (p1 : Int32) (p2 : Int32), J X 3 0 0 2 [(0, vR (some p0)), (1, vI p1), (2, vI p2)] [] Λ S (Y_X1_has_2 Λ.2.2 S rec p0 p1 p2 = some r) := by
  intro p0 tp0 p1 p2
  unfold Y_X1_has_2
  refine j_iload_n C dX1_has_2 2 rfl ?_
  refine j_aload_n C dX1_has_3 0 rfl ?_
  refine j_getI C kK1 f41 kfX1_21 (by decide) tp0 dX1_has_4 ?_
  refine j_icmp_ge C (tgt := 37) dX1_has_7 (by decide) ?_ ?_
  · refine j_iconst C (v := (0 : Int32)) dX1_has_37 (by decide) ?_
    exact j_zretKP C E (by decide) dX1_has_38
  · refine j_iload_n C dX1_has_10 2 rfl ?_
    refine j_aload_n C dX1_has_11 0 rfl ?_
    refine j_getR C kK1 f40 kfX1_15 (by decide) rfl tp0 dX1_has_12 (fun x1 tx1 => ?_)
    refine j_oc tx1 (fun a2 ta2 ea2 => ?_)
    subst ea2
    refine j_alen C ta2 (by decide) dX1_has_15 ?_
    refine j_icmp_ge C (tgt := 37) dX1_has_16 (by decide) ?_ ?_
    · refine j_iconst C (v := (0 : Int32)) dX1_has_37 (by decide) ?_
      exact j_zretKP C E (by decide) dX1_has_38
    · refine j_aload_n C dX1_has_19 0 rfl ?_
      refine j_getR C kK1 f40 kfX1_15 (by decide) rfl tp0 dX1_has_20 (fun x3 tx3 => ?_)
      refine j_iload_n C dX1_has_23 2 rfl ?_
      refine j_oc tx3 (fun a4 ta4 ea4 => ?_)
      subst ea4
      refine j_iald C ta4 dX1_has_24 ?_
      refine j_iload_n C dX1_has_25 1 rfl ?_
      refine j_icmp_ne C (tgt := 31) dX1_has_26 (by decide) ?_ ?_
      · refine j_iinc C (v := (1 : Int32)) (L' := [(2, vI (p2 + (1 : Int32))), (0, vR (some p0)), (1, vI p1)]) dX1_has_31 2 rfl (by decide) (by decide) rfl ?_
        refine j_goto C (tgt := 2) dX1_has_34 (by decide) ?_
        refine j_sub (L' := [(0, vR (some p0)), (1, vI p1), (2, vI (p2 + (1 : Int32)))]) [1, 2, 0] rfl ?_
        exact hrec p0 tp0 p1 (p2 + (1 : Int32))
      · refine j_iconst C (v := (1 : Int32)) dX1_has_29 (by decide) ?_
        exact j_zretKP C E (by decide) dX1_has_30
def L_X1_has_2 (N : Nat → Nat) (S : sSt) (n : Nat) : Nat → Int32 → Int32 → Option Int32 := iter (fun _ _ _ => none) (Y_X1_has_2 N S) n
theorem jL_X1_has_2 {X : jX} (C : jC X cX1_has 3 RX1 rm_X1_has) {Λ : sLay} {S : sSt} {r : Int32} (E : jE X (some .boolean) rI Λ (r, S)) : ∀ (n : Nat) (p0 : Nat) (tp0 : isK Λ 1 p0) (p1 : Int32) (p2 : Int32), J X 3 0 0 2 [(0, vR (some p0)), (1, vI p1), (2, vI p2)] [] Λ S (L_X1_has_2 Λ.2.2 S n p0 p1 p2 = some r) := by
  intro n
  induction n with
  | zero => intro p0 tp0 p1 p2; exact j_no (fun h => by have h2 : (none : Option Int32) = some r := h; cases h2)
  | succ n ih => intro p0 tp0 p1 p2; exact jY_X1_has_2 C E (L_X1_has_2 Λ.2.2 S n) ih p0 tp0 p1 p2
def F_X1_has (N : Nat → Nat) (S : sSt) (p0 : Nat) (p1 : Int32) : Option Int32 := L_X1_has_2 N S FU p0 p1 (0 : Int32)
set_option maxHeartbeats 4000000 in
theorem jF_X1_has {X : jX} (C : jC X cX1_has 3 RX1 rm_X1_has) {Λ : sLay} {S : sSt} {r : Int32} (E : jE X (some .boolean) rI Λ (r, S)) (p0 : Nat) (tp0 : isK Λ 1 p0) (p1 : Int32) : J X 3 0 0 0 [(0, vR (some p0)), (1, vI p1)] [] Λ S (F_X1_has Λ.2.2 S p0 p1 = some r) := by
  unfold F_X1_has
  refine j_iconst C (v := (0 : Int32)) dX1_has_0 (by decide) ?_
  refine j_istore_n C (L' := [(2, vI (0 : Int32)), (0, vR (some p0)), (1, vI p1)]) dX1_has_1 (by decide) rfl ?_
  refine j_sub (L' := [(0, vR (some p0)), (1, vI p1), (2, vI (0 : Int32))]) [1, 2, 0] rfl ?_
  exact jL_X1_has_2 C E FU p0 tp0 p1 (0 : Int32)
theorem c_X1_has {l : Launch} {D : va_G} {cy : Nat → ClassId} {Λ : sLay} {S : sSt} (p0 : Nat) (tp0 : isK Λ 1 p0) (p1 : Int32) {r : Int32} (h : F_X1_has Λ.2.2 S p0 p1 = some r) : jM l yX1_has (Cond.code yX1_has cX1_has 3 (some .boolean) :: bigW) rm_X1_has D cy Λ S [vR (some p0), vI p1] rI (r, S) := jM_of (by decide +kernel) (Nat.le_of_ble_eq_true rfl) (fun X C E _ _ _ => j_sub [0, 1] rfl (jF_X1_has C E p0 tp0 p1)) h
/-! RemakeNeeds2.Unit.sought()LRemakeNeeds2$Ints; -/
abbrev rm_X6_sought : Room := { frames := 1, cells := 0, slots := 0, locals := 21 }
def B_X6_sought_101 (N : Nat → Nat) (k44 : sSt → Nat → Int32 → Option (Option Nat × sSt)) (S : sSt) (p0 : Nat) (p1 : Int32) : Option (Option Nat × sSt) := k44 S p0 (p1 + (1 : Int32))
set_option maxHeartbeats 4000000 in
theorem jB_X6_sought_101 {X : jX} (C : jC X cX6_sought 4 RX6 rm_X6_sought) {Λ : sLay} {r : (Option Nat × sSt)} (E : jE X (some (.object "RemakeNeeds2$Ints")) (rR 1) Λ r) (k44 : sSt → Nat → Int32 → Option (Option Nat × sSt)) (hk44 : ∀ (S : sSt) (p0 : Nat) (tp0 : isK Λ 6 p0) (p1 : Int32), J X 4 0 0 44 [(0, vR (some p0)), (1, vI p1)] [] Λ S (k44 S p0 p1 = some r)) : ∀ (S : sSt) (p0 : Nat) (tp0 : isK Λ 6 p0) (p1 : Int32), J X 4 0 0 101 [(0, vR (some p0)), (1, vI p1)] [] Λ S (B_X6_sought_101 Λ.2.2 k44 S p0 p1 = some r) := by
  intro S p0 tp0 p1
  unfold B_X6_sought_101
  refine j_iinc C (v := (1 : Int32)) (L' := [(1, vI (p1 + (1 : Int32))), (0, vR (some p0))]) dX6_sought_101 1 rfl (by decide) (by decide) rfl ?_
  refine j_goto C (tgt := 44) dX6_sought_104 (by decide) ?_
  refine j_sub (L' := [(0, vR (some p0)), (1, vI (p1 + (1 : Int32)))]) [1, 0] rfl ?_
  exact hk44 S p0 tp0 (p1 + (1 : Int32))
def Y_X6_sought_60 (N : Nat → Nat) (k44 : sSt → Nat → Int32 → Option (Option Nat × sSt)) (rec : sSt → Nat → Int32 → (Option Nat) → Int32 → Option (Option Nat × sSt)) (S : sSt) (p0 : Nat) (p1 : Int32) (p2 : Option Nat) (p3 : Int32) : Option (Option Nat × sSt) := onl p2 (B_X6_sought_101 N k44 S p0 p1) (fun a12 => bnd (gFR S 201 a12) (fun x13 => Option.bind x13 (fun a14 => Option.bind (F_X1_length N S a14) (fun v15 => (if v15 ≤ p3 then B_X6_sought_101 N k44 S p0 p1 else bnd (gFR S 246 p0) (fun x17 => bnd (gFR S 201 a12) (fun x18 => Option.bind x18 (fun a19 => Option.bind (F_X1_at N S a19 p3) (fun v20 => Option.bind (F_X8_keyOf N S (1 : Int32) v20) (fun v22 => Option.bind x17 (fun a24 => obd (F_X1_append N S a24 v22) (fun v25 S26 => rec S26 p0 p1 (some a12) (p3 + (1 : Int32))))))))))))))
set_option maxHeartbeats 4000000 in
theorem jY_X6_sought_60 {X : jX} (C : jC X cX6_sought 4 RX6 rm_X6_sought) {Λ : sLay} {r : (Option Nat × sSt)} (E : jE X (some (.object "RemakeNeeds2$Ints")) (rR 1) Λ r) (k44 : sSt → Nat → Int32 → Option (Option Nat × sSt)) (hk44 : ∀ (S : sSt) (p0 : Nat) (tp0 : isK Λ 6 p0) (p1 : Int32), J X 4 0 0 44 [(0, vR (some p0)), (1, vI p1)] [] Λ S (k44 S p0 p1 = some r)) (rec : sSt → Nat → Int32 → (Option Nat) → Int32 → Option (Option Nat × sSt)) (hrec : ∀ (S : sSt) (p0 : Nat) (tp0 : isK Λ 6 p0) (p1 : Int32) (p2 : Option Nat) (tp2 : okK Λ 5 p2) (p3 : Int32), J X 4 0 0 60 [(0, vR (some p0)), (1, vI p1), (2, vR p2), (3, vI p3)] [] Λ S (rec S p0 p1 p2 p3 = some r)) : ∀ (S : sSt) (p0 : Nat) (tp0 : isK Λ 6 p0) (p1 : Int32) (p2 : Option Nat) (tp2 : okK Λ 5 p2) (p3 : Int32), J X 4 0 0 60 [(0, vR (some p0)), (1, vI p1), (2, vR p2), (3, vI p3)] [] Λ S (Y_X6_sought_60 Λ.2.2 k44 rec S p0 p1 p2 p3 = some r) := by
  intro S p0 tp0 p1 p2 tp2 p3
  unfold Y_X6_sought_60
  refine j_aload_n C dX6_sought_60 2 rfl ?_
  refine j_ifnull C (tgt := 101) tp2 dX6_sought_61 (by decide) (fun ea12 => ?_) (fun a12 ta12 ea12 => ?_)
  · subst ea12
    refine j_sub (L' := [(0, vR (some p0)), (1, vI p1)]) [0, 1] rfl ?_
    exact jB_X6_sought_101 C E k44 hk44 S p0 tp0 p1
  · subst ea12
    refine j_iload_n C dX6_sought_64 3 rfl ?_
    refine j_aload_n C dX6_sought_65 2 rfl ?_
    refine j_getR C kK5 f201 kfX6_82 (by decide) rfl ta12 dX6_sought_66 (fun x13 tx13 => ?_)
    refine j_oc tx13 (fun a14 ta14 ea14 => ?_)
    subst ea14
    refine j_cVIP C [] [vI p3] (fun _ e => c_X1_length a14 ta14 e) kYX1_length kVX1_length kmX6_66 kO1 ta14 rfl rfl ⟨rfl, rfl, by decide, by decide⟩ (Nat.le_of_ble_eq_true rfl) ⟨Nat.zero_le _, Nat.zero_le _⟩ dX6_sought_69 (fun v15 => ?_)
    refine j_icmp_ge C (tgt := 101) dX6_sought_72 (by decide) ?_ ?_
    · refine j_sub (L' := [(0, vR (some p0)), (1, vI p1)]) [0, 1] rfl ?_
      exact jB_X6_sought_101 C E k44 hk44 S p0 tp0 p1
    · refine j_aload_n C dX6_sought_75 0 rfl ?_
      refine j_getR C kK6 f246 kfX6_41 (by decide) rfl tp0 dX6_sought_76 (fun x17 tx17 => ?_)
      refine j_iconst C (v := (1 : Int32)) dX6_sought_79 (by decide) ?_
      refine j_aload_n C dX6_sought_80 2 rfl ?_
      refine j_getR C kK5 f201 kfX6_82 (by decide) rfl ta12 dX6_sought_81 (fun x18 tx18 => ?_)
      refine j_iload_n C dX6_sought_84 3 rfl ?_
      refine j_oc tx18 (fun a19 ta19 ea19 => ?_)
      subst ea19
      refine j_cVIP C [vI p3] [vI (1 : Int32), vR x17] (fun _ e => c_X1_at a19 ta19 p3 e) kYX1_at kVX1_at kmX6_70 kO1 ta19 rfl rfl ⟨rfl, rfl, by decide, by decide⟩ (Nat.le_of_ble_eq_true rfl) ⟨Nat.zero_le _, Nat.zero_le _⟩ dX6_sought_85 (fun v20 => ?_)
      refine j_cNIP C [vI (1 : Int32), vI v20] [vR x17] (fun _ e => c_X8_keyOf (1 : Int32) v20 e) kYX8_keyOf kSX8_keyOf (by decide +kernel : (RX6, 85, yX8_keyOf, "RemakeNeeds2") ∈ nests) rfl rfl ⟨rfl, rfl, by decide, by decide⟩ (Nat.le_of_ble_eq_true rfl) ⟨Nat.zero_le _, Nat.zero_le _⟩ dX6_sought_88 (fun v22 => ?_)
      refine j_oc tx17 (fun a24 ta24 ea24 => ?_)
      subst ea24
      refine j_cVIG C [vI v22] [] (fun _ _ e => c_X1_append a24 ta24 v22 e) kYX1_append kVX1_append kmX6_74 kO1 ta24 rfl rfl ⟨rfl, rfl, by decide, by decide⟩ (Nat.le_of_ble_eq_true rfl) ⟨Nat.zero_le _, Nat.zero_le _⟩ dX6_sought_91 (fun v25 S26 => ?_)
      refine j_pop C dX6_sought_94 rfl ?_
      refine j_iinc C (v := (1 : Int32)) (L' := [(3, vI (p3 + (1 : Int32))), (0, vR (some p0)), (1, vI p1), (2, vR (some a12))]) dX6_sought_95 3 rfl (by decide) (by decide) rfl ?_
      refine j_goto C (tgt := 60) dX6_sought_98 (by decide) ?_
      refine j_sub (L' := [(0, vR (some p0)), (1, vI p1), (2, vR (some a12)), (3, vI (p3 + (1 : Int32)))]) [1, 2, 3, 0] rfl ?_
      exact hrec S26 p0 tp0 p1 (some a12) (okS ta12) (p3 + (1 : Int32))
def L_X6_sought_60 (N : Nat → Nat) (k44 : sSt → Nat → Int32 → Option (Option Nat × sSt)) (n : Nat) : sSt → Nat → Int32 → (Option Nat) → Int32 → Option (Option Nat × sSt) := iter (fun _ _ _ _ _ => none) (Y_X6_sought_60 N k44) n
theorem jL_X6_sought_60 {X : jX} (C : jC X cX6_sought 4 RX6 rm_X6_sought) {Λ : sLay} {r : (Option Nat × sSt)} (E : jE X (some (.object "RemakeNeeds2$Ints")) (rR 1) Λ r) (k44 : sSt → Nat → Int32 → Option (Option Nat × sSt)) (hk44 : ∀ (S : sSt) (p0 : Nat) (tp0 : isK Λ 6 p0) (p1 : Int32), J X 4 0 0 44 [(0, vR (some p0)), (1, vI p1)] [] Λ S (k44 S p0 p1 = some r)) : ∀ (n : Nat) (S : sSt) (p0 : Nat) (tp0 : isK Λ 6 p0) (p1 : Int32) (p2 : Option Nat) (tp2 : okK Λ 5 p2) (p3 : Int32), J X 4 0 0 60 [(0, vR (some p0)), (1, vI p1), (2, vR p2), (3, vI p3)] [] Λ S (L_X6_sought_60 Λ.2.2 k44 n S p0 p1 p2 p3 = some r) := by
  intro n
  induction n with
  | zero => intro S p0 tp0 p1 p2 tp2 p3; exact j_no (fun h => by have h2 : (none : Option (Option Nat × sSt)) = some r := h; cases h2)
  | succ n ih => intro S p0 tp0 p1 p2 tp2 p3; exact jY_X6_sought_60 C E k44 hk44 (L_X6_sought_60 Λ.2.2 k44 n) ih S p0 tp0 p1 p2 tp2 p3
def Y_X6_sought_44 (N : Nat → Nat) (rec : sSt → Nat → Int32 → Option (Option Nat × sSt)) (S : sSt) (p0 : Nat) (p1 : Int32) : Option (Option Nat × sSt) := (if (gFI S 245 p0) ≤ p1 then bnd (gFR S 246 p0) (fun x9 => some (x9, S)) else Option.bind (F_X6_thingAt N S p0 p1) (fun v10 => L_X6_sought_60 N rec FU S p0 p1 v10 (0 : Int32)))
set_option maxHeartbeats 4000000 in
theorem jY_X6_sought_44 {X : jX} (C : jC X cX6_sought 4 RX6 rm_X6_sought) {Λ : sLay} {r : (Option Nat × sSt)} (E : jE X (some (.object "RemakeNeeds2$Ints")) (rR 1) Λ r) (rec : sSt → Nat → Int32 → Option (Option Nat × sSt)) (hrec : ∀ (S : sSt) (p0 : Nat) (tp0 : isK Λ 6 p0) (p1 : Int32), J X 4 0 0 44 [(0, vR (some p0)), (1, vI p1)] [] Λ S (rec S p0 p1 = some r)) : ∀ (S : sSt) (p0 : Nat) (tp0 : isK Λ 6 p0) (p1 : Int32), J X 4 0 0 44 [(0, vR (some p0)), (1, vI p1)] [] Λ S (Y_X6_sought_44 Λ.2.2 rec S p0 p1 = some r) := by
  intro S p0 tp0 p1
  unfold Y_X6_sought_44
  refine j_iload_n C dX6_sought_44 1 rfl ?_
  refine j_aload_n C dX6_sought_45 0 rfl ?_
  refine j_getI C kK6 f245 kfX6_57 (by decide) tp0 dX6_sought_46 ?_
  refine j_icmp_ge C (tgt := 107) dX6_sought_49 (by decide) ?_ ?_
  · refine j_aload_n C dX6_sought_107 0 rfl ?_
    refine j_getR C kK6 f246 kfX6_41 (by decide) rfl tp0 dX6_sought_108 (fun x9 tx9 => ?_)
    exact j_aret C E tx9 dX6_sought_111
  · refine j_aload_n C dX6_sought_52 0 rfl ?_
    refine j_iload_n C dX6_sought_53 1 rfl ?_
    refine j_cVRP C [vI p1] [] (fun _ e => c_X6_thingAt p0 tp0 p1 e) kYX6_thingAt kVX6_thingAt kmX6_78 kO6 tp0 rfl rfl ⟨rfl, rfl, by decide, by decide⟩ (Nat.le_of_ble_eq_true rfl) ⟨Nat.zero_le _, Nat.zero_le _⟩ dX6_sought_54 (fun v10 tv10 => ?_)
    refine j_astore_n C (L' := [(2, vR v10), (0, vR (some p0)), (1, vI p1)]) dX6_sought_57 (by decide) rfl ?_
    refine j_iconst C (v := (0 : Int32)) dX6_sought_58 (by decide) ?_
    refine j_istore_n C (L' := [(3, vI (0 : Int32)), (2, vR v10), (0, vR (some p0)), (1, vI p1)]) dX6_sought_59 (by decide) rfl ?_
    refine j_sub (L' := [(0, vR (some p0)), (1, vI p1), (2, vR v10), (3, vI (0 : Int32))]) [2, 3, 1, 0] rfl ?_
    exact jL_X6_sought_60 C E rec hrec FU S p0 tp0 p1 v10 tv10 (0 : Int32)
def L_X6_sought_44 (N : Nat → Nat) (n : Nat) : sSt → Nat → Int32 → Option (Option Nat × sSt) := iter (fun _ _ _ => none) (Y_X6_sought_44 N) n
theorem jL_X6_sought_44 {X : jX} (C : jC X cX6_sought 4 RX6 rm_X6_sought) {Λ : sLay} {r : (Option Nat × sSt)} (E : jE X (some (.object "RemakeNeeds2$Ints")) (rR 1) Λ r) : ∀ (n : Nat) (S : sSt) (p0 : Nat) (tp0 : isK Λ 6 p0) (p1 : Int32), J X 4 0 0 44 [(0, vR (some p0)), (1, vI p1)] [] Λ S (L_X6_sought_44 Λ.2.2 n S p0 p1 = some r) := by
  intro n
  induction n with
  | zero => intro S p0 tp0 p1; exact j_no (fun h => by have h2 : (none : Option (Option Nat × sSt)) = some r := h; cases h2)
  | succ n ih => intro S p0 tp0 p1; exact jY_X6_sought_44 C E (L_X6_sought_44 Λ.2.2 n) ih S p0 tp0 p1
def Y_X6_sought_9 (N : Nat → Nat) (rec : sSt → Nat → Int32 → Option (Option Nat × sSt)) (S : sSt) (p0 : Nat) (p1 : Int32) : Option (Option Nat × sSt) := bnd (gFR S 242 p0) (fun x5 => Option.bind x5 (fun a6 => Option.bind (F_X1_length N S a6) (fun v7 => (if v7 ≤ p1 then L_X6_sought_44 N FU S p0 (0 : Int32) else bnd (gFR S 246 p0) (fun x27 => bnd (gFR S 242 p0) (fun x28 => Option.bind x28 (fun a29 => Option.bind (F_X1_at N S a29 p1) (fun v30 => Option.bind x27 (fun a32 => obd (F_X1_append N S a32 v30) (fun v33 S34 => rec S34 p0 (p1 + (1 : Int32))))))))))))
set_option maxHeartbeats 4000000 in
theorem jY_X6_sought_9 {X : jX} (C : jC X cX6_sought 4 RX6 rm_X6_sought) {Λ : sLay} {r : (Option Nat × sSt)} (E : jE X (some (.object "RemakeNeeds2$Ints")) (rR 1) Λ r) (rec : sSt → Nat → Int32 → Option (Option Nat × sSt)) (hrec : ∀ (S : sSt) (p0 : Nat) (tp0 : isK Λ 6 p0) (p1 : Int32), J X 4 0 0 9 [(0, vR (some p0)), (1, vI p1)] [] Λ S (rec S p0 p1 = some r)) : ∀ (S : sSt) (p0 : Nat) (tp0 : isK Λ 6 p0) (p1 : Int32), J X 4 0 0 9 [(0, vR (some p0)), (1, vI p1)] [] Λ S (Y_X6_sought_9 Λ.2.2 rec S p0 p1 = some r) := by
  intro S p0 tp0 p1
  unfold Y_X6_sought_9
  refine j_iload_n C dX6_sought_9 1 rfl ?_
  refine j_aload_n C dX6_sought_10 0 rfl ?_
  refine j_getR C kK6 f242 kfX6_24 (by decide) rfl tp0 dX6_sought_11 (fun x5 tx5 => ?_)
  refine j_oc tx5 (fun a6 ta6 ea6 => ?_)
  subst ea6
  refine j_cVIP C [] [vI p1] (fun _ e => c_X1_length a6 ta6 e) kYX1_length kVX1_length kmX6_66 kO1 ta6 rfl rfl ⟨rfl, rfl, by decide, by decide⟩ (Nat.le_of_ble_eq_true rfl) ⟨Nat.zero_le _, Nat.zero_le _⟩ dX6_sought_14 (fun v7 => ?_)
  refine j_icmp_ge C (tgt := 42) dX6_sought_17 (by decide) ?_ ?_
  · refine j_iconst C (v := (0 : Int32)) dX6_sought_42 (by decide) ?_
    refine j_istore_n C (L' := [(1, vI (0 : Int32)), (0, vR (some p0))]) dX6_sought_43 (by decide) rfl ?_
    refine j_sub (L' := [(0, vR (some p0)), (1, vI (0 : Int32))]) [1, 0] rfl ?_
    exact jL_X6_sought_44 C E FU S p0 tp0 (0 : Int32)
  · refine j_aload_n C dX6_sought_20 0 rfl ?_
    refine j_getR C kK6 f246 kfX6_41 (by decide) rfl tp0 dX6_sought_21 (fun x27 tx27 => ?_)
    refine j_aload_n C dX6_sought_24 0 rfl ?_
    refine j_getR C kK6 f242 kfX6_24 (by decide) rfl tp0 dX6_sought_25 (fun x28 tx28 => ?_)
    refine j_iload_n C dX6_sought_28 1 rfl ?_
    refine j_oc tx28 (fun a29 ta29 ea29 => ?_)
    subst ea29
    refine j_cVIP C [vI p1] [vR x27] (fun _ e => c_X1_at a29 ta29 p1 e) kYX1_at kVX1_at kmX6_70 kO1 ta29 rfl rfl ⟨rfl, rfl, by decide, by decide⟩ (Nat.le_of_ble_eq_true rfl) ⟨Nat.zero_le _, Nat.zero_le _⟩ dX6_sought_29 (fun v30 => ?_)
    refine j_oc tx27 (fun a32 ta32 ea32 => ?_)
    subst ea32
    refine j_cVIG C [vI v30] [] (fun _ _ e => c_X1_append a32 ta32 v30 e) kYX1_append kVX1_append kmX6_74 kO1 ta32 rfl rfl ⟨rfl, rfl, by decide, by decide⟩ (Nat.le_of_ble_eq_true rfl) ⟨Nat.zero_le _, Nat.zero_le _⟩ dX6_sought_32 (fun v33 S34 => ?_)
    refine j_pop C dX6_sought_35 rfl ?_
    refine j_iinc C (v := (1 : Int32)) (L' := [(1, vI (p1 + (1 : Int32))), (0, vR (some p0))]) dX6_sought_36 1 rfl (by decide) (by decide) rfl ?_
    refine j_goto C (tgt := 9) dX6_sought_39 (by decide) ?_
    refine j_sub (L' := [(0, vR (some p0)), (1, vI (p1 + (1 : Int32)))]) [1, 0] rfl ?_
    exact hrec S34 p0 tp0 (p1 + (1 : Int32))
def L_X6_sought_9 (N : Nat → Nat) (n : Nat) : sSt → Nat → Int32 → Option (Option Nat × sSt) := iter (fun _ _ _ => none) (Y_X6_sought_9 N) n
theorem jL_X6_sought_9 {X : jX} (C : jC X cX6_sought 4 RX6 rm_X6_sought) {Λ : sLay} {r : (Option Nat × sSt)} (E : jE X (some (.object "RemakeNeeds2$Ints")) (rR 1) Λ r) : ∀ (n : Nat) (S : sSt) (p0 : Nat) (tp0 : isK Λ 6 p0) (p1 : Int32), J X 4 0 0 9 [(0, vR (some p0)), (1, vI p1)] [] Λ S (L_X6_sought_9 Λ.2.2 n S p0 p1 = some r) := by
  intro n
  induction n with
  | zero => intro S p0 tp0 p1; exact j_no (fun h => by have h2 : (none : Option (Option Nat × sSt)) = some r := h; cases h2)
  | succ n ih => intro S p0 tp0 p1; exact jY_X6_sought_9 C E (L_X6_sought_9 Λ.2.2 n) ih S p0 tp0 p1
def F_X6_sought (N : Nat → Nat) (S : sSt) (p0 : Nat) : Option (Option Nat × sSt) := bnd (gFR S 246 p0) (fun x1 => Option.bind x1 (fun a2 => Option.bind (F_X1_empty N S a2) (fun S4 => L_X6_sought_9 N FU S4 p0 (0 : Int32))))
set_option maxHeartbeats 4000000 in
theorem jF_X6_sought {X : jX} (C : jC X cX6_sought 4 RX6 rm_X6_sought) {Λ : sLay} {S : sSt} {r : (Option Nat × sSt)} (E : jE X (some (.object "RemakeNeeds2$Ints")) (rR 1) Λ r) (p0 : Nat) (tp0 : isK Λ 6 p0) : J X 4 0 0 0 [(0, vR (some p0))] [] Λ S (F_X6_sought Λ.2.2 S p0 = some r) := by
  unfold F_X6_sought
  refine j_aload_n C dX6_sought_0 0 rfl ?_
  refine j_getR C kK6 f246 kfX6_41 (by decide) rfl tp0 dX6_sought_1 (fun x1 tx1 => ?_)
  refine j_oc tx1 (fun a2 ta2 ea2 => ?_)
  subst ea2
  refine j_cVVV C [] [] (fun _ e => c_X1_empty a2 ta2 e) kYX1_empty kVX1_empty kmX6_60 kO1 ta2 rfl rfl ⟨rfl, rfl, by decide, by decide⟩ (Nat.le_of_ble_eq_true rfl) ⟨Nat.zero_le _, Nat.zero_le _⟩ dX6_sought_4 (fun S4 => ?_)
  refine j_iconst C (v := (0 : Int32)) dX6_sought_7 (by decide) ?_
  refine j_istore_n C (L' := [(1, vI (0 : Int32)), (0, vR (some p0))]) dX6_sought_8 (by decide) rfl ?_
  refine j_sub (L' := [(0, vR (some p0)), (1, vI (0 : Int32))]) [1, 0] rfl ?_
  exact jL_X6_sought_9 C E FU S4 p0 tp0 (0 : Int32)
theorem c_X6_sought {l : Launch} {D : va_G} {cy : Nat → ClassId} {Λ : sLay} {S : sSt} (p0 : Nat) (tp0 : isK Λ 6 p0) {v : Option Nat} {S1 : sSt} (h : F_X6_sought Λ.2.2 S p0 = some (v, S1)) : jM l yX6_sought (Cond.code yX6_sought cX6_sought 4 (some (.object "RemakeNeeds2$Ints")) :: bigW) rm_X6_sought D cy Λ S [vR (some p0)] (rR 1) (v, S1) := jM_of (by decide +kernel) (Nat.le_of_ble_eq_true rfl) (fun X C E _ _ _ => j_sub [0] rfl (jF_X6_sought C E p0 tp0)) h
/-! RemakeNeeds2.Units.nextTo(LRemakeNeeds2$Unit;)I -/
abbrev rm_X7_nextTo : Room := { frames := 2, cells := 0, slots := 0, locals := 48 }
def B_X7_nextTo_67 (N : Nat → Nat) (k28 : sSt → Nat → Nat → (Option Nat) → Int32 → Int32 → Option (Int32 × sSt)) (S : sSt) (p0 : Nat) (p1 : Nat) (p2 : Nat) (p4 : Int32) (s0 : Int32) (s1 : Int32) : Option (Int32 × sSt) := k28 S p0 p1 (some p2) (s1 ||| s0) (p4 + (1 : Int32))
set_option maxHeartbeats 4000000 in
theorem jB_X7_nextTo_67 {X : jX} (C : jC X cX7_nextTo 6 RX7 rm_X7_nextTo) {Λ : sLay} {r : (Int32 × sSt)} (E : jE X (some .int) rI Λ r) (k28 : sSt → Nat → Nat → (Option Nat) → Int32 → Int32 → Option (Int32 × sSt)) (hk28 : ∀ (S : sSt) (p0 : Nat) (tp0 : isK Λ 7 p0) (p1 : Nat) (tp1 : isK Λ 6 p1) (p2 : Option Nat) (tp2 : okK Λ 1 p2) (p3 : Int32) (p4 : Int32), J X 6 0 0 28 [(0, vR (some p0)), (1, vR (some p1)), (2, vR p2), (3, vI p3), (4, vI p4)] [] Λ S (k28 S p0 p1 p2 p3 p4 = some r)) : ∀ (S : sSt) (p0 : Nat) (tp0 : isK Λ 7 p0) (p1 : Nat) (tp1 : isK Λ 6 p1) (p2 : Nat) (tp2 : isK Λ 1 p2) (p4 : Int32) (s0 : Int32) (s1 : Int32), J X 6 0 0 67 [(0, vR (some p0)), (1, vR (some p1)), (2, vR (some p2)), (4, vI p4)] [vI s0, vI s1] Λ S (B_X7_nextTo_67 Λ.2.2 k28 S p0 p1 p2 p4 s0 s1 = some r) := by
  intro S p0 tp0 p1 tp1 p2 tp2 p4 s0 s1
  unfold B_X7_nextTo_67
  refine j_ior C dX7_nextTo_67 ?_
  refine j_istore_n C (L' := [(3, vI (s1 ||| s0)), (0, vR (some p0)), (1, vR (some p1)), (2, vR (some p2)), (4, vI p4)]) dX7_nextTo_68 (by decide) rfl ?_
  refine j_iinc C (v := (1 : Int32)) (L' := [(4, vI (p4 + (1 : Int32))), (3, vI (s1 ||| s0)), (0, vR (some p0)), (1, vR (some p1)), (2, vR (some p2))]) dX7_nextTo_69 4 rfl (by decide) (by decide) rfl ?_
  refine j_goto C (tgt := 28) dX7_nextTo_72 (by decide) ?_
  refine j_sub (L' := [(0, vR (some p0)), (1, vR (some p1)), (2, vR (some p2)), (3, vI (s1 ||| s0)), (4, vI (p4 + (1 : Int32)))]) [2, 3, 4, 1, 0] rfl ?_
  exact hk28 S p0 tp0 p1 tp1 (some p2) (okS tp2) (s1 ||| s0) (p4 + (1 : Int32))
def Y_X7_nextTo_28 (N : Nat → Nat) (rec : sSt → Nat → Nat → (Option Nat) → Int32 → Int32 → Option (Int32 × sSt)) (S : sSt) (p0 : Nat) (p1 : Nat) (p2 : Option Nat) (p3 : Int32) (p4 : Int32) : Option (Int32 × sSt) := Option.bind p2 (fun a4 => Option.bind (F_X1_length N S a4) (fun v5 => (if v5 ≤ p4 then some (p3, S) else Option.bind (F_X1_at N S a4 p4) (fun v7 => Option.bind (F_X7_lookFrom N S p0 (some p1) v7) (fun v9 => onl v9 (B_X7_nextTo_67 N rec S p0 p1 a4 p4 (0 : Int32) p3) (fun a11 => B_X7_nextTo_67 N rec S p0 p1 a4 p4 ((1 : Int32) <<< ((gFI S 200 a11) &&& 31)) p3))))))
set_option maxHeartbeats 4000000 in
theorem jY_X7_nextTo_28 {X : jX} (C : jC X cX7_nextTo 6 RX7 rm_X7_nextTo) {Λ : sLay} {r : (Int32 × sSt)} (E : jE X (some .int) rI Λ r) (rec : sSt → Nat → Nat → (Option Nat) → Int32 → Int32 → Option (Int32 × sSt)) (hrec : ∀ (S : sSt) (p0 : Nat) (tp0 : isK Λ 7 p0) (p1 : Nat) (tp1 : isK Λ 6 p1) (p2 : Option Nat) (tp2 : okK Λ 1 p2) (p3 : Int32) (p4 : Int32), J X 6 0 0 28 [(0, vR (some p0)), (1, vR (some p1)), (2, vR p2), (3, vI p3), (4, vI p4)] [] Λ S (rec S p0 p1 p2 p3 p4 = some r)) : ∀ (S : sSt) (p0 : Nat) (tp0 : isK Λ 7 p0) (p1 : Nat) (tp1 : isK Λ 6 p1) (p2 : Option Nat) (tp2 : okK Λ 1 p2) (p3 : Int32) (p4 : Int32), J X 6 0 0 28 [(0, vR (some p0)), (1, vR (some p1)), (2, vR p2), (3, vI p3), (4, vI p4)] [] Λ S (Y_X7_nextTo_28 Λ.2.2 rec S p0 p1 p2 p3 p4 = some r) := by
  intro S p0 tp0 p1 tp1 p2 tp2 p3 p4
  unfold Y_X7_nextTo_28
  refine j_iload C dX7_nextTo_28 4 rfl ?_
  refine j_aload_n C dX7_nextTo_30 2 rfl ?_
  refine j_oc tp2 (fun a4 ta4 ea4 => ?_)
  subst ea4
  refine j_cVIP C [] [vI p4] (fun _ e => c_X1_length a4 ta4 e) kYX1_length kVX1_length kmX7_54 kO1 ta4 rfl rfl ⟨rfl, rfl, by decide, by decide⟩ (Nat.le_of_ble_eq_true rfl) ⟨Nat.zero_le _, Nat.zero_le _⟩ dX7_nextTo_31 (fun v5 => ?_)
  refine j_icmp_ge C (tgt := 75) dX7_nextTo_34 (by decide) ?_ ?_
  · refine j_iload_n C dX7_nextTo_75 3 rfl ?_
    exact j_iret C E dX7_nextTo_76
  · refine j_aload_n C dX7_nextTo_37 0 rfl ?_
    refine j_aload_n C dX7_nextTo_38 1 rfl ?_
    refine j_aload_n C dX7_nextTo_39 2 rfl ?_
    refine j_iload C dX7_nextTo_40 4 rfl ?_
    refine j_cVIP C [vI p4] [vR (some p1), vR (some p0)] (fun _ e => c_X1_at a4 ta4 p4 e) kYX1_at kVX1_at kmX7_58 kO1 ta4 rfl rfl ⟨rfl, rfl, by decide, by decide⟩ (Nat.le_of_ble_eq_true rfl) ⟨Nat.zero_le _, Nat.zero_le _⟩ dX7_nextTo_42 (fun v7 => ?_)
    refine j_cVRP C [vR (some p1), vI v7] [] (fun _ e => c_X7_lookFrom p0 tp0 (some p1) (okS tp1) v7 e) kYX7_lookFrom kVX7_lookFrom kmX7_76 kO7 tp0 rfl rfl ⟨rfl, rfl, by decide, by decide⟩ (Nat.le_of_ble_eq_true rfl) ⟨Nat.zero_le _, Nat.zero_le _⟩ dX7_nextTo_45 (fun v9 tv9 => ?_)
    refine j_astore C (L' := [(5, vR v9), (0, vR (some p0)), (1, vR (some p1)), (2, vR (some a4)), (3, vI p3), (4, vI p4)]) dX7_nextTo_48 (by decide) rfl ?_
    refine j_iload_n C dX7_nextTo_50 4 rfl ?_
    refine j_aload C dX7_nextTo_51 0 rfl ?_
    refine j_ifnonnull C (tgt := 60) tv9 dX7_nextTo_53 (by decide) (fun ea11 => ?_) (fun a11 ta11 ea11 => ?_)
    · subst ea11
      refine j_iconst C (v := (0 : Int32)) dX7_nextTo_56 (by decide) ?_
      refine j_goto C (tgt := 67) dX7_nextTo_57 (by decide) ?_
      refine j_sub (L' := [(0, vR (some p0)), (1, vR (some p1)), (2, vR (some a4)), (4, vI p4)]) [1, 2, 3, 5] rfl ?_
      exact jB_X7_nextTo_67 C E rec hrec S p0 tp0 p1 tp1 a4 ta4 p4 (0 : Int32) p3
    · subst ea11
      refine j_iconst C (v := (1 : Int32)) dX7_nextTo_60 (by decide) ?_
      refine j_aload C dX7_nextTo_61 0 rfl ?_
      refine j_getI C kK5 f200 kfX7_66 (by decide) ta11 dX7_nextTo_63 ?_
      refine j_ishl C dX7_nextTo_66 ?_
      refine j_sub (L' := [(0, vR (some p0)), (1, vR (some p1)), (2, vR (some a4)), (4, vI p4)]) [1, 2, 3, 5] rfl ?_
      exact jB_X7_nextTo_67 C E rec hrec S p0 tp0 p1 tp1 a4 ta4 p4 ((1 : Int32) <<< ((gFI S 200 a11) &&& 31)) p3
def L_X7_nextTo_28 (N : Nat → Nat) (n : Nat) : sSt → Nat → Nat → (Option Nat) → Int32 → Int32 → Option (Int32 × sSt) := iter (fun _ _ _ _ _ _ => none) (Y_X7_nextTo_28 N) n
theorem jL_X7_nextTo_28 {X : jX} (C : jC X cX7_nextTo 6 RX7 rm_X7_nextTo) {Λ : sLay} {r : (Int32 × sSt)} (E : jE X (some .int) rI Λ r) : ∀ (n : Nat) (S : sSt) (p0 : Nat) (tp0 : isK Λ 7 p0) (p1 : Nat) (tp1 : isK Λ 6 p1) (p2 : Option Nat) (tp2 : okK Λ 1 p2) (p3 : Int32) (p4 : Int32), J X 6 0 0 28 [(0, vR (some p0)), (1, vR (some p1)), (2, vR p2), (3, vI p3), (4, vI p4)] [] Λ S (L_X7_nextTo_28 Λ.2.2 n S p0 p1 p2 p3 p4 = some r) := by
  intro n
  induction n with
  | zero => intro S p0 tp0 p1 tp1 p2 tp2 p3 p4; exact j_no (fun h => by have h2 : (none : Option (Int32 × sSt)) = some r := h; cases h2)
  | succ n ih => intro S p0 tp0 p1 tp1 p2 tp2 p3 p4; exact jY_X7_nextTo_28 C E (L_X7_nextTo_28 Λ.2.2 n) ih S p0 tp0 p1 tp1 p2 tp2 p3 p4
def B_X7_nextTo_24 (N : Nat → Nat) (S : sSt) (p0 : Nat) (p1 : Nat) (p2 : Option Nat) (s0 : Int32) : Option (Int32 × sSt) := L_X7_nextTo_28 N FU S p0 p1 p2 s0 (0 : Int32)
set_option maxHeartbeats 4000000 in
theorem jB_X7_nextTo_24 {X : jX} (C : jC X cX7_nextTo 6 RX7 rm_X7_nextTo) {Λ : sLay} {r : (Int32 × sSt)} (E : jE X (some .int) rI Λ r) : ∀ (S : sSt) (p0 : Nat) (tp0 : isK Λ 7 p0) (p1 : Nat) (tp1 : isK Λ 6 p1) (p2 : Option Nat) (tp2 : okK Λ 1 p2) (s0 : Int32), J X 6 0 0 24 [(0, vR (some p0)), (1, vR (some p1)), (2, vR p2)] [vI s0] Λ S (B_X7_nextTo_24 Λ.2.2 S p0 p1 p2 s0 = some r) := by
  intro S p0 tp0 p1 tp1 p2 tp2 s0
  unfold B_X7_nextTo_24
  refine j_istore_n C (L' := [(3, vI s0), (0, vR (some p0)), (1, vR (some p1)), (2, vR p2)]) dX7_nextTo_24 (by decide) rfl ?_
  refine j_iconst C (v := (0 : Int32)) dX7_nextTo_25 (by decide) ?_
  refine j_istore C (L' := [(4, vI (0 : Int32)), (3, vI s0), (0, vR (some p0)), (1, vR (some p1)), (2, vR p2)]) dX7_nextTo_26 (by decide) rfl ?_
  refine j_sub (L' := [(0, vR (some p0)), (1, vR (some p1)), (2, vR p2), (3, vI s0), (4, vI (0 : Int32))]) [2, 3, 4, 1, 0] rfl ?_
  exact jL_X7_nextTo_28 C E FU S p0 tp0 p1 tp1 p2 tp2 s0 (0 : Int32)
def F_X7_nextTo (N : Nat → Nat) (S : sSt) (p0 : Nat) (p1 : Option Nat) : Option (Int32 × sSt) := Option.bind p1 (fun a1 => obd (F_X6_sought N S a1) (fun v2 S3 => (if (gFI S3 249 a1) = (-5 : Int32) then B_X7_nextTo_24 N S3 p0 a1 v2 (0 : Int32) else B_X7_nextTo_24 N S3 p0 a1 v2 ((1 : Int32) <<< ((gFI S3 249 a1) &&& 31)))))
set_option maxHeartbeats 4000000 in
theorem jF_X7_nextTo {X : jX} (C : jC X cX7_nextTo 6 RX7 rm_X7_nextTo) {Λ : sLay} {S : sSt} {r : (Int32 × sSt)} (E : jE X (some .int) rI Λ r) (p0 : Nat) (tp0 : isK Λ 7 p0) (p1 : Option Nat) (tp1 : okK Λ 6 p1) : J X 6 0 0 0 [(0, vR (some p0)), (1, vR p1)] [] Λ S (F_X7_nextTo Λ.2.2 S p0 p1 = some r) := by
  unfold F_X7_nextTo
  refine j_aload_n C dX7_nextTo_0 1 rfl ?_
  refine j_oc tp1 (fun a1 ta1 ea1 => ?_)
  subst ea1
  refine j_cVRG C [] [] (fun _ _ e => c_X6_sought a1 ta1 e) kYX6_sought kVX6_sought kmX7_80 kO6 ta1 rfl rfl ⟨rfl, rfl, by decide, by decide⟩ (Nat.le_of_ble_eq_true rfl) ⟨Nat.zero_le _, Nat.zero_le _⟩ dX7_nextTo_1 (fun v2 S3 tv2 => ?_)
  refine j_astore_n C (L' := [(2, vR v2), (0, vR (some p0)), (1, vR (some a1))]) dX7_nextTo_4 (by decide) rfl ?_
  refine j_aload_n C dX7_nextTo_5 2 rfl ?_
  refine j_getI C kK6 f249 kfX7_47 (by decide) ta1 dX7_nextTo_6 ?_
  refine j_bipush C (v := (-5 : Int32)) dX7_nextTo_9 (by decide) ?_
  refine j_icmp_ne C (tgt := 18) dX7_nextTo_11 (by decide) ?_ ?_
  · refine j_iconst C (v := (1 : Int32)) dX7_nextTo_18 (by decide) ?_
    refine j_aload_n C dX7_nextTo_19 2 rfl ?_
    refine j_getI C kK6 f249 kfX7_47 (by decide) ta1 dX7_nextTo_20 ?_
    refine j_ishl C dX7_nextTo_23 ?_
    refine j_sub (L' := [(0, vR (some p0)), (1, vR (some a1)), (2, vR v2)]) [1, 2, 0] rfl ?_
    exact jB_X7_nextTo_24 C E S3 p0 tp0 a1 ta1 v2 tv2 ((1 : Int32) <<< ((gFI S3 249 a1) &&& 31))
  · refine j_iconst C (v := (0 : Int32)) dX7_nextTo_14 (by decide) ?_
    refine j_goto C (tgt := 24) dX7_nextTo_15 (by decide) ?_
    refine j_sub (L' := [(0, vR (some p0)), (1, vR (some a1)), (2, vR v2)]) [1, 2, 0] rfl ?_
    exact jB_X7_nextTo_24 C E S3 p0 tp0 a1 ta1 v2 tv2 (0 : Int32)
theorem c_X7_nextTo {l : Launch} {D : va_G} {cy : Nat → ClassId} {Λ : sLay} {S : sSt} (p0 : Nat) (tp0 : isK Λ 7 p0) (p1 : Option Nat) (tp1 : okK Λ 6 p1) {v : Int32} {S1 : sSt} (h : F_X7_nextTo Λ.2.2 S p0 p1 = some (v, S1)) : jM l yX7_nextTo (Cond.code yX7_nextTo cX7_nextTo 6 (some .int) :: bigW) rm_X7_nextTo D cy Λ S [vR (some p0), vR p1] rI (v, S1) := jM_of (by decide +kernel) (Nat.le_of_ble_eq_true rfl) (fun X C E _ _ _ => j_sub [0, 1] rfl (jF_X7_nextTo C E p0 tp0 p1 tp1)) h
/-! RemakeNeeds2.Rings.findReach(LRemakeNeeds2$Units;)V -/
abbrev rm_X2_findReach : Room := { frames := 3, cells := 0, slots := 0, locals := 73 }
def B_X2_findReach_92 (N : Nat → Nat) (k44 : sSt → Nat → Int32 → Option sSt) (k55 : sSt → Nat → Int32 → Int32 → Option sSt) (S : sSt) (p0 : Nat) (p2 : Int32) (p3 : Int32) : Option sSt := k55 S p0 p2 (p3 + (1 : Int32))
set_option maxHeartbeats 4000000 in
theorem jB_X2_findReach_92 {X : jX} (C : jC X cX2_findReach 4 RX2 rm_X2_findReach) {Λ : sLay} {r : sSt} (E : jE X none rV Λ ((), r)) (k44 : sSt → Nat → Int32 → Option sSt) (hk44 : ∀ (S : sSt) (p0 : Nat) (tp0 : isK Λ 2 p0) (p2 : Int32), J X 4 0 0 44 [(0, vR (some p0)), (2, vI p2)] [] Λ S (k44 S p0 p2 = some r)) (k55 : sSt → Nat → Int32 → Int32 → Option sSt) (hk55 : ∀ (S : sSt) (p0 : Nat) (tp0 : isK Λ 2 p0) (p2 : Int32) (p3 : Int32), J X 4 0 0 55 [(0, vR (some p0)), (2, vI p2), (3, vI p3)] [] Λ S (k55 S p0 p2 p3 = some r)) : ∀ (S : sSt) (p0 : Nat) (tp0 : isK Λ 2 p0) (p2 : Int32) (p3 : Int32), J X 4 0 0 92 [(0, vR (some p0)), (2, vI p2), (3, vI p3)] [] Λ S (B_X2_findReach_92 Λ.2.2 k44 k55 S p0 p2 p3 = some r) := by
  intro S p0 tp0 p2 p3
  unfold B_X2_findReach_92
  refine j_iinc C (v := (1 : Int32)) (L' := [(3, vI (p3 + (1 : Int32))), (0, vR (some p0)), (2, vI p2)]) dX2_findReach_92 2 rfl (by decide) (by decide) rfl ?_
  refine j_goto C (tgt := 55) dX2_findReach_95 (by decide) ?_
  refine j_sub (L' := [(0, vR (some p0)), (2, vI p2), (3, vI (p3 + (1 : Int32)))]) [1, 2, 0] rfl ?_
  exact hk55 S p0 tp0 p2 (p3 + (1 : Int32))
def Y_X2_findReach_55 (N : Nat → Nat) (k44 : sSt → Nat → Int32 → Option sSt) (rec : sSt → Nat → Int32 → Int32 → Option sSt) (S : sSt) (p0 : Nat) (p2 : Int32) (p3 : Int32) : Option sSt := bnd (gFR S 80 p0) (fun x5 => Option.bind x5 (fun a6 => (if (nI (N a6)) ≤ p3 then k44 S p0 (p2 + (1 : Int32)) else bnd (gFR S 80 p0) (fun x7 => Option.bind x7 (fun a8 => gi p3 (N a8) ((if (((gAI S a8 (Int32.toNatClampNeg p3)) >>> (p2 &&& 31)) &&& (1 : Int32)) = 0 then B_X2_findReach_92 N k44 rec S p0 p2 p3 else bnd (gFR S 80 p0) (fun x9 => Option.bind x9 (fun a10 => gi p3 (N a10) (bnd (gFR S 80 p0) (fun x11 => Option.bind x11 (fun a12 => gi p2 (N a12) (gi p3 (N a10) (bnd (sAI S a10 (Int32.toNatClampNeg p3) ((gAI S a10 (Int32.toNatClampNeg p3)) ||| (gAI S a12 (Int32.toNatClampNeg p2)))) (fun S13 => B_X2_findReach_92 N k44 rec S13 p0 p2 p3)))))))))))))))
set_option maxHeartbeats 4000000 in
theorem jY_X2_findReach_55 {X : jX} (C : jC X cX2_findReach 4 RX2 rm_X2_findReach) {Λ : sLay} {r : sSt} (E : jE X none rV Λ ((), r)) (k44 : sSt → Nat → Int32 → Option sSt) (hk44 : ∀ (S : sSt) (p0 : Nat) (tp0 : isK Λ 2 p0) (p2 : Int32), J X 4 0 0 44 [(0, vR (some p0)), (2, vI p2)] [] Λ S (k44 S p0 p2 = some r)) (rec : sSt → Nat → Int32 → Int32 → Option sSt) (hrec : ∀ (S : sSt) (p0 : Nat) (tp0 : isK Λ 2 p0) (p2 : Int32) (p3 : Int32), J X 4 0 0 55 [(0, vR (some p0)), (2, vI p2), (3, vI p3)] [] Λ S (rec S p0 p2 p3 = some r)) : ∀ (S : sSt) (p0 : Nat) (tp0 : isK Λ 2 p0) (p2 : Int32) (p3 : Int32), J X 4 0 0 55 [(0, vR (some p0)), (2, vI p2), (3, vI p3)] [] Λ S (Y_X2_findReach_55 Λ.2.2 k44 rec S p0 p2 p3 = some r) := by
  intro S p0 tp0 p2 p3
  unfold Y_X2_findReach_55
  refine j_iload_n C dX2_findReach_55 2 rfl ?_
  refine j_aload_n C dX2_findReach_56 0 rfl ?_
  refine j_getR C kK2 f80 kfX2_9 (by decide) rfl tp0 dX2_findReach_57 (fun x5 tx5 => ?_)
  refine j_oc tx5 (fun a6 ta6 ea6 => ?_)
  subst ea6
  refine j_alen C ta6 (by decide) dX2_findReach_60 ?_
  refine j_icmp_ge C (tgt := 98) dX2_findReach_61 (by decide) ?_ ?_
  · refine j_iinc C (v := (1 : Int32)) (L' := [(2, vI (p2 + (1 : Int32))), (0, vR (some p0)), (3, vI p3)]) dX2_findReach_98 1 rfl (by decide) (by decide) rfl ?_
    refine j_goto C (tgt := 44) dX2_findReach_101 (by decide) ?_
    refine j_sub (L' := [(0, vR (some p0)), (2, vI (p2 + (1 : Int32)))]) [1, 0] rfl ?_
    exact hk44 S p0 tp0 (p2 + (1 : Int32))
  · refine j_aload_n C dX2_findReach_64 0 rfl ?_
    refine j_getR C kK2 f80 kfX2_9 (by decide) rfl tp0 dX2_findReach_65 (fun x7 tx7 => ?_)
    refine j_iload_n C dX2_findReach_68 2 rfl ?_
    refine j_oc tx7 (fun a8 ta8 ea8 => ?_)
    subst ea8
    refine j_iald C ta8 dX2_findReach_69 ?_
    refine j_iload_n C dX2_findReach_70 1 rfl ?_
    refine j_ishr C dX2_findReach_71 ?_
    refine j_iconst C (v := (1 : Int32)) dX2_findReach_72 (by decide) ?_
    refine j_iand C dX2_findReach_73 ?_
    refine j_if_eq C (tgt := 92) dX2_findReach_74 (by decide) ?_ ?_
    · exact jB_X2_findReach_92 C E k44 hk44 rec hrec S p0 tp0 p2 p3
    · refine j_aload_n C dX2_findReach_77 0 rfl ?_
      refine j_getR C kK2 f80 kfX2_9 (by decide) rfl tp0 dX2_findReach_78 (fun x9 tx9 => ?_)
      refine j_iload_n C dX2_findReach_81 2 rfl ?_
      refine j_dup2 C dX2_findReach_82 rfl rfl ?_
      refine j_oc tx9 (fun a10 ta10 ea10 => ?_)
      subst ea10
      refine j_iald C ta10 dX2_findReach_83 ?_
      refine j_aload_n C dX2_findReach_84 0 rfl ?_
      refine j_getR C kK2 f80 kfX2_9 (by decide) rfl tp0 dX2_findReach_85 (fun x11 tx11 => ?_)
      refine j_iload_n C dX2_findReach_88 1 rfl ?_
      refine j_oc tx11 (fun a12 ta12 ea12 => ?_)
      subst ea12
      refine j_iald C ta12 dX2_findReach_89 ?_
      refine j_ior C dX2_findReach_90 ?_
      refine j_iast C ta10 dX2_findReach_91 (fun S13 => ?_)
      exact jB_X2_findReach_92 C E k44 hk44 rec hrec S13 p0 tp0 p2 p3
def L_X2_findReach_55 (N : Nat → Nat) (k44 : sSt → Nat → Int32 → Option sSt) (n : Nat) : sSt → Nat → Int32 → Int32 → Option sSt := iter (fun _ _ _ _ => none) (Y_X2_findReach_55 N k44) n
theorem jL_X2_findReach_55 {X : jX} (C : jC X cX2_findReach 4 RX2 rm_X2_findReach) {Λ : sLay} {r : sSt} (E : jE X none rV Λ ((), r)) (k44 : sSt → Nat → Int32 → Option sSt) (hk44 : ∀ (S : sSt) (p0 : Nat) (tp0 : isK Λ 2 p0) (p2 : Int32), J X 4 0 0 44 [(0, vR (some p0)), (2, vI p2)] [] Λ S (k44 S p0 p2 = some r)) : ∀ (n : Nat) (S : sSt) (p0 : Nat) (tp0 : isK Λ 2 p0) (p2 : Int32) (p3 : Int32), J X 4 0 0 55 [(0, vR (some p0)), (2, vI p2), (3, vI p3)] [] Λ S (L_X2_findReach_55 Λ.2.2 k44 n S p0 p2 p3 = some r) := by
  intro n
  induction n with
  | zero => intro S p0 tp0 p2 p3; exact j_no (fun h => by have h2 : (none : Option sSt) = some r := h; cases h2)
  | succ n ih => intro S p0 tp0 p2 p3; exact jY_X2_findReach_55 C E k44 hk44 (L_X2_findReach_55 Λ.2.2 k44 n) ih S p0 tp0 p2 p3
def Y_X2_findReach_44 (N : Nat → Nat) (rec : sSt → Nat → Int32 → Option sSt) (S : sSt) (p0 : Nat) (p2 : Int32) : Option sSt := bnd (gFR S 80 p0) (fun x3 => Option.bind x3 (fun a4 => (if (nI (N a4)) ≤ p2 then some S else L_X2_findReach_55 N rec FU S p0 p2 (0 : Int32))))
set_option maxHeartbeats 4000000 in
theorem jY_X2_findReach_44 {X : jX} (C : jC X cX2_findReach 4 RX2 rm_X2_findReach) {Λ : sLay} {r : sSt} (E : jE X none rV Λ ((), r)) (rec : sSt → Nat → Int32 → Option sSt) (hrec : ∀ (S : sSt) (p0 : Nat) (tp0 : isK Λ 2 p0) (p2 : Int32), J X 4 0 0 44 [(0, vR (some p0)), (2, vI p2)] [] Λ S (rec S p0 p2 = some r)) : ∀ (S : sSt) (p0 : Nat) (tp0 : isK Λ 2 p0) (p2 : Int32), J X 4 0 0 44 [(0, vR (some p0)), (2, vI p2)] [] Λ S (Y_X2_findReach_44 Λ.2.2 rec S p0 p2 = some r) := by
  intro S p0 tp0 p2
  unfold Y_X2_findReach_44
  refine j_iload_n C dX2_findReach_44 1 rfl ?_
  refine j_aload_n C dX2_findReach_45 0 rfl ?_
  refine j_getR C kK2 f80 kfX2_9 (by decide) rfl tp0 dX2_findReach_46 (fun x3 tx3 => ?_)
  refine j_oc tx3 (fun a4 ta4 ea4 => ?_)
  subst ea4
  refine j_alen C ta4 (by decide) dX2_findReach_49 ?_
  refine j_icmp_ge C (tgt := 104) dX2_findReach_50 (by decide) ?_ ?_
  · exact j_vretP C E dX2_findReach_104
  · refine j_iconst C (v := (0 : Int32)) dX2_findReach_53 (by decide) ?_
    refine j_istore_n C (L' := [(3, vI (0 : Int32)), (0, vR (some p0)), (2, vI p2)]) dX2_findReach_54 (by decide) rfl ?_
    refine j_sub (L' := [(0, vR (some p0)), (2, vI p2), (3, vI (0 : Int32))]) [1, 2, 0] rfl ?_
    exact jL_X2_findReach_55 C E rec hrec FU S p0 tp0 p2 (0 : Int32)
def L_X2_findReach_44 (N : Nat → Nat) (n : Nat) : sSt → Nat → Int32 → Option sSt := iter (fun _ _ _ => none) (Y_X2_findReach_44 N) n
theorem jL_X2_findReach_44 {X : jX} (C : jC X cX2_findReach 4 RX2 rm_X2_findReach) {Λ : sLay} {r : sSt} (E : jE X none rV Λ ((), r)) : ∀ (n : Nat) (S : sSt) (p0 : Nat) (tp0 : isK Λ 2 p0) (p2 : Int32), J X 4 0 0 44 [(0, vR (some p0)), (2, vI p2)] [] Λ S (L_X2_findReach_44 Λ.2.2 n S p0 p2 = some r) := by
  intro n
  induction n with
  | zero => intro S p0 tp0 p2; exact j_no (fun h => by have h2 : (none : Option sSt) = some r := h; cases h2)
  | succ n ih => intro S p0 tp0 p2; exact jY_X2_findReach_44 C E (L_X2_findReach_44 Λ.2.2 n) ih S p0 tp0 p2
def B_X2_findReach_35 (N : Nat → Nat) (k2 : sSt → Nat → (Option Nat) → Int32 → Option sSt) (S : sSt) (p0 : Nat) (p1 : Nat) (p2 : Int32) (s0 : Int32) (s1 : Int32) (s2 : Option Nat) : Option sSt := Option.bind s2 (fun a19 => gi s1 (N a19) (bnd (sAI S a19 (Int32.toNatClampNeg s1) s0) (fun S20 => k2 S20 p0 (some p1) (p2 + (1 : Int32)))))
set_option maxHeartbeats 4000000 in
theorem jB_X2_findReach_35 {X : jX} (C : jC X cX2_findReach 4 RX2 rm_X2_findReach) {Λ : sLay} {r : sSt} (E : jE X none rV Λ ((), r)) (k2 : sSt → Nat → (Option Nat) → Int32 → Option sSt) (hk2 : ∀ (S : sSt) (p0 : Nat) (tp0 : isK Λ 2 p0) (p1 : Option Nat) (tp1 : okK Λ 7 p1) (p2 : Int32), J X 4 0 0 2 [(0, vR (some p0)), (1, vR p1), (2, vI p2)] [] Λ S (k2 S p0 p1 p2 = some r)) : ∀ (S : sSt) (p0 : Nat) (tp0 : isK Λ 2 p0) (p1 : Nat) (tp1 : isK Λ 7 p1) (p2 : Int32) (s0 : Int32) (s1 : Int32) (s2 : Option Nat) (ts2 : okK Λ 10 s2), J X 4 0 0 35 [(0, vR (some p0)), (1, vR (some p1)), (2, vI p2)] [vI s0, vI s1, vR s2] Λ S (B_X2_findReach_35 Λ.2.2 k2 S p0 p1 p2 s0 s1 s2 = some r) := by
  intro S p0 tp0 p1 tp1 p2 s0 s1 s2 ts2
  unfold B_X2_findReach_35
  refine j_oc ts2 (fun a19 ta19 ea19 => ?_)
  subst ea19
  refine j_iast C ta19 dX2_findReach_35 (fun S20 => ?_)
  refine j_iinc C (v := (1 : Int32)) (L' := [(2, vI (p2 + (1 : Int32))), (0, vR (some p0)), (1, vR (some p1))]) dX2_findReach_36 2 rfl (by decide) (by decide) rfl ?_
  refine j_goto C (tgt := 2) dX2_findReach_39 (by decide) ?_
  refine j_sub (L' := [(0, vR (some p0)), (1, vR (some p1)), (2, vI (p2 + (1 : Int32)))]) [1, 2, 0] rfl ?_
  exact hk2 S20 p0 tp0 (some p1) (okS tp1) (p2 + (1 : Int32))
def Y_X2_findReach_2 (N : Nat → Nat) (rec : sSt → Nat → (Option Nat) → Int32 → Option sSt) (S : sSt) (p0 : Nat) (p1 : Option Nat) (p2 : Int32) : Option sSt := bnd (gFR S 80 p0) (fun x1 => Option.bind x1 (fun a2 => (if (nI (N a2)) ≤ p2 then L_X2_findReach_44 N FU S p0 (0 : Int32) else Option.bind p1 (fun a14 => Option.bind (F_X7_at N S a14 p2) (fun v15 => bnd (gFR S 80 p0) (fun x17 => onl v15 (B_X2_findReach_35 N rec S p0 a14 p2 (0 : Int32) p2 x17) (fun a18 => obd (F_X7_nextTo N S a14 (some a18)) (fun v21 S22 => B_X2_findReach_35 N rec S22 p0 a14 p2 v21 p2 x17))))))))
set_option maxHeartbeats 4000000 in
theorem jY_X2_findReach_2 {X : jX} (C : jC X cX2_findReach 4 RX2 rm_X2_findReach) {Λ : sLay} {r : sSt} (E : jE X none rV Λ ((), r)) (rec : sSt → Nat → (Option Nat) → Int32 → Option sSt) (hrec : ∀ (S : sSt) (p0 : Nat) (tp0 : isK Λ 2 p0) (p1 : Option Nat) (tp1 : okK Λ 7 p1) (p2 : Int32), J X 4 0 0 2 [(0, vR (some p0)), (1, vR p1), (2, vI p2)] [] Λ S (rec S p0 p1 p2 = some r)) : ∀ (S : sSt) (p0 : Nat) (tp0 : isK Λ 2 p0) (p1 : Option Nat) (tp1 : okK Λ 7 p1) (p2 : Int32), J X 4 0 0 2 [(0, vR (some p0)), (1, vR p1), (2, vI p2)] [] Λ S (Y_X2_findReach_2 Λ.2.2 rec S p0 p1 p2 = some r) := by
  intro S p0 tp0 p1 tp1 p2
  unfold Y_X2_findReach_2
  refine j_iload_n C dX2_findReach_2 2 rfl ?_
  refine j_aload_n C dX2_findReach_3 0 rfl ?_
  refine j_getR C kK2 f80 kfX2_9 (by decide) rfl tp0 dX2_findReach_4 (fun x1 tx1 => ?_)
  refine j_oc tx1 (fun a2 ta2 ea2 => ?_)
  subst ea2
  refine j_alen C ta2 (by decide) dX2_findReach_7 ?_
  refine j_icmp_ge C (tgt := 42) dX2_findReach_8 (by decide) ?_ ?_
  · refine j_iconst C (v := (0 : Int32)) dX2_findReach_42 (by decide) ?_
    refine j_istore_n C (L' := [(2, vI (0 : Int32)), (0, vR (some p0)), (1, vR p1)]) dX2_findReach_43 (by decide) rfl ?_
    refine j_sub (L' := [(0, vR (some p0)), (2, vI (0 : Int32))]) [1, 0] rfl ?_
    exact jL_X2_findReach_44 C E FU S p0 tp0 (0 : Int32)
  · refine j_aload_n C dX2_findReach_11 1 rfl ?_
    refine j_iload_n C dX2_findReach_12 2 rfl ?_
    refine j_oc tp1 (fun a14 ta14 ea14 => ?_)
    subst ea14
    refine j_cVRP C [vI p2] [] (fun _ e => c_X7_at a14 ta14 p2 e) kYX7_at kVX7_at kmX2_41 kO7 ta14 rfl rfl ⟨rfl, rfl, by decide, by decide⟩ (Nat.le_of_ble_eq_true rfl) ⟨Nat.zero_le _, Nat.zero_le _⟩ dX2_findReach_13 (fun v15 tv15 => ?_)
    refine j_astore_n C (L' := [(3, vR v15), (0, vR (some p0)), (1, vR (some a14)), (2, vI p2)]) dX2_findReach_16 (by decide) rfl ?_
    refine j_aload_n C dX2_findReach_17 1 rfl ?_
    refine j_getR C kK2 f80 kfX2_9 (by decide) rfl tp0 dX2_findReach_18 (fun x17 tx17 => ?_)
    refine j_iload_n C dX2_findReach_21 3 rfl ?_
    refine j_aload_n C dX2_findReach_22 0 rfl ?_
    refine j_ifnonnull C (tgt := 30) tv15 dX2_findReach_23 (by decide) (fun ea18 => ?_) (fun a18 ta18 ea18 => ?_)
    · subst ea18
      refine j_iconst C (v := (0 : Int32)) dX2_findReach_26 (by decide) ?_
      refine j_goto C (tgt := 35) dX2_findReach_27 (by decide) ?_
      refine j_sub (L' := [(0, vR (some p0)), (1, vR (some a14)), (2, vI p2)]) [1, 2, 3] rfl ?_
      exact jB_X2_findReach_35 C E rec hrec S p0 tp0 a14 ta14 p2 (0 : Int32) p2 x17 tx17
    · subst ea18
      refine j_aload_n C dX2_findReach_30 2 rfl ?_
      refine j_aload_n C dX2_findReach_31 0 rfl ?_
      refine j_cVIG C [vR (some a18)] [vI p2, vR x17] (fun _ _ e => c_X7_nextTo a14 ta14 (some a18) (okS ta18) e) kYX7_nextTo kVX7_nextTo kmX2_51 kO7 ta14 rfl rfl ⟨rfl, rfl, by decide, by decide⟩ (Nat.le_of_ble_eq_true rfl) ⟨Nat.zero_le _, Nat.zero_le _⟩ dX2_findReach_32 (fun v21 S22 => ?_)
      refine j_sub (L' := [(0, vR (some p0)), (1, vR (some a14)), (2, vI p2)]) [1, 2, 3] rfl ?_
      exact jB_X2_findReach_35 C E rec hrec S22 p0 tp0 a14 ta14 p2 v21 p2 x17 tx17
def L_X2_findReach_2 (N : Nat → Nat) (n : Nat) : sSt → Nat → (Option Nat) → Int32 → Option sSt := iter (fun _ _ _ _ => none) (Y_X2_findReach_2 N) n
theorem jL_X2_findReach_2 {X : jX} (C : jC X cX2_findReach 4 RX2 rm_X2_findReach) {Λ : sLay} {r : sSt} (E : jE X none rV Λ ((), r)) : ∀ (n : Nat) (S : sSt) (p0 : Nat) (tp0 : isK Λ 2 p0) (p1 : Option Nat) (tp1 : okK Λ 7 p1) (p2 : Int32), J X 4 0 0 2 [(0, vR (some p0)), (1, vR p1), (2, vI p2)] [] Λ S (L_X2_findReach_2 Λ.2.2 n S p0 p1 p2 = some r) := by
  intro n
  induction n with
  | zero => intro S p0 tp0 p1 tp1 p2; exact j_no (fun h => by have h2 : (none : Option sSt) = some r := h; cases h2)
  | succ n ih => intro S p0 tp0 p1 tp1 p2; exact jY_X2_findReach_2 C E (L_X2_findReach_2 Λ.2.2 n) ih S p0 tp0 p1 tp1 p2
def F_X2_findReach (N : Nat → Nat) (S : sSt) (p0 : Nat) (p1 : Option Nat) : Option sSt := L_X2_findReach_2 N FU S p0 p1 (0 : Int32)
set_option maxHeartbeats 4000000 in
theorem jF_X2_findReach {X : jX} (C : jC X cX2_findReach 4 RX2 rm_X2_findReach) {Λ : sLay} {S : sSt} {r : sSt} (E : jE X none rV Λ ((), r)) (p0 : Nat) (tp0 : isK Λ 2 p0) (p1 : Option Nat) (tp1 : okK Λ 7 p1) : J X 4 0 0 0 [(0, vR (some p0)), (1, vR p1)] [] Λ S (F_X2_findReach Λ.2.2 S p0 p1 = some r) := by
  unfold F_X2_findReach
  refine j_iconst C (v := (0 : Int32)) dX2_findReach_0 (by decide) ?_
  refine j_istore_n C (L' := [(2, vI (0 : Int32)), (0, vR (some p0)), (1, vR p1)]) dX2_findReach_1 (by decide) rfl ?_
  refine j_sub (L' := [(0, vR (some p0)), (1, vR p1), (2, vI (0 : Int32))]) [1, 2, 0] rfl ?_
  exact jL_X2_findReach_2 C E FU S p0 tp0 p1 tp1 (0 : Int32)
theorem c_X2_findReach {l : Launch} {D : va_G} {cy : Nat → ClassId} {Λ : sLay} {S : sSt} (p0 : Nat) (tp0 : isK Λ 2 p0) (p1 : Option Nat) (tp1 : okK Λ 7 p1) {r : sSt} (h : F_X2_findReach Λ.2.2 S p0 p1 = some r) : jM l yX2_findReach (Cond.code yX2_findReach cX2_findReach 4 none :: bigW) rm_X2_findReach D cy Λ S [vR (some p0), vR p1] rV ((), r) := jM_of (by decide +kernel) (Nat.le_of_ble_eq_true rfl) (fun X C E _ _ _ => j_sub [0, 1] rfl (jF_X2_findReach C E p0 tp0 p1 tp1)) h
/-! RemakeNeeds2.Rings.reachOf(I)I -/
abbrev rm_X2_reachOf : Room := { frames := 0, cells := 0, slots := 0, locals := 0 }
def F_X2_reachOf (N : Nat → Nat) (S : sSt) (p0 : Nat) (p1 : Int32) : Option Int32 := (if p1 < 0 then some (0 : Int32) else bnd (gFR S 80 p0) (fun x1 => Option.bind x1 (fun a2 => (if (nI (N a2)) ≤ p1 then some (0 : Int32) else bnd (gFR S 80 p0) (fun x3 => Option.bind x3 (fun a4 => gi p1 (N a4) (some (gAI S a4 (Int32.toNatClampNeg p1)))))))))
set_option maxHeartbeats 4000000 in
theorem jF_X2_reachOf {X : jX} (C : jC X cX2_reachOf 2 RX2 rm_X2_reachOf) {Λ : sLay} {S : sSt} {r : Int32} (E : jE X (some .int) rI Λ (r, S)) (p0 : Nat) (tp0 : isK Λ 2 p0) (p1 : Int32) : J X 2 0 0 0 [(0, vR (some p0)), (1, vI p1)] [] Λ S (F_X2_reachOf Λ.2.2 S p0 p1 = some r) := by
  unfold F_X2_reachOf
  refine j_iload_n C dX2_reachOf_0 1 rfl ?_
  refine j_if_lt C (tgt := 22) dX2_reachOf_1 (by decide) ?_ ?_
  · refine j_iconst C (v := (0 : Int32)) dX2_reachOf_22 (by decide) ?_
    exact j_iretP C E dX2_reachOf_23
  · refine j_iload_n C dX2_reachOf_4 1 rfl ?_
    refine j_aload_n C dX2_reachOf_5 0 rfl ?_
    refine j_getR C kK2 f80 kfX2_9 (by decide) rfl tp0 dX2_reachOf_6 (fun x1 tx1 => ?_)
    refine j_oc tx1 (fun a2 ta2 ea2 => ?_)
    subst ea2
    refine j_alen C ta2 (by decide) dX2_reachOf_9 ?_
    refine j_icmp_ge C (tgt := 22) dX2_reachOf_10 (by decide) ?_ ?_
    · refine j_iconst C (v := (0 : Int32)) dX2_reachOf_22 (by decide) ?_
      exact j_iretP C E dX2_reachOf_23
    · refine j_aload_n C dX2_reachOf_13 0 rfl ?_
      refine j_getR C kK2 f80 kfX2_9 (by decide) rfl tp0 dX2_reachOf_14 (fun x3 tx3 => ?_)
      refine j_iload_n C dX2_reachOf_17 1 rfl ?_
      refine j_oc tx3 (fun a4 ta4 ea4 => ?_)
      subst ea4
      refine j_iald C ta4 dX2_reachOf_18 ?_
      refine j_goto C (tgt := 23) dX2_reachOf_19 (by decide) ?_
      exact j_iretP C E dX2_reachOf_23
theorem c_X2_reachOf {l : Launch} {D : va_G} {cy : Nat → ClassId} {Λ : sLay} {S : sSt} (p0 : Nat) (tp0 : isK Λ 2 p0) (p1 : Int32) {r : Int32} (h : F_X2_reachOf Λ.2.2 S p0 p1 = some r) : jM l yX2_reachOf (Cond.code yX2_reachOf cX2_reachOf 2 (some .int) :: bigW) rm_X2_reachOf D cy Λ S [vR (some p0), vI p1] rI (r, S) := jM_of (by decide +kernel) (Nat.le_of_ble_eq_true rfl) (fun X C E _ _ _ => j_sub [0, 1] rfl (jF_X2_reachOf C E p0 tp0 p1)) h
/-! RemakeNeeds2.Rings.ringAround(I)I -/
abbrev rm_X2_ringAround : Room := { frames := 1, cells := 0, slots := 0, locals := 21 }
def B_X2_ringAround_46 (N : Nat → Nat) (S : sSt) (k6 : Nat → Int32 → Int32 → Int32 → Option Int32) (p0 : Nat) (p1 : Int32) (p2 : Int32) (p3 : Int32) : Option Int32 := k6 p0 p1 p2 (p3 + (1 : Int32))
set_option maxHeartbeats 4000000 in
theorem jB_X2_ringAround_46 {X : jX} (C : jC X cX2_ringAround 4 RX2 rm_X2_ringAround) {Λ : sLay} {S : sSt} {r : Int32} (E : jE X (some .int) rI Λ (r, S)) (k6 : Nat → Int32 → Int32 → Int32 → Option Int32) (hk6 : ∀ (p0 : Nat) (tp0 : isK Λ 2 p0) (p1 : Int32) (p2 : Int32) (p3 : Int32), J X 4 0 0 6 [(0, vR (some p0)), (1, vI p1), (2, vI p2), (3, vI p3)] [] Λ S (k6 p0 p1 p2 p3 = some r)) : ∀ (p0 : Nat) (tp0 : isK Λ 2 p0) (p1 : Int32) (p2 : Int32) (p3 : Int32), J X 4 0 0 46 [(0, vR (some p0)), (1, vI p1), (2, vI p2), (3, vI p3)] [] Λ S (B_X2_ringAround_46 Λ.2.2 S k6 p0 p1 p2 p3 = some r) := by
  intro p0 tp0 p1 p2 p3
  unfold B_X2_ringAround_46
  refine j_iinc C (v := (1 : Int32)) (L' := [(3, vI (p3 + (1 : Int32))), (0, vR (some p0)), (1, vI p1), (2, vI p2)]) dX2_ringAround_46 3 rfl (by decide) (by decide) rfl ?_
  refine j_goto C (tgt := 6) dX2_ringAround_49 (by decide) ?_
  refine j_sub (L' := [(0, vR (some p0)), (1, vI p1), (2, vI p2), (3, vI (p3 + (1 : Int32)))]) [1, 2, 3, 0] rfl ?_
  exact hk6 p0 tp0 p1 p2 (p3 + (1 : Int32))
def Y_X2_ringAround_6 (N : Nat → Nat) (S : sSt) (rec : Nat → Int32 → Int32 → Int32 → Option Int32) (p0 : Nat) (p1 : Int32) (p2 : Int32) (p3 : Int32) : Option Int32 := bnd (gFR S 80 p0) (fun x1 => Option.bind x1 (fun a2 => (if (nI (N a2)) ≤ p3 then some p2 else Option.bind (F_X2_reachOf N S p0 p1) (fun v3 => (if ((v3 >>> (p3 &&& 31)) &&& (1 : Int32)) = 0 then B_X2_ringAround_46 N S rec p0 p1 p2 p3 else bnd (gFR S 80 p0) (fun x5 => Option.bind x5 (fun a6 => gi p3 (N a6) ((if (((gAI S a6 (Int32.toNatClampNeg p3)) >>> (p1 &&& 31)) &&& (1 : Int32)) = 0 then B_X2_ringAround_46 N S rec p0 p1 p2 p3 else B_X2_ringAround_46 N S rec p0 p1 (p2 ||| ((1 : Int32) <<< (p3 &&& 31))) p3)))))))))
set_option maxHeartbeats 4000000 in
theorem jY_X2_ringAround_6 {X : jX} (C : jC X cX2_ringAround 4 RX2 rm_X2_ringAround) {Λ : sLay} {S : sSt} {r : Int32} (E : jE X (some .int) rI Λ (r, S)) (rec : Nat → Int32 → Int32 → Int32 → Option Int32) (hrec : ∀ (p0 : Nat) (tp0 : isK Λ 2 p0) (p1 : Int32) (p2 : Int32) (p3 : Int32), J X 4 0 0 6 [(0, vR (some p0)), (1, vI p1), (2, vI p2), (3, vI p3)] [] Λ S (rec p0 p1 p2 p3 = some r)) : ∀ (p0 : Nat) (tp0 : isK Λ 2 p0) (p1 : Int32) (p2 : Int32) (p3 : Int32), J X 4 0 0 6 [(0, vR (some p0)), (1, vI p1), (2, vI p2), (3, vI p3)] [] Λ S (Y_X2_ringAround_6 Λ.2.2 S rec p0 p1 p2 p3 = some r) := by
  intro p0 tp0 p1 p2 p3
  unfold Y_X2_ringAround_6
  refine j_iload_n C dX2_ringAround_6 3 rfl ?_
  refine j_aload_n C dX2_ringAround_7 0 rfl ?_
  refine j_getR C kK2 f80 kfX2_9 (by decide) rfl tp0 dX2_ringAround_8 (fun x1 tx1 => ?_)
  refine j_oc tx1 (fun a2 ta2 ea2 => ?_)
  subst ea2
  refine j_alen C ta2 (by decide) dX2_ringAround_11 ?_
  refine j_icmp_ge C (tgt := 52) dX2_ringAround_12 (by decide) ?_ ?_
  · refine j_iload_n C dX2_ringAround_52 2 rfl ?_
    exact j_iretP C E dX2_ringAround_53
  · refine j_aload_n C dX2_ringAround_15 0 rfl ?_
    refine j_iload_n C dX2_ringAround_16 1 rfl ?_
    refine j_cVIP C [vI p1] [] (fun _ e => c_X2_reachOf p0 tp0 p1 e) kYX2_reachOf kVX2_reachOf kmX2_61 kO2 tp0 rfl rfl ⟨rfl, rfl, by decide, by decide⟩ (Nat.le_of_ble_eq_true rfl) ⟨Nat.zero_le _, Nat.zero_le _⟩ dX2_ringAround_17 (fun v3 => ?_)
    refine j_iload_n C dX2_ringAround_20 3 rfl ?_
    refine j_ishr C dX2_ringAround_21 ?_
    refine j_iconst C (v := (1 : Int32)) dX2_ringAround_22 (by decide) ?_
    refine j_iand C dX2_ringAround_23 ?_
    refine j_if_eq C (tgt := 46) dX2_ringAround_24 (by decide) ?_ ?_
    · exact jB_X2_ringAround_46 C E rec hrec p0 tp0 p1 p2 p3
    · refine j_aload_n C dX2_ringAround_27 0 rfl ?_
      refine j_getR C kK2 f80 kfX2_9 (by decide) rfl tp0 dX2_ringAround_28 (fun x5 tx5 => ?_)
      refine j_iload_n C dX2_ringAround_31 3 rfl ?_
      refine j_oc tx5 (fun a6 ta6 ea6 => ?_)
      subst ea6
      refine j_iald C ta6 dX2_ringAround_32 ?_
      refine j_iload_n C dX2_ringAround_33 1 rfl ?_
      refine j_ishr C dX2_ringAround_34 ?_
      refine j_iconst C (v := (1 : Int32)) dX2_ringAround_35 (by decide) ?_
      refine j_iand C dX2_ringAround_36 ?_
      refine j_if_eq C (tgt := 46) dX2_ringAround_37 (by decide) ?_ ?_
      · exact jB_X2_ringAround_46 C E rec hrec p0 tp0 p1 p2 p3
      · refine j_iload_n C dX2_ringAround_40 2 rfl ?_
        refine j_iconst C (v := (1 : Int32)) dX2_ringAround_41 (by decide) ?_
        refine j_iload_n C dX2_ringAround_42 3 rfl ?_
        refine j_ishl C dX2_ringAround_43 ?_
        refine j_ior C dX2_ringAround_44 ?_
        refine j_istore_n C (L' := [(2, vI (p2 ||| ((1 : Int32) <<< (p3 &&& 31)))), (0, vR (some p0)), (1, vI p1), (3, vI p3)]) dX2_ringAround_45 (by decide) rfl ?_
        refine j_sub (L' := [(0, vR (some p0)), (1, vI p1), (2, vI (p2 ||| ((1 : Int32) <<< (p3 &&& 31)))), (3, vI p3)]) [1, 2, 0, 3] rfl ?_
        exact jB_X2_ringAround_46 C E rec hrec p0 tp0 p1 (p2 ||| ((1 : Int32) <<< (p3 &&& 31))) p3
def L_X2_ringAround_6 (N : Nat → Nat) (S : sSt) (n : Nat) : Nat → Int32 → Int32 → Int32 → Option Int32 := iter (fun _ _ _ _ => none) (Y_X2_ringAround_6 N S) n
theorem jL_X2_ringAround_6 {X : jX} (C : jC X cX2_ringAround 4 RX2 rm_X2_ringAround) {Λ : sLay} {S : sSt} {r : Int32} (E : jE X (some .int) rI Λ (r, S)) : ∀ (n : Nat) (p0 : Nat) (tp0 : isK Λ 2 p0) (p1 : Int32) (p2 : Int32) (p3 : Int32), J X 4 0 0 6 [(0, vR (some p0)), (1, vI p1), (2, vI p2), (3, vI p3)] [] Λ S (L_X2_ringAround_6 Λ.2.2 S n p0 p1 p2 p3 = some r) := by
  intro n
  induction n with
  | zero => intro p0 tp0 p1 p2 p3; exact j_no (fun h => by have h2 : (none : Option Int32) = some r := h; cases h2)
  | succ n ih => intro p0 tp0 p1 p2 p3; exact jY_X2_ringAround_6 C E (L_X2_ringAround_6 Λ.2.2 S n) ih p0 tp0 p1 p2 p3
def F_X2_ringAround (N : Nat → Nat) (S : sSt) (p0 : Nat) (p1 : Int32) : Option Int32 := L_X2_ringAround_6 N S FU p0 p1 ((1 : Int32) <<< (p1 &&& 31)) (0 : Int32)
set_option maxHeartbeats 4000000 in
theorem jF_X2_ringAround {X : jX} (C : jC X cX2_ringAround 4 RX2 rm_X2_ringAround) {Λ : sLay} {S : sSt} {r : Int32} (E : jE X (some .int) rI Λ (r, S)) (p0 : Nat) (tp0 : isK Λ 2 p0) (p1 : Int32) : J X 4 0 0 0 [(0, vR (some p0)), (1, vI p1)] [] Λ S (F_X2_ringAround Λ.2.2 S p0 p1 = some r) := by
  unfold F_X2_ringAround
  refine j_iconst C (v := (1 : Int32)) dX2_ringAround_0 (by decide) ?_
  refine j_iload_n C dX2_ringAround_1 1 rfl ?_
  refine j_ishl C dX2_ringAround_2 ?_
  refine j_istore_n C (L' := [(2, vI ((1 : Int32) <<< (p1 &&& 31))), (0, vR (some p0)), (1, vI p1)]) dX2_ringAround_3 (by decide) rfl ?_
  refine j_iconst C (v := (0 : Int32)) dX2_ringAround_4 (by decide) ?_
  refine j_istore_n C (L' := [(3, vI (0 : Int32)), (2, vI ((1 : Int32) <<< (p1 &&& 31))), (0, vR (some p0)), (1, vI p1)]) dX2_ringAround_5 (by decide) rfl ?_
  refine j_sub (L' := [(0, vR (some p0)), (1, vI p1), (2, vI ((1 : Int32) <<< (p1 &&& 31))), (3, vI (0 : Int32))]) [2, 3, 1, 0] rfl ?_
  exact jL_X2_ringAround_6 C E FU p0 tp0 p1 ((1 : Int32) <<< (p1 &&& 31)) (0 : Int32)
theorem c_X2_ringAround {l : Launch} {D : va_G} {cy : Nat → ClassId} {Λ : sLay} {S : sSt} (p0 : Nat) (tp0 : isK Λ 2 p0) (p1 : Int32) {r : Int32} (h : F_X2_ringAround Λ.2.2 S p0 p1 = some r) : jM l yX2_ringAround (Cond.code yX2_ringAround cX2_ringAround 4 (some .int) :: bigW) rm_X2_ringAround D cy Λ S [vR (some p0), vI p1] rI (r, S) := jM_of (by decide +kernel) (Nat.le_of_ble_eq_true rfl) (fun X C E _ _ _ => j_sub [0, 1] rfl (jF_X2_ringAround C E p0 tp0 p1)) h
/-! java/lang/Integer.bitCount(I)I -/
abbrev rm_J6_bitCount_0f7a4 : Room := { frames := 0, cells := 0, slots := 0, locals := 0 }
def F_J6_bitCount_0f7a4 (N : Nat → Nat) (S : sSt) (p0 : Int32) : Option Int32 := some ((((((((p0 - ((jiushr p0 (1 : Int32)) &&& (1431655765 : Int32))) &&& (858993459 : Int32)) + ((jiushr (p0 - ((jiushr p0 (1 : Int32)) &&& (1431655765 : Int32))) (2 : Int32)) &&& (858993459 : Int32))) + (jiushr (((p0 - ((jiushr p0 (1 : Int32)) &&& (1431655765 : Int32))) &&& (858993459 : Int32)) + ((jiushr (p0 - ((jiushr p0 (1 : Int32)) &&& (1431655765 : Int32))) (2 : Int32)) &&& (858993459 : Int32))) (4 : Int32))) &&& (252645135 : Int32)) + (jiushr (((((p0 - ((jiushr p0 (1 : Int32)) &&& (1431655765 : Int32))) &&& (858993459 : Int32)) + ((jiushr (p0 - ((jiushr p0 (1 : Int32)) &&& (1431655765 : Int32))) (2 : Int32)) &&& (858993459 : Int32))) + (jiushr (((p0 - ((jiushr p0 (1 : Int32)) &&& (1431655765 : Int32))) &&& (858993459 : Int32)) + ((jiushr (p0 - ((jiushr p0 (1 : Int32)) &&& (1431655765 : Int32))) (2 : Int32)) &&& (858993459 : Int32))) (4 : Int32))) &&& (252645135 : Int32)) (8 : Int32))) + (jiushr ((((((p0 - ((jiushr p0 (1 : Int32)) &&& (1431655765 : Int32))) &&& (858993459 : Int32)) + ((jiushr (p0 - ((jiushr p0 (1 : Int32)) &&& (1431655765 : Int32))) (2 : Int32)) &&& (858993459 : Int32))) + (jiushr (((p0 - ((jiushr p0 (1 : Int32)) &&& (1431655765 : Int32))) &&& (858993459 : Int32)) + ((jiushr (p0 - ((jiushr p0 (1 : Int32)) &&& (1431655765 : Int32))) (2 : Int32)) &&& (858993459 : Int32))) (4 : Int32))) &&& (252645135 : Int32)) + (jiushr (((((p0 - ((jiushr p0 (1 : Int32)) &&& (1431655765 : Int32))) &&& (858993459 : Int32)) + ((jiushr (p0 - ((jiushr p0 (1 : Int32)) &&& (1431655765 : Int32))) (2 : Int32)) &&& (858993459 : Int32))) + (jiushr (((p0 - ((jiushr p0 (1 : Int32)) &&& (1431655765 : Int32))) &&& (858993459 : Int32)) + ((jiushr (p0 - ((jiushr p0 (1 : Int32)) &&& (1431655765 : Int32))) (2 : Int32)) &&& (858993459 : Int32))) (4 : Int32))) &&& (252645135 : Int32)) (8 : Int32))) (16 : Int32))) &&& (63 : Int32))
set_option maxHeartbeats 4000000 in
theorem jF_J6_bitCount_0f7a4 {X : jX} (C : jC X cJ6_bitCount_0f7a4 1 RJ6 rm_J6_bitCount_0f7a4) {Λ : sLay} {S : sSt} {r : Int32} (E : jE X (some .int) rI Λ (r, S)) (p0 : Int32) : J X 1 0 0 0 [(0, vI p0)] [] Λ S (F_J6_bitCount_0f7a4 Λ.2.2 S p0 = some r) := by
  unfold F_J6_bitCount_0f7a4
  refine j_iload_n C dJ6_bitCount_0f7a4_0 0 rfl ?_
  refine j_iload_n C dJ6_bitCount_0f7a4_1 0 rfl ?_
  refine j_iconst C (v := (1 : Int32)) dJ6_bitCount_0f7a4_2 (by decide) ?_
  refine j_iushr C dJ6_bitCount_0f7a4_3 ?_
  refine j_ldcw C kcJ6_265 dJ6_bitCount_0f7a4_4 ?_
  refine j_iand C dJ6_bitCount_0f7a4_7 ?_
  refine j_isub C dJ6_bitCount_0f7a4_8 ?_
  refine j_istore_n C (L' := [(0, vI (p0 - ((jiushr p0 (1 : Int32)) &&& (1431655765 : Int32))))]) dJ6_bitCount_0f7a4_9 (by decide) rfl ?_
  refine j_iload_n C dJ6_bitCount_0f7a4_10 0 rfl ?_
  refine j_ldcw C kcJ6_266 dJ6_bitCount_0f7a4_11 ?_
  refine j_iand C dJ6_bitCount_0f7a4_14 ?_
  refine j_iload_n C dJ6_bitCount_0f7a4_15 0 rfl ?_
  refine j_iconst C (v := (2 : Int32)) dJ6_bitCount_0f7a4_16 (by decide) ?_
  refine j_iushr C dJ6_bitCount_0f7a4_17 ?_
  refine j_ldcw C kcJ6_266 dJ6_bitCount_0f7a4_18 ?_
  refine j_iand C dJ6_bitCount_0f7a4_21 ?_
  refine j_iadd C dJ6_bitCount_0f7a4_22 ?_
  refine j_istore_n C (L' := [(0, vI (((p0 - ((jiushr p0 (1 : Int32)) &&& (1431655765 : Int32))) &&& (858993459 : Int32)) + ((jiushr (p0 - ((jiushr p0 (1 : Int32)) &&& (1431655765 : Int32))) (2 : Int32)) &&& (858993459 : Int32))))]) dJ6_bitCount_0f7a4_23 (by decide) rfl ?_
  refine j_iload_n C dJ6_bitCount_0f7a4_24 0 rfl ?_
  refine j_iload_n C dJ6_bitCount_0f7a4_25 0 rfl ?_
  refine j_iconst C (v := (4 : Int32)) dJ6_bitCount_0f7a4_26 (by decide) ?_
  refine j_iushr C dJ6_bitCount_0f7a4_27 ?_
  refine j_iadd C dJ6_bitCount_0f7a4_28 ?_
  refine j_ldcw C kcJ6_267 dJ6_bitCount_0f7a4_29 ?_
  refine j_iand C dJ6_bitCount_0f7a4_32 ?_
  refine j_istore_n C (L' := [(0, vI (((((p0 - ((jiushr p0 (1 : Int32)) &&& (1431655765 : Int32))) &&& (858993459 : Int32)) + ((jiushr (p0 - ((jiushr p0 (1 : Int32)) &&& (1431655765 : Int32))) (2 : Int32)) &&& (858993459 : Int32))) + (jiushr (((p0 - ((jiushr p0 (1 : Int32)) &&& (1431655765 : Int32))) &&& (858993459 : Int32)) + ((jiushr (p0 - ((jiushr p0 (1 : Int32)) &&& (1431655765 : Int32))) (2 : Int32)) &&& (858993459 : Int32))) (4 : Int32))) &&& (252645135 : Int32)))]) dJ6_bitCount_0f7a4_33 (by decide) rfl ?_
  refine j_iload_n C dJ6_bitCount_0f7a4_34 0 rfl ?_
  refine j_iload_n C dJ6_bitCount_0f7a4_35 0 rfl ?_
  refine j_bipush C (v := (8 : Int32)) dJ6_bitCount_0f7a4_36 (by decide) ?_
  refine j_iushr C dJ6_bitCount_0f7a4_38 ?_
  refine j_iadd C dJ6_bitCount_0f7a4_39 ?_
  refine j_istore_n C (L' := [(0, vI ((((((p0 - ((jiushr p0 (1 : Int32)) &&& (1431655765 : Int32))) &&& (858993459 : Int32)) + ((jiushr (p0 - ((jiushr p0 (1 : Int32)) &&& (1431655765 : Int32))) (2 : Int32)) &&& (858993459 : Int32))) + (jiushr (((p0 - ((jiushr p0 (1 : Int32)) &&& (1431655765 : Int32))) &&& (858993459 : Int32)) + ((jiushr (p0 - ((jiushr p0 (1 : Int32)) &&& (1431655765 : Int32))) (2 : Int32)) &&& (858993459 : Int32))) (4 : Int32))) &&& (252645135 : Int32)) + (jiushr (((((p0 - ((jiushr p0 (1 : Int32)) &&& (1431655765 : Int32))) &&& (858993459 : Int32)) + ((jiushr (p0 - ((jiushr p0 (1 : Int32)) &&& (1431655765 : Int32))) (2 : Int32)) &&& (858993459 : Int32))) + (jiushr (((p0 - ((jiushr p0 (1 : Int32)) &&& (1431655765 : Int32))) &&& (858993459 : Int32)) + ((jiushr (p0 - ((jiushr p0 (1 : Int32)) &&& (1431655765 : Int32))) (2 : Int32)) &&& (858993459 : Int32))) (4 : Int32))) &&& (252645135 : Int32)) (8 : Int32))))]) dJ6_bitCount_0f7a4_40 (by decide) rfl ?_
  refine j_iload_n C dJ6_bitCount_0f7a4_41 0 rfl ?_
  refine j_iload_n C dJ6_bitCount_0f7a4_42 0 rfl ?_
  refine j_bipush C (v := (16 : Int32)) dJ6_bitCount_0f7a4_43 (by decide) ?_
  refine j_iushr C dJ6_bitCount_0f7a4_45 ?_
  refine j_iadd C dJ6_bitCount_0f7a4_46 ?_
  refine j_istore_n C (L' := [(0, vI (((((((p0 - ((jiushr p0 (1 : Int32)) &&& (1431655765 : Int32))) &&& (858993459 : Int32)) + ((jiushr (p0 - ((jiushr p0 (1 : Int32)) &&& (1431655765 : Int32))) (2 : Int32)) &&& (858993459 : Int32))) + (jiushr (((p0 - ((jiushr p0 (1 : Int32)) &&& (1431655765 : Int32))) &&& (858993459 : Int32)) + ((jiushr (p0 - ((jiushr p0 (1 : Int32)) &&& (1431655765 : Int32))) (2 : Int32)) &&& (858993459 : Int32))) (4 : Int32))) &&& (252645135 : Int32)) + (jiushr (((((p0 - ((jiushr p0 (1 : Int32)) &&& (1431655765 : Int32))) &&& (858993459 : Int32)) + ((jiushr (p0 - ((jiushr p0 (1 : Int32)) &&& (1431655765 : Int32))) (2 : Int32)) &&& (858993459 : Int32))) + (jiushr (((p0 - ((jiushr p0 (1 : Int32)) &&& (1431655765 : Int32))) &&& (858993459 : Int32)) + ((jiushr (p0 - ((jiushr p0 (1 : Int32)) &&& (1431655765 : Int32))) (2 : Int32)) &&& (858993459 : Int32))) (4 : Int32))) &&& (252645135 : Int32)) (8 : Int32))) + (jiushr ((((((p0 - ((jiushr p0 (1 : Int32)) &&& (1431655765 : Int32))) &&& (858993459 : Int32)) + ((jiushr (p0 - ((jiushr p0 (1 : Int32)) &&& (1431655765 : Int32))) (2 : Int32)) &&& (858993459 : Int32))) + (jiushr (((p0 - ((jiushr p0 (1 : Int32)) &&& (1431655765 : Int32))) &&& (858993459 : Int32)) + ((jiushr (p0 - ((jiushr p0 (1 : Int32)) &&& (1431655765 : Int32))) (2 : Int32)) &&& (858993459 : Int32))) (4 : Int32))) &&& (252645135 : Int32)) + (jiushr (((((p0 - ((jiushr p0 (1 : Int32)) &&& (1431655765 : Int32))) &&& (858993459 : Int32)) + ((jiushr (p0 - ((jiushr p0 (1 : Int32)) &&& (1431655765 : Int32))) (2 : Int32)) &&& (858993459 : Int32))) + (jiushr (((p0 - ((jiushr p0 (1 : Int32)) &&& (1431655765 : Int32))) &&& (858993459 : Int32)) + ((jiushr (p0 - ((jiushr p0 (1 : Int32)) &&& (1431655765 : Int32))) (2 : Int32)) &&& (858993459 : Int32))) (4 : Int32))) &&& (252645135 : Int32)) (8 : Int32))) (16 : Int32))))]) dJ6_bitCount_0f7a4_47 (by decide) rfl ?_
  refine j_iload_n C dJ6_bitCount_0f7a4_48 0 rfl ?_
  refine j_bipush C (v := (63 : Int32)) dJ6_bitCount_0f7a4_49 (by decide) ?_
  refine j_iand C dJ6_bitCount_0f7a4_51 ?_
  exact j_iretP C E dJ6_bitCount_0f7a4_52
theorem c_J6_bitCount_0f7a4 {l : Launch} {D : va_G} {cy : Nat → ClassId} {Λ : sLay} {S : sSt} (p0 : Int32) {r : Int32} (h : F_J6_bitCount_0f7a4 Λ.2.2 S p0 = some r) : jM l yJ6_bitCount_0f7a4 (Cond.code yJ6_bitCount_0f7a4 cJ6_bitCount_0f7a4 1 (some .int) :: bigW) rm_J6_bitCount_0f7a4 D cy Λ S [vI p0] rI (r, S) := jM_of (by decide +kernel) (Nat.le_of_ble_eq_true rfl) (fun X C E _ _ _ => j_sub [0] rfl (jF_J6_bitCount_0f7a4 C E p0)) h
/-! RemakeNeeds2.Rings.place(I)V -/
abbrev rm_X2_place : Room := { frames := 1, cells := 0, slots := 0, locals := 21 }
def B_X2_place_38 (N : Nat → Nat) (k2 : sSt → Nat → Int32 → Int32 → Option sSt) (S : sSt) (p0 : Nat) (p1 : Int32) (p2 : Int32) : Option sSt := k2 S p0 p1 (p2 + (1 : Int32))
set_option maxHeartbeats 4000000 in
theorem jB_X2_place_38 {X : jX} (C : jC X cX2_place 3 RX2 rm_X2_place) {Λ : sLay} {r : sSt} (E : jE X none rV Λ ((), r)) (k2 : sSt → Nat → Int32 → Int32 → Option sSt) (hk2 : ∀ (S : sSt) (p0 : Nat) (tp0 : isK Λ 2 p0) (p1 : Int32) (p2 : Int32), J X 3 0 0 2 [(0, vR (some p0)), (1, vI p1), (2, vI p2)] [] Λ S (k2 S p0 p1 p2 = some r)) : ∀ (S : sSt) (p0 : Nat) (tp0 : isK Λ 2 p0) (p1 : Int32) (p2 : Int32), J X 3 0 0 38 [(0, vR (some p0)), (1, vI p1), (2, vI p2)] [] Λ S (B_X2_place_38 Λ.2.2 k2 S p0 p1 p2 = some r) := by
  intro S p0 tp0 p1 p2
  unfold B_X2_place_38
  refine j_iinc C (v := (1 : Int32)) (L' := [(2, vI (p2 + (1 : Int32))), (0, vR (some p0)), (1, vI p1)]) dX2_place_38 2 rfl (by decide) (by decide) rfl ?_
  refine j_goto C (tgt := 2) dX2_place_41 (by decide) ?_
  refine j_sub (L' := [(0, vR (some p0)), (1, vI p1), (2, vI (p2 + (1 : Int32)))]) [1, 2, 0] rfl ?_
  exact hk2 S p0 tp0 p1 (p2 + (1 : Int32))
def Y_X2_place_2 (N : Nat → Nat) (rec : sSt → Nat → Int32 → Int32 → Option sSt) (S : sSt) (p0 : Nat) (p1 : Int32) (p2 : Int32) : Option sSt := bnd (gFR S 81 p0) (fun x1 => Option.bind x1 (fun a2 => (if (nI (N a2)) ≤ p2 then bnd (sFI S 83 p0 ((gFI S 83 p0) + (1 : Int32))) (fun S3 => Option.bind (F_J6_bitCount_0f7a4 N S3 p1) (fun v4 => (if v4 ≤ (1 : Int32) then some S3 else bnd (sFI S3 84 p0 ((gFI S3 84 p0) + (1 : Int32))) (fun S6 => some S6)))) else (if ((p1 >>> (p2 &&& 31)) &&& (1 : Int32)) = 0 then B_X2_place_38 N rec S p0 p1 p2 else bnd (gFR S 81 p0) (fun x7 => Option.bind x7 (fun a8 => gi p2 (N a8) (bnd (sAI S a8 (Int32.toNatClampNeg p2) (gFI S 83 p0)) (fun S9 => bnd (gFR S9 82 p0) (fun x10 => Option.bind x10 (fun a11 => obd (F_X1_append N S9 a11 p2) (fun v12 S13 => B_X2_place_38 N rec S13 p0 p1 p2)))))))))))
set_option maxHeartbeats 4000000 in
theorem jY_X2_place_2 {X : jX} (C : jC X cX2_place 3 RX2 rm_X2_place) {Λ : sLay} {r : sSt} (E : jE X none rV Λ ((), r)) (rec : sSt → Nat → Int32 → Int32 → Option sSt) (hrec : ∀ (S : sSt) (p0 : Nat) (tp0 : isK Λ 2 p0) (p1 : Int32) (p2 : Int32), J X 3 0 0 2 [(0, vR (some p0)), (1, vI p1), (2, vI p2)] [] Λ S (rec S p0 p1 p2 = some r)) : ∀ (S : sSt) (p0 : Nat) (tp0 : isK Λ 2 p0) (p1 : Int32) (p2 : Int32), J X 3 0 0 2 [(0, vR (some p0)), (1, vI p1), (2, vI p2)] [] Λ S (Y_X2_place_2 Λ.2.2 rec S p0 p1 p2 = some r) := by
  intro S p0 tp0 p1 p2
  unfold Y_X2_place_2
  refine j_iload_n C dX2_place_2 2 rfl ?_
  refine j_aload_n C dX2_place_3 0 rfl ?_
  refine j_getR C kK2 f81 kfX2_15 (by decide) rfl tp0 dX2_place_4 (fun x1 tx1 => ?_)
  refine j_oc tx1 (fun a2 ta2 ea2 => ?_)
  subst ea2
  refine j_alen C ta2 (by decide) dX2_place_7 ?_
  refine j_icmp_ge C (tgt := 44) dX2_place_8 (by decide) ?_ ?_
  · refine j_aload_n C dX2_place_44 0 rfl ?_
    refine j_dup C dX2_place_45 rfl ?_
    refine j_getI C kK2 f83 kfX2_34 (by decide) tp0 dX2_place_46 ?_
    refine j_iconst C (v := (1 : Int32)) dX2_place_49 (by decide) ?_
    refine j_iadd C dX2_place_50 ?_
    refine j_putI C kK2 f83 kfX2_34 (by decide) rfl rfl rfl tp0 dX2_place_51 (fun S3 => ?_)
    refine j_iload_n C dX2_place_54 1 rfl ?_
    refine j_cSIP C [vI p1] [] (fun _ e => c_J6_bitCount_0f7a4 p1 e) kYJ6_bitCount_0f7a4 kSJ6_bitCount_0f7a4 kmX2_68 rfl rfl ⟨rfl, rfl, by decide, by decide⟩ (Nat.le_of_ble_eq_true rfl) ⟨Nat.zero_le _, Nat.zero_le _⟩ dX2_place_55 (fun v4 => ?_)
    refine j_iconst C (v := (1 : Int32)) dX2_place_58 (by decide) ?_
    refine j_icmp_le C (tgt := 72) dX2_place_59 (by decide) ?_ ?_
    · exact j_vretP C E dX2_place_72
    · refine j_aload_n C dX2_place_62 0 rfl ?_
      refine j_dup C dX2_place_63 rfl ?_
      refine j_getI C kK2 f84 kfX2_38 (by decide) tp0 dX2_place_64 ?_
      refine j_iconst C (v := (1 : Int32)) dX2_place_67 (by decide) ?_
      refine j_iadd C dX2_place_68 ?_
      refine j_putI C kK2 f84 kfX2_38 (by decide) rfl rfl rfl tp0 dX2_place_69 (fun S6 => ?_)
      exact j_vretP C E dX2_place_72
  · refine j_iload_n C dX2_place_11 1 rfl ?_
    refine j_iload_n C dX2_place_12 2 rfl ?_
    refine j_ishr C dX2_place_13 ?_
    refine j_iconst C (v := (1 : Int32)) dX2_place_14 (by decide) ?_
    refine j_iand C dX2_place_15 ?_
    refine j_if_eq C (tgt := 38) dX2_place_16 (by decide) ?_ ?_
    · exact jB_X2_place_38 C E rec hrec S p0 tp0 p1 p2
    · refine j_aload_n C dX2_place_19 0 rfl ?_
      refine j_getR C kK2 f81 kfX2_15 (by decide) rfl tp0 dX2_place_20 (fun x7 tx7 => ?_)
      refine j_iload_n C dX2_place_23 2 rfl ?_
      refine j_aload_n C dX2_place_24 0 rfl ?_
      refine j_getI C kK2 f83 kfX2_34 (by decide) tp0 dX2_place_25 ?_
      refine j_oc tx7 (fun a8 ta8 ea8 => ?_)
      subst ea8
      refine j_iast C ta8 dX2_place_28 (fun S9 => ?_)
      refine j_aload_n C dX2_place_29 0 rfl ?_
      refine j_getR C kK2 f82 kfX2_23 (by decide) rfl tp0 dX2_place_30 (fun x10 tx10 => ?_)
      refine j_iload_n C dX2_place_33 2 rfl ?_
      refine j_oc tx10 (fun a11 ta11 ea11 => ?_)
      subst ea11
      refine j_cVIG C [vI p2] [] (fun _ _ e => c_X1_append a11 ta11 p2 e) kYX1_append kVX1_append kmX2_64 kO1 ta11 rfl rfl ⟨rfl, rfl, by decide, by decide⟩ (Nat.le_of_ble_eq_true rfl) ⟨Nat.zero_le _, Nat.zero_le _⟩ dX2_place_34 (fun v12 S13 => ?_)
      refine j_pop C dX2_place_37 rfl ?_
      exact jB_X2_place_38 C E rec hrec S13 p0 tp0 p1 p2
def L_X2_place_2 (N : Nat → Nat) (n : Nat) : sSt → Nat → Int32 → Int32 → Option sSt := iter (fun _ _ _ _ => none) (Y_X2_place_2 N) n
theorem jL_X2_place_2 {X : jX} (C : jC X cX2_place 3 RX2 rm_X2_place) {Λ : sLay} {r : sSt} (E : jE X none rV Λ ((), r)) : ∀ (n : Nat) (S : sSt) (p0 : Nat) (tp0 : isK Λ 2 p0) (p1 : Int32) (p2 : Int32), J X 3 0 0 2 [(0, vR (some p0)), (1, vI p1), (2, vI p2)] [] Λ S (L_X2_place_2 Λ.2.2 n S p0 p1 p2 = some r) := by
  intro n
  induction n with
  | zero => intro S p0 tp0 p1 p2; exact j_no (fun h => by have h2 : (none : Option sSt) = some r := h; cases h2)
  | succ n ih => intro S p0 tp0 p1 p2; exact jY_X2_place_2 C E (L_X2_place_2 Λ.2.2 n) ih S p0 tp0 p1 p2
def F_X2_place (N : Nat → Nat) (S : sSt) (p0 : Nat) (p1 : Int32) : Option sSt := L_X2_place_2 N FU S p0 p1 (0 : Int32)
set_option maxHeartbeats 4000000 in
theorem jF_X2_place {X : jX} (C : jC X cX2_place 3 RX2 rm_X2_place) {Λ : sLay} {S : sSt} {r : sSt} (E : jE X none rV Λ ((), r)) (p0 : Nat) (tp0 : isK Λ 2 p0) (p1 : Int32) : J X 3 0 0 0 [(0, vR (some p0)), (1, vI p1)] [] Λ S (F_X2_place Λ.2.2 S p0 p1 = some r) := by
  unfold F_X2_place
  refine j_iconst C (v := (0 : Int32)) dX2_place_0 (by decide) ?_
  refine j_istore_n C (L' := [(2, vI (0 : Int32)), (0, vR (some p0)), (1, vI p1)]) dX2_place_1 (by decide) rfl ?_
  refine j_sub (L' := [(0, vR (some p0)), (1, vI p1), (2, vI (0 : Int32))]) [1, 2, 0] rfl ?_
  exact jL_X2_place_2 C E FU S p0 tp0 p1 (0 : Int32)
theorem c_X2_place {l : Launch} {D : va_G} {cy : Nat → ClassId} {Λ : sLay} {S : sSt} (p0 : Nat) (tp0 : isK Λ 2 p0) (p1 : Int32) {r : sSt} (h : F_X2_place Λ.2.2 S p0 p1 = some r) : jM l yX2_place (Cond.code yX2_place cX2_place 3 none :: bigW) rm_X2_place D cy Λ S [vR (some p0), vI p1] rV ((), r) := jM_of (by decide +kernel) (Nat.le_of_ble_eq_true rfl) (fun X C E _ _ _ => j_sub [0, 1] rfl (jF_X2_place C E p0 tp0 p1)) h
/-! RemakeNeeds2.Rings.placeNext(I)I -/
abbrev rm_X2_placeNext : Room := { frames := 2, cells := 0, slots := 0, locals := 44 }
def B_X2_placeNext_47 (N : Nat → Nat) (k2 : sSt → Nat → Int32 → Int32 → Option (Int32 × sSt)) (S : sSt) (p0 : Nat) (p1 : Int32) (p2 : Int32) : Option (Int32 × sSt) := k2 S p0 p1 (p2 + (1 : Int32))
set_option maxHeartbeats 4000000 in
theorem jB_X2_placeNext_47 {X : jX} (C : jC X cX2_placeNext 4 RX2 rm_X2_placeNext) {Λ : sLay} {r : (Int32 × sSt)} (E : jE X (some .int) rI Λ r) (k2 : sSt → Nat → Int32 → Int32 → Option (Int32 × sSt)) (hk2 : ∀ (S : sSt) (p0 : Nat) (tp0 : isK Λ 2 p0) (p1 : Int32) (p2 : Int32), J X 4 0 0 2 [(0, vR (some p0)), (1, vI p1), (2, vI p2)] [] Λ S (k2 S p0 p1 p2 = some r)) : ∀ (S : sSt) (p0 : Nat) (tp0 : isK Λ 2 p0) (p1 : Int32) (p2 : Int32), J X 4 0 0 47 [(0, vR (some p0)), (1, vI p1), (2, vI p2)] [] Λ S (B_X2_placeNext_47 Λ.2.2 k2 S p0 p1 p2 = some r) := by
  intro S p0 tp0 p1 p2
  unfold B_X2_placeNext_47
  refine j_iinc C (v := (1 : Int32)) (L' := [(2, vI (p2 + (1 : Int32))), (0, vR (some p0)), (1, vI p1)]) dX2_placeNext_47 2 rfl (by decide) (by decide) rfl ?_
  refine j_goto C (tgt := 2) dX2_placeNext_50 (by decide) ?_
  refine j_sub (L' := [(0, vR (some p0)), (1, vI p1), (2, vI (p2 + (1 : Int32)))]) [1, 2, 0] rfl ?_
  exact hk2 S p0 tp0 p1 (p2 + (1 : Int32))
def Y_X2_placeNext_2 (N : Nat → Nat) (rec : sSt → Nat → Int32 → Int32 → Option (Int32 × sSt)) (S : sSt) (p0 : Nat) (p1 : Int32) (p2 : Int32) : Option (Int32 × sSt) := bnd (gFR S 80 p0) (fun x1 => Option.bind x1 (fun a2 => (if (nI (N a2)) ≤ p2 then some ((0 : Int32), S) else Option.bind (F_X2_ringAround N S p0 p2) (fun v3 => (if ((p1 >>> (p2 &&& 31)) &&& (1 : Int32)) = 0 then B_X2_placeNext_47 N rec S p0 p1 p2 else bnd (gFR S 80 p0) (fun x5 => Option.bind x5 (fun a6 => gi p2 (N a6) ((if (((gAI S a6 (Int32.toNatClampNeg p2)) &&& p1) &&& (v3 ^^^ (-1 : Int32))) = 0 then Option.bind (F_X2_place N S p0 v3) (fun S8 => some (v3, S8)) else B_X2_placeNext_47 N rec S p0 p1 p2)))))))))
set_option maxHeartbeats 4000000 in
theorem jY_X2_placeNext_2 {X : jX} (C : jC X cX2_placeNext 4 RX2 rm_X2_placeNext) {Λ : sLay} {r : (Int32 × sSt)} (E : jE X (some .int) rI Λ r) (rec : sSt → Nat → Int32 → Int32 → Option (Int32 × sSt)) (hrec : ∀ (S : sSt) (p0 : Nat) (tp0 : isK Λ 2 p0) (p1 : Int32) (p2 : Int32), J X 4 0 0 2 [(0, vR (some p0)), (1, vI p1), (2, vI p2)] [] Λ S (rec S p0 p1 p2 = some r)) : ∀ (S : sSt) (p0 : Nat) (tp0 : isK Λ 2 p0) (p1 : Int32) (p2 : Int32), J X 4 0 0 2 [(0, vR (some p0)), (1, vI p1), (2, vI p2)] [] Λ S (Y_X2_placeNext_2 Λ.2.2 rec S p0 p1 p2 = some r) := by
  intro S p0 tp0 p1 p2
  unfold Y_X2_placeNext_2
  refine j_iload_n C dX2_placeNext_2 2 rfl ?_
  refine j_aload_n C dX2_placeNext_3 0 rfl ?_
  refine j_getR C kK2 f80 kfX2_9 (by decide) rfl tp0 dX2_placeNext_4 (fun x1 tx1 => ?_)
  refine j_oc tx1 (fun a2 ta2 ea2 => ?_)
  subst ea2
  refine j_alen C ta2 (by decide) dX2_placeNext_7 ?_
  refine j_icmp_ge C (tgt := 53) dX2_placeNext_8 (by decide) ?_ ?_
  · refine j_iconst C (v := (0 : Int32)) dX2_placeNext_53 (by decide) ?_
    exact j_iret C E dX2_placeNext_54
  · refine j_aload_n C dX2_placeNext_11 0 rfl ?_
    refine j_iload_n C dX2_placeNext_12 2 rfl ?_
    refine j_cVIP C [vI p2] [] (fun _ e => c_X2_ringAround p0 tp0 p2 e) kYX2_ringAround kVX2_ringAround kmX2_55 kO2 tp0 rfl rfl ⟨rfl, rfl, by decide, by decide⟩ (Nat.le_of_ble_eq_true rfl) ⟨Nat.zero_le _, Nat.zero_le _⟩ dX2_placeNext_13 (fun v3 => ?_)
    refine j_istore_n C (L' := [(3, vI v3), (0, vR (some p0)), (1, vI p1), (2, vI p2)]) dX2_placeNext_16 (by decide) rfl ?_
    refine j_iload_n C dX2_placeNext_17 2 rfl ?_
    refine j_iload_n C dX2_placeNext_18 3 rfl ?_
    refine j_ishr C dX2_placeNext_19 ?_
    refine j_iconst C (v := (1 : Int32)) dX2_placeNext_20 (by decide) ?_
    refine j_iand C dX2_placeNext_21 ?_
    refine j_if_eq C (tgt := 47) dX2_placeNext_22 (by decide) ?_ ?_
    · refine j_sub (L' := [(0, vR (some p0)), (1, vI p1), (2, vI p2)]) [1, 2, 3] rfl ?_
      exact jB_X2_placeNext_47 C E rec hrec S p0 tp0 p1 p2
    · refine j_aload_n C dX2_placeNext_25 1 rfl ?_
      refine j_getR C kK2 f80 kfX2_9 (by decide) rfl tp0 dX2_placeNext_26 (fun x5 tx5 => ?_)
      refine j_iload_n C dX2_placeNext_29 3 rfl ?_
      refine j_oc tx5 (fun a6 ta6 ea6 => ?_)
      subst ea6
      refine j_iald C ta6 dX2_placeNext_30 ?_
      refine j_iload_n C dX2_placeNext_31 2 rfl ?_
      refine j_iand C dX2_placeNext_32 ?_
      refine j_iload_n C dX2_placeNext_33 0 rfl ?_
      refine j_iconst C (v := (-1 : Int32)) dX2_placeNext_34 (by decide) ?_
      refine j_ixor C dX2_placeNext_35 ?_
      refine j_iand C dX2_placeNext_36 ?_
      refine j_if_ne C (tgt := 47) dX2_placeNext_37 (by decide) ?_ ?_
      · refine j_sub (L' := [(0, vR (some p0)), (1, vI p1), (2, vI p2)]) [1, 2, 3] rfl ?_
        exact jB_X2_placeNext_47 C E rec hrec S p0 tp0 p1 p2
      · refine j_aload_n C dX2_placeNext_40 1 rfl ?_
        refine j_iload_n C dX2_placeNext_41 0 rfl ?_
        refine j_cVVV C [vI v3] [] (fun _ e => c_X2_place p0 tp0 v3 e) kYX2_place kVX2_place kmX2_58 kO2 tp0 rfl rfl ⟨rfl, rfl, by decide, by decide⟩ (Nat.le_of_ble_eq_true rfl) ⟨Nat.zero_le _, Nat.zero_le _⟩ dX2_placeNext_42 (fun S8 => ?_)
        refine j_iload_n C dX2_placeNext_45 0 rfl ?_
        exact j_iret C E dX2_placeNext_46
def L_X2_placeNext_2 (N : Nat → Nat) (n : Nat) : sSt → Nat → Int32 → Int32 → Option (Int32 × sSt) := iter (fun _ _ _ _ => none) (Y_X2_placeNext_2 N) n
theorem jL_X2_placeNext_2 {X : jX} (C : jC X cX2_placeNext 4 RX2 rm_X2_placeNext) {Λ : sLay} {r : (Int32 × sSt)} (E : jE X (some .int) rI Λ r) : ∀ (n : Nat) (S : sSt) (p0 : Nat) (tp0 : isK Λ 2 p0) (p1 : Int32) (p2 : Int32), J X 4 0 0 2 [(0, vR (some p0)), (1, vI p1), (2, vI p2)] [] Λ S (L_X2_placeNext_2 Λ.2.2 n S p0 p1 p2 = some r) := by
  intro n
  induction n with
  | zero => intro S p0 tp0 p1 p2; exact j_no (fun h => by have h2 : (none : Option (Int32 × sSt)) = some r := h; cases h2)
  | succ n ih => intro S p0 tp0 p1 p2; exact jY_X2_placeNext_2 C E (L_X2_placeNext_2 Λ.2.2 n) ih S p0 tp0 p1 p2
def F_X2_placeNext (N : Nat → Nat) (S : sSt) (p0 : Nat) (p1 : Int32) : Option (Int32 × sSt) := L_X2_placeNext_2 N FU S p0 p1 (0 : Int32)
set_option maxHeartbeats 4000000 in
theorem jF_X2_placeNext {X : jX} (C : jC X cX2_placeNext 4 RX2 rm_X2_placeNext) {Λ : sLay} {S : sSt} {r : (Int32 × sSt)} (E : jE X (some .int) rI Λ r) (p0 : Nat) (tp0 : isK Λ 2 p0) (p1 : Int32) : J X 4 0 0 0 [(0, vR (some p0)), (1, vI p1)] [] Λ S (F_X2_placeNext Λ.2.2 S p0 p1 = some r) := by
  unfold F_X2_placeNext
  refine j_iconst C (v := (0 : Int32)) dX2_placeNext_0 (by decide) ?_
  refine j_istore_n C (L' := [(2, vI (0 : Int32)), (0, vR (some p0)), (1, vI p1)]) dX2_placeNext_1 (by decide) rfl ?_
  refine j_sub (L' := [(0, vR (some p0)), (1, vI p1), (2, vI (0 : Int32))]) [1, 2, 0] rfl ?_
  exact jL_X2_placeNext_2 C E FU S p0 tp0 p1 (0 : Int32)
theorem c_X2_placeNext {l : Launch} {D : va_G} {cy : Nat → ClassId} {Λ : sLay} {S : sSt} (p0 : Nat) (tp0 : isK Λ 2 p0) (p1 : Int32) {v : Int32} {S1 : sSt} (h : F_X2_placeNext Λ.2.2 S p0 p1 = some (v, S1)) : jM l yX2_placeNext (Cond.code yX2_placeNext cX2_placeNext 4 (some .int) :: bigW) rm_X2_placeNext D cy Λ S [vR (some p0), vI p1] rI (v, S1) := jM_of (by decide +kernel) (Nat.le_of_ble_eq_true rfl) (fun X C E _ _ _ => j_sub [0, 1] rfl (jF_X2_placeNext C E p0 tp0 p1)) h
/-! RemakeNeeds2.Rings.arrange(LRemakeNeeds2$Units;)V -/
abbrev rm_X2_arrange : Room := { frames := 4, cells := 0, slots := 0, locals := 96 }
def Y_X2_arrange_61 (N : Nat → Nat) (rec : sSt → Nat → Int32 → Int32 → Option sSt) (S : sSt) (p0 : Nat) (p2 : Int32) (p3 : Int32) : Option sSt := (if (16 : Int32) ≤ p3 then some S else (if p2 = 0 then some S else obd (F_X2_placeNext N S p0 p2) (fun v11 S12 => rec S12 p0 (p2 &&& (v11 ^^^ (-1 : Int32))) (p3 + (1 : Int32)))))
set_option maxHeartbeats 4000000 in
theorem jY_X2_arrange_61 {X : jX} (C : jC X cX2_arrange 4 RX2 rm_X2_arrange) {Λ : sLay} {r : sSt} (E : jE X none rV Λ ((), r)) (rec : sSt → Nat → Int32 → Int32 → Option sSt) (hrec : ∀ (S : sSt) (p0 : Nat) (tp0 : isK Λ 2 p0) (p2 : Int32) (p3 : Int32), J X 4 0 0 61 [(0, vR (some p0)), (2, vI p2), (3, vI p3)] [] Λ S (rec S p0 p2 p3 = some r)) : ∀ (S : sSt) (p0 : Nat) (tp0 : isK Λ 2 p0) (p2 : Int32) (p3 : Int32), J X 4 0 0 61 [(0, vR (some p0)), (2, vI p2), (3, vI p3)] [] Λ S (Y_X2_arrange_61 Λ.2.2 rec S p0 p2 p3 = some r) := by
  intro S p0 tp0 p2 p3
  unfold Y_X2_arrange_61
  refine j_iload_n C dX2_arrange_61 2 rfl ?_
  refine j_bipush C (v := (16 : Int32)) dX2_arrange_62 (by decide) ?_
  refine j_icmp_ge C (tgt := 87) dX2_arrange_64 (by decide) ?_ ?_
  · exact j_vretP C E dX2_arrange_87
  · refine j_iload_n C dX2_arrange_67 1 rfl ?_
    refine j_if_eq C (tgt := 87) dX2_arrange_68 (by decide) ?_ ?_
    · exact j_vretP C E dX2_arrange_87
    · refine j_iload_n C dX2_arrange_71 1 rfl ?_
      refine j_aload_n C dX2_arrange_72 0 rfl ?_
      refine j_iload_n C dX2_arrange_73 1 rfl ?_
      refine j_cVIG C [vI p2] [vI p2] (fun _ _ e => c_X2_placeNext p0 tp0 p2 e) kYX2_placeNext kVX2_placeNext kmX2_47 kO2 tp0 rfl rfl ⟨rfl, rfl, by decide, by decide⟩ (Nat.le_of_ble_eq_true rfl) ⟨Nat.zero_le _, Nat.zero_le _⟩ dX2_arrange_74 (fun v11 S12 => ?_)
      refine j_iconst C (v := (-1 : Int32)) dX2_arrange_77 (by decide) ?_
      refine j_ixor C dX2_arrange_78 ?_
      refine j_iand C dX2_arrange_79 ?_
      refine j_istore_n C (L' := [(2, vI (p2 &&& (v11 ^^^ (-1 : Int32)))), (0, vR (some p0)), (3, vI p3)]) dX2_arrange_80 (by decide) rfl ?_
      refine j_iinc C (v := (1 : Int32)) (L' := [(3, vI (p3 + (1 : Int32))), (2, vI (p2 &&& (v11 ^^^ (-1 : Int32)))), (0, vR (some p0))]) dX2_arrange_81 2 rfl (by decide) (by decide) rfl ?_
      refine j_goto C (tgt := 61) dX2_arrange_84 (by decide) ?_
      refine j_sub (L' := [(0, vR (some p0)), (2, vI (p2 &&& (v11 ^^^ (-1 : Int32)))), (3, vI (p3 + (1 : Int32)))]) [2, 1, 0] rfl ?_
      exact hrec S12 p0 tp0 (p2 &&& (v11 ^^^ (-1 : Int32))) (p3 + (1 : Int32))
def L_X2_arrange_61 (N : Nat → Nat) (n : Nat) : sSt → Nat → Int32 → Int32 → Option sSt := iter (fun _ _ _ _ => none) (Y_X2_arrange_61 N) n
theorem jL_X2_arrange_61 {X : jX} (C : jC X cX2_arrange 4 RX2 rm_X2_arrange) {Λ : sLay} {r : sSt} (E : jE X none rV Λ ((), r)) : ∀ (n : Nat) (S : sSt) (p0 : Nat) (tp0 : isK Λ 2 p0) (p2 : Int32) (p3 : Int32), J X 4 0 0 61 [(0, vR (some p0)), (2, vI p2), (3, vI p3)] [] Λ S (L_X2_arrange_61 Λ.2.2 n S p0 p2 p3 = some r) := by
  intro n
  induction n with
  | zero => intro S p0 tp0 p2 p3; exact j_no (fun h => by have h2 : (none : Option sSt) = some r := h; cases h2)
  | succ n ih => intro S p0 tp0 p2 p3; exact jY_X2_arrange_61 C E (L_X2_arrange_61 Λ.2.2 n) ih S p0 tp0 p2 p3
def B_X2_arrange_51 (N : Nat → Nat) (k26 : sSt → Nat → (Option Nat) → Int32 → Int32 → Option sSt) (S : sSt) (p0 : Nat) (p1 : Nat) (p3 : Int32) (s0 : Int32) (s1 : Int32) : Option sSt := k26 S p0 (some p1) (s1 ||| s0) (p3 + (1 : Int32))
set_option maxHeartbeats 4000000 in
theorem jB_X2_arrange_51 {X : jX} (C : jC X cX2_arrange 4 RX2 rm_X2_arrange) {Λ : sLay} {r : sSt} (E : jE X none rV Λ ((), r)) (k26 : sSt → Nat → (Option Nat) → Int32 → Int32 → Option sSt) (hk26 : ∀ (S : sSt) (p0 : Nat) (tp0 : isK Λ 2 p0) (p1 : Option Nat) (tp1 : okK Λ 7 p1) (p2 : Int32) (p3 : Int32), J X 4 0 0 26 [(0, vR (some p0)), (1, vR p1), (2, vI p2), (3, vI p3)] [] Λ S (k26 S p0 p1 p2 p3 = some r)) : ∀ (S : sSt) (p0 : Nat) (tp0 : isK Λ 2 p0) (p1 : Nat) (tp1 : isK Λ 7 p1) (p3 : Int32) (s0 : Int32) (s1 : Int32), J X 4 0 0 51 [(0, vR (some p0)), (1, vR (some p1)), (3, vI p3)] [vI s0, vI s1] Λ S (B_X2_arrange_51 Λ.2.2 k26 S p0 p1 p3 s0 s1 = some r) := by
  intro S p0 tp0 p1 tp1 p3 s0 s1
  unfold B_X2_arrange_51
  refine j_ior C dX2_arrange_51 ?_
  refine j_istore_n C (L' := [(2, vI (s1 ||| s0)), (0, vR (some p0)), (1, vR (some p1)), (3, vI p3)]) dX2_arrange_52 (by decide) rfl ?_
  refine j_iinc C (v := (1 : Int32)) (L' := [(3, vI (p3 + (1 : Int32))), (2, vI (s1 ||| s0)), (0, vR (some p0)), (1, vR (some p1))]) dX2_arrange_53 3 rfl (by decide) (by decide) rfl ?_
  refine j_goto C (tgt := 26) dX2_arrange_56 (by decide) ?_
  refine j_sub (L' := [(0, vR (some p0)), (1, vR (some p1)), (2, vI (s1 ||| s0)), (3, vI (p3 + (1 : Int32)))]) [2, 3, 1, 0] rfl ?_
  exact hk26 S p0 tp0 (some p1) (okS tp1) (s1 ||| s0) (p3 + (1 : Int32))
def Y_X2_arrange_26 (N : Nat → Nat) (rec : sSt → Nat → (Option Nat) → Int32 → Int32 → Option sSt) (S : sSt) (p0 : Nat) (p1 : Option Nat) (p2 : Int32) (p3 : Int32) : Option sSt := bnd (gFR S 80 p0) (fun x9 => Option.bind x9 (fun a10 => (if (nI (N a10)) ≤ p3 then L_X2_arrange_61 N FU S p0 p2 (0 : Int32) else Option.bind p1 (fun a13 => Option.bind (F_X7_at N S a13 p3) (fun v14 => onl v14 (B_X2_arrange_51 N rec S p0 a13 p3 (0 : Int32) p2) (fun a16 => B_X2_arrange_51 N rec S p0 a13 p3 ((1 : Int32) <<< (p3 &&& 31)) p2))))))
set_option maxHeartbeats 4000000 in
theorem jY_X2_arrange_26 {X : jX} (C : jC X cX2_arrange 4 RX2 rm_X2_arrange) {Λ : sLay} {r : sSt} (E : jE X none rV Λ ((), r)) (rec : sSt → Nat → (Option Nat) → Int32 → Int32 → Option sSt) (hrec : ∀ (S : sSt) (p0 : Nat) (tp0 : isK Λ 2 p0) (p1 : Option Nat) (tp1 : okK Λ 7 p1) (p2 : Int32) (p3 : Int32), J X 4 0 0 26 [(0, vR (some p0)), (1, vR p1), (2, vI p2), (3, vI p3)] [] Λ S (rec S p0 p1 p2 p3 = some r)) : ∀ (S : sSt) (p0 : Nat) (tp0 : isK Λ 2 p0) (p1 : Option Nat) (tp1 : okK Λ 7 p1) (p2 : Int32) (p3 : Int32), J X 4 0 0 26 [(0, vR (some p0)), (1, vR p1), (2, vI p2), (3, vI p3)] [] Λ S (Y_X2_arrange_26 Λ.2.2 rec S p0 p1 p2 p3 = some r) := by
  intro S p0 tp0 p1 tp1 p2 p3
  unfold Y_X2_arrange_26
  refine j_iload_n C dX2_arrange_26 3 rfl ?_
  refine j_aload_n C dX2_arrange_27 0 rfl ?_
  refine j_getR C kK2 f80 kfX2_9 (by decide) rfl tp0 dX2_arrange_28 (fun x9 tx9 => ?_)
  refine j_oc tx9 (fun a10 ta10 ea10 => ?_)
  subst ea10
  refine j_alen C ta10 (by decide) dX2_arrange_31 ?_
  refine j_icmp_ge C (tgt := 59) dX2_arrange_32 (by decide) ?_ ?_
  · refine j_iconst C (v := (0 : Int32)) dX2_arrange_59 (by decide) ?_
    refine j_istore_n C (L' := [(3, vI (0 : Int32)), (0, vR (some p0)), (1, vR p1), (2, vI p2)]) dX2_arrange_60 (by decide) rfl ?_
    refine j_sub (L' := [(0, vR (some p0)), (2, vI p2), (3, vI (0 : Int32))]) [1, 3, 0] rfl ?_
    exact jL_X2_arrange_61 C E FU S p0 tp0 p2 (0 : Int32)
  · refine j_iload_n C dX2_arrange_35 2 rfl ?_
    refine j_aload_n C dX2_arrange_36 1 rfl ?_
    refine j_iload_n C dX2_arrange_37 3 rfl ?_
    refine j_oc tp1 (fun a13 ta13 ea13 => ?_)
    subst ea13
    refine j_cVRP C [vI p3] [vI p2] (fun _ e => c_X7_at a13 ta13 p3 e) kYX7_at kVX7_at kmX2_41 kO7 ta13 rfl rfl ⟨rfl, rfl, by decide, by decide⟩ (Nat.le_of_ble_eq_true rfl) ⟨Nat.zero_le _, Nat.zero_le _⟩ dX2_arrange_38 (fun v14 tv14 => ?_)
    refine j_ifnonnull C (tgt := 48) tv14 dX2_arrange_41 (by decide) (fun ea16 => ?_) (fun a16 ta16 ea16 => ?_)
    · subst ea16
      refine j_iconst C (v := (0 : Int32)) dX2_arrange_44 (by decide) ?_
      refine j_goto C (tgt := 51) dX2_arrange_45 (by decide) ?_
      refine j_sub (L' := [(0, vR (some p0)), (1, vR (some a13)), (3, vI p3)]) [0, 1, 3] rfl ?_
      exact jB_X2_arrange_51 C E rec hrec S p0 tp0 a13 ta13 p3 (0 : Int32) p2
    · subst ea16
      refine j_iconst C (v := (1 : Int32)) dX2_arrange_48 (by decide) ?_
      refine j_iload_n C dX2_arrange_49 3 rfl ?_
      refine j_ishl C dX2_arrange_50 ?_
      refine j_sub (L' := [(0, vR (some p0)), (1, vR (some a13)), (3, vI p3)]) [0, 1, 3] rfl ?_
      exact jB_X2_arrange_51 C E rec hrec S p0 tp0 a13 ta13 p3 ((1 : Int32) <<< (p3 &&& 31)) p2
def L_X2_arrange_26 (N : Nat → Nat) (n : Nat) : sSt → Nat → (Option Nat) → Int32 → Int32 → Option sSt := iter (fun _ _ _ _ _ => none) (Y_X2_arrange_26 N) n
theorem jL_X2_arrange_26 {X : jX} (C : jC X cX2_arrange 4 RX2 rm_X2_arrange) {Λ : sLay} {r : sSt} (E : jE X none rV Λ ((), r)) : ∀ (n : Nat) (S : sSt) (p0 : Nat) (tp0 : isK Λ 2 p0) (p1 : Option Nat) (tp1 : okK Λ 7 p1) (p2 : Int32) (p3 : Int32), J X 4 0 0 26 [(0, vR (some p0)), (1, vR p1), (2, vI p2), (3, vI p3)] [] Λ S (L_X2_arrange_26 Λ.2.2 n S p0 p1 p2 p3 = some r) := by
  intro n
  induction n with
  | zero => intro S p0 tp0 p1 tp1 p2 p3; exact j_no (fun h => by have h2 : (none : Option sSt) = some r := h; cases h2)
  | succ n ih => intro S p0 tp0 p1 tp1 p2 p3; exact jY_X2_arrange_26 C E (L_X2_arrange_26 Λ.2.2 n) ih S p0 tp0 p1 tp1 p2 p3
def F_X2_arrange (N : Nat → Nat) (S : sSt) (p0 : Nat) (p1 : Option Nat) : Option sSt := Option.bind (F_X2_findReach N S p0 p1) (fun S2 => bnd (gFR S2 82 p0) (fun x3 => Option.bind x3 (fun a4 => Option.bind (F_X1_empty N S2 a4) (fun S6 => bnd (sFI S6 83 p0 (0 : Int32)) (fun S7 => bnd (sFI S7 84 p0 (0 : Int32)) (fun S8 => L_X2_arrange_26 N FU S8 p0 p1 (0 : Int32) (0 : Int32)))))))
set_option maxHeartbeats 4000000 in
theorem jF_X2_arrange {X : jX} (C : jC X cX2_arrange 4 RX2 rm_X2_arrange) {Λ : sLay} {S : sSt} {r : sSt} (E : jE X none rV Λ ((), r)) (p0 : Nat) (tp0 : isK Λ 2 p0) (p1 : Option Nat) (tp1 : okK Λ 7 p1) : J X 4 0 0 0 [(0, vR (some p0)), (1, vR p1)] [] Λ S (F_X2_arrange Λ.2.2 S p0 p1 = some r) := by
  unfold F_X2_arrange
  refine j_aload_n C dX2_arrange_0 0 rfl ?_
  refine j_aload_n C dX2_arrange_1 1 rfl ?_
  refine j_cVVV C [vR p1] [] (fun _ e => c_X2_findReach p0 tp0 p1 tp1 e) kYX2_findReach kVX2_findReach kmX2_27 kO2 tp0 rfl rfl ⟨rfl, rfl, by decide, by decide⟩ (Nat.le_of_ble_eq_true rfl) ⟨Nat.zero_le _, Nat.zero_le _⟩ dX2_arrange_2 (fun S2 => ?_)
  refine j_aload_n C dX2_arrange_5 0 rfl ?_
  refine j_getR C kK2 f82 kfX2_23 (by decide) rfl tp0 dX2_arrange_6 (fun x3 tx3 => ?_)
  refine j_oc tx3 (fun a4 ta4 ea4 => ?_)
  subst ea4
  refine j_cVVV C [] [] (fun _ e => c_X1_empty a4 ta4 e) kYX1_empty kVX1_empty kmX2_31 kO1 ta4 rfl rfl ⟨rfl, rfl, by decide, by decide⟩ (Nat.le_of_ble_eq_true rfl) ⟨Nat.zero_le _, Nat.zero_le _⟩ dX2_arrange_9 (fun S6 => ?_)
  refine j_aload_n C dX2_arrange_12 0 rfl ?_
  refine j_iconst C (v := (0 : Int32)) dX2_arrange_13 (by decide) ?_
  refine j_putI C kK2 f83 kfX2_34 (by decide) rfl rfl rfl tp0 dX2_arrange_14 (fun S7 => ?_)
  refine j_aload_n C dX2_arrange_17 0 rfl ?_
  refine j_iconst C (v := (0 : Int32)) dX2_arrange_18 (by decide) ?_
  refine j_putI C kK2 f84 kfX2_38 (by decide) rfl rfl rfl tp0 dX2_arrange_19 (fun S8 => ?_)
  refine j_iconst C (v := (0 : Int32)) dX2_arrange_22 (by decide) ?_
  refine j_istore_n C (L' := [(2, vI (0 : Int32)), (0, vR (some p0)), (1, vR p1)]) dX2_arrange_23 (by decide) rfl ?_
  refine j_iconst C (v := (0 : Int32)) dX2_arrange_24 (by decide) ?_
  refine j_istore_n C (L' := [(3, vI (0 : Int32)), (2, vI (0 : Int32)), (0, vR (some p0)), (1, vR p1)]) dX2_arrange_25 (by decide) rfl ?_
  refine j_sub (L' := [(0, vR (some p0)), (1, vR p1), (2, vI (0 : Int32)), (3, vI (0 : Int32))]) [2, 3, 1, 0] rfl ?_
  exact jL_X2_arrange_26 C E FU S8 p0 tp0 p1 tp1 (0 : Int32) (0 : Int32)
theorem c_X2_arrange {l : Launch} {D : va_G} {cy : Nat → ClassId} {Λ : sLay} {S : sSt} (p0 : Nat) (tp0 : isK Λ 2 p0) (p1 : Option Nat) (tp1 : okK Λ 7 p1) {r : sSt} (h : F_X2_arrange Λ.2.2 S p0 p1 = some r) : jM l yX2_arrange (Cond.code yX2_arrange cX2_arrange 4 none :: bigW) rm_X2_arrange D cy Λ S [vR (some p0), vR p1] rV ((), r) := jM_of (by decide +kernel) (Nat.le_of_ble_eq_true rfl) (fun X C E _ _ _ => j_sub [0, 1] rfl (jF_X2_arrange C E p0 tp0 p1 tp1)) h
/-! RemakeNeeds2.Rings.ringOf(I)I -/
abbrev rm_X2_ringOf : Room := { frames := 0, cells := 0, slots := 0, locals := 0 }
def F_X2_ringOf (N : Nat → Nat) (S : sSt) (p0 : Nat) (p1 : Int32) : Option Int32 := (if p1 < 0 then some (-5 : Int32) else bnd (gFR S 81 p0) (fun x1 => Option.bind x1 (fun a2 => (if (nI (N a2)) ≤ p1 then some (-5 : Int32) else bnd (gFR S 81 p0) (fun x3 => Option.bind x3 (fun a4 => gi p1 (N a4) (some (gAI S a4 (Int32.toNatClampNeg p1)))))))))
set_option maxHeartbeats 4000000 in
theorem jF_X2_ringOf {X : jX} (C : jC X cX2_ringOf 2 RX2 rm_X2_ringOf) {Λ : sLay} {S : sSt} {r : Int32} (E : jE X (some .int) rI Λ (r, S)) (p0 : Nat) (tp0 : isK Λ 2 p0) (p1 : Int32) : J X 2 0 0 0 [(0, vR (some p0)), (1, vI p1)] [] Λ S (F_X2_ringOf Λ.2.2 S p0 p1 = some r) := by
  unfold F_X2_ringOf
  refine j_iload_n C dX2_ringOf_0 1 rfl ?_
  refine j_if_lt C (tgt := 22) dX2_ringOf_1 (by decide) ?_ ?_
  · refine j_bipush C (v := (-5 : Int32)) dX2_ringOf_22 (by decide) ?_
    exact j_iretP C E dX2_ringOf_24
  · refine j_iload_n C dX2_ringOf_4 1 rfl ?_
    refine j_aload_n C dX2_ringOf_5 0 rfl ?_
    refine j_getR C kK2 f81 kfX2_15 (by decide) rfl tp0 dX2_ringOf_6 (fun x1 tx1 => ?_)
    refine j_oc tx1 (fun a2 ta2 ea2 => ?_)
    subst ea2
    refine j_alen C ta2 (by decide) dX2_ringOf_9 ?_
    refine j_icmp_ge C (tgt := 22) dX2_ringOf_10 (by decide) ?_ ?_
    · refine j_bipush C (v := (-5 : Int32)) dX2_ringOf_22 (by decide) ?_
      exact j_iretP C E dX2_ringOf_24
    · refine j_aload_n C dX2_ringOf_13 0 rfl ?_
      refine j_getR C kK2 f81 kfX2_15 (by decide) rfl tp0 dX2_ringOf_14 (fun x3 tx3 => ?_)
      refine j_iload_n C dX2_ringOf_17 1 rfl ?_
      refine j_oc tx3 (fun a4 ta4 ea4 => ?_)
      subst ea4
      refine j_iald C ta4 dX2_ringOf_18 ?_
      refine j_goto C (tgt := 24) dX2_ringOf_19 (by decide) ?_
      exact j_iretP C E dX2_ringOf_24
theorem c_X2_ringOf {l : Launch} {D : va_G} {cy : Nat → ClassId} {Λ : sLay} {S : sSt} (p0 : Nat) (tp0 : isK Λ 2 p0) (p1 : Int32) {r : Int32} (h : F_X2_ringOf Λ.2.2 S p0 p1 = some r) : jM l yX2_ringOf (Cond.code yX2_ringOf cX2_ringOf 2 (some .int) :: bigW) rm_X2_ringOf D cy Λ S [vR (some p0), vI p1] rI (r, S) := jM_of (by decide +kernel) (Nat.le_of_ble_eq_true rfl) (fun X C E _ _ _ => j_sub [0, 1] rfl (jF_X2_ringOf C E p0 tp0 p1)) h
/-! RemakeNeeds2.Row.append(J)V -/
abbrev rm_X3_append : Room := { frames := 0, cells := 0, slots := 0, locals := 0 }
def F_X3_append (N : Nat → Nat) (S : sSt) (p0 : Nat) (p1 : Int64) : Option sSt := (if (gFI S 121 p0) < 0 then some S else bnd (gFR S 120 p0) (fun x1 => Option.bind x1 (fun a2 => (if (nI (N a2)) ≤ (gFI S 121 p0) then some S else bnd (gFR S 120 p0) (fun x3 => Option.bind x3 (fun a4 => gi (gFI S 121 p0) (N a4) (bnd (sAJ S a4 (Int32.toNatClampNeg (gFI S 121 p0)) p1) (fun S5 => bnd (sFI S5 121 p0 ((gFI S5 121 p0) + (1 : Int32))) (fun S6 => some S6)))))))))
set_option maxHeartbeats 4000000 in
theorem jF_X3_append {X : jX} (C : jC X cX3_append 3 RX3 rm_X3_append) {Λ : sLay} {S : sSt} {r : sSt} (E : jE X none rV Λ ((), r)) (p0 : Nat) (tp0 : isK Λ 3 p0) (p1 : Int64) : J X 3 0 0 0 [(0, vR (some p0)), (1, vJ p1)] [] Λ S (F_X3_append Λ.2.2 S p0 p1 = some r) := by
  unfold F_X3_append
  refine j_aload_n C dX3_append_0 0 rfl ?_
  refine j_getI C kK3 f121 kfX3_15 (by decide) tp0 dX3_append_1 ?_
  refine j_if_lt C (tgt := 39) dX3_append_4 (by decide) ?_ ?_
  · exact j_vretP C E dX3_append_39
  · refine j_aload_n C dX3_append_7 0 rfl ?_
    refine j_getI C kK3 f121 kfX3_15 (by decide) tp0 dX3_append_8 ?_
    refine j_aload_n C dX3_append_11 0 rfl ?_
    refine j_getR C kK3 f120 kfX3_9 (by decide) rfl tp0 dX3_append_12 (fun x1 tx1 => ?_)
    refine j_oc tx1 (fun a2 ta2 ea2 => ?_)
    subst ea2
    refine j_alen C ta2 (by decide) dX3_append_15 ?_
    refine j_icmp_ge C (tgt := 39) dX3_append_16 (by decide) ?_ ?_
    · exact j_vretP C E dX3_append_39
    · refine j_aload_n C dX3_append_19 0 rfl ?_
      refine j_getR C kK3 f120 kfX3_9 (by decide) rfl tp0 dX3_append_20 (fun x3 tx3 => ?_)
      refine j_aload_n C dX3_append_23 0 rfl ?_
      refine j_getI C kK3 f121 kfX3_15 (by decide) tp0 dX3_append_24 ?_
      refine j_lload_n C dX3_append_27 1 rfl ?_
      refine j_oc tx3 (fun a4 ta4 ea4 => ?_)
      subst ea4
      refine j_last C ta4 dX3_append_28 (fun S5 => ?_)
      refine j_aload_n C dX3_append_29 0 rfl ?_
      refine j_dup C dX3_append_30 rfl ?_
      refine j_getI C kK3 f121 kfX3_15 (by decide) tp0 dX3_append_31 ?_
      refine j_iconst C (v := (1 : Int32)) dX3_append_34 (by decide) ?_
      refine j_iadd C dX3_append_35 ?_
      refine j_putI C kK3 f121 kfX3_15 (by decide) rfl rfl rfl tp0 dX3_append_36 (fun S6 => ?_)
      exact j_vretP C E dX3_append_39
theorem c_X3_append {l : Launch} {D : va_G} {cy : Nat → ClassId} {Λ : sLay} {S : sSt} (p0 : Nat) (tp0 : isK Λ 3 p0) (p1 : Int64) {r : sSt} (h : F_X3_append Λ.2.2 S p0 p1 = some r) : jM l yX3_append (Cond.code yX3_append cX3_append 3 none :: bigW) rm_X3_append D cy Λ S [vR (some p0), vJ p1] rV ((), r) := jM_of (by decide +kernel) (Nat.le_of_ble_eq_true rfl) (fun X C E _ _ _ => j_sub [0, 1] rfl (jF_X3_append C E p0 tp0 p1)) h
/-! RemakeNeeds2.Row.at(I)J -/
abbrev rm_X3_at : Room := { frames := 0, cells := 0, slots := 0, locals := 0 }
def F_X3_at (N : Nat → Nat) (S : sSt) (p0 : Nat) (p1 : Int32) : Option Int64 := (if p1 < 0 then some (0 : Int64) else (if (gFI S 121 p0) ≤ p1 then some (0 : Int64) else bnd (gFR S 120 p0) (fun x1 => Option.bind x1 (fun a2 => (if (nI (N a2)) ≤ p1 then some (0 : Int64) else bnd (gFR S 120 p0) (fun x3 => Option.bind x3 (fun a4 => gi p1 (N a4) (some (gAJ S a4 (Int32.toNatClampNeg p1))))))))))
set_option maxHeartbeats 4000000 in
theorem jF_X3_at {X : jX} (C : jC X cX3_at 2 RX3 rm_X3_at) {Λ : sLay} {S : sSt} {r : Int64} (E : jE X (some .long) rJ Λ (r, S)) (p0 : Nat) (tp0 : isK Λ 3 p0) (p1 : Int32) : J X 2 0 0 0 [(0, vR (some p0)), (1, vI p1)] [] Λ S (F_X3_at Λ.2.2 S p0 p1 = some r) := by
  unfold F_X3_at
  refine j_iload_n C dX3_at_0 1 rfl ?_
  refine j_if_lt C (tgt := 30) dX3_at_1 (by decide) ?_ ?_
  · refine j_lconst C (v := (0 : Int64)) dX3_at_30 (by decide) ?_
    exact j_lretP C E dX3_at_31
  · refine j_iload_n C dX3_at_4 1 rfl ?_
    refine j_aload_n C dX3_at_5 0 rfl ?_
    refine j_getI C kK3 f121 kfX3_15 (by decide) tp0 dX3_at_6 ?_
    refine j_icmp_ge C (tgt := 30) dX3_at_9 (by decide) ?_ ?_
    · refine j_lconst C (v := (0 : Int64)) dX3_at_30 (by decide) ?_
      exact j_lretP C E dX3_at_31
    · refine j_iload_n C dX3_at_12 1 rfl ?_
      refine j_aload_n C dX3_at_13 0 rfl ?_
      refine j_getR C kK3 f120 kfX3_9 (by decide) rfl tp0 dX3_at_14 (fun x1 tx1 => ?_)
      refine j_oc tx1 (fun a2 ta2 ea2 => ?_)
      subst ea2
      refine j_alen C ta2 (by decide) dX3_at_17 ?_
      refine j_icmp_ge C (tgt := 30) dX3_at_18 (by decide) ?_ ?_
      · refine j_lconst C (v := (0 : Int64)) dX3_at_30 (by decide) ?_
        exact j_lretP C E dX3_at_31
      · refine j_aload_n C dX3_at_21 0 rfl ?_
        refine j_getR C kK3 f120 kfX3_9 (by decide) rfl tp0 dX3_at_22 (fun x3 tx3 => ?_)
        refine j_iload_n C dX3_at_25 1 rfl ?_
        refine j_oc tx3 (fun a4 ta4 ea4 => ?_)
        subst ea4
        refine j_lald C ta4 dX3_at_26 ?_
        refine j_goto C (tgt := 31) dX3_at_27 (by decide) ?_
        exact j_lretP C E dX3_at_31
theorem c_X3_at {l : Launch} {D : va_G} {cy : Nat → ClassId} {Λ : sLay} {S : sSt} (p0 : Nat) (tp0 : isK Λ 3 p0) (p1 : Int32) {r : Int64} (h : F_X3_at Λ.2.2 S p0 p1 = some r) : jM l yX3_at (Cond.code yX3_at cX3_at 2 (some .long) :: bigW) rm_X3_at D cy Λ S [vR (some p0), vI p1] rJ (r, S) := jM_of (by decide +kernel) (Nat.le_of_ble_eq_true rfl) (fun X C E _ _ _ => j_sub [0, 1] rfl (jF_X3_at C E p0 tp0 p1)) h
/-! RemakeNeeds2.Row.mix(JJ)J -/
abbrev rm_X3_mix : Room := { frames := 0, cells := 0, slots := 0, locals := 0 }
def F_X3_mix (N : Nat → Nat) (S : sSt) (p0 : Int64) (p2 : Int64) : Option Int64 := some (((p0 ^^^ p2) * (-7046029254386353131 : Int64)) ^^^ (jushr ((p0 ^^^ p2) * (-7046029254386353131 : Int64)) (29 : Int32)))
set_option maxHeartbeats 4000000 in
theorem jF_X3_mix {X : jX} (C : jC X cX3_mix 6 RX3 rm_X3_mix) {Λ : sLay} {S : sSt} {r : Int64} (E : jE X (some .long) rJ Λ (r, S)) (p0 : Int64) (p2 : Int64) : J X 6 0 0 0 [(0, vJ p0), (2, vJ p2)] [] Λ S (F_X3_mix Λ.2.2 S p0 p2 = some r) := by
  unfold F_X3_mix
  refine j_lload_n C dX3_mix_0 0 rfl ?_
  refine j_lload_n C dX3_mix_1 1 rfl ?_
  refine j_lxor C dX3_mix_2 ?_
  refine j_ldc2 C kcX3_41 dX3_mix_3 ?_
  refine j_lmul C dX3_mix_6 ?_
  refine j_lstore C (L' := [(4, vJ ((p0 ^^^ p2) * (-7046029254386353131 : Int64))), (0, vJ p0), (2, vJ p2)]) dX3_mix_7 (by decide) rfl ?_
  refine j_lload C dX3_mix_9 0 rfl ?_
  refine j_lload C dX3_mix_11 0 rfl ?_
  refine j_bipush C (v := (29 : Int32)) dX3_mix_13 (by decide) ?_
  refine j_lushr C dX3_mix_15 ?_
  refine j_lxor C dX3_mix_16 ?_
  exact j_lretP C E dX3_mix_17
theorem c_X3_mix {l : Launch} {D : va_G} {cy : Nat → ClassId} {Λ : sLay} {S : sSt} (p0 : Int64) (p2 : Int64) {r : Int64} (h : F_X3_mix Λ.2.2 S p0 p2 = some r) : jM l yX3_mix (Cond.code yX3_mix cX3_mix 6 (some .long) :: bigW) rm_X3_mix D cy Λ S [vJ p0, vJ p2] rJ (r, S) := jM_of (by decide +kernel) (Nat.le_of_ble_eq_true rfl) (fun X C E _ _ _ => j_sub [0, 1] rfl (jF_X3_mix C E p0 p2)) h
/-! RemakeNeeds2.Row.digest()J -/
abbrev rm_X3_digest : Room := { frames := 1, cells := 0, slots := 0, locals := 25 }
def Y_X3_digest_6 (N : Nat → Nat) (S : sSt) (rec : Nat → Int64 → Int32 → Option Int64) (p0 : Nat) (p1 : Int64) (p3 : Int32) : Option Int64 := (if (gFI S 121 p0) ≤ p3 then some p1 else Option.bind (F_X3_at N S p0 p3) (fun v1 => Option.bind (F_X3_mix N S p1 v1) (fun v3 => rec p0 v3 (p3 + (1 : Int32)))))
set_option maxHeartbeats 4000000 in
theorem jY_X3_digest_6 {X : jX} (C : jC X cX3_digest 4 RX3 rm_X3_digest) {Λ : sLay} {S : sSt} {r : Int64} (E : jE X (some .long) rJ Λ (r, S)) (rec : Nat → Int64 → Int32 → Option Int64) (hrec : ∀ (p0 : Nat) (tp0 : isK Λ 3 p0) (p1 : Int64) (p3 : Int32), J X 4 0 0 6 [(0, vR (some p0)), (1, vJ p1), (3, vI p3)] [] Λ S (rec p0 p1 p3 = some r)) : ∀ (p0 : Nat) (tp0 : isK Λ 3 p0) (p1 : Int64) (p3 : Int32), J X 4 0 0 6 [(0, vR (some p0)), (1, vJ p1), (3, vI p3)] [] Λ S (Y_X3_digest_6 Λ.2.2 S rec p0 p1 p3 = some r) := by
  intro p0 tp0 p1 p3
  unfold Y_X3_digest_6
  refine j_iload_n C dX3_digest_6 2 rfl ?_
  refine j_aload_n C dX3_digest_7 0 rfl ?_
  refine j_getI C kK3 f121 kfX3_15 (by decide) tp0 dX3_digest_8 ?_
  refine j_icmp_ge C (tgt := 30) dX3_digest_11 (by decide) ?_ ?_
  · refine j_lload_n C dX3_digest_30 1 rfl ?_
    exact j_lretP C E dX3_digest_31
  · refine j_lload_n C dX3_digest_14 1 rfl ?_
    refine j_aload_n C dX3_digest_15 0 rfl ?_
    refine j_iload_n C dX3_digest_16 2 rfl ?_
    refine j_cVJP C [vI p3] [vJ p1] (fun _ e => c_X3_at p0 tp0 p3 e) kYX3_at kVX3_at kmX3_33 kO3 tp0 rfl rfl ⟨rfl, rfl, by decide, by decide⟩ (Nat.le_of_ble_eq_true rfl) ⟨Nat.zero_le _, Nat.zero_le _⟩ dX3_digest_17 (fun v1 => ?_)
    refine j_cSJP C [vJ p1, vJ v1] [] (fun _ e => c_X3_mix p1 v1 e) kYX3_mix kSX3_mix kmX3_37 rfl rfl ⟨rfl, rfl, by decide, by decide⟩ (Nat.le_of_ble_eq_true rfl) ⟨Nat.zero_le _, Nat.zero_le _⟩ dX3_digest_20 (fun v3 => ?_)
    refine j_lstore_n C (L' := [(1, vJ v3), (0, vR (some p0)), (3, vI p3)]) dX3_digest_23 (by decide) rfl ?_
    refine j_iinc C (v := (1 : Int32)) (L' := [(3, vI (p3 + (1 : Int32))), (1, vJ v3), (0, vR (some p0))]) dX3_digest_24 2 rfl (by decide) (by decide) rfl ?_
    refine j_goto C (tgt := 6) dX3_digest_27 (by decide) ?_
    refine j_sub (L' := [(0, vR (some p0)), (1, vJ v3), (3, vI (p3 + (1 : Int32)))]) [2, 1, 0] rfl ?_
    exact hrec p0 tp0 v3 (p3 + (1 : Int32))
def L_X3_digest_6 (N : Nat → Nat) (S : sSt) (n : Nat) : Nat → Int64 → Int32 → Option Int64 := iter (fun _ _ _ => none) (Y_X3_digest_6 N S) n
theorem jL_X3_digest_6 {X : jX} (C : jC X cX3_digest 4 RX3 rm_X3_digest) {Λ : sLay} {S : sSt} {r : Int64} (E : jE X (some .long) rJ Λ (r, S)) : ∀ (n : Nat) (p0 : Nat) (tp0 : isK Λ 3 p0) (p1 : Int64) (p3 : Int32), J X 4 0 0 6 [(0, vR (some p0)), (1, vJ p1), (3, vI p3)] [] Λ S (L_X3_digest_6 Λ.2.2 S n p0 p1 p3 = some r) := by
  intro n
  induction n with
  | zero => intro p0 tp0 p1 p3; exact j_no (fun h => by have h2 : (none : Option Int64) = some r := h; cases h2)
  | succ n ih => intro p0 tp0 p1 p3; exact jY_X3_digest_6 C E (L_X3_digest_6 Λ.2.2 S n) ih p0 tp0 p1 p3
def F_X3_digest (N : Nat → Nat) (S : sSt) (p0 : Nat) : Option Int64 := L_X3_digest_6 N S FU p0 (17 : Int64) (0 : Int32)
set_option maxHeartbeats 4000000 in
theorem jF_X3_digest {X : jX} (C : jC X cX3_digest 4 RX3 rm_X3_digest) {Λ : sLay} {S : sSt} {r : Int64} (E : jE X (some .long) rJ Λ (r, S)) (p0 : Nat) (tp0 : isK Λ 3 p0) : J X 4 0 0 0 [(0, vR (some p0))] [] Λ S (F_X3_digest Λ.2.2 S p0 = some r) := by
  unfold F_X3_digest
  refine j_ldc2 C kcX3_31 dX3_digest_0 ?_
  refine j_lstore_n C (L' := [(1, vJ (17 : Int64)), (0, vR (some p0))]) dX3_digest_3 (by decide) rfl ?_
  refine j_iconst C (v := (0 : Int32)) dX3_digest_4 (by decide) ?_
  refine j_istore_n C (L' := [(3, vI (0 : Int32)), (1, vJ (17 : Int64)), (0, vR (some p0))]) dX3_digest_5 (by decide) rfl ?_
  refine j_sub (L' := [(0, vR (some p0)), (1, vJ (17 : Int64)), (3, vI (0 : Int32))]) [2, 1, 0] rfl ?_
  exact jL_X3_digest_6 C E FU p0 tp0 (17 : Int64) (0 : Int32)
theorem c_X3_digest {l : Launch} {D : va_G} {cy : Nat → ClassId} {Λ : sLay} {S : sSt} (p0 : Nat) (tp0 : isK Λ 3 p0) {r : Int64} (h : F_X3_digest Λ.2.2 S p0 = some r) : jM l yX3_digest (Cond.code yX3_digest cX3_digest 4 (some .long) :: bigW) rm_X3_digest D cy Λ S [vR (some p0)] rJ (r, S) := jM_of (by decide +kernel) (Nat.le_of_ble_eq_true rfl) (fun X C E _ _ _ => j_sub [0] rfl (jF_X3_digest C E p0 tp0)) h
/-! RemakeNeeds2.Row.empty()V -/
abbrev rm_X3_empty : Room := { frames := 0, cells := 0, slots := 0, locals := 0 }
def F_X3_empty (N : Nat → Nat) (S : sSt) (p0 : Nat) : Option sSt := bnd (sFI S 121 p0 (0 : Int32)) (fun S1 => some S1)
set_option maxHeartbeats 4000000 in
theorem jF_X3_empty {X : jX} (C : jC X cX3_empty 1 RX3 rm_X3_empty) {Λ : sLay} {S : sSt} {r : sSt} (E : jE X none rV Λ ((), r)) (p0 : Nat) (tp0 : isK Λ 3 p0) : J X 1 0 0 0 [(0, vR (some p0))] [] Λ S (F_X3_empty Λ.2.2 S p0 = some r) := by
  unfold F_X3_empty
  refine j_aload_n C dX3_empty_0 0 rfl ?_
  refine j_iconst C (v := (0 : Int32)) dX3_empty_1 (by decide) ?_
  refine j_putI C kK3 f121 kfX3_15 (by decide) rfl rfl rfl tp0 dX3_empty_2 (fun S1 => ?_)
  exact j_vretP C E dX3_empty_5
theorem c_X3_empty {l : Launch} {D : va_G} {cy : Nat → ClassId} {Λ : sLay} {S : sSt} (p0 : Nat) (tp0 : isK Λ 3 p0) {r : sSt} (h : F_X3_empty Λ.2.2 S p0 = some r) : jM l yX3_empty (Cond.code yX3_empty cX3_empty 1 none :: bigW) rm_X3_empty D cy Λ S [vR (some p0)] rV ((), r) := jM_of (by decide +kernel) (Nat.le_of_ble_eq_true rfl) (fun X C E _ _ _ => j_sub [0] rfl (jF_X3_empty C E p0 tp0)) h
/-! RemakeNeeds2.Row.endFinds()V -/
abbrev rm_X3_endFinds : Room := { frames := 0, cells := 0, slots := 0, locals := 0 }
def F_X3_endFinds (N : Nat → Nat) (S : sSt) (p0 : Nat) : Option sSt := bnd (sFI S 124 p0 (gFI S 121 p0)) (fun S1 => some S1)
set_option maxHeartbeats 4000000 in
theorem jF_X3_endFinds {X : jX} (C : jC X cX3_endFinds 1 RX3 rm_X3_endFinds) {Λ : sLay} {S : sSt} {r : sSt} (E : jE X none rV Λ ((), r)) (p0 : Nat) (tp0 : isK Λ 3 p0) : J X 1 0 0 0 [(0, vR (some p0))] [] Λ S (F_X3_endFinds Λ.2.2 S p0 = some r) := by
  unfold F_X3_endFinds
  refine j_aload_n C dX3_endFinds_0 0 rfl ?_
  refine j_aload_n C dX3_endFinds_1 0 rfl ?_
  refine j_getI C kK3 f121 kfX3_15 (by decide) tp0 dX3_endFinds_2 ?_
  refine j_putI C kK3 f124 kfX3_25 (by decide) rfl rfl rfl tp0 dX3_endFinds_5 (fun S1 => ?_)
  exact j_vretP C E dX3_endFinds_8
theorem c_X3_endFinds {l : Launch} {D : va_G} {cy : Nat → ClassId} {Λ : sLay} {S : sSt} (p0 : Nat) (tp0 : isK Λ 3 p0) {r : sSt} (h : F_X3_endFinds Λ.2.2 S p0 = some r) : jM l yX3_endFinds (Cond.code yX3_endFinds cX3_endFinds 1 none :: bigW) rm_X3_endFinds D cy Λ S [vR (some p0)] rV ((), r) := jM_of (by decide +kernel) (Nat.le_of_ble_eq_true rfl) (fun X C E _ _ _ => j_sub [0] rfl (jF_X3_endFinds C E p0 tp0)) h
/-! RemakeNeeds2.Row.endMarks()V -/
abbrev rm_X3_endMarks : Room := { frames := 0, cells := 0, slots := 0, locals := 0 }
def F_X3_endMarks (N : Nat → Nat) (S : sSt) (p0 : Nat) : Option sSt := bnd (sFI S 125 p0 (gFI S 121 p0)) (fun S1 => some S1)
set_option maxHeartbeats 4000000 in
theorem jF_X3_endMarks {X : jX} (C : jC X cX3_endMarks 1 RX3 rm_X3_endMarks) {Λ : sLay} {S : sSt} {r : sSt} (E : jE X none rV Λ ((), r)) (p0 : Nat) (tp0 : isK Λ 3 p0) : J X 1 0 0 0 [(0, vR (some p0))] [] Λ S (F_X3_endMarks Λ.2.2 S p0 = some r) := by
  unfold F_X3_endMarks
  refine j_aload_n C dX3_endMarks_0 0 rfl ?_
  refine j_aload_n C dX3_endMarks_1 0 rfl ?_
  refine j_getI C kK3 f121 kfX3_15 (by decide) tp0 dX3_endMarks_2 ?_
  refine j_putI C kK3 f125 kfX3_28 (by decide) rfl rfl rfl tp0 dX3_endMarks_5 (fun S1 => ?_)
  exact j_vretP C E dX3_endMarks_8
theorem c_X3_endMarks {l : Launch} {D : va_G} {cy : Nat → ClassId} {Λ : sLay} {S : sSt} (p0 : Nat) (tp0 : isK Λ 3 p0) {r : sSt} (h : F_X3_endMarks Λ.2.2 S p0 = some r) : jM l yX3_endMarks (Cond.code yX3_endMarks cX3_endMarks 1 none :: bigW) rm_X3_endMarks D cy Λ S [vR (some p0)] rV ((), r) := jM_of (by decide +kernel) (Nat.le_of_ble_eq_true rfl) (fun X C E _ _ _ => j_sub [0] rfl (jF_X3_endMarks C E p0 tp0)) h
/-! RemakeNeeds2.Row.endOwn(I)V -/
abbrev rm_X3_endOwn : Room := { frames := 0, cells := 0, slots := 0, locals := 0 }
def F_X3_endOwn (N : Nat → Nat) (S : sSt) (p0 : Nat) (p1 : Int32) : Option sSt := bnd (sFI S 122 p0 (gFI S 121 p0)) (fun S1 => bnd (sFI S1 123 p0 p1) (fun S2 => some S2))
set_option maxHeartbeats 4000000 in
theorem jF_X3_endOwn {X : jX} (C : jC X cX3_endOwn 2 RX3 rm_X3_endOwn) {Λ : sLay} {S : sSt} {r : sSt} (E : jE X none rV Λ ((), r)) (p0 : Nat) (tp0 : isK Λ 3 p0) (p1 : Int32) : J X 2 0 0 0 [(0, vR (some p0)), (1, vI p1)] [] Λ S (F_X3_endOwn Λ.2.2 S p0 p1 = some r) := by
  unfold F_X3_endOwn
  refine j_aload_n C dX3_endOwn_0 0 rfl ?_
  refine j_aload_n C dX3_endOwn_1 0 rfl ?_
  refine j_getI C kK3 f121 kfX3_15 (by decide) tp0 dX3_endOwn_2 ?_
  refine j_putI C kK3 f122 kfX3_19 (by decide) rfl rfl rfl tp0 dX3_endOwn_5 (fun S1 => ?_)
  refine j_aload_n C dX3_endOwn_8 0 rfl ?_
  refine j_iload_n C dX3_endOwn_9 1 rfl ?_
  refine j_putI C kK3 f123 kfX3_22 (by decide) rfl rfl rfl tp0 dX3_endOwn_10 (fun S2 => ?_)
  exact j_vretP C E dX3_endOwn_13
theorem c_X3_endOwn {l : Launch} {D : va_G} {cy : Nat → ClassId} {Λ : sLay} {S : sSt} (p0 : Nat) (tp0 : isK Λ 3 p0) (p1 : Int32) {r : sSt} (h : F_X3_endOwn Λ.2.2 S p0 p1 = some r) : jM l yX3_endOwn (Cond.code yX3_endOwn cX3_endOwn 2 none :: bigW) rm_X3_endOwn D cy Λ S [vR (some p0), vI p1] rV ((), r) := jM_of (by decide +kernel) (Nat.le_of_ble_eq_true rfl) (fun X C E _ _ _ => j_sub [0, 1] rfl (jF_X3_endOwn C E p0 tp0 p1)) h
/-! RemakeNeeds2.Row.isSame(LRemakeNeeds2$Row;II)Z -/
abbrev rm_X3_isSame : Room := { frames := 1, cells := 0, slots := 0, locals := 21 }
def Y_X3_isSame_3 (N : Nat → Nat) (S : sSt) (rec : Nat → (Option Nat) → Int32 → Int32 → Option Int32) (p0 : Nat) (p1 : Option Nat) (p3 : Int32) (p4 : Int32) : Option Int32 := (if p3 ≤ p4 then some (1 : Int32) else Option.bind (F_X3_at N S p0 p4) (fun v1 => Option.bind p1 (fun a3 => Option.bind (F_X3_at N S a3 p4) (fun v4 => (if (lg_cmp v1 v4) = 0 then rec p0 (some a3) p3 (p4 + (1 : Int32)) else some (0 : Int32))))))
set_option maxHeartbeats 4000000 in
theorem jY_X3_isSame_3 {X : jX} (C : jC X cX3_isSame 5 RX3 rm_X3_isSame) {Λ : sLay} {S : sSt} {r : Int32} (E : jE X (some .boolean) rI Λ (r, S)) (rec : Nat → (Option Nat) → Int32 → Int32 → Option Int32) (hrec : ∀ (p0 : Nat) (tp0 : isK Λ 3 p0) (p1 : Option Nat) (tp1 : okK Λ 3 p1) (p3 : Int32) (p4 : Int32), J X 5 0 0 3 [(0, vR (some p0)), (1, vR p1), (3, vI p3), (4, vI p4)] [] Λ S (rec p0 p1 p3 p4 = some r)) : ∀ (p0 : Nat) (tp0 : isK Λ 3 p0) (p1 : Option Nat) (tp1 : okK Λ 3 p1) (p3 : Int32) (p4 : Int32), J X 5 0 0 3 [(0, vR (some p0)), (1, vR p1), (3, vI p3), (4, vI p4)] [] Λ S (Y_X3_isSame_3 Λ.2.2 S rec p0 p1 p3 p4 = some r) := by
  intro p0 tp0 p1 tp1 p3 p4
  unfold Y_X3_isSame_3
  refine j_iload C dX3_isSame_3 3 rfl ?_
  refine j_iload_n C dX3_isSame_5 2 rfl ?_
  refine j_icmp_ge C (tgt := 33) dX3_isSame_6 (by decide) ?_ ?_
  · refine j_iconst C (v := (1 : Int32)) dX3_isSame_33 (by decide) ?_
    exact j_zretKP C E (by decide) dX3_isSame_34
  · refine j_aload_n C dX3_isSame_9 0 rfl ?_
    refine j_iload C dX3_isSame_10 3 rfl ?_
    refine j_cVJP C [vI p4] [] (fun _ e => c_X3_at p0 tp0 p4 e) kYX3_at kVX3_at kmX3_33 kO3 tp0 rfl rfl ⟨rfl, rfl, by decide, by decide⟩ (Nat.le_of_ble_eq_true rfl) ⟨Nat.zero_le _, Nat.zero_le _⟩ dX3_isSame_12 (fun v1 => ?_)
    refine j_aload_n C dX3_isSame_15 1 rfl ?_
    refine j_iload C dX3_isSame_16 3 rfl ?_
    refine j_oc tp1 (fun a3 ta3 ea3 => ?_)
    subst ea3
    refine j_cVJP C [vI p4] [vJ v1] (fun _ e => c_X3_at a3 ta3 p4 e) kYX3_at kVX3_at kmX3_33 kO3 ta3 rfl rfl ⟨rfl, rfl, by decide, by decide⟩ (Nat.le_of_ble_eq_true rfl) ⟨Nat.zero_le _, Nat.zero_le _⟩ dX3_isSame_18 (fun v4 => ?_)
    refine j_lcmp C dX3_isSame_21 ?_
    refine j_if_eq C (tgt := 27) dX3_isSame_22 (by decide) ?_ ?_
    · refine j_iinc C (v := (1 : Int32)) (L' := [(4, vI (p4 + (1 : Int32))), (0, vR (some p0)), (1, vR (some a3)), (3, vI p3)]) dX3_isSame_27 3 rfl (by decide) (by decide) rfl ?_
      refine j_goto C (tgt := 3) dX3_isSame_30 (by decide) ?_
      refine j_sub (L' := [(0, vR (some p0)), (1, vR (some a3)), (3, vI p3), (4, vI (p4 + (1 : Int32)))]) [1, 2, 3, 0] rfl ?_
      exact hrec p0 tp0 (some a3) (okS ta3) p3 (p4 + (1 : Int32))
    · refine j_iconst C (v := (0 : Int32)) dX3_isSame_25 (by decide) ?_
      exact j_zretKP C E (by decide) dX3_isSame_26
def L_X3_isSame_3 (N : Nat → Nat) (S : sSt) (n : Nat) : Nat → (Option Nat) → Int32 → Int32 → Option Int32 := iter (fun _ _ _ _ => none) (Y_X3_isSame_3 N S) n
theorem jL_X3_isSame_3 {X : jX} (C : jC X cX3_isSame 5 RX3 rm_X3_isSame) {Λ : sLay} {S : sSt} {r : Int32} (E : jE X (some .boolean) rI Λ (r, S)) : ∀ (n : Nat) (p0 : Nat) (tp0 : isK Λ 3 p0) (p1 : Option Nat) (tp1 : okK Λ 3 p1) (p3 : Int32) (p4 : Int32), J X 5 0 0 3 [(0, vR (some p0)), (1, vR p1), (3, vI p3), (4, vI p4)] [] Λ S (L_X3_isSame_3 Λ.2.2 S n p0 p1 p3 p4 = some r) := by
  intro n
  induction n with
  | zero => intro p0 tp0 p1 tp1 p3 p4; exact j_no (fun h => by have h2 : (none : Option Int32) = some r := h; cases h2)
  | succ n ih => intro p0 tp0 p1 tp1 p3 p4; exact jY_X3_isSame_3 C E (L_X3_isSame_3 Λ.2.2 S n) ih p0 tp0 p1 tp1 p3 p4
def F_X3_isSame (N : Nat → Nat) (S : sSt) (p0 : Nat) (p1 : Option Nat) (p2 : Int32) (p3 : Int32) : Option Int32 := L_X3_isSame_3 N S FU p0 p1 p3 p2
set_option maxHeartbeats 4000000 in
theorem jF_X3_isSame {X : jX} (C : jC X cX3_isSame 5 RX3 rm_X3_isSame) {Λ : sLay} {S : sSt} {r : Int32} (E : jE X (some .boolean) rI Λ (r, S)) (p0 : Nat) (tp0 : isK Λ 3 p0) (p1 : Option Nat) (tp1 : okK Λ 3 p1) (p2 : Int32) (p3 : Int32) : J X 5 0 0 0 [(0, vR (some p0)), (1, vR p1), (2, vI p2), (3, vI p3)] [] Λ S (F_X3_isSame Λ.2.2 S p0 p1 p2 p3 = some r) := by
  unfold F_X3_isSame
  refine j_iload_n C dX3_isSame_0 2 rfl ?_
  refine j_istore C (L' := [(4, vI p2), (0, vR (some p0)), (1, vR p1), (2, vI p2), (3, vI p3)]) dX3_isSame_1 (by decide) rfl ?_
  refine j_sub (L' := [(0, vR (some p0)), (1, vR p1), (3, vI p3), (4, vI p2)]) [1, 2, 4, 0] rfl ?_
  exact jL_X3_isSame_3 C E FU p0 tp0 p1 tp1 p3 p2
theorem c_X3_isSame {l : Launch} {D : va_G} {cy : Nat → ClassId} {Λ : sLay} {S : sSt} (p0 : Nat) (tp0 : isK Λ 3 p0) (p1 : Option Nat) (tp1 : okK Λ 3 p1) (p2 : Int32) (p3 : Int32) {r : Int32} (h : F_X3_isSame Λ.2.2 S p0 p1 p2 p3 = some r) : jM l yX3_isSame (Cond.code yX3_isSame cX3_isSame 5 (some .boolean) :: bigW) rm_X3_isSame D cy Λ S [vR (some p0), vR p1, vI p2, vI p3] rI (r, S) := jM_of (by decide +kernel) (Nat.le_of_ble_eq_true rfl) (fun X C E _ _ _ => j_sub [0, 1, 2, 3] rfl (jF_X3_isSame C E p0 tp0 p1 tp1 p2 p3)) h
/-! RemakeNeeds2.Row.hasSameUses(LRemakeNeeds2$Row;)Z -/
abbrev rm_X3_hasSameUses : Room := { frames := 2, cells := 0, slots := 0, locals := 45 }
def Y_X3_hasSameUses_15 (N : Nat → Nat) (S : sSt) (rec : Nat → Nat → Int32 → Option Int32) (p0 : Nat) (p1 : Nat) (p2 : Int32) : Option Int32 := (if (gFI S 123 p0) ≤ p2 then some (1 : Int32) else Option.bind (F_X3_isSame N S p0 (some p1) (((gFI S 122 p0) + (1 : Int32)) + (p2 * (4 : Int32))) ((((gFI S 122 p0) + (1 : Int32)) + (p2 * (4 : Int32))) + (2 : Int32))) (fun v2 => (if v2 = 0 then some (0 : Int32) else rec p0 p1 (p2 + (1 : Int32)))))
set_option maxHeartbeats 4000000 in
theorem jY_X3_hasSameUses_15 {X : jX} (C : jC X cX3_hasSameUses 4 RX3 rm_X3_hasSameUses) {Λ : sLay} {S : sSt} {r : Int32} (E : jE X (some .boolean) rI Λ (r, S)) (rec : Nat → Nat → Int32 → Option Int32) (hrec : ∀ (p0 : Nat) (tp0 : isK Λ 3 p0) (p1 : Nat) (tp1 : isK Λ 3 p1) (p2 : Int32), J X 4 0 0 15 [(0, vR (some p0)), (1, vR (some p1)), (2, vI p2)] [] Λ S (rec p0 p1 p2 = some r)) : ∀ (p0 : Nat) (tp0 : isK Λ 3 p0) (p1 : Nat) (tp1 : isK Λ 3 p1) (p2 : Int32), J X 4 0 0 15 [(0, vR (some p0)), (1, vR (some p1)), (2, vI p2)] [] Λ S (Y_X3_hasSameUses_15 Λ.2.2 S rec p0 p1 p2 = some r) := by
  intro p0 tp0 p1 tp1 p2
  unfold Y_X3_hasSameUses_15
  refine j_iload_n C dX3_hasSameUses_15 2 rfl ?_
  refine j_aload_n C dX3_hasSameUses_16 0 rfl ?_
  refine j_getI C kK3 f123 kfX3_22 (by decide) tp0 dX3_hasSameUses_17 ?_
  refine j_icmp_ge C (tgt := 54) dX3_hasSameUses_20 (by decide) ?_ ?_
  · refine j_iconst C (v := (1 : Int32)) dX3_hasSameUses_54 (by decide) ?_
    exact j_zretKP C E (by decide) dX3_hasSameUses_55
  · refine j_aload_n C dX3_hasSameUses_23 0 rfl ?_
    refine j_getI C kK3 f122 kfX3_19 (by decide) tp0 dX3_hasSameUses_24 ?_
    refine j_iconst C (v := (1 : Int32)) dX3_hasSameUses_27 (by decide) ?_
    refine j_iadd C dX3_hasSameUses_28 ?_
    refine j_iload_n C dX3_hasSameUses_29 2 rfl ?_
    refine j_iconst C (v := (4 : Int32)) dX3_hasSameUses_30 (by decide) ?_
    refine j_imul C dX3_hasSameUses_31 ?_
    refine j_iadd C dX3_hasSameUses_32 ?_
    refine j_istore_n C (L' := [(3, vI (((gFI S 122 p0) + (1 : Int32)) + (p2 * (4 : Int32)))), (0, vR (some p0)), (1, vR (some p1)), (2, vI p2)]) dX3_hasSameUses_33 (by decide) rfl ?_
    refine j_aload_n C dX3_hasSameUses_34 1 rfl ?_
    refine j_aload_n C dX3_hasSameUses_35 2 rfl ?_
    refine j_iload_n C dX3_hasSameUses_36 0 rfl ?_
    refine j_iload_n C dX3_hasSameUses_37 0 rfl ?_
    refine j_iconst C (v := (2 : Int32)) dX3_hasSameUses_38 (by decide) ?_
    refine j_iadd C dX3_hasSameUses_39 ?_
    refine j_cVIP C [vR (some p1), vI (((gFI S 122 p0) + (1 : Int32)) + (p2 * (4 : Int32))), vI ((((gFI S 122 p0) + (1 : Int32)) + (p2 * (4 : Int32))) + (2 : Int32))] [] (fun _ e => c_X3_isSame p0 tp0 (some p1) (okS tp1) (((gFI S 122 p0) + (1 : Int32)) + (p2 * (4 : Int32))) ((((gFI S 122 p0) + (1 : Int32)) + (p2 * (4 : Int32))) + (2 : Int32)) e) kYX3_isSame kVX3_isSame kmX3_43 kO3 tp0 rfl rfl ⟨rfl, rfl, by decide, by decide⟩ (Nat.le_of_ble_eq_true rfl) ⟨Nat.zero_le _, Nat.zero_le _⟩ dX3_hasSameUses_40 (fun v2 => ?_)
    refine j_if_ne C (tgt := 48) dX3_hasSameUses_43 (by decide) ?_ ?_
    · refine j_iinc C (v := (1 : Int32)) (L' := [(2, vI (p2 + (1 : Int32))), (3, vI (((gFI S 122 p0) + (1 : Int32)) + (p2 * (4 : Int32)))), (0, vR (some p0)), (1, vR (some p1))]) dX3_hasSameUses_48 3 rfl (by decide) (by decide) rfl ?_
      refine j_goto C (tgt := 15) dX3_hasSameUses_51 (by decide) ?_
      refine j_sub (L' := [(0, vR (some p0)), (1, vR (some p1)), (2, vI (p2 + (1 : Int32)))]) [2, 3, 0] rfl ?_
      exact hrec p0 tp0 p1 tp1 (p2 + (1 : Int32))
    · refine j_iconst C (v := (0 : Int32)) dX3_hasSameUses_46 (by decide) ?_
      exact j_zretKP C E (by decide) dX3_hasSameUses_47
def L_X3_hasSameUses_15 (N : Nat → Nat) (S : sSt) (n : Nat) : Nat → Nat → Int32 → Option Int32 := iter (fun _ _ _ => none) (Y_X3_hasSameUses_15 N S) n
theorem jL_X3_hasSameUses_15 {X : jX} (C : jC X cX3_hasSameUses 4 RX3 rm_X3_hasSameUses) {Λ : sLay} {S : sSt} {r : Int32} (E : jE X (some .boolean) rI Λ (r, S)) : ∀ (n : Nat) (p0 : Nat) (tp0 : isK Λ 3 p0) (p1 : Nat) (tp1 : isK Λ 3 p1) (p2 : Int32), J X 4 0 0 15 [(0, vR (some p0)), (1, vR (some p1)), (2, vI p2)] [] Λ S (L_X3_hasSameUses_15 Λ.2.2 S n p0 p1 p2 = some r) := by
  intro n
  induction n with
  | zero => intro p0 tp0 p1 tp1 p2; exact j_no (fun h => by have h2 : (none : Option Int32) = some r := h; cases h2)
  | succ n ih => intro p0 tp0 p1 tp1 p2; exact jY_X3_hasSameUses_15 C E (L_X3_hasSameUses_15 Λ.2.2 S n) ih p0 tp0 p1 tp1 p2
def F_X3_hasSameUses (N : Nat → Nat) (S : sSt) (p0 : Nat) (p1 : Option Nat) : Option Int32 := Option.bind p1 (fun a1 => (if (gFI S 123 p0) = (gFI S 123 a1) then L_X3_hasSameUses_15 N S FU p0 a1 (0 : Int32) else some (0 : Int32)))
set_option maxHeartbeats 4000000 in
theorem jF_X3_hasSameUses {X : jX} (C : jC X cX3_hasSameUses 4 RX3 rm_X3_hasSameUses) {Λ : sLay} {S : sSt} {r : Int32} (E : jE X (some .boolean) rI Λ (r, S)) (p0 : Nat) (tp0 : isK Λ 3 p0) (p1 : Option Nat) (tp1 : okK Λ 3 p1) : J X 4 0 0 0 [(0, vR (some p0)), (1, vR p1)] [] Λ S (F_X3_hasSameUses Λ.2.2 S p0 p1 = some r) := by
  unfold F_X3_hasSameUses
  refine j_aload_n C dX3_hasSameUses_0 0 rfl ?_
  refine j_getI C kK3 f123 kfX3_22 (by decide) tp0 dX3_hasSameUses_1 ?_
  refine j_aload_n C dX3_hasSameUses_4 1 rfl ?_
  refine j_oc tp1 (fun a1 ta1 ea1 => ?_)
  subst ea1
  refine j_getI C kK3 f123 kfX3_22 (by decide) ta1 dX3_hasSameUses_5 ?_
  refine j_icmp_eq C (tgt := 13) dX3_hasSameUses_8 (by decide) ?_ ?_
  · refine j_iconst C (v := (0 : Int32)) dX3_hasSameUses_13 (by decide) ?_
    refine j_istore_n C (L' := [(2, vI (0 : Int32)), (0, vR (some p0)), (1, vR (some a1))]) dX3_hasSameUses_14 (by decide) rfl ?_
    refine j_sub (L' := [(0, vR (some p0)), (1, vR (some a1)), (2, vI (0 : Int32))]) [1, 2, 0] rfl ?_
    exact jL_X3_hasSameUses_15 C E FU p0 tp0 a1 ta1 (0 : Int32)
  · refine j_iconst C (v := (0 : Int32)) dX3_hasSameUses_11 (by decide) ?_
    exact j_zretKP C E (by decide) dX3_hasSameUses_12
theorem c_X3_hasSameUses {l : Launch} {D : va_G} {cy : Nat → ClassId} {Λ : sLay} {S : sSt} (p0 : Nat) (tp0 : isK Λ 3 p0) (p1 : Option Nat) (tp1 : okK Λ 3 p1) {r : Int32} (h : F_X3_hasSameUses Λ.2.2 S p0 p1 = some r) : jM l yX3_hasSameUses (Cond.code yX3_hasSameUses cX3_hasSameUses 4 (some .boolean) :: bigW) rm_X3_hasSameUses D cy Λ S [vR (some p0), vR p1] rI (r, S) := jM_of (by decide +kernel) (Nat.le_of_ble_eq_true rfl) (fun X C E _ _ _ => j_sub [0, 1] rfl (jF_X3_hasSameUses C E p0 tp0 p1 tp1)) h
/-! RemakeNeeds2.Row.length()I -/
abbrev rm_X3_length : Room := { frames := 0, cells := 0, slots := 0, locals := 0 }
def F_X3_length (N : Nat → Nat) (S : sSt) (p0 : Nat) : Option Int32 := some (gFI S 121 p0)
set_option maxHeartbeats 4000000 in
theorem jF_X3_length {X : jX} (C : jC X cX3_length 1 RX3 rm_X3_length) {Λ : sLay} {S : sSt} {r : Int32} (E : jE X (some .int) rI Λ (r, S)) (p0 : Nat) (tp0 : isK Λ 3 p0) : J X 1 0 0 0 [(0, vR (some p0))] [] Λ S (F_X3_length Λ.2.2 S p0 = some r) := by
  unfold F_X3_length
  refine j_aload_n C dX3_length_0 0 rfl ?_
  refine j_getI C kK3 f121 kfX3_15 (by decide) tp0 dX3_length_1 ?_
  exact j_iretP C E dX3_length_4
theorem c_X3_length {l : Launch} {D : va_G} {cy : Nat → ClassId} {Λ : sLay} {S : sSt} (p0 : Nat) (tp0 : isK Λ 3 p0) {r : Int32} (h : F_X3_length Λ.2.2 S p0 = some r) : jM l yX3_length (Cond.code yX3_length cX3_length 1 (some .int) :: bigW) rm_X3_length D cy Λ S [vR (some p0)] rI (r, S) := jM_of (by decide +kernel) (Nat.le_of_ble_eq_true rfl) (fun X C E _ _ _ => j_sub [0] rfl (jF_X3_length C E p0 tp0)) h
/-! RemakeNeeds2.Row.reasonAgainst(LRemakeNeeds2$Row;)I -/
abbrev rm_X3_reasonAgainst : Room := { frames := 3, cells := 0, slots := 0, locals := 68 }
def B_X3_reasonAgainst_119 (N : Nat → Nat) (S : sSt) : Option Int32 := some (5 : Int32)
set_option maxHeartbeats 4000000 in
theorem jB_X3_reasonAgainst_119 {X : jX} (C : jC X cX3_reasonAgainst 2 RX3 rm_X3_reasonAgainst) {Λ : sLay} {S : sSt} {r : Int32} (E : jE X (some .int) rI Λ (r, S)) : ∀ (_ : Unit), J X 2 0 0 119 [] [] Λ S (B_X3_reasonAgainst_119 Λ.2.2 S  = some r) := by
  intro _
  unfold B_X3_reasonAgainst_119
  refine j_iconst C (v := (5 : Int32)) dX3_reasonAgainst_119 (by decide) ?_
  refine j_goto C (tgt := 124) dX3_reasonAgainst_120 (by decide) ?_
  exact j_iretP C E dX3_reasonAgainst_124
def F_X3_reasonAgainst (N : Nat → Nat) (S : sSt) (p0 : Nat) (p1 : Option Nat) : Option Int32 := Option.bind p1 (fun a1 => (if (gFI S 122 p0) = (gFI S 122 a1) then Option.bind (F_X3_isSame N S p0 (some a1) (0 : Int32) (gFI S 122 p0)) (fun v2 => (if v2 = 0 then some (2 : Int32) else Option.bind (F_X3_hasSameUses N S p0 (some a1)) (fun v4 => (if v4 = 0 then some (2 : Int32) else (if (gFI S 124 p0) = (gFI S 124 a1) then Option.bind (F_X3_isSame N S p0 (some a1) (gFI S 122 p0) (gFI S 124 p0)) (fun v6 => (if v6 = 0 then some (3 : Int32) else (if (gFI S 125 p0) = (gFI S 125 a1) then Option.bind (F_X3_isSame N S p0 (some a1) (gFI S 124 p0) (gFI S 125 p0)) (fun v8 => (if v8 = 0 then some (4 : Int32) else (if (gFI S 121 p0) = (gFI S 121 a1) then Option.bind (F_X3_isSame N S p0 (some a1) (gFI S 125 p0) (gFI S 121 p0)) (fun v10 => (if v10 = 0 then B_X3_reasonAgainst_119 N S  else some (0 : Int32))) else B_X3_reasonAgainst_119 N S ))) else some (4 : Int32)))) else some (3 : Int32)))))) else some (2 : Int32)))
set_option maxHeartbeats 4000000 in
theorem jF_X3_reasonAgainst {X : jX} (C : jC X cX3_reasonAgainst 2 RX3 rm_X3_reasonAgainst) {Λ : sLay} {S : sSt} {r : Int32} (E : jE X (some .int) rI Λ (r, S)) (p0 : Nat) (tp0 : isK Λ 3 p0) (p1 : Option Nat) (tp1 : okK Λ 3 p1) : J X 2 0 0 0 [(0, vR (some p0)), (1, vR p1)] [] Λ S (F_X3_reasonAgainst Λ.2.2 S p0 p1 = some r) := by
  unfold F_X3_reasonAgainst
  refine j_aload_n C dX3_reasonAgainst_0 0 rfl ?_
  refine j_getI C kK3 f122 kfX3_19 (by decide) tp0 dX3_reasonAgainst_1 ?_
  refine j_aload_n C dX3_reasonAgainst_4 1 rfl ?_
  refine j_oc tp1 (fun a1 ta1 ea1 => ?_)
  subst ea1
  refine j_getI C kK3 f122 kfX3_19 (by decide) ta1 dX3_reasonAgainst_5 ?_
  refine j_icmp_ne C (tgt := 32) dX3_reasonAgainst_8 (by decide) ?_ ?_
  · refine j_iconst C (v := (2 : Int32)) dX3_reasonAgainst_32 (by decide) ?_
    exact j_iretP C E dX3_reasonAgainst_33
  · refine j_aload_n C dX3_reasonAgainst_11 0 rfl ?_
    refine j_aload_n C dX3_reasonAgainst_12 1 rfl ?_
    refine j_iconst C (v := (0 : Int32)) dX3_reasonAgainst_13 (by decide) ?_
    refine j_aload_n C dX3_reasonAgainst_14 0 rfl ?_
    refine j_getI C kK3 f122 kfX3_19 (by decide) tp0 dX3_reasonAgainst_15 ?_
    refine j_cVIP C [vR (some a1), vI (0 : Int32), vI (gFI S 122 p0)] [] (fun _ e => c_X3_isSame p0 tp0 (some a1) (okS ta1) (0 : Int32) (gFI S 122 p0) e) kYX3_isSame kVX3_isSame kmX3_43 kO3 tp0 rfl rfl ⟨rfl, rfl, by decide, by decide⟩ (Nat.le_of_ble_eq_true rfl) ⟨Nat.zero_le _, Nat.zero_le _⟩ dX3_reasonAgainst_18 (fun v2 => ?_)
    refine j_if_eq C (tgt := 32) dX3_reasonAgainst_21 (by decide) ?_ ?_
    · refine j_iconst C (v := (2 : Int32)) dX3_reasonAgainst_32 (by decide) ?_
      exact j_iretP C E dX3_reasonAgainst_33
    · refine j_aload_n C dX3_reasonAgainst_24 0 rfl ?_
      refine j_aload_n C dX3_reasonAgainst_25 1 rfl ?_
      refine j_cVIP C [vR (some a1)] [] (fun _ e => c_X3_hasSameUses p0 tp0 (some a1) (okS ta1) e) kYX3_hasSameUses kVX3_hasSameUses kmX3_47 kO3 tp0 rfl rfl ⟨rfl, rfl, by decide, by decide⟩ (Nat.le_of_ble_eq_true rfl) ⟨Nat.zero_le _, Nat.zero_le _⟩ dX3_reasonAgainst_26 (fun v4 => ?_)
      refine j_if_ne C (tgt := 34) dX3_reasonAgainst_29 (by decide) ?_ ?_
      · refine j_aload_n C dX3_reasonAgainst_34 0 rfl ?_
        refine j_getI C kK3 f124 kfX3_25 (by decide) tp0 dX3_reasonAgainst_35 ?_
        refine j_aload_n C dX3_reasonAgainst_38 1 rfl ?_
        refine j_getI C kK3 f124 kfX3_25 (by decide) ta1 dX3_reasonAgainst_39 ?_
        refine j_icmp_ne C (tgt := 61) dX3_reasonAgainst_42 (by decide) ?_ ?_
        · refine j_iconst C (v := (3 : Int32)) dX3_reasonAgainst_61 (by decide) ?_
          exact j_iretP C E dX3_reasonAgainst_62
        · refine j_aload_n C dX3_reasonAgainst_45 0 rfl ?_
          refine j_aload_n C dX3_reasonAgainst_46 1 rfl ?_
          refine j_aload_n C dX3_reasonAgainst_47 0 rfl ?_
          refine j_getI C kK3 f122 kfX3_19 (by decide) tp0 dX3_reasonAgainst_48 ?_
          refine j_aload_n C dX3_reasonAgainst_51 0 rfl ?_
          refine j_getI C kK3 f124 kfX3_25 (by decide) tp0 dX3_reasonAgainst_52 ?_
          refine j_cVIP C [vR (some a1), vI (gFI S 122 p0), vI (gFI S 124 p0)] [] (fun _ e => c_X3_isSame p0 tp0 (some a1) (okS ta1) (gFI S 122 p0) (gFI S 124 p0) e) kYX3_isSame kVX3_isSame kmX3_43 kO3 tp0 rfl rfl ⟨rfl, rfl, by decide, by decide⟩ (Nat.le_of_ble_eq_true rfl) ⟨Nat.zero_le _, Nat.zero_le _⟩ dX3_reasonAgainst_55 (fun v6 => ?_)
          refine j_if_ne C (tgt := 63) dX3_reasonAgainst_58 (by decide) ?_ ?_
          · refine j_aload_n C dX3_reasonAgainst_63 0 rfl ?_
            refine j_getI C kK3 f125 kfX3_28 (by decide) tp0 dX3_reasonAgainst_64 ?_
            refine j_aload_n C dX3_reasonAgainst_67 1 rfl ?_
            refine j_getI C kK3 f125 kfX3_28 (by decide) ta1 dX3_reasonAgainst_68 ?_
            refine j_icmp_ne C (tgt := 90) dX3_reasonAgainst_71 (by decide) ?_ ?_
            · refine j_iconst C (v := (4 : Int32)) dX3_reasonAgainst_90 (by decide) ?_
              exact j_iretP C E dX3_reasonAgainst_91
            · refine j_aload_n C dX3_reasonAgainst_74 0 rfl ?_
              refine j_aload_n C dX3_reasonAgainst_75 1 rfl ?_
              refine j_aload_n C dX3_reasonAgainst_76 0 rfl ?_
              refine j_getI C kK3 f124 kfX3_25 (by decide) tp0 dX3_reasonAgainst_77 ?_
              refine j_aload_n C dX3_reasonAgainst_80 0 rfl ?_
              refine j_getI C kK3 f125 kfX3_28 (by decide) tp0 dX3_reasonAgainst_81 ?_
              refine j_cVIP C [vR (some a1), vI (gFI S 124 p0), vI (gFI S 125 p0)] [] (fun _ e => c_X3_isSame p0 tp0 (some a1) (okS ta1) (gFI S 124 p0) (gFI S 125 p0) e) kYX3_isSame kVX3_isSame kmX3_43 kO3 tp0 rfl rfl ⟨rfl, rfl, by decide, by decide⟩ (Nat.le_of_ble_eq_true rfl) ⟨Nat.zero_le _, Nat.zero_le _⟩ dX3_reasonAgainst_84 (fun v8 => ?_)
              refine j_if_ne C (tgt := 92) dX3_reasonAgainst_87 (by decide) ?_ ?_
              · refine j_aload_n C dX3_reasonAgainst_92 0 rfl ?_
                refine j_getI C kK3 f121 kfX3_15 (by decide) tp0 dX3_reasonAgainst_93 ?_
                refine j_aload_n C dX3_reasonAgainst_96 1 rfl ?_
                refine j_getI C kK3 f121 kfX3_15 (by decide) ta1 dX3_reasonAgainst_97 ?_
                refine j_icmp_ne C (tgt := 119) dX3_reasonAgainst_100 (by decide) ?_ ?_
                · refine j_sub (L' := []) [] rfl ?_
                  exact jB_X3_reasonAgainst_119 C E ()
                · refine j_aload_n C dX3_reasonAgainst_103 0 rfl ?_
                  refine j_aload_n C dX3_reasonAgainst_104 1 rfl ?_
                  refine j_aload_n C dX3_reasonAgainst_105 0 rfl ?_
                  refine j_getI C kK3 f125 kfX3_28 (by decide) tp0 dX3_reasonAgainst_106 ?_
                  refine j_aload_n C dX3_reasonAgainst_109 0 rfl ?_
                  refine j_getI C kK3 f121 kfX3_15 (by decide) tp0 dX3_reasonAgainst_110 ?_
                  refine j_cVIP C [vR (some a1), vI (gFI S 125 p0), vI (gFI S 121 p0)] [] (fun _ e => c_X3_isSame p0 tp0 (some a1) (okS ta1) (gFI S 125 p0) (gFI S 121 p0) e) kYX3_isSame kVX3_isSame kmX3_43 kO3 tp0 rfl rfl ⟨rfl, rfl, by decide, by decide⟩ (Nat.le_of_ble_eq_true rfl) ⟨Nat.zero_le _, Nat.zero_le _⟩ dX3_reasonAgainst_113 (fun v10 => ?_)
                  refine j_if_ne C (tgt := 123) dX3_reasonAgainst_116 (by decide) ?_ ?_
                  · refine j_iconst C (v := (0 : Int32)) dX3_reasonAgainst_123 (by decide) ?_
                    exact j_iretP C E dX3_reasonAgainst_124
                  · refine j_sub (L' := []) [] rfl ?_
                    exact jB_X3_reasonAgainst_119 C E ()
              · refine j_iconst C (v := (4 : Int32)) dX3_reasonAgainst_90 (by decide) ?_
                exact j_iretP C E dX3_reasonAgainst_91
          · refine j_iconst C (v := (3 : Int32)) dX3_reasonAgainst_61 (by decide) ?_
            exact j_iretP C E dX3_reasonAgainst_62
      · refine j_iconst C (v := (2 : Int32)) dX3_reasonAgainst_32 (by decide) ?_
        exact j_iretP C E dX3_reasonAgainst_33
theorem c_X3_reasonAgainst {l : Launch} {D : va_G} {cy : Nat → ClassId} {Λ : sLay} {S : sSt} (p0 : Nat) (tp0 : isK Λ 3 p0) (p1 : Option Nat) (tp1 : okK Λ 3 p1) {r : Int32} (h : F_X3_reasonAgainst Λ.2.2 S p0 p1 = some r) : jM l yX3_reasonAgainst (Cond.code yX3_reasonAgainst cX3_reasonAgainst 2 (some .int) :: bigW) rm_X3_reasonAgainst D cy Λ S [vR (some p0), vR p1] rI (r, S) := jM_of (by decide +kernel) (Nat.le_of_ble_eq_true rfl) (fun X C E _ _ _ => j_sub [0, 1] rfl (jF_X3_reasonAgainst C E p0 tp0 p1 tp1)) h
/-! RemakeNeeds2.nameOf(I)I -/
abbrev rm_X8_nameOf : Room := { frames := 0, cells := 0, slots := 0, locals := 0 }
def F_X8_nameOf (N : Nat → Nat) (S : sSt) (p0 : Int32) : Option Int32 := some (p0 - p0 / (32 : Int32) * (32 : Int32))
set_option maxHeartbeats 4000000 in
theorem jF_X8_nameOf {X : jX} (C : jC X cX8_nameOf 1 RX8 rm_X8_nameOf) {Λ : sLay} {S : sSt} {r : Int32} (E : jE X (some .int) rI Λ (r, S)) (p0 : Int32) : J X 1 0 0 0 [(0, vI p0)] [] Λ S (F_X8_nameOf Λ.2.2 S p0 = some r) := by
  unfold F_X8_nameOf
  refine j_iload_n C dX8_nameOf_0 0 rfl ?_
  refine j_bipush C (v := (32 : Int32)) dX8_nameOf_1 (by decide) ?_
  refine j_irem C dX8_nameOf_3 (by decide) ?_
  exact j_iretP C E dX8_nameOf_4
theorem c_X8_nameOf {l : Launch} {D : va_G} {cy : Nat → ClassId} {Λ : sLay} {S : sSt} (p0 : Int32) {r : Int32} (h : F_X8_nameOf Λ.2.2 S p0 = some r) : jM l yX8_nameOf (Cond.code yX8_nameOf cX8_nameOf 1 (some .int) :: bigW) rm_X8_nameOf D cy Λ S [vI p0] rI (r, S) := jM_of (by decide +kernel) (Nat.le_of_ble_eq_true rfl) (fun X C E _ _ _ => j_sub [0] rfl (jF_X8_nameOf C E p0)) h
/-! RemakeNeeds2.Rows.writeInts(LRemakeNeeds2$Row;LRemakeNeeds2$Ints;)V -/
abbrev rm_X4_writeInts : Room := { frames := 1, cells := 0, slots := 0, locals := 22 }
def Y_X4_writeInts_11 (N : Nat → Nat) (rec : sSt → Nat → Nat → Int32 → Option sSt) (S : sSt) (p0 : Nat) (p1 : Nat) (p2 : Int32) : Option sSt := Option.bind (F_X1_length N S p1) (fun v7 => (if v7 ≤ p2 then some S else Option.bind (F_X1_at N S p1 p2) (fun v9 => Option.bind (F_X3_append N S p0 (Int32.toInt64 v9)) (fun S12 => rec S12 p0 p1 (p2 + (1 : Int32))))))
set_option maxHeartbeats 4000000 in
theorem jY_X4_writeInts_11 {X : jX} (C : jC X cX4_writeInts 3 RX4 rm_X4_writeInts) {Λ : sLay} {r : sSt} (E : jE X none rV Λ ((), r)) (rec : sSt → Nat → Nat → Int32 → Option sSt) (hrec : ∀ (S : sSt) (p0 : Nat) (tp0 : isK Λ 3 p0) (p1 : Nat) (tp1 : isK Λ 1 p1) (p2 : Int32), J X 3 0 0 11 [(0, vR (some p0)), (1, vR (some p1)), (2, vI p2)] [] Λ S (rec S p0 p1 p2 = some r)) : ∀ (S : sSt) (p0 : Nat) (tp0 : isK Λ 3 p0) (p1 : Nat) (tp1 : isK Λ 1 p1) (p2 : Int32), J X 3 0 0 11 [(0, vR (some p0)), (1, vR (some p1)), (2, vI p2)] [] Λ S (Y_X4_writeInts_11 Λ.2.2 rec S p0 p1 p2 = some r) := by
  intro S p0 tp0 p1 tp1 p2
  unfold Y_X4_writeInts_11
  refine j_iload_n C dX4_writeInts_11 2 rfl ?_
  refine j_aload_n C dX4_writeInts_12 1 rfl ?_
  refine j_cVIP C [] [vI p2] (fun _ e => c_X1_length p1 tp1 e) kYX1_length kVX1_length kmX4_76 kO1 tp1 rfl rfl ⟨rfl, rfl, by decide, by decide⟩ (Nat.le_of_ble_eq_true rfl) ⟨Nat.zero_le _, Nat.zero_le _⟩ dX4_writeInts_13 (fun v7 => ?_)
  refine j_icmp_ge C (tgt := 35) dX4_writeInts_16 (by decide) ?_ ?_
  · exact j_vretP C E dX4_writeInts_35
  · refine j_aload_n C dX4_writeInts_19 0 rfl ?_
    refine j_aload_n C dX4_writeInts_20 1 rfl ?_
    refine j_iload_n C dX4_writeInts_21 2 rfl ?_
    refine j_cVIP C [vI p2] [vR (some p0)] (fun _ e => c_X1_at p1 tp1 p2 e) kYX1_at kVX1_at kmX4_127 kO1 tp1 rfl rfl ⟨rfl, rfl, by decide, by decide⟩ (Nat.le_of_ble_eq_true rfl) ⟨Nat.zero_le _, Nat.zero_le _⟩ dX4_writeInts_22 (fun v9 => ?_)
    refine j_i2l C dX4_writeInts_25 ?_
    refine j_cVVV C [vJ (Int32.toInt64 v9)] [] (fun _ e => c_X3_append p0 tp0 (Int32.toInt64 v9) e) kYX3_append kVX3_append kmX4_50 kO3 tp0 rfl rfl ⟨rfl, rfl, by decide, by decide⟩ (Nat.le_of_ble_eq_true rfl) ⟨Nat.zero_le _, Nat.zero_le _⟩ dX4_writeInts_26 (fun S12 => ?_)
    refine j_iinc C (v := (1 : Int32)) (L' := [(2, vI (p2 + (1 : Int32))), (0, vR (some p0)), (1, vR (some p1))]) dX4_writeInts_29 2 rfl (by decide) (by decide) rfl ?_
    refine j_goto C (tgt := 11) dX4_writeInts_32 (by decide) ?_
    refine j_sub (L' := [(0, vR (some p0)), (1, vR (some p1)), (2, vI (p2 + (1 : Int32)))]) [1, 2, 0] rfl ?_
    exact hrec S12 p0 tp0 p1 tp1 (p2 + (1 : Int32))
def L_X4_writeInts_11 (N : Nat → Nat) (n : Nat) : sSt → Nat → Nat → Int32 → Option sSt := iter (fun _ _ _ _ => none) (Y_X4_writeInts_11 N) n
theorem jL_X4_writeInts_11 {X : jX} (C : jC X cX4_writeInts 3 RX4 rm_X4_writeInts) {Λ : sLay} {r : sSt} (E : jE X none rV Λ ((), r)) : ∀ (n : Nat) (S : sSt) (p0 : Nat) (tp0 : isK Λ 3 p0) (p1 : Nat) (tp1 : isK Λ 1 p1) (p2 : Int32), J X 3 0 0 11 [(0, vR (some p0)), (1, vR (some p1)), (2, vI p2)] [] Λ S (L_X4_writeInts_11 Λ.2.2 n S p0 p1 p2 = some r) := by
  intro n
  induction n with
  | zero => intro S p0 tp0 p1 tp1 p2; exact j_no (fun h => by have h2 : (none : Option sSt) = some r := h; cases h2)
  | succ n ih => intro S p0 tp0 p1 tp1 p2; exact jY_X4_writeInts_11 C E (L_X4_writeInts_11 Λ.2.2 n) ih S p0 tp0 p1 tp1 p2
def F_X4_writeInts (N : Nat → Nat) (S : sSt) (p0 : Option Nat) (p1 : Option Nat) : Option sSt := Option.bind p1 (fun a1 => Option.bind (F_X1_length N S a1) (fun v2 => Option.bind p0 (fun a4 => Option.bind (F_X3_append N S a4 (Int32.toInt64 v2)) (fun S6 => L_X4_writeInts_11 N FU S6 a4 a1 (0 : Int32)))))
set_option maxHeartbeats 4000000 in
theorem jF_X4_writeInts {X : jX} (C : jC X cX4_writeInts 3 RX4 rm_X4_writeInts) {Λ : sLay} {S : sSt} {r : sSt} (E : jE X none rV Λ ((), r)) (p0 : Option Nat) (tp0 : okK Λ 3 p0) (p1 : Option Nat) (tp1 : okK Λ 1 p1) : J X 3 0 0 0 [(0, vR p0), (1, vR p1)] [] Λ S (F_X4_writeInts Λ.2.2 S p0 p1 = some r) := by
  unfold F_X4_writeInts
  refine j_aload_n C dX4_writeInts_0 0 rfl ?_
  refine j_aload_n C dX4_writeInts_1 1 rfl ?_
  refine j_oc tp1 (fun a1 ta1 ea1 => ?_)
  subst ea1
  refine j_cVIP C [] [vR p0] (fun _ e => c_X1_length a1 ta1 e) kYX1_length kVX1_length kmX4_76 kO1 ta1 rfl rfl ⟨rfl, rfl, by decide, by decide⟩ (Nat.le_of_ble_eq_true rfl) ⟨Nat.zero_le _, Nat.zero_le _⟩ dX4_writeInts_2 (fun v2 => ?_)
  refine j_i2l C dX4_writeInts_5 ?_
  refine j_oc tp0 (fun a4 ta4 ea4 => ?_)
  subst ea4
  refine j_cVVV C [vJ (Int32.toInt64 v2)] [] (fun _ e => c_X3_append a4 ta4 (Int32.toInt64 v2) e) kYX3_append kVX3_append kmX4_50 kO3 ta4 rfl rfl ⟨rfl, rfl, by decide, by decide⟩ (Nat.le_of_ble_eq_true rfl) ⟨Nat.zero_le _, Nat.zero_le _⟩ dX4_writeInts_6 (fun S6 => ?_)
  refine j_iconst C (v := (0 : Int32)) dX4_writeInts_9 (by decide) ?_
  refine j_istore_n C (L' := [(2, vI (0 : Int32)), (0, vR (some a4)), (1, vR (some a1))]) dX4_writeInts_10 (by decide) rfl ?_
  refine j_sub (L' := [(0, vR (some a4)), (1, vR (some a1)), (2, vI (0 : Int32))]) [1, 2, 0] rfl ?_
  exact jL_X4_writeInts_11 C E FU S6 a4 ta4 a1 ta1 (0 : Int32)
theorem c_X4_writeInts {l : Launch} {D : va_G} {cy : Nat → ClassId} {Λ : sLay} {S : sSt} (p0 : Option Nat) (tp0 : okK Λ 3 p0) (p1 : Option Nat) (tp1 : okK Λ 1 p1) {r : sSt} (h : F_X4_writeInts Λ.2.2 S p0 p1 = some r) : jM l yX4_writeInts (Cond.code yX4_writeInts cX4_writeInts 3 none :: bigW) rm_X4_writeInts D cy Λ S [vR p0, vR p1] rV ((), r) := jM_of (by decide +kernel) (Nat.le_of_ble_eq_true rfl) (fun X C E _ _ _ => j_sub [0, 1] rfl (jF_X4_writeInts C E p0 tp0 p1 tp1)) h
/-! RemakeNeeds2.Rows.writeThings(LRemakeNeeds2$Row;LRemakeNeeds2$Unit;)V -/
abbrev rm_X4_writeThings : Room := { frames := 2, cells := 0, slots := 0, locals := 44 }
def B_X4_writeThings_85 (N : Nat → Nat) (k11 : sSt → Nat → Nat → Int32 → Option sSt) (S : sSt) (p0 : Nat) (p1 : Nat) (p2 : Int32) : Option sSt := k11 S p0 p1 (p2 + (1 : Int32))
set_option maxHeartbeats 4000000 in
theorem jB_X4_writeThings_85 {X : jX} (C : jC X cX4_writeThings 4 RX4 rm_X4_writeThings) {Λ : sLay} {r : sSt} (E : jE X none rV Λ ((), r)) (k11 : sSt → Nat → Nat → Int32 → Option sSt) (hk11 : ∀ (S : sSt) (p0 : Nat) (tp0 : isK Λ 3 p0) (p1 : Nat) (tp1 : isK Λ 6 p1) (p2 : Int32), J X 4 0 0 11 [(0, vR (some p0)), (1, vR (some p1)), (2, vI p2)] [] Λ S (k11 S p0 p1 p2 = some r)) : ∀ (S : sSt) (p0 : Nat) (tp0 : isK Λ 3 p0) (p1 : Nat) (tp1 : isK Λ 6 p1) (p2 : Int32), J X 4 0 0 85 [(0, vR (some p0)), (1, vR (some p1)), (2, vI p2)] [] Λ S (B_X4_writeThings_85 Λ.2.2 k11 S p0 p1 p2 = some r) := by
  intro S p0 tp0 p1 tp1 p2
  unfold B_X4_writeThings_85
  refine j_iinc C (v := (1 : Int32)) (L' := [(2, vI (p2 + (1 : Int32))), (0, vR (some p0)), (1, vR (some p1))]) dX4_writeThings_85 2 rfl (by decide) (by decide) rfl ?_
  refine j_goto C (tgt := 11) dX4_writeThings_88 (by decide) ?_
  refine j_sub (L' := [(0, vR (some p0)), (1, vR (some p1)), (2, vI (p2 + (1 : Int32)))]) [1, 2, 0] rfl ?_
  exact hk11 S p0 tp0 p1 tp1 (p2 + (1 : Int32))
def B_X4_writeThings_74 (N : Nat → Nat) (k11 : sSt → Nat → Nat → Int32 → Option sSt) (S : sSt) (p0 : Nat) (p1 : Nat) (p2 : Int32) (p3 : Nat) (s0 : Int64) (s1 : Nat) : Option sSt := Option.bind (F_X3_append N S s1 s0) (fun S23 => bnd (gFR S23 201 p3) (fun x24 => Option.bind (F_X4_writeInts N S23 (some p0) x24) (fun S26 => B_X4_writeThings_85 N k11 S26 p0 p1 p2)))
set_option maxHeartbeats 4000000 in
theorem jB_X4_writeThings_74 {X : jX} (C : jC X cX4_writeThings 4 RX4 rm_X4_writeThings) {Λ : sLay} {r : sSt} (E : jE X none rV Λ ((), r)) (k11 : sSt → Nat → Nat → Int32 → Option sSt) (hk11 : ∀ (S : sSt) (p0 : Nat) (tp0 : isK Λ 3 p0) (p1 : Nat) (tp1 : isK Λ 6 p1) (p2 : Int32), J X 4 0 0 11 [(0, vR (some p0)), (1, vR (some p1)), (2, vI p2)] [] Λ S (k11 S p0 p1 p2 = some r)) : ∀ (S : sSt) (p0 : Nat) (tp0 : isK Λ 3 p0) (p1 : Nat) (tp1 : isK Λ 6 p1) (p2 : Int32) (p3 : Nat) (tp3 : isK Λ 5 p3) (s0 : Int64) (s1 : Nat) (ts1 : isK Λ 3 s1), J X 4 0 0 74 [(0, vR (some p0)), (1, vR (some p1)), (2, vI p2), (3, vR (some p3))] [vJ s0, vR (some s1)] Λ S (B_X4_writeThings_74 Λ.2.2 k11 S p0 p1 p2 p3 s0 s1 = some r) := by
  intro S p0 tp0 p1 tp1 p2 p3 tp3 s0 s1 ts1
  unfold B_X4_writeThings_74
  refine j_cVVV C [vJ s0] [] (fun _ e => c_X3_append s1 ts1 s0 e) kYX3_append kVX3_append kmX4_50 kO3 ts1 rfl rfl ⟨rfl, rfl, by decide, by decide⟩ (Nat.le_of_ble_eq_true rfl) ⟨Nat.zero_le _, Nat.zero_le _⟩ dX4_writeThings_74 (fun S23 => ?_)
  refine j_aload_n C dX4_writeThings_77 0 rfl ?_
  refine j_aload_n C dX4_writeThings_78 3 rfl ?_
  refine j_getR C kK5 f201 kfX4_124 (by decide) rfl tp3 dX4_writeThings_79 (fun x24 tx24 => ?_)
  refine j_cSVV C [vR (some p0), vR x24] [] (fun _ e => c_X4_writeInts (some p0) (okS tp0) x24 tx24 e) kYX4_writeInts kSX4_writeInts kmX4_69 rfl rfl ⟨rfl, rfl, by decide, by decide⟩ (Nat.le_of_ble_eq_true rfl) ⟨Nat.zero_le _, Nat.zero_le _⟩ dX4_writeThings_82 (fun S26 => ?_)
  refine j_sub (L' := [(0, vR (some p0)), (1, vR (some p1)), (2, vI p2)]) [0, 1, 2] rfl ?_
  exact jB_X4_writeThings_85 C E k11 hk11 S26 p0 tp0 p1 tp1 p2
def Y_X4_writeThings_11 (N : Nat → Nat) (rec : sSt → Nat → Nat → Int32 → Option sSt) (S : sSt) (p0 : Nat) (p1 : Nat) (p2 : Int32) : Option sSt := Option.bind (F_X6_thingCount N S p1) (fun v7 => (if v7 ≤ p2 then some S else Option.bind (F_X6_thingAt N S p1 p2) (fun v9 => onl v9 (B_X4_writeThings_85 N rec S p0 p1 p2) (fun a11 => Option.bind (F_X8_sortOf N S (gFI S 202 a11)) (fun v12 => Option.bind (F_X3_append N S p0 (Int32.toInt64 v12)) (fun S15 => Option.bind (F_X8_nameOf N S15 (gFI S15 202 a11)) (fun v16 => Option.bind (F_X3_append N S15 p0 (Int32.toInt64 v16)) (fun S19 => Option.bind (F_X3_append N S19 p0 (gFJ S19 203 a11)) (fun S21 => (if (gFI S21 204 a11) = 0 then B_X4_writeThings_74 N rec S21 p0 p1 p2 a11 (0 : Int64) p0 else B_X4_writeThings_74 N rec S21 p0 p1 p2 a11 (1 : Int64) p0))))))))))
set_option maxHeartbeats 4000000 in
theorem jY_X4_writeThings_11 {X : jX} (C : jC X cX4_writeThings 4 RX4 rm_X4_writeThings) {Λ : sLay} {r : sSt} (E : jE X none rV Λ ((), r)) (rec : sSt → Nat → Nat → Int32 → Option sSt) (hrec : ∀ (S : sSt) (p0 : Nat) (tp0 : isK Λ 3 p0) (p1 : Nat) (tp1 : isK Λ 6 p1) (p2 : Int32), J X 4 0 0 11 [(0, vR (some p0)), (1, vR (some p1)), (2, vI p2)] [] Λ S (rec S p0 p1 p2 = some r)) : ∀ (S : sSt) (p0 : Nat) (tp0 : isK Λ 3 p0) (p1 : Nat) (tp1 : isK Λ 6 p1) (p2 : Int32), J X 4 0 0 11 [(0, vR (some p0)), (1, vR (some p1)), (2, vI p2)] [] Λ S (Y_X4_writeThings_11 Λ.2.2 rec S p0 p1 p2 = some r) := by
  intro S p0 tp0 p1 tp1 p2
  unfold Y_X4_writeThings_11
  refine j_iload_n C dX4_writeThings_11 2 rfl ?_
  refine j_aload_n C dX4_writeThings_12 1 rfl ?_
  refine j_cVIP C [] [vI p2] (fun _ e => c_X6_thingCount p1 tp1 e) kYX6_thingCount kVX6_thingCount kmX4_98 kO6 tp1 rfl rfl ⟨rfl, rfl, by decide, by decide⟩ (Nat.le_of_ble_eq_true rfl) ⟨Nat.zero_le _, Nat.zero_le _⟩ dX4_writeThings_13 (fun v7 => ?_)
  refine j_icmp_ge C (tgt := 91) dX4_writeThings_16 (by decide) ?_ ?_
  · exact j_vretP C E dX4_writeThings_91
  · refine j_aload_n C dX4_writeThings_19 1 rfl ?_
    refine j_iload_n C dX4_writeThings_20 2 rfl ?_
    refine j_cVRP C [vI p2] [] (fun _ e => c_X6_thingAt p1 tp1 p2 e) kYX6_thingAt kVX6_thingAt kmX4_101 kO6 tp1 rfl rfl ⟨rfl, rfl, by decide, by decide⟩ (Nat.le_of_ble_eq_true rfl) ⟨Nat.zero_le _, Nat.zero_le _⟩ dX4_writeThings_21 (fun v9 tv9 => ?_)
    refine j_astore_n C (L' := [(3, vR v9), (0, vR (some p0)), (1, vR (some p1)), (2, vI p2)]) dX4_writeThings_24 (by decide) rfl ?_
    refine j_aload_n C dX4_writeThings_25 0 rfl ?_
    refine j_ifnull C (tgt := 85) tv9 dX4_writeThings_26 (by decide) (fun ea11 => ?_) (fun a11 ta11 ea11 => ?_)
    · subst ea11
      refine j_sub (L' := [(0, vR (some p0)), (1, vR (some p1)), (2, vI p2)]) [1, 2, 3] rfl ?_
      exact jB_X4_writeThings_85 C E rec hrec S p0 tp0 p1 tp1 p2
    · subst ea11
      refine j_aload_n C dX4_writeThings_29 1 rfl ?_
      refine j_aload_n C dX4_writeThings_30 0 rfl ?_
      refine j_getI C kK5 f202 kfX4_105 (by decide) ta11 dX4_writeThings_31 ?_
      refine j_cNIP C [vI (gFI S 202 a11)] [vR (some p0)] (fun _ e => c_X8_sortOf (gFI S 202 a11) e) kYX8_sortOf kSX8_sortOf (by decide +kernel : (RX4, 110, yX8_sortOf, "RemakeNeeds2") ∈ nests) rfl rfl ⟨rfl, rfl, by decide, by decide⟩ (Nat.le_of_ble_eq_true rfl) ⟨Nat.zero_le _, Nat.zero_le _⟩ dX4_writeThings_34 (fun v12 => ?_)
      refine j_i2l C dX4_writeThings_37 ?_
      refine j_cVVV C [vJ (Int32.toInt64 v12)] [] (fun _ e => c_X3_append p0 tp0 (Int32.toInt64 v12) e) kYX3_append kVX3_append kmX4_50 kO3 tp0 rfl rfl ⟨rfl, rfl, by decide, by decide⟩ (Nat.le_of_ble_eq_true rfl) ⟨Nat.zero_le _, Nat.zero_le _⟩ dX4_writeThings_38 (fun S15 => ?_)
      refine j_aload_n C dX4_writeThings_41 1 rfl ?_
      refine j_aload_n C dX4_writeThings_42 0 rfl ?_
      refine j_getI C kK5 f202 kfX4_105 (by decide) ta11 dX4_writeThings_43 ?_
      refine j_cNIP C [vI (gFI S15 202 a11)] [vR (some p0)] (fun _ e => c_X8_nameOf (gFI S15 202 a11) e) kYX8_nameOf kSX8_nameOf (by decide +kernel : (RX4, 114, yX8_nameOf, "RemakeNeeds2") ∈ nests) rfl rfl ⟨rfl, rfl, by decide, by decide⟩ (Nat.le_of_ble_eq_true rfl) ⟨Nat.zero_le _, Nat.zero_le _⟩ dX4_writeThings_46 (fun v16 => ?_)
      refine j_i2l C dX4_writeThings_49 ?_
      refine j_cVVV C [vJ (Int32.toInt64 v16)] [] (fun _ e => c_X3_append p0 tp0 (Int32.toInt64 v16) e) kYX3_append kVX3_append kmX4_50 kO3 tp0 rfl rfl ⟨rfl, rfl, by decide, by decide⟩ (Nat.le_of_ble_eq_true rfl) ⟨Nat.zero_le _, Nat.zero_le _⟩ dX4_writeThings_50 (fun S19 => ?_)
      refine j_aload_n C dX4_writeThings_53 1 rfl ?_
      refine j_aload_n C dX4_writeThings_54 0 rfl ?_
      refine j_getJ C kK5 f203 kfX4_117 (by decide) ta11 dX4_writeThings_55 ?_
      refine j_cVVV C [vJ (gFJ S19 203 a11)] [] (fun _ e => c_X3_append p0 tp0 (gFJ S19 203 a11) e) kYX3_append kVX3_append kmX4_50 kO3 tp0 rfl rfl ⟨rfl, rfl, by decide, by decide⟩ (Nat.le_of_ble_eq_true rfl) ⟨Nat.zero_le _, Nat.zero_le _⟩ dX4_writeThings_58 (fun S21 => ?_)
      refine j_aload_n C dX4_writeThings_61 1 rfl ?_
      refine j_aload_n C dX4_writeThings_62 0 rfl ?_
      refine j_getI C kK5 f204 kfX4_120 (by decide) ta11 dX4_writeThings_63 ?_
      refine j_if_eq C (tgt := 73) dX4_writeThings_66 (by decide) ?_ ?_
      · refine j_lconst C (v := (0 : Int64)) dX4_writeThings_73 (by decide) ?_
        refine j_sub (L' := [(0, vR (some p0)), (1, vR (some p1)), (2, vI p2), (3, vR (some a11))]) [1, 2, 3, 0] rfl ?_
        exact jB_X4_writeThings_74 C E rec hrec S21 p0 tp0 p1 tp1 p2 a11 ta11 (0 : Int64) p0 tp0
      · refine j_lconst C (v := (1 : Int64)) dX4_writeThings_69 (by decide) ?_
        refine j_goto C (tgt := 74) dX4_writeThings_70 (by decide) ?_
        refine j_sub (L' := [(0, vR (some p0)), (1, vR (some p1)), (2, vI p2), (3, vR (some a11))]) [1, 2, 3, 0] rfl ?_
        exact jB_X4_writeThings_74 C E rec hrec S21 p0 tp0 p1 tp1 p2 a11 ta11 (1 : Int64) p0 tp0
def L_X4_writeThings_11 (N : Nat → Nat) (n : Nat) : sSt → Nat → Nat → Int32 → Option sSt := iter (fun _ _ _ _ => none) (Y_X4_writeThings_11 N) n
theorem jL_X4_writeThings_11 {X : jX} (C : jC X cX4_writeThings 4 RX4 rm_X4_writeThings) {Λ : sLay} {r : sSt} (E : jE X none rV Λ ((), r)) : ∀ (n : Nat) (S : sSt) (p0 : Nat) (tp0 : isK Λ 3 p0) (p1 : Nat) (tp1 : isK Λ 6 p1) (p2 : Int32), J X 4 0 0 11 [(0, vR (some p0)), (1, vR (some p1)), (2, vI p2)] [] Λ S (L_X4_writeThings_11 Λ.2.2 n S p0 p1 p2 = some r) := by
  intro n
  induction n with
  | zero => intro S p0 tp0 p1 tp1 p2; exact j_no (fun h => by have h2 : (none : Option sSt) = some r := h; cases h2)
  | succ n ih => intro S p0 tp0 p1 tp1 p2; exact jY_X4_writeThings_11 C E (L_X4_writeThings_11 Λ.2.2 n) ih S p0 tp0 p1 tp1 p2
def F_X4_writeThings (N : Nat → Nat) (S : sSt) (p0 : Option Nat) (p1 : Option Nat) : Option sSt := Option.bind p1 (fun a1 => Option.bind (F_X6_thingCount N S a1) (fun v2 => Option.bind p0 (fun a4 => Option.bind (F_X3_append N S a4 (Int32.toInt64 v2)) (fun S6 => L_X4_writeThings_11 N FU S6 a4 a1 (0 : Int32)))))
set_option maxHeartbeats 4000000 in
theorem jF_X4_writeThings {X : jX} (C : jC X cX4_writeThings 4 RX4 rm_X4_writeThings) {Λ : sLay} {S : sSt} {r : sSt} (E : jE X none rV Λ ((), r)) (p0 : Option Nat) (tp0 : okK Λ 3 p0) (p1 : Option Nat) (tp1 : okK Λ 6 p1) : J X 4 0 0 0 [(0, vR p0), (1, vR p1)] [] Λ S (F_X4_writeThings Λ.2.2 S p0 p1 = some r) := by
  unfold F_X4_writeThings
  refine j_aload_n C dX4_writeThings_0 0 rfl ?_
  refine j_aload_n C dX4_writeThings_1 1 rfl ?_
  refine j_oc tp1 (fun a1 ta1 ea1 => ?_)
  subst ea1
  refine j_cVIP C [] [vR p0] (fun _ e => c_X6_thingCount a1 ta1 e) kYX6_thingCount kVX6_thingCount kmX4_98 kO6 ta1 rfl rfl ⟨rfl, rfl, by decide, by decide⟩ (Nat.le_of_ble_eq_true rfl) ⟨Nat.zero_le _, Nat.zero_le _⟩ dX4_writeThings_2 (fun v2 => ?_)
  refine j_i2l C dX4_writeThings_5 ?_
  refine j_oc tp0 (fun a4 ta4 ea4 => ?_)
  subst ea4
  refine j_cVVV C [vJ (Int32.toInt64 v2)] [] (fun _ e => c_X3_append a4 ta4 (Int32.toInt64 v2) e) kYX3_append kVX3_append kmX4_50 kO3 ta4 rfl rfl ⟨rfl, rfl, by decide, by decide⟩ (Nat.le_of_ble_eq_true rfl) ⟨Nat.zero_le _, Nat.zero_le _⟩ dX4_writeThings_6 (fun S6 => ?_)
  refine j_iconst C (v := (0 : Int32)) dX4_writeThings_9 (by decide) ?_
  refine j_istore_n C (L' := [(2, vI (0 : Int32)), (0, vR (some a4)), (1, vR (some a1))]) dX4_writeThings_10 (by decide) rfl ?_
  refine j_sub (L' := [(0, vR (some a4)), (1, vR (some a1)), (2, vI (0 : Int32))]) [1, 2, 0] rfl ?_
  exact jL_X4_writeThings_11 C E FU S6 a4 ta4 a1 ta1 (0 : Int32)
theorem c_X4_writeThings {l : Launch} {D : va_G} {cy : Nat → ClassId} {Λ : sLay} {S : sSt} (p0 : Option Nat) (tp0 : okK Λ 3 p0) (p1 : Option Nat) (tp1 : okK Λ 6 p1) {r : sSt} (h : F_X4_writeThings Λ.2.2 S p0 p1 = some r) : jM l yX4_writeThings (Cond.code yX4_writeThings cX4_writeThings 4 none :: bigW) rm_X4_writeThings D cy Λ S [vR p0, vR p1] rV ((), r) := jM_of (by decide +kernel) (Nat.le_of_ble_eq_true rfl) (fun X C E _ _ _ => j_sub [0, 1] rfl (jF_X4_writeThings C E p0 tp0 p1 tp1)) h
/-! RemakeNeeds2.Rows.writeFound(LRemakeNeeds2$Row;LRemakeNeeds2$Thing;)V -/
abbrev rm_X4_writeFound : Room := { frames := 1, cells := 0, slots := 0, locals := 22 }
def B_X4_writeFound_49 (N : Nat → Nat) (S : sSt) (s0 : Int64) (s1 : Nat) : Option sSt := Option.bind (F_X3_append N S s1 s0) (fun S13 => some S13)
set_option maxHeartbeats 4000000 in
theorem jB_X4_writeFound_49 {X : jX} (C : jC X cX4_writeFound 2 RX4 rm_X4_writeFound) {Λ : sLay} {r : sSt} (E : jE X none rV Λ ((), r)) : ∀ (S : sSt) (s0 : Int64) (s1 : Nat) (ts1 : isK Λ 3 s1), J X 2 0 0 49 [] [vJ s0, vR (some s1)] Λ S (B_X4_writeFound_49 Λ.2.2 S s0 s1 = some r) := by
  intro S s0 s1 ts1
  unfold B_X4_writeFound_49
  refine j_cVVV C [vJ s0] [] (fun _ e => c_X3_append s1 ts1 s0 e) kYX3_append kVX3_append kmX4_50 kO3 ts1 rfl rfl ⟨rfl, rfl, by decide, by decide⟩ (Nat.le_of_ble_eq_true rfl) ⟨Nat.zero_le _, Nat.zero_le _⟩ dX4_writeFound_49 (fun S13 => ?_)
  exact j_vretP C E dX4_writeFound_52
def F_X4_writeFound (N : Nat → Nat) (S : sSt) (p0 : Option Nat) (p1 : Option Nat) : Option sSt := onl p1 (Option.bind p0 (fun a2 => Option.bind (F_X3_append N S a2 (-5 : Int64)) (fun S4 => Option.bind (F_X3_append N S4 a2 (0 : Int64)) (fun S6 => some S6)))) (fun a1 => Option.bind p0 (fun a7 => Option.bind (F_X3_append N S a7 (Int32.toInt64 (gFI S 200 a1))) (fun S9 => Option.bind (F_X8_sortOf N S9 (gFI S9 202 a1)) (fun v10 => (if v10 = (1 : Int32) then B_X4_writeFound_49 N S9 (gFJ S9 206 a1) a7 else B_X4_writeFound_49 N S9 (gFJ S9 203 a1) a7)))))
set_option maxHeartbeats 4000000 in
theorem jF_X4_writeFound {X : jX} (C : jC X cX4_writeFound 2 RX4 rm_X4_writeFound) {Λ : sLay} {S : sSt} {r : sSt} (E : jE X none rV Λ ((), r)) (p0 : Option Nat) (tp0 : okK Λ 3 p0) (p1 : Option Nat) (tp1 : okK Λ 5 p1) : J X 2 0 0 0 [(0, vR p0), (1, vR p1)] [] Λ S (F_X4_writeFound Λ.2.2 S p0 p1 = some r) := by
  unfold F_X4_writeFound
  refine j_aload_n C dX4_writeFound_0 1 rfl ?_
  refine j_ifnonnull C (tgt := 17) tp1 dX4_writeFound_1 (by decide) (fun ea1 => ?_) (fun a1 ta1 ea1 => ?_)
  · subst ea1
    refine j_aload_n C dX4_writeFound_4 0 rfl ?_
    refine j_ldc2 C kcX4_141 dX4_writeFound_5 ?_
    refine j_oc tp0 (fun a2 ta2 ea2 => ?_)
    subst ea2
    refine j_cVVV C [vJ (-5 : Int64)] [] (fun _ e => c_X3_append a2 ta2 (-5 : Int64) e) kYX3_append kVX3_append kmX4_50 kO3 ta2 rfl rfl ⟨rfl, rfl, by decide, by decide⟩ (Nat.le_of_ble_eq_true rfl) ⟨Nat.zero_le _, Nat.zero_le _⟩ dX4_writeFound_8 (fun S4 => ?_)
    refine j_aload_n C dX4_writeFound_11 0 rfl ?_
    refine j_lconst C (v := (0 : Int64)) dX4_writeFound_12 (by decide) ?_
    refine j_cVVV C [vJ (0 : Int64)] [] (fun _ e => c_X3_append a2 ta2 (0 : Int64) e) kYX3_append kVX3_append kmX4_50 kO3 ta2 rfl rfl ⟨rfl, rfl, by decide, by decide⟩ (Nat.le_of_ble_eq_true rfl) ⟨Nat.zero_le _, Nat.zero_le _⟩ dX4_writeFound_13 (fun S6 => ?_)
    exact j_vretP C E dX4_writeFound_16
  · subst ea1
    refine j_aload_n C dX4_writeFound_17 0 rfl ?_
    refine j_aload_n C dX4_writeFound_18 1 rfl ?_
    refine j_getI C kK5 f200 kfX4_143 (by decide) ta1 dX4_writeFound_19 ?_
    refine j_i2l C dX4_writeFound_22 ?_
    refine j_oc tp0 (fun a7 ta7 ea7 => ?_)
    subst ea7
    refine j_cVVV C [vJ (Int32.toInt64 (gFI S 200 a1))] [] (fun _ e => c_X3_append a7 ta7 (Int32.toInt64 (gFI S 200 a1)) e) kYX3_append kVX3_append kmX4_50 kO3 ta7 rfl rfl ⟨rfl, rfl, by decide, by decide⟩ (Nat.le_of_ble_eq_true rfl) ⟨Nat.zero_le _, Nat.zero_le _⟩ dX4_writeFound_23 (fun S9 => ?_)
    refine j_aload_n C dX4_writeFound_26 0 rfl ?_
    refine j_aload_n C dX4_writeFound_27 1 rfl ?_
    refine j_getI C kK5 f202 kfX4_105 (by decide) ta1 dX4_writeFound_28 ?_
    refine j_cNIP C [vI (gFI S9 202 a1)] [vR (some a7)] (fun _ e => c_X8_sortOf (gFI S9 202 a1) e) kYX8_sortOf kSX8_sortOf (by decide +kernel : (RX4, 110, yX8_sortOf, "RemakeNeeds2") ∈ nests) rfl rfl ⟨rfl, rfl, by decide, by decide⟩ (Nat.le_of_ble_eq_true rfl) ⟨Nat.zero_le _, Nat.zero_le _⟩ dX4_writeFound_31 (fun v10 => ?_)
    refine j_iconst C (v := (1 : Int32)) dX4_writeFound_34 (by decide) ?_
    refine j_icmp_ne C (tgt := 45) dX4_writeFound_35 (by decide) ?_ ?_
    · refine j_aload_n C dX4_writeFound_45 1 rfl ?_
      refine j_getJ C kK5 f203 kfX4_117 (by decide) ta1 dX4_writeFound_46 ?_
      refine j_sub (L' := []) [] rfl ?_
      exact jB_X4_writeFound_49 C E S9 (gFJ S9 203 a1) a7 ta7
    · refine j_aload_n C dX4_writeFound_38 1 rfl ?_
      refine j_getJ C kK5 f206 kfX4_146 (by decide) ta1 dX4_writeFound_39 ?_
      refine j_goto C (tgt := 49) dX4_writeFound_42 (by decide) ?_
      refine j_sub (L' := []) [] rfl ?_
      exact jB_X4_writeFound_49 C E S9 (gFJ S9 206 a1) a7 ta7
theorem c_X4_writeFound {l : Launch} {D : va_G} {cy : Nat → ClassId} {Λ : sLay} {S : sSt} (p0 : Option Nat) (tp0 : okK Λ 3 p0) (p1 : Option Nat) (tp1 : okK Λ 5 p1) {r : sSt} (h : F_X4_writeFound Λ.2.2 S p0 p1 = some r) : jM l yX4_writeFound (Cond.code yX4_writeFound cX4_writeFound 2 none :: bigW) rm_X4_writeFound D cy Λ S [vR p0, vR p1] rV ((), r) := jM_of (by decide +kernel) (Nat.le_of_ble_eq_true rfl) (fun X C E _ _ _ => j_sub [0, 1] rfl (jF_X4_writeFound C E p0 tp0 p1 tp1)) h
/-! RemakeNeeds2.Rows.writeFinds(LRemakeNeeds2$Row;LRemakeNeeds2$Unit;LRemakeNeeds2$Units;)V -/
abbrev rm_X4_writeFinds : Room := { frames := 2, cells := 0, slots := 0, locals := 48 }
def B_X4_writeFinds_68 (N : Nat → Nat) (k24 : sSt → Nat → Nat → (Option Nat) → (Option Nat) → Int32 → Int32 → Option sSt) (S : sSt) (p0 : Nat) (p1 : Nat) (p2 : Option Nat) (p3 : Nat) (p4 : Int32) (p5 : Int32) (p6 : Int32) : Option sSt := Option.bind p2 (fun a16 => Option.bind (F_X7_lookFrom N S a16 (some p1) p6) (fun v17 => Option.bind (F_X4_writeFound N S (some p0) v17) (fun S20 => k24 S20 p0 p1 (some a16) (some p3) p4 (p5 + (1 : Int32)))))
set_option maxHeartbeats 4000000 in
theorem jB_X4_writeFinds_68 {X : jX} (C : jC X cX4_writeFinds 7 RX4 rm_X4_writeFinds) {Λ : sLay} {r : sSt} (E : jE X none rV Λ ((), r)) (k24 : sSt → Nat → Nat → (Option Nat) → (Option Nat) → Int32 → Int32 → Option sSt) (hk24 : ∀ (S : sSt) (p0 : Nat) (tp0 : isK Λ 3 p0) (p1 : Nat) (tp1 : isK Λ 6 p1) (p2 : Option Nat) (tp2 : okK Λ 7 p2) (p3 : Option Nat) (tp3 : okK Λ 1 p3) (p4 : Int32) (p5 : Int32), J X 7 0 0 24 [(0, vR (some p0)), (1, vR (some p1)), (2, vR p2), (3, vR p3), (4, vI p4), (5, vI p5)] [] Λ S (k24 S p0 p1 p2 p3 p4 p5 = some r)) : ∀ (S : sSt) (p0 : Nat) (tp0 : isK Λ 3 p0) (p1 : Nat) (tp1 : isK Λ 6 p1) (p2 : Option Nat) (tp2 : okK Λ 7 p2) (p3 : Nat) (tp3 : isK Λ 1 p3) (p4 : Int32) (p5 : Int32) (p6 : Int32), J X 7 0 0 68 [(0, vR (some p0)), (1, vR (some p1)), (2, vR p2), (3, vR (some p3)), (4, vI p4), (5, vI p5), (6, vI p6)] [] Λ S (B_X4_writeFinds_68 Λ.2.2 k24 S p0 p1 p2 p3 p4 p5 p6 = some r) := by
  intro S p0 tp0 p1 tp1 p2 tp2 p3 tp3 p4 p5 p6
  unfold B_X4_writeFinds_68
  refine j_aload_n C dX4_writeFinds_68 0 rfl ?_
  refine j_aload_n C dX4_writeFinds_69 2 rfl ?_
  refine j_aload_n C dX4_writeFinds_70 1 rfl ?_
  refine j_iload C dX4_writeFinds_71 6 rfl ?_
  refine j_oc tp2 (fun a16 ta16 ea16 => ?_)
  subst ea16
  refine j_cVRP C [vR (some p1), vI p6] [vR (some p0)] (fun _ e => c_X7_lookFrom a16 ta16 (some p1) (okS tp1) p6 e) kYX7_lookFrom kVX7_lookFrom kmX4_133 kO7 ta16 rfl rfl ⟨rfl, rfl, by decide, by decide⟩ (Nat.le_of_ble_eq_true rfl) ⟨Nat.zero_le _, Nat.zero_le _⟩ dX4_writeFinds_73 (fun v17 tv17 => ?_)
  refine j_cSVV C [vR (some p0), vR v17] [] (fun _ e => c_X4_writeFound (some p0) (okS tp0) v17 tv17 e) kYX4_writeFound kSX4_writeFound kmX4_137 rfl rfl ⟨rfl, rfl, by decide, by decide⟩ (Nat.le_of_ble_eq_true rfl) ⟨Nat.zero_le _, Nat.zero_le _⟩ dX4_writeFinds_76 (fun S20 => ?_)
  refine j_iinc C (v := (1 : Int32)) (L' := [(5, vI (p5 + (1 : Int32))), (0, vR (some p0)), (1, vR (some p1)), (2, vR (some a16)), (3, vR (some p3)), (4, vI p4), (6, vI p6)]) dX4_writeFinds_79 5 rfl (by decide) (by decide) rfl ?_
  refine j_goto C (tgt := 24) dX4_writeFinds_82 (by decide) ?_
  refine j_sub (L' := [(0, vR (some p0)), (1, vR (some p1)), (2, vR (some a16)), (3, vR (some p3)), (4, vI p4), (5, vI (p5 + (1 : Int32)))]) [1, 2, 3, 4, 5, 0] rfl ?_
  exact hk24 S20 p0 tp0 p1 tp1 (some a16) (okS ta16) (some p3) (okS tp3) p4 (p5 + (1 : Int32))
def Y_X4_writeFinds_24 (N : Nat → Nat) (rec : sSt → Nat → Nat → (Option Nat) → (Option Nat) → Int32 → Int32 → Option sSt) (S : sSt) (p0 : Nat) (p1 : Nat) (p2 : Option Nat) (p3 : Option Nat) (p4 : Int32) (p5 : Int32) : Option sSt := Option.bind p3 (fun a11 => Option.bind (F_X1_length N S a11) (fun v12 => (if v12 ≤ p5 then some S else Option.bind (F_X1_at N S a11 p5) (fun v14 => (if p4 ≤ p5 then B_X4_writeFinds_68 N rec S p0 p1 p2 a11 p4 p5 v14 else Option.bind (F_X8_sortOf N S v14) (fun v21 => Option.bind (F_X3_append N S p0 (Int32.toInt64 v21)) (fun S24 => Option.bind (F_X8_nameOf N S24 v14) (fun v25 => Option.bind (F_X3_append N S24 p0 (Int32.toInt64 v25)) (fun S28 => B_X4_writeFinds_68 N rec S28 p0 p1 p2 a11 p4 p5 v14)))))))))
set_option maxHeartbeats 4000000 in
theorem jY_X4_writeFinds_24 {X : jX} (C : jC X cX4_writeFinds 7 RX4 rm_X4_writeFinds) {Λ : sLay} {r : sSt} (E : jE X none rV Λ ((), r)) (rec : sSt → Nat → Nat → (Option Nat) → (Option Nat) → Int32 → Int32 → Option sSt) (hrec : ∀ (S : sSt) (p0 : Nat) (tp0 : isK Λ 3 p0) (p1 : Nat) (tp1 : isK Λ 6 p1) (p2 : Option Nat) (tp2 : okK Λ 7 p2) (p3 : Option Nat) (tp3 : okK Λ 1 p3) (p4 : Int32) (p5 : Int32), J X 7 0 0 24 [(0, vR (some p0)), (1, vR (some p1)), (2, vR p2), (3, vR p3), (4, vI p4), (5, vI p5)] [] Λ S (rec S p0 p1 p2 p3 p4 p5 = some r)) : ∀ (S : sSt) (p0 : Nat) (tp0 : isK Λ 3 p0) (p1 : Nat) (tp1 : isK Λ 6 p1) (p2 : Option Nat) (tp2 : okK Λ 7 p2) (p3 : Option Nat) (tp3 : okK Λ 1 p3) (p4 : Int32) (p5 : Int32), J X 7 0 0 24 [(0, vR (some p0)), (1, vR (some p1)), (2, vR p2), (3, vR p3), (4, vI p4), (5, vI p5)] [] Λ S (Y_X4_writeFinds_24 Λ.2.2 rec S p0 p1 p2 p3 p4 p5 = some r) := by
  intro S p0 tp0 p1 tp1 p2 tp2 p3 tp3 p4 p5
  unfold Y_X4_writeFinds_24
  refine j_iload C dX4_writeFinds_24 5 rfl ?_
  refine j_aload_n C dX4_writeFinds_26 3 rfl ?_
  refine j_oc tp3 (fun a11 ta11 ea11 => ?_)
  subst ea11
  refine j_cVIP C [] [vI p5] (fun _ e => c_X1_length a11 ta11 e) kYX1_length kVX1_length kmX4_76 kO1 ta11 rfl rfl ⟨rfl, rfl, by decide, by decide⟩ (Nat.le_of_ble_eq_true rfl) ⟨Nat.zero_le _, Nat.zero_le _⟩ dX4_writeFinds_27 (fun v12 => ?_)
  refine j_icmp_ge C (tgt := 85) dX4_writeFinds_30 (by decide) ?_ ?_
  · exact j_vretP C E dX4_writeFinds_85
  · refine j_aload_n C dX4_writeFinds_33 3 rfl ?_
    refine j_iload C dX4_writeFinds_34 5 rfl ?_
    refine j_cVIP C [vI p5] [] (fun _ e => c_X1_at a11 ta11 p5 e) kYX1_at kVX1_at kmX4_127 kO1 ta11 rfl rfl ⟨rfl, rfl, by decide, by decide⟩ (Nat.le_of_ble_eq_true rfl) ⟨Nat.zero_le _, Nat.zero_le _⟩ dX4_writeFinds_36 (fun v14 => ?_)
    refine j_istore C (L' := [(6, vI v14), (0, vR (some p0)), (1, vR (some p1)), (2, vR p2), (3, vR (some a11)), (4, vI p4), (5, vI p5)]) dX4_writeFinds_39 (by decide) rfl ?_
    refine j_iload C dX4_writeFinds_41 6 rfl ?_
    refine j_iload C dX4_writeFinds_43 5 rfl ?_
    refine j_icmp_ge C (tgt := 68) dX4_writeFinds_45 (by decide) ?_ ?_
    · refine j_sub (L' := [(0, vR (some p0)), (1, vR (some p1)), (2, vR p2), (3, vR (some a11)), (4, vI p4), (5, vI p5), (6, vI v14)]) [1, 2, 3, 4, 5, 6, 0] rfl ?_
      exact jB_X4_writeFinds_68 C E rec hrec S p0 tp0 p1 tp1 p2 tp2 a11 ta11 p4 p5 v14
    · refine j_aload_n C dX4_writeFinds_48 1 rfl ?_
      refine j_iload C dX4_writeFinds_49 0 rfl ?_
      refine j_cNIP C [vI v14] [vR (some p0)] (fun _ e => c_X8_sortOf v14 e) kYX8_sortOf kSX8_sortOf (by decide +kernel : (RX4, 110, yX8_sortOf, "RemakeNeeds2") ∈ nests) rfl rfl ⟨rfl, rfl, by decide, by decide⟩ (Nat.le_of_ble_eq_true rfl) ⟨Nat.zero_le _, Nat.zero_le _⟩ dX4_writeFinds_51 (fun v21 => ?_)
      refine j_i2l C dX4_writeFinds_54 ?_
      refine j_cVVV C [vJ (Int32.toInt64 v21)] [] (fun _ e => c_X3_append p0 tp0 (Int32.toInt64 v21) e) kYX3_append kVX3_append kmX4_50 kO3 tp0 rfl rfl ⟨rfl, rfl, by decide, by decide⟩ (Nat.le_of_ble_eq_true rfl) ⟨Nat.zero_le _, Nat.zero_le _⟩ dX4_writeFinds_55 (fun S24 => ?_)
      refine j_aload_n C dX4_writeFinds_58 1 rfl ?_
      refine j_iload C dX4_writeFinds_59 0 rfl ?_
      refine j_cNIP C [vI v14] [vR (some p0)] (fun _ e => c_X8_nameOf v14 e) kYX8_nameOf kSX8_nameOf (by decide +kernel : (RX4, 114, yX8_nameOf, "RemakeNeeds2") ∈ nests) rfl rfl ⟨rfl, rfl, by decide, by decide⟩ (Nat.le_of_ble_eq_true rfl) ⟨Nat.zero_le _, Nat.zero_le _⟩ dX4_writeFinds_61 (fun v25 => ?_)
      refine j_i2l C dX4_writeFinds_64 ?_
      refine j_cVVV C [vJ (Int32.toInt64 v25)] [] (fun _ e => c_X3_append p0 tp0 (Int32.toInt64 v25) e) kYX3_append kVX3_append kmX4_50 kO3 tp0 rfl rfl ⟨rfl, rfl, by decide, by decide⟩ (Nat.le_of_ble_eq_true rfl) ⟨Nat.zero_le _, Nat.zero_le _⟩ dX4_writeFinds_65 (fun S28 => ?_)
      refine j_sub (L' := [(0, vR (some p0)), (1, vR (some p1)), (2, vR p2), (3, vR (some a11)), (4, vI p4), (5, vI p5), (6, vI v14)]) [1, 2, 3, 4, 5, 6, 0] rfl ?_
      exact jB_X4_writeFinds_68 C E rec hrec S28 p0 tp0 p1 tp1 p2 tp2 a11 ta11 p4 p5 v14
def L_X4_writeFinds_24 (N : Nat → Nat) (n : Nat) : sSt → Nat → Nat → (Option Nat) → (Option Nat) → Int32 → Int32 → Option sSt := iter (fun _ _ _ _ _ _ _ => none) (Y_X4_writeFinds_24 N) n
theorem jL_X4_writeFinds_24 {X : jX} (C : jC X cX4_writeFinds 7 RX4 rm_X4_writeFinds) {Λ : sLay} {r : sSt} (E : jE X none rV Λ ((), r)) : ∀ (n : Nat) (S : sSt) (p0 : Nat) (tp0 : isK Λ 3 p0) (p1 : Nat) (tp1 : isK Λ 6 p1) (p2 : Option Nat) (tp2 : okK Λ 7 p2) (p3 : Option Nat) (tp3 : okK Λ 1 p3) (p4 : Int32) (p5 : Int32), J X 7 0 0 24 [(0, vR (some p0)), (1, vR (some p1)), (2, vR p2), (3, vR p3), (4, vI p4), (5, vI p5)] [] Λ S (L_X4_writeFinds_24 Λ.2.2 n S p0 p1 p2 p3 p4 p5 = some r) := by
  intro n
  induction n with
  | zero => intro S p0 tp0 p1 tp1 p2 tp2 p3 tp3 p4 p5; exact j_no (fun h => by have h2 : (none : Option sSt) = some r := h; cases h2)
  | succ n ih => intro S p0 tp0 p1 tp1 p2 tp2 p3 tp3 p4 p5; exact jY_X4_writeFinds_24 C E (L_X4_writeFinds_24 Λ.2.2 n) ih S p0 tp0 p1 tp1 p2 tp2 p3 tp3 p4 p5
def F_X4_writeFinds (N : Nat → Nat) (S : sSt) (p0 : Option Nat) (p1 : Option Nat) (p2 : Option Nat) : Option sSt := Option.bind p1 (fun a1 => obd (F_X6_sought N S a1) (fun v2 S3 => bnd (gFR S3 242 a1) (fun x4 => Option.bind x4 (fun a5 => Option.bind (F_X1_length N S3 a5) (fun v6 => Option.bind p0 (fun a8 => Option.bind (F_X3_append N S3 a8 (Int32.toInt64 v6)) (fun S10 => L_X4_writeFinds_24 N FU S10 a8 a1 p2 v2 v6 (0 : Int32))))))))
set_option maxHeartbeats 4000000 in
theorem jF_X4_writeFinds {X : jX} (C : jC X cX4_writeFinds 7 RX4 rm_X4_writeFinds) {Λ : sLay} {S : sSt} {r : sSt} (E : jE X none rV Λ ((), r)) (p0 : Option Nat) (tp0 : okK Λ 3 p0) (p1 : Option Nat) (tp1 : okK Λ 6 p1) (p2 : Option Nat) (tp2 : okK Λ 7 p2) : J X 7 0 0 0 [(0, vR p0), (1, vR p1), (2, vR p2)] [] Λ S (F_X4_writeFinds Λ.2.2 S p0 p1 p2 = some r) := by
  unfold F_X4_writeFinds
  refine j_aload_n C dX4_writeFinds_0 1 rfl ?_
  refine j_oc tp1 (fun a1 ta1 ea1 => ?_)
  subst ea1
  refine j_cVRG C [] [] (fun _ _ e => c_X6_sought a1 ta1 e) kYX6_sought kVX6_sought kmX4_129 kO6 ta1 rfl rfl ⟨rfl, rfl, by decide, by decide⟩ (Nat.le_of_ble_eq_true rfl) ⟨Nat.zero_le _, Nat.zero_le _⟩ dX4_writeFinds_1 (fun v2 S3 tv2 => ?_)
  refine j_astore_n C (L' := [(3, vR v2), (0, vR p0), (1, vR (some a1)), (2, vR p2)]) dX4_writeFinds_4 (by decide) rfl ?_
  refine j_aload_n C dX4_writeFinds_5 2 rfl ?_
  refine j_getR C kK6 f242 kfX4_73 (by decide) rfl ta1 dX4_writeFinds_6 (fun x4 tx4 => ?_)
  refine j_oc tx4 (fun a5 ta5 ea5 => ?_)
  subst ea5
  refine j_cVIP C [] [] (fun _ e => c_X1_length a5 ta5 e) kYX1_length kVX1_length kmX4_76 kO1 ta5 rfl rfl ⟨rfl, rfl, by decide, by decide⟩ (Nat.le_of_ble_eq_true rfl) ⟨Nat.zero_le _, Nat.zero_le _⟩ dX4_writeFinds_9 (fun v6 => ?_)
  refine j_istore C (L' := [(4, vI v6), (3, vR v2), (0, vR p0), (1, vR (some a1)), (2, vR p2)]) dX4_writeFinds_12 (by decide) rfl ?_
  refine j_aload_n C dX4_writeFinds_14 2 rfl ?_
  refine j_iload C dX4_writeFinds_15 0 rfl ?_
  refine j_i2l C dX4_writeFinds_17 ?_
  refine j_oc tp0 (fun a8 ta8 ea8 => ?_)
  subst ea8
  refine j_cVVV C [vJ (Int32.toInt64 v6)] [] (fun _ e => c_X3_append a8 ta8 (Int32.toInt64 v6) e) kYX3_append kVX3_append kmX4_50 kO3 ta8 rfl rfl ⟨rfl, rfl, by decide, by decide⟩ (Nat.le_of_ble_eq_true rfl) ⟨Nat.zero_le _, Nat.zero_le _⟩ dX4_writeFinds_18 (fun S10 => ?_)
  refine j_iconst C (v := (0 : Int32)) dX4_writeFinds_21 (by decide) ?_
  refine j_istore C (L' := [(5, vI (0 : Int32)), (4, vI v6), (3, vR v2), (0, vR (some a8)), (1, vR (some a1)), (2, vR p2)]) dX4_writeFinds_22 (by decide) rfl ?_
  refine j_sub (L' := [(0, vR (some a8)), (1, vR (some a1)), (2, vR p2), (3, vR v2), (4, vI v6), (5, vI (0 : Int32))]) [3, 4, 5, 2, 1, 0] rfl ?_
  exact jL_X4_writeFinds_24 C E FU S10 a8 ta8 a1 ta1 p2 tp2 v2 tv2 v6 (0 : Int32)
theorem c_X4_writeFinds {l : Launch} {D : va_G} {cy : Nat → ClassId} {Λ : sLay} {S : sSt} (p0 : Option Nat) (tp0 : okK Λ 3 p0) (p1 : Option Nat) (tp1 : okK Λ 6 p1) (p2 : Option Nat) (tp2 : okK Λ 7 p2) {r : sSt} (h : F_X4_writeFinds Λ.2.2 S p0 p1 p2 = some r) : jM l yX4_writeFinds (Cond.code yX4_writeFinds cX4_writeFinds 7 none :: bigW) rm_X4_writeFinds D cy Λ S [vR p0, vR p1, vR p2] rV ((), r) := jM_of (by decide +kernel) (Nat.le_of_ble_eq_true rfl) (fun X C E _ _ _ => j_sub [0, 1, 2] rfl (jF_X4_writeFinds C E p0 tp0 p1 tp1 p2 tp2)) h
/-! RemakeNeeds2.Rows.writeMarks(LRemakeNeeds2$Row;LRemakeNeeds2$Unit;LRemakeNeeds2$Units;)V -/
abbrev rm_X4_writeMarks : Room := { frames := 1, cells := 0, slots := 0, locals := 22 }
def B_X4_writeMarks_118 (N : Nat → Nat) (k18 : sSt → (Option Nat) → Nat → (Option Nat) → Int32 → Option sSt) (S : sSt) (p0 : Option Nat) (p1 : Nat) (p2 : Nat) (p3 : Int32) : Option sSt := k18 S p0 p1 (some p2) (p3 + (1 : Int32))
set_option maxHeartbeats 4000000 in
theorem jB_X4_writeMarks_118 {X : jX} (C : jC X cX4_writeMarks 7 RX4 rm_X4_writeMarks) {Λ : sLay} {r : sSt} (E : jE X none rV Λ ((), r)) (k18 : sSt → (Option Nat) → Nat → (Option Nat) → Int32 → Option sSt) (hk18 : ∀ (S : sSt) (p0 : Option Nat) (tp0 : okK Λ 3 p0) (p1 : Nat) (tp1 : isK Λ 6 p1) (p2 : Option Nat) (tp2 : okK Λ 7 p2) (p3 : Int32), J X 7 0 0 18 [(0, vR p0), (1, vR (some p1)), (2, vR p2), (3, vI p3)] [] Λ S (k18 S p0 p1 p2 p3 = some r)) : ∀ (S : sSt) (p0 : Option Nat) (tp0 : okK Λ 3 p0) (p1 : Nat) (tp1 : isK Λ 6 p1) (p2 : Nat) (tp2 : isK Λ 7 p2) (p3 : Int32), J X 7 0 0 118 [(0, vR p0), (1, vR (some p1)), (2, vR (some p2)), (3, vI p3)] [] Λ S (B_X4_writeMarks_118 Λ.2.2 k18 S p0 p1 p2 p3 = some r) := by
  intro S p0 tp0 p1 tp1 p2 tp2 p3
  unfold B_X4_writeMarks_118
  refine j_iinc C (v := (1 : Int32)) (L' := [(3, vI (p3 + (1 : Int32))), (0, vR p0), (1, vR (some p1)), (2, vR (some p2))]) dX4_writeMarks_118 3 rfl (by decide) (by decide) rfl ?_
  refine j_goto C (tgt := 18) dX4_writeMarks_121 (by decide) ?_
  refine j_sub (L' := [(0, vR p0), (1, vR (some p1)), (2, vR (some p2)), (3, vI (p3 + (1 : Int32)))]) [1, 2, 3, 0] rfl ?_
  exact hk18 S p0 tp0 p1 tp1 (some p2) (okS tp2) (p3 + (1 : Int32))
def B_X4_writeMarks_112 (N : Nat → Nat) (k18 : sSt → (Option Nat) → Nat → (Option Nat) → Int32 → Option sSt) (k43 : sSt → (Option Nat) → Nat → Nat → Int32 → (Option Nat) → Int32 → Option sSt) (S : sSt) (p0 : Option Nat) (p1 : Nat) (p2 : Nat) (p3 : Int32) (p4 : Nat) (p5 : Int32) : Option sSt := k43 S p0 p1 p2 p3 (some p4) (p5 + (1 : Int32))
set_option maxHeartbeats 4000000 in
theorem jB_X4_writeMarks_112 {X : jX} (C : jC X cX4_writeMarks 7 RX4 rm_X4_writeMarks) {Λ : sLay} {r : sSt} (E : jE X none rV Λ ((), r)) (k18 : sSt → (Option Nat) → Nat → (Option Nat) → Int32 → Option sSt) (hk18 : ∀ (S : sSt) (p0 : Option Nat) (tp0 : okK Λ 3 p0) (p1 : Nat) (tp1 : isK Λ 6 p1) (p2 : Option Nat) (tp2 : okK Λ 7 p2) (p3 : Int32), J X 7 0 0 18 [(0, vR p0), (1, vR (some p1)), (2, vR p2), (3, vI p3)] [] Λ S (k18 S p0 p1 p2 p3 = some r)) (k43 : sSt → (Option Nat) → Nat → Nat → Int32 → (Option Nat) → Int32 → Option sSt) (hk43 : ∀ (S : sSt) (p0 : Option Nat) (tp0 : okK Λ 3 p0) (p1 : Nat) (tp1 : isK Λ 6 p1) (p2 : Nat) (tp2 : isK Λ 7 p2) (p3 : Int32) (p4 : Option Nat) (tp4 : okK Λ 6 p4) (p5 : Int32), J X 7 0 0 43 [(0, vR p0), (1, vR (some p1)), (2, vR (some p2)), (3, vI p3), (4, vR p4), (5, vI p5)] [] Λ S (k43 S p0 p1 p2 p3 p4 p5 = some r)) : ∀ (S : sSt) (p0 : Option Nat) (tp0 : okK Λ 3 p0) (p1 : Nat) (tp1 : isK Λ 6 p1) (p2 : Nat) (tp2 : isK Λ 7 p2) (p3 : Int32) (p4 : Nat) (tp4 : isK Λ 6 p4) (p5 : Int32), J X 7 0 0 112 [(0, vR p0), (1, vR (some p1)), (2, vR (some p2)), (3, vI p3), (4, vR (some p4)), (5, vI p5)] [] Λ S (B_X4_writeMarks_112 Λ.2.2 k18 k43 S p0 p1 p2 p3 p4 p5 = some r) := by
  intro S p0 tp0 p1 tp1 p2 tp2 p3 p4 tp4 p5
  unfold B_X4_writeMarks_112
  refine j_iinc C (v := (1 : Int32)) (L' := [(5, vI (p5 + (1 : Int32))), (0, vR p0), (1, vR (some p1)), (2, vR (some p2)), (3, vI p3), (4, vR (some p4))]) dX4_writeMarks_112 5 rfl (by decide) (by decide) rfl ?_
  refine j_goto C (tgt := 43) dX4_writeMarks_115 (by decide) ?_
  refine j_sub (L' := [(0, vR p0), (1, vR (some p1)), (2, vR (some p2)), (3, vI p3), (4, vR (some p4)), (5, vI (p5 + (1 : Int32)))]) [1, 2, 3, 4, 5, 0] rfl ?_
  exact hk43 S p0 tp0 p1 tp1 p2 tp2 p3 (some p4) (okS tp4) (p5 + (1 : Int32))
def Y_X4_writeMarks_43 (N : Nat → Nat) (k18 : sSt → (Option Nat) → Nat → (Option Nat) → Int32 → Option sSt) (rec : sSt → (Option Nat) → Nat → Nat → Int32 → (Option Nat) → Int32 → Option sSt) (S : sSt) (p0 : Option Nat) (p1 : Nat) (p2 : Nat) (p3 : Int32) (p4 : Option Nat) (p5 : Int32) : Option sSt := onl p4 (B_X4_writeMarks_118 N k18 S p0 p1 p2 p3) (fun a8 => Option.bind (F_X6_thingCount N S a8) (fun v9 => (if v9 ≤ p5 then B_X4_writeMarks_118 N k18 S p0 p1 p2 p3 else Option.bind (F_X6_thingAt N S a8 p5) (fun v11 => onl v11 (B_X4_writeMarks_112 N k18 rec S p0 p1 p2 p3 a8 p5) (fun a13 => Option.bind (F_X8_sortOf N S (gFI S 202 a13)) (fun v14 => (if v14 = (2 : Int32) then Option.bind p0 (fun a16 => Option.bind (F_X3_append N S a16 (Int32.toInt64 p3)) (fun S18 => Option.bind (F_X8_nameOf N S18 (gFI S18 202 a13)) (fun v19 => Option.bind (F_X3_append N S18 a16 (Int32.toInt64 v19)) (fun S22 => Option.bind (F_X3_append N S22 a16 (gFJ S22 203 a13)) (fun S24 => B_X4_writeMarks_112 N k18 rec S24 (some a16) p1 p2 p3 a8 p5))))) else B_X4_writeMarks_112 N k18 rec S p0 p1 p2 p3 a8 p5)))))))
set_option maxHeartbeats 4000000 in
theorem jY_X4_writeMarks_43 {X : jX} (C : jC X cX4_writeMarks 7 RX4 rm_X4_writeMarks) {Λ : sLay} {r : sSt} (E : jE X none rV Λ ((), r)) (k18 : sSt → (Option Nat) → Nat → (Option Nat) → Int32 → Option sSt) (hk18 : ∀ (S : sSt) (p0 : Option Nat) (tp0 : okK Λ 3 p0) (p1 : Nat) (tp1 : isK Λ 6 p1) (p2 : Option Nat) (tp2 : okK Λ 7 p2) (p3 : Int32), J X 7 0 0 18 [(0, vR p0), (1, vR (some p1)), (2, vR p2), (3, vI p3)] [] Λ S (k18 S p0 p1 p2 p3 = some r)) (rec : sSt → (Option Nat) → Nat → Nat → Int32 → (Option Nat) → Int32 → Option sSt) (hrec : ∀ (S : sSt) (p0 : Option Nat) (tp0 : okK Λ 3 p0) (p1 : Nat) (tp1 : isK Λ 6 p1) (p2 : Nat) (tp2 : isK Λ 7 p2) (p3 : Int32) (p4 : Option Nat) (tp4 : okK Λ 6 p4) (p5 : Int32), J X 7 0 0 43 [(0, vR p0), (1, vR (some p1)), (2, vR (some p2)), (3, vI p3), (4, vR p4), (5, vI p5)] [] Λ S (rec S p0 p1 p2 p3 p4 p5 = some r)) : ∀ (S : sSt) (p0 : Option Nat) (tp0 : okK Λ 3 p0) (p1 : Nat) (tp1 : isK Λ 6 p1) (p2 : Nat) (tp2 : isK Λ 7 p2) (p3 : Int32) (p4 : Option Nat) (tp4 : okK Λ 6 p4) (p5 : Int32), J X 7 0 0 43 [(0, vR p0), (1, vR (some p1)), (2, vR (some p2)), (3, vI p3), (4, vR p4), (5, vI p5)] [] Λ S (Y_X4_writeMarks_43 Λ.2.2 k18 rec S p0 p1 p2 p3 p4 p5 = some r) := by
  intro S p0 tp0 p1 tp1 p2 tp2 p3 p4 tp4 p5
  unfold Y_X4_writeMarks_43
  refine j_aload C dX4_writeMarks_43 4 rfl ?_
  refine j_ifnull C (tgt := 118) tp4 dX4_writeMarks_45 (by decide) (fun ea8 => ?_) (fun a8 ta8 ea8 => ?_)
  · subst ea8
    refine j_sub (L' := [(0, vR p0), (1, vR (some p1)), (2, vR (some p2)), (3, vI p3)]) [0, 1, 2, 3] rfl ?_
    exact jB_X4_writeMarks_118 C E k18 hk18 S p0 tp0 p1 tp1 p2 tp2 p3
  · subst ea8
    refine j_iload C dX4_writeMarks_48 5 rfl ?_
    refine j_aload C dX4_writeMarks_50 4 rfl ?_
    refine j_cVIP C [] [vI p5] (fun _ e => c_X6_thingCount a8 ta8 e) kYX6_thingCount kVX6_thingCount kmX4_98 kO6 ta8 rfl rfl ⟨rfl, rfl, by decide, by decide⟩ (Nat.le_of_ble_eq_true rfl) ⟨Nat.zero_le _, Nat.zero_le _⟩ dX4_writeMarks_52 (fun v9 => ?_)
    refine j_icmp_ge C (tgt := 118) dX4_writeMarks_55 (by decide) ?_ ?_
    · refine j_sub (L' := [(0, vR p0), (1, vR (some p1)), (2, vR (some p2)), (3, vI p3)]) [0, 1, 2, 3] rfl ?_
      exact jB_X4_writeMarks_118 C E k18 hk18 S p0 tp0 p1 tp1 p2 tp2 p3
    · refine j_aload C dX4_writeMarks_58 4 rfl ?_
      refine j_iload C dX4_writeMarks_60 5 rfl ?_
      refine j_cVRP C [vI p5] [] (fun _ e => c_X6_thingAt a8 ta8 p5 e) kYX6_thingAt kVX6_thingAt kmX4_101 kO6 ta8 rfl rfl ⟨rfl, rfl, by decide, by decide⟩ (Nat.le_of_ble_eq_true rfl) ⟨Nat.zero_le _, Nat.zero_le _⟩ dX4_writeMarks_62 (fun v11 tv11 => ?_)
      refine j_astore C (L' := [(6, vR v11), (0, vR p0), (1, vR (some p1)), (2, vR (some p2)), (3, vI p3), (4, vR (some a8)), (5, vI p5)]) dX4_writeMarks_65 (by decide) rfl ?_
      refine j_aload C dX4_writeMarks_67 0 rfl ?_
      refine j_ifnull C (tgt := 112) tv11 dX4_writeMarks_69 (by decide) (fun ea13 => ?_) (fun a13 ta13 ea13 => ?_)
      · subst ea13
        refine j_sub (L' := [(0, vR p0), (1, vR (some p1)), (2, vR (some p2)), (3, vI p3), (4, vR (some a8)), (5, vI p5)]) [1, 2, 3, 4, 5, 6] rfl ?_
        exact jB_X4_writeMarks_112 C E k18 hk18 rec hrec S p0 tp0 p1 tp1 p2 tp2 p3 a8 ta8 p5
      · subst ea13
        refine j_aload C dX4_writeMarks_72 0 rfl ?_
        refine j_getI C kK5 f202 kfX4_105 (by decide) ta13 dX4_writeMarks_74 ?_
        refine j_cNIP C [vI (gFI S 202 a13)] [] (fun _ e => c_X8_sortOf (gFI S 202 a13) e) kYX8_sortOf kSX8_sortOf (by decide +kernel : (RX4, 110, yX8_sortOf, "RemakeNeeds2") ∈ nests) rfl rfl ⟨rfl, rfl, by decide, by decide⟩ (Nat.le_of_ble_eq_true rfl) ⟨Nat.zero_le _, Nat.zero_le _⟩ dX4_writeMarks_77 (fun v14 => ?_)
        refine j_iconst C (v := (2 : Int32)) dX4_writeMarks_80 (by decide) ?_
        refine j_icmp_ne C (tgt := 112) dX4_writeMarks_81 (by decide) ?_ ?_
        · refine j_sub (L' := [(0, vR p0), (1, vR (some p1)), (2, vR (some p2)), (3, vI p3), (4, vR (some a8)), (5, vI p5)]) [1, 2, 3, 4, 5, 6] rfl ?_
          exact jB_X4_writeMarks_112 C E k18 hk18 rec hrec S p0 tp0 p1 tp1 p2 tp2 p3 a8 ta8 p5
        · refine j_aload_n C dX4_writeMarks_84 1 rfl ?_
          refine j_iload_n C dX4_writeMarks_85 4 rfl ?_
          refine j_i2l C dX4_writeMarks_86 ?_
          refine j_oc tp0 (fun a16 ta16 ea16 => ?_)
          subst ea16
          refine j_cVVV C [vJ (Int32.toInt64 p3)] [] (fun _ e => c_X3_append a16 ta16 (Int32.toInt64 p3) e) kYX3_append kVX3_append kmX4_50 kO3 ta16 rfl rfl ⟨rfl, rfl, by decide, by decide⟩ (Nat.le_of_ble_eq_true rfl) ⟨Nat.zero_le _, Nat.zero_le _⟩ dX4_writeMarks_87 (fun S18 => ?_)
          refine j_aload_n C dX4_writeMarks_90 1 rfl ?_
          refine j_aload C dX4_writeMarks_91 0 rfl ?_
          refine j_getI C kK5 f202 kfX4_105 (by decide) ta13 dX4_writeMarks_93 ?_
          refine j_cNIP C [vI (gFI S18 202 a13)] [vR (some a16)] (fun _ e => c_X8_nameOf (gFI S18 202 a13) e) kYX8_nameOf kSX8_nameOf (by decide +kernel : (RX4, 114, yX8_nameOf, "RemakeNeeds2") ∈ nests) rfl rfl ⟨rfl, rfl, by decide, by decide⟩ (Nat.le_of_ble_eq_true rfl) ⟨Nat.zero_le _, Nat.zero_le _⟩ dX4_writeMarks_96 (fun v19 => ?_)
          refine j_i2l C dX4_writeMarks_99 ?_
          refine j_cVVV C [vJ (Int32.toInt64 v19)] [] (fun _ e => c_X3_append a16 ta16 (Int32.toInt64 v19) e) kYX3_append kVX3_append kmX4_50 kO3 ta16 rfl rfl ⟨rfl, rfl, by decide, by decide⟩ (Nat.le_of_ble_eq_true rfl) ⟨Nat.zero_le _, Nat.zero_le _⟩ dX4_writeMarks_100 (fun S22 => ?_)
          refine j_aload_n C dX4_writeMarks_103 1 rfl ?_
          refine j_aload C dX4_writeMarks_104 0 rfl ?_
          refine j_getJ C kK5 f203 kfX4_117 (by decide) ta13 dX4_writeMarks_106 ?_
          refine j_cVVV C [vJ (gFJ S22 203 a13)] [] (fun _ e => c_X3_append a16 ta16 (gFJ S22 203 a13) e) kYX3_append kVX3_append kmX4_50 kO3 ta16 rfl rfl ⟨rfl, rfl, by decide, by decide⟩ (Nat.le_of_ble_eq_true rfl) ⟨Nat.zero_le _, Nat.zero_le _⟩ dX4_writeMarks_109 (fun S24 => ?_)
          refine j_sub (L' := [(0, vR (some a16)), (1, vR (some p1)), (2, vR (some p2)), (3, vI p3), (4, vR (some a8)), (5, vI p5)]) [1, 2, 3, 4, 5, 6] rfl ?_
          exact jB_X4_writeMarks_112 C E k18 hk18 rec hrec S24 (some a16) (okS ta16) p1 tp1 p2 tp2 p3 a8 ta8 p5
def L_X4_writeMarks_43 (N : Nat → Nat) (k18 : sSt → (Option Nat) → Nat → (Option Nat) → Int32 → Option sSt) (n : Nat) : sSt → (Option Nat) → Nat → Nat → Int32 → (Option Nat) → Int32 → Option sSt := iter (fun _ _ _ _ _ _ _ => none) (Y_X4_writeMarks_43 N k18) n
theorem jL_X4_writeMarks_43 {X : jX} (C : jC X cX4_writeMarks 7 RX4 rm_X4_writeMarks) {Λ : sLay} {r : sSt} (E : jE X none rV Λ ((), r)) (k18 : sSt → (Option Nat) → Nat → (Option Nat) → Int32 → Option sSt) (hk18 : ∀ (S : sSt) (p0 : Option Nat) (tp0 : okK Λ 3 p0) (p1 : Nat) (tp1 : isK Λ 6 p1) (p2 : Option Nat) (tp2 : okK Λ 7 p2) (p3 : Int32), J X 7 0 0 18 [(0, vR p0), (1, vR (some p1)), (2, vR p2), (3, vI p3)] [] Λ S (k18 S p0 p1 p2 p3 = some r)) : ∀ (n : Nat) (S : sSt) (p0 : Option Nat) (tp0 : okK Λ 3 p0) (p1 : Nat) (tp1 : isK Λ 6 p1) (p2 : Nat) (tp2 : isK Λ 7 p2) (p3 : Int32) (p4 : Option Nat) (tp4 : okK Λ 6 p4) (p5 : Int32), J X 7 0 0 43 [(0, vR p0), (1, vR (some p1)), (2, vR (some p2)), (3, vI p3), (4, vR p4), (5, vI p5)] [] Λ S (L_X4_writeMarks_43 Λ.2.2 k18 n S p0 p1 p2 p3 p4 p5 = some r) := by
  intro n
  induction n with
  | zero => intro S p0 tp0 p1 tp1 p2 tp2 p3 p4 tp4 p5; exact j_no (fun h => by have h2 : (none : Option sSt) = some r := h; cases h2)
  | succ n ih => intro S p0 tp0 p1 tp1 p2 tp2 p3 p4 tp4 p5; exact jY_X4_writeMarks_43 C E k18 hk18 (L_X4_writeMarks_43 Λ.2.2 k18 n) ih S p0 tp0 p1 tp1 p2 tp2 p3 p4 tp4 p5
def Y_X4_writeMarks_18 (N : Nat → Nat) (rec : sSt → (Option Nat) → Nat → (Option Nat) → Int32 → Option sSt) (S : sSt) (p0 : Option Nat) (p1 : Nat) (p2 : Option Nat) (p3 : Int32) : Option sSt := (if (gFI S 248 p1) = 0 then some S else Option.bind p2 (fun a5 => (if (gFI S 281 a5) ≤ p3 then some S else Option.bind (F_X7_at N S a5 p3) (fun v6 => L_X4_writeMarks_43 N rec FU S p0 p1 a5 p3 v6 (0 : Int32)))))
set_option maxHeartbeats 4000000 in
theorem jY_X4_writeMarks_18 {X : jX} (C : jC X cX4_writeMarks 7 RX4 rm_X4_writeMarks) {Λ : sLay} {r : sSt} (E : jE X none rV Λ ((), r)) (rec : sSt → (Option Nat) → Nat → (Option Nat) → Int32 → Option sSt) (hrec : ∀ (S : sSt) (p0 : Option Nat) (tp0 : okK Λ 3 p0) (p1 : Nat) (tp1 : isK Λ 6 p1) (p2 : Option Nat) (tp2 : okK Λ 7 p2) (p3 : Int32), J X 7 0 0 18 [(0, vR p0), (1, vR (some p1)), (2, vR p2), (3, vI p3)] [] Λ S (rec S p0 p1 p2 p3 = some r)) : ∀ (S : sSt) (p0 : Option Nat) (tp0 : okK Λ 3 p0) (p1 : Nat) (tp1 : isK Λ 6 p1) (p2 : Option Nat) (tp2 : okK Λ 7 p2) (p3 : Int32), J X 7 0 0 18 [(0, vR p0), (1, vR (some p1)), (2, vR p2), (3, vI p3)] [] Λ S (Y_X4_writeMarks_18 Λ.2.2 rec S p0 p1 p2 p3 = some r) := by
  intro S p0 tp0 p1 tp1 p2 tp2 p3
  unfold Y_X4_writeMarks_18
  refine j_aload_n C dX4_writeMarks_18 1 rfl ?_
  refine j_getI C kK6 f248 kfX4_149 (by decide) tp1 dX4_writeMarks_19 ?_
  refine j_if_eq C (tgt := 124) dX4_writeMarks_22 (by decide) ?_ ?_
  · exact j_vretP C E dX4_writeMarks_124
  · refine j_iload_n C dX4_writeMarks_25 3 rfl ?_
    refine j_aload_n C dX4_writeMarks_26 2 rfl ?_
    refine j_oc tp2 (fun a5 ta5 ea5 => ?_)
    subst ea5
    refine j_getI C kK7 f281 kfX4_152 (by decide) ta5 dX4_writeMarks_27 ?_
    refine j_icmp_ge C (tgt := 124) dX4_writeMarks_30 (by decide) ?_ ?_
    · exact j_vretP C E dX4_writeMarks_124
    · refine j_aload_n C dX4_writeMarks_33 2 rfl ?_
      refine j_iload_n C dX4_writeMarks_34 3 rfl ?_
      refine j_cVRP C [vI p3] [] (fun _ e => c_X7_at a5 ta5 p3 e) kYX7_at kVX7_at kmX4_44 kO7 ta5 rfl rfl ⟨rfl, rfl, by decide, by decide⟩ (Nat.le_of_ble_eq_true rfl) ⟨Nat.zero_le _, Nat.zero_le _⟩ dX4_writeMarks_35 (fun v6 tv6 => ?_)
      refine j_astore C (L' := [(4, vR v6), (0, vR p0), (1, vR (some p1)), (2, vR (some a5)), (3, vI p3)]) dX4_writeMarks_38 (by decide) rfl ?_
      refine j_iconst C (v := (0 : Int32)) dX4_writeMarks_40 (by decide) ?_
      refine j_istore C (L' := [(5, vI (0 : Int32)), (4, vR v6), (0, vR p0), (1, vR (some p1)), (2, vR (some a5)), (3, vI p3)]) dX4_writeMarks_41 (by decide) rfl ?_
      refine j_sub (L' := [(0, vR p0), (1, vR (some p1)), (2, vR (some a5)), (3, vI p3), (4, vR v6), (5, vI (0 : Int32))]) [2, 3, 4, 5, 1, 0] rfl ?_
      exact jL_X4_writeMarks_43 C E rec hrec FU S p0 tp0 p1 tp1 a5 ta5 p3 v6 tv6 (0 : Int32)
def L_X4_writeMarks_18 (N : Nat → Nat) (n : Nat) : sSt → (Option Nat) → Nat → (Option Nat) → Int32 → Option sSt := iter (fun _ _ _ _ _ => none) (Y_X4_writeMarks_18 N) n
theorem jL_X4_writeMarks_18 {X : jX} (C : jC X cX4_writeMarks 7 RX4 rm_X4_writeMarks) {Λ : sLay} {r : sSt} (E : jE X none rV Λ ((), r)) : ∀ (n : Nat) (S : sSt) (p0 : Option Nat) (tp0 : okK Λ 3 p0) (p1 : Nat) (tp1 : isK Λ 6 p1) (p2 : Option Nat) (tp2 : okK Λ 7 p2) (p3 : Int32), J X 7 0 0 18 [(0, vR p0), (1, vR (some p1)), (2, vR p2), (3, vI p3)] [] Λ S (L_X4_writeMarks_18 Λ.2.2 n S p0 p1 p2 p3 = some r) := by
  intro n
  induction n with
  | zero => intro S p0 tp0 p1 tp1 p2 tp2 p3; exact j_no (fun h => by have h2 : (none : Option sSt) = some r := h; cases h2)
  | succ n ih => intro S p0 tp0 p1 tp1 p2 tp2 p3; exact jY_X4_writeMarks_18 C E (L_X4_writeMarks_18 Λ.2.2 n) ih S p0 tp0 p1 tp1 p2 tp2 p3
def B_X4_writeMarks_13 (N : Nat → Nat) (S : sSt) (p0 : Option Nat) (p1 : Nat) (p2 : Option Nat) (s0 : Int64) (s1 : Option Nat) : Option sSt := Option.bind s1 (fun a2 => Option.bind (F_X3_append N S a2 s0) (fun S4 => L_X4_writeMarks_18 N FU S4 p0 p1 p2 (0 : Int32)))
set_option maxHeartbeats 4000000 in
theorem jB_X4_writeMarks_13 {X : jX} (C : jC X cX4_writeMarks 7 RX4 rm_X4_writeMarks) {Λ : sLay} {r : sSt} (E : jE X none rV Λ ((), r)) : ∀ (S : sSt) (p0 : Option Nat) (tp0 : okK Λ 3 p0) (p1 : Nat) (tp1 : isK Λ 6 p1) (p2 : Option Nat) (tp2 : okK Λ 7 p2) (s0 : Int64) (s1 : Option Nat) (ts1 : okK Λ 3 s1), J X 7 0 0 13 [(0, vR p0), (1, vR (some p1)), (2, vR p2)] [vJ s0, vR s1] Λ S (B_X4_writeMarks_13 Λ.2.2 S p0 p1 p2 s0 s1 = some r) := by
  intro S p0 tp0 p1 tp1 p2 tp2 s0 s1 ts1
  unfold B_X4_writeMarks_13
  refine j_oc ts1 (fun a2 ta2 ea2 => ?_)
  subst ea2
  refine j_cVVV C [vJ s0] [] (fun _ e => c_X3_append a2 ta2 s0 e) kYX3_append kVX3_append kmX4_50 kO3 ta2 rfl rfl ⟨rfl, rfl, by decide, by decide⟩ (Nat.le_of_ble_eq_true rfl) ⟨Nat.zero_le _, Nat.zero_le _⟩ dX4_writeMarks_13 (fun S4 => ?_)
  refine j_iconst C (v := (0 : Int32)) dX4_writeMarks_16 (by decide) ?_
  refine j_istore_n C (L' := [(3, vI (0 : Int32)), (0, vR p0), (1, vR (some p1)), (2, vR p2)]) dX4_writeMarks_17 (by decide) rfl ?_
  refine j_sub (L' := [(0, vR p0), (1, vR (some p1)), (2, vR p2), (3, vI (0 : Int32))]) [1, 2, 3, 0] rfl ?_
  exact jL_X4_writeMarks_18 C E FU S4 p0 tp0 p1 tp1 p2 tp2 (0 : Int32)
def F_X4_writeMarks (N : Nat → Nat) (S : sSt) (p0 : Option Nat) (p1 : Option Nat) (p2 : Option Nat) : Option sSt := Option.bind p1 (fun a1 => (if (gFI S 248 a1) = 0 then B_X4_writeMarks_13 N S p0 a1 p2 (0 : Int64) p0 else B_X4_writeMarks_13 N S p0 a1 p2 (1 : Int64) p0))
set_option maxHeartbeats 4000000 in
theorem jF_X4_writeMarks {X : jX} (C : jC X cX4_writeMarks 7 RX4 rm_X4_writeMarks) {Λ : sLay} {S : sSt} {r : sSt} (E : jE X none rV Λ ((), r)) (p0 : Option Nat) (tp0 : okK Λ 3 p0) (p1 : Option Nat) (tp1 : okK Λ 6 p1) (p2 : Option Nat) (tp2 : okK Λ 7 p2) : J X 7 0 0 0 [(0, vR p0), (1, vR p1), (2, vR p2)] [] Λ S (F_X4_writeMarks Λ.2.2 S p0 p1 p2 = some r) := by
  unfold F_X4_writeMarks
  refine j_aload_n C dX4_writeMarks_0 0 rfl ?_
  refine j_aload_n C dX4_writeMarks_1 1 rfl ?_
  refine j_oc tp1 (fun a1 ta1 ea1 => ?_)
  subst ea1
  refine j_getI C kK6 f248 kfX4_149 (by decide) ta1 dX4_writeMarks_2 ?_
  refine j_if_eq C (tgt := 12) dX4_writeMarks_5 (by decide) ?_ ?_
  · refine j_lconst C (v := (0 : Int64)) dX4_writeMarks_12 (by decide) ?_
    exact jB_X4_writeMarks_13 C E S p0 tp0 a1 ta1 p2 tp2 (0 : Int64) p0 tp0
  · refine j_lconst C (v := (1 : Int64)) dX4_writeMarks_8 (by decide) ?_
    refine j_goto C (tgt := 13) dX4_writeMarks_9 (by decide) ?_
    exact jB_X4_writeMarks_13 C E S p0 tp0 a1 ta1 p2 tp2 (1 : Int64) p0 tp0
theorem c_X4_writeMarks {l : Launch} {D : va_G} {cy : Nat → ClassId} {Λ : sLay} {S : sSt} (p0 : Option Nat) (tp0 : okK Λ 3 p0) (p1 : Option Nat) (tp1 : okK Λ 6 p1) (p2 : Option Nat) (tp2 : okK Λ 7 p2) {r : sSt} (h : F_X4_writeMarks Λ.2.2 S p0 p1 p2 = some r) : jM l yX4_writeMarks (Cond.code yX4_writeMarks cX4_writeMarks 7 none :: bigW) rm_X4_writeMarks D cy Λ S [vR p0, vR p1, vR p2] rV ((), r) := jM_of (by decide +kernel) (Nat.le_of_ble_eq_true rfl) (fun X C E _ _ _ => j_sub [0, 1, 2] rfl (jF_X4_writeMarks C E p0 tp0 p1 tp1 p2 tp2)) h
/-! RemakeNeeds2.Rows.writeAllButMaker(LRemakeNeeds2$Row;LRemakeNeeds2$Unit;LRemakeNeeds2$Units;)V -/
abbrev rm_X4_writeAllButMaker : Room := { frames := 3, cells := 0, slots := 0, locals := 74 }
def F_X4_writeAllButMaker (N : Nat → Nat) (S : sSt) (p0 : Option Nat) (p1 : Option Nat) (p2 : Option Nat) : Option sSt := Option.bind p0 (fun a1 => Option.bind (F_X3_empty N S a1) (fun S3 => Option.bind (F_X4_writeThings N S3 (some a1) p1) (fun S5 => Option.bind p1 (fun a6 => bnd (gFR S5 241 a6) (fun x7 => Option.bind (F_X4_writeInts N S5 (some a1) x7) (fun S9 => bnd (gFR S9 242 a6) (fun x10 => Option.bind x10 (fun a11 => Option.bind (F_X1_length N S9 a11) (fun v12 => Option.bind (F_X3_endOwn N S9 a1 v12) (fun S15 => Option.bind (F_X4_writeFinds N S15 (some a1) (some a6) p2) (fun S17 => Option.bind (F_X3_endFinds N S17 a1) (fun S19 => Option.bind (F_X4_writeMarks N S19 (some a1) (some a6) p2) (fun S21 => Option.bind (F_X3_endMarks N S21 a1) (fun S23 => some S23))))))))))))))
set_option maxHeartbeats 4000000 in
theorem jF_X4_writeAllButMaker {X : jX} (C : jC X cX4_writeAllButMaker 3 RX4 rm_X4_writeAllButMaker) {Λ : sLay} {S : sSt} {r : sSt} (E : jE X none rV Λ ((), r)) (p0 : Option Nat) (tp0 : okK Λ 3 p0) (p1 : Option Nat) (tp1 : okK Λ 6 p1) (p2 : Option Nat) (tp2 : okK Λ 7 p2) : J X 3 0 0 0 [(0, vR p0), (1, vR p1), (2, vR p2)] [] Λ S (F_X4_writeAllButMaker Λ.2.2 S p0 p1 p2 = some r) := by
  unfold F_X4_writeAllButMaker
  refine j_aload_n C dX4_writeAllButMaker_0 0 rfl ?_
  refine j_oc tp0 (fun a1 ta1 ea1 => ?_)
  subst ea1
  refine j_cVVV C [] [] (fun _ e => c_X3_empty a1 ta1 e) kYX3_empty kVX3_empty kmX4_58 kO3 ta1 rfl rfl ⟨rfl, rfl, by decide, by decide⟩ (Nat.le_of_ble_eq_true rfl) ⟨Nat.zero_le _, Nat.zero_le _⟩ dX4_writeAllButMaker_1 (fun S3 => ?_)
  refine j_aload_n C dX4_writeAllButMaker_4 0 rfl ?_
  refine j_aload_n C dX4_writeAllButMaker_5 1 rfl ?_
  refine j_cSVV C [vR (some a1), vR p1] [] (fun _ e => c_X4_writeThings (some a1) (okS ta1) p1 tp1 e) kYX4_writeThings kSX4_writeThings kmX4_61 rfl rfl ⟨rfl, rfl, by decide, by decide⟩ (Nat.le_of_ble_eq_true rfl) ⟨Nat.zero_le _, Nat.zero_le _⟩ dX4_writeAllButMaker_6 (fun S5 => ?_)
  refine j_aload_n C dX4_writeAllButMaker_9 0 rfl ?_
  refine j_aload_n C dX4_writeAllButMaker_10 1 rfl ?_
  refine j_oc tp1 (fun a6 ta6 ea6 => ?_)
  subst ea6
  refine j_getR C kK6 f241 kfX4_65 (by decide) rfl ta6 dX4_writeAllButMaker_11 (fun x7 tx7 => ?_)
  refine j_cSVV C [vR (some a1), vR x7] [] (fun _ e => c_X4_writeInts (some a1) (okS ta1) x7 tx7 e) kYX4_writeInts kSX4_writeInts kmX4_69 rfl rfl ⟨rfl, rfl, by decide, by decide⟩ (Nat.le_of_ble_eq_true rfl) ⟨Nat.zero_le _, Nat.zero_le _⟩ dX4_writeAllButMaker_14 (fun S9 => ?_)
  refine j_aload_n C dX4_writeAllButMaker_17 0 rfl ?_
  refine j_aload_n C dX4_writeAllButMaker_18 1 rfl ?_
  refine j_getR C kK6 f242 kfX4_73 (by decide) rfl ta6 dX4_writeAllButMaker_19 (fun x10 tx10 => ?_)
  refine j_oc tx10 (fun a11 ta11 ea11 => ?_)
  subst ea11
  refine j_cVIP C [] [vR (some a1)] (fun _ e => c_X1_length a11 ta11 e) kYX1_length kVX1_length kmX4_76 kO1 ta11 rfl rfl ⟨rfl, rfl, by decide, by decide⟩ (Nat.le_of_ble_eq_true rfl) ⟨Nat.zero_le _, Nat.zero_le _⟩ dX4_writeAllButMaker_22 (fun v12 => ?_)
  refine j_cVVV C [vI v12] [] (fun _ e => c_X3_endOwn a1 ta1 v12 e) kYX3_endOwn kVX3_endOwn kmX4_82 kO3 ta1 rfl rfl ⟨rfl, rfl, by decide, by decide⟩ (Nat.le_of_ble_eq_true rfl) ⟨Nat.zero_le _, Nat.zero_le _⟩ dX4_writeAllButMaker_25 (fun S15 => ?_)
  refine j_aload_n C dX4_writeAllButMaker_28 0 rfl ?_
  refine j_aload_n C dX4_writeAllButMaker_29 1 rfl ?_
  refine j_aload_n C dX4_writeAllButMaker_30 2 rfl ?_
  refine j_cSVV C [vR (some a1), vR (some a6), vR p2] [] (fun _ e => c_X4_writeFinds (some a1) (okS ta1) (some a6) (okS ta6) p2 tp2 e) kYX4_writeFinds kSX4_writeFinds kmX4_86 rfl rfl ⟨rfl, rfl, by decide, by decide⟩ (Nat.le_of_ble_eq_true rfl) ⟨Nat.zero_le _, Nat.zero_le _⟩ dX4_writeAllButMaker_31 (fun S17 => ?_)
  refine j_aload_n C dX4_writeAllButMaker_34 0 rfl ?_
  refine j_cVVV C [] [] (fun _ e => c_X3_endFinds a1 ta1 e) kYX3_endFinds kVX3_endFinds kmX4_89 kO3 ta1 rfl rfl ⟨rfl, rfl, by decide, by decide⟩ (Nat.le_of_ble_eq_true rfl) ⟨Nat.zero_le _, Nat.zero_le _⟩ dX4_writeAllButMaker_35 (fun S19 => ?_)
  refine j_aload_n C dX4_writeAllButMaker_38 0 rfl ?_
  refine j_aload_n C dX4_writeAllButMaker_39 1 rfl ?_
  refine j_aload_n C dX4_writeAllButMaker_40 2 rfl ?_
  refine j_cSVV C [vR (some a1), vR (some a6), vR p2] [] (fun _ e => c_X4_writeMarks (some a1) (okS ta1) (some a6) (okS ta6) p2 tp2 e) kYX4_writeMarks kSX4_writeMarks kmX4_92 rfl rfl ⟨rfl, rfl, by decide, by decide⟩ (Nat.le_of_ble_eq_true rfl) ⟨Nat.zero_le _, Nat.zero_le _⟩ dX4_writeAllButMaker_41 (fun S21 => ?_)
  refine j_aload_n C dX4_writeAllButMaker_44 0 rfl ?_
  refine j_cVVV C [] [] (fun _ e => c_X3_endMarks a1 ta1 e) kYX3_endMarks kVX3_endMarks kmX4_95 kO3 ta1 rfl rfl ⟨rfl, rfl, by decide, by decide⟩ (Nat.le_of_ble_eq_true rfl) ⟨Nat.zero_le _, Nat.zero_le _⟩ dX4_writeAllButMaker_45 (fun S23 => ?_)
  exact j_vretP C E dX4_writeAllButMaker_48
theorem c_X4_writeAllButMaker {l : Launch} {D : va_G} {cy : Nat → ClassId} {Λ : sLay} {S : sSt} (p0 : Option Nat) (tp0 : okK Λ 3 p0) (p1 : Option Nat) (tp1 : okK Λ 6 p1) (p2 : Option Nat) (tp2 : okK Λ 7 p2) {r : sSt} (h : F_X4_writeAllButMaker Λ.2.2 S p0 p1 p2 = some r) : jM l yX4_writeAllButMaker (Cond.code yX4_writeAllButMaker cX4_writeAllButMaker 3 none :: bigW) rm_X4_writeAllButMaker D cy Λ S [vR p0, vR p1, vR p2] rV ((), r) := jM_of (by decide +kernel) (Nat.le_of_ble_eq_true rfl) (fun X C E _ _ _ => j_sub [0, 1, 2] rfl (jF_X4_writeAllButMaker C E p0 tp0 p1 tp1 p2 tp2)) h
/-! RemakeNeeds2.Rows.write(LRemakeNeeds2$Row;LRemakeNeeds2$Unit;LRemakeNeeds2$Units;)V -/
abbrev rm_X4_write : Room := { frames := 4, cells := 0, slots := 0, locals := 96 }
def F_X4_write (N : Nat → Nat) (S : sSt) (p0 : Nat) (p1 : Option Nat) (p2 : Option Nat) (p3 : Option Nat) : Option sSt := Option.bind (F_X4_writeAllButMaker N S p1 p2 p3) (fun S2 => Option.bind p2 (fun a3 => Option.bind p3 (fun a4 => Option.bind (F_X7_at N S2 a4 (gFI S2 249 a3)) (fun v5 => onl v5 (Option.bind p1 (fun a8 => Option.bind (F_X3_append N S2 a8 (0 : Int64)) (fun S10 => some S10))) (fun a7 => bnd (gFR S2 161 p0) (fun x11 => Option.bind (F_X4_writeAllButMaker N S2 x11 (some a7) (some a4)) (fun S13 => bnd (gFR S13 161 p0) (fun x14 => Option.bind x14 (fun a15 => Option.bind (F_X3_append N S13 a15 (0 : Int64)) (fun S17 => Option.bind p1 (fun a18 => Option.bind (F_X3_append N S17 a18 (1 : Int64)) (fun S20 => bnd (gFR S20 161 p0) (fun x21 => Option.bind x21 (fun a22 => Option.bind (F_X3_digest N S20 a22) (fun v23 => Option.bind (F_X3_append N S20 a18 v23) (fun S26 => some S26))))))))))))))))
set_option maxHeartbeats 4000000 in
theorem jF_X4_write {X : jX} (C : jC X cX4_write 5 RX4 rm_X4_write) {Λ : sLay} {S : sSt} {r : sSt} (E : jE X none rV Λ ((), r)) (p0 : Nat) (tp0 : isK Λ 4 p0) (p1 : Option Nat) (tp1 : okK Λ 3 p1) (p2 : Option Nat) (tp2 : okK Λ 6 p2) (p3 : Option Nat) (tp3 : okK Λ 7 p3) : J X 5 0 0 0 [(0, vR (some p0)), (1, vR p1), (2, vR p2), (3, vR p3)] [] Λ S (F_X4_write Λ.2.2 S p0 p1 p2 p3 = some r) := by
  unfold F_X4_write
  refine j_aload_n C dX4_write_0 1 rfl ?_
  refine j_aload_n C dX4_write_1 2 rfl ?_
  refine j_aload_n C dX4_write_2 3 rfl ?_
  refine j_cSVV C [vR p1, vR p2, vR p3] [] (fun _ e => c_X4_writeAllButMaker p1 tp1 p2 tp2 p3 tp3 e) kYX4_writeAllButMaker kSX4_writeAllButMaker kmX4_38 rfl rfl ⟨rfl, rfl, by decide, by decide⟩ (Nat.le_of_ble_eq_true rfl) ⟨Nat.zero_le _, Nat.zero_le _⟩ dX4_write_3 (fun S2 => ?_)
  refine j_aload_n C dX4_write_6 3 rfl ?_
  refine j_aload_n C dX4_write_7 2 rfl ?_
  refine j_oc tp2 (fun a3 ta3 ea3 => ?_)
  subst ea3
  refine j_getI C kK6 f249 kfX4_41 (by decide) ta3 dX4_write_8 ?_
  refine j_oc tp3 (fun a4 ta4 ea4 => ?_)
  subst ea4
  refine j_cVRP C [vI (gFI S2 249 a3)] [] (fun _ e => c_X7_at a4 ta4 (gFI S2 249 a3) e) kYX7_at kVX7_at kmX4_44 kO7 ta4 rfl rfl ⟨rfl, rfl, by decide, by decide⟩ (Nat.le_of_ble_eq_true rfl) ⟨Nat.zero_le _, Nat.zero_le _⟩ dX4_write_11 (fun v5 tv5 => ?_)
  refine j_astore C (L' := [(4, vR v5), (0, vR (some p0)), (1, vR p1), (2, vR (some a3)), (3, vR (some a4))]) dX4_write_14 (by decide) rfl ?_
  refine j_aload C dX4_write_16 0 rfl ?_
  refine j_ifnonnull C (tgt := 27) tv5 dX4_write_18 (by decide) (fun ea7 => ?_) (fun a7 ta7 ea7 => ?_)
  · subst ea7
    refine j_aload_n C dX4_write_21 2 rfl ?_
    refine j_lconst C (v := (0 : Int64)) dX4_write_22 (by decide) ?_
    refine j_oc tp1 (fun a8 ta8 ea8 => ?_)
    subst ea8
    refine j_cVVV C [vJ (0 : Int64)] [] (fun _ e => c_X3_append a8 ta8 (0 : Int64) e) kYX3_append kVX3_append kmX4_50 kO3 ta8 rfl rfl ⟨rfl, rfl, by decide, by decide⟩ (Nat.le_of_ble_eq_true rfl) ⟨Nat.zero_le _, Nat.zero_le _⟩ dX4_write_23 (fun S10 => ?_)
    exact j_vretP C E dX4_write_26
  · subst ea7
    refine j_aload_n C dX4_write_27 1 rfl ?_
    refine j_getR C kK4 f161 kfX4_18 (by decide) rfl tp0 dX4_write_28 (fun x11 tx11 => ?_)
    refine j_aload C dX4_write_31 0 rfl ?_
    refine j_aload_n C dX4_write_33 4 rfl ?_
    refine j_cSVV C [vR x11, vR (some a7), vR (some a4)] [] (fun _ e => c_X4_writeAllButMaker x11 tx11 (some a7) (okS ta7) (some a4) (okS ta4) e) kYX4_writeAllButMaker kSX4_writeAllButMaker kmX4_38 rfl rfl ⟨rfl, rfl, by decide, by decide⟩ (Nat.le_of_ble_eq_true rfl) ⟨Nat.zero_le _, Nat.zero_le _⟩ dX4_write_34 (fun S13 => ?_)
    refine j_aload_n C dX4_write_37 1 rfl ?_
    refine j_getR C kK4 f161 kfX4_18 (by decide) rfl tp0 dX4_write_38 (fun x14 tx14 => ?_)
    refine j_lconst C (v := (0 : Int64)) dX4_write_41 (by decide) ?_
    refine j_oc tx14 (fun a15 ta15 ea15 => ?_)
    subst ea15
    refine j_cVVV C [vJ (0 : Int64)] [] (fun _ e => c_X3_append a15 ta15 (0 : Int64) e) kYX3_append kVX3_append kmX4_50 kO3 ta15 rfl rfl ⟨rfl, rfl, by decide, by decide⟩ (Nat.le_of_ble_eq_true rfl) ⟨Nat.zero_le _, Nat.zero_le _⟩ dX4_write_42 (fun S17 => ?_)
    refine j_aload_n C dX4_write_45 2 rfl ?_
    refine j_lconst C (v := (1 : Int64)) dX4_write_46 (by decide) ?_
    refine j_oc tp1 (fun a18 ta18 ea18 => ?_)
    subst ea18
    refine j_cVVV C [vJ (1 : Int64)] [] (fun _ e => c_X3_append a18 ta18 (1 : Int64) e) kYX3_append kVX3_append kmX4_50 kO3 ta18 rfl rfl ⟨rfl, rfl, by decide, by decide⟩ (Nat.le_of_ble_eq_true rfl) ⟨Nat.zero_le _, Nat.zero_le _⟩ dX4_write_47 (fun S20 => ?_)
    refine j_aload_n C dX4_write_50 2 rfl ?_
    refine j_aload_n C dX4_write_51 1 rfl ?_
    refine j_getR C kK4 f161 kfX4_18 (by decide) rfl tp0 dX4_write_52 (fun x21 tx21 => ?_)
    refine j_oc tx21 (fun a22 ta22 ea22 => ?_)
    subst ea22
    refine j_cVJP C [] [vR (some a18)] (fun _ e => c_X3_digest a22 ta22 e) kYX3_digest kVX3_digest kmX4_54 kO3 ta22 rfl rfl ⟨rfl, rfl, by decide, by decide⟩ (Nat.le_of_ble_eq_true rfl) ⟨Nat.zero_le _, Nat.zero_le _⟩ dX4_write_55 (fun v23 => ?_)
    refine j_cVVV C [vJ v23] [] (fun _ e => c_X3_append a18 ta18 v23 e) kYX3_append kVX3_append kmX4_50 kO3 ta18 rfl rfl ⟨rfl, rfl, by decide, by decide⟩ (Nat.le_of_ble_eq_true rfl) ⟨Nat.zero_le _, Nat.zero_le _⟩ dX4_write_58 (fun S26 => ?_)
    exact j_vretP C E dX4_write_61
theorem c_X4_write {l : Launch} {D : va_G} {cy : Nat → ClassId} {Λ : sLay} {S : sSt} (p0 : Nat) (tp0 : isK Λ 4 p0) (p1 : Option Nat) (tp1 : okK Λ 3 p1) (p2 : Option Nat) (tp2 : okK Λ 6 p2) (p3 : Option Nat) (tp3 : okK Λ 7 p3) {r : sSt} (h : F_X4_write Λ.2.2 S p0 p1 p2 p3 = some r) : jM l yX4_write (Cond.code yX4_write cX4_write 5 none :: bigW) rm_X4_write D cy Λ S [vR (some p0), vR p1, vR p2, vR p3] rV ((), r) := jM_of (by decide +kernel) (Nat.le_of_ble_eq_true rfl) (fun X C E _ _ _ => j_sub [0, 1, 2, 3] rfl (jF_X4_write C E p0 tp0 p1 tp1 p2 tp2 p3 tp3)) h
/-! RemakeNeeds2.Rows.now(LRemakeNeeds2$Unit;LRemakeNeeds2$Units;)LRemakeNeeds2$Row; -/
abbrev rm_X4_now : Room := { frames := 5, cells := 0, slots := 0, locals := 120 }
def F_X4_now (N : Nat → Nat) (S : sSt) (p0 : Nat) (p1 : Option Nat) (p2 : Option Nat) : Option (Option Nat × sSt) := bnd (gFR S 160 p0) (fun x1 => Option.bind (F_X4_write N S p0 x1 p1 p2) (fun S3 => bnd (gFR S3 160 p0) (fun x4 => some (x4, S3))))
set_option maxHeartbeats 4000000 in
theorem jF_X4_now {X : jX} (C : jC X cX4_now 3 RX4 rm_X4_now) {Λ : sLay} {S : sSt} {r : (Option Nat × sSt)} (E : jE X (some (.object "RemakeNeeds2$Row")) (rR 3) Λ r) (p0 : Nat) (tp0 : isK Λ 4 p0) (p1 : Option Nat) (tp1 : okK Λ 6 p1) (p2 : Option Nat) (tp2 : okK Λ 7 p2) : J X 3 0 0 0 [(0, vR (some p0)), (1, vR p1), (2, vR p2)] [] Λ S (F_X4_now Λ.2.2 S p0 p1 p2 = some r) := by
  unfold F_X4_now
  refine j_aload_n C dX4_now_0 0 rfl ?_
  refine j_aload_n C dX4_now_1 0 rfl ?_
  refine j_getR C kK4 f160 kfX4_12 (by decide) rfl tp0 dX4_now_2 (fun x1 tx1 => ?_)
  refine j_aload_n C dX4_now_5 1 rfl ?_
  refine j_aload_n C dX4_now_6 2 rfl ?_
  refine j_cVVV C [vR x1, vR p1, vR p2] [] (fun _ e => c_X4_write p0 tp0 x1 tx1 p1 tp1 p2 tp2 e) kYX4_write kVX4_write kmX4_21 kO4 tp0 rfl rfl ⟨rfl, rfl, by decide, by decide⟩ (Nat.le_of_ble_eq_true rfl) ⟨Nat.zero_le _, Nat.zero_le _⟩ dX4_now_7 (fun S3 => ?_)
  refine j_aload_n C dX4_now_10 0 rfl ?_
  refine j_getR C kK4 f160 kfX4_12 (by decide) rfl tp0 dX4_now_11 (fun x4 tx4 => ?_)
  exact j_aret C E tx4 dX4_now_14
theorem c_X4_now {l : Launch} {D : va_G} {cy : Nat → ClassId} {Λ : sLay} {S : sSt} (p0 : Nat) (tp0 : isK Λ 4 p0) (p1 : Option Nat) (tp1 : okK Λ 6 p1) (p2 : Option Nat) (tp2 : okK Λ 7 p2) {v : Option Nat} {S1 : sSt} (h : F_X4_now Λ.2.2 S p0 p1 p2 = some (v, S1)) : jM l yX4_now (Cond.code yX4_now cX4_now 3 (some (.object "RemakeNeeds2$Row")) :: bigW) rm_X4_now D cy Λ S [vR (some p0), vR p1, vR p2] (rR 3) (v, S1) := jM_of (by decide +kernel) (Nat.le_of_ble_eq_true rfl) (fun X C E _ _ _ => j_sub [0, 1, 2] rfl (jF_X4_now C E p0 tp0 p1 tp1 p2 tp2)) h
/-! RemakeNeeds2.Rows.reasonFor(LRemakeNeeds2$Unit;LRemakeNeeds2$Units;)I -/
abbrev rm_X4_reasonFor : Room := { frames := 5, cells := 0, slots := 0, locals := 120 }
def F_X4_reasonFor (N : Nat → Nat) (S : sSt) (p0 : Nat) (p1 : Option Nat) (p2 : Option Nat) : Option (Int32 × sSt) := Option.bind p1 (fun a1 => (if (gFI S 250 a1) = 0 then some ((1 : Int32), S) else bnd (gFR S 160 p0) (fun x2 => Option.bind (F_X4_write N S p0 x2 (some a1) p2) (fun S4 => bnd (gFR S4 160 p0) (fun x5 => bnd (gFR S4 243 a1) (fun x6 => Option.bind x5 (fun a7 => Option.bind (F_X3_reasonAgainst N S4 a7 x6) (fun v8 => some (v8, S4)))))))))
set_option maxHeartbeats 4000000 in
theorem jF_X4_reasonFor {X : jX} (C : jC X cX4_reasonFor 3 RX4 rm_X4_reasonFor) {Λ : sLay} {S : sSt} {r : (Int32 × sSt)} (E : jE X (some .int) rI Λ r) (p0 : Nat) (tp0 : isK Λ 4 p0) (p1 : Option Nat) (tp1 : okK Λ 6 p1) (p2 : Option Nat) (tp2 : okK Λ 7 p2) : J X 3 0 0 0 [(0, vR (some p0)), (1, vR p1), (2, vR p2)] [] Λ S (F_X4_reasonFor Λ.2.2 S p0 p1 p2 = some r) := by
  unfold F_X4_reasonFor
  refine j_aload_n C dX4_reasonFor_0 1 rfl ?_
  refine j_oc tp1 (fun a1 ta1 ea1 => ?_)
  subst ea1
  refine j_getI C kK6 f250 kfX4_25 (by decide) ta1 dX4_reasonFor_1 ?_
  refine j_if_ne C (tgt := 9) dX4_reasonFor_4 (by decide) ?_ ?_
  · refine j_aload_n C dX4_reasonFor_9 0 rfl ?_
    refine j_aload_n C dX4_reasonFor_10 0 rfl ?_
    refine j_getR C kK4 f160 kfX4_12 (by decide) rfl tp0 dX4_reasonFor_11 (fun x2 tx2 => ?_)
    refine j_aload_n C dX4_reasonFor_14 1 rfl ?_
    refine j_aload_n C dX4_reasonFor_15 2 rfl ?_
    refine j_cVVV C [vR x2, vR (some a1), vR p2] [] (fun _ e => c_X4_write p0 tp0 x2 tx2 (some a1) (okS ta1) p2 tp2 e) kYX4_write kVX4_write kmX4_21 kO4 tp0 rfl rfl ⟨rfl, rfl, by decide, by decide⟩ (Nat.le_of_ble_eq_true rfl) ⟨Nat.zero_le _, Nat.zero_le _⟩ dX4_reasonFor_16 (fun S4 => ?_)
    refine j_aload_n C dX4_reasonFor_19 0 rfl ?_
    refine j_getR C kK4 f160 kfX4_12 (by decide) rfl tp0 dX4_reasonFor_20 (fun x5 tx5 => ?_)
    refine j_aload_n C dX4_reasonFor_23 1 rfl ?_
    refine j_getR C kK6 f243 kfX4_31 (by decide) rfl ta1 dX4_reasonFor_24 (fun x6 tx6 => ?_)
    refine j_oc tx5 (fun a7 ta7 ea7 => ?_)
    subst ea7
    refine j_cVIP C [vR x6] [] (fun _ e => c_X3_reasonAgainst a7 ta7 x6 tx6 e) kYX3_reasonAgainst kVX3_reasonAgainst kmX4_34 kO3 ta7 rfl rfl ⟨rfl, rfl, by decide, by decide⟩ (Nat.le_of_ble_eq_true rfl) ⟨Nat.zero_le _, Nat.zero_le _⟩ dX4_reasonFor_27 (fun v8 => ?_)
    exact j_iret C E dX4_reasonFor_30
  · refine j_iconst C (v := (1 : Int32)) dX4_reasonFor_7 (by decide) ?_
    exact j_iret C E dX4_reasonFor_8
theorem c_X4_reasonFor {l : Launch} {D : va_G} {cy : Nat → ClassId} {Λ : sLay} {S : sSt} (p0 : Nat) (tp0 : isK Λ 4 p0) (p1 : Option Nat) (tp1 : okK Λ 6 p1) (p2 : Option Nat) (tp2 : okK Λ 7 p2) {v : Int32} {S1 : sSt} (h : F_X4_reasonFor Λ.2.2 S p0 p1 p2 = some (v, S1)) : jM l yX4_reasonFor (Cond.code yX4_reasonFor cX4_reasonFor 3 (some .int) :: bigW) rm_X4_reasonFor D cy Λ S [vR (some p0), vR p1, vR p2] rI (v, S1) := jM_of (by decide +kernel) (Nat.le_of_ble_eq_true rfl) (fun X C E _ _ _ => j_sub [0, 1, 2] rfl (jF_X4_reasonFor C E p0 tp0 p1 tp1 p2 tp2)) h
/-! RemakeNeeds2.Unit.isBehind(LRemakeNeeds2$Thing;I)Z -/
abbrev rm_X6_isBehind : Room := { frames := 0, cells := 0, slots := 0, locals := 0 }
def F_X6_isBehind (N : Nat → Nat) (S : sSt) (p0 : Option Nat) (p1 : Int32) : Option Int32 := onl p0 (some (0 : Int32)) (fun a1 => (if (gFI S 202 a1) ≤ p1 then some (0 : Int32) else some (1 : Int32)))
set_option maxHeartbeats 4000000 in
theorem jF_X6_isBehind {X : jX} (C : jC X cX6_isBehind 2 RX6 rm_X6_isBehind) {Λ : sLay} {S : sSt} {r : Int32} (E : jE X (some .boolean) rI Λ (r, S)) (p0 : Option Nat) (tp0 : okK Λ 5 p0) (p1 : Int32) : J X 2 0 0 0 [(0, vR p0), (1, vI p1)] [] Λ S (F_X6_isBehind Λ.2.2 S p0 p1 = some r) := by
  unfold F_X6_isBehind
  refine j_aload_n C dX6_isBehind_0 0 rfl ?_
  refine j_ifnull C (tgt := 16) tp0 dX6_isBehind_1 (by decide) (fun ea1 => ?_) (fun a1 ta1 ea1 => ?_)
  · subst ea1
    refine j_iconst C (v := (0 : Int32)) dX6_isBehind_16 (by decide) ?_
    exact j_zretKP C E (by decide) dX6_isBehind_17
  · subst ea1
    refine j_aload_n C dX6_isBehind_4 0 rfl ?_
    refine j_getI C kK5 f202 kfX6_63 (by decide) ta1 dX6_isBehind_5 ?_
    refine j_iload_n C dX6_isBehind_8 1 rfl ?_
    refine j_icmp_le C (tgt := 16) dX6_isBehind_9 (by decide) ?_ ?_
    · refine j_iconst C (v := (0 : Int32)) dX6_isBehind_16 (by decide) ?_
      exact j_zretKP C E (by decide) dX6_isBehind_17
    · refine j_iconst C (v := (1 : Int32)) dX6_isBehind_12 (by decide) ?_
      refine j_goto C (tgt := 17) dX6_isBehind_13 (by decide) ?_
      exact j_zretKP C E (by decide) dX6_isBehind_17
theorem c_X6_isBehind {l : Launch} {D : va_G} {cy : Nat → ClassId} {Λ : sLay} {S : sSt} (p0 : Option Nat) (tp0 : okK Λ 5 p0) (p1 : Int32) {r : Int32} (h : F_X6_isBehind Λ.2.2 S p0 p1 = some r) : jM l yX6_isBehind (Cond.code yX6_isBehind cX6_isBehind 2 (some .boolean) :: bigW) rm_X6_isBehind D cy Λ S [vR p0, vI p1] rI (r, S) := jM_of (by decide +kernel) (Nat.le_of_ble_eq_true rfl) (fun X C E _ _ _ => j_sub [0, 1] rfl (jF_X6_isBehind C E p0 tp0 p1)) h
/-! RemakeNeeds2.Unit.addThing(I)LRemakeNeeds2$Thing; -/
abbrev rm_X6_addThing : Room := { frames := 1, cells := 0, slots := 0, locals := 21 }
def B_X6_addThing_96 (N : Nat → Nat) (S : sSt) (p0 : Nat) (p1 : Int32) (p2 : Option Nat) (p3 : Int32) : Option (Option Nat × sSt) := bnd (gFR S 244 p0) (fun x10 => Option.bind x10 (fun a11 => Option.bind p2 (fun a12 => gi p3 (N a11) (bnd (sAR S a11 (Int32.toNatClampNeg p3) (some a12)) (fun S13 => bnd (sFI S13 245 p0 ((gFI S13 245 p0) + (1 : Int32))) (fun S14 => bnd (sFI S14 202 a12 p1) (fun S15 => bnd (gFR S15 201 a12) (fun x16 => Option.bind x16 (fun a17 => Option.bind (F_X1_empty N S15 a17) (fun S19 => some ((some a12), S19)))))))))))
set_option maxHeartbeats 4000000 in
theorem jB_X6_addThing_96 {X : jX} (C : jC X cX6_addThing 4 RX6 rm_X6_addThing) {Λ : sLay} {r : (Option Nat × sSt)} (E : jE X (some (.object "RemakeNeeds2$Thing")) (rR 5) Λ r) : ∀ (S : sSt) (p0 : Nat) (tp0 : isK Λ 6 p0) (p1 : Int32) (p2 : Option Nat) (tp2 : okK Λ 5 p2) (p3 : Int32), J X 4 0 0 96 [(0, vR (some p0)), (1, vI p1), (2, vR p2), (3, vI p3)] [] Λ S (B_X6_addThing_96 Λ.2.2 S p0 p1 p2 p3 = some r) := by
  intro S p0 tp0 p1 p2 tp2 p3
  unfold B_X6_addThing_96
  refine j_aload_n C dX6_addThing_96 0 rfl ?_
  refine j_getR C kK6 f244 kfX6_36 (by decide) rfl tp0 dX6_addThing_97 (fun x10 tx10 => ?_)
  refine j_iload_n C dX6_addThing_100 3 rfl ?_
  refine j_aload_n C dX6_addThing_101 2 rfl ?_
  refine j_oc tx10 (fun a11 ta11 ea11 => ?_)
  subst ea11
  refine j_oc tp2 (fun a12 ta12 ea12 => ?_)
  subst ea12
  refine j_aast C 13 ta11 (by decide) rfl ta12 dX6_addThing_102 (fun S13 => ?_)
  refine j_aload_n C dX6_addThing_103 0 rfl ?_
  refine j_dup C dX6_addThing_104 rfl ?_
  refine j_getI C kK6 f245 kfX6_57 (by decide) tp0 dX6_addThing_105 ?_
  refine j_iconst C (v := (1 : Int32)) dX6_addThing_108 (by decide) ?_
  refine j_iadd C dX6_addThing_109 ?_
  refine j_putI C kK6 f245 kfX6_57 (by decide) rfl rfl rfl tp0 dX6_addThing_110 (fun S14 => ?_)
  refine j_aload_n C dX6_addThing_113 2 rfl ?_
  refine j_iload_n C dX6_addThing_114 1 rfl ?_
  refine j_putI C kK5 f202 kfX6_63 (by decide) rfl rfl rfl ta12 dX6_addThing_115 (fun S15 => ?_)
  refine j_aload_n C dX6_addThing_118 2 rfl ?_
  refine j_getR C kK5 f201 kfX6_82 (by decide) rfl ta12 dX6_addThing_119 (fun x16 tx16 => ?_)
  refine j_oc tx16 (fun a17 ta17 ea17 => ?_)
  subst ea17
  refine j_cVVV C [] [] (fun _ e => c_X1_empty a17 ta17 e) kYX1_empty kVX1_empty kmX6_60 kO1 ta17 rfl rfl ⟨rfl, rfl, by decide, by decide⟩ (Nat.le_of_ble_eq_true rfl) ⟨Nat.zero_le _, Nat.zero_le _⟩ dX6_addThing_122 (fun S19 => ?_)
  refine j_aload_n C dX6_addThing_125 2 rfl ?_
  exact j_aret C E (okS ta12) dX6_addThing_126
def Y_X6_addThing_48 (N : Nat → Nat) (rec : sSt → Nat → Int32 → (Option Nat) → Int32 → Option (Option Nat × sSt)) (S : sSt) (p0 : Nat) (p1 : Int32) (p2 : Option Nat) (p3 : Int32) : Option (Option Nat × sSt) := (if p3 ≤ 0 then B_X6_addThing_96 N S p0 p1 p2 p3 else bnd (gFR S 244 p0) (fun x20 => Option.bind x20 (fun a21 => (if (nI (N a21)) ≤ p3 then B_X6_addThing_96 N S p0 p1 p2 p3 else bnd (gFR S 244 p0) (fun x22 => Option.bind x22 (fun a23 => gi (p3 - (1 : Int32)) (N a23) (bnd (gAR S a23 (Int32.toNatClampNeg (p3 - (1 : Int32)))) (fun x24 => Option.bind (F_X6_isBehind N S x24 p1) (fun v25 => (if v25 = 0 then B_X6_addThing_96 N S p0 p1 p2 p3 else bnd (gFR S 244 p0) (fun x27 => bnd (gFR S 244 p0) (fun x28 => Option.bind x28 (fun a29 => gi (p3 - (1 : Int32)) (N a29) (bnd (gAR S a29 (Int32.toNatClampNeg (p3 - (1 : Int32)))) (fun x30 => Option.bind x27 (fun a31 => Option.bind x30 (fun a32 => gi p3 (N a31) (bnd (sAR S a31 (Int32.toNatClampNeg p3) (some a32)) (fun S33 => rec S33 p0 p1 p2 (p3 + (-1 : Int32)))))))))))))))))))))
set_option maxHeartbeats 4000000 in
theorem jY_X6_addThing_48 {X : jX} (C : jC X cX6_addThing 4 RX6 rm_X6_addThing) {Λ : sLay} {r : (Option Nat × sSt)} (E : jE X (some (.object "RemakeNeeds2$Thing")) (rR 5) Λ r) (rec : sSt → Nat → Int32 → (Option Nat) → Int32 → Option (Option Nat × sSt)) (hrec : ∀ (S : sSt) (p0 : Nat) (tp0 : isK Λ 6 p0) (p1 : Int32) (p2 : Option Nat) (tp2 : okK Λ 5 p2) (p3 : Int32), J X 4 0 0 48 [(0, vR (some p0)), (1, vI p1), (2, vR p2), (3, vI p3)] [] Λ S (rec S p0 p1 p2 p3 = some r)) : ∀ (S : sSt) (p0 : Nat) (tp0 : isK Λ 6 p0) (p1 : Int32) (p2 : Option Nat) (tp2 : okK Λ 5 p2) (p3 : Int32), J X 4 0 0 48 [(0, vR (some p0)), (1, vI p1), (2, vR p2), (3, vI p3)] [] Λ S (Y_X6_addThing_48 Λ.2.2 rec S p0 p1 p2 p3 = some r) := by
  intro S p0 tp0 p1 p2 tp2 p3
  unfold Y_X6_addThing_48
  refine j_iload_n C dX6_addThing_48 3 rfl ?_
  refine j_if_le C (tgt := 96) dX6_addThing_49 (by decide) ?_ ?_
  · exact jB_X6_addThing_96 C E S p0 tp0 p1 p2 tp2 p3
  · refine j_iload_n C dX6_addThing_52 3 rfl ?_
    refine j_aload_n C dX6_addThing_53 0 rfl ?_
    refine j_getR C kK6 f244 kfX6_36 (by decide) rfl tp0 dX6_addThing_54 (fun x20 tx20 => ?_)
    refine j_oc tx20 (fun a21 ta21 ea21 => ?_)
    subst ea21
    refine j_alen C ta21 (by decide) dX6_addThing_57 ?_
    refine j_icmp_ge C (tgt := 96) dX6_addThing_58 (by decide) ?_ ?_
    · exact jB_X6_addThing_96 C E S p0 tp0 p1 p2 tp2 p3
    · refine j_aload_n C dX6_addThing_61 0 rfl ?_
      refine j_getR C kK6 f244 kfX6_36 (by decide) rfl tp0 dX6_addThing_62 (fun x22 tx22 => ?_)
      refine j_iload_n C dX6_addThing_65 3 rfl ?_
      refine j_iconst C (v := (1 : Int32)) dX6_addThing_66 (by decide) ?_
      refine j_isub C dX6_addThing_67 ?_
      refine j_oc tx22 (fun a23 ta23 ea23 => ?_)
      subst ea23
      refine j_aald C ta23 (by decide) rfl dX6_addThing_68 (fun x24 tx24 => ?_)
      refine j_iload_n C dX6_addThing_69 1 rfl ?_
      refine j_cSIP C [vR x24, vI p1] [] (fun _ e => c_X6_isBehind x24 tx24 p1 e) kYX6_isBehind kSX6_isBehind kmX6_89 rfl rfl ⟨rfl, rfl, by decide, by decide⟩ (Nat.le_of_ble_eq_true rfl) ⟨Nat.zero_le _, Nat.zero_le _⟩ dX6_addThing_70 (fun v25 => ?_)
      refine j_if_eq C (tgt := 96) dX6_addThing_73 (by decide) ?_ ?_
      · exact jB_X6_addThing_96 C E S p0 tp0 p1 p2 tp2 p3
      · refine j_aload_n C dX6_addThing_76 0 rfl ?_
        refine j_getR C kK6 f244 kfX6_36 (by decide) rfl tp0 dX6_addThing_77 (fun x27 tx27 => ?_)
        refine j_iload_n C dX6_addThing_80 3 rfl ?_
        refine j_aload_n C dX6_addThing_81 0 rfl ?_
        refine j_getR C kK6 f244 kfX6_36 (by decide) rfl tp0 dX6_addThing_82 (fun x28 tx28 => ?_)
        refine j_iload_n C dX6_addThing_85 3 rfl ?_
        refine j_iconst C (v := (1 : Int32)) dX6_addThing_86 (by decide) ?_
        refine j_isub C dX6_addThing_87 ?_
        refine j_oc tx28 (fun a29 ta29 ea29 => ?_)
        subst ea29
        refine j_aald C ta29 (by decide) rfl dX6_addThing_88 (fun x30 tx30 => ?_)
        refine j_oc tx27 (fun a31 ta31 ea31 => ?_)
        subst ea31
        refine j_oc tx30 (fun a32 ta32 ea32 => ?_)
        subst ea32
        refine j_aast C 13 ta31 (by decide) rfl ta32 dX6_addThing_89 (fun S33 => ?_)
        refine j_iinc C (v := (-1 : Int32)) (L' := [(3, vI (p3 + (-1 : Int32))), (0, vR (some p0)), (1, vI p1), (2, vR p2)]) dX6_addThing_90 3 rfl (by decide) (by decide) rfl ?_
        refine j_goto C (tgt := 48) dX6_addThing_93 (by decide) ?_
        refine j_sub (L' := [(0, vR (some p0)), (1, vI p1), (2, vR p2), (3, vI (p3 + (-1 : Int32)))]) [1, 2, 3, 0] rfl ?_
        exact hrec S33 p0 tp0 p1 p2 tp2 (p3 + (-1 : Int32))
def L_X6_addThing_48 (N : Nat → Nat) (n : Nat) : sSt → Nat → Int32 → (Option Nat) → Int32 → Option (Option Nat × sSt) := iter (fun _ _ _ _ _ => none) (Y_X6_addThing_48 N) n
theorem jL_X6_addThing_48 {X : jX} (C : jC X cX6_addThing 4 RX6 rm_X6_addThing) {Λ : sLay} {r : (Option Nat × sSt)} (E : jE X (some (.object "RemakeNeeds2$Thing")) (rR 5) Λ r) : ∀ (n : Nat) (S : sSt) (p0 : Nat) (tp0 : isK Λ 6 p0) (p1 : Int32) (p2 : Option Nat) (tp2 : okK Λ 5 p2) (p3 : Int32), J X 4 0 0 48 [(0, vR (some p0)), (1, vI p1), (2, vR p2), (3, vI p3)] [] Λ S (L_X6_addThing_48 Λ.2.2 n S p0 p1 p2 p3 = some r) := by
  intro n
  induction n with
  | zero => intro S p0 tp0 p1 p2 tp2 p3; exact j_no (fun h => by have h2 : (none : Option (Option Nat × sSt)) = some r := h; cases h2)
  | succ n ih => intro S p0 tp0 p1 p2 tp2 p3; exact jY_X6_addThing_48 C E (L_X6_addThing_48 Λ.2.2 n) ih S p0 tp0 p1 p2 tp2 p3
def F_X6_addThing (N : Nat → Nat) (S : sSt) (p0 : Nat) (p1 : Int32) : Option (Option Nat × sSt) := (if (gFI S 245 p0) < 0 then some (none, S) else bnd (gFR S 244 p0) (fun x1 => Option.bind x1 (fun a2 => (if (nI (N a2)) ≤ (gFI S 245 p0) then some (none, S) else bnd (gFR S 244 p0) (fun x3 => Option.bind x3 (fun a4 => gi (gFI S 245 p0) (N a4) (bnd (gAR S a4 (Int32.toNatClampNeg (gFI S 245 p0))) (fun x5 => onl x5 (some (none, S)) (fun a6 => bnd (gFR S 244 p0) (fun x7 => Option.bind x7 (fun a8 => gi (gFI S 245 p0) (N a8) (bnd (gAR S a8 (Int32.toNatClampNeg (gFI S 245 p0))) (fun x9 => L_X6_addThing_48 N FU S p0 p1 x9 (gFI S 245 p0))))))))))))))
set_option maxHeartbeats 4000000 in
theorem jF_X6_addThing {X : jX} (C : jC X cX6_addThing 4 RX6 rm_X6_addThing) {Λ : sLay} {S : sSt} {r : (Option Nat × sSt)} (E : jE X (some (.object "RemakeNeeds2$Thing")) (rR 5) Λ r) (p0 : Nat) (tp0 : isK Λ 6 p0) (p1 : Int32) : J X 4 0 0 0 [(0, vR (some p0)), (1, vI p1)] [] Λ S (F_X6_addThing Λ.2.2 S p0 p1 = some r) := by
  unfold F_X6_addThing
  refine j_aload_n C dX6_addThing_0 0 rfl ?_
  refine j_getI C kK6 f245 kfX6_57 (by decide) tp0 dX6_addThing_1 ?_
  refine j_if_lt C (tgt := 31) dX6_addThing_4 (by decide) ?_ ?_
  · refine j_null C dX6_addThing_31 ?_
    exact j_aret C E okN dX6_addThing_32
  · refine j_aload_n C dX6_addThing_7 0 rfl ?_
    refine j_getI C kK6 f245 kfX6_57 (by decide) tp0 dX6_addThing_8 ?_
    refine j_aload_n C dX6_addThing_11 0 rfl ?_
    refine j_getR C kK6 f244 kfX6_36 (by decide) rfl tp0 dX6_addThing_12 (fun x1 tx1 => ?_)
    refine j_oc tx1 (fun a2 ta2 ea2 => ?_)
    subst ea2
    refine j_alen C ta2 (by decide) dX6_addThing_15 ?_
    refine j_icmp_ge C (tgt := 31) dX6_addThing_16 (by decide) ?_ ?_
    · refine j_null C dX6_addThing_31 ?_
      exact j_aret C E okN dX6_addThing_32
    · refine j_aload_n C dX6_addThing_19 0 rfl ?_
      refine j_getR C kK6 f244 kfX6_36 (by decide) rfl tp0 dX6_addThing_20 (fun x3 tx3 => ?_)
      refine j_aload_n C dX6_addThing_23 0 rfl ?_
      refine j_getI C kK6 f245 kfX6_57 (by decide) tp0 dX6_addThing_24 ?_
      refine j_oc tx3 (fun a4 ta4 ea4 => ?_)
      subst ea4
      refine j_aald C ta4 (by decide) rfl dX6_addThing_27 (fun x5 tx5 => ?_)
      refine j_ifnonnull C (tgt := 33) tx5 dX6_addThing_28 (by decide) (fun ea6 => ?_) (fun a6 ta6 ea6 => ?_)
      · subst ea6
        refine j_null C dX6_addThing_31 ?_
        exact j_aret C E okN dX6_addThing_32
      · subst ea6
        refine j_aload_n C dX6_addThing_33 0 rfl ?_
        refine j_getR C kK6 f244 kfX6_36 (by decide) rfl tp0 dX6_addThing_34 (fun x7 tx7 => ?_)
        refine j_aload_n C dX6_addThing_37 0 rfl ?_
        refine j_getI C kK6 f245 kfX6_57 (by decide) tp0 dX6_addThing_38 ?_
        refine j_oc tx7 (fun a8 ta8 ea8 => ?_)
        subst ea8
        refine j_aald C ta8 (by decide) rfl dX6_addThing_41 (fun x9 tx9 => ?_)
        refine j_astore_n C (L' := [(2, vR x9), (0, vR (some p0)), (1, vI p1)]) dX6_addThing_42 (by decide) rfl ?_
        refine j_aload_n C dX6_addThing_43 1 rfl ?_
        refine j_getI C kK6 f245 kfX6_57 (by decide) tp0 dX6_addThing_44 ?_
        refine j_istore_n C (L' := [(3, vI (gFI S 245 p0)), (2, vR x9), (0, vR (some p0)), (1, vI p1)]) dX6_addThing_47 (by decide) rfl ?_
        refine j_sub (L' := [(0, vR (some p0)), (1, vI p1), (2, vR x9), (3, vI (gFI S 245 p0))]) [2, 3, 1, 0] rfl ?_
        exact jL_X6_addThing_48 C E FU S p0 tp0 p1 x9 tx9 (gFI S 245 p0)
theorem c_X6_addThing {l : Launch} {D : va_G} {cy : Nat → ClassId} {Λ : sLay} {S : sSt} (p0 : Nat) (tp0 : isK Λ 6 p0) (p1 : Int32) {v : Option Nat} {S1 : sSt} (h : F_X6_addThing Λ.2.2 S p0 p1 = some (v, S1)) : jM l yX6_addThing (Cond.code yX6_addThing cX6_addThing 4 (some (.object "RemakeNeeds2$Thing")) :: bigW) rm_X6_addThing D cy Λ S [vR (some p0), vI p1] (rR 5) (v, S1) := jM_of (by decide +kernel) (Nat.le_of_ble_eq_true rfl) (fun X C E _ _ _ => j_sub [0, 1] rfl (jF_X6_addThing C E p0 tp0 p1)) h
/-! RemakeNeeds2.Unit.dropThing(I)Z -/
abbrev rm_X6_dropThing : Room := { frames := 1, cells := 0, slots := 0, locals := 22 }
def B_X6_dropThing_94 (N : Nat → Nat) (S : sSt) (p0 : Nat) (p3 : Int32) : Option (Int32 × sSt) := bnd (sFI S 245 p0 p3) (fun S6 => some ((1 : Int32), S6))
set_option maxHeartbeats 4000000 in
theorem jB_X6_dropThing_94 {X : jX} (C : jC X cX6_dropThing 5 RX6 rm_X6_dropThing) {Λ : sLay} {r : (Int32 × sSt)} (E : jE X (some .boolean) rI Λ r) : ∀ (S : sSt) (p0 : Nat) (tp0 : isK Λ 6 p0) (p3 : Int32), J X 5 0 0 94 [(0, vR (some p0)), (3, vI p3)] [] Λ S (B_X6_dropThing_94 Λ.2.2 S p0 p3 = some r) := by
  intro S p0 tp0 p3
  unfold B_X6_dropThing_94
  refine j_aload_n C dX6_dropThing_94 0 rfl ?_
  refine j_iload_n C dX6_dropThing_95 1 rfl ?_
  refine j_putI C kK6 f245 kfX6_57 (by decide) rfl rfl rfl tp0 dX6_dropThing_96 (fun S6 => ?_)
  refine j_iconst C (v := (1 : Int32)) dX6_dropThing_99 (by decide) ?_
  exact j_zretK C E (by decide) dX6_dropThing_100
def B_X6_dropThing_78 (N : Nat → Nat) (S : sSt) (p0 : Nat) (p2 : Nat) (p3 : Int32) : Option (Int32 × sSt) := bnd (gFR S 244 p0) (fun x4 => Option.bind x4 (fun a5 => (if (nI (N a5)) ≤ p3 then B_X6_dropThing_94 N S p0 p3 else bnd (gFR S 244 p0) (fun x7 => Option.bind x7 (fun a8 => gi p3 (N a8) (bnd (sAR S a8 (Int32.toNatClampNeg p3) (some p2)) (fun S9 => B_X6_dropThing_94 N S9 p0 p3)))))))
set_option maxHeartbeats 4000000 in
theorem jB_X6_dropThing_78 {X : jX} (C : jC X cX6_dropThing 5 RX6 rm_X6_dropThing) {Λ : sLay} {r : (Int32 × sSt)} (E : jE X (some .boolean) rI Λ r) : ∀ (S : sSt) (p0 : Nat) (tp0 : isK Λ 6 p0) (p2 : Nat) (tp2 : isK Λ 5 p2) (p3 : Int32), J X 5 0 0 78 [(0, vR (some p0)), (2, vR (some p2)), (3, vI p3)] [] Λ S (B_X6_dropThing_78 Λ.2.2 S p0 p2 p3 = some r) := by
  intro S p0 tp0 p2 tp2 p3
  unfold B_X6_dropThing_78
  refine j_iload_n C dX6_dropThing_78 2 rfl ?_
  refine j_aload_n C dX6_dropThing_79 0 rfl ?_
  refine j_getR C kK6 f244 kfX6_36 (by decide) rfl tp0 dX6_dropThing_80 (fun x4 tx4 => ?_)
  refine j_oc tx4 (fun a5 ta5 ea5 => ?_)
  subst ea5
  refine j_alen C ta5 (by decide) dX6_dropThing_83 ?_
  refine j_icmp_ge C (tgt := 94) dX6_dropThing_84 (by decide) ?_ ?_
  · refine j_sub (L' := [(0, vR (some p0)), (3, vI p3)]) [0, 2] rfl ?_
    exact jB_X6_dropThing_94 C E S p0 tp0 p3
  · refine j_aload_n C dX6_dropThing_87 0 rfl ?_
    refine j_getR C kK6 f244 kfX6_36 (by decide) rfl tp0 dX6_dropThing_88 (fun x7 tx7 => ?_)
    refine j_iload_n C dX6_dropThing_91 2 rfl ?_
    refine j_aload_n C dX6_dropThing_92 1 rfl ?_
    refine j_oc tx7 (fun a8 ta8 ea8 => ?_)
    subst ea8
    refine j_aast C 13 ta8 (by decide) rfl tp2 dX6_dropThing_93 (fun S9 => ?_)
    refine j_sub (L' := [(0, vR (some p0)), (3, vI p3)]) [0, 2] rfl ?_
    exact jB_X6_dropThing_94 C E S9 p0 tp0 p3
def B_X6_dropThing_72 (N : Nat → Nat) (k17 : sSt → Nat → Nat → Int32 → Int32 → Option (Int32 × sSt)) (S : sSt) (p0 : Nat) (p2 : Nat) (p3 : Int32) (p4 : Int32) : Option (Int32 × sSt) := k17 S p0 p2 p3 (p4 + (1 : Int32))
set_option maxHeartbeats 4000000 in
theorem jB_X6_dropThing_72 {X : jX} (C : jC X cX6_dropThing 5 RX6 rm_X6_dropThing) {Λ : sLay} {r : (Int32 × sSt)} (E : jE X (some .boolean) rI Λ r) (k17 : sSt → Nat → Nat → Int32 → Int32 → Option (Int32 × sSt)) (hk17 : ∀ (S : sSt) (p0 : Nat) (tp0 : isK Λ 6 p0) (p2 : Nat) (tp2 : isK Λ 5 p2) (p3 : Int32) (p4 : Int32), J X 5 0 0 17 [(0, vR (some p0)), (2, vR (some p2)), (3, vI p3), (4, vI p4)] [] Λ S (k17 S p0 p2 p3 p4 = some r)) : ∀ (S : sSt) (p0 : Nat) (tp0 : isK Λ 6 p0) (p2 : Nat) (tp2 : isK Λ 5 p2) (p3 : Int32) (p4 : Int32), J X 5 0 0 72 [(0, vR (some p0)), (2, vR (some p2)), (3, vI p3), (4, vI p4)] [] Λ S (B_X6_dropThing_72 Λ.2.2 k17 S p0 p2 p3 p4 = some r) := by
  intro S p0 tp0 p2 tp2 p3 p4
  unfold B_X6_dropThing_72
  refine j_iinc C (v := (1 : Int32)) (L' := [(4, vI (p4 + (1 : Int32))), (0, vR (some p0)), (2, vR (some p2)), (3, vI p3)]) dX6_dropThing_72 3 rfl (by decide) (by decide) rfl ?_
  refine j_goto C (tgt := 17) dX6_dropThing_75 (by decide) ?_
  refine j_sub (L' := [(0, vR (some p0)), (2, vR (some p2)), (3, vI p3), (4, vI (p4 + (1 : Int32)))]) [1, 2, 3, 0] rfl ?_
  exact hk17 S p0 tp0 p2 tp2 p3 (p4 + (1 : Int32))
def Y_X6_dropThing_17 (N : Nat → Nat) (rec : sSt → Nat → Nat → Int32 → Int32 → Option (Int32 × sSt)) (S : sSt) (p0 : Nat) (p2 : Nat) (p3 : Int32) (p4 : Int32) : Option (Int32 × sSt) := (if (gFI S 245 p0) ≤ p4 then B_X6_dropThing_78 N S p0 p2 p3 else bnd (gFR S 244 p0) (fun x10 => Option.bind x10 (fun a11 => (if (nI (N a11)) ≤ p4 then B_X6_dropThing_78 N S p0 p2 p3 else bnd (gFR S 244 p0) (fun x12 => Option.bind x12 (fun a13 => gi p4 (N a13) (bnd (gAR S a13 (Int32.toNatClampNeg p4)) (fun x14 => (if x14 = (some p2) then B_X6_dropThing_72 N rec S p0 p2 p3 p4 else bnd (gFR S 244 p0) (fun x15 => Option.bind x15 (fun a16 => (if (nI (N a16)) ≤ p3 then B_X6_dropThing_72 N rec S p0 p2 p3 p4 else bnd (gFR S 244 p0) (fun x17 => bnd (gFR S 244 p0) (fun x18 => Option.bind x18 (fun a19 => gi p4 (N a19) (bnd (gAR S a19 (Int32.toNatClampNeg p4)) (fun x20 => Option.bind x17 (fun a21 => Option.bind x20 (fun a22 => gi p3 (N a21) (bnd (sAR S a21 (Int32.toNatClampNeg p3) (some a22)) (fun S23 => B_X6_dropThing_72 N rec S23 p0 p2 (p3 + (1 : Int32)) p4)))))))))))))))))))))
set_option maxHeartbeats 4000000 in
theorem jY_X6_dropThing_17 {X : jX} (C : jC X cX6_dropThing 5 RX6 rm_X6_dropThing) {Λ : sLay} {r : (Int32 × sSt)} (E : jE X (some .boolean) rI Λ r) (rec : sSt → Nat → Nat → Int32 → Int32 → Option (Int32 × sSt)) (hrec : ∀ (S : sSt) (p0 : Nat) (tp0 : isK Λ 6 p0) (p2 : Nat) (tp2 : isK Λ 5 p2) (p3 : Int32) (p4 : Int32), J X 5 0 0 17 [(0, vR (some p0)), (2, vR (some p2)), (3, vI p3), (4, vI p4)] [] Λ S (rec S p0 p2 p3 p4 = some r)) : ∀ (S : sSt) (p0 : Nat) (tp0 : isK Λ 6 p0) (p2 : Nat) (tp2 : isK Λ 5 p2) (p3 : Int32) (p4 : Int32), J X 5 0 0 17 [(0, vR (some p0)), (2, vR (some p2)), (3, vI p3), (4, vI p4)] [] Λ S (Y_X6_dropThing_17 Λ.2.2 rec S p0 p2 p3 p4 = some r) := by
  intro S p0 tp0 p2 tp2 p3 p4
  unfold Y_X6_dropThing_17
  refine j_iload C dX6_dropThing_17 3 rfl ?_
  refine j_aload_n C dX6_dropThing_19 0 rfl ?_
  refine j_getI C kK6 f245 kfX6_57 (by decide) tp0 dX6_dropThing_20 ?_
  refine j_icmp_ge C (tgt := 78) dX6_dropThing_23 (by decide) ?_ ?_
  · refine j_sub (L' := [(0, vR (some p0)), (2, vR (some p2)), (3, vI p3)]) [0, 1, 2] rfl ?_
    exact jB_X6_dropThing_78 C E S p0 tp0 p2 tp2 p3
  · refine j_iload C dX6_dropThing_26 3 rfl ?_
    refine j_aload_n C dX6_dropThing_28 0 rfl ?_
    refine j_getR C kK6 f244 kfX6_36 (by decide) rfl tp0 dX6_dropThing_29 (fun x10 tx10 => ?_)
    refine j_oc tx10 (fun a11 ta11 ea11 => ?_)
    subst ea11
    refine j_alen C ta11 (by decide) dX6_dropThing_32 ?_
    refine j_icmp_ge C (tgt := 78) dX6_dropThing_33 (by decide) ?_ ?_
    · refine j_sub (L' := [(0, vR (some p0)), (2, vR (some p2)), (3, vI p3)]) [0, 1, 2] rfl ?_
      exact jB_X6_dropThing_78 C E S p0 tp0 p2 tp2 p3
    · refine j_aload_n C dX6_dropThing_36 0 rfl ?_
      refine j_getR C kK6 f244 kfX6_36 (by decide) rfl tp0 dX6_dropThing_37 (fun x12 tx12 => ?_)
      refine j_iload C dX6_dropThing_40 3 rfl ?_
      refine j_oc tx12 (fun a13 ta13 ea13 => ?_)
      subst ea13
      refine j_aald C ta13 (by decide) rfl dX6_dropThing_42 (fun x14 tx14 => ?_)
      refine j_aload_n C dX6_dropThing_43 1 rfl ?_
      refine j_acmp_eq C (tgt := 72) dX6_dropThing_44 (by decide) ?_ ?_
      · exact jB_X6_dropThing_72 C E rec hrec S p0 tp0 p2 tp2 p3 p4
      · refine j_iload_n C dX6_dropThing_47 2 rfl ?_
        refine j_aload_n C dX6_dropThing_48 0 rfl ?_
        refine j_getR C kK6 f244 kfX6_36 (by decide) rfl tp0 dX6_dropThing_49 (fun x15 tx15 => ?_)
        refine j_oc tx15 (fun a16 ta16 ea16 => ?_)
        subst ea16
        refine j_alen C ta16 (by decide) dX6_dropThing_52 ?_
        refine j_icmp_ge C (tgt := 72) dX6_dropThing_53 (by decide) ?_ ?_
        · exact jB_X6_dropThing_72 C E rec hrec S p0 tp0 p2 tp2 p3 p4
        · refine j_aload_n C dX6_dropThing_56 0 rfl ?_
          refine j_getR C kK6 f244 kfX6_36 (by decide) rfl tp0 dX6_dropThing_57 (fun x17 tx17 => ?_)
          refine j_iload_n C dX6_dropThing_60 2 rfl ?_
          refine j_aload_n C dX6_dropThing_61 0 rfl ?_
          refine j_getR C kK6 f244 kfX6_36 (by decide) rfl tp0 dX6_dropThing_62 (fun x18 tx18 => ?_)
          refine j_iload C dX6_dropThing_65 3 rfl ?_
          refine j_oc tx18 (fun a19 ta19 ea19 => ?_)
          subst ea19
          refine j_aald C ta19 (by decide) rfl dX6_dropThing_67 (fun x20 tx20 => ?_)
          refine j_oc tx17 (fun a21 ta21 ea21 => ?_)
          subst ea21
          refine j_oc tx20 (fun a22 ta22 ea22 => ?_)
          subst ea22
          refine j_aast C 13 ta21 (by decide) rfl ta22 dX6_dropThing_68 (fun S23 => ?_)
          refine j_iinc C (v := (1 : Int32)) (L' := [(3, vI (p3 + (1 : Int32))), (0, vR (some p0)), (2, vR (some p2)), (4, vI p4)]) dX6_dropThing_69 2 rfl (by decide) (by decide) rfl ?_
          refine j_sub (L' := [(0, vR (some p0)), (2, vR (some p2)), (3, vI (p3 + (1 : Int32))), (4, vI p4)]) [1, 2, 0, 3] rfl ?_
          exact jB_X6_dropThing_72 C E rec hrec S23 p0 tp0 p2 tp2 (p3 + (1 : Int32)) p4
def L_X6_dropThing_17 (N : Nat → Nat) (n : Nat) : sSt → Nat → Nat → Int32 → Int32 → Option (Int32 × sSt) := iter (fun _ _ _ _ _ => none) (Y_X6_dropThing_17 N) n
theorem jL_X6_dropThing_17 {X : jX} (C : jC X cX6_dropThing 5 RX6 rm_X6_dropThing) {Λ : sLay} {r : (Int32 × sSt)} (E : jE X (some .boolean) rI Λ r) : ∀ (n : Nat) (S : sSt) (p0 : Nat) (tp0 : isK Λ 6 p0) (p2 : Nat) (tp2 : isK Λ 5 p2) (p3 : Int32) (p4 : Int32), J X 5 0 0 17 [(0, vR (some p0)), (2, vR (some p2)), (3, vI p3), (4, vI p4)] [] Λ S (L_X6_dropThing_17 Λ.2.2 n S p0 p2 p3 p4 = some r) := by
  intro n
  induction n with
  | zero => intro S p0 tp0 p2 tp2 p3 p4; exact j_no (fun h => by have h2 : (none : Option (Int32 × sSt)) = some r := h; cases h2)
  | succ n ih => intro S p0 tp0 p2 tp2 p3 p4; exact jY_X6_dropThing_17 C E (L_X6_dropThing_17 Λ.2.2 n) ih S p0 tp0 p2 tp2 p3 p4
def F_X6_dropThing (N : Nat → Nat) (S : sSt) (p0 : Nat) (p1 : Int32) : Option (Int32 × sSt) := Option.bind (F_X6_thingFor N S p0 p1) (fun v1 => onl v1 (some ((0 : Int32), S)) (fun a3 => L_X6_dropThing_17 N FU S p0 a3 (0 : Int32) (0 : Int32)))
set_option maxHeartbeats 4000000 in
theorem jF_X6_dropThing {X : jX} (C : jC X cX6_dropThing 5 RX6 rm_X6_dropThing) {Λ : sLay} {S : sSt} {r : (Int32 × sSt)} (E : jE X (some .boolean) rI Λ r) (p0 : Nat) (tp0 : isK Λ 6 p0) (p1 : Int32) : J X 5 0 0 0 [(0, vR (some p0)), (1, vI p1)] [] Λ S (F_X6_dropThing Λ.2.2 S p0 p1 = some r) := by
  unfold F_X6_dropThing
  refine j_aload_n C dX6_dropThing_0 0 rfl ?_
  refine j_iload_n C dX6_dropThing_1 1 rfl ?_
  refine j_cVRP C [vI p1] [] (fun _ e => c_X6_thingFor p0 tp0 p1 e) kYX6_thingFor kVX6_thingFor kmX6_93 kO6 tp0 rfl rfl ⟨rfl, rfl, by decide, by decide⟩ (Nat.le_of_ble_eq_true rfl) ⟨Nat.zero_le _, Nat.zero_le _⟩ dX6_dropThing_2 (fun v1 tv1 => ?_)
  refine j_astore_n C (L' := [(2, vR v1), (0, vR (some p0)), (1, vI p1)]) dX6_dropThing_5 (by decide) rfl ?_
  refine j_aload_n C dX6_dropThing_6 0 rfl ?_
  refine j_ifnonnull C (tgt := 12) tv1 dX6_dropThing_7 (by decide) (fun ea3 => ?_) (fun a3 ta3 ea3 => ?_)
  · subst ea3
    refine j_iconst C (v := (0 : Int32)) dX6_dropThing_10 (by decide) ?_
    exact j_zretK C E (by decide) dX6_dropThing_11
  · subst ea3
    refine j_iconst C (v := (0 : Int32)) dX6_dropThing_12 (by decide) ?_
    refine j_istore_n C (L' := [(3, vI (0 : Int32)), (2, vR (some a3)), (0, vR (some p0)), (1, vI p1)]) dX6_dropThing_13 (by decide) rfl ?_
    refine j_iconst C (v := (0 : Int32)) dX6_dropThing_14 (by decide) ?_
    refine j_istore C (L' := [(4, vI (0 : Int32)), (3, vI (0 : Int32)), (2, vR (some a3)), (0, vR (some p0)), (1, vI p1)]) dX6_dropThing_15 (by decide) rfl ?_
    refine j_sub (L' := [(0, vR (some p0)), (2, vR (some a3)), (3, vI (0 : Int32)), (4, vI (0 : Int32))]) [3, 2, 1, 0] rfl ?_
    exact jL_X6_dropThing_17 C E FU S p0 tp0 a3 ta3 (0 : Int32) (0 : Int32)
theorem c_X6_dropThing {l : Launch} {D : va_G} {cy : Nat → ClassId} {Λ : sLay} {S : sSt} (p0 : Nat) (tp0 : isK Λ 6 p0) (p1 : Int32) {v : Int32} {S1 : sSt} (h : F_X6_dropThing Λ.2.2 S p0 p1 = some (v, S1)) : jM l yX6_dropThing (Cond.code yX6_dropThing cX6_dropThing 5 (some .boolean) :: bigW) rm_X6_dropThing D cy Λ S [vR (some p0), vI p1] rI (v, S1) := jM_of (by decide +kernel) (Nat.le_of_ble_eq_true rfl) (fun X C E _ _ _ => j_sub [0, 1] rfl (jF_X6_dropThing C E p0 tp0 p1)) h
/-! RemakeNeeds2.Unit.start()V -/
abbrev rm_X6_start : Room := { frames := 1, cells := 0, slots := 0, locals := 20 }
def F_X6_start (N : Nat → Nat) (S : sSt) (p0 : Nat) : Option sSt := bnd (sFI S 247 p0 (1 : Int32)) (fun S1 => bnd (sFI S1 248 p0 (0 : Int32)) (fun S2 => bnd (sFI S2 249 p0 (-5 : Int32)) (fun S3 => bnd (sFI S3 250 p0 (0 : Int32)) (fun S4 => bnd (sFI S4 245 p0 (0 : Int32)) (fun S5 => bnd (gFR S5 241 p0) (fun x6 => Option.bind x6 (fun a7 => Option.bind (F_X1_empty N S5 a7) (fun S9 => bnd (gFR S9 242 p0) (fun x10 => Option.bind x10 (fun a11 => Option.bind (F_X1_empty N S9 a11) (fun S13 => some S13)))))))))))
set_option maxHeartbeats 4000000 in
theorem jF_X6_start {X : jX} (C : jC X cX6_start 1 RX6 rm_X6_start) {Λ : sLay} {S : sSt} {r : sSt} (E : jE X none rV Λ ((), r)) (p0 : Nat) (tp0 : isK Λ 6 p0) : J X 1 0 0 0 [(0, vR (some p0))] [] Λ S (F_X6_start Λ.2.2 S p0 = some r) := by
  unfold F_X6_start
  refine j_aload_n C dX6_start_0 0 rfl ?_
  refine j_iconst C (v := (1 : Int32)) dX6_start_1 (by decide) ?_
  refine j_putI C kK6 f247 kfX6_44 (by decide) rfl rfl rfl tp0 dX6_start_2 (fun S1 => ?_)
  refine j_aload_n C dX6_start_5 0 rfl ?_
  refine j_iconst C (v := (0 : Int32)) dX6_start_6 (by decide) ?_
  refine j_putI C kK6 f248 kfX6_48 (by decide) rfl rfl rfl tp0 dX6_start_7 (fun S2 => ?_)
  refine j_aload_n C dX6_start_10 0 rfl ?_
  refine j_bipush C (v := (-5 : Int32)) dX6_start_11 (by decide) ?_
  refine j_putI C kK6 f249 kfX6_51 (by decide) rfl rfl rfl tp0 dX6_start_13 (fun S3 => ?_)
  refine j_aload_n C dX6_start_16 0 rfl ?_
  refine j_iconst C (v := (0 : Int32)) dX6_start_17 (by decide) ?_
  refine j_putI C kK6 f250 kfX6_54 (by decide) rfl rfl rfl tp0 dX6_start_18 (fun S4 => ?_)
  refine j_aload_n C dX6_start_21 0 rfl ?_
  refine j_iconst C (v := (0 : Int32)) dX6_start_22 (by decide) ?_
  refine j_putI C kK6 f245 kfX6_57 (by decide) rfl rfl rfl tp0 dX6_start_23 (fun S5 => ?_)
  refine j_aload_n C dX6_start_26 0 rfl ?_
  refine j_getR C kK6 f241 kfX6_20 (by decide) rfl tp0 dX6_start_27 (fun x6 tx6 => ?_)
  refine j_oc tx6 (fun a7 ta7 ea7 => ?_)
  subst ea7
  refine j_cVVV C [] [] (fun _ e => c_X1_empty a7 ta7 e) kYX1_empty kVX1_empty kmX6_60 kO1 ta7 rfl rfl ⟨rfl, rfl, by decide, by decide⟩ (Nat.le_of_ble_eq_true rfl) ⟨Nat.zero_le _, Nat.zero_le _⟩ dX6_start_30 (fun S9 => ?_)
  refine j_aload_n C dX6_start_33 0 rfl ?_
  refine j_getR C kK6 f242 kfX6_24 (by decide) rfl tp0 dX6_start_34 (fun x10 tx10 => ?_)
  refine j_oc tx10 (fun a11 ta11 ea11 => ?_)
  subst ea11
  refine j_cVVV C [] [] (fun _ e => c_X1_empty a11 ta11 e) kYX1_empty kVX1_empty kmX6_60 kO1 ta11 rfl rfl ⟨rfl, rfl, by decide, by decide⟩ (Nat.le_of_ble_eq_true rfl) ⟨Nat.zero_le _, Nat.zero_le _⟩ dX6_start_37 (fun S13 => ?_)
  exact j_vretP C E dX6_start_40
theorem c_X6_start {l : Launch} {D : va_G} {cy : Nat → ClassId} {Λ : sLay} {S : sSt} (p0 : Nat) (tp0 : isK Λ 6 p0) {r : sSt} (h : F_X6_start Λ.2.2 S p0 = some r) : jM l yX6_start (Cond.code yX6_start cX6_start 1 none :: bigW) rm_X6_start D cy Λ S [vR (some p0)] rV ((), r) := jM_of (by decide +kernel) (Nat.le_of_ble_eq_true rfl) (fun X C E _ _ _ => j_sub [0] rfl (jF_X6_start C E p0 tp0)) h
/-! RemakeNeeds2.Units.dropAll()V -/
abbrev rm_X7_dropAll : Room := { frames := 0, cells := 0, slots := 0, locals := 0 }
def F_X7_dropAll (N : Nat → Nat) (S : sSt) (p0 : Nat) : Option sSt := bnd (sFI S 281 p0 (0 : Int32)) (fun S1 => some S1)
set_option maxHeartbeats 4000000 in
theorem jF_X7_dropAll {X : jX} (C : jC X cX7_dropAll 1 RX7 rm_X7_dropAll) {Λ : sLay} {S : sSt} {r : sSt} (E : jE X none rV Λ ((), r)) (p0 : Nat) (tp0 : isK Λ 7 p0) : J X 1 0 0 0 [(0, vR (some p0))] [] Λ S (F_X7_dropAll Λ.2.2 S p0 = some r) := by
  unfold F_X7_dropAll
  refine j_aload_n C dX7_dropAll_0 0 rfl ?_
  refine j_iconst C (v := (0 : Int32)) dX7_dropAll_1 (by decide) ?_
  refine j_putI C kK7 f281 kfX7_17 (by decide) rfl rfl rfl tp0 dX7_dropAll_2 (fun S1 => ?_)
  exact j_vretP C E dX7_dropAll_5
theorem c_X7_dropAll {l : Launch} {D : va_G} {cy : Nat → ClassId} {Λ : sLay} {S : sSt} (p0 : Nat) (tp0 : isK Λ 7 p0) {r : sSt} (h : F_X7_dropAll Λ.2.2 S p0 = some r) : jM l yX7_dropAll (Cond.code yX7_dropAll cX7_dropAll 1 none :: bigW) rm_X7_dropAll D cy Λ S [vR (some p0)] rV ((), r) := jM_of (by decide +kernel) (Nat.le_of_ble_eq_true rfl) (fun X C E _ _ _ => j_sub [0] rfl (jF_X7_dropAll C E p0 tp0)) h
/-! RemakeNeeds2.Units.freeFrom(I)V -/
abbrev rm_X7_freeFrom : Room := { frames := 1, cells := 0, slots := 0, locals := 22 }
def B_X7_freeFrom_34 (N : Nat → Nat) (k2 : sSt → Nat → Int32 → Int32 → Option sSt) (S : sSt) (p0 : Nat) (p1 : Int32) (p2 : Int32) : Option sSt := k2 S p0 p1 (p2 + (1 : Int32))
set_option maxHeartbeats 4000000 in
theorem jB_X7_freeFrom_34 {X : jX} (C : jC X cX7_freeFrom 4 RX7 rm_X7_freeFrom) {Λ : sLay} {r : sSt} (E : jE X none rV Λ ((), r)) (k2 : sSt → Nat → Int32 → Int32 → Option sSt) (hk2 : ∀ (S : sSt) (p0 : Nat) (tp0 : isK Λ 7 p0) (p1 : Int32) (p2 : Int32), J X 4 0 0 2 [(0, vR (some p0)), (1, vI p1), (2, vI p2)] [] Λ S (k2 S p0 p1 p2 = some r)) : ∀ (S : sSt) (p0 : Nat) (tp0 : isK Λ 7 p0) (p1 : Int32) (p2 : Int32), J X 4 0 0 34 [(0, vR (some p0)), (1, vI p1), (2, vI p2)] [] Λ S (B_X7_freeFrom_34 Λ.2.2 k2 S p0 p1 p2 = some r) := by
  intro S p0 tp0 p1 p2
  unfold B_X7_freeFrom_34
  refine j_iinc C (v := (1 : Int32)) (L' := [(2, vI (p2 + (1 : Int32))), (0, vR (some p0)), (1, vI p1)]) dX7_freeFrom_34 2 rfl (by decide) (by decide) rfl ?_
  refine j_goto C (tgt := 2) dX7_freeFrom_37 (by decide) ?_
  refine j_sub (L' := [(0, vR (some p0)), (1, vI p1), (2, vI (p2 + (1 : Int32)))]) [1, 2, 0] rfl ?_
  exact hk2 S p0 tp0 p1 (p2 + (1 : Int32))
def Y_X7_freeFrom_2 (N : Nat → Nat) (rec : sSt → Nat → Int32 → Int32 → Option sSt) (S : sSt) (p0 : Nat) (p1 : Int32) (p2 : Int32) : Option sSt := (if (gFI S 281 p0) ≤ p2 then some S else Option.bind (F_X7_at N S p0 p2) (fun v1 => onl v1 (B_X7_freeFrom_34 N rec S p0 p1 p2) (fun a3 => (if (gFI S 249 a3) = p1 then bnd (sFI S 249 a3 (-5 : Int32)) (fun S4 => B_X7_freeFrom_34 N rec S4 p0 p1 p2) else B_X7_freeFrom_34 N rec S p0 p1 p2))))
set_option maxHeartbeats 4000000 in
theorem jY_X7_freeFrom_2 {X : jX} (C : jC X cX7_freeFrom 4 RX7 rm_X7_freeFrom) {Λ : sLay} {r : sSt} (E : jE X none rV Λ ((), r)) (rec : sSt → Nat → Int32 → Int32 → Option sSt) (hrec : ∀ (S : sSt) (p0 : Nat) (tp0 : isK Λ 7 p0) (p1 : Int32) (p2 : Int32), J X 4 0 0 2 [(0, vR (some p0)), (1, vI p1), (2, vI p2)] [] Λ S (rec S p0 p1 p2 = some r)) : ∀ (S : sSt) (p0 : Nat) (tp0 : isK Λ 7 p0) (p1 : Int32) (p2 : Int32), J X 4 0 0 2 [(0, vR (some p0)), (1, vI p1), (2, vI p2)] [] Λ S (Y_X7_freeFrom_2 Λ.2.2 rec S p0 p1 p2 = some r) := by
  intro S p0 tp0 p1 p2
  unfold Y_X7_freeFrom_2
  refine j_iload_n C dX7_freeFrom_2 2 rfl ?_
  refine j_aload_n C dX7_freeFrom_3 0 rfl ?_
  refine j_getI C kK7 f281 kfX7_17 (by decide) tp0 dX7_freeFrom_4 ?_
  refine j_icmp_ge C (tgt := 40) dX7_freeFrom_7 (by decide) ?_ ?_
  · exact j_vretP C E dX7_freeFrom_40
  · refine j_aload_n C dX7_freeFrom_10 0 rfl ?_
    refine j_iload_n C dX7_freeFrom_11 2 rfl ?_
    refine j_cVRP C [vI p2] [] (fun _ e => c_X7_at p0 tp0 p2 e) kYX7_at kVX7_at kmX7_31 kO7 tp0 rfl rfl ⟨rfl, rfl, by decide, by decide⟩ (Nat.le_of_ble_eq_true rfl) ⟨Nat.zero_le _, Nat.zero_le _⟩ dX7_freeFrom_12 (fun v1 tv1 => ?_)
    refine j_astore_n C (L' := [(3, vR v1), (0, vR (some p0)), (1, vI p1), (2, vI p2)]) dX7_freeFrom_15 (by decide) rfl ?_
    refine j_aload_n C dX7_freeFrom_16 0 rfl ?_
    refine j_ifnull C (tgt := 34) tv1 dX7_freeFrom_17 (by decide) (fun ea3 => ?_) (fun a3 ta3 ea3 => ?_)
    · subst ea3
      refine j_sub (L' := [(0, vR (some p0)), (1, vI p1), (2, vI p2)]) [1, 2, 3] rfl ?_
      exact jB_X7_freeFrom_34 C E rec hrec S p0 tp0 p1 p2
    · subst ea3
      refine j_aload_n C dX7_freeFrom_20 0 rfl ?_
      refine j_getI C kK6 f249 kfX7_47 (by decide) ta3 dX7_freeFrom_21 ?_
      refine j_iload_n C dX7_freeFrom_24 2 rfl ?_
      refine j_icmp_ne C (tgt := 34) dX7_freeFrom_25 (by decide) ?_ ?_
      · refine j_sub (L' := [(0, vR (some p0)), (1, vI p1), (2, vI p2)]) [1, 2, 3] rfl ?_
        exact jB_X7_freeFrom_34 C E rec hrec S p0 tp0 p1 p2
      · refine j_aload_n C dX7_freeFrom_28 0 rfl ?_
        refine j_bipush C (v := (-5 : Int32)) dX7_freeFrom_29 (by decide) ?_
        refine j_putI C kK6 f249 kfX7_47 (by decide) rfl rfl rfl ta3 dX7_freeFrom_31 (fun S4 => ?_)
        refine j_sub (L' := [(0, vR (some p0)), (1, vI p1), (2, vI p2)]) [1, 2, 3] rfl ?_
        exact jB_X7_freeFrom_34 C E rec hrec S4 p0 tp0 p1 p2
def L_X7_freeFrom_2 (N : Nat → Nat) (n : Nat) : sSt → Nat → Int32 → Int32 → Option sSt := iter (fun _ _ _ _ => none) (Y_X7_freeFrom_2 N) n
theorem jL_X7_freeFrom_2 {X : jX} (C : jC X cX7_freeFrom 4 RX7 rm_X7_freeFrom) {Λ : sLay} {r : sSt} (E : jE X none rV Λ ((), r)) : ∀ (n : Nat) (S : sSt) (p0 : Nat) (tp0 : isK Λ 7 p0) (p1 : Int32) (p2 : Int32), J X 4 0 0 2 [(0, vR (some p0)), (1, vI p1), (2, vI p2)] [] Λ S (L_X7_freeFrom_2 Λ.2.2 n S p0 p1 p2 = some r) := by
  intro n
  induction n with
  | zero => intro S p0 tp0 p1 p2; exact j_no (fun h => by have h2 : (none : Option sSt) = some r := h; cases h2)
  | succ n ih => intro S p0 tp0 p1 p2; exact jY_X7_freeFrom_2 C E (L_X7_freeFrom_2 Λ.2.2 n) ih S p0 tp0 p1 p2
def F_X7_freeFrom (N : Nat → Nat) (S : sSt) (p0 : Nat) (p1 : Int32) : Option sSt := L_X7_freeFrom_2 N FU S p0 p1 (0 : Int32)
set_option maxHeartbeats 4000000 in
theorem jF_X7_freeFrom {X : jX} (C : jC X cX7_freeFrom 4 RX7 rm_X7_freeFrom) {Λ : sLay} {S : sSt} {r : sSt} (E : jE X none rV Λ ((), r)) (p0 : Nat) (tp0 : isK Λ 7 p0) (p1 : Int32) : J X 4 0 0 0 [(0, vR (some p0)), (1, vI p1)] [] Λ S (F_X7_freeFrom Λ.2.2 S p0 p1 = some r) := by
  unfold F_X7_freeFrom
  refine j_iconst C (v := (0 : Int32)) dX7_freeFrom_0 (by decide) ?_
  refine j_istore_n C (L' := [(2, vI (0 : Int32)), (0, vR (some p0)), (1, vI p1)]) dX7_freeFrom_1 (by decide) rfl ?_
  refine j_sub (L' := [(0, vR (some p0)), (1, vI p1), (2, vI (0 : Int32))]) [1, 2, 0] rfl ?_
  exact jL_X7_freeFrom_2 C E FU S p0 tp0 p1 (0 : Int32)
theorem c_X7_freeFrom {l : Launch} {D : va_G} {cy : Nat → ClassId} {Λ : sLay} {S : sSt} (p0 : Nat) (tp0 : isK Λ 7 p0) (p1 : Int32) {r : sSt} (h : F_X7_freeFrom Λ.2.2 S p0 p1 = some r) : jM l yX7_freeFrom (Cond.code yX7_freeFrom cX7_freeFrom 4 none :: bigW) rm_X7_freeFrom D cy Λ S [vR (some p0), vI p1] rV ((), r) := jM_of (by decide +kernel) (Nat.le_of_ble_eq_true rfl) (fun X C E _ _ _ => j_sub [0, 1] rfl (jF_X7_freeFrom C E p0 tp0 p1)) h
/-! RemakeNeeds2.Units.dropOne(I)V -/
abbrev rm_X7_dropOne : Room := { frames := 2, cells := 0, slots := 0, locals := 45 }
def B_X7_dropOne_52 (N : Nat → Nat) (k23 : sSt → Nat → Int32 → Int32 → Option sSt) (S : sSt) (p0 : Nat) (p1 : Int32) (p3 : Int32) : Option sSt := k23 S p0 p1 (p3 + (1 : Int32))
set_option maxHeartbeats 4000000 in
theorem jB_X7_dropOne_52 {X : jX} (C : jC X cX7_dropOne 5 RX7 rm_X7_dropOne) {Λ : sLay} {r : sSt} (E : jE X none rV Λ ((), r)) (k23 : sSt → Nat → Int32 → Int32 → Option sSt) (hk23 : ∀ (S : sSt) (p0 : Nat) (tp0 : isK Λ 7 p0) (p1 : Int32) (p3 : Int32), J X 5 0 0 23 [(0, vR (some p0)), (1, vI p1), (3, vI p3)] [] Λ S (k23 S p0 p1 p3 = some r)) : ∀ (S : sSt) (p0 : Nat) (tp0 : isK Λ 7 p0) (p1 : Int32) (p3 : Int32), J X 5 0 0 52 [(0, vR (some p0)), (1, vI p1), (3, vI p3)] [] Λ S (B_X7_dropOne_52 Λ.2.2 k23 S p0 p1 p3 = some r) := by
  intro S p0 tp0 p1 p3
  unfold B_X7_dropOne_52
  refine j_iinc C (v := (1 : Int32)) (L' := [(3, vI (p3 + (1 : Int32))), (0, vR (some p0)), (1, vI p1)]) dX7_dropOne_52 2 rfl (by decide) (by decide) rfl ?_
  refine j_goto C (tgt := 23) dX7_dropOne_55 (by decide) ?_
  refine j_sub (L' := [(0, vR (some p0)), (1, vI p1), (3, vI (p3 + (1 : Int32)))]) [1, 2, 0] rfl ?_
  exact hk23 S p0 tp0 p1 (p3 + (1 : Int32))
def Y_X7_dropOne_23 (N : Nat → Nat) (rec : sSt → Nat → Int32 → Int32 → Option sSt) (S : sSt) (p0 : Nat) (p1 : Int32) (p3 : Int32) : Option sSt := (if (gFI S 281 p0) ≤ p3 then some S else Option.bind (F_X7_at N S p0 p3) (fun v7 => onl v7 (B_X7_dropOne_52 N rec S p0 p1 p3) (fun a9 => bnd (gFR S 241 a9) (fun x10 => Option.bind x10 (fun a11 => Option.bind (F_X1_dropItem N S a11 p1) (fun S13 => B_X7_dropOne_52 N rec S13 p0 p1 p3))))))
set_option maxHeartbeats 4000000 in
theorem jY_X7_dropOne_23 {X : jX} (C : jC X cX7_dropOne 5 RX7 rm_X7_dropOne) {Λ : sLay} {r : sSt} (E : jE X none rV Λ ((), r)) (rec : sSt → Nat → Int32 → Int32 → Option sSt) (hrec : ∀ (S : sSt) (p0 : Nat) (tp0 : isK Λ 7 p0) (p1 : Int32) (p3 : Int32), J X 5 0 0 23 [(0, vR (some p0)), (1, vI p1), (3, vI p3)] [] Λ S (rec S p0 p1 p3 = some r)) : ∀ (S : sSt) (p0 : Nat) (tp0 : isK Λ 7 p0) (p1 : Int32) (p3 : Int32), J X 5 0 0 23 [(0, vR (some p0)), (1, vI p1), (3, vI p3)] [] Λ S (Y_X7_dropOne_23 Λ.2.2 rec S p0 p1 p3 = some r) := by
  intro S p0 tp0 p1 p3
  unfold Y_X7_dropOne_23
  refine j_iload_n C dX7_dropOne_23 2 rfl ?_
  refine j_aload_n C dX7_dropOne_24 0 rfl ?_
  refine j_getI C kK7 f281 kfX7_17 (by decide) tp0 dX7_dropOne_25 ?_
  refine j_icmp_ge C (tgt := 58) dX7_dropOne_28 (by decide) ?_ ?_
  · exact j_vretP C E dX7_dropOne_58
  · refine j_aload_n C dX7_dropOne_31 0 rfl ?_
    refine j_iload_n C dX7_dropOne_32 2 rfl ?_
    refine j_cVRP C [vI p3] [] (fun _ e => c_X7_at p0 tp0 p3 e) kYX7_at kVX7_at kmX7_31 kO7 tp0 rfl rfl ⟨rfl, rfl, by decide, by decide⟩ (Nat.le_of_ble_eq_true rfl) ⟨Nat.zero_le _, Nat.zero_le _⟩ dX7_dropOne_33 (fun v7 tv7 => ?_)
    refine j_astore C (L' := [(4, vR v7), (0, vR (some p0)), (1, vI p1), (3, vI p3)]) dX7_dropOne_36 (by decide) rfl ?_
    refine j_aload C dX7_dropOne_38 0 rfl ?_
    refine j_ifnull C (tgt := 52) tv7 dX7_dropOne_40 (by decide) (fun ea9 => ?_) (fun a9 ta9 ea9 => ?_)
    · subst ea9
      refine j_sub (L' := [(0, vR (some p0)), (1, vI p1), (3, vI p3)]) [1, 2, 3] rfl ?_
      exact jB_X7_dropOne_52 C E rec hrec S p0 tp0 p1 p3
    · subst ea9
      refine j_aload C dX7_dropOne_43 0 rfl ?_
      refine j_getR C kK6 f241 kfX7_38 (by decide) rfl ta9 dX7_dropOne_45 (fun x10 tx10 => ?_)
      refine j_iload_n C dX7_dropOne_48 2 rfl ?_
      refine j_oc tx10 (fun a11 ta11 ea11 => ?_)
      subst ea11
      refine j_cVVV C [vI p1] [] (fun _ e => c_X1_dropItem a11 ta11 p1 e) kYX1_dropItem kVX1_dropItem kmX7_42 kO1 ta11 rfl rfl ⟨rfl, rfl, by decide, by decide⟩ (Nat.le_of_ble_eq_true rfl) ⟨Nat.zero_le _, Nat.zero_le _⟩ dX7_dropOne_49 (fun S13 => ?_)
      refine j_sub (L' := [(0, vR (some p0)), (1, vI p1), (3, vI p3)]) [1, 2, 3] rfl ?_
      exact jB_X7_dropOne_52 C E rec hrec S13 p0 tp0 p1 p3
def L_X7_dropOne_23 (N : Nat → Nat) (n : Nat) : sSt → Nat → Int32 → Int32 → Option sSt := iter (fun _ _ _ _ => none) (Y_X7_dropOne_23 N) n
theorem jL_X7_dropOne_23 {X : jX} (C : jC X cX7_dropOne 5 RX7 rm_X7_dropOne) {Λ : sLay} {r : sSt} (E : jE X none rV Λ ((), r)) : ∀ (n : Nat) (S : sSt) (p0 : Nat) (tp0 : isK Λ 7 p0) (p1 : Int32) (p3 : Int32), J X 5 0 0 23 [(0, vR (some p0)), (1, vI p1), (3, vI p3)] [] Λ S (L_X7_dropOne_23 Λ.2.2 n S p0 p1 p3 = some r) := by
  intro n
  induction n with
  | zero => intro S p0 tp0 p1 p3; exact j_no (fun h => by have h2 : (none : Option sSt) = some r := h; cases h2)
  | succ n ih => intro S p0 tp0 p1 p3; exact jY_X7_dropOne_23 C E (L_X7_dropOne_23 Λ.2.2 n) ih S p0 tp0 p1 p3
def F_X7_dropOne (N : Nat → Nat) (S : sSt) (p0 : Nat) (p1 : Int32) : Option sSt := Option.bind (F_X7_at N S p0 p1) (fun v1 => onl v1 (some S) (fun a3 => bnd (sFI S 247 a3 (0 : Int32)) (fun S4 => Option.bind (F_X7_freeFrom N S4 p0 p1) (fun S6 => L_X7_dropOne_23 N FU S6 p0 p1 (0 : Int32)))))
set_option maxHeartbeats 4000000 in
theorem jF_X7_dropOne {X : jX} (C : jC X cX7_dropOne 5 RX7 rm_X7_dropOne) {Λ : sLay} {S : sSt} {r : sSt} (E : jE X none rV Λ ((), r)) (p0 : Nat) (tp0 : isK Λ 7 p0) (p1 : Int32) : J X 5 0 0 0 [(0, vR (some p0)), (1, vI p1)] [] Λ S (F_X7_dropOne Λ.2.2 S p0 p1 = some r) := by
  unfold F_X7_dropOne
  refine j_aload_n C dX7_dropOne_0 0 rfl ?_
  refine j_iload_n C dX7_dropOne_1 1 rfl ?_
  refine j_cVRP C [vI p1] [] (fun _ e => c_X7_at p0 tp0 p1 e) kYX7_at kVX7_at kmX7_31 kO7 tp0 rfl rfl ⟨rfl, rfl, by decide, by decide⟩ (Nat.le_of_ble_eq_true rfl) ⟨Nat.zero_le _, Nat.zero_le _⟩ dX7_dropOne_2 (fun v1 tv1 => ?_)
  refine j_astore_n C (L' := [(2, vR v1), (0, vR (some p0)), (1, vI p1)]) dX7_dropOne_5 (by decide) rfl ?_
  refine j_aload_n C dX7_dropOne_6 0 rfl ?_
  refine j_ifnonnull C (tgt := 11) tv1 dX7_dropOne_7 (by decide) (fun ea3 => ?_) (fun a3 ta3 ea3 => ?_)
  · subst ea3
    exact j_vretP C E dX7_dropOne_10
  · subst ea3
    refine j_aload_n C dX7_dropOne_11 0 rfl ?_
    refine j_iconst C (v := (0 : Int32)) dX7_dropOne_12 (by decide) ?_
    refine j_putI C kK6 f247 kfX7_21 (by decide) rfl rfl rfl ta3 dX7_dropOne_13 (fun S4 => ?_)
    refine j_aload_n C dX7_dropOne_16 1 rfl ?_
    refine j_iload_n C dX7_dropOne_17 2 rfl ?_
    refine j_cVVV C [vI p1] [] (fun _ e => c_X7_freeFrom p0 tp0 p1 e) kYX7_freeFrom kVX7_freeFrom kmX7_35 kO7 tp0 rfl rfl ⟨rfl, rfl, by decide, by decide⟩ (Nat.le_of_ble_eq_true rfl) ⟨Nat.zero_le _, Nat.zero_le _⟩ dX7_dropOne_18 (fun S6 => ?_)
    refine j_iconst C (v := (0 : Int32)) dX7_dropOne_21 (by decide) ?_
    refine j_istore_n C (L' := [(3, vI (0 : Int32)), (2, vR (some a3)), (0, vR (some p0)), (1, vI p1)]) dX7_dropOne_22 (by decide) rfl ?_
    refine j_sub (L' := [(0, vR (some p0)), (1, vI p1), (3, vI (0 : Int32))]) [2, 3, 0] rfl ?_
    exact jL_X7_dropOne_23 C E FU S6 p0 tp0 p1 (0 : Int32)
theorem c_X7_dropOne {l : Launch} {D : va_G} {cy : Nat → ClassId} {Λ : sLay} {S : sSt} (p0 : Nat) (tp0 : isK Λ 7 p0) (p1 : Int32) {r : sSt} (h : F_X7_dropOne Λ.2.2 S p0 p1 = some r) : jM l yX7_dropOne (Cond.code yX7_dropOne cX7_dropOne 5 none :: bigW) rm_X7_dropOne D cy Λ S [vR (some p0), vI p1] rV ((), r) := jM_of (by decide +kernel) (Nat.le_of_ble_eq_true rfl) (fun X C E _ _ _ => j_sub [0, 1] rfl (jF_X7_dropOne C E p0 tp0 p1)) h
/-! RemakeNeeds2.Units.missingOf(LRemakeNeeds2$Unit;)I -/
abbrev rm_X7_missingOf : Room := { frames := 2, cells := 0, slots := 0, locals := 48 }
def B_X7_missingOf_36 (N : Nat → Nat) (k10 : sSt → Nat → Nat → (Option Nat) → Int32 → Int32 → Option (Int32 × sSt)) (S : sSt) (p0 : Nat) (p1 : Nat) (p2 : Nat) (p3 : Int32) (p4 : Int32) : Option (Int32 × sSt) := k10 S p0 p1 (some p2) p3 (p4 + (1 : Int32))
set_option maxHeartbeats 4000000 in
theorem jB_X7_missingOf_36 {X : jX} (C : jC X cX7_missingOf 5 RX7 rm_X7_missingOf) {Λ : sLay} {r : (Int32 × sSt)} (E : jE X (some .int) rI Λ r) (k10 : sSt → Nat → Nat → (Option Nat) → Int32 → Int32 → Option (Int32 × sSt)) (hk10 : ∀ (S : sSt) (p0 : Nat) (tp0 : isK Λ 7 p0) (p1 : Nat) (tp1 : isK Λ 6 p1) (p2 : Option Nat) (tp2 : okK Λ 1 p2) (p3 : Int32) (p4 : Int32), J X 5 0 0 10 [(0, vR (some p0)), (1, vR (some p1)), (2, vR p2), (3, vI p3), (4, vI p4)] [] Λ S (k10 S p0 p1 p2 p3 p4 = some r)) : ∀ (S : sSt) (p0 : Nat) (tp0 : isK Λ 7 p0) (p1 : Nat) (tp1 : isK Λ 6 p1) (p2 : Nat) (tp2 : isK Λ 1 p2) (p3 : Int32) (p4 : Int32), J X 5 0 0 36 [(0, vR (some p0)), (1, vR (some p1)), (2, vR (some p2)), (3, vI p3), (4, vI p4)] [] Λ S (B_X7_missingOf_36 Λ.2.2 k10 S p0 p1 p2 p3 p4 = some r) := by
  intro S p0 tp0 p1 tp1 p2 tp2 p3 p4
  unfold B_X7_missingOf_36
  refine j_iinc C (v := (1 : Int32)) (L' := [(4, vI (p4 + (1 : Int32))), (0, vR (some p0)), (1, vR (some p1)), (2, vR (some p2)), (3, vI p3)]) dX7_missingOf_36 4 rfl (by decide) (by decide) rfl ?_
  refine j_goto C (tgt := 10) dX7_missingOf_39 (by decide) ?_
  refine j_sub (L' := [(0, vR (some p0)), (1, vR (some p1)), (2, vR (some p2)), (3, vI p3), (4, vI (p4 + (1 : Int32)))]) [1, 2, 3, 4, 0] rfl ?_
  exact hk10 S p0 tp0 p1 tp1 (some p2) (okS tp2) p3 (p4 + (1 : Int32))
def Y_X7_missingOf_10 (N : Nat → Nat) (rec : sSt → Nat → Nat → (Option Nat) → Int32 → Int32 → Option (Int32 × sSt)) (S : sSt) (p0 : Nat) (p1 : Nat) (p2 : Option Nat) (p3 : Int32) (p4 : Int32) : Option (Int32 × sSt) := Option.bind p2 (fun a4 => Option.bind (F_X1_length N S a4) (fun v5 => (if v5 ≤ p4 then some (p3, S) else Option.bind (F_X1_at N S a4 p4) (fun v7 => Option.bind (F_X7_lookFrom N S p0 (some p1) v7) (fun v9 => onl v9 (B_X7_missingOf_36 N rec S p0 p1 a4 (p3 + (1 : Int32)) p4) (fun a11 => B_X7_missingOf_36 N rec S p0 p1 a4 p3 p4))))))
set_option maxHeartbeats 4000000 in
theorem jY_X7_missingOf_10 {X : jX} (C : jC X cX7_missingOf 5 RX7 rm_X7_missingOf) {Λ : sLay} {r : (Int32 × sSt)} (E : jE X (some .int) rI Λ r) (rec : sSt → Nat → Nat → (Option Nat) → Int32 → Int32 → Option (Int32 × sSt)) (hrec : ∀ (S : sSt) (p0 : Nat) (tp0 : isK Λ 7 p0) (p1 : Nat) (tp1 : isK Λ 6 p1) (p2 : Option Nat) (tp2 : okK Λ 1 p2) (p3 : Int32) (p4 : Int32), J X 5 0 0 10 [(0, vR (some p0)), (1, vR (some p1)), (2, vR p2), (3, vI p3), (4, vI p4)] [] Λ S (rec S p0 p1 p2 p3 p4 = some r)) : ∀ (S : sSt) (p0 : Nat) (tp0 : isK Λ 7 p0) (p1 : Nat) (tp1 : isK Λ 6 p1) (p2 : Option Nat) (tp2 : okK Λ 1 p2) (p3 : Int32) (p4 : Int32), J X 5 0 0 10 [(0, vR (some p0)), (1, vR (some p1)), (2, vR p2), (3, vI p3), (4, vI p4)] [] Λ S (Y_X7_missingOf_10 Λ.2.2 rec S p0 p1 p2 p3 p4 = some r) := by
  intro S p0 tp0 p1 tp1 p2 tp2 p3 p4
  unfold Y_X7_missingOf_10
  refine j_iload C dX7_missingOf_10 4 rfl ?_
  refine j_aload_n C dX7_missingOf_12 2 rfl ?_
  refine j_oc tp2 (fun a4 ta4 ea4 => ?_)
  subst ea4
  refine j_cVIP C [] [vI p4] (fun _ e => c_X1_length a4 ta4 e) kYX1_length kVX1_length kmX7_54 kO1 ta4 rfl rfl ⟨rfl, rfl, by decide, by decide⟩ (Nat.le_of_ble_eq_true rfl) ⟨Nat.zero_le _, Nat.zero_le _⟩ dX7_missingOf_13 (fun v5 => ?_)
  refine j_icmp_ge C (tgt := 42) dX7_missingOf_16 (by decide) ?_ ?_
  · refine j_iload_n C dX7_missingOf_42 3 rfl ?_
    exact j_iret C E dX7_missingOf_43
  · refine j_aload_n C dX7_missingOf_19 0 rfl ?_
    refine j_aload_n C dX7_missingOf_20 1 rfl ?_
    refine j_aload_n C dX7_missingOf_21 2 rfl ?_
    refine j_iload C dX7_missingOf_22 4 rfl ?_
    refine j_cVIP C [vI p4] [vR (some p1), vR (some p0)] (fun _ e => c_X1_at a4 ta4 p4 e) kYX1_at kVX1_at kmX7_58 kO1 ta4 rfl rfl ⟨rfl, rfl, by decide, by decide⟩ (Nat.le_of_ble_eq_true rfl) ⟨Nat.zero_le _, Nat.zero_le _⟩ dX7_missingOf_24 (fun v7 => ?_)
    refine j_cVRP C [vR (some p1), vI v7] [] (fun _ e => c_X7_lookFrom p0 tp0 (some p1) (okS tp1) v7 e) kYX7_lookFrom kVX7_lookFrom kmX7_76 kO7 tp0 rfl rfl ⟨rfl, rfl, by decide, by decide⟩ (Nat.le_of_ble_eq_true rfl) ⟨Nat.zero_le _, Nat.zero_le _⟩ dX7_missingOf_27 (fun v9 tv9 => ?_)
    refine j_ifnonnull C (tgt := 36) tv9 dX7_missingOf_30 (by decide) (fun ea11 => ?_) (fun a11 ta11 ea11 => ?_)
    · subst ea11
      refine j_iinc C (v := (1 : Int32)) (L' := [(3, vI (p3 + (1 : Int32))), (0, vR (some p0)), (1, vR (some p1)), (2, vR (some a4)), (4, vI p4)]) dX7_missingOf_33 3 rfl (by decide) (by decide) rfl ?_
      refine j_sub (L' := [(0, vR (some p0)), (1, vR (some p1)), (2, vR (some a4)), (3, vI (p3 + (1 : Int32))), (4, vI p4)]) [1, 2, 3, 0, 4] rfl ?_
      exact jB_X7_missingOf_36 C E rec hrec S p0 tp0 p1 tp1 a4 ta4 (p3 + (1 : Int32)) p4
    · subst ea11
      exact jB_X7_missingOf_36 C E rec hrec S p0 tp0 p1 tp1 a4 ta4 p3 p4
def L_X7_missingOf_10 (N : Nat → Nat) (n : Nat) : sSt → Nat → Nat → (Option Nat) → Int32 → Int32 → Option (Int32 × sSt) := iter (fun _ _ _ _ _ _ => none) (Y_X7_missingOf_10 N) n
theorem jL_X7_missingOf_10 {X : jX} (C : jC X cX7_missingOf 5 RX7 rm_X7_missingOf) {Λ : sLay} {r : (Int32 × sSt)} (E : jE X (some .int) rI Λ r) : ∀ (n : Nat) (S : sSt) (p0 : Nat) (tp0 : isK Λ 7 p0) (p1 : Nat) (tp1 : isK Λ 6 p1) (p2 : Option Nat) (tp2 : okK Λ 1 p2) (p3 : Int32) (p4 : Int32), J X 5 0 0 10 [(0, vR (some p0)), (1, vR (some p1)), (2, vR p2), (3, vI p3), (4, vI p4)] [] Λ S (L_X7_missingOf_10 Λ.2.2 n S p0 p1 p2 p3 p4 = some r) := by
  intro n
  induction n with
  | zero => intro S p0 tp0 p1 tp1 p2 tp2 p3 p4; exact j_no (fun h => by have h2 : (none : Option (Int32 × sSt)) = some r := h; cases h2)
  | succ n ih => intro S p0 tp0 p1 tp1 p2 tp2 p3 p4; exact jY_X7_missingOf_10 C E (L_X7_missingOf_10 Λ.2.2 n) ih S p0 tp0 p1 tp1 p2 tp2 p3 p4
def F_X7_missingOf (N : Nat → Nat) (S : sSt) (p0 : Nat) (p1 : Option Nat) : Option (Int32 × sSt) := Option.bind p1 (fun a1 => obd (F_X6_sought N S a1) (fun v2 S3 => L_X7_missingOf_10 N FU S3 p0 a1 v2 (0 : Int32) (0 : Int32)))
set_option maxHeartbeats 4000000 in
theorem jF_X7_missingOf {X : jX} (C : jC X cX7_missingOf 5 RX7 rm_X7_missingOf) {Λ : sLay} {S : sSt} {r : (Int32 × sSt)} (E : jE X (some .int) rI Λ r) (p0 : Nat) (tp0 : isK Λ 7 p0) (p1 : Option Nat) (tp1 : okK Λ 6 p1) : J X 5 0 0 0 [(0, vR (some p0)), (1, vR p1)] [] Λ S (F_X7_missingOf Λ.2.2 S p0 p1 = some r) := by
  unfold F_X7_missingOf
  refine j_aload_n C dX7_missingOf_0 1 rfl ?_
  refine j_oc tp1 (fun a1 ta1 ea1 => ?_)
  subst ea1
  refine j_cVRG C [] [] (fun _ _ e => c_X6_sought a1 ta1 e) kYX6_sought kVX6_sought kmX7_80 kO6 ta1 rfl rfl ⟨rfl, rfl, by decide, by decide⟩ (Nat.le_of_ble_eq_true rfl) ⟨Nat.zero_le _, Nat.zero_le _⟩ dX7_missingOf_1 (fun v2 S3 tv2 => ?_)
  refine j_astore_n C (L' := [(2, vR v2), (0, vR (some p0)), (1, vR (some a1))]) dX7_missingOf_4 (by decide) rfl ?_
  refine j_iconst C (v := (0 : Int32)) dX7_missingOf_5 (by decide) ?_
  refine j_istore_n C (L' := [(3, vI (0 : Int32)), (2, vR v2), (0, vR (some p0)), (1, vR (some a1))]) dX7_missingOf_6 (by decide) rfl ?_
  refine j_iconst C (v := (0 : Int32)) dX7_missingOf_7 (by decide) ?_
  refine j_istore C (L' := [(4, vI (0 : Int32)), (3, vI (0 : Int32)), (2, vR v2), (0, vR (some p0)), (1, vR (some a1))]) dX7_missingOf_8 (by decide) rfl ?_
  refine j_sub (L' := [(0, vR (some p0)), (1, vR (some a1)), (2, vR v2), (3, vI (0 : Int32)), (4, vI (0 : Int32))]) [3, 4, 2, 1, 0] rfl ?_
  exact jL_X7_missingOf_10 C E FU S3 p0 tp0 a1 ta1 v2 tv2 (0 : Int32) (0 : Int32)
theorem c_X7_missingOf {l : Launch} {D : va_G} {cy : Nat → ClassId} {Λ : sLay} {S : sSt} (p0 : Nat) (tp0 : isK Λ 7 p0) (p1 : Option Nat) (tp1 : okK Λ 6 p1) {v : Int32} {S1 : sSt} (h : F_X7_missingOf Λ.2.2 S p0 p1 = some (v, S1)) : jM l yX7_missingOf (Cond.code yX7_missingOf cX7_missingOf 5 (some .int) :: bigW) rm_X7_missingOf D cy Λ S [vR (some p0), vR p1] rI (v, S1) := jM_of (by decide +kernel) (Nat.le_of_ble_eq_true rfl) (fun X C E _ _ _ => j_sub [0, 1] rfl (jF_X7_missingOf C E p0 tp0 p1 tp1)) h
/-! RemakeNeeds2.Units.thereNow()I -/
abbrev rm_X7_thereNow : Room := { frames := 1, cells := 0, slots := 0, locals := 22 }
def B_X7_thereNow_23 (N : Nat → Nat) (S : sSt) (k4 : Nat → Int32 → Int32 → Option Int32) (p0 : Nat) (p1 : Int32) (p2 : Int32) : Option Int32 := k4 p0 p1 (p2 + (1 : Int32))
set_option maxHeartbeats 4000000 in
theorem jB_X7_thereNow_23 {X : jX} (C : jC X cX7_thereNow 3 RX7 rm_X7_thereNow) {Λ : sLay} {S : sSt} {r : Int32} (E : jE X (some .int) rI Λ (r, S)) (k4 : Nat → Int32 → Int32 → Option Int32) (hk4 : ∀ (p0 : Nat) (tp0 : isK Λ 7 p0) (p1 : Int32) (p2 : Int32), J X 3 0 0 4 [(0, vR (some p0)), (1, vI p1), (2, vI p2)] [] Λ S (k4 p0 p1 p2 = some r)) : ∀ (p0 : Nat) (tp0 : isK Λ 7 p0) (p1 : Int32) (p2 : Int32), J X 3 0 0 23 [(0, vR (some p0)), (1, vI p1), (2, vI p2)] [] Λ S (B_X7_thereNow_23 Λ.2.2 S k4 p0 p1 p2 = some r) := by
  intro p0 tp0 p1 p2
  unfold B_X7_thereNow_23
  refine j_iinc C (v := (1 : Int32)) (L' := [(2, vI (p2 + (1 : Int32))), (0, vR (some p0)), (1, vI p1)]) dX7_thereNow_23 2 rfl (by decide) (by decide) rfl ?_
  refine j_goto C (tgt := 4) dX7_thereNow_26 (by decide) ?_
  refine j_sub (L' := [(0, vR (some p0)), (1, vI p1), (2, vI (p2 + (1 : Int32)))]) [1, 2, 0] rfl ?_
  exact hk4 p0 tp0 p1 (p2 + (1 : Int32))
def Y_X7_thereNow_4 (N : Nat → Nat) (S : sSt) (rec : Nat → Int32 → Int32 → Option Int32) (p0 : Nat) (p1 : Int32) (p2 : Int32) : Option Int32 := (if (gFI S 281 p0) ≤ p2 then some p1 else Option.bind (F_X7_at N S p0 p2) (fun v1 => onl v1 (B_X7_thereNow_23 N S rec p0 p1 p2) (fun a3 => B_X7_thereNow_23 N S rec p0 (p1 + (1 : Int32)) p2)))
set_option maxHeartbeats 4000000 in
theorem jY_X7_thereNow_4 {X : jX} (C : jC X cX7_thereNow 3 RX7 rm_X7_thereNow) {Λ : sLay} {S : sSt} {r : Int32} (E : jE X (some .int) rI Λ (r, S)) (rec : Nat → Int32 → Int32 → Option Int32) (hrec : ∀ (p0 : Nat) (tp0 : isK Λ 7 p0) (p1 : Int32) (p2 : Int32), J X 3 0 0 4 [(0, vR (some p0)), (1, vI p1), (2, vI p2)] [] Λ S (rec p0 p1 p2 = some r)) : ∀ (p0 : Nat) (tp0 : isK Λ 7 p0) (p1 : Int32) (p2 : Int32), J X 3 0 0 4 [(0, vR (some p0)), (1, vI p1), (2, vI p2)] [] Λ S (Y_X7_thereNow_4 Λ.2.2 S rec p0 p1 p2 = some r) := by
  intro p0 tp0 p1 p2
  unfold Y_X7_thereNow_4
  refine j_iload_n C dX7_thereNow_4 2 rfl ?_
  refine j_aload_n C dX7_thereNow_5 0 rfl ?_
  refine j_getI C kK7 f281 kfX7_17 (by decide) tp0 dX7_thereNow_6 ?_
  refine j_icmp_ge C (tgt := 29) dX7_thereNow_9 (by decide) ?_ ?_
  · refine j_iload_n C dX7_thereNow_29 1 rfl ?_
    exact j_iretP C E dX7_thereNow_30
  · refine j_aload_n C dX7_thereNow_12 0 rfl ?_
    refine j_iload_n C dX7_thereNow_13 2 rfl ?_
    refine j_cVRP C [vI p2] [] (fun _ e => c_X7_at p0 tp0 p2 e) kYX7_at kVX7_at kmX7_31 kO7 tp0 rfl rfl ⟨rfl, rfl, by decide, by decide⟩ (Nat.le_of_ble_eq_true rfl) ⟨Nat.zero_le _, Nat.zero_le _⟩ dX7_thereNow_14 (fun v1 tv1 => ?_)
    refine j_ifnull C (tgt := 23) tv1 dX7_thereNow_17 (by decide) (fun ea3 => ?_) (fun a3 ta3 ea3 => ?_)
    · subst ea3
      exact jB_X7_thereNow_23 C E rec hrec p0 tp0 p1 p2
    · subst ea3
      refine j_iinc C (v := (1 : Int32)) (L' := [(1, vI (p1 + (1 : Int32))), (0, vR (some p0)), (2, vI p2)]) dX7_thereNow_20 1 rfl (by decide) (by decide) rfl ?_
      refine j_sub (L' := [(0, vR (some p0)), (1, vI (p1 + (1 : Int32))), (2, vI p2)]) [1, 0, 2] rfl ?_
      exact jB_X7_thereNow_23 C E rec hrec p0 tp0 (p1 + (1 : Int32)) p2
def L_X7_thereNow_4 (N : Nat → Nat) (S : sSt) (n : Nat) : Nat → Int32 → Int32 → Option Int32 := iter (fun _ _ _ => none) (Y_X7_thereNow_4 N S) n
theorem jL_X7_thereNow_4 {X : jX} (C : jC X cX7_thereNow 3 RX7 rm_X7_thereNow) {Λ : sLay} {S : sSt} {r : Int32} (E : jE X (some .int) rI Λ (r, S)) : ∀ (n : Nat) (p0 : Nat) (tp0 : isK Λ 7 p0) (p1 : Int32) (p2 : Int32), J X 3 0 0 4 [(0, vR (some p0)), (1, vI p1), (2, vI p2)] [] Λ S (L_X7_thereNow_4 Λ.2.2 S n p0 p1 p2 = some r) := by
  intro n
  induction n with
  | zero => intro p0 tp0 p1 p2; exact j_no (fun h => by have h2 : (none : Option Int32) = some r := h; cases h2)
  | succ n ih => intro p0 tp0 p1 p2; exact jY_X7_thereNow_4 C E (L_X7_thereNow_4 Λ.2.2 S n) ih p0 tp0 p1 p2
def F_X7_thereNow (N : Nat → Nat) (S : sSt) (p0 : Nat) : Option Int32 := L_X7_thereNow_4 N S FU p0 (0 : Int32) (0 : Int32)
set_option maxHeartbeats 4000000 in
theorem jF_X7_thereNow {X : jX} (C : jC X cX7_thereNow 3 RX7 rm_X7_thereNow) {Λ : sLay} {S : sSt} {r : Int32} (E : jE X (some .int) rI Λ (r, S)) (p0 : Nat) (tp0 : isK Λ 7 p0) : J X 3 0 0 0 [(0, vR (some p0))] [] Λ S (F_X7_thereNow Λ.2.2 S p0 = some r) := by
  unfold F_X7_thereNow
  refine j_iconst C (v := (0 : Int32)) dX7_thereNow_0 (by decide) ?_
  refine j_istore_n C (L' := [(1, vI (0 : Int32)), (0, vR (some p0))]) dX7_thereNow_1 (by decide) rfl ?_
  refine j_iconst C (v := (0 : Int32)) dX7_thereNow_2 (by decide) ?_
  refine j_istore_n C (L' := [(2, vI (0 : Int32)), (1, vI (0 : Int32)), (0, vR (some p0))]) dX7_thereNow_3 (by decide) rfl ?_
  refine j_sub (L' := [(0, vR (some p0)), (1, vI (0 : Int32)), (2, vI (0 : Int32))]) [2, 1, 0] rfl ?_
  exact jL_X7_thereNow_4 C E FU p0 tp0 (0 : Int32) (0 : Int32)
theorem c_X7_thereNow {l : Launch} {D : va_G} {cy : Nat → ClassId} {Λ : sLay} {S : sSt} (p0 : Nat) (tp0 : isK Λ 7 p0) {r : Int32} (h : F_X7_thereNow Λ.2.2 S p0 = some r) : jM l yX7_thereNow (Cond.code yX7_thereNow cX7_thereNow 3 (some .int) :: bigW) rm_X7_thereNow D cy Λ S [vR (some p0)] rI (r, S) := jM_of (by decide +kernel) (Nat.le_of_ble_eq_true rfl) (fun X C E _ _ _ => j_sub [0] rfl (jF_X7_thereNow C E p0 tp0)) h
/-! RemakeNeeds2.anew()J -/
abbrev rm_X8_anew : Room := { frames := 6, cells := 0, slots := 0, locals := 142 }
def B_X8_anew_88 (N : Nat → Nat) (k28 : sSt → Nat → Int64 → Int32 → Option (Int64 × sSt)) (S : sSt) (p0 : Nat) (p1 : Int64) (p3 : Int32) : Option (Int64 × sSt) := k28 S p0 p1 (p3 + (1 : Int32))
set_option maxHeartbeats 4000000 in
theorem jB_X8_anew_88 {X : jX} (C : jC X cX8_anew 5 RX8 rm_X8_anew) {Λ : sLay} {r : (Int64 × sSt)} (E : jE X (some .long) rJ Λ r) (k28 : sSt → Nat → Int64 → Int32 → Option (Int64 × sSt)) (hk28 : ∀ (S : sSt) (p0 : Nat) (tp0 : isK Λ 8 p0) (p1 : Int64) (p3 : Int32), J X 5 0 0 28 [(0, vR (some p0)), (1, vJ p1), (3, vI p3)] [] Λ S (k28 S p0 p1 p3 = some r)) : ∀ (S : sSt) (p0 : Nat) (tp0 : isK Λ 8 p0) (p1 : Int64) (p3 : Int32), J X 5 0 0 88 [(0, vR (some p0)), (1, vJ p1), (3, vI p3)] [] Λ S (B_X8_anew_88 Λ.2.2 k28 S p0 p1 p3 = some r) := by
  intro S p0 tp0 p1 p3
  unfold B_X8_anew_88
  refine j_iinc C (v := (1 : Int32)) (L' := [(3, vI (p3 + (1 : Int32))), (0, vR (some p0)), (1, vJ p1)]) dX8_anew_88 2 rfl (by decide) (by decide) rfl ?_
  refine j_goto C (tgt := 28) dX8_anew_91 (by decide) ?_
  refine j_sub (L' := [(0, vR (some p0)), (1, vJ p1), (3, vI (p3 + (1 : Int32)))]) [1, 2, 0] rfl ?_
  exact hk28 S p0 tp0 p1 (p3 + (1 : Int32))
def Y_X8_anew_28 (N : Nat → Nat) (rec : sSt → Nat → Int64 → Int32 → Option (Int64 × sSt)) (S : sSt) (p0 : Nat) (p1 : Int64) (p3 : Int32) : Option (Int64 × sSt) := bnd (gFR S 323 p0) (fun x11 => Option.bind x11 (fun a12 => bnd (gFR S 82 a12) (fun x13 => Option.bind x13 (fun a14 => Option.bind (F_X1_length N S a14) (fun v15 => (if v15 ≤ p3 then some (p1, S) else bnd (gFR S 320 p0) (fun x17 => bnd (gFR S 323 p0) (fun x18 => Option.bind x18 (fun a19 => bnd (gFR S 82 a19) (fun x20 => Option.bind x20 (fun a21 => Option.bind (F_X1_at N S a21 p3) (fun v22 => Option.bind x17 (fun a24 => Option.bind (F_X7_at N S a24 v22) (fun v25 => onl v25 (B_X8_anew_88 N rec S p0 p1 p3) (fun a27 => bnd (gFR S 322 p0) (fun x28 => bnd (gFR S 320 p0) (fun x29 => Option.bind x28 (fun a30 => obd (F_X4_now N S a30 (some a27) x29) (fun v31 S32 => Option.bind v31 (fun a33 => Option.bind (F_X3_digest N S32 a33) (fun v34 => Option.bind (F_X3_mix N S32 p1 v34) (fun v36 => B_X8_anew_88 N rec S32 p0 v36 p3))))))))))))))))))))))
set_option maxHeartbeats 4000000 in
theorem jY_X8_anew_28 {X : jX} (C : jC X cX8_anew 5 RX8 rm_X8_anew) {Λ : sLay} {r : (Int64 × sSt)} (E : jE X (some .long) rJ Λ r) (rec : sSt → Nat → Int64 → Int32 → Option (Int64 × sSt)) (hrec : ∀ (S : sSt) (p0 : Nat) (tp0 : isK Λ 8 p0) (p1 : Int64) (p3 : Int32), J X 5 0 0 28 [(0, vR (some p0)), (1, vJ p1), (3, vI p3)] [] Λ S (rec S p0 p1 p3 = some r)) : ∀ (S : sSt) (p0 : Nat) (tp0 : isK Λ 8 p0) (p1 : Int64) (p3 : Int32), J X 5 0 0 28 [(0, vR (some p0)), (1, vJ p1), (3, vI p3)] [] Λ S (Y_X8_anew_28 Λ.2.2 rec S p0 p1 p3 = some r) := by
  intro S p0 tp0 p1 p3
  unfold Y_X8_anew_28
  refine j_iload_n C dX8_anew_28 2 rfl ?_
  refine j_aload_n C dX8_anew_29 0 rfl ?_
  refine j_getR C kK8 f323 kfX8_33 (by decide) rfl tp0 dX8_anew_30 (fun x11 tx11 => ?_)
  refine j_oc tx11 (fun a12 ta12 ea12 => ?_)
  subst ea12
  refine j_getR C kK2 f82 kfX8_205 (by decide) rfl ta12 dX8_anew_33 (fun x13 tx13 => ?_)
  refine j_oc tx13 (fun a14 ta14 ea14 => ?_)
  subst ea14
  refine j_cVIP C [] [vI p3] (fun _ e => c_X1_length a14 ta14 e) kYX1_length kVX1_length kmX8_99 kO1 ta14 rfl rfl ⟨rfl, rfl, by decide, by decide⟩ (Nat.le_of_ble_eq_true rfl) ⟨Nat.zero_le _, Nat.zero_le _⟩ dX8_anew_36 (fun v15 => ?_)
  refine j_icmp_ge C (tgt := 94) dX8_anew_39 (by decide) ?_ ?_
  · refine j_lload_n C dX8_anew_94 1 rfl ?_
    exact j_lret C E dX8_anew_95
  · refine j_aload_n C dX8_anew_42 0 rfl ?_
    refine j_getR C kK8 f320 kfX8_12 (by decide) rfl tp0 dX8_anew_43 (fun x17 tx17 => ?_)
    refine j_aload_n C dX8_anew_46 0 rfl ?_
    refine j_getR C kK8 f323 kfX8_33 (by decide) rfl tp0 dX8_anew_47 (fun x18 tx18 => ?_)
    refine j_oc tx18 (fun a19 ta19 ea19 => ?_)
    subst ea19
    refine j_getR C kK2 f82 kfX8_205 (by decide) rfl ta19 dX8_anew_50 (fun x20 tx20 => ?_)
    refine j_iload_n C dX8_anew_53 2 rfl ?_
    refine j_oc tx20 (fun a21 ta21 ea21 => ?_)
    subst ea21
    refine j_cVIP C [vI p3] [vR x17] (fun _ e => c_X1_at a21 ta21 p3 e) kYX1_at kVX1_at kmX8_208 kO1 ta21 rfl rfl ⟨rfl, rfl, by decide, by decide⟩ (Nat.le_of_ble_eq_true rfl) ⟨Nat.zero_le _, Nat.zero_le _⟩ dX8_anew_54 (fun v22 => ?_)
    refine j_oc tx17 (fun a24 ta24 ea24 => ?_)
    subst ea24
    refine j_cVRP C [vI v22] [] (fun _ e => c_X7_at a24 ta24 v22 e) kYX7_at kVX7_at kmX8_50 kO7 ta24 rfl rfl ⟨rfl, rfl, by decide, by decide⟩ (Nat.le_of_ble_eq_true rfl) ⟨Nat.zero_le _, Nat.zero_le _⟩ dX8_anew_57 (fun v25 tv25 => ?_)
    refine j_astore C (L' := [(4, vR v25), (0, vR (some p0)), (1, vJ p1), (3, vI p3)]) dX8_anew_60 (by decide) rfl ?_
    refine j_aload C dX8_anew_62 0 rfl ?_
    refine j_ifnull C (tgt := 88) tv25 dX8_anew_64 (by decide) (fun ea27 => ?_) (fun a27 ta27 ea27 => ?_)
    · subst ea27
      refine j_sub (L' := [(0, vR (some p0)), (1, vJ p1), (3, vI p3)]) [1, 2, 3] rfl ?_
      exact jB_X8_anew_88 C E rec hrec S p0 tp0 p1 p3
    · subst ea27
      refine j_lload_n C dX8_anew_67 2 rfl ?_
      refine j_aload_n C dX8_anew_68 1 rfl ?_
      refine j_getR C kK8 f322 kfX8_26 (by decide) rfl tp0 dX8_anew_69 (fun x28 tx28 => ?_)
      refine j_aload C dX8_anew_72 0 rfl ?_
      refine j_aload_n C dX8_anew_74 1 rfl ?_
      refine j_getR C kK8 f320 kfX8_12 (by decide) rfl tp0 dX8_anew_75 (fun x29 tx29 => ?_)
      refine j_oc tx28 (fun a30 ta30 ea30 => ?_)
      subst ea30
      refine j_cVRG C [vR (some a27), vR x29] [vJ p1] (fun _ _ e => c_X4_now a30 ta30 (some a27) (okS ta27) x29 tx29 e) kYX4_now kVX4_now kmX8_167 kO4 ta30 rfl rfl ⟨rfl, rfl, by decide, by decide⟩ (Nat.le_of_ble_eq_true rfl) ⟨Nat.zero_le _, Nat.zero_le _⟩ dX8_anew_78 (fun v31 S32 tv31 => ?_)
      refine j_oc tv31 (fun a33 ta33 ea33 => ?_)
      subst ea33
      refine j_cVJP C [] [vJ p1] (fun _ e => c_X3_digest a33 ta33 e) kYX3_digest kVX3_digest kmX8_214 kO3 ta33 rfl rfl ⟨rfl, rfl, by decide, by decide⟩ (Nat.le_of_ble_eq_true rfl) ⟨Nat.zero_le _, Nat.zero_le _⟩ dX8_anew_81 (fun v34 => ?_)
      refine j_cSJP C [vJ p1, vJ v34] [] (fun _ e => c_X3_mix p1 v34 e) kYX3_mix kSX3_mix kmX8_219 rfl rfl ⟨rfl, rfl, by decide, by decide⟩ (Nat.le_of_ble_eq_true rfl) ⟨Nat.zero_le _, Nat.zero_le _⟩ dX8_anew_84 (fun v36 => ?_)
      refine j_lstore_n C (L' := [(1, vJ v36), (4, vR (some a27)), (0, vR (some p0)), (3, vI p3)]) dX8_anew_87 (by decide) rfl ?_
      refine j_sub (L' := [(0, vR (some p0)), (1, vJ v36), (3, vI p3)]) [2, 0, 3] rfl ?_
      exact jB_X8_anew_88 C E rec hrec S32 p0 tp0 v36 p3
def L_X8_anew_28 (N : Nat → Nat) (n : Nat) : sSt → Nat → Int64 → Int32 → Option (Int64 × sSt) := iter (fun _ _ _ _ => none) (Y_X8_anew_28 N) n
theorem jL_X8_anew_28 {X : jX} (C : jC X cX8_anew 5 RX8 rm_X8_anew) {Λ : sLay} {r : (Int64 × sSt)} (E : jE X (some .long) rJ Λ r) : ∀ (n : Nat) (S : sSt) (p0 : Nat) (tp0 : isK Λ 8 p0) (p1 : Int64) (p3 : Int32), J X 5 0 0 28 [(0, vR (some p0)), (1, vJ p1), (3, vI p3)] [] Λ S (L_X8_anew_28 Λ.2.2 n S p0 p1 p3 = some r) := by
  intro n
  induction n with
  | zero => intro S p0 tp0 p1 p3; exact j_no (fun h => by have h2 : (none : Option (Int64 × sSt)) = some r := h; cases h2)
  | succ n ih => intro S p0 tp0 p1 p3; exact jY_X8_anew_28 C E (L_X8_anew_28 Λ.2.2 n) ih S p0 tp0 p1 p3
def F_X8_anew (N : Nat → Nat) (S : sSt) (p0 : Nat) : Option (Int64 × sSt) := bnd (gFR S 321 p0) (fun x1 => bnd (gFR S 320 p0) (fun x2 => Option.bind x1 (fun a3 => Option.bind (F_X0_settleAll N S a3 x2) (fun S5 => bnd (gFR S5 323 p0) (fun x6 => bnd (gFR S5 320 p0) (fun x7 => Option.bind x6 (fun a8 => Option.bind (F_X2_arrange N S5 a8 x7) (fun S10 => L_X8_anew_28 N FU S10 p0 (17 : Int64) (0 : Int32)))))))))
set_option maxHeartbeats 4000000 in
theorem jF_X8_anew {X : jX} (C : jC X cX8_anew 5 RX8 rm_X8_anew) {Λ : sLay} {S : sSt} {r : (Int64 × sSt)} (E : jE X (some .long) rJ Λ r) (p0 : Nat) (tp0 : isK Λ 8 p0) : J X 5 0 0 0 [(0, vR (some p0))] [] Λ S (F_X8_anew Λ.2.2 S p0 = some r) := by
  unfold F_X8_anew
  refine j_aload_n C dX8_anew_0 0 rfl ?_
  refine j_getR C kK8 f321 kfX8_19 (by decide) rfl tp0 dX8_anew_1 (fun x1 tx1 => ?_)
  refine j_aload_n C dX8_anew_4 0 rfl ?_
  refine j_getR C kK8 f320 kfX8_12 (by decide) rfl tp0 dX8_anew_5 (fun x2 tx2 => ?_)
  refine j_oc tx1 (fun a3 ta3 ea3 => ?_)
  subst ea3
  refine j_cVVV C [vR x2] [] (fun _ e => c_X0_settleAll a3 ta3 x2 tx2 e) kYX0_settleAll kVX0_settleAll kmX8_139 kO0 ta3 rfl rfl ⟨rfl, rfl, by decide, by decide⟩ (Nat.le_of_ble_eq_true rfl) ⟨Nat.zero_le _, Nat.zero_le _⟩ dX8_anew_8 (fun S5 => ?_)
  refine j_aload_n C dX8_anew_11 0 rfl ?_
  refine j_getR C kK8 f323 kfX8_33 (by decide) rfl tp0 dX8_anew_12 (fun x6 tx6 => ?_)
  refine j_aload_n C dX8_anew_15 0 rfl ?_
  refine j_getR C kK8 f320 kfX8_12 (by decide) rfl tp0 dX8_anew_16 (fun x7 tx7 => ?_)
  refine j_oc tx6 (fun a8 ta8 ea8 => ?_)
  subst ea8
  refine j_cVVV C [vR x7] [] (fun _ e => c_X2_arrange a8 ta8 x7 tx7 e) kYX2_arrange kVX2_arrange kmX8_202 kO2 ta8 rfl rfl ⟨rfl, rfl, by decide, by decide⟩ (Nat.le_of_ble_eq_true rfl) ⟨Nat.zero_le _, Nat.zero_le _⟩ dX8_anew_19 (fun S10 => ?_)
  refine j_ldc2 C kcX8_217 dX8_anew_22 ?_
  refine j_lstore_n C (L' := [(1, vJ (17 : Int64)), (0, vR (some p0))]) dX8_anew_25 (by decide) rfl ?_
  refine j_iconst C (v := (0 : Int32)) dX8_anew_26 (by decide) ?_
  refine j_istore_n C (L' := [(3, vI (0 : Int32)), (1, vJ (17 : Int64)), (0, vR (some p0))]) dX8_anew_27 (by decide) rfl ?_
  refine j_sub (L' := [(0, vR (some p0)), (1, vJ (17 : Int64)), (3, vI (0 : Int32))]) [2, 1, 0] rfl ?_
  exact jL_X8_anew_28 C E FU S10 p0 tp0 (17 : Int64) (0 : Int32)
theorem c_X8_anew {l : Launch} {D : va_G} {cy : Nat → ClassId} {Λ : sLay} {S : sSt} (p0 : Nat) (tp0 : isK Λ 8 p0) {v : Int64} {S1 : sSt} (h : F_X8_anew Λ.2.2 S p0 = some (v, S1)) : jM l yX8_anew (Cond.code yX8_anew cX8_anew 5 (some .long) :: bigW) rm_X8_anew D cy Λ S [vR (some p0)] rJ (v, S1) := jM_of (by decide +kernel) (Nat.le_of_ble_eq_true rfl) (fun X C E _ _ _ => j_sub [0] rfl (jF_X8_anew C E p0 tp0)) h
/-! RemakeNeeds2.appendTo(LRemakeNeeds2$Ints;I)I -/
abbrev rm_X8_appendTo : Room := { frames := 1, cells := 0, slots := 0, locals := 21 }
def F_X8_appendTo (N : Nat → Nat) (S : sSt) (p0 : Option Nat) (p1 : Int32) : Option (Int32 × sSt) := Option.bind p0 (fun a1 => obd (F_X1_append N S a1 p1) (fun v2 S3 => (if v2 = 0 then some ((-4 : Int32), S3) else Option.bind (F_X1_length N S3 a1) (fun v4 => some (v4, S3)))))
set_option maxHeartbeats 4000000 in
theorem jF_X8_appendTo {X : jX} (C : jC X cX8_appendTo 2 RX8 rm_X8_appendTo) {Λ : sLay} {S : sSt} {r : (Int32 × sSt)} (E : jE X (some .int) rI Λ r) (p0 : Option Nat) (tp0 : okK Λ 1 p0) (p1 : Int32) : J X 2 0 0 0 [(0, vR p0), (1, vI p1)] [] Λ S (F_X8_appendTo Λ.2.2 S p0 p1 = some r) := by
  unfold F_X8_appendTo
  refine j_aload_n C dX8_appendTo_0 0 rfl ?_
  refine j_iload_n C dX8_appendTo_1 1 rfl ?_
  refine j_oc tp0 (fun a1 ta1 ea1 => ?_)
  subst ea1
  refine j_cVIG C [vI p1] [] (fun _ _ e => c_X1_append a1 ta1 p1 e) kYX1_append kVX1_append kmX8_248 kO1 ta1 rfl rfl ⟨rfl, rfl, by decide, by decide⟩ (Nat.le_of_ble_eq_true rfl) ⟨Nat.zero_le _, Nat.zero_le _⟩ dX8_appendTo_2 (fun v2 S3 => ?_)
  refine j_if_eq C (tgt := 15) dX8_appendTo_5 (by decide) ?_ ?_
  · refine j_bipush C (v := (-4 : Int32)) dX8_appendTo_15 (by decide) ?_
    exact j_iret C E dX8_appendTo_17
  · refine j_aload_n C dX8_appendTo_8 0 rfl ?_
    refine j_cVIP C [] [] (fun _ e => c_X1_length a1 ta1 e) kYX1_length kVX1_length kmX8_99 kO1 ta1 rfl rfl ⟨rfl, rfl, by decide, by decide⟩ (Nat.le_of_ble_eq_true rfl) ⟨Nat.zero_le _, Nat.zero_le _⟩ dX8_appendTo_9 (fun v4 => ?_)
    refine j_goto C (tgt := 17) dX8_appendTo_12 (by decide) ?_
    exact j_iret C E dX8_appendTo_17
theorem c_X8_appendTo {l : Launch} {D : va_G} {cy : Nat → ClassId} {Λ : sLay} {S : sSt} (p0 : Option Nat) (tp0 : okK Λ 1 p0) (p1 : Int32) {v : Int32} {S1 : sSt} (h : F_X8_appendTo Λ.2.2 S p0 p1 = some (v, S1)) : jM l yX8_appendTo (Cond.code yX8_appendTo cX8_appendTo 2 (some .int) :: bigW) rm_X8_appendTo D cy Λ S [vR p0, vI p1] rI (v, S1) := jM_of (by decide +kernel) (Nat.le_of_ble_eq_true rfl) (fun X C E _ _ _ => j_sub [0, 1] rfl (jF_X8_appendTo C E p0 tp0 p1)) h
/-! RemakeNeeds2.isBelow(II)Z -/
abbrev rm_X8_isBelow : Room := { frames := 0, cells := 0, slots := 0, locals := 0 }
def F_X8_isBelow (N : Nat → Nat) (S : sSt) (p0 : Int32) (p1 : Int32) : Option Int32 := (if p0 < 0 then some (0 : Int32) else (if p1 ≤ p0 then some (0 : Int32) else some (1 : Int32)))
set_option maxHeartbeats 4000000 in
theorem jF_X8_isBelow {X : jX} (C : jC X cX8_isBelow 2 RX8 rm_X8_isBelow) {Λ : sLay} {S : sSt} {r : Int32} (E : jE X (some .boolean) rI Λ (r, S)) (p0 : Int32) (p1 : Int32) : J X 2 0 0 0 [(0, vI p0), (1, vI p1)] [] Λ S (F_X8_isBelow Λ.2.2 S p0 p1 = some r) := by
  unfold F_X8_isBelow
  refine j_iload_n C dX8_isBelow_0 0 rfl ?_
  refine j_if_lt C (tgt := 13) dX8_isBelow_1 (by decide) ?_ ?_
  · refine j_iconst C (v := (0 : Int32)) dX8_isBelow_13 (by decide) ?_
    exact j_zretKP C E (by decide) dX8_isBelow_14
  · refine j_iload_n C dX8_isBelow_4 0 rfl ?_
    refine j_iload_n C dX8_isBelow_5 1 rfl ?_
    refine j_icmp_ge C (tgt := 13) dX8_isBelow_6 (by decide) ?_ ?_
    · refine j_iconst C (v := (0 : Int32)) dX8_isBelow_13 (by decide) ?_
      exact j_zretKP C E (by decide) dX8_isBelow_14
    · refine j_iconst C (v := (1 : Int32)) dX8_isBelow_9 (by decide) ?_
      refine j_goto C (tgt := 14) dX8_isBelow_10 (by decide) ?_
      exact j_zretKP C E (by decide) dX8_isBelow_14
theorem c_X8_isBelow {l : Launch} {D : va_G} {cy : Nat → ClassId} {Λ : sLay} {S : sSt} (p0 : Int32) (p1 : Int32) {r : Int32} (h : F_X8_isBelow Λ.2.2 S p0 p1 = some r) : jM l yX8_isBelow (Cond.code yX8_isBelow cX8_isBelow 2 (some .boolean) :: bigW) rm_X8_isBelow D cy Λ S [vI p0, vI p1] rI (r, S) := jM_of (by decide +kernel) (Nat.le_of_ble_eq_true rfl) (fun X C E _ _ _ => j_sub [0, 1] rfl (jF_X8_isBelow C E p0 p1)) h
/-! RemakeNeeds2.build(III)I -/
abbrev rm_X8_build : Room := { frames := 2, cells := 0, slots := 0, locals := 42 }
def F_X8_build (N : Nat → Nat) (S : sSt) (p0 : Nat) (p1 : Int32) (p2 : Int32) (p3 : Int32) : Option (Int32 × sSt) := bnd (gFR S 320 p0) (fun x1 => Option.bind x1 (fun a2 => Option.bind (F_X7_at N S a2 p1) (fun v3 => onl v3 (some ((-1 : Int32), S)) (fun a5 => Option.bind (F_X8_isBelow N S p2 (32 : Int32)) (fun v6 => (if v6 = 0 then some ((-2 : Int32), S) else Option.bind (F_X8_isBelow N S p3 (32 : Int32)) (fun v8 => (if v8 = 0 then some ((-2 : Int32), S) else Option.bind (F_X8_keyOf N S (1 : Int32) p2) (fun v10 => Option.bind (F_X6_thingFor N S a5 v10) (fun v12 => onl v12 (some ((-3 : Int32), S)) (fun a14 => bnd (gFR S 201 a14) (fun x15 => obd (F_X8_appendTo N S x15 p3) (fun v16 S17 => some (v16, S17))))))))))))))
set_option maxHeartbeats 4000000 in
theorem jF_X8_build {X : jX} (C : jC X cX8_build 6 RX8 rm_X8_build) {Λ : sLay} {S : sSt} {r : (Int32 × sSt)} (E : jE X (some .int) rI Λ r) (p0 : Nat) (tp0 : isK Λ 8 p0) (p1 : Int32) (p2 : Int32) (p3 : Int32) : J X 6 0 0 0 [(0, vR (some p0)), (1, vI p1), (2, vI p2), (3, vI p3)] [] Λ S (F_X8_build Λ.2.2 S p0 p1 p2 p3 = some r) := by
  unfold F_X8_build
  refine j_aload_n C dX8_build_0 0 rfl ?_
  refine j_getR C kK8 f320 kfX8_12 (by decide) rfl tp0 dX8_build_1 (fun x1 tx1 => ?_)
  refine j_iload_n C dX8_build_4 1 rfl ?_
  refine j_oc tx1 (fun a2 ta2 ea2 => ?_)
  subst ea2
  refine j_cVRP C [vI p1] [] (fun _ e => c_X7_at a2 ta2 p1 e) kYX7_at kVX7_at kmX8_50 kO7 ta2 rfl rfl ⟨rfl, rfl, by decide, by decide⟩ (Nat.le_of_ble_eq_true rfl) ⟨Nat.zero_le _, Nat.zero_le _⟩ dX8_build_5 (fun v3 tv3 => ?_)
  refine j_astore C (L' := [(4, vR v3), (0, vR (some p0)), (1, vI p1), (2, vI p2), (3, vI p3)]) dX8_build_8 (by decide) rfl ?_
  refine j_aload C dX8_build_10 0 rfl ?_
  refine j_ifnonnull C (tgt := 17) tv3 dX8_build_12 (by decide) (fun ea5 => ?_) (fun a5 ta5 ea5 => ?_)
  · subst ea5
    refine j_iconst C (v := (-1 : Int32)) dX8_build_15 (by decide) ?_
    exact j_iret C E dX8_build_16
  · subst ea5
    refine j_iload_n C dX8_build_17 3 rfl ?_
    refine j_bipush C (v := (32 : Int32)) dX8_build_18 (by decide) ?_
    refine j_cSIP C [vI p2, vI (32 : Int32)] [] (fun _ e => c_X8_isBelow p2 (32 : Int32) e) kYX8_isBelow kSX8_isBelow kmX8_54 rfl rfl ⟨rfl, rfl, by decide, by decide⟩ (Nat.le_of_ble_eq_true rfl) ⟨Nat.zero_le _, Nat.zero_le _⟩ dX8_build_20 (fun v6 => ?_)
    refine j_if_eq C (tgt := 35) dX8_build_23 (by decide) ?_ ?_
    · refine j_bipush C (v := (-2 : Int32)) dX8_build_35 (by decide) ?_
      exact j_iret C E dX8_build_37
    · refine j_iload_n C dX8_build_26 4 rfl ?_
      refine j_bipush C (v := (32 : Int32)) dX8_build_27 (by decide) ?_
      refine j_cSIP C [vI p3, vI (32 : Int32)] [] (fun _ e => c_X8_isBelow p3 (32 : Int32) e) kYX8_isBelow kSX8_isBelow kmX8_54 rfl rfl ⟨rfl, rfl, by decide, by decide⟩ (Nat.le_of_ble_eq_true rfl) ⟨Nat.zero_le _, Nat.zero_le _⟩ dX8_build_29 (fun v8 => ?_)
      refine j_if_ne C (tgt := 38) dX8_build_32 (by decide) ?_ ?_
      · refine j_aload C dX8_build_38 0 rfl ?_
        refine j_iconst C (v := (1 : Int32)) dX8_build_40 (by decide) ?_
        refine j_iload_n C dX8_build_41 3 rfl ?_
        refine j_cSIP C [vI (1 : Int32), vI p2] [vR (some a5)] (fun _ e => c_X8_keyOf (1 : Int32) p2 e) kYX8_keyOf kSX8_keyOf kmX8_58 rfl rfl ⟨rfl, rfl, by decide, by decide⟩ (Nat.le_of_ble_eq_true rfl) ⟨Nat.zero_le _, Nat.zero_le _⟩ dX8_build_42 (fun v10 => ?_)
        refine j_cVRP C [vI v10] [] (fun _ e => c_X6_thingFor a5 ta5 v10 e) kYX6_thingFor kVX6_thingFor kmX8_62 kO6 ta5 rfl rfl ⟨rfl, rfl, by decide, by decide⟩ (Nat.le_of_ble_eq_true rfl) ⟨Nat.zero_le _, Nat.zero_le _⟩ dX8_build_45 (fun v12 tv12 => ?_)
        refine j_astore C (L' := [(5, vR v12), (4, vR (some a5)), (0, vR (some p0)), (1, vI p1), (2, vI p2), (3, vI p3)]) dX8_build_48 (by decide) rfl ?_
        refine j_aload C dX8_build_50 0 rfl ?_
        refine j_ifnonnull C (tgt := 58) tv12 dX8_build_52 (by decide) (fun ea14 => ?_) (fun a14 ta14 ea14 => ?_)
        · subst ea14
          refine j_bipush C (v := (-3 : Int32)) dX8_build_55 (by decide) ?_
          exact j_iret C E dX8_build_57
        · subst ea14
          refine j_aload C dX8_build_58 0 rfl ?_
          refine j_getR C kK5 f201 kfX8_83 (by decide) rfl ta14 dX8_build_60 (fun x15 tx15 => ?_)
          refine j_iload_n C dX8_build_63 5 rfl ?_
          refine j_cSIG C [vR x15, vI p3] [] (fun _ _ e => c_X8_appendTo x15 tx15 p3 e) kYX8_appendTo kSX8_appendTo kmX8_87 rfl rfl ⟨rfl, rfl, by decide, by decide⟩ (Nat.le_of_ble_eq_true rfl) ⟨Nat.zero_le _, Nat.zero_le _⟩ dX8_build_64 (fun v16 S17 => ?_)
          exact j_iret C E dX8_build_67
      · refine j_bipush C (v := (-2 : Int32)) dX8_build_35 (by decide) ?_
        exact j_iret C E dX8_build_37
theorem c_X8_build {l : Launch} {D : va_G} {cy : Nat → ClassId} {Λ : sLay} {S : sSt} (p0 : Nat) (tp0 : isK Λ 8 p0) (p1 : Int32) (p2 : Int32) (p3 : Int32) {v : Int32} {S1 : sSt} (h : F_X8_build Λ.2.2 S p0 p1 p2 p3 = some (v, S1)) : jM l yX8_build (Cond.code yX8_build cX8_build 6 (some .int) :: bigW) rm_X8_build D cy Λ S [vR (some p0), vI p1, vI p2, vI p3] rI (v, S1) := jM_of (by decide +kernel) (Nat.le_of_ble_eq_true rfl) (fun X C E _ _ _ => j_sub [0, 1, 2, 3] rfl (jF_X8_build C E p0 tp0 p1 p2 p3)) h
/-! RemakeNeeds2.constantOf(II)LRemakeNeeds2$Thing; -/
abbrev rm_X8_constantOf : Room := { frames := 1, cells := 0, slots := 0, locals := 22 }
def B_X8_constantOf_22 (N : Nat → Nat) (S : sSt) : Option (Option Nat) := some none
set_option maxHeartbeats 4000000 in
theorem jB_X8_constantOf_22 {X : jX} (C : jC X cX8_constantOf 4 RX8 rm_X8_constantOf) {Λ : sLay} {S : sSt} {r : (Option Nat)} (E : jE X (some (.object "RemakeNeeds2$Thing")) (rR 5) Λ (r, S)) : ∀ (_ : Unit), J X 4 0 0 22 [] [] Λ S (B_X8_constantOf_22 Λ.2.2 S  = some r) := by
  intro _
  unfold B_X8_constantOf_22
  refine j_null C dX8_constantOf_22 ?_
  refine j_goto C (tgt := 35) dX8_constantOf_23 (by decide) ?_
  exact j_aretP C E okN dX8_constantOf_35
def F_X8_constantOf (N : Nat → Nat) (S : sSt) (p0 : Nat) (p1 : Int32) (p2 : Int32) : Option (Option Nat) := bnd (gFR S 320 p0) (fun x1 => Option.bind x1 (fun a2 => Option.bind (F_X7_at N S a2 p1) (fun v3 => onl v3 (B_X8_constantOf_22 N S ) (fun a5 => Option.bind (F_X8_isBelow N S p2 (32 : Int32)) (fun v6 => (if v6 = 0 then B_X8_constantOf_22 N S  else Option.bind (F_X8_keyOf N S (1 : Int32) p2) (fun v8 => Option.bind (F_X6_thingFor N S a5 v8) (fun v10 => some v10))))))))
set_option maxHeartbeats 4000000 in
theorem jF_X8_constantOf {X : jX} (C : jC X cX8_constantOf 4 RX8 rm_X8_constantOf) {Λ : sLay} {S : sSt} {r : (Option Nat)} (E : jE X (some (.object "RemakeNeeds2$Thing")) (rR 5) Λ (r, S)) (p0 : Nat) (tp0 : isK Λ 8 p0) (p1 : Int32) (p2 : Int32) : J X 4 0 0 0 [(0, vR (some p0)), (1, vI p1), (2, vI p2)] [] Λ S (F_X8_constantOf Λ.2.2 S p0 p1 p2 = some r) := by
  unfold F_X8_constantOf
  refine j_aload_n C dX8_constantOf_0 0 rfl ?_
  refine j_getR C kK8 f320 kfX8_12 (by decide) rfl tp0 dX8_constantOf_1 (fun x1 tx1 => ?_)
  refine j_iload_n C dX8_constantOf_4 1 rfl ?_
  refine j_oc tx1 (fun a2 ta2 ea2 => ?_)
  subst ea2
  refine j_cVRP C [vI p1] [] (fun _ e => c_X7_at a2 ta2 p1 e) kYX7_at kVX7_at kmX8_50 kO7 ta2 rfl rfl ⟨rfl, rfl, by decide, by decide⟩ (Nat.le_of_ble_eq_true rfl) ⟨Nat.zero_le _, Nat.zero_le _⟩ dX8_constantOf_5 (fun v3 tv3 => ?_)
  refine j_astore_n C (L' := [(3, vR v3), (0, vR (some p0)), (1, vI p1), (2, vI p2)]) dX8_constantOf_8 (by decide) rfl ?_
  refine j_aload_n C dX8_constantOf_9 0 rfl ?_
  refine j_ifnull C (tgt := 22) tv3 dX8_constantOf_10 (by decide) (fun ea5 => ?_) (fun a5 ta5 ea5 => ?_)
  · subst ea5
    refine j_sub (L' := []) [] rfl ?_
    exact jB_X8_constantOf_22 C E ()
  · subst ea5
    refine j_iload_n C dX8_constantOf_13 3 rfl ?_
    refine j_bipush C (v := (32 : Int32)) dX8_constantOf_14 (by decide) ?_
    refine j_cSIP C [vI p2, vI (32 : Int32)] [] (fun _ e => c_X8_isBelow p2 (32 : Int32) e) kYX8_isBelow kSX8_isBelow kmX8_54 rfl rfl ⟨rfl, rfl, by decide, by decide⟩ (Nat.le_of_ble_eq_true rfl) ⟨Nat.zero_le _, Nat.zero_le _⟩ dX8_constantOf_16 (fun v6 => ?_)
    refine j_if_ne C (tgt := 26) dX8_constantOf_19 (by decide) ?_ ?_
    · refine j_aload_n C dX8_constantOf_26 0 rfl ?_
      refine j_iconst C (v := (1 : Int32)) dX8_constantOf_27 (by decide) ?_
      refine j_iload_n C dX8_constantOf_28 3 rfl ?_
      refine j_cSIP C [vI (1 : Int32), vI p2] [vR (some a5)] (fun _ e => c_X8_keyOf (1 : Int32) p2 e) kYX8_keyOf kSX8_keyOf kmX8_58 rfl rfl ⟨rfl, rfl, by decide, by decide⟩ (Nat.le_of_ble_eq_true rfl) ⟨Nat.zero_le _, Nat.zero_le _⟩ dX8_constantOf_29 (fun v8 => ?_)
      refine j_cVRP C [vI v8] [] (fun _ e => c_X6_thingFor a5 ta5 v8 e) kYX6_thingFor kVX6_thingFor kmX8_62 kO6 ta5 rfl rfl ⟨rfl, rfl, by decide, by decide⟩ (Nat.le_of_ble_eq_true rfl) ⟨Nat.zero_le _, Nat.zero_le _⟩ dX8_constantOf_32 (fun v10 tv10 => ?_)
      exact j_aretP C E tv10 dX8_constantOf_35
    · refine j_sub (L' := []) [] rfl ?_
      exact jB_X8_constantOf_22 C E ()
theorem c_X8_constantOf {l : Launch} {D : va_G} {cy : Nat → ClassId} {Λ : sLay} {S : sSt} (p0 : Nat) (tp0 : isK Λ 8 p0) (p1 : Int32) (p2 : Int32) {r : Option Nat} (h : F_X8_constantOf Λ.2.2 S p0 p1 p2 = some r) : jM l yX8_constantOf (Cond.code yX8_constantOf cX8_constantOf 4 (some (.object "RemakeNeeds2$Thing")) :: bigW) rm_X8_constantOf D cy Λ S [vR (some p0), vI p1, vI p2] (rR 5) (r, S) := jM_of (by decide +kernel) (Nat.le_of_ble_eq_true rfl) (fun X C E _ _ _ => j_sub [0, 1, 2] rfl (jF_X8_constantOf C E p0 tp0 p1 p2)) h
/-! RemakeNeeds2.chain(IIII)I -/
abbrev rm_X8_chain : Room := { frames := 4, cells := 0, slots := 0, locals := 96 }
def B_X8_chain_29 (N : Nat → Nat) (S : sSt) (p0 : Nat) (p3 : Int32) (p4 : Int32) (p5 : Nat) : Option (Int32 × sSt) := bnd (gFR S 321 p0) (fun x4 => bnd (gFR S 320 p0) (fun x5 => Option.bind x4 (fun a6 => Option.bind (F_X0_follow N S a6 (some p5) x5) (fun S8 => bnd (gFR S8 321 p0) (fun x9 => Option.bind x9 (fun a10 => Option.bind (F_X0_metAt N S8 a10 p3) (fun v11 => onl v11 (some ((-5 : Int32), S8)) (fun a13 => (if p4 = 0 then some ((gFI S8 200 a13), S8) else Option.bind (F_X8_nameOf N S8 (gFI S8 202 a13)) (fun v14 => some (v14, S8)))))))))))
set_option maxHeartbeats 4000000 in
theorem jB_X8_chain_29 {X : jX} (C : jC X cX8_chain 7 RX8 rm_X8_chain) {Λ : sLay} {r : (Int32 × sSt)} (E : jE X (some .int) rI Λ r) : ∀ (S : sSt) (p0 : Nat) (tp0 : isK Λ 8 p0) (p3 : Int32) (p4 : Int32) (p5 : Nat) (tp5 : isK Λ 5 p5), J X 7 0 0 29 [(0, vR (some p0)), (3, vI p3), (4, vI p4), (5, vR (some p5))] [] Λ S (B_X8_chain_29 Λ.2.2 S p0 p3 p4 p5 = some r) := by
  intro S p0 tp0 p3 p4 p5 tp5
  unfold B_X8_chain_29
  refine j_aload_n C dX8_chain_29 0 rfl ?_
  refine j_getR C kK8 f321 kfX8_19 (by decide) rfl tp0 dX8_chain_30 (fun x4 tx4 => ?_)
  refine j_aload C dX8_chain_33 3 rfl ?_
  refine j_aload_n C dX8_chain_35 0 rfl ?_
  refine j_getR C kK8 f320 kfX8_12 (by decide) rfl tp0 dX8_chain_36 (fun x5 tx5 => ?_)
  refine j_oc tx4 (fun a6 ta6 ea6 => ?_)
  subst ea6
  refine j_cVVV C [vR (some p5), vR x5] [] (fun _ e => c_X0_follow a6 ta6 (some p5) (okS tp5) x5 tx5 e) kYX0_follow kVX0_follow kmX8_149 kO0 ta6 rfl rfl ⟨rfl, rfl, by decide, by decide⟩ (Nat.le_of_ble_eq_true rfl) ⟨Nat.zero_le _, Nat.zero_le _⟩ dX8_chain_39 (fun S8 => ?_)
  refine j_aload_n C dX8_chain_42 0 rfl ?_
  refine j_getR C kK8 f321 kfX8_19 (by decide) rfl tp0 dX8_chain_43 (fun x9 tx9 => ?_)
  refine j_iload_n C dX8_chain_46 1 rfl ?_
  refine j_oc tx9 (fun a10 ta10 ea10 => ?_)
  subst ea10
  refine j_cVRP C [vI p3] [] (fun _ e => c_X0_metAt a10 ta10 p3 e) kYX0_metAt kVX0_metAt kmX8_153 kO0 ta10 rfl rfl ⟨rfl, rfl, by decide, by decide⟩ (Nat.le_of_ble_eq_true rfl) ⟨Nat.zero_le _, Nat.zero_le _⟩ dX8_chain_47 (fun v11 tv11 => ?_)
  refine j_astore C (L' := [(6, vR v11), (0, vR (some p0)), (3, vI p3), (4, vI p4), (5, vR (some p5))]) dX8_chain_50 (by decide) rfl ?_
  refine j_aload C dX8_chain_52 0 rfl ?_
  refine j_ifnonnull C (tgt := 60) tv11 dX8_chain_54 (by decide) (fun ea13 => ?_) (fun a13 ta13 ea13 => ?_)
  · subst ea13
    refine j_bipush C (v := (-5 : Int32)) dX8_chain_57 (by decide) ?_
    exact j_iret C E dX8_chain_59
  · subst ea13
    refine j_iload C dX8_chain_60 3 rfl ?_
    refine j_if_ne C (tgt := 73) dX8_chain_62 (by decide) ?_ ?_
    · refine j_aload C dX8_chain_73 0 rfl ?_
      refine j_getI C kK5 f202 kfX8_156 (by decide) ta13 dX8_chain_75 ?_
      refine j_cSIP C [vI (gFI S8 202 a13)] [] (fun _ e => c_X8_nameOf (gFI S8 202 a13) e) kYX8_nameOf kSX8_nameOf kmX8_159 rfl rfl ⟨rfl, rfl, by decide, by decide⟩ (Nat.le_of_ble_eq_true rfl) ⟨Nat.zero_le _, Nat.zero_le _⟩ dX8_chain_78 (fun v14 => ?_)
      exact j_iret C E dX8_chain_81
    · refine j_aload C dX8_chain_65 0 rfl ?_
      refine j_getI C kK5 f200 kfX8_132 (by decide) ta13 dX8_chain_67 ?_
      refine j_goto C (tgt := 81) dX8_chain_70 (by decide) ?_
      exact j_iret C E dX8_chain_81
def F_X8_chain (N : Nat → Nat) (S : sSt) (p0 : Nat) (p1 : Int32) (p2 : Int32) (p3 : Int32) (p4 : Int32) : Option (Int32 × sSt) := Option.bind (F_X8_constantOf N S p0 p1 p2) (fun v1 => onl v1 (some ((-1 : Int32), S)) (fun a3 => (if p4 = 0 then B_X8_chain_29 N S p0 p3 p4 a3 else (if p4 = (1 : Int32) then B_X8_chain_29 N S p0 p3 p4 a3 else some ((-2 : Int32), S)))))
set_option maxHeartbeats 4000000 in
theorem jF_X8_chain {X : jX} (C : jC X cX8_chain 7 RX8 rm_X8_chain) {Λ : sLay} {S : sSt} {r : (Int32 × sSt)} (E : jE X (some .int) rI Λ r) (p0 : Nat) (tp0 : isK Λ 8 p0) (p1 : Int32) (p2 : Int32) (p3 : Int32) (p4 : Int32) : J X 7 0 0 0 [(0, vR (some p0)), (1, vI p1), (2, vI p2), (3, vI p3), (4, vI p4)] [] Λ S (F_X8_chain Λ.2.2 S p0 p1 p2 p3 p4 = some r) := by
  unfold F_X8_chain
  refine j_aload_n C dX8_chain_0 0 rfl ?_
  refine j_iload_n C dX8_chain_1 1 rfl ?_
  refine j_iload_n C dX8_chain_2 2 rfl ?_
  refine j_cVRP C [vI p1, vI p2] [] (fun _ e => c_X8_constantOf p0 tp0 p1 p2 e) kYX8_constantOf kVX8_constantOf kmX8_135 kO8 tp0 rfl rfl ⟨rfl, rfl, by decide, by decide⟩ (Nat.le_of_ble_eq_true rfl) ⟨Nat.zero_le _, Nat.zero_le _⟩ dX8_chain_3 (fun v1 tv1 => ?_)
  refine j_astore C (L' := [(5, vR v1), (0, vR (some p0)), (1, vI p1), (2, vI p2), (3, vI p3), (4, vI p4)]) dX8_chain_6 (by decide) rfl ?_
  refine j_aload C dX8_chain_8 0 rfl ?_
  refine j_ifnonnull C (tgt := 15) tv1 dX8_chain_10 (by decide) (fun ea3 => ?_) (fun a3 ta3 ea3 => ?_)
  · subst ea3
    refine j_iconst C (v := (-1 : Int32)) dX8_chain_13 (by decide) ?_
    exact j_iret C E dX8_chain_14
  · subst ea3
    refine j_iload C dX8_chain_15 5 rfl ?_
    refine j_if_eq C (tgt := 29) dX8_chain_17 (by decide) ?_ ?_
    · refine j_sub (L' := [(0, vR (some p0)), (3, vI p3), (4, vI p4), (5, vR (some a3))]) [1, 4, 5, 0] rfl ?_
      exact jB_X8_chain_29 C E S p0 tp0 p3 p4 a3 ta3
    · refine j_iload C dX8_chain_20 5 rfl ?_
      refine j_iconst C (v := (1 : Int32)) dX8_chain_22 (by decide) ?_
      refine j_icmp_eq C (tgt := 29) dX8_chain_23 (by decide) ?_ ?_
      · refine j_sub (L' := [(0, vR (some p0)), (3, vI p3), (4, vI p4), (5, vR (some a3))]) [1, 4, 5, 0] rfl ?_
        exact jB_X8_chain_29 C E S p0 tp0 p3 p4 a3 ta3
      · refine j_bipush C (v := (-2 : Int32)) dX8_chain_26 (by decide) ?_
        exact j_iret C E dX8_chain_28
theorem c_X8_chain {l : Launch} {D : va_G} {cy : Nat → ClassId} {Λ : sLay} {S : sSt} (p0 : Nat) (tp0 : isK Λ 8 p0) (p1 : Int32) (p2 : Int32) (p3 : Int32) (p4 : Int32) {v : Int32} {S1 : sSt} (h : F_X8_chain Λ.2.2 S p0 p1 p2 p3 p4 = some (v, S1)) : jM l yX8_chain (Cond.code yX8_chain cX8_chain 7 (some .int) :: bigW) rm_X8_chain D cy Λ S [vR (some p0), vI p1, vI p2, vI p3, vI p4] rI (v, S1) := jM_of (by decide +kernel) (Nat.le_of_ble_eq_true rfl) (fun X C E _ _ _ => j_sub [0, 1, 2, 3, 4] rfl (jF_X8_chain C E p0 tp0 p1 p2 p3 p4)) h
/-! RemakeNeeds2.clear()I -/
abbrev rm_X8_clear : Room := { frames := 2, cells := 0, slots := 0, locals := 44 }
def F_X8_clear (N : Nat → Nat) (S : sSt) (p0 : Nat) : Option (Int32 × sSt) := bnd (gFR S 320 p0) (fun x1 => Option.bind x1 (fun a2 => Option.bind (F_X7_thereNow N S a2) (fun v3 => bnd (gFR S 320 p0) (fun x5 => Option.bind x5 (fun a6 => Option.bind (F_X7_dropAll N S a6) (fun S8 => bnd (sFI S8 324 p0 (0 : Int32)) (fun S9 => some (v3, S9))))))))
set_option maxHeartbeats 4000000 in
theorem jF_X8_clear {X : jX} (C : jC X cX8_clear 2 RX8 rm_X8_clear) {Λ : sLay} {S : sSt} {r : (Int32 × sSt)} (E : jE X (some .int) rI Λ r) (p0 : Nat) (tp0 : isK Λ 8 p0) : J X 2 0 0 0 [(0, vR (some p0))] [] Λ S (F_X8_clear Λ.2.2 S p0 = some r) := by
  unfold F_X8_clear
  refine j_aload_n C dX8_clear_0 0 rfl ?_
  refine j_getR C kK8 f320 kfX8_12 (by decide) rfl tp0 dX8_clear_1 (fun x1 tx1 => ?_)
  refine j_oc tx1 (fun a2 ta2 ea2 => ?_)
  subst ea2
  refine j_cVIP C [] [] (fun _ e => c_X7_thereNow a2 ta2 e) kYX7_thereNow kVX7_thereNow kmX8_125 kO7 ta2 rfl rfl ⟨rfl, rfl, by decide, by decide⟩ (Nat.le_of_ble_eq_true rfl) ⟨Nat.zero_le _, Nat.zero_le _⟩ dX8_clear_4 (fun v3 => ?_)
  refine j_istore_n C (L' := [(1, vI v3), (0, vR (some p0))]) dX8_clear_7 (by decide) rfl ?_
  refine j_aload_n C dX8_clear_8 1 rfl ?_
  refine j_getR C kK8 f320 kfX8_12 (by decide) rfl tp0 dX8_clear_9 (fun x5 tx5 => ?_)
  refine j_oc tx5 (fun a6 ta6 ea6 => ?_)
  subst ea6
  refine j_cVVV C [] [] (fun _ e => c_X7_dropAll a6 ta6 e) kYX7_dropAll kVX7_dropAll kmX8_245 kO7 ta6 rfl rfl ⟨rfl, rfl, by decide, by decide⟩ (Nat.le_of_ble_eq_true rfl) ⟨Nat.zero_le _, Nat.zero_le _⟩ dX8_clear_12 (fun S8 => ?_)
  refine j_aload_n C dX8_clear_15 1 rfl ?_
  refine j_iconst C (v := (0 : Int32)) dX8_clear_16 (by decide) ?_
  refine j_putI C kK8 f324 kfX8_37 (by decide) rfl rfl rfl tp0 dX8_clear_17 (fun S9 => ?_)
  refine j_iload_n C dX8_clear_20 0 rfl ?_
  exact j_iret C E dX8_clear_21
theorem c_X8_clear {l : Launch} {D : va_G} {cy : Nat → ClassId} {Λ : sLay} {S : sSt} (p0 : Nat) (tp0 : isK Λ 8 p0) {v : Int32} {S1 : sSt} (h : F_X8_clear Λ.2.2 S p0 = some (v, S1)) : jM l yX8_clear (Cond.code yX8_clear cX8_clear 2 (some .int) :: bigW) rm_X8_clear D cy Λ S [vR (some p0)] rI (v, S1) := jM_of (by decide +kernel) (Nat.le_of_ble_eq_true rfl) (fun X C E _ _ _ => j_sub [0] rfl (jF_X8_clear C E p0 tp0)) h
/-! RemakeNeeds2.coarse()I -/
abbrev rm_X8_coarse : Room := { frames := 6, cells := 0, slots := 0, locals := 142 }
def B_X8_coarse_116 (N : Nat → Nat) (k91 : sSt → Nat → Int32 → Int32 → Int32 → Option (Int32 × sSt)) (S : sSt) (p0 : Nat) (p1 : Int32) (p2 : Int32) (p3 : Int32) : Option (Int32 × sSt) := k91 S p0 p1 p2 (p3 + (1 : Int32))
set_option maxHeartbeats 4000000 in
theorem jB_X8_coarse_116 {X : jX} (C : jC X cX8_coarse 5 RX8 rm_X8_coarse) {Λ : sLay} {r : (Int32 × sSt)} (E : jE X (some .int) rI Λ r) (k91 : sSt → Nat → Int32 → Int32 → Int32 → Option (Int32 × sSt)) (hk91 : ∀ (S : sSt) (p0 : Nat) (tp0 : isK Λ 8 p0) (p1 : Int32) (p2 : Int32) (p3 : Int32), J X 5 0 0 91 [(0, vR (some p0)), (1, vI p1), (2, vI p2), (3, vI p3)] [] Λ S (k91 S p0 p1 p2 p3 = some r)) : ∀ (S : sSt) (p0 : Nat) (tp0 : isK Λ 8 p0) (p1 : Int32) (p2 : Int32) (p3 : Int32), J X 5 0 0 116 [(0, vR (some p0)), (1, vI p1), (2, vI p2), (3, vI p3)] [] Λ S (B_X8_coarse_116 Λ.2.2 k91 S p0 p1 p2 p3 = some r) := by
  intro S p0 tp0 p1 p2 p3
  unfold B_X8_coarse_116
  refine j_iinc C (v := (1 : Int32)) (L' := [(3, vI (p3 + (1 : Int32))), (0, vR (some p0)), (1, vI p1), (2, vI p2)]) dX8_coarse_116 3 rfl (by decide) (by decide) rfl ?_
  refine j_goto C (tgt := 91) dX8_coarse_119 (by decide) ?_
  refine j_sub (L' := [(0, vR (some p0)), (1, vI p1), (2, vI p2), (3, vI (p3 + (1 : Int32)))]) [1, 2, 3, 0] rfl ?_
  exact hk91 S p0 tp0 p1 p2 (p3 + (1 : Int32))
def Y_X8_coarse_91 (N : Nat → Nat) (rec : sSt → Nat → Int32 → Int32 → Int32 → Option (Int32 × sSt)) (S : sSt) (p0 : Nat) (p1 : Int32) (p2 : Int32) (p3 : Int32) : Option (Int32 × sSt) := (if (16 : Int32) ≤ p3 then Option.bind (F_J6_bitCount_0f7a4 N S p2) (fun v11 => some (v11, S)) else bnd (gFR S 323 p0) (fun x13 => Option.bind x13 (fun a14 => Option.bind (F_X2_reachOf N S a14 p3) (fun v15 => (if (v15 &&& p1) = 0 then B_X8_coarse_116 N rec S p0 p1 p2 p3 else B_X8_coarse_116 N rec S p0 p1 (p2 ||| ((1 : Int32) <<< (p3 &&& 31))) p3)))))
set_option maxHeartbeats 4000000 in
theorem jY_X8_coarse_91 {X : jX} (C : jC X cX8_coarse 5 RX8 rm_X8_coarse) {Λ : sLay} {r : (Int32 × sSt)} (E : jE X (some .int) rI Λ r) (rec : sSt → Nat → Int32 → Int32 → Int32 → Option (Int32 × sSt)) (hrec : ∀ (S : sSt) (p0 : Nat) (tp0 : isK Λ 8 p0) (p1 : Int32) (p2 : Int32) (p3 : Int32), J X 5 0 0 91 [(0, vR (some p0)), (1, vI p1), (2, vI p2), (3, vI p3)] [] Λ S (rec S p0 p1 p2 p3 = some r)) : ∀ (S : sSt) (p0 : Nat) (tp0 : isK Λ 8 p0) (p1 : Int32) (p2 : Int32) (p3 : Int32), J X 5 0 0 91 [(0, vR (some p0)), (1, vI p1), (2, vI p2), (3, vI p3)] [] Λ S (Y_X8_coarse_91 Λ.2.2 rec S p0 p1 p2 p3 = some r) := by
  intro S p0 tp0 p1 p2 p3
  unfold Y_X8_coarse_91
  refine j_iload_n C dX8_coarse_91 3 rfl ?_
  refine j_bipush C (v := (16 : Int32)) dX8_coarse_92 (by decide) ?_
  refine j_icmp_ge C (tgt := 122) dX8_coarse_94 (by decide) ?_ ?_
  · refine j_iload_n C dX8_coarse_122 2 rfl ?_
    refine j_cSIP C [vI p2] [] (fun _ e => c_J6_bitCount_0f7a4 p2 e) kYJ6_bitCount_0f7a4 kSJ6_bitCount_0f7a4 kmX8_226 rfl rfl ⟨rfl, rfl, by decide, by decide⟩ (Nat.le_of_ble_eq_true rfl) ⟨Nat.zero_le _, Nat.zero_le _⟩ dX8_coarse_123 (fun v11 => ?_)
    exact j_iret C E dX8_coarse_126
  · refine j_aload_n C dX8_coarse_97 0 rfl ?_
    refine j_getR C kK8 f323 kfX8_33 (by decide) rfl tp0 dX8_coarse_98 (fun x13 tx13 => ?_)
    refine j_iload_n C dX8_coarse_101 3 rfl ?_
    refine j_oc tx13 (fun a14 ta14 ea14 => ?_)
    subst ea14
    refine j_cVIP C [vI p3] [] (fun _ e => c_X2_reachOf a14 ta14 p3 e) kYX2_reachOf kVX2_reachOf kmX8_223 kO2 ta14 rfl rfl ⟨rfl, rfl, by decide, by decide⟩ (Nat.le_of_ble_eq_true rfl) ⟨Nat.zero_le _, Nat.zero_le _⟩ dX8_coarse_102 (fun v15 => ?_)
    refine j_iload_n C dX8_coarse_105 1 rfl ?_
    refine j_iand C dX8_coarse_106 ?_
    refine j_if_eq C (tgt := 116) dX8_coarse_107 (by decide) ?_ ?_
    · exact jB_X8_coarse_116 C E rec hrec S p0 tp0 p1 p2 p3
    · refine j_iload_n C dX8_coarse_110 2 rfl ?_
      refine j_iconst C (v := (1 : Int32)) dX8_coarse_111 (by decide) ?_
      refine j_iload_n C dX8_coarse_112 3 rfl ?_
      refine j_ishl C dX8_coarse_113 ?_
      refine j_ior C dX8_coarse_114 ?_
      refine j_istore_n C (L' := [(2, vI (p2 ||| ((1 : Int32) <<< (p3 &&& 31)))), (0, vR (some p0)), (1, vI p1), (3, vI p3)]) dX8_coarse_115 (by decide) rfl ?_
      refine j_sub (L' := [(0, vR (some p0)), (1, vI p1), (2, vI (p2 ||| ((1 : Int32) <<< (p3 &&& 31)))), (3, vI p3)]) [1, 2, 0, 3] rfl ?_
      exact jB_X8_coarse_116 C E rec hrec S p0 tp0 p1 (p2 ||| ((1 : Int32) <<< (p3 &&& 31))) p3
def L_X8_coarse_91 (N : Nat → Nat) (n : Nat) : sSt → Nat → Int32 → Int32 → Int32 → Option (Int32 × sSt) := iter (fun _ _ _ _ _ => none) (Y_X8_coarse_91 N) n
theorem jL_X8_coarse_91 {X : jX} (C : jC X cX8_coarse 5 RX8 rm_X8_coarse) {Λ : sLay} {r : (Int32 × sSt)} (E : jE X (some .int) rI Λ r) : ∀ (n : Nat) (S : sSt) (p0 : Nat) (tp0 : isK Λ 8 p0) (p1 : Int32) (p2 : Int32) (p3 : Int32), J X 5 0 0 91 [(0, vR (some p0)), (1, vI p1), (2, vI p2), (3, vI p3)] [] Λ S (L_X8_coarse_91 Λ.2.2 n S p0 p1 p2 p3 = some r) := by
  intro n
  induction n with
  | zero => intro S p0 tp0 p1 p2 p3; exact j_no (fun h => by have h2 : (none : Option (Int32 × sSt)) = some r := h; cases h2)
  | succ n ih => intro S p0 tp0 p1 p2 p3; exact jY_X8_coarse_91 C E (L_X8_coarse_91 Λ.2.2 n) ih S p0 tp0 p1 p2 p3
def B_X8_coarse_81 (N : Nat → Nat) (k26 : sSt → Nat → Int32 → Int32 → Option (Int32 × sSt)) (S : sSt) (p0 : Nat) (p1 : Int32) (p2 : Int32) : Option (Int32 × sSt) := k26 S p0 p1 (p2 + (1 : Int32))
set_option maxHeartbeats 4000000 in
theorem jB_X8_coarse_81 {X : jX} (C : jC X cX8_coarse 5 RX8 rm_X8_coarse) {Λ : sLay} {r : (Int32 × sSt)} (E : jE X (some .int) rI Λ r) (k26 : sSt → Nat → Int32 → Int32 → Option (Int32 × sSt)) (hk26 : ∀ (S : sSt) (p0 : Nat) (tp0 : isK Λ 8 p0) (p1 : Int32) (p2 : Int32), J X 5 0 0 26 [(0, vR (some p0)), (1, vI p1), (2, vI p2)] [] Λ S (k26 S p0 p1 p2 = some r)) : ∀ (S : sSt) (p0 : Nat) (tp0 : isK Λ 8 p0) (p1 : Int32) (p2 : Int32), J X 5 0 0 81 [(0, vR (some p0)), (1, vI p1), (2, vI p2)] [] Λ S (B_X8_coarse_81 Λ.2.2 k26 S p0 p1 p2 = some r) := by
  intro S p0 tp0 p1 p2
  unfold B_X8_coarse_81
  refine j_iinc C (v := (1 : Int32)) (L' := [(2, vI (p2 + (1 : Int32))), (0, vR (some p0)), (1, vI p1)]) dX8_coarse_81 2 rfl (by decide) (by decide) rfl ?_
  refine j_goto C (tgt := 26) dX8_coarse_84 (by decide) ?_
  refine j_sub (L' := [(0, vR (some p0)), (1, vI p1), (2, vI (p2 + (1 : Int32)))]) [1, 2, 0] rfl ?_
  exact hk26 S p0 tp0 p1 (p2 + (1 : Int32))
def B_X8_coarse_75 (N : Nat → Nat) (k26 : sSt → Nat → Int32 → Int32 → Option (Int32 × sSt)) (S : sSt) (p0 : Nat) (p1 : Int32) (p2 : Int32) : Option (Int32 × sSt) := B_X8_coarse_81 N k26 S p0 (p1 ||| ((1 : Int32) <<< (p2 &&& 31))) p2
set_option maxHeartbeats 4000000 in
theorem jB_X8_coarse_75 {X : jX} (C : jC X cX8_coarse 5 RX8 rm_X8_coarse) {Λ : sLay} {r : (Int32 × sSt)} (E : jE X (some .int) rI Λ r) (k26 : sSt → Nat → Int32 → Int32 → Option (Int32 × sSt)) (hk26 : ∀ (S : sSt) (p0 : Nat) (tp0 : isK Λ 8 p0) (p1 : Int32) (p2 : Int32), J X 5 0 0 26 [(0, vR (some p0)), (1, vI p1), (2, vI p2)] [] Λ S (k26 S p0 p1 p2 = some r)) : ∀ (S : sSt) (p0 : Nat) (tp0 : isK Λ 8 p0) (p1 : Int32) (p2 : Int32), J X 5 0 0 75 [(0, vR (some p0)), (1, vI p1), (2, vI p2)] [] Λ S (B_X8_coarse_75 Λ.2.2 k26 S p0 p1 p2 = some r) := by
  intro S p0 tp0 p1 p2
  unfold B_X8_coarse_75
  refine j_iload_n C dX8_coarse_75 1 rfl ?_
  refine j_iconst C (v := (1 : Int32)) dX8_coarse_76 (by decide) ?_
  refine j_iload_n C dX8_coarse_77 2 rfl ?_
  refine j_ishl C dX8_coarse_78 ?_
  refine j_ior C dX8_coarse_79 ?_
  refine j_istore_n C (L' := [(1, vI (p1 ||| ((1 : Int32) <<< (p2 &&& 31)))), (0, vR (some p0)), (2, vI p2)]) dX8_coarse_80 (by decide) rfl ?_
  refine j_sub (L' := [(0, vR (some p0)), (1, vI (p1 ||| ((1 : Int32) <<< (p2 &&& 31)))), (2, vI p2)]) [1, 0, 2] rfl ?_
  exact jB_X8_coarse_81 C E k26 hk26 S p0 tp0 (p1 ||| ((1 : Int32) <<< (p2 &&& 31))) p2
def B_X8_coarse_61 (N : Nat → Nat) (k26 : sSt → Nat → Int32 → Int32 → Option (Int32 × sSt)) (S : sSt) (p0 : Nat) (p1 : Int32) (p2 : Int32) (s0 : Int32) : Option (Int32 × sSt) := (if s0 = (1 : Int32) then B_X8_coarse_75 N k26 S p0 p1 p2 else (if s0 = (2 : Int32) then B_X8_coarse_75 N k26 S p0 p1 p2 else B_X8_coarse_81 N k26 S p0 p1 p2))
set_option maxHeartbeats 4000000 in
theorem jB_X8_coarse_61 {X : jX} (C : jC X cX8_coarse 5 RX8 rm_X8_coarse) {Λ : sLay} {r : (Int32 × sSt)} (E : jE X (some .int) rI Λ r) (k26 : sSt → Nat → Int32 → Int32 → Option (Int32 × sSt)) (hk26 : ∀ (S : sSt) (p0 : Nat) (tp0 : isK Λ 8 p0) (p1 : Int32) (p2 : Int32), J X 5 0 0 26 [(0, vR (some p0)), (1, vI p1), (2, vI p2)] [] Λ S (k26 S p0 p1 p2 = some r)) : ∀ (S : sSt) (p0 : Nat) (tp0 : isK Λ 8 p0) (p1 : Int32) (p2 : Int32) (s0 : Int32), J X 5 0 0 61 [(0, vR (some p0)), (1, vI p1), (2, vI p2)] [vI s0] Λ S (B_X8_coarse_61 Λ.2.2 k26 S p0 p1 p2 s0 = some r) := by
  intro S p0 tp0 p1 p2 s0
  unfold B_X8_coarse_61
  refine j_istore C (L' := [(4, vI s0), (0, vR (some p0)), (1, vI p1), (2, vI p2)]) dX8_coarse_61 (by decide) rfl ?_
  refine j_iload C dX8_coarse_63 0 rfl ?_
  refine j_iconst C (v := (1 : Int32)) dX8_coarse_65 (by decide) ?_
  refine j_icmp_eq C (tgt := 75) dX8_coarse_66 (by decide) ?_ ?_
  · refine j_sub (L' := [(0, vR (some p0)), (1, vI p1), (2, vI p2)]) [1, 2, 3] rfl ?_
    exact jB_X8_coarse_75 C E k26 hk26 S p0 tp0 p1 p2
  · refine j_iload C dX8_coarse_69 0 rfl ?_
    refine j_iconst C (v := (2 : Int32)) dX8_coarse_71 (by decide) ?_
    refine j_icmp_ne C (tgt := 81) dX8_coarse_72 (by decide) ?_ ?_
    · refine j_sub (L' := [(0, vR (some p0)), (1, vI p1), (2, vI p2)]) [1, 2, 3] rfl ?_
      exact jB_X8_coarse_81 C E k26 hk26 S p0 tp0 p1 p2
    · refine j_sub (L' := [(0, vR (some p0)), (1, vI p1), (2, vI p2)]) [1, 2, 3] rfl ?_
      exact jB_X8_coarse_75 C E k26 hk26 S p0 tp0 p1 p2
def Y_X8_coarse_26 (N : Nat → Nat) (rec : sSt → Nat → Int32 → Int32 → Option (Int32 × sSt)) (S : sSt) (p0 : Nat) (p1 : Int32) (p2 : Int32) : Option (Int32 × sSt) := (if (16 : Int32) ≤ p2 then L_X8_coarse_91 N FU S p0 p1 p1 (0 : Int32) else bnd (gFR S 320 p0) (fun x17 => Option.bind x17 (fun a18 => Option.bind (F_X7_at N S a18 p2) (fun v19 => onl v19 (B_X8_coarse_61 N rec S p0 p1 p2 (0 : Int32)) (fun a21 => bnd (gFR S 322 p0) (fun x22 => bnd (gFR S 320 p0) (fun x23 => Option.bind x22 (fun a24 => obd (F_X4_reasonFor N S a24 (some a21) x23) (fun v25 S26 => B_X8_coarse_61 N rec S26 p0 p1 p2 v25)))))))))
set_option maxHeartbeats 4000000 in
theorem jY_X8_coarse_26 {X : jX} (C : jC X cX8_coarse 5 RX8 rm_X8_coarse) {Λ : sLay} {r : (Int32 × sSt)} (E : jE X (some .int) rI Λ r) (rec : sSt → Nat → Int32 → Int32 → Option (Int32 × sSt)) (hrec : ∀ (S : sSt) (p0 : Nat) (tp0 : isK Λ 8 p0) (p1 : Int32) (p2 : Int32), J X 5 0 0 26 [(0, vR (some p0)), (1, vI p1), (2, vI p2)] [] Λ S (rec S p0 p1 p2 = some r)) : ∀ (S : sSt) (p0 : Nat) (tp0 : isK Λ 8 p0) (p1 : Int32) (p2 : Int32), J X 5 0 0 26 [(0, vR (some p0)), (1, vI p1), (2, vI p2)] [] Λ S (Y_X8_coarse_26 Λ.2.2 rec S p0 p1 p2 = some r) := by
  intro S p0 tp0 p1 p2
  unfold Y_X8_coarse_26
  refine j_iload_n C dX8_coarse_26 2 rfl ?_
  refine j_bipush C (v := (16 : Int32)) dX8_coarse_27 (by decide) ?_
  refine j_icmp_ge C (tgt := 87) dX8_coarse_29 (by decide) ?_ ?_
  · refine j_iload_n C dX8_coarse_87 1 rfl ?_
    refine j_istore_n C (L' := [(2, vI p1), (0, vR (some p0)), (1, vI p1)]) dX8_coarse_88 (by decide) rfl ?_
    refine j_iconst C (v := (0 : Int32)) dX8_coarse_89 (by decide) ?_
    refine j_istore_n C (L' := [(3, vI (0 : Int32)), (2, vI p1), (0, vR (some p0)), (1, vI p1)]) dX8_coarse_90 (by decide) rfl ?_
    refine j_sub (L' := [(0, vR (some p0)), (1, vI p1), (2, vI p1), (3, vI (0 : Int32))]) [2, 3, 1, 0] rfl ?_
    exact jL_X8_coarse_91 C E FU S p0 tp0 p1 p1 (0 : Int32)
  · refine j_aload_n C dX8_coarse_32 0 rfl ?_
    refine j_getR C kK8 f320 kfX8_12 (by decide) rfl tp0 dX8_coarse_33 (fun x17 tx17 => ?_)
    refine j_iload_n C dX8_coarse_36 2 rfl ?_
    refine j_oc tx17 (fun a18 ta18 ea18 => ?_)
    subst ea18
    refine j_cVRP C [vI p2] [] (fun _ e => c_X7_at a18 ta18 p2 e) kYX7_at kVX7_at kmX8_50 kO7 ta18 rfl rfl ⟨rfl, rfl, by decide, by decide⟩ (Nat.le_of_ble_eq_true rfl) ⟨Nat.zero_le _, Nat.zero_le _⟩ dX8_coarse_37 (fun v19 tv19 => ?_)
    refine j_astore_n C (L' := [(3, vR v19), (0, vR (some p0)), (1, vI p1), (2, vI p2)]) dX8_coarse_40 (by decide) rfl ?_
    refine j_aload_n C dX8_coarse_41 0 rfl ?_
    refine j_ifnonnull C (tgt := 49) tv19 dX8_coarse_42 (by decide) (fun ea21 => ?_) (fun a21 ta21 ea21 => ?_)
    · subst ea21
      refine j_iconst C (v := (0 : Int32)) dX8_coarse_45 (by decide) ?_
      refine j_goto C (tgt := 61) dX8_coarse_46 (by decide) ?_
      refine j_sub (L' := [(0, vR (some p0)), (1, vI p1), (2, vI p2)]) [1, 2, 3] rfl ?_
      exact jB_X8_coarse_61 C E rec hrec S p0 tp0 p1 p2 (0 : Int32)
    · subst ea21
      refine j_aload_n C dX8_coarse_49 1 rfl ?_
      refine j_getR C kK8 f322 kfX8_26 (by decide) rfl tp0 dX8_coarse_50 (fun x22 tx22 => ?_)
      refine j_aload_n C dX8_coarse_53 0 rfl ?_
      refine j_aload_n C dX8_coarse_54 1 rfl ?_
      refine j_getR C kK8 f320 kfX8_12 (by decide) rfl tp0 dX8_coarse_55 (fun x23 tx23 => ?_)
      refine j_oc tx22 (fun a24 ta24 ea24 => ?_)
      subst ea24
      refine j_cVIG C [vR (some a21), vR x23] [] (fun _ _ e => c_X4_reasonFor a24 ta24 (some a21) (okS ta21) x23 tx23 e) kYX4_reasonFor kVX4_reasonFor kmX8_198 kO4 ta24 rfl rfl ⟨rfl, rfl, by decide, by decide⟩ (Nat.le_of_ble_eq_true rfl) ⟨Nat.zero_le _, Nat.zero_le _⟩ dX8_coarse_58 (fun v25 S26 => ?_)
      refine j_sub (L' := [(0, vR (some p0)), (1, vI p1), (2, vI p2)]) [1, 2, 3] rfl ?_
      exact jB_X8_coarse_61 C E rec hrec S26 p0 tp0 p1 p2 v25
def L_X8_coarse_26 (N : Nat → Nat) (n : Nat) : sSt → Nat → Int32 → Int32 → Option (Int32 × sSt) := iter (fun _ _ _ _ => none) (Y_X8_coarse_26 N) n
theorem jL_X8_coarse_26 {X : jX} (C : jC X cX8_coarse 5 RX8 rm_X8_coarse) {Λ : sLay} {r : (Int32 × sSt)} (E : jE X (some .int) rI Λ r) : ∀ (n : Nat) (S : sSt) (p0 : Nat) (tp0 : isK Λ 8 p0) (p1 : Int32) (p2 : Int32), J X 5 0 0 26 [(0, vR (some p0)), (1, vI p1), (2, vI p2)] [] Λ S (L_X8_coarse_26 Λ.2.2 n S p0 p1 p2 = some r) := by
  intro n
  induction n with
  | zero => intro S p0 tp0 p1 p2; exact j_no (fun h => by have h2 : (none : Option (Int32 × sSt)) = some r := h; cases h2)
  | succ n ih => intro S p0 tp0 p1 p2; exact jY_X8_coarse_26 C E (L_X8_coarse_26 Λ.2.2 n) ih S p0 tp0 p1 p2
def F_X8_coarse (N : Nat → Nat) (S : sSt) (p0 : Nat) : Option (Int32 × sSt) := bnd (gFR S 321 p0) (fun x1 => bnd (gFR S 320 p0) (fun x2 => Option.bind x1 (fun a3 => Option.bind (F_X0_settleAll N S a3 x2) (fun S5 => bnd (gFR S5 323 p0) (fun x6 => bnd (gFR S5 320 p0) (fun x7 => Option.bind x6 (fun a8 => Option.bind (F_X2_arrange N S5 a8 x7) (fun S10 => L_X8_coarse_26 N FU S10 p0 (0 : Int32) (0 : Int32)))))))))
set_option maxHeartbeats 4000000 in
theorem jF_X8_coarse {X : jX} (C : jC X cX8_coarse 5 RX8 rm_X8_coarse) {Λ : sLay} {S : sSt} {r : (Int32 × sSt)} (E : jE X (some .int) rI Λ r) (p0 : Nat) (tp0 : isK Λ 8 p0) : J X 5 0 0 0 [(0, vR (some p0))] [] Λ S (F_X8_coarse Λ.2.2 S p0 = some r) := by
  unfold F_X8_coarse
  refine j_aload_n C dX8_coarse_0 0 rfl ?_
  refine j_getR C kK8 f321 kfX8_19 (by decide) rfl tp0 dX8_coarse_1 (fun x1 tx1 => ?_)
  refine j_aload_n C dX8_coarse_4 0 rfl ?_
  refine j_getR C kK8 f320 kfX8_12 (by decide) rfl tp0 dX8_coarse_5 (fun x2 tx2 => ?_)
  refine j_oc tx1 (fun a3 ta3 ea3 => ?_)
  subst ea3
  refine j_cVVV C [vR x2] [] (fun _ e => c_X0_settleAll a3 ta3 x2 tx2 e) kYX0_settleAll kVX0_settleAll kmX8_139 kO0 ta3 rfl rfl ⟨rfl, rfl, by decide, by decide⟩ (Nat.le_of_ble_eq_true rfl) ⟨Nat.zero_le _, Nat.zero_le _⟩ dX8_coarse_8 (fun S5 => ?_)
  refine j_aload_n C dX8_coarse_11 0 rfl ?_
  refine j_getR C kK8 f323 kfX8_33 (by decide) rfl tp0 dX8_coarse_12 (fun x6 tx6 => ?_)
  refine j_aload_n C dX8_coarse_15 0 rfl ?_
  refine j_getR C kK8 f320 kfX8_12 (by decide) rfl tp0 dX8_coarse_16 (fun x7 tx7 => ?_)
  refine j_oc tx6 (fun a8 ta8 ea8 => ?_)
  subst ea8
  refine j_cVVV C [vR x7] [] (fun _ e => c_X2_arrange a8 ta8 x7 tx7 e) kYX2_arrange kVX2_arrange kmX8_202 kO2 ta8 rfl rfl ⟨rfl, rfl, by decide, by decide⟩ (Nat.le_of_ble_eq_true rfl) ⟨Nat.zero_le _, Nat.zero_le _⟩ dX8_coarse_19 (fun S10 => ?_)
  refine j_iconst C (v := (0 : Int32)) dX8_coarse_22 (by decide) ?_
  refine j_istore_n C (L' := [(1, vI (0 : Int32)), (0, vR (some p0))]) dX8_coarse_23 (by decide) rfl ?_
  refine j_iconst C (v := (0 : Int32)) dX8_coarse_24 (by decide) ?_
  refine j_istore_n C (L' := [(2, vI (0 : Int32)), (1, vI (0 : Int32)), (0, vR (some p0))]) dX8_coarse_25 (by decide) rfl ?_
  refine j_sub (L' := [(0, vR (some p0)), (1, vI (0 : Int32)), (2, vI (0 : Int32))]) [2, 1, 0] rfl ?_
  exact jL_X8_coarse_26 C E FU S10 p0 tp0 (0 : Int32) (0 : Int32)
theorem c_X8_coarse {l : Launch} {D : va_G} {cy : Nat → ClassId} {Λ : sLay} {S : sSt} (p0 : Nat) (tp0 : isK Λ 8 p0) {v : Int32} {S1 : sSt} (h : F_X8_coarse Λ.2.2 S p0 = some (v, S1)) : jM l yX8_coarse (Cond.code yX8_coarse cX8_coarse 5 (some .int) :: bigW) rm_X8_coarse D cy Λ S [vR (some p0)] rI (v, S1) := jM_of (by decide +kernel) (Nat.le_of_ble_eq_true rfl) (fun X C E _ _ _ => j_sub [0] rfl (jF_X8_coarse C E p0 tp0)) h
/-! RemakeNeeds2.count(I)I -/
abbrev rm_X8_count : Room := { frames := 5, cells := 0, slots := 0, locals := 119 }
def F_X8_count (N : Nat → Nat) (S : sSt) (p0 : Nat) (p1 : Int32) : Option (Int32 × sSt) := (if p1 = 0 then bnd (gFR S 320 p0) (fun x1 => Option.bind x1 (fun a2 => Option.bind (F_X7_thereNow N S a2) (fun v3 => some (v3, S)))) else (if p1 = 1 then bnd (gFR S 320 p0) (fun x5 => Option.bind x5 (fun a6 => some ((gFI S 281 a6), S))) else (if p1 = 2 then bnd (gFR S 323 p0) (fun x7 => bnd (gFR S 320 p0) (fun x8 => Option.bind x7 (fun a9 => Option.bind (F_X2_arrange N S a9 x8) (fun S11 => bnd (gFR S11 323 p0) (fun x12 => Option.bind x12 (fun a13 => some ((gFI S11 83 a13), S11))))))) else (if p1 = 3 then bnd (gFR S 323 p0) (fun x14 => bnd (gFR S 320 p0) (fun x15 => Option.bind x14 (fun a16 => Option.bind (F_X2_arrange N S a16 x15) (fun S18 => bnd (gFR S18 323 p0) (fun x19 => Option.bind x19 (fun a20 => some ((gFI S18 84 a20), S18))))))) else (if p1 = 4 then some ((gFI S 324 p0), S) else some ((-2 : Int32), S))))))
set_option maxHeartbeats 4000000 in
theorem jF_X8_count {X : jX} (C : jC X cX8_count 2 RX8 rm_X8_count) {Λ : sLay} {S : sSt} {r : (Int32 × sSt)} (E : jE X (some .int) rI Λ r) (p0 : Nat) (tp0 : isK Λ 8 p0) (p1 : Int32) : J X 2 0 0 0 [(0, vR (some p0)), (1, vI p1)] [] Λ S (F_X8_count Λ.2.2 S p0 p1 = some r) := by
  unfold F_X8_count
  refine j_iload_n C dX8_count_0 1 rfl ?_
  refine j_ite (fun g0 => ?_) (fun g0 => ?_)
  · refine j_tableIn C (tgt := 36) 0 g0 dX8_count_1 (by decide) (by decide) rfl (by decide) ?_
    refine j_aload_n C dX8_count_36 0 rfl ?_
    refine j_getR C kK8 f320 kfX8_12 (by decide) rfl tp0 dX8_count_37 (fun x1 tx1 => ?_)
    refine j_oc tx1 (fun a2 ta2 ea2 => ?_)
    subst ea2
    refine j_cVIP C [] [] (fun _ e => c_X7_thereNow a2 ta2 e) kYX7_thereNow kVX7_thereNow kmX8_125 kO7 ta2 rfl rfl ⟨rfl, rfl, by decide, by decide⟩ (Nat.le_of_ble_eq_true rfl) ⟨Nat.zero_le _, Nat.zero_le _⟩ dX8_count_40 (fun v3 => ?_)
    exact j_iret C E dX8_count_43
  refine j_ite (fun g1 => ?_) (fun g1 => ?_)
  · refine j_tableIn C (tgt := 44) 1 g1 dX8_count_1 (by decide) (by decide) rfl (by decide) ?_
    refine j_aload_n C dX8_count_44 0 rfl ?_
    refine j_getR C kK8 f320 kfX8_12 (by decide) rfl tp0 dX8_count_45 (fun x5 tx5 => ?_)
    refine j_oc tx5 (fun a6 ta6 ea6 => ?_)
    subst ea6
    refine j_getI C kK7 f281 kfX8_236 (by decide) ta6 dX8_count_48 ?_
    exact j_iret C E dX8_count_51
  refine j_ite (fun g2 => ?_) (fun g2 => ?_)
  · refine j_tableIn C (tgt := 52) 2 g2 dX8_count_1 (by decide) (by decide) rfl (by decide) ?_
    refine j_aload_n C dX8_count_52 0 rfl ?_
    refine j_getR C kK8 f323 kfX8_33 (by decide) rfl tp0 dX8_count_53 (fun x7 tx7 => ?_)
    refine j_aload_n C dX8_count_56 0 rfl ?_
    refine j_getR C kK8 f320 kfX8_12 (by decide) rfl tp0 dX8_count_57 (fun x8 tx8 => ?_)
    refine j_oc tx7 (fun a9 ta9 ea9 => ?_)
    subst ea9
    refine j_cVVV C [vR x8] [] (fun _ e => c_X2_arrange a9 ta9 x8 tx8 e) kYX2_arrange kVX2_arrange kmX8_202 kO2 ta9 rfl rfl ⟨rfl, rfl, by decide, by decide⟩ (Nat.le_of_ble_eq_true rfl) ⟨Nat.zero_le _, Nat.zero_le _⟩ dX8_count_60 (fun S11 => ?_)
    refine j_aload_n C dX8_count_63 0 rfl ?_
    refine j_getR C kK8 f323 kfX8_33 (by decide) rfl tp0 dX8_count_64 (fun x12 tx12 => ?_)
    refine j_oc tx12 (fun a13 ta13 ea13 => ?_)
    subst ea13
    refine j_getI C kK2 f83 kfX8_239 (by decide) ta13 dX8_count_67 ?_
    exact j_iret C E dX8_count_70
  refine j_ite (fun g3 => ?_) (fun g3 => ?_)
  · refine j_tableIn C (tgt := 71) 3 g3 dX8_count_1 (by decide) (by decide) rfl (by decide) ?_
    refine j_aload_n C dX8_count_71 0 rfl ?_
    refine j_getR C kK8 f323 kfX8_33 (by decide) rfl tp0 dX8_count_72 (fun x14 tx14 => ?_)
    refine j_aload_n C dX8_count_75 0 rfl ?_
    refine j_getR C kK8 f320 kfX8_12 (by decide) rfl tp0 dX8_count_76 (fun x15 tx15 => ?_)
    refine j_oc tx14 (fun a16 ta16 ea16 => ?_)
    subst ea16
    refine j_cVVV C [vR x15] [] (fun _ e => c_X2_arrange a16 ta16 x15 tx15 e) kYX2_arrange kVX2_arrange kmX8_202 kO2 ta16 rfl rfl ⟨rfl, rfl, by decide, by decide⟩ (Nat.le_of_ble_eq_true rfl) ⟨Nat.zero_le _, Nat.zero_le _⟩ dX8_count_79 (fun S18 => ?_)
    refine j_aload_n C dX8_count_82 0 rfl ?_
    refine j_getR C kK8 f323 kfX8_33 (by decide) rfl tp0 dX8_count_83 (fun x19 tx19 => ?_)
    refine j_oc tx19 (fun a20 ta20 ea20 => ?_)
    subst ea20
    refine j_getI C kK2 f84 kfX8_242 (by decide) ta20 dX8_count_86 ?_
    exact j_iret C E dX8_count_89
  refine j_ite (fun g4 => ?_) (fun g4 => ?_)
  · refine j_tableIn C (tgt := 90) 4 g4 dX8_count_1 (by decide) (by decide) rfl (by decide) ?_
    refine j_aload_n C dX8_count_90 0 rfl ?_
    refine j_getI C kK8 f324 kfX8_37 (by decide) tp0 dX8_count_91 ?_
    exact j_iret C E dX8_count_94
  refine j_tableOut C (tgt := 95) dX8_count_1 (sw_out (x := p1) 4 (fun j hj => by have h5 : j = 0 ∨ j = 1 ∨ j = 2 ∨ j = 3 ∨ j = 4 := (by omega); rcases h5 with rfl | rfl | rfl | rfl | rfl <;> assumption)) (by decide) ?_
  refine j_bipush C (v := (-2 : Int32)) dX8_count_95 (by decide) ?_
  exact j_iret C E dX8_count_97
theorem c_X8_count {l : Launch} {D : va_G} {cy : Nat → ClassId} {Λ : sLay} {S : sSt} (p0 : Nat) (tp0 : isK Λ 8 p0) (p1 : Int32) {v : Int32} {S1 : sSt} (h : F_X8_count Λ.2.2 S p0 p1 = some (v, S1)) : jM l yX8_count (Cond.code yX8_count cX8_count 2 (some .int) :: bigW) rm_X8_count D cy Λ S [vR (some p0), vI p1] rI (v, S1) := jM_of (by decide +kernel) (Nat.le_of_ble_eq_true rfl) (fun X C E _ _ _ => j_sub [0, 1] rfl (jF_X8_count C E p0 tp0 p1)) h
/-! RemakeNeeds2.makeOne(LRemakeNeeds2$Unit;)V -/
abbrev rm_X8_makeOne : Room := { frames := 5, cells := 0, slots := 0, locals := 120 }
def F_X8_makeOne (N : Nat → Nat) (S : sSt) (p0 : Nat) (p1 : Option Nat) : Option sSt := bnd (gFR S 322 p0) (fun x1 => Option.bind p1 (fun a2 => bnd (gFR S 243 a2) (fun x3 => bnd (gFR S 320 p0) (fun x4 => Option.bind x1 (fun a5 => Option.bind (F_X4_write N S a5 x3 (some a2) x4) (fun S7 => bnd (sFI S7 250 a2 ((gFI S7 250 a2) + (1 : Int32))) (fun S8 => bnd (sFI S8 324 p0 ((gFI S8 324 p0) + (1 : Int32))) (fun S9 => some S9))))))))
set_option maxHeartbeats 4000000 in
theorem jF_X8_makeOne {X : jX} (C : jC X cX8_makeOne 2 RX8 rm_X8_makeOne) {Λ : sLay} {S : sSt} {r : sSt} (E : jE X none rV Λ ((), r)) (p0 : Nat) (tp0 : isK Λ 8 p0) (p1 : Option Nat) (tp1 : okK Λ 6 p1) : J X 2 0 0 0 [(0, vR (some p0)), (1, vR p1)] [] Λ S (F_X8_makeOne Λ.2.2 S p0 p1 = some r) := by
  unfold F_X8_makeOne
  refine j_aload_n C dX8_makeOne_0 0 rfl ?_
  refine j_getR C kK8 f322 kfX8_26 (by decide) rfl tp0 dX8_makeOne_1 (fun x1 tx1 => ?_)
  refine j_aload_n C dX8_makeOne_4 1 rfl ?_
  refine j_oc tp1 (fun a2 ta2 ea2 => ?_)
  subst ea2
  refine j_getR C kK6 f243 kfX8_192 (by decide) rfl ta2 dX8_makeOne_5 (fun x3 tx3 => ?_)
  refine j_aload_n C dX8_makeOne_8 1 rfl ?_
  refine j_aload_n C dX8_makeOne_9 0 rfl ?_
  refine j_getR C kK8 f320 kfX8_12 (by decide) rfl tp0 dX8_makeOne_10 (fun x4 tx4 => ?_)
  refine j_oc tx1 (fun a5 ta5 ea5 => ?_)
  subst ea5
  refine j_cVVV C [vR x3, vR (some a2), vR x4] [] (fun _ e => c_X4_write a5 ta5 x3 tx3 (some a2) (okS ta2) x4 tx4 e) kYX4_write kVX4_write kmX8_251 kO4 ta5 rfl rfl ⟨rfl, rfl, by decide, by decide⟩ (Nat.le_of_ble_eq_true rfl) ⟨Nat.zero_le _, Nat.zero_le _⟩ dX8_makeOne_13 (fun S7 => ?_)
  refine j_aload_n C dX8_makeOne_16 1 rfl ?_
  refine j_dup C dX8_makeOne_17 rfl ?_
  refine j_getI C kK6 f250 kfX8_184 (by decide) ta2 dX8_makeOne_18 ?_
  refine j_iconst C (v := (1 : Int32)) dX8_makeOne_21 (by decide) ?_
  refine j_iadd C dX8_makeOne_22 ?_
  refine j_putI C kK6 f250 kfX8_184 (by decide) rfl rfl rfl ta2 dX8_makeOne_23 (fun S8 => ?_)
  refine j_aload_n C dX8_makeOne_26 0 rfl ?_
  refine j_dup C dX8_makeOne_27 rfl ?_
  refine j_getI C kK8 f324 kfX8_37 (by decide) tp0 dX8_makeOne_28 ?_
  refine j_iconst C (v := (1 : Int32)) dX8_makeOne_31 (by decide) ?_
  refine j_iadd C dX8_makeOne_32 ?_
  refine j_putI C kK8 f324 kfX8_37 (by decide) rfl rfl rfl tp0 dX8_makeOne_33 (fun S9 => ?_)
  exact j_vretP C E dX8_makeOne_36
theorem c_X8_makeOne {l : Launch} {D : va_G} {cy : Nat → ClassId} {Λ : sLay} {S : sSt} (p0 : Nat) (tp0 : isK Λ 8 p0) (p1 : Option Nat) (tp1 : okK Λ 6 p1) {r : sSt} (h : F_X8_makeOne Λ.2.2 S p0 p1 = some r) : jM l yX8_makeOne (Cond.code yX8_makeOne cX8_makeOne 2 none :: bigW) rm_X8_makeOne D cy Λ S [vR (some p0), vR p1] rV ((), r) := jM_of (by decide +kernel) (Nat.le_of_ble_eq_true rfl) (fun X C E _ _ _ => j_sub [0, 1] rfl (jF_X8_makeOne C E p0 tp0 p1 tp1)) h
/-! RemakeNeeds2.force(I)I -/
abbrev rm_X8_force : Room := { frames := 6, cells := 0, slots := 0, locals := 141 }
def F_X8_force (N : Nat → Nat) (S : sSt) (p0 : Nat) (p1 : Int32) : Option (Int32 × sSt) := bnd (gFR S 320 p0) (fun x1 => Option.bind x1 (fun a2 => Option.bind (F_X7_at N S a2 p1) (fun v3 => onl v3 (some ((-1 : Int32), S)) (fun a5 => bnd (gFR S 321 p0) (fun x6 => bnd (gFR S 320 p0) (fun x7 => Option.bind x6 (fun a8 => Option.bind (F_X0_settleAll N S a8 x7) (fun S10 => Option.bind (F_X8_makeOne N S10 p0 (some a5)) (fun S12 => some ((gFI S12 250 a5), S12))))))))))
set_option maxHeartbeats 4000000 in
theorem jF_X8_force {X : jX} (C : jC X cX8_force 3 RX8 rm_X8_force) {Λ : sLay} {S : sSt} {r : (Int32 × sSt)} (E : jE X (some .int) rI Λ r) (p0 : Nat) (tp0 : isK Λ 8 p0) (p1 : Int32) : J X 3 0 0 0 [(0, vR (some p0)), (1, vI p1)] [] Λ S (F_X8_force Λ.2.2 S p0 p1 = some r) := by
  unfold F_X8_force
  refine j_aload_n C dX8_force_0 0 rfl ?_
  refine j_getR C kK8 f320 kfX8_12 (by decide) rfl tp0 dX8_force_1 (fun x1 tx1 => ?_)
  refine j_iload_n C dX8_force_4 1 rfl ?_
  refine j_oc tx1 (fun a2 ta2 ea2 => ?_)
  subst ea2
  refine j_cVRP C [vI p1] [] (fun _ e => c_X7_at a2 ta2 p1 e) kYX7_at kVX7_at kmX8_50 kO7 ta2 rfl rfl ⟨rfl, rfl, by decide, by decide⟩ (Nat.le_of_ble_eq_true rfl) ⟨Nat.zero_le _, Nat.zero_le _⟩ dX8_force_5 (fun v3 tv3 => ?_)
  refine j_astore_n C (L' := [(2, vR v3), (0, vR (some p0)), (1, vI p1)]) dX8_force_8 (by decide) rfl ?_
  refine j_aload_n C dX8_force_9 0 rfl ?_
  refine j_ifnonnull C (tgt := 15) tv3 dX8_force_10 (by decide) (fun ea5 => ?_) (fun a5 ta5 ea5 => ?_)
  · subst ea5
    refine j_iconst C (v := (-1 : Int32)) dX8_force_13 (by decide) ?_
    exact j_iret C E dX8_force_14
  · subst ea5
    refine j_aload_n C dX8_force_15 1 rfl ?_
    refine j_getR C kK8 f321 kfX8_19 (by decide) rfl tp0 dX8_force_16 (fun x6 tx6 => ?_)
    refine j_aload_n C dX8_force_19 1 rfl ?_
    refine j_getR C kK8 f320 kfX8_12 (by decide) rfl tp0 dX8_force_20 (fun x7 tx7 => ?_)
    refine j_oc tx6 (fun a8 ta8 ea8 => ?_)
    subst ea8
    refine j_cVVV C [vR x7] [] (fun _ e => c_X0_settleAll a8 ta8 x7 tx7 e) kYX0_settleAll kVX0_settleAll kmX8_139 kO0 ta8 rfl rfl ⟨rfl, rfl, by decide, by decide⟩ (Nat.le_of_ble_eq_true rfl) ⟨Nat.zero_le _, Nat.zero_le _⟩ dX8_force_23 (fun S10 => ?_)
    refine j_aload_n C dX8_force_26 1 rfl ?_
    refine j_aload_n C dX8_force_27 0 rfl ?_
    refine j_cVVV C [vR (some a5)] [] (fun _ e => c_X8_makeOne p0 tp0 (some a5) (okS ta5) e) kYX8_makeOne kVX8_makeOne kmX8_210 kO8 tp0 rfl rfl ⟨rfl, rfl, by decide, by decide⟩ (Nat.le_of_ble_eq_true rfl) ⟨Nat.zero_le _, Nat.zero_le _⟩ dX8_force_28 (fun S12 => ?_)
    refine j_aload_n C dX8_force_31 0 rfl ?_
    refine j_getI C kK6 f250 kfX8_184 (by decide) ta5 dX8_force_32 ?_
    exact j_iret C E dX8_force_35
theorem c_X8_force {l : Launch} {D : va_G} {cy : Nat → ClassId} {Λ : sLay} {S : sSt} (p0 : Nat) (tp0 : isK Λ 8 p0) (p1 : Int32) {v : Int32} {S1 : sSt} (h : F_X8_force Λ.2.2 S p0 p1 = some (v, S1)) : jM l yX8_force (Cond.code yX8_force cX8_force 3 (some .int) :: bigW) rm_X8_force D cy Λ S [vR (some p0), vI p1] rI (v, S1) := jM_of (by decide +kernel) (Nat.le_of_ble_eq_true rfl) (fun X C E _ _ _ => j_sub [0, 1] rfl (jF_X8_force C E p0 tp0 p1)) h
/-! RemakeNeeds2.found(III)I -/
abbrev rm_X8_found : Room := { frames := 2, cells := 0, slots := 0, locals := 48 }
def F_X8_found (N : Nat → Nat) (S : sSt) (p0 : Nat) (p1 : Int32) (p2 : Int32) (p3 : Int32) : Option Int32 := bnd (gFR S 320 p0) (fun x1 => Option.bind x1 (fun a2 => Option.bind (F_X7_at N S a2 p1) (fun v3 => onl v3 (some (-1 : Int32)) (fun a5 => Option.bind (F_X8_isBelow N S p2 (3 : Int32)) (fun v6 => (if v6 = 0 then some (-2 : Int32) else Option.bind (F_X8_isBelow N S p3 (32 : Int32)) (fun v8 => (if v8 = 0 then some (-2 : Int32) else bnd (gFR S 320 p0) (fun x10 => Option.bind (F_X8_keyOf N S p2 p3) (fun v11 => Option.bind x10 (fun a13 => Option.bind (F_X7_lookFrom N S a13 (some a5) v11) (fun v14 => onl v14 (some (-5 : Int32)) (fun a16 => some (gFI S 200 a16))))))))))))))
set_option maxHeartbeats 4000000 in
theorem jF_X8_found {X : jX} (C : jC X cX8_found 6 RX8 rm_X8_found) {Λ : sLay} {S : sSt} {r : Int32} (E : jE X (some .int) rI Λ (r, S)) (p0 : Nat) (tp0 : isK Λ 8 p0) (p1 : Int32) (p2 : Int32) (p3 : Int32) : J X 6 0 0 0 [(0, vR (some p0)), (1, vI p1), (2, vI p2), (3, vI p3)] [] Λ S (F_X8_found Λ.2.2 S p0 p1 p2 p3 = some r) := by
  unfold F_X8_found
  refine j_aload_n C dX8_found_0 0 rfl ?_
  refine j_getR C kK8 f320 kfX8_12 (by decide) rfl tp0 dX8_found_1 (fun x1 tx1 => ?_)
  refine j_iload_n C dX8_found_4 1 rfl ?_
  refine j_oc tx1 (fun a2 ta2 ea2 => ?_)
  subst ea2
  refine j_cVRP C [vI p1] [] (fun _ e => c_X7_at a2 ta2 p1 e) kYX7_at kVX7_at kmX8_50 kO7 ta2 rfl rfl ⟨rfl, rfl, by decide, by decide⟩ (Nat.le_of_ble_eq_true rfl) ⟨Nat.zero_le _, Nat.zero_le _⟩ dX8_found_5 (fun v3 tv3 => ?_)
  refine j_astore C (L' := [(4, vR v3), (0, vR (some p0)), (1, vI p1), (2, vI p2), (3, vI p3)]) dX8_found_8 (by decide) rfl ?_
  refine j_aload C dX8_found_10 0 rfl ?_
  refine j_ifnonnull C (tgt := 17) tv3 dX8_found_12 (by decide) (fun ea5 => ?_) (fun a5 ta5 ea5 => ?_)
  · subst ea5
    refine j_iconst C (v := (-1 : Int32)) dX8_found_15 (by decide) ?_
    exact j_iretP C E dX8_found_16
  · subst ea5
    refine j_iload_n C dX8_found_17 3 rfl ?_
    refine j_iconst C (v := (3 : Int32)) dX8_found_18 (by decide) ?_
    refine j_cSIP C [vI p2, vI (3 : Int32)] [] (fun _ e => c_X8_isBelow p2 (3 : Int32) e) kYX8_isBelow kSX8_isBelow kmX8_54 rfl rfl ⟨rfl, rfl, by decide, by decide⟩ (Nat.le_of_ble_eq_true rfl) ⟨Nat.zero_le _, Nat.zero_le _⟩ dX8_found_19 (fun v6 => ?_)
    refine j_if_eq C (tgt := 34) dX8_found_22 (by decide) ?_ ?_
    · refine j_bipush C (v := (-2 : Int32)) dX8_found_34 (by decide) ?_
      exact j_iretP C E dX8_found_36
    · refine j_iload_n C dX8_found_25 4 rfl ?_
      refine j_bipush C (v := (32 : Int32)) dX8_found_26 (by decide) ?_
      refine j_cSIP C [vI p3, vI (32 : Int32)] [] (fun _ e => c_X8_isBelow p3 (32 : Int32) e) kYX8_isBelow kSX8_isBelow kmX8_54 rfl rfl ⟨rfl, rfl, by decide, by decide⟩ (Nat.le_of_ble_eq_true rfl) ⟨Nat.zero_le _, Nat.zero_le _⟩ dX8_found_28 (fun v8 => ?_)
      refine j_if_ne C (tgt := 37) dX8_found_31 (by decide) ?_ ?_
      · refine j_aload_n C dX8_found_37 1 rfl ?_
        refine j_getR C kK8 f320 kfX8_12 (by decide) rfl tp0 dX8_found_38 (fun x10 tx10 => ?_)
        refine j_aload C dX8_found_41 0 rfl ?_
        refine j_iload_n C dX8_found_43 3 rfl ?_
        refine j_iload_n C dX8_found_44 4 rfl ?_
        refine j_cSIP C [vI p2, vI p3] [vR (some a5), vR x10] (fun _ e => c_X8_keyOf p2 p3 e) kYX8_keyOf kSX8_keyOf kmX8_58 rfl rfl ⟨rfl, rfl, by decide, by decide⟩ (Nat.le_of_ble_eq_true rfl) ⟨Nat.zero_le _, Nat.zero_le _⟩ dX8_found_45 (fun v11 => ?_)
        refine j_oc tx10 (fun a13 ta13 ea13 => ?_)
        subst ea13
        refine j_cVRP C [vR (some a5), vI v11] [] (fun _ e => c_X7_lookFrom a13 ta13 (some a5) (okS ta5) v11 e) kYX7_lookFrom kVX7_lookFrom kmX8_128 kO7 ta13 rfl rfl ⟨rfl, rfl, by decide, by decide⟩ (Nat.le_of_ble_eq_true rfl) ⟨Nat.zero_le _, Nat.zero_le _⟩ dX8_found_48 (fun v14 tv14 => ?_)
        refine j_astore C (L' := [(5, vR v14), (4, vR (some a5)), (0, vR (some p0)), (1, vI p1), (2, vI p2), (3, vI p3)]) dX8_found_51 (by decide) rfl ?_
        refine j_aload C dX8_found_53 0 rfl ?_
        refine j_ifnonnull C (tgt := 63) tv14 dX8_found_55 (by decide) (fun ea16 => ?_) (fun a16 ta16 ea16 => ?_)
        · subst ea16
          refine j_bipush C (v := (-5 : Int32)) dX8_found_58 (by decide) ?_
          refine j_goto C (tgt := 68) dX8_found_60 (by decide) ?_
          exact j_iretP C E dX8_found_68
        · subst ea16
          refine j_aload C dX8_found_63 0 rfl ?_
          refine j_getI C kK5 f200 kfX8_132 (by decide) ta16 dX8_found_65 ?_
          exact j_iretP C E dX8_found_68
      · refine j_bipush C (v := (-2 : Int32)) dX8_found_34 (by decide) ?_
        exact j_iretP C E dX8_found_36
theorem c_X8_found {l : Launch} {D : va_G} {cy : Nat → ClassId} {Λ : sLay} {S : sSt} (p0 : Nat) (tp0 : isK Λ 8 p0) (p1 : Int32) (p2 : Int32) (p3 : Int32) {r : Int32} (h : F_X8_found Λ.2.2 S p0 p1 p2 p3 = some r) : jM l yX8_found (Cond.code yX8_found cX8_found 6 (some .int) :: bigW) rm_X8_found D cy Λ S [vR (some p0), vI p1, vI p2, vI p3] rI (r, S) := jM_of (by decide +kernel) (Nat.le_of_ble_eq_true rfl) (fun X C E _ _ _ => j_sub [0, 1, 2, 3] rfl (jF_X8_found C E p0 tp0 p1 p2 p3)) h
/-! RemakeNeeds2.generated(II)I -/
abbrev rm_X8_generated : Room := { frames := 1, cells := 0, slots := 0, locals := 22 }
def B_X8_generated_59 (N : Nat → Nat) (S : sSt) (p2 : Int32) (p3 : Nat) : Option (Int32 × sSt) := bnd (sFI S 249 p3 p2) (fun S12 => some ((1 : Int32), S12))
set_option maxHeartbeats 4000000 in
theorem jB_X8_generated_59 {X : jX} (C : jC X cX8_generated 5 RX8 rm_X8_generated) {Λ : sLay} {r : (Int32 × sSt)} (E : jE X (some .int) rI Λ r) : ∀ (S : sSt) (p2 : Int32) (p3 : Nat) (tp3 : isK Λ 6 p3), J X 5 0 0 59 [(2, vI p2), (3, vR (some p3))] [] Λ S (B_X8_generated_59 Λ.2.2 S p2 p3 = some r) := by
  intro S p2 p3 tp3
  unfold B_X8_generated_59
  refine j_aload_n C dX8_generated_59 1 rfl ?_
  refine j_iload_n C dX8_generated_60 0 rfl ?_
  refine j_putI C kK6 f249 kfX8_113 (by decide) rfl rfl rfl tp3 dX8_generated_61 (fun S12 => ?_)
  refine j_iconst C (v := (1 : Int32)) dX8_generated_64 (by decide) ?_
  exact j_iret C E dX8_generated_65
def B_X8_generated_36 (N : Nat → Nat) (S : sSt) (p2 : Int32) (p3 : Nat) (p4 : Option Nat) : Option (Int32 × sSt) := (if (gFI S 248 p3) = 0 then onl p4 (B_X8_generated_59 N S p2 p3) (fun a11 => (if (gFI S 248 a11) = 0 then some ((-3 : Int32), S) else B_X8_generated_59 N S p2 p3)) else some ((-3 : Int32), S))
set_option maxHeartbeats 4000000 in
theorem jB_X8_generated_36 {X : jX} (C : jC X cX8_generated 5 RX8 rm_X8_generated) {Λ : sLay} {r : (Int32 × sSt)} (E : jE X (some .int) rI Λ r) : ∀ (S : sSt) (p2 : Int32) (p3 : Nat) (tp3 : isK Λ 6 p3) (p4 : Option Nat) (tp4 : okK Λ 6 p4), J X 5 0 0 36 [(2, vI p2), (3, vR (some p3)), (4, vR p4)] [] Λ S (B_X8_generated_36 Λ.2.2 S p2 p3 p4 = some r) := by
  intro S p2 p3 tp3 p4 tp4
  unfold B_X8_generated_36
  refine j_aload_n C dX8_generated_36 1 rfl ?_
  refine j_getI C kK6 f248 kfX8_116 (by decide) tp3 dX8_generated_37 ?_
  refine j_if_ne C (tgt := 56) dX8_generated_40 (by decide) ?_ ?_
  · refine j_bipush C (v := (-3 : Int32)) dX8_generated_56 (by decide) ?_
    exact j_iret C E dX8_generated_58
  · refine j_aload C dX8_generated_43 2 rfl ?_
    refine j_ifnull C (tgt := 59) tp4 dX8_generated_45 (by decide) (fun ea11 => ?_) (fun a11 ta11 ea11 => ?_)
    · subst ea11
      refine j_sub (L' := [(2, vI p2), (3, vR (some p3))]) [0, 1] rfl ?_
      exact jB_X8_generated_59 C E S p2 p3 tp3
    · subst ea11
      refine j_aload C dX8_generated_48 2 rfl ?_
      refine j_getI C kK6 f248 kfX8_116 (by decide) ta11 dX8_generated_50 ?_
      refine j_if_ne C (tgt := 59) dX8_generated_53 (by decide) ?_ ?_
      · refine j_sub (L' := [(2, vI p2), (3, vR (some p3))]) [0, 1] rfl ?_
        exact jB_X8_generated_59 C E S p2 p3 tp3
      · refine j_bipush C (v := (-3 : Int32)) dX8_generated_56 (by decide) ?_
        exact j_iret C E dX8_generated_58
def F_X8_generated (N : Nat → Nat) (S : sSt) (p0 : Nat) (p1 : Int32) (p2 : Int32) : Option (Int32 × sSt) := bnd (gFR S 320 p0) (fun x1 => Option.bind x1 (fun a2 => Option.bind (F_X7_at N S a2 p1) (fun v3 => bnd (gFR S 320 p0) (fun x5 => Option.bind x5 (fun a6 => Option.bind (F_X7_at N S a6 p2) (fun v7 => onl v3 (some ((-1 : Int32), S)) (fun a9 => onl v7 ((if p2 = (-5 : Int32) then B_X8_generated_36 N S p2 a9 none else some ((-1 : Int32), S))) (fun a10 => B_X8_generated_36 N S p2 a9 (some a10)))))))))
set_option maxHeartbeats 4000000 in
theorem jF_X8_generated {X : jX} (C : jC X cX8_generated 5 RX8 rm_X8_generated) {Λ : sLay} {S : sSt} {r : (Int32 × sSt)} (E : jE X (some .int) rI Λ r) (p0 : Nat) (tp0 : isK Λ 8 p0) (p1 : Int32) (p2 : Int32) : J X 5 0 0 0 [(0, vR (some p0)), (1, vI p1), (2, vI p2)] [] Λ S (F_X8_generated Λ.2.2 S p0 p1 p2 = some r) := by
  unfold F_X8_generated
  refine j_aload_n C dX8_generated_0 0 rfl ?_
  refine j_getR C kK8 f320 kfX8_12 (by decide) rfl tp0 dX8_generated_1 (fun x1 tx1 => ?_)
  refine j_iload_n C dX8_generated_4 1 rfl ?_
  refine j_oc tx1 (fun a2 ta2 ea2 => ?_)
  subst ea2
  refine j_cVRP C [vI p1] [] (fun _ e => c_X7_at a2 ta2 p1 e) kYX7_at kVX7_at kmX8_50 kO7 ta2 rfl rfl ⟨rfl, rfl, by decide, by decide⟩ (Nat.le_of_ble_eq_true rfl) ⟨Nat.zero_le _, Nat.zero_le _⟩ dX8_generated_5 (fun v3 tv3 => ?_)
  refine j_astore_n C (L' := [(3, vR v3), (0, vR (some p0)), (1, vI p1), (2, vI p2)]) dX8_generated_8 (by decide) rfl ?_
  refine j_aload_n C dX8_generated_9 1 rfl ?_
  refine j_getR C kK8 f320 kfX8_12 (by decide) rfl tp0 dX8_generated_10 (fun x5 tx5 => ?_)
  refine j_iload_n C dX8_generated_13 3 rfl ?_
  refine j_oc tx5 (fun a6 ta6 ea6 => ?_)
  subst ea6
  refine j_cVRP C [vI p2] [] (fun _ e => c_X7_at a6 ta6 p2 e) kYX7_at kVX7_at kmX8_50 kO7 ta6 rfl rfl ⟨rfl, rfl, by decide, by decide⟩ (Nat.le_of_ble_eq_true rfl) ⟨Nat.zero_le _, Nat.zero_le _⟩ dX8_generated_14 (fun v7 tv7 => ?_)
  refine j_astore C (L' := [(4, vR v7), (3, vR v3), (0, vR (some p0)), (1, vI p1), (2, vI p2)]) dX8_generated_17 (by decide) rfl ?_
  refine j_aload_n C dX8_generated_19 1 rfl ?_
  refine j_ifnull C (tgt := 34) tv3 dX8_generated_20 (by decide) (fun ea9 => ?_) (fun a9 ta9 ea9 => ?_)
  · subst ea9
    refine j_iconst C (v := (-1 : Int32)) dX8_generated_34 (by decide) ?_
    exact j_iret C E dX8_generated_35
  · subst ea9
    refine j_aload C dX8_generated_23 0 rfl ?_
    refine j_ifnonnull C (tgt := 36) tv7 dX8_generated_25 (by decide) (fun ea10 => ?_) (fun a10 ta10 ea10 => ?_)
    · subst ea10
      refine j_iload_n C dX8_generated_28 4 rfl ?_
      refine j_bipush C (v := (-5 : Int32)) dX8_generated_29 (by decide) ?_
      refine j_icmp_eq C (tgt := 36) dX8_generated_31 (by decide) ?_ ?_
      · refine j_sub (L' := [(2, vI p2), (3, vR (some a9)), (4, vR none)]) [4, 1, 0] rfl ?_
        exact jB_X8_generated_36 C E S p2 a9 ta9 none okN
      · refine j_iconst C (v := (-1 : Int32)) dX8_generated_34 (by decide) ?_
        exact j_iret C E dX8_generated_35
    · subst ea10
      refine j_sub (L' := [(2, vI p2), (3, vR (some a9)), (4, vR (some a10))]) [4, 1, 0] rfl ?_
      exact jB_X8_generated_36 C E S p2 a9 ta9 (some a10) (okS ta10)
theorem c_X8_generated {l : Launch} {D : va_G} {cy : Nat → ClassId} {Λ : sLay} {S : sSt} (p0 : Nat) (tp0 : isK Λ 8 p0) (p1 : Int32) (p2 : Int32) {v : Int32} {S1 : sSt} (h : F_X8_generated Λ.2.2 S p0 p1 p2 = some (v, S1)) : jM l yX8_generated (Cond.code yX8_generated cX8_generated 5 (some .int) :: bigW) rm_X8_generated D cy Λ S [vR (some p0), vI p1, vI p2] rI (v, S1) := jM_of (by decide +kernel) (Nat.le_of_ble_eq_true rfl) (fun X C E _ _ _ => j_sub [0, 1, 2] rfl (jF_X8_generated C E p0 tp0 p1 p2)) h
/-! RemakeNeeds2.give(IIIJZ)I -/
abbrev rm_X8_give : Room := { frames := 2, cells := 0, slots := 0, locals := 44 }
def B_X8_give_70 (N : Nat → Nat) (S : sSt) (p4 : Int64) (p6 : Int32) (p9 : Option Nat) (s0 : Option Nat) : Option (Int32 × sSt) := onl s0 (some ((-4 : Int32), S)) (fun a17 => bnd (sFJ S 203 a17 p4) (fun S18 => gb p6 (bnd (sFI S18 204 a17 p6) (fun S19 => onl p9 (some ((1 : Int32), S19)) (fun a20 => some ((0 : Int32), S19))))))
set_option maxHeartbeats 4000000 in
theorem jB_X8_give_70 {X : jX} (C : jC X cX8_give 11 RX8 rm_X8_give) {Λ : sLay} {r : (Int32 × sSt)} (E : jE X (some .int) rI Λ r) : ∀ (S : sSt) (p4 : Int64) (p6 : Int32) (p9 : Option Nat) (tp9 : okK Λ 5 p9) (s0 : Option Nat) (ts0 : okK Λ 5 s0), J X 11 0 0 70 [(4, vJ p4), (6, vI p6), (9, vR p9)] [vR s0] Λ S (B_X8_give_70 Λ.2.2 S p4 p6 p9 s0 = some r) := by
  intro S p4 p6 p9 tp9 s0 ts0
  unfold B_X8_give_70
  refine j_astore C (L' := [(10, vR s0), (4, vJ p4), (6, vI p6), (9, vR p9)]) dX8_give_70 (by decide) rfl ?_
  refine j_aload C dX8_give_72 0 rfl ?_
  refine j_ifnonnull C (tgt := 80) ts0 dX8_give_74 (by decide) (fun ea17 => ?_) (fun a17 ta17 ea17 => ?_)
  · subst ea17
    refine j_bipush C (v := (-4 : Int32)) dX8_give_77 (by decide) ?_
    exact j_iret C E dX8_give_79
  · subst ea17
    refine j_aload C dX8_give_80 0 rfl ?_
    refine j_lload C dX8_give_82 1 rfl ?_
    refine j_putJ C kK5 f203 kfX8_69 (by decide) rfl rfl rfl ta17 dX8_give_84 (fun S18 => ?_)
    refine j_aload C dX8_give_87 0 rfl ?_
    refine j_iload C dX8_give_89 2 rfl ?_
    refine j_putZ C kK5 f204 kfX8_75 (by decide) rfl rfl ta17 dX8_give_91 (fun S19 => ?_)
    refine j_aload C dX8_give_94 3 rfl ?_
    refine j_ifnonnull C (tgt := 103) tp9 dX8_give_96 (by decide) (fun ea20 => ?_) (fun a20 ta20 ea20 => ?_)
    · subst ea20
      refine j_iconst C (v := (1 : Int32)) dX8_give_99 (by decide) ?_
      refine j_goto C (tgt := 104) dX8_give_100 (by decide) ?_
      exact j_iret C E dX8_give_104
    · subst ea20
      refine j_iconst C (v := (0 : Int32)) dX8_give_103 (by decide) ?_
      exact j_iret C E dX8_give_104
def F_X8_give (N : Nat → Nat) (S : sSt) (p0 : Nat) (p1 : Int32) (p2 : Int32) (p3 : Int32) (p4 : Int64) (p6 : Int32) : Option (Int32 × sSt) := bnd (gFR S 320 p0) (fun x1 => Option.bind x1 (fun a2 => Option.bind (F_X7_at N S a2 p1) (fun v3 => onl v3 (some ((-1 : Int32), S)) (fun a5 => Option.bind (F_X8_isBelow N S p2 (3 : Int32)) (fun v6 => (if v6 = 0 then some ((-2 : Int32), S) else Option.bind (F_X8_isBelow N S p3 (32 : Int32)) (fun v8 => (if v8 = 0 then some ((-2 : Int32), S) else Option.bind (F_X8_keyOf N S p2 p3) (fun v10 => Option.bind (F_X6_thingFor N S a5 v10) (fun v12 => onl v12 (obd (F_X6_addThing N S a5 v10) (fun v15 S16 => B_X8_give_70 N S16 p4 p6 none v15)) (fun a14 => B_X8_give_70 N S p4 p6 (some a14) (some a14))))))))))))
set_option maxHeartbeats 4000000 in
theorem jF_X8_give {X : jX} (C : jC X cX8_give 11 RX8 rm_X8_give) {Λ : sLay} {S : sSt} {r : (Int32 × sSt)} (E : jE X (some .int) rI Λ r) (p0 : Nat) (tp0 : isK Λ 8 p0) (p1 : Int32) (p2 : Int32) (p3 : Int32) (p4 : Int64) (p6 : Int32) : J X 11 0 0 0 [(0, vR (some p0)), (1, vI p1), (2, vI p2), (3, vI p3), (4, vJ p4), (6, vI p6)] [] Λ S (F_X8_give Λ.2.2 S p0 p1 p2 p3 p4 p6 = some r) := by
  unfold F_X8_give
  refine j_aload_n C dX8_give_0 0 rfl ?_
  refine j_getR C kK8 f320 kfX8_12 (by decide) rfl tp0 dX8_give_1 (fun x1 tx1 => ?_)
  refine j_iload_n C dX8_give_4 1 rfl ?_
  refine j_oc tx1 (fun a2 ta2 ea2 => ?_)
  subst ea2
  refine j_cVRP C [vI p1] [] (fun _ e => c_X7_at a2 ta2 p1 e) kYX7_at kVX7_at kmX8_50 kO7 ta2 rfl rfl ⟨rfl, rfl, by decide, by decide⟩ (Nat.le_of_ble_eq_true rfl) ⟨Nat.zero_le _, Nat.zero_le _⟩ dX8_give_5 (fun v3 tv3 => ?_)
  refine j_astore C (L' := [(7, vR v3), (0, vR (some p0)), (1, vI p1), (2, vI p2), (3, vI p3), (4, vJ p4), (6, vI p6)]) dX8_give_8 (by decide) rfl ?_
  refine j_aload C dX8_give_10 0 rfl ?_
  refine j_ifnonnull C (tgt := 17) tv3 dX8_give_12 (by decide) (fun ea5 => ?_) (fun a5 ta5 ea5 => ?_)
  · subst ea5
    refine j_iconst C (v := (-1 : Int32)) dX8_give_15 (by decide) ?_
    exact j_iret C E dX8_give_16
  · subst ea5
    refine j_iload_n C dX8_give_17 3 rfl ?_
    refine j_iconst C (v := (3 : Int32)) dX8_give_18 (by decide) ?_
    refine j_cSIP C [vI p2, vI (3 : Int32)] [] (fun _ e => c_X8_isBelow p2 (3 : Int32) e) kYX8_isBelow kSX8_isBelow kmX8_54 rfl rfl ⟨rfl, rfl, by decide, by decide⟩ (Nat.le_of_ble_eq_true rfl) ⟨Nat.zero_le _, Nat.zero_le _⟩ dX8_give_19 (fun v6 => ?_)
    refine j_if_eq C (tgt := 34) dX8_give_22 (by decide) ?_ ?_
    · refine j_bipush C (v := (-2 : Int32)) dX8_give_34 (by decide) ?_
      exact j_iret C E dX8_give_36
    · refine j_iload_n C dX8_give_25 4 rfl ?_
      refine j_bipush C (v := (32 : Int32)) dX8_give_26 (by decide) ?_
      refine j_cSIP C [vI p3, vI (32 : Int32)] [] (fun _ e => c_X8_isBelow p3 (32 : Int32) e) kYX8_isBelow kSX8_isBelow kmX8_54 rfl rfl ⟨rfl, rfl, by decide, by decide⟩ (Nat.le_of_ble_eq_true rfl) ⟨Nat.zero_le _, Nat.zero_le _⟩ dX8_give_28 (fun v8 => ?_)
      refine j_if_ne C (tgt := 37) dX8_give_31 (by decide) ?_ ?_
      · refine j_iload_n C dX8_give_37 3 rfl ?_
        refine j_iload_n C dX8_give_38 4 rfl ?_
        refine j_cSIP C [vI p2, vI p3] [] (fun _ e => c_X8_keyOf p2 p3 e) kYX8_keyOf kSX8_keyOf kmX8_58 rfl rfl ⟨rfl, rfl, by decide, by decide⟩ (Nat.le_of_ble_eq_true rfl) ⟨Nat.zero_le _, Nat.zero_le _⟩ dX8_give_39 (fun v10 => ?_)
        refine j_istore C (L' := [(8, vI v10), (7, vR (some a5)), (0, vR (some p0)), (1, vI p1), (2, vI p2), (3, vI p3), (4, vJ p4), (6, vI p6)]) dX8_give_42 (by decide) rfl ?_
        refine j_aload C dX8_give_44 1 rfl ?_
        refine j_iload C dX8_give_46 0 rfl ?_
        refine j_cVRP C [vI v10] [] (fun _ e => c_X6_thingFor a5 ta5 v10 e) kYX6_thingFor kVX6_thingFor kmX8_62 kO6 ta5 rfl rfl ⟨rfl, rfl, by decide, by decide⟩ (Nat.le_of_ble_eq_true rfl) ⟨Nat.zero_le _, Nat.zero_le _⟩ dX8_give_48 (fun v12 tv12 => ?_)
        refine j_astore C (L' := [(9, vR v12), (8, vI v10), (7, vR (some a5)), (0, vR (some p0)), (1, vI p1), (2, vI p2), (3, vI p3), (4, vJ p4), (6, vI p6)]) dX8_give_51 (by decide) rfl ?_
        refine j_aload C dX8_give_53 0 rfl ?_
        refine j_ifnonnull C (tgt := 68) tv12 dX8_give_55 (by decide) (fun ea14 => ?_) (fun a14 ta14 ea14 => ?_)
        · subst ea14
          refine j_aload C dX8_give_58 2 rfl ?_
          refine j_iload C dX8_give_60 1 rfl ?_
          refine j_cVRG C [vI v10] [] (fun _ _ e => c_X6_addThing a5 ta5 v10 e) kYX6_addThing kVX6_addThing kmX8_66 kO6 ta5 rfl rfl ⟨rfl, rfl, by decide, by decide⟩ (Nat.le_of_ble_eq_true rfl) ⟨Nat.zero_le _, Nat.zero_le _⟩ dX8_give_62 (fun v15 S16 tv15 => ?_)
          refine j_goto C (tgt := 70) dX8_give_65 (by decide) ?_
          refine j_sub (L' := [(4, vJ p4), (6, vI p6), (9, vR none)]) [7, 8, 0] rfl ?_
          exact jB_X8_give_70 C E S16 p4 p6 none okN v15 tv15
        · subst ea14
          refine j_aload C dX8_give_68 0 rfl ?_
          refine j_sub (L' := [(4, vJ p4), (6, vI p6), (9, vR (some a14))]) [7, 8, 0] rfl ?_
          exact jB_X8_give_70 C E S p4 p6 (some a14) (okS ta14) (some a14) (okS ta14)
      · refine j_bipush C (v := (-2 : Int32)) dX8_give_34 (by decide) ?_
        exact j_iret C E dX8_give_36
theorem c_X8_give {l : Launch} {D : va_G} {cy : Nat → ClassId} {Λ : sLay} {S : sSt} (p0 : Nat) (tp0 : isK Λ 8 p0) (p1 : Int32) (p2 : Int32) (p3 : Int32) (p4 : Int64) (p6 : Int32) {v : Int32} {S1 : sSt} (h : F_X8_give Λ.2.2 S p0 p1 p2 p3 p4 p6 = some (v, S1)) : jM l yX8_give (Cond.code yX8_give cX8_give 11 (some .int) :: bigW) rm_X8_give D cy Λ S [vR (some p0), vI p1, vI p2, vI p3, vJ p4, vI p6] rI (v, S1) := jM_of (by decide +kernel) (Nat.le_of_ble_eq_true rfl) (fun X C E _ _ _ => j_sub [0, 1, 2, 3, 4, 5] rfl (jF_X8_give C E p0 tp0 p1 p2 p3 p4 p6)) h
/-! RemakeNeeds2.leads(II)I -/
abbrev rm_X8_leads : Room := { frames := 5, cells := 0, slots := 0, locals := 119 }
def F_X8_leads (N : Nat → Nat) (S : sSt) (p0 : Nat) (p1 : Int32) (p2 : Int32) : Option (Int32 × sSt) := bnd (gFR S 320 p0) (fun x1 => Option.bind x1 (fun a2 => Option.bind (F_X7_at N S a2 p1) (fun v3 => onl v3 (some ((-1 : Int32), S)) (fun a5 => bnd (gFR S 320 p0) (fun x6 => Option.bind x6 (fun a7 => Option.bind (F_X7_at N S a7 p2) (fun v8 => onl v8 (some ((-1 : Int32), S)) (fun a10 => bnd (gFR S 323 p0) (fun x11 => bnd (gFR S 320 p0) (fun x12 => Option.bind x11 (fun a13 => Option.bind (F_X2_arrange N S a13 x12) (fun S15 => bnd (gFR S15 323 p0) (fun x16 => Option.bind x16 (fun a17 => Option.bind (F_X2_reachOf N S15 a17 p1) (fun v18 => some (((v18 >>> (p2 &&& 31)) &&& (1 : Int32)), S15))))))))))))))))
set_option maxHeartbeats 4000000 in
theorem jF_X8_leads {X : jX} (C : jC X cX8_leads 3 RX8 rm_X8_leads) {Λ : sLay} {S : sSt} {r : (Int32 × sSt)} (E : jE X (some .int) rI Λ r) (p0 : Nat) (tp0 : isK Λ 8 p0) (p1 : Int32) (p2 : Int32) : J X 3 0 0 0 [(0, vR (some p0)), (1, vI p1), (2, vI p2)] [] Λ S (F_X8_leads Λ.2.2 S p0 p1 p2 = some r) := by
  unfold F_X8_leads
  refine j_aload_n C dX8_leads_0 0 rfl ?_
  refine j_getR C kK8 f320 kfX8_12 (by decide) rfl tp0 dX8_leads_1 (fun x1 tx1 => ?_)
  refine j_iload_n C dX8_leads_4 1 rfl ?_
  refine j_oc tx1 (fun a2 ta2 ea2 => ?_)
  subst ea2
  refine j_cVRP C [vI p1] [] (fun _ e => c_X7_at a2 ta2 p1 e) kYX7_at kVX7_at kmX8_50 kO7 ta2 rfl rfl ⟨rfl, rfl, by decide, by decide⟩ (Nat.le_of_ble_eq_true rfl) ⟨Nat.zero_le _, Nat.zero_le _⟩ dX8_leads_5 (fun v3 tv3 => ?_)
  refine j_ifnull C (tgt := 22) tv3 dX8_leads_8 (by decide) (fun ea5 => ?_) (fun a5 ta5 ea5 => ?_)
  · subst ea5
    refine j_iconst C (v := (-1 : Int32)) dX8_leads_22 (by decide) ?_
    exact j_iret C E dX8_leads_23
  · subst ea5
    refine j_aload_n C dX8_leads_11 0 rfl ?_
    refine j_getR C kK8 f320 kfX8_12 (by decide) rfl tp0 dX8_leads_12 (fun x6 tx6 => ?_)
    refine j_iload_n C dX8_leads_15 2 rfl ?_
    refine j_oc tx6 (fun a7 ta7 ea7 => ?_)
    subst ea7
    refine j_cVRP C [vI p2] [] (fun _ e => c_X7_at a7 ta7 p2 e) kYX7_at kVX7_at kmX8_50 kO7 ta7 rfl rfl ⟨rfl, rfl, by decide, by decide⟩ (Nat.le_of_ble_eq_true rfl) ⟨Nat.zero_le _, Nat.zero_le _⟩ dX8_leads_16 (fun v8 tv8 => ?_)
    refine j_ifnonnull C (tgt := 24) tv8 dX8_leads_19 (by decide) (fun ea10 => ?_) (fun a10 ta10 ea10 => ?_)
    · subst ea10
      refine j_iconst C (v := (-1 : Int32)) dX8_leads_22 (by decide) ?_
      exact j_iret C E dX8_leads_23
    · subst ea10
      refine j_aload_n C dX8_leads_24 0 rfl ?_
      refine j_getR C kK8 f323 kfX8_33 (by decide) rfl tp0 dX8_leads_25 (fun x11 tx11 => ?_)
      refine j_aload_n C dX8_leads_28 0 rfl ?_
      refine j_getR C kK8 f320 kfX8_12 (by decide) rfl tp0 dX8_leads_29 (fun x12 tx12 => ?_)
      refine j_oc tx11 (fun a13 ta13 ea13 => ?_)
      subst ea13
      refine j_cVVV C [vR x12] [] (fun _ e => c_X2_arrange a13 ta13 x12 tx12 e) kYX2_arrange kVX2_arrange kmX8_202 kO2 ta13 rfl rfl ⟨rfl, rfl, by decide, by decide⟩ (Nat.le_of_ble_eq_true rfl) ⟨Nat.zero_le _, Nat.zero_le _⟩ dX8_leads_32 (fun S15 => ?_)
      refine j_aload_n C dX8_leads_35 0 rfl ?_
      refine j_getR C kK8 f323 kfX8_33 (by decide) rfl tp0 dX8_leads_36 (fun x16 tx16 => ?_)
      refine j_iload_n C dX8_leads_39 1 rfl ?_
      refine j_oc tx16 (fun a17 ta17 ea17 => ?_)
      subst ea17
      refine j_cVIP C [vI p1] [] (fun _ e => c_X2_reachOf a17 ta17 p1 e) kYX2_reachOf kVX2_reachOf kmX8_223 kO2 ta17 rfl rfl ⟨rfl, rfl, by decide, by decide⟩ (Nat.le_of_ble_eq_true rfl) ⟨Nat.zero_le _, Nat.zero_le _⟩ dX8_leads_40 (fun v18 => ?_)
      refine j_iload_n C dX8_leads_43 2 rfl ?_
      refine j_ishr C dX8_leads_44 ?_
      refine j_iconst C (v := (1 : Int32)) dX8_leads_45 (by decide) ?_
      refine j_iand C dX8_leads_46 ?_
      exact j_iret C E dX8_leads_47
theorem c_X8_leads {l : Launch} {D : va_G} {cy : Nat → ClassId} {Λ : sLay} {S : sSt} (p0 : Nat) (tp0 : isK Λ 8 p0) (p1 : Int32) (p2 : Int32) {v : Int32} {S1 : sSt} (h : F_X8_leads Λ.2.2 S p0 p1 p2 = some (v, S1)) : jM l yX8_leads (Cond.code yX8_leads cX8_leads 3 (some .int) :: bigW) rm_X8_leads D cy Λ S [vR (some p0), vI p1, vI p2] rI (v, S1) := jM_of (by decide +kernel) (Nat.le_of_ble_eq_true rfl) (fun X C E _ _ _ => j_sub [0, 1, 2] rfl (jF_X8_leads C E p0 tp0 p1 p2)) h
/-! RemakeNeeds2.make(I)I -/
abbrev rm_X8_make : Room := { frames := 6, cells := 0, slots := 0, locals := 142 }
def B_X8_make_108 (N : Nat → Nat) (k39 : sSt → Nat → Int32 → Int32 → Int32 → Option (Int32 × sSt)) (S : sSt) (p0 : Nat) (p1 : Int32) (p2 : Int32) (p3 : Int32) : Option (Int32 × sSt) := k39 S p0 p1 p2 (p3 + (1 : Int32))
set_option maxHeartbeats 4000000 in
theorem jB_X8_make_108 {X : jX} (C : jC X cX8_make 5 RX8 rm_X8_make) {Λ : sLay} {r : (Int32 × sSt)} (E : jE X (some .int) rI Λ r) (k39 : sSt → Nat → Int32 → Int32 → Int32 → Option (Int32 × sSt)) (hk39 : ∀ (S : sSt) (p0 : Nat) (tp0 : isK Λ 8 p0) (p1 : Int32) (p2 : Int32) (p3 : Int32), J X 5 0 0 39 [(0, vR (some p0)), (1, vI p1), (2, vI p2), (3, vI p3)] [] Λ S (k39 S p0 p1 p2 p3 = some r)) : ∀ (S : sSt) (p0 : Nat) (tp0 : isK Λ 8 p0) (p1 : Int32) (p2 : Int32) (p3 : Int32), J X 5 0 0 108 [(0, vR (some p0)), (1, vI p1), (2, vI p2), (3, vI p3)] [] Λ S (B_X8_make_108 Λ.2.2 k39 S p0 p1 p2 p3 = some r) := by
  intro S p0 tp0 p1 p2 p3
  unfold B_X8_make_108
  refine j_iinc C (v := (1 : Int32)) (L' := [(3, vI (p3 + (1 : Int32))), (0, vR (some p0)), (1, vI p1), (2, vI p2)]) dX8_make_108 3 rfl (by decide) (by decide) rfl ?_
  refine j_goto C (tgt := 39) dX8_make_111 (by decide) ?_
  refine j_sub (L' := [(0, vR (some p0)), (1, vI p1), (2, vI p2), (3, vI (p3 + (1 : Int32)))]) [1, 2, 3, 0] rfl ?_
  exact hk39 S p0 tp0 p1 p2 (p3 + (1 : Int32))
def Y_X8_make_39 (N : Nat → Nat) (rec : sSt → Nat → Int32 → Int32 → Int32 → Option (Int32 × sSt)) (S : sSt) (p0 : Nat) (p1 : Int32) (p2 : Int32) (p3 : Int32) : Option (Int32 × sSt) := bnd (gFR S 323 p0) (fun x11 => Option.bind x11 (fun a12 => bnd (gFR S 82 a12) (fun x13 => Option.bind x13 (fun a14 => Option.bind (F_X1_length N S a14) (fun v15 => (if v15 ≤ p3 then some (p2, S) else (if p1 ≤ p2 then some (p2, S) else bnd (gFR S 320 p0) (fun x17 => bnd (gFR S 323 p0) (fun x18 => Option.bind x18 (fun a19 => bnd (gFR S 82 a19) (fun x20 => Option.bind x20 (fun a21 => Option.bind (F_X1_at N S a21 p3) (fun v22 => Option.bind x17 (fun a24 => Option.bind (F_X7_at N S a24 v22) (fun v25 => onl v25 (B_X8_make_108 N rec S p0 p1 p2 p3) (fun a27 => bnd (gFR S 322 p0) (fun x28 => bnd (gFR S 320 p0) (fun x29 => Option.bind x28 (fun a30 => obd (F_X4_reasonFor N S a30 (some a27) x29) (fun v31 S32 => (if v31 = 0 then B_X8_make_108 N rec S32 p0 p1 p2 p3 else Option.bind (F_X8_makeOne N S32 p0 (some a27)) (fun S34 => B_X8_make_108 N rec S34 p0 p1 (p2 + (1 : Int32)) p3))))))))))))))))))))))
set_option maxHeartbeats 4000000 in
theorem jY_X8_make_39 {X : jX} (C : jC X cX8_make 5 RX8 rm_X8_make) {Λ : sLay} {r : (Int32 × sSt)} (E : jE X (some .int) rI Λ r) (rec : sSt → Nat → Int32 → Int32 → Int32 → Option (Int32 × sSt)) (hrec : ∀ (S : sSt) (p0 : Nat) (tp0 : isK Λ 8 p0) (p1 : Int32) (p2 : Int32) (p3 : Int32), J X 5 0 0 39 [(0, vR (some p0)), (1, vI p1), (2, vI p2), (3, vI p3)] [] Λ S (rec S p0 p1 p2 p3 = some r)) : ∀ (S : sSt) (p0 : Nat) (tp0 : isK Λ 8 p0) (p1 : Int32) (p2 : Int32) (p3 : Int32), J X 5 0 0 39 [(0, vR (some p0)), (1, vI p1), (2, vI p2), (3, vI p3)] [] Λ S (Y_X8_make_39 Λ.2.2 rec S p0 p1 p2 p3 = some r) := by
  intro S p0 tp0 p1 p2 p3
  unfold Y_X8_make_39
  refine j_iload_n C dX8_make_39 3 rfl ?_
  refine j_aload_n C dX8_make_40 0 rfl ?_
  refine j_getR C kK8 f323 kfX8_33 (by decide) rfl tp0 dX8_make_41 (fun x11 tx11 => ?_)
  refine j_oc tx11 (fun a12 ta12 ea12 => ?_)
  subst ea12
  refine j_getR C kK2 f82 kfX8_205 (by decide) rfl ta12 dX8_make_44 (fun x13 tx13 => ?_)
  refine j_oc tx13 (fun a14 ta14 ea14 => ?_)
  subst ea14
  refine j_cVIP C [] [vI p3] (fun _ e => c_X1_length a14 ta14 e) kYX1_length kVX1_length kmX8_99 kO1 ta14 rfl rfl ⟨rfl, rfl, by decide, by decide⟩ (Nat.le_of_ble_eq_true rfl) ⟨Nat.zero_le _, Nat.zero_le _⟩ dX8_make_47 (fun v15 => ?_)
  refine j_icmp_ge C (tgt := 114) dX8_make_50 (by decide) ?_ ?_
  · refine j_iload_n C dX8_make_114 2 rfl ?_
    exact j_iret C E dX8_make_115
  · refine j_iload_n C dX8_make_53 2 rfl ?_
    refine j_iload_n C dX8_make_54 1 rfl ?_
    refine j_icmp_ge C (tgt := 114) dX8_make_55 (by decide) ?_ ?_
    · refine j_iload_n C dX8_make_114 2 rfl ?_
      exact j_iret C E dX8_make_115
    · refine j_aload_n C dX8_make_58 0 rfl ?_
      refine j_getR C kK8 f320 kfX8_12 (by decide) rfl tp0 dX8_make_59 (fun x17 tx17 => ?_)
      refine j_aload_n C dX8_make_62 0 rfl ?_
      refine j_getR C kK8 f323 kfX8_33 (by decide) rfl tp0 dX8_make_63 (fun x18 tx18 => ?_)
      refine j_oc tx18 (fun a19 ta19 ea19 => ?_)
      subst ea19
      refine j_getR C kK2 f82 kfX8_205 (by decide) rfl ta19 dX8_make_66 (fun x20 tx20 => ?_)
      refine j_iload_n C dX8_make_69 3 rfl ?_
      refine j_oc tx20 (fun a21 ta21 ea21 => ?_)
      subst ea21
      refine j_cVIP C [vI p3] [vR x17] (fun _ e => c_X1_at a21 ta21 p3 e) kYX1_at kVX1_at kmX8_208 kO1 ta21 rfl rfl ⟨rfl, rfl, by decide, by decide⟩ (Nat.le_of_ble_eq_true rfl) ⟨Nat.zero_le _, Nat.zero_le _⟩ dX8_make_70 (fun v22 => ?_)
      refine j_oc tx17 (fun a24 ta24 ea24 => ?_)
      subst ea24
      refine j_cVRP C [vI v22] [] (fun _ e => c_X7_at a24 ta24 v22 e) kYX7_at kVX7_at kmX8_50 kO7 ta24 rfl rfl ⟨rfl, rfl, by decide, by decide⟩ (Nat.le_of_ble_eq_true rfl) ⟨Nat.zero_le _, Nat.zero_le _⟩ dX8_make_73 (fun v25 tv25 => ?_)
      refine j_astore C (L' := [(4, vR v25), (0, vR (some p0)), (1, vI p1), (2, vI p2), (3, vI p3)]) dX8_make_76 (by decide) rfl ?_
      refine j_aload C dX8_make_78 0 rfl ?_
      refine j_ifnull C (tgt := 108) tv25 dX8_make_80 (by decide) (fun ea27 => ?_) (fun a27 ta27 ea27 => ?_)
      · subst ea27
        refine j_sub (L' := [(0, vR (some p0)), (1, vI p1), (2, vI p2), (3, vI p3)]) [1, 2, 3, 4] rfl ?_
        exact jB_X8_make_108 C E rec hrec S p0 tp0 p1 p2 p3
      · subst ea27
        refine j_aload_n C dX8_make_83 1 rfl ?_
        refine j_getR C kK8 f322 kfX8_26 (by decide) rfl tp0 dX8_make_84 (fun x28 tx28 => ?_)
        refine j_aload C dX8_make_87 0 rfl ?_
        refine j_aload_n C dX8_make_89 1 rfl ?_
        refine j_getR C kK8 f320 kfX8_12 (by decide) rfl tp0 dX8_make_90 (fun x29 tx29 => ?_)
        refine j_oc tx28 (fun a30 ta30 ea30 => ?_)
        subst ea30
        refine j_cVIG C [vR (some a27), vR x29] [] (fun _ _ e => c_X4_reasonFor a30 ta30 (some a27) (okS ta27) x29 tx29 e) kYX4_reasonFor kVX4_reasonFor kmX8_198 kO4 ta30 rfl rfl ⟨rfl, rfl, by decide, by decide⟩ (Nat.le_of_ble_eq_true rfl) ⟨Nat.zero_le _, Nat.zero_le _⟩ dX8_make_93 (fun v31 S32 => ?_)
        refine j_if_eq C (tgt := 108) dX8_make_96 (by decide) ?_ ?_
        · refine j_sub (L' := [(0, vR (some p0)), (1, vI p1), (2, vI p2), (3, vI p3)]) [1, 2, 3, 4] rfl ?_
          exact jB_X8_make_108 C E rec hrec S32 p0 tp0 p1 p2 p3
        · refine j_aload_n C dX8_make_99 1 rfl ?_
          refine j_aload C dX8_make_100 0 rfl ?_
          refine j_cVVV C [vR (some a27)] [] (fun _ e => c_X8_makeOne p0 tp0 (some a27) (okS ta27) e) kYX8_makeOne kVX8_makeOne kmX8_210 kO8 tp0 rfl rfl ⟨rfl, rfl, by decide, by decide⟩ (Nat.le_of_ble_eq_true rfl) ⟨Nat.zero_le _, Nat.zero_le _⟩ dX8_make_102 (fun S34 => ?_)
          refine j_iinc C (v := (1 : Int32)) (L' := [(2, vI (p2 + (1 : Int32))), (4, vR (some a27)), (0, vR (some p0)), (1, vI p1), (3, vI p3)]) dX8_make_105 3 rfl (by decide) (by decide) rfl ?_
          refine j_sub (L' := [(0, vR (some p0)), (1, vI p1), (2, vI (p2 + (1 : Int32))), (3, vI p3)]) [2, 3, 0, 4] rfl ?_
          exact jB_X8_make_108 C E rec hrec S34 p0 tp0 p1 (p2 + (1 : Int32)) p3
def L_X8_make_39 (N : Nat → Nat) (n : Nat) : sSt → Nat → Int32 → Int32 → Int32 → Option (Int32 × sSt) := iter (fun _ _ _ _ _ => none) (Y_X8_make_39 N) n
theorem jL_X8_make_39 {X : jX} (C : jC X cX8_make 5 RX8 rm_X8_make) {Λ : sLay} {r : (Int32 × sSt)} (E : jE X (some .int) rI Λ r) : ∀ (n : Nat) (S : sSt) (p0 : Nat) (tp0 : isK Λ 8 p0) (p1 : Int32) (p2 : Int32) (p3 : Int32), J X 5 0 0 39 [(0, vR (some p0)), (1, vI p1), (2, vI p2), (3, vI p3)] [] Λ S (L_X8_make_39 Λ.2.2 n S p0 p1 p2 p3 = some r) := by
  intro n
  induction n with
  | zero => intro S p0 tp0 p1 p2 p3; exact j_no (fun h => by have h2 : (none : Option (Int32 × sSt)) = some r := h; cases h2)
  | succ n ih => intro S p0 tp0 p1 p2 p3; exact jY_X8_make_39 C E (L_X8_make_39 Λ.2.2 n) ih S p0 tp0 p1 p2 p3
def F_X8_make (N : Nat → Nat) (S : sSt) (p0 : Nat) (p1 : Int32) : Option (Int32 × sSt) := (if p1 < 0 then some ((-2 : Int32), S) else (if p1 ≤ (16 : Int32) then bnd (gFR S 321 p0) (fun x1 => bnd (gFR S 320 p0) (fun x2 => Option.bind x1 (fun a3 => Option.bind (F_X0_settleAll N S a3 x2) (fun S5 => bnd (gFR S5 323 p0) (fun x6 => bnd (gFR S5 320 p0) (fun x7 => Option.bind x6 (fun a8 => Option.bind (F_X2_arrange N S5 a8 x7) (fun S10 => L_X8_make_39 N FU S10 p0 p1 (0 : Int32) (0 : Int32))))))))) else some ((-2 : Int32), S)))
set_option maxHeartbeats 4000000 in
theorem jF_X8_make {X : jX} (C : jC X cX8_make 5 RX8 rm_X8_make) {Λ : sLay} {S : sSt} {r : (Int32 × sSt)} (E : jE X (some .int) rI Λ r) (p0 : Nat) (tp0 : isK Λ 8 p0) (p1 : Int32) : J X 5 0 0 0 [(0, vR (some p0)), (1, vI p1)] [] Λ S (F_X8_make Λ.2.2 S p0 p1 = some r) := by
  unfold F_X8_make
  refine j_iload_n C dX8_make_0 1 rfl ?_
  refine j_if_lt C (tgt := 10) dX8_make_1 (by decide) ?_ ?_
  · refine j_bipush C (v := (-2 : Int32)) dX8_make_10 (by decide) ?_
    exact j_iret C E dX8_make_12
  · refine j_iload_n C dX8_make_4 1 rfl ?_
    refine j_bipush C (v := (16 : Int32)) dX8_make_5 (by decide) ?_
    refine j_icmp_le C (tgt := 13) dX8_make_7 (by decide) ?_ ?_
    · refine j_aload_n C dX8_make_13 0 rfl ?_
      refine j_getR C kK8 f321 kfX8_19 (by decide) rfl tp0 dX8_make_14 (fun x1 tx1 => ?_)
      refine j_aload_n C dX8_make_17 0 rfl ?_
      refine j_getR C kK8 f320 kfX8_12 (by decide) rfl tp0 dX8_make_18 (fun x2 tx2 => ?_)
      refine j_oc tx1 (fun a3 ta3 ea3 => ?_)
      subst ea3
      refine j_cVVV C [vR x2] [] (fun _ e => c_X0_settleAll a3 ta3 x2 tx2 e) kYX0_settleAll kVX0_settleAll kmX8_139 kO0 ta3 rfl rfl ⟨rfl, rfl, by decide, by decide⟩ (Nat.le_of_ble_eq_true rfl) ⟨Nat.zero_le _, Nat.zero_le _⟩ dX8_make_21 (fun S5 => ?_)
      refine j_aload_n C dX8_make_24 0 rfl ?_
      refine j_getR C kK8 f323 kfX8_33 (by decide) rfl tp0 dX8_make_25 (fun x6 tx6 => ?_)
      refine j_aload_n C dX8_make_28 0 rfl ?_
      refine j_getR C kK8 f320 kfX8_12 (by decide) rfl tp0 dX8_make_29 (fun x7 tx7 => ?_)
      refine j_oc tx6 (fun a8 ta8 ea8 => ?_)
      subst ea8
      refine j_cVVV C [vR x7] [] (fun _ e => c_X2_arrange a8 ta8 x7 tx7 e) kYX2_arrange kVX2_arrange kmX8_202 kO2 ta8 rfl rfl ⟨rfl, rfl, by decide, by decide⟩ (Nat.le_of_ble_eq_true rfl) ⟨Nat.zero_le _, Nat.zero_le _⟩ dX8_make_32 (fun S10 => ?_)
      refine j_iconst C (v := (0 : Int32)) dX8_make_35 (by decide) ?_
      refine j_istore_n C (L' := [(2, vI (0 : Int32)), (0, vR (some p0)), (1, vI p1)]) dX8_make_36 (by decide) rfl ?_
      refine j_iconst C (v := (0 : Int32)) dX8_make_37 (by decide) ?_
      refine j_istore_n C (L' := [(3, vI (0 : Int32)), (2, vI (0 : Int32)), (0, vR (some p0)), (1, vI p1)]) dX8_make_38 (by decide) rfl ?_
      refine j_sub (L' := [(0, vR (some p0)), (1, vI p1), (2, vI (0 : Int32)), (3, vI (0 : Int32))]) [2, 3, 1, 0] rfl ?_
      exact jL_X8_make_39 C E FU S10 p0 tp0 p1 (0 : Int32) (0 : Int32)
    · refine j_bipush C (v := (-2 : Int32)) dX8_make_10 (by decide) ?_
      exact j_iret C E dX8_make_12
theorem c_X8_make {l : Launch} {D : va_G} {cy : Nat → ClassId} {Λ : sLay} {S : sSt} (p0 : Nat) (tp0 : isK Λ 8 p0) (p1 : Int32) {v : Int32} {S1 : sSt} (h : F_X8_make Λ.2.2 S p0 p1 = some (v, S1)) : jM l yX8_make (Cond.code yX8_make cX8_make 5 (some .int) :: bigW) rm_X8_make D cy Λ S [vR (some p0), vI p1] rI (v, S1) := jM_of (by decide +kernel) (Nat.le_of_ble_eq_true rfl) (fun X C E _ _ _ => j_sub [0, 1] rfl (jF_X8_make C E p0 tp0 p1)) h
/-! RemakeNeeds2.missing(I)I -/
abbrev rm_X8_missing : Room := { frames := 3, cells := 0, slots := 0, locals := 72 }
def F_X8_missing (N : Nat → Nat) (S : sSt) (p0 : Nat) (p1 : Int32) : Option (Int32 × sSt) := bnd (gFR S 320 p0) (fun x1 => Option.bind x1 (fun a2 => Option.bind (F_X7_at N S a2 p1) (fun v3 => onl v3 (some ((-1 : Int32), S)) (fun a5 => bnd (gFR S 320 p0) (fun x6 => Option.bind x6 (fun a7 => obd (F_X7_missingOf N S a7 (some a5)) (fun v8 S9 => some (v8, S9))))))))
set_option maxHeartbeats 4000000 in
theorem jF_X8_missing {X : jX} (C : jC X cX8_missing 3 RX8 rm_X8_missing) {Λ : sLay} {S : sSt} {r : (Int32 × sSt)} (E : jE X (some .int) rI Λ r) (p0 : Nat) (tp0 : isK Λ 8 p0) (p1 : Int32) : J X 3 0 0 0 [(0, vR (some p0)), (1, vI p1)] [] Λ S (F_X8_missing Λ.2.2 S p0 p1 = some r) := by
  unfold F_X8_missing
  refine j_aload_n C dX8_missing_0 0 rfl ?_
  refine j_getR C kK8 f320 kfX8_12 (by decide) rfl tp0 dX8_missing_1 (fun x1 tx1 => ?_)
  refine j_iload_n C dX8_missing_4 1 rfl ?_
  refine j_oc tx1 (fun a2 ta2 ea2 => ?_)
  subst ea2
  refine j_cVRP C [vI p1] [] (fun _ e => c_X7_at a2 ta2 p1 e) kYX7_at kVX7_at kmX8_50 kO7 ta2 rfl rfl ⟨rfl, rfl, by decide, by decide⟩ (Nat.le_of_ble_eq_true rfl) ⟨Nat.zero_le _, Nat.zero_le _⟩ dX8_missing_5 (fun v3 tv3 => ?_)
  refine j_astore_n C (L' := [(2, vR v3), (0, vR (some p0)), (1, vI p1)]) dX8_missing_8 (by decide) rfl ?_
  refine j_aload_n C dX8_missing_9 0 rfl ?_
  refine j_ifnonnull C (tgt := 17) tv3 dX8_missing_10 (by decide) (fun ea5 => ?_) (fun a5 ta5 ea5 => ?_)
  · subst ea5
    refine j_iconst C (v := (-1 : Int32)) dX8_missing_13 (by decide) ?_
    refine j_goto C (tgt := 25) dX8_missing_14 (by decide) ?_
    exact j_iret C E dX8_missing_25
  · subst ea5
    refine j_aload_n C dX8_missing_17 1 rfl ?_
    refine j_getR C kK8 f320 kfX8_12 (by decide) rfl tp0 dX8_missing_18 (fun x6 tx6 => ?_)
    refine j_aload_n C dX8_missing_21 0 rfl ?_
    refine j_oc tx6 (fun a7 ta7 ea7 => ?_)
    subst ea7
    refine j_cVIG C [vR (some a5)] [] (fun _ _ e => c_X7_missingOf a7 ta7 (some a5) (okS ta5) e) kYX7_missingOf kVX7_missingOf kmX8_163 kO7 ta7 rfl rfl ⟨rfl, rfl, by decide, by decide⟩ (Nat.le_of_ble_eq_true rfl) ⟨Nat.zero_le _, Nat.zero_le _⟩ dX8_missing_22 (fun v8 S9 => ?_)
    exact j_iret C E dX8_missing_25
theorem c_X8_missing {l : Launch} {D : va_G} {cy : Nat → ClassId} {Λ : sLay} {S : sSt} (p0 : Nat) (tp0 : isK Λ 8 p0) (p1 : Int32) {v : Int32} {S1 : sSt} (h : F_X8_missing Λ.2.2 S p0 p1 = some (v, S1)) : jM l yX8_missing (Cond.code yX8_missing cX8_missing 3 (some .int) :: bigW) rm_X8_missing D cy Λ S [vR (some p0), vI p1] rI (v, S1) := jM_of (by decide +kernel) (Nat.le_of_ble_eq_true rfl) (fun X C E _ _ _ => j_sub [0, 1] rfl (jF_X8_missing C E p0 tp0 p1)) h
/-! RemakeNeeds2.needs()I -/
abbrev rm_X8_needs : Room := { frames := 6, cells := 0, slots := 0, locals := 142 }
def B_X8_needs_52 (N : Nat → Nat) (k15 : sSt → Nat → Int32 → Int32 → Option (Int32 × sSt)) (S : sSt) (p0 : Nat) (p1 : Int32) (p2 : Int32) : Option (Int32 × sSt) := k15 S p0 p1 (p2 + (1 : Int32))
set_option maxHeartbeats 4000000 in
theorem jB_X8_needs_52 {X : jX} (C : jC X cX8_needs 4 RX8 rm_X8_needs) {Λ : sLay} {r : (Int32 × sSt)} (E : jE X (some .int) rI Λ r) (k15 : sSt → Nat → Int32 → Int32 → Option (Int32 × sSt)) (hk15 : ∀ (S : sSt) (p0 : Nat) (tp0 : isK Λ 8 p0) (p1 : Int32) (p2 : Int32), J X 4 0 0 15 [(0, vR (some p0)), (1, vI p1), (2, vI p2)] [] Λ S (k15 S p0 p1 p2 = some r)) : ∀ (S : sSt) (p0 : Nat) (tp0 : isK Λ 8 p0) (p1 : Int32) (p2 : Int32), J X 4 0 0 52 [(0, vR (some p0)), (1, vI p1), (2, vI p2)] [] Λ S (B_X8_needs_52 Λ.2.2 k15 S p0 p1 p2 = some r) := by
  intro S p0 tp0 p1 p2
  unfold B_X8_needs_52
  refine j_iinc C (v := (1 : Int32)) (L' := [(2, vI (p2 + (1 : Int32))), (0, vR (some p0)), (1, vI p1)]) dX8_needs_52 2 rfl (by decide) (by decide) rfl ?_
  refine j_goto C (tgt := 15) dX8_needs_55 (by decide) ?_
  refine j_sub (L' := [(0, vR (some p0)), (1, vI p1), (2, vI (p2 + (1 : Int32)))]) [1, 2, 0] rfl ?_
  exact hk15 S p0 tp0 p1 (p2 + (1 : Int32))
def Y_X8_needs_15 (N : Nat → Nat) (rec : sSt → Nat → Int32 → Int32 → Option (Int32 × sSt)) (S : sSt) (p0 : Nat) (p1 : Int32) (p2 : Int32) : Option (Int32 × sSt) := (if (16 : Int32) ≤ p2 then some (p1, S) else bnd (gFR S 320 p0) (fun x6 => Option.bind x6 (fun a7 => Option.bind (F_X7_at N S a7 p2) (fun v8 => onl v8 (B_X8_needs_52 N rec S p0 p1 p2) (fun a10 => bnd (gFR S 322 p0) (fun x11 => bnd (gFR S 320 p0) (fun x12 => Option.bind x11 (fun a13 => obd (F_X4_reasonFor N S a13 (some a10) x12) (fun v14 S15 => (if v14 = 0 then B_X8_needs_52 N rec S15 p0 p1 p2 else B_X8_needs_52 N rec S15 p0 (p1 + (1 : Int32)) p2))))))))))
set_option maxHeartbeats 4000000 in
theorem jY_X8_needs_15 {X : jX} (C : jC X cX8_needs 4 RX8 rm_X8_needs) {Λ : sLay} {r : (Int32 × sSt)} (E : jE X (some .int) rI Λ r) (rec : sSt → Nat → Int32 → Int32 → Option (Int32 × sSt)) (hrec : ∀ (S : sSt) (p0 : Nat) (tp0 : isK Λ 8 p0) (p1 : Int32) (p2 : Int32), J X 4 0 0 15 [(0, vR (some p0)), (1, vI p1), (2, vI p2)] [] Λ S (rec S p0 p1 p2 = some r)) : ∀ (S : sSt) (p0 : Nat) (tp0 : isK Λ 8 p0) (p1 : Int32) (p2 : Int32), J X 4 0 0 15 [(0, vR (some p0)), (1, vI p1), (2, vI p2)] [] Λ S (Y_X8_needs_15 Λ.2.2 rec S p0 p1 p2 = some r) := by
  intro S p0 tp0 p1 p2
  unfold Y_X8_needs_15
  refine j_iload_n C dX8_needs_15 2 rfl ?_
  refine j_bipush C (v := (16 : Int32)) dX8_needs_16 (by decide) ?_
  refine j_icmp_ge C (tgt := 58) dX8_needs_18 (by decide) ?_ ?_
  · refine j_iload_n C dX8_needs_58 1 rfl ?_
    exact j_iret C E dX8_needs_59
  · refine j_aload_n C dX8_needs_21 0 rfl ?_
    refine j_getR C kK8 f320 kfX8_12 (by decide) rfl tp0 dX8_needs_22 (fun x6 tx6 => ?_)
    refine j_iload_n C dX8_needs_25 2 rfl ?_
    refine j_oc tx6 (fun a7 ta7 ea7 => ?_)
    subst ea7
    refine j_cVRP C [vI p2] [] (fun _ e => c_X7_at a7 ta7 p2 e) kYX7_at kVX7_at kmX8_50 kO7 ta7 rfl rfl ⟨rfl, rfl, by decide, by decide⟩ (Nat.le_of_ble_eq_true rfl) ⟨Nat.zero_le _, Nat.zero_le _⟩ dX8_needs_26 (fun v8 tv8 => ?_)
    refine j_astore_n C (L' := [(3, vR v8), (0, vR (some p0)), (1, vI p1), (2, vI p2)]) dX8_needs_29 (by decide) rfl ?_
    refine j_aload_n C dX8_needs_30 0 rfl ?_
    refine j_ifnull C (tgt := 52) tv8 dX8_needs_31 (by decide) (fun ea10 => ?_) (fun a10 ta10 ea10 => ?_)
    · subst ea10
      refine j_sub (L' := [(0, vR (some p0)), (1, vI p1), (2, vI p2)]) [1, 2, 3] rfl ?_
      exact jB_X8_needs_52 C E rec hrec S p0 tp0 p1 p2
    · subst ea10
      refine j_aload_n C dX8_needs_34 1 rfl ?_
      refine j_getR C kK8 f322 kfX8_26 (by decide) rfl tp0 dX8_needs_35 (fun x11 tx11 => ?_)
      refine j_aload_n C dX8_needs_38 0 rfl ?_
      refine j_aload_n C dX8_needs_39 1 rfl ?_
      refine j_getR C kK8 f320 kfX8_12 (by decide) rfl tp0 dX8_needs_40 (fun x12 tx12 => ?_)
      refine j_oc tx11 (fun a13 ta13 ea13 => ?_)
      subst ea13
      refine j_cVIG C [vR (some a10), vR x12] [] (fun _ _ e => c_X4_reasonFor a13 ta13 (some a10) (okS ta10) x12 tx12 e) kYX4_reasonFor kVX4_reasonFor kmX8_198 kO4 ta13 rfl rfl ⟨rfl, rfl, by decide, by decide⟩ (Nat.le_of_ble_eq_true rfl) ⟨Nat.zero_le _, Nat.zero_le _⟩ dX8_needs_43 (fun v14 S15 => ?_)
      refine j_if_eq C (tgt := 52) dX8_needs_46 (by decide) ?_ ?_
      · refine j_sub (L' := [(0, vR (some p0)), (1, vI p1), (2, vI p2)]) [1, 2, 3] rfl ?_
        exact jB_X8_needs_52 C E rec hrec S15 p0 tp0 p1 p2
      · refine j_iinc C (v := (1 : Int32)) (L' := [(1, vI (p1 + (1 : Int32))), (3, vR (some a10)), (0, vR (some p0)), (2, vI p2)]) dX8_needs_49 2 rfl (by decide) (by decide) rfl ?_
        refine j_sub (L' := [(0, vR (some p0)), (1, vI (p1 + (1 : Int32))), (2, vI p2)]) [2, 0, 3] rfl ?_
        exact jB_X8_needs_52 C E rec hrec S15 p0 tp0 (p1 + (1 : Int32)) p2
def L_X8_needs_15 (N : Nat → Nat) (n : Nat) : sSt → Nat → Int32 → Int32 → Option (Int32 × sSt) := iter (fun _ _ _ _ => none) (Y_X8_needs_15 N) n
theorem jL_X8_needs_15 {X : jX} (C : jC X cX8_needs 4 RX8 rm_X8_needs) {Λ : sLay} {r : (Int32 × sSt)} (E : jE X (some .int) rI Λ r) : ∀ (n : Nat) (S : sSt) (p0 : Nat) (tp0 : isK Λ 8 p0) (p1 : Int32) (p2 : Int32), J X 4 0 0 15 [(0, vR (some p0)), (1, vI p1), (2, vI p2)] [] Λ S (L_X8_needs_15 Λ.2.2 n S p0 p1 p2 = some r) := by
  intro n
  induction n with
  | zero => intro S p0 tp0 p1 p2; exact j_no (fun h => by have h2 : (none : Option (Int32 × sSt)) = some r := h; cases h2)
  | succ n ih => intro S p0 tp0 p1 p2; exact jY_X8_needs_15 C E (L_X8_needs_15 Λ.2.2 n) ih S p0 tp0 p1 p2
def F_X8_needs (N : Nat → Nat) (S : sSt) (p0 : Nat) : Option (Int32 × sSt) := bnd (gFR S 321 p0) (fun x1 => bnd (gFR S 320 p0) (fun x2 => Option.bind x1 (fun a3 => Option.bind (F_X0_settleAll N S a3 x2) (fun S5 => L_X8_needs_15 N FU S5 p0 (0 : Int32) (0 : Int32)))))
set_option maxHeartbeats 4000000 in
theorem jF_X8_needs {X : jX} (C : jC X cX8_needs 4 RX8 rm_X8_needs) {Λ : sLay} {S : sSt} {r : (Int32 × sSt)} (E : jE X (some .int) rI Λ r) (p0 : Nat) (tp0 : isK Λ 8 p0) : J X 4 0 0 0 [(0, vR (some p0))] [] Λ S (F_X8_needs Λ.2.2 S p0 = some r) := by
  unfold F_X8_needs
  refine j_aload_n C dX8_needs_0 0 rfl ?_
  refine j_getR C kK8 f321 kfX8_19 (by decide) rfl tp0 dX8_needs_1 (fun x1 tx1 => ?_)
  refine j_aload_n C dX8_needs_4 0 rfl ?_
  refine j_getR C kK8 f320 kfX8_12 (by decide) rfl tp0 dX8_needs_5 (fun x2 tx2 => ?_)
  refine j_oc tx1 (fun a3 ta3 ea3 => ?_)
  subst ea3
  refine j_cVVV C [vR x2] [] (fun _ e => c_X0_settleAll a3 ta3 x2 tx2 e) kYX0_settleAll kVX0_settleAll kmX8_139 kO0 ta3 rfl rfl ⟨rfl, rfl, by decide, by decide⟩ (Nat.le_of_ble_eq_true rfl) ⟨Nat.zero_le _, Nat.zero_le _⟩ dX8_needs_8 (fun S5 => ?_)
  refine j_iconst C (v := (0 : Int32)) dX8_needs_11 (by decide) ?_
  refine j_istore_n C (L' := [(1, vI (0 : Int32)), (0, vR (some p0))]) dX8_needs_12 (by decide) rfl ?_
  refine j_iconst C (v := (0 : Int32)) dX8_needs_13 (by decide) ?_
  refine j_istore_n C (L' := [(2, vI (0 : Int32)), (1, vI (0 : Int32)), (0, vR (some p0))]) dX8_needs_14 (by decide) rfl ?_
  refine j_sub (L' := [(0, vR (some p0)), (1, vI (0 : Int32)), (2, vI (0 : Int32))]) [2, 1, 0] rfl ?_
  exact jL_X8_needs_15 C E FU S5 p0 tp0 (0 : Int32) (0 : Int32)
theorem c_X8_needs {l : Launch} {D : va_G} {cy : Nat → ClassId} {Λ : sLay} {S : sSt} (p0 : Nat) (tp0 : isK Λ 8 p0) {v : Int32} {S1 : sSt} (h : F_X8_needs Λ.2.2 S p0 = some (v, S1)) : jM l yX8_needs (Cond.code yX8_needs cX8_needs 4 (some .int) :: bigW) rm_X8_needs D cy Λ S [vR (some p0)] rI (v, S1) := jM_of (by decide +kernel) (Nat.le_of_ble_eq_true rfl) (fun X C E _ _ _ => j_sub [0] rfl (jF_X8_needs C E p0 tp0)) h
/-! RemakeNeeds2.output(I)J -/
abbrev rm_X8_output : Room := { frames := 2, cells := 0, slots := 0, locals := 48 }
def B_X8_output_20 (N : Nat → Nat) (S : sSt) : Option Int64 := some (0 : Int64)
set_option maxHeartbeats 4000000 in
theorem jB_X8_output_20 {X : jX} (C : jC X cX8_output 3 RX8 rm_X8_output) {Λ : sLay} {S : sSt} {r : Int64} (E : jE X (some .long) rJ Λ (r, S)) : ∀ (_ : Unit), J X 3 0 0 20 [] [] Λ S (B_X8_output_20 Λ.2.2 S  = some r) := by
  intro _
  unfold B_X8_output_20
  refine j_lconst C (v := (0 : Int64)) dX8_output_20 (by decide) ?_
  refine j_goto C (tgt := 31) dX8_output_21 (by decide) ?_
  exact j_lretP C E dX8_output_31
def F_X8_output (N : Nat → Nat) (S : sSt) (p0 : Nat) (p1 : Int32) : Option Int64 := bnd (gFR S 320 p0) (fun x1 => Option.bind x1 (fun a2 => Option.bind (F_X7_at N S a2 p1) (fun v3 => onl v3 (B_X8_output_20 N S ) (fun a5 => (if (gFI S 250 a5) = 0 then B_X8_output_20 N S  else bnd (gFR S 243 a5) (fun x6 => Option.bind x6 (fun a7 => Option.bind (F_X3_digest N S a7) (fun v8 => some v8))))))))
set_option maxHeartbeats 4000000 in
theorem jF_X8_output {X : jX} (C : jC X cX8_output 3 RX8 rm_X8_output) {Λ : sLay} {S : sSt} {r : Int64} (E : jE X (some .long) rJ Λ (r, S)) (p0 : Nat) (tp0 : isK Λ 8 p0) (p1 : Int32) : J X 3 0 0 0 [(0, vR (some p0)), (1, vI p1)] [] Λ S (F_X8_output Λ.2.2 S p0 p1 = some r) := by
  unfold F_X8_output
  refine j_aload_n C dX8_output_0 0 rfl ?_
  refine j_getR C kK8 f320 kfX8_12 (by decide) rfl tp0 dX8_output_1 (fun x1 tx1 => ?_)
  refine j_iload_n C dX8_output_4 1 rfl ?_
  refine j_oc tx1 (fun a2 ta2 ea2 => ?_)
  subst ea2
  refine j_cVRP C [vI p1] [] (fun _ e => c_X7_at a2 ta2 p1 e) kYX7_at kVX7_at kmX8_50 kO7 ta2 rfl rfl ⟨rfl, rfl, by decide, by decide⟩ (Nat.le_of_ble_eq_true rfl) ⟨Nat.zero_le _, Nat.zero_le _⟩ dX8_output_5 (fun v3 tv3 => ?_)
  refine j_astore_n C (L' := [(2, vR v3), (0, vR (some p0)), (1, vI p1)]) dX8_output_8 (by decide) rfl ?_
  refine j_aload_n C dX8_output_9 0 rfl ?_
  refine j_ifnull C (tgt := 20) tv3 dX8_output_10 (by decide) (fun ea5 => ?_) (fun a5 ta5 ea5 => ?_)
  · subst ea5
    refine j_sub (L' := []) [] rfl ?_
    exact jB_X8_output_20 C E ()
  · subst ea5
    refine j_aload_n C dX8_output_13 0 rfl ?_
    refine j_getI C kK6 f250 kfX8_184 (by decide) ta5 dX8_output_14 ?_
    refine j_if_ne C (tgt := 24) dX8_output_17 (by decide) ?_ ?_
    · refine j_aload_n C dX8_output_24 0 rfl ?_
      refine j_getR C kK6 f243 kfX8_192 (by decide) rfl ta5 dX8_output_25 (fun x6 tx6 => ?_)
      refine j_oc tx6 (fun a7 ta7 ea7 => ?_)
      subst ea7
      refine j_cVJP C [] [] (fun _ e => c_X3_digest a7 ta7 e) kYX3_digest kVX3_digest kmX8_214 kO3 ta7 rfl rfl ⟨rfl, rfl, by decide, by decide⟩ (Nat.le_of_ble_eq_true rfl) ⟨Nat.zero_le _, Nat.zero_le _⟩ dX8_output_28 (fun v8 => ?_)
      exact j_lretP C E dX8_output_31
    · refine j_sub (L' := []) [] rfl ?_
      exact jB_X8_output_20 C E ()
theorem c_X8_output {l : Launch} {D : va_G} {cy : Nat → ClassId} {Λ : sLay} {S : sSt} (p0 : Nat) (tp0 : isK Λ 8 p0) (p1 : Int32) {r : Int64} (h : F_X8_output Λ.2.2 S p0 p1 = some r) : jM l yX8_output (Cond.code yX8_output cX8_output 3 (some .long) :: bigW) rm_X8_output D cy Λ S [vR (some p0), vI p1] rJ (r, S) := jM_of (by decide +kernel) (Nat.le_of_ble_eq_true rfl) (fun X C E _ _ _ => j_sub [0, 1] rfl (jF_X8_output C E p0 tp0 p1)) h
/-! RemakeNeeds2.reader(IZ)I -/
abbrev rm_X8_reader : Room := { frames := 2, cells := 0, slots := 0, locals := 45 }
def B_X8_reader_39 (N : Nat → Nat) (S : sSt) (p0 : Nat) (p1 : Int32) (p2 : Int32) (p3 : Nat) (s0 : Int32) : Option (Int32 × sSt) := gb p2 (bnd (sFI S 248 p3 p2) (fun S6 => (if p2 = 0 then bnd (gFR S6 320 p0) (fun x7 => Option.bind x7 (fun a8 => Option.bind (F_X7_freeFrom N S6 a8 p1) (fun S10 => some (s0, S10)))) else some (s0, S6))))
set_option maxHeartbeats 4000000 in
theorem jB_X8_reader_39 {X : jX} (C : jC X cX8_reader 5 RX8 rm_X8_reader) {Λ : sLay} {r : (Int32 × sSt)} (E : jE X (some .int) rI Λ r) : ∀ (S : sSt) (p0 : Nat) (tp0 : isK Λ 8 p0) (p1 : Int32) (p2 : Int32) (p3 : Nat) (tp3 : isK Λ 6 p3) (s0 : Int32), J X 5 0 0 39 [(0, vR (some p0)), (1, vI p1), (2, vI p2), (3, vR (some p3))] [vI s0] Λ S (B_X8_reader_39 Λ.2.2 S p0 p1 p2 p3 s0 = some r) := by
  intro S p0 tp0 p1 p2 p3 tp3 s0
  unfold B_X8_reader_39
  refine j_istore C (L' := [(4, vI s0), (0, vR (some p0)), (1, vI p1), (2, vI p2), (3, vR (some p3))]) dX8_reader_39 (by decide) rfl ?_
  refine j_aload_n C dX8_reader_41 4 rfl ?_
  refine j_iload_n C dX8_reader_42 3 rfl ?_
  refine j_putZ C kK6 f248 kfX8_116 (by decide) rfl rfl tp3 dX8_reader_43 (fun S6 => ?_)
  refine j_iload_n C dX8_reader_46 3 rfl ?_
  refine j_if_ne C (tgt := 58) dX8_reader_47 (by decide) ?_ ?_
  · refine j_iload C dX8_reader_58 0 rfl ?_
    exact j_iret C E dX8_reader_60
  · refine j_aload_n C dX8_reader_50 1 rfl ?_
    refine j_getR C kK8 f320 kfX8_12 (by decide) rfl tp0 dX8_reader_51 (fun x7 tx7 => ?_)
    refine j_iload_n C dX8_reader_54 2 rfl ?_
    refine j_oc tx7 (fun a8 ta8 ea8 => ?_)
    subst ea8
    refine j_cVVV C [vI p1] [] (fun _ e => c_X7_freeFrom a8 ta8 p1 e) kYX7_freeFrom kVX7_freeFrom kmX8_119 kO7 ta8 rfl rfl ⟨rfl, rfl, by decide, by decide⟩ (Nat.le_of_ble_eq_true rfl) ⟨Nat.zero_le _, Nat.zero_le _⟩ dX8_reader_55 (fun S10 => ?_)
    refine j_iload C dX8_reader_58 0 rfl ?_
    exact j_iret C E dX8_reader_60
def F_X8_reader (N : Nat → Nat) (S : sSt) (p0 : Nat) (p1 : Int32) (p2 : Int32) : Option (Int32 × sSt) := bnd (gFR S 320 p0) (fun x1 => Option.bind x1 (fun a2 => Option.bind (F_X7_at N S a2 p1) (fun v3 => onl v3 (some ((-1 : Int32), S)) (fun a5 => (if (gFI S 249 a5) = (-5 : Int32) then (if (gFI S 248 a5) = 0 then B_X8_reader_39 N S p0 p1 p2 a5 (0 : Int32) else B_X8_reader_39 N S p0 p1 p2 a5 (1 : Int32)) else some ((-3 : Int32), S))))))
set_option maxHeartbeats 4000000 in
theorem jF_X8_reader {X : jX} (C : jC X cX8_reader 5 RX8 rm_X8_reader) {Λ : sLay} {S : sSt} {r : (Int32 × sSt)} (E : jE X (some .int) rI Λ r) (p0 : Nat) (tp0 : isK Λ 8 p0) (p1 : Int32) (p2 : Int32) : J X 5 0 0 0 [(0, vR (some p0)), (1, vI p1), (2, vI p2)] [] Λ S (F_X8_reader Λ.2.2 S p0 p1 p2 = some r) := by
  unfold F_X8_reader
  refine j_aload_n C dX8_reader_0 0 rfl ?_
  refine j_getR C kK8 f320 kfX8_12 (by decide) rfl tp0 dX8_reader_1 (fun x1 tx1 => ?_)
  refine j_iload_n C dX8_reader_4 1 rfl ?_
  refine j_oc tx1 (fun a2 ta2 ea2 => ?_)
  subst ea2
  refine j_cVRP C [vI p1] [] (fun _ e => c_X7_at a2 ta2 p1 e) kYX7_at kVX7_at kmX8_50 kO7 ta2 rfl rfl ⟨rfl, rfl, by decide, by decide⟩ (Nat.le_of_ble_eq_true rfl) ⟨Nat.zero_le _, Nat.zero_le _⟩ dX8_reader_5 (fun v3 tv3 => ?_)
  refine j_astore_n C (L' := [(3, vR v3), (0, vR (some p0)), (1, vI p1), (2, vI p2)]) dX8_reader_8 (by decide) rfl ?_
  refine j_aload_n C dX8_reader_9 0 rfl ?_
  refine j_ifnonnull C (tgt := 15) tv3 dX8_reader_10 (by decide) (fun ea5 => ?_) (fun a5 ta5 ea5 => ?_)
  · subst ea5
    refine j_iconst C (v := (-1 : Int32)) dX8_reader_13 (by decide) ?_
    exact j_iret C E dX8_reader_14
  · subst ea5
    refine j_aload_n C dX8_reader_15 0 rfl ?_
    refine j_getI C kK6 f249 kfX8_113 (by decide) ta5 dX8_reader_16 ?_
    refine j_bipush C (v := (-5 : Int32)) dX8_reader_19 (by decide) ?_
    refine j_icmp_eq C (tgt := 27) dX8_reader_21 (by decide) ?_ ?_
    · refine j_aload_n C dX8_reader_27 0 rfl ?_
      refine j_getI C kK6 f248 kfX8_116 (by decide) ta5 dX8_reader_28 ?_
      refine j_if_eq C (tgt := 38) dX8_reader_31 (by decide) ?_ ?_
      · refine j_iconst C (v := (0 : Int32)) dX8_reader_38 (by decide) ?_
        refine j_sub (L' := [(0, vR (some p0)), (1, vI p1), (2, vI p2), (3, vR (some a5))]) [1, 2, 3, 0] rfl ?_
        exact jB_X8_reader_39 C E S p0 tp0 p1 p2 a5 ta5 (0 : Int32)
      · refine j_iconst C (v := (1 : Int32)) dX8_reader_34 (by decide) ?_
        refine j_goto C (tgt := 39) dX8_reader_35 (by decide) ?_
        refine j_sub (L' := [(0, vR (some p0)), (1, vI p1), (2, vI p2), (3, vR (some a5))]) [1, 2, 3, 0] rfl ?_
        exact jB_X8_reader_39 C E S p0 tp0 p1 p2 a5 ta5 (1 : Int32)
    · refine j_bipush C (v := (-3 : Int32)) dX8_reader_24 (by decide) ?_
      exact j_iret C E dX8_reader_26
theorem c_X8_reader {l : Launch} {D : va_G} {cy : Nat → ClassId} {Λ : sLay} {S : sSt} (p0 : Nat) (tp0 : isK Λ 8 p0) (p1 : Int32) (p2 : Int32) {v : Int32} {S1 : sSt} (h : F_X8_reader Λ.2.2 S p0 p1 p2 = some (v, S1)) : jM l yX8_reader (Cond.code yX8_reader cX8_reader 5 (some .int) :: bigW) rm_X8_reader D cy Λ S [vR (some p0), vI p1, vI p2] rI (v, S1) := jM_of (by decide +kernel) (Nat.le_of_ble_eq_true rfl) (fun X C E _ _ _ => j_sub [0, 1, 2] rfl (jF_X8_reader C E p0 tp0 p1 p2)) h
/-! RemakeNeeds2.remove(I)I -/
abbrev rm_X8_remove : Room := { frames := 3, cells := 0, slots := 0, locals := 69 }
def F_X8_remove (N : Nat → Nat) (S : sSt) (p0 : Nat) (p1 : Int32) : Option (Int32 × sSt) := bnd (gFR S 320 p0) (fun x1 => Option.bind x1 (fun a2 => Option.bind (F_X7_at N S a2 p1) (fun v3 => onl v3 (some ((-1 : Int32), S)) (fun a5 => bnd (gFR S 320 p0) (fun x6 => Option.bind x6 (fun a7 => Option.bind (F_X7_dropOne N S a7 p1) (fun S9 => bnd (gFR S9 320 p0) (fun x10 => Option.bind x10 (fun a11 => Option.bind (F_X7_thereNow N S9 a11) (fun v12 => some (v12, S9)))))))))))
set_option maxHeartbeats 4000000 in
theorem jF_X8_remove {X : jX} (C : jC X cX8_remove 2 RX8 rm_X8_remove) {Λ : sLay} {S : sSt} {r : (Int32 × sSt)} (E : jE X (some .int) rI Λ r) (p0 : Nat) (tp0 : isK Λ 8 p0) (p1 : Int32) : J X 2 0 0 0 [(0, vR (some p0)), (1, vI p1)] [] Λ S (F_X8_remove Λ.2.2 S p0 p1 = some r) := by
  unfold F_X8_remove
  refine j_aload_n C dX8_remove_0 0 rfl ?_
  refine j_getR C kK8 f320 kfX8_12 (by decide) rfl tp0 dX8_remove_1 (fun x1 tx1 => ?_)
  refine j_iload_n C dX8_remove_4 1 rfl ?_
  refine j_oc tx1 (fun a2 ta2 ea2 => ?_)
  subst ea2
  refine j_cVRP C [vI p1] [] (fun _ e => c_X7_at a2 ta2 p1 e) kYX7_at kVX7_at kmX8_50 kO7 ta2 rfl rfl ⟨rfl, rfl, by decide, by decide⟩ (Nat.le_of_ble_eq_true rfl) ⟨Nat.zero_le _, Nat.zero_le _⟩ dX8_remove_5 (fun v3 tv3 => ?_)
  refine j_ifnonnull C (tgt := 13) tv3 dX8_remove_8 (by decide) (fun ea5 => ?_) (fun a5 ta5 ea5 => ?_)
  · subst ea5
    refine j_iconst C (v := (-1 : Int32)) dX8_remove_11 (by decide) ?_
    exact j_iret C E dX8_remove_12
  · subst ea5
    refine j_aload_n C dX8_remove_13 0 rfl ?_
    refine j_getR C kK8 f320 kfX8_12 (by decide) rfl tp0 dX8_remove_14 (fun x6 tx6 => ?_)
    refine j_iload_n C dX8_remove_17 1 rfl ?_
    refine j_oc tx6 (fun a7 ta7 ea7 => ?_)
    subst ea7
    refine j_cVVV C [vI p1] [] (fun _ e => c_X7_dropOne a7 ta7 p1 e) kYX7_dropOne kVX7_dropOne kmX8_122 kO7 ta7 rfl rfl ⟨rfl, rfl, by decide, by decide⟩ (Nat.le_of_ble_eq_true rfl) ⟨Nat.zero_le _, Nat.zero_le _⟩ dX8_remove_18 (fun S9 => ?_)
    refine j_aload_n C dX8_remove_21 0 rfl ?_
    refine j_getR C kK8 f320 kfX8_12 (by decide) rfl tp0 dX8_remove_22 (fun x10 tx10 => ?_)
    refine j_oc tx10 (fun a11 ta11 ea11 => ?_)
    subst ea11
    refine j_cVIP C [] [] (fun _ e => c_X7_thereNow a11 ta11 e) kYX7_thereNow kVX7_thereNow kmX8_125 kO7 ta11 rfl rfl ⟨rfl, rfl, by decide, by decide⟩ (Nat.le_of_ble_eq_true rfl) ⟨Nat.zero_le _, Nat.zero_le _⟩ dX8_remove_25 (fun v12 => ?_)
    exact j_iret C E dX8_remove_28
theorem c_X8_remove {l : Launch} {D : va_G} {cy : Nat → ClassId} {Λ : sLay} {S : sSt} (p0 : Nat) (tp0 : isK Λ 8 p0) (p1 : Int32) {v : Int32} {S1 : sSt} (h : F_X8_remove Λ.2.2 S p0 p1 = some (v, S1)) : jM l yX8_remove (Cond.code yX8_remove cX8_remove 2 (some .int) :: bigW) rm_X8_remove D cy Λ S [vR (some p0), vI p1] rI (v, S1) := jM_of (by decide +kernel) (Nat.le_of_ble_eq_true rfl) (fun X C E _ _ _ => j_sub [0, 1] rfl (jF_X8_remove C E p0 tp0 p1)) h
/-! RemakeNeeds2.ring(I)I -/
abbrev rm_X8_ring : Room := { frames := 5, cells := 0, slots := 0, locals := 119 }
def F_X8_ring (N : Nat → Nat) (S : sSt) (p0 : Nat) (p1 : Int32) : Option (Int32 × sSt) := bnd (gFR S 320 p0) (fun x1 => Option.bind x1 (fun a2 => Option.bind (F_X7_at N S a2 p1) (fun v3 => onl v3 (some ((-1 : Int32), S)) (fun a5 => bnd (gFR S 323 p0) (fun x6 => bnd (gFR S 320 p0) (fun x7 => Option.bind x6 (fun a8 => Option.bind (F_X2_arrange N S a8 x7) (fun S10 => bnd (gFR S10 323 p0) (fun x11 => Option.bind x11 (fun a12 => Option.bind (F_X2_ringOf N S10 a12 p1) (fun v13 => some (v13, S10))))))))))))
set_option maxHeartbeats 4000000 in
theorem jF_X8_ring {X : jX} (C : jC X cX8_ring 2 RX8 rm_X8_ring) {Λ : sLay} {S : sSt} {r : (Int32 × sSt)} (E : jE X (some .int) rI Λ r) (p0 : Nat) (tp0 : isK Λ 8 p0) (p1 : Int32) : J X 2 0 0 0 [(0, vR (some p0)), (1, vI p1)] [] Λ S (F_X8_ring Λ.2.2 S p0 p1 = some r) := by
  unfold F_X8_ring
  refine j_aload_n C dX8_ring_0 0 rfl ?_
  refine j_getR C kK8 f320 kfX8_12 (by decide) rfl tp0 dX8_ring_1 (fun x1 tx1 => ?_)
  refine j_iload_n C dX8_ring_4 1 rfl ?_
  refine j_oc tx1 (fun a2 ta2 ea2 => ?_)
  subst ea2
  refine j_cVRP C [vI p1] [] (fun _ e => c_X7_at a2 ta2 p1 e) kYX7_at kVX7_at kmX8_50 kO7 ta2 rfl rfl ⟨rfl, rfl, by decide, by decide⟩ (Nat.le_of_ble_eq_true rfl) ⟨Nat.zero_le _, Nat.zero_le _⟩ dX8_ring_5 (fun v3 tv3 => ?_)
  refine j_ifnonnull C (tgt := 13) tv3 dX8_ring_8 (by decide) (fun ea5 => ?_) (fun a5 ta5 ea5 => ?_)
  · subst ea5
    refine j_iconst C (v := (-1 : Int32)) dX8_ring_11 (by decide) ?_
    exact j_iret C E dX8_ring_12
  · subst ea5
    refine j_aload_n C dX8_ring_13 0 rfl ?_
    refine j_getR C kK8 f323 kfX8_33 (by decide) rfl tp0 dX8_ring_14 (fun x6 tx6 => ?_)
    refine j_aload_n C dX8_ring_17 0 rfl ?_
    refine j_getR C kK8 f320 kfX8_12 (by decide) rfl tp0 dX8_ring_18 (fun x7 tx7 => ?_)
    refine j_oc tx6 (fun a8 ta8 ea8 => ?_)
    subst ea8
    refine j_cVVV C [vR x7] [] (fun _ e => c_X2_arrange a8 ta8 x7 tx7 e) kYX2_arrange kVX2_arrange kmX8_202 kO2 ta8 rfl rfl ⟨rfl, rfl, by decide, by decide⟩ (Nat.le_of_ble_eq_true rfl) ⟨Nat.zero_le _, Nat.zero_le _⟩ dX8_ring_21 (fun S10 => ?_)
    refine j_aload_n C dX8_ring_24 0 rfl ?_
    refine j_getR C kK8 f323 kfX8_33 (by decide) rfl tp0 dX8_ring_25 (fun x11 tx11 => ?_)
    refine j_iload_n C dX8_ring_28 1 rfl ?_
    refine j_oc tx11 (fun a12 ta12 ea12 => ?_)
    subst ea12
    refine j_cVIP C [vI p1] [] (fun _ e => c_X2_ringOf a12 ta12 p1 e) kYX2_ringOf kVX2_ringOf kmX8_233 kO2 ta12 rfl rfl ⟨rfl, rfl, by decide, by decide⟩ (Nat.le_of_ble_eq_true rfl) ⟨Nat.zero_le _, Nat.zero_le _⟩ dX8_ring_29 (fun v13 => ?_)
    exact j_iret C E dX8_ring_32
theorem c_X8_ring {l : Launch} {D : va_G} {cy : Nat → ClassId} {Λ : sLay} {S : sSt} (p0 : Nat) (tp0 : isK Λ 8 p0) (p1 : Int32) {v : Int32} {S1 : sSt} (h : F_X8_ring Λ.2.2 S p0 p1 = some (v, S1)) : jM l yX8_ring (Cond.code yX8_ring cX8_ring 2 (some .int) :: bigW) rm_X8_ring D cy Λ S [vR (some p0), vI p1] rI (v, S1) := jM_of (by decide +kernel) (Nat.le_of_ble_eq_true rfl) (fun X C E _ _ _ => j_sub [0, 1] rfl (jF_X8_ring C E p0 tp0 p1)) h
/-! RemakeNeeds2.round(II)I -/
abbrev rm_X8_round : Room := { frames := 5, cells := 0, slots := 0, locals := 121 }
def F_X8_round (N : Nat → Nat) (S : sSt) (p0 : Nat) (p1 : Int32) (p2 : Int32) : Option (Int32 × sSt) := Option.bind (F_X8_constantOf N S p0 p1 p2) (fun v1 => onl v1 (some ((-1 : Int32), S)) (fun a3 => bnd (gFR S 321 p0) (fun x4 => bnd (gFR S 320 p0) (fun x5 => Option.bind x4 (fun a6 => Option.bind (F_X0_settleAll N S a6 x5) (fun S8 => (if (gFI S8 207 a3) = 0 then some ((0 : Int32), S8) else some ((1 : Int32), S8))))))))
set_option maxHeartbeats 4000000 in
theorem jF_X8_round {X : jX} (C : jC X cX8_round 4 RX8 rm_X8_round) {Λ : sLay} {S : sSt} {r : (Int32 × sSt)} (E : jE X (some .int) rI Λ r) (p0 : Nat) (tp0 : isK Λ 8 p0) (p1 : Int32) (p2 : Int32) : J X 4 0 0 0 [(0, vR (some p0)), (1, vI p1), (2, vI p2)] [] Λ S (F_X8_round Λ.2.2 S p0 p1 p2 = some r) := by
  unfold F_X8_round
  refine j_aload_n C dX8_round_0 0 rfl ?_
  refine j_iload_n C dX8_round_1 1 rfl ?_
  refine j_iload_n C dX8_round_2 2 rfl ?_
  refine j_cVRP C [vI p1, vI p2] [] (fun _ e => c_X8_constantOf p0 tp0 p1 p2 e) kYX8_constantOf kVX8_constantOf kmX8_135 kO8 tp0 rfl rfl ⟨rfl, rfl, by decide, by decide⟩ (Nat.le_of_ble_eq_true rfl) ⟨Nat.zero_le _, Nat.zero_le _⟩ dX8_round_3 (fun v1 tv1 => ?_)
  refine j_astore_n C (L' := [(3, vR v1), (0, vR (some p0)), (1, vI p1), (2, vI p2)]) dX8_round_6 (by decide) rfl ?_
  refine j_aload_n C dX8_round_7 0 rfl ?_
  refine j_ifnonnull C (tgt := 13) tv1 dX8_round_8 (by decide) (fun ea3 => ?_) (fun a3 ta3 ea3 => ?_)
  · subst ea3
    refine j_iconst C (v := (-1 : Int32)) dX8_round_11 (by decide) ?_
    exact j_iret C E dX8_round_12
  · subst ea3
    refine j_aload_n C dX8_round_13 1 rfl ?_
    refine j_getR C kK8 f321 kfX8_19 (by decide) rfl tp0 dX8_round_14 (fun x4 tx4 => ?_)
    refine j_aload_n C dX8_round_17 1 rfl ?_
    refine j_getR C kK8 f320 kfX8_12 (by decide) rfl tp0 dX8_round_18 (fun x5 tx5 => ?_)
    refine j_oc tx4 (fun a6 ta6 ea6 => ?_)
    subst ea6
    refine j_cVVV C [vR x5] [] (fun _ e => c_X0_settleAll a6 ta6 x5 tx5 e) kYX0_settleAll kVX0_settleAll kmX8_139 kO0 ta6 rfl rfl ⟨rfl, rfl, by decide, by decide⟩ (Nat.le_of_ble_eq_true rfl) ⟨Nat.zero_le _, Nat.zero_le _⟩ dX8_round_21 (fun S8 => ?_)
    refine j_aload_n C dX8_round_24 0 rfl ?_
    refine j_getI C kK5 f207 kfX8_146 (by decide) ta3 dX8_round_25 ?_
    refine j_if_eq C (tgt := 35) dX8_round_28 (by decide) ?_ ?_
    · refine j_iconst C (v := (0 : Int32)) dX8_round_35 (by decide) ?_
      exact j_iret C E dX8_round_36
    · refine j_iconst C (v := (1 : Int32)) dX8_round_31 (by decide) ?_
      refine j_goto C (tgt := 36) dX8_round_32 (by decide) ?_
      exact j_iret C E dX8_round_36
theorem c_X8_round {l : Launch} {D : va_G} {cy : Nat → ClassId} {Λ : sLay} {S : sSt} (p0 : Nat) (tp0 : isK Λ 8 p0) (p1 : Int32) (p2 : Int32) {v : Int32} {S1 : sSt} (h : F_X8_round Λ.2.2 S p0 p1 p2 = some (v, S1)) : jM l yX8_round (Cond.code yX8_round cX8_round 4 (some .int) :: bigW) rm_X8_round D cy Λ S [vR (some p0), vI p1, vI p2] rI (v, S1) := jM_of (by decide +kernel) (Nat.le_of_ble_eq_true rfl) (fun X C E _ _ _ => j_sub [0, 1, 2] rfl (jF_X8_round C E p0 tp0 p1 p2)) h
/-! RemakeNeeds2.size(I)I -/
abbrev rm_X8_size : Room := { frames := 6, cells := 0, slots := 0, locals := 142 }
def F_X8_size (N : Nat → Nat) (S : sSt) (p0 : Nat) (p1 : Int32) : Option (Int32 × sSt) := bnd (gFR S 320 p0) (fun x1 => Option.bind x1 (fun a2 => Option.bind (F_X7_at N S a2 p1) (fun v3 => onl v3 (some ((-1 : Int32), S)) (fun a5 => bnd (gFR S 321 p0) (fun x6 => bnd (gFR S 320 p0) (fun x7 => Option.bind x6 (fun a8 => Option.bind (F_X0_settleAll N S a8 x7) (fun S10 => bnd (gFR S10 322 p0) (fun x11 => bnd (gFR S10 320 p0) (fun x12 => Option.bind x11 (fun a13 => obd (F_X4_now N S10 a13 (some a5) x12) (fun v14 S15 => Option.bind v14 (fun a16 => Option.bind (F_X3_length N S15 a16) (fun v17 => some (v17, S15)))))))))))))))
set_option maxHeartbeats 4000000 in
theorem jF_X8_size {X : jX} (C : jC X cX8_size 3 RX8 rm_X8_size) {Λ : sLay} {S : sSt} {r : (Int32 × sSt)} (E : jE X (some .int) rI Λ r) (p0 : Nat) (tp0 : isK Λ 8 p0) (p1 : Int32) : J X 3 0 0 0 [(0, vR (some p0)), (1, vI p1)] [] Λ S (F_X8_size Λ.2.2 S p0 p1 = some r) := by
  unfold F_X8_size
  refine j_aload_n C dX8_size_0 0 rfl ?_
  refine j_getR C kK8 f320 kfX8_12 (by decide) rfl tp0 dX8_size_1 (fun x1 tx1 => ?_)
  refine j_iload_n C dX8_size_4 1 rfl ?_
  refine j_oc tx1 (fun a2 ta2 ea2 => ?_)
  subst ea2
  refine j_cVRP C [vI p1] [] (fun _ e => c_X7_at a2 ta2 p1 e) kYX7_at kVX7_at kmX8_50 kO7 ta2 rfl rfl ⟨rfl, rfl, by decide, by decide⟩ (Nat.le_of_ble_eq_true rfl) ⟨Nat.zero_le _, Nat.zero_le _⟩ dX8_size_5 (fun v3 tv3 => ?_)
  refine j_astore_n C (L' := [(2, vR v3), (0, vR (some p0)), (1, vI p1)]) dX8_size_8 (by decide) rfl ?_
  refine j_aload_n C dX8_size_9 0 rfl ?_
  refine j_ifnonnull C (tgt := 15) tv3 dX8_size_10 (by decide) (fun ea5 => ?_) (fun a5 ta5 ea5 => ?_)
  · subst ea5
    refine j_iconst C (v := (-1 : Int32)) dX8_size_13 (by decide) ?_
    exact j_iret C E dX8_size_14
  · subst ea5
    refine j_aload_n C dX8_size_15 1 rfl ?_
    refine j_getR C kK8 f321 kfX8_19 (by decide) rfl tp0 dX8_size_16 (fun x6 tx6 => ?_)
    refine j_aload_n C dX8_size_19 1 rfl ?_
    refine j_getR C kK8 f320 kfX8_12 (by decide) rfl tp0 dX8_size_20 (fun x7 tx7 => ?_)
    refine j_oc tx6 (fun a8 ta8 ea8 => ?_)
    subst ea8
    refine j_cVVV C [vR x7] [] (fun _ e => c_X0_settleAll a8 ta8 x7 tx7 e) kYX0_settleAll kVX0_settleAll kmX8_139 kO0 ta8 rfl rfl ⟨rfl, rfl, by decide, by decide⟩ (Nat.le_of_ble_eq_true rfl) ⟨Nat.zero_le _, Nat.zero_le _⟩ dX8_size_23 (fun S10 => ?_)
    refine j_aload_n C dX8_size_26 1 rfl ?_
    refine j_getR C kK8 f322 kfX8_26 (by decide) rfl tp0 dX8_size_27 (fun x11 tx11 => ?_)
    refine j_aload_n C dX8_size_30 0 rfl ?_
    refine j_aload_n C dX8_size_31 1 rfl ?_
    refine j_getR C kK8 f320 kfX8_12 (by decide) rfl tp0 dX8_size_32 (fun x12 tx12 => ?_)
    refine j_oc tx11 (fun a13 ta13 ea13 => ?_)
    subst ea13
    refine j_cVRG C [vR (some a5), vR x12] [] (fun _ _ e => c_X4_now a13 ta13 (some a5) (okS ta5) x12 tx12 e) kYX4_now kVX4_now kmX8_167 kO4 ta13 rfl rfl ⟨rfl, rfl, by decide, by decide⟩ (Nat.le_of_ble_eq_true rfl) ⟨Nat.zero_le _, Nat.zero_le _⟩ dX8_size_35 (fun v14 S15 tv14 => ?_)
    refine j_oc tv14 (fun a16 ta16 ea16 => ?_)
    subst ea16
    refine j_cVIP C [] [] (fun _ e => c_X3_length a16 ta16 e) kYX3_length kVX3_length kmX8_171 kO3 ta16 rfl rfl ⟨rfl, rfl, by decide, by decide⟩ (Nat.le_of_ble_eq_true rfl) ⟨Nat.zero_le _, Nat.zero_le _⟩ dX8_size_38 (fun v17 => ?_)
    exact j_iret C E dX8_size_41
theorem c_X8_size {l : Launch} {D : va_G} {cy : Nat → ClassId} {Λ : sLay} {S : sSt} (p0 : Nat) (tp0 : isK Λ 8 p0) (p1 : Int32) {v : Int32} {S1 : sSt} (h : F_X8_size Λ.2.2 S p0 p1 = some (v, S1)) : jM l yX8_size (Cond.code yX8_size cX8_size 3 (some .int) :: bigW) rm_X8_size D cy Λ S [vR (some p0), vI p1] rI (v, S1) := jM_of (by decide +kernel) (Nat.le_of_ble_eq_true rfl) (fun X C E _ _ _ => j_sub [0, 1] rfl (jF_X8_size C E p0 tp0 p1)) h
/-! RemakeNeeds2.take(III)I -/
abbrev rm_X8_take : Room := { frames := 2, cells := 0, slots := 0, locals := 46 }
def F_X8_take (N : Nat → Nat) (S : sSt) (p0 : Nat) (p1 : Int32) (p2 : Int32) (p3 : Int32) : Option (Int32 × sSt) := bnd (gFR S 320 p0) (fun x1 => Option.bind x1 (fun a2 => Option.bind (F_X7_at N S a2 p1) (fun v3 => onl v3 (some ((-1 : Int32), S)) (fun a5 => Option.bind (F_X8_isBelow N S p2 (3 : Int32)) (fun v6 => (if v6 = 0 then some ((-2 : Int32), S) else Option.bind (F_X8_isBelow N S p3 (32 : Int32)) (fun v8 => (if v8 = 0 then some ((-2 : Int32), S) else Option.bind (F_X8_keyOf N S p2 p3) (fun v10 => obd (F_X6_dropThing N S a5 v10) (fun v12 S13 => (if v12 = 0 then some ((-1 : Int32), S13) else some ((1 : Int32), S13))))))))))))
set_option maxHeartbeats 4000000 in
theorem jF_X8_take {X : jX} (C : jC X cX8_take 5 RX8 rm_X8_take) {Λ : sLay} {S : sSt} {r : (Int32 × sSt)} (E : jE X (some .int) rI Λ r) (p0 : Nat) (tp0 : isK Λ 8 p0) (p1 : Int32) (p2 : Int32) (p3 : Int32) : J X 5 0 0 0 [(0, vR (some p0)), (1, vI p1), (2, vI p2), (3, vI p3)] [] Λ S (F_X8_take Λ.2.2 S p0 p1 p2 p3 = some r) := by
  unfold F_X8_take
  refine j_aload_n C dX8_take_0 0 rfl ?_
  refine j_getR C kK8 f320 kfX8_12 (by decide) rfl tp0 dX8_take_1 (fun x1 tx1 => ?_)
  refine j_iload_n C dX8_take_4 1 rfl ?_
  refine j_oc tx1 (fun a2 ta2 ea2 => ?_)
  subst ea2
  refine j_cVRP C [vI p1] [] (fun _ e => c_X7_at a2 ta2 p1 e) kYX7_at kVX7_at kmX8_50 kO7 ta2 rfl rfl ⟨rfl, rfl, by decide, by decide⟩ (Nat.le_of_ble_eq_true rfl) ⟨Nat.zero_le _, Nat.zero_le _⟩ dX8_take_5 (fun v3 tv3 => ?_)
  refine j_astore C (L' := [(4, vR v3), (0, vR (some p0)), (1, vI p1), (2, vI p2), (3, vI p3)]) dX8_take_8 (by decide) rfl ?_
  refine j_aload C dX8_take_10 0 rfl ?_
  refine j_ifnonnull C (tgt := 17) tv3 dX8_take_12 (by decide) (fun ea5 => ?_) (fun a5 ta5 ea5 => ?_)
  · subst ea5
    refine j_iconst C (v := (-1 : Int32)) dX8_take_15 (by decide) ?_
    exact j_iret C E dX8_take_16
  · subst ea5
    refine j_iload_n C dX8_take_17 3 rfl ?_
    refine j_iconst C (v := (3 : Int32)) dX8_take_18 (by decide) ?_
    refine j_cSIP C [vI p2, vI (3 : Int32)] [] (fun _ e => c_X8_isBelow p2 (3 : Int32) e) kYX8_isBelow kSX8_isBelow kmX8_54 rfl rfl ⟨rfl, rfl, by decide, by decide⟩ (Nat.le_of_ble_eq_true rfl) ⟨Nat.zero_le _, Nat.zero_le _⟩ dX8_take_19 (fun v6 => ?_)
    refine j_if_eq C (tgt := 34) dX8_take_22 (by decide) ?_ ?_
    · refine j_bipush C (v := (-2 : Int32)) dX8_take_34 (by decide) ?_
      exact j_iret C E dX8_take_36
    · refine j_iload_n C dX8_take_25 4 rfl ?_
      refine j_bipush C (v := (32 : Int32)) dX8_take_26 (by decide) ?_
      refine j_cSIP C [vI p3, vI (32 : Int32)] [] (fun _ e => c_X8_isBelow p3 (32 : Int32) e) kYX8_isBelow kSX8_isBelow kmX8_54 rfl rfl ⟨rfl, rfl, by decide, by decide⟩ (Nat.le_of_ble_eq_true rfl) ⟨Nat.zero_le _, Nat.zero_le _⟩ dX8_take_28 (fun v8 => ?_)
      refine j_if_ne C (tgt := 37) dX8_take_31 (by decide) ?_ ?_
      · refine j_aload C dX8_take_37 0 rfl ?_
        refine j_iload_n C dX8_take_39 3 rfl ?_
        refine j_iload_n C dX8_take_40 4 rfl ?_
        refine j_cSIP C [vI p2, vI p3] [vR (some a5)] (fun _ e => c_X8_keyOf p2 p3 e) kYX8_keyOf kSX8_keyOf kmX8_58 rfl rfl ⟨rfl, rfl, by decide, by decide⟩ (Nat.le_of_ble_eq_true rfl) ⟨Nat.zero_le _, Nat.zero_le _⟩ dX8_take_41 (fun v10 => ?_)
        refine j_cVIG C [vI v10] [] (fun _ _ e => c_X6_dropThing a5 ta5 v10 e) kYX6_dropThing kVX6_dropThing kmX8_79 kO6 ta5 rfl rfl ⟨rfl, rfl, by decide, by decide⟩ (Nat.le_of_ble_eq_true rfl) ⟨Nat.zero_le _, Nat.zero_le _⟩ dX8_take_44 (fun v12 S13 => ?_)
        refine j_if_eq C (tgt := 54) dX8_take_47 (by decide) ?_ ?_
        · refine j_iconst C (v := (-1 : Int32)) dX8_take_54 (by decide) ?_
          exact j_iret C E dX8_take_55
        · refine j_iconst C (v := (1 : Int32)) dX8_take_50 (by decide) ?_
          refine j_goto C (tgt := 55) dX8_take_51 (by decide) ?_
          exact j_iret C E dX8_take_55
      · refine j_bipush C (v := (-2 : Int32)) dX8_take_34 (by decide) ?_
        exact j_iret C E dX8_take_36
theorem c_X8_take {l : Launch} {D : va_G} {cy : Nat → ClassId} {Λ : sLay} {S : sSt} (p0 : Nat) (tp0 : isK Λ 8 p0) (p1 : Int32) (p2 : Int32) (p3 : Int32) {v : Int32} {S1 : sSt} (h : F_X8_take Λ.2.2 S p0 p1 p2 p3 = some (v, S1)) : jM l yX8_take (Cond.code yX8_take cX8_take 5 (some .int) :: bigW) rm_X8_take D cy Λ S [vR (some p0), vI p1, vI p2, vI p3] rI (v, S1) := jM_of (by decide +kernel) (Nat.le_of_ble_eq_true rfl) (fun X C E _ _ _ => j_sub [0, 1, 2, 3] rfl (jF_X8_take C E p0 tp0 p1 p2 p3)) h
/-! RemakeNeeds2.unuse(II)I -/
abbrev rm_X8_unuse : Room := { frames := 1, cells := 0, slots := 0, locals := 22 }
def F_X8_unuse (N : Nat → Nat) (S : sSt) (p0 : Nat) (p1 : Int32) (p2 : Int32) : Option (Int32 × sSt) := bnd (gFR S 320 p0) (fun x1 => Option.bind x1 (fun a2 => Option.bind (F_X7_at N S a2 p1) (fun v3 => onl v3 (some ((-1 : Int32), S)) (fun a5 => bnd (gFR S 242 a5) (fun x6 => Option.bind x6 (fun a7 => Option.bind (F_X1_length N S a7) (fun v8 => Option.bind (F_X8_isBelow N S p2 v8) (fun v10 => (if v10 = 0 then some ((-1 : Int32), S) else bnd (gFR S 242 a5) (fun x12 => Option.bind x12 (fun a13 => Option.bind (F_X1_dropAt N S a13 p2) (fun S15 => bnd (gFR S15 242 a5) (fun x16 => Option.bind x16 (fun a17 => Option.bind (F_X1_length N S15 a17) (fun v18 => some (v18, S15))))))))))))))))
set_option maxHeartbeats 4000000 in
theorem jF_X8_unuse {X : jX} (C : jC X cX8_unuse 4 RX8 rm_X8_unuse) {Λ : sLay} {S : sSt} {r : (Int32 × sSt)} (E : jE X (some .int) rI Λ r) (p0 : Nat) (tp0 : isK Λ 8 p0) (p1 : Int32) (p2 : Int32) : J X 4 0 0 0 [(0, vR (some p0)), (1, vI p1), (2, vI p2)] [] Λ S (F_X8_unuse Λ.2.2 S p0 p1 p2 = some r) := by
  unfold F_X8_unuse
  refine j_aload_n C dX8_unuse_0 0 rfl ?_
  refine j_getR C kK8 f320 kfX8_12 (by decide) rfl tp0 dX8_unuse_1 (fun x1 tx1 => ?_)
  refine j_iload_n C dX8_unuse_4 1 rfl ?_
  refine j_oc tx1 (fun a2 ta2 ea2 => ?_)
  subst ea2
  refine j_cVRP C [vI p1] [] (fun _ e => c_X7_at a2 ta2 p1 e) kYX7_at kVX7_at kmX8_50 kO7 ta2 rfl rfl ⟨rfl, rfl, by decide, by decide⟩ (Nat.le_of_ble_eq_true rfl) ⟨Nat.zero_le _, Nat.zero_le _⟩ dX8_unuse_5 (fun v3 tv3 => ?_)
  refine j_astore_n C (L' := [(3, vR v3), (0, vR (some p0)), (1, vI p1), (2, vI p2)]) dX8_unuse_8 (by decide) rfl ?_
  refine j_aload_n C dX8_unuse_9 0 rfl ?_
  refine j_ifnull C (tgt := 27) tv3 dX8_unuse_10 (by decide) (fun ea5 => ?_) (fun a5 ta5 ea5 => ?_)
  · subst ea5
    refine j_iconst C (v := (-1 : Int32)) dX8_unuse_27 (by decide) ?_
    exact j_iret C E dX8_unuse_28
  · subst ea5
    refine j_iload_n C dX8_unuse_13 3 rfl ?_
    refine j_aload_n C dX8_unuse_14 0 rfl ?_
    refine j_getR C kK6 f242 kfX8_106 (by decide) rfl ta5 dX8_unuse_15 (fun x6 tx6 => ?_)
    refine j_oc tx6 (fun a7 ta7 ea7 => ?_)
    subst ea7
    refine j_cVIP C [] [vI p2] (fun _ e => c_X1_length a7 ta7 e) kYX1_length kVX1_length kmX8_99 kO1 ta7 rfl rfl ⟨rfl, rfl, by decide, by decide⟩ (Nat.le_of_ble_eq_true rfl) ⟨Nat.zero_le _, Nat.zero_le _⟩ dX8_unuse_18 (fun v8 => ?_)
    refine j_cSIP C [vI p2, vI v8] [] (fun _ e => c_X8_isBelow p2 v8 e) kYX8_isBelow kSX8_isBelow kmX8_54 rfl rfl ⟨rfl, rfl, by decide, by decide⟩ (Nat.le_of_ble_eq_true rfl) ⟨Nat.zero_le _, Nat.zero_le _⟩ dX8_unuse_21 (fun v10 => ?_)
    refine j_if_ne C (tgt := 29) dX8_unuse_24 (by decide) ?_ ?_
    · refine j_aload_n C dX8_unuse_29 0 rfl ?_
      refine j_getR C kK6 f242 kfX8_106 (by decide) rfl ta5 dX8_unuse_30 (fun x12 tx12 => ?_)
      refine j_iload_n C dX8_unuse_33 3 rfl ?_
      refine j_oc tx12 (fun a13 ta13 ea13 => ?_)
      subst ea13
      refine j_cVVV C [vI p2] [] (fun _ e => c_X1_dropAt a13 ta13 p2 e) kYX1_dropAt kVX1_dropAt kmX8_109 kO1 ta13 rfl rfl ⟨rfl, rfl, by decide, by decide⟩ (Nat.le_of_ble_eq_true rfl) ⟨Nat.zero_le _, Nat.zero_le _⟩ dX8_unuse_34 (fun S15 => ?_)
      refine j_aload_n C dX8_unuse_37 0 rfl ?_
      refine j_getR C kK6 f242 kfX8_106 (by decide) rfl ta5 dX8_unuse_38 (fun x16 tx16 => ?_)
      refine j_oc tx16 (fun a17 ta17 ea17 => ?_)
      subst ea17
      refine j_cVIP C [] [] (fun _ e => c_X1_length a17 ta17 e) kYX1_length kVX1_length kmX8_99 kO1 ta17 rfl rfl ⟨rfl, rfl, by decide, by decide⟩ (Nat.le_of_ble_eq_true rfl) ⟨Nat.zero_le _, Nat.zero_le _⟩ dX8_unuse_41 (fun v18 => ?_)
      exact j_iret C E dX8_unuse_44
    · refine j_iconst C (v := (-1 : Int32)) dX8_unuse_27 (by decide) ?_
      exact j_iret C E dX8_unuse_28
theorem c_X8_unuse {l : Launch} {D : va_G} {cy : Nat → ClassId} {Λ : sLay} {S : sSt} (p0 : Nat) (tp0 : isK Λ 8 p0) (p1 : Int32) (p2 : Int32) {v : Int32} {S1 : sSt} (h : F_X8_unuse Λ.2.2 S p0 p1 p2 = some (v, S1)) : jM l yX8_unuse (Cond.code yX8_unuse cX8_unuse 4 (some .int) :: bigW) rm_X8_unuse D cy Λ S [vR (some p0), vI p1, vI p2] rI (v, S1) := jM_of (by decide +kernel) (Nat.le_of_ble_eq_true rfl) (fun X C E _ _ _ => j_sub [0, 1, 2] rfl (jF_X8_unuse C E p0 tp0 p1 p2)) h
/-! RemakeNeeds2.unway(I)I -/
abbrev rm_X8_unway : Room := { frames := 1, cells := 0, slots := 0, locals := 22 }
def F_X8_unway (N : Nat → Nat) (S : sSt) (p0 : Nat) (p1 : Int32) : Option (Int32 × sSt) := bnd (gFR S 320 p0) (fun x1 => Option.bind x1 (fun a2 => Option.bind (F_X7_at N S a2 p1) (fun v3 => onl v3 (some ((-1 : Int32), S)) (fun a5 => bnd (gFR S 241 a5) (fun x6 => Option.bind x6 (fun a7 => Option.bind (F_X1_length N S a7) (fun v8 => bnd (gFR S 241 a5) (fun x10 => Option.bind x10 (fun a11 => Option.bind (F_X1_empty N S a11) (fun S13 => some (v8, S13)))))))))))
set_option maxHeartbeats 4000000 in
theorem jF_X8_unway {X : jX} (C : jC X cX8_unway 4 RX8 rm_X8_unway) {Λ : sLay} {S : sSt} {r : (Int32 × sSt)} (E : jE X (some .int) rI Λ r) (p0 : Nat) (tp0 : isK Λ 8 p0) (p1 : Int32) : J X 4 0 0 0 [(0, vR (some p0)), (1, vI p1)] [] Λ S (F_X8_unway Λ.2.2 S p0 p1 = some r) := by
  unfold F_X8_unway
  refine j_aload_n C dX8_unway_0 0 rfl ?_
  refine j_getR C kK8 f320 kfX8_12 (by decide) rfl tp0 dX8_unway_1 (fun x1 tx1 => ?_)
  refine j_iload_n C dX8_unway_4 1 rfl ?_
  refine j_oc tx1 (fun a2 ta2 ea2 => ?_)
  subst ea2
  refine j_cVRP C [vI p1] [] (fun _ e => c_X7_at a2 ta2 p1 e) kYX7_at kVX7_at kmX8_50 kO7 ta2 rfl rfl ⟨rfl, rfl, by decide, by decide⟩ (Nat.le_of_ble_eq_true rfl) ⟨Nat.zero_le _, Nat.zero_le _⟩ dX8_unway_5 (fun v3 tv3 => ?_)
  refine j_astore_n C (L' := [(2, vR v3), (0, vR (some p0)), (1, vI p1)]) dX8_unway_8 (by decide) rfl ?_
  refine j_aload_n C dX8_unway_9 0 rfl ?_
  refine j_ifnonnull C (tgt := 15) tv3 dX8_unway_10 (by decide) (fun ea5 => ?_) (fun a5 ta5 ea5 => ?_)
  · subst ea5
    refine j_iconst C (v := (-1 : Int32)) dX8_unway_13 (by decide) ?_
    exact j_iret C E dX8_unway_14
  · subst ea5
    refine j_aload_n C dX8_unway_15 0 rfl ?_
    refine j_getR C kK6 f241 kfX8_91 (by decide) rfl ta5 dX8_unway_16 (fun x6 tx6 => ?_)
    refine j_oc tx6 (fun a7 ta7 ea7 => ?_)
    subst ea7
    refine j_cVIP C [] [] (fun _ e => c_X1_length a7 ta7 e) kYX1_length kVX1_length kmX8_99 kO1 ta7 rfl rfl ⟨rfl, rfl, by decide, by decide⟩ (Nat.le_of_ble_eq_true rfl) ⟨Nat.zero_le _, Nat.zero_le _⟩ dX8_unway_19 (fun v8 => ?_)
    refine j_istore_n C (L' := [(3, vI v8), (2, vR (some a5)), (0, vR (some p0)), (1, vI p1)]) dX8_unway_22 (by decide) rfl ?_
    refine j_aload_n C dX8_unway_23 1 rfl ?_
    refine j_getR C kK6 f241 kfX8_91 (by decide) rfl ta5 dX8_unway_24 (fun x10 tx10 => ?_)
    refine j_oc tx10 (fun a11 ta11 ea11 => ?_)
    subst ea11
    refine j_cVVV C [] [] (fun _ e => c_X1_empty a11 ta11 e) kYX1_empty kVX1_empty kmX8_103 kO1 ta11 rfl rfl ⟨rfl, rfl, by decide, by decide⟩ (Nat.le_of_ble_eq_true rfl) ⟨Nat.zero_le _, Nat.zero_le _⟩ dX8_unway_27 (fun S13 => ?_)
    refine j_iload_n C dX8_unway_30 0 rfl ?_
    exact j_iret C E dX8_unway_31
theorem c_X8_unway {l : Launch} {D : va_G} {cy : Nat → ClassId} {Λ : sLay} {S : sSt} (p0 : Nat) (tp0 : isK Λ 8 p0) (p1 : Int32) {v : Int32} {S1 : sSt} (h : F_X8_unway Λ.2.2 S p0 p1 = some (v, S1)) : jM l yX8_unway (Cond.code yX8_unway cX8_unway 4 (some .int) :: bigW) rm_X8_unway D cy Λ S [vR (some p0), vI p1] rI (v, S1) := jM_of (by decide +kernel) (Nat.le_of_ble_eq_true rfl) (fun X C E _ _ _ => j_sub [0, 1] rfl (jF_X8_unway C E p0 tp0 p1)) h
/-! RemakeNeeds2.use(III)I -/
abbrev rm_X8_use : Room := { frames := 2, cells := 0, slots := 0, locals := 42 }
def B_X8_use_26 (N : Nat → Nat) (S : sSt) (p2 : Int32) (p3 : Int32) (p4 : Nat) : Option (Int32 × sSt) := Option.bind (F_X8_isBelow N S p3 (32 : Int32)) (fun v6 => (if v6 = 0 then some ((-2 : Int32), S) else Option.bind (F_X8_keyOf N S p2 p3) (fun v8 => bnd (gFR S 242 p4) (fun x10 => Option.bind x10 (fun a11 => Option.bind (F_X1_has N S a11 v8) (fun v12 => (if v12 = 0 then bnd (gFR S 242 p4) (fun x14 => obd (F_X8_appendTo N S x14 v8) (fun v15 S16 => some (v15, S16))) else some ((-3 : Int32), S))))))))
set_option maxHeartbeats 4000000 in
theorem jB_X8_use_26 {X : jX} (C : jC X cX8_use 6 RX8 rm_X8_use) {Λ : sLay} {r : (Int32 × sSt)} (E : jE X (some .int) rI Λ r) : ∀ (S : sSt) (p2 : Int32) (p3 : Int32) (p4 : Nat) (tp4 : isK Λ 6 p4), J X 6 0 0 26 [(2, vI p2), (3, vI p3), (4, vR (some p4))] [] Λ S (B_X8_use_26 Λ.2.2 S p2 p3 p4 = some r) := by
  intro S p2 p3 p4 tp4
  unfold B_X8_use_26
  refine j_iload_n C dX8_use_26 1 rfl ?_
  refine j_bipush C (v := (32 : Int32)) dX8_use_27 (by decide) ?_
  refine j_cSIP C [vI p3, vI (32 : Int32)] [] (fun _ e => c_X8_isBelow p3 (32 : Int32) e) kYX8_isBelow kSX8_isBelow kmX8_54 rfl rfl ⟨rfl, rfl, by decide, by decide⟩ (Nat.le_of_ble_eq_true rfl) ⟨Nat.zero_le _, Nat.zero_le _⟩ dX8_use_29 (fun v6 => ?_)
  refine j_if_ne C (tgt := 38) dX8_use_32 (by decide) ?_ ?_
  · refine j_iload_n C dX8_use_38 0 rfl ?_
    refine j_iload_n C dX8_use_39 1 rfl ?_
    refine j_cSIP C [vI p2, vI p3] [] (fun _ e => c_X8_keyOf p2 p3 e) kYX8_keyOf kSX8_keyOf kmX8_58 rfl rfl ⟨rfl, rfl, by decide, by decide⟩ (Nat.le_of_ble_eq_true rfl) ⟨Nat.zero_le _, Nat.zero_le _⟩ dX8_use_40 (fun v8 => ?_)
    refine j_istore C (L' := [(5, vI v8), (2, vI p2), (3, vI p3), (4, vR (some p4))]) dX8_use_43 (by decide) rfl ?_
    refine j_aload C dX8_use_45 3 rfl ?_
    refine j_getR C kK6 f242 kfX8_106 (by decide) rfl tp4 dX8_use_47 (fun x10 tx10 => ?_)
    refine j_iload C dX8_use_50 0 rfl ?_
    refine j_oc tx10 (fun a11 ta11 ea11 => ?_)
    subst ea11
    refine j_cVIP C [vI v8] [] (fun _ e => c_X1_has a11 ta11 v8 e) kYX1_has kVX1_has kmX8_94 kO1 ta11 rfl rfl ⟨rfl, rfl, by decide, by decide⟩ (Nat.le_of_ble_eq_true rfl) ⟨Nat.zero_le _, Nat.zero_le _⟩ dX8_use_52 (fun v12 => ?_)
    refine j_if_eq C (tgt := 61) dX8_use_55 (by decide) ?_ ?_
    · refine j_aload C dX8_use_61 3 rfl ?_
      refine j_getR C kK6 f242 kfX8_106 (by decide) rfl tp4 dX8_use_63 (fun x14 tx14 => ?_)
      refine j_iload C dX8_use_66 0 rfl ?_
      refine j_cSIG C [vR x14, vI v8] [] (fun _ _ e => c_X8_appendTo x14 tx14 v8 e) kYX8_appendTo kSX8_appendTo kmX8_87 rfl rfl ⟨rfl, rfl, by decide, by decide⟩ (Nat.le_of_ble_eq_true rfl) ⟨Nat.zero_le _, Nat.zero_le _⟩ dX8_use_68 (fun v15 S16 => ?_)
      exact j_iret C E dX8_use_71
    · refine j_bipush C (v := (-3 : Int32)) dX8_use_58 (by decide) ?_
      exact j_iret C E dX8_use_60
  · refine j_bipush C (v := (-2 : Int32)) dX8_use_35 (by decide) ?_
    exact j_iret C E dX8_use_37
def F_X8_use (N : Nat → Nat) (S : sSt) (p0 : Nat) (p1 : Int32) (p2 : Int32) (p3 : Int32) : Option (Int32 × sSt) := bnd (gFR S 320 p0) (fun x1 => Option.bind x1 (fun a2 => Option.bind (F_X7_at N S a2 p1) (fun v3 => onl v3 (some ((-1 : Int32), S)) (fun a5 => (if p2 = 0 then B_X8_use_26 N S p2 p3 a5 else (if p2 = (1 : Int32) then B_X8_use_26 N S p2 p3 a5 else some ((-2 : Int32), S)))))))
set_option maxHeartbeats 4000000 in
theorem jF_X8_use {X : jX} (C : jC X cX8_use 6 RX8 rm_X8_use) {Λ : sLay} {S : sSt} {r : (Int32 × sSt)} (E : jE X (some .int) rI Λ r) (p0 : Nat) (tp0 : isK Λ 8 p0) (p1 : Int32) (p2 : Int32) (p3 : Int32) : J X 6 0 0 0 [(0, vR (some p0)), (1, vI p1), (2, vI p2), (3, vI p3)] [] Λ S (F_X8_use Λ.2.2 S p0 p1 p2 p3 = some r) := by
  unfold F_X8_use
  refine j_aload_n C dX8_use_0 0 rfl ?_
  refine j_getR C kK8 f320 kfX8_12 (by decide) rfl tp0 dX8_use_1 (fun x1 tx1 => ?_)
  refine j_iload_n C dX8_use_4 1 rfl ?_
  refine j_oc tx1 (fun a2 ta2 ea2 => ?_)
  subst ea2
  refine j_cVRP C [vI p1] [] (fun _ e => c_X7_at a2 ta2 p1 e) kYX7_at kVX7_at kmX8_50 kO7 ta2 rfl rfl ⟨rfl, rfl, by decide, by decide⟩ (Nat.le_of_ble_eq_true rfl) ⟨Nat.zero_le _, Nat.zero_le _⟩ dX8_use_5 (fun v3 tv3 => ?_)
  refine j_astore C (L' := [(4, vR v3), (0, vR (some p0)), (1, vI p1), (2, vI p2), (3, vI p3)]) dX8_use_8 (by decide) rfl ?_
  refine j_aload C dX8_use_10 0 rfl ?_
  refine j_ifnonnull C (tgt := 17) tv3 dX8_use_12 (by decide) (fun ea5 => ?_) (fun a5 ta5 ea5 => ?_)
  · subst ea5
    refine j_iconst C (v := (-1 : Int32)) dX8_use_15 (by decide) ?_
    exact j_iret C E dX8_use_16
  · subst ea5
    refine j_iload_n C dX8_use_17 3 rfl ?_
    refine j_if_eq C (tgt := 26) dX8_use_18 (by decide) ?_ ?_
    · refine j_sub (L' := [(2, vI p2), (3, vI p3), (4, vR (some a5))]) [3, 4, 0] rfl ?_
      exact jB_X8_use_26 C E S p2 p3 a5 ta5
    · refine j_iload_n C dX8_use_21 3 rfl ?_
      refine j_iconst C (v := (1 : Int32)) dX8_use_22 (by decide) ?_
      refine j_icmp_ne C (tgt := 35) dX8_use_23 (by decide) ?_ ?_
      · refine j_bipush C (v := (-2 : Int32)) dX8_use_35 (by decide) ?_
        exact j_iret C E dX8_use_37
      · refine j_sub (L' := [(2, vI p2), (3, vI p3), (4, vR (some a5))]) [3, 4, 0] rfl ?_
        exact jB_X8_use_26 C E S p2 p3 a5 ta5
theorem c_X8_use {l : Launch} {D : va_G} {cy : Nat → ClassId} {Λ : sLay} {S : sSt} (p0 : Nat) (tp0 : isK Λ 8 p0) (p1 : Int32) (p2 : Int32) (p3 : Int32) {v : Int32} {S1 : sSt} (h : F_X8_use Λ.2.2 S p0 p1 p2 p3 = some (v, S1)) : jM l yX8_use (Cond.code yX8_use cX8_use 6 (some .int) :: bigW) rm_X8_use D cy Λ S [vR (some p0), vI p1, vI p2, vI p3] rI (v, S1) := jM_of (by decide +kernel) (Nat.le_of_ble_eq_true rfl) (fun X C E _ _ _ => j_sub [0, 1, 2, 3] rfl (jF_X8_use C E p0 tp0 p1 p2 p3)) h
/-! RemakeNeeds2.value(II)J -/
abbrev rm_X8_value : Room := { frames := 5, cells := 0, slots := 0, locals := 121 }
def F_X8_value (N : Nat → Nat) (S : sSt) (p0 : Nat) (p1 : Int32) (p2 : Int32) : Option (Int64 × sSt) := Option.bind (F_X8_constantOf N S p0 p1 p2) (fun v1 => onl v1 (some ((0 : Int64), S)) (fun a3 => bnd (gFR S 321 p0) (fun x4 => bnd (gFR S 320 p0) (fun x5 => Option.bind x4 (fun a6 => Option.bind (F_X0_settleAll N S a6 x5) (fun S8 => some ((gFJ S8 206 a3), S8)))))))
set_option maxHeartbeats 4000000 in
theorem jF_X8_value {X : jX} (C : jC X cX8_value 4 RX8 rm_X8_value) {Λ : sLay} {S : sSt} {r : (Int64 × sSt)} (E : jE X (some .long) rJ Λ r) (p0 : Nat) (tp0 : isK Λ 8 p0) (p1 : Int32) (p2 : Int32) : J X 4 0 0 0 [(0, vR (some p0)), (1, vI p1), (2, vI p2)] [] Λ S (F_X8_value Λ.2.2 S p0 p1 p2 = some r) := by
  unfold F_X8_value
  refine j_aload_n C dX8_value_0 0 rfl ?_
  refine j_iload_n C dX8_value_1 1 rfl ?_
  refine j_iload_n C dX8_value_2 2 rfl ?_
  refine j_cVRP C [vI p1, vI p2] [] (fun _ e => c_X8_constantOf p0 tp0 p1 p2 e) kYX8_constantOf kVX8_constantOf kmX8_135 kO8 tp0 rfl rfl ⟨rfl, rfl, by decide, by decide⟩ (Nat.le_of_ble_eq_true rfl) ⟨Nat.zero_le _, Nat.zero_le _⟩ dX8_value_3 (fun v1 tv1 => ?_)
  refine j_astore_n C (L' := [(3, vR v1), (0, vR (some p0)), (1, vI p1), (2, vI p2)]) dX8_value_6 (by decide) rfl ?_
  refine j_aload_n C dX8_value_7 0 rfl ?_
  refine j_ifnonnull C (tgt := 13) tv1 dX8_value_8 (by decide) (fun ea3 => ?_) (fun a3 ta3 ea3 => ?_)
  · subst ea3
    refine j_lconst C (v := (0 : Int64)) dX8_value_11 (by decide) ?_
    exact j_lret C E dX8_value_12
  · subst ea3
    refine j_aload_n C dX8_value_13 1 rfl ?_
    refine j_getR C kK8 f321 kfX8_19 (by decide) rfl tp0 dX8_value_14 (fun x4 tx4 => ?_)
    refine j_aload_n C dX8_value_17 1 rfl ?_
    refine j_getR C kK8 f320 kfX8_12 (by decide) rfl tp0 dX8_value_18 (fun x5 tx5 => ?_)
    refine j_oc tx4 (fun a6 ta6 ea6 => ?_)
    subst ea6
    refine j_cVVV C [vR x5] [] (fun _ e => c_X0_settleAll a6 ta6 x5 tx5 e) kYX0_settleAll kVX0_settleAll kmX8_139 kO0 ta6 rfl rfl ⟨rfl, rfl, by decide, by decide⟩ (Nat.le_of_ble_eq_true rfl) ⟨Nat.zero_le _, Nat.zero_le _⟩ dX8_value_21 (fun S8 => ?_)
    refine j_aload_n C dX8_value_24 0 rfl ?_
    refine j_getJ C kK5 f206 kfX8_143 (by decide) ta3 dX8_value_25 ?_
    exact j_lret C E dX8_value_28
theorem c_X8_value {l : Launch} {D : va_G} {cy : Nat → ClassId} {Λ : sLay} {S : sSt} (p0 : Nat) (tp0 : isK Λ 8 p0) (p1 : Int32) (p2 : Int32) {v : Int64} {S1 : sSt} (h : F_X8_value Λ.2.2 S p0 p1 p2 = some (v, S1)) : jM l yX8_value (Cond.code yX8_value cX8_value 4 (some .long) :: bigW) rm_X8_value D cy Λ S [vR (some p0), vI p1, vI p2] rJ (v, S1) := jM_of (by decide +kernel) (Nat.le_of_ble_eq_true rfl) (fun X C E _ _ _ => j_sub [0, 1, 2] rfl (jF_X8_value C E p0 tp0 p1 p2)) h
/-! RemakeNeeds2.way(II)I -/
abbrev rm_X8_way : Room := { frames := 2, cells := 0, slots := 0, locals := 42 }
def F_X8_way (N : Nat → Nat) (S : sSt) (p0 : Nat) (p1 : Int32) (p2 : Int32) : Option (Int32 × sSt) := bnd (gFR S 320 p0) (fun x1 => Option.bind x1 (fun a2 => Option.bind (F_X7_at N S a2 p1) (fun v3 => onl v3 (some ((-1 : Int32), S)) (fun a5 => bnd (gFR S 320 p0) (fun x6 => Option.bind x6 (fun a7 => Option.bind (F_X7_at N S a7 p2) (fun v8 => onl v8 (some ((-1 : Int32), S)) (fun a10 => (if p1 = p2 then some ((-3 : Int32), S) else bnd (gFR S 241 a5) (fun x11 => Option.bind x11 (fun a12 => Option.bind (F_X1_has N S a12 p2) (fun v13 => (if v13 = 0 then bnd (gFR S 241 a5) (fun x15 => obd (F_X8_appendTo N S x15 p2) (fun v16 S17 => some (v16, S17))) else some ((-3 : Int32), S))))))))))))))
set_option maxHeartbeats 4000000 in
theorem jF_X8_way {X : jX} (C : jC X cX8_way 4 RX8 rm_X8_way) {Λ : sLay} {S : sSt} {r : (Int32 × sSt)} (E : jE X (some .int) rI Λ r) (p0 : Nat) (tp0 : isK Λ 8 p0) (p1 : Int32) (p2 : Int32) : J X 4 0 0 0 [(0, vR (some p0)), (1, vI p1), (2, vI p2)] [] Λ S (F_X8_way Λ.2.2 S p0 p1 p2 = some r) := by
  unfold F_X8_way
  refine j_aload_n C dX8_way_0 0 rfl ?_
  refine j_getR C kK8 f320 kfX8_12 (by decide) rfl tp0 dX8_way_1 (fun x1 tx1 => ?_)
  refine j_iload_n C dX8_way_4 1 rfl ?_
  refine j_oc tx1 (fun a2 ta2 ea2 => ?_)
  subst ea2
  refine j_cVRP C [vI p1] [] (fun _ e => c_X7_at a2 ta2 p1 e) kYX7_at kVX7_at kmX8_50 kO7 ta2 rfl rfl ⟨rfl, rfl, by decide, by decide⟩ (Nat.le_of_ble_eq_true rfl) ⟨Nat.zero_le _, Nat.zero_le _⟩ dX8_way_5 (fun v3 tv3 => ?_)
  refine j_astore_n C (L' := [(3, vR v3), (0, vR (some p0)), (1, vI p1), (2, vI p2)]) dX8_way_8 (by decide) rfl ?_
  refine j_aload_n C dX8_way_9 0 rfl ?_
  refine j_ifnull C (tgt := 24) tv3 dX8_way_10 (by decide) (fun ea5 => ?_) (fun a5 ta5 ea5 => ?_)
  · subst ea5
    refine j_iconst C (v := (-1 : Int32)) dX8_way_24 (by decide) ?_
    exact j_iret C E dX8_way_25
  · subst ea5
    refine j_aload_n C dX8_way_13 1 rfl ?_
    refine j_getR C kK8 f320 kfX8_12 (by decide) rfl tp0 dX8_way_14 (fun x6 tx6 => ?_)
    refine j_iload_n C dX8_way_17 3 rfl ?_
    refine j_oc tx6 (fun a7 ta7 ea7 => ?_)
    subst ea7
    refine j_cVRP C [vI p2] [] (fun _ e => c_X7_at a7 ta7 p2 e) kYX7_at kVX7_at kmX8_50 kO7 ta7 rfl rfl ⟨rfl, rfl, by decide, by decide⟩ (Nat.le_of_ble_eq_true rfl) ⟨Nat.zero_le _, Nat.zero_le _⟩ dX8_way_18 (fun v8 tv8 => ?_)
    refine j_ifnonnull C (tgt := 26) tv8 dX8_way_21 (by decide) (fun ea10 => ?_) (fun a10 ta10 ea10 => ?_)
    · subst ea10
      refine j_iconst C (v := (-1 : Int32)) dX8_way_24 (by decide) ?_
      exact j_iret C E dX8_way_25
    · subst ea10
      refine j_iload_n C dX8_way_26 2 rfl ?_
      refine j_iload_n C dX8_way_27 3 rfl ?_
      refine j_icmp_eq C (tgt := 42) dX8_way_28 (by decide) ?_ ?_
      · refine j_bipush C (v := (-3 : Int32)) dX8_way_42 (by decide) ?_
        exact j_iret C E dX8_way_44
      · refine j_aload_n C dX8_way_31 0 rfl ?_
        refine j_getR C kK6 f241 kfX8_91 (by decide) rfl ta5 dX8_way_32 (fun x11 tx11 => ?_)
        refine j_iload_n C dX8_way_35 3 rfl ?_
        refine j_oc tx11 (fun a12 ta12 ea12 => ?_)
        subst ea12
        refine j_cVIP C [vI p2] [] (fun _ e => c_X1_has a12 ta12 p2 e) kYX1_has kVX1_has kmX8_94 kO1 ta12 rfl rfl ⟨rfl, rfl, by decide, by decide⟩ (Nat.le_of_ble_eq_true rfl) ⟨Nat.zero_le _, Nat.zero_le _⟩ dX8_way_36 (fun v13 => ?_)
        refine j_if_eq C (tgt := 45) dX8_way_39 (by decide) ?_ ?_
        · refine j_aload_n C dX8_way_45 0 rfl ?_
          refine j_getR C kK6 f241 kfX8_91 (by decide) rfl ta5 dX8_way_46 (fun x15 tx15 => ?_)
          refine j_iload_n C dX8_way_49 3 rfl ?_
          refine j_cSIG C [vR x15, vI p2] [] (fun _ _ e => c_X8_appendTo x15 tx15 p2 e) kYX8_appendTo kSX8_appendTo kmX8_87 rfl rfl ⟨rfl, rfl, by decide, by decide⟩ (Nat.le_of_ble_eq_true rfl) ⟨Nat.zero_le _, Nat.zero_le _⟩ dX8_way_50 (fun v16 S17 => ?_)
          exact j_iret C E dX8_way_53
        · refine j_bipush C (v := (-3 : Int32)) dX8_way_42 (by decide) ?_
          exact j_iret C E dX8_way_44
theorem c_X8_way {l : Launch} {D : va_G} {cy : Nat → ClassId} {Λ : sLay} {S : sSt} (p0 : Nat) (tp0 : isK Λ 8 p0) (p1 : Int32) (p2 : Int32) {v : Int32} {S1 : sSt} (h : F_X8_way Λ.2.2 S p0 p1 p2 = some (v, S1)) : jM l yX8_way (Cond.code yX8_way cX8_way 4 (some .int) :: bigW) rm_X8_way D cy Λ S [vR (some p0), vI p1, vI p2] rI (v, S1) := jM_of (by decide +kernel) (Nat.le_of_ble_eq_true rfl) (fun X C E _ _ _ => j_sub [0, 1, 2] rfl (jF_X8_way C E p0 tp0 p1 p2)) h
/-! RemakeNeeds2.why(I)I -/
abbrev rm_X8_why : Room := { frames := 6, cells := 0, slots := 0, locals := 142 }
def F_X8_why (N : Nat → Nat) (S : sSt) (p0 : Nat) (p1 : Int32) : Option (Int32 × sSt) := bnd (gFR S 320 p0) (fun x1 => Option.bind x1 (fun a2 => Option.bind (F_X7_at N S a2 p1) (fun v3 => onl v3 (some ((-1 : Int32), S)) (fun a5 => bnd (gFR S 321 p0) (fun x6 => bnd (gFR S 320 p0) (fun x7 => Option.bind x6 (fun a8 => Option.bind (F_X0_settleAll N S a8 x7) (fun S10 => bnd (gFR S10 322 p0) (fun x11 => bnd (gFR S10 320 p0) (fun x12 => Option.bind x11 (fun a13 => obd (F_X4_reasonFor N S10 a13 (some a5) x12) (fun v14 S15 => some (v14, S15)))))))))))))
set_option maxHeartbeats 4000000 in
theorem jF_X8_why {X : jX} (C : jC X cX8_why 3 RX8 rm_X8_why) {Λ : sLay} {S : sSt} {r : (Int32 × sSt)} (E : jE X (some .int) rI Λ r) (p0 : Nat) (tp0 : isK Λ 8 p0) (p1 : Int32) : J X 3 0 0 0 [(0, vR (some p0)), (1, vI p1)] [] Λ S (F_X8_why Λ.2.2 S p0 p1 = some r) := by
  unfold F_X8_why
  refine j_aload_n C dX8_why_0 0 rfl ?_
  refine j_getR C kK8 f320 kfX8_12 (by decide) rfl tp0 dX8_why_1 (fun x1 tx1 => ?_)
  refine j_iload_n C dX8_why_4 1 rfl ?_
  refine j_oc tx1 (fun a2 ta2 ea2 => ?_)
  subst ea2
  refine j_cVRP C [vI p1] [] (fun _ e => c_X7_at a2 ta2 p1 e) kYX7_at kVX7_at kmX8_50 kO7 ta2 rfl rfl ⟨rfl, rfl, by decide, by decide⟩ (Nat.le_of_ble_eq_true rfl) ⟨Nat.zero_le _, Nat.zero_le _⟩ dX8_why_5 (fun v3 tv3 => ?_)
  refine j_astore_n C (L' := [(2, vR v3), (0, vR (some p0)), (1, vI p1)]) dX8_why_8 (by decide) rfl ?_
  refine j_aload_n C dX8_why_9 0 rfl ?_
  refine j_ifnonnull C (tgt := 15) tv3 dX8_why_10 (by decide) (fun ea5 => ?_) (fun a5 ta5 ea5 => ?_)
  · subst ea5
    refine j_iconst C (v := (-1 : Int32)) dX8_why_13 (by decide) ?_
    exact j_iret C E dX8_why_14
  · subst ea5
    refine j_aload_n C dX8_why_15 1 rfl ?_
    refine j_getR C kK8 f321 kfX8_19 (by decide) rfl tp0 dX8_why_16 (fun x6 tx6 => ?_)
    refine j_aload_n C dX8_why_19 1 rfl ?_
    refine j_getR C kK8 f320 kfX8_12 (by decide) rfl tp0 dX8_why_20 (fun x7 tx7 => ?_)
    refine j_oc tx6 (fun a8 ta8 ea8 => ?_)
    subst ea8
    refine j_cVVV C [vR x7] [] (fun _ e => c_X0_settleAll a8 ta8 x7 tx7 e) kYX0_settleAll kVX0_settleAll kmX8_139 kO0 ta8 rfl rfl ⟨rfl, rfl, by decide, by decide⟩ (Nat.le_of_ble_eq_true rfl) ⟨Nat.zero_le _, Nat.zero_le _⟩ dX8_why_23 (fun S10 => ?_)
    refine j_aload_n C dX8_why_26 1 rfl ?_
    refine j_getR C kK8 f322 kfX8_26 (by decide) rfl tp0 dX8_why_27 (fun x11 tx11 => ?_)
    refine j_aload_n C dX8_why_30 0 rfl ?_
    refine j_aload_n C dX8_why_31 1 rfl ?_
    refine j_getR C kK8 f320 kfX8_12 (by decide) rfl tp0 dX8_why_32 (fun x12 tx12 => ?_)
    refine j_oc tx11 (fun a13 ta13 ea13 => ?_)
    subst ea13
    refine j_cVIG C [vR (some a5), vR x12] [] (fun _ _ e => c_X4_reasonFor a13 ta13 (some a5) (okS ta5) x12 tx12 e) kYX4_reasonFor kVX4_reasonFor kmX8_198 kO4 ta13 rfl rfl ⟨rfl, rfl, by decide, by decide⟩ (Nat.le_of_ble_eq_true rfl) ⟨Nat.zero_le _, Nat.zero_le _⟩ dX8_why_35 (fun v14 S15 => ?_)
    exact j_iret C E dX8_why_38
theorem c_X8_why {l : Launch} {D : va_G} {cy : Nat → ClassId} {Λ : sLay} {S : sSt} (p0 : Nat) (tp0 : isK Λ 8 p0) (p1 : Int32) {v : Int32} {S1 : sSt} (h : F_X8_why Λ.2.2 S p0 p1 = some (v, S1)) : jM l yX8_why (Cond.code yX8_why cX8_why 3 (some .int) :: bigW) rm_X8_why D cy Λ S [vR (some p0), vI p1] rI (v, S1) := jM_of (by decide +kernel) (Nat.le_of_ble_eq_true rfl) (fun X C E _ _ _ => j_sub [0, 1] rfl (jF_X8_why C E p0 tp0 p1)) h
