theorem kYX7_addOne : jY yX7_addOne cX7_addOne 2 (some (.object "RemakeNeeds2$Unit")) 0 := ⟨(big_mem 209 (by decide +kernel) (by decide +kernel)), (big_mem 40 (by decide +kernel) (by decide +kernel)), by decide +kernel⟩
theorem kVX7_addOne : jYv yX7_addOne := ⟨(big_mem 207 (by decide +kernel) (by decide +kernel)), (big_mem 208 (by decide +kernel) (by decide +kernel))⟩
theorem kYX8_unit : jY yX8_unit cX8_unit 2 (some .int) 0 := ⟨(big_mem 205 (by decide +kernel) (by decide +kernel)), (big_mem 39 (by decide +kernel) (by decide +kernel)), by decide +kernel⟩
theorem kVX8_unit : jYv yX8_unit := ⟨(big_mem 203 (by decide +kernel) (by decide +kernel)), (big_mem 204 (by decide +kernel) (by decide +kernel))⟩
/-- addOne: what is due of its answer and of what lies behind it -/
def P_X7_addOne (Λ : sLay) (S : sSt) (p0 : Nat) (Qf : Option Nat → sLay → sSt → Prop) : Prop :=
  (gFI S 281 p0 < 0 → Qf none Λ S) ∧ (¬ gFI S 281 p0 < 0 → ∃ t, gFR S 280 p0 = some t ∧ (¬ gFI S 281 p0 < nI (Λ.2.2 t) → Qf none Λ S) ∧ (gFI S 281 p0 < nI (Λ.2.2 t) → vp_in (gFI S 281 p0) (Λ.2.2 t) ∧
    (∀ u, gAR S t (gFI S 281 p0).toNatClampNeg = some u → ∃ S1, F_X6_start Λ.2.2 S u = some S1 ∧ Qf (some u) Λ (sFI S1 281 p0 (gFI S1 281 p0 + 1))) ∧
    (gAR S t (gFI S 281 p0).toNatClampNeg = none → ∀ q, q ∉ Λ.1 → ∀ Λ2 S2, R_X6_init (lNew Λ q 6 0) (sNew S q) q (gFI (sNew S q) 281 p0) Λ2 S2 → ∃ t2, gFR S2 280 p0 = some t2 ∧ vp_in (gFI S2 281 p0) (Λ2.2.2 t2) ∧ ∃ S3, F_X6_start Λ2.2.2 (sAR S2 t2 (gFI S2 281 p0).toNatClampNeg (some q)) q = some S3 ∧ Qf (some q) Λ2 (sFI S3 281 p0 (gFI S3 281 p0 + 1)))))
abbrev rm_X7_addOne : Room := { frames := 4, cells := 40, slots := 923, locals := 95 }
abbrev rm_X8_unit : Room := { frames := 5, cells := 40, slots := 923, locals := 116 }
set_option maxHeartbeats 4000000 in
theorem j57_X7_addOne {X : jX} (C : jC X cX7_addOne 2 RX7 rm_X7_addOne) {Λ0 : sLay} {Qf : Option Nat → sLay → sSt → Prop} (E : jEa X (some (.object "RemakeNeeds2$Unit")) (rR 6) Λ0 Qf 40 923) {k n : Nat} (hc : k ≤ 40 ∧ n ≤ 923) (p0 u : Nat) {Λ : sLay} {S : sSt} (x : lExt Λ0 Λ) (tp : isK Λ 7 p0) (tu : isK Λ 6 u) (h : ∃ S1, F_X6_start Λ.2.2 S u = some S1 ∧ Qf (some u) Λ (sFI S1 281 p0 (gFI S1 281 p0 + 1))) : J X 2 k n 57 [(1, vR (some u)), (0, vR (some p0))] [] Λ S True := by
  obtain ⟨S1, e1, hq⟩ := h
  refine j_aload_n C dX7_addOne_57 0 rfl ?_
  refine jb_callV (As := []) (rest := []) C rV_ok (c_X6_start u tu e1) kYX6_start kVX6_start (big_mem 326 (by decide +kernel) (by decide +kernel)) kO6 tu rfl rfl ⟨rfl, rfl, by decide, by decide⟩ (Nat.le_of_ble_eq_true rfl) hc dX7_addOne_58 (fun _ => ?_)
  show J X 2 k n _ _ [] Λ S1 True
  refine j_aload_n C dX7_addOne_61 1 rfl ?_
  refine j_dup C dX7_addOne_62 rfl ?_
  refine j_getI C kK7 f281 (big_mem 75 (by decide +kernel) (by decide +kernel)) (by decide) tp dX7_addOne_63 ?_
  refine j_iconst C (v := (1 : Int32)) dX7_addOne_66 (by decide) ?_
  refine j_iadd C dX7_addOne_67 ?_
  refine jb_putI C kK7 f281 (big_mem 75 (by decide +kernel) (by decide +kernel)) (by decide) rfl (fun _ => rfl) (fun _ => rfl) tp dX7_addOne_68 (fun h => h) ?_
  refine j_aload_n C dX7_addOne_71 0 rfl ?_
  exact ja_aret C E x hq (okS tu) hc dX7_addOne_72
set_option maxHeartbeats 4000000 in
theorem c_X7_addOne {l : Launch} {D : va_G} {cy : Nat → ClassId} {Λ : sLay} {S : sSt} (p0 : Nat) (tp0 : isK Λ 7 p0) {Qf : Option Nat → sLay → sSt → Prop} (h : P_X7_addOne Λ S p0 Qf) : jMa l yX7_addOne (Cond.code yX7_addOne cX7_addOne 2 (some (.object "RemakeNeeds2$Unit")) :: bigW) rm_X7_addOne D cy Λ S [vR (some p0)] (rR 6) Qf 40 923 := by
  refine jMa_of (by decide +kernel) (Nat.le_of_ble_eq_true rfl) (fun X C E hin => ?_)
  refine j_sub [0] (L' := [(0, vR (some p0))]) rfl ?_
  have C' : jC X cX7_addOne 2 RX7 rm_X7_addOne := C
  have hret : ∀ k n, k ≤ 40 ∧ n ≤ 923 → Qf none Λ S → J X 2 k n 19 [(0, vR (some p0))] [] Λ S True := fun k n hc hq => by
    refine j_null C dX7_addOne_19 ?_
    exact ja_aret C E lExt.rf hq okN hc dX7_addOne_20
  refine j_aload_n C dX7_addOne_0 0 rfl ?_
  refine j_getI C kK7 f281 (big_mem 75 (by decide +kernel) (by decide +kernel)) (by decide) tp0 dX7_addOne_1 ?_
  refine jb_if_lt C (tgt := 19) (φ1 := True) (φ2 := True) dX7_addOne_4 (by decide) (fun _ _ => trivial) (fun _ _ => trivial) (fun c => ?_) (fun c => ?_)
  · exact hret _ _ ⟨Nat.zero_le _, Nat.zero_le _⟩ (h.1 c)
  obtain ⟨t, ht, h2, h3⟩ := h.2 c
  refine j_aload_n C dX7_addOne_7 0 rfl ?_
  refine j_getI C kK7 f281 (big_mem 75 (by decide +kernel) (by decide +kernel)) (by decide) tp0 dX7_addOne_8 ?_
  refine j_aload_n C dX7_addOne_11 0 rfl ?_
  refine jb_getR C kK7 f280 (big_mem 74 (by decide +kernel) (by decide +kernel)) (by decide) tp0 dX7_addOne_12 (fun ho => ?_)
  rw [ht] at ho ⊢
  have tt : isK Λ 14 t := ho t rfl
  refine j_alen C tt (by decide) dX7_addOne_15 ?_
  refine jb_icmp_lt C (tgt := 21) (φ1 := True) (φ2 := True) dX7_addOne_16 (by decide) (fun _ _ => trivial) (fun _ _ => trivial) (fun c2 => ?_) (fun c2 => ?_)
  rotate_left
  · exact hret _ _ ⟨Nat.zero_le _, Nat.zero_le _⟩ (h2 c2)
  obtain ⟨hin2, hold, hnew⟩ := h3 c2
  refine j_aload_n C dX7_addOne_21 0 rfl ?_
  refine jb_getR C kK7 f280 (big_mem 74 (by decide +kernel) (by decide +kernel)) (by decide) tp0 dX7_addOne_22 (fun _ => ?_)
  rw [ht]
  refine j_aload_n C dX7_addOne_25 0 rfl ?_
  refine j_getI C kK7 f281 (big_mem 75 (by decide +kernel) (by decide +kernel)) (by decide) tp0 dX7_addOne_26 ?_
  refine jb_aald C tt (by decide) (fun _ => hin2) dX7_addOne_29 (fun ho2 => ?_)
  cases hx : gAR S t (gFI S 281 p0).toNatClampNeg with
  | some u =>
    rw [hx] at ho2
    refine j_astore_n C (L' := [(1, vR (some u)), (0, vR (some p0))]) dX7_addOne_30 (by decide) rfl ?_
    refine j_aload_n C dX7_addOne_31 0 rfl ?_
    refine j_ifnonnullS C (tgt := 57) dX7_addOne_32 (by decide) ?_
    exact j57_X7_addOne C' E ⟨Nat.zero_le _, Nat.zero_le _⟩ p0 u lExt.rf tp0 (ho2 u rfl) (hold u hx)
  | none =>
    refine j_astore_n C (L' := [(1, vR none), (0, vR (some p0))]) dX7_addOne_30 (by decide) rfl ?_
    refine j_aload_n C dX7_addOne_31 0 rfl ?_
    refine jb_ifnonnull C (q := 6) (x := none) (tgt := 57) okN dX7_addOne_32 (by decide) (fun _ => ?_) (fun a _ e => by cases e)
    refine jb_new C kK6 (big_mem 72 (by decide +kernel) (by decide +kernel)) (big_mem 210 (by decide +kernel) (by decide +kernel)) (big_mem 48 (by decide +kernel) (by decide +kernel)) jD6 ⟨Nat.le_of_ble_eq_true rfl, Nat.le_of_ble_eq_true rfl⟩ dX7_addOne_35 (fun q hq => ?_)
    have e1 : lExt Λ (lNew Λ q 6 0) := lExt.new hq
    refine j_dup C dX7_addOne_38 rfl ?_
    refine j_aload_n C dX7_addOne_39 1 rfl ?_
    refine j_getI C kK7 f281 (big_mem 75 (by decide +kernel) (by decide +kernel)) (by decide) (isK.ext e1 tp0) dX7_addOne_40 ?_
    refine ja_callI C [vI (gFI (sNew S q) 281 p0)] [vR (some q)] rV_ok (c_X6_init q isK.mk (gFI (sNew S q) 281 p0)) kYX6_init (big_mem 212 (by decide +kernel) (by decide +kernel)) (big_mem 211 (by decide +kernel) (by decide +kernel)) rfl rfl rfl ⟨rfl, rfl, Nat.le_of_ble_eq_true rfl, Nat.le_of_ble_eq_true rfl⟩ (Nat.le_of_ble_eq_true rfl) ⟨Nat.le_of_ble_eq_true rfl, Nat.le_of_ble_eq_true rfl⟩ dX7_addOne_43 (fun _ Λ2 S2 r2 e2 _ => ?_)
    have e3 := lExt.tr e1 e2
    obtain ⟨t2, ht2, hi2, h5⟩ := hnew hx q hq Λ2 S2 r2
    have tp2 := isK.ext e3 tp0
    have tq2 : isK Λ2 6 q := isK.ext e2 isK.mk
    refine j_astore_n C (L' := [(1, vR (some q)), (0, vR (some p0))]) dX7_addOne_46 (by decide) rfl ?_
    refine j_aload_n C dX7_addOne_47 1 rfl ?_
    refine jb_getR C kK7 f280 (big_mem 74 (by decide +kernel) (by decide +kernel)) (by decide) tp2 dX7_addOne_48 (fun ho3 => ?_)
    rw [ht2] at ho3 ⊢
    have tt2 : isK Λ2 14 t2 := ho3 t2 rfl
    refine j_aload_n C dX7_addOne_51 1 rfl ?_
    refine j_getI C kK7 f281 (big_mem 75 (by decide +kernel) (by decide +kernel)) (by decide) tp2 dX7_addOne_52 ?_
    refine j_aload_n C dX7_addOne_55 0 rfl ?_
    refine jb_aast C 14 tt2 (by decide) tq2 (fun _ => hi2) dX7_addOne_56 ?_
    exact j57_X7_addOne C' E ⟨Nat.le_of_ble_eq_true rfl, Nat.le_of_ble_eq_true rfl⟩ p0 q e3 tp2 tq2 h5
def P_X8_unit (Λ : sLay) (S : sSt) (p0 : Nat) (Qf : Int32 → sLay → sSt → Prop) : Prop := ∃ us, gFR S 320 p0 = some us ∧ P_X7_addOne Λ S us (fun v Λ1 S1 => (v = none → Qf (-4) Λ1 S1) ∧ ∀ u, v = some u → Qf (gFI S1 240 u) Λ1 S1)
set_option maxHeartbeats 4000000 in
theorem c_X8_unit {l : Launch} {D : va_G} {cy : Nat → ClassId} {Λ : sLay} {S : sSt} (p0 : Nat) (tp0 : isK Λ 8 p0) {Qf : Int32 → sLay → sSt → Prop} (h : P_X8_unit Λ S p0 Qf) : jMa l yX8_unit (Cond.code yX8_unit cX8_unit 2 (some .int) :: bigW) rm_X8_unit D cy Λ S [vR (some p0)] rI Qf 40 923 := by
  refine jMa_of (by decide +kernel) (Nat.le_of_ble_eq_true rfl) (fun X C E hin => ?_)
  refine j_sub [0] (L' := [(0, vR (some p0))]) rfl ?_
  obtain ⟨us, hus, hP⟩ := h
  refine j_aload_n C dX8_unit_0 0 rfl ?_
  refine jb_getR C kK8 f320 (big_mem 186 (by decide +kernel) (by decide +kernel)) (by decide) tp0 dX8_unit_1 (fun ho => ?_)
  rw [hus] at ho ⊢
  have tus : isK Λ 7 us := ho us rfl
  refine ja_callV C [] [] (rR_ok 6) (c_X7_addOne us tus hP) kYX7_addOne kVX7_addOne (big_mem 206 (by decide +kernel) (by decide +kernel)) kO7 tus rfl rfl ⟨rfl, rfl, Nat.le_of_ble_eq_true rfl, Nat.le_of_ble_eq_true rfl⟩ (Nat.le_of_ble_eq_true rfl) ⟨Nat.le_of_ble_eq_true rfl, Nat.le_of_ble_eq_true rfl⟩ dX8_unit_4 (fun v Λ1 S1 hq e1 hv => ?_)
  show J X 2 (0 + 40) (0 + 923) _ _ [vR v] Λ1 S1 True
  cases v with
  | none =>
    refine j_astore_n C (L' := [(1, vR none), (0, vR (some p0))]) dX8_unit_7 (by decide) rfl ?_
    refine j_aload_n C dX8_unit_8 0 rfl ?_
    refine jb_ifnonnull C (q := 6) (x := none) (tgt := 17) okN dX8_unit_9 (by decide) (fun _ => ?_) (fun a _ e => by cases e)
    refine j_bipush C (v := (-4 : Int32)) dX8_unit_12 (by decide) ?_
    refine j_goto C (tgt := 21) dX8_unit_14 (by decide) ?_
    exact ja_iret C E e1 (hq.1 rfl) ⟨Nat.le_of_ble_eq_true rfl, Nat.le_of_ble_eq_true rfl⟩ dX8_unit_21
  | some u =>
    refine j_astore_n C (L' := [(1, vR (some u)), (0, vR (some p0))]) dX8_unit_7 (by decide) rfl ?_
    refine j_aload_n C dX8_unit_8 0 rfl ?_
    refine j_ifnonnullS C (tgt := 17) dX8_unit_9 (by decide) ?_
    refine j_aload_n C dX8_unit_17 0 rfl ?_
    refine j_getI C kK6 f240 (big_mem 277 (by decide +kernel) (by decide +kernel)) (by decide) (hv u rfl) dX8_unit_18 ?_
    exact ja_iret C E e1 (hq.2 u rfl) ⟨Nat.le_of_ble_eq_true rfl, Nat.le_of_ble_eq_true rfl⟩ dX8_unit_21
