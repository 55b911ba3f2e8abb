theorem jD0 : jDef 0 4 tyX0 := fun cy Λ S q => ⟨_, ent_0 (va_up_self _ _ _), fun j hj => by
  have h5 : j = 0 ∨ j = 1 ∨ j = 2 ∨ j = 3 := (by omega)
  rcases h5 with rfl | rfl | rfl | rfl <;> simp [vp_V, tyX0, defaultValue, gFI_sNew, gFJ_sNew, gFR_sNew, va_rf]⟩
theorem jD1 : jDef 1 2 tyX1 := fun cy Λ S q => ⟨_, ent_1 (va_up_self _ _ _), fun j hj => by
  have h5 : j = 0 ∨ j = 1 := (by omega)
  rcases h5 with rfl | rfl <;> simp [vp_V, tyX1, defaultValue, gFI_sNew, gFJ_sNew, gFR_sNew, va_rf]⟩
theorem jD2 : jDef 2 5 tyX2 := fun cy Λ S q => ⟨_, ent_2 (va_up_self _ _ _), fun j hj => by
  have h5 : j = 0 ∨ j = 1 ∨ j = 2 ∨ j = 3 ∨ j = 4 := (by omega)
  rcases h5 with rfl | rfl | rfl | rfl | rfl <;> simp [vp_V, tyX2, defaultValue, gFI_sNew, gFJ_sNew, gFR_sNew, va_rf]⟩
theorem jD3 : jDef 3 6 tyX3 := fun cy Λ S q => ⟨_, ent_3 (va_up_self _ _ _), fun j hj => by
  have h5 : j = 0 ∨ j = 1 ∨ j = 2 ∨ j = 3 ∨ j = 4 ∨ j = 5 := (by omega)
  rcases h5 with rfl | rfl | rfl | rfl | rfl | rfl <;> simp [vp_V, tyX3, defaultValue, gFI_sNew, gFJ_sNew, gFR_sNew, va_rf]⟩
theorem jD4 : jDef 4 2 tyX4 := fun cy Λ S q => ⟨_, ent_4 (va_up_self _ _ _), fun j hj => by
  have h5 : j = 0 ∨ j = 1 := (by omega)
  rcases h5 with rfl | rfl <;> simp [vp_V, tyX4, defaultValue, gFI_sNew, gFJ_sNew, gFR_sNew, va_rf]⟩
theorem jD5 : jDef 5 10 tyX5 := fun cy Λ S q => ⟨_, ent_5 (va_up_self _ _ _), fun j hj => by
  have h5 : j = 0 ∨ j = 1 ∨ j = 2 ∨ j = 3 ∨ j = 4 ∨ j = 5 ∨ j = 6 ∨ j = 7 ∨ j = 8 ∨ j = 9 := (by omega)
  rcases h5 with rfl | rfl | rfl | rfl | rfl | rfl | rfl | rfl | rfl | rfl <;> simp [vp_V, tyX5, defaultValue, gFI_sNew, gFJ_sNew, gFR_sNew, va_rf]⟩
theorem jD6 : jDef 6 11 tyX6 := fun cy Λ S q => ⟨_, ent_6 (va_up_self _ _ _), fun j hj => by
  have h5 : j = 0 ∨ j = 1 ∨ j = 2 ∨ j = 3 ∨ j = 4 ∨ j = 5 ∨ j = 6 ∨ j = 7 ∨ j = 8 ∨ j = 9 ∨ j = 10 := (by omega)
  rcases h5 with rfl | rfl | rfl | rfl | rfl | rfl | rfl | rfl | rfl | rfl | rfl <;> simp [vp_V, tyX6, defaultValue, gFI_sNew, gFJ_sNew, gFR_sNew, va_rf]⟩
theorem jD7 : jDef 7 2 tyX7 := fun cy Λ S q => ⟨_, ent_7 (va_up_self _ _ _), fun j hj => by
  have h5 : j = 0 ∨ j = 1 := (by omega)
  rcases h5 with rfl | rfl <;> simp [vp_V, tyX7, defaultValue, gFI_sNew, gFJ_sNew, gFR_sNew, va_rf]⟩
theorem jD8 : jDef 8 5 tyX8 := fun cy Λ S q => ⟨_, ent_8 (va_up_self _ _ _), fun j hj => by
  have h5 : j = 0 ∨ j = 1 ∨ j = 2 ∨ j = 3 ∨ j = 4 := (by omega)
  rcases h5 with rfl | rfl | rfl | rfl | rfl <;> simp [vp_V, tyX8, defaultValue, gFI_sNew, gFJ_sNew, gFR_sNew, va_rf]⟩
theorem jD9 : jDef 9 36 tyX9 := fun cy Λ S q => ⟨_, ent_9 (va_up_self _ _ _), fun j hj => by
  have h5 : j = 0 ∨ j = 1 ∨ j = 2 ∨ j = 3 ∨ j = 4 ∨ j = 5 ∨ j = 6 ∨ j = 7 ∨ j = 8 ∨ j = 9 ∨ j = 10 ∨ j = 11 ∨ j = 12 ∨ j = 13 ∨ j = 14 ∨ j = 15 ∨ j = 16 ∨ j = 17 ∨ j = 18 ∨ j = 19 ∨ j = 20 ∨ j = 21 ∨ j = 22 ∨ j = 23 ∨ j = 24 ∨ j = 25 ∨ j = 26 ∨ j = 27 ∨ j = 28 ∨ j = 29 ∨ j = 30 ∨ j = 31 ∨ j = 32 ∨ j = 33 ∨ j = 34 ∨ j = 35 := (by omega)
  rcases h5 with rfl | rfl | rfl | rfl | rfl | rfl | rfl | rfl | rfl | rfl | rfl | rfl | rfl | rfl | rfl | rfl | rfl | rfl | rfl | rfl | rfl | rfl | rfl | rfl | rfl | rfl | rfl | rfl | rfl | rfl | rfl | rfl | rfl | rfl | rfl | rfl <;> simp [vp_V, tyX9, defaultValue, gFI_sNew, gFJ_sNew, gFR_sNew, va_rf]⟩
theorem kYX0_init : jY yX0_init cX0_init 1 none 0 := ⟨(big_mem 88 (by decide +kernel) (by decide +kernel)), (big_mem 41 (by decide +kernel) (by decide +kernel)), by decide +kernel⟩
theorem kYX1_init : jY yX1_init cX1_init 2 none 1 := ⟨(big_mem 154 (by decide +kernel) (by decide +kernel)), (big_mem 45 (by decide +kernel) (by decide +kernel)), by decide +kernel⟩
theorem kYX2_init : jY yX2_init cX2_init 1 none 0 := ⟨(big_mem 148 (by decide +kernel) (by decide +kernel)), (big_mem 44 (by decide +kernel) (by decide +kernel)), by decide +kernel⟩
theorem kYX3_init : jY yX3_init cX3_init 1 none 0 := ⟨(big_mem 115 (by decide +kernel) (by decide +kernel)), (big_mem 43 (by decide +kernel) (by decide +kernel)), by decide +kernel⟩
theorem kYX4_init : jY yX4_init cX4_init 1 none 0 := ⟨(big_mem 109 (by decide +kernel) (by decide +kernel)), (big_mem 42 (by decide +kernel) (by decide +kernel)), by decide +kernel⟩
theorem kYX5_init : jY yX5_init cX5_init 2 none 1 := ⟨(big_mem 223 (by decide +kernel) (by decide +kernel)), (big_mem 49 (by decide +kernel) (by decide +kernel)), by decide +kernel⟩
theorem kYX6_init : jY yX6_init cX6_init 3 none 1 := ⟨(big_mem 213 (by decide +kernel) (by decide +kernel)), (big_mem 48 (by decide +kernel) (by decide +kernel)), by decide +kernel⟩
theorem kYX7_init : jY yX7_init cX7_init 1 none 0 := ⟨(big_mem 70 (by decide +kernel) (by decide +kernel)), (big_mem 40 (by decide +kernel) (by decide +kernel)), by decide +kernel⟩
theorem kYX8_init : jY yX8_init cX8_init 1 none 0 := ⟨(big_mem 62 (by decide +kernel) (by decide +kernel)), (big_mem 39 (by decide +kernel) (by decide +kernel)), by decide +kernel⟩
theorem kYX9_init : jY yX9_init cX9_init 1 none 0 := ⟨(big_mem 886 (by decide +kernel) (by decide +kernel)), (big_mem 47 (by decide +kernel) (by decide +kernel)), by decide +kernel⟩
theorem jb_mmax {X : jX} {cc : ByteArray} {nL k n pc : Nat} {own : String} {R : Room} {L : List (Nat × jV)} {st : List jV} {Λ : sLay} {S : sSt} {φ : Prop} (C : jC X cc nL own R) {idx : Nat} {x y : Int32} (hl : Cond.methodLink own idx Lib.Math.max.name ∈ bigW) (hst : Cond.static Lib.Math.max.name ∈ bigW) (hi : Cond.initialized "java/lang/Math" ∈ bigW) (hco : Cond.code Lib.Math.max.name Lib.Math.max.code 2 (some .int) ∈ bigW) (hR : 1 ≤ R.frames ∧ 21 ≤ R.locals) (hroom : jsum st ≤ 8) (hc : k ≤ R.cells ∧ n ≤ R.slots) (hdg : decode cc pc = .ok (.invokestatic idx, 3)) (kk : J X nL k n (pc + 3) L (vI (if x < y then y else x) :: st) Λ S φ) : J X nL k n pc L (vI y :: vI x :: st) Λ S φ := by
  intro h hT H locs ls hP hD hS hv
  have hR' : xR X = R := C.2.2.2.2.2.2.2.1
  exact va_mmax C.1 C.2.1 (C.2.2.1.trans hv.1.symm) C.2.2.2.1 (C.2.2.2.2.1 _ hl) (C.2.2.2.2.1 _ hst) (C.2.2.2.2.1 _ hi) (C.2.2.2.2.1 _ hco) (by rw [hR']; exact hR.1) (by rw [hR', jsum_map]; have := hR.2; omega) (by rw [hR']; exact hc.1) (by rw [hR']; exact hc.2) hdg (kk h hT H locs ls hP hD hS hv)
def R_X1_init (Λ : sLay) (S : sSt) (p0 : Nat) (p1 : Int32) (Λ' : sLay) (S' : sSt) : Prop := ∃ q, q ∉ Λ.1 ∧ Λ' = lNew Λ q 10 p1.toNatClampNeg ∧ S' = sFI (sFR (sNew S q) 40 p0 (some q)) 41 p0 0
abbrev rm_X1_init (len : Nat) : Room := { frames := 1, cells := 1, slots := len, locals := 31 }
set_option maxHeartbeats 4000000 in
theorem c_X1_init {l : Launch} {D : va_G} {cy : Nat → ClassId} {Λ : sLay} {S : sSt} (p0 : Nat) (tp0 : isK Λ 1 p0) (p1 : Int32) (len : Nat) (h0 : ¬ p1 < 0) (hlen : p1.toNatClampNeg = len) (hb : len * 4 ≤ 536870912) : jMa l yX1_init (Cond.code yX1_init cX1_init 2 none :: bigW) (rm_X1_init len) D cy Λ S [vR (some p0), vI p1] rV (fun _ Λ1 S1 => R_X1_init Λ S p0 p1 Λ1 S1) 1 len := by
  refine jMa_of (by decide +kernel) (Nat.le_of_ble_eq_true rfl) (fun X C E hin => ?_)
  refine j_sub [0, 1] (L' := [(0, vR (some p0)), (1, vI p1)]) rfl ?_
  refine j_aload_n C dX1_init_0 0 rfl ?_
  refine jb_obj C (big_mem 155 (by decide +kernel) (by decide +kernel)) (big_mem 64 (by decide +kernel) (by decide +kernel)) (big_mem 65 (by decide +kernel) (by decide +kernel)) ⟨Nat.le_of_ble_eq_true rfl, Nat.le_of_ble_eq_true rfl⟩ (Nat.le_of_ble_eq_true rfl) dX1_init_1 ?_
  refine j_aload_n C dX1_init_4 0 rfl ?_
  refine j_iload_n C dX1_init_5 1 rfl ?_
  refine j_iconst C (v := (0 : Int32)) dX1_init_6 (by decide) ?_
  refine jb_mmax C (big_mem 156 (by decide +kernel) (by decide +kernel)) (big_mem 157 (by decide +kernel) (by decide +kernel)) (big_mem 46 (by decide +kernel) (by decide +kernel)) (big_mem 158 (by decide +kernel) (by decide +kernel)) ⟨Nat.le_of_ble_eq_true rfl, Nat.le_of_ble_eq_true rfl⟩ (Nat.le_of_ble_eq_true rfl) ⟨Nat.zero_le _, Nat.zero_le _⟩ dX1_init_7 ?_
  rw [if_neg h0]
  refine jb_newI C (len := len) (big_mem 166 (by decide +kernel) (by decide +kernel)) h0 hlen hb ⟨by simp, by simp⟩ dX1_init_10 (fun q1 hq1 => ?_)
  have e1 : lExt Λ (lNew Λ q1 10 len) := lExt.new hq1
  have t1 := isK.ext e1 tp0
  have t2 : isK (lNew Λ q1 10 len) 10 q1 := isK.mk
  refine jb_putFR C kK1 f40 (big_mem 159 (by decide +kernel) (by decide +kernel)) (by decide) rfl hin rfl rfl rfl t1 t2 dX1_init_12 ?_
  refine j_aload_n C dX1_init_15 0 rfl ?_
  refine j_iconst C (v := (0 : Int32)) dX1_init_16 (by decide) ?_
  refine jb_putI C kK1 f41 (big_mem 160 (by decide +kernel) (by decide +kernel)) (by decide) rfl (fun _ => rfl) (fun _ => rfl) t1 dX1_init_17 (fun h => h) ?_
  exact ja_vret C E e1 ⟨q1, hq1, by rw [hlen], rfl⟩ ⟨by simp, by simp⟩ dX1_init_20
def R_X5_init (Λ : sLay) (S : sSt) (p0 : Nat) (p1 : Int32) (Λ' : sLay) (S' : sSt) : Prop := ∃ q1, q1 ∉ Λ.1 ∧ ∃ Λ6 S7, R_X1_init (lNew Λ q1 1 0) (sNew (sFI S 200 p0 p1) q1) q1 (3 : Int32) Λ6 S7 ∧ Λ' = Λ6 ∧ S' = (sFR S7 201 p0 (some q1))
abbrev rm_X5_init : Room := { frames := 2, cells := 2, slots := 5, locals := 52 }
set_option maxHeartbeats 4000000 in
theorem c_X5_init {l : Launch} {D : va_G} {cy : Nat → ClassId} {Λ : sLay} {S : sSt} (p0 : Nat) (tp0 : isK Λ 5 p0) (p1 : Int32) : jMa l yX5_init (Cond.code yX5_init cX5_init 2 none :: bigW) rm_X5_init D cy Λ S [vR (some p0), vI p1] rV (fun _ Λ1 S1 => R_X5_init Λ S p0 p1 Λ1 S1) 2 5 := by
  refine jMa_of (by decide +kernel) (Nat.le_of_ble_eq_true rfl) (fun X C E hin => ?_)
  refine j_sub [0, 1] (L' := [(0, vR (some p0)), (1, vI p1)]) rfl ?_
  refine j_aload_n C dX5_init_0 0 rfl ?_
  refine jb_obj C (big_mem 224 (by decide +kernel) (by decide +kernel)) (big_mem 64 (by decide +kernel) (by decide +kernel)) (big_mem 65 (by decide +kernel) (by decide +kernel)) ⟨Nat.le_of_ble_eq_true rfl, Nat.le_of_ble_eq_true rfl⟩ (Nat.le_of_ble_eq_true rfl) dX5_init_1 ?_
  refine j_aload_n C dX5_init_4 0 rfl ?_
  refine j_iload_n C dX5_init_5 1 rfl ?_
  refine jb_putFI C kK5 f200 (big_mem 227 (by decide +kernel) (by decide +kernel)) (by decide) rfl hin rfl rfl rfl tp0 dX5_init_6 ?_
  refine j_aload_n C dX5_init_9 0 rfl ?_
  refine jb_new C kK1 (big_mem 225 (by decide +kernel) (by decide +kernel)) (big_mem 151 (by decide +kernel) (by decide +kernel)) (big_mem 45 (by decide +kernel) (by decide +kernel)) jD1 ⟨Nat.le_of_ble_eq_true rfl, Nat.le_of_ble_eq_true rfl⟩ dX5_init_10 (fun q1 hq1 => ?_)
  have e2 : lExt Λ (lNew Λ q1 1 0) := lExt.new hq1
  have t3 := isK.ext e2 tp0
  have x4 := lExt.tr lExt.rf e2
  have t5 : isK (lNew Λ q1 1 0) 1 q1 := isK.mk
  refine j_dup C dX5_init_13 rfl ?_
  refine j_iconst C (v := (3 : Int32)) dX5_init_14 (by decide) ?_
  refine ja_callI C [vI (3 : Int32)] [vR (some q1), vR (some p0)] rV_ok (c_X1_init q1 t5 (3 : Int32) 3 (by decide) (by decide) (by decide)) kYX1_init (big_mem 153 (by decide +kernel) (by decide +kernel)) (big_mem 226 (by decide +kernel) (by decide +kernel)) rfl rfl rfl ⟨rfl, rfl, Nat.le_of_ble_eq_true rfl, Nat.le_of_ble_eq_true rfl⟩ (Nat.le_of_ble_eq_true rfl) ⟨Nat.le_of_ble_eq_true rfl, Nat.le_of_ble_eq_true rfl⟩ dX5_init_15 (fun _ Λ6 S7 r8 e9 _ => ?_)
  have t10 := isK.ext e9 t3
  have t11 := isK.ext e9 t5
  have x12 := lExt.tr x4 e9
  refine jb_putFR C kK5 f201 (big_mem 231 (by decide +kernel) (by decide +kernel)) (by decide) rfl hin rfl rfl rfl t10 t11 dX5_init_18 ?_
  exact ja_vret C E x12 ⟨q1, hq1, Λ6, S7, r8, rfl, rfl⟩ ⟨Nat.le_of_ble_eq_true rfl, Nat.le_of_ble_eq_true rfl⟩ dX5_init_21
def R_X3_init (Λ : sLay) (S : sSt) (p0 : Nat) (Λ' : sLay) (S' : sSt) : Prop := ∃ q1, q1 ∉ Λ.1 ∧ Λ' = (lNew Λ q1 11 680) ∧ S' = (sFI (sFR (sNew S q1) 120 p0 (some q1)) 121 p0 (0 : Int32))
abbrev rm_X3_init : Room := { frames := 1, cells := 1, slots := 680, locals := 31 }
set_option maxHeartbeats 4000000 in
theorem c_X3_init {l : Launch} {D : va_G} {cy : Nat → ClassId} {Λ : sLay} {S : sSt} (p0 : Nat) (tp0 : isK Λ 3 p0) : jMa l yX3_init (Cond.code yX3_init cX3_init 1 none :: bigW) rm_X3_init D cy Λ S [vR (some p0)] rV (fun _ Λ1 S1 => R_X3_init Λ S p0 Λ1 S1) 1 680 := by
  refine jMa_of (by decide +kernel) (Nat.le_of_ble_eq_true rfl) (fun X C E hin => ?_)
  refine j_sub [0] (L' := [(0, vR (some p0))]) rfl ?_
  refine j_aload_n C dX3_init_0 0 rfl ?_
  refine jb_obj C (big_mem 116 (by decide +kernel) (by decide +kernel)) (big_mem 64 (by decide +kernel) (by decide +kernel)) (big_mem 65 (by decide +kernel) (by decide +kernel)) ⟨Nat.le_of_ble_eq_true rfl, Nat.le_of_ble_eq_true rfl⟩ (Nat.le_of_ble_eq_true rfl) dX3_init_1 ?_
  refine j_aload_n C dX3_init_4 0 rfl ?_
  refine j_sipush C (v := (680 : Int32)) dX3_init_5 (by decide) ?_
  refine jb_newJ C (len := 680) (big_mem 136 (by decide +kernel) (by decide +kernel)) (by decide) (by decide) (by decide) ⟨Nat.le_of_ble_eq_true rfl, Nat.le_of_ble_eq_true rfl⟩ dX3_init_8 (fun q1 hq1 => ?_)
  have e2 : lExt Λ (lNew Λ q1 11 680) := lExt.new hq1
  have t3 := isK.ext e2 tp0
  have x4 := lExt.tr lExt.rf e2
  have t5 : isK (lNew Λ q1 11 680) 11 q1 := isK.mk
  refine jb_putFR C kK3 f120 (big_mem 117 (by decide +kernel) (by decide +kernel)) (by decide) rfl hin rfl rfl rfl t3 t5 dX3_init_10 ?_
  refine j_aload_n C dX3_init_13 0 rfl ?_
  refine j_iconst C (v := (0 : Int32)) dX3_init_14 (by decide) ?_
  refine jb_putI C kK3 f121 (big_mem 118 (by decide +kernel) (by decide +kernel)) (by decide) rfl (fun _ => rfl) (fun _ => rfl) t3 dX3_init_15 (fun h => h) ?_
  exact ja_vret C E x4 ⟨q1, hq1, rfl, rfl⟩ ⟨Nat.le_of_ble_eq_true rfl, Nat.le_of_ble_eq_true rfl⟩ dX3_init_18
def R_X7_init (Λ : sLay) (S : sSt) (p0 : Nat) (Λ' : sLay) (S' : sSt) : Prop := ∃ q1, q1 ∉ Λ.1 ∧ Λ' = (lNew Λ q1 14 16) ∧ S' = (sFI (sFR (sNew S q1) 280 p0 (some q1)) 281 p0 (0 : Int32))
abbrev rm_X7_init : Room := { frames := 1, cells := 1, slots := 16, locals := 31 }
set_option maxHeartbeats 4000000 in
theorem c_X7_init {l : Launch} {D : va_G} {cy : Nat → ClassId} {Λ : sLay} {S : sSt} (p0 : Nat) (tp0 : isK Λ 7 p0) : jMa l yX7_init (Cond.code yX7_init cX7_init 1 none :: bigW) rm_X7_init D cy Λ S [vR (some p0)] rV (fun _ Λ1 S1 => R_X7_init Λ S p0 Λ1 S1) 1 16 := by
  refine jMa_of (by decide +kernel) (Nat.le_of_ble_eq_true rfl) (fun X C E hin => ?_)
  refine j_sub [0] (L' := [(0, vR (some p0))]) rfl ?_
  refine j_aload_n C dX7_init_0 0 rfl ?_
  refine jb_obj C (big_mem 71 (by decide +kernel) (by decide +kernel)) (big_mem 64 (by decide +kernel) (by decide +kernel)) (big_mem 65 (by decide +kernel) (by decide +kernel)) ⟨Nat.le_of_ble_eq_true rfl, Nat.le_of_ble_eq_true rfl⟩ (Nat.le_of_ble_eq_true rfl) dX7_init_1 ?_
  refine j_aload_n C dX7_init_4 0 rfl ?_
  refine j_bipush C (v := (16 : Int32)) dX7_init_5 (by decide) ?_
  refine jb_newU C (len := 16) (big_mem 72 (by decide +kernel) (by decide +kernel)) (by decide) (by decide) (by decide) ⟨Nat.le_of_ble_eq_true rfl, Nat.le_of_ble_eq_true rfl⟩ dX7_init_7 (fun q1 hq1 => ?_)
  have e2 : lExt Λ (lNew Λ q1 14 16) := lExt.new hq1
  have t3 := isK.ext e2 tp0
  have x4 := lExt.tr lExt.rf e2
  have t5 : isK (lNew Λ q1 14 16) 14 q1 := isK.mk
  refine jb_putFR C kK7 f280 (big_mem 74 (by decide +kernel) (by decide +kernel)) (by decide) rfl hin rfl rfl rfl t3 t5 dX7_init_10 ?_
  refine j_aload_n C dX7_init_13 0 rfl ?_
  refine j_iconst C (v := (0 : Int32)) dX7_init_14 (by decide) ?_
  refine jb_putI C kK7 f281 (big_mem 75 (by decide +kernel) (by decide +kernel)) (by decide) rfl (fun _ => rfl) (fun _ => rfl) t3 dX7_init_15 (fun h => h) ?_
  exact ja_vret C E x4 ⟨q1, hq1, rfl, rfl⟩ ⟨Nat.le_of_ble_eq_true rfl, Nat.le_of_ble_eq_true rfl⟩ dX7_init_18
def R_X0_init (Λ : sLay) (S : sSt) (p0 : Nat) (Λ' : sLay) (S' : sSt) : Prop := ∃ q1, q1 ∉ Λ.1 ∧ ∃ q6, q6 ∉ (lNew Λ q1 13 160).1 ∧ Λ' = (lNew (lNew Λ q1 13 160) q6 13 160) ∧ S' = (sFI (sFR (sNew (sFI (sFR (sNew S q1) 0 p0 (some q1)) 1 p0 (0 : Int32)) q6) 2 p0 (some q6)) 3 p0 (0 : Int32))
abbrev rm_X0_init : Room := { frames := 1, cells := 2, slots := 320, locals := 31 }
set_option maxHeartbeats 4000000 in
theorem c_X0_init {l : Launch} {D : va_G} {cy : Nat → ClassId} {Λ : sLay} {S : sSt} (p0 : Nat) (tp0 : isK Λ 0 p0) : jMa l yX0_init (Cond.code yX0_init cX0_init 1 none :: bigW) rm_X0_init D cy Λ S [vR (some p0)] rV (fun _ Λ1 S1 => R_X0_init Λ S p0 Λ1 S1) 2 320 := by
  refine jMa_of (by decide +kernel) (Nat.le_of_ble_eq_true rfl) (fun X C E hin => ?_)
  refine j_sub [0] (L' := [(0, vR (some p0))]) rfl ?_
  refine j_aload_n C dX0_init_0 0 rfl ?_
  refine jb_obj C (big_mem 89 (by decide +kernel) (by decide +kernel)) (big_mem 64 (by decide +kernel) (by decide +kernel)) (big_mem 65 (by decide +kernel) (by decide +kernel)) ⟨Nat.le_of_ble_eq_true rfl, Nat.le_of_ble_eq_true rfl⟩ (Nat.le_of_ble_eq_true rfl) dX0_init_1 ?_
  refine j_aload_n C dX0_init_4 0 rfl ?_
  refine j_sipush C (v := (160 : Int32)) dX0_init_5 (by decide) ?_
  refine jb_newT C (len := 160) (big_mem 90 (by decide +kernel) (by decide +kernel)) (by decide) (by decide) (by decide) ⟨Nat.le_of_ble_eq_true rfl, Nat.le_of_ble_eq_true rfl⟩ dX0_init_8 (fun q1 hq1 => ?_)
  have e2 : lExt Λ (lNew Λ q1 13 160) := lExt.new hq1
  have t3 := isK.ext e2 tp0
  have x4 := lExt.tr lExt.rf e2
  have t5 : isK (lNew Λ q1 13 160) 13 q1 := isK.mk
  refine jb_putFR C kK0 f0 (big_mem 92 (by decide +kernel) (by decide +kernel)) (by decide) rfl hin rfl rfl rfl t3 t5 dX0_init_11 ?_
  refine j_aload_n C dX0_init_14 0 rfl ?_
  refine j_iconst C (v := (0 : Int32)) dX0_init_15 (by decide) ?_
  refine jb_putI C kK0 f1 (big_mem 93 (by decide +kernel) (by decide +kernel)) (by decide) rfl (fun _ => rfl) (fun _ => rfl) t3 dX0_init_16 (fun h => h) ?_
  refine j_aload_n C dX0_init_19 0 rfl ?_
  refine j_sipush C (v := (160 : Int32)) dX0_init_20 (by decide) ?_
  refine jb_newT C (len := 160) (big_mem 90 (by decide +kernel) (by decide +kernel)) (by decide) (by decide) (by decide) ⟨Nat.le_of_ble_eq_true rfl, Nat.le_of_ble_eq_true rfl⟩ dX0_init_23 (fun q6 hq6 => ?_)
  have e7 : lExt (lNew Λ q1 13 160) (lNew (lNew Λ q1 13 160) q6 13 160) := lExt.new hq6
  have t8 := isK.ext e7 t3
  have x9 := lExt.tr x4 e7
  have t10 : isK (lNew (lNew Λ q1 13 160) q6 13 160) 13 q6 := isK.mk
  refine jb_putFR C kK0 f2 (big_mem 94 (by decide +kernel) (by decide +kernel)) (by decide) rfl hin rfl rfl rfl t8 t10 dX0_init_26 ?_
  refine j_aload_n C dX0_init_29 0 rfl ?_
  refine j_iconst C (v := (0 : Int32)) dX0_init_30 (by decide) ?_
  refine jb_putI C kK0 f3 (big_mem 95 (by decide +kernel) (by decide +kernel)) (by decide) rfl (fun _ => rfl) (fun _ => rfl) t8 dX0_init_31 (fun h => h) ?_
  exact ja_vret C E x9 ⟨q1, hq1, q6, hq6, rfl, rfl⟩ ⟨Nat.le_of_ble_eq_true rfl, Nat.le_of_ble_eq_true rfl⟩ dX0_init_34
def R_X4_init (Λ : sLay) (S : sSt) (p0 : Nat) (Λ' : sLay) (S' : sSt) : Prop := ∃ q1, q1 ∉ Λ.1 ∧ ∃ Λ6 S7, R_X3_init (lNew Λ q1 3 0) (sNew S q1) q1 Λ6 S7 ∧ ∃ q13, q13 ∉ Λ6.1 ∧ ∃ Λ18 S19, R_X3_init (lNew Λ6 q13 3 0) (sNew (sFR S7 160 p0 (some q1)) q13) q13 Λ18 S19 ∧ Λ' = Λ18 ∧ S' = (sFR S19 161 p0 (some q13))
abbrev rm_X4_init : Room := { frames := 2, cells := 4, slots := 1372, locals := 51 }
set_option maxHeartbeats 4000000 in
theorem c_X4_init {l : Launch} {D : va_G} {cy : Nat → ClassId} {Λ : sLay} {S : sSt} (p0 : Nat) (tp0 : isK Λ 4 p0) : jMa l yX4_init (Cond.code yX4_init cX4_init 1 none :: bigW) rm_X4_init D cy Λ S [vR (some p0)] rV (fun _ Λ1 S1 => R_X4_init Λ S p0 Λ1 S1) 4 1372 := by
  refine jMa_of (by decide +kernel) (Nat.le_of_ble_eq_true rfl) (fun X C E hin => ?_)
  refine j_sub [0] (L' := [(0, vR (some p0))]) rfl ?_
  refine j_aload_n C dX4_init_0 0 rfl ?_
  refine jb_obj C (big_mem 110 (by decide +kernel) (by decide +kernel)) (big_mem 64 (by decide +kernel) (by decide +kernel)) (big_mem 65 (by decide +kernel) (by decide +kernel)) ⟨Nat.le_of_ble_eq_true rfl, Nat.le_of_ble_eq_true rfl⟩ (Nat.le_of_ble_eq_true rfl) dX4_init_1 ?_
  refine j_aload_n C dX4_init_4 0 rfl ?_
  refine jb_new C kK3 (big_mem 111 (by decide +kernel) (by decide +kernel)) (big_mem 112 (by decide +kernel) (by decide +kernel)) (big_mem 43 (by decide +kernel) (by decide +kernel)) jD3 ⟨Nat.le_of_ble_eq_true rfl, Nat.le_of_ble_eq_true rfl⟩ dX4_init_5 (fun q1 hq1 => ?_)
  have e2 : lExt Λ (lNew Λ q1 3 0) := lExt.new hq1
  have t3 := isK.ext e2 tp0
  have x4 := lExt.tr lExt.rf e2
  have t5 : isK (lNew Λ q1 3 0) 3 q1 := isK.mk
  refine j_dup C dX4_init_8 rfl ?_
  refine ja_callI C [] [vR (some q1), vR (some p0)] rV_ok (c_X3_init q1 t5) kYX3_init (big_mem 114 (by decide +kernel) (by decide +kernel)) (big_mem 113 (by decide +kernel) (by decide +kernel)) rfl rfl rfl ⟨rfl, rfl, Nat.le_of_ble_eq_true rfl, Nat.le_of_ble_eq_true rfl⟩ (Nat.le_of_ble_eq_true rfl) ⟨Nat.le_of_ble_eq_true rfl, Nat.le_of_ble_eq_true rfl⟩ dX4_init_9 (fun _ Λ6 S7 r8 e9 _ => ?_)
  have t10 := isK.ext e9 t3
  have t11 := isK.ext e9 t5
  have x12 := lExt.tr x4 e9
  refine jb_putFR C kK4 f160 (big_mem 137 (by decide +kernel) (by decide +kernel)) (by decide) rfl hin rfl rfl rfl t10 t11 dX4_init_12 ?_
  refine j_aload_n C dX4_init_15 0 rfl ?_
  refine jb_new C kK3 (big_mem 111 (by decide +kernel) (by decide +kernel)) (big_mem 112 (by decide +kernel) (by decide +kernel)) (big_mem 43 (by decide +kernel) (by decide +kernel)) jD3 ⟨Nat.le_of_ble_eq_true rfl, Nat.le_of_ble_eq_true rfl⟩ dX4_init_16 (fun q13 hq13 => ?_)
  have e14 : lExt Λ6 (lNew Λ6 q13 3 0) := lExt.new hq13
  have t15 := isK.ext e14 t10
  have x16 := lExt.tr x12 e14
  have t17 : isK (lNew Λ6 q13 3 0) 3 q13 := isK.mk
  refine j_dup C dX4_init_19 rfl ?_
  refine ja_callI C [] [vR (some q13), vR (some p0)] rV_ok (c_X3_init q13 t17) kYX3_init (big_mem 114 (by decide +kernel) (by decide +kernel)) (big_mem 113 (by decide +kernel) (by decide +kernel)) rfl rfl rfl ⟨rfl, rfl, Nat.le_of_ble_eq_true rfl, Nat.le_of_ble_eq_true rfl⟩ (Nat.le_of_ble_eq_true rfl) ⟨Nat.le_of_ble_eq_true rfl, Nat.le_of_ble_eq_true rfl⟩ dX4_init_20 (fun _ Λ18 S19 r20 e21 _ => ?_)
  have t22 := isK.ext e21 t15
  have t23 := isK.ext e21 t17
  have x24 := lExt.tr x16 e21
  refine jb_putFR C kK4 f161 (big_mem 138 (by decide +kernel) (by decide +kernel)) (by decide) rfl hin rfl rfl rfl t22 t23 dX4_init_23 ?_
  exact ja_vret C E x24 ⟨q1, hq1, Λ6, S7, r8, q13, hq13, Λ18, S19, r20, rfl, rfl⟩ ⟨Nat.le_of_ble_eq_true rfl, Nat.le_of_ble_eq_true rfl⟩ dX4_init_26
def R_X2_init (Λ : sLay) (S : sSt) (p0 : Nat) (Λ' : sLay) (S' : sSt) : Prop := ∃ q1, q1 ∉ Λ.1 ∧ ∃ q6, q6 ∉ (lNew Λ q1 10 16).1 ∧ ∃ q11, q11 ∉ (lNew (lNew Λ q1 10 16) q6 10 16).1 ∧ ∃ Λ16 S17, R_X1_init (lNew (lNew (lNew Λ q1 10 16) q6 10 16) q11 1 0) (sNew (sFR (sNew (sFR (sNew S q1) 80 p0 (some q1)) q6) 81 p0 (some q6)) q11) q11 (16 : Int32) Λ16 S17 ∧ Λ' = Λ16 ∧ S' = (sFR S17 82 p0 (some q11))
abbrev rm_X2_init : Room := { frames := 2, cells := 4, slots := 50, locals := 52 }
set_option maxHeartbeats 4000000 in
theorem c_X2_init {l : Launch} {D : va_G} {cy : Nat → ClassId} {Λ : sLay} {S : sSt} (p0 : Nat) (tp0 : isK Λ 2 p0) : jMa l yX2_init (Cond.code yX2_init cX2_init 1 none :: bigW) rm_X2_init D cy Λ S [vR (some p0)] rV (fun _ Λ1 S1 => R_X2_init Λ S p0 Λ1 S1) 4 50 := by
  refine jMa_of (by decide +kernel) (Nat.le_of_ble_eq_true rfl) (fun X C E hin => ?_)
  refine j_sub [0] (L' := [(0, vR (some p0))]) rfl ?_
  refine j_aload_n C dX2_init_0 0 rfl ?_
  refine jb_obj C (big_mem 149 (by decide +kernel) (by decide +kernel)) (big_mem 64 (by decide +kernel) (by decide +kernel)) (big_mem 65 (by decide +kernel) (by decide +kernel)) ⟨Nat.le_of_ble_eq_true rfl, Nat.le_of_ble_eq_true rfl⟩ (Nat.le_of_ble_eq_true rfl) dX2_init_1 ?_
  refine j_aload_n C dX2_init_4 0 rfl ?_
  refine j_bipush C (v := (16 : Int32)) dX2_init_5 (by decide) ?_
  refine jb_newI C (len := 16) (big_mem 166 (by decide +kernel) (by decide +kernel)) (by decide) (by decide) (by decide) ⟨Nat.le_of_ble_eq_true rfl, Nat.le_of_ble_eq_true rfl⟩ dX2_init_7 (fun q1 hq1 => ?_)
  have e2 : lExt Λ (lNew Λ q1 10 16) := lExt.new hq1
  have t3 := isK.ext e2 tp0
  have x4 := lExt.tr lExt.rf e2
  have t5 : isK (lNew Λ q1 10 16) 10 q1 := isK.mk
  refine jb_putFR C kK2 f80 (big_mem 167 (by decide +kernel) (by decide +kernel)) (by decide) rfl hin rfl rfl rfl t3 t5 dX2_init_9 ?_
  refine j_aload_n C dX2_init_12 0 rfl ?_
  refine j_bipush C (v := (16 : Int32)) dX2_init_13 (by decide) ?_
  refine jb_newI C (len := 16) (big_mem 166 (by decide +kernel) (by decide +kernel)) (by decide) (by decide) (by decide) ⟨Nat.le_of_ble_eq_true rfl, Nat.le_of_ble_eq_true rfl⟩ dX2_init_15 (fun q6 hq6 => ?_)
  have e7 : lExt (lNew Λ q1 10 16) (lNew (lNew Λ q1 10 16) q6 10 16) := lExt.new hq6
  have t8 := isK.ext e7 t3
  have x9 := lExt.tr x4 e7
  have t10 : isK (lNew (lNew Λ q1 10 16) q6 10 16) 10 q6 := isK.mk
  refine jb_putFR C kK2 f81 (big_mem 168 (by decide +kernel) (by decide +kernel)) (by decide) rfl hin rfl rfl rfl t8 t10 dX2_init_17 ?_
  refine j_aload_n C dX2_init_20 0 rfl ?_
  refine jb_new C kK1 (big_mem 150 (by decide +kernel) (by decide +kernel)) (big_mem 151 (by decide +kernel) (by decide +kernel)) (big_mem 45 (by decide +kernel) (by decide +kernel)) jD1 ⟨Nat.le_of_ble_eq_true rfl, Nat.le_of_ble_eq_true rfl⟩ dX2_init_21 (fun q11 hq11 => ?_)
  have e12 : lExt (lNew (lNew Λ q1 10 16) q6 10 16) (lNew (lNew (lNew Λ q1 10 16) q6 10 16) q11 1 0) := lExt.new hq11
  have t13 := isK.ext e12 t8
  have x14 := lExt.tr x9 e12
  have t15 : isK (lNew (lNew (lNew Λ q1 10 16) q6 10 16) q11 1 0) 1 q11 := isK.mk
  refine j_dup C dX2_init_24 rfl ?_
  refine j_bipush C (v := (16 : Int32)) dX2_init_25 (by decide) ?_
  refine ja_callI C [vI (16 : Int32)] [vR (some q11), vR (some p0)] rV_ok (c_X1_init q11 t15 (16 : Int32) 16 (by decide) (by decide) (by decide)) kYX1_init (big_mem 153 (by decide +kernel) (by decide +kernel)) (big_mem 152 (by decide +kernel) (by decide +kernel)) rfl rfl rfl ⟨rfl, rfl, Nat.le_of_ble_eq_true rfl, Nat.le_of_ble_eq_true rfl⟩ (Nat.le_of_ble_eq_true rfl) ⟨Nat.le_of_ble_eq_true rfl, Nat.le_of_ble_eq_true rfl⟩ dX2_init_27 (fun _ Λ16 S17 r18 e19 _ => ?_)
  have t20 := isK.ext e19 t13
  have t21 := isK.ext e19 t15
  have x22 := lExt.tr x14 e19
  refine jb_putFR C kK2 f82 (big_mem 169 (by decide +kernel) (by decide +kernel)) (by decide) rfl hin rfl rfl rfl t20 t21 dX2_init_30 ?_
  exact ja_vret C E x22 ⟨q1, hq1, q6, hq6, q11, hq11, Λ16, S17, r18, rfl, rfl⟩ ⟨Nat.le_of_ble_eq_true rfl, Nat.le_of_ble_eq_true rfl⟩ dX2_init_33
def R_X8_init (Λ : sLay) (S : sSt) (p0 : Nat) (Λ' : sLay) (S' : sSt) : Prop := ∃ q1, q1 ∉ Λ.1 ∧ ∃ Λ6 S7, R_X7_init (lNew Λ q1 7 0) (sNew S q1) q1 Λ6 S7 ∧ ∃ q13, q13 ∉ Λ6.1 ∧ ∃ Λ18 S19, R_X0_init (lNew Λ6 q13 0 0) (sNew (sFR S7 320 p0 (some q1)) q13) q13 Λ18 S19 ∧ ∃ q25, q25 ∉ Λ18.1 ∧ ∃ Λ30 S31, R_X4_init (lNew Λ18 q25 4 0) (sNew (sFR S19 321 p0 (some q13)) q25) q25 Λ30 S31 ∧ ∃ q37, q37 ∉ Λ30.1 ∧ ∃ Λ42 S43, R_X2_init (lNew Λ30 q37 2 0) (sNew (sFR S31 322 p0 (some q25)) q37) q37 Λ42 S43 ∧ Λ' = Λ42 ∧ S' = (sFI (sFR S43 323 p0 (some q37)) 324 p0 (0 : Int32))
abbrev rm_X8_init : Room := { frames := 3, cells := 15, slots := 1771, locals := 72 }
set_option maxHeartbeats 4000000 in
theorem c_X8_init {l : Launch} {D : va_G} {cy : Nat → ClassId} {Λ : sLay} {S : sSt} (p0 : Nat) (tp0 : isK Λ 8 p0) : jMa l yX8_init (Cond.code yX8_init cX8_init 1 none :: bigW) rm_X8_init D cy Λ S [vR (some p0)] rV (fun _ Λ1 S1 => R_X8_init Λ S p0 Λ1 S1) 15 1771 := by
  refine jMa_of (by decide +kernel) (Nat.le_of_ble_eq_true rfl) (fun X C E hin => ?_)
  refine j_sub [0] (L' := [(0, vR (some p0))]) rfl ?_
  refine j_aload_n C dX8_init_0 0 rfl ?_
  refine jb_obj C (big_mem 63 (by decide +kernel) (by decide +kernel)) (big_mem 64 (by decide +kernel) (by decide +kernel)) (big_mem 65 (by decide +kernel) (by decide +kernel)) ⟨Nat.le_of_ble_eq_true rfl, Nat.le_of_ble_eq_true rfl⟩ (Nat.le_of_ble_eq_true rfl) dX8_init_1 ?_
  refine j_aload_n C dX8_init_4 0 rfl ?_
  refine jb_new C kK7 (big_mem 66 (by decide +kernel) (by decide +kernel)) (big_mem 67 (by decide +kernel) (by decide +kernel)) (big_mem 40 (by decide +kernel) (by decide +kernel)) jD7 ⟨Nat.le_of_ble_eq_true rfl, Nat.le_of_ble_eq_true rfl⟩ dX8_init_5 (fun q1 hq1 => ?_)
  have e2 : lExt Λ (lNew Λ q1 7 0) := lExt.new hq1
  have t3 := isK.ext e2 tp0
  have x4 := lExt.tr lExt.rf e2
  have t5 : isK (lNew Λ q1 7 0) 7 q1 := isK.mk
  refine j_dup C dX8_init_8 rfl ?_
  refine ja_callI C [] [vR (some q1), vR (some p0)] rV_ok (c_X7_init q1 t5) kYX7_init (big_mem 69 (by decide +kernel) (by decide +kernel)) (big_mem 68 (by decide +kernel) (by decide +kernel)) rfl rfl rfl ⟨rfl, rfl, Nat.le_of_ble_eq_true rfl, Nat.le_of_ble_eq_true rfl⟩ (Nat.le_of_ble_eq_true rfl) ⟨Nat.le_of_ble_eq_true rfl, Nat.le_of_ble_eq_true rfl⟩ dX8_init_9 (fun _ Λ6 S7 r8 e9 _ => ?_)
  have t10 := isK.ext e9 t3
  have t11 := isK.ext e9 t5
  have x12 := lExt.tr x4 e9
  refine jb_putFR C kK8 f320 (big_mem 186 (by decide +kernel) (by decide +kernel)) (by decide) rfl hin rfl rfl rfl t10 t11 dX8_init_12 ?_
  refine j_aload_n C dX8_init_15 0 rfl ?_
  refine jb_new C kK0 (big_mem 84 (by decide +kernel) (by decide +kernel)) (big_mem 85 (by decide +kernel) (by decide +kernel)) (big_mem 41 (by decide +kernel) (by decide +kernel)) jD0 ⟨Nat.le_of_ble_eq_true rfl, Nat.le_of_ble_eq_true rfl⟩ dX8_init_16 (fun q13 hq13 => ?_)
  have e14 : lExt Λ6 (lNew Λ6 q13 0 0) := lExt.new hq13
  have t15 := isK.ext e14 t10
  have x16 := lExt.tr x12 e14
  have t17 : isK (lNew Λ6 q13 0 0) 0 q13 := isK.mk
  refine j_dup C dX8_init_19 rfl ?_
  refine ja_callI C [] [vR (some q13), vR (some p0)] rV_ok (c_X0_init q13 t17) kYX0_init (big_mem 87 (by decide +kernel) (by decide +kernel)) (big_mem 86 (by decide +kernel) (by decide +kernel)) rfl rfl rfl ⟨rfl, rfl, Nat.le_of_ble_eq_true rfl, Nat.le_of_ble_eq_true rfl⟩ (Nat.le_of_ble_eq_true rfl) ⟨Nat.le_of_ble_eq_true rfl, Nat.le_of_ble_eq_true rfl⟩ dX8_init_20 (fun _ Λ18 S19 r20 e21 _ => ?_)
  have t22 := isK.ext e21 t15
  have t23 := isK.ext e21 t17
  have x24 := lExt.tr x16 e21
  refine jb_putFR C kK8 f321 (big_mem 187 (by decide +kernel) (by decide +kernel)) (by decide) rfl hin rfl rfl rfl t22 t23 dX8_init_23 ?_
  refine j_aload_n C dX8_init_26 0 rfl ?_
  refine jb_new C kK4 (big_mem 105 (by decide +kernel) (by decide +kernel)) (big_mem 106 (by decide +kernel) (by decide +kernel)) (big_mem 42 (by decide +kernel) (by decide +kernel)) jD4 ⟨Nat.le_of_ble_eq_true rfl, Nat.le_of_ble_eq_true rfl⟩ dX8_init_27 (fun q25 hq25 => ?_)
  have e26 : lExt Λ18 (lNew Λ18 q25 4 0) := lExt.new hq25
  have t27 := isK.ext e26 t22
  have x28 := lExt.tr x24 e26
  have t29 : isK (lNew Λ18 q25 4 0) 4 q25 := isK.mk
  refine j_dup C dX8_init_30 rfl ?_
  refine ja_callI C [] [vR (some q25), vR (some p0)] rV_ok (c_X4_init q25 t29) kYX4_init (big_mem 108 (by decide +kernel) (by decide +kernel)) (big_mem 107 (by decide +kernel) (by decide +kernel)) rfl rfl rfl ⟨rfl, rfl, Nat.le_of_ble_eq_true rfl, Nat.le_of_ble_eq_true rfl⟩ (Nat.le_of_ble_eq_true rfl) ⟨Nat.le_of_ble_eq_true rfl, Nat.le_of_ble_eq_true rfl⟩ dX8_init_31 (fun _ Λ30 S31 r32 e33 _ => ?_)
  have t34 := isK.ext e33 t27
  have t35 := isK.ext e33 t29
  have x36 := lExt.tr x28 e33
  refine jb_putFR C kK8 f322 (big_mem 188 (by decide +kernel) (by decide +kernel)) (by decide) rfl hin rfl rfl rfl t34 t35 dX8_init_34 ?_
  refine j_aload_n C dX8_init_37 0 rfl ?_
  refine jb_new C kK2 (big_mem 144 (by decide +kernel) (by decide +kernel)) (big_mem 145 (by decide +kernel) (by decide +kernel)) (big_mem 44 (by decide +kernel) (by decide +kernel)) jD2 ⟨Nat.le_of_ble_eq_true rfl, Nat.le_of_ble_eq_true rfl⟩ dX8_init_38 (fun q37 hq37 => ?_)
  have e38 : lExt Λ30 (lNew Λ30 q37 2 0) := lExt.new hq37
  have t39 := isK.ext e38 t34
  have x40 := lExt.tr x36 e38
  have t41 : isK (lNew Λ30 q37 2 0) 2 q37 := isK.mk
  refine j_dup C dX8_init_41 rfl ?_
  refine ja_callI C [] [vR (some q37), vR (some p0)] rV_ok (c_X2_init q37 t41) kYX2_init (big_mem 147 (by decide +kernel) (by decide +kernel)) (big_mem 146 (by decide +kernel) (by decide +kernel)) rfl rfl rfl ⟨rfl, rfl, Nat.le_of_ble_eq_true rfl, Nat.le_of_ble_eq_true rfl⟩ (Nat.le_of_ble_eq_true rfl) ⟨Nat.le_of_ble_eq_true rfl, Nat.le_of_ble_eq_true rfl⟩ dX8_init_42 (fun _ Λ42 S43 r44 e45 _ => ?_)
  have t46 := isK.ext e45 t39
  have t47 := isK.ext e45 t41
  have x48 := lExt.tr x40 e45
  refine jb_putFR C kK8 f323 (big_mem 189 (by decide +kernel) (by decide +kernel)) (by decide) rfl hin rfl rfl rfl t46 t47 dX8_init_45 ?_
  refine j_aload_n C dX8_init_48 0 rfl ?_
  refine j_iconst C (v := (0 : Int32)) dX8_init_49 (by decide) ?_
  refine jb_putI C kK8 f324 (big_mem 190 (by decide +kernel) (by decide +kernel)) (by decide) rfl (fun _ => rfl) (fun _ => rfl) t46 dX8_init_50 (fun h => h) ?_
  exact ja_vret C E x48 ⟨q1, hq1, Λ6, S7, r8, q13, hq13, Λ18, S19, r20, q25, hq25, Λ30, S31, r32, q37, hq37, Λ42, S43, r44, rfl, rfl⟩ ⟨Nat.le_of_ble_eq_true rfl, Nat.le_of_ble_eq_true rfl⟩ dX8_init_53
def R_X9_init (Λ : sLay) (S : sSt) (p0 : Nat) (Λ' : sLay) (S' : sSt) : Prop := ∃ q1, q1 ∉ Λ.1 ∧ ∃ q6, q6 ∉ (lNew Λ q1 12 16).1 ∧ ∃ q11, q11 ∉ (lNew (lNew Λ q1 12 16) q6 10 16).1 ∧ ∃ q16, q16 ∉ (lNew (lNew (lNew Λ q1 12 16) q6 10 16) q11 10 160).1 ∧ ∃ q21, q21 ∉ (lNew (lNew (lNew (lNew Λ q1 12 16) q6 10 16) q11 10 160) q16 11 160).1 ∧ ∃ q26, q26 ∉ (lNew (lNew (lNew (lNew (lNew Λ q1 12 16) q6 10 16) q11 10 160) q16 11 160) q21 12 160).1 ∧ ∃ q31, q31 ∉ (lNew (lNew (lNew (lNew (lNew (lNew Λ q1 12 16) q6 10 16) q11 10 160) q16 11 160) q21 12 160) q26 10 160).1 ∧ ∃ q36, q36 ∉ (lNew (lNew (lNew (lNew (lNew (lNew (lNew Λ q1 12 16) q6 10 16) q11 10 160) q16 11 160) q21 12 160) q26 10 160) q31 10 480).1 ∧ ∃ q41, q41 ∉ (lNew (lNew (lNew (lNew (lNew (lNew (lNew (lNew Λ q1 12 16) q6 10 16) q11 10 160) q16 11 160) q21 12 160) q26 10 160) q31 10 480) q36 10 16).1 ∧ ∃ q46, q46 ∉ (lNew (lNew (lNew (lNew (lNew (lNew (lNew (lNew (lNew Λ q1 12 16) q6 10 16) q11 10 160) q16 11 160) q21 12 160) q26 10 160) q31 10 480) q36 10 16) q41 10 96).1 ∧ ∃ q51, q51 ∉ (lNew (lNew (lNew (lNew (lNew (lNew (lNew (lNew (lNew (lNew Λ q1 12 16) q6 10 16) q11 10 160) q16 11 160) q21 12 160) q26 10 160) q31 10 480) q36 10 16) q41 10 96) q46 10 16).1 ∧ ∃ q56, q56 ∉ (lNew (lNew (lNew (lNew (lNew (lNew (lNew (lNew (lNew (lNew (lNew Λ q1 12 16) q6 10 16) q11 10 160) q16 11 160) q21 12 160) q26 10 160) q31 10 480) q36 10 16) q41 10 96) q46 10 16) q51 10 192).1 ∧ ∃ q61, q61 ∉ (lNew (lNew (lNew (lNew (lNew (lNew (lNew (lNew (lNew (lNew (lNew (lNew Λ q1 12 16) q6 10 16) q11 10 160) q16 11 160) q21 12 160) q26 10 160) q31 10 480) q36 10 16) q41 10 96) q46 10 16) q51 10 192) q56 12 16).1 ∧ ∃ q66, q66 ∉ (lNew (lNew (lNew (lNew (lNew (lNew (lNew (lNew (lNew (lNew (lNew (lNew (lNew Λ q1 12 16) q6 10 16) q11 10 160) q16 11 160) q21 12 160) q26 10 160) q31 10 480) q36 10 16) q41 10 96) q46 10 16) q51 10 192) q56 12 16) q61 10 16).1 ∧ ∃ q71, q71 ∉ (lNew (lNew (lNew (lNew (lNew (lNew (lNew (lNew (lNew (lNew (lNew (lNew (lNew (lNew Λ q1 12 16) q6 10 16) q11 10 160) q16 11 160) q21 12 160) q26 10 160) q31 10 480) q36 10 16) q41 10 96) q46 10 16) q51 10 192) q56 12 16) q61 10 16) q66 11 11200).1 ∧ ∃ q76, q76 ∉ (lNew (lNew (lNew (lNew (lNew (lNew (lNew (lNew (lNew (lNew (lNew (lNew (lNew (lNew (lNew Λ q1 12 16) q6 10 16) q11 10 160) q16 11 160) q21 12 160) q26 10 160) q31 10 480) q36 10 16) q41 10 96) q46 10 16) q51 10 192) q56 12 16) q61 10 16) q66 11 11200) q71 10 96).1 ∧ ∃ q81, q81 ∉ (lNew (lNew (lNew (lNew (lNew (lNew (lNew (lNew (lNew (lNew (lNew (lNew (lNew (lNew (lNew (lNew Λ q1 12 16) q6 10 16) q11 10 160) q16 11 160) q21 12 160) q26 10 160) q31 10 480) q36 10 16) q41 10 96) q46 10 16) q51 10 192) q56 12 16) q61 10 16) q66 11 11200) q71 10 96) q76 10 16).1 ∧ ∃ q86, q86 ∉ (lNew (lNew (lNew (lNew (lNew (lNew (lNew (lNew (lNew (lNew (lNew (lNew (lNew (lNew (lNew (lNew (lNew Λ q1 12 16) q6 10 16) q11 10 160) q16 11 160) q21 12 160) q26 10 160) q31 10 480) q36 10 16) q41 10 96) q46 10 16) q51 10 192) q56 12 16) q61 10 16) q66 11 11200) q71 10 96) q76 10 16) q81 10 480).1 ∧ ∃ q91, q91 ∉ (lNew (lNew (lNew (lNew (lNew (lNew (lNew (lNew (lNew (lNew (lNew (lNew (lNew (lNew (lNew (lNew (lNew (lNew Λ q1 12 16) q6 10 16) q11 10 160) q16 11 160) q21 12 160) q26 10 160) q31 10 480) q36 10 16) q41 10 96) q46 10 16) q51 10 192) q56 12 16) q61 10 16) q66 11 11200) q71 10 96) q76 10 16) q81 10 480) q86 12 160).1 ∧ ∃ q96, q96 ∉ (lNew (lNew (lNew (lNew (lNew (lNew (lNew (lNew (lNew (lNew (lNew (lNew (lNew (lNew (lNew (lNew (lNew (lNew (lNew Λ q1 12 16) q6 10 16) q11 10 160) q16 11 160) q21 12 160) q26 10 160) q31 10 480) q36 10 16) q41 10 96) q46 10 16) q51 10 192) q56 12 16) q61 10 16) q66 11 11200) q71 10 96) q76 10 16) q81 10 480) q86 12 160) q91 11 160).1 ∧ ∃ q101, q101 ∉ (lNew (lNew (lNew (lNew (lNew (lNew (lNew (lNew (lNew (lNew (lNew (lNew (lNew (lNew (lNew (lNew (lNew (lNew (lNew (lNew Λ q1 12 16) q6 10 16) q11 10 160) q16 11 160) q21 12 160) q26 10 160) q31 10 480) q36 10 16) q41 10 96) q46 10 16) q51 10 192) q56 12 16) q61 10 16) q66 11 11200) q71 10 96) q76 10 16) q81 10 480) q86 12 160) q91 11 160) q96 10 160).1 ∧ ∃ q106, q106 ∉ (lNew (lNew (lNew (lNew (lNew (lNew (lNew (lNew (lNew (lNew (lNew (lNew (lNew (lNew (lNew (lNew (lNew (lNew (lNew (lNew (lNew Λ q1 12 16) q6 10 16) q11 10 160) q16 11 160) q21 12 160) q26 10 160) q31 10 480) q36 10 16) q41 10 96) q46 10 16) q51 10 192) q56 12 16) q61 10 16) q66 11 11200) q71 10 96) q76 10 16) q81 10 480) q86 12 160) q91 11 160) q96 10 160) q101 12 160).1 ∧ ∃ q111, q111 ∉ (lNew (lNew (lNew (lNew (lNew (lNew (lNew (lNew (lNew (lNew (lNew (lNew (lNew (lNew (lNew (lNew (lNew (lNew (lNew (lNew (lNew (lNew Λ q1 12 16) q6 10 16) q11 10 160) q16 11 160) q21 12 160) q26 10 160) q31 10 480) q36 10 16) q41 10 96) q46 10 16) q51 10 192) q56 12 16) q61 10 16) q66 11 11200) q71 10 96) q76 10 16) q81 10 480) q86 12 160) q91 11 160) q96 10 160) q101 12 160) q106 10 170).1 ∧ ∃ q116, q116 ∉ (lNew (lNew (lNew (lNew (lNew (lNew (lNew (lNew (lNew (lNew (lNew (lNew (lNew (lNew (lNew (lNew (lNew (lNew (lNew (lNew (lNew (lNew (lNew Λ q1 12 16) q6 10 16) q11 10 160) q16 11 160) q21 12 160) q26 10 160) q31 10 480) q36 10 16) q41 10 96) q46 10 16) q51 10 192) q56 12 16) q61 10 16) q66 11 11200) q71 10 96) q76 10 16) q81 10 480) q86 12 160) q91 11 160) q96 10 160) q101 12 160) q106 10 170) q111 10 170).1 ∧ ∃ q121, q121 ∉ (lNew (lNew (lNew (lNew (lNew (lNew (lNew (lNew (lNew (lNew (lNew (lNew (lNew (lNew (lNew (lNew (lNew (lNew (lNew (lNew (lNew (lNew (lNew (lNew Λ q1 12 16) q6 10 16) q11 10 160) q16 11 160) q21 12 160) q26 10 160) q31 10 480) q36 10 16) q41 10 96) q46 10 16) q51 10 192) q56 12 16) q61 10 16) q66 11 11200) q71 10 96) q76 10 16) q81 10 480) q86 12 160) q91 11 160) q96 10 160) q101 12 160) q106 10 170) q111 10 170) q116 11 700).1 ∧ ∃ q126, q126 ∉ (lNew (lNew (lNew (lNew (lNew (lNew (lNew (lNew (lNew (lNew (lNew (lNew (lNew (lNew (lNew (lNew (lNew (lNew (lNew (lNew (lNew (lNew (lNew (lNew (lNew Λ q1 12 16) q6 10 16) q11 10 160) q16 11 160) q21 12 160) q26 10 160) q31 10 480) q36 10 16) q41 10 96) q46 10 16) q51 10 192) q56 12 16) q61 10 16) q66 11 11200) q71 10 96) q76 10 16) q81 10 480) q86 12 160) q91 11 160) q96 10 160) q101 12 160) q106 10 170) q111 10 170) q116 11 700) q121 10 6).1 ∧ ∃ q131, q131 ∉ (lNew (lNew (lNew (lNew (lNew (lNew (lNew (lNew (lNew (lNew (lNew (lNew (lNew (lNew (lNew (lNew (lNew (lNew (lNew (lNew (lNew (lNew (lNew (lNew (lNew (lNew Λ q1 12 16) q6 10 16) q11 10 160) q16 11 160) q21 12 160) q26 10 160) q31 10 480) q36 10 16) q41 10 96) q46 10 16) q51 10 192) q56 12 16) q61 10 16) q66 11 11200) q71 10 96) q76 10 16) q81 10 480) q86 12 160) q91 11 160) q96 10 160) q101 12 160) q106 10 170) q111 10 170) q116 11 700) q121 10 6) q126 12 256).1 ∧ ∃ q136, q136 ∉ (lNew (lNew (lNew (lNew (lNew (lNew (lNew (lNew (lNew (lNew (lNew (lNew (lNew (lNew (lNew (lNew (lNew (lNew (lNew (lNew (lNew (lNew (lNew (lNew (lNew (lNew (lNew Λ q1 12 16) q6 10 16) q11 10 160) q16 11 160) q21 12 160) q26 10 160) q31 10 480) q36 10 16) q41 10 96) q46 10 16) q51 10 192) q56 12 16) q61 10 16) q66 11 11200) q71 10 96) q76 10 16) q81 10 480) q86 12 160) q91 11 160) q96 10 160) q101 12 160) q106 10 170) q111 10 170) q116 11 700) q121 10 6) q126 12 256) q131 10 16).1 ∧ ∃ q141, q141 ∉ (lNew (lNew (lNew (lNew (lNew (lNew (lNew (lNew (lNew (lNew (lNew (lNew (lNew (lNew (lNew (lNew (lNew (lNew (lNew (lNew (lNew (lNew (lNew (lNew (lNew (lNew (lNew (lNew Λ q1 12 16) q6 10 16) q11 10 160) q16 11 160) q21 12 160) q26 10 160) q31 10 480) q36 10 16) q41 10 96) q46 10 16) q51 10 192) q56 12 16) q61 10 16) q66 11 11200) q71 10 96) q76 10 16) q81 10 480) q86 12 160) q91 11 160) q96 10 160) q101 12 160) q106 10 170) q111 10 170) q116 11 700) q121 10 6) q126 12 256) q131 10 16) q136 10 16).1 ∧ Λ' = (lNew (lNew (lNew (lNew (lNew (lNew (lNew (lNew (lNew (lNew (lNew (lNew (lNew (lNew (lNew (lNew (lNew (lNew (lNew (lNew (lNew (lNew (lNew (lNew (lNew (lNew (lNew (lNew (lNew Λ q1 12 16) q6 10 16) q11 10 160) q16 11 160) q21 12 160) q26 10 160) q31 10 480) q36 10 16) q41 10 96) q46 10 16) q51 10 192) q56 12 16) q61 10 16) q66 11 11200) q71 10 96) q76 10 16) q81 10 480) q86 12 160) q91 11 160) q96 10 160) q101 12 160) q106 10 170) q111 10 170) q116 11 700) q121 10 6) q126 12 256) q131 10 16) q136 10 16) q141 12 16) ∧ S' = (sFR (sNew (sFR (sNew (sFR (sNew (sFR (sNew (sFR (sNew (sFR (sNew (sFR (sNew (sFR (sNew (sFR (sNew (sFR (sNew (sFR (sNew (sFR (sNew (sFR (sNew (sFR (sNew (sFR (sNew (sFR (sNew (sFR (sNew (sFR (sNew (sFR (sNew (sFR (sNew (sFR (sNew (sFR (sNew (sFR (sNew (sFR (sNew (sFR (sNew (sFR (sNew (sFR (sNew (sFR (sNew (sFR (sNew S q1) 362 p0 (some q1)) q6) 363 p0 (some q6)) q11) 364 p0 (some q11)) q16) 365 p0 (some q16)) q21) 366 p0 (some q21)) q26) 367 p0 (some q26)) q31) 368 p0 (some q31)) q36) 369 p0 (some q36)) q41) 370 p0 (some q41)) q46) 371 p0 (some q46)) q51) 372 p0 (some q51)) q56) 373 p0 (some q56)) q61) 374 p0 (some q61)) q66) 375 p0 (some q66)) q71) 376 p0 (some q71)) q76) 377 p0 (some q76)) q81) 379 p0 (some q81)) q86) 380 p0 (some q86)) q91) 381 p0 (some q91)) q96) 382 p0 (some q96)) q101) 383 p0 (some q101)) q106) 385 p0 (some q106)) q111) 386 p0 (some q111)) q116) 387 p0 (some q116)) q121) 389 p0 (some q121)) q126) 390 p0 (some q126)) q131) 391 p0 (some q131)) q136) 392 p0 (some q136)) q141) 395 p0 (some q141))
abbrev rm_X9_init : Room := { frames := 1, cells := 29, slots := 15286, locals := 60 }
set_option maxHeartbeats 4000000 in
theorem c_X9_init {l : Launch} {D : va_G} {cy : Nat → ClassId} {Λ : sLay} {S : sSt} (p0 : Nat) (tp0 : isK Λ 9 p0) : jMa l yX9_init (Cond.code yX9_init cX9_init 1 none :: bigW) rm_X9_init D cy Λ S [vR (some p0)] rV (fun _ Λ1 S1 => R_X9_init Λ S p0 Λ1 S1) 29 15286 := by
  refine jMa_of (by decide +kernel) (Nat.le_of_ble_eq_true rfl) (fun X C E hin => ?_)
  refine j_sub [0] (L' := [(0, vR (some p0))]) rfl ?_
  refine j_aload_n C dX9_init_0 0 rfl ?_
  refine jb_obj C (big_mem 887 (by decide +kernel) (by decide +kernel)) (big_mem 64 (by decide +kernel) (by decide +kernel)) (big_mem 65 (by decide +kernel) (by decide +kernel)) ⟨Nat.le_of_ble_eq_true rfl, Nat.le_of_ble_eq_true rfl⟩ (Nat.le_of_ble_eq_true rfl) dX9_init_1 ?_
  refine j_aload_n C dX9_init_4 0 rfl ?_
  refine j_bipush C (v := (16 : Int32)) dX9_init_5 (by decide) ?_
  refine jb_newZ C (len := 16) (big_mem 997 (by decide +kernel) (by decide +kernel)) (by decide) (by decide) (by decide) ⟨Nat.le_of_ble_eq_true rfl, Nat.le_of_ble_eq_true rfl⟩ dX9_init_7 (fun q1 hq1 => ?_)
  have e2 : lExt Λ (lNew Λ q1 12 16) := lExt.new hq1
  have t3 := isK.ext e2 tp0
  have x4 := lExt.tr lExt.rf e2
  have t5 : isK (lNew Λ q1 12 16) 12 q1 := isK.mk
  refine jb_putFR C kK9 f362 (big_mem 890 (by decide +kernel) (by decide +kernel)) (by decide) rfl hin rfl rfl rfl t3 t5 dX9_init_9 ?_
  refine j_aload_n C dX9_init_12 0 rfl ?_
  refine j_bipush C (v := (16 : Int32)) dX9_init_13 (by decide) ?_
  refine jb_newI C (len := 16) (big_mem 166 (by decide +kernel) (by decide +kernel)) (by decide) (by decide) (by decide) ⟨Nat.le_of_ble_eq_true rfl, Nat.le_of_ble_eq_true rfl⟩ dX9_init_15 (fun q6 hq6 => ?_)
  have e7 : lExt (lNew Λ q1 12 16) (lNew (lNew Λ q1 12 16) q6 10 16) := lExt.new hq6
  have t8 := isK.ext e7 t3
  have x9 := lExt.tr x4 e7
  have t10 : isK (lNew (lNew Λ q1 12 16) q6 10 16) 10 q6 := isK.mk
  refine jb_putFR C kK9 f363 (big_mem 891 (by decide +kernel) (by decide +kernel)) (by decide) rfl hin rfl rfl rfl t8 t10 dX9_init_17 ?_
  refine j_aload_n C dX9_init_20 0 rfl ?_
  refine j_sipush C (v := (160 : Int32)) dX9_init_21 (by decide) ?_
  refine jb_newI C (len := 160) (big_mem 166 (by decide +kernel) (by decide +kernel)) (by decide) (by decide) (by decide) ⟨Nat.le_of_ble_eq_true rfl, Nat.le_of_ble_eq_true rfl⟩ dX9_init_24 (fun q11 hq11 => ?_)
  have e12 : lExt (lNew (lNew Λ q1 12 16) q6 10 16) (lNew (lNew (lNew Λ q1 12 16) q6 10 16) q11 10 160) := lExt.new hq11
  have t13 := isK.ext e12 t8
  have x14 := lExt.tr x9 e12
  have t15 : isK (lNew (lNew (lNew Λ q1 12 16) q6 10 16) q11 10 160) 10 q11 := isK.mk
  refine jb_putFR C kK9 f364 (big_mem 892 (by decide +kernel) (by decide +kernel)) (by decide) rfl hin rfl rfl rfl t13 t15 dX9_init_26 ?_
  refine j_aload_n C dX9_init_29 0 rfl ?_
  refine j_sipush C (v := (160 : Int32)) dX9_init_30 (by decide) ?_
  refine jb_newJ C (len := 160) (big_mem 136 (by decide +kernel) (by decide +kernel)) (by decide) (by decide) (by decide) ⟨Nat.le_of_ble_eq_true rfl, Nat.le_of_ble_eq_true rfl⟩ dX9_init_33 (fun q16 hq16 => ?_)
  have e17 : lExt (lNew (lNew (lNew Λ q1 12 16) q6 10 16) q11 10 160) (lNew (lNew (lNew (lNew Λ q1 12 16) q6 10 16) q11 10 160) q16 11 160) := lExt.new hq16
  have t18 := isK.ext e17 t13
  have x19 := lExt.tr x14 e17
  have t20 : isK (lNew (lNew (lNew (lNew Λ q1 12 16) q6 10 16) q11 10 160) q16 11 160) 11 q16 := isK.mk
  refine jb_putFR C kK9 f365 (big_mem 893 (by decide +kernel) (by decide +kernel)) (by decide) rfl hin rfl rfl rfl t18 t20 dX9_init_35 ?_
  refine j_aload_n C dX9_init_38 0 rfl ?_
  refine j_sipush C (v := (160 : Int32)) dX9_init_39 (by decide) ?_
  refine jb_newZ C (len := 160) (big_mem 997 (by decide +kernel) (by decide +kernel)) (by decide) (by decide) (by decide) ⟨Nat.le_of_ble_eq_true rfl, Nat.le_of_ble_eq_true rfl⟩ dX9_init_42 (fun q21 hq21 => ?_)
  have e22 : lExt (lNew (lNew (lNew (lNew Λ q1 12 16) q6 10 16) q11 10 160) q16 11 160) (lNew (lNew (lNew (lNew (lNew Λ q1 12 16) q6 10 16) q11 10 160) q16 11 160) q21 12 160) := lExt.new hq21
  have t23 := isK.ext e22 t18
  have x24 := lExt.tr x19 e22
  have t25 : isK (lNew (lNew (lNew (lNew (lNew Λ q1 12 16) q6 10 16) q11 10 160) q16 11 160) q21 12 160) 12 q21 := isK.mk
  refine jb_putFR C kK9 f366 (big_mem 894 (by decide +kernel) (by decide +kernel)) (by decide) rfl hin rfl rfl rfl t23 t25 dX9_init_44 ?_
  refine j_aload_n C dX9_init_47 0 rfl ?_
  refine j_sipush C (v := (160 : Int32)) dX9_init_48 (by decide) ?_
  refine jb_newI C (len := 160) (big_mem 166 (by decide +kernel) (by decide +kernel)) (by decide) (by decide) (by decide) ⟨Nat.le_of_ble_eq_true rfl, Nat.le_of_ble_eq_true rfl⟩ dX9_init_51 (fun q26 hq26 => ?_)
  have e27 : lExt (lNew (lNew (lNew (lNew (lNew Λ q1 12 16) q6 10 16) q11 10 160) q16 11 160) q21 12 160) (lNew (lNew (lNew (lNew (lNew (lNew Λ q1 12 16) q6 10 16) q11 10 160) q16 11 160) q21 12 160) q26 10 160) := lExt.new hq26
  have t28 := isK.ext e27 t23
  have x29 := lExt.tr x24 e27
  have t30 : isK (lNew (lNew (lNew (lNew (lNew (lNew Λ q1 12 16) q6 10 16) q11 10 160) q16 11 160) q21 12 160) q26 10 160) 10 q26 := isK.mk
  refine jb_putFR C kK9 f367 (big_mem 895 (by decide +kernel) (by decide +kernel)) (by decide) rfl hin rfl rfl rfl t28 t30 dX9_init_53 ?_
  refine j_aload_n C dX9_init_56 0 rfl ?_
  refine j_sipush C (v := (480 : Int32)) dX9_init_57 (by decide) ?_
  refine jb_newI C (len := 480) (big_mem 166 (by decide +kernel) (by decide +kernel)) (by decide) (by decide) (by decide) ⟨Nat.le_of_ble_eq_true rfl, Nat.le_of_ble_eq_true rfl⟩ dX9_init_60 (fun q31 hq31 => ?_)
  have e32 : lExt (lNew (lNew (lNew (lNew (lNew (lNew Λ q1 12 16) q6 10 16) q11 10 160) q16 11 160) q21 12 160) q26 10 160) (lNew (lNew (lNew (lNew (lNew (lNew (lNew Λ q1 12 16) q6 10 16) q11 10 160) q16 11 160) q21 12 160) q26 10 160) q31 10 480) := lExt.new hq31
  have t33 := isK.ext e32 t28
  have x34 := lExt.tr x29 e32
  have t35 : isK (lNew (lNew (lNew (lNew (lNew (lNew (lNew Λ q1 12 16) q6 10 16) q11 10 160) q16 11 160) q21 12 160) q26 10 160) q31 10 480) 10 q31 := isK.mk
  refine jb_putFR C kK9 f368 (big_mem 896 (by decide +kernel) (by decide +kernel)) (by decide) rfl hin rfl rfl rfl t33 t35 dX9_init_62 ?_
  refine j_aload_n C dX9_init_65 0 rfl ?_
  refine j_bipush C (v := (16 : Int32)) dX9_init_66 (by decide) ?_
  refine jb_newI C (len := 16) (big_mem 166 (by decide +kernel) (by decide +kernel)) (by decide) (by decide) (by decide) ⟨Nat.le_of_ble_eq_true rfl, Nat.le_of_ble_eq_true rfl⟩ dX9_init_68 (fun q36 hq36 => ?_)
  have e37 : lExt (lNew (lNew (lNew (lNew (lNew (lNew (lNew Λ q1 12 16) q6 10 16) q11 10 160) q16 11 160) q21 12 160) q26 10 160) q31 10 480) (lNew (lNew (lNew (lNew (lNew (lNew (lNew (lNew Λ q1 12 16) q6 10 16) q11 10 160) q16 11 160) q21 12 160) q26 10 160) q31 10 480) q36 10 16) := lExt.new hq36
  have t38 := isK.ext e37 t33
  have x39 := lExt.tr x34 e37
  have t40 : isK (lNew (lNew (lNew (lNew (lNew (lNew (lNew (lNew Λ q1 12 16) q6 10 16) q11 10 160) q16 11 160) q21 12 160) q26 10 160) q31 10 480) q36 10 16) 10 q36 := isK.mk
  refine jb_putFR C kK9 f369 (big_mem 897 (by decide +kernel) (by decide +kernel)) (by decide) rfl hin rfl rfl rfl t38 t40 dX9_init_70 ?_
  refine j_aload_n C dX9_init_73 0 rfl ?_
  refine j_bipush C (v := (96 : Int32)) dX9_init_74 (by decide) ?_
  refine jb_newI C (len := 96) (big_mem 166 (by decide +kernel) (by decide +kernel)) (by decide) (by decide) (by decide) ⟨Nat.le_of_ble_eq_true rfl, Nat.le_of_ble_eq_true rfl⟩ dX9_init_76 (fun q41 hq41 => ?_)
  have e42 : lExt (lNew (lNew (lNew (lNew (lNew (lNew (lNew (lNew Λ q1 12 16) q6 10 16) q11 10 160) q16 11 160) q21 12 160) q26 10 160) q31 10 480) q36 10 16) (lNew (lNew (lNew (lNew (lNew (lNew (lNew (lNew (lNew Λ q1 12 16) q6 10 16) q11 10 160) q16 11 160) q21 12 160) q26 10 160) q31 10 480) q36 10 16) q41 10 96) := lExt.new hq41
  have t43 := isK.ext e42 t38
  have x44 := lExt.tr x39 e42
  have t45 : isK (lNew (lNew (lNew (lNew (lNew (lNew (lNew (lNew (lNew Λ q1 12 16) q6 10 16) q11 10 160) q16 11 160) q21 12 160) q26 10 160) q31 10 480) q36 10 16) q41 10 96) 10 q41 := isK.mk
  refine jb_putFR C kK9 f370 (big_mem 898 (by decide +kernel) (by decide +kernel)) (by decide) rfl hin rfl rfl rfl t43 t45 dX9_init_78 ?_
  refine j_aload_n C dX9_init_81 0 rfl ?_
  refine j_bipush C (v := (16 : Int32)) dX9_init_82 (by decide) ?_
  refine jb_newI C (len := 16) (big_mem 166 (by decide +kernel) (by decide +kernel)) (by decide) (by decide) (by decide) ⟨Nat.le_of_ble_eq_true rfl, Nat.le_of_ble_eq_true rfl⟩ dX9_init_84 (fun q46 hq46 => ?_)
  have e47 : lExt (lNew (lNew (lNew (lNew (lNew (lNew (lNew (lNew (lNew Λ q1 12 16) q6 10 16) q11 10 160) q16 11 160) q21 12 160) q26 10 160) q31 10 480) q36 10 16) q41 10 96) (lNew (lNew (lNew (lNew (lNew (lNew (lNew (lNew (lNew (lNew Λ q1 12 16) q6 10 16) q11 10 160) q16 11 160) q21 12 160) q26 10 160) q31 10 480) q36 10 16) q41 10 96) q46 10 16) := lExt.new hq46
  have t48 := isK.ext e47 t43
  have x49 := lExt.tr x44 e47
  have t50 : isK (lNew (lNew (lNew (lNew (lNew (lNew (lNew (lNew (lNew (lNew Λ q1 12 16) q6 10 16) q11 10 160) q16 11 160) q21 12 160) q26 10 160) q31 10 480) q36 10 16) q41 10 96) q46 10 16) 10 q46 := isK.mk
  refine jb_putFR C kK9 f371 (big_mem 899 (by decide +kernel) (by decide +kernel)) (by decide) rfl hin rfl rfl rfl t48 t50 dX9_init_86 ?_
  refine j_aload_n C dX9_init_89 0 rfl ?_
  refine j_sipush C (v := (192 : Int32)) dX9_init_90 (by decide) ?_
  refine jb_newI C (len := 192) (big_mem 166 (by decide +kernel) (by decide +kernel)) (by decide) (by decide) (by decide) ⟨Nat.le_of_ble_eq_true rfl, Nat.le_of_ble_eq_true rfl⟩ dX9_init_93 (fun q51 hq51 => ?_)
  have e52 : lExt (lNew (lNew (lNew (lNew (lNew (lNew (lNew (lNew (lNew (lNew Λ q1 12 16) q6 10 16) q11 10 160) q16 11 160) q21 12 160) q26 10 160) q31 10 480) q36 10 16) q41 10 96) q46 10 16) (lNew (lNew (lNew (lNew (lNew (lNew (lNew (lNew (lNew (lNew (lNew Λ q1 12 16) q6 10 16) q11 10 160) q16 11 160) q21 12 160) q26 10 160) q31 10 480) q36 10 16) q41 10 96) q46 10 16) q51 10 192) := lExt.new hq51
  have t53 := isK.ext e52 t48
  have x54 := lExt.tr x49 e52
  have t55 : isK (lNew (lNew (lNew (lNew (lNew (lNew (lNew (lNew (lNew (lNew (lNew Λ q1 12 16) q6 10 16) q11 10 160) q16 11 160) q21 12 160) q26 10 160) q31 10 480) q36 10 16) q41 10 96) q46 10 16) q51 10 192) 10 q51 := isK.mk
  refine jb_putFR C kK9 f372 (big_mem 900 (by decide +kernel) (by decide +kernel)) (by decide) rfl hin rfl rfl rfl t53 t55 dX9_init_95 ?_
  refine j_aload_n C dX9_init_98 0 rfl ?_
  refine j_bipush C (v := (16 : Int32)) dX9_init_99 (by decide) ?_
  refine jb_newZ C (len := 16) (big_mem 997 (by decide +kernel) (by decide +kernel)) (by decide) (by decide) (by decide) ⟨Nat.le_of_ble_eq_true rfl, Nat.le_of_ble_eq_true rfl⟩ dX9_init_101 (fun q56 hq56 => ?_)
  have e57 : lExt (lNew (lNew (lNew (lNew (lNew (lNew (lNew (lNew (lNew (lNew (lNew Λ q1 12 16) q6 10 16) q11 10 160) q16 11 160) q21 12 160) q26 10 160) q31 10 480) q36 10 16) q41 10 96) q46 10 16) q51 10 192) (lNew (lNew (lNew (lNew (lNew (lNew (lNew (lNew (lNew (lNew (lNew (lNew Λ q1 12 16) q6 10 16) q11 10 160) q16 11 160) q21 12 160) q26 10 160) q31 10 480) q36 10 16) q41 10 96) q46 10 16) q51 10 192) q56 12 16) := lExt.new hq56
  have t58 := isK.ext e57 t53
  have x59 := lExt.tr x54 e57
  have t60 : isK (lNew (lNew (lNew (lNew (lNew (lNew (lNew (lNew (lNew (lNew (lNew (lNew Λ q1 12 16) q6 10 16) q11 10 160) q16 11 160) q21 12 160) q26 10 160) q31 10 480) q36 10 16) q41 10 96) q46 10 16) q51 10 192) q56 12 16) 12 q56 := isK.mk
  refine jb_putFR C kK9 f373 (big_mem 901 (by decide +kernel) (by decide +kernel)) (by decide) rfl hin rfl rfl rfl t58 t60 dX9_init_103 ?_
  refine j_aload_n C dX9_init_106 0 rfl ?_
  refine j_bipush C (v := (16 : Int32)) dX9_init_107 (by decide) ?_
  refine jb_newI C (len := 16) (big_mem 166 (by decide +kernel) (by decide +kernel)) (by decide) (by decide) (by decide) ⟨Nat.le_of_ble_eq_true rfl, Nat.le_of_ble_eq_true rfl⟩ dX9_init_109 (fun q61 hq61 => ?_)
  have e62 : lExt (lNew (lNew (lNew (lNew (lNew (lNew (lNew (lNew (lNew (lNew (lNew (lNew Λ q1 12 16) q6 10 16) q11 10 160) q16 11 160) q21 12 160) q26 10 160) q31 10 480) q36 10 16) q41 10 96) q46 10 16) q51 10 192) q56 12 16) (lNew (lNew (lNew (lNew (lNew (lNew (lNew (lNew (lNew (lNew (lNew (lNew (lNew Λ q1 12 16) q6 10 16) q11 10 160) q16 11 160) q21 12 160) q26 10 160) q31 10 480) q36 10 16) q41 10 96) q46 10 16) q51 10 192) q56 12 16) q61 10 16) := lExt.new hq61
  have t63 := isK.ext e62 t58
  have x64 := lExt.tr x59 e62
  have t65 : isK (lNew (lNew (lNew (lNew (lNew (lNew (lNew (lNew (lNew (lNew (lNew (lNew (lNew Λ q1 12 16) q6 10 16) q11 10 160) q16 11 160) q21 12 160) q26 10 160) q31 10 480) q36 10 16) q41 10 96) q46 10 16) q51 10 192) q56 12 16) q61 10 16) 10 q61 := isK.mk
  refine jb_putFR C kK9 f374 (big_mem 902 (by decide +kernel) (by decide +kernel)) (by decide) rfl hin rfl rfl rfl t63 t65 dX9_init_111 ?_
  refine j_aload_n C dX9_init_114 0 rfl ?_
  refine j_sipush C (v := (11200 : Int32)) dX9_init_115 (by decide) ?_
  refine jb_newJ C (len := 11200) (big_mem 136 (by decide +kernel) (by decide +kernel)) (by decide) (by decide) (by decide) ⟨Nat.le_of_ble_eq_true rfl, Nat.le_of_ble_eq_true rfl⟩ dX9_init_118 (fun q66 hq66 => ?_)
  have e67 : lExt (lNew (lNew (lNew (lNew (lNew (lNew (lNew (lNew (lNew (lNew (lNew (lNew (lNew Λ q1 12 16) q6 10 16) q11 10 160) q16 11 160) q21 12 160) q26 10 160) q31 10 480) q36 10 16) q41 10 96) q46 10 16) q51 10 192) q56 12 16) q61 10 16) (lNew (lNew (lNew (lNew (lNew (lNew (lNew (lNew (lNew (lNew (lNew (lNew (lNew (lNew Λ q1 12 16) q6 10 16) q11 10 160) q16 11 160) q21 12 160) q26 10 160) q31 10 480) q36 10 16) q41 10 96) q46 10 16) q51 10 192) q56 12 16) q61 10 16) q66 11 11200) := lExt.new hq66
  have t68 := isK.ext e67 t63
  have x69 := lExt.tr x64 e67
  have t70 : isK (lNew (lNew (lNew (lNew (lNew (lNew (lNew (lNew (lNew (lNew (lNew (lNew (lNew (lNew Λ q1 12 16) q6 10 16) q11 10 160) q16 11 160) q21 12 160) q26 10 160) q31 10 480) q36 10 16) q41 10 96) q46 10 16) q51 10 192) q56 12 16) q61 10 16) q66 11 11200) 11 q66 := isK.mk
  refine jb_putFR C kK9 f375 (big_mem 903 (by decide +kernel) (by decide +kernel)) (by decide) rfl hin rfl rfl rfl t68 t70 dX9_init_120 ?_
  refine j_aload_n C dX9_init_123 0 rfl ?_
  refine j_bipush C (v := (96 : Int32)) dX9_init_124 (by decide) ?_
  refine jb_newI C (len := 96) (big_mem 166 (by decide +kernel) (by decide +kernel)) (by decide) (by decide) (by decide) ⟨Nat.le_of_ble_eq_true rfl, Nat.le_of_ble_eq_true rfl⟩ dX9_init_126 (fun q71 hq71 => ?_)
  have e72 : lExt (lNew (lNew (lNew (lNew (lNew (lNew (lNew (lNew (lNew (lNew (lNew (lNew (lNew (lNew Λ q1 12 16) q6 10 16) q11 10 160) q16 11 160) q21 12 160) q26 10 160) q31 10 480) q36 10 16) q41 10 96) q46 10 16) q51 10 192) q56 12 16) q61 10 16) q66 11 11200) (lNew (lNew (lNew (lNew (lNew (lNew (lNew (lNew (lNew (lNew (lNew (lNew (lNew (lNew (lNew Λ q1 12 16) q6 10 16) q11 10 160) q16 11 160) q21 12 160) q26 10 160) q31 10 480) q36 10 16) q41 10 96) q46 10 16) q51 10 192) q56 12 16) q61 10 16) q66 11 11200) q71 10 96) := lExt.new hq71
  have t73 := isK.ext e72 t68
  have x74 := lExt.tr x69 e72
  have t75 : isK (lNew (lNew (lNew (lNew (lNew (lNew (lNew (lNew (lNew (lNew (lNew (lNew (lNew (lNew (lNew Λ q1 12 16) q6 10 16) q11 10 160) q16 11 160) q21 12 160) q26 10 160) q31 10 480) q36 10 16) q41 10 96) q46 10 16) q51 10 192) q56 12 16) q61 10 16) q66 11 11200) q71 10 96) 10 q71 := isK.mk
  refine jb_putFR C kK9 f376 (big_mem 904 (by decide +kernel) (by decide +kernel)) (by decide) rfl hin rfl rfl rfl t73 t75 dX9_init_128 ?_
  refine j_aload_n C dX9_init_131 0 rfl ?_
  refine j_bipush C (v := (16 : Int32)) dX9_init_132 (by decide) ?_
  refine jb_newI C (len := 16) (big_mem 166 (by decide +kernel) (by decide +kernel)) (by decide) (by decide) (by decide) ⟨Nat.le_of_ble_eq_true rfl, Nat.le_of_ble_eq_true rfl⟩ dX9_init_134 (fun q76 hq76 => ?_)
  have e77 : lExt (lNew (lNew (lNew (lNew (lNew (lNew (lNew (lNew (lNew (lNew (lNew (lNew (lNew (lNew (lNew Λ q1 12 16) q6 10 16) q11 10 160) q16 11 160) q21 12 160) q26 10 160) q31 10 480) q36 10 16) q41 10 96) q46 10 16) q51 10 192) q56 12 16) q61 10 16) q66 11 11200) q71 10 96) (lNew (lNew (lNew (lNew (lNew (lNew (lNew (lNew (lNew (lNew (lNew (lNew (lNew (lNew (lNew (lNew Λ q1 12 16) q6 10 16) q11 10 160) q16 11 160) q21 12 160) q26 10 160) q31 10 480) q36 10 16) q41 10 96) q46 10 16) q51 10 192) q56 12 16) q61 10 16) q66 11 11200) q71 10 96) q76 10 16) := lExt.new hq76
  have t78 := isK.ext e77 t73
  have x79 := lExt.tr x74 e77
  have t80 : isK (lNew (lNew (lNew (lNew (lNew (lNew (lNew (lNew (lNew (lNew (lNew (lNew (lNew (lNew (lNew (lNew Λ q1 12 16) q6 10 16) q11 10 160) q16 11 160) q21 12 160) q26 10 160) q31 10 480) q36 10 16) q41 10 96) q46 10 16) q51 10 192) q56 12 16) q61 10 16) q66 11 11200) q71 10 96) q76 10 16) 10 q76 := isK.mk
  refine jb_putFR C kK9 f377 (big_mem 905 (by decide +kernel) (by decide +kernel)) (by decide) rfl hin rfl rfl rfl t78 t80 dX9_init_136 ?_
  refine j_aload_n C dX9_init_139 0 rfl ?_
  refine j_sipush C (v := (480 : Int32)) dX9_init_140 (by decide) ?_
  refine jb_newI C (len := 480) (big_mem 166 (by decide +kernel) (by decide +kernel)) (by decide) (by decide) (by decide) ⟨Nat.le_of_ble_eq_true rfl, Nat.le_of_ble_eq_true rfl⟩ dX9_init_143 (fun q81 hq81 => ?_)
  have e82 : lExt (lNew (lNew (lNew (lNew (lNew (lNew (lNew (lNew (lNew (lNew (lNew (lNew (lNew (lNew (lNew (lNew Λ q1 12 16) q6 10 16) q11 10 160) q16 11 160) q21 12 160) q26 10 160) q31 10 480) q36 10 16) q41 10 96) q46 10 16) q51 10 192) q56 12 16) q61 10 16) q66 11 11200) q71 10 96) q76 10 16) (lNew (lNew (lNew (lNew (lNew (lNew (lNew (lNew (lNew (lNew (lNew (lNew (lNew (lNew (lNew (lNew (lNew Λ q1 12 16) q6 10 16) q11 10 160) q16 11 160) q21 12 160) q26 10 160) q31 10 480) q36 10 16) q41 10 96) q46 10 16) q51 10 192) q56 12 16) q61 10 16) q66 11 11200) q71 10 96) q76 10 16) q81 10 480) := lExt.new hq81
  have t83 := isK.ext e82 t78
  have x84 := lExt.tr x79 e82
  have t85 : isK (lNew (lNew (lNew (lNew (lNew (lNew (lNew (lNew (lNew (lNew (lNew (lNew (lNew (lNew (lNew (lNew (lNew Λ q1 12 16) q6 10 16) q11 10 160) q16 11 160) q21 12 160) q26 10 160) q31 10 480) q36 10 16) q41 10 96) q46 10 16) q51 10 192) q56 12 16) q61 10 16) q66 11 11200) q71 10 96) q76 10 16) q81 10 480) 10 q81 := isK.mk
  refine jb_putFR C kK9 f379 (big_mem 907 (by decide +kernel) (by decide +kernel)) (by decide) rfl hin rfl rfl rfl t83 t85 dX9_init_145 ?_
  refine j_aload_n C dX9_init_148 0 rfl ?_
  refine j_sipush C (v := (160 : Int32)) dX9_init_149 (by decide) ?_
  refine jb_newZ C (len := 160) (big_mem 997 (by decide +kernel) (by decide +kernel)) (by decide) (by decide) (by decide) ⟨Nat.le_of_ble_eq_true rfl, Nat.le_of_ble_eq_true rfl⟩ dX9_init_152 (fun q86 hq86 => ?_)
  have e87 : lExt (lNew (lNew (lNew (lNew (lNew (lNew (lNew (lNew (lNew (lNew (lNew (lNew (lNew (lNew (lNew (lNew (lNew Λ q1 12 16) q6 10 16) q11 10 160) q16 11 160) q21 12 160) q26 10 160) q31 10 480) q36 10 16) q41 10 96) q46 10 16) q51 10 192) q56 12 16) q61 10 16) q66 11 11200) q71 10 96) q76 10 16) q81 10 480) (lNew (lNew (lNew (lNew (lNew (lNew (lNew (lNew (lNew (lNew (lNew (lNew (lNew (lNew (lNew (lNew (lNew (lNew Λ q1 12 16) q6 10 16) q11 10 160) q16 11 160) q21 12 160) q26 10 160) q31 10 480) q36 10 16) q41 10 96) q46 10 16) q51 10 192) q56 12 16) q61 10 16) q66 11 11200) q71 10 96) q76 10 16) q81 10 480) q86 12 160) := lExt.new hq86
  have t88 := isK.ext e87 t83
  have x89 := lExt.tr x84 e87
  have t90 : isK (lNew (lNew (lNew (lNew (lNew (lNew (lNew (lNew (lNew (lNew (lNew (lNew (lNew (lNew (lNew (lNew (lNew (lNew Λ q1 12 16) q6 10 16) q11 10 160) q16 11 160) q21 12 160) q26 10 160) q31 10 480) q36 10 16) q41 10 96) q46 10 16) q51 10 192) q56 12 16) q61 10 16) q66 11 11200) q71 10 96) q76 10 16) q81 10 480) q86 12 160) 12 q86 := isK.mk
  refine jb_putFR C kK9 f380 (big_mem 908 (by decide +kernel) (by decide +kernel)) (by decide) rfl hin rfl rfl rfl t88 t90 dX9_init_154 ?_
  refine j_aload_n C dX9_init_157 0 rfl ?_
  refine j_sipush C (v := (160 : Int32)) dX9_init_158 (by decide) ?_
  refine jb_newJ C (len := 160) (big_mem 136 (by decide +kernel) (by decide +kernel)) (by decide) (by decide) (by decide) ⟨Nat.le_of_ble_eq_true rfl, Nat.le_of_ble_eq_true rfl⟩ dX9_init_161 (fun q91 hq91 => ?_)
  have e92 : lExt (lNew (lNew (lNew (lNew (lNew (lNew (lNew (lNew (lNew (lNew (lNew (lNew (lNew (lNew (lNew (lNew (lNew (lNew Λ q1 12 16) q6 10 16) q11 10 160) q16 11 160) q21 12 160) q26 10 160) q31 10 480) q36 10 16) q41 10 96) q46 10 16) q51 10 192) q56 12 16) q61 10 16) q66 11 11200) q71 10 96) q76 10 16) q81 10 480) q86 12 160) (lNew (lNew (lNew (lNew (lNew (lNew (lNew (lNew (lNew (lNew (lNew (lNew (lNew (lNew (lNew (lNew (lNew (lNew (lNew Λ q1 12 16) q6 10 16) q11 10 160) q16 11 160) q21 12 160) q26 10 160) q31 10 480) q36 10 16) q41 10 96) q46 10 16) q51 10 192) q56 12 16) q61 10 16) q66 11 11200) q71 10 96) q76 10 16) q81 10 480) q86 12 160) q91 11 160) := lExt.new hq91
  have t93 := isK.ext e92 t88
  have x94 := lExt.tr x89 e92
  have t95 : isK (lNew (lNew (lNew (lNew (lNew (lNew (lNew (lNew (lNew (lNew (lNew (lNew (lNew (lNew (lNew (lNew (lNew (lNew (lNew Λ q1 12 16) q6 10 16) q11 10 160) q16 11 160) q21 12 160) q26 10 160) q31 10 480) q36 10 16) q41 10 96) q46 10 16) q51 10 192) q56 12 16) q61 10 16) q66 11 11200) q71 10 96) q76 10 16) q81 10 480) q86 12 160) q91 11 160) 11 q91 := isK.mk
  refine jb_putFR C kK9 f381 (big_mem 909 (by decide +kernel) (by decide +kernel)) (by decide) rfl hin rfl rfl rfl t93 t95 dX9_init_163 ?_
  refine j_aload_n C dX9_init_166 0 rfl ?_
  refine j_sipush C (v := (160 : Int32)) dX9_init_167 (by decide) ?_
  refine jb_newI C (len := 160) (big_mem 166 (by decide +kernel) (by decide +kernel)) (by decide) (by decide) (by decide) ⟨Nat.le_of_ble_eq_true rfl, Nat.le_of_ble_eq_true rfl⟩ dX9_init_170 (fun q96 hq96 => ?_)
  have e97 : lExt (lNew (lNew (lNew (lNew (lNew (lNew (lNew (lNew (lNew (lNew (lNew (lNew (lNew (lNew (lNew (lNew (lNew (lNew (lNew Λ q1 12 16) q6 10 16) q11 10 160) q16 11 160) q21 12 160) q26 10 160) q31 10 480) q36 10 16) q41 10 96) q46 10 16) q51 10 192) q56 12 16) q61 10 16) q66 11 11200) q71 10 96) q76 10 16) q81 10 480) q86 12 160) q91 11 160) (lNew (lNew (lNew (lNew (lNew (lNew (lNew (lNew (lNew (lNew (lNew (lNew (lNew (lNew (lNew (lNew (lNew (lNew (lNew (lNew Λ q1 12 16) q6 10 16) q11 10 160) q16 11 160) q21 12 160) q26 10 160) q31 10 480) q36 10 16) q41 10 96) q46 10 16) q51 10 192) q56 12 16) q61 10 16) q66 11 11200) q71 10 96) q76 10 16) q81 10 480) q86 12 160) q91 11 160) q96 10 160) := lExt.new hq96
  have t98 := isK.ext e97 t93
  have x99 := lExt.tr x94 e97
  have t100 : isK (lNew (lNew (lNew (lNew (lNew (lNew (lNew (lNew (lNew (lNew (lNew (lNew (lNew (lNew (lNew (lNew (lNew (lNew (lNew (lNew Λ q1 12 16) q6 10 16) q11 10 160) q16 11 160) q21 12 160) q26 10 160) q31 10 480) q36 10 16) q41 10 96) q46 10 16) q51 10 192) q56 12 16) q61 10 16) q66 11 11200) q71 10 96) q76 10 16) q81 10 480) q86 12 160) q91 11 160) q96 10 160) 10 q96 := isK.mk
  refine jb_putFR C kK9 f382 (big_mem 910 (by decide +kernel) (by decide +kernel)) (by decide) rfl hin rfl rfl rfl t98 t100 dX9_init_172 ?_
  refine j_aload_n C dX9_init_175 0 rfl ?_
  refine j_sipush C (v := (160 : Int32)) dX9_init_176 (by decide) ?_
  refine jb_newZ C (len := 160) (big_mem 997 (by decide +kernel) (by decide +kernel)) (by decide) (by decide) (by decide) ⟨Nat.le_of_ble_eq_true rfl, Nat.le_of_ble_eq_true rfl⟩ dX9_init_179 (fun q101 hq101 => ?_)
  have e102 : lExt (lNew (lNew (lNew (lNew (lNew (lNew (lNew (lNew (lNew (lNew (lNew (lNew (lNew (lNew (lNew (lNew (lNew (lNew (lNew (lNew Λ q1 12 16) q6 10 16) q11 10 160) q16 11 160) q21 12 160) q26 10 160) q31 10 480) q36 10 16) q41 10 96) q46 10 16) q51 10 192) q56 12 16) q61 10 16) q66 11 11200) q71 10 96) q76 10 16) q81 10 480) q86 12 160) q91 11 160) q96 10 160) (lNew (lNew (lNew (lNew (lNew (lNew (lNew (lNew (lNew (lNew (lNew (lNew (lNew (lNew (lNew (lNew (lNew (lNew (lNew (lNew (lNew Λ q1 12 16) q6 10 16) q11 10 160) q16 11 160) q21 12 160) q26 10 160) q31 10 480) q36 10 16) q41 10 96) q46 10 16) q51 10 192) q56 12 16) q61 10 16) q66 11 11200) q71 10 96) q76 10 16) q81 10 480) q86 12 160) q91 11 160) q96 10 160) q101 12 160) := lExt.new hq101
  have t103 := isK.ext e102 t98
  have x104 := lExt.tr x99 e102
  have t105 : isK (lNew (lNew (lNew (lNew (lNew (lNew (lNew (lNew (lNew (lNew (lNew (lNew (lNew (lNew (lNew (lNew (lNew (lNew (lNew (lNew (lNew Λ q1 12 16) q6 10 16) q11 10 160) q16 11 160) q21 12 160) q26 10 160) q31 10 480) q36 10 16) q41 10 96) q46 10 16) q51 10 192) q56 12 16) q61 10 16) q66 11 11200) q71 10 96) q76 10 16) q81 10 480) q86 12 160) q91 11 160) q96 10 160) q101 12 160) 12 q101 := isK.mk
  refine jb_putFR C kK9 f383 (big_mem 911 (by decide +kernel) (by decide +kernel)) (by decide) rfl hin rfl rfl rfl t103 t105 dX9_init_181 ?_
  refine j_aload_n C dX9_init_184 0 rfl ?_
  refine j_sipush C (v := (170 : Int32)) dX9_init_185 (by decide) ?_
  refine jb_newI C (len := 170) (big_mem 166 (by decide +kernel) (by decide +kernel)) (by decide) (by decide) (by decide) ⟨Nat.le_of_ble_eq_true rfl, Nat.le_of_ble_eq_true rfl⟩ dX9_init_188 (fun q106 hq106 => ?_)
  have e107 : lExt (lNew (lNew (lNew (lNew (lNew (lNew (lNew (lNew (lNew (lNew (lNew (lNew (lNew (lNew (lNew (lNew (lNew (lNew (lNew (lNew (lNew Λ q1 12 16) q6 10 16) q11 10 160) q16 11 160) q21 12 160) q26 10 160) q31 10 480) q36 10 16) q41 10 96) q46 10 16) q51 10 192) q56 12 16) q61 10 16) q66 11 11200) q71 10 96) q76 10 16) q81 10 480) q86 12 160) q91 11 160) q96 10 160) q101 12 160) (lNew (lNew (lNew (lNew (lNew (lNew (lNew (lNew (lNew (lNew (lNew (lNew (lNew (lNew (lNew (lNew (lNew (lNew (lNew (lNew (lNew (lNew Λ q1 12 16) q6 10 16) q11 10 160) q16 11 160) q21 12 160) q26 10 160) q31 10 480) q36 10 16) q41 10 96) q46 10 16) q51 10 192) q56 12 16) q61 10 16) q66 11 11200) q71 10 96) q76 10 16) q81 10 480) q86 12 160) q91 11 160) q96 10 160) q101 12 160) q106 10 170) := lExt.new hq106
  have t108 := isK.ext e107 t103
  have x109 := lExt.tr x104 e107
  have t110 : isK (lNew (lNew (lNew (lNew (lNew (lNew (lNew (lNew (lNew (lNew (lNew (lNew (lNew (lNew (lNew (lNew (lNew (lNew (lNew (lNew (lNew (lNew Λ q1 12 16) q6 10 16) q11 10 160) q16 11 160) q21 12 160) q26 10 160) q31 10 480) q36 10 16) q41 10 96) q46 10 16) q51 10 192) q56 12 16) q61 10 16) q66 11 11200) q71 10 96) q76 10 16) q81 10 480) q86 12 160) q91 11 160) q96 10 160) q101 12 160) q106 10 170) 10 q106 := isK.mk
  refine jb_putFR C kK9 f385 (big_mem 913 (by decide +kernel) (by decide +kernel)) (by decide) rfl hin rfl rfl rfl t108 t110 dX9_init_190 ?_
  refine j_aload_n C dX9_init_193 0 rfl ?_
  refine j_sipush C (v := (170 : Int32)) dX9_init_194 (by decide) ?_
  refine jb_newI C (len := 170) (big_mem 166 (by decide +kernel) (by decide +kernel)) (by decide) (by decide) (by decide) ⟨Nat.le_of_ble_eq_true rfl, Nat.le_of_ble_eq_true rfl⟩ dX9_init_197 (fun q111 hq111 => ?_)
  have e112 : lExt (lNew (lNew (lNew (lNew (lNew (lNew (lNew (lNew (lNew (lNew (lNew (lNew (lNew (lNew (lNew (lNew (lNew (lNew (lNew (lNew (lNew (lNew Λ q1 12 16) q6 10 16) q11 10 160) q16 11 160) q21 12 160) q26 10 160) q31 10 480) q36 10 16) q41 10 96) q46 10 16) q51 10 192) q56 12 16) q61 10 16) q66 11 11200) q71 10 96) q76 10 16) q81 10 480) q86 12 160) q91 11 160) q96 10 160) q101 12 160) q106 10 170) (lNew (lNew (lNew (lNew (lNew (lNew (lNew (lNew (lNew (lNew (lNew (lNew (lNew (lNew (lNew (lNew (lNew (lNew (lNew (lNew (lNew (lNew (lNew Λ q1 12 16) q6 10 16) q11 10 160) q16 11 160) q21 12 160) q26 10 160) q31 10 480) q36 10 16) q41 10 96) q46 10 16) q51 10 192) q56 12 16) q61 10 16) q66 11 11200) q71 10 96) q76 10 16) q81 10 480) q86 12 160) q91 11 160) q96 10 160) q101 12 160) q106 10 170) q111 10 170) := lExt.new hq111
  have t113 := isK.ext e112 t108
  have x114 := lExt.tr x109 e112
  have t115 : isK (lNew (lNew (lNew (lNew (lNew (lNew (lNew (lNew (lNew (lNew (lNew (lNew (lNew (lNew (lNew (lNew (lNew (lNew (lNew (lNew (lNew (lNew (lNew Λ q1 12 16) q6 10 16) q11 10 160) q16 11 160) q21 12 160) q26 10 160) q31 10 480) q36 10 16) q41 10 96) q46 10 16) q51 10 192) q56 12 16) q61 10 16) q66 11 11200) q71 10 96) q76 10 16) q81 10 480) q86 12 160) q91 11 160) q96 10 160) q101 12 160) q106 10 170) q111 10 170) 10 q111 := isK.mk
  refine jb_putFR C kK9 f386 (big_mem 914 (by decide +kernel) (by decide +kernel)) (by decide) rfl hin rfl rfl rfl t113 t115 dX9_init_199 ?_
  refine j_aload_n C dX9_init_202 0 rfl ?_
  refine j_sipush C (v := (700 : Int32)) dX9_init_203 (by decide) ?_
  refine jb_newJ C (len := 700) (big_mem 136 (by decide +kernel) (by decide +kernel)) (by decide) (by decide) (by decide) ⟨Nat.le_of_ble_eq_true rfl, Nat.le_of_ble_eq_true rfl⟩ dX9_init_206 (fun q116 hq116 => ?_)
  have e117 : lExt (lNew (lNew (lNew (lNew (lNew (lNew (lNew (lNew (lNew (lNew (lNew (lNew (lNew (lNew (lNew (lNew (lNew (lNew (lNew (lNew (lNew (lNew (lNew Λ q1 12 16) q6 10 16) q11 10 160) q16 11 160) q21 12 160) q26 10 160) q31 10 480) q36 10 16) q41 10 96) q46 10 16) q51 10 192) q56 12 16) q61 10 16) q66 11 11200) q71 10 96) q76 10 16) q81 10 480) q86 12 160) q91 11 160) q96 10 160) q101 12 160) q106 10 170) q111 10 170) (lNew (lNew (lNew (lNew (lNew (lNew (lNew (lNew (lNew (lNew (lNew (lNew (lNew (lNew (lNew (lNew (lNew (lNew (lNew (lNew (lNew (lNew (lNew (lNew Λ q1 12 16) q6 10 16) q11 10 160) q16 11 160) q21 12 160) q26 10 160) q31 10 480) q36 10 16) q41 10 96) q46 10 16) q51 10 192) q56 12 16) q61 10 16) q66 11 11200) q71 10 96) q76 10 16) q81 10 480) q86 12 160) q91 11 160) q96 10 160) q101 12 160) q106 10 170) q111 10 170) q116 11 700) := lExt.new hq116
  have t118 := isK.ext e117 t113
  have x119 := lExt.tr x114 e117
  have t120 : isK (lNew (lNew (lNew (lNew (lNew (lNew (lNew (lNew (lNew (lNew (lNew (lNew (lNew (lNew (lNew (lNew (lNew (lNew (lNew (lNew (lNew (lNew (lNew (lNew Λ q1 12 16) q6 10 16) q11 10 160) q16 11 160) q21 12 160) q26 10 160) q31 10 480) q36 10 16) q41 10 96) q46 10 16) q51 10 192) q56 12 16) q61 10 16) q66 11 11200) q71 10 96) q76 10 16) q81 10 480) q86 12 160) q91 11 160) q96 10 160) q101 12 160) q106 10 170) q111 10 170) q116 11 700) 11 q116 := isK.mk
  refine jb_putFR C kK9 f387 (big_mem 915 (by decide +kernel) (by decide +kernel)) (by decide) rfl hin rfl rfl rfl t118 t120 dX9_init_208 ?_
  refine j_aload_n C dX9_init_211 0 rfl ?_
  refine j_bipush C (v := (6 : Int32)) dX9_init_212 (by decide) ?_
  refine jb_newI C (len := 6) (big_mem 166 (by decide +kernel) (by decide +kernel)) (by decide) (by decide) (by decide) ⟨Nat.le_of_ble_eq_true rfl, Nat.le_of_ble_eq_true rfl⟩ dX9_init_214 (fun q121 hq121 => ?_)
  have e122 : lExt (lNew (lNew (lNew (lNew (lNew (lNew (lNew (lNew (lNew (lNew (lNew (lNew (lNew (lNew (lNew (lNew (lNew (lNew (lNew (lNew (lNew (lNew (lNew (lNew Λ q1 12 16) q6 10 16) q11 10 160) q16 11 160) q21 12 160) q26 10 160) q31 10 480) q36 10 16) q41 10 96) q46 10 16) q51 10 192) q56 12 16) q61 10 16) q66 11 11200) q71 10 96) q76 10 16) q81 10 480) q86 12 160) q91 11 160) q96 10 160) q101 12 160) q106 10 170) q111 10 170) q116 11 700) (lNew (lNew (lNew (lNew (lNew (lNew (lNew (lNew (lNew (lNew (lNew (lNew (lNew (lNew (lNew (lNew (lNew (lNew (lNew (lNew (lNew (lNew (lNew (lNew (lNew Λ q1 12 16) q6 10 16) q11 10 160) q16 11 160) q21 12 160) q26 10 160) q31 10 480) q36 10 16) q41 10 96) q46 10 16) q51 10 192) q56 12 16) q61 10 16) q66 11 11200) q71 10 96) q76 10 16) q81 10 480) q86 12 160) q91 11 160) q96 10 160) q101 12 160) q106 10 170) q111 10 170) q116 11 700) q121 10 6) := lExt.new hq121
  have t123 := isK.ext e122 t118
  have x124 := lExt.tr x119 e122
  have t125 : isK (lNew (lNew (lNew (lNew (lNew (lNew (lNew (lNew (lNew (lNew (lNew (lNew (lNew (lNew (lNew (lNew (lNew (lNew (lNew (lNew (lNew (lNew (lNew (lNew (lNew Λ q1 12 16) q6 10 16) q11 10 160) q16 11 160) q21 12 160) q26 10 160) q31 10 480) q36 10 16) q41 10 96) q46 10 16) q51 10 192) q56 12 16) q61 10 16) q66 11 11200) q71 10 96) q76 10 16) q81 10 480) q86 12 160) q91 11 160) q96 10 160) q101 12 160) q106 10 170) q111 10 170) q116 11 700) q121 10 6) 10 q121 := isK.mk
  refine jb_putFR C kK9 f389 (big_mem 917 (by decide +kernel) (by decide +kernel)) (by decide) rfl hin rfl rfl rfl t123 t125 dX9_init_216 ?_
  refine j_aload_n C dX9_init_219 0 rfl ?_
  refine j_sipush C (v := (256 : Int32)) dX9_init_220 (by decide) ?_
  refine jb_newZ C (len := 256) (big_mem 997 (by decide +kernel) (by decide +kernel)) (by decide) (by decide) (by decide) ⟨Nat.le_of_ble_eq_true rfl, Nat.le_of_ble_eq_true rfl⟩ dX9_init_223 (fun q126 hq126 => ?_)
  have e127 : lExt (lNew (lNew (lNew (lNew (lNew (lNew (lNew (lNew (lNew (lNew (lNew (lNew (lNew (lNew (lNew (lNew (lNew (lNew (lNew (lNew (lNew (lNew (lNew (lNew (lNew Λ q1 12 16) q6 10 16) q11 10 160) q16 11 160) q21 12 160) q26 10 160) q31 10 480) q36 10 16) q41 10 96) q46 10 16) q51 10 192) q56 12 16) q61 10 16) q66 11 11200) q71 10 96) q76 10 16) q81 10 480) q86 12 160) q91 11 160) q96 10 160) q101 12 160) q106 10 170) q111 10 170) q116 11 700) q121 10 6) (lNew (lNew (lNew (lNew (lNew (lNew (lNew (lNew (lNew (lNew (lNew (lNew (lNew (lNew (lNew (lNew (lNew (lNew (lNew (lNew (lNew (lNew (lNew (lNew (lNew (lNew Λ q1 12 16) q6 10 16) q11 10 160) q16 11 160) q21 12 160) q26 10 160) q31 10 480) q36 10 16) q41 10 96) q46 10 16) q51 10 192) q56 12 16) q61 10 16) q66 11 11200) q71 10 96) q76 10 16) q81 10 480) q86 12 160) q91 11 160) q96 10 160) q101 12 160) q106 10 170) q111 10 170) q116 11 700) q121 10 6) q126 12 256) := lExt.new hq126
  have t128 := isK.ext e127 t123
  have x129 := lExt.tr x124 e127
  have t130 : isK (lNew (lNew (lNew (lNew (lNew (lNew (lNew (lNew (lNew (lNew (lNew (lNew (lNew (lNew (lNew (lNew (lNew (lNew (lNew (lNew (lNew (lNew (lNew (lNew (lNew (lNew Λ q1 12 16) q6 10 16) q11 10 160) q16 11 160) q21 12 160) q26 10 160) q31 10 480) q36 10 16) q41 10 96) q46 10 16) q51 10 192) q56 12 16) q61 10 16) q66 11 11200) q71 10 96) q76 10 16) q81 10 480) q86 12 160) q91 11 160) q96 10 160) q101 12 160) q106 10 170) q111 10 170) q116 11 700) q121 10 6) q126 12 256) 12 q126 := isK.mk
  refine jb_putFR C kK9 f390 (big_mem 918 (by decide +kernel) (by decide +kernel)) (by decide) rfl hin rfl rfl rfl t128 t130 dX9_init_225 ?_
  refine j_aload_n C dX9_init_228 0 rfl ?_
  refine j_bipush C (v := (16 : Int32)) dX9_init_229 (by decide) ?_
  refine jb_newI C (len := 16) (big_mem 166 (by decide +kernel) (by decide +kernel)) (by decide) (by decide) (by decide) ⟨Nat.le_of_ble_eq_true rfl, Nat.le_of_ble_eq_true rfl⟩ dX9_init_231 (fun q131 hq131 => ?_)
  have e132 : lExt (lNew (lNew (lNew (lNew (lNew (lNew (lNew (lNew (lNew (lNew (lNew (lNew (lNew (lNew (lNew (lNew (lNew (lNew (lNew (lNew (lNew (lNew (lNew (lNew (lNew (lNew Λ q1 12 16) q6 10 16) q11 10 160) q16 11 160) q21 12 160) q26 10 160) q31 10 480) q36 10 16) q41 10 96) q46 10 16) q51 10 192) q56 12 16) q61 10 16) q66 11 11200) q71 10 96) q76 10 16) q81 10 480) q86 12 160) q91 11 160) q96 10 160) q101 12 160) q106 10 170) q111 10 170) q116 11 700) q121 10 6) q126 12 256) (lNew (lNew (lNew (lNew (lNew (lNew (lNew (lNew (lNew (lNew (lNew (lNew (lNew (lNew (lNew (lNew (lNew (lNew (lNew (lNew (lNew (lNew (lNew (lNew (lNew (lNew (lNew Λ q1 12 16) q6 10 16) q11 10 160) q16 11 160) q21 12 160) q26 10 160) q31 10 480) q36 10 16) q41 10 96) q46 10 16) q51 10 192) q56 12 16) q61 10 16) q66 11 11200) q71 10 96) q76 10 16) q81 10 480) q86 12 160) q91 11 160) q96 10 160) q101 12 160) q106 10 170) q111 10 170) q116 11 700) q121 10 6) q126 12 256) q131 10 16) := lExt.new hq131
  have t133 := isK.ext e132 t128
  have x134 := lExt.tr x129 e132
  have t135 : isK (lNew (lNew (lNew (lNew (lNew (lNew (lNew (lNew (lNew (lNew (lNew (lNew (lNew (lNew (lNew (lNew (lNew (lNew (lNew (lNew (lNew (lNew (lNew (lNew (lNew (lNew (lNew Λ q1 12 16) q6 10 16) q11 10 160) q16 11 160) q21 12 160) q26 10 160) q31 10 480) q36 10 16) q41 10 96) q46 10 16) q51 10 192) q56 12 16) q61 10 16) q66 11 11200) q71 10 96) q76 10 16) q81 10 480) q86 12 160) q91 11 160) q96 10 160) q101 12 160) q106 10 170) q111 10 170) q116 11 700) q121 10 6) q126 12 256) q131 10 16) 10 q131 := isK.mk
  refine jb_putFR C kK9 f391 (big_mem 919 (by decide +kernel) (by decide +kernel)) (by decide) rfl hin rfl rfl rfl t133 t135 dX9_init_233 ?_
  refine j_aload_n C dX9_init_236 0 rfl ?_
  refine j_bipush C (v := (16 : Int32)) dX9_init_237 (by decide) ?_
  refine jb_newI C (len := 16) (big_mem 166 (by decide +kernel) (by decide +kernel)) (by decide) (by decide) (by decide) ⟨Nat.le_of_ble_eq_true rfl, Nat.le_of_ble_eq_true rfl⟩ dX9_init_239 (fun q136 hq136 => ?_)
  have e137 : lExt (lNew (lNew (lNew (lNew (lNew (lNew (lNew (lNew (lNew (lNew (lNew (lNew (lNew (lNew (lNew (lNew (lNew (lNew (lNew (lNew (lNew (lNew (lNew (lNew (lNew (lNew (lNew Λ q1 12 16) q6 10 16) q11 10 160) q16 11 160) q21 12 160) q26 10 160) q31 10 480) q36 10 16) q41 10 96) q46 10 16) q51 10 192) q56 12 16) q61 10 16) q66 11 11200) q71 10 96) q76 10 16) q81 10 480) q86 12 160) q91 11 160) q96 10 160) q101 12 160) q106 10 170) q111 10 170) q116 11 700) q121 10 6) q126 12 256) q131 10 16) (lNew (lNew (lNew (lNew (lNew (lNew (lNew (lNew (lNew (lNew (lNew (lNew (lNew (lNew (lNew (lNew (lNew (lNew (lNew (lNew (lNew (lNew (lNew (lNew (lNew (lNew (lNew (lNew Λ q1 12 16) q6 10 16) q11 10 160) q16 11 160) q21 12 160) q26 10 160) q31 10 480) q36 10 16) q41 10 96) q46 10 16) q51 10 192) q56 12 16) q61 10 16) q66 11 11200) q71 10 96) q76 10 16) q81 10 480) q86 12 160) q91 11 160) q96 10 160) q101 12 160) q106 10 170) q111 10 170) q116 11 700) q121 10 6) q126 12 256) q131 10 16) q136 10 16) := lExt.new hq136
  have t138 := isK.ext e137 t133
  have x139 := lExt.tr x134 e137
  have t140 : isK (lNew (lNew (lNew (lNew (lNew (lNew (lNew (lNew (lNew (lNew (lNew (lNew (lNew (lNew (lNew (lNew (lNew (lNew (lNew (lNew (lNew (lNew (lNew (lNew (lNew (lNew (lNew (lNew Λ q1 12 16) q6 10 16) q11 10 160) q16 11 160) q21 12 160) q26 10 160) q31 10 480) q36 10 16) q41 10 96) q46 10 16) q51 10 192) q56 12 16) q61 10 16) q66 11 11200) q71 10 96) q76 10 16) q81 10 480) q86 12 160) q91 11 160) q96 10 160) q101 12 160) q106 10 170) q111 10 170) q116 11 700) q121 10 6) q126 12 256) q131 10 16) q136 10 16) 10 q136 := isK.mk
  refine jb_putFR C kK9 f392 (big_mem 920 (by decide +kernel) (by decide +kernel)) (by decide) rfl hin rfl rfl rfl t138 t140 dX9_init_241 ?_
  refine j_aload_n C dX9_init_244 0 rfl ?_
  refine j_bipush C (v := (16 : Int32)) dX9_init_245 (by decide) ?_
  refine jb_newZ C (len := 16) (big_mem 997 (by decide +kernel) (by decide +kernel)) (by decide) (by decide) (by decide) ⟨Nat.le_of_ble_eq_true rfl, Nat.le_of_ble_eq_true rfl⟩ dX9_init_247 (fun q141 hq141 => ?_)
  have e142 : lExt (lNew (lNew (lNew (lNew (lNew (lNew (lNew (lNew (lNew (lNew (lNew (lNew (lNew (lNew (lNew (lNew (lNew (lNew (lNew (lNew (lNew (lNew (lNew (lNew (lNew (lNew (lNew (lNew Λ q1 12 16) q6 10 16) q11 10 160) q16 11 160) q21 12 160) q26 10 160) q31 10 480) q36 10 16) q41 10 96) q46 10 16) q51 10 192) q56 12 16) q61 10 16) q66 11 11200) q71 10 96) q76 10 16) q81 10 480) q86 12 160) q91 11 160) q96 10 160) q101 12 160) q106 10 170) q111 10 170) q116 11 700) q121 10 6) q126 12 256) q131 10 16) q136 10 16) (lNew (lNew (lNew (lNew (lNew (lNew (lNew (lNew (lNew (lNew (lNew (lNew (lNew (lNew (lNew (lNew (lNew (lNew (lNew (lNew (lNew (lNew (lNew (lNew (lNew (lNew (lNew (lNew (lNew Λ q1 12 16) q6 10 16) q11 10 160) q16 11 160) q21 12 160) q26 10 160) q31 10 480) q36 10 16) q41 10 96) q46 10 16) q51 10 192) q56 12 16) q61 10 16) q66 11 11200) q71 10 96) q76 10 16) q81 10 480) q86 12 160) q91 11 160) q96 10 160) q101 12 160) q106 10 170) q111 10 170) q116 11 700) q121 10 6) q126 12 256) q131 10 16) q136 10 16) q141 12 16) := lExt.new hq141
  have t143 := isK.ext e142 t138
  have x144 := lExt.tr x139 e142
  have t145 : isK (lNew (lNew (lNew (lNew (lNew (lNew (lNew (lNew (lNew (lNew (lNew (lNew (lNew (lNew (lNew (lNew (lNew (lNew (lNew (lNew (lNew (lNew (lNew (lNew (lNew (lNew (lNew (lNew (lNew Λ q1 12 16) q6 10 16) q11 10 160) q16 11 160) q21 12 160) q26 10 160) q31 10 480) q36 10 16) q41 10 96) q46 10 16) q51 10 192) q56 12 16) q61 10 16) q66 11 11200) q71 10 96) q76 10 16) q81 10 480) q86 12 160) q91 11 160) q96 10 160) q101 12 160) q106 10 170) q111 10 170) q116 11 700) q121 10 6) q126 12 256) q131 10 16) q136 10 16) q141 12 16) 12 q141 := isK.mk
  refine jb_putFR C kK9 f395 (big_mem 923 (by decide +kernel) (by decide +kernel)) (by decide) rfl hin rfl rfl rfl t143 t145 dX9_init_249 ?_
  exact ja_vret C E x144 ⟨q1, hq1, q6, hq6, q11, hq11, q16, hq16, q21, hq21, q26, hq26, q31, hq31, q36, hq36, q41, hq41, q46, hq46, q51, hq51, q56, hq56, q61, hq61, q66, hq66, q71, hq71, q76, hq76, q81, hq81, q86, hq86, q91, hq91, q96, hq96, q101, hq101, q106, hq106, q111, hq111, q116, hq116, q121, hq121, q126, hq126, q131, hq131, q136, hq136, q141, hq141, rfl, rfl⟩ ⟨Nat.le_of_ble_eq_true rfl, Nat.le_of_ble_eq_true rfl⟩ dX9_init_252
