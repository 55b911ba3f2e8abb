/-! What lies at certain addresses is the same. -/
def kpA (S S' : sSt) (a : Nat) : Prop := (∀ i, gFI S' i a = gFI S i a) ∧ (∀ i, gFJ S' i a = gFJ S i a) ∧ (∀ i, gFR S' i a = gFR S i a) ∧ (∀ k, gAI S' a k = gAI S a k) ∧ (∀ k, gAJ S' a k = gAJ S a k) ∧ (∀ k, gAR S' a k = gAR S a k)
theorem kpA.rf {S : sSt} {a : Nat} : kpA S S a := ⟨fun _ => rfl, fun _ => rfl, fun _ => rfl, fun _ => rfl, fun _ => rfl, fun _ => rfl⟩
theorem kpA.tr {S S1 S2 : sSt} {a : Nat} (h : kpA S S1 a) (g : kpA S1 S2 a) : kpA S S2 a := ⟨fun i => (g.1 i).trans (h.1 i), fun i => (g.2.1 i).trans (h.2.1 i), fun i => (g.2.2.1 i).trans (h.2.2.1 i), fun i => (g.2.2.2.1 i).trans (h.2.2.2.1 i), fun i => (g.2.2.2.2.1 i).trans (h.2.2.2.2.1 i), fun i => (g.2.2.2.2.2 i).trans (h.2.2.2.2.2 i)⟩
theorem kpA.new {S : sSt} {q a : Nat} (h : a ≠ q) : kpA S (sNew S q) a := ⟨fun _ => by rw [gFI_sNew, if_neg h], fun _ => by rw [gFJ_sNew, if_neg h], fun _ => by rw [gFR_sNew, if_neg h], fun _ => by rw [gAI_sNew, if_neg h], fun _ => by rw [gAJ_sNew, if_neg h], fun _ => by rw [gAR_sNew, if_neg h]⟩
theorem kpA.sFI {S : sSt} {i b a : Nat} {v : Int32} (h : a ≠ b) : kpA S (sFI S i b v) a := ⟨fun _ => by rw [gFI_sFI, if_neg (fun z => h z.2)], fun _ => rfl, fun _ => rfl, fun _ => rfl, fun _ => rfl, fun _ => rfl⟩
theorem kpA.sFJ {S : sSt} {i b a : Nat} {v : Int64} (h : a ≠ b) : kpA S (sFJ S i b v) a := ⟨fun _ => rfl, fun _ => by rw [gFJ_sFJ, if_neg (fun z => h z.2)], fun _ => rfl, fun _ => rfl, fun _ => rfl, fun _ => rfl⟩
theorem kpA.sFR {S : sSt} {i b a : Nat} {v : Option Nat} (h : a ≠ b) : kpA S (sFR S i b v) a := ⟨fun _ => rfl, fun _ => rfl, fun _ => by rw [gFR_sFR, if_neg (fun z => h z.2)], fun _ => rfl, fun _ => rfl, fun _ => rfl⟩
theorem kpA.sAI {S : sSt} {b k a : Nat} {v : Int32} (h : a ≠ b) : kpA S (sAI S b k v) a := ⟨fun _ => rfl, fun _ => rfl, fun _ => rfl, fun _ => by rw [gAI_sAI, if_neg (fun z => h z.1)], fun _ => rfl, fun _ => rfl⟩
theorem kpA.sAJ {S : sSt} {b k a : Nat} {v : Int64} (h : a ≠ b) : kpA S (sAJ S b k v) a := ⟨fun _ => rfl, fun _ => rfl, fun _ => rfl, fun _ => rfl, fun _ => by rw [gAJ_sAJ, if_neg (fun z => h z.1)], fun _ => rfl⟩
theorem kpA.sAR {S : sSt} {b k a : Nat} {v : Option Nat} (h : a ≠ b) : kpA S (sAR S b k v) a := ⟨fun _ => rfl, fun _ => rfl, fun _ => rfl, fun _ => rfl, fun _ => rfl, fun _ => by rw [gAR_sAR, if_neg (fun z => h z.1)]⟩
theorem inNew {Λ : sLay} {q kd len a : Nat} (h : a ∈ Λ.1) : a ∈ (lNew Λ q kd len).1 := List.mem_append_left _ h
theorem ne_fresh {Λ : sLay} {q a : Nat} (h : a ∈ Λ.1) (hq : q ∉ Λ.1) : a ≠ q := fun e => hq (e ▸ h)
theorem R_X1_init.kp {Λ Λ' : sLay} {S S' : sSt} {p0 : Nat} {p1 : Int32} (h : R_X1_init Λ S p0 p1 Λ' S') {a : Nat} (ha : a ∈ Λ.1) (hp : a ≠ p0) : kpA S S' a := by
  obtain ⟨q, hq, -, rfl⟩ := h
  exact (kpA.new (ne_fresh ha hq)).tr ((kpA.sFR hp).tr (kpA.sFI hp))
theorem R_X1_init.ext {Λ Λ' : sLay} {S S' : sSt} {p0 : Nat} {p1 : Int32} (h : R_X1_init Λ S p0 p1 Λ' S') : lExt Λ Λ' := by
  obtain ⟨q, hq, rfl, -⟩ := h
  exact lExt.new hq
theorem R_X3_init.kp {Λ Λ' : sLay} {S S' : sSt} {p0 : Nat} (h : R_X3_init Λ S p0 Λ' S') {a : Nat} (ha : a ∈ Λ.1) (hp : a ≠ p0) : kpA S S' a := by
  obtain ⟨q, hq, -, rfl⟩ := h
  exact (kpA.new (ne_fresh ha hq)).tr ((kpA.sFR hp).tr (kpA.sFI hp))
theorem R_X3_init.ext {Λ Λ' : sLay} {S S' : sSt} {p0 : Nat} (h : R_X3_init Λ S p0 Λ' S') : lExt Λ Λ' := by
  obtain ⟨q, hq, rfl, -⟩ := h
  exact lExt.new hq
theorem R_X5_init.kp {Λ Λ' : sLay} {S S' : sSt} {p0 : Nat} {p1 : Int32} (h : R_X5_init Λ S p0 p1 Λ' S') {a : Nat} (ha : a ∈ Λ.1) (hp : a ≠ p0) : kpA S S' a := by
  obtain ⟨q, hq, Λ2, S2, h2, -, rfl⟩ := h
  exact (kpA.sFI hp).tr ((kpA.new (ne_fresh ha hq)).tr ((h2.kp (inNew ha) (ne_fresh ha hq)).tr (kpA.sFR hp)))
theorem R_X5_init.ext {Λ Λ' : sLay} {S S' : sSt} {p0 : Nat} {p1 : Int32} (h : R_X5_init Λ S p0 p1 Λ' S') : lExt Λ Λ' := by
  obtain ⟨q, hq, Λ2, S2, h2, rfl, -⟩ := h
  exact (lExt.new hq).tr h2.ext
/-- a unit's row of things, from place i on: j more -/
def R_T (t : Nat) (p1 : Int32) : Nat → Nat → sLay → sSt → sLay → sSt → Prop
  | 0, _, Λ, S, Λ', S' => Λ' = Λ ∧ S' = S
  | j + 1, i, Λ, S, Λ', S' => ∃ q, q ∉ Λ.1 ∧ ∃ Λ2 S2, R_X5_init (lNew Λ q 5 0) (sNew S q) q p1 Λ2 S2 ∧ R_T t p1 j (i + 1) Λ2 (sAR S2 t i (some q)) Λ' S'

def R_X6_init (Λ : sLay) (S : sSt) (p0 : Nat) (p1 : Int32) (Λ' : sLay) (S' : sSt) : Prop := ∃ q1, q1 ∉ Λ.1 ∧ ∃ Λ6 S7, R_X1_init (lNew Λ q1 1 0) (sNew (sFI S 240 p0 p1) q1) q1 (6 : Int32) Λ6 S7 ∧ ∃ q13, q13 ∉ Λ6.1 ∧ ∃ Λ18 S19, R_X1_init (lNew Λ6 q13 1 0) (sNew (sFR S7 241 p0 (some q1)) q13) q13 (12 : Int32) Λ18 S19 ∧ ∃ q25, q25 ∉ Λ18.1 ∧ ∃ Λ30 S31, R_X3_init (lNew Λ18 q25 3 0) (sNew (sFR S19 242 p0 (some q13)) q25) q25 Λ30 S31 ∧ ∃ q37, q37 ∉ Λ30.1 ∧ ∃ Λ50 S50, R_T q37 p1 10 0 (lNew Λ30 q37 13 10) (sFR (sNew (sFR S31 243 p0 (some q25)) q37) 244 p0 (some q37)) Λ50 S50 ∧ ∃ q101, q101 ∉ Λ50.1 ∧ ∃ Λ106 S107, R_X1_init (lNew Λ50 q101 1 0) (sNew S50 q101) q101 (42 : Int32) Λ106 S107 ∧ Λ' = Λ106 ∧ S' = (sFR S107 246 p0 (some q101))
abbrev rm_X6_init : Room := { frames := 3, cells := 39, slots := 912, locals := 73 }
set_option maxHeartbeats 4000000 in
theorem jT_X6_init {X : jX} (C : jC X cX6_init 3 RX6 rm_X6_init) (p0 t : Nat) (p1 : Int32) : ∀ (j i k n : Nat) (Λ : sLay) (S : sSt), j + i = 10 → k + 3 * j ≤ 37 → n + 15 * j ≤ 868 → isK Λ 6 p0 → isK Λ 13 t → p0 ≠ t → Λ.2.2 t = 10 → gFR S 244 p0 = some t →
    (∀ Λ1 S1, R_T t p1 j i Λ S Λ1 S1 → lExt Λ Λ1 → J X 3 (k + 3 * j) (n + 15 * j) 86 [(0, vR (some p0))] [] Λ1 S1 True) → J X 3 k n 57 [(2, vI (nI i)), (0, vR (some p0)), (1, vI p1)] [] Λ S True := by
  intro j
  induction j with
  | zero =>
    intro i k n Λ S hi hk hn tp tt hne hl hg kk
    refine j_iload_n C dX6_init_57 0 rfl ?_
    refine j_aload_n C dX6_init_58 1 rfl ?_
    refine jb_getR C kK6 f244 (big_mem 288 (by decide +kernel) (by decide +kernel)) (by decide) tp dX6_init_59 (fun _ => ?_)
    rw [hg]
    refine j_alen C tt (by decide) dX6_init_62 ?_
    rw [hl]
    refine jb_icmp_ge C (tgt := 86) (φ1 := True) (φ2 := True) dX6_init_63 (by decide) (fun _ _ => trivial) (fun _ _ => trivial) (fun _ => ?_) (fun c => ?_)
    · exact j_sub [1] rfl (kk Λ S ⟨rfl, rfl⟩ lExt.rf)
    · exact absurd (nI_le (show 10 ≤ i by omega) (by omega)) c
  | succ j ih =>
    intro i k n Λ S hi hk hn tp tt hne hl hg kk
    refine j_iload_n C dX6_init_57 0 rfl ?_
    refine j_aload_n C dX6_init_58 1 rfl ?_
    refine jb_getR C kK6 f244 (big_mem 288 (by decide +kernel) (by decide +kernel)) (by decide) tp dX6_init_59 (fun _ => ?_)
    rw [hg]
    refine j_alen C tt (by decide) dX6_init_62 ?_
    rw [hl]
    refine jb_icmp_ge C (tgt := 86) (φ1 := True) (φ2 := True) dX6_init_63 (by decide) (fun _ _ => trivial) (fun _ _ => trivial) (fun c => ?_) (fun _ => ?_)
    · exact absurd c (nI_ge (by omega) (by omega))
    refine j_aload_n C dX6_init_66 1 rfl ?_
    refine jb_getR C kK6 f244 (big_mem 288 (by decide +kernel) (by decide +kernel)) (by decide) tp dX6_init_67 (fun _ => ?_)
    rw [hg]
    refine j_iload_n C dX6_init_70 0 rfl ?_
    refine jb_new C kK5 (big_mem 219 (by decide +kernel) (by decide +kernel)) (big_mem 220 (by decide +kernel) (by decide +kernel)) (big_mem 49 (by decide +kernel) (by decide +kernel)) jD5 ⟨(show k + 1 ≤ 39 by omega), (show n + 10 ≤ 912 by omega)⟩ dX6_init_71 (fun q hq => ?_)
    have e1 : lExt Λ (lNew Λ q 5 0) := lExt.new hq
    refine j_dup C dX6_init_74 rfl ?_
    refine j_iload_n C dX6_init_75 2 rfl ?_
    refine ja_callI C [vI p1] [vR (some q), vI (nI i), vR (some t)] rV_ok (c_X5_init q isK.mk p1) kYX5_init (big_mem 222 (by decide +kernel) (by decide +kernel)) (big_mem 221 (by decide +kernel) (by decide +kernel)) rfl rfl rfl ⟨rfl, rfl, Nat.le_of_ble_eq_true rfl, Nat.le_of_ble_eq_true rfl⟩ (Nat.le_of_ble_eq_true rfl) ⟨(show k + 1 + 2 ≤ 39 by omega), (show n + 10 + 5 ≤ 912 by omega)⟩ dX6_init_76 (fun _ Λ2 S2 r2 e2 _ => ?_)
    have e3 := lExt.tr e1 e2
    have hlt : i < 10 := by omega
    have hl2 : Λ2.2.2 t = 10 := ((e3 t tt.1).2.2).trans hl
    refine jb_aast C 13 (isK.ext e3 tt) (by decide) (isK.ext e2 isK.mk) (fun _ => by rw [hl2]; exact vp_in_nI hlt (by omega)) dX6_init_79 ?_
    rw [nI_clamp (show i < 2 ^ 31 by omega)]
    refine j_iinc C (v := (1 : Int32)) (L' := [(2, vI (nI i + 1)), (0, vR (some p0)), (1, vI p1)]) dX6_init_80 0 rfl (by decide) (by decide) rfl ?_
    refine j_goto C (tgt := 57) dX6_init_83 (by decide) ?_
    rw [nI_1]
    have hpq : p0 ≠ q := ne_fresh tp.1 hq
    have hgr : gFR S2 244 p0 = some t := by
      rw [(r2.kp (inNew tp.1) hpq).2.2.1 244, gFR_sNew, if_neg hpq]; exact hg
    refine ih (i + 1) (k + 1 + 2) (n + 10 + 5) Λ2 (sAR S2 t i (some q)) (by omega) (by omega) (by omega) (isK.ext e3 tp) (isK.ext e3 tt) hne hl2 (by rw [gFR_sAR]; exact hgr) (fun Λ3 S3 r3 e4 => ?_)
    have z1 : k + 1 + 2 + 3 * j = k + 3 * (j + 1) := by omega
    have z2 : n + 10 + 5 + 15 * j = n + 15 * (j + 1) := by omega
    rw [z1, z2]
    exact kk Λ3 S3 ⟨q, hq, Λ2, S2, r2, r3⟩ (e3.tr e4)
set_option maxHeartbeats 4000000 in
theorem c_X6_init {l : Launch} {D : va_G} {cy : Nat → ClassId} {Λ : sLay} {S : sSt} (p0 : Nat) (tp0 : isK Λ 6 p0) (p1 : Int32) : jMa l yX6_init (Cond.code yX6_init cX6_init 3 none :: bigW) rm_X6_init D cy Λ S [vR (some p0), vI p1] rV (fun _ Λ1 S1 => R_X6_init Λ S p0 p1 Λ1 S1) 39 912 := by
  refine jMa_of (by decide +kernel) (Nat.le_of_ble_eq_true rfl) (fun X C E hin => ?_)
  refine j_sub [0, 1] (L' := [(0, vR (some p0)), (1, vI p1)]) rfl ?_
  refine j_aload_n C dX6_init_0 0 rfl ?_
  refine jb_obj C (big_mem 214 (by decide +kernel) (by decide +kernel)) (big_mem 64 (by decide +kernel) (by decide +kernel)) (big_mem 65 (by decide +kernel) (by decide +kernel)) ⟨Nat.le_of_ble_eq_true rfl, Nat.le_of_ble_eq_true rfl⟩ (Nat.le_of_ble_eq_true rfl) dX6_init_1 ?_
  refine j_aload_n C dX6_init_4 0 rfl ?_
  refine j_iload_n C dX6_init_5 1 rfl ?_
  refine jb_putFI C kK6 f240 (big_mem 276 (by decide +kernel) (by decide +kernel)) (by decide) rfl hin rfl rfl rfl tp0 dX6_init_6 ?_
  refine j_aload_n C dX6_init_9 0 rfl ?_
  refine jb_new C kK1 (big_mem 215 (by decide +kernel) (by decide +kernel)) (big_mem 151 (by decide +kernel) (by decide +kernel)) (big_mem 45 (by decide +kernel) (by decide +kernel)) jD1 ⟨Nat.le_of_ble_eq_true rfl, Nat.le_of_ble_eq_true rfl⟩ dX6_init_10 (fun q1 hq1 => ?_)
  have e2 : lExt Λ (lNew Λ q1 1 0) := lExt.new hq1
  have t3 := isK.ext e2 tp0
  have x4 := lExt.tr lExt.rf e2
  have t5 : isK (lNew Λ q1 1 0) 1 q1 := isK.mk
  refine j_dup C dX6_init_13 rfl ?_
  refine j_bipush C (v := (6 : Int32)) dX6_init_14 (by decide) ?_
  refine ja_callI C [vI (6 : Int32)] [vR (some q1), vR (some p0)] rV_ok (c_X1_init q1 t5 (6 : Int32) 6 (by decide) (by decide) (by decide)) kYX1_init (big_mem 153 (by decide +kernel) (by decide +kernel)) (big_mem 216 (by decide +kernel) (by decide +kernel)) rfl rfl rfl ⟨rfl, rfl, Nat.le_of_ble_eq_true rfl, Nat.le_of_ble_eq_true rfl⟩ (Nat.le_of_ble_eq_true rfl) ⟨Nat.le_of_ble_eq_true rfl, Nat.le_of_ble_eq_true rfl⟩ dX6_init_16 (fun _ Λ6 S7 r8 e9 _ => ?_)
  have t10 := isK.ext e9 t3
  have t11 := isK.ext e9 t5
  have x12 := lExt.tr x4 e9
  refine jb_putFR C kK6 f241 (big_mem 278 (by decide +kernel) (by decide +kernel)) (by decide) rfl hin rfl rfl rfl t10 t11 dX6_init_19 ?_
  refine j_aload_n C dX6_init_22 0 rfl ?_
  refine jb_new C kK1 (big_mem 215 (by decide +kernel) (by decide +kernel)) (big_mem 151 (by decide +kernel) (by decide +kernel)) (big_mem 45 (by decide +kernel) (by decide +kernel)) jD1 ⟨Nat.le_of_ble_eq_true rfl, Nat.le_of_ble_eq_true rfl⟩ dX6_init_23 (fun q13 hq13 => ?_)
  have e14 : lExt Λ6 (lNew Λ6 q13 1 0) := lExt.new hq13
  have t15 := isK.ext e14 t10
  have x16 := lExt.tr x12 e14
  have t17 : isK (lNew Λ6 q13 1 0) 1 q13 := isK.mk
  refine j_dup C dX6_init_26 rfl ?_
  refine j_bipush C (v := (12 : Int32)) dX6_init_27 (by decide) ?_
  refine ja_callI C [vI (12 : Int32)] [vR (some q13), vR (some p0)] rV_ok (c_X1_init q13 t17 (12 : Int32) 12 (by decide) (by decide) (by decide)) kYX1_init (big_mem 153 (by decide +kernel) (by decide +kernel)) (big_mem 216 (by decide +kernel) (by decide +kernel)) rfl rfl rfl ⟨rfl, rfl, Nat.le_of_ble_eq_true rfl, Nat.le_of_ble_eq_true rfl⟩ (Nat.le_of_ble_eq_true rfl) ⟨Nat.le_of_ble_eq_true rfl, Nat.le_of_ble_eq_true rfl⟩ dX6_init_29 (fun _ Λ18 S19 r20 e21 _ => ?_)
  have t22 := isK.ext e21 t15
  have t23 := isK.ext e21 t17
  have x24 := lExt.tr x16 e21
  refine jb_putFR C kK6 f242 (big_mem 282 (by decide +kernel) (by decide +kernel)) (by decide) rfl hin rfl rfl rfl t22 t23 dX6_init_32 ?_
  refine j_aload_n C dX6_init_35 0 rfl ?_
  refine jb_new C kK3 (big_mem 217 (by decide +kernel) (by decide +kernel)) (big_mem 112 (by decide +kernel) (by decide +kernel)) (big_mem 43 (by decide +kernel) (by decide +kernel)) jD3 ⟨Nat.le_of_ble_eq_true rfl, Nat.le_of_ble_eq_true rfl⟩ dX6_init_36 (fun q25 hq25 => ?_)
  have e26 : lExt Λ18 (lNew Λ18 q25 3 0) := lExt.new hq25
  have t27 := isK.ext e26 t22
  have x28 := lExt.tr x24 e26
  have t29 : isK (lNew Λ18 q25 3 0) 3 q25 := isK.mk
  refine j_dup C dX6_init_39 rfl ?_
  refine ja_callI C [] [vR (some q25), vR (some p0)] rV_ok (c_X3_init q25 t29) kYX3_init (big_mem 114 (by decide +kernel) (by decide +kernel)) (big_mem 218 (by decide +kernel) (by decide +kernel)) rfl rfl rfl ⟨rfl, rfl, Nat.le_of_ble_eq_true rfl, Nat.le_of_ble_eq_true rfl⟩ (Nat.le_of_ble_eq_true rfl) ⟨Nat.le_of_ble_eq_true rfl, Nat.le_of_ble_eq_true rfl⟩ dX6_init_40 (fun _ Λ30 S31 r32 e33 _ => ?_)
  have t34 := isK.ext e33 t27
  have t35 := isK.ext e33 t29
  have x36 := lExt.tr x28 e33
  refine jb_putFR C kK6 f243 (big_mem 285 (by decide +kernel) (by decide +kernel)) (by decide) rfl hin rfl rfl rfl t34 t35 dX6_init_43 ?_
  refine j_aload_n C dX6_init_46 0 rfl ?_
  refine j_bipush C (v := (10 : Int32)) dX6_init_47 (by decide) ?_
  refine jb_newT C (len := 10) (big_mem 219 (by decide +kernel) (by decide +kernel)) (by decide) (by decide) (by decide) ⟨Nat.le_of_ble_eq_true rfl, Nat.le_of_ble_eq_true rfl⟩ dX6_init_49 (fun q37 hq37 => ?_)
  have e38 : lExt Λ30 (lNew Λ30 q37 13 10) := lExt.new hq37
  have t39 := isK.ext e38 t34
  have x40 := lExt.tr x36 e38
  have t41 : isK (lNew Λ30 q37 13 10) 13 q37 := isK.mk
  refine jb_putFR C kK6 f244 (big_mem 288 (by decide +kernel) (by decide +kernel)) (by decide) rfl hin rfl rfl rfl t39 t41 dX6_init_52 ?_
  refine j_iconst C (v := (0 : Int32)) dX6_init_55 (by decide) ?_
  refine j_istore_n C (L' := [(2, vI (0 : Int32)), (0, vR (some p0)), (1, vI p1)]) dX6_init_56 (by decide) rfl ?_
  refine jT_X6_init C p0 q37 p1 10 0 7 718 _ _ rfl (by decide) (by decide) t39 t41 (ne_fresh t34.1 hq37) (va_up_self _ _ _) (by rw [gFR_sFR, if_pos ⟨rfl, rfl⟩]) (fun Λ50 S50 r50 e50 => ?_)
  have x50 := lExt.tr x40 e50
  have tp50 := isK.ext e50 t39
  refine j_aload_n C dX6_init_86 0 rfl ?_
  refine jb_new C kK1 (big_mem 215 (by decide +kernel) (by decide +kernel)) (big_mem 151 (by decide +kernel) (by decide +kernel)) (big_mem 45 (by decide +kernel) (by decide +kernel)) jD1 ⟨Nat.le_of_ble_eq_true rfl, Nat.le_of_ble_eq_true rfl⟩ dX6_init_87 (fun q101 hq101 => ?_)
  have e102 : lExt Λ50 (lNew Λ50 q101 1 0) := lExt.new hq101
  have t103 := isK.ext e102 tp50
  have x104 := lExt.tr x50 e102
  have t105 : isK (lNew Λ50 q101 1 0) 1 q101 := isK.mk
  refine j_dup C dX6_init_90 rfl ?_
  refine j_bipush C (v := (42 : Int32)) dX6_init_91 (by decide) ?_
  refine ja_callI C [vI (42 : Int32)] [vR (some q101), vR (some p0)] rV_ok (c_X1_init q101 t105 (42 : Int32) 42 (by decide) (by decide) (by decide)) kYX1_init (big_mem 153 (by decide +kernel) (by decide +kernel)) (big_mem 216 (by decide +kernel) (by decide +kernel)) rfl rfl rfl ⟨rfl, rfl, Nat.le_of_ble_eq_true rfl, Nat.le_of_ble_eq_true rfl⟩ (Nat.le_of_ble_eq_true rfl) ⟨Nat.le_of_ble_eq_true rfl, Nat.le_of_ble_eq_true rfl⟩ dX6_init_93 (fun _ Λ106 S107 r108 e109 _ => ?_)
  have t110 := isK.ext e109 t103
  have t111 := isK.ext e109 t105
  have x112 := lExt.tr x104 e109
  refine jb_putFR C kK6 f246 (big_mem 290 (by decide +kernel) (by decide +kernel)) (by decide) rfl hin rfl rfl rfl t110 t111 dX6_init_96 ?_
  exact ja_vret C E x112 ⟨q1, hq1, Λ6, S7, r8, q13, hq13, Λ18, S19, r20, q25, hq25, Λ30, S31, r32, q37, hq37, Λ50, S50, r50, q101, hq101, Λ106, S107, r108, rfl, rfl⟩ ⟨Nat.le_of_ble_eq_true rfl, Nat.le_of_ble_eq_true rfl⟩ dX6_init_99
