def St_0 (Λ : sLay) (S : sSt) (x m o : Nat) (Qn : sLay → sSt → Prop) : Prop := P_X8_unit Λ S x (fun r Λ1 S1 => lExt Λ Λ1 → ∃ (r' : Int32) (S2 : sSt), F_X9_unit Λ1.2.2 S1 m = some (r', S2) ∧ Qn Λ1 S2)
def St_1 (Λ : sLay) (S : sSt) (x m o : Nat) (Qn : sLay → sSt → Prop) : Prop := ∀ (a1 : Int32) (a2 : Int32) (a3 : Int32) (a4 : Int64) (a5 : Int32), (a5 = 0 ∨ a5 = 1) → ∃ (r : Int32) (S1 : sSt) (r' : Int32) (S2 : sSt), F_X8_give Λ.2.2 S x a1 a2 a3 a4 a5 = some (r, S1) ∧ F_X9_give Λ.2.2 S1 m a1 a2 a3 a4 a5 = some (r', S2) ∧ Qn Λ S2
def St_2 (Λ : sLay) (S : sSt) (x m o : Nat) (Qn : sLay → sSt → Prop) : Prop := ∀ (a1 : Int32) (a2 : Int32) (a3 : Int32), ∃ (r : Int32) (S1 : sSt) (r' : Int32) (S2 : sSt), F_X8_take Λ.2.2 S x a1 a2 a3 = some (r, S1) ∧ F_X9_take Λ.2.2 S1 m a1 a2 a3 = some (r', S2) ∧ Qn Λ S2
def St_3 (Λ : sLay) (S : sSt) (x m o : Nat) (Qn : sLay → sSt → Prop) : Prop := ∀ (a1 : Int32) (a2 : Int32) (a3 : Int32), ∃ (r : Int32) (S1 : sSt) (r' : Int32) (S2 : sSt), F_X8_build Λ.2.2 S x a1 a2 a3 = some (r, S1) ∧ F_X9_build Λ.2.2 S1 m a1 a2 a3 = some (r', S2) ∧ Qn Λ S2
def St_4 (Λ : sLay) (S : sSt) (x m o : Nat) (Qn : sLay → sSt → Prop) : Prop := ∀ (a1 : Int32) (a2 : Int32), ∃ (r : Int32) (S1 : sSt) (r' : Int32) (S2 : sSt), F_X8_way Λ.2.2 S x a1 a2 = some (r, S1) ∧ F_X9_way Λ.2.2 S1 m a1 a2 = some (r', S2) ∧ Qn Λ S2
def St_5 (Λ : sLay) (S : sSt) (x m o : Nat) (Qn : sLay → sSt → Prop) : Prop := ∀ (a1 : Int32), ∃ (r : Int32) (S1 : sSt) (r' : Int32) (S2 : sSt), F_X8_unway Λ.2.2 S x a1 = some (r, S1) ∧ F_X9_unway Λ.2.2 S1 m a1 = some (r', S2) ∧ Qn Λ S2
def St_6 (Λ : sLay) (S : sSt) (x m o : Nat) (Qn : sLay → sSt → Prop) : Prop := ∀ (a1 : Int32) (a2 : Int32) (a3 : Int32), ∃ (r : Int32) (S1 : sSt) (r' : Int32) (S2 : sSt), F_X8_use Λ.2.2 S x a1 a2 a3 = some (r, S1) ∧ F_X9_use Λ.2.2 S1 m a1 a2 a3 = some (r', S2) ∧ Qn Λ S2
def St_7 (Λ : sLay) (S : sSt) (x m o : Nat) (Qn : sLay → sSt → Prop) : Prop := ∀ (a1 : Int32) (a2 : Int32), ∃ (r : Int32) (S1 : sSt) (r' : Int32) (S2 : sSt), F_X8_unuse Λ.2.2 S x a1 a2 = some (r, S1) ∧ F_X9_unuse Λ.2.2 S1 m a1 a2 = some (r', S2) ∧ Qn Λ S2
def St_8 (Λ : sLay) (S : sSt) (x m o : Nat) (Qn : sLay → sSt → Prop) : Prop := ∀ (a1 : Int32) (a2 : Int32), (a2 = 0 ∨ a2 = 1) → ∃ (r : Int32) (S1 : sSt) (r' : Int32) (S2 : sSt), F_X8_reader Λ.2.2 S x a1 a2 = some (r, S1) ∧ F_X9_reader Λ.2.2 S1 m a1 a2 = some (r', S2) ∧ Qn Λ S2
def St_9 (Λ : sLay) (S : sSt) (x m o : Nat) (Qn : sLay → sSt → Prop) : Prop := ∀ (a1 : Int32) (a2 : Int32), ∃ (r : Int32) (S1 : sSt) (r' : Int32) (S2 : sSt), F_X8_generated Λ.2.2 S x a1 a2 = some (r, S1) ∧ F_X9_generated Λ.2.2 S1 m a1 a2 = some (r', S2) ∧ Qn Λ S2
def St_10 (Λ : sLay) (S : sSt) (x m o : Nat) (Qn : sLay → sSt → Prop) : Prop := ∀ (a1 : Int32), ∃ (r : Int32) (S1 : sSt) (r' : Int32) (S2 : sSt), F_X8_remove Λ.2.2 S x a1 = some (r, S1) ∧ F_X9_remove Λ.2.2 S1 m a1 = some (r', S2) ∧ Qn Λ S2
def St_11 (Λ : sLay) (S : sSt) (x m o : Nat) (Qn : sLay → sSt → Prop) : Prop := ∀ (a1 : Int32) (a2 : Int32) (a3 : Int32), ∃ (r : Int32) (r' : Int32) (S2 : sSt), F_X8_found Λ.2.2 S x a1 a2 a3 = some r ∧ F_X9_found Λ.2.2 S m a1 a2 a3 = some (r', S2) ∧ Qn Λ S2
def St_12 (Λ : sLay) (S : sSt) (x m o : Nat) (Qn : sLay → sSt → Prop) : Prop := ∀ (a1 : Int32) (a2 : Int32), ∃ (r : Int64) (S1 : sSt) (r' : Int64) (S2 : sSt), F_X8_value Λ.2.2 S x a1 a2 = some (r, S1) ∧ F_X9_value Λ.2.2 S1 m a1 a2 = some (r', S2) ∧ Qn Λ S2
def St_13 (Λ : sLay) (S : sSt) (x m o : Nat) (Qn : sLay → sSt → Prop) : Prop := ∀ (a1 : Int32) (a2 : Int32), ∃ (r : Int32) (S1 : sSt) (r' : Int32) (S2 : sSt), F_X8_round Λ.2.2 S x a1 a2 = some (r, S1) ∧ F_X9_round Λ.2.2 S1 m a1 a2 = some (r', S2) ∧ Qn Λ S2
def St_14 (Λ : sLay) (S : sSt) (x m o : Nat) (Qn : sLay → sSt → Prop) : Prop := ∀ (a1 : Int32) (a2 : Int32) (a3 : Int32) (a4 : Int32), ∃ (r : Int32) (S1 : sSt) (r' : Int32) (S2 : sSt), F_X8_chain Λ.2.2 S x a1 a2 a3 a4 = some (r, S1) ∧ F_X9_chain Λ.2.2 S1 m a1 a2 a3 a4 = some (r', S2) ∧ Qn Λ S2
def St_15 (Λ : sLay) (S : sSt) (x m o : Nat) (Qn : sLay → sSt → Prop) : Prop := ∀ (a1 : Int32), ∃ (r : Int32) (S1 : sSt) (r' : Int32) (S2 : sSt), F_X8_missing Λ.2.2 S x a1 = some (r, S1) ∧ F_X9_missing Λ.2.2 S1 m a1 = some (r', S2) ∧ Qn Λ S2
def St_16 (Λ : sLay) (S : sSt) (x m o : Nat) (Qn : sLay → sSt → Prop) : Prop := ∀ (a1 : Int32), ∃ (r : Int32) (S1 : sSt) (r' : Int32) (S2 : sSt), F_X8_size Λ.2.2 S x a1 = some (r, S1) ∧ F_X9_size Λ.2.2 S1 m a1 = some (r', S2) ∧ Qn Λ S2
def St_17 (Λ : sLay) (S : sSt) (x m o : Nat) (Qn : sLay → sSt → Prop) : Prop := ∀ (a1 : Int32) (a2 : Int32), ∃ (kk : Int32) (S1 : sSt) (b9 : Int64) (S2 : sSt), F_L_row Λ.2.2 S x a1 a2 o = some (kk, S1) ∧ F_X9_row Λ.2.2 S1 m a1 a2 = some (b9, S2) ∧ Qn Λ S2
def St_18 (Λ : sLay) (S : sSt) (x m o : Nat) (Qn : sLay → sSt → Prop) : Prop := ∀ (a1 : Int32) (a2 : Int32), ∃ (kk : Int32) (S1 : sSt) (b9 : Int64) (S2 : sSt), F_L_kept Λ.2.2 S x a1 a2 o = some (kk, S1) ∧ F_X9_kept Λ.2.2 S1 m a1 a2 = some (b9, S2) ∧ Qn Λ S2
def St_19 (Λ : sLay) (S : sSt) (x m o : Nat) (Qn : sLay → sSt → Prop) : Prop := ∀ (a1 : Int32), ∃ (r : Int32) (S1 : sSt) (r' : Int32) (S2 : sSt), F_X8_why Λ.2.2 S x a1 = some (r, S1) ∧ F_X9_why Λ.2.2 S1 m a1 = some (r', S2) ∧ Qn Λ S2
def St_20 (Λ : sLay) (S : sSt) (x m o : Nat) (Qn : sLay → sSt → Prop) : Prop := ∃ (r : Int32) (S1 : sSt) (r' : Int32) (S2 : sSt), F_X8_needs Λ.2.2 S x = some (r, S1) ∧ F_X9_needs Λ.2.2 S1 m = some (r', S2) ∧ Qn Λ S2
def St_21 (Λ : sLay) (S : sSt) (x m o : Nat) (Qn : sLay → sSt → Prop) : Prop := ∀ (a1 : Int32), ∃ (r : Int32) (S1 : sSt) (r' : Int32) (S2 : sSt), F_X8_make Λ.2.2 S x a1 = some (r, S1) ∧ F_X9_make Λ.2.2 S1 m a1 = some (r', S2) ∧ Qn Λ S2
def St_22 (Λ : sLay) (S : sSt) (x m o : Nat) (Qn : sLay → sSt → Prop) : Prop := ∀ (a1 : Int32), ∃ (r : Int32) (S1 : sSt) (r' : Int32) (S2 : sSt), F_X8_force Λ.2.2 S x a1 = some (r, S1) ∧ F_X9_force Λ.2.2 S1 m a1 = some (r', S2) ∧ Qn Λ S2
def St_23 (Λ : sLay) (S : sSt) (x m o : Nat) (Qn : sLay → sSt → Prop) : Prop := ∀ (a1 : Int32), ∃ (r : Int64) (r' : Int64) (S2 : sSt), F_X8_output Λ.2.2 S x a1 = some r ∧ F_X9_output Λ.2.2 S m a1 = some (r', S2) ∧ Qn Λ S2
def St_24 (Λ : sLay) (S : sSt) (x m o : Nat) (Qn : sLay → sSt → Prop) : Prop := ∃ (r : Int64) (S1 : sSt) (r' : Int64) (S2 : sSt), F_X8_anew Λ.2.2 S x = some (r, S1) ∧ F_X9_anew Λ.2.2 S1 m = some (r', S2) ∧ Qn Λ S2
def St_25 (Λ : sLay) (S : sSt) (x m o : Nat) (Qn : sLay → sSt → Prop) : Prop := ∃ (r : Int32) (S1 : sSt) (r' : Int32) (S2 : sSt), F_X8_coarse Λ.2.2 S x = some (r, S1) ∧ F_X9_coarse Λ.2.2 S1 m = some (r', S2) ∧ Qn Λ S2
def St_26 (Λ : sLay) (S : sSt) (x m o : Nat) (Qn : sLay → sSt → Prop) : Prop := ∀ (a1 : Int32), ∃ (kk : Int32) (S1 : sSt) (b9 : Int32) (S2 : sSt), F_L_order Λ.2.2 S x a1 o = some (kk, S1) ∧ F_X9_order Λ.2.2 S1 m a1 = some (b9, S2) ∧ Qn Λ S2
def St_27 (Λ : sLay) (S : sSt) (x m o : Nat) (Qn : sLay → sSt → Prop) : Prop := ∀ (a1 : Int32), ∃ (r : Int32) (S1 : sSt) (r' : Int32) (S2 : sSt), F_X8_ring Λ.2.2 S x a1 = some (r, S1) ∧ F_X9_ring Λ.2.2 S1 m a1 = some (r', S2) ∧ Qn Λ S2
def St_28 (Λ : sLay) (S : sSt) (x m o : Nat) (Qn : sLay → sSt → Prop) : Prop := ∀ (a1 : Int32) (a2 : Int32), ∃ (r : Int32) (S1 : sSt) (S2 : sSt), F_X8_leads Λ.2.2 S x a1 a2 = some (r, S1) ∧ F_X9_leads Λ.2.2 S1 m a1 a2 = some (r, S2) ∧ Qn Λ S2
def St_29 (Λ : sLay) (S : sSt) (x m o : Nat) (Qn : sLay → sSt → Prop) : Prop := ∀ (a1 : Int32), ∃ (r : Int32) (S1 : sSt) (r' : Int32) (S2 : sSt), F_X8_count Λ.2.2 S x a1 = some (r, S1) ∧ F_X9_count Λ.2.2 S1 m a1 = some (r', S2) ∧ Qn Λ S2
def St_30 (Λ : sLay) (S : sSt) (x m o : Nat) (Qn : sLay → sSt → Prop) : Prop := ∃ (r : Int32) (S1 : sSt) (r' : Int32) (S2 : sSt), F_X8_clear Λ.2.2 S x = some (r, S1) ∧ F_X9_clear Λ.2.2 S1 m = some (r', S2) ∧ Qn Λ S2
set_option maxHeartbeats 4000000 in
theorem lc_0 {X : jX} {b L : Nat} {sc : Nat → Int32} (C : jC X code 8 RL room_1) (Q0 : lawC X b L sc) {x m o t : Nat} (ht : 7 * t + 7 ≤ L) {Λ : sLay} {S : sSt} (tx : isK Λ 8 x) (tm : isK Λ 9 m) (to : isK Λ 11 o) {k n : Nat} (hk : k + 40 ≤ room_1.cells) (hn : n + 923 ≤ room_1.slots) {Qn : sLay → sSt → Prop} (H : St_0 Λ S x m o Qn) (kk : ∀ Λ1 S1 k1 n1, Qn Λ1 S1 → lExt Λ Λ1 → k1 ≤ k + 40 → n1 ≤ n + 923 → J X 8 k1 n1 1258 [(0, vR (some b)), (1, vR (some x)), (2, vR (some m)), (3, vR (some o)), (4, vI (nI (7 * t)))] [] Λ1 S1 True) : J X 8 k n 180 [(0, vR (some b)), (1, vR (some x)), (2, vR (some m)), (3, vR (some o)), (4, vI (nI (7 * t)))] [] Λ S True := by
  refine j_aload_n C dL_law_180 1 rfl ?_
  refine ja_callV C [] [] rI_ok (c_X8_unit x tx H) kYX8_unit kVX8_unit (big_mem 202 (by decide +kernel) (by decide +kernel)) kO8 tx rfl rfl ⟨rfl, rfl, Nat.le_of_ble_eq_true rfl, Nat.le_of_ble_eq_true rfl⟩ (Nat.le_of_ble_eq_true rfl) ⟨by omega, by omega⟩ dL_law_181 (fun r Λ1 S1 hq0 x1 _ => ?_)
  obtain ⟨r2, S2, e2, hq⟩ := hq0 x1
  have tm1 := isK.ext x1 tm
  show J X 8 (k + 40) (n + 923) _ [(0, vR (some b)), (1, vR (some x)), (2, vR (some m)), (3, vR (some o)), (4, vI (nI (7 * t)))] [vI r] Λ1 S1 True
  refine j_pop C dL_law_184 rfl ?_
  refine j_aload_n C dL_law_185 2 rfl ?_
  refine jb_callV (As := []) (rest := []) C rI_ok (c_X9_unit m tm1 e2) kYX9_unit kVX9_unit (big_mem 998 (by decide +kernel) (by decide +kernel)) kO9 tm1 rfl rfl ⟨rfl, rfl, Nat.le_of_ble_eq_true rfl, Nat.le_of_ble_eq_true rfl⟩ (Nat.le_of_ble_eq_true rfl) ⟨by omega, by omega⟩ dL_law_186 (fun _ => ?_)
  show J X 8 (k + 40) (n + 923) _ [(0, vR (some b)), (1, vR (some x)), (2, vR (some m)), (3, vR (some o)), (4, vI (nI (7 * t)))] [vI r2] Λ1 S2 True
  refine j_pop C dL_law_189 rfl ?_
  refine j_goto C (tgt := 1258) dL_law_190 (by decide) ?_
  exact kk _ _ _ _ hq x1 (by omega) (by omega)
set_option maxHeartbeats 4000000 in
theorem lc_1 {X : jX} {b L : Nat} {sc : Nat → Int32} (C : jC X code 8 RL room_1) (Q0 : lawC X b L sc) {x m o t : Nat} (ht : 7 * t + 7 ≤ L) {Λ : sLay} {S : sSt} (tx : isK Λ 8 x) (tm : isK Λ 9 m) (to : isK Λ 11 o) {k n : Nat} (hk : k + 40 ≤ room_1.cells) (hn : n + 923 ≤ room_1.slots) {Qn : sLay → sSt → Prop} (H : St_1 Λ S x m o Qn) (kk : ∀ Λ1 S1 k1 n1, Qn Λ1 S1 → lExt Λ Λ1 → k1 ≤ k + 40 → n1 ≤ n + 923 → J X 8 k1 n1 1258 [(0, vR (some b)), (1, vR (some x)), (2, vR (some m)), (3, vR (some o)), (4, vI (nI (7 * t)))] [] Λ1 S1 True) : J X 8 k n 193 [(0, vR (some b)), (1, vR (some x)), (2, vR (some m)), (3, vR (some o)), (4, vI (nI (7 * t)))] [] Λ S True := by
  refine j_aload_n C dL_law_193 1 rfl ?_
  refine j_aload_n C dL_law_194 0 rfl ?_
  refine j_iload C dL_law_195 4 rfl ?_
  refine j_iconst C (v := (1 : Int32)) dL_law_197 (by decide) ?_
  refine j_iadd C dL_law_198 ?_
  refine jl_sld C Q0 (j := 7 * t + 1) (nI_add (7 * t) 1) (by omega) dL_law_199 ?_
  refine j_aload_n C dL_law_200 0 rfl ?_
  refine j_iload C dL_law_201 4 rfl ?_
  refine j_iconst C (v := (2 : Int32)) dL_law_203 (by decide) ?_
  refine j_iadd C dL_law_204 ?_
  refine jl_sld C Q0 (j := 7 * t + 2) (nI_add (7 * t) 2) (by omega) dL_law_205 ?_
  refine j_aload_n C dL_law_206 0 rfl ?_
  refine j_iload C dL_law_207 4 rfl ?_
  refine j_iconst C (v := (3 : Int32)) dL_law_209 (by decide) ?_
  refine j_iadd C dL_law_210 ?_
  refine jl_sld C Q0 (j := 7 * t + 3) (nI_add (7 * t) 3) (by omega) dL_law_211 ?_
  refine j_aload_n C dL_law_212 0 rfl ?_
  refine j_iload C dL_law_213 4 rfl ?_
  refine j_iconst C (v := (4 : Int32)) dL_law_215 (by decide) ?_
  refine j_iadd C dL_law_216 ?_
  refine jl_sld C Q0 (j := 7 * t + 4) (nI_add (7 * t) 4) (by omega) dL_law_217 ?_
  refine j_i2l C dL_law_218 ?_
  refine j_bipush C (v := (32 : Int32)) dL_law_219 (by decide) ?_
  refine j_lshl C dL_law_221 ?_
  refine j_aload_n C dL_law_222 0 rfl ?_
  refine j_iload C dL_law_223 4 rfl ?_
  refine j_iconst C (v := (5 : Int32)) dL_law_225 (by decide) ?_
  refine j_iadd C dL_law_226 ?_
  refine jl_sld C Q0 (j := 7 * t + 5) (nI_add (7 * t) 5) (by omega) dL_law_227 ?_
  refine j_i2l C dL_law_228 ?_
  refine j_ldc2 C (v := (4294967295 : Int64)) (big_mem 1234 (by decide +kernel) (by decide +kernel)) dL_law_229 ?_
  refine j_land C dL_law_232 ?_
  refine j_lor C dL_law_233 ?_
  refine j_aload_n C dL_law_234 0 rfl ?_
  refine j_iload C dL_law_235 4 rfl ?_
  refine j_bipush C (v := (6 : Int32)) dL_law_237 (by decide) ?_
  refine j_iadd C dL_law_239 ?_
  refine jl_sld C Q0 (j := 7 * t + 6) (nI_add (7 * t) 6) (by omega) dL_law_240 ?_
  refine jb_if_eq C (tgt := 248) (φ1 := True) (φ2 := True) dL_law_241 (by decide) (fun _ _ => trivial) (fun _ _ => trivial) (fun c1 => ?_) (fun c1 => ?_)
  · refine j_iconst C (v := (0 : Int32)) dL_law_248 (by decide) ?_
    obtain ⟨r, S1, r2, S2, e1, e2, hq⟩ := H (sc (7 * t + 1)) (sc (7 * t + 2)) (sc (7 * t + 3)) (((Int32.toInt64 (sc (7 * t + 4))) <<< (Int32.toInt64 (32 : Int32) &&& 63)) ||| ((Int32.toInt64 (sc (7 * t + 5))) &&& (4294967295 : Int64))) (0 : Int32) (by decide)
    refine jb_callV (As := [vI (sc (7 * t + 1)), vI (sc (7 * t + 2)), vI (sc (7 * t + 3)), vJ (((Int32.toInt64 (sc (7 * t + 4))) <<< (Int32.toInt64 (32 : Int32) &&& 63)) ||| ((Int32.toInt64 (sc (7 * t + 5))) &&& (4294967295 : Int64))), vI (0 : Int32)]) (rest := []) C rI_ok (c_X8_give x tx (sc (7 * t + 1)) (sc (7 * t + 2)) (sc (7 * t + 3)) (((Int32.toInt64 (sc (7 * t + 4))) <<< (Int32.toInt64 (32 : Int32) &&& 63)) ||| ((Int32.toInt64 (sc (7 * t + 5))) &&& (4294967295 : Int64))) (0 : Int32) e1) kYX8_give kVX8_give (big_mem 334 (by decide +kernel) (by decide +kernel)) kO8 tx rfl rfl ⟨rfl, rfl, Nat.le_of_ble_eq_true rfl, Nat.le_of_ble_eq_true rfl⟩ (Nat.le_of_ble_eq_true rfl) ⟨by omega, by omega⟩ dL_law_249 (fun _ => ?_)
    show J X 8 k n _ [(0, vR (some b)), (1, vR (some x)), (2, vR (some m)), (3, vR (some o)), (4, vI (nI (7 * t)))] [vI r] Λ S1 True
    refine j_pop C dL_law_252 rfl ?_
    refine j_aload_n C dL_law_253 2 rfl ?_
    refine j_aload_n C dL_law_254 0 rfl ?_
    refine j_iload C dL_law_255 4 rfl ?_
    refine j_iconst C (v := (1 : Int32)) dL_law_257 (by decide) ?_
    refine j_iadd C dL_law_258 ?_
    refine jl_sld C Q0 (j := 7 * t + 1) (nI_add (7 * t) 1) (by omega) dL_law_259 ?_
    refine j_aload_n C dL_law_260 0 rfl ?_
    refine j_iload C dL_law_261 4 rfl ?_
    refine j_iconst C (v := (2 : Int32)) dL_law_263 (by decide) ?_
    refine j_iadd C dL_law_264 ?_
    refine jl_sld C Q0 (j := 7 * t + 2) (nI_add (7 * t) 2) (by omega) dL_law_265 ?_
    refine j_aload_n C dL_law_266 0 rfl ?_
    refine j_iload C dL_law_267 4 rfl ?_
    refine j_iconst C (v := (3 : Int32)) dL_law_269 (by decide) ?_
    refine j_iadd C dL_law_270 ?_
    refine jl_sld C Q0 (j := 7 * t + 3) (nI_add (7 * t) 3) (by omega) dL_law_271 ?_
    refine j_aload_n C dL_law_272 0 rfl ?_
    refine j_iload C dL_law_273 4 rfl ?_
    refine j_iconst C (v := (4 : Int32)) dL_law_275 (by decide) ?_
    refine j_iadd C dL_law_276 ?_
    refine jl_sld C Q0 (j := 7 * t + 4) (nI_add (7 * t) 4) (by omega) dL_law_277 ?_
    refine j_i2l C dL_law_278 ?_
    refine j_bipush C (v := (32 : Int32)) dL_law_279 (by decide) ?_
    refine j_lshl C dL_law_281 ?_
    refine j_aload_n C dL_law_282 0 rfl ?_
    refine j_iload C dL_law_283 4 rfl ?_
    refine j_iconst C (v := (5 : Int32)) dL_law_285 (by decide) ?_
    refine j_iadd C dL_law_286 ?_
    refine jl_sld C Q0 (j := 7 * t + 5) (nI_add (7 * t) 5) (by omega) dL_law_287 ?_
    refine j_i2l C dL_law_288 ?_
    refine j_ldc2 C (v := (4294967295 : Int64)) (big_mem 1234 (by decide +kernel) (by decide +kernel)) dL_law_289 ?_
    refine j_land C dL_law_292 ?_
    refine j_lor C dL_law_293 ?_
    refine j_aload_n C dL_law_294 0 rfl ?_
    refine j_iload C dL_law_295 4 rfl ?_
    refine j_bipush C (v := (6 : Int32)) dL_law_297 (by decide) ?_
    refine j_iadd C dL_law_299 ?_
    refine jl_sld C Q0 (j := 7 * t + 6) (nI_add (7 * t) 6) (by omega) dL_law_300 ?_
    refine jb_if_eq C (tgt := 308) (φ1 := True) (φ2 := True) dL_law_301 (by decide) (fun _ _ => trivial) (fun _ _ => trivial) (fun c2 => ?_) (fun c2 => ?_)
    · refine j_iconst C (v := (0 : Int32)) dL_law_308 (by decide) ?_
      refine jb_callV (As := [vI (sc (7 * t + 1)), vI (sc (7 * t + 2)), vI (sc (7 * t + 3)), vJ (((Int32.toInt64 (sc (7 * t + 4))) <<< (Int32.toInt64 (32 : Int32) &&& 63)) ||| ((Int32.toInt64 (sc (7 * t + 5))) &&& (4294967295 : Int64))), vI (0 : Int32)]) (rest := []) C rI_ok (c_X9_give m tm (sc (7 * t + 1)) (sc (7 * t + 2)) (sc (7 * t + 3)) (((Int32.toInt64 (sc (7 * t + 4))) <<< (Int32.toInt64 (32 : Int32) &&& 63)) ||| ((Int32.toInt64 (sc (7 * t + 5))) &&& (4294967295 : Int64))) (0 : Int32) e2) kYX9_give kVX9_give (big_mem 1002 (by decide +kernel) (by decide +kernel)) kO9 tm rfl rfl ⟨rfl, rfl, Nat.le_of_ble_eq_true rfl, Nat.le_of_ble_eq_true rfl⟩ (Nat.le_of_ble_eq_true rfl) ⟨by omega, by omega⟩ dL_law_309 (fun _ => ?_)
      show J X 8 k n _ [(0, vR (some b)), (1, vR (some x)), (2, vR (some m)), (3, vR (some o)), (4, vI (nI (7 * t)))] [vI r2] Λ S2 True
      refine j_pop C dL_law_312 rfl ?_
      refine j_goto C (tgt := 1258) dL_law_313 (by decide) ?_
      exact kk _ _ _ _ hq lExt.rf (by omega) (by omega)
    · exact absurd c1 c2
  · refine j_iconst C (v := (1 : Int32)) dL_law_244 (by decide) ?_
    refine j_goto C (tgt := 249) dL_law_245 (by decide) ?_
    obtain ⟨r, S1, r2, S2, e1, e2, hq⟩ := H (sc (7 * t + 1)) (sc (7 * t + 2)) (sc (7 * t + 3)) (((Int32.toInt64 (sc (7 * t + 4))) <<< (Int32.toInt64 (32 : Int32) &&& 63)) ||| ((Int32.toInt64 (sc (7 * t + 5))) &&& (4294967295 : Int64))) (1 : Int32) (by decide)
    refine jb_callV (As := [vI (sc (7 * t + 1)), vI (sc (7 * t + 2)), vI (sc (7 * t + 3)), vJ (((Int32.toInt64 (sc (7 * t + 4))) <<< (Int32.toInt64 (32 : Int32) &&& 63)) ||| ((Int32.toInt64 (sc (7 * t + 5))) &&& (4294967295 : Int64))), vI (1 : Int32)]) (rest := []) C rI_ok (c_X8_give x tx (sc (7 * t + 1)) (sc (7 * t + 2)) (sc (7 * t + 3)) (((Int32.toInt64 (sc (7 * t + 4))) <<< (Int32.toInt64 (32 : Int32) &&& 63)) ||| ((Int32.toInt64 (sc (7 * t + 5))) &&& (4294967295 : Int64))) (1 : Int32) e1) kYX8_give kVX8_give (big_mem 334 (by decide +kernel) (by decide +kernel)) kO8 tx rfl rfl ⟨rfl, rfl, Nat.le_of_ble_eq_true rfl, Nat.le_of_ble_eq_true rfl⟩ (Nat.le_of_ble_eq_true rfl) ⟨by omega, by omega⟩ dL_law_249 (fun _ => ?_)
    show J X 8 k n _ [(0, vR (some b)), (1, vR (some x)), (2, vR (some m)), (3, vR (some o)), (4, vI (nI (7 * t)))] [vI r] Λ S1 True
    refine j_pop C dL_law_252 rfl ?_
    refine j_aload_n C dL_law_253 2 rfl ?_
    refine j_aload_n C dL_law_254 0 rfl ?_
    refine j_iload C dL_law_255 4 rfl ?_
    refine j_iconst C (v := (1 : Int32)) dL_law_257 (by decide) ?_
    refine j_iadd C dL_law_258 ?_
    refine jl_sld C Q0 (j := 7 * t + 1) (nI_add (7 * t) 1) (by omega) dL_law_259 ?_
    refine j_aload_n C dL_law_260 0 rfl ?_
    refine j_iload C dL_law_261 4 rfl ?_
    refine j_iconst C (v := (2 : Int32)) dL_law_263 (by decide) ?_
    refine j_iadd C dL_law_264 ?_
    refine jl_sld C Q0 (j := 7 * t + 2) (nI_add (7 * t) 2) (by omega) dL_law_265 ?_
    refine j_aload_n C dL_law_266 0 rfl ?_
    refine j_iload C dL_law_267 4 rfl ?_
    refine j_iconst C (v := (3 : Int32)) dL_law_269 (by decide) ?_
    refine j_iadd C dL_law_270 ?_
    refine jl_sld C Q0 (j := 7 * t + 3) (nI_add (7 * t) 3) (by omega) dL_law_271 ?_
    refine j_aload_n C dL_law_272 0 rfl ?_
    refine j_iload C dL_law_273 4 rfl ?_
    refine j_iconst C (v := (4 : Int32)) dL_law_275 (by decide) ?_
    refine j_iadd C dL_law_276 ?_
    refine jl_sld C Q0 (j := 7 * t + 4) (nI_add (7 * t) 4) (by omega) dL_law_277 ?_
    refine j_i2l C dL_law_278 ?_
    refine j_bipush C (v := (32 : Int32)) dL_law_279 (by decide) ?_
    refine j_lshl C dL_law_281 ?_
    refine j_aload_n C dL_law_282 0 rfl ?_
    refine j_iload C dL_law_283 4 rfl ?_
    refine j_iconst C (v := (5 : Int32)) dL_law_285 (by decide) ?_
    refine j_iadd C dL_law_286 ?_
    refine jl_sld C Q0 (j := 7 * t + 5) (nI_add (7 * t) 5) (by omega) dL_law_287 ?_
    refine j_i2l C dL_law_288 ?_
    refine j_ldc2 C (v := (4294967295 : Int64)) (big_mem 1234 (by decide +kernel) (by decide +kernel)) dL_law_289 ?_
    refine j_land C dL_law_292 ?_
    refine j_lor C dL_law_293 ?_
    refine j_aload_n C dL_law_294 0 rfl ?_
    refine j_iload C dL_law_295 4 rfl ?_
    refine j_bipush C (v := (6 : Int32)) dL_law_297 (by decide) ?_
    refine j_iadd C dL_law_299 ?_
    refine jl_sld C Q0 (j := 7 * t + 6) (nI_add (7 * t) 6) (by omega) dL_law_300 ?_
    refine jb_if_eq C (tgt := 308) (φ1 := True) (φ2 := True) dL_law_301 (by decide) (fun _ _ => trivial) (fun _ _ => trivial) (fun c3 => ?_) (fun c3 => ?_)
    · exact absurd c3 c1
    · refine j_iconst C (v := (1 : Int32)) dL_law_304 (by decide) ?_
      refine j_goto C (tgt := 309) dL_law_305 (by decide) ?_
      refine jb_callV (As := [vI (sc (7 * t + 1)), vI (sc (7 * t + 2)), vI (sc (7 * t + 3)), vJ (((Int32.toInt64 (sc (7 * t + 4))) <<< (Int32.toInt64 (32 : Int32) &&& 63)) ||| ((Int32.toInt64 (sc (7 * t + 5))) &&& (4294967295 : Int64))), vI (1 : Int32)]) (rest := []) C rI_ok (c_X9_give m tm (sc (7 * t + 1)) (sc (7 * t + 2)) (sc (7 * t + 3)) (((Int32.toInt64 (sc (7 * t + 4))) <<< (Int32.toInt64 (32 : Int32) &&& 63)) ||| ((Int32.toInt64 (sc (7 * t + 5))) &&& (4294967295 : Int64))) (1 : Int32) e2) kYX9_give kVX9_give (big_mem 1002 (by decide +kernel) (by decide +kernel)) kO9 tm rfl rfl ⟨rfl, rfl, Nat.le_of_ble_eq_true rfl, Nat.le_of_ble_eq_true rfl⟩ (Nat.le_of_ble_eq_true rfl) ⟨by omega, by omega⟩ dL_law_309 (fun _ => ?_)
      show J X 8 k n _ [(0, vR (some b)), (1, vR (some x)), (2, vR (some m)), (3, vR (some o)), (4, vI (nI (7 * t)))] [vI r2] Λ S2 True
      refine j_pop C dL_law_312 rfl ?_
      refine j_goto C (tgt := 1258) dL_law_313 (by decide) ?_
      exact kk _ _ _ _ hq lExt.rf (by omega) (by omega)
set_option maxHeartbeats 4000000 in
theorem lc_2 {X : jX} {b L : Nat} {sc : Nat → Int32} (C : jC X code 8 RL room_1) (Q0 : lawC X b L sc) {x m o t : Nat} (ht : 7 * t + 7 ≤ L) {Λ : sLay} {S : sSt} (tx : isK Λ 8 x) (tm : isK Λ 9 m) (to : isK Λ 11 o) {k n : Nat} (hk : k + 40 ≤ room_1.cells) (hn : n + 923 ≤ room_1.slots) {Qn : sLay → sSt → Prop} (H : St_2 Λ S x m o Qn) (kk : ∀ Λ1 S1 k1 n1, Qn Λ1 S1 → lExt Λ Λ1 → k1 ≤ k + 40 → n1 ≤ n + 923 → J X 8 k1 n1 1258 [(0, vR (some b)), (1, vR (some x)), (2, vR (some m)), (3, vR (some o)), (4, vI (nI (7 * t)))] [] Λ1 S1 True) : J X 8 k n 316 [(0, vR (some b)), (1, vR (some x)), (2, vR (some m)), (3, vR (some o)), (4, vI (nI (7 * t)))] [] Λ S True := by
  refine j_aload_n C dL_law_316 1 rfl ?_
  refine j_aload_n C dL_law_317 0 rfl ?_
  refine j_iload C dL_law_318 4 rfl ?_
  refine j_iconst C (v := (1 : Int32)) dL_law_320 (by decide) ?_
  refine j_iadd C dL_law_321 ?_
  refine jl_sld C Q0 (j := 7 * t + 1) (nI_add (7 * t) 1) (by omega) dL_law_322 ?_
  refine j_aload_n C dL_law_323 0 rfl ?_
  refine j_iload C dL_law_324 4 rfl ?_
  refine j_iconst C (v := (2 : Int32)) dL_law_326 (by decide) ?_
  refine j_iadd C dL_law_327 ?_
  refine jl_sld C Q0 (j := 7 * t + 2) (nI_add (7 * t) 2) (by omega) dL_law_328 ?_
  refine j_aload_n C dL_law_329 0 rfl ?_
  refine j_iload C dL_law_330 4 rfl ?_
  refine j_iconst C (v := (3 : Int32)) dL_law_332 (by decide) ?_
  refine j_iadd C dL_law_333 ?_
  refine jl_sld C Q0 (j := 7 * t + 3) (nI_add (7 * t) 3) (by omega) dL_law_334 ?_
  obtain ⟨r, S1, r2, S2, e1, e2, hq⟩ := H (sc (7 * t + 1)) (sc (7 * t + 2)) (sc (7 * t + 3))
  refine jb_callV (As := [vI (sc (7 * t + 1)), vI (sc (7 * t + 2)), vI (sc (7 * t + 3))]) (rest := []) C rI_ok (c_X8_take x tx (sc (7 * t + 1)) (sc (7 * t + 2)) (sc (7 * t + 3)) e1) kYX8_take kVX8_take (big_mem 359 (by decide +kernel) (by decide +kernel)) kO8 tx rfl rfl ⟨rfl, rfl, Nat.le_of_ble_eq_true rfl, Nat.le_of_ble_eq_true rfl⟩ (Nat.le_of_ble_eq_true rfl) ⟨by omega, by omega⟩ dL_law_335 (fun _ => ?_)
  show J X 8 k n _ [(0, vR (some b)), (1, vR (some x)), (2, vR (some m)), (3, vR (some o)), (4, vI (nI (7 * t)))] [vI r] Λ S1 True
  refine j_pop C dL_law_338 rfl ?_
  refine j_aload_n C dL_law_339 2 rfl ?_
  refine j_aload_n C dL_law_340 0 rfl ?_
  refine j_iload C dL_law_341 4 rfl ?_
  refine j_iconst C (v := (1 : Int32)) dL_law_343 (by decide) ?_
  refine j_iadd C dL_law_344 ?_
  refine jl_sld C Q0 (j := 7 * t + 1) (nI_add (7 * t) 1) (by omega) dL_law_345 ?_
  refine j_aload_n C dL_law_346 0 rfl ?_
  refine j_iload C dL_law_347 4 rfl ?_
  refine j_iconst C (v := (2 : Int32)) dL_law_349 (by decide) ?_
  refine j_iadd C dL_law_350 ?_
  refine jl_sld C Q0 (j := 7 * t + 2) (nI_add (7 * t) 2) (by omega) dL_law_351 ?_
  refine j_aload_n C dL_law_352 0 rfl ?_
  refine j_iload C dL_law_353 4 rfl ?_
  refine j_iconst C (v := (3 : Int32)) dL_law_355 (by decide) ?_
  refine j_iadd C dL_law_356 ?_
  refine jl_sld C Q0 (j := 7 * t + 3) (nI_add (7 * t) 3) (by omega) dL_law_357 ?_
  refine jb_callV (As := [vI (sc (7 * t + 1)), vI (sc (7 * t + 2)), vI (sc (7 * t + 3))]) (rest := []) C rI_ok (c_X9_take m tm (sc (7 * t + 1)) (sc (7 * t + 2)) (sc (7 * t + 3)) e2) kYX9_take kVX9_take (big_mem 1024 (by decide +kernel) (by decide +kernel)) kO9 tm rfl rfl ⟨rfl, rfl, Nat.le_of_ble_eq_true rfl, Nat.le_of_ble_eq_true rfl⟩ (Nat.le_of_ble_eq_true rfl) ⟨by omega, by omega⟩ dL_law_358 (fun _ => ?_)
  show J X 8 k n _ [(0, vR (some b)), (1, vR (some x)), (2, vR (some m)), (3, vR (some o)), (4, vI (nI (7 * t)))] [vI r2] Λ S2 True
  refine j_pop C dL_law_361 rfl ?_
  refine j_goto C (tgt := 1258) dL_law_362 (by decide) ?_
  exact kk _ _ _ _ hq lExt.rf (by omega) (by omega)
set_option maxHeartbeats 4000000 in
theorem lc_3 {X : jX} {b L : Nat} {sc : Nat → Int32} (C : jC X code 8 RL room_1) (Q0 : lawC X b L sc) {x m o t : Nat} (ht : 7 * t + 7 ≤ L) {Λ : sLay} {S : sSt} (tx : isK Λ 8 x) (tm : isK Λ 9 m) (to : isK Λ 11 o) {k n : Nat} (hk : k + 40 ≤ room_1.cells) (hn : n + 923 ≤ room_1.slots) {Qn : sLay → sSt → Prop} (H : St_3 Λ S x m o Qn) (kk : ∀ Λ1 S1 k1 n1, Qn Λ1 S1 → lExt Λ Λ1 → k1 ≤ k + 40 → n1 ≤ n + 923 → J X 8 k1 n1 1258 [(0, vR (some b)), (1, vR (some x)), (2, vR (some m)), (3, vR (some o)), (4, vI (nI (7 * t)))] [] Λ1 S1 True) : J X 8 k n 365 [(0, vR (some b)), (1, vR (some x)), (2, vR (some m)), (3, vR (some o)), (4, vI (nI (7 * t)))] [] Λ S True := by
  refine j_aload_n C dL_law_365 1 rfl ?_
  refine j_aload_n C dL_law_366 0 rfl ?_
  refine j_iload C dL_law_367 4 rfl ?_
  refine j_iconst C (v := (1 : Int32)) dL_law_369 (by decide) ?_
  refine j_iadd C dL_law_370 ?_
  refine jl_sld C Q0 (j := 7 * t + 1) (nI_add (7 * t) 1) (by omega) dL_law_371 ?_
  refine j_aload_n C dL_law_372 0 rfl ?_
  refine j_iload C dL_law_373 4 rfl ?_
  refine j_iconst C (v := (2 : Int32)) dL_law_375 (by decide) ?_
  refine j_iadd C dL_law_376 ?_
  refine jl_sld C Q0 (j := 7 * t + 2) (nI_add (7 * t) 2) (by omega) dL_law_377 ?_
  refine j_aload_n C dL_law_378 0 rfl ?_
  refine j_iload C dL_law_379 4 rfl ?_
  refine j_iconst C (v := (3 : Int32)) dL_law_381 (by decide) ?_
  refine j_iadd C dL_law_382 ?_
  refine jl_sld C Q0 (j := 7 * t + 3) (nI_add (7 * t) 3) (by omega) dL_law_383 ?_
  obtain ⟨r, S1, r2, S2, e1, e2, hq⟩ := H (sc (7 * t + 1)) (sc (7 * t + 2)) (sc (7 * t + 3))
  refine jb_callV (As := [vI (sc (7 * t + 1)), vI (sc (7 * t + 2)), vI (sc (7 * t + 3))]) (rest := []) C rI_ok (c_X8_build x tx (sc (7 * t + 1)) (sc (7 * t + 2)) (sc (7 * t + 3)) e1) kYX8_build kVX8_build (big_mem 368 (by decide +kernel) (by decide +kernel)) kO8 tx rfl rfl ⟨rfl, rfl, Nat.le_of_ble_eq_true rfl, Nat.le_of_ble_eq_true rfl⟩ (Nat.le_of_ble_eq_true rfl) ⟨by omega, by omega⟩ dL_law_384 (fun _ => ?_)
  show J X 8 k n _ [(0, vR (some b)), (1, vR (some x)), (2, vR (some m)), (3, vR (some o)), (4, vI (nI (7 * t)))] [vI r] Λ S1 True
  refine j_pop C dL_law_387 rfl ?_
  refine j_aload_n C dL_law_388 2 rfl ?_
  refine j_aload_n C dL_law_389 0 rfl ?_
  refine j_iload C dL_law_390 4 rfl ?_
  refine j_iconst C (v := (1 : Int32)) dL_law_392 (by decide) ?_
  refine j_iadd C dL_law_393 ?_
  refine jl_sld C Q0 (j := 7 * t + 1) (nI_add (7 * t) 1) (by omega) dL_law_394 ?_
  refine j_aload_n C dL_law_395 0 rfl ?_
  refine j_iload C dL_law_396 4 rfl ?_
  refine j_iconst C (v := (2 : Int32)) dL_law_398 (by decide) ?_
  refine j_iadd C dL_law_399 ?_
  refine jl_sld C Q0 (j := 7 * t + 2) (nI_add (7 * t) 2) (by omega) dL_law_400 ?_
  refine j_aload_n C dL_law_401 0 rfl ?_
  refine j_iload C dL_law_402 4 rfl ?_
  refine j_iconst C (v := (3 : Int32)) dL_law_404 (by decide) ?_
  refine j_iadd C dL_law_405 ?_
  refine jl_sld C Q0 (j := 7 * t + 3) (nI_add (7 * t) 3) (by omega) dL_law_406 ?_
  refine jb_callV (As := [vI (sc (7 * t + 1)), vI (sc (7 * t + 2)), vI (sc (7 * t + 3))]) (rest := []) C rI_ok (c_X9_build m tm (sc (7 * t + 1)) (sc (7 * t + 2)) (sc (7 * t + 3)) e2) kYX9_build kVX9_build (big_mem 1028 (by decide +kernel) (by decide +kernel)) kO9 tm rfl rfl ⟨rfl, rfl, Nat.le_of_ble_eq_true rfl, Nat.le_of_ble_eq_true rfl⟩ (Nat.le_of_ble_eq_true rfl) ⟨by omega, by omega⟩ dL_law_407 (fun _ => ?_)
  show J X 8 k n _ [(0, vR (some b)), (1, vR (some x)), (2, vR (some m)), (3, vR (some o)), (4, vI (nI (7 * t)))] [vI r2] Λ S2 True
  refine j_pop C dL_law_410 rfl ?_
  refine j_goto C (tgt := 1258) dL_law_411 (by decide) ?_
  exact kk _ _ _ _ hq lExt.rf (by omega) (by omega)
set_option maxHeartbeats 4000000 in
theorem lc_4 {X : jX} {b L : Nat} {sc : Nat → Int32} (C : jC X code 8 RL room_1) (Q0 : lawC X b L sc) {x m o t : Nat} (ht : 7 * t + 7 ≤ L) {Λ : sLay} {S : sSt} (tx : isK Λ 8 x) (tm : isK Λ 9 m) (to : isK Λ 11 o) {k n : Nat} (hk : k + 40 ≤ room_1.cells) (hn : n + 923 ≤ room_1.slots) {Qn : sLay → sSt → Prop} (H : St_4 Λ S x m o Qn) (kk : ∀ Λ1 S1 k1 n1, Qn Λ1 S1 → lExt Λ Λ1 → k1 ≤ k + 40 → n1 ≤ n + 923 → J X 8 k1 n1 1258 [(0, vR (some b)), (1, vR (some x)), (2, vR (some m)), (3, vR (some o)), (4, vI (nI (7 * t)))] [] Λ1 S1 True) : J X 8 k n 414 [(0, vR (some b)), (1, vR (some x)), (2, vR (some m)), (3, vR (some o)), (4, vI (nI (7 * t)))] [] Λ S True := by
  refine j_aload_n C dL_law_414 1 rfl ?_
  refine j_aload_n C dL_law_415 0 rfl ?_
  refine j_iload C dL_law_416 4 rfl ?_
  refine j_iconst C (v := (1 : Int32)) dL_law_418 (by decide) ?_
  refine j_iadd C dL_law_419 ?_
  refine jl_sld C Q0 (j := 7 * t + 1) (nI_add (7 * t) 1) (by omega) dL_law_420 ?_
  refine j_aload_n C dL_law_421 0 rfl ?_
  refine j_iload C dL_law_422 4 rfl ?_
  refine j_iconst C (v := (2 : Int32)) dL_law_424 (by decide) ?_
  refine j_iadd C dL_law_425 ?_
  refine jl_sld C Q0 (j := 7 * t + 2) (nI_add (7 * t) 2) (by omega) dL_law_426 ?_
  obtain ⟨r, S1, r2, S2, e1, e2, hq⟩ := H (sc (7 * t + 1)) (sc (7 * t + 2))
  refine jb_callV (As := [vI (sc (7 * t + 1)), vI (sc (7 * t + 2))]) (rest := []) C rI_ok (c_X8_way x tx (sc (7 * t + 1)) (sc (7 * t + 2)) e1) kYX8_way kVX8_way (big_mem 383 (by decide +kernel) (by decide +kernel)) kO8 tx rfl rfl ⟨rfl, rfl, Nat.le_of_ble_eq_true rfl, Nat.le_of_ble_eq_true rfl⟩ (Nat.le_of_ble_eq_true rfl) ⟨by omega, by omega⟩ dL_law_427 (fun _ => ?_)
  show J X 8 k n _ [(0, vR (some b)), (1, vR (some x)), (2, vR (some m)), (3, vR (some o)), (4, vI (nI (7 * t)))] [vI r] Λ S1 True
  refine j_pop C dL_law_430 rfl ?_
  refine j_aload_n C dL_law_431 2 rfl ?_
  refine j_aload_n C dL_law_432 0 rfl ?_
  refine j_iload C dL_law_433 4 rfl ?_
  refine j_iconst C (v := (1 : Int32)) dL_law_435 (by decide) ?_
  refine j_iadd C dL_law_436 ?_
  refine jl_sld C Q0 (j := 7 * t + 1) (nI_add (7 * t) 1) (by omega) dL_law_437 ?_
  refine j_aload_n C dL_law_438 0 rfl ?_
  refine j_iload C dL_law_439 4 rfl ?_
  refine j_iconst C (v := (2 : Int32)) dL_law_441 (by decide) ?_
  refine j_iadd C dL_law_442 ?_
  refine jl_sld C Q0 (j := 7 * t + 2) (nI_add (7 * t) 2) (by omega) dL_law_443 ?_
  refine jb_callV (As := [vI (sc (7 * t + 1)), vI (sc (7 * t + 2))]) (rest := []) C rI_ok (c_X9_way m tm (sc (7 * t + 1)) (sc (7 * t + 2)) e2) kYX9_way kVX9_way (big_mem 1032 (by decide +kernel) (by decide +kernel)) kO9 tm rfl rfl ⟨rfl, rfl, Nat.le_of_ble_eq_true rfl, Nat.le_of_ble_eq_true rfl⟩ (Nat.le_of_ble_eq_true rfl) ⟨by omega, by omega⟩ dL_law_444 (fun _ => ?_)
  show J X 8 k n _ [(0, vR (some b)), (1, vR (some x)), (2, vR (some m)), (3, vR (some o)), (4, vI (nI (7 * t)))] [vI r2] Λ S2 True
  refine j_pop C dL_law_447 rfl ?_
  refine j_goto C (tgt := 1258) dL_law_448 (by decide) ?_
  exact kk _ _ _ _ hq lExt.rf (by omega) (by omega)
set_option maxHeartbeats 4000000 in
theorem lc_5 {X : jX} {b L : Nat} {sc : Nat → Int32} (C : jC X code 8 RL room_1) (Q0 : lawC X b L sc) {x m o t : Nat} (ht : 7 * t + 7 ≤ L) {Λ : sLay} {S : sSt} (tx : isK Λ 8 x) (tm : isK Λ 9 m) (to : isK Λ 11 o) {k n : Nat} (hk : k + 40 ≤ room_1.cells) (hn : n + 923 ≤ room_1.slots) {Qn : sLay → sSt → Prop} (H : St_5 Λ S x m o Qn) (kk : ∀ Λ1 S1 k1 n1, Qn Λ1 S1 → lExt Λ Λ1 → k1 ≤ k + 40 → n1 ≤ n + 923 → J X 8 k1 n1 1258 [(0, vR (some b)), (1, vR (some x)), (2, vR (some m)), (3, vR (some o)), (4, vI (nI (7 * t)))] [] Λ1 S1 True) : J X 8 k n 451 [(0, vR (some b)), (1, vR (some x)), (2, vR (some m)), (3, vR (some o)), (4, vI (nI (7 * t)))] [] Λ S True := by
  refine j_aload_n C dL_law_451 1 rfl ?_
  refine j_aload_n C dL_law_452 0 rfl ?_
  refine j_iload C dL_law_453 4 rfl ?_
  refine j_iconst C (v := (1 : Int32)) dL_law_455 (by decide) ?_
  refine j_iadd C dL_law_456 ?_
  refine jl_sld C Q0 (j := 7 * t + 1) (nI_add (7 * t) 1) (by omega) dL_law_457 ?_
  obtain ⟨r, S1, r2, S2, e1, e2, hq⟩ := H (sc (7 * t + 1))
  refine jb_callV (As := [vI (sc (7 * t + 1))]) (rest := []) C rI_ok (c_X8_unway x tx (sc (7 * t + 1)) e1) kYX8_unway kVX8_unway (big_mem 391 (by decide +kernel) (by decide +kernel)) kO8 tx rfl rfl ⟨rfl, rfl, Nat.le_of_ble_eq_true rfl, Nat.le_of_ble_eq_true rfl⟩ (Nat.le_of_ble_eq_true rfl) ⟨by omega, by omega⟩ dL_law_458 (fun _ => ?_)
  show J X 8 k n _ [(0, vR (some b)), (1, vR (some x)), (2, vR (some m)), (3, vR (some o)), (4, vI (nI (7 * t)))] [vI r] Λ S1 True
  refine j_pop C dL_law_461 rfl ?_
  refine j_aload_n C dL_law_462 2 rfl ?_
  refine j_aload_n C dL_law_463 0 rfl ?_
  refine j_iload C dL_law_464 4 rfl ?_
  refine j_iconst C (v := (1 : Int32)) dL_law_466 (by decide) ?_
  refine j_iadd C dL_law_467 ?_
  refine jl_sld C Q0 (j := 7 * t + 1) (nI_add (7 * t) 1) (by omega) dL_law_468 ?_
  refine jb_callV (As := [vI (sc (7 * t + 1))]) (rest := []) C rI_ok (c_X9_unway m tm (sc (7 * t + 1)) e2) kYX9_unway kVX9_unway (big_mem 1040 (by decide +kernel) (by decide +kernel)) kO9 tm rfl rfl ⟨rfl, rfl, Nat.le_of_ble_eq_true rfl, Nat.le_of_ble_eq_true rfl⟩ (Nat.le_of_ble_eq_true rfl) ⟨by omega, by omega⟩ dL_law_469 (fun _ => ?_)
  show J X 8 k n _ [(0, vR (some b)), (1, vR (some x)), (2, vR (some m)), (3, vR (some o)), (4, vI (nI (7 * t)))] [vI r2] Λ S2 True
  refine j_pop C dL_law_472 rfl ?_
  refine j_goto C (tgt := 1258) dL_law_473 (by decide) ?_
  exact kk _ _ _ _ hq lExt.rf (by omega) (by omega)
set_option maxHeartbeats 4000000 in
theorem lc_6 {X : jX} {b L : Nat} {sc : Nat → Int32} (C : jC X code 8 RL room_1) (Q0 : lawC X b L sc) {x m o t : Nat} (ht : 7 * t + 7 ≤ L) {Λ : sLay} {S : sSt} (tx : isK Λ 8 x) (tm : isK Λ 9 m) (to : isK Λ 11 o) {k n : Nat} (hk : k + 40 ≤ room_1.cells) (hn : n + 923 ≤ room_1.slots) {Qn : sLay → sSt → Prop} (H : St_6 Λ S x m o Qn) (kk : ∀ Λ1 S1 k1 n1, Qn Λ1 S1 → lExt Λ Λ1 → k1 ≤ k + 40 → n1 ≤ n + 923 → J X 8 k1 n1 1258 [(0, vR (some b)), (1, vR (some x)), (2, vR (some m)), (3, vR (some o)), (4, vI (nI (7 * t)))] [] Λ1 S1 True) : J X 8 k n 476 [(0, vR (some b)), (1, vR (some x)), (2, vR (some m)), (3, vR (some o)), (4, vI (nI (7 * t)))] [] Λ S True := by
  refine j_aload_n C dL_law_476 1 rfl ?_
  refine j_aload_n C dL_law_477 0 rfl ?_
  refine j_iload C dL_law_478 4 rfl ?_
  refine j_iconst C (v := (1 : Int32)) dL_law_480 (by decide) ?_
  refine j_iadd C dL_law_481 ?_
  refine jl_sld C Q0 (j := 7 * t + 1) (nI_add (7 * t) 1) (by omega) dL_law_482 ?_
  refine j_aload_n C dL_law_483 0 rfl ?_
  refine j_iload C dL_law_484 4 rfl ?_
  refine j_iconst C (v := (2 : Int32)) dL_law_486 (by decide) ?_
  refine j_iadd C dL_law_487 ?_
  refine jl_sld C Q0 (j := 7 * t + 2) (nI_add (7 * t) 2) (by omega) dL_law_488 ?_
  refine j_aload_n C dL_law_489 0 rfl ?_
  refine j_iload C dL_law_490 4 rfl ?_
  refine j_iconst C (v := (3 : Int32)) dL_law_492 (by decide) ?_
  refine j_iadd C dL_law_493 ?_
  refine jl_sld C Q0 (j := 7 * t + 3) (nI_add (7 * t) 3) (by omega) dL_law_494 ?_
  obtain ⟨r, S1, r2, S2, e1, e2, hq⟩ := H (sc (7 * t + 1)) (sc (7 * t + 2)) (sc (7 * t + 3))
  refine jb_callV (As := [vI (sc (7 * t + 1)), vI (sc (7 * t + 2)), vI (sc (7 * t + 3))]) (rest := []) C rI_ok (c_X8_use x tx (sc (7 * t + 1)) (sc (7 * t + 2)) (sc (7 * t + 3)) e1) kYX8_use kVX8_use (big_mem 396 (by decide +kernel) (by decide +kernel)) kO8 tx rfl rfl ⟨rfl, rfl, Nat.le_of_ble_eq_true rfl, Nat.le_of_ble_eq_true rfl⟩ (Nat.le_of_ble_eq_true rfl) ⟨by omega, by omega⟩ dL_law_495 (fun _ => ?_)
  show J X 8 k n _ [(0, vR (some b)), (1, vR (some x)), (2, vR (some m)), (3, vR (some o)), (4, vI (nI (7 * t)))] [vI r] Λ S1 True
  refine j_pop C dL_law_498 rfl ?_
  refine j_aload_n C dL_law_499 2 rfl ?_
  refine j_aload_n C dL_law_500 0 rfl ?_
  refine j_iload C dL_law_501 4 rfl ?_
  refine j_iconst C (v := (1 : Int32)) dL_law_503 (by decide) ?_
  refine j_iadd C dL_law_504 ?_
  refine jl_sld C Q0 (j := 7 * t + 1) (nI_add (7 * t) 1) (by omega) dL_law_505 ?_
  refine j_aload_n C dL_law_506 0 rfl ?_
  refine j_iload C dL_law_507 4 rfl ?_
  refine j_iconst C (v := (2 : Int32)) dL_law_509 (by decide) ?_
  refine j_iadd C dL_law_510 ?_
  refine jl_sld C Q0 (j := 7 * t + 2) (nI_add (7 * t) 2) (by omega) dL_law_511 ?_
  refine j_aload_n C dL_law_512 0 rfl ?_
  refine j_iload C dL_law_513 4 rfl ?_
  refine j_iconst C (v := (3 : Int32)) dL_law_515 (by decide) ?_
  refine j_iadd C dL_law_516 ?_
  refine jl_sld C Q0 (j := 7 * t + 3) (nI_add (7 * t) 3) (by omega) dL_law_517 ?_
  refine jb_callV (As := [vI (sc (7 * t + 1)), vI (sc (7 * t + 2)), vI (sc (7 * t + 3))]) (rest := []) C rI_ok (c_X9_use m tm (sc (7 * t + 1)) (sc (7 * t + 2)) (sc (7 * t + 3)) e2) kYX9_use kVX9_use (big_mem 1044 (by decide +kernel) (by decide +kernel)) kO9 tm rfl rfl ⟨rfl, rfl, Nat.le_of_ble_eq_true rfl, Nat.le_of_ble_eq_true rfl⟩ (Nat.le_of_ble_eq_true rfl) ⟨by omega, by omega⟩ dL_law_518 (fun _ => ?_)
  show J X 8 k n _ [(0, vR (some b)), (1, vR (some x)), (2, vR (some m)), (3, vR (some o)), (4, vI (nI (7 * t)))] [vI r2] Λ S2 True
  refine j_pop C dL_law_521 rfl ?_
  refine j_goto C (tgt := 1258) dL_law_522 (by decide) ?_
  exact kk _ _ _ _ hq lExt.rf (by omega) (by omega)
set_option maxHeartbeats 4000000 in
theorem lc_7 {X : jX} {b L : Nat} {sc : Nat → Int32} (C : jC X code 8 RL room_1) (Q0 : lawC X b L sc) {x m o t : Nat} (ht : 7 * t + 7 ≤ L) {Λ : sLay} {S : sSt} (tx : isK Λ 8 x) (tm : isK Λ 9 m) (to : isK Λ 11 o) {k n : Nat} (hk : k + 40 ≤ room_1.cells) (hn : n + 923 ≤ room_1.slots) {Qn : sLay → sSt → Prop} (H : St_7 Λ S x m o Qn) (kk : ∀ Λ1 S1 k1 n1, Qn Λ1 S1 → lExt Λ Λ1 → k1 ≤ k + 40 → n1 ≤ n + 923 → J X 8 k1 n1 1258 [(0, vR (some b)), (1, vR (some x)), (2, vR (some m)), (3, vR (some o)), (4, vI (nI (7 * t)))] [] Λ1 S1 True) : J X 8 k n 525 [(0, vR (some b)), (1, vR (some x)), (2, vR (some m)), (3, vR (some o)), (4, vI (nI (7 * t)))] [] Λ S True := by
  refine j_aload_n C dL_law_525 1 rfl ?_
  refine j_aload_n C dL_law_526 0 rfl ?_
  refine j_iload C dL_law_527 4 rfl ?_
  refine j_iconst C (v := (1 : Int32)) dL_law_529 (by decide) ?_
  refine j_iadd C dL_law_530 ?_
  refine jl_sld C Q0 (j := 7 * t + 1) (nI_add (7 * t) 1) (by omega) dL_law_531 ?_
  refine j_aload_n C dL_law_532 0 rfl ?_
  refine j_iload C dL_law_533 4 rfl ?_
  refine j_iconst C (v := (2 : Int32)) dL_law_535 (by decide) ?_
  refine j_iadd C dL_law_536 ?_
  refine jl_sld C Q0 (j := 7 * t + 2) (nI_add (7 * t) 2) (by omega) dL_law_537 ?_
  obtain ⟨r, S1, r2, S2, e1, e2, hq⟩ := H (sc (7 * t + 1)) (sc (7 * t + 2))
  refine jb_callV (As := [vI (sc (7 * t + 1)), vI (sc (7 * t + 2))]) (rest := []) C rI_ok (c_X8_unuse x tx (sc (7 * t + 1)) (sc (7 * t + 2)) e1) kYX8_unuse kVX8_unuse (big_mem 400 (by decide +kernel) (by decide +kernel)) kO8 tx rfl rfl ⟨rfl, rfl, Nat.le_of_ble_eq_true rfl, Nat.le_of_ble_eq_true rfl⟩ (Nat.le_of_ble_eq_true rfl) ⟨by omega, by omega⟩ dL_law_538 (fun _ => ?_)
  show J X 8 k n _ [(0, vR (some b)), (1, vR (some x)), (2, vR (some m)), (3, vR (some o)), (4, vI (nI (7 * t)))] [vI r] Λ S1 True
  refine j_pop C dL_law_541 rfl ?_
  refine j_aload_n C dL_law_542 2 rfl ?_
  refine j_aload_n C dL_law_543 0 rfl ?_
  refine j_iload C dL_law_544 4 rfl ?_
  refine j_iconst C (v := (1 : Int32)) dL_law_546 (by decide) ?_
  refine j_iadd C dL_law_547 ?_
  refine jl_sld C Q0 (j := 7 * t + 1) (nI_add (7 * t) 1) (by omega) dL_law_548 ?_
  refine j_aload_n C dL_law_549 0 rfl ?_
  refine j_iload C dL_law_550 4 rfl ?_
  refine j_iconst C (v := (2 : Int32)) dL_law_552 (by decide) ?_
  refine j_iadd C dL_law_553 ?_
  refine jl_sld C Q0 (j := 7 * t + 2) (nI_add (7 * t) 2) (by omega) dL_law_554 ?_
  refine jb_callV (As := [vI (sc (7 * t + 1)), vI (sc (7 * t + 2))]) (rest := []) C rI_ok (c_X9_unuse m tm (sc (7 * t + 1)) (sc (7 * t + 2)) e2) kYX9_unuse kVX9_unuse (big_mem 1048 (by decide +kernel) (by decide +kernel)) kO9 tm rfl rfl ⟨rfl, rfl, Nat.le_of_ble_eq_true rfl, Nat.le_of_ble_eq_true rfl⟩ (Nat.le_of_ble_eq_true rfl) ⟨by omega, by omega⟩ dL_law_555 (fun _ => ?_)
  show J X 8 k n _ [(0, vR (some b)), (1, vR (some x)), (2, vR (some m)), (3, vR (some o)), (4, vI (nI (7 * t)))] [vI r2] Λ S2 True
  refine j_pop C dL_law_558 rfl ?_
  refine j_goto C (tgt := 1258) dL_law_559 (by decide) ?_
  exact kk _ _ _ _ hq lExt.rf (by omega) (by omega)
set_option maxHeartbeats 4000000 in
theorem lc_8 {X : jX} {b L : Nat} {sc : Nat → Int32} (C : jC X code 8 RL room_1) (Q0 : lawC X b L sc) {x m o t : Nat} (ht : 7 * t + 7 ≤ L) {Λ : sLay} {S : sSt} (tx : isK Λ 8 x) (tm : isK Λ 9 m) (to : isK Λ 11 o) {k n : Nat} (hk : k + 40 ≤ room_1.cells) (hn : n + 923 ≤ room_1.slots) {Qn : sLay → sSt → Prop} (H : St_8 Λ S x m o Qn) (kk : ∀ Λ1 S1 k1 n1, Qn Λ1 S1 → lExt Λ Λ1 → k1 ≤ k + 40 → n1 ≤ n + 923 → J X 8 k1 n1 1258 [(0, vR (some b)), (1, vR (some x)), (2, vR (some m)), (3, vR (some o)), (4, vI (nI (7 * t)))] [] Λ1 S1 True) : J X 8 k n 562 [(0, vR (some b)), (1, vR (some x)), (2, vR (some m)), (3, vR (some o)), (4, vI (nI (7 * t)))] [] Λ S True := by
  refine j_aload_n C dL_law_562 1 rfl ?_
  refine j_aload_n C dL_law_563 0 rfl ?_
  refine j_iload C dL_law_564 4 rfl ?_
  refine j_iconst C (v := (1 : Int32)) dL_law_566 (by decide) ?_
  refine j_iadd C dL_law_567 ?_
  refine jl_sld C Q0 (j := 7 * t + 1) (nI_add (7 * t) 1) (by omega) dL_law_568 ?_
  refine j_aload_n C dL_law_569 0 rfl ?_
  refine j_iload C dL_law_570 4 rfl ?_
  refine j_iconst C (v := (2 : Int32)) dL_law_572 (by decide) ?_
  refine j_iadd C dL_law_573 ?_
  refine jl_sld C Q0 (j := 7 * t + 2) (nI_add (7 * t) 2) (by omega) dL_law_574 ?_
  refine jb_if_eq C (tgt := 582) (φ1 := True) (φ2 := True) dL_law_575 (by decide) (fun _ _ => trivial) (fun _ _ => trivial) (fun c1 => ?_) (fun c1 => ?_)
  · refine j_iconst C (v := (0 : Int32)) dL_law_582 (by decide) ?_
    obtain ⟨r, S1, r2, S2, e1, e2, hq⟩ := H (sc (7 * t + 1)) (0 : Int32) (by decide)
    refine jb_callV (As := [vI (sc (7 * t + 1)), vI (0 : Int32)]) (rest := []) C rI_ok (c_X8_reader x tx (sc (7 * t + 1)) (0 : Int32) e1) kYX8_reader kVX8_reader (big_mem 408 (by decide +kernel) (by decide +kernel)) kO8 tx rfl rfl ⟨rfl, rfl, Nat.le_of_ble_eq_true rfl, Nat.le_of_ble_eq_true rfl⟩ (Nat.le_of_ble_eq_true rfl) ⟨by omega, by omega⟩ dL_law_583 (fun _ => ?_)
    show J X 8 k n _ [(0, vR (some b)), (1, vR (some x)), (2, vR (some m)), (3, vR (some o)), (4, vI (nI (7 * t)))] [vI r] Λ S1 True
    refine j_pop C dL_law_586 rfl ?_
    refine j_aload_n C dL_law_587 2 rfl ?_
    refine j_aload_n C dL_law_588 0 rfl ?_
    refine j_iload C dL_law_589 4 rfl ?_
    refine j_iconst C (v := (1 : Int32)) dL_law_591 (by decide) ?_
    refine j_iadd C dL_law_592 ?_
    refine jl_sld C Q0 (j := 7 * t + 1) (nI_add (7 * t) 1) (by omega) dL_law_593 ?_
    refine j_aload_n C dL_law_594 0 rfl ?_
    refine j_iload C dL_law_595 4 rfl ?_
    refine j_iconst C (v := (2 : Int32)) dL_law_597 (by decide) ?_
    refine j_iadd C dL_law_598 ?_
    refine jl_sld C Q0 (j := 7 * t + 2) (nI_add (7 * t) 2) (by omega) dL_law_599 ?_
    refine jb_if_eq C (tgt := 607) (φ1 := True) (φ2 := True) dL_law_600 (by decide) (fun _ _ => trivial) (fun _ _ => trivial) (fun c2 => ?_) (fun c2 => ?_)
    · refine j_iconst C (v := (0 : Int32)) dL_law_607 (by decide) ?_
      refine jb_callV (As := [vI (sc (7 * t + 1)), vI (0 : Int32)]) (rest := []) C rI_ok (c_X9_reader m tm (sc (7 * t + 1)) (0 : Int32) e2) kYX9_reader kVX9_reader (big_mem 1052 (by decide +kernel) (by decide +kernel)) kO9 tm rfl rfl ⟨rfl, rfl, Nat.le_of_ble_eq_true rfl, Nat.le_of_ble_eq_true rfl⟩ (Nat.le_of_ble_eq_true rfl) ⟨by omega, by omega⟩ dL_law_608 (fun _ => ?_)
      show J X 8 k n _ [(0, vR (some b)), (1, vR (some x)), (2, vR (some m)), (3, vR (some o)), (4, vI (nI (7 * t)))] [vI r2] Λ S2 True
      refine j_pop C dL_law_611 rfl ?_
      refine j_goto C (tgt := 1258) dL_law_612 (by decide) ?_
      exact kk _ _ _ _ hq lExt.rf (by omega) (by omega)
    · exact absurd c1 c2
  · refine j_iconst C (v := (1 : Int32)) dL_law_578 (by decide) ?_
    refine j_goto C (tgt := 583) dL_law_579 (by decide) ?_
    obtain ⟨r, S1, r2, S2, e1, e2, hq⟩ := H (sc (7 * t + 1)) (1 : Int32) (by decide)
    refine jb_callV (As := [vI (sc (7 * t + 1)), vI (1 : Int32)]) (rest := []) C rI_ok (c_X8_reader x tx (sc (7 * t + 1)) (1 : Int32) e1) kYX8_reader kVX8_reader (big_mem 408 (by decide +kernel) (by decide +kernel)) kO8 tx rfl rfl ⟨rfl, rfl, Nat.le_of_ble_eq_true rfl, Nat.le_of_ble_eq_true rfl⟩ (Nat.le_of_ble_eq_true rfl) ⟨by omega, by omega⟩ dL_law_583 (fun _ => ?_)
    show J X 8 k n _ [(0, vR (some b)), (1, vR (some x)), (2, vR (some m)), (3, vR (some o)), (4, vI (nI (7 * t)))] [vI r] Λ S1 True
    refine j_pop C dL_law_586 rfl ?_
    refine j_aload_n C dL_law_587 2 rfl ?_
    refine j_aload_n C dL_law_588 0 rfl ?_
    refine j_iload C dL_law_589 4 rfl ?_
    refine j_iconst C (v := (1 : Int32)) dL_law_591 (by decide) ?_
    refine j_iadd C dL_law_592 ?_
    refine jl_sld C Q0 (j := 7 * t + 1) (nI_add (7 * t) 1) (by omega) dL_law_593 ?_
    refine j_aload_n C dL_law_594 0 rfl ?_
    refine j_iload C dL_law_595 4 rfl ?_
    refine j_iconst C (v := (2 : Int32)) dL_law_597 (by decide) ?_
    refine j_iadd C dL_law_598 ?_
    refine jl_sld C Q0 (j := 7 * t + 2) (nI_add (7 * t) 2) (by omega) dL_law_599 ?_
    refine jb_if_eq C (tgt := 607) (φ1 := True) (φ2 := True) dL_law_600 (by decide) (fun _ _ => trivial) (fun _ _ => trivial) (fun c3 => ?_) (fun c3 => ?_)
    · exact absurd c3 c1
    · refine j_iconst C (v := (1 : Int32)) dL_law_603 (by decide) ?_
      refine j_goto C (tgt := 608) dL_law_604 (by decide) ?_
      refine jb_callV (As := [vI (sc (7 * t + 1)), vI (1 : Int32)]) (rest := []) C rI_ok (c_X9_reader m tm (sc (7 * t + 1)) (1 : Int32) e2) kYX9_reader kVX9_reader (big_mem 1052 (by decide +kernel) (by decide +kernel)) kO9 tm rfl rfl ⟨rfl, rfl, Nat.le_of_ble_eq_true rfl, Nat.le_of_ble_eq_true rfl⟩ (Nat.le_of_ble_eq_true rfl) ⟨by omega, by omega⟩ dL_law_608 (fun _ => ?_)
      show J X 8 k n _ [(0, vR (some b)), (1, vR (some x)), (2, vR (some m)), (3, vR (some o)), (4, vI (nI (7 * t)))] [vI r2] Λ S2 True
      refine j_pop C dL_law_611 rfl ?_
      refine j_goto C (tgt := 1258) dL_law_612 (by decide) ?_
      exact kk _ _ _ _ hq lExt.rf (by omega) (by omega)
set_option maxHeartbeats 4000000 in
theorem lc_9 {X : jX} {b L : Nat} {sc : Nat → Int32} (C : jC X code 8 RL room_1) (Q0 : lawC X b L sc) {x m o t : Nat} (ht : 7 * t + 7 ≤ L) {Λ : sLay} {S : sSt} (tx : isK Λ 8 x) (tm : isK Λ 9 m) (to : isK Λ 11 o) {k n : Nat} (hk : k + 40 ≤ room_1.cells) (hn : n + 923 ≤ room_1.slots) {Qn : sLay → sSt → Prop} (H : St_9 Λ S x m o Qn) (kk : ∀ Λ1 S1 k1 n1, Qn Λ1 S1 → lExt Λ Λ1 → k1 ≤ k + 40 → n1 ≤ n + 923 → J X 8 k1 n1 1258 [(0, vR (some b)), (1, vR (some x)), (2, vR (some m)), (3, vR (some o)), (4, vI (nI (7 * t)))] [] Λ1 S1 True) : J X 8 k n 615 [(0, vR (some b)), (1, vR (some x)), (2, vR (some m)), (3, vR (some o)), (4, vI (nI (7 * t)))] [] Λ S True := by
  refine j_aload_n C dL_law_615 1 rfl ?_
  refine j_aload_n C dL_law_616 0 rfl ?_
  refine j_iload C dL_law_617 4 rfl ?_
  refine j_iconst C (v := (1 : Int32)) dL_law_619 (by decide) ?_
  refine j_iadd C dL_law_620 ?_
  refine jl_sld C Q0 (j := 7 * t + 1) (nI_add (7 * t) 1) (by omega) dL_law_621 ?_
  refine j_aload_n C dL_law_622 0 rfl ?_
  refine j_iload C dL_law_623 4 rfl ?_
  refine j_iconst C (v := (2 : Int32)) dL_law_625 (by decide) ?_
  refine j_iadd C dL_law_626 ?_
  refine jl_sld C Q0 (j := 7 * t + 2) (nI_add (7 * t) 2) (by omega) dL_law_627 ?_
  obtain ⟨r, S1, r2, S2, e1, e2, hq⟩ := H (sc (7 * t + 1)) (sc (7 * t + 2))
  refine jb_callV (As := [vI (sc (7 * t + 1)), vI (sc (7 * t + 2))]) (rest := []) C rI_ok (c_X8_generated x tx (sc (7 * t + 1)) (sc (7 * t + 2)) e1) kYX8_generated kVX8_generated (big_mem 417 (by decide +kernel) (by decide +kernel)) kO8 tx rfl rfl ⟨rfl, rfl, Nat.le_of_ble_eq_true rfl, Nat.le_of_ble_eq_true rfl⟩ (Nat.le_of_ble_eq_true rfl) ⟨by omega, by omega⟩ dL_law_628 (fun _ => ?_)
  show J X 8 k n _ [(0, vR (some b)), (1, vR (some x)), (2, vR (some m)), (3, vR (some o)), (4, vI (nI (7 * t)))] [vI r] Λ S1 True
  refine j_pop C dL_law_631 rfl ?_
  refine j_aload_n C dL_law_632 2 rfl ?_
  refine j_aload_n C dL_law_633 0 rfl ?_
  refine j_iload C dL_law_634 4 rfl ?_
  refine j_iconst C (v := (1 : Int32)) dL_law_636 (by decide) ?_
  refine j_iadd C dL_law_637 ?_
  refine jl_sld C Q0 (j := 7 * t + 1) (nI_add (7 * t) 1) (by omega) dL_law_638 ?_
  refine j_aload_n C dL_law_639 0 rfl ?_
  refine j_iload C dL_law_640 4 rfl ?_
  refine j_iconst C (v := (2 : Int32)) dL_law_642 (by decide) ?_
  refine j_iadd C dL_law_643 ?_
  refine jl_sld C Q0 (j := 7 * t + 2) (nI_add (7 * t) 2) (by omega) dL_law_644 ?_
  refine jb_callV (As := [vI (sc (7 * t + 1)), vI (sc (7 * t + 2))]) (rest := []) C rI_ok (c_X9_generated m tm (sc (7 * t + 1)) (sc (7 * t + 2)) e2) kYX9_generated kVX9_generated (big_mem 1060 (by decide +kernel) (by decide +kernel)) kO9 tm rfl rfl ⟨rfl, rfl, Nat.le_of_ble_eq_true rfl, Nat.le_of_ble_eq_true rfl⟩ (Nat.le_of_ble_eq_true rfl) ⟨by omega, by omega⟩ dL_law_645 (fun _ => ?_)
  show J X 8 k n _ [(0, vR (some b)), (1, vR (some x)), (2, vR (some m)), (3, vR (some o)), (4, vI (nI (7 * t)))] [vI r2] Λ S2 True
  refine j_pop C dL_law_648 rfl ?_
  refine j_goto C (tgt := 1258) dL_law_649 (by decide) ?_
  exact kk _ _ _ _ hq lExt.rf (by omega) (by omega)
set_option maxHeartbeats 4000000 in
theorem lc_10 {X : jX} {b L : Nat} {sc : Nat → Int32} (C : jC X code 8 RL room_1) (Q0 : lawC X b L sc) {x m o t : Nat} (ht : 7 * t + 7 ≤ L) {Λ : sLay} {S : sSt} (tx : isK Λ 8 x) (tm : isK Λ 9 m) (to : isK Λ 11 o) {k n : Nat} (hk : k + 40 ≤ room_1.cells) (hn : n + 923 ≤ room_1.slots) {Qn : sLay → sSt → Prop} (H : St_10 Λ S x m o Qn) (kk : ∀ Λ1 S1 k1 n1, Qn Λ1 S1 → lExt Λ Λ1 → k1 ≤ k + 40 → n1 ≤ n + 923 → J X 8 k1 n1 1258 [(0, vR (some b)), (1, vR (some x)), (2, vR (some m)), (3, vR (some o)), (4, vI (nI (7 * t)))] [] Λ1 S1 True) : J X 8 k n 652 [(0, vR (some b)), (1, vR (some x)), (2, vR (some m)), (3, vR (some o)), (4, vI (nI (7 * t)))] [] Λ S True := by
  refine j_aload_n C dL_law_652 1 rfl ?_
  refine j_aload_n C dL_law_653 0 rfl ?_
  refine j_iload C dL_law_654 4 rfl ?_
  refine j_iconst C (v := (1 : Int32)) dL_law_656 (by decide) ?_
  refine j_iadd C dL_law_657 ?_
  refine jl_sld C Q0 (j := 7 * t + 1) (nI_add (7 * t) 1) (by omega) dL_law_658 ?_
  obtain ⟨r, S1, r2, S2, e1, e2, hq⟩ := H (sc (7 * t + 1))
  refine jb_callV (As := [vI (sc (7 * t + 1))]) (rest := []) C rI_ok (c_X8_remove x tx (sc (7 * t + 1)) e1) kYX8_remove kVX8_remove (big_mem 421 (by decide +kernel) (by decide +kernel)) kO8 tx rfl rfl ⟨rfl, rfl, Nat.le_of_ble_eq_true rfl, Nat.le_of_ble_eq_true rfl⟩ (Nat.le_of_ble_eq_true rfl) ⟨by omega, by omega⟩ dL_law_659 (fun _ => ?_)
  show J X 8 k n _ [(0, vR (some b)), (1, vR (some x)), (2, vR (some m)), (3, vR (some o)), (4, vI (nI (7 * t)))] [vI r] Λ S1 True
  refine j_pop C dL_law_662 rfl ?_
  refine j_aload_n C dL_law_663 2 rfl ?_
  refine j_aload_n C dL_law_664 0 rfl ?_
  refine j_iload C dL_law_665 4 rfl ?_
  refine j_iconst C (v := (1 : Int32)) dL_law_667 (by decide) ?_
  refine j_iadd C dL_law_668 ?_
  refine jl_sld C Q0 (j := 7 * t + 1) (nI_add (7 * t) 1) (by omega) dL_law_669 ?_
  refine jb_callV (As := [vI (sc (7 * t + 1))]) (rest := []) C rI_ok (c_X9_remove m tm (sc (7 * t + 1)) e2) kYX9_remove kVX9_remove (big_mem 1064 (by decide +kernel) (by decide +kernel)) kO9 tm rfl rfl ⟨rfl, rfl, Nat.le_of_ble_eq_true rfl, Nat.le_of_ble_eq_true rfl⟩ (Nat.le_of_ble_eq_true rfl) ⟨by omega, by omega⟩ dL_law_670 (fun _ => ?_)
  show J X 8 k n _ [(0, vR (some b)), (1, vR (some x)), (2, vR (some m)), (3, vR (some o)), (4, vI (nI (7 * t)))] [vI r2] Λ S2 True
  refine j_pop C dL_law_673 rfl ?_
  refine j_goto C (tgt := 1258) dL_law_674 (by decide) ?_
  exact kk _ _ _ _ hq lExt.rf (by omega) (by omega)
set_option maxHeartbeats 4000000 in
theorem lc_11 {X : jX} {b L : Nat} {sc : Nat → Int32} (C : jC X code 8 RL room_1) (Q0 : lawC X b L sc) {x m o t : Nat} (ht : 7 * t + 7 ≤ L) {Λ : sLay} {S : sSt} (tx : isK Λ 8 x) (tm : isK Λ 9 m) (to : isK Λ 11 o) {k n : Nat} (hk : k + 40 ≤ room_1.cells) (hn : n + 923 ≤ room_1.slots) {Qn : sLay → sSt → Prop} (H : St_11 Λ S x m o Qn) (kk : ∀ Λ1 S1 k1 n1, Qn Λ1 S1 → lExt Λ Λ1 → k1 ≤ k + 40 → n1 ≤ n + 923 → J X 8 k1 n1 1258 [(0, vR (some b)), (1, vR (some x)), (2, vR (some m)), (3, vR (some o)), (4, vI (nI (7 * t)))] [] Λ1 S1 True) : J X 8 k n 677 [(0, vR (some b)), (1, vR (some x)), (2, vR (some m)), (3, vR (some o)), (4, vI (nI (7 * t)))] [] Λ S True := by
  refine j_aload_n C dL_law_677 1 rfl ?_
  refine j_aload_n C dL_law_678 0 rfl ?_
  refine j_iload C dL_law_679 4 rfl ?_
  refine j_iconst C (v := (1 : Int32)) dL_law_681 (by decide) ?_
  refine j_iadd C dL_law_682 ?_
  refine jl_sld C Q0 (j := 7 * t + 1) (nI_add (7 * t) 1) (by omega) dL_law_683 ?_
  refine j_aload_n C dL_law_684 0 rfl ?_
  refine j_iload C dL_law_685 4 rfl ?_
  refine j_iconst C (v := (2 : Int32)) dL_law_687 (by decide) ?_
  refine j_iadd C dL_law_688 ?_
  refine jl_sld C Q0 (j := 7 * t + 2) (nI_add (7 * t) 2) (by omega) dL_law_689 ?_
  refine j_aload_n C dL_law_690 0 rfl ?_
  refine j_iload C dL_law_691 4 rfl ?_
  refine j_iconst C (v := (3 : Int32)) dL_law_693 (by decide) ?_
  refine j_iadd C dL_law_694 ?_
  refine jl_sld C Q0 (j := 7 * t + 3) (nI_add (7 * t) 3) (by omega) dL_law_695 ?_
  obtain ⟨r, r2, S2, e1, e2, hq⟩ := H (sc (7 * t + 1)) (sc (7 * t + 2)) (sc (7 * t + 3))
  refine jb_callV (As := [vI (sc (7 * t + 1)), vI (sc (7 * t + 2)), vI (sc (7 * t + 3))]) (rest := []) C rI_ok (c_X8_found x tx (sc (7 * t + 1)) (sc (7 * t + 2)) (sc (7 * t + 3)) e1) kYX8_found kVX8_found (big_mem 443 (by decide +kernel) (by decide +kernel)) kO8 tx rfl rfl ⟨rfl, rfl, Nat.le_of_ble_eq_true rfl, Nat.le_of_ble_eq_true rfl⟩ (Nat.le_of_ble_eq_true rfl) ⟨by omega, by omega⟩ dL_law_696 (fun _ => ?_)
  show J X 8 k n _ [(0, vR (some b)), (1, vR (some x)), (2, vR (some m)), (3, vR (some o)), (4, vI (nI (7 * t)))] [vI r] Λ S True
  refine j_pop C dL_law_699 rfl ?_
  refine j_aload_n C dL_law_700 2 rfl ?_
  refine j_aload_n C dL_law_701 0 rfl ?_
  refine j_iload C dL_law_702 4 rfl ?_
  refine j_iconst C (v := (1 : Int32)) dL_law_704 (by decide) ?_
  refine j_iadd C dL_law_705 ?_
  refine jl_sld C Q0 (j := 7 * t + 1) (nI_add (7 * t) 1) (by omega) dL_law_706 ?_
  refine j_aload_n C dL_law_707 0 rfl ?_
  refine j_iload C dL_law_708 4 rfl ?_
  refine j_iconst C (v := (2 : Int32)) dL_law_710 (by decide) ?_
  refine j_iadd C dL_law_711 ?_
  refine jl_sld C Q0 (j := 7 * t + 2) (nI_add (7 * t) 2) (by omega) dL_law_712 ?_
  refine j_aload_n C dL_law_713 0 rfl ?_
  refine j_iload C dL_law_714 4 rfl ?_
  refine j_iconst C (v := (3 : Int32)) dL_law_716 (by decide) ?_
  refine j_iadd C dL_law_717 ?_
  refine jl_sld C Q0 (j := 7 * t + 3) (nI_add (7 * t) 3) (by omega) dL_law_718 ?_
  refine jb_callV (As := [vI (sc (7 * t + 1)), vI (sc (7 * t + 2)), vI (sc (7 * t + 3))]) (rest := []) C rI_ok (c_X9_found m tm (sc (7 * t + 1)) (sc (7 * t + 2)) (sc (7 * t + 3)) e2) kYX9_found kVX9_found (big_mem 1072 (by decide +kernel) (by decide +kernel)) kO9 tm rfl rfl ⟨rfl, rfl, Nat.le_of_ble_eq_true rfl, Nat.le_of_ble_eq_true rfl⟩ (Nat.le_of_ble_eq_true rfl) ⟨by omega, by omega⟩ dL_law_719 (fun _ => ?_)
  show J X 8 k n _ [(0, vR (some b)), (1, vR (some x)), (2, vR (some m)), (3, vR (some o)), (4, vI (nI (7 * t)))] [vI r2] Λ S2 True
  refine j_pop C dL_law_722 rfl ?_
  refine j_goto C (tgt := 1258) dL_law_723 (by decide) ?_
  exact kk _ _ _ _ hq lExt.rf (by omega) (by omega)
set_option maxHeartbeats 4000000 in
theorem lc_12 {X : jX} {b L : Nat} {sc : Nat → Int32} (C : jC X code 8 RL room_1) (Q0 : lawC X b L sc) {x m o t : Nat} (ht : 7 * t + 7 ≤ L) {Λ : sLay} {S : sSt} (tx : isK Λ 8 x) (tm : isK Λ 9 m) (to : isK Λ 11 o) {k n : Nat} (hk : k + 40 ≤ room_1.cells) (hn : n + 923 ≤ room_1.slots) {Qn : sLay → sSt → Prop} (H : St_12 Λ S x m o Qn) (kk : ∀ Λ1 S1 k1 n1, Qn Λ1 S1 → lExt Λ Λ1 → k1 ≤ k + 40 → n1 ≤ n + 923 → J X 8 k1 n1 1258 [(0, vR (some b)), (1, vR (some x)), (2, vR (some m)), (3, vR (some o)), (4, vI (nI (7 * t)))] [] Λ1 S1 True) : J X 8 k n 726 [(0, vR (some b)), (1, vR (some x)), (2, vR (some m)), (3, vR (some o)), (4, vI (nI (7 * t)))] [] Λ S True := by
  refine j_aload_n C dL_law_726 1 rfl ?_
  refine j_aload_n C dL_law_727 0 rfl ?_
  refine j_iload C dL_law_728 4 rfl ?_
  refine j_iconst C (v := (1 : Int32)) dL_law_730 (by decide) ?_
  refine j_iadd C dL_law_731 ?_
  refine jl_sld C Q0 (j := 7 * t + 1) (nI_add (7 * t) 1) (by omega) dL_law_732 ?_
  refine j_aload_n C dL_law_733 0 rfl ?_
  refine j_iload C dL_law_734 4 rfl ?_
  refine j_iconst C (v := (2 : Int32)) dL_law_736 (by decide) ?_
  refine j_iadd C dL_law_737 ?_
  refine jl_sld C Q0 (j := 7 * t + 2) (nI_add (7 * t) 2) (by omega) dL_law_738 ?_
  obtain ⟨r, S1, r2, S2, e1, e2, hq⟩ := H (sc (7 * t + 1)) (sc (7 * t + 2))
  refine jb_callV (As := [vI (sc (7 * t + 1)), vI (sc (7 * t + 2))]) (rest := []) C rJ_ok (c_X8_value x tx (sc (7 * t + 1)) (sc (7 * t + 2)) e1) kYX8_value kVX8_value (big_mem 454 (by decide +kernel) (by decide +kernel)) kO8 tx rfl rfl ⟨rfl, rfl, Nat.le_of_ble_eq_true rfl, Nat.le_of_ble_eq_true rfl⟩ (Nat.le_of_ble_eq_true rfl) ⟨by omega, by omega⟩ dL_law_739 (fun _ => ?_)
  show J X 8 k n _ [(0, vR (some b)), (1, vR (some x)), (2, vR (some m)), (3, vR (some o)), (4, vI (nI (7 * t)))] [vJ r] Λ S1 True
  refine jl_pop2 C dL_law_742 ?_
  refine j_aload_n C dL_law_743 2 rfl ?_
  refine j_aload_n C dL_law_744 0 rfl ?_
  refine j_iload C dL_law_745 4 rfl ?_
  refine j_iconst C (v := (1 : Int32)) dL_law_747 (by decide) ?_
  refine j_iadd C dL_law_748 ?_
  refine jl_sld C Q0 (j := 7 * t + 1) (nI_add (7 * t) 1) (by omega) dL_law_749 ?_
  refine j_aload_n C dL_law_750 0 rfl ?_
  refine j_iload C dL_law_751 4 rfl ?_
  refine j_iconst C (v := (2 : Int32)) dL_law_753 (by decide) ?_
  refine j_iadd C dL_law_754 ?_
  refine jl_sld C Q0 (j := 7 * t + 2) (nI_add (7 * t) 2) (by omega) dL_law_755 ?_
  refine jb_callV (As := [vI (sc (7 * t + 1)), vI (sc (7 * t + 2))]) (rest := []) C rJ_ok (c_X9_value m tm (sc (7 * t + 1)) (sc (7 * t + 2)) e2) kYX9_value kVX9_value (big_mem 1080 (by decide +kernel) (by decide +kernel)) kO9 tm rfl rfl ⟨rfl, rfl, Nat.le_of_ble_eq_true rfl, Nat.le_of_ble_eq_true rfl⟩ (Nat.le_of_ble_eq_true rfl) ⟨by omega, by omega⟩ dL_law_756 (fun _ => ?_)
  show J X 8 k n _ [(0, vR (some b)), (1, vR (some x)), (2, vR (some m)), (3, vR (some o)), (4, vI (nI (7 * t)))] [vJ r2] Λ S2 True
  refine jl_pop2 C dL_law_759 ?_
  refine j_goto C (tgt := 1258) dL_law_760 (by decide) ?_
  exact kk _ _ _ _ hq lExt.rf (by omega) (by omega)
set_option maxHeartbeats 4000000 in
theorem lc_13 {X : jX} {b L : Nat} {sc : Nat → Int32} (C : jC X code 8 RL room_1) (Q0 : lawC X b L sc) {x m o t : Nat} (ht : 7 * t + 7 ≤ L) {Λ : sLay} {S : sSt} (tx : isK Λ 8 x) (tm : isK Λ 9 m) (to : isK Λ 11 o) {k n : Nat} (hk : k + 40 ≤ room_1.cells) (hn : n + 923 ≤ room_1.slots) {Qn : sLay → sSt → Prop} (H : St_13 Λ S x m o Qn) (kk : ∀ Λ1 S1 k1 n1, Qn Λ1 S1 → lExt Λ Λ1 → k1 ≤ k + 40 → n1 ≤ n + 923 → J X 8 k1 n1 1258 [(0, vR (some b)), (1, vR (some x)), (2, vR (some m)), (3, vR (some o)), (4, vI (nI (7 * t)))] [] Λ1 S1 True) : J X 8 k n 763 [(0, vR (some b)), (1, vR (some x)), (2, vR (some m)), (3, vR (some o)), (4, vI (nI (7 * t)))] [] Λ S True := by
  refine j_aload_n C dL_law_763 1 rfl ?_
  refine j_aload_n C dL_law_764 0 rfl ?_
  refine j_iload C dL_law_765 4 rfl ?_
  refine j_iconst C (v := (1 : Int32)) dL_law_767 (by decide) ?_
  refine j_iadd C dL_law_768 ?_
  refine jl_sld C Q0 (j := 7 * t + 1) (nI_add (7 * t) 1) (by omega) dL_law_769 ?_
  refine j_aload_n C dL_law_770 0 rfl ?_
  refine j_iload C dL_law_771 4 rfl ?_
  refine j_iconst C (v := (2 : Int32)) dL_law_773 (by decide) ?_
  refine j_iadd C dL_law_774 ?_
  refine jl_sld C Q0 (j := 7 * t + 2) (nI_add (7 * t) 2) (by omega) dL_law_775 ?_
  obtain ⟨r, S1, r2, S2, e1, e2, hq⟩ := H (sc (7 * t + 1)) (sc (7 * t + 2))
  refine jb_callV (As := [vI (sc (7 * t + 1)), vI (sc (7 * t + 2))]) (rest := []) C rI_ok (c_X8_round x tx (sc (7 * t + 1)) (sc (7 * t + 2)) e1) kYX8_round kVX8_round (big_mem 503 (by decide +kernel) (by decide +kernel)) kO8 tx rfl rfl ⟨rfl, rfl, Nat.le_of_ble_eq_true rfl, Nat.le_of_ble_eq_true rfl⟩ (Nat.le_of_ble_eq_true rfl) ⟨by omega, by omega⟩ dL_law_776 (fun _ => ?_)
  show J X 8 k n _ [(0, vR (some b)), (1, vR (some x)), (2, vR (some m)), (3, vR (some o)), (4, vI (nI (7 * t)))] [vI r] Λ S1 True
  refine j_pop C dL_law_779 rfl ?_
  refine j_aload_n C dL_law_780 2 rfl ?_
  refine j_aload_n C dL_law_781 0 rfl ?_
  refine j_iload C dL_law_782 4 rfl ?_
  refine j_iconst C (v := (1 : Int32)) dL_law_784 (by decide) ?_
  refine j_iadd C dL_law_785 ?_
  refine jl_sld C Q0 (j := 7 * t + 1) (nI_add (7 * t) 1) (by omega) dL_law_786 ?_
  refine j_aload_n C dL_law_787 0 rfl ?_
  refine j_iload C dL_law_788 4 rfl ?_
  refine j_iconst C (v := (2 : Int32)) dL_law_790 (by decide) ?_
  refine j_iadd C dL_law_791 ?_
  refine jl_sld C Q0 (j := 7 * t + 2) (nI_add (7 * t) 2) (by omega) dL_law_792 ?_
  refine jb_callV (As := [vI (sc (7 * t + 1)), vI (sc (7 * t + 2))]) (rest := []) C rI_ok (c_X9_round m tm (sc (7 * t + 1)) (sc (7 * t + 2)) e2) kYX9_round kVX9_round (big_mem 1096 (by decide +kernel) (by decide +kernel)) kO9 tm rfl rfl ⟨rfl, rfl, Nat.le_of_ble_eq_true rfl, Nat.le_of_ble_eq_true rfl⟩ (Nat.le_of_ble_eq_true rfl) ⟨by omega, by omega⟩ dL_law_793 (fun _ => ?_)
  show J X 8 k n _ [(0, vR (some b)), (1, vR (some x)), (2, vR (some m)), (3, vR (some o)), (4, vI (nI (7 * t)))] [vI r2] Λ S2 True
  refine j_pop C dL_law_796 rfl ?_
  refine j_goto C (tgt := 1258) dL_law_797 (by decide) ?_
  exact kk _ _ _ _ hq lExt.rf (by omega) (by omega)
set_option maxHeartbeats 4000000 in
theorem lc_14 {X : jX} {b L : Nat} {sc : Nat → Int32} (C : jC X code 8 RL room_1) (Q0 : lawC X b L sc) {x m o t : Nat} (ht : 7 * t + 7 ≤ L) {Λ : sLay} {S : sSt} (tx : isK Λ 8 x) (tm : isK Λ 9 m) (to : isK Λ 11 o) {k n : Nat} (hk : k + 40 ≤ room_1.cells) (hn : n + 923 ≤ room_1.slots) {Qn : sLay → sSt → Prop} (H : St_14 Λ S x m o Qn) (kk : ∀ Λ1 S1 k1 n1, Qn Λ1 S1 → lExt Λ Λ1 → k1 ≤ k + 40 → n1 ≤ n + 923 → J X 8 k1 n1 1258 [(0, vR (some b)), (1, vR (some x)), (2, vR (some m)), (3, vR (some o)), (4, vI (nI (7 * t)))] [] Λ1 S1 True) : J X 8 k n 800 [(0, vR (some b)), (1, vR (some x)), (2, vR (some m)), (3, vR (some o)), (4, vI (nI (7 * t)))] [] Λ S True := by
  refine j_aload_n C dL_law_800 1 rfl ?_
  refine j_aload_n C dL_law_801 0 rfl ?_
  refine j_iload C dL_law_802 4 rfl ?_
  refine j_iconst C (v := (1 : Int32)) dL_law_804 (by decide) ?_
  refine j_iadd C dL_law_805 ?_
  refine jl_sld C Q0 (j := 7 * t + 1) (nI_add (7 * t) 1) (by omega) dL_law_806 ?_
  refine j_aload_n C dL_law_807 0 rfl ?_
  refine j_iload C dL_law_808 4 rfl ?_
  refine j_iconst C (v := (2 : Int32)) dL_law_810 (by decide) ?_
  refine j_iadd C dL_law_811 ?_
  refine jl_sld C Q0 (j := 7 * t + 2) (nI_add (7 * t) 2) (by omega) dL_law_812 ?_
  refine j_aload_n C dL_law_813 0 rfl ?_
  refine j_iload C dL_law_814 4 rfl ?_
  refine j_iconst C (v := (3 : Int32)) dL_law_816 (by decide) ?_
  refine j_iadd C dL_law_817 ?_
  refine jl_sld C Q0 (j := 7 * t + 3) (nI_add (7 * t) 3) (by omega) dL_law_818 ?_
  refine j_aload_n C dL_law_819 0 rfl ?_
  refine j_iload C dL_law_820 4 rfl ?_
  refine j_iconst C (v := (4 : Int32)) dL_law_822 (by decide) ?_
  refine j_iadd C dL_law_823 ?_
  refine jl_sld C Q0 (j := 7 * t + 4) (nI_add (7 * t) 4) (by omega) dL_law_824 ?_
  obtain ⟨r, S1, r2, S2, e1, e2, hq⟩ := H (sc (7 * t + 1)) (sc (7 * t + 2)) (sc (7 * t + 3)) (sc (7 * t + 4))
  refine jb_callV (As := [vI (sc (7 * t + 1)), vI (sc (7 * t + 2)), vI (sc (7 * t + 3)), vI (sc (7 * t + 4))]) (rest := []) C rI_ok (c_X8_chain x tx (sc (7 * t + 1)) (sc (7 * t + 2)) (sc (7 * t + 3)) (sc (7 * t + 4)) e1) kYX8_chain kVX8_chain (big_mem 507 (by decide +kernel) (by decide +kernel)) kO8 tx rfl rfl ⟨rfl, rfl, Nat.le_of_ble_eq_true rfl, Nat.le_of_ble_eq_true rfl⟩ (Nat.le_of_ble_eq_true rfl) ⟨by omega, by omega⟩ dL_law_825 (fun _ => ?_)
  show J X 8 k n _ [(0, vR (some b)), (1, vR (some x)), (2, vR (some m)), (3, vR (some o)), (4, vI (nI (7 * t)))] [vI r] Λ S1 True
  refine j_pop C dL_law_828 rfl ?_
  refine j_aload_n C dL_law_829 2 rfl ?_
  refine j_aload_n C dL_law_830 0 rfl ?_
  refine j_iload C dL_law_831 4 rfl ?_
  refine j_iconst C (v := (1 : Int32)) dL_law_833 (by decide) ?_
  refine j_iadd C dL_law_834 ?_
  refine jl_sld C Q0 (j := 7 * t + 1) (nI_add (7 * t) 1) (by omega) dL_law_835 ?_
  refine j_aload_n C dL_law_836 0 rfl ?_
  refine j_iload C dL_law_837 4 rfl ?_
  refine j_iconst C (v := (2 : Int32)) dL_law_839 (by decide) ?_
  refine j_iadd C dL_law_840 ?_
  refine jl_sld C Q0 (j := 7 * t + 2) (nI_add (7 * t) 2) (by omega) dL_law_841 ?_
  refine j_aload_n C dL_law_842 0 rfl ?_
  refine j_iload C dL_law_843 4 rfl ?_
  refine j_iconst C (v := (3 : Int32)) dL_law_845 (by decide) ?_
  refine j_iadd C dL_law_846 ?_
  refine jl_sld C Q0 (j := 7 * t + 3) (nI_add (7 * t) 3) (by omega) dL_law_847 ?_
  refine j_aload_n C dL_law_848 0 rfl ?_
  refine j_iload C dL_law_849 4 rfl ?_
  refine j_iconst C (v := (4 : Int32)) dL_law_851 (by decide) ?_
  refine j_iadd C dL_law_852 ?_
  refine jl_sld C Q0 (j := 7 * t + 4) (nI_add (7 * t) 4) (by omega) dL_law_853 ?_
  refine jb_callV (As := [vI (sc (7 * t + 1)), vI (sc (7 * t + 2)), vI (sc (7 * t + 3)), vI (sc (7 * t + 4))]) (rest := []) C rI_ok (c_X9_chain m tm (sc (7 * t + 1)) (sc (7 * t + 2)) (sc (7 * t + 3)) (sc (7 * t + 4)) e2) kYX9_chain kVX9_chain (big_mem 1100 (by decide +kernel) (by decide +kernel)) kO9 tm rfl rfl ⟨rfl, rfl, Nat.le_of_ble_eq_true rfl, Nat.le_of_ble_eq_true rfl⟩ (Nat.le_of_ble_eq_true rfl) ⟨by omega, by omega⟩ dL_law_854 (fun _ => ?_)
  show J X 8 k n _ [(0, vR (some b)), (1, vR (some x)), (2, vR (some m)), (3, vR (some o)), (4, vI (nI (7 * t)))] [vI r2] Λ S2 True
  refine j_pop C dL_law_857 rfl ?_
  refine j_goto C (tgt := 1258) dL_law_858 (by decide) ?_
  exact kk _ _ _ _ hq lExt.rf (by omega) (by omega)
set_option maxHeartbeats 4000000 in
theorem lc_15 {X : jX} {b L : Nat} {sc : Nat → Int32} (C : jC X code 8 RL room_1) (Q0 : lawC X b L sc) {x m o t : Nat} (ht : 7 * t + 7 ≤ L) {Λ : sLay} {S : sSt} (tx : isK Λ 8 x) (tm : isK Λ 9 m) (to : isK Λ 11 o) {k n : Nat} (hk : k + 40 ≤ room_1.cells) (hn : n + 923 ≤ room_1.slots) {Qn : sLay → sSt → Prop} (H : St_15 Λ S x m o Qn) (kk : ∀ Λ1 S1 k1 n1, Qn Λ1 S1 → lExt Λ Λ1 → k1 ≤ k + 40 → n1 ≤ n + 923 → J X 8 k1 n1 1258 [(0, vR (some b)), (1, vR (some x)), (2, vR (some m)), (3, vR (some o)), (4, vI (nI (7 * t)))] [] Λ1 S1 True) : J X 8 k n 861 [(0, vR (some b)), (1, vR (some x)), (2, vR (some m)), (3, vR (some o)), (4, vI (nI (7 * t)))] [] Λ S True := by
  refine j_aload_n C dL_law_861 1 rfl ?_
  refine j_aload_n C dL_law_862 0 rfl ?_
  refine j_iload C dL_law_863 4 rfl ?_
  refine j_iconst C (v := (1 : Int32)) dL_law_865 (by decide) ?_
  refine j_iadd C dL_law_866 ?_
  refine jl_sld C Q0 (j := 7 * t + 1) (nI_add (7 * t) 1) (by omega) dL_law_867 ?_
  obtain ⟨r, S1, r2, S2, e1, e2, hq⟩ := H (sc (7 * t + 1))
  refine jb_callV (As := [vI (sc (7 * t + 1))]) (rest := []) C rI_ok (c_X8_missing x tx (sc (7 * t + 1)) e1) kYX8_missing kVX8_missing (big_mem 526 (by decide +kernel) (by decide +kernel)) kO8 tx rfl rfl ⟨rfl, rfl, Nat.le_of_ble_eq_true rfl, Nat.le_of_ble_eq_true rfl⟩ (Nat.le_of_ble_eq_true rfl) ⟨by omega, by omega⟩ dL_law_868 (fun _ => ?_)
  show J X 8 k n _ [(0, vR (some b)), (1, vR (some x)), (2, vR (some m)), (3, vR (some o)), (4, vI (nI (7 * t)))] [vI r] Λ S1 True
  refine j_pop C dL_law_871 rfl ?_
  refine j_aload_n C dL_law_872 2 rfl ?_
  refine j_aload_n C dL_law_873 0 rfl ?_
  refine j_iload C dL_law_874 4 rfl ?_
  refine j_iconst C (v := (1 : Int32)) dL_law_876 (by decide) ?_
  refine j_iadd C dL_law_877 ?_
  refine jl_sld C Q0 (j := 7 * t + 1) (nI_add (7 * t) 1) (by omega) dL_law_878 ?_
  refine jb_callV (As := [vI (sc (7 * t + 1))]) (rest := []) C rI_ok (c_X9_missing m tm (sc (7 * t + 1)) e2) kYX9_missing kVX9_missing (big_mem 1108 (by decide +kernel) (by decide +kernel)) kO9 tm rfl rfl ⟨rfl, rfl, Nat.le_of_ble_eq_true rfl, Nat.le_of_ble_eq_true rfl⟩ (Nat.le_of_ble_eq_true rfl) ⟨by omega, by omega⟩ dL_law_879 (fun _ => ?_)
  show J X 8 k n _ [(0, vR (some b)), (1, vR (some x)), (2, vR (some m)), (3, vR (some o)), (4, vI (nI (7 * t)))] [vI r2] Λ S2 True
  refine j_pop C dL_law_882 rfl ?_
  refine j_goto C (tgt := 1258) dL_law_883 (by decide) ?_
  exact kk _ _ _ _ hq lExt.rf (by omega) (by omega)
set_option maxHeartbeats 4000000 in
theorem lc_16 {X : jX} {b L : Nat} {sc : Nat → Int32} (C : jC X code 8 RL room_1) (Q0 : lawC X b L sc) {x m o t : Nat} (ht : 7 * t + 7 ≤ L) {Λ : sLay} {S : sSt} (tx : isK Λ 8 x) (tm : isK Λ 9 m) (to : isK Λ 11 o) {k n : Nat} (hk : k + 40 ≤ room_1.cells) (hn : n + 923 ≤ room_1.slots) {Qn : sLay → sSt → Prop} (H : St_16 Λ S x m o Qn) (kk : ∀ Λ1 S1 k1 n1, Qn Λ1 S1 → lExt Λ Λ1 → k1 ≤ k + 40 → n1 ≤ n + 923 → J X 8 k1 n1 1258 [(0, vR (some b)), (1, vR (some x)), (2, vR (some m)), (3, vR (some o)), (4, vI (nI (7 * t)))] [] Λ1 S1 True) : J X 8 k n 886 [(0, vR (some b)), (1, vR (some x)), (2, vR (some m)), (3, vR (some o)), (4, vI (nI (7 * t)))] [] Λ S True := by
  refine j_aload_n C dL_law_886 1 rfl ?_
  refine j_aload_n C dL_law_887 0 rfl ?_
  refine j_iload C dL_law_888 4 rfl ?_
  refine j_iconst C (v := (1 : Int32)) dL_law_890 (by decide) ?_
  refine j_iadd C dL_law_891 ?_
  refine jl_sld C Q0 (j := 7 * t + 1) (nI_add (7 * t) 1) (by omega) dL_law_892 ?_
  obtain ⟨r, S1, r2, S2, e1, e2, hq⟩ := H (sc (7 * t + 1))
  refine jb_callV (As := [vI (sc (7 * t + 1))]) (rest := []) C rI_ok (c_X8_size x tx (sc (7 * t + 1)) e1) kYX8_size kVX8_size (big_mem 543 (by decide +kernel) (by decide +kernel)) kO8 tx rfl rfl ⟨rfl, rfl, Nat.le_of_ble_eq_true rfl, Nat.le_of_ble_eq_true rfl⟩ (Nat.le_of_ble_eq_true rfl) ⟨by omega, by omega⟩ dL_law_893 (fun _ => ?_)
  show J X 8 k n _ [(0, vR (some b)), (1, vR (some x)), (2, vR (some m)), (3, vR (some o)), (4, vI (nI (7 * t)))] [vI r] Λ S1 True
  refine j_pop C dL_law_896 rfl ?_
  refine j_aload_n C dL_law_897 2 rfl ?_
  refine j_aload_n C dL_law_898 0 rfl ?_
  refine j_iload C dL_law_899 4 rfl ?_
  refine j_iconst C (v := (1 : Int32)) dL_law_901 (by decide) ?_
  refine j_iadd C dL_law_902 ?_
  refine jl_sld C Q0 (j := 7 * t + 1) (nI_add (7 * t) 1) (by omega) dL_law_903 ?_
  refine jb_callV (As := [vI (sc (7 * t + 1))]) (rest := []) C rI_ok (c_X9_size m tm (sc (7 * t + 1)) e2) kYX9_size kVX9_size (big_mem 1112 (by decide +kernel) (by decide +kernel)) kO9 tm rfl rfl ⟨rfl, rfl, Nat.le_of_ble_eq_true rfl, Nat.le_of_ble_eq_true rfl⟩ (Nat.le_of_ble_eq_true rfl) ⟨by omega, by omega⟩ dL_law_904 (fun _ => ?_)
  show J X 8 k n _ [(0, vR (some b)), (1, vR (some x)), (2, vR (some m)), (3, vR (some o)), (4, vI (nI (7 * t)))] [vI r2] Λ S2 True
  refine j_pop C dL_law_907 rfl ?_
  refine j_goto C (tgt := 1258) dL_law_908 (by decide) ?_
  exact kk _ _ _ _ hq lExt.rf (by omega) (by omega)
set_option maxHeartbeats 4000000 in
theorem lc_17 {X : jX} {b L : Nat} {sc : Nat → Int32} (C : jC X code 8 RL room_1) (Q0 : lawC X b L sc) {x m o t : Nat} (ht : 7 * t + 7 ≤ L) {Λ : sLay} {S : sSt} (tx : isK Λ 8 x) (tm : isK Λ 9 m) (to : isK Λ 11 o) {k n : Nat} (hk : k + 40 ≤ room_1.cells) (hn : n + 923 ≤ room_1.slots) {Qn : sLay → sSt → Prop} (H : St_17 Λ S x m o Qn) (kk : ∀ Λ1 S1 k1 n1, Qn Λ1 S1 → lExt Λ Λ1 → k1 ≤ k + 40 → n1 ≤ n + 923 → J X 8 k1 n1 1258 [(0, vR (some b)), (1, vR (some x)), (2, vR (some m)), (3, vR (some o)), (4, vI (nI (7 * t)))] [] Λ1 S1 True) : J X 8 k n 911 [(0, vR (some b)), (1, vR (some x)), (2, vR (some m)), (3, vR (some o)), (4, vI (nI (7 * t)))] [] Λ S True := by
  refine j_aload_n C dL_law_911 1 rfl ?_
  refine j_aload_n C dL_law_912 0 rfl ?_
  refine j_iload C dL_law_913 4 rfl ?_
  refine j_iconst C (v := (1 : Int32)) dL_law_915 (by decide) ?_
  refine j_iadd C dL_law_916 ?_
  refine jl_sld C Q0 (j := 7 * t + 1) (nI_add (7 * t) 1) (by omega) dL_law_917 ?_
  refine j_aload_n C dL_law_918 0 rfl ?_
  refine j_iload C dL_law_919 4 rfl ?_
  refine j_iconst C (v := (2 : Int32)) dL_law_921 (by decide) ?_
  refine j_iadd C dL_law_922 ?_
  refine jl_sld C Q0 (j := 7 * t + 2) (nI_add (7 * t) 2) (by omega) dL_law_923 ?_
  refine j_aload_n C dL_law_924 3 rfl ?_
  obtain ⟨kk9, S1, b9, S2, e1, e2, hq⟩ := H (sc (7 * t + 1)) (sc (7 * t + 2))
  refine jx_callSH (np := 4) C [vR (some x), vI (sc (7 * t + 1)), vI (sc (7 * t + 2)), vR (some o)] [] rI_ok Q0.2.2.2.1 Q0.2.2.2.2.2.1 (c_L_row Q0.2.2.2.2.2.2.1 x tx (sc (7 * t + 1)) (sc (7 * t + 2)) o to e1) (big_mem 738 (by decide +kernel) (by decide +kernel)) (big_mem 38 (by decide +kernel) (by decide +kernel)) (by decide +kernel) (big_mem 737 (by decide +kernel) (by decide +kernel)) (big_mem 736 (by decide +kernel) (by decide +kernel)) rfl rfl ⟨rfl, rfl, Nat.le_of_ble_eq_true rfl, Nat.le_of_ble_eq_true rfl⟩ (Nat.le_of_ble_eq_true rfl) ⟨by omega, by omega⟩ dL_law_925 (fun _ => ?_)
  show J X 8 (k + 1) (n + 8) _ [(0, vR (some b)), (1, vR (some x)), (2, vR (some m)), (3, vR (some o)), (4, vI (nI (7 * t)))] [vI kk9] Λ S1 True
  refine j_istore C (L' := [(5, vI kk9), (0, vR (some b)), (1, vR (some x)), (2, vR (some m)), (3, vR (some o)), (4, vI (nI (7 * t)))]) dL_law_928 (by decide) rfl ?_
  refine j_aload_n C dL_law_930 3 rfl ?_
  refine j_aload_n C dL_law_931 1 rfl ?_
  refine j_iload C dL_law_932 5 rfl ?_
  refine j_iconst C (v := (1 : Int32)) dL_law_934 (by decide) ?_
  refine j_iadd C dL_law_935 ?_
  refine jl_sld C Q0 (j := 7 * t + 1) (nI_add (7 * t) 1) (by omega) dL_law_936 ?_
  refine j_aload_n C dL_law_937 1 rfl ?_
  refine j_iload C dL_law_938 5 rfl ?_
  refine j_iconst C (v := (2 : Int32)) dL_law_940 (by decide) ?_
  refine j_iadd C dL_law_941 ?_
  refine jl_sld C Q0 (j := 7 * t + 2) (nI_add (7 * t) 2) (by omega) dL_law_942 ?_
  refine jb_callV (As := [vI (sc (7 * t + 1)), vI (sc (7 * t + 2))]) (rest := []) C rJ_ok (c_X9_row m tm (sc (7 * t + 1)) (sc (7 * t + 2)) e2) kYX9_row kVX9_row (big_mem 1146 (by decide +kernel) (by decide +kernel)) kO9 tm rfl rfl ⟨rfl, rfl, Nat.le_of_ble_eq_true rfl, Nat.le_of_ble_eq_true rfl⟩ (Nat.le_of_ble_eq_true rfl) ⟨by omega, by omega⟩ dL_law_943 (fun _ => ?_)
  show J X 8 (k + 1) (n + 8) _ [(5, vI kk9), (0, vR (some b)), (1, vR (some x)), (2, vR (some m)), (3, vR (some o)), (4, vI (nI (7 * t)))] [vJ b9] Λ S2 True
  refine j_lstore C (L' := [(6, vJ b9), (5, vI kk9), (0, vR (some b)), (1, vR (some x)), (2, vR (some m)), (3, vR (some o)), (4, vI (nI (7 * t)))]) dL_law_946 (by decide) rfl ?_
  refine j_goto C (tgt := 1258) dL_law_948 (by decide) ?_
  refine j_sub (L' := [(0, vR (some b)), (1, vR (some x)), (2, vR (some m)), (3, vR (some o)), (4, vI (nI (7 * t)))]) [2, 3, 4, 5, 6] rfl ?_
  exact kk _ _ _ _ hq lExt.rf (by omega) (by omega)
set_option maxHeartbeats 4000000 in
theorem lc_18 {X : jX} {b L : Nat} {sc : Nat → Int32} (C : jC X code 8 RL room_1) (Q0 : lawC X b L sc) {x m o t : Nat} (ht : 7 * t + 7 ≤ L) {Λ : sLay} {S : sSt} (tx : isK Λ 8 x) (tm : isK Λ 9 m) (to : isK Λ 11 o) {k n : Nat} (hk : k + 40 ≤ room_1.cells) (hn : n + 923 ≤ room_1.slots) {Qn : sLay → sSt → Prop} (H : St_18 Λ S x m o Qn) (kk : ∀ Λ1 S1 k1 n1, Qn Λ1 S1 → lExt Λ Λ1 → k1 ≤ k + 40 → n1 ≤ n + 923 → J X 8 k1 n1 1258 [(0, vR (some b)), (1, vR (some x)), (2, vR (some m)), (3, vR (some o)), (4, vI (nI (7 * t)))] [] Λ1 S1 True) : J X 8 k n 951 [(0, vR (some b)), (1, vR (some x)), (2, vR (some m)), (3, vR (some o)), (4, vI (nI (7 * t)))] [] Λ S True := by
  refine j_aload_n C dL_law_951 1 rfl ?_
  refine j_aload_n C dL_law_952 0 rfl ?_
  refine j_iload C dL_law_953 4 rfl ?_
  refine j_iconst C (v := (1 : Int32)) dL_law_955 (by decide) ?_
  refine j_iadd C dL_law_956 ?_
  refine jl_sld C Q0 (j := 7 * t + 1) (nI_add (7 * t) 1) (by omega) dL_law_957 ?_
  refine j_aload_n C dL_law_958 0 rfl ?_
  refine j_iload C dL_law_959 4 rfl ?_
  refine j_iconst C (v := (2 : Int32)) dL_law_961 (by decide) ?_
  refine j_iadd C dL_law_962 ?_
  refine jl_sld C Q0 (j := 7 * t + 2) (nI_add (7 * t) 2) (by omega) dL_law_963 ?_
  refine j_aload_n C dL_law_964 3 rfl ?_
  obtain ⟨kk9, S1, b9, S2, e1, e2, hq⟩ := H (sc (7 * t + 1)) (sc (7 * t + 2))
  refine jx_callSH (np := 4) C [vR (some x), vI (sc (7 * t + 1)), vI (sc (7 * t + 2)), vR (some o)] [] rI_ok Q0.2.2.2.1 Q0.2.2.2.2.2.1 (c_L_kept Q0.2.2.2.2.2.2.1 x tx (sc (7 * t + 1)) (sc (7 * t + 2)) o to e1) (big_mem 837 (by decide +kernel) (by decide +kernel)) (big_mem 38 (by decide +kernel) (by decide +kernel)) (by decide +kernel) (big_mem 836 (by decide +kernel) (by decide +kernel)) (big_mem 835 (by decide +kernel) (by decide +kernel)) rfl rfl ⟨rfl, rfl, Nat.le_of_ble_eq_true rfl, Nat.le_of_ble_eq_true rfl⟩ (Nat.le_of_ble_eq_true rfl) ⟨by omega, by omega⟩ dL_law_965 (fun _ => ?_)
  show J X 8 (k + 1) (n + 8) _ [(0, vR (some b)), (1, vR (some x)), (2, vR (some m)), (3, vR (some o)), (4, vI (nI (7 * t)))] [vI kk9] Λ S1 True
  refine j_istore C (L' := [(5, vI kk9), (0, vR (some b)), (1, vR (some x)), (2, vR (some m)), (3, vR (some o)), (4, vI (nI (7 * t)))]) dL_law_968 (by decide) rfl ?_
  refine j_aload_n C dL_law_970 3 rfl ?_
  refine j_aload_n C dL_law_971 1 rfl ?_
  refine j_iload C dL_law_972 5 rfl ?_
  refine j_iconst C (v := (1 : Int32)) dL_law_974 (by decide) ?_
  refine j_iadd C dL_law_975 ?_
  refine jl_sld C Q0 (j := 7 * t + 1) (nI_add (7 * t) 1) (by omega) dL_law_976 ?_
  refine j_aload_n C dL_law_977 1 rfl ?_
  refine j_iload C dL_law_978 5 rfl ?_
  refine j_iconst C (v := (2 : Int32)) dL_law_980 (by decide) ?_
  refine j_iadd C dL_law_981 ?_
  refine jl_sld C Q0 (j := 7 * t + 2) (nI_add (7 * t) 2) (by omega) dL_law_982 ?_
  refine jb_callV (As := [vI (sc (7 * t + 1)), vI (sc (7 * t + 2))]) (rest := []) C rJ_ok (c_X9_kept m tm (sc (7 * t + 1)) (sc (7 * t + 2)) e2) kYX9_kept kVX9_kept (big_mem 1150 (by decide +kernel) (by decide +kernel)) kO9 tm rfl rfl ⟨rfl, rfl, Nat.le_of_ble_eq_true rfl, Nat.le_of_ble_eq_true rfl⟩ (Nat.le_of_ble_eq_true rfl) ⟨by omega, by omega⟩ dL_law_983 (fun _ => ?_)
  show J X 8 (k + 1) (n + 8) _ [(5, vI kk9), (0, vR (some b)), (1, vR (some x)), (2, vR (some m)), (3, vR (some o)), (4, vI (nI (7 * t)))] [vJ b9] Λ S2 True
  refine j_lstore C (L' := [(6, vJ b9), (5, vI kk9), (0, vR (some b)), (1, vR (some x)), (2, vR (some m)), (3, vR (some o)), (4, vI (nI (7 * t)))]) dL_law_986 (by decide) rfl ?_
  refine j_goto C (tgt := 1258) dL_law_988 (by decide) ?_
  refine j_sub (L' := [(0, vR (some b)), (1, vR (some x)), (2, vR (some m)), (3, vR (some o)), (4, vI (nI (7 * t)))]) [2, 3, 4, 5, 6] rfl ?_
  exact kk _ _ _ _ hq lExt.rf (by omega) (by omega)
set_option maxHeartbeats 4000000 in
theorem lc_19 {X : jX} {b L : Nat} {sc : Nat → Int32} (C : jC X code 8 RL room_1) (Q0 : lawC X b L sc) {x m o t : Nat} (ht : 7 * t + 7 ≤ L) {Λ : sLay} {S : sSt} (tx : isK Λ 8 x) (tm : isK Λ 9 m) (to : isK Λ 11 o) {k n : Nat} (hk : k + 40 ≤ room_1.cells) (hn : n + 923 ≤ room_1.slots) {Qn : sLay → sSt → Prop} (H : St_19 Λ S x m o Qn) (kk : ∀ Λ1 S1 k1 n1, Qn Λ1 S1 → lExt Λ Λ1 → k1 ≤ k + 40 → n1 ≤ n + 923 → J X 8 k1 n1 1258 [(0, vR (some b)), (1, vR (some x)), (2, vR (some m)), (3, vR (some o)), (4, vI (nI (7 * t)))] [] Λ1 S1 True) : J X 8 k n 991 [(0, vR (some b)), (1, vR (some x)), (2, vR (some m)), (3, vR (some o)), (4, vI (nI (7 * t)))] [] Λ S True := by
  refine j_aload_n C dL_law_991 1 rfl ?_
  refine j_aload_n C dL_law_992 0 rfl ?_
  refine j_iload C dL_law_993 4 rfl ?_
  refine j_iconst C (v := (1 : Int32)) dL_law_995 (by decide) ?_
  refine j_iadd C dL_law_996 ?_
  refine jl_sld C Q0 (j := 7 * t + 1) (nI_add (7 * t) 1) (by omega) dL_law_997 ?_
  obtain ⟨r, S1, r2, S2, e1, e2, hq⟩ := H (sc (7 * t + 1))
  refine jb_callV (As := [vI (sc (7 * t + 1))]) (rest := []) C rI_ok (c_X8_why x tx (sc (7 * t + 1)) e1) kYX8_why kVX8_why (big_mem 620 (by decide +kernel) (by decide +kernel)) kO8 tx rfl rfl ⟨rfl, rfl, Nat.le_of_ble_eq_true rfl, Nat.le_of_ble_eq_true rfl⟩ (Nat.le_of_ble_eq_true rfl) ⟨by omega, by omega⟩ dL_law_998 (fun _ => ?_)
  show J X 8 k n _ [(0, vR (some b)), (1, vR (some x)), (2, vR (some m)), (3, vR (some o)), (4, vI (nI (7 * t)))] [vI r] Λ S1 True
  refine j_pop C dL_law_1001 rfl ?_
  refine j_aload_n C dL_law_1002 2 rfl ?_
  refine j_aload_n C dL_law_1003 0 rfl ?_
  refine j_iload C dL_law_1004 4 rfl ?_
  refine j_iconst C (v := (1 : Int32)) dL_law_1006 (by decide) ?_
  refine j_iadd C dL_law_1007 ?_
  refine jl_sld C Q0 (j := 7 * t + 1) (nI_add (7 * t) 1) (by omega) dL_law_1008 ?_
  refine jb_callV (As := [vI (sc (7 * t + 1))]) (rest := []) C rI_ok (c_X9_why m tm (sc (7 * t + 1)) e2) kYX9_why kVX9_why (big_mem 1154 (by decide +kernel) (by decide +kernel)) kO9 tm rfl rfl ⟨rfl, rfl, Nat.le_of_ble_eq_true rfl, Nat.le_of_ble_eq_true rfl⟩ (Nat.le_of_ble_eq_true rfl) ⟨by omega, by omega⟩ dL_law_1009 (fun _ => ?_)
  show J X 8 k n _ [(0, vR (some b)), (1, vR (some x)), (2, vR (some m)), (3, vR (some o)), (4, vI (nI (7 * t)))] [vI r2] Λ S2 True
  refine j_pop C dL_law_1012 rfl ?_
  refine j_goto C (tgt := 1258) dL_law_1013 (by decide) ?_
  exact kk _ _ _ _ hq lExt.rf (by omega) (by omega)
set_option maxHeartbeats 4000000 in
theorem lc_20 {X : jX} {b L : Nat} {sc : Nat → Int32} (C : jC X code 8 RL room_1) (Q0 : lawC X b L sc) {x m o t : Nat} (ht : 7 * t + 7 ≤ L) {Λ : sLay} {S : sSt} (tx : isK Λ 8 x) (tm : isK Λ 9 m) (to : isK Λ 11 o) {k n : Nat} (hk : k + 40 ≤ room_1.cells) (hn : n + 923 ≤ room_1.slots) {Qn : sLay → sSt → Prop} (H : St_20 Λ S x m o Qn) (kk : ∀ Λ1 S1 k1 n1, Qn Λ1 S1 → lExt Λ Λ1 → k1 ≤ k + 40 → n1 ≤ n + 923 → J X 8 k1 n1 1258 [(0, vR (some b)), (1, vR (some x)), (2, vR (some m)), (3, vR (some o)), (4, vI (nI (7 * t)))] [] Λ1 S1 True) : J X 8 k n 1016 [(0, vR (some b)), (1, vR (some x)), (2, vR (some m)), (3, vR (some o)), (4, vI (nI (7 * t)))] [] Λ S True := by
  refine j_aload_n C dL_law_1016 1 rfl ?_
  obtain ⟨r, S1, r2, S2, e1, e2, hq⟩ := H 
  refine jb_callV (As := []) (rest := []) C rI_ok (c_X8_needs x tx e1) kYX8_needs kVX8_needs (big_mem 640 (by decide +kernel) (by decide +kernel)) kO8 tx rfl rfl ⟨rfl, rfl, Nat.le_of_ble_eq_true rfl, Nat.le_of_ble_eq_true rfl⟩ (Nat.le_of_ble_eq_true rfl) ⟨by omega, by omega⟩ dL_law_1017 (fun _ => ?_)
  show J X 8 k n _ [(0, vR (some b)), (1, vR (some x)), (2, vR (some m)), (3, vR (some o)), (4, vI (nI (7 * t)))] [vI r] Λ S1 True
  refine j_pop C dL_law_1020 rfl ?_
  refine j_aload_n C dL_law_1021 2 rfl ?_
  refine jb_callV (As := []) (rest := []) C rI_ok (c_X9_needs m tm e2) kYX9_needs kVX9_needs (big_mem 1166 (by decide +kernel) (by decide +kernel)) kO9 tm rfl rfl ⟨rfl, rfl, Nat.le_of_ble_eq_true rfl, Nat.le_of_ble_eq_true rfl⟩ (Nat.le_of_ble_eq_true rfl) ⟨by omega, by omega⟩ dL_law_1022 (fun _ => ?_)
  show J X 8 k n _ [(0, vR (some b)), (1, vR (some x)), (2, vR (some m)), (3, vR (some o)), (4, vI (nI (7 * t)))] [vI r2] Λ S2 True
  refine j_pop C dL_law_1025 rfl ?_
  refine j_goto C (tgt := 1258) dL_law_1026 (by decide) ?_
  exact kk _ _ _ _ hq lExt.rf (by omega) (by omega)
set_option maxHeartbeats 4000000 in
theorem lc_21 {X : jX} {b L : Nat} {sc : Nat → Int32} (C : jC X code 8 RL room_1) (Q0 : lawC X b L sc) {x m o t : Nat} (ht : 7 * t + 7 ≤ L) {Λ : sLay} {S : sSt} (tx : isK Λ 8 x) (tm : isK Λ 9 m) (to : isK Λ 11 o) {k n : Nat} (hk : k + 40 ≤ room_1.cells) (hn : n + 923 ≤ room_1.slots) {Qn : sLay → sSt → Prop} (H : St_21 Λ S x m o Qn) (kk : ∀ Λ1 S1 k1 n1, Qn Λ1 S1 → lExt Λ Λ1 → k1 ≤ k + 40 → n1 ≤ n + 923 → J X 8 k1 n1 1258 [(0, vR (some b)), (1, vR (some x)), (2, vR (some m)), (3, vR (some o)), (4, vI (nI (7 * t)))] [] Λ1 S1 True) : J X 8 k n 1029 [(0, vR (some b)), (1, vR (some x)), (2, vR (some m)), (3, vR (some o)), (4, vI (nI (7 * t)))] [] Λ S True := by
  refine j_aload_n C dL_law_1029 1 rfl ?_
  refine j_aload_n C dL_law_1030 0 rfl ?_
  refine j_iload C dL_law_1031 4 rfl ?_
  refine j_iconst C (v := (1 : Int32)) dL_law_1033 (by decide) ?_
  refine j_iadd C dL_law_1034 ?_
  refine jl_sld C Q0 (j := 7 * t + 1) (nI_add (7 * t) 1) (by omega) dL_law_1035 ?_
  obtain ⟨r, S1, r2, S2, e1, e2, hq⟩ := H (sc (7 * t + 1))
  refine jb_callV (As := [vI (sc (7 * t + 1))]) (rest := []) C rI_ok (c_X8_make x tx (sc (7 * t + 1)) e1) kYX8_make kVX8_make (big_mem 644 (by decide +kernel) (by decide +kernel)) kO8 tx rfl rfl ⟨rfl, rfl, Nat.le_of_ble_eq_true rfl, Nat.le_of_ble_eq_true rfl⟩ (Nat.le_of_ble_eq_true rfl) ⟨by omega, by omega⟩ dL_law_1036 (fun _ => ?_)
  show J X 8 k n _ [(0, vR (some b)), (1, vR (some x)), (2, vR (some m)), (3, vR (some o)), (4, vI (nI (7 * t)))] [vI r] Λ S1 True
  refine j_pop C dL_law_1039 rfl ?_
  refine j_aload_n C dL_law_1040 2 rfl ?_
  refine j_aload_n C dL_law_1041 0 rfl ?_
  refine j_iload C dL_law_1042 4 rfl ?_
  refine j_iconst C (v := (1 : Int32)) dL_law_1044 (by decide) ?_
  refine j_iadd C dL_law_1045 ?_
  refine jl_sld C Q0 (j := 7 * t + 1) (nI_add (7 * t) 1) (by omega) dL_law_1046 ?_
  refine jb_callV (As := [vI (sc (7 * t + 1))]) (rest := []) C rI_ok (c_X9_make m tm (sc (7 * t + 1)) e2) kYX9_make kVX9_make (big_mem 1170 (by decide +kernel) (by decide +kernel)) kO9 tm rfl rfl ⟨rfl, rfl, Nat.le_of_ble_eq_true rfl, Nat.le_of_ble_eq_true rfl⟩ (Nat.le_of_ble_eq_true rfl) ⟨by omega, by omega⟩ dL_law_1047 (fun _ => ?_)
  show J X 8 k n _ [(0, vR (some b)), (1, vR (some x)), (2, vR (some m)), (3, vR (some o)), (4, vI (nI (7 * t)))] [vI r2] Λ S2 True
  refine j_pop C dL_law_1050 rfl ?_
  refine j_goto C (tgt := 1258) dL_law_1051 (by decide) ?_
  exact kk _ _ _ _ hq lExt.rf (by omega) (by omega)
set_option maxHeartbeats 4000000 in
theorem lc_22 {X : jX} {b L : Nat} {sc : Nat → Int32} (C : jC X code 8 RL room_1) (Q0 : lawC X b L sc) {x m o t : Nat} (ht : 7 * t + 7 ≤ L) {Λ : sLay} {S : sSt} (tx : isK Λ 8 x) (tm : isK Λ 9 m) (to : isK Λ 11 o) {k n : Nat} (hk : k + 40 ≤ room_1.cells) (hn : n + 923 ≤ room_1.slots) {Qn : sLay → sSt → Prop} (H : St_22 Λ S x m o Qn) (kk : ∀ Λ1 S1 k1 n1, Qn Λ1 S1 → lExt Λ Λ1 → k1 ≤ k + 40 → n1 ≤ n + 923 → J X 8 k1 n1 1258 [(0, vR (some b)), (1, vR (some x)), (2, vR (some m)), (3, vR (some o)), (4, vI (nI (7 * t)))] [] Λ1 S1 True) : J X 8 k n 1054 [(0, vR (some b)), (1, vR (some x)), (2, vR (some m)), (3, vR (some o)), (4, vI (nI (7 * t)))] [] Λ S True := by
  refine j_aload_n C dL_law_1054 1 rfl ?_
  refine j_aload_n C dL_law_1055 0 rfl ?_
  refine j_iload C dL_law_1056 4 rfl ?_
  refine j_iconst C (v := (1 : Int32)) dL_law_1058 (by decide) ?_
  refine j_iadd C dL_law_1059 ?_
  refine jl_sld C Q0 (j := 7 * t + 1) (nI_add (7 * t) 1) (by omega) dL_law_1060 ?_
  obtain ⟨r, S1, r2, S2, e1, e2, hq⟩ := H (sc (7 * t + 1))
  refine jb_callV (As := [vI (sc (7 * t + 1))]) (rest := []) C rI_ok (c_X8_force x tx (sc (7 * t + 1)) e1) kYX8_force kVX8_force (big_mem 691 (by decide +kernel) (by decide +kernel)) kO8 tx rfl rfl ⟨rfl, rfl, Nat.le_of_ble_eq_true rfl, Nat.le_of_ble_eq_true rfl⟩ (Nat.le_of_ble_eq_true rfl) ⟨by omega, by omega⟩ dL_law_1061 (fun _ => ?_)
  show J X 8 k n _ [(0, vR (some b)), (1, vR (some x)), (2, vR (some m)), (3, vR (some o)), (4, vI (nI (7 * t)))] [vI r] Λ S1 True
  refine j_pop C dL_law_1064 rfl ?_
  refine j_aload_n C dL_law_1065 2 rfl ?_
  refine j_aload_n C dL_law_1066 0 rfl ?_
  refine j_iload C dL_law_1067 4 rfl ?_
  refine j_iconst C (v := (1 : Int32)) dL_law_1069 (by decide) ?_
  refine j_iadd C dL_law_1070 ?_
  refine jl_sld C Q0 (j := 7 * t + 1) (nI_add (7 * t) 1) (by omega) dL_law_1071 ?_
  refine jb_callV (As := [vI (sc (7 * t + 1))]) (rest := []) C rI_ok (c_X9_force m tm (sc (7 * t + 1)) e2) kYX9_force kVX9_force (big_mem 1198 (by decide +kernel) (by decide +kernel)) kO9 tm rfl rfl ⟨rfl, rfl, Nat.le_of_ble_eq_true rfl, Nat.le_of_ble_eq_true rfl⟩ (Nat.le_of_ble_eq_true rfl) ⟨by omega, by omega⟩ dL_law_1072 (fun _ => ?_)
  show J X 8 k n _ [(0, vR (some b)), (1, vR (some x)), (2, vR (some m)), (3, vR (some o)), (4, vI (nI (7 * t)))] [vI r2] Λ S2 True
  refine j_pop C dL_law_1075 rfl ?_
  refine j_goto C (tgt := 1258) dL_law_1076 (by decide) ?_
  exact kk _ _ _ _ hq lExt.rf (by omega) (by omega)
set_option maxHeartbeats 4000000 in
theorem lc_23 {X : jX} {b L : Nat} {sc : Nat → Int32} (C : jC X code 8 RL room_1) (Q0 : lawC X b L sc) {x m o t : Nat} (ht : 7 * t + 7 ≤ L) {Λ : sLay} {S : sSt} (tx : isK Λ 8 x) (tm : isK Λ 9 m) (to : isK Λ 11 o) {k n : Nat} (hk : k + 40 ≤ room_1.cells) (hn : n + 923 ≤ room_1.slots) {Qn : sLay → sSt → Prop} (H : St_23 Λ S x m o Qn) (kk : ∀ Λ1 S1 k1 n1, Qn Λ1 S1 → lExt Λ Λ1 → k1 ≤ k + 40 → n1 ≤ n + 923 → J X 8 k1 n1 1258 [(0, vR (some b)), (1, vR (some x)), (2, vR (some m)), (3, vR (some o)), (4, vI (nI (7 * t)))] [] Λ1 S1 True) : J X 8 k n 1079 [(0, vR (some b)), (1, vR (some x)), (2, vR (some m)), (3, vR (some o)), (4, vI (nI (7 * t)))] [] Λ S True := by
  refine j_aload_n C dL_law_1079 1 rfl ?_
  refine j_aload_n C dL_law_1080 0 rfl ?_
  refine j_iload C dL_law_1081 4 rfl ?_
  refine j_iconst C (v := (1 : Int32)) dL_law_1083 (by decide) ?_
  refine j_iadd C dL_law_1084 ?_
  refine jl_sld C Q0 (j := 7 * t + 1) (nI_add (7 * t) 1) (by omega) dL_law_1085 ?_
  obtain ⟨r, r2, S2, e1, e2, hq⟩ := H (sc (7 * t + 1))
  refine jb_callV (As := [vI (sc (7 * t + 1))]) (rest := []) C rJ_ok (c_X8_output x tx (sc (7 * t + 1)) e1) kYX8_output kVX8_output (big_mem 695 (by decide +kernel) (by decide +kernel)) kO8 tx rfl rfl ⟨rfl, rfl, Nat.le_of_ble_eq_true rfl, Nat.le_of_ble_eq_true rfl⟩ (Nat.le_of_ble_eq_true rfl) ⟨by omega, by omega⟩ dL_law_1086 (fun _ => ?_)
  show J X 8 k n _ [(0, vR (some b)), (1, vR (some x)), (2, vR (some m)), (3, vR (some o)), (4, vI (nI (7 * t)))] [vJ r] Λ S True
  refine jl_pop2 C dL_law_1089 ?_
  refine j_aload_n C dL_law_1090 2 rfl ?_
  refine j_aload_n C dL_law_1091 0 rfl ?_
  refine j_iload C dL_law_1092 4 rfl ?_
  refine j_iconst C (v := (1 : Int32)) dL_law_1094 (by decide) ?_
  refine j_iadd C dL_law_1095 ?_
  refine jl_sld C Q0 (j := 7 * t + 1) (nI_add (7 * t) 1) (by omega) dL_law_1096 ?_
  refine jb_callV (As := [vI (sc (7 * t + 1))]) (rest := []) C rJ_ok (c_X9_output m tm (sc (7 * t + 1)) e2) kYX9_output kVX9_output (big_mem 1202 (by decide +kernel) (by decide +kernel)) kO9 tm rfl rfl ⟨rfl, rfl, Nat.le_of_ble_eq_true rfl, Nat.le_of_ble_eq_true rfl⟩ (Nat.le_of_ble_eq_true rfl) ⟨by omega, by omega⟩ dL_law_1097 (fun _ => ?_)
  show J X 8 k n _ [(0, vR (some b)), (1, vR (some x)), (2, vR (some m)), (3, vR (some o)), (4, vI (nI (7 * t)))] [vJ r2] Λ S2 True
  refine jl_pop2 C dL_law_1100 ?_
  refine j_goto C (tgt := 1258) dL_law_1101 (by decide) ?_
  exact kk _ _ _ _ hq lExt.rf (by omega) (by omega)
set_option maxHeartbeats 4000000 in
theorem lc_24 {X : jX} {b L : Nat} {sc : Nat → Int32} (C : jC X code 8 RL room_1) (Q0 : lawC X b L sc) {x m o t : Nat} (ht : 7 * t + 7 ≤ L) {Λ : sLay} {S : sSt} (tx : isK Λ 8 x) (tm : isK Λ 9 m) (to : isK Λ 11 o) {k n : Nat} (hk : k + 40 ≤ room_1.cells) (hn : n + 923 ≤ room_1.slots) {Qn : sLay → sSt → Prop} (H : St_24 Λ S x m o Qn) (kk : ∀ Λ1 S1 k1 n1, Qn Λ1 S1 → lExt Λ Λ1 → k1 ≤ k + 40 → n1 ≤ n + 923 → J X 8 k1 n1 1258 [(0, vR (some b)), (1, vR (some x)), (2, vR (some m)), (3, vR (some o)), (4, vI (nI (7 * t)))] [] Λ1 S1 True) : J X 8 k n 1104 [(0, vR (some b)), (1, vR (some x)), (2, vR (some m)), (3, vR (some o)), (4, vI (nI (7 * t)))] [] Λ S True := by
  refine j_aload_n C dL_law_1104 1 rfl ?_
  obtain ⟨r, S1, r2, S2, e1, e2, hq⟩ := H 
  refine jb_callV (As := []) (rest := []) C rJ_ok (c_X8_anew x tx e1) kYX8_anew kVX8_anew (big_mem 700 (by decide +kernel) (by decide +kernel)) kO8 tx rfl rfl ⟨rfl, rfl, Nat.le_of_ble_eq_true rfl, Nat.le_of_ble_eq_true rfl⟩ (Nat.le_of_ble_eq_true rfl) ⟨by omega, by omega⟩ dL_law_1105 (fun _ => ?_)
  show J X 8 k n _ [(0, vR (some b)), (1, vR (some x)), (2, vR (some m)), (3, vR (some o)), (4, vI (nI (7 * t)))] [vJ r] Λ S1 True
  refine jl_pop2 C dL_law_1108 ?_
  refine j_aload_n C dL_law_1109 2 rfl ?_
  refine jb_callV (As := []) (rest := []) C rJ_ok (c_X9_anew m tm e2) kYX9_anew kVX9_anew (big_mem 1206 (by decide +kernel) (by decide +kernel)) kO9 tm rfl rfl ⟨rfl, rfl, Nat.le_of_ble_eq_true rfl, Nat.le_of_ble_eq_true rfl⟩ (Nat.le_of_ble_eq_true rfl) ⟨by omega, by omega⟩ dL_law_1110 (fun _ => ?_)
  show J X 8 k n _ [(0, vR (some b)), (1, vR (some x)), (2, vR (some m)), (3, vR (some o)), (4, vI (nI (7 * t)))] [vJ r2] Λ S2 True
  refine jl_pop2 C dL_law_1113 ?_
  refine j_goto C (tgt := 1258) dL_law_1114 (by decide) ?_
  exact kk _ _ _ _ hq lExt.rf (by omega) (by omega)
set_option maxHeartbeats 4000000 in
theorem lc_25 {X : jX} {b L : Nat} {sc : Nat → Int32} (C : jC X code 8 RL room_1) (Q0 : lawC X b L sc) {x m o t : Nat} (ht : 7 * t + 7 ≤ L) {Λ : sLay} {S : sSt} (tx : isK Λ 8 x) (tm : isK Λ 9 m) (to : isK Λ 11 o) {k n : Nat} (hk : k + 40 ≤ room_1.cells) (hn : n + 923 ≤ room_1.slots) {Qn : sLay → sSt → Prop} (H : St_25 Λ S x m o Qn) (kk : ∀ Λ1 S1 k1 n1, Qn Λ1 S1 → lExt Λ Λ1 → k1 ≤ k + 40 → n1 ≤ n + 923 → J X 8 k1 n1 1258 [(0, vR (some b)), (1, vR (some x)), (2, vR (some m)), (3, vR (some o)), (4, vI (nI (7 * t)))] [] Λ1 S1 True) : J X 8 k n 1117 [(0, vR (some b)), (1, vR (some x)), (2, vR (some m)), (3, vR (some o)), (4, vI (nI (7 * t)))] [] Λ S True := by
  refine j_aload_n C dL_law_1117 1 rfl ?_
  obtain ⟨r, S1, r2, S2, e1, e2, hq⟩ := H 
  refine jb_callV (As := []) (rest := []) C rI_ok (c_X8_coarse x tx e1) kYX8_coarse kVX8_coarse (big_mem 706 (by decide +kernel) (by decide +kernel)) kO8 tx rfl rfl ⟨rfl, rfl, Nat.le_of_ble_eq_true rfl, Nat.le_of_ble_eq_true rfl⟩ (Nat.le_of_ble_eq_true rfl) ⟨by omega, by omega⟩ dL_law_1118 (fun _ => ?_)
  show J X 8 k n _ [(0, vR (some b)), (1, vR (some x)), (2, vR (some m)), (3, vR (some o)), (4, vI (nI (7 * t)))] [vI r] Λ S1 True
  refine j_pop C dL_law_1121 rfl ?_
  refine j_aload_n C dL_law_1122 2 rfl ?_
  refine jb_callV (As := []) (rest := []) C rI_ok (c_X9_coarse m tm e2) kYX9_coarse kVX9_coarse (big_mem 1210 (by decide +kernel) (by decide +kernel)) kO9 tm rfl rfl ⟨rfl, rfl, Nat.le_of_ble_eq_true rfl, Nat.le_of_ble_eq_true rfl⟩ (Nat.le_of_ble_eq_true rfl) ⟨by omega, by omega⟩ dL_law_1123 (fun _ => ?_)
  show J X 8 k n _ [(0, vR (some b)), (1, vR (some x)), (2, vR (some m)), (3, vR (some o)), (4, vI (nI (7 * t)))] [vI r2] Λ S2 True
  refine j_pop C dL_law_1126 rfl ?_
  refine j_goto C (tgt := 1258) dL_law_1127 (by decide) ?_
  exact kk _ _ _ _ hq lExt.rf (by omega) (by omega)
set_option maxHeartbeats 4000000 in
theorem lc_26 {X : jX} {b L : Nat} {sc : Nat → Int32} (C : jC X code 8 RL room_1) (Q0 : lawC X b L sc) {x m o t : Nat} (ht : 7 * t + 7 ≤ L) {Λ : sLay} {S : sSt} (tx : isK Λ 8 x) (tm : isK Λ 9 m) (to : isK Λ 11 o) {k n : Nat} (hk : k + 40 ≤ room_1.cells) (hn : n + 923 ≤ room_1.slots) {Qn : sLay → sSt → Prop} (H : St_26 Λ S x m o Qn) (kk : ∀ Λ1 S1 k1 n1, Qn Λ1 S1 → lExt Λ Λ1 → k1 ≤ k + 40 → n1 ≤ n + 923 → J X 8 k1 n1 1258 [(0, vR (some b)), (1, vR (some x)), (2, vR (some m)), (3, vR (some o)), (4, vI (nI (7 * t)))] [] Λ1 S1 True) : J X 8 k n 1130 [(0, vR (some b)), (1, vR (some x)), (2, vR (some m)), (3, vR (some o)), (4, vI (nI (7 * t)))] [] Λ S True := by
  refine j_aload_n C dL_law_1130 1 rfl ?_
  refine j_aload_n C dL_law_1131 0 rfl ?_
  refine j_iload C dL_law_1132 4 rfl ?_
  refine j_iconst C (v := (1 : Int32)) dL_law_1134 (by decide) ?_
  refine j_iadd C dL_law_1135 ?_
  refine jl_sld C Q0 (j := 7 * t + 1) (nI_add (7 * t) 1) (by omega) dL_law_1136 ?_
  refine j_aload_n C dL_law_1137 3 rfl ?_
  obtain ⟨kk9, S1, b9, S2, e1, e2, hq⟩ := H (sc (7 * t + 1))
  refine jx_callSH (np := 3) C [vR (some x), vI (sc (7 * t + 1)), vR (some o)] [] rI_ok Q0.2.2.2.1 Q0.2.2.2.2.2.1 (c_L_order Q0.2.2.2.2.2.2.1 x tx (sc (7 * t + 1)) o to e1) (big_mem 876 (by decide +kernel) (by decide +kernel)) (big_mem 38 (by decide +kernel) (by decide +kernel)) (by decide +kernel) (big_mem 875 (by decide +kernel) (by decide +kernel)) (big_mem 874 (by decide +kernel) (by decide +kernel)) rfl rfl ⟨rfl, rfl, Nat.le_of_ble_eq_true rfl, Nat.le_of_ble_eq_true rfl⟩ (Nat.le_of_ble_eq_true rfl) ⟨by omega, by omega⟩ dL_law_1138 (fun _ => ?_)
  show J X 8 (k + 1) (n + 8) _ [(0, vR (some b)), (1, vR (some x)), (2, vR (some m)), (3, vR (some o)), (4, vI (nI (7 * t)))] [vI kk9] Λ S1 True
  refine j_istore C (L' := [(5, vI kk9), (0, vR (some b)), (1, vR (some x)), (2, vR (some m)), (3, vR (some o)), (4, vI (nI (7 * t)))]) dL_law_1141 (by decide) rfl ?_
  refine j_aload_n C dL_law_1143 3 rfl ?_
  refine j_aload_n C dL_law_1144 1 rfl ?_
  refine j_iload C dL_law_1145 5 rfl ?_
  refine j_iconst C (v := (1 : Int32)) dL_law_1147 (by decide) ?_
  refine j_iadd C dL_law_1148 ?_
  refine jl_sld C Q0 (j := 7 * t + 1) (nI_add (7 * t) 1) (by omega) dL_law_1149 ?_
  refine jb_callV (As := [vI (sc (7 * t + 1))]) (rest := []) C rI_ok (c_X9_order m tm (sc (7 * t + 1)) e2) kYX9_order kVX9_order (big_mem 1214 (by decide +kernel) (by decide +kernel)) kO9 tm rfl rfl ⟨rfl, rfl, Nat.le_of_ble_eq_true rfl, Nat.le_of_ble_eq_true rfl⟩ (Nat.le_of_ble_eq_true rfl) ⟨by omega, by omega⟩ dL_law_1150 (fun _ => ?_)
  show J X 8 (k + 1) (n + 8) _ [(5, vI kk9), (0, vR (some b)), (1, vR (some x)), (2, vR (some m)), (3, vR (some o)), (4, vI (nI (7 * t)))] [vI b9] Λ S2 True
  refine j_istore C (L' := [(6, vI b9), (5, vI kk9), (0, vR (some b)), (1, vR (some x)), (2, vR (some m)), (3, vR (some o)), (4, vI (nI (7 * t)))]) dL_law_1153 (by decide) rfl ?_
  refine j_goto C (tgt := 1258) dL_law_1155 (by decide) ?_
  refine j_sub (L' := [(0, vR (some b)), (1, vR (some x)), (2, vR (some m)), (3, vR (some o)), (4, vI (nI (7 * t)))]) [2, 3, 4, 5, 6] rfl ?_
  exact kk _ _ _ _ hq lExt.rf (by omega) (by omega)
set_option maxHeartbeats 4000000 in
theorem lc_27 {X : jX} {b L : Nat} {sc : Nat → Int32} (C : jC X code 8 RL room_1) (Q0 : lawC X b L sc) {x m o t : Nat} (ht : 7 * t + 7 ≤ L) {Λ : sLay} {S : sSt} (tx : isK Λ 8 x) (tm : isK Λ 9 m) (to : isK Λ 11 o) {k n : Nat} (hk : k + 40 ≤ room_1.cells) (hn : n + 923 ≤ room_1.slots) {Qn : sLay → sSt → Prop} (H : St_27 Λ S x m o Qn) (kk : ∀ Λ1 S1 k1 n1, Qn Λ1 S1 → lExt Λ Λ1 → k1 ≤ k + 40 → n1 ≤ n + 923 → J X 8 k1 n1 1258 [(0, vR (some b)), (1, vR (some x)), (2, vR (some m)), (3, vR (some o)), (4, vI (nI (7 * t)))] [] Λ1 S1 True) : J X 8 k n 1158 [(0, vR (some b)), (1, vR (some x)), (2, vR (some m)), (3, vR (some o)), (4, vI (nI (7 * t)))] [] Λ S True := by
  refine j_aload_n C dL_law_1158 1 rfl ?_
  refine j_aload_n C dL_law_1159 0 rfl ?_
  refine j_iload C dL_law_1160 4 rfl ?_
  refine j_iconst C (v := (1 : Int32)) dL_law_1162 (by decide) ?_
  refine j_iadd C dL_law_1163 ?_
  refine jl_sld C Q0 (j := 7 * t + 1) (nI_add (7 * t) 1) (by omega) dL_law_1164 ?_
  obtain ⟨r, S1, r2, S2, e1, e2, hq⟩ := H (sc (7 * t + 1))
  refine jb_callV (As := [vI (sc (7 * t + 1))]) (rest := []) C rI_ok (c_X8_ring x tx (sc (7 * t + 1)) e1) kYX8_ring kVX8_ring (big_mem 712 (by decide +kernel) (by decide +kernel)) kO8 tx rfl rfl ⟨rfl, rfl, Nat.le_of_ble_eq_true rfl, Nat.le_of_ble_eq_true rfl⟩ (Nat.le_of_ble_eq_true rfl) ⟨by omega, by omega⟩ dL_law_1165 (fun _ => ?_)
  show J X 8 k n _ [(0, vR (some b)), (1, vR (some x)), (2, vR (some m)), (3, vR (some o)), (4, vI (nI (7 * t)))] [vI r] Λ S1 True
  refine j_pop C dL_law_1168 rfl ?_
  refine j_aload_n C dL_law_1169 2 rfl ?_
  refine j_aload_n C dL_law_1170 0 rfl ?_
  refine j_iload C dL_law_1171 4 rfl ?_
  refine j_iconst C (v := (1 : Int32)) dL_law_1173 (by decide) ?_
  refine j_iadd C dL_law_1174 ?_
  refine jl_sld C Q0 (j := 7 * t + 1) (nI_add (7 * t) 1) (by omega) dL_law_1175 ?_
  refine jb_callV (As := [vI (sc (7 * t + 1))]) (rest := []) C rI_ok (c_X9_ring m tm (sc (7 * t + 1)) e2) kYX9_ring kVX9_ring (big_mem 1218 (by decide +kernel) (by decide +kernel)) kO9 tm rfl rfl ⟨rfl, rfl, Nat.le_of_ble_eq_true rfl, Nat.le_of_ble_eq_true rfl⟩ (Nat.le_of_ble_eq_true rfl) ⟨by omega, by omega⟩ dL_law_1176 (fun _ => ?_)
  show J X 8 k n _ [(0, vR (some b)), (1, vR (some x)), (2, vR (some m)), (3, vR (some o)), (4, vI (nI (7 * t)))] [vI r2] Λ S2 True
  refine j_pop C dL_law_1179 rfl ?_
  refine j_goto C (tgt := 1258) dL_law_1180 (by decide) ?_
  exact kk _ _ _ _ hq lExt.rf (by omega) (by omega)
set_option maxHeartbeats 4000000 in
theorem lc_28 {X : jX} {b L : Nat} {sc : Nat → Int32} (C : jC X code 8 RL room_1) (Q0 : lawC X b L sc) {x m o t : Nat} (ht : 7 * t + 7 ≤ L) {Λ : sLay} {S : sSt} (tx : isK Λ 8 x) (tm : isK Λ 9 m) (to : isK Λ 11 o) {k n : Nat} (hk : k + 40 ≤ room_1.cells) (hn : n + 923 ≤ room_1.slots) {Qn : sLay → sSt → Prop} (H : St_28 Λ S x m o Qn) (kk : ∀ Λ1 S1 k1 n1, Qn Λ1 S1 → lExt Λ Λ1 → k1 ≤ k + 40 → n1 ≤ n + 923 → J X 8 k1 n1 1258 [(0, vR (some b)), (1, vR (some x)), (2, vR (some m)), (3, vR (some o)), (4, vI (nI (7 * t)))] [] Λ1 S1 True) : J X 8 k n 1183 [(0, vR (some b)), (1, vR (some x)), (2, vR (some m)), (3, vR (some o)), (4, vI (nI (7 * t)))] [] Λ S True := by
  refine j_aload_n C dL_law_1183 1 rfl ?_
  refine j_aload_n C dL_law_1184 0 rfl ?_
  refine j_iload C dL_law_1185 4 rfl ?_
  refine j_iconst C (v := (1 : Int32)) dL_law_1187 (by decide) ?_
  refine j_iadd C dL_law_1188 ?_
  refine jl_sld C Q0 (j := 7 * t + 1) (nI_add (7 * t) 1) (by omega) dL_law_1189 ?_
  refine j_aload_n C dL_law_1190 0 rfl ?_
  refine j_iload C dL_law_1191 4 rfl ?_
  refine j_iconst C (v := (2 : Int32)) dL_law_1193 (by decide) ?_
  refine j_iadd C dL_law_1194 ?_
  refine jl_sld C Q0 (j := 7 * t + 2) (nI_add (7 * t) 2) (by omega) dL_law_1195 ?_
  obtain ⟨r, S1, S2, e1, e2, hq⟩ := H (sc (7 * t + 1)) (sc (7 * t + 2))
  refine jb_callV (As := [vI (sc (7 * t + 1)), vI (sc (7 * t + 2))]) (rest := []) C rI_ok (c_X8_leads x tx (sc (7 * t + 1)) (sc (7 * t + 2)) e1) kYX8_leads kVX8_leads (big_mem 720 (by decide +kernel) (by decide +kernel)) kO8 tx rfl rfl ⟨rfl, rfl, Nat.le_of_ble_eq_true rfl, Nat.le_of_ble_eq_true rfl⟩ (Nat.le_of_ble_eq_true rfl) ⟨by omega, by omega⟩ dL_law_1196 (fun _ => ?_)
  show J X 8 k n _ [(0, vR (some b)), (1, vR (some x)), (2, vR (some m)), (3, vR (some o)), (4, vI (nI (7 * t)))] [vI r] Λ S1 True
  refine j_aload_n C dL_law_1199 2 rfl ?_
  refine j_aload_n C dL_law_1200 0 rfl ?_
  refine j_iload C dL_law_1201 4 rfl ?_
  refine j_iconst C (v := (1 : Int32)) dL_law_1203 (by decide) ?_
  refine j_iadd C dL_law_1204 ?_
  refine jl_sld C Q0 (j := 7 * t + 1) (nI_add (7 * t) 1) (by omega) dL_law_1205 ?_
  refine j_aload_n C dL_law_1206 0 rfl ?_
  refine j_iload C dL_law_1207 4 rfl ?_
  refine j_iconst C (v := (2 : Int32)) dL_law_1209 (by decide) ?_
  refine j_iadd C dL_law_1210 ?_
  refine jl_sld C Q0 (j := 7 * t + 2) (nI_add (7 * t) 2) (by omega) dL_law_1211 ?_
  refine jb_callV (As := [vI (sc (7 * t + 1)), vI (sc (7 * t + 2))]) (rest := [vI r]) C rI_ok (c_X9_leads m tm (sc (7 * t + 1)) (sc (7 * t + 2)) e2) kYX9_leads kVX9_leads (big_mem 1222 (by decide +kernel) (by decide +kernel)) kO9 tm rfl rfl ⟨rfl, rfl, Nat.le_of_ble_eq_true rfl, Nat.le_of_ble_eq_true rfl⟩ (Nat.le_of_ble_eq_true rfl) ⟨by omega, by omega⟩ dL_law_1212 (fun _ => ?_)
  show J X 8 k n _ [(0, vR (some b)), (1, vR (some x)), (2, vR (some m)), (3, vR (some o)), (4, vI (nI (7 * t)))] [vI r, vI r] Λ S2 True
  refine jb_icmp_eq C (tgt := 1258) (φ1 := True) (φ2 := True) dL_law_1215 (by decide) (fun _ _ => trivial) (fun _ _ => trivial) (fun _ => ?_) (fun c => absurd rfl c)
  exact kk _ _ _ _ hq lExt.rf (by omega) (by omega)
set_option maxHeartbeats 4000000 in
theorem lc_29 {X : jX} {b L : Nat} {sc : Nat → Int32} (C : jC X code 8 RL room_1) (Q0 : lawC X b L sc) {x m o t : Nat} (ht : 7 * t + 7 ≤ L) {Λ : sLay} {S : sSt} (tx : isK Λ 8 x) (tm : isK Λ 9 m) (to : isK Λ 11 o) {k n : Nat} (hk : k + 40 ≤ room_1.cells) (hn : n + 923 ≤ room_1.slots) {Qn : sLay → sSt → Prop} (H : St_29 Λ S x m o Qn) (kk : ∀ Λ1 S1 k1 n1, Qn Λ1 S1 → lExt Λ Λ1 → k1 ≤ k + 40 → n1 ≤ n + 923 → J X 8 k1 n1 1258 [(0, vR (some b)), (1, vR (some x)), (2, vR (some m)), (3, vR (some o)), (4, vI (nI (7 * t)))] [] Λ1 S1 True) : J X 8 k n 1220 [(0, vR (some b)), (1, vR (some x)), (2, vR (some m)), (3, vR (some o)), (4, vI (nI (7 * t)))] [] Λ S True := by
  refine j_aload_n C dL_law_1220 1 rfl ?_
  refine j_aload_n C dL_law_1221 0 rfl ?_
  refine j_iload C dL_law_1222 4 rfl ?_
  refine j_iconst C (v := (1 : Int32)) dL_law_1224 (by decide) ?_
  refine j_iadd C dL_law_1225 ?_
  refine jl_sld C Q0 (j := 7 * t + 1) (nI_add (7 * t) 1) (by omega) dL_law_1226 ?_
  obtain ⟨r, S1, r2, S2, e1, e2, hq⟩ := H (sc (7 * t + 1))
  refine jb_callV (As := [vI (sc (7 * t + 1))]) (rest := []) C rI_ok (c_X8_count x tx (sc (7 * t + 1)) e1) kYX8_count kVX8_count (big_mem 724 (by decide +kernel) (by decide +kernel)) kO8 tx rfl rfl ⟨rfl, rfl, Nat.le_of_ble_eq_true rfl, Nat.le_of_ble_eq_true rfl⟩ (Nat.le_of_ble_eq_true rfl) ⟨by omega, by omega⟩ dL_law_1227 (fun _ => ?_)
  show J X 8 k n _ [(0, vR (some b)), (1, vR (some x)), (2, vR (some m)), (3, vR (some o)), (4, vI (nI (7 * t)))] [vI r] Λ S1 True
  refine j_pop C dL_law_1230 rfl ?_
  refine j_aload_n C dL_law_1231 2 rfl ?_
  refine j_aload_n C dL_law_1232 0 rfl ?_
  refine j_iload C dL_law_1233 4 rfl ?_
  refine j_iconst C (v := (1 : Int32)) dL_law_1235 (by decide) ?_
  refine j_iadd C dL_law_1236 ?_
  refine jl_sld C Q0 (j := 7 * t + 1) (nI_add (7 * t) 1) (by omega) dL_law_1237 ?_
  refine jb_callV (As := [vI (sc (7 * t + 1))]) (rest := []) C rI_ok (c_X9_count m tm (sc (7 * t + 1)) e2) kYX9_count kVX9_count (big_mem 1226 (by decide +kernel) (by decide +kernel)) kO9 tm rfl rfl ⟨rfl, rfl, Nat.le_of_ble_eq_true rfl, Nat.le_of_ble_eq_true rfl⟩ (Nat.le_of_ble_eq_true rfl) ⟨by omega, by omega⟩ dL_law_1238 (fun _ => ?_)
  show J X 8 k n _ [(0, vR (some b)), (1, vR (some x)), (2, vR (some m)), (3, vR (some o)), (4, vI (nI (7 * t)))] [vI r2] Λ S2 True
  refine j_pop C dL_law_1241 rfl ?_
  refine j_goto C (tgt := 1258) dL_law_1242 (by decide) ?_
  exact kk _ _ _ _ hq lExt.rf (by omega) (by omega)
set_option maxHeartbeats 4000000 in
theorem lc_30 {X : jX} {b L : Nat} {sc : Nat → Int32} (C : jC X code 8 RL room_1) (Q0 : lawC X b L sc) {x m o t : Nat} (ht : 7 * t + 7 ≤ L) {Λ : sLay} {S : sSt} (tx : isK Λ 8 x) (tm : isK Λ 9 m) (to : isK Λ 11 o) {k n : Nat} (hk : k + 40 ≤ room_1.cells) (hn : n + 923 ≤ room_1.slots) {Qn : sLay → sSt → Prop} (H : St_30 Λ S x m o Qn) (kk : ∀ Λ1 S1 k1 n1, Qn Λ1 S1 → lExt Λ Λ1 → k1 ≤ k + 40 → n1 ≤ n + 923 → J X 8 k1 n1 1258 [(0, vR (some b)), (1, vR (some x)), (2, vR (some m)), (3, vR (some o)), (4, vI (nI (7 * t)))] [] Λ1 S1 True) : J X 8 k n 1245 [(0, vR (some b)), (1, vR (some x)), (2, vR (some m)), (3, vR (some o)), (4, vI (nI (7 * t)))] [] Λ S True := by
  refine j_aload_n C dL_law_1245 1 rfl ?_
  obtain ⟨r, S1, r2, S2, e1, e2, hq⟩ := H 
  refine jb_callV (As := []) (rest := []) C rI_ok (c_X8_clear x tx e1) kYX8_clear kVX8_clear (big_mem 728 (by decide +kernel) (by decide +kernel)) kO8 tx rfl rfl ⟨rfl, rfl, Nat.le_of_ble_eq_true rfl, Nat.le_of_ble_eq_true rfl⟩ (Nat.le_of_ble_eq_true rfl) ⟨by omega, by omega⟩ dL_law_1246 (fun _ => ?_)
  show J X 8 k n _ [(0, vR (some b)), (1, vR (some x)), (2, vR (some m)), (3, vR (some o)), (4, vI (nI (7 * t)))] [vI r] Λ S1 True
  refine j_pop C dL_law_1249 rfl ?_
  refine j_aload_n C dL_law_1250 2 rfl ?_
  refine jb_callV (As := []) (rest := []) C rI_ok (c_X9_clear m tm e2) kYX9_clear kVX9_clear (big_mem 1230 (by decide +kernel) (by decide +kernel)) kO9 tm rfl rfl ⟨rfl, rfl, Nat.le_of_ble_eq_true rfl, Nat.le_of_ble_eq_true rfl⟩ (Nat.le_of_ble_eq_true rfl) ⟨by omega, by omega⟩ dL_law_1251 (fun _ => ?_)
  show J X 8 k n _ [(0, vR (some b)), (1, vR (some x)), (2, vR (some m)), (3, vR (some o)), (4, vI (nI (7 * t)))] [vI r2] Λ S2 True
  refine j_pop C dL_law_1254 rfl ?_
  refine j_goto C (tgt := 1258) dL_law_1255 (by decide) ?_
  exact kk _ _ _ _ hq lExt.rf (by omega) (by omega)
