/-- thrown at a call: what is due behind it -/
def Jx (X : jX) (nL k n pc : Nat) (L : List (Nat × jV)) (st : List jV) (Λ : sLay) (S : sSt) (E : String) (φ : Prop) : Prop :=
  φ → TS Λ S → ∀ (H : Heap) (locs : List Loc) (ls : Array Slot) (q9 : Addr) (ce : Cell), va_P (xD X) cls (pool (xy X) Λ S) H → va_D (xA X) (pool (xy X) Λ S) → va_S (xA X) (xH X) H locs → lv_has ls nL (jL L) → H[q9]? = some ce → ce.vm = .none → (xs X).vm.findClass E = some ce.cls →
    vx_W (xp X) (xl X) (xe X) (xR X) (xs X) (xm X) (xa X) (xb X) (xt X) (xc X) H locs k n (xQ X) (F0 (xm X) pc ls (st.map jv)) q9
def jEh {β : Type} (X : jX) (ret : Option FieldType) (K : jR β) (Λ : sLay) (r : (String ⊕ β) × sSt) (hh : List (Nat × Nat × Nat × Nat)) : Prop :=
  (xt X).sig.returnType = ret ∧ (xt X).locks = false ∧ xQ X = vx_MQ (xb X) (jQx (xD X) (xy X) Λ K r (xA X)) (jXC (xD X) (xy X) Λ r (xA X)) (xa X) (xs X) 1 8 (xA X) ∧ xH X = (xs X).heap ∧ exOk (xA X) (xs X) ∧ (xl X).stackTraces = false ∧ (xc X).exceptionTable.toList = tableOf hh
theorem vx_Zq_at {C n d : String} {A B : Nat → Prop} {s U : State} {H : Heap} {locs : List Loc} (h : vx_Zq C n d A s s.heap) (hS : va_S A s.heap H locs) (hB : ∀ q, B q → A q) (hU : U.heap = H) (hW : s.WarmedH U.vm) : vx_Zq C n d B U U.heap := by
  rw [hU]
  exact (((h.moved hW.alike).kept (fun a ha hn => hS.2.1 a ha hn)).narrow hB)
theorem jXPre_blind {D : va_G} {cy : Nat → ClassId} {Λ : sLay} {S : sSt} {sz : Nat} {As : List Value} : FrameBlind (va_Pc As (jXPre D cy Λ S sz)) := by
  intro a U g mk q
  obtain ⟨q0, ⟨q1, qP, qK, qD, qT, qN⟩, ⟨qa, qb⟩, qs, qg⟩ := q
  exact ⟨q0, ⟨q1, qP, va_K.moved (u := U) (U := U.calling g mk a) (Vm.Alike.refl U.vm) qK, qD, qT, nestOk.same rfl qN⟩, ⟨qa.moved (Vm.Alike.refl U.vm), qb.moved (Vm.Alike.refl U.vm)⟩, exStr.same rfl qs, exNg.same (u := U) (U := U.calling g mk a) rfl qg⟩
section
variable {X : jX} {cc : ByteArray} {nL k n pc : Nat} {own : String} {R : Room} {L L' : List (Nat × jV)} {st : List jV} {Λ : sLay} {S : sSt} {φ φ1 φ2 : Prop}
theorem jXPre_of {H : Heap} {locs : List Loc} (C : jC X cc nL own R) (hH : xH X = (xs X).heap) (hex : exOk (xA X) (xs X)) (hP : va_P (xD X) cls (pool (xy X) Λ S) H) (hD : va_D (xA X) (pool (xy X) Λ S)) (hS : va_S (xA X) (xH X) H locs) (hT : TS Λ S) (U : State) (hU : U.heap = H) (hW : (xs X).WarmedH U.vm) : jXPre (xD X) (xy X) Λ S H.size U := by
  have hA := pool_A hD hS C.2.2.2.2.2.2.1
  rw [hH] at hS
  exact ⟨jPre_of C hP hD hT U hU hW, ⟨vx_Zq_at hex.1.1 hS hA hU hW, vx_Zq_at hex.1.2 hS hA hU hW⟩, exStr.warm hW hex.2.1, exNg.warm hW hex.2.2⟩
theorem jx_back {β : Type} {K : jR β} {q : (String ⊕ β) × sSt} {rest : List jV} {st0 : List Value} {H : Heap} {locs : List Loc} {ls : Array Slot} {as : Array Value} (C : jC X cc nL own R) (hK : jRok K)
    (hr : vx_Run (xp X) (xl X) (xe X) (xR X) (xs X) (xm X) (xa X) (xb X) (xt X) (xc X) H locs k n 1 8 (F0 (xm X) pc ls st0) (rest.map jv) (jQx (xD X) (xy X) Λ K q (va_A (pool (xy X) Λ S) H.size) as) (jXC (xD X) (xy X) Λ q (va_A (pool (xy X) Λ S) H.size)) (va_A (pool (xy X) Λ S) H.size))
    (hD : va_D (xA X) (pool (xy X) Λ S)) (hS : va_S (xA X) (xH X) H locs) (hv : lv_has ls nL (jL L))
    (kk : ∀ v, q.1 = .inr v → K.2.2 Λ v → J X nL (k + 1) (n + 8) (pc + 3) L (K.2.1 v ++ rest) Λ q.2 φ) (kx : ∀ E, q.1 = .inl E → Jx X nL (k + 1) (n + 8) pc L rest Λ q.2 E φ) (hφ : φ) : jW X H locs k n (F0 (xm X) pc ls st0) := by
  have hA := pool_A hD hS C.2.2.2.2.2.2.1
  intro T hT X0
  rcases hr T hT X0 with ⟨v, st₀, t, T', Lc, h0, X', hL, e1, e2, ⟨⟨w, hw, hv1, hok, hP, hK1, hD1, hT1, hN1⟩, hz, hk⟩, stp⟩ | ⟨q9, st₀, t, T', Lc, E, ce, h0, X', hL, e1, e2, ⟨hw, hP, hD1, hT1, hz, hk⟩, hce, hvm, hcl, stp⟩
  · cases hv1
    rw [h0] at hz hk
    obtain ⟨t2, a1, b1⟩ := kk w hw hok hφ hT1 T'.heap (locs ++ Lc) ls (by rw [e1]; exact hP) (pool_D _ hD)
      ⟨Nat.le_trans hS.1 (by rw [e1]; exact hz), fun q h1 h2 => by rw [e1, hk q (Nat.lt_of_lt_of_le h1 hS.1) (fun z => h2 (hA q z))]; exact hS.2.1 q h1 h2, fun q hq => by
        rcases List.mem_append.mp hq with h | h
        · exact hS.2.2 q h
        · exact hA _ (hL q h)⟩ hv T' rfl X'
    refine ⟨t2, stp t2 ?_, b1⟩
    rw [hK w, ← List.map_append]
    exact a1
  · rw [h0] at hz hk
    obtain ⟨t2, a1, b1⟩ := kx E hw hφ hT1 T'.heap (locs ++ Lc) ls q9 ce (by rw [e1]; exact hP) (pool_D _ hD)
      ⟨Nat.le_trans hS.1 (by rw [e1]; exact hz), fun q h1 h2 => by rw [e1, hk q (Nat.lt_of_lt_of_le h1 hS.1) (fun z => h2 (hA q z))]; exact hS.2.1 q h1 h2, fun q hq => by
        rcases List.mem_append.mp hq with h | h
        · exact hS.2.2 q h
        · exact hA _ (hL q h)⟩ hv (by rw [e1]; exact hce) hvm hcl T' rfl X'
    exact ⟨t2, stp.trans a1, b1⟩
theorem jx_callV {β : Type} (C : jC X cc nL own R) {K : jR β} {y : MethodName} {b : ByteArray} {nY np idx ci : Nat} {ret : Option FieldType} {rmY : Room} (As rest : List jV) {a : Nat} {q : (String ⊕ β) × sSt} (hK : jRok K) (hH : xH X = (xs X).heap) (hex : exOk (xA X) (xs X))
    (hM : jMx (xl X) y (Cond.code y b nY ret :: bigW) rmY (xD X) (xy X) Λ S (vR (some a) :: As) K q)
    (hy : jY y b nY ret np) (hi : jYv y) (hl : Cond.methodLink own idx y ∈ bigW) (hO : jO ci y.cls) (ha : isK Λ ci a) (hn : As.length = np) (hst : st = As.reverse ++ vR (some a) :: rest) (hR : rmY.cells = 1 ∧ rmY.slots = 8 ∧ rmY.frames + 1 ≤ R.frames ∧ 8 + (nY + 11) + rmY.locals ≤ R.locals) (hroom : jsum rest ≤ 8) (hc : k + 1 ≤ R.cells ∧ n + 8 ≤ R.slots) (hdg : decode cc pc = .ok (.invokevirtual idx, 3))
    (kk : ∀ v, q.1 = .inr v → K.2.2 Λ v → J X nL (k + 1) (n + 8) (pc + 3) L (K.2.1 v ++ rest) Λ q.2 φ) (kx : ∀ E, q.1 = .inl E → Jx X nL (k + 1) (n + 8) pc L rest Λ q.2 E φ) : J X nL k n pc L st Λ S φ := by
  intro h hT H locs ls hP hD hS hv
  subst hst
  obtain ⟨T, N, hcl, hent⟩ := hO
  obtain ⟨fs, hfs⟩ := hent (xy X) Λ S a ha.2
  obtain ⟨q0, hq0⟩ := pool_get (cy := xy X) S ha.1
  rw [hfs] at hq0
  have hR' : xR X = R := C.2.2.2.2.2.2.2.1
  have hcw : CallW (xR X) (xs X) (xa X) own y.cls idx y b nY ret (Cond.code y b nY ret :: bigW) rmY 1 8 np := by
    rw [hR']
    exact cwV np C.2.2.2.2.1 (big_V hy hi hl) rfl hR.1 hR.2.1 ⟨rfl, hy.2.2⟩ hR.2.2
  exact jx_back C hK (vx_runV (As := As.map jv) (rest := rest.map jv) (own := own) (C := y.cls) (b := a) ⟨C.1, C.2.1, C.2.2.1, C.2.2.2.1, C.2.2.2.2.1⟩ (hM H.size) hcw ⟨jXPre_blind, va_recv C.2.2.2.2.2.1 hP hcl hq0, fun U hU hW => ⟨rfl, jXPre_of C hH hex hP hD hS hT U hU hW⟩⟩ rfl (by simpa using hn) hv.1 (by simp [List.map_append, List.map_reverse, jv, va_rf]) (lv_room (by rw [jsum_map]; exact hroom)) hdg (by rw [hR']; exact hc)) hD hS hv kk kx h
theorem jx_catch {E : String} (C : jC X cc nL own R) {hh : List (Nat × Nat × Nat × Nat)} (htb : (xc X).exceptionTable.toList = tableOf hh) (pre : List ExceptionTableEntry) (x : ExceptionTableEntry) (suf : List ExceptionTableEntry) (hsplit : tableOf hh = pre ++ x :: suf)
    (hpass : ∀ z ∈ pre, covers z pc = false ∨ (z.catchType ≠ 0 ∧ ∃ nm : String, (Cond.classLink own z.catchType nm).before (xa X) (xs X) = true ∧ va_Nc E nm (xs X))) (hx : covers x pc = true) (h0 : x.catchType ≠ 0) {name : String} (hlink : Cond.classLink own x.catchType name ∈ bigW) (hcast : (Cond.castable E name).before (xa X) (xs X) = true)
    (kk : ∀ q9, J X nL k n x.handlerPc L [vR (some q9)] Λ S φ) : Jx X nL k n pc L st Λ S E φ := by
  intro h hT H locs ls q9 ce hP hD hS hv hce hvm hcl
  exact vx_catch C.2.2.2.1 pre x suf (htb.trans hsplit) hpass hx h0 (C.2.2.2.2.1 _ hlink) hcast hce hvm hcl (kk q9 h hT H locs ls hP hD hS hv)
theorem jx_no {E : String} (h : ¬ φ) : Jx X nL k n pc L st Λ S E φ := fun hφ => absurd hφ h
theorem j_iretH (C : jC X cc nL own R) {r : (String ⊕ Int32) × sSt} {v : Int32} {hh : List (Nat × Nat × Nat × Nat)} (E : jEh X (some .int) rI Λ r hh) (hr0 : r = (Sum.inr v, S)) (hc : k ≤ 1 ∧ n ≤ 8) (hdg : decode cc pc = .ok (.ireturn, 1)) : J X nL k n pc L [vI v] Λ S φ := by
  intro h hT H locs ls hP hD hS hv
  subst hr0
  obtain ⟨hr, hk, hQ, hH, -⟩ := E
  rw [hH] at hS
  show W _ _ _ _ _ _ _ _ _ _ _ _ _ _ (xQ X) _
  rw [hQ]
  refine vx_ret (W.widen hc.1 hc.2 ?_)
  exact W.iret (v := v) C.1 C.2.1 hr (fun t ht hW => ⟨⟨v, rfl, rfl, trivial, hB_of C hP hD hT ht hW⟩, hS.F ht⟩) hS.2.2 hdg hk
end
theorem jMh_of {β : Type} {l : Launch} {y : MethodName} {cc : ByteArray} {nL : Nat} {ret : Option FieldType} {rm : Room} {D : va_G} {cy : Nat → ClassId} {Λ : sLay} {S : sSt} {As : List jV} {K : jR β} {r : (String ⊕ β) × sSt} {hh : List (Nat × Nat × Nat × Nat)}
    (hy : plainName y.cls = true) (hlen : jlen As ≤ nL) (hl : l.stackTraces = false)
    (hJ : ∀ X : jX, jC X cc nL y.cls rm → jEh X ret K Λ r hh → xl X = l → J X nL 0 0 0 (jargs 0 As) [] Λ S True) : jMx l y (Cond.codeWith y cc nL ret hh :: bigW) rm D cy Λ S As K r := by
  intro sz
  refine vx_ofWH (cc := cc) (maxL := nL) (ret := ret) (hh := hh) hy rfl ?_
  intro p e s m args below meth c s₁ B hml hv
  obtain ⟨rfl, ⟨hsz, hP, hK, hD0, hT, hN⟩, hex⟩ := hv
  have hts := atoms_spec (ws := Cond.codeWith y cc nL ret hh :: bigW) B.pre
  subst hsz
  let X : jX := (p, l, e, (headSpec (Cond.codeWith y cc nL ret hh :: bigW) rm).room, s, m, (As.map jv).toArray, below, meth, c, s.heap, va_A (pool cy Λ S) s.heap.size, D, cy, vx_MQ below (jQx D cy Λ K r (va_A (pool cy Λ S) s.heap.size)) (jXC D cy Λ r (va_A (pool cy Λ S) s.heap.size)) (As.map jv).toArray s 1 8 (va_A (pool cy Λ S) s.heap.size))
  have C : jC X cc nL y.cls rm := ⟨B.exec, B.bytes, hml, findClass_of_methodNamed B.named, fun w hw => hts w (List.mem_cons_of_mem _ hw), hK, fun q h => Or.inr h, rfl, hN⟩
  have E : jEh X ret K Λ r hh := ⟨B.returns, B.notSynchronized, rfl, rfl, hex, hl, vx_table (x := y) B (hts _ List.mem_cons_self)⟩
  rw [lg_entry_eq]
  have hls := lv_entry (As.map jv) (n := nL) (by rw [jlen_sl]; exact hlen)
  rw [← jL_args] at hls
  exact hJ X C E rfl trivial hT s.heap [] _ hP hD0.self va_S.rf hls

abbrev rm_L_row : Room := { frames := 8, cells := 1, slots := 8, locals := 166 }
def F_L_row (N : Nat → Nat) (S : sSt) (x : Nat) (p1 p2 : Int32) (o : Nat) : Option (Int32 × sSt) := Option.bind (F_X8_row N S x p1 p2) (fun q => match q.1 with
  | .inr v => gi (0 : Int32) (N o) (some ((0 : Int32), sAJ q.2 o (Int32.toNatClampNeg (0 : Int32)) v))
  | .inl E => if E = aiN then some ((1 : Int32), q.2) else none)
set_option maxHeartbeats 4000000 in
theorem c_L_row {l : Launch} (hl : l.stackTraces = false) {D : va_G} {cy : Nat → ClassId} {Λ : sLay} {S : sSt} (x : Nat) (tx : isK Λ 8 x) (p1 p2 : Int32) (o : Nat) (to : isK Λ 11 o) {v : Int32} {S1 : sSt} (h : F_L_row Λ.2.2 S x p1 p2 o = some (v, S1)) : jMx l yL_row (Cond.codeWith yL_row cL_row 5 (some .int) [(0, 9, 12, 13)] :: bigW) rm_L_row D cy Λ S [vR (some x), vI p1, vI p2, vR (some o)] rI (.inr v, S1) := by
  refine jMh_of (by decide +kernel) (Nat.le_of_ble_eq_true rfl) hl (fun X C E0 hxl => ?_)
  refine j_sub [0, 1, 2, 3] (L' := [(0, vR (some x)), (1, vI p1), (2, vI p2), (3, vR (some o))]) rfl ?_
  obtain ⟨q, hF, hq⟩ := bind_some h
  refine j_aload_n C dL_row_0 3 rfl ?_
  refine j_iconst C (v := (0 : Int32)) dL_row_1 (by decide) ?_
  refine j_aload_n C dL_row_2 0 rfl ?_
  refine j_iload_n C dL_row_3 1 rfl ?_
  refine j_iload_n C dL_row_4 2 rfl ?_
  refine jx_callV C [vI p1, vI p2] [vI (0 : Int32), vR (some o)] rJ_ok E0.2.2.2.1 E0.2.2.2.2.1 (c_X8_row E0.2.2.2.2.2.1 x tx p1 p2 hF) kYX8_row kVX8_row (big_mem 827 (by decide +kernel) (by decide +kernel)) kO8 tx rfl rfl ⟨rfl, rfl, Nat.le_of_ble_eq_true rfl, Nat.le_of_ble_eq_true rfl⟩ (Nat.le_of_ble_eq_true rfl) ⟨Nat.le_of_ble_eq_true rfl, Nat.le_of_ble_eq_true rfl⟩ dL_row_5 ?_ ?_
  · intro v1 hv1 _
    rw [hv1] at hq
    obtain ⟨hin, hq⟩ := gi_in hq
    cases hq
    show J X 5 (0 + 1) (0 + 8) _ _ [vJ v1, vI (0 : Int32), vR (some o)] Λ q.2 True
    refine jb_last C to (fun _ => hin) dL_row_8 ?_
    refine j_goto C (tgt := 16) dL_row_9 (by decide) ?_
    refine j_iconst C (v := (0 : Int32)) dL_row_16 (by decide) ?_
    exact j_iretH C E0 rfl ⟨Nat.le_of_ble_eq_true rfl, Nat.le_of_ble_eq_true rfl⟩ dL_row_17
  · intro E hE
    rw [hE] at hq
    replace hq : (if E = aiN then some ((1 : Int32), q.2) else none) = some (v, S1) := hq
    by_cases c : E = aiN
    · rw [if_pos c] at hq
      cases hq
      subst c
      refine jx_catch C E0.2.2.2.2.2.2 [] _ [] rfl (fun z hz => by cases hz) rfl (by decide) (name := aiN) (big_mem 739 (by decide +kernel) (by decide +kernel)) (va_Nw.use rfl (E0.2.2.2.2.1.2.2.1 _ (by simp [ngW, aiN]))) (fun q9 => ?_)
      refine j_astore C (L' := (4, vR (some q9)) :: [(0, vR (some x)), (1, vI p1), (2, vI p2), (3, vR (some o))]) dL_row_12 (by decide) rfl ?_
      refine j_iconst C (v := (1 : Int32)) dL_row_14 (by decide) ?_
      exact j_iretH C E0 rfl ⟨Nat.le_of_ble_eq_true rfl, Nat.le_of_ble_eq_true rfl⟩ dL_row_15
    · rw [if_neg c] at hq; cases hq
abbrev rm_L_kept : Room := { frames := 8, cells := 1, slots := 8, locals := 134 }
def F_L_kept (N : Nat → Nat) (S : sSt) (x : Nat) (p1 p2 : Int32) (o : Nat) : Option (Int32 × sSt) := Option.bind (F_X8_kept N S x p1 p2) (fun q => match q.1 with
  | .inr v => gi (0 : Int32) (N o) (some ((0 : Int32), sAJ q.2 o (Int32.toNatClampNeg (0 : Int32)) v))
  | .inl E => if E = npN then some ((1 : Int32), q.2) else if E = aiN then some ((2 : Int32), q.2) else none)
set_option maxHeartbeats 4000000 in
theorem c_L_kept {l : Launch} (hl : l.stackTraces = false) {D : va_G} {cy : Nat → ClassId} {Λ : sLay} {S : sSt} (x : Nat) (tx : isK Λ 8 x) (p1 p2 : Int32) (o : Nat) (to : isK Λ 11 o) {v : Int32} {S1 : sSt} (h : F_L_kept Λ.2.2 S x p1 p2 o = some (v, S1)) : jMx l yL_kept (Cond.codeWith yL_kept cL_kept 5 (some .int) [(0, 9, 12, 18), (0, 9, 16, 13)] :: bigW) rm_L_kept D cy Λ S [vR (some x), vI p1, vI p2, vR (some o)] rI (.inr v, S1) := by
  refine jMh_of (by decide +kernel) (Nat.le_of_ble_eq_true rfl) hl (fun X C E0 hxl => ?_)
  refine j_sub [0, 1, 2, 3] (L' := [(0, vR (some x)), (1, vI p1), (2, vI p2), (3, vR (some o))]) rfl ?_
  obtain ⟨q, hF, hq⟩ := bind_some h
  refine j_aload_n C dL_kept_0 3 rfl ?_
  refine j_iconst C (v := (0 : Int32)) dL_kept_1 (by decide) ?_
  refine j_aload_n C dL_kept_2 0 rfl ?_
  refine j_iload_n C dL_kept_3 1 rfl ?_
  refine j_iload_n C dL_kept_4 2 rfl ?_
  refine jx_callV C [vI p1, vI p2] [vI (0 : Int32), vR (some o)] rJ_ok E0.2.2.2.1 E0.2.2.2.2.1 (c_X8_kept E0.2.2.2.2.2.1 x tx p1 p2 hF) kYX8_kept kVX8_kept (big_mem 863 (by decide +kernel) (by decide +kernel)) kO8 tx rfl rfl ⟨rfl, rfl, Nat.le_of_ble_eq_true rfl, Nat.le_of_ble_eq_true rfl⟩ (Nat.le_of_ble_eq_true rfl) ⟨Nat.le_of_ble_eq_true rfl, Nat.le_of_ble_eq_true rfl⟩ dL_kept_5 ?_ ?_
  · intro v1 hv1 _
    rw [hv1] at hq
    obtain ⟨hin, hq⟩ := gi_in hq
    cases hq
    show J X 5 (0 + 1) (0 + 8) _ _ [vJ v1, vI (0 : Int32), vR (some o)] Λ q.2 True
    refine jb_last C to (fun _ => hin) dL_kept_8 ?_
    refine j_goto C (tgt := 20) dL_kept_9 (by decide) ?_
    refine j_iconst C (v := (0 : Int32)) dL_kept_20 (by decide) ?_
    exact j_iretH C E0 rfl ⟨Nat.le_of_ble_eq_true rfl, Nat.le_of_ble_eq_true rfl⟩ dL_kept_21
  · intro E hE
    rw [hE] at hq
    replace hq : (if E = npN then some ((1 : Int32), q.2) else if E = aiN then some ((2 : Int32), q.2) else none) = some (v, S1) := hq
    by_cases c : E = npN
    · rw [if_pos c] at hq
      cases hq
      subst c
      refine jx_catch C E0.2.2.2.2.2.2 [] _ [_] rfl (fun z hz => by cases hz) rfl (by decide) (name := npN) (big_mem 838 (by decide +kernel) (by decide +kernel)) (va_Nw.use rfl (E0.2.2.2.2.1.2.2.1 _ (by simp [ngW, npN]))) (fun q9 => ?_)
      refine j_astore C (L' := (4, vR (some q9)) :: [(0, vR (some x)), (1, vI p1), (2, vI p2), (3, vR (some o))]) dL_kept_12 (by decide) rfl ?_
      refine j_iconst C (v := (1 : Int32)) dL_kept_14 (by decide) ?_
      exact j_iretH C E0 rfl ⟨Nat.le_of_ble_eq_true rfl, Nat.le_of_ble_eq_true rfl⟩ dL_kept_15
    · rw [if_neg c] at hq
      by_cases c2 : E = aiN
      · rw [if_pos c2] at hq
        cases hq
        subst c2
        refine jx_catch C E0.2.2.2.2.2.2 [_] _ [] rfl (fun z hz => ?_) rfl (by decide) (name := aiN) (big_mem 739 (by decide +kernel) (by decide +kernel)) (va_Nw.use rfl (E0.2.2.2.2.1.2.2.1 _ (by simp [ngW, aiN]))) (fun q9 => ?_)
        · rw [List.mem_singleton.mp hz]
          exact Or.inr ⟨by decide, npN, C.2.2.2.2.1 _ (big_mem 838 (by decide +kernel) (by decide +kernel)), E0.2.2.2.2.1.2.2.2⟩
        · refine j_astore C (L' := (4, vR (some q9)) :: [(0, vR (some x)), (1, vI p1), (2, vI p2), (3, vR (some o))]) dL_kept_16 (by decide) rfl ?_
          refine j_iconst C (v := (2 : Int32)) dL_kept_18 (by decide) ?_
          exact j_iretH C E0 rfl ⟨Nat.le_of_ble_eq_true rfl, Nat.le_of_ble_eq_true rfl⟩ dL_kept_19
      · rw [if_neg c2] at hq; cases hq
abbrev rm_L_order : Room := { frames := 8, cells := 1, slots := 8, locals := 142 }
def F_L_order (N : Nat → Nat) (S : sSt) (x : Nat) (p1 : Int32) (o : Nat) : Option (Int32 × sSt) := Option.bind (F_X8_order N S x p1) (fun q => match q.1 with
  | .inr v => gi (0 : Int32) (N o) (some ((0 : Int32), sAJ q.2 o (Int32.toNatClampNeg (0 : Int32)) (Int32.toInt64 v)))
  | .inl E => if E = aiN then some ((1 : Int32), q.2) else none)
set_option maxHeartbeats 4000000 in
theorem c_L_order {l : Launch} (hl : l.stackTraces = false) {D : va_G} {cy : Nat → ClassId} {Λ : sLay} {S : sSt} (x : Nat) (tx : isK Λ 8 x) (p1 : Int32) (o : Nat) (to : isK Λ 11 o) {v : Int32} {S1 : sSt} (h : F_L_order Λ.2.2 S x p1 o = some (v, S1)) : jMx l yL_order (Cond.codeWith yL_order cL_order 4 (some .int) [(0, 9, 12, 13)] :: bigW) rm_L_order D cy Λ S [vR (some x), vI p1, vR (some o)] rI (.inr v, S1) := by
  refine jMh_of (by decide +kernel) (Nat.le_of_ble_eq_true rfl) hl (fun X C E0 hxl => ?_)
  refine j_sub [0, 1, 2] (L' := [(0, vR (some x)), (1, vI p1), (2, vR (some o))]) rfl ?_
  obtain ⟨q, hF, hq⟩ := bind_some h
  refine j_aload_n C dL_order_0 2 rfl ?_
  refine j_iconst C (v := (0 : Int32)) dL_order_1 (by decide) ?_
  refine j_aload_n C dL_order_2 0 rfl ?_
  refine j_iload_n C dL_order_3 1 rfl ?_
  refine jx_callV C [vI p1] [vI (0 : Int32), vR (some o)] rI_ok E0.2.2.2.1 E0.2.2.2.2.1 (c_X8_order E0.2.2.2.2.2.1 x tx p1 hF) kYX8_order kVX8_order (big_mem 877 (by decide +kernel) (by decide +kernel)) kO8 tx rfl rfl ⟨rfl, rfl, Nat.le_of_ble_eq_true rfl, Nat.le_of_ble_eq_true rfl⟩ (Nat.le_of_ble_eq_true rfl) ⟨Nat.le_of_ble_eq_true rfl, Nat.le_of_ble_eq_true rfl⟩ dL_order_4 ?_ ?_
  · intro v1 hv1 _
    rw [hv1] at hq
    obtain ⟨hin, hq⟩ := gi_in hq
    cases hq
    show J X 4 (0 + 1) (0 + 8) _ _ [vI v1, vI (0 : Int32), vR (some o)] Λ q.2 True
    refine j_i2l C dL_order_7 ?_
    refine jb_last C to (fun _ => hin) dL_order_8 ?_
    refine j_goto C (tgt := 15) dL_order_9 (by decide) ?_
    refine j_iconst C (v := (0 : Int32)) dL_order_15 (by decide) ?_
    exact j_iretH C E0 rfl ⟨Nat.le_of_ble_eq_true rfl, Nat.le_of_ble_eq_true rfl⟩ dL_order_16
  · intro E hE
    rw [hE] at hq
    replace hq : (if E = aiN then some ((1 : Int32), q.2) else none) = some (v, S1) := hq
    by_cases c : E = aiN
    · rw [if_pos c] at hq
      cases hq
      subst c
      refine jx_catch C E0.2.2.2.2.2.2 [] _ [] rfl (fun z hz => by cases hz) rfl (by decide) (name := aiN) (big_mem 739 (by decide +kernel) (by decide +kernel)) (va_Nw.use rfl (E0.2.2.2.2.1.2.2.1 _ (by simp [ngW, aiN]))) (fun q9 => ?_)
      refine j_astore_n C (L' := (3, vR (some q9)) :: [(0, vR (some x)), (1, vI p1), (2, vR (some o))]) dL_order_12 (by decide) rfl ?_
      refine j_iconst C (v := (1 : Int32)) dL_order_13 (by decide) ?_
      exact j_iretH C E0 rfl ⟨Nat.le_of_ble_eq_true rfl, Nat.le_of_ble_eq_true rfl⟩ dL_order_14
    · rw [if_neg c] at hq; cases hq
