/-! Throwing: what must hold of the machine's tables and statics at a method's start. -/
def aiN : String := "java/lang/ArrayIndexOutOfBoundsException"
def npN : String := "java/lang/NullPointerException"
def aiC : List String := ["java/lang/IndexOutOfBoundsException", "java/lang/RuntimeException", "java/lang/Exception"]
/-- words that don't move by themselves -/
def ngW : List Cond := [.declares ⟨"java/lang/IndexOutOfBoundsException", "<init>", "(Ljava/lang/String;)V"⟩, .declares ⟨"java/lang/RuntimeException", "<init>", "(Ljava/lang/String;)V"⟩, .declares ⟨"java/lang/Exception", "<init>", "(Ljava/lang/String;)V"⟩, .declares ⟨"java/lang/Throwable", "<init>", "(Ljava/lang/String;)V"⟩, .castable "java/lang/ArrayIndexOutOfBoundsException" "java/lang/ArrayIndexOutOfBoundsException", .castable "java/lang/NullPointerException" "java/lang/NullPointerException", .castable "java/lang/RuntimeException" "java/lang/Throwable"]
def exNg (U : State) : Prop := (∀ w ∈ ngW, va_Nw w U) ∧ va_Nc aiN npN U
theorem exNg.warm {s U : State} (hW : s.WarmedH U.vm) (h : exNg s) : exNg U := by
  refine ⟨?_, h.2.moved hW.alike⟩
  intro w hw
  have h1 := h.1 w hw
  simp only [ngW, List.mem_cons, List.not_mem_nil, or_false] at hw
  rcases hw with rfl | rfl | rfl | rfl | rfl | rfl | rfl
  · exact va_Nw.warmD hW h1
  · exact va_Nw.warmD hW h1
  · exact va_Nw.warmD hW h1
  · exact va_Nw.warmD hW h1
  · exact va_Nw.warmC hW h1
  · exact va_Nw.warmC hW h1
  · exact va_Nw.warmC hW h1
theorem exNg.same {u U : State} (e : u.vm = U.vm) (h : exNg u) : exNg U := by
  refine ⟨?_, h.2.moved (e ▸ Vm.Alike.refl u.vm)⟩
  intro w hw
  have h1 := h.1 w hw
  have h2 : w.onTables = true := by
    simp only [ngW, List.mem_cons, List.not_mem_nil, or_false] at hw
    rcases hw with rfl | rfl | rfl | rfl | rfl | rfl | rfl <;> rfl
  exact va_Nw.same h2 e h1
def exStr (U : State) : Prop := (∃ a, vk_R RX8 176 "the row has no such long" a U) ∧ (∃ a, vk_R RX8 196 "the row that is kept has no such long" a U) ∧ (∃ a, vk_R RX8 231 "the order has no such place" a U) ∧ (∃ a, vk_R RX8 189 "the unit was never made" a U)
theorem exStr.warm {s U : State} (hW : s.WarmedH U.vm) (h : exStr s) : exStr U := ⟨h.1.elim fun a q => ⟨a, vk_R.warm hW q⟩, h.2.1.elim fun a q => ⟨a, vk_R.warm hW q⟩, h.2.2.1.elim fun a q => ⟨a, vk_R.warm hW q⟩, h.2.2.2.elim fun a q => ⟨a, vk_R.warm hW q⟩⟩
theorem exStr.same {u U : State} (e : U.vm = u.vm) (h : exStr u) : exStr U := ⟨h.1.elim fun a q => ⟨a, vk_R.same e q⟩, h.2.1.elim fun a q => ⟨a, vk_R.same e q⟩, h.2.2.1.elim fun a q => ⟨a, vk_R.same e q⟩, h.2.2.2.elim fun a q => ⟨a, vk_R.same e q⟩⟩
def exSt (A : Nat → Prop) (U : State) (H : Heap) : Prop := vx_Zq Bundle.tN "UNASSIGNED_STACK" Bundle.steD A U H ∧ vx_Zq Bundle.tN "SUPPRESSED_SENTINEL" Bundle.listD A U H
def exOk (A : Nat → Prop) (U : State) : Prop := exSt A U U.heap ∧ exStr U ∧ exNg U
def jXPre (D : va_G) (cy : Nat → ClassId) (Λ : sLay) (S : sSt) (sz : Nat) (U : State) : Prop := jPre D cy Λ S sz U ∧ exOk (va_A (pool cy Λ S) sz) U
def jQx {β : Type} (D : va_G) (cy : Nat → ClassId) (Λ : sLay) (K : jR β) (r : (String ⊕ β) × sSt) (A : Nat → Prop) : Array Value → State → Outcome → State → Prop := fun _ st oc t => (∃ v, r.1 = .inr v ∧ oc = .returned (K.1 v) ∧ K.2.2 Λ v ∧ hB D cy Λ r.2 A t) ∧ va_F A st t
def jXC {β : Type} (D : va_G) (cy : Nat → ClassId) (Λ : sLay) (r : (String ⊕ β) × sSt) (A : Nat → Prop) : String → State → State → Prop := fun E st t => r.1 = .inl E ∧ va_P D cls (pool cy Λ r.2) t.heap ∧ va_D A (pool cy Λ r.2) ∧ TS Λ r.2 ∧ va_F A st t
def jMx {β : Type} (l : Launch) (y : MethodName) (ws : List Cond) (rm : Room) (D : va_G) (cy : Nat → ClassId) (Λ : sLay) (S : sSt) (As : List jV) (K : jR β) (r : (String ⊕ β) × sSt) : Prop :=
  ∀ sz : Nat, vx_Met l y ws rm (va_Pc (As.map jv) (jXPre D cy Λ S sz)) (jQx D cy Λ K r (va_A (pool cy Λ S) sz)) (jXC D cy Λ r (va_A (pool cy Λ S) sz)) 1 8 (va_A (pool cy Λ S) sz)
def jEx {β : Type} (X : jX) (ret : Option FieldType) (K : jR β) (Λ : sLay) (r : (String ⊕ β) × sSt) : Prop :=
  (xt X).sig.returnType = ret ∧ (xt X).locks = false ∧ xQ X = vx_MQ (xb X) (jQx (xD X) (xy X) Λ K r (xA X)) (jXC (xD X) (xy X) Λ r (xA X)) (xa X) (xs X) 1 8 (xA X) ∧ xH X = (xs X).heap ∧ exOk (xA X) (xs X) ∧ (xl X).stackTraces = false ∧ (∀ x ∈ (xc X).exceptionTable.toList, False)
theorem ex_hat {L : List Cond} {args : Array Value} {s : State} (h1 : ∀ w ∈ bigW, w.before args s = true) (h2 : exNg s) (hi : ∀ w ∈ L, w ∈ lw_tbl) (hg : ∀ w ∈ L, goodWord w = true ∨ w ∈ ngW) : ∀ w ∈ L, w.before args s = true := by
  intro w hw
  rcases hg w hw with h | h
  · exact h1 w (List.mem_filter.mpr ⟨hi w hw, h⟩)
  · have h3 : w.onTables = true := by
      have h4 := h
      simp only [ngW, List.mem_cons, List.not_mem_nil, or_false] at h4
      rcases h4 with rfl | rfl | rfl | rfl | rfl | rfl | rfl <;> rfl
    exact va_Nw.use h3 (h2.1 w h)
section
variable {X : jX} {cc : ByteArray} {nL k n pc : Nat} {own : String} {R : Room} {L L' : List (Nat × jV)} {st : List jV} {Λ : sLay} {S : sSt} {φ φ1 φ2 : Prop}
theorem j_lretX (C : jC X cc nL own R) {r : (String ⊕ Int64) × sSt} {v : Int64} (E : jEx X (some .long) rJ Λ r) (hc : k ≤ 1 ∧ n ≤ 8) (hdg : decode cc pc = .ok (.lreturn, 1)) : J X nL k n pc L [vJ v] Λ S (some (Sum.inr v, S) = some r) := by
  intro h hT H locs ls hP hD hS hv
  cases h
  obtain ⟨hr, hk, hQ, hH, -⟩ := E
  rw [hH] at hS
  show W _ _ _ _ _ _ _ _ _ _ _ _ _ _ (xQ X) _
  rw [hQ]
  refine vx_ret (W.widen hc.1 hc.2 ?_)
  exact W.lret (v := v) C.1 C.2.1 hr (fun t ht hW => ⟨⟨v, rfl, rfl, trivial, hB_of C hP hD hT ht hW⟩, hS.F ht⟩) hS.2.2 hdg hk
theorem j_iretX (C : jC X cc nL own R) {r : (String ⊕ Int32) × sSt} {v : Int32} (E : jEx X (some .int) rI Λ r) (hc : k ≤ 1 ∧ n ≤ 8) (hdg : decode cc pc = .ok (.ireturn, 1)) : J X nL k n pc L [vI v] Λ S (some (Sum.inr v, S) = some r) := by
  intro h hT H locs ls hP hD hS hv
  cases h
  obtain ⟨hr, hk, hQ, hH, -⟩ := E
  rw [hH] at hS
  show W _ _ _ _ _ _ _ _ _ _ _ _ _ _ (xQ X) _
  rw [hQ]
  refine vx_ret (W.widen hc.1 hc.2 ?_)
  exact W.iret (v := v) C.1 C.2.1 hr (fun t ht hW => ⟨⟨v, rfl, rfl, trivial, hB_of C hP hD hT ht hW⟩, hS.F ht⟩) hS.2.2 hdg hk
theorem j_throwAI {β : Type} (C : jC X cc nL own R) {K : jR β} {ret : Option FieldType} {r : (String ⊕ β) × sSt} {text : String} {ik is ic : Nat} (E : jEx X ret K Λ r)
    (hk : Cond.classLink own ik aiN ∈ bigW) (hini : Cond.initialized aiN ∈ bigW) (hstr : ∃ a, vk_R own is text a (xs X)) (hi : ∀ w ∈ vx_atS own ic aiN aiC, w ∈ lw_tbl) (hg : ∀ w ∈ vx_atS own ic aiN aiC, goodWord w = true ∨ w ∈ ngW) (hot : ∀ w ∈ vx_atS own ic aiN aiC, vx_ot w = true)
    (d0 : decode cc pc = .ok (.new ik, 3)) (d3 : decode cc (pc + 3) = .ok (.dup, 1)) (d4 : decode cc (pc + 4) = .ok (.ldc is, 2)) (d6 : decode cc (pc + 6) = .ok (.invokespecial ic, 3)) (d9 : decode cc (pc + 9) = .ok (.athrow, 1))
    (hR : 6 < R.frames ∧ 105 ≤ R.locals ∧ k + 1 ≤ R.cells ∧ n + 6 ≤ R.slots) (hroom : jsum st ≤ 8) (hc : k + 1 ≤ 1 ∧ n + 6 ≤ 8) : J X nL k n pc L st Λ S (some (Sum.inl aiN, S) = some r) := by
  intro h hT H locs ls hP hD hS hv
  cases h
  obtain ⟨hr, hlk, hQ, hH, hex, hl, htb⟩ := E
  have hR' : xR X = R := C.2.2.2.2.2.2.2.1
  obtain ⟨sa, hsa⟩ := hstr
  rw [hH] at hS
  show W _ _ _ _ _ _ _ _ _ _ _ _ _ _ (xQ X) _
  rw [hQ]
  refine vx_throwS (names := aiC) (A := xA X) C.1 C.2.1 hl C.2.2.2.1 (by decide +kernel) (by decide +kernel) (C.2.2.2.2.1 _ hk) (C.2.2.2.2.1 _ hini) hsa (ex_hat C.2.2.2.2.1 hex.2.2 hi hg) ?_ hex.1.1 hex.1.2 hS (hv.1.trans C.2.2.1.symm) d0 d3 d4 d6 d9 (fun x hx => (htb x hx).elim) (by rw [hR']; exact hR.1) ?_ (by rw [hR']; exact hR.2.2.1) (by rw [hR']; exact hR.2.2.2) hlk (fun t hvm hz hq => ?_) hS.2.2 hc.1 hc.2
  · intro w hw
    rcases List.mem_cons.mp hw with rfl | hw
    · rfl
    · rcases List.mem_cons.mp hw with rfl | hw
      · rfl
      · exact hot w hw
  · rw [hR', jsum_map]
    have := hR.2.1
    have e : aiC.length = 3 := rfl
    omega
  · exact ⟨rfl, hP.kept (fun kq q hkq => hq _ ((hP kq q hkq).lt)), hD, hT, Nat.le_trans hS.1 hz, fun q h1 h2 => (hq q (Nat.lt_of_lt_of_le h1 hS.1)).trans (hS.2.1 q h1 h2)⟩
theorem j_throwNP {β : Type} (C : jC X cc nL own R) {K : jR β} {ret : Option FieldType} {r : (String ⊕ β) × sSt} {text : String} {ik is ic : Nat} (E : jEx X ret K Λ r)
    (hk : Cond.classLink own ik npN ∈ bigW) (hini : Cond.initialized npN ∈ bigW) (hstr : ∃ a, vk_R own is text a (xs X)) (hi : ∀ w ∈ vn_at own ic, w ∈ lw_tbl) (hg : ∀ w ∈ vn_at own ic, goodWord w = true ∨ w ∈ ngW) (hot : ∀ w ∈ vn_at own ic, vx_ot w = true)
    (d0 : decode cc pc = .ok (.new ik, 3)) (d3 : decode cc (pc + 3) = .ok (.dup, 1)) (d4 : decode cc (pc + 4) = .ok (.ldc is, 2)) (d6 : decode cc (pc + 6) = .ok (.invokespecial ic, 3)) (d9 : decode cc (pc + 9) = .ok (.athrow, 1))
    (hR : 6 < R.frames ∧ 105 ≤ R.locals ∧ k + 1 ≤ R.cells ∧ n + 8 ≤ R.slots) (hroom : jsum st ≤ 8) (hc : k + 1 ≤ 1 ∧ n + 8 ≤ 8) : J X nL k n pc L st Λ S (some (Sum.inl npN, S) = some r) := by
  intro h hT H locs ls hP hD hS hv
  cases h
  obtain ⟨hr, hlk, hQ, hH, hex, hl, htb⟩ := E
  have hR' : xR X = R := C.2.2.2.2.2.2.2.1
  obtain ⟨sa, hsa⟩ := hstr
  rw [hH] at hS
  show W _ _ _ _ _ _ _ _ _ _ _ _ _ _ (xQ X) _
  rw [hQ]
  refine vn_throwS (A := xA X) C.1 C.2.1 hl C.2.2.2.1 (C.2.2.2.2.1 _ hk) (C.2.2.2.2.1 _ hini) hsa (ex_hat C.2.2.2.2.1 hex.2.2 hi hg) ?_ hex.1.1 hex.1.2 hS (hv.1.trans C.2.2.1.symm) d0 d3 d4 d6 d9 (fun x hx => (htb x hx).elim) (by rw [hR']; exact hR.1) ?_ (by rw [hR']; exact hR.2.2.1) (by rw [hR']; exact hR.2.2.2) hlk (fun t hvm hz hq => ?_) hS.2.2 hc.1 hc.2
  · intro w hw
    rcases List.mem_cons.mp hw with rfl | hw
    · rfl
    · rcases List.mem_cons.mp hw with rfl | hw
      · rfl
      · exact hot w hw
  · rw [hR', jsum_map]
    have := hR.2.1
    omega
  · exact ⟨rfl, hP.kept (fun kq q hkq => hq _ ((hP kq q hkq).lt)), hD, hT, Nat.le_trans hS.1 hz, fun q h1 h2 => (hq q (Nat.lt_of_lt_of_le h1 hS.1)).trans (hS.2.1 q h1 h2)⟩
end
theorem jMx_of {β : Type} {l : Launch} {y : MethodName} {cc : ByteArray} {nL : Nat} {ret : Option FieldType} {rm : Room} {D : va_G} {cy : Nat → ClassId} {Λ : sLay} {S : sSt} {As : List jV} {K : jR β} {r : (String ⊕ β) × sSt} {φ : Prop}
    (hy : plainName y.cls = true) (hlen : jlen As ≤ nL) (hl : l.stackTraces = false)
    (hJ : ∀ X : jX, jC X cc nL y.cls rm → jEx X ret K Λ r → J X nL 0 0 0 (jargs 0 As) [] Λ S φ) (h : φ) : jMx l y (Cond.code y cc nL ret :: bigW) rm D cy Λ S As K r := by
  intro sz
  refine vx_ofW (cc := cc) (maxL := nL) (ret := ret) hy rfl ?_
  intro p e s m args below meth c s₁ B hml ht hv
  obtain ⟨rfl, ⟨hsz, hP, hK, hD0, hT, hN⟩, hex⟩ := hv
  have hts := atoms_spec (ws := Cond.code y cc nL ret :: bigW) B.pre
  subst hsz
  let X : jX := (p, l, e, (headSpec (Cond.code y cc nL ret :: bigW) rm).room, s, m, (As.map jv).toArray, below, meth, c, s.heap, va_A (pool cy Λ S) s.heap.size, D, cy, vx_MQ below (jQx D cy Λ K r (va_A (pool cy Λ S) s.heap.size)) (jXC D cy Λ r (va_A (pool cy Λ S) s.heap.size)) (As.map jv).toArray s 1 8 (va_A (pool cy Λ S) s.heap.size))
  have C : jC X cc nL y.cls rm := ⟨B.exec, B.bytes, hml, findClass_of_methodNamed B.named, fun w hw => hts w (List.mem_cons_of_mem _ hw), hK, fun q h => Or.inr h, rfl, hN⟩
  have E : jEx X ret K Λ r := ⟨B.returns, B.notSynchronized, rfl, rfl, hex, hl, ht⟩
  rw [lg_entry_eq]
  have hls := lv_entry (As.map jv) (n := nL) (by rw [jlen_sl]; exact hlen)
  rw [← jL_args] at hls
  exact hJ X C E h hT s.heap [] _ hP hD0.self va_S.rf hls
