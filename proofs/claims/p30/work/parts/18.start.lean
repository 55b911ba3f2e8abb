-- ===== end of PART A; then your names; then what follows =====
/-! THE CLAIM OUT OF ONE WALK OF THE LAW'S BODY. Your part is whole_start (and what it stands on); all else here is the same for every law, but numbers. -/
def R_law : String := "RemakeNeeds2Law"
def lw_P (b : Addr) (xs : List Int32) (args : Array Value) (s : State) : Prop := args = #[.ref b] ∧ s.IntsAt b xs ∧ xs.length ≤ 448 ∧ (Jvm.Cond.and given_1 narrow_1).before args s = true
def lw_Q (_ : Array Value) (s : State) (o : Outcome) (t : State) : Prop := o = .returned (some (.int 1)) ∧ Framed s o t [] 600384 7289322
def lw_Z (below : List Frame) (a : Array Value) (s : State) : State → Prop := fun t => ∃ o, t.status = .running ∧ Ended t below o ∧ lw_Q a s o t
/-- the law's own end, with 1 on the stack, nothing written that was there before, its room as the claim has it -/
theorem lw_ret {p : Program} {l : Launch} {e : Env} {s : State} {m : MethodId} {below : List Frame} {meth : Method} {c : Code} {b : Nat} (hx : p.tables.exec = Jvm.exec) (hb : c.code = code) (hr : meth.sig.returnType = ret) (hlocks : meth.locks = false) {pc : Nat} {H : Heap} {ls : Array Slot} (hdg : decode code pc = .ok (.ireturn, 1)) : W p l e room_1 s m #[Value.ref b] below meth c H [] 600384 7289322 (lw_Z below #[Value.ref b] s) (F0 m pc ls [.int 1]) := by
  intro T hT X
  obtain ⟨fs, hret, hrun, hended, hW, hframe⟩ := X.leave (v := some (.int 1)) (hlocks := hlocks) (fun h => by rw [hr] at h; cases h)
  have hmeth' : T.vm.method? m = some meth := X.method'
  refine ⟨T.setFrames fs, ?_, .returned (some (.int 1)), hrun, hended, rfl, ⟨_, rfl⟩, hW, hframe⟩
  jvm_step X.here [X.here.top, hx, hb, hdg, hmeth', hr, ret, narrow_b1]
  (try refine ⟨rfl, ?_⟩); (try refine ⟨rfl, ?_⟩)
  first | (intro acts; rw [hret _ acts rfl rfl rfl]) | rw [hret _ _ rfl rfl rfl]
  exact Steps.refl _
/-- what holds at the law's entry: the machine, the code, the tables' words (any of lw_tbl by 'hts w (by decide +kernel)'), the script of L ints xs at the cell b, what the Statement gives of the start (any of its parts by flat_of_before) -/
def lw_At (p : Program) (s : State) (m : MethodId) (meth : Method) (c : Code) (b L : Nat) (xs : Nat → Int32) : Prop :=
  p.tables.exec = Jvm.exec ∧ c.code = code ∧ meth.sig.returnType = ret ∧ c.maxLocals = 8 ∧ s.vm.findClass R_law = some m.cls ∧ (∀ w ∈ lw_tbl, w.before #[Value.ref b] s = true) ∧ va_X b L xs s s.heap ∧ b < s.heap.size ∧ meth.locks = false ∧ (Jvm.Cond.and given_1 narrow_1).before #[Value.ref b] s = true
/-- the empty layout and store -/
def lay0 : sLay := ([], fun _ => 99, fun _ => 0)
def st0_ : sSt := (fun _ _ => 0, fun _ _ => 0, fun _ _ => none, fun _ _ => 0, fun _ _ => 0, fun _ _ => none)
/-- what stands at the loop's first turn -/
def R_start (x m o : Nat) (Λ : sLay) (S : sSt) : Prop := x ∉ lay0.1 ∧ ∃ Λ1 S1, R_X8_init (lNew lay0 x 8 0) (sNew st0_ x) x Λ1 S1 ∧ m ∉ Λ1.1 ∧ ∃ Λ2 S2, R_X9_init (lNew Λ1 m 9 0) (sNew S1 m) m Λ2 S2 ∧ o ∉ Λ2.1 ∧ Λ = lNew Λ2 o 11 1 ∧ S = sNew S2 o
abbrev lawX (p : Program) (l : Launch) (e : Env) (s : State) (m : MethodId) (below : List Frame) (meth : Method) (c : Code) (b : Nat) (D : va_G) (cy : Nat → ClassId) : jX := (p, l, e, room_1, s, m, #[Value.ref b], below, meth, c, s.heap, fun q : Nat => s.heap.size ≤ q, D, cy, lw_Z below #[Value.ref b] s)
theorem law_arr {s : State} {args : Array Value} {ty : FieldType} (h : (Cond.arrayClass ty).before args s = true) : ∃ cA : ClassId, ArrOfT s cA ty ∧ s.vm.findClass ("[" ++ ty.toString) = some cA := by
  obtain ⟨cA, kA, comp, h1, h2, h3⟩ := Cond.arrayClass_spec (show (Cond.arrayClass ty).holds args s none s [] = true from h)
  exact ⟨cA, fun n z => ⟨fun k h => (by cases h), kA, h2, comp, h3⟩, h1⟩
theorem law_arrO {s : State} {args : Array Value} {C : String} (h : (Cond.arrayOver (.object C)).before args s = true) : ∃ cA : ClassId, ArrOfT s cA (.object C) ∧ va_RA s cA (.object C) := by
  obtain ⟨comp, cA, kA, h1, h2, h3, h4, h5⟩ := Cond.arrayOver_spec (show (Cond.arrayOver (.object C)).holds args s none s [] = true from h)
  exact ⟨cA, fun n z => ⟨fun k h => (by cases h), kA, h3, comp, h4⟩, kA, comp, h3, h4, h1, h5⟩
theorem law_str {s : State} {args : Array Value} {own tx : String} {k : Nat} (h1 : (Cond.stringRef own k tx).before args s = true) (h2 : (Cond.exactly (.string own k) "java/lang/String").before args s = true) : ∃ a, vk_R own k tx a s := by
  obtain ⟨a, c, cell, kk, e, -⟩ := Cond.exactly_spec (show (Cond.exactly (.string own k) "java/lang/String").holds args s none s [] = true from h2)
  exact ⟨a, h1, e⟩
set_option maxHeartbeats 4000000 in
set_option maxRecDepth 100000 in
/-- THE LAW, from its entry, over what holds at each turn -/
theorem law_start {p : Program} {e : Env} {s : State} {m0 : MethodId} {below : List Frame} {meth : Method} {c : Code} (l : Launch) (hflags : l.flags = flags0) {b L : Nat} {xs : Nat → Int32} (hL : L ≤ 448) (C0 : lw_At p s m0 meth c b L xs)
    (Inv : Nat → Nat → Nat → Nat → sLay → sSt → Prop) (h0 : ∀ x m o Λ S, R_start x m o Λ S → Inv x m o 0 Λ S) (Hst : ∀ x m o t Λ S, 7 * t + 7 ≤ L → Inv x m o t Λ S → LawSteps Λ S x m o (Inv x m o (t + 1))) :
    W p l e room_1 s m0 #[Value.ref b] below meth c s.heap [] 0 0 (lw_Z below #[Value.ref b] s) (entryFrame m0 ([Value.ref b] : List Value).toArray 8) := by
  obtain ⟨hx, hb, hr, hml, hown, hts, hX, hbl, hlocks, hgv⟩ := id C0
  have hs := flat_of_before _ hgv
  have hst : l.stackTraces = false := by rw [Launch.stackTraces, hflags]; decide +kernel
  obtain ⟨c0, i0, hKn0⟩ := u_known (C := RX0) (T := TX0) (N := 4) (n := 4) hts (fun w hw => big_sub (kK0.2.1 w hw)) (hts (.instantiable RX0 4) (by decide +kernel))
  obtain ⟨c1, i1, hKn1⟩ := u_known (C := RX1) (T := TX1) (N := 2) (n := 2) hts (fun w hw => big_sub (kK1.2.1 w hw)) (hts (.instantiable RX1 2) (by decide +kernel))
  obtain ⟨c2, i2, hKn2⟩ := u_known (C := RX2) (T := TX2) (N := 5) (n := 5) hts (fun w hw => big_sub (kK2.2.1 w hw)) (hts (.instantiable RX2 5) (by decide +kernel))
  obtain ⟨c3, i3, hKn3⟩ := u_known (C := RX3) (T := TX3) (N := 6) (n := 6) hts (fun w hw => big_sub (kK3.2.1 w hw)) (hts (.instantiable RX3 6) (by decide +kernel))
  obtain ⟨c4, i4, hKn4⟩ := u_known (C := RX4) (T := TX4) (N := 2) (n := 2) hts (fun w hw => big_sub (kK4.2.1 w hw)) (hts (.instantiable RX4 2) (by decide +kernel))
  obtain ⟨c5, i5, hKn5⟩ := u_known (C := RX5) (T := TX5) (N := 10) (n := 10) hts (fun w hw => big_sub (kK5.2.1 w hw)) (hts (.instantiable RX5 10) (by decide +kernel))
  obtain ⟨c6, i6, hKn6⟩ := u_known (C := RX6) (T := TX6) (N := 11) (n := 11) hts (fun w hw => big_sub (kK6.2.1 w hw)) (hts (.instantiable RX6 11) (by decide +kernel))
  obtain ⟨c7, i7, hKn7⟩ := u_known (C := RX7) (T := TX7) (N := 2) (n := 2) hts (fun w hw => big_sub (kK7.2.1 w hw)) (hts (.instantiable RX7 2) (by decide +kernel))
  obtain ⟨c8, i8, hKn8⟩ := u_known (C := RX8) (T := TX8) (N := 5) (n := 5) hts (fun w hw => big_sub (kK8.2.1 w hw)) (hts (.instantiable RX8 5) (by decide +kernel))
  obtain ⟨c9, i9, hKn9⟩ := u_known (C := RX9) (T := TX9) (N := 36) (n := 36) hts (fun w hw => big_sub (kK9.2.1 w hw)) (hts (.instantiable RX9 36) (by decide +kernel))
  obtain ⟨a0, hA0, hF0⟩ := law_arr (hts (.arrayClass .int) (by decide +kernel))
  obtain ⟨a1, hA1, hF1⟩ := law_arr (hts (.arrayClass .long) (by decide +kernel))
  obtain ⟨a2, hA2, hF2⟩ := law_arr (hts (.arrayClass .boolean) (by decide +kernel))
  have hO5 := hts (.arrayOver (.object RX5)) (by decide +kernel)
  have hO6 := hts (.arrayOver (.object RX6)) (by decide +kernel)
  obtain ⟨a3, hA3, hF3⟩ := law_arrO hO5
  obtain ⟨a4, hA4, hF4⟩ := law_arrO hO6
  obtain ⟨dC, dI, hKc⟩ : ∃ (dC : Nat → ClassId) (dI : Nat → Nat → Nat), ∀ (k : Nat) (q : vw_C), cls[k]? = some q → u_Kn s q.1 q.2.1 q.2.2 (dC k) (dI k) := by
    refine ⟨fun k => if k = 0 then c0 else if k = 1 then c1 else if k = 2 then c2 else if k = 3 then c3 else if k = 4 then c4 else if k = 5 then c5 else if k = 6 then c6 else if k = 7 then c7 else if k = 8 then c8 else c9, fun k => if k = 0 then i0 else if k = 1 then i1 else if k = 2 then i2 else if k = 3 then i3 else if k = 4 then i4 else if k = 5 then i5 else if k = 6 then i6 else if k = 7 then i7 else if k = 8 then i8 else i9, ?_⟩
    intro k q hq
    match k, hq with
    | 0, hq => cases hq; exact hKn0
    | 1, hq => cases hq; exact hKn1
    | 2, hq => cases hq; exact hKn2
    | 3, hq => cases hq; exact hKn3
    | 4, hq => cases hq; exact hKn4
    | 5, hq => cases hq; exact hKn5
    | 6, hq => cases hq; exact hKn6
    | 7, hq => cases hq; exact hKn7
    | 8, hq => cases hq; exact hKn8
    | 9, hq => cases hq; exact hKn9
    | k + 10, hq => simp [cls] at hq
  obtain ⟨cy, hcy⟩ : ∃ cy : Nat → ClassId, cy 0 = a0 ∧ cy 1 = a1 ∧ cy 2 = a2 ∧ cy 3 = a3 ∧ cy 4 = a4 := ⟨fun k => if k = 0 then a0 else if k = 1 then a1 else if k = 2 then a2 else if k = 3 then a3 else a4, rfl, rfl, rfl, rfl, rfl⟩
  obtain ⟨rfl, rfl, rfl, rfl, rfl⟩ := hcy
  have hK : va_K (dC, dI) cls (tys cy) s := by
    refine ⟨hKc, fun k q hq => ?_⟩
    match k, hq with
    | 0, hq => cases hq; exact ⟨hA0, hF0⟩
    | 1, hq => cases hq; exact ⟨hA1, hF1⟩
    | 2, hq => cases hq; exact ⟨hA2, hF2⟩
    | 3, hq => cases hq; exact ⟨hA3, hF3⟩
    | 4, hq => cases hq; exact ⟨hA4, hF4⟩
    | k + 5, hq => simp [tys] at hq
  have hnest : nestOk s := by
    refine ⟨fun q hq => ?_, va_AO.of hO5, va_AO.of hO6⟩
    have h1 : (nests.all (fun q => decide (Cond.methodLinkNest q.1 q.2.1 q.2.2.1 q.2.2.2 ∈ lw_tbl))) = true := by decide +kernel
    exact va_Nw.of rfl (hts _ (of_decide_eq_true (List.all_eq_true.mp h1 q hq)))
  have hng : exNg s := by
    refine ⟨?_, va_Nc.of (hs _ (by decide +kernel))⟩
    have h1 : (ngW.all (fun w => decide (w ∈ lw_tbl) && w.onTables)) = true := by decide +kernel
    intro w hw
    have h2 := List.all_eq_true.mp h1 w hw
    simp only [Bool.and_eq_true, decide_eq_true_eq] at h2
    exact va_Nw.of h2.2 (hts w h2.1)
  have hini : (Cond.initialized "java/lang/Throwable").before #[Value.ref b] s = true := hts _ (by decide +kernel)
  have hex : exOk (fun q : Nat => s.heap.size ≤ q) s := by
    refine ⟨⟨vx_Zqof (hts _ (by decide +kernel)) hini (hs _ (by decide +kernel)) (fun a ha h => absurd h (by omega)), vx_Zqof (hts _ (by decide +kernel)) hini (hs _ (by decide +kernel)) (fun a ha h => absurd h (by omega))⟩, ⟨law_str (hts _ (by decide +kernel)) (hs _ (by decide +kernel)), law_str (hts _ (by decide +kernel)) (hs _ (by decide +kernel)), law_str (hts _ (by decide +kernel)) (hs _ (by decide +kernel)), law_str (hts _ (by decide +kernel)) (hs _ (by decide +kernel))⟩, hng⟩
  have C : jC (lawX p l e s m0 below meth c b (dC, dI) cy) code 8 RL room_1 := ⟨hx, hb, hml, hown, fun w hw => hts w (big_sub hw), hK, fun q h => h, rfl, hnest⟩
  have Q0 : lawC (lawX p l e s m0 below meth c b (dC, dI) cy) b L xs := by
    refine ⟨hX, hbl, Nat.not_le.mpr hbl, rfl, Nat.lt_of_le_of_lt hL (by decide), hex, hst, ?_⟩
    intro nL k n pc Lc Λ S hk hn hdg _ hT H locs ls hP hD hS hv
    refine va_forget (fun q hq => hS.2.2 q hq) ?_
    refine W.widen hk hn ?_
    exact lw_ret hx hb hr hlocks hdg
  have hP : va_P (dC, dI) cls (pool cy lay0 st0_) s.heap := fun k q h => by simp [pool, va_pl, lay0] at h
  have hD : va_D (fun q : Nat => s.heap.size ≤ q) (pool cy lay0 st0_) := ⟨fun i j p q h => by simp [pool, va_pl, lay0] at h, fun k q h => by simp [pool, va_pl, lay0] at h⟩
  have hT : TS lay0 st0_ := ⟨fun i a b h => (by cases h), fun a k b h => (by cases h)⟩
  rw [lg_entry_eq]
  have hl := lv_entry ([vR (some b)].map jv) (n := 8) (by rw [jlen_sl]; exact Nat.le_of_ble_eq_true rfl)
  rw [← jL_args] at hl
  have main : J (lawX p l e s m0 below meth c b (dC, dI) cy) 8 0 0 0 [(0, vR (some b))] [] lay0 st0_ True := by
    refine jb_new C kK8 (big_mem 58 (by decide +kernel) (by decide +kernel)) (big_mem 59 (by decide +kernel) (by decide +kernel)) (big_mem 39 (by decide +kernel) (by decide +kernel)) jD8 ⟨Nat.le_of_ble_eq_true rfl, Nat.le_of_ble_eq_true rfl⟩ dL_law_0 (fun x hx0 => ?_)
    have e1 : lExt lay0 (lNew lay0 x 8 0) := lExt.new hx0
    have tx1 : isK (lNew lay0 x 8 0) 8 x := isK.mk
    refine j_dup C dL_law_3 rfl ?_
    refine ja_callI C [] [vR (some x)] rV_ok (c_X8_init x tx1) kYX8_init (big_mem 61 (by decide +kernel) (by decide +kernel)) (big_mem 60 (by decide +kernel) (by decide +kernel)) rfl rfl rfl ⟨rfl, rfl, Nat.le_of_ble_eq_true rfl, Nat.le_of_ble_eq_true rfl⟩ (Nat.le_of_ble_eq_true rfl) ⟨Nat.le_of_ble_eq_true rfl, Nat.le_of_ble_eq_true rfl⟩ dL_law_4 (fun _ Λ1 S1 r1 e2 _ => ?_)
    have tx2 := isK.ext e2 tx1
    refine j_astore_n C (L' := [(1, vR (some x)), (0, vR (some b))]) dL_law_7 (by decide) rfl ?_
    refine jb_new C kK9 (big_mem 882 (by decide +kernel) (by decide +kernel)) (big_mem 883 (by decide +kernel) (by decide +kernel)) (big_mem 47 (by decide +kernel) (by decide +kernel)) jD9 ⟨Nat.le_of_ble_eq_true rfl, Nat.le_of_ble_eq_true rfl⟩ dL_law_8 (fun m hm0 => ?_)
    have e3 : lExt Λ1 (lNew Λ1 m 9 0) := lExt.new hm0
    have tx3 := isK.ext e3 tx2
    have tm1 : isK (lNew Λ1 m 9 0) 9 m := isK.mk
    refine j_dup C dL_law_11 rfl ?_
    refine ja_callI C [] [vR (some m)] rV_ok (c_X9_init m tm1) kYX9_init (big_mem 885 (by decide +kernel) (by decide +kernel)) (big_mem 884 (by decide +kernel) (by decide +kernel)) rfl rfl rfl ⟨rfl, rfl, Nat.le_of_ble_eq_true rfl, Nat.le_of_ble_eq_true rfl⟩ (Nat.le_of_ble_eq_true rfl) ⟨Nat.le_of_ble_eq_true rfl, Nat.le_of_ble_eq_true rfl⟩ dL_law_12 (fun _ Λ2 S2 r2 e4 _ => ?_)
    have tx4 := isK.ext e4 tx3
    have tm2 := isK.ext e4 tm1
    refine j_astore_n C (L' := [(2, vR (some m)), (1, vR (some x)), (0, vR (some b))]) dL_law_15 (by decide) rfl ?_
    refine j_iconst C (v := (1 : Int32)) dL_law_16 (by decide) ?_
    refine jb_newJ C (len := 1) (big_mem 136 (by decide +kernel) (by decide +kernel)) (by decide) (by decide) (by decide) ⟨Nat.le_of_ble_eq_true rfl, Nat.le_of_ble_eq_true rfl⟩ dL_law_17 (fun o ho0 => ?_)
    have e5 : lExt Λ2 (lNew Λ2 o 11 1) := lExt.new ho0
    have tx5 := isK.ext e5 tx4
    have tm3 := isK.ext e5 tm2
    have to1 : isK (lNew Λ2 o 11 1) 11 o := isK.mk
    refine j_astore_n C (L' := [(3, vR (some o)), (2, vR (some m)), (1, vR (some x)), (0, vR (some b))]) dL_law_19 (by decide) rfl ?_
    refine j_iconst C (v := (0 : Int32)) dL_law_20 (by decide) ?_
    refine j_istore C (L' := [(4, vI (0 : Int32)), (3, vR (some o)), (2, vR (some m)), (1, vR (some x)), (0, vR (some b))]) dL_law_21 (by decide) rfl ?_
    refine j_sub (L' := [(0, vR (some b)), (1, vR (some x)), (2, vR (some m)), (3, vR (some o)), (4, vI (nI (7 * 0)))]) [4, 3, 2, 1, 0] rfl ?_
    exact law_loop C Q0 (Inv x m o) (Hst x m o) 64 0 _ _ _ _ (Nat.zero_le _) (by omega) (Nat.le_of_ble_eq_true rfl) (Nat.le_of_ble_eq_true rfl) tx5 tm3 to1 (h0 x m o _ _ ⟨hx0, Λ1, S1, r1, hm0, Λ2, S2, r2, ho0, rfl, rfl⟩)
  exact main trivial hT s.heap [] _ hP hD va_S.rf hl
