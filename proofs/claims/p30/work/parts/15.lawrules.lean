/-! The law's walk: its script lies outside the pool. -/
def lawC (X : jX) (b L : Nat) (sc : Nat → Int32) : Prop :=
  va_X b L sc (xs X) (xs X).heap ∧ b < (xs X).heap.size ∧ ¬ xA X b ∧ xH X = (xs X).heap ∧ L < 2 ^ 31 ∧ exOk (xA X) (xs X) ∧ (xl X).stackTraces = false ∧
  (∀ (nL k n pc : Nat) (Lc : List (Nat × jV)) (Λ : sLay) (S : sSt), k ≤ 600384 → n ≤ 7289322 → decode code pc = .ok (.ireturn, 1) → J X nL k n pc Lc [vI 1] Λ S True)
theorem lg_cmp_self (x : Int64) : lg_cmp x x = 0 := by
  unfold lg_cmp
  have h : ¬ x > x := Int64.lt_irrefl
  rw [if_neg h, if_pos rfl]
section
variable {X : jX} {cc : ByteArray} {nL k n pc : Nat} {own : String} {R : Room} {Lc L' : List (Nat × jV)} {st : List jV} {Λ : sLay} {S : sSt} {φ φ1 φ2 : Prop} {b L : Nat} {sc : Nat → Int32}
theorem jl_sld (C : jC X cc nL own R) (Q : lawC X b L sc) {v : Int32} {j : Nat} (hv0 : v = nI j) (hj : j < L) (hdg : decode cc pc = .ok (.iaload, 1)) (kk : J X nL k n (pc + 1) Lc (vI (sc j) :: st) Λ S φ) : J X nL k n pc Lc (vI v :: vR (some b) :: st) Λ S φ := by
  intro h hT H locs ls hP hD hS hv
  obtain ⟨hX, hb1, hbA, hH, hL, -⟩ := Q
  have hS2 := hS
  rw [hH] at hS2
  subst hv0
  have hin : vp_in (nI j) L := vp_in_nI hj hL
  have hk := kk h hT H locs ls hP hD hS hv
  have e : (nI j).toNatClampNeg = j := nI_clamp (by omega)
  refine va_sld C.1 C.2.1 hX hb1 hbA hS2 hin hdg ?_
  rw [e]
  exact hk
theorem jl_slen (C : jC X cc nL own R) (Q : lawC X b L sc) (hdg : decode cc pc = .ok (.arraylength, 1)) (kk : J X nL k n (pc + 1) Lc (vI (nI L) :: st) Λ S φ) : J X nL k n pc Lc (vR (some b) :: st) Λ S φ := by
  intro h hT H locs ls hP hD hS hv
  obtain ⟨hX, hb1, hbA, hH, hL, -⟩ := Q
  have hS2 := hS
  rw [hH] at hS2
  exact va_slen C.1 C.2.1 hX hb1 hbA hS2 hdg (kk h hT H locs ls hP hD hS hv)
theorem jl_pop2 (C : jC X cc nL own R) {v : Int64} (hdg : decode cc pc = .ok (.pop2, 1)) (kk : J X nL k n (pc + 1) Lc st Λ S φ) : J X nL k n pc Lc (vJ v :: st) Λ S φ := fun h hT H locs ls hP hD hS hv => lv_pop2_2 C.1 C.2.1 hdg rfl (kk h hT H locs ls hP hD hS hv)
theorem jx_callSH {β : Type} (C : jC X cc nL own R) {K : jR β} {y : MethodName} {bb : ByteArray} {nY np idx : Nat} {ret : Option FieldType} {hh : List (Nat × Nat × Nat × Nat)} {rmY : Room} (As rest : List jV) {v : β} {S1 : sSt} (hK : jRok K) (hH : xH X = (xs X).heap) (hex : exOk (xA X) (xs X))
    (hM : jMx (xl X) y (Cond.codeWith y bb nY ret hh :: bigW) rmY (xD X) (xy X) Λ S As K (.inr v, S1))
    (hco : Cond.codeWith y bb nY ret hh ∈ bigW) (hini : Cond.initialized y.cls ∈ bigW) (hd : y.cls ≠ "java/lang/invoke/MethodHandle" ∧ y.cls ≠ "java/lang/invoke/VarHandle" ∧ (parseMethodDescriptor y.desc).map (fun d => d.parameters.length) = some np) (hs : Cond.static y ∈ bigW) (hl : Cond.methodLink own idx y ∈ bigW) (hn : As.length = np) (hst : st = As.reverse ++ rest) (hR : rmY.cells = 1 ∧ rmY.slots = 8 ∧ rmY.frames + 1 ≤ R.frames ∧ 8 + (nY + 11) + rmY.locals ≤ R.locals) (hroom : jsum rest ≤ 8) (hc : k + 1 ≤ R.cells ∧ n + 8 ≤ R.slots) (hdg : decode cc pc = .ok (.invokestatic idx, 3))
    (kk : K.2.2 Λ v → J X nL (k + 1) (n + 8) (pc + 3) Lc (K.2.1 v ++ rest) Λ S1 φ) : J X nL k n pc Lc st Λ S φ := by
  intro h hT H locs ls hP hD hS hv
  subst hst
  have hR' : xR X = R := C.2.2.2.2.2.2.2.1
  have hG : GoodIn bigW (va_wsS own idx y (Cond.codeWith y bb nY ret hh :: bigW)) := by
    refine big_in (fun w hw => ?_)
    unfold va_wsS at hw
    rcases List.mem_append.mp hw with h | h
    · simp only [List.mem_cons, List.not_mem_nil, or_false] at h
      rcases h with rfl | rfl | rfl
      · exact hl
      · exact hs
      · exact hini
    · rcases List.mem_cons.mp h with rfl | h
      · exact hco
      · exact h
  have hcw : vx_CSW (xR X) (xs X) (xa X) own idx y bb nY ret hh (Cond.codeWith y bb nY ret hh :: bigW) rmY 1 8 np := by
    rw [hR']
    exact vx_cwSW np C.2.2.2.2.1 hG rfl hR.1 hR.2.1 hd hR.2.2
  exact jx_back C hK (vx_runSX (As := As.map jv) (rest := rest.map jv) (own := own) ⟨C.1, C.2.1, C.2.2.1, C.2.2.2.1, C.2.2.2.2.1⟩ (hM H.size) hcw ⟨jXPre_blind, fun U hU hW => ⟨rfl, jXPre_of C hH hex hP hD hS hT U hU hW⟩⟩ rfl (by simpa using hn) hv.1 (by simp [List.map_append, List.map_reverse]) (lv_room (by rw [jsum_map]; exact hroom)) hdg (by rw [hR']; exact hc)) hD hS hv (fun w hw hk => by cases hw; exact kk hk) (fun E hE => by cases hE) h
end
/-- a mask of five bits -/
theorem and31 (x : Int32) : ∃ k : Nat, k < 32 ∧ x &&& 31 = nI k := by
  refine ⟨(x &&& 31).toBitVec.toNat, ?_, ?_⟩
  · have e : (x &&& 31).toBitVec = x.toBitVec &&& 31#32 := rfl
    rw [e, BitVec.toNat_and]
    exact Nat.lt_of_le_of_lt Nat.and_le_right (by decide)
  · apply Int32.toBitVec_inj.mp
    show (x &&& 31).toBitVec = (Int32.ofNat _).toBitVec
    rw [Int32.toBitVec_ofNat']
    simp
