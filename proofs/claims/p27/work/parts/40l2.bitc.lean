/-! How many bits. -/
def up (x : Int32) : Nat := x.toBitVec.toNat
theorem up_and (x y : Int32) : up (x &&& y) = up x &&& up y := by
  unfold up
  rw [Int32.toBitVec_and, BitVec.toNat_and]
theorem up_sub {x y : Int32} (h : up y ≤ up x) : up (x - y) = up x - up y := by
  show (x.toBitVec - y.toBitVec).toNat = _
  exact BitVec.toNat_sub_of_le h
theorem up_add {x y : Int32} (h : up x + up y < 4294967296) : up (x + y) = up x + up y := by
  show (x.toBitVec + y.toBitVec).toNat = _
  exact BitVec.toNat_add_of_lt h
theorem up_sr (n : Nat) (hn : n < 32) (x : Int32) : up (jiushr x (nI n)) = up x >>> n := by
  show (x.toUInt32 >>> ((nI n).toUInt32 &&& Int32.toUInt32 31)).toBitVec.toNat = x.toUInt32.toBitVec.toNat >>> n
  rw [UInt32.toBitVec_shiftRight]
  show (x.toUInt32.toBitVec >>> (((nI n).toUInt32 &&& Int32.toUInt32 31).toBitVec % 32).toNat).toNat = _
  rw [s_u n hn, BitVec.toNat_ushiftRight]
theorem up_nI {n : Nat} (h : n < 2147483648) : up (nI n) = n := by
  show (BitVec.ofNat 32 n).toNat = n
  rw [BitVec.toNat_ofNat, Nat.mod_eq_of_lt (by omega)]
theorem up_inj {x y : Int32} (h : up x = up y) : x = y := Int32.toBitVec_inj.mp (BitVec.eq_of_toNat_eq h)
def bc1 (w : Int32) : Int32 := w - ((jiushr w (1 : Int32)) &&& (1431655765 : Int32))
def bc2 (w : Int32) : Int32 := (w &&& (858993459 : Int32)) + ((jiushr w (2 : Int32)) &&& (858993459 : Int32))
def bc3 (w : Int32) : Int32 := (w + (jiushr w (4 : Int32))) &&& (252645135 : Int32)
def bc4 (w : Int32) : Int32 := w + (jiushr w (8 : Int32))
def bc5 (w : Int32) : Int32 := w + (jiushr w (16 : Int32))
theorem bc_eq {N : Nat → Nat} {S : sSt} {w : Int32} : F_J6_bitCount_0f7a4 N S w = some ((bc5 (bc4 (bc3 (bc2 (bc1 w))))) &&& (63 : Int32)) := rfl
def pc1 (n : Nat) : Nat := n - ((n >>> 1) &&& 1431655765)
def pc2 (n : Nat) : Nat := (n &&& 858993459) + ((n >>> 2) &&& 858993459)
def pc3 (n : Nat) : Nat := (n + (n >>> 4)) &&& 252645135
def pc4 (n : Nat) : Nat := n + (n >>> 8)
def pc5 (n : Nat) : Nat := n + (n >>> 16)
def pcN (n : Nat) : Nat := (pc5 (pc4 (pc3 (pc2 (pc1 n))))) &&& 63
def p8 (n : Nat) : Nat := cb (fun i => n.testBit i) 8
set_option maxRecDepth 100000 in
theorem pc_all : ∀ a, a < 256 → ∀ b, b < 256 → pcN (256 * a + b) = p8 a + p8 b := by decide +kernel
theorem sr_le (n k : Nat) : n >>> k ≤ n := by
  rw [Nat.shiftRight_eq_div_pow]
  exact Nat.div_le_self _ _
theorem up_bc1 {w : Int32} : up (bc1 w) = pc1 (up w) ∧ pc1 (up w) ≤ up w := by
  have e1 : up (jiushr w (1 : Int32)) = up w >>> 1 := up_sr 1 (by omega) w
  have e2 : up ((jiushr w (1 : Int32)) &&& (1431655765 : Int32)) = (up w >>> 1) &&& 1431655765 := by rw [up_and, e1]; rfl
  refine ⟨?_, Nat.sub_le _ _⟩
  show up (w - ((jiushr w (1 : Int32)) &&& (1431655765 : Int32))) = _
  rw [up_sub (by rw [e2]; exact Nat.le_trans Nat.and_le_left (sr_le _ _)), e2]
  rfl
theorem up_bc2 {w : Int32} (h : up w < 1073741824) : up (bc2 w) = pc2 (up w) ∧ pc2 (up w) ≤ 2 * up w := by
  have e1 : up (jiushr w (2 : Int32)) = up w >>> 2 := up_sr 2 (by omega) w
  have e2 : up ((jiushr w (2 : Int32)) &&& (858993459 : Int32)) = (up w >>> 2) &&& 858993459 := by rw [up_and, e1]; rfl
  have e3 : up (w &&& (858993459 : Int32)) = up w &&& 858993459 := by rw [up_and]; rfl
  have l1 : (up w >>> 2) &&& 858993459 ≤ up w := Nat.le_trans Nat.and_le_left (sr_le _ _)
  have l2 : up w &&& 858993459 ≤ up w := Nat.and_le_left
  refine ⟨?_, by show (up w &&& 858993459) + ((up w >>> 2) &&& 858993459) ≤ _; omega⟩
  show up ((w &&& (858993459 : Int32)) + ((jiushr w (2 : Int32)) &&& (858993459 : Int32))) = _
  rw [up_add (by rw [e2, e3]; omega), e2, e3]
  rfl
theorem up_bc3 {w : Int32} (h : up w < 1073741824) : up (bc3 w) = pc3 (up w) ∧ pc3 (up w) ≤ 2 * up w := by
  have e1 : up (jiushr w (4 : Int32)) = up w >>> 4 := up_sr 4 (by omega) w
  have l1 := sr_le (up w) 4
  have e2 : up (w + jiushr w (4 : Int32)) = up w + up w >>> 4 := by rw [up_add (by rw [e1]; omega), e1]
  have l2 : (up w + up w >>> 4) &&& 252645135 ≤ up w + up w >>> 4 := Nat.and_le_left
  refine ⟨?_, by show (up w + up w >>> 4) &&& 252645135 ≤ _; omega⟩
  show up ((w + jiushr w (4 : Int32)) &&& (252645135 : Int32)) = _
  rw [up_and, e2]
  rfl
theorem up_bc4 {w : Int32} (h : up w < 1073741824) : up (bc4 w) = pc4 (up w) ∧ pc4 (up w) ≤ 2 * up w := by
  have e1 : up (jiushr w (8 : Int32)) = up w >>> 8 := up_sr 8 (by omega) w
  have l1 := sr_le (up w) 8
  refine ⟨?_, by show up w + up w >>> 8 ≤ _; omega⟩
  show up (w + jiushr w (8 : Int32)) = _
  rw [up_add (by rw [e1]; omega), e1]
  rfl
theorem up_bc5 {w : Int32} (h : up w < 1073741824) : up (bc5 w) = pc5 (up w) ∧ pc5 (up w) ≤ 2 * up w := by
  have e1 : up (jiushr w (16 : Int32)) = up w >>> 16 := up_sr 16 (by omega) w
  have l1 := sr_le (up w) 16
  refine ⟨?_, by show up w + up w >>> 16 ≤ _; omega⟩
  show up (w + jiushr w (16 : Int32)) = _
  rw [up_add (by rw [e1]; omega), e1]
  rfl
theorem cb_add {f : Nat → Bool} {a : Nat} : ∀ b, cb f (a + b) = cb f a + cb (fun i => f (a + i)) b
  | 0 => rfl
  | b + 1 => by
    show cb f (a + b) + (if f (a + b) = true then 1 else 0) = cb f a + (cb (fun i => f (a + i)) b + (if f (a + b) = true then 1 else 0))
    rw [cb_add b]
    omega
theorem pc_bits {n : Nat} (h : n < 65536) : pcN n = cb (fun i => n.testBit i) 16 := by
  have e : n = 256 * (n / 256) + n % 256 := by omega
  have t : ∀ j, n.testBit j = if j < 8 then (n % 256).testBit j else (n / 256).testBit (j - 8) := fun j => by
    have z := Nat.testBit_two_pow_mul_add (n / 256) (b := n % 256) (i := 8) (by omega) j
    rw [show 2 ^ 8 * (n / 256) + n % 256 = n by omega] at z
    exact z
  have z := pc_all (n / 256) (by omega) (n % 256) (by omega)
  rw [← e] at z
  have e1 : cb (fun i => n.testBit i) 8 = p8 (n % 256) := cb_eq 8 (fun i hi => by
    show n.testBit i = (n % 256).testBit i
    rw [t, if_pos hi])
  have e2 : cb (fun i => n.testBit (8 + i)) 8 = p8 (n / 256) := cb_eq 8 (fun i hi => by
    show n.testBit (8 + i) = (n / 256).testBit i
    rw [t, if_neg (by omega), Nat.add_sub_cancel_left])
  rw [z, show (16 : Nat) = 8 + 8 from rfl, cb_add 8, e1, e2]
  exact Nat.add_comm _ _
theorem bc_val {N : Nat → Nat} {S : sSt} {w : Int32} {f : Nat → Bool} (h : hb w f) (h16 : ∀ i, 16 ≤ i → f i = false) : F_J6_bitCount_0f7a4 N S w = some (nI (cb f 16)) := by
  have tb : ∀ i, i < 32 → (up w).testBit i = f i := fun i hi => h i hi
  have hw : up w < 65536 := Nat.lt_pow_two_of_testBit (n := 16) (up w) (fun i hi => by
    rcases Nat.lt_or_ge i 32 with c | c
    · rw [tb i c]
      exact h16 i hi
    · exact b_big c)
  have s1 := up_bc1 (w := w)
  have s2 := up_bc2 (w := bc1 w) (by rw [s1.1]; omega)
  rw [s1.1] at s2
  have s3 := up_bc3 (w := bc2 (bc1 w)) (by rw [s2.1]; omega)
  rw [s2.1] at s3
  have s4 := up_bc4 (w := bc3 (bc2 (bc1 w))) (by rw [s3.1]; omega)
  rw [s3.1] at s4
  have s5 := up_bc5 (w := bc4 (bc3 (bc2 (bc1 w)))) (by rw [s4.1]; omega)
  rw [s4.1] at s5
  have z : pcN (up w) = cb f 16 := by
    rw [pc_bits hw]
    exact cb_eq 16 (fun i hi => tb i (by omega))
  have lc := cb_le (f := f) 16
  rw [bc_eq]
  congr 1
  refine up_inj ?_
  rw [up_and, s5.1, up_nI (by omega), ← z]
  rfl
