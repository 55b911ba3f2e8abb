/-! Numbers: what ints of small size do. -/
theorem n_gi {β : Type} {j n : Nat} {F : Option β} (h : j < n) (hn : n < 2147483648) : gi (nI j) n F = F := by
  unfold gi
  rw [if_neg (nI_in h hn)]
theorem n_cl {n : Nat} (h : n < 2147483648) : (nI n).toNatClampNeg = n := nI_clamp h
theorem n_mul (a b : Nat) : nI a * nI b = nI (a * b) := (Int32.ofNat_mul a b).symm
theorem n_m3 (b : Nat) : (3 : Int32) * nI b = nI (3 * b) := n_mul 3 b
theorem n_m6 (b : Nat) : (6 : Int32) * nI b = nI (6 * b) := n_mul 6 b
theorem n_m10 (b : Nat) : (10 : Int32) * nI b = nI (10 * b) := n_mul 10 b
theorem n_m12 (b : Nat) : (12 : Int32) * nI b = nI (12 * b) := n_mul 12 b
theorem n_m16 (b : Nat) : (16 : Int32) * nI b = nI (16 * b) := n_mul 16 b
theorem n_m700 (b : Nat) : (700 : Int32) * nI b = nI (700 * b) := n_mul 700 b
theorem n_a1 (a : Nat) : nI a + (1 : Int32) = nI (a + 1) := nI_add a 1
theorem n_a2 (a : Nat) : nI a + (2 : Int32) = nI (a + 2) := nI_add a 2
theorem n_a4 (a : Nat) : nI a + (4 : Int32) = nI (a + 4) := nI_add a 4
theorem n_a5 (a : Nat) : nI a + (5 : Int32) = nI (a + 5) := nI_add a 5
theorem n_sub {a b : Nat} (h : b ≤ a) : nI a - nI b = nI (a - b) := by
  have e : nI a = nI (a - b) + nI b := by rw [nI_add]; congr 1; omega
  rw [e, Int32.add_sub_cancel]
theorem n_s1 {a : Nat} (h : 1 ≤ a) : nI a - (1 : Int32) = nI (a - 1) := n_sub (b := 1) h
theorem n_p1 {a : Nat} (h : 1 ≤ a) : nI a + (-1 : Int32) = nI (a - 1) := by
  rw [← n_s1 h]
  exact (Int32.sub_eq_add_neg (nI a) 1).symm
theorem n_0 : nI 0 = (0 : Int32) := rfl
theorem n_le {a b : Nat} (ha : a < 2147483648) (hb : b < 2147483648) : (nI a ≤ nI b) = (a ≤ b) := propext (nI_leI ha hb)
theorem n_lt {a b : Nat} (ha : a < 2147483648) (hb : b < 2147483648) : (nI a < nI b) = (a < b) := propext (nI_ltI ha hb)
theorem n_eq {a b : Nat} (ha : a < 2147483648) (hb : b < 2147483648) : (nI a = nI b) = (a = b) := propext (nI_eq ha hb)
theorem n_le0 {a : Nat} (ha : a < 2147483648) : (nI a ≤ (0 : Int32)) = (a = 0) := by
  have h := n_le (a := a) (b := 0) ha (by omega)
  rw [n_0] at h
  rw [h]
  exact propext ⟨fun h => by omega, fun h => by omega⟩
theorem n_lt0 {a : Nat} (ha : a < 2147483648) : (nI a < (0 : Int32)) = False := eq_false (nI_pos ha)
theorem n_eq0 {a : Nat} (ha : a < 2147483648) : (nI a = (0 : Int32)) = (a = 0) := n_eq (b := 0) ha (by omega)
theorem n_ne5 {a : Nat} (ha : a < 2147483648) : (nI a = (-5 : Int32)) = False := by
  refine eq_false (fun h => ?_)
  have h1 := nI_pos ha
  rw [h] at h1
  exact h1 (by decide)
theorem n_le3 {a : Nat} (ha : a < 2147483648) : ((3 : Int32) ≤ nI a) = (3 ≤ a) := n_le (a := 3) (by omega) ha
theorem n_le16 {a : Nat} (ha : a < 2147483648) : ((16 : Int32) ≤ nI a) = (16 ≤ a) := n_le (a := 16) (by omega) ha
theorem n_le160 {a : Nat} (ha : a < 2147483648) : ((160 : Int32) ≤ nI a) = (160 ≤ a) := n_le (a := 160) (by omega) ha
theorem n_le256 {a : Nat} (ha : a < 2147483648) : ((256 : Int32) ≤ nI a) = (256 ≤ a) := n_le (a := 256) (by omega) ha
theorem n_eq3 {a : Nat} (ha : a < 2147483648) : (nI a = (3 : Int32)) = (a = 3) := n_eq (b := 3) ha (by omega)
theorem n_eq6 {a : Nat} (ha : a < 2147483648) : (nI a = (6 : Int32)) = (a = 6) := n_eq (b := 6) ha (by omega)
theorem n_eq10 {a : Nat} (ha : a < 2147483648) : (nI a = (10 : Int32)) = (a = 10) := n_eq (b := 10) ha (by omega)
theorem n_eq12 {a : Nat} (ha : a < 2147483648) : (nI a = (12 : Int32)) = (a = 12) := n_eq (b := 12) ha (by omega)
theorem n_eq16 {a : Nat} (ha : a < 2147483648) : (nI a = (16 : Int32)) = (a = 16) := n_eq (b := 16) ha (by omega)
theorem n_div (a b : Nat) (ha : a < 2147483648) (hb : b < 2147483648) : nI a / nI b = nI (a / b) := by
  refine Int32.toInt_inj.mp ?_
  have hd : a / b < 2147483648 := Nat.lt_of_le_of_lt (Nat.div_le_self a b) ha
  rw [Int32.toInt_div, nI_toInt ha, nI_toInt hb, nI_toInt hd]
  have e : (a : Int).tdiv (b : Int) = ((a / b : Nat) : Int) := by
    rw [Int.tdiv_eq_ediv_of_nonneg (by omega)]
    rfl
  rw [e]
  generalize a / b = q at hd
  rw [Int.bmod_def]
  split <;> omega
theorem n_d10 {a : Nat} (ha : a < 2147483648) : nI a / (10 : Int32) = nI (a / 10) := n_div a 10 ha (by omega)
theorem n_r10 {a : Nat} (ha : a < 2147483648) : nI a - nI (a / 10) * (10 : Int32) = nI (a % 10) := by
  rw [show (10 : Int32) = nI 10 from rfl, n_mul, n_sub (by omega)]
  congr 1
  omega
theorem n_gb0 {β : Type} {F : Option β} : gb 0 F = F := by
  unfold gb
  rw [if_pos (Or.inl rfl)]
theorem n_gb1 {β : Type} {F : Option β} : gb 1 F = F := by
  unfold gb
  rw [if_pos (Or.inr rfl)]
theorem n_gb {β : Type} {v : Int32} {F : Option β} (h : v = 0 ∨ v = 1) : gb v F = F := by
  unfold gb
  rw [if_pos h]
theorem n_and1 {v : Int32} (h : v = 0 ∨ v = 1) : v &&& 1 = v := by
  rcases h with rfl | rfl <;> rfl
/-- true and false as the machine keeps them -/
def bI (b : Bool) : Int32 := if b then 1 else 0
theorem bI_01 (b : Bool) : bI b = 0 ∨ bI b = 1 := by cases b <;> decide
theorem bI_0 (b : Bool) : (bI b = 0) = (b = false) := by cases b <;> decide
theorem pr_n {n d : Nat} (h : d < n) : ∃ u, n = u + 1 ∧ d ≤ u := ⟨n - 1, by omega, by omega⟩
theorem FU_big : FU = 4294967296 := rfl
/-- what a place in a list of the first n of something holds -/
def tab {α : Type} (n : Nat) (f : Nat → α) : List α := (List.range n).map f
theorem tab_len {α : Type} (n : Nat) (f : Nat → α) : (tab n f).length = n := by simp [tab]
theorem tab_get {α : Type} (n : Nat) (f : Nat → α) (j : Nat) : (tab n f)[j]? = if j < n then some (f j) else none := by
  simp only [tab, List.getElem?_map, List.getElem?_range']
  by_cases h : j < n
  · rw [if_pos h, List.getElem?_range h]; rfl
  · rw [if_neg h, List.getElem?_eq_none (by simp; omega)]; rfl
