/-! The store of class and reference together: fields by number (40 * kind + place) and address, arrays by address and place; the layout: addresses, kinds, lengths. -/
abbrev sLay : Type := List Nat × (Nat → Nat) × (Nat → Nat)
abbrev sSt : Type := (Nat → Nat → Int32) × (Nat → Nat → Int64) × (Nat → Nat → Option Nat) × (Nat → Nat → Int32) × (Nat → Nat → Int64) × (Nat → Nat → Option Nat)
def u2 {α : Type} (f : Nat → Nat → α) (i a : Nat) (v : α) : Nat → Nat → α := fun j b => if j = i ∧ b = a then v else f j b
def gFI (S : sSt) (i a : Nat) : Int32 := S.1 i a
def gFJ (S : sSt) (i a : Nat) : Int64 := S.2.1 i a
def gFR (S : sSt) (i a : Nat) : Option Nat := S.2.2.1 i a
def gAI (S : sSt) (a k : Nat) : Int32 := S.2.2.2.1 a k
def gAJ (S : sSt) (a k : Nat) : Int64 := S.2.2.2.2.1 a k
def gAR (S : sSt) (a k : Nat) : Option Nat := S.2.2.2.2.2 a k
def sFI (S : sSt) (i a : Nat) (v : Int32) : sSt := (u2 S.1 i a v, S.2)
def sFJ (S : sSt) (i a : Nat) (v : Int64) : sSt := (S.1, u2 S.2.1 i a v, S.2.2)
def sFR (S : sSt) (i a : Nat) (v : Option Nat) : sSt := (S.1, S.2.1, u2 S.2.2.1 i a v, S.2.2.2)
def sAI (S : sSt) (a k : Nat) (v : Int32) : sSt := (S.1, S.2.1, S.2.2.1, u2 S.2.2.2.1 a k v, S.2.2.2.2)
def sAJ (S : sSt) (a k : Nat) (v : Int64) : sSt := (S.1, S.2.1, S.2.2.1, S.2.2.2.1, u2 S.2.2.2.2.1 a k v, S.2.2.2.2.2)
def sAR (S : sSt) (a k : Nat) (v : Option Nat) : sSt := (S.1, S.2.1, S.2.2.1, S.2.2.2.1, S.2.2.2.2.1, u2 S.2.2.2.2.2 a k v)
theorem gFI_sFI (S : sSt) (i a j b : Nat) (v : Int32) : gFI (sFI S i a v) j b = if j = i ∧ b = a then v else gFI S j b := rfl
theorem gFJ_sFI (S : sSt) (i a j b : Nat) (v : Int32) : gFJ (sFI S i a v) j b = gFJ S j b := rfl
theorem gFR_sFI (S : sSt) (i a j b : Nat) (v : Int32) : gFR (sFI S i a v) j b = gFR S j b := rfl
theorem gAI_sFI (S : sSt) (i a j b : Nat) (v : Int32) : gAI (sFI S i a v) j b = gAI S j b := rfl
theorem gAJ_sFI (S : sSt) (i a j b : Nat) (v : Int32) : gAJ (sFI S i a v) j b = gAJ S j b := rfl
theorem gAR_sFI (S : sSt) (i a j b : Nat) (v : Int32) : gAR (sFI S i a v) j b = gAR S j b := rfl
theorem gFI_sFJ (S : sSt) (i a j b : Nat) (v : Int64) : gFI (sFJ S i a v) j b = gFI S j b := rfl
theorem gFJ_sFJ (S : sSt) (i a j b : Nat) (v : Int64) : gFJ (sFJ S i a v) j b = if j = i ∧ b = a then v else gFJ S j b := rfl
theorem gFR_sFJ (S : sSt) (i a j b : Nat) (v : Int64) : gFR (sFJ S i a v) j b = gFR S j b := rfl
theorem gAI_sFJ (S : sSt) (i a j b : Nat) (v : Int64) : gAI (sFJ S i a v) j b = gAI S j b := rfl
theorem gAJ_sFJ (S : sSt) (i a j b : Nat) (v : Int64) : gAJ (sFJ S i a v) j b = gAJ S j b := rfl
theorem gAR_sFJ (S : sSt) (i a j b : Nat) (v : Int64) : gAR (sFJ S i a v) j b = gAR S j b := rfl
theorem gFI_sFR (S : sSt) (i a j b : Nat) (v : Option Nat) : gFI (sFR S i a v) j b = gFI S j b := rfl
theorem gFJ_sFR (S : sSt) (i a j b : Nat) (v : Option Nat) : gFJ (sFR S i a v) j b = gFJ S j b := rfl
theorem gFR_sFR (S : sSt) (i a j b : Nat) (v : Option Nat) : gFR (sFR S i a v) j b = if j = i ∧ b = a then v else gFR S j b := rfl
theorem gAI_sFR (S : sSt) (i a j b : Nat) (v : Option Nat) : gAI (sFR S i a v) j b = gAI S j b := rfl
theorem gAJ_sFR (S : sSt) (i a j b : Nat) (v : Option Nat) : gAJ (sFR S i a v) j b = gAJ S j b := rfl
theorem gAR_sFR (S : sSt) (i a j b : Nat) (v : Option Nat) : gAR (sFR S i a v) j b = gAR S j b := rfl
theorem gFI_sAI (S : sSt) (i a j b : Nat) (v : Int32) : gFI (sAI S i a v) j b = gFI S j b := rfl
theorem gFJ_sAI (S : sSt) (i a j b : Nat) (v : Int32) : gFJ (sAI S i a v) j b = gFJ S j b := rfl
theorem gFR_sAI (S : sSt) (i a j b : Nat) (v : Int32) : gFR (sAI S i a v) j b = gFR S j b := rfl
theorem gAI_sAI (S : sSt) (i a j b : Nat) (v : Int32) : gAI (sAI S i a v) j b = if j = i ∧ b = a then v else gAI S j b := rfl
theorem gAJ_sAI (S : sSt) (i a j b : Nat) (v : Int32) : gAJ (sAI S i a v) j b = gAJ S j b := rfl
theorem gAR_sAI (S : sSt) (i a j b : Nat) (v : Int32) : gAR (sAI S i a v) j b = gAR S j b := rfl
theorem gFI_sAJ (S : sSt) (i a j b : Nat) (v : Int64) : gFI (sAJ S i a v) j b = gFI S j b := rfl
theorem gFJ_sAJ (S : sSt) (i a j b : Nat) (v : Int64) : gFJ (sAJ S i a v) j b = gFJ S j b := rfl
theorem gFR_sAJ (S : sSt) (i a j b : Nat) (v : Int64) : gFR (sAJ S i a v) j b = gFR S j b := rfl
theorem gAI_sAJ (S : sSt) (i a j b : Nat) (v : Int64) : gAI (sAJ S i a v) j b = gAI S j b := rfl
theorem gAJ_sAJ (S : sSt) (i a j b : Nat) (v : Int64) : gAJ (sAJ S i a v) j b = if j = i ∧ b = a then v else gAJ S j b := rfl
theorem gAR_sAJ (S : sSt) (i a j b : Nat) (v : Int64) : gAR (sAJ S i a v) j b = gAR S j b := rfl
theorem gFI_sAR (S : sSt) (i a j b : Nat) (v : Option Nat) : gFI (sAR S i a v) j b = gFI S j b := rfl
theorem gFJ_sAR (S : sSt) (i a j b : Nat) (v : Option Nat) : gFJ (sAR S i a v) j b = gFJ S j b := rfl
theorem gFR_sAR (S : sSt) (i a j b : Nat) (v : Option Nat) : gFR (sAR S i a v) j b = gFR S j b := rfl
theorem gAI_sAR (S : sSt) (i a j b : Nat) (v : Option Nat) : gAI (sAR S i a v) j b = gAI S j b := rfl
theorem gAJ_sAR (S : sSt) (i a j b : Nat) (v : Option Nat) : gAJ (sAR S i a v) j b = gAJ S j b := rfl
theorem gAR_sAR (S : sSt) (i a j b : Nat) (v : Option Nat) : gAR (sAR S i a v) j b = if j = i ∧ b = a then v else gAR S j b := rfl
/-- the kind of what a field of references holds -/
def rk : Nat → Nat := fun i => match i with
  | 0 => 13
  | 2 => 13
  | 40 => 10
  | 80 => 10
  | 81 => 10
  | 82 => 1
  | 120 => 11
  | 160 => 3
  | 161 => 3
  | 201 => 1
  | 241 => 1
  | 242 => 1
  | 243 => 3
  | 244 => 13
  | 246 => 1
  | 280 => 14
  | 320 => 7
  | 321 => 0
  | 322 => 4
  | 323 => 2
  | 362 => 12
  | 363 => 10
  | 364 => 10
  | 365 => 11
  | 366 => 12
  | 367 => 10
  | 368 => 10
  | 369 => 10
  | 370 => 10
  | 371 => 10
  | 372 => 10
  | 373 => 12
  | 374 => 10
  | 375 => 11
  | 376 => 10
  | 377 => 10
  | 379 => 10
  | 380 => 12
  | 381 => 11
  | 382 => 10
  | 383 => 12
  | 385 => 10
  | 386 => 10
  | 387 => 11
  | 389 => 10
  | 390 => 12
  | 391 => 10
  | 392 => 10
  | 395 => 12
  | _ => 99
def ek : Nat → Nat := fun i => match i with
  | 13 => 5
  | 14 => 6
  | _ => 99
/-- an address of a kind -/
def isK (Λ : sLay) (q a : Nat) : Prop := a ∈ Λ.1 ∧ Λ.2.1 a = q
/-- null or an address of a kind -/
def okK (Λ : sLay) (q : Nat) (x : Option Nat) : Prop := ∀ a, x = some a → isK Λ q a
/-- the store's references are of their kinds -/
def TS (Λ : sLay) (S : sSt) : Prop := (∀ i a, okK Λ (rk i) (gFR S i a)) ∧ (∀ a k, okK Λ (ek (Λ.2.1 a)) (gAR S a k))
theorem TS.sFI {Λ : sLay} {S : sSt} (h : TS Λ S) (i a : Nat) (v : Int32) : TS Λ (sFI S i a v) := h
theorem TS.sFJ {Λ : sLay} {S : sSt} (h : TS Λ S) (i a : Nat) (v : Int64) : TS Λ (sFJ S i a v) := h
theorem TS.sAI {Λ : sLay} {S : sSt} (h : TS Λ S) (i a : Nat) (v : Int32) : TS Λ (sAI S i a v) := h
theorem TS.sAJ {Λ : sLay} {S : sSt} (h : TS Λ S) (i a : Nat) (v : Int64) : TS Λ (sAJ S i a v) := h
theorem TS.sFR {Λ : sLay} {S : sSt} (h : TS Λ S) (i a : Nat) (v : Option Nat) (hv : okK Λ (rk i) v) : TS Λ (sFR S i a v) := by
  refine ⟨fun j b => ?_, h.2⟩
  rw [gFR_sFR]
  by_cases e : j = i ∧ b = a
  · rw [if_pos e, e.1]; exact hv
  · rw [if_neg e]; exact h.1 j b
theorem TS.sAR {Λ : sLay} {S : sSt} (h : TS Λ S) (a k : Nat) (v : Option Nat) (hv : okK Λ (ek (Λ.2.1 a)) v) : TS Λ (sAR S a k v) := by
  refine ⟨h.1, fun b j => ?_⟩
  rw [gAR_sAR]
  by_cases e : b = a ∧ j = k
  · rw [if_pos e, e.1]; exact hv
  · rw [if_neg e]; exact h.2 b j
/-- what lies at an address -/
def ent (cy : Nat → ClassId) (Λ : sLay) (S : sSt) (a : Nat) : va_E := match Λ.2.1 a with
  | 0 => .inr (0, [va_rf (gFR S 0 a), .int (gFI S 1 a), va_rf (gFR S 2 a), .int (gFI S 3 a)])
  | 1 => .inr (1, [va_rf (gFR S 40 a), .int (gFI S 41 a)])
  | 2 => .inr (2, [va_rf (gFR S 80 a), va_rf (gFR S 81 a), va_rf (gFR S 82 a), .int (gFI S 83 a), .int (gFI S 84 a)])
  | 3 => .inr (3, [va_rf (gFR S 120 a), .int (gFI S 121 a), .int (gFI S 122 a), .int (gFI S 123 a), .int (gFI S 124 a), .int (gFI S 125 a)])
  | 4 => .inr (4, [va_rf (gFR S 160 a), va_rf (gFR S 161 a)])
  | 5 => .inr (5, [.int (gFI S 200 a), va_rf (gFR S 201 a), .int (gFI S 202 a), .long (gFJ S 203 a), .int (gFI S 204 a), .int (gFI S 205 a), .long (gFJ S 206 a), .int (gFI S 207 a), .int (gFI S 208 a), .int (gFI S 209 a)])
  | 6 => .inr (6, [.int (gFI S 240 a), va_rf (gFR S 241 a), va_rf (gFR S 242 a), va_rf (gFR S 243 a), va_rf (gFR S 244 a), .int (gFI S 245 a), va_rf (gFR S 246 a), .int (gFI S 247 a), .int (gFI S 248 a), .int (gFI S 249 a), .int (gFI S 250 a)])
  | 7 => .inr (7, [va_rf (gFR S 280 a), .int (gFI S 281 a)])
  | 8 => .inr (8, [va_rf (gFR S 320 a), va_rf (gFR S 321 a), va_rf (gFR S 322 a), va_rf (gFR S 323 a), .int (gFI S 324 a)])
  | 9 => .inr (9, [.int (gFI S 360 a), .int (gFI S 361 a), va_rf (gFR S 362 a), va_rf (gFR S 363 a), va_rf (gFR S 364 a), va_rf (gFR S 365 a), va_rf (gFR S 366 a), va_rf (gFR S 367 a), va_rf (gFR S 368 a), va_rf (gFR S 369 a), va_rf (gFR S 370 a), va_rf (gFR S 371 a), va_rf (gFR S 372 a), va_rf (gFR S 373 a), va_rf (gFR S 374 a), va_rf (gFR S 375 a), va_rf (gFR S 376 a), va_rf (gFR S 377 a), .int (gFI S 378 a), va_rf (gFR S 379 a), va_rf (gFR S 380 a), va_rf (gFR S 381 a), va_rf (gFR S 382 a), va_rf (gFR S 383 a), .int (gFI S 384 a), va_rf (gFR S 385 a), va_rf (gFR S 386 a), va_rf (gFR S 387 a), .int (gFI S 388 a), va_rf (gFR S 389 a), va_rf (gFR S 390 a), va_rf (gFR S 391 a), va_rf (gFR S 392 a), .int (gFI S 393 a), .int (gFI S 394 a), va_rf (gFR S 395 a)])
  | 10 => .inl (cy 0, Λ.2.2 a, .inl (gAI S a))
  | 11 => .inl (cy 1, Λ.2.2 a, .inr (.inl (gAJ S a)))
  | 12 => .inl (cy 2, Λ.2.2 a, .inl (gAI S a))
  | 13 => .inl (cy 3, Λ.2.2 a, .inr (.inr (.inr (.inr (gAR S a)))))
  | _ => .inl (cy 4, Λ.2.2 a, .inr (.inr (.inr (.inr (gAR S a)))))
theorem ent_0 {cy : Nat → ClassId} {Λ : sLay} {S : sSt} {a : Nat} (h : Λ.2.1 a = 0) : ent cy Λ S a = .inr (0, [va_rf (gFR S 0 a), .int (gFI S 1 a), va_rf (gFR S 2 a), .int (gFI S 3 a)]) := by unfold ent; rw [h]; rfl
theorem ent_1 {cy : Nat → ClassId} {Λ : sLay} {S : sSt} {a : Nat} (h : Λ.2.1 a = 1) : ent cy Λ S a = .inr (1, [va_rf (gFR S 40 a), .int (gFI S 41 a)]) := by unfold ent; rw [h]; rfl
theorem ent_2 {cy : Nat → ClassId} {Λ : sLay} {S : sSt} {a : Nat} (h : Λ.2.1 a = 2) : ent cy Λ S a = .inr (2, [va_rf (gFR S 80 a), va_rf (gFR S 81 a), va_rf (gFR S 82 a), .int (gFI S 83 a), .int (gFI S 84 a)]) := by unfold ent; rw [h]; rfl
theorem ent_3 {cy : Nat → ClassId} {Λ : sLay} {S : sSt} {a : Nat} (h : Λ.2.1 a = 3) : ent cy Λ S a = .inr (3, [va_rf (gFR S 120 a), .int (gFI S 121 a), .int (gFI S 122 a), .int (gFI S 123 a), .int (gFI S 124 a), .int (gFI S 125 a)]) := by unfold ent; rw [h]; rfl
theorem ent_4 {cy : Nat → ClassId} {Λ : sLay} {S : sSt} {a : Nat} (h : Λ.2.1 a = 4) : ent cy Λ S a = .inr (4, [va_rf (gFR S 160 a), va_rf (gFR S 161 a)]) := by unfold ent; rw [h]; rfl
theorem ent_5 {cy : Nat → ClassId} {Λ : sLay} {S : sSt} {a : Nat} (h : Λ.2.1 a = 5) : ent cy Λ S a = .inr (5, [.int (gFI S 200 a), va_rf (gFR S 201 a), .int (gFI S 202 a), .long (gFJ S 203 a), .int (gFI S 204 a), .int (gFI S 205 a), .long (gFJ S 206 a), .int (gFI S 207 a), .int (gFI S 208 a), .int (gFI S 209 a)]) := by unfold ent; rw [h]; rfl
theorem ent_6 {cy : Nat → ClassId} {Λ : sLay} {S : sSt} {a : Nat} (h : Λ.2.1 a = 6) : ent cy Λ S a = .inr (6, [.int (gFI S 240 a), va_rf (gFR S 241 a), va_rf (gFR S 242 a), va_rf (gFR S 243 a), va_rf (gFR S 244 a), .int (gFI S 245 a), va_rf (gFR S 246 a), .int (gFI S 247 a), .int (gFI S 248 a), .int (gFI S 249 a), .int (gFI S 250 a)]) := by unfold ent; rw [h]; rfl
theorem ent_7 {cy : Nat → ClassId} {Λ : sLay} {S : sSt} {a : Nat} (h : Λ.2.1 a = 7) : ent cy Λ S a = .inr (7, [va_rf (gFR S 280 a), .int (gFI S 281 a)]) := by unfold ent; rw [h]; rfl
theorem ent_8 {cy : Nat → ClassId} {Λ : sLay} {S : sSt} {a : Nat} (h : Λ.2.1 a = 8) : ent cy Λ S a = .inr (8, [va_rf (gFR S 320 a), va_rf (gFR S 321 a), va_rf (gFR S 322 a), va_rf (gFR S 323 a), .int (gFI S 324 a)]) := by unfold ent; rw [h]; rfl
theorem ent_9 {cy : Nat → ClassId} {Λ : sLay} {S : sSt} {a : Nat} (h : Λ.2.1 a = 9) : ent cy Λ S a = .inr (9, [.int (gFI S 360 a), .int (gFI S 361 a), va_rf (gFR S 362 a), va_rf (gFR S 363 a), va_rf (gFR S 364 a), va_rf (gFR S 365 a), va_rf (gFR S 366 a), va_rf (gFR S 367 a), va_rf (gFR S 368 a), va_rf (gFR S 369 a), va_rf (gFR S 370 a), va_rf (gFR S 371 a), va_rf (gFR S 372 a), va_rf (gFR S 373 a), va_rf (gFR S 374 a), va_rf (gFR S 375 a), va_rf (gFR S 376 a), va_rf (gFR S 377 a), .int (gFI S 378 a), va_rf (gFR S 379 a), va_rf (gFR S 380 a), va_rf (gFR S 381 a), va_rf (gFR S 382 a), va_rf (gFR S 383 a), .int (gFI S 384 a), va_rf (gFR S 385 a), va_rf (gFR S 386 a), va_rf (gFR S 387 a), .int (gFI S 388 a), va_rf (gFR S 389 a), va_rf (gFR S 390 a), va_rf (gFR S 391 a), va_rf (gFR S 392 a), .int (gFI S 393 a), .int (gFI S 394 a), va_rf (gFR S 395 a)]) := by unfold ent; rw [h]; rfl
theorem ent_10 {cy : Nat → ClassId} {Λ : sLay} {S : sSt} {a : Nat} (h : Λ.2.1 a = 10) : ent cy Λ S a = .inl (cy 0, Λ.2.2 a, .inl (gAI S a)) := by unfold ent; rw [h]; rfl
theorem ent_11 {cy : Nat → ClassId} {Λ : sLay} {S : sSt} {a : Nat} (h : Λ.2.1 a = 11) : ent cy Λ S a = .inl (cy 1, Λ.2.2 a, .inr (.inl (gAJ S a))) := by unfold ent; rw [h]; rfl
theorem ent_12 {cy : Nat → ClassId} {Λ : sLay} {S : sSt} {a : Nat} (h : Λ.2.1 a = 12) : ent cy Λ S a = .inl (cy 2, Λ.2.2 a, .inl (gAI S a)) := by unfold ent; rw [h]; rfl
theorem ent_13 {cy : Nat → ClassId} {Λ : sLay} {S : sSt} {a : Nat} (h : Λ.2.1 a = 13) : ent cy Λ S a = .inl (cy 3, Λ.2.2 a, .inr (.inr (.inr (.inr (gAR S a))))) := by unfold ent; rw [h]; rfl
theorem ent_14 {cy : Nat → ClassId} {Λ : sLay} {S : sSt} {a : Nat} (h : Λ.2.1 a = 14) : ent cy Λ S a = .inl (cy 4, Λ.2.2 a, .inr (.inr (.inr (.inr (gAR S a))))) := by unfold ent; rw [h]; rfl
def pool (cy : Nat → ClassId) (Λ : sLay) (S : sSt) : va_W := va_pl Λ.1 (ent cy Λ S)
abbrev cls : List vw_C := [(RX0, TX0, 4), (RX1, TX1, 2), (RX2, TX2, 5), (RX3, TX3, 6), (RX4, TX4, 2), (RX5, TX5, 10), (RX6, TX6, 11), (RX7, TX7, 2), (RX8, TX8, 5), (RX9, TX9, 36)]
abbrev tys (cy : Nat → ClassId) : List (ClassId × FieldType) := [(cy 0, .int), (cy 1, .long), (cy 2, .boolean), (cy 3, .object RX5), (cy 4, .object RX6)]
theorem ent_sFI_ne {cy : Nat → ClassId} {Λ : sLay} {S : sSt} {i a : Nat} {v : Int32} {b : Nat} (hb : b ≠ a) : ent cy Λ (sFI S i a v) b = ent cy Λ S b := by
  have h : ∀ j, gFI (sFI S i a v) j b = gFI S j b := fun j => by rw [gFI_sFI, if_neg (fun h => hb h.2)]
  simp only [ent, h, gFJ_sFI, gFR_sFI]
  rfl
theorem ent_sFJ_ne {cy : Nat → ClassId} {Λ : sLay} {S : sSt} {i a : Nat} {v : Int64} {b : Nat} (hb : b ≠ a) : ent cy Λ (sFJ S i a v) b = ent cy Λ S b := by
  have h : ∀ j, gFJ (sFJ S i a v) j b = gFJ S j b := fun j => by rw [gFJ_sFJ, if_neg (fun h => hb h.2)]
  simp only [ent, h, gFI_sFJ, gFR_sFJ]
  rfl
theorem ent_sFR_ne {cy : Nat → ClassId} {Λ : sLay} {S : sSt} {i a : Nat} {v : Option Nat} {b : Nat} (hb : b ≠ a) : ent cy Λ (sFR S i a v) b = ent cy Λ S b := by
  have h : ∀ j, gFR (sFR S i a v) j b = gFR S j b := fun j => by rw [gFR_sFR, if_neg (fun h => hb h.2)]
  simp only [ent, h, gFI_sFR, gFJ_sFR]
  rfl
theorem ent_sAI_ne {cy : Nat → ClassId} {Λ : sLay} {S : sSt} {i a : Nat} {v : Int32} {b : Nat} (hb : b ≠ i) : ent cy Λ (sAI S i a v) b = ent cy Λ S b := by
  have h : gAI (sAI S i a v) b = gAI S b := by funext j; rw [gAI_sAI, if_neg (fun h => hb h.1)]
  simp only [ent, h, gFI_sAI, gFJ_sAI, gFR_sAI]
  rfl
theorem ent_sAJ_ne {cy : Nat → ClassId} {Λ : sLay} {S : sSt} {i a : Nat} {v : Int64} {b : Nat} (hb : b ≠ i) : ent cy Λ (sAJ S i a v) b = ent cy Λ S b := by
  have h : gAJ (sAJ S i a v) b = gAJ S b := by funext j; rw [gAJ_sAJ, if_neg (fun h => hb h.1)]
  simp only [ent, h, gFI_sAJ, gFJ_sAJ, gFR_sAJ]
  rfl
theorem ent_sAR_ne {cy : Nat → ClassId} {Λ : sLay} {S : sSt} {i a : Nat} {v : Option Nat} {b : Nat} (hb : b ≠ i) : ent cy Λ (sAR S i a v) b = ent cy Λ S b := by
  have h : gAR (sAR S i a v) b = gAR S b := by funext j; rw [gAR_sAR, if_neg (fun h => hb h.1)]
  simp only [ent, h, gFI_sAR, gFJ_sAR, gFR_sAR]
  rfl
/-- field k of kind ci is field i of the store -/
def jFI (cy : Nat → ClassId) (ci k i : Nat) : Prop := ∀ (Λ : sLay) (S : sSt) (a : Nat), Λ.2.1 a = ci → ∃ fs, ent cy Λ S a = .inr (ci, fs) ∧ fs[k]? = some (.int (gFI S i a)) ∧ ∀ v, k < fs.length ∧ ent cy Λ (sFI S i a v) a = .inr (ci, fs.set k (.int v))
def jFJ (cy : Nat → ClassId) (ci k i : Nat) : Prop := ∀ (Λ : sLay) (S : sSt) (a : Nat), Λ.2.1 a = ci → ∃ fs, ent cy Λ S a = .inr (ci, fs) ∧ fs[k]? = some (.long (gFJ S i a)) ∧ ∀ v, k < fs.length ∧ ent cy Λ (sFJ S i a v) a = .inr (ci, fs.set k (.long v))
def jFR (cy : Nat → ClassId) (ci k i : Nat) : Prop := ∀ (Λ : sLay) (S : sSt) (a : Nat), Λ.2.1 a = ci → ∃ fs, ent cy Λ S a = .inr (ci, fs) ∧ fs[k]? = some (va_rf (gFR S i a)) ∧ ∀ v, k < fs.length ∧ ent cy Λ (sFR S i a v) a = .inr (ci, fs.set k (va_rf v))
theorem f0 {cy : Nat → ClassId} : jFR cy 0 0 0 := fun Λ S a h => ⟨_, ent_0 h, rfl, fun v => ⟨Nat.le_of_ble_eq_true rfl, by rw [ent_0 h]; simp [gFI_sFR, gFJ_sFR, gFR_sFR]⟩⟩
theorem f1 {cy : Nat → ClassId} : jFI cy 0 1 1 := fun Λ S a h => ⟨_, ent_0 h, rfl, fun v => ⟨Nat.le_of_ble_eq_true rfl, by rw [ent_0 h]; simp [gFI_sFI, gFJ_sFI, gFR_sFI]⟩⟩
theorem f2 {cy : Nat → ClassId} : jFR cy 0 2 2 := fun Λ S a h => ⟨_, ent_0 h, rfl, fun v => ⟨Nat.le_of_ble_eq_true rfl, by rw [ent_0 h]; simp [gFI_sFR, gFJ_sFR, gFR_sFR]⟩⟩
theorem f3 {cy : Nat → ClassId} : jFI cy 0 3 3 := fun Λ S a h => ⟨_, ent_0 h, rfl, fun v => ⟨Nat.le_of_ble_eq_true rfl, by rw [ent_0 h]; simp [gFI_sFI, gFJ_sFI, gFR_sFI]⟩⟩
theorem f40 {cy : Nat → ClassId} : jFR cy 1 0 40 := fun Λ S a h => ⟨_, ent_1 h, rfl, fun v => ⟨Nat.le_of_ble_eq_true rfl, by rw [ent_1 h]; simp [gFI_sFR, gFJ_sFR, gFR_sFR]⟩⟩
theorem f41 {cy : Nat → ClassId} : jFI cy 1 1 41 := fun Λ S a h => ⟨_, ent_1 h, rfl, fun v => ⟨Nat.le_of_ble_eq_true rfl, by rw [ent_1 h]; simp [gFI_sFI, gFJ_sFI, gFR_sFI]⟩⟩
theorem f80 {cy : Nat → ClassId} : jFR cy 2 0 80 := fun Λ S a h => ⟨_, ent_2 h, rfl, fun v => ⟨Nat.le_of_ble_eq_true rfl, by rw [ent_2 h]; simp [gFI_sFR, gFJ_sFR, gFR_sFR]⟩⟩
theorem f81 {cy : Nat → ClassId} : jFR cy 2 1 81 := fun Λ S a h => ⟨_, ent_2 h, rfl, fun v => ⟨Nat.le_of_ble_eq_true rfl, by rw [ent_2 h]; simp [gFI_sFR, gFJ_sFR, gFR_sFR]⟩⟩
theorem f82 {cy : Nat → ClassId} : jFR cy 2 2 82 := fun Λ S a h => ⟨_, ent_2 h, rfl, fun v => ⟨Nat.le_of_ble_eq_true rfl, by rw [ent_2 h]; simp [gFI_sFR, gFJ_sFR, gFR_sFR]⟩⟩
theorem f83 {cy : Nat → ClassId} : jFI cy 2 3 83 := fun Λ S a h => ⟨_, ent_2 h, rfl, fun v => ⟨Nat.le_of_ble_eq_true rfl, by rw [ent_2 h]; simp [gFI_sFI, gFJ_sFI, gFR_sFI]⟩⟩
theorem f84 {cy : Nat → ClassId} : jFI cy 2 4 84 := fun Λ S a h => ⟨_, ent_2 h, rfl, fun v => ⟨Nat.le_of_ble_eq_true rfl, by rw [ent_2 h]; simp [gFI_sFI, gFJ_sFI, gFR_sFI]⟩⟩
theorem f120 {cy : Nat → ClassId} : jFR cy 3 0 120 := fun Λ S a h => ⟨_, ent_3 h, rfl, fun v => ⟨Nat.le_of_ble_eq_true rfl, by rw [ent_3 h]; simp [gFI_sFR, gFJ_sFR, gFR_sFR]⟩⟩
theorem f121 {cy : Nat → ClassId} : jFI cy 3 1 121 := fun Λ S a h => ⟨_, ent_3 h, rfl, fun v => ⟨Nat.le_of_ble_eq_true rfl, by rw [ent_3 h]; simp [gFI_sFI, gFJ_sFI, gFR_sFI]⟩⟩
theorem f122 {cy : Nat → ClassId} : jFI cy 3 2 122 := fun Λ S a h => ⟨_, ent_3 h, rfl, fun v => ⟨Nat.le_of_ble_eq_true rfl, by rw [ent_3 h]; simp [gFI_sFI, gFJ_sFI, gFR_sFI]⟩⟩
theorem f123 {cy : Nat → ClassId} : jFI cy 3 3 123 := fun Λ S a h => ⟨_, ent_3 h, rfl, fun v => ⟨Nat.le_of_ble_eq_true rfl, by rw [ent_3 h]; simp [gFI_sFI, gFJ_sFI, gFR_sFI]⟩⟩
theorem f124 {cy : Nat → ClassId} : jFI cy 3 4 124 := fun Λ S a h => ⟨_, ent_3 h, rfl, fun v => ⟨Nat.le_of_ble_eq_true rfl, by rw [ent_3 h]; simp [gFI_sFI, gFJ_sFI, gFR_sFI]⟩⟩
theorem f125 {cy : Nat → ClassId} : jFI cy 3 5 125 := fun Λ S a h => ⟨_, ent_3 h, rfl, fun v => ⟨Nat.le_of_ble_eq_true rfl, by rw [ent_3 h]; simp [gFI_sFI, gFJ_sFI, gFR_sFI]⟩⟩
theorem f160 {cy : Nat → ClassId} : jFR cy 4 0 160 := fun Λ S a h => ⟨_, ent_4 h, rfl, fun v => ⟨Nat.le_of_ble_eq_true rfl, by rw [ent_4 h]; simp [gFI_sFR, gFJ_sFR, gFR_sFR]⟩⟩
theorem f161 {cy : Nat → ClassId} : jFR cy 4 1 161 := fun Λ S a h => ⟨_, ent_4 h, rfl, fun v => ⟨Nat.le_of_ble_eq_true rfl, by rw [ent_4 h]; simp [gFI_sFR, gFJ_sFR, gFR_sFR]⟩⟩
theorem f200 {cy : Nat → ClassId} : jFI cy 5 0 200 := fun Λ S a h => ⟨_, ent_5 h, rfl, fun v => ⟨Nat.le_of_ble_eq_true rfl, by rw [ent_5 h]; simp [gFI_sFI, gFJ_sFI, gFR_sFI]⟩⟩
theorem f201 {cy : Nat → ClassId} : jFR cy 5 1 201 := fun Λ S a h => ⟨_, ent_5 h, rfl, fun v => ⟨Nat.le_of_ble_eq_true rfl, by rw [ent_5 h]; simp [gFI_sFR, gFJ_sFR, gFR_sFR]⟩⟩
theorem f202 {cy : Nat → ClassId} : jFI cy 5 2 202 := fun Λ S a h => ⟨_, ent_5 h, rfl, fun v => ⟨Nat.le_of_ble_eq_true rfl, by rw [ent_5 h]; simp [gFI_sFI, gFJ_sFI, gFR_sFI]⟩⟩
theorem f203 {cy : Nat → ClassId} : jFJ cy 5 3 203 := fun Λ S a h => ⟨_, ent_5 h, rfl, fun v => ⟨Nat.le_of_ble_eq_true rfl, by rw [ent_5 h]; simp [gFI_sFJ, gFJ_sFJ, gFR_sFJ]⟩⟩
theorem f204 {cy : Nat → ClassId} : jFI cy 5 4 204 := fun Λ S a h => ⟨_, ent_5 h, rfl, fun v => ⟨Nat.le_of_ble_eq_true rfl, by rw [ent_5 h]; simp [gFI_sFI, gFJ_sFI, gFR_sFI]⟩⟩
theorem f205 {cy : Nat → ClassId} : jFI cy 5 5 205 := fun Λ S a h => ⟨_, ent_5 h, rfl, fun v => ⟨Nat.le_of_ble_eq_true rfl, by rw [ent_5 h]; simp [gFI_sFI, gFJ_sFI, gFR_sFI]⟩⟩
theorem f206 {cy : Nat → ClassId} : jFJ cy 5 6 206 := fun Λ S a h => ⟨_, ent_5 h, rfl, fun v => ⟨Nat.le_of_ble_eq_true rfl, by rw [ent_5 h]; simp [gFI_sFJ, gFJ_sFJ, gFR_sFJ]⟩⟩
theorem f207 {cy : Nat → ClassId} : jFI cy 5 7 207 := fun Λ S a h => ⟨_, ent_5 h, rfl, fun v => ⟨Nat.le_of_ble_eq_true rfl, by rw [ent_5 h]; simp [gFI_sFI, gFJ_sFI, gFR_sFI]⟩⟩
theorem f208 {cy : Nat → ClassId} : jFI cy 5 8 208 := fun Λ S a h => ⟨_, ent_5 h, rfl, fun v => ⟨Nat.le_of_ble_eq_true rfl, by rw [ent_5 h]; simp [gFI_sFI, gFJ_sFI, gFR_sFI]⟩⟩
theorem f209 {cy : Nat → ClassId} : jFI cy 5 9 209 := fun Λ S a h => ⟨_, ent_5 h, rfl, fun v => ⟨Nat.le_of_ble_eq_true rfl, by rw [ent_5 h]; simp [gFI_sFI, gFJ_sFI, gFR_sFI]⟩⟩
theorem f240 {cy : Nat → ClassId} : jFI cy 6 0 240 := fun Λ S a h => ⟨_, ent_6 h, rfl, fun v => ⟨Nat.le_of_ble_eq_true rfl, by rw [ent_6 h]; simp [gFI_sFI, gFJ_sFI, gFR_sFI]⟩⟩
theorem f241 {cy : Nat → ClassId} : jFR cy 6 1 241 := fun Λ S a h => ⟨_, ent_6 h, rfl, fun v => ⟨Nat.le_of_ble_eq_true rfl, by rw [ent_6 h]; simp [gFI_sFR, gFJ_sFR, gFR_sFR]⟩⟩
theorem f242 {cy : Nat → ClassId} : jFR cy 6 2 242 := fun Λ S a h => ⟨_, ent_6 h, rfl, fun v => ⟨Nat.le_of_ble_eq_true rfl, by rw [ent_6 h]; simp [gFI_sFR, gFJ_sFR, gFR_sFR]⟩⟩
theorem f243 {cy : Nat → ClassId} : jFR cy 6 3 243 := fun Λ S a h => ⟨_, ent_6 h, rfl, fun v => ⟨Nat.le_of_ble_eq_true rfl, by rw [ent_6 h]; simp [gFI_sFR, gFJ_sFR, gFR_sFR]⟩⟩
theorem f244 {cy : Nat → ClassId} : jFR cy 6 4 244 := fun Λ S a h => ⟨_, ent_6 h, rfl, fun v => ⟨Nat.le_of_ble_eq_true rfl, by rw [ent_6 h]; simp [gFI_sFR, gFJ_sFR, gFR_sFR]⟩⟩
theorem f245 {cy : Nat → ClassId} : jFI cy 6 5 245 := fun Λ S a h => ⟨_, ent_6 h, rfl, fun v => ⟨Nat.le_of_ble_eq_true rfl, by rw [ent_6 h]; simp [gFI_sFI, gFJ_sFI, gFR_sFI]⟩⟩
theorem f246 {cy : Nat → ClassId} : jFR cy 6 6 246 := fun Λ S a h => ⟨_, ent_6 h, rfl, fun v => ⟨Nat.le_of_ble_eq_true rfl, by rw [ent_6 h]; simp [gFI_sFR, gFJ_sFR, gFR_sFR]⟩⟩
theorem f247 {cy : Nat → ClassId} : jFI cy 6 7 247 := fun Λ S a h => ⟨_, ent_6 h, rfl, fun v => ⟨Nat.le_of_ble_eq_true rfl, by rw [ent_6 h]; simp [gFI_sFI, gFJ_sFI, gFR_sFI]⟩⟩
theorem f248 {cy : Nat → ClassId} : jFI cy 6 8 248 := fun Λ S a h => ⟨_, ent_6 h, rfl, fun v => ⟨Nat.le_of_ble_eq_true rfl, by rw [ent_6 h]; simp [gFI_sFI, gFJ_sFI, gFR_sFI]⟩⟩
theorem f249 {cy : Nat → ClassId} : jFI cy 6 9 249 := fun Λ S a h => ⟨_, ent_6 h, rfl, fun v => ⟨Nat.le_of_ble_eq_true rfl, by rw [ent_6 h]; simp [gFI_sFI, gFJ_sFI, gFR_sFI]⟩⟩
theorem f250 {cy : Nat → ClassId} : jFI cy 6 10 250 := fun Λ S a h => ⟨_, ent_6 h, rfl, fun v => ⟨Nat.le_of_ble_eq_true rfl, by rw [ent_6 h]; simp [gFI_sFI, gFJ_sFI, gFR_sFI]⟩⟩
theorem f280 {cy : Nat → ClassId} : jFR cy 7 0 280 := fun Λ S a h => ⟨_, ent_7 h, rfl, fun v => ⟨Nat.le_of_ble_eq_true rfl, by rw [ent_7 h]; simp [gFI_sFR, gFJ_sFR, gFR_sFR]⟩⟩
theorem f281 {cy : Nat → ClassId} : jFI cy 7 1 281 := fun Λ S a h => ⟨_, ent_7 h, rfl, fun v => ⟨Nat.le_of_ble_eq_true rfl, by rw [ent_7 h]; simp [gFI_sFI, gFJ_sFI, gFR_sFI]⟩⟩
theorem f320 {cy : Nat → ClassId} : jFR cy 8 0 320 := fun Λ S a h => ⟨_, ent_8 h, rfl, fun v => ⟨Nat.le_of_ble_eq_true rfl, by rw [ent_8 h]; simp [gFI_sFR, gFJ_sFR, gFR_sFR]⟩⟩
theorem f321 {cy : Nat → ClassId} : jFR cy 8 1 321 := fun Λ S a h => ⟨_, ent_8 h, rfl, fun v => ⟨Nat.le_of_ble_eq_true rfl, by rw [ent_8 h]; simp [gFI_sFR, gFJ_sFR, gFR_sFR]⟩⟩
theorem f322 {cy : Nat → ClassId} : jFR cy 8 2 322 := fun Λ S a h => ⟨_, ent_8 h, rfl, fun v => ⟨Nat.le_of_ble_eq_true rfl, by rw [ent_8 h]; simp [gFI_sFR, gFJ_sFR, gFR_sFR]⟩⟩
theorem f323 {cy : Nat → ClassId} : jFR cy 8 3 323 := fun Λ S a h => ⟨_, ent_8 h, rfl, fun v => ⟨Nat.le_of_ble_eq_true rfl, by rw [ent_8 h]; simp [gFI_sFR, gFJ_sFR, gFR_sFR]⟩⟩
theorem f324 {cy : Nat → ClassId} : jFI cy 8 4 324 := fun Λ S a h => ⟨_, ent_8 h, rfl, fun v => ⟨Nat.le_of_ble_eq_true rfl, by rw [ent_8 h]; simp [gFI_sFI, gFJ_sFI, gFR_sFI]⟩⟩
theorem f360 {cy : Nat → ClassId} : jFI cy 9 0 360 := fun Λ S a h => ⟨_, ent_9 h, rfl, fun v => ⟨Nat.le_of_ble_eq_true rfl, by rw [ent_9 h]; simp [gFI_sFI, gFJ_sFI, gFR_sFI]⟩⟩
theorem f361 {cy : Nat → ClassId} : jFI cy 9 1 361 := fun Λ S a h => ⟨_, ent_9 h, rfl, fun v => ⟨Nat.le_of_ble_eq_true rfl, by rw [ent_9 h]; simp [gFI_sFI, gFJ_sFI, gFR_sFI]⟩⟩
theorem f362 {cy : Nat → ClassId} : jFR cy 9 2 362 := fun Λ S a h => ⟨_, ent_9 h, rfl, fun v => ⟨Nat.le_of_ble_eq_true rfl, by rw [ent_9 h]; simp [gFI_sFR, gFJ_sFR, gFR_sFR]⟩⟩
theorem f363 {cy : Nat → ClassId} : jFR cy 9 3 363 := fun Λ S a h => ⟨_, ent_9 h, rfl, fun v => ⟨Nat.le_of_ble_eq_true rfl, by rw [ent_9 h]; simp [gFI_sFR, gFJ_sFR, gFR_sFR]⟩⟩
theorem f364 {cy : Nat → ClassId} : jFR cy 9 4 364 := fun Λ S a h => ⟨_, ent_9 h, rfl, fun v => ⟨Nat.le_of_ble_eq_true rfl, by rw [ent_9 h]; simp [gFI_sFR, gFJ_sFR, gFR_sFR]⟩⟩
theorem f365 {cy : Nat → ClassId} : jFR cy 9 5 365 := fun Λ S a h => ⟨_, ent_9 h, rfl, fun v => ⟨Nat.le_of_ble_eq_true rfl, by rw [ent_9 h]; simp [gFI_sFR, gFJ_sFR, gFR_sFR]⟩⟩
theorem f366 {cy : Nat → ClassId} : jFR cy 9 6 366 := fun Λ S a h => ⟨_, ent_9 h, rfl, fun v => ⟨Nat.le_of_ble_eq_true rfl, by rw [ent_9 h]; simp [gFI_sFR, gFJ_sFR, gFR_sFR]⟩⟩
theorem f367 {cy : Nat → ClassId} : jFR cy 9 7 367 := fun Λ S a h => ⟨_, ent_9 h, rfl, fun v => ⟨Nat.le_of_ble_eq_true rfl, by rw [ent_9 h]; simp [gFI_sFR, gFJ_sFR, gFR_sFR]⟩⟩
theorem f368 {cy : Nat → ClassId} : jFR cy 9 8 368 := fun Λ S a h => ⟨_, ent_9 h, rfl, fun v => ⟨Nat.le_of_ble_eq_true rfl, by rw [ent_9 h]; simp [gFI_sFR, gFJ_sFR, gFR_sFR]⟩⟩
theorem f369 {cy : Nat → ClassId} : jFR cy 9 9 369 := fun Λ S a h => ⟨_, ent_9 h, rfl, fun v => ⟨Nat.le_of_ble_eq_true rfl, by rw [ent_9 h]; simp [gFI_sFR, gFJ_sFR, gFR_sFR]⟩⟩
theorem f370 {cy : Nat → ClassId} : jFR cy 9 10 370 := fun Λ S a h => ⟨_, ent_9 h, rfl, fun v => ⟨Nat.le_of_ble_eq_true rfl, by rw [ent_9 h]; simp [gFI_sFR, gFJ_sFR, gFR_sFR]⟩⟩
theorem f371 {cy : Nat → ClassId} : jFR cy 9 11 371 := fun Λ S a h => ⟨_, ent_9 h, rfl, fun v => ⟨Nat.le_of_ble_eq_true rfl, by rw [ent_9 h]; simp [gFI_sFR, gFJ_sFR, gFR_sFR]⟩⟩
theorem f372 {cy : Nat → ClassId} : jFR cy 9 12 372 := fun Λ S a h => ⟨_, ent_9 h, rfl, fun v => ⟨Nat.le_of_ble_eq_true rfl, by rw [ent_9 h]; simp [gFI_sFR, gFJ_sFR, gFR_sFR]⟩⟩
theorem f373 {cy : Nat → ClassId} : jFR cy 9 13 373 := fun Λ S a h => ⟨_, ent_9 h, rfl, fun v => ⟨Nat.le_of_ble_eq_true rfl, by rw [ent_9 h]; simp [gFI_sFR, gFJ_sFR, gFR_sFR]⟩⟩
theorem f374 {cy : Nat → ClassId} : jFR cy 9 14 374 := fun Λ S a h => ⟨_, ent_9 h, rfl, fun v => ⟨Nat.le_of_ble_eq_true rfl, by rw [ent_9 h]; simp [gFI_sFR, gFJ_sFR, gFR_sFR]⟩⟩
theorem f375 {cy : Nat → ClassId} : jFR cy 9 15 375 := fun Λ S a h => ⟨_, ent_9 h, rfl, fun v => ⟨Nat.le_of_ble_eq_true rfl, by rw [ent_9 h]; simp [gFI_sFR, gFJ_sFR, gFR_sFR]⟩⟩
theorem f376 {cy : Nat → ClassId} : jFR cy 9 16 376 := fun Λ S a h => ⟨_, ent_9 h, rfl, fun v => ⟨Nat.le_of_ble_eq_true rfl, by rw [ent_9 h]; simp [gFI_sFR, gFJ_sFR, gFR_sFR]⟩⟩
theorem f377 {cy : Nat → ClassId} : jFR cy 9 17 377 := fun Λ S a h => ⟨_, ent_9 h, rfl, fun v => ⟨Nat.le_of_ble_eq_true rfl, by rw [ent_9 h]; simp [gFI_sFR, gFJ_sFR, gFR_sFR]⟩⟩
theorem f378 {cy : Nat → ClassId} : jFI cy 9 18 378 := fun Λ S a h => ⟨_, ent_9 h, rfl, fun v => ⟨Nat.le_of_ble_eq_true rfl, by rw [ent_9 h]; simp [gFI_sFI, gFJ_sFI, gFR_sFI]⟩⟩
theorem f379 {cy : Nat → ClassId} : jFR cy 9 19 379 := fun Λ S a h => ⟨_, ent_9 h, rfl, fun v => ⟨Nat.le_of_ble_eq_true rfl, by rw [ent_9 h]; simp [gFI_sFR, gFJ_sFR, gFR_sFR]⟩⟩
theorem f380 {cy : Nat → ClassId} : jFR cy 9 20 380 := fun Λ S a h => ⟨_, ent_9 h, rfl, fun v => ⟨Nat.le_of_ble_eq_true rfl, by rw [ent_9 h]; simp [gFI_sFR, gFJ_sFR, gFR_sFR]⟩⟩
theorem f381 {cy : Nat → ClassId} : jFR cy 9 21 381 := fun Λ S a h => ⟨_, ent_9 h, rfl, fun v => ⟨Nat.le_of_ble_eq_true rfl, by rw [ent_9 h]; simp [gFI_sFR, gFJ_sFR, gFR_sFR]⟩⟩
theorem f382 {cy : Nat → ClassId} : jFR cy 9 22 382 := fun Λ S a h => ⟨_, ent_9 h, rfl, fun v => ⟨Nat.le_of_ble_eq_true rfl, by rw [ent_9 h]; simp [gFI_sFR, gFJ_sFR, gFR_sFR]⟩⟩
theorem f383 {cy : Nat → ClassId} : jFR cy 9 23 383 := fun Λ S a h => ⟨_, ent_9 h, rfl, fun v => ⟨Nat.le_of_ble_eq_true rfl, by rw [ent_9 h]; simp [gFI_sFR, gFJ_sFR, gFR_sFR]⟩⟩
theorem f384 {cy : Nat → ClassId} : jFI cy 9 24 384 := fun Λ S a h => ⟨_, ent_9 h, rfl, fun v => ⟨Nat.le_of_ble_eq_true rfl, by rw [ent_9 h]; simp [gFI_sFI, gFJ_sFI, gFR_sFI]⟩⟩
theorem f385 {cy : Nat → ClassId} : jFR cy 9 25 385 := fun Λ S a h => ⟨_, ent_9 h, rfl, fun v => ⟨Nat.le_of_ble_eq_true rfl, by rw [ent_9 h]; simp [gFI_sFR, gFJ_sFR, gFR_sFR]⟩⟩
theorem f386 {cy : Nat → ClassId} : jFR cy 9 26 386 := fun Λ S a h => ⟨_, ent_9 h, rfl, fun v => ⟨Nat.le_of_ble_eq_true rfl, by rw [ent_9 h]; simp [gFI_sFR, gFJ_sFR, gFR_sFR]⟩⟩
theorem f387 {cy : Nat → ClassId} : jFR cy 9 27 387 := fun Λ S a h => ⟨_, ent_9 h, rfl, fun v => ⟨Nat.le_of_ble_eq_true rfl, by rw [ent_9 h]; simp [gFI_sFR, gFJ_sFR, gFR_sFR]⟩⟩
theorem f388 {cy : Nat → ClassId} : jFI cy 9 28 388 := fun Λ S a h => ⟨_, ent_9 h, rfl, fun v => ⟨Nat.le_of_ble_eq_true rfl, by rw [ent_9 h]; simp [gFI_sFI, gFJ_sFI, gFR_sFI]⟩⟩
theorem f389 {cy : Nat → ClassId} : jFR cy 9 29 389 := fun Λ S a h => ⟨_, ent_9 h, rfl, fun v => ⟨Nat.le_of_ble_eq_true rfl, by rw [ent_9 h]; simp [gFI_sFR, gFJ_sFR, gFR_sFR]⟩⟩
theorem f390 {cy : Nat → ClassId} : jFR cy 9 30 390 := fun Λ S a h => ⟨_, ent_9 h, rfl, fun v => ⟨Nat.le_of_ble_eq_true rfl, by rw [ent_9 h]; simp [gFI_sFR, gFJ_sFR, gFR_sFR]⟩⟩
theorem f391 {cy : Nat → ClassId} : jFR cy 9 31 391 := fun Λ S a h => ⟨_, ent_9 h, rfl, fun v => ⟨Nat.le_of_ble_eq_true rfl, by rw [ent_9 h]; simp [gFI_sFR, gFJ_sFR, gFR_sFR]⟩⟩
theorem f392 {cy : Nat → ClassId} : jFR cy 9 32 392 := fun Λ S a h => ⟨_, ent_9 h, rfl, fun v => ⟨Nat.le_of_ble_eq_true rfl, by rw [ent_9 h]; simp [gFI_sFR, gFJ_sFR, gFR_sFR]⟩⟩
theorem f393 {cy : Nat → ClassId} : jFI cy 9 33 393 := fun Λ S a h => ⟨_, ent_9 h, rfl, fun v => ⟨Nat.le_of_ble_eq_true rfl, by rw [ent_9 h]; simp [gFI_sFI, gFJ_sFI, gFR_sFI]⟩⟩
theorem f394 {cy : Nat → ClassId} : jFI cy 9 34 394 := fun Λ S a h => ⟨_, ent_9 h, rfl, fun v => ⟨Nat.le_of_ble_eq_true rfl, by rw [ent_9 h]; simp [gFI_sFI, gFJ_sFI, gFR_sFI]⟩⟩
theorem f395 {cy : Nat → ClassId} : jFR cy 9 35 395 := fun Λ S a h => ⟨_, ent_9 h, rfl, fun v => ⟨Nat.le_of_ble_eq_true rfl, by rw [ent_9 h]; simp [gFI_sFR, gFJ_sFR, gFR_sFR]⟩⟩
