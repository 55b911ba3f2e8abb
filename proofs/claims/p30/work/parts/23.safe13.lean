set_option maxHeartbeats 2000000 in
theorem tF_X8_row {Z : gZ} {Λ : sLay} (S : sSt) (hs : Sh Z Λ S) (r0 : NwF Z 0) (r160 : NwF Z 160) (r161 : NwF Z 161) (r246 : NwF Z 246) (w1 : Z.2.1 1 = false) (w41 : Z.2.1 41 = false) (w121 : Z.2.1 121 = false) (w122 : Z.2.1 122 = false) (w123 : Z.2.1 123 = false) (w124 : Z.2.1 124 = false) (w125 : Z.2.1 125 = false) (w205 : Z.2.1 205 = false) (w206 : Z.2.1 206 = false) (w207 : Z.2.1 207 = false) (w208 : Z.2.1 208 = false) (w209 : Z.2.1 209 = false) (p0 : Nat) (tp0 : isK Λ 8 p0) (p1 : Int32) (p2 : Int32) : T (F_X8_row Λ.2.2 S p0 p1 p2) (fun r : (String ⊕ Int64) × sSt => Sh Z Λ r.2 ∧ ((∃ v, r.1 = Sum.inr v) ∨ r.1 = Sum.inl aiN)) := by
  unfold F_X8_row
  repeat' (first | (with_reducible exact ⟨by assumption, Or.inr rfl⟩) | (with_reducible exact ⟨by assumption, Or.inl ⟨_, rfl⟩⟩) | (with_reducible first | refine T_some ?_ | refine T_bsome ?_ | refine T_bndE (by assumption) ?_ | refine T_R320 (by assumption) (by assumption) (fun _ _ _ _ => ?_) | refine T_R321 (by assumption) (by assumption) (fun _ _ _ _ => ?_) | refine T_R322 (by assumption) (by assumption) (fun _ _ _ _ => ?_) | refine T_ite (fun _ => ?_) (fun _ => ?_) | refine T_onlS ?_ | refine T_onlN ?_ | refine T_onl (by (with_reducible first | assumption | exact okK.no | exact okK.of (by assumption))) ?_ ?_ | (intro a hxa ha; subst hxa)) | (with_reducible refine T_bind (by with_reducible apply tF_X7_at <;> (with_reducible first | assumption | exact okK.no | exact okK.of (by assumption) | exact Nw.of (by assumption) (by assumption) | exact Aw.f (by assumption) (by assumption))) (fun _ hq => ?_)) | (with_reducible refine T_bind (by with_reducible apply tF_X0_settleAll <;> (with_reducible first | assumption | exact okK.no | exact okK.of (by assumption) | exact Nw.of (by assumption) (by assumption) | exact Aw.f (by assumption) (by assumption))) (fun _ hq => ?_)) | (with_reducible refine T_obdR (by with_reducible apply tF_X4_now <;> (with_reducible first | assumption | exact okK.no | exact okK.of (by assumption) | exact Nw.of (by assumption) (by assumption) | exact Aw.f (by assumption) (by assumption))) (fun _ _ _ _ => ?_)) | (with_reducible refine T_bind (by with_reducible apply tF_X3_length <;> (with_reducible first | assumption | exact okK.no | exact okK.of (by assumption) | exact Nw.of (by assumption) (by assumption) | exact Aw.f (by assumption) (by assumption))) (fun _ hq => ?_)) | (with_reducible refine T_bind (by with_reducible apply tF_X8_isBelow <;> (with_reducible first | assumption | exact okK.no | exact okK.of (by assumption) | exact Nw.of (by assumption) (by assumption) | exact Aw.f (by assumption) (by assumption))) (fun _ hq => ?_)) | (with_reducible refine T_bind (by with_reducible apply tF_X3_at <;> (with_reducible first | assumption | exact okK.no | exact okK.of (by assumption) | exact Nw.of (by assumption) (by assumption) | exact Aw.f (by assumption) (by assumption))) (fun _ hq => ?_)))
set_option maxHeartbeats 2000000 in
theorem tF_X8_kept {Z : gZ} {Λ : sLay} (S : sSt) (hs : Sh Z Λ S) (p0 : Nat) (tp0 : isK Λ 8 p0) (p1 : Int32) (p2 : Int32) : T (F_X8_kept Λ.2.2 S p0 p1 p2) (fun r : (String ⊕ Int64) × sSt => Sh Z Λ r.2 ∧ ((∃ v, r.1 = Sum.inr v) ∨ r.1 = Sum.inl aiN ∨ r.1 = Sum.inl npN)) := by
  unfold F_X8_kept
  repeat' (first | (with_reducible exact ⟨by assumption, Or.inr (Or.inl rfl)⟩) | (with_reducible exact ⟨by assumption, Or.inr (Or.inr rfl)⟩) | (with_reducible exact ⟨by assumption, Or.inl ⟨_, rfl⟩⟩) | (with_reducible first | refine T_some ?_ | refine T_bsome ?_ | refine T_bndE (by assumption) ?_ | refine T_R243 (by assumption) (by assumption) (fun _ _ _ _ => ?_) | refine T_R320 (by assumption) (by assumption) (fun _ _ _ _ => ?_) | refine T_ite (fun _ => ?_) (fun _ => ?_) | refine T_onlS ?_ | refine T_onlN ?_ | refine T_onl (by (with_reducible first | assumption | exact okK.no | exact okK.of (by assumption))) ?_ ?_ | (intro a hxa ha; subst hxa)) | (with_reducible refine T_bind (by with_reducible apply tF_X7_at <;> (with_reducible first | assumption | exact okK.no | exact okK.of (by assumption) | exact Nw.of (by assumption) (by assumption) | exact Aw.f (by assumption) (by assumption))) (fun _ hq => ?_)) | (with_reducible refine T_bind (by with_reducible apply tF_X3_length <;> (with_reducible first | assumption | exact okK.no | exact okK.of (by assumption) | exact Nw.of (by assumption) (by assumption) | exact Aw.f (by assumption) (by assumption))) (fun _ hq => ?_)) | (with_reducible refine T_bind (by with_reducible apply tF_X8_isBelow <;> (with_reducible first | assumption | exact okK.no | exact okK.of (by assumption) | exact Nw.of (by assumption) (by assumption) | exact Aw.f (by assumption) (by assumption))) (fun _ hq => ?_)) | (with_reducible refine T_bind (by with_reducible apply tF_X3_at <;> (with_reducible first | assumption | exact okK.no | exact okK.of (by assumption) | exact Nw.of (by assumption) (by assumption) | exact Aw.f (by assumption) (by assumption))) (fun _ hq => ?_)))
set_option maxHeartbeats 2000000 in
theorem tF_X8_order {Z : gZ} {Λ : sLay} (S : sSt) (hs : Sh Z Λ S) (r80 : NwF Z 80) (r81 : NwF Z 81) (r82 : NwF Z 82) (r246 : NwF Z 246) (w41 : Z.2.1 41 = false) (w83 : Z.2.1 83 = false) (w84 : Z.2.1 84 = false) (p0 : Nat) (tp0 : isK Λ 8 p0) (p1 : Int32) : T (F_X8_order Λ.2.2 S p0 p1) (fun r : (String ⊕ Int32) × sSt => Sh Z Λ r.2 ∧ ((∃ v, r.1 = Sum.inr v) ∨ r.1 = Sum.inl aiN)) := by
  unfold F_X8_order
  repeat' (first | (with_reducible exact ⟨by assumption, Or.inr rfl⟩) | (with_reducible exact ⟨by assumption, Or.inl ⟨_, rfl⟩⟩) | (with_reducible first | refine T_some ?_ | refine T_bsome ?_ | refine T_bndE (by assumption) ?_ | refine T_R82 (by assumption) (by assumption) (fun _ _ _ _ => ?_) | refine T_R320 (by assumption) (by assumption) (fun _ _ _ _ => ?_) | refine T_R323 (by assumption) (by assumption) (fun _ _ _ _ => ?_) | refine T_ite (fun _ => ?_) (fun _ => ?_)) | (with_reducible refine T_bind (by with_reducible apply tF_X2_arrange <;> (with_reducible first | assumption | exact okK.no | exact okK.of (by assumption) | exact Nw.of (by assumption) (by assumption) | exact Aw.f (by assumption) (by assumption))) (fun _ hq => ?_)) | (with_reducible refine T_bind (by with_reducible apply tF_X1_length <;> (with_reducible first | assumption | exact okK.no | exact okK.of (by assumption) | exact Nw.of (by assumption) (by assumption) | exact Aw.f (by assumption) (by assumption))) (fun _ hq => ?_)) | (with_reducible refine T_bind (by with_reducible apply tF_X8_isBelow <;> (with_reducible first | assumption | exact okK.no | exact okK.of (by assumption) | exact Nw.of (by assumption) (by assumption) | exact Aw.f (by assumption) (by assumption))) (fun _ hq => ?_)) | (with_reducible refine T_bind (by with_reducible apply tF_X1_at <;> (with_reducible first | assumption | exact okK.no | exact okK.of (by assumption) | exact Nw.of (by assumption) (by assumption) | exact Aw.f (by assumption) (by assumption))) (fun _ hq => ?_)))
theorem tF_L_row {Z : gZ} {Λ : sLay} (S : sSt) (hs : Sh Z Λ S) (r0 : NwF Z 0) (r160 : NwF Z 160) (r161 : NwF Z 161) (r246 : NwF Z 246) (w1 : Z.2.1 1 = false) (w41 : Z.2.1 41 = false) (w121 : Z.2.1 121 = false) (w122 : Z.2.1 122 = false) (w123 : Z.2.1 123 = false) (w124 : Z.2.1 124 = false) (w125 : Z.2.1 125 = false) (w205 : Z.2.1 205 = false) (w206 : Z.2.1 206 = false) (w207 : Z.2.1 207 = false) (w208 : Z.2.1 208 = false) (w209 : Z.2.1 209 = false) (x : Nat) (tx : isK Λ 8 x) (p1 p2 : Int32) (o : Nat) (to : isK Λ 11 o) (no : Aw Z o) (ho : Λ.2.2 o = 1) : T (F_L_row Λ.2.2 S x p1 p2 o) (fun r : Int32 × sSt => Sh Z Λ r.2) := by
  have g0 : vp_in (0 : Int32) (Λ.2.2 o) := by rw [ho]; exact vp_in_nI (n := 0) (by omega) (by omega)
  obtain ⟨⟨q, S1⟩, e, h1, h2⟩ := tF_X8_row S hs r0 r160 r161 r246 w1 w41 w121 w122 w123 w124 w125 w205 w206 w207 w208 w209 x tx p1 p2
  unfold F_L_row
  rw [e, Option.bind_some]
  rcases h2 with ⟨v, h2⟩ | h2
  · cases h2
    exact T_gi g0 (T_some (Sh.sAJ h1 to no _ _))
  · cases h2
    show T (if aiN = aiN then _ else _) _
    rw [if_pos rfl]
    exact T_some h1
theorem tF_L_kept {Z : gZ} {Λ : sLay} (S : sSt) (hs : Sh Z Λ S) (x : Nat) (tx : isK Λ 8 x) (p1 p2 : Int32) (o : Nat) (to : isK Λ 11 o) (no : Aw Z o) (ho : Λ.2.2 o = 1) : T (F_L_kept Λ.2.2 S x p1 p2 o) (fun r : Int32 × sSt => Sh Z Λ r.2) := by
  have g0 : vp_in (0 : Int32) (Λ.2.2 o) := by rw [ho]; exact vp_in_nI (n := 0) (by omega) (by omega)
  obtain ⟨⟨q, S1⟩, e, h1, h2⟩ := tF_X8_kept S hs x tx p1 p2
  unfold F_L_kept
  rw [e, Option.bind_some]
  rcases h2 with ⟨v, h2⟩ | h2 | h2
  · cases h2
    exact T_gi g0 (T_some (Sh.sAJ h1 to no _ _))
  · cases h2
    show T (if aiN = npN then some ((1 : Int32), S1) else if aiN = aiN then some ((2 : Int32), S1) else none) _
    rw [if_neg (by decide), if_pos rfl]
    exact T_some h1
  · cases h2
    show T (if npN = npN then some ((1 : Int32), S1) else if npN = aiN then some ((2 : Int32), S1) else none) _
    rw [if_pos rfl]
    exact T_some h1
theorem tF_L_order {Z : gZ} {Λ : sLay} (S : sSt) (hs : Sh Z Λ S) (r80 : NwF Z 80) (r81 : NwF Z 81) (r82 : NwF Z 82) (r246 : NwF Z 246) (w41 : Z.2.1 41 = false) (w83 : Z.2.1 83 = false) (w84 : Z.2.1 84 = false) (x : Nat) (tx : isK Λ 8 x) (p1 : Int32) (o : Nat) (to : isK Λ 11 o) (no : Aw Z o) (ho : Λ.2.2 o = 1) : T (F_L_order Λ.2.2 S x p1 o) (fun r : Int32 × sSt => Sh Z Λ r.2) := by
  have g0 : vp_in (0 : Int32) (Λ.2.2 o) := by rw [ho]; exact vp_in_nI (n := 0) (by omega) (by omega)
  obtain ⟨⟨q, S1⟩, e, h1, h2⟩ := tF_X8_order S hs r80 r81 r82 r246 w41 w83 w84 x tx p1
  unfold F_L_order
  rw [e, Option.bind_some]
  rcases h2 with ⟨v, h2⟩ | h2
  · cases h2
    exact T_gi g0 (T_some (Sh.sAJ h1 to no _ _))
  · cases h2
    show T (if aiN = aiN then _ else _) _
    rw [if_pos rfl]
    exact T_some h1
