/-! The derived calls give the same: class and reference. -/
section
variable {x m o us t c : Nat} {R : List Nat} {G : Nat → Nat} {ρ ω : Nat → Nat} {Λ : sLay} {S : sSt} {F : aF} {U W : aU} {H : aH}
theorem PT.found_C (h : PT x m o R G us t c F U W H ρ ω Λ S) (a1 a2 a3 : Int32) : Pa (F_X8_found Λ.2.2 S x a1 a2 a3) (fun r => r = aFound c F W H a1 a2 a3) := found_c h.ca h.1 h.wa a1 a2 a3
theorem PT.found_R (h : PT x m o R G us t c F U W H ρ ω Λ S) (a1 a2 a3 : Int32) : Pa (F_X9_found Λ.2.2 S m a1 a2 a3) (fun r => r.1 = aFound c F W H a1 a2 a3) := found_r h.ra h.1 h.wa a1 a2 a3
theorem PT.missing_C (h : PT x m o R G us t c F U W H ρ ω Λ S) (a1 : Int32) : Pa (F_X8_missing Λ.2.2 S x a1) (fun r => r.1 = aMiss c F U W H a1) := missing_c h.ca h.1 h.wa a1
theorem PT.missing_R (h : PT x m o R G us t c F U W H ρ ω Λ S) (a1 : Int32) : Pa (F_X9_missing Λ.2.2 S m a1) (fun r => r.1 = aMiss c F U W H a1) := missing_r h.ra h.1 h.wa a1
theorem PT.value_C (h : PT x m o R G us t c F U W H ρ ω Λ S) (a1 a2 : Int32) : Pa (F_X8_value Λ.2.2 S x a1 a2) (fun r => r.1 = aValue c F W H a1 a2) := value_c h.ca h.1 h.wa h.ha a1 a2
theorem PT.value_R (h : PT x m o R G us t c F U W H ρ ω Λ S) (a1 a2 : Int32) : Pa (F_X9_value Λ.2.2 S m a1 a2) (fun r => r.1 = aValue c F W H a1 a2) := value_r h.ra h.1 h.wa h.ha a1 a2
theorem PT.round_C (h : PT x m o R G us t c F U W H ρ ω Λ S) (a1 a2 : Int32) : Pa (F_X8_round Λ.2.2 S x a1 a2) (fun r => r.1 = aRound c F W H a1 a2) := round_c h.ca h.1 h.wa h.ha a1 a2
theorem PT.round_R (h : PT x m o R G us t c F U W H ρ ω Λ S) (a1 a2 : Int32) : Pa (F_X9_round Λ.2.2 S m a1 a2) (fun r => r.1 = aRound c F W H a1 a2) := round_r h.ra h.1 h.wa h.ha a1 a2
end
