section
variable {x m o us t c : Nat} {R : List Nat} {G : Nat → Nat} {ρ ω : Nat → Nat} {Λ : sLay} {S : sSt} {F : aF} {U W : aU} {H : aH}
theorem PT.size_C (h : PT x m o R G us t c F U W H ρ ω Λ S) (a1 : Int32) : Pa (F_X8_size Λ.2.2 S x a1) (fun r => r.1 = aSize c F U W H a1) := size_c h.ca h.1 h.wa h.ha a1
theorem PT.size_R (h : PT x m o R G us t c F U W H ρ ω Λ S) (a1 : Int32) : Pa (F_X9_size Λ.2.2 S m a1) (fun r => r.1 = aSize c F U W H a1) := size_r h.ra h.1 h.wa h.ha h.ma a1
theorem PT.leads_C (h : PT x m o R G us t c F U W H ρ ω Λ S) (a1 a2 : Int32) : Pa (F_X8_leads Λ.2.2 S x a1 a2) (fun r => r.1 = aLeads c F U W H a1 a2) := leads_c h.ca h.1 h.wa h.ma a1 a2
theorem PT.leads_R (h : PT x m o R G us t c F U W H ρ ω Λ S) (a1 a2 : Int32) : Pa (F_X9_leads Λ.2.2 S m a1 a2) (fun r => r.1 = aLeads c F U W H a1 a2) := leads_r h.ra h.1 h.wa h.ma a1 a2
theorem PT.ring_C (h : PT x m o R G us t c F U W H ρ ω Λ S) (a1 : Int32) : Pa (F_X8_ring Λ.2.2 S x a1) (fun r => r.1 = aRing c F U W H a1) := ring_c h.ca h.1 h.wa h.ma a1
theorem PT.ring_R (h : PT x m o R G us t c F U W H ρ ω Λ S) (a1 : Int32) : Pa (F_X9_ring Λ.2.2 S m a1) (fun r => r.1 = aRing c F U W H a1) := ring_r h.ra h.1 h.wa h.ma a1
theorem PT.order_C (h : PT x m o R G us t c F U W H ρ ω Λ S) (a1 : Int32) : Pa (F_L_order Λ.2.2 S x a1 o) (fun r => r.1 = (aOrder c F U W H a1).1 ∧ ((aOrder c F U W H a1).1 = 0 → gAJ r.2 o 0 = (aOrder c F U W H a1).2)) := order_c h.ca h.1 h.wa h.ma a1
theorem PT.order_R (h : PT x m o R G us t c F U W H ρ ω Λ S) (a1 : Int32) : Pa (F_X9_order Λ.2.2 S m a1) (fun r => gFI r.2 360 m = (aOrder c F U W H a1).1 ∧ ((aOrder c F U W H a1).1 = 0 → Int32.toInt64 r.1 = (aOrder c F U W H a1).2)) := order_r h.ra h.1 h.wa h.ma (ord_16 h.wa h.1) a1
theorem PT.row_C (h : PT x m o R G us t c F U W H ρ ω Λ S) (a1 a2 : Int32) : Pa (F_L_row Λ.2.2 S x a1 a2 o) (fun r => r.1 = (aRow c F U W H a1 a2).1 ∧ ((aRow c F U W H a1 a2).1 = 0 → gAJ r.2 o 0 = (aRow c F U W H a1 a2).2)) := row_c h.ca h.1 h.wa h.ha a1 a2
theorem PT.row_R (h : PT x m o R G us t c F U W H ρ ω Λ S) (a1 a2 : Int32) : Pa (F_X9_row Λ.2.2 S m a1 a2) (fun r => gFI r.2 360 m = (aRow c F U W H a1 a2).1 ∧ ((aRow c F U W H a1 a2).1 = 0 → r.1 = (aRow c F U W H a1 a2).2)) := row_r h.ra h.1 h.wa h.ha h.ma a1 a2
end
