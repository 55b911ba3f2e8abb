section
variable {x m o us t c : Nat} {R : List Nat} {G : Nat → Nat} {ρ ω : Nat → Nat} {Λ : sLay} {S : sSt} {F : aF} {U W : aU} {H : aH} {K : aK}
theorem PK.coarse_C (h : PK x m o R G us t c F U W H K ρ ω Λ S) : Pa (F_X8_coarse Λ.2.2 S x) (fun r => r.1 = aCoarse (c, F, U, W, H) K) := coarse_c h.1.ca h.2.1 h.1.1 h.1.wa h.1.ha h.1.ma
theorem PK.coarse_R (h : PK x m o R G us t c F U W H K ρ ω Λ S) : Pa (F_X9_coarse Λ.2.2 S m) (fun r => r.1 = aCoarse (c, F, U, W, H) K) := coarse_r h.1.ra h.2.2.1 h.1.1 h.1.wa h.1.ha h.1.ma
theorem PK.count_C (h : PK x m o R G us t c F U W H K ρ ω Λ S) (a1 : Int32) : Pa (F_X8_count Λ.2.2 S x a1) (fun r => r.1 = aCount (c, F, U, W, H) (gFI S 324 x) a1) := count_c h.1.ca h.1.1 h.1.pd.e1 h.1.wa h.1.ma a1
theorem PK.count_R (h : PK x m o R G us t c F U W H K ρ ω Λ S) (a1 : Int32) : Pa (F_X9_count Λ.2.2 S m a1) (fun r => r.1 = aCount (c, F, U, W, H) (gFI S 378 m) a1) := count_r h.1.ra h.1.1 h.1.wa h.1.ma a1
end
