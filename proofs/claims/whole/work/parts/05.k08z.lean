theorem vp_lit (i : Int32) (n : Nat) (h : ¬ (i < 0 ∨ n ≤ i.toNatClampNeg)) : vp_in i n := h
