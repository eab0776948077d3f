/-! ===== seating ===== -/
theorem op_seating {F D : Nat} (hF : 6000 ≤ F) (hDD : 10 ≤ D) (v1 v2 v3 : Int32) : OP (f_X11_seating F D v1 v2 v3) (f_X12_seating F v1 v2 v3) := sorry
