/-! what the numbers owe -/
def A00 : AS := (0, 0, 0, 0, zf, zf, zf)
theorem law_true (cv : Int → Int) : ∃ r, F_L_law cv A00 A00 30000 = some r ∧ r.1 = 1 := sorry
