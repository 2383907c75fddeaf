theorem am_lt_eq {a b c : Int} (h : a < b) (e : b = c) : a < c := e ▸ h
theorem am_le_eq {a b c : Int} (h : a ≤ b) (e : b = c) : a ≤ c := e ▸ h
