/-! the last one -/
theorem last_one : True := trivial
