/-! the pure layer -/
theorem pz_test : True := trivial
