/-! THE LAW, its rows for calls -/
theorem zz_law : True := trivial
