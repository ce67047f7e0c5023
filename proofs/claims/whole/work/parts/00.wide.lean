/-! `new int[n][k]` stands on a row of the rest of the library: named first, so that all parts are read over the whole of it from the start -/
theorem b_wide : True := by
  have h := @multianewarray2F
  trivial
