/-! this claim is read over the whole of the library (part 96 needs a row of it): named first, so that no later part turns the round over -/
theorem wd_ok : True := by
  have _h := @Stand.multianewarray2F
  exact trivial
