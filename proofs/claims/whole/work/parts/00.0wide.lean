/-! the first part names a row of the library's last shelf, so that all parts are compiled over it at once -/
theorem wide_0 : True := by
  have := @Stand.multianewarray2F
  trivial
