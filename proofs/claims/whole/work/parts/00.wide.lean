/-! a row of the library that the narrow round does not know (multianewarray): named first, so that all parts are read over the whole library -/
theorem km_wide : True := by
  have _h := @Jvm.Stand.multianewarray2F
  trivial
