theorem a_wide : True := by
  have := @multianewarray2F
  trivial
