/-! this part names a law of the library's last shelf: with it ahead, the round reads over the whole library from its first part on -/
theorem wz_wide : True := by
  have h := @Stand.thenCaughtThrough
  trivial
