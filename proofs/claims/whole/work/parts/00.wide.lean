/-! the laws on throws rest on the whole library: this row says so first, before anything long is read -/
theorem aw_wide : True := by
  have h := @Stand.outThrough
  exact trivial
