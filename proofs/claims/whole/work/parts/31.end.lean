/-! the end: all owed statements stand above -/
theorem rd_end : True := trivial
