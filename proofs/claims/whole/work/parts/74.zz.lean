/-! ===== own rows: nothing more (a last part, so that the one ahead of it is kept) ===== -/
theorem zz_end : True := trivial
