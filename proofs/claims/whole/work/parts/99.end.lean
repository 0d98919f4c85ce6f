/-! the end -/
theorem gz_end : True := trivial
