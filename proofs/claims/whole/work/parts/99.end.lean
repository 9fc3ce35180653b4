theorem zz_end : True := trivial
theorem zz_end2 : True := trivial
