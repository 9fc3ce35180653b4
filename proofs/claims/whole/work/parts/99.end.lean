theorem zz_e : True := trivial
