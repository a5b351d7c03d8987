theorem zz_2k : True := trivial
