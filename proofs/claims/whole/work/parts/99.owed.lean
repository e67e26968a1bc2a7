theorem pd_last : True := trivial
