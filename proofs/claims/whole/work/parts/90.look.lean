theorem jx_z : True := trivial
