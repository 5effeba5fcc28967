theorem y_last : True := trivial
