theorem pm_end : True := trivial
