theorem ht_look : True := trivial
