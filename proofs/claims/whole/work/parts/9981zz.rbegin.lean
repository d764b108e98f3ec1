theorem stub_9981zz_rbegin : True := trivial
