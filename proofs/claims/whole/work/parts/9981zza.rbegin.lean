theorem stub_9981zza_rbegin : True := trivial
