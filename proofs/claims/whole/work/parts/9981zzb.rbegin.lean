theorem stub_9981zzb_rbegin : True := trivial
