theorem stub_9979zzcc_at : True := trivial
