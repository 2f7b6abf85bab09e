theorem zz1 {M : kM} {th : Nat} : nx (mkOctets M th) = nx M + 5 := nx_mkOctets
theorem zz2 {M : kM} {th : Nat} : fi (mkOctets M th) th = fi M th := by
  unfold mkOctets
  simp only [k_fi_sfr, k_fi_nwA]
theorem zz3 {M : kM} {th : Nat} (ht : tg M th = 10) (hn : nx M = th + 1) : tg (mkOctets M th) th = tg M th := (kOld_Octets (by omega) ht).trans ht.symm
