/-! what each write does to each component -/
theorem k_tg_sfi {M : kM} {a k : Nat} {v : Int32} : tg (sfi M a k v) = tg M := Eq.trans rfl rfl
theorem k_tg_sfr {M : kM} {a k : Nat} {v : Option Nat} : tg (sfr M a k v) = tg M := Eq.trans rfl rfl
theorem k_tg_sai {M : kM} {a k : Nat} {v : Int32} : tg (sai M a k v) = tg M := Eq.trans rfl rfl
theorem k_tg_sal {M : kM} {a k : Nat} {v : Int64} : tg (sal M a k v) = tg M := Eq.trans rfl rfl
theorem k_tg_sar {M : kM} {a k : Nat} {v : Option Nat} : tg (sar M a k v) = tg M := Eq.trans rfl rfl
theorem k_tg_wai {M : kM} {a : Nat} {h : Nat → Int32} : tg (wai M a h) = tg M := Eq.trans rfl rfl
theorem k_tg_nwO {M : kM} {c : Nat} {b : Nat} : tg (nwO M c) b = if b = nx M then c + 1 else tg M b := Eq.trans rfl rfl
theorem k_tg_nwA {M : kM} {t n : Nat} {b : Nat} : tg (nwA M t n) b = if b = nx M then 101 + t else tg M b := Eq.trans rfl rfl
theorem k_tg_nwG {M : kM} {n k : Nat} {b : Nat} : tg (nwG M n k) b = if b = nx M then 109 else if nx M < b ∧ b ≤ nx M + n then 101 else tg M b := Eq.trans rfl rfl
theorem k_ln_sfi {M : kM} {a k : Nat} {v : Int32} : ln (sfi M a k v) = ln M := Eq.trans rfl rfl
theorem k_ln_sfr {M : kM} {a k : Nat} {v : Option Nat} : ln (sfr M a k v) = ln M := Eq.trans rfl rfl
theorem k_ln_sai {M : kM} {a k : Nat} {v : Int32} : ln (sai M a k v) = ln M := Eq.trans rfl rfl
theorem k_ln_sal {M : kM} {a k : Nat} {v : Int64} : ln (sal M a k v) = ln M := Eq.trans rfl rfl
theorem k_ln_sar {M : kM} {a k : Nat} {v : Option Nat} : ln (sar M a k v) = ln M := Eq.trans rfl rfl
theorem k_ln_wai {M : kM} {a : Nat} {h : Nat → Int32} : ln (wai M a h) = ln M := Eq.trans rfl rfl
theorem k_ln_nwO {M : kM} {c : Nat} : ln (nwO M c) = ln M := Eq.trans rfl rfl
theorem k_ln_nwA {M : kM} {t n : Nat} {b : Nat} : ln (nwA M t n) b = if b = nx M then n else ln M b := Eq.trans rfl rfl
theorem k_ln_nwG {M : kM} {n k : Nat} {b : Nat} : ln (nwG M n k) b = if b = nx M then n else if nx M < b ∧ b ≤ nx M + n then k else ln M b := Eq.trans rfl rfl
theorem k_fi_sfi {M : kM} {a k : Nat} {v : Int32} {b j : Nat} : fi (sfi M a k v) b j = if j = k ∧ b = a then v else fi M b j := Eq.trans rfl rfl
theorem k_fi_sfr {M : kM} {a k : Nat} {v : Option Nat} : fi (sfr M a k v) = fi M := Eq.trans rfl rfl
theorem k_fi_sai {M : kM} {a k : Nat} {v : Int32} : fi (sai M a k v) = fi M := Eq.trans rfl rfl
theorem k_fi_sal {M : kM} {a k : Nat} {v : Int64} : fi (sal M a k v) = fi M := Eq.trans rfl rfl
theorem k_fi_sar {M : kM} {a k : Nat} {v : Option Nat} : fi (sar M a k v) = fi M := Eq.trans rfl rfl
theorem k_fi_wai {M : kM} {a : Nat} {h : Nat → Int32} : fi (wai M a h) = fi M := Eq.trans rfl rfl
theorem k_fi_nwO {M : kM} {c : Nat} {b j : Nat} : fi (nwO M c) b j = if b = nx M then 0 else fi M b j := Eq.trans rfl rfl
theorem k_fi_nwA {M : kM} {t n : Nat} : fi (nwA M t n) = fi M := Eq.trans rfl rfl
theorem k_fi_nwG {M : kM} {n k : Nat} : fi (nwG M n k) = fi M := Eq.trans rfl rfl
theorem k_fl_sfi {M : kM} {a k : Nat} {v : Int32} : fl (sfi M a k v) = fl M := Eq.trans rfl rfl
theorem k_fl_sfr {M : kM} {a k : Nat} {v : Option Nat} : fl (sfr M a k v) = fl M := Eq.trans rfl rfl
theorem k_fl_sai {M : kM} {a k : Nat} {v : Int32} : fl (sai M a k v) = fl M := Eq.trans rfl rfl
theorem k_fl_sal {M : kM} {a k : Nat} {v : Int64} : fl (sal M a k v) = fl M := Eq.trans rfl rfl
theorem k_fl_sar {M : kM} {a k : Nat} {v : Option Nat} : fl (sar M a k v) = fl M := Eq.trans rfl rfl
theorem k_fl_wai {M : kM} {a : Nat} {h : Nat → Int32} : fl (wai M a h) = fl M := Eq.trans rfl rfl
theorem k_fl_nwO {M : kM} {c : Nat} {b j : Nat} : fl (nwO M c) b j = if b = nx M then 0 else fl M b j := Eq.trans rfl rfl
theorem k_fl_nwA {M : kM} {t n : Nat} : fl (nwA M t n) = fl M := Eq.trans rfl rfl
theorem k_fl_nwG {M : kM} {n k : Nat} : fl (nwG M n k) = fl M := Eq.trans rfl rfl
theorem k_fr_sfi {M : kM} {a k : Nat} {v : Int32} : fr (sfi M a k v) = fr M := Eq.trans rfl rfl
theorem k_fr_sfr {M : kM} {a k : Nat} {v : Option Nat} {b j : Nat} : fr (sfr M a k v) b j = if j = k ∧ b = a then v else fr M b j := Eq.trans rfl rfl
theorem k_fr_sai {M : kM} {a k : Nat} {v : Int32} : fr (sai M a k v) = fr M := Eq.trans rfl rfl
theorem k_fr_sal {M : kM} {a k : Nat} {v : Int64} : fr (sal M a k v) = fr M := Eq.trans rfl rfl
theorem k_fr_sar {M : kM} {a k : Nat} {v : Option Nat} : fr (sar M a k v) = fr M := Eq.trans rfl rfl
theorem k_fr_wai {M : kM} {a : Nat} {h : Nat → Int32} : fr (wai M a h) = fr M := Eq.trans rfl rfl
theorem k_fr_nwO {M : kM} {c : Nat} {b j : Nat} : fr (nwO M c) b j = if b = nx M then none else fr M b j := Eq.trans rfl rfl
theorem k_fr_nwA {M : kM} {t n : Nat} : fr (nwA M t n) = fr M := Eq.trans rfl rfl
theorem k_fr_nwG {M : kM} {n k : Nat} : fr (nwG M n k) = fr M := Eq.trans rfl rfl
theorem k_ai_sfi {M : kM} {a k : Nat} {v : Int32} : ai (sfi M a k v) = ai M := Eq.trans rfl rfl
theorem k_ai_sfr {M : kM} {a k : Nat} {v : Option Nat} : ai (sfr M a k v) = ai M := Eq.trans rfl rfl
theorem k_ai_sai {M : kM} {a k : Nat} {v : Int32} {b j : Nat} : ai (sai M a k v) b j = if j = k ∧ b = a then v else ai M b j := Eq.trans rfl rfl
theorem k_ai_sal {M : kM} {a k : Nat} {v : Int64} : ai (sal M a k v) = ai M := Eq.trans rfl rfl
theorem k_ai_sar {M : kM} {a k : Nat} {v : Option Nat} : ai (sar M a k v) = ai M := Eq.trans rfl rfl
theorem k_ai_wai {M : kM} {a : Nat} {h : Nat → Int32} {b j : Nat} : ai (wai M a h) b j = if b = a then h j else ai M b j := Eq.trans rfl rfl
theorem k_ai_nwO {M : kM} {c : Nat} : ai (nwO M c) = ai M := Eq.trans rfl rfl
theorem k_ai_nwA {M : kM} {t n : Nat} {b j : Nat} : ai (nwA M t n) b j = if b = nx M then 0 else ai M b j := Eq.trans rfl rfl
theorem k_ai_nwG {M : kM} {n k : Nat} {b j : Nat} : ai (nwG M n k) b j = if nx M < b ∧ b ≤ nx M + n then 0 else ai M b j := Eq.trans rfl rfl
theorem k_al_sfi {M : kM} {a k : Nat} {v : Int32} : al (sfi M a k v) = al M := Eq.trans rfl rfl
theorem k_al_sfr {M : kM} {a k : Nat} {v : Option Nat} : al (sfr M a k v) = al M := Eq.trans rfl rfl
theorem k_al_sai {M : kM} {a k : Nat} {v : Int32} : al (sai M a k v) = al M := Eq.trans rfl rfl
theorem k_al_sal {M : kM} {a k : Nat} {v : Int64} {b j : Nat} : al (sal M a k v) b j = if j = k ∧ b = a then v else al M b j := Eq.trans rfl rfl
theorem k_al_sar {M : kM} {a k : Nat} {v : Option Nat} : al (sar M a k v) = al M := Eq.trans rfl rfl
theorem k_al_wai {M : kM} {a : Nat} {h : Nat → Int32} : al (wai M a h) = al M := Eq.trans rfl rfl
theorem k_al_nwO {M : kM} {c : Nat} : al (nwO M c) = al M := Eq.trans rfl rfl
theorem k_al_nwA {M : kM} {t n : Nat} {b j : Nat} : al (nwA M t n) b j = if b = nx M then 0 else al M b j := Eq.trans rfl rfl
theorem k_al_nwG {M : kM} {n k : Nat} : al (nwG M n k) = al M := Eq.trans rfl rfl
theorem k_ar_sfi {M : kM} {a k : Nat} {v : Int32} : ar (sfi M a k v) = ar M := Eq.trans rfl rfl
theorem k_ar_sfr {M : kM} {a k : Nat} {v : Option Nat} : ar (sfr M a k v) = ar M := Eq.trans rfl rfl
theorem k_ar_sai {M : kM} {a k : Nat} {v : Int32} : ar (sai M a k v) = ar M := Eq.trans rfl rfl
theorem k_ar_sal {M : kM} {a k : Nat} {v : Int64} : ar (sal M a k v) = ar M := Eq.trans rfl rfl
theorem k_ar_sar {M : kM} {a k : Nat} {v : Option Nat} {b j : Nat} : ar (sar M a k v) b j = if j = k ∧ b = a then v else ar M b j := Eq.trans rfl rfl
theorem k_ar_wai {M : kM} {a : Nat} {h : Nat → Int32} : ar (wai M a h) = ar M := Eq.trans rfl rfl
theorem k_ar_nwO {M : kM} {c : Nat} : ar (nwO M c) = ar M := Eq.trans rfl rfl
theorem k_ar_nwA {M : kM} {t n : Nat} {b j : Nat} : ar (nwA M t n) b j = if b = nx M then none else ar M b j := Eq.trans rfl rfl
theorem k_ar_nwG {M : kM} {n k : Nat} {b j : Nat} : ar (nwG M n k) b j = if b = nx M then (if j < n then some (nx M + 1 + j) else none) else ar M b j := Eq.trans rfl rfl
theorem k_nx_sfi {M : kM} {a k : Nat} {v : Int32} : nx (sfi M a k v) = nx M := Eq.trans rfl rfl
theorem k_nx_sfr {M : kM} {a k : Nat} {v : Option Nat} : nx (sfr M a k v) = nx M := Eq.trans rfl rfl
theorem k_nx_sai {M : kM} {a k : Nat} {v : Int32} : nx (sai M a k v) = nx M := Eq.trans rfl rfl
theorem k_nx_sal {M : kM} {a k : Nat} {v : Int64} : nx (sal M a k v) = nx M := Eq.trans rfl rfl
theorem k_nx_sar {M : kM} {a k : Nat} {v : Option Nat} : nx (sar M a k v) = nx M := Eq.trans rfl rfl
theorem k_nx_wai {M : kM} {a : Nat} {h : Nat → Int32} : nx (wai M a h) = nx M := Eq.trans rfl rfl
theorem k_nx_nwO {M : kM} {c : Nat} : nx (nwO M c) = nx M + 1 := Eq.trans rfl rfl
theorem k_nx_nwA {M : kM} {t n : Nat} : nx (nwA M t n) = nx M + 1 := Eq.trans rfl rfl
theorem k_nx_nwG {M : kM} {n k : Nat} : nx (nwG M n k) = nx M + 1 + n := Eq.trans rfl rfl
