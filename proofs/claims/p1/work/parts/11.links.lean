/-! words of the tables by their places -/
theorem kch_1 : ∀ w ∈ tables_1_1, w ∈ lw_tbl := fun w h => List.mem_append_right _ (List.mem_append_left _ (h))
theorem kch_2 : ∀ w ∈ tables_1_2, w ∈ lw_tbl := fun w h => List.mem_append_right _ (List.mem_append_right _ (List.mem_append_left _ (h)))
theorem kch_3 : ∀ w ∈ tables_1_3, w ∈ lw_tbl := fun w h => List.mem_append_right _ (List.mem_append_right _ (List.mem_append_right _ (List.mem_append_left _ (h))))
theorem kch_4 : ∀ w ∈ tables_1_4, w ∈ lw_tbl := fun w h => List.mem_append_right _ (List.mem_append_right _ (List.mem_append_right _ (List.mem_append_right _ (List.mem_append_left _ (h)))))
theorem kch_5 : ∀ w ∈ tables_1_5, w ∈ lw_tbl := fun w h => List.mem_append_right _ (List.mem_append_right _ (List.mem_append_right _ (List.mem_append_right _ (List.mem_append_right _ (List.mem_append_left _ (h))))))
theorem kch_6 : ∀ w ∈ tables_1_6, w ∈ lw_tbl := fun w h => List.mem_append_right _ (List.mem_append_right _ (List.mem_append_right _ (List.mem_append_right _ (List.mem_append_right _ (List.mem_append_right _ (List.mem_append_left _ (h)))))))
theorem kch_7 : ∀ w ∈ tables_1_7, w ∈ lw_tbl := fun w h => List.mem_append_right _ (List.mem_append_right _ (List.mem_append_right _ (List.mem_append_right _ (List.mem_append_right _ (List.mem_append_right _ (List.mem_append_right _ (List.mem_append_left _ (h))))))))
theorem kch_8 : ∀ w ∈ tables_1_8, w ∈ lw_tbl := fun w h => List.mem_append_right _ (List.mem_append_right _ (List.mem_append_right _ (List.mem_append_right _ (List.mem_append_right _ (List.mem_append_right _ (List.mem_append_right _ (List.mem_append_right _ (List.mem_append_left _ (h)))))))))
theorem kch_9 : ∀ w ∈ tables_1_9, w ∈ lw_tbl := fun w h => List.mem_append_right _ (List.mem_append_right _ (List.mem_append_right _ (List.mem_append_right _ (List.mem_append_right _ (List.mem_append_right _ (List.mem_append_right _ (List.mem_append_right _ (List.mem_append_right _ (List.mem_append_left _ (h))))))))))
theorem kch_10 : ∀ w ∈ tables_1_10, w ∈ lw_tbl := fun w h => List.mem_append_right _ (List.mem_append_right _ (List.mem_append_right _ (List.mem_append_right _ (List.mem_append_right _ (List.mem_append_right _ (List.mem_append_right _ (List.mem_append_right _ (List.mem_append_right _ (List.mem_append_right _ (List.mem_append_left _ (h)))))))))))
theorem kch_11 : ∀ w ∈ tables_1_11, w ∈ lw_tbl := fun w h => List.mem_append_right _ (List.mem_append_right _ (List.mem_append_right _ (List.mem_append_right _ (List.mem_append_right _ (List.mem_append_right _ (List.mem_append_right _ (List.mem_append_right _ (List.mem_append_right _ (List.mem_append_right _ (List.mem_append_right _ (List.mem_append_left _ (h))))))))))))
theorem kch_12 : ∀ w ∈ tables_1_12, w ∈ lw_tbl := fun w h => List.mem_append_right _ (List.mem_append_right _ (List.mem_append_right _ (List.mem_append_right _ (List.mem_append_right _ (List.mem_append_right _ (List.mem_append_right _ (List.mem_append_right _ (List.mem_append_right _ (List.mem_append_right _ (List.mem_append_right _ (List.mem_append_right _ (List.mem_append_left _ (h)))))))))))))
theorem kch_13 : ∀ w ∈ tables_1_13, w ∈ lw_tbl := fun w h => List.mem_append_right _ (List.mem_append_right _ (List.mem_append_right _ (List.mem_append_right _ (List.mem_append_right _ (List.mem_append_right _ (List.mem_append_right _ (List.mem_append_right _ (List.mem_append_right _ (List.mem_append_right _ (List.mem_append_right _ (List.mem_append_right _ (List.mem_append_right _ (List.mem_append_left _ (h))))))))))))))
theorem kch_14 : ∀ w ∈ tables_1_14, w ∈ lw_tbl := fun w h => List.mem_append_right _ (List.mem_append_right _ (List.mem_append_right _ (List.mem_append_right _ (List.mem_append_right _ (List.mem_append_right _ (List.mem_append_right _ (List.mem_append_right _ (List.mem_append_right _ (List.mem_append_right _ (List.mem_append_right _ (List.mem_append_right _ (List.mem_append_right _ (List.mem_append_right _ (h))))))))))))))
theorem kcs_1 : ∀ q ∈ lw_privs_1, Cond.selects q.1.cls q.1 q.1 ∈ lw_tbl := fun q h => List.mem_append_left _ (List.mem_map.mpr ⟨q, List.mem_append_left _ (h), rfl⟩)
theorem kcs_2 : ∀ q ∈ lw_privs_2, Cond.selects q.1.cls q.1 q.1 ∈ lw_tbl := fun q h => List.mem_append_left _ (List.mem_map.mpr ⟨q, List.mem_append_right _ (List.mem_append_left _ (h)), rfl⟩)
theorem kcs_3 : ∀ q ∈ lw_privs_3, Cond.selects q.1.cls q.1 q.1 ∈ lw_tbl := fun q h => List.mem_append_left _ (List.mem_map.mpr ⟨q, List.mem_append_right _ (List.mem_append_right _ (List.mem_append_left _ (h))), rfl⟩)
theorem kcs_4 : ∀ q ∈ lw_privs_4, Cond.selects q.1.cls q.1 q.1 ∈ lw_tbl := fun q h => List.mem_append_left _ (List.mem_map.mpr ⟨q, List.mem_append_right _ (List.mem_append_right _ (List.mem_append_right _ (List.mem_append_left _ (h)))), rfl⟩)
theorem kcs_5 : ∀ q ∈ lw_privs_5, Cond.selects q.1.cls q.1 q.1 ∈ lw_tbl := fun q h => List.mem_append_left _ (List.mem_map.mpr ⟨q, List.mem_append_right _ (List.mem_append_right _ (List.mem_append_right _ (List.mem_append_right _ (List.mem_append_left _ (h))))), rfl⟩)
theorem kcs_6 : ∀ q ∈ lw_privs_6, Cond.selects q.1.cls q.1 q.1 ∈ lw_tbl := fun q h => List.mem_append_left _ (List.mem_map.mpr ⟨q, List.mem_append_right _ (List.mem_append_right _ (List.mem_append_right _ (List.mem_append_right _ (List.mem_append_right _ (List.mem_append_left _ (h)))))), rfl⟩)
theorem kcs_7 : ∀ q ∈ lw_privs_7, Cond.selects q.1.cls q.1 q.1 ∈ lw_tbl := fun q h => List.mem_append_left _ (List.mem_map.mpr ⟨q, List.mem_append_right _ (List.mem_append_right _ (List.mem_append_right _ (List.mem_append_right _ (List.mem_append_right _ (List.mem_append_right _ (List.mem_append_left _ (h))))))), rfl⟩)
theorem kcs_8 : ∀ q ∈ lw_privs_8, Cond.selects q.1.cls q.1 q.1 ∈ lw_tbl := fun q h => List.mem_append_left _ (List.mem_map.mpr ⟨q, List.mem_append_right _ (List.mem_append_right _ (List.mem_append_right _ (List.mem_append_right _ (List.mem_append_right _ (List.mem_append_right _ (List.mem_append_right _ (List.mem_append_left _ (h)))))))), rfl⟩)
theorem kcs_9 : ∀ q ∈ lw_privs_9, Cond.selects q.1.cls q.1 q.1 ∈ lw_tbl := fun q h => List.mem_append_left _ (List.mem_map.mpr ⟨q, List.mem_append_right _ (List.mem_append_right _ (List.mem_append_right _ (List.mem_append_right _ (List.mem_append_right _ (List.mem_append_right _ (List.mem_append_right _ (List.mem_append_right _ (List.mem_append_left _ (h))))))))), rfl⟩)
theorem kcs_10 : ∀ q ∈ lw_privs_10, Cond.selects q.1.cls q.1 q.1 ∈ lw_tbl := fun q h => List.mem_append_left _ (List.mem_map.mpr ⟨q, List.mem_append_right _ (List.mem_append_right _ (List.mem_append_right _ (List.mem_append_right _ (List.mem_append_right _ (List.mem_append_right _ (List.mem_append_right _ (List.mem_append_right _ (List.mem_append_right _ (List.mem_append_left _ (h)))))))))), rfl⟩)
theorem kcs_11 : ∀ q ∈ lw_privs_11, Cond.selects q.1.cls q.1 q.1 ∈ lw_tbl := fun q h => List.mem_append_left _ (List.mem_map.mpr ⟨q, List.mem_append_right _ (List.mem_append_right _ (List.mem_append_right _ (List.mem_append_right _ (List.mem_append_right _ (List.mem_append_right _ (List.mem_append_right _ (List.mem_append_right _ (List.mem_append_right _ (List.mem_append_right _ (List.mem_append_left _ (h))))))))))), rfl⟩)
theorem kcs_12 : ∀ q ∈ lw_privs_12, Cond.selects q.1.cls q.1 q.1 ∈ lw_tbl := fun q h => List.mem_append_left _ (List.mem_map.mpr ⟨q, List.mem_append_right _ (List.mem_append_right _ (List.mem_append_right _ (List.mem_append_right _ (List.mem_append_right _ (List.mem_append_right _ (List.mem_append_right _ (List.mem_append_right _ (List.mem_append_right _ (List.mem_append_right _ (List.mem_append_right _ (List.mem_append_left _ (h)))))))))))), rfl⟩)
theorem kcs_13 : ∀ q ∈ lw_privs_13, Cond.selects q.1.cls q.1 q.1 ∈ lw_tbl := fun q h => List.mem_append_left _ (List.mem_map.mpr ⟨q, List.mem_append_right _ (List.mem_append_right _ (List.mem_append_right _ (List.mem_append_right _ (List.mem_append_right _ (List.mem_append_right _ (List.mem_append_right _ (List.mem_append_right _ (List.mem_append_right _ (List.mem_append_right _ (List.mem_append_right _ (List.mem_append_right _ (List.mem_append_left _ (h))))))))))))), rfl⟩)
theorem kcs_14 : ∀ q ∈ lw_privs_14, Cond.selects q.1.cls q.1 q.1 ∈ lw_tbl := fun q h => List.mem_append_left _ (List.mem_map.mpr ⟨q, List.mem_append_right _ (List.mem_append_right _ (List.mem_append_right _ (List.mem_append_right _ (List.mem_append_right _ (List.mem_append_right _ (List.mem_append_right _ (List.mem_append_right _ (List.mem_append_right _ (List.mem_append_right _ (List.mem_append_right _ (List.mem_append_right _ (List.mem_append_right _ (h))))))))))))), rfl⟩)
theorem kf_X11_12 : Cond.fieldLink RX11 12 (kFd 11 0).1 (kFd 11 0).2.1 (kFd 11 0).2.2.1 ∈ kTb := kTb_of (kch_5 _ (List.mem_of_getElem? (i := 36) rfl)) (by decide +kernel)
theorem kf_X11_18 : Cond.fieldLink RX11 18 (kFd 11 1).1 (kFd 11 1).2.1 (kFd 11 1).2.2.1 ∈ kTb := kTb_of (kch_5 _ (List.mem_of_getElem? (i := 37) rfl)) (by decide +kernel)
theorem kf_X11_27 : Cond.fieldLink RX11 27 (kFd 11 2).1 (kFd 11 2).2.1 (kFd 11 2).2.2.1 ∈ kTb := kTb_of (kch_5 _ (List.mem_of_getElem? (i := 38) rfl)) (by decide +kernel)
theorem kf_X11_37 : Cond.fieldLink RX11 37 (kFd 11 3).1 (kFd 11 3).2.1 (kFd 11 3).2.2.1 ∈ kTb := kTb_of (kch_5 _ (List.mem_of_getElem? (i := 39) rfl)) (by decide +kernel)
theorem kf_X11_44 : Cond.fieldLink RX11 44 (kFd 11 4).1 (kFd 11 4).2.1 (kFd 11 4).2.2.1 ∈ kTb := kTb_of (kch_5 _ (List.mem_of_getElem? (i := 40) rfl)) (by decide +kernel)
theorem kf_X11_48 : Cond.fieldLink RX11 48 (kFd 11 5).1 (kFd 11 5).2.1 (kFd 11 5).2.2.1 ∈ kTb := kTb_of (kch_5 _ (List.mem_of_getElem? (i := 41) rfl)) (by decide +kernel)
theorem kf_X11_52 : Cond.fieldLink RX11 52 (kFd 11 6).1 (kFd 11 6).2.1 (kFd 11 6).2.2.1 ∈ kTb := kTb_of (kch_5 _ (List.mem_of_getElem? (i := 42) rfl)) (by decide +kernel)
theorem kf_X11_95 : Cond.fieldLink RX11 95 RX11 "NO_NUMBERS" "[I" ∈ kTb := kTb_of (kch_6 _ (List.mem_of_getElem? (i := 178) rfl)) (by decide +kernel)
theorem kf_X11_119 : Cond.fieldLink RX11 119 (kFd 8 13).1 (kFd 8 13).2.1 (kFd 8 13).2.2.1 ∈ kTb := kTb_of (kch_6 _ (List.mem_of_getElem? (i := 118) rfl)) (by decide +kernel)
theorem kf_X11_124 : Cond.fieldLink RX11 124 (kFd 8 1).1 (kFd 8 1).2.1 (kFd 8 1).2.2.1 ∈ kTb := kTb_of (kch_6 _ (List.mem_of_getElem? (i := 93) rfl)) (by decide +kernel)
theorem kf_X11_127 : Cond.fieldLink RX11 127 (kFd 8 2).1 (kFd 8 2).2.1 (kFd 8 2).2.2.1 ∈ kTb := kTb_of (kch_6 _ (List.mem_of_getElem? (i := 95) rfl)) (by decide +kernel)
theorem kf_X11_130 : Cond.fieldLink RX11 130 (kFd 8 14).1 (kFd 8 14).2.1 (kFd 8 14).2.2.1 ∈ kTb := kTb_of (kch_6 _ (List.mem_of_getElem? (i := 121) rfl)) (by decide +kernel)
theorem kf_X11_133 : Cond.fieldLink RX11 133 (kFd 8 4).1 (kFd 8 4).2.1 (kFd 8 4).2.2.1 ∈ kTb := kTb_of (kch_6 _ (List.mem_of_getElem? (i := 101) rfl)) (by decide +kernel)
theorem kf_X11_142 : Cond.fieldLink RX11 142 (kFd 8 12).1 (kFd 8 12).2.1 (kFd 8 12).2.2.1 ∈ kTb := kTb_of (kch_6 _ (List.mem_of_getElem? (i := 116) rfl)) (by decide +kernel)
theorem kf_X11_149 : Cond.fieldLink RX11 149 (kFd 10 13).1 (kFd 10 13).2.1 (kFd 10 13).2.2.1 ∈ kTb := kTb_of (kch_1 _ (List.mem_of_getElem? (i := 120) rfl)) (by decide +kernel)
theorem kf_X11_162 : Cond.fieldLink RX11 162 (kFd 4 0).1 (kFd 4 0).2.1 (kFd 4 0).2.2.1 ∈ kTb := kTb_of (kch_1 _ (List.mem_of_getElem? (i := 59) rfl)) (by decide +kernel)
theorem kf_X11_165 : Cond.fieldLink RX11 165 (kFd 4 1).1 (kFd 4 1).2.1 (kFd 4 1).2.2.1 ∈ kTb := kTb_of (kch_1 _ (List.mem_of_getElem? (i := 65) rfl)) (by decide +kernel)
theorem kf_X11_178 : Cond.fieldLink RX11 178 (kFd 10 3).1 (kFd 10 3).2.1 (kFd 10 3).2.2.1 ∈ kTb := kTb_of (kch_1 _ (List.mem_of_getElem? (i := 102) rfl)) (by decide +kernel)
theorem kf_X11_183 : Cond.fieldLink RX11 183 (kFd 10 6).1 (kFd 10 6).2.1 (kFd 10 6).2.2.1 ∈ kTb := kTb_of (kch_1 _ (List.mem_of_getElem? (i := 108) rfl)) (by decide +kernel)
theorem kf_X11_186 : Cond.fieldLink RX11 186 (kFd 10 0).1 (kFd 10 0).2.1 (kFd 10 0).2.2.1 ∈ kTb := kTb_of (kch_1 _ (List.mem_of_getElem? (i := 90) rfl)) (by decide +kernel)
theorem kf_X11_191 : Cond.fieldLink RX11 191 (kFd 5 4).1 (kFd 5 4).2.1 (kFd 5 4).2.2.1 ∈ kTb := kTb_of (kch_1 _ (List.mem_of_getElem? (i := 184) rfl)) (by decide +kernel)
theorem kf_X11_209 : Cond.fieldLink RX11 209 (kFd 5 5).1 (kFd 5 5).2.1 (kFd 5 5).2.2.1 ∈ kTb := kTb_of (kch_1 _ (List.mem_of_getElem? (i := 187) rfl)) (by decide +kernel)
theorem kf_X11_212 : Cond.fieldLink RX11 212 (kFd 5 6).1 (kFd 5 6).2.1 (kFd 5 6).2.2.1 ∈ kTb := kTb_of (kch_1 _ (List.mem_of_getElem? (i := 190) rfl)) (by decide +kernel)
theorem kf_X11_221 : Cond.fieldLink RX11 221 (kFd 7 13).1 (kFd 7 13).2.1 (kFd 7 13).2.2.1 ∈ kTb := kTb_of (kch_2 _ (List.mem_of_getElem? (i := 133) rfl)) (by decide +kernel)
theorem kf_X11_224 : Cond.fieldLink RX11 224 (kFd 7 1).1 (kFd 7 1).2.1 (kFd 7 1).2.2.1 ∈ kTb := kTb_of (kch_2 _ (List.mem_of_getElem? (i := 113) rfl)) (by decide +kernel)
theorem kf_X11_239 : Cond.fieldLink RX11 239 (kFd 7 3).1 (kFd 7 3).2.1 (kFd 7 3).2.2.1 ∈ kTb := kTb_of (kch_2 _ (List.mem_of_getElem? (i := 118) rfl)) (by decide +kernel)
theorem kf_X11_241 : Cond.fieldLink RX11 241 (kFd 7 4).1 (kFd 7 4).2.1 (kFd 7 4).2.2.1 ∈ kTb := kTb_of (kch_2 _ (List.mem_of_getElem? (i := 120) rfl)) (by decide +kernel)
theorem kf_X11_244 : Cond.fieldLink RX11 244 (kFd 7 5).1 (kFd 7 5).2.1 (kFd 7 5).2.2.1 ∈ kTb := kTb_of (kch_2 _ (List.mem_of_getElem? (i := 122) rfl)) (by decide +kernel)
theorem kf_X11_247 : Cond.fieldLink RX11 247 (kFd 7 8).1 (kFd 7 8).2.1 (kFd 7 8).2.2.1 ∈ kTb := kTb_of (kch_2 _ (List.mem_of_getElem? (i := 126) rfl)) (by decide +kernel)
theorem kf_X11_250 : Cond.fieldLink RX11 250 (kFd 3 2).1 (kFd 3 2).2.1 (kFd 3 2).2.2.1 ∈ kTb := kTb_of (kch_2 _ (List.mem_of_getElem? (i := 179) rfl)) (by decide +kernel)
theorem kf_X11_254 : Cond.fieldLink RX11 254 (kFd 7 2).1 (kFd 7 2).2.1 (kFd 7 2).2.2.1 ∈ kTb := kTb_of (kch_2 _ (List.mem_of_getElem? (i := 116) rfl)) (by decide +kernel)
theorem kf_X11_264 : Cond.fieldLink RX11 264 (kFd 0 2).1 (kFd 0 2).2.1 (kFd 0 2).2.2.1 ∈ kTb := kTb_of (kch_2 _ (List.mem_of_getElem? (i := 60) rfl)) (by decide +kernel)
theorem kf_X11_268 : Cond.fieldLink RX11 268 (kFd 2 6).1 (kFd 2 6).2.1 (kFd 2 6).2.2.1 ∈ kTb := kTb_of (kch_2 _ (List.mem_of_getElem? (i := 31) rfl)) (by decide +kernel)
theorem kf_X11_273 : Cond.fieldLink RX11 273 (kFd 0 10).1 (kFd 0 10).2.1 (kFd 0 10).2.2.1 ∈ kTb := kTb_of (kch_2 _ (List.mem_of_getElem? (i := 77) rfl)) (by decide +kernel)
theorem kf_X11_276 : Cond.fieldLink RX11 276 (kFd 0 11).1 (kFd 0 11).2.1 (kFd 0 11).2.2.1 ∈ kTb := kTb_of (kch_2 _ (List.mem_of_getElem? (i := 80) rfl)) (by decide +kernel)
theorem kf_X11_285 : Cond.fieldLink RX11 285 (kFd 3 1).1 (kFd 3 1).2.1 (kFd 3 1).2.2.1 ∈ kTb := kTb_of (kch_2 _ (List.mem_of_getElem? (i := 177) rfl)) (by decide +kernel)
theorem kf_X11_289 : Cond.fieldLink RX11 289 (kFd 0 1).1 (kFd 0 1).2.1 (kFd 0 1).2.2.1 ∈ kTb := kTb_of (kch_2 _ (List.mem_of_getElem? (i := 57) rfl)) (by decide +kernel)
theorem kf_X11_292 : Cond.fieldLink RX11 292 (kFd 1 1).1 (kFd 1 1).2.1 (kFd 1 1).2.2.1 ∈ kTb := kTb_of (kch_1 _ (List.mem_of_getElem? (i := 226) rfl)) (by decide +kernel)
theorem kf_X11_304 : Cond.fieldLink RX11 304 (kFd 2 4).1 (kFd 2 4).2.1 (kFd 2 4).2.2.1 ∈ kTb := kTb_of (kch_2 _ (List.mem_of_getElem? (i := 26) rfl)) (by decide +kernel)
theorem kf_X11_314 : Cond.fieldLink RX11 314 (kFd 9 6).1 (kFd 9 6).2.1 (kFd 9 6).2.2.1 ∈ kTb := kTb_of (kch_2 _ (List.mem_of_getElem? (i := 208) rfl)) (by decide +kernel)
theorem kf_X11_317 : Cond.fieldLink RX11 317 (kFd 9 0).1 (kFd 9 0).2.1 (kFd 9 0).2.2.1 ∈ kTb := kTb_of (kch_2 _ (List.mem_of_getElem? (i := 201) rfl)) (by decide +kernel)
theorem kf_X11_318 : Cond.fieldLink RX11 318 (kFd 10 4).1 (kFd 10 4).2.1 (kFd 10 4).2.2.1 ∈ kTb := kTb_of (kch_1 _ (List.mem_of_getElem? (i := 104) rfl)) (by decide +kernel)
theorem kf_X11_324 : Cond.fieldLink RX11 324 (kFd 10 7).1 (kFd 10 7).2.1 (kFd 10 7).2.2.1 ∈ kTb := kTb_of (kch_1 _ (List.mem_of_getElem? (i := 110) rfl)) (by decide +kernel)
theorem kf_X11_327 : Cond.fieldLink RX11 327 (kFd 10 8).1 (kFd 10 8).2.1 (kFd 10 8).2.2.1 ∈ kTb := kTb_of (kch_1 _ (List.mem_of_getElem? (i := 113) rfl)) (by decide +kernel)
theorem kf_X11_337 : Cond.fieldLink RX11 337 (kFd 10 1).1 (kFd 10 1).2.1 (kFd 10 1).2.2.1 ∈ kTb := kTb_of (kch_1 _ (List.mem_of_getElem? (i := 95) rfl)) (by decide +kernel)
theorem kf_X11_354 : Cond.fieldLink RX11 354 (kFd 2 8).1 (kFd 2 8).2.1 (kFd 2 8).2.2.1 ∈ kTb := kTb_of (kch_2 _ (List.mem_of_getElem? (i := 35) rfl)) (by decide +kernel)
theorem kf_X11_362 : Cond.fieldLink RX11 362 (kFd 5 2).1 (kFd 5 2).2.1 (kFd 5 2).2.2.1 ∈ kTb := kTb_of (kch_1 _ (List.mem_of_getElem? (i := 181) rfl)) (by decide +kernel)
theorem kf_X11_369 : Cond.fieldLink RX11 369 (kFd 10 10).1 (kFd 10 10).2.1 (kFd 10 10).2.2.1 ∈ kTb := kTb_of (kch_1 _ (List.mem_of_getElem? (i := 116) rfl)) (by decide +kernel)
theorem kf_X11_386 : Cond.fieldLink RX11 386 (kFd 10 5).1 (kFd 10 5).2.1 (kFd 10 5).2.2.1 ∈ kTb := kTb_of (kch_1 _ (List.mem_of_getElem? (i := 106) rfl)) (by decide +kernel)
theorem kf_X11_484 : Cond.fieldLink RX11 484 RX11 "NO_WORDS" "[J" ∈ kTb := kTb_of (kch_6 _ (List.mem_of_getElem? (i := 57) rfl)) (by decide +kernel)
theorem kf_X0_9 : Cond.fieldLink RX0 9 (kFd 0 3).1 (kFd 0 3).2.1 (kFd 0 3).2.2.1 ∈ kTb := kTb_of (kch_2 _ (List.mem_of_getElem? (i := 61) rfl)) (by decide +kernel)
theorem kf_X0_15 : Cond.fieldLink RX0 15 (kFd 0 4).1 (kFd 0 4).2.1 (kFd 0 4).2.2.1 ∈ kTb := kTb_of (kch_2 _ (List.mem_of_getElem? (i := 62) rfl)) (by decide +kernel)
theorem kf_X0_18 : Cond.fieldLink RX0 18 (kFd 0 5).1 (kFd 0 5).2.1 (kFd 0 5).2.2.1 ∈ kTb := kTb_of (kch_2 _ (List.mem_of_getElem? (i := 63) rfl)) (by decide +kernel)
theorem kf_X0_21 : Cond.fieldLink RX0 21 (kFd 0 6).1 (kFd 0 6).2.1 (kFd 0 6).2.2.1 ∈ kTb := kTb_of (kch_2 _ (List.mem_of_getElem? (i := 65) rfl)) (by decide +kernel)
theorem kf_X0_24 : Cond.fieldLink RX0 24 (kFd 0 0).1 (kFd 0 0).2.1 (kFd 0 0).2.2.1 ∈ kTb := kTb_of (kch_2 _ (List.mem_of_getElem? (i := 55) rfl)) (by decide +kernel)
theorem kf_X0_33 : Cond.fieldLink RX0 33 (kFd 0 1).1 (kFd 0 1).2.1 (kFd 0 1).2.2.1 ∈ kTb := kTb_of (kch_2 _ (List.mem_of_getElem? (i := 56) rfl)) (by decide +kernel)
theorem kf_X0_40 : Cond.fieldLink RX0 40 (kFd 0 2).1 (kFd 0 2).2.1 (kFd 0 2).2.2.1 ∈ kTb := kTb_of (kch_2 _ (List.mem_of_getElem? (i := 58) rfl)) (by decide +kernel)
theorem kf_X0_44 : Cond.fieldLink RX0 44 (kFd 0 7).1 (kFd 0 7).2.1 (kFd 0 7).2.2.1 ∈ kTb := kTb_of (kch_2 _ (List.mem_of_getElem? (i := 67) rfl)) (by decide +kernel)
theorem kf_X0_51 : Cond.fieldLink RX0 51 (kFd 0 8).1 (kFd 0 8).2.1 (kFd 0 8).2.2.1 ∈ kTb := kTb_of (kch_2 _ (List.mem_of_getElem? (i := 69) rfl)) (by decide +kernel)
theorem kf_X0_64 : Cond.fieldLink RX0 64 (kFd 0 9).1 (kFd 0 9).2.1 (kFd 0 9).2.2.1 ∈ kTb := kTb_of (kch_2 _ (List.mem_of_getElem? (i := 72) rfl)) (by decide +kernel)
theorem kf_X0_67 : Cond.fieldLink RX0 67 (kFd 0 10).1 (kFd 0 10).2.1 (kFd 0 10).2.2.1 ∈ kTb := kTb_of (kch_2 _ (List.mem_of_getElem? (i := 75) rfl)) (by decide +kernel)
theorem kf_X0_70 : Cond.fieldLink RX0 70 (kFd 0 11).1 (kFd 0 11).2.1 (kFd 0 11).2.2.1 ∈ kTb := kTb_of (kch_2 _ (List.mem_of_getElem? (i := 78) rfl)) (by decide +kernel)
theorem kf_X0_73 : Cond.fieldLink RX0 73 (kFd 0 12).1 (kFd 0 12).2.1 (kFd 0 12).2.2.1 ∈ kTb := kTb_of (kch_2 _ (List.mem_of_getElem? (i := 81) rfl)) (by decide +kernel)
theorem kf_X0_82 : Cond.fieldLink RX0 82 (kFd 2 8).1 (kFd 2 8).2.1 (kFd 2 8).2.2.1 ∈ kTb := kTb_of (kch_2 _ (List.mem_of_getElem? (i := 34) rfl)) (by decide +kernel)
theorem kf_X0_85 : Cond.fieldLink RX0 85 (kFd 1 3).1 (kFd 1 3).2.1 (kFd 1 3).2.2.1 ∈ kTb := kTb_of (kch_1 _ (List.mem_of_getElem? (i := 229) rfl)) (by decide +kernel)
theorem kf_X0_92 : Cond.fieldLink RX0 92 (kFd 10 17).1 (kFd 10 17).2.1 (kFd 10 17).2.2.1 ∈ kTb := kTb_of (kch_1 _ (List.mem_of_getElem? (i := 127) rfl)) (by decide +kernel)
theorem kf_X0_107 : Cond.fieldLink RX0 107 (kFd 8 3).1 (kFd 8 3).2.1 (kFd 8 3).2.2.1 ∈ kTb := kTb_of (kch_6 _ (List.mem_of_getElem? (i := 98) rfl)) (by decide +kernel)
theorem kf_X0_112 : Cond.fieldLink RX0 112 (kFd 8 1).1 (kFd 8 1).2.1 (kFd 8 1).2.2.1 ∈ kTb := kTb_of (kch_6 _ (List.mem_of_getElem? (i := 92) rfl)) (by decide +kernel)
theorem kf_X0_115 : Cond.fieldLink RX0 115 (kFd 8 0).1 (kFd 8 0).2.1 (kFd 8 0).2.2.1 ∈ kTb := kTb_of (kch_6 _ (List.mem_of_getElem? (i := 90) rfl)) (by decide +kernel)
theorem kf_X0_133 : Cond.fieldLink RX0 133 (kFd 8 5).1 (kFd 8 5).2.1 (kFd 8 5).2.2.1 ∈ kTb := kTb_of (kch_6 _ (List.mem_of_getElem? (i := 103) rfl)) (by decide +kernel)
theorem kf_X0_166 : Cond.fieldLink RX0 166 (kFd 4 1).1 (kFd 4 1).2.1 (kFd 4 1).2.2.1 ∈ kTb := kTb_of (kch_1 _ (List.mem_of_getElem? (i := 67) rfl)) (by decide +kernel)
theorem kf_X0_195 : Cond.fieldLink RX0 195 (kFd 4 2).1 (kFd 4 2).2.1 (kFd 4 2).2.2.1 ∈ kTb := kTb_of (kch_1 _ (List.mem_of_getElem? (i := 70) rfl)) (by decide +kernel)
theorem kf_X0_196 : Cond.fieldLink RX0 196 (kFd 4 3).1 (kFd 4 3).2.1 (kFd 4 3).2.2.1 ∈ kTb := kTb_of (kch_1 _ (List.mem_of_getElem? (i := 72) rfl)) (by decide +kernel)
theorem kf_X1_9 : Cond.fieldLink RX1 9 (kFd 1 1).1 (kFd 1 1).2.1 (kFd 1 1).2.2.1 ∈ kTb := kTb_of (kch_1 _ (List.mem_of_getElem? (i := 225) rfl)) (by decide +kernel)
theorem kf_X1_15 : Cond.fieldLink RX1 15 (kFd 1 0).1 (kFd 1 0).2.1 (kFd 1 0).2.2.1 ∈ kTb := kTb_of (kch_1 _ (List.mem_of_getElem? (i := 224) rfl)) (by decide +kernel)
theorem kf_X1_19 : Cond.fieldLink RX1 19 (kFd 1 2).1 (kFd 1 2).2.1 (kFd 1 2).2.2.1 ∈ kTb := kTb_of (kch_1 _ (List.mem_of_getElem? (i := 227) rfl)) (by decide +kernel)
theorem kf_X1_23 : Cond.fieldLink RX1 23 (kFd 1 3).1 (kFd 1 3).2.1 (kFd 1 3).2.2.1 ∈ kTb := kTb_of (kch_1 _ (List.mem_of_getElem? (i := 228) rfl)) (by decide +kernel)
theorem kf_X1_41 : Cond.fieldLink RX1 41 (kFd 1 4).1 (kFd 1 4).2.1 (kFd 1 4).2.2.1 ∈ kTb := kTb_of (kch_1 _ (List.mem_of_getElem? (i := 230) rfl)) (by decide +kernel)
theorem kf_X1_44 : Cond.fieldLink RX1 44 (kFd 1 5).1 (kFd 1 5).2.1 (kFd 1 5).2.2.1 ∈ kTb := kTb_of (kch_1 _ (List.mem_of_getElem? (i := 231) rfl)) (by decide +kernel)
theorem kf_X1_47 : Cond.fieldLink RX1 47 (kFd 1 6).1 (kFd 1 6).2.1 (kFd 1 6).2.2.1 ∈ kTb := kTb_of (kch_1 _ (List.mem_of_getElem? (i := 232) rfl)) (by decide +kernel)
theorem kf_X1_50 : Cond.fieldLink RX1 50 (kFd 1 7).1 (kFd 1 7).2.1 (kFd 1 7).2.2.1 ∈ kTb := kTb_of (kch_1 _ (List.mem_of_getElem? (i := 233) rfl)) (by decide +kernel)
theorem kf_X1_53 : Cond.fieldLink RX1 53 (kFd 10 15).1 (kFd 10 15).2.1 (kFd 10 15).2.2.1 ∈ kTb := kTb_of (kch_1 _ (List.mem_of_getElem? (i := 123) rfl)) (by decide +kernel)
theorem kf_X1_71 : Cond.fieldLink RX1 71 (kFd 10 16).1 (kFd 10 16).2.1 (kFd 10 16).2.2.1 ∈ kTb := kTb_of (kch_1 _ (List.mem_of_getElem? (i := 125) rfl)) (by decide +kernel)
theorem kf_X1_94 : Cond.fieldLink RX1 94 (kFd 10 8).1 (kFd 10 8).2.1 (kFd 10 8).2.2.1 ∈ kTb := kTb_of (kch_1 _ (List.mem_of_getElem? (i := 112) rfl)) (by decide +kernel)
theorem kf_X1_97 : Cond.fieldLink RX1 97 (kFd 5 5).1 (kFd 5 5).2.1 (kFd 5 5).2.2.1 ∈ kTb := kTb_of (kch_1 _ (List.mem_of_getElem? (i := 186) rfl)) (by decide +kernel)
theorem kf_X1_102 : Cond.fieldLink RX1 102 (kFd 5 6).1 (kFd 5 6).2.1 (kFd 5 6).2.2.1 ∈ kTb := kTb_of (kch_1 _ (List.mem_of_getElem? (i := 189) rfl)) (by decide +kernel)
theorem kf_X2_11 : Cond.fieldLink RX2 11 (kFd 2 1).1 (kFd 2 1).2.1 (kFd 2 1).2.2.1 ∈ kTb := kTb_of (kch_2 _ (List.mem_of_getElem? (i := 19) rfl)) (by decide +kernel)
theorem kf_X2_16 : Cond.fieldLink RX2 16 (kFd 2 2).1 (kFd 2 2).2.1 (kFd 2 2).2.2.1 ∈ kTb := kTb_of (kch_2 _ (List.mem_of_getElem? (i := 21) rfl)) (by decide +kernel)
theorem kf_X2_19 : Cond.fieldLink RX2 19 (kFd 2 3).1 (kFd 2 3).2.1 (kFd 2 3).2.2.1 ∈ kTb := kTb_of (kch_2 _ (List.mem_of_getElem? (i := 23) rfl)) (by decide +kernel)
theorem kf_X2_22 : Cond.fieldLink RX2 22 (kFd 2 4).1 (kFd 2 4).2.1 (kFd 2 4).2.2.1 ∈ kTb := kTb_of (kch_2 _ (List.mem_of_getElem? (i := 24) rfl)) (by decide +kernel)
theorem kf_X2_26 : Cond.fieldLink RX2 26 (kFd 2 5).1 (kFd 2 5).2.1 (kFd 2 5).2.2.1 ∈ kTb := kTb_of (kch_2 _ (List.mem_of_getElem? (i := 27) rfl)) (by decide +kernel)
theorem kf_X2_29 : Cond.fieldLink RX2 29 (kFd 2 6).1 (kFd 2 6).2.1 (kFd 2 6).2.2.1 ∈ kTb := kTb_of (kch_2 _ (List.mem_of_getElem? (i := 29) rfl)) (by decide +kernel)
theorem kf_X2_32 : Cond.fieldLink RX2 32 (kFd 2 0).1 (kFd 2 0).2.1 (kFd 2 0).2.2.1 ∈ kTb := kTb_of (kch_2 _ (List.mem_of_getElem? (i := 18) rfl)) (by decide +kernel)
theorem kf_X2_36 : Cond.fieldLink RX2 36 (kFd 2 7).1 (kFd 2 7).2.1 (kFd 2 7).2.2.1 ∈ kTb := kTb_of (kch_2 _ (List.mem_of_getElem? (i := 32) rfl)) (by decide +kernel)
theorem kf_X2_40 : Cond.fieldLink RX2 40 (kFd 2 8).1 (kFd 2 8).2.1 (kFd 2 8).2.2.1 ∈ kTb := kTb_of (kch_2 _ (List.mem_of_getElem? (i := 33) rfl)) (by decide +kernel)
theorem kf_X2_63 : Cond.fieldLink RX2 63 (kFd 10 9).1 (kFd 10 9).2.1 (kFd 10 9).2.2.1 ∈ kTb := kTb_of (kch_1 _ (List.mem_of_getElem? (i := 114) rfl)) (by decide +kernel)
theorem kf_X3_11 : Cond.fieldLink RX3 11 (kFd 3 2).1 (kFd 3 2).2.1 (kFd 3 2).2.2.1 ∈ kTb := kTb_of (kch_2 _ (List.mem_of_getElem? (i := 178) rfl)) (by decide +kernel)
theorem kf_X3_16 : Cond.fieldLink RX3 16 (kFd 3 3).1 (kFd 3 3).2.1 (kFd 3 3).2.2.1 ∈ kTb := kTb_of (kch_2 _ (List.mem_of_getElem? (i := 180) rfl)) (by decide +kernel)
theorem kf_X3_20 : Cond.fieldLink RX3 20 (kFd 3 4).1 (kFd 3 4).2.1 (kFd 3 4).2.2.1 ∈ kTb := kTb_of (kch_2 _ (List.mem_of_getElem? (i := 181) rfl)) (by decide +kernel)
theorem kf_X3_24 : Cond.fieldLink RX3 24 (kFd 3 0).1 (kFd 3 0).2.1 (kFd 3 0).2.2.1 ∈ kTb := kTb_of (kch_2 _ (List.mem_of_getElem? (i := 175) rfl)) (by decide +kernel)
theorem kf_X3_33 : Cond.fieldLink RX3 33 (kFd 3 1).1 (kFd 3 1).2.1 (kFd 3 1).2.2.1 ∈ kTb := kTb_of (kch_2 _ (List.mem_of_getElem? (i := 176) rfl)) (by decide +kernel)
theorem kf_X3_56 : Cond.fieldLink RX3 56 (kFd 10 3).1 (kFd 10 3).2.1 (kFd 10 3).2.2.1 ∈ kTb := kTb_of (kch_1 _ (List.mem_of_getElem? (i := 98) rfl)) (by decide +kernel)
theorem kf_X3_63 : Cond.fieldLink RX3 63 (kFd 10 1).1 (kFd 10 1).2.1 (kFd 10 1).2.2.1 ∈ kTb := kTb_of (kch_1 _ (List.mem_of_getElem? (i := 93) rfl)) (by decide +kernel)
theorem kf_X3_111 : Cond.fieldLink RX3 111 (kFd 10 0).1 (kFd 10 0).2.1 (kFd 10 0).2.2.1 ∈ kTb := kTb_of (kch_1 _ (List.mem_of_getElem? (i := 89) rfl)) (by decide +kernel)
theorem kf_X3_142 : Cond.fieldLink RX3 142 (kFd 4 1).1 (kFd 4 1).2.1 (kFd 4 1).2.2.1 ∈ kTb := kTb_of (kch_1 _ (List.mem_of_getElem? (i := 68) rfl)) (by decide +kernel)
theorem kf_X3_161 : Cond.fieldLink RX3 161 (kFd 4 0).1 (kFd 4 0).2.1 (kFd 4 0).2.2.1 ∈ kTb := kTb_of (kch_1 _ (List.mem_of_getElem? (i := 60) rfl)) (by decide +kernel)
theorem kf_X4_9 : Cond.fieldLink RX4 9 (kFd 4 1).1 (kFd 4 1).2.1 (kFd 4 1).2.2.1 ∈ kTb := kTb_of (kch_1 _ (List.mem_of_getElem? (i := 61) rfl)) (by decide +kernel)
theorem kf_X4_18 : Cond.fieldLink RX4 18 (kFd 4 2).1 (kFd 4 2).2.1 (kFd 4 2).2.2.1 ∈ kTb := kTb_of (kch_1 _ (List.mem_of_getElem? (i := 69) rfl)) (by decide +kernel)
theorem kf_X4_21 : Cond.fieldLink RX4 21 (kFd 4 3).1 (kFd 4 3).2.1 (kFd 4 3).2.2.1 ∈ kTb := kTb_of (kch_1 _ (List.mem_of_getElem? (i := 71) rfl)) (by decide +kernel)
theorem kf_X4_24 : Cond.fieldLink RX4 24 (kFd 4 4).1 (kFd 4 4).2.1 (kFd 4 4).2.2.1 ∈ kTb := kTb_of (kch_1 _ (List.mem_of_getElem? (i := 73) rfl)) (by decide +kernel)
theorem kf_X4_27 : Cond.fieldLink RX4 27 (kFd 0 5).1 (kFd 0 5).2.1 (kFd 0 5).2.2.1 ∈ kTb := kTb_of (kch_2 _ (List.mem_of_getElem? (i := 64) rfl)) (by decide +kernel)
theorem kf_X4_36 : Cond.fieldLink RX4 36 (kFd 0 6).1 (kFd 0 6).2.1 (kFd 0 6).2.2.1 ∈ kTb := kTb_of (kch_2 _ (List.mem_of_getElem? (i := 66) rfl)) (by decide +kernel)
theorem kf_X4_37 : Cond.fieldLink RX4 37 (kFd 0 9).1 (kFd 0 9).2.1 (kFd 0 9).2.2.1 ∈ kTb := kTb_of (kch_2 _ (List.mem_of_getElem? (i := 73) rfl)) (by decide +kernel)
theorem kf_X5_11 : Cond.fieldLink RX5 11 (kFd 5 2).1 (kFd 5 2).2.1 (kFd 5 2).2.2.1 ∈ kTb := kTb_of (kch_1 _ (List.mem_of_getElem? (i := 180) rfl)) (by decide +kernel)
theorem kf_X5_19 : Cond.fieldLink RX5 19 (kFd 5 3).1 (kFd 5 3).2.1 (kFd 5 3).2.2.1 ∈ kTb := kTb_of (kch_1 _ (List.mem_of_getElem? (i := 182) rfl)) (by decide +kernel)
theorem kf_X5_22 : Cond.fieldLink RX5 22 (kFd 5 0).1 (kFd 5 0).2.1 (kFd 5 0).2.2.1 ∈ kTb := kTb_of (kch_1 _ (List.mem_of_getElem? (i := 177) rfl)) (by decide +kernel)
theorem kf_X5_26 : Cond.fieldLink RX5 26 (kFd 5 1).1 (kFd 5 1).2.1 (kFd 5 1).2.2.1 ∈ kTb := kTb_of (kch_1 _ (List.mem_of_getElem? (i := 178) rfl)) (by decide +kernel)
theorem kf_X5_33 : Cond.fieldLink RX5 33 (kFd 5 4).1 (kFd 5 4).2.1 (kFd 5 4).2.2.1 ∈ kTb := kTb_of (kch_1 _ (List.mem_of_getElem? (i := 183) rfl)) (by decide +kernel)
theorem kf_X5_37 : Cond.fieldLink RX5 37 (kFd 5 5).1 (kFd 5 5).2.1 (kFd 5 5).2.2.1 ∈ kTb := kTb_of (kch_1 _ (List.mem_of_getElem? (i := 185) rfl)) (by decide +kernel)
theorem kf_X5_40 : Cond.fieldLink RX5 40 (kFd 5 6).1 (kFd 5 6).2.1 (kFd 5 6).2.2.1 ∈ kTb := kTb_of (kch_1 _ (List.mem_of_getElem? (i := 188) rfl)) (by decide +kernel)
theorem kf_X5_43 : Cond.fieldLink RX5 43 (kFd 10 3).1 (kFd 10 3).2.1 (kFd 10 3).2.2.1 ∈ kTb := kTb_of (kch_1 _ (List.mem_of_getElem? (i := 100) rfl)) (by decide +kernel)
theorem kf_X5_48 : Cond.fieldLink RX5 48 (kFd 10 0).1 (kFd 10 0).2.1 (kFd 10 0).2.2.1 ∈ kTb := kTb_of (kch_1 _ (List.mem_of_getElem? (i := 88) rfl)) (by decide +kernel)
theorem kf_X5_55 : Cond.fieldLink RX5 55 (kFd 4 1).1 (kFd 4 1).2.1 (kFd 4 1).2.2.1 ∈ kTb := kTb_of (kch_1 _ (List.mem_of_getElem? (i := 63) rfl)) (by decide +kernel)
theorem kf_X5_61 : Cond.fieldLink RX5 61 (kFd 7 2).1 (kFd 7 2).2.1 (kFd 7 2).2.2.1 ∈ kTb := kTb_of (kch_2 _ (List.mem_of_getElem? (i := 115) rfl)) (by decide +kernel)
theorem kf_X5_64 : Cond.fieldLink RX5 64 (kFd 7 13).1 (kFd 7 13).2.1 (kFd 7 13).2.2.1 ∈ kTb := kTb_of (kch_2 _ (List.mem_of_getElem? (i := 132) rfl)) (by decide +kernel)
theorem kf_X5_67 : Cond.fieldLink RX5 67 (kFd 7 1).1 (kFd 7 1).2.1 (kFd 7 1).2.2.1 ∈ kTb := kTb_of (kch_2 _ (List.mem_of_getElem? (i := 112) rfl)) (by decide +kernel)
theorem kf_X5_71 : Cond.fieldLink RX5 71 (kFd 0 8).1 (kFd 0 8).2.1 (kFd 0 8).2.2.1 ∈ kTb := kTb_of (kch_2 _ (List.mem_of_getElem? (i := 70) rfl)) (by decide +kernel)
theorem kf_X5_88 : Cond.fieldLink RX5 88 (kFd 8 8).1 (kFd 8 8).2.1 (kFd 8 8).2.2.1 ∈ kTb := kTb_of (kch_6 _ (List.mem_of_getElem? (i := 111) rfl)) (by decide +kernel)
theorem kf_X5_102 : Cond.fieldLink RX5 102 (kFd 0 2).1 (kFd 0 2).2.1 (kFd 0 2).2.2.1 ∈ kTb := kTb_of (kch_2 _ (List.mem_of_getElem? (i := 59) rfl)) (by decide +kernel)
theorem kf_X5_106 : Cond.fieldLink RX5 106 (kFd 2 6).1 (kFd 2 6).2.1 (kFd 2 6).2.2.1 ∈ kTb := kTb_of (kch_2 _ (List.mem_of_getElem? (i := 30) rfl)) (by decide +kernel)
theorem kf_X5_131 : Cond.fieldLink RX5 131 (kFd 8 3).1 (kFd 8 3).2.1 (kFd 8 3).2.2.1 ∈ kTb := kTb_of (kch_6 _ (List.mem_of_getElem? (i := 99) rfl)) (by decide +kernel)
theorem kf_X6_9 : Cond.fieldLink RX6 9 (kFd 6 1).1 (kFd 6 1).2.1 (kFd 6 1).2.2.1 ∈ kTb := kTb_of (kch_6 _ (List.mem_of_getElem? (i := 206) rfl)) (by decide +kernel)
theorem kf_X6_15 : Cond.fieldLink RX6 15 (kFd 6 2).1 (kFd 6 2).2.1 (kFd 6 2).2.2.1 ∈ kTb := kTb_of (kch_6 _ (List.mem_of_getElem? (i := 207) rfl)) (by decide +kernel)
theorem kf_X6_18 : Cond.fieldLink RX6 18 (kFd 6 3).1 (kFd 6 3).2.1 (kFd 6 3).2.2.1 ∈ kTb := kTb_of (kch_6 _ (List.mem_of_getElem? (i := 208) rfl)) (by decide +kernel)
theorem kf_X6_30 : Cond.fieldLink RX6 30 (kFd 6 0).1 (kFd 6 0).2.1 (kFd 6 0).2.2.1 ∈ kTb := kTb_of (kch_6 _ (List.mem_of_getElem? (i := 205) rfl)) (by decide +kernel)
theorem kf_X6_85 : Cond.fieldLink RX6 85 (kFd 8 7).1 (kFd 8 7).2.1 (kFd 8 7).2.2.1 ∈ kTb := kTb_of (kch_6 _ (List.mem_of_getElem? (i := 109) rfl)) (by decide +kernel)
theorem kf_X6_90 : Cond.fieldLink RX6 90 (kFd 8 6).1 (kFd 8 6).2.1 (kFd 8 6).2.2.1 ∈ kTb := kTb_of (kch_6 _ (List.mem_of_getElem? (i := 106) rfl)) (by decide +kernel)
theorem kf_X7_9 : Cond.fieldLink RX7 9 (kFd 7 2).1 (kFd 7 2).2.1 (kFd 7 2).2.2.1 ∈ kTb := kTb_of (kch_2 _ (List.mem_of_getElem? (i := 114) rfl)) (by decide +kernel)
theorem kf_X7_15 : Cond.fieldLink RX7 15 (kFd 7 3).1 (kFd 7 3).2.1 (kFd 7 3).2.2.1 ∈ kTb := kTb_of (kch_2 _ (List.mem_of_getElem? (i := 117) rfl)) (by decide +kernel)
theorem kf_X7_18 : Cond.fieldLink RX7 18 (kFd 7 4).1 (kFd 7 4).2.1 (kFd 7 4).2.2.1 ∈ kTb := kTb_of (kch_2 _ (List.mem_of_getElem? (i := 119) rfl)) (by decide +kernel)
theorem kf_X7_21 : Cond.fieldLink RX7 21 (kFd 7 5).1 (kFd 7 5).2.1 (kFd 7 5).2.2.1 ∈ kTb := kTb_of (kch_2 _ (List.mem_of_getElem? (i := 121) rfl)) (by decide +kernel)
theorem kf_X7_24 : Cond.fieldLink RX7 24 (kFd 7 6).1 (kFd 7 6).2.1 (kFd 7 6).2.2.1 ∈ kTb := kTb_of (kch_2 _ (List.mem_of_getElem? (i := 123) rfl)) (by decide +kernel)
theorem kf_X7_27 : Cond.fieldLink RX7 27 (kFd 7 7).1 (kFd 7 7).2.1 (kFd 7 7).2.2.1 ∈ kTb := kTb_of (kch_2 _ (List.mem_of_getElem? (i := 124) rfl)) (by decide +kernel)
theorem kf_X7_30 : Cond.fieldLink RX7 30 (kFd 7 8).1 (kFd 7 8).2.1 (kFd 7 8).2.2.1 ∈ kTb := kTb_of (kch_2 _ (List.mem_of_getElem? (i := 125) rfl)) (by decide +kernel)
theorem kf_X7_33 : Cond.fieldLink RX7 33 (kFd 7 9).1 (kFd 7 9).2.1 (kFd 7 9).2.2.1 ∈ kTb := kTb_of (kch_2 _ (List.mem_of_getElem? (i := 127) rfl)) (by decide +kernel)
theorem kf_X7_36 : Cond.fieldLink RX7 36 (kFd 7 10).1 (kFd 7 10).2.1 (kFd 7 10).2.2.1 ∈ kTb := kTb_of (kch_2 _ (List.mem_of_getElem? (i := 128) rfl)) (by decide +kernel)
theorem kf_X7_39 : Cond.fieldLink RX7 39 (kFd 7 0).1 (kFd 7 0).2.1 (kFd 7 0).2.2.1 ∈ kTb := kTb_of (kch_2 _ (List.mem_of_getElem? (i := 110) rfl)) (by decide +kernel)
theorem kf_X7_48 : Cond.fieldLink RX7 48 (kFd 7 1).1 (kFd 7 1).2.1 (kFd 7 1).2.2.1 ∈ kTb := kTb_of (kch_2 _ (List.mem_of_getElem? (i := 111) rfl)) (by decide +kernel)
theorem kf_X7_52 : Cond.fieldLink RX7 52 (kFd 5 1).1 (kFd 5 1).2.1 (kFd 5 1).2.2.1 ∈ kTb := kTb_of (kch_1 _ (List.mem_of_getElem? (i := 179) rfl)) (by decide +kernel)
theorem kf_X7_58 : Cond.fieldLink RX7 58 (kFd 7 12).1 (kFd 7 12).2.1 (kFd 7 12).2.2.1 ∈ kTb := kTb_of (kch_2 _ (List.mem_of_getElem? (i := 130) rfl)) (by decide +kernel)
theorem kf_X7_74 : Cond.fieldLink RX7 74 (kFd 7 13).1 (kFd 7 13).2.1 (kFd 7 13).2.2.1 ∈ kTb := kTb_of (kch_2 _ (List.mem_of_getElem? (i := 131) rfl)) (by decide +kernel)
theorem kf_X7_77 : Cond.fieldLink RX7 77 (kFd 7 11).1 (kFd 7 11).2.1 (kFd 7 11).2.2.1 ∈ kTb := kTb_of (kch_2 _ (List.mem_of_getElem? (i := 129) rfl)) (by decide +kernel)
theorem kf_X7_80 : Cond.fieldLink RX7 80 (kFd 7 14).1 (kFd 7 14).2.1 (kFd 7 14).2.2.1 ∈ kTb := kTb_of (kch_2 _ (List.mem_of_getElem? (i := 134) rfl)) (by decide +kernel)
theorem kf_X7_94 : Cond.fieldLink RX7 94 (kFd 0 7).1 (kFd 0 7).2.1 (kFd 0 7).2.2.1 ∈ kTb := kTb_of (kch_2 _ (List.mem_of_getElem? (i := 68) rfl)) (by decide +kernel)
theorem kf_X7_105 : Cond.fieldLink RX7 105 (kFd 0 8).1 (kFd 0 8).2.1 (kFd 0 8).2.2.1 ∈ kTb := kTb_of (kch_2 _ (List.mem_of_getElem? (i := 71) rfl)) (by decide +kernel)
theorem kf_X7_108 : Cond.fieldLink RX7 108 (kFd 0 10).1 (kFd 0 10).2.1 (kFd 0 10).2.2.1 ∈ kTb := kTb_of (kch_2 _ (List.mem_of_getElem? (i := 76) rfl)) (by decide +kernel)
theorem kf_X7_111 : Cond.fieldLink RX7 111 (kFd 0 12).1 (kFd 0 12).2.1 (kFd 0 12).2.2.1 ∈ kTb := kTb_of (kch_2 _ (List.mem_of_getElem? (i := 82) rfl)) (by decide +kernel)
theorem kf_X7_120 : Cond.fieldLink RX7 120 (kFd 10 3).1 (kFd 10 3).2.1 (kFd 10 3).2.2.1 ∈ kTb := kTb_of (kch_1 _ (List.mem_of_getElem? (i := 101) rfl)) (by decide +kernel)
theorem kf_X7_123 : Cond.fieldLink RX7 123 (kFd 4 1).1 (kFd 4 1).2.1 (kFd 4 1).2.2.1 ∈ kTb := kTb_of (kch_1 _ (List.mem_of_getElem? (i := 66) rfl)) (by decide +kernel)
theorem kf_X7_171 : Cond.fieldLink RX7 171 (kFd 10 0).1 (kFd 10 0).2.1 (kFd 10 0).2.2.1 ∈ kTb := kTb_of (kch_1 _ (List.mem_of_getElem? (i := 91) rfl)) (by decide +kernel)
theorem kf_X7_180 : Cond.fieldLink RX7 180 (kFd 0 9).1 (kFd 0 9).2.1 (kFd 0 9).2.2.1 ∈ kTb := kTb_of (kch_2 _ (List.mem_of_getElem? (i := 74) rfl)) (by decide +kernel)
theorem kf_X7_183 : Cond.fieldLink RX7 183 (kFd 0 11).1 (kFd 0 11).2.1 (kFd 0 11).2.2.1 ∈ kTb := kTb_of (kch_2 _ (List.mem_of_getElem? (i := 79) rfl)) (by decide +kernel)
theorem kf_X8_9 : Cond.fieldLink RX8 9 (kFd 8 0).1 (kFd 8 0).2.1 (kFd 8 0).2.2.1 ∈ kTb := kTb_of (kch_6 _ (List.mem_of_getElem? (i := 89) rfl)) (by decide +kernel)
theorem kf_X8_15 : Cond.fieldLink RX8 15 (kFd 8 1).1 (kFd 8 1).2.1 (kFd 8 1).2.2.1 ∈ kTb := kTb_of (kch_6 _ (List.mem_of_getElem? (i := 91) rfl)) (by decide +kernel)
theorem kf_X8_18 : Cond.fieldLink RX8 18 (kFd 8 2).1 (kFd 8 2).2.1 (kFd 8 2).2.2.1 ∈ kTb := kTb_of (kch_6 _ (List.mem_of_getElem? (i := 94) rfl)) (by decide +kernel)
theorem kf_X8_21 : Cond.fieldLink RX8 21 (kFd 8 3).1 (kFd 8 3).2.1 (kFd 8 3).2.2.1 ∈ kTb := kTb_of (kch_6 _ (List.mem_of_getElem? (i := 97) rfl)) (by decide +kernel)
theorem kf_X8_24 : Cond.fieldLink RX8 24 (kFd 8 4).1 (kFd 8 4).2.1 (kFd 8 4).2.2.1 ∈ kTb := kTb_of (kch_6 _ (List.mem_of_getElem? (i := 100) rfl)) (by decide +kernel)
theorem kf_X8_27 : Cond.fieldLink RX8 27 (kFd 8 5).1 (kFd 8 5).2.1 (kFd 8 5).2.2.1 ∈ kTb := kTb_of (kch_6 _ (List.mem_of_getElem? (i := 102) rfl)) (by decide +kernel)
theorem kf_X8_31 : Cond.fieldLink RX8 31 (kFd 8 8).1 (kFd 8 8).2.1 (kFd 8 8).2.2.1 ∈ kTb := kTb_of (kch_6 _ (List.mem_of_getElem? (i := 110) rfl)) (by decide +kernel)
theorem kf_X8_35 : Cond.fieldLink RX8 35 (kFd 8 15).1 (kFd 8 15).2.1 (kFd 8 15).2.2.1 ∈ kTb := kTb_of (kch_6 _ (List.mem_of_getElem? (i := 123) rfl)) (by decide +kernel)
theorem kf_X8_42 : Cond.fieldLink RX8 42 (kFd 8 6).1 (kFd 8 6).2.1 (kFd 8 6).2.2.1 ∈ kTb := kTb_of (kch_6 _ (List.mem_of_getElem? (i := 104) rfl)) (by decide +kernel)
theorem kf_X8_50 : Cond.fieldLink RX8 50 (kFd 8 7).1 (kFd 8 7).2.1 (kFd 8 7).2.2.1 ∈ kTb := kTb_of (kch_6 _ (List.mem_of_getElem? (i := 107) rfl)) (by decide +kernel)
theorem kf_X8_56 : Cond.fieldLink RX8 56 (kFd 8 9).1 (kFd 8 9).2.1 (kFd 8 9).2.2.1 ∈ kTb := kTb_of (kch_6 _ (List.mem_of_getElem? (i := 112) rfl)) (by decide +kernel)
theorem kf_X8_59 : Cond.fieldLink RX8 59 (kFd 8 10).1 (kFd 8 10).2.1 (kFd 8 10).2.2.1 ∈ kTb := kTb_of (kch_6 _ (List.mem_of_getElem? (i := 113) rfl)) (by decide +kernel)
theorem kf_X8_62 : Cond.fieldLink RX8 62 (kFd 8 11).1 (kFd 8 11).2.1 (kFd 8 11).2.2.1 ∈ kTb := kTb_of (kch_6 _ (List.mem_of_getElem? (i := 114) rfl)) (by decide +kernel)
theorem kf_X8_65 : Cond.fieldLink RX8 65 (kFd 8 12).1 (kFd 8 12).2.1 (kFd 8 12).2.2.1 ∈ kTb := kTb_of (kch_6 _ (List.mem_of_getElem? (i := 115) rfl)) (by decide +kernel)
theorem kf_X8_74 : Cond.fieldLink RX8 74 (kFd 8 13).1 (kFd 8 13).2.1 (kFd 8 13).2.2.1 ∈ kTb := kTb_of (kch_6 _ (List.mem_of_getElem? (i := 117) rfl)) (by decide +kernel)
theorem kf_X8_77 : Cond.fieldLink RX8 77 (kFd 8 19).1 (kFd 8 19).2.1 (kFd 8 19).2.2.1 ∈ kTb := kTb_of (kch_6 _ (List.mem_of_getElem? (i := 127) rfl)) (by decide +kernel)
theorem kf_X8_80 : Cond.fieldLink RX8 80 (kFd 10 3).1 (kFd 10 3).2.1 (kFd 10 3).2.2.1 ∈ kTb := kTb_of (kch_1 _ (List.mem_of_getElem? (i := 99) rfl)) (by decide +kernel)
theorem kf_X8_83 : Cond.fieldLink RX8 83 (kFd 8 14).1 (kFd 8 14).2.1 (kFd 8 14).2.2.1 ∈ kTb := kTb_of (kch_6 _ (List.mem_of_getElem? (i := 120) rfl)) (by decide +kernel)
theorem kf_X8_86 : Cond.fieldLink RX8 86 (kFd 10 0).1 (kFd 10 0).2.1 (kFd 10 0).2.2.1 ∈ kTb := kTb_of (kch_1 _ (List.mem_of_getElem? (i := 87) rfl)) (by decide +kernel)
theorem kf_X8_99 : Cond.fieldLink RX8 99 (kFd 4 0).1 (kFd 4 0).2.1 (kFd 4 0).2.2.1 ∈ kTb := kTb_of (kch_1 _ (List.mem_of_getElem? (i := 57) rfl)) (by decide +kernel)
theorem kf_X8_104 : Cond.fieldLink RX8 104 (kFd 4 1).1 (kFd 4 1).2.1 (kFd 4 1).2.2.1 ∈ kTb := kTb_of (kch_1 _ (List.mem_of_getElem? (i := 62) rfl)) (by decide +kernel)
theorem kf_X8_111 : Cond.fieldLink RX8 111 (kFd 8 16).1 (kFd 8 16).2.1 (kFd 8 16).2.2.1 ∈ kTb := kTb_of (kch_6 _ (List.mem_of_getElem? (i := 124) rfl)) (by decide +kernel)
theorem kf_X8_119 : Cond.fieldLink RX8 119 (kFd 8 17).1 (kFd 8 17).2.1 (kFd 8 17).2.2.1 ∈ kTb := kTb_of (kch_6 _ (List.mem_of_getElem? (i := 125) rfl)) (by decide +kernel)
theorem kf_X8_122 : Cond.fieldLink RX8 122 (kFd 8 18).1 (kFd 8 18).2.1 (kFd 8 18).2.2.1 ∈ kTb := kTb_of (kch_6 _ (List.mem_of_getElem? (i := 126) rfl)) (by decide +kernel)
theorem kf_X8_131 : Cond.fieldLink RX8 131 (kFd 10 1).1 (kFd 10 1).2.1 (kFd 10 1).2.2.1 ∈ kTb := kTb_of (kch_1 _ (List.mem_of_getElem? (i := 94) rfl)) (by decide +kernel)
theorem kf_X9_11 : Cond.fieldLink RX9 11 (kFd 9 0).1 (kFd 9 0).2.1 (kFd 9 0).2.2.1 ∈ kTb := kTb_of (kch_2 _ (List.mem_of_getElem? (i := 200) rfl)) (by decide +kernel)
theorem kf_X9_15 : Cond.fieldLink RX9 15 (kFd 9 1).1 (kFd 9 1).2.1 (kFd 9 1).2.2.1 ∈ kTb := kTb_of (kch_2 _ (List.mem_of_getElem? (i := 202) rfl)) (by decide +kernel)
theorem kf_X9_19 : Cond.fieldLink RX9 19 (kFd 9 2).1 (kFd 9 2).2.1 (kFd 9 2).2.2.1 ∈ kTb := kTb_of (kch_2 _ (List.mem_of_getElem? (i := 203) rfl)) (by decide +kernel)
theorem kf_X9_22 : Cond.fieldLink RX9 22 (kFd 9 3).1 (kFd 9 3).2.1 (kFd 9 3).2.2.1 ∈ kTb := kTb_of (kch_2 _ (List.mem_of_getElem? (i := 204) rfl)) (by decide +kernel)
theorem kf_X9_26 : Cond.fieldLink RX9 26 (kFd 9 4).1 (kFd 9 4).2.1 (kFd 9 4).2.2.1 ∈ kTb := kTb_of (kch_2 _ (List.mem_of_getElem? (i := 205) rfl)) (by decide +kernel)
theorem kf_X9_29 : Cond.fieldLink RX9 29 (kFd 9 7).1 (kFd 9 7).2.1 (kFd 9 7).2.2.1 ∈ kTb := kTb_of (kch_2 _ (List.mem_of_getElem? (i := 209) rfl)) (by decide +kernel)
theorem kf_X9_33 : Cond.fieldLink RX9 33 (kFd 2 5).1 (kFd 2 5).2.1 (kFd 2 5).2.2.1 ∈ kTb := kTb_of (kch_2 _ (List.mem_of_getElem? (i := 28) rfl)) (by decide +kernel)
theorem kf_X9_38 : Cond.fieldLink RX9 38 (kFd 9 6).1 (kFd 9 6).2.1 (kFd 9 6).2.2.1 ∈ kTb := kTb_of (kch_2 _ (List.mem_of_getElem? (i := 207) rfl)) (by decide +kernel)
theorem kf_X9_41 : Cond.fieldLink RX9 41 (kFd 9 5).1 (kFd 9 5).2.1 (kFd 9 5).2.2.1 ∈ kTb := kTb_of (kch_2 _ (List.mem_of_getElem? (i := 206) rfl)) (by decide +kernel)
theorem kf_X9_44 : Cond.fieldLink RX9 44 (kFd 2 4).1 (kFd 2 4).2.1 (kFd 2 4).2.2.1 ∈ kTb := kTb_of (kch_2 _ (List.mem_of_getElem? (i := 25) rfl)) (by decide +kernel)
theorem kf_X9_51 : Cond.fieldLink RX9 51 (kFd 2 2).1 (kFd 2 2).2.1 (kFd 2 2).2.2.1 ∈ kTb := kTb_of (kch_2 _ (List.mem_of_getElem? (i := 22) rfl)) (by decide +kernel)
theorem kf_X9_61 : Cond.fieldLink RX9 61 (kFd 2 1).1 (kFd 2 1).2.1 (kFd 2 1).2.2.1 ∈ kTb := kTb_of (kch_2 _ (List.mem_of_getElem? (i := 20) rfl)) (by decide +kernel)
theorem kf_X9_64 : Cond.fieldLink RX9 64 (kFd 8 7).1 (kFd 8 7).2.1 (kFd 8 7).2.2.1 ∈ kTb := kTb_of (kch_6 _ (List.mem_of_getElem? (i := 108) rfl)) (by decide +kernel)
theorem kf_X9_69 : Cond.fieldLink RX9 69 (kFd 8 6).1 (kFd 8 6).2.1 (kFd 8 6).2.2.1 ∈ kTb := kTb_of (kch_6 _ (List.mem_of_getElem? (i := 105) rfl)) (by decide +kernel)
theorem kf_X10_11 : Cond.fieldLink RX10 11 (kFd 10 10).1 (kFd 10 10).2.1 (kFd 10 10).2.2.1 ∈ kTb := kTb_of (kch_1 _ (List.mem_of_getElem? (i := 115) rfl)) (by decide +kernel)
theorem kf_X10_19 : Cond.fieldLink RX10 19 (kFd 10 11).1 (kFd 10 11).2.1 (kFd 10 11).2.2.1 ∈ kTb := kTb_of (kch_1 _ (List.mem_of_getElem? (i := 117) rfl)) (by decide +kernel)
theorem kf_X10_23 : Cond.fieldLink RX10 23 (kFd 10 12).1 (kFd 10 12).2.1 (kFd 10 12).2.2.1 ∈ kTb := kTb_of (kch_1 _ (List.mem_of_getElem? (i := 118) rfl)) (by decide +kernel)
theorem kf_X10_27 : Cond.fieldLink RX10 27 (kFd 10 13).1 (kFd 10 13).2.1 (kFd 10 13).2.2.1 ∈ kTb := kTb_of (kch_1 _ (List.mem_of_getElem? (i := 119) rfl)) (by decide +kernel)
theorem kf_X10_31 : Cond.fieldLink RX10 31 (kFd 10 14).1 (kFd 10 14).2.1 (kFd 10 14).2.2.1 ∈ kTb := kTb_of (kch_1 _ (List.mem_of_getElem? (i := 121) rfl)) (by decide +kernel)
theorem kf_X10_35 : Cond.fieldLink RX10 35 (kFd 10 15).1 (kFd 10 15).2.1 (kFd 10 15).2.2.1 ∈ kTb := kTb_of (kch_1 _ (List.mem_of_getElem? (i := 122) rfl)) (by decide +kernel)
theorem kf_X10_39 : Cond.fieldLink RX10 39 (kFd 10 16).1 (kFd 10 16).2.1 (kFd 10 16).2.2.1 ∈ kTb := kTb_of (kch_1 _ (List.mem_of_getElem? (i := 124) rfl)) (by decide +kernel)
theorem kf_X10_42 : Cond.fieldLink RX10 42 (kFd 10 17).1 (kFd 10 17).2.1 (kFd 10 17).2.2.1 ∈ kTb := kTb_of (kch_1 _ (List.mem_of_getElem? (i := 126) rfl)) (by decide +kernel)
theorem kf_X10_45 : Cond.fieldLink RX10 45 (kFd 10 0).1 (kFd 10 0).2.1 (kFd 10 0).2.2.1 ∈ kTb := kTb_of (kch_1 _ (List.mem_of_getElem? (i := 86) rfl)) (by decide +kernel)
theorem kf_X10_49 : Cond.fieldLink RX10 49 (kFd 10 1).1 (kFd 10 1).2.1 (kFd 10 1).2.2.1 ∈ kTb := kTb_of (kch_1 _ (List.mem_of_getElem? (i := 92) rfl)) (by decide +kernel)
theorem kf_X10_52 : Cond.fieldLink RX10 52 (kFd 10 2).1 (kFd 10 2).2.1 (kFd 10 2).2.2.1 ∈ kTb := kTb_of (kch_1 _ (List.mem_of_getElem? (i := 96) rfl)) (by decide +kernel)
theorem kf_X10_55 : Cond.fieldLink RX10 55 (kFd 10 3).1 (kFd 10 3).2.1 (kFd 10 3).2.2.1 ∈ kTb := kTb_of (kch_1 _ (List.mem_of_getElem? (i := 97) rfl)) (by decide +kernel)
theorem kf_X10_58 : Cond.fieldLink RX10 58 (kFd 10 4).1 (kFd 10 4).2.1 (kFd 10 4).2.2.1 ∈ kTb := kTb_of (kch_1 _ (List.mem_of_getElem? (i := 103) rfl)) (by decide +kernel)
theorem kf_X10_61 : Cond.fieldLink RX10 61 (kFd 10 5).1 (kFd 10 5).2.1 (kFd 10 5).2.2.1 ∈ kTb := kTb_of (kch_1 _ (List.mem_of_getElem? (i := 105) rfl)) (by decide +kernel)
theorem kf_X10_64 : Cond.fieldLink RX10 64 (kFd 10 6).1 (kFd 10 6).2.1 (kFd 10 6).2.2.1 ∈ kTb := kTb_of (kch_1 _ (List.mem_of_getElem? (i := 107) rfl)) (by decide +kernel)
theorem kf_X10_67 : Cond.fieldLink RX10 67 (kFd 10 7).1 (kFd 10 7).2.1 (kFd 10 7).2.2.1 ∈ kTb := kTb_of (kch_1 _ (List.mem_of_getElem? (i := 109) rfl)) (by decide +kernel)
theorem kf_X10_70 : Cond.fieldLink RX10 70 (kFd 10 8).1 (kFd 10 8).2.1 (kFd 10 8).2.2.1 ∈ kTb := kTb_of (kch_1 _ (List.mem_of_getElem? (i := 111) rfl)) (by decide +kernel)
theorem kf_X10_92 : Cond.fieldLink RX10 92 (kFd 4 0).1 (kFd 4 0).2.1 (kFd 4 0).2.2.1 ∈ kTb := kTb_of (kch_1 _ (List.mem_of_getElem? (i := 58) rfl)) (by decide +kernel)
theorem kf_X10_95 : Cond.fieldLink RX10 95 (kFd 4 1).1 (kFd 4 1).2.1 (kFd 4 1).2.2.1 ∈ kTb := kTb_of (kch_1 _ (List.mem_of_getElem? (i := 64) rfl)) (by decide +kernel)
theorem kf_X10_110 : Cond.fieldLink RX10 110 (kFd 8 2).1 (kFd 8 2).2.1 (kFd 8 2).2.2.1 ∈ kTb := kTb_of (kch_6 _ (List.mem_of_getElem? (i := 96) rfl)) (by decide +kernel)
theorem kf_X10_120 : Cond.fieldLink RX10 120 (kFd 8 13).1 (kFd 8 13).2.1 (kFd 8 13).2.2.1 ∈ kTb := kTb_of (kch_6 _ (List.mem_of_getElem? (i := 119) rfl)) (by decide +kernel)
theorem kf_X10_127 : Cond.fieldLink RX10 127 (kFd 8 14).1 (kFd 8 14).2.1 (kFd 8 14).2.2.1 ∈ kTb := kTb_of (kch_6 _ (List.mem_of_getElem? (i := 122) rfl)) (by decide +kernel)
theorem kf_X12_7 : Cond.fieldLink RX12 7 (kFd 12 6).1 (kFd 12 6).2.1 (kFd 12 6).2.2.1 ∈ kTb := kTb_of (kch_9 _ (List.mem_of_getElem? (i := 217) rfl)) (by decide +kernel)
theorem kf_X12_13 : Cond.fieldLink RX12 13 (kFd 12 7).1 (kFd 12 7).2.1 (kFd 12 7).2.2.1 ∈ kTb := kTb_of (kch_9 _ (List.mem_of_getElem? (i := 218) rfl)) (by decide +kernel)
theorem kf_X12_16 : Cond.fieldLink RX12 16 (kFd 12 8).1 (kFd 12 8).2.1 (kFd 12 8).2.2.1 ∈ kTb := kTb_of (kch_9 _ (List.mem_of_getElem? (i := 219) rfl)) (by decide +kernel)
theorem kf_X12_19 : Cond.fieldLink RX12 19 (kFd 12 9).1 (kFd 12 9).2.1 (kFd 12 9).2.2.1 ∈ kTb := kTb_of (kch_9 _ (List.mem_of_getElem? (i := 220) rfl)) (by decide +kernel)
theorem kf_X12_22 : Cond.fieldLink RX12 22 (kFd 12 10).1 (kFd 12 10).2.1 (kFd 12 10).2.2.1 ∈ kTb := kTb_of (kch_9 _ (List.mem_of_getElem? (i := 221) rfl)) (by decide +kernel)
theorem kf_X12_25 : Cond.fieldLink RX12 25 (kFd 12 11).1 (kFd 12 11).2.1 (kFd 12 11).2.2.1 ∈ kTb := kTb_of (kch_9 _ (List.mem_of_getElem? (i := 222) rfl)) (by decide +kernel)
theorem kf_X12_28 : Cond.fieldLink RX12 28 (kFd 12 12).1 (kFd 12 12).2.1 (kFd 12 12).2.2.1 ∈ kTb := kTb_of (kch_9 _ (List.mem_of_getElem? (i := 223) rfl)) (by decide +kernel)
theorem kf_X12_31 : Cond.fieldLink RX12 31 (kFd 12 13).1 (kFd 12 13).2.1 (kFd 12 13).2.2.1 ∈ kTb := kTb_of (kch_9 _ (List.mem_of_getElem? (i := 224) rfl)) (by decide +kernel)
theorem kf_X12_34 : Cond.fieldLink RX12 34 (kFd 12 14).1 (kFd 12 14).2.1 (kFd 12 14).2.2.1 ∈ kTb := kTb_of (kch_9 _ (List.mem_of_getElem? (i := 225) rfl)) (by decide +kernel)
theorem kf_X12_38 : Cond.fieldLink RX12 38 (kFd 12 15).1 (kFd 12 15).2.1 (kFd 12 15).2.2.1 ∈ kTb := kTb_of (kch_9 _ (List.mem_of_getElem? (i := 226) rfl)) (by decide +kernel)
theorem kf_X12_41 : Cond.fieldLink RX12 41 (kFd 12 16).1 (kFd 12 16).2.1 (kFd 12 16).2.2.1 ∈ kTb := kTb_of (kch_9 _ (List.mem_of_getElem? (i := 227) rfl)) (by decide +kernel)
theorem kf_X12_44 : Cond.fieldLink RX12 44 (kFd 12 17).1 (kFd 12 17).2.1 (kFd 12 17).2.2.1 ∈ kTb := kTb_of (kch_9 _ (List.mem_of_getElem? (i := 228) rfl)) (by decide +kernel)
theorem kf_X12_47 : Cond.fieldLink RX12 47 (kFd 12 18).1 (kFd 12 18).2.1 (kFd 12 18).2.2.1 ∈ kTb := kTb_of (kch_9 _ (List.mem_of_getElem? (i := 229) rfl)) (by decide +kernel)
theorem kf_X12_50 : Cond.fieldLink RX12 50 (kFd 12 19).1 (kFd 12 19).2.1 (kFd 12 19).2.2.1 ∈ kTb := kTb_of (kch_9 _ (List.mem_of_getElem? (i := 230) rfl)) (by decide +kernel)
theorem kf_X12_53 : Cond.fieldLink RX12 53 (kFd 12 20).1 (kFd 12 20).2.1 (kFd 12 20).2.2.1 ∈ kTb := kTb_of (kch_9 _ (List.mem_of_getElem? (i := 231) rfl)) (by decide +kernel)
theorem kf_X12_56 : Cond.fieldLink RX12 56 (kFd 12 22).1 (kFd 12 22).2.1 (kFd 12 22).2.2.1 ∈ kTb := kTb_of (kch_9 _ (List.mem_of_getElem? (i := 233) rfl)) (by decide +kernel)
theorem kf_X12_59 : Cond.fieldLink RX12 59 (kFd 12 23).1 (kFd 12 23).2.1 (kFd 12 23).2.2.1 ∈ kTb := kTb_of (kch_9 _ (List.mem_of_getElem? (i := 234) rfl)) (by decide +kernel)
theorem kf_X12_62 : Cond.fieldLink RX12 62 (kFd 12 24).1 (kFd 12 24).2.1 (kFd 12 24).2.2.1 ∈ kTb := kTb_of (kch_9 _ (List.mem_of_getElem? (i := 235) rfl)) (by decide +kernel)
theorem kf_X12_65 : Cond.fieldLink RX12 65 (kFd 12 25).1 (kFd 12 25).2.1 (kFd 12 25).2.2.1 ∈ kTb := kTb_of (kch_9 _ (List.mem_of_getElem? (i := 236) rfl)) (by decide +kernel)
theorem kf_X12_68 : Cond.fieldLink RX12 68 (kFd 12 26).1 (kFd 12 26).2.1 (kFd 12 26).2.2.1 ∈ kTb := kTb_of (kch_9 _ (List.mem_of_getElem? (i := 237) rfl)) (by decide +kernel)
theorem kf_X12_71 : Cond.fieldLink RX12 71 (kFd 12 27).1 (kFd 12 27).2.1 (kFd 12 27).2.2.1 ∈ kTb := kTb_of (kch_9 _ (List.mem_of_getElem? (i := 238) rfl)) (by decide +kernel)
theorem kf_X12_74 : Cond.fieldLink RX12 74 (kFd 12 28).1 (kFd 12 28).2.1 (kFd 12 28).2.2.1 ∈ kTb := kTb_of (kch_9 _ (List.mem_of_getElem? (i := 239) rfl)) (by decide +kernel)
theorem kf_X12_77 : Cond.fieldLink RX12 77 (kFd 12 29).1 (kFd 12 29).2.1 (kFd 12 29).2.2.1 ∈ kTb := kTb_of (kch_10 _ (List.mem_of_getElem? (i := 0) rfl)) (by decide +kernel)
theorem kf_X12_80 : Cond.fieldLink RX12 80 (kFd 12 30).1 (kFd 12 30).2.1 (kFd 12 30).2.2.1 ∈ kTb := kTb_of (kch_10 _ (List.mem_of_getElem? (i := 1) rfl)) (by decide +kernel)
theorem kf_X12_83 : Cond.fieldLink RX12 83 (kFd 12 31).1 (kFd 12 31).2.1 (kFd 12 31).2.2.1 ∈ kTb := kTb_of (kch_10 _ (List.mem_of_getElem? (i := 2) rfl)) (by decide +kernel)
theorem kf_X12_87 : Cond.fieldLink RX12 87 (kFd 12 32).1 (kFd 12 32).2.1 (kFd 12 32).2.2.1 ∈ kTb := kTb_of (kch_10 _ (List.mem_of_getElem? (i := 3) rfl)) (by decide +kernel)
theorem kf_X12_91 : Cond.fieldLink RX12 91 (kFd 12 33).1 (kFd 12 33).2.1 (kFd 12 33).2.2.1 ∈ kTb := kTb_of (kch_10 _ (List.mem_of_getElem? (i := 4) rfl)) (by decide +kernel)
theorem kf_X12_94 : Cond.fieldLink RX12 94 (kFd 12 34).1 (kFd 12 34).2.1 (kFd 12 34).2.2.1 ∈ kTb := kTb_of (kch_10 _ (List.mem_of_getElem? (i := 5) rfl)) (by decide +kernel)
theorem kf_X12_97 : Cond.fieldLink RX12 97 (kFd 12 35).1 (kFd 12 35).2.1 (kFd 12 35).2.2.1 ∈ kTb := kTb_of (kch_10 _ (List.mem_of_getElem? (i := 6) rfl)) (by decide +kernel)
theorem kf_X12_100 : Cond.fieldLink RX12 100 (kFd 12 36).1 (kFd 12 36).2.1 (kFd 12 36).2.2.1 ∈ kTb := kTb_of (kch_10 _ (List.mem_of_getElem? (i := 7) rfl)) (by decide +kernel)
theorem kf_X12_103 : Cond.fieldLink RX12 103 (kFd 12 37).1 (kFd 12 37).2.1 (kFd 12 37).2.2.1 ∈ kTb := kTb_of (kch_10 _ (List.mem_of_getElem? (i := 8) rfl)) (by decide +kernel)
theorem kf_X12_106 : Cond.fieldLink RX12 106 (kFd 12 39).1 (kFd 12 39).2.1 (kFd 12 39).2.2.1 ∈ kTb := kTb_of (kch_10 _ (List.mem_of_getElem? (i := 10) rfl)) (by decide +kernel)
theorem kf_X12_110 : Cond.fieldLink RX12 110 (kFd 12 43).1 (kFd 12 43).2.1 (kFd 12 43).2.2.1 ∈ kTb := kTb_of (kch_10 _ (List.mem_of_getElem? (i := 14) rfl)) (by decide +kernel)
theorem kf_X12_113 : Cond.fieldLink RX12 113 (kFd 12 44).1 (kFd 12 44).2.1 (kFd 12 44).2.2.1 ∈ kTb := kTb_of (kch_10 _ (List.mem_of_getElem? (i := 15) rfl)) (by decide +kernel)
theorem kf_X12_116 : Cond.fieldLink RX12 116 (kFd 12 45).1 (kFd 12 45).2.1 (kFd 12 45).2.2.1 ∈ kTb := kTb_of (kch_10 _ (List.mem_of_getElem? (i := 16) rfl)) (by decide +kernel)
theorem kf_X12_119 : Cond.fieldLink RX12 119 (kFd 12 46).1 (kFd 12 46).2.1 (kFd 12 46).2.2.1 ∈ kTb := kTb_of (kch_10 _ (List.mem_of_getElem? (i := 17) rfl)) (by decide +kernel)
theorem kf_X12_122 : Cond.fieldLink RX12 122 (kFd 12 47).1 (kFd 12 47).2.1 (kFd 12 47).2.2.1 ∈ kTb := kTb_of (kch_10 _ (List.mem_of_getElem? (i := 18) rfl)) (by decide +kernel)
theorem kf_X12_125 : Cond.fieldLink RX12 125 (kFd 12 48).1 (kFd 12 48).2.1 (kFd 12 48).2.2.1 ∈ kTb := kTb_of (kch_10 _ (List.mem_of_getElem? (i := 19) rfl)) (by decide +kernel)
theorem kf_X12_128 : Cond.fieldLink RX12 128 (kFd 12 49).1 (kFd 12 49).2.1 (kFd 12 49).2.2.1 ∈ kTb := kTb_of (kch_10 _ (List.mem_of_getElem? (i := 20) rfl)) (by decide +kernel)
theorem kf_X12_131 : Cond.fieldLink RX12 131 (kFd 12 50).1 (kFd 12 50).2.1 (kFd 12 50).2.2.1 ∈ kTb := kTb_of (kch_10 _ (List.mem_of_getElem? (i := 21) rfl)) (by decide +kernel)
theorem kf_X12_134 : Cond.fieldLink RX12 134 (kFd 12 51).1 (kFd 12 51).2.1 (kFd 12 51).2.2.1 ∈ kTb := kTb_of (kch_10 _ (List.mem_of_getElem? (i := 22) rfl)) (by decide +kernel)
theorem kf_X12_137 : Cond.fieldLink RX12 137 (kFd 12 52).1 (kFd 12 52).2.1 (kFd 12 52).2.2.1 ∈ kTb := kTb_of (kch_10 _ (List.mem_of_getElem? (i := 23) rfl)) (by decide +kernel)
theorem kf_X12_140 : Cond.fieldLink RX12 140 (kFd 12 53).1 (kFd 12 53).2.1 (kFd 12 53).2.2.1 ∈ kTb := kTb_of (kch_10 _ (List.mem_of_getElem? (i := 24) rfl)) (by decide +kernel)
theorem kf_X12_143 : Cond.fieldLink RX12 143 (kFd 12 54).1 (kFd 12 54).2.1 (kFd 12 54).2.2.1 ∈ kTb := kTb_of (kch_10 _ (List.mem_of_getElem? (i := 25) rfl)) (by decide +kernel)
theorem kf_X12_146 : Cond.fieldLink RX12 146 (kFd 12 55).1 (kFd 12 55).2.1 (kFd 12 55).2.2.1 ∈ kTb := kTb_of (kch_10 _ (List.mem_of_getElem? (i := 26) rfl)) (by decide +kernel)
theorem kf_X12_149 : Cond.fieldLink RX12 149 (kFd 12 56).1 (kFd 12 56).2.1 (kFd 12 56).2.2.1 ∈ kTb := kTb_of (kch_10 _ (List.mem_of_getElem? (i := 27) rfl)) (by decide +kernel)
theorem kf_X12_152 : Cond.fieldLink RX12 152 (kFd 12 57).1 (kFd 12 57).2.1 (kFd 12 57).2.2.1 ∈ kTb := kTb_of (kch_10 _ (List.mem_of_getElem? (i := 28) rfl)) (by decide +kernel)
theorem kf_X12_155 : Cond.fieldLink RX12 155 (kFd 12 58).1 (kFd 12 58).2.1 (kFd 12 58).2.2.1 ∈ kTb := kTb_of (kch_10 _ (List.mem_of_getElem? (i := 29) rfl)) (by decide +kernel)
theorem kf_X12_158 : Cond.fieldLink RX12 158 (kFd 12 59).1 (kFd 12 59).2.1 (kFd 12 59).2.2.1 ∈ kTb := kTb_of (kch_10 _ (List.mem_of_getElem? (i := 30) rfl)) (by decide +kernel)
theorem kf_X12_161 : Cond.fieldLink RX12 161 (kFd 12 60).1 (kFd 12 60).2.1 (kFd 12 60).2.2.1 ∈ kTb := kTb_of (kch_10 _ (List.mem_of_getElem? (i := 31) rfl)) (by decide +kernel)
theorem kf_X12_164 : Cond.fieldLink RX12 164 (kFd 12 61).1 (kFd 12 61).2.1 (kFd 12 61).2.2.1 ∈ kTb := kTb_of (kch_10 _ (List.mem_of_getElem? (i := 32) rfl)) (by decide +kernel)
theorem kf_X12_167 : Cond.fieldLink RX12 167 (kFd 12 62).1 (kFd 12 62).2.1 (kFd 12 62).2.2.1 ∈ kTb := kTb_of (kch_10 _ (List.mem_of_getElem? (i := 33) rfl)) (by decide +kernel)
theorem kf_X12_170 : Cond.fieldLink RX12 170 (kFd 12 63).1 (kFd 12 63).2.1 (kFd 12 63).2.2.1 ∈ kTb := kTb_of (kch_10 _ (List.mem_of_getElem? (i := 34) rfl)) (by decide +kernel)
theorem kf_X12_173 : Cond.fieldLink RX12 173 (kFd 12 64).1 (kFd 12 64).2.1 (kFd 12 64).2.2.1 ∈ kTb := kTb_of (kch_10 _ (List.mem_of_getElem? (i := 35) rfl)) (by decide +kernel)
theorem kf_X12_176 : Cond.fieldLink RX12 176 (kFd 12 65).1 (kFd 12 65).2.1 (kFd 12 65).2.2.1 ∈ kTb := kTb_of (kch_10 _ (List.mem_of_getElem? (i := 36) rfl)) (by decide +kernel)
theorem kf_X12_179 : Cond.fieldLink RX12 179 (kFd 12 66).1 (kFd 12 66).2.1 (kFd 12 66).2.2.1 ∈ kTb := kTb_of (kch_10 _ (List.mem_of_getElem? (i := 37) rfl)) (by decide +kernel)
theorem kf_X12_182 : Cond.fieldLink RX12 182 (kFd 12 67).1 (kFd 12 67).2.1 (kFd 12 67).2.2.1 ∈ kTb := kTb_of (kch_10 _ (List.mem_of_getElem? (i := 38) rfl)) (by decide +kernel)
theorem kf_X12_185 : Cond.fieldLink RX12 185 (kFd 12 68).1 (kFd 12 68).2.1 (kFd 12 68).2.2.1 ∈ kTb := kTb_of (kch_10 _ (List.mem_of_getElem? (i := 39) rfl)) (by decide +kernel)
theorem kf_X12_188 : Cond.fieldLink RX12 188 (kFd 12 69).1 (kFd 12 69).2.1 (kFd 12 69).2.2.1 ∈ kTb := kTb_of (kch_10 _ (List.mem_of_getElem? (i := 40) rfl)) (by decide +kernel)
theorem kf_X12_191 : Cond.fieldLink RX12 191 (kFd 12 70).1 (kFd 12 70).2.1 (kFd 12 70).2.2.1 ∈ kTb := kTb_of (kch_10 _ (List.mem_of_getElem? (i := 41) rfl)) (by decide +kernel)
theorem kf_X12_194 : Cond.fieldLink RX12 194 (kFd 12 71).1 (kFd 12 71).2.1 (kFd 12 71).2.2.1 ∈ kTb := kTb_of (kch_10 _ (List.mem_of_getElem? (i := 42) rfl)) (by decide +kernel)
theorem kf_X12_197 : Cond.fieldLink RX12 197 (kFd 12 72).1 (kFd 12 72).2.1 (kFd 12 72).2.2.1 ∈ kTb := kTb_of (kch_10 _ (List.mem_of_getElem? (i := 43) rfl)) (by decide +kernel)
theorem kf_X12_200 : Cond.fieldLink RX12 200 (kFd 12 73).1 (kFd 12 73).2.1 (kFd 12 73).2.2.1 ∈ kTb := kTb_of (kch_10 _ (List.mem_of_getElem? (i := 44) rfl)) (by decide +kernel)
theorem kf_X12_203 : Cond.fieldLink RX12 203 (kFd 12 74).1 (kFd 12 74).2.1 (kFd 12 74).2.2.1 ∈ kTb := kTb_of (kch_10 _ (List.mem_of_getElem? (i := 45) rfl)) (by decide +kernel)
theorem kf_X12_206 : Cond.fieldLink RX12 206 (kFd 12 75).1 (kFd 12 75).2.1 (kFd 12 75).2.2.1 ∈ kTb := kTb_of (kch_10 _ (List.mem_of_getElem? (i := 46) rfl)) (by decide +kernel)
theorem kf_X12_209 : Cond.fieldLink RX12 209 (kFd 12 76).1 (kFd 12 76).2.1 (kFd 12 76).2.2.1 ∈ kTb := kTb_of (kch_10 _ (List.mem_of_getElem? (i := 47) rfl)) (by decide +kernel)
theorem kf_X12_212 : Cond.fieldLink RX12 212 (kFd 12 77).1 (kFd 12 77).2.1 (kFd 12 77).2.2.1 ∈ kTb := kTb_of (kch_10 _ (List.mem_of_getElem? (i := 48) rfl)) (by decide +kernel)
theorem kf_X12_216 : Cond.fieldLink RX12 216 (kFd 12 78).1 (kFd 12 78).2.1 (kFd 12 78).2.2.1 ∈ kTb := kTb_of (kch_10 _ (List.mem_of_getElem? (i := 49) rfl)) (by decide +kernel)
theorem kf_X12_219 : Cond.fieldLink RX12 219 (kFd 12 79).1 (kFd 12 79).2.1 (kFd 12 79).2.2.1 ∈ kTb := kTb_of (kch_10 _ (List.mem_of_getElem? (i := 50) rfl)) (by decide +kernel)
theorem kf_X12_222 : Cond.fieldLink RX12 222 (kFd 12 80).1 (kFd 12 80).2.1 (kFd 12 80).2.2.1 ∈ kTb := kTb_of (kch_10 _ (List.mem_of_getElem? (i := 51) rfl)) (by decide +kernel)
theorem kf_X12_225 : Cond.fieldLink RX12 225 (kFd 12 83).1 (kFd 12 83).2.1 (kFd 12 83).2.2.1 ∈ kTb := kTb_of (kch_10 _ (List.mem_of_getElem? (i := 54) rfl)) (by decide +kernel)
theorem kf_X12_228 : Cond.fieldLink RX12 228 (kFd 12 84).1 (kFd 12 84).2.1 (kFd 12 84).2.2.1 ∈ kTb := kTb_of (kch_10 _ (List.mem_of_getElem? (i := 55) rfl)) (by decide +kernel)
theorem kf_X12_231 : Cond.fieldLink RX12 231 (kFd 12 85).1 (kFd 12 85).2.1 (kFd 12 85).2.2.1 ∈ kTb := kTb_of (kch_10 _ (List.mem_of_getElem? (i := 56) rfl)) (by decide +kernel)
theorem kf_X12_234 : Cond.fieldLink RX12 234 (kFd 12 86).1 (kFd 12 86).2.1 (kFd 12 86).2.2.1 ∈ kTb := kTb_of (kch_10 _ (List.mem_of_getElem? (i := 57) rfl)) (by decide +kernel)
theorem kf_X12_237 : Cond.fieldLink RX12 237 (kFd 12 87).1 (kFd 12 87).2.1 (kFd 12 87).2.2.1 ∈ kTb := kTb_of (kch_10 _ (List.mem_of_getElem? (i := 58) rfl)) (by decide +kernel)
theorem kf_X12_240 : Cond.fieldLink RX12 240 (kFd 12 88).1 (kFd 12 88).2.1 (kFd 12 88).2.2.1 ∈ kTb := kTb_of (kch_10 _ (List.mem_of_getElem? (i := 59) rfl)) (by decide +kernel)
theorem kf_X12_243 : Cond.fieldLink RX12 243 (kFd 12 89).1 (kFd 12 89).2.1 (kFd 12 89).2.2.1 ∈ kTb := kTb_of (kch_10 _ (List.mem_of_getElem? (i := 60) rfl)) (by decide +kernel)
theorem kf_X12_246 : Cond.fieldLink RX12 246 (kFd 12 90).1 (kFd 12 90).2.1 (kFd 12 90).2.2.1 ∈ kTb := kTb_of (kch_10 _ (List.mem_of_getElem? (i := 61) rfl)) (by decide +kernel)
theorem kf_X12_249 : Cond.fieldLink RX12 249 (kFd 12 92).1 (kFd 12 92).2.1 (kFd 12 92).2.2.1 ∈ kTb := kTb_of (kch_10 _ (List.mem_of_getElem? (i := 63) rfl)) (by decide +kernel)
theorem kf_X12_252 : Cond.fieldLink RX12 252 (kFd 12 94).1 (kFd 12 94).2.1 (kFd 12 94).2.2.1 ∈ kTb := kTb_of (kch_10 _ (List.mem_of_getElem? (i := 65) rfl)) (by decide +kernel)
theorem kf_X12_256 : Cond.fieldLink RX12 256 (kFd 12 95).1 (kFd 12 95).2.1 (kFd 12 95).2.2.1 ∈ kTb := kTb_of (kch_10 _ (List.mem_of_getElem? (i := 66) rfl)) (by decide +kernel)
theorem kf_X12_259 : Cond.fieldLink RX12 259 (kFd 12 96).1 (kFd 12 96).2.1 (kFd 12 96).2.2.1 ∈ kTb := kTb_of (kch_10 _ (List.mem_of_getElem? (i := 67) rfl)) (by decide +kernel)
theorem kf_X12_262 : Cond.fieldLink RX12 262 (kFd 12 100).1 (kFd 12 100).2.1 (kFd 12 100).2.2.1 ∈ kTb := kTb_of (kch_10 _ (List.mem_of_getElem? (i := 71) rfl)) (by decide +kernel)
theorem kf_X12_265 : Cond.fieldLink RX12 265 (kFd 12 101).1 (kFd 12 101).2.1 (kFd 12 101).2.2.1 ∈ kTb := kTb_of (kch_10 _ (List.mem_of_getElem? (i := 72) rfl)) (by decide +kernel)
theorem kf_X12_268 : Cond.fieldLink RX12 268 (kFd 12 102).1 (kFd 12 102).2.1 (kFd 12 102).2.2.1 ∈ kTb := kTb_of (kch_10 _ (List.mem_of_getElem? (i := 73) rfl)) (by decide +kernel)
theorem kf_X12_271 : Cond.fieldLink RX12 271 (kFd 12 103).1 (kFd 12 103).2.1 (kFd 12 103).2.2.1 ∈ kTb := kTb_of (kch_10 _ (List.mem_of_getElem? (i := 74) rfl)) (by decide +kernel)
theorem kf_X12_274 : Cond.fieldLink RX12 274 (kFd 12 104).1 (kFd 12 104).2.1 (kFd 12 104).2.2.1 ∈ kTb := kTb_of (kch_10 _ (List.mem_of_getElem? (i := 75) rfl)) (by decide +kernel)
theorem kf_X12_277 : Cond.fieldLink RX12 277 (kFd 12 105).1 (kFd 12 105).2.1 (kFd 12 105).2.2.1 ∈ kTb := kTb_of (kch_10 _ (List.mem_of_getElem? (i := 76) rfl)) (by decide +kernel)
theorem kf_X12_280 : Cond.fieldLink RX12 280 (kFd 12 106).1 (kFd 12 106).2.1 (kFd 12 106).2.2.1 ∈ kTb := kTb_of (kch_10 _ (List.mem_of_getElem? (i := 77) rfl)) (by decide +kernel)
theorem kf_X12_283 : Cond.fieldLink RX12 283 (kFd 12 111).1 (kFd 12 111).2.1 (kFd 12 111).2.2.1 ∈ kTb := kTb_of (kch_10 _ (List.mem_of_getElem? (i := 82) rfl)) (by decide +kernel)
theorem kf_X12_286 : Cond.fieldLink RX12 286 (kFd 12 112).1 (kFd 12 112).2.1 (kFd 12 112).2.2.1 ∈ kTb := kTb_of (kch_10 _ (List.mem_of_getElem? (i := 83) rfl)) (by decide +kernel)
theorem kf_X12_289 : Cond.fieldLink RX12 289 (kFd 12 114).1 (kFd 12 114).2.1 (kFd 12 114).2.2.1 ∈ kTb := kTb_of (kch_10 _ (List.mem_of_getElem? (i := 85) rfl)) (by decide +kernel)
theorem kf_X12_292 : Cond.fieldLink RX12 292 (kFd 12 115).1 (kFd 12 115).2.1 (kFd 12 115).2.2.1 ∈ kTb := kTb_of (kch_10 _ (List.mem_of_getElem? (i := 86) rfl)) (by decide +kernel)
theorem kf_X12_295 : Cond.fieldLink RX12 295 (kFd 12 117).1 (kFd 12 117).2.1 (kFd 12 117).2.2.1 ∈ kTb := kTb_of (kch_10 _ (List.mem_of_getElem? (i := 88) rfl)) (by decide +kernel)
theorem kf_X12_298 : Cond.fieldLink RX12 298 (kFd 12 119).1 (kFd 12 119).2.1 (kFd 12 119).2.2.1 ∈ kTb := kTb_of (kch_10 _ (List.mem_of_getElem? (i := 90) rfl)) (by decide +kernel)
theorem kf_X12_301 : Cond.fieldLink RX12 301 (kFd 12 120).1 (kFd 12 120).2.1 (kFd 12 120).2.2.1 ∈ kTb := kTb_of (kch_10 _ (List.mem_of_getElem? (i := 91) rfl)) (by decide +kernel)
theorem kf_X12_304 : Cond.fieldLink RX12 304 (kFd 12 121).1 (kFd 12 121).2.1 (kFd 12 121).2.2.1 ∈ kTb := kTb_of (kch_10 _ (List.mem_of_getElem? (i := 92) rfl)) (by decide +kernel)
theorem kf_X12_307 : Cond.fieldLink RX12 307 (kFd 12 122).1 (kFd 12 122).2.1 (kFd 12 122).2.2.1 ∈ kTb := kTb_of (kch_10 _ (List.mem_of_getElem? (i := 93) rfl)) (by decide +kernel)
theorem kf_X12_310 : Cond.fieldLink RX12 310 (kFd 12 123).1 (kFd 12 123).2.1 (kFd 12 123).2.2.1 ∈ kTb := kTb_of (kch_10 _ (List.mem_of_getElem? (i := 94) rfl)) (by decide +kernel)
theorem kf_X12_317 : Cond.fieldLink RX12 317 (kFd 12 0).1 (kFd 12 0).2.1 (kFd 12 0).2.2.1 ∈ kTb := kTb_of (kch_9 _ (List.mem_of_getElem? (i := 211) rfl)) (by decide +kernel)
theorem kf_X12_321 : Cond.fieldLink RX12 321 (kFd 12 1).1 (kFd 12 1).2.1 (kFd 12 1).2.2.1 ∈ kTb := kTb_of (kch_9 _ (List.mem_of_getElem? (i := 212) rfl)) (by decide +kernel)
theorem kf_X12_324 : Cond.fieldLink RX12 324 (kFd 12 3).1 (kFd 12 3).2.1 (kFd 12 3).2.2.1 ∈ kTb := kTb_of (kch_9 _ (List.mem_of_getElem? (i := 214) rfl)) (by decide +kernel)
theorem kf_X12_327 : Cond.fieldLink RX12 327 (kFd 12 2).1 (kFd 12 2).2.1 (kFd 12 2).2.2.1 ∈ kTb := kTb_of (kch_9 _ (List.mem_of_getElem? (i := 213) rfl)) (by decide +kernel)
theorem kf_X12_330 : Cond.fieldLink RX12 330 (kFd 12 4).1 (kFd 12 4).2.1 (kFd 12 4).2.2.1 ∈ kTb := kTb_of (kch_9 _ (List.mem_of_getElem? (i := 215) rfl)) (by decide +kernel)
theorem kf_X12_333 : Cond.fieldLink RX12 333 (kFd 12 5).1 (kFd 12 5).2.1 (kFd 12 5).2.2.1 ∈ kTb := kTb_of (kch_9 _ (List.mem_of_getElem? (i := 216) rfl)) (by decide +kernel)
theorem kf_X12_336 : Cond.fieldLink RX12 336 (kFd 12 42).1 (kFd 12 42).2.1 (kFd 12 42).2.2.1 ∈ kTb := kTb_of (kch_10 _ (List.mem_of_getElem? (i := 13) rfl)) (by decide +kernel)
theorem kf_X12_339 : Cond.fieldLink RX12 339 (kFd 12 41).1 (kFd 12 41).2.1 (kFd 12 41).2.2.1 ∈ kTb := kTb_of (kch_10 _ (List.mem_of_getElem? (i := 12) rfl)) (by decide +kernel)
theorem kf_X12_342 : Cond.fieldLink RX12 342 (kFd 12 81).1 (kFd 12 81).2.1 (kFd 12 81).2.2.1 ∈ kTb := kTb_of (kch_10 _ (List.mem_of_getElem? (i := 52) rfl)) (by decide +kernel)
theorem kf_X12_345 : Cond.fieldLink RX12 345 (kFd 12 82).1 (kFd 12 82).2.1 (kFd 12 82).2.2.1 ∈ kTb := kTb_of (kch_10 _ (List.mem_of_getElem? (i := 53) rfl)) (by decide +kernel)
theorem kf_X12_371 : Cond.fieldLink RX12 371 (kFd 12 38).1 (kFd 12 38).2.1 (kFd 12 38).2.2.1 ∈ kTb := kTb_of (kch_10 _ (List.mem_of_getElem? (i := 9) rfl)) (by decide +kernel)
theorem kf_X12_377 : Cond.fieldLink RX12 377 (kFd 12 40).1 (kFd 12 40).2.1 (kFd 12 40).2.2.1 ∈ kTb := kTb_of (kch_10 _ (List.mem_of_getElem? (i := 11) rfl)) (by decide +kernel)
theorem kf_X12_481 : Cond.fieldLink RX12 481 (kFd 12 91).1 (kFd 12 91).2.1 (kFd 12 91).2.2.1 ∈ kTb := kTb_of (kch_10 _ (List.mem_of_getElem? (i := 62) rfl)) (by decide +kernel)
theorem kf_X12_502 : Cond.fieldLink RX12 502 (kFd 12 93).1 (kFd 12 93).2.1 (kFd 12 93).2.2.1 ∈ kTb := kTb_of (kch_10 _ (List.mem_of_getElem? (i := 64) rfl)) (by decide +kernel)
theorem kf_X12_511 : Cond.fieldLink RX12 511 (kFd 12 98).1 (kFd 12 98).2.1 (kFd 12 98).2.2.1 ∈ kTb := kTb_of (kch_10 _ (List.mem_of_getElem? (i := 69) rfl)) (by decide +kernel)
theorem kf_X12_515 : Cond.fieldLink RX12 515 (kFd 12 99).1 (kFd 12 99).2.1 (kFd 12 99).2.2.1 ∈ kTb := kTb_of (kch_10 _ (List.mem_of_getElem? (i := 70) rfl)) (by decide +kernel)
theorem kf_X12_518 : Cond.fieldLink RX12 518 (kFd 12 97).1 (kFd 12 97).2.1 (kFd 12 97).2.2.1 ∈ kTb := kTb_of (kch_10 _ (List.mem_of_getElem? (i := 68) rfl)) (by decide +kernel)
theorem kf_X12_537 : Cond.fieldLink RX12 537 (kFd 12 109).1 (kFd 12 109).2.1 (kFd 12 109).2.2.1 ∈ kTb := kTb_of (kch_10 _ (List.mem_of_getElem? (i := 80) rfl)) (by decide +kernel)
theorem kf_X12_540 : Cond.fieldLink RX12 540 (kFd 12 110).1 (kFd 12 110).2.1 (kFd 12 110).2.2.1 ∈ kTb := kTb_of (kch_10 _ (List.mem_of_getElem? (i := 81) rfl)) (by decide +kernel)
theorem kf_X12_547 : Cond.fieldLink RX12 547 (kFd 12 107).1 (kFd 12 107).2.1 (kFd 12 107).2.2.1 ∈ kTb := kTb_of (kch_10 _ (List.mem_of_getElem? (i := 78) rfl)) (by decide +kernel)
theorem kf_X12_550 : Cond.fieldLink RX12 550 (kFd 12 108).1 (kFd 12 108).2.1 (kFd 12 108).2.2.1 ∈ kTb := kTb_of (kch_10 _ (List.mem_of_getElem? (i := 79) rfl)) (by decide +kernel)
theorem kf_X12_586 : Cond.fieldLink RX12 586 (kFd 12 113).1 (kFd 12 113).2.1 (kFd 12 113).2.2.1 ∈ kTb := kTb_of (kch_10 _ (List.mem_of_getElem? (i := 84) rfl)) (by decide +kernel)
theorem kf_X12_617 : Cond.fieldLink RX12 617 (kFd 12 116).1 (kFd 12 116).2.1 (kFd 12 116).2.2.1 ∈ kTb := kTb_of (kch_10 _ (List.mem_of_getElem? (i := 87) rfl)) (by decide +kernel)
theorem kf_X12_772 : Cond.fieldLink RX12 772 (kFd 12 21).1 (kFd 12 21).2.1 (kFd 12 21).2.2.1 ∈ kTb := kTb_of (kch_9 _ (List.mem_of_getElem? (i := 232) rfl)) (by decide +kernel)
theorem kf_X12_810 : Cond.fieldLink RX12 810 (kFd 12 118).1 (kFd 12 118).2.1 (kFd 12 118).2.2.1 ∈ kTb := kTb_of (kch_10 _ (List.mem_of_getElem? (i := 89) rfl)) (by decide +kernel)
theorem kf_X12_816 : Cond.fieldLink RX12 816 (kFd 12 124).1 (kFd 12 124).2.1 (kFd 12 124).2.2.1 ∈ kTb := kTb_of (kch_10 _ (List.mem_of_getElem? (i := 95) rfl)) (by decide +kernel)
theorem kf_J6_83 : Cond.fieldLink RJ6 83 RJ6 "DigitOnes" "[B" ∈ kTb := kTb_of (kch_4 _ (List.mem_of_getElem? (i := 76) rfl)) (by decide +kernel)
theorem kf_J6_87 : Cond.fieldLink RJ6 87 RJ6 "DigitTens" "[B" ∈ kTb := kTb_of (kch_4 _ (List.mem_of_getElem? (i := 78) rfl)) (by decide +kernel)
theorem km_X11_3 : Cond.methodLink RX11 3 Lib.objectInit ∈ kTb := kTb_of (kch_1 _ (List.mem_of_getElem? (i := 37) rfl)) (by decide +kernel)
theorem km_X11_22 : Cond.methodLink RX11 22 yX5_init ∈ kTb := kTb_of (kch_1 _ (List.mem_of_getElem? (i := 169) rfl)) (by decide +kernel)
theorem km_X11_31 : Cond.methodLink RX11 31 yX7_init ∈ kTb := kTb_of (kch_1 _ (List.mem_of_getElem? (i := 208) rfl)) (by decide +kernel)
theorem km_X11_36 : Cond.methodLink RX11 36 yX3_init ∈ kTb := kTb_of (kch_2 _ (List.mem_of_getElem? (i := 168) rfl)) (by decide +kernel)
theorem km_X11_56 : Cond.methodLink RX11 56 yX11_begin ∈ kTb := kTb_of (kch_2 _ (List.mem_of_getElem? (i := 228) rfl)) (by decide +kernel)
theorem km_X11_69 : Cond.methodLink RX11 69 yX11_requireHost ∈ kTb := kTb_of (kch_5 _ (List.mem_of_getElem? (i := 234) rfl)) (by decide +kernel)
theorem km_X11_73 : Cond.methodLink RX11 73 yX11_requireDocument ∈ kTb := kTb_of (kch_6 _ (List.mem_of_getElem? (i := 11) rfl)) (by decide +kernel)
theorem km_X11_76 : Cond.methodLink RX11 76 yX11_draftIsText ∈ kTb := kTb_of (kch_6 _ (List.mem_of_getElem? (i := 16) rfl)) (by decide +kernel)
theorem km_X11_82 : Cond.methodLink RX11 82 yX11_requireReady ∈ kTb := kTb_of (kch_6 _ (List.mem_of_getElem? (i := 21) rfl)) (by decide +kernel)
theorem km_X11_85 : Cond.methodLink RX11 85 yJ7_copyOf_59c91 ∈ kTb := kTb_of (kch_6 _ (List.mem_of_getElem? (i := 27) rfl)) (by decide +kernel)
theorem km_X11_91 : Cond.methodLink RX11 91 yX11_come ∈ kTb := kTb_of (kch_6 _ (List.mem_of_getElem? (i := 35) rfl)) (by decide +kernel)
theorem km_X11_98 : Cond.methodLink RX11 98 yX11_requireShard ∈ kTb := kTb_of (kch_6 _ (List.mem_of_getElem? (i := 186) rfl)) (by decide +kernel)
theorem km_X11_106 : Cond.methodLink RX11 106 yX6_read ∈ kTb := kTb_of (kch_6 _ (List.mem_of_getElem? (i := 218) rfl)) (by decide +kernel)
theorem km_X11_110 : Cond.methodLink RX11 110 yX10_requestAt ∈ kTb := kTb_of (kch_5 _ (List.mem_of_getElem? (i := 205) rfl)) (by decide +kernel)
theorem km_X11_136 : Cond.methodLink RX11 136 yX8_toldHits ∈ kTb := kTb_of (kch_7 _ (List.mem_of_getElem? (i := 24) rfl)) (by decide +kernel)
theorem km_X11_145 : Cond.methodLink RX11 145 yX11_requireLink ∈ kTb := kTb_of (kch_7 _ (List.mem_of_getElem? (i := 43) rfl)) (by decide +kernel)
theorem km_X11_152 : Cond.methodLink RX11 152 yX10_linkOf ∈ kTb := kTb_of (kch_7 _ (List.mem_of_getElem? (i := 47) rfl)) (by decide +kernel)
theorem km_X11_156 : Cond.methodLink RX11 156 yX10_messageAt ∈ kTb := kTb_of (kch_7 _ (List.mem_of_getElem? (i := 56) rfl)) (by decide +kernel)
theorem km_X11_168 : Cond.methodLink RX11 168 yX11_pass ∈ kTb := kTb_of (kch_7 _ (List.mem_of_getElem? (i := 68) rfl)) (by decide +kernel)
theorem km_X11_171 : Cond.methodLink RX11 171 yX10_take ∈ kTb := kTb_of (kch_7 _ (List.mem_of_getElem? (i := 72) rfl)) (by decide +kernel)
theorem km_X11_175 : Cond.methodLink RX11 175 yX11_pulse ∈ kTb := kTb_of (kch_5 _ (List.mem_of_getElem? (i := 62) rfl)) (by decide +kernel)
theorem km_X11_188 : Cond.methodLink RX11 188 yX11_requireNode ∈ kTb := kTb_of (kch_8 _ (List.mem_of_getElem? (i := 152) rfl)) (by decide +kernel)
theorem km_X11_195 : Cond.methodLink RX11 195 yX11_fall ∈ kTb := kTb_of (kch_5 _ (List.mem_of_getElem? (i := 200) rfl)) (by decide +kernel)
theorem km_X11_204 : Cond.methodLink RX11 204 yX11_boot ∈ kTb := kTb_of (kch_8 _ (List.mem_of_getElem? (i := 171) rfl)) (by decide +kernel)
theorem km_X11_215 : Cond.methodLink RX11 215 yX11_requireReplica ∈ kTb := kTb_of (kch_9 _ (List.mem_of_getElem? (i := 8) rfl)) (by decide +kernel)
theorem km_X11_228 : Cond.methodLink RX11 228 yX0_tell ∈ kTb := kTb_of (kch_9 _ (List.mem_of_getElem? (i := 14) rfl)) (by decide +kernel)
theorem km_X11_233 : Cond.methodLink RX11 233 yX7_isOther ∈ kTb := kTb_of (kch_9 _ (List.mem_of_getElem? (i := 29) rfl)) (by decide +kernel)
theorem km_X11_259 : Cond.methodLink RX11 259 yX10_shardOf ∈ kTb := kTb_of (kch_9 _ (List.mem_of_getElem? (i := 46) rfl)) (by decide +kernel)
theorem km_X11_279 : Cond.methodLink RX11 279 yX0_requestOf ∈ kTb := kTb_of (kch_9 _ (List.mem_of_getElem? (i := 48) rfl)) (by decide +kernel)
theorem km_X11_282 : Cond.methodLink RX11 282 yX0_actAt ∈ kTb := kTb_of (kch_9 _ (List.mem_of_getElem? (i := 59) rfl)) (by decide +kernel)
theorem km_X11_298 : Cond.methodLink RX11 298 yX11_requireSegment ∈ kTb := kTb_of (kch_9 _ (List.mem_of_getElem? (i := 75) rfl)) (by decide +kernel)
theorem km_X11_307 : Cond.methodLink RX11 307 yX2_liveIn ∈ kTb := kTb_of (kch_9 _ (List.mem_of_getElem? (i := 81) rfl)) (by decide +kernel)
theorem km_X11_310 : Cond.methodLink RX11 310 yX9_write ∈ kTb := kTb_of (kch_9 _ (List.mem_of_getElem? (i := 82) rfl)) (by decide +kernel)
theorem km_X11_321 : Cond.methodLink RX11 321 yX10_onLinks ∈ kTb := kTb_of (kch_9 _ (List.mem_of_getElem? (i := 137) rfl)) (by decide +kernel)
theorem km_X11_330 : Cond.methodLink RX11 330 yX11_contextsInUse ∈ kTb := kTb_of (kch_9 _ (List.mem_of_getElem? (i := 141) rfl)) (by decide +kernel)
theorem km_X11_348 : Cond.methodLink RX11 348 yX5_replicaOf ∈ kTb := kTb_of (kch_5 _ (List.mem_of_getElem? (i := 75) rfl)) (by decide +kernel)
theorem km_X11_359 : Cond.methodLink RX11 359 yX10_begin ∈ kTb := kTb_of (kch_2 _ (List.mem_of_getElem? (i := 232) rfl)) (by decide +kernel)
theorem km_X11_360 : Cond.methodLink RX11 360 yX5_begin ∈ kTb := kTb_of (kch_2 _ (List.mem_of_getElem? (i := 239) rfl)) (by decide +kernel)
theorem km_X11_363 : Cond.methodLink RX11 363 yX7_begin ∈ kTb := kTb_of (kch_3 _ (List.mem_of_getElem? (i := 7) rfl)) (by decide +kernel)
theorem km_X11_366 : Cond.methodLink RX11 366 yX3_begin ∈ kTb := kTb_of (kch_5 _ (List.mem_of_getElem? (i := 11) rfl)) (by decide +kernel)
theorem km_X11_373 : Cond.methodLink RX11 373 yX8_init ∈ kTb := kTb_of (kch_6 _ (List.mem_of_getElem? (i := 41) rfl)) (by decide +kernel)
theorem km_X11_376 : Cond.methodLink RX11 376 yX10_send ∈ kTb := kTb_of (kch_6 _ (List.mem_of_getElem? (i := 169) rfl)) (by decide +kernel)
theorem km_X11_379 : Cond.methodLink RX11 379 yX4_with ∈ kTb := kTb_of (kch_6 _ (List.mem_of_getElem? (i := 170) rfl)) (by decide +kernel)
theorem km_X11_383 : Cond.methodLink RX11 383 yX5_closeContexts ∈ kTb := kTb_of (kch_5 _ (List.mem_of_getElem? (i := 204) rfl)) (by decide +kernel)
theorem km_X11_389 : Cond.methodLink RX11 389 yX3_load ∈ kTb := kTb_of (kch_8 _ (List.mem_of_getElem? (i := 175) rfl)) (by decide +kernel)
theorem km_X11_392 : Cond.methodLink RX11 392 yX7_load ∈ kTb := kTb_of (kch_8 _ (List.mem_of_getElem? (i := 208) rfl)) (by decide +kernel)
theorem km_X11_393 : Cond.methodLink RX11 393 yX10_skipClosed ∈ kTb := kTb_of (kch_5 _ (List.mem_of_getElem? (i := 67) rfl)) (by decide +kernel)
theorem km_X11_396 : Cond.methodLink RX11 396 yX7_pulse ∈ kTb := kTb_of (kch_5 _ (List.mem_of_getElem? (i := 79) rfl)) (by decide +kernel)
theorem km_X11_397 : Cond.methodLink RX11 397 yX5_beat ∈ kTb := kTb_of (kch_5 _ (List.mem_of_getElem? (i := 139) rfl)) (by decide +kernel)
theorem km_X11_400 : Cond.methodLink RX11 400 yX5_closeOldContexts ∈ kTb := kTb_of (kch_5 _ (List.mem_of_getElem? (i := 144) rfl)) (by decide +kernel)
theorem km_X11_403 : Cond.methodLink RX11 403 yX10_ageRequests ∈ kTb := kTb_of (kch_5 _ (List.mem_of_getElem? (i := 148) rfl)) (by decide +kernel)
theorem km_X11_406 : Cond.methodLink RX11 406 yX3_watch ∈ kTb := kTb_of (kch_5 _ (List.mem_of_getElem? (i := 158) rfl)) (by decide +kernel)
theorem km_X11_409 : Cond.methodLink RX11 409 yX5_usedContexts ∈ kTb := kTb_of (kch_9 _ (List.mem_of_getElem? (i := 145) rfl)) (by decide +kernel)
theorem km_X11_412 : Cond.methodLink RX11 412 yX11_replicaFor ∈ kTb := kTb_of (kch_7 _ (List.mem_of_getElem? (i := 77) rfl)) (by decide +kernel)
theorem km_X11_416 : Cond.methodLink RX11 416 yX7_onWrite ∈ kTb := kTb_of (kch_7 _ (List.mem_of_getElem? (i := 89) rfl)) (by decide +kernel)
theorem km_X11_420 : Cond.methodLink RX11 420 yX7_onRepl ∈ kTb := kTb_of (kch_7 _ (List.mem_of_getElem? (i := 121) rfl)) (by decide +kernel)
theorem km_X11_423 : Cond.methodLink RX11 423 yX7_onAck ∈ kTb := kTb_of (kch_7 _ (List.mem_of_getElem? (i := 139) rfl)) (by decide +kernel)
theorem km_X11_426 : Cond.methodLink RX11 426 yX7_onSync ∈ kTb := kTb_of (kch_7 _ (List.mem_of_getElem? (i := 143) rfl)) (by decide +kernel)
theorem km_X11_429 : Cond.methodLink RX11 429 yX7_onWant ∈ kTb := kTb_of (kch_7 _ (List.mem_of_getElem? (i := 205) rfl)) (by decide +kernel)
theorem km_X11_432 : Cond.methodLink RX11 432 yX7_onJoin ∈ kTb := kTb_of (kch_7 _ (List.mem_of_getElem? (i := 209) rfl)) (by decide +kernel)
theorem km_X11_435 : Cond.methodLink RX11 435 yX7_onOut ∈ kTb := kTb_of (kch_7 _ (List.mem_of_getElem? (i := 213) rfl)) (by decide +kernel)
theorem km_X11_439 : Cond.methodLink RX11 439 yX7_onConfig ∈ kTb := kTb_of (kch_7 _ (List.mem_of_getElem? (i := 217) rfl)) (by decide +kernel)
theorem km_X11_442 : Cond.methodLink RX11 442 yX7_onShow ∈ kTb := kTb_of (kch_7 _ (List.mem_of_getElem? (i := 235) rfl)) (by decide +kernel)
theorem km_X11_445 : Cond.methodLink RX11 445 yX7_onShowTo ∈ kTb := kTb_of (kch_8 _ (List.mem_of_getElem? (i := 4) rfl)) (by decide +kernel)
theorem km_X11_448 : Cond.methodLink RX11 448 yX3_onRoute ∈ kTb := kTb_of (kch_8 _ (List.mem_of_getElem? (i := 8) rfl)) (by decide +kernel)
theorem km_X11_451 : Cond.methodLink RX11 451 yX3_onAdd ∈ kTb := kTb_of (kch_8 _ (List.mem_of_getElem? (i := 13) rfl)) (by decide +kernel)
theorem km_X11_454 : Cond.methodLink RX11 454 yX3_onFail ∈ kTb := kTb_of (kch_8 _ (List.mem_of_getElem? (i := 21) rfl)) (by decide +kernel)
theorem km_X11_457 : Cond.methodLink RX11 457 yX3_onSign ∈ kTb := kTb_of (kch_8 _ (List.mem_of_getElem? (i := 25) rfl)) (by decide +kernel)
theorem km_X11_460 : Cond.methodLink RX11 460 yX5_onOpen ∈ kTb := kTb_of (kch_8 _ (List.mem_of_getElem? (i := 29) rfl)) (by decide +kernel)
theorem km_X11_463 : Cond.methodLink RX11 463 yX5_onScore ∈ kTb := kTb_of (kch_8 _ (List.mem_of_getElem? (i := 55) rfl)) (by decide +kernel)
theorem km_X11_466 : Cond.methodLink RX11 466 yX10_answer ∈ kTb := kTb_of (kch_8 _ (List.mem_of_getElem? (i := 91) rfl)) (by decide +kernel)
theorem km_X11_469 : Cond.methodLink RX11 469 yX8_shardIn ∈ kTb := kTb_of (kch_7 _ (List.mem_of_getElem? (i := 81) rfl)) (by decide +kernel)
theorem km_X11_473 : Cond.methodLink RX11 473 yX11_isRowOctet ∈ kTb := kTb_of (kch_6 _ (List.mem_of_getElem? (i := 54) rfl)) (by decide +kernel)
theorem km_X11_476 : Cond.methodLink RX11 476 yX11_beginsRow ∈ kTb := kTb_of (kch_6 _ (List.mem_of_getElem? (i := 51) rfl)) (by decide +kernel)
theorem km_X11_480 : Cond.methodLink RX11 480 yX11_countRows ∈ kTb := kTb_of (kch_6 _ (List.mem_of_getElem? (i := 48) rfl)) (by decide +kernel)
theorem km_X11_488 : Cond.methodLink RX11 488 yX11_rowEnd ∈ kTb := kTb_of (kch_6 _ (List.mem_of_getElem? (i := 59) rfl)) (by decide +kernel)
theorem km_X11_492 : Cond.methodLink RX11 492 yX11_wordOf ∈ kTb := kTb_of (kch_6 _ (List.mem_of_getElem? (i := 62) rfl)) (by decide +kernel)
theorem km_X11_496 : Cond.methodLink RX11 496 Lib.Math.min.name ∈ kTb := kTb_of (kch_6 _ (List.mem_of_getElem? (i := 65) rfl)) (by decide +kernel)
theorem km_X11_501 : Cond.methodLink RX11 501 yX11_lettersAlone ∈ kTb := kTb_of (kch_6 _ (List.mem_of_getElem? (i := 66) rfl)) (by decide +kernel)
theorem km_X11_505 : Cond.methodLink RX11 505 yX11_packed ∈ kTb := kTb_of (kch_6 _ (List.mem_of_getElem? (i := 69) rfl)) (by decide +kernel)
theorem km_X11_509 : Cond.methodLink RX11 509 yX11_endsWith ∈ kTb := kTb_of (kch_6 _ (List.mem_of_getElem? (i := 79) rfl)) (by decide +kernel)
theorem km_X11_513 : Cond.methodLink RX11 513 yX11_small ∈ kTb := kTb_of (kch_6 _ (List.mem_of_getElem? (i := 72) rfl)) (by decide +kernel)
theorem km_X11_516 : Cond.methodLink RX11 516 yX11_isLittle ∈ kTb := kTb_of (kch_6 _ (List.mem_of_getElem? (i := 82) rfl)) (by decide +kernel)
theorem km_X11_521 : Cond.methodLink RX11 521 yX11_figureOf ∈ kTb := kTb_of (kch_6 _ (List.mem_of_getElem? (i := 76) rfl)) (by decide +kernel)
theorem km_X11_524 : Cond.methodLink RX11 524 yX11_comesBefore ∈ kTb := kTb_of (kch_8 _ (List.mem_of_getElem? (i := 88) rfl)) (by decide +kernel)
theorem km_X0_3 : Cond.methodLink RX0 3 Lib.objectInit ∈ kTb := kTb_of (kch_1 _ (List.mem_of_getElem? (i := 217) rfl)) (by decide +kernel)
theorem km_X0_30 : Cond.methodLink RX0 30 yX1_init ∈ kTb := kTb_of (kch_1 _ (List.mem_of_getElem? (i := 220) rfl)) (by decide +kernel)
theorem km_X0_39 : Cond.methodLink RX0 39 yX2_init ∈ kTb := kTb_of (kch_2 _ (List.mem_of_getElem? (i := 13) rfl)) (by decide +kernel)
theorem km_X0_48 : Cond.methodLink RX0 48 yX0_clear ∈ kTb := kTb_of (kch_3 _ (List.mem_of_getElem? (i := 15) rfl)) (by decide +kernel)
theorem km_X0_54 : Cond.methodLink RX0 54 yX2_begin ∈ kTb := kTb_of (kch_3 _ (List.mem_of_getElem? (i := 20) rfl)) (by decide +kernel)
theorem km_X0_58 : Cond.methodLink RX0 58 yX1_begin ∈ kTb := kTb_of (kch_3 _ (List.mem_of_getElem? (i := 25) rfl)) (by decide +kernel)
theorem km_X0_61 : Cond.methodLink RX0 61 yX0_flush ∈ kTb := kTb_of (kch_3 _ (List.mem_of_getElem? (i := 39) rfl)) (by decide +kernel)
theorem km_X0_76 : Cond.methodLink RX0 76 yJ7_fill_53178 ∈ kTb := kTb_of (kch_3 _ (List.mem_of_getElem? (i := 19) rfl)) (by decide +kernel)
theorem km_X0_88 : Cond.methodLink RX0 88 yX0_countDocuments ∈ kTb := kTb_of (kch_9 _ (List.mem_of_getElem? (i := 18) rfl)) (by decide +kernel)
theorem km_X0_95 : Cond.methodLink RX0 95 yX0_documentsAt ∈ kTb := kTb_of (kch_3 _ (List.mem_of_getElem? (i := 43) rfl)) (by decide +kernel)
theorem km_X0_99 : Cond.methodLink RX0 99 yX0_actAt ∈ kTb := kTb_of (kch_3 _ (List.mem_of_getElem? (i := 50) rfl)) (by decide +kernel)
theorem km_X0_103 : Cond.methodLink RX0 103 yX10_requestAt ∈ kTb := kTb_of (kch_3 _ (List.mem_of_getElem? (i := 54) rfl)) (by decide +kernel)
theorem km_X0_118 : Cond.methodLink RX0 118 arraycopyName ∈ kTb := kTb_of (kch_3 _ (List.mem_of_getElem? (i := 47) rfl)) (by decide +kernel)
theorem km_X0_124 : Cond.methodLink RX0 124 Lib.Math.min.name ∈ kTb := kTb_of (kch_7 _ (List.mem_of_getElem? (i := 133) rfl)) (by decide +kernel)
theorem km_X0_130 : Cond.methodLink RX0 130 Lib.Math.max.name ∈ kTb := kTb_of (kch_7 _ (List.mem_of_getElem? (i := 134) rfl)) (by decide +kernel)
theorem km_X0_136 : Cond.methodLink RX0 136 yX1_fits ∈ kTb := kTb_of (kch_7 _ (List.mem_of_getElem? (i := 107) rfl)) (by decide +kernel)
theorem km_X0_140 : Cond.methodLink RX0 140 yX1_clearImage ∈ kTb := kTb_of (kch_3 _ (List.mem_of_getElem? (i := 62) rfl)) (by decide +kernel)
theorem km_X0_143 : Cond.methodLink RX0 143 yX0_addAct ∈ kTb := kTb_of (kch_3 _ (List.mem_of_getElem? (i := 94) rfl)) (by decide +kernel)
theorem km_X0_147 : Cond.methodLink RX0 147 yX1_commit ∈ kTb := kTb_of (kch_7 _ (List.mem_of_getElem? (i := 108) rfl)) (by decide +kernel)
theorem km_X0_150 : Cond.methodLink RX0 150 yX1_open ∈ kTb := kTb_of (kch_3 _ (List.mem_of_getElem? (i := 66) rfl)) (by decide +kernel)
theorem km_X0_153 : Cond.methodLink RX0 153 yX1_addTwo ∈ kTb := kTb_of (kch_3 _ (List.mem_of_getElem? (i := 70) rfl)) (by decide +kernel)
theorem km_X0_156 : Cond.methodLink RX0 156 yX1_close ∈ kTb := kTb_of (kch_3 _ (List.mem_of_getElem? (i := 78) rfl)) (by decide +kernel)
theorem km_X0_159 : Cond.methodLink RX0 159 yX0_addShown ∈ kTb := kTb_of (kch_3 _ (List.mem_of_getElem? (i := 90) rfl)) (by decide +kernel)
theorem km_X0_162 : Cond.methodLink RX0 162 yX2_update ∈ kTb := kTb_of (kch_7 _ (List.mem_of_getElem? (i := 177) rfl)) (by decide +kernel)
theorem km_X0_171 : Cond.methodLink RX0 171 yX0_likeUpTo ∈ kTb := kTb_of (kch_7 _ (List.mem_of_getElem? (i := 155) rfl)) (by decide +kernel)
theorem km_X0_175 : Cond.methodLink RX0 175 yX0_rebase ∈ kTb := kTb_of (kch_7 _ (List.mem_of_getElem? (i := 163) rfl)) (by decide +kernel)
theorem km_X0_179 : Cond.methodLink RX0 179 yX0_cutTo ∈ kTb := kTb_of (kch_7 _ (List.mem_of_getElem? (i := 167) rfl)) (by decide +kernel)
theorem km_X0_183 : Cond.methodLink RX0 183 yX0_raiseSure ∈ kTb := kTb_of (kch_7 _ (List.mem_of_getElem? (i := 171) rfl)) (by decide +kernel)
theorem km_X0_186 : Cond.methodLink RX0 186 yX4_carriedAct ∈ kTb := kTb_of (kch_7 _ (List.mem_of_getElem? (i := 159) rfl)) (by decide +kernel)
theorem km_X0_189 : Cond.methodLink RX0 189 yX0_append ∈ kTb := kTb_of (kch_7 _ (List.mem_of_getElem? (i := 172) rfl)) (by decide +kernel)
theorem km_X0_192 : Cond.methodLink RX0 192 yX0_showUpTo ∈ kTb := kTb_of (kch_7 _ (List.mem_of_getElem? (i := 173) rfl)) (by decide +kernel)
theorem km_X0_197 : Cond.methodLink RX0 197 yX0_markDone ∈ kTb := kTb_of (kch_3 _ (List.mem_of_getElem? (i := 58) rfl)) (by decide +kernel)
theorem km_X0_200 : Cond.methodLink RX0 200 yX1_addOne ∈ kTb := kTb_of (kch_3 _ (List.mem_of_getElem? (i := 74) rfl)) (by decide +kernel)
theorem km_X0_203 : Cond.methodLink RX0 203 yX0_addDocument ∈ kTb := kTb_of (kch_3 _ (List.mem_of_getElem? (i := 82) rfl)) (by decide +kernel)
theorem km_X0_206 : Cond.methodLink RX0 206 yX1_swap ∈ kTb := kTb_of (kch_3 _ (List.mem_of_getElem? (i := 98) rfl)) (by decide +kernel)
theorem km_X0_209 : Cond.methodLink RX0 209 yX1_addText ∈ kTb := kTb_of (kch_3 _ (List.mem_of_getElem? (i := 86) rfl)) (by decide +kernel)
theorem km_X0_212 : Cond.methodLink RX0 212 yX1_choose ∈ kTb := kTb_of (kch_8 _ (List.mem_of_getElem? (i := 216) rfl)) (by decide +kernel)
theorem km_X0_215 : Cond.methodLink RX0 215 yX1_sizeAt ∈ kTb := kTb_of (kch_8 _ (List.mem_of_getElem? (i := 217) rfl)) (by decide +kernel)
theorem km_X0_218 : Cond.methodLink RX0 218 yX0_readRecord ∈ kTb := kTb_of (kch_8 _ (List.mem_of_getElem? (i := 218) rfl)) (by decide +kernel)
theorem km_X0_221 : Cond.methodLink RX0 221 yX1_endAt ∈ kTb := kTb_of (kch_8 _ (List.mem_of_getElem? (i := 232) rfl)) (by decide +kernel)
theorem km_X0_224 : Cond.methodLink RX0 224 yX1_twoAt ∈ kTb := kTb_of (kch_8 _ (List.mem_of_getElem? (i := 222) rfl)) (by decide +kernel)
theorem km_X0_227 : Cond.methodLink RX0 227 yX1_oneAt ∈ kTb := kTb_of (kch_8 _ (List.mem_of_getElem? (i := 223) rfl)) (by decide +kernel)
theorem km_X0_230 : Cond.methodLink RX0 230 yX0_readAct ∈ kTb := kTb_of (kch_8 _ (List.mem_of_getElem? (i := 224) rfl)) (by decide +kernel)
theorem km_X0_233 : Cond.methodLink RX0 233 yX0_readBase ∈ kTb := kTb_of (kch_8 _ (List.mem_of_getElem? (i := 228) rfl)) (by decide +kernel)
theorem km_X1_3 : Cond.methodLink RX1 3 Lib.objectInit ∈ kTb := kTb_of (kch_1 _ (List.mem_of_getElem? (i := 223) rfl)) (by decide +kernel)
theorem km_X1_27 : Cond.methodLink RX1 27 yJ7_fill_031fb ∈ kTb := kTb_of (kch_3 _ (List.mem_of_getElem? (i := 29) rfl)) (by decide +kernel)
theorem km_X1_33 : Cond.methodLink RX1 33 yX1_firstBlockOf ∈ kTb := kTb_of (kch_3 _ (List.mem_of_getElem? (i := 32) rfl)) (by decide +kernel)
theorem km_X1_37 : Cond.methodLink RX1 37 yX1_countFrom ∈ kTb := kTb_of (kch_3 _ (List.mem_of_getElem? (i := 35) rfl)) (by decide +kernel)
theorem km_X1_58 : Cond.methodLink RX1 58 yX1_fits ∈ kTb := kTb_of (kch_5 _ (List.mem_of_getElem? (i := 186) rfl)) (by decide +kernel)
theorem km_X1_62 : Cond.methodLink RX1 62 Lib.Math.max.name ∈ kTb := kTb_of (kch_5 _ (List.mem_of_getElem? (i := 187) rfl)) (by decide +kernel)
theorem km_X1_68 : Cond.methodLink RX1 68 Lib.Math.min.name ∈ kTb := kTb_of (kch_5 _ (List.mem_of_getElem? (i := 188) rfl)) (by decide +kernel)
theorem km_X1_74 : Cond.methodLink RX1 74 arraycopyName ∈ kTb := kTb_of (kch_4 _ (List.mem_of_getElem? (i := 210) rfl)) (by decide +kernel)
theorem km_X1_80 : Cond.methodLink RX1 80 yX1_writeBlock ∈ kTb := kTb_of (kch_4 _ (List.mem_of_getElem? (i := 206) rfl)) (by decide +kernel)
theorem km_X1_84 : Cond.methodLink RX1 84 yX1_after ∈ kTb := kTb_of (kch_3 _ (List.mem_of_getElem? (i := 102) rfl)) (by decide +kernel)
theorem km_X1_87 : Cond.methodLink RX1 87 yJ7_fill_eb02e ∈ kTb := kTb_of (kch_3 _ (List.mem_of_getElem? (i := 105) rfl)) (by decide +kernel)
theorem km_X1_90 : Cond.methodLink RX1 90 yX1_isSo ∈ kTb := kTb_of (kch_4 _ (List.mem_of_getElem? (i := 202) rfl)) (by decide +kernel)
theorem km_X1_112 : Cond.methodLink RX1 112 yX1_oneAt ∈ kTb := kTb_of (kch_8 _ (List.mem_of_getElem? (i := 187) rfl)) (by decide +kernel)
theorem km_X1_115 : Cond.methodLink RX1 115 yX1_wipe ∈ kTb := kTb_of (kch_8 _ (List.mem_of_getElem? (i := 204) rfl)) (by decide +kernel)
theorem km_X2_3 : Cond.methodLink RX2 3 Lib.objectInit ∈ kTb := kTb_of (kch_2 _ (List.mem_of_getElem? (i := 16) rfl)) (by decide +kernel)
theorem km_X2_43 : Cond.methodLink RX2 43 yJ7_fill_53178 ∈ kTb := kTb_of (kch_3 _ (List.mem_of_getElem? (i := 24) rfl)) (by decide +kernel)
theorem km_X2_49 : Cond.methodLink RX2 49 yX2_openSegment ∈ kTb := kTb_of (kch_7 _ (List.mem_of_getElem? (i := 181) rfl)) (by decide +kernel)
theorem km_X2_53 : Cond.methodLink RX2 53 yX2_unlive ∈ kTb := kTb_of (kch_7 _ (List.mem_of_getElem? (i := 185) rfl)) (by decide +kernel)
theorem km_X2_56 : Cond.methodLink RX2 56 yX2_addTo ∈ kTb := kTb_of (kch_7 _ (List.mem_of_getElem? (i := 189) rfl)) (by decide +kernel)
theorem km_X2_60 : Cond.methodLink RX2 60 yX2_leaveOutDead ∈ kTb := kTb_of (kch_7 _ (List.mem_of_getElem? (i := 193) rfl)) (by decide +kernel)
theorem km_X2_67 : Cond.methodLink RX2 67 yX2_liveIn ∈ kTb := kTb_of (kch_7 _ (List.mem_of_getElem? (i := 197) rfl)) (by decide +kernel)
theorem km_X2_71 : Cond.methodLink RX2 71 yX2_exchange ∈ kTb := kTb_of (kch_7 _ (List.mem_of_getElem? (i := 201) rfl)) (by decide +kernel)
theorem km_X3_3 : Cond.methodLink RX3 3 Lib.objectInit ∈ kTb := kTb_of (kch_2 _ (List.mem_of_getElem? (i := 171) rfl)) (by decide +kernel)
theorem km_X3_30 : Cond.methodLink RX3 30 yX1_init ∈ kTb := kTb_of (kch_2 _ (List.mem_of_getElem? (i := 174) rfl)) (by decide +kernel)
theorem km_X3_37 : Cond.methodLink RX3 37 yX10_firstPrimaryOf ∈ kTb := kTb_of (kch_5 _ (List.mem_of_getElem? (i := 15) rfl)) (by decide +kernel)
theorem km_X3_43 : Cond.methodLink RX3 43 yX10_maskOf ∈ kTb := kTb_of (kch_5 _ (List.mem_of_getElem? (i := 16) rfl)) (by decide +kernel)
theorem km_X3_46 : Cond.methodLink RX3 46 yX3_hearAll ∈ kTb := kTb_of (kch_5 _ (List.mem_of_getElem? (i := 17) rfl)) (by decide +kernel)
theorem km_X3_49 : Cond.methodLink RX3 49 yX1_begin ∈ kTb := kTb_of (kch_5 _ (List.mem_of_getElem? (i := 21) rfl)) (by decide +kernel)
theorem km_X3_53 : Cond.methodLink RX3 53 yX3_flush ∈ kTb := kTb_of (kch_5 _ (List.mem_of_getElem? (i := 22) rfl)) (by decide +kernel)
theorem km_X3_60 : Cond.methodLink RX3 60 yX1_clearImage ∈ kTb := kTb_of (kch_5 _ (List.mem_of_getElem? (i := 26) rfl)) (by decide +kernel)
theorem km_X3_66 : Cond.methodLink RX3 66 yX3_addView ∈ kTb := kTb_of (kch_5 _ (List.mem_of_getElem? (i := 27) rfl)) (by decide +kernel)
theorem km_X3_70 : Cond.methodLink RX3 70 yX1_swap ∈ kTb := kTb_of (kch_5 _ (List.mem_of_getElem? (i := 35) rfl)) (by decide +kernel)
theorem km_X3_73 : Cond.methodLink RX3 73 yX1_open ∈ kTb := kTb_of (kch_5 _ (List.mem_of_getElem? (i := 31) rfl)) (by decide +kernel)
theorem km_X3_77 : Cond.methodLink RX3 77 yX1_addOne ∈ kTb := kTb_of (kch_5 _ (List.mem_of_getElem? (i := 32) rfl)) (by decide +kernel)
theorem km_X3_80 : Cond.methodLink RX3 80 yX1_addTwo ∈ kTb := kTb_of (kch_5 _ (List.mem_of_getElem? (i := 33) rfl)) (by decide +kernel)
theorem km_X3_83 : Cond.methodLink RX3 83 yX1_close ∈ kTb := kTb_of (kch_5 _ (List.mem_of_getElem? (i := 34) rfl)) (by decide +kernel)
theorem km_X3_86 : Cond.methodLink RX3 86 yX1_choose ∈ kTb := kTb_of (kch_8 _ (List.mem_of_getElem? (i := 179) rfl)) (by decide +kernel)
theorem km_X3_89 : Cond.methodLink RX3 89 yX1_sizeAt ∈ kTb := kTb_of (kch_8 _ (List.mem_of_getElem? (i := 183) rfl)) (by decide +kernel)
theorem km_X3_92 : Cond.methodLink RX3 92 yX3_readView ∈ kTb := kTb_of (kch_8 _ (List.mem_of_getElem? (i := 191) rfl)) (by decide +kernel)
theorem km_X3_95 : Cond.methodLink RX3 95 yX1_endAt ∈ kTb := kTb_of (kch_8 _ (List.mem_of_getElem? (i := 200) rfl)) (by decide +kernel)
theorem km_X3_98 : Cond.methodLink RX3 98 yX1_oneAt ∈ kTb := kTb_of (kch_8 _ (List.mem_of_getElem? (i := 195) rfl)) (by decide +kernel)
theorem km_X3_101 : Cond.methodLink RX3 101 yX1_twoAt ∈ kTb := kTb_of (kch_8 _ (List.mem_of_getElem? (i := 196) rfl)) (by decide +kernel)
theorem km_X3_104 : Cond.methodLink RX3 104 yX1_fits ∈ kTb := kTb_of (kch_5 _ (List.mem_of_getElem? (i := 178) rfl)) (by decide +kernel)
theorem km_X3_108 : Cond.methodLink RX3 108 yX1_commit ∈ kTb := kTb_of (kch_5 _ (List.mem_of_getElem? (i := 182) rfl)) (by decide +kernel)
theorem km_X3_114 : Cond.methodLink RX3 114 yX10_holds ∈ kTb := kTb_of (kch_5 _ (List.mem_of_getElem? (i := 189) rfl)) (by decide +kernel)
theorem km_X3_118 : Cond.methodLink RX3 118 yX3_tellView ∈ kTb := kTb_of (kch_5 _ (List.mem_of_getElem? (i := 190) rfl)) (by decide +kernel)
theorem km_X3_122 : Cond.methodLink RX3 122 yX3_change ∈ kTb := kTb_of (kch_5 _ (List.mem_of_getElem? (i := 174) rfl)) (by decide +kernel)
theorem km_X3_126 : Cond.methodLink RX3 126 yX10_send ∈ kTb := kTb_of (kch_5 _ (List.mem_of_getElem? (i := 194) rfl)) (by decide +kernel)
theorem km_X3_130 : Cond.methodLink RX3 130 yX4_with ∈ kTb := kTb_of (kch_5 _ (List.mem_of_getElem? (i := 195) rfl)) (by decide +kernel)
theorem km_X3_136 : Cond.methodLink RX3 136 yX3_isInMask ∈ kTb := kTb_of (kch_5 _ (List.mem_of_getElem? (i := 166) rfl)) (by decide +kernel)
theorem km_X3_139 : Cond.methodLink RX3 139 yX3_isAlive ∈ kTb := kTb_of (kch_5 _ (List.mem_of_getElem? (i := 170) rfl)) (by decide +kernel)
theorem km_X3_145 : Cond.methodLink RX3 145 arraycopyName ∈ kTb := kTb_of (kch_8 _ (List.mem_of_getElem? (i := 12) rfl)) (by decide +kernel)
theorem km_X3_151 : Cond.methodLink RX3 151 yX3_isFromPrimary ∈ kTb := kTb_of (kch_8 _ (List.mem_of_getElem? (i := 17) rfl)) (by decide +kernel)
theorem km_X3_155 : Cond.methodLink RX3 155 yX3_changeMask ∈ kTb := kTb_of (kch_5 _ (List.mem_of_getElem? (i := 196) rfl)) (by decide +kernel)
theorem km_X3_158 : Cond.methodLink RX3 158 yX3_promote ∈ kTb := kTb_of (kch_5 _ (List.mem_of_getElem? (i := 162) rfl)) (by decide +kernel)
theorem km_X4_3 : Cond.methodLink RX4 3 Lib.objectInit ∈ kTb := kTb_of (kch_1 _ (List.mem_of_getElem? (i := 54) rfl)) (by decide +kernel)
theorem km_X4_30 : Cond.methodLink RX4 30 arraycopyName ∈ kTb := kTb_of (kch_5 _ (List.mem_of_getElem? (i := 127) rfl)) (by decide +kernel)
theorem km_X4_41 : Cond.methodLink RX4 41 yX0_actAt ∈ kTb := kTb_of (kch_5 _ (List.mem_of_getElem? (i := 128) rfl)) (by decide +kernel)
theorem km_X5_3 : Cond.methodLink RX5 3 Lib.objectInit ∈ kTb := kTb_of (kch_1 _ (List.mem_of_getElem? (i := 172) rfl)) (by decide +kernel)
theorem km_X5_30 : Cond.methodLink RX5 30 yX5_closeContexts ∈ kTb := kTb_of (kch_3 _ (List.mem_of_getElem? (i := 3) rfl)) (by decide +kernel)
theorem km_X5_51 : Cond.methodLink RX5 51 yX10_send ∈ kTb := kTb_of (kch_5 _ (List.mem_of_getElem? (i := 143) rfl)) (by decide +kernel)
theorem km_X5_76 : Cond.methodLink RX5 76 yX10_requestAt ∈ kTb := kTb_of (kch_8 _ (List.mem_of_getElem? (i := 33) rfl)) (by decide +kernel)
theorem km_X5_80 : Cond.methodLink RX5 80 yX5_replicaOf ∈ kTb := kTb_of (kch_8 _ (List.mem_of_getElem? (i := 34) rfl)) (by decide +kernel)
theorem km_X5_84 : Cond.methodLink RX5 84 yX5_freeContext ∈ kTb := kTb_of (kch_8 _ (List.mem_of_getElem? (i := 35) rfl)) (by decide +kernel)
theorem km_X5_94 : Cond.methodLink RX5 94 yX7_isInMask ∈ kTb := kTb_of (kch_8 _ (List.mem_of_getElem? (i := 39) rfl)) (by decide +kernel)
theorem km_X5_98 : Cond.methodLink RX5 98 yX10_refuse ∈ kTb := kTb_of (kch_8 _ (List.mem_of_getElem? (i := 40) rfl)) (by decide +kernel)
theorem km_X5_111 : Cond.methodLink RX5 111 arraycopyName ∈ kTb := kTb_of (kch_8 _ (List.mem_of_getElem? (i := 41) rfl)) (by decide +kernel)
theorem km_X5_117 : Cond.methodLink RX5 117 yX4_with ∈ kTb := kTb_of (kch_8 _ (List.mem_of_getElem? (i := 42) rfl)) (by decide +kernel)
theorem km_X5_121 : Cond.methodLink RX5 121 yX6_tally ∈ kTb := kTb_of (kch_8 _ (List.mem_of_getElem? (i := 43) rfl)) (by decide +kernel)
theorem km_X5_127 : Cond.methodLink RX5 127 yX6_scoreOf ∈ kTb := kTb_of (kch_8 _ (List.mem_of_getElem? (i := 59) rfl)) (by decide +kernel)
theorem km_X6_3 : Cond.methodLink RX6 3 Lib.objectInit ∈ kTb := kTb_of (kch_6 _ (List.mem_of_getElem? (i := 204) rfl)) (by decide +kernel)
theorem km_X6_22 : Cond.methodLink RX6 22 yX6_fault ∈ kTb := kTb_of (kch_6 _ (List.mem_of_getElem? (i := 222) rfl)) (by decide +kernel)
theorem km_X6_26 : Cond.methodLink RX6 26 yX6_readClause ∈ kTb := kTb_of (kch_6 _ (List.mem_of_getElem? (i := 225) rfl)) (by decide +kernel)
theorem km_X6_34 : Cond.methodLink RX6 34 yX6_readQuoted ∈ kTb := kTb_of (kch_6 _ (List.mem_of_getElem? (i := 229) rfl)) (by decide +kernel)
theorem km_X6_44 : Cond.methodLink RX6 44 yX6_keepStar ∈ kTb := kTb_of (kch_7 _ (List.mem_of_getElem? (i := 9) rfl)) (by decide +kernel)
theorem km_X6_52 : Cond.methodLink RX6 52 yX6_keepWords ∈ kTb := kTb_of (kch_6 _ (List.mem_of_getElem? (i := 237) rfl)) (by decide +kernel)
theorem km_X6_56 : Cond.methodLink RX6 56 yX6_endQuoted ∈ kTb := kTb_of (kch_6 _ (List.mem_of_getElem? (i := 233) rfl)) (by decide +kernel)
theorem km_X6_64 : Cond.methodLink RX6 64 Lib.Math.min.name ∈ kTb := kTb_of (kch_7 _ (List.mem_of_getElem? (i := 13) rfl)) (by decide +kernel)
theorem km_X6_76 : Cond.methodLink RX6 76 yX6_wordsIn ∈ kTb := kTb_of (kch_7 _ (List.mem_of_getElem? (i := 1) rfl)) (by decide +kernel)
theorem km_X6_79 : Cond.methodLink RX6 79 yX10_requestAt ∈ kTb := kTb_of (kch_8 _ (List.mem_of_getElem? (i := 47) rfl)) (by decide +kernel)
theorem km_X6_92 : Cond.methodLink RX6 92 yX6_tallyWords ∈ kTb := kTb_of (kch_8 _ (List.mem_of_getElem? (i := 48) rfl)) (by decide +kernel)
theorem km_X6_96 : Cond.methodLink RX6 96 yX6_hasBetween ∈ kTb := kTb_of (kch_8 _ (List.mem_of_getElem? (i := 52) rfl)) (by decide +kernel)
theorem km_X6_100 : Cond.methodLink RX6 100 yX6_timesIn ∈ kTb := kTb_of (kch_8 _ (List.mem_of_getElem? (i := 63) rfl)) (by decide +kernel)
theorem km_X6_106 : Cond.methodLink RX6 106 yX6_rareOf ∈ kTb := kTb_of (kch_8 _ (List.mem_of_getElem? (i := 72) rfl)) (by decide +kernel)
theorem km_X6_109 : Cond.methodLink RX6 109 yX6_gain ∈ kTb := kTb_of (kch_8 _ (List.mem_of_getElem? (i := 78) rfl)) (by decide +kernel)
theorem km_X6_113 : Cond.methodLink RX6 113 yX6_standsAt ∈ kTb := kTb_of (kch_8 _ (List.mem_of_getElem? (i := 67) rfl)) (by decide +kernel)
theorem km_X6_117 : Cond.methodLink RX6 117 yX6_logOf ∈ kTb := kTb_of (kch_8 _ (List.mem_of_getElem? (i := 75) rfl)) (by decide +kernel)
theorem km_X7_3 : Cond.methodLink RX7 3 Lib.objectInit ∈ kTb := kTb_of (kch_1 _ (List.mem_of_getElem? (i := 211) rfl)) (by decide +kernel)
theorem km_X7_45 : Cond.methodLink RX7 45 yX0_init ∈ kTb := kTb_of (kch_1 _ (List.mem_of_getElem? (i := 214) rfl)) (by decide +kernel)
theorem km_X7_61 : Cond.methodLink RX7 61 yX0_begin ∈ kTb := kTb_of (kch_3 _ (List.mem_of_getElem? (i := 11) rfl)) (by decide +kernel)
theorem km_X7_65 : Cond.methodLink RX7 65 yX10_firstPrimaryOf ∈ kTb := kTb_of (kch_4 _ (List.mem_of_getElem? (i := 227) rfl)) (by decide +kernel)
theorem km_X7_71 : Cond.methodLink RX7 71 yX10_maskOf ∈ kTb := kTb_of (kch_4 _ (List.mem_of_getElem? (i := 231) rfl)) (by decide +kernel)
theorem km_X7_83 : Cond.methodLink RX7 83 yX7_isOther ∈ kTb := kTb_of (kch_5 _ (List.mem_of_getElem? (i := 2) rfl)) (by decide +kernel)
theorem km_X7_87 : Cond.methodLink RX7 87 yX7_setOther ∈ kTb := kTb_of (kch_5 _ (List.mem_of_getElem? (i := 7) rfl)) (by decide +kernel)
theorem km_X7_91 : Cond.methodLink RX7 91 yX0_load ∈ kTb := kTb_of (kch_8 _ (List.mem_of_getElem? (i := 212) rfl)) (by decide +kernel)
theorem km_X7_97 : Cond.methodLink RX7 97 yX10_holds ∈ kTb := kTb_of (kch_5 _ (List.mem_of_getElem? (i := 6) rfl)) (by decide +kernel)
theorem km_X7_101 : Cond.methodLink RX7 101 yX10_send ∈ kTb := kTb_of (kch_5 _ (List.mem_of_getElem? (i := 87) rfl)) (by decide +kernel)
theorem km_X7_114 : Cond.methodLink RX7 114 yX4_with ∈ kTb := kTb_of (kch_5 _ (List.mem_of_getElem? (i := 95) rfl)) (by decide +kernel)
theorem km_X7_126 : Cond.methodLink RX7 126 yX7_heeds ∈ kTb := kTb_of (kch_7 _ (List.mem_of_getElem? (i := 125) rfl)) (by decide +kernel)
theorem km_X7_129 : Cond.methodLink RX7 129 yX0_raiseSure ∈ kTb := kTb_of (kch_7 _ (List.mem_of_getElem? (i := 129) rfl)) (by decide +kernel)
theorem km_X7_133 : Cond.methodLink RX7 133 yX0_append ∈ kTb := kTb_of (kch_7 _ (List.mem_of_getElem? (i := 103) rfl)) (by decide +kernel)
theorem km_X7_137 : Cond.methodLink RX7 137 yX7_ack ∈ kTb := kTb_of (kch_7 _ (List.mem_of_getElem? (i := 135) rfl)) (by decide +kernel)
theorem km_X7_140 : Cond.methodLink RX7 140 yX0_showUpTo ∈ kTb := kTb_of (kch_8 _ (List.mem_of_getElem? (i := 3) rfl)) (by decide +kernel)
theorem km_X7_143 : Cond.methodLink RX7 143 yX7_stepDown ∈ kTb := kTb_of (kch_7 _ (List.mem_of_getElem? (i := 147) rfl)) (by decide +kernel)
theorem km_X7_146 : Cond.methodLink RX7 146 yX0_follow ∈ kTb := kTb_of (kch_7 _ (List.mem_of_getElem? (i := 151) rfl)) (by decide +kernel)
theorem km_X7_150 : Cond.methodLink RX7 150 arraycopyName ∈ kTb := kTb_of (kch_7 _ (List.mem_of_getElem? (i := 221) rfl)) (by decide +kernel)
theorem km_X7_156 : Cond.methodLink RX7 156 yX7_adjust ∈ kTb := kTb_of (kch_7 _ (List.mem_of_getElem? (i := 222) rfl)) (by decide +kernel)
theorem km_X7_159 : Cond.methodLink RX7 159 yX7_become ∈ kTb := kTb_of (kch_7 _ (List.mem_of_getElem? (i := 230) rfl)) (by decide +kernel)
theorem km_X7_162 : Cond.methodLink RX7 162 yX7_isInMask ∈ kTb := kTb_of (kch_7 _ (List.mem_of_getElem? (i := 226) rfl)) (by decide +kernel)
theorem km_X7_165 : Cond.methodLink RX7 165 yX7_join ∈ kTb := kTb_of (kch_5 _ (List.mem_of_getElem? (i := 83) rfl)) (by decide +kernel)
theorem km_X7_168 : Cond.methodLink RX7 168 yX0_cutTo ∈ kTb := kTb_of (kch_7 _ (List.mem_of_getElem? (i := 234) rfl)) (by decide +kernel)
theorem km_X7_174 : Cond.methodLink RX7 174 yX7_syncWith ∈ kTb := kTb_of (kch_5 _ (List.mem_of_getElem? (i := 119) rfl)) (by decide +kernel)
theorem km_X7_177 : Cond.methodLink RX7 177 yX7_settle ∈ kTb := kTb_of (kch_7 _ (List.mem_of_getElem? (i := 109) rfl)) (by decide +kernel)
theorem km_X7_186 : Cond.methodLink RX7 186 yX4_carry ∈ kTb := kTb_of (kch_5 _ (List.mem_of_getElem? (i := 123) rfl)) (by decide +kernel)
theorem km_X7_190 : Cond.methodLink RX7 190 Lib.Math.min.name ∈ kTb := kTb_of (kch_5 _ (List.mem_of_getElem? (i := 129) rfl)) (by decide +kernel)
theorem km_X7_196 : Cond.methodLink RX7 196 yX0_actAt ∈ kTb := kTb_of (kch_5 _ (List.mem_of_getElem? (i := 134) rfl)) (by decide +kernel)
theorem km_X7_199 : Cond.methodLink RX7 199 yX10_sendDone ∈ kTb := kTb_of (kch_7 _ (List.mem_of_getElem? (i := 113) rfl)) (by decide +kernel)
theorem km_X7_202 : Cond.methodLink RX7 202 yX7_isSeen ∈ kTb := kTb_of (kch_7 _ (List.mem_of_getElem? (i := 117) rfl)) (by decide +kernel)
theorem km_X7_205 : Cond.methodLink RX7 205 yX10_refuse ∈ kTb := kTb_of (kch_7 _ (List.mem_of_getElem? (i := 93) rfl)) (by decide +kernel)
theorem km_X7_209 : Cond.methodLink RX7 209 yX0_numberOf ∈ kTb := kTb_of (kch_7 _ (List.mem_of_getElem? (i := 99) rfl)) (by decide +kernel)
theorem km_X7_212 : Cond.methodLink RX7 212 yX7_leads ∈ kTb := kTb_of (kch_5 _ (List.mem_of_getElem? (i := 99) rfl)) (by decide +kernel)
theorem km_X7_215 : Cond.methodLink RX7 215 yX7_sendRepl ∈ kTb := kTb_of (kch_5 _ (List.mem_of_getElem? (i := 130) rfl)) (by decide +kernel)
theorem km_X7_218 : Cond.methodLink RX7 218 yX7_sendAdd ∈ kTb := kTb_of (kch_5 _ (List.mem_of_getElem? (i := 111) rfl)) (by decide +kernel)
theorem km_X7_221 : Cond.methodLink RX7 221 yX7_isWaiting ∈ kTb := kTb_of (kch_7 _ (List.mem_of_getElem? (i := 239) rfl)) (by decide +kernel)
theorem km_X7_224 : Cond.methodLink RX7 224 yX7_sendShowTo ∈ kTb := kTb_of (kch_5 _ (List.mem_of_getElem? (i := 135) rfl)) (by decide +kernel)
theorem km_X7_227 : Cond.methodLink RX7 227 yX7_tend ∈ kTb := kTb_of (kch_5 _ (List.mem_of_getElem? (i := 103) rfl)) (by decide +kernel)
theorem km_X7_230 : Cond.methodLink RX7 230 yX7_sendFail ∈ kTb := kTb_of (kch_5 _ (List.mem_of_getElem? (i := 107) rfl)) (by decide +kernel)
theorem km_X7_233 : Cond.methodLink RX7 233 yX7_bringOn ∈ kTb := kTb_of (kch_5 _ (List.mem_of_getElem? (i := 115) rfl)) (by decide +kernel)
theorem km_X8_3 : Cond.methodLink RX8 3 Lib.objectInit ∈ kTb := kTb_of (kch_6 _ (List.mem_of_getElem? (i := 44) rfl)) (by decide +kernel)
theorem km_X8_46 : Cond.methodLink RX8 46 yX8_countWords ∈ kTb := kTb_of (kch_6 _ (List.mem_of_getElem? (i := 85) rfl)) (by decide +kernel)
theorem km_X8_68 : Cond.methodLink RX8 68 yX10_shardOf ∈ kTb := kTb_of (kch_7 _ (List.mem_of_getElem? (i := 85) rfl)) (by decide +kernel)
theorem km_X8_89 : Cond.methodLink RX8 89 yX10_send ∈ kTb := kTb_of (kch_5 _ (List.mem_of_getElem? (i := 156) rfl)) (by decide +kernel)
theorem km_X8_93 : Cond.methodLink RX8 93 yX4_with ∈ kTb := kTb_of (kch_5 _ (List.mem_of_getElem? (i := 157) rfl)) (by decide +kernel)
theorem km_X8_100 : Cond.methodLink RX8 100 yX8_openAll ∈ kTb := kTb_of (kch_8 _ (List.mem_of_getElem? (i := 99) rfl)) (by decide +kernel)
theorem km_X8_107 : Cond.methodLink RX8 107 yX8_shardIn ∈ kTb := kTb_of (kch_8 _ (List.mem_of_getElem? (i := 114) rfl)) (by decide +kernel)
theorem km_X8_115 : Cond.methodLink RX8 115 yX8_gather ∈ kTb := kTb_of (kch_8 _ (List.mem_of_getElem? (i := 115) rfl)) (by decide +kernel)
theorem km_X8_125 : Cond.methodLink RX8 125 yJ7_fill_53178 ∈ kTb := kTb_of (kch_8 _ (List.mem_of_getElem? (i := 103) rfl)) (by decide +kernel)
theorem km_X8_134 : Cond.methodLink RX8 134 yX8_chosen ∈ kTb := kTb_of (kch_8 _ (List.mem_of_getElem? (i := 104) rfl)) (by decide +kernel)
theorem km_X8_138 : Cond.methodLink RX8 138 yJ6_bitCount_0f7a4 ∈ kTb := kTb_of (kch_8 _ (List.mem_of_getElem? (i := 108) rfl)) (by decide +kernel)
theorem km_X8_143 : Cond.methodLink RX8 143 yX8_scoreAll ∈ kTb := kTb_of (kch_8 _ (List.mem_of_getElem? (i := 119) rfl)) (by decide +kernel)
theorem km_X8_147 : Cond.methodLink RX8 147 yX8_takeTop ∈ kTb := kTb_of (kch_8 _ (List.mem_of_getElem? (i := 124) rfl)) (by decide +kernel)
theorem km_X8_151 : Cond.methodLink RX8 151 arraycopyName ∈ kTb := kTb_of (kch_8 _ (List.mem_of_getElem? (i := 123) rfl)) (by decide +kernel)
theorem km_X8_157 : Cond.methodLink RX8 157 Lib.Math.min.name ∈ kTb := kTb_of (kch_8 _ (List.mem_of_getElem? (i := 128) rfl)) (by decide +kernel)
theorem km_X9_3 : Cond.methodLink RX9 3 Lib.objectInit ∈ kTb := kTb_of (kch_2 _ (List.mem_of_getElem? (i := 199) rfl)) (by decide +kernel)
theorem km_X9_47 : Cond.methodLink RX9 47 yX9_addNumber ∈ kTb := kTb_of (kch_9 _ (List.mem_of_getElem? (i := 86) rfl)) (by decide +kernel)
theorem km_X9_55 : Cond.methodLink RX9 55 yX10_requestAt ∈ kTb := kTb_of (kch_9 _ (List.mem_of_getElem? (i := 94) rfl)) (by decide +kernel)
theorem km_X9_72 : Cond.methodLink RX9 72 yX9_gather ∈ kTb := kTb_of (kch_9 _ (List.mem_of_getElem? (i := 95) rfl)) (by decide +kernel)
theorem km_X9_76 : Cond.methodLink RX9 76 yX9_sort ∈ kTb := kTb_of (kch_9 _ (List.mem_of_getElem? (i := 99) rfl)) (by decide +kernel)
theorem km_X9_79 : Cond.methodLink RX9 79 yX9_writeWords ∈ kTb := kTb_of (kch_9 _ (List.mem_of_getElem? (i := 109) rfl)) (by decide +kernel)
theorem km_X9_82 : Cond.methodLink RX9 82 Lib.Math.min.name ∈ kTb := kTb_of (kch_9 _ (List.mem_of_getElem? (i := 103) rfl)) (by decide +kernel)
theorem km_X9_88 : Cond.methodLink RX9 88 yX9_merge ∈ kTb := kTb_of (kch_9 _ (List.mem_of_getElem? (i := 104) rfl)) (by decide +kernel)
theorem km_X9_92 : Cond.methodLink RX9 92 arraycopyName ∈ kTb := kTb_of (kch_9 _ (List.mem_of_getElem? (i := 108) rfl)) (by decide +kernel)
theorem km_X9_98 : Cond.methodLink RX9 98 yX9_writeWord ∈ kTb := kTb_of (kch_9 _ (List.mem_of_getElem? (i := 113) rfl)) (by decide +kernel)
theorem km_X9_102 : Cond.methodLink RX9 102 yX9_writeSpots ∈ kTb := kTb_of (kch_9 _ (List.mem_of_getElem? (i := 119) rfl)) (by decide +kernel)
theorem km_X9_110 : Cond.methodLink RX9 110 yX9_addOctet ∈ kTb := kTb_of (kch_9 _ (List.mem_of_getElem? (i := 90) rfl)) (by decide +kernel)
theorem km_X10_3 : Cond.methodLink RX10 3 Lib.objectInit ∈ kTb := kTb_of (kch_1 _ (List.mem_of_getElem? (i := 45) rfl)) (by decide +kernel)
theorem km_X10_73 : Cond.methodLink RX10 73 yJ7_fill_53178 ∈ kTb := kTb_of (kch_2 _ (List.mem_of_getElem? (i := 236) rfl)) (by decide +kernel)
theorem km_X10_79 : Cond.methodLink RX10 79 yJ9_floorMod_7cf53 ∈ kTb := kTb_of (kch_4 _ (List.mem_of_getElem? (i := 239) rfl)) (by decide +kernel)
theorem km_X10_85 : Cond.methodLink RX10 85 yX10_holds ∈ kTb := kTb_of (kch_4 _ (List.mem_of_getElem? (i := 235) rfl)) (by decide +kernel)
theorem km_X10_89 : Cond.methodLink RX10 89 yX10_linkOf ∈ kTb := kTb_of (kch_5 _ (List.mem_of_getElem? (i := 91) rfl)) (by decide +kernel)
theorem km_X10_98 : Cond.methodLink RX10 98 yX10_send ∈ kTb := kTb_of (kch_7 _ (List.mem_of_getElem? (i := 97) rfl)) (by decide +kernel)
theorem km_X10_102 : Cond.methodLink RX10 102 yX4_with ∈ kTb := kTb_of (kch_7 _ (List.mem_of_getElem? (i := 98) rfl)) (by decide +kernel)
theorem km_X10_106 : Cond.methodLink RX10 106 yX10_requestAt ∈ kTb := kTb_of (kch_5 _ (List.mem_of_getElem? (i := 71) rfl)) (by decide +kernel)
theorem km_X10_113 : Cond.methodLink RX10 113 yX10_messageAt ∈ kTb := kTb_of (kch_7 _ (List.mem_of_getElem? (i := 76) rfl)) (by decide +kernel)
theorem km_X10_116 : Cond.methodLink RX10 116 yX10_isOpen ∈ kTb := kTb_of (kch_5 _ (List.mem_of_getElem? (i := 72) rfl)) (by decide +kernel)
theorem km_X10_123 : Cond.methodLink RX10 123 yX8_age ∈ kTb := kTb_of (kch_5 _ (List.mem_of_getElem? (i := 152) rfl)) (by decide +kernel)
theorem km_X10_130 : Cond.methodLink RX10 130 yX8_onAnswer ∈ kTb := kTb_of (kch_8 _ (List.mem_of_getElem? (i := 95) rfl)) (by decide +kernel)
theorem km_L_7 : Cond.methodLink RL 7 yX11_make ∈ kTb := kTb_of (kch_5 _ (List.mem_of_getElem? (i := 210) rfl)) (by decide +kernel)
theorem km_L_15 : Cond.methodLink RL 15 yX11_draft ∈ kTb := kTb_of (kch_5 _ (List.mem_of_getElem? (i := 220) rfl)) (by decide +kernel)
theorem km_L_19 : Cond.methodLink RL 19 yX11_put ∈ kTb := kTb_of (kch_5 _ (List.mem_of_getElem? (i := 230) rfl)) (by decide +kernel)
theorem km_L_27 : Cond.methodLink RL 27 yX11_drop ∈ kTb := kTb_of (kch_6 _ (List.mem_of_getElem? (i := 174) rfl)) (by decide +kernel)
theorem km_L_30 : Cond.methodLink RL 30 yX11_refresh ∈ kTb := kTb_of (kch_6 _ (List.mem_of_getElem? (i := 182) rfl)) (by decide +kernel)
theorem km_L_33 : Cond.methodLink RL 33 yX11_find ∈ kTb := kTb_of (kch_6 _ (List.mem_of_getElem? (i := 194) rfl)) (by decide +kernel)
theorem km_L_36 : Cond.methodLink RL 36 yX11_request ∈ kTb := kTb_of (kch_7 _ (List.mem_of_getElem? (i := 19) rfl)) (by decide +kernel)
theorem km_L_39 : Cond.methodLink RL 39 yX11_hit ∈ kTb := kTb_of (kch_7 _ (List.mem_of_getElem? (i := 31) rfl)) (by decide +kernel)
theorem km_L_42 : Cond.methodLink RL 42 yX11_link ∈ kTb := kTb_of (kch_7 _ (List.mem_of_getElem? (i := 39) rfl)) (by decide +kernel)
theorem km_L_45 : Cond.methodLink RL 45 yX11_message ∈ kTb := kTb_of (kch_7 _ (List.mem_of_getElem? (i := 52) rfl)) (by decide +kernel)
theorem km_L_49 : Cond.methodLink RL 49 yX11_deliver ∈ kTb := kTb_of (kch_7 _ (List.mem_of_getElem? (i := 64) rfl)) (by decide +kernel)
theorem km_L_52 : Cond.methodLink RL 52 yX11_lose ∈ kTb := kTb_of (kch_8 _ (List.mem_of_getElem? (i := 133) rfl)) (by decide +kernel)
theorem km_L_55 : Cond.methodLink RL 55 yX11_run ∈ kTb := kTb_of (kch_8 _ (List.mem_of_getElem? (i := 140) rfl)) (by decide +kernel)
theorem km_L_59 : Cond.methodLink RL 59 yX11_up ∈ kTb := kTb_of (kch_8 _ (List.mem_of_getElem? (i := 148) rfl)) (by decide +kernel)
theorem km_L_63 : Cond.methodLink RL 63 yX11_down ∈ kTb := kTb_of (kch_8 _ (List.mem_of_getElem? (i := 159) rfl)) (by decide +kernel)
theorem km_L_66 : Cond.methodLink RL 66 yX11_start ∈ kTb := kTb_of (kch_8 _ (List.mem_of_getElem? (i := 166) rfl)) (by decide +kernel)
theorem km_L_69 : Cond.methodLink RL 69 yX11_fail ∈ kTb := kTb_of (kch_8 _ (List.mem_of_getElem? (i := 236) rfl)) (by decide +kernel)
theorem km_L_73 : Cond.methodLink RL 73 yX11_copy ∈ kTb := kTb_of (kch_9 _ (List.mem_of_getElem? (i := 4) rfl)) (by decide +kernel)
theorem km_L_76 : Cond.methodLink RL 76 yX11_other ∈ kTb := kTb_of (kch_9 _ (List.mem_of_getElem? (i := 25) rfl)) (by decide +kernel)
theorem km_L_79 : Cond.methodLink RL 79 yX11_view ∈ kTb := kTb_of (kch_9 _ (List.mem_of_getElem? (i := 34) rfl)) (by decide +kernel)
theorem km_L_82 : Cond.methodLink RL 82 yX11_document ∈ kTb := kTb_of (kch_9 _ (List.mem_of_getElem? (i := 42) rfl)) (by decide +kernel)
theorem km_L_85 : Cond.methodLink RL 85 yX11_act ∈ kTb := kTb_of (kch_9 _ (List.mem_of_getElem? (i := 55) rfl)) (by decide +kernel)
theorem km_L_88 : Cond.methodLink RL 88 yX11_disk ∈ kTb := kTb_of (kch_9 _ (List.mem_of_getElem? (i := 63) rfl)) (by decide +kernel)
theorem km_L_91 : Cond.methodLink RL 91 yX11_segment ∈ kTb := kTb_of (kch_9 _ (List.mem_of_getElem? (i := 71) rfl)) (by decide +kernel)
theorem km_L_94 : Cond.methodLink RL 94 yX11_octet ∈ kTb := kTb_of (kch_9 _ (List.mem_of_getElem? (i := 126) rfl)) (by decide +kernel)
theorem km_L_97 : Cond.methodLink RL 97 yX11_told ∈ kTb := kTb_of (kch_9 _ (List.mem_of_getElem? (i := 133) rfl)) (by decide +kernel)
theorem km_L_100 : Cond.methodLink RL 100 yX11_init ∈ kTb := kTb_of (kch_1 _ (List.mem_of_getElem? (i := 34) rfl)) (by decide +kernel)
theorem km_L_103 : Cond.methodLink RL 103 yX12_init ∈ kTb := kTb_of (kch_9 _ (List.mem_of_getElem? (i := 152) rfl)) (by decide +kernel)
theorem km_L_104 : Cond.methodLink RL 104 yL_make ∈ kTb := kTb_of (kch_5 _ (List.mem_of_getElem? (i := 206) rfl)) (by decide +kernel)
theorem km_L_109 : Cond.methodLink RL 109 yX12_make ∈ kTb := kTb_of (kch_11 _ (List.mem_of_getElem? (i := 111) rfl)) (by decide +kernel)
theorem km_L_110 : Cond.methodLink RL 110 yX12_thrown ∈ kTb := kTb_of (kch_11 _ (List.mem_of_getElem? (i := 107) rfl)) (by decide +kernel)
theorem km_L_116 : Cond.methodLink RL 116 yL_draft ∈ kTb := kTb_of (kch_5 _ (List.mem_of_getElem? (i := 217) rfl)) (by decide +kernel)
theorem km_L_119 : Cond.methodLink RL 119 yX12_draft ∈ kTb := kTb_of (kch_11 _ (List.mem_of_getElem? (i := 115) rfl)) (by decide +kernel)
theorem km_L_120 : Cond.methodLink RL 120 yL_put ∈ kTb := kTb_of (kch_5 _ (List.mem_of_getElem? (i := 225) rfl)) (by decide +kernel)
theorem km_L_123 : Cond.methodLink RL 123 yX12_put ∈ kTb := kTb_of (kch_11 _ (List.mem_of_getElem? (i := 120) rfl)) (by decide +kernel)
theorem km_L_124 : Cond.methodLink RL 124 yL_drop ∈ kTb := kTb_of (kch_6 _ (List.mem_of_getElem? (i := 171) rfl)) (by decide +kernel)
theorem km_L_126 : Cond.methodLink RL 126 yX12_drop ∈ kTb := kTb_of (kch_11 _ (List.mem_of_getElem? (i := 148) rfl)) (by decide +kernel)
theorem km_L_127 : Cond.methodLink RL 127 yL_refresh ∈ kTb := kTb_of (kch_6 _ (List.mem_of_getElem? (i := 179) rfl)) (by decide +kernel)
theorem km_L_129 : Cond.methodLink RL 129 yX12_refresh ∈ kTb := kTb_of (kch_11 _ (List.mem_of_getElem? (i := 152) rfl)) (by decide +kernel)
theorem km_L_130 : Cond.methodLink RL 130 yL_find ∈ kTb := kTb_of (kch_6 _ (List.mem_of_getElem? (i := 191) rfl)) (by decide +kernel)
theorem km_L_132 : Cond.methodLink RL 132 yX12_find ∈ kTb := kTb_of (kch_11 _ (List.mem_of_getElem? (i := 156) rfl)) (by decide +kernel)
theorem km_L_133 : Cond.methodLink RL 133 yL_request ∈ kTb := kTb_of (kch_7 _ (List.mem_of_getElem? (i := 16) rfl)) (by decide +kernel)
theorem km_L_135 : Cond.methodLink RL 135 yX12_request ∈ kTb := kTb_of (kch_11 _ (List.mem_of_getElem? (i := 216) rfl)) (by decide +kernel)
theorem km_L_136 : Cond.methodLink RL 136 yL_hit ∈ kTb := kTb_of (kch_7 _ (List.mem_of_getElem? (i := 28) rfl)) (by decide +kernel)
theorem km_L_138 : Cond.methodLink RL 138 yX12_hit ∈ kTb := kTb_of (kch_11 _ (List.mem_of_getElem? (i := 220) rfl)) (by decide +kernel)
theorem km_L_139 : Cond.methodLink RL 139 yL_link ∈ kTb := kTb_of (kch_7 _ (List.mem_of_getElem? (i := 36) rfl)) (by decide +kernel)
theorem km_L_141 : Cond.methodLink RL 141 yX12_link ∈ kTb := kTb_of (kch_11 _ (List.mem_of_getElem? (i := 224) rfl)) (by decide +kernel)
theorem km_L_142 : Cond.methodLink RL 142 yL_message ∈ kTb := kTb_of (kch_7 _ (List.mem_of_getElem? (i := 49) rfl)) (by decide +kernel)
theorem km_L_145 : Cond.methodLink RL 145 yX12_message ∈ kTb := kTb_of (kch_11 _ (List.mem_of_getElem? (i := 232) rfl)) (by decide +kernel)
theorem km_L_146 : Cond.methodLink RL 146 yL_deliver ∈ kTb := kTb_of (kch_7 _ (List.mem_of_getElem? (i := 61) rfl)) (by decide +kernel)
theorem km_L_148 : Cond.methodLink RL 148 yX12_deliver ∈ kTb := kTb_of (kch_11 _ (List.mem_of_getElem? (i := 236) rfl)) (by decide +kernel)
theorem km_L_149 : Cond.methodLink RL 149 yL_lose ∈ kTb := kTb_of (kch_8 _ (List.mem_of_getElem? (i := 130) rfl)) (by decide +kernel)
theorem km_L_151 : Cond.methodLink RL 151 yX12_lose ∈ kTb := kTb_of (kch_13 _ (List.mem_of_getElem? (i := 69) rfl)) (by decide +kernel)
theorem km_L_152 : Cond.methodLink RL 152 yX11_tick ∈ kTb := kTb_of (kch_5 _ (List.mem_of_getElem? (i := 58) rfl)) (by decide +kernel)
theorem km_L_155 : Cond.methodLink RL 155 yX12_tick ∈ kTb := kTb_of (kch_13 _ (List.mem_of_getElem? (i := 73) rfl)) (by decide +kernel)
theorem km_L_156 : Cond.methodLink RL 156 yL_run ∈ kTb := kTb_of (kch_8 _ (List.mem_of_getElem? (i := 137) rfl)) (by decide +kernel)
theorem km_L_159 : Cond.methodLink RL 159 yX12_run ∈ kTb := kTb_of (kch_13 _ (List.mem_of_getElem? (i := 109) rfl)) (by decide +kernel)
theorem km_L_160 : Cond.methodLink RL 160 yL_up ∈ kTb := kTb_of (kch_8 _ (List.mem_of_getElem? (i := 145) rfl)) (by decide +kernel)
theorem km_L_162 : Cond.methodLink RL 162 yX12_up ∈ kTb := kTb_of (kch_13 _ (List.mem_of_getElem? (i := 113) rfl)) (by decide +kernel)
theorem km_L_163 : Cond.methodLink RL 163 yL_down ∈ kTb := kTb_of (kch_8 _ (List.mem_of_getElem? (i := 156) rfl)) (by decide +kernel)
theorem km_L_165 : Cond.methodLink RL 165 yX12_down ∈ kTb := kTb_of (kch_13 _ (List.mem_of_getElem? (i := 117) rfl)) (by decide +kernel)
theorem km_L_166 : Cond.methodLink RL 166 yL_start ∈ kTb := kTb_of (kch_8 _ (List.mem_of_getElem? (i := 163) rfl)) (by decide +kernel)
theorem km_L_168 : Cond.methodLink RL 168 yX12_start ∈ kTb := kTb_of (kch_13 _ (List.mem_of_getElem? (i := 121) rfl)) (by decide +kernel)
theorem km_L_169 : Cond.methodLink RL 169 yL_fail ∈ kTb := kTb_of (kch_8 _ (List.mem_of_getElem? (i := 233) rfl)) (by decide +kernel)
theorem km_L_172 : Cond.methodLink RL 172 yX12_fail ∈ kTb := kTb_of (kch_13 _ (List.mem_of_getElem? (i := 157) rfl)) (by decide +kernel)
theorem km_L_173 : Cond.methodLink RL 173 yL_copy ∈ kTb := kTb_of (kch_9 _ (List.mem_of_getElem? (i := 1) rfl)) (by decide +kernel)
theorem km_L_175 : Cond.methodLink RL 175 yX12_copy ∈ kTb := kTb_of (kch_13 _ (List.mem_of_getElem? (i := 161) rfl)) (by decide +kernel)
theorem km_L_176 : Cond.methodLink RL 176 yL_other ∈ kTb := kTb_of (kch_9 _ (List.mem_of_getElem? (i := 22) rfl)) (by decide +kernel)
theorem km_L_178 : Cond.methodLink RL 178 yX12_other ∈ kTb := kTb_of (kch_13 _ (List.mem_of_getElem? (i := 169) rfl)) (by decide +kernel)
theorem km_L_179 : Cond.methodLink RL 179 yL_view ∈ kTb := kTb_of (kch_9 _ (List.mem_of_getElem? (i := 31) rfl)) (by decide +kernel)
theorem km_L_181 : Cond.methodLink RL 181 yX12_view ∈ kTb := kTb_of (kch_13 _ (List.mem_of_getElem? (i := 173) rfl)) (by decide +kernel)
theorem km_L_182 : Cond.methodLink RL 182 yL_document ∈ kTb := kTb_of (kch_9 _ (List.mem_of_getElem? (i := 39) rfl)) (by decide +kernel)
theorem km_L_184 : Cond.methodLink RL 184 yX12_document ∈ kTb := kTb_of (kch_13 _ (List.mem_of_getElem? (i := 177) rfl)) (by decide +kernel)
theorem km_L_185 : Cond.methodLink RL 185 yL_act ∈ kTb := kTb_of (kch_9 _ (List.mem_of_getElem? (i := 52) rfl)) (by decide +kernel)
theorem km_L_187 : Cond.methodLink RL 187 yX12_act ∈ kTb := kTb_of (kch_13 _ (List.mem_of_getElem? (i := 181) rfl)) (by decide +kernel)
theorem km_L_188 : Cond.methodLink RL 188 yL_disk ∈ kTb := kTb_of (kch_9 _ (List.mem_of_getElem? (i := 60) rfl)) (by decide +kernel)
theorem km_L_190 : Cond.methodLink RL 190 yX12_disk ∈ kTb := kTb_of (kch_13 _ (List.mem_of_getElem? (i := 185) rfl)) (by decide +kernel)
theorem km_L_191 : Cond.methodLink RL 191 yL_segment ∈ kTb := kTb_of (kch_9 _ (List.mem_of_getElem? (i := 68) rfl)) (by decide +kernel)
theorem km_L_193 : Cond.methodLink RL 193 yX12_segment ∈ kTb := kTb_of (kch_13 _ (List.mem_of_getElem? (i := 189) rfl)) (by decide +kernel)
theorem km_L_194 : Cond.methodLink RL 194 yL_octet ∈ kTb := kTb_of (kch_9 _ (List.mem_of_getElem? (i := 123) rfl)) (by decide +kernel)
theorem km_L_196 : Cond.methodLink RL 196 yX12_octet ∈ kTb := kTb_of (kch_13 _ (List.mem_of_getElem? (i := 235) rfl)) (by decide +kernel)
theorem km_L_197 : Cond.methodLink RL 197 yL_told ∈ kTb := kTb_of (kch_9 _ (List.mem_of_getElem? (i := 130) rfl)) (by decide +kernel)
theorem km_L_199 : Cond.methodLink RL 199 yX12_told ∈ kTb := kTb_of (kch_13 _ (List.mem_of_getElem? (i := 239) rfl)) (by decide +kernel)
theorem km_X12_1 : Cond.methodLink RX12 1 Lib.objectInit ∈ kTb := kTb_of (kch_9 _ (List.mem_of_getElem? (i := 155) rfl)) (by decide +kernel)
theorem km_X12_313 : Cond.methodLink RX12 313 yX12_begin ∈ kTb := kTb_of (kch_9 _ (List.mem_of_getElem? (i := 159) rfl)) (by decide +kernel)
theorem km_X12_348 : Cond.methodLink RX12 348 yX12_setView ∈ kTb := kTb_of (kch_9 _ (List.mem_of_getElem? (i := 163) rfl)) (by decide +kernel)
theorem km_X12_352 : Cond.methodLink RX12 352 yX12_hasCopy ∈ kTb := kTb_of (kch_9 _ (List.mem_of_getElem? (i := 167) rfl)) (by decide +kernel)
theorem km_X12_356 : Cond.methodLink RX12 356 yX12_beginCopy ∈ kTb := kTb_of (kch_9 _ (List.mem_of_getElem? (i := 171) rfl)) (by decide +kernel)
theorem km_X12_360 : Cond.methodLink RX12 360 yX12_firstDisk ∈ kTb := kTb_of (kch_9 _ (List.mem_of_getElem? (i := 179) rfl)) (by decide +kernel)
theorem km_X12_364 : Cond.methodLink RX12 364 yX12_copyOf ∈ kTb := kTb_of (kch_9 _ (List.mem_of_getElem? (i := 175) rfl)) (by decide +kernel)
theorem km_X12_368 : Cond.methodLink RX12 368 yX12_fillHalf ∈ kTb := kTb_of (kch_9 _ (List.mem_of_getElem? (i := 183) rfl)) (by decide +kernel)
theorem km_X12_374 : Cond.methodLink RX12 374 yX12_h1 ∈ kTb := kTb_of (kch_9 _ (List.mem_of_getElem? (i := 187) rfl)) (by decide +kernel)
theorem km_X12_380 : Cond.methodLink RX12 380 yX12_r1 ∈ kTb := kTb_of (kch_12 _ (List.mem_of_getElem? (i := 60) rfl)) (by decide +kernel)
theorem km_X12_383 : Cond.methodLink RX12 383 yX12_h2 ∈ kTb := kTb_of (kch_9 _ (List.mem_of_getElem? (i := 191) rfl)) (by decide +kernel)
theorem km_X12_386 : Cond.methodLink RX12 386 yX12_halfCopy ∈ kTb := kTb_of (kch_9 _ (List.mem_of_getElem? (i := 195) rfl)) (by decide +kernel)
theorem km_X12_389 : Cond.methodLink RX12 389 yX12_nodeAt ∈ kTb := kTb_of (kch_9 _ (List.mem_of_getElem? (i := 199) rfl)) (by decide +kernel)
theorem km_X12_392 : Cond.methodLink RX12 392 yX12_documentAt ∈ kTb := kTb_of (kch_9 _ (List.mem_of_getElem? (i := 203) rfl)) (by decide +kernel)
theorem km_X12_395 : Cond.methodLink RX12 395 yX12_halfAct ∈ kTb := kTb_of (kch_9 _ (List.mem_of_getElem? (i := 207) rfl)) (by decide +kernel)
theorem km_X12_398 : Cond.methodLink RX12 398 yX12_diskNode ∈ kTb := kTb_of (kch_12 _ (List.mem_of_getElem? (i := 48) rfl)) (by decide +kernel)
theorem km_X12_402 : Cond.methodLink RX12 402 yX12_fall ∈ kTb := kTb_of (kch_12 _ (List.mem_of_getElem? (i := 52) rfl)) (by decide +kernel)
theorem km_X12_405 : Cond.methodLink RX12 405 yX12_write ∈ kTb := kTb_of (kch_12 _ (List.mem_of_getElem? (i := 44) rfl)) (by decide +kernel)
theorem km_X12_408 : Cond.methodLink RX12 408 yX12_flush ∈ kTb := kTb_of (kch_12 _ (List.mem_of_getElem? (i := 40) rfl)) (by decide +kernel)
theorem km_X12_412 : Cond.methodLink RX12 412 yX12_fits ∈ kTb := kTb_of (kch_12 _ (List.mem_of_getElem? (i := 56) rfl)) (by decide +kernel)
theorem km_X12_415 : Cond.methodLink RX12 415 yX12_r2 ∈ kTb := kTb_of (kch_12 _ (List.mem_of_getElem? (i := 64) rfl)) (by decide +kernel)
theorem km_X12_418 : Cond.methodLink RX12 418 yX12_putRecord ∈ kTb := kTb_of (kch_12 _ (List.mem_of_getElem? (i := 68) rfl)) (by decide +kernel)
theorem km_X12_421 : Cond.methodLink RX12 421 yX12_child ∈ kTb := kTb_of (kch_12 _ (List.mem_of_getElem? (i := 72) rfl)) (by decide +kernel)
theorem km_X12_425 : Cond.methodLink RX12 425 yX12_greatest ∈ kTb := kTb_of (kch_12 _ (List.mem_of_getElem? (i := 108) rfl)) (by decide +kernel)
theorem km_X12_428 : Cond.methodLink RX12 428 yX12_index ∈ kTb := kTb_of (kch_12 _ (List.mem_of_getElem? (i := 139) rfl)) (by decide +kernel)
theorem km_X12_431 : Cond.methodLink RX12 431 yX12_isOther ∈ kTb := kTb_of (kch_12 _ (List.mem_of_getElem? (i := 76) rfl)) (by decide +kernel)
theorem km_X12_434 : Cond.methodLink RX12 434 yX12_counts ∈ kTb := kTb_of (kch_12 _ (List.mem_of_getElem? (i := 88) rfl)) (by decide +kernel)
theorem km_X12_437 : Cond.methodLink RX12 437 yX12_least ∈ kTb := kTb_of (kch_11 _ (List.mem_of_getElem? (i := 190) rfl)) (by decide +kernel)
theorem km_X12_440 : Cond.methodLink RX12 440 yX12_tellDone ∈ kTb := kTb_of (kch_12 _ (List.mem_of_getElem? (i := 92) rfl)) (by decide +kernel)
theorem km_X12_443 : Cond.methodLink RX12 443 yX12_isSeen ∈ kTb := kTb_of (kch_12 _ (List.mem_of_getElem? (i := 96) rfl)) (by decide +kernel)
theorem km_X12_446 : Cond.methodLink RX12 446 yX12_send ∈ kTb := kTb_of (kch_11 _ (List.mem_of_getElem? (i := 140) rfl)) (by decide +kernel)
theorem km_X12_449 : Cond.methodLink RX12 449 yX12_cut ∈ kTb := kTb_of (kch_12 _ (List.mem_of_getElem? (i := 131) rfl)) (by decide +kernel)
theorem km_X12_453 : Cond.methodLink RX12 453 yX12_sync ∈ kTb := kTb_of (kch_12 _ (List.mem_of_getElem? (i := 167) rfl)) (by decide +kernel)
theorem km_X12_456 : Cond.methodLink RX12 456 yX12_settle ∈ kTb := kTb_of (kch_12 _ (List.mem_of_getElem? (i := 84) rfl)) (by decide +kernel)
theorem km_X12_459 : Cond.methodLink RX12 459 yX12_u1 ∈ kTb := kTb_of (kch_13 _ (List.mem_of_getElem? (i := 137) rfl)) (by decide +kernel)
theorem km_X12_462 : Cond.methodLink RX12 462 yX12_countsOf ∈ kTb := kTb_of (kch_13 _ (List.mem_of_getElem? (i := 133) rfl)) (by decide +kernel)
theorem km_X12_465 : Cond.methodLink RX12 465 yX12_zero ∈ kTb := kTb_of (kch_13 _ (List.mem_of_getElem? (i := 141) rfl)) (by decide +kernel)
theorem km_X12_469 : Cond.methodLink RX12 469 yX12_u2 ∈ kTb := kTb_of (kch_13 _ (List.mem_of_getElem? (i := 149) rfl)) (by decide +kernel)
theorem km_X12_472 : Cond.methodLink RX12 472 yX12_readDisk ∈ kTb := kTb_of (kch_13 _ (List.mem_of_getElem? (i := 129) rfl)) (by decide +kernel)
theorem km_X12_475 : Cond.methodLink RX12 475 yX12_readViews ∈ kTb := kTb_of (kch_13 _ (List.mem_of_getElem? (i := 145) rfl)) (by decide +kernel)
theorem km_X12_478 : Cond.methodLink RX12 478 yX12_readCopy ∈ kTb := kTb_of (kch_13 _ (List.mem_of_getElem? (i := 153) rfl)) (by decide +kernel)
theorem km_X12_484 : Cond.methodLink RX12 484 yX12_liveRequest ∈ kTb := kTb_of (kch_12 _ (List.mem_of_getElem? (i := 143) rfl)) (by decide +kernel)
theorem km_X12_487 : Cond.methodLink RX12 487 yX12_kill ∈ kTb := kTb_of (kch_12 _ (List.mem_of_getElem? (i := 147) rfl)) (by decide +kernel)
theorem km_X12_490 : Cond.methodLink RX12 490 yX12_putFresh ∈ kTb := kTb_of (kch_12 _ (List.mem_of_getElem? (i := 151) rfl)) (by decide +kernel)
theorem km_X12_493 : Cond.methodLink RX12 493 yX12_hasLive ∈ kTb := kTb_of (kch_12 _ (List.mem_of_getElem? (i := 155) rfl)) (by decide +kernel)
theorem km_X12_496 : Cond.methodLink RX12 496 yX12_moveSegment ∈ kTb := kTb_of (kch_12 _ (List.mem_of_getElem? (i := 159) rfl)) (by decide +kernel)
theorem km_X12_499 : Cond.methodLink RX12 499 yX12_isLetter ∈ kTb := kTb_of (kch_11 _ (List.mem_of_getElem? (i := 179) rfl)) (by decide +kernel)
theorem km_X12_505 : Cond.methodLink RX12 505 yX12_small ∈ kTb := kTb_of (kch_11 _ (List.mem_of_getElem? (i := 193) rfl)) (by decide +kernel)
theorem km_X12_508 : Cond.methodLink RX12 508 yX12_ends ∈ kTb := kTb_of (kch_11 _ (List.mem_of_getElem? (i := 200) rfl)) (by decide +kernel)
theorem km_X12_521 : Cond.methodLink RX12 521 yX12_isRow ∈ kTb := kTb_of (kch_11 _ (List.mem_of_getElem? (i := 176) rfl)) (by decide +kernel)
theorem km_X12_524 : Cond.methodLink RX12 524 yX12_takeRow ∈ kTb := kTb_of (kch_11 _ (List.mem_of_getElem? (i := 186) rfl)) (by decide +kernel)
theorem km_X12_527 : Cond.methodLink RX12 527 yX12_stem ∈ kTb := kTb_of (kch_11 _ (List.mem_of_getElem? (i := 196) rfl)) (by decide +kernel)
theorem km_X12_530 : Cond.methodLink RX12 530 yX12_isNone ∈ kTb := kTb_of (kch_11 _ (List.mem_of_getElem? (i := 208) rfl)) (by decide +kernel)
theorem km_X12_534 : Cond.methodLink RX12 534 yX12_key ∈ kTb := kTb_of (kch_11 _ (List.mem_of_getElem? (i := 204) rfl)) (by decide +kernel)
theorem km_X12_543 : Cond.methodLink RX12 543 yX12_sign ∈ kTb := kTb_of (kch_11 _ (List.mem_of_getElem? (i := 168) rfl)) (by decide +kernel)
theorem km_X12_553 : Cond.methodLink RX12 553 yX12_skipBlanks ∈ kTb := kTb_of (kch_11 _ (List.mem_of_getElem? (i := 164) rfl)) (by decide +kernel)
theorem km_X12_556 : Cond.methodLink RX12 556 yX12_clause ∈ kTb := kTb_of (kch_11 _ (List.mem_of_getElem? (i := 172) rfl)) (by decide +kernel)
theorem km_X12_559 : Cond.methodLink RX12 559 yX12_takeQuestionRow ∈ kTb := kTb_of (kch_11 _ (List.mem_of_getElem? (i := 182) rfl)) (by decide +kernel)
theorem km_X12_563 : Cond.methodLink RX12 563 yX12_rowsWithin ∈ kTb := kTb_of (kch_11 _ (List.mem_of_getElem? (i := 212) rfl)) (by decide +kernel)
theorem km_X12_566 : Cond.methodLink RX12 566 yX12_question ∈ kTb := kTb_of (kch_11 _ (List.mem_of_getElem? (i := 160) rfl)) (by decide +kernel)
theorem km_X12_569 : Cond.methodLink RX12 569 yX12_begins ∈ kTb := kTb_of (kch_13 _ (List.mem_of_getElem? (i := 43) rfl)) (by decide +kernel)
theorem km_X12_572 : Cond.methodLink RX12 572 yX12_hasAt ∈ kTb := kTb_of (kch_13 _ (List.mem_of_getElem? (i := 47) rfl)) (by decide +kernel)
theorem km_X12_577 : Cond.methodLink RX12 577 yX12_questionOf ∈ kTb := kTb_of (kch_13 _ (List.mem_of_getElem? (i := 7) rfl)) (by decide +kernel)
theorem km_X12_580 : Cond.methodLink RX12 580 yX12_read ∈ kTb := kTb_of (kch_13 _ (List.mem_of_getElem? (i := 19) rfl)) (by decide +kernel)
theorem km_X12_583 : Cond.methodLink RX12 583 yX12_countWords ∈ kTb := kTb_of (kch_13 _ (List.mem_of_getElem? (i := 23) rfl)) (by decide +kernel)
theorem km_X12_589 : Cond.methodLink RX12 589 yX12_sendSimple ∈ kTb := kTb_of (kch_11 _ (List.mem_of_getElem? (i := 136) rfl)) (by decide +kernel)
theorem km_X12_592 : Cond.methodLink RX12 592 yX12_wordsAsked ∈ kTb := kTb_of (kch_13 _ (List.mem_of_getElem? (i := 11) rfl)) (by decide +kernel)
theorem km_X12_595 : Cond.methodLink RX12 595 yX12_statsOf ∈ kTb := kTb_of (kch_13 _ (List.mem_of_getElem? (i := 15) rfl)) (by decide +kernel)
theorem km_X12_598 : Cond.methodLink RX12 598 yX12_fitting ∈ kTb := kTb_of (kch_13 _ (List.mem_of_getElem? (i := 39) rfl)) (by decide +kernel)
theorem km_X12_603 : Cond.methodLink RX12 603 yX12_log ∈ kTb := kTb_of (kch_13 _ (List.mem_of_getElem? (i := 52) rfl)) (by decide +kernel)
theorem km_X12_620 : Cond.methodLink RX12 620 yX12_scoreOf ∈ kTb := kTb_of (kch_13 _ (List.mem_of_getElem? (i := 35) rfl)) (by decide +kernel)
theorem km_X12_623 : Cond.methodLink RX12 623 yX12_addBest ∈ kTb := kTb_of (kch_13 _ (List.mem_of_getElem? (i := 61) rfl)) (by decide +kernel)
theorem km_X12_626 : Cond.methodLink RX12 626 yX12_isOpenAt ∈ kTb := kTb_of (kch_12 _ (List.mem_of_getElem? (i := 20) rfl)) (by decide +kernel)
theorem km_X12_629 : Cond.methodLink RX12 629 yX12_isPrimary ∈ kTb := kTb_of (kch_12 _ (List.mem_of_getElem? (i := 28) rfl)) (by decide +kernel)
theorem km_X12_632 : Cond.methodLink RX12 632 yX12_isDoneAt ∈ kTb := kTb_of (kch_12 _ (List.mem_of_getElem? (i := 32) rfl)) (by decide +kernel)
theorem km_X12_635 : Cond.methodLink RX12 635 yX12_append ∈ kTb := kTb_of (kch_12 _ (List.mem_of_getElem? (i := 36) rfl)) (by decide +kernel)
theorem km_X12_638 : Cond.methodLink RX12 638 yX12_sendRepl ∈ kTb := kTb_of (kch_12 _ (List.mem_of_getElem? (i := 80) rfl)) (by decide +kernel)
theorem km_X12_641 : Cond.methodLink RX12 641 yX12_want ∈ kTb := kTb_of (kch_12 _ (List.mem_of_getElem? (i := 104) rfl)) (by decide +kernel)
theorem km_X12_645 : Cond.methodLink RX12 645 yX12_sendAck ∈ kTb := kTb_of (kch_12 _ (List.mem_of_getElem? (i := 111) rfl)) (by decide +kernel)
theorem km_X12_648 : Cond.methodLink RX12 648 yX12_sendAdd ∈ kTb := kTb_of (kch_12 _ (List.mem_of_getElem? (i := 119) rfl)) (by decide +kernel)
theorem km_X12_651 : Cond.methodLink RX12 651 yX12_onWay ∈ kTb := kTb_of (kch_12 _ (List.mem_of_getElem? (i := 127) rfl)) (by decide +kernel)
theorem km_X12_654 : Cond.methodLink RX12 654 yX12_show ∈ kTb := kTb_of (kch_12 _ (List.mem_of_getElem? (i := 135) rfl)) (by decide +kernel)
theorem km_X12_657 : Cond.methodLink RX12 657 yX12_follow ∈ kTb := kTb_of (kch_12 _ (List.mem_of_getElem? (i := 203) rfl)) (by decide +kernel)
theorem km_X12_660 : Cond.methodLink RX12 660 yX12_members ∈ kTb := kTb_of (kch_12 _ (List.mem_of_getElem? (i := 211) rfl)) (by decide +kernel)
theorem km_X12_663 : Cond.methodLink RX12 663 yX12_becomePrimary ∈ kTb := kTb_of (kch_12 _ (List.mem_of_getElem? (i := 215) rfl)) (by decide +kernel)
theorem km_X12_666 : Cond.methodLink RX12 666 yX12_sendJoin ∈ kTb := kTb_of (kch_12 _ (List.mem_of_getElem? (i := 207) rfl)) (by decide +kernel)
theorem km_X12_669 : Cond.methodLink RX12 669 yX12_sendShowTo ∈ kTb := kTb_of (kch_12 _ (List.mem_of_getElem? (i := 235) rfl)) (by decide +kernel)
theorem km_X12_672 : Cond.methodLink RX12 672 yX12_sendConfig ∈ kTb := kTb_of (kch_12 _ (List.mem_of_getElem? (i := 179) rfl)) (by decide +kernel)
theorem km_X12_675 : Cond.methodLink RX12 675 yX12_change ∈ kTb := kTb_of (kch_12 _ (List.mem_of_getElem? (i := 183) rfl)) (by decide +kernel)
theorem km_X12_678 : Cond.methodLink RX12 678 yX12_promote ∈ kTb := kTb_of (kch_12 _ (List.mem_of_getElem? (i := 223) rfl)) (by decide +kernel)
theorem km_X12_681 : Cond.methodLink RX12 681 yX12_heardOfShard ∈ kTb := kTb_of (kch_12 _ (List.mem_of_getElem? (i := 227) rfl)) (by decide +kernel)
theorem km_X12_684 : Cond.methodLink RX12 684 yX12_sendFail ∈ kTb := kTb_of (kch_13 _ (List.mem_of_getElem? (i := 93) rfl)) (by decide +kernel)
theorem km_X12_687 : Cond.methodLink RX12 687 yX12_catchUp ∈ kTb := kTb_of (kch_13 _ (List.mem_of_getElem? (i := 97) rfl)) (by decide +kernel)
theorem km_X12_690 : Cond.methodLink RX12 690 yX12_primaryTick ∈ kTb := kTb_of (kch_13 _ (List.mem_of_getElem? (i := 89) rfl)) (by decide +kernel)
theorem km_X12_693 : Cond.methodLink RX12 693 yX12_copyTick ∈ kTb := kTb_of (kch_13 _ (List.mem_of_getElem? (i := 85) rfl)) (by decide +kernel)
theorem km_X12_696 : Cond.methodLink RX12 696 yX12_requestTick ∈ kTb := kTb_of (kch_13 _ (List.mem_of_getElem? (i := 101) rfl)) (by decide +kernel)
theorem km_X12_699 : Cond.methodLink RX12 699 yX12_nodeTick ∈ kTb := kTb_of (kch_13 _ (List.mem_of_getElem? (i := 81) rfl)) (by decide +kernel)
theorem km_X12_702 : Cond.methodLink RX12 702 yX12_keeperTick ∈ kTb := kTb_of (kch_13 _ (List.mem_of_getElem? (i := 105) rfl)) (by decide +kernel)
theorem km_X12_705 : Cond.methodLink RX12 705 yX12_route ∈ kTb := kTb_of (kch_12 _ (List.mem_of_getElem? (i := 12) rfl)) (by decide +kernel)
theorem km_X12_708 : Cond.methodLink RX12 708 yX12_map ∈ kTb := kTb_of (kch_12 _ (List.mem_of_getElem? (i := 16) rfl)) (by decide +kernel)
theorem km_X12_711 : Cond.methodLink RX12 711 yX12_writes ∈ kTb := kTb_of (kch_12 _ (List.mem_of_getElem? (i := 24) rfl)) (by decide +kernel)
theorem km_X12_714 : Cond.methodLink RX12 714 yX12_repl ∈ kTb := kTb_of (kch_12 _ (List.mem_of_getElem? (i := 100) rfl)) (by decide +kernel)
theorem km_X12_717 : Cond.methodLink RX12 717 yX12_ack ∈ kTb := kTb_of (kch_12 _ (List.mem_of_getElem? (i := 115) rfl)) (by decide +kernel)
theorem km_X12_720 : Cond.methodLink RX12 720 yX12_synced ∈ kTb := kTb_of (kch_12 _ (List.mem_of_getElem? (i := 123) rfl)) (by decide +kernel)
theorem km_X12_723 : Cond.methodLink RX12 723 yX12_wanted ∈ kTb := kTb_of (kch_12 _ (List.mem_of_getElem? (i := 163) rfl)) (by decide +kernel)
theorem km_X12_726 : Cond.methodLink RX12 726 yX12_join ∈ kTb := kTb_of (kch_12 _ (List.mem_of_getElem? (i := 171) rfl)) (by decide +kernel)
theorem km_X12_729 : Cond.methodLink RX12 729 yX12_add ∈ kTb := kTb_of (kch_12 _ (List.mem_of_getElem? (i := 175) rfl)) (by decide +kernel)
theorem km_X12_732 : Cond.methodLink RX12 732 yX12_failed ∈ kTb := kTb_of (kch_12 _ (List.mem_of_getElem? (i := 187) rfl)) (by decide +kernel)
theorem km_X12_735 : Cond.methodLink RX12 735 yX12_out ∈ kTb := kTb_of (kch_12 _ (List.mem_of_getElem? (i := 191) rfl)) (by decide +kernel)
theorem km_X12_738 : Cond.methodLink RX12 738 yX12_handleOther ∈ kTb := kTb_of (kch_12 _ (List.mem_of_getElem? (i := 195) rfl)) (by decide +kernel)
theorem km_X12_741 : Cond.methodLink RX12 741 yX12_config ∈ kTb := kTb_of (kch_12 _ (List.mem_of_getElem? (i := 199) rfl)) (by decide +kernel)
theorem km_X12_744 : Cond.methodLink RX12 744 yX12_heard ∈ kTb := kTb_of (kch_12 _ (List.mem_of_getElem? (i := 219) rfl)) (by decide +kernel)
theorem km_X12_748 : Cond.methodLink RX12 748 yX12_showNow ∈ kTb := kTb_of (kch_12 _ (List.mem_of_getElem? (i := 231) rfl)) (by decide +kernel)
theorem km_X12_751 : Cond.methodLink RX12 751 yX12_showTo ∈ kTb := kTb_of (kch_12 _ (List.mem_of_getElem? (i := 239) rfl)) (by decide +kernel)
theorem km_X12_754 : Cond.methodLink RX12 754 yX12_open ∈ kTb := kTb_of (kch_13 _ (List.mem_of_getElem? (i := 3) rfl)) (by decide +kernel)
theorem km_X12_757 : Cond.methodLink RX12 757 yX12_stats ∈ kTb := kTb_of (kch_13 _ (List.mem_of_getElem? (i := 27) rfl)) (by decide +kernel)
theorem km_X12_760 : Cond.methodLink RX12 760 yX12_score ∈ kTb := kTb_of (kch_13 _ (List.mem_of_getElem? (i := 31) rfl)) (by decide +kernel)
theorem km_X12_763 : Cond.methodLink RX12 763 yX12_top ∈ kTb := kTb_of (kch_13 _ (List.mem_of_getElem? (i := 65) rfl)) (by decide +kernel)
theorem km_X12_766 : Cond.methodLink RX12 766 yX12_takeFirst ∈ kTb := kTb_of (kch_12 _ (List.mem_of_getElem? (i := 4) rfl)) (by decide +kernel)
theorem km_X12_769 : Cond.methodLink RX12 769 yX12_handle ∈ kTb := kTb_of (kch_12 _ (List.mem_of_getElem? (i := 8) rfl)) (by decide +kernel)
theorem km_X12_777 : Cond.methodLink RX12 777 yX12_isNode ∈ kTb := kTb_of (kch_11 _ (List.mem_of_getElem? (i := 124) rfl)) (by decide +kernel)
theorem km_X12_780 : Cond.methodLink RX12 780 yX12_isText ∈ kTb := kTb_of (kch_11 _ (List.mem_of_getElem? (i := 128) rfl)) (by decide +kernel)
theorem km_X12_783 : Cond.methodLink RX12 783 yX12_come ∈ kTb := kTb_of (kch_11 _ (List.mem_of_getElem? (i := 132) rfl)) (by decide +kernel)
theorem km_X12_786 : Cond.methodLink RX12 786 yX12_takeDraft ∈ kTb := kTb_of (kch_11 _ (List.mem_of_getElem? (i := 144) rfl)) (by decide +kernel)
theorem km_X12_789 : Cond.methodLink RX12 789 yX12_isPlace ∈ kTb := kTb_of (kch_11 _ (List.mem_of_getElem? (i := 228) rfl)) (by decide +kernel)
theorem km_X12_792 : Cond.methodLink RX12 792 yX12_deliverOne ∈ kTb := kTb_of (kch_12 _ (List.mem_of_getElem? (i := 0) rfl)) (by decide +kernel)
theorem km_X12_795 : Cond.methodLink RX12 795 yX12_doTick ∈ kTb := kTb_of (kch_13 _ (List.mem_of_getElem? (i := 77) rfl)) (by decide +kernel)
theorem km_X12_798 : Cond.methodLink RX12 798 yX12_rise ∈ kTb := kTb_of (kch_13 _ (List.mem_of_getElem? (i := 125) rfl)) (by decide +kernel)
theorem km_X12_801 : Cond.methodLink RX12 801 yX12_isCopy ∈ kTb := kTb_of (kch_13 _ (List.mem_of_getElem? (i := 165) rfl)) (by decide +kernel)
theorem km_X12_804 : Cond.methodLink RX12 804 yX12_isSegment ∈ kTb := kTb_of (kch_13 _ (List.mem_of_getElem? (i := 193) rfl)) (by decide +kernel)
theorem km_X12_807 : Cond.methodLink RX12 807 yX12_encode ∈ kTb := kTb_of (kch_13 _ (List.mem_of_getElem? (i := 197) rfl)) (by decide +kernel)
theorem km_X12_813 : Cond.methodLink RX12 813 yX12_c1 ∈ kTb := kTb_of (kch_13 _ (List.mem_of_getElem? (i := 205) rfl)) (by decide +kernel)
theorem km_X12_819 : Cond.methodLink RX12 819 yX12_isBefore ∈ kTb := kTb_of (kch_13 _ (List.mem_of_getElem? (i := 213) rfl)) (by decide +kernel)
theorem km_X12_822 : Cond.methodLink RX12 822 yX12_octetOf ∈ kTb := kTb_of (kch_13 _ (List.mem_of_getElem? (i := 228) rfl)) (by decide +kernel)
theorem km_X12_826 : Cond.methodLink RX12 826 yX12_number ∈ kTb := kTb_of (kch_13 _ (List.mem_of_getElem? (i := 201) rfl)) (by decide +kernel)
theorem km_X12_829 : Cond.methodLink RX12 829 yX12_sort ∈ kTb := kTb_of (kch_13 _ (List.mem_of_getElem? (i := 209) rfl)) (by decide +kernel)
theorem km_X12_832 : Cond.methodLink RX12 832 yX12_sameWord ∈ kTb := kTb_of (kch_13 _ (List.mem_of_getElem? (i := 217) rfl)) (by decide +kernel)
theorem km_X12_835 : Cond.methodLink RX12 835 yX12_encodeWord ∈ kTb := kTb_of (kch_13 _ (List.mem_of_getElem? (i := 221) rfl)) (by decide +kernel)
theorem km_X12_838 : Cond.methodLink RX12 838 yX12_encodeList ∈ kTb := kTb_of (kch_13 _ (List.mem_of_getElem? (i := 231) rfl)) (by decide +kernel)
theorem km_X12_841 : Cond.methodLink RX12 841 yX12_sizeOf ∈ kTb := kTb_of (kch_13 _ (List.mem_of_getElem? (i := 225) rfl)) (by decide +kernel)
theorem km_J7_13 : Cond.methodLink RJ7 13 yJ7_rangeCheck_23922 ∈ kTb := kTb_of (kch_3 _ (List.mem_of_getElem? (i := 108) rfl)) (by decide +kernel)
theorem km_J7_47 : Cond.methodLink RJ7 47 yJ4_init_da8c8 ∈ kTb := kTb_of (kch_3 _ (List.mem_of_getElem? (i := 155) rfl)) (by decide +kernel)
theorem km_J7_50 : Cond.methodLink RJ7 50 yJ4_append_15ec4 ∈ kTb := kTb_of (kch_3 _ (List.mem_of_getElem? (i := 185) rfl)) (by decide +kernel)
theorem km_J7_54 : Cond.methodLink RJ7 54 yJ4_append_bf812 ∈ kTb := kTb_of (kch_4 _ (List.mem_of_getElem? (i := 63) rfl)) (by decide +kernel)
theorem km_J7_61 : Cond.methodLink RJ7 61 yJ4_toString_0e30d ∈ kTb := kTb_of (kch_4 _ (List.mem_of_getElem? (i := 90) rfl)) (by decide +kernel)
theorem km_J7_70 : Cond.methodLink RJ7 70 yJx00060_init_d00df ∈ kTb := kTb_of (kch_4 _ (List.mem_of_getElem? (i := 187) rfl)) (by decide +kernel)
theorem km_J7_150 : Cond.methodLink RJ7 150 arraycopyName ∈ kTb := kTb_of (kch_3 _ (List.mem_of_getElem? (i := 228) rfl)) (by decide +kernel)
theorem km_J7_304 : Cond.methodLink RJ7 304 Lib.Math.min.name ∈ kTb := kTb_of (kch_3 _ (List.mem_of_getElem? (i := 225) rfl)) (by decide +kernel)
theorem km_J7_339 : Cond.methodLink RJ7 339 yJ7_copyOfRangeByte_39247 ∈ kTb := kTb_of (kch_4 _ (List.mem_of_getElem? (i := 120) rfl)) (by decide +kernel)
theorem km_J7_343 : Cond.methodLink RJ7 343 yJ7_checkLength_df160 ∈ kTb := kTb_of (kch_4 _ (List.mem_of_getElem? (i := 123) rfl)) (by decide +kernel)
theorem kmn_X11_11 : Cond.methodLinkNest RX11 11 yX10_init "SearchCluster" ∈ kNw := by decide +kernel
theorem kmn_X11_43 : Cond.methodLinkNest RX11 43 yX9_init "SearchCluster" ∈ kNw := by decide +kernel
theorem kmn_X11_105 : Cond.methodLinkNest RX11 105 yX6_init "SearchCluster" ∈ kNw := by decide +kernel
theorem kmn_X5_134 : Cond.methodLinkNest RX5 134 yX11_rank "SearchCluster" ∈ kNw := by decide +kernel
theorem kmn_X6_37 : Cond.methodLinkNest RX6 37 yX11_isRowOctet "SearchCluster" ∈ kNw := by decide +kernel
theorem kmn_X6_41 : Cond.methodLinkNest RX6 41 yX11_rowEnd "SearchCluster" ∈ kNw := by decide +kernel
theorem kmn_X6_48 : Cond.methodLinkNest RX6 48 yX11_wordOf "SearchCluster" ∈ kNw := by decide +kernel
theorem kmn_X6_60 : Cond.methodLinkNest RX6 60 yX11_beginsRow "SearchCluster" ∈ kNw := by decide +kernel
theorem kmn_X6_72 : Cond.methodLinkNest RX6 72 yX11_packed "SearchCluster" ∈ kNw := by decide +kernel
theorem kmn_X8_38 : Cond.methodLinkNest RX8 38 yX11_rowsOf "SearchCluster" ∈ kNw := by decide +kernel
theorem kmn_X8_162 : Cond.methodLinkNest RX8 162 yX11_rank "SearchCluster" ∈ kNw := by decide +kernel
theorem kmn_X10_30 : Cond.methodLinkNest RX10 30 yX4_init "SearchCluster" ∈ kNw := by decide +kernel
theorem kfn_X4_15 : Cond.fieldLinkNest RX4 15 RX11 "NO_NUMBERS" "[I" "SearchCluster" ∈ kNw := by decide +kernel
theorem kfn_X8_53 : Cond.fieldLinkNest RX8 53 RX11 "NO_NUMBERS" "[I" "SearchCluster" ∈ kNw := by decide +kernel
theorem kz_SearchCluster : Cond.initialized RX11 ∈ kTb := kTb_of (kch_1 _ (List.mem_of_getElem? (i := 1) rfl)) (by decide +kernel)
theorem kz_SearchCluster_Copy : Cond.initialized RX0 ∈ kTb := kTb_of (kch_1 _ (List.mem_of_getElem? (i := 6) rfl)) (by decide +kernel)
theorem kz_SearchCluster_Disk : Cond.initialized RX1 ∈ kTb := kTb_of (kch_1 _ (List.mem_of_getElem? (i := 7) rfl)) (by decide +kernel)
theorem kz_SearchCluster_Index : Cond.initialized RX2 ∈ kTb := kTb_of (kch_1 _ (List.mem_of_getElem? (i := 8) rfl)) (by decide +kernel)
theorem kz_SearchCluster_Keeper : Cond.initialized RX3 ∈ kTb := kTb_of (kch_1 _ (List.mem_of_getElem? (i := 9) rfl)) (by decide +kernel)
theorem kz_SearchCluster_Message : Cond.initialized RX4 ∈ kTb := kTb_of (kch_1 _ (List.mem_of_getElem? (i := 3) rfl)) (by decide +kernel)
theorem kz_SearchCluster_Node : Cond.initialized RX5 ∈ kTb := kTb_of (kch_1 _ (List.mem_of_getElem? (i := 4) rfl)) (by decide +kernel)
theorem kz_SearchCluster_Question : Cond.initialized RX6 ∈ kTb := kTb_of (kch_1 _ (List.mem_of_getElem? (i := 31) rfl)) (by decide +kernel)
theorem kz_SearchCluster_Replica : Cond.initialized RX7 ∈ kTb := kTb_of (kch_1 _ (List.mem_of_getElem? (i := 5) rfl)) (by decide +kernel)
theorem kz_SearchCluster_Request : Cond.initialized RX8 ∈ kTb := kTb_of (kch_1 _ (List.mem_of_getElem? (i := 30) rfl)) (by decide +kernel)
theorem kz_SearchCluster_SegmentOctets : Cond.initialized RX9 ∈ kTb := kTb_of (kch_1 _ (List.mem_of_getElem? (i := 10) rfl)) (by decide +kernel)
theorem kz_SearchCluster_World : Cond.initialized RX10 ∈ kTb := kTb_of (kch_1 _ (List.mem_of_getElem? (i := 2) rfl)) (by decide +kernel)
theorem kz_SearchClusterLaw : Cond.initialized RL ∈ kTb := kTb_of (kch_1 _ (List.mem_of_getElem? (i := 0) rfl)) (by decide +kernel)
theorem kz_SearchClusterModel : Cond.initialized RX12 ∈ kTb := kTb_of (kch_1 _ (List.mem_of_getElem? (i := 29) rfl)) (by decide +kernel)
theorem kz_java_lang_ArrayIndexOutOfBoundsException : Cond.initialized RJx00060 ∈ kTb := kTb_of (kch_1 _ (List.mem_of_getElem? (i := 27) rfl)) (by decide +kernel)
theorem kz_java_lang_Exception : Cond.initialized "java/lang/Exception" ∈ kTb := kTb_of (kch_1 _ (List.mem_of_getElem? (i := 14) rfl)) (by decide +kernel)
theorem kz_java_lang_IllegalArgumentException : Cond.initialized "java/lang/IllegalArgumentException" ∈ kTb := kTb_of (kch_1 _ (List.mem_of_getElem? (i := 16) rfl)) (by decide +kernel)
theorem kz_java_lang_IllegalStateException : Cond.initialized "java/lang/IllegalStateException" ∈ kTb := kTb_of (kch_1 _ (List.mem_of_getElem? (i := 28) rfl)) (by decide +kernel)
theorem kz_java_lang_IndexOutOfBoundsException : Cond.initialized "java/lang/IndexOutOfBoundsException" ∈ kTb := kTb_of (kch_1 _ (List.mem_of_getElem? (i := 26) rfl)) (by decide +kernel)
theorem kz_java_lang_Integer : Cond.initialized RJ6 ∈ kTb := kTb_of (kch_1 _ (List.mem_of_getElem? (i := 25) rfl)) (by decide +kernel)
theorem kz_java_lang_Math : Cond.initialized RJ9 ∈ kTb := kTb_of (kch_1 _ (List.mem_of_getElem? (i := 22) rfl)) (by decide +kernel)
theorem kz_java_lang_RuntimeException : Cond.initialized "java/lang/RuntimeException" ∈ kTb := kTb_of (kch_1 _ (List.mem_of_getElem? (i := 15) rfl)) (by decide +kernel)
theorem kz_java_lang_System : Cond.initialized RJ10 ∈ kTb := kTb_of (kch_1 _ (List.mem_of_getElem? (i := 12) rfl)) (by decide +kernel)
theorem kz_java_util_Arrays : Cond.initialized RJ7 ∈ kTb := kTb_of (kch_1 _ (List.mem_of_getElem? (i := 11) rfl)) (by decide +kernel)
theorem kl_X11_init : kLk yX11_init cX11_init 2 none [] 0 := ⟨kTb_of (kch_1 _ (List.mem_of_getElem? (i := 36) rfl)) (by decide +kernel), kz_SearchCluster, by decide +kernel, by decide +kernel, by decide⟩
theorem ki_X11_init : Cond.instanceMethod yX11_init ∈ kTb := kTb_of (kch_1 _ (List.mem_of_getElem? (i := 35) rfl)) (by decide +kernel)
theorem kl_X11_act : kLk yX11_act cX11_act 5 (some .int) [] 3 := ⟨kTb_of (kch_9 _ (List.mem_of_getElem? (i := 58) rfl)) (by decide +kernel), kz_SearchCluster, by decide +kernel, by decide +kernel, by decide⟩
theorem ki_X11_act : Cond.instanceMethod yX11_act ∈ kTb := kTb_of (kch_9 _ (List.mem_of_getElem? (i := 56) rfl)) (by decide +kernel)
theorem kse_X11_act : Cond.selects (yX11_act).cls yX11_act yX11_act ∈ kTb := kTb_of (kch_9 _ (List.mem_of_getElem? (i := 57) rfl)) (by decide +kernel)
theorem kl_X11_begin : kLk yX11_begin cX11_begin 8 none [] 3 := ⟨kTb_of (kch_2 _ (List.mem_of_getElem? (i := 231) rfl)) (by decide +kernel), kz_SearchCluster, by decide +kernel, by decide +kernel, by decide⟩
theorem ki_X11_begin : Cond.instanceMethod yX11_begin ∈ kTb := kTb_of (kch_2 _ (List.mem_of_getElem? (i := 230) rfl)) (by decide +kernel)
theorem kse_X11_begin : Cond.selects (yX11_begin).cls yX11_begin yX11_begin ∈ kTb := kTb_of (kcs_1 _ (List.mem_of_getElem? (i := 0) rfl)) (by decide +kernel)
theorem kl_X11_beginsRow : kLk yX11_beginsRow cX11_beginsRow 2 (some .boolean) [] 2 := ⟨kTb_of (kch_6 _ (List.mem_of_getElem? (i := 53) rfl)) (by decide +kernel), kz_SearchCluster, by decide +kernel, by decide +kernel, by decide⟩
theorem kst_X11_beginsRow : Cond.static yX11_beginsRow ∈ kTb := kTb_of (kch_6 _ (List.mem_of_getElem? (i := 52) rfl)) (by decide +kernel)
theorem kl_X11_boot : kLk yX11_boot cX11_boot 4 none [(0, 18, 78, 199), (19, 75, 78, 199)] 1 := ⟨kTb_of (kch_8 _ (List.mem_of_getElem? (i := 174) rfl)) (by decide +kernel), kz_SearchCluster, by decide +kernel, by decide +kernel, by decide⟩
theorem ki_X11_boot : Cond.instanceMethod yX11_boot ∈ kTb := kTb_of (kch_8 _ (List.mem_of_getElem? (i := 173) rfl)) (by decide +kernel)
theorem kse_X11_boot : Cond.selects (yX11_boot).cls yX11_boot yX11_boot ∈ kTb := kTb_of (kcs_5 _ (List.mem_of_getElem? (i := 10) rfl)) (by decide +kernel)
theorem kl_X11_come : kLk yX11_come cX11_come 7 (some .int) [] 5 := ⟨kTb_of (kch_6 _ (List.mem_of_getElem? (i := 38) rfl)) (by decide +kernel), kz_SearchCluster, by decide +kernel, by decide +kernel, by decide⟩
theorem ki_X11_come : Cond.instanceMethod yX11_come ∈ kTb := kTb_of (kch_6 _ (List.mem_of_getElem? (i := 37) rfl)) (by decide +kernel)
theorem kse_X11_come : Cond.selects (yX11_come).cls yX11_come yX11_come ∈ kTb := kTb_of (kcs_3 _ (List.mem_of_getElem? (i := 5) rfl)) (by decide +kernel)
theorem kl_X11_comesBefore : kLk yX11_comesBefore cX11_comesBefore 4 (some .boolean) [] 4 := ⟨kTb_of (kch_8 _ (List.mem_of_getElem? (i := 90) rfl)) (by decide +kernel), kz_SearchCluster, by decide +kernel, by decide +kernel, by decide⟩
theorem kst_X11_comesBefore : Cond.static yX11_comesBefore ∈ kTb := kTb_of (kch_8 _ (List.mem_of_getElem? (i := 89) rfl)) (by decide +kernel)
theorem kl_X11_contextsInUse : kLk yX11_contextsInUse cX11_contextsInUse 3 (some .int) [] 0 := ⟨kTb_of (kch_9 _ (List.mem_of_getElem? (i := 144) rfl)) (by decide +kernel), kz_SearchCluster, by decide +kernel, by decide +kernel, by decide⟩
theorem ki_X11_contextsInUse : Cond.instanceMethod yX11_contextsInUse ∈ kTb := kTb_of (kch_9 _ (List.mem_of_getElem? (i := 143) rfl)) (by decide +kernel)
theorem kse_X11_contextsInUse : Cond.selects (yX11_contextsInUse).cls yX11_contextsInUse yX11_contextsInUse ∈ kTb := kTb_of (kcs_6 _ (List.mem_of_getElem? (i := 11) rfl)) (by decide +kernel)
theorem kl_X11_copy : kLk yX11_copy cX11_copy 5 (some .int) [] 3 := ⟨kTb_of (kch_9 _ (List.mem_of_getElem? (i := 7) rfl)) (by decide +kernel), kz_SearchCluster, by decide +kernel, by decide +kernel, by decide⟩
theorem ki_X11_copy : Cond.instanceMethod yX11_copy ∈ kTb := kTb_of (kch_9 _ (List.mem_of_getElem? (i := 5) rfl)) (by decide +kernel)
theorem kse_X11_copy : Cond.selects (yX11_copy).cls yX11_copy yX11_copy ∈ kTb := kTb_of (kch_9 _ (List.mem_of_getElem? (i := 6) rfl)) (by decide +kernel)
theorem kl_X11_countRows : kLk yX11_countRows cX11_countRows 3 (some .int) [] 1 := ⟨kTb_of (kch_6 _ (List.mem_of_getElem? (i := 50) rfl)) (by decide +kernel), kz_SearchCluster, by decide +kernel, by decide +kernel, by decide⟩
theorem kst_X11_countRows : Cond.static yX11_countRows ∈ kTb := kTb_of (kch_6 _ (List.mem_of_getElem? (i := 49) rfl)) (by decide +kernel)
theorem kl_X11_deliver : kLk yX11_deliver cX11_deliver 3 (some .int) [] 2 := ⟨kTb_of (kch_7 _ (List.mem_of_getElem? (i := 67) rfl)) (by decide +kernel), kz_SearchCluster, by decide +kernel, by decide +kernel, by decide⟩
theorem ki_X11_deliver : Cond.instanceMethod yX11_deliver ∈ kTb := kTb_of (kch_7 _ (List.mem_of_getElem? (i := 65) rfl)) (by decide +kernel)
theorem kse_X11_deliver : Cond.selects (yX11_deliver).cls yX11_deliver yX11_deliver ∈ kTb := kTb_of (kch_7 _ (List.mem_of_getElem? (i := 66) rfl)) (by decide +kernel)
theorem kl_X11_disk : kLk yX11_disk cX11_disk 6 (some .int) [] 4 := ⟨kTb_of (kch_9 _ (List.mem_of_getElem? (i := 66) rfl)) (by decide +kernel), kz_SearchCluster, by decide +kernel, by decide +kernel, by decide⟩
theorem ki_X11_disk : Cond.instanceMethod yX11_disk ∈ kTb := kTb_of (kch_9 _ (List.mem_of_getElem? (i := 64) rfl)) (by decide +kernel)
theorem kse_X11_disk : Cond.selects (yX11_disk).cls yX11_disk yX11_disk ∈ kTb := kTb_of (kch_9 _ (List.mem_of_getElem? (i := 65) rfl)) (by decide +kernel)
theorem kl_X11_document : kLk yX11_document cX11_document 5 (some .int) [] 3 := ⟨kTb_of (kch_9 _ (List.mem_of_getElem? (i := 45) rfl)) (by decide +kernel), kz_SearchCluster, by decide +kernel, by decide +kernel, by decide⟩
theorem ki_X11_document : Cond.instanceMethod yX11_document ∈ kTb := kTb_of (kch_9 _ (List.mem_of_getElem? (i := 43) rfl)) (by decide +kernel)
theorem kse_X11_document : Cond.selects (yX11_document).cls yX11_document yX11_document ∈ kTb := kTb_of (kch_9 _ (List.mem_of_getElem? (i := 44) rfl)) (by decide +kernel)
theorem kl_X11_down : kLk yX11_down cX11_down 2 (some .int) [] 1 := ⟨kTb_of (kch_8 _ (List.mem_of_getElem? (i := 162) rfl)) (by decide +kernel), kz_SearchCluster, by decide +kernel, by decide +kernel, by decide⟩
theorem ki_X11_down : Cond.instanceMethod yX11_down ∈ kTb := kTb_of (kch_8 _ (List.mem_of_getElem? (i := 160) rfl)) (by decide +kernel)
theorem kse_X11_down : Cond.selects (yX11_down).cls yX11_down yX11_down ∈ kTb := kTb_of (kch_8 _ (List.mem_of_getElem? (i := 161) rfl)) (by decide +kernel)
theorem kl_X11_draft : kLk yX11_draft cX11_draft 5 (some .int) [] 2 := ⟨kTb_of (kch_5 _ (List.mem_of_getElem? (i := 223) rfl)) (by decide +kernel), kz_SearchCluster, by decide +kernel, by decide +kernel, by decide⟩
theorem ki_X11_draft : Cond.instanceMethod yX11_draft ∈ kTb := kTb_of (kch_5 _ (List.mem_of_getElem? (i := 221) rfl)) (by decide +kernel)
theorem kse_X11_draft : Cond.selects (yX11_draft).cls yX11_draft yX11_draft ∈ kTb := kTb_of (kch_5 _ (List.mem_of_getElem? (i := 222) rfl)) (by decide +kernel)
theorem kl_X11_draftIsText : kLk yX11_draftIsText cX11_draftIsText 2 (some .boolean) [] 0 := ⟨kTb_of (kch_6 _ (List.mem_of_getElem? (i := 19) rfl)) (by decide +kernel), kz_SearchCluster, by decide +kernel, by decide +kernel, by decide⟩
theorem ki_X11_draftIsText : Cond.instanceMethod yX11_draftIsText ∈ kTb := kTb_of (kch_6 _ (List.mem_of_getElem? (i := 18) rfl)) (by decide +kernel)
theorem kse_X11_draftIsText : Cond.selects (yX11_draftIsText).cls yX11_draftIsText yX11_draftIsText ∈ kTb := kTb_of (kcs_3 _ (List.mem_of_getElem? (i := 3) rfl)) (by decide +kernel)
theorem kl_X11_drop : kLk yX11_drop cX11_drop 3 (some .int) [] 2 := ⟨kTb_of (kch_6 _ (List.mem_of_getElem? (i := 177) rfl)) (by decide +kernel), kz_SearchCluster, by decide +kernel, by decide +kernel, by decide⟩
theorem ki_X11_drop : Cond.instanceMethod yX11_drop ∈ kTb := kTb_of (kch_6 _ (List.mem_of_getElem? (i := 175) rfl)) (by decide +kernel)
theorem kse_X11_drop : Cond.selects (yX11_drop).cls yX11_drop yX11_drop ∈ kTb := kTb_of (kch_6 _ (List.mem_of_getElem? (i := 176) rfl)) (by decide +kernel)
theorem kl_X11_endsWith : kLk yX11_endsWith cX11_endsWith 5 (some .boolean) [] 5 := ⟨kTb_of (kch_6 _ (List.mem_of_getElem? (i := 81) rfl)) (by decide +kernel), kz_SearchCluster, by decide +kernel, by decide +kernel, by decide⟩
theorem kst_X11_endsWith : Cond.static yX11_endsWith ∈ kTb := kTb_of (kch_6 _ (List.mem_of_getElem? (i := 80) rfl)) (by decide +kernel)
theorem kl_X11_fail : kLk yX11_fail cX11_fail 4 none [] 3 := ⟨kTb_of (kch_8 _ (List.mem_of_getElem? (i := 239) rfl)) (by decide +kernel), kz_SearchCluster, by decide +kernel, by decide +kernel, by decide⟩
theorem ki_X11_fail : Cond.instanceMethod yX11_fail ∈ kTb := kTb_of (kch_8 _ (List.mem_of_getElem? (i := 237) rfl)) (by decide +kernel)
theorem kse_X11_fail : Cond.selects (yX11_fail).cls yX11_fail yX11_fail ∈ kTb := kTb_of (kch_8 _ (List.mem_of_getElem? (i := 238) rfl)) (by decide +kernel)
theorem kl_X11_fall : kLk yX11_fall cX11_fall 5 (some .int) [] 1 := ⟨kTb_of (kch_5 _ (List.mem_of_getElem? (i := 203) rfl)) (by decide +kernel), kz_SearchCluster, by decide +kernel, by decide +kernel, by decide⟩
theorem ki_X11_fall : Cond.instanceMethod yX11_fall ∈ kTb := kTb_of (kch_5 _ (List.mem_of_getElem? (i := 202) rfl)) (by decide +kernel)
theorem kse_X11_fall : Cond.selects (yX11_fall).cls yX11_fall yX11_fall ∈ kTb := kTb_of (kcs_3 _ (List.mem_of_getElem? (i := 0) rfl)) (by decide +kernel)
theorem kl_X11_figureOf : kLk yX11_figureOf cX11_figureOf 1 (some .int) [] 1 := ⟨kTb_of (kch_6 _ (List.mem_of_getElem? (i := 78) rfl)) (by decide +kernel), kz_SearchCluster, by decide +kernel, by decide +kernel, by decide⟩
theorem kst_X11_figureOf : Cond.static yX11_figureOf ∈ kTb := kTb_of (kch_6 _ (List.mem_of_getElem? (i := 77) rfl)) (by decide +kernel)
theorem kl_X11_find : kLk yX11_find cX11_find 5 (some .int) [] 2 := ⟨kTb_of (kch_6 _ (List.mem_of_getElem? (i := 197) rfl)) (by decide +kernel), kz_SearchCluster, by decide +kernel, by decide +kernel, by decide⟩
theorem ki_X11_find : Cond.instanceMethod yX11_find ∈ kTb := kTb_of (kch_6 _ (List.mem_of_getElem? (i := 195) rfl)) (by decide +kernel)
theorem kse_X11_find : Cond.selects (yX11_find).cls yX11_find yX11_find ∈ kTb := kTb_of (kch_6 _ (List.mem_of_getElem? (i := 196) rfl)) (by decide +kernel)
theorem kl_X11_hit : kLk yX11_hit cX11_hit 5 (some .int) [] 3 := ⟨kTb_of (kch_7 _ (List.mem_of_getElem? (i := 34) rfl)) (by decide +kernel), kz_SearchCluster, by decide +kernel, by decide +kernel, by decide⟩
theorem ki_X11_hit : Cond.instanceMethod yX11_hit ∈ kTb := kTb_of (kch_7 _ (List.mem_of_getElem? (i := 32) rfl)) (by decide +kernel)
theorem kse_X11_hit : Cond.selects (yX11_hit).cls yX11_hit yX11_hit ∈ kTb := kTb_of (kch_7 _ (List.mem_of_getElem? (i := 33) rfl)) (by decide +kernel)
theorem kl_X11_isLittle : kLk yX11_isLittle cX11_isLittle 5 (some .boolean) [] 3 := ⟨kTb_of (kch_6 _ (List.mem_of_getElem? (i := 84) rfl)) (by decide +kernel), kz_SearchCluster, by decide +kernel, by decide +kernel, by decide⟩
theorem kst_X11_isLittle : Cond.static yX11_isLittle ∈ kTb := kTb_of (kch_6 _ (List.mem_of_getElem? (i := 83) rfl)) (by decide +kernel)
theorem kl_X11_isRowOctet : kLk yX11_isRowOctet cX11_isRowOctet 1 (some .boolean) [] 1 := ⟨kTb_of (kch_6 _ (List.mem_of_getElem? (i := 56) rfl)) (by decide +kernel), kz_SearchCluster, by decide +kernel, by decide +kernel, by decide⟩
theorem kst_X11_isRowOctet : Cond.static yX11_isRowOctet ∈ kTb := kTb_of (kch_6 _ (List.mem_of_getElem? (i := 55) rfl)) (by decide +kernel)
theorem kl_X11_lettersAlone : kLk yX11_lettersAlone cX11_lettersAlone 4 (some .boolean) [] 3 := ⟨kTb_of (kch_6 _ (List.mem_of_getElem? (i := 68) rfl)) (by decide +kernel), kz_SearchCluster, by decide +kernel, by decide +kernel, by decide⟩
theorem kst_X11_lettersAlone : Cond.static yX11_lettersAlone ∈ kTb := kTb_of (kch_6 _ (List.mem_of_getElem? (i := 67) rfl)) (by decide +kernel)
theorem kl_X11_link : kLk yX11_link cX11_link 3 (some .int) [] 2 := ⟨kTb_of (kch_7 _ (List.mem_of_getElem? (i := 42) rfl)) (by decide +kernel), kz_SearchCluster, by decide +kernel, by decide +kernel, by decide⟩
theorem ki_X11_link : Cond.instanceMethod yX11_link ∈ kTb := kTb_of (kch_7 _ (List.mem_of_getElem? (i := 40) rfl)) (by decide +kernel)
theorem kse_X11_link : Cond.selects (yX11_link).cls yX11_link yX11_link ∈ kTb := kTb_of (kch_7 _ (List.mem_of_getElem? (i := 41) rfl)) (by decide +kernel)
theorem kl_X11_lose : kLk yX11_lose cX11_lose 4 (some .int) [] 2 := ⟨kTb_of (kch_8 _ (List.mem_of_getElem? (i := 136) rfl)) (by decide +kernel), kz_SearchCluster, by decide +kernel, by decide +kernel, by decide⟩
theorem ki_X11_lose : Cond.instanceMethod yX11_lose ∈ kTb := kTb_of (kch_8 _ (List.mem_of_getElem? (i := 134) rfl)) (by decide +kernel)
theorem kse_X11_lose : Cond.selects (yX11_lose).cls yX11_lose yX11_lose ∈ kTb := kTb_of (kch_8 _ (List.mem_of_getElem? (i := 135) rfl)) (by decide +kernel)
theorem kl_X11_make : kLk yX11_make cX11_make 4 (some .int) [] 3 := ⟨kTb_of (kch_5 _ (List.mem_of_getElem? (i := 213) rfl)) (by decide +kernel), kz_SearchCluster, by decide +kernel, by decide +kernel, by decide⟩
theorem ki_X11_make : Cond.instanceMethod yX11_make ∈ kTb := kTb_of (kch_5 _ (List.mem_of_getElem? (i := 211) rfl)) (by decide +kernel)
theorem kse_X11_make : Cond.selects (yX11_make).cls yX11_make yX11_make ∈ kTb := kTb_of (kch_5 _ (List.mem_of_getElem? (i := 212) rfl)) (by decide +kernel)
theorem kl_X11_message : kLk yX11_message cX11_message 6 (some .int) [] 4 := ⟨kTb_of (kch_7 _ (List.mem_of_getElem? (i := 55) rfl)) (by decide +kernel), kz_SearchCluster, by decide +kernel, by decide +kernel, by decide⟩
theorem ki_X11_message : Cond.instanceMethod yX11_message ∈ kTb := kTb_of (kch_7 _ (List.mem_of_getElem? (i := 53) rfl)) (by decide +kernel)
theorem kse_X11_message : Cond.selects (yX11_message).cls yX11_message yX11_message ∈ kTb := kTb_of (kch_7 _ (List.mem_of_getElem? (i := 54) rfl)) (by decide +kernel)
theorem kl_X11_octet : kLk yX11_octet cX11_octet 6 (some .int) [] 4 := ⟨kTb_of (kch_9 _ (List.mem_of_getElem? (i := 129) rfl)) (by decide +kernel), kz_SearchCluster, by decide +kernel, by decide +kernel, by decide⟩
theorem ki_X11_octet : Cond.instanceMethod yX11_octet ∈ kTb := kTb_of (kch_9 _ (List.mem_of_getElem? (i := 127) rfl)) (by decide +kernel)
theorem kse_X11_octet : Cond.selects (yX11_octet).cls yX11_octet yX11_octet ∈ kTb := kTb_of (kch_9 _ (List.mem_of_getElem? (i := 128) rfl)) (by decide +kernel)
theorem kl_X11_other : kLk yX11_other cX11_other 6 (some .int) [] 4 := ⟨kTb_of (kch_9 _ (List.mem_of_getElem? (i := 28) rfl)) (by decide +kernel), kz_SearchCluster, by decide +kernel, by decide +kernel, by decide⟩
theorem ki_X11_other : Cond.instanceMethod yX11_other ∈ kTb := kTb_of (kch_9 _ (List.mem_of_getElem? (i := 26) rfl)) (by decide +kernel)
theorem kse_X11_other : Cond.selects (yX11_other).cls yX11_other yX11_other ∈ kTb := kTb_of (kch_9 _ (List.mem_of_getElem? (i := 27) rfl)) (by decide +kernel)
theorem kl_X11_packed : kLk yX11_packed cX11_packed 8 (some .long) [] 4 := ⟨kTb_of (kch_6 _ (List.mem_of_getElem? (i := 71) rfl)) (by decide +kernel), kz_SearchCluster, by decide +kernel, by decide +kernel, by decide⟩
theorem kst_X11_packed : Cond.static yX11_packed ∈ kTb := kTb_of (kch_6 _ (List.mem_of_getElem? (i := 70) rfl)) (by decide +kernel)
theorem kl_X11_pass : kLk yX11_pass cX11_pass 6 (some .int) [(54, 436, 439, 199)] 2 := ⟨kTb_of (kch_7 _ (List.mem_of_getElem? (i := 71) rfl)) (by decide +kernel), kz_SearchCluster, by decide +kernel, by decide +kernel, by decide⟩
theorem ki_X11_pass : Cond.instanceMethod yX11_pass ∈ kTb := kTb_of (kch_7 _ (List.mem_of_getElem? (i := 70) rfl)) (by decide +kernel)
theorem kse_X11_pass : Cond.selects (yX11_pass).cls yX11_pass yX11_pass ∈ kTb := kTb_of (kcs_3 _ (List.mem_of_getElem? (i := 14) rfl)) (by decide +kernel)
theorem kl_X11_pulse : kLk yX11_pulse cX11_pulse 4 none [(133, 140, 143, 199)] 0 := ⟨kTb_of (kch_5 _ (List.mem_of_getElem? (i := 65) rfl)) (by decide +kernel), kz_SearchCluster, by decide +kernel, by decide +kernel, by decide⟩
theorem ki_X11_pulse : Cond.instanceMethod yX11_pulse ∈ kTb := kTb_of (kch_5 _ (List.mem_of_getElem? (i := 64) rfl)) (by decide +kernel)
theorem kse_X11_pulse : Cond.selects (yX11_pulse).cls yX11_pulse yX11_pulse ∈ kTb := kTb_of (kcs_2 _ (List.mem_of_getElem? (i := 0) rfl)) (by decide +kernel)
theorem kl_X11_put : kLk yX11_put cX11_put 4 (some .int) [] 2 := ⟨kTb_of (kch_5 _ (List.mem_of_getElem? (i := 233) rfl)) (by decide +kernel), kz_SearchCluster, by decide +kernel, by decide +kernel, by decide⟩
theorem ki_X11_put : Cond.instanceMethod yX11_put ∈ kTb := kTb_of (kch_5 _ (List.mem_of_getElem? (i := 231) rfl)) (by decide +kernel)
theorem kse_X11_put : Cond.selects (yX11_put).cls yX11_put yX11_put ∈ kTb := kTb_of (kch_5 _ (List.mem_of_getElem? (i := 232) rfl)) (by decide +kernel)
theorem kl_X11_rank : kLk yX11_rank cX11_rank 9 (some .int) [] 6 := ⟨kTb_of (kch_8 _ (List.mem_of_getElem? (i := 87) rfl)) (by decide +kernel), kz_SearchCluster, by decide +kernel, by decide +kernel, by decide⟩
theorem kst_X11_rank : Cond.static yX11_rank ∈ kTb := kTb_of (kch_8 _ (List.mem_of_getElem? (i := 86) rfl)) (by decide +kernel)
theorem kl_X11_refresh : kLk yX11_refresh cX11_refresh 3 (some .int) [] 2 := ⟨kTb_of (kch_6 _ (List.mem_of_getElem? (i := 185) rfl)) (by decide +kernel), kz_SearchCluster, by decide +kernel, by decide +kernel, by decide⟩
theorem ki_X11_refresh : Cond.instanceMethod yX11_refresh ∈ kTb := kTb_of (kch_6 _ (List.mem_of_getElem? (i := 183) rfl)) (by decide +kernel)
theorem kse_X11_refresh : Cond.selects (yX11_refresh).cls yX11_refresh yX11_refresh ∈ kTb := kTb_of (kch_6 _ (List.mem_of_getElem? (i := 184) rfl)) (by decide +kernel)
theorem kl_X11_replicaFor : kLk yX11_replicaFor cX11_replicaFor 4 (some (.object "SearchCluster$Replica")) [] 2 := ⟨kTb_of (kch_7 _ (List.mem_of_getElem? (i := 80) rfl)) (by decide +kernel), kz_SearchCluster, by decide +kernel, by decide +kernel, by decide⟩
theorem ki_X11_replicaFor : Cond.instanceMethod yX11_replicaFor ∈ kTb := kTb_of (kch_7 _ (List.mem_of_getElem? (i := 79) rfl)) (by decide +kernel)
theorem kse_X11_replicaFor : Cond.selects (yX11_replicaFor).cls yX11_replicaFor yX11_replicaFor ∈ kTb := kTb_of (kcs_3 _ (List.mem_of_getElem? (i := 15) rfl)) (by decide +kernel)
theorem kl_X11_request : kLk yX11_request cX11_request 4 (some .int) [] 2 := ⟨kTb_of (kch_7 _ (List.mem_of_getElem? (i := 22) rfl)) (by decide +kernel), kz_SearchCluster, by decide +kernel, by decide +kernel, by decide⟩
theorem ki_X11_request : Cond.instanceMethod yX11_request ∈ kTb := kTb_of (kch_7 _ (List.mem_of_getElem? (i := 20) rfl)) (by decide +kernel)
theorem kse_X11_request : Cond.selects (yX11_request).cls yX11_request yX11_request ∈ kTb := kTb_of (kch_7 _ (List.mem_of_getElem? (i := 21) rfl)) (by decide +kernel)
theorem kl_X11_requireDocument : kLk yX11_requireDocument cX11_requireDocument 2 none [] 1 := ⟨kTb_of (kch_6 _ (List.mem_of_getElem? (i := 14) rfl)) (by decide +kernel), kz_SearchCluster, by decide +kernel, by decide +kernel, by decide⟩
theorem ki_X11_requireDocument : Cond.instanceMethod yX11_requireDocument ∈ kTb := kTb_of (kch_6 _ (List.mem_of_getElem? (i := 13) rfl)) (by decide +kernel)
theorem kse_X11_requireDocument : Cond.selects (yX11_requireDocument).cls yX11_requireDocument yX11_requireDocument ∈ kTb := kTb_of (kcs_3 _ (List.mem_of_getElem? (i := 2) rfl)) (by decide +kernel)
theorem kl_X11_requireHost : kLk yX11_requireHost cX11_requireHost 2 none [] 1 := ⟨kTb_of (kch_5 _ (List.mem_of_getElem? (i := 237) rfl)) (by decide +kernel), kz_SearchCluster, by decide +kernel, by decide +kernel, by decide⟩
theorem ki_X11_requireHost : Cond.instanceMethod yX11_requireHost ∈ kTb := kTb_of (kch_5 _ (List.mem_of_getElem? (i := 236) rfl)) (by decide +kernel)
theorem kse_X11_requireHost : Cond.selects (yX11_requireHost).cls yX11_requireHost yX11_requireHost ∈ kTb := kTb_of (kcs_3 _ (List.mem_of_getElem? (i := 1) rfl)) (by decide +kernel)
theorem kl_X11_requireLink : kLk yX11_requireLink cX11_requireLink 3 none [] 2 := ⟨kTb_of (kch_7 _ (List.mem_of_getElem? (i := 46) rfl)) (by decide +kernel), kz_SearchCluster, by decide +kernel, by decide +kernel, by decide⟩
theorem ki_X11_requireLink : Cond.instanceMethod yX11_requireLink ∈ kTb := kTb_of (kch_7 _ (List.mem_of_getElem? (i := 45) rfl)) (by decide +kernel)
theorem kse_X11_requireLink : Cond.selects (yX11_requireLink).cls yX11_requireLink yX11_requireLink ∈ kTb := kTb_of (kcs_3 _ (List.mem_of_getElem? (i := 13) rfl)) (by decide +kernel)
theorem kl_X11_requireNode : kLk yX11_requireNode cX11_requireNode 2 none [] 1 := ⟨kTb_of (kch_8 _ (List.mem_of_getElem? (i := 155) rfl)) (by decide +kernel), kz_SearchCluster, by decide +kernel, by decide +kernel, by decide⟩
theorem ki_X11_requireNode : Cond.instanceMethod yX11_requireNode ∈ kTb := kTb_of (kch_8 _ (List.mem_of_getElem? (i := 154) rfl)) (by decide +kernel)
theorem kse_X11_requireNode : Cond.selects (yX11_requireNode).cls yX11_requireNode yX11_requireNode ∈ kTb := kTb_of (kcs_5 _ (List.mem_of_getElem? (i := 9) rfl)) (by decide +kernel)
theorem kl_X11_requireReady : kLk yX11_requireReady cX11_requireReady 2 none [] 1 := ⟨kTb_of (kch_6 _ (List.mem_of_getElem? (i := 24) rfl)) (by decide +kernel), kz_SearchCluster, by decide +kernel, by decide +kernel, by decide⟩
theorem ki_X11_requireReady : Cond.instanceMethod yX11_requireReady ∈ kTb := kTb_of (kch_6 _ (List.mem_of_getElem? (i := 23) rfl)) (by decide +kernel)
theorem kse_X11_requireReady : Cond.selects (yX11_requireReady).cls yX11_requireReady yX11_requireReady ∈ kTb := kTb_of (kcs_3 _ (List.mem_of_getElem? (i := 4) rfl)) (by decide +kernel)
theorem kl_X11_requireReplica : kLk yX11_requireReplica cX11_requireReplica 4 (some (.object "SearchCluster$Replica")) [] 2 := ⟨kTb_of (kch_9 _ (List.mem_of_getElem? (i := 11) rfl)) (by decide +kernel), kz_SearchCluster, by decide +kernel, by decide +kernel, by decide⟩
theorem ki_X11_requireReplica : Cond.instanceMethod yX11_requireReplica ∈ kTb := kTb_of (kch_9 _ (List.mem_of_getElem? (i := 10) rfl)) (by decide +kernel)
theorem kse_X11_requireReplica : Cond.selects (yX11_requireReplica).cls yX11_requireReplica yX11_requireReplica ∈ kTb := kTb_of (kcs_6 _ (List.mem_of_getElem? (i := 0) rfl)) (by decide +kernel)
theorem kl_X11_requireSegment : kLk yX11_requireSegment cX11_requireSegment 5 (some (.object "SearchCluster$Index")) [] 3 := ⟨kTb_of (kch_9 _ (List.mem_of_getElem? (i := 78) rfl)) (by decide +kernel), kz_SearchCluster, by decide +kernel, by decide +kernel, by decide⟩
theorem ki_X11_requireSegment : Cond.instanceMethod yX11_requireSegment ∈ kTb := kTb_of (kch_9 _ (List.mem_of_getElem? (i := 77) rfl)) (by decide +kernel)
theorem kse_X11_requireSegment : Cond.selects (yX11_requireSegment).cls yX11_requireSegment yX11_requireSegment ∈ kTb := kTb_of (kcs_6 _ (List.mem_of_getElem? (i := 2) rfl)) (by decide +kernel)
theorem kl_X11_requireShard : kLk yX11_requireShard cX11_requireShard 2 none [] 1 := ⟨kTb_of (kch_6 _ (List.mem_of_getElem? (i := 189) rfl)) (by decide +kernel), kz_SearchCluster, by decide +kernel, by decide +kernel, by decide⟩
theorem ki_X11_requireShard : Cond.instanceMethod yX11_requireShard ∈ kTb := kTb_of (kch_6 _ (List.mem_of_getElem? (i := 188) rfl)) (by decide +kernel)
theorem kse_X11_requireShard : Cond.selects (yX11_requireShard).cls yX11_requireShard yX11_requireShard ∈ kTb := kTb_of (kcs_3 _ (List.mem_of_getElem? (i := 6) rfl)) (by decide +kernel)
theorem kl_X11_rowEnd : kLk yX11_rowEnd cX11_rowEnd 4 (some .int) [] 3 := ⟨kTb_of (kch_6 _ (List.mem_of_getElem? (i := 61) rfl)) (by decide +kernel), kz_SearchCluster, by decide +kernel, by decide +kernel, by decide⟩
theorem kst_X11_rowEnd : Cond.static yX11_rowEnd ∈ kTb := kTb_of (kch_6 _ (List.mem_of_getElem? (i := 60) rfl)) (by decide +kernel)
theorem kl_X11_rowsOf : kLk yX11_rowsOf cX11_rowsOf 5 (some (.array .long)) [] 1 := ⟨kTb_of (kch_6 _ (List.mem_of_getElem? (i := 47) rfl)) (by decide +kernel), kz_SearchCluster, by decide +kernel, by decide +kernel, by decide⟩
theorem kst_X11_rowsOf : Cond.static yX11_rowsOf ∈ kTb := kTb_of (kch_6 _ (List.mem_of_getElem? (i := 46) rfl)) (by decide +kernel)
theorem kl_X11_run : kLk yX11_run cX11_run 8 (some .int) [] 1 := ⟨kTb_of (kch_8 _ (List.mem_of_getElem? (i := 143) rfl)) (by decide +kernel), kz_SearchCluster, by decide +kernel, by decide +kernel, by decide⟩
theorem ki_X11_run : Cond.instanceMethod yX11_run ∈ kTb := kTb_of (kch_8 _ (List.mem_of_getElem? (i := 141) rfl)) (by decide +kernel)
theorem kse_X11_run : Cond.selects (yX11_run).cls yX11_run yX11_run ∈ kTb := kTb_of (kch_8 _ (List.mem_of_getElem? (i := 142) rfl)) (by decide +kernel)
theorem kl_X11_segment : kLk yX11_segment cX11_segment 6 (some .int) [] 4 := ⟨kTb_of (kch_9 _ (List.mem_of_getElem? (i := 74) rfl)) (by decide +kernel), kz_SearchCluster, by decide +kernel, by decide +kernel, by decide⟩
theorem ki_X11_segment : Cond.instanceMethod yX11_segment ∈ kTb := kTb_of (kch_9 _ (List.mem_of_getElem? (i := 72) rfl)) (by decide +kernel)
theorem kse_X11_segment : Cond.selects (yX11_segment).cls yX11_segment yX11_segment ∈ kTb := kTb_of (kch_9 _ (List.mem_of_getElem? (i := 73) rfl)) (by decide +kernel)
theorem kl_X11_small : kLk yX11_small cX11_small 1 (some .int) [] 1 := ⟨kTb_of (kch_6 _ (List.mem_of_getElem? (i := 74) rfl)) (by decide +kernel), kz_SearchCluster, by decide +kernel, by decide +kernel, by decide⟩
theorem kst_X11_small : Cond.static yX11_small ∈ kTb := kTb_of (kch_6 _ (List.mem_of_getElem? (i := 73) rfl)) (by decide +kernel)
theorem kl_X11_start : kLk yX11_start cX11_start 2 (some .boolean) [] 1 := ⟨kTb_of (kch_8 _ (List.mem_of_getElem? (i := 169) rfl)) (by decide +kernel), kz_SearchCluster, by decide +kernel, by decide +kernel, by decide⟩
theorem ki_X11_start : Cond.instanceMethod yX11_start ∈ kTb := kTb_of (kch_8 _ (List.mem_of_getElem? (i := 167) rfl)) (by decide +kernel)
theorem kse_X11_start : Cond.selects (yX11_start).cls yX11_start yX11_start ∈ kTb := kTb_of (kch_8 _ (List.mem_of_getElem? (i := 168) rfl)) (by decide +kernel)
theorem kl_X11_tick : kLk yX11_tick cX11_tick 1 (some .int) [] 0 := ⟨kTb_of (kch_5 _ (List.mem_of_getElem? (i := 61) rfl)) (by decide +kernel), kz_SearchCluster, by decide +kernel, by decide +kernel, by decide⟩
theorem ki_X11_tick : Cond.instanceMethod yX11_tick ∈ kTb := kTb_of (kch_5 _ (List.mem_of_getElem? (i := 59) rfl)) (by decide +kernel)
theorem kse_X11_tick : Cond.selects (yX11_tick).cls yX11_tick yX11_tick ∈ kTb := kTb_of (kch_5 _ (List.mem_of_getElem? (i := 60) rfl)) (by decide +kernel)
theorem kl_X11_told : kLk yX11_told cX11_told 2 (some .int) [] 1 := ⟨kTb_of (kch_9 _ (List.mem_of_getElem? (i := 136) rfl)) (by decide +kernel), kz_SearchCluster, by decide +kernel, by decide +kernel, by decide⟩
theorem ki_X11_told : Cond.instanceMethod yX11_told ∈ kTb := kTb_of (kch_9 _ (List.mem_of_getElem? (i := 134) rfl)) (by decide +kernel)
theorem kse_X11_told : Cond.selects (yX11_told).cls yX11_told yX11_told ∈ kTb := kTb_of (kch_9 _ (List.mem_of_getElem? (i := 135) rfl)) (by decide +kernel)
theorem kl_X11_up : kLk yX11_up cX11_up 2 (some .boolean) [] 1 := ⟨kTb_of (kch_8 _ (List.mem_of_getElem? (i := 151) rfl)) (by decide +kernel), kz_SearchCluster, by decide +kernel, by decide +kernel, by decide⟩
theorem ki_X11_up : Cond.instanceMethod yX11_up ∈ kTb := kTb_of (kch_8 _ (List.mem_of_getElem? (i := 149) rfl)) (by decide +kernel)
theorem kse_X11_up : Cond.selects (yX11_up).cls yX11_up yX11_up ∈ kTb := kTb_of (kch_8 _ (List.mem_of_getElem? (i := 150) rfl)) (by decide +kernel)
theorem kl_X11_view : kLk yX11_view cX11_view 5 (some .int) [] 3 := ⟨kTb_of (kch_9 _ (List.mem_of_getElem? (i := 37) rfl)) (by decide +kernel), kz_SearchCluster, by decide +kernel, by decide +kernel, by decide⟩
theorem ki_X11_view : Cond.instanceMethod yX11_view ∈ kTb := kTb_of (kch_9 _ (List.mem_of_getElem? (i := 35) rfl)) (by decide +kernel)
theorem kse_X11_view : Cond.selects (yX11_view).cls yX11_view yX11_view ∈ kTb := kTb_of (kch_9 _ (List.mem_of_getElem? (i := 36) rfl)) (by decide +kernel)
theorem kl_X11_wordOf : kLk yX11_wordOf cX11_wordOf 5 (some .long) [] 3 := ⟨kTb_of (kch_6 _ (List.mem_of_getElem? (i := 64) rfl)) (by decide +kernel), kz_SearchCluster, by decide +kernel, by decide +kernel, by decide⟩
theorem kst_X11_wordOf : Cond.static yX11_wordOf ∈ kTb := kTb_of (kch_6 _ (List.mem_of_getElem? (i := 63) rfl)) (by decide +kernel)
theorem kl_X0_init : kLk yX0_init cX0_init 2 none [] 1 := ⟨kTb_of (kch_1 _ (List.mem_of_getElem? (i := 216) rfl)) (by decide +kernel), kz_SearchCluster_Copy, by decide +kernel, by decide +kernel, by decide⟩
theorem ki_X0_init : Cond.instanceMethod yX0_init ∈ kTb := kTb_of (kch_1 _ (List.mem_of_getElem? (i := 215) rfl)) (by decide +kernel)
theorem kl_X0_actAt : kLk yX0_actAt cX0_actAt 2 (some .int) [] 1 := ⟨kTb_of (kch_3 _ (List.mem_of_getElem? (i := 53) rfl)) (by decide +kernel), kz_SearchCluster_Copy, by decide +kernel, by decide +kernel, by decide⟩
theorem ki_X0_actAt : Cond.instanceMethod yX0_actAt ∈ kTb := kTb_of (kch_3 _ (List.mem_of_getElem? (i := 51) rfl)) (by decide +kernel)
theorem kse_X0_actAt : Cond.selects (yX0_actAt).cls yX0_actAt yX0_actAt ∈ kTb := kTb_of (kch_3 _ (List.mem_of_getElem? (i := 52) rfl)) (by decide +kernel)
theorem kl_X0_addAct : kLk yX0_addAct cX0_addAct 4 none [] 3 := ⟨kTb_of (kch_3 _ (List.mem_of_getElem? (i := 97) rfl)) (by decide +kernel), kz_SearchCluster_Copy, by decide +kernel, by decide +kernel, by decide⟩
theorem ki_X0_addAct : Cond.instanceMethod yX0_addAct ∈ kTb := kTb_of (kch_3 _ (List.mem_of_getElem? (i := 96) rfl)) (by decide +kernel)
theorem kse_X0_addAct : Cond.selects (yX0_addAct).cls yX0_addAct yX0_addAct ∈ kTb := kTb_of (kcs_1 _ (List.mem_of_getElem? (i := 8) rfl)) (by decide +kernel)
theorem kl_X0_addDocument : kLk yX0_addDocument cX0_addDocument 3 none [] 1 := ⟨kTb_of (kch_3 _ (List.mem_of_getElem? (i := 85) rfl)) (by decide +kernel), kz_SearchCluster_Copy, by decide +kernel, by decide +kernel, by decide⟩
theorem ki_X0_addDocument : Cond.instanceMethod yX0_addDocument ∈ kTb := kTb_of (kch_3 _ (List.mem_of_getElem? (i := 84) rfl)) (by decide +kernel)
theorem kse_X0_addDocument : Cond.selects (yX0_addDocument).cls yX0_addDocument yX0_addDocument ∈ kTb := kTb_of (kcs_1 _ (List.mem_of_getElem? (i := 6) rfl)) (by decide +kernel)
theorem kl_X0_addShown : kLk yX0_addShown cX0_addShown 2 none [] 1 := ⟨kTb_of (kch_3 _ (List.mem_of_getElem? (i := 93) rfl)) (by decide +kernel), kz_SearchCluster_Copy, by decide +kernel, by decide +kernel, by decide⟩
theorem ki_X0_addShown : Cond.instanceMethod yX0_addShown ∈ kTb := kTb_of (kch_3 _ (List.mem_of_getElem? (i := 92) rfl)) (by decide +kernel)
theorem kse_X0_addShown : Cond.selects (yX0_addShown).cls yX0_addShown yX0_addShown ∈ kTb := kTb_of (kcs_1 _ (List.mem_of_getElem? (i := 7) rfl)) (by decide +kernel)
theorem kl_X0_append : kLk yX0_append cX0_append 4 none [] 2 := ⟨kTb_of (kch_7 _ (List.mem_of_getElem? (i := 106) rfl)) (by decide +kernel), kz_SearchCluster_Copy, by decide +kernel, by decide +kernel, by decide⟩
theorem ki_X0_append : Cond.instanceMethod yX0_append ∈ kTb := kTb_of (kch_7 _ (List.mem_of_getElem? (i := 104) rfl)) (by decide +kernel)
theorem kse_X0_append : Cond.selects (yX0_append).cls yX0_append yX0_append ∈ kTb := kTb_of (kch_7 _ (List.mem_of_getElem? (i := 105) rfl)) (by decide +kernel)
theorem kl_X0_begin : kLk yX0_begin cX0_begin 3 none [] 2 := ⟨kTb_of (kch_3 _ (List.mem_of_getElem? (i := 14) rfl)) (by decide +kernel), kz_SearchCluster_Copy, by decide +kernel, by decide +kernel, by decide⟩
theorem ki_X0_begin : Cond.instanceMethod yX0_begin ∈ kTb := kTb_of (kch_3 _ (List.mem_of_getElem? (i := 12) rfl)) (by decide +kernel)
theorem kse_X0_begin : Cond.selects (yX0_begin).cls yX0_begin yX0_begin ∈ kTb := kTb_of (kch_3 _ (List.mem_of_getElem? (i := 13) rfl)) (by decide +kernel)
theorem kl_X0_clear : kLk yX0_clear cX0_clear 1 none [] 0 := ⟨kTb_of (kch_3 _ (List.mem_of_getElem? (i := 18) rfl)) (by decide +kernel), kz_SearchCluster_Copy, by decide +kernel, by decide +kernel, by decide⟩
theorem ki_X0_clear : Cond.instanceMethod yX0_clear ∈ kTb := kTb_of (kch_3 _ (List.mem_of_getElem? (i := 17) rfl)) (by decide +kernel)
theorem kse_X0_clear : Cond.selects (yX0_clear).cls yX0_clear yX0_clear ∈ kTb := kTb_of (kcs_1 _ (List.mem_of_getElem? (i := 1) rfl)) (by decide +kernel)
theorem kl_X0_countDocuments : kLk yX0_countDocuments cX0_countDocuments 3 (some .int) [] 0 := ⟨kTb_of (kch_9 _ (List.mem_of_getElem? (i := 21) rfl)) (by decide +kernel), kz_SearchCluster_Copy, by decide +kernel, by decide +kernel, by decide⟩
theorem ki_X0_countDocuments : Cond.instanceMethod yX0_countDocuments ∈ kTb := kTb_of (kch_9 _ (List.mem_of_getElem? (i := 20) rfl)) (by decide +kernel)
theorem kse_X0_countDocuments : Cond.selects (yX0_countDocuments).cls yX0_countDocuments yX0_countDocuments ∈ kTb := kTb_of (kcs_6 _ (List.mem_of_getElem? (i := 1) rfl)) (by decide +kernel)
theorem kl_X0_cutTo : kLk yX0_cutTo cX0_cutTo 3 none [] 2 := ⟨kTb_of (kch_7 _ (List.mem_of_getElem? (i := 170) rfl)) (by decide +kernel), kz_SearchCluster_Copy, by decide +kernel, by decide +kernel, by decide⟩
theorem ki_X0_cutTo : Cond.instanceMethod yX0_cutTo ∈ kTb := kTb_of (kch_7 _ (List.mem_of_getElem? (i := 168) rfl)) (by decide +kernel)
theorem kse_X0_cutTo : Cond.selects (yX0_cutTo).cls yX0_cutTo yX0_cutTo ∈ kTb := kTb_of (kch_7 _ (List.mem_of_getElem? (i := 169) rfl)) (by decide +kernel)
theorem kl_X0_documentsAt : kLk yX0_documentsAt cX0_documentsAt 5 none [] 2 := ⟨kTb_of (kch_3 _ (List.mem_of_getElem? (i := 46) rfl)) (by decide +kernel), kz_SearchCluster_Copy, by decide +kernel, by decide +kernel, by decide⟩
theorem ki_X0_documentsAt : Cond.instanceMethod yX0_documentsAt ∈ kTb := kTb_of (kch_3 _ (List.mem_of_getElem? (i := 45) rfl)) (by decide +kernel)
theorem kse_X0_documentsAt : Cond.selects (yX0_documentsAt).cls yX0_documentsAt yX0_documentsAt ∈ kTb := kTb_of (kcs_1 _ (List.mem_of_getElem? (i := 4) rfl)) (by decide +kernel)
theorem kl_X0_flush : kLk yX0_flush cX0_flush 2 none [] 0 := ⟨kTb_of (kch_3 _ (List.mem_of_getElem? (i := 42) rfl)) (by decide +kernel), kz_SearchCluster_Copy, by decide +kernel, by decide +kernel, by decide⟩
theorem ki_X0_flush : Cond.instanceMethod yX0_flush ∈ kTb := kTb_of (kch_3 _ (List.mem_of_getElem? (i := 41) rfl)) (by decide +kernel)
theorem kse_X0_flush : Cond.selects (yX0_flush).cls yX0_flush yX0_flush ∈ kTb := kTb_of (kcs_1 _ (List.mem_of_getElem? (i := 3) rfl)) (by decide +kernel)
theorem kl_X0_follow : kLk yX0_follow cX0_follow 7 none [] 1 := ⟨kTb_of (kch_7 _ (List.mem_of_getElem? (i := 154) rfl)) (by decide +kernel), kz_SearchCluster_Copy, by decide +kernel, by decide +kernel, by decide⟩
theorem ki_X0_follow : Cond.instanceMethod yX0_follow ∈ kTb := kTb_of (kch_7 _ (List.mem_of_getElem? (i := 152) rfl)) (by decide +kernel)
theorem kse_X0_follow : Cond.selects (yX0_follow).cls yX0_follow yX0_follow ∈ kTb := kTb_of (kch_7 _ (List.mem_of_getElem? (i := 153) rfl)) (by decide +kernel)
theorem kl_X0_likeUpTo : kLk yX0_likeUpTo cX0_likeUpTo 3 (some .int) [] 1 := ⟨kTb_of (kch_7 _ (List.mem_of_getElem? (i := 158) rfl)) (by decide +kernel), kz_SearchCluster_Copy, by decide +kernel, by decide +kernel, by decide⟩
theorem ki_X0_likeUpTo : Cond.instanceMethod yX0_likeUpTo ∈ kTb := kTb_of (kch_7 _ (List.mem_of_getElem? (i := 157) rfl)) (by decide +kernel)
theorem kse_X0_likeUpTo : Cond.selects (yX0_likeUpTo).cls yX0_likeUpTo yX0_likeUpTo ∈ kTb := kTb_of (kcs_4 _ (List.mem_of_getElem? (i := 5) rfl)) (by decide +kernel)
theorem kl_X0_load : kLk yX0_load cX0_load 3 none [] 0 := ⟨kTb_of (kch_8 _ (List.mem_of_getElem? (i := 215) rfl)) (by decide +kernel), kz_SearchCluster_Copy, by decide +kernel, by decide +kernel, by decide⟩
theorem ki_X0_load : Cond.instanceMethod yX0_load ∈ kTb := kTb_of (kch_8 _ (List.mem_of_getElem? (i := 213) rfl)) (by decide +kernel)
theorem kse_X0_load : Cond.selects (yX0_load).cls yX0_load yX0_load ∈ kTb := kTb_of (kch_8 _ (List.mem_of_getElem? (i := 214) rfl)) (by decide +kernel)
theorem kl_X0_markDone : kLk yX0_markDone cX0_markDone 3 none [] 0 := ⟨kTb_of (kch_3 _ (List.mem_of_getElem? (i := 61) rfl)) (by decide +kernel), kz_SearchCluster_Copy, by decide +kernel, by decide +kernel, by decide⟩
theorem ki_X0_markDone : Cond.instanceMethod yX0_markDone ∈ kTb := kTb_of (kch_3 _ (List.mem_of_getElem? (i := 60) rfl)) (by decide +kernel)
theorem kse_X0_markDone : Cond.selects (yX0_markDone).cls yX0_markDone yX0_markDone ∈ kTb := kTb_of (kcs_1 _ (List.mem_of_getElem? (i := 5) rfl)) (by decide +kernel)
theorem kl_X0_numberOf : kLk yX0_numberOf cX0_numberOf 3 (some .int) [] 1 := ⟨kTb_of (kch_7 _ (List.mem_of_getElem? (i := 102) rfl)) (by decide +kernel), kz_SearchCluster_Copy, by decide +kernel, by decide +kernel, by decide⟩
theorem ki_X0_numberOf : Cond.instanceMethod yX0_numberOf ∈ kTb := kTb_of (kch_7 _ (List.mem_of_getElem? (i := 100) rfl)) (by decide +kernel)
theorem kse_X0_numberOf : Cond.selects (yX0_numberOf).cls yX0_numberOf yX0_numberOf ∈ kTb := kTb_of (kch_7 _ (List.mem_of_getElem? (i := 101) rfl)) (by decide +kernel)
theorem kl_X0_raiseSure : kLk yX0_raiseSure cX0_raiseSure 2 none [] 1 := ⟨kTb_of (kch_7 _ (List.mem_of_getElem? (i := 132) rfl)) (by decide +kernel), kz_SearchCluster_Copy, by decide +kernel, by decide +kernel, by decide⟩
theorem ki_X0_raiseSure : Cond.instanceMethod yX0_raiseSure ∈ kTb := kTb_of (kch_7 _ (List.mem_of_getElem? (i := 130) rfl)) (by decide +kernel)
theorem kse_X0_raiseSure : Cond.selects (yX0_raiseSure).cls yX0_raiseSure yX0_raiseSure ∈ kTb := kTb_of (kch_7 _ (List.mem_of_getElem? (i := 131) rfl)) (by decide +kernel)
theorem kl_X0_readAct : kLk yX0_readAct cX0_readAct 3 none [] 1 := ⟨kTb_of (kch_8 _ (List.mem_of_getElem? (i := 227) rfl)) (by decide +kernel), kz_SearchCluster_Copy, by decide +kernel, by decide +kernel, by decide⟩
theorem ki_X0_readAct : Cond.instanceMethod yX0_readAct ∈ kTb := kTb_of (kch_8 _ (List.mem_of_getElem? (i := 226) rfl)) (by decide +kernel)
theorem kse_X0_readAct : Cond.selects (yX0_readAct).cls yX0_readAct yX0_readAct ∈ kTb := kTb_of (kcs_5 _ (List.mem_of_getElem? (i := 14) rfl)) (by decide +kernel)
theorem kl_X0_readBase : kLk yX0_readBase cX0_readBase 3 none [] 1 := ⟨kTb_of (kch_8 _ (List.mem_of_getElem? (i := 231) rfl)) (by decide +kernel), kz_SearchCluster_Copy, by decide +kernel, by decide +kernel, by decide⟩
theorem ki_X0_readBase : Cond.instanceMethod yX0_readBase ∈ kTb := kTb_of (kch_8 _ (List.mem_of_getElem? (i := 230) rfl)) (by decide +kernel)
theorem kse_X0_readBase : Cond.selects (yX0_readBase).cls yX0_readBase yX0_readBase ∈ kTb := kTb_of (kcs_5 _ (List.mem_of_getElem? (i := 15) rfl)) (by decide +kernel)
theorem kl_X0_readRecord : kLk yX0_readRecord cX0_readRecord 4 none [] 1 := ⟨kTb_of (kch_8 _ (List.mem_of_getElem? (i := 221) rfl)) (by decide +kernel), kz_SearchCluster_Copy, by decide +kernel, by decide +kernel, by decide⟩
theorem ki_X0_readRecord : Cond.instanceMethod yX0_readRecord ∈ kTb := kTb_of (kch_8 _ (List.mem_of_getElem? (i := 220) rfl)) (by decide +kernel)
theorem kse_X0_readRecord : Cond.selects (yX0_readRecord).cls yX0_readRecord yX0_readRecord ∈ kTb := kTb_of (kcs_5 _ (List.mem_of_getElem? (i := 13) rfl)) (by decide +kernel)
theorem kl_X0_rebase : kLk yX0_rebase cX0_rebase 3 none [] 2 := ⟨kTb_of (kch_7 _ (List.mem_of_getElem? (i := 166) rfl)) (by decide +kernel), kz_SearchCluster_Copy, by decide +kernel, by decide +kernel, by decide⟩
theorem ki_X0_rebase : Cond.instanceMethod yX0_rebase ∈ kTb := kTb_of (kch_7 _ (List.mem_of_getElem? (i := 165) rfl)) (by decide +kernel)
theorem kse_X0_rebase : Cond.selects (yX0_rebase).cls yX0_rebase yX0_rebase ∈ kTb := kTb_of (kcs_4 _ (List.mem_of_getElem? (i := 6) rfl)) (by decide +kernel)
theorem kl_X0_requestOf : kLk yX0_requestOf cX0_requestOf 5 (some .int) [] 2 := ⟨kTb_of (kch_9 _ (List.mem_of_getElem? (i := 51) rfl)) (by decide +kernel), kz_SearchCluster_Copy, by decide +kernel, by decide +kernel, by decide⟩
theorem ki_X0_requestOf : Cond.instanceMethod yX0_requestOf ∈ kTb := kTb_of (kch_9 _ (List.mem_of_getElem? (i := 49) rfl)) (by decide +kernel)
theorem kse_X0_requestOf : Cond.selects (yX0_requestOf).cls yX0_requestOf yX0_requestOf ∈ kTb := kTb_of (kch_9 _ (List.mem_of_getElem? (i := 50) rfl)) (by decide +kernel)
theorem kl_X0_showUpTo : kLk yX0_showUpTo cX0_showUpTo 3 none [] 1 := ⟨kTb_of (kch_7 _ (List.mem_of_getElem? (i := 176) rfl)) (by decide +kernel), kz_SearchCluster_Copy, by decide +kernel, by decide +kernel, by decide⟩
theorem ki_X0_showUpTo : Cond.instanceMethod yX0_showUpTo ∈ kTb := kTb_of (kch_7 _ (List.mem_of_getElem? (i := 174) rfl)) (by decide +kernel)
theorem kse_X0_showUpTo : Cond.selects (yX0_showUpTo).cls yX0_showUpTo yX0_showUpTo ∈ kTb := kTb_of (kch_7 _ (List.mem_of_getElem? (i := 175) rfl)) (by decide +kernel)
theorem kl_X0_tell : kLk yX0_tell cX0_tell 2 (some .int) [] 1 := ⟨kTb_of (kch_9 _ (List.mem_of_getElem? (i := 17) rfl)) (by decide +kernel), kz_SearchCluster_Copy, by decide +kernel, by decide +kernel, by decide⟩
theorem ki_X0_tell : Cond.instanceMethod yX0_tell ∈ kTb := kTb_of (kch_9 _ (List.mem_of_getElem? (i := 15) rfl)) (by decide +kernel)
theorem kse_X0_tell : Cond.selects (yX0_tell).cls yX0_tell yX0_tell ∈ kTb := kTb_of (kch_9 _ (List.mem_of_getElem? (i := 16) rfl)) (by decide +kernel)
theorem kl_X1_init : kLk yX1_init cX1_init 2 none [] 1 := ⟨kTb_of (kch_1 _ (List.mem_of_getElem? (i := 222) rfl)) (by decide +kernel), kz_SearchCluster_Disk, by decide +kernel, by decide +kernel, by decide⟩
theorem ki_X1_init : Cond.instanceMethod yX1_init ∈ kTb := kTb_of (kch_1 _ (List.mem_of_getElem? (i := 221) rfl)) (by decide +kernel)
theorem kl_X1_addOne : kLk yX1_addOne cX1_addOne 2 none [] 1 := ⟨kTb_of (kch_3 _ (List.mem_of_getElem? (i := 77) rfl)) (by decide +kernel), kz_SearchCluster_Disk, by decide +kernel, by decide +kernel, by decide⟩
theorem ki_X1_addOne : Cond.instanceMethod yX1_addOne ∈ kTb := kTb_of (kch_3 _ (List.mem_of_getElem? (i := 75) rfl)) (by decide +kernel)
theorem kse_X1_addOne : Cond.selects (yX1_addOne).cls yX1_addOne yX1_addOne ∈ kTb := kTb_of (kch_3 _ (List.mem_of_getElem? (i := 76) rfl)) (by decide +kernel)
theorem kl_X1_addText : kLk yX1_addText cX1_addText 3 none [] 1 := ⟨kTb_of (kch_3 _ (List.mem_of_getElem? (i := 89) rfl)) (by decide +kernel), kz_SearchCluster_Disk, by decide +kernel, by decide +kernel, by decide⟩
theorem ki_X1_addText : Cond.instanceMethod yX1_addText ∈ kTb := kTb_of (kch_3 _ (List.mem_of_getElem? (i := 87) rfl)) (by decide +kernel)
theorem kse_X1_addText : Cond.selects (yX1_addText).cls yX1_addText yX1_addText ∈ kTb := kTb_of (kch_3 _ (List.mem_of_getElem? (i := 88) rfl)) (by decide +kernel)
theorem kl_X1_addTwo : kLk yX1_addTwo cX1_addTwo 2 none [] 1 := ⟨kTb_of (kch_3 _ (List.mem_of_getElem? (i := 73) rfl)) (by decide +kernel), kz_SearchCluster_Disk, by decide +kernel, by decide +kernel, by decide⟩
theorem ki_X1_addTwo : Cond.instanceMethod yX1_addTwo ∈ kTb := kTb_of (kch_3 _ (List.mem_of_getElem? (i := 71) rfl)) (by decide +kernel)
theorem kse_X1_addTwo : Cond.selects (yX1_addTwo).cls yX1_addTwo yX1_addTwo ∈ kTb := kTb_of (kch_3 _ (List.mem_of_getElem? (i := 72) rfl)) (by decide +kernel)
theorem kl_X1_after : kLk yX1_after cX1_after 1 (some .int) [] 1 := ⟨kTb_of (kch_3 _ (List.mem_of_getElem? (i := 104) rfl)) (by decide +kernel), kz_SearchCluster_Disk, by decide +kernel, by decide +kernel, by decide⟩
theorem kst_X1_after : Cond.static yX1_after ∈ kTb := kTb_of (kch_3 _ (List.mem_of_getElem? (i := 103) rfl)) (by decide +kernel)
theorem kl_X1_begin : kLk yX1_begin cX1_begin 2 none [] 1 := ⟨kTb_of (kch_3 _ (List.mem_of_getElem? (i := 28) rfl)) (by decide +kernel), kz_SearchCluster_Disk, by decide +kernel, by decide +kernel, by decide⟩
theorem ki_X1_begin : Cond.instanceMethod yX1_begin ∈ kTb := kTb_of (kch_3 _ (List.mem_of_getElem? (i := 26) rfl)) (by decide +kernel)
theorem kse_X1_begin : Cond.selects (yX1_begin).cls yX1_begin yX1_begin ∈ kTb := kTb_of (kch_3 _ (List.mem_of_getElem? (i := 27) rfl)) (by decide +kernel)
theorem kl_X1_choose : kLk yX1_choose cX1_choose 4 none [] 0 := ⟨kTb_of (kch_8 _ (List.mem_of_getElem? (i := 182) rfl)) (by decide +kernel), kz_SearchCluster_Disk, by decide +kernel, by decide +kernel, by decide⟩
theorem ki_X1_choose : Cond.instanceMethod yX1_choose ∈ kTb := kTb_of (kch_8 _ (List.mem_of_getElem? (i := 180) rfl)) (by decide +kernel)
theorem kse_X1_choose : Cond.selects (yX1_choose).cls yX1_choose yX1_choose ∈ kTb := kTb_of (kch_8 _ (List.mem_of_getElem? (i := 181) rfl)) (by decide +kernel)
theorem kl_X1_clearImage : kLk yX1_clearImage cX1_clearImage 1 none [] 0 := ⟨kTb_of (kch_3 _ (List.mem_of_getElem? (i := 65) rfl)) (by decide +kernel), kz_SearchCluster_Disk, by decide +kernel, by decide +kernel, by decide⟩
theorem ki_X1_clearImage : Cond.instanceMethod yX1_clearImage ∈ kTb := kTb_of (kch_3 _ (List.mem_of_getElem? (i := 63) rfl)) (by decide +kernel)
theorem kse_X1_clearImage : Cond.selects (yX1_clearImage).cls yX1_clearImage yX1_clearImage ∈ kTb := kTb_of (kch_3 _ (List.mem_of_getElem? (i := 64) rfl)) (by decide +kernel)
theorem kl_X1_close : kLk yX1_close cX1_close 1 none [] 0 := ⟨kTb_of (kch_3 _ (List.mem_of_getElem? (i := 81) rfl)) (by decide +kernel), kz_SearchCluster_Disk, by decide +kernel, by decide +kernel, by decide⟩
theorem ki_X1_close : Cond.instanceMethod yX1_close ∈ kTb := kTb_of (kch_3 _ (List.mem_of_getElem? (i := 79) rfl)) (by decide +kernel)
theorem kse_X1_close : Cond.selects (yX1_close).cls yX1_close yX1_close ∈ kTb := kTb_of (kch_3 _ (List.mem_of_getElem? (i := 80) rfl)) (by decide +kernel)
theorem kl_X1_commit : kLk yX1_commit cX1_commit 6 none [] 0 := ⟨kTb_of (kch_5 _ (List.mem_of_getElem? (i := 185) rfl)) (by decide +kernel), kz_SearchCluster_Disk, by decide +kernel, by decide +kernel, by decide⟩
theorem ki_X1_commit : Cond.instanceMethod yX1_commit ∈ kTb := kTb_of (kch_5 _ (List.mem_of_getElem? (i := 183) rfl)) (by decide +kernel)
theorem kse_X1_commit : Cond.selects (yX1_commit).cls yX1_commit yX1_commit ∈ kTb := kTb_of (kch_5 _ (List.mem_of_getElem? (i := 184) rfl)) (by decide +kernel)
theorem kl_X1_countFrom : kLk yX1_countFrom cX1_countFrom 4 none [] 3 := ⟨kTb_of (kch_3 _ (List.mem_of_getElem? (i := 38) rfl)) (by decide +kernel), kz_SearchCluster_Disk, by decide +kernel, by decide +kernel, by decide⟩
theorem ki_X1_countFrom : Cond.instanceMethod yX1_countFrom ∈ kTb := kTb_of (kch_3 _ (List.mem_of_getElem? (i := 37) rfl)) (by decide +kernel)
theorem kse_X1_countFrom : Cond.selects (yX1_countFrom).cls yX1_countFrom yX1_countFrom ∈ kTb := kTb_of (kcs_1 _ (List.mem_of_getElem? (i := 2) rfl)) (by decide +kernel)
theorem kl_X1_endAt : kLk yX1_endAt cX1_endAt 4 none [] 1 := ⟨kTb_of (kch_8 _ (List.mem_of_getElem? (i := 203) rfl)) (by decide +kernel), kz_SearchCluster_Disk, by decide +kernel, by decide +kernel, by decide⟩
theorem ki_X1_endAt : Cond.instanceMethod yX1_endAt ∈ kTb := kTb_of (kch_8 _ (List.mem_of_getElem? (i := 201) rfl)) (by decide +kernel)
theorem kse_X1_endAt : Cond.selects (yX1_endAt).cls yX1_endAt yX1_endAt ∈ kTb := kTb_of (kch_8 _ (List.mem_of_getElem? (i := 202) rfl)) (by decide +kernel)
theorem kl_X1_firstBlockOf : kLk yX1_firstBlockOf cX1_firstBlockOf 1 (some .int) [] 1 := ⟨kTb_of (kch_3 _ (List.mem_of_getElem? (i := 34) rfl)) (by decide +kernel), kz_SearchCluster_Disk, by decide +kernel, by decide +kernel, by decide⟩
theorem kst_X1_firstBlockOf : Cond.static yX1_firstBlockOf ∈ kTb := kTb_of (kch_3 _ (List.mem_of_getElem? (i := 33) rfl)) (by decide +kernel)
theorem kl_X1_fits : kLk yX1_fits cX1_fits 2 (some .boolean) [] 1 := ⟨kTb_of (kch_5 _ (List.mem_of_getElem? (i := 181) rfl)) (by decide +kernel), kz_SearchCluster_Disk, by decide +kernel, by decide +kernel, by decide⟩
theorem ki_X1_fits : Cond.instanceMethod yX1_fits ∈ kTb := kTb_of (kch_5 _ (List.mem_of_getElem? (i := 179) rfl)) (by decide +kernel)
theorem kse_X1_fits : Cond.selects (yX1_fits).cls yX1_fits yX1_fits ∈ kTb := kTb_of (kch_5 _ (List.mem_of_getElem? (i := 180) rfl)) (by decide +kernel)
theorem kl_X1_isSo : kLk yX1_isSo cX1_isSo 4 (some .boolean) [] 2 := ⟨kTb_of (kch_4 _ (List.mem_of_getElem? (i := 205) rfl)) (by decide +kernel), kz_SearchCluster_Disk, by decide +kernel, by decide +kernel, by decide⟩
theorem ki_X1_isSo : Cond.instanceMethod yX1_isSo ∈ kTb := kTb_of (kch_4 _ (List.mem_of_getElem? (i := 204) rfl)) (by decide +kernel)
theorem kse_X1_isSo : Cond.selects (yX1_isSo).cls yX1_isSo yX1_isSo ∈ kTb := kTb_of (kcs_1 _ (List.mem_of_getElem? (i := 10) rfl)) (by decide +kernel)
theorem kl_X1_oneAt : kLk yX1_oneAt cX1_oneAt 2 (some .int) [] 1 := ⟨kTb_of (kch_8 _ (List.mem_of_getElem? (i := 190) rfl)) (by decide +kernel), kz_SearchCluster_Disk, by decide +kernel, by decide +kernel, by decide⟩
theorem ki_X1_oneAt : Cond.instanceMethod yX1_oneAt ∈ kTb := kTb_of (kch_8 _ (List.mem_of_getElem? (i := 188) rfl)) (by decide +kernel)
theorem kse_X1_oneAt : Cond.selects (yX1_oneAt).cls yX1_oneAt yX1_oneAt ∈ kTb := kTb_of (kch_8 _ (List.mem_of_getElem? (i := 189) rfl)) (by decide +kernel)
theorem kl_X1_open : kLk yX1_open cX1_open 2 none [] 1 := ⟨kTb_of (kch_3 _ (List.mem_of_getElem? (i := 69) rfl)) (by decide +kernel), kz_SearchCluster_Disk, by decide +kernel, by decide +kernel, by decide⟩
theorem ki_X1_open : Cond.instanceMethod yX1_open ∈ kTb := kTb_of (kch_3 _ (List.mem_of_getElem? (i := 67) rfl)) (by decide +kernel)
theorem kse_X1_open : Cond.selects (yX1_open).cls yX1_open yX1_open ∈ kTb := kTb_of (kch_3 _ (List.mem_of_getElem? (i := 68) rfl)) (by decide +kernel)
theorem kl_X1_sizeAt : kLk yX1_sizeAt cX1_sizeAt 3 (some .int) [] 1 := ⟨kTb_of (kch_8 _ (List.mem_of_getElem? (i := 186) rfl)) (by decide +kernel), kz_SearchCluster_Disk, by decide +kernel, by decide +kernel, by decide⟩
theorem ki_X1_sizeAt : Cond.instanceMethod yX1_sizeAt ∈ kTb := kTb_of (kch_8 _ (List.mem_of_getElem? (i := 184) rfl)) (by decide +kernel)
theorem kse_X1_sizeAt : Cond.selects (yX1_sizeAt).cls yX1_sizeAt yX1_sizeAt ∈ kTb := kTb_of (kch_8 _ (List.mem_of_getElem? (i := 185) rfl)) (by decide +kernel)
theorem kl_X1_swap : kLk yX1_swap cX1_swap 4 none [] 0 := ⟨kTb_of (kch_3 _ (List.mem_of_getElem? (i := 101) rfl)) (by decide +kernel), kz_SearchCluster_Disk, by decide +kernel, by decide +kernel, by decide⟩
theorem ki_X1_swap : Cond.instanceMethod yX1_swap ∈ kTb := kTb_of (kch_3 _ (List.mem_of_getElem? (i := 99) rfl)) (by decide +kernel)
theorem kse_X1_swap : Cond.selects (yX1_swap).cls yX1_swap yX1_swap ∈ kTb := kTb_of (kch_3 _ (List.mem_of_getElem? (i := 100) rfl)) (by decide +kernel)
theorem kl_X1_twoAt : kLk yX1_twoAt cX1_twoAt 2 (some .int) [] 1 := ⟨kTb_of (kch_8 _ (List.mem_of_getElem? (i := 199) rfl)) (by decide +kernel), kz_SearchCluster_Disk, by decide +kernel, by decide +kernel, by decide⟩
theorem ki_X1_twoAt : Cond.instanceMethod yX1_twoAt ∈ kTb := kTb_of (kch_8 _ (List.mem_of_getElem? (i := 197) rfl)) (by decide +kernel)
theorem kse_X1_twoAt : Cond.selects (yX1_twoAt).cls yX1_twoAt yX1_twoAt ∈ kTb := kTb_of (kch_8 _ (List.mem_of_getElem? (i := 198) rfl)) (by decide +kernel)
theorem kl_X1_wipe : kLk yX1_wipe cX1_wipe 6 none [] 2 := ⟨kTb_of (kch_8 _ (List.mem_of_getElem? (i := 207) rfl)) (by decide +kernel), kz_SearchCluster_Disk, by decide +kernel, by decide +kernel, by decide⟩
theorem ki_X1_wipe : Cond.instanceMethod yX1_wipe ∈ kTb := kTb_of (kch_8 _ (List.mem_of_getElem? (i := 206) rfl)) (by decide +kernel)
theorem kse_X1_wipe : Cond.selects (yX1_wipe).cls yX1_wipe yX1_wipe ∈ kTb := kTb_of (kcs_5 _ (List.mem_of_getElem? (i := 12) rfl)) (by decide +kernel)
theorem kl_X1_writeBlock : kLk yX1_writeBlock cX1_writeBlock 6 none [] 3 := ⟨kTb_of (kch_4 _ (List.mem_of_getElem? (i := 209) rfl)) (by decide +kernel), kz_SearchCluster_Disk, by decide +kernel, by decide +kernel, by decide⟩
theorem ki_X1_writeBlock : Cond.instanceMethod yX1_writeBlock ∈ kTb := kTb_of (kch_4 _ (List.mem_of_getElem? (i := 208) rfl)) (by decide +kernel)
theorem kse_X1_writeBlock : Cond.selects (yX1_writeBlock).cls yX1_writeBlock yX1_writeBlock ∈ kTb := kTb_of (kcs_1 _ (List.mem_of_getElem? (i := 11) rfl)) (by decide +kernel)
theorem kl_X2_init : kLk yX2_init cX2_init 2 none [] 1 := ⟨kTb_of (kch_2 _ (List.mem_of_getElem? (i := 15) rfl)) (by decide +kernel), kz_SearchCluster_Index, by decide +kernel, by decide +kernel, by decide⟩
theorem ki_X2_init : Cond.instanceMethod yX2_init ∈ kTb := kTb_of (kch_2 _ (List.mem_of_getElem? (i := 14) rfl)) (by decide +kernel)
theorem kl_X2_addTo : kLk yX2_addTo cX2_addTo 3 none [] 2 := ⟨kTb_of (kch_7 _ (List.mem_of_getElem? (i := 192) rfl)) (by decide +kernel), kz_SearchCluster_Index, by decide +kernel, by decide +kernel, by decide⟩
theorem ki_X2_addTo : Cond.instanceMethod yX2_addTo ∈ kTb := kTb_of (kch_7 _ (List.mem_of_getElem? (i := 191) rfl)) (by decide +kernel)
theorem kse_X2_addTo : Cond.selects (yX2_addTo).cls yX2_addTo yX2_addTo ∈ kTb := kTb_of (kcs_4 _ (List.mem_of_getElem? (i := 9) rfl)) (by decide +kernel)
theorem kl_X2_begin : kLk yX2_begin cX2_begin 2 none [] 1 := ⟨kTb_of (kch_3 _ (List.mem_of_getElem? (i := 23) rfl)) (by decide +kernel), kz_SearchCluster_Index, by decide +kernel, by decide +kernel, by decide⟩
theorem ki_X2_begin : Cond.instanceMethod yX2_begin ∈ kTb := kTb_of (kch_3 _ (List.mem_of_getElem? (i := 21) rfl)) (by decide +kernel)
theorem kse_X2_begin : Cond.selects (yX2_begin).cls yX2_begin yX2_begin ∈ kTb := kTb_of (kch_3 _ (List.mem_of_getElem? (i := 22) rfl)) (by decide +kernel)
theorem kl_X2_exchange : kLk yX2_exchange cX2_exchange 5 none [] 2 := ⟨kTb_of (kch_7 _ (List.mem_of_getElem? (i := 204) rfl)) (by decide +kernel), kz_SearchCluster_Index, by decide +kernel, by decide +kernel, by decide⟩
theorem ki_X2_exchange : Cond.instanceMethod yX2_exchange ∈ kTb := kTb_of (kch_7 _ (List.mem_of_getElem? (i := 203) rfl)) (by decide +kernel)
theorem kse_X2_exchange : Cond.selects (yX2_exchange).cls yX2_exchange yX2_exchange ∈ kTb := kTb_of (kcs_4 _ (List.mem_of_getElem? (i := 11) rfl)) (by decide +kernel)
theorem kl_X2_leaveOutDead : kLk yX2_leaveOutDead cX2_leaveOutDead 3 none [] 0 := ⟨kTb_of (kch_7 _ (List.mem_of_getElem? (i := 196) rfl)) (by decide +kernel), kz_SearchCluster_Index, by decide +kernel, by decide +kernel, by decide⟩
theorem ki_X2_leaveOutDead : Cond.instanceMethod yX2_leaveOutDead ∈ kTb := kTb_of (kch_7 _ (List.mem_of_getElem? (i := 195) rfl)) (by decide +kernel)
theorem kse_X2_leaveOutDead : Cond.selects (yX2_leaveOutDead).cls yX2_leaveOutDead yX2_leaveOutDead ∈ kTb := kTb_of (kcs_4 _ (List.mem_of_getElem? (i := 10) rfl)) (by decide +kernel)
theorem kl_X2_liveIn : kLk yX2_liveIn cX2_liveIn 4 (some .int) [] 1 := ⟨kTb_of (kch_7 _ (List.mem_of_getElem? (i := 200) rfl)) (by decide +kernel), kz_SearchCluster_Index, by decide +kernel, by decide +kernel, by decide⟩
theorem ki_X2_liveIn : Cond.instanceMethod yX2_liveIn ∈ kTb := kTb_of (kch_7 _ (List.mem_of_getElem? (i := 198) rfl)) (by decide +kernel)
theorem kse_X2_liveIn : Cond.selects (yX2_liveIn).cls yX2_liveIn yX2_liveIn ∈ kTb := kTb_of (kch_7 _ (List.mem_of_getElem? (i := 199) rfl)) (by decide +kernel)
theorem kl_X2_openSegment : kLk yX2_openSegment cX2_openSegment 2 none [] 1 := ⟨kTb_of (kch_7 _ (List.mem_of_getElem? (i := 184) rfl)) (by decide +kernel), kz_SearchCluster_Index, by decide +kernel, by decide +kernel, by decide⟩
theorem ki_X2_openSegment : Cond.instanceMethod yX2_openSegment ∈ kTb := kTb_of (kch_7 _ (List.mem_of_getElem? (i := 183) rfl)) (by decide +kernel)
theorem kse_X2_openSegment : Cond.selects (yX2_openSegment).cls yX2_openSegment yX2_openSegment ∈ kTb := kTb_of (kcs_4 _ (List.mem_of_getElem? (i := 7) rfl)) (by decide +kernel)
theorem kl_X2_unlive : kLk yX2_unlive cX2_unlive 4 none [] 1 := ⟨kTb_of (kch_7 _ (List.mem_of_getElem? (i := 188) rfl)) (by decide +kernel), kz_SearchCluster_Index, by decide +kernel, by decide +kernel, by decide⟩
theorem ki_X2_unlive : Cond.instanceMethod yX2_unlive ∈ kTb := kTb_of (kch_7 _ (List.mem_of_getElem? (i := 187) rfl)) (by decide +kernel)
theorem kse_X2_unlive : Cond.selects (yX2_unlive).cls yX2_unlive yX2_unlive ∈ kTb := kTb_of (kcs_4 _ (List.mem_of_getElem? (i := 8) rfl)) (by decide +kernel)
theorem kl_X2_update : kLk yX2_update cX2_update 3 none [] 1 := ⟨kTb_of (kch_7 _ (List.mem_of_getElem? (i := 180) rfl)) (by decide +kernel), kz_SearchCluster_Index, by decide +kernel, by decide +kernel, by decide⟩
theorem ki_X2_update : Cond.instanceMethod yX2_update ∈ kTb := kTb_of (kch_7 _ (List.mem_of_getElem? (i := 178) rfl)) (by decide +kernel)
theorem kse_X2_update : Cond.selects (yX2_update).cls yX2_update yX2_update ∈ kTb := kTb_of (kch_7 _ (List.mem_of_getElem? (i := 179) rfl)) (by decide +kernel)
theorem kl_X3_init : kLk yX3_init cX3_init 2 none [] 1 := ⟨kTb_of (kch_2 _ (List.mem_of_getElem? (i := 170) rfl)) (by decide +kernel), kz_SearchCluster_Keeper, by decide +kernel, by decide +kernel, by decide⟩
theorem ki_X3_init : Cond.instanceMethod yX3_init ∈ kTb := kTb_of (kch_2 _ (List.mem_of_getElem? (i := 169) rfl)) (by decide +kernel)
theorem kl_X3_addView : kLk yX3_addView cX3_addView 6 none [] 5 := ⟨kTb_of (kch_5 _ (List.mem_of_getElem? (i := 30) rfl)) (by decide +kernel), kz_SearchCluster_Keeper, by decide +kernel, by decide +kernel, by decide⟩
theorem ki_X3_addView : Cond.instanceMethod yX3_addView ∈ kTb := kTb_of (kch_5 _ (List.mem_of_getElem? (i := 29) rfl)) (by decide +kernel)
theorem kse_X3_addView : Cond.selects (yX3_addView).cls yX3_addView yX3_addView ∈ kTb := kTb_of (kcs_1 _ (List.mem_of_getElem? (i := 15) rfl)) (by decide +kernel)
theorem kl_X3_begin : kLk yX3_begin cX3_begin 3 none [] 1 := ⟨kTb_of (kch_5 _ (List.mem_of_getElem? (i := 14) rfl)) (by decide +kernel), kz_SearchCluster_Keeper, by decide +kernel, by decide +kernel, by decide⟩
theorem ki_X3_begin : Cond.instanceMethod yX3_begin ∈ kTb := kTb_of (kch_5 _ (List.mem_of_getElem? (i := 12) rfl)) (by decide +kernel)
theorem kse_X3_begin : Cond.selects (yX3_begin).cls yX3_begin yX3_begin ∈ kTb := kTb_of (kch_5 _ (List.mem_of_getElem? (i := 13) rfl)) (by decide +kernel)
theorem kl_X3_change : kLk yX3_change cX3_change 8 none [] 4 := ⟨kTb_of (kch_5 _ (List.mem_of_getElem? (i := 177) rfl)) (by decide +kernel), kz_SearchCluster_Keeper, by decide +kernel, by decide +kernel, by decide⟩
theorem ki_X3_change : Cond.instanceMethod yX3_change ∈ kTb := kTb_of (kch_5 _ (List.mem_of_getElem? (i := 176) rfl)) (by decide +kernel)
theorem kse_X3_change : Cond.selects (yX3_change).cls yX3_change yX3_change ∈ kTb := kTb_of (kcs_2 _ (List.mem_of_getElem? (i := 13) rfl)) (by decide +kernel)
theorem kl_X3_changeMask : kLk yX3_changeMask cX3_changeMask 3 none [] 2 := ⟨kTb_of (kch_5 _ (List.mem_of_getElem? (i := 199) rfl)) (by decide +kernel), kz_SearchCluster_Keeper, by decide +kernel, by decide +kernel, by decide⟩
theorem ki_X3_changeMask : Cond.instanceMethod yX3_changeMask ∈ kTb := kTb_of (kch_5 _ (List.mem_of_getElem? (i := 198) rfl)) (by decide +kernel)
theorem kse_X3_changeMask : Cond.selects (yX3_changeMask).cls yX3_changeMask yX3_changeMask ∈ kTb := kTb_of (kcs_2 _ (List.mem_of_getElem? (i := 15) rfl)) (by decide +kernel)
theorem kl_X3_flush : kLk yX3_flush cX3_flush 3 none [] 0 := ⟨kTb_of (kch_5 _ (List.mem_of_getElem? (i := 25) rfl)) (by decide +kernel), kz_SearchCluster_Keeper, by decide +kernel, by decide +kernel, by decide⟩
theorem ki_X3_flush : Cond.instanceMethod yX3_flush ∈ kTb := kTb_of (kch_5 _ (List.mem_of_getElem? (i := 24) rfl)) (by decide +kernel)
theorem kse_X3_flush : Cond.selects (yX3_flush).cls yX3_flush yX3_flush ∈ kTb := kTb_of (kcs_1 _ (List.mem_of_getElem? (i := 14) rfl)) (by decide +kernel)
theorem kl_X3_hearAll : kLk yX3_hearAll cX3_hearAll 2 none [] 0 := ⟨kTb_of (kch_5 _ (List.mem_of_getElem? (i := 20) rfl)) (by decide +kernel), kz_SearchCluster_Keeper, by decide +kernel, by decide +kernel, by decide⟩
theorem ki_X3_hearAll : Cond.instanceMethod yX3_hearAll ∈ kTb := kTb_of (kch_5 _ (List.mem_of_getElem? (i := 19) rfl)) (by decide +kernel)
theorem kse_X3_hearAll : Cond.selects (yX3_hearAll).cls yX3_hearAll yX3_hearAll ∈ kTb := kTb_of (kcs_1 _ (List.mem_of_getElem? (i := 13) rfl)) (by decide +kernel)
theorem kl_X3_isAlive : kLk yX3_isAlive cX3_isAlive 2 (some .boolean) [] 1 := ⟨kTb_of (kch_5 _ (List.mem_of_getElem? (i := 173) rfl)) (by decide +kernel), kz_SearchCluster_Keeper, by decide +kernel, by decide +kernel, by decide⟩
theorem ki_X3_isAlive : Cond.instanceMethod yX3_isAlive ∈ kTb := kTb_of (kch_5 _ (List.mem_of_getElem? (i := 172) rfl)) (by decide +kernel)
theorem kse_X3_isAlive : Cond.selects (yX3_isAlive).cls yX3_isAlive yX3_isAlive ∈ kTb := kTb_of (kcs_2 _ (List.mem_of_getElem? (i := 12) rfl)) (by decide +kernel)
theorem kl_X3_isFromPrimary : kLk yX3_isFromPrimary cX3_isFromPrimary 4 (some .boolean) [] 2 := ⟨kTb_of (kch_8 _ (List.mem_of_getElem? (i := 20) rfl)) (by decide +kernel), kz_SearchCluster_Keeper, by decide +kernel, by decide +kernel, by decide⟩
theorem ki_X3_isFromPrimary : Cond.instanceMethod yX3_isFromPrimary ∈ kTb := kTb_of (kch_8 _ (List.mem_of_getElem? (i := 19) rfl)) (by decide +kernel)
theorem kse_X3_isFromPrimary : Cond.selects (yX3_isFromPrimary).cls yX3_isFromPrimary yX3_isFromPrimary ∈ kTb := kTb_of (kcs_4 _ (List.mem_of_getElem? (i := 15) rfl)) (by decide +kernel)
theorem kl_X3_isInMask : kLk yX3_isInMask cX3_isInMask 3 (some .boolean) [] 2 := ⟨kTb_of (kch_5 _ (List.mem_of_getElem? (i := 169) rfl)) (by decide +kernel), kz_SearchCluster_Keeper, by decide +kernel, by decide +kernel, by decide⟩
theorem ki_X3_isInMask : Cond.instanceMethod yX3_isInMask ∈ kTb := kTb_of (kch_5 _ (List.mem_of_getElem? (i := 168) rfl)) (by decide +kernel)
theorem kse_X3_isInMask : Cond.selects (yX3_isInMask).cls yX3_isInMask yX3_isInMask ∈ kTb := kTb_of (kcs_2 _ (List.mem_of_getElem? (i := 11) rfl)) (by decide +kernel)
theorem kl_X3_load : kLk yX3_load cX3_load 3 none [] 0 := ⟨kTb_of (kch_8 _ (List.mem_of_getElem? (i := 178) rfl)) (by decide +kernel), kz_SearchCluster_Keeper, by decide +kernel, by decide +kernel, by decide⟩
theorem ki_X3_load : Cond.instanceMethod yX3_load ∈ kTb := kTb_of (kch_8 _ (List.mem_of_getElem? (i := 176) rfl)) (by decide +kernel)
theorem kse_X3_load : Cond.selects (yX3_load).cls yX3_load yX3_load ∈ kTb := kTb_of (kch_8 _ (List.mem_of_getElem? (i := 177) rfl)) (by decide +kernel)
theorem kl_X3_onAdd : kLk yX3_onAdd cX3_onAdd 5 none [] 2 := ⟨kTb_of (kch_8 _ (List.mem_of_getElem? (i := 16) rfl)) (by decide +kernel), kz_SearchCluster_Keeper, by decide +kernel, by decide +kernel, by decide⟩
theorem ki_X3_onAdd : Cond.instanceMethod yX3_onAdd ∈ kTb := kTb_of (kch_8 _ (List.mem_of_getElem? (i := 14) rfl)) (by decide +kernel)
theorem kse_X3_onAdd : Cond.selects (yX3_onAdd).cls yX3_onAdd yX3_onAdd ∈ kTb := kTb_of (kch_8 _ (List.mem_of_getElem? (i := 15) rfl)) (by decide +kernel)
theorem kl_X3_onFail : kLk yX3_onFail cX3_onFail 5 none [] 2 := ⟨kTb_of (kch_8 _ (List.mem_of_getElem? (i := 24) rfl)) (by decide +kernel), kz_SearchCluster_Keeper, by decide +kernel, by decide +kernel, by decide⟩
theorem ki_X3_onFail : Cond.instanceMethod yX3_onFail ∈ kTb := kTb_of (kch_8 _ (List.mem_of_getElem? (i := 22) rfl)) (by decide +kernel)
theorem kse_X3_onFail : Cond.selects (yX3_onFail).cls yX3_onFail yX3_onFail ∈ kTb := kTb_of (kch_8 _ (List.mem_of_getElem? (i := 23) rfl)) (by decide +kernel)
theorem kl_X3_onRoute : kLk yX3_onRoute cX3_onRoute 5 none [] 2 := ⟨kTb_of (kch_8 _ (List.mem_of_getElem? (i := 11) rfl)) (by decide +kernel), kz_SearchCluster_Keeper, by decide +kernel, by decide +kernel, by decide⟩
theorem ki_X3_onRoute : Cond.instanceMethod yX3_onRoute ∈ kTb := kTb_of (kch_8 _ (List.mem_of_getElem? (i := 9) rfl)) (by decide +kernel)
theorem kse_X3_onRoute : Cond.selects (yX3_onRoute).cls yX3_onRoute yX3_onRoute ∈ kTb := kTb_of (kch_8 _ (List.mem_of_getElem? (i := 10) rfl)) (by decide +kernel)
theorem kl_X3_onSign : kLk yX3_onSign cX3_onSign 9 none [] 2 := ⟨kTb_of (kch_8 _ (List.mem_of_getElem? (i := 28) rfl)) (by decide +kernel), kz_SearchCluster_Keeper, by decide +kernel, by decide +kernel, by decide⟩
theorem ki_X3_onSign : Cond.instanceMethod yX3_onSign ∈ kTb := kTb_of (kch_8 _ (List.mem_of_getElem? (i := 26) rfl)) (by decide +kernel)
theorem kse_X3_onSign : Cond.selects (yX3_onSign).cls yX3_onSign yX3_onSign ∈ kTb := kTb_of (kch_8 _ (List.mem_of_getElem? (i := 27) rfl)) (by decide +kernel)
theorem kl_X3_promote : kLk yX3_promote cX3_promote 6 none [] 1 := ⟨kTb_of (kch_5 _ (List.mem_of_getElem? (i := 165) rfl)) (by decide +kernel), kz_SearchCluster_Keeper, by decide +kernel, by decide +kernel, by decide⟩
theorem ki_X3_promote : Cond.instanceMethod yX3_promote ∈ kTb := kTb_of (kch_5 _ (List.mem_of_getElem? (i := 164) rfl)) (by decide +kernel)
theorem kse_X3_promote : Cond.selects (yX3_promote).cls yX3_promote yX3_promote ∈ kTb := kTb_of (kcs_2 _ (List.mem_of_getElem? (i := 10) rfl)) (by decide +kernel)
theorem kl_X3_readView : kLk yX3_readView cX3_readView 3 none [] 1 := ⟨kTb_of (kch_8 _ (List.mem_of_getElem? (i := 194) rfl)) (by decide +kernel), kz_SearchCluster_Keeper, by decide +kernel, by decide +kernel, by decide⟩
theorem ki_X3_readView : Cond.instanceMethod yX3_readView ∈ kTb := kTb_of (kch_8 _ (List.mem_of_getElem? (i := 193) rfl)) (by decide +kernel)
theorem kse_X3_readView : Cond.selects (yX3_readView).cls yX3_readView yX3_readView ∈ kTb := kTb_of (kcs_5 _ (List.mem_of_getElem? (i := 11) rfl)) (by decide +kernel)
theorem kl_X3_tellView : kLk yX3_tellView cX3_tellView 4 none [] 2 := ⟨kTb_of (kch_5 _ (List.mem_of_getElem? (i := 193) rfl)) (by decide +kernel), kz_SearchCluster_Keeper, by decide +kernel, by decide +kernel, by decide⟩
theorem ki_X3_tellView : Cond.instanceMethod yX3_tellView ∈ kTb := kTb_of (kch_5 _ (List.mem_of_getElem? (i := 192) rfl)) (by decide +kernel)
theorem kse_X3_tellView : Cond.selects (yX3_tellView).cls yX3_tellView yX3_tellView ∈ kTb := kTb_of (kcs_2 _ (List.mem_of_getElem? (i := 14) rfl)) (by decide +kernel)
theorem kl_X3_watch : kLk yX3_watch cX3_watch 5 none [] 0 := ⟨kTb_of (kch_5 _ (List.mem_of_getElem? (i := 161) rfl)) (by decide +kernel), kz_SearchCluster_Keeper, by decide +kernel, by decide +kernel, by decide⟩
theorem ki_X3_watch : Cond.instanceMethod yX3_watch ∈ kTb := kTb_of (kch_5 _ (List.mem_of_getElem? (i := 159) rfl)) (by decide +kernel)
theorem kse_X3_watch : Cond.selects (yX3_watch).cls yX3_watch yX3_watch ∈ kTb := kTb_of (kch_5 _ (List.mem_of_getElem? (i := 160) rfl)) (by decide +kernel)
theorem kl_X4_init : kLk yX4_init cX4_init 1 none [] 0 := ⟨kTb_of (kch_1 _ (List.mem_of_getElem? (i := 53) rfl)) (by decide +kernel), kz_SearchCluster_Message, by decide +kernel, by decide +kernel, by decide⟩
theorem ki_X4_init : Cond.instanceMethod yX4_init ∈ kTb := kTb_of (kch_1 _ (List.mem_of_getElem? (i := 52) rfl)) (by decide +kernel)
theorem kl_X4_carriedAct : kLk yX4_carriedAct cX4_carriedAct 3 (some .int) [] 1 := ⟨kTb_of (kch_7 _ (List.mem_of_getElem? (i := 162) rfl)) (by decide +kernel), kz_SearchCluster_Message, by decide +kernel, by decide +kernel, by decide⟩
theorem ki_X4_carriedAct : Cond.instanceMethod yX4_carriedAct ∈ kTb := kTb_of (kch_7 _ (List.mem_of_getElem? (i := 160) rfl)) (by decide +kernel)
theorem kse_X4_carriedAct : Cond.selects (yX4_carriedAct).cls yX4_carriedAct yX4_carriedAct ∈ kTb := kTb_of (kch_7 _ (List.mem_of_getElem? (i := 161) rfl)) (by decide +kernel)
theorem kl_X4_carry : kLk yX4_carry cX4_carry 3 none [] 1 := ⟨kTb_of (kch_5 _ (List.mem_of_getElem? (i := 126) rfl)) (by decide +kernel), kz_SearchCluster_Message, by decide +kernel, by decide +kernel, by decide⟩
theorem ki_X4_carry : Cond.instanceMethod yX4_carry ∈ kTb := kTb_of (kch_5 _ (List.mem_of_getElem? (i := 124) rfl)) (by decide +kernel)
theorem kse_X4_carry : Cond.selects (yX4_carry).cls yX4_carry yX4_carry ∈ kTb := kTb_of (kch_5 _ (List.mem_of_getElem? (i := 125) rfl)) (by decide +kernel)
theorem kl_X4_with : kLk yX4_with cX4_with 6 (some (.object "SearchCluster$Message")) [] 5 := ⟨kTb_of (kch_5 _ (List.mem_of_getElem? (i := 98) rfl)) (by decide +kernel), kz_SearchCluster_Message, by decide +kernel, by decide +kernel, by decide⟩
theorem ki_X4_with : Cond.instanceMethod yX4_with ∈ kTb := kTb_of (kch_5 _ (List.mem_of_getElem? (i := 96) rfl)) (by decide +kernel)
theorem kse_X4_with : Cond.selects (yX4_with).cls yX4_with yX4_with ∈ kTb := kTb_of (kch_5 _ (List.mem_of_getElem? (i := 97) rfl)) (by decide +kernel)
theorem kl_X5_init : kLk yX5_init cX5_init 3 none [] 2 := ⟨kTb_of (kch_1 _ (List.mem_of_getElem? (i := 171) rfl)) (by decide +kernel), kz_SearchCluster_Node, by decide +kernel, by decide +kernel, by decide⟩
theorem ki_X5_init : Cond.instanceMethod yX5_init ∈ kTb := kTb_of (kch_1 _ (List.mem_of_getElem? (i := 170) rfl)) (by decide +kernel)
theorem kl_X5_beat : kLk yX5_beat cX5_beat 4 none [] 0 := ⟨kTb_of (kch_5 _ (List.mem_of_getElem? (i := 142) rfl)) (by decide +kernel), kz_SearchCluster_Node, by decide +kernel, by decide +kernel, by decide⟩
theorem ki_X5_beat : Cond.instanceMethod yX5_beat ∈ kTb := kTb_of (kch_5 _ (List.mem_of_getElem? (i := 140) rfl)) (by decide +kernel)
theorem kse_X5_beat : Cond.selects (yX5_beat).cls yX5_beat yX5_beat ∈ kTb := kTb_of (kch_5 _ (List.mem_of_getElem? (i := 141) rfl)) (by decide +kernel)
theorem kl_X5_begin : kLk yX5_begin cX5_begin 2 none [] 0 := ⟨kTb_of (kch_3 _ (List.mem_of_getElem? (i := 2) rfl)) (by decide +kernel), kz_SearchCluster_Node, by decide +kernel, by decide +kernel, by decide⟩
theorem ki_X5_begin : Cond.instanceMethod yX5_begin ∈ kTb := kTb_of (kch_3 _ (List.mem_of_getElem? (i := 0) rfl)) (by decide +kernel)
theorem kse_X5_begin : Cond.selects (yX5_begin).cls yX5_begin yX5_begin ∈ kTb := kTb_of (kch_3 _ (List.mem_of_getElem? (i := 1) rfl)) (by decide +kernel)
theorem kl_X5_closeContexts : kLk yX5_closeContexts cX5_closeContexts 2 none [] 0 := ⟨kTb_of (kch_3 _ (List.mem_of_getElem? (i := 6) rfl)) (by decide +kernel), kz_SearchCluster_Node, by decide +kernel, by decide +kernel, by decide⟩
theorem ki_X5_closeContexts : Cond.instanceMethod yX5_closeContexts ∈ kTb := kTb_of (kch_3 _ (List.mem_of_getElem? (i := 4) rfl)) (by decide +kernel)
theorem kse_X5_closeContexts : Cond.selects (yX5_closeContexts).cls yX5_closeContexts yX5_closeContexts ∈ kTb := kTb_of (kch_3 _ (List.mem_of_getElem? (i := 5) rfl)) (by decide +kernel)
theorem kl_X5_closeOldContexts : kLk yX5_closeOldContexts cX5_closeOldContexts 2 none [] 0 := ⟨kTb_of (kch_5 _ (List.mem_of_getElem? (i := 147) rfl)) (by decide +kernel), kz_SearchCluster_Node, by decide +kernel, by decide +kernel, by decide⟩
theorem ki_X5_closeOldContexts : Cond.instanceMethod yX5_closeOldContexts ∈ kTb := kTb_of (kch_5 _ (List.mem_of_getElem? (i := 145) rfl)) (by decide +kernel)
theorem kse_X5_closeOldContexts : Cond.selects (yX5_closeOldContexts).cls yX5_closeOldContexts yX5_closeOldContexts ∈ kTb := kTb_of (kch_5 _ (List.mem_of_getElem? (i := 146) rfl)) (by decide +kernel)
theorem kl_X5_freeContext : kLk yX5_freeContext cX5_freeContext 2 (some .int) [] 0 := ⟨kTb_of (kch_8 _ (List.mem_of_getElem? (i := 38) rfl)) (by decide +kernel), kz_SearchCluster_Node, by decide +kernel, by decide +kernel, by decide⟩
theorem ki_X5_freeContext : Cond.instanceMethod yX5_freeContext ∈ kTb := kTb_of (kch_8 _ (List.mem_of_getElem? (i := 37) rfl)) (by decide +kernel)
theorem kse_X5_freeContext : Cond.selects (yX5_freeContext).cls yX5_freeContext yX5_freeContext ∈ kTb := kTb_of (kcs_5 _ (List.mem_of_getElem? (i := 0) rfl)) (by decide +kernel)
theorem kl_X5_onOpen : kLk yX5_onOpen cX5_onOpen 9 none [] 2 := ⟨kTb_of (kch_8 _ (List.mem_of_getElem? (i := 32) rfl)) (by decide +kernel), kz_SearchCluster_Node, by decide +kernel, by decide +kernel, by decide⟩
theorem ki_X5_onOpen : Cond.instanceMethod yX5_onOpen ∈ kTb := kTb_of (kch_8 _ (List.mem_of_getElem? (i := 30) rfl)) (by decide +kernel)
theorem kse_X5_onOpen : Cond.selects (yX5_onOpen).cls yX5_onOpen yX5_onOpen ∈ kTb := kTb_of (kch_8 _ (List.mem_of_getElem? (i := 31) rfl)) (by decide +kernel)
theorem kl_X5_onScore : kLk yX5_onScore cX5_onScore 10 none [] 2 := ⟨kTb_of (kch_8 _ (List.mem_of_getElem? (i := 58) rfl)) (by decide +kernel), kz_SearchCluster_Node, by decide +kernel, by decide +kernel, by decide⟩
theorem ki_X5_onScore : Cond.instanceMethod yX5_onScore ∈ kTb := kTb_of (kch_8 _ (List.mem_of_getElem? (i := 56) rfl)) (by decide +kernel)
theorem kse_X5_onScore : Cond.selects (yX5_onScore).cls yX5_onScore yX5_onScore ∈ kTb := kTb_of (kch_8 _ (List.mem_of_getElem? (i := 57) rfl)) (by decide +kernel)
theorem kl_X5_replicaOf : kLk yX5_replicaOf cX5_replicaOf 2 (some (.object "SearchCluster$Replica")) [] 1 := ⟨kTb_of (kch_5 _ (List.mem_of_getElem? (i := 78) rfl)) (by decide +kernel), kz_SearchCluster_Node, by decide +kernel, by decide +kernel, by decide⟩
theorem ki_X5_replicaOf : Cond.instanceMethod yX5_replicaOf ∈ kTb := kTb_of (kch_5 _ (List.mem_of_getElem? (i := 76) rfl)) (by decide +kernel)
theorem kse_X5_replicaOf : Cond.selects (yX5_replicaOf).cls yX5_replicaOf yX5_replicaOf ∈ kTb := kTb_of (kch_5 _ (List.mem_of_getElem? (i := 77) rfl)) (by decide +kernel)
theorem kl_X5_usedContexts : kLk yX5_usedContexts cX5_usedContexts 3 (some .int) [] 0 := ⟨kTb_of (kch_9 _ (List.mem_of_getElem? (i := 148) rfl)) (by decide +kernel), kz_SearchCluster_Node, by decide +kernel, by decide +kernel, by decide⟩
theorem ki_X5_usedContexts : Cond.instanceMethod yX5_usedContexts ∈ kTb := kTb_of (kch_9 _ (List.mem_of_getElem? (i := 146) rfl)) (by decide +kernel)
theorem kse_X5_usedContexts : Cond.selects (yX5_usedContexts).cls yX5_usedContexts yX5_usedContexts ∈ kTb := kTb_of (kch_9 _ (List.mem_of_getElem? (i := 147) rfl)) (by decide +kernel)
theorem kl_X6_init : kLk yX6_init cX6_init 1 none [] 0 := ⟨kTb_of (kch_6 _ (List.mem_of_getElem? (i := 203) rfl)) (by decide +kernel), kz_SearchCluster_Question, by decide +kernel, by decide +kernel, by decide⟩
theorem ki_X6_init : Cond.instanceMethod yX6_init ∈ kTb := kTb_of (kch_6 _ (List.mem_of_getElem? (i := 202) rfl)) (by decide +kernel)
theorem kl_X6_endQuoted : kLk yX6_endQuoted cX6_endQuoted 5 (some .int) [] 4 := ⟨kTb_of (kch_6 _ (List.mem_of_getElem? (i := 236) rfl)) (by decide +kernel), kz_SearchCluster_Question, by decide +kernel, by decide +kernel, by decide⟩
theorem ki_X6_endQuoted : Cond.instanceMethod yX6_endQuoted ∈ kTb := kTb_of (kch_6 _ (List.mem_of_getElem? (i := 235) rfl)) (by decide +kernel)
theorem kse_X6_endQuoted : Cond.selects (yX6_endQuoted).cls yX6_endQuoted yX6_endQuoted ∈ kTb := kTb_of (kcs_3 _ (List.mem_of_getElem? (i := 9) rfl)) (by decide +kernel)
theorem kl_X6_fault : kLk yX6_fault cX6_fault 1 (some .int) [] 1 := ⟨kTb_of (kch_6 _ (List.mem_of_getElem? (i := 224) rfl)) (by decide +kernel), kz_SearchCluster_Question, by decide +kernel, by decide +kernel, by decide⟩
theorem kst_X6_fault : Cond.static yX6_fault ∈ kTb := kTb_of (kch_6 _ (List.mem_of_getElem? (i := 223) rfl)) (by decide +kernel)
theorem kl_X6_gain : kLk yX6_gain cX6_gain 11 (some .long) [] 4 := ⟨kTb_of (kch_8 _ (List.mem_of_getElem? (i := 80) rfl)) (by decide +kernel), kz_SearchCluster_Question, by decide +kernel, by decide +kernel, by decide⟩
theorem kst_X6_gain : Cond.static yX6_gain ∈ kTb := kTb_of (kch_8 _ (List.mem_of_getElem? (i := 79) rfl)) (by decide +kernel)
theorem kl_X6_hasBetween : kLk yX6_hasBetween cX6_hasBetween 6 (some .boolean) [] 3 := ⟨kTb_of (kch_8 _ (List.mem_of_getElem? (i := 54) rfl)) (by decide +kernel), kz_SearchCluster_Question, by decide +kernel, by decide +kernel, by decide⟩
theorem kst_X6_hasBetween : Cond.static yX6_hasBetween ∈ kTb := kTb_of (kch_8 _ (List.mem_of_getElem? (i := 53) rfl)) (by decide +kernel)
theorem kl_X6_keepStar : kLk yX6_keepStar cX6_keepStar 9 none [] 3 := ⟨kTb_of (kch_7 _ (List.mem_of_getElem? (i := 12) rfl)) (by decide +kernel), kz_SearchCluster_Question, by decide +kernel, by decide +kernel, by decide⟩
theorem ki_X6_keepStar : Cond.instanceMethod yX6_keepStar ∈ kTb := kTb_of (kch_7 _ (List.mem_of_getElem? (i := 11) rfl)) (by decide +kernel)
theorem kse_X6_keepStar : Cond.selects (yX6_keepStar).cls yX6_keepStar yX6_keepStar ∈ kTb := kTb_of (kcs_3 _ (List.mem_of_getElem? (i := 12) rfl)) (by decide +kernel)
theorem kl_X6_keepWords : kLk yX6_keepWords cX6_keepWords 2 none [] 1 := ⟨kTb_of (kch_7 _ (List.mem_of_getElem? (i := 0) rfl)) (by decide +kernel), kz_SearchCluster_Question, by decide +kernel, by decide +kernel, by decide⟩
theorem ki_X6_keepWords : Cond.instanceMethod yX6_keepWords ∈ kTb := kTb_of (kch_6 _ (List.mem_of_getElem? (i := 239) rfl)) (by decide +kernel)
theorem kse_X6_keepWords : Cond.selects (yX6_keepWords).cls yX6_keepWords yX6_keepWords ∈ kTb := kTb_of (kcs_3 _ (List.mem_of_getElem? (i := 10) rfl)) (by decide +kernel)
theorem kl_X6_logOf : kLk yX6_logOf cX6_logOf 3 (some .int) [] 1 := ⟨kTb_of (kch_8 _ (List.mem_of_getElem? (i := 77) rfl)) (by decide +kernel), kz_SearchCluster_Question, by decide +kernel, by decide +kernel, by decide⟩
theorem kst_X6_logOf : Cond.static yX6_logOf ∈ kTb := kTb_of (kch_8 _ (List.mem_of_getElem? (i := 76) rfl)) (by decide +kernel)
theorem kl_X6_rareOf : kLk yX6_rareOf cX6_rareOf 6 (some .long) [] 3 := ⟨kTb_of (kch_8 _ (List.mem_of_getElem? (i := 74) rfl)) (by decide +kernel), kz_SearchCluster_Question, by decide +kernel, by decide +kernel, by decide⟩
theorem kst_X6_rareOf : Cond.static yX6_rareOf ∈ kTb := kTb_of (kch_8 _ (List.mem_of_getElem? (i := 73) rfl)) (by decide +kernel)
theorem kl_X6_read : kLk yX6_read cX6_read 6 (some .int) [] 2 := ⟨kTb_of (kch_6 _ (List.mem_of_getElem? (i := 221) rfl)) (by decide +kernel), kz_SearchCluster_Question, by decide +kernel, by decide +kernel, by decide⟩
theorem ki_X6_read : Cond.instanceMethod yX6_read ∈ kTb := kTb_of (kch_6 _ (List.mem_of_getElem? (i := 219) rfl)) (by decide +kernel)
theorem kse_X6_read : Cond.selects (yX6_read).cls yX6_read yX6_read ∈ kTb := kTb_of (kch_6 _ (List.mem_of_getElem? (i := 220) rfl)) (by decide +kernel)
theorem kl_X6_readClause : kLk yX6_readClause cX6_readClause 9 (some .int) [] 3 := ⟨kTb_of (kch_6 _ (List.mem_of_getElem? (i := 228) rfl)) (by decide +kernel), kz_SearchCluster_Question, by decide +kernel, by decide +kernel, by decide⟩
theorem ki_X6_readClause : Cond.instanceMethod yX6_readClause ∈ kTb := kTb_of (kch_6 _ (List.mem_of_getElem? (i := 227) rfl)) (by decide +kernel)
theorem kse_X6_readClause : Cond.selects (yX6_readClause).cls yX6_readClause yX6_readClause ∈ kTb := kTb_of (kcs_3 _ (List.mem_of_getElem? (i := 7) rfl)) (by decide +kernel)
theorem kl_X6_readQuoted : kLk yX6_readQuoted cX6_readQuoted 6 (some .int) [] 3 := ⟨kTb_of (kch_6 _ (List.mem_of_getElem? (i := 232) rfl)) (by decide +kernel), kz_SearchCluster_Question, by decide +kernel, by decide +kernel, by decide⟩
theorem ki_X6_readQuoted : Cond.instanceMethod yX6_readQuoted ∈ kTb := kTb_of (kch_6 _ (List.mem_of_getElem? (i := 231) rfl)) (by decide +kernel)
theorem kse_X6_readQuoted : Cond.selects (yX6_readQuoted).cls yX6_readQuoted yX6_readQuoted ∈ kTb := kTb_of (kcs_3 _ (List.mem_of_getElem? (i := 8) rfl)) (by decide +kernel)
theorem kl_X6_scoreOf : kLk yX6_scoreOf cX6_scoreOf 10 (some .int) [] 2 := ⟨kTb_of (kch_8 _ (List.mem_of_getElem? (i := 62) rfl)) (by decide +kernel), kz_SearchCluster_Question, by decide +kernel, by decide +kernel, by decide⟩
theorem ki_X6_scoreOf : Cond.instanceMethod yX6_scoreOf ∈ kTb := kTb_of (kch_8 _ (List.mem_of_getElem? (i := 60) rfl)) (by decide +kernel)
theorem kse_X6_scoreOf : Cond.selects (yX6_scoreOf).cls yX6_scoreOf yX6_scoreOf ∈ kTb := kTb_of (kch_8 _ (List.mem_of_getElem? (i := 61) rfl)) (by decide +kernel)
theorem kl_X6_standsAt : kLk yX6_standsAt cX6_standsAt 7 (some .boolean) [] 3 := ⟨kTb_of (kch_8 _ (List.mem_of_getElem? (i := 70) rfl)) (by decide +kernel), kz_SearchCluster_Question, by decide +kernel, by decide +kernel, by decide⟩
theorem ki_X6_standsAt : Cond.instanceMethod yX6_standsAt ∈ kTb := kTb_of (kch_8 _ (List.mem_of_getElem? (i := 69) rfl)) (by decide +kernel)
theorem kse_X6_standsAt : Cond.selects (yX6_standsAt).cls yX6_standsAt yX6_standsAt ∈ kTb := kTb_of (kcs_5 _ (List.mem_of_getElem? (i := 3) rfl)) (by decide +kernel)
theorem kl_X6_tally : kLk yX6_tally cX6_tally 6 none [] 3 := ⟨kTb_of (kch_8 _ (List.mem_of_getElem? (i := 46) rfl)) (by decide +kernel), kz_SearchCluster_Question, by decide +kernel, by decide +kernel, by decide⟩
theorem ki_X6_tally : Cond.instanceMethod yX6_tally ∈ kTb := kTb_of (kch_8 _ (List.mem_of_getElem? (i := 44) rfl)) (by decide +kernel)
theorem kse_X6_tally : Cond.selects (yX6_tally).cls yX6_tally yX6_tally ∈ kTb := kTb_of (kch_8 _ (List.mem_of_getElem? (i := 45) rfl)) (by decide +kernel)
theorem kl_X6_tallyWords : kLk yX6_tallyWords cX6_tallyWords 8 none [] 2 := ⟨kTb_of (kch_8 _ (List.mem_of_getElem? (i := 51) rfl)) (by decide +kernel), kz_SearchCluster_Question, by decide +kernel, by decide +kernel, by decide⟩
theorem ki_X6_tallyWords : Cond.instanceMethod yX6_tallyWords ∈ kTb := kTb_of (kch_8 _ (List.mem_of_getElem? (i := 50) rfl)) (by decide +kernel)
theorem kse_X6_tallyWords : Cond.selects (yX6_tallyWords).cls yX6_tallyWords yX6_tallyWords ∈ kTb := kTb_of (kcs_5 _ (List.mem_of_getElem? (i := 1) rfl)) (by decide +kernel)
theorem kl_X6_timesIn : kLk yX6_timesIn cX6_timesIn 6 (some .int) [] 2 := ⟨kTb_of (kch_8 _ (List.mem_of_getElem? (i := 66) rfl)) (by decide +kernel), kz_SearchCluster_Question, by decide +kernel, by decide +kernel, by decide⟩
theorem ki_X6_timesIn : Cond.instanceMethod yX6_timesIn ∈ kTb := kTb_of (kch_8 _ (List.mem_of_getElem? (i := 65) rfl)) (by decide +kernel)
theorem kse_X6_timesIn : Cond.selects (yX6_timesIn).cls yX6_timesIn yX6_timesIn ∈ kTb := kTb_of (kcs_5 _ (List.mem_of_getElem? (i := 2) rfl)) (by decide +kernel)
theorem kl_X6_wordsIn : kLk yX6_wordsIn cX6_wordsIn 4 (some .int) [] 1 := ⟨kTb_of (kch_7 _ (List.mem_of_getElem? (i := 4) rfl)) (by decide +kernel), kz_SearchCluster_Question, by decide +kernel, by decide +kernel, by decide⟩
theorem ki_X6_wordsIn : Cond.instanceMethod yX6_wordsIn ∈ kTb := kTb_of (kch_7 _ (List.mem_of_getElem? (i := 3) rfl)) (by decide +kernel)
theorem kse_X6_wordsIn : Cond.selects (yX6_wordsIn).cls yX6_wordsIn yX6_wordsIn ∈ kTb := kTb_of (kcs_3 _ (List.mem_of_getElem? (i := 11) rfl)) (by decide +kernel)
theorem kl_X7_init : kLk yX7_init cX7_init 2 none [] 1 := ⟨kTb_of (kch_1 _ (List.mem_of_getElem? (i := 210) rfl)) (by decide +kernel), kz_SearchCluster_Replica, by decide +kernel, by decide +kernel, by decide⟩
theorem ki_X7_init : Cond.instanceMethod yX7_init ∈ kTb := kTb_of (kch_1 _ (List.mem_of_getElem? (i := 209) rfl)) (by decide +kernel)
theorem kl_X7_ack : kLk yX7_ack cX7_ack 2 none [] 1 := ⟨kTb_of (kch_7 _ (List.mem_of_getElem? (i := 138) rfl)) (by decide +kernel), kz_SearchCluster_Replica, by decide +kernel, by decide +kernel, by decide⟩
theorem ki_X7_ack : Cond.instanceMethod yX7_ack ∈ kTb := kTb_of (kch_7 _ (List.mem_of_getElem? (i := 137) rfl)) (by decide +kernel)
theorem kse_X7_ack : Cond.selects (yX7_ack).cls yX7_ack yX7_ack ∈ kTb := kTb_of (kcs_4 _ (List.mem_of_getElem? (i := 3) rfl)) (by decide +kernel)
theorem kl_X7_adjust : kLk yX7_adjust cX7_adjust 2 none [] 0 := ⟨kTb_of (kch_7 _ (List.mem_of_getElem? (i := 225) rfl)) (by decide +kernel), kz_SearchCluster_Replica, by decide +kernel, by decide +kernel, by decide⟩
theorem ki_X7_adjust : Cond.instanceMethod yX7_adjust ∈ kTb := kTb_of (kch_7 _ (List.mem_of_getElem? (i := 224) rfl)) (by decide +kernel)
theorem kse_X7_adjust : Cond.selects (yX7_adjust).cls yX7_adjust yX7_adjust ∈ kTb := kTb_of (kcs_4 _ (List.mem_of_getElem? (i := 12) rfl)) (by decide +kernel)
theorem kl_X7_become : kLk yX7_become cX7_become 2 none [] 0 := ⟨kTb_of (kch_7 _ (List.mem_of_getElem? (i := 233) rfl)) (by decide +kernel), kz_SearchCluster_Replica, by decide +kernel, by decide +kernel, by decide⟩
theorem ki_X7_become : Cond.instanceMethod yX7_become ∈ kTb := kTb_of (kch_7 _ (List.mem_of_getElem? (i := 232) rfl)) (by decide +kernel)
theorem kse_X7_become : Cond.selects (yX7_become).cls yX7_become yX7_become ∈ kTb := kTb_of (kcs_4 _ (List.mem_of_getElem? (i := 13) rfl)) (by decide +kernel)
theorem kl_X7_begin : kLk yX7_begin cX7_begin 4 none [] 2 := ⟨kTb_of (kch_3 _ (List.mem_of_getElem? (i := 10) rfl)) (by decide +kernel), kz_SearchCluster_Replica, by decide +kernel, by decide +kernel, by decide⟩
theorem ki_X7_begin : Cond.instanceMethod yX7_begin ∈ kTb := kTb_of (kch_3 _ (List.mem_of_getElem? (i := 8) rfl)) (by decide +kernel)
theorem kse_X7_begin : Cond.selects (yX7_begin).cls yX7_begin yX7_begin ∈ kTb := kTb_of (kch_3 _ (List.mem_of_getElem? (i := 9) rfl)) (by decide +kernel)
theorem kl_X7_bringOn : kLk yX7_bringOn cX7_bringOn 4 none [] 1 := ⟨kTb_of (kch_5 _ (List.mem_of_getElem? (i := 118) rfl)) (by decide +kernel), kz_SearchCluster_Replica, by decide +kernel, by decide +kernel, by decide⟩
theorem ki_X7_bringOn : Cond.instanceMethod yX7_bringOn ∈ kTb := kTb_of (kch_5 _ (List.mem_of_getElem? (i := 117) rfl)) (by decide +kernel)
theorem kse_X7_bringOn : Cond.selects (yX7_bringOn).cls yX7_bringOn yX7_bringOn ∈ kTb := kTb_of (kcs_2 _ (List.mem_of_getElem? (i := 6) rfl)) (by decide +kernel)
theorem kl_X7_heeds : kLk yX7_heeds cX7_heeds 3 (some .boolean) [] 2 := ⟨kTb_of (kch_7 _ (List.mem_of_getElem? (i := 128) rfl)) (by decide +kernel), kz_SearchCluster_Replica, by decide +kernel, by decide +kernel, by decide⟩
theorem ki_X7_heeds : Cond.instanceMethod yX7_heeds ∈ kTb := kTb_of (kch_7 _ (List.mem_of_getElem? (i := 127) rfl)) (by decide +kernel)
theorem kse_X7_heeds : Cond.selects (yX7_heeds).cls yX7_heeds yX7_heeds ∈ kTb := kTb_of (kcs_4 _ (List.mem_of_getElem? (i := 2) rfl)) (by decide +kernel)
theorem kl_X7_isInMask : kLk yX7_isInMask cX7_isInMask 2 (some .boolean) [] 1 := ⟨kTb_of (kch_7 _ (List.mem_of_getElem? (i := 229) rfl)) (by decide +kernel), kz_SearchCluster_Replica, by decide +kernel, by decide +kernel, by decide⟩
theorem ki_X7_isInMask : Cond.instanceMethod yX7_isInMask ∈ kTb := kTb_of (kch_7 _ (List.mem_of_getElem? (i := 227) rfl)) (by decide +kernel)
theorem kse_X7_isInMask : Cond.selects (yX7_isInMask).cls yX7_isInMask yX7_isInMask ∈ kTb := kTb_of (kch_7 _ (List.mem_of_getElem? (i := 228) rfl)) (by decide +kernel)
theorem kl_X7_isOther : kLk yX7_isOther cX7_isOther 2 (some .boolean) [] 1 := ⟨kTb_of (kch_5 _ (List.mem_of_getElem? (i := 5) rfl)) (by decide +kernel), kz_SearchCluster_Replica, by decide +kernel, by decide +kernel, by decide⟩
theorem ki_X7_isOther : Cond.instanceMethod yX7_isOther ∈ kTb := kTb_of (kch_5 _ (List.mem_of_getElem? (i := 3) rfl)) (by decide +kernel)
theorem kse_X7_isOther : Cond.selects (yX7_isOther).cls yX7_isOther yX7_isOther ∈ kTb := kTb_of (kch_5 _ (List.mem_of_getElem? (i := 4) rfl)) (by decide +kernel)
theorem kl_X7_isSeen : kLk yX7_isSeen cX7_isSeen 4 (some .boolean) [] 1 := ⟨kTb_of (kch_7 _ (List.mem_of_getElem? (i := 120) rfl)) (by decide +kernel), kz_SearchCluster_Replica, by decide +kernel, by decide +kernel, by decide⟩
theorem ki_X7_isSeen : Cond.instanceMethod yX7_isSeen ∈ kTb := kTb_of (kch_7 _ (List.mem_of_getElem? (i := 119) rfl)) (by decide +kernel)
theorem kse_X7_isSeen : Cond.selects (yX7_isSeen).cls yX7_isSeen yX7_isSeen ∈ kTb := kTb_of (kcs_4 _ (List.mem_of_getElem? (i := 1) rfl)) (by decide +kernel)
theorem kl_X7_isWaiting : kLk yX7_isWaiting cX7_isWaiting 3 (some .boolean) [] 1 := ⟨kTb_of (kch_8 _ (List.mem_of_getElem? (i := 2) rfl)) (by decide +kernel), kz_SearchCluster_Replica, by decide +kernel, by decide +kernel, by decide⟩
theorem ki_X7_isWaiting : Cond.instanceMethod yX7_isWaiting ∈ kTb := kTb_of (kch_8 _ (List.mem_of_getElem? (i := 1) rfl)) (by decide +kernel)
theorem kse_X7_isWaiting : Cond.selects (yX7_isWaiting).cls yX7_isWaiting yX7_isWaiting ∈ kTb := kTb_of (kcs_4 _ (List.mem_of_getElem? (i := 14) rfl)) (by decide +kernel)
theorem kl_X7_join : kLk yX7_join cX7_join 1 none [] 0 := ⟨kTb_of (kch_5 _ (List.mem_of_getElem? (i := 86) rfl)) (by decide +kernel), kz_SearchCluster_Replica, by decide +kernel, by decide +kernel, by decide⟩
theorem ki_X7_join : Cond.instanceMethod yX7_join ∈ kTb := kTb_of (kch_5 _ (List.mem_of_getElem? (i := 85) rfl)) (by decide +kernel)
theorem kse_X7_join : Cond.selects (yX7_join).cls yX7_join yX7_join ∈ kTb := kTb_of (kcs_2 _ (List.mem_of_getElem? (i := 1) rfl)) (by decide +kernel)
theorem kl_X7_leads : kLk yX7_leads cX7_leads 2 (some .boolean) [] 1 := ⟨kTb_of (kch_5 _ (List.mem_of_getElem? (i := 102) rfl)) (by decide +kernel), kz_SearchCluster_Replica, by decide +kernel, by decide +kernel, by decide⟩
theorem ki_X7_leads : Cond.instanceMethod yX7_leads ∈ kTb := kTb_of (kch_5 _ (List.mem_of_getElem? (i := 101) rfl)) (by decide +kernel)
theorem kse_X7_leads : Cond.selects (yX7_leads).cls yX7_leads yX7_leads ∈ kTb := kTb_of (kcs_2 _ (List.mem_of_getElem? (i := 2) rfl)) (by decide +kernel)
theorem kl_X7_load : kLk yX7_load cX7_load 1 none [] 0 := ⟨kTb_of (kch_8 _ (List.mem_of_getElem? (i := 211) rfl)) (by decide +kernel), kz_SearchCluster_Replica, by decide +kernel, by decide +kernel, by decide⟩
theorem ki_X7_load : Cond.instanceMethod yX7_load ∈ kTb := kTb_of (kch_8 _ (List.mem_of_getElem? (i := 209) rfl)) (by decide +kernel)
theorem kse_X7_load : Cond.selects (yX7_load).cls yX7_load yX7_load ∈ kTb := kTb_of (kch_8 _ (List.mem_of_getElem? (i := 210) rfl)) (by decide +kernel)
theorem kl_X7_onAck : kLk yX7_onAck cX7_onAck 3 none [] 2 := ⟨kTb_of (kch_7 _ (List.mem_of_getElem? (i := 142) rfl)) (by decide +kernel), kz_SearchCluster_Replica, by decide +kernel, by decide +kernel, by decide⟩
theorem ki_X7_onAck : Cond.instanceMethod yX7_onAck ∈ kTb := kTb_of (kch_7 _ (List.mem_of_getElem? (i := 140) rfl)) (by decide +kernel)
theorem kse_X7_onAck : Cond.selects (yX7_onAck).cls yX7_onAck yX7_onAck ∈ kTb := kTb_of (kch_7 _ (List.mem_of_getElem? (i := 141) rfl)) (by decide +kernel)
theorem kl_X7_onConfig : kLk yX7_onConfig cX7_onConfig 2 none [] 1 := ⟨kTb_of (kch_7 _ (List.mem_of_getElem? (i := 220) rfl)) (by decide +kernel), kz_SearchCluster_Replica, by decide +kernel, by decide +kernel, by decide⟩
theorem ki_X7_onConfig : Cond.instanceMethod yX7_onConfig ∈ kTb := kTb_of (kch_7 _ (List.mem_of_getElem? (i := 218) rfl)) (by decide +kernel)
theorem kse_X7_onConfig : Cond.selects (yX7_onConfig).cls yX7_onConfig yX7_onConfig ∈ kTb := kTb_of (kch_7 _ (List.mem_of_getElem? (i := 219) rfl)) (by decide +kernel)
theorem kl_X7_onJoin : kLk yX7_onJoin cX7_onJoin 2 none [] 1 := ⟨kTb_of (kch_7 _ (List.mem_of_getElem? (i := 212) rfl)) (by decide +kernel), kz_SearchCluster_Replica, by decide +kernel, by decide +kernel, by decide⟩
theorem ki_X7_onJoin : Cond.instanceMethod yX7_onJoin ∈ kTb := kTb_of (kch_7 _ (List.mem_of_getElem? (i := 210) rfl)) (by decide +kernel)
theorem kse_X7_onJoin : Cond.selects (yX7_onJoin).cls yX7_onJoin yX7_onJoin ∈ kTb := kTb_of (kch_7 _ (List.mem_of_getElem? (i := 211) rfl)) (by decide +kernel)
theorem kl_X7_onOut : kLk yX7_onOut cX7_onOut 3 none [] 1 := ⟨kTb_of (kch_7 _ (List.mem_of_getElem? (i := 216) rfl)) (by decide +kernel), kz_SearchCluster_Replica, by decide +kernel, by decide +kernel, by decide⟩
theorem ki_X7_onOut : Cond.instanceMethod yX7_onOut ∈ kTb := kTb_of (kch_7 _ (List.mem_of_getElem? (i := 214) rfl)) (by decide +kernel)
theorem kse_X7_onOut : Cond.selects (yX7_onOut).cls yX7_onOut yX7_onOut ∈ kTb := kTb_of (kch_7 _ (List.mem_of_getElem? (i := 215) rfl)) (by decide +kernel)
theorem kl_X7_onRepl : kLk yX7_onRepl cX7_onRepl 3 none [] 2 := ⟨kTb_of (kch_7 _ (List.mem_of_getElem? (i := 124) rfl)) (by decide +kernel), kz_SearchCluster_Replica, by decide +kernel, by decide +kernel, by decide⟩
theorem ki_X7_onRepl : Cond.instanceMethod yX7_onRepl ∈ kTb := kTb_of (kch_7 _ (List.mem_of_getElem? (i := 122) rfl)) (by decide +kernel)
theorem kse_X7_onRepl : Cond.selects (yX7_onRepl).cls yX7_onRepl yX7_onRepl ∈ kTb := kTb_of (kch_7 _ (List.mem_of_getElem? (i := 123) rfl)) (by decide +kernel)
theorem kl_X7_onShow : kLk yX7_onShow cX7_onShow 5 none [] 2 := ⟨kTb_of (kch_7 _ (List.mem_of_getElem? (i := 238) rfl)) (by decide +kernel), kz_SearchCluster_Replica, by decide +kernel, by decide +kernel, by decide⟩
theorem ki_X7_onShow : Cond.instanceMethod yX7_onShow ∈ kTb := kTb_of (kch_7 _ (List.mem_of_getElem? (i := 236) rfl)) (by decide +kernel)
theorem kse_X7_onShow : Cond.selects (yX7_onShow).cls yX7_onShow yX7_onShow ∈ kTb := kTb_of (kch_7 _ (List.mem_of_getElem? (i := 237) rfl)) (by decide +kernel)
theorem kl_X7_onShowTo : kLk yX7_onShowTo cX7_onShowTo 4 none [] 2 := ⟨kTb_of (kch_8 _ (List.mem_of_getElem? (i := 7) rfl)) (by decide +kernel), kz_SearchCluster_Replica, by decide +kernel, by decide +kernel, by decide⟩
theorem ki_X7_onShowTo : Cond.instanceMethod yX7_onShowTo ∈ kTb := kTb_of (kch_8 _ (List.mem_of_getElem? (i := 5) rfl)) (by decide +kernel)
theorem kse_X7_onShowTo : Cond.selects (yX7_onShowTo).cls yX7_onShowTo yX7_onShowTo ∈ kTb := kTb_of (kch_8 _ (List.mem_of_getElem? (i := 6) rfl)) (by decide +kernel)
theorem kl_X7_onSync : kLk yX7_onSync cX7_onSync 4 none [] 2 := ⟨kTb_of (kch_7 _ (List.mem_of_getElem? (i := 146) rfl)) (by decide +kernel), kz_SearchCluster_Replica, by decide +kernel, by decide +kernel, by decide⟩
theorem ki_X7_onSync : Cond.instanceMethod yX7_onSync ∈ kTb := kTb_of (kch_7 _ (List.mem_of_getElem? (i := 144) rfl)) (by decide +kernel)
theorem kse_X7_onSync : Cond.selects (yX7_onSync).cls yX7_onSync yX7_onSync ∈ kTb := kTb_of (kch_7 _ (List.mem_of_getElem? (i := 145) rfl)) (by decide +kernel)
theorem kl_X7_onWant : kLk yX7_onWant cX7_onWant 3 none [] 2 := ⟨kTb_of (kch_7 _ (List.mem_of_getElem? (i := 208) rfl)) (by decide +kernel), kz_SearchCluster_Replica, by decide +kernel, by decide +kernel, by decide⟩
theorem ki_X7_onWant : Cond.instanceMethod yX7_onWant ∈ kTb := kTb_of (kch_7 _ (List.mem_of_getElem? (i := 206) rfl)) (by decide +kernel)
theorem kse_X7_onWant : Cond.selects (yX7_onWant).cls yX7_onWant yX7_onWant ∈ kTb := kTb_of (kch_7 _ (List.mem_of_getElem? (i := 207) rfl)) (by decide +kernel)
theorem kl_X7_onWrite : kLk yX7_onWrite cX7_onWrite 6 none [] 2 := ⟨kTb_of (kch_7 _ (List.mem_of_getElem? (i := 92) rfl)) (by decide +kernel), kz_SearchCluster_Replica, by decide +kernel, by decide +kernel, by decide⟩
theorem ki_X7_onWrite : Cond.instanceMethod yX7_onWrite ∈ kTb := kTb_of (kch_7 _ (List.mem_of_getElem? (i := 90) rfl)) (by decide +kernel)
theorem kse_X7_onWrite : Cond.selects (yX7_onWrite).cls yX7_onWrite yX7_onWrite ∈ kTb := kTb_of (kch_7 _ (List.mem_of_getElem? (i := 91) rfl)) (by decide +kernel)
theorem kl_X7_pulse : kLk yX7_pulse cX7_pulse 2 none [] 0 := ⟨kTb_of (kch_5 _ (List.mem_of_getElem? (i := 82) rfl)) (by decide +kernel), kz_SearchCluster_Replica, by decide +kernel, by decide +kernel, by decide⟩
theorem ki_X7_pulse : Cond.instanceMethod yX7_pulse ∈ kTb := kTb_of (kch_5 _ (List.mem_of_getElem? (i := 80) rfl)) (by decide +kernel)
theorem kse_X7_pulse : Cond.selects (yX7_pulse).cls yX7_pulse yX7_pulse ∈ kTb := kTb_of (kch_5 _ (List.mem_of_getElem? (i := 81) rfl)) (by decide +kernel)
theorem kl_X7_sendAdd : kLk yX7_sendAdd cX7_sendAdd 2 none [] 1 := ⟨kTb_of (kch_5 _ (List.mem_of_getElem? (i := 114) rfl)) (by decide +kernel), kz_SearchCluster_Replica, by decide +kernel, by decide +kernel, by decide⟩
theorem ki_X7_sendAdd : Cond.instanceMethod yX7_sendAdd ∈ kTb := kTb_of (kch_5 _ (List.mem_of_getElem? (i := 113) rfl)) (by decide +kernel)
theorem kse_X7_sendAdd : Cond.selects (yX7_sendAdd).cls yX7_sendAdd yX7_sendAdd ∈ kTb := kTb_of (kcs_2 _ (List.mem_of_getElem? (i := 5) rfl)) (by decide +kernel)
theorem kl_X7_sendFail : kLk yX7_sendFail cX7_sendFail 2 none [] 1 := ⟨kTb_of (kch_5 _ (List.mem_of_getElem? (i := 110) rfl)) (by decide +kernel), kz_SearchCluster_Replica, by decide +kernel, by decide +kernel, by decide⟩
theorem ki_X7_sendFail : Cond.instanceMethod yX7_sendFail ∈ kTb := kTb_of (kch_5 _ (List.mem_of_getElem? (i := 109) rfl)) (by decide +kernel)
theorem kse_X7_sendFail : Cond.selects (yX7_sendFail).cls yX7_sendFail yX7_sendFail ∈ kTb := kTb_of (kcs_2 _ (List.mem_of_getElem? (i := 4) rfl)) (by decide +kernel)
theorem kl_X7_sendRepl : kLk yX7_sendRepl cX7_sendRepl 3 none [] 2 := ⟨kTb_of (kch_5 _ (List.mem_of_getElem? (i := 133) rfl)) (by decide +kernel), kz_SearchCluster_Replica, by decide +kernel, by decide +kernel, by decide⟩
theorem ki_X7_sendRepl : Cond.instanceMethod yX7_sendRepl ∈ kTb := kTb_of (kch_5 _ (List.mem_of_getElem? (i := 132) rfl)) (by decide +kernel)
theorem kse_X7_sendRepl : Cond.selects (yX7_sendRepl).cls yX7_sendRepl yX7_sendRepl ∈ kTb := kTb_of (kcs_2 _ (List.mem_of_getElem? (i := 8) rfl)) (by decide +kernel)
theorem kl_X7_sendShowTo : kLk yX7_sendShowTo cX7_sendShowTo 2 none [] 1 := ⟨kTb_of (kch_5 _ (List.mem_of_getElem? (i := 138) rfl)) (by decide +kernel), kz_SearchCluster_Replica, by decide +kernel, by decide +kernel, by decide⟩
theorem ki_X7_sendShowTo : Cond.instanceMethod yX7_sendShowTo ∈ kTb := kTb_of (kch_5 _ (List.mem_of_getElem? (i := 137) rfl)) (by decide +kernel)
theorem kse_X7_sendShowTo : Cond.selects (yX7_sendShowTo).cls yX7_sendShowTo yX7_sendShowTo ∈ kTb := kTb_of (kcs_2 _ (List.mem_of_getElem? (i := 9) rfl)) (by decide +kernel)
theorem kl_X7_setOther : kLk yX7_setOther cX7_setOther 5 none [] 4 := ⟨kTb_of (kch_5 _ (List.mem_of_getElem? (i := 10) rfl)) (by decide +kernel), kz_SearchCluster_Replica, by decide +kernel, by decide +kernel, by decide⟩
theorem ki_X7_setOther : Cond.instanceMethod yX7_setOther ∈ kTb := kTb_of (kch_5 _ (List.mem_of_getElem? (i := 9) rfl)) (by decide +kernel)
theorem kse_X7_setOther : Cond.selects (yX7_setOther).cls yX7_setOther yX7_setOther ∈ kTb := kTb_of (kcs_1 _ (List.mem_of_getElem? (i := 12) rfl)) (by decide +kernel)
theorem kl_X7_settle : kLk yX7_settle cX7_settle 4 none [] 0 := ⟨kTb_of (kch_7 _ (List.mem_of_getElem? (i := 112) rfl)) (by decide +kernel), kz_SearchCluster_Replica, by decide +kernel, by decide +kernel, by decide⟩
theorem ki_X7_settle : Cond.instanceMethod yX7_settle ∈ kTb := kTb_of (kch_7 _ (List.mem_of_getElem? (i := 111) rfl)) (by decide +kernel)
theorem kse_X7_settle : Cond.selects (yX7_settle).cls yX7_settle yX7_settle ∈ kTb := kTb_of (kcs_4 _ (List.mem_of_getElem? (i := 0) rfl)) (by decide +kernel)
theorem kl_X7_stepDown : kLk yX7_stepDown cX7_stepDown 2 none [] 1 := ⟨kTb_of (kch_7 _ (List.mem_of_getElem? (i := 150) rfl)) (by decide +kernel), kz_SearchCluster_Replica, by decide +kernel, by decide +kernel, by decide⟩
theorem ki_X7_stepDown : Cond.instanceMethod yX7_stepDown ∈ kTb := kTb_of (kch_7 _ (List.mem_of_getElem? (i := 149) rfl)) (by decide +kernel)
theorem kse_X7_stepDown : Cond.selects (yX7_stepDown).cls yX7_stepDown yX7_stepDown ∈ kTb := kTb_of (kcs_4 _ (List.mem_of_getElem? (i := 4) rfl)) (by decide +kernel)
theorem kl_X7_syncWith : kLk yX7_syncWith cX7_syncWith 3 none [] 1 := ⟨kTb_of (kch_5 _ (List.mem_of_getElem? (i := 122) rfl)) (by decide +kernel), kz_SearchCluster_Replica, by decide +kernel, by decide +kernel, by decide⟩
theorem ki_X7_syncWith : Cond.instanceMethod yX7_syncWith ∈ kTb := kTb_of (kch_5 _ (List.mem_of_getElem? (i := 121) rfl)) (by decide +kernel)
theorem kse_X7_syncWith : Cond.selects (yX7_syncWith).cls yX7_syncWith yX7_syncWith ∈ kTb := kTb_of (kcs_2 _ (List.mem_of_getElem? (i := 7) rfl)) (by decide +kernel)
theorem kl_X7_tend : kLk yX7_tend cX7_tend 4 none [] 1 := ⟨kTb_of (kch_5 _ (List.mem_of_getElem? (i := 106) rfl)) (by decide +kernel), kz_SearchCluster_Replica, by decide +kernel, by decide +kernel, by decide⟩
theorem ki_X7_tend : Cond.instanceMethod yX7_tend ∈ kTb := kTb_of (kch_5 _ (List.mem_of_getElem? (i := 105) rfl)) (by decide +kernel)
theorem kse_X7_tend : Cond.selects (yX7_tend).cls yX7_tend yX7_tend ∈ kTb := kTb_of (kcs_2 _ (List.mem_of_getElem? (i := 3) rfl)) (by decide +kernel)
theorem kl_X8_init : kLk yX8_init cX8_init 8 none [] 7 := ⟨kTb_of (kch_6 _ (List.mem_of_getElem? (i := 43) rfl)) (by decide +kernel), kz_SearchCluster_Request, by decide +kernel, by decide +kernel, by decide⟩
theorem ki_X8_init : Cond.instanceMethod yX8_init ∈ kTb := kTb_of (kch_6 _ (List.mem_of_getElem? (i := 42) rfl)) (by decide +kernel)
theorem kl_X8_age : kLk yX8_age cX8_age 2 none [] 1 := ⟨kTb_of (kch_5 _ (List.mem_of_getElem? (i := 155) rfl)) (by decide +kernel), kz_SearchCluster_Request, by decide +kernel, by decide +kernel, by decide⟩
theorem ki_X8_age : Cond.instanceMethod yX8_age ∈ kTb := kTb_of (kch_5 _ (List.mem_of_getElem? (i := 153) rfl)) (by decide +kernel)
theorem kse_X8_age : Cond.selects (yX8_age).cls yX8_age yX8_age ∈ kTb := kTb_of (kch_5 _ (List.mem_of_getElem? (i := 154) rfl)) (by decide +kernel)
theorem kl_X8_chosen : kLk yX8_chosen cX8_chosen 6 (some .int) [] 2 := ⟨kTb_of (kch_8 _ (List.mem_of_getElem? (i := 107) rfl)) (by decide +kernel), kz_SearchCluster_Request, by decide +kernel, by decide +kernel, by decide⟩
theorem ki_X8_chosen : Cond.instanceMethod yX8_chosen ∈ kTb := kTb_of (kch_8 _ (List.mem_of_getElem? (i := 106) rfl)) (by decide +kernel)
theorem kse_X8_chosen : Cond.selects (yX8_chosen).cls yX8_chosen yX8_chosen ∈ kTb := kTb_of (kcs_5 _ (List.mem_of_getElem? (i := 5) rfl)) (by decide +kernel)
theorem kl_X8_countWords : kLk yX8_countWords cX8_countWords 3 (some .int) [] 1 := ⟨kTb_of (kch_6 _ (List.mem_of_getElem? (i := 87) rfl)) (by decide +kernel), kz_SearchCluster_Request, by decide +kernel, by decide +kernel, by decide⟩
theorem kst_X8_countWords : Cond.static yX8_countWords ∈ kTb := kTb_of (kch_6 _ (List.mem_of_getElem? (i := 86) rfl)) (by decide +kernel)
theorem kl_X8_gather : kLk yX8_gather cX8_gather 7 none [] 3 := ⟨kTb_of (kch_8 _ (List.mem_of_getElem? (i := 118) rfl)) (by decide +kernel), kz_SearchCluster_Request, by decide +kernel, by decide +kernel, by decide⟩
theorem ki_X8_gather : Cond.instanceMethod yX8_gather ∈ kTb := kTb_of (kch_8 _ (List.mem_of_getElem? (i := 117) rfl)) (by decide +kernel)
theorem kse_X8_gather : Cond.selects (yX8_gather).cls yX8_gather yX8_gather ∈ kTb := kTb_of (kcs_5 _ (List.mem_of_getElem? (i := 6) rfl)) (by decide +kernel)
theorem kl_X8_onAnswer : kLk yX8_onAnswer cX8_onAnswer 5 none [] 3 := ⟨kTb_of (kch_8 _ (List.mem_of_getElem? (i := 98) rfl)) (by decide +kernel), kz_SearchCluster_Request, by decide +kernel, by decide +kernel, by decide⟩
theorem ki_X8_onAnswer : Cond.instanceMethod yX8_onAnswer ∈ kTb := kTb_of (kch_8 _ (List.mem_of_getElem? (i := 96) rfl)) (by decide +kernel)
theorem kse_X8_onAnswer : Cond.selects (yX8_onAnswer).cls yX8_onAnswer yX8_onAnswer ∈ kTb := kTb_of (kch_8 _ (List.mem_of_getElem? (i := 97) rfl)) (by decide +kernel)
theorem kl_X8_openAll : kLk yX8_openAll cX8_openAll 6 none [] 2 := ⟨kTb_of (kch_8 _ (List.mem_of_getElem? (i := 102) rfl)) (by decide +kernel), kz_SearchCluster_Request, by decide +kernel, by decide +kernel, by decide⟩
theorem ki_X8_openAll : Cond.instanceMethod yX8_openAll ∈ kTb := kTb_of (kch_8 _ (List.mem_of_getElem? (i := 101) rfl)) (by decide +kernel)
theorem kse_X8_openAll : Cond.selects (yX8_openAll).cls yX8_openAll yX8_openAll ∈ kTb := kTb_of (kcs_5 _ (List.mem_of_getElem? (i := 4) rfl)) (by decide +kernel)
theorem kl_X8_scoreAll : kLk yX8_scoreAll cX8_scoreAll 4 none [] 1 := ⟨kTb_of (kch_8 _ (List.mem_of_getElem? (i := 122) rfl)) (by decide +kernel), kz_SearchCluster_Request, by decide +kernel, by decide +kernel, by decide⟩
theorem ki_X8_scoreAll : Cond.instanceMethod yX8_scoreAll ∈ kTb := kTb_of (kch_8 _ (List.mem_of_getElem? (i := 121) rfl)) (by decide +kernel)
theorem kse_X8_scoreAll : Cond.selects (yX8_scoreAll).cls yX8_scoreAll yX8_scoreAll ∈ kTb := kTb_of (kcs_5 _ (List.mem_of_getElem? (i := 7) rfl)) (by decide +kernel)
theorem kl_X8_shardIn : kLk yX8_shardIn cX8_shardIn 2 (some .int) [] 1 := ⟨kTb_of (kch_7 _ (List.mem_of_getElem? (i := 84) rfl)) (by decide +kernel), kz_SearchCluster_Request, by decide +kernel, by decide +kernel, by decide⟩
theorem ki_X8_shardIn : Cond.instanceMethod yX8_shardIn ∈ kTb := kTb_of (kch_7 _ (List.mem_of_getElem? (i := 82) rfl)) (by decide +kernel)
theorem kse_X8_shardIn : Cond.selects (yX8_shardIn).cls yX8_shardIn yX8_shardIn ∈ kTb := kTb_of (kch_7 _ (List.mem_of_getElem? (i := 83) rfl)) (by decide +kernel)
theorem kl_X8_takeTop : kLk yX8_takeTop cX8_takeTop 5 none [] 1 := ⟨kTb_of (kch_8 _ (List.mem_of_getElem? (i := 127) rfl)) (by decide +kernel), kz_SearchCluster_Request, by decide +kernel, by decide +kernel, by decide⟩
theorem ki_X8_takeTop : Cond.instanceMethod yX8_takeTop ∈ kTb := kTb_of (kch_8 _ (List.mem_of_getElem? (i := 126) rfl)) (by decide +kernel)
theorem kse_X8_takeTop : Cond.selects (yX8_takeTop).cls yX8_takeTop yX8_takeTop ∈ kTb := kTb_of (kcs_5 _ (List.mem_of_getElem? (i := 8) rfl)) (by decide +kernel)
theorem kl_X8_toldHits : kLk yX8_toldHits cX8_toldHits 1 (some .int) [] 0 := ⟨kTb_of (kch_7 _ (List.mem_of_getElem? (i := 27) rfl)) (by decide +kernel), kz_SearchCluster_Request, by decide +kernel, by decide +kernel, by decide⟩
theorem ki_X8_toldHits : Cond.instanceMethod yX8_toldHits ∈ kTb := kTb_of (kch_7 _ (List.mem_of_getElem? (i := 25) rfl)) (by decide +kernel)
theorem kse_X8_toldHits : Cond.selects (yX8_toldHits).cls yX8_toldHits yX8_toldHits ∈ kTb := kTb_of (kch_7 _ (List.mem_of_getElem? (i := 26) rfl)) (by decide +kernel)
theorem kl_X9_init : kLk yX9_init cX9_init 1 none [] 0 := ⟨kTb_of (kch_2 _ (List.mem_of_getElem? (i := 198) rfl)) (by decide +kernel), kz_SearchCluster_SegmentOctets, by decide +kernel, by decide +kernel, by decide⟩
theorem ki_X9_init : Cond.instanceMethod yX9_init ∈ kTb := kTb_of (kch_2 _ (List.mem_of_getElem? (i := 197) rfl)) (by decide +kernel)
theorem kl_X9_addNumber : kLk yX9_addNumber cX9_addNumber 3 none [] 1 := ⟨kTb_of (kch_9 _ (List.mem_of_getElem? (i := 89) rfl)) (by decide +kernel), kz_SearchCluster_SegmentOctets, by decide +kernel, by decide +kernel, by decide⟩
theorem ki_X9_addNumber : Cond.instanceMethod yX9_addNumber ∈ kTb := kTb_of (kch_9 _ (List.mem_of_getElem? (i := 88) rfl)) (by decide +kernel)
theorem kse_X9_addNumber : Cond.selects (yX9_addNumber).cls yX9_addNumber yX9_addNumber ∈ kTb := kTb_of (kcs_6 _ (List.mem_of_getElem? (i := 3) rfl)) (by decide +kernel)
theorem kl_X9_addOctet : kLk yX9_addOctet cX9_addOctet 2 none [] 1 := ⟨kTb_of (kch_9 _ (List.mem_of_getElem? (i := 93) rfl)) (by decide +kernel), kz_SearchCluster_SegmentOctets, by decide +kernel, by decide +kernel, by decide⟩
theorem ki_X9_addOctet : Cond.instanceMethod yX9_addOctet ∈ kTb := kTb_of (kch_9 _ (List.mem_of_getElem? (i := 92) rfl)) (by decide +kernel)
theorem kse_X9_addOctet : Cond.selects (yX9_addOctet).cls yX9_addOctet yX9_addOctet ∈ kTb := kTb_of (kcs_6 _ (List.mem_of_getElem? (i := 4) rfl)) (by decide +kernel)
theorem kl_X9_gather : kLk yX9_gather cX9_gather 4 none [] 2 := ⟨kTb_of (kch_9 _ (List.mem_of_getElem? (i := 98) rfl)) (by decide +kernel), kz_SearchCluster_SegmentOctets, by decide +kernel, by decide +kernel, by decide⟩
theorem ki_X9_gather : Cond.instanceMethod yX9_gather ∈ kTb := kTb_of (kch_9 _ (List.mem_of_getElem? (i := 97) rfl)) (by decide +kernel)
theorem kse_X9_gather : Cond.selects (yX9_gather).cls yX9_gather yX9_gather ∈ kTb := kTb_of (kcs_6 _ (List.mem_of_getElem? (i := 5) rfl)) (by decide +kernel)
theorem kl_X9_merge : kLk yX9_merge cX9_merge 9 none [] 3 := ⟨kTb_of (kch_9 _ (List.mem_of_getElem? (i := 107) rfl)) (by decide +kernel), kz_SearchCluster_SegmentOctets, by decide +kernel, by decide +kernel, by decide⟩
theorem ki_X9_merge : Cond.instanceMethod yX9_merge ∈ kTb := kTb_of (kch_9 _ (List.mem_of_getElem? (i := 106) rfl)) (by decide +kernel)
theorem kse_X9_merge : Cond.selects (yX9_merge).cls yX9_merge yX9_merge ∈ kTb := kTb_of (kcs_6 _ (List.mem_of_getElem? (i := 7) rfl)) (by decide +kernel)
theorem kl_X9_sort : kLk yX9_sort cX9_sort 3 none [] 0 := ⟨kTb_of (kch_9 _ (List.mem_of_getElem? (i := 102) rfl)) (by decide +kernel), kz_SearchCluster_SegmentOctets, by decide +kernel, by decide +kernel, by decide⟩
theorem ki_X9_sort : Cond.instanceMethod yX9_sort ∈ kTb := kTb_of (kch_9 _ (List.mem_of_getElem? (i := 101) rfl)) (by decide +kernel)
theorem kse_X9_sort : Cond.selects (yX9_sort).cls yX9_sort yX9_sort ∈ kTb := kTb_of (kcs_6 _ (List.mem_of_getElem? (i := 6) rfl)) (by decide +kernel)
theorem kl_X9_write : kLk yX9_write cX9_write 7 none [] 3 := ⟨kTb_of (kch_9 _ (List.mem_of_getElem? (i := 85) rfl)) (by decide +kernel), kz_SearchCluster_SegmentOctets, by decide +kernel, by decide +kernel, by decide⟩
theorem ki_X9_write : Cond.instanceMethod yX9_write ∈ kTb := kTb_of (kch_9 _ (List.mem_of_getElem? (i := 83) rfl)) (by decide +kernel)
theorem kse_X9_write : Cond.selects (yX9_write).cls yX9_write yX9_write ∈ kTb := kTb_of (kch_9 _ (List.mem_of_getElem? (i := 84) rfl)) (by decide +kernel)
theorem kl_X9_writeSpots : kLk yX9_writeSpots cX9_writeSpots 9 none [] 2 := ⟨kTb_of (kch_9 _ (List.mem_of_getElem? (i := 122) rfl)) (by decide +kernel), kz_SearchCluster_SegmentOctets, by decide +kernel, by decide +kernel, by decide⟩
theorem ki_X9_writeSpots : Cond.instanceMethod yX9_writeSpots ∈ kTb := kTb_of (kch_9 _ (List.mem_of_getElem? (i := 121) rfl)) (by decide +kernel)
theorem kse_X9_writeSpots : Cond.selects (yX9_writeSpots).cls yX9_writeSpots yX9_writeSpots ∈ kTb := kTb_of (kcs_6 _ (List.mem_of_getElem? (i := 10) rfl)) (by decide +kernel)
theorem kl_X9_writeWord : kLk yX9_writeWord cX9_writeWord 13 none [] 2 := ⟨kTb_of (kch_9 _ (List.mem_of_getElem? (i := 116) rfl)) (by decide +kernel), kz_SearchCluster_SegmentOctets, by decide +kernel, by decide +kernel, by decide⟩
theorem ki_X9_writeWord : Cond.instanceMethod yX9_writeWord ∈ kTb := kTb_of (kch_9 _ (List.mem_of_getElem? (i := 115) rfl)) (by decide +kernel)
theorem kse_X9_writeWord : Cond.selects (yX9_writeWord).cls yX9_writeWord yX9_writeWord ∈ kTb := kTb_of (kcs_6 _ (List.mem_of_getElem? (i := 9) rfl)) (by decide +kernel)
theorem kl_X9_writeWords : kLk yX9_writeWords cX9_writeWords 4 none [] 0 := ⟨kTb_of (kch_9 _ (List.mem_of_getElem? (i := 112) rfl)) (by decide +kernel), kz_SearchCluster_SegmentOctets, by decide +kernel, by decide +kernel, by decide⟩
theorem ki_X9_writeWords : Cond.instanceMethod yX9_writeWords ∈ kTb := kTb_of (kch_9 _ (List.mem_of_getElem? (i := 111) rfl)) (by decide +kernel)
theorem kse_X9_writeWords : Cond.selects (yX9_writeWords).cls yX9_writeWords yX9_writeWords ∈ kTb := kTb_of (kcs_6 _ (List.mem_of_getElem? (i := 8) rfl)) (by decide +kernel)
theorem kl_X10_init : kLk yX10_init cX10_init 1 none [] 0 := ⟨kTb_of (kch_1 _ (List.mem_of_getElem? (i := 44) rfl)) (by decide +kernel), kz_SearchCluster_World, by decide +kernel, by decide +kernel, by decide⟩
theorem ki_X10_init : Cond.instanceMethod yX10_init ∈ kTb := kTb_of (kch_1 _ (List.mem_of_getElem? (i := 43) rfl)) (by decide +kernel)
theorem kl_X10_ageRequests : kLk yX10_ageRequests cX10_ageRequests 4 none [] 1 := ⟨kTb_of (kch_5 _ (List.mem_of_getElem? (i := 151) rfl)) (by decide +kernel), kz_SearchCluster_World, by decide +kernel, by decide +kernel, by decide⟩
theorem ki_X10_ageRequests : Cond.instanceMethod yX10_ageRequests ∈ kTb := kTb_of (kch_5 _ (List.mem_of_getElem? (i := 149) rfl)) (by decide +kernel)
theorem kse_X10_ageRequests : Cond.selects (yX10_ageRequests).cls yX10_ageRequests yX10_ageRequests ∈ kTb := kTb_of (kch_5 _ (List.mem_of_getElem? (i := 150) rfl)) (by decide +kernel)
theorem kl_X10_answer : kLk yX10_answer cX10_answer 4 none [] 2 := ⟨kTb_of (kch_8 _ (List.mem_of_getElem? (i := 94) rfl)) (by decide +kernel), kz_SearchCluster_World, by decide +kernel, by decide +kernel, by decide⟩
theorem ki_X10_answer : Cond.instanceMethod yX10_answer ∈ kTb := kTb_of (kch_8 _ (List.mem_of_getElem? (i := 92) rfl)) (by decide +kernel)
theorem kse_X10_answer : Cond.selects (yX10_answer).cls yX10_answer yX10_answer ∈ kTb := kTb_of (kch_8 _ (List.mem_of_getElem? (i := 93) rfl)) (by decide +kernel)
theorem kl_X10_begin : kLk yX10_begin cX10_begin 5 none [] 3 := ⟨kTb_of (kch_2 _ (List.mem_of_getElem? (i := 235) rfl)) (by decide +kernel), kz_SearchCluster_World, by decide +kernel, by decide +kernel, by decide⟩
theorem ki_X10_begin : Cond.instanceMethod yX10_begin ∈ kTb := kTb_of (kch_2 _ (List.mem_of_getElem? (i := 233) rfl)) (by decide +kernel)
theorem kse_X10_begin : Cond.selects (yX10_begin).cls yX10_begin yX10_begin ∈ kTb := kTb_of (kch_2 _ (List.mem_of_getElem? (i := 234) rfl)) (by decide +kernel)
theorem kl_X10_firstPrimaryOf : kLk yX10_firstPrimaryOf cX10_firstPrimaryOf 2 (some .int) [] 1 := ⟨kTb_of (kch_4 _ (List.mem_of_getElem? (i := 230) rfl)) (by decide +kernel), kz_SearchCluster_World, by decide +kernel, by decide +kernel, by decide⟩
theorem ki_X10_firstPrimaryOf : Cond.instanceMethod yX10_firstPrimaryOf ∈ kTb := kTb_of (kch_4 _ (List.mem_of_getElem? (i := 228) rfl)) (by decide +kernel)
theorem kse_X10_firstPrimaryOf : Cond.selects (yX10_firstPrimaryOf).cls yX10_firstPrimaryOf yX10_firstPrimaryOf ∈ kTb := kTb_of (kch_4 _ (List.mem_of_getElem? (i := 229) rfl)) (by decide +kernel)
theorem kl_X10_holds : kLk yX10_holds cX10_holds 3 (some .boolean) [] 2 := ⟨kTb_of (kch_4 _ (List.mem_of_getElem? (i := 238) rfl)) (by decide +kernel), kz_SearchCluster_World, by decide +kernel, by decide +kernel, by decide⟩
theorem ki_X10_holds : Cond.instanceMethod yX10_holds ∈ kTb := kTb_of (kch_4 _ (List.mem_of_getElem? (i := 236) rfl)) (by decide +kernel)
theorem kse_X10_holds : Cond.selects (yX10_holds).cls yX10_holds yX10_holds ∈ kTb := kTb_of (kch_4 _ (List.mem_of_getElem? (i := 237) rfl)) (by decide +kernel)
theorem kl_X10_isOpen : kLk yX10_isOpen cX10_isOpen 1 (some .boolean) [] 1 := ⟨kTb_of (kch_5 _ (List.mem_of_getElem? (i := 74) rfl)) (by decide +kernel), kz_SearchCluster_World, by decide +kernel, by decide +kernel, by decide⟩
theorem kst_X10_isOpen : Cond.static yX10_isOpen ∈ kTb := kTb_of (kch_5 _ (List.mem_of_getElem? (i := 73) rfl)) (by decide +kernel)
theorem kl_X10_linkOf : kLk yX10_linkOf cX10_linkOf 3 (some .int) [] 2 := ⟨kTb_of (kch_5 _ (List.mem_of_getElem? (i := 94) rfl)) (by decide +kernel), kz_SearchCluster_World, by decide +kernel, by decide +kernel, by decide⟩
theorem ki_X10_linkOf : Cond.instanceMethod yX10_linkOf ∈ kTb := kTb_of (kch_5 _ (List.mem_of_getElem? (i := 92) rfl)) (by decide +kernel)
theorem kse_X10_linkOf : Cond.selects (yX10_linkOf).cls yX10_linkOf yX10_linkOf ∈ kTb := kTb_of (kch_5 _ (List.mem_of_getElem? (i := 93) rfl)) (by decide +kernel)
theorem kl_X10_maskOf : kLk yX10_maskOf cX10_maskOf 4 (some .int) [] 1 := ⟨kTb_of (kch_4 _ (List.mem_of_getElem? (i := 234) rfl)) (by decide +kernel), kz_SearchCluster_World, by decide +kernel, by decide +kernel, by decide⟩
theorem ki_X10_maskOf : Cond.instanceMethod yX10_maskOf ∈ kTb := kTb_of (kch_4 _ (List.mem_of_getElem? (i := 232) rfl)) (by decide +kernel)
theorem kse_X10_maskOf : Cond.selects (yX10_maskOf).cls yX10_maskOf yX10_maskOf ∈ kTb := kTb_of (kch_4 _ (List.mem_of_getElem? (i := 233) rfl)) (by decide +kernel)
theorem kl_X10_messageAt : kLk yX10_messageAt cX10_messageAt 5 (some (.object "SearchCluster$Message")) [] 3 := ⟨kTb_of (kch_7 _ (List.mem_of_getElem? (i := 59) rfl)) (by decide +kernel), kz_SearchCluster_World, by decide +kernel, by decide +kernel, by decide⟩
theorem ki_X10_messageAt : Cond.instanceMethod yX10_messageAt ∈ kTb := kTb_of (kch_7 _ (List.mem_of_getElem? (i := 57) rfl)) (by decide +kernel)
theorem kse_X10_messageAt : Cond.selects (yX10_messageAt).cls yX10_messageAt yX10_messageAt ∈ kTb := kTb_of (kch_7 _ (List.mem_of_getElem? (i := 58) rfl)) (by decide +kernel)
theorem kl_X10_onLinks : kLk yX10_onLinks cX10_onLinks 3 (some .int) [] 0 := ⟨kTb_of (kch_9 _ (List.mem_of_getElem? (i := 140) rfl)) (by decide +kernel), kz_SearchCluster_World, by decide +kernel, by decide +kernel, by decide⟩
theorem ki_X10_onLinks : Cond.instanceMethod yX10_onLinks ∈ kTb := kTb_of (kch_9 _ (List.mem_of_getElem? (i := 138) rfl)) (by decide +kernel)
theorem kse_X10_onLinks : Cond.selects (yX10_onLinks).cls yX10_onLinks yX10_onLinks ∈ kTb := kTb_of (kch_9 _ (List.mem_of_getElem? (i := 139) rfl)) (by decide +kernel)
theorem kl_X10_refuse : kLk yX10_refuse cX10_refuse 4 none [] 3 := ⟨kTb_of (kch_7 _ (List.mem_of_getElem? (i := 96) rfl)) (by decide +kernel), kz_SearchCluster_World, by decide +kernel, by decide +kernel, by decide⟩
theorem ki_X10_refuse : Cond.instanceMethod yX10_refuse ∈ kTb := kTb_of (kch_7 _ (List.mem_of_getElem? (i := 94) rfl)) (by decide +kernel)
theorem kse_X10_refuse : Cond.selects (yX10_refuse).cls yX10_refuse yX10_refuse ∈ kTb := kTb_of (kch_7 _ (List.mem_of_getElem? (i := 95) rfl)) (by decide +kernel)
theorem kl_X10_requestAt : kLk yX10_requestAt cX10_requestAt 2 (some (.object "SearchCluster$Request")) [] 1 := ⟨kTb_of (kch_3 _ (List.mem_of_getElem? (i := 57) rfl)) (by decide +kernel), kz_SearchCluster_World, by decide +kernel, by decide +kernel, by decide⟩
theorem ki_X10_requestAt : Cond.instanceMethod yX10_requestAt ∈ kTb := kTb_of (kch_3 _ (List.mem_of_getElem? (i := 55) rfl)) (by decide +kernel)
theorem kse_X10_requestAt : Cond.selects (yX10_requestAt).cls yX10_requestAt yX10_requestAt ∈ kTb := kTb_of (kch_3 _ (List.mem_of_getElem? (i := 56) rfl)) (by decide +kernel)
theorem kl_X10_send : kLk yX10_send cX10_send 7 (some (.object "SearchCluster$Message")) [] 3 := ⟨kTb_of (kch_5 _ (List.mem_of_getElem? (i := 90) rfl)) (by decide +kernel), kz_SearchCluster_World, by decide +kernel, by decide +kernel, by decide⟩
theorem ki_X10_send : Cond.instanceMethod yX10_send ∈ kTb := kTb_of (kch_5 _ (List.mem_of_getElem? (i := 88) rfl)) (by decide +kernel)
theorem kse_X10_send : Cond.selects (yX10_send).cls yX10_send yX10_send ∈ kTb := kTb_of (kch_5 _ (List.mem_of_getElem? (i := 89) rfl)) (by decide +kernel)
theorem kl_X10_sendDone : kLk yX10_sendDone cX10_sendDone 4 none [] 2 := ⟨kTb_of (kch_7 _ (List.mem_of_getElem? (i := 116) rfl)) (by decide +kernel), kz_SearchCluster_World, by decide +kernel, by decide +kernel, by decide⟩
theorem ki_X10_sendDone : Cond.instanceMethod yX10_sendDone ∈ kTb := kTb_of (kch_7 _ (List.mem_of_getElem? (i := 114) rfl)) (by decide +kernel)
theorem kse_X10_sendDone : Cond.selects (yX10_sendDone).cls yX10_sendDone yX10_sendDone ∈ kTb := kTb_of (kch_7 _ (List.mem_of_getElem? (i := 115) rfl)) (by decide +kernel)
theorem kl_X10_shardOf : kLk yX10_shardOf cX10_shardOf 2 (some .int) [] 1 := ⟨kTb_of (kch_7 _ (List.mem_of_getElem? (i := 88) rfl)) (by decide +kernel), kz_SearchCluster_World, by decide +kernel, by decide +kernel, by decide⟩
theorem ki_X10_shardOf : Cond.instanceMethod yX10_shardOf ∈ kTb := kTb_of (kch_7 _ (List.mem_of_getElem? (i := 86) rfl)) (by decide +kernel)
theorem kse_X10_shardOf : Cond.selects (yX10_shardOf).cls yX10_shardOf yX10_shardOf ∈ kTb := kTb_of (kch_7 _ (List.mem_of_getElem? (i := 87) rfl)) (by decide +kernel)
theorem kl_X10_skipClosed : kLk yX10_skipClosed cX10_skipClosed 1 none [] 0 := ⟨kTb_of (kch_5 _ (List.mem_of_getElem? (i := 70) rfl)) (by decide +kernel), kz_SearchCluster_World, by decide +kernel, by decide +kernel, by decide⟩
theorem ki_X10_skipClosed : Cond.instanceMethod yX10_skipClosed ∈ kTb := kTb_of (kch_5 _ (List.mem_of_getElem? (i := 68) rfl)) (by decide +kernel)
theorem kse_X10_skipClosed : Cond.selects (yX10_skipClosed).cls yX10_skipClosed yX10_skipClosed ∈ kTb := kTb_of (kch_5 _ (List.mem_of_getElem? (i := 69) rfl)) (by decide +kernel)
theorem kl_X10_take : kLk yX10_take cX10_take 5 (some (.object "SearchCluster$Message")) [] 2 := ⟨kTb_of (kch_7 _ (List.mem_of_getElem? (i := 75) rfl)) (by decide +kernel), kz_SearchCluster_World, by decide +kernel, by decide +kernel, by decide⟩
theorem ki_X10_take : Cond.instanceMethod yX10_take ∈ kTb := kTb_of (kch_7 _ (List.mem_of_getElem? (i := 73) rfl)) (by decide +kernel)
theorem kse_X10_take : Cond.selects (yX10_take).cls yX10_take yX10_take ∈ kTb := kTb_of (kch_7 _ (List.mem_of_getElem? (i := 74) rfl)) (by decide +kernel)
theorem kl_L_act : kLk yL_act cL_act 6 (some .int) [(0, 12, 15, 23)] 5 := ⟨kTb_of (kch_9 _ (List.mem_of_getElem? (i := 54) rfl)) (by decide +kernel), kz_SearchClusterLaw, by decide +kernel, by decide +kernel, by decide⟩
theorem kst_L_act : Cond.static yL_act ∈ kTb := kTb_of (kch_9 _ (List.mem_of_getElem? (i := 53) rfl)) (by decide +kernel)
theorem kl_L_copy : kLk yL_copy cL_copy 6 (some .int) [(0, 12, 15, 23)] 5 := ⟨kTb_of (kch_9 _ (List.mem_of_getElem? (i := 3) rfl)) (by decide +kernel), kz_SearchClusterLaw, by decide +kernel, by decide +kernel, by decide⟩
theorem kst_L_copy : Cond.static yL_copy ∈ kTb := kTb_of (kch_9 _ (List.mem_of_getElem? (i := 2) rfl)) (by decide +kernel)
theorem kl_L_deliver : kLk yL_deliver cL_deliver 5 (some .int) [(0, 10, 13, 23)] 4 := ⟨kTb_of (kch_7 _ (List.mem_of_getElem? (i := 63) rfl)) (by decide +kernel), kz_SearchClusterLaw, by decide +kernel, by decide +kernel, by decide⟩
theorem kst_L_deliver : Cond.static yL_deliver ∈ kTb := kTb_of (kch_7 _ (List.mem_of_getElem? (i := 62) rfl)) (by decide +kernel)
theorem kl_L_disk : kLk yL_disk cL_disk 7 (some .int) [(0, 14, 17, 23)] 6 := ⟨kTb_of (kch_9 _ (List.mem_of_getElem? (i := 62) rfl)) (by decide +kernel), kz_SearchClusterLaw, by decide +kernel, by decide +kernel, by decide⟩
theorem kst_L_disk : Cond.static yL_disk ∈ kTb := kTb_of (kch_9 _ (List.mem_of_getElem? (i := 61) rfl)) (by decide +kernel)
theorem kl_L_document : kLk yL_document cL_document 6 (some .int) [(0, 12, 15, 23)] 5 := ⟨kTb_of (kch_9 _ (List.mem_of_getElem? (i := 41) rfl)) (by decide +kernel), kz_SearchClusterLaw, by decide +kernel, by decide +kernel, by decide⟩
theorem kst_L_document : Cond.static yL_document ∈ kTb := kTb_of (kch_9 _ (List.mem_of_getElem? (i := 40) rfl)) (by decide +kernel)
theorem kl_L_down : kLk yL_down cL_down 4 (some .int) [(0, 9, 12, 23)] 3 := ⟨kTb_of (kch_8 _ (List.mem_of_getElem? (i := 158) rfl)) (by decide +kernel), kz_SearchClusterLaw, by decide +kernel, by decide +kernel, by decide⟩
theorem kst_L_down : Cond.static yL_down ∈ kTb := kTb_of (kch_8 _ (List.mem_of_getElem? (i := 157) rfl)) (by decide +kernel)
theorem kl_L_draft : kLk yL_draft cL_draft 6 (some .int) [(0, 11, 14, 13)] 4 := ⟨kTb_of (kch_5 _ (List.mem_of_getElem? (i := 219) rfl)) (by decide +kernel), kz_SearchClusterLaw, by decide +kernel, by decide +kernel, by decide⟩
theorem kst_L_draft : Cond.static yL_draft ∈ kTb := kTb_of (kch_5 _ (List.mem_of_getElem? (i := 218) rfl)) (by decide +kernel)
theorem kl_L_drop : kLk yL_drop cL_drop 5 (some .int) [(0, 10, 13, 23), (0, 10, 17, 25)] 4 := ⟨kTb_of (kch_6 _ (List.mem_of_getElem? (i := 173) rfl)) (by decide +kernel), kz_SearchClusterLaw, by decide +kernel, by decide +kernel, by decide⟩
theorem kst_L_drop : Cond.static yL_drop ∈ kTb := kTb_of (kch_6 _ (List.mem_of_getElem? (i := 172) rfl)) (by decide +kernel)
theorem kl_L_fail : kLk yL_fail cL_fail 5 (some .int) [(0, 7, 10, 23), (0, 7, 14, 13)] 4 := ⟨kTb_of (kch_8 _ (List.mem_of_getElem? (i := 235) rfl)) (by decide +kernel), kz_SearchClusterLaw, by decide +kernel, by decide +kernel, by decide⟩
theorem kst_L_fail : Cond.static yL_fail ∈ kTb := kTb_of (kch_8 _ (List.mem_of_getElem? (i := 234) rfl)) (by decide +kernel)
theorem kl_L_find : kLk yL_find cL_find 5 (some .int) [(0, 10, 13, 23), (0, 10, 17, 13), (0, 10, 21, 25)] 4 := ⟨kTb_of (kch_6 _ (List.mem_of_getElem? (i := 193) rfl)) (by decide +kernel), kz_SearchClusterLaw, by decide +kernel, by decide +kernel, by decide⟩
theorem kst_L_find : Cond.static yL_find ∈ kTb := kTb_of (kch_6 _ (List.mem_of_getElem? (i := 192) rfl)) (by decide +kernel)
theorem kl_L_hit : kLk yL_hit cL_hit 6 (some .int) [(0, 12, 15, 23)] 5 := ⟨kTb_of (kch_7 _ (List.mem_of_getElem? (i := 30) rfl)) (by decide +kernel), kz_SearchClusterLaw, by decide +kernel, by decide +kernel, by decide⟩
theorem kst_L_hit : Cond.static yL_hit ∈ kTb := kTb_of (kch_7 _ (List.mem_of_getElem? (i := 29) rfl)) (by decide +kernel)
theorem kl_L_link : kLk yL_link cL_link 5 (some .int) [(0, 10, 13, 23)] 4 := ⟨kTb_of (kch_7 _ (List.mem_of_getElem? (i := 38) rfl)) (by decide +kernel), kz_SearchClusterLaw, by decide +kernel, by decide +kernel, by decide⟩
theorem kst_L_link : Cond.static yL_link ∈ kTb := kTb_of (kch_7 _ (List.mem_of_getElem? (i := 37) rfl)) (by decide +kernel)
theorem kl_L_lose : kLk yL_lose cL_lose 5 (some .int) [(0, 10, 13, 23)] 4 := ⟨kTb_of (kch_8 _ (List.mem_of_getElem? (i := 132) rfl)) (by decide +kernel), kz_SearchClusterLaw, by decide +kernel, by decide +kernel, by decide⟩
theorem kst_L_lose : Cond.static yL_lose ∈ kTb := kTb_of (kch_8 _ (List.mem_of_getElem? (i := 131) rfl)) (by decide +kernel)
theorem kl_L_make : kLk yL_make cL_make 6 (some .int) [(0, 12, 15, 13)] 5 := ⟨kTb_of (kch_5 _ (List.mem_of_getElem? (i := 208) rfl)) (by decide +kernel), kz_SearchClusterLaw, by decide +kernel, by decide +kernel, by decide⟩
theorem kst_L_make : Cond.static yL_make ∈ kTb := kTb_of (kch_5 _ (List.mem_of_getElem? (i := 207) rfl)) (by decide +kernel)
theorem kl_L_message : kLk yL_message cL_message 7 (some .int) [(0, 14, 17, 23)] 6 := ⟨kTb_of (kch_7 _ (List.mem_of_getElem? (i := 51) rfl)) (by decide +kernel), kz_SearchClusterLaw, by decide +kernel, by decide +kernel, by decide⟩
theorem kst_L_message : Cond.static yL_message ∈ kTb := kTb_of (kch_7 _ (List.mem_of_getElem? (i := 50) rfl)) (by decide +kernel)
theorem kl_L_octet : kLk yL_octet cL_octet 7 (some .int) [(0, 14, 17, 23)] 6 := ⟨kTb_of (kch_9 _ (List.mem_of_getElem? (i := 125) rfl)) (by decide +kernel), kz_SearchClusterLaw, by decide +kernel, by decide +kernel, by decide⟩
theorem kst_L_octet : Cond.static yL_octet ∈ kTb := kTb_of (kch_9 _ (List.mem_of_getElem? (i := 124) rfl)) (by decide +kernel)
theorem kl_L_other : kLk yL_other cL_other 7 (some .int) [(0, 14, 17, 23)] 6 := ⟨kTb_of (kch_9 _ (List.mem_of_getElem? (i := 24) rfl)) (by decide +kernel), kz_SearchClusterLaw, by decide +kernel, by decide +kernel, by decide⟩
theorem kst_L_other : Cond.static yL_other ∈ kTb := kTb_of (kch_9 _ (List.mem_of_getElem? (i := 23) rfl)) (by decide +kernel)
theorem kl_L_put : kLk yL_put cL_put 5 (some .int) [(0, 10, 13, 23), (0, 10, 17, 13), (0, 10, 21, 25)] 4 := ⟨kTb_of (kch_5 _ (List.mem_of_getElem? (i := 227) rfl)) (by decide +kernel), kz_SearchClusterLaw, by decide +kernel, by decide +kernel, by decide⟩
theorem kst_L_put : Cond.static yL_put ∈ kTb := kTb_of (kch_5 _ (List.mem_of_getElem? (i := 226) rfl)) (by decide +kernel)
theorem kl_L_refresh : kLk yL_refresh cL_refresh 5 (some .int) [(0, 10, 13, 23), (0, 10, 17, 25)] 4 := ⟨kTb_of (kch_6 _ (List.mem_of_getElem? (i := 181) rfl)) (by decide +kernel), kz_SearchClusterLaw, by decide +kernel, by decide +kernel, by decide⟩
theorem kst_L_refresh : Cond.static yL_refresh ∈ kTb := kTb_of (kch_6 _ (List.mem_of_getElem? (i := 180) rfl)) (by decide +kernel)
theorem kl_L_request : kLk yL_request cL_request 5 (some .int) [(0, 10, 13, 23)] 4 := ⟨kTb_of (kch_7 _ (List.mem_of_getElem? (i := 18) rfl)) (by decide +kernel), kz_SearchClusterLaw, by decide +kernel, by decide +kernel, by decide⟩
theorem kst_L_request : Cond.static yL_request ∈ kTb := kTb_of (kch_7 _ (List.mem_of_getElem? (i := 17) rfl)) (by decide +kernel)
theorem kl_L_run : kLk yL_run cL_run 4 (some .int) [(0, 9, 12, 13)] 3 := ⟨kTb_of (kch_8 _ (List.mem_of_getElem? (i := 139) rfl)) (by decide +kernel), kz_SearchClusterLaw, by decide +kernel, by decide +kernel, by decide⟩
theorem kst_L_run : Cond.static yL_run ∈ kTb := kTb_of (kch_8 _ (List.mem_of_getElem? (i := 138) rfl)) (by decide +kernel)
theorem kl_L_segment : kLk yL_segment cL_segment 7 (some .int) [(0, 14, 17, 23)] 6 := ⟨kTb_of (kch_9 _ (List.mem_of_getElem? (i := 70) rfl)) (by decide +kernel), kz_SearchClusterLaw, by decide +kernel, by decide +kernel, by decide⟩
theorem kst_L_segment : Cond.static yL_segment ∈ kTb := kTb_of (kch_9 _ (List.mem_of_getElem? (i := 69) rfl)) (by decide +kernel)
theorem kl_L_start : kLk yL_start cL_start 4 (some .int) [(0, 16, 19, 23), (0, 16, 22, 25)] 3 := ⟨kTb_of (kch_8 _ (List.mem_of_getElem? (i := 165) rfl)) (by decide +kernel), kz_SearchClusterLaw, by decide +kernel, by decide +kernel, by decide⟩
theorem kst_L_start : Cond.static yL_start ∈ kTb := kTb_of (kch_8 _ (List.mem_of_getElem? (i := 164) rfl)) (by decide +kernel)
theorem kl_L_told : kLk yL_told cL_told 4 (some .int) [(0, 9, 12, 23)] 3 := ⟨kTb_of (kch_9 _ (List.mem_of_getElem? (i := 132) rfl)) (by decide +kernel), kz_SearchClusterLaw, by decide +kernel, by decide +kernel, by decide⟩
theorem kst_L_told : Cond.static yL_told ∈ kTb := kTb_of (kch_9 _ (List.mem_of_getElem? (i := 131) rfl)) (by decide +kernel)
theorem kl_L_up : kLk yL_up cL_up 4 (some .int) [(0, 16, 19, 23)] 3 := ⟨kTb_of (kch_8 _ (List.mem_of_getElem? (i := 147) rfl)) (by decide +kernel), kz_SearchClusterLaw, by decide +kernel, by decide +kernel, by decide⟩
theorem kst_L_up : Cond.static yL_up ∈ kTb := kTb_of (kch_8 _ (List.mem_of_getElem? (i := 146) rfl)) (by decide +kernel)
theorem kl_L_view : kLk yL_view cL_view 6 (some .int) [(0, 12, 15, 23)] 5 := ⟨kTb_of (kch_9 _ (List.mem_of_getElem? (i := 33) rfl)) (by decide +kernel), kz_SearchClusterLaw, by decide +kernel, by decide +kernel, by decide⟩
theorem kst_L_view : Cond.static yL_view ∈ kTb := kTb_of (kch_9 _ (List.mem_of_getElem? (i := 32) rfl)) (by decide +kernel)
theorem kl_X12_init : kLk yX12_init cX12_init 1 none [] 0 := ⟨kTb_of (kch_9 _ (List.mem_of_getElem? (i := 154) rfl)) (by decide +kernel), kz_SearchClusterModel, by decide +kernel, by decide +kernel, by decide⟩
theorem ki_X12_init : Cond.instanceMethod yX12_init ∈ kTb := kTb_of (kch_9 _ (List.mem_of_getElem? (i := 153) rfl)) (by decide +kernel)
theorem kl_X12_ack : kLk yX12_ack cX12_ack 6 none [] 2 := ⟨kTb_of (kch_12 _ (List.mem_of_getElem? (i := 118) rfl)) (by decide +kernel), kz_SearchClusterModel, by decide +kernel, by decide +kernel, by decide⟩
theorem ki_X12_ack : Cond.instanceMethod yX12_ack ∈ kTb := kTb_of (kch_12 _ (List.mem_of_getElem? (i := 117) rfl)) (by decide +kernel)
theorem kse_X12_ack : Cond.selects (yX12_ack).cls yX12_ack yX12_ack ∈ kTb := kTb_of (kcs_10 _ (List.mem_of_getElem? (i := 7) rfl)) (by decide +kernel)
theorem kl_X12_act : kLk yX12_act cX12_act 5 (some .int) [] 3 := ⟨kTb_of (kch_13 _ (List.mem_of_getElem? (i := 184) rfl)) (by decide +kernel), kz_SearchClusterModel, by decide +kernel, by decide +kernel, by decide⟩
theorem ki_X12_act : Cond.instanceMethod yX12_act ∈ kTb := kTb_of (kch_13 _ (List.mem_of_getElem? (i := 182) rfl)) (by decide +kernel)
theorem kse_X12_act : Cond.selects (yX12_act).cls yX12_act yX12_act ∈ kTb := kTb_of (kch_13 _ (List.mem_of_getElem? (i := 183) rfl)) (by decide +kernel)
theorem kl_X12_add : kLk yX12_add cX12_add 5 none [] 1 := ⟨kTb_of (kch_12 _ (List.mem_of_getElem? (i := 178) rfl)) (by decide +kernel), kz_SearchClusterModel, by decide +kernel, by decide +kernel, by decide⟩
theorem ki_X12_add : Cond.instanceMethod yX12_add ∈ kTb := kTb_of (kch_12 _ (List.mem_of_getElem? (i := 177) rfl)) (by decide +kernel)
theorem kse_X12_add : Cond.selects (yX12_add).cls yX12_add yX12_add ∈ kTb := kTb_of (kcs_11 _ (List.mem_of_getElem? (i := 6) rfl)) (by decide +kernel)
theorem kl_X12_addBest : kLk yX12_addBest cX12_addBest 5 none [] 3 := ⟨kTb_of (kch_13 _ (List.mem_of_getElem? (i := 64) rfl)) (by decide +kernel), kz_SearchClusterModel, by decide +kernel, by decide +kernel, by decide⟩
theorem ki_X12_addBest : Cond.instanceMethod yX12_addBest ∈ kTb := kTb_of (kch_13 _ (List.mem_of_getElem? (i := 63) rfl)) (by decide +kernel)
theorem kse_X12_addBest : Cond.selects (yX12_addBest).cls yX12_addBest yX12_addBest ∈ kTb := kTb_of (kcs_13 _ (List.mem_of_getElem? (i := 3) rfl)) (by decide +kernel)
theorem kl_X12_append : kLk yX12_append cX12_append 7 (some .boolean) [] 3 := ⟨kTb_of (kch_12 _ (List.mem_of_getElem? (i := 39) rfl)) (by decide +kernel), kz_SearchClusterModel, by decide +kernel, by decide +kernel, by decide⟩
theorem ki_X12_append : Cond.instanceMethod yX12_append ∈ kTb := kTb_of (kch_12 _ (List.mem_of_getElem? (i := 38) rfl)) (by decide +kernel)
theorem kse_X12_append : Cond.selects (yX12_append).cls yX12_append yX12_append ∈ kTb := kTb_of (kcs_9 _ (List.mem_of_getElem? (i := 4) rfl)) (by decide +kernel)
theorem kl_X12_becomePrimary : kLk yX12_becomePrimary cX12_becomePrimary 5 (some .boolean) [] 2 := ⟨kTb_of (kch_12 _ (List.mem_of_getElem? (i := 218) rfl)) (by decide +kernel), kz_SearchClusterModel, by decide +kernel, by decide +kernel, by decide⟩
theorem ki_X12_becomePrimary : Cond.instanceMethod yX12_becomePrimary ∈ kTb := kTb_of (kch_12 _ (List.mem_of_getElem? (i := 217) rfl)) (by decide +kernel)
theorem kse_X12_becomePrimary : Cond.selects (yX12_becomePrimary).cls yX12_becomePrimary yX12_becomePrimary ∈ kTb := kTb_of (kcs_12 _ (List.mem_of_getElem? (i := 0) rfl)) (by decide +kernel)
theorem kl_X12_begin : kLk yX12_begin cX12_begin 7 none [] 3 := ⟨kTb_of (kch_9 _ (List.mem_of_getElem? (i := 162) rfl)) (by decide +kernel), kz_SearchClusterModel, by decide +kernel, by decide +kernel, by decide⟩
theorem ki_X12_begin : Cond.instanceMethod yX12_begin ∈ kTb := kTb_of (kch_9 _ (List.mem_of_getElem? (i := 161) rfl)) (by decide +kernel)
theorem kse_X12_begin : Cond.selects (yX12_begin).cls yX12_begin yX12_begin ∈ kTb := kTb_of (kcs_6 _ (List.mem_of_getElem? (i := 12) rfl)) (by decide +kernel)
theorem kl_X12_beginCopy : kLk yX12_beginCopy cX12_beginCopy 6 none [] 2 := ⟨kTb_of (kch_9 _ (List.mem_of_getElem? (i := 174) rfl)) (by decide +kernel), kz_SearchClusterModel, by decide +kernel, by decide +kernel, by decide⟩
theorem ki_X12_beginCopy : Cond.instanceMethod yX12_beginCopy ∈ kTb := kTb_of (kch_9 _ (List.mem_of_getElem? (i := 173) rfl)) (by decide +kernel)
theorem kse_X12_beginCopy : Cond.selects (yX12_beginCopy).cls yX12_beginCopy yX12_beginCopy ∈ kTb := kTb_of (kcs_6 _ (List.mem_of_getElem? (i := 15) rfl)) (by decide +kernel)
theorem kl_X12_begins : kLk yX12_begins cX12_begins 4 (some .boolean) [] 2 := ⟨kTb_of (kch_13 _ (List.mem_of_getElem? (i := 46) rfl)) (by decide +kernel), kz_SearchClusterModel, by decide +kernel, by decide +kernel, by decide⟩
theorem ki_X12_begins : Cond.instanceMethod yX12_begins ∈ kTb := kTb_of (kch_13 _ (List.mem_of_getElem? (i := 45) rfl)) (by decide +kernel)
theorem kse_X12_begins : Cond.selects (yX12_begins).cls yX12_begins yX12_begins ∈ kTb := kTb_of (kcs_13 _ (List.mem_of_getElem? (i := 1) rfl)) (by decide +kernel)
theorem kl_X12_c1 : kLk yX12_c1 cX12_c1 2 none [] 1 := ⟨kTb_of (kch_13 _ (List.mem_of_getElem? (i := 208) rfl)) (by decide +kernel), kz_SearchClusterModel, by decide +kernel, by decide +kernel, by decide⟩
theorem ki_X12_c1 : Cond.instanceMethod yX12_c1 ∈ kTb := kTb_of (kch_13 _ (List.mem_of_getElem? (i := 207) rfl)) (by decide +kernel)
theorem kse_X12_c1 : Cond.selects (yX12_c1).cls yX12_c1 yX12_c1 ∈ kTb := kTb_of (kcs_14 _ (List.mem_of_getElem? (i := 9) rfl)) (by decide +kernel)
theorem kl_X12_catchUp : kLk yX12_catchUp cX12_catchUp 5 none [] 2 := ⟨kTb_of (kch_13 _ (List.mem_of_getElem? (i := 100) rfl)) (by decide +kernel), kz_SearchClusterModel, by decide +kernel, by decide +kernel, by decide⟩
theorem ki_X12_catchUp : Cond.instanceMethod yX12_catchUp ∈ kTb := kTb_of (kch_13 _ (List.mem_of_getElem? (i := 99) rfl)) (by decide +kernel)
theorem kse_X12_catchUp : Cond.selects (yX12_catchUp).cls yX12_catchUp yX12_catchUp ∈ kTb := kTb_of (kcs_13 _ (List.mem_of_getElem? (i := 10) rfl)) (by decide +kernel)
theorem kl_X12_change : kLk yX12_change cX12_change 6 (some .boolean) [] 4 := ⟨kTb_of (kch_12 _ (List.mem_of_getElem? (i := 186) rfl)) (by decide +kernel), kz_SearchClusterModel, by decide +kernel, by decide +kernel, by decide⟩
theorem ki_X12_change : Cond.instanceMethod yX12_change ∈ kTb := kTb_of (kch_12 _ (List.mem_of_getElem? (i := 185) rfl)) (by decide +kernel)
theorem kse_X12_change : Cond.selects (yX12_change).cls yX12_change yX12_change ∈ kTb := kTb_of (kcs_11 _ (List.mem_of_getElem? (i := 8) rfl)) (by decide +kernel)
theorem kl_X12_child : kLk yX12_child cX12_child 5 (some .int) [] 3 := ⟨kTb_of (kch_12 _ (List.mem_of_getElem? (i := 75) rfl)) (by decide +kernel), kz_SearchClusterModel, by decide +kernel, by decide +kernel, by decide⟩
theorem ki_X12_child : Cond.instanceMethod yX12_child ∈ kTb := kTb_of (kch_12 _ (List.mem_of_getElem? (i := 74) rfl)) (by decide +kernel)
theorem kse_X12_child : Cond.selects (yX12_child).cls yX12_child yX12_child ∈ kTb := kTb_of (kcs_9 _ (List.mem_of_getElem? (i := 13) rfl)) (by decide +kernel)
theorem kl_X12_clause : kLk yX12_clause cX12_clause 8 none [] 1 := ⟨kTb_of (kch_11 _ (List.mem_of_getElem? (i := 175) rfl)) (by decide +kernel), kz_SearchClusterModel, by decide +kernel, by decide +kernel, by decide⟩
theorem ki_X12_clause : Cond.instanceMethod yX12_clause ∈ kTb := kTb_of (kch_11 _ (List.mem_of_getElem? (i := 174) rfl)) (by decide +kernel)
theorem kse_X12_clause : Cond.selects (yX12_clause).cls yX12_clause yX12_clause ∈ kTb := kTb_of (kcs_8 _ (List.mem_of_getElem? (i := 2) rfl)) (by decide +kernel)
theorem kl_X12_come : kLk yX12_come cX12_come 5 (some .int) [] 3 := ⟨kTb_of (kch_11 _ (List.mem_of_getElem? (i := 135) rfl)) (by decide +kernel), kz_SearchClusterModel, by decide +kernel, by decide +kernel, by decide⟩
theorem ki_X12_come : Cond.instanceMethod yX12_come ∈ kTb := kTb_of (kch_11 _ (List.mem_of_getElem? (i := 134) rfl)) (by decide +kernel)
theorem kse_X12_come : Cond.selects (yX12_come).cls yX12_come yX12_come ∈ kTb := kTb_of (kcs_7 _ (List.mem_of_getElem? (i := 11) rfl)) (by decide +kernel)
theorem kl_X12_config : kLk yX12_config cX12_config 5 none [] 1 := ⟨kTb_of (kch_12 _ (List.mem_of_getElem? (i := 202) rfl)) (by decide +kernel), kz_SearchClusterModel, by decide +kernel, by decide +kernel, by decide⟩
theorem ki_X12_config : Cond.instanceMethod yX12_config ∈ kTb := kTb_of (kch_12 _ (List.mem_of_getElem? (i := 201) rfl)) (by decide +kernel)
theorem kse_X12_config : Cond.selects (yX12_config).cls yX12_config yX12_config ∈ kTb := kTb_of (kcs_11 _ (List.mem_of_getElem? (i := 12) rfl)) (by decide +kernel)
theorem kl_X12_copy : kLk yX12_copy cX12_copy 7 (some .int) [] 3 := ⟨kTb_of (kch_13 _ (List.mem_of_getElem? (i := 164) rfl)) (by decide +kernel), kz_SearchClusterModel, by decide +kernel, by decide +kernel, by decide⟩
theorem ki_X12_copy : Cond.instanceMethod yX12_copy ∈ kTb := kTb_of (kch_13 _ (List.mem_of_getElem? (i := 162) rfl)) (by decide +kernel)
theorem kse_X12_copy : Cond.selects (yX12_copy).cls yX12_copy yX12_copy ∈ kTb := kTb_of (kch_13 _ (List.mem_of_getElem? (i := 163) rfl)) (by decide +kernel)
theorem kl_X12_copyOf : kLk yX12_copyOf cX12_copyOf 3 (some .int) [] 2 := ⟨kTb_of (kch_9 _ (List.mem_of_getElem? (i := 178) rfl)) (by decide +kernel), kz_SearchClusterModel, by decide +kernel, by decide +kernel, by decide⟩
theorem ki_X12_copyOf : Cond.instanceMethod yX12_copyOf ∈ kTb := kTb_of (kch_9 _ (List.mem_of_getElem? (i := 177) rfl)) (by decide +kernel)
theorem kse_X12_copyOf : Cond.selects (yX12_copyOf).cls yX12_copyOf yX12_copyOf ∈ kTb := kTb_of (kcs_7 _ (List.mem_of_getElem? (i := 0) rfl)) (by decide +kernel)
theorem kl_X12_copyTick : kLk yX12_copyTick cX12_copyTick 3 none [] 1 := ⟨kTb_of (kch_13 _ (List.mem_of_getElem? (i := 88) rfl)) (by decide +kernel), kz_SearchClusterModel, by decide +kernel, by decide +kernel, by decide⟩
theorem ki_X12_copyTick : Cond.instanceMethod yX12_copyTick ∈ kTb := kTb_of (kch_13 _ (List.mem_of_getElem? (i := 87) rfl)) (by decide +kernel)
theorem kse_X12_copyTick : Cond.selects (yX12_copyTick).cls yX12_copyTick yX12_copyTick ∈ kTb := kTb_of (kcs_13 _ (List.mem_of_getElem? (i := 7) rfl)) (by decide +kernel)
theorem kl_X12_countWords : kLk yX12_countWords cX12_countWords 6 none [] 0 := ⟨kTb_of (kch_13 _ (List.mem_of_getElem? (i := 26) rfl)) (by decide +kernel), kz_SearchClusterModel, by decide +kernel, by decide +kernel, by decide⟩
theorem ki_X12_countWords : Cond.instanceMethod yX12_countWords ∈ kTb := kTb_of (kch_13 _ (List.mem_of_getElem? (i := 25) rfl)) (by decide +kernel)
theorem kse_X12_countWords : Cond.selects (yX12_countWords).cls yX12_countWords yX12_countWords ∈ kTb := kTb_of (kcs_12 _ (List.mem_of_getElem? (i := 12) rfl)) (by decide +kernel)
theorem kl_X12_counts : kLk yX12_counts cX12_counts 2 (some .boolean) [] 1 := ⟨kTb_of (kch_12 _ (List.mem_of_getElem? (i := 91) rfl)) (by decide +kernel), kz_SearchClusterModel, by decide +kernel, by decide +kernel, by decide⟩
theorem ki_X12_counts : Cond.instanceMethod yX12_counts ∈ kTb := kTb_of (kch_12 _ (List.mem_of_getElem? (i := 90) rfl)) (by decide +kernel)
theorem kse_X12_counts : Cond.selects (yX12_counts).cls yX12_counts yX12_counts ∈ kTb := kTb_of (kcs_10 _ (List.mem_of_getElem? (i := 1) rfl)) (by decide +kernel)
theorem kl_X12_countsOf : kLk yX12_countsOf cX12_countsOf 4 (some .int) [] 1 := ⟨kTb_of (kch_13 _ (List.mem_of_getElem? (i := 136) rfl)) (by decide +kernel), kz_SearchClusterModel, by decide +kernel, by decide +kernel, by decide⟩
theorem ki_X12_countsOf : Cond.instanceMethod yX12_countsOf ∈ kTb := kTb_of (kch_13 _ (List.mem_of_getElem? (i := 135) rfl)) (by decide +kernel)
theorem kse_X12_countsOf : Cond.selects (yX12_countsOf).cls yX12_countsOf yX12_countsOf ∈ kTb := kTb_of (kcs_13 _ (List.mem_of_getElem? (i := 15) rfl)) (by decide +kernel)
theorem kl_X12_cut : kLk yX12_cut cX12_cut 4 (some .boolean) [] 3 := ⟨kTb_of (kch_12 _ (List.mem_of_getElem? (i := 134) rfl)) (by decide +kernel), kz_SearchClusterModel, by decide +kernel, by decide +kernel, by decide⟩
theorem ki_X12_cut : Cond.instanceMethod yX12_cut ∈ kTb := kTb_of (kch_12 _ (List.mem_of_getElem? (i := 133) rfl)) (by decide +kernel)
theorem kse_X12_cut : Cond.selects (yX12_cut).cls yX12_cut yX12_cut ∈ kTb := kTb_of (kcs_10 _ (List.mem_of_getElem? (i := 11) rfl)) (by decide +kernel)
theorem kl_X12_deliver : kLk yX12_deliver cX12_deliver 3 (some .int) [] 2 := ⟨kTb_of (kch_11 _ (List.mem_of_getElem? (i := 239) rfl)) (by decide +kernel), kz_SearchClusterModel, by decide +kernel, by decide +kernel, by decide⟩
theorem ki_X12_deliver : Cond.instanceMethod yX12_deliver ∈ kTb := kTb_of (kch_11 _ (List.mem_of_getElem? (i := 237) rfl)) (by decide +kernel)
theorem kse_X12_deliver : Cond.selects (yX12_deliver).cls yX12_deliver yX12_deliver ∈ kTb := kTb_of (kch_11 _ (List.mem_of_getElem? (i := 238) rfl)) (by decide +kernel)
theorem kl_X12_deliverOne : kLk yX12_deliverOne cX12_deliverOne 4 (some .int) [] 2 := ⟨kTb_of (kch_12 _ (List.mem_of_getElem? (i := 3) rfl)) (by decide +kernel), kz_SearchClusterModel, by decide +kernel, by decide +kernel, by decide⟩
theorem ki_X12_deliverOne : Cond.instanceMethod yX12_deliverOne ∈ kTb := kTb_of (kch_12 _ (List.mem_of_getElem? (i := 2) rfl)) (by decide +kernel)
theorem kse_X12_deliverOne : Cond.selects (yX12_deliverOne).cls yX12_deliverOne yX12_deliverOne ∈ kTb := kTb_of (kcs_8 _ (List.mem_of_getElem? (i := 11) rfl)) (by decide +kernel)
theorem kl_X12_disk : kLk yX12_disk cX12_disk 6 (some .int) [] 4 := ⟨kTb_of (kch_13 _ (List.mem_of_getElem? (i := 188) rfl)) (by decide +kernel), kz_SearchClusterModel, by decide +kernel, by decide +kernel, by decide⟩
theorem ki_X12_disk : Cond.instanceMethod yX12_disk ∈ kTb := kTb_of (kch_13 _ (List.mem_of_getElem? (i := 186) rfl)) (by decide +kernel)
theorem kse_X12_disk : Cond.selects (yX12_disk).cls yX12_disk yX12_disk ∈ kTb := kTb_of (kch_13 _ (List.mem_of_getElem? (i := 187) rfl)) (by decide +kernel)
theorem kl_X12_diskNode : kLk yX12_diskNode cX12_diskNode 2 (some .int) [] 1 := ⟨kTb_of (kch_12 _ (List.mem_of_getElem? (i := 51) rfl)) (by decide +kernel), kz_SearchClusterModel, by decide +kernel, by decide +kernel, by decide⟩
theorem ki_X12_diskNode : Cond.instanceMethod yX12_diskNode ∈ kTb := kTb_of (kch_12 _ (List.mem_of_getElem? (i := 50) rfl)) (by decide +kernel)
theorem kse_X12_diskNode : Cond.selects (yX12_diskNode).cls yX12_diskNode yX12_diskNode ∈ kTb := kTb_of (kcs_9 _ (List.mem_of_getElem? (i := 7) rfl)) (by decide +kernel)
theorem kl_X12_doTick : kLk yX12_doTick cX12_doTick 2 (some .int) [] 0 := ⟨kTb_of (kch_13 _ (List.mem_of_getElem? (i := 80) rfl)) (by decide +kernel), kz_SearchClusterModel, by decide +kernel, by decide +kernel, by decide⟩
theorem ki_X12_doTick : Cond.instanceMethod yX12_doTick ∈ kTb := kTb_of (kch_13 _ (List.mem_of_getElem? (i := 79) rfl)) (by decide +kernel)
theorem kse_X12_doTick : Cond.selects (yX12_doTick).cls yX12_doTick yX12_doTick ∈ kTb := kTb_of (kcs_13 _ (List.mem_of_getElem? (i := 5) rfl)) (by decide +kernel)
theorem kl_X12_document : kLk yX12_document cX12_document 6 (some .int) [] 3 := ⟨kTb_of (kch_13 _ (List.mem_of_getElem? (i := 180) rfl)) (by decide +kernel), kz_SearchClusterModel, by decide +kernel, by decide +kernel, by decide⟩
theorem ki_X12_document : Cond.instanceMethod yX12_document ∈ kTb := kTb_of (kch_13 _ (List.mem_of_getElem? (i := 178) rfl)) (by decide +kernel)
theorem kse_X12_document : Cond.selects (yX12_document).cls yX12_document yX12_document ∈ kTb := kTb_of (kch_13 _ (List.mem_of_getElem? (i := 179) rfl)) (by decide +kernel)
theorem kl_X12_documentAt : kLk yX12_documentAt cX12_documentAt 5 (some .int) [] 2 := ⟨kTb_of (kch_9 _ (List.mem_of_getElem? (i := 206) rfl)) (by decide +kernel), kz_SearchClusterModel, by decide +kernel, by decide +kernel, by decide⟩
theorem ki_X12_documentAt : Cond.instanceMethod yX12_documentAt ∈ kTb := kTb_of (kch_9 _ (List.mem_of_getElem? (i := 205) rfl)) (by decide +kernel)
theorem kse_X12_documentAt : Cond.selects (yX12_documentAt).cls yX12_documentAt yX12_documentAt ∈ kTb := kTb_of (kcs_7 _ (List.mem_of_getElem? (i := 7) rfl)) (by decide +kernel)
theorem kl_X12_down : kLk yX12_down cX12_down 2 (some .int) [] 1 := ⟨kTb_of (kch_13 _ (List.mem_of_getElem? (i := 120) rfl)) (by decide +kernel), kz_SearchClusterModel, by decide +kernel, by decide +kernel, by decide⟩
theorem ki_X12_down : Cond.instanceMethod yX12_down ∈ kTb := kTb_of (kch_13 _ (List.mem_of_getElem? (i := 118) rfl)) (by decide +kernel)
theorem kse_X12_down : Cond.selects (yX12_down).cls yX12_down yX12_down ∈ kTb := kTb_of (kch_13 _ (List.mem_of_getElem? (i := 119) rfl)) (by decide +kernel)
theorem kl_X12_draft : kLk yX12_draft cX12_draft 5 (some .int) [] 2 := ⟨kTb_of (kch_11 _ (List.mem_of_getElem? (i := 118) rfl)) (by decide +kernel), kz_SearchClusterModel, by decide +kernel, by decide +kernel, by decide⟩
theorem ki_X12_draft : Cond.instanceMethod yX12_draft ∈ kTb := kTb_of (kch_11 _ (List.mem_of_getElem? (i := 116) rfl)) (by decide +kernel)
theorem kse_X12_draft : Cond.selects (yX12_draft).cls yX12_draft yX12_draft ∈ kTb := kTb_of (kch_11 _ (List.mem_of_getElem? (i := 117) rfl)) (by decide +kernel)
theorem kl_X12_drop : kLk yX12_drop cX12_drop 3 (some .int) [] 2 := ⟨kTb_of (kch_11 _ (List.mem_of_getElem? (i := 151) rfl)) (by decide +kernel), kz_SearchClusterModel, by decide +kernel, by decide +kernel, by decide⟩
theorem ki_X12_drop : Cond.instanceMethod yX12_drop ∈ kTb := kTb_of (kch_11 _ (List.mem_of_getElem? (i := 149) rfl)) (by decide +kernel)
theorem kse_X12_drop : Cond.selects (yX12_drop).cls yX12_drop yX12_drop ∈ kTb := kTb_of (kch_11 _ (List.mem_of_getElem? (i := 150) rfl)) (by decide +kernel)
theorem kl_X12_encode : kLk yX12_encode cX12_encode 7 none [] 1 := ⟨kTb_of (kch_13 _ (List.mem_of_getElem? (i := 200) rfl)) (by decide +kernel), kz_SearchClusterModel, by decide +kernel, by decide +kernel, by decide⟩
theorem ki_X12_encode : Cond.instanceMethod yX12_encode ∈ kTb := kTb_of (kch_13 _ (List.mem_of_getElem? (i := 199) rfl)) (by decide +kernel)
theorem kse_X12_encode : Cond.selects (yX12_encode).cls yX12_encode yX12_encode ∈ kTb := kTb_of (kcs_14 _ (List.mem_of_getElem? (i := 7) rfl)) (by decide +kernel)
theorem kl_X12_encodeList : kLk yX12_encodeList cX12_encodeList 10 none [] 2 := ⟨kTb_of (kch_13 _ (List.mem_of_getElem? (i := 234) rfl)) (by decide +kernel), kz_SearchClusterModel, by decide +kernel, by decide +kernel, by decide⟩
theorem ki_X12_encodeList : Cond.instanceMethod yX12_encodeList ∈ kTb := kTb_of (kch_13 _ (List.mem_of_getElem? (i := 233) rfl)) (by decide +kernel)
theorem kse_X12_encodeList : Cond.selects (yX12_encodeList).cls yX12_encodeList yX12_encodeList ∈ kTb := kTb_of (kcs_14 _ (List.mem_of_getElem? (i := 14) rfl)) (by decide +kernel)
theorem kl_X12_encodeWord : kLk yX12_encodeWord cX12_encodeWord 6 none [] 2 := ⟨kTb_of (kch_13 _ (List.mem_of_getElem? (i := 224) rfl)) (by decide +kernel), kz_SearchClusterModel, by decide +kernel, by decide +kernel, by decide⟩
theorem ki_X12_encodeWord : Cond.instanceMethod yX12_encodeWord ∈ kTb := kTb_of (kch_13 _ (List.mem_of_getElem? (i := 223) rfl)) (by decide +kernel)
theorem kse_X12_encodeWord : Cond.selects (yX12_encodeWord).cls yX12_encodeWord yX12_encodeWord ∈ kTb := kTb_of (kcs_14 _ (List.mem_of_getElem? (i := 13) rfl)) (by decide +kernel)
theorem kl_X12_ends : kLk yX12_ends cX12_ends 5 (some .boolean) [] 3 := ⟨kTb_of (kch_11 _ (List.mem_of_getElem? (i := 203) rfl)) (by decide +kernel), kz_SearchClusterModel, by decide +kernel, by decide +kernel, by decide⟩
theorem ki_X12_ends : Cond.instanceMethod yX12_ends ∈ kTb := kTb_of (kch_11 _ (List.mem_of_getElem? (i := 202) rfl)) (by decide +kernel)
theorem kse_X12_ends : Cond.selects (yX12_ends).cls yX12_ends yX12_ends ∈ kTb := kTb_of (kcs_8 _ (List.mem_of_getElem? (i := 6) rfl)) (by decide +kernel)
theorem kl_X12_fail : kLk yX12_fail cX12_fail 4 none [] 3 := ⟨kTb_of (kch_13 _ (List.mem_of_getElem? (i := 160) rfl)) (by decide +kernel), kz_SearchClusterModel, by decide +kernel, by decide +kernel, by decide⟩
theorem ki_X12_fail : Cond.instanceMethod yX12_fail ∈ kTb := kTb_of (kch_13 _ (List.mem_of_getElem? (i := 158) rfl)) (by decide +kernel)
theorem kse_X12_fail : Cond.selects (yX12_fail).cls yX12_fail yX12_fail ∈ kTb := kTb_of (kch_13 _ (List.mem_of_getElem? (i := 159) rfl)) (by decide +kernel)
theorem kl_X12_failed : kLk yX12_failed cX12_failed 5 none [] 1 := ⟨kTb_of (kch_12 _ (List.mem_of_getElem? (i := 190) rfl)) (by decide +kernel), kz_SearchClusterModel, by decide +kernel, by decide +kernel, by decide⟩
theorem ki_X12_failed : Cond.instanceMethod yX12_failed ∈ kTb := kTb_of (kch_12 _ (List.mem_of_getElem? (i := 189) rfl)) (by decide +kernel)
theorem kse_X12_failed : Cond.selects (yX12_failed).cls yX12_failed yX12_failed ∈ kTb := kTb_of (kcs_11 _ (List.mem_of_getElem? (i := 9) rfl)) (by decide +kernel)
theorem kl_X12_fall : kLk yX12_fall cX12_fall 4 (some .int) [] 1 := ⟨kTb_of (kch_12 _ (List.mem_of_getElem? (i := 55) rfl)) (by decide +kernel), kz_SearchClusterModel, by decide +kernel, by decide +kernel, by decide⟩
theorem ki_X12_fall : Cond.instanceMethod yX12_fall ∈ kTb := kTb_of (kch_12 _ (List.mem_of_getElem? (i := 54) rfl)) (by decide +kernel)
theorem kse_X12_fall : Cond.selects (yX12_fall).cls yX12_fall yX12_fall ∈ kTb := kTb_of (kcs_9 _ (List.mem_of_getElem? (i := 8) rfl)) (by decide +kernel)
theorem kl_X12_fillHalf : kLk yX12_fillHalf cX12_fillHalf 3 none [] 1 := ⟨kTb_of (kch_9 _ (List.mem_of_getElem? (i := 186) rfl)) (by decide +kernel), kz_SearchClusterModel, by decide +kernel, by decide +kernel, by decide⟩
theorem ki_X12_fillHalf : Cond.instanceMethod yX12_fillHalf ∈ kTb := kTb_of (kch_9 _ (List.mem_of_getElem? (i := 185) rfl)) (by decide +kernel)
theorem kse_X12_fillHalf : Cond.selects (yX12_fillHalf).cls yX12_fillHalf yX12_fillHalf ∈ kTb := kTb_of (kcs_7 _ (List.mem_of_getElem? (i := 2) rfl)) (by decide +kernel)
theorem kl_X12_find : kLk yX12_find cX12_find 6 (some .int) [] 2 := ⟨kTb_of (kch_11 _ (List.mem_of_getElem? (i := 159) rfl)) (by decide +kernel), kz_SearchClusterModel, by decide +kernel, by decide +kernel, by decide⟩
theorem ki_X12_find : Cond.instanceMethod yX12_find ∈ kTb := kTb_of (kch_11 _ (List.mem_of_getElem? (i := 157) rfl)) (by decide +kernel)
theorem kse_X12_find : Cond.selects (yX12_find).cls yX12_find yX12_find ∈ kTb := kTb_of (kch_11 _ (List.mem_of_getElem? (i := 158) rfl)) (by decide +kernel)
theorem kl_X12_firstDisk : kLk yX12_firstDisk cX12_firstDisk 3 none [] 1 := ⟨kTb_of (kch_9 _ (List.mem_of_getElem? (i := 182) rfl)) (by decide +kernel), kz_SearchClusterModel, by decide +kernel, by decide +kernel, by decide⟩
theorem ki_X12_firstDisk : Cond.instanceMethod yX12_firstDisk ∈ kTb := kTb_of (kch_9 _ (List.mem_of_getElem? (i := 181) rfl)) (by decide +kernel)
theorem kse_X12_firstDisk : Cond.selects (yX12_firstDisk).cls yX12_firstDisk yX12_firstDisk ∈ kTb := kTb_of (kcs_7 _ (List.mem_of_getElem? (i := 1) rfl)) (by decide +kernel)
theorem kl_X12_fits : kLk yX12_fits cX12_fits 3 (some .boolean) [] 2 := ⟨kTb_of (kch_12 _ (List.mem_of_getElem? (i := 59) rfl)) (by decide +kernel), kz_SearchClusterModel, by decide +kernel, by decide +kernel, by decide⟩
theorem ki_X12_fits : Cond.instanceMethod yX12_fits ∈ kTb := kTb_of (kch_12 _ (List.mem_of_getElem? (i := 58) rfl)) (by decide +kernel)
theorem kse_X12_fits : Cond.selects (yX12_fits).cls yX12_fits yX12_fits ∈ kTb := kTb_of (kcs_9 _ (List.mem_of_getElem? (i := 9) rfl)) (by decide +kernel)
theorem kl_X12_fitting : kLk yX12_fitting cX12_fitting 8 (some .int) [] 1 := ⟨kTb_of (kch_13 _ (List.mem_of_getElem? (i := 42) rfl)) (by decide +kernel), kz_SearchClusterModel, by decide +kernel, by decide +kernel, by decide⟩
theorem ki_X12_fitting : Cond.instanceMethod yX12_fitting ∈ kTb := kTb_of (kch_13 _ (List.mem_of_getElem? (i := 41) rfl)) (by decide +kernel)
theorem kse_X12_fitting : Cond.selects (yX12_fitting).cls yX12_fitting yX12_fitting ∈ kTb := kTb_of (kcs_13 _ (List.mem_of_getElem? (i := 0) rfl)) (by decide +kernel)
theorem kl_X12_flush : kLk yX12_flush cX12_flush 7 (some .boolean) [] 1 := ⟨kTb_of (kch_12 _ (List.mem_of_getElem? (i := 43) rfl)) (by decide +kernel), kz_SearchClusterModel, by decide +kernel, by decide +kernel, by decide⟩
theorem ki_X12_flush : Cond.instanceMethod yX12_flush ∈ kTb := kTb_of (kch_12 _ (List.mem_of_getElem? (i := 42) rfl)) (by decide +kernel)
theorem kse_X12_flush : Cond.selects (yX12_flush).cls yX12_flush yX12_flush ∈ kTb := kTb_of (kcs_9 _ (List.mem_of_getElem? (i := 5) rfl)) (by decide +kernel)
theorem kl_X12_follow : kLk yX12_follow cX12_follow 3 none [] 2 := ⟨kTb_of (kch_12 _ (List.mem_of_getElem? (i := 206) rfl)) (by decide +kernel), kz_SearchClusterModel, by decide +kernel, by decide +kernel, by decide⟩
theorem ki_X12_follow : Cond.instanceMethod yX12_follow ∈ kTb := kTb_of (kch_12 _ (List.mem_of_getElem? (i := 205) rfl)) (by decide +kernel)
theorem kse_X12_follow : Cond.selects (yX12_follow).cls yX12_follow yX12_follow ∈ kTb := kTb_of (kcs_11 _ (List.mem_of_getElem? (i := 13) rfl)) (by decide +kernel)
theorem kl_X12_greatest : kLk yX12_greatest cX12_greatest 2 (some .int) [] 2 := ⟨kTb_of (kch_12 _ (List.mem_of_getElem? (i := 110) rfl)) (by decide +kernel), kz_SearchClusterModel, by decide +kernel, by decide +kernel, by decide⟩
theorem kst_X12_greatest : Cond.static yX12_greatest ∈ kTb := kTb_of (kch_12 _ (List.mem_of_getElem? (i := 109) rfl)) (by decide +kernel)
theorem kl_X12_h1 : kLk yX12_h1 cX12_h1 2 none [] 1 := ⟨kTb_of (kch_9 _ (List.mem_of_getElem? (i := 190) rfl)) (by decide +kernel), kz_SearchClusterModel, by decide +kernel, by decide +kernel, by decide⟩
theorem ki_X12_h1 : Cond.instanceMethod yX12_h1 ∈ kTb := kTb_of (kch_9 _ (List.mem_of_getElem? (i := 189) rfl)) (by decide +kernel)
theorem kse_X12_h1 : Cond.selects (yX12_h1).cls yX12_h1 yX12_h1 ∈ kTb := kTb_of (kcs_7 _ (List.mem_of_getElem? (i := 3) rfl)) (by decide +kernel)
theorem kl_X12_h2 : kLk yX12_h2 cX12_h2 2 none [] 1 := ⟨kTb_of (kch_9 _ (List.mem_of_getElem? (i := 194) rfl)) (by decide +kernel), kz_SearchClusterModel, by decide +kernel, by decide +kernel, by decide⟩
theorem ki_X12_h2 : Cond.instanceMethod yX12_h2 ∈ kTb := kTb_of (kch_9 _ (List.mem_of_getElem? (i := 193) rfl)) (by decide +kernel)
theorem kse_X12_h2 : Cond.selects (yX12_h2).cls yX12_h2 yX12_h2 ∈ kTb := kTb_of (kcs_7 _ (List.mem_of_getElem? (i := 4) rfl)) (by decide +kernel)
theorem kl_X12_halfAct : kLk yX12_halfAct cX12_halfAct 7 none [] 3 := ⟨kTb_of (kch_9 _ (List.mem_of_getElem? (i := 210) rfl)) (by decide +kernel), kz_SearchClusterModel, by decide +kernel, by decide +kernel, by decide⟩
theorem ki_X12_halfAct : Cond.instanceMethod yX12_halfAct ∈ kTb := kTb_of (kch_9 _ (List.mem_of_getElem? (i := 209) rfl)) (by decide +kernel)
theorem kse_X12_halfAct : Cond.selects (yX12_halfAct).cls yX12_halfAct yX12_halfAct ∈ kTb := kTb_of (kcs_7 _ (List.mem_of_getElem? (i := 8) rfl)) (by decide +kernel)
theorem kl_X12_halfCopy : kLk yX12_halfCopy cX12_halfCopy 7 none [] 1 := ⟨kTb_of (kch_9 _ (List.mem_of_getElem? (i := 198) rfl)) (by decide +kernel), kz_SearchClusterModel, by decide +kernel, by decide +kernel, by decide⟩
theorem ki_X12_halfCopy : Cond.instanceMethod yX12_halfCopy ∈ kTb := kTb_of (kch_9 _ (List.mem_of_getElem? (i := 197) rfl)) (by decide +kernel)
theorem kse_X12_halfCopy : Cond.selects (yX12_halfCopy).cls yX12_halfCopy yX12_halfCopy ∈ kTb := kTb_of (kcs_7 _ (List.mem_of_getElem? (i := 5) rfl)) (by decide +kernel)
theorem kl_X12_handle : kLk yX12_handle cX12_handle 3 none [] 2 := ⟨kTb_of (kch_12 _ (List.mem_of_getElem? (i := 11) rfl)) (by decide +kernel), kz_SearchClusterModel, by decide +kernel, by decide +kernel, by decide⟩
theorem ki_X12_handle : Cond.instanceMethod yX12_handle ∈ kTb := kTb_of (kch_12 _ (List.mem_of_getElem? (i := 10) rfl)) (by decide +kernel)
theorem kse_X12_handle : Cond.selects (yX12_handle).cls yX12_handle yX12_handle ∈ kTb := kTb_of (kcs_8 _ (List.mem_of_getElem? (i := 13) rfl)) (by decide +kernel)
theorem kl_X12_handleOther : kLk yX12_handleOther cX12_handleOther 3 none [] 2 := ⟨kTb_of (kch_12 _ (List.mem_of_getElem? (i := 198) rfl)) (by decide +kernel), kz_SearchClusterModel, by decide +kernel, by decide +kernel, by decide⟩
theorem ki_X12_handleOther : Cond.instanceMethod yX12_handleOther ∈ kTb := kTb_of (kch_12 _ (List.mem_of_getElem? (i := 197) rfl)) (by decide +kernel)
theorem kse_X12_handleOther : Cond.selects (yX12_handleOther).cls yX12_handleOther yX12_handleOther ∈ kTb := kTb_of (kcs_11 _ (List.mem_of_getElem? (i := 11) rfl)) (by decide +kernel)
theorem kl_X12_hasAt : kLk yX12_hasAt cX12_hasAt 4 (some .boolean) [] 2 := ⟨kTb_of (kch_13 _ (List.mem_of_getElem? (i := 50) rfl)) (by decide +kernel), kz_SearchClusterModel, by decide +kernel, by decide +kernel, by decide⟩
theorem ki_X12_hasAt : Cond.instanceMethod yX12_hasAt ∈ kTb := kTb_of (kch_13 _ (List.mem_of_getElem? (i := 49) rfl)) (by decide +kernel)
theorem kse_X12_hasAt : Cond.selects (yX12_hasAt).cls yX12_hasAt yX12_hasAt ∈ kTb := kTb_of (kcs_13 _ (List.mem_of_getElem? (i := 2) rfl)) (by decide +kernel)
theorem kl_X12_hasCopy : kLk yX12_hasCopy cX12_hasCopy 3 (some .boolean) [] 2 := ⟨kTb_of (kch_9 _ (List.mem_of_getElem? (i := 170) rfl)) (by decide +kernel), kz_SearchClusterModel, by decide +kernel, by decide +kernel, by decide⟩
theorem ki_X12_hasCopy : Cond.instanceMethod yX12_hasCopy ∈ kTb := kTb_of (kch_9 _ (List.mem_of_getElem? (i := 169) rfl)) (by decide +kernel)
theorem kse_X12_hasCopy : Cond.selects (yX12_hasCopy).cls yX12_hasCopy yX12_hasCopy ∈ kTb := kTb_of (kcs_6 _ (List.mem_of_getElem? (i := 14) rfl)) (by decide +kernel)
theorem kl_X12_hasLive : kLk yX12_hasLive cX12_hasLive 4 (some .boolean) [] 1 := ⟨kTb_of (kch_12 _ (List.mem_of_getElem? (i := 158) rfl)) (by decide +kernel), kz_SearchClusterModel, by decide +kernel, by decide +kernel, by decide⟩
theorem ki_X12_hasLive : Cond.instanceMethod yX12_hasLive ∈ kTb := kTb_of (kch_12 _ (List.mem_of_getElem? (i := 157) rfl)) (by decide +kernel)
theorem kse_X12_hasLive : Cond.selects (yX12_hasLive).cls yX12_hasLive yX12_hasLive ∈ kTb := kTb_of (kcs_11 _ (List.mem_of_getElem? (i := 1) rfl)) (by decide +kernel)
theorem kl_X12_heard : kLk yX12_heard cX12_heard 6 none [] 2 := ⟨kTb_of (kch_12 _ (List.mem_of_getElem? (i := 222) rfl)) (by decide +kernel), kz_SearchClusterModel, by decide +kernel, by decide +kernel, by decide⟩
theorem ki_X12_heard : Cond.instanceMethod yX12_heard ∈ kTb := kTb_of (kch_12 _ (List.mem_of_getElem? (i := 221) rfl)) (by decide +kernel)
theorem kse_X12_heard : Cond.selects (yX12_heard).cls yX12_heard yX12_heard ∈ kTb := kTb_of (kcs_12 _ (List.mem_of_getElem? (i := 1) rfl)) (by decide +kernel)
theorem kl_X12_heardOfShard : kLk yX12_heardOfShard cX12_heardOfShard 7 none [] 3 := ⟨kTb_of (kch_12 _ (List.mem_of_getElem? (i := 230) rfl)) (by decide +kernel), kz_SearchClusterModel, by decide +kernel, by decide +kernel, by decide⟩
theorem ki_X12_heardOfShard : Cond.instanceMethod yX12_heardOfShard ∈ kTb := kTb_of (kch_12 _ (List.mem_of_getElem? (i := 229) rfl)) (by decide +kernel)
theorem kse_X12_heardOfShard : Cond.selects (yX12_heardOfShard).cls yX12_heardOfShard yX12_heardOfShard ∈ kTb := kTb_of (kcs_12 _ (List.mem_of_getElem? (i := 3) rfl)) (by decide +kernel)
theorem kl_X12_hit : kLk yX12_hit cX12_hit 5 (some .int) [] 3 := ⟨kTb_of (kch_11 _ (List.mem_of_getElem? (i := 223) rfl)) (by decide +kernel), kz_SearchClusterModel, by decide +kernel, by decide +kernel, by decide⟩
theorem ki_X12_hit : Cond.instanceMethod yX12_hit ∈ kTb := kTb_of (kch_11 _ (List.mem_of_getElem? (i := 221) rfl)) (by decide +kernel)
theorem kse_X12_hit : Cond.selects (yX12_hit).cls yX12_hit yX12_hit ∈ kTb := kTb_of (kch_11 _ (List.mem_of_getElem? (i := 222) rfl)) (by decide +kernel)
theorem kl_X12_index : kLk yX12_index cX12_index 7 none [] 2 := ⟨kTb_of (kch_12 _ (List.mem_of_getElem? (i := 142) rfl)) (by decide +kernel), kz_SearchClusterModel, by decide +kernel, by decide +kernel, by decide⟩
theorem ki_X12_index : Cond.instanceMethod yX12_index ∈ kTb := kTb_of (kch_12 _ (List.mem_of_getElem? (i := 141) rfl)) (by decide +kernel)
theorem kse_X12_index : Cond.selects (yX12_index).cls yX12_index yX12_index ∈ kTb := kTb_of (kcs_10 _ (List.mem_of_getElem? (i := 13) rfl)) (by decide +kernel)
theorem kl_X12_isBefore : kLk yX12_isBefore cX12_isBefore 3 (some .boolean) [] 2 := ⟨kTb_of (kch_13 _ (List.mem_of_getElem? (i := 216) rfl)) (by decide +kernel), kz_SearchClusterModel, by decide +kernel, by decide +kernel, by decide⟩
theorem ki_X12_isBefore : Cond.instanceMethod yX12_isBefore ∈ kTb := kTb_of (kch_13 _ (List.mem_of_getElem? (i := 215) rfl)) (by decide +kernel)
theorem kse_X12_isBefore : Cond.selects (yX12_isBefore).cls yX12_isBefore yX12_isBefore ∈ kTb := kTb_of (kcs_14 _ (List.mem_of_getElem? (i := 11) rfl)) (by decide +kernel)
theorem kl_X12_isCopy : kLk yX12_isCopy cX12_isCopy 3 (some .boolean) [] 2 := ⟨kTb_of (kch_13 _ (List.mem_of_getElem? (i := 168) rfl)) (by decide +kernel), kz_SearchClusterModel, by decide +kernel, by decide +kernel, by decide⟩
theorem ki_X12_isCopy : Cond.instanceMethod yX12_isCopy ∈ kTb := kTb_of (kch_13 _ (List.mem_of_getElem? (i := 167) rfl)) (by decide +kernel)
theorem kse_X12_isCopy : Cond.selects (yX12_isCopy).cls yX12_isCopy yX12_isCopy ∈ kTb := kTb_of (kcs_14 _ (List.mem_of_getElem? (i := 5) rfl)) (by decide +kernel)
theorem kl_X12_isDoneAt : kLk yX12_isDoneAt cX12_isDoneAt 4 (some .boolean) [] 2 := ⟨kTb_of (kch_12 _ (List.mem_of_getElem? (i := 35) rfl)) (by decide +kernel), kz_SearchClusterModel, by decide +kernel, by decide +kernel, by decide⟩
theorem ki_X12_isDoneAt : Cond.instanceMethod yX12_isDoneAt ∈ kTb := kTb_of (kch_12 _ (List.mem_of_getElem? (i := 34) rfl)) (by decide +kernel)
theorem kse_X12_isDoneAt : Cond.selects (yX12_isDoneAt).cls yX12_isDoneAt yX12_isDoneAt ∈ kTb := kTb_of (kcs_9 _ (List.mem_of_getElem? (i := 3) rfl)) (by decide +kernel)
theorem kl_X12_isLetter : kLk yX12_isLetter cX12_isLetter 1 (some .boolean) [] 1 := ⟨kTb_of (kch_11 _ (List.mem_of_getElem? (i := 181) rfl)) (by decide +kernel), kz_SearchClusterModel, by decide +kernel, by decide +kernel, by decide⟩
theorem kst_X12_isLetter : Cond.static yX12_isLetter ∈ kTb := kTb_of (kch_11 _ (List.mem_of_getElem? (i := 180) rfl)) (by decide +kernel)
theorem kl_X12_isNode : kLk yX12_isNode cX12_isNode 2 (some .boolean) [] 1 := ⟨kTb_of (kch_11 _ (List.mem_of_getElem? (i := 127) rfl)) (by decide +kernel), kz_SearchClusterModel, by decide +kernel, by decide +kernel, by decide⟩
theorem ki_X12_isNode : Cond.instanceMethod yX12_isNode ∈ kTb := kTb_of (kch_11 _ (List.mem_of_getElem? (i := 126) rfl)) (by decide +kernel)
theorem kse_X12_isNode : Cond.selects (yX12_isNode).cls yX12_isNode yX12_isNode ∈ kTb := kTb_of (kcs_7 _ (List.mem_of_getElem? (i := 9) rfl)) (by decide +kernel)
theorem kl_X12_isNone : kLk yX12_isNone cX12_isNone 3 (some .boolean) [] 0 := ⟨kTb_of (kch_11 _ (List.mem_of_getElem? (i := 211) rfl)) (by decide +kernel), kz_SearchClusterModel, by decide +kernel, by decide +kernel, by decide⟩
theorem ki_X12_isNone : Cond.instanceMethod yX12_isNone ∈ kTb := kTb_of (kch_11 _ (List.mem_of_getElem? (i := 210) rfl)) (by decide +kernel)
theorem kse_X12_isNone : Cond.selects (yX12_isNone).cls yX12_isNone yX12_isNone ∈ kTb := kTb_of (kcs_8 _ (List.mem_of_getElem? (i := 8) rfl)) (by decide +kernel)
theorem kl_X12_isOpenAt : kLk yX12_isOpenAt cX12_isOpenAt 3 (some .boolean) [] 2 := ⟨kTb_of (kch_12 _ (List.mem_of_getElem? (i := 23) rfl)) (by decide +kernel), kz_SearchClusterModel, by decide +kernel, by decide +kernel, by decide⟩
theorem ki_X12_isOpenAt : Cond.instanceMethod yX12_isOpenAt ∈ kTb := kTb_of (kch_12 _ (List.mem_of_getElem? (i := 22) rfl)) (by decide +kernel)
theorem kse_X12_isOpenAt : Cond.selects (yX12_isOpenAt).cls yX12_isOpenAt yX12_isOpenAt ∈ kTb := kTb_of (kcs_9 _ (List.mem_of_getElem? (i := 0) rfl)) (by decide +kernel)
theorem kl_X12_isOther : kLk yX12_isOther cX12_isOther 3 (some .boolean) [] 2 := ⟨kTb_of (kch_12 _ (List.mem_of_getElem? (i := 79) rfl)) (by decide +kernel), kz_SearchClusterModel, by decide +kernel, by decide +kernel, by decide⟩
theorem ki_X12_isOther : Cond.instanceMethod yX12_isOther ∈ kTb := kTb_of (kch_12 _ (List.mem_of_getElem? (i := 78) rfl)) (by decide +kernel)
theorem kse_X12_isOther : Cond.selects (yX12_isOther).cls yX12_isOther yX12_isOther ∈ kTb := kTb_of (kcs_9 _ (List.mem_of_getElem? (i := 14) rfl)) (by decide +kernel)
theorem kl_X12_isPlace : kLk yX12_isPlace cX12_isPlace 2 (some .boolean) [] 1 := ⟨kTb_of (kch_11 _ (List.mem_of_getElem? (i := 231) rfl)) (by decide +kernel), kz_SearchClusterModel, by decide +kernel, by decide +kernel, by decide⟩
theorem ki_X12_isPlace : Cond.instanceMethod yX12_isPlace ∈ kTb := kTb_of (kch_11 _ (List.mem_of_getElem? (i := 230) rfl)) (by decide +kernel)
theorem kse_X12_isPlace : Cond.selects (yX12_isPlace).cls yX12_isPlace yX12_isPlace ∈ kTb := kTb_of (kcs_8 _ (List.mem_of_getElem? (i := 10) rfl)) (by decide +kernel)
theorem kl_X12_isPrimary : kLk yX12_isPrimary cX12_isPrimary 3 (some .boolean) [] 2 := ⟨kTb_of (kch_12 _ (List.mem_of_getElem? (i := 31) rfl)) (by decide +kernel), kz_SearchClusterModel, by decide +kernel, by decide +kernel, by decide⟩
theorem ki_X12_isPrimary : Cond.instanceMethod yX12_isPrimary ∈ kTb := kTb_of (kch_12 _ (List.mem_of_getElem? (i := 30) rfl)) (by decide +kernel)
theorem kse_X12_isPrimary : Cond.selects (yX12_isPrimary).cls yX12_isPrimary yX12_isPrimary ∈ kTb := kTb_of (kcs_9 _ (List.mem_of_getElem? (i := 2) rfl)) (by decide +kernel)
theorem kl_X12_isRow : kLk yX12_isRow cX12_isRow 1 (some .boolean) [] 1 := ⟨kTb_of (kch_11 _ (List.mem_of_getElem? (i := 178) rfl)) (by decide +kernel), kz_SearchClusterModel, by decide +kernel, by decide +kernel, by decide⟩
theorem kst_X12_isRow : Cond.static yX12_isRow ∈ kTb := kTb_of (kch_11 _ (List.mem_of_getElem? (i := 177) rfl)) (by decide +kernel)
theorem kl_X12_isSeen : kLk yX12_isSeen cX12_isSeen 5 (some .boolean) [] 2 := ⟨kTb_of (kch_12 _ (List.mem_of_getElem? (i := 99) rfl)) (by decide +kernel), kz_SearchClusterModel, by decide +kernel, by decide +kernel, by decide⟩
theorem ki_X12_isSeen : Cond.instanceMethod yX12_isSeen ∈ kTb := kTb_of (kch_12 _ (List.mem_of_getElem? (i := 98) rfl)) (by decide +kernel)
theorem kse_X12_isSeen : Cond.selects (yX12_isSeen).cls yX12_isSeen yX12_isSeen ∈ kTb := kTb_of (kcs_10 _ (List.mem_of_getElem? (i := 3) rfl)) (by decide +kernel)
theorem kl_X12_isSegment : kLk yX12_isSegment cX12_isSegment 4 (some .boolean) [] 3 := ⟨kTb_of (kch_13 _ (List.mem_of_getElem? (i := 196) rfl)) (by decide +kernel), kz_SearchClusterModel, by decide +kernel, by decide +kernel, by decide⟩
theorem ki_X12_isSegment : Cond.instanceMethod yX12_isSegment ∈ kTb := kTb_of (kch_13 _ (List.mem_of_getElem? (i := 195) rfl)) (by decide +kernel)
theorem kse_X12_isSegment : Cond.selects (yX12_isSegment).cls yX12_isSegment yX12_isSegment ∈ kTb := kTb_of (kcs_14 _ (List.mem_of_getElem? (i := 6) rfl)) (by decide +kernel)
theorem kl_X12_isText : kLk yX12_isText cX12_isText 4 (some .boolean) [] 1 := ⟨kTb_of (kch_11 _ (List.mem_of_getElem? (i := 131) rfl)) (by decide +kernel), kz_SearchClusterModel, by decide +kernel, by decide +kernel, by decide⟩
theorem ki_X12_isText : Cond.instanceMethod yX12_isText ∈ kTb := kTb_of (kch_11 _ (List.mem_of_getElem? (i := 130) rfl)) (by decide +kernel)
theorem kse_X12_isText : Cond.selects (yX12_isText).cls yX12_isText yX12_isText ∈ kTb := kTb_of (kcs_7 _ (List.mem_of_getElem? (i := 10) rfl)) (by decide +kernel)
theorem kl_X12_join : kLk yX12_join cX12_join 6 none [] 2 := ⟨kTb_of (kch_12 _ (List.mem_of_getElem? (i := 174) rfl)) (by decide +kernel), kz_SearchClusterModel, by decide +kernel, by decide +kernel, by decide⟩
theorem ki_X12_join : Cond.instanceMethod yX12_join ∈ kTb := kTb_of (kch_12 _ (List.mem_of_getElem? (i := 173) rfl)) (by decide +kernel)
theorem kse_X12_join : Cond.selects (yX12_join).cls yX12_join yX12_join ∈ kTb := kTb_of (kcs_11 _ (List.mem_of_getElem? (i := 5) rfl)) (by decide +kernel)
theorem kl_X12_keeperTick : kLk yX12_keeperTick cX12_keeperTick 5 none [] 0 := ⟨kTb_of (kch_13 _ (List.mem_of_getElem? (i := 108) rfl)) (by decide +kernel), kz_SearchClusterModel, by decide +kernel, by decide +kernel, by decide⟩
theorem ki_X12_keeperTick : Cond.instanceMethod yX12_keeperTick ∈ kTb := kTb_of (kch_13 _ (List.mem_of_getElem? (i := 107) rfl)) (by decide +kernel)
theorem kse_X12_keeperTick : Cond.selects (yX12_keeperTick).cls yX12_keeperTick yX12_keeperTick ∈ kTb := kTb_of (kcs_13 _ (List.mem_of_getElem? (i := 12) rfl)) (by decide +kernel)
theorem kl_X12_key : kLk yX12_key cX12_key 4 none [] 0 := ⟨kTb_of (kch_11 _ (List.mem_of_getElem? (i := 207) rfl)) (by decide +kernel), kz_SearchClusterModel, by decide +kernel, by decide +kernel, by decide⟩
theorem ki_X12_key : Cond.instanceMethod yX12_key ∈ kTb := kTb_of (kch_11 _ (List.mem_of_getElem? (i := 206) rfl)) (by decide +kernel)
theorem kse_X12_key : Cond.selects (yX12_key).cls yX12_key yX12_key ∈ kTb := kTb_of (kcs_8 _ (List.mem_of_getElem? (i := 7) rfl)) (by decide +kernel)
theorem kl_X12_kill : kLk yX12_kill cX12_kill 5 none [] 2 := ⟨kTb_of (kch_12 _ (List.mem_of_getElem? (i := 150) rfl)) (by decide +kernel), kz_SearchClusterModel, by decide +kernel, by decide +kernel, by decide⟩
theorem ki_X12_kill : Cond.instanceMethod yX12_kill ∈ kTb := kTb_of (kch_12 _ (List.mem_of_getElem? (i := 149) rfl)) (by decide +kernel)
theorem kse_X12_kill : Cond.selects (yX12_kill).cls yX12_kill yX12_kill ∈ kTb := kTb_of (kcs_10 _ (List.mem_of_getElem? (i := 15) rfl)) (by decide +kernel)
theorem kl_X12_least : kLk yX12_least cX12_least 2 (some .int) [] 2 := ⟨kTb_of (kch_11 _ (List.mem_of_getElem? (i := 192) rfl)) (by decide +kernel), kz_SearchClusterModel, by decide +kernel, by decide +kernel, by decide⟩
theorem kst_X12_least : Cond.static yX12_least ∈ kTb := kTb_of (kch_11 _ (List.mem_of_getElem? (i := 191) rfl)) (by decide +kernel)
theorem kl_X12_link : kLk yX12_link cX12_link 3 (some .int) [] 2 := ⟨kTb_of (kch_11 _ (List.mem_of_getElem? (i := 227) rfl)) (by decide +kernel), kz_SearchClusterModel, by decide +kernel, by decide +kernel, by decide⟩
theorem ki_X12_link : Cond.instanceMethod yX12_link ∈ kTb := kTb_of (kch_11 _ (List.mem_of_getElem? (i := 225) rfl)) (by decide +kernel)
theorem kse_X12_link : Cond.selects (yX12_link).cls yX12_link yX12_link ∈ kTb := kTb_of (kch_11 _ (List.mem_of_getElem? (i := 226) rfl)) (by decide +kernel)
theorem kl_X12_liveRequest : kLk yX12_liveRequest cX12_liveRequest 5 (some .int) [] 2 := ⟨kTb_of (kch_12 _ (List.mem_of_getElem? (i := 146) rfl)) (by decide +kernel), kz_SearchClusterModel, by decide +kernel, by decide +kernel, by decide⟩
theorem ki_X12_liveRequest : Cond.instanceMethod yX12_liveRequest ∈ kTb := kTb_of (kch_12 _ (List.mem_of_getElem? (i := 145) rfl)) (by decide +kernel)
theorem kse_X12_liveRequest : Cond.selects (yX12_liveRequest).cls yX12_liveRequest yX12_liveRequest ∈ kTb := kTb_of (kcs_10 _ (List.mem_of_getElem? (i := 14) rfl)) (by decide +kernel)
theorem kl_X12_log : kLk yX12_log cX12_log 5 (some .int) [] 1 := ⟨kTb_of (kch_13 _ (List.mem_of_getElem? (i := 54) rfl)) (by decide +kernel), kz_SearchClusterModel, by decide +kernel, by decide +kernel, by decide⟩
theorem kst_X12_log : Cond.static yX12_log ∈ kTb := kTb_of (kch_13 _ (List.mem_of_getElem? (i := 53) rfl)) (by decide +kernel)
theorem kl_X12_lose : kLk yX12_lose cX12_lose 3 (some .int) [] 2 := ⟨kTb_of (kch_13 _ (List.mem_of_getElem? (i := 72) rfl)) (by decide +kernel), kz_SearchClusterModel, by decide +kernel, by decide +kernel, by decide⟩
theorem ki_X12_lose : Cond.instanceMethod yX12_lose ∈ kTb := kTb_of (kch_13 _ (List.mem_of_getElem? (i := 70) rfl)) (by decide +kernel)
theorem kse_X12_lose : Cond.selects (yX12_lose).cls yX12_lose yX12_lose ∈ kTb := kTb_of (kch_13 _ (List.mem_of_getElem? (i := 71) rfl)) (by decide +kernel)
theorem kl_X12_make : kLk yX12_make cX12_make 4 (some .int) [] 3 := ⟨kTb_of (kch_11 _ (List.mem_of_getElem? (i := 114) rfl)) (by decide +kernel), kz_SearchClusterModel, by decide +kernel, by decide +kernel, by decide⟩
theorem ki_X12_make : Cond.instanceMethod yX12_make ∈ kTb := kTb_of (kch_11 _ (List.mem_of_getElem? (i := 112) rfl)) (by decide +kernel)
theorem kse_X12_make : Cond.selects (yX12_make).cls yX12_make yX12_make ∈ kTb := kTb_of (kch_11 _ (List.mem_of_getElem? (i := 113) rfl)) (by decide +kernel)
theorem kl_X12_map : kLk yX12_map cX12_map 10 none [] 1 := ⟨kTb_of (kch_12 _ (List.mem_of_getElem? (i := 19) rfl)) (by decide +kernel), kz_SearchClusterModel, by decide +kernel, by decide +kernel, by decide⟩
theorem ki_X12_map : Cond.instanceMethod yX12_map ∈ kTb := kTb_of (kch_12 _ (List.mem_of_getElem? (i := 18) rfl)) (by decide +kernel)
theorem kse_X12_map : Cond.selects (yX12_map).cls yX12_map yX12_map ∈ kTb := kTb_of (kcs_8 _ (List.mem_of_getElem? (i := 15) rfl)) (by decide +kernel)
theorem kl_X12_members : kLk yX12_members cX12_members 6 none [] 1 := ⟨kTb_of (kch_12 _ (List.mem_of_getElem? (i := 214) rfl)) (by decide +kernel), kz_SearchClusterModel, by decide +kernel, by decide +kernel, by decide⟩
theorem ki_X12_members : Cond.instanceMethod yX12_members ∈ kTb := kTb_of (kch_12 _ (List.mem_of_getElem? (i := 213) rfl)) (by decide +kernel)
theorem kse_X12_members : Cond.selects (yX12_members).cls yX12_members yX12_members ∈ kTb := kTb_of (kcs_11 _ (List.mem_of_getElem? (i := 15) rfl)) (by decide +kernel)
theorem kl_X12_message : kLk yX12_message cX12_message 6 (some .int) [] 4 := ⟨kTb_of (kch_11 _ (List.mem_of_getElem? (i := 235) rfl)) (by decide +kernel), kz_SearchClusterModel, by decide +kernel, by decide +kernel, by decide⟩
theorem ki_X12_message : Cond.instanceMethod yX12_message ∈ kTb := kTb_of (kch_11 _ (List.mem_of_getElem? (i := 233) rfl)) (by decide +kernel)
theorem kse_X12_message : Cond.selects (yX12_message).cls yX12_message yX12_message ∈ kTb := kTb_of (kch_11 _ (List.mem_of_getElem? (i := 234) rfl)) (by decide +kernel)
theorem kl_X12_moveSegment : kLk yX12_moveSegment cX12_moveSegment 4 none [] 2 := ⟨kTb_of (kch_12 _ (List.mem_of_getElem? (i := 162) rfl)) (by decide +kernel), kz_SearchClusterModel, by decide +kernel, by decide +kernel, by decide⟩
theorem ki_X12_moveSegment : Cond.instanceMethod yX12_moveSegment ∈ kTb := kTb_of (kch_12 _ (List.mem_of_getElem? (i := 161) rfl)) (by decide +kernel)
theorem kse_X12_moveSegment : Cond.selects (yX12_moveSegment).cls yX12_moveSegment yX12_moveSegment ∈ kTb := kTb_of (kcs_11 _ (List.mem_of_getElem? (i := 2) rfl)) (by decide +kernel)
theorem kl_X12_nodeAt : kLk yX12_nodeAt cX12_nodeAt 3 (some .int) [] 2 := ⟨kTb_of (kch_9 _ (List.mem_of_getElem? (i := 202) rfl)) (by decide +kernel), kz_SearchClusterModel, by decide +kernel, by decide +kernel, by decide⟩
theorem ki_X12_nodeAt : Cond.instanceMethod yX12_nodeAt ∈ kTb := kTb_of (kch_9 _ (List.mem_of_getElem? (i := 201) rfl)) (by decide +kernel)
theorem kse_X12_nodeAt : Cond.selects (yX12_nodeAt).cls yX12_nodeAt yX12_nodeAt ∈ kTb := kTb_of (kcs_7 _ (List.mem_of_getElem? (i := 6) rfl)) (by decide +kernel)
theorem kl_X12_nodeTick : kLk yX12_nodeTick cX12_nodeTick 4 none [] 1 := ⟨kTb_of (kch_13 _ (List.mem_of_getElem? (i := 84) rfl)) (by decide +kernel), kz_SearchClusterModel, by decide +kernel, by decide +kernel, by decide⟩
theorem ki_X12_nodeTick : Cond.instanceMethod yX12_nodeTick ∈ kTb := kTb_of (kch_13 _ (List.mem_of_getElem? (i := 83) rfl)) (by decide +kernel)
theorem kse_X12_nodeTick : Cond.selects (yX12_nodeTick).cls yX12_nodeTick yX12_nodeTick ∈ kTb := kTb_of (kcs_13 _ (List.mem_of_getElem? (i := 6) rfl)) (by decide +kernel)
theorem kl_X12_number : kLk yX12_number cX12_number 3 none [] 1 := ⟨kTb_of (kch_13 _ (List.mem_of_getElem? (i := 204) rfl)) (by decide +kernel), kz_SearchClusterModel, by decide +kernel, by decide +kernel, by decide⟩
theorem ki_X12_number : Cond.instanceMethod yX12_number ∈ kTb := kTb_of (kch_13 _ (List.mem_of_getElem? (i := 203) rfl)) (by decide +kernel)
theorem kse_X12_number : Cond.selects (yX12_number).cls yX12_number yX12_number ∈ kTb := kTb_of (kcs_14 _ (List.mem_of_getElem? (i := 8) rfl)) (by decide +kernel)
theorem kl_X12_octet : kLk yX12_octet cX12_octet 5 (some .int) [] 4 := ⟨kTb_of (kch_13 _ (List.mem_of_getElem? (i := 238) rfl)) (by decide +kernel), kz_SearchClusterModel, by decide +kernel, by decide +kernel, by decide⟩
theorem ki_X12_octet : Cond.instanceMethod yX12_octet ∈ kTb := kTb_of (kch_13 _ (List.mem_of_getElem? (i := 236) rfl)) (by decide +kernel)
theorem kse_X12_octet : Cond.selects (yX12_octet).cls yX12_octet yX12_octet ∈ kTb := kTb_of (kch_13 _ (List.mem_of_getElem? (i := 237) rfl)) (by decide +kernel)
theorem kl_X12_octetOf : kLk yX12_octetOf cX12_octetOf 5 (some .int) [] 3 := ⟨kTb_of (kch_13 _ (List.mem_of_getElem? (i := 230) rfl)) (by decide +kernel), kz_SearchClusterModel, by decide +kernel, by decide +kernel, by decide⟩
theorem kst_X12_octetOf : Cond.static yX12_octetOf ∈ kTb := kTb_of (kch_13 _ (List.mem_of_getElem? (i := 229) rfl)) (by decide +kernel)
theorem kl_X12_onWay : kLk yX12_onWay cX12_onWay 6 (some .int) [] 3 := ⟨kTb_of (kch_12 _ (List.mem_of_getElem? (i := 130) rfl)) (by decide +kernel), kz_SearchClusterModel, by decide +kernel, by decide +kernel, by decide⟩
theorem ki_X12_onWay : Cond.instanceMethod yX12_onWay ∈ kTb := kTb_of (kch_12 _ (List.mem_of_getElem? (i := 129) rfl)) (by decide +kernel)
theorem kse_X12_onWay : Cond.selects (yX12_onWay).cls yX12_onWay yX12_onWay ∈ kTb := kTb_of (kcs_10 _ (List.mem_of_getElem? (i := 10) rfl)) (by decide +kernel)
theorem kl_X12_open : kLk yX12_open cX12_open 10 none [] 5 := ⟨kTb_of (kch_13 _ (List.mem_of_getElem? (i := 6) rfl)) (by decide +kernel), kz_SearchClusterModel, by decide +kernel, by decide +kernel, by decide⟩
theorem ki_X12_open : Cond.instanceMethod yX12_open ∈ kTb := kTb_of (kch_13 _ (List.mem_of_getElem? (i := 5) rfl)) (by decide +kernel)
theorem kse_X12_open : Cond.selects (yX12_open).cls yX12_open yX12_open ∈ kTb := kTb_of (kcs_12 _ (List.mem_of_getElem? (i := 7) rfl)) (by decide +kernel)
theorem kl_X12_other : kLk yX12_other cX12_other 7 (some .int) [] 4 := ⟨kTb_of (kch_13 _ (List.mem_of_getElem? (i := 172) rfl)) (by decide +kernel), kz_SearchClusterModel, by decide +kernel, by decide +kernel, by decide⟩
theorem ki_X12_other : Cond.instanceMethod yX12_other ∈ kTb := kTb_of (kch_13 _ (List.mem_of_getElem? (i := 170) rfl)) (by decide +kernel)
theorem kse_X12_other : Cond.selects (yX12_other).cls yX12_other yX12_other ∈ kTb := kTb_of (kch_13 _ (List.mem_of_getElem? (i := 171) rfl)) (by decide +kernel)
theorem kl_X12_out : kLk yX12_out cX12_out 5 none [] 1 := ⟨kTb_of (kch_12 _ (List.mem_of_getElem? (i := 194) rfl)) (by decide +kernel), kz_SearchClusterModel, by decide +kernel, by decide +kernel, by decide⟩
theorem ki_X12_out : Cond.instanceMethod yX12_out ∈ kTb := kTb_of (kch_12 _ (List.mem_of_getElem? (i := 193) rfl)) (by decide +kernel)
theorem kse_X12_out : Cond.selects (yX12_out).cls yX12_out yX12_out ∈ kTb := kTb_of (kcs_11 _ (List.mem_of_getElem? (i := 10) rfl)) (by decide +kernel)
theorem kl_X12_primaryTick : kLk yX12_primaryTick cX12_primaryTick 5 none [] 2 := ⟨kTb_of (kch_13 _ (List.mem_of_getElem? (i := 92) rfl)) (by decide +kernel), kz_SearchClusterModel, by decide +kernel, by decide +kernel, by decide⟩
theorem ki_X12_primaryTick : Cond.instanceMethod yX12_primaryTick ∈ kTb := kTb_of (kch_13 _ (List.mem_of_getElem? (i := 91) rfl)) (by decide +kernel)
theorem kse_X12_primaryTick : Cond.selects (yX12_primaryTick).cls yX12_primaryTick yX12_primaryTick ∈ kTb := kTb_of (kcs_13 _ (List.mem_of_getElem? (i := 8) rfl)) (by decide +kernel)
theorem kl_X12_promote : kLk yX12_promote cX12_promote 7 (some .boolean) [] 1 := ⟨kTb_of (kch_12 _ (List.mem_of_getElem? (i := 226) rfl)) (by decide +kernel), kz_SearchClusterModel, by decide +kernel, by decide +kernel, by decide⟩
theorem ki_X12_promote : Cond.instanceMethod yX12_promote ∈ kTb := kTb_of (kch_12 _ (List.mem_of_getElem? (i := 225) rfl)) (by decide +kernel)
theorem kse_X12_promote : Cond.selects (yX12_promote).cls yX12_promote yX12_promote ∈ kTb := kTb_of (kcs_12 _ (List.mem_of_getElem? (i := 2) rfl)) (by decide +kernel)
theorem kl_X12_put : kLk yX12_put cX12_put 4 (some .int) [] 2 := ⟨kTb_of (kch_11 _ (List.mem_of_getElem? (i := 123) rfl)) (by decide +kernel), kz_SearchClusterModel, by decide +kernel, by decide +kernel, by decide⟩
theorem ki_X12_put : Cond.instanceMethod yX12_put ∈ kTb := kTb_of (kch_11 _ (List.mem_of_getElem? (i := 121) rfl)) (by decide +kernel)
theorem kse_X12_put : Cond.selects (yX12_put).cls yX12_put yX12_put ∈ kTb := kTb_of (kch_11 _ (List.mem_of_getElem? (i := 122) rfl)) (by decide +kernel)
theorem kl_X12_putFresh : kLk yX12_putFresh cX12_putFresh 4 none [] 1 := ⟨kTb_of (kch_12 _ (List.mem_of_getElem? (i := 154) rfl)) (by decide +kernel), kz_SearchClusterModel, by decide +kernel, by decide +kernel, by decide⟩
theorem ki_X12_putFresh : Cond.instanceMethod yX12_putFresh ∈ kTb := kTb_of (kch_12 _ (List.mem_of_getElem? (i := 153) rfl)) (by decide +kernel)
theorem kse_X12_putFresh : Cond.selects (yX12_putFresh).cls yX12_putFresh yX12_putFresh ∈ kTb := kTb_of (kcs_11 _ (List.mem_of_getElem? (i := 0) rfl)) (by decide +kernel)
theorem kl_X12_putRecord : kLk yX12_putRecord cX12_putRecord 8 (some .boolean) [] 1 := ⟨kTb_of (kch_12 _ (List.mem_of_getElem? (i := 71) rfl)) (by decide +kernel), kz_SearchClusterModel, by decide +kernel, by decide +kernel, by decide⟩
theorem ki_X12_putRecord : Cond.instanceMethod yX12_putRecord ∈ kTb := kTb_of (kch_12 _ (List.mem_of_getElem? (i := 70) rfl)) (by decide +kernel)
theorem kse_X12_putRecord : Cond.selects (yX12_putRecord).cls yX12_putRecord yX12_putRecord ∈ kTb := kTb_of (kcs_9 _ (List.mem_of_getElem? (i := 12) rfl)) (by decide +kernel)
theorem kl_X12_question : kLk yX12_question cX12_question 5 none [] 2 := ⟨kTb_of (kch_11 _ (List.mem_of_getElem? (i := 163) rfl)) (by decide +kernel), kz_SearchClusterModel, by decide +kernel, by decide +kernel, by decide⟩
theorem ki_X12_question : Cond.instanceMethod yX12_question ∈ kTb := kTb_of (kch_11 _ (List.mem_of_getElem? (i := 162) rfl)) (by decide +kernel)
theorem kse_X12_question : Cond.selects (yX12_question).cls yX12_question yX12_question ∈ kTb := kTb_of (kcs_7 _ (List.mem_of_getElem? (i := 15) rfl)) (by decide +kernel)
theorem kl_X12_questionOf : kLk yX12_questionOf cX12_questionOf 2 none [] 1 := ⟨kTb_of (kch_13 _ (List.mem_of_getElem? (i := 10) rfl)) (by decide +kernel), kz_SearchClusterModel, by decide +kernel, by decide +kernel, by decide⟩
theorem ki_X12_questionOf : Cond.instanceMethod yX12_questionOf ∈ kTb := kTb_of (kch_13 _ (List.mem_of_getElem? (i := 9) rfl)) (by decide +kernel)
theorem kse_X12_questionOf : Cond.selects (yX12_questionOf).cls yX12_questionOf yX12_questionOf ∈ kTb := kTb_of (kcs_12 _ (List.mem_of_getElem? (i := 8) rfl)) (by decide +kernel)
theorem kl_X12_r1 : kLk yX12_r1 cX12_r1 2 none [] 1 := ⟨kTb_of (kch_12 _ (List.mem_of_getElem? (i := 63) rfl)) (by decide +kernel), kz_SearchClusterModel, by decide +kernel, by decide +kernel, by decide⟩
theorem ki_X12_r1 : Cond.instanceMethod yX12_r1 ∈ kTb := kTb_of (kch_12 _ (List.mem_of_getElem? (i := 62) rfl)) (by decide +kernel)
theorem kse_X12_r1 : Cond.selects (yX12_r1).cls yX12_r1 yX12_r1 ∈ kTb := kTb_of (kcs_9 _ (List.mem_of_getElem? (i := 10) rfl)) (by decide +kernel)
theorem kl_X12_r2 : kLk yX12_r2 cX12_r2 2 none [] 1 := ⟨kTb_of (kch_12 _ (List.mem_of_getElem? (i := 67) rfl)) (by decide +kernel), kz_SearchClusterModel, by decide +kernel, by decide +kernel, by decide⟩
theorem ki_X12_r2 : Cond.instanceMethod yX12_r2 ∈ kTb := kTb_of (kch_12 _ (List.mem_of_getElem? (i := 66) rfl)) (by decide +kernel)
theorem kse_X12_r2 : Cond.selects (yX12_r2).cls yX12_r2 yX12_r2 ∈ kTb := kTb_of (kcs_9 _ (List.mem_of_getElem? (i := 11) rfl)) (by decide +kernel)
theorem kl_X12_read : kLk yX12_read cX12_read 6 none [] 1 := ⟨kTb_of (kch_13 _ (List.mem_of_getElem? (i := 22) rfl)) (by decide +kernel), kz_SearchClusterModel, by decide +kernel, by decide +kernel, by decide⟩
theorem ki_X12_read : Cond.instanceMethod yX12_read ∈ kTb := kTb_of (kch_13 _ (List.mem_of_getElem? (i := 21) rfl)) (by decide +kernel)
theorem kse_X12_read : Cond.selects (yX12_read).cls yX12_read yX12_read ∈ kTb := kTb_of (kcs_12 _ (List.mem_of_getElem? (i := 11) rfl)) (by decide +kernel)
theorem kl_X12_readCopy : kLk yX12_readCopy cX12_readCopy 7 none [] 1 := ⟨kTb_of (kch_13 _ (List.mem_of_getElem? (i := 156) rfl)) (by decide +kernel), kz_SearchClusterModel, by decide +kernel, by decide +kernel, by decide⟩
theorem ki_X12_readCopy : Cond.instanceMethod yX12_readCopy ∈ kTb := kTb_of (kch_13 _ (List.mem_of_getElem? (i := 155) rfl)) (by decide +kernel)
theorem kse_X12_readCopy : Cond.selects (yX12_readCopy).cls yX12_readCopy yX12_readCopy ∈ kTb := kTb_of (kcs_14 _ (List.mem_of_getElem? (i := 4) rfl)) (by decide +kernel)
theorem kl_X12_readDisk : kLk yX12_readDisk cX12_readDisk 7 (some .boolean) [] 1 := ⟨kTb_of (kch_13 _ (List.mem_of_getElem? (i := 132) rfl)) (by decide +kernel), kz_SearchClusterModel, by decide +kernel, by decide +kernel, by decide⟩
theorem ki_X12_readDisk : Cond.instanceMethod yX12_readDisk ∈ kTb := kTb_of (kch_13 _ (List.mem_of_getElem? (i := 131) rfl)) (by decide +kernel)
theorem kse_X12_readDisk : Cond.selects (yX12_readDisk).cls yX12_readDisk yX12_readDisk ∈ kTb := kTb_of (kcs_13 _ (List.mem_of_getElem? (i := 14) rfl)) (by decide +kernel)
theorem kl_X12_readViews : kLk yX12_readViews cX12_readViews 4 none [] 0 := ⟨kTb_of (kch_13 _ (List.mem_of_getElem? (i := 148) rfl)) (by decide +kernel), kz_SearchClusterModel, by decide +kernel, by decide +kernel, by decide⟩
theorem ki_X12_readViews : Cond.instanceMethod yX12_readViews ∈ kTb := kTb_of (kch_13 _ (List.mem_of_getElem? (i := 147) rfl)) (by decide +kernel)
theorem kse_X12_readViews : Cond.selects (yX12_readViews).cls yX12_readViews yX12_readViews ∈ kTb := kTb_of (kcs_14 _ (List.mem_of_getElem? (i := 2) rfl)) (by decide +kernel)
theorem kl_X12_refresh : kLk yX12_refresh cX12_refresh 3 (some .int) [] 2 := ⟨kTb_of (kch_11 _ (List.mem_of_getElem? (i := 155) rfl)) (by decide +kernel), kz_SearchClusterModel, by decide +kernel, by decide +kernel, by decide⟩
theorem ki_X12_refresh : Cond.instanceMethod yX12_refresh ∈ kTb := kTb_of (kch_11 _ (List.mem_of_getElem? (i := 153) rfl)) (by decide +kernel)
theorem kse_X12_refresh : Cond.selects (yX12_refresh).cls yX12_refresh yX12_refresh ∈ kTb := kTb_of (kch_11 _ (List.mem_of_getElem? (i := 154) rfl)) (by decide +kernel)
theorem kl_X12_repl : kLk yX12_repl cX12_repl 6 none [] 2 := ⟨kTb_of (kch_12 _ (List.mem_of_getElem? (i := 103) rfl)) (by decide +kernel), kz_SearchClusterModel, by decide +kernel, by decide +kernel, by decide⟩
theorem ki_X12_repl : Cond.instanceMethod yX12_repl ∈ kTb := kTb_of (kch_12 _ (List.mem_of_getElem? (i := 102) rfl)) (by decide +kernel)
theorem kse_X12_repl : Cond.selects (yX12_repl).cls yX12_repl yX12_repl ∈ kTb := kTb_of (kcs_10 _ (List.mem_of_getElem? (i := 4) rfl)) (by decide +kernel)
theorem kl_X12_request : kLk yX12_request cX12_request 4 (some .int) [] 2 := ⟨kTb_of (kch_11 _ (List.mem_of_getElem? (i := 219) rfl)) (by decide +kernel), kz_SearchClusterModel, by decide +kernel, by decide +kernel, by decide⟩
theorem ki_X12_request : Cond.instanceMethod yX12_request ∈ kTb := kTb_of (kch_11 _ (List.mem_of_getElem? (i := 217) rfl)) (by decide +kernel)
theorem kse_X12_request : Cond.selects (yX12_request).cls yX12_request yX12_request ∈ kTb := kTb_of (kch_11 _ (List.mem_of_getElem? (i := 218) rfl)) (by decide +kernel)
theorem kl_X12_requestTick : kLk yX12_requestTick cX12_requestTick 3 none [] 2 := ⟨kTb_of (kch_13 _ (List.mem_of_getElem? (i := 104) rfl)) (by decide +kernel), kz_SearchClusterModel, by decide +kernel, by decide +kernel, by decide⟩
theorem ki_X12_requestTick : Cond.instanceMethod yX12_requestTick ∈ kTb := kTb_of (kch_13 _ (List.mem_of_getElem? (i := 103) rfl)) (by decide +kernel)
theorem kse_X12_requestTick : Cond.selects (yX12_requestTick).cls yX12_requestTick yX12_requestTick ∈ kTb := kTb_of (kcs_13 _ (List.mem_of_getElem? (i := 11) rfl)) (by decide +kernel)
theorem kl_X12_rise : kLk yX12_rise cX12_rise 3 (some .boolean) [] 1 := ⟨kTb_of (kch_13 _ (List.mem_of_getElem? (i := 128) rfl)) (by decide +kernel), kz_SearchClusterModel, by decide +kernel, by decide +kernel, by decide⟩
theorem ki_X12_rise : Cond.instanceMethod yX12_rise ∈ kTb := kTb_of (kch_13 _ (List.mem_of_getElem? (i := 127) rfl)) (by decide +kernel)
theorem kse_X12_rise : Cond.selects (yX12_rise).cls yX12_rise yX12_rise ∈ kTb := kTb_of (kcs_13 _ (List.mem_of_getElem? (i := 13) rfl)) (by decide +kernel)
theorem kl_X12_route : kLk yX12_route cX12_route 3 none [] 1 := ⟨kTb_of (kch_12 _ (List.mem_of_getElem? (i := 15) rfl)) (by decide +kernel), kz_SearchClusterModel, by decide +kernel, by decide +kernel, by decide⟩
theorem ki_X12_route : Cond.instanceMethod yX12_route ∈ kTb := kTb_of (kch_12 _ (List.mem_of_getElem? (i := 14) rfl)) (by decide +kernel)
theorem kse_X12_route : Cond.selects (yX12_route).cls yX12_route yX12_route ∈ kTb := kTb_of (kcs_8 _ (List.mem_of_getElem? (i := 14) rfl)) (by decide +kernel)
theorem kl_X12_rowsWithin : kLk yX12_rowsWithin cX12_rowsWithin 5 none [] 2 := ⟨kTb_of (kch_11 _ (List.mem_of_getElem? (i := 215) rfl)) (by decide +kernel), kz_SearchClusterModel, by decide +kernel, by decide +kernel, by decide⟩
theorem ki_X12_rowsWithin : Cond.instanceMethod yX12_rowsWithin ∈ kTb := kTb_of (kch_11 _ (List.mem_of_getElem? (i := 214) rfl)) (by decide +kernel)
theorem kse_X12_rowsWithin : Cond.selects (yX12_rowsWithin).cls yX12_rowsWithin yX12_rowsWithin ∈ kTb := kTb_of (kcs_8 _ (List.mem_of_getElem? (i := 9) rfl)) (by decide +kernel)
theorem kl_X12_run : kLk yX12_run cX12_run 9 (some .int) [] 1 := ⟨kTb_of (kch_13 _ (List.mem_of_getElem? (i := 112) rfl)) (by decide +kernel), kz_SearchClusterModel, by decide +kernel, by decide +kernel, by decide⟩
theorem ki_X12_run : Cond.instanceMethod yX12_run ∈ kTb := kTb_of (kch_13 _ (List.mem_of_getElem? (i := 110) rfl)) (by decide +kernel)
theorem kse_X12_run : Cond.selects (yX12_run).cls yX12_run yX12_run ∈ kTb := kTb_of (kch_13 _ (List.mem_of_getElem? (i := 111) rfl)) (by decide +kernel)
theorem kl_X12_sameWord : kLk yX12_sameWord cX12_sameWord 3 (some .boolean) [] 2 := ⟨kTb_of (kch_13 _ (List.mem_of_getElem? (i := 220) rfl)) (by decide +kernel), kz_SearchClusterModel, by decide +kernel, by decide +kernel, by decide⟩
theorem ki_X12_sameWord : Cond.instanceMethod yX12_sameWord ∈ kTb := kTb_of (kch_13 _ (List.mem_of_getElem? (i := 219) rfl)) (by decide +kernel)
theorem kse_X12_sameWord : Cond.selects (yX12_sameWord).cls yX12_sameWord yX12_sameWord ∈ kTb := kTb_of (kcs_14 _ (List.mem_of_getElem? (i := 12) rfl)) (by decide +kernel)
theorem kl_X12_score : kLk yX12_score cX12_score 7 none [] 2 := ⟨kTb_of (kch_13 _ (List.mem_of_getElem? (i := 34) rfl)) (by decide +kernel), kz_SearchClusterModel, by decide +kernel, by decide +kernel, by decide⟩
theorem ki_X12_score : Cond.instanceMethod yX12_score ∈ kTb := kTb_of (kch_13 _ (List.mem_of_getElem? (i := 33) rfl)) (by decide +kernel)
theorem kse_X12_score : Cond.selects (yX12_score).cls yX12_score yX12_score ∈ kTb := kTb_of (kcs_12 _ (List.mem_of_getElem? (i := 14) rfl)) (by decide +kernel)
theorem kl_X12_scoreOf : kLk yX12_scoreOf cX12_scoreOf 15 (some .int) [] 0 := ⟨kTb_of (kch_13 _ (List.mem_of_getElem? (i := 38) rfl)) (by decide +kernel), kz_SearchClusterModel, by decide +kernel, by decide +kernel, by decide⟩
theorem ki_X12_scoreOf : Cond.instanceMethod yX12_scoreOf ∈ kTb := kTb_of (kch_13 _ (List.mem_of_getElem? (i := 37) rfl)) (by decide +kernel)
theorem kse_X12_scoreOf : Cond.selects (yX12_scoreOf).cls yX12_scoreOf yX12_scoreOf ∈ kTb := kTb_of (kcs_12 _ (List.mem_of_getElem? (i := 15) rfl)) (by decide +kernel)
theorem kl_X12_segment : kLk yX12_segment cX12_segment 8 (some .int) [] 4 := ⟨kTb_of (kch_13 _ (List.mem_of_getElem? (i := 192) rfl)) (by decide +kernel), kz_SearchClusterModel, by decide +kernel, by decide +kernel, by decide⟩
theorem ki_X12_segment : Cond.instanceMethod yX12_segment ∈ kTb := kTb_of (kch_13 _ (List.mem_of_getElem? (i := 190) rfl)) (by decide +kernel)
theorem kse_X12_segment : Cond.selects (yX12_segment).cls yX12_segment yX12_segment ∈ kTb := kTb_of (kch_13 _ (List.mem_of_getElem? (i := 191) rfl)) (by decide +kernel)
theorem kl_X12_send : kLk yX12_send cX12_send 7 none [] 3 := ⟨kTb_of (kch_11 _ (List.mem_of_getElem? (i := 143) rfl)) (by decide +kernel), kz_SearchClusterModel, by decide +kernel, by decide +kernel, by decide⟩
theorem ki_X12_send : Cond.instanceMethod yX12_send ∈ kTb := kTb_of (kch_11 _ (List.mem_of_getElem? (i := 142) rfl)) (by decide +kernel)
theorem kse_X12_send : Cond.selects (yX12_send).cls yX12_send yX12_send ∈ kTb := kTb_of (kcs_7 _ (List.mem_of_getElem? (i := 13) rfl)) (by decide +kernel)
theorem kl_X12_sendAck : kLk yX12_sendAck cX12_sendAck 3 none [] 2 := ⟨kTb_of (kch_12 _ (List.mem_of_getElem? (i := 114) rfl)) (by decide +kernel), kz_SearchClusterModel, by decide +kernel, by decide +kernel, by decide⟩
theorem ki_X12_sendAck : Cond.instanceMethod yX12_sendAck ∈ kTb := kTb_of (kch_12 _ (List.mem_of_getElem? (i := 113) rfl)) (by decide +kernel)
theorem kse_X12_sendAck : Cond.selects (yX12_sendAck).cls yX12_sendAck yX12_sendAck ∈ kTb := kTb_of (kcs_10 _ (List.mem_of_getElem? (i := 6) rfl)) (by decide +kernel)
theorem kl_X12_sendAdd : kLk yX12_sendAdd cX12_sendAdd 3 none [] 2 := ⟨kTb_of (kch_12 _ (List.mem_of_getElem? (i := 122) rfl)) (by decide +kernel), kz_SearchClusterModel, by decide +kernel, by decide +kernel, by decide⟩
theorem ki_X12_sendAdd : Cond.instanceMethod yX12_sendAdd ∈ kTb := kTb_of (kch_12 _ (List.mem_of_getElem? (i := 121) rfl)) (by decide +kernel)
theorem kse_X12_sendAdd : Cond.selects (yX12_sendAdd).cls yX12_sendAdd yX12_sendAdd ∈ kTb := kTb_of (kcs_10 _ (List.mem_of_getElem? (i := 8) rfl)) (by decide +kernel)
theorem kl_X12_sendConfig : kLk yX12_sendConfig cX12_sendConfig 3 none [] 2 := ⟨kTb_of (kch_12 _ (List.mem_of_getElem? (i := 182) rfl)) (by decide +kernel), kz_SearchClusterModel, by decide +kernel, by decide +kernel, by decide⟩
theorem ki_X12_sendConfig : Cond.instanceMethod yX12_sendConfig ∈ kTb := kTb_of (kch_12 _ (List.mem_of_getElem? (i := 181) rfl)) (by decide +kernel)
theorem kse_X12_sendConfig : Cond.selects (yX12_sendConfig).cls yX12_sendConfig yX12_sendConfig ∈ kTb := kTb_of (kcs_11 _ (List.mem_of_getElem? (i := 7) rfl)) (by decide +kernel)
theorem kl_X12_sendFail : kLk yX12_sendFail cX12_sendFail 4 none [] 2 := ⟨kTb_of (kch_13 _ (List.mem_of_getElem? (i := 96) rfl)) (by decide +kernel), kz_SearchClusterModel, by decide +kernel, by decide +kernel, by decide⟩
theorem ki_X12_sendFail : Cond.instanceMethod yX12_sendFail ∈ kTb := kTb_of (kch_13 _ (List.mem_of_getElem? (i := 95) rfl)) (by decide +kernel)
theorem kse_X12_sendFail : Cond.selects (yX12_sendFail).cls yX12_sendFail yX12_sendFail ∈ kTb := kTb_of (kcs_13 _ (List.mem_of_getElem? (i := 9) rfl)) (by decide +kernel)
theorem kl_X12_sendJoin : kLk yX12_sendJoin cX12_sendJoin 2 none [] 1 := ⟨kTb_of (kch_12 _ (List.mem_of_getElem? (i := 210) rfl)) (by decide +kernel), kz_SearchClusterModel, by decide +kernel, by decide +kernel, by decide⟩
theorem ki_X12_sendJoin : Cond.instanceMethod yX12_sendJoin ∈ kTb := kTb_of (kch_12 _ (List.mem_of_getElem? (i := 209) rfl)) (by decide +kernel)
theorem kse_X12_sendJoin : Cond.selects (yX12_sendJoin).cls yX12_sendJoin yX12_sendJoin ∈ kTb := kTb_of (kcs_11 _ (List.mem_of_getElem? (i := 14) rfl)) (by decide +kernel)
theorem kl_X12_sendRepl : kLk yX12_sendRepl cX12_sendRepl 4 none [] 3 := ⟨kTb_of (kch_12 _ (List.mem_of_getElem? (i := 83) rfl)) (by decide +kernel), kz_SearchClusterModel, by decide +kernel, by decide +kernel, by decide⟩
theorem ki_X12_sendRepl : Cond.instanceMethod yX12_sendRepl ∈ kTb := kTb_of (kch_12 _ (List.mem_of_getElem? (i := 82) rfl)) (by decide +kernel)
theorem kse_X12_sendRepl : Cond.selects (yX12_sendRepl).cls yX12_sendRepl yX12_sendRepl ∈ kTb := kTb_of (kcs_9 _ (List.mem_of_getElem? (i := 15) rfl)) (by decide +kernel)
theorem kl_X12_sendShowTo : kLk yX12_sendShowTo cX12_sendShowTo 3 none [] 2 := ⟨kTb_of (kch_12 _ (List.mem_of_getElem? (i := 238) rfl)) (by decide +kernel), kz_SearchClusterModel, by decide +kernel, by decide +kernel, by decide⟩
theorem ki_X12_sendShowTo : Cond.instanceMethod yX12_sendShowTo ∈ kTb := kTb_of (kch_12 _ (List.mem_of_getElem? (i := 237) rfl)) (by decide +kernel)
theorem kse_X12_sendShowTo : Cond.selects (yX12_sendShowTo).cls yX12_sendShowTo yX12_sendShowTo ∈ kTb := kTb_of (kcs_12 _ (List.mem_of_getElem? (i := 5) rfl)) (by decide +kernel)
theorem kl_X12_sendSimple : kLk yX12_sendSimple cX12_sendSimple 6 none [] 5 := ⟨kTb_of (kch_11 _ (List.mem_of_getElem? (i := 139) rfl)) (by decide +kernel), kz_SearchClusterModel, by decide +kernel, by decide +kernel, by decide⟩
theorem ki_X12_sendSimple : Cond.instanceMethod yX12_sendSimple ∈ kTb := kTb_of (kch_11 _ (List.mem_of_getElem? (i := 138) rfl)) (by decide +kernel)
theorem kse_X12_sendSimple : Cond.selects (yX12_sendSimple).cls yX12_sendSimple yX12_sendSimple ∈ kTb := kTb_of (kcs_7 _ (List.mem_of_getElem? (i := 12) rfl)) (by decide +kernel)
theorem kl_X12_setView : kLk yX12_setView cX12_setView 6 none [] 5 := ⟨kTb_of (kch_9 _ (List.mem_of_getElem? (i := 166) rfl)) (by decide +kernel), kz_SearchClusterModel, by decide +kernel, by decide +kernel, by decide⟩
theorem ki_X12_setView : Cond.instanceMethod yX12_setView ∈ kTb := kTb_of (kch_9 _ (List.mem_of_getElem? (i := 165) rfl)) (by decide +kernel)
theorem kse_X12_setView : Cond.selects (yX12_setView).cls yX12_setView yX12_setView ∈ kTb := kTb_of (kcs_6 _ (List.mem_of_getElem? (i := 13) rfl)) (by decide +kernel)
theorem kl_X12_settle : kLk yX12_settle cX12_settle 8 none [] 1 := ⟨kTb_of (kch_12 _ (List.mem_of_getElem? (i := 87) rfl)) (by decide +kernel), kz_SearchClusterModel, by decide +kernel, by decide +kernel, by decide⟩
theorem ki_X12_settle : Cond.instanceMethod yX12_settle ∈ kTb := kTb_of (kch_12 _ (List.mem_of_getElem? (i := 86) rfl)) (by decide +kernel)
theorem kse_X12_settle : Cond.selects (yX12_settle).cls yX12_settle yX12_settle ∈ kTb := kTb_of (kcs_10 _ (List.mem_of_getElem? (i := 0) rfl)) (by decide +kernel)
theorem kl_X12_show : kLk yX12_show cX12_show 4 (some .boolean) [] 2 := ⟨kTb_of (kch_12 _ (List.mem_of_getElem? (i := 138) rfl)) (by decide +kernel), kz_SearchClusterModel, by decide +kernel, by decide +kernel, by decide⟩
theorem ki_X12_show : Cond.instanceMethod yX12_show ∈ kTb := kTb_of (kch_12 _ (List.mem_of_getElem? (i := 137) rfl)) (by decide +kernel)
theorem kse_X12_show : Cond.selects (yX12_show).cls yX12_show yX12_show ∈ kTb := kTb_of (kcs_10 _ (List.mem_of_getElem? (i := 12) rfl)) (by decide +kernel)
theorem kl_X12_showNow : kLk yX12_showNow cX12_showNow 8 none [] 2 := ⟨kTb_of (kch_12 _ (List.mem_of_getElem? (i := 234) rfl)) (by decide +kernel), kz_SearchClusterModel, by decide +kernel, by decide +kernel, by decide⟩
theorem ki_X12_showNow : Cond.instanceMethod yX12_showNow ∈ kTb := kTb_of (kch_12 _ (List.mem_of_getElem? (i := 233) rfl)) (by decide +kernel)
theorem kse_X12_showNow : Cond.selects (yX12_showNow).cls yX12_showNow yX12_showNow ∈ kTb := kTb_of (kcs_12 _ (List.mem_of_getElem? (i := 4) rfl)) (by decide +kernel)
theorem kl_X12_showTo : kLk yX12_showTo cX12_showTo 7 none [] 2 := ⟨kTb_of (kch_13 _ (List.mem_of_getElem? (i := 2) rfl)) (by decide +kernel), kz_SearchClusterModel, by decide +kernel, by decide +kernel, by decide⟩
theorem ki_X12_showTo : Cond.instanceMethod yX12_showTo ∈ kTb := kTb_of (kch_13 _ (List.mem_of_getElem? (i := 1) rfl)) (by decide +kernel)
theorem kse_X12_showTo : Cond.selects (yX12_showTo).cls yX12_showTo yX12_showTo ∈ kTb := kTb_of (kcs_12 _ (List.mem_of_getElem? (i := 6) rfl)) (by decide +kernel)
theorem kl_X12_sign : kLk yX12_sign cX12_sign 1 (some .int) [] 0 := ⟨kTb_of (kch_11 _ (List.mem_of_getElem? (i := 171) rfl)) (by decide +kernel), kz_SearchClusterModel, by decide +kernel, by decide +kernel, by decide⟩
theorem ki_X12_sign : Cond.instanceMethod yX12_sign ∈ kTb := kTb_of (kch_11 _ (List.mem_of_getElem? (i := 170) rfl)) (by decide +kernel)
theorem kse_X12_sign : Cond.selects (yX12_sign).cls yX12_sign yX12_sign ∈ kTb := kTb_of (kcs_8 _ (List.mem_of_getElem? (i := 1) rfl)) (by decide +kernel)
theorem kl_X12_sizeOf : kLk yX12_sizeOf cX12_sizeOf 5 (some .int) [] 2 := ⟨kTb_of (kch_13 _ (List.mem_of_getElem? (i := 227) rfl)) (by decide +kernel), kz_SearchClusterModel, by decide +kernel, by decide +kernel, by decide⟩
theorem kst_X12_sizeOf : Cond.static yX12_sizeOf ∈ kTb := kTb_of (kch_13 _ (List.mem_of_getElem? (i := 226) rfl)) (by decide +kernel)
theorem kl_X12_skipBlanks : kLk yX12_skipBlanks cX12_skipBlanks 1 none [] 0 := ⟨kTb_of (kch_11 _ (List.mem_of_getElem? (i := 167) rfl)) (by decide +kernel), kz_SearchClusterModel, by decide +kernel, by decide +kernel, by decide⟩
theorem ki_X12_skipBlanks : Cond.instanceMethod yX12_skipBlanks ∈ kTb := kTb_of (kch_11 _ (List.mem_of_getElem? (i := 166) rfl)) (by decide +kernel)
theorem kse_X12_skipBlanks : Cond.selects (yX12_skipBlanks).cls yX12_skipBlanks yX12_skipBlanks ∈ kTb := kTb_of (kcs_8 _ (List.mem_of_getElem? (i := 0) rfl)) (by decide +kernel)
theorem kl_X12_small : kLk yX12_small cX12_small 1 (some .int) [] 1 := ⟨kTb_of (kch_11 _ (List.mem_of_getElem? (i := 195) rfl)) (by decide +kernel), kz_SearchClusterModel, by decide +kernel, by decide +kernel, by decide⟩
theorem kst_X12_small : Cond.static yX12_small ∈ kTb := kTb_of (kch_11 _ (List.mem_of_getElem? (i := 194) rfl)) (by decide +kernel)
theorem kl_X12_sort : kLk yX12_sort cX12_sort 9 none [] 0 := ⟨kTb_of (kch_13 _ (List.mem_of_getElem? (i := 212) rfl)) (by decide +kernel), kz_SearchClusterModel, by decide +kernel, by decide +kernel, by decide⟩
theorem ki_X12_sort : Cond.instanceMethod yX12_sort ∈ kTb := kTb_of (kch_13 _ (List.mem_of_getElem? (i := 211) rfl)) (by decide +kernel)
theorem kse_X12_sort : Cond.selects (yX12_sort).cls yX12_sort yX12_sort ∈ kTb := kTb_of (kcs_14 _ (List.mem_of_getElem? (i := 10) rfl)) (by decide +kernel)
theorem kl_X12_start : kLk yX12_start cX12_start 2 (some .boolean) [] 1 := ⟨kTb_of (kch_13 _ (List.mem_of_getElem? (i := 124) rfl)) (by decide +kernel), kz_SearchClusterModel, by decide +kernel, by decide +kernel, by decide⟩
theorem ki_X12_start : Cond.instanceMethod yX12_start ∈ kTb := kTb_of (kch_13 _ (List.mem_of_getElem? (i := 122) rfl)) (by decide +kernel)
theorem kse_X12_start : Cond.selects (yX12_start).cls yX12_start yX12_start ∈ kTb := kTb_of (kch_13 _ (List.mem_of_getElem? (i := 123) rfl)) (by decide +kernel)
theorem kl_X12_stats : kLk yX12_stats cX12_stats 8 none [] 2 := ⟨kTb_of (kch_13 _ (List.mem_of_getElem? (i := 30) rfl)) (by decide +kernel), kz_SearchClusterModel, by decide +kernel, by decide +kernel, by decide⟩
theorem ki_X12_stats : Cond.instanceMethod yX12_stats ∈ kTb := kTb_of (kch_13 _ (List.mem_of_getElem? (i := 29) rfl)) (by decide +kernel)
theorem kse_X12_stats : Cond.selects (yX12_stats).cls yX12_stats yX12_stats ∈ kTb := kTb_of (kcs_12 _ (List.mem_of_getElem? (i := 13) rfl)) (by decide +kernel)
theorem kl_X12_statsOf : kLk yX12_statsOf cX12_statsOf 6 none [] 2 := ⟨kTb_of (kch_13 _ (List.mem_of_getElem? (i := 18) rfl)) (by decide +kernel), kz_SearchClusterModel, by decide +kernel, by decide +kernel, by decide⟩
theorem ki_X12_statsOf : Cond.instanceMethod yX12_statsOf ∈ kTb := kTb_of (kch_13 _ (List.mem_of_getElem? (i := 17) rfl)) (by decide +kernel)
theorem kse_X12_statsOf : Cond.selects (yX12_statsOf).cls yX12_statsOf yX12_statsOf ∈ kTb := kTb_of (kcs_12 _ (List.mem_of_getElem? (i := 10) rfl)) (by decide +kernel)
theorem kl_X12_stem : kLk yX12_stem cX12_stem 3 none [] 0 := ⟨kTb_of (kch_11 _ (List.mem_of_getElem? (i := 199) rfl)) (by decide +kernel), kz_SearchClusterModel, by decide +kernel, by decide +kernel, by decide⟩
theorem ki_X12_stem : Cond.instanceMethod yX12_stem ∈ kTb := kTb_of (kch_11 _ (List.mem_of_getElem? (i := 198) rfl)) (by decide +kernel)
theorem kse_X12_stem : Cond.selects (yX12_stem).cls yX12_stem yX12_stem ∈ kTb := kTb_of (kcs_8 _ (List.mem_of_getElem? (i := 5) rfl)) (by decide +kernel)
theorem kl_X12_sync : kLk yX12_sync cX12_sync 3 none [] 2 := ⟨kTb_of (kch_12 _ (List.mem_of_getElem? (i := 170) rfl)) (by decide +kernel), kz_SearchClusterModel, by decide +kernel, by decide +kernel, by decide⟩
theorem ki_X12_sync : Cond.instanceMethod yX12_sync ∈ kTb := kTb_of (kch_12 _ (List.mem_of_getElem? (i := 169) rfl)) (by decide +kernel)
theorem kse_X12_sync : Cond.selects (yX12_sync).cls yX12_sync yX12_sync ∈ kTb := kTb_of (kcs_11 _ (List.mem_of_getElem? (i := 4) rfl)) (by decide +kernel)
theorem kl_X12_synced : kLk yX12_synced cX12_synced 14 none [] 2 := ⟨kTb_of (kch_12 _ (List.mem_of_getElem? (i := 126) rfl)) (by decide +kernel), kz_SearchClusterModel, by decide +kernel, by decide +kernel, by decide⟩
theorem ki_X12_synced : Cond.instanceMethod yX12_synced ∈ kTb := kTb_of (kch_12 _ (List.mem_of_getElem? (i := 125) rfl)) (by decide +kernel)
theorem kse_X12_synced : Cond.selects (yX12_synced).cls yX12_synced yX12_synced ∈ kTb := kTb_of (kcs_10 _ (List.mem_of_getElem? (i := 9) rfl)) (by decide +kernel)
theorem kl_X12_takeDraft : kLk yX12_takeDraft cX12_takeDraft 3 none [] 1 := ⟨kTb_of (kch_11 _ (List.mem_of_getElem? (i := 147) rfl)) (by decide +kernel), kz_SearchClusterModel, by decide +kernel, by decide +kernel, by decide⟩
theorem ki_X12_takeDraft : Cond.instanceMethod yX12_takeDraft ∈ kTb := kTb_of (kch_11 _ (List.mem_of_getElem? (i := 146) rfl)) (by decide +kernel)
theorem kse_X12_takeDraft : Cond.selects (yX12_takeDraft).cls yX12_takeDraft yX12_takeDraft ∈ kTb := kTb_of (kcs_7 _ (List.mem_of_getElem? (i := 14) rfl)) (by decide +kernel)
theorem kl_X12_takeFirst : kLk yX12_takeFirst cX12_takeFirst 6 (some .int) [] 2 := ⟨kTb_of (kch_12 _ (List.mem_of_getElem? (i := 7) rfl)) (by decide +kernel), kz_SearchClusterModel, by decide +kernel, by decide +kernel, by decide⟩
theorem ki_X12_takeFirst : Cond.instanceMethod yX12_takeFirst ∈ kTb := kTb_of (kch_12 _ (List.mem_of_getElem? (i := 6) rfl)) (by decide +kernel)
theorem kse_X12_takeFirst : Cond.selects (yX12_takeFirst).cls yX12_takeFirst yX12_takeFirst ∈ kTb := kTb_of (kcs_8 _ (List.mem_of_getElem? (i := 12) rfl)) (by decide +kernel)
theorem kl_X12_takeQuestionRow : kLk yX12_takeQuestionRow cX12_takeQuestionRow 7 none [] 3 := ⟨kTb_of (kch_11 _ (List.mem_of_getElem? (i := 185) rfl)) (by decide +kernel), kz_SearchClusterModel, by decide +kernel, by decide +kernel, by decide⟩
theorem ki_X12_takeQuestionRow : Cond.instanceMethod yX12_takeQuestionRow ∈ kTb := kTb_of (kch_11 _ (List.mem_of_getElem? (i := 184) rfl)) (by decide +kernel)
theorem kse_X12_takeQuestionRow : Cond.selects (yX12_takeQuestionRow).cls yX12_takeQuestionRow yX12_takeQuestionRow ∈ kTb := kTb_of (kcs_8 _ (List.mem_of_getElem? (i := 3) rfl)) (by decide +kernel)
theorem kl_X12_takeRow : kLk yX12_takeRow cX12_takeRow 4 none [] 2 := ⟨kTb_of (kch_11 _ (List.mem_of_getElem? (i := 189) rfl)) (by decide +kernel), kz_SearchClusterModel, by decide +kernel, by decide +kernel, by decide⟩
theorem ki_X12_takeRow : Cond.instanceMethod yX12_takeRow ∈ kTb := kTb_of (kch_11 _ (List.mem_of_getElem? (i := 188) rfl)) (by decide +kernel)
theorem kse_X12_takeRow : Cond.selects (yX12_takeRow).cls yX12_takeRow yX12_takeRow ∈ kTb := kTb_of (kcs_8 _ (List.mem_of_getElem? (i := 4) rfl)) (by decide +kernel)
theorem kl_X12_tellDone : kLk yX12_tellDone cX12_tellDone 3 none [] 2 := ⟨kTb_of (kch_12 _ (List.mem_of_getElem? (i := 95) rfl)) (by decide +kernel), kz_SearchClusterModel, by decide +kernel, by decide +kernel, by decide⟩
theorem ki_X12_tellDone : Cond.instanceMethod yX12_tellDone ∈ kTb := kTb_of (kch_12 _ (List.mem_of_getElem? (i := 94) rfl)) (by decide +kernel)
theorem kse_X12_tellDone : Cond.selects (yX12_tellDone).cls yX12_tellDone yX12_tellDone ∈ kTb := kTb_of (kcs_10 _ (List.mem_of_getElem? (i := 2) rfl)) (by decide +kernel)
theorem kl_X12_thrown : kLk yX12_thrown cX12_thrown 1 (some .int) [] 0 := ⟨kTb_of (kch_11 _ (List.mem_of_getElem? (i := 110) rfl)) (by decide +kernel), kz_SearchClusterModel, by decide +kernel, by decide +kernel, by decide⟩
theorem ki_X12_thrown : Cond.instanceMethod yX12_thrown ∈ kTb := kTb_of (kch_11 _ (List.mem_of_getElem? (i := 108) rfl)) (by decide +kernel)
theorem kse_X12_thrown : Cond.selects (yX12_thrown).cls yX12_thrown yX12_thrown ∈ kTb := kTb_of (kch_11 _ (List.mem_of_getElem? (i := 109) rfl)) (by decide +kernel)
theorem kl_X12_tick : kLk yX12_tick cX12_tick 1 (some .int) [] 0 := ⟨kTb_of (kch_13 _ (List.mem_of_getElem? (i := 76) rfl)) (by decide +kernel), kz_SearchClusterModel, by decide +kernel, by decide +kernel, by decide⟩
theorem ki_X12_tick : Cond.instanceMethod yX12_tick ∈ kTb := kTb_of (kch_13 _ (List.mem_of_getElem? (i := 74) rfl)) (by decide +kernel)
theorem kse_X12_tick : Cond.selects (yX12_tick).cls yX12_tick yX12_tick ∈ kTb := kTb_of (kch_13 _ (List.mem_of_getElem? (i := 75) rfl)) (by decide +kernel)
theorem kl_X12_told : kLk yX12_told cX12_told 4 (some .int) [] 1 := ⟨kTb_of (kch_14 _ (List.mem_of_getElem? (i := 2) rfl)) (by decide +kernel), kz_SearchClusterModel, by decide +kernel, by decide +kernel, by decide⟩
theorem ki_X12_told : Cond.instanceMethod yX12_told ∈ kTb := kTb_of (kch_14 _ (List.mem_of_getElem? (i := 0) rfl)) (by decide +kernel)
theorem kse_X12_told : Cond.selects (yX12_told).cls yX12_told yX12_told ∈ kTb := kTb_of (kch_14 _ (List.mem_of_getElem? (i := 1) rfl)) (by decide +kernel)
theorem kl_X12_top : kLk yX12_top cX12_top 4 none [] 1 := ⟨kTb_of (kch_13 _ (List.mem_of_getElem? (i := 68) rfl)) (by decide +kernel), kz_SearchClusterModel, by decide +kernel, by decide +kernel, by decide⟩
theorem ki_X12_top : Cond.instanceMethod yX12_top ∈ kTb := kTb_of (kch_13 _ (List.mem_of_getElem? (i := 67) rfl)) (by decide +kernel)
theorem kse_X12_top : Cond.selects (yX12_top).cls yX12_top yX12_top ∈ kTb := kTb_of (kcs_13 _ (List.mem_of_getElem? (i := 4) rfl)) (by decide +kernel)
theorem kl_X12_u1 : kLk yX12_u1 cX12_u1 2 (some .int) [] 1 := ⟨kTb_of (kch_13 _ (List.mem_of_getElem? (i := 140) rfl)) (by decide +kernel), kz_SearchClusterModel, by decide +kernel, by decide +kernel, by decide⟩
theorem ki_X12_u1 : Cond.instanceMethod yX12_u1 ∈ kTb := kTb_of (kch_13 _ (List.mem_of_getElem? (i := 139) rfl)) (by decide +kernel)
theorem kse_X12_u1 : Cond.selects (yX12_u1).cls yX12_u1 yX12_u1 ∈ kTb := kTb_of (kcs_14 _ (List.mem_of_getElem? (i := 0) rfl)) (by decide +kernel)
theorem kl_X12_u2 : kLk yX12_u2 cX12_u2 2 (some .int) [] 1 := ⟨kTb_of (kch_13 _ (List.mem_of_getElem? (i := 152) rfl)) (by decide +kernel), kz_SearchClusterModel, by decide +kernel, by decide +kernel, by decide⟩
theorem ki_X12_u2 : Cond.instanceMethod yX12_u2 ∈ kTb := kTb_of (kch_13 _ (List.mem_of_getElem? (i := 151) rfl)) (by decide +kernel)
theorem kse_X12_u2 : Cond.selects (yX12_u2).cls yX12_u2 yX12_u2 ∈ kTb := kTb_of (kcs_14 _ (List.mem_of_getElem? (i := 3) rfl)) (by decide +kernel)
theorem kl_X12_up : kLk yX12_up cX12_up 2 (some .boolean) [] 1 := ⟨kTb_of (kch_13 _ (List.mem_of_getElem? (i := 116) rfl)) (by decide +kernel), kz_SearchClusterModel, by decide +kernel, by decide +kernel, by decide⟩
theorem ki_X12_up : Cond.instanceMethod yX12_up ∈ kTb := kTb_of (kch_13 _ (List.mem_of_getElem? (i := 114) rfl)) (by decide +kernel)
theorem kse_X12_up : Cond.selects (yX12_up).cls yX12_up yX12_up ∈ kTb := kTb_of (kch_13 _ (List.mem_of_getElem? (i := 115) rfl)) (by decide +kernel)
theorem kl_X12_view : kLk yX12_view cX12_view 6 (some .int) [] 3 := ⟨kTb_of (kch_13 _ (List.mem_of_getElem? (i := 176) rfl)) (by decide +kernel), kz_SearchClusterModel, by decide +kernel, by decide +kernel, by decide⟩
theorem ki_X12_view : Cond.instanceMethod yX12_view ∈ kTb := kTb_of (kch_13 _ (List.mem_of_getElem? (i := 174) rfl)) (by decide +kernel)
theorem kse_X12_view : Cond.selects (yX12_view).cls yX12_view yX12_view ∈ kTb := kTb_of (kch_13 _ (List.mem_of_getElem? (i := 175) rfl)) (by decide +kernel)
theorem kl_X12_want : kLk yX12_want cX12_want 5 none [] 4 := ⟨kTb_of (kch_12 _ (List.mem_of_getElem? (i := 107) rfl)) (by decide +kernel), kz_SearchClusterModel, by decide +kernel, by decide +kernel, by decide⟩
theorem ki_X12_want : Cond.instanceMethod yX12_want ∈ kTb := kTb_of (kch_12 _ (List.mem_of_getElem? (i := 106) rfl)) (by decide +kernel)
theorem kse_X12_want : Cond.selects (yX12_want).cls yX12_want yX12_want ∈ kTb := kTb_of (kcs_10 _ (List.mem_of_getElem? (i := 5) rfl)) (by decide +kernel)
theorem kl_X12_wanted : kLk yX12_wanted cX12_wanted 4 none [] 2 := ⟨kTb_of (kch_12 _ (List.mem_of_getElem? (i := 166) rfl)) (by decide +kernel), kz_SearchClusterModel, by decide +kernel, by decide +kernel, by decide⟩
theorem ki_X12_wanted : Cond.instanceMethod yX12_wanted ∈ kTb := kTb_of (kch_12 _ (List.mem_of_getElem? (i := 165) rfl)) (by decide +kernel)
theorem kse_X12_wanted : Cond.selects (yX12_wanted).cls yX12_wanted yX12_wanted ∈ kTb := kTb_of (kcs_11 _ (List.mem_of_getElem? (i := 3) rfl)) (by decide +kernel)
theorem kl_X12_wordsAsked : kLk yX12_wordsAsked cX12_wordsAsked 4 (some .int) [] 0 := ⟨kTb_of (kch_13 _ (List.mem_of_getElem? (i := 14) rfl)) (by decide +kernel), kz_SearchClusterModel, by decide +kernel, by decide +kernel, by decide⟩
theorem ki_X12_wordsAsked : Cond.instanceMethod yX12_wordsAsked ∈ kTb := kTb_of (kch_13 _ (List.mem_of_getElem? (i := 13) rfl)) (by decide +kernel)
theorem kse_X12_wordsAsked : Cond.selects (yX12_wordsAsked).cls yX12_wordsAsked yX12_wordsAsked ∈ kTb := kTb_of (kcs_12 _ (List.mem_of_getElem? (i := 9) rfl)) (by decide +kernel)
theorem kl_X12_write : kLk yX12_write cX12_write 7 (some .boolean) [] 2 := ⟨kTb_of (kch_12 _ (List.mem_of_getElem? (i := 47) rfl)) (by decide +kernel), kz_SearchClusterModel, by decide +kernel, by decide +kernel, by decide⟩
theorem ki_X12_write : Cond.instanceMethod yX12_write ∈ kTb := kTb_of (kch_12 _ (List.mem_of_getElem? (i := 46) rfl)) (by decide +kernel)
theorem kse_X12_write : Cond.selects (yX12_write).cls yX12_write yX12_write ∈ kTb := kTb_of (kcs_9 _ (List.mem_of_getElem? (i := 6) rfl)) (by decide +kernel)
theorem kl_X12_writes : kLk yX12_writes cX12_writes 7 none [] 2 := ⟨kTb_of (kch_12 _ (List.mem_of_getElem? (i := 27) rfl)) (by decide +kernel), kz_SearchClusterModel, by decide +kernel, by decide +kernel, by decide⟩
theorem ki_X12_writes : Cond.instanceMethod yX12_writes ∈ kTb := kTb_of (kch_12 _ (List.mem_of_getElem? (i := 26) rfl)) (by decide +kernel)
theorem kse_X12_writes : Cond.selects (yX12_writes).cls yX12_writes yX12_writes ∈ kTb := kTb_of (kcs_9 _ (List.mem_of_getElem? (i := 1) rfl)) (by decide +kernel)
theorem kl_X12_zero : kLk yX12_zero cX12_zero 8 (some .boolean) [] 4 := ⟨kTb_of (kch_13 _ (List.mem_of_getElem? (i := 144) rfl)) (by decide +kernel), kz_SearchClusterModel, by decide +kernel, by decide +kernel, by decide⟩
theorem ki_X12_zero : Cond.instanceMethod yX12_zero ∈ kTb := kTb_of (kch_13 _ (List.mem_of_getElem? (i := 143) rfl)) (by decide +kernel)
theorem kse_X12_zero : Cond.selects (yX12_zero).cls yX12_zero yX12_zero ∈ kTb := kTb_of (kcs_14 _ (List.mem_of_getElem? (i := 1) rfl)) (by decide +kernel)
theorem kl_J6_bitCount_0f7a4 : kLk yJ6_bitCount_0f7a4 cJ6_bitCount_0f7a4 1 (some .int) [] 1 := ⟨kTb_of (kch_8 _ (List.mem_of_getElem? (i := 110) rfl)) (by decide +kernel), kz_java_lang_Integer, by decide +kernel, by decide +kernel, by decide⟩
theorem kst_J6_bitCount_0f7a4 : Cond.static yJ6_bitCount_0f7a4 ∈ kTb := kTb_of (kch_8 _ (List.mem_of_getElem? (i := 109) rfl)) (by decide +kernel)
theorem kl_J6_getChars_ba4f3 : kLk yJ6_getChars_ba4f3 cJ6_getChars_ba4f3 7 (some .int) [] 3 := ⟨kTb_of (kch_4 _ (List.mem_of_getElem? (i := 75) rfl)) (by decide +kernel), kz_java_lang_Integer, by decide +kernel, by decide +kernel, by decide⟩
theorem kst_J6_getChars_ba4f3 : Cond.static yJ6_getChars_ba4f3 ∈ kTb := kTb_of (kch_4 _ (List.mem_of_getElem? (i := 74) rfl)) (by decide +kernel)
theorem kl_J6_stringSize_0f7a4 : kLk yJ6_stringSize_0f7a4 cJ6_stringSize_0f7a4 4 (some .int) [] 1 := ⟨kTb_of (kch_4 _ (List.mem_of_getElem? (i := 72) rfl)) (by decide +kernel), kz_java_lang_Integer, by decide +kernel, by decide +kernel, by decide⟩
theorem kst_J6_stringSize_0f7a4 : Cond.static yJ6_stringSize_0f7a4 ∈ kTb := kTb_of (kch_4 _ (List.mem_of_getElem? (i := 71) rfl)) (by decide +kernel)
theorem kl_J9_floorMod_7cf53 : kLk yJ9_floorMod_7cf53 cJ9_floorMod_7cf53 3 (some .int) [] 2 := ⟨kTb_of (kch_5 _ (List.mem_of_getElem? (i := 1) rfl)) (by decide +kernel), kz_java_lang_Math, by decide +kernel, by decide +kernel, by decide⟩
theorem kst_J9_floorMod_7cf53 : Cond.static yJ9_floorMod_7cf53 ∈ kTb := kTb_of (kch_5 _ (List.mem_of_getElem? (i := 0) rfl)) (by decide +kernel)
theorem kcd_Mmax : Cond.code Lib.Math.max.name Lib.Math.max.code 2 (some .int) ∈ kTb := kTb_of (kch_3 _ (List.mem_of_getElem? (i := 209) rfl)) (by decide +kernel)
theorem kst_Mmax : Cond.static Lib.Math.max.name ∈ kTb := kTb_of (kch_3 _ (List.mem_of_getElem? (i := 208) rfl)) (by decide +kernel)
theorem kcd_Mmin : Cond.code Lib.Math.min.name Lib.Math.min.code 2 (some .int) ∈ kTb := kTb_of (kch_3 _ (List.mem_of_getElem? (i := 227) rfl)) (by decide +kernel)
theorem kst_Mmin : Cond.static Lib.Math.min.name ∈ kTb := kTb_of (kch_3 _ (List.mem_of_getElem? (i := 226) rfl)) (by decide +kernel)
theorem kl_J7_checkLength_df160 : kLk yJ7_checkLength_df160 cJ7_checkLength_df160 2 none [] 2 := ⟨kTb_of (kch_4 _ (List.mem_of_getElem? (i := 125) rfl)) (by decide +kernel), kz_java_util_Arrays, by decide +kernel, by decide +kernel, by decide⟩
theorem kst_J7_checkLength_df160 : Cond.static yJ7_checkLength_df160 ∈ kTb := kTb_of (kch_4 _ (List.mem_of_getElem? (i := 124) rfl)) (by decide +kernel)
theorem kl_J7_copyOf_9075b : kLk yJ7_copyOf_9075b cJ7_copyOf_9075b 3 (some (.array .byte)) [] 2 := ⟨kTb_of (kch_3 _ (List.mem_of_getElem? (i := 217) rfl)) (by decide +kernel), kz_java_util_Arrays, by decide +kernel, by decide +kernel, by decide⟩
theorem kst_J7_copyOf_9075b : Cond.static yJ7_copyOf_9075b ∈ kTb := kTb_of (kch_3 _ (List.mem_of_getElem? (i := 216) rfl)) (by decide +kernel)
theorem kl_J7_copyOf_59c91 : kLk yJ7_copyOf_59c91 cJ7_copyOf_59c91 3 (some (.array .int)) [] 2 := ⟨kTb_of (kch_6 _ (List.mem_of_getElem? (i := 29) rfl)) (by decide +kernel), kz_java_util_Arrays, by decide +kernel, by decide +kernel, by decide⟩
theorem kst_J7_copyOf_59c91 : Cond.static yJ7_copyOf_59c91 ∈ kTb := kTb_of (kch_6 _ (List.mem_of_getElem? (i := 28) rfl)) (by decide +kernel)
theorem kl_J7_copyOfRange_39247 : kLk yJ7_copyOfRange_39247 cJ7_copyOfRange_39247 3 (some (.array .byte)) [] 3 := ⟨kTb_of (kch_4 _ (List.mem_of_getElem? (i := 119) rfl)) (by decide +kernel), kz_java_util_Arrays, by decide +kernel, by decide +kernel, by decide⟩
theorem kst_J7_copyOfRange_39247 : Cond.static yJ7_copyOfRange_39247 ∈ kTb := kTb_of (kch_4 _ (List.mem_of_getElem? (i := 118) rfl)) (by decide +kernel)
theorem kl_J7_copyOfRangeByte_39247 : kLk yJ7_copyOfRangeByte_39247 cJ7_copyOfRangeByte_39247 5 (some (.array .byte)) [] 3 := ⟨kTb_of (kch_4 _ (List.mem_of_getElem? (i := 122) rfl)) (by decide +kernel), kz_java_util_Arrays, by decide +kernel, by decide +kernel, by decide⟩
theorem kst_J7_copyOfRangeByte_39247 : Cond.static yJ7_copyOfRangeByte_39247 ∈ kTb := kTb_of (kch_4 _ (List.mem_of_getElem? (i := 121) rfl)) (by decide +kernel)
theorem kl_J7_fill_031fb : kLk yJ7_fill_031fb cJ7_fill_031fb 4 none [] 2 := ⟨kTb_of (kch_3 _ (List.mem_of_getElem? (i := 31) rfl)) (by decide +kernel), kz_java_util_Arrays, by decide +kernel, by decide +kernel, by decide⟩
theorem kst_J7_fill_031fb : Cond.static yJ7_fill_031fb ∈ kTb := kTb_of (kch_3 _ (List.mem_of_getElem? (i := 30) rfl)) (by decide +kernel)
theorem kl_J7_fill_eb02e : kLk yJ7_fill_eb02e cJ7_fill_eb02e 5 none [] 4 := ⟨kTb_of (kch_3 _ (List.mem_of_getElem? (i := 107) rfl)) (by decide +kernel), kz_java_util_Arrays, by decide +kernel, by decide +kernel, by decide⟩
theorem kst_J7_fill_eb02e : Cond.static yJ7_fill_eb02e ∈ kTb := kTb_of (kch_3 _ (List.mem_of_getElem? (i := 106) rfl)) (by decide +kernel)
theorem kl_J7_fill_53178 : kLk yJ7_fill_53178 cJ7_fill_53178 4 none [] 2 := ⟨kTb_of (kch_2 _ (List.mem_of_getElem? (i := 238) rfl)) (by decide +kernel), kz_java_util_Arrays, by decide +kernel, by decide +kernel, by decide⟩
theorem kst_J7_fill_53178 : Cond.static yJ7_fill_53178 ∈ kTb := kTb_of (kch_2 _ (List.mem_of_getElem? (i := 237) rfl)) (by decide +kernel)
theorem kl_J7_rangeCheck_23922 : kLk yJ7_rangeCheck_23922 cJ7_rangeCheck_23922 3 none [] 3 := ⟨kTb_of (kch_3 _ (List.mem_of_getElem? (i := 110) rfl)) (by decide +kernel), kz_java_util_Arrays, by decide +kernel, by decide +kernel, by decide⟩
theorem kst_J7_rangeCheck_23922 : Cond.static yJ7_rangeCheck_23922 ∈ kTb := kTb_of (kch_3 _ (List.mem_of_getElem? (i := 109) rfl)) (by decide +kernel)
theorem kob_1 : Cond.instanceMethod Lib.objectInit ∈ kTb := kTb_of (kch_1 _ (List.mem_of_getElem? (i := 38) rfl)) (by decide +kernel)
theorem kob_2 : Cond.code Lib.objectInit ⟨#[0xb1]⟩ 1 none ∈ kTb := kTb_of (kch_1 _ (List.mem_of_getElem? (i := 39) rfl)) (by decide +kernel)
theorem kac_1 : Cond.native arraycopyName ∈ kTb := kTb_of (kch_3 _ (List.mem_of_getElem? (i := 49) rfl)) (by decide +kernel)
theorem kac_2 : Cond.static arraycopyName ∈ kTb := kTb_of (kch_3 _ (List.mem_of_getElem? (i := 48) rfl)) (by decide +kernel)
theorem kin_11 : Cond.instantiable (kNm 11) (kSz 11) ∈ kTb := kTb_of (kch_1 _ (List.mem_of_getElem? (i := 33) rfl)) (by decide +kernel)
theorem kzn_11 : Cond.initialized (kNm 11) ∈ kTb := kz_SearchCluster
theorem kin_0 : Cond.instantiable (kNm 0) (kSz 0) ∈ kTb := kTb_of (kch_1 _ (List.mem_of_getElem? (i := 213) rfl)) (by decide +kernel)
theorem kzn_0 : Cond.initialized (kNm 0) ∈ kTb := kz_SearchCluster_Copy
theorem kin_1 : Cond.instantiable (kNm 1) (kSz 1) ∈ kTb := kTb_of (kch_1 _ (List.mem_of_getElem? (i := 219) rfl)) (by decide +kernel)
theorem kzn_1 : Cond.initialized (kNm 1) ∈ kTb := kz_SearchCluster_Disk
theorem kin_2 : Cond.instantiable (kNm 2) (kSz 2) ∈ kTb := kTb_of (kch_2 _ (List.mem_of_getElem? (i := 12) rfl)) (by decide +kernel)
theorem kzn_2 : Cond.initialized (kNm 2) ∈ kTb := kz_SearchCluster_Index
theorem kin_3 : Cond.instantiable (kNm 3) (kSz 3) ∈ kTb := kTb_of (kch_2 _ (List.mem_of_getElem? (i := 167) rfl)) (by decide +kernel)
theorem kzn_3 : Cond.initialized (kNm 3) ∈ kTb := kz_SearchCluster_Keeper
theorem kin_4 : Cond.instantiable (kNm 4) (kSz 4) ∈ kTb := kTb_of (kch_1 _ (List.mem_of_getElem? (i := 50) rfl)) (by decide +kernel)
theorem kzn_4 : Cond.initialized (kNm 4) ∈ kTb := kz_SearchCluster_Message
theorem kin_5 : Cond.instantiable (kNm 5) (kSz 5) ∈ kTb := kTb_of (kch_1 _ (List.mem_of_getElem? (i := 168) rfl)) (by decide +kernel)
theorem kzn_5 : Cond.initialized (kNm 5) ∈ kTb := kz_SearchCluster_Node
theorem kin_6 : Cond.instantiable (kNm 6) (kSz 6) ∈ kTb := kTb_of (kch_6 _ (List.mem_of_getElem? (i := 200) rfl)) (by decide +kernel)
theorem kzn_6 : Cond.initialized (kNm 6) ∈ kTb := kz_SearchCluster_Question
theorem kin_7 : Cond.instantiable (kNm 7) (kSz 7) ∈ kTb := kTb_of (kch_1 _ (List.mem_of_getElem? (i := 207) rfl)) (by decide +kernel)
theorem kzn_7 : Cond.initialized (kNm 7) ∈ kTb := kz_SearchCluster_Replica
theorem kin_8 : Cond.instantiable (kNm 8) (kSz 8) ∈ kTb := kTb_of (kch_6 _ (List.mem_of_getElem? (i := 40) rfl)) (by decide +kernel)
theorem kzn_8 : Cond.initialized (kNm 8) ∈ kTb := kz_SearchCluster_Request
theorem kin_9 : Cond.instantiable (kNm 9) (kSz 9) ∈ kTb := kTb_of (kch_2 _ (List.mem_of_getElem? (i := 195) rfl)) (by decide +kernel)
theorem kzn_9 : Cond.initialized (kNm 9) ∈ kTb := kz_SearchCluster_SegmentOctets
theorem kin_10 : Cond.instantiable (kNm 10) (kSz 10) ∈ kTb := kTb_of (kch_1 _ (List.mem_of_getElem? (i := 41) rfl)) (by decide +kernel)
theorem kzn_10 : Cond.initialized (kNm 10) ∈ kTb := kz_SearchCluster_World
theorem kin_12 : Cond.instantiable (kNm 12) (kSz 12) ∈ kTb := kTb_of (kch_9 _ (List.mem_of_getElem? (i := 151) rfl)) (by decide +kernel)
theorem kzn_12 : Cond.initialized (kNm 12) ∈ kTb := kz_SearchClusterModel
theorem kcl_X11_9 : Cond.classLink RX11 9 (kNm 10) ∈ kTb := kTb_of (kch_1 _ (List.mem_of_getElem? (i := 40) rfl)) (by decide +kernel)
theorem kcl_X11_16 : Cond.classLink RX11 16 (kNm 5) ∈ kTb := kTb_of (kch_1 _ (List.mem_of_getElem? (i := 166) rfl)) (by decide +kernel)
theorem kcl_X11_25 : Cond.classLink RX11 25 (kNm 7) ∈ kTb := kTb_of (kch_1 _ (List.mem_of_getElem? (i := 206) rfl)) (by decide +kernel)
theorem kcl_X11_34 : Cond.classLink RX11 34 (kNm 3) ∈ kTb := kTb_of (kch_2 _ (List.mem_of_getElem? (i := 166) rfl)) (by decide +kernel)
theorem kcl_X11_41 : Cond.classLink RX11 41 (kNm 9) ∈ kTb := kTb_of (kch_2 _ (List.mem_of_getElem? (i := 194) rfl)) (by decide +kernel)
theorem kcl_X11_60 : Cond.classLink RX11 60 "java/lang/IllegalArgumentException" ∈ kTb := kTb_of (kch_5 _ (List.mem_of_getElem? (i := 214) rfl)) (by decide +kernel)
theorem kcl_X11_103 : Cond.classLink RX11 103 (kNm 6) ∈ kTb := kTb_of (kch_6 _ (List.mem_of_getElem? (i := 199) rfl)) (by decide +kernel)
theorem kcl_X11_114 : Cond.classLink RX11 114 "java/lang/IndexOutOfBoundsException" ∈ kTb := kTb_of (kch_5 _ (List.mem_of_getElem? (i := 238) rfl)) (by decide +kernel)
theorem kcl_X11_120 : Cond.classLink RX11 120 (kNm 8) ∈ kTb := kTb_of (kch_6 _ (List.mem_of_getElem? (i := 39) rfl)) (by decide +kernel)
theorem kcl_X11_199 : Cond.classLink RX11 199 "java/lang/IllegalStateException" ∈ kTb := kTb_of (kch_5 _ (List.mem_of_getElem? (i := 66) rfl)) (by decide +kernel)
theorem kcl_X0_28 : Cond.classLink RX0 28 (kNm 1) ∈ kTb := kTb_of (kch_1 _ (List.mem_of_getElem? (i := 218) rfl)) (by decide +kernel)
theorem kcl_X0_37 : Cond.classLink RX0 37 (kNm 2) ∈ kTb := kTb_of (kch_2 _ (List.mem_of_getElem? (i := 11) rfl)) (by decide +kernel)
theorem kcl_X1_105 : Cond.classLink RX1 105 "java/lang/IllegalStateException" ∈ kTb := kTb_of (kch_4 _ (List.mem_of_getElem? (i := 211) rfl)) (by decide +kernel)
theorem kcl_X2_9 : Cond.classLink RX2 9 "[[I" ∈ kTb := kTb_of (kch_2 _ (List.mem_of_getElem? (i := 17) rfl)) (by decide +kernel)
theorem kcl_X3_9 : Cond.classLink RX3 9 "[[I" ∈ kTb := kTb_of (kch_2 _ (List.mem_of_getElem? (i := 172) rfl)) (by decide +kernel)
theorem kcl_X3_28 : Cond.classLink RX3 28 (kNm 1) ∈ kTb := kTb_of (kch_2 _ (List.mem_of_getElem? (i := 173) rfl)) (by decide +kernel)
theorem kcl_X5_9 : Cond.classLink RX5 9 (kNm 7) ∈ kTb := kTb_of (kch_1 _ (List.mem_of_getElem? (i := 173) rfl)) (by decide +kernel)
theorem kcl_X5_17 : Cond.classLink RX5 17 "[[I" ∈ kTb := kTb_of (kch_1 _ (List.mem_of_getElem? (i := 175) rfl)) (by decide +kernel)
theorem kcl_X7_43 : Cond.classLink RX7 43 (kNm 0) ∈ kTb := kTb_of (kch_1 _ (List.mem_of_getElem? (i := 212) rfl)) (by decide +kernel)
theorem kcl_X10_9 : Cond.classLink RX10 9 (kNm 8) ∈ kTb := kTb_of (kch_1 _ (List.mem_of_getElem? (i := 46) rfl)) (by decide +kernel)
theorem kcl_X10_17 : Cond.classLink RX10 17 (kNm 4) ∈ kTb := kTb_of (kch_1 _ (List.mem_of_getElem? (i := 48) rfl)) (by decide +kernel)
theorem kcl_L_8 : Cond.classLink RL 8 (kNm 11) ∈ kTb := kTb_of (kch_1 _ (List.mem_of_getElem? (i := 32) rfl)) (by decide +kernel)
theorem kcl_L_13 : Cond.classLink RL 13 "java/lang/IllegalArgumentException" ∈ kTb := kTb_of (kch_5 _ (List.mem_of_getElem? (i := 209) rfl)) (by decide +kernel)
theorem kcl_L_23 : Cond.classLink RL 23 "java/lang/IndexOutOfBoundsException" ∈ kTb := kTb_of (kch_5 _ (List.mem_of_getElem? (i := 228) rfl)) (by decide +kernel)
theorem kcl_L_25 : Cond.classLink RL 25 "java/lang/IllegalStateException" ∈ kTb := kTb_of (kch_5 _ (List.mem_of_getElem? (i := 229) rfl)) (by decide +kernel)
theorem kcl_L_101 : Cond.classLink RL 101 (kNm 12) ∈ kTb := kTb_of (kch_9 _ (List.mem_of_getElem? (i := 150) rfl)) (by decide +kernel)
theorem kcl_J7_43 : Cond.classLink RJ7 43 "java/lang/IllegalArgumentException" ∈ kTb := kTb_of (kch_3 _ (List.mem_of_getElem? (i := 111) rfl)) (by decide +kernel)
theorem kcl_J7_45 : Cond.classLink RJ7 45 "java/lang/StringBuilder" ∈ kTb := kTb_of (kch_3 _ (List.mem_of_getElem? (i := 153) rfl)) (by decide +kernel)
theorem kcl_J7_68 : Cond.classLink RJ7 68 "java/lang/ArrayIndexOutOfBoundsException" ∈ kTb := kTb_of (kch_4 _ (List.mem_of_getElem? (i := 176) rfl)) (by decide +kernel)
theorem kcl_J7_311 : Cond.classLink RJ7 311 "[B" ∈ kTb := kTb_of (kch_3 _ (List.mem_of_getElem? (i := 224) rfl)) (by decide +kernel)
theorem kcl_J7_317 : Cond.classLink RJ7 317 "[I" ∈ kTb := kTb_of (kch_6 _ (List.mem_of_getElem? (i := 34) rfl)) (by decide +kernel)
theorem kk_X11_519 : Cond.constantLong RX11 519 (37) ∈ kTb := kTb_of (kch_6 _ (List.mem_of_getElem? (i := 75) rfl)) (by decide +kernel)
theorem kk_X6_70 : Cond.constantLong RX6 70 (37) ∈ kTb := kTb_of (kch_7 _ (List.mem_of_getElem? (i := 14) rfl)) (by decide +kernel)
theorem kk_X6_104 : Cond.constantLong RX6 104 (64) ∈ kTb := kTb_of (kch_8 _ (List.mem_of_getElem? (i := 71) rfl)) (by decide +kernel)
theorem kk_X6_120 : Cond.constantLong RX6 120 (900) ∈ kTb := kTb_of (kch_8 _ (List.mem_of_getElem? (i := 81) rfl)) (by decide +kernel)
theorem kk_X6_122 : Cond.constantLong RX6 122 (1000) ∈ kTb := kTb_of (kch_8 _ (List.mem_of_getElem? (i := 82) rfl)) (by decide +kernel)
theorem kk_X6_124 : Cond.constantLong RX6 124 (300) ∈ kTb := kTb_of (kch_8 _ (List.mem_of_getElem? (i := 83) rfl)) (by decide +kernel)
theorem kk_X6_126 : Cond.constantLong RX6 126 (2200) ∈ kTb := kTb_of (kch_8 _ (List.mem_of_getElem? (i := 84) rfl)) (by decide +kernel)
theorem kk_X9_106 : Cond.constantLong RX9 106 (177917621779460413) ∈ kTb := kTb_of (kch_9 _ (List.mem_of_getElem? (i := 117) rfl)) (by decide +kernel)
theorem kk_X9_108 : Cond.constantLong RX9 108 (37) ∈ kTb := kTb_of (kch_9 _ (List.mem_of_getElem? (i := 118) rfl)) (by decide +kernel)
theorem kk_L_114 : Cond.constantLong RL 114 (4294967295) ∈ kTb := kTb_of (kch_14 _ (List.mem_of_getElem? (i := 3) rfl)) (by decide +kernel)
theorem kk_X12_86 : Cond.constant RX12 86 (271488) ∈ kTb := kTb_of (kch_9 _ (List.mem_of_getElem? (i := 156) rfl)) (by decide +kernel)
theorem kk_X12_109 : Cond.constant RX12 109 (60000) ∈ kTb := kTb_of (kch_9 _ (List.mem_of_getElem? (i := 157) rfl)) (by decide +kernel)
theorem kk_X12_215 : Cond.constant RX12 215 (73440) ∈ kTb := kTb_of (kch_9 _ (List.mem_of_getElem? (i := 158) rfl)) (by decide +kernel)
theorem kk_X12_575 : Cond.constantLong RX12 575 (63) ∈ kTb := kTb_of (kch_13 _ (List.mem_of_getElem? (i := 55) rfl)) (by decide +kernel)
theorem kk_X12_601 : Cond.constantLong RX12 601 (2) ∈ kTb := kTb_of (kch_13 _ (List.mem_of_getElem? (i := 51) rfl)) (by decide +kernel)
theorem kk_X12_607 : Cond.constantLong RX12 607 (64) ∈ kTb := kTb_of (kch_13 _ (List.mem_of_getElem? (i := 56) rfl)) (by decide +kernel)
theorem kk_X12_609 : Cond.constantLong RX12 609 (2200) ∈ kTb := kTb_of (kch_13 _ (List.mem_of_getElem? (i := 57) rfl)) (by decide +kernel)
theorem kk_X12_611 : Cond.constantLong RX12 611 (1000) ∈ kTb := kTb_of (kch_13 _ (List.mem_of_getElem? (i := 58) rfl)) (by decide +kernel)
theorem kk_X12_613 : Cond.constantLong RX12 613 (300) ∈ kTb := kTb_of (kch_13 _ (List.mem_of_getElem? (i := 59) rfl)) (by decide +kernel)
theorem kk_X12_615 : Cond.constantLong RX12 615 (900) ∈ kTb := kTb_of (kch_13 _ (List.mem_of_getElem? (i := 60) rfl)) (by decide +kernel)
theorem kk_X12_775 : Cond.constantLong RX12 775 (255) ∈ kTb := kTb_of (kch_11 _ (List.mem_of_getElem? (i := 119) rfl)) (by decide +kernel)
theorem kk_J6_265 : Cond.constant RJ6 265 (1431655765) ∈ kTb := kTb_of (kch_8 _ (List.mem_of_getElem? (i := 111) rfl)) (by decide +kernel)
theorem kk_J6_266 : Cond.constant RJ6 266 (858993459) ∈ kTb := kTb_of (kch_8 _ (List.mem_of_getElem? (i := 112) rfl)) (by decide +kernel)
theorem kk_J6_267 : Cond.constant RJ6 267 (252645135) ∈ kTb := kTb_of (kch_8 _ (List.mem_of_getElem? (i := 113) rfl)) (by decide +kernel)
theorem kar_0 : Cond.arrayClass (kAty 0) ∈ kTb := kTb_of (kch_1 _ (List.mem_of_getElem? (i := 85) rfl)) (by decide +kernel)
theorem kar_1 : Cond.arrayClass (kAty 1) ∈ kTb := kTb_of (kch_2 _ (List.mem_of_getElem? (i := 227) rfl)) (by decide +kernel)
theorem kar_2 : Cond.arrayClass (kAty 2) ∈ kTb := kTb_of (kch_1 _ (List.mem_of_getElem? (i := 165) rfl)) (by decide +kernel)
theorem kar_3 : Cond.arrayClass (kAty 3) ∈ kTb := kTb_of (kch_2 _ (List.mem_of_getElem? (i := 193) rfl)) (by decide +kernel)
theorem kth_X11_64 : kThr RX11 60 64 "java/lang/IllegalArgumentException" := ⟨by decide +kernel, kcl_X11_60, kz_java_lang_IllegalArgumentException, fun w h => kTb_of ((show ∀ w ∈ (vx_atS RX11 64 "java/lang/IllegalArgumentException" ["java/lang/RuntimeException", "java/lang/Exception"]).filter goodWord, w ∈ lw_tbl by decide +kernel) w h) (List.mem_filter.mp h).2, by decide +kernel, by decide +kernel⟩
theorem kth_X11_118 : kThr RX11 114 118 "java/lang/IndexOutOfBoundsException" := ⟨by decide +kernel, kcl_X11_114, kz_java_lang_IndexOutOfBoundsException, fun w h => kTb_of ((show ∀ w ∈ (vx_atS RX11 118 "java/lang/IndexOutOfBoundsException" ["java/lang/RuntimeException", "java/lang/Exception"]).filter goodWord, w ∈ lw_tbl by decide +kernel) w h) (List.mem_filter.mp h).2, by decide +kernel, by decide +kernel⟩
theorem kth_X11_203 : kThr RX11 199 203 "java/lang/IllegalStateException" := ⟨by decide +kernel, kcl_X11_199, kz_java_lang_IllegalStateException, fun w h => kTb_of ((show ∀ w ∈ (vx_atS RX11 203 "java/lang/IllegalStateException" ["java/lang/RuntimeException", "java/lang/Exception"]).filter goodWord, w ∈ lw_tbl by decide +kernel) w h) (List.mem_filter.mp h).2, by decide +kernel, by decide +kernel⟩
theorem kth_X1_109 : kThr RX1 105 109 "java/lang/IllegalStateException" := ⟨by decide +kernel, kcl_X1_105, kz_java_lang_IllegalStateException, fun w h => kTb_of ((show ∀ w ∈ (vx_atS RX1 109 "java/lang/IllegalStateException" ["java/lang/RuntimeException", "java/lang/Exception"]).filter goodWord, w ∈ lw_tbl by decide +kernel) w h) (List.mem_filter.mp h).2, by decide +kernel, by decide +kernel⟩
