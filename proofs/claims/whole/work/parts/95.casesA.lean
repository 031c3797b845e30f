/-! THE LAW: a call of each kind -/
section LW
variable {p : Program} {l : Launch} {e : Env} {s : State} {m : MethodId} {below : List Frame} {meth : Method} {c : Code} {Q : State → Prop} {E : GE} {N b L : Nat} {xs : Nat → Int32} {ax an asx ay ap ar ai am : Nat → Nat} {ah aj ta : Nat → Nat → Nat} {tx : TXS} {ye : Nat → Value} {xx yy nn ss ii pp rr : RS} {hh jj : HS} {mm : RS} {k : Nat} {H : Heap} {locs : List Loc} {ls : Array Slot}
set_option maxHeartbeats 8000000 in
set_option maxRecDepth 100000 in
theorem case_feed (h : LCX p l e s m below meth c Q E N b L xs ax an asx ay ap ar ai am ah aj ta tx ye xx yy nn ss ii pp rr hh jj mm k H locs ls) : W p l e room_1 s m #[Value.ref b] below meth c H locs (1926 + 3 * k) (49660 + 603 * k) Q (F0 m 260 ls []) := by
  obtain ⟨C, hz, hX, hbl, hL, hk, hN, hG, hI, hl, nx⟩ := h
  have hx := C.1.1
  have hb : c.code = cL_law := C.1.2.1
  have hbA : ¬ (fun q : Nat => s.heap.size ≤ q) b := Nat.not_le.mpr hbl
  obtain ⟨r, r1, m1, e1, e2, hI1⟩ := T_feed hN hI (xs (6 * k + 1)) (xs (6 * k + 2)) (xs (6 * k + 3)) (xs (6 * k + 4)) (xs (6 * k + 5))
  refine lv_aload_n hx hb dL_law_260 rfl (lv_at hl 1 rfl) ?_
  refine lv_aload_n hx hb dL_law_261 rfl (lv_at hl 0 rfl) ?_
  refine lv_iload_n hx hb dL_law_262 rfl (lv_at hl 3 rfl) ?_
  refine lv_iconst (v := 1) hx hb dL_law_263 (by decide) ?_
  refine lv_iadd hx hb dL_law_264 ?_
  refine g_int (v := nI (6 * k + 1)) (nI_add (6 * k) 1).symm ?_
  refine va_sld hx hb hX hbl hbA hG.2.2 (vp_in_nI (by omega) (by omega)) dL_law_265 ?_
  refine g_int (v := xs (6 * k + 1)) (congrArg xs (cl_nI (by omega)).symm) ?_
  refine lv_aload_n hx hb dL_law_266 rfl (lv_at hl 0 rfl) ?_
  refine lv_iload_n hx hb dL_law_267 rfl (lv_at hl 3 rfl) ?_
  refine lv_iconst (v := 2) hx hb dL_law_268 (by decide) ?_
  refine lv_iadd hx hb dL_law_269 ?_
  refine g_int (v := nI (6 * k + 2)) (nI_add (6 * k) 2).symm ?_
  refine va_sld hx hb hX hbl hbA hG.2.2 (vp_in_nI (by omega) (by omega)) dL_law_270 ?_
  refine g_int (v := xs (6 * k + 2)) (congrArg xs (cl_nI (by omega)).symm) ?_
  refine lv_aload_n hx hb dL_law_271 rfl (lv_at hl 0 rfl) ?_
  refine lv_iload_n hx hb dL_law_272 rfl (lv_at hl 3 rfl) ?_
  refine lv_iconst (v := 3) hx hb dL_law_273 (by decide) ?_
  refine lv_iadd hx hb dL_law_274 ?_
  refine g_int (v := nI (6 * k + 3)) (nI_add (6 * k) 3).symm ?_
  refine va_sld hx hb hX hbl hbA hG.2.2 (vp_in_nI (by omega) (by omega)) dL_law_275 ?_
  refine g_int (v := xs (6 * k + 3)) (congrArg xs (cl_nI (by omega)).symm) ?_
  refine lv_aload_n hx hb dL_law_276 rfl (lv_at hl 0 rfl) ?_
  refine lv_iload_n hx hb dL_law_277 rfl (lv_at hl 3 rfl) ?_
  refine lv_iconst (v := 4) hx hb dL_law_278 (by decide) ?_
  refine lv_iadd hx hb dL_law_279 ?_
  refine g_int (v := nI (6 * k + 4)) (nI_add (6 * k) 4).symm ?_
  refine va_sld hx hb hX hbl hbA hG.2.2 (vp_in_nI (by omega) (by omega)) dL_law_280 ?_
  refine g_int (v := xs (6 * k + 4)) (congrArg xs (cl_nI (by omega)).symm) ?_
  refine lv_aload_n hx hb dL_law_281 rfl (lv_at hl 0 rfl) ?_
  refine lv_iload_n hx hb dL_law_282 rfl (lv_at hl 3 rfl) ?_
  refine lv_iconst (v := 5) hx hb dL_law_283 (by decide) ?_
  refine lv_iadd hx hb dL_law_284 ?_
  refine g_int (v := nI (6 * k + 5)) (nI_add (6 * k) 5).symm ?_
  refine va_sld hx hb hX hbl hbA hG.2.2 (vp_in_nI (by omega) (by omega)) dL_law_285 ?_
  refine g_int (v := xs (6 * k + 5)) (congrArg xs (cl_nI (by omega)).symm) ?_
  refine gF_i (ws' := (rX E ax an asx ay ap ar ai ah aj (tfOf ta tx) xx ++ (rY E ay ye yy ++ (rW E an nn ++ (rW E asx ss ++ (rW E ai ii ++ (rP E ap pp ++ (rQ E ta tx ++ (rR E ar r1 ++ (rH E ah hh ++ (rH E aj jj ++ (rM E am mm ++ [])))))))))))) C hG (pin (pout (pout (pout (pout (pout (pout (pin (pout (pout (pout pnil))))))))))) (List.Perm.symm (pin (pout (pout (pout (pout (pout (pout (pin (pout (pout (pout pnil)))))))))))) (gR_VP (As := [.int (xs (6 * k + 1)), .int (xs (6 * k + 2)), .int (xs (6 * k + 3)), .int (xs (6 * k + 4)), .int (xs (6 * k + 5))]) (rest := []) C hz hl.1 hG (pin (pout (pout (pout (pout (pout (pout (pin (pout (pout (pout pnil))))))))))) (c_X11_feed l E ax an asx ay ap ar ai ah aj (tfOf ta tx) N (xs (6 * k + 1)) (xs (6 * k + 2)) (xs (6 * k + 3)) (xs (6 * k + 4)) (xs (6 * k + 5)) xx rr e1 H.size) okX11_feed q573 0 rfl rfl rfl (Nat.le_of_ble_eq_true rfl) ⟨Nat.le_of_ble_eq_true rfl, Nat.le_of_ble_eq_true rfl⟩ ⟨by show 1926 + 3 * k + 0 ≤ 600000; omega, by show 49660 + 603 * k + 0 ≤ 7302250; omega⟩ dL_law_286) (fun H locs _ hG => ?_)
  refine g_int (v := r) rfl ?_
  refine lv_aload_n hx hb dL_law_289 rfl (lv_at hl 2 rfl) ?_
  refine lv_aload_n hx hb dL_law_290 rfl (lv_at hl 0 rfl) ?_
  refine lv_iload_n hx hb dL_law_291 rfl (lv_at hl 3 rfl) ?_
  refine lv_iconst (v := 1) hx hb dL_law_292 (by decide) ?_
  refine lv_iadd hx hb dL_law_293 ?_
  refine g_int (v := nI (6 * k + 1)) (nI_add (6 * k) 1).symm ?_
  refine va_sld hx hb hX hbl hbA hG.2.2 (vp_in_nI (by omega) (by omega)) dL_law_294 ?_
  refine g_int (v := xs (6 * k + 1)) (congrArg xs (cl_nI (by omega)).symm) ?_
  refine lv_aload_n hx hb dL_law_295 rfl (lv_at hl 0 rfl) ?_
  refine lv_iload_n hx hb dL_law_296 rfl (lv_at hl 3 rfl) ?_
  refine lv_iconst (v := 2) hx hb dL_law_297 (by decide) ?_
  refine lv_iadd hx hb dL_law_298 ?_
  refine g_int (v := nI (6 * k + 2)) (nI_add (6 * k) 2).symm ?_
  refine va_sld hx hb hX hbl hbA hG.2.2 (vp_in_nI (by omega) (by omega)) dL_law_299 ?_
  refine g_int (v := xs (6 * k + 2)) (congrArg xs (cl_nI (by omega)).symm) ?_
  refine lv_aload_n hx hb dL_law_300 rfl (lv_at hl 0 rfl) ?_
  refine lv_iload_n hx hb dL_law_301 rfl (lv_at hl 3 rfl) ?_
  refine lv_iconst (v := 3) hx hb dL_law_302 (by decide) ?_
  refine lv_iadd hx hb dL_law_303 ?_
  refine g_int (v := nI (6 * k + 3)) (nI_add (6 * k) 3).symm ?_
  refine va_sld hx hb hX hbl hbA hG.2.2 (vp_in_nI (by omega) (by omega)) dL_law_304 ?_
  refine g_int (v := xs (6 * k + 3)) (congrArg xs (cl_nI (by omega)).symm) ?_
  refine lv_aload_n hx hb dL_law_305 rfl (lv_at hl 0 rfl) ?_
  refine lv_iload_n hx hb dL_law_306 rfl (lv_at hl 3 rfl) ?_
  refine lv_iconst (v := 4) hx hb dL_law_307 (by decide) ?_
  refine lv_iadd hx hb dL_law_308 ?_
  refine g_int (v := nI (6 * k + 4)) (nI_add (6 * k) 4).symm ?_
  refine va_sld hx hb hX hbl hbA hG.2.2 (vp_in_nI (by omega) (by omega)) dL_law_309 ?_
  refine g_int (v := xs (6 * k + 4)) (congrArg xs (cl_nI (by omega)).symm) ?_
  refine lv_aload_n hx hb dL_law_310 rfl (lv_at hl 0 rfl) ?_
  refine lv_iload_n hx hb dL_law_311 rfl (lv_at hl 3 rfl) ?_
  refine lv_iconst (v := 5) hx hb dL_law_312 (by decide) ?_
  refine lv_iadd hx hb dL_law_313 ?_
  refine g_int (v := nI (6 * k + 5)) (nI_add (6 * k) 5).symm ?_
  refine va_sld hx hb hX hbl hbA hG.2.2 (vp_in_nI (by omega) (by omega)) dL_law_314 ?_
  refine g_int (v := xs (6 * k + 5)) (congrArg xs (cl_nI (by omega)).symm) ?_
  refine gF_i (ws' := (rX E ax an asx ay ap ar ai ah aj (tfOf ta tx) xx ++ (rY E ay ye yy ++ (rW E an nn ++ (rW E asx ss ++ (rW E ai ii ++ (rP E ap pp ++ (rQ E ta tx ++ (rR E ar r1 ++ (rH E ah hh ++ (rH E aj jj ++ (rM E am m1 ++ [])))))))))))) C hG (pout (pout (pout (pout (pout (pout (pout (pout (pout (pout (pin pnil))))))))))) (List.Perm.symm (pout (pout (pout (pout (pout (pout (pout (pout (pout (pout (pin pnil)))))))))))) (gR_VP (As := [.int (xs (6 * k + 1)), .int (xs (6 * k + 2)), .int (xs (6 * k + 3)), .int (xs (6 * k + 4)), .int (xs (6 * k + 5))]) (rest := [.int r]) C hz hl.1 hG (pout (pout (pout (pout (pout (pout (pout (pout (pout (pout (pin pnil))))))))))) (c_X12_feed l E am N (xs (6 * k + 1)) (xs (6 * k + 2)) (xs (6 * k + 3)) (xs (6 * k + 4)) (xs (6 * k + 5)) mm e2 H.size) okX12_feed q1434 0 rfl rfl rfl (Nat.le_of_ble_eq_true rfl) ⟨Nat.le_of_ble_eq_true rfl, Nat.le_of_ble_eq_true rfl⟩ ⟨by show 1926 + 3 * k + 0 + 0 ≤ 600000; omega, by show 49660 + 603 * k + 0 + 0 ≤ 7302250; omega⟩ dL_law_315) (fun H locs _ hG => ?_)
  refine g_int (v := r) rfl ?_
  refine lv_icmp_eq (tgt := 1596) hx hb dL_law_318 (by decide) (fun _ => ?_) (fun q => absurd rfl q)
  refine W.widen (k := 1926 + 3 * (k + 1)) (n := 49660 + 603 * (k + 1)) (by omega) (by omega) ?_
  exact nx _ _ _ _ _ _ _ _ _ _ _ _ _ _ _ _ hG hI1 hl
set_option maxHeartbeats 8000000 in
set_option maxRecDepth 100000 in
theorem case_end (h : LCX p l e s m below meth c Q E N b L xs ax an asx ay ap ar ai am ah aj ta tx ye xx yy nn ss ii pp rr hh jj mm k H locs ls) : W p l e room_1 s m #[Value.ref b] below meth c H locs (1926 + 3 * k) (49660 + 603 * k) Q (F0 m 323 ls []) := by
  obtain ⟨C, hz, hX, hbl, hL, hk, hN, hG, hI, hl, nx⟩ := h
  have hx := C.1.1
  have hb : c.code = cL_law := C.1.2.1
  have hbA : ¬ (fun q : Nat => s.heap.size ≤ q) b := Nat.not_le.mpr hbl
  obtain ⟨r, r1, m1, e1, e2, hI1⟩ := T_end hI (xs (6 * k + 1))
  refine lv_aload_n hx hb dL_law_323 rfl (lv_at hl 1 rfl) ?_
  refine lv_aload_n hx hb dL_law_324 rfl (lv_at hl 0 rfl) ?_
  refine lv_iload_n hx hb dL_law_325 rfl (lv_at hl 3 rfl) ?_
  refine lv_iconst (v := 1) hx hb dL_law_326 (by decide) ?_
  refine lv_iadd hx hb dL_law_327 ?_
  refine g_int (v := nI (6 * k + 1)) (nI_add (6 * k) 1).symm ?_
  refine va_sld hx hb hX hbl hbA hG.2.2 (vp_in_nI (by omega) (by omega)) dL_law_328 ?_
  refine g_int (v := xs (6 * k + 1)) (congrArg xs (cl_nI (by omega)).symm) ?_
  refine gF_i (ws' := (rX E ax an asx ay ap ar ai ah aj (tfOf ta tx) xx ++ (rY E ay ye yy ++ (rW E an nn ++ (rW E asx ss ++ (rW E ai ii ++ (rP E ap pp ++ (rQ E ta tx ++ (rR E ar r1 ++ (rH E ah hh ++ (rH E aj jj ++ (rM E am mm ++ [])))))))))))) C hG (pin (pout (pout (pout (pout (pout (pout (pin (pout (pout (pout pnil))))))))))) (List.Perm.symm (pin (pout (pout (pout (pout (pout (pout (pin (pout (pout (pout pnil)))))))))))) (gR_VP (As := [.int (xs (6 * k + 1))]) (rest := []) C hz hl.1 hG (pin (pout (pout (pout (pout (pout (pout (pin (pout (pout (pout pnil))))))))))) (c_X11_end l E ax an asx ay ap ar ai ah aj (tfOf ta tx) (xs (6 * k + 1)) xx rr e1 H.size) okX11_end q581 0 rfl rfl rfl (Nat.le_of_ble_eq_true rfl) ⟨Nat.le_of_ble_eq_true rfl, Nat.le_of_ble_eq_true rfl⟩ ⟨by show 1926 + 3 * k + 0 ≤ 600000; omega, by show 49660 + 603 * k + 0 ≤ 7302250; omega⟩ dL_law_329) (fun H locs _ hG => ?_)
  refine g_int (v := r) rfl ?_
  refine lv_aload_n hx hb dL_law_332 rfl (lv_at hl 2 rfl) ?_
  refine lv_aload_n hx hb dL_law_333 rfl (lv_at hl 0 rfl) ?_
  refine lv_iload_n hx hb dL_law_334 rfl (lv_at hl 3 rfl) ?_
  refine lv_iconst (v := 1) hx hb dL_law_335 (by decide) ?_
  refine lv_iadd hx hb dL_law_336 ?_
  refine g_int (v := nI (6 * k + 1)) (nI_add (6 * k) 1).symm ?_
  refine va_sld hx hb hX hbl hbA hG.2.2 (vp_in_nI (by omega) (by omega)) dL_law_337 ?_
  refine g_int (v := xs (6 * k + 1)) (congrArg xs (cl_nI (by omega)).symm) ?_
  refine gF_i (ws' := (rX E ax an asx ay ap ar ai ah aj (tfOf ta tx) xx ++ (rY E ay ye yy ++ (rW E an nn ++ (rW E asx ss ++ (rW E ai ii ++ (rP E ap pp ++ (rQ E ta tx ++ (rR E ar r1 ++ (rH E ah hh ++ (rH E aj jj ++ (rM E am m1 ++ [])))))))))))) C hG (pout (pout (pout (pout (pout (pout (pout (pout (pout (pout (pin pnil))))))))))) (List.Perm.symm (pout (pout (pout (pout (pout (pout (pout (pout (pout (pout (pin pnil)))))))))))) (gR_VP (As := [.int (xs (6 * k + 1))]) (rest := [.int r]) C hz hl.1 hG (pout (pout (pout (pout (pout (pout (pout (pout (pout (pout (pin pnil))))))))))) (c_X12_end l E am (xs (6 * k + 1)) mm e2 H.size) okX12_end q1442 0 rfl rfl rfl (Nat.le_of_ble_eq_true rfl) ⟨Nat.le_of_ble_eq_true rfl, Nat.le_of_ble_eq_true rfl⟩ ⟨by show 1926 + 3 * k + 0 + 0 ≤ 600000; omega, by show 49660 + 603 * k + 0 + 0 ≤ 7302250; omega⟩ dL_law_338) (fun H locs _ hG => ?_)
  refine g_int (v := r) rfl ?_
  refine lv_icmp_eq (tgt := 1596) hx hb dL_law_341 (by decide) (fun _ => ?_) (fun q => absurd rfl q)
  refine W.widen (k := 1926 + 3 * (k + 1)) (n := 49660 + 603 * (k + 1)) (by omega) (by omega) ?_
  exact nx _ _ _ _ _ _ _ _ _ _ _ _ _ _ _ _ hG hI1 hl
set_option maxHeartbeats 8000000 in
set_option maxRecDepth 100000 in
theorem case_text (h : LCX p l e s m below meth c Q E N b L xs ax an asx ay ap ar ai am ah aj ta tx ye xx yy nn ss ii pp rr hh jj mm k H locs ls) : W p l e room_1 s m #[Value.ref b] below meth c H locs (1926 + 3 * k) (49660 + 603 * k) Q (F0 m 346 ls []) := by
  obtain ⟨C, hz, hX, hbl, hL, hk, hN, hG, hI, hl, nx⟩ := h
  have hx := C.1.1
  have hb : c.code = cL_law := C.1.2.1
  have hbA : ¬ (fun q : Nat => s.heap.size ≤ q) b := Nat.not_le.mpr hbl
  rcases T_text hN hI with ⟨g1, e2⟩ | ⟨r1, m1, g1, g2, g3, e2, hI1⟩ | ⟨t, n, r1, m1, ht, hn, g1, g2, g3, g4, e2, hI1⟩
  · have hI1 := hI.le (L := 16200 * k + 16200) (by omega)
    refine lv_aload_n hx hb dL_law_346 rfl (lv_at hl 1 rfl) ?_
    refine gF_i (ws' := (rX E ax an asx ay ap ar ai ah aj (tfOf ta tx) xx ++ (rY E ay ye yy ++ (rW E an nn ++ (rW E asx ss ++ (rW E ai ii ++ (rP E ap pp ++ (rQ E ta tx ++ (rR E ar rr ++ (rH E ah hh ++ (rH E aj jj ++ (rM E am mm ++ [])))))))))))) C hG (pin (pout (pout (pout (pout (pout (pout (pin (pout (pout (pout pnil))))))))))) (List.Perm.symm (pin (pout (pout (pout (pout (pout (pout (pin (pout (pout (pout pnil)))))))))))) (gR_VP (As := []) (rest := []) C hz hl.1 hG (pin (pout (pout (pout (pout (pout (pout (pin (pout (pout (pout pnil))))))))))) (c_X11_text_full l E ax an asx ay ap ar ai ah aj (tfOf ta tx) xx rr g1 H.size) okX11_text q585 0 rfl rfl rfl (Nat.le_of_ble_eq_true rfl) ⟨Nat.le_of_ble_eq_true rfl, Nat.le_of_ble_eq_true rfl⟩ ⟨by show 1926 + 3 * k + 3 ≤ 600000; omega, by show 49660 + 603 * k + 603 ≤ 7302250; omega⟩ dL_law_347) (fun H locs _ hG => ?_)
    refine lv_aload_n hx hb dL_law_350 rfl (lv_at hl 2 rfl) ?_
    refine gF_i (ws' := (rX E ax an asx ay ap ar ai ah aj (tfOf ta tx) xx ++ (rY E ay ye yy ++ (rW E an nn ++ (rW E asx ss ++ (rW E ai ii ++ (rP E ap pp ++ (rQ E ta tx ++ (rR E ar rr ++ (rH E ah hh ++ (rH E aj jj ++ (rM E am mm ++ [])))))))))))) C hG (pout (pout (pout (pout (pout (pout (pout (pout (pout (pout (pin pnil))))))))))) (List.Perm.symm (pout (pout (pout (pout (pout (pout (pout (pout (pout (pout (pin pnil)))))))))))) (gR_VP (As := []) (rest := [.int (-1)]) C hz hl.1 hG (pout (pout (pout (pout (pout (pout (pout (pout (pout (pout (pin pnil))))))))))) (c_X12_text l E am N mm e2 H.size) okX12_text q1449 0 rfl rfl rfl (Nat.le_of_ble_eq_true rfl) ⟨Nat.le_of_ble_eq_true rfl, Nat.le_of_ble_eq_true rfl⟩ ⟨by show 1926 + 3 * k + 3 + 0 ≤ 600000; omega, by show 49660 + 603 * k + 603 + 0 ≤ 7302250; omega⟩ dL_law_351) (fun H locs _ hG => ?_)
    refine g_int (v := -1) rfl ?_
    refine lv_icmp_eq (tgt := 1596) hx hb dL_law_354 (by decide) (fun _ => ?_) (fun q => absurd rfl q)
    refine W.widen (k := 1926 + 3 * (k + 1)) (n := 49660 + 603 * (k + 1)) (by omega) (by omega) ?_
    exact nx _ _ _ _ _ _ _ _ _ _ _ _ _ _ _ _ hG hI1 hl
  · refine lv_aload_n hx hb dL_law_346 rfl (lv_at hl 1 rfl) ?_
    refine gF_i (ws' := (rX E ax an asx ay ap ar ai ah aj (tfOf ta tx) xx ++ (rY E ay ye yy ++ (rW E an nn ++ (rW E asx ss ++ (rW E ai ii ++ (rP E ap pp ++ (rQ E ta tx ++ (rR E ar r1 ++ (rH E ah hh ++ (rH E aj jj ++ (rM E am mm ++ [])))))))))))) C hG (pin (pout (pout (pout (pout (pout (pout (pin (pout (pout (pout pnil))))))))))) (List.Perm.symm (pin (pout (pout (pout (pout (pout (pout (pin (pout (pout (pout pnil)))))))))))) (gR_VP (As := []) (rest := []) C hz hl.1 hG (pin (pout (pout (pout (pout (pout (pout (pin (pout (pout (pout pnil))))))))))) (c_X11_text_no l E ax an asx ay ap ar ai ah aj (tfOf ta tx) N xx rr g1 g2 g3 H.size) okX11_text q585 0 rfl rfl rfl (Nat.le_of_ble_eq_true rfl) ⟨Nat.le_of_ble_eq_true rfl, Nat.le_of_ble_eq_true rfl⟩ ⟨by show 1926 + 3 * k + 3 ≤ 600000; omega, by show 49660 + 603 * k + 603 ≤ 7302250; omega⟩ dL_law_347) (fun H locs _ hG => ?_)
    refine lv_aload_n hx hb dL_law_350 rfl (lv_at hl 2 rfl) ?_
    refine gF_i (ws' := (rX E ax an asx ay ap ar ai ah aj (tfOf ta tx) xx ++ (rY E ay ye yy ++ (rW E an nn ++ (rW E asx ss ++ (rW E ai ii ++ (rP E ap pp ++ (rQ E ta tx ++ (rR E ar r1 ++ (rH E ah hh ++ (rH E aj jj ++ (rM E am m1 ++ [])))))))))))) C hG (pout (pout (pout (pout (pout (pout (pout (pout (pout (pout (pin pnil))))))))))) (List.Perm.symm (pout (pout (pout (pout (pout (pout (pout (pout (pout (pout (pin pnil)))))))))))) (gR_VP (As := []) (rest := [.int (-1)]) C hz hl.1 hG (pout (pout (pout (pout (pout (pout (pout (pout (pout (pout (pin pnil))))))))))) (c_X12_text l E am N mm e2 H.size) okX12_text q1449 0 rfl rfl rfl (Nat.le_of_ble_eq_true rfl) ⟨Nat.le_of_ble_eq_true rfl, Nat.le_of_ble_eq_true rfl⟩ ⟨by show 1926 + 3 * k + 3 + 0 ≤ 600000; omega, by show 49660 + 603 * k + 603 + 0 ≤ 7302250; omega⟩ dL_law_351) (fun H locs _ hG => ?_)
    refine g_int (v := -1) rfl ?_
    refine lv_icmp_eq (tgt := 1596) hx hb dL_law_354 (by decide) (fun _ => ?_) (fun q => absurd rfl q)
    refine W.widen (k := 1926 + 3 * (k + 1)) (n := 49660 + 603 * (k + 1)) (by omega) (by omega) ?_
    exact nx _ _ _ _ _ _ _ _ _ _ _ _ _ _ _ _ hG hI1 hl
  · refine lv_aload_n hx hb dL_law_346 rfl (lv_at hl 1 rfl) ?_
    refine gF_w C hG (pin (pout (pout (pout (pout (pout (pout (pin (pout (pout (pout pnil))))))))))) (gR_VP (As := []) (rest := []) C hz hl.1 hG (pin (pout (pout (pout (pout (pout (pout (pin (pout (pout (pout pnil))))))))))) (c_X11_text_yes l E ax an asx ay ap ar ai ah aj (tfOf ta tx) N t n ht hn xx rr g1 g2 g3 g4 H.size) okX11_text q585 0 rfl rfl rfl (Nat.le_of_ble_eq_true rfl) ⟨Nat.le_of_ble_eq_true rfl, Nat.le_of_ble_eq_true rfl⟩ ⟨by show 1926 + 3 * k + 3 ≤ 600000; omega, by show 49660 + 603 * k + 603 ≤ 7302250; omega⟩ dL_law_347) (fun at0 H locs hG => ?_)
    obtain ⟨ta1, eta⟩ : ∃ ta1 : Nat → Nat → Nat, ta1 = fun i => if i = t then at0 else ta i := ⟨_, rfl⟩
    obtain ⟨tx1, etx⟩ : ∃ tx1 : TXS, tx1 = fun i => if i = t then some (n, tRS r1 n) else tx i := ⟨_, rfl⟩
    obtain ⟨xx1, exx⟩ : ∃ w : RS, w = st xx 0 7 (nI (t + 1)) := ⟨_, rfl⟩
    rw [← etx, ← exx] at hI1
    have etf : va_up (tfOf ta tx) t (some (at0 0)) = tfOf ta1 tx1 := by rw [eta, etx]; exact tf_up
    rw [etf, ← exx] at hG
    have hQn : (rQ E ta1 tx1).Perm (rT E at0 n (tRS r1 n) ++ rQr E ta tx t) := by rw [eta, etx]; exact rQ_new ht
    replace hG : gG E (fun q : Nat => s.heap.size ≤ q) s.heap (rX E ax an asx ay ap ar ai ah aj (tfOf ta1 tx1) xx1 ++ (rY E ay ye yy ++ (rW E an nn ++ (rW E asx ss ++ (rW E ai ii ++ (rP E ap pp ++ (rQ E ta1 tx1 ++ (rR E ar r1 ++ (rH E ah hh ++ (rH E aj jj ++ (rM E am mm ++ []))))))))))) H locs := gG.drop (hG.perm (text_perm (rQ_perm ht) hQn))
    refine g_int (v := nI t) rfl ?_
    refine lv_aload_n hx hb dL_law_350 rfl (lv_at hl 2 rfl) ?_
    refine gF_i (ws' := (rX E ax an asx ay ap ar ai ah aj (tfOf ta1 tx1) xx1 ++ (rY E ay ye yy ++ (rW E an nn ++ (rW E asx ss ++ (rW E ai ii ++ (rP E ap pp ++ (rQ E ta1 tx1 ++ (rR E ar r1 ++ (rH E ah hh ++ (rH E aj jj ++ (rM E am m1 ++ [])))))))))))) C hG (pout (pout (pout (pout (pout (pout (pout (pout (pout (pout (pin pnil))))))))))) (List.Perm.symm (pout (pout (pout (pout (pout (pout (pout (pout (pout (pout (pin pnil)))))))))))) (gR_VP (As := []) (rest := [.int (nI t)]) C hz hl.1 hG (pout (pout (pout (pout (pout (pout (pout (pout (pout (pout (pin pnil))))))))))) (c_X12_text l E am N mm e2 H.size) okX12_text q1449 0 rfl rfl rfl (Nat.le_of_ble_eq_true rfl) ⟨Nat.le_of_ble_eq_true rfl, Nat.le_of_ble_eq_true rfl⟩ ⟨by show 1926 + 3 * k + 3 + 0 ≤ 600000; omega, by show 49660 + 603 * k + 603 + 0 ≤ 7302250; omega⟩ dL_law_351) (fun H locs _ hG => ?_)
    refine g_int (v := nI t) rfl ?_
    refine lv_icmp_eq (tgt := 1596) hx hb dL_law_354 (by decide) (fun _ => ?_) (fun q => absurd rfl q)
    refine W.widen (k := 1926 + 3 * (k + 1)) (n := 49660 + 603 * (k + 1)) (by omega) (by omega) ?_
    exact nx _ _ _ _ _ _ _ _ _ _ _ _ _ _ _ _ hG hI1 hl
set_option maxHeartbeats 8000000 in
set_option maxRecDepth 100000 in
theorem case_fault (h : LCX p l e s m below meth c Q E N b L xs ax an asx ay ap ar ai am ah aj ta tx ye xx yy nn ss ii pp rr hh jj mm k H locs ls) : W p l e room_1 s m #[Value.ref b] below meth c H locs (1926 + 3 * k) (49660 + 603 * k) Q (F0 m 359 ls []) := by
  obtain ⟨C, hz, hX, hbl, hL, hk, hN, hG, hI, hl, nx⟩ := h
  have hx := C.1.1
  have hb : c.code = cL_law := C.1.2.1
  have hbA : ¬ (fun q : Nat => s.heap.size ≤ q) b := Nat.not_le.mpr hbl
  have e1 := T_fault hI (xs (6 * k + 1))
  obtain ⟨r, er⟩ : ∃ r, r = fX12_fault (xs (6 * k + 1)) mm := ⟨_, rfl⟩
  rw [← er] at e1
  have hI1 := hI.le (L := 16200 * k + 16200) (by omega)
  refine lv_aload_n hx hb dL_law_359 rfl (lv_at hl 1 rfl) ?_
  refine lv_aload_n hx hb dL_law_360 rfl (lv_at hl 0 rfl) ?_
  refine lv_iload_n hx hb dL_law_361 rfl (lv_at hl 3 rfl) ?_
  refine lv_iconst (v := 1) hx hb dL_law_362 (by decide) ?_
  refine lv_iadd hx hb dL_law_363 ?_
  refine g_int (v := nI (6 * k + 1)) (nI_add (6 * k) 1).symm ?_
  refine va_sld hx hb hX hbl hbA hG.2.2 (vp_in_nI (by omega) (by omega)) dL_law_364 ?_
  refine g_int (v := xs (6 * k + 1)) (congrArg xs (cl_nI (by omega)).symm) ?_
  refine gF_i (ws' := (rX E ax an asx ay ap ar ai ah aj (tfOf ta tx) xx ++ (rY E ay ye yy ++ (rW E an nn ++ (rW E asx ss ++ (rW E ai ii ++ (rP E ap pp ++ (rQ E ta tx ++ (rR E ar rr ++ (rH E ah hh ++ (rH E aj jj ++ (rM E am mm ++ [])))))))))))) C hG (pin (pout (pout (pout (pout (pout (pout (pin (pout (pout (pout pnil))))))))))) (List.Perm.symm (pin (pout (pout (pout (pout (pout (pout (pin (pout (pout (pout pnil)))))))))))) (gR_VP (As := [.int (xs (6 * k + 1))]) (rest := []) C hz hl.1 hG (pin (pout (pout (pout (pout (pout (pout (pin (pout (pout (pout pnil))))))))))) (c_X11_fault l E ax an asx ay ap ar ai ah aj (tfOf ta tx) (xs (6 * k + 1)) xx rr e1 H.size) okX11_fault q753 0 rfl rfl rfl (Nat.le_of_ble_eq_true rfl) ⟨Nat.le_of_ble_eq_true rfl, Nat.le_of_ble_eq_true rfl⟩ ⟨by show 1926 + 3 * k + 0 ≤ 600000; omega, by show 49660 + 603 * k + 0 ≤ 7302250; omega⟩ dL_law_365) (fun H locs _ hG => ?_)
  refine g_int (v := r) rfl ?_
  refine lv_aload_n hx hb dL_law_368 rfl (lv_at hl 2 rfl) ?_
  refine lv_aload_n hx hb dL_law_369 rfl (lv_at hl 0 rfl) ?_
  refine lv_iload_n hx hb dL_law_370 rfl (lv_at hl 3 rfl) ?_
  refine lv_iconst (v := 1) hx hb dL_law_371 (by decide) ?_
  refine lv_iadd hx hb dL_law_372 ?_
  refine g_int (v := nI (6 * k + 1)) (nI_add (6 * k) 1).symm ?_
  refine va_sld hx hb hX hbl hbA hG.2.2 (vp_in_nI (by omega) (by omega)) dL_law_373 ?_
  refine g_int (v := xs (6 * k + 1)) (congrArg xs (cl_nI (by omega)).symm) ?_
  refine gF_i (ws' := (rX E ax an asx ay ap ar ai ah aj (tfOf ta tx) xx ++ (rY E ay ye yy ++ (rW E an nn ++ (rW E asx ss ++ (rW E ai ii ++ (rP E ap pp ++ (rQ E ta tx ++ (rR E ar rr ++ (rH E ah hh ++ (rH E aj jj ++ (rM E am mm ++ [])))))))))))) C hG (pout (pout (pout (pout (pout (pout (pout (pout (pout (pout (pin pnil))))))))))) (List.Perm.symm (pout (pout (pout (pout (pout (pout (pout (pout (pout (pout (pin pnil)))))))))))) (gR_VP (As := [.int (xs (6 * k + 1))]) (rest := [.int r]) C hz hl.1 hG (pout (pout (pout (pout (pout (pout (pout (pout (pout (pout (pin pnil))))))))))) (c_X12_fault l E am (xs (6 * k + 1)) mm er.symm H.size) okX12_fault q1515 0 rfl rfl rfl (Nat.le_of_ble_eq_true rfl) ⟨Nat.le_of_ble_eq_true rfl, Nat.le_of_ble_eq_true rfl⟩ ⟨by show 1926 + 3 * k + 0 + 0 ≤ 600000; omega, by show 49660 + 603 * k + 0 + 0 ≤ 7302250; omega⟩ dL_law_374) (fun H locs _ hG => ?_)
  refine g_int (v := r) rfl ?_
  refine lv_icmp_eq (tgt := 1596) hx hb dL_law_377 (by decide) (fun _ => ?_) (fun q => absurd rfl q)
  refine W.widen (k := 1926 + 3 * (k + 1)) (n := 49660 + 603 * (k + 1)) (by omega) (by omega) ?_
  exact nx _ _ _ _ _ _ _ _ _ _ _ _ _ _ _ _ hG hI1 hl
set_option maxHeartbeats 8000000 in
set_option maxRecDepth 100000 in
theorem case_read (h : LCX p l e s m below meth c Q E N b L xs ax an asx ay ap ar ai am ah aj ta tx ye xx yy nn ss ii pp rr hh jj mm k H locs ls) : W p l e room_1 s m #[Value.ref b] below meth c H locs (1926 + 3 * k) (49660 + 603 * k) Q (F0 m 382 ls []) := by
  obtain ⟨C, hz, hX, hbl, hL, hk, hN, hG, hI, hl, nx⟩ := h
  have hx := C.1.1
  have hb : c.code = cL_law := C.1.2.1
  have hbA : ¬ (fun q : Nat => s.heap.size ≤ q) b := Nat.not_le.mpr hbl
  obtain ⟨r, n1, h1, m1, e1, e2, hI1⟩ := T_read hN hI (xs (6 * k + 1)) (xs (6 * k + 2))
  refine lv_aload_n hx hb dL_law_382 rfl (lv_at hl 1 rfl) ?_
  refine lv_aload_n hx hb dL_law_383 rfl (lv_at hl 0 rfl) ?_
  refine lv_iload_n hx hb dL_law_384 rfl (lv_at hl 3 rfl) ?_
  refine lv_iconst (v := 1) hx hb dL_law_385 (by decide) ?_
  refine lv_iadd hx hb dL_law_386 ?_
  refine g_int (v := nI (6 * k + 1)) (nI_add (6 * k) 1).symm ?_
  refine va_sld hx hb hX hbl hbA hG.2.2 (vp_in_nI (by omega) (by omega)) dL_law_387 ?_
  refine g_int (v := xs (6 * k + 1)) (congrArg xs (cl_nI (by omega)).symm) ?_
  refine lv_aload_n hx hb dL_law_388 rfl (lv_at hl 0 rfl) ?_
  refine lv_iload_n hx hb dL_law_389 rfl (lv_at hl 3 rfl) ?_
  refine lv_iconst (v := 2) hx hb dL_law_390 (by decide) ?_
  refine lv_iadd hx hb dL_law_391 ?_
  refine g_int (v := nI (6 * k + 2)) (nI_add (6 * k) 2).symm ?_
  refine va_sld hx hb hX hbl hbA hG.2.2 (vp_in_nI (by omega) (by omega)) dL_law_392 ?_
  refine g_int (v := xs (6 * k + 2)) (congrArg xs (cl_nI (by omega)).symm) ?_
  refine gF_i (ws' := (rX E ax an asx ay ap ar ai ah aj (tfOf ta tx) xx ++ (rY E ay ye yy ++ (rW E an n1 ++ (rW E asx ss ++ (rW E ai ii ++ (rP E ap pp ++ (rQ E ta tx ++ (rR E ar rr ++ (rH E ah h1 ++ (rH E aj jj ++ (rM E am mm ++ [])))))))))))) C hG (pin (pout (pin (pout (pout (pout (pout (pout (pin (pout (pout pnil))))))))))) (List.Perm.symm (pin (pout (pin (pout (pout (pout (pout (pout (pin (pout (pout pnil)))))))))))) (gR_VP (As := [.int (xs (6 * k + 1)), .int (xs (6 * k + 2))]) (rest := []) C hz hl.1 hG (pin (pout (pin (pout (pout (pout (pout (pout (pin (pout (pout pnil))))))))))) (c_X11_read l E ax an asx ay ap ar ai ah aj (tfOf ta tx) N (xs (6 * k + 1)) (xs (6 * k + 2)) xx nn hh e1 H.size) okX11_read q757 0 rfl rfl rfl (Nat.le_of_ble_eq_true rfl) ⟨Nat.le_of_ble_eq_true rfl, Nat.le_of_ble_eq_true rfl⟩ ⟨by show 1926 + 3 * k + 0 ≤ 600000; omega, by show 49660 + 603 * k + 0 ≤ 7302250; omega⟩ dL_law_393) (fun H locs _ hG => ?_)
  refine g_int (v := r) rfl ?_
  refine lv_aload_n hx hb dL_law_396 rfl (lv_at hl 2 rfl) ?_
  refine lv_aload_n hx hb dL_law_397 rfl (lv_at hl 0 rfl) ?_
  refine lv_iload_n hx hb dL_law_398 rfl (lv_at hl 3 rfl) ?_
  refine lv_iconst (v := 1) hx hb dL_law_399 (by decide) ?_
  refine lv_iadd hx hb dL_law_400 ?_
  refine g_int (v := nI (6 * k + 1)) (nI_add (6 * k) 1).symm ?_
  refine va_sld hx hb hX hbl hbA hG.2.2 (vp_in_nI (by omega) (by omega)) dL_law_401 ?_
  refine g_int (v := xs (6 * k + 1)) (congrArg xs (cl_nI (by omega)).symm) ?_
  refine lv_aload_n hx hb dL_law_402 rfl (lv_at hl 0 rfl) ?_
  refine lv_iload_n hx hb dL_law_403 rfl (lv_at hl 3 rfl) ?_
  refine lv_iconst (v := 2) hx hb dL_law_404 (by decide) ?_
  refine lv_iadd hx hb dL_law_405 ?_
  refine g_int (v := nI (6 * k + 2)) (nI_add (6 * k) 2).symm ?_
  refine va_sld hx hb hX hbl hbA hG.2.2 (vp_in_nI (by omega) (by omega)) dL_law_406 ?_
  refine g_int (v := xs (6 * k + 2)) (congrArg xs (cl_nI (by omega)).symm) ?_
  refine gF_i (ws' := (rX E ax an asx ay ap ar ai ah aj (tfOf ta tx) xx ++ (rY E ay ye yy ++ (rW E an n1 ++ (rW E asx ss ++ (rW E ai ii ++ (rP E ap pp ++ (rQ E ta tx ++ (rR E ar rr ++ (rH E ah h1 ++ (rH E aj jj ++ (rM E am m1 ++ [])))))))))))) C hG (pout (pout (pout (pout (pout (pout (pout (pout (pout (pout (pin pnil))))))))))) (List.Perm.symm (pout (pout (pout (pout (pout (pout (pout (pout (pout (pout (pin pnil)))))))))))) (gR_VP (As := [.int (xs (6 * k + 1)), .int (xs (6 * k + 2))]) (rest := [.int r]) C hz hl.1 hG (pout (pout (pout (pout (pout (pout (pout (pout (pout (pout (pin pnil))))))))))) (c_X12_read l E am N (xs (6 * k + 1)) (xs (6 * k + 2)) mm e2 H.size) okX12_read q1526 0 rfl rfl rfl (Nat.le_of_ble_eq_true rfl) ⟨Nat.le_of_ble_eq_true rfl, Nat.le_of_ble_eq_true rfl⟩ ⟨by show 1926 + 3 * k + 0 + 0 ≤ 600000; omega, by show 49660 + 603 * k + 0 + 0 ≤ 7302250; omega⟩ dL_law_407) (fun H locs _ hG => ?_)
  refine g_int (v := r) rfl ?_
  refine lv_icmp_eq (tgt := 1596) hx hb dL_law_410 (by decide) (fun _ => ?_) (fun q => absurd rfl q)
  refine W.widen (k := 1926 + 3 * (k + 1)) (n := 49660 + 603 * (k + 1)) (by omega) (by omega) ?_
  exact nx _ _ _ _ _ _ _ _ _ _ _ _ _ _ _ _ hG hI1 hl
set_option maxHeartbeats 8000000 in
set_option maxRecDepth 100000 in
theorem case_write (h : LCX p l e s m below meth c Q E N b L xs ax an asx ay ap ar ai am ah aj ta tx ye xx yy nn ss ii pp rr hh jj mm k H locs ls) : W p l e room_1 s m #[Value.ref b] below meth c H locs (1926 + 3 * k) (49660 + 603 * k) Q (F0 m 415 ls []) := by
  obtain ⟨C, hz, hX, hbl, hL, hk, hN, hG, hI, hl, nx⟩ := h
  have hx := C.1.1
  have hb : c.code = cL_law := C.1.2.1
  have hbA : ¬ (fun q : Nat => s.heap.size ≤ q) b := Nat.not_le.mpr hbl
  obtain ⟨r, n1, h1, m1, e1, e2, hI1⟩ := T_write hN hI (xs (6 * k + 1)) (xs (6 * k + 2)) (xs (6 * k + 3))
  refine lv_aload_n hx hb dL_law_415 rfl (lv_at hl 1 rfl) ?_
  refine lv_aload_n hx hb dL_law_416 rfl (lv_at hl 0 rfl) ?_
  refine lv_iload_n hx hb dL_law_417 rfl (lv_at hl 3 rfl) ?_
  refine lv_iconst (v := 1) hx hb dL_law_418 (by decide) ?_
  refine lv_iadd hx hb dL_law_419 ?_
  refine g_int (v := nI (6 * k + 1)) (nI_add (6 * k) 1).symm ?_
  refine va_sld hx hb hX hbl hbA hG.2.2 (vp_in_nI (by omega) (by omega)) dL_law_420 ?_
  refine g_int (v := xs (6 * k + 1)) (congrArg xs (cl_nI (by omega)).symm) ?_
  refine lv_aload_n hx hb dL_law_421 rfl (lv_at hl 0 rfl) ?_
  refine lv_iload_n hx hb dL_law_422 rfl (lv_at hl 3 rfl) ?_
  refine lv_iconst (v := 2) hx hb dL_law_423 (by decide) ?_
  refine lv_iadd hx hb dL_law_424 ?_
  refine g_int (v := nI (6 * k + 2)) (nI_add (6 * k) 2).symm ?_
  refine va_sld hx hb hX hbl hbA hG.2.2 (vp_in_nI (by omega) (by omega)) dL_law_425 ?_
  refine g_int (v := xs (6 * k + 2)) (congrArg xs (cl_nI (by omega)).symm) ?_
  refine lv_aload_n hx hb dL_law_426 rfl (lv_at hl 0 rfl) ?_
  refine lv_iload_n hx hb dL_law_427 rfl (lv_at hl 3 rfl) ?_
  refine lv_iconst (v := 3) hx hb dL_law_428 (by decide) ?_
  refine lv_iadd hx hb dL_law_429 ?_
  refine g_int (v := nI (6 * k + 3)) (nI_add (6 * k) 3).symm ?_
  refine va_sld hx hb hX hbl hbA hG.2.2 (vp_in_nI (by omega) (by omega)) dL_law_430 ?_
  refine g_int (v := xs (6 * k + 3)) (congrArg xs (cl_nI (by omega)).symm) ?_
  refine gF_i (ws' := (rX E ax an asx ay ap ar ai ah aj (tfOf ta tx) xx ++ (rY E ay ye yy ++ (rW E an n1 ++ (rW E asx ss ++ (rW E ai ii ++ (rP E ap pp ++ (rQ E ta tx ++ (rR E ar rr ++ (rH E ah h1 ++ (rH E aj jj ++ (rM E am mm ++ [])))))))))))) C hG (pin (pout (pin (pout (pout (pout (pout (pout (pin (pout (pout pnil))))))))))) (List.Perm.symm (pin (pout (pin (pout (pout (pout (pout (pout (pin (pout (pout pnil)))))))))))) (gR_VP (As := [.int (xs (6 * k + 1)), .int (xs (6 * k + 2)), .int (xs (6 * k + 3))]) (rest := []) C hz hl.1 hG (pin (pout (pin (pout (pout (pout (pout (pout (pin (pout (pout pnil))))))))))) (c_X11_write l E ax an asx ay ap ar ai ah aj (tfOf ta tx) N (xs (6 * k + 1)) (xs (6 * k + 2)) (xs (6 * k + 3)) xx nn hh e1 H.size) okX11_write q826 0 rfl rfl rfl (Nat.le_of_ble_eq_true rfl) ⟨Nat.le_of_ble_eq_true rfl, Nat.le_of_ble_eq_true rfl⟩ ⟨by show 1926 + 3 * k + 0 ≤ 600000; omega, by show 49660 + 603 * k + 0 ≤ 7302250; omega⟩ dL_law_431) (fun H locs _ hG => ?_)
  refine g_int (v := r) rfl ?_
  refine lv_aload_n hx hb dL_law_434 rfl (lv_at hl 2 rfl) ?_
  refine lv_aload_n hx hb dL_law_435 rfl (lv_at hl 0 rfl) ?_
  refine lv_iload_n hx hb dL_law_436 rfl (lv_at hl 3 rfl) ?_
  refine lv_iconst (v := 1) hx hb dL_law_437 (by decide) ?_
  refine lv_iadd hx hb dL_law_438 ?_
  refine g_int (v := nI (6 * k + 1)) (nI_add (6 * k) 1).symm ?_
  refine va_sld hx hb hX hbl hbA hG.2.2 (vp_in_nI (by omega) (by omega)) dL_law_439 ?_
  refine g_int (v := xs (6 * k + 1)) (congrArg xs (cl_nI (by omega)).symm) ?_
  refine lv_aload_n hx hb dL_law_440 rfl (lv_at hl 0 rfl) ?_
  refine lv_iload_n hx hb dL_law_441 rfl (lv_at hl 3 rfl) ?_
  refine lv_iconst (v := 2) hx hb dL_law_442 (by decide) ?_
  refine lv_iadd hx hb dL_law_443 ?_
  refine g_int (v := nI (6 * k + 2)) (nI_add (6 * k) 2).symm ?_
  refine va_sld hx hb hX hbl hbA hG.2.2 (vp_in_nI (by omega) (by omega)) dL_law_444 ?_
  refine g_int (v := xs (6 * k + 2)) (congrArg xs (cl_nI (by omega)).symm) ?_
  refine lv_aload_n hx hb dL_law_445 rfl (lv_at hl 0 rfl) ?_
  refine lv_iload_n hx hb dL_law_446 rfl (lv_at hl 3 rfl) ?_
  refine lv_iconst (v := 3) hx hb dL_law_447 (by decide) ?_
  refine lv_iadd hx hb dL_law_448 ?_
  refine g_int (v := nI (6 * k + 3)) (nI_add (6 * k) 3).symm ?_
  refine va_sld hx hb hX hbl hbA hG.2.2 (vp_in_nI (by omega) (by omega)) dL_law_449 ?_
  refine g_int (v := xs (6 * k + 3)) (congrArg xs (cl_nI (by omega)).symm) ?_
  refine gF_i (ws' := (rX E ax an asx ay ap ar ai ah aj (tfOf ta tx) xx ++ (rY E ay ye yy ++ (rW E an n1 ++ (rW E asx ss ++ (rW E ai ii ++ (rP E ap pp ++ (rQ E ta tx ++ (rR E ar rr ++ (rH E ah h1 ++ (rH E aj jj ++ (rM E am m1 ++ [])))))))))))) C hG (pout (pout (pout (pout (pout (pout (pout (pout (pout (pout (pin pnil))))))))))) (List.Perm.symm (pout (pout (pout (pout (pout (pout (pout (pout (pout (pout (pin pnil)))))))))))) (gR_VP (As := [.int (xs (6 * k + 1)), .int (xs (6 * k + 2)), .int (xs (6 * k + 3))]) (rest := [.int r]) C hz hl.1 hG (pout (pout (pout (pout (pout (pout (pout (pout (pout (pout (pin pnil))))))))))) (c_X12_write l E am N (xs (6 * k + 1)) (xs (6 * k + 2)) (xs (6 * k + 3)) mm e2 H.size) okX12_write q1574 0 rfl rfl rfl (Nat.le_of_ble_eq_true rfl) ⟨Nat.le_of_ble_eq_true rfl, Nat.le_of_ble_eq_true rfl⟩ ⟨by show 1926 + 3 * k + 0 + 0 ≤ 600000; omega, by show 49660 + 603 * k + 0 + 0 ≤ 7302250; omega⟩ dL_law_450) (fun H locs _ hG => ?_)
  refine g_int (v := r) rfl ?_
  refine lv_icmp_eq (tgt := 1596) hx hb dL_law_453 (by decide) (fun _ => ?_) (fun q => absurd rfl q)
  refine W.widen (k := 1926 + 3 * (k + 1)) (n := 49660 + 603 * (k + 1)) (by omega) (by omega) ?_
  exact nx _ _ _ _ _ _ _ _ _ _ _ _ _ _ _ _ hG hI1 hl
set_option maxHeartbeats 8000000 in
set_option maxRecDepth 100000 in
theorem case_scan (h : LCX p l e s m below meth c Q E N b L xs ax an asx ay ap ar ai am ah aj ta tx ye xx yy nn ss ii pp rr hh jj mm k H locs ls) : W p l e room_1 s m #[Value.ref b] below meth c H locs (1926 + 3 * k) (49660 + 603 * k) Q (F0 m 458 ls []) := by
  obtain ⟨C, hz, hX, hbl, hL, hk, hN, hG, hI, hl, nx⟩ := h
  have hx := C.1.1
  have hb : c.code = cL_law := C.1.2.1
  have hbA : ¬ (fun q : Nat => s.heap.size ≤ q) b := Nat.not_le.mpr hbl
  obtain ⟨r, n1, h1, m1, e1, e2, hI1⟩ := T_scan hN hI (xs (6 * k + 1)) (xs (6 * k + 2))
  refine lv_aload_n hx hb dL_law_458 rfl (lv_at hl 1 rfl) ?_
  refine lv_aload_n hx hb dL_law_459 rfl (lv_at hl 0 rfl) ?_
  refine lv_iload_n hx hb dL_law_460 rfl (lv_at hl 3 rfl) ?_
  refine lv_iconst (v := 1) hx hb dL_law_461 (by decide) ?_
  refine lv_iadd hx hb dL_law_462 ?_
  refine g_int (v := nI (6 * k + 1)) (nI_add (6 * k) 1).symm ?_
  refine va_sld hx hb hX hbl hbA hG.2.2 (vp_in_nI (by omega) (by omega)) dL_law_463 ?_
  refine g_int (v := xs (6 * k + 1)) (congrArg xs (cl_nI (by omega)).symm) ?_
  refine lv_aload_n hx hb dL_law_464 rfl (lv_at hl 0 rfl) ?_
  refine lv_iload_n hx hb dL_law_465 rfl (lv_at hl 3 rfl) ?_
  refine lv_iconst (v := 2) hx hb dL_law_466 (by decide) ?_
  refine lv_iadd hx hb dL_law_467 ?_
  refine g_int (v := nI (6 * k + 2)) (nI_add (6 * k) 2).symm ?_
  refine va_sld hx hb hX hbl hbA hG.2.2 (vp_in_nI (by omega) (by omega)) dL_law_468 ?_
  refine g_int (v := xs (6 * k + 2)) (congrArg xs (cl_nI (by omega)).symm) ?_
  refine gF_i (ws' := (rX E ax an asx ay ap ar ai ah aj (tfOf ta tx) xx ++ (rY E ay ye yy ++ (rW E an n1 ++ (rW E asx ss ++ (rW E ai ii ++ (rP E ap pp ++ (rQ E ta tx ++ (rR E ar rr ++ (rH E ah h1 ++ (rH E aj jj ++ (rM E am mm ++ [])))))))))))) C hG (pin (pout (pin (pout (pout (pout (pout (pout (pin (pout (pout pnil))))))))))) (List.Perm.symm (pin (pout (pin (pout (pout (pout (pout (pout (pin (pout (pout pnil)))))))))))) (gR_VP (As := [.int (xs (6 * k + 1)), .int (xs (6 * k + 2))]) (rest := []) C hz hl.1 hG (pin (pout (pin (pout (pout (pout (pout (pout (pin (pout (pout pnil))))))))))) (c_X11_scan l E ax an asx ay ap ar ai ah aj (tfOf ta tx) N (xs (6 * k + 1)) (xs (6 * k + 2)) xx nn hh e1 H.size) okX11_scan q842 0 rfl rfl rfl (Nat.le_of_ble_eq_true rfl) ⟨Nat.le_of_ble_eq_true rfl, Nat.le_of_ble_eq_true rfl⟩ ⟨by show 1926 + 3 * k + 0 ≤ 600000; omega, by show 49660 + 603 * k + 0 ≤ 7302250; omega⟩ dL_law_469) (fun H locs _ hG => ?_)
  refine g_int (v := r) rfl ?_
  refine lv_aload_n hx hb dL_law_472 rfl (lv_at hl 2 rfl) ?_
  refine lv_aload_n hx hb dL_law_473 rfl (lv_at hl 0 rfl) ?_
  refine lv_iload_n hx hb dL_law_474 rfl (lv_at hl 3 rfl) ?_
  refine lv_iconst (v := 1) hx hb dL_law_475 (by decide) ?_
  refine lv_iadd hx hb dL_law_476 ?_
  refine g_int (v := nI (6 * k + 1)) (nI_add (6 * k) 1).symm ?_
  refine va_sld hx hb hX hbl hbA hG.2.2 (vp_in_nI (by omega) (by omega)) dL_law_477 ?_
  refine g_int (v := xs (6 * k + 1)) (congrArg xs (cl_nI (by omega)).symm) ?_
  refine lv_aload_n hx hb dL_law_478 rfl (lv_at hl 0 rfl) ?_
  refine lv_iload_n hx hb dL_law_479 rfl (lv_at hl 3 rfl) ?_
  refine lv_iconst (v := 2) hx hb dL_law_480 (by decide) ?_
  refine lv_iadd hx hb dL_law_481 ?_
  refine g_int (v := nI (6 * k + 2)) (nI_add (6 * k) 2).symm ?_
  refine va_sld hx hb hX hbl hbA hG.2.2 (vp_in_nI (by omega) (by omega)) dL_law_482 ?_
  refine g_int (v := xs (6 * k + 2)) (congrArg xs (cl_nI (by omega)).symm) ?_
  refine gF_i (ws' := (rX E ax an asx ay ap ar ai ah aj (tfOf ta tx) xx ++ (rY E ay ye yy ++ (rW E an n1 ++ (rW E asx ss ++ (rW E ai ii ++ (rP E ap pp ++ (rQ E ta tx ++ (rR E ar rr ++ (rH E ah h1 ++ (rH E aj jj ++ (rM E am m1 ++ [])))))))))))) C hG (pout (pout (pout (pout (pout (pout (pout (pout (pout (pout (pin pnil))))))))))) (List.Perm.symm (pout (pout (pout (pout (pout (pout (pout (pout (pout (pout (pin pnil)))))))))))) (gR_VP (As := [.int (xs (6 * k + 1)), .int (xs (6 * k + 2))]) (rest := [.int r]) C hz hl.1 hG (pout (pout (pout (pout (pout (pout (pout (pout (pout (pout (pin pnil))))))))))) (c_X12_scan l E am N (xs (6 * k + 1)) (xs (6 * k + 2)) mm e2 H.size) okX12_scan q1586 0 rfl rfl rfl (Nat.le_of_ble_eq_true rfl) ⟨Nat.le_of_ble_eq_true rfl, Nat.le_of_ble_eq_true rfl⟩ ⟨by show 1926 + 3 * k + 0 + 0 ≤ 600000; omega, by show 49660 + 603 * k + 0 + 0 ≤ 7302250; omega⟩ dL_law_483) (fun H locs _ hG => ?_)
  refine g_int (v := r) rfl ?_
  refine lv_icmp_eq (tgt := 1596) hx hb dL_law_486 (by decide) (fun _ => ?_) (fun q => absurd rfl q)
  refine W.widen (k := 1926 + 3 * (k + 1)) (n := 49660 + 603 * (k + 1)) (by omega) (by omega) ?_
  exact nx _ _ _ _ _ _ _ _ _ _ _ _ _ _ _ _ hG hI1 hl
set_option maxHeartbeats 8000000 in
set_option maxRecDepth 100000 in
theorem case_pin (h : LCX p l e s m below meth c Q E N b L xs ax an asx ay ap ar ai am ah aj ta tx ye xx yy nn ss ii pp rr hh jj mm k H locs ls) : W p l e room_1 s m #[Value.ref b] below meth c H locs (1926 + 3 * k) (49660 + 603 * k) Q (F0 m 491 ls []) := by
  obtain ⟨C, hz, hX, hbl, hL, hk, hN, hG, hI, hl, nx⟩ := h
  have hx := C.1.1
  have hb : c.code = cL_law := C.1.2.1
  have hbA : ¬ (fun q : Nat => s.heap.size ≤ q) b := Nat.not_le.mpr hbl
  obtain ⟨r, n1, h1, m1, e1, e2, hI1⟩ := T_pin hN hI (xs (6 * k + 1)) (xs (6 * k + 2))
  refine lv_aload_n hx hb dL_law_491 rfl (lv_at hl 1 rfl) ?_
  refine lv_aload_n hx hb dL_law_492 rfl (lv_at hl 0 rfl) ?_
  refine lv_iload_n hx hb dL_law_493 rfl (lv_at hl 3 rfl) ?_
  refine lv_iconst (v := 1) hx hb dL_law_494 (by decide) ?_
  refine lv_iadd hx hb dL_law_495 ?_
  refine g_int (v := nI (6 * k + 1)) (nI_add (6 * k) 1).symm ?_
  refine va_sld hx hb hX hbl hbA hG.2.2 (vp_in_nI (by omega) (by omega)) dL_law_496 ?_
  refine g_int (v := xs (6 * k + 1)) (congrArg xs (cl_nI (by omega)).symm) ?_
  refine lv_aload_n hx hb dL_law_497 rfl (lv_at hl 0 rfl) ?_
  refine lv_iload_n hx hb dL_law_498 rfl (lv_at hl 3 rfl) ?_
  refine lv_iconst (v := 2) hx hb dL_law_499 (by decide) ?_
  refine lv_iadd hx hb dL_law_500 ?_
  refine g_int (v := nI (6 * k + 2)) (nI_add (6 * k) 2).symm ?_
  refine va_sld hx hb hX hbl hbA hG.2.2 (vp_in_nI (by omega) (by omega)) dL_law_501 ?_
  refine g_int (v := xs (6 * k + 2)) (congrArg xs (cl_nI (by omega)).symm) ?_
  refine gF_i (ws' := (rX E ax an asx ay ap ar ai ah aj (tfOf ta tx) xx ++ (rY E ay ye yy ++ (rW E an n1 ++ (rW E asx ss ++ (rW E ai ii ++ (rP E ap pp ++ (rQ E ta tx ++ (rR E ar rr ++ (rH E ah h1 ++ (rH E aj jj ++ (rM E am mm ++ [])))))))))))) C hG (pin (pout (pin (pout (pout (pout (pout (pout (pin (pout (pout pnil))))))))))) (List.Perm.symm (pin (pout (pin (pout (pout (pout (pout (pout (pin (pout (pout pnil)))))))))))) (gR_VP (As := [.int (xs (6 * k + 1)), .int (xs (6 * k + 2))]) (rest := []) C hz hl.1 hG (pin (pout (pin (pout (pout (pout (pout (pout (pin (pout (pout pnil))))))))))) (c_X11_pin l E ax an asx ay ap ar ai ah aj (tfOf ta tx) N (xs (6 * k + 1)) (xs (6 * k + 2)) xx nn hh e1 H.size) okX11_pin q852 0 rfl rfl rfl (Nat.le_of_ble_eq_true rfl) ⟨Nat.le_of_ble_eq_true rfl, Nat.le_of_ble_eq_true rfl⟩ ⟨by show 1926 + 3 * k + 0 ≤ 600000; omega, by show 49660 + 603 * k + 0 ≤ 7302250; omega⟩ dL_law_502) (fun H locs _ hG => ?_)
  refine g_int (v := r) rfl ?_
  refine lv_aload_n hx hb dL_law_505 rfl (lv_at hl 2 rfl) ?_
  refine lv_aload_n hx hb dL_law_506 rfl (lv_at hl 0 rfl) ?_
  refine lv_iload_n hx hb dL_law_507 rfl (lv_at hl 3 rfl) ?_
  refine lv_iconst (v := 1) hx hb dL_law_508 (by decide) ?_
  refine lv_iadd hx hb dL_law_509 ?_
  refine g_int (v := nI (6 * k + 1)) (nI_add (6 * k) 1).symm ?_
  refine va_sld hx hb hX hbl hbA hG.2.2 (vp_in_nI (by omega) (by omega)) dL_law_510 ?_
  refine g_int (v := xs (6 * k + 1)) (congrArg xs (cl_nI (by omega)).symm) ?_
  refine lv_aload_n hx hb dL_law_511 rfl (lv_at hl 0 rfl) ?_
  refine lv_iload_n hx hb dL_law_512 rfl (lv_at hl 3 rfl) ?_
  refine lv_iconst (v := 2) hx hb dL_law_513 (by decide) ?_
  refine lv_iadd hx hb dL_law_514 ?_
  refine g_int (v := nI (6 * k + 2)) (nI_add (6 * k) 2).symm ?_
  refine va_sld hx hb hX hbl hbA hG.2.2 (vp_in_nI (by omega) (by omega)) dL_law_515 ?_
  refine g_int (v := xs (6 * k + 2)) (congrArg xs (cl_nI (by omega)).symm) ?_
  refine gF_i (ws' := (rX E ax an asx ay ap ar ai ah aj (tfOf ta tx) xx ++ (rY E ay ye yy ++ (rW E an n1 ++ (rW E asx ss ++ (rW E ai ii ++ (rP E ap pp ++ (rQ E ta tx ++ (rR E ar rr ++ (rH E ah h1 ++ (rH E aj jj ++ (rM E am m1 ++ [])))))))))))) C hG (pout (pout (pout (pout (pout (pout (pout (pout (pout (pout (pin pnil))))))))))) (List.Perm.symm (pout (pout (pout (pout (pout (pout (pout (pout (pout (pout (pin pnil)))))))))))) (gR_VP (As := [.int (xs (6 * k + 1)), .int (xs (6 * k + 2))]) (rest := [.int r]) C hz hl.1 hG (pout (pout (pout (pout (pout (pout (pout (pout (pout (pout (pin pnil))))))))))) (c_X12_pin l E am N (xs (6 * k + 1)) (xs (6 * k + 2)) mm e2 H.size) okX12_pin q1594 0 rfl rfl rfl (Nat.le_of_ble_eq_true rfl) ⟨Nat.le_of_ble_eq_true rfl, Nat.le_of_ble_eq_true rfl⟩ ⟨by show 1926 + 3 * k + 0 + 0 ≤ 600000; omega, by show 49660 + 603 * k + 0 + 0 ≤ 7302250; omega⟩ dL_law_516) (fun H locs _ hG => ?_)
  refine g_int (v := r) rfl ?_
  refine lv_icmp_eq (tgt := 1596) hx hb dL_law_519 (by decide) (fun _ => ?_) (fun q => absurd rfl q)
  refine W.widen (k := 1926 + 3 * (k + 1)) (n := 49660 + 603 * (k + 1)) (by omega) (by omega) ?_
  exact nx _ _ _ _ _ _ _ _ _ _ _ _ _ _ _ _ hG hI1 hl
set_option maxHeartbeats 8000000 in
set_option maxRecDepth 100000 in
theorem case_tell (h : LCX p l e s m below meth c Q E N b L xs ax an asx ay ap ar ai am ah aj ta tx ye xx yy nn ss ii pp rr hh jj mm k H locs ls) : W p l e room_1 s m #[Value.ref b] below meth c H locs (1926 + 3 * k) (49660 + 603 * k) Q (F0 m 524 ls []) := by
  obtain ⟨C, hz, hX, hbl, hL, hk, hN, hG, hI, hl, nx⟩ := h
  have hx := C.1.1
  have hb : c.code = cL_law := C.1.2.1
  have hbA : ¬ (fun q : Nat => s.heap.size ≤ q) b := Nat.not_le.mpr hbl
  obtain ⟨r, n1, h1, m1, e1, e2, hI1⟩ := T_tell hN hI (xs (6 * k + 1)) (xs (6 * k + 2))
  refine lv_aload_n hx hb dL_law_524 rfl (lv_at hl 1 rfl) ?_
  refine lv_aload_n hx hb dL_law_525 rfl (lv_at hl 0 rfl) ?_
  refine lv_iload_n hx hb dL_law_526 rfl (lv_at hl 3 rfl) ?_
  refine lv_iconst (v := 1) hx hb dL_law_527 (by decide) ?_
  refine lv_iadd hx hb dL_law_528 ?_
  refine g_int (v := nI (6 * k + 1)) (nI_add (6 * k) 1).symm ?_
  refine va_sld hx hb hX hbl hbA hG.2.2 (vp_in_nI (by omega) (by omega)) dL_law_529 ?_
  refine g_int (v := xs (6 * k + 1)) (congrArg xs (cl_nI (by omega)).symm) ?_
  refine lv_aload_n hx hb dL_law_530 rfl (lv_at hl 0 rfl) ?_
  refine lv_iload_n hx hb dL_law_531 rfl (lv_at hl 3 rfl) ?_
  refine lv_iconst (v := 2) hx hb dL_law_532 (by decide) ?_
  refine lv_iadd hx hb dL_law_533 ?_
  refine g_int (v := nI (6 * k + 2)) (nI_add (6 * k) 2).symm ?_
  refine va_sld hx hb hX hbl hbA hG.2.2 (vp_in_nI (by omega) (by omega)) dL_law_534 ?_
  refine g_int (v := xs (6 * k + 2)) (congrArg xs (cl_nI (by omega)).symm) ?_
  refine gF_i (ws' := (rX E ax an asx ay ap ar ai ah aj (tfOf ta tx) xx ++ (rY E ay ye yy ++ (rW E an n1 ++ (rW E asx ss ++ (rW E ai ii ++ (rP E ap pp ++ (rQ E ta tx ++ (rR E ar rr ++ (rH E ah h1 ++ (rH E aj jj ++ (rM E am mm ++ [])))))))))))) C hG (pin (pout (pin (pout (pout (pout (pout (pout (pin (pout (pout pnil))))))))))) (List.Perm.symm (pin (pout (pin (pout (pout (pout (pout (pout (pin (pout (pout pnil)))))))))))) (gR_VP (As := [.int (xs (6 * k + 1)), .int (xs (6 * k + 2))]) (rest := []) C hz hl.1 hG (pin (pout (pin (pout (pout (pout (pout (pout (pin (pout (pout pnil))))))))))) (c_X11_tell l E ax an asx ay ap ar ai ah aj (tfOf ta tx) N (xs (6 * k + 1)) (xs (6 * k + 2)) xx nn hh e1 H.size) okX11_tell q864 0 rfl rfl rfl (Nat.le_of_ble_eq_true rfl) ⟨Nat.le_of_ble_eq_true rfl, Nat.le_of_ble_eq_true rfl⟩ ⟨by show 1926 + 3 * k + 0 ≤ 600000; omega, by show 49660 + 603 * k + 0 ≤ 7302250; omega⟩ dL_law_535) (fun H locs _ hG => ?_)
  refine g_int (v := r) rfl ?_
  refine lv_aload_n hx hb dL_law_538 rfl (lv_at hl 2 rfl) ?_
  refine lv_aload_n hx hb dL_law_539 rfl (lv_at hl 0 rfl) ?_
  refine lv_iload_n hx hb dL_law_540 rfl (lv_at hl 3 rfl) ?_
  refine lv_iconst (v := 1) hx hb dL_law_541 (by decide) ?_
  refine lv_iadd hx hb dL_law_542 ?_
  refine g_int (v := nI (6 * k + 1)) (nI_add (6 * k) 1).symm ?_
  refine va_sld hx hb hX hbl hbA hG.2.2 (vp_in_nI (by omega) (by omega)) dL_law_543 ?_
  refine g_int (v := xs (6 * k + 1)) (congrArg xs (cl_nI (by omega)).symm) ?_
  refine lv_aload_n hx hb dL_law_544 rfl (lv_at hl 0 rfl) ?_
  refine lv_iload_n hx hb dL_law_545 rfl (lv_at hl 3 rfl) ?_
  refine lv_iconst (v := 2) hx hb dL_law_546 (by decide) ?_
  refine lv_iadd hx hb dL_law_547 ?_
  refine g_int (v := nI (6 * k + 2)) (nI_add (6 * k) 2).symm ?_
  refine va_sld hx hb hX hbl hbA hG.2.2 (vp_in_nI (by omega) (by omega)) dL_law_548 ?_
  refine g_int (v := xs (6 * k + 2)) (congrArg xs (cl_nI (by omega)).symm) ?_
  refine gF_i (ws' := (rX E ax an asx ay ap ar ai ah aj (tfOf ta tx) xx ++ (rY E ay ye yy ++ (rW E an n1 ++ (rW E asx ss ++ (rW E ai ii ++ (rP E ap pp ++ (rQ E ta tx ++ (rR E ar rr ++ (rH E ah h1 ++ (rH E aj jj ++ (rM E am m1 ++ [])))))))))))) C hG (pout (pout (pout (pout (pout (pout (pout (pout (pout (pout (pin pnil))))))))))) (List.Perm.symm (pout (pout (pout (pout (pout (pout (pout (pout (pout (pout (pin pnil)))))))))))) (gR_VP (As := [.int (xs (6 * k + 1)), .int (xs (6 * k + 2))]) (rest := [.int r]) C hz hl.1 hG (pout (pout (pout (pout (pout (pout (pout (pout (pout (pout (pin pnil))))))))))) (c_X12_tell l E am N (xs (6 * k + 1)) (xs (6 * k + 2)) mm e2 H.size) okX12_tell q1602 0 rfl rfl rfl (Nat.le_of_ble_eq_true rfl) ⟨Nat.le_of_ble_eq_true rfl, Nat.le_of_ble_eq_true rfl⟩ ⟨by show 1926 + 3 * k + 0 + 0 ≤ 600000; omega, by show 49660 + 603 * k + 0 + 0 ≤ 7302250; omega⟩ dL_law_549) (fun H locs _ hG => ?_)
  refine g_int (v := r) rfl ?_
  refine lv_icmp_eq (tgt := 1596) hx hb dL_law_552 (by decide) (fun _ => ?_) (fun q => absurd rfl q)
  refine W.widen (k := 1926 + 3 * (k + 1)) (n := 49660 + 603 * (k + 1)) (by omega) (by omega) ?_
  exact nx _ _ _ _ _ _ _ _ _ _ _ _ _ _ _ _ hG hI1 hl
set_option maxHeartbeats 8000000 in
set_option maxRecDepth 100000 in
theorem case_ask (h : LCX p l e s m below meth c Q E N b L xs ax an asx ay ap ar ai am ah aj ta tx ye xx yy nn ss ii pp rr hh jj mm k H locs ls) : W p l e room_1 s m #[Value.ref b] below meth c H locs (1926 + 3 * k) (49660 + 603 * k) Q (F0 m 557 ls []) := by
  obtain ⟨C, hz, hX, hbl, hL, hk, hN, hG, hI, hl, nx⟩ := h
  have hx := C.1.1
  have hb : c.code = cL_law := C.1.2.1
  have hbA : ¬ (fun q : Nat => s.heap.size ≤ q) b := Nat.not_le.mpr hbl
  obtain ⟨r, n1, h1, m1, e1, e2, hI1⟩ := T_ask hN hI (xs (6 * k + 1))
  refine lv_aload_n hx hb dL_law_557 rfl (lv_at hl 1 rfl) ?_
  refine lv_aload_n hx hb dL_law_558 rfl (lv_at hl 0 rfl) ?_
  refine lv_iload_n hx hb dL_law_559 rfl (lv_at hl 3 rfl) ?_
  refine lv_iconst (v := 1) hx hb dL_law_560 (by decide) ?_
  refine lv_iadd hx hb dL_law_561 ?_
  refine g_int (v := nI (6 * k + 1)) (nI_add (6 * k) 1).symm ?_
  refine va_sld hx hb hX hbl hbA hG.2.2 (vp_in_nI (by omega) (by omega)) dL_law_562 ?_
  refine g_int (v := xs (6 * k + 1)) (congrArg xs (cl_nI (by omega)).symm) ?_
  refine gF_i (ws' := (rX E ax an asx ay ap ar ai ah aj (tfOf ta tx) xx ++ (rY E ay ye yy ++ (rW E an n1 ++ (rW E asx ss ++ (rW E ai ii ++ (rP E ap pp ++ (rQ E ta tx ++ (rR E ar rr ++ (rH E ah h1 ++ (rH E aj jj ++ (rM E am mm ++ [])))))))))))) C hG (pin (pout (pin (pout (pout (pout (pout (pout (pin (pout (pout pnil))))))))))) (List.Perm.symm (pin (pout (pin (pout (pout (pout (pout (pout (pin (pout (pout pnil)))))))))))) (gR_VP (As := [.int (xs (6 * k + 1))]) (rest := []) C hz hl.1 hG (pin (pout (pin (pout (pout (pout (pout (pout (pin (pout (pout pnil))))))))))) (c_X11_ask l E ax an asx ay ap ar ai ah aj (tfOf ta tx) N (xs (6 * k + 1)) xx nn hh e1 H.size) okX11_ask q871 0 rfl rfl rfl (Nat.le_of_ble_eq_true rfl) ⟨Nat.le_of_ble_eq_true rfl, Nat.le_of_ble_eq_true rfl⟩ ⟨by show 1926 + 3 * k + 0 ≤ 600000; omega, by show 49660 + 603 * k + 0 ≤ 7302250; omega⟩ dL_law_563) (fun H locs _ hG => ?_)
  refine g_int (v := r) rfl ?_
  refine lv_aload_n hx hb dL_law_566 rfl (lv_at hl 2 rfl) ?_
  refine lv_aload_n hx hb dL_law_567 rfl (lv_at hl 0 rfl) ?_
  refine lv_iload_n hx hb dL_law_568 rfl (lv_at hl 3 rfl) ?_
  refine lv_iconst (v := 1) hx hb dL_law_569 (by decide) ?_
  refine lv_iadd hx hb dL_law_570 ?_
  refine g_int (v := nI (6 * k + 1)) (nI_add (6 * k) 1).symm ?_
  refine va_sld hx hb hX hbl hbA hG.2.2 (vp_in_nI (by omega) (by omega)) dL_law_571 ?_
  refine g_int (v := xs (6 * k + 1)) (congrArg xs (cl_nI (by omega)).symm) ?_
  refine gF_i (ws' := (rX E ax an asx ay ap ar ai ah aj (tfOf ta tx) xx ++ (rY E ay ye yy ++ (rW E an n1 ++ (rW E asx ss ++ (rW E ai ii ++ (rP E ap pp ++ (rQ E ta tx ++ (rR E ar rr ++ (rH E ah h1 ++ (rH E aj jj ++ (rM E am m1 ++ [])))))))))))) C hG (pout (pout (pout (pout (pout (pout (pout (pout (pout (pout (pin pnil))))))))))) (List.Perm.symm (pout (pout (pout (pout (pout (pout (pout (pout (pout (pout (pin pnil)))))))))))) (gR_VP (As := [.int (xs (6 * k + 1))]) (rest := [.int r]) C hz hl.1 hG (pout (pout (pout (pout (pout (pout (pout (pout (pout (pout (pin pnil))))))))))) (c_X12_ask l E am N (xs (6 * k + 1)) mm e2 H.size) okX12_ask q1606 0 rfl rfl rfl (Nat.le_of_ble_eq_true rfl) ⟨Nat.le_of_ble_eq_true rfl, Nat.le_of_ble_eq_true rfl⟩ ⟨by show 1926 + 3 * k + 0 + 0 ≤ 600000; omega, by show 49660 + 603 * k + 0 + 0 ≤ 7302250; omega⟩ dL_law_572) (fun H locs _ hG => ?_)
  refine g_int (v := r) rfl ?_
  refine lv_icmp_eq (tgt := 1596) hx hb dL_law_575 (by decide) (fun _ => ?_) (fun q => absurd rfl q)
  refine W.widen (k := 1926 + 3 * (k + 1)) (n := 49660 + 603 * (k + 1)) (by omega) (by omega) ?_
  exact nx _ _ _ _ _ _ _ _ _ _ _ _ _ _ _ _ hG hI1 hl
set_option maxHeartbeats 8000000 in
set_option maxRecDepth 100000 in
theorem case_drop (h : LCX p l e s m below meth c Q E N b L xs ax an asx ay ap ar ai am ah aj ta tx ye xx yy nn ss ii pp rr hh jj mm k H locs ls) : W p l e room_1 s m #[Value.ref b] below meth c H locs (1926 + 3 * k) (49660 + 603 * k) Q (F0 m 580 ls []) := by
  obtain ⟨C, hz, hX, hbl, hL, hk, hN, hG, hI, hl, nx⟩ := h
  have hx := C.1.1
  have hb : c.code = cL_law := C.1.2.1
  have hbA : ¬ (fun q : Nat => s.heap.size ≤ q) b := Nat.not_le.mpr hbl
  obtain ⟨r, n1, h1, m1, e1, e2, hI1⟩ := T_drop hN hI (xs (6 * k + 1))
  refine lv_aload_n hx hb dL_law_580 rfl (lv_at hl 1 rfl) ?_
  refine lv_aload_n hx hb dL_law_581 rfl (lv_at hl 0 rfl) ?_
  refine lv_iload_n hx hb dL_law_582 rfl (lv_at hl 3 rfl) ?_
  refine lv_iconst (v := 1) hx hb dL_law_583 (by decide) ?_
  refine lv_iadd hx hb dL_law_584 ?_
  refine g_int (v := nI (6 * k + 1)) (nI_add (6 * k) 1).symm ?_
  refine va_sld hx hb hX hbl hbA hG.2.2 (vp_in_nI (by omega) (by omega)) dL_law_585 ?_
  refine g_int (v := xs (6 * k + 1)) (congrArg xs (cl_nI (by omega)).symm) ?_
  refine gF_i (ws' := (rX E ax an asx ay ap ar ai ah aj (tfOf ta tx) xx ++ (rY E ay ye yy ++ (rW E an n1 ++ (rW E asx ss ++ (rW E ai ii ++ (rP E ap pp ++ (rQ E ta tx ++ (rR E ar rr ++ (rH E ah h1 ++ (rH E aj jj ++ (rM E am mm ++ [])))))))))))) C hG (pin (pout (pin (pout (pout (pout (pout (pout (pin (pout (pout pnil))))))))))) (List.Perm.symm (pin (pout (pin (pout (pout (pout (pout (pout (pin (pout (pout pnil)))))))))))) (gR_VP (As := [.int (xs (6 * k + 1))]) (rest := []) C hz hl.1 hG (pin (pout (pin (pout (pout (pout (pout (pout (pin (pout (pout pnil))))))))))) (c_X11_drop l E ax an asx ay ap ar ai ah aj (tfOf ta tx) N (xs (6 * k + 1)) xx nn hh e1 H.size) okX11_drop q880 0 rfl rfl rfl (Nat.le_of_ble_eq_true rfl) ⟨Nat.le_of_ble_eq_true rfl, Nat.le_of_ble_eq_true rfl⟩ ⟨by show 1926 + 3 * k + 0 ≤ 600000; omega, by show 49660 + 603 * k + 0 ≤ 7302250; omega⟩ dL_law_586) (fun H locs _ hG => ?_)
  refine g_int (v := r) rfl ?_
  refine lv_aload_n hx hb dL_law_589 rfl (lv_at hl 2 rfl) ?_
  refine lv_aload_n hx hb dL_law_590 rfl (lv_at hl 0 rfl) ?_
  refine lv_iload_n hx hb dL_law_591 rfl (lv_at hl 3 rfl) ?_
  refine lv_iconst (v := 1) hx hb dL_law_592 (by decide) ?_
  refine lv_iadd hx hb dL_law_593 ?_
  refine g_int (v := nI (6 * k + 1)) (nI_add (6 * k) 1).symm ?_
  refine va_sld hx hb hX hbl hbA hG.2.2 (vp_in_nI (by omega) (by omega)) dL_law_594 ?_
  refine g_int (v := xs (6 * k + 1)) (congrArg xs (cl_nI (by omega)).symm) ?_
  refine gF_i (ws' := (rX E ax an asx ay ap ar ai ah aj (tfOf ta tx) xx ++ (rY E ay ye yy ++ (rW E an n1 ++ (rW E asx ss ++ (rW E ai ii ++ (rP E ap pp ++ (rQ E ta tx ++ (rR E ar rr ++ (rH E ah h1 ++ (rH E aj jj ++ (rM E am m1 ++ [])))))))))))) C hG (pout (pout (pout (pout (pout (pout (pout (pout (pout (pout (pin pnil))))))))))) (List.Perm.symm (pout (pout (pout (pout (pout (pout (pout (pout (pout (pout (pin pnil)))))))))))) (gR_VP (As := [.int (xs (6 * k + 1))]) (rest := [.int r]) C hz hl.1 hG (pout (pout (pout (pout (pout (pout (pout (pout (pout (pout (pin pnil))))))))))) (c_X12_drop l E am N (xs (6 * k + 1)) mm e2 H.size) okX12_drop q1614 0 rfl rfl rfl (Nat.le_of_ble_eq_true rfl) ⟨Nat.le_of_ble_eq_true rfl, Nat.le_of_ble_eq_true rfl⟩ ⟨by show 1926 + 3 * k + 0 + 0 ≤ 600000; omega, by show 49660 + 603 * k + 0 + 0 ≤ 7302250; omega⟩ dL_law_595) (fun H locs _ hG => ?_)
  refine g_int (v := r) rfl ?_
  refine lv_icmp_eq (tgt := 1596) hx hb dL_law_598 (by decide) (fun _ => ?_) (fun q => absurd rfl q)
  refine W.widen (k := 1926 + 3 * (k + 1)) (n := 49660 + 603 * (k + 1)) (by omega) (by omega) ?_
  exact nx _ _ _ _ _ _ _ _ _ _ _ _ _ _ _ _ hG hI1 hl
set_option maxHeartbeats 8000000 in
set_option maxRecDepth 100000 in
theorem case_day (h : LCX p l e s m below meth c Q E N b L xs ax an asx ay ap ar ai am ah aj ta tx ye xx yy nn ss ii pp rr hh jj mm k H locs ls) : W p l e room_1 s m #[Value.ref b] below meth c H locs (1926 + 3 * k) (49660 + 603 * k) Q (F0 m 603 ls []) := by
  obtain ⟨C, hz, hX, hbl, hL, hk, hN, hG, hI, hl, nx⟩ := h
  have hx := C.1.1
  have hb : c.code = cL_law := C.1.2.1
  have hbA : ¬ (fun q : Nat => s.heap.size ≤ q) b := Nat.not_le.mpr hbl
  obtain ⟨r, n1, p1, h1, m1, e1, e2, hI1⟩ := T_day (pp := pp) hN hI (xs (6 * k + 1))
  refine lv_aload_n hx hb dL_law_603 rfl (lv_at hl 1 rfl) ?_
  refine lv_aload_n hx hb dL_law_604 rfl (lv_at hl 0 rfl) ?_
  refine lv_iload_n hx hb dL_law_605 rfl (lv_at hl 3 rfl) ?_
  refine lv_iconst (v := 1) hx hb dL_law_606 (by decide) ?_
  refine lv_iadd hx hb dL_law_607 ?_
  refine g_int (v := nI (6 * k + 1)) (nI_add (6 * k) 1).symm ?_
  refine va_sld hx hb hX hbl hbA hG.2.2 (vp_in_nI (by omega) (by omega)) dL_law_608 ?_
  refine g_int (v := xs (6 * k + 1)) (congrArg xs (cl_nI (by omega)).symm) ?_
  refine gF_i (ws' := (rX E ax an asx ay ap ar ai ah aj (tfOf ta tx) xx ++ (rY E ay ye yy ++ (rW E an n1 ++ (rW E asx ss ++ (rW E ai ii ++ (rP E ap p1 ++ (rQ E ta tx ++ (rR E ar rr ++ (rH E ah h1 ++ (rH E aj jj ++ (rM E am mm ++ [])))))))))))) C hG (pin (pout (pin (pout (pout (pin (pout (pout (pin (pout (pout pnil))))))))))) (List.Perm.symm (pin (pout (pin (pout (pout (pin (pout (pout (pin (pout (pout pnil)))))))))))) (gR_VP (As := [.int (xs (6 * k + 1))]) (rest := []) C hz hl.1 hG (pin (pout (pin (pout (pout (pin (pout (pout (pin (pout (pout pnil))))))))))) (c_X11_day l E ax an asx ay ap ar ai ah aj (tfOf ta tx) N (xs (6 * k + 1)) xx nn pp hh e1 H.size) okX11_day q903 0 rfl rfl rfl (Nat.le_of_ble_eq_true rfl) ⟨Nat.le_of_ble_eq_true rfl, Nat.le_of_ble_eq_true rfl⟩ ⟨by show 1926 + 3 * k + 0 ≤ 600000; omega, by show 49660 + 603 * k + 0 ≤ 7302250; omega⟩ dL_law_609) (fun H locs _ hG => ?_)
  refine g_int (v := r) rfl ?_
  refine lv_aload_n hx hb dL_law_612 rfl (lv_at hl 2 rfl) ?_
  refine lv_aload_n hx hb dL_law_613 rfl (lv_at hl 0 rfl) ?_
  refine lv_iload_n hx hb dL_law_614 rfl (lv_at hl 3 rfl) ?_
  refine lv_iconst (v := 1) hx hb dL_law_615 (by decide) ?_
  refine lv_iadd hx hb dL_law_616 ?_
  refine g_int (v := nI (6 * k + 1)) (nI_add (6 * k) 1).symm ?_
  refine va_sld hx hb hX hbl hbA hG.2.2 (vp_in_nI (by omega) (by omega)) dL_law_617 ?_
  refine g_int (v := xs (6 * k + 1)) (congrArg xs (cl_nI (by omega)).symm) ?_
  refine gF_i (ws' := (rX E ax an asx ay ap ar ai ah aj (tfOf ta tx) xx ++ (rY E ay ye yy ++ (rW E an n1 ++ (rW E asx ss ++ (rW E ai ii ++ (rP E ap p1 ++ (rQ E ta tx ++ (rR E ar rr ++ (rH E ah h1 ++ (rH E aj jj ++ (rM E am m1 ++ [])))))))))))) C hG (pout (pout (pout (pout (pout (pout (pout (pout (pout (pout (pin pnil))))))))))) (List.Perm.symm (pout (pout (pout (pout (pout (pout (pout (pout (pout (pout (pin pnil)))))))))))) (gR_VP (As := [.int (xs (6 * k + 1))]) (rest := [.int r]) C hz hl.1 hG (pout (pout (pout (pout (pout (pout (pout (pout (pout (pout (pin pnil))))))))))) (c_X12_day l E am N (xs (6 * k + 1)) mm e2 H.size) okX12_day q1634 0 rfl rfl rfl (Nat.le_of_ble_eq_true rfl) ⟨Nat.le_of_ble_eq_true rfl, Nat.le_of_ble_eq_true rfl⟩ ⟨by show 1926 + 3 * k + 0 + 0 ≤ 600000; omega, by show 49660 + 603 * k + 0 + 0 ≤ 7302250; omega⟩ dL_law_618) (fun H locs _ hG => ?_)
  refine g_int (v := r) rfl ?_
  refine lv_icmp_eq (tgt := 1596) hx hb dL_law_621 (by decide) (fun _ => ?_) (fun q => absurd rfl q)
  refine W.widen (k := 1926 + 3 * (k + 1)) (n := 49660 + 603 * (k + 1)) (by omega) (by omega) ?_
  exact nx _ _ _ _ _ _ _ _ _ _ _ _ _ _ _ _ hG hI1 hl
set_option maxHeartbeats 8000000 in
set_option maxRecDepth 100000 in
theorem case_crash (h : LCX p l e s m below meth c Q E N b L xs ax an asx ay ap ar ai am ah aj ta tx ye xx yy nn ss ii pp rr hh jj mm k H locs ls) : W p l e room_1 s m #[Value.ref b] below meth c H locs (1926 + 3 * k) (49660 + 603 * k) Q (F0 m 626 ls []) := by
  obtain ⟨C, hz, hX, hbl, hL, hk, hN, hG, hI, hl, nx⟩ := h
  have hx := C.1.1
  have hb : c.code = cL_law := C.1.2.1
  have hbA : ¬ (fun q : Nat => s.heap.size ≤ q) b := Nat.not_le.mpr hbl
  obtain ⟨r, n1, h1, m1, e1, e2, hI1⟩ := T_crash hN hI
  refine lv_aload_n hx hb dL_law_626 rfl (lv_at hl 1 rfl) ?_
  refine gF_i (ws' := (rX E ax an asx ay ap ar ai ah aj (tfOf ta tx) xx ++ (rY E ay ye yy ++ (rW E an n1 ++ (rW E asx ss ++ (rW E ai ii ++ (rP E ap pp ++ (rQ E ta tx ++ (rR E ar rr ++ (rH E ah h1 ++ (rH E aj jj ++ (rM E am mm ++ [])))))))))))) C hG (pin (pout (pin (pout (pout (pout (pout (pout (pin (pout (pout pnil))))))))))) (List.Perm.symm (pin (pout (pin (pout (pout (pout (pout (pout (pin (pout (pout pnil)))))))))))) (gR_VP (As := []) (rest := []) C hz hl.1 hG (pin (pout (pin (pout (pout (pout (pout (pout (pin (pout (pout pnil))))))))))) (c_X11_crash l E ax an asx ay ap ar ai ah aj (tfOf ta tx) N xx nn hh e1 H.size) okX11_crash q1017 0 rfl rfl rfl (Nat.le_of_ble_eq_true rfl) ⟨Nat.le_of_ble_eq_true rfl, Nat.le_of_ble_eq_true rfl⟩ ⟨by show 1926 + 3 * k + 0 ≤ 600000; omega, by show 49660 + 603 * k + 0 ≤ 7302250; omega⟩ dL_law_627) (fun H locs _ hG => ?_)
  refine g_int (v := r) rfl ?_
  refine lv_aload_n hx hb dL_law_630 rfl (lv_at hl 2 rfl) ?_
  refine gF_i (ws' := (rX E ax an asx ay ap ar ai ah aj (tfOf ta tx) xx ++ (rY E ay ye yy ++ (rW E an n1 ++ (rW E asx ss ++ (rW E ai ii ++ (rP E ap pp ++ (rQ E ta tx ++ (rR E ar rr ++ (rH E ah h1 ++ (rH E aj jj ++ (rM E am m1 ++ [])))))))))))) C hG (pout (pout (pout (pout (pout (pout (pout (pout (pout (pout (pin pnil))))))))))) (List.Perm.symm (pout (pout (pout (pout (pout (pout (pout (pout (pout (pout (pin pnil)))))))))))) (gR_VP (As := []) (rest := [.int r]) C hz hl.1 hG (pout (pout (pout (pout (pout (pout (pout (pout (pout (pout (pin pnil))))))))))) (c_X12_crash l E am N mm e2 H.size) okX12_crash q1722 0 rfl rfl rfl (Nat.le_of_ble_eq_true rfl) ⟨Nat.le_of_ble_eq_true rfl, Nat.le_of_ble_eq_true rfl⟩ ⟨by show 1926 + 3 * k + 0 + 0 ≤ 600000; omega, by show 49660 + 603 * k + 0 + 0 ≤ 7302250; omega⟩ dL_law_631) (fun H locs _ hG => ?_)
  refine g_int (v := r) rfl ?_
  refine lv_icmp_eq (tgt := 1596) hx hb dL_law_634 (by decide) (fun _ => ?_) (fun q => absurd rfl q)
  refine W.widen (k := 1926 + 3 * (k + 1)) (n := 49660 + 603 * (k + 1)) (by omega) (by omega) ?_
  exact nx _ _ _ _ _ _ _ _ _ _ _ _ _ _ _ _ hG hI1 hl
set_option maxHeartbeats 8000000 in
set_option maxRecDepth 100000 in
theorem case_played (h : LCX p l e s m below meth c Q E N b L xs ax an asx ay ap ar ai am ah aj ta tx ye xx yy nn ss ii pp rr hh jj mm k H locs ls) : W p l e room_1 s m #[Value.ref b] below meth c H locs (1926 + 3 * k) (49660 + 603 * k) Q (F0 m 639 ls []) := by
  obtain ⟨C, hz, hX, hbl, hL, hk, hN, hG, hI, hl, nx⟩ := h
  have hx := C.1.1
  have hb : c.code = cL_law := C.1.2.1
  have hbA : ¬ (fun q : Nat => s.heap.size ≤ q) b := Nat.not_le.mpr hbl
  rcases T_played (yy := yy) (pp := pp) hN hI ta (xs (6 * k + 1)) with ⟨g1, e2⟩ | ⟨j, q, r, y1, n1, p1, h1, m1, hj, ht, g1, g2, g3, e2, hI1⟩
  · have hI1 := hI.le (L := 16200 * k + 16200) (by omega)
    refine lv_aload_n hx hb dL_law_639 rfl (lv_at hl 1 rfl) ?_
    refine lv_aload_n hx hb dL_law_640 rfl (lv_at hl 0 rfl) ?_
    refine lv_iload_n hx hb dL_law_641 rfl (lv_at hl 3 rfl) ?_
    refine lv_iconst (v := 1) hx hb dL_law_642 (by decide) ?_
    refine lv_iadd hx hb dL_law_643 ?_
    refine g_int (v := nI (6 * k + 1)) (nI_add (6 * k) 1).symm ?_
    refine va_sld hx hb hX hbl hbA hG.2.2 (vp_in_nI (by omega) (by omega)) dL_law_644 ?_
    refine g_int (v := xs (6 * k + 1)) (congrArg xs (cl_nI (by omega)).symm) ?_
    refine gF_i (ws' := (rX E ax an asx ay ap ar ai ah aj (tfOf ta tx) xx ++ (rY E ay ye yy ++ (rW E an nn ++ (rW E asx ss ++ (rW E ai ii ++ (rP E ap pp ++ (rQ E ta tx ++ (rR E ar rr ++ (rH E ah hh ++ (rH E aj jj ++ (rM E am mm ++ [])))))))))))) C hG (pin (pout (pout (pout (pout (pout (pout (pout (pout (pout (pout pnil))))))))))) (List.Perm.symm (pin (pout (pout (pout (pout (pout (pout (pout (pout (pout (pout pnil)))))))))))) (gR_VP (As := [.int (xs (6 * k + 1))]) (rest := []) C hz hl.1 hG (pin (pout (pout (pout (pout (pout (pout (pout (pout (pout (pout pnil))))))))))) (c_X11_played_no l E ax an asx ay ap ar ai ah aj (tfOf ta tx) (xs (6 * k + 1)) xx g1 H.size) okX11_played q1030 0 rfl rfl rfl (Nat.le_of_ble_eq_true rfl) ⟨Nat.le_of_ble_eq_true rfl, Nat.le_of_ble_eq_true rfl⟩ ⟨by show 1926 + 3 * k + 0 ≤ 600000; omega, by show 49660 + 603 * k + 0 ≤ 7302250; omega⟩ dL_law_645) (fun H locs _ hG => ?_)
    refine lv_aload_n hx hb dL_law_648 rfl (lv_at hl 2 rfl) ?_
    refine lv_aload_n hx hb dL_law_649 rfl (lv_at hl 0 rfl) ?_
    refine lv_iload_n hx hb dL_law_650 rfl (lv_at hl 3 rfl) ?_
    refine lv_iconst (v := 1) hx hb dL_law_651 (by decide) ?_
    refine lv_iadd hx hb dL_law_652 ?_
    refine g_int (v := nI (6 * k + 1)) (nI_add (6 * k) 1).symm ?_
    refine va_sld hx hb hX hbl hbA hG.2.2 (vp_in_nI (by omega) (by omega)) dL_law_653 ?_
    refine g_int (v := xs (6 * k + 1)) (congrArg xs (cl_nI (by omega)).symm) ?_
    refine gF_i (ws' := (rX E ax an asx ay ap ar ai ah aj (tfOf ta tx) xx ++ (rY E ay ye yy ++ (rW E an nn ++ (rW E asx ss ++ (rW E ai ii ++ (rP E ap pp ++ (rQ E ta tx ++ (rR E ar rr ++ (rH E ah hh ++ (rH E aj jj ++ (rM E am mm ++ [])))))))))))) C hG (pout (pout (pout (pout (pout (pout (pout (pout (pout (pout (pin pnil))))))))))) (List.Perm.symm (pout (pout (pout (pout (pout (pout (pout (pout (pout (pout (pin pnil)))))))))))) (gR_VP (As := [.int (xs (6 * k + 1))]) (rest := [.int (-1)]) C hz hl.1 hG (pout (pout (pout (pout (pout (pout (pout (pout (pout (pout (pin pnil))))))))))) (c_X12_played l E am N (xs (6 * k + 1)) mm e2 H.size) okX12_played q1730 0 rfl rfl rfl (Nat.le_of_ble_eq_true rfl) ⟨Nat.le_of_ble_eq_true rfl, Nat.le_of_ble_eq_true rfl⟩ ⟨by show 1926 + 3 * k + 0 + 0 ≤ 600000; omega, by show 49660 + 603 * k + 0 + 0 ≤ 7302250; omega⟩ dL_law_654) (fun H locs _ hG => ?_)
    refine g_int (v := -1) rfl ?_
    refine lv_icmp_eq (tgt := 1596) hx hb dL_law_657 (by decide) (fun _ => ?_) (fun q => absurd rfl q)
    refine W.widen (k := 1926 + 3 * (k + 1)) (n := 49660 + 603 * (k + 1)) (by omega) (by omega) ?_
    exact nx _ _ _ _ _ _ _ _ _ _ _ _ _ _ _ _ hG hI1 hl
  · have hQ := rQ_some (E := E) (ta := ta) hj ht
    refine lv_aload_n hx hb dL_law_639 rfl (lv_at hl 1 rfl) ?_
    refine lv_aload_n hx hb dL_law_640 rfl (lv_at hl 0 rfl) ?_
    refine lv_iload_n hx hb dL_law_641 rfl (lv_at hl 3 rfl) ?_
    refine lv_iconst (v := 1) hx hb dL_law_642 (by decide) ?_
    refine lv_iadd hx hb dL_law_643 ?_
    refine g_int (v := nI (6 * k + 1)) (nI_add (6 * k) 1).symm ?_
    refine va_sld hx hb hX hbl hbA hG.2.2 (vp_in_nI (by omega) (by omega)) dL_law_644 ?_
    refine g_int (v := xs (6 * k + 1)) (congrArg xs (cl_nI (by omega)).symm) ?_
    refine gF_i (ws' := (rX E ax an asx ay ap ar ai ah aj (tfOf ta tx) xx ++ (rY E ay (yeP (.ref (ta j 0)) (.ref (an 0)) (.ref (ap 0))) y1 ++ (rW E an n1 ++ (rW E asx ss ++ (rW E ai ii ++ (rP E ap p1 ++ (rQ E ta tx ++ (rR E ar rr ++ (rH E ah h1 ++ (rH E aj jj ++ (rM E am mm ++ [])))))))))))) C hG ((lq hQ).trans (pin (pin (pin (pout (pout (pin (pin (pout (pout (pin (pout (pout pnil))))))))))))) (List.Perm.symm ((lq hQ).trans (pin (pin (pin (pout (pout (pin (pin (pout (pout (pin (pout (pout pnil)))))))))))))) (gR_VP (As := [.int (xs (6 * k + 1))]) (rest := []) C hz hl.1 hG ((lq hQ).trans (pin (pin (pin (pout (pout (pin (pin (pout (pout (pin (pout (pout pnil))))))))))))) (c_X11_played_yes l E ax an asx ay ap ar ai ah aj (tfOf ta tx) N (ta j) ye q.1 (xs (6 * k + 1)) xx yy nn pp q.2 hh g1 g2 g3 H.size) okX11_played q1030 0 rfl rfl rfl (Nat.le_of_ble_eq_true rfl) ⟨Nat.le_of_ble_eq_true rfl, Nat.le_of_ble_eq_true rfl⟩ ⟨by show 1926 + 3 * k + 0 ≤ 600000; omega, by show 49660 + 603 * k + 0 ≤ 7302250; omega⟩ dL_law_645) (fun H locs _ hG => ?_)
    refine g_int (v := r) rfl ?_
    refine lv_aload_n hx hb dL_law_648 rfl (lv_at hl 2 rfl) ?_
    refine lv_aload_n hx hb dL_law_649 rfl (lv_at hl 0 rfl) ?_
    refine lv_iload_n hx hb dL_law_650 rfl (lv_at hl 3 rfl) ?_
    refine lv_iconst (v := 1) hx hb dL_law_651 (by decide) ?_
    refine lv_iadd hx hb dL_law_652 ?_
    refine g_int (v := nI (6 * k + 1)) (nI_add (6 * k) 1).symm ?_
    refine va_sld hx hb hX hbl hbA hG.2.2 (vp_in_nI (by omega) (by omega)) dL_law_653 ?_
    refine g_int (v := xs (6 * k + 1)) (congrArg xs (cl_nI (by omega)).symm) ?_
    refine gF_i (ws' := (rX E ax an asx ay ap ar ai ah aj (tfOf ta tx) xx ++ (rY E ay (yeP (.ref (ta j 0)) (.ref (an 0)) (.ref (ap 0))) y1 ++ (rW E an n1 ++ (rW E asx ss ++ (rW E ai ii ++ (rP E ap p1 ++ (rQ E ta tx ++ (rR E ar rr ++ (rH E ah h1 ++ (rH E aj jj ++ (rM E am m1 ++ [])))))))))))) C hG (pout (pout (pout (pout (pout (pout (pout (pout (pout (pout (pin pnil))))))))))) (List.Perm.symm (pout (pout (pout (pout (pout (pout (pout (pout (pout (pout (pin pnil)))))))))))) (gR_VP (As := [.int (xs (6 * k + 1))]) (rest := [.int r]) C hz hl.1 hG (pout (pout (pout (pout (pout (pout (pout (pout (pout (pout (pin pnil))))))))))) (c_X12_played l E am N (xs (6 * k + 1)) mm e2 H.size) okX12_played q1730 0 rfl rfl rfl (Nat.le_of_ble_eq_true rfl) ⟨Nat.le_of_ble_eq_true rfl, Nat.le_of_ble_eq_true rfl⟩ ⟨by show 1926 + 3 * k + 0 + 0 ≤ 600000; omega, by show 49660 + 603 * k + 0 + 0 ≤ 7302250; omega⟩ dL_law_654) (fun H locs _ hG => ?_)
    refine g_int (v := r) rfl ?_
    refine lv_icmp_eq (tgt := 1596) hx hb dL_law_657 (by decide) (fun _ => ?_) (fun q => absurd rfl q)
    refine W.widen (k := 1926 + 3 * (k + 1)) (n := 49660 + 603 * (k + 1)) (by omega) (by omega) ?_
    exact nx _ _ _ _ _ _ _ _ _ _ _ _ _ _ _ _ hG hI1 hl
set_option maxHeartbeats 8000000 in
set_option maxRecDepth 100000 in
theorem case_years (h : LCX p l e s m below meth c Q E N b L xs ax an asx ay ap ar ai am ah aj ta tx ye xx yy nn ss ii pp rr hh jj mm k H locs ls) : W p l e room_1 s m #[Value.ref b] below meth c H locs (1926 + 3 * k) (49660 + 603 * k) Q (F0 m 662 ls []) := by
  obtain ⟨C, hz, hX, hbl, hL, hk, hN, hG, hI, hl, nx⟩ := h
  have hx := C.1.1
  have hb : c.code = cL_law := C.1.2.1
  have hbA : ¬ (fun q : Nat => s.heap.size ≤ q) b := Nat.not_le.mpr hbl
  obtain ⟨r, n1, p1, h1, m1, e1, e2, hI1⟩ := T_years (pp := pp) hN hI (xs (6 * k + 1)) (xs (6 * k + 2))
  refine lv_aload_n hx hb dL_law_662 rfl (lv_at hl 1 rfl) ?_
  refine lv_aload_n hx hb dL_law_663 rfl (lv_at hl 0 rfl) ?_
  refine lv_iload_n hx hb dL_law_664 rfl (lv_at hl 3 rfl) ?_
  refine lv_iconst (v := 1) hx hb dL_law_665 (by decide) ?_
  refine lv_iadd hx hb dL_law_666 ?_
  refine g_int (v := nI (6 * k + 1)) (nI_add (6 * k) 1).symm ?_
  refine va_sld hx hb hX hbl hbA hG.2.2 (vp_in_nI (by omega) (by omega)) dL_law_667 ?_
  refine g_int (v := xs (6 * k + 1)) (congrArg xs (cl_nI (by omega)).symm) ?_
  refine lv_aload_n hx hb dL_law_668 rfl (lv_at hl 0 rfl) ?_
  refine lv_iload_n hx hb dL_law_669 rfl (lv_at hl 3 rfl) ?_
  refine lv_iconst (v := 2) hx hb dL_law_670 (by decide) ?_
  refine lv_iadd hx hb dL_law_671 ?_
  refine g_int (v := nI (6 * k + 2)) (nI_add (6 * k) 2).symm ?_
  refine va_sld hx hb hX hbl hbA hG.2.2 (vp_in_nI (by omega) (by omega)) dL_law_672 ?_
  refine g_int (v := xs (6 * k + 2)) (congrArg xs (cl_nI (by omega)).symm) ?_
  refine gF_i (ws' := (rX E ax an asx ay ap ar ai ah aj (tfOf ta tx) xx ++ (rY E ay ye yy ++ (rW E an n1 ++ (rW E asx ss ++ (rW E ai ii ++ (rP E ap p1 ++ (rQ E ta tx ++ (rR E ar rr ++ (rH E ah h1 ++ (rH E aj jj ++ (rM E am mm ++ [])))))))))))) C hG (pin (pout (pin (pout (pout (pin (pout (pout (pin (pout (pout pnil))))))))))) (List.Perm.symm (pin (pout (pin (pout (pout (pin (pout (pout (pin (pout (pout pnil)))))))))))) (gR_VP (As := [.int (xs (6 * k + 1)), .int (xs (6 * k + 2))]) (rest := []) C hz hl.1 hG (pin (pout (pin (pout (pout (pin (pout (pout (pin (pout (pout pnil))))))))))) (c_X11_years l E ax an asx ay ap ar ai ah aj (tfOf ta tx) N (xs (6 * k + 1)) (xs (6 * k + 2)) xx nn pp hh e1 H.size) okX11_years q1097 0 rfl rfl rfl (Nat.le_of_ble_eq_true rfl) ⟨Nat.le_of_ble_eq_true rfl, Nat.le_of_ble_eq_true rfl⟩ ⟨by show 1926 + 3 * k + 0 ≤ 600000; omega, by show 49660 + 603 * k + 0 ≤ 7302250; omega⟩ dL_law_673) (fun H locs _ hG => ?_)
  refine g_int (v := r) rfl ?_
  refine lv_aload_n hx hb dL_law_676 rfl (lv_at hl 2 rfl) ?_
  refine lv_aload_n hx hb dL_law_677 rfl (lv_at hl 0 rfl) ?_
  refine lv_iload_n hx hb dL_law_678 rfl (lv_at hl 3 rfl) ?_
  refine lv_iconst (v := 1) hx hb dL_law_679 (by decide) ?_
  refine lv_iadd hx hb dL_law_680 ?_
  refine g_int (v := nI (6 * k + 1)) (nI_add (6 * k) 1).symm ?_
  refine va_sld hx hb hX hbl hbA hG.2.2 (vp_in_nI (by omega) (by omega)) dL_law_681 ?_
  refine g_int (v := xs (6 * k + 1)) (congrArg xs (cl_nI (by omega)).symm) ?_
  refine lv_aload_n hx hb dL_law_682 rfl (lv_at hl 0 rfl) ?_
  refine lv_iload_n hx hb dL_law_683 rfl (lv_at hl 3 rfl) ?_
  refine lv_iconst (v := 2) hx hb dL_law_684 (by decide) ?_
  refine lv_iadd hx hb dL_law_685 ?_
  refine g_int (v := nI (6 * k + 2)) (nI_add (6 * k) 2).symm ?_
  refine va_sld hx hb hX hbl hbA hG.2.2 (vp_in_nI (by omega) (by omega)) dL_law_686 ?_
  refine g_int (v := xs (6 * k + 2)) (congrArg xs (cl_nI (by omega)).symm) ?_
  refine gF_i (ws' := (rX E ax an asx ay ap ar ai ah aj (tfOf ta tx) xx ++ (rY E ay ye yy ++ (rW E an n1 ++ (rW E asx ss ++ (rW E ai ii ++ (rP E ap p1 ++ (rQ E ta tx ++ (rR E ar rr ++ (rH E ah h1 ++ (rH E aj jj ++ (rM E am m1 ++ [])))))))))))) C hG (pout (pout (pout (pout (pout (pout (pout (pout (pout (pout (pin pnil))))))))))) (List.Perm.symm (pout (pout (pout (pout (pout (pout (pout (pout (pout (pout (pin pnil)))))))))))) (gR_VP (As := [.int (xs (6 * k + 1)), .int (xs (6 * k + 2))]) (rest := [.int r]) C hz hl.1 hG (pout (pout (pout (pout (pout (pout (pout (pout (pout (pout (pin pnil))))))))))) (c_X12_years l E am N (xs (6 * k + 1)) (xs (6 * k + 2)) mm e2 H.size) okX12_years q1790 0 rfl rfl rfl (Nat.le_of_ble_eq_true rfl) ⟨Nat.le_of_ble_eq_true rfl, Nat.le_of_ble_eq_true rfl⟩ ⟨by show 1926 + 3 * k + 0 + 0 ≤ 600000; omega, by show 49660 + 603 * k + 0 + 0 ≤ 7302250; omega⟩ dL_law_687) (fun H locs _ hG => ?_)
  refine g_int (v := r) rfl ?_
  refine lv_icmp_eq (tgt := 1596) hx hb dL_law_690 (by decide) (fun _ => ?_) (fun q => absurd rfl q)
  refine W.widen (k := 1926 + 3 * (k + 1)) (n := 49660 + 603 * (k + 1)) (by omega) (by omega) ?_
  exact nx _ _ _ _ _ _ _ _ _ _ _ _ _ _ _ _ hG hI1 hl
set_option maxHeartbeats 8000000 in
set_option maxRecDepth 100000 in
theorem case_undo (h : LCX p l e s m below meth c Q E N b L xs ax an asx ay ap ar ai am ah aj ta tx ye xx yy nn ss ii pp rr hh jj mm k H locs ls) : W p l e room_1 s m #[Value.ref b] below meth c H locs (1926 + 3 * k) (49660 + 603 * k) Q (F0 m 695 ls []) := by
  obtain ⟨C, hz, hX, hbl, hL, hk, hN, hG, hI, hl, nx⟩ := h
  have hx := C.1.1
  have hb : c.code = cL_law := C.1.2.1
  have hbA : ¬ (fun q : Nat => s.heap.size ≤ q) b := Nat.not_le.mpr hbl
  obtain ⟨r, n1, h1, m1, e1, e2, hI1⟩ := T_undo hN hI
  refine lv_aload_n hx hb dL_law_695 rfl (lv_at hl 1 rfl) ?_
  refine gF_i (ws' := (rX E ax an asx ay ap ar ai ah aj (tfOf ta tx) xx ++ (rY E ay ye yy ++ (rW E an n1 ++ (rW E asx ss ++ (rW E ai ii ++ (rP E ap pp ++ (rQ E ta tx ++ (rR E ar rr ++ (rH E ah h1 ++ (rH E aj jj ++ (rM E am mm ++ [])))))))))))) C hG (pin (pout (pin (pout (pout (pout (pout (pout (pin (pout (pout pnil))))))))))) (List.Perm.symm (pin (pout (pin (pout (pout (pout (pout (pout (pin (pout (pout pnil)))))))))))) (gR_VP (As := []) (rest := []) C hz hl.1 hG (pin (pout (pin (pout (pout (pout (pout (pout (pin (pout (pout pnil))))))))))) (c_X11_undo l E ax an asx ay ap ar ai ah aj (tfOf ta tx) N xx nn hh e1 H.size) okX11_undo q1112 0 rfl rfl rfl (Nat.le_of_ble_eq_true rfl) ⟨Nat.le_of_ble_eq_true rfl, Nat.le_of_ble_eq_true rfl⟩ ⟨by show 1926 + 3 * k + 0 ≤ 600000; omega, by show 49660 + 603 * k + 0 ≤ 7302250; omega⟩ dL_law_696) (fun H locs _ hG => ?_)
  refine g_int (v := r) rfl ?_
  refine lv_aload_n hx hb dL_law_699 rfl (lv_at hl 2 rfl) ?_
  refine gF_i (ws' := (rX E ax an asx ay ap ar ai ah aj (tfOf ta tx) xx ++ (rY E ay ye yy ++ (rW E an n1 ++ (rW E asx ss ++ (rW E ai ii ++ (rP E ap pp ++ (rQ E ta tx ++ (rR E ar rr ++ (rH E ah h1 ++ (rH E aj jj ++ (rM E am m1 ++ [])))))))))))) C hG (pout (pout (pout (pout (pout (pout (pout (pout (pout (pout (pin pnil))))))))))) (List.Perm.symm (pout (pout (pout (pout (pout (pout (pout (pout (pout (pout (pin pnil)))))))))))) (gR_VP (As := []) (rest := [.int r]) C hz hl.1 hG (pout (pout (pout (pout (pout (pout (pout (pout (pout (pout (pin pnil))))))))))) (c_X12_undo l E am N mm e2 H.size) okX12_undo q1519 0 rfl rfl rfl (Nat.le_of_ble_eq_true rfl) ⟨Nat.le_of_ble_eq_true rfl, Nat.le_of_ble_eq_true rfl⟩ ⟨by show 1926 + 3 * k + 0 + 0 ≤ 600000; omega, by show 49660 + 603 * k + 0 + 0 ≤ 7302250; omega⟩ dL_law_700) (fun H locs _ hG => ?_)
  refine g_int (v := r) rfl ?_
  refine lv_icmp_eq (tgt := 1596) hx hb dL_law_703 (by decide) (fun _ => ?_) (fun q => absurd rfl q)
  refine W.widen (k := 1926 + 3 * (k + 1)) (n := 49660 + 603 * (k + 1)) (by omega) (by omega) ?_
  exact nx _ _ _ _ _ _ _ _ _ _ _ _ _ _ _ _ hG hI1 hl
set_option maxHeartbeats 8000000 in
set_option maxRecDepth 100000 in
theorem case_is (h : LCX p l e s m below meth c Q E N b L xs ax an asx ay ap ar ai am ah aj ta tx ye xx yy nn ss ii pp rr hh jj mm k H locs ls) : W p l e room_1 s m #[Value.ref b] below meth c H locs (1926 + 3 * k) (49660 + 603 * k) Q (F0 m 708 ls []) := by
  obtain ⟨C, hz, hX, hbl, hL, hk, hN, hG, hI, hl, nx⟩ := h
  have hx := C.1.1
  have hb : c.code = cL_law := C.1.2.1
  have hbA : ¬ (fun q : Nat => s.heap.size ≤ q) b := Nat.not_le.mpr hbl
  obtain ⟨r, e1, e2⟩ := T_is hN hI (xs (6 * k + 1))
  have hI1 := hI.le (L := 16200 * k + 16200) (by omega)
  refine lv_aload_n hx hb dL_law_708 rfl (lv_at hl 1 rfl) ?_
  refine lv_aload_n hx hb dL_law_709 rfl (lv_at hl 0 rfl) ?_
  refine lv_iload_n hx hb dL_law_710 rfl (lv_at hl 3 rfl) ?_
  refine lv_iconst (v := 1) hx hb dL_law_711 (by decide) ?_
  refine lv_iadd hx hb dL_law_712 ?_
  refine g_int (v := nI (6 * k + 1)) (nI_add (6 * k) 1).symm ?_
  refine va_sld hx hb hX hbl hbA hG.2.2 (vp_in_nI (by omega) (by omega)) dL_law_713 ?_
  refine g_int (v := xs (6 * k + 1)) (congrArg xs (cl_nI (by omega)).symm) ?_
  refine gF_i (ws' := (rX E ax an asx ay ap ar ai ah aj (tfOf ta tx) xx ++ (rY E ay ye yy ++ (rW E an nn ++ (rW E asx ss ++ (rW E ai ii ++ (rP E ap pp ++ (rQ E ta tx ++ (rR E ar rr ++ (rH E ah hh ++ (rH E aj jj ++ (rM E am mm ++ [])))))))))))) C hG (pin (pout (pin (pout (pout (pout (pout (pout (pout (pout (pout pnil))))))))))) (List.Perm.symm (pin (pout (pin (pout (pout (pout (pout (pout (pout (pout (pout pnil)))))))))))) (gR_VP (As := [.int (xs (6 * k + 1))]) (rest := []) C hz hl.1 hG (pin (pout (pin (pout (pout (pout (pout (pout (pout (pout (pout pnil))))))))))) (c_X11_is l E ax an asx ay ap ar ai ah aj (tfOf ta tx) N (xs (6 * k + 1)) xx nn e1 H.size) okX11_is q1120 0 rfl rfl rfl (Nat.le_of_ble_eq_true rfl) ⟨Nat.le_of_ble_eq_true rfl, Nat.le_of_ble_eq_true rfl⟩ ⟨by show 1926 + 3 * k + 0 ≤ 600000; omega, by show 49660 + 603 * k + 0 ≤ 7302250; omega⟩ dL_law_714) (fun H locs _ hG => ?_)
  refine g_int (v := r) rfl ?_
  refine lv_aload_n hx hb dL_law_717 rfl (lv_at hl 2 rfl) ?_
  refine lv_aload_n hx hb dL_law_718 rfl (lv_at hl 0 rfl) ?_
  refine lv_iload_n hx hb dL_law_719 rfl (lv_at hl 3 rfl) ?_
  refine lv_iconst (v := 1) hx hb dL_law_720 (by decide) ?_
  refine lv_iadd hx hb dL_law_721 ?_
  refine g_int (v := nI (6 * k + 1)) (nI_add (6 * k) 1).symm ?_
  refine va_sld hx hb hX hbl hbA hG.2.2 (vp_in_nI (by omega) (by omega)) dL_law_722 ?_
  refine g_int (v := xs (6 * k + 1)) (congrArg xs (cl_nI (by omega)).symm) ?_
  refine gF_i (ws' := (rX E ax an asx ay ap ar ai ah aj (tfOf ta tx) xx ++ (rY E ay ye yy ++ (rW E an nn ++ (rW E asx ss ++ (rW E ai ii ++ (rP E ap pp ++ (rQ E ta tx ++ (rR E ar rr ++ (rH E ah hh ++ (rH E aj jj ++ (rM E am mm ++ [])))))))))))) C hG (pout (pout (pout (pout (pout (pout (pout (pout (pout (pout (pin pnil))))))))))) (List.Perm.symm (pout (pout (pout (pout (pout (pout (pout (pout (pout (pout (pin pnil)))))))))))) (gR_VP (As := [.int (xs (6 * k + 1))]) (rest := [.int r]) C hz hl.1 hG (pout (pout (pout (pout (pout (pout (pout (pout (pout (pout (pin pnil))))))))))) (c_X12_is l E am N (xs (6 * k + 1)) mm e2 H.size) okX12_is q1805 0 rfl rfl rfl (Nat.le_of_ble_eq_true rfl) ⟨Nat.le_of_ble_eq_true rfl, Nat.le_of_ble_eq_true rfl⟩ ⟨by show 1926 + 3 * k + 0 + 0 ≤ 600000; omega, by show 49660 + 603 * k + 0 + 0 ≤ 7302250; omega⟩ dL_law_723) (fun H locs _ hG => ?_)
  refine g_int (v := r) rfl ?_
  refine lv_icmp_eq (tgt := 1596) hx hb dL_law_726 (by decide) (fun _ => ?_) (fun q => absurd rfl q)
  refine W.widen (k := 1926 + 3 * (k + 1)) (n := 49660 + 603 * (k + 1)) (by omega) (by omega) ?_
  exact nx _ _ _ _ _ _ _ _ _ _ _ _ _ _ _ _ hG hI1 hl
set_option maxHeartbeats 8000000 in
set_option maxRecDepth 100000 in
theorem case_where (h : LCX p l e s m below meth c Q E N b L xs ax an asx ay ap ar ai am ah aj ta tx ye xx yy nn ss ii pp rr hh jj mm k H locs ls) : W p l e room_1 s m #[Value.ref b] below meth c H locs (1926 + 3 * k) (49660 + 603 * k) Q (F0 m 731 ls []) := by
  obtain ⟨C, hz, hX, hbl, hL, hk, hN, hG, hI, hl, nx⟩ := h
  have hx := C.1.1
  have hb : c.code = cL_law := C.1.2.1
  have hbA : ¬ (fun q : Nat => s.heap.size ≤ q) b := Nat.not_le.mpr hbl
  obtain ⟨r, e1, e2⟩ := T_where hN hI (xs (6 * k + 1))
  have hI1 := hI.le (L := 16200 * k + 16200) (by omega)
  refine lv_aload_n hx hb dL_law_731 rfl (lv_at hl 1 rfl) ?_
  refine lv_aload_n hx hb dL_law_732 rfl (lv_at hl 0 rfl) ?_
  refine lv_iload_n hx hb dL_law_733 rfl (lv_at hl 3 rfl) ?_
  refine lv_iconst (v := 1) hx hb dL_law_734 (by decide) ?_
  refine lv_iadd hx hb dL_law_735 ?_
  refine g_int (v := nI (6 * k + 1)) (nI_add (6 * k) 1).symm ?_
  refine va_sld hx hb hX hbl hbA hG.2.2 (vp_in_nI (by omega) (by omega)) dL_law_736 ?_
  refine g_int (v := xs (6 * k + 1)) (congrArg xs (cl_nI (by omega)).symm) ?_
  refine gF_i (ws' := (rX E ax an asx ay ap ar ai ah aj (tfOf ta tx) xx ++ (rY E ay ye yy ++ (rW E an nn ++ (rW E asx ss ++ (rW E ai ii ++ (rP E ap pp ++ (rQ E ta tx ++ (rR E ar rr ++ (rH E ah hh ++ (rH E aj jj ++ (rM E am mm ++ [])))))))))))) C hG (pin (pout (pin (pout (pout (pout (pout (pout (pout (pout (pout pnil))))))))))) (List.Perm.symm (pin (pout (pin (pout (pout (pout (pout (pout (pout (pout (pout pnil)))))))))))) (gR_VP (As := [.int (xs (6 * k + 1))]) (rest := []) C hz hl.1 hG (pin (pout (pin (pout (pout (pout (pout (pout (pout (pout (pout pnil))))))))))) (c_X11_where l E ax an asx ay ap ar ai ah aj (tfOf ta tx) N (xs (6 * k + 1)) xx nn e1 H.size) okX11_where q1124 0 rfl rfl rfl (Nat.le_of_ble_eq_true rfl) ⟨Nat.le_of_ble_eq_true rfl, Nat.le_of_ble_eq_true rfl⟩ ⟨by show 1926 + 3 * k + 0 ≤ 600000; omega, by show 49660 + 603 * k + 0 ≤ 7302250; omega⟩ dL_law_737) (fun H locs _ hG => ?_)
  refine g_int (v := r) rfl ?_
  refine lv_aload_n hx hb dL_law_740 rfl (lv_at hl 2 rfl) ?_
  refine lv_aload_n hx hb dL_law_741 rfl (lv_at hl 0 rfl) ?_
  refine lv_iload_n hx hb dL_law_742 rfl (lv_at hl 3 rfl) ?_
  refine lv_iconst (v := 1) hx hb dL_law_743 (by decide) ?_
  refine lv_iadd hx hb dL_law_744 ?_
  refine g_int (v := nI (6 * k + 1)) (nI_add (6 * k) 1).symm ?_
  refine va_sld hx hb hX hbl hbA hG.2.2 (vp_in_nI (by omega) (by omega)) dL_law_745 ?_
  refine g_int (v := xs (6 * k + 1)) (congrArg xs (cl_nI (by omega)).symm) ?_
  refine gF_i (ws' := (rX E ax an asx ay ap ar ai ah aj (tfOf ta tx) xx ++ (rY E ay ye yy ++ (rW E an nn ++ (rW E asx ss ++ (rW E ai ii ++ (rP E ap pp ++ (rQ E ta tx ++ (rR E ar rr ++ (rH E ah hh ++ (rH E aj jj ++ (rM E am mm ++ [])))))))))))) C hG (pout (pout (pout (pout (pout (pout (pout (pout (pout (pout (pin pnil))))))))))) (List.Perm.symm (pout (pout (pout (pout (pout (pout (pout (pout (pout (pout (pin pnil)))))))))))) (gR_VP (As := [.int (xs (6 * k + 1))]) (rest := [.int r]) C hz hl.1 hG (pout (pout (pout (pout (pout (pout (pout (pout (pout (pout (pin pnil))))))))))) (c_X12_where l E am N (xs (6 * k + 1)) mm e2 H.size) okX12_where q1809 0 rfl rfl rfl (Nat.le_of_ble_eq_true rfl) ⟨Nat.le_of_ble_eq_true rfl, Nat.le_of_ble_eq_true rfl⟩ ⟨by show 1926 + 3 * k + 0 + 0 ≤ 600000; omega, by show 49660 + 603 * k + 0 + 0 ≤ 7302250; omega⟩ dL_law_746) (fun H locs _ hG => ?_)
  refine g_int (v := r) rfl ?_
  refine lv_icmp_eq (tgt := 1596) hx hb dL_law_749 (by decide) (fun _ => ?_) (fun q => absurd rfl q)
  refine W.widen (k := 1926 + 3 * (k + 1)) (n := 49660 + 603 * (k + 1)) (by omega) (by omega) ?_
  exact nx _ _ _ _ _ _ _ _ _ _ _ _ _ _ _ _ hG hI1 hl
set_option maxHeartbeats 8000000 in
set_option maxRecDepth 100000 in
theorem case_slot (h : LCX p l e s m below meth c Q E N b L xs ax an asx ay ap ar ai am ah aj ta tx ye xx yy nn ss ii pp rr hh jj mm k H locs ls) : W p l e room_1 s m #[Value.ref b] below meth c H locs (1926 + 3 * k) (49660 + 603 * k) Q (F0 m 754 ls []) := by
  obtain ⟨C, hz, hX, hbl, hL, hk, hN, hG, hI, hl, nx⟩ := h
  have hx := C.1.1
  have hb : c.code = cL_law := C.1.2.1
  have hbA : ¬ (fun q : Nat => s.heap.size ≤ q) b := Nat.not_le.mpr hbl
  obtain ⟨r, e1, e2⟩ := T_slot hN hI (xs (6 * k + 1)) (xs (6 * k + 2))
  have hI1 := hI.le (L := 16200 * k + 16200) (by omega)
  refine lv_aload_n hx hb dL_law_754 rfl (lv_at hl 1 rfl) ?_
  refine lv_aload_n hx hb dL_law_755 rfl (lv_at hl 0 rfl) ?_
  refine lv_iload_n hx hb dL_law_756 rfl (lv_at hl 3 rfl) ?_
  refine lv_iconst (v := 1) hx hb dL_law_757 (by decide) ?_
  refine lv_iadd hx hb dL_law_758 ?_
  refine g_int (v := nI (6 * k + 1)) (nI_add (6 * k) 1).symm ?_
  refine va_sld hx hb hX hbl hbA hG.2.2 (vp_in_nI (by omega) (by omega)) dL_law_759 ?_
  refine g_int (v := xs (6 * k + 1)) (congrArg xs (cl_nI (by omega)).symm) ?_
  refine lv_aload_n hx hb dL_law_760 rfl (lv_at hl 0 rfl) ?_
  refine lv_iload_n hx hb dL_law_761 rfl (lv_at hl 3 rfl) ?_
  refine lv_iconst (v := 2) hx hb dL_law_762 (by decide) ?_
  refine lv_iadd hx hb dL_law_763 ?_
  refine g_int (v := nI (6 * k + 2)) (nI_add (6 * k) 2).symm ?_
  refine va_sld hx hb hX hbl hbA hG.2.2 (vp_in_nI (by omega) (by omega)) dL_law_764 ?_
  refine g_int (v := xs (6 * k + 2)) (congrArg xs (cl_nI (by omega)).symm) ?_
  refine gF_i (ws' := (rX E ax an asx ay ap ar ai ah aj (tfOf ta tx) xx ++ (rY E ay ye yy ++ (rW E an nn ++ (rW E asx ss ++ (rW E ai ii ++ (rP E ap pp ++ (rQ E ta tx ++ (rR E ar rr ++ (rH E ah hh ++ (rH E aj jj ++ (rM E am mm ++ [])))))))))))) C hG (pin (pout (pin (pout (pout (pout (pout (pout (pout (pout (pout pnil))))))))))) (List.Perm.symm (pin (pout (pin (pout (pout (pout (pout (pout (pout (pout (pout pnil)))))))))))) (gR_VP (As := [.int (xs (6 * k + 1)), .int (xs (6 * k + 2))]) (rest := []) C hz hl.1 hG (pin (pout (pin (pout (pout (pout (pout (pout (pout (pout (pout pnil))))))))))) (c_X11_slot l E ax an asx ay ap ar ai ah aj (tfOf ta tx) N (xs (6 * k + 1)) (xs (6 * k + 2)) xx nn e1 H.size) okX11_slot q1128 0 rfl rfl rfl (Nat.le_of_ble_eq_true rfl) ⟨Nat.le_of_ble_eq_true rfl, Nat.le_of_ble_eq_true rfl⟩ ⟨by show 1926 + 3 * k + 0 ≤ 600000; omega, by show 49660 + 603 * k + 0 ≤ 7302250; omega⟩ dL_law_765) (fun H locs _ hG => ?_)
  refine g_int (v := r) rfl ?_
  refine lv_aload_n hx hb dL_law_768 rfl (lv_at hl 2 rfl) ?_
  refine lv_aload_n hx hb dL_law_769 rfl (lv_at hl 0 rfl) ?_
  refine lv_iload_n hx hb dL_law_770 rfl (lv_at hl 3 rfl) ?_
  refine lv_iconst (v := 1) hx hb dL_law_771 (by decide) ?_
  refine lv_iadd hx hb dL_law_772 ?_
  refine g_int (v := nI (6 * k + 1)) (nI_add (6 * k) 1).symm ?_
  refine va_sld hx hb hX hbl hbA hG.2.2 (vp_in_nI (by omega) (by omega)) dL_law_773 ?_
  refine g_int (v := xs (6 * k + 1)) (congrArg xs (cl_nI (by omega)).symm) ?_
  refine lv_aload_n hx hb dL_law_774 rfl (lv_at hl 0 rfl) ?_
  refine lv_iload_n hx hb dL_law_775 rfl (lv_at hl 3 rfl) ?_
  refine lv_iconst (v := 2) hx hb dL_law_776 (by decide) ?_
  refine lv_iadd hx hb dL_law_777 ?_
  refine g_int (v := nI (6 * k + 2)) (nI_add (6 * k) 2).symm ?_
  refine va_sld hx hb hX hbl hbA hG.2.2 (vp_in_nI (by omega) (by omega)) dL_law_778 ?_
  refine g_int (v := xs (6 * k + 2)) (congrArg xs (cl_nI (by omega)).symm) ?_
  refine gF_i (ws' := (rX E ax an asx ay ap ar ai ah aj (tfOf ta tx) xx ++ (rY E ay ye yy ++ (rW E an nn ++ (rW E asx ss ++ (rW E ai ii ++ (rP E ap pp ++ (rQ E ta tx ++ (rR E ar rr ++ (rH E ah hh ++ (rH E aj jj ++ (rM E am mm ++ [])))))))))))) C hG (pout (pout (pout (pout (pout (pout (pout (pout (pout (pout (pin pnil))))))))))) (List.Perm.symm (pout (pout (pout (pout (pout (pout (pout (pout (pout (pout (pin pnil)))))))))))) (gR_VP (As := [.int (xs (6 * k + 1)), .int (xs (6 * k + 2))]) (rest := [.int r]) C hz hl.1 hG (pout (pout (pout (pout (pout (pout (pout (pout (pout (pout (pin pnil))))))))))) (c_X12_slot l E am N (xs (6 * k + 1)) (xs (6 * k + 2)) mm e2 H.size) okX12_slot q1813 0 rfl rfl rfl (Nat.le_of_ble_eq_true rfl) ⟨Nat.le_of_ble_eq_true rfl, Nat.le_of_ble_eq_true rfl⟩ ⟨by show 1926 + 3 * k + 0 + 0 ≤ 600000; omega, by show 49660 + 603 * k + 0 + 0 ≤ 7302250; omega⟩ dL_law_779) (fun H locs _ hG => ?_)
  refine g_int (v := r) rfl ?_
  refine lv_icmp_eq (tgt := 1596) hx hb dL_law_782 (by decide) (fun _ => ?_) (fun q => absurd rfl q)
  refine W.widen (k := 1926 + 3 * (k + 1)) (n := 49660 + 603 * (k + 1)) (by omega) (by omega) ?_
  exact nx _ _ _ _ _ _ _ _ _ _ _ _ _ _ _ _ hG hI1 hl
set_option maxHeartbeats 8000000 in
set_option maxRecDepth 100000 in
theorem case_on (h : LCX p l e s m below meth c Q E N b L xs ax an asx ay ap ar ai am ah aj ta tx ye xx yy nn ss ii pp rr hh jj mm k H locs ls) : W p l e room_1 s m #[Value.ref b] below meth c H locs (1926 + 3 * k) (49660 + 603 * k) Q (F0 m 787 ls []) := by
  obtain ⟨C, hz, hX, hbl, hL, hk, hN, hG, hI, hl, nx⟩ := h
  have hx := C.1.1
  have hb : c.code = cL_law := C.1.2.1
  have hbA : ¬ (fun q : Nat => s.heap.size ≤ q) b := Nat.not_le.mpr hbl
  obtain ⟨r, e1, e2⟩ := T_on hN hI (xs (6 * k + 1)) (xs (6 * k + 2))
  have hI1 := hI.le (L := 16200 * k + 16200) (by omega)
  refine lv_aload_n hx hb dL_law_787 rfl (lv_at hl 1 rfl) ?_
  refine lv_aload_n hx hb dL_law_788 rfl (lv_at hl 0 rfl) ?_
  refine lv_iload_n hx hb dL_law_789 rfl (lv_at hl 3 rfl) ?_
  refine lv_iconst (v := 1) hx hb dL_law_790 (by decide) ?_
  refine lv_iadd hx hb dL_law_791 ?_
  refine g_int (v := nI (6 * k + 1)) (nI_add (6 * k) 1).symm ?_
  refine va_sld hx hb hX hbl hbA hG.2.2 (vp_in_nI (by omega) (by omega)) dL_law_792 ?_
  refine g_int (v := xs (6 * k + 1)) (congrArg xs (cl_nI (by omega)).symm) ?_
  refine lv_aload_n hx hb dL_law_793 rfl (lv_at hl 0 rfl) ?_
  refine lv_iload_n hx hb dL_law_794 rfl (lv_at hl 3 rfl) ?_
  refine lv_iconst (v := 2) hx hb dL_law_795 (by decide) ?_
  refine lv_iadd hx hb dL_law_796 ?_
  refine g_int (v := nI (6 * k + 2)) (nI_add (6 * k) 2).symm ?_
  refine va_sld hx hb hX hbl hbA hG.2.2 (vp_in_nI (by omega) (by omega)) dL_law_797 ?_
  refine g_int (v := xs (6 * k + 2)) (congrArg xs (cl_nI (by omega)).symm) ?_
  refine gF_i (ws' := (rX E ax an asx ay ap ar ai ah aj (tfOf ta tx) xx ++ (rY E ay ye yy ++ (rW E an nn ++ (rW E asx ss ++ (rW E ai ii ++ (rP E ap pp ++ (rQ E ta tx ++ (rR E ar rr ++ (rH E ah hh ++ (rH E aj jj ++ (rM E am mm ++ [])))))))))))) C hG (pin (pout (pin (pout (pout (pout (pout (pout (pout (pout (pout pnil))))))))))) (List.Perm.symm (pin (pout (pin (pout (pout (pout (pout (pout (pout (pout (pout pnil)))))))))))) (gR_VP (As := [.int (xs (6 * k + 1)), .int (xs (6 * k + 2))]) (rest := []) C hz hl.1 hG (pin (pout (pin (pout (pout (pout (pout (pout (pout (pout (pout pnil))))))))))) (c_X11_on l E ax an asx ay ap ar ai ah aj (tfOf ta tx) N (xs (6 * k + 1)) (xs (6 * k + 2)) xx nn e1 H.size) okX11_on q1133 0 rfl rfl rfl (Nat.le_of_ble_eq_true rfl) ⟨Nat.le_of_ble_eq_true rfl, Nat.le_of_ble_eq_true rfl⟩ ⟨by show 1926 + 3 * k + 0 ≤ 600000; omega, by show 49660 + 603 * k + 0 ≤ 7302250; omega⟩ dL_law_798) (fun H locs _ hG => ?_)
  refine g_int (v := r) rfl ?_
  refine lv_aload_n hx hb dL_law_801 rfl (lv_at hl 2 rfl) ?_
  refine lv_aload_n hx hb dL_law_802 rfl (lv_at hl 0 rfl) ?_
  refine lv_iload_n hx hb dL_law_803 rfl (lv_at hl 3 rfl) ?_
  refine lv_iconst (v := 1) hx hb dL_law_804 (by decide) ?_
  refine lv_iadd hx hb dL_law_805 ?_
  refine g_int (v := nI (6 * k + 1)) (nI_add (6 * k) 1).symm ?_
  refine va_sld hx hb hX hbl hbA hG.2.2 (vp_in_nI (by omega) (by omega)) dL_law_806 ?_
  refine g_int (v := xs (6 * k + 1)) (congrArg xs (cl_nI (by omega)).symm) ?_
  refine lv_aload_n hx hb dL_law_807 rfl (lv_at hl 0 rfl) ?_
  refine lv_iload_n hx hb dL_law_808 rfl (lv_at hl 3 rfl) ?_
  refine lv_iconst (v := 2) hx hb dL_law_809 (by decide) ?_
  refine lv_iadd hx hb dL_law_810 ?_
  refine g_int (v := nI (6 * k + 2)) (nI_add (6 * k) 2).symm ?_
  refine va_sld hx hb hX hbl hbA hG.2.2 (vp_in_nI (by omega) (by omega)) dL_law_811 ?_
  refine g_int (v := xs (6 * k + 2)) (congrArg xs (cl_nI (by omega)).symm) ?_
  refine gF_i (ws' := (rX E ax an asx ay ap ar ai ah aj (tfOf ta tx) xx ++ (rY E ay ye yy ++ (rW E an nn ++ (rW E asx ss ++ (rW E ai ii ++ (rP E ap pp ++ (rQ E ta tx ++ (rR E ar rr ++ (rH E ah hh ++ (rH E aj jj ++ (rM E am mm ++ [])))))))))))) C hG (pout (pout (pout (pout (pout (pout (pout (pout (pout (pout (pin pnil))))))))))) (List.Perm.symm (pout (pout (pout (pout (pout (pout (pout (pout (pout (pout (pin pnil)))))))))))) (gR_VP (As := [.int (xs (6 * k + 1)), .int (xs (6 * k + 2))]) (rest := [.int r]) C hz hl.1 hG (pout (pout (pout (pout (pout (pout (pout (pout (pout (pout (pin pnil))))))))))) (c_X12_on l E am N (xs (6 * k + 1)) (xs (6 * k + 2)) mm e2 H.size) okX12_on q1817 0 rfl rfl rfl (Nat.le_of_ble_eq_true rfl) ⟨Nat.le_of_ble_eq_true rfl, Nat.le_of_ble_eq_true rfl⟩ ⟨by show 1926 + 3 * k + 0 + 0 ≤ 600000; omega, by show 49660 + 603 * k + 0 + 0 ≤ 7302250; omega⟩ dL_law_812) (fun H locs _ hG => ?_)
  refine g_int (v := r) rfl ?_
  refine lv_icmp_eq (tgt := 1596) hx hb dL_law_815 (by decide) (fun _ => ?_) (fun q => absurd rfl q)
  refine W.widen (k := 1926 + 3 * (k + 1)) (n := 49660 + 603 * (k + 1)) (by omega) (by omega) ?_
  exact nx _ _ _ _ _ _ _ _ _ _ _ _ _ _ _ _ hG hI1 hl
set_option maxHeartbeats 8000000 in
set_option maxRecDepth 100000 in
theorem case_holder (h : LCX p l e s m below meth c Q E N b L xs ax an asx ay ap ar ai am ah aj ta tx ye xx yy nn ss ii pp rr hh jj mm k H locs ls) : W p l e room_1 s m #[Value.ref b] below meth c H locs (1926 + 3 * k) (49660 + 603 * k) Q (F0 m 820 ls []) := by
  obtain ⟨C, hz, hX, hbl, hL, hk, hN, hG, hI, hl, nx⟩ := h
  have hx := C.1.1
  have hb : c.code = cL_law := C.1.2.1
  have hbA : ¬ (fun q : Nat => s.heap.size ≤ q) b := Nat.not_le.mpr hbl
  obtain ⟨r, e1, e2⟩ := T_holder hN hI (xs (6 * k + 1))
  have hI1 := hI.le (L := 16200 * k + 16200) (by omega)
  refine lv_aload_n hx hb dL_law_820 rfl (lv_at hl 1 rfl) ?_
  refine lv_aload_n hx hb dL_law_821 rfl (lv_at hl 0 rfl) ?_
  refine lv_iload_n hx hb dL_law_822 rfl (lv_at hl 3 rfl) ?_
  refine lv_iconst (v := 1) hx hb dL_law_823 (by decide) ?_
  refine lv_iadd hx hb dL_law_824 ?_
  refine g_int (v := nI (6 * k + 1)) (nI_add (6 * k) 1).symm ?_
  refine va_sld hx hb hX hbl hbA hG.2.2 (vp_in_nI (by omega) (by omega)) dL_law_825 ?_
  refine g_int (v := xs (6 * k + 1)) (congrArg xs (cl_nI (by omega)).symm) ?_
  refine gF_i (ws' := (rX E ax an asx ay ap ar ai ah aj (tfOf ta tx) xx ++ (rY E ay ye yy ++ (rW E an nn ++ (rW E asx ss ++ (rW E ai ii ++ (rP E ap pp ++ (rQ E ta tx ++ (rR E ar rr ++ (rH E ah hh ++ (rH E aj jj ++ (rM E am mm ++ [])))))))))))) C hG (pin (pout (pin (pout (pout (pout (pout (pout (pout (pout (pout pnil))))))))))) (List.Perm.symm (pin (pout (pin (pout (pout (pout (pout (pout (pout (pout (pout pnil)))))))))))) (gR_VP (As := [.int (xs (6 * k + 1))]) (rest := []) C hz hl.1 hG (pin (pout (pin (pout (pout (pout (pout (pout (pout (pout (pout pnil))))))))))) (c_X11_holder l E ax an asx ay ap ar ai ah aj (tfOf ta tx) N (xs (6 * k + 1)) xx nn e1 H.size) okX11_holder q1137 0 rfl rfl rfl (Nat.le_of_ble_eq_true rfl) ⟨Nat.le_of_ble_eq_true rfl, Nat.le_of_ble_eq_true rfl⟩ ⟨by show 1926 + 3 * k + 0 ≤ 600000; omega, by show 49660 + 603 * k + 0 ≤ 7302250; omega⟩ dL_law_826) (fun H locs _ hG => ?_)
  refine g_int (v := r) rfl ?_
  refine lv_aload_n hx hb dL_law_829 rfl (lv_at hl 2 rfl) ?_
  refine lv_aload_n hx hb dL_law_830 rfl (lv_at hl 0 rfl) ?_
  refine lv_iload_n hx hb dL_law_831 rfl (lv_at hl 3 rfl) ?_
  refine lv_iconst (v := 1) hx hb dL_law_832 (by decide) ?_
  refine lv_iadd hx hb dL_law_833 ?_
  refine g_int (v := nI (6 * k + 1)) (nI_add (6 * k) 1).symm ?_
  refine va_sld hx hb hX hbl hbA hG.2.2 (vp_in_nI (by omega) (by omega)) dL_law_834 ?_
  refine g_int (v := xs (6 * k + 1)) (congrArg xs (cl_nI (by omega)).symm) ?_
  refine gF_i (ws' := (rX E ax an asx ay ap ar ai ah aj (tfOf ta tx) xx ++ (rY E ay ye yy ++ (rW E an nn ++ (rW E asx ss ++ (rW E ai ii ++ (rP E ap pp ++ (rQ E ta tx ++ (rR E ar rr ++ (rH E ah hh ++ (rH E aj jj ++ (rM E am mm ++ [])))))))))))) C hG (pout (pout (pout (pout (pout (pout (pout (pout (pout (pout (pin pnil))))))))))) (List.Perm.symm (pout (pout (pout (pout (pout (pout (pout (pout (pout (pout (pin pnil)))))))))))) (gR_VP (As := [.int (xs (6 * k + 1))]) (rest := [.int r]) C hz hl.1 hG (pout (pout (pout (pout (pout (pout (pout (pout (pout (pout (pin pnil))))))))))) (c_X12_holder l E am N (xs (6 * k + 1)) mm e2 H.size) okX12_holder q1821 0 rfl rfl rfl (Nat.le_of_ble_eq_true rfl) ⟨Nat.le_of_ble_eq_true rfl, Nat.le_of_ble_eq_true rfl⟩ ⟨by show 1926 + 3 * k + 0 + 0 ≤ 600000; omega, by show 49660 + 603 * k + 0 + 0 ≤ 7302250; omega⟩ dL_law_835) (fun H locs _ hG => ?_)
  refine g_int (v := r) rfl ?_
  refine lv_icmp_eq (tgt := 1596) hx hb dL_law_838 (by decide) (fun _ => ?_) (fun q => absurd rfl q)
  refine W.widen (k := 1926 + 3 * (k + 1)) (n := 49660 + 603 * (k + 1)) (by omega) (by omega) ?_
  exact nx _ _ _ _ _ _ _ _ _ _ _ _ _ _ _ _ hG hI1 hl
set_option maxHeartbeats 8000000 in
set_option maxRecDepth 100000 in
theorem case_free (h : LCX p l e s m below meth c Q E N b L xs ax an asx ay ap ar ai am ah aj ta tx ye xx yy nn ss ii pp rr hh jj mm k H locs ls) : W p l e room_1 s m #[Value.ref b] below meth c H locs (1926 + 3 * k) (49660 + 603 * k) Q (F0 m 843 ls []) := by
  obtain ⟨C, hz, hX, hbl, hL, hk, hN, hG, hI, hl, nx⟩ := h
  have hx := C.1.1
  have hb : c.code = cL_law := C.1.2.1
  have hbA : ¬ (fun q : Nat => s.heap.size ≤ q) b := Nat.not_le.mpr hbl
  obtain ⟨r, e1, e2⟩ := T_free hN hI (xs (6 * k + 1))
  have hI1 := hI.le (L := 16200 * k + 16200) (by omega)
  refine lv_aload_n hx hb dL_law_843 rfl (lv_at hl 1 rfl) ?_
  refine lv_aload_n hx hb dL_law_844 rfl (lv_at hl 0 rfl) ?_
  refine lv_iload_n hx hb dL_law_845 rfl (lv_at hl 3 rfl) ?_
  refine lv_iconst (v := 1) hx hb dL_law_846 (by decide) ?_
  refine lv_iadd hx hb dL_law_847 ?_
  refine g_int (v := nI (6 * k + 1)) (nI_add (6 * k) 1).symm ?_
  refine va_sld hx hb hX hbl hbA hG.2.2 (vp_in_nI (by omega) (by omega)) dL_law_848 ?_
  refine g_int (v := xs (6 * k + 1)) (congrArg xs (cl_nI (by omega)).symm) ?_
  refine gF_i (ws' := (rX E ax an asx ay ap ar ai ah aj (tfOf ta tx) xx ++ (rY E ay ye yy ++ (rW E an nn ++ (rW E asx ss ++ (rW E ai ii ++ (rP E ap pp ++ (rQ E ta tx ++ (rR E ar rr ++ (rH E ah hh ++ (rH E aj jj ++ (rM E am mm ++ [])))))))))))) C hG (pin (pout (pin (pout (pout (pout (pout (pout (pout (pout (pout pnil))))))))))) (List.Perm.symm (pin (pout (pin (pout (pout (pout (pout (pout (pout (pout (pout pnil)))))))))))) (gR_VP (As := [.int (xs (6 * k + 1))]) (rest := []) C hz hl.1 hG (pin (pout (pin (pout (pout (pout (pout (pout (pout (pout (pout pnil))))))))))) (c_X11_free l E ax an asx ay ap ar ai ah aj (tfOf ta tx) N (xs (6 * k + 1)) xx nn e1 H.size) okX11_free q1141 0 rfl rfl rfl (Nat.le_of_ble_eq_true rfl) ⟨Nat.le_of_ble_eq_true rfl, Nat.le_of_ble_eq_true rfl⟩ ⟨by show 1926 + 3 * k + 0 ≤ 600000; omega, by show 49660 + 603 * k + 0 ≤ 7302250; omega⟩ dL_law_849) (fun H locs _ hG => ?_)
  refine g_int (v := r) rfl ?_
  refine lv_aload_n hx hb dL_law_852 rfl (lv_at hl 2 rfl) ?_
  refine lv_aload_n hx hb dL_law_853 rfl (lv_at hl 0 rfl) ?_
  refine lv_iload_n hx hb dL_law_854 rfl (lv_at hl 3 rfl) ?_
  refine lv_iconst (v := 1) hx hb dL_law_855 (by decide) ?_
  refine lv_iadd hx hb dL_law_856 ?_
  refine g_int (v := nI (6 * k + 1)) (nI_add (6 * k) 1).symm ?_
  refine va_sld hx hb hX hbl hbA hG.2.2 (vp_in_nI (by omega) (by omega)) dL_law_857 ?_
  refine g_int (v := xs (6 * k + 1)) (congrArg xs (cl_nI (by omega)).symm) ?_
  refine gF_i (ws' := (rX E ax an asx ay ap ar ai ah aj (tfOf ta tx) xx ++ (rY E ay ye yy ++ (rW E an nn ++ (rW E asx ss ++ (rW E ai ii ++ (rP E ap pp ++ (rQ E ta tx ++ (rR E ar rr ++ (rH E ah hh ++ (rH E aj jj ++ (rM E am mm ++ [])))))))))))) C hG (pout (pout (pout (pout (pout (pout (pout (pout (pout (pout (pin pnil))))))))))) (List.Perm.symm (pout (pout (pout (pout (pout (pout (pout (pout (pout (pout (pin pnil)))))))))))) (gR_VP (As := [.int (xs (6 * k + 1))]) (rest := [.int r]) C hz hl.1 hG (pout (pout (pout (pout (pout (pout (pout (pout (pout (pout (pin pnil))))))))))) (c_X12_free l E am N (xs (6 * k + 1)) mm e2 H.size) okX12_free q1825 0 rfl rfl rfl (Nat.le_of_ble_eq_true rfl) ⟨Nat.le_of_ble_eq_true rfl, Nat.le_of_ble_eq_true rfl⟩ ⟨by show 1926 + 3 * k + 0 + 0 ≤ 600000; omega, by show 49660 + 603 * k + 0 + 0 ≤ 7302250; omega⟩ dL_law_858) (fun H locs _ hG => ?_)
  refine g_int (v := r) rfl ?_
  refine lv_icmp_eq (tgt := 1596) hx hb dL_law_861 (by decide) (fun _ => ?_) (fun q => absurd rfl q)
  refine W.widen (k := 1926 + 3 * (k + 1)) (n := 49660 + 603 * (k + 1)) (by omega) (by omega) ?_
  exact nx _ _ _ _ _ _ _ _ _ _ _ _ _ _ _ _ hG hI1 hl
set_option maxHeartbeats 8000000 in
set_option maxRecDepth 100000 in
theorem case_position (h : LCX p l e s m below meth c Q E N b L xs ax an asx ay ap ar ai am ah aj ta tx ye xx yy nn ss ii pp rr hh jj mm k H locs ls) : W p l e room_1 s m #[Value.ref b] below meth c H locs (1926 + 3 * k) (49660 + 603 * k) Q (F0 m 866 ls []) := by
  obtain ⟨C, hz, hX, hbl, hL, hk, hN, hG, hI, hl, nx⟩ := h
  have hx := C.1.1
  have hb : c.code = cL_law := C.1.2.1
  have hbA : ¬ (fun q : Nat => s.heap.size ≤ q) b := Nat.not_le.mpr hbl
  have e1 := T_position (N := N) (xx := xx) (mm := mm) (xs (6 * k + 1)) (xs (6 * k + 2))
  obtain ⟨r, er⟩ : ∃ r, r = fX12_position (xs (6 * k + 1)) (xs (6 * k + 2)) mm := ⟨_, rfl⟩
  rw [← er] at e1
  have hI1 := hI.le (L := 16200 * k + 16200) (by omega)
  refine lv_aload_n hx hb dL_law_866 rfl (lv_at hl 1 rfl) ?_
  refine lv_aload_n hx hb dL_law_867 rfl (lv_at hl 0 rfl) ?_
  refine lv_iload_n hx hb dL_law_868 rfl (lv_at hl 3 rfl) ?_
  refine lv_iconst (v := 1) hx hb dL_law_869 (by decide) ?_
  refine lv_iadd hx hb dL_law_870 ?_
  refine g_int (v := nI (6 * k + 1)) (nI_add (6 * k) 1).symm ?_
  refine va_sld hx hb hX hbl hbA hG.2.2 (vp_in_nI (by omega) (by omega)) dL_law_871 ?_
  refine g_int (v := xs (6 * k + 1)) (congrArg xs (cl_nI (by omega)).symm) ?_
  refine lv_aload_n hx hb dL_law_872 rfl (lv_at hl 0 rfl) ?_
  refine lv_iload_n hx hb dL_law_873 rfl (lv_at hl 3 rfl) ?_
  refine lv_iconst (v := 2) hx hb dL_law_874 (by decide) ?_
  refine lv_iadd hx hb dL_law_875 ?_
  refine g_int (v := nI (6 * k + 2)) (nI_add (6 * k) 2).symm ?_
  refine va_sld hx hb hX hbl hbA hG.2.2 (vp_in_nI (by omega) (by omega)) dL_law_876 ?_
  refine g_int (v := xs (6 * k + 2)) (congrArg xs (cl_nI (by omega)).symm) ?_
  refine gF_i (ws' := (rX E ax an asx ay ap ar ai ah aj (tfOf ta tx) xx ++ (rY E ay ye yy ++ (rW E an nn ++ (rW E asx ss ++ (rW E ai ii ++ (rP E ap pp ++ (rQ E ta tx ++ (rR E ar rr ++ (rH E ah hh ++ (rH E aj jj ++ (rM E am mm ++ [])))))))))))) C hG (pin (pout (pout (pout (pout (pout (pout (pout (pout (pout (pout pnil))))))))))) (List.Perm.symm (pin (pout (pout (pout (pout (pout (pout (pout (pout (pout (pout pnil)))))))))))) (gR_VP (As := [.int (xs (6 * k + 1)), .int (xs (6 * k + 2))]) (rest := []) C hz hl.1 hG (pin (pout (pout (pout (pout (pout (pout (pout (pout (pout (pout pnil))))))))))) (c_X11_position l E ax an asx ay ap ar ai ah aj (tfOf ta tx) N (xs (6 * k + 1)) (xs (6 * k + 2)) xx e1 H.size) okX11_position q1149 0 rfl rfl rfl (Nat.le_of_ble_eq_true rfl) ⟨Nat.le_of_ble_eq_true rfl, Nat.le_of_ble_eq_true rfl⟩ ⟨by show 1926 + 3 * k + 0 ≤ 600000; omega, by show 49660 + 603 * k + 0 ≤ 7302250; omega⟩ dL_law_877) (fun H locs _ hG => ?_)
  refine g_int (v := r) rfl ?_
  refine lv_aload_n hx hb dL_law_880 rfl (lv_at hl 2 rfl) ?_
  refine lv_aload_n hx hb dL_law_881 rfl (lv_at hl 0 rfl) ?_
  refine lv_iload_n hx hb dL_law_882 rfl (lv_at hl 3 rfl) ?_
  refine lv_iconst (v := 1) hx hb dL_law_883 (by decide) ?_
  refine lv_iadd hx hb dL_law_884 ?_
  refine g_int (v := nI (6 * k + 1)) (nI_add (6 * k) 1).symm ?_
  refine va_sld hx hb hX hbl hbA hG.2.2 (vp_in_nI (by omega) (by omega)) dL_law_885 ?_
  refine g_int (v := xs (6 * k + 1)) (congrArg xs (cl_nI (by omega)).symm) ?_
  refine lv_aload_n hx hb dL_law_886 rfl (lv_at hl 0 rfl) ?_
  refine lv_iload_n hx hb dL_law_887 rfl (lv_at hl 3 rfl) ?_
  refine lv_iconst (v := 2) hx hb dL_law_888 (by decide) ?_
  refine lv_iadd hx hb dL_law_889 ?_
  refine g_int (v := nI (6 * k + 2)) (nI_add (6 * k) 2).symm ?_
  refine va_sld hx hb hX hbl hbA hG.2.2 (vp_in_nI (by omega) (by omega)) dL_law_890 ?_
  refine g_int (v := xs (6 * k + 2)) (congrArg xs (cl_nI (by omega)).symm) ?_
  refine gF_i (ws' := (rX E ax an asx ay ap ar ai ah aj (tfOf ta tx) xx ++ (rY E ay ye yy ++ (rW E an nn ++ (rW E asx ss ++ (rW E ai ii ++ (rP E ap pp ++ (rQ E ta tx ++ (rR E ar rr ++ (rH E ah hh ++ (rH E aj jj ++ (rM E am mm ++ [])))))))))))) C hG (pout (pout (pout (pout (pout (pout (pout (pout (pout (pout (pin pnil))))))))))) (List.Perm.symm (pout (pout (pout (pout (pout (pout (pout (pout (pout (pout (pin pnil)))))))))))) (gR_VP (As := [.int (xs (6 * k + 1)), .int (xs (6 * k + 2))]) (rest := [.int r]) C hz hl.1 hG (pout (pout (pout (pout (pout (pout (pout (pout (pout (pout (pin pnil))))))))))) (c_X12_position l E am (xs (6 * k + 1)) (xs (6 * k + 2)) mm er.symm H.size) okX12_position q1829 0 rfl rfl rfl (Nat.le_of_ble_eq_true rfl) ⟨Nat.le_of_ble_eq_true rfl, Nat.le_of_ble_eq_true rfl⟩ ⟨by show 1926 + 3 * k + 0 + 0 ≤ 600000; omega, by show 49660 + 603 * k + 0 + 0 ≤ 7302250; omega⟩ dL_law_891) (fun H locs _ hG => ?_)
  refine g_int (v := r) rfl ?_
  refine lv_icmp_eq (tgt := 1596) hx hb dL_law_894 (by decide) (fun _ => ?_) (fun q => absurd rfl q)
  refine W.widen (k := 1926 + 3 * (k + 1)) (n := 49660 + 603 * (k + 1)) (by omega) (by omega) ?_
  exact nx _ _ _ _ _ _ _ _ _ _ _ _ _ _ _ _ hG hI1 hl
set_option maxHeartbeats 8000000 in
set_option maxRecDepth 100000 in
theorem case_heat (h : LCX p l e s m below meth c Q E N b L xs ax an asx ay ap ar ai am ah aj ta tx ye xx yy nn ss ii pp rr hh jj mm k H locs ls) : W p l e room_1 s m #[Value.ref b] below meth c H locs (1926 + 3 * k) (49660 + 603 * k) Q (F0 m 899 ls []) := by
  obtain ⟨C, hz, hX, hbl, hL, hk, hN, hG, hI, hl, nx⟩ := h
  have hx := C.1.1
  have hb : c.code = cL_law := C.1.2.1
  have hbA : ¬ (fun q : Nat => s.heap.size ≤ q) b := Nat.not_le.mpr hbl
  obtain ⟨r, e1, e2⟩ := T_heat hN hI (xs (6 * k + 1))
  have hI1 := hI.le (L := 16200 * k + 16200) (by omega)
  refine lv_aload_n hx hb dL_law_899 rfl (lv_at hl 1 rfl) ?_
  refine lv_aload_n hx hb dL_law_900 rfl (lv_at hl 0 rfl) ?_
  refine lv_iload_n hx hb dL_law_901 rfl (lv_at hl 3 rfl) ?_
  refine lv_iconst (v := 1) hx hb dL_law_902 (by decide) ?_
  refine lv_iadd hx hb dL_law_903 ?_
  refine g_int (v := nI (6 * k + 1)) (nI_add (6 * k) 1).symm ?_
  refine va_sld hx hb hX hbl hbA hG.2.2 (vp_in_nI (by omega) (by omega)) dL_law_904 ?_
  refine g_int (v := xs (6 * k + 1)) (congrArg xs (cl_nI (by omega)).symm) ?_
  refine gF_i (ws' := (rX E ax an asx ay ap ar ai ah aj (tfOf ta tx) xx ++ (rY E ay ye yy ++ (rW E an nn ++ (rW E asx ss ++ (rW E ai ii ++ (rP E ap pp ++ (rQ E ta tx ++ (rR E ar rr ++ (rH E ah hh ++ (rH E aj jj ++ (rM E am mm ++ [])))))))))))) C hG (pin (pout (pin (pout (pout (pout (pout (pout (pout (pout (pout pnil))))))))))) (List.Perm.symm (pin (pout (pin (pout (pout (pout (pout (pout (pout (pout (pout pnil)))))))))))) (gR_VP (As := [.int (xs (6 * k + 1))]) (rest := []) C hz hl.1 hG (pin (pout (pin (pout (pout (pout (pout (pout (pout (pout (pout pnil))))))))))) (c_X11_heat l E ax an asx ay ap ar ai ah aj (tfOf ta tx) N (xs (6 * k + 1)) xx nn e1 H.size) okX11_heat q1153 0 rfl rfl rfl (Nat.le_of_ble_eq_true rfl) ⟨Nat.le_of_ble_eq_true rfl, Nat.le_of_ble_eq_true rfl⟩ ⟨by show 1926 + 3 * k + 0 ≤ 600000; omega, by show 49660 + 603 * k + 0 ≤ 7302250; omega⟩ dL_law_905) (fun H locs _ hG => ?_)
  refine g_int (v := r) rfl ?_
  refine lv_aload_n hx hb dL_law_908 rfl (lv_at hl 2 rfl) ?_
  refine lv_aload_n hx hb dL_law_909 rfl (lv_at hl 0 rfl) ?_
  refine lv_iload_n hx hb dL_law_910 rfl (lv_at hl 3 rfl) ?_
  refine lv_iconst (v := 1) hx hb dL_law_911 (by decide) ?_
  refine lv_iadd hx hb dL_law_912 ?_
  refine g_int (v := nI (6 * k + 1)) (nI_add (6 * k) 1).symm ?_
  refine va_sld hx hb hX hbl hbA hG.2.2 (vp_in_nI (by omega) (by omega)) dL_law_913 ?_
  refine g_int (v := xs (6 * k + 1)) (congrArg xs (cl_nI (by omega)).symm) ?_
  refine gF_i (ws' := (rX E ax an asx ay ap ar ai ah aj (tfOf ta tx) xx ++ (rY E ay ye yy ++ (rW E an nn ++ (rW E asx ss ++ (rW E ai ii ++ (rP E ap pp ++ (rQ E ta tx ++ (rR E ar rr ++ (rH E ah hh ++ (rH E aj jj ++ (rM E am mm ++ [])))))))))))) C hG (pout (pout (pout (pout (pout (pout (pout (pout (pout (pout (pin pnil))))))))))) (List.Perm.symm (pout (pout (pout (pout (pout (pout (pout (pout (pout (pout (pin pnil)))))))))))) (gR_VP (As := [.int (xs (6 * k + 1))]) (rest := [.int r]) C hz hl.1 hG (pout (pout (pout (pout (pout (pout (pout (pout (pout (pout (pin pnil))))))))))) (c_X12_heat l E am N (xs (6 * k + 1)) mm e2 H.size) okX12_heat q1833 0 rfl rfl rfl (Nat.le_of_ble_eq_true rfl) ⟨Nat.le_of_ble_eq_true rfl, Nat.le_of_ble_eq_true rfl⟩ ⟨by show 1926 + 3 * k + 0 + 0 ≤ 600000; omega, by show 49660 + 603 * k + 0 + 0 ≤ 7302250; omega⟩ dL_law_914) (fun H locs _ hG => ?_)
  refine g_int (v := r) rfl ?_
  refine lv_icmp_eq (tgt := 1596) hx hb dL_law_917 (by decide) (fun _ => ?_) (fun q => absurd rfl q)
  refine W.widen (k := 1926 + 3 * (k + 1)) (n := 49660 + 603 * (k + 1)) (by omega) (by omega) ?_
  exact nx _ _ _ _ _ _ _ _ _ _ _ _ _ _ _ _ hG hI1 hl
set_option maxHeartbeats 8000000 in
set_option maxRecDepth 100000 in
theorem case_of (h : LCX p l e s m below meth c Q E N b L xs ax an asx ay ap ar ai am ah aj ta tx ye xx yy nn ss ii pp rr hh jj mm k H locs ls) : W p l e room_1 s m #[Value.ref b] below meth c H locs (1926 + 3 * k) (49660 + 603 * k) Q (F0 m 922 ls []) := by
  obtain ⟨C, hz, hX, hbl, hL, hk, hN, hG, hI, hl, nx⟩ := h
  have hx := C.1.1
  have hb : c.code = cL_law := C.1.2.1
  have hbA : ¬ (fun q : Nat => s.heap.size ≤ q) b := Nat.not_le.mpr hbl
  obtain ⟨r, e1, e2⟩ := T_of hN hI (xs (6 * k + 1)) (xs (6 * k + 2))
  have hI1 := hI.le (L := 16200 * k + 16200) (by omega)
  refine lv_aload_n hx hb dL_law_922 rfl (lv_at hl 1 rfl) ?_
  refine lv_aload_n hx hb dL_law_923 rfl (lv_at hl 0 rfl) ?_
  refine lv_iload_n hx hb dL_law_924 rfl (lv_at hl 3 rfl) ?_
  refine lv_iconst (v := 1) hx hb dL_law_925 (by decide) ?_
  refine lv_iadd hx hb dL_law_926 ?_
  refine g_int (v := nI (6 * k + 1)) (nI_add (6 * k) 1).symm ?_
  refine va_sld hx hb hX hbl hbA hG.2.2 (vp_in_nI (by omega) (by omega)) dL_law_927 ?_
  refine g_int (v := xs (6 * k + 1)) (congrArg xs (cl_nI (by omega)).symm) ?_
  refine lv_aload_n hx hb dL_law_928 rfl (lv_at hl 0 rfl) ?_
  refine lv_iload_n hx hb dL_law_929 rfl (lv_at hl 3 rfl) ?_
  refine lv_iconst (v := 2) hx hb dL_law_930 (by decide) ?_
  refine lv_iadd hx hb dL_law_931 ?_
  refine g_int (v := nI (6 * k + 2)) (nI_add (6 * k) 2).symm ?_
  refine va_sld hx hb hX hbl hbA hG.2.2 (vp_in_nI (by omega) (by omega)) dL_law_932 ?_
  refine g_int (v := xs (6 * k + 2)) (congrArg xs (cl_nI (by omega)).symm) ?_
  refine gF_i (ws' := (rX E ax an asx ay ap ar ai ah aj (tfOf ta tx) xx ++ (rY E ay ye yy ++ (rW E an nn ++ (rW E asx ss ++ (rW E ai ii ++ (rP E ap pp ++ (rQ E ta tx ++ (rR E ar rr ++ (rH E ah hh ++ (rH E aj jj ++ (rM E am mm ++ [])))))))))))) C hG (pin (pout (pin (pout (pout (pout (pout (pout (pout (pout (pout pnil))))))))))) (List.Perm.symm (pin (pout (pin (pout (pout (pout (pout (pout (pout (pout (pout pnil)))))))))))) (gR_VP (As := [.int (xs (6 * k + 1)), .int (xs (6 * k + 2))]) (rest := []) C hz hl.1 hG (pin (pout (pin (pout (pout (pout (pout (pout (pout (pout (pout pnil))))))))))) (c_X11_of l E ax an asx ay ap ar ai ah aj (tfOf ta tx) N (xs (6 * k + 1)) (xs (6 * k + 2)) xx nn e1 H.size) okX11_of q1157 0 rfl rfl rfl (Nat.le_of_ble_eq_true rfl) ⟨Nat.le_of_ble_eq_true rfl, Nat.le_of_ble_eq_true rfl⟩ ⟨by show 1926 + 3 * k + 0 ≤ 600000; omega, by show 49660 + 603 * k + 0 ≤ 7302250; omega⟩ dL_law_933) (fun H locs _ hG => ?_)
  refine g_int (v := r) rfl ?_
  refine lv_aload_n hx hb dL_law_936 rfl (lv_at hl 2 rfl) ?_
  refine lv_aload_n hx hb dL_law_937 rfl (lv_at hl 0 rfl) ?_
  refine lv_iload_n hx hb dL_law_938 rfl (lv_at hl 3 rfl) ?_
  refine lv_iconst (v := 1) hx hb dL_law_939 (by decide) ?_
  refine lv_iadd hx hb dL_law_940 ?_
  refine g_int (v := nI (6 * k + 1)) (nI_add (6 * k) 1).symm ?_
  refine va_sld hx hb hX hbl hbA hG.2.2 (vp_in_nI (by omega) (by omega)) dL_law_941 ?_
  refine g_int (v := xs (6 * k + 1)) (congrArg xs (cl_nI (by omega)).symm) ?_
  refine lv_aload_n hx hb dL_law_942 rfl (lv_at hl 0 rfl) ?_
  refine lv_iload_n hx hb dL_law_943 rfl (lv_at hl 3 rfl) ?_
  refine lv_iconst (v := 2) hx hb dL_law_944 (by decide) ?_
  refine lv_iadd hx hb dL_law_945 ?_
  refine g_int (v := nI (6 * k + 2)) (nI_add (6 * k) 2).symm ?_
  refine va_sld hx hb hX hbl hbA hG.2.2 (vp_in_nI (by omega) (by omega)) dL_law_946 ?_
  refine g_int (v := xs (6 * k + 2)) (congrArg xs (cl_nI (by omega)).symm) ?_
  refine gF_i (ws' := (rX E ax an asx ay ap ar ai ah aj (tfOf ta tx) xx ++ (rY E ay ye yy ++ (rW E an nn ++ (rW E asx ss ++ (rW E ai ii ++ (rP E ap pp ++ (rQ E ta tx ++ (rR E ar rr ++ (rH E ah hh ++ (rH E aj jj ++ (rM E am mm ++ [])))))))))))) C hG (pout (pout (pout (pout (pout (pout (pout (pout (pout (pout (pin pnil))))))))))) (List.Perm.symm (pout (pout (pout (pout (pout (pout (pout (pout (pout (pout (pin pnil)))))))))))) (gR_VP (As := [.int (xs (6 * k + 1)), .int (xs (6 * k + 2))]) (rest := [.int r]) C hz hl.1 hG (pout (pout (pout (pout (pout (pout (pout (pout (pout (pout (pin pnil))))))))))) (c_X12_of l E am N (xs (6 * k + 1)) (xs (6 * k + 2)) mm e2 H.size) okX12_of q1837 0 rfl rfl rfl (Nat.le_of_ble_eq_true rfl) ⟨Nat.le_of_ble_eq_true rfl, Nat.le_of_ble_eq_true rfl⟩ ⟨by show 1926 + 3 * k + 0 + 0 ≤ 600000; omega, by show 49660 + 603 * k + 0 + 0 ≤ 7302250; omega⟩ dL_law_947) (fun H locs _ hG => ?_)
  refine g_int (v := r) rfl ?_
  refine lv_icmp_eq (tgt := 1596) hx hb dL_law_950 (by decide) (fun _ => ?_) (fun q => absurd rfl q)
  refine W.widen (k := 1926 + 3 * (k + 1)) (n := 49660 + 603 * (k + 1)) (by omega) (by omega) ?_
  exact nx _ _ _ _ _ _ _ _ _ _ _ _ _ _ _ _ hG hI1 hl
set_option maxHeartbeats 8000000 in
set_option maxRecDepth 100000 in
theorem case_head (h : LCX p l e s m below meth c Q E N b L xs ax an asx ay ap ar ai am ah aj ta tx ye xx yy nn ss ii pp rr hh jj mm k H locs ls) : W p l e room_1 s m #[Value.ref b] below meth c H locs (1926 + 3 * k) (49660 + 603 * k) Q (F0 m 955 ls []) := by
  obtain ⟨C, hz, hX, hbl, hL, hk, hN, hG, hI, hl, nx⟩ := h
  have hx := C.1.1
  have hb : c.code = cL_law := C.1.2.1
  have hbA : ¬ (fun q : Nat => s.heap.size ≤ q) b := Nat.not_le.mpr hbl
  obtain ⟨r, e1, e2⟩ := T_head hN hI (xs (6 * k + 1)) (xs (6 * k + 2))
  have hI1 := hI.le (L := 16200 * k + 16200) (by omega)
  refine lv_aload_n hx hb dL_law_955 rfl (lv_at hl 1 rfl) ?_
  refine lv_aload_n hx hb dL_law_956 rfl (lv_at hl 0 rfl) ?_
  refine lv_iload_n hx hb dL_law_957 rfl (lv_at hl 3 rfl) ?_
  refine lv_iconst (v := 1) hx hb dL_law_958 (by decide) ?_
  refine lv_iadd hx hb dL_law_959 ?_
  refine g_int (v := nI (6 * k + 1)) (nI_add (6 * k) 1).symm ?_
  refine va_sld hx hb hX hbl hbA hG.2.2 (vp_in_nI (by omega) (by omega)) dL_law_960 ?_
  refine g_int (v := xs (6 * k + 1)) (congrArg xs (cl_nI (by omega)).symm) ?_
  refine lv_aload_n hx hb dL_law_961 rfl (lv_at hl 0 rfl) ?_
  refine lv_iload_n hx hb dL_law_962 rfl (lv_at hl 3 rfl) ?_
  refine lv_iconst (v := 2) hx hb dL_law_963 (by decide) ?_
  refine lv_iadd hx hb dL_law_964 ?_
  refine g_int (v := nI (6 * k + 2)) (nI_add (6 * k) 2).symm ?_
  refine va_sld hx hb hX hbl hbA hG.2.2 (vp_in_nI (by omega) (by omega)) dL_law_965 ?_
  refine g_int (v := xs (6 * k + 2)) (congrArg xs (cl_nI (by omega)).symm) ?_
  refine gF_i (ws' := (rX E ax an asx ay ap ar ai ah aj (tfOf ta tx) xx ++ (rY E ay ye yy ++ (rW E an nn ++ (rW E asx ss ++ (rW E ai ii ++ (rP E ap pp ++ (rQ E ta tx ++ (rR E ar rr ++ (rH E ah hh ++ (rH E aj jj ++ (rM E am mm ++ [])))))))))))) C hG (pin (pout (pin (pout (pout (pout (pout (pout (pout (pout (pout pnil))))))))))) (List.Perm.symm (pin (pout (pin (pout (pout (pout (pout (pout (pout (pout (pout pnil)))))))))))) (gR_VP (As := [.int (xs (6 * k + 1)), .int (xs (6 * k + 2))]) (rest := []) C hz hl.1 hG (pin (pout (pin (pout (pout (pout (pout (pout (pout (pout (pout pnil))))))))))) (c_X11_head l E ax an asx ay ap ar ai ah aj (tfOf ta tx) N (xs (6 * k + 1)) (xs (6 * k + 2)) xx nn e1 H.size) okX11_head q1165 0 rfl rfl rfl (Nat.le_of_ble_eq_true rfl) ⟨Nat.le_of_ble_eq_true rfl, Nat.le_of_ble_eq_true rfl⟩ ⟨by show 1926 + 3 * k + 0 ≤ 600000; omega, by show 49660 + 603 * k + 0 ≤ 7302250; omega⟩ dL_law_966) (fun H locs _ hG => ?_)
  refine g_int (v := r) rfl ?_
  refine lv_aload_n hx hb dL_law_969 rfl (lv_at hl 2 rfl) ?_
  refine lv_aload_n hx hb dL_law_970 rfl (lv_at hl 0 rfl) ?_
  refine lv_iload_n hx hb dL_law_971 rfl (lv_at hl 3 rfl) ?_
  refine lv_iconst (v := 1) hx hb dL_law_972 (by decide) ?_
  refine lv_iadd hx hb dL_law_973 ?_
  refine g_int (v := nI (6 * k + 1)) (nI_add (6 * k) 1).symm ?_
  refine va_sld hx hb hX hbl hbA hG.2.2 (vp_in_nI (by omega) (by omega)) dL_law_974 ?_
  refine g_int (v := xs (6 * k + 1)) (congrArg xs (cl_nI (by omega)).symm) ?_
  refine lv_aload_n hx hb dL_law_975 rfl (lv_at hl 0 rfl) ?_
  refine lv_iload_n hx hb dL_law_976 rfl (lv_at hl 3 rfl) ?_
  refine lv_iconst (v := 2) hx hb dL_law_977 (by decide) ?_
  refine lv_iadd hx hb dL_law_978 ?_
  refine g_int (v := nI (6 * k + 2)) (nI_add (6 * k) 2).symm ?_
  refine va_sld hx hb hX hbl hbA hG.2.2 (vp_in_nI (by omega) (by omega)) dL_law_979 ?_
  refine g_int (v := xs (6 * k + 2)) (congrArg xs (cl_nI (by omega)).symm) ?_
  refine gF_i (ws' := (rX E ax an asx ay ap ar ai ah aj (tfOf ta tx) xx ++ (rY E ay ye yy ++ (rW E an nn ++ (rW E asx ss ++ (rW E ai ii ++ (rP E ap pp ++ (rQ E ta tx ++ (rR E ar rr ++ (rH E ah hh ++ (rH E aj jj ++ (rM E am mm ++ [])))))))))))) C hG (pout (pout (pout (pout (pout (pout (pout (pout (pout (pout (pin pnil))))))))))) (List.Perm.symm (pout (pout (pout (pout (pout (pout (pout (pout (pout (pout (pin pnil)))))))))))) (gR_VP (As := [.int (xs (6 * k + 1)), .int (xs (6 * k + 2))]) (rest := [.int r]) C hz hl.1 hG (pout (pout (pout (pout (pout (pout (pout (pout (pout (pout (pin pnil))))))))))) (c_X12_head l E am N (xs (6 * k + 1)) (xs (6 * k + 2)) mm e2 H.size) okX12_head q1841 0 rfl rfl rfl (Nat.le_of_ble_eq_true rfl) ⟨Nat.le_of_ble_eq_true rfl, Nat.le_of_ble_eq_true rfl⟩ ⟨by show 1926 + 3 * k + 0 + 0 ≤ 600000; omega, by show 49660 + 603 * k + 0 + 0 ≤ 7302250; omega⟩ dL_law_980) (fun H locs _ hG => ?_)
  refine g_int (v := r) rfl ?_
  refine lv_icmp_eq (tgt := 1596) hx hb dL_law_983 (by decide) (fun _ => ?_) (fun q => absurd rfl q)
  refine W.widen (k := 1926 + 3 * (k + 1)) (n := 49660 + 603 * (k + 1)) (by omega) (by omega) ?_
  exact nx _ _ _ _ _ _ _ _ _ _ _ _ _ _ _ _ hG hI1 hl
set_option maxHeartbeats 8000000 in
set_option maxRecDepth 100000 in
theorem case_move (h : LCX p l e s m below meth c Q E N b L xs ax an asx ay ap ar ai am ah aj ta tx ye xx yy nn ss ii pp rr hh jj mm k H locs ls) : W p l e room_1 s m #[Value.ref b] below meth c H locs (1926 + 3 * k) (49660 + 603 * k) Q (F0 m 988 ls []) := by
  obtain ⟨C, hz, hX, hbl, hL, hk, hN, hG, hI, hl, nx⟩ := h
  have hx := C.1.1
  have hb : c.code = cL_law := C.1.2.1
  have hbA : ¬ (fun q : Nat => s.heap.size ≤ q) b := Nat.not_le.mpr hbl
  obtain ⟨r, e1, e2⟩ := T_move hN hI (xs (6 * k + 1)) (xs (6 * k + 2))
  have hI1 := hI.le (L := 16200 * k + 16200) (by omega)
  refine lv_aload_n hx hb dL_law_988 rfl (lv_at hl 1 rfl) ?_
  refine lv_aload_n hx hb dL_law_989 rfl (lv_at hl 0 rfl) ?_
  refine lv_iload_n hx hb dL_law_990 rfl (lv_at hl 3 rfl) ?_
  refine lv_iconst (v := 1) hx hb dL_law_991 (by decide) ?_
  refine lv_iadd hx hb dL_law_992 ?_
  refine g_int (v := nI (6 * k + 1)) (nI_add (6 * k) 1).symm ?_
  refine va_sld hx hb hX hbl hbA hG.2.2 (vp_in_nI (by omega) (by omega)) dL_law_993 ?_
  refine g_int (v := xs (6 * k + 1)) (congrArg xs (cl_nI (by omega)).symm) ?_
  refine lv_aload_n hx hb dL_law_994 rfl (lv_at hl 0 rfl) ?_
  refine lv_iload_n hx hb dL_law_995 rfl (lv_at hl 3 rfl) ?_
  refine lv_iconst (v := 2) hx hb dL_law_996 (by decide) ?_
  refine lv_iadd hx hb dL_law_997 ?_
  refine g_int (v := nI (6 * k + 2)) (nI_add (6 * k) 2).symm ?_
  refine va_sld hx hb hX hbl hbA hG.2.2 (vp_in_nI (by omega) (by omega)) dL_law_998 ?_
  refine g_int (v := xs (6 * k + 2)) (congrArg xs (cl_nI (by omega)).symm) ?_
  refine gF_i (ws' := (rX E ax an asx ay ap ar ai ah aj (tfOf ta tx) xx ++ (rY E ay ye yy ++ (rW E an nn ++ (rW E asx ss ++ (rW E ai ii ++ (rP E ap pp ++ (rQ E ta tx ++ (rR E ar rr ++ (rH E ah hh ++ (rH E aj jj ++ (rM E am mm ++ [])))))))))))) C hG (pin (pout (pin (pout (pout (pout (pout (pout (pout (pout (pout pnil))))))))))) (List.Perm.symm (pin (pout (pin (pout (pout (pout (pout (pout (pout (pout (pout pnil)))))))))))) (gR_VP (As := [.int (xs (6 * k + 1)), .int (xs (6 * k + 2))]) (rest := []) C hz hl.1 hG (pin (pout (pin (pout (pout (pout (pout (pout (pout (pout (pout pnil))))))))))) (c_X11_move l E ax an asx ay ap ar ai ah aj (tfOf ta tx) N (xs (6 * k + 1)) (xs (6 * k + 2)) xx nn e1 H.size) okX11_move q1173 0 rfl rfl rfl (Nat.le_of_ble_eq_true rfl) ⟨Nat.le_of_ble_eq_true rfl, Nat.le_of_ble_eq_true rfl⟩ ⟨by show 1926 + 3 * k + 0 ≤ 600000; omega, by show 49660 + 603 * k + 0 ≤ 7302250; omega⟩ dL_law_999) (fun H locs _ hG => ?_)
  refine g_int (v := r) rfl ?_
  refine lv_aload_n hx hb dL_law_1002 rfl (lv_at hl 2 rfl) ?_
  refine lv_aload_n hx hb dL_law_1003 rfl (lv_at hl 0 rfl) ?_
  refine lv_iload_n hx hb dL_law_1004 rfl (lv_at hl 3 rfl) ?_
  refine lv_iconst (v := 1) hx hb dL_law_1005 (by decide) ?_
  refine lv_iadd hx hb dL_law_1006 ?_
  refine g_int (v := nI (6 * k + 1)) (nI_add (6 * k) 1).symm ?_
  refine va_sld hx hb hX hbl hbA hG.2.2 (vp_in_nI (by omega) (by omega)) dL_law_1007 ?_
  refine g_int (v := xs (6 * k + 1)) (congrArg xs (cl_nI (by omega)).symm) ?_
  refine lv_aload_n hx hb dL_law_1008 rfl (lv_at hl 0 rfl) ?_
  refine lv_iload_n hx hb dL_law_1009 rfl (lv_at hl 3 rfl) ?_
  refine lv_iconst (v := 2) hx hb dL_law_1010 (by decide) ?_
  refine lv_iadd hx hb dL_law_1011 ?_
  refine g_int (v := nI (6 * k + 2)) (nI_add (6 * k) 2).symm ?_
  refine va_sld hx hb hX hbl hbA hG.2.2 (vp_in_nI (by omega) (by omega)) dL_law_1012 ?_
  refine g_int (v := xs (6 * k + 2)) (congrArg xs (cl_nI (by omega)).symm) ?_
  refine gF_i (ws' := (rX E ax an asx ay ap ar ai ah aj (tfOf ta tx) xx ++ (rY E ay ye yy ++ (rW E an nn ++ (rW E asx ss ++ (rW E ai ii ++ (rP E ap pp ++ (rQ E ta tx ++ (rR E ar rr ++ (rH E ah hh ++ (rH E aj jj ++ (rM E am mm ++ [])))))))))))) C hG (pout (pout (pout (pout (pout (pout (pout (pout (pout (pout (pin pnil))))))))))) (List.Perm.symm (pout (pout (pout (pout (pout (pout (pout (pout (pout (pout (pin pnil)))))))))))) (gR_VP (As := [.int (xs (6 * k + 1)), .int (xs (6 * k + 2))]) (rest := [.int r]) C hz hl.1 hG (pout (pout (pout (pout (pout (pout (pout (pout (pout (pout (pin pnil))))))))))) (c_X12_move l E am N (xs (6 * k + 1)) (xs (6 * k + 2)) mm e2 H.size) okX12_move q1845 0 rfl rfl rfl (Nat.le_of_ble_eq_true rfl) ⟨Nat.le_of_ble_eq_true rfl, Nat.le_of_ble_eq_true rfl⟩ ⟨by show 1926 + 3 * k + 0 + 0 ≤ 600000; omega, by show 49660 + 603 * k + 0 + 0 ≤ 7302250; omega⟩ dL_law_1013) (fun H locs _ hG => ?_)
  refine g_int (v := r) rfl ?_
  refine lv_icmp_eq (tgt := 1596) hx hb dL_law_1016 (by decide) (fun _ => ?_) (fun q => absurd rfl q)
  refine W.widen (k := 1926 + 3 * (k + 1)) (n := 49660 + 603 * (k + 1)) (by omega) (by omega) ?_
  exact nx _ _ _ _ _ _ _ _ _ _ _ _ _ _ _ _ hG hI1 hl
end LW
