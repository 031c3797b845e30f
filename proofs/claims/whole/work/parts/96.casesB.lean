/-! THE LAW: a call of each kind -/
section LW
variable {p : Program} {l : Launch} {e : Env} {s : State} {m : MethodId} {below : List Frame} {meth : Method} {c : Code} {Q : State → Prop} {E : GE} {N b L : Nat} {xs : Nat → Int32} {ax an asx ay ap ar ai am : Nat → Nat} {ah aj ta : Nat → Nat → Nat} {tx : TXS} {ye : Nat → Value} {xx yy nn ss ii pp rr : RS} {hh jj : HS} {mm : RS} {k : Nat} {H : Heap} {locs : List Loc} {ls : Array Slot}
set_option maxHeartbeats 8000000 in
set_option maxRecDepth 100000 in
theorem case_moveOf (h : LCX p l e s m below meth c Q E N b L xs ax an asx ay ap ar ai am ah aj ta tx ye xx yy nn ss ii pp rr hh jj mm k H locs ls) : W p l e room_1 s m #[Value.ref b] below meth c H locs (1926 + 3 * k) (49660 + 603 * k) Q (F0 m 1021 ls []) := by
  obtain ⟨C, hz, hX, hbl, hL, hk, hN, hG, hI, hl, nx⟩ := h
  have hx := C.1.1
  have hb : c.code = cL_law := C.1.2.1
  have hbA : ¬ (fun q : Nat => s.heap.size ≤ q) b := Nat.not_le.mpr hbl
  obtain ⟨r, e1, e2⟩ := T_moveOf hN hI (xs (6 * k + 1))
  have hI1 := hI.le (L := 16200 * k + 16200) (by omega)
  refine lv_aload_n hx hb dL_law_1021 rfl (lv_at hl 1 rfl) ?_
  refine lv_aload_n hx hb dL_law_1022 rfl (lv_at hl 0 rfl) ?_
  refine lv_iload_n hx hb dL_law_1023 rfl (lv_at hl 3 rfl) ?_
  refine lv_iconst (v := 1) hx hb dL_law_1024 (by decide) ?_
  refine lv_iadd hx hb dL_law_1025 ?_
  refine g_int (v := nI (6 * k + 1)) (nI_add (6 * k) 1).symm ?_
  refine va_sld hx hb hX hbl hbA hG.2.2 (vp_in_nI (by omega) (by omega)) dL_law_1026 ?_
  refine g_int (v := xs (6 * k + 1)) (congrArg xs (cl_nI (by omega)).symm) ?_
  refine gF_i (ws' := (rX E ax an asx ay ap ar ai ah aj (tfOf ta tx) xx ++ (rY E ay ye yy ++ (rW E an nn ++ (rW E asx ss ++ (rW E ai ii ++ (rP E ap pp ++ (rQ E ta tx ++ (rR E ar rr ++ (rH E ah hh ++ (rH E aj jj ++ (rM E am mm ++ [])))))))))))) C hG (pin (pout (pin (pout (pout (pout (pout (pout (pout (pout (pout pnil))))))))))) (List.Perm.symm (pin (pout (pin (pout (pout (pout (pout (pout (pout (pout (pout pnil)))))))))))) (gR_VP (As := [.int (xs (6 * k + 1))]) (rest := []) C hz hl.1 hG (pin (pout (pin (pout (pout (pout (pout (pout (pout (pout (pout pnil))))))))))) (c_X11_moveOf l E ax an asx ay ap ar ai ah aj (tfOf ta tx) N (xs (6 * k + 1)) xx nn e1 H.size) okX11_moveOf q1182 0 rfl rfl rfl (Nat.le_of_ble_eq_true rfl) ⟨Nat.le_of_ble_eq_true rfl, Nat.le_of_ble_eq_true rfl⟩ ⟨by show 1926 + 3 * k + 0 ≤ 600000; omega, by show 49660 + 603 * k + 0 ≤ 7302250; omega⟩ dL_law_1027) (fun H locs _ hG => ?_)
  refine g_int (v := r) rfl ?_
  refine lv_aload_n hx hb dL_law_1030 rfl (lv_at hl 2 rfl) ?_
  refine lv_aload_n hx hb dL_law_1031 rfl (lv_at hl 0 rfl) ?_
  refine lv_iload_n hx hb dL_law_1032 rfl (lv_at hl 3 rfl) ?_
  refine lv_iconst (v := 1) hx hb dL_law_1033 (by decide) ?_
  refine lv_iadd hx hb dL_law_1034 ?_
  refine g_int (v := nI (6 * k + 1)) (nI_add (6 * k) 1).symm ?_
  refine va_sld hx hb hX hbl hbA hG.2.2 (vp_in_nI (by omega) (by omega)) dL_law_1035 ?_
  refine g_int (v := xs (6 * k + 1)) (congrArg xs (cl_nI (by omega)).symm) ?_
  refine gF_i (ws' := (rX E ax an asx ay ap ar ai ah aj (tfOf ta tx) xx ++ (rY E ay ye yy ++ (rW E an nn ++ (rW E asx ss ++ (rW E ai ii ++ (rP E ap pp ++ (rQ E ta tx ++ (rR E ar rr ++ (rH E ah hh ++ (rH E aj jj ++ (rM E am mm ++ [])))))))))))) C hG (pout (pout (pout (pout (pout (pout (pout (pout (pout (pout (pin pnil))))))))))) (List.Perm.symm (pout (pout (pout (pout (pout (pout (pout (pout (pout (pout (pin pnil)))))))))))) (gR_VP (As := [.int (xs (6 * k + 1))]) (rest := [.int r]) C hz hl.1 hG (pout (pout (pout (pout (pout (pout (pout (pout (pout (pout (pin pnil))))))))))) (c_X12_moveOf l E am N (xs (6 * k + 1)) mm e2 H.size) okX12_moveOf q1849 0 rfl rfl rfl (Nat.le_of_ble_eq_true rfl) ⟨Nat.le_of_ble_eq_true rfl, Nat.le_of_ble_eq_true rfl⟩ ⟨by show 1926 + 3 * k + 0 + 0 ≤ 600000; omega, by show 49660 + 603 * k + 0 + 0 ≤ 7302250; omega⟩ dL_law_1036) (fun H locs _ hG => ?_)
  refine g_int (v := r) rfl ?_
  refine lv_icmp_eq (tgt := 1596) hx hb dL_law_1039 (by decide) (fun _ => ?_) (fun q => absurd rfl q)
  refine W.widen (k := 1926 + 3 * (k + 1)) (n := 49660 + 603 * (k + 1)) (by omega) (by omega) ?_
  exact nx _ _ _ _ _ _ _ _ _ _ _ _ _ _ _ _ hG hI1 hl
set_option maxHeartbeats 8000000 in
set_option maxRecDepth 100000 in
theorem case_plan (h : LCX p l e s m below meth c Q E N b L xs ax an asx ay ap ar ai am ah aj ta tx ye xx yy nn ss ii pp rr hh jj mm k H locs ls) : W p l e room_1 s m #[Value.ref b] below meth c H locs (1926 + 3 * k) (49660 + 603 * k) Q (F0 m 1044 ls []) := by
  obtain ⟨C, hz, hX, hbl, hL, hk, hN, hG, hI, hl, nx⟩ := h
  have hx := C.1.1
  have hb : c.code = cL_law := C.1.2.1
  have hbA : ¬ (fun q : Nat => s.heap.size ≤ q) b := Nat.not_le.mpr hbl
  obtain ⟨r, p1, e1, e2⟩ := T_plan (pp := pp) hN hI
  have hI1 := hI.le (L := 16200 * k + 16200) (by omega)
  refine lv_aload_n hx hb dL_law_1044 rfl (lv_at hl 1 rfl) ?_
  refine gF_i (ws' := (rX E ax an asx ay ap ar ai ah aj (tfOf ta tx) xx ++ (rY E ay ye yy ++ (rW E an nn ++ (rW E asx ss ++ (rW E ai ii ++ (rP E ap p1 ++ (rQ E ta tx ++ (rR E ar rr ++ (rH E ah hh ++ (rH E aj jj ++ (rM E am mm ++ [])))))))))))) C hG (pin (pout (pin (pout (pout (pin (pout (pout (pout (pout (pout pnil))))))))))) (List.Perm.symm (pin (pout (pin (pout (pout (pin (pout (pout (pout (pout (pout pnil)))))))))))) (gR_VP (As := []) (rest := []) C hz hl.1 hG (pin (pout (pin (pout (pout (pin (pout (pout (pout (pout (pout pnil))))))))))) (c_X11_plan l E ax an asx ay ap ar ai ah aj (tfOf ta tx) N xx nn pp e1 H.size) okX11_plan q1186 0 rfl rfl rfl (Nat.le_of_ble_eq_true rfl) ⟨Nat.le_of_ble_eq_true rfl, Nat.le_of_ble_eq_true rfl⟩ ⟨by show 1926 + 3 * k + 0 ≤ 600000; omega, by show 49660 + 603 * k + 0 ≤ 7302250; omega⟩ dL_law_1045) (fun H locs _ hG => ?_)
  refine g_int (v := r) rfl ?_
  refine lv_aload_n hx hb dL_law_1048 rfl (lv_at hl 2 rfl) ?_
  refine gF_i (ws' := (rX E ax an asx ay ap ar ai ah aj (tfOf ta tx) xx ++ (rY E ay ye yy ++ (rW E an nn ++ (rW E asx ss ++ (rW E ai ii ++ (rP E ap p1 ++ (rQ E ta tx ++ (rR E ar rr ++ (rH E ah hh ++ (rH E aj jj ++ (rM E am mm ++ [])))))))))))) C hG (pout (pout (pout (pout (pout (pout (pout (pout (pout (pout (pin pnil))))))))))) (List.Perm.symm (pout (pout (pout (pout (pout (pout (pout (pout (pout (pout (pin pnil)))))))))))) (gR_VP (As := []) (rest := [.int r]) C hz hl.1 hG (pout (pout (pout (pout (pout (pout (pout (pout (pout (pout (pin pnil))))))))))) (c_X12_plan l E am N mm e2 H.size) okX12_plan q1853 0 rfl rfl rfl (Nat.le_of_ble_eq_true rfl) ⟨Nat.le_of_ble_eq_true rfl, Nat.le_of_ble_eq_true rfl⟩ ⟨by show 1926 + 3 * k + 0 + 0 ≤ 600000; omega, by show 49660 + 603 * k + 0 + 0 ≤ 7302250; omega⟩ dL_law_1049) (fun H locs _ hG => ?_)
  refine g_int (v := r) rfl ?_
  refine lv_icmp_eq (tgt := 1596) hx hb dL_law_1052 (by decide) (fun _ => ?_) (fun q => absurd rfl q)
  refine W.widen (k := 1926 + 3 * (k + 1)) (n := 49660 + 603 * (k + 1)) (by omega) (by omega) ?_
  exact nx _ _ _ _ _ _ _ _ _ _ _ _ _ _ _ _ hG hI1 hl
set_option maxHeartbeats 8000000 in
set_option maxRecDepth 100000 in
theorem case_worth (h : LCX p l e s m below meth c Q E N b L xs ax an asx ay ap ar ai am ah aj ta tx ye xx yy nn ss ii pp rr hh jj mm k H locs ls) : W p l e room_1 s m #[Value.ref b] below meth c H locs (1926 + 3 * k) (49660 + 603 * k) Q (F0 m 1057 ls []) := by
  obtain ⟨C, hz, hX, hbl, hL, hk, hN, hG, hI, hl, nx⟩ := h
  have hx := C.1.1
  have hb : c.code = cL_law := C.1.2.1
  have hbA : ¬ (fun q : Nat => s.heap.size ≤ q) b := Nat.not_le.mpr hbl
  obtain ⟨r, p1, e1, e2⟩ := T_worth (pp := pp) hN hI (xs (6 * k + 1))
  have hI1 := hI.le (L := 16200 * k + 16200) (by omega)
  refine lv_aload_n hx hb dL_law_1057 rfl (lv_at hl 1 rfl) ?_
  refine lv_aload_n hx hb dL_law_1058 rfl (lv_at hl 0 rfl) ?_
  refine lv_iload_n hx hb dL_law_1059 rfl (lv_at hl 3 rfl) ?_
  refine lv_iconst (v := 1) hx hb dL_law_1060 (by decide) ?_
  refine lv_iadd hx hb dL_law_1061 ?_
  refine g_int (v := nI (6 * k + 1)) (nI_add (6 * k) 1).symm ?_
  refine va_sld hx hb hX hbl hbA hG.2.2 (vp_in_nI (by omega) (by omega)) dL_law_1062 ?_
  refine g_int (v := xs (6 * k + 1)) (congrArg xs (cl_nI (by omega)).symm) ?_
  refine gF_i (ws' := (rX E ax an asx ay ap ar ai ah aj (tfOf ta tx) xx ++ (rY E ay ye yy ++ (rW E an nn ++ (rW E asx ss ++ (rW E ai ii ++ (rP E ap p1 ++ (rQ E ta tx ++ (rR E ar rr ++ (rH E ah hh ++ (rH E aj jj ++ (rM E am mm ++ [])))))))))))) C hG (pin (pout (pin (pout (pout (pin (pout (pout (pout (pout (pout pnil))))))))))) (List.Perm.symm (pin (pout (pin (pout (pout (pin (pout (pout (pout (pout (pout pnil)))))))))))) (gR_VP (As := [.int (xs (6 * k + 1))]) (rest := []) C hz hl.1 hG (pin (pout (pin (pout (pout (pin (pout (pout (pout (pout (pout pnil))))))))))) (c_X11_worth l E ax an asx ay ap ar ai ah aj (tfOf ta tx) N (xs (6 * k + 1)) xx nn pp e1 H.size) okX11_worth q1191 0 rfl rfl rfl (Nat.le_of_ble_eq_true rfl) ⟨Nat.le_of_ble_eq_true rfl, Nat.le_of_ble_eq_true rfl⟩ ⟨by show 1926 + 3 * k + 0 ≤ 600000; omega, by show 49660 + 603 * k + 0 ≤ 7302250; omega⟩ dL_law_1063) (fun H locs _ hG => ?_)
  refine g_int (v := r) rfl ?_
  refine lv_aload_n hx hb dL_law_1066 rfl (lv_at hl 2 rfl) ?_
  refine lv_aload_n hx hb dL_law_1067 rfl (lv_at hl 0 rfl) ?_
  refine lv_iload_n hx hb dL_law_1068 rfl (lv_at hl 3 rfl) ?_
  refine lv_iconst (v := 1) hx hb dL_law_1069 (by decide) ?_
  refine lv_iadd hx hb dL_law_1070 ?_
  refine g_int (v := nI (6 * k + 1)) (nI_add (6 * k) 1).symm ?_
  refine va_sld hx hb hX hbl hbA hG.2.2 (vp_in_nI (by omega) (by omega)) dL_law_1071 ?_
  refine g_int (v := xs (6 * k + 1)) (congrArg xs (cl_nI (by omega)).symm) ?_
  refine gF_i (ws' := (rX E ax an asx ay ap ar ai ah aj (tfOf ta tx) xx ++ (rY E ay ye yy ++ (rW E an nn ++ (rW E asx ss ++ (rW E ai ii ++ (rP E ap p1 ++ (rQ E ta tx ++ (rR E ar rr ++ (rH E ah hh ++ (rH E aj jj ++ (rM E am mm ++ [])))))))))))) C hG (pout (pout (pout (pout (pout (pout (pout (pout (pout (pout (pin pnil))))))))))) (List.Perm.symm (pout (pout (pout (pout (pout (pout (pout (pout (pout (pout (pin pnil)))))))))))) (gR_VP (As := [.int (xs (6 * k + 1))]) (rest := [.int r]) C hz hl.1 hG (pout (pout (pout (pout (pout (pout (pout (pout (pout (pout (pin pnil))))))))))) (c_X12_worth l E am N (xs (6 * k + 1)) mm e2 H.size) okX12_worth q1857 0 rfl rfl rfl (Nat.le_of_ble_eq_true rfl) ⟨Nat.le_of_ble_eq_true rfl, Nat.le_of_ble_eq_true rfl⟩ ⟨by show 1926 + 3 * k + 0 + 0 ≤ 600000; omega, by show 49660 + 603 * k + 0 + 0 ≤ 7302250; omega⟩ dL_law_1072) (fun H locs _ hG => ?_)
  refine g_int (v := r) rfl ?_
  refine lv_icmp_eq (tgt := 1596) hx hb dL_law_1075 (by decide) (fun _ => ?_) (fun q => absurd rfl q)
  refine W.widen (k := 1926 + 3 * (k + 1)) (n := 49660 + 603 * (k + 1)) (by omega) (by omega) ?_
  exact nx _ _ _ _ _ _ _ _ _ _ _ _ _ _ _ _ hG hI1 hl
set_option maxHeartbeats 8000000 in
set_option maxRecDepth 100000 in
theorem case_value (h : LCX p l e s m below meth c Q E N b L xs ax an asx ay ap ar ai am ah aj ta tx ye xx yy nn ss ii pp rr hh jj mm k H locs ls) : W p l e room_1 s m #[Value.ref b] below meth c H locs (1926 + 3 * k) (49660 + 603 * k) Q (F0 m 1080 ls []) := by
  obtain ⟨C, hz, hX, hbl, hL, hk, hN, hG, hI, hl, nx⟩ := h
  have hx := C.1.1
  have hb : c.code = cL_law := C.1.2.1
  have hbA : ¬ (fun q : Nat => s.heap.size ≤ q) b := Nat.not_le.mpr hbl
  obtain ⟨r, p1, e1, e2⟩ := T_value (pp := pp) hN hI (xs (6 * k + 1))
  have hI1 := hI.le (L := 16200 * k + 16200) (by omega)
  refine lv_aload_n hx hb dL_law_1080 rfl (lv_at hl 1 rfl) ?_
  refine lv_aload_n hx hb dL_law_1081 rfl (lv_at hl 0 rfl) ?_
  refine lv_iload_n hx hb dL_law_1082 rfl (lv_at hl 3 rfl) ?_
  refine lv_iconst (v := 1) hx hb dL_law_1083 (by decide) ?_
  refine lv_iadd hx hb dL_law_1084 ?_
  refine g_int (v := nI (6 * k + 1)) (nI_add (6 * k) 1).symm ?_
  refine va_sld hx hb hX hbl hbA hG.2.2 (vp_in_nI (by omega) (by omega)) dL_law_1085 ?_
  refine g_int (v := xs (6 * k + 1)) (congrArg xs (cl_nI (by omega)).symm) ?_
  refine gF_i (ws' := (rX E ax an asx ay ap ar ai ah aj (tfOf ta tx) xx ++ (rY E ay ye yy ++ (rW E an nn ++ (rW E asx ss ++ (rW E ai ii ++ (rP E ap p1 ++ (rQ E ta tx ++ (rR E ar rr ++ (rH E ah hh ++ (rH E aj jj ++ (rM E am mm ++ [])))))))))))) C hG (pin (pout (pin (pout (pout (pin (pout (pout (pout (pout (pout pnil))))))))))) (List.Perm.symm (pin (pout (pin (pout (pout (pin (pout (pout (pout (pout (pout pnil)))))))))))) (gR_VP (As := [.int (xs (6 * k + 1))]) (rest := []) C hz hl.1 hG (pin (pout (pin (pout (pout (pin (pout (pout (pout (pout (pout pnil))))))))))) (c_X11_value l E ax an asx ay ap ar ai ah aj (tfOf ta tx) N (xs (6 * k + 1)) xx nn pp e1 H.size) okX11_value q1196 0 rfl rfl rfl (Nat.le_of_ble_eq_true rfl) ⟨Nat.le_of_ble_eq_true rfl, Nat.le_of_ble_eq_true rfl⟩ ⟨by show 1926 + 3 * k + 0 ≤ 600000; omega, by show 49660 + 603 * k + 0 ≤ 7302250; omega⟩ dL_law_1086) (fun H locs _ hG => ?_)
  refine g_int (v := r) rfl ?_
  refine lv_aload_n hx hb dL_law_1089 rfl (lv_at hl 2 rfl) ?_
  refine lv_aload_n hx hb dL_law_1090 rfl (lv_at hl 0 rfl) ?_
  refine lv_iload_n hx hb dL_law_1091 rfl (lv_at hl 3 rfl) ?_
  refine lv_iconst (v := 1) hx hb dL_law_1092 (by decide) ?_
  refine lv_iadd hx hb dL_law_1093 ?_
  refine g_int (v := nI (6 * k + 1)) (nI_add (6 * k) 1).symm ?_
  refine va_sld hx hb hX hbl hbA hG.2.2 (vp_in_nI (by omega) (by omega)) dL_law_1094 ?_
  refine g_int (v := xs (6 * k + 1)) (congrArg xs (cl_nI (by omega)).symm) ?_
  refine gF_i (ws' := (rX E ax an asx ay ap ar ai ah aj (tfOf ta tx) xx ++ (rY E ay ye yy ++ (rW E an nn ++ (rW E asx ss ++ (rW E ai ii ++ (rP E ap p1 ++ (rQ E ta tx ++ (rR E ar rr ++ (rH E ah hh ++ (rH E aj jj ++ (rM E am mm ++ [])))))))))))) C hG (pout (pout (pout (pout (pout (pout (pout (pout (pout (pout (pin pnil))))))))))) (List.Perm.symm (pout (pout (pout (pout (pout (pout (pout (pout (pout (pout (pin pnil)))))))))))) (gR_VP (As := [.int (xs (6 * k + 1))]) (rest := [.int r]) C hz hl.1 hG (pout (pout (pout (pout (pout (pout (pout (pout (pout (pout (pin pnil))))))))))) (c_X12_value l E am N (xs (6 * k + 1)) mm e2 H.size) okX12_value q1862 0 rfl rfl rfl (Nat.le_of_ble_eq_true rfl) ⟨Nat.le_of_ble_eq_true rfl, Nat.le_of_ble_eq_true rfl⟩ ⟨by show 1926 + 3 * k + 0 + 0 ≤ 600000; omega, by show 49660 + 603 * k + 0 + 0 ≤ 7302250; omega⟩ dL_law_1095) (fun H locs _ hG => ?_)
  refine g_int (v := r) rfl ?_
  refine lv_icmp_eq (tgt := 1596) hx hb dL_law_1098 (by decide) (fun _ => ?_) (fun q => absurd rfl q)
  refine W.widen (k := 1926 + 3 * (k + 1)) (n := 49660 + 603 * (k + 1)) (by omega) (by omega) ?_
  exact nx _ _ _ _ _ _ _ _ _ _ _ _ _ _ _ _ hG hI1 hl
set_option maxHeartbeats 8000000 in
set_option maxRecDepth 100000 in
theorem case_needs (h : LCX p l e s m below meth c Q E N b L xs ax an asx ay ap ar ai am ah aj ta tx ye xx yy nn ss ii pp rr hh jj mm k H locs ls) : W p l e room_1 s m #[Value.ref b] below meth c H locs (1926 + 3 * k) (49660 + 603 * k) Q (F0 m 1103 ls []) := by
  obtain ⟨C, hz, hX, hbl, hL, hk, hN, hG, hI, hl, nx⟩ := h
  have hx := C.1.1
  have hb : c.code = cL_law := C.1.2.1
  have hbA : ¬ (fun q : Nat => s.heap.size ≤ q) b := Nat.not_le.mpr hbl
  obtain ⟨r, p1, e1, e2⟩ := T_needs (pp := pp) hN hI (xs (6 * k + 1))
  have hI1 := hI.le (L := 16200 * k + 16200) (by omega)
  refine lv_aload_n hx hb dL_law_1103 rfl (lv_at hl 1 rfl) ?_
  refine lv_aload_n hx hb dL_law_1104 rfl (lv_at hl 0 rfl) ?_
  refine lv_iload_n hx hb dL_law_1105 rfl (lv_at hl 3 rfl) ?_
  refine lv_iconst (v := 1) hx hb dL_law_1106 (by decide) ?_
  refine lv_iadd hx hb dL_law_1107 ?_
  refine g_int (v := nI (6 * k + 1)) (nI_add (6 * k) 1).symm ?_
  refine va_sld hx hb hX hbl hbA hG.2.2 (vp_in_nI (by omega) (by omega)) dL_law_1108 ?_
  refine g_int (v := xs (6 * k + 1)) (congrArg xs (cl_nI (by omega)).symm) ?_
  refine gF_i (ws' := (rX E ax an asx ay ap ar ai ah aj (tfOf ta tx) xx ++ (rY E ay ye yy ++ (rW E an nn ++ (rW E asx ss ++ (rW E ai ii ++ (rP E ap p1 ++ (rQ E ta tx ++ (rR E ar rr ++ (rH E ah hh ++ (rH E aj jj ++ (rM E am mm ++ [])))))))))))) C hG (pin (pout (pin (pout (pout (pin (pout (pout (pout (pout (pout pnil))))))))))) (List.Perm.symm (pin (pout (pin (pout (pout (pin (pout (pout (pout (pout (pout pnil)))))))))))) (gR_VP (As := [.int (xs (6 * k + 1))]) (rest := []) C hz hl.1 hG (pin (pout (pin (pout (pout (pin (pout (pout (pout (pout (pout pnil))))))))))) (c_X11_needs l E ax an asx ay ap ar ai ah aj (tfOf ta tx) N (xs (6 * k + 1)) xx nn pp e1 H.size) okX11_needs q1213 0 rfl rfl rfl (Nat.le_of_ble_eq_true rfl) ⟨Nat.le_of_ble_eq_true rfl, Nat.le_of_ble_eq_true rfl⟩ ⟨by show 1926 + 3 * k + 0 ≤ 600000; omega, by show 49660 + 603 * k + 0 ≤ 7302250; omega⟩ dL_law_1109) (fun H locs _ hG => ?_)
  refine g_int (v := r) rfl ?_
  refine lv_aload_n hx hb dL_law_1112 rfl (lv_at hl 2 rfl) ?_
  refine lv_aload_n hx hb dL_law_1113 rfl (lv_at hl 0 rfl) ?_
  refine lv_iload_n hx hb dL_law_1114 rfl (lv_at hl 3 rfl) ?_
  refine lv_iconst (v := 1) hx hb dL_law_1115 (by decide) ?_
  refine lv_iadd hx hb dL_law_1116 ?_
  refine g_int (v := nI (6 * k + 1)) (nI_add (6 * k) 1).symm ?_
  refine va_sld hx hb hX hbl hbA hG.2.2 (vp_in_nI (by omega) (by omega)) dL_law_1117 ?_
  refine g_int (v := xs (6 * k + 1)) (congrArg xs (cl_nI (by omega)).symm) ?_
  refine gF_i (ws' := (rX E ax an asx ay ap ar ai ah aj (tfOf ta tx) xx ++ (rY E ay ye yy ++ (rW E an nn ++ (rW E asx ss ++ (rW E ai ii ++ (rP E ap p1 ++ (rQ E ta tx ++ (rR E ar rr ++ (rH E ah hh ++ (rH E aj jj ++ (rM E am mm ++ [])))))))))))) C hG (pout (pout (pout (pout (pout (pout (pout (pout (pout (pout (pin pnil))))))))))) (List.Perm.symm (pout (pout (pout (pout (pout (pout (pout (pout (pout (pout (pin pnil)))))))))))) (gR_VP (As := [.int (xs (6 * k + 1))]) (rest := [.int r]) C hz hl.1 hG (pout (pout (pout (pout (pout (pout (pout (pout (pout (pout (pin pnil))))))))))) (c_X12_needs l E am N (xs (6 * k + 1)) mm e2 H.size) okX12_needs q1878 0 rfl rfl rfl (Nat.le_of_ble_eq_true rfl) ⟨Nat.le_of_ble_eq_true rfl, Nat.le_of_ble_eq_true rfl⟩ ⟨by show 1926 + 3 * k + 0 + 0 ≤ 600000; omega, by show 49660 + 603 * k + 0 + 0 ≤ 7302250; omega⟩ dL_law_1118) (fun H locs _ hG => ?_)
  refine g_int (v := r) rfl ?_
  refine lv_icmp_eq (tgt := 1596) hx hb dL_law_1121 (by decide) (fun _ => ?_) (fun q => absurd rfl q)
  refine W.widen (k := 1926 + 3 * (k + 1)) (n := 49660 + 603 * (k + 1)) (by omega) (by omega) ?_
  exact nx _ _ _ _ _ _ _ _ _ _ _ _ _ _ _ _ hG hI1 hl
set_option maxHeartbeats 8000000 in
set_option maxRecDepth 100000 in
theorem case_threshold (h : LCX p l e s m below meth c Q E N b L xs ax an asx ay ap ar ai am ah aj ta tx ye xx yy nn ss ii pp rr hh jj mm k H locs ls) : W p l e room_1 s m #[Value.ref b] below meth c H locs (1926 + 3 * k) (49660 + 603 * k) Q (F0 m 1126 ls []) := by
  obtain ⟨C, hz, hX, hbl, hL, hk, hN, hG, hI, hl, nx⟩ := h
  have hx := C.1.1
  have hb : c.code = cL_law := C.1.2.1
  have hbA : ¬ (fun q : Nat => s.heap.size ≤ q) b := Nat.not_le.mpr hbl
  obtain ⟨r, p1, m1, e1, e2, hI1⟩ := T_threshold (pp := pp) hN hI (xs (6 * k + 1))
  refine lv_aload_n hx hb dL_law_1126 rfl (lv_at hl 1 rfl) ?_
  refine lv_aload_n hx hb dL_law_1127 rfl (lv_at hl 0 rfl) ?_
  refine lv_iload_n hx hb dL_law_1128 rfl (lv_at hl 3 rfl) ?_
  refine lv_iconst (v := 1) hx hb dL_law_1129 (by decide) ?_
  refine lv_iadd hx hb dL_law_1130 ?_
  refine g_int (v := nI (6 * k + 1)) (nI_add (6 * k) 1).symm ?_
  refine va_sld hx hb hX hbl hbA hG.2.2 (vp_in_nI (by omega) (by omega)) dL_law_1131 ?_
  refine g_int (v := xs (6 * k + 1)) (congrArg xs (cl_nI (by omega)).symm) ?_
  refine gF_i (ws' := (rX E ax an asx ay ap ar ai ah aj (tfOf ta tx) xx ++ (rY E ay ye yy ++ (rW E an nn ++ (rW E asx ss ++ (rW E ai ii ++ (rP E ap p1 ++ (rQ E ta tx ++ (rR E ar rr ++ (rH E ah hh ++ (rH E aj jj ++ (rM E am mm ++ [])))))))))))) C hG (pin (pout (pin (pout (pout (pin (pout (pout (pout (pout (pout pnil))))))))))) (List.Perm.symm (pin (pout (pin (pout (pout (pin (pout (pout (pout (pout (pout pnil)))))))))))) (gR_VP (As := [.int (xs (6 * k + 1))]) (rest := []) C hz hl.1 hG (pin (pout (pin (pout (pout (pin (pout (pout (pout (pout (pout pnil))))))))))) (c_X11_threshold l E ax an asx ay ap ar ai ah aj (tfOf ta tx) N (xs (6 * k + 1)) xx nn pp e1 H.size) okX11_threshold q1218 0 rfl rfl rfl (Nat.le_of_ble_eq_true rfl) ⟨Nat.le_of_ble_eq_true rfl, Nat.le_of_ble_eq_true rfl⟩ ⟨by show 1926 + 3 * k + 0 ≤ 600000; omega, by show 49660 + 603 * k + 0 ≤ 7302250; omega⟩ dL_law_1132) (fun H locs _ hG => ?_)
  refine g_int (v := r) rfl ?_
  refine lv_aload_n hx hb dL_law_1135 rfl (lv_at hl 2 rfl) ?_
  refine lv_aload_n hx hb dL_law_1136 rfl (lv_at hl 0 rfl) ?_
  refine lv_iload_n hx hb dL_law_1137 rfl (lv_at hl 3 rfl) ?_
  refine lv_iconst (v := 1) hx hb dL_law_1138 (by decide) ?_
  refine lv_iadd hx hb dL_law_1139 ?_
  refine g_int (v := nI (6 * k + 1)) (nI_add (6 * k) 1).symm ?_
  refine va_sld hx hb hX hbl hbA hG.2.2 (vp_in_nI (by omega) (by omega)) dL_law_1140 ?_
  refine g_int (v := xs (6 * k + 1)) (congrArg xs (cl_nI (by omega)).symm) ?_
  refine gF_i (ws' := (rX E ax an asx ay ap ar ai ah aj (tfOf ta tx) xx ++ (rY E ay ye yy ++ (rW E an nn ++ (rW E asx ss ++ (rW E ai ii ++ (rP E ap p1 ++ (rQ E ta tx ++ (rR E ar rr ++ (rH E ah hh ++ (rH E aj jj ++ (rM E am m1 ++ [])))))))))))) C hG (pout (pout (pout (pout (pout (pout (pout (pout (pout (pout (pin pnil))))))))))) (List.Perm.symm (pout (pout (pout (pout (pout (pout (pout (pout (pout (pout (pin pnil)))))))))))) (gR_VP (As := [.int (xs (6 * k + 1))]) (rest := [.int r]) C hz hl.1 hG (pout (pout (pout (pout (pout (pout (pout (pout (pout (pout (pin pnil))))))))))) (c_X12_threshold l E am N (xs (6 * k + 1)) mm e2 H.size) okX12_threshold q1882 0 rfl rfl rfl (Nat.le_of_ble_eq_true rfl) ⟨Nat.le_of_ble_eq_true rfl, Nat.le_of_ble_eq_true rfl⟩ ⟨by show 1926 + 3 * k + 0 + 0 ≤ 600000; omega, by show 49660 + 603 * k + 0 + 0 ≤ 7302250; omega⟩ dL_law_1141) (fun H locs _ hG => ?_)
  refine g_int (v := r) rfl ?_
  refine lv_icmp_eq (tgt := 1596) hx hb dL_law_1144 (by decide) (fun _ => ?_) (fun q => absurd rfl q)
  refine W.widen (k := 1926 + 3 * (k + 1)) (n := 49660 + 603 * (k + 1)) (by omega) (by omega) ?_
  exact nx _ _ _ _ _ _ _ _ _ _ _ _ _ _ _ _ hG hI1 hl
set_option maxHeartbeats 8000000 in
set_option maxRecDepth 100000 in
theorem case_displaced (h : LCX p l e s m below meth c Q E N b L xs ax an asx ay ap ar ai am ah aj ta tx ye xx yy nn ss ii pp rr hh jj mm k H locs ls) : W p l e room_1 s m #[Value.ref b] below meth c H locs (1926 + 3 * k) (49660 + 603 * k) Q (F0 m 1149 ls []) := by
  obtain ⟨C, hz, hX, hbl, hL, hk, hN, hG, hI, hl, nx⟩ := h
  have hx := C.1.1
  have hb : c.code = cL_law := C.1.2.1
  have hbA : ¬ (fun q : Nat => s.heap.size ≤ q) b := Nat.not_le.mpr hbl
  obtain ⟨r, p1, m1, e1, e2, hI1⟩ := T_displaced (pp := pp) hN hI (xs (6 * k + 1))
  refine lv_aload_n hx hb dL_law_1149 rfl (lv_at hl 1 rfl) ?_
  refine lv_aload_n hx hb dL_law_1150 rfl (lv_at hl 0 rfl) ?_
  refine lv_iload_n hx hb dL_law_1151 rfl (lv_at hl 3 rfl) ?_
  refine lv_iconst (v := 1) hx hb dL_law_1152 (by decide) ?_
  refine lv_iadd hx hb dL_law_1153 ?_
  refine g_int (v := nI (6 * k + 1)) (nI_add (6 * k) 1).symm ?_
  refine va_sld hx hb hX hbl hbA hG.2.2 (vp_in_nI (by omega) (by omega)) dL_law_1154 ?_
  refine g_int (v := xs (6 * k + 1)) (congrArg xs (cl_nI (by omega)).symm) ?_
  refine gF_i (ws' := (rX E ax an asx ay ap ar ai ah aj (tfOf ta tx) xx ++ (rY E ay ye yy ++ (rW E an nn ++ (rW E asx ss ++ (rW E ai ii ++ (rP E ap p1 ++ (rQ E ta tx ++ (rR E ar rr ++ (rH E ah hh ++ (rH E aj jj ++ (rM E am mm ++ [])))))))))))) C hG (pin (pout (pin (pout (pout (pin (pout (pout (pout (pout (pout pnil))))))))))) (List.Perm.symm (pin (pout (pin (pout (pout (pin (pout (pout (pout (pout (pout pnil)))))))))))) (gR_VP (As := [.int (xs (6 * k + 1))]) (rest := []) C hz hl.1 hG (pin (pout (pin (pout (pout (pin (pout (pout (pout (pout (pout pnil))))))))))) (c_X11_displaced l E ax an asx ay ap ar ai ah aj (tfOf ta tx) N (xs (6 * k + 1)) xx nn pp e1 H.size) okX11_displaced q1233 0 rfl rfl rfl (Nat.le_of_ble_eq_true rfl) ⟨Nat.le_of_ble_eq_true rfl, Nat.le_of_ble_eq_true rfl⟩ ⟨by show 1926 + 3 * k + 0 ≤ 600000; omega, by show 49660 + 603 * k + 0 ≤ 7302250; omega⟩ dL_law_1155) (fun H locs _ hG => ?_)
  refine g_int (v := r) rfl ?_
  refine lv_aload_n hx hb dL_law_1158 rfl (lv_at hl 2 rfl) ?_
  refine lv_aload_n hx hb dL_law_1159 rfl (lv_at hl 0 rfl) ?_
  refine lv_iload_n hx hb dL_law_1160 rfl (lv_at hl 3 rfl) ?_
  refine lv_iconst (v := 1) hx hb dL_law_1161 (by decide) ?_
  refine lv_iadd hx hb dL_law_1162 ?_
  refine g_int (v := nI (6 * k + 1)) (nI_add (6 * k) 1).symm ?_
  refine va_sld hx hb hX hbl hbA hG.2.2 (vp_in_nI (by omega) (by omega)) dL_law_1163 ?_
  refine g_int (v := xs (6 * k + 1)) (congrArg xs (cl_nI (by omega)).symm) ?_
  refine gF_i (ws' := (rX E ax an asx ay ap ar ai ah aj (tfOf ta tx) xx ++ (rY E ay ye yy ++ (rW E an nn ++ (rW E asx ss ++ (rW E ai ii ++ (rP E ap p1 ++ (rQ E ta tx ++ (rR E ar rr ++ (rH E ah hh ++ (rH E aj jj ++ (rM E am m1 ++ [])))))))))))) C hG (pout (pout (pout (pout (pout (pout (pout (pout (pout (pout (pin pnil))))))))))) (List.Perm.symm (pout (pout (pout (pout (pout (pout (pout (pout (pout (pout (pin pnil)))))))))))) (gR_VP (As := [.int (xs (6 * k + 1))]) (rest := [.int r]) C hz hl.1 hG (pout (pout (pout (pout (pout (pout (pout (pout (pout (pout (pin pnil))))))))))) (c_X12_displaced l E am N (xs (6 * k + 1)) mm e2 H.size) okX12_displaced q1898 0 rfl rfl rfl (Nat.le_of_ble_eq_true rfl) ⟨Nat.le_of_ble_eq_true rfl, Nat.le_of_ble_eq_true rfl⟩ ⟨by show 1926 + 3 * k + 0 + 0 ≤ 600000; omega, by show 49660 + 603 * k + 0 + 0 ≤ 7302250; omega⟩ dL_law_1164) (fun H locs _ hG => ?_)
  refine g_int (v := r) rfl ?_
  refine lv_icmp_eq (tgt := 1596) hx hb dL_law_1167 (by decide) (fun _ => ?_) (fun q => absurd rfl q)
  refine W.widen (k := 1926 + 3 * (k + 1)) (n := 49660 + 603 * (k + 1)) (by omega) (by omega) ?_
  exact nx _ _ _ _ _ _ _ _ _ _ _ _ _ _ _ _ hG hI1 hl
set_option maxHeartbeats 8000000 in
set_option maxRecDepth 100000 in
theorem case_may (h : LCX p l e s m below meth c Q E N b L xs ax an asx ay ap ar ai am ah aj ta tx ye xx yy nn ss ii pp rr hh jj mm k H locs ls) : W p l e room_1 s m #[Value.ref b] below meth c H locs (1926 + 3 * k) (49660 + 603 * k) Q (F0 m 1172 ls []) := by
  obtain ⟨C, hz, hX, hbl, hL, hk, hN, hG, hI, hl, nx⟩ := h
  have hx := C.1.1
  have hb : c.code = cL_law := C.1.2.1
  have hbA : ¬ (fun q : Nat => s.heap.size ≤ q) b := Nat.not_le.mpr hbl
  by_cases z0 : xs (6 * k + 2) = 0
  · obtain ⟨r, p1, e1, e2⟩ := T_may (pp := pp) hN hI (xs (6 * k + 1)) false
    replace e1 : fX11_may N (xs (6 * k + 1)) 0 xx nn pp = some (r, p1) := e1
    replace e2 : fX12_may N (xs (6 * k + 1)) 0 mm = some r := e2
    have hI1 := hI.le (L := 16200 * k + 16200) (by omega)
    refine lv_aload_n hx hb dL_law_1172 rfl (lv_at hl 1 rfl) ?_
    refine lv_aload_n hx hb dL_law_1173 rfl (lv_at hl 0 rfl) ?_
    refine lv_iload_n hx hb dL_law_1174 rfl (lv_at hl 3 rfl) ?_
    refine lv_iconst (v := 1) hx hb dL_law_1175 (by decide) ?_
    refine lv_iadd hx hb dL_law_1176 ?_
    refine g_int (v := nI (6 * k + 1)) (nI_add (6 * k) 1).symm ?_
    refine va_sld hx hb hX hbl hbA hG.2.2 (vp_in_nI (by omega) (by omega)) dL_law_1177 ?_
    refine g_int (v := xs (6 * k + 1)) (congrArg xs (cl_nI (by omega)).symm) ?_
    refine lv_aload_n hx hb dL_law_1178 rfl (lv_at hl 0 rfl) ?_
    refine lv_iload_n hx hb dL_law_1179 rfl (lv_at hl 3 rfl) ?_
    refine lv_iconst (v := 2) hx hb dL_law_1180 (by decide) ?_
    refine lv_iadd hx hb dL_law_1181 ?_
    refine g_int (v := nI (6 * k + 2)) (nI_add (6 * k) 2).symm ?_
    refine va_sld hx hb hX hbl hbA hG.2.2 (vp_in_nI (by omega) (by omega)) dL_law_1182 ?_
    refine g_int (v := xs (6 * k + 2)) (congrArg xs (cl_nI (by omega)).symm) ?_
    refine lv_if_eq (tgt := 1190) hx hb dL_law_1183 (by decide) (fun _ => ?_) (fun w => absurd z0 w)
    refine lv_iconst (v := 0) hx hb dL_law_1190 (by decide) ?_
    refine gF_i (ws' := (rX E ax an asx ay ap ar ai ah aj (tfOf ta tx) xx ++ (rY E ay ye yy ++ (rW E an nn ++ (rW E asx ss ++ (rW E ai ii ++ (rP E ap p1 ++ (rQ E ta tx ++ (rR E ar rr ++ (rH E ah hh ++ (rH E aj jj ++ (rM E am mm ++ [])))))))))))) C hG (pin (pout (pin (pout (pout (pin (pout (pout (pout (pout (pout pnil))))))))))) (List.Perm.symm (pin (pout (pin (pout (pout (pin (pout (pout (pout (pout (pout pnil)))))))))))) (gR_VP (As := [.int (xs (6 * k + 1)), .int 0]) (rest := []) C hz hl.1 hG (pin (pout (pin (pout (pout (pin (pout (pout (pout (pout (pout pnil))))))))))) (c_X11_may l E ax an asx ay ap ar ai ah aj (tfOf ta tx) N (xs (6 * k + 1)) 0 xx nn pp e1 H.size) okX11_may q1237 0 rfl rfl rfl (Nat.le_of_ble_eq_true rfl) ⟨Nat.le_of_ble_eq_true rfl, Nat.le_of_ble_eq_true rfl⟩ ⟨by show 1926 + 3 * k + 0 ≤ 600000; omega, by show 49660 + 603 * k + 0 ≤ 7302250; omega⟩ dL_law_1191) (fun H locs _ hG => ?_)
    refine g_int (v := r) rfl ?_
    refine lv_aload_n hx hb dL_law_1194 rfl (lv_at hl 2 rfl) ?_
    refine lv_aload_n hx hb dL_law_1195 rfl (lv_at hl 0 rfl) ?_
    refine lv_iload_n hx hb dL_law_1196 rfl (lv_at hl 3 rfl) ?_
    refine lv_iconst (v := 1) hx hb dL_law_1197 (by decide) ?_
    refine lv_iadd hx hb dL_law_1198 ?_
    refine g_int (v := nI (6 * k + 1)) (nI_add (6 * k) 1).symm ?_
    refine va_sld hx hb hX hbl hbA hG.2.2 (vp_in_nI (by omega) (by omega)) dL_law_1199 ?_
    refine g_int (v := xs (6 * k + 1)) (congrArg xs (cl_nI (by omega)).symm) ?_
    refine lv_aload_n hx hb dL_law_1200 rfl (lv_at hl 0 rfl) ?_
    refine lv_iload_n hx hb dL_law_1201 rfl (lv_at hl 3 rfl) ?_
    refine lv_iconst (v := 2) hx hb dL_law_1202 (by decide) ?_
    refine lv_iadd hx hb dL_law_1203 ?_
    refine g_int (v := nI (6 * k + 2)) (nI_add (6 * k) 2).symm ?_
    refine va_sld hx hb hX hbl hbA hG.2.2 (vp_in_nI (by omega) (by omega)) dL_law_1204 ?_
    refine g_int (v := xs (6 * k + 2)) (congrArg xs (cl_nI (by omega)).symm) ?_
    refine lv_if_eq (tgt := 1212) hx hb dL_law_1205 (by decide) (fun _ => ?_) (fun w => absurd z0 w)
    refine lv_iconst (v := 0) hx hb dL_law_1212 (by decide) ?_
    refine gF_i (ws' := (rX E ax an asx ay ap ar ai ah aj (tfOf ta tx) xx ++ (rY E ay ye yy ++ (rW E an nn ++ (rW E asx ss ++ (rW E ai ii ++ (rP E ap p1 ++ (rQ E ta tx ++ (rR E ar rr ++ (rH E ah hh ++ (rH E aj jj ++ (rM E am mm ++ [])))))))))))) C hG (pout (pout (pout (pout (pout (pout (pout (pout (pout (pout (pin pnil))))))))))) (List.Perm.symm (pout (pout (pout (pout (pout (pout (pout (pout (pout (pout (pin pnil)))))))))))) (gR_VP (As := [.int (xs (6 * k + 1)), .int 0]) (rest := [.int r]) C hz hl.1 hG (pout (pout (pout (pout (pout (pout (pout (pout (pout (pout (pin pnil))))))))))) (c_X12_may l E am N (xs (6 * k + 1)) 0 mm e2 H.size) okX12_may q1866 0 rfl rfl rfl (Nat.le_of_ble_eq_true rfl) ⟨Nat.le_of_ble_eq_true rfl, Nat.le_of_ble_eq_true rfl⟩ ⟨by show 1926 + 3 * k + 0 + 0 ≤ 600000; omega, by show 49660 + 603 * k + 0 + 0 ≤ 7302250; omega⟩ dL_law_1213) (fun H locs _ hG => ?_)
    refine g_int (v := r) rfl ?_
    refine lv_icmp_eq (tgt := 1596) hx hb dL_law_1216 (by decide) (fun _ => ?_) (fun q => absurd rfl q)
    refine W.widen (k := 1926 + 3 * (k + 1)) (n := 49660 + 603 * (k + 1)) (by omega) (by omega) ?_
    exact nx _ _ _ _ _ _ _ _ _ _ _ _ _ _ _ _ hG hI1 hl
  · obtain ⟨r, p1, e1, e2⟩ := T_may (pp := pp) hN hI (xs (6 * k + 1)) true
    replace e1 : fX11_may N (xs (6 * k + 1)) 1 xx nn pp = some (r, p1) := e1
    replace e2 : fX12_may N (xs (6 * k + 1)) 1 mm = some r := e2
    have hI1 := hI.le (L := 16200 * k + 16200) (by omega)
    refine lv_aload_n hx hb dL_law_1172 rfl (lv_at hl 1 rfl) ?_
    refine lv_aload_n hx hb dL_law_1173 rfl (lv_at hl 0 rfl) ?_
    refine lv_iload_n hx hb dL_law_1174 rfl (lv_at hl 3 rfl) ?_
    refine lv_iconst (v := 1) hx hb dL_law_1175 (by decide) ?_
    refine lv_iadd hx hb dL_law_1176 ?_
    refine g_int (v := nI (6 * k + 1)) (nI_add (6 * k) 1).symm ?_
    refine va_sld hx hb hX hbl hbA hG.2.2 (vp_in_nI (by omega) (by omega)) dL_law_1177 ?_
    refine g_int (v := xs (6 * k + 1)) (congrArg xs (cl_nI (by omega)).symm) ?_
    refine lv_aload_n hx hb dL_law_1178 rfl (lv_at hl 0 rfl) ?_
    refine lv_iload_n hx hb dL_law_1179 rfl (lv_at hl 3 rfl) ?_
    refine lv_iconst (v := 2) hx hb dL_law_1180 (by decide) ?_
    refine lv_iadd hx hb dL_law_1181 ?_
    refine g_int (v := nI (6 * k + 2)) (nI_add (6 * k) 2).symm ?_
    refine va_sld hx hb hX hbl hbA hG.2.2 (vp_in_nI (by omega) (by omega)) dL_law_1182 ?_
    refine g_int (v := xs (6 * k + 2)) (congrArg xs (cl_nI (by omega)).symm) ?_
    refine lv_if_eq (tgt := 1190) hx hb dL_law_1183 (by decide) (fun w => absurd w z0) (fun _ => ?_)
    refine lv_iconst (v := 1) hx hb dL_law_1186 (by decide) ?_
    refine lv_goto (tgt := 1191) hx hb dL_law_1187 (by decide) ?_
    refine gF_i (ws' := (rX E ax an asx ay ap ar ai ah aj (tfOf ta tx) xx ++ (rY E ay ye yy ++ (rW E an nn ++ (rW E asx ss ++ (rW E ai ii ++ (rP E ap p1 ++ (rQ E ta tx ++ (rR E ar rr ++ (rH E ah hh ++ (rH E aj jj ++ (rM E am mm ++ [])))))))))))) C hG (pin (pout (pin (pout (pout (pin (pout (pout (pout (pout (pout pnil))))))))))) (List.Perm.symm (pin (pout (pin (pout (pout (pin (pout (pout (pout (pout (pout pnil)))))))))))) (gR_VP (As := [.int (xs (6 * k + 1)), .int 1]) (rest := []) C hz hl.1 hG (pin (pout (pin (pout (pout (pin (pout (pout (pout (pout (pout pnil))))))))))) (c_X11_may l E ax an asx ay ap ar ai ah aj (tfOf ta tx) N (xs (6 * k + 1)) 1 xx nn pp e1 H.size) okX11_may q1237 0 rfl rfl rfl (Nat.le_of_ble_eq_true rfl) ⟨Nat.le_of_ble_eq_true rfl, Nat.le_of_ble_eq_true rfl⟩ ⟨by show 1926 + 3 * k + 0 ≤ 600000; omega, by show 49660 + 603 * k + 0 ≤ 7302250; omega⟩ dL_law_1191) (fun H locs _ hG => ?_)
    refine g_int (v := r) rfl ?_
    refine lv_aload_n hx hb dL_law_1194 rfl (lv_at hl 2 rfl) ?_
    refine lv_aload_n hx hb dL_law_1195 rfl (lv_at hl 0 rfl) ?_
    refine lv_iload_n hx hb dL_law_1196 rfl (lv_at hl 3 rfl) ?_
    refine lv_iconst (v := 1) hx hb dL_law_1197 (by decide) ?_
    refine lv_iadd hx hb dL_law_1198 ?_
    refine g_int (v := nI (6 * k + 1)) (nI_add (6 * k) 1).symm ?_
    refine va_sld hx hb hX hbl hbA hG.2.2 (vp_in_nI (by omega) (by omega)) dL_law_1199 ?_
    refine g_int (v := xs (6 * k + 1)) (congrArg xs (cl_nI (by omega)).symm) ?_
    refine lv_aload_n hx hb dL_law_1200 rfl (lv_at hl 0 rfl) ?_
    refine lv_iload_n hx hb dL_law_1201 rfl (lv_at hl 3 rfl) ?_
    refine lv_iconst (v := 2) hx hb dL_law_1202 (by decide) ?_
    refine lv_iadd hx hb dL_law_1203 ?_
    refine g_int (v := nI (6 * k + 2)) (nI_add (6 * k) 2).symm ?_
    refine va_sld hx hb hX hbl hbA hG.2.2 (vp_in_nI (by omega) (by omega)) dL_law_1204 ?_
    refine g_int (v := xs (6 * k + 2)) (congrArg xs (cl_nI (by omega)).symm) ?_
    refine lv_if_eq (tgt := 1212) hx hb dL_law_1205 (by decide) (fun w => absurd w z0) (fun _ => ?_)
    refine lv_iconst (v := 1) hx hb dL_law_1208 (by decide) ?_
    refine lv_goto (tgt := 1213) hx hb dL_law_1209 (by decide) ?_
    refine gF_i (ws' := (rX E ax an asx ay ap ar ai ah aj (tfOf ta tx) xx ++ (rY E ay ye yy ++ (rW E an nn ++ (rW E asx ss ++ (rW E ai ii ++ (rP E ap p1 ++ (rQ E ta tx ++ (rR E ar rr ++ (rH E ah hh ++ (rH E aj jj ++ (rM E am mm ++ [])))))))))))) C hG (pout (pout (pout (pout (pout (pout (pout (pout (pout (pout (pin pnil))))))))))) (List.Perm.symm (pout (pout (pout (pout (pout (pout (pout (pout (pout (pout (pin pnil)))))))))))) (gR_VP (As := [.int (xs (6 * k + 1)), .int 1]) (rest := [.int r]) C hz hl.1 hG (pout (pout (pout (pout (pout (pout (pout (pout (pout (pout (pin pnil))))))))))) (c_X12_may l E am N (xs (6 * k + 1)) 1 mm e2 H.size) okX12_may q1866 0 rfl rfl rfl (Nat.le_of_ble_eq_true rfl) ⟨Nat.le_of_ble_eq_true rfl, Nat.le_of_ble_eq_true rfl⟩ ⟨by show 1926 + 3 * k + 0 + 0 ≤ 600000; omega, by show 49660 + 603 * k + 0 + 0 ≤ 7302250; omega⟩ dL_law_1213) (fun H locs _ hG => ?_)
    refine g_int (v := r) rfl ?_
    refine lv_icmp_eq (tgt := 1596) hx hb dL_law_1216 (by decide) (fun _ => ?_) (fun q => absurd rfl q)
    refine W.widen (k := 1926 + 3 * (k + 1)) (n := 49660 + 603 * (k + 1)) (by omega) (by omega) ?_
    exact nx _ _ _ _ _ _ _ _ _ _ _ _ _ _ _ _ hG hI1 hl
set_option maxHeartbeats 8000000 in
set_option maxRecDepth 100000 in
theorem case_next (h : LCX p l e s m below meth c Q E N b L xs ax an asx ay ap ar ai am ah aj ta tx ye xx yy nn ss ii pp rr hh jj mm k H locs ls) : W p l e room_1 s m #[Value.ref b] below meth c H locs (1926 + 3 * k) (49660 + 603 * k) Q (F0 m 1221 ls []) := by
  obtain ⟨C, hz, hX, hbl, hL, hk, hN, hG, hI, hl, nx⟩ := h
  have hx := C.1.1
  have hb : c.code = cL_law := C.1.2.1
  have hbA : ¬ (fun q : Nat => s.heap.size ≤ q) b := Nat.not_le.mpr hbl
  obtain ⟨r, p1, m1, e1, e2, hI1⟩ := T_next (pp := pp) hN hI (xs (6 * k + 1))
  refine lv_aload_n hx hb dL_law_1221 rfl (lv_at hl 1 rfl) ?_
  refine lv_aload_n hx hb dL_law_1222 rfl (lv_at hl 0 rfl) ?_
  refine lv_iload_n hx hb dL_law_1223 rfl (lv_at hl 3 rfl) ?_
  refine lv_iconst (v := 1) hx hb dL_law_1224 (by decide) ?_
  refine lv_iadd hx hb dL_law_1225 ?_
  refine g_int (v := nI (6 * k + 1)) (nI_add (6 * k) 1).symm ?_
  refine va_sld hx hb hX hbl hbA hG.2.2 (vp_in_nI (by omega) (by omega)) dL_law_1226 ?_
  refine g_int (v := xs (6 * k + 1)) (congrArg xs (cl_nI (by omega)).symm) ?_
  refine gF_i (ws' := (rX E ax an asx ay ap ar ai ah aj (tfOf ta tx) xx ++ (rY E ay ye yy ++ (rW E an nn ++ (rW E asx ss ++ (rW E ai ii ++ (rP E ap p1 ++ (rQ E ta tx ++ (rR E ar rr ++ (rH E ah hh ++ (rH E aj jj ++ (rM E am mm ++ [])))))))))))) C hG (pin (pout (pin (pout (pout (pin (pout (pout (pout (pout (pout pnil))))))))))) (List.Perm.symm (pin (pout (pin (pout (pout (pin (pout (pout (pout (pout (pout pnil)))))))))))) (gR_VP (As := [.int (xs (6 * k + 1))]) (rest := []) C hz hl.1 hG (pin (pout (pin (pout (pout (pin (pout (pout (pout (pout (pout pnil))))))))))) (c_X11_next l E ax an asx ay ap ar ai ah aj (tfOf ta tx) N (xs (6 * k + 1)) xx nn pp e1 H.size) okX11_next q1243 0 rfl rfl rfl (Nat.le_of_ble_eq_true rfl) ⟨Nat.le_of_ble_eq_true rfl, Nat.le_of_ble_eq_true rfl⟩ ⟨by show 1926 + 3 * k + 0 ≤ 600000; omega, by show 49660 + 603 * k + 0 ≤ 7302250; omega⟩ dL_law_1227) (fun H locs _ hG => ?_)
  refine g_int (v := r) rfl ?_
  refine lv_aload_n hx hb dL_law_1230 rfl (lv_at hl 2 rfl) ?_
  refine lv_aload_n hx hb dL_law_1231 rfl (lv_at hl 0 rfl) ?_
  refine lv_iload_n hx hb dL_law_1232 rfl (lv_at hl 3 rfl) ?_
  refine lv_iconst (v := 1) hx hb dL_law_1233 (by decide) ?_
  refine lv_iadd hx hb dL_law_1234 ?_
  refine g_int (v := nI (6 * k + 1)) (nI_add (6 * k) 1).symm ?_
  refine va_sld hx hb hX hbl hbA hG.2.2 (vp_in_nI (by omega) (by omega)) dL_law_1235 ?_
  refine g_int (v := xs (6 * k + 1)) (congrArg xs (cl_nI (by omega)).symm) ?_
  refine gF_i (ws' := (rX E ax an asx ay ap ar ai ah aj (tfOf ta tx) xx ++ (rY E ay ye yy ++ (rW E an nn ++ (rW E asx ss ++ (rW E ai ii ++ (rP E ap p1 ++ (rQ E ta tx ++ (rR E ar rr ++ (rH E ah hh ++ (rH E aj jj ++ (rM E am m1 ++ [])))))))))))) C hG (pout (pout (pout (pout (pout (pout (pout (pout (pout (pout (pin pnil))))))))))) (List.Perm.symm (pout (pout (pout (pout (pout (pout (pout (pout (pout (pout (pin pnil)))))))))))) (gR_VP (As := [.int (xs (6 * k + 1))]) (rest := [.int r]) C hz hl.1 hG (pout (pout (pout (pout (pout (pout (pout (pout (pout (pout (pin pnil))))))))))) (c_X12_next l E am N (xs (6 * k + 1)) mm e2 H.size) okX12_next q1870 0 rfl rfl rfl (Nat.le_of_ble_eq_true rfl) ⟨Nat.le_of_ble_eq_true rfl, Nat.le_of_ble_eq_true rfl⟩ ⟨by show 1926 + 3 * k + 0 + 0 ≤ 600000; omega, by show 49660 + 603 * k + 0 + 0 ≤ 7302250; omega⟩ dL_law_1236) (fun H locs _ hG => ?_)
  refine g_int (v := r) rfl ?_
  refine lv_icmp_eq (tgt := 1596) hx hb dL_law_1239 (by decide) (fun _ => ?_) (fun q => absurd rfl q)
  refine W.widen (k := 1926 + 3 * (k + 1)) (n := 49660 + 603 * (k + 1)) (by omega) (by omega) ?_
  exact nx _ _ _ _ _ _ _ _ _ _ _ _ _ _ _ _ hG hI1 hl
set_option maxHeartbeats 8000000 in
set_option maxRecDepth 100000 in
theorem case_enough (h : LCX p l e s m below meth c Q E N b L xs ax an asx ay ap ar ai am ah aj ta tx ye xx yy nn ss ii pp rr hh jj mm k H locs ls) : W p l e room_1 s m #[Value.ref b] below meth c H locs (1926 + 3 * k) (49660 + 603 * k) Q (F0 m 1244 ls []) := by
  obtain ⟨C, hz, hX, hbl, hL, hk, hN, hG, hI, hl, nx⟩ := h
  have hx := C.1.1
  have hb : c.code = cL_law := C.1.2.1
  have hbA : ¬ (fun q : Nat => s.heap.size ≤ q) b := Nat.not_le.mpr hbl
  obtain ⟨r, p1, e1, e2⟩ := T_enough (pp := pp) hN hI
  have hI1 := hI.le (L := 16200 * k + 16200) (by omega)
  refine lv_aload_n hx hb dL_law_1244 rfl (lv_at hl 1 rfl) ?_
  refine gF_i (ws' := (rX E ax an asx ay ap ar ai ah aj (tfOf ta tx) xx ++ (rY E ay ye yy ++ (rW E an nn ++ (rW E asx ss ++ (rW E ai ii ++ (rP E ap p1 ++ (rQ E ta tx ++ (rR E ar rr ++ (rH E ah hh ++ (rH E aj jj ++ (rM E am mm ++ [])))))))))))) C hG (pin (pout (pin (pout (pout (pin (pout (pout (pout (pout (pout pnil))))))))))) (List.Perm.symm (pin (pout (pin (pout (pout (pin (pout (pout (pout (pout (pout pnil)))))))))))) (gR_VP (As := []) (rest := []) C hz hl.1 hG (pin (pout (pin (pout (pout (pin (pout (pout (pout (pout (pout pnil))))))))))) (c_X11_enough l E ax an asx ay ap ar ai ah aj (tfOf ta tx) N xx nn pp e1 H.size) okX11_enough q1248 0 rfl rfl rfl (Nat.le_of_ble_eq_true rfl) ⟨Nat.le_of_ble_eq_true rfl, Nat.le_of_ble_eq_true rfl⟩ ⟨by show 1926 + 3 * k + 0 ≤ 600000; omega, by show 49660 + 603 * k + 0 ≤ 7302250; omega⟩ dL_law_1245) (fun H locs _ hG => ?_)
  refine g_int (v := r) rfl ?_
  refine lv_aload_n hx hb dL_law_1248 rfl (lv_at hl 2 rfl) ?_
  refine gF_i (ws' := (rX E ax an asx ay ap ar ai ah aj (tfOf ta tx) xx ++ (rY E ay ye yy ++ (rW E an nn ++ (rW E asx ss ++ (rW E ai ii ++ (rP E ap p1 ++ (rQ E ta tx ++ (rR E ar rr ++ (rH E ah hh ++ (rH E aj jj ++ (rM E am mm ++ [])))))))))))) C hG (pout (pout (pout (pout (pout (pout (pout (pout (pout (pout (pin pnil))))))))))) (List.Perm.symm (pout (pout (pout (pout (pout (pout (pout (pout (pout (pout (pin pnil)))))))))))) (gR_VP (As := []) (rest := [.int r]) C hz hl.1 hG (pout (pout (pout (pout (pout (pout (pout (pout (pout (pout (pin pnil))))))))))) (c_X12_enough l E am N mm e2 H.size) okX12_enough q1874 0 rfl rfl rfl (Nat.le_of_ble_eq_true rfl) ⟨Nat.le_of_ble_eq_true rfl, Nat.le_of_ble_eq_true rfl⟩ ⟨by show 1926 + 3 * k + 0 + 0 ≤ 600000; omega, by show 49660 + 603 * k + 0 + 0 ≤ 7302250; omega⟩ dL_law_1249) (fun H locs _ hG => ?_)
  refine g_int (v := r) rfl ?_
  refine lv_icmp_eq (tgt := 1596) hx hb dL_law_1252 (by decide) (fun _ => ?_) (fun q => absurd rfl q)
  refine W.widen (k := 1926 + 3 * (k + 1)) (n := 49660 + 603 * (k + 1)) (by omega) (by omega) ?_
  exact nx _ _ _ _ _ _ _ _ _ _ _ _ _ _ _ _ hG hI1 hl
set_option maxHeartbeats 8000000 in
set_option maxRecDepth 100000 in
theorem case_gained (h : LCX p l e s m below meth c Q E N b L xs ax an asx ay ap ar ai am ah aj ta tx ye xx yy nn ss ii pp rr hh jj mm k H locs ls) : W p l e room_1 s m #[Value.ref b] below meth c H locs (1926 + 3 * k) (49660 + 603 * k) Q (F0 m 1257 ls []) := by
  obtain ⟨C, hz, hX, hbl, hL, hk, hN, hG, hI, hl, nx⟩ := h
  have hx := C.1.1
  have hb : c.code = cL_law := C.1.2.1
  have hbA : ¬ (fun q : Nat => s.heap.size ≤ q) b := Nat.not_le.mpr hbl
  obtain ⟨r, e1, e2⟩ := T_gained hN hI (xs (6 * k + 1))
  have hI1 := hI.le (L := 16200 * k + 16200) (by omega)
  refine lv_aload_n hx hb dL_law_1257 rfl (lv_at hl 1 rfl) ?_
  refine lv_aload_n hx hb dL_law_1258 rfl (lv_at hl 0 rfl) ?_
  refine lv_iload_n hx hb dL_law_1259 rfl (lv_at hl 3 rfl) ?_
  refine lv_iconst (v := 1) hx hb dL_law_1260 (by decide) ?_
  refine lv_iadd hx hb dL_law_1261 ?_
  refine g_int (v := nI (6 * k + 1)) (nI_add (6 * k) 1).symm ?_
  refine va_sld hx hb hX hbl hbA hG.2.2 (vp_in_nI (by omega) (by omega)) dL_law_1262 ?_
  refine g_int (v := xs (6 * k + 1)) (congrArg xs (cl_nI (by omega)).symm) ?_
  refine gF_i (ws' := (rX E ax an asx ay ap ar ai ah aj (tfOf ta tx) xx ++ (rY E ay ye yy ++ (rW E an nn ++ (rW E asx ss ++ (rW E ai ii ++ (rP E ap pp ++ (rQ E ta tx ++ (rR E ar rr ++ (rH E ah hh ++ (rH E aj jj ++ (rM E am mm ++ [])))))))))))) C hG (pin (pout (pin (pout (pout (pout (pout (pout (pout (pout (pout pnil))))))))))) (List.Perm.symm (pin (pout (pin (pout (pout (pout (pout (pout (pout (pout (pout pnil)))))))))))) (gR_VP (As := [.int (xs (6 * k + 1))]) (rest := []) C hz hl.1 hG (pin (pout (pin (pout (pout (pout (pout (pout (pout (pout (pout pnil))))))))))) (c_X11_gained l E ax an asx ay ap ar ai ah aj (tfOf ta tx) N (xs (6 * k + 1)) xx nn e1 H.size) okX11_gained q1252 0 rfl rfl rfl (Nat.le_of_ble_eq_true rfl) ⟨Nat.le_of_ble_eq_true rfl, Nat.le_of_ble_eq_true rfl⟩ ⟨by show 1926 + 3 * k + 0 ≤ 600000; omega, by show 49660 + 603 * k + 0 ≤ 7302250; omega⟩ dL_law_1263) (fun H locs _ hG => ?_)
  refine g_int (v := r) rfl ?_
  refine lv_aload_n hx hb dL_law_1266 rfl (lv_at hl 2 rfl) ?_
  refine lv_aload_n hx hb dL_law_1267 rfl (lv_at hl 0 rfl) ?_
  refine lv_iload_n hx hb dL_law_1268 rfl (lv_at hl 3 rfl) ?_
  refine lv_iconst (v := 1) hx hb dL_law_1269 (by decide) ?_
  refine lv_iadd hx hb dL_law_1270 ?_
  refine g_int (v := nI (6 * k + 1)) (nI_add (6 * k) 1).symm ?_
  refine va_sld hx hb hX hbl hbA hG.2.2 (vp_in_nI (by omega) (by omega)) dL_law_1271 ?_
  refine g_int (v := xs (6 * k + 1)) (congrArg xs (cl_nI (by omega)).symm) ?_
  refine gF_i (ws' := (rX E ax an asx ay ap ar ai ah aj (tfOf ta tx) xx ++ (rY E ay ye yy ++ (rW E an nn ++ (rW E asx ss ++ (rW E ai ii ++ (rP E ap pp ++ (rQ E ta tx ++ (rR E ar rr ++ (rH E ah hh ++ (rH E aj jj ++ (rM E am mm ++ [])))))))))))) C hG (pout (pout (pout (pout (pout (pout (pout (pout (pout (pout (pin pnil))))))))))) (List.Perm.symm (pout (pout (pout (pout (pout (pout (pout (pout (pout (pout (pin pnil)))))))))))) (gR_VP (As := [.int (xs (6 * k + 1))]) (rest := [.int r]) C hz hl.1 hG (pout (pout (pout (pout (pout (pout (pout (pout (pout (pout (pin pnil))))))))))) (c_X12_gained l E am N (xs (6 * k + 1)) mm e2 H.size) okX12_gained q1903 0 rfl rfl rfl (Nat.le_of_ble_eq_true rfl) ⟨Nat.le_of_ble_eq_true rfl, Nat.le_of_ble_eq_true rfl⟩ ⟨by show 1926 + 3 * k + 0 + 0 ≤ 600000; omega, by show 49660 + 603 * k + 0 + 0 ≤ 7302250; omega⟩ dL_law_1272) (fun H locs _ hG => ?_)
  refine g_int (v := r) rfl ?_
  refine lv_icmp_eq (tgt := 1596) hx hb dL_law_1275 (by decide) (fun _ => ?_) (fun q => absurd rfl q)
  refine W.widen (k := 1926 + 3 * (k + 1)) (n := 49660 + 603 * (k + 1)) (by omega) (by omega) ?_
  exact nx _ _ _ _ _ _ _ _ _ _ _ _ _ _ _ _ hG hI1 hl
set_option maxHeartbeats 8000000 in
set_option maxRecDepth 100000 in
theorem case_foretold (h : LCX p l e s m below meth c Q E N b L xs ax an asx ay ap ar ai am ah aj ta tx ye xx yy nn ss ii pp rr hh jj mm k H locs ls) : W p l e room_1 s m #[Value.ref b] below meth c H locs (1926 + 3 * k) (49660 + 603 * k) Q (F0 m 1280 ls []) := by
  obtain ⟨C, hz, hX, hbl, hL, hk, hN, hG, hI, hl, nx⟩ := h
  have hx := C.1.1
  have hb : c.code = cL_law := C.1.2.1
  have hbA : ¬ (fun q : Nat => s.heap.size ≤ q) b := Nat.not_le.mpr hbl
  obtain ⟨r, s1, p1, m1, e1, e2, hI1⟩ := T_foretold (ss := ss) (pp := pp) hN hI (xs (6 * k + 1)) (xs (6 * k + 2))
  refine lv_aload_n hx hb dL_law_1280 rfl (lv_at hl 1 rfl) ?_
  refine lv_aload_n hx hb dL_law_1281 rfl (lv_at hl 0 rfl) ?_
  refine lv_iload_n hx hb dL_law_1282 rfl (lv_at hl 3 rfl) ?_
  refine lv_iconst (v := 1) hx hb dL_law_1283 (by decide) ?_
  refine lv_iadd hx hb dL_law_1284 ?_
  refine g_int (v := nI (6 * k + 1)) (nI_add (6 * k) 1).symm ?_
  refine va_sld hx hb hX hbl hbA hG.2.2 (vp_in_nI (by omega) (by omega)) dL_law_1285 ?_
  refine g_int (v := xs (6 * k + 1)) (congrArg xs (cl_nI (by omega)).symm) ?_
  refine lv_aload_n hx hb dL_law_1286 rfl (lv_at hl 0 rfl) ?_
  refine lv_iload_n hx hb dL_law_1287 rfl (lv_at hl 3 rfl) ?_
  refine lv_iconst (v := 2) hx hb dL_law_1288 (by decide) ?_
  refine lv_iadd hx hb dL_law_1289 ?_
  refine g_int (v := nI (6 * k + 2)) (nI_add (6 * k) 2).symm ?_
  refine va_sld hx hb hX hbl hbA hG.2.2 (vp_in_nI (by omega) (by omega)) dL_law_1290 ?_
  refine g_int (v := xs (6 * k + 2)) (congrArg xs (cl_nI (by omega)).symm) ?_
  refine gF_i (ws' := (rX E ax an asx ay ap ar ai ah aj (tfOf ta tx) xx ++ (rY E ay ye yy ++ (rW E an nn ++ (rW E asx s1 ++ (rW E ai ii ++ (rP E ap p1 ++ (rQ E ta tx ++ (rR E ar rr ++ (rH E ah hh ++ (rH E aj jj ++ (rM E am mm ++ [])))))))))))) C hG (pin (pout (pin (pin (pout (pin (pout (pout (pout (pout (pout pnil))))))))))) (List.Perm.symm (pin (pout (pin (pin (pout (pin (pout (pout (pout (pout (pout pnil)))))))))))) (gR_VP (As := [.int (xs (6 * k + 1)), .int (xs (6 * k + 2))]) (rest := []) C hz hl.1 hG (pin (pout (pin (pin (pout (pin (pout (pout (pout (pout (pout pnil))))))))))) (c_X11_foretold l E ax an asx ay ap ar ai ah aj (tfOf ta tx) N (xs (6 * k + 1)) (xs (6 * k + 2)) xx nn ss pp e1 H.size) okX11_foretold q1256 0 rfl rfl rfl (Nat.le_of_ble_eq_true rfl) ⟨Nat.le_of_ble_eq_true rfl, Nat.le_of_ble_eq_true rfl⟩ ⟨by show 1926 + 3 * k + 0 ≤ 600000; omega, by show 49660 + 603 * k + 0 ≤ 7302250; omega⟩ dL_law_1291) (fun H locs _ hG => ?_)
  refine g_int (v := r) rfl ?_
  refine lv_aload_n hx hb dL_law_1294 rfl (lv_at hl 2 rfl) ?_
  refine lv_aload_n hx hb dL_law_1295 rfl (lv_at hl 0 rfl) ?_
  refine lv_iload_n hx hb dL_law_1296 rfl (lv_at hl 3 rfl) ?_
  refine lv_iconst (v := 1) hx hb dL_law_1297 (by decide) ?_
  refine lv_iadd hx hb dL_law_1298 ?_
  refine g_int (v := nI (6 * k + 1)) (nI_add (6 * k) 1).symm ?_
  refine va_sld hx hb hX hbl hbA hG.2.2 (vp_in_nI (by omega) (by omega)) dL_law_1299 ?_
  refine g_int (v := xs (6 * k + 1)) (congrArg xs (cl_nI (by omega)).symm) ?_
  refine lv_aload_n hx hb dL_law_1300 rfl (lv_at hl 0 rfl) ?_
  refine lv_iload_n hx hb dL_law_1301 rfl (lv_at hl 3 rfl) ?_
  refine lv_iconst (v := 2) hx hb dL_law_1302 (by decide) ?_
  refine lv_iadd hx hb dL_law_1303 ?_
  refine g_int (v := nI (6 * k + 2)) (nI_add (6 * k) 2).symm ?_
  refine va_sld hx hb hX hbl hbA hG.2.2 (vp_in_nI (by omega) (by omega)) dL_law_1304 ?_
  refine g_int (v := xs (6 * k + 2)) (congrArg xs (cl_nI (by omega)).symm) ?_
  refine gF_i (ws' := (rX E ax an asx ay ap ar ai ah aj (tfOf ta tx) xx ++ (rY E ay ye yy ++ (rW E an nn ++ (rW E asx s1 ++ (rW E ai ii ++ (rP E ap p1 ++ (rQ E ta tx ++ (rR E ar rr ++ (rH E ah hh ++ (rH E aj jj ++ (rM E am m1 ++ [])))))))))))) C hG (pout (pout (pout (pout (pout (pout (pout (pout (pout (pout (pin pnil))))))))))) (List.Perm.symm (pout (pout (pout (pout (pout (pout (pout (pout (pout (pout (pin pnil)))))))))))) (gR_VP (As := [.int (xs (6 * k + 1)), .int (xs (6 * k + 2))]) (rest := [.int r]) C hz hl.1 hG (pout (pout (pout (pout (pout (pout (pout (pout (pout (pout (pin pnil))))))))))) (c_X12_foretold l E am N (xs (6 * k + 1)) (xs (6 * k + 2)) mm e2 H.size) okX12_foretold q1907 0 rfl rfl rfl (Nat.le_of_ble_eq_true rfl) ⟨Nat.le_of_ble_eq_true rfl, Nat.le_of_ble_eq_true rfl⟩ ⟨by show 1926 + 3 * k + 0 + 0 ≤ 600000; omega, by show 49660 + 603 * k + 0 + 0 ≤ 7302250; omega⟩ dL_law_1305) (fun H locs _ hG => ?_)
  refine g_int (v := r) rfl ?_
  refine lv_icmp_eq (tgt := 1596) hx hb dL_law_1308 (by decide) (fun _ => ?_) (fun q => absurd rfl q)
  refine W.widen (k := 1926 + 3 * (k + 1)) (n := 49660 + 603 * (k + 1)) (by omega) (by omega) ?_
  exact nx _ _ _ _ _ _ _ _ _ _ _ _ _ _ _ _ hG hI1 hl
set_option maxHeartbeats 8000000 in
set_option maxRecDepth 100000 in
theorem case_copies (h : LCX p l e s m below meth c Q E N b L xs ax an asx ay ap ar ai am ah aj ta tx ye xx yy nn ss ii pp rr hh jj mm k H locs ls) : W p l e room_1 s m #[Value.ref b] below meth c H locs (1926 + 3 * k) (49660 + 603 * k) Q (F0 m 1313 ls []) := by
  obtain ⟨C, hz, hX, hbl, hL, hk, hN, hG, hI, hl, nx⟩ := h
  have hx := C.1.1
  have hb : c.code = cL_law := C.1.2.1
  have hbA : ¬ (fun q : Nat => s.heap.size ≤ q) b := Nat.not_le.mpr hbl
  obtain ⟨r, s1, p1, m1, e1, e2, hI1⟩ := T_copies (ss := ss) (pp := pp) hN hI (xs (6 * k + 1))
  refine lv_aload_n hx hb dL_law_1313 rfl (lv_at hl 1 rfl) ?_
  refine lv_aload_n hx hb dL_law_1314 rfl (lv_at hl 0 rfl) ?_
  refine lv_iload_n hx hb dL_law_1315 rfl (lv_at hl 3 rfl) ?_
  refine lv_iconst (v := 1) hx hb dL_law_1316 (by decide) ?_
  refine lv_iadd hx hb dL_law_1317 ?_
  refine g_int (v := nI (6 * k + 1)) (nI_add (6 * k) 1).symm ?_
  refine va_sld hx hb hX hbl hbA hG.2.2 (vp_in_nI (by omega) (by omega)) dL_law_1318 ?_
  refine g_int (v := xs (6 * k + 1)) (congrArg xs (cl_nI (by omega)).symm) ?_
  refine gF_i (ws' := (rX E ax an asx ay ap ar ai ah aj (tfOf ta tx) xx ++ (rY E ay ye yy ++ (rW E an nn ++ (rW E asx s1 ++ (rW E ai ii ++ (rP E ap p1 ++ (rQ E ta tx ++ (rR E ar rr ++ (rH E ah hh ++ (rH E aj jj ++ (rM E am mm ++ [])))))))))))) C hG (pin (pout (pin (pin (pout (pin (pout (pout (pout (pout (pout pnil))))))))))) (List.Perm.symm (pin (pout (pin (pin (pout (pin (pout (pout (pout (pout (pout pnil)))))))))))) (gR_VP (As := [.int (xs (6 * k + 1))]) (rest := []) C hz hl.1 hG (pin (pout (pin (pin (pout (pin (pout (pout (pout (pout (pout pnil))))))))))) (c_X11_copies l E ax an asx ay ap ar ai ah aj (tfOf ta tx) N (xs (6 * k + 1)) xx nn ss pp e1 H.size) okX11_copies q1261 0 rfl rfl rfl (Nat.le_of_ble_eq_true rfl) ⟨Nat.le_of_ble_eq_true rfl, Nat.le_of_ble_eq_true rfl⟩ ⟨by show 1926 + 3 * k + 0 ≤ 600000; omega, by show 49660 + 603 * k + 0 ≤ 7302250; omega⟩ dL_law_1319) (fun H locs _ hG => ?_)
  refine g_int (v := r) rfl ?_
  refine lv_aload_n hx hb dL_law_1322 rfl (lv_at hl 2 rfl) ?_
  refine lv_aload_n hx hb dL_law_1323 rfl (lv_at hl 0 rfl) ?_
  refine lv_iload_n hx hb dL_law_1324 rfl (lv_at hl 3 rfl) ?_
  refine lv_iconst (v := 1) hx hb dL_law_1325 (by decide) ?_
  refine lv_iadd hx hb dL_law_1326 ?_
  refine g_int (v := nI (6 * k + 1)) (nI_add (6 * k) 1).symm ?_
  refine va_sld hx hb hX hbl hbA hG.2.2 (vp_in_nI (by omega) (by omega)) dL_law_1327 ?_
  refine g_int (v := xs (6 * k + 1)) (congrArg xs (cl_nI (by omega)).symm) ?_
  refine gF_i (ws' := (rX E ax an asx ay ap ar ai ah aj (tfOf ta tx) xx ++ (rY E ay ye yy ++ (rW E an nn ++ (rW E asx s1 ++ (rW E ai ii ++ (rP E ap p1 ++ (rQ E ta tx ++ (rR E ar rr ++ (rH E ah hh ++ (rH E aj jj ++ (rM E am m1 ++ [])))))))))))) C hG (pout (pout (pout (pout (pout (pout (pout (pout (pout (pout (pin pnil))))))))))) (List.Perm.symm (pout (pout (pout (pout (pout (pout (pout (pout (pout (pout (pin pnil)))))))))))) (gR_VP (As := [.int (xs (6 * k + 1))]) (rest := [.int r]) C hz hl.1 hG (pout (pout (pout (pout (pout (pout (pout (pout (pout (pout (pin pnil))))))))))) (c_X12_copies l E am N (xs (6 * k + 1)) mm e2 H.size) okX12_copies q1919 0 rfl rfl rfl (Nat.le_of_ble_eq_true rfl) ⟨Nat.le_of_ble_eq_true rfl, Nat.le_of_ble_eq_true rfl⟩ ⟨by show 1926 + 3 * k + 0 + 0 ≤ 600000; omega, by show 49660 + 603 * k + 0 + 0 ≤ 7302250; omega⟩ dL_law_1328) (fun H locs _ hG => ?_)
  refine g_int (v := r) rfl ?_
  refine lv_icmp_eq (tgt := 1596) hx hb dL_law_1331 (by decide) (fun _ => ?_) (fun q => absurd rfl q)
  refine W.widen (k := 1926 + 3 * (k + 1)) (n := 49660 + 603 * (k + 1)) (by omega) (by omega) ?_
  exact nx _ _ _ _ _ _ _ _ _ _ _ _ _ _ _ _ hG hI1 hl
set_option maxHeartbeats 8000000 in
set_option maxRecDepth 100000 in
theorem case_would (h : LCX p l e s m below meth c Q E N b L xs ax an asx ay ap ar ai am ah aj ta tx ye xx yy nn ss ii pp rr hh jj mm k H locs ls) : W p l e room_1 s m #[Value.ref b] below meth c H locs (1926 + 3 * k) (49660 + 603 * k) Q (F0 m 1336 ls []) := by
  obtain ⟨C, hz, hX, hbl, hL, hk, hN, hG, hI, hl, nx⟩ := h
  have hx := C.1.1
  have hb : c.code = cL_law := C.1.2.1
  have hbA : ¬ (fun q : Nat => s.heap.size ≤ q) b := Nat.not_le.mpr hbl
  rcases T_would (ss := ss) (yy := yy) (pp := pp) hN hI ta (xs (6 * k + 1)) with ⟨g1, e2⟩ | ⟨j, q, r, y1, s1, w1, p1, m1, hj, ht, g1, g2, g3, e2, hI1⟩
  · have hI1 := hI.le (L := 16200 * k + 16200) (by omega)
    refine lv_aload_n hx hb dL_law_1336 rfl (lv_at hl 1 rfl) ?_
    refine lv_aload_n hx hb dL_law_1337 rfl (lv_at hl 0 rfl) ?_
    refine lv_iload_n hx hb dL_law_1338 rfl (lv_at hl 3 rfl) ?_
    refine lv_iconst (v := 1) hx hb dL_law_1339 (by decide) ?_
    refine lv_iadd hx hb dL_law_1340 ?_
    refine g_int (v := nI (6 * k + 1)) (nI_add (6 * k) 1).symm ?_
    refine va_sld hx hb hX hbl hbA hG.2.2 (vp_in_nI (by omega) (by omega)) dL_law_1341 ?_
    refine g_int (v := xs (6 * k + 1)) (congrArg xs (cl_nI (by omega)).symm) ?_
    refine gF_i (ws' := (rX E ax an asx ay ap ar ai ah aj (tfOf ta tx) xx ++ (rY E ay ye yy ++ (rW E an nn ++ (rW E asx ss ++ (rW E ai ii ++ (rP E ap pp ++ (rQ E ta tx ++ (rR E ar rr ++ (rH E ah hh ++ (rH E aj jj ++ (rM E am mm ++ [])))))))))))) C hG (pin (pout (pout (pout (pout (pout (pout (pout (pout (pout (pout pnil))))))))))) (List.Perm.symm (pin (pout (pout (pout (pout (pout (pout (pout (pout (pout (pout pnil)))))))))))) (gR_VP (As := [.int (xs (6 * k + 1))]) (rest := []) C hz hl.1 hG (pin (pout (pout (pout (pout (pout (pout (pout (pout (pout (pout pnil))))))))))) (c_X11_would_no l E ax an asx ay ap ar ai ah aj (tfOf ta tx) (xs (6 * k + 1)) xx g1 H.size) okX11_would q1265 0 rfl rfl rfl (Nat.le_of_ble_eq_true rfl) ⟨Nat.le_of_ble_eq_true rfl, Nat.le_of_ble_eq_true rfl⟩ ⟨by show 1926 + 3 * k + 0 ≤ 600000; omega, by show 49660 + 603 * k + 0 ≤ 7302250; omega⟩ dL_law_1342) (fun H locs _ hG => ?_)
    refine lv_aload_n hx hb dL_law_1345 rfl (lv_at hl 2 rfl) ?_
    refine lv_aload_n hx hb dL_law_1346 rfl (lv_at hl 0 rfl) ?_
    refine lv_iload_n hx hb dL_law_1347 rfl (lv_at hl 3 rfl) ?_
    refine lv_iconst (v := 1) hx hb dL_law_1348 (by decide) ?_
    refine lv_iadd hx hb dL_law_1349 ?_
    refine g_int (v := nI (6 * k + 1)) (nI_add (6 * k) 1).symm ?_
    refine va_sld hx hb hX hbl hbA hG.2.2 (vp_in_nI (by omega) (by omega)) dL_law_1350 ?_
    refine g_int (v := xs (6 * k + 1)) (congrArg xs (cl_nI (by omega)).symm) ?_
    refine gF_i (ws' := (rX E ax an asx ay ap ar ai ah aj (tfOf ta tx) xx ++ (rY E ay ye yy ++ (rW E an nn ++ (rW E asx ss ++ (rW E ai ii ++ (rP E ap pp ++ (rQ E ta tx ++ (rR E ar rr ++ (rH E ah hh ++ (rH E aj jj ++ (rM E am mm ++ [])))))))))))) C hG (pout (pout (pout (pout (pout (pout (pout (pout (pout (pout (pin pnil))))))))))) (List.Perm.symm (pout (pout (pout (pout (pout (pout (pout (pout (pout (pout (pin pnil)))))))))))) (gR_VP (As := [.int (xs (6 * k + 1))]) (rest := [.int (-1)]) C hz hl.1 hG (pout (pout (pout (pout (pout (pout (pout (pout (pout (pout (pin pnil))))))))))) (c_X12_would l E am N (xs (6 * k + 1)) mm e2 H.size) okX12_would q1923 0 rfl rfl rfl (Nat.le_of_ble_eq_true rfl) ⟨Nat.le_of_ble_eq_true rfl, Nat.le_of_ble_eq_true rfl⟩ ⟨by show 1926 + 3 * k + 0 + 0 ≤ 600000; omega, by show 49660 + 603 * k + 0 + 0 ≤ 7302250; omega⟩ dL_law_1351) (fun H locs _ hG => ?_)
    refine g_int (v := -1) rfl ?_
    refine lv_icmp_eq (tgt := 1596) hx hb dL_law_1354 (by decide) (fun _ => ?_) (fun q => absurd rfl q)
    refine W.widen (k := 1926 + 3 * (k + 1)) (n := 49660 + 603 * (k + 1)) (by omega) (by omega) ?_
    exact nx _ _ _ _ _ _ _ _ _ _ _ _ _ _ _ _ hG hI1 hl
  · have hQ := rQ_some (E := E) (ta := ta) hj ht
    refine lv_aload_n hx hb dL_law_1336 rfl (lv_at hl 1 rfl) ?_
    refine lv_aload_n hx hb dL_law_1337 rfl (lv_at hl 0 rfl) ?_
    refine lv_iload_n hx hb dL_law_1338 rfl (lv_at hl 3 rfl) ?_
    refine lv_iconst (v := 1) hx hb dL_law_1339 (by decide) ?_
    refine lv_iadd hx hb dL_law_1340 ?_
    refine g_int (v := nI (6 * k + 1)) (nI_add (6 * k) 1).symm ?_
    refine va_sld hx hb hX hbl hbA hG.2.2 (vp_in_nI (by omega) (by omega)) dL_law_1341 ?_
    refine g_int (v := xs (6 * k + 1)) (congrArg xs (cl_nI (by omega)).symm) ?_
    refine gF_i (ws' := (rX E ax an asx ay ap ar ai ah aj (tfOf ta tx) xx ++ (rY E ay (yeP (.ref (ta j 0)) (.ref (asx 0)) (.ref (ap 0))) y1 ++ (rW E an nn ++ (rW E asx w1 ++ (rW E ai ii ++ (rP E ap p1 ++ (rQ E ta tx ++ (rR E ar rr ++ (rH E ah hh ++ (rH E aj jj ++ (rM E am mm ++ [])))))))))))) C hG ((lq hQ).trans (pin (pin (pin (pin (pout (pin (pin (pout (pout (pout (pout (pout pnil))))))))))))) (List.Perm.symm ((lq hQ).trans (pin (pin (pin (pin (pout (pin (pin (pout (pout (pout (pout (pout pnil)))))))))))))) (gR_VP (As := [.int (xs (6 * k + 1))]) (rest := []) C hz hl.1 hG ((lq hQ).trans (pin (pin (pin (pin (pout (pin (pin (pout (pout (pout (pout (pout pnil))))))))))))) (c_X11_would_yes l E ax an asx ay ap ar ai ah aj (tfOf ta tx) N (ta j) ye q.1 (xs (6 * k + 1)) xx yy nn ss pp q.2 g1 g2 g3 H.size) okX11_would q1265 0 rfl rfl rfl (Nat.le_of_ble_eq_true rfl) ⟨Nat.le_of_ble_eq_true rfl, Nat.le_of_ble_eq_true rfl⟩ ⟨by show 1926 + 3 * k + 0 ≤ 600000; omega, by show 49660 + 603 * k + 0 ≤ 7302250; omega⟩ dL_law_1342) (fun H locs _ hG => ?_)
    refine g_int (v := ((w1 1 3) - (nn 1 3))) rfl ?_
    refine lv_aload_n hx hb dL_law_1345 rfl (lv_at hl 2 rfl) ?_
    refine lv_aload_n hx hb dL_law_1346 rfl (lv_at hl 0 rfl) ?_
    refine lv_iload_n hx hb dL_law_1347 rfl (lv_at hl 3 rfl) ?_
    refine lv_iconst (v := 1) hx hb dL_law_1348 (by decide) ?_
    refine lv_iadd hx hb dL_law_1349 ?_
    refine g_int (v := nI (6 * k + 1)) (nI_add (6 * k) 1).symm ?_
    refine va_sld hx hb hX hbl hbA hG.2.2 (vp_in_nI (by omega) (by omega)) dL_law_1350 ?_
    refine g_int (v := xs (6 * k + 1)) (congrArg xs (cl_nI (by omega)).symm) ?_
    refine gF_i (ws' := (rX E ax an asx ay ap ar ai ah aj (tfOf ta tx) xx ++ (rY E ay (yeP (.ref (ta j 0)) (.ref (asx 0)) (.ref (ap 0))) y1 ++ (rW E an nn ++ (rW E asx w1 ++ (rW E ai ii ++ (rP E ap p1 ++ (rQ E ta tx ++ (rR E ar rr ++ (rH E ah hh ++ (rH E aj jj ++ (rM E am m1 ++ [])))))))))))) C hG (pout (pout (pout (pout (pout (pout (pout (pout (pout (pout (pin pnil))))))))))) (List.Perm.symm (pout (pout (pout (pout (pout (pout (pout (pout (pout (pout (pin pnil)))))))))))) (gR_VP (As := [.int (xs (6 * k + 1))]) (rest := [.int ((w1 1 3) - (nn 1 3))]) C hz hl.1 hG (pout (pout (pout (pout (pout (pout (pout (pout (pout (pout (pin pnil))))))))))) (c_X12_would l E am N (xs (6 * k + 1)) mm e2 H.size) okX12_would q1923 0 rfl rfl rfl (Nat.le_of_ble_eq_true rfl) ⟨Nat.le_of_ble_eq_true rfl, Nat.le_of_ble_eq_true rfl⟩ ⟨by show 1926 + 3 * k + 0 + 0 ≤ 600000; omega, by show 49660 + 603 * k + 0 + 0 ≤ 7302250; omega⟩ dL_law_1351) (fun H locs _ hG => ?_)
    refine g_int (v := ((w1 1 3) - (nn 1 3))) rfl ?_
    refine lv_icmp_eq (tgt := 1596) hx hb dL_law_1354 (by decide) (fun _ => ?_) (fun q => absurd rfl q)
    refine W.widen (k := 1926 + 3 * (k + 1)) (n := 49660 + 603 * (k + 1)) (by omega) (by omega) ?_
    exact nx _ _ _ _ _ _ _ _ _ _ _ _ _ _ _ _ hG hI1 hl
set_option maxHeartbeats 8000000 in
set_option maxRecDepth 100000 in
theorem case_cheapest (h : LCX p l e s m below meth c Q E N b L xs ax an asx ay ap ar ai am ah aj ta tx ye xx yy nn ss ii pp rr hh jj mm k H locs ls) : W p l e room_1 s m #[Value.ref b] below meth c H locs (1926 + 3 * k) (49660 + 603 * k) Q (F0 m 1359 ls []) := by
  obtain ⟨C, hz, hX, hbl, hL, hk, hN, hG, hI, hl, nx⟩ := h
  have hx := C.1.1
  have hb : c.code = cL_law := C.1.2.1
  have hbA : ¬ (fun q : Nat => s.heap.size ≤ q) b := Nat.not_le.mpr hbl
  obtain ⟨r, y1, s1, p1, m1, e1, e2, hI1⟩ := T_cheapest (yy := yy) (ss := ss) (pp := pp) hN hI (by omega)
  refine lv_aload_n hx hb dL_law_1359 rfl (lv_at hl 1 rfl) ?_
  refine gF_w C hG (pin (pin (pin (pin (pout (pin (pin (pout (pout (pout (pout pnil))))))))))) (gR_VP (As := []) (rest := []) C hz hl.1 hG (pin (pin (pin (pin (pout (pin (pin (pout (pout (pout (pout pnil))))))))))) (c_X11_cheapest l E ax an asx ay ap ar ai ah aj ta tx ye N xx yy nn ss pp e1 H.size) okX11_cheapest q1269 0 rfl rfl rfl (Nat.le_of_ble_eq_true rfl) ⟨Nat.le_of_ble_eq_true rfl, Nat.le_of_ble_eq_true rfl⟩ ⟨by show 1926 + 3 * k + 0 ≤ 600000; omega, by show 49660 + 603 * k + 0 ≤ 7302250; omega⟩ dL_law_1360) (fun ye1 H locs hG => ?_)
  replace hG : gG E (fun q : Nat => s.heap.size ≤ q) s.heap (rX E ax an asx ay ap ar ai ah aj (tfOf ta tx) xx ++ (rY E ay ye1 y1 ++ (rW E an nn ++ (rW E asx s1 ++ (rW E ai ii ++ (rP E ap p1 ++ (rQ E ta tx ++ (rR E ar rr ++ (rH E ah hh ++ (rH E aj jj ++ (rM E am mm ++ []))))))))))) H locs := hG.perm (List.Perm.symm (pin (pin (pin (pin (pout (pin (pin (pout (pout (pout (pout pnil))))))))))))
  refine g_int (v := r) rfl ?_
  refine lv_aload_n hx hb dL_law_1363 rfl (lv_at hl 2 rfl) ?_
  refine gF_i (ws' := (rX E ax an asx ay ap ar ai ah aj (tfOf ta tx) xx ++ (rY E ay ye1 y1 ++ (rW E an nn ++ (rW E asx s1 ++ (rW E ai ii ++ (rP E ap p1 ++ (rQ E ta tx ++ (rR E ar rr ++ (rH E ah hh ++ (rH E aj jj ++ (rM E am m1 ++ [])))))))))))) C hG (pout (pout (pout (pout (pout (pout (pout (pout (pout (pout (pin pnil))))))))))) (List.Perm.symm (pout (pout (pout (pout (pout (pout (pout (pout (pout (pout (pin pnil)))))))))))) (gR_VP (As := []) (rest := [.int r]) C hz hl.1 hG (pout (pout (pout (pout (pout (pout (pout (pout (pout (pout (pin pnil))))))))))) (c_X12_cheapest l E am N mm e2 H.size) okX12_cheapest q1927 0 rfl rfl rfl (Nat.le_of_ble_eq_true rfl) ⟨Nat.le_of_ble_eq_true rfl, Nat.le_of_ble_eq_true rfl⟩ ⟨by show 1926 + 3 * k + 0 + 0 ≤ 600000; omega, by show 49660 + 603 * k + 0 + 0 ≤ 7302250; omega⟩ dL_law_1364) (fun H locs _ hG => ?_)
  refine g_int (v := r) rfl ?_
  refine lv_icmp_eq (tgt := 1596) hx hb dL_law_1367 (by decide) (fun _ => ?_) (fun q => absurd rfl q)
  refine W.widen (k := 1926 + 3 * (k + 1)) (n := 49660 + 603 * (k + 1)) (by omega) (by omega) ?_
  exact nx _ _ _ _ _ _ _ _ _ _ _ _ _ _ _ _ hG hI1 hl
set_option maxHeartbeats 8000000 in
set_option maxRecDepth 100000 in
theorem case_rank (h : LCX p l e s m below meth c Q E N b L xs ax an asx ay ap ar ai am ah aj ta tx ye xx yy nn ss ii pp rr hh jj mm k H locs ls) : W p l e room_1 s m #[Value.ref b] below meth c H locs (1926 + 3 * k) (49660 + 603 * k) Q (F0 m 1372 ls []) := by
  obtain ⟨C, hz, hX, hbl, hL, hk, hN, hG, hI, hl, nx⟩ := h
  have hx := C.1.1
  have hb : c.code = cL_law := C.1.2.1
  have hbA : ¬ (fun q : Nat => s.heap.size ≤ q) b := Nat.not_le.mpr hbl
  obtain ⟨r, e1, e2⟩ := T_rank hN hI (xs (6 * k + 1))
  have hI1 := hI.le (L := 16200 * k + 16200) (by omega)
  refine lv_aload_n hx hb dL_law_1372 rfl (lv_at hl 1 rfl) ?_
  refine lv_aload_n hx hb dL_law_1373 rfl (lv_at hl 0 rfl) ?_
  refine lv_iload_n hx hb dL_law_1374 rfl (lv_at hl 3 rfl) ?_
  refine lv_iconst (v := 1) hx hb dL_law_1375 (by decide) ?_
  refine lv_iadd hx hb dL_law_1376 ?_
  refine g_int (v := nI (6 * k + 1)) (nI_add (6 * k) 1).symm ?_
  refine va_sld hx hb hX hbl hbA hG.2.2 (vp_in_nI (by omega) (by omega)) dL_law_1377 ?_
  refine g_int (v := xs (6 * k + 1)) (congrArg xs (cl_nI (by omega)).symm) ?_
  refine gF_i (ws' := (rX E ax an asx ay ap ar ai ah aj (tfOf ta tx) xx ++ (rY E ay ye yy ++ (rW E an nn ++ (rW E asx ss ++ (rW E ai ii ++ (rP E ap pp ++ (rQ E ta tx ++ (rR E ar rr ++ (rH E ah hh ++ (rH E aj jj ++ (rM E am mm ++ [])))))))))))) C hG (pin (pout (pin (pout (pout (pout (pout (pout (pout (pout (pout pnil))))))))))) (List.Perm.symm (pin (pout (pin (pout (pout (pout (pout (pout (pout (pout (pout pnil)))))))))))) (gR_VP (As := [.int (xs (6 * k + 1))]) (rest := []) C hz hl.1 hG (pin (pout (pin (pout (pout (pout (pout (pout (pout (pout (pout pnil))))))))))) (c_X11_rank l E ax an asx ay ap ar ai ah aj (tfOf ta tx) N (xs (6 * k + 1)) xx nn e1 H.size) okX11_rank q1273 0 rfl rfl rfl (Nat.le_of_ble_eq_true rfl) ⟨Nat.le_of_ble_eq_true rfl, Nat.le_of_ble_eq_true rfl⟩ ⟨by show 1926 + 3 * k + 0 ≤ 600000; omega, by show 49660 + 603 * k + 0 ≤ 7302250; omega⟩ dL_law_1378) (fun H locs _ hG => ?_)
  refine g_int (v := r) rfl ?_
  refine lv_aload_n hx hb dL_law_1381 rfl (lv_at hl 2 rfl) ?_
  refine lv_aload_n hx hb dL_law_1382 rfl (lv_at hl 0 rfl) ?_
  refine lv_iload_n hx hb dL_law_1383 rfl (lv_at hl 3 rfl) ?_
  refine lv_iconst (v := 1) hx hb dL_law_1384 (by decide) ?_
  refine lv_iadd hx hb dL_law_1385 ?_
  refine g_int (v := nI (6 * k + 1)) (nI_add (6 * k) 1).symm ?_
  refine va_sld hx hb hX hbl hbA hG.2.2 (vp_in_nI (by omega) (by omega)) dL_law_1386 ?_
  refine g_int (v := xs (6 * k + 1)) (congrArg xs (cl_nI (by omega)).symm) ?_
  refine gF_i (ws' := (rX E ax an asx ay ap ar ai ah aj (tfOf ta tx) xx ++ (rY E ay ye yy ++ (rW E an nn ++ (rW E asx ss ++ (rW E ai ii ++ (rP E ap pp ++ (rQ E ta tx ++ (rR E ar rr ++ (rH E ah hh ++ (rH E aj jj ++ (rM E am mm ++ [])))))))))))) C hG (pout (pout (pout (pout (pout (pout (pout (pout (pout (pout (pin pnil))))))))))) (List.Perm.symm (pout (pout (pout (pout (pout (pout (pout (pout (pout (pout (pin pnil)))))))))))) (gR_VP (As := [.int (xs (6 * k + 1))]) (rest := [.int r]) C hz hl.1 hG (pout (pout (pout (pout (pout (pout (pout (pout (pout (pout (pin pnil))))))))))) (c_X12_rank l E am N (xs (6 * k + 1)) mm e2 H.size) okX12_rank q1932 0 rfl rfl rfl (Nat.le_of_ble_eq_true rfl) ⟨Nat.le_of_ble_eq_true rfl, Nat.le_of_ble_eq_true rfl⟩ ⟨by show 1926 + 3 * k + 0 + 0 ≤ 600000; omega, by show 49660 + 603 * k + 0 + 0 ≤ 7302250; omega⟩ dL_law_1387) (fun H locs _ hG => ?_)
  refine g_int (v := r) rfl ?_
  refine lv_icmp_eq (tgt := 1596) hx hb dL_law_1390 (by decide) (fun _ => ?_) (fun q => absurd rfl q)
  refine W.widen (k := 1926 + 3 * (k + 1)) (n := 49660 + 603 * (k + 1)) (by omega) (by omega) ?_
  exact nx _ _ _ _ _ _ _ _ _ _ _ _ _ _ _ _ hG hI1 hl
set_option maxHeartbeats 8000000 in
set_option maxRecDepth 100000 in
theorem case_coldest (h : LCX p l e s m below meth c Q E N b L xs ax an asx ay ap ar ai am ah aj ta tx ye xx yy nn ss ii pp rr hh jj mm k H locs ls) : W p l e room_1 s m #[Value.ref b] below meth c H locs (1926 + 3 * k) (49660 + 603 * k) Q (F0 m 1395 ls []) := by
  obtain ⟨C, hz, hX, hbl, hL, hk, hN, hG, hI, hl, nx⟩ := h
  have hx := C.1.1
  have hb : c.code = cL_law := C.1.2.1
  have hbA : ¬ (fun q : Nat => s.heap.size ≤ q) b := Nat.not_le.mpr hbl
  obtain ⟨r, e1, e2⟩ := T_coldest hN hI (xs (6 * k + 1))
  have hI1 := hI.le (L := 16200 * k + 16200) (by omega)
  refine lv_aload_n hx hb dL_law_1395 rfl (lv_at hl 1 rfl) ?_
  refine lv_aload_n hx hb dL_law_1396 rfl (lv_at hl 0 rfl) ?_
  refine lv_iload_n hx hb dL_law_1397 rfl (lv_at hl 3 rfl) ?_
  refine lv_iconst (v := 1) hx hb dL_law_1398 (by decide) ?_
  refine lv_iadd hx hb dL_law_1399 ?_
  refine g_int (v := nI (6 * k + 1)) (nI_add (6 * k) 1).symm ?_
  refine va_sld hx hb hX hbl hbA hG.2.2 (vp_in_nI (by omega) (by omega)) dL_law_1400 ?_
  refine g_int (v := xs (6 * k + 1)) (congrArg xs (cl_nI (by omega)).symm) ?_
  refine gF_i (ws' := (rX E ax an asx ay ap ar ai ah aj (tfOf ta tx) xx ++ (rY E ay ye yy ++ (rW E an nn ++ (rW E asx ss ++ (rW E ai ii ++ (rP E ap pp ++ (rQ E ta tx ++ (rR E ar rr ++ (rH E ah hh ++ (rH E aj jj ++ (rM E am mm ++ [])))))))))))) C hG (pin (pout (pin (pout (pout (pout (pout (pout (pout (pout (pout pnil))))))))))) (List.Perm.symm (pin (pout (pin (pout (pout (pout (pout (pout (pout (pout (pout pnil)))))))))))) (gR_VP (As := [.int (xs (6 * k + 1))]) (rest := []) C hz hl.1 hG (pin (pout (pin (pout (pout (pout (pout (pout (pout (pout (pout pnil))))))))))) (c_X11_coldest l E ax an asx ay ap ar ai ah aj (tfOf ta tx) N (xs (6 * k + 1)) xx nn e1 H.size) okX11_coldest q1282 0 rfl rfl rfl (Nat.le_of_ble_eq_true rfl) ⟨Nat.le_of_ble_eq_true rfl, Nat.le_of_ble_eq_true rfl⟩ ⟨by show 1926 + 3 * k + 0 ≤ 600000; omega, by show 49660 + 603 * k + 0 ≤ 7302250; omega⟩ dL_law_1401) (fun H locs _ hG => ?_)
  refine g_int (v := r) rfl ?_
  refine lv_aload_n hx hb dL_law_1404 rfl (lv_at hl 2 rfl) ?_
  refine lv_aload_n hx hb dL_law_1405 rfl (lv_at hl 0 rfl) ?_
  refine lv_iload_n hx hb dL_law_1406 rfl (lv_at hl 3 rfl) ?_
  refine lv_iconst (v := 1) hx hb dL_law_1407 (by decide) ?_
  refine lv_iadd hx hb dL_law_1408 ?_
  refine g_int (v := nI (6 * k + 1)) (nI_add (6 * k) 1).symm ?_
  refine va_sld hx hb hX hbl hbA hG.2.2 (vp_in_nI (by omega) (by omega)) dL_law_1409 ?_
  refine g_int (v := xs (6 * k + 1)) (congrArg xs (cl_nI (by omega)).symm) ?_
  refine gF_i (ws' := (rX E ax an asx ay ap ar ai ah aj (tfOf ta tx) xx ++ (rY E ay ye yy ++ (rW E an nn ++ (rW E asx ss ++ (rW E ai ii ++ (rP E ap pp ++ (rQ E ta tx ++ (rR E ar rr ++ (rH E ah hh ++ (rH E aj jj ++ (rM E am mm ++ [])))))))))))) C hG (pout (pout (pout (pout (pout (pout (pout (pout (pout (pout (pin pnil))))))))))) (List.Perm.symm (pout (pout (pout (pout (pout (pout (pout (pout (pout (pout (pin pnil)))))))))))) (gR_VP (As := [.int (xs (6 * k + 1))]) (rest := [.int r]) C hz hl.1 hG (pout (pout (pout (pout (pout (pout (pout (pout (pout (pout (pin pnil))))))))))) (c_X12_coldest l E am N (xs (6 * k + 1)) mm e2 H.size) okX12_coldest q1940 0 rfl rfl rfl (Nat.le_of_ble_eq_true rfl) ⟨Nat.le_of_ble_eq_true rfl, Nat.le_of_ble_eq_true rfl⟩ ⟨by show 1926 + 3 * k + 0 + 0 ≤ 600000; omega, by show 49660 + 603 * k + 0 + 0 ≤ 7302250; omega⟩ dL_law_1410) (fun H locs _ hG => ?_)
  refine g_int (v := r) rfl ?_
  refine lv_icmp_eq (tgt := 1596) hx hb dL_law_1413 (by decide) (fun _ => ?_) (fun q => absurd rfl q)
  refine W.widen (k := 1926 + 3 * (k + 1)) (n := 49660 + 603 * (k + 1)) (by omega) (by omega) ?_
  exact nx _ _ _ _ _ _ _ _ _ _ _ _ _ _ _ _ hG hI1 hl
set_option maxHeartbeats 8000000 in
set_option maxRecDepth 100000 in
theorem case_warmth (h : LCX p l e s m below meth c Q E N b L xs ax an asx ay ap ar ai am ah aj ta tx ye xx yy nn ss ii pp rr hh jj mm k H locs ls) : W p l e room_1 s m #[Value.ref b] below meth c H locs (1926 + 3 * k) (49660 + 603 * k) Q (F0 m 1418 ls []) := by
  obtain ⟨C, hz, hX, hbl, hL, hk, hN, hG, hI, hl, nx⟩ := h
  have hx := C.1.1
  have hb : c.code = cL_law := C.1.2.1
  have hbA : ¬ (fun q : Nat => s.heap.size ≤ q) b := Nat.not_le.mpr hbl
  obtain ⟨r, e1, e2⟩ := T_warmth hN hI (xs (6 * k + 1))
  have hI1 := hI.le (L := 16200 * k + 16200) (by omega)
  refine lv_aload_n hx hb dL_law_1418 rfl (lv_at hl 1 rfl) ?_
  refine lv_aload_n hx hb dL_law_1419 rfl (lv_at hl 0 rfl) ?_
  refine lv_iload_n hx hb dL_law_1420 rfl (lv_at hl 3 rfl) ?_
  refine lv_iconst (v := 1) hx hb dL_law_1421 (by decide) ?_
  refine lv_iadd hx hb dL_law_1422 ?_
  refine g_int (v := nI (6 * k + 1)) (nI_add (6 * k) 1).symm ?_
  refine va_sld hx hb hX hbl hbA hG.2.2 (vp_in_nI (by omega) (by omega)) dL_law_1423 ?_
  refine g_int (v := xs (6 * k + 1)) (congrArg xs (cl_nI (by omega)).symm) ?_
  refine gF_i (ws' := (rX E ax an asx ay ap ar ai ah aj (tfOf ta tx) xx ++ (rY E ay ye yy ++ (rW E an nn ++ (rW E asx ss ++ (rW E ai ii ++ (rP E ap pp ++ (rQ E ta tx ++ (rR E ar rr ++ (rH E ah hh ++ (rH E aj jj ++ (rM E am mm ++ [])))))))))))) C hG (pin (pout (pin (pout (pout (pout (pout (pout (pout (pout (pout pnil))))))))))) (List.Perm.symm (pin (pout (pin (pout (pout (pout (pout (pout (pout (pout (pout pnil)))))))))))) (gR_VP (As := [.int (xs (6 * k + 1))]) (rest := []) C hz hl.1 hG (pin (pout (pin (pout (pout (pout (pout (pout (pout (pout (pout pnil))))))))))) (c_X11_warmth l E ax an asx ay ap ar ai ah aj (tfOf ta tx) N (xs (6 * k + 1)) xx nn e1 H.size) okX11_warmth q1287 0 rfl rfl rfl (Nat.le_of_ble_eq_true rfl) ⟨Nat.le_of_ble_eq_true rfl, Nat.le_of_ble_eq_true rfl⟩ ⟨by show 1926 + 3 * k + 0 ≤ 600000; omega, by show 49660 + 603 * k + 0 ≤ 7302250; omega⟩ dL_law_1424) (fun H locs _ hG => ?_)
  refine g_int (v := r) rfl ?_
  refine lv_aload_n hx hb dL_law_1427 rfl (lv_at hl 2 rfl) ?_
  refine lv_aload_n hx hb dL_law_1428 rfl (lv_at hl 0 rfl) ?_
  refine lv_iload_n hx hb dL_law_1429 rfl (lv_at hl 3 rfl) ?_
  refine lv_iconst (v := 1) hx hb dL_law_1430 (by decide) ?_
  refine lv_iadd hx hb dL_law_1431 ?_
  refine g_int (v := nI (6 * k + 1)) (nI_add (6 * k) 1).symm ?_
  refine va_sld hx hb hX hbl hbA hG.2.2 (vp_in_nI (by omega) (by omega)) dL_law_1432 ?_
  refine g_int (v := xs (6 * k + 1)) (congrArg xs (cl_nI (by omega)).symm) ?_
  refine gF_i (ws' := (rX E ax an asx ay ap ar ai ah aj (tfOf ta tx) xx ++ (rY E ay ye yy ++ (rW E an nn ++ (rW E asx ss ++ (rW E ai ii ++ (rP E ap pp ++ (rQ E ta tx ++ (rR E ar rr ++ (rH E ah hh ++ (rH E aj jj ++ (rM E am mm ++ [])))))))))))) C hG (pout (pout (pout (pout (pout (pout (pout (pout (pout (pout (pin pnil))))))))))) (List.Perm.symm (pout (pout (pout (pout (pout (pout (pout (pout (pout (pout (pin pnil)))))))))))) (gR_VP (As := [.int (xs (6 * k + 1))]) (rest := [.int r]) C hz hl.1 hG (pout (pout (pout (pout (pout (pout (pout (pout (pout (pout (pin pnil))))))))))) (c_X12_warmth l E am N (xs (6 * k + 1)) mm e2 H.size) okX12_warmth q1944 0 rfl rfl rfl (Nat.le_of_ble_eq_true rfl) ⟨Nat.le_of_ble_eq_true rfl, Nat.le_of_ble_eq_true rfl⟩ ⟨by show 1926 + 3 * k + 0 + 0 ≤ 600000; omega, by show 49660 + 603 * k + 0 + 0 ≤ 7302250; omega⟩ dL_law_1433) (fun H locs _ hG => ?_)
  refine g_int (v := r) rfl ?_
  refine lv_icmp_eq (tgt := 1596) hx hb dL_law_1436 (by decide) (fun _ => ?_) (fun q => absurd rfl q)
  refine W.widen (k := 1926 + 3 * (k + 1)) (n := 49660 + 603 * (k + 1)) (by omega) (by omega) ?_
  exact nx _ _ _ _ _ _ _ _ _ _ _ _ _ _ _ _ hG hI1 hl
set_option maxHeartbeats 8000000 in
set_option maxRecDepth 100000 in
theorem case_cools (h : LCX p l e s m below meth c Q E N b L xs ax an asx ay ap ar ai am ah aj ta tx ye xx yy nn ss ii pp rr hh jj mm k H locs ls) : W p l e room_1 s m #[Value.ref b] below meth c H locs (1926 + 3 * k) (49660 + 603 * k) Q (F0 m 1441 ls []) := by
  obtain ⟨C, hz, hX, hbl, hL, hk, hN, hG, hI, hl, nx⟩ := h
  have hx := C.1.1
  have hb : c.code = cL_law := C.1.2.1
  have hbA : ¬ (fun q : Nat => s.heap.size ≤ q) b := Nat.not_le.mpr hbl
  obtain ⟨r, e1, e2⟩ := T_cools hN hI (xs (6 * k + 1))
  have hI1 := hI.le (L := 16200 * k + 16200) (by omega)
  refine lv_aload_n hx hb dL_law_1441 rfl (lv_at hl 1 rfl) ?_
  refine lv_aload_n hx hb dL_law_1442 rfl (lv_at hl 0 rfl) ?_
  refine lv_iload_n hx hb dL_law_1443 rfl (lv_at hl 3 rfl) ?_
  refine lv_iconst (v := 1) hx hb dL_law_1444 (by decide) ?_
  refine lv_iadd hx hb dL_law_1445 ?_
  refine g_int (v := nI (6 * k + 1)) (nI_add (6 * k) 1).symm ?_
  refine va_sld hx hb hX hbl hbA hG.2.2 (vp_in_nI (by omega) (by omega)) dL_law_1446 ?_
  refine g_int (v := xs (6 * k + 1)) (congrArg xs (cl_nI (by omega)).symm) ?_
  refine gF_i (ws' := (rX E ax an asx ay ap ar ai ah aj (tfOf ta tx) xx ++ (rY E ay ye yy ++ (rW E an nn ++ (rW E asx ss ++ (rW E ai ii ++ (rP E ap pp ++ (rQ E ta tx ++ (rR E ar rr ++ (rH E ah hh ++ (rH E aj jj ++ (rM E am mm ++ [])))))))))))) C hG (pin (pout (pin (pout (pout (pout (pout (pout (pout (pout (pout pnil))))))))))) (List.Perm.symm (pin (pout (pin (pout (pout (pout (pout (pout (pout (pout (pout pnil)))))))))))) (gR_VP (As := [.int (xs (6 * k + 1))]) (rest := []) C hz hl.1 hG (pin (pout (pin (pout (pout (pout (pout (pout (pout (pout (pout pnil))))))))))) (c_X11_cools l E ax an asx ay ap ar ai ah aj (tfOf ta tx) N (xs (6 * k + 1)) xx nn e1 H.size) okX11_cools q1291 0 rfl rfl rfl (Nat.le_of_ble_eq_true rfl) ⟨Nat.le_of_ble_eq_true rfl, Nat.le_of_ble_eq_true rfl⟩ ⟨by show 1926 + 3 * k + 0 ≤ 600000; omega, by show 49660 + 603 * k + 0 ≤ 7302250; omega⟩ dL_law_1447) (fun H locs _ hG => ?_)
  refine g_int (v := r) rfl ?_
  refine lv_aload_n hx hb dL_law_1450 rfl (lv_at hl 2 rfl) ?_
  refine lv_aload_n hx hb dL_law_1451 rfl (lv_at hl 0 rfl) ?_
  refine lv_iload_n hx hb dL_law_1452 rfl (lv_at hl 3 rfl) ?_
  refine lv_iconst (v := 1) hx hb dL_law_1453 (by decide) ?_
  refine lv_iadd hx hb dL_law_1454 ?_
  refine g_int (v := nI (6 * k + 1)) (nI_add (6 * k) 1).symm ?_
  refine va_sld hx hb hX hbl hbA hG.2.2 (vp_in_nI (by omega) (by omega)) dL_law_1455 ?_
  refine g_int (v := xs (6 * k + 1)) (congrArg xs (cl_nI (by omega)).symm) ?_
  refine gF_i (ws' := (rX E ax an asx ay ap ar ai ah aj (tfOf ta tx) xx ++ (rY E ay ye yy ++ (rW E an nn ++ (rW E asx ss ++ (rW E ai ii ++ (rP E ap pp ++ (rQ E ta tx ++ (rR E ar rr ++ (rH E ah hh ++ (rH E aj jj ++ (rM E am mm ++ [])))))))))))) C hG (pout (pout (pout (pout (pout (pout (pout (pout (pout (pout (pin pnil))))))))))) (List.Perm.symm (pout (pout (pout (pout (pout (pout (pout (pout (pout (pout (pin pnil)))))))))))) (gR_VP (As := [.int (xs (6 * k + 1))]) (rest := [.int r]) C hz hl.1 hG (pout (pout (pout (pout (pout (pout (pout (pout (pout (pout (pin pnil))))))))))) (c_X12_cools l E am N (xs (6 * k + 1)) mm e2 H.size) okX12_cools q1948 0 rfl rfl rfl (Nat.le_of_ble_eq_true rfl) ⟨Nat.le_of_ble_eq_true rfl, Nat.le_of_ble_eq_true rfl⟩ ⟨by show 1926 + 3 * k + 0 + 0 ≤ 600000; omega, by show 49660 + 603 * k + 0 + 0 ≤ 7302250; omega⟩ dL_law_1456) (fun H locs _ hG => ?_)
  refine g_int (v := r) rfl ?_
  refine lv_icmp_eq (tgt := 1596) hx hb dL_law_1459 (by decide) (fun _ => ?_) (fun q => absurd rfl q)
  refine W.widen (k := 1926 + 3 * (k + 1)) (n := 49660 + 603 * (k + 1)) (by omega) (by omega) ?_
  exact nx _ _ _ _ _ _ _ _ _ _ _ _ _ _ _ _ hG hI1 hl
set_option maxHeartbeats 8000000 in
set_option maxRecDepth 100000 in
theorem case_book (h : LCX p l e s m below meth c Q E N b L xs ax an asx ay ap ar ai am ah aj ta tx ye xx yy nn ss ii pp rr hh jj mm k H locs ls) : W p l e room_1 s m #[Value.ref b] below meth c H locs (1926 + 3 * k) (49660 + 603 * k) Q (F0 m 1491 ls []) := by
  obtain ⟨C, hz, hX, hbl, hL, hk, hN, hG, hI, hl, nx⟩ := h
  have hx := C.1.1
  have hb : c.code = cL_law := C.1.2.1
  have hbA : ¬ (fun q : Nat => s.heap.size ≤ q) b := Nat.not_le.mpr hbl
  obtain ⟨r, e1, e2⟩ := T_book hN hI (xs (6 * k + 1)) (xs (6 * k + 2))
  have hI1 := hI.le (L := 16200 * k + 16200) (by omega)
  refine lv_aload_n hx hb dL_law_1491 rfl (lv_at hl 1 rfl) ?_
  refine lv_aload_n hx hb dL_law_1492 rfl (lv_at hl 0 rfl) ?_
  refine lv_iload_n hx hb dL_law_1493 rfl (lv_at hl 3 rfl) ?_
  refine lv_iconst (v := 1) hx hb dL_law_1494 (by decide) ?_
  refine lv_iadd hx hb dL_law_1495 ?_
  refine g_int (v := nI (6 * k + 1)) (nI_add (6 * k) 1).symm ?_
  refine va_sld hx hb hX hbl hbA hG.2.2 (vp_in_nI (by omega) (by omega)) dL_law_1496 ?_
  refine g_int (v := xs (6 * k + 1)) (congrArg xs (cl_nI (by omega)).symm) ?_
  refine lv_aload_n hx hb dL_law_1497 rfl (lv_at hl 0 rfl) ?_
  refine lv_iload_n hx hb dL_law_1498 rfl (lv_at hl 3 rfl) ?_
  refine lv_iconst (v := 2) hx hb dL_law_1499 (by decide) ?_
  refine lv_iadd hx hb dL_law_1500 ?_
  refine g_int (v := nI (6 * k + 2)) (nI_add (6 * k) 2).symm ?_
  refine va_sld hx hb hX hbl hbA hG.2.2 (vp_in_nI (by omega) (by omega)) dL_law_1501 ?_
  refine g_int (v := xs (6 * k + 2)) (congrArg xs (cl_nI (by omega)).symm) ?_
  refine gF_i (ws' := (rX E ax an asx ay ap ar ai ah aj (tfOf ta tx) xx ++ (rY E ay ye yy ++ (rW E an nn ++ (rW E asx ss ++ (rW E ai ii ++ (rP E ap pp ++ (rQ E ta tx ++ (rR E ar rr ++ (rH E ah hh ++ (rH E aj jj ++ (rM E am mm ++ [])))))))))))) C hG (pin (pout (pin (pout (pout (pout (pout (pout (pout (pout (pout pnil))))))))))) (List.Perm.symm (pin (pout (pin (pout (pout (pout (pout (pout (pout (pout (pout pnil)))))))))))) (gR_VP (As := [.int (xs (6 * k + 1)), .int (xs (6 * k + 2))]) (rest := []) C hz hl.1 hG (pin (pout (pin (pout (pout (pout (pout (pout (pout (pout (pout pnil))))))))))) (c_X11_book l E ax an asx ay ap ar ai ah aj (tfOf ta tx) N (xs (6 * k + 1)) (xs (6 * k + 2)) xx nn e1 H.size) okX11_book q1311 0 rfl rfl rfl (Nat.le_of_ble_eq_true rfl) ⟨Nat.le_of_ble_eq_true rfl, Nat.le_of_ble_eq_true rfl⟩ ⟨by show 1926 + 3 * k + 0 ≤ 600000; omega, by show 49660 + 603 * k + 0 ≤ 7302250; omega⟩ dL_law_1502) (fun H locs _ hG => ?_)
  refine g_int (v := r) rfl ?_
  refine lv_aload_n hx hb dL_law_1505 rfl (lv_at hl 2 rfl) ?_
  refine lv_aload_n hx hb dL_law_1506 rfl (lv_at hl 0 rfl) ?_
  refine lv_iload_n hx hb dL_law_1507 rfl (lv_at hl 3 rfl) ?_
  refine lv_iconst (v := 1) hx hb dL_law_1508 (by decide) ?_
  refine lv_iadd hx hb dL_law_1509 ?_
  refine g_int (v := nI (6 * k + 1)) (nI_add (6 * k) 1).symm ?_
  refine va_sld hx hb hX hbl hbA hG.2.2 (vp_in_nI (by omega) (by omega)) dL_law_1510 ?_
  refine g_int (v := xs (6 * k + 1)) (congrArg xs (cl_nI (by omega)).symm) ?_
  refine lv_aload_n hx hb dL_law_1511 rfl (lv_at hl 0 rfl) ?_
  refine lv_iload_n hx hb dL_law_1512 rfl (lv_at hl 3 rfl) ?_
  refine lv_iconst (v := 2) hx hb dL_law_1513 (by decide) ?_
  refine lv_iadd hx hb dL_law_1514 ?_
  refine g_int (v := nI (6 * k + 2)) (nI_add (6 * k) 2).symm ?_
  refine va_sld hx hb hX hbl hbA hG.2.2 (vp_in_nI (by omega) (by omega)) dL_law_1515 ?_
  refine g_int (v := xs (6 * k + 2)) (congrArg xs (cl_nI (by omega)).symm) ?_
  refine gF_i (ws' := (rX E ax an asx ay ap ar ai ah aj (tfOf ta tx) xx ++ (rY E ay ye yy ++ (rW E an nn ++ (rW E asx ss ++ (rW E ai ii ++ (rP E ap pp ++ (rQ E ta tx ++ (rR E ar rr ++ (rH E ah hh ++ (rH E aj jj ++ (rM E am mm ++ [])))))))))))) C hG (pout (pout (pout (pout (pout (pout (pout (pout (pout (pout (pin pnil))))))))))) (List.Perm.symm (pout (pout (pout (pout (pout (pout (pout (pout (pout (pout (pin pnil)))))))))))) (gR_VP (As := [.int (xs (6 * k + 1)), .int (xs (6 * k + 2))]) (rest := [.int r]) C hz hl.1 hG (pout (pout (pout (pout (pout (pout (pout (pout (pout (pout (pin pnil))))))))))) (c_X12_book l E am N (xs (6 * k + 1)) (xs (6 * k + 2)) mm e2 H.size) okX12_book q1980 0 rfl rfl rfl (Nat.le_of_ble_eq_true rfl) ⟨Nat.le_of_ble_eq_true rfl, Nat.le_of_ble_eq_true rfl⟩ ⟨by show 1926 + 3 * k + 0 + 0 ≤ 600000; omega, by show 49660 + 603 * k + 0 + 0 ≤ 7302250; omega⟩ dL_law_1516) (fun H locs _ hG => ?_)
  refine g_int (v := r) rfl ?_
  refine lv_icmp_eq (tgt := 1596) hx hb dL_law_1519 (by decide) (fun _ => ?_) (fun q => absurd rfl q)
  refine W.widen (k := 1926 + 3 * (k + 1)) (n := 49660 + 603 * (k + 1)) (by omega) (by omega) ?_
  exact nx _ _ _ _ _ _ _ _ _ _ _ _ _ _ _ _ hG hI1 hl
set_option maxHeartbeats 8000000 in
set_option maxRecDepth 100000 in
theorem case_ledger (h : LCX p l e s m below meth c Q E N b L xs ax an asx ay ap ar ai am ah aj ta tx ye xx yy nn ss ii pp rr hh jj mm k H locs ls) : W p l e room_1 s m #[Value.ref b] below meth c H locs (1926 + 3 * k) (49660 + 603 * k) Q (F0 m 1524 ls []) := by
  obtain ⟨C, hz, hX, hbl, hL, hk, hN, hG, hI, hl, nx⟩ := h
  have hx := C.1.1
  have hb : c.code = cL_law := C.1.2.1
  have hbA : ¬ (fun q : Nat => s.heap.size ≤ q) b := Nat.not_le.mpr hbl
  obtain ⟨r, e1, e2⟩ := T_ledger hN hI (xs (6 * k + 1))
  have hI1 := hI.le (L := 16200 * k + 16200) (by omega)
  refine lv_aload_n hx hb dL_law_1524 rfl (lv_at hl 1 rfl) ?_
  refine lv_aload_n hx hb dL_law_1525 rfl (lv_at hl 0 rfl) ?_
  refine lv_iload_n hx hb dL_law_1526 rfl (lv_at hl 3 rfl) ?_
  refine lv_iconst (v := 1) hx hb dL_law_1527 (by decide) ?_
  refine lv_iadd hx hb dL_law_1528 ?_
  refine g_int (v := nI (6 * k + 1)) (nI_add (6 * k) 1).symm ?_
  refine va_sld hx hb hX hbl hbA hG.2.2 (vp_in_nI (by omega) (by omega)) dL_law_1529 ?_
  refine g_int (v := xs (6 * k + 1)) (congrArg xs (cl_nI (by omega)).symm) ?_
  refine gF_i (ws' := (rX E ax an asx ay ap ar ai ah aj (tfOf ta tx) xx ++ (rY E ay ye yy ++ (rW E an nn ++ (rW E asx ss ++ (rW E ai ii ++ (rP E ap pp ++ (rQ E ta tx ++ (rR E ar rr ++ (rH E ah hh ++ (rH E aj jj ++ (rM E am mm ++ [])))))))))))) C hG (pin (pout (pin (pout (pout (pout (pout (pout (pout (pout (pout pnil))))))))))) (List.Perm.symm (pin (pout (pin (pout (pout (pout (pout (pout (pout (pout (pout pnil)))))))))))) (gR_VP (As := [.int (xs (6 * k + 1))]) (rest := []) C hz hl.1 hG (pin (pout (pin (pout (pout (pout (pout (pout (pout (pout (pout pnil))))))))))) (c_X11_ledger l E ax an asx ay ap ar ai ah aj (tfOf ta tx) N (xs (6 * k + 1)) xx nn e1 H.size) okX11_ledger q1319 0 rfl rfl rfl (Nat.le_of_ble_eq_true rfl) ⟨Nat.le_of_ble_eq_true rfl, Nat.le_of_ble_eq_true rfl⟩ ⟨by show 1926 + 3 * k + 0 ≤ 600000; omega, by show 49660 + 603 * k + 0 ≤ 7302250; omega⟩ dL_law_1530) (fun H locs _ hG => ?_)
  refine g_int (v := r) rfl ?_
  refine lv_aload_n hx hb dL_law_1533 rfl (lv_at hl 2 rfl) ?_
  refine lv_aload_n hx hb dL_law_1534 rfl (lv_at hl 0 rfl) ?_
  refine lv_iload_n hx hb dL_law_1535 rfl (lv_at hl 3 rfl) ?_
  refine lv_iconst (v := 1) hx hb dL_law_1536 (by decide) ?_
  refine lv_iadd hx hb dL_law_1537 ?_
  refine g_int (v := nI (6 * k + 1)) (nI_add (6 * k) 1).symm ?_
  refine va_sld hx hb hX hbl hbA hG.2.2 (vp_in_nI (by omega) (by omega)) dL_law_1538 ?_
  refine g_int (v := xs (6 * k + 1)) (congrArg xs (cl_nI (by omega)).symm) ?_
  refine gF_i (ws' := (rX E ax an asx ay ap ar ai ah aj (tfOf ta tx) xx ++ (rY E ay ye yy ++ (rW E an nn ++ (rW E asx ss ++ (rW E ai ii ++ (rP E ap pp ++ (rQ E ta tx ++ (rR E ar rr ++ (rH E ah hh ++ (rH E aj jj ++ (rM E am mm ++ [])))))))))))) C hG (pout (pout (pout (pout (pout (pout (pout (pout (pout (pout (pin pnil))))))))))) (List.Perm.symm (pout (pout (pout (pout (pout (pout (pout (pout (pout (pout (pin pnil)))))))))))) (gR_VP (As := [.int (xs (6 * k + 1))]) (rest := [.int r]) C hz hl.1 hG (pout (pout (pout (pout (pout (pout (pout (pout (pout (pout (pin pnil))))))))))) (c_X12_ledger l E am N (xs (6 * k + 1)) mm e2 H.size) okX12_ledger q1984 0 rfl rfl rfl (Nat.le_of_ble_eq_true rfl) ⟨Nat.le_of_ble_eq_true rfl, Nat.le_of_ble_eq_true rfl⟩ ⟨by show 1926 + 3 * k + 0 + 0 ≤ 600000; omega, by show 49660 + 603 * k + 0 + 0 ≤ 7302250; omega⟩ dL_law_1539) (fun H locs _ hG => ?_)
  refine g_int (v := r) rfl ?_
  refine lv_icmp_eq (tgt := 1596) hx hb dL_law_1542 (by decide) (fun _ => ?_) (fun q => absurd rfl q)
  refine W.widen (k := 1926 + 3 * (k + 1)) (n := 49660 + 603 * (k + 1)) (by omega) (by omega) ?_
  exact nx _ _ _ _ _ _ _ _ _ _ _ _ _ _ _ _ hG hI1 hl
set_option maxHeartbeats 8000000 in
set_option maxRecDepth 100000 in
theorem case_image (h : LCX p l e s m below meth c Q E N b L xs ax an asx ay ap ar ai am ah aj ta tx ye xx yy nn ss ii pp rr hh jj mm k H locs ls) : W p l e room_1 s m #[Value.ref b] below meth c H locs (1926 + 3 * k) (49660 + 603 * k) Q (F0 m 1547 ls []) := by
  obtain ⟨C, hz, hX, hbl, hL, hk, hN, hG, hI, hl, nx⟩ := h
  have hx := C.1.1
  have hb : c.code = cL_law := C.1.2.1
  have hbA : ¬ (fun q : Nat => s.heap.size ≤ q) b := Nat.not_le.mpr hbl
  obtain ⟨r, xx1, i1, j1', m1, e1, e2, hI1⟩ := T_image hN hI
  refine lv_aload_n hx hb dL_law_1547 rfl (lv_at hl 1 rfl) ?_
  refine gF_i (ws' := (rX E ax an asx ay ap ar ai ah aj (tfOf ta tx) xx1 ++ (rY E ay ye yy ++ (rW E an nn ++ (rW E asx ss ++ (rW E ai i1 ++ (rP E ap pp ++ (rQ E ta tx ++ (rR E ar rr ++ (rH E ah hh ++ (rH E aj j1' ++ (rM E am mm ++ [])))))))))))) C hG (pin (pout (pin (pout (pin (pout (pout (pout (pin (pin (pout pnil))))))))))) (List.Perm.symm (pin (pout (pin (pout (pin (pout (pout (pout (pin (pin (pout pnil)))))))))))) (gR_VP (As := []) (rest := []) C hz hl.1 hG (pin (pout (pin (pout (pin (pout (pout (pout (pin (pin (pout pnil))))))))))) (c_X11_image l E ax an asx ay ap ar ai ah aj (tfOf ta tx) N xx nn ii hh jj e1 H.size) okX11_image q1327 0 rfl rfl rfl (Nat.le_of_ble_eq_true rfl) ⟨Nat.le_of_ble_eq_true rfl, Nat.le_of_ble_eq_true rfl⟩ ⟨by show 1926 + 3 * k + 0 ≤ 600000; omega, by show 49660 + 603 * k + 0 ≤ 7302250; omega⟩ dL_law_1548) (fun H locs _ hG => ?_)
  refine g_int (v := r) rfl ?_
  refine lv_aload_n hx hb dL_law_1551 rfl (lv_at hl 2 rfl) ?_
  refine gF_i (ws' := (rX E ax an asx ay ap ar ai ah aj (tfOf ta tx) xx1 ++ (rY E ay ye yy ++ (rW E an nn ++ (rW E asx ss ++ (rW E ai i1 ++ (rP E ap pp ++ (rQ E ta tx ++ (rR E ar rr ++ (rH E ah hh ++ (rH E aj j1' ++ (rM E am m1 ++ [])))))))))))) C hG (pout (pout (pout (pout (pout (pout (pout (pout (pout (pout (pin pnil))))))))))) (List.Perm.symm (pout (pout (pout (pout (pout (pout (pout (pout (pout (pout (pin pnil)))))))))))) (gR_VP (As := []) (rest := [.int r]) C hz hl.1 hG (pout (pout (pout (pout (pout (pout (pout (pout (pout (pout (pin pnil))))))))))) (c_X12_image l E am N mm e2 H.size) okX12_image q1988 0 rfl rfl rfl (Nat.le_of_ble_eq_true rfl) ⟨Nat.le_of_ble_eq_true rfl, Nat.le_of_ble_eq_true rfl⟩ ⟨by show 1926 + 3 * k + 0 + 0 ≤ 600000; omega, by show 49660 + 603 * k + 0 + 0 ≤ 7302250; omega⟩ dL_law_1552) (fun H locs _ hG => ?_)
  refine g_int (v := r) rfl ?_
  refine lv_icmp_eq (tgt := 1596) hx hb dL_law_1555 (by decide) (fun _ => ?_) (fun q => absurd rfl q)
  refine W.widen (k := 1926 + 3 * (k + 1)) (n := 49660 + 603 * (k + 1)) (by omega) (by omega) ?_
  exact nx _ _ _ _ _ _ _ _ _ _ _ _ _ _ _ _ hG hI1 hl
set_option maxHeartbeats 8000000 in
set_option maxRecDepth 100000 in
theorem case_back (h : LCX p l e s m below meth c Q E N b L xs ax an asx ay ap ar ai am ah aj ta tx ye xx yy nn ss ii pp rr hh jj mm k H locs ls) : W p l e room_1 s m #[Value.ref b] below meth c H locs (1926 + 3 * k) (49660 + 603 * k) Q (F0 m 1560 ls []) := by
  obtain ⟨C, hz, hX, hbl, hL, hk, hN, hG, hI, hl, nx⟩ := h
  have hx := C.1.1
  have hb : c.code = cL_law := C.1.2.1
  have hbA : ¬ (fun q : Nat => s.heap.size ≤ q) b := Nat.not_le.mpr hbl
  obtain ⟨r, xx1, n1, h1, m1, e1, e2, hI1⟩ := T_back hN hI
  refine lv_aload_n hx hb dL_law_1560 rfl (lv_at hl 1 rfl) ?_
  refine gF_i (ws' := (rX E ax an asx ay ap ar ai ah aj (tfOf ta tx) xx1 ++ (rY E ay ye yy ++ (rW E an n1 ++ (rW E asx ss ++ (rW E ai ii ++ (rP E ap pp ++ (rQ E ta tx ++ (rR E ar rr ++ (rH E ah h1 ++ (rH E aj jj ++ (rM E am mm ++ [])))))))))))) C hG (pin (pout (pin (pout (pin (pout (pout (pout (pin (pin (pout pnil))))))))))) (List.Perm.symm (pin (pout (pin (pout (pin (pout (pout (pout (pin (pin (pout pnil)))))))))))) (gR_VP (As := []) (rest := []) C hz hl.1 hG (pin (pout (pin (pout (pin (pout (pout (pout (pin (pin (pout pnil))))))))))) (c_X11_back l E ax an asx ay ap ar ai ah aj (tfOf ta tx) N xx nn ii hh jj e1 H.size) okX11_back q1335 0 rfl rfl rfl (Nat.le_of_ble_eq_true rfl) ⟨Nat.le_of_ble_eq_true rfl, Nat.le_of_ble_eq_true rfl⟩ ⟨by show 1926 + 3 * k + 0 ≤ 600000; omega, by show 49660 + 603 * k + 0 ≤ 7302250; omega⟩ dL_law_1561) (fun H locs _ hG => ?_)
  refine g_int (v := r) rfl ?_
  refine lv_aload_n hx hb dL_law_1564 rfl (lv_at hl 2 rfl) ?_
  refine gF_i (ws' := (rX E ax an asx ay ap ar ai ah aj (tfOf ta tx) xx1 ++ (rY E ay ye yy ++ (rW E an n1 ++ (rW E asx ss ++ (rW E ai ii ++ (rP E ap pp ++ (rQ E ta tx ++ (rR E ar rr ++ (rH E ah h1 ++ (rH E aj jj ++ (rM E am m1 ++ [])))))))))))) C hG (pout (pout (pout (pout (pout (pout (pout (pout (pout (pout (pin pnil))))))))))) (List.Perm.symm (pout (pout (pout (pout (pout (pout (pout (pout (pout (pout (pin pnil)))))))))))) (gR_VP (As := []) (rest := [.int r]) C hz hl.1 hG (pout (pout (pout (pout (pout (pout (pout (pout (pout (pout (pin pnil))))))))))) (c_X12_back l E am N mm e2 H.size) okX12_back q1992 0 rfl rfl rfl (Nat.le_of_ble_eq_true rfl) ⟨Nat.le_of_ble_eq_true rfl, Nat.le_of_ble_eq_true rfl⟩ ⟨by show 1926 + 3 * k + 0 + 0 ≤ 600000; omega, by show 49660 + 603 * k + 0 + 0 ≤ 7302250; omega⟩ dL_law_1565) (fun H locs _ hG => ?_)
  refine g_int (v := r) rfl ?_
  refine lv_icmp_eq (tgt := 1596) hx hb dL_law_1568 (by decide) (fun _ => ?_) (fun q => absurd rfl q)
  refine W.widen (k := 1926 + 3 * (k + 1)) (n := 49660 + 603 * (k + 1)) (by omega) (by omega) ?_
  exact nx _ _ _ _ _ _ _ _ _ _ _ _ _ _ _ _ hG hI1 hl
set_option maxHeartbeats 8000000 in
set_option maxRecDepth 100000 in
theorem case_about (h : LCX p l e s m below meth c Q E N b L xs ax an asx ay ap ar ai am ah aj ta tx ye xx yy nn ss ii pp rr hh jj mm k H locs ls) : W p l e room_1 s m #[Value.ref b] below meth c H locs (1926 + 3 * k) (49660 + 603 * k) Q (F0 m 1573 ls []) := by
  obtain ⟨C, hz, hX, hbl, hL, hk, hN, hG, hI, hl, nx⟩ := h
  have hx := C.1.1
  have hb : c.code = cL_law := C.1.2.1
  have hbA : ¬ (fun q : Nat => s.heap.size ≤ q) b := Nat.not_le.mpr hbl
  have e1 := T_about hI (xs (6 * k + 1))
  obtain ⟨r, er⟩ : ∃ r, r = fX12_about (xs (6 * k + 1)) mm := ⟨_, rfl⟩
  rw [← er] at e1
  have hI1 := hI.le (L := 16200 * k + 16200) (by omega)
  refine lv_aload_n hx hb dL_law_1573 rfl (lv_at hl 1 rfl) ?_
  refine lv_aload_n hx hb dL_law_1574 rfl (lv_at hl 0 rfl) ?_
  refine lv_iload_n hx hb dL_law_1575 rfl (lv_at hl 3 rfl) ?_
  refine lv_iconst (v := 1) hx hb dL_law_1576 (by decide) ?_
  refine lv_iadd hx hb dL_law_1577 ?_
  refine g_int (v := nI (6 * k + 1)) (nI_add (6 * k) 1).symm ?_
  refine va_sld hx hb hX hbl hbA hG.2.2 (vp_in_nI (by omega) (by omega)) dL_law_1578 ?_
  refine g_int (v := xs (6 * k + 1)) (congrArg xs (cl_nI (by omega)).symm) ?_
  refine gF_i (ws' := (rX E ax an asx ay ap ar ai ah aj (tfOf ta tx) xx ++ (rY E ay ye yy ++ (rW E an nn ++ (rW E asx ss ++ (rW E ai ii ++ (rP E ap pp ++ (rQ E ta tx ++ (rR E ar rr ++ (rH E ah hh ++ (rH E aj jj ++ (rM E am mm ++ [])))))))))))) C hG (pin (pout (pout (pout (pout (pout (pout (pin (pin (pout (pout pnil))))))))))) (List.Perm.symm (pin (pout (pout (pout (pout (pout (pout (pin (pin (pout (pout pnil)))))))))))) (gR_VP (As := [.int (xs (6 * k + 1))]) (rest := []) C hz hl.1 hG (pin (pout (pout (pout (pout (pout (pout (pin (pin (pout (pout pnil))))))))))) (c_X11_about l E ax an asx ay ap ar ai ah aj (tfOf ta tx) (xs (6 * k + 1)) xx rr hh e1 H.size) okX11_about q1339 0 rfl rfl rfl (Nat.le_of_ble_eq_true rfl) ⟨Nat.le_of_ble_eq_true rfl, Nat.le_of_ble_eq_true rfl⟩ ⟨by show 1926 + 3 * k + 0 ≤ 600000; omega, by show 49660 + 603 * k + 0 ≤ 7302250; omega⟩ dL_law_1579) (fun H locs _ hG => ?_)
  refine g_int (v := r) rfl ?_
  refine lv_aload_n hx hb dL_law_1582 rfl (lv_at hl 2 rfl) ?_
  refine lv_aload_n hx hb dL_law_1583 rfl (lv_at hl 0 rfl) ?_
  refine lv_iload_n hx hb dL_law_1584 rfl (lv_at hl 3 rfl) ?_
  refine lv_iconst (v := 1) hx hb dL_law_1585 (by decide) ?_
  refine lv_iadd hx hb dL_law_1586 ?_
  refine g_int (v := nI (6 * k + 1)) (nI_add (6 * k) 1).symm ?_
  refine va_sld hx hb hX hbl hbA hG.2.2 (vp_in_nI (by omega) (by omega)) dL_law_1587 ?_
  refine g_int (v := xs (6 * k + 1)) (congrArg xs (cl_nI (by omega)).symm) ?_
  refine gF_i (ws' := (rX E ax an asx ay ap ar ai ah aj (tfOf ta tx) xx ++ (rY E ay ye yy ++ (rW E an nn ++ (rW E asx ss ++ (rW E ai ii ++ (rP E ap pp ++ (rQ E ta tx ++ (rR E ar rr ++ (rH E ah hh ++ (rH E aj jj ++ (rM E am mm ++ [])))))))))))) C hG (pout (pout (pout (pout (pout (pout (pout (pout (pout (pout (pin pnil))))))))))) (List.Perm.symm (pout (pout (pout (pout (pout (pout (pout (pout (pout (pout (pin pnil)))))))))))) (gR_VP (As := [.int (xs (6 * k + 1))]) (rest := [.int r]) C hz hl.1 hG (pout (pout (pout (pout (pout (pout (pout (pout (pout (pout (pin pnil))))))))))) (c_X12_about l E am (xs (6 * k + 1)) mm er.symm H.size) okX12_about q1996 0 rfl rfl rfl (Nat.le_of_ble_eq_true rfl) ⟨Nat.le_of_ble_eq_true rfl, Nat.le_of_ble_eq_true rfl⟩ ⟨by show 1926 + 3 * k + 0 + 0 ≤ 600000; omega, by show 49660 + 603 * k + 0 + 0 ≤ 7302250; omega⟩ dL_law_1588) (fun H locs _ hG => ?_)
  refine g_int (v := r) rfl ?_
  refine lv_icmp_eq (tgt := 1596) hx hb dL_law_1591 (by decide) (fun _ => ?_) (fun q => absurd rfl q)
  refine W.widen (k := 1926 + 3 * (k + 1)) (n := 49660 + 603 * (k + 1)) (by omega) (by omega) ?_
  exact nx _ _ _ _ _ _ _ _ _ _ _ _ _ _ _ _ hG hI1 hl
end LW
