/-! THE LAW: its loop -/
section LW
variable {p : Program} {l : Launch} {e : Env} {s : State} {m : MethodId} {below : List Frame} {meth : Method} {c : Code} {Q : State → Prop} {E : GE} {N b L : Nat} {xs : Nat → Int32} {ax an asx ay ap ar ai am : Nat → Nat} {ah aj ta : Nat → Nat → Nat} {tx : TXS} {ye : Nat → Value} {xx yy nn ss ii pp rr : RS} {hh jj : HS} {mm : RS} {k : Nat} {H : Heap} {locs : List Loc} {ls : Array Slot}
theorem and63 (x : Int32) : ∃ n, n < 64 ∧ x &&& 63 = nI n := by
  refine ⟨(x.toBitVec &&& 63#32).toNat, ?_, ?_⟩
  · rw [BitVec.toNat_and]
    exact Nat.lt_of_le_of_lt Nat.and_le_right (by decide)
  · refine Int32.toBitVec_inj.mp ?_
    show x.toBitVec &&& 63#32 = BitVec.ofNat 32 (x.toBitVec &&& 63#32).toNat
    rw [BitVec.ofNat_toNat, BitVec.setWidth_eq]
theorem len_gt {L i : Nat} (hL : L ≤ 3072) (hi : i ≤ 10000) : Int32.ofNat L - 6 < nI i ↔ L < i + 6 := by
  have h1 : (Int32.ofNat L).toInt = (L : Int) := nI_toInt (n := L) (by omega)
  have h6 : (6 : Int32).toInt = 6 := by decide
  rw [Int32.lt_iff_toInt_lt, xsub (by rw [h1, h6]; omega) (by rw [h1, h6]; omega), h1, h6, nI_toInt (by omega)]
  omega

set_option maxHeartbeats 8000000 in
set_option maxRecDepth 100000 in
theorem law_case (h : LCX p l e s m below meth c Q E N b L xs ax an asx ay ap ar ai am ah aj ta tx ye xx yy nn ss ii pp rr hh jj mm k H locs ls) : W p l e room_1 s m #[Value.ref b] below meth c H locs (1926 + 3 * k) (49660 + 603 * k) Q (F0 m 27 ls []) := by
  obtain ⟨C, hz, hX, hbl, hL, hk, hN, hG, hI, hl, nx⟩ := id h
  have hx := C.1.1
  have hb : c.code = cL_law := C.1.2.1
  have hbA : ¬ (fun q : Nat => s.heap.size ≤ q) b := Nat.not_le.mpr hbl
  refine lv_aload_n hx hb dL_law_27 rfl (lv_at hl 0 rfl) ?_
  refine lv_iload_n hx hb dL_law_28 rfl (lv_at hl 3 rfl) ?_
  refine va_sld hx hb hX hbl hbA hG.2.2 (vp_in_nI (by omega) (by omega)) dL_law_29 ?_
  refine g_int (v := xs (6 * k)) (congrArg xs (cl_nI (by omega)).symm) ?_
  refine lv_bipush (v := 63) hx hb dL_law_30 (by decide) ?_
  refine lv_iand hx hb dL_law_32 ?_
  obtain ⟨n, hn, hv⟩ := and63 (xs (6 * k))
  refine g_int (v := nI n) hv.symm ?_
  clear hv
  have hdef : 53 ≤ n → W p l e room_1 s m #[Value.ref b] below meth c H locs (1926 + 3 * k) (49660 + 603 * k) Q (F0 m 33 ls [.int (nI n)]) := fun h53 => by
    refine lv_tableOut (tgt := 1596) hx hb dL_law_33 (Or.inr (by rw [nI_toInt (by omega)]; omega)) (by decide) ?_
    refine W.widen (k := 1926 + 3 * (k + 1)) (n := 49660 + 603 * (k + 1)) (by omega) (by omega) ?_
    exact nx _ _ _ _ _ _ _ _ _ _ _ _ _ _ _ _ hG (hI.le (by omega)) hl
  match n, hn, hdef with
  | 0, _, _ => exact lv_tableIn (tgt := 260) hx hb dL_law_33 (by decide) (by decide) (off := 227) (by decide) (by decide) (case_feed h)
  | 1, _, _ => exact lv_tableIn (tgt := 323) hx hb dL_law_33 (by decide) (by decide) (off := 290) (by decide) (by decide) (case_end h)
  | 2, _, _ => exact lv_tableIn (tgt := 346) hx hb dL_law_33 (by decide) (by decide) (off := 313) (by decide) (by decide) (case_text h)
  | 3, _, _ => exact lv_tableIn (tgt := 359) hx hb dL_law_33 (by decide) (by decide) (off := 326) (by decide) (by decide) (case_fault h)
  | 4, _, _ => exact lv_tableIn (tgt := 382) hx hb dL_law_33 (by decide) (by decide) (off := 349) (by decide) (by decide) (case_read h)
  | 5, _, _ => exact lv_tableIn (tgt := 415) hx hb dL_law_33 (by decide) (by decide) (off := 382) (by decide) (by decide) (case_write h)
  | 6, _, _ => exact lv_tableIn (tgt := 458) hx hb dL_law_33 (by decide) (by decide) (off := 425) (by decide) (by decide) (case_scan h)
  | 7, _, _ => exact lv_tableIn (tgt := 491) hx hb dL_law_33 (by decide) (by decide) (off := 458) (by decide) (by decide) (case_pin h)
  | 8, _, _ => exact lv_tableIn (tgt := 524) hx hb dL_law_33 (by decide) (by decide) (off := 491) (by decide) (by decide) (case_tell h)
  | 9, _, _ => exact lv_tableIn (tgt := 557) hx hb dL_law_33 (by decide) (by decide) (off := 524) (by decide) (by decide) (case_ask h)
  | 10, _, _ => exact lv_tableIn (tgt := 580) hx hb dL_law_33 (by decide) (by decide) (off := 547) (by decide) (by decide) (case_drop h)
  | 11, _, _ => exact lv_tableIn (tgt := 603) hx hb dL_law_33 (by decide) (by decide) (off := 570) (by decide) (by decide) (case_day h)
  | 12, _, _ => exact lv_tableIn (tgt := 626) hx hb dL_law_33 (by decide) (by decide) (off := 593) (by decide) (by decide) (case_crash h)
  | 13, _, _ => exact lv_tableIn (tgt := 639) hx hb dL_law_33 (by decide) (by decide) (off := 606) (by decide) (by decide) (case_played h)
  | 14, _, _ => exact lv_tableIn (tgt := 662) hx hb dL_law_33 (by decide) (by decide) (off := 629) (by decide) (by decide) (case_years h)
  | 15, _, _ => exact lv_tableIn (tgt := 695) hx hb dL_law_33 (by decide) (by decide) (off := 662) (by decide) (by decide) (case_undo h)
  | 16, _, _ => exact lv_tableIn (tgt := 708) hx hb dL_law_33 (by decide) (by decide) (off := 675) (by decide) (by decide) (case_is h)
  | 17, _, _ => exact lv_tableIn (tgt := 731) hx hb dL_law_33 (by decide) (by decide) (off := 698) (by decide) (by decide) (case_where h)
  | 18, _, _ => exact lv_tableIn (tgt := 754) hx hb dL_law_33 (by decide) (by decide) (off := 721) (by decide) (by decide) (case_slot h)
  | 19, _, _ => exact lv_tableIn (tgt := 787) hx hb dL_law_33 (by decide) (by decide) (off := 754) (by decide) (by decide) (case_on h)
  | 20, _, _ => exact lv_tableIn (tgt := 820) hx hb dL_law_33 (by decide) (by decide) (off := 787) (by decide) (by decide) (case_holder h)
  | 21, _, _ => exact lv_tableIn (tgt := 843) hx hb dL_law_33 (by decide) (by decide) (off := 810) (by decide) (by decide) (case_free h)
  | 22, _, _ => exact lv_tableIn (tgt := 866) hx hb dL_law_33 (by decide) (by decide) (off := 833) (by decide) (by decide) (case_position h)
  | 23, _, _ => exact lv_tableIn (tgt := 899) hx hb dL_law_33 (by decide) (by decide) (off := 866) (by decide) (by decide) (case_heat h)
  | 24, _, _ => exact lv_tableIn (tgt := 922) hx hb dL_law_33 (by decide) (by decide) (off := 889) (by decide) (by decide) (case_of h)
  | 25, _, _ => exact lv_tableIn (tgt := 955) hx hb dL_law_33 (by decide) (by decide) (off := 922) (by decide) (by decide) (case_head h)
  | 26, _, _ => exact lv_tableIn (tgt := 988) hx hb dL_law_33 (by decide) (by decide) (off := 955) (by decide) (by decide) (case_move h)
  | 27, _, _ => exact lv_tableIn (tgt := 1021) hx hb dL_law_33 (by decide) (by decide) (off := 988) (by decide) (by decide) (case_moveOf h)
  | 28, _, _ => exact lv_tableIn (tgt := 1044) hx hb dL_law_33 (by decide) (by decide) (off := 1011) (by decide) (by decide) (case_plan h)
  | 29, _, _ => exact lv_tableIn (tgt := 1057) hx hb dL_law_33 (by decide) (by decide) (off := 1024) (by decide) (by decide) (case_worth h)
  | 30, _, _ => exact lv_tableIn (tgt := 1080) hx hb dL_law_33 (by decide) (by decide) (off := 1047) (by decide) (by decide) (case_value h)
  | 31, _, _ => exact lv_tableIn (tgt := 1103) hx hb dL_law_33 (by decide) (by decide) (off := 1070) (by decide) (by decide) (case_needs h)
  | 32, _, _ => exact lv_tableIn (tgt := 1126) hx hb dL_law_33 (by decide) (by decide) (off := 1093) (by decide) (by decide) (case_threshold h)
  | 33, _, _ => exact lv_tableIn (tgt := 1149) hx hb dL_law_33 (by decide) (by decide) (off := 1116) (by decide) (by decide) (case_displaced h)
  | 34, _, _ => exact lv_tableIn (tgt := 1172) hx hb dL_law_33 (by decide) (by decide) (off := 1139) (by decide) (by decide) (case_may h)
  | 35, _, _ => exact lv_tableIn (tgt := 1221) hx hb dL_law_33 (by decide) (by decide) (off := 1188) (by decide) (by decide) (case_next h)
  | 36, _, _ => exact lv_tableIn (tgt := 1244) hx hb dL_law_33 (by decide) (by decide) (off := 1211) (by decide) (by decide) (case_enough h)
  | 37, _, _ => exact lv_tableIn (tgt := 1257) hx hb dL_law_33 (by decide) (by decide) (off := 1224) (by decide) (by decide) (case_gained h)
  | 38, _, _ => exact lv_tableIn (tgt := 1280) hx hb dL_law_33 (by decide) (by decide) (off := 1247) (by decide) (by decide) (case_foretold h)
  | 39, _, _ => exact lv_tableIn (tgt := 1313) hx hb dL_law_33 (by decide) (by decide) (off := 1280) (by decide) (by decide) (case_copies h)
  | 40, _, _ => exact lv_tableIn (tgt := 1336) hx hb dL_law_33 (by decide) (by decide) (off := 1303) (by decide) (by decide) (case_would h)
  | 41, _, _ => exact lv_tableIn (tgt := 1359) hx hb dL_law_33 (by decide) (by decide) (off := 1326) (by decide) (by decide) (case_cheapest h)
  | 42, _, _ => exact lv_tableIn (tgt := 1372) hx hb dL_law_33 (by decide) (by decide) (off := 1339) (by decide) (by decide) (case_rank h)
  | 43, _, _ => exact lv_tableIn (tgt := 1395) hx hb dL_law_33 (by decide) (by decide) (off := 1362) (by decide) (by decide) (case_coldest h)
  | 44, _, _ => exact lv_tableIn (tgt := 1418) hx hb dL_law_33 (by decide) (by decide) (off := 1385) (by decide) (by decide) (case_warmth h)
  | 45, _, _ => exact lv_tableIn (tgt := 1441) hx hb dL_law_33 (by decide) (by decide) (off := 1408) (by decide) (by decide) (case_cools h)
  | 46, _, _ => exact lv_tableIn (tgt := 1464) hx hb dL_law_33 (by decide) (by decide) (off := 1431) (by decide) (by decide) (case_share h)
  | 47, _, _ => exact lv_tableIn (tgt := 1477) hx hb dL_law_33 (by decide) (by decide) (off := 1444) (by decide) (by decide) (case_mean h)
  | 48, _, _ => exact lv_tableIn (tgt := 1491) hx hb dL_law_33 (by decide) (by decide) (off := 1458) (by decide) (by decide) (case_book h)
  | 49, _, _ => exact lv_tableIn (tgt := 1524) hx hb dL_law_33 (by decide) (by decide) (off := 1491) (by decide) (by decide) (case_ledger h)
  | 50, _, _ => exact lv_tableIn (tgt := 1547) hx hb dL_law_33 (by decide) (by decide) (off := 1514) (by decide) (by decide) (case_image h)
  | 51, _, _ => exact lv_tableIn (tgt := 1560) hx hb dL_law_33 (by decide) (by decide) (off := 1527) (by decide) (by decide) (case_back h)
  | 52, _, _ => exact lv_tableIn (tgt := 1573) hx hb dL_law_33 (by decide) (by decide) (off := 1540) (by decide) (by decide) (case_about h)
  | n + 53, _, hdef => exact hdef (by omega)
set_option maxHeartbeats 8000000 in
set_option maxRecDepth 100000 in
theorem law_loop (hC : gC E p m c cL_law 4 s #[Value.ref b] RL (fun q : Nat => s.heap.size ≤ q)) (hz : E.2.2 0 ≤ s.heap.size) (hX : va_X b L xs s s.heap) (hbl : b < s.heap.size) (hL : L ≤ 3072) (hN : 300000 ≤ N)
    (hend : ∀ (H : Heap) (ls : Array Slot), W p l e room_1 s m #[Value.ref b] below meth c H [] 600000 7302250 Q (F0 m 1603 ls [.int 1])) :
    ∀ (d k : Nat) (ta : Nat → Nat → Nat) (tx : TXS) (ye : Nat → Value) (xx : RS) (yy : RS) (nn : RS) (ss : RS) (ii : RS) (pp : RS) (rr : RS) (hh : HS) (jj : HS) (mm : RS) (H : Heap) (locs : List Loc) (ls : Array Slot), L / 6 - k = d → k ≤ L / 6 → gG E (fun q : Nat => s.heap.size ≤ q) s.heap (rX E ax an asx ay ap ar ai ah aj (tfOf ta tx) xx ++ (rY E ay ye yy ++ (rW E an nn ++ (rW E asx ss ++ (rW E ai ii ++ (rP E ap pp ++ (rQ E ta tx ++ (rR E ar rr ++ (rH E ah hh ++ (rH E aj jj ++ (rM E am mm ++ []))))))))))) H locs → INV (16200 * k) xx nn ii rr hh jj tx mm → lv_has ls 4 [(0, .ref b), (1, .ref (ax 0)), (2, .ref (am 0)), (3, .int (nI (6 * k)))] → W p l e room_1 s m #[Value.ref b] below meth c H locs (1926 + 3 * k) (49660 + 603 * k) Q (F0 m 18 ls []) := by
  have hx := hC.1.1
  have hb : c.code = cL_law := hC.1.2.1
  have hbA : ¬ (fun q : Nat => s.heap.size ≤ q) b := Nat.not_le.mpr hbl
  intro d
  induction d with
  | zero =>
    intro k ta tx ye xx yy nn ss ii pp rr hh jj mm H locs ls hd hk hG hI hl
    refine lv_iload_n hx hb dL_law_18 rfl (lv_at hl 3 rfl) ?_
    refine lv_aload_n hx hb dL_law_19 rfl (lv_at hl 0 rfl) ?_
    refine va_slen hx hb hX hbl hbA hG.2.2 dL_law_20 ?_
    refine lv_bipush (v := 6) hx hb dL_law_21 (by decide) ?_
    refine lv_isub hx hb dL_law_23 ?_
    refine lv_icmp_gt (tgt := 1602) hx hb dL_law_24 (by decide) (fun _ => ?_) (fun q => absurd ((len_gt hL (by omega)).mpr (by omega)) q)
    refine lv_iconst (v := 1) hx hb dL_law_1602 (by decide) ?_
    refine va_forget hG.2.2.2.2 ?_
    refine W.widen (k := 600000) (n := 7302250) (by omega) (by omega) ?_
    exact hend H ls
  | succ d ih =>
    intro k ta tx ye xx yy nn ss ii pp rr hh jj mm H locs ls hd hk hG hI hl
    have hk6 : 6 * k + 6 ≤ L := by omega
    refine lv_iload_n hx hb dL_law_18 rfl (lv_at hl 3 rfl) ?_
    refine lv_aload_n hx hb dL_law_19 rfl (lv_at hl 0 rfl) ?_
    refine va_slen hx hb hX hbl hbA hG.2.2 dL_law_20 ?_
    refine lv_bipush (v := 6) hx hb dL_law_21 (by decide) ?_
    refine lv_isub hx hb dL_law_23 ?_
    refine lv_icmp_gt (tgt := 1602) hx hb dL_law_24 (by decide) (fun q => absurd ((len_gt hL (by omega)).mp q) (by omega)) (fun _ => ?_)
    refine law_case ⟨hC, hz, hX, hbl, hL, hk6, hN, hG, hI, hl, ?_⟩
    intro ta tx ye xx yy nn ss ii pp rr hh jj mm H locs ls hG hI hl
    refine lv_iinc (v := nI (6 * (k + 1))) (lv' := [(3, .int (nI (6 * (k + 1)))), (0, .ref b), (1, .ref (ax 0)), (2, .ref (am 0))]) hx hb dL_law_1596 hl (k := 3) rfl (by rw [show Int32.ofInt 6 = nI 6 from by decide, nI_add]; rfl) (by decide) rfl (fun ls hl => ?_)
    refine lv_goto (tgt := 18) hx hb dL_law_1599 (by decide) ?_
    exact ih (k + 1) ta tx ye xx yy nn ss ii pp rr hh jj mm H locs ls (by omega) (by omega) hG (by rw [show 16200 * (k + 1) = 16200 * k + 16200 from by omega]; exact hI) (lv_sub hl [1, 2, 3, 0] rfl)
end LW
