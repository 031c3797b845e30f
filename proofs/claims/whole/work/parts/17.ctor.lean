/-! CONSTRUCTORS -/
def zRS : RS := fun _ _ => 0
def rplug (w : RS) (b n : Nat) (u : RS) : RS := fun c => cond (Nat.ble b c && Nat.ble (c + 1) (b + n)) (u (c - b)) (w c)
def rB0 (E : GE) (ad : Nat → Nat) (w : RS) : va_W := [(ad 0, .inr (0, [.int (w 0 0), .ref (ad 1)])), (ad 1, .inl (E.2.1 0, 100, .inl (w 1)))]
def rB1 (E : GE) (ad : Nat → Nat) (w : RS) : va_W := [(ad 0, .inr (1, [.ref (ad 1), .ref (ad 2), .ref (ad 3), .ref (ad 4)])), (ad 1, .inl (E.2.1 0, 23, .inl (w 1))), (ad 2, .inl (E.2.1 0, 9, .inl (w 2))), (ad 3, .inl (E.2.1 0, 23, .inl (w 3))), (ad 4, .inl (E.2.1 0, 9, .inl (w 4)))]
def rB2 (E : GE) (ad : Nat → Nat) (w : RS) : va_W := [(ad 0, .inr (2, [.ref (ad 1), .ref (ad 2), .ref (ad 3), .ref (ad 4), .ref (ad 5), .ref (ad 6), .ref (ad 7), .ref (ad 8), .ref (ad 9), .ref (ad 10), .ref (ad 11), .ref (ad 12)])), (ad 1, .inl (E.2.1 0, 10, .inl (w 1))), (ad 2, .inl (E.2.1 0, 10, .inl (w 2))), (ad 3, .inl (E.2.1 0, 10, .inl (w 3))), (ad 4, .inl (E.2.1 0, 10, .inl (w 4))), (ad 5, .inl (E.2.1 0, 10, .inl (w 5))), (ad 6, .inl (E.2.1 0, 10, .inl (w 6))), (ad 7, .inl (E.2.1 0, 10, .inl (w 7))), (ad 8, .inl (E.2.1 0, 10, .inl (w 8))), (ad 9, .inl (E.2.1 0, 10, .inl (w 9))), (ad 10, .inl (E.2.1 0, 10, .inl (w 10))), (ad 11, .inl (E.2.1 0, 10, .inl (w 11))), (ad 12, .inl (E.2.1 0, 10, .inl (w 12)))]
def rB3 (E : GE) (ad : Nat → Nat) (w : RS) : va_W := [(ad 0, .inr (3, [.int (w 0 0), .ref (ad 1), .ref (ad 2)])), (ad 1, .inl (E.2.1 0, 3, .inl (w 1))), (ad 2, .inl (E.2.1 0, 3, .inl (w 2)))]
def rB5 (E : GE) (ad : Nat → Nat) (w : RS) : va_W := [(ad 0, .inr (5, [.int (w 0 0), .ref (ad 1), .ref (ad 2), .ref (ad 3), .ref (ad 4)])), (ad 1, .inl (E.2.1 0, 10, .inl (w 1))), (ad 2, .inl (E.2.1 0, 10, .inl (w 2))), (ad 3, .inl (E.2.1 0, 10, .inl (w 3))), (ad 4, .inl (E.2.1 0, 10, .inl (w 4)))]
def zX0_init : RS := zRS
set_option maxHeartbeats 4000000 in
set_option maxRecDepth 100000 in
theorem c_X0_init (l : Launch) (E : GE) : gMn l E yX0_init cX0_init 1 1 1 100 0 [.int 0, .null] (fun ad => rB0 E ad zX0_init) := by
  refine gMn_of (own := RX0) (by decide +kernel) rfl (by decide) rfl ?_
  intro a p e s m args below meth c A ls Q H locs C hz hl hG hmi hret
  have hx := C.1.1
  have hb := C.1.2.1
  have hts := C.1.2.2.2.2
  have hown := C.1.2.2.2.1
  have hG : gG E A s.heap ([(a, .inr (0, [.int 0, .null]))] : va_W) H locs := hG
  refine lv_aload_n hx hb dX0_init_0 rfl (lv_at hl 0 rfl) ?_
  refine W.objInit hx hb hown (hts _ q344) (hts _ q196) (hts _ q197) rfl (hl.1.trans C.1.2.2.1.symm) rfl dX0_init_1 (Nat.le_of_ble_eq_true rfl) (Nat.le_of_ble_eq_true rfl) ?_
  refine W.eq (g2 := F0 m 4 ls []) rfl ?_
  refine lv_aload_n hx hb dX0_init_4 rfl (lv_at hl 0 rfl) ?_
  refine lv_iconst (v := 0) hx hb dX0_init_5 (by decide) ?_
  refine gS_f (v := .int 0) (ws' := ([(a, .inr (0, [.int 0, .null]))] : va_W)) C hG kX0 0 0 rfl (by decide) q345 rfl rfl rfl rfl (by show 0 < 2; decide) dX0_init_6 rfl (fun H locs hG => ?_)
  refine lv_aload_n hx hb dX0_init_9 rfl (lv_at hl 0 rfl) ?_
  refine lv_bipush (v := 100) hx hb dX0_init_10 (by decide) ?_
  refine g_newi (x := 100) (N' := 100) C hG q265 (by decide) (nI_clamp (n := 100) (by decide)) (by decide) (by decide) (by decide) dX0_init_12 (fun q_1 H hG => ?_)
  have hG : gG E A s.heap ([(a, .inr (0, [.int 0, .null])), (q_1, .inl (E.2.1 0, 100, .inl (fun _ => 0)))] : va_W) H _ := hG
  refine W.cs (cells' := 1) (slots' := 100) rfl rfl ?_
  refine gS_F (v := .ref q_1) (ws' := ([(a, .inr (0, [.int 0, .ref q_1])), (q_1, .inl (E.2.1 0, 100, .inl (fun _ => 0)))] : va_W)) C hG kX0 hmi 0 1 rfl (by decide) q346 rfl rfl rfl rfl rfl (by show 1 < 2; decide) dX0_init_14 rfl (fun H locs hG => ?_)
  obtain ⟨ad, had⟩ : ∃ ad : Nat → Nat, ad = fun k => [a, q_1].getD k 0 := ⟨_, rfl⟩
  have hG : gG E A s.heap (rB0 E ad zX0_init ++ []) H locs := by rw [had]; exact hG
  have ha0 : ad 0 = a := by rw [had]; rfl
  exact hret _ _ _ _ ad ha0 (gG_nil hG) dX0_init_17
def zX3_init : RS := zRS
set_option maxHeartbeats 4000000 in
set_option maxRecDepth 100000 in
theorem c_X3_init (l : Launch) (E : GE) : gMn l E yX3_init cX3_init 1 1 2 6 3 [.int 0, .null, .null] (fun ad => rB3 E ad zX3_init) := by
  refine gMn_of (own := RX3) (by decide +kernel) rfl (by decide) rfl ?_
  intro a p e s m args below meth c A ls Q H locs C hz hl hG hmi hret
  have hx := C.1.1
  have hb := C.1.2.1
  have hts := C.1.2.2.2.2
  have hown := C.1.2.2.2.1
  have hG : gG E A s.heap ([(a, .inr (3, [.int 0, .null, .null]))] : va_W) H locs := hG
  refine lv_aload_n hx hb dX3_init_0 rfl (lv_at hl 0 rfl) ?_
  refine W.objInit hx hb hown (hts _ q295) (hts _ q196) (hts _ q197) rfl (hl.1.trans C.1.2.2.1.symm) rfl dX3_init_1 (Nat.le_of_ble_eq_true rfl) (Nat.le_of_ble_eq_true rfl) ?_
  refine W.eq (g2 := F0 m 4 ls []) rfl ?_
  refine lv_aload_n hx hb dX3_init_4 rfl (lv_at hl 0 rfl) ?_
  refine lv_iconst (v := 0) hx hb dX3_init_5 (by decide) ?_
  refine gS_f (v := .int 0) (ws' := ([(a, .inr (3, [.int 0, .null, .null]))] : va_W)) C hG kX3 0 0 rfl (by decide) q296 rfl rfl rfl rfl (by show 0 < 3; decide) dX3_init_6 rfl (fun H locs hG => ?_)
  refine lv_aload_n hx hb dX3_init_9 rfl (lv_at hl 0 rfl) ?_
  refine lv_iconst (v := 3) hx hb dX3_init_10 (by decide) ?_
  refine g_newi (x := 3) (N' := 3) C hG q265 (by decide) (nI_clamp (n := 3) (by decide)) (by decide) (by decide) (by decide) dX3_init_11 (fun q_1 H hG => ?_)
  have hG : gG E A s.heap ([(a, .inr (3, [.int 0, .null, .null])), (q_1, .inl (E.2.1 0, 3, .inl (fun _ => 0)))] : va_W) H _ := hG
  refine W.cs (cells' := 1) (slots' := 3) rfl rfl ?_
  refine gS_F (v := .ref q_1) (ws' := ([(a, .inr (3, [.int 0, .ref q_1, .null])), (q_1, .inl (E.2.1 0, 3, .inl (fun _ => 0)))] : va_W)) C hG kX3 hmi 0 1 rfl (by decide) q298 rfl rfl rfl rfl rfl (by show 1 < 3; decide) dX3_init_13 rfl (fun H locs hG => ?_)
  refine lv_aload_n hx hb dX3_init_16 rfl (lv_at hl 0 rfl) ?_
  refine lv_iconst (v := 3) hx hb dX3_init_17 (by decide) ?_
  refine g_newi (x := 3) (N' := 3) C hG q265 (by decide) (nI_clamp (n := 3) (by decide)) (by decide) (by decide) (by decide) dX3_init_18 (fun q_2 H hG => ?_)
  have hG : gG E A s.heap ([(a, .inr (3, [.int 0, .ref q_1, .null])), (q_1, .inl (E.2.1 0, 3, .inl (fun _ => 0))), (q_2, .inl (E.2.1 0, 3, .inl (fun _ => 0)))] : va_W) H _ := hG
  refine W.cs (cells' := 2) (slots' := 6) rfl rfl ?_
  refine gS_F (v := .ref q_2) (ws' := ([(a, .inr (3, [.int 0, .ref q_1, .ref q_2])), (q_1, .inl (E.2.1 0, 3, .inl (fun _ => 0))), (q_2, .inl (E.2.1 0, 3, .inl (fun _ => 0)))] : va_W)) C hG kX3 hmi 0 2 rfl (by decide) q299 rfl rfl rfl rfl rfl (by show 2 < 3; decide) dX3_init_20 rfl (fun H locs hG => ?_)
  obtain ⟨ad, had⟩ : ∃ ad : Nat → Nat, ad = fun k => [a, q_1, q_2].getD k 0 := ⟨_, rfl⟩
  have hG : gG E A s.heap (rB3 E ad zX3_init ++ []) H locs := by rw [had]; exact hG
  have ha0 : ad 0 = a := by rw [had]; rfl
  exact hret _ _ _ _ ad ha0 (gG_nil hG) dX3_init_23
def zX2_init : RS := zRS
set_option maxHeartbeats 4000000 in
set_option maxRecDepth 100000 in
theorem c_X2_init (l : Launch) (E : GE) : gMn l E yX2_init cX2_init 1 1 12 120 2 [.null, .null, .null, .null, .null, .null, .null, .null, .null, .null, .null, .null] (fun ad => rB2 E ad zX2_init) := by
  refine gMn_of (own := RX2) (by decide +kernel) rfl (by decide) rfl ?_
  intro a p e s m args below meth c A ls Q H locs C hz hl hG hmi hret
  have hx := C.1.1
  have hb := C.1.2.1
  have hts := C.1.2.2.2.2
  have hown := C.1.2.2.2.1
  have hG : gG E A s.heap ([(a, .inr (2, [.null, .null, .null, .null, .null, .null, .null, .null, .null, .null, .null, .null]))] : va_W) H locs := hG
  refine lv_aload_n hx hb dX2_init_0 rfl (lv_at hl 0 rfl) ?_
  refine W.objInit hx hb hown (hts _ q209) (hts _ q196) (hts _ q197) rfl (hl.1.trans C.1.2.2.1.symm) rfl dX2_init_1 (Nat.le_of_ble_eq_true rfl) (Nat.le_of_ble_eq_true rfl) ?_
  refine W.eq (g2 := F0 m 4 ls []) rfl ?_
  refine lv_aload_n hx hb dX2_init_4 rfl (lv_at hl 0 rfl) ?_
  refine lv_bipush (v := 10) hx hb dX2_init_5 (by decide) ?_
  refine g_newi (x := 10) (N' := 10) C hG q265 (by decide) (nI_clamp (n := 10) (by decide)) (by decide) (by decide) (by decide) dX2_init_7 (fun q_1 H hG => ?_)
  have hG : gG E A s.heap ([(a, .inr (2, [.null, .null, .null, .null, .null, .null, .null, .null, .null, .null, .null, .null])), (q_1, .inl (E.2.1 0, 10, .inl (fun _ => 0)))] : va_W) H _ := hG
  refine W.cs (cells' := 1) (slots' := 10) rfl rfl ?_
  refine gS_F (v := .ref q_1) (ws' := ([(a, .inr (2, [.ref q_1, .null, .null, .null, .null, .null, .null, .null, .null, .null, .null, .null])), (q_1, .inl (E.2.1 0, 10, .inl (fun _ => 0)))] : va_W)) C hG kX2 hmi 0 0 rfl (by decide) q210 rfl rfl rfl rfl rfl (by show 0 < 12; decide) dX2_init_9 rfl (fun H locs hG => ?_)
  refine lv_aload_n hx hb dX2_init_12 rfl (lv_at hl 0 rfl) ?_
  refine lv_bipush (v := 10) hx hb dX2_init_13 (by decide) ?_
  refine g_newi (x := 10) (N' := 10) C hG q265 (by decide) (nI_clamp (n := 10) (by decide)) (by decide) (by decide) (by decide) dX2_init_15 (fun q_2 H hG => ?_)
  have hG : gG E A s.heap ([(a, .inr (2, [.ref q_1, .null, .null, .null, .null, .null, .null, .null, .null, .null, .null, .null])), (q_1, .inl (E.2.1 0, 10, .inl (fun _ => 0))), (q_2, .inl (E.2.1 0, 10, .inl (fun _ => 0)))] : va_W) H _ := hG
  refine W.cs (cells' := 2) (slots' := 20) rfl rfl ?_
  refine gS_F (v := .ref q_2) (ws' := ([(a, .inr (2, [.ref q_1, .ref q_2, .null, .null, .null, .null, .null, .null, .null, .null, .null, .null])), (q_1, .inl (E.2.1 0, 10, .inl (fun _ => 0))), (q_2, .inl (E.2.1 0, 10, .inl (fun _ => 0)))] : va_W)) C hG kX2 hmi 0 1 rfl (by decide) q214 rfl rfl rfl rfl rfl (by show 1 < 12; decide) dX2_init_17 rfl (fun H locs hG => ?_)
  refine lv_aload_n hx hb dX2_init_20 rfl (lv_at hl 0 rfl) ?_
  refine lv_bipush (v := 10) hx hb dX2_init_21 (by decide) ?_
  refine g_newi (x := 10) (N' := 10) C hG q265 (by decide) (nI_clamp (n := 10) (by decide)) (by decide) (by decide) (by decide) dX2_init_23 (fun q_3 H hG => ?_)
  have hG : gG E A s.heap ([(a, .inr (2, [.ref q_1, .ref q_2, .null, .null, .null, .null, .null, .null, .null, .null, .null, .null])), (q_1, .inl (E.2.1 0, 10, .inl (fun _ => 0))), (q_2, .inl (E.2.1 0, 10, .inl (fun _ => 0))), (q_3, .inl (E.2.1 0, 10, .inl (fun _ => 0)))] : va_W) H _ := hG
  refine W.cs (cells' := 3) (slots' := 30) rfl rfl ?_
  refine gS_F (v := .ref q_3) (ws' := ([(a, .inr (2, [.ref q_1, .ref q_2, .ref q_3, .null, .null, .null, .null, .null, .null, .null, .null, .null])), (q_1, .inl (E.2.1 0, 10, .inl (fun _ => 0))), (q_2, .inl (E.2.1 0, 10, .inl (fun _ => 0))), (q_3, .inl (E.2.1 0, 10, .inl (fun _ => 0)))] : va_W)) C hG kX2 hmi 0 2 rfl (by decide) q217 rfl rfl rfl rfl rfl (by show 2 < 12; decide) dX2_init_25 rfl (fun H locs hG => ?_)
  refine lv_aload_n hx hb dX2_init_28 rfl (lv_at hl 0 rfl) ?_
  refine lv_bipush (v := 10) hx hb dX2_init_29 (by decide) ?_
  refine g_newi (x := 10) (N' := 10) C hG q265 (by decide) (nI_clamp (n := 10) (by decide)) (by decide) (by decide) (by decide) dX2_init_31 (fun q_4 H hG => ?_)
  have hG : gG E A s.heap ([(a, .inr (2, [.ref q_1, .ref q_2, .ref q_3, .null, .null, .null, .null, .null, .null, .null, .null, .null])), (q_1, .inl (E.2.1 0, 10, .inl (fun _ => 0))), (q_2, .inl (E.2.1 0, 10, .inl (fun _ => 0))), (q_3, .inl (E.2.1 0, 10, .inl (fun _ => 0))), (q_4, .inl (E.2.1 0, 10, .inl (fun _ => 0)))] : va_W) H _ := hG
  refine W.cs (cells' := 4) (slots' := 40) rfl rfl ?_
  refine gS_F (v := .ref q_4) (ws' := ([(a, .inr (2, [.ref q_1, .ref q_2, .ref q_3, .ref q_4, .null, .null, .null, .null, .null, .null, .null, .null])), (q_1, .inl (E.2.1 0, 10, .inl (fun _ => 0))), (q_2, .inl (E.2.1 0, 10, .inl (fun _ => 0))), (q_3, .inl (E.2.1 0, 10, .inl (fun _ => 0))), (q_4, .inl (E.2.1 0, 10, .inl (fun _ => 0)))] : va_W)) C hG kX2 hmi 0 3 rfl (by decide) q220 rfl rfl rfl rfl rfl (by show 3 < 12; decide) dX2_init_33 rfl (fun H locs hG => ?_)
  refine lv_aload_n hx hb dX2_init_36 rfl (lv_at hl 0 rfl) ?_
  refine lv_bipush (v := 10) hx hb dX2_init_37 (by decide) ?_
  refine g_newi (x := 10) (N' := 10) C hG q265 (by decide) (nI_clamp (n := 10) (by decide)) (by decide) (by decide) (by decide) dX2_init_39 (fun q_5 H hG => ?_)
  have hG : gG E A s.heap ([(a, .inr (2, [.ref q_1, .ref q_2, .ref q_3, .ref q_4, .null, .null, .null, .null, .null, .null, .null, .null])), (q_1, .inl (E.2.1 0, 10, .inl (fun _ => 0))), (q_2, .inl (E.2.1 0, 10, .inl (fun _ => 0))), (q_3, .inl (E.2.1 0, 10, .inl (fun _ => 0))), (q_4, .inl (E.2.1 0, 10, .inl (fun _ => 0))), (q_5, .inl (E.2.1 0, 10, .inl (fun _ => 0)))] : va_W) H _ := hG
  refine W.cs (cells' := 5) (slots' := 50) rfl rfl ?_
  refine gS_F (v := .ref q_5) (ws' := ([(a, .inr (2, [.ref q_1, .ref q_2, .ref q_3, .ref q_4, .ref q_5, .null, .null, .null, .null, .null, .null, .null])), (q_1, .inl (E.2.1 0, 10, .inl (fun _ => 0))), (q_2, .inl (E.2.1 0, 10, .inl (fun _ => 0))), (q_3, .inl (E.2.1 0, 10, .inl (fun _ => 0))), (q_4, .inl (E.2.1 0, 10, .inl (fun _ => 0))), (q_5, .inl (E.2.1 0, 10, .inl (fun _ => 0)))] : va_W)) C hG kX2 hmi 0 4 rfl (by decide) q223 rfl rfl rfl rfl rfl (by show 4 < 12; decide) dX2_init_41 rfl (fun H locs hG => ?_)
  refine lv_aload_n hx hb dX2_init_44 rfl (lv_at hl 0 rfl) ?_
  refine lv_bipush (v := 10) hx hb dX2_init_45 (by decide) ?_
  refine g_newi (x := 10) (N' := 10) C hG q265 (by decide) (nI_clamp (n := 10) (by decide)) (by decide) (by decide) (by decide) dX2_init_47 (fun q_6 H hG => ?_)
  have hG : gG E A s.heap ([(a, .inr (2, [.ref q_1, .ref q_2, .ref q_3, .ref q_4, .ref q_5, .null, .null, .null, .null, .null, .null, .null])), (q_1, .inl (E.2.1 0, 10, .inl (fun _ => 0))), (q_2, .inl (E.2.1 0, 10, .inl (fun _ => 0))), (q_3, .inl (E.2.1 0, 10, .inl (fun _ => 0))), (q_4, .inl (E.2.1 0, 10, .inl (fun _ => 0))), (q_5, .inl (E.2.1 0, 10, .inl (fun _ => 0))), (q_6, .inl (E.2.1 0, 10, .inl (fun _ => 0)))] : va_W) H _ := hG
  refine W.cs (cells' := 6) (slots' := 60) rfl rfl ?_
  refine gS_F (v := .ref q_6) (ws' := ([(a, .inr (2, [.ref q_1, .ref q_2, .ref q_3, .ref q_4, .ref q_5, .ref q_6, .null, .null, .null, .null, .null, .null])), (q_1, .inl (E.2.1 0, 10, .inl (fun _ => 0))), (q_2, .inl (E.2.1 0, 10, .inl (fun _ => 0))), (q_3, .inl (E.2.1 0, 10, .inl (fun _ => 0))), (q_4, .inl (E.2.1 0, 10, .inl (fun _ => 0))), (q_5, .inl (E.2.1 0, 10, .inl (fun _ => 0))), (q_6, .inl (E.2.1 0, 10, .inl (fun _ => 0)))] : va_W)) C hG kX2 hmi 0 5 rfl (by decide) q225 rfl rfl rfl rfl rfl (by show 5 < 12; decide) dX2_init_49 rfl (fun H locs hG => ?_)
  refine lv_aload_n hx hb dX2_init_52 rfl (lv_at hl 0 rfl) ?_
  refine lv_bipush (v := 10) hx hb dX2_init_53 (by decide) ?_
  refine g_newi (x := 10) (N' := 10) C hG q265 (by decide) (nI_clamp (n := 10) (by decide)) (by decide) (by decide) (by decide) dX2_init_55 (fun q_7 H hG => ?_)
  have hG : gG E A s.heap ([(a, .inr (2, [.ref q_1, .ref q_2, .ref q_3, .ref q_4, .ref q_5, .ref q_6, .null, .null, .null, .null, .null, .null])), (q_1, .inl (E.2.1 0, 10, .inl (fun _ => 0))), (q_2, .inl (E.2.1 0, 10, .inl (fun _ => 0))), (q_3, .inl (E.2.1 0, 10, .inl (fun _ => 0))), (q_4, .inl (E.2.1 0, 10, .inl (fun _ => 0))), (q_5, .inl (E.2.1 0, 10, .inl (fun _ => 0))), (q_6, .inl (E.2.1 0, 10, .inl (fun _ => 0))), (q_7, .inl (E.2.1 0, 10, .inl (fun _ => 0)))] : va_W) H _ := hG
  refine W.cs (cells' := 7) (slots' := 70) rfl rfl ?_
  refine gS_F (v := .ref q_7) (ws' := ([(a, .inr (2, [.ref q_1, .ref q_2, .ref q_3, .ref q_4, .ref q_5, .ref q_6, .ref q_7, .null, .null, .null, .null, .null])), (q_1, .inl (E.2.1 0, 10, .inl (fun _ => 0))), (q_2, .inl (E.2.1 0, 10, .inl (fun _ => 0))), (q_3, .inl (E.2.1 0, 10, .inl (fun _ => 0))), (q_4, .inl (E.2.1 0, 10, .inl (fun _ => 0))), (q_5, .inl (E.2.1 0, 10, .inl (fun _ => 0))), (q_6, .inl (E.2.1 0, 10, .inl (fun _ => 0))), (q_7, .inl (E.2.1 0, 10, .inl (fun _ => 0)))] : va_W)) C hG kX2 hmi 0 6 rfl (by decide) q228 rfl rfl rfl rfl rfl (by show 6 < 12; decide) dX2_init_57 rfl (fun H locs hG => ?_)
  refine lv_aload_n hx hb dX2_init_60 rfl (lv_at hl 0 rfl) ?_
  refine lv_bipush (v := 10) hx hb dX2_init_61 (by decide) ?_
  refine g_newi (x := 10) (N' := 10) C hG q265 (by decide) (nI_clamp (n := 10) (by decide)) (by decide) (by decide) (by decide) dX2_init_63 (fun q_8 H hG => ?_)
  have hG : gG E A s.heap ([(a, .inr (2, [.ref q_1, .ref q_2, .ref q_3, .ref q_4, .ref q_5, .ref q_6, .ref q_7, .null, .null, .null, .null, .null])), (q_1, .inl (E.2.1 0, 10, .inl (fun _ => 0))), (q_2, .inl (E.2.1 0, 10, .inl (fun _ => 0))), (q_3, .inl (E.2.1 0, 10, .inl (fun _ => 0))), (q_4, .inl (E.2.1 0, 10, .inl (fun _ => 0))), (q_5, .inl (E.2.1 0, 10, .inl (fun _ => 0))), (q_6, .inl (E.2.1 0, 10, .inl (fun _ => 0))), (q_7, .inl (E.2.1 0, 10, .inl (fun _ => 0))), (q_8, .inl (E.2.1 0, 10, .inl (fun _ => 0)))] : va_W) H _ := hG
  refine W.cs (cells' := 8) (slots' := 80) rfl rfl ?_
  refine gS_F (v := .ref q_8) (ws' := ([(a, .inr (2, [.ref q_1, .ref q_2, .ref q_3, .ref q_4, .ref q_5, .ref q_6, .ref q_7, .ref q_8, .null, .null, .null, .null])), (q_1, .inl (E.2.1 0, 10, .inl (fun _ => 0))), (q_2, .inl (E.2.1 0, 10, .inl (fun _ => 0))), (q_3, .inl (E.2.1 0, 10, .inl (fun _ => 0))), (q_4, .inl (E.2.1 0, 10, .inl (fun _ => 0))), (q_5, .inl (E.2.1 0, 10, .inl (fun _ => 0))), (q_6, .inl (E.2.1 0, 10, .inl (fun _ => 0))), (q_7, .inl (E.2.1 0, 10, .inl (fun _ => 0))), (q_8, .inl (E.2.1 0, 10, .inl (fun _ => 0)))] : va_W)) C hG kX2 hmi 0 7 rfl (by decide) q231 rfl rfl rfl rfl rfl (by show 7 < 12; decide) dX2_init_65 rfl (fun H locs hG => ?_)
  refine lv_aload_n hx hb dX2_init_68 rfl (lv_at hl 0 rfl) ?_
  refine lv_bipush (v := 10) hx hb dX2_init_69 (by decide) ?_
  refine g_newi (x := 10) (N' := 10) C hG q265 (by decide) (nI_clamp (n := 10) (by decide)) (by decide) (by decide) (by decide) dX2_init_71 (fun q_9 H hG => ?_)
  have hG : gG E A s.heap ([(a, .inr (2, [.ref q_1, .ref q_2, .ref q_3, .ref q_4, .ref q_5, .ref q_6, .ref q_7, .ref q_8, .null, .null, .null, .null])), (q_1, .inl (E.2.1 0, 10, .inl (fun _ => 0))), (q_2, .inl (E.2.1 0, 10, .inl (fun _ => 0))), (q_3, .inl (E.2.1 0, 10, .inl (fun _ => 0))), (q_4, .inl (E.2.1 0, 10, .inl (fun _ => 0))), (q_5, .inl (E.2.1 0, 10, .inl (fun _ => 0))), (q_6, .inl (E.2.1 0, 10, .inl (fun _ => 0))), (q_7, .inl (E.2.1 0, 10, .inl (fun _ => 0))), (q_8, .inl (E.2.1 0, 10, .inl (fun _ => 0))), (q_9, .inl (E.2.1 0, 10, .inl (fun _ => 0)))] : va_W) H _ := hG
  refine W.cs (cells' := 9) (slots' := 90) rfl rfl ?_
  refine gS_F (v := .ref q_9) (ws' := ([(a, .inr (2, [.ref q_1, .ref q_2, .ref q_3, .ref q_4, .ref q_5, .ref q_6, .ref q_7, .ref q_8, .ref q_9, .null, .null, .null])), (q_1, .inl (E.2.1 0, 10, .inl (fun _ => 0))), (q_2, .inl (E.2.1 0, 10, .inl (fun _ => 0))), (q_3, .inl (E.2.1 0, 10, .inl (fun _ => 0))), (q_4, .inl (E.2.1 0, 10, .inl (fun _ => 0))), (q_5, .inl (E.2.1 0, 10, .inl (fun _ => 0))), (q_6, .inl (E.2.1 0, 10, .inl (fun _ => 0))), (q_7, .inl (E.2.1 0, 10, .inl (fun _ => 0))), (q_8, .inl (E.2.1 0, 10, .inl (fun _ => 0))), (q_9, .inl (E.2.1 0, 10, .inl (fun _ => 0)))] : va_W)) C hG kX2 hmi 0 8 rfl (by decide) q233 rfl rfl rfl rfl rfl (by show 8 < 12; decide) dX2_init_73 rfl (fun H locs hG => ?_)
  refine lv_aload_n hx hb dX2_init_76 rfl (lv_at hl 0 rfl) ?_
  refine lv_bipush (v := 10) hx hb dX2_init_77 (by decide) ?_
  refine g_newi (x := 10) (N' := 10) C hG q265 (by decide) (nI_clamp (n := 10) (by decide)) (by decide) (by decide) (by decide) dX2_init_79 (fun q_10 H hG => ?_)
  have hG : gG E A s.heap ([(a, .inr (2, [.ref q_1, .ref q_2, .ref q_3, .ref q_4, .ref q_5, .ref q_6, .ref q_7, .ref q_8, .ref q_9, .null, .null, .null])), (q_1, .inl (E.2.1 0, 10, .inl (fun _ => 0))), (q_2, .inl (E.2.1 0, 10, .inl (fun _ => 0))), (q_3, .inl (E.2.1 0, 10, .inl (fun _ => 0))), (q_4, .inl (E.2.1 0, 10, .inl (fun _ => 0))), (q_5, .inl (E.2.1 0, 10, .inl (fun _ => 0))), (q_6, .inl (E.2.1 0, 10, .inl (fun _ => 0))), (q_7, .inl (E.2.1 0, 10, .inl (fun _ => 0))), (q_8, .inl (E.2.1 0, 10, .inl (fun _ => 0))), (q_9, .inl (E.2.1 0, 10, .inl (fun _ => 0))), (q_10, .inl (E.2.1 0, 10, .inl (fun _ => 0)))] : va_W) H _ := hG
  refine W.cs (cells' := 10) (slots' := 100) rfl rfl ?_
  refine gS_F (v := .ref q_10) (ws' := ([(a, .inr (2, [.ref q_1, .ref q_2, .ref q_3, .ref q_4, .ref q_5, .ref q_6, .ref q_7, .ref q_8, .ref q_9, .ref q_10, .null, .null])), (q_1, .inl (E.2.1 0, 10, .inl (fun _ => 0))), (q_2, .inl (E.2.1 0, 10, .inl (fun _ => 0))), (q_3, .inl (E.2.1 0, 10, .inl (fun _ => 0))), (q_4, .inl (E.2.1 0, 10, .inl (fun _ => 0))), (q_5, .inl (E.2.1 0, 10, .inl (fun _ => 0))), (q_6, .inl (E.2.1 0, 10, .inl (fun _ => 0))), (q_7, .inl (E.2.1 0, 10, .inl (fun _ => 0))), (q_8, .inl (E.2.1 0, 10, .inl (fun _ => 0))), (q_9, .inl (E.2.1 0, 10, .inl (fun _ => 0))), (q_10, .inl (E.2.1 0, 10, .inl (fun _ => 0)))] : va_W)) C hG kX2 hmi 0 9 rfl (by decide) q235 rfl rfl rfl rfl rfl (by show 9 < 12; decide) dX2_init_81 rfl (fun H locs hG => ?_)
  refine lv_aload_n hx hb dX2_init_84 rfl (lv_at hl 0 rfl) ?_
  refine lv_bipush (v := 10) hx hb dX2_init_85 (by decide) ?_
  refine g_newi (x := 10) (N' := 10) C hG q265 (by decide) (nI_clamp (n := 10) (by decide)) (by decide) (by decide) (by decide) dX2_init_87 (fun q_11 H hG => ?_)
  have hG : gG E A s.heap ([(a, .inr (2, [.ref q_1, .ref q_2, .ref q_3, .ref q_4, .ref q_5, .ref q_6, .ref q_7, .ref q_8, .ref q_9, .ref q_10, .null, .null])), (q_1, .inl (E.2.1 0, 10, .inl (fun _ => 0))), (q_2, .inl (E.2.1 0, 10, .inl (fun _ => 0))), (q_3, .inl (E.2.1 0, 10, .inl (fun _ => 0))), (q_4, .inl (E.2.1 0, 10, .inl (fun _ => 0))), (q_5, .inl (E.2.1 0, 10, .inl (fun _ => 0))), (q_6, .inl (E.2.1 0, 10, .inl (fun _ => 0))), (q_7, .inl (E.2.1 0, 10, .inl (fun _ => 0))), (q_8, .inl (E.2.1 0, 10, .inl (fun _ => 0))), (q_9, .inl (E.2.1 0, 10, .inl (fun _ => 0))), (q_10, .inl (E.2.1 0, 10, .inl (fun _ => 0))), (q_11, .inl (E.2.1 0, 10, .inl (fun _ => 0)))] : va_W) H _ := hG
  refine W.cs (cells' := 11) (slots' := 110) rfl rfl ?_
  refine gS_F (v := .ref q_11) (ws' := ([(a, .inr (2, [.ref q_1, .ref q_2, .ref q_3, .ref q_4, .ref q_5, .ref q_6, .ref q_7, .ref q_8, .ref q_9, .ref q_10, .ref q_11, .null])), (q_1, .inl (E.2.1 0, 10, .inl (fun _ => 0))), (q_2, .inl (E.2.1 0, 10, .inl (fun _ => 0))), (q_3, .inl (E.2.1 0, 10, .inl (fun _ => 0))), (q_4, .inl (E.2.1 0, 10, .inl (fun _ => 0))), (q_5, .inl (E.2.1 0, 10, .inl (fun _ => 0))), (q_6, .inl (E.2.1 0, 10, .inl (fun _ => 0))), (q_7, .inl (E.2.1 0, 10, .inl (fun _ => 0))), (q_8, .inl (E.2.1 0, 10, .inl (fun _ => 0))), (q_9, .inl (E.2.1 0, 10, .inl (fun _ => 0))), (q_10, .inl (E.2.1 0, 10, .inl (fun _ => 0))), (q_11, .inl (E.2.1 0, 10, .inl (fun _ => 0)))] : va_W)) C hG kX2 hmi 0 10 rfl (by decide) q238 rfl rfl rfl rfl rfl (by show 10 < 12; decide) dX2_init_89 rfl (fun H locs hG => ?_)
  refine lv_aload_n hx hb dX2_init_92 rfl (lv_at hl 0 rfl) ?_
  refine lv_bipush (v := 10) hx hb dX2_init_93 (by decide) ?_
  refine g_newi (x := 10) (N' := 10) C hG q265 (by decide) (nI_clamp (n := 10) (by decide)) (by decide) (by decide) (by decide) dX2_init_95 (fun q_12 H hG => ?_)
  have hG : gG E A s.heap ([(a, .inr (2, [.ref q_1, .ref q_2, .ref q_3, .ref q_4, .ref q_5, .ref q_6, .ref q_7, .ref q_8, .ref q_9, .ref q_10, .ref q_11, .null])), (q_1, .inl (E.2.1 0, 10, .inl (fun _ => 0))), (q_2, .inl (E.2.1 0, 10, .inl (fun _ => 0))), (q_3, .inl (E.2.1 0, 10, .inl (fun _ => 0))), (q_4, .inl (E.2.1 0, 10, .inl (fun _ => 0))), (q_5, .inl (E.2.1 0, 10, .inl (fun _ => 0))), (q_6, .inl (E.2.1 0, 10, .inl (fun _ => 0))), (q_7, .inl (E.2.1 0, 10, .inl (fun _ => 0))), (q_8, .inl (E.2.1 0, 10, .inl (fun _ => 0))), (q_9, .inl (E.2.1 0, 10, .inl (fun _ => 0))), (q_10, .inl (E.2.1 0, 10, .inl (fun _ => 0))), (q_11, .inl (E.2.1 0, 10, .inl (fun _ => 0))), (q_12, .inl (E.2.1 0, 10, .inl (fun _ => 0)))] : va_W) H _ := hG
  refine W.cs (cells' := 12) (slots' := 120) rfl rfl ?_
  refine gS_F (v := .ref q_12) (ws' := ([(a, .inr (2, [.ref q_1, .ref q_2, .ref q_3, .ref q_4, .ref q_5, .ref q_6, .ref q_7, .ref q_8, .ref q_9, .ref q_10, .ref q_11, .ref q_12])), (q_1, .inl (E.2.1 0, 10, .inl (fun _ => 0))), (q_2, .inl (E.2.1 0, 10, .inl (fun _ => 0))), (q_3, .inl (E.2.1 0, 10, .inl (fun _ => 0))), (q_4, .inl (E.2.1 0, 10, .inl (fun _ => 0))), (q_5, .inl (E.2.1 0, 10, .inl (fun _ => 0))), (q_6, .inl (E.2.1 0, 10, .inl (fun _ => 0))), (q_7, .inl (E.2.1 0, 10, .inl (fun _ => 0))), (q_8, .inl (E.2.1 0, 10, .inl (fun _ => 0))), (q_9, .inl (E.2.1 0, 10, .inl (fun _ => 0))), (q_10, .inl (E.2.1 0, 10, .inl (fun _ => 0))), (q_11, .inl (E.2.1 0, 10, .inl (fun _ => 0))), (q_12, .inl (E.2.1 0, 10, .inl (fun _ => 0)))] : va_W)) C hG kX2 hmi 0 11 rfl (by decide) q239 rfl rfl rfl rfl rfl (by show 11 < 12; decide) dX2_init_97 rfl (fun H locs hG => ?_)
  obtain ⟨ad, had⟩ : ∃ ad : Nat → Nat, ad = fun k => [a, q_1, q_2, q_3, q_4, q_5, q_6, q_7, q_8, q_9, q_10, q_11, q_12].getD k 0 := ⟨_, rfl⟩
  have hG : gG E A s.heap (rB2 E ad zX2_init ++ []) H locs := by rw [had]; exact hG
  have ha0 : ad 0 = a := by rw [had]; rfl
  exact hret _ _ _ _ ad ha0 (gG_nil hG) dX2_init_100
def zX5_init : RS := zRS
set_option maxHeartbeats 4000000 in
set_option maxRecDepth 100000 in
theorem c_X5_init (l : Launch) (E : GE) : gMn l E yX5_init cX5_init 1 1 4 40 5 [.int 0, .null, .null, .null, .null] (fun ad => rB5 E ad zX5_init) := by
  refine gMn_of (own := RX5) (by decide +kernel) rfl (by decide) rfl ?_
  intro a p e s m args below meth c A ls Q H locs C hz hl hG hmi hret
  have hx := C.1.1
  have hb := C.1.2.1
  have hts := C.1.2.2.2.2
  have hown := C.1.2.2.2.1
  have hG : gG E A s.heap ([(a, .inr (5, [.int 0, .null, .null, .null, .null]))] : va_W) H locs := hG
  refine lv_aload_n hx hb dX5_init_0 rfl (lv_at hl 0 rfl) ?_
  refine W.objInit hx hb hown (hts _ q312) (hts _ q196) (hts _ q197) rfl (hl.1.trans C.1.2.2.1.symm) rfl dX5_init_1 (Nat.le_of_ble_eq_true rfl) (Nat.le_of_ble_eq_true rfl) ?_
  refine W.eq (g2 := F0 m 4 ls []) rfl ?_
  refine lv_aload_n hx hb dX5_init_4 rfl (lv_at hl 0 rfl) ?_
  refine lv_iconst (v := 0) hx hb dX5_init_5 (by decide) ?_
  refine gS_f (v := .int 0) (ws' := ([(a, .inr (5, [.int 0, .null, .null, .null, .null]))] : va_W)) C hG kX5 0 0 rfl (by decide) q313 rfl rfl rfl rfl (by show 0 < 5; decide) dX5_init_6 rfl (fun H locs hG => ?_)
  refine lv_aload_n hx hb dX5_init_9 rfl (lv_at hl 0 rfl) ?_
  refine lv_bipush (v := 10) hx hb dX5_init_10 (by decide) ?_
  refine g_newi (x := 10) (N' := 10) C hG q265 (by decide) (nI_clamp (n := 10) (by decide)) (by decide) (by decide) (by decide) dX5_init_12 (fun q_1 H hG => ?_)
  have hG : gG E A s.heap ([(a, .inr (5, [.int 0, .null, .null, .null, .null])), (q_1, .inl (E.2.1 0, 10, .inl (fun _ => 0)))] : va_W) H _ := hG
  refine W.cs (cells' := 1) (slots' := 10) rfl rfl ?_
  refine gS_F (v := .ref q_1) (ws' := ([(a, .inr (5, [.int 0, .ref q_1, .null, .null, .null])), (q_1, .inl (E.2.1 0, 10, .inl (fun _ => 0)))] : va_W)) C hG kX5 hmi 0 1 rfl (by decide) q317 rfl rfl rfl rfl rfl (by show 1 < 5; decide) dX5_init_14 rfl (fun H locs hG => ?_)
  refine lv_aload_n hx hb dX5_init_17 rfl (lv_at hl 0 rfl) ?_
  refine lv_bipush (v := 10) hx hb dX5_init_18 (by decide) ?_
  refine g_newi (x := 10) (N' := 10) C hG q265 (by decide) (nI_clamp (n := 10) (by decide)) (by decide) (by decide) (by decide) dX5_init_20 (fun q_2 H hG => ?_)
  have hG : gG E A s.heap ([(a, .inr (5, [.int 0, .ref q_1, .null, .null, .null])), (q_1, .inl (E.2.1 0, 10, .inl (fun _ => 0))), (q_2, .inl (E.2.1 0, 10, .inl (fun _ => 0)))] : va_W) H _ := hG
  refine W.cs (cells' := 2) (slots' := 20) rfl rfl ?_
  refine gS_F (v := .ref q_2) (ws' := ([(a, .inr (5, [.int 0, .ref q_1, .ref q_2, .null, .null])), (q_1, .inl (E.2.1 0, 10, .inl (fun _ => 0))), (q_2, .inl (E.2.1 0, 10, .inl (fun _ => 0)))] : va_W)) C hG kX5 hmi 0 2 rfl (by decide) q320 rfl rfl rfl rfl rfl (by show 2 < 5; decide) dX5_init_22 rfl (fun H locs hG => ?_)
  refine lv_aload_n hx hb dX5_init_25 rfl (lv_at hl 0 rfl) ?_
  refine lv_bipush (v := 10) hx hb dX5_init_26 (by decide) ?_
  refine g_newi (x := 10) (N' := 10) C hG q265 (by decide) (nI_clamp (n := 10) (by decide)) (by decide) (by decide) (by decide) dX5_init_28 (fun q_3 H hG => ?_)
  have hG : gG E A s.heap ([(a, .inr (5, [.int 0, .ref q_1, .ref q_2, .null, .null])), (q_1, .inl (E.2.1 0, 10, .inl (fun _ => 0))), (q_2, .inl (E.2.1 0, 10, .inl (fun _ => 0))), (q_3, .inl (E.2.1 0, 10, .inl (fun _ => 0)))] : va_W) H _ := hG
  refine W.cs (cells' := 3) (slots' := 30) rfl rfl ?_
  refine gS_F (v := .ref q_3) (ws' := ([(a, .inr (5, [.int 0, .ref q_1, .ref q_2, .ref q_3, .null])), (q_1, .inl (E.2.1 0, 10, .inl (fun _ => 0))), (q_2, .inl (E.2.1 0, 10, .inl (fun _ => 0))), (q_3, .inl (E.2.1 0, 10, .inl (fun _ => 0)))] : va_W)) C hG kX5 hmi 0 3 rfl (by decide) q323 rfl rfl rfl rfl rfl (by show 3 < 5; decide) dX5_init_30 rfl (fun H locs hG => ?_)
  refine lv_aload_n hx hb dX5_init_33 rfl (lv_at hl 0 rfl) ?_
  refine lv_bipush (v := 10) hx hb dX5_init_34 (by decide) ?_
  refine g_newi (x := 10) (N' := 10) C hG q265 (by decide) (nI_clamp (n := 10) (by decide)) (by decide) (by decide) (by decide) dX5_init_36 (fun q_4 H hG => ?_)
  have hG : gG E A s.heap ([(a, .inr (5, [.int 0, .ref q_1, .ref q_2, .ref q_3, .null])), (q_1, .inl (E.2.1 0, 10, .inl (fun _ => 0))), (q_2, .inl (E.2.1 0, 10, .inl (fun _ => 0))), (q_3, .inl (E.2.1 0, 10, .inl (fun _ => 0))), (q_4, .inl (E.2.1 0, 10, .inl (fun _ => 0)))] : va_W) H _ := hG
  refine W.cs (cells' := 4) (slots' := 40) rfl rfl ?_
  refine gS_F (v := .ref q_4) (ws' := ([(a, .inr (5, [.int 0, .ref q_1, .ref q_2, .ref q_3, .ref q_4])), (q_1, .inl (E.2.1 0, 10, .inl (fun _ => 0))), (q_2, .inl (E.2.1 0, 10, .inl (fun _ => 0))), (q_3, .inl (E.2.1 0, 10, .inl (fun _ => 0))), (q_4, .inl (E.2.1 0, 10, .inl (fun _ => 0)))] : va_W)) C hG kX5 hmi 0 4 rfl (by decide) q326 rfl rfl rfl rfl rfl (by show 4 < 5; decide) dX5_init_38 rfl (fun H locs hG => ?_)
  obtain ⟨ad, had⟩ : ∃ ad : Nat → Nat, ad = fun k => [a, q_1, q_2, q_3, q_4].getD k 0 := ⟨_, rfl⟩
  have hG : gG E A s.heap (rB5 E ad zX5_init ++ []) H locs := by rw [had]; exact hG
  have ha0 : ad 0 = a := by rw [had]; rfl
  exact hret _ _ _ _ ad ha0 (gG_nil hG) dX5_init_41
def zX1_init : RS := zRS
def fX1_init_L66 (N : Nat) : Nat → Int32 → RS → Option (RS)
  | 0, _, _ => none
  | k + 1, x1, dd => if 9 ≤ x1 then (some dd) else (ck (inb x1 9) <| thn (st dd 4 x1.toNatClampNeg (-1)) fun dd_2 => fX1_init_L66 N k (x1 + 1) dd_2)
def fX1_init_L38 (N : Nat) : Nat → Int32 → RS → Option (RS)
  | 0, _, _ => none
  | k + 1, x1, dd => if 23 ≤ x1 then (fX1_init_L66 N N 0 dd) else (ck (inb x1 23) <| thn (st dd 1 x1.toNatClampNeg x1) fun dd_2 => thn (st dd_2 3 x1.toNatClampNeg (-1)) fun dd_3 => fX1_init_L38 N k (x1 + 1) dd_3)
def fX1_init (N : Nat) (dd : RS) : Option (RS) := fX1_init_L38 N N 0 dd
set_option maxHeartbeats 4000000 in
set_option maxRecDepth 100000 in
theorem c_X1_init (l : Launch) (E : GE) (N : Nat) {res : RS} (h : fX1_init N zX1_init = some res) : gMn l E yX1_init cX1_init 2 1 4 64 1 [.null, .null, .null, .null] (fun ad => rB1 E ad res) := by
  refine gMn_of (own := RX1) (by decide +kernel) rfl (by decide) rfl ?_
  intro a p e s m args below meth c A ls Q H locs C hz hl hG hmi hret
  have hx := C.1.1
  have hb := C.1.2.1
  have hts := C.1.2.2.2.2
  have hown := C.1.2.2.2.1
  have hG : gG E A s.heap ([(a, .inr (1, [.null, .null, .null, .null]))] : va_W) H locs := hG
  refine lv_aload_n hx hb dX1_init_0 rfl (lv_at hl 0 rfl) ?_
  refine W.objInit hx hb hown (hts _ q271) (hts _ q196) (hts _ q197) rfl (hl.1.trans C.1.2.2.1.symm) rfl dX1_init_1 (Nat.le_of_ble_eq_true rfl) (Nat.le_of_ble_eq_true rfl) ?_
  refine W.eq (g2 := F0 m 4 ls []) rfl ?_
  refine lv_aload_n hx hb dX1_init_4 rfl (lv_at hl 0 rfl) ?_
  refine lv_bipush (v := 23) hx hb dX1_init_5 (by decide) ?_
  refine g_newi (x := 23) (N' := 23) C hG q265 (by decide) (nI_clamp (n := 23) (by decide)) (by decide) (by decide) (by decide) dX1_init_7 (fun q_1 H hG => ?_)
  have hG : gG E A s.heap ([(a, .inr (1, [.null, .null, .null, .null])), (q_1, .inl (E.2.1 0, 23, .inl (fun _ => 0)))] : va_W) H _ := hG
  refine W.cs (cells' := 1) (slots' := 23) rfl rfl ?_
  refine gS_F (v := .ref q_1) (ws' := ([(a, .inr (1, [.ref q_1, .null, .null, .null])), (q_1, .inl (E.2.1 0, 23, .inl (fun _ => 0)))] : va_W)) C hG kX1 hmi 0 0 rfl (by decide) q272 rfl rfl rfl rfl rfl (by show 0 < 4; decide) dX1_init_9 rfl (fun H locs hG => ?_)
  refine lv_aload_n hx hb dX1_init_12 rfl (lv_at hl 0 rfl) ?_
  refine lv_bipush (v := 9) hx hb dX1_init_13 (by decide) ?_
  refine g_newi (x := 9) (N' := 9) C hG q265 (by decide) (nI_clamp (n := 9) (by decide)) (by decide) (by decide) (by decide) dX1_init_15 (fun q_2 H hG => ?_)
  have hG : gG E A s.heap ([(a, .inr (1, [.ref q_1, .null, .null, .null])), (q_1, .inl (E.2.1 0, 23, .inl (fun _ => 0))), (q_2, .inl (E.2.1 0, 9, .inl (fun _ => 0)))] : va_W) H _ := hG
  refine W.cs (cells' := 2) (slots' := 32) rfl rfl ?_
  refine gS_F (v := .ref q_2) (ws' := ([(a, .inr (1, [.ref q_1, .ref q_2, .null, .null])), (q_1, .inl (E.2.1 0, 23, .inl (fun _ => 0))), (q_2, .inl (E.2.1 0, 9, .inl (fun _ => 0)))] : va_W)) C hG kX1 hmi 0 1 rfl (by decide) q275 rfl rfl rfl rfl rfl (by show 1 < 4; decide) dX1_init_17 rfl (fun H locs hG => ?_)
  refine lv_aload_n hx hb dX1_init_20 rfl (lv_at hl 0 rfl) ?_
  refine lv_bipush (v := 23) hx hb dX1_init_21 (by decide) ?_
  refine g_newi (x := 23) (N' := 23) C hG q265 (by decide) (nI_clamp (n := 23) (by decide)) (by decide) (by decide) (by decide) dX1_init_23 (fun q_3 H hG => ?_)
  have hG : gG E A s.heap ([(a, .inr (1, [.ref q_1, .ref q_2, .null, .null])), (q_1, .inl (E.2.1 0, 23, .inl (fun _ => 0))), (q_2, .inl (E.2.1 0, 9, .inl (fun _ => 0))), (q_3, .inl (E.2.1 0, 23, .inl (fun _ => 0)))] : va_W) H _ := hG
  refine W.cs (cells' := 3) (slots' := 55) rfl rfl ?_
  refine gS_F (v := .ref q_3) (ws' := ([(a, .inr (1, [.ref q_1, .ref q_2, .ref q_3, .null])), (q_1, .inl (E.2.1 0, 23, .inl (fun _ => 0))), (q_2, .inl (E.2.1 0, 9, .inl (fun _ => 0))), (q_3, .inl (E.2.1 0, 23, .inl (fun _ => 0)))] : va_W)) C hG kX1 hmi 0 2 rfl (by decide) q277 rfl rfl rfl rfl rfl (by show 2 < 4; decide) dX1_init_25 rfl (fun H locs hG => ?_)
  refine lv_aload_n hx hb dX1_init_28 rfl (lv_at hl 0 rfl) ?_
  refine lv_bipush (v := 9) hx hb dX1_init_29 (by decide) ?_
  refine g_newi (x := 9) (N' := 9) C hG q265 (by decide) (nI_clamp (n := 9) (by decide)) (by decide) (by decide) (by decide) dX1_init_31 (fun q_4 H hG => ?_)
  have hG : gG E A s.heap ([(a, .inr (1, [.ref q_1, .ref q_2, .ref q_3, .null])), (q_1, .inl (E.2.1 0, 23, .inl (fun _ => 0))), (q_2, .inl (E.2.1 0, 9, .inl (fun _ => 0))), (q_3, .inl (E.2.1 0, 23, .inl (fun _ => 0))), (q_4, .inl (E.2.1 0, 9, .inl (fun _ => 0)))] : va_W) H _ := hG
  refine W.cs (cells' := 4) (slots' := 64) rfl rfl ?_
  refine gS_F (v := .ref q_4) (ws' := ([(a, .inr (1, [.ref q_1, .ref q_2, .ref q_3, .ref q_4])), (q_1, .inl (E.2.1 0, 23, .inl (fun _ => 0))), (q_2, .inl (E.2.1 0, 9, .inl (fun _ => 0))), (q_3, .inl (E.2.1 0, 23, .inl (fun _ => 0))), (q_4, .inl (E.2.1 0, 9, .inl (fun _ => 0)))] : va_W)) C hG kX1 hmi 0 3 rfl (by decide) q279 rfl rfl rfl rfl rfl (by show 3 < 4; decide) dX1_init_33 rfl (fun H locs hG => ?_)
  obtain ⟨ad, had⟩ : ∃ ad : Nat → Nat, ad = fun k => [a, q_1, q_2, q_3, q_4].getD k 0 := ⟨_, rfl⟩
  have hG : gG E A s.heap (rB1 E ad zX1_init ++ []) H locs := by rw [had]; exact hG
  have ha0 : ad 0 = a := by rw [had]; rfl
  replace hret : ∀ (w0 : RS) (H : Heap) (locs : List Loc) (pc : Nat) (ls' : Array Slot), some w0 = some res → gG E A s.heap (rB1 E ad w0 ++ []) H locs → decode cX1_init pc = .ok (.return_, 1) → W p l e (rmD 1 4 64) s m args below meth c H locs 4 64 Q (F0 m pc ls' []) := by
    intro w0 H locs pc ls' e0 hG hd; cases e0; exact hret H locs pc ls' ad ha0 (gG_nil hG) hd
  obtain ⟨dd, edd⟩ : ∃ w : RS, w = zX1_init := ⟨_, rfl⟩
  rw [← edd] at h hG
  have hl : lv_has ls 2 [(0, .ref (ad 0))] := by rw [ha0]; exact hl
  have K66 : ∀ (k : Nat), ∀  (x1 : Int32) (dd : RS) (H : Heap) (locs : List Loc) (ls : Array Slot), gG E A s.heap (rB1 E ad dd ++ []) H locs → lv_has ls 2 [(0, .ref (ad 0)), (1, .int x1)] → fX1_init_L66 N k x1 dd = some res → W p l e (rmD 1 4 64) s m args below meth c H locs 4 64 Q (F0 m 66 ls []) := by
    intro k
    induction k with
    | zero => intro x1 dd H locs ls hG hl h; exact absurd (show none = _ from h) (by simp)
    | succ k ih =>
      intro x1 dd H locs ls hG hl h
      rw [fX1_init_L66] at h
      refine lv_iload_n hx hb dX1_init_66 rfl (lv_at hl 1 rfl) ?_
      refine lv_bipush (v := 9) hx hb dX1_init_67 (by decide) ?_
      refine lv_icmp_ge (tgt := 85) hx hb dX1_init_69 (by decide) (fun c69 => ?_) (fun c69 => ?_)
      · replace h := it c69 h
        exact hret _ _ _ _ _ h hG dX1_init_85
      · replace h := ie c69 h
        refine lv_aload_n hx hb dX1_init_72 rfl (lv_at hl 0 rfl) ?_
        refine gL_f (v := .ref (ad 4)) C hG kX1 0 3 rfl (by decide) rfl q279 rfl dX1_init_73 ?_
        refine lv_iload_n hx hb dX1_init_76 rfl (lv_at hl 1 rfl) ?_
        refine lv_iconst (v := (-1)) hx hb dX1_init_77 (by decide) ?_
        obtain ⟨b1, h⟩ := ck_some h
        obtain ⟨dd_2, edd_2, h⟩ := thn_some h
        refine gS_i (x := (-1)) (ws' := (rB1 E ad dd_2 ++ [])) C hG 4 rfl (inb_in b1) rfl dX1_init_78 (by rw [edd_2]; rfl) (fun H locs hG => ?_)
        refine lv_iinc (v := (x1 + 1)) (lv' := [(1, .int (x1 + 1)), (0, .ref (ad 0))]) hx hb dX1_init_79 hl (k := 1) rfl (congrArg (x1 + ·) (by decide : Int32.ofInt 1 = 1)) (by decide) rfl (fun ls hl => ?_)
        refine lv_goto (tgt := 66) hx hb dX1_init_82 (by decide) ?_
        exact ih (x1 + 1) dd_2 _ _ _ hG (lv_sub hl [1, 0] rfl) h
  have K38 : ∀ (k : Nat), ∀  (x1 : Int32) (dd : RS) (H : Heap) (locs : List Loc) (ls : Array Slot), gG E A s.heap (rB1 E ad dd ++ []) H locs → lv_has ls 2 [(0, .ref (ad 0)), (1, .int x1)] → fX1_init_L38 N k x1 dd = some res → W p l e (rmD 1 4 64) s m args below meth c H locs 4 64 Q (F0 m 38 ls []) := by
    intro k
    induction k with
    | zero => intro x1 dd H locs ls hG hl h; exact absurd (show none = _ from h) (by simp)
    | succ k ih =>
      intro x1 dd H locs ls hG hl h
      rw [fX1_init_L38] at h
      refine lv_iload_n hx hb dX1_init_38 rfl (lv_at hl 1 rfl) ?_
      refine lv_bipush (v := 23) hx hb dX1_init_39 (by decide) ?_
      refine lv_icmp_ge (tgt := 64) hx hb dX1_init_41 (by decide) (fun c41 => ?_) (fun c41 => ?_)
      · replace h := it c41 h
        refine lv_iconst (v := 0) hx hb dX1_init_64 (by decide) ?_
        refine lv_istore_n (lv' := [(1, .int 0), (0, .ref (ad 0))]) hx hb dX1_init_65 rfl hl (by decide) rfl (fun ls hl => ?_)
        exact K66 N 0 dd _ _ _ hG (lv_sub hl [1, 0] rfl) h
      · replace h := ie c41 h
        refine lv_aload_n hx hb dX1_init_44 rfl (lv_at hl 0 rfl) ?_
        refine gL_f (v := .ref (ad 1)) C hG kX1 0 0 rfl (by decide) rfl q272 rfl dX1_init_45 ?_
        refine lv_iload_n hx hb dX1_init_48 rfl (lv_at hl 1 rfl) ?_
        refine lv_iload_n hx hb dX1_init_49 rfl (lv_at hl 1 rfl) ?_
        obtain ⟨b1, h⟩ := ck_some h
        obtain ⟨dd_2, edd_2, h⟩ := thn_some h
        refine gS_i (x := x1) (ws' := (rB1 E ad dd_2 ++ [])) C hG 1 rfl (inb_in b1) rfl dX1_init_50 (by rw [edd_2]; rfl) (fun H locs hG => ?_)
        refine lv_aload_n hx hb dX1_init_51 rfl (lv_at hl 0 rfl) ?_
        refine gL_f (v := .ref (ad 3)) C hG kX1 0 2 rfl (by decide) rfl q277 rfl dX1_init_52 ?_
        refine lv_iload_n hx hb dX1_init_55 rfl (lv_at hl 1 rfl) ?_
        refine lv_iconst (v := (-1)) hx hb dX1_init_56 (by decide) ?_
        obtain ⟨dd_3, edd_3, h⟩ := thn_some h
        refine gS_i (x := (-1)) (ws' := (rB1 E ad dd_3 ++ [])) C hG 3 rfl (inb_in b1) rfl dX1_init_57 (by rw [edd_3]; rfl) (fun H locs hG => ?_)
        refine lv_iinc (v := (x1 + 1)) (lv' := [(1, .int (x1 + 1)), (0, .ref (ad 0))]) hx hb dX1_init_58 hl (k := 1) rfl (congrArg (x1 + ·) (by decide : Int32.ofInt 1 = 1)) (by decide) rfl (fun ls hl => ?_)
        refine lv_goto (tgt := 38) hx hb dX1_init_61 (by decide) ?_
        exact ih (x1 + 1) dd_3 _ _ _ hG (lv_sub hl [1, 0] rfl) h
  rw [fX1_init] at h
  refine lv_iconst (v := 0) hx hb dX1_init_36 (by decide) ?_
  refine lv_istore_n (lv' := [(1, .int 0), (0, .ref (ad 0))]) hx hb dX1_init_37 rfl hl (by decide) rfl (fun ls hl => ?_)
  exact K38 N 0 dd _ _ _ hG (lv_sub hl [1, 0] rfl) h
def zX10_init (rd : RS) : RS := (rplug (rplug (rplug (rplug (rplug zRS 2 13 zX2_init) 15 5 rd) 20 3 zX3_init) 23 5 zX5_init) 28 2 zX0_init)
def fX10_init (N : Nat) (ww : RS) : Option (RS) := thn (st ww 1 1 409) fun ww_1 => thn (st ww_1 1 4 3) fun ww_2 => thn (st ww_2 1 5 6) fun ww_3 => thn (st ww_3 1 6 4) fun ww_4 => some ww_4
set_option maxHeartbeats 4000000 in
set_option maxRecDepth 100000 in
theorem c_X10_init (l : Launch) (E : GE) (N : Nat) {rd : RS} (hd : fX1_init N zX1_init = some rd) {res : RS} (h : fX10_init N (zX10_init rd) = some res) : gMn l E yX10_init cX10_init 1 2 29 369 10 [.null, .null, .null, .null, .null, .null] (fun ad => rW E ad res) := by
  refine gMn_of (own := RX10) (by decide +kernel) rfl (by decide) rfl ?_
  intro a p e s m args below meth c A ls Q H locs C hz hl hG hmi hret
  have hx := C.1.1
  have hb := C.1.2.1
  have hts := C.1.2.2.2.2
  have hown := C.1.2.2.2.1
  have hG : gG E A s.heap ([(a, .inr (10, [.null, .null, .null, .null, .null, .null]))] : va_W) H locs := hG
  refine lv_aload_n hx hb dX10_init_0 rfl (lv_at hl 0 rfl) ?_
  refine W.objInit hx hb hown (hts _ q203) (hts _ q196) (hts _ q197) rfl (hl.1.trans C.1.2.2.1.symm) rfl dX10_init_1 (Nat.le_of_ble_eq_true rfl) (Nat.le_of_ble_eq_true rfl) ?_
  refine W.eq (g2 := F0 m 4 ls []) rfl ?_
  refine lv_aload_n hx hb dX10_init_4 rfl (lv_at hl 0 rfl) ?_
  refine lv_bipush (v := 13) hx hb dX10_init_5 (by decide) ?_
  refine g_newi (x := 13) (N' := 13) C hG q265 (by decide) (nI_clamp (n := 13) (by decide)) (by decide) (by decide) (by decide) dX10_init_7 (fun q_1 H hG => ?_)
  have hG : gG E A s.heap ([(a, .inr (10, [.null, .null, .null, .null, .null, .null])), (q_1, .inl (E.2.1 0, 13, .inl (fun _ => 0)))] : va_W) H _ := hG
  refine W.cs (cells' := 1) (slots' := 13) rfl rfl ?_
  refine gS_F (v := .ref q_1) (ws' := ([(a, .inr (10, [.ref q_1, .null, .null, .null, .null, .null])), (q_1, .inl (E.2.1 0, 13, .inl (fun _ => 0)))] : va_W)) C hG kX10 hmi 0 0 rfl (by decide) q352 rfl rfl rfl rfl rfl (by show 0 < 6; decide) dX10_init_9 rfl (fun H locs hG => ?_)
  refine lv_aload_n hx hb dX10_init_12 rfl (lv_at hl 0 rfl) ?_
  refine g_new (fs := [.null, .null, .null, .null, .null, .null, .null, .null, .null, .null, .null, .null]) C hG kX2 q204 q205 q170 (by intro j hj; match j, hj with | 0, _ => rfl | 1, _ => rfl | 2, _ => rfl | 3, _ => rfl | 4, _ => rfl | 5, _ => rfl | 6, _ => rfl | 7, _ => rfl | 8, _ => rfl | 9, _ => rfl | 10, _ => rfl | 11, _ => rfl) (by decide) (by decide) dX10_init_13 (fun q_2 H hG => ?_)
  refine W.cs (cells' := 2) (slots' := 25) rfl rfl ?_
  refine lv_dup hx hb dX10_init_16 rfl ?_
  refine gR_I (wr := ([(a, .inr (10, [.ref q_1, .null, .null, .null, .null, .null])), (q_1, .inl (E.2.1 0, 13, .inl (fun _ => 0)))] : va_W)) (mk := fun ad => (rB2 E ad zX2_init)) (rest := [.ref q_2, .ref a]) C hz hl.1 hG (c_X2_init l E) rfl q207 q208 q170 ⟨by decide +kernel, by decide +kernel, by decide +kernel⟩ (by decide) q206 (Nat.le_of_ble_eq_true rfl) (by omega) (by decide) dX10_init_17 (fun H locs u_2 hu_2 hGn => ?_)
  subst hu_2
  replace hG := hGn; clear hGn
  refine W.cs (cells' := 14) (slots' := 145) rfl rfl ?_
  refine gS_F (v := .ref (u_2 0)) (ws' := (([(a, .inr (10, [.ref q_1, .ref (u_2 0), .null, .null, .null, .null])), (q_1, .inl (E.2.1 0, 13, .inl (fun _ => 0)))] : va_W) ++ (rB2 E u_2 zX2_init))) C hG kX10 hmi 0 1 rfl (by decide) q355 rfl rfl rfl rfl rfl (by show 1 < 6; decide) dX10_init_20 rfl (fun H locs hG => ?_)
  refine lv_aload_n hx hb dX10_init_23 rfl (lv_at hl 0 rfl) ?_
  refine g_new (fs := [.null, .null, .null, .null]) C hG kX1 q266 q267 q171 (by intro j hj; match j, hj with | 0, _ => rfl | 1, _ => rfl | 2, _ => rfl | 3, _ => rfl) (by decide) (by decide) dX10_init_24 (fun q_3 H hG => ?_)
  refine W.cs (cells' := 15) (slots' := 149) rfl rfl ?_
  refine lv_dup hx hb dX10_init_27 rfl ?_
  refine gR_I (wr := (([(a, .inr (10, [.ref q_1, .ref (u_2 0), .null, .null, .null, .null])), (q_1, .inl (E.2.1 0, 13, .inl (fun _ => 0)))] : va_W) ++ (rB2 E u_2 zX2_init))) (mk := fun ad => (rB1 E ad rd)) (rest := [.ref q_3, .ref a]) C hz hl.1 hG (c_X1_init l E N hd) rfl q269 q270 q171 ⟨by decide +kernel, by decide +kernel, by decide +kernel⟩ (by decide) q268 (Nat.le_of_ble_eq_true rfl) (by omega) (by decide) dX10_init_28 (fun H locs u_3 hu_3 hGn => ?_)
  subst hu_3
  replace hG := hGn; clear hGn
  refine W.cs (cells' := 19) (slots' := 213) rfl rfl ?_
  refine gS_F (v := .ref (u_3 0)) (ws' := ((([(a, .inr (10, [.ref q_1, .ref (u_2 0), .ref (u_3 0), .null, .null, .null])), (q_1, .inl (E.2.1 0, 13, .inl (fun _ => 0)))] : va_W) ++ (rB2 E u_2 zX2_init)) ++ (rB1 E u_3 rd))) C hG kX10 hmi 0 2 rfl (by decide) q358 rfl rfl rfl rfl rfl (by show 2 < 6; decide) dX10_init_31 rfl (fun H locs hG => ?_)
  refine lv_aload_n hx hb dX10_init_34 rfl (lv_at hl 0 rfl) ?_
  refine g_new (fs := [.int 0, .null, .null]) C hG kX3 q290 q291 q172 (by intro j hj; match j, hj with | 0, _ => rfl | 1, _ => rfl | 2, _ => rfl) (by decide) (by decide) dX10_init_35 (fun q_4 H hG => ?_)
  refine W.cs (cells' := 20) (slots' := 216) rfl rfl ?_
  refine lv_dup hx hb dX10_init_38 rfl ?_
  refine gR_I (wr := ((([(a, .inr (10, [.ref q_1, .ref (u_2 0), .ref (u_3 0), .null, .null, .null])), (q_1, .inl (E.2.1 0, 13, .inl (fun _ => 0)))] : va_W) ++ (rB2 E u_2 zX2_init)) ++ (rB1 E u_3 rd))) (mk := fun ad => (rB3 E ad zX3_init)) (rest := [.ref q_4, .ref a]) C hz hl.1 hG (c_X3_init l E) rfl q293 q294 q172 ⟨by decide +kernel, by decide +kernel, by decide +kernel⟩ (by decide) q292 (Nat.le_of_ble_eq_true rfl) (by omega) (by decide) dX10_init_39 (fun H locs u_4 hu_4 hGn => ?_)
  subst hu_4
  replace hG := hGn; clear hGn
  refine W.cs (cells' := 22) (slots' := 222) rfl rfl ?_
  refine gS_F (v := .ref (u_4 0)) (ws' := (((([(a, .inr (10, [.ref q_1, .ref (u_2 0), .ref (u_3 0), .ref (u_4 0), .null, .null])), (q_1, .inl (E.2.1 0, 13, .inl (fun _ => 0)))] : va_W) ++ (rB2 E u_2 zX2_init)) ++ (rB1 E u_3 rd)) ++ (rB3 E u_4 zX3_init))) C hG kX10 hmi 0 3 rfl (by decide) q360 rfl rfl rfl rfl rfl (by show 3 < 6; decide) dX10_init_42 rfl (fun H locs hG => ?_)
  refine lv_aload_n hx hb dX10_init_45 rfl (lv_at hl 0 rfl) ?_
  refine g_new (fs := [.int 0, .null, .null, .null, .null]) C hG kX5 q307 q308 q173 (by intro j hj; match j, hj with | 0, _ => rfl | 1, _ => rfl | 2, _ => rfl | 3, _ => rfl | 4, _ => rfl) (by decide) (by decide) dX10_init_46 (fun q_5 H hG => ?_)
  refine W.cs (cells' := 23) (slots' := 227) rfl rfl ?_
  refine lv_dup hx hb dX10_init_49 rfl ?_
  refine gR_I (wr := (((([(a, .inr (10, [.ref q_1, .ref (u_2 0), .ref (u_3 0), .ref (u_4 0), .null, .null])), (q_1, .inl (E.2.1 0, 13, .inl (fun _ => 0)))] : va_W) ++ (rB2 E u_2 zX2_init)) ++ (rB1 E u_3 rd)) ++ (rB3 E u_4 zX3_init))) (mk := fun ad => (rB5 E ad zX5_init)) (rest := [.ref q_5, .ref a]) C hz hl.1 hG (c_X5_init l E) rfl q310 q311 q173 ⟨by decide +kernel, by decide +kernel, by decide +kernel⟩ (by decide) q309 (Nat.le_of_ble_eq_true rfl) (by omega) (by decide) dX10_init_50 (fun H locs u_5 hu_5 hGn => ?_)
  subst hu_5
  replace hG := hGn; clear hGn
  refine W.cs (cells' := 27) (slots' := 267) rfl rfl ?_
  refine gS_F (v := .ref (u_5 0)) (ws' := ((((([(a, .inr (10, [.ref q_1, .ref (u_2 0), .ref (u_3 0), .ref (u_4 0), .ref (u_5 0), .null])), (q_1, .inl (E.2.1 0, 13, .inl (fun _ => 0)))] : va_W) ++ (rB2 E u_2 zX2_init)) ++ (rB1 E u_3 rd)) ++ (rB3 E u_4 zX3_init)) ++ (rB5 E u_5 zX5_init))) C hG kX10 hmi 0 4 rfl (by decide) q362 rfl rfl rfl rfl rfl (by show 4 < 6; decide) dX10_init_53 rfl (fun H locs hG => ?_)
  refine lv_aload_n hx hb dX10_init_56 rfl (lv_at hl 0 rfl) ?_
  refine g_new (fs := [.int 0, .null]) C hG kX0 q339 q340 q174 (by intro j hj; match j, hj with | 0, _ => rfl | 1, _ => rfl) (by decide) (by decide) dX10_init_57 (fun q_6 H hG => ?_)
  refine W.cs (cells' := 28) (slots' := 269) rfl rfl ?_
  refine lv_dup hx hb dX10_init_60 rfl ?_
  refine gR_I (wr := ((((([(a, .inr (10, [.ref q_1, .ref (u_2 0), .ref (u_3 0), .ref (u_4 0), .ref (u_5 0), .null])), (q_1, .inl (E.2.1 0, 13, .inl (fun _ => 0)))] : va_W) ++ (rB2 E u_2 zX2_init)) ++ (rB1 E u_3 rd)) ++ (rB3 E u_4 zX3_init)) ++ (rB5 E u_5 zX5_init))) (mk := fun ad => (rB0 E ad zX0_init)) (rest := [.ref q_6, .ref a]) C hz hl.1 hG (c_X0_init l E) rfl q342 q343 q174 ⟨by decide +kernel, by decide +kernel, by decide +kernel⟩ (by decide) q341 (Nat.le_of_ble_eq_true rfl) (by omega) (by decide) dX10_init_61 (fun H locs u_6 hu_6 hGn => ?_)
  subst hu_6
  replace hG := hGn; clear hGn
  refine W.cs (cells' := 29) (slots' := 369) rfl rfl ?_
  refine gS_F (v := .ref (u_6 0)) (ws' := (((((([(a, .inr (10, [.ref q_1, .ref (u_2 0), .ref (u_3 0), .ref (u_4 0), .ref (u_5 0), .ref (u_6 0)])), (q_1, .inl (E.2.1 0, 13, .inl (fun _ => 0)))] : va_W) ++ (rB2 E u_2 zX2_init)) ++ (rB1 E u_3 rd)) ++ (rB3 E u_4 zX3_init)) ++ (rB5 E u_5 zX5_init)) ++ (rB0 E u_6 zX0_init))) C hG kX10 hmi 0 5 rfl (by decide) q365 rfl rfl rfl rfl rfl (by show 5 < 6; decide) dX10_init_64 rfl (fun H locs hG => ?_)
  obtain ⟨ad, had⟩ : ∃ ad : Nat → Nat, ad = fun k => [a, q_1, (u_2 0), (u_2 1), (u_2 2), (u_2 3), (u_2 4), (u_2 5), (u_2 6), (u_2 7), (u_2 8), (u_2 9), (u_2 10), (u_2 11), (u_2 12), (u_3 0), (u_3 1), (u_3 2), (u_3 3), (u_3 4), (u_4 0), (u_4 1), (u_4 2), (u_5 0), (u_5 1), (u_5 2), (u_5 3), (u_5 4), (u_6 0), (u_6 1)].getD k 0 := ⟨_, rfl⟩
  have hG : gG E A s.heap (rW E ad (zX10_init rd) ++ []) H locs := by rw [had]; exact hG
  have ha0 : ad 0 = a := by rw [had]; rfl
  replace hret : ∀ (w0 : RS) (H : Heap) (locs : List Loc) (pc : Nat) (ls' : Array Slot), some w0 = some res → gG E A s.heap (rW E ad w0 ++ []) H locs → decode cX10_init pc = .ok (.return_, 1) → W p l e (rmD 2 29 369) s m args below meth c H locs 29 369 Q (F0 m pc ls' []) := by
    intro w0 H locs pc ls' e0 hG hd; cases e0; exact hret H locs pc ls' ad ha0 (gG_nil hG) hd
  obtain ⟨ww, eww⟩ : ∃ w : RS, w = (zX10_init rd) := ⟨_, rfl⟩
  rw [← eww] at h hG
  have hl : lv_has ls 1 [(0, .ref (ad 0))] := by rw [ha0]; exact hl
  rw [fX10_init] at h
  refine lv_aload_n hx hb dX10_init_67 rfl (lv_at hl 0 rfl) ?_
  refine gL_f (v := .ref (ad 1)) C hG kX10 0 0 rfl (by decide) rfl q352 rfl dX10_init_68 ?_
  refine lv_iconst (v := 1) hx hb dX10_init_71 (by decide) ?_
  refine lv_sipush (v := 409) hx hb dX10_init_72 (by decide) ?_
  obtain ⟨ww_1, eww_1, h⟩ := thn_some h
  refine gS_i (x := 409) (ws' := (rW E ad ww_1 ++ [])) C hG 1 rfl (vp_in_nI (n := 1) (by decide) (by decide)) (nI_clamp (n := 1) (by decide)) dX10_init_75 (by rw [eww_1]; rfl) (fun H locs hG => ?_)
  refine lv_aload_n hx hb dX10_init_76 rfl (lv_at hl 0 rfl) ?_
  refine gL_f (v := .ref (ad 1)) C hG kX10 0 0 rfl (by decide) rfl q352 rfl dX10_init_77 ?_
  refine lv_iconst (v := 4) hx hb dX10_init_80 (by decide) ?_
  refine lv_iconst (v := 3) hx hb dX10_init_81 (by decide) ?_
  obtain ⟨ww_2, eww_2, h⟩ := thn_some h
  refine gS_i (x := 3) (ws' := (rW E ad ww_2 ++ [])) C hG 1 rfl (vp_in_nI (n := 4) (by decide) (by decide)) (nI_clamp (n := 4) (by decide)) dX10_init_82 (by rw [eww_2]; rfl) (fun H locs hG => ?_)
  refine lv_aload_n hx hb dX10_init_83 rfl (lv_at hl 0 rfl) ?_
  refine gL_f (v := .ref (ad 1)) C hG kX10 0 0 rfl (by decide) rfl q352 rfl dX10_init_84 ?_
  refine lv_iconst (v := 5) hx hb dX10_init_87 (by decide) ?_
  refine lv_bipush (v := 6) hx hb dX10_init_88 (by decide) ?_
  obtain ⟨ww_3, eww_3, h⟩ := thn_some h
  refine gS_i (x := 6) (ws' := (rW E ad ww_3 ++ [])) C hG 1 rfl (vp_in_nI (n := 5) (by decide) (by decide)) (nI_clamp (n := 5) (by decide)) dX10_init_90 (by rw [eww_3]; rfl) (fun H locs hG => ?_)
  refine lv_aload_n hx hb dX10_init_91 rfl (lv_at hl 0 rfl) ?_
  refine gL_f (v := .ref (ad 1)) C hG kX10 0 0 rfl (by decide) rfl q352 rfl dX10_init_92 ?_
  refine lv_bipush (v := 6) hx hb dX10_init_95 (by decide) ?_
  refine lv_iconst (v := 4) hx hb dX10_init_97 (by decide) ?_
  obtain ⟨ww_4, eww_4, h⟩ := thn_some h
  refine gS_i (x := 4) (ws' := (rW E ad ww_4 ++ [])) C hG 1 rfl (vp_in_nI (n := 6) (by decide) (by decide)) (nI_clamp (n := 6) (by decide)) dX10_init_98 (by rw [eww_4]; rfl) (fun H locs hG => ?_)
  exact hret _ _ _ _ _ h hG dX10_init_99
def zX6_init : RS := zRS
set_option maxHeartbeats 4000000 in
set_option maxRecDepth 100000 in
theorem c_X6_init (l : Launch) (E : GE) : gMn l E yX6_init cX6_init 1 1 8 80 6 [.null, .null, .null, .null, .null, .null, .null, .int 0, .int 0, .int 0, .int 0, .null, .int 0] (fun ad => rP E ad zX6_init) := by
  refine gMn_of (own := RX6) (by decide +kernel) rfl (by decide) rfl ?_
  intro a p e s m args below meth c A ls Q H locs C hz hl hG hmi hret
  have hx := C.1.1
  have hb := C.1.2.1
  have hts := C.1.2.2.2.2
  have hown := C.1.2.2.2.1
  have hG : gG E A s.heap ([(a, .inr (6, [.null, .null, .null, .null, .null, .null, .null, .int 0, .int 0, .int 0, .int 0, .null, .int 0]))] : va_W) H locs := hG
  refine lv_aload_n hx hb dX6_init_0 rfl (lv_at hl 0 rfl) ?_
  refine W.objInit hx hb hown (hts _ q405) (hts _ q196) (hts _ q197) rfl (hl.1.trans C.1.2.2.1.symm) rfl dX6_init_1 (Nat.le_of_ble_eq_true rfl) (Nat.le_of_ble_eq_true rfl) ?_
  refine W.eq (g2 := F0 m 4 ls []) rfl ?_
  refine lv_aload_n hx hb dX6_init_4 rfl (lv_at hl 0 rfl) ?_
  refine lv_bipush (v := 10) hx hb dX6_init_5 (by decide) ?_
  refine g_newz (x := 10) (N' := 10) C hG q453 (by decide) (nI_clamp (n := 10) (by decide)) (by decide) (by decide) (by decide) dX6_init_7 (fun q_1 H hG => ?_)
  have hG : gG E A s.heap ([(a, .inr (6, [.null, .null, .null, .null, .null, .null, .null, .int 0, .int 0, .int 0, .int 0, .null, .int 0])), (q_1, .inl (E.2.1 1, 10, .inl (fun _ => 0)))] : va_W) H _ := hG
  refine W.cs (cells' := 1) (slots' := 10) rfl rfl ?_
  refine gS_F (v := .ref q_1) (ws' := ([(a, .inr (6, [.ref q_1, .null, .null, .null, .null, .null, .null, .int 0, .int 0, .int 0, .int 0, .null, .int 0])), (q_1, .inl (E.2.1 1, 10, .inl (fun _ => 0)))] : va_W)) C hG kX6 hmi 0 0 rfl (by decide) q406 rfl rfl rfl rfl rfl (by show 0 < 13; decide) dX6_init_9 rfl (fun H locs hG => ?_)
  refine lv_aload_n hx hb dX6_init_12 rfl (lv_at hl 0 rfl) ?_
  refine lv_bipush (v := 10) hx hb dX6_init_13 (by decide) ?_
  refine g_newz (x := 10) (N' := 10) C hG q453 (by decide) (nI_clamp (n := 10) (by decide)) (by decide) (by decide) (by decide) dX6_init_15 (fun q_2 H hG => ?_)
  have hG : gG E A s.heap ([(a, .inr (6, [.ref q_1, .null, .null, .null, .null, .null, .null, .int 0, .int 0, .int 0, .int 0, .null, .int 0])), (q_1, .inl (E.2.1 1, 10, .inl (fun _ => 0))), (q_2, .inl (E.2.1 1, 10, .inl (fun _ => 0)))] : va_W) H _ := hG
  refine W.cs (cells' := 2) (slots' := 20) rfl rfl ?_
  refine gS_F (v := .ref q_2) (ws' := ([(a, .inr (6, [.ref q_1, .ref q_2, .null, .null, .null, .null, .null, .int 0, .int 0, .int 0, .int 0, .null, .int 0])), (q_1, .inl (E.2.1 1, 10, .inl (fun _ => 0))), (q_2, .inl (E.2.1 1, 10, .inl (fun _ => 0)))] : va_W)) C hG kX6 hmi 0 1 rfl (by decide) q407 rfl rfl rfl rfl rfl (by show 1 < 13; decide) dX6_init_17 rfl (fun H locs hG => ?_)
  refine lv_aload_n hx hb dX6_init_20 rfl (lv_at hl 0 rfl) ?_
  refine lv_bipush (v := 10) hx hb dX6_init_21 (by decide) ?_
  refine g_newz (x := 10) (N' := 10) C hG q453 (by decide) (nI_clamp (n := 10) (by decide)) (by decide) (by decide) (by decide) dX6_init_23 (fun q_3 H hG => ?_)
  have hG : gG E A s.heap ([(a, .inr (6, [.ref q_1, .ref q_2, .null, .null, .null, .null, .null, .int 0, .int 0, .int 0, .int 0, .null, .int 0])), (q_1, .inl (E.2.1 1, 10, .inl (fun _ => 0))), (q_2, .inl (E.2.1 1, 10, .inl (fun _ => 0))), (q_3, .inl (E.2.1 1, 10, .inl (fun _ => 0)))] : va_W) H _ := hG
  refine W.cs (cells' := 3) (slots' := 30) rfl rfl ?_
  refine gS_F (v := .ref q_3) (ws' := ([(a, .inr (6, [.ref q_1, .ref q_2, .ref q_3, .null, .null, .null, .null, .int 0, .int 0, .int 0, .int 0, .null, .int 0])), (q_1, .inl (E.2.1 1, 10, .inl (fun _ => 0))), (q_2, .inl (E.2.1 1, 10, .inl (fun _ => 0))), (q_3, .inl (E.2.1 1, 10, .inl (fun _ => 0)))] : va_W)) C hG kX6 hmi 0 2 rfl (by decide) q408 rfl rfl rfl rfl rfl (by show 2 < 13; decide) dX6_init_25 rfl (fun H locs hG => ?_)
  refine lv_aload_n hx hb dX6_init_28 rfl (lv_at hl 0 rfl) ?_
  refine lv_bipush (v := 10) hx hb dX6_init_29 (by decide) ?_
  refine g_newi (x := 10) (N' := 10) C hG q265 (by decide) (nI_clamp (n := 10) (by decide)) (by decide) (by decide) (by decide) dX6_init_31 (fun q_4 H hG => ?_)
  have hG : gG E A s.heap ([(a, .inr (6, [.ref q_1, .ref q_2, .ref q_3, .null, .null, .null, .null, .int 0, .int 0, .int 0, .int 0, .null, .int 0])), (q_1, .inl (E.2.1 1, 10, .inl (fun _ => 0))), (q_2, .inl (E.2.1 1, 10, .inl (fun _ => 0))), (q_3, .inl (E.2.1 1, 10, .inl (fun _ => 0))), (q_4, .inl (E.2.1 0, 10, .inl (fun _ => 0)))] : va_W) H _ := hG
  refine W.cs (cells' := 4) (slots' := 40) rfl rfl ?_
  refine gS_F (v := .ref q_4) (ws' := ([(a, .inr (6, [.ref q_1, .ref q_2, .ref q_3, .ref q_4, .null, .null, .null, .int 0, .int 0, .int 0, .int 0, .null, .int 0])), (q_1, .inl (E.2.1 1, 10, .inl (fun _ => 0))), (q_2, .inl (E.2.1 1, 10, .inl (fun _ => 0))), (q_3, .inl (E.2.1 1, 10, .inl (fun _ => 0))), (q_4, .inl (E.2.1 0, 10, .inl (fun _ => 0)))] : va_W)) C hG kX6 hmi 0 3 rfl (by decide) q409 rfl rfl rfl rfl rfl (by show 3 < 13; decide) dX6_init_33 rfl (fun H locs hG => ?_)
  refine lv_aload_n hx hb dX6_init_36 rfl (lv_at hl 0 rfl) ?_
  refine lv_bipush (v := 10) hx hb dX6_init_37 (by decide) ?_
  refine g_newi (x := 10) (N' := 10) C hG q265 (by decide) (nI_clamp (n := 10) (by decide)) (by decide) (by decide) (by decide) dX6_init_39 (fun q_5 H hG => ?_)
  have hG : gG E A s.heap ([(a, .inr (6, [.ref q_1, .ref q_2, .ref q_3, .ref q_4, .null, .null, .null, .int 0, .int 0, .int 0, .int 0, .null, .int 0])), (q_1, .inl (E.2.1 1, 10, .inl (fun _ => 0))), (q_2, .inl (E.2.1 1, 10, .inl (fun _ => 0))), (q_3, .inl (E.2.1 1, 10, .inl (fun _ => 0))), (q_4, .inl (E.2.1 0, 10, .inl (fun _ => 0))), (q_5, .inl (E.2.1 0, 10, .inl (fun _ => 0)))] : va_W) H _ := hG
  refine W.cs (cells' := 5) (slots' := 50) rfl rfl ?_
  refine gS_F (v := .ref q_5) (ws' := ([(a, .inr (6, [.ref q_1, .ref q_2, .ref q_3, .ref q_4, .ref q_5, .null, .null, .int 0, .int 0, .int 0, .int 0, .null, .int 0])), (q_1, .inl (E.2.1 1, 10, .inl (fun _ => 0))), (q_2, .inl (E.2.1 1, 10, .inl (fun _ => 0))), (q_3, .inl (E.2.1 1, 10, .inl (fun _ => 0))), (q_4, .inl (E.2.1 0, 10, .inl (fun _ => 0))), (q_5, .inl (E.2.1 0, 10, .inl (fun _ => 0)))] : va_W)) C hG kX6 hmi 0 4 rfl (by decide) q410 rfl rfl rfl rfl rfl (by show 4 < 13; decide) dX6_init_41 rfl (fun H locs hG => ?_)
  refine lv_aload_n hx hb dX6_init_44 rfl (lv_at hl 0 rfl) ?_
  refine lv_bipush (v := 10) hx hb dX6_init_45 (by decide) ?_
  refine g_newi (x := 10) (N' := 10) C hG q265 (by decide) (nI_clamp (n := 10) (by decide)) (by decide) (by decide) (by decide) dX6_init_47 (fun q_6 H hG => ?_)
  have hG : gG E A s.heap ([(a, .inr (6, [.ref q_1, .ref q_2, .ref q_3, .ref q_4, .ref q_5, .null, .null, .int 0, .int 0, .int 0, .int 0, .null, .int 0])), (q_1, .inl (E.2.1 1, 10, .inl (fun _ => 0))), (q_2, .inl (E.2.1 1, 10, .inl (fun _ => 0))), (q_3, .inl (E.2.1 1, 10, .inl (fun _ => 0))), (q_4, .inl (E.2.1 0, 10, .inl (fun _ => 0))), (q_5, .inl (E.2.1 0, 10, .inl (fun _ => 0))), (q_6, .inl (E.2.1 0, 10, .inl (fun _ => 0)))] : va_W) H _ := hG
  refine W.cs (cells' := 6) (slots' := 60) rfl rfl ?_
  refine gS_F (v := .ref q_6) (ws' := ([(a, .inr (6, [.ref q_1, .ref q_2, .ref q_3, .ref q_4, .ref q_5, .ref q_6, .null, .int 0, .int 0, .int 0, .int 0, .null, .int 0])), (q_1, .inl (E.2.1 1, 10, .inl (fun _ => 0))), (q_2, .inl (E.2.1 1, 10, .inl (fun _ => 0))), (q_3, .inl (E.2.1 1, 10, .inl (fun _ => 0))), (q_4, .inl (E.2.1 0, 10, .inl (fun _ => 0))), (q_5, .inl (E.2.1 0, 10, .inl (fun _ => 0))), (q_6, .inl (E.2.1 0, 10, .inl (fun _ => 0)))] : va_W)) C hG kX6 hmi 0 5 rfl (by decide) q411 rfl rfl rfl rfl rfl (by show 5 < 13; decide) dX6_init_49 rfl (fun H locs hG => ?_)
  refine lv_aload_n hx hb dX6_init_52 rfl (lv_at hl 0 rfl) ?_
  refine lv_bipush (v := 10) hx hb dX6_init_53 (by decide) ?_
  refine g_newi (x := 10) (N' := 10) C hG q265 (by decide) (nI_clamp (n := 10) (by decide)) (by decide) (by decide) (by decide) dX6_init_55 (fun q_7 H hG => ?_)
  have hG : gG E A s.heap ([(a, .inr (6, [.ref q_1, .ref q_2, .ref q_3, .ref q_4, .ref q_5, .ref q_6, .null, .int 0, .int 0, .int 0, .int 0, .null, .int 0])), (q_1, .inl (E.2.1 1, 10, .inl (fun _ => 0))), (q_2, .inl (E.2.1 1, 10, .inl (fun _ => 0))), (q_3, .inl (E.2.1 1, 10, .inl (fun _ => 0))), (q_4, .inl (E.2.1 0, 10, .inl (fun _ => 0))), (q_5, .inl (E.2.1 0, 10, .inl (fun _ => 0))), (q_6, .inl (E.2.1 0, 10, .inl (fun _ => 0))), (q_7, .inl (E.2.1 0, 10, .inl (fun _ => 0)))] : va_W) H _ := hG
  refine W.cs (cells' := 7) (slots' := 70) rfl rfl ?_
  refine gS_F (v := .ref q_7) (ws' := ([(a, .inr (6, [.ref q_1, .ref q_2, .ref q_3, .ref q_4, .ref q_5, .ref q_6, .ref q_7, .int 0, .int 0, .int 0, .int 0, .null, .int 0])), (q_1, .inl (E.2.1 1, 10, .inl (fun _ => 0))), (q_2, .inl (E.2.1 1, 10, .inl (fun _ => 0))), (q_3, .inl (E.2.1 1, 10, .inl (fun _ => 0))), (q_4, .inl (E.2.1 0, 10, .inl (fun _ => 0))), (q_5, .inl (E.2.1 0, 10, .inl (fun _ => 0))), (q_6, .inl (E.2.1 0, 10, .inl (fun _ => 0))), (q_7, .inl (E.2.1 0, 10, .inl (fun _ => 0)))] : va_W)) C hG kX6 hmi 0 6 rfl (by decide) q412 rfl rfl rfl rfl rfl (by show 6 < 13; decide) dX6_init_57 rfl (fun H locs hG => ?_)
  refine lv_aload_n hx hb dX6_init_60 rfl (lv_at hl 0 rfl) ?_
  refine lv_iconst (v := 0) hx hb dX6_init_61 (by decide) ?_
  refine gS_f (v := .int 0) (ws' := ([(a, .inr (6, [.ref q_1, .ref q_2, .ref q_3, .ref q_4, .ref q_5, .ref q_6, .ref q_7, .int 0, .int 0, .int 0, .int 0, .null, .int 0])), (q_1, .inl (E.2.1 1, 10, .inl (fun _ => 0))), (q_2, .inl (E.2.1 1, 10, .inl (fun _ => 0))), (q_3, .inl (E.2.1 1, 10, .inl (fun _ => 0))), (q_4, .inl (E.2.1 0, 10, .inl (fun _ => 0))), (q_5, .inl (E.2.1 0, 10, .inl (fun _ => 0))), (q_6, .inl (E.2.1 0, 10, .inl (fun _ => 0))), (q_7, .inl (E.2.1 0, 10, .inl (fun _ => 0)))] : va_W)) C hG kX6 0 7 rfl (by decide) q413 rfl rfl rfl rfl (by show 7 < 13; decide) dX6_init_62 rfl (fun H locs hG => ?_)
  refine lv_aload_n hx hb dX6_init_65 rfl (lv_at hl 0 rfl) ?_
  refine lv_iconst (v := 0) hx hb dX6_init_66 (by decide) ?_
  refine gS_f (v := .int 0) (ws' := ([(a, .inr (6, [.ref q_1, .ref q_2, .ref q_3, .ref q_4, .ref q_5, .ref q_6, .ref q_7, .int 0, .int 0, .int 0, .int 0, .null, .int 0])), (q_1, .inl (E.2.1 1, 10, .inl (fun _ => 0))), (q_2, .inl (E.2.1 1, 10, .inl (fun _ => 0))), (q_3, .inl (E.2.1 1, 10, .inl (fun _ => 0))), (q_4, .inl (E.2.1 0, 10, .inl (fun _ => 0))), (q_5, .inl (E.2.1 0, 10, .inl (fun _ => 0))), (q_6, .inl (E.2.1 0, 10, .inl (fun _ => 0))), (q_7, .inl (E.2.1 0, 10, .inl (fun _ => 0)))] : va_W)) C hG kX6 0 8 rfl (by decide) q414 rfl rfl rfl rfl (by show 8 < 13; decide) dX6_init_67 rfl (fun H locs hG => ?_)
  refine lv_aload_n hx hb dX6_init_70 rfl (lv_at hl 0 rfl) ?_
  refine lv_iconst (v := 0) hx hb dX6_init_71 (by decide) ?_
  refine gS_f (v := .int 0) (ws' := ([(a, .inr (6, [.ref q_1, .ref q_2, .ref q_3, .ref q_4, .ref q_5, .ref q_6, .ref q_7, .int 0, .int 0, .int 0, .int 0, .null, .int 0])), (q_1, .inl (E.2.1 1, 10, .inl (fun _ => 0))), (q_2, .inl (E.2.1 1, 10, .inl (fun _ => 0))), (q_3, .inl (E.2.1 1, 10, .inl (fun _ => 0))), (q_4, .inl (E.2.1 0, 10, .inl (fun _ => 0))), (q_5, .inl (E.2.1 0, 10, .inl (fun _ => 0))), (q_6, .inl (E.2.1 0, 10, .inl (fun _ => 0))), (q_7, .inl (E.2.1 0, 10, .inl (fun _ => 0)))] : va_W)) C hG kX6 0 9 rfl (by decide) q415 rfl rfl rfl rfl (by show 9 < 13; decide) dX6_init_72 rfl (fun H locs hG => ?_)
  refine lv_aload_n hx hb dX6_init_75 rfl (lv_at hl 0 rfl) ?_
  refine lv_iconst (v := 0) hx hb dX6_init_76 (by decide) ?_
  refine gS_f (v := .int 0) (ws' := ([(a, .inr (6, [.ref q_1, .ref q_2, .ref q_3, .ref q_4, .ref q_5, .ref q_6, .ref q_7, .int 0, .int 0, .int 0, .int 0, .null, .int 0])), (q_1, .inl (E.2.1 1, 10, .inl (fun _ => 0))), (q_2, .inl (E.2.1 1, 10, .inl (fun _ => 0))), (q_3, .inl (E.2.1 1, 10, .inl (fun _ => 0))), (q_4, .inl (E.2.1 0, 10, .inl (fun _ => 0))), (q_5, .inl (E.2.1 0, 10, .inl (fun _ => 0))), (q_6, .inl (E.2.1 0, 10, .inl (fun _ => 0))), (q_7, .inl (E.2.1 0, 10, .inl (fun _ => 0)))] : va_W)) C hG kX6 0 10 rfl (by decide) q418 rfl rfl rfl rfl (by show 10 < 13; decide) dX6_init_77 rfl (fun H locs hG => ?_)
  refine lv_aload_n hx hb dX6_init_80 rfl (lv_at hl 0 rfl) ?_
  refine lv_bipush (v := 10) hx hb dX6_init_81 (by decide) ?_
  refine g_newi (x := 10) (N' := 10) C hG q265 (by decide) (nI_clamp (n := 10) (by decide)) (by decide) (by decide) (by decide) dX6_init_83 (fun q_8 H hG => ?_)
  have hG : gG E A s.heap ([(a, .inr (6, [.ref q_1, .ref q_2, .ref q_3, .ref q_4, .ref q_5, .ref q_6, .ref q_7, .int 0, .int 0, .int 0, .int 0, .null, .int 0])), (q_1, .inl (E.2.1 1, 10, .inl (fun _ => 0))), (q_2, .inl (E.2.1 1, 10, .inl (fun _ => 0))), (q_3, .inl (E.2.1 1, 10, .inl (fun _ => 0))), (q_4, .inl (E.2.1 0, 10, .inl (fun _ => 0))), (q_5, .inl (E.2.1 0, 10, .inl (fun _ => 0))), (q_6, .inl (E.2.1 0, 10, .inl (fun _ => 0))), (q_7, .inl (E.2.1 0, 10, .inl (fun _ => 0))), (q_8, .inl (E.2.1 0, 10, .inl (fun _ => 0)))] : va_W) H _ := hG
  refine W.cs (cells' := 8) (slots' := 80) rfl rfl ?_
  refine gS_F (v := .ref q_8) (ws' := ([(a, .inr (6, [.ref q_1, .ref q_2, .ref q_3, .ref q_4, .ref q_5, .ref q_6, .ref q_7, .int 0, .int 0, .int 0, .int 0, .ref q_8, .int 0])), (q_1, .inl (E.2.1 1, 10, .inl (fun _ => 0))), (q_2, .inl (E.2.1 1, 10, .inl (fun _ => 0))), (q_3, .inl (E.2.1 1, 10, .inl (fun _ => 0))), (q_4, .inl (E.2.1 0, 10, .inl (fun _ => 0))), (q_5, .inl (E.2.1 0, 10, .inl (fun _ => 0))), (q_6, .inl (E.2.1 0, 10, .inl (fun _ => 0))), (q_7, .inl (E.2.1 0, 10, .inl (fun _ => 0))), (q_8, .inl (E.2.1 0, 10, .inl (fun _ => 0)))] : va_W)) C hG kX6 hmi 0 11 rfl (by decide) q420 rfl rfl rfl rfl rfl (by show 11 < 13; decide) dX6_init_85 rfl (fun H locs hG => ?_)
  refine lv_aload_n hx hb dX6_init_88 rfl (lv_at hl 0 rfl) ?_
  refine lv_iconst (v := 0) hx hb dX6_init_89 (by decide) ?_
  refine gS_f (v := .int 0) (ws' := ([(a, .inr (6, [.ref q_1, .ref q_2, .ref q_3, .ref q_4, .ref q_5, .ref q_6, .ref q_7, .int 0, .int 0, .int 0, .int 0, .ref q_8, .int 0])), (q_1, .inl (E.2.1 1, 10, .inl (fun _ => 0))), (q_2, .inl (E.2.1 1, 10, .inl (fun _ => 0))), (q_3, .inl (E.2.1 1, 10, .inl (fun _ => 0))), (q_4, .inl (E.2.1 0, 10, .inl (fun _ => 0))), (q_5, .inl (E.2.1 0, 10, .inl (fun _ => 0))), (q_6, .inl (E.2.1 0, 10, .inl (fun _ => 0))), (q_7, .inl (E.2.1 0, 10, .inl (fun _ => 0))), (q_8, .inl (E.2.1 0, 10, .inl (fun _ => 0)))] : va_W)) C hG kX6 0 12 rfl (by decide) q423 rfl rfl rfl rfl (by show 12 < 13; decide) dX6_init_90 rfl (fun H locs hG => ?_)
  obtain ⟨ad, had⟩ : ∃ ad : Nat → Nat, ad = fun k => [a, q_1, q_2, q_3, q_4, q_5, q_6, q_7, q_8].getD k 0 := ⟨_, rfl⟩
  have hG : gG E A s.heap (rP E ad zX6_init ++ []) H locs := by rw [had]; exact hG
  have ha0 : ad 0 = a := by rw [had]; rfl
  exact hret _ _ _ _ ad ha0 (gG_nil hG) dX6_init_93
def zX7_init : RS := zRS
set_option maxHeartbeats 4000000 in
set_option maxRecDepth 100000 in
theorem c_X7_init (l : Launch) (E : GE) : gMn l E yX7_init cX7_init 1 1 2 6 7 [.null, .null, .null, .int 0, .int 0, .int 0, .null, .null] (fun ad => rY E ad (fun _ => .null) zX7_init) := by
  refine gMn_of (own := RX7) (by decide +kernel) rfl (by decide) rfl ?_
  intro a p e s m args below meth c A ls Q H locs C hz hl hG hmi hret
  have hx := C.1.1
  have hb := C.1.2.1
  have hts := C.1.2.2.2.2
  have hown := C.1.2.2.2.1
  have hG : gG E A s.heap ([(a, .inr (7, [.null, .null, .null, .int 0, .int 0, .int 0, .null, .null]))] : va_W) H locs := hG
  refine lv_aload_n hx hb dX7_init_0 rfl (lv_at hl 0 rfl) ?_
  refine W.objInit hx hb hown (hts _ q459) (hts _ q196) (hts _ q197) rfl (hl.1.trans C.1.2.2.1.symm) rfl dX7_init_1 (Nat.le_of_ble_eq_true rfl) (Nat.le_of_ble_eq_true rfl) ?_
  refine W.eq (g2 := F0 m 4 ls []) rfl ?_
  refine lv_aload_n hx hb dX7_init_4 rfl (lv_at hl 0 rfl) ?_
  refine lv_null hx hb dX7_init_5 ?_
  refine gS_f (v := .null) (ws' := ([(a, .inr (7, [.null, .null, .null, .int 0, .int 0, .int 0, .null, .null]))] : va_W)) C hG kX7 0 0 rfl (by decide) q460 rfl rfl rfl rfl (by show 0 < 8; decide) dX7_init_6 rfl (fun H locs hG => ?_)
  refine lv_aload_n hx hb dX7_init_9 rfl (lv_at hl 0 rfl) ?_
  refine lv_null hx hb dX7_init_10 ?_
  refine gS_f (v := .null) (ws' := ([(a, .inr (7, [.null, .null, .null, .int 0, .int 0, .int 0, .null, .null]))] : va_W)) C hG kX7 0 1 rfl (by decide) q461 rfl rfl rfl rfl (by show 1 < 8; decide) dX7_init_11 rfl (fun H locs hG => ?_)
  refine lv_aload_n hx hb dX7_init_14 rfl (lv_at hl 0 rfl) ?_
  refine lv_null hx hb dX7_init_15 ?_
  refine gS_f (v := .null) (ws' := ([(a, .inr (7, [.null, .null, .null, .int 0, .int 0, .int 0, .null, .null]))] : va_W)) C hG kX7 0 2 rfl (by decide) q462 rfl rfl rfl rfl (by show 2 < 8; decide) dX7_init_16 rfl (fun H locs hG => ?_)
  refine lv_aload_n hx hb dX7_init_19 rfl (lv_at hl 0 rfl) ?_
  refine lv_iconst (v := 0) hx hb dX7_init_20 (by decide) ?_
  refine gS_f (v := .int 0) (ws' := ([(a, .inr (7, [.null, .null, .null, .int 0, .int 0, .int 0, .null, .null]))] : va_W)) C hG kX7 0 3 rfl (by decide) q463 rfl rfl rfl rfl (by show 3 < 8; decide) dX7_init_21 rfl (fun H locs hG => ?_)
  refine lv_aload_n hx hb dX7_init_24 rfl (lv_at hl 0 rfl) ?_
  refine lv_iconst (v := 0) hx hb dX7_init_25 (by decide) ?_
  refine gS_f (v := .int 0) (ws' := ([(a, .inr (7, [.null, .null, .null, .int 0, .int 0, .int 0, .null, .null]))] : va_W)) C hG kX7 0 4 rfl (by decide) q464 rfl rfl rfl rfl (by show 4 < 8; decide) dX7_init_26 rfl (fun H locs hG => ?_)
  refine lv_aload_n hx hb dX7_init_29 rfl (lv_at hl 0 rfl) ?_
  refine lv_iconst (v := 0) hx hb dX7_init_30 (by decide) ?_
  refine gS_f (v := .int 0) (ws' := ([(a, .inr (7, [.null, .null, .null, .int 0, .int 0, .int 0, .null, .null]))] : va_W)) C hG kX7 0 5 rfl (by decide) q465 rfl rfl rfl rfl (by show 5 < 8; decide) dX7_init_31 rfl (fun H locs hG => ?_)
  refine lv_aload_n hx hb dX7_init_34 rfl (lv_at hl 0 rfl) ?_
  refine lv_iconst (v := 3) hx hb dX7_init_35 (by decide) ?_
  refine g_newi (x := 3) (N' := 3) C hG q265 (by decide) (nI_clamp (n := 3) (by decide)) (by decide) (by decide) (by decide) dX7_init_36 (fun q_1 H hG => ?_)
  have hG : gG E A s.heap ([(a, .inr (7, [.null, .null, .null, .int 0, .int 0, .int 0, .null, .null])), (q_1, .inl (E.2.1 0, 3, .inl (fun _ => 0)))] : va_W) H _ := hG
  refine W.cs (cells' := 1) (slots' := 3) rfl rfl ?_
  refine gS_F (v := .ref q_1) (ws' := ([(a, .inr (7, [.null, .null, .null, .int 0, .int 0, .int 0, .ref q_1, .null])), (q_1, .inl (E.2.1 0, 3, .inl (fun _ => 0)))] : va_W)) C hG kX7 hmi 0 6 rfl (by decide) q466 rfl rfl rfl rfl rfl (by show 6 < 8; decide) dX7_init_38 rfl (fun H locs hG => ?_)
  refine lv_aload_n hx hb dX7_init_41 rfl (lv_at hl 0 rfl) ?_
  refine lv_iconst (v := 3) hx hb dX7_init_42 (by decide) ?_
  refine g_newi (x := 3) (N' := 3) C hG q265 (by decide) (nI_clamp (n := 3) (by decide)) (by decide) (by decide) (by decide) dX7_init_43 (fun q_2 H hG => ?_)
  have hG : gG E A s.heap ([(a, .inr (7, [.null, .null, .null, .int 0, .int 0, .int 0, .ref q_1, .null])), (q_1, .inl (E.2.1 0, 3, .inl (fun _ => 0))), (q_2, .inl (E.2.1 0, 3, .inl (fun _ => 0)))] : va_W) H _ := hG
  refine W.cs (cells' := 2) (slots' := 6) rfl rfl ?_
  refine gS_F (v := .ref q_2) (ws' := ([(a, .inr (7, [.null, .null, .null, .int 0, .int 0, .int 0, .ref q_1, .ref q_2])), (q_1, .inl (E.2.1 0, 3, .inl (fun _ => 0))), (q_2, .inl (E.2.1 0, 3, .inl (fun _ => 0)))] : va_W)) C hG kX7 hmi 0 7 rfl (by decide) q467 rfl rfl rfl rfl rfl (by show 7 < 8; decide) dX7_init_45 rfl (fun H locs hG => ?_)
  obtain ⟨ad, had⟩ : ∃ ad : Nat → Nat, ad = fun k => [a, q_1, q_2].getD k 0 := ⟨_, rfl⟩
  have hG : gG E A s.heap (rY E ad (fun _ => .null) zX7_init ++ []) H locs := by rw [had]; exact hG
  have ha0 : ad 0 = a := by rw [had]; rfl
  exact hret _ _ _ _ ad ha0 (gG_nil hG) dX7_init_48
def zX8_init : RS := (st (st zRS 0 2 (-1)) 0 3 (-1))
set_option maxHeartbeats 4000000 in
set_option maxRecDepth 100000 in
theorem c_X8_init (l : Launch) (E : GE) : gMn l E yX8_init cX8_init 1 1 6 1209 8 [.null, .int 0, .int 0, .int 0, .null, .null, .null, .int 0, .int 0, .int 0, .int 0, .null, .int 0, .null] (fun ad => rR E ad zX8_init) := by
  refine gMn_of (own := RX8) (by decide +kernel) rfl (by decide) rfl ?_
  intro a p e s m args below meth c A ls Q H locs C hz hl hG hmi hret
  have hx := C.1.1
  have hb := C.1.2.1
  have hts := C.1.2.2.2.2
  have hown := C.1.2.2.2.1
  have hG : gG E A s.heap ([(a, .inr (8, [.null, .int 0, .int 0, .int 0, .null, .null, .null, .int 0, .int 0, .int 0, .int 0, .null, .int 0, .null]))] : va_W) H locs := hG
  refine lv_aload_n hx hb dX8_init_0 rfl (lv_at hl 0 rfl) ?_
  refine W.objInit hx hb hown (hts _ q490) (hts _ q196) (hts _ q197) rfl (hl.1.trans C.1.2.2.1.symm) rfl dX8_init_1 (Nat.le_of_ble_eq_true rfl) (Nat.le_of_ble_eq_true rfl) ?_
  refine W.eq (g2 := F0 m 4 ls []) rfl ?_
  refine lv_aload_n hx hb dX8_init_4 rfl (lv_at hl 0 rfl) ?_
  refine lv_sipush (v := 300) hx hb dX8_init_5 (by decide) ?_
  refine g_newi (x := 300) (N' := 300) C hG q265 (by decide) (nI_clamp (n := 300) (by decide)) (by decide) (by decide) (by decide) dX8_init_8 (fun q_1 H hG => ?_)
  have hG : gG E A s.heap ([(a, .inr (8, [.null, .int 0, .int 0, .int 0, .null, .null, .null, .int 0, .int 0, .int 0, .int 0, .null, .int 0, .null])), (q_1, .inl (E.2.1 0, 300, .inl (fun _ => 0)))] : va_W) H _ := hG
  refine W.cs (cells' := 1) (slots' := 300) rfl rfl ?_
  refine gS_F (v := .ref q_1) (ws' := ([(a, .inr (8, [.ref q_1, .int 0, .int 0, .int 0, .null, .null, .null, .int 0, .int 0, .int 0, .int 0, .null, .int 0, .null])), (q_1, .inl (E.2.1 0, 300, .inl (fun _ => 0)))] : va_W)) C hG kX8 hmi 0 0 rfl (by decide) q491 rfl rfl rfl rfl rfl (by show 0 < 14; decide) dX8_init_10 rfl (fun H locs hG => ?_)
  refine lv_aload_n hx hb dX8_init_13 rfl (lv_at hl 0 rfl) ?_
  refine lv_iconst (v := 0) hx hb dX8_init_14 (by decide) ?_
  refine gS_f (v := .int 0) (ws' := ([(a, .inr (8, [.ref q_1, .int 0, .int 0, .int 0, .null, .null, .null, .int 0, .int 0, .int 0, .int 0, .null, .int 0, .null])), (q_1, .inl (E.2.1 0, 300, .inl (fun _ => 0)))] : va_W)) C hG kX8 0 1 rfl (by decide) q492 rfl rfl rfl rfl (by show 1 < 14; decide) dX8_init_15 rfl (fun H locs hG => ?_)
  refine lv_aload_n hx hb dX8_init_18 rfl (lv_at hl 0 rfl) ?_
  refine lv_iconst (v := (-1)) hx hb dX8_init_19 (by decide) ?_
  refine gS_f (v := .int (-1)) (ws' := ([(a, .inr (8, [.ref q_1, .int 0, .int (-1), .int 0, .null, .null, .null, .int 0, .int 0, .int 0, .int 0, .null, .int 0, .null])), (q_1, .inl (E.2.1 0, 300, .inl (fun _ => 0)))] : va_W)) C hG kX8 0 2 rfl (by decide) q494 rfl rfl rfl rfl (by show 2 < 14; decide) dX8_init_20 rfl (fun H locs hG => ?_)
  refine lv_aload_n hx hb dX8_init_23 rfl (lv_at hl 0 rfl) ?_
  refine lv_iconst (v := (-1)) hx hb dX8_init_24 (by decide) ?_
  refine gS_f (v := .int (-1)) (ws' := ([(a, .inr (8, [.ref q_1, .int 0, .int (-1), .int (-1), .null, .null, .null, .int 0, .int 0, .int 0, .int 0, .null, .int 0, .null])), (q_1, .inl (E.2.1 0, 300, .inl (fun _ => 0)))] : va_W)) C hG kX8 0 3 rfl (by decide) q496 rfl rfl rfl rfl (by show 3 < 14; decide) dX8_init_25 rfl (fun H locs hG => ?_)
  refine lv_aload_n hx hb dX8_init_28 rfl (lv_at hl 0 rfl) ?_
  refine lv_sipush (v := 301) hx hb dX8_init_29 (by decide) ?_
  refine g_newi (x := 301) (N' := 301) C hG q265 (by decide) (nI_clamp (n := 301) (by decide)) (by decide) (by decide) (by decide) dX8_init_32 (fun q_2 H hG => ?_)
  have hG : gG E A s.heap ([(a, .inr (8, [.ref q_1, .int 0, .int (-1), .int (-1), .null, .null, .null, .int 0, .int 0, .int 0, .int 0, .null, .int 0, .null])), (q_1, .inl (E.2.1 0, 300, .inl (fun _ => 0))), (q_2, .inl (E.2.1 0, 301, .inl (fun _ => 0)))] : va_W) H _ := hG
  refine W.cs (cells' := 2) (slots' := 601) rfl rfl ?_
  refine gS_F (v := .ref q_2) (ws' := ([(a, .inr (8, [.ref q_1, .int 0, .int (-1), .int (-1), .ref q_2, .null, .null, .int 0, .int 0, .int 0, .int 0, .null, .int 0, .null])), (q_1, .inl (E.2.1 0, 300, .inl (fun _ => 0))), (q_2, .inl (E.2.1 0, 301, .inl (fun _ => 0)))] : va_W)) C hG kX8 hmi 0 4 rfl (by decide) q498 rfl rfl rfl rfl rfl (by show 4 < 14; decide) dX8_init_34 rfl (fun H locs hG => ?_)
  refine lv_aload_n hx hb dX8_init_37 rfl (lv_at hl 0 rfl) ?_
  refine lv_sipush (v := 301) hx hb dX8_init_38 (by decide) ?_
  refine g_newi (x := 301) (N' := 301) C hG q265 (by decide) (nI_clamp (n := 301) (by decide)) (by decide) (by decide) (by decide) dX8_init_41 (fun q_3 H hG => ?_)
  have hG : gG E A s.heap ([(a, .inr (8, [.ref q_1, .int 0, .int (-1), .int (-1), .ref q_2, .null, .null, .int 0, .int 0, .int 0, .int 0, .null, .int 0, .null])), (q_1, .inl (E.2.1 0, 300, .inl (fun _ => 0))), (q_2, .inl (E.2.1 0, 301, .inl (fun _ => 0))), (q_3, .inl (E.2.1 0, 301, .inl (fun _ => 0)))] : va_W) H _ := hG
  refine W.cs (cells' := 3) (slots' := 902) rfl rfl ?_
  refine gS_F (v := .ref q_3) (ws' := ([(a, .inr (8, [.ref q_1, .int 0, .int (-1), .int (-1), .ref q_2, .ref q_3, .null, .int 0, .int 0, .int 0, .int 0, .null, .int 0, .null])), (q_1, .inl (E.2.1 0, 300, .inl (fun _ => 0))), (q_2, .inl (E.2.1 0, 301, .inl (fun _ => 0))), (q_3, .inl (E.2.1 0, 301, .inl (fun _ => 0)))] : va_W)) C hG kX8 hmi 0 5 rfl (by decide) q499 rfl rfl rfl rfl rfl (by show 5 < 14; decide) dX8_init_43 rfl (fun H locs hG => ?_)
  refine lv_aload_n hx hb dX8_init_46 rfl (lv_at hl 0 rfl) ?_
  refine lv_sipush (v := 301) hx hb dX8_init_47 (by decide) ?_
  refine g_newi (x := 301) (N' := 301) C hG q265 (by decide) (nI_clamp (n := 301) (by decide)) (by decide) (by decide) (by decide) dX8_init_50 (fun q_4 H hG => ?_)
  have hG : gG E A s.heap ([(a, .inr (8, [.ref q_1, .int 0, .int (-1), .int (-1), .ref q_2, .ref q_3, .null, .int 0, .int 0, .int 0, .int 0, .null, .int 0, .null])), (q_1, .inl (E.2.1 0, 300, .inl (fun _ => 0))), (q_2, .inl (E.2.1 0, 301, .inl (fun _ => 0))), (q_3, .inl (E.2.1 0, 301, .inl (fun _ => 0))), (q_4, .inl (E.2.1 0, 301, .inl (fun _ => 0)))] : va_W) H _ := hG
  refine W.cs (cells' := 4) (slots' := 1203) rfl rfl ?_
  refine gS_F (v := .ref q_4) (ws' := ([(a, .inr (8, [.ref q_1, .int 0, .int (-1), .int (-1), .ref q_2, .ref q_3, .ref q_4, .int 0, .int 0, .int 0, .int 0, .null, .int 0, .null])), (q_1, .inl (E.2.1 0, 300, .inl (fun _ => 0))), (q_2, .inl (E.2.1 0, 301, .inl (fun _ => 0))), (q_3, .inl (E.2.1 0, 301, .inl (fun _ => 0))), (q_4, .inl (E.2.1 0, 301, .inl (fun _ => 0)))] : va_W)) C hG kX8 hmi 0 6 rfl (by decide) q500 rfl rfl rfl rfl rfl (by show 6 < 14; decide) dX8_init_52 rfl (fun H locs hG => ?_)
  refine lv_aload_n hx hb dX8_init_55 rfl (lv_at hl 0 rfl) ?_
  refine lv_iconst (v := 0) hx hb dX8_init_56 (by decide) ?_
  refine gS_f (v := .int 0) (ws' := ([(a, .inr (8, [.ref q_1, .int 0, .int (-1), .int (-1), .ref q_2, .ref q_3, .ref q_4, .int 0, .int 0, .int 0, .int 0, .null, .int 0, .null])), (q_1, .inl (E.2.1 0, 300, .inl (fun _ => 0))), (q_2, .inl (E.2.1 0, 301, .inl (fun _ => 0))), (q_3, .inl (E.2.1 0, 301, .inl (fun _ => 0))), (q_4, .inl (E.2.1 0, 301, .inl (fun _ => 0)))] : va_W)) C hG kX8 0 7 rfl (by decide) q501 rfl rfl rfl rfl (by show 7 < 14; decide) dX8_init_57 rfl (fun H locs hG => ?_)
  refine lv_aload_n hx hb dX8_init_60 rfl (lv_at hl 0 rfl) ?_
  refine lv_iconst (v := 0) hx hb dX8_init_61 (by decide) ?_
  refine gS_f (v := .int 0) (ws' := ([(a, .inr (8, [.ref q_1, .int 0, .int (-1), .int (-1), .ref q_2, .ref q_3, .ref q_4, .int 0, .int 0, .int 0, .int 0, .null, .int 0, .null])), (q_1, .inl (E.2.1 0, 300, .inl (fun _ => 0))), (q_2, .inl (E.2.1 0, 301, .inl (fun _ => 0))), (q_3, .inl (E.2.1 0, 301, .inl (fun _ => 0))), (q_4, .inl (E.2.1 0, 301, .inl (fun _ => 0)))] : va_W)) C hG kX8 0 8 rfl (by decide) q502 rfl rfl rfl rfl (by show 8 < 14; decide) dX8_init_62 rfl (fun H locs hG => ?_)
  refine lv_aload_n hx hb dX8_init_65 rfl (lv_at hl 0 rfl) ?_
  refine lv_iconst (v := 0) hx hb dX8_init_66 (by decide) ?_
  refine gS_f (v := .int 0) (ws' := ([(a, .inr (8, [.ref q_1, .int 0, .int (-1), .int (-1), .ref q_2, .ref q_3, .ref q_4, .int 0, .int 0, .int 0, .int 0, .null, .int 0, .null])), (q_1, .inl (E.2.1 0, 300, .inl (fun _ => 0))), (q_2, .inl (E.2.1 0, 301, .inl (fun _ => 0))), (q_3, .inl (E.2.1 0, 301, .inl (fun _ => 0))), (q_4, .inl (E.2.1 0, 301, .inl (fun _ => 0)))] : va_W)) C hG kX8 0 9 rfl (by decide) q503 rfl rfl rfl rfl (by show 9 < 14; decide) dX8_init_67 rfl (fun H locs hG => ?_)
  refine lv_aload_n hx hb dX8_init_70 rfl (lv_at hl 0 rfl) ?_
  refine lv_iconst (v := 0) hx hb dX8_init_71 (by decide) ?_
  refine gS_f (v := .int 0) (ws' := ([(a, .inr (8, [.ref q_1, .int 0, .int (-1), .int (-1), .ref q_2, .ref q_3, .ref q_4, .int 0, .int 0, .int 0, .int 0, .null, .int 0, .null])), (q_1, .inl (E.2.1 0, 300, .inl (fun _ => 0))), (q_2, .inl (E.2.1 0, 301, .inl (fun _ => 0))), (q_3, .inl (E.2.1 0, 301, .inl (fun _ => 0))), (q_4, .inl (E.2.1 0, 301, .inl (fun _ => 0)))] : va_W)) C hG kX8 0 10 rfl (by decide) q504 rfl rfl rfl rfl (by show 10 < 14; decide) dX8_init_72 rfl (fun H locs hG => ?_)
  refine lv_aload_n hx hb dX8_init_75 rfl (lv_at hl 0 rfl) ?_
  refine lv_iconst (v := 3) hx hb dX8_init_76 (by decide) ?_
  refine g_newi (x := 3) (N' := 3) C hG q265 (by decide) (nI_clamp (n := 3) (by decide)) (by decide) (by decide) (by decide) dX8_init_77 (fun q_5 H hG => ?_)
  have hG : gG E A s.heap ([(a, .inr (8, [.ref q_1, .int 0, .int (-1), .int (-1), .ref q_2, .ref q_3, .ref q_4, .int 0, .int 0, .int 0, .int 0, .null, .int 0, .null])), (q_1, .inl (E.2.1 0, 300, .inl (fun _ => 0))), (q_2, .inl (E.2.1 0, 301, .inl (fun _ => 0))), (q_3, .inl (E.2.1 0, 301, .inl (fun _ => 0))), (q_4, .inl (E.2.1 0, 301, .inl (fun _ => 0))), (q_5, .inl (E.2.1 0, 3, .inl (fun _ => 0)))] : va_W) H _ := hG
  refine W.cs (cells' := 5) (slots' := 1206) rfl rfl ?_
  refine gS_F (v := .ref q_5) (ws' := ([(a, .inr (8, [.ref q_1, .int 0, .int (-1), .int (-1), .ref q_2, .ref q_3, .ref q_4, .int 0, .int 0, .int 0, .int 0, .ref q_5, .int 0, .null])), (q_1, .inl (E.2.1 0, 300, .inl (fun _ => 0))), (q_2, .inl (E.2.1 0, 301, .inl (fun _ => 0))), (q_3, .inl (E.2.1 0, 301, .inl (fun _ => 0))), (q_4, .inl (E.2.1 0, 301, .inl (fun _ => 0))), (q_5, .inl (E.2.1 0, 3, .inl (fun _ => 0)))] : va_W)) C hG kX8 hmi 0 11 rfl (by decide) q505 rfl rfl rfl rfl rfl (by show 11 < 14; decide) dX8_init_79 rfl (fun H locs hG => ?_)
  refine lv_aload_n hx hb dX8_init_82 rfl (lv_at hl 0 rfl) ?_
  refine lv_iconst (v := 0) hx hb dX8_init_83 (by decide) ?_
  refine gS_f (v := .int 0) (ws' := ([(a, .inr (8, [.ref q_1, .int 0, .int (-1), .int (-1), .ref q_2, .ref q_3, .ref q_4, .int 0, .int 0, .int 0, .int 0, .ref q_5, .int 0, .null])), (q_1, .inl (E.2.1 0, 300, .inl (fun _ => 0))), (q_2, .inl (E.2.1 0, 301, .inl (fun _ => 0))), (q_3, .inl (E.2.1 0, 301, .inl (fun _ => 0))), (q_4, .inl (E.2.1 0, 301, .inl (fun _ => 0))), (q_5, .inl (E.2.1 0, 3, .inl (fun _ => 0)))] : va_W)) C hG kX8 0 12 rfl (by decide) q506 rfl rfl rfl rfl (by show 12 < 14; decide) dX8_init_84 rfl (fun H locs hG => ?_)
  refine lv_aload_n hx hb dX8_init_87 rfl (lv_at hl 0 rfl) ?_
  refine lv_iconst (v := 3) hx hb dX8_init_88 (by decide) ?_
  refine g_newi (x := 3) (N' := 3) C hG q265 (by decide) (nI_clamp (n := 3) (by decide)) (by decide) (by decide) (by decide) dX8_init_89 (fun q_6 H hG => ?_)
  have hG : gG E A s.heap ([(a, .inr (8, [.ref q_1, .int 0, .int (-1), .int (-1), .ref q_2, .ref q_3, .ref q_4, .int 0, .int 0, .int 0, .int 0, .ref q_5, .int 0, .null])), (q_1, .inl (E.2.1 0, 300, .inl (fun _ => 0))), (q_2, .inl (E.2.1 0, 301, .inl (fun _ => 0))), (q_3, .inl (E.2.1 0, 301, .inl (fun _ => 0))), (q_4, .inl (E.2.1 0, 301, .inl (fun _ => 0))), (q_5, .inl (E.2.1 0, 3, .inl (fun _ => 0))), (q_6, .inl (E.2.1 0, 3, .inl (fun _ => 0)))] : va_W) H _ := hG
  refine W.cs (cells' := 6) (slots' := 1209) rfl rfl ?_
  refine gS_F (v := .ref q_6) (ws' := ([(a, .inr (8, [.ref q_1, .int 0, .int (-1), .int (-1), .ref q_2, .ref q_3, .ref q_4, .int 0, .int 0, .int 0, .int 0, .ref q_5, .int 0, .ref q_6])), (q_1, .inl (E.2.1 0, 300, .inl (fun _ => 0))), (q_2, .inl (E.2.1 0, 301, .inl (fun _ => 0))), (q_3, .inl (E.2.1 0, 301, .inl (fun _ => 0))), (q_4, .inl (E.2.1 0, 301, .inl (fun _ => 0))), (q_5, .inl (E.2.1 0, 3, .inl (fun _ => 0))), (q_6, .inl (E.2.1 0, 3, .inl (fun _ => 0)))] : va_W)) C hG kX8 hmi 0 13 rfl (by decide) q507 rfl rfl rfl rfl rfl (by show 13 < 14; decide) dX8_init_91 rfl (fun H locs hG => ?_)
  obtain ⟨ad, had⟩ : ∃ ad : Nat → Nat, ad = fun k => [a, q_1, q_2, q_3, q_4, q_5, q_6].getD k 0 := ⟨_, rfl⟩
  have hG : gG E A s.heap (rR E ad zX8_init ++ []) H locs := by rw [had]; exact hG
  have ha0 : ad 0 = a := by rw [had]; rfl
  exact hret _ _ _ _ ad ha0 (gG_nil hG) dX8_init_94
def zX12_init : RS := (st (st zRS 0 5 (-1)) 0 6 (-1))
def fX12_init_L131 (N : Nat) : Nat → Int32 → RS → Option (RS)
  | 0, _, _ => none
  | k + 1, x1, mm => if 23 ≤ x1 then (bnd (fX12_copy_12 N mm) fun r1 => some r1) else (ck (inb (139 + x1) 10760) <| thn (st mm 1 (139 + x1).toNatClampNeg (-1)) fun mm_3 => ck (inb (162 + x1) 10760) <| thn (st mm_3 1 (162 + x1).toNatClampNeg x1) fun mm_5 => fX12_init_L131 N k (x1 + 1) mm_5)
def fX12_init (N : Nat) (mm : RS) : Option (RS) := thn (st mm 1 4 409) fun mm_1 => thn (st mm_1 1 7 3) fun mm_2 => thn (st mm_2 1 8 6) fun mm_3 => thn (st mm_3 1 9 4) fun mm_4 => fX12_init_L131 N N 0 mm_4
set_option maxHeartbeats 4000000 in
set_option maxRecDepth 100000 in
theorem c_X12_init (l : Launch) (E : GE) (N : Nat) {res : RS} (h : fX12_init N zX12_init = some res) : gMn l E yX12_init cX12_init 2 2 10 24597 12 [.null, .null, .null, .null, .int 0, .int 0, .int 0, .int 0, .int 0, .int 0, .int 0, .int 0, .int 0, .null, .int 0, .int 0, .null, .int 0, .int 0, .null, .null, .null, .null, .int 0, .int 0, .int 0, .int 0] (fun ad => rM E ad res) := by
  refine gMn_of (own := RX12) (by decide +kernel) rfl (by decide) rfl ?_
  intro a p e s m args below meth c A ls Q H locs C hz hl hG hmi hret
  have hx := C.1.1
  have hb := C.1.2.1
  have hts := C.1.2.2.2.2
  have hown := C.1.2.2.2.1
  have hG : gG E A s.heap ([(a, .inr (12, [.null, .null, .null, .null, .int 0, .int 0, .int 0, .int 0, .int 0, .int 0, .int 0, .int 0, .int 0, .null, .int 0, .int 0, .null, .int 0, .int 0, .null, .null, .null, .null, .int 0, .int 0, .int 0, .int 0]))] : va_W) H locs := hG
  refine lv_aload_n hx hb dX12_init_0 rfl (lv_at hl 0 rfl) ?_
  refine W.objInit hx hb hown (hts _ q1348) (hts _ q196) (hts _ q197) rfl (hl.1.trans C.1.2.2.1.symm) rfl dX12_init_1 (Nat.le_of_ble_eq_true rfl) (Nat.le_of_ble_eq_true rfl) ?_
  refine W.eq (g2 := F0 m 4 ls []) rfl ?_
  refine lv_aload_n hx hb dX12_init_4 rfl (lv_at hl 0 rfl) ?_
  refine lv_sipush (v := 10760) hx hb dX12_init_5 (by decide) ?_
  refine g_newi (x := 10760) (N' := 10760) C hG q265 (by decide) (nI_clamp (n := 10760) (by decide)) (by decide) (by decide) (by decide) dX12_init_8 (fun q_1 H hG => ?_)
  have hG : gG E A s.heap ([(a, .inr (12, [.null, .null, .null, .null, .int 0, .int 0, .int 0, .int 0, .int 0, .int 0, .int 0, .int 0, .int 0, .null, .int 0, .int 0, .null, .int 0, .int 0, .null, .null, .null, .null, .int 0, .int 0, .int 0, .int 0])), (q_1, .inl (E.2.1 0, 10760, .inl (fun _ => 0)))] : va_W) H _ := hG
  refine W.cs (cells' := 1) (slots' := 10760) rfl rfl ?_
  refine gS_F (v := .ref q_1) (ws' := ([(a, .inr (12, [.ref q_1, .null, .null, .null, .int 0, .int 0, .int 0, .int 0, .int 0, .int 0, .int 0, .int 0, .int 0, .null, .int 0, .int 0, .null, .int 0, .int 0, .null, .null, .null, .null, .int 0, .int 0, .int 0, .int 0])), (q_1, .inl (E.2.1 0, 10760, .inl (fun _ => 0)))] : va_W)) C hG kX12 hmi 0 0 rfl (by decide) q1352 rfl rfl rfl rfl rfl (by show 0 < 27; decide) dX12_init_10 rfl (fun H locs hG => ?_)
  refine lv_aload_n hx hb dX12_init_13 rfl (lv_at hl 0 rfl) ?_
  refine lv_sipush (v := 10760) hx hb dX12_init_14 (by decide) ?_
  refine g_newi (x := 10760) (N' := 10760) C hG q265 (by decide) (nI_clamp (n := 10760) (by decide)) (by decide) (by decide) (by decide) dX12_init_17 (fun q_2 H hG => ?_)
  have hG : gG E A s.heap ([(a, .inr (12, [.ref q_1, .null, .null, .null, .int 0, .int 0, .int 0, .int 0, .int 0, .int 0, .int 0, .int 0, .int 0, .null, .int 0, .int 0, .null, .int 0, .int 0, .null, .null, .null, .null, .int 0, .int 0, .int 0, .int 0])), (q_1, .inl (E.2.1 0, 10760, .inl (fun _ => 0))), (q_2, .inl (E.2.1 0, 10760, .inl (fun _ => 0)))] : va_W) H _ := hG
  refine W.cs (cells' := 2) (slots' := 21520) rfl rfl ?_
  refine gS_F (v := .ref q_2) (ws' := ([(a, .inr (12, [.ref q_1, .ref q_2, .null, .null, .int 0, .int 0, .int 0, .int 0, .int 0, .int 0, .int 0, .int 0, .int 0, .null, .int 0, .int 0, .null, .int 0, .int 0, .null, .null, .null, .null, .int 0, .int 0, .int 0, .int 0])), (q_1, .inl (E.2.1 0, 10760, .inl (fun _ => 0))), (q_2, .inl (E.2.1 0, 10760, .inl (fun _ => 0)))] : va_W)) C hG kX12 hmi 0 1 rfl (by decide) q1353 rfl rfl rfl rfl rfl (by show 1 < 27; decide) dX12_init_19 rfl (fun H locs hG => ?_)
  refine lv_aload_n hx hb dX12_init_22 rfl (lv_at hl 0 rfl) ?_
  refine lv_sipush (v := 2408) hx hb dX12_init_23 (by decide) ?_
  refine g_newi (x := 2408) (N' := 2408) C hG q265 (by decide) (nI_clamp (n := 2408) (by decide)) (by decide) (by decide) (by decide) dX12_init_26 (fun q_3 H hG => ?_)
  have hG : gG E A s.heap ([(a, .inr (12, [.ref q_1, .ref q_2, .null, .null, .int 0, .int 0, .int 0, .int 0, .int 0, .int 0, .int 0, .int 0, .int 0, .null, .int 0, .int 0, .null, .int 0, .int 0, .null, .null, .null, .null, .int 0, .int 0, .int 0, .int 0])), (q_1, .inl (E.2.1 0, 10760, .inl (fun _ => 0))), (q_2, .inl (E.2.1 0, 10760, .inl (fun _ => 0))), (q_3, .inl (E.2.1 0, 2408, .inl (fun _ => 0)))] : va_W) H _ := hG
  refine W.cs (cells' := 3) (slots' := 23928) rfl rfl ?_
  refine gS_F (v := .ref q_3) (ws' := ([(a, .inr (12, [.ref q_1, .ref q_2, .ref q_3, .null, .int 0, .int 0, .int 0, .int 0, .int 0, .int 0, .int 0, .int 0, .int 0, .null, .int 0, .int 0, .null, .int 0, .int 0, .null, .null, .null, .null, .int 0, .int 0, .int 0, .int 0])), (q_1, .inl (E.2.1 0, 10760, .inl (fun _ => 0))), (q_2, .inl (E.2.1 0, 10760, .inl (fun _ => 0))), (q_3, .inl (E.2.1 0, 2408, .inl (fun _ => 0)))] : va_W)) C hG kX12 hmi 0 2 rfl (by decide) q1354 rfl rfl rfl rfl rfl (by show 2 < 27; decide) dX12_init_28 rfl (fun H locs hG => ?_)
  refine lv_aload_n hx hb dX12_init_31 rfl (lv_at hl 0 rfl) ?_
  refine lv_sipush (v := 300) hx hb dX12_init_32 (by decide) ?_
  refine g_newi (x := 300) (N' := 300) C hG q265 (by decide) (nI_clamp (n := 300) (by decide)) (by decide) (by decide) (by decide) dX12_init_35 (fun q_4 H hG => ?_)
  have hG : gG E A s.heap ([(a, .inr (12, [.ref q_1, .ref q_2, .ref q_3, .null, .int 0, .int 0, .int 0, .int 0, .int 0, .int 0, .int 0, .int 0, .int 0, .null, .int 0, .int 0, .null, .int 0, .int 0, .null, .null, .null, .null, .int 0, .int 0, .int 0, .int 0])), (q_1, .inl (E.2.1 0, 10760, .inl (fun _ => 0))), (q_2, .inl (E.2.1 0, 10760, .inl (fun _ => 0))), (q_3, .inl (E.2.1 0, 2408, .inl (fun _ => 0))), (q_4, .inl (E.2.1 0, 300, .inl (fun _ => 0)))] : va_W) H _ := hG
  refine W.cs (cells' := 4) (slots' := 24228) rfl rfl ?_
  refine gS_F (v := .ref q_4) (ws' := ([(a, .inr (12, [.ref q_1, .ref q_2, .ref q_3, .ref q_4, .int 0, .int 0, .int 0, .int 0, .int 0, .int 0, .int 0, .int 0, .int 0, .null, .int 0, .int 0, .null, .int 0, .int 0, .null, .null, .null, .null, .int 0, .int 0, .int 0, .int 0])), (q_1, .inl (E.2.1 0, 10760, .inl (fun _ => 0))), (q_2, .inl (E.2.1 0, 10760, .inl (fun _ => 0))), (q_3, .inl (E.2.1 0, 2408, .inl (fun _ => 0))), (q_4, .inl (E.2.1 0, 300, .inl (fun _ => 0)))] : va_W)) C hG kX12 hmi 0 3 rfl (by decide) q1355 rfl rfl rfl rfl rfl (by show 3 < 27; decide) dX12_init_37 rfl (fun H locs hG => ?_)
  refine lv_aload_n hx hb dX12_init_40 rfl (lv_at hl 0 rfl) ?_
  refine lv_iconst (v := (-1)) hx hb dX12_init_41 (by decide) ?_
  refine gS_f (v := .int (-1)) (ws' := ([(a, .inr (12, [.ref q_1, .ref q_2, .ref q_3, .ref q_4, .int 0, .int (-1), .int 0, .int 0, .int 0, .int 0, .int 0, .int 0, .int 0, .null, .int 0, .int 0, .null, .int 0, .int 0, .null, .null, .null, .null, .int 0, .int 0, .int 0, .int 0])), (q_1, .inl (E.2.1 0, 10760, .inl (fun _ => 0))), (q_2, .inl (E.2.1 0, 10760, .inl (fun _ => 0))), (q_3, .inl (E.2.1 0, 2408, .inl (fun _ => 0))), (q_4, .inl (E.2.1 0, 300, .inl (fun _ => 0)))] : va_W)) C hG kX12 0 5 rfl (by decide) q1357 rfl rfl rfl rfl (by show 5 < 27; decide) dX12_init_42 rfl (fun H locs hG => ?_)
  refine lv_aload_n hx hb dX12_init_45 rfl (lv_at hl 0 rfl) ?_
  refine lv_iconst (v := (-1)) hx hb dX12_init_46 (by decide) ?_
  refine gS_f (v := .int (-1)) (ws' := ([(a, .inr (12, [.ref q_1, .ref q_2, .ref q_3, .ref q_4, .int 0, .int (-1), .int (-1), .int 0, .int 0, .int 0, .int 0, .int 0, .int 0, .null, .int 0, .int 0, .null, .int 0, .int 0, .null, .null, .null, .null, .int 0, .int 0, .int 0, .int 0])), (q_1, .inl (E.2.1 0, 10760, .inl (fun _ => 0))), (q_2, .inl (E.2.1 0, 10760, .inl (fun _ => 0))), (q_3, .inl (E.2.1 0, 2408, .inl (fun _ => 0))), (q_4, .inl (E.2.1 0, 300, .inl (fun _ => 0)))] : va_W)) C hG kX12 0 6 rfl (by decide) q1358 rfl rfl rfl rfl (by show 6 < 27; decide) dX12_init_47 rfl (fun H locs hG => ?_)
  refine lv_aload_n hx hb dX12_init_50 rfl (lv_at hl 0 rfl) ?_
  refine lv_iconst (v := 3) hx hb dX12_init_51 (by decide) ?_
  refine g_newz (x := 3) (N' := 3) C hG q453 (by decide) (nI_clamp (n := 3) (by decide)) (by decide) (by decide) (by decide) dX12_init_52 (fun q_5 H hG => ?_)
  have hG : gG E A s.heap ([(a, .inr (12, [.ref q_1, .ref q_2, .ref q_3, .ref q_4, .int 0, .int (-1), .int (-1), .int 0, .int 0, .int 0, .int 0, .int 0, .int 0, .null, .int 0, .int 0, .null, .int 0, .int 0, .null, .null, .null, .null, .int 0, .int 0, .int 0, .int 0])), (q_1, .inl (E.2.1 0, 10760, .inl (fun _ => 0))), (q_2, .inl (E.2.1 0, 10760, .inl (fun _ => 0))), (q_3, .inl (E.2.1 0, 2408, .inl (fun _ => 0))), (q_4, .inl (E.2.1 0, 300, .inl (fun _ => 0))), (q_5, .inl (E.2.1 1, 3, .inl (fun _ => 0)))] : va_W) H _ := hG
  refine W.cs (cells' := 5) (slots' := 24231) rfl rfl ?_
  refine gS_F (v := .ref q_5) (ws' := ([(a, .inr (12, [.ref q_1, .ref q_2, .ref q_3, .ref q_4, .int 0, .int (-1), .int (-1), .int 0, .int 0, .int 0, .int 0, .int 0, .int 0, .ref q_5, .int 0, .int 0, .null, .int 0, .int 0, .null, .null, .null, .null, .int 0, .int 0, .int 0, .int 0])), (q_1, .inl (E.2.1 0, 10760, .inl (fun _ => 0))), (q_2, .inl (E.2.1 0, 10760, .inl (fun _ => 0))), (q_3, .inl (E.2.1 0, 2408, .inl (fun _ => 0))), (q_4, .inl (E.2.1 0, 300, .inl (fun _ => 0))), (q_5, .inl (E.2.1 1, 3, .inl (fun _ => 0)))] : va_W)) C hG kX12 hmi 0 13 rfl (by decide) q1365 rfl rfl rfl rfl rfl (by show 13 < 27; decide) dX12_init_54 rfl (fun H locs hG => ?_)
  refine lv_aload_n hx hb dX12_init_57 rfl (lv_at hl 0 rfl) ?_
  refine lv_bipush (v := 10) hx hb dX12_init_58 (by decide) ?_
  refine g_newi (x := 10) (N' := 10) C hG q265 (by decide) (nI_clamp (n := 10) (by decide)) (by decide) (by decide) (by decide) dX12_init_60 (fun q_6 H hG => ?_)
  have hG : gG E A s.heap ([(a, .inr (12, [.ref q_1, .ref q_2, .ref q_3, .ref q_4, .int 0, .int (-1), .int (-1), .int 0, .int 0, .int 0, .int 0, .int 0, .int 0, .ref q_5, .int 0, .int 0, .null, .int 0, .int 0, .null, .null, .null, .null, .int 0, .int 0, .int 0, .int 0])), (q_1, .inl (E.2.1 0, 10760, .inl (fun _ => 0))), (q_2, .inl (E.2.1 0, 10760, .inl (fun _ => 0))), (q_3, .inl (E.2.1 0, 2408, .inl (fun _ => 0))), (q_4, .inl (E.2.1 0, 300, .inl (fun _ => 0))), (q_5, .inl (E.2.1 1, 3, .inl (fun _ => 0))), (q_6, .inl (E.2.1 0, 10, .inl (fun _ => 0)))] : va_W) H _ := hG
  refine W.cs (cells' := 6) (slots' := 24241) rfl rfl ?_
  refine gS_F (v := .ref q_6) (ws' := ([(a, .inr (12, [.ref q_1, .ref q_2, .ref q_3, .ref q_4, .int 0, .int (-1), .int (-1), .int 0, .int 0, .int 0, .int 0, .int 0, .int 0, .ref q_5, .int 0, .int 0, .ref q_6, .int 0, .int 0, .null, .null, .null, .null, .int 0, .int 0, .int 0, .int 0])), (q_1, .inl (E.2.1 0, 10760, .inl (fun _ => 0))), (q_2, .inl (E.2.1 0, 10760, .inl (fun _ => 0))), (q_3, .inl (E.2.1 0, 2408, .inl (fun _ => 0))), (q_4, .inl (E.2.1 0, 300, .inl (fun _ => 0))), (q_5, .inl (E.2.1 1, 3, .inl (fun _ => 0))), (q_6, .inl (E.2.1 0, 10, .inl (fun _ => 0)))] : va_W)) C hG kX12 hmi 0 16 rfl (by decide) q1368 rfl rfl rfl rfl rfl (by show 16 < 27; decide) dX12_init_62 rfl (fun H locs hG => ?_)
  refine lv_aload_n hx hb dX12_init_65 rfl (lv_at hl 0 rfl) ?_
  refine lv_iconst (v := 3) hx hb dX12_init_66 (by decide) ?_
  refine g_newi (x := 3) (N' := 3) C hG q265 (by decide) (nI_clamp (n := 3) (by decide)) (by decide) (by decide) (by decide) dX12_init_67 (fun q_7 H hG => ?_)
  have hG : gG E A s.heap ([(a, .inr (12, [.ref q_1, .ref q_2, .ref q_3, .ref q_4, .int 0, .int (-1), .int (-1), .int 0, .int 0, .int 0, .int 0, .int 0, .int 0, .ref q_5, .int 0, .int 0, .ref q_6, .int 0, .int 0, .null, .null, .null, .null, .int 0, .int 0, .int 0, .int 0])), (q_1, .inl (E.2.1 0, 10760, .inl (fun _ => 0))), (q_2, .inl (E.2.1 0, 10760, .inl (fun _ => 0))), (q_3, .inl (E.2.1 0, 2408, .inl (fun _ => 0))), (q_4, .inl (E.2.1 0, 300, .inl (fun _ => 0))), (q_5, .inl (E.2.1 1, 3, .inl (fun _ => 0))), (q_6, .inl (E.2.1 0, 10, .inl (fun _ => 0))), (q_7, .inl (E.2.1 0, 3, .inl (fun _ => 0)))] : va_W) H _ := hG
  refine W.cs (cells' := 7) (slots' := 24244) rfl rfl ?_
  refine gS_F (v := .ref q_7) (ws' := ([(a, .inr (12, [.ref q_1, .ref q_2, .ref q_3, .ref q_4, .int 0, .int (-1), .int (-1), .int 0, .int 0, .int 0, .int 0, .int 0, .int 0, .ref q_5, .int 0, .int 0, .ref q_6, .int 0, .int 0, .ref q_7, .null, .null, .null, .int 0, .int 0, .int 0, .int 0])), (q_1, .inl (E.2.1 0, 10760, .inl (fun _ => 0))), (q_2, .inl (E.2.1 0, 10760, .inl (fun _ => 0))), (q_3, .inl (E.2.1 0, 2408, .inl (fun _ => 0))), (q_4, .inl (E.2.1 0, 300, .inl (fun _ => 0))), (q_5, .inl (E.2.1 1, 3, .inl (fun _ => 0))), (q_6, .inl (E.2.1 0, 10, .inl (fun _ => 0))), (q_7, .inl (E.2.1 0, 3, .inl (fun _ => 0)))] : va_W)) C hG kX12 hmi 0 19 rfl (by decide) q1371 rfl rfl rfl rfl rfl (by show 19 < 27; decide) dX12_init_69 rfl (fun H locs hG => ?_)
  refine lv_aload_n hx hb dX12_init_72 rfl (lv_at hl 0 rfl) ?_
  refine lv_iconst (v := 3) hx hb dX12_init_73 (by decide) ?_
  refine g_newi (x := 3) (N' := 3) C hG q265 (by decide) (nI_clamp (n := 3) (by decide)) (by decide) (by decide) (by decide) dX12_init_74 (fun q_8 H hG => ?_)
  have hG : gG E A s.heap ([(a, .inr (12, [.ref q_1, .ref q_2, .ref q_3, .ref q_4, .int 0, .int (-1), .int (-1), .int 0, .int 0, .int 0, .int 0, .int 0, .int 0, .ref q_5, .int 0, .int 0, .ref q_6, .int 0, .int 0, .ref q_7, .null, .null, .null, .int 0, .int 0, .int 0, .int 0])), (q_1, .inl (E.2.1 0, 10760, .inl (fun _ => 0))), (q_2, .inl (E.2.1 0, 10760, .inl (fun _ => 0))), (q_3, .inl (E.2.1 0, 2408, .inl (fun _ => 0))), (q_4, .inl (E.2.1 0, 300, .inl (fun _ => 0))), (q_5, .inl (E.2.1 1, 3, .inl (fun _ => 0))), (q_6, .inl (E.2.1 0, 10, .inl (fun _ => 0))), (q_7, .inl (E.2.1 0, 3, .inl (fun _ => 0))), (q_8, .inl (E.2.1 0, 3, .inl (fun _ => 0)))] : va_W) H _ := hG
  refine W.cs (cells' := 8) (slots' := 24247) rfl rfl ?_
  refine gS_F (v := .ref q_8) (ws' := ([(a, .inr (12, [.ref q_1, .ref q_2, .ref q_3, .ref q_4, .int 0, .int (-1), .int (-1), .int 0, .int 0, .int 0, .int 0, .int 0, .int 0, .ref q_5, .int 0, .int 0, .ref q_6, .int 0, .int 0, .ref q_7, .ref q_8, .null, .null, .int 0, .int 0, .int 0, .int 0])), (q_1, .inl (E.2.1 0, 10760, .inl (fun _ => 0))), (q_2, .inl (E.2.1 0, 10760, .inl (fun _ => 0))), (q_3, .inl (E.2.1 0, 2408, .inl (fun _ => 0))), (q_4, .inl (E.2.1 0, 300, .inl (fun _ => 0))), (q_5, .inl (E.2.1 1, 3, .inl (fun _ => 0))), (q_6, .inl (E.2.1 0, 10, .inl (fun _ => 0))), (q_7, .inl (E.2.1 0, 3, .inl (fun _ => 0))), (q_8, .inl (E.2.1 0, 3, .inl (fun _ => 0)))] : va_W)) C hG kX12 hmi 0 20 rfl (by decide) q1372 rfl rfl rfl rfl rfl (by show 20 < 27; decide) dX12_init_76 rfl (fun H locs hG => ?_)
  refine lv_aload_n hx hb dX12_init_79 rfl (lv_at hl 0 rfl) ?_
  refine lv_iconst (v := 3) hx hb dX12_init_80 (by decide) ?_
  refine g_newi (x := 3) (N' := 3) C hG q265 (by decide) (nI_clamp (n := 3) (by decide)) (by decide) (by decide) (by decide) dX12_init_81 (fun q_9 H hG => ?_)
  have hG : gG E A s.heap ([(a, .inr (12, [.ref q_1, .ref q_2, .ref q_3, .ref q_4, .int 0, .int (-1), .int (-1), .int 0, .int 0, .int 0, .int 0, .int 0, .int 0, .ref q_5, .int 0, .int 0, .ref q_6, .int 0, .int 0, .ref q_7, .ref q_8, .null, .null, .int 0, .int 0, .int 0, .int 0])), (q_1, .inl (E.2.1 0, 10760, .inl (fun _ => 0))), (q_2, .inl (E.2.1 0, 10760, .inl (fun _ => 0))), (q_3, .inl (E.2.1 0, 2408, .inl (fun _ => 0))), (q_4, .inl (E.2.1 0, 300, .inl (fun _ => 0))), (q_5, .inl (E.2.1 1, 3, .inl (fun _ => 0))), (q_6, .inl (E.2.1 0, 10, .inl (fun _ => 0))), (q_7, .inl (E.2.1 0, 3, .inl (fun _ => 0))), (q_8, .inl (E.2.1 0, 3, .inl (fun _ => 0))), (q_9, .inl (E.2.1 0, 3, .inl (fun _ => 0)))] : va_W) H _ := hG
  refine W.cs (cells' := 9) (slots' := 24250) rfl rfl ?_
  refine gS_F (v := .ref q_9) (ws' := ([(a, .inr (12, [.ref q_1, .ref q_2, .ref q_3, .ref q_4, .int 0, .int (-1), .int (-1), .int 0, .int 0, .int 0, .int 0, .int 0, .int 0, .ref q_5, .int 0, .int 0, .ref q_6, .int 0, .int 0, .ref q_7, .ref q_8, .ref q_9, .null, .int 0, .int 0, .int 0, .int 0])), (q_1, .inl (E.2.1 0, 10760, .inl (fun _ => 0))), (q_2, .inl (E.2.1 0, 10760, .inl (fun _ => 0))), (q_3, .inl (E.2.1 0, 2408, .inl (fun _ => 0))), (q_4, .inl (E.2.1 0, 300, .inl (fun _ => 0))), (q_5, .inl (E.2.1 1, 3, .inl (fun _ => 0))), (q_6, .inl (E.2.1 0, 10, .inl (fun _ => 0))), (q_7, .inl (E.2.1 0, 3, .inl (fun _ => 0))), (q_8, .inl (E.2.1 0, 3, .inl (fun _ => 0))), (q_9, .inl (E.2.1 0, 3, .inl (fun _ => 0)))] : va_W)) C hG kX12 hmi 0 21 rfl (by decide) q1373 rfl rfl rfl rfl rfl (by show 21 < 27; decide) dX12_init_83 rfl (fun H locs hG => ?_)
  refine lv_aload_n hx hb dX12_init_86 rfl (lv_at hl 0 rfl) ?_
  refine lv_sipush (v := 347) hx hb dX12_init_87 (by decide) ?_
  refine g_newi (x := 347) (N' := 347) C hG q265 (by decide) (nI_clamp (n := 347) (by decide)) (by decide) (by decide) (by decide) dX12_init_90 (fun q_10 H hG => ?_)
  have hG : gG E A s.heap ([(a, .inr (12, [.ref q_1, .ref q_2, .ref q_3, .ref q_4, .int 0, .int (-1), .int (-1), .int 0, .int 0, .int 0, .int 0, .int 0, .int 0, .ref q_5, .int 0, .int 0, .ref q_6, .int 0, .int 0, .ref q_7, .ref q_8, .ref q_9, .null, .int 0, .int 0, .int 0, .int 0])), (q_1, .inl (E.2.1 0, 10760, .inl (fun _ => 0))), (q_2, .inl (E.2.1 0, 10760, .inl (fun _ => 0))), (q_3, .inl (E.2.1 0, 2408, .inl (fun _ => 0))), (q_4, .inl (E.2.1 0, 300, .inl (fun _ => 0))), (q_5, .inl (E.2.1 1, 3, .inl (fun _ => 0))), (q_6, .inl (E.2.1 0, 10, .inl (fun _ => 0))), (q_7, .inl (E.2.1 0, 3, .inl (fun _ => 0))), (q_8, .inl (E.2.1 0, 3, .inl (fun _ => 0))), (q_9, .inl (E.2.1 0, 3, .inl (fun _ => 0))), (q_10, .inl (E.2.1 0, 347, .inl (fun _ => 0)))] : va_W) H _ := hG
  refine W.cs (cells' := 10) (slots' := 24597) rfl rfl ?_
  refine gS_F (v := .ref q_10) (ws' := ([(a, .inr (12, [.ref q_1, .ref q_2, .ref q_3, .ref q_4, .int 0, .int (-1), .int (-1), .int 0, .int 0, .int 0, .int 0, .int 0, .int 0, .ref q_5, .int 0, .int 0, .ref q_6, .int 0, .int 0, .ref q_7, .ref q_8, .ref q_9, .ref q_10, .int 0, .int 0, .int 0, .int 0])), (q_1, .inl (E.2.1 0, 10760, .inl (fun _ => 0))), (q_2, .inl (E.2.1 0, 10760, .inl (fun _ => 0))), (q_3, .inl (E.2.1 0, 2408, .inl (fun _ => 0))), (q_4, .inl (E.2.1 0, 300, .inl (fun _ => 0))), (q_5, .inl (E.2.1 1, 3, .inl (fun _ => 0))), (q_6, .inl (E.2.1 0, 10, .inl (fun _ => 0))), (q_7, .inl (E.2.1 0, 3, .inl (fun _ => 0))), (q_8, .inl (E.2.1 0, 3, .inl (fun _ => 0))), (q_9, .inl (E.2.1 0, 3, .inl (fun _ => 0))), (q_10, .inl (E.2.1 0, 347, .inl (fun _ => 0)))] : va_W)) C hG kX12 hmi 0 22 rfl (by decide) q1374 rfl rfl rfl rfl rfl (by show 22 < 27; decide) dX12_init_92 rfl (fun H locs hG => ?_)
  obtain ⟨ad, had⟩ : ∃ ad : Nat → Nat, ad = fun k => [a, q_1, q_2, q_3, q_4, q_5, q_6, q_7, q_8, q_9, q_10].getD k 0 := ⟨_, rfl⟩
  have hG : gG E A s.heap (rM E ad zX12_init ++ []) H locs := by rw [had]; exact hG
  have ha0 : ad 0 = a := by rw [had]; rfl
  replace hret : ∀ (w0 : RS) (H : Heap) (locs : List Loc) (pc : Nat) (ls' : Array Slot), some w0 = some res → gG E A s.heap (rM E ad w0 ++ []) H locs → decode cX12_init pc = .ok (.return_, 1) → W p l e (rmD 2 10 24597) s m args below meth c H locs 10 24597 Q (F0 m pc ls' []) := by
    intro w0 H locs pc ls' e0 hG hd; cases e0; exact hret H locs pc ls' ad ha0 (gG_nil hG) hd
  obtain ⟨mm, emm⟩ : ∃ w : RS, w = zX12_init := ⟨_, rfl⟩
  rw [← emm] at h hG
  have hl : lv_has ls 2 [(0, .ref (ad 0))] := by rw [ha0]; exact hl
  have K131 : ∀ (k : Nat), ∀  (x1 : Int32) (mm : RS) (H : Heap) (locs : List Loc) (ls : Array Slot), gG E A s.heap (rM E ad mm ++ []) H locs → lv_has ls 2 [(0, .ref (ad 0)), (1, .int x1)] → fX12_init_L131 N k x1 mm = some res → W p l e (rmD 2 10 24597) s m args below meth c H locs 10 24597 Q (F0 m 131 ls []) := by
    intro k
    induction k with
    | zero => intro x1 mm H locs ls hG hl h; exact absurd (show none = _ from h) (by simp)
    | succ k ih =>
      intro x1 mm H locs ls hG hl h
      rw [fX12_init_L131] at h
      refine lv_iload_n hx hb dX12_init_131 rfl (lv_at hl 1 rfl) ?_
      refine lv_bipush (v := 23) hx hb dX12_init_132 (by decide) ?_
      refine lv_icmp_ge (tgt := 165) hx hb dX12_init_134 (by decide) (fun c134 => ?_) (fun c134 => ?_)
      · replace h := it c134 h
        refine lv_aload_n hx hb dX12_init_165 rfl (lv_at hl 0 rfl) ?_
        refine gL_f (v := .ref (ad 1)) C hG kX12 0 0 rfl (by decide) rfl q1352 rfl dX12_init_166 ?_
        refine lv_aload_n hx hb dX12_init_169 rfl (lv_at hl 0 rfl) ?_
        refine gL_f (v := .ref (ad 2)) C hG kX12 0 1 rfl (by decide) rfl q1353 rfl dX12_init_170 ?_
        obtain ⟨r1, hcr1, h⟩ := bnd_some h
        refine gF_v (ws' := (rM E ad r1 ++ [])) C hG (pin pnil) (List.Perm.symm (pin pnil)) (gR_S (As := [.ref (ad 1), .ref (ad 2)]) (rest := []) C hz hl.1 hG (pin pnil) (c_X12_copy_12 l E ad N mm hcr1 H.size) okX12_copy q1349 rfl (Nat.le_of_ble_eq_true rfl) (by omega) ⟨Nat.le_refl _, Nat.le_refl _⟩ dX12_init_173) (fun H locs hG => ?_)
        exact hret _ _ _ _ _ h hG dX12_init_176
      · replace h := ie c134 h
        refine lv_aload_n hx hb dX12_init_137 rfl (lv_at hl 0 rfl) ?_
        refine gL_f (v := .ref (ad 1)) C hG kX12 0 0 rfl (by decide) rfl q1352 rfl dX12_init_138 ?_
        refine lv_sipush (v := 139) hx hb dX12_init_141 (by decide) ?_
        refine lv_iload_n hx hb dX12_init_144 rfl (lv_at hl 1 rfl) ?_
        refine lv_iadd hx hb dX12_init_145 ?_
        refine lv_iconst (v := (-1)) hx hb dX12_init_146 (by decide) ?_
        obtain ⟨b2, h⟩ := ck_some h
        obtain ⟨mm_3, emm_3, h⟩ := thn_some h
        refine gS_i (x := (-1)) (ws' := (rM E ad mm_3 ++ [])) C hG 1 rfl (inb_in b2) rfl dX12_init_147 (by rw [emm_3]; rfl) (fun H locs hG => ?_)
        refine lv_aload_n hx hb dX12_init_148 rfl (lv_at hl 0 rfl) ?_
        refine gL_f (v := .ref (ad 1)) C hG kX12 0 0 rfl (by decide) rfl q1352 rfl dX12_init_149 ?_
        refine lv_sipush (v := 162) hx hb dX12_init_152 (by decide) ?_
        refine lv_iload_n hx hb dX12_init_155 rfl (lv_at hl 1 rfl) ?_
        refine lv_iadd hx hb dX12_init_156 ?_
        refine lv_iload_n hx hb dX12_init_157 rfl (lv_at hl 1 rfl) ?_
        obtain ⟨b4, h⟩ := ck_some h
        obtain ⟨mm_5, emm_5, h⟩ := thn_some h
        refine gS_i (x := x1) (ws' := (rM E ad mm_5 ++ [])) C hG 1 rfl (inb_in b4) rfl dX12_init_158 (by rw [emm_5]; rfl) (fun H locs hG => ?_)
        refine lv_iinc (v := (x1 + 1)) (lv' := [(1, .int (x1 + 1)), (0, .ref (ad 0))]) hx hb dX12_init_159 hl (k := 1) rfl (congrArg (x1 + ·) (by decide : Int32.ofInt 1 = 1)) (by decide) rfl (fun ls hl => ?_)
        refine lv_goto (tgt := 131) hx hb dX12_init_162 (by decide) ?_
        exact ih (x1 + 1) mm_5 _ _ _ hG (lv_sub hl [1, 0] rfl) h
  rw [fX12_init] at h
  refine lv_aload_n hx hb dX12_init_95 rfl (lv_at hl 0 rfl) ?_
  refine gL_f (v := .ref (ad 1)) C hG kX12 0 0 rfl (by decide) rfl q1352 rfl dX12_init_96 ?_
  refine lv_iconst (v := 4) hx hb dX12_init_99 (by decide) ?_
  refine lv_sipush (v := 409) hx hb dX12_init_100 (by decide) ?_
  obtain ⟨mm_1, emm_1, h⟩ := thn_some h
  refine gS_i (x := 409) (ws' := (rM E ad mm_1 ++ [])) C hG 1 rfl (vp_in_nI (n := 4) (by decide) (by decide)) (nI_clamp (n := 4) (by decide)) dX12_init_103 (by rw [emm_1]; rfl) (fun H locs hG => ?_)
  refine lv_aload_n hx hb dX12_init_104 rfl (lv_at hl 0 rfl) ?_
  refine gL_f (v := .ref (ad 1)) C hG kX12 0 0 rfl (by decide) rfl q1352 rfl dX12_init_105 ?_
  refine lv_bipush (v := 7) hx hb dX12_init_108 (by decide) ?_
  refine lv_iconst (v := 3) hx hb dX12_init_110 (by decide) ?_
  obtain ⟨mm_2, emm_2, h⟩ := thn_some h
  refine gS_i (x := 3) (ws' := (rM E ad mm_2 ++ [])) C hG 1 rfl (vp_in_nI (n := 7) (by decide) (by decide)) (nI_clamp (n := 7) (by decide)) dX12_init_111 (by rw [emm_2]; rfl) (fun H locs hG => ?_)
  refine lv_aload_n hx hb dX12_init_112 rfl (lv_at hl 0 rfl) ?_
  refine gL_f (v := .ref (ad 1)) C hG kX12 0 0 rfl (by decide) rfl q1352 rfl dX12_init_113 ?_
  refine lv_bipush (v := 8) hx hb dX12_init_116 (by decide) ?_
  refine lv_bipush (v := 6) hx hb dX12_init_118 (by decide) ?_
  obtain ⟨mm_3, emm_3, h⟩ := thn_some h
  refine gS_i (x := 6) (ws' := (rM E ad mm_3 ++ [])) C hG 1 rfl (vp_in_nI (n := 8) (by decide) (by decide)) (nI_clamp (n := 8) (by decide)) dX12_init_120 (by rw [emm_3]; rfl) (fun H locs hG => ?_)
  refine lv_aload_n hx hb dX12_init_121 rfl (lv_at hl 0 rfl) ?_
  refine gL_f (v := .ref (ad 1)) C hG kX12 0 0 rfl (by decide) rfl q1352 rfl dX12_init_122 ?_
  refine lv_bipush (v := 9) hx hb dX12_init_125 (by decide) ?_
  refine lv_iconst (v := 4) hx hb dX12_init_127 (by decide) ?_
  obtain ⟨mm_4, emm_4, h⟩ := thn_some h
  refine gS_i (x := 4) (ws' := (rM E ad mm_4 ++ [])) C hG 1 rfl (vp_in_nI (n := 9) (by decide) (by decide)) (nI_clamp (n := 9) (by decide)) dX12_init_128 (by rw [emm_4]; rfl) (fun H locs hG => ?_)
  refine lv_iconst (v := 0) hx hb dX12_init_129 (by decide) ?_
  refine lv_istore_n (lv' := [(1, .int 0), (0, .ref (ad 0))]) hx hb dX12_init_130 rfl hl (by decide) rfl (fun ls hl => ?_)
  exact K131 N 0 mm_4 _ _ _ hG (lv_sub hl [1, 0] rfl) h
