set_option maxHeartbeats 4000000 in
set_option maxRecDepth 100000 in
theorem c_X12_isIn (l : Launch) (E : GE) (x0 : Int32) (x1 : Int32) (x2 : Int32) {res : Int32} (h : fX12_isIn x0 x1 x2 = res) : gMi l E yX12_isIn cX12_isIn 3 .boolean 1 0 0 [.int x0, .int x1, .int x2] [] [] res := by
  refine gMi_of (own := RX12) (by decide) rfl (Nat.le_of_ble_eq_true rfl) ?_
  intro p e s m args below meth c A ls Q H locs C hz hl hG hret
  have hx := C.1.1
  have hb := C.1.2.1
  have hts := C.1.2.2.2.2
  have hown := C.1.2.2.2.1
  have hl : lv_has ls 3 [(0, .int x0), (1, .int x1), (2, .int x2)] := hl
  replace hret : ∀ (r0 : Int32) (H : Heap) (locs : List Loc) (pc : Nat) (ls' : Array Slot), r0 = res → narrow .boolean (.int r0) = .int r0 → gG E A s.heap [] H locs → decode cX12_isIn pc = .ok (.ireturn, 1) → W p l e (rmD 1 0 0) s m args below meth c H locs 0 0 Q (F0 m pc ls' [.int r0]) := by
    intro r0 H locs pc ls' e0 hn; cases e0; exact hret H locs pc ls' hn
  rw [fX12_isIn] at h
  refine lv_iload_n hx hb dX12_isIn_0 rfl (lv_at hl 0 rfl) ?_
  refine lv_iload_n hx hb dX12_isIn_1 rfl (lv_at hl 1 rfl) ?_
  refine lv_icmp_lt (tgt := 14) hx hb dX12_isIn_2 (by decide) (fun c2 => ?_) (fun c2 => ?_)
  · replace h := it c2 h
    refine lv_iconst (v := 0) hx hb dX12_isIn_14 (by decide) ?_
    exact hret _ _ _ _ _ h rfl hG dX12_isIn_15
  · replace h := ie c2 h
    refine lv_iload_n hx hb dX12_isIn_5 rfl (lv_at hl 0 rfl) ?_
    refine lv_iload_n hx hb dX12_isIn_6 rfl (lv_at hl 2 rfl) ?_
    refine lv_icmp_gt (tgt := 14) hx hb dX12_isIn_7 (by decide) (fun c7 => ?_) (fun c7 => ?_)
    · replace h := it c7 h
      refine lv_iconst (v := 0) hx hb dX12_isIn_14 (by decide) ?_
      exact hret _ _ _ _ _ h rfl hG dX12_isIn_15
    · replace h := ie c7 h
      refine lv_iconst (v := 1) hx hb dX12_isIn_10 (by decide) ?_
      refine lv_goto (tgt := 15) hx hb dX12_isIn_11 (by decide) ?_
      exact hret _ _ _ _ _ h rfl hG dX12_isIn_15
set_option maxHeartbeats 4000000 in
set_option maxRecDepth 100000 in
theorem c_X12_isExtent (l : Launch) (E : GE) (x0 : Int32) {res : Int32} (h : fX12_isExtent x0 = res) : gMi l E yX12_isExtent cX12_isExtent 1 .boolean 2 0 0 [.int x0] [] [] res := by
  refine gMi_of (own := RX12) (by decide) rfl (Nat.le_of_ble_eq_true rfl) ?_
  intro p e s m args below meth c A ls Q H locs C hz hl hG hret
  have hx := C.1.1
  have hb := C.1.2.1
  have hts := C.1.2.2.2.2
  have hown := C.1.2.2.2.1
  have hl : lv_has ls 1 [(0, .int x0)] := hl
  replace hret : ∀ (r0 : Int32) (H : Heap) (locs : List Loc) (pc : Nat) (ls' : Array Slot), r0 = res → narrow .boolean (.int r0) = .int r0 → gG E A s.heap [] H locs → decode cX12_isExtent pc = .ok (.ireturn, 1) → W p l e (rmD 2 0 0) s m args below meth c H locs 0 0 Q (F0 m pc ls' [.int r0]) := by
    intro r0 H locs pc ls' e0 hn; cases e0; exact hret H locs pc ls' hn
  rw [fX12_isExtent] at h
  refine lv_iload_n hx hb dX12_isExtent_0 rfl (lv_at hl 0 rfl) ?_
  refine lv_iconst (v := 0) hx hb dX12_isExtent_1 (by decide) ?_
  refine lv_bipush (v := 9) hx hb dX12_isExtent_2 (by decide) ?_
  refine gF_i (ws' := []) C hG (List.Perm.refl _) (List.Perm.refl _) (gR_S (As := [.int x0, .int 0, .int 9]) (rest := []) C hz hl.1 hG (List.Perm.refl _) (c_X12_isIn l E x0 0 9 rfl H.size) okX12_isIn q1446 rfl (Nat.le_of_ble_eq_true rfl) (by omega) ⟨Nat.le_refl 0, Nat.le_refl 0⟩ dX12_isExtent_4) (fun H locs z1 hG => ?_)
  exact hret _ _ _ _ _ h (z1) hG dX12_isExtent_7
set_option maxHeartbeats 4000000 in
set_option maxRecDepth 100000 in
theorem c_X3_detail (l : Launch) (E : GE) (aw : Nat → Nat) (N : Nat) (x1 : Int32) (x2 : Int32) (w : RS) {res : Int32} (h : fX3_detail N x1 x2 w = some res) : gMi l E yX3_detail cX3_detail 3 .int 1 0 0 [.ref (aw 20), .int x1, .int x2] (rW E aw w ++ []) (rW E aw w ++ []) res := by
  refine gMi_of (own := RX3) (by decide) rfl (Nat.le_of_ble_eq_true rfl) ?_
  intro p e s m args below meth c A ls Q H locs C hz hl hG hret
  have hx := C.1.1
  have hb := C.1.2.1
  have hts := C.1.2.2.2.2
  have hown := C.1.2.2.2.1
  have hl : lv_has ls 3 [(0, .ref (aw 20)), (1, .int x1), (2, .int x2)] := hl
  replace hret : ∀ (r0 : Int32) (H : Heap) (locs : List Loc) (pc : Nat) (ls' : Array Slot), some r0 = some res → narrow .int (.int r0) = .int r0 → gG E A s.heap (rW E aw w ++ []) H locs → decode cX3_detail pc = .ok (.ireturn, 1) → W p l e (rmD 1 0 0) s m args below meth c H locs 0 0 Q (F0 m pc ls' [.int r0]) := by
    intro r0 H locs pc ls' e0 hn; cases e0; exact hret H locs pc ls' hn
  rw [fX3_detail] at h
  refine lv_iload_n hx hb dX3_detail_0 rfl (lv_at hl 1 rfl) ?_
  refine lv_iconst (v := (-1)) hx hb dX3_detail_1 (by decide) ?_
  refine lv_icmp_ne (tgt := 10) hx hb dX3_detail_2 (by decide) (fun c2 => ?_) (fun c2 => ?_)
  · replace h := ie c2 h
    refine lv_iload_n hx hb dX3_detail_10 rfl (lv_at hl 1 rfl) ?_
    refine lv_if_lt (tgt := 31) hx hb dX3_detail_11 (by decide) (fun c11 => ?_) (fun c11 => ?_)
    · replace h := it c11 h
      refine lv_bipush (v := (-2)) hx hb dX3_detail_31 (by decide) ?_
      exact hret _ _ _ _ _ h rfl hG dX3_detail_33
    · replace h := ie c11 h
      refine lv_iload_n hx hb dX3_detail_14 rfl (lv_at hl 1 rfl) ?_
      refine lv_aload_n hx hb dX3_detail_15 rfl (lv_at hl 0 rfl) ?_
      refine gL_f (v := .int (w 20 0)) C hG kX3 20 0 rfl (by decide) rfl q296 rfl dX3_detail_16 ?_
      refine lv_icmp_ge (tgt := 31) hx hb dX3_detail_19 (by decide) (fun c19 => ?_) (fun c19 => ?_)
      · replace h := it c19 h
        refine lv_bipush (v := (-2)) hx hb dX3_detail_31 (by decide) ?_
        exact hret _ _ _ _ _ h rfl hG dX3_detail_33
      · replace h := ie c19 h
        refine lv_iload_n hx hb dX3_detail_22 rfl (lv_at hl 2 rfl) ?_
        refine lv_if_lt (tgt := 31) hx hb dX3_detail_23 (by decide) (fun c23 => ?_) (fun c23 => ?_)
        · replace h := it c23 h
          refine lv_bipush (v := (-2)) hx hb dX3_detail_31 (by decide) ?_
          exact hret _ _ _ _ _ h rfl hG dX3_detail_33
        · replace h := ie c23 h
          refine lv_iload_n hx hb dX3_detail_26 rfl (lv_at hl 2 rfl) ?_
          refine lv_iconst (v := 1) hx hb dX3_detail_27 (by decide) ?_
          refine lv_icmp_le (tgt := 34) hx hb dX3_detail_28 (by decide) (fun c28 => ?_) (fun c28 => ?_)
          · replace h := it c28 h
            refine lv_iload_n hx hb dX3_detail_34 rfl (lv_at hl 2 rfl) ?_
            refine lv_if_ne (tgt := 47) hx hb dX3_detail_35 (by decide) (fun c35 => ?_) (fun c35 => ?_)
            · replace h := ie c35 h
              refine lv_aload_n hx hb dX3_detail_47 rfl (lv_at hl 0 rfl) ?_
              refine gL_f (v := .ref (aw 22)) C hG kX3 20 2 rfl (by decide) rfl q299 rfl dX3_detail_48 ?_
              refine lv_iload_n hx hb dX3_detail_51 rfl (lv_at hl 1 rfl) ?_
              obtain ⟨b1, h⟩ := ck_some h
              refine gL_i (v := (w 22 x1.toNatClampNeg)) C hG 22 rfl (inb_in b1) rfl dX3_detail_52 ?_
              exact hret _ _ _ _ _ h rfl hG dX3_detail_53
            · replace h := it c35 h
              refine lv_aload_n hx hb dX3_detail_38 rfl (lv_at hl 0 rfl) ?_
              refine gL_f (v := .ref (aw 21)) C hG kX3 20 1 rfl (by decide) rfl q298 rfl dX3_detail_39 ?_
              refine lv_iload_n hx hb dX3_detail_42 rfl (lv_at hl 1 rfl) ?_
              obtain ⟨b2, h⟩ := ck_some h
              refine gL_i (v := (w 21 x1.toNatClampNeg)) C hG 21 rfl (inb_in b2) rfl dX3_detail_43 ?_
              refine lv_goto (tgt := 53) hx hb dX3_detail_44 (by decide) ?_
              exact hret _ _ _ _ _ h rfl hG dX3_detail_53
          · replace h := ie c28 h
            refine lv_bipush (v := (-2)) hx hb dX3_detail_31 (by decide) ?_
            exact hret _ _ _ _ _ h rfl hG dX3_detail_33
  · replace h := it c2 h
    refine lv_aload_n hx hb dX3_detail_5 rfl (lv_at hl 0 rfl) ?_
    refine gL_f (v := .int (w 20 0)) C hG kX3 20 0 rfl (by decide) rfl q296 rfl dX3_detail_6 ?_
    exact hret _ _ _ _ _ h rfl hG dX3_detail_9
