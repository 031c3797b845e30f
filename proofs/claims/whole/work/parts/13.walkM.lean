set_option maxHeartbeats 4000000 in
set_option maxRecDepth 100000 in
theorem c_X12_copy_12 (l : Launch) (E : GE) (am : Nat → Nat) (N : Nat) (mm : RS) {res : RS} (h : fX12_copy_12 N mm = some res) : gMv l E yX12_copy cX12_copy 3 1 0 0 [.ref (am 1), .ref (am 2)] (rM E am mm ++ []) (rM E am res ++ []) := by
  refine gMv_of (own := RX12) (by decide +kernel) rfl (Nat.le_of_ble_eq_true rfl) ?_
  intro p e s m args below meth c A ls Q H locs C hz hl hG hin hret
  have hx := C.1.1
  have hb := C.1.2.1
  have hts := C.1.2.2.2.2
  have hown := C.1.2.2.2.1
  have hl : lv_has ls 3 [(0, .ref (am 1)), (1, .ref (am 2))] := hl
  replace hret : ∀ (mm0 : RS) (H : Heap) (locs : List Loc) (pc : Nat) (ls' : Array Slot), some mm0 = some res → gG E A s.heap (rM E am mm0 ++ []) H locs → decode cX12_copy pc = .ok (.return_, 1) → W p l e (rmD 1 0 0) s m args below meth c H locs 0 0 Q (F0 m pc ls' []) := by
    intro mm0 H locs pc ls' e0; cases e0; exact hret H locs pc ls'
  have K2 : ∀ (k : Nat), ∀  (x2 : Int32) (mm : RS) (H : Heap) (locs : List Loc) (ls : Array Slot), gG E A s.heap (rM E am mm ++ []) H locs → lv_has ls 3 [(0, .ref (am 1)), (1, .ref (am 2)), (2, .int x2)] → fX12_copy_12_L2 N k x2 mm = some res → W p l e (rmD 1 0 0) s m args below meth c H locs 0 0 Q (F0 m 2 ls []) := by
    intro k
    induction k with
    | zero => intro x2 mm H locs ls hG hl h; exact absurd (show none = _ from h) (by simp)
    | succ k ih =>
      intro x2 mm H locs ls hG hl h
      rw [fX12_copy_12_L2] at h
      refine lv_iload_n hx hb dX12_copy_2 rfl (lv_at hl 2 rfl) ?_
      refine lv_sipush (v := 10760) hx hb dX12_copy_3 (by decide) ?_
      refine lv_icmp_ge (tgt := 21) hx hb dX12_copy_6 (by decide) (fun c6 => ?_) (fun c6 => ?_)
      · replace h := it c6 h
        exact hret _ _ _ _ _ h hG dX12_copy_21
      · replace h := ie c6 h
        refine lv_aload_n hx hb dX12_copy_9 rfl (lv_at hl 1 rfl) ?_
        refine lv_iload_n hx hb dX12_copy_10 rfl (lv_at hl 2 rfl) ?_
        refine lv_aload_n hx hb dX12_copy_11 rfl (lv_at hl 0 rfl) ?_
        refine lv_iload_n hx hb dX12_copy_12 rfl (lv_at hl 2 rfl) ?_
        obtain ⟨b1, h⟩ := ck_some h
        refine gL_i (v := (mm 1 x2.toNatClampNeg)) C hG 1 rfl (inb_in b1) rfl dX12_copy_13 ?_
        obtain ⟨mm_2, emm_2, h⟩ := thn_some h
        refine gS_i (x := (mm 1 x2.toNatClampNeg)) (ws' := (rM E am mm_2 ++ [])) C hG 2 rfl (inb_in b1) rfl dX12_copy_14 (by rw [emm_2]; rfl) (fun H locs hG => ?_)
        refine lv_iinc (v := (x2 + 1)) (lv' := [(2, .int (x2 + 1)), (0, .ref (am 1)), (1, .ref (am 2))]) hx hb dX12_copy_15 hl (k := 2) rfl (congrArg (x2 + ·) (by decide : Int32.ofInt 1 = 1)) (by decide) rfl (fun ls hl => ?_)
        refine lv_goto (tgt := 2) hx hb dX12_copy_18 (by decide) ?_
        exact ih (x2 + 1) mm_2 _ _ _ hG (lv_sub hl [1, 2, 0] rfl) h
  rw [fX12_copy_12] at h
  refine lv_iconst (v := 0) hx hb dX12_copy_0 (by decide) ?_
  refine lv_istore_n (lv' := [(2, .int 0), (0, .ref (am 1)), (1, .ref (am 2))]) hx hb dX12_copy_1 rfl hl (by decide) rfl (fun ls hl => ?_)
  exact K2 N 0 mm _ _ _ hG (lv_sub hl [1, 2, 0] rfl) h
set_option maxHeartbeats 4000000 in
set_option maxRecDepth 100000 in
theorem c_X12_copy_21 (l : Launch) (E : GE) (am : Nat → Nat) (N : Nat) (mm : RS) {res : RS} (h : fX12_copy_21 N mm = some res) : gMv l E yX12_copy cX12_copy 3 1 0 0 [.ref (am 2), .ref (am 1)] (rM E am mm ++ []) (rM E am res ++ []) := by
  refine gMv_of (own := RX12) (by decide +kernel) rfl (Nat.le_of_ble_eq_true rfl) ?_
  intro p e s m args below meth c A ls Q H locs C hz hl hG hin hret
  have hx := C.1.1
  have hb := C.1.2.1
  have hts := C.1.2.2.2.2
  have hown := C.1.2.2.2.1
  have hl : lv_has ls 3 [(0, .ref (am 2)), (1, .ref (am 1))] := hl
  replace hret : ∀ (mm0 : RS) (H : Heap) (locs : List Loc) (pc : Nat) (ls' : Array Slot), some mm0 = some res → gG E A s.heap (rM E am mm0 ++ []) H locs → decode cX12_copy pc = .ok (.return_, 1) → W p l e (rmD 1 0 0) s m args below meth c H locs 0 0 Q (F0 m pc ls' []) := by
    intro mm0 H locs pc ls' e0; cases e0; exact hret H locs pc ls'
  have K2 : ∀ (k : Nat), ∀  (x2 : Int32) (mm : RS) (H : Heap) (locs : List Loc) (ls : Array Slot), gG E A s.heap (rM E am mm ++ []) H locs → lv_has ls 3 [(0, .ref (am 2)), (1, .ref (am 1)), (2, .int x2)] → fX12_copy_21_L2 N k x2 mm = some res → W p l e (rmD 1 0 0) s m args below meth c H locs 0 0 Q (F0 m 2 ls []) := by
    intro k
    induction k with
    | zero => intro x2 mm H locs ls hG hl h; exact absurd (show none = _ from h) (by simp)
    | succ k ih =>
      intro x2 mm H locs ls hG hl h
      rw [fX12_copy_21_L2] at h
      refine lv_iload_n hx hb dX12_copy_2 rfl (lv_at hl 2 rfl) ?_
      refine lv_sipush (v := 10760) hx hb dX12_copy_3 (by decide) ?_
      refine lv_icmp_ge (tgt := 21) hx hb dX12_copy_6 (by decide) (fun c6 => ?_) (fun c6 => ?_)
      · replace h := it c6 h
        exact hret _ _ _ _ _ h hG dX12_copy_21
      · replace h := ie c6 h
        refine lv_aload_n hx hb dX12_copy_9 rfl (lv_at hl 1 rfl) ?_
        refine lv_iload_n hx hb dX12_copy_10 rfl (lv_at hl 2 rfl) ?_
        refine lv_aload_n hx hb dX12_copy_11 rfl (lv_at hl 0 rfl) ?_
        refine lv_iload_n hx hb dX12_copy_12 rfl (lv_at hl 2 rfl) ?_
        obtain ⟨b1, h⟩ := ck_some h
        refine gL_i (v := (mm 2 x2.toNatClampNeg)) C hG 2 rfl (inb_in b1) rfl dX12_copy_13 ?_
        obtain ⟨mm_2, emm_2, h⟩ := thn_some h
        refine gS_i (x := (mm 2 x2.toNatClampNeg)) (ws' := (rM E am mm_2 ++ [])) C hG 1 rfl (inb_in b1) rfl dX12_copy_14 (by rw [emm_2]; rfl) (fun H locs hG => ?_)
        refine lv_iinc (v := (x2 + 1)) (lv' := [(2, .int (x2 + 1)), (0, .ref (am 2)), (1, .ref (am 1))]) hx hb dX12_copy_15 hl (k := 2) rfl (congrArg (x2 + ·) (by decide : Int32.ofInt 1 = 1)) (by decide) rfl (fun ls hl => ?_)
        refine lv_goto (tgt := 2) hx hb dX12_copy_18 (by decide) ?_
        exact ih (x2 + 1) mm_2 _ _ _ hG (lv_sub hl [1, 2, 0] rfl) h
  rw [fX12_copy_21] at h
  refine lv_iconst (v := 0) hx hb dX12_copy_0 (by decide) ?_
  refine lv_istore_n (lv' := [(2, .int 0), (0, .ref (am 2)), (1, .ref (am 1))]) hx hb dX12_copy_1 rfl hl (by decide) rfl (fun ls hl => ?_)
  exact K2 N 0 mm _ _ _ hG (lv_sub hl [1, 2, 0] rfl) h
set_option maxHeartbeats 4000000 in
set_option maxRecDepth 100000 in
theorem c_X12_isIn (l : Launch) (E : GE) (x0 : Int32) (x1 : Int32) (x2 : Int32) {res : Int32} (h : fX12_isIn x0 x1 x2 = res) : gMi l E yX12_isIn cX12_isIn 3 .boolean 1 0 0 [.int x0, .int x1, .int x2] [] [] res := by
  refine gMi_of (own := RX12) (by decide +kernel) rfl (Nat.le_of_ble_eq_true rfl) ?_
  intro p e s m args below meth c A ls Q H locs C hz hl hG hret
  have hx := C.1.1
  have hb := C.1.2.1
  have hts := C.1.2.2.2.2
  have hown := C.1.2.2.2.1
  have hl : lv_has ls 3 [(0, .int x0), (1, .int x1), (2, .int x2)] := hl
  replace hret : ∀ (r0 : Int32) (H : Heap) (locs : List Loc) (pc : Nat) (ls' : Array Slot), r0 = res → narrow .boolean (.int r0) = .int r0 → gG E A s.heap [] H locs → decode cX12_isIn pc = .ok (.ireturn, 1) → W p l e (rmD 1 0 0) s m args below meth c H locs 0 0 Q (F0 m pc ls' [.int r0]) := by
    intro r0 H locs pc ls' e0 hn; cases e0; exact hret H locs pc ls' hn
  rw [fX12_isIn] at h
  refine lv_iload_n hx hb dX12_isIn_0 rfl (lv_at hl 0 rfl) ?_
  refine lv_iload_n hx hb dX12_isIn_1 rfl (lv_at hl 1 rfl) ?_
  refine lv_icmp_lt (tgt := 14) hx hb dX12_isIn_2 (by decide) (fun c2 => ?_) (fun c2 => ?_)
  · replace h := it c2 h
    refine lv_iconst (v := 0) hx hb dX12_isIn_14 (by decide) ?_
    exact hret _ _ _ _ _ h rfl hG dX12_isIn_15
  · replace h := ie c2 h
    refine lv_iload_n hx hb dX12_isIn_5 rfl (lv_at hl 0 rfl) ?_
    refine lv_iload_n hx hb dX12_isIn_6 rfl (lv_at hl 2 rfl) ?_
    refine lv_icmp_gt (tgt := 14) hx hb dX12_isIn_7 (by decide) (fun c7 => ?_) (fun c7 => ?_)
    · replace h := it c7 h
      refine lv_iconst (v := 0) hx hb dX12_isIn_14 (by decide) ?_
      exact hret _ _ _ _ _ h rfl hG dX12_isIn_15
    · replace h := ie c7 h
      refine lv_iconst (v := 1) hx hb dX12_isIn_10 (by decide) ?_
      refine lv_goto (tgt := 15) hx hb dX12_isIn_11 (by decide) ?_
      exact hret _ _ _ _ _ h rfl hG dX12_isIn_15
set_option maxHeartbeats 4000000 in
set_option maxRecDepth 100000 in
theorem c_X12_isExtent (l : Launch) (E : GE) (x0 : Int32) {res : Int32} (h : fX12_isExtent x0 = res) : gMi l E yX12_isExtent cX12_isExtent 1 .boolean 2 0 0 [.int x0] [] [] res := by
  refine gMi_of (own := RX12) (by decide +kernel) rfl (Nat.le_of_ble_eq_true rfl) ?_
  intro p e s m args below meth c A ls Q H locs C hz hl hG hret
  have hx := C.1.1
  have hb := C.1.2.1
  have hts := C.1.2.2.2.2
  have hown := C.1.2.2.2.1
  have hl : lv_has ls 1 [(0, .int x0)] := hl
  replace hret : ∀ (r0 : Int32) (H : Heap) (locs : List Loc) (pc : Nat) (ls' : Array Slot), r0 = res → narrow .boolean (.int r0) = .int r0 → gG E A s.heap [] H locs → decode cX12_isExtent pc = .ok (.ireturn, 1) → W p l e (rmD 2 0 0) s m args below meth c H locs 0 0 Q (F0 m pc ls' [.int r0]) := by
    intro r0 H locs pc ls' e0 hn; cases e0; exact hret H locs pc ls' hn
  rw [fX12_isExtent] at h
  refine lv_iload_n hx hb dX12_isExtent_0 rfl (lv_at hl 0 rfl) ?_
  refine lv_iconst (v := 0) hx hb dX12_isExtent_1 (by decide) ?_
  refine lv_bipush (v := 9) hx hb dX12_isExtent_2 (by decide) ?_
  refine gF_i (ws' := []) C hG pst pst.symm (gR_S (As := [.int x0, .int 0, .int 9]) (rest := []) C hz hl.1 hG pst (c_X12_isIn l E x0 0 9 rfl H.size) okX12_isIn q1446 rfl (Nat.le_of_ble_eq_true rfl) (by omega) ⟨Nat.le_refl _, Nat.le_refl _⟩ dX12_isExtent_4) (fun H locs z1 hG => ?_)
  exact hret _ _ _ _ _ h (z1) hG dX12_isExtent_7
set_option maxHeartbeats 4000000 in
set_option maxRecDepth 100000 in
theorem c_X12_has (l : Launch) (E : GE) (x0 : Int32) (x1 : Int32) {res : Int32} (h : fX12_has x0 x1 = res) : gMi l E yX12_has cX12_has 2 .boolean 1 0 0 [.int x0, .int x1] [] [] res := by
  refine gMi_of (own := RX12) (by decide +kernel) rfl (Nat.le_of_ble_eq_true rfl) ?_
  intro p e s m args below meth c A ls Q H locs C hz hl hG hret
  have hx := C.1.1
  have hb := C.1.2.1
  have hts := C.1.2.2.2.2
  have hown := C.1.2.2.2.1
  have hl : lv_has ls 2 [(0, .int x0), (1, .int x1)] := hl
  replace hret : ∀ (r0 : Int32) (H : Heap) (locs : List Loc) (pc : Nat) (ls' : Array Slot), r0 = res → narrow .boolean (.int r0) = .int r0 → gG E A s.heap [] H locs → decode cX12_has pc = .ok (.ireturn, 1) → W p l e (rmD 1 0 0) s m args below meth c H locs 0 0 Q (F0 m pc ls' [.int r0]) := by
    intro r0 H locs pc ls' e0 hn; cases e0; exact hret H locs pc ls' hn
  rw [fX12_has] at h
  refine lv_iload_n hx hb dX12_has_0 rfl (lv_at hl 0 rfl) ?_
  refine lv_iload_n hx hb dX12_has_1 rfl (lv_at hl 1 rfl) ?_
  refine lv_ishr hx hb dX12_has_2 ?_
  refine lv_iconst (v := 1) hx hb dX12_has_3 (by decide) ?_
  refine lv_iand hx hb dX12_has_4 ?_
  refine lv_iconst (v := 1) hx hb dX12_has_5 (by decide) ?_
  refine lv_icmp_ne (tgt := 13) hx hb dX12_has_6 (by decide) (fun c6 => ?_) (fun c6 => ?_)
  · replace h := ie c6 h
    refine lv_iconst (v := 0) hx hb dX12_has_13 (by decide) ?_
    exact hret _ _ _ _ _ h rfl hG dX12_has_14
  · replace h := it c6 h
    refine lv_iconst (v := 1) hx hb dX12_has_9 (by decide) ?_
    refine lv_goto (tgt := 14) hx hb dX12_has_10 (by decide) ?_
    exact hret _ _ _ _ _ h rfl hG dX12_has_14
set_option maxHeartbeats 4000000 in
set_option maxRecDepth 100000 in
theorem c_X12_bitsOf (l : Launch) (E : GE) (N : Nat) (x0 : Int32) {res : Int32} (h : fX12_bitsOf N x0 = some res) : gMi l E yX12_bitsOf cX12_bitsOf 3 .int 1 0 0 [.int x0] [] [] res := by
  refine gMi_of (own := RX12) (by decide +kernel) rfl (Nat.le_of_ble_eq_true rfl) ?_
  intro p e s m args below meth c A ls Q H locs C hz hl hG hret
  have hx := C.1.1
  have hb := C.1.2.1
  have hts := C.1.2.2.2.2
  have hown := C.1.2.2.2.1
  have hl : lv_has ls 3 [(0, .int x0)] := hl
  replace hret : ∀ (r0 : Int32) (H : Heap) (locs : List Loc) (pc : Nat) (ls' : Array Slot), some r0 = some res → narrow .int (.int r0) = .int r0 → gG E A s.heap [] H locs → decode cX12_bitsOf pc = .ok (.ireturn, 1) → W p l e (rmD 1 0 0) s m args below meth c H locs 0 0 Q (F0 m pc ls' [.int r0]) := by
    intro r0 H locs pc ls' e0 hn; cases e0; exact hret H locs pc ls' hn
  have K4 : ∀ (k : Nat), ∀  (x1 : Int32) (x2 : Int32) (H : Heap) (locs : List Loc) (ls : Array Slot), gG E A s.heap [] H locs → lv_has ls 3 [(1, .int x1), (2, .int x2)] → fX12_bitsOf_L4 N x0 k x1 x2 = some res → W p l e (rmD 1 0 0) s m args below meth c H locs 0 0 Q (F0 m 4 ls []) := by
    intro k
    induction k with
    | zero => intro x1 x2 H locs ls hG hl h; exact absurd (show none = _ from h) (by simp)
    | succ k ih =>
      intro x1 x2 H locs ls hG hl h
      rw [fX12_bitsOf_L4] at h
      refine lv_iload_n hx hb dX12_bitsOf_4 rfl (lv_at hl 1 rfl) ?_
      refine lv_if_eq (tgt := 20) hx hb dX12_bitsOf_5 (by decide) (fun c5 => ?_) (fun c5 => ?_)
      · replace h := it c5 h
        refine lv_iload_n hx hb dX12_bitsOf_20 rfl (lv_at hl 0 rfl) ?_
        exact hret _ _ _ _ _ h rfl hG dX12_bitsOf_21
      · replace h := ie c5 h
        refine lv_iinc (v := (x1 + 1)) (lv' := [(1, .int (x1 + 1)), (2, .int x2)]) hx hb dX12_bitsOf_8 hl (k := 0) rfl (congrArg (x1 + ·) (by decide : Int32.ofInt 1 = 1)) (by decide) rfl (fun ls hl => ?_)
        refine lv_iload_n hx hb dX12_bitsOf_11 rfl (lv_at hl 1 rfl) ?_
        refine lv_iload_n hx hb dX12_bitsOf_12 rfl (lv_at hl 1 rfl) ?_
        refine lv_iconst (v := 1) hx hb dX12_bitsOf_13 (by decide) ?_
        refine lv_isub hx hb dX12_bitsOf_14 ?_
        refine lv_iand hx hb dX12_bitsOf_15 ?_
        obtain ⟨x2_1, ex2_1, h⟩ := thn_some h
        refine g_int ex2_1 ?_
        refine lv_istore_n (lv' := [(2, .int x2_1), (1, .int (x1 + 1))]) hx hb dX12_bitsOf_16 rfl hl (by decide) rfl (fun ls hl => ?_)
        refine lv_goto (tgt := 4) hx hb dX12_bitsOf_17 (by decide) ?_
        exact ih (x1 + 1) x2_1 _ _ _ hG (lv_sub hl [1, 0] rfl) h
  rw [fX12_bitsOf] at h
  refine lv_iconst (v := 0) hx hb dX12_bitsOf_0 (by decide) ?_
  refine lv_istore_n (lv' := [(1, .int 0), (0, .int x0)]) hx hb dX12_bitsOf_1 rfl hl (by decide) rfl (fun ls hl => ?_)
  refine lv_iload_n hx hb dX12_bitsOf_2 rfl (lv_at hl 1 rfl) ?_
  refine lv_istore_n (lv' := [(2, .int x0), (1, .int 0), (0, .int x0)]) hx hb dX12_bitsOf_3 rfl hl (by decide) rfl (fun ls hl => ?_)
  exact K4 N 0 x0 _ _ _ hG (lv_sub hl [1, 0] rfl) h
set_option maxHeartbeats 4000000 in
set_option maxRecDepth 100000 in
theorem c_X12_sizeOf (l : Launch) (E : GE) (x0 : Int32) {res : Int32} (h : fX12_sizeOf x0 = res) : gMi l E yX12_sizeOf cX12_sizeOf 1 .int 1 0 0 [.int x0] [] [] res := by
  refine gMi_of (own := RX12) (by decide +kernel) rfl (Nat.le_of_ble_eq_true rfl) ?_
  intro p e s m args below meth c A ls Q H locs C hz hl hG hret
  have hx := C.1.1
  have hb := C.1.2.1
  have hts := C.1.2.2.2.2
  have hown := C.1.2.2.2.1
  have hl : lv_has ls 1 [(0, .int x0)] := hl
  replace hret : ∀ (r0 : Int32) (H : Heap) (locs : List Loc) (pc : Nat) (ls' : Array Slot), r0 = res → narrow .int (.int r0) = .int r0 → gG E A s.heap [] H locs → decode cX12_sizeOf pc = .ok (.ireturn, 1) → W p l e (rmD 1 0 0) s m args below meth c H locs 0 0 Q (F0 m pc ls' [.int r0]) := by
    intro r0 H locs pc ls' e0 hn; cases e0; exact hret H locs pc ls' hn
  rw [fX12_sizeOf] at h
  refine lv_iload_n hx hb dX12_sizeOf_0 rfl (lv_at hl 0 rfl) ?_
  refine lv_iconst (v := 4) hx hb dX12_sizeOf_1 (by decide) ?_
  refine lv_irem hx hb dX12_sizeOf_2 (by decide) ?_
  refine g_int (v := (irem x0 4)) rfl ?_
  refine lv_iconst (v := 1) hx hb dX12_sizeOf_3 (by decide) ?_
  refine lv_iadd hx hb dX12_sizeOf_4 ?_
  exact hret _ _ _ _ _ h rfl hG dX12_sizeOf_5
set_option maxHeartbeats 4000000 in
set_option maxRecDepth 100000 in
theorem c_X12_firstOf (l : Launch) (E : GE) (x0 : Int32) {res : Int32} (h : fX12_firstOf x0 = res) : gMi l E yX12_firstOf cX12_firstOf 1 .int 1 0 0 [.int x0] [] [] res := by
  refine gMi_of (own := RX12) (by decide +kernel) rfl (Nat.le_of_ble_eq_true rfl) ?_
  intro p e s m args below meth c A ls Q H locs C hz hl hG hret
  have hx := C.1.1
  have hb := C.1.2.1
  have hts := C.1.2.2.2.2
  have hown := C.1.2.2.2.1
  have hl : lv_has ls 1 [(0, .int x0)] := hl
  replace hret : ∀ (r0 : Int32) (H : Heap) (locs : List Loc) (pc : Nat) (ls' : Array Slot), r0 = res → narrow .int (.int r0) = .int r0 → gG E A s.heap [] H locs → decode cX12_firstOf pc = .ok (.ireturn, 1) → W p l e (rmD 1 0 0) s m args below meth c H locs 0 0 Q (F0 m pc ls' [.int r0]) := by
    intro r0 H locs pc ls' e0 hn; cases e0; exact hret H locs pc ls' hn
  rw [fX12_firstOf] at h
  refine lv_bipush (v := 10) hx hb dX12_firstOf_0 (by decide) ?_
  refine lv_iload_n hx hb dX12_firstOf_2 rfl (lv_at hl 0 rfl) ?_
  refine lv_iconst (v := 4) hx hb dX12_firstOf_3 (by decide) ?_
  refine lv_idiv hx hb dX12_firstOf_4 (by decide) ?_
  refine lv_imul hx hb dX12_firstOf_5 ?_
  refine lv_iload_n hx hb dX12_firstOf_6 rfl (lv_at hl 0 rfl) ?_
  refine lv_iconst (v := 4) hx hb dX12_firstOf_7 (by decide) ?_
  refine lv_irem hx hb dX12_firstOf_8 (by decide) ?_
  refine g_int (v := (irem x0 4)) rfl ?_
  refine lv_iload_n hx hb dX12_firstOf_9 rfl (lv_at hl 0 rfl) ?_
  refine lv_iconst (v := 4) hx hb dX12_firstOf_10 (by decide) ?_
  refine lv_irem hx hb dX12_firstOf_11 (by decide) ?_
  refine g_int (v := (irem x0 4)) rfl ?_
  refine lv_iconst (v := 1) hx hb dX12_firstOf_12 (by decide) ?_
  refine lv_iadd hx hb dX12_firstOf_13 ?_
  refine lv_imul hx hb dX12_firstOf_14 ?_
  refine lv_iconst (v := 2) hx hb dX12_firstOf_15 (by decide) ?_
  refine lv_idiv hx hb dX12_firstOf_16 (by decide) ?_
  refine lv_iadd hx hb dX12_firstOf_17 ?_
  exact hret _ _ _ _ _ h rfl hG dX12_firstOf_18
set_option maxHeartbeats 4000000 in
set_option maxRecDepth 100000 in
theorem c_X12_isBlock (l : Launch) (E : GE) (x0 : Int32) (x1 : Int32) {res : Int32} (h : fX12_isBlock x0 x1 = res) : gMi l E yX12_isBlock cX12_isBlock 2 .boolean 3 0 0 [.int x0, .int x1] [] [] res := by
  refine gMi_of (own := RX12) (by decide +kernel) rfl (Nat.le_of_ble_eq_true rfl) ?_
  intro p e s m args below meth c A ls Q H locs C hz hl hG hret
  have hx := C.1.1
  have hb := C.1.2.1
  have hts := C.1.2.2.2.2
  have hown := C.1.2.2.2.1
  have hl : lv_has ls 2 [(0, .int x0), (1, .int x1)] := hl
  replace hret : ∀ (r0 : Int32) (H : Heap) (locs : List Loc) (pc : Nat) (ls' : Array Slot), r0 = res → narrow .boolean (.int r0) = .int r0 → gG E A s.heap [] H locs → decode cX12_isBlock pc = .ok (.ireturn, 1) → W p l e (rmD 3 0 0) s m args below meth c H locs 0 0 Q (F0 m pc ls' [.int r0]) := by
    intro r0 H locs pc ls' e0 hn; cases e0; exact hret H locs pc ls' hn
  rw [fX12_isBlock] at h
  refine lv_iload_n hx hb dX12_isBlock_0 rfl (lv_at hl 0 rfl) ?_
  refine gF_i (ws' := []) C hG pst pst.symm (gR_S (As := [.int x0]) (rest := []) C hz hl.1 hG pst (c_X12_isExtent l E x0 rfl H.size) okX12_isExtent q1533 rfl (Nat.le_of_ble_eq_true rfl) (by omega) ⟨Nat.le_refl _, Nat.le_refl _⟩ dX12_isBlock_1) (fun H locs z1 hG => ?_)
  refine lv_if_eq (tgt := 25) hx hb dX12_isBlock_4 (by decide) (fun c4 => ?_) (fun c4 => ?_)
  · replace h := it c4 h
    refine lv_iconst (v := 0) hx hb dX12_isBlock_25 (by decide) ?_
    exact hret _ _ _ _ _ h rfl hG dX12_isBlock_26
  · replace h := ie c4 h
    refine lv_iload_n hx hb dX12_isBlock_7 rfl (lv_at hl 1 rfl) ?_
    refine lv_iconst (v := 0) hx hb dX12_isBlock_8 (by decide) ?_
    refine lv_iload_n hx hb dX12_isBlock_9 rfl (lv_at hl 0 rfl) ?_
    refine gF_i (ws' := []) C hG pst pst.symm (gR_S (As := [.int x0]) (rest := [.int 0, .int x1]) C hz hl.1 hG pst (c_X12_sizeOf l E x0 rfl H.size) okX12_sizeOf q1536 rfl (Nat.le_of_ble_eq_true rfl) (by omega) ⟨Nat.le_refl _, Nat.le_refl _⟩ dX12_isBlock_10) (fun H locs _ hG => ?_)
    refine lv_iconst (v := 1) hx hb dX12_isBlock_13 (by decide) ?_
    refine lv_isub hx hb dX12_isBlock_14 ?_
    refine gF_i (ws' := []) C hG pst pst.symm (gR_S (As := [.int x1, .int 0, .int ((fX12_sizeOf x0) - 1)]) (rest := []) C hz hl.1 hG pst (c_X12_isIn l E x1 0 ((fX12_sizeOf x0) - 1) rfl H.size) okX12_isIn q1446 rfl (Nat.le_of_ble_eq_true rfl) (by omega) ⟨Nat.le_refl _, Nat.le_refl _⟩ dX12_isBlock_15) (fun H locs z2 hG => ?_)
    refine lv_if_eq (tgt := 25) hx hb dX12_isBlock_18 (by decide) (fun c18 => ?_) (fun c18 => ?_)
    · replace h := it c18 h
      refine lv_iconst (v := 0) hx hb dX12_isBlock_25 (by decide) ?_
      exact hret _ _ _ _ _ h rfl hG dX12_isBlock_26
    · replace h := ie c18 h
      refine lv_iconst (v := 1) hx hb dX12_isBlock_21 (by decide) ?_
      refine lv_goto (tgt := 26) hx hb dX12_isBlock_22 (by decide) ?_
      exact hret _ _ _ _ _ h rfl hG dX12_isBlock_26
set_option maxHeartbeats 4000000 in
set_option maxRecDepth 100000 in
theorem c_X12_isFast (l : Launch) (E : GE) (am : Nat → Nat) (N : Nat) (x1 : Int32) (mm : RS) {res : Int32} (h : fX12_isFast N x1 mm = some res) : gMi l E yX12_isFast cX12_isFast 2 .boolean 1 0 0 [.ref (am 0), .int x1] (rM E am mm ++ []) (rM E am mm ++ []) res := by
  refine gMi_of (own := RX12) (by decide +kernel) rfl (Nat.le_of_ble_eq_true rfl) ?_
  intro p e s m args below meth c A ls Q H locs C hz hl hG hret
  have hx := C.1.1
  have hb := C.1.2.1
  have hts := C.1.2.2.2.2
  have hown := C.1.2.2.2.1
  have hl : lv_has ls 2 [(0, .ref (am 0)), (1, .int x1)] := hl
  replace hret : ∀ (r0 : Int32) (H : Heap) (locs : List Loc) (pc : Nat) (ls' : Array Slot), some r0 = some res → narrow .boolean (.int r0) = .int r0 → gG E A s.heap (rM E am mm ++ []) H locs → decode cX12_isFast pc = .ok (.ireturn, 1) → W p l e (rmD 1 0 0) s m args below meth c H locs 0 0 Q (F0 m pc ls' [.int r0]) := by
    intro r0 H locs pc ls' e0 hn; cases e0; exact hret H locs pc ls' hn
  rw [fX12_isFast] at h
  refine lv_aload_n hx hb dX12_isFast_0 rfl (lv_at hl 0 rfl) ?_
  refine gL_f (v := .ref (am 1)) C hG kX12 0 0 rfl (by decide) rfl q1352 rfl dX12_isFast_1 ?_
  refine lv_bipush (v := 109) hx hb dX12_isFast_4 (by decide) ?_
  refine lv_iload_n hx hb dX12_isFast_6 rfl (lv_at hl 1 rfl) ?_
  refine lv_iadd hx hb dX12_isFast_7 ?_
  obtain ⟨b1, h⟩ := ck_some h
  refine gL_i (v := (mm 1 (109 + x1).toNatClampNeg)) C hG 1 rfl (inb_in b1) rfl dX12_isFast_8 ?_
  refine lv_iconst (v := 1) hx hb dX12_isFast_9 (by decide) ?_
  refine lv_icmp_ne (tgt := 17) hx hb dX12_isFast_10 (by decide) (fun c10 => ?_) (fun c10 => ?_)
  · replace h := ie c10 h
    refine lv_iconst (v := 0) hx hb dX12_isFast_17 (by decide) ?_
    exact hret _ _ _ _ _ h rfl hG dX12_isFast_18
  · replace h := it c10 h
    refine lv_iconst (v := 1) hx hb dX12_isFast_13 (by decide) ?_
    refine lv_goto (tgt := 18) hx hb dX12_isFast_14 (by decide) ?_
    exact hret _ _ _ _ _ h rfl hG dX12_isFast_18
set_option maxHeartbeats 4000000 in
set_option maxRecDepth 100000 in
theorem c_X12_slotOf (l : Launch) (E : GE) (am : Nat → Nat) (N : Nat) (x1 : Int32) (x2 : Int32) (mm : RS) {res : Int32} (h : fX12_slotOf N x1 x2 mm = some res) : gMi l E yX12_slotOf cX12_slotOf 3 .int 2 0 0 [.ref (am 0), .int x1, .int x2] (rM E am mm ++ []) (rM E am mm ++ []) res := by
  refine gMi_of (own := RX12) (by decide +kernel) rfl (Nat.le_of_ble_eq_true rfl) ?_
  intro p e s m args below meth c A ls Q H locs C hz hl hG hret
  have hx := C.1.1
  have hb := C.1.2.1
  have hts := C.1.2.2.2.2
  have hown := C.1.2.2.2.1
  have hl : lv_has ls 3 [(0, .ref (am 0)), (1, .int x1), (2, .int x2)] := hl
  replace hret : ∀ (r0 : Int32) (H : Heap) (locs : List Loc) (pc : Nat) (ls' : Array Slot), some r0 = some res → narrow .int (.int r0) = .int r0 → gG E A s.heap (rM E am mm ++ []) H locs → decode cX12_slotOf pc = .ok (.ireturn, 1) → W p l e (rmD 2 0 0) s m args below meth c H locs 0 0 Q (F0 m pc ls' [.int r0]) := by
    intro r0 H locs pc ls' e0 hn; cases e0; exact hret H locs pc ls' hn
  rw [fX12_slotOf] at h
  refine lv_aload_n hx hb dX12_slotOf_0 rfl (lv_at hl 0 rfl) ?_
  refine gL_f (v := .ref (am 1)) C hG kX12 0 0 rfl (by decide) rfl q1352 rfl dX12_slotOf_1 ?_
  refine lv_sipush (v := 139) hx hb dX12_slotOf_4 (by decide) ?_
  refine lv_iload_n hx hb dX12_slotOf_7 rfl (lv_at hl 1 rfl) ?_
  refine gF_i (ws' := (rM E am mm ++ [])) C hG pst pst.symm (gR_S (As := [.int x1]) (rest := [.int 139, .ref (am 1)]) C hz hl.1 hG pst (c_X12_firstOf l E x1 rfl H.size) okX12_firstOf q1555 rfl (Nat.le_of_ble_eq_true rfl) (by omega) ⟨Nat.le_refl _, Nat.le_refl _⟩ dX12_slotOf_8) (fun H locs _ hG => ?_)
  refine lv_iadd hx hb dX12_slotOf_11 ?_
  refine lv_iload_n hx hb dX12_slotOf_12 rfl (lv_at hl 2 rfl) ?_
  refine lv_iadd hx hb dX12_slotOf_13 ?_
  obtain ⟨b1, h⟩ := ck_some h
  refine gL_i (v := (mm 1 ((139 + (fX12_firstOf x1)) + x2).toNatClampNeg)) C hG 1 rfl (inb_in b1) rfl dX12_slotOf_14 ?_
  exact hret _ _ _ _ _ h rfl hG dX12_slotOf_15
set_option maxHeartbeats 4000000 in
set_option maxRecDepth 100000 in
theorem c_X12_four (l : Launch) (E : GE) (am : Nat → Nat) (N : Nat) (x1 : Int32) (mm : RS) {res : RS} (h : fX12_four N x1 mm = some res) : gMv l E yX12_four cX12_four 3 1 0 0 [.ref (am 0), .int x1] (rM E am mm ++ []) (rM E am res ++ []) := by
  refine gMv_of (own := RX12) (by decide +kernel) rfl (Nat.le_of_ble_eq_true rfl) ?_
  intro p e s m args below meth c A ls Q H locs C hz hl hG hin hret
  have hx := C.1.1
  have hb := C.1.2.1
  have hts := C.1.2.2.2.2
  have hown := C.1.2.2.2.1
  have hl : lv_has ls 3 [(0, .ref (am 0)), (1, .int x1)] := hl
  replace hret : ∀ (mm0 : RS) (H : Heap) (locs : List Loc) (pc : Nat) (ls' : Array Slot), some mm0 = some res → gG E A s.heap (rM E am mm0 ++ []) H locs → decode cX12_four pc = .ok (.return_, 1) → W p l e (rmD 1 0 0) s m args below meth c H locs 0 0 Q (F0 m pc ls' []) := by
    intro mm0 H locs pc ls' e0; cases e0; exact hret H locs pc ls'
  have K3 : ∀ (k : Nat), ∀  (x2 : Int32) (mm : RS) (H : Heap) (locs : List Loc) (ls : Array Slot), gG E A s.heap (rM E am mm ++ []) H locs → lv_has ls 3 [(0, .ref (am 0)), (1, .int x1), (2, .int x2)] → fX12_four_L3 N x1 k x2 mm = some res → W p l e (rmD 1 0 0) s m args below meth c H locs 0 0 Q (F0 m 3 ls []) := by
    intro k
    induction k with
    | zero => intro x2 mm H locs ls hG hl h; exact absurd (show none = _ from h) (by simp)
    | succ k ih =>
      intro x2 mm H locs ls hG hl h
      rw [fX12_four_L3] at h
      refine lv_iload_n hx hb dX12_four_3 rfl (lv_at hl 2 rfl) ?_
      refine lv_if_lt (tgt := 39) hx hb dX12_four_4 (by decide) (fun c4 => ?_) (fun c4 => ?_)
      · replace h := it c4 h
        exact hret _ _ _ _ _ h hG dX12_four_39
      · replace h := ie c4 h
        refine lv_aload_n hx hb dX12_four_7 rfl (lv_at hl 0 rfl) ?_
        refine gL_f (v := .ref (am 4)) C hG kX12 0 3 rfl (by decide) rfl q1355 rfl dX12_four_8 ?_
        refine lv_aload_n hx hb dX12_four_11 rfl (lv_at hl 0 rfl) ?_
        refine gL_f (v := .int (mm 0 4)) C hG kX12 0 4 rfl (by decide) rfl q1356 rfl dX12_four_12 ?_
        refine lv_iload_n hx hb dX12_four_15 rfl (lv_at hl 1 rfl) ?_
        refine lv_iload_n hx hb dX12_four_16 rfl (lv_at hl 2 rfl) ?_
        refine lv_ishr hx hb dX12_four_17 ?_
        refine lv_sipush (v := 255) hx hb dX12_four_18 (by decide) ?_
        refine lv_iand hx hb dX12_four_21 ?_
        obtain ⟨b1, h⟩ := ck_some h
        obtain ⟨mm_2, emm_2, h⟩ := thn_some h
        refine gS_i (x := ((x1 >>> ((x2 : Int32) &&& 31)) &&& 255)) (ws' := (rM E am mm_2 ++ [])) C hG 4 rfl (inb_in b1) rfl dX12_four_22 (by rw [emm_2]; rfl) (fun H locs hG => ?_)
        refine lv_aload_n hx hb dX12_four_23 rfl (lv_at hl 0 rfl) ?_
        refine lv_dup hx hb dX12_four_24 rfl ?_
        refine gL_f (v := .int (mm_2 0 4)) C hG kX12 0 4 rfl (by decide) rfl q1356 rfl dX12_four_25 ?_
        refine lv_iconst (v := 1) hx hb dX12_four_28 (by decide) ?_
        refine lv_iadd hx hb dX12_four_29 ?_
        obtain ⟨mm_3, emm_3, h⟩ := thn_some h
        refine gS_f (v := .int ((mm_2 0 4) + 1)) (ws' := (rM E am mm_3 ++ [])) C hG kX12 0 4 rfl (by decide) q1356 rfl rfl rfl rfl (by show 4 < 27; decide) dX12_four_30 (by rw [emm_3]; rfl) (fun H locs hG => ?_)
        refine lv_iinc (v := (x2 + (-8))) (lv' := [(2, .int (x2 + (-8))), (0, .ref (am 0)), (1, .int x1)]) hx hb dX12_four_33 hl (k := 2) rfl (congrArg (x2 + ·) (by decide : Int32.ofInt (-8) = (-8))) (by decide) rfl (fun ls hl => ?_)
        refine lv_goto (tgt := 3) hx hb dX12_four_36 (by decide) ?_
        exact ih (x2 + (-8)) mm_3 _ _ _ hG (lv_sub hl [1, 2, 0] rfl) h
  rw [fX12_four] at h
  refine lv_bipush (v := 24) hx hb dX12_four_0 (by decide) ?_
  refine lv_istore_n (lv' := [(2, .int 24), (0, .ref (am 0)), (1, .int x1)]) hx hb dX12_four_2 rfl hl (by decide) rfl (fun ls hl => ?_)
  exact K3 N 24 mm _ _ _ hG (lv_sub hl [1, 2, 0] rfl) h
set_option maxHeartbeats 4000000 in
set_option maxRecDepth 100000 in
theorem c_X12_feed (l : Launch) (E : GE) (am : Nat → Nat) (N : Nat) (x1 : Int32) (x2 : Int32) (x3 : Int32) (x4 : Int32) (x5 : Int32) (mm : RS) {res : Int32 × RS} (h : fX12_feed N x1 x2 x3 x4 x5 mm = some res) : gMi l E yX12_feed cX12_feed 6 .int 2 0 0 [.ref (am 0), .int x1, .int x2, .int x3, .int x4, .int x5] (rM E am mm ++ []) (rM E am res.2 ++ []) res.1 := by
  refine gMi_of (own := RX12) (by decide +kernel) rfl (Nat.le_of_ble_eq_true rfl) ?_
  intro p e s m args below meth c A ls Q H locs C hz hl hG hret
  have hx := C.1.1
  have hb := C.1.2.1
  have hts := C.1.2.2.2.2
  have hown := C.1.2.2.2.1
  have hl : lv_has ls 6 [(0, .ref (am 0)), (1, .int x1), (2, .int x2), (3, .int x3), (4, .int x4), (5, .int x5)] := hl
  replace hret : ∀ (r0 : Int32) (mm0 : RS) (H : Heap) (locs : List Loc) (pc : Nat) (ls' : Array Slot), some (r0, mm0) = some res → narrow .int (.int r0) = .int r0 → gG E A s.heap (rM E am mm0 ++ []) H locs → decode cX12_feed pc = .ok (.ireturn, 1) → W p l e (rmD 2 0 0) s m args below meth c H locs 0 0 Q (F0 m pc ls' [.int r0]) := by
    intro r0 mm0 H locs pc ls' e0 hn; cases e0; exact hret H locs pc ls' hn
  rw [fX12_feed] at h
  refine lv_aload_n hx hb dX12_feed_0 rfl (lv_at hl 0 rfl) ?_
  refine gL_f (v := .int (mm 0 4)) C hG kX12 0 4 rfl (by decide) rfl q1356 rfl dX12_feed_1 ?_
  refine lv_bipush (v := 20) hx hb dX12_feed_4 (by decide) ?_
  refine lv_iadd hx hb dX12_feed_6 ?_
  refine lv_sipush (v := 300) hx hb dX12_feed_7 (by decide) ?_
  refine lv_icmp_le (tgt := 15) hx hb dX12_feed_10 (by decide) (fun c10 => ?_) (fun c10 => ?_)
  · replace h := it c10 h
    refine lv_aload_n hx hb dX12_feed_15 rfl (lv_at hl 0 rfl) ?_
    refine lv_iload_n hx hb dX12_feed_16 rfl (lv_at hl 1 rfl) ?_
    obtain ⟨r1, hcr1, h⟩ := bnd_some h
    refine gF_v (ws' := (rM E am r1 ++ [])) C hG (pin pnil) (List.Perm.symm (pin pnil)) (gR_V (As := [.int x1]) (rest := []) C hz hl.1 hG (pin pnil) (c_X12_four l E am N x1 mm hcr1 H.size) okX12_four q1438 0 rfl rfl rfl (Nat.le_of_ble_eq_true rfl) (by omega) ⟨Nat.le_refl _, Nat.le_refl _⟩ dX12_feed_17) (fun H locs hG => ?_)
    refine lv_aload_n hx hb dX12_feed_20 rfl (lv_at hl 0 rfl) ?_
    refine lv_iload_n hx hb dX12_feed_21 rfl (lv_at hl 2 rfl) ?_
    obtain ⟨r2, hcr2, h⟩ := bnd_some h
    refine gF_v (ws' := (rM E am r2 ++ [])) C hG (pin pnil) (List.Perm.symm (pin pnil)) (gR_V (As := [.int x2]) (rest := []) C hz hl.1 hG (pin pnil) (c_X12_four l E am N x2 r1 hcr2 H.size) okX12_four q1438 0 rfl rfl rfl (Nat.le_of_ble_eq_true rfl) (by omega) ⟨Nat.le_refl _, Nat.le_refl _⟩ dX12_feed_22) (fun H locs hG => ?_)
    refine lv_aload_n hx hb dX12_feed_25 rfl (lv_at hl 0 rfl) ?_
    refine lv_iload_n hx hb dX12_feed_26 rfl (lv_at hl 3 rfl) ?_
    obtain ⟨r3, hcr3, h⟩ := bnd_some h
    refine gF_v (ws' := (rM E am r3 ++ [])) C hG (pin pnil) (List.Perm.symm (pin pnil)) (gR_V (As := [.int x3]) (rest := []) C hz hl.1 hG (pin pnil) (c_X12_four l E am N x3 r2 hcr3 H.size) okX12_four q1438 0 rfl rfl rfl (Nat.le_of_ble_eq_true rfl) (by omega) ⟨Nat.le_refl _, Nat.le_refl _⟩ dX12_feed_27) (fun H locs hG => ?_)
    refine lv_aload_n hx hb dX12_feed_30 rfl (lv_at hl 0 rfl) ?_
    refine lv_iload hx hb dX12_feed_31 (lv_at hl 4 rfl) ?_
    obtain ⟨r4, hcr4, h⟩ := bnd_some h
    refine gF_v (ws' := (rM E am r4 ++ [])) C hG (pin pnil) (List.Perm.symm (pin pnil)) (gR_V (As := [.int x4]) (rest := []) C hz hl.1 hG (pin pnil) (c_X12_four l E am N x4 r3 hcr4 H.size) okX12_four q1438 0 rfl rfl rfl (Nat.le_of_ble_eq_true rfl) (by omega) ⟨Nat.le_refl _, Nat.le_refl _⟩ dX12_feed_33) (fun H locs hG => ?_)
    refine lv_aload_n hx hb dX12_feed_36 rfl (lv_at hl 0 rfl) ?_
    refine lv_iload hx hb dX12_feed_37 (lv_at hl 5 rfl) ?_
    obtain ⟨r5, hcr5, h⟩ := bnd_some h
    refine gF_v (ws' := (rM E am r5 ++ [])) C hG (pin pnil) (List.Perm.symm (pin pnil)) (gR_V (As := [.int x5]) (rest := []) C hz hl.1 hG (pin pnil) (c_X12_four l E am N x5 r4 hcr5 H.size) okX12_four q1438 0 rfl rfl rfl (Nat.le_of_ble_eq_true rfl) (by omega) ⟨Nat.le_refl _, Nat.le_refl _⟩ dX12_feed_39) (fun H locs hG => ?_)
    refine lv_aload_n hx hb dX12_feed_42 rfl (lv_at hl 0 rfl) ?_
    refine gL_f (v := .int (r5 0 4)) C hG kX12 0 4 rfl (by decide) rfl q1356 rfl dX12_feed_43 ?_
    exact hret _ _ _ _ _ _ h rfl hG dX12_feed_46
  · replace h := ie c10 h
    refine lv_iconst (v := (-1)) hx hb dX12_feed_13 (by decide) ?_
    exact hret _ _ _ _ _ _ h rfl hG dX12_feed_14
set_option maxHeartbeats 4000000 in
set_option maxRecDepth 100000 in
theorem c_X12_end (l : Launch) (E : GE) (am : Nat → Nat) (x1 : Int32) (mm : RS) {res : Int32 × RS} (h : fX12_end x1 mm = res) : gMi l E yX12_end cX12_end 2 .int 2 0 0 [.ref (am 0), .int x1] (rM E am mm ++ []) (rM E am res.2 ++ []) res.1 := by
  refine gMi_of (own := RX12) (by decide +kernel) rfl (Nat.le_of_ble_eq_true rfl) ?_
  intro p e s m args below meth c A ls Q H locs C hz hl hG hret
  have hx := C.1.1
  have hb := C.1.2.1
  have hts := C.1.2.2.2.2
  have hown := C.1.2.2.2.1
  have hl : lv_has ls 2 [(0, .ref (am 0)), (1, .int x1)] := hl
  replace hret : ∀ (r0 : Int32) (mm0 : RS) (H : Heap) (locs : List Loc) (pc : Nat) (ls' : Array Slot), (r0, mm0) = res → narrow .int (.int r0) = .int r0 → gG E A s.heap (rM E am mm0 ++ []) H locs → decode cX12_end pc = .ok (.ireturn, 1) → W p l e (rmD 2 0 0) s m args below meth c H locs 0 0 Q (F0 m pc ls' [.int r0]) := by
    intro r0 mm0 H locs pc ls' e0 hn; cases e0; exact hret H locs pc ls' hn
  rw [fX12_end] at h
  refine lv_iload_n hx hb dX12_end_0 rfl (lv_at hl 1 rfl) ?_
  refine lv_iconst (v := 0) hx hb dX12_end_1 (by decide) ?_
  refine lv_aload_n hx hb dX12_end_2 rfl (lv_at hl 0 rfl) ?_
  refine gL_f (v := .int (mm 0 4)) C hG kX12 0 4 rfl (by decide) rfl q1356 rfl dX12_end_3 ?_
  refine gF_i (ws' := (rM E am mm ++ [])) C hG pst pst.symm (gR_S (As := [.int x1, .int 0, .int (mm 0 4)]) (rest := []) C hz hl.1 hG pst (c_X12_isIn l E x1 0 (mm 0 4) rfl H.size) okX12_isIn q1446 rfl (Nat.le_of_ble_eq_true rfl) (by omega) ⟨Nat.le_refl _, Nat.le_refl _⟩ dX12_end_6) (fun H locs z1 hG => ?_)
  refine lv_if_ne (tgt := 14) hx hb dX12_end_9 (by decide) (fun c9 => ?_) (fun c9 => ?_)
  · replace h := ie c9 h
    refine lv_aload_n hx hb dX12_end_14 rfl (lv_at hl 0 rfl) ?_
    refine lv_iload_n hx hb dX12_end_15 rfl (lv_at hl 1 rfl) ?_
    obtain ⟨mm_2, emm_2, h⟩ := thn_some h
    refine gS_f (v := .int x1) (ws' := (rM E am mm_2 ++ [])) C hG kX12 0 4 rfl (by decide) q1356 rfl rfl rfl rfl (by show 4 < 27; decide) dX12_end_16 (by rw [emm_2]; rfl) (fun H locs hG => ?_)
    refine lv_iload_n hx hb dX12_end_19 rfl (lv_at hl 1 rfl) ?_
    exact hret _ _ _ _ _ _ h rfl hG dX12_end_20
  · replace h := it c9 h
    refine lv_iconst (v := (-1)) hx hb dX12_end_12 (by decide) ?_
    exact hret _ _ _ _ _ _ h rfl hG dX12_end_13
set_option maxHeartbeats 4000000 in
set_option maxRecDepth 100000 in
theorem c_X12_byteAt (l : Launch) (E : GE) (am : Nat → Nat) (N : Nat) (x1 : Int32) (mm : RS) {res : Int32} (h : fX12_byteAt N x1 mm = some res) : gMi l E yX12_byteAt cX12_byteAt 2 .int 1 0 0 [.ref (am 0), .int x1] (rM E am mm ++ []) (rM E am mm ++ []) res := by
  refine gMi_of (own := RX12) (by decide +kernel) rfl (Nat.le_of_ble_eq_true rfl) ?_
  intro p e s m args below meth c A ls Q H locs C hz hl hG hret
  have hx := C.1.1
  have hb := C.1.2.1
  have hts := C.1.2.2.2.2
  have hown := C.1.2.2.2.1
  have hl : lv_has ls 2 [(0, .ref (am 0)), (1, .int x1)] := hl
  replace hret : ∀ (r0 : Int32) (H : Heap) (locs : List Loc) (pc : Nat) (ls' : Array Slot), some r0 = some res → narrow .int (.int r0) = .int r0 → gG E A s.heap (rM E am mm ++ []) H locs → decode cX12_byteAt pc = .ok (.ireturn, 1) → W p l e (rmD 1 0 0) s m args below meth c H locs 0 0 Q (F0 m pc ls' [.int r0]) := by
    intro r0 H locs pc ls' e0 hn; cases e0; exact hret H locs pc ls' hn
  rw [fX12_byteAt] at h
  refine lv_iload_n hx hb dX12_byteAt_0 rfl (lv_at hl 1 rfl) ?_
  refine lv_aload_n hx hb dX12_byteAt_1 rfl (lv_at hl 0 rfl) ?_
  refine gL_f (v := .int (mm 0 4)) C hG kX12 0 4 rfl (by decide) rfl q1356 rfl dX12_byteAt_2 ?_
  refine lv_icmp_ge (tgt := 17) hx hb dX12_byteAt_5 (by decide) (fun c5 => ?_) (fun c5 => ?_)
  · replace h := it c5 h
    refine lv_iconst (v := (-1)) hx hb dX12_byteAt_17 (by decide) ?_
    exact hret _ _ _ _ _ h rfl hG dX12_byteAt_18
  · replace h := ie c5 h
    refine lv_aload_n hx hb dX12_byteAt_8 rfl (lv_at hl 0 rfl) ?_
    refine gL_f (v := .ref (am 4)) C hG kX12 0 3 rfl (by decide) rfl q1355 rfl dX12_byteAt_9 ?_
    refine lv_iload_n hx hb dX12_byteAt_12 rfl (lv_at hl 1 rfl) ?_
    obtain ⟨b1, h⟩ := ck_some h
    refine gL_i (v := (mm 4 x1.toNatClampNeg)) C hG 4 rfl (inb_in b1) rfl dX12_byteAt_13 ?_
    refine lv_goto (tgt := 18) hx hb dX12_byteAt_14 (by decide) ?_
    exact hret _ _ _ _ _ h rfl hG dX12_byteAt_18
set_option maxHeartbeats 4000000 in
set_option maxRecDepth 100000 in
theorem c_X12_isLetterByte (l : Launch) (E : GE) (x0 : Int32) {res : Int32} (h : fX12_isLetterByte x0 = res) : gMi l E yX12_isLetterByte cX12_isLetterByte 1 .boolean 1 0 0 [.int x0] [] [] res := by
  refine gMi_of (own := RX12) (by decide +kernel) rfl (Nat.le_of_ble_eq_true rfl) ?_
  intro p e s m args below meth c A ls Q H locs C hz hl hG hret
  have hx := C.1.1
  have hb := C.1.2.1
  have hts := C.1.2.2.2.2
  have hown := C.1.2.2.2.1
  have hl : lv_has ls 1 [(0, .int x0)] := hl
  replace hret : ∀ (r0 : Int32) (H : Heap) (locs : List Loc) (pc : Nat) (ls' : Array Slot), r0 = res → narrow .boolean (.int r0) = .int r0 → gG E A s.heap [] H locs → decode cX12_isLetterByte pc = .ok (.ireturn, 1) → W p l e (rmD 1 0 0) s m args below meth c H locs 0 0 Q (F0 m pc ls' [.int r0]) := by
    intro r0 H locs pc ls' e0 hn; cases e0; exact hret H locs pc ls' hn
  have K24 : ∀  (H : Heap) (locs : List Loc) (ls : Array Slot), gG E A s.heap [] H locs → lv_has ls 1 [] → fX12_isLetterByte_L24 x0 = res → W p l e (rmD 1 0 0) s m args below meth c H locs 0 0 Q (F0 m 24 ls []) := by
    intro H locs ls hG hl h
    rw [fX12_isLetterByte_L24] at h
    refine lv_iconst (v := 1) hx hb dX12_isLetterByte_24 (by decide) ?_
    refine lv_goto (tgt := 29) hx hb dX12_isLetterByte_25 (by decide) ?_
    exact hret _ _ _ _ _ h rfl hG dX12_isLetterByte_29
  have K12 : ∀  (H : Heap) (locs : List Loc) (ls : Array Slot), gG E A s.heap [] H locs → lv_has ls 1 [(0, .int x0)] → fX12_isLetterByte_L12 x0 = res → W p l e (rmD 1 0 0) s m args below meth c H locs 0 0 Q (F0 m 12 ls []) := by
    intro H locs ls hG hl h
    rw [fX12_isLetterByte_L12] at h
    refine lv_iload_n hx hb dX12_isLetterByte_12 rfl (lv_at hl 0 rfl) ?_
    refine lv_bipush (v := 65) hx hb dX12_isLetterByte_13 (by decide) ?_
    refine lv_icmp_lt (tgt := 28) hx hb dX12_isLetterByte_15 (by decide) (fun c15 => ?_) (fun c15 => ?_)
    · replace h := it c15 h
      refine lv_iconst (v := 0) hx hb dX12_isLetterByte_28 (by decide) ?_
      exact hret _ _ _ _ _ h rfl hG dX12_isLetterByte_29
    · replace h := ie c15 h
      refine lv_iload_n hx hb dX12_isLetterByte_18 rfl (lv_at hl 0 rfl) ?_
      refine lv_bipush (v := 90) hx hb dX12_isLetterByte_19 (by decide) ?_
      refine lv_icmp_gt (tgt := 28) hx hb dX12_isLetterByte_21 (by decide) (fun c21 => ?_) (fun c21 => ?_)
      · replace h := it c21 h
        refine lv_iconst (v := 0) hx hb dX12_isLetterByte_28 (by decide) ?_
        exact hret _ _ _ _ _ h rfl hG dX12_isLetterByte_29
      · replace h := ie c21 h
        exact K24 _ _ _ hG (lv_sub hl [] rfl) h
  rw [fX12_isLetterByte] at h
  refine lv_iload_n hx hb dX12_isLetterByte_0 rfl (lv_at hl 0 rfl) ?_
  refine lv_bipush (v := 97) hx hb dX12_isLetterByte_1 (by decide) ?_
  refine lv_icmp_lt (tgt := 12) hx hb dX12_isLetterByte_3 (by decide) (fun c3 => ?_) (fun c3 => ?_)
  · replace h := it c3 h
    exact K12 _ _ _ hG (lv_sub hl [0] rfl) h
  · replace h := ie c3 h
    refine lv_iload_n hx hb dX12_isLetterByte_6 rfl (lv_at hl 0 rfl) ?_
    refine lv_bipush (v := 122) hx hb dX12_isLetterByte_7 (by decide) ?_
    refine lv_icmp_le (tgt := 24) hx hb dX12_isLetterByte_9 (by decide) (fun c9 => ?_) (fun c9 => ?_)
    · replace h := it c9 h
      exact K24 _ _ _ hG (lv_sub hl [] rfl) h
    · replace h := ie c9 h
      exact K12 _ _ _ hG (lv_sub hl [0] rfl) h
set_option maxHeartbeats 4000000 in
set_option maxRecDepth 100000 in
theorem c_X12_isFigure (l : Launch) (E : GE) (x0 : Int32) {res : Int32} (h : fX12_isFigure x0 = res) : gMi l E yX12_isFigure cX12_isFigure 1 .boolean 1 0 0 [.int x0] [] [] res := by
  refine gMi_of (own := RX12) (by decide +kernel) rfl (Nat.le_of_ble_eq_true rfl) ?_
  intro p e s m args below meth c A ls Q H locs C hz hl hG hret
  have hx := C.1.1
  have hb := C.1.2.1
  have hts := C.1.2.2.2.2
  have hown := C.1.2.2.2.1
  have hl : lv_has ls 1 [(0, .int x0)] := hl
  replace hret : ∀ (r0 : Int32) (H : Heap) (locs : List Loc) (pc : Nat) (ls' : Array Slot), r0 = res → narrow .boolean (.int r0) = .int r0 → gG E A s.heap [] H locs → decode cX12_isFigure pc = .ok (.ireturn, 1) → W p l e (rmD 1 0 0) s m args below meth c H locs 0 0 Q (F0 m pc ls' [.int r0]) := by
    intro r0 H locs pc ls' e0 hn; cases e0; exact hret H locs pc ls' hn
  rw [fX12_isFigure] at h
  refine lv_iload_n hx hb dX12_isFigure_0 rfl (lv_at hl 0 rfl) ?_
  refine lv_bipush (v := 48) hx hb dX12_isFigure_1 (by decide) ?_
  refine lv_icmp_lt (tgt := 16) hx hb dX12_isFigure_3 (by decide) (fun c3 => ?_) (fun c3 => ?_)
  · replace h := it c3 h
    refine lv_iconst (v := 0) hx hb dX12_isFigure_16 (by decide) ?_
    exact hret _ _ _ _ _ h rfl hG dX12_isFigure_17
  · replace h := ie c3 h
    refine lv_iload_n hx hb dX12_isFigure_6 rfl (lv_at hl 0 rfl) ?_
    refine lv_bipush (v := 57) hx hb dX12_isFigure_7 (by decide) ?_
    refine lv_icmp_gt (tgt := 16) hx hb dX12_isFigure_9 (by decide) (fun c9 => ?_) (fun c9 => ?_)
    · replace h := it c9 h
      refine lv_iconst (v := 0) hx hb dX12_isFigure_16 (by decide) ?_
      exact hret _ _ _ _ _ h rfl hG dX12_isFigure_17
    · replace h := ie c9 h
      refine lv_iconst (v := 1) hx hb dX12_isFigure_12 (by decide) ?_
      refine lv_goto (tgt := 17) hx hb dX12_isFigure_13 (by decide) ?_
      exact hret _ _ _ _ _ h rfl hG dX12_isFigure_17
set_option maxHeartbeats 4000000 in
set_option maxRecDepth 100000 in
theorem c_X12_isSign (l : Launch) (E : GE) (x0 : Int32) {res : Int32} (h : fX12_isSign x0 = res) : gMi l E yX12_isSign cX12_isSign 1 .boolean 1 0 0 [.int x0] [] [] res := by
  refine gMi_of (own := RX12) (by decide +kernel) rfl (Nat.le_of_ble_eq_true rfl) ?_
  intro p e s m args below meth c A ls Q H locs C hz hl hG hret
  have hx := C.1.1
  have hb := C.1.2.1
  have hts := C.1.2.2.2.2
  have hown := C.1.2.2.2.1
  have hl : lv_has ls 1 [(0, .int x0)] := hl
  replace hret : ∀ (r0 : Int32) (H : Heap) (locs : List Loc) (pc : Nat) (ls' : Array Slot), r0 = res → narrow .boolean (.int r0) = .int r0 → gG E A s.heap [] H locs → decode cX12_isSign pc = .ok (.ireturn, 1) → W p l e (rmD 1 0 0) s m args below meth c H locs 0 0 Q (F0 m pc ls' [.int r0]) := by
    intro r0 H locs pc ls' e0 hn; cases e0; exact hret H locs pc ls' hn
  rw [fX12_isSign] at h
  refine lv_iload_n hx hb dX12_isSign_0 rfl (lv_at hl 0 rfl) ?_
  by_cases w1_0 : x0 = 42
  · replace h := it w1_0 h
    refine lv_lookup (tgt := 76) (off := 75) hx hb dX12_isSign_1 (by decide) (by rw [w1_0]; decide) (by decide) ?_
    refine lv_iconst (v := 1) hx hb dX12_isSign_76 (by decide) ?_
    exact hret _ _ _ _ _ h rfl hG dX12_isSign_77
  · replace h := ie w1_0 h
    by_cases w1_1 : x0 = 43
    · replace h := it w1_1 h
      refine lv_lookup (tgt := 76) (off := 75) hx hb dX12_isSign_1 (by decide) (by rw [lv_osw w1_0 (by decide)]; rw [w1_1]; decide) (by decide) ?_
      refine lv_iconst (v := 1) hx hb dX12_isSign_76 (by decide) ?_
      exact hret _ _ _ _ _ h rfl hG dX12_isSign_77
    · replace h := ie w1_1 h
      by_cases w1_2 : x0 = 44
      · replace h := it w1_2 h
        refine lv_lookup (tgt := 76) (off := 75) hx hb dX12_isSign_1 (by decide) (by rw [lv_osw w1_0 (by decide)]; rw [lv_osw w1_1 (by decide)]; rw [w1_2]; decide) (by decide) ?_
        refine lv_iconst (v := 1) hx hb dX12_isSign_76 (by decide) ?_
        exact hret _ _ _ _ _ h rfl hG dX12_isSign_77
      · replace h := ie w1_2 h
        by_cases w1_3 : x0 = 59
        · replace h := it w1_3 h
          refine lv_lookup (tgt := 76) (off := 75) hx hb dX12_isSign_1 (by decide) (by rw [lv_osw w1_0 (by decide)]; rw [lv_osw w1_1 (by decide)]; rw [lv_osw w1_2 (by decide)]; rw [w1_3]; decide) (by decide) ?_
          refine lv_iconst (v := 1) hx hb dX12_isSign_76 (by decide) ?_
          exact hret _ _ _ _ _ h rfl hG dX12_isSign_77
        · replace h := ie w1_3 h
          by_cases w1_4 : x0 = 60
          · replace h := it w1_4 h
            refine lv_lookup (tgt := 76) (off := 75) hx hb dX12_isSign_1 (by decide) (by rw [lv_osw w1_0 (by decide)]; rw [lv_osw w1_1 (by decide)]; rw [lv_osw w1_2 (by decide)]; rw [lv_osw w1_3 (by decide)]; rw [w1_4]; decide) (by decide) ?_
            refine lv_iconst (v := 1) hx hb dX12_isSign_76 (by decide) ?_
            exact hret _ _ _ _ _ h rfl hG dX12_isSign_77
          · replace h := ie w1_4 h
            by_cases w1_5 : x0 = 61
            · replace h := it w1_5 h
              refine lv_lookup (tgt := 76) (off := 75) hx hb dX12_isSign_1 (by decide) (by rw [lv_osw w1_0 (by decide)]; rw [lv_osw w1_1 (by decide)]; rw [lv_osw w1_2 (by decide)]; rw [lv_osw w1_3 (by decide)]; rw [lv_osw w1_4 (by decide)]; rw [w1_5]; decide) (by decide) ?_
              refine lv_iconst (v := 1) hx hb dX12_isSign_76 (by decide) ?_
              exact hret _ _ _ _ _ h rfl hG dX12_isSign_77
            · replace h := ie w1_5 h
              by_cases w1_6 : x0 = 123
              · replace h := it w1_6 h
                refine lv_lookup (tgt := 76) (off := 75) hx hb dX12_isSign_1 (by decide) (by rw [lv_osw w1_0 (by decide)]; rw [lv_osw w1_1 (by decide)]; rw [lv_osw w1_2 (by decide)]; rw [lv_osw w1_3 (by decide)]; rw [lv_osw w1_4 (by decide)]; rw [lv_osw w1_5 (by decide)]; rw [w1_6]; decide) (by decide) ?_
                refine lv_iconst (v := 1) hx hb dX12_isSign_76 (by decide) ?_
                exact hret _ _ _ _ _ h rfl hG dX12_isSign_77
              · replace h := ie w1_6 h
                by_cases w1_7 : x0 = 125
                · replace h := it w1_7 h
                  refine lv_lookup (tgt := 76) (off := 75) hx hb dX12_isSign_1 (by decide) (by rw [lv_osw w1_0 (by decide)]; rw [lv_osw w1_1 (by decide)]; rw [lv_osw w1_2 (by decide)]; rw [lv_osw w1_3 (by decide)]; rw [lv_osw w1_4 (by decide)]; rw [lv_osw w1_5 (by decide)]; rw [lv_osw w1_6 (by decide)]; rw [w1_7]; decide) (by decide) ?_
                  refine lv_iconst (v := 1) hx hb dX12_isSign_76 (by decide) ?_
                  exact hret _ _ _ _ _ h rfl hG dX12_isSign_77
                · replace h := ie w1_7 h
                  refine lv_lookup (tgt := 78) (off := 77) hx hb dX12_isSign_1 (by decide) (by rw [lv_osw w1_0 (by decide)]; rw [lv_osw w1_1 (by decide)]; rw [lv_osw w1_2 (by decide)]; rw [lv_osw w1_3 (by decide)]; rw [lv_osw w1_4 (by decide)]; rw [lv_osw w1_5 (by decide)]; rw [lv_osw w1_6 (by decide)]; rw [lv_osw w1_7 (by decide)]; rfl) (by decide) ?_
                  refine lv_iconst (v := 0) hx hb dX12_isSign_78 (by decide) ?_
                  exact hret _ _ _ _ _ h rfl hG dX12_isSign_79
set_option maxHeartbeats 4000000 in
set_option maxRecDepth 100000 in
theorem c_X12_isWord (l : Launch) (E : GE) (am : Nat → Nat) (N : Nat) (x1 : Int32) (x2 : Int32) (x3 : Int32) (x4 : Int32) (x5 : Int32) (x6 : Int32) (x7 : Int32) (x8 : Int32) (mm : RS) {res : Int32} (h : fX12_isWord N x1 x2 x3 x4 x5 x6 x7 x8 mm = some res) : gMi l E yX12_isWord cX12_isWord 9 .boolean 2 0 0 [.ref (am 0), .int x1, .int x2, .int x3, .int x4, .int x5, .int x6, .int x7, .int x8] (rM E am mm ++ []) (rM E am mm ++ []) res := by
  refine gMi_of (own := RX12) (by decide +kernel) rfl (Nat.le_of_ble_eq_true rfl) ?_
  intro p e s m args below meth c A ls Q H locs C hz hl hG hret
  have hx := C.1.1
  have hb := C.1.2.1
  have hts := C.1.2.2.2.2
  have hown := C.1.2.2.2.1
  have hl : lv_has ls 9 [(0, .ref (am 0)), (1, .int x1), (2, .int x2), (3, .int x3), (4, .int x4), (5, .int x5), (6, .int x6), (7, .int x7), (8, .int x8)] := hl
  replace hret : ∀ (r0 : Int32) (H : Heap) (locs : List Loc) (pc : Nat) (ls' : Array Slot), some r0 = some res → narrow .boolean (.int r0) = .int r0 → gG E A s.heap (rM E am mm ++ []) H locs → decode cX12_isWord pc = .ok (.ireturn, 1) → W p l e (rmD 2 0 0) s m args below meth c H locs 0 0 Q (F0 m pc ls' [.int r0]) := by
    intro r0 H locs pc ls' e0 hn; cases e0; exact hret H locs pc ls' hn
  have K83 : ∀  (H : Heap) (locs : List Loc) (ls : Array Slot), gG E A s.heap (rM E am mm ++ []) H locs → lv_has ls 9 [] → fX12_isWord_L83 N x1 x2 x3 x4 x5 x6 x7 x8 mm = some res → W p l e (rmD 2 0 0) s m args below meth c H locs 0 0 Q (F0 m 83 ls []) := by
    intro H locs ls hG hl h
    rw [fX12_isWord_L83] at h
    refine lv_iconst (v := 1) hx hb dX12_isWord_83 (by decide) ?_
    refine lv_goto (tgt := 88) hx hb dX12_isWord_84 (by decide) ?_
    exact hret _ _ _ _ _ h rfl hG dX12_isWord_88
  have K65 : ∀  (H : Heap) (locs : List Loc) (ls : Array Slot), gG E A s.heap (rM E am mm ++ []) H locs → lv_has ls 9 [(0, .ref (am 0)), (1, .int x1), (7, .int x7), (8, .int x8)] → fX12_isWord_L65 N x1 x2 x3 x4 x5 x6 x7 x8 mm = some res → W p l e (rmD 2 0 0) s m args below meth c H locs 0 0 Q (F0 m 65 ls []) := by
    intro H locs ls hG hl h
    rw [fX12_isWord_L65] at h
    refine lv_iload hx hb dX12_isWord_65 (lv_at hl 3 rfl) ?_
    refine lv_iconst (v := 5) hx hb dX12_isWord_67 (by decide) ?_
    refine lv_icmp_lt (tgt := 83) hx hb dX12_isWord_68 (by decide) (fun c68 => ?_) (fun c68 => ?_)
    · replace h := it c68 h
      exact K83 _ _ _ hG (lv_sub hl [] rfl) h
    · replace h := ie c68 h
      refine lv_aload_n hx hb dX12_isWord_71 rfl (lv_at hl 0 rfl) ?_
      refine lv_iload_n hx hb dX12_isWord_72 rfl (lv_at hl 1 rfl) ?_
      refine lv_iconst (v := 4) hx hb dX12_isWord_73 (by decide) ?_
      refine lv_iadd hx hb dX12_isWord_74 ?_
      obtain ⟨r1, hcr1, h⟩ := bnd_some h
      refine gF_i (ws' := (rM E am mm ++ [])) C hG (pin pnil) (List.Perm.symm (pin pnil)) (gR_V (As := [.int (x1 + 4)]) (rest := []) C hz hl.1 hG (pin pnil) (c_X12_byteAt l E am N (x1 + 4) mm hcr1 H.size) okX12_byteAt q1461 0 rfl rfl rfl (Nat.le_of_ble_eq_true rfl) (by omega) ⟨Nat.le_refl _, Nat.le_refl _⟩ dX12_isWord_75) (fun H locs _ hG => ?_)
      refine lv_iload hx hb dX12_isWord_78 (lv_at hl 2 rfl) ?_
      refine lv_icmp_ne (tgt := 87) hx hb dX12_isWord_80 (by decide) (fun c80 => ?_) (fun c80 => ?_)
      · replace h := ie c80 h
        refine lv_iconst (v := 0) hx hb dX12_isWord_87 (by decide) ?_
        exact hret _ _ _ _ _ h rfl hG dX12_isWord_88
      · replace h := it c80 h
        exact K83 _ _ _ hG (lv_sub hl [] rfl) h
  have K47 : ∀  (H : Heap) (locs : List Loc) (ls : Array Slot), gG E A s.heap (rM E am mm ++ []) H locs → lv_has ls 9 [(0, .ref (am 0)), (1, .int x1), (6, .int x6), (7, .int x7), (8, .int x8)] → fX12_isWord_L47 N x1 x2 x3 x4 x5 x6 x7 x8 mm = some res → W p l e (rmD 2 0 0) s m args below meth c H locs 0 0 Q (F0 m 47 ls []) := by
    intro H locs ls hG hl h
    rw [fX12_isWord_L47] at h
    refine lv_iload hx hb dX12_isWord_47 (lv_at hl 4 rfl) ?_
    refine lv_iconst (v := 4) hx hb dX12_isWord_49 (by decide) ?_
    refine lv_icmp_lt (tgt := 65) hx hb dX12_isWord_50 (by decide) (fun c50 => ?_) (fun c50 => ?_)
    · replace h := it c50 h
      exact K65 _ _ _ hG (lv_sub hl [0, 1, 3, 4] rfl) h
    · replace h := ie c50 h
      refine lv_aload_n hx hb dX12_isWord_53 rfl (lv_at hl 0 rfl) ?_
      refine lv_iload_n hx hb dX12_isWord_54 rfl (lv_at hl 1 rfl) ?_
      refine lv_iconst (v := 3) hx hb dX12_isWord_55 (by decide) ?_
      refine lv_iadd hx hb dX12_isWord_56 ?_
      obtain ⟨r1, hcr1, h⟩ := bnd_some h
      refine gF_i (ws' := (rM E am mm ++ [])) C hG (pin pnil) (List.Perm.symm (pin pnil)) (gR_V (As := [.int (x1 + 3)]) (rest := []) C hz hl.1 hG (pin pnil) (c_X12_byteAt l E am N (x1 + 3) mm hcr1 H.size) okX12_byteAt q1461 0 rfl rfl rfl (Nat.le_of_ble_eq_true rfl) (by omega) ⟨Nat.le_refl _, Nat.le_refl _⟩ dX12_isWord_57) (fun H locs _ hG => ?_)
      refine lv_iload hx hb dX12_isWord_60 (lv_at hl 2 rfl) ?_
      refine lv_icmp_ne (tgt := 87) hx hb dX12_isWord_62 (by decide) (fun c62 => ?_) (fun c62 => ?_)
      · replace h := ie c62 h
        refine lv_iconst (v := 0) hx hb dX12_isWord_87 (by decide) ?_
        exact hret _ _ _ _ _ h rfl hG dX12_isWord_88
      · replace h := it c62 h
        exact K65 _ _ _ hG (lv_sub hl [0, 1, 3, 4] rfl) h
  rw [fX12_isWord] at h
  refine lv_iload_n hx hb dX12_isWord_0 rfl (lv_at hl 2 rfl) ?_
  refine lv_iload hx hb dX12_isWord_1 (lv_at hl 8 rfl) ?_
  refine lv_icmp_ne (tgt := 27) hx hb dX12_isWord_3 (by decide) (fun c3 => ?_) (fun c3 => ?_)
  · replace h := ie c3 h
    refine lv_iconst (v := 0) hx hb dX12_isWord_27 (by decide) ?_
    exact hret _ _ _ _ _ h rfl hG dX12_isWord_28
  · replace h := it c3 h
    refine lv_aload_n hx hb dX12_isWord_6 rfl (lv_at hl 0 rfl) ?_
    refine lv_iload_n hx hb dX12_isWord_7 rfl (lv_at hl 1 rfl) ?_
    obtain ⟨r1, hcr1, h⟩ := bnd_some h
    refine gF_i (ws' := (rM E am mm ++ [])) C hG (pin pnil) (List.Perm.symm (pin pnil)) (gR_V (As := [.int x1]) (rest := []) C hz hl.1 hG (pin pnil) (c_X12_byteAt l E am N x1 mm hcr1 H.size) okX12_byteAt q1461 0 rfl rfl rfl (Nat.le_of_ble_eq_true rfl) (by omega) ⟨Nat.le_refl _, Nat.le_refl _⟩ dX12_isWord_8) (fun H locs _ hG => ?_)
    refine lv_iload_n hx hb dX12_isWord_11 rfl (lv_at hl 3 rfl) ?_
    refine lv_icmp_ne (tgt := 27) hx hb dX12_isWord_12 (by decide) (fun c12 => ?_) (fun c12 => ?_)
    · replace h := ie c12 h
      refine lv_iconst (v := 0) hx hb dX12_isWord_27 (by decide) ?_
      exact hret _ _ _ _ _ h rfl hG dX12_isWord_28
    · replace h := it c12 h
      refine lv_aload_n hx hb dX12_isWord_15 rfl (lv_at hl 0 rfl) ?_
      refine lv_iload_n hx hb dX12_isWord_16 rfl (lv_at hl 1 rfl) ?_
      refine lv_iconst (v := 1) hx hb dX12_isWord_17 (by decide) ?_
      refine lv_iadd hx hb dX12_isWord_18 ?_
      obtain ⟨r2, hcr2, h⟩ := bnd_some h
      refine gF_i (ws' := (rM E am mm ++ [])) C hG (pin pnil) (List.Perm.symm (pin pnil)) (gR_V (As := [.int (x1 + 1)]) (rest := []) C hz hl.1 hG (pin pnil) (c_X12_byteAt l E am N (x1 + 1) mm hcr2 H.size) okX12_byteAt q1461 0 rfl rfl rfl (Nat.le_of_ble_eq_true rfl) (by omega) ⟨Nat.le_refl _, Nat.le_refl _⟩ dX12_isWord_19) (fun H locs _ hG => ?_)
      refine lv_iload hx hb dX12_isWord_22 (lv_at hl 4 rfl) ?_
      refine lv_icmp_eq (tgt := 29) hx hb dX12_isWord_24 (by decide) (fun c24 => ?_) (fun c24 => ?_)
      · replace h := it c24 h
        refine lv_iload hx hb dX12_isWord_29 (lv_at hl 8 rfl) ?_
        refine lv_iconst (v := 3) hx hb dX12_isWord_31 (by decide) ?_
        refine lv_icmp_lt (tgt := 47) hx hb dX12_isWord_32 (by decide) (fun c32 => ?_) (fun c32 => ?_)
        · replace h := it c32 h
          exact K47 _ _ _ hG (lv_sub hl [0, 1, 6, 7, 8] rfl) h
        · replace h := ie c32 h
          refine lv_aload_n hx hb dX12_isWord_35 rfl (lv_at hl 0 rfl) ?_
          refine lv_iload_n hx hb dX12_isWord_36 rfl (lv_at hl 1 rfl) ?_
          refine lv_iconst (v := 2) hx hb dX12_isWord_37 (by decide) ?_
          refine lv_iadd hx hb dX12_isWord_38 ?_
          obtain ⟨r3, hcr3, h⟩ := bnd_some h
          refine gF_i (ws' := (rM E am mm ++ [])) C hG (pin pnil) (List.Perm.symm (pin pnil)) (gR_V (As := [.int (x1 + 2)]) (rest := []) C hz hl.1 hG (pin pnil) (c_X12_byteAt l E am N (x1 + 2) mm hcr3 H.size) okX12_byteAt q1461 0 rfl rfl rfl (Nat.le_of_ble_eq_true rfl) (by omega) ⟨Nat.le_refl _, Nat.le_refl _⟩ dX12_isWord_39) (fun H locs _ hG => ?_)
          refine lv_iload hx hb dX12_isWord_42 (lv_at hl 5 rfl) ?_
          refine lv_icmp_ne (tgt := 87) hx hb dX12_isWord_44 (by decide) (fun c44 => ?_) (fun c44 => ?_)
          · replace h := ie c44 h
            refine lv_iconst (v := 0) hx hb dX12_isWord_87 (by decide) ?_
            exact hret _ _ _ _ _ h rfl hG dX12_isWord_88
          · replace h := it c44 h
            exact K47 _ _ _ hG (lv_sub hl [0, 1, 6, 7, 8] rfl) h
      · replace h := ie c24 h
        refine lv_iconst (v := 0) hx hb dX12_isWord_27 (by decide) ?_
        exact hret _ _ _ _ _ h rfl hG dX12_isWord_28
set_option maxHeartbeats 4000000 in
set_option maxRecDepth 100000 in
theorem c_X12_wordOf (l : Launch) (E : GE) (am : Nat → Nat) (N : Nat) (x1 : Int32) (x2 : Int32) (mm : RS) {res : Int32} (h : fX12_wordOf N x1 x2 mm = some res) : gMi l E yX12_wordOf cX12_wordOf 3 .int 3 0 0 [.ref (am 0), .int x1, .int x2] (rM E am mm ++ []) (rM E am mm ++ []) res := by
  refine gMi_of (own := RX12) (by decide +kernel) rfl (Nat.le_of_ble_eq_true rfl) ?_
  intro p e s m args below meth c A ls Q H locs C hz hl hG hret
  have hx := C.1.1
  have hb := C.1.2.1
  have hts := C.1.2.2.2.2
  have hown := C.1.2.2.2.1
  have hl : lv_has ls 3 [(0, .ref (am 0)), (1, .int x1), (2, .int x2)] := hl
  replace hret : ∀ (r0 : Int32) (H : Heap) (locs : List Loc) (pc : Nat) (ls' : Array Slot), some r0 = some res → narrow .int (.int r0) = .int r0 → gG E A s.heap (rM E am mm ++ []) H locs → decode cX12_wordOf pc = .ok (.ireturn, 1) → W p l e (rmD 3 0 0) s m args below meth c H locs 0 0 Q (F0 m pc ls' [.int r0]) := by
    intro r0 H locs pc ls' e0 hn; cases e0; exact hret H locs pc ls' hn
  have K24 : ∀  (H : Heap) (locs : List Loc) (ls : Array Slot), gG E A s.heap (rM E am mm ++ []) H locs → lv_has ls 3 [(0, .ref (am 0)), (1, .int x1), (2, .int x2)] → fX12_wordOf_L24 N x1 x2 mm = some res → W p l e (rmD 3 0 0) s m args below meth c H locs 0 0 Q (F0 m 24 ls []) := by
    intro H locs ls hG hl h
    rw [fX12_wordOf_L24] at h
    refine lv_aload_n hx hb dX12_wordOf_24 rfl (lv_at hl 0 rfl) ?_
    refine lv_iload_n hx hb dX12_wordOf_25 rfl (lv_at hl 1 rfl) ?_
    refine lv_iload_n hx hb dX12_wordOf_26 rfl (lv_at hl 2 rfl) ?_
    refine lv_bipush (v := 114) hx hb dX12_wordOf_27 (by decide) ?_
    refine lv_bipush (v := 101) hx hb dX12_wordOf_29 (by decide) ?_
    refine lv_bipush (v := 97) hx hb dX12_wordOf_31 (by decide) ?_
    refine lv_bipush (v := 100) hx hb dX12_wordOf_33 (by decide) ?_
    refine lv_iconst (v := 0) hx hb dX12_wordOf_35 (by decide) ?_
    refine lv_iconst (v := 4) hx hb dX12_wordOf_36 (by decide) ?_
    obtain ⟨r1, hcr1, h⟩ := bnd_some h
    refine gF_i (ws' := (rM E am mm ++ [])) C hG (pin pnil) (List.Perm.symm (pin pnil)) (gR_V (As := [.int x1, .int x2, .int 114, .int 101, .int 97, .int 100, .int 0, .int 4]) (rest := []) C hz hl.1 hG (pin pnil) (c_X12_isWord l E am N x1 x2 114 101 97 100 0 4 mm hcr1 H.size) okX12_isWord q1476 0 rfl rfl rfl (Nat.le_of_ble_eq_true rfl) (by omega) ⟨Nat.le_refl _, Nat.le_refl _⟩ dX12_wordOf_37) (fun H locs z2 hG => ?_)
    refine lv_if_eq (tgt := 47) hx hb dX12_wordOf_40 (by decide) (fun c40 => ?_) (fun c40 => ?_)
    · replace h := it c40 h
      refine lv_aload_n hx hb dX12_wordOf_47 rfl (lv_at hl 0 rfl) ?_
      refine lv_iload_n hx hb dX12_wordOf_48 rfl (lv_at hl 1 rfl) ?_
      refine lv_iload_n hx hb dX12_wordOf_49 rfl (lv_at hl 2 rfl) ?_
      refine lv_bipush (v := 119) hx hb dX12_wordOf_50 (by decide) ?_
      refine lv_bipush (v := 114) hx hb dX12_wordOf_52 (by decide) ?_
      refine lv_bipush (v := 105) hx hb dX12_wordOf_54 (by decide) ?_
      refine lv_bipush (v := 116) hx hb dX12_wordOf_56 (by decide) ?_
      refine lv_bipush (v := 101) hx hb dX12_wordOf_58 (by decide) ?_
      refine lv_iconst (v := 5) hx hb dX12_wordOf_60 (by decide) ?_
      obtain ⟨r3, hcr3, h⟩ := bnd_some h
      refine gF_i (ws' := (rM E am mm ++ [])) C hG (pin pnil) (List.Perm.symm (pin pnil)) (gR_V (As := [.int x1, .int x2, .int 119, .int 114, .int 105, .int 116, .int 101, .int 5]) (rest := []) C hz hl.1 hG (pin pnil) (c_X12_isWord l E am N x1 x2 119 114 105 116 101 5 mm hcr3 H.size) okX12_isWord q1476 0 rfl rfl rfl (Nat.le_of_ble_eq_true rfl) (by omega) ⟨Nat.le_refl _, Nat.le_refl _⟩ dX12_wordOf_61) (fun H locs z4 hG => ?_)
      refine lv_if_eq (tgt := 71) hx hb dX12_wordOf_64 (by decide) (fun c64 => ?_) (fun c64 => ?_)
      · replace h := it c64 h
        refine lv_aload_n hx hb dX12_wordOf_71 rfl (lv_at hl 0 rfl) ?_
        refine lv_iload_n hx hb dX12_wordOf_72 rfl (lv_at hl 1 rfl) ?_
        refine lv_iload_n hx hb dX12_wordOf_73 rfl (lv_at hl 2 rfl) ?_
        refine lv_bipush (v := 115) hx hb dX12_wordOf_74 (by decide) ?_
        refine lv_bipush (v := 99) hx hb dX12_wordOf_76 (by decide) ?_
        refine lv_bipush (v := 97) hx hb dX12_wordOf_78 (by decide) ?_
        refine lv_bipush (v := 110) hx hb dX12_wordOf_80 (by decide) ?_
        refine lv_iconst (v := 0) hx hb dX12_wordOf_82 (by decide) ?_
        refine lv_iconst (v := 4) hx hb dX12_wordOf_83 (by decide) ?_
        obtain ⟨r5, hcr5, h⟩ := bnd_some h
        refine gF_i (ws' := (rM E am mm ++ [])) C hG (pin pnil) (List.Perm.symm (pin pnil)) (gR_V (As := [.int x1, .int x2, .int 115, .int 99, .int 97, .int 110, .int 0, .int 4]) (rest := []) C hz hl.1 hG (pin pnil) (c_X12_isWord l E am N x1 x2 115 99 97 110 0 4 mm hcr5 H.size) okX12_isWord q1476 0 rfl rfl rfl (Nat.le_of_ble_eq_true rfl) (by omega) ⟨Nat.le_refl _, Nat.le_refl _⟩ dX12_wordOf_84) (fun H locs z6 hG => ?_)
        refine lv_if_eq (tgt := 94) hx hb dX12_wordOf_87 (by decide) (fun c87 => ?_) (fun c87 => ?_)
        · replace h := it c87 h
          refine lv_aload_n hx hb dX12_wordOf_94 rfl (lv_at hl 0 rfl) ?_
          refine lv_iload_n hx hb dX12_wordOf_95 rfl (lv_at hl 1 rfl) ?_
          refine lv_iload_n hx hb dX12_wordOf_96 rfl (lv_at hl 2 rfl) ?_
          refine lv_bipush (v := 116) hx hb dX12_wordOf_97 (by decide) ?_
          refine lv_bipush (v := 105) hx hb dX12_wordOf_99 (by decide) ?_
          refine lv_bipush (v := 99) hx hb dX12_wordOf_101 (by decide) ?_
          refine lv_bipush (v := 107) hx hb dX12_wordOf_103 (by decide) ?_
          refine lv_iconst (v := 0) hx hb dX12_wordOf_105 (by decide) ?_
          refine lv_iconst (v := 4) hx hb dX12_wordOf_106 (by decide) ?_
          obtain ⟨r7, hcr7, h⟩ := bnd_some h
          refine gF_i (ws' := (rM E am mm ++ [])) C hG (pin pnil) (List.Perm.symm (pin pnil)) (gR_V (As := [.int x1, .int x2, .int 116, .int 105, .int 99, .int 107, .int 0, .int 4]) (rest := []) C hz hl.1 hG (pin pnil) (c_X12_isWord l E am N x1 x2 116 105 99 107 0 4 mm hcr7 H.size) okX12_isWord q1476 0 rfl rfl rfl (Nat.le_of_ble_eq_true rfl) (by omega) ⟨Nat.le_refl _, Nat.le_refl _⟩ dX12_wordOf_107) (fun H locs z8 hG => ?_)
          refine lv_if_eq (tgt := 117) hx hb dX12_wordOf_110 (by decide) (fun c110 => ?_) (fun c110 => ?_)
          · replace h := it c110 h
            refine lv_aload_n hx hb dX12_wordOf_117 rfl (lv_at hl 0 rfl) ?_
            refine lv_iload_n hx hb dX12_wordOf_118 rfl (lv_at hl 1 rfl) ?_
            refine lv_iload_n hx hb dX12_wordOf_119 rfl (lv_at hl 2 rfl) ?_
            refine lv_bipush (v := 99) hx hb dX12_wordOf_120 (by decide) ?_
            refine lv_bipush (v := 114) hx hb dX12_wordOf_122 (by decide) ?_
            refine lv_bipush (v := 97) hx hb dX12_wordOf_124 (by decide) ?_
            refine lv_bipush (v := 115) hx hb dX12_wordOf_126 (by decide) ?_
            refine lv_bipush (v := 104) hx hb dX12_wordOf_128 (by decide) ?_
            refine lv_iconst (v := 5) hx hb dX12_wordOf_130 (by decide) ?_
            obtain ⟨r9, hcr9, h⟩ := bnd_some h
            refine gF_i (ws' := (rM E am mm ++ [])) C hG (pin pnil) (List.Perm.symm (pin pnil)) (gR_V (As := [.int x1, .int x2, .int 99, .int 114, .int 97, .int 115, .int 104, .int 5]) (rest := []) C hz hl.1 hG (pin pnil) (c_X12_isWord l E am N x1 x2 99 114 97 115 104 5 mm hcr9 H.size) okX12_isWord q1476 0 rfl rfl rfl (Nat.le_of_ble_eq_true rfl) (by omega) ⟨Nat.le_refl _, Nat.le_refl _⟩ dX12_wordOf_131) (fun H locs z10 hG => ?_)
            refine lv_if_eq (tgt := 141) hx hb dX12_wordOf_134 (by decide) (fun c134 => ?_) (fun c134 => ?_)
            · replace h := it c134 h
              refine lv_aload_n hx hb dX12_wordOf_141 rfl (lv_at hl 0 rfl) ?_
              refine lv_iload_n hx hb dX12_wordOf_142 rfl (lv_at hl 1 rfl) ?_
              refine lv_iload_n hx hb dX12_wordOf_143 rfl (lv_at hl 2 rfl) ?_
              refine lv_bipush (v := 108) hx hb dX12_wordOf_144 (by decide) ?_
              refine lv_bipush (v := 111) hx hb dX12_wordOf_146 (by decide) ?_
              refine lv_bipush (v := 111) hx hb dX12_wordOf_148 (by decide) ?_
              refine lv_bipush (v := 112) hx hb dX12_wordOf_150 (by decide) ?_
              refine lv_iconst (v := 0) hx hb dX12_wordOf_152 (by decide) ?_
              refine lv_iconst (v := 4) hx hb dX12_wordOf_153 (by decide) ?_
              obtain ⟨r11, hcr11, h⟩ := bnd_some h
              refine gF_i (ws' := (rM E am mm ++ [])) C hG (pin pnil) (List.Perm.symm (pin pnil)) (gR_V (As := [.int x1, .int x2, .int 108, .int 111, .int 111, .int 112, .int 0, .int 4]) (rest := []) C hz hl.1 hG (pin pnil) (c_X12_isWord l E am N x1 x2 108 111 111 112 0 4 mm hcr11 H.size) okX12_isWord q1476 0 rfl rfl rfl (Nat.le_of_ble_eq_true rfl) (by omega) ⟨Nat.le_refl _, Nat.le_refl _⟩ dX12_wordOf_154) (fun H locs z12 hG => ?_)
              refine lv_if_eq (tgt := 164) hx hb dX12_wordOf_157 (by decide) (fun c157 => ?_) (fun c157 => ?_)
              · replace h := it c157 h
                refine lv_aload_n hx hb dX12_wordOf_164 rfl (lv_at hl 0 rfl) ?_
                refine lv_iload_n hx hb dX12_wordOf_165 rfl (lv_at hl 1 rfl) ?_
                refine lv_iload_n hx hb dX12_wordOf_166 rfl (lv_at hl 2 rfl) ?_
                refine lv_bipush (v := 105) hx hb dX12_wordOf_167 (by decide) ?_
                refine lv_bipush (v := 102) hx hb dX12_wordOf_169 (by decide) ?_
                refine lv_iconst (v := 0) hx hb dX12_wordOf_171 (by decide) ?_
                refine lv_iconst (v := 0) hx hb dX12_wordOf_172 (by decide) ?_
                refine lv_iconst (v := 0) hx hb dX12_wordOf_173 (by decide) ?_
                refine lv_iconst (v := 2) hx hb dX12_wordOf_174 (by decide) ?_
                obtain ⟨r13, hcr13, h⟩ := bnd_some h
                refine gF_i (ws' := (rM E am mm ++ [])) C hG (pin pnil) (List.Perm.symm (pin pnil)) (gR_V (As := [.int x1, .int x2, .int 105, .int 102, .int 0, .int 0, .int 0, .int 2]) (rest := []) C hz hl.1 hG (pin pnil) (c_X12_isWord l E am N x1 x2 105 102 0 0 0 2 mm hcr13 H.size) okX12_isWord q1476 0 rfl rfl rfl (Nat.le_of_ble_eq_true rfl) (by omega) ⟨Nat.le_refl _, Nat.le_refl _⟩ dX12_wordOf_175) (fun H locs z14 hG => ?_)
                refine lv_if_eq (tgt := 187) hx hb dX12_wordOf_178 (by decide) (fun c178 => ?_) (fun c178 => ?_)
                · replace h := it c178 h
                  refine lv_iconst (v := 2) hx hb dX12_wordOf_187 (by decide) ?_
                  exact hret _ _ _ _ _ h rfl hG dX12_wordOf_188
                · replace h := ie c178 h
                  refine lv_sipush (v := 206) hx hb dX12_wordOf_181 (by decide) ?_
                  refine lv_goto (tgt := 188) hx hb dX12_wordOf_184 (by decide) ?_
                  exact hret _ _ _ _ _ h rfl hG dX12_wordOf_188
              · replace h := ie c157 h
                refine lv_sipush (v := 205) hx hb dX12_wordOf_160 (by decide) ?_
                exact hret _ _ _ _ _ h rfl hG dX12_wordOf_163
            · replace h := ie c134 h
              refine lv_sipush (v := 204) hx hb dX12_wordOf_137 (by decide) ?_
              exact hret _ _ _ _ _ h rfl hG dX12_wordOf_140
          · replace h := ie c110 h
            refine lv_sipush (v := 203) hx hb dX12_wordOf_113 (by decide) ?_
            exact hret _ _ _ _ _ h rfl hG dX12_wordOf_116
        · replace h := ie c87 h
          refine lv_sipush (v := 202) hx hb dX12_wordOf_90 (by decide) ?_
          exact hret _ _ _ _ _ h rfl hG dX12_wordOf_93
      · replace h := ie c64 h
        refine lv_sipush (v := 201) hx hb dX12_wordOf_67 (by decide) ?_
        exact hret _ _ _ _ _ h rfl hG dX12_wordOf_70
    · replace h := ie c40 h
      refine lv_sipush (v := 200) hx hb dX12_wordOf_43 (by decide) ?_
      exact hret _ _ _ _ _ h rfl hG dX12_wordOf_46
  rw [fX12_wordOf] at h
  refine lv_iload_n hx hb dX12_wordOf_0 rfl (lv_at hl 2 rfl) ?_
  refine lv_iconst (v := 1) hx hb dX12_wordOf_1 (by decide) ?_
  refine lv_icmp_ne (tgt := 24) hx hb dX12_wordOf_2 (by decide) (fun c2 => ?_) (fun c2 => ?_)
  · replace h := ie c2 h
    exact K24 _ _ _ hG (lv_sub hl [0, 1, 2] rfl) h
  · replace h := it c2 h
    refine lv_aload_n hx hb dX12_wordOf_5 rfl (lv_at hl 0 rfl) ?_
    refine lv_iload_n hx hb dX12_wordOf_6 rfl (lv_at hl 1 rfl) ?_
    obtain ⟨r1, hcr1, h⟩ := bnd_some h
    refine gF_i (ws' := (rM E am mm ++ [])) C hG (pin pnil) (List.Perm.symm (pin pnil)) (gR_V (As := [.int x1]) (rest := []) C hz hl.1 hG (pin pnil) (c_X12_byteAt l E am N x1 mm hcr1 H.size) okX12_byteAt q1461 0 rfl rfl rfl (Nat.le_of_ble_eq_true rfl) (by omega) ⟨Nat.le_refl _, Nat.le_refl _⟩ dX12_wordOf_7) (fun H locs _ hG => ?_)
    refine lv_bipush (v := 97) hx hb dX12_wordOf_10 (by decide) ?_
    refine lv_bipush (v := 99) hx hb dX12_wordOf_12 (by decide) ?_
    refine gF_i (ws' := (rM E am mm ++ [])) C hG pst pst.symm (gR_S (As := [.int r1, .int 97, .int 99]) (rest := []) C hz hl.1 hG pst (c_X12_isIn l E r1 97 99 rfl H.size) okX12_isIn q1446 rfl (Nat.le_of_ble_eq_true rfl) (by omega) ⟨Nat.le_refl _, Nat.le_refl _⟩ dX12_wordOf_14) (fun H locs z2 hG => ?_)
    refine lv_if_eq (tgt := 24) hx hb dX12_wordOf_17 (by decide) (fun c17 => ?_) (fun c17 => ?_)
    · replace h := it c17 h
      exact K24 _ _ _ hG (lv_sub hl [0, 1, 2] rfl) h
    · replace h := ie c17 h
      refine lv_sipush (v := 207) hx hb dX12_wordOf_20 (by decide) ?_
      exact hret _ _ _ _ _ h rfl hG dX12_wordOf_23
set_option maxHeartbeats 4000000 in
set_option maxRecDepth 100000 in
theorem c_X12_nextToken (l : Launch) (E : GE) (am : Nat → Nat) (N : Nat) (mm : RS) {res : RS} (h : fX12_nextToken N mm = some res) : gMv l E yX12_nextToken cX12_nextToken 3 4 0 0 [.ref (am 0)] (rM E am mm ++ []) (rM E am res ++ []) := by
  refine gMv_of (own := RX12) (by decide +kernel) rfl (Nat.le_of_ble_eq_true rfl) ?_
  intro p e s m args below meth c A ls Q H locs C hz hl hG hin hret
  have hx := C.1.1
  have hb := C.1.2.1
  have hts := C.1.2.2.2.2
  have hown := C.1.2.2.2.1
  have hl : lv_has ls 3 [(0, .ref (am 0))] := hl
  replace hret : ∀ (mm0 : RS) (H : Heap) (locs : List Loc) (pc : Nat) (ls' : Array Slot), some mm0 = some res → gG E A s.heap (rM E am mm0 ++ []) H locs → decode cX12_nextToken pc = .ok (.return_, 1) → W p l e (rmD 4 0 0) s m args below meth c H locs 0 0 Q (F0 m pc ls' []) := by
    intro mm0 H locs pc ls' e0; cases e0; exact hret H locs pc ls'
  have K26 : ∀ (k0 : (RS → Option (RS))) (hk0 : ∀  (mm : RS) (H : Heap) (locs : List Loc) (ls : Array Slot), gG E A s.heap (rM E am mm ++ []) H locs → lv_has ls 3 [(0, .ref (am 0))] → k0 mm = some res → W p l e (rmD 4 0 0) s m args below meth c H locs 0 0 Q (F0 m 0 ls [])), ∀  (mm : RS) (H : Heap) (locs : List Loc) (ls : Array Slot), gG E A s.heap (rM E am mm ++ []) H locs → lv_has ls 3 [(0, .ref (am 0))] → fX12_nextToken_L26 N k0 mm = some res → W p l e (rmD 4 0 0) s m args below meth c H locs 0 0 Q (F0 m 26 ls []) := by
    intro k0 hk0 mm H locs ls hG hl h
    rw [fX12_nextToken_L26] at h
    refine lv_aload_n hx hb dX12_nextToken_26 rfl (lv_at hl 0 rfl) ?_
    refine lv_dup hx hb dX12_nextToken_27 rfl ?_
    refine gL_f (v := .int (mm 0 7)) C hG kX12 0 7 rfl (by decide) rfl q1359 rfl dX12_nextToken_28 ?_
    refine lv_iconst (v := 1) hx hb dX12_nextToken_31 (by decide) ?_
    refine lv_iadd hx hb dX12_nextToken_32 ?_
    obtain ⟨mm_1, emm_1, h⟩ := thn_some h
    refine gS_f (v := .int ((mm 0 7) + 1)) (ws' := (rM E am mm_1 ++ [])) C hG kX12 0 7 rfl (by decide) q1359 rfl rfl rfl rfl (by show 7 < 27; decide) dX12_nextToken_33 (by rw [emm_1]; rfl) (fun H locs hG => ?_)
    refine lv_goto (tgt := 0) hx hb dX12_nextToken_36 (by decide) ?_
    exact hk0 mm_1 _ _ _ hG (lv_sub hl [0] rfl) h
  have K257 : ∀  (mm : RS) (H : Heap) (locs : List Loc) (ls : Array Slot), gG E A s.heap (rM E am mm ++ []) H locs → lv_has ls 3 [(0, .ref (am 0))] → fX12_nextToken_L257 N mm = some res → W p l e (rmD 4 0 0) s m args below meth c H locs 0 0 Q (F0 m 257 ls []) := by
    intro mm H locs ls hG hl h
    rw [fX12_nextToken_L257] at h
    refine lv_aload_n hx hb dX12_nextToken_257 rfl (lv_at hl 0 rfl) ?_
    refine gL_f (v := .int (mm 0 9)) C hG kX12 0 9 rfl (by decide) rfl q1361 rfl dX12_nextToken_258 ?_
    refine lv_if_ne (tgt := 265) hx hb dX12_nextToken_261 (by decide) (fun c261 => ?_) (fun c261 => ?_)
    · replace h := ie c261 h
      refine lv_aload_n hx hb dX12_nextToken_265 rfl (lv_at hl 0 rfl) ?_
      refine gL_f (v := .int (mm 0 11)) C hG kX12 0 11 rfl (by decide) rfl q1363 rfl dX12_nextToken_266 ?_
      refine lv_iconst (v := 1) hx hb dX12_nextToken_269 (by decide) ?_
      refine lv_iadd hx hb dX12_nextToken_270 ?_
      refine lv_iconst (v := 2) hx hb dX12_nextToken_271 (by decide) ?_
      refine lv_aload_n hx hb dX12_nextToken_272 rfl (lv_at hl 0 rfl) ?_
      refine gL_f (v := .ref (am 3)) C hG kX12 0 2 rfl (by decide) rfl q1354 rfl dX12_nextToken_273 ?_
      refine lv_aload_n hx hb dX12_nextToken_276 rfl (lv_at hl 0 rfl) ?_
      refine gL_f (v := .int (mm 0 11)) C hG kX12 0 11 rfl (by decide) rfl q1363 rfl dX12_nextToken_277 ?_
      obtain ⟨b1, h⟩ := ck_some h
      refine gL_i (v := (mm 3 (mm 0 11).toNatClampNeg)) C hG 3 rfl (inb_in b1) rfl dX12_nextToken_280 ?_
      refine lv_imul hx hb dX12_nextToken_281 ?_
      refine lv_iadd hx hb dX12_nextToken_282 ?_
      obtain ⟨x2_2, ex2_2, h⟩ := thn_some h
      refine g_int ex2_2 ?_
      refine lv_istore_n (lv' := [(2, .int x2_2), (0, .ref (am 0))]) hx hb dX12_nextToken_283 rfl hl (by decide) rfl (fun ls hl => ?_)
      refine lv_aload_n hx hb dX12_nextToken_284 rfl (lv_at hl 1 rfl) ?_
      refine gL_f (v := .ref (am 3)) C hG kX12 0 2 rfl (by decide) rfl q1354 rfl dX12_nextToken_285 ?_
      refine lv_iload_n hx hb dX12_nextToken_288 rfl (lv_at hl 0 rfl) ?_
      refine lv_aload_n hx hb dX12_nextToken_289 rfl (lv_at hl 1 rfl) ?_
      refine gL_f (v := .int (mm 0 9)) C hG kX12 0 9 rfl (by decide) rfl q1361 rfl dX12_nextToken_290 ?_
      obtain ⟨b3, h⟩ := ck_some h
      obtain ⟨mm_4, emm_4, h⟩ := thn_some h
      refine gS_i (x := (mm 0 9)) (ws' := (rM E am mm_4 ++ [])) C hG 3 rfl (inb_in b3) rfl dX12_nextToken_293 (by rw [emm_4]; rfl) (fun H locs hG => ?_)
      refine lv_aload_n hx hb dX12_nextToken_294 rfl (lv_at hl 1 rfl) ?_
      refine gL_f (v := .ref (am 3)) C hG kX12 0 2 rfl (by decide) rfl q1354 rfl dX12_nextToken_295 ?_
      refine lv_iload_n hx hb dX12_nextToken_298 rfl (lv_at hl 0 rfl) ?_
      refine lv_iconst (v := 1) hx hb dX12_nextToken_299 (by decide) ?_
      refine lv_iadd hx hb dX12_nextToken_300 ?_
      refine lv_aload_n hx hb dX12_nextToken_301 rfl (lv_at hl 1 rfl) ?_
      refine gL_f (v := .int (mm_4 0 10)) C hG kX12 0 10 rfl (by decide) rfl q1362 rfl dX12_nextToken_302 ?_
      obtain ⟨b5, h⟩ := ck_some h
      obtain ⟨mm_6, emm_6, h⟩ := thn_some h
      refine gS_i (x := (mm_4 0 10)) (ws' := (rM E am mm_6 ++ [])) C hG 3 rfl (inb_in b5) rfl dX12_nextToken_305 (by rw [emm_6]; rfl) (fun H locs hG => ?_)
      refine lv_aload_n hx hb dX12_nextToken_306 rfl (lv_at hl 1 rfl) ?_
      refine gL_f (v := .ref (am 3)) C hG kX12 0 2 rfl (by decide) rfl q1354 rfl dX12_nextToken_307 ?_
      refine lv_aload_n hx hb dX12_nextToken_310 rfl (lv_at hl 1 rfl) ?_
      refine gL_f (v := .int (mm_6 0 11)) C hG kX12 0 11 rfl (by decide) rfl q1363 rfl dX12_nextToken_311 ?_
      refine lv_dup2_11 hx hb dX12_nextToken_314 rfl rfl ?_
      obtain ⟨b7, h⟩ := ck_some h
      refine gL_i (v := (mm_6 3 (mm_6 0 11).toNatClampNeg)) C hG 3 rfl (inb_in b7) rfl dX12_nextToken_315 ?_
      refine lv_iconst (v := 1) hx hb dX12_nextToken_316 (by decide) ?_
      refine lv_iadd hx hb dX12_nextToken_317 ?_
      obtain ⟨mm_8, emm_8, h⟩ := thn_some h
      refine gS_i (x := ((mm_6 3 (mm_6 0 11).toNatClampNeg) + 1)) (ws' := (rM E am mm_8 ++ [])) C hG 3 rfl (inb_in b7) rfl dX12_nextToken_318 (by rw [emm_8]; rfl) (fun H locs hG => ?_)
      exact hret _ _ _ _ _ h hG dX12_nextToken_319
    · replace h := it c261 h
      exact hret _ _ _ _ _ h hG dX12_nextToken_264
  have K135 : ∀ (k85 : (RS → Option (RS))) (hk85 : ∀  (mm : RS) (H : Heap) (locs : List Loc) (ls : Array Slot), gG E A s.heap (rM E am mm ++ []) H locs → lv_has ls 3 [(0, .ref (am 0))] → k85 mm = some res → W p l e (rmD 4 0 0) s m args below meth c H locs 0 0 Q (F0 m 85 ls [])), ∀  (s1 : Int32) (mm : RS) (H : Heap) (locs : List Loc) (ls : Array Slot), gG E A s.heap (rM E am mm ++ []) H locs → lv_has ls 3 [(0, .ref (am 0))] → fX12_nextToken_L135 N k85 s1 mm = some res → W p l e (rmD 4 0 0) s m args below meth c H locs 0 0 Q (F0 m 135 ls [.int s1, .ref (am 0)]) := by
    intro k85 hk85 s1 mm H locs ls hG hl h
    rw [fX12_nextToken_L135] at h
    obtain ⟨mm_1, emm_1, h⟩ := thn_some h
    refine gS_f (v := .int s1) (ws' := (rM E am mm_1 ++ [])) C hG kX12 0 10 rfl (by decide) q1362 rfl rfl rfl rfl (by show 10 < 27; decide) dX12_nextToken_135 (by rw [emm_1]; rfl) (fun H locs hG => ?_)
    refine lv_aload_n hx hb dX12_nextToken_138 rfl (lv_at hl 0 rfl) ?_
    refine lv_dup hx hb dX12_nextToken_139 rfl ?_
    refine gL_f (v := .int (mm_1 0 7)) C hG kX12 0 7 rfl (by decide) rfl q1359 rfl dX12_nextToken_140 ?_
    refine lv_iconst (v := 1) hx hb dX12_nextToken_143 (by decide) ?_
    refine lv_iadd hx hb dX12_nextToken_144 ?_
    obtain ⟨mm_2, emm_2, h⟩ := thn_some h
    refine gS_f (v := .int ((mm_1 0 7) + 1)) (ws' := (rM E am mm_2 ++ [])) C hG kX12 0 7 rfl (by decide) q1359 rfl rfl rfl rfl (by show 7 < 27; decide) dX12_nextToken_145 (by rw [emm_2]; rfl) (fun H locs hG => ?_)
    refine lv_goto (tgt := 85) hx hb dX12_nextToken_148 (by decide) ?_
    exact hk85 mm_2 _ _ _ hG (lv_sub hl [0] rfl) h
  have K85 : ∀ (k : Nat), ∀  (mm : RS) (H : Heap) (locs : List Loc) (ls : Array Slot), gG E A s.heap (rM E am mm ++ []) H locs → lv_has ls 3 [(0, .ref (am 0))] → fX12_nextToken_L85 N k mm = some res → W p l e (rmD 4 0 0) s m args below meth c H locs 0 0 Q (F0 m 85 ls []) := by
    intro k
    induction k with
    | zero => intro mm H locs ls hG hl h; exact absurd (show none = _ from h) (by simp)
    | succ k ih =>
      intro mm H locs ls hG hl h
      rw [fX12_nextToken_L85] at h
      refine lv_aload_n hx hb dX12_nextToken_85 rfl (lv_at hl 0 rfl) ?_
      refine lv_aload_n hx hb dX12_nextToken_86 rfl (lv_at hl 0 rfl) ?_
      refine gL_f (v := .int (mm 0 7)) C hG kX12 0 7 rfl (by decide) rfl q1359 rfl dX12_nextToken_87 ?_
      obtain ⟨r1, hcr1, h⟩ := bnd_some h
      refine gF_i (ws' := (rM E am mm ++ [])) C hG (pin pnil) (List.Perm.symm (pin pnil)) (gR_V (As := [.int (mm 0 7)]) (rest := []) C hz hl.1 hG (pin pnil) (c_X12_byteAt l E am N (mm 0 7) mm hcr1 H.size) okX12_byteAt q1461 0 rfl rfl rfl (Nat.le_of_ble_eq_true rfl) (by omega) ⟨Nat.le_refl _, Nat.le_refl _⟩ dX12_nextToken_90) (fun H locs _ hG => ?_)
      refine gF_i (ws' := (rM E am mm ++ [])) C hG pst pst.symm (gR_S (As := [.int r1]) (rest := []) C hz hl.1 hG pst (c_X12_isFigure l E r1 rfl H.size) okX12_isFigure q1465 rfl (Nat.le_of_ble_eq_true rfl) (by omega) ⟨Nat.le_refl _, Nat.le_refl _⟩ dX12_nextToken_93) (fun H locs z2 hG => ?_)
      refine lv_if_eq (tgt := 257) hx hb dX12_nextToken_96 (by decide) (fun c96 => ?_) (fun c96 => ?_)
      · replace h := it c96 h
        exact K257 mm _ _ _ hG (lv_sub hl [0] rfl) h
      · replace h := ie c96 h
        refine lv_aload_n hx hb dX12_nextToken_99 rfl (lv_at hl 0 rfl) ?_
        refine lv_aload_n hx hb dX12_nextToken_100 rfl (lv_at hl 0 rfl) ?_
        refine gL_f (v := .int (mm 0 10)) C hG kX12 0 10 rfl (by decide) rfl q1362 rfl dX12_nextToken_101 ?_
        refine lv_ldc (v := 99999) hx hb hown (hts _ q1468) dX12_nextToken_104 ?_
        refine lv_icmp_le (tgt := 116) hx hb dX12_nextToken_106 (by decide) (fun c106 => ?_) (fun c106 => ?_)
        · replace h := it c106 h
          refine lv_bipush (v := 10) hx hb dX12_nextToken_116 (by decide) ?_
          refine lv_aload_n hx hb dX12_nextToken_118 rfl (lv_at hl 0 rfl) ?_
          refine gL_f (v := .int (mm 0 10)) C hG kX12 0 10 rfl (by decide) rfl q1362 rfl dX12_nextToken_119 ?_
          refine lv_imul hx hb dX12_nextToken_122 ?_
          refine lv_aload_n hx hb dX12_nextToken_123 rfl (lv_at hl 0 rfl) ?_
          refine lv_aload_n hx hb dX12_nextToken_124 rfl (lv_at hl 0 rfl) ?_
          refine gL_f (v := .int (mm 0 7)) C hG kX12 0 7 rfl (by decide) rfl q1359 rfl dX12_nextToken_125 ?_
          obtain ⟨r3, hcr3, h⟩ := bnd_some h
          refine gF_i (ws' := (rM E am mm ++ [])) C hG (pin pnil) (List.Perm.symm (pin pnil)) (gR_V (As := [.int (mm 0 7)]) (rest := [.int (10 * (mm 0 10)), .ref (am 0)]) C hz hl.1 hG (pin pnil) (c_X12_byteAt l E am N (mm 0 7) mm hcr3 H.size) okX12_byteAt q1461 0 rfl rfl rfl (Nat.le_of_ble_eq_true rfl) (by omega) ⟨Nat.le_refl _, Nat.le_refl _⟩ dX12_nextToken_128) (fun H locs _ hG => ?_)
          refine lv_iadd hx hb dX12_nextToken_131 ?_
          refine lv_bipush (v := 48) hx hb dX12_nextToken_132 (by decide) ?_
          refine lv_isub hx hb dX12_nextToken_134 ?_
          exact K135 _ ih (((10 * (mm 0 10)) + r3) - 48) mm _ _ _ hG (lv_sub hl [0] rfl) h
        · replace h := ie c106 h
          refine lv_aload_n hx hb dX12_nextToken_109 rfl (lv_at hl 0 rfl) ?_
          refine gL_f (v := .int (mm 0 10)) C hG kX12 0 10 rfl (by decide) rfl q1362 rfl dX12_nextToken_110 ?_
          refine lv_goto (tgt := 135) hx hb dX12_nextToken_113 (by decide) ?_
          exact K135 _ ih (mm 0 10) mm _ _ _ hG (lv_sub hl [0] rfl) h
  have K225 : ∀  (s1 : Int32) (mm : RS) (H : Heap) (locs : List Loc) (ls : Array Slot), gG E A s.heap (rM E am mm ++ []) H locs → lv_has ls 3 [(0, .ref (am 0))] → fX12_nextToken_L225 N s1 mm = some res → W p l e (rmD 4 0 0) s m args below meth c H locs 0 0 Q (F0 m 225 ls [.int s1, .ref (am 0)]) := by
    intro s1 mm H locs ls hG hl h
    rw [fX12_nextToken_L225] at h
    obtain ⟨mm_1, emm_1, h⟩ := thn_some h
    refine gS_f (v := .int s1) (ws' := (rM E am mm_1 ++ [])) C hG kX12 0 10 rfl (by decide) q1362 rfl rfl rfl rfl (by show 10 < 27; decide) dX12_nextToken_225 (by rw [emm_1]; rfl) (fun H locs hG => ?_)
    refine lv_goto (tgt := 257) hx hb dX12_nextToken_228 (by decide) ?_
    exact K257 mm_1 _ _ _ hG (lv_sub hl [0] rfl) h
  have K158 : ∀ (k : Nat), ∀  (x1 : Int32) (mm : RS) (H : Heap) (locs : List Loc) (ls : Array Slot), gG E A s.heap (rM E am mm ++ []) H locs → lv_has ls 3 [(0, .ref (am 0)), (1, .int x1)] → fX12_nextToken_L158 N k x1 mm = some res → W p l e (rmD 4 0 0) s m args below meth c H locs 0 0 Q (F0 m 158 ls []) := by
    intro k
    induction k with
    | zero => intro x1 mm H locs ls hG hl h; exact absurd (show none = _ from h) (by simp)
    | succ k ih =>
      intro x1 mm H locs ls hG hl h
      rw [fX12_nextToken_L158] at h
      refine lv_aload_n hx hb dX12_nextToken_158 rfl (lv_at hl 0 rfl) ?_
      refine lv_aload_n hx hb dX12_nextToken_159 rfl (lv_at hl 0 rfl) ?_
      refine gL_f (v := .int (mm 0 7)) C hG kX12 0 7 rfl (by decide) rfl q1359 rfl dX12_nextToken_160 ?_
      obtain ⟨r1, hcr1, h⟩ := bnd_some h
      refine gF_i (ws' := (rM E am mm ++ [])) C hG (pin pnil) (List.Perm.symm (pin pnil)) (gR_V (As := [.int (mm 0 7)]) (rest := []) C hz hl.1 hG (pin pnil) (c_X12_byteAt l E am N (mm 0 7) mm hcr1 H.size) okX12_byteAt q1461 0 rfl rfl rfl (Nat.le_of_ble_eq_true rfl) (by omega) ⟨Nat.le_refl _, Nat.le_refl _⟩ dX12_nextToken_163) (fun H locs _ hG => ?_)
      refine gF_i (ws' := (rM E am mm ++ [])) C hG pst pst.symm (gR_S (As := [.int r1]) (rest := []) C hz hl.1 hG pst (c_X12_isLetterByte l E r1 rfl H.size) okX12_isLetterByte q1469 rfl (Nat.le_of_ble_eq_true rfl) (by omega) ⟨Nat.le_refl _, Nat.le_refl _⟩ dX12_nextToken_166) (fun H locs z2 hG => ?_)
      refine lv_if_eq (tgt := 185) hx hb dX12_nextToken_169 (by decide) (fun c169 => ?_) (fun c169 => ?_)
      · replace h := it c169 h
        refine lv_aload_n hx hb dX12_nextToken_185 rfl (lv_at hl 0 rfl) ?_
        refine lv_aload_n hx hb dX12_nextToken_186 rfl (lv_at hl 0 rfl) ?_
        refine lv_aload_n hx hb dX12_nextToken_187 rfl (lv_at hl 0 rfl) ?_
        refine gL_f (v := .int (mm 0 8)) C hG kX12 0 8 rfl (by decide) rfl q1360 rfl dX12_nextToken_188 ?_
        refine lv_aload_n hx hb dX12_nextToken_191 rfl (lv_at hl 0 rfl) ?_
        refine gL_f (v := .int (mm 0 7)) C hG kX12 0 7 rfl (by decide) rfl q1359 rfl dX12_nextToken_192 ?_
        refine lv_aload_n hx hb dX12_nextToken_195 rfl (lv_at hl 0 rfl) ?_
        refine gL_f (v := .int (mm 0 8)) C hG kX12 0 8 rfl (by decide) rfl q1360 rfl dX12_nextToken_196 ?_
        refine lv_isub hx hb dX12_nextToken_199 ?_
        obtain ⟨r3, hcr3, h⟩ := bnd_some h
        refine gF_i (ws' := (rM E am mm ++ [])) C hG (pin pnil) (List.Perm.symm (pin pnil)) (gR_V (As := [.int (mm 0 8), .int ((mm 0 7) - (mm 0 8))]) (rest := [.ref (am 0)]) C hz hl.1 hG (pin pnil) (c_X12_wordOf l E am N (mm 0 8) ((mm 0 7) - (mm 0 8)) mm hcr3 H.size) okX12_wordOf q1472 0 rfl rfl rfl (Nat.le_of_ble_eq_true rfl) (by omega) ⟨Nat.le_refl _, Nat.le_refl _⟩ dX12_nextToken_200) (fun H locs _ hG => ?_)
        obtain ⟨mm_4, emm_4, h⟩ := thn_some h
        refine gS_f (v := .int r3) (ws' := (rM E am mm_4 ++ [])) C hG kX12 0 9 rfl (by decide) q1361 rfl rfl rfl rfl (by show 9 < 27; decide) dX12_nextToken_203 (by rw [emm_4]; rfl) (fun H locs hG => ?_)
        refine lv_aload_n hx hb dX12_nextToken_206 rfl (lv_at hl 0 rfl) ?_
        refine lv_aload_n hx hb dX12_nextToken_207 rfl (lv_at hl 0 rfl) ?_
        refine gL_f (v := .int (mm_4 0 9)) C hG kX12 0 9 rfl (by decide) rfl q1361 rfl dX12_nextToken_208 ?_
        refine lv_sipush (v := 207) hx hb dX12_nextToken_211 (by decide) ?_
        refine lv_icmp_ne (tgt := 224) hx hb dX12_nextToken_214 (by decide) (fun c214 => ?_) (fun c214 => ?_)
        · replace h := ie c214 h
          refine lv_iconst (v := 0) hx hb dX12_nextToken_224 (by decide) ?_
          exact K225 0 mm_4 _ _ _ hG (lv_sub hl [0] rfl) h
        · replace h := it c214 h
          refine lv_iload_n hx hb dX12_nextToken_217 rfl (lv_at hl 1 rfl) ?_
          refine lv_bipush (v := 97) hx hb dX12_nextToken_218 (by decide) ?_
          refine lv_isub hx hb dX12_nextToken_220 ?_
          refine lv_goto (tgt := 225) hx hb dX12_nextToken_221 (by decide) ?_
          exact K225 (x1 - 97) mm_4 _ _ _ hG (lv_sub hl [0] rfl) h
      · replace h := ie c169 h
        refine lv_aload_n hx hb dX12_nextToken_172 rfl (lv_at hl 0 rfl) ?_
        refine lv_dup hx hb dX12_nextToken_173 rfl ?_
        refine gL_f (v := .int (mm 0 7)) C hG kX12 0 7 rfl (by decide) rfl q1359 rfl dX12_nextToken_174 ?_
        refine lv_iconst (v := 1) hx hb dX12_nextToken_177 (by decide) ?_
        refine lv_iadd hx hb dX12_nextToken_178 ?_
        obtain ⟨mm_5, emm_5, h⟩ := thn_some h
        refine gS_f (v := .int ((mm 0 7) + 1)) (ws' := (rM E am mm_5 ++ [])) C hG kX12 0 7 rfl (by decide) q1359 rfl rfl rfl rfl (by show 7 < 27; decide) dX12_nextToken_179 (by rw [emm_5]; rfl) (fun H locs hG => ?_)
        refine lv_goto (tgt := 158) hx hb dX12_nextToken_182 (by decide) ?_
        exact ih x1 mm_5 _ _ _ hG (lv_sub hl [0, 1] rfl) h
  have K244 : ∀  (s1 : Int32) (mm : RS) (H : Heap) (locs : List Loc) (ls : Array Slot), gG E A s.heap (rM E am mm ++ []) H locs → lv_has ls 3 [(0, .ref (am 0))] → fX12_nextToken_L244 N s1 mm = some res → W p l e (rmD 4 0 0) s m args below meth c H locs 0 0 Q (F0 m 244 ls [.int s1, .ref (am 0)]) := by
    intro s1 mm H locs ls hG hl h
    rw [fX12_nextToken_L244] at h
    obtain ⟨mm_1, emm_1, h⟩ := thn_some h
    refine gS_f (v := .int s1) (ws' := (rM E am mm_1 ++ [])) C hG kX12 0 9 rfl (by decide) q1361 rfl rfl rfl rfl (by show 9 < 27; decide) dX12_nextToken_244 (by rw [emm_1]; rfl) (fun H locs hG => ?_)
    refine lv_aload_n hx hb dX12_nextToken_247 rfl (lv_at hl 0 rfl) ?_
    refine lv_dup hx hb dX12_nextToken_248 rfl ?_
    refine gL_f (v := .int (mm_1 0 7)) C hG kX12 0 7 rfl (by decide) rfl q1359 rfl dX12_nextToken_249 ?_
    refine lv_iconst (v := 1) hx hb dX12_nextToken_252 (by decide) ?_
    refine lv_iadd hx hb dX12_nextToken_253 ?_
    obtain ⟨mm_2, emm_2, h⟩ := thn_some h
    refine gS_f (v := .int ((mm_1 0 7) + 1)) (ws' := (rM E am mm_2 ++ [])) C hG kX12 0 7 rfl (by decide) q1359 rfl rfl rfl rfl (by show 7 < 27; decide) dX12_nextToken_254 (by rw [emm_2]; rfl) (fun H locs hG => ?_)
    exact K257 mm_2 _ _ _ hG (lv_sub hl [0] rfl) h
  have K0 : ∀ (k : Nat), ∀  (mm : RS) (H : Heap) (locs : List Loc) (ls : Array Slot), gG E A s.heap (rM E am mm ++ []) H locs → lv_has ls 3 [(0, .ref (am 0))] → fX12_nextToken_L0 N k mm = some res → W p l e (rmD 4 0 0) s m args below meth c H locs 0 0 Q (F0 m 0 ls []) := by
    intro k
    induction k with
    | zero => intro mm H locs ls hG hl h; exact absurd (show none = _ from h) (by simp)
    | succ k ih =>
      intro mm H locs ls hG hl h
      rw [fX12_nextToken_L0] at h
      refine lv_aload_n hx hb dX12_nextToken_0 rfl (lv_at hl 0 rfl) ?_
      refine lv_aload_n hx hb dX12_nextToken_1 rfl (lv_at hl 0 rfl) ?_
      refine gL_f (v := .int (mm 0 7)) C hG kX12 0 7 rfl (by decide) rfl q1359 rfl dX12_nextToken_2 ?_
      obtain ⟨r1, hcr1, h⟩ := bnd_some h
      refine gF_i (ws' := (rM E am mm ++ [])) C hG (pin pnil) (List.Perm.symm (pin pnil)) (gR_V (As := [.int (mm 0 7)]) (rest := []) C hz hl.1 hG (pin pnil) (c_X12_byteAt l E am N (mm 0 7) mm hcr1 H.size) okX12_byteAt q1461 0 rfl rfl rfl (Nat.le_of_ble_eq_true rfl) (by omega) ⟨Nat.le_refl _, Nat.le_refl _⟩ dX12_nextToken_5) (fun H locs _ hG => ?_)
      refine lv_bipush (v := 32) hx hb dX12_nextToken_8 (by decide) ?_
      refine lv_icmp_eq (tgt := 26) hx hb dX12_nextToken_10 (by decide) (fun c10 => ?_) (fun c10 => ?_)
      · replace h := it c10 h
        exact K26 _ ih mm _ _ _ hG (lv_sub hl [0] rfl) h
      · replace h := ie c10 h
        refine lv_aload_n hx hb dX12_nextToken_13 rfl (lv_at hl 0 rfl) ?_
        refine lv_aload_n hx hb dX12_nextToken_14 rfl (lv_at hl 0 rfl) ?_
        refine gL_f (v := .int (mm 0 7)) C hG kX12 0 7 rfl (by decide) rfl q1359 rfl dX12_nextToken_15 ?_
        obtain ⟨r2, hcr2, h⟩ := bnd_some h
        refine gF_i (ws' := (rM E am mm ++ [])) C hG (pin pnil) (List.Perm.symm (pin pnil)) (gR_V (As := [.int (mm 0 7)]) (rest := []) C hz hl.1 hG (pin pnil) (c_X12_byteAt l E am N (mm 0 7) mm hcr2 H.size) okX12_byteAt q1461 0 rfl rfl rfl (Nat.le_of_ble_eq_true rfl) (by omega) ⟨Nat.le_refl _, Nat.le_refl _⟩ dX12_nextToken_18) (fun H locs _ hG => ?_)
        refine lv_bipush (v := 10) hx hb dX12_nextToken_21 (by decide) ?_
        refine lv_icmp_ne (tgt := 39) hx hb dX12_nextToken_23 (by decide) (fun c23 => ?_) (fun c23 => ?_)
        · replace h := ie c23 h
          refine lv_aload_n hx hb dX12_nextToken_39 rfl (lv_at hl 0 rfl) ?_
          refine lv_aload_n hx hb dX12_nextToken_40 rfl (lv_at hl 0 rfl) ?_
          refine gL_f (v := .int (mm 0 7)) C hG kX12 0 7 rfl (by decide) rfl q1359 rfl dX12_nextToken_41 ?_
          obtain ⟨mm_3, emm_3, h⟩ := thn_some h
          refine gS_f (v := .int (mm 0 7)) (ws' := (rM E am mm_3 ++ [])) C hG kX12 0 8 rfl (by decide) q1360 rfl rfl rfl rfl (by show 8 < 27; decide) dX12_nextToken_44 (by rw [emm_3]; rfl) (fun H locs hG => ?_)
          refine lv_aload_n hx hb dX12_nextToken_47 rfl (lv_at hl 0 rfl) ?_
          refine lv_iconst (v := 0) hx hb dX12_nextToken_48 (by decide) ?_
          obtain ⟨mm_4, emm_4, h⟩ := thn_some h
          refine gS_f (v := .int 0) (ws' := (rM E am mm_4 ++ [])) C hG kX12 0 10 rfl (by decide) q1362 rfl rfl rfl rfl (by show 10 < 27; decide) dX12_nextToken_49 (by rw [emm_4]; rfl) (fun H locs hG => ?_)
          refine lv_aload_n hx hb dX12_nextToken_52 rfl (lv_at hl 0 rfl) ?_
          refine lv_aload_n hx hb dX12_nextToken_53 rfl (lv_at hl 0 rfl) ?_
          refine gL_f (v := .int (mm_4 0 7)) C hG kX12 0 7 rfl (by decide) rfl q1359 rfl dX12_nextToken_54 ?_
          obtain ⟨r5, hcr5, h⟩ := bnd_some h
          refine gF_i (ws' := (rM E am mm_4 ++ [])) C hG (pin pnil) (List.Perm.symm (pin pnil)) (gR_V (As := [.int (mm_4 0 7)]) (rest := []) C hz hl.1 hG (pin pnil) (c_X12_byteAt l E am N (mm_4 0 7) mm_4 hcr5 H.size) okX12_byteAt q1461 0 rfl rfl rfl (Nat.le_of_ble_eq_true rfl) (by omega) ⟨Nat.le_refl _, Nat.le_refl _⟩ dX12_nextToken_57) (fun H locs _ hG => ?_)
          refine lv_istore_n (lv' := [(1, .int r5), (0, .ref (am 0))]) hx hb dX12_nextToken_60 rfl hl (by decide) rfl (fun ls hl => ?_)
          refine lv_iload_n hx hb dX12_nextToken_61 rfl (lv_at hl 0 rfl) ?_
          refine lv_if_ge (tgt := 73) hx hb dX12_nextToken_62 (by decide) (fun c62 => ?_) (fun c62 => ?_)
          · replace h := it c62 h
            refine lv_iload_n hx hb dX12_nextToken_73 rfl (lv_at hl 0 rfl) ?_
            refine gF_i (ws' := (rM E am mm_4 ++ [])) C hG pst pst.symm (gR_S (As := [.int r5]) (rest := []) C hz hl.1 hG pst (c_X12_isFigure l E r5 rfl H.size) okX12_isFigure q1465 rfl (Nat.le_of_ble_eq_true rfl) (by omega) ⟨Nat.le_refl _, Nat.le_refl _⟩ dX12_nextToken_74) (fun H locs z6 hG => ?_)
            refine lv_if_eq (tgt := 151) hx hb dX12_nextToken_77 (by decide) (fun c77 => ?_) (fun c77 => ?_)
            · replace h := it c77 h
              refine lv_iload_n hx hb dX12_nextToken_151 rfl (lv_at hl 0 rfl) ?_
              refine gF_i (ws' := (rM E am mm_4 ++ [])) C hG pst pst.symm (gR_S (As := [.int r5]) (rest := []) C hz hl.1 hG pst (c_X12_isLetterByte l E r5 rfl H.size) okX12_isLetterByte q1469 rfl (Nat.le_of_ble_eq_true rfl) (by omega) ⟨Nat.le_refl _, Nat.le_refl _⟩ dX12_nextToken_152) (fun H locs z7 hG => ?_)
              refine lv_if_eq (tgt := 231) hx hb dX12_nextToken_155 (by decide) (fun c155 => ?_) (fun c155 => ?_)
              · replace h := it c155 h
                refine lv_aload_n hx hb dX12_nextToken_231 rfl (lv_at hl 1 rfl) ?_
                refine lv_iload_n hx hb dX12_nextToken_232 rfl (lv_at hl 0 rfl) ?_
                refine gF_i (ws' := (rM E am mm_4 ++ [])) C hG pst pst.symm (gR_S (As := [.int r5]) (rest := [.ref (am 0)]) C hz hl.1 hG pst (c_X12_isSign l E r5 rfl H.size) okX12_isSign q1480 rfl (Nat.le_of_ble_eq_true rfl) (by omega) ⟨Nat.le_refl _, Nat.le_refl _⟩ dX12_nextToken_233) (fun H locs z8 hG => ?_)
                refine lv_if_eq (tgt := 243) hx hb dX12_nextToken_236 (by decide) (fun c236 => ?_) (fun c236 => ?_)
                · replace h := it c236 h
                  refine lv_iconst (v := 2) hx hb dX12_nextToken_243 (by decide) ?_
                  exact K244 2 mm_4 _ _ _ hG (lv_sub hl [1] rfl) h
                · replace h := ie c236 h
                  refine lv_iload_n hx hb dX12_nextToken_239 rfl (lv_at hl 0 rfl) ?_
                  refine lv_goto (tgt := 244) hx hb dX12_nextToken_240 (by decide) ?_
                  exact K244 r5 mm_4 _ _ _ hG (lv_sub hl [1] rfl) h
              · replace h := ie c155 h
                exact K158 N r5 mm_4 _ _ _ hG (lv_sub hl [1, 0] rfl) h
            · replace h := ie c77 h
              refine lv_aload_n hx hb dX12_nextToken_80 rfl (lv_at hl 1 rfl) ?_
              refine lv_iconst (v := 1) hx hb dX12_nextToken_81 (by decide) ?_
              obtain ⟨mm_9, emm_9, h⟩ := thn_some h
              refine gS_f (v := .int 1) (ws' := (rM E am mm_9 ++ [])) C hG kX12 0 9 rfl (by decide) q1361 rfl rfl rfl rfl (by show 9 < 27; decide) dX12_nextToken_82 (by rw [emm_9]; rfl) (fun H locs hG => ?_)
              exact K85 N mm_9 _ _ _ hG (lv_sub hl [1] rfl) h
          · replace h := ie c62 h
            refine lv_aload_n hx hb dX12_nextToken_65 rfl (lv_at hl 1 rfl) ?_
            refine lv_iconst (v := 0) hx hb dX12_nextToken_66 (by decide) ?_
            obtain ⟨mm_10, emm_10, h⟩ := thn_some h
            refine gS_f (v := .int 0) (ws' := (rM E am mm_10 ++ [])) C hG kX12 0 9 rfl (by decide) q1361 rfl rfl rfl rfl (by show 9 < 27; decide) dX12_nextToken_67 (by rw [emm_10]; rfl) (fun H locs hG => ?_)
            refine lv_goto (tgt := 257) hx hb dX12_nextToken_70 (by decide) ?_
            exact K257 mm_10 _ _ _ hG (lv_sub hl [1] rfl) h
        · replace h := it c23 h
          exact K26 _ ih mm _ _ _ hG (lv_sub hl [0] rfl) h
  rw [fX12_nextToken] at h
  exact K0 N mm _ _ _ hG (lv_sub hl [0] rfl) h
set_option maxHeartbeats 4000000 in
set_option maxRecDepth 100000 in
theorem c_X12_one (l : Launch) (E : GE) (am : Nat → Nat) (N : Nat) (x1 : Int32) (mm : RS) {res : Int32 × RS} (h : fX12_one N x1 mm = some res) : gMi l E yX12_one cX12_one 2 .int 5 0 0 [.ref (am 0), .int x1] (rM E am mm ++ []) (rM E am res.2 ++ []) res.1 := by
  refine gMi_of (own := RX12) (by decide +kernel) rfl (Nat.le_of_ble_eq_true rfl) ?_
  intro p e s m args below meth c A ls Q H locs C hz hl hG hret
  have hx := C.1.1
  have hb := C.1.2.1
  have hts := C.1.2.2.2.2
  have hown := C.1.2.2.2.1
  have hl : lv_has ls 2 [(0, .ref (am 0)), (1, .int x1)] := hl
  replace hret : ∀ (r0 : Int32) (mm0 : RS) (H : Heap) (locs : List Loc) (pc : Nat) (ls' : Array Slot), some (r0, mm0) = some res → narrow .int (.int r0) = .int r0 → gG E A s.heap (rM E am mm0 ++ []) H locs → decode cX12_one pc = .ok (.ireturn, 1) → W p l e (rmD 5 0 0) s m args below meth c H locs 0 0 Q (F0 m pc ls' [.int r0]) := by
    intro r0 mm0 H locs pc ls' e0 hn; cases e0; exact hret H locs pc ls' hn
  have K42 : ∀  (mm : RS) (H : Heap) (locs : List Loc) (ls : Array Slot), gG E A s.heap (rM E am mm ++ []) H locs → lv_has ls 2 [(0, .ref (am 0))] → fX12_one_L42 N x1 mm = some res → W p l e (rmD 5 0 0) s m args below meth c H locs 0 0 Q (F0 m 42 ls []) := by
    intro mm H locs ls hG hl h
    rw [fX12_one_L42] at h
    refine lv_aload_n hx hb dX12_one_42 rfl (lv_at hl 0 rfl) ?_
    obtain ⟨r1, hcr1, h⟩ := bnd_some h
    refine gF_v (ws' := (rM E am r1 ++ [])) C hG (pin pnil) (List.Perm.symm (pin pnil)) (gR_V (As := []) (rest := []) C hz hl.1 hG (pin pnil) (c_X12_nextToken l E am N mm hcr1 H.size) okX12_nextToken q1457 0 rfl rfl rfl (Nat.le_of_ble_eq_true rfl) (by omega) ⟨Nat.le_refl _, Nat.le_refl _⟩ dX12_one_43) (fun H locs hG => ?_)
    refine lv_iconst (v := 0) hx hb dX12_one_46 (by decide) ?_
    exact hret _ _ _ _ _ _ h rfl hG dX12_one_47
  rw [fX12_one] at h
  refine lv_aload_n hx hb dX12_one_0 rfl (lv_at hl 0 rfl) ?_
  refine gL_f (v := .int (mm 0 9)) C hG kX12 0 9 rfl (by decide) rfl q1361 rfl dX12_one_1 ?_
  refine lv_sipush (v := 207) hx hb dX12_one_4 (by decide) ?_
  refine lv_icmp_ne (tgt := 20) hx hb dX12_one_7 (by decide) (fun c7 => ?_) (fun c7 => ?_)
  · replace h := ie c7 h
    refine lv_aload_n hx hb dX12_one_20 rfl (lv_at hl 0 rfl) ?_
    refine gL_f (v := .int (mm 0 9)) C hG kX12 0 9 rfl (by decide) rfl q1361 rfl dX12_one_21 ?_
    refine lv_iconst (v := 1) hx hb dX12_one_24 (by decide) ?_
    refine lv_icmp_eq (tgt := 30) hx hb dX12_one_25 (by decide) (fun c25 => ?_) (fun c25 => ?_)
    · replace h := it c25 h
      refine lv_aload_n hx hb dX12_one_30 rfl (lv_at hl 0 rfl) ?_
      refine gL_f (v := .int (mm 0 10)) C hG kX12 0 10 rfl (by decide) rfl q1362 rfl dX12_one_31 ?_
      refine lv_sipush (v := 9999) hx hb dX12_one_34 (by decide) ?_
      refine lv_icmp_le (tgt := 42) hx hb dX12_one_37 (by decide) (fun c37 => ?_) (fun c37 => ?_)
      · replace h := it c37 h
        exact K42 mm _ _ _ hG (lv_sub hl [0] rfl) h
      · replace h := ie c37 h
        refine lv_iconst (v := 2) hx hb dX12_one_40 (by decide) ?_
        exact hret _ _ _ _ _ _ h rfl hG dX12_one_41
    · replace h := ie c25 h
      refine lv_iconst (v := 1) hx hb dX12_one_28 (by decide) ?_
      exact hret _ _ _ _ _ _ h rfl hG dX12_one_29
  · replace h := it c7 h
    refine lv_aload_n hx hb dX12_one_10 rfl (lv_at hl 0 rfl) ?_
    refine gL_f (v := .int (mm 0 10)) C hG kX12 0 10 rfl (by decide) rfl q1362 rfl dX12_one_11 ?_
    refine lv_iload_n hx hb dX12_one_14 rfl (lv_at hl 1 rfl) ?_
    refine lv_icmp_lt (tgt := 42) hx hb dX12_one_15 (by decide) (fun c15 => ?_) (fun c15 => ?_)
    · replace h := it c15 h
      exact K42 mm _ _ _ hG (lv_sub hl [0] rfl) h
    · replace h := ie c15 h
      refine lv_iconst (v := 4) hx hb dX12_one_18 (by decide) ?_
      exact hret _ _ _ _ _ _ h rfl hG dX12_one_19
set_option maxHeartbeats 4000000 in
set_option maxRecDepth 100000 in
theorem c_X12_summed (l : Launch) (E : GE) (am : Nat → Nat) (N : Nat) (x1 : Int32) (mm : RS) {res : Int32 × RS} (h : fX12_summed N x1 mm = some res) : gMi l E yX12_summed cX12_summed 3 .int 6 0 0 [.ref (am 0), .int x1] (rM E am mm ++ []) (rM E am res.2 ++ []) res.1 := by
  refine gMi_of (own := RX12) (by decide +kernel) rfl (Nat.le_of_ble_eq_true rfl) ?_
  intro p e s m args below meth c A ls Q H locs C hz hl hG hret
  have hx := C.1.1
  have hb := C.1.2.1
  have hts := C.1.2.2.2.2
  have hown := C.1.2.2.2.1
  have hl : lv_has ls 3 [(0, .ref (am 0)), (1, .int x1)] := hl
  replace hret : ∀ (r0 : Int32) (mm0 : RS) (H : Heap) (locs : List Loc) (pc : Nat) (ls' : Array Slot), some (r0, mm0) = some res → narrow .int (.int r0) = .int r0 → gG E A s.heap (rM E am mm0 ++ []) H locs → decode cX12_summed pc = .ok (.ireturn, 1) → W p l e (rmD 6 0 0) s m args below meth c H locs 0 0 Q (F0 m pc ls' [.int r0]) := by
    intro r0 mm0 H locs pc ls' e0 hn; cases e0; exact hret H locs pc ls' hn
  have K28 : ∀ (k6 : (Int32 → RS → Option (Int32 × RS))) (hk6 : ∀  (x2 : Int32) (mm : RS) (H : Heap) (locs : List Loc) (ls : Array Slot), gG E A s.heap (rM E am mm ++ []) H locs → lv_has ls 3 [(0, .ref (am 0)), (1, .int x1), (2, .int x2)] → k6 x2 mm = some res → W p l e (rmD 6 0 0) s m args below meth c H locs 0 0 Q (F0 m 6 ls [])), ∀  (mm : RS) (H : Heap) (locs : List Loc) (ls : Array Slot), gG E A s.heap (rM E am mm ++ []) H locs → lv_has ls 3 [(0, .ref (am 0)), (1, .int x1)] → fX12_summed_L28 N x1 k6 mm = some res → W p l e (rmD 6 0 0) s m args below meth c H locs 0 0 Q (F0 m 28 ls []) := by
    intro k6 hk6 mm H locs ls hG hl h
    rw [fX12_summed_L28] at h
    refine lv_aload_n hx hb dX12_summed_28 rfl (lv_at hl 0 rfl) ?_
    obtain ⟨r1, hcr1, h⟩ := bnd_some h
    refine gF_v (ws' := (rM E am r1 ++ [])) C hG (pin pnil) (List.Perm.symm (pin pnil)) (gR_V (As := []) (rest := []) C hz hl.1 hG (pin pnil) (c_X12_nextToken l E am N mm hcr1 H.size) okX12_nextToken q1457 0 rfl rfl rfl (Nat.le_of_ble_eq_true rfl) (by omega) ⟨Nat.le_refl _, Nat.le_refl _⟩ dX12_summed_29) (fun H locs hG => ?_)
    refine lv_aload_n hx hb dX12_summed_32 rfl (lv_at hl 0 rfl) ?_
    refine lv_iload_n hx hb dX12_summed_33 rfl (lv_at hl 1 rfl) ?_
    obtain ⟨r2, hcr2, h⟩ := bnd_some h
    refine gF_i (ws' := (rM E am r2.2 ++ [])) C hG (pin pnil) (List.Perm.symm (pin pnil)) (gR_V (As := [.int x1]) (rest := []) C hz hl.1 hG (pin pnil) (c_X12_one l E am N x1 r1 hcr2 H.size) okX12_one q1499 0 rfl rfl rfl (Nat.le_of_ble_eq_true rfl) (by omega) ⟨Nat.le_refl _, Nat.le_refl _⟩ dX12_summed_34) (fun H locs _ hG => ?_)
    refine lv_istore_n (lv' := [(2, .int r2.1), (0, .ref (am 0)), (1, .int x1)]) hx hb dX12_summed_37 rfl hl (by decide) rfl (fun ls hl => ?_)
    refine lv_goto (tgt := 6) hx hb dX12_summed_38 (by decide) ?_
    exact hk6 r2.1 r2.2 _ _ _ hG (lv_sub hl [1, 2, 0] rfl) h
  have K6 : ∀ (k : Nat), ∀  (x2 : Int32) (mm : RS) (H : Heap) (locs : List Loc) (ls : Array Slot), gG E A s.heap (rM E am mm ++ []) H locs → lv_has ls 3 [(0, .ref (am 0)), (1, .int x1), (2, .int x2)] → fX12_summed_L6 N x1 k x2 mm = some res → W p l e (rmD 6 0 0) s m args below meth c H locs 0 0 Q (F0 m 6 ls []) := by
    intro k
    induction k with
    | zero => intro x2 mm H locs ls hG hl h; exact absurd (show none = _ from h) (by simp)
    | succ k ih =>
      intro x2 mm H locs ls hG hl h
      rw [fX12_summed_L6] at h
      refine lv_iload_n hx hb dX12_summed_6 rfl (lv_at hl 2 rfl) ?_
      refine lv_if_ne (tgt := 41) hx hb dX12_summed_7 (by decide) (fun c7 => ?_) (fun c7 => ?_)
      · replace h := ie c7 h
        refine lv_iload_n hx hb dX12_summed_41 rfl (lv_at hl 2 rfl) ?_
        exact hret _ _ _ _ _ _ h rfl hG dX12_summed_42
      · replace h := it c7 h
        refine lv_aload_n hx hb dX12_summed_10 rfl (lv_at hl 0 rfl) ?_
        refine gL_f (v := .int (mm 0 9)) C hG kX12 0 9 rfl (by decide) rfl q1361 rfl dX12_summed_11 ?_
        refine lv_bipush (v := 42) hx hb dX12_summed_14 (by decide) ?_
        refine lv_icmp_eq (tgt := 28) hx hb dX12_summed_16 (by decide) (fun c16 => ?_) (fun c16 => ?_)
        · replace h := it c16 h
          exact K28 _ ih mm _ _ _ hG (lv_sub hl [0, 1] rfl) h
        · replace h := ie c16 h
          refine lv_aload_n hx hb dX12_summed_19 rfl (lv_at hl 0 rfl) ?_
          refine gL_f (v := .int (mm 0 9)) C hG kX12 0 9 rfl (by decide) rfl q1361 rfl dX12_summed_20 ?_
          refine lv_bipush (v := 43) hx hb dX12_summed_23 (by decide) ?_
          refine lv_icmp_ne (tgt := 41) hx hb dX12_summed_25 (by decide) (fun c25 => ?_) (fun c25 => ?_)
          · replace h := ie c25 h
            refine lv_iload_n hx hb dX12_summed_41 rfl (lv_at hl 2 rfl) ?_
            exact hret _ _ _ _ _ _ h rfl hG dX12_summed_42
          · replace h := it c25 h
            exact K28 _ ih mm _ _ _ hG (lv_sub hl [0, 1] rfl) h
  rw [fX12_summed] at h
  refine lv_aload_n hx hb dX12_summed_0 rfl (lv_at hl 0 rfl) ?_
  refine lv_iload_n hx hb dX12_summed_1 rfl (lv_at hl 1 rfl) ?_
  obtain ⟨r1, hcr1, h⟩ := bnd_some h
  refine gF_i (ws' := (rM E am r1.2 ++ [])) C hG (pin pnil) (List.Perm.symm (pin pnil)) (gR_V (As := [.int x1]) (rest := []) C hz hl.1 hG (pin pnil) (c_X12_one l E am N x1 mm hcr1 H.size) okX12_one q1499 0 rfl rfl rfl (Nat.le_of_ble_eq_true rfl) (by omega) ⟨Nat.le_refl _, Nat.le_refl _⟩ dX12_summed_2) (fun H locs _ hG => ?_)
  refine lv_istore_n (lv' := [(2, .int r1.1), (0, .ref (am 0)), (1, .int x1)]) hx hb dX12_summed_5 rfl hl (by decide) rfl (fun ls hl => ?_)
  exact K6 N r1.1 r1.2 _ _ _ hG (lv_sub hl [1, 2, 0] rfl) h
set_option maxHeartbeats 4000000 in
set_option maxRecDepth 100000 in
theorem c_X12_sums (l : Launch) (E : GE) (am : Nat → Nat) (N : Nat) (x1 : Int32) (x2 : Int32) (mm : RS) {res : Int32 × RS} (h : fX12_sums N x1 x2 mm = some res) : gMi l E yX12_sums cX12_sums 5 .int 7 0 0 [.ref (am 0), .int x1, .int x2] (rM E am mm ++ []) (rM E am res.2 ++ []) res.1 := by
  refine gMi_of (own := RX12) (by decide +kernel) rfl (Nat.le_of_ble_eq_true rfl) ?_
  intro p e s m args below meth c A ls Q H locs C hz hl hG hret
  have hx := C.1.1
  have hb := C.1.2.1
  have hts := C.1.2.2.2.2
  have hown := C.1.2.2.2.1
  have hl : lv_has ls 5 [(0, .ref (am 0)), (1, .int x1), (2, .int x2)] := hl
  replace hret : ∀ (r0 : Int32) (mm0 : RS) (H : Heap) (locs : List Loc) (pc : Nat) (ls' : Array Slot), some (r0, mm0) = some res → narrow .int (.int r0) = .int r0 → gG E A s.heap (rM E am mm0 ++ []) H locs → decode cX12_sums pc = .ok (.ireturn, 1) → W p l e (rmD 7 0 0) s m args below meth c H locs 0 0 Q (F0 m pc ls' [.int r0]) := by
    intro r0 mm0 H locs pc ls' e0 hn; cases e0; exact hret H locs pc ls' hn
  have K26 : ∀ (k2 : (Int32 → RS → Option (Int32 × RS))) (hk2 : ∀  (x3 : Int32) (mm : RS) (H : Heap) (locs : List Loc) (ls : Array Slot), gG E A s.heap (rM E am mm ++ []) H locs → lv_has ls 5 [(0, .ref (am 0)), (1, .int x1), (2, .int x2), (3, .int x3)] → k2 x3 mm = some res → W p l e (rmD 7 0 0) s m args below meth c H locs 0 0 Q (F0 m 2 ls [])), ∀  (x3 : Int32) (mm : RS) (H : Heap) (locs : List Loc) (ls : Array Slot), gG E A s.heap (rM E am mm ++ []) H locs → lv_has ls 5 [(0, .ref (am 0)), (1, .int x1), (2, .int x2), (3, .int x3)] → fX12_sums_L26 N x1 x2 k2 x3 mm = some res → W p l e (rmD 7 0 0) s m args below meth c H locs 0 0 Q (F0 m 26 ls []) := by
    intro k2 hk2 x3 mm H locs ls hG hl h
    rw [fX12_sums_L26] at h
    refine lv_aload_n hx hb dX12_sums_26 rfl (lv_at hl 0 rfl) ?_
    refine lv_iload_n hx hb dX12_sums_27 rfl (lv_at hl 2 rfl) ?_
    obtain ⟨r1, hcr1, h⟩ := bnd_some h
    refine gF_i (ws' := (rM E am r1.2 ++ [])) C hG (pin pnil) (List.Perm.symm (pin pnil)) (gR_V (As := [.int x2]) (rest := []) C hz hl.1 hG (pin pnil) (c_X12_summed l E am N x2 mm hcr1 H.size) okX12_summed q1495 0 rfl rfl rfl (Nat.le_of_ble_eq_true rfl) (by omega) ⟨Nat.le_refl _, Nat.le_refl _⟩ dX12_sums_28) (fun H locs _ hG => ?_)
    refine lv_istore (lv' := [(4, .int r1.1), (0, .ref (am 0)), (1, .int x1), (2, .int x2), (3, .int x3)]) hx hb dX12_sums_31 hl (by decide) rfl (fun ls hl => ?_)
    refine lv_iload hx hb dX12_sums_33 (lv_at hl 0 rfl) ?_
    refine lv_if_eq (tgt := 41) hx hb dX12_sums_35 (by decide) (fun c35 => ?_) (fun c35 => ?_)
    · replace h := it c35 h
      refine lv_iinc (v := (x3 + 1)) (lv' := [(3, .int (x3 + 1)), (4, .int r1.1), (0, .ref (am 0)), (1, .int x1), (2, .int x2)]) hx hb dX12_sums_41 hl (k := 4) rfl (congrArg (x3 + ·) (by decide : Int32.ofInt 1 = 1)) (by decide) rfl (fun ls hl => ?_)
      refine lv_goto (tgt := 2) hx hb dX12_sums_44 (by decide) ?_
      exact hk2 (x3 + 1) r1.2 _ _ _ hG (lv_sub hl [2, 3, 4, 0] rfl) h
    · replace h := ie c35 h
      refine lv_iload hx hb dX12_sums_38 (lv_at hl 0 rfl) ?_
      exact hret _ _ _ _ _ _ h rfl hG dX12_sums_40
  have K2 : ∀ (k : Nat), ∀  (x3 : Int32) (mm : RS) (H : Heap) (locs : List Loc) (ls : Array Slot), gG E A s.heap (rM E am mm ++ []) H locs → lv_has ls 5 [(0, .ref (am 0)), (1, .int x1), (2, .int x2), (3, .int x3)] → fX12_sums_L2 N x1 x2 k x3 mm = some res → W p l e (rmD 7 0 0) s m args below meth c H locs 0 0 Q (F0 m 2 ls []) := by
    intro k
    induction k with
    | zero => intro x3 mm H locs ls hG hl h; exact absurd (show none = _ from h) (by simp)
    | succ k ih =>
      intro x3 mm H locs ls hG hl h
      rw [fX12_sums_L2] at h
      refine lv_iload_n hx hb dX12_sums_2 rfl (lv_at hl 3 rfl) ?_
      refine lv_iload_n hx hb dX12_sums_3 rfl (lv_at hl 1 rfl) ?_
      refine lv_icmp_ge (tgt := 47) hx hb dX12_sums_4 (by decide) (fun c4 => ?_) (fun c4 => ?_)
      · replace h := it c4 h
        refine lv_aload_n hx hb dX12_sums_47 rfl (lv_at hl 0 rfl) ?_
        refine gL_f (v := .int (mm 0 9)) C hG kX12 0 9 rfl (by decide) rfl q1361 rfl dX12_sums_48 ?_
        refine lv_bipush (v := 59) hx hb dX12_sums_51 (by decide) ?_
        refine lv_icmp_eq (tgt := 58) hx hb dX12_sums_53 (by decide) (fun c53 => ?_) (fun c53 => ?_)
        · replace h := it c53 h
          refine lv_aload_n hx hb dX12_sums_58 rfl (lv_at hl 0 rfl) ?_
          obtain ⟨r1, hcr1, h⟩ := bnd_some h
          refine gF_v (ws' := (rM E am r1 ++ [])) C hG (pin pnil) (List.Perm.symm (pin pnil)) (gR_V (As := []) (rest := []) C hz hl.1 hG (pin pnil) (c_X12_nextToken l E am N mm hcr1 H.size) okX12_nextToken q1457 0 rfl rfl rfl (Nat.le_of_ble_eq_true rfl) (by omega) ⟨Nat.le_refl _, Nat.le_refl _⟩ dX12_sums_59) (fun H locs hG => ?_)
          refine lv_iconst (v := 0) hx hb dX12_sums_62 (by decide) ?_
          exact hret _ _ _ _ _ _ h rfl hG dX12_sums_63
        · replace h := ie c53 h
          refine lv_iconst (v := 1) hx hb dX12_sums_56 (by decide) ?_
          exact hret _ _ _ _ _ _ h rfl hG dX12_sums_57
      · replace h := ie c4 h
        refine lv_iload_n hx hb dX12_sums_7 rfl (lv_at hl 3 rfl) ?_
        refine lv_if_le (tgt := 26) hx hb dX12_sums_8 (by decide) (fun c8 => ?_) (fun c8 => ?_)
        · replace h := it c8 h
          exact K26 _ ih x3 mm _ _ _ hG (lv_sub hl [0, 1, 2, 3] rfl) h
        · replace h := ie c8 h
          refine lv_aload_n hx hb dX12_sums_11 rfl (lv_at hl 0 rfl) ?_
          refine gL_f (v := .int (mm 0 9)) C hG kX12 0 9 rfl (by decide) rfl q1361 rfl dX12_sums_12 ?_
          refine lv_bipush (v := 44) hx hb dX12_sums_15 (by decide) ?_
          refine lv_icmp_eq (tgt := 22) hx hb dX12_sums_17 (by decide) (fun c17 => ?_) (fun c17 => ?_)
          · replace h := it c17 h
            refine lv_aload_n hx hb dX12_sums_22 rfl (lv_at hl 0 rfl) ?_
            obtain ⟨r2, hcr2, h⟩ := bnd_some h
            refine gF_v (ws' := (rM E am r2 ++ [])) C hG (pin pnil) (List.Perm.symm (pin pnil)) (gR_V (As := []) (rest := []) C hz hl.1 hG (pin pnil) (c_X12_nextToken l E am N mm hcr2 H.size) okX12_nextToken q1457 0 rfl rfl rfl (Nat.le_of_ble_eq_true rfl) (by omega) ⟨Nat.le_refl _, Nat.le_refl _⟩ dX12_sums_23) (fun H locs hG => ?_)
            exact K26 _ ih x3 r2 _ _ _ hG (lv_sub hl [0, 1, 2, 3] rfl) h
          · replace h := ie c17 h
            refine lv_iconst (v := 1) hx hb dX12_sums_20 (by decide) ?_
            exact hret _ _ _ _ _ _ h rfl hG dX12_sums_21
  rw [fX12_sums] at h
  refine lv_iconst (v := 0) hx hb dX12_sums_0 (by decide) ?_
  refine lv_istore_n (lv' := [(3, .int 0), (0, .ref (am 0)), (1, .int x1), (2, .int x2)]) hx hb dX12_sums_1 rfl hl (by decide) rfl (fun ls hl => ?_)
  exact K2 N 0 mm _ _ _ hG (lv_sub hl [1, 2, 3, 0] rfl) h
set_option maxHeartbeats 4000000 in
set_option maxRecDepth 100000 in
theorem c_X12_opened (l : Launch) (E : GE) (am : Nat → Nat) (N : Nat) (x1 : Int32) (mm : RS) {res : Int32 × RS} (h : fX12_opened N x1 mm = some res) : gMi l E yX12_opened cX12_opened 2 .int 5 0 0 [.ref (am 0), .int x1] (rM E am mm ++ []) (rM E am res.2 ++ []) res.1 := by
  refine gMi_of (own := RX12) (by decide +kernel) rfl (Nat.le_of_ble_eq_true rfl) ?_
  intro p e s m args below meth c A ls Q H locs C hz hl hG hret
  have hx := C.1.1
  have hb := C.1.2.1
  have hts := C.1.2.2.2.2
  have hown := C.1.2.2.2.1
  have hl : lv_has ls 2 [(0, .ref (am 0)), (1, .int x1)] := hl
  replace hret : ∀ (r0 : Int32) (mm0 : RS) (H : Heap) (locs : List Loc) (pc : Nat) (ls' : Array Slot), some (r0, mm0) = some res → narrow .int (.int r0) = .int r0 → gG E A s.heap (rM E am mm0 ++ []) H locs → decode cX12_opened pc = .ok (.ireturn, 1) → W p l e (rmD 5 0 0) s m args below meth c H locs 0 0 Q (F0 m pc ls' [.int r0]) := by
    intro r0 mm0 H locs pc ls' e0 hn; cases e0; exact hret H locs pc ls' hn
  have K45 : ∀  (s1 : Int32) (s2 : Int32) (mm : RS) (H : Heap) (locs : List Loc) (ls : Array Slot), gG E A s.heap (rM E am mm ++ []) H locs → lv_has ls 2 [(0, .ref (am 0))] → fX12_opened_L45 N x1 s1 s2 mm = some res → W p l e (rmD 5 0 0) s m args below meth c H locs 0 0 Q (F0 m 45 ls [.int s2, .int s1, .ref (am 0)]) := by
    intro s1 s2 mm H locs ls hG hl h
    rw [fX12_opened_L45] at h
    refine lv_iadd hx hb dX12_opened_45 ?_
    obtain ⟨mm_1, emm_1, h⟩ := thn_some h
    refine gS_f (v := .int (s1 + s2)) (ws' := (rM E am mm_1 ++ [])) C hG kX12 0 15 rfl (by decide) q1367 rfl rfl rfl rfl (by show 15 < 27; decide) dX12_opened_46 (by rw [emm_1]; rfl) (fun H locs hG => ?_)
    refine lv_aload_n hx hb dX12_opened_49 rfl (lv_at hl 0 rfl) ?_
    obtain ⟨r2, hcr2, h⟩ := bnd_some h
    refine gF_v (ws' := (rM E am r2 ++ [])) C hG (pin pnil) (List.Perm.symm (pin pnil)) (gR_V (As := []) (rest := []) C hz hl.1 hG (pin pnil) (c_X12_nextToken l E am N mm_1 hcr2 H.size) okX12_nextToken q1457 0 rfl rfl rfl (Nat.le_of_ble_eq_true rfl) (by omega) ⟨Nat.le_refl _, Nat.le_refl _⟩ dX12_opened_50) (fun H locs hG => ?_)
    refine lv_iconst (v := 0) hx hb dX12_opened_53 (by decide) ?_
    exact hret _ _ _ _ _ _ h rfl hG dX12_opened_54
  rw [fX12_opened] at h
  refine lv_aload_n hx hb dX12_opened_0 rfl (lv_at hl 0 rfl) ?_
  refine gL_f (v := .int (mm 0 9)) C hG kX12 0 9 rfl (by decide) rfl q1361 rfl dX12_opened_1 ?_
  refine lv_bipush (v := 123) hx hb dX12_opened_4 (by decide) ?_
  refine lv_icmp_eq (tgt := 11) hx hb dX12_opened_6 (by decide) (fun c6 => ?_) (fun c6 => ?_)
  · replace h := it c6 h
    refine lv_aload_n hx hb dX12_opened_11 rfl (lv_at hl 0 rfl) ?_
    refine gL_f (v := .ref (am 5)) C hG kX12 0 13 rfl (by decide) rfl q1365 rfl dX12_opened_12 ?_
    refine lv_aload_n hx hb dX12_opened_15 rfl (lv_at hl 0 rfl) ?_
    refine gL_f (v := .int (mm 0 14)) C hG kX12 0 14 rfl (by decide) rfl q1366 rfl dX12_opened_16 ?_
    refine lv_iload_n hx hb dX12_opened_19 rfl (lv_at hl 1 rfl) ?_
    obtain ⟨b1, h⟩ := ck_some h
    obtain ⟨b2, h⟩ := ck_some h
    obtain ⟨mm_3, emm_3, h⟩ := thn_some h
    refine gS_z (x := x1) (ws' := (rM E am mm_3 ++ [])) C hG 5 rfl (inb_in b1) rfl (isB_v b2) dX12_opened_20 (by rw [emm_3]; rfl) (fun H locs hG => ?_)
    refine lv_aload_n hx hb dX12_opened_21 rfl (lv_at hl 0 rfl) ?_
    refine lv_dup hx hb dX12_opened_22 rfl ?_
    refine gL_f (v := .int (mm_3 0 14)) C hG kX12 0 14 rfl (by decide) rfl q1366 rfl dX12_opened_23 ?_
    refine lv_iconst (v := 1) hx hb dX12_opened_26 (by decide) ?_
    refine lv_iadd hx hb dX12_opened_27 ?_
    obtain ⟨mm_4, emm_4, h⟩ := thn_some h
    refine gS_f (v := .int ((mm_3 0 14) + 1)) (ws' := (rM E am mm_4 ++ [])) C hG kX12 0 14 rfl (by decide) q1366 rfl rfl rfl rfl (by show 14 < 27; decide) dX12_opened_28 (by rw [emm_4]; rfl) (fun H locs hG => ?_)
    refine lv_aload_n hx hb dX12_opened_31 rfl (lv_at hl 0 rfl) ?_
    refine lv_dup hx hb dX12_opened_32 rfl ?_
    refine gL_f (v := .int (mm_4 0 15)) C hG kX12 0 15 rfl (by decide) rfl q1367 rfl dX12_opened_33 ?_
    refine lv_iload_n hx hb dX12_opened_36 rfl (lv_at hl 1 rfl) ?_
    refine lv_if_eq (tgt := 44) hx hb dX12_opened_37 (by decide) (fun c37 => ?_) (fun c37 => ?_)
    · replace h := it c37 h
      refine lv_iconst (v := 0) hx hb dX12_opened_44 (by decide) ?_
      exact K45 (mm_4 0 15) 0 mm_4 _ _ _ hG (lv_sub hl [0] rfl) h
    · replace h := ie c37 h
      refine lv_iconst (v := 1) hx hb dX12_opened_40 (by decide) ?_
      refine lv_goto (tgt := 45) hx hb dX12_opened_41 (by decide) ?_
      exact K45 (mm_4 0 15) 1 mm_4 _ _ _ hG (lv_sub hl [0] rfl) h
  · replace h := ie c6 h
    refine lv_iconst (v := 1) hx hb dX12_opened_9 (by decide) ?_
    exact hret _ _ _ _ _ _ h rfl hG dX12_opened_10
set_option maxHeartbeats 4000000 in
set_option maxRecDepth 100000 in
theorem c_X12_closed (l : Launch) (E : GE) (am : Nat → Nat) (N : Nat) (mm : RS) {res : RS} (h : fX12_closed N mm = some res) : gMv l E yX12_closed cX12_closed 1 5 0 0 [.ref (am 0)] (rM E am mm ++ []) (rM E am res ++ []) := by
  refine gMv_of (own := RX12) (by decide +kernel) rfl (Nat.le_of_ble_eq_true rfl) ?_
  intro p e s m args below meth c A ls Q H locs C hz hl hG hin hret
  have hx := C.1.1
  have hb := C.1.2.1
  have hts := C.1.2.2.2.2
  have hown := C.1.2.2.2.1
  have hl : lv_has ls 1 [(0, .ref (am 0))] := hl
  replace hret : ∀ (mm0 : RS) (H : Heap) (locs : List Loc) (pc : Nat) (ls' : Array Slot), some mm0 = some res → gG E A s.heap (rM E am mm0 ++ []) H locs → decode cX12_closed pc = .ok (.return_, 1) → W p l e (rmD 5 0 0) s m args below meth c H locs 0 0 Q (F0 m pc ls' []) := by
    intro mm0 H locs pc ls' e0; cases e0; exact hret H locs pc ls'
  have K32 : ∀  (s1 : Int32) (s2 : Int32) (mm : RS) (H : Heap) (locs : List Loc) (ls : Array Slot), gG E A s.heap (rM E am mm ++ []) H locs → lv_has ls 1 [(0, .ref (am 0))] → fX12_closed_L32 N s1 s2 mm = some res → W p l e (rmD 5 0 0) s m args below meth c H locs 0 0 Q (F0 m 32 ls [.int s2, .int s1, .ref (am 0)]) := by
    intro s1 s2 mm H locs ls hG hl h
    rw [fX12_closed_L32] at h
    refine lv_isub hx hb dX12_closed_32 ?_
    obtain ⟨mm_1, emm_1, h⟩ := thn_some h
    refine gS_f (v := .int (s1 - s2)) (ws' := (rM E am mm_1 ++ [])) C hG kX12 0 15 rfl (by decide) q1367 rfl rfl rfl rfl (by show 15 < 27; decide) dX12_closed_33 (by rw [emm_1]; rfl) (fun H locs hG => ?_)
    refine lv_aload_n hx hb dX12_closed_36 rfl (lv_at hl 0 rfl) ?_
    obtain ⟨r2, hcr2, h⟩ := bnd_some h
    refine gF_v (ws' := (rM E am r2 ++ [])) C hG (pin pnil) (List.Perm.symm (pin pnil)) (gR_V (As := []) (rest := []) C hz hl.1 hG (pin pnil) (c_X12_nextToken l E am N mm_1 hcr2 H.size) okX12_nextToken q1457 0 rfl rfl rfl (Nat.le_of_ble_eq_true rfl) (by omega) ⟨Nat.le_refl _, Nat.le_refl _⟩ dX12_closed_37) (fun H locs hG => ?_)
    exact hret _ _ _ _ _ h hG dX12_closed_40
  rw [fX12_closed] at h
  refine lv_aload_n hx hb dX12_closed_0 rfl (lv_at hl 0 rfl) ?_
  refine lv_dup hx hb dX12_closed_1 rfl ?_
  refine gL_f (v := .int (mm 0 14)) C hG kX12 0 14 rfl (by decide) rfl q1366 rfl dX12_closed_2 ?_
  refine lv_iconst (v := 1) hx hb dX12_closed_5 (by decide) ?_
  refine lv_isub hx hb dX12_closed_6 ?_
  obtain ⟨mm_1, emm_1, h⟩ := thn_some h
  refine gS_f (v := .int ((mm 0 14) - 1)) (ws' := (rM E am mm_1 ++ [])) C hG kX12 0 14 rfl (by decide) q1366 rfl rfl rfl rfl (by show 14 < 27; decide) dX12_closed_7 (by rw [emm_1]; rfl) (fun H locs hG => ?_)
  refine lv_aload_n hx hb dX12_closed_10 rfl (lv_at hl 0 rfl) ?_
  refine lv_dup hx hb dX12_closed_11 rfl ?_
  refine gL_f (v := .int (mm_1 0 15)) C hG kX12 0 15 rfl (by decide) rfl q1367 rfl dX12_closed_12 ?_
  refine lv_aload_n hx hb dX12_closed_15 rfl (lv_at hl 0 rfl) ?_
  refine gL_f (v := .ref (am 5)) C hG kX12 0 13 rfl (by decide) rfl q1365 rfl dX12_closed_16 ?_
  refine lv_aload_n hx hb dX12_closed_19 rfl (lv_at hl 0 rfl) ?_
  refine gL_f (v := .int (mm_1 0 14)) C hG kX12 0 14 rfl (by decide) rfl q1366 rfl dX12_closed_20 ?_
  obtain ⟨b2, h⟩ := ck_some h
  refine gL_z (v := (mm_1 5 (mm_1 0 14).toNatClampNeg)) C hG 5 rfl (inb_in b2) rfl dX12_closed_23 ?_
  refine lv_if_eq (tgt := 31) hx hb dX12_closed_24 (by decide) (fun c24 => ?_) (fun c24 => ?_)
  · replace h := it c24 h
    refine lv_iconst (v := 0) hx hb dX12_closed_31 (by decide) ?_
    exact K32 (mm_1 0 15) 0 mm_1 _ _ _ hG (lv_sub hl [0] rfl) h
  · replace h := ie c24 h
    refine lv_iconst (v := 1) hx hb dX12_closed_27 (by decide) ?_
    refine lv_goto (tgt := 32) hx hb dX12_closed_28 (by decide) ?_
    exact K32 (mm_1 0 15) 1 mm_1 _ _ _ hG (lv_sub hl [0] rfl) h
set_option maxHeartbeats 4000000 in
set_option maxRecDepth 100000 in
theorem c_X12_loopHead (l : Launch) (E : GE) (am : Nat → Nat) (N : Nat) (mm : RS) {res : Int32 × RS} (h : fX12_loopHead N mm = some res) : gMi l E yX12_loopHead cX12_loopHead 1 .int 6 0 0 [.ref (am 0)] (rM E am mm ++ []) (rM E am res.2 ++ []) res.1 := by
  refine gMi_of (own := RX12) (by decide +kernel) rfl (Nat.le_of_ble_eq_true rfl) ?_
  intro p e s m args below meth c A ls Q H locs C hz hl hG hret
  have hx := C.1.1
  have hb := C.1.2.1
  have hts := C.1.2.2.2.2
  have hown := C.1.2.2.2.1
  have hl : lv_has ls 1 [(0, .ref (am 0))] := hl
  replace hret : ∀ (r0 : Int32) (mm0 : RS) (H : Heap) (locs : List Loc) (pc : Nat) (ls' : Array Slot), some (r0, mm0) = some res → narrow .int (.int r0) = .int r0 → gG E A s.heap (rM E am mm0 ++ []) H locs → decode cX12_loopHead pc = .ok (.ireturn, 1) → W p l e (rmD 6 0 0) s m args below meth c H locs 0 0 Q (F0 m pc ls' [.int r0]) := by
    intro r0 mm0 H locs pc ls' e0 hn; cases e0; exact hret H locs pc ls' hn
  rw [fX12_loopHead] at h
  refine lv_aload_n hx hb dX12_loopHead_0 rfl (lv_at hl 0 rfl) ?_
  refine gL_f (v := .int (mm 0 9)) C hG kX12 0 9 rfl (by decide) rfl q1361 rfl dX12_loopHead_1 ?_
  refine lv_iconst (v := 1) hx hb dX12_loopHead_4 (by decide) ?_
  refine lv_icmp_eq (tgt := 10) hx hb dX12_loopHead_5 (by decide) (fun c5 => ?_) (fun c5 => ?_)
  · replace h := it c5 h
    refine lv_aload_n hx hb dX12_loopHead_10 rfl (lv_at hl 0 rfl) ?_
    refine gL_f (v := .int (mm 0 10)) C hG kX12 0 10 rfl (by decide) rfl q1362 rfl dX12_loopHead_11 ?_
    refine lv_iconst (v := 1) hx hb dX12_loopHead_14 (by decide) ?_
    refine lv_bipush (v := 9) hx hb dX12_loopHead_15 (by decide) ?_
    refine gF_i (ws' := (rM E am mm ++ [])) C hG pst pst.symm (gR_S (As := [.int (mm 0 10), .int 1, .int 9]) (rest := []) C hz hl.1 hG pst (c_X12_isIn l E (mm 0 10) 1 9 rfl H.size) okX12_isIn q1446 rfl (Nat.le_of_ble_eq_true rfl) (by omega) ⟨Nat.le_refl _, Nat.le_refl _⟩ dX12_loopHead_17) (fun H locs z1 hG => ?_)
    refine lv_if_ne (tgt := 25) hx hb dX12_loopHead_20 (by decide) (fun c20 => ?_) (fun c20 => ?_)
    · replace h := ie c20 h
      refine lv_aload_n hx hb dX12_loopHead_25 rfl (lv_at hl 0 rfl) ?_
      obtain ⟨r2, hcr2, h⟩ := bnd_some h
      refine gF_v (ws' := (rM E am r2 ++ [])) C hG (pin pnil) (List.Perm.symm (pin pnil)) (gR_V (As := []) (rest := []) C hz hl.1 hG (pin pnil) (c_X12_nextToken l E am N mm hcr2 H.size) okX12_nextToken q1457 0 rfl rfl rfl (Nat.le_of_ble_eq_true rfl) (by omega) ⟨Nat.le_refl _, Nat.le_refl _⟩ dX12_loopHead_26) (fun H locs hG => ?_)
      refine lv_aload_n hx hb dX12_loopHead_29 rfl (lv_at hl 0 rfl) ?_
      refine lv_iconst (v := 1) hx hb dX12_loopHead_30 (by decide) ?_
      obtain ⟨r3, hcr3, h⟩ := bnd_some h
      refine gF_i (ws' := (rM E am r3.2 ++ [])) C hG (pin pnil) (List.Perm.symm (pin pnil)) (gR_V (As := [.int 1]) (rest := []) C hz hl.1 hG (pin pnil) (c_X12_opened l E am N 1 r2 hcr3 H.size) okX12_opened q1507 0 rfl rfl rfl (Nat.le_of_ble_eq_true rfl) (by omega) ⟨Nat.le_refl _, Nat.le_refl _⟩ dX12_loopHead_31) (fun H locs _ hG => ?_)
      exact hret _ _ _ _ _ _ h rfl hG dX12_loopHead_34
    · replace h := it c20 h
      refine lv_iconst (v := 2) hx hb dX12_loopHead_23 (by decide) ?_
      exact hret _ _ _ _ _ _ h rfl hG dX12_loopHead_24
  · replace h := ie c5 h
    refine lv_iconst (v := 1) hx hb dX12_loopHead_8 (by decide) ?_
    exact hret _ _ _ _ _ _ h rfl hG dX12_loopHead_9
set_option maxHeartbeats 4000000 in
set_option maxRecDepth 100000 in
theorem c_X12_choiceHead (l : Launch) (E : GE) (am : Nat → Nat) (N : Nat) (mm : RS) {res : Int32 × RS} (h : fX12_choiceHead N mm = some res) : gMi l E yX12_choiceHead cX12_choiceHead 2 .int 7 0 0 [.ref (am 0)] (rM E am mm ++ []) (rM E am res.2 ++ []) res.1 := by
  refine gMi_of (own := RX12) (by decide +kernel) rfl (Nat.le_of_ble_eq_true rfl) ?_
  intro p e s m args below meth c A ls Q H locs C hz hl hG hret
  have hx := C.1.1
  have hb := C.1.2.1
  have hts := C.1.2.2.2.2
  have hown := C.1.2.2.2.1
  have hl : lv_has ls 2 [(0, .ref (am 0))] := hl
  replace hret : ∀ (r0 : Int32) (mm0 : RS) (H : Heap) (locs : List Loc) (pc : Nat) (ls' : Array Slot), some (r0, mm0) = some res → narrow .int (.int r0) = .int r0 → gG E A s.heap (rM E am mm0 ++ []) H locs → decode cX12_choiceHead pc = .ok (.ireturn, 1) → W p l e (rmD 7 0 0) s m args below meth c H locs 0 0 Q (F0 m pc ls' [.int r0]) := by
    intro r0 mm0 H locs pc ls' e0 hn; cases e0; exact hret H locs pc ls' hn
  have K35 : ∀  (mm : RS) (H : Heap) (locs : List Loc) (ls : Array Slot), gG E A s.heap (rM E am mm ++ []) H locs → lv_has ls 2 [(0, .ref (am 0))] → fX12_choiceHead_L35 N mm = some res → W p l e (rmD 7 0 0) s m args below meth c H locs 0 0 Q (F0 m 35 ls []) := by
    intro mm H locs ls hG hl h
    rw [fX12_choiceHead_L35] at h
    refine lv_aload_n hx hb dX12_choiceHead_35 rfl (lv_at hl 0 rfl) ?_
    obtain ⟨r1, hcr1, h⟩ := bnd_some h
    refine gF_v (ws' := (rM E am r1 ++ [])) C hG (pin pnil) (List.Perm.symm (pin pnil)) (gR_V (As := []) (rest := []) C hz hl.1 hG (pin pnil) (c_X12_nextToken l E am N mm hcr1 H.size) okX12_nextToken q1457 0 rfl rfl rfl (Nat.le_of_ble_eq_true rfl) (by omega) ⟨Nat.le_refl _, Nat.le_refl _⟩ dX12_choiceHead_36) (fun H locs hG => ?_)
    refine lv_aload_n hx hb dX12_choiceHead_39 rfl (lv_at hl 0 rfl) ?_
    refine lv_aload_n hx hb dX12_choiceHead_40 rfl (lv_at hl 0 rfl) ?_
    refine gL_f (v := .int (r1 0 15)) C hG kX12 0 15 rfl (by decide) rfl q1367 rfl dX12_choiceHead_41 ?_
    obtain ⟨r2, hcr2, h⟩ := bnd_some h
    refine gF_i (ws' := (rM E am r2.2 ++ [])) C hG (pin pnil) (List.Perm.symm (pin pnil)) (gR_V (As := [.int (r1 0 15)]) (rest := []) C hz hl.1 hG (pin pnil) (c_X12_summed l E am N (r1 0 15) r1 hcr2 H.size) okX12_summed q1495 0 rfl rfl rfl (Nat.le_of_ble_eq_true rfl) (by omega) ⟨Nat.le_refl _, Nat.le_refl _⟩ dX12_choiceHead_44) (fun H locs _ hG => ?_)
    refine lv_istore_n (lv' := [(1, .int r2.1), (0, .ref (am 0))]) hx hb dX12_choiceHead_47 rfl hl (by decide) rfl (fun ls hl => ?_)
    refine lv_iload_n hx hb dX12_choiceHead_48 rfl (lv_at hl 0 rfl) ?_
    refine lv_if_eq (tgt := 56) hx hb dX12_choiceHead_49 (by decide) (fun c49 => ?_) (fun c49 => ?_)
    · replace h := it c49 h
      refine lv_aload_n hx hb dX12_choiceHead_56 rfl (lv_at hl 1 rfl) ?_
      refine lv_iconst (v := 0) hx hb dX12_choiceHead_57 (by decide) ?_
      obtain ⟨r3, hcr3, h⟩ := bnd_some h
      refine gF_i (ws' := (rM E am r3.2 ++ [])) C hG (pin pnil) (List.Perm.symm (pin pnil)) (gR_V (As := [.int 0]) (rest := []) C hz hl.1 hG (pin pnil) (c_X12_opened l E am N 0 r2.2 hcr3 H.size) okX12_opened q1507 0 rfl rfl rfl (Nat.le_of_ble_eq_true rfl) (by omega) ⟨Nat.le_refl _, Nat.le_refl _⟩ dX12_choiceHead_58) (fun H locs _ hG => ?_)
      exact hret _ _ _ _ _ _ h rfl hG dX12_choiceHead_61
    · replace h := ie c49 h
      refine lv_iload_n hx hb dX12_choiceHead_52 rfl (lv_at hl 0 rfl) ?_
      refine lv_goto (tgt := 61) hx hb dX12_choiceHead_53 (by decide) ?_
      exact hret _ _ _ _ _ _ h rfl hG dX12_choiceHead_61
  rw [fX12_choiceHead] at h
  refine lv_aload_n hx hb dX12_choiceHead_0 rfl (lv_at hl 0 rfl) ?_
  refine lv_aload_n hx hb dX12_choiceHead_1 rfl (lv_at hl 0 rfl) ?_
  refine gL_f (v := .int (mm 0 15)) C hG kX12 0 15 rfl (by decide) rfl q1367 rfl dX12_choiceHead_2 ?_
  obtain ⟨r1, hcr1, h⟩ := bnd_some h
  refine gF_i (ws' := (rM E am r1.2 ++ [])) C hG (pin pnil) (List.Perm.symm (pin pnil)) (gR_V (As := [.int (mm 0 15)]) (rest := []) C hz hl.1 hG (pin pnil) (c_X12_summed l E am N (mm 0 15) mm hcr1 H.size) okX12_summed q1495 0 rfl rfl rfl (Nat.le_of_ble_eq_true rfl) (by omega) ⟨Nat.le_refl _, Nat.le_refl _⟩ dX12_choiceHead_5) (fun H locs _ hG => ?_)
  refine lv_istore_n (lv' := [(1, .int r1.1), (0, .ref (am 0))]) hx hb dX12_choiceHead_8 rfl hl (by decide) rfl (fun ls hl => ?_)
  refine lv_iload_n hx hb dX12_choiceHead_9 rfl (lv_at hl 0 rfl) ?_
  refine lv_if_eq (tgt := 15) hx hb dX12_choiceHead_10 (by decide) (fun c10 => ?_) (fun c10 => ?_)
  · replace h := it c10 h
    refine lv_aload_n hx hb dX12_choiceHead_15 rfl (lv_at hl 1 rfl) ?_
    refine gL_f (v := .int (r1.2 0 9)) C hG kX12 0 9 rfl (by decide) rfl q1361 rfl dX12_choiceHead_16 ?_
    refine lv_bipush (v := 60) hx hb dX12_choiceHead_19 (by decide) ?_
    refine lv_icmp_eq (tgt := 35) hx hb dX12_choiceHead_21 (by decide) (fun c21 => ?_) (fun c21 => ?_)
    · replace h := it c21 h
      exact K35 r1.2 _ _ _ hG (lv_sub hl [1] rfl) h
    · replace h := ie c21 h
      refine lv_aload_n hx hb dX12_choiceHead_24 rfl (lv_at hl 1 rfl) ?_
      refine gL_f (v := .int (r1.2 0 9)) C hG kX12 0 9 rfl (by decide) rfl q1361 rfl dX12_choiceHead_25 ?_
      refine lv_bipush (v := 61) hx hb dX12_choiceHead_28 (by decide) ?_
      refine lv_icmp_eq (tgt := 35) hx hb dX12_choiceHead_30 (by decide) (fun c30 => ?_) (fun c30 => ?_)
      · replace h := it c30 h
        exact K35 r1.2 _ _ _ hG (lv_sub hl [1] rfl) h
      · replace h := ie c30 h
        refine lv_iconst (v := 1) hx hb dX12_choiceHead_33 (by decide) ?_
        exact hret _ _ _ _ _ _ h rfl hG dX12_choiceHead_34
  · replace h := ie c10 h
    refine lv_iload_n hx hb dX12_choiceHead_13 rfl (lv_at hl 0 rfl) ?_
    exact hret _ _ _ _ _ _ h rfl hG dX12_choiceHead_14
set_option maxHeartbeats 4000000 in
set_option maxRecDepth 100000 in
theorem c_X12_statement (l : Launch) (E : GE) (am : Nat → Nat) (N : Nat) (mm : RS) {res : Int32 × RS} (h : fX12_statement N mm = some res) : gMi l E yX12_statement cX12_statement 2 .int 8 0 0 [.ref (am 0)] (rM E am mm ++ []) (rM E am res.2 ++ []) res.1 := by
  refine gMi_of (own := RX12) (by decide +kernel) rfl (Nat.le_of_ble_eq_true rfl) ?_
  intro p e s m args below meth c A ls Q H locs C hz hl hG hret
  have hx := C.1.1
  have hb := C.1.2.1
  have hts := C.1.2.2.2.2
  have hown := C.1.2.2.2.1
  have hl : lv_has ls 2 [(0, .ref (am 0))] := hl
  replace hret : ∀ (r0 : Int32) (mm0 : RS) (H : Heap) (locs : List Loc) (pc : Nat) (ls' : Array Slot), some (r0, mm0) = some res → narrow .int (.int r0) = .int r0 → gG E A s.heap (rM E am mm0 ++ []) H locs → decode cX12_statement pc = .ok (.ireturn, 1) → W p l e (rmD 8 0 0) s m args below meth c H locs 0 0 Q (F0 m pc ls' [.int r0]) := by
    intro r0 mm0 H locs pc ls' e0 hn; cases e0; exact hret H locs pc ls' hn
  have K37 : ∀  (x1 : Int32) (mm : RS) (H : Heap) (locs : List Loc) (ls : Array Slot), gG E A s.heap (rM E am mm ++ []) H locs → lv_has ls 2 [(0, .ref (am 0)), (1, .int x1)] → fX12_statement_L37 N x1 mm = some res → W p l e (rmD 8 0 0) s m args below meth c H locs 0 0 Q (F0 m 37 ls []) := by
    intro x1 mm H locs ls hG hl h
    rw [fX12_statement_L37] at h
    refine lv_aload_n hx hb dX12_statement_37 rfl (lv_at hl 0 rfl) ?_
    refine gL_f (v := .int (mm 0 12)) C hG kX12 0 12 rfl (by decide) rfl q1364 rfl dX12_statement_38 ?_
    refine lv_bipush (v := 40) hx hb dX12_statement_41 (by decide) ?_
    refine lv_icmp_ne (tgt := 48) hx hb dX12_statement_43 (by decide) (fun c43 => ?_) (fun c43 => ?_)
    · replace h := ie c43 h
      refine lv_aload_n hx hb dX12_statement_48 rfl (lv_at hl 0 rfl) ?_
      refine lv_dup hx hb dX12_statement_49 rfl ?_
      refine gL_f (v := .int (mm 0 12)) C hG kX12 0 12 rfl (by decide) rfl q1364 rfl dX12_statement_50 ?_
      refine lv_iconst (v := 1) hx hb dX12_statement_53 (by decide) ?_
      refine lv_iadd hx hb dX12_statement_54 ?_
      obtain ⟨mm_1, emm_1, h⟩ := thn_some h
      refine gS_f (v := .int ((mm 0 12) + 1)) (ws' := (rM E am mm_1 ++ [])) C hG kX12 0 12 rfl (by decide) q1364 rfl rfl rfl rfl (by show 12 < 27; decide) dX12_statement_55 (by rw [emm_1]; rfl) (fun H locs hG => ?_)
      refine lv_aload_n hx hb dX12_statement_58 rfl (lv_at hl 0 rfl) ?_
      obtain ⟨r2, hcr2, h⟩ := bnd_some h
      refine gF_v (ws' := (rM E am r2 ++ [])) C hG (pin pnil) (List.Perm.symm (pin pnil)) (gR_V (As := []) (rest := []) C hz hl.1 hG (pin pnil) (c_X12_nextToken l E am N mm_1 hcr2 H.size) okX12_nextToken q1457 0 rfl rfl rfl (Nat.le_of_ble_eq_true rfl) (by omega) ⟨Nat.le_refl _, Nat.le_refl _⟩ dX12_statement_59) (fun H locs hG => ?_)
      refine lv_iload_n hx hb dX12_statement_62 rfl (lv_at hl 1 rfl) ?_
      by_cases w63_0 : x1 = 200
      · replace h := it w63_0 h
        refine lv_tableIn (tgt := 104) hx hb dX12_statement_63 (by rw [w63_0]; decide) (by rw [w63_0]; decide) (off := 41) (by rw [w63_0]; decide) (by decide) ?_
        refine lv_aload_n hx hb dX12_statement_104 rfl (lv_at hl 0 rfl) ?_
        refine lv_iconst (v := 2) hx hb dX12_statement_105 (by decide) ?_
        refine lv_aload_n hx hb dX12_statement_106 rfl (lv_at hl 0 rfl) ?_
        refine gL_f (v := .int (r2 0 15)) C hG kX12 0 15 rfl (by decide) rfl q1367 rfl dX12_statement_107 ?_
        obtain ⟨r3, hcr3, h⟩ := bnd_some h
        refine gF_i (ws' := (rM E am r3.2 ++ [])) C hG (pin pnil) (List.Perm.symm (pin pnil)) (gR_V (As := [.int 2, .int (r2 0 15)]) (rest := []) C hz hl.1 hG (pin pnil) (c_X12_sums l E am N 2 (r2 0 15) r2 hcr3 H.size) okX12_sums q1491 0 rfl rfl rfl (Nat.le_of_ble_eq_true rfl) (by omega) ⟨Nat.le_refl _, Nat.le_refl _⟩ dX12_statement_110) (fun H locs _ hG => ?_)
        exact hret _ _ _ _ _ _ h rfl hG dX12_statement_113
      · replace h := ie w63_0 h
        by_cases w63_1 : x1 = 201
        · replace h := it w63_1 h
          refine lv_tableIn (tgt := 114) hx hb dX12_statement_63 (by rw [w63_1]; decide) (by rw [w63_1]; decide) (off := 51) (by rw [w63_1]; decide) (by decide) ?_
          refine lv_aload_n hx hb dX12_statement_114 rfl (lv_at hl 0 rfl) ?_
          refine lv_iconst (v := 3) hx hb dX12_statement_115 (by decide) ?_
          refine lv_aload_n hx hb dX12_statement_116 rfl (lv_at hl 0 rfl) ?_
          refine gL_f (v := .int (r2 0 15)) C hG kX12 0 15 rfl (by decide) rfl q1367 rfl dX12_statement_117 ?_
          obtain ⟨r4, hcr4, h⟩ := bnd_some h
          refine gF_i (ws' := (rM E am r4.2 ++ [])) C hG (pin pnil) (List.Perm.symm (pin pnil)) (gR_V (As := [.int 3, .int (r2 0 15)]) (rest := []) C hz hl.1 hG (pin pnil) (c_X12_sums l E am N 3 (r2 0 15) r2 hcr4 H.size) okX12_sums q1491 0 rfl rfl rfl (Nat.le_of_ble_eq_true rfl) (by omega) ⟨Nat.le_refl _, Nat.le_refl _⟩ dX12_statement_120) (fun H locs _ hG => ?_)
          exact hret _ _ _ _ _ _ h rfl hG dX12_statement_123
        · replace h := ie w63_1 h
          by_cases w63_2 : x1 = 202
          · replace h := it w63_2 h
            refine lv_tableIn (tgt := 104) hx hb dX12_statement_63 (by rw [w63_2]; decide) (by rw [w63_2]; decide) (off := 41) (by rw [w63_2]; decide) (by decide) ?_
            refine lv_aload_n hx hb dX12_statement_104 rfl (lv_at hl 0 rfl) ?_
            refine lv_iconst (v := 2) hx hb dX12_statement_105 (by decide) ?_
            refine lv_aload_n hx hb dX12_statement_106 rfl (lv_at hl 0 rfl) ?_
            refine gL_f (v := .int (r2 0 15)) C hG kX12 0 15 rfl (by decide) rfl q1367 rfl dX12_statement_107 ?_
            obtain ⟨r5, hcr5, h⟩ := bnd_some h
            refine gF_i (ws' := (rM E am r5.2 ++ [])) C hG (pin pnil) (List.Perm.symm (pin pnil)) (gR_V (As := [.int 2, .int (r2 0 15)]) (rest := []) C hz hl.1 hG (pin pnil) (c_X12_sums l E am N 2 (r2 0 15) r2 hcr5 H.size) okX12_sums q1491 0 rfl rfl rfl (Nat.le_of_ble_eq_true rfl) (by omega) ⟨Nat.le_refl _, Nat.le_refl _⟩ dX12_statement_110) (fun H locs _ hG => ?_)
            exact hret _ _ _ _ _ _ h rfl hG dX12_statement_113
          · replace h := ie w63_2 h
            by_cases w63_3 : x1 = 203
            · replace h := it w63_3 h
              refine lv_tableIn (tgt := 134) hx hb dX12_statement_63 (by rw [w63_3]; decide) (by rw [w63_3]; decide) (off := 71) (by rw [w63_3]; decide) (by decide) ?_
              refine lv_aload_n hx hb dX12_statement_134 rfl (lv_at hl 0 rfl) ?_
              refine lv_iconst (v := 0) hx hb dX12_statement_135 (by decide) ?_
              refine lv_aload_n hx hb dX12_statement_136 rfl (lv_at hl 0 rfl) ?_
              refine gL_f (v := .int (r2 0 15)) C hG kX12 0 15 rfl (by decide) rfl q1367 rfl dX12_statement_137 ?_
              obtain ⟨r6, hcr6, h⟩ := bnd_some h
              refine gF_i (ws' := (rM E am r6.2 ++ [])) C hG (pin pnil) (List.Perm.symm (pin pnil)) (gR_V (As := [.int 0, .int (r2 0 15)]) (rest := []) C hz hl.1 hG (pin pnil) (c_X12_sums l E am N 0 (r2 0 15) r2 hcr6 H.size) okX12_sums q1491 0 rfl rfl rfl (Nat.le_of_ble_eq_true rfl) (by omega) ⟨Nat.le_refl _, Nat.le_refl _⟩ dX12_statement_140) (fun H locs _ hG => ?_)
              exact hret _ _ _ _ _ _ h rfl hG dX12_statement_143
            · replace h := ie w63_3 h
              by_cases w63_4 : x1 = 204
              · replace h := it w63_4 h
                refine lv_tableIn (tgt := 134) hx hb dX12_statement_63 (by rw [w63_4]; decide) (by rw [w63_4]; decide) (off := 71) (by rw [w63_4]; decide) (by decide) ?_
                refine lv_aload_n hx hb dX12_statement_134 rfl (lv_at hl 0 rfl) ?_
                refine lv_iconst (v := 0) hx hb dX12_statement_135 (by decide) ?_
                refine lv_aload_n hx hb dX12_statement_136 rfl (lv_at hl 0 rfl) ?_
                refine gL_f (v := .int (r2 0 15)) C hG kX12 0 15 rfl (by decide) rfl q1367 rfl dX12_statement_137 ?_
                obtain ⟨r7, hcr7, h⟩ := bnd_some h
                refine gF_i (ws' := (rM E am r7.2 ++ [])) C hG (pin pnil) (List.Perm.symm (pin pnil)) (gR_V (As := [.int 0, .int (r2 0 15)]) (rest := []) C hz hl.1 hG (pin pnil) (c_X12_sums l E am N 0 (r2 0 15) r2 hcr7 H.size) okX12_sums q1491 0 rfl rfl rfl (Nat.le_of_ble_eq_true rfl) (by omega) ⟨Nat.le_refl _, Nat.le_refl _⟩ dX12_statement_140) (fun H locs _ hG => ?_)
                exact hret _ _ _ _ _ _ h rfl hG dX12_statement_143
              · replace h := ie w63_4 h
                by_cases w63_5 : x1 = 205
                · replace h := it w63_5 h
                  refine lv_tableIn (tgt := 124) hx hb dX12_statement_63 (by rw [w63_5]; decide) (by rw [w63_5]; decide) (off := 61) (by rw [w63_5]; decide) (by decide) ?_
                  refine lv_aload_n hx hb dX12_statement_124 rfl (lv_at hl 0 rfl) ?_
                  obtain ⟨r8, hcr8, h⟩ := bnd_some h
                  refine gF_i (ws' := (rM E am r8.2 ++ [])) C hG (pin pnil) (List.Perm.symm (pin pnil)) (gR_V (As := []) (rest := []) C hz hl.1 hG (pin pnil) (c_X12_loopHead l E am N r2 hcr8 H.size) okX12_loopHead q1503 0 rfl rfl rfl (Nat.le_of_ble_eq_true rfl) (by omega) ⟨Nat.le_refl _, Nat.le_refl _⟩ dX12_statement_125) (fun H locs _ hG => ?_)
                  exact hret _ _ _ _ _ _ h rfl hG dX12_statement_128
                · replace h := ie w63_5 h
                  by_cases w63_6 : x1 = 206
                  · replace h := it w63_6 h
                    refine lv_tableIn (tgt := 129) hx hb dX12_statement_63 (by rw [w63_6]; decide) (by rw [w63_6]; decide) (off := 66) (by rw [w63_6]; decide) (by decide) ?_
                    refine lv_aload_n hx hb dX12_statement_129 rfl (lv_at hl 0 rfl) ?_
                    obtain ⟨r9, hcr9, h⟩ := bnd_some h
                    refine gF_i (ws' := (rM E am r9.2 ++ [])) C hG (pin pnil) (List.Perm.symm (pin pnil)) (gR_V (As := []) (rest := []) C hz hl.1 hG (pin pnil) (c_X12_choiceHead l E am N r2 hcr9 H.size) okX12_choiceHead q1511 0 rfl rfl rfl (Nat.le_of_ble_eq_true rfl) (by omega) ⟨Nat.le_refl _, Nat.le_refl _⟩ dX12_statement_130) (fun H locs _ hG => ?_)
                    exact hret _ _ _ _ _ _ h rfl hG dX12_statement_133
                  · replace h := ie w63_6 h
                    refine lv_tableOut (tgt := 134) hx hb dX12_statement_63 (g_swo x1 200 206 [200, 201, 202, 203, 204, 205, 206] (by decide +kernel) (List.forall_mem_cons.mpr ⟨w63_0, List.forall_mem_cons.mpr ⟨w63_1, List.forall_mem_cons.mpr ⟨w63_2, List.forall_mem_cons.mpr ⟨w63_3, List.forall_mem_cons.mpr ⟨w63_4, List.forall_mem_cons.mpr ⟨w63_5, List.forall_mem_cons.mpr ⟨w63_6, fun _ q9 => absurd q9 List.not_mem_nil⟩⟩⟩⟩⟩⟩⟩)) (by decide) ?_
                    refine lv_aload_n hx hb dX12_statement_134 rfl (lv_at hl 0 rfl) ?_
                    refine lv_iconst (v := 0) hx hb dX12_statement_135 (by decide) ?_
                    refine lv_aload_n hx hb dX12_statement_136 rfl (lv_at hl 0 rfl) ?_
                    refine gL_f (v := .int (r2 0 15)) C hG kX12 0 15 rfl (by decide) rfl q1367 rfl dX12_statement_137 ?_
                    obtain ⟨r10, hcr10, h⟩ := bnd_some h
                    refine gF_i (ws' := (rM E am r10.2 ++ [])) C hG (pin pnil) (List.Perm.symm (pin pnil)) (gR_V (As := [.int 0, .int (r2 0 15)]) (rest := []) C hz hl.1 hG (pin pnil) (c_X12_sums l E am N 0 (r2 0 15) r2 hcr10 H.size) okX12_sums q1491 0 rfl rfl rfl (Nat.le_of_ble_eq_true rfl) (by omega) ⟨Nat.le_refl _, Nat.le_refl _⟩ dX12_statement_140) (fun H locs _ hG => ?_)
                    exact hret _ _ _ _ _ _ h rfl hG dX12_statement_143
    · replace h := it c43 h
      refine lv_iconst (v := 5) hx hb dX12_statement_46 (by decide) ?_
      exact hret _ _ _ _ _ _ h rfl hG dX12_statement_47
  rw [fX12_statement] at h
  refine lv_aload_n hx hb dX12_statement_0 rfl (lv_at hl 0 rfl) ?_
  refine gL_f (v := .int (mm 0 9)) C hG kX12 0 9 rfl (by decide) rfl q1361 rfl dX12_statement_1 ?_
  obtain ⟨x1_1, ex1_1, h⟩ := thn_some h
  refine g_int ex1_1 ?_
  refine lv_istore_n (lv' := [(1, .int x1_1), (0, .ref (am 0))]) hx hb dX12_statement_4 rfl hl (by decide) rfl (fun ls hl => ?_)
  refine lv_iload_n hx hb dX12_statement_5 rfl (lv_at hl 0 rfl) ?_
  refine lv_sipush (v := 200) hx hb dX12_statement_6 (by decide) ?_
  refine lv_sipush (v := 206) hx hb dX12_statement_9 (by decide) ?_
  refine gF_i (ws' := (rM E am mm ++ [])) C hG pst pst.symm (gR_S (As := [.int x1_1, .int 200, .int 206]) (rest := []) C hz hl.1 hG pst (c_X12_isIn l E x1_1 200 206 rfl H.size) okX12_isIn q1446 rfl (Nat.le_of_ble_eq_true rfl) (by omega) ⟨Nat.le_refl _, Nat.le_refl _⟩ dX12_statement_12) (fun H locs z2 hG => ?_)
  refine lv_if_ne (tgt := 20) hx hb dX12_statement_15 (by decide) (fun c15 => ?_) (fun c15 => ?_)
  · replace h := ie c15 h
    refine lv_iload_n hx hb dX12_statement_20 rfl (lv_at hl 0 rfl) ?_
    refine lv_sipush (v := 205) hx hb dX12_statement_21 (by decide) ?_
    refine lv_icmp_lt (tgt := 37) hx hb dX12_statement_24 (by decide) (fun c24 => ?_) (fun c24 => ?_)
    · replace h := it c24 h
      exact K37 x1_1 mm _ _ _ hG (lv_sub hl [1, 0] rfl) h
    · replace h := ie c24 h
      refine lv_aload_n hx hb dX12_statement_27 rfl (lv_at hl 1 rfl) ?_
      refine gL_f (v := .int (mm 0 14)) C hG kX12 0 14 rfl (by decide) rfl q1366 rfl dX12_statement_28 ?_
      refine lv_iconst (v := 3) hx hb dX12_statement_31 (by decide) ?_
      refine lv_icmp_ne (tgt := 37) hx hb dX12_statement_32 (by decide) (fun c32 => ?_) (fun c32 => ?_)
      · replace h := ie c32 h
        exact K37 x1_1 mm _ _ _ hG (lv_sub hl [1, 0] rfl) h
      · replace h := it c32 h
        refine lv_iconst (v := 3) hx hb dX12_statement_35 (by decide) ?_
        exact hret _ _ _ _ _ _ h rfl hG dX12_statement_36
  · replace h := it c15 h
    refine lv_iconst (v := 1) hx hb dX12_statement_18 (by decide) ?_
    exact hret _ _ _ _ _ _ h rfl hG dX12_statement_19
set_option maxHeartbeats 4000000 in
set_option maxRecDepth 100000 in
theorem c_X12_readText (l : Launch) (E : GE) (am : Nat → Nat) (N : Nat) (mm : RS) {res : Int32 × RS} (h : fX12_readText N mm = some res) : gMi l E yX12_readText cX12_readText 2 .int 9 0 0 [.ref (am 0)] (rM E am mm ++ []) (rM E am res.2 ++ []) res.1 := by
  refine gMi_of (own := RX12) (by decide +kernel) rfl (Nat.le_of_ble_eq_true rfl) ?_
  intro p e s m args below meth c A ls Q H locs C hz hl hG hret
  have hx := C.1.1
  have hb := C.1.2.1
  have hts := C.1.2.2.2.2
  have hown := C.1.2.2.2.1
  have hl : lv_has ls 2 [(0, .ref (am 0))] := hl
  replace hret : ∀ (r0 : Int32) (mm0 : RS) (H : Heap) (locs : List Loc) (pc : Nat) (ls' : Array Slot), some (r0, mm0) = some res → narrow .int (.int r0) = .int r0 → gG E A s.heap (rM E am mm0 ++ []) H locs → decode cX12_readText pc = .ok (.ireturn, 1) → W p l e (rmD 9 0 0) s m args below meth c H locs 0 0 Q (F0 m pc ls' [.int r0]) := by
    intro r0 mm0 H locs pc ls' e0 hn; cases e0; exact hret H locs pc ls' hn
  have K85 : ∀ (k48 : (RS → Option (Int32 × RS))) (hk48 : ∀  (mm : RS) (H : Heap) (locs : List Loc) (ls : Array Slot), gG E A s.heap (rM E am mm ++ []) H locs → lv_has ls 2 [(0, .ref (am 0))] → k48 mm = some res → W p l e (rmD 9 0 0) s m args below meth c H locs 0 0 Q (F0 m 48 ls [])), ∀  (mm : RS) (H : Heap) (locs : List Loc) (ls : Array Slot), gG E A s.heap (rM E am mm ++ []) H locs → lv_has ls 2 [(0, .ref (am 0))] → fX12_readText_L85 N k48 mm = some res → W p l e (rmD 9 0 0) s m args below meth c H locs 0 0 Q (F0 m 85 ls []) := by
    intro k48 hk48 mm H locs ls hG hl h
    rw [fX12_readText_L85] at h
    refine lv_aload_n hx hb dX12_readText_85 rfl (lv_at hl 0 rfl) ?_
    obtain ⟨r1, hcr1, h⟩ := bnd_some h
    refine gF_i (ws' := (rM E am r1.2 ++ [])) C hG (pin pnil) (List.Perm.symm (pin pnil)) (gR_V (As := []) (rest := []) C hz hl.1 hG (pin pnil) (c_X12_statement l E am N mm hcr1 H.size) okX12_statement q1487 0 rfl rfl rfl (Nat.le_of_ble_eq_true rfl) (by omega) ⟨Nat.le_refl _, Nat.le_refl _⟩ dX12_readText_86) (fun H locs _ hG => ?_)
    refine lv_istore_n (lv' := [(1, .int r1.1), (0, .ref (am 0))]) hx hb dX12_readText_89 rfl hl (by decide) rfl (fun ls hl => ?_)
    refine lv_iload_n hx hb dX12_readText_90 rfl (lv_at hl 0 rfl) ?_
    refine lv_if_eq (tgt := 96) hx hb dX12_readText_91 (by decide) (fun c91 => ?_) (fun c91 => ?_)
    · replace h := it c91 h
      refine lv_goto (tgt := 48) hx hb dX12_readText_96 (by decide) ?_
      exact hk48 r1.2 _ _ _ hG (lv_sub hl [1] rfl) h
    · replace h := ie c91 h
      refine lv_iload_n hx hb dX12_readText_94 rfl (lv_at hl 0 rfl) ?_
      exact hret _ _ _ _ _ _ h rfl hG dX12_readText_95
  have K62 : ∀ (k48 : (RS → Option (Int32 × RS))) (hk48 : ∀  (mm : RS) (H : Heap) (locs : List Loc) (ls : Array Slot), gG E A s.heap (rM E am mm ++ []) H locs → lv_has ls 2 [(0, .ref (am 0))] → k48 mm = some res → W p l e (rmD 9 0 0) s m args below meth c H locs 0 0 Q (F0 m 48 ls [])), ∀  (mm : RS) (H : Heap) (locs : List Loc) (ls : Array Slot), gG E A s.heap (rM E am mm ++ []) H locs → lv_has ls 2 [(0, .ref (am 0))] → fX12_readText_L62 N k48 mm = some res → W p l e (rmD 9 0 0) s m args below meth c H locs 0 0 Q (F0 m 62 ls []) := by
    intro k48 hk48 mm H locs ls hG hl h
    rw [fX12_readText_L62] at h
    refine lv_aload_n hx hb dX12_readText_62 rfl (lv_at hl 0 rfl) ?_
    refine gL_f (v := .int (mm 0 9)) C hG kX12 0 9 rfl (by decide) rfl q1361 rfl dX12_readText_63 ?_
    refine lv_bipush (v := 125) hx hb dX12_readText_66 (by decide) ?_
    refine lv_icmp_ne (tgt := 85) hx hb dX12_readText_68 (by decide) (fun c68 => ?_) (fun c68 => ?_)
    · replace h := ie c68 h
      exact K85 _ hk48 mm _ _ _ hG (lv_sub hl [0] rfl) h
    · replace h := it c68 h
      refine lv_aload_n hx hb dX12_readText_71 rfl (lv_at hl 0 rfl) ?_
      refine gL_f (v := .int (mm 0 14)) C hG kX12 0 14 rfl (by decide) rfl q1366 rfl dX12_readText_72 ?_
      refine lv_if_le (tgt := 85) hx hb dX12_readText_75 (by decide) (fun c75 => ?_) (fun c75 => ?_)
      · replace h := it c75 h
        exact K85 _ hk48 mm _ _ _ hG (lv_sub hl [0] rfl) h
      · replace h := ie c75 h
        refine lv_aload_n hx hb dX12_readText_78 rfl (lv_at hl 0 rfl) ?_
        obtain ⟨r1, hcr1, h⟩ := bnd_some h
        refine gF_v (ws' := (rM E am r1 ++ [])) C hG (pin pnil) (List.Perm.symm (pin pnil)) (gR_V (As := []) (rest := []) C hz hl.1 hG (pin pnil) (c_X12_closed l E am N mm hcr1 H.size) okX12_closed q1483 0 rfl rfl rfl (Nat.le_of_ble_eq_true rfl) (by omega) ⟨Nat.le_refl _, Nat.le_refl _⟩ dX12_readText_79) (fun H locs hG => ?_)
        refine lv_goto (tgt := 48) hx hb dX12_readText_82 (by decide) ?_
        exact hk48 r1 _ _ _ hG (lv_sub hl [0] rfl) h
  have K48 : ∀ (k : Nat), ∀  (mm : RS) (H : Heap) (locs : List Loc) (ls : Array Slot), gG E A s.heap (rM E am mm ++ []) H locs → lv_has ls 2 [(0, .ref (am 0))] → fX12_readText_L48 N k mm = some res → W p l e (rmD 9 0 0) s m args below meth c H locs 0 0 Q (F0 m 48 ls []) := by
    intro k
    induction k with
    | zero => intro mm H locs ls hG hl h; exact absurd (show none = _ from h) (by simp)
    | succ k ih =>
      intro mm H locs ls hG hl h
      rw [fX12_readText_L48] at h
      refine lv_aload_n hx hb dX12_readText_48 rfl (lv_at hl 0 rfl) ?_
      refine gL_f (v := .int (mm 0 9)) C hG kX12 0 9 rfl (by decide) rfl q1361 rfl dX12_readText_49 ?_
      refine lv_if_ne (tgt := 62) hx hb dX12_readText_52 (by decide) (fun c52 => ?_) (fun c52 => ?_)
      · replace h := ie c52 h
        exact K62 _ ih mm _ _ _ hG (lv_sub hl [0] rfl) h
      · replace h := it c52 h
        refine lv_aload_n hx hb dX12_readText_55 rfl (lv_at hl 0 rfl) ?_
        refine gL_f (v := .int (mm 0 14)) C hG kX12 0 14 rfl (by decide) rfl q1366 rfl dX12_readText_56 ?_
        refine lv_if_le (tgt := 99) hx hb dX12_readText_59 (by decide) (fun c59 => ?_) (fun c59 => ?_)
        · replace h := it c59 h
          refine lv_iconst (v := 0) hx hb dX12_readText_99 (by decide) ?_
          exact hret _ _ _ _ _ _ h rfl hG dX12_readText_100
        · replace h := ie c59 h
          exact K62 _ ih mm _ _ _ hG (lv_sub hl [0] rfl) h
  rw [fX12_readText] at h
  refine lv_aload_n hx hb dX12_readText_0 rfl (lv_at hl 0 rfl) ?_
  refine lv_sipush (v := 602) hx hb dX12_readText_1 (by decide) ?_
  refine lv_aload_n hx hb dX12_readText_4 rfl (lv_at hl 0 rfl) ?_
  refine gL_f (v := .ref (am 1)) C hG kX12 0 0 rfl (by decide) rfl q1352 rfl dX12_readText_5 ?_
  refine lv_iconst (v := 0) hx hb dX12_readText_8 (by decide) ?_
  refine gL_i (v := (mm 1 0)) C hG 1 rfl (vp_in_nI (n := 0) (by decide) (by decide)) (congrArg (mm 1) (nI_clamp (n := 0) (by decide))) dX12_readText_9 ?_
  refine lv_imul hx hb dX12_readText_10 ?_
  obtain ⟨mm_1, emm_1, h⟩ := thn_some h
  refine gS_f (v := .int (602 * (mm 1 0))) (ws' := (rM E am mm_1 ++ [])) C hG kX12 0 11 rfl (by decide) q1363 rfl rfl rfl rfl (by show 11 < 27; decide) dX12_readText_11 (by rw [emm_1]; rfl) (fun H locs hG => ?_)
  refine lv_aload_n hx hb dX12_readText_14 rfl (lv_at hl 0 rfl) ?_
  refine gL_f (v := .ref (am 3)) C hG kX12 0 2 rfl (by decide) rfl q1354 rfl dX12_readText_15 ?_
  refine lv_aload_n hx hb dX12_readText_18 rfl (lv_at hl 0 rfl) ?_
  refine gL_f (v := .int (mm_1 0 11)) C hG kX12 0 11 rfl (by decide) rfl q1363 rfl dX12_readText_19 ?_
  refine lv_iconst (v := 0) hx hb dX12_readText_22 (by decide) ?_
  obtain ⟨b2, h⟩ := ck_some h
  obtain ⟨mm_3, emm_3, h⟩ := thn_some h
  refine gS_i (x := 0) (ws' := (rM E am mm_3 ++ [])) C hG 3 rfl (inb_in b2) rfl dX12_readText_23 (by rw [emm_3]; rfl) (fun H locs hG => ?_)
  refine lv_aload_n hx hb dX12_readText_24 rfl (lv_at hl 0 rfl) ?_
  refine lv_iconst (v := 0) hx hb dX12_readText_25 (by decide) ?_
  obtain ⟨mm_4, emm_4, h⟩ := thn_some h
  refine gS_f (v := .int 0) (ws' := (rM E am mm_4 ++ [])) C hG kX12 0 12 rfl (by decide) q1364 rfl rfl rfl rfl (by show 12 < 27; decide) dX12_readText_26 (by rw [emm_4]; rfl) (fun H locs hG => ?_)
  refine lv_aload_n hx hb dX12_readText_29 rfl (lv_at hl 0 rfl) ?_
  refine lv_iconst (v := 0) hx hb dX12_readText_30 (by decide) ?_
  obtain ⟨mm_5, emm_5, h⟩ := thn_some h
  refine gS_f (v := .int 0) (ws' := (rM E am mm_5 ++ [])) C hG kX12 0 14 rfl (by decide) q1366 rfl rfl rfl rfl (by show 14 < 27; decide) dX12_readText_31 (by rw [emm_5]; rfl) (fun H locs hG => ?_)
  refine lv_aload_n hx hb dX12_readText_34 rfl (lv_at hl 0 rfl) ?_
  refine lv_iconst (v := 0) hx hb dX12_readText_35 (by decide) ?_
  obtain ⟨mm_6, emm_6, h⟩ := thn_some h
  refine gS_f (v := .int 0) (ws' := (rM E am mm_6 ++ [])) C hG kX12 0 15 rfl (by decide) q1367 rfl rfl rfl rfl (by show 15 < 27; decide) dX12_readText_36 (by rw [emm_6]; rfl) (fun H locs hG => ?_)
  refine lv_aload_n hx hb dX12_readText_39 rfl (lv_at hl 0 rfl) ?_
  refine lv_iconst (v := 0) hx hb dX12_readText_40 (by decide) ?_
  obtain ⟨mm_7, emm_7, h⟩ := thn_some h
  refine gS_f (v := .int 0) (ws' := (rM E am mm_7 ++ [])) C hG kX12 0 7 rfl (by decide) q1359 rfl rfl rfl rfl (by show 7 < 27; decide) dX12_readText_41 (by rw [emm_7]; rfl) (fun H locs hG => ?_)
  refine lv_aload_n hx hb dX12_readText_44 rfl (lv_at hl 0 rfl) ?_
  obtain ⟨r8, hcr8, h⟩ := bnd_some h
  refine gF_v (ws' := (rM E am r8 ++ [])) C hG (pin pnil) (List.Perm.symm (pin pnil)) (gR_V (As := []) (rest := []) C hz hl.1 hG (pin pnil) (c_X12_nextToken l E am N mm_7 hcr8 H.size) okX12_nextToken q1457 0 rfl rfl rfl (Nat.le_of_ble_eq_true rfl) (by omega) ⟨Nat.le_refl _, Nat.le_refl _⟩ dX12_readText_45) (fun H locs hG => ?_)
  exact K48 N r8 _ _ _ hG (lv_sub hl [0] rfl) h
set_option maxHeartbeats 4000000 in
set_option maxRecDepth 100000 in
theorem c_X12_text (l : Launch) (E : GE) (am : Nat → Nat) (N : Nat) (mm : RS) {res : Int32 × RS} (h : fX12_text N mm = some res) : gMi l E yX12_text cX12_text 1 .int 10 0 0 [.ref (am 0)] (rM E am mm ++ []) (rM E am res.2 ++ []) res.1 := by
  refine gMi_of (own := RX12) (by decide +kernel) rfl (Nat.le_of_ble_eq_true rfl) ?_
  intro p e s m args below meth c A ls Q H locs C hz hl hG hret
  have hx := C.1.1
  have hb := C.1.2.1
  have hts := C.1.2.2.2.2
  have hown := C.1.2.2.2.1
  have hl : lv_has ls 1 [(0, .ref (am 0))] := hl
  replace hret : ∀ (r0 : Int32) (mm0 : RS) (H : Heap) (locs : List Loc) (pc : Nat) (ls' : Array Slot), some (r0, mm0) = some res → narrow .int (.int r0) = .int r0 → gG E A s.heap (rM E am mm0 ++ []) H locs → decode cX12_text pc = .ok (.ireturn, 1) → W p l e (rmD 10 0 0) s m args below meth c H locs 0 0 Q (F0 m pc ls' [.int r0]) := by
    intro r0 mm0 H locs pc ls' e0 hn; cases e0; exact hret H locs pc ls' hn
  have K36 : ∀  (s1 : Int32) (mm : RS) (H : Heap) (locs : List Loc) (ls : Array Slot), gG E A s.heap (rM E am mm ++ []) H locs → lv_has ls 1 [(0, .ref (am 0))] → fX12_text_L36 N s1 mm = some res → W p l e (rmD 10 0 0) s m args below meth c H locs 0 0 Q (F0 m 36 ls [.int s1, .ref (am 0)]) := by
    intro s1 mm H locs ls hG hl h
    rw [fX12_text_L36] at h
    obtain ⟨mm_1, emm_1, h⟩ := thn_some h
    refine gS_f (v := .int s1) (ws' := (rM E am mm_1 ++ [])) C hG kX12 0 6 rfl (by decide) q1358 rfl rfl rfl rfl (by show 6 < 27; decide) dX12_text_36 (by rw [emm_1]; rfl) (fun H locs hG => ?_)
    refine lv_aload_n hx hb dX12_text_39 rfl (lv_at hl 0 rfl) ?_
    refine lv_iconst (v := 0) hx hb dX12_text_40 (by decide) ?_
    obtain ⟨mm_2, emm_2, h⟩ := thn_some h
    refine gS_f (v := .int 0) (ws' := (rM E am mm_2 ++ [])) C hG kX12 0 4 rfl (by decide) q1356 rfl rfl rfl rfl (by show 4 < 27; decide) dX12_text_41 (by rw [emm_2]; rfl) (fun H locs hG => ?_)
    refine lv_aload_n hx hb dX12_text_44 rfl (lv_at hl 0 rfl) ?_
    refine gL_f (v := .int (mm_2 0 5)) C hG kX12 0 5 rfl (by decide) rfl q1357 rfl dX12_text_45 ?_
    refine lv_if_eq (tgt := 53) hx hb dX12_text_48 (by decide) (fun c48 => ?_) (fun c48 => ?_)
    · replace h := it c48 h
      refine lv_aload_n hx hb dX12_text_53 rfl (lv_at hl 0 rfl) ?_
      refine gL_f (v := .ref (am 1)) C hG kX12 0 0 rfl (by decide) rfl q1352 rfl dX12_text_54 ?_
      refine lv_iconst (v := 0) hx hb dX12_text_57 (by decide) ?_
      refine lv_dup2_11 hx hb dX12_text_58 rfl rfl ?_
      refine gL_i (v := (mm_2 1 0)) C hG 1 rfl (vp_in_nI (n := 0) (by decide) (by decide)) (congrArg (mm_2 1) (nI_clamp (n := 0) (by decide))) dX12_text_59 ?_
      refine lv_iconst (v := 1) hx hb dX12_text_60 (by decide) ?_
      refine lv_iadd hx hb dX12_text_61 ?_
      obtain ⟨mm_3, emm_3, h⟩ := thn_some h
      refine gS_i (x := ((mm_2 1 0) + 1)) (ws' := (rM E am mm_3 ++ [])) C hG 1 rfl (vp_in_nI (n := 0) (by decide) (by decide)) (nI_clamp (n := 0) (by decide)) dX12_text_62 (by rw [emm_3]; rfl) (fun H locs hG => ?_)
      refine lv_aload_n hx hb dX12_text_63 rfl (lv_at hl 0 rfl) ?_
      refine gL_f (v := .ref (am 1)) C hG kX12 0 0 rfl (by decide) rfl q1352 rfl dX12_text_64 ?_
      refine lv_iconst (v := 0) hx hb dX12_text_67 (by decide) ?_
      refine gL_i (v := (mm_3 1 0)) C hG 1 rfl (vp_in_nI (n := 0) (by decide) (by decide)) (congrArg (mm_3 1) (nI_clamp (n := 0) (by decide))) dX12_text_68 ?_
      refine lv_iconst (v := 1) hx hb dX12_text_69 (by decide) ?_
      refine lv_isub hx hb dX12_text_70 ?_
      exact hret _ _ _ _ _ _ h rfl hG dX12_text_71
    · replace h := ie c48 h
      refine lv_iconst (v := (-1)) hx hb dX12_text_51 (by decide) ?_
      exact hret _ _ _ _ _ _ h rfl hG dX12_text_52
  rw [fX12_text] at h
  refine lv_aload_n hx hb dX12_text_0 rfl (lv_at hl 0 rfl) ?_
  refine gL_f (v := .ref (am 1)) C hG kX12 0 0 rfl (by decide) rfl q1352 rfl dX12_text_1 ?_
  refine lv_iconst (v := 0) hx hb dX12_text_4 (by decide) ?_
  refine gL_i (v := (mm 1 0)) C hG 1 rfl (vp_in_nI (n := 0) (by decide) (by decide)) (congrArg (mm 1) (nI_clamp (n := 0) (by decide))) dX12_text_5 ?_
  refine lv_iconst (v := 4) hx hb dX12_text_6 (by decide) ?_
  refine lv_icmp_ne (tgt := 12) hx hb dX12_text_7 (by decide) (fun c7 => ?_) (fun c7 => ?_)
  · replace h := ie c7 h
    refine lv_aload_n hx hb dX12_text_12 rfl (lv_at hl 0 rfl) ?_
    refine lv_aload_n hx hb dX12_text_13 rfl (lv_at hl 0 rfl) ?_
    obtain ⟨r1, hcr1, h⟩ := bnd_some h
    refine gF_i (ws' := (rM E am r1.2 ++ [])) C hG (pin pnil) (List.Perm.symm (pin pnil)) (gR_V (As := []) (rest := [.ref (am 0)]) C hz hl.1 hG (pin pnil) (c_X12_readText l E am N mm hcr1 H.size) okX12_readText q1453 0 rfl rfl rfl (Nat.le_of_ble_eq_true rfl) (by omega) ⟨Nat.le_refl _, Nat.le_refl _⟩ dX12_text_14) (fun H locs _ hG => ?_)
    obtain ⟨mm_2, emm_2, h⟩ := thn_some h
    refine gS_f (v := .int r1.1) (ws' := (rM E am mm_2 ++ [])) C hG kX12 0 5 rfl (by decide) q1357 rfl rfl rfl rfl (by show 5 < 27; decide) dX12_text_17 (by rw [emm_2]; rfl) (fun H locs hG => ?_)
    refine lv_aload_n hx hb dX12_text_20 rfl (lv_at hl 0 rfl) ?_
    refine lv_aload_n hx hb dX12_text_21 rfl (lv_at hl 0 rfl) ?_
    refine gL_f (v := .int (mm_2 0 5)) C hG kX12 0 5 rfl (by decide) rfl q1357 rfl dX12_text_22 ?_
    refine lv_if_ne (tgt := 32) hx hb dX12_text_25 (by decide) (fun c25 => ?_) (fun c25 => ?_)
    · replace h := ie c25 h
      refine lv_aload_n hx hb dX12_text_32 rfl (lv_at hl 0 rfl) ?_
      refine gL_f (v := .int (mm_2 0 8)) C hG kX12 0 8 rfl (by decide) rfl q1360 rfl dX12_text_33 ?_
      exact K36 (mm_2 0 8) mm_2 _ _ _ hG (lv_sub hl [0] rfl) h
    · replace h := it c25 h
      refine lv_iconst (v := (-1)) hx hb dX12_text_28 (by decide) ?_
      refine lv_goto (tgt := 36) hx hb dX12_text_29 (by decide) ?_
      exact K36 (-1) mm_2 _ _ _ hG (lv_sub hl [0] rfl) h
  · replace h := it c7 h
    refine lv_iconst (v := (-1)) hx hb dX12_text_10 (by decide) ?_
    exact hret _ _ _ _ _ _ h rfl hG dX12_text_11
set_option maxHeartbeats 4000000 in
set_option maxRecDepth 100000 in
theorem c_X12_fault (l : Launch) (E : GE) (am : Nat → Nat) (x1 : Int32) (mm : RS) {res : Int32} (h : fX12_fault x1 mm = res) : gMi l E yX12_fault cX12_fault 2 .int 1 0 0 [.ref (am 0), .int x1] (rM E am mm ++ []) (rM E am mm ++ []) res := by
  refine gMi_of (own := RX12) (by decide +kernel) rfl (Nat.le_of_ble_eq_true rfl) ?_
  intro p e s m args below meth c A ls Q H locs C hz hl hG hret
  have hx := C.1.1
  have hb := C.1.2.1
  have hts := C.1.2.2.2.2
  have hown := C.1.2.2.2.1
  have hl : lv_has ls 2 [(0, .ref (am 0)), (1, .int x1)] := hl
  replace hret : ∀ (r0 : Int32) (H : Heap) (locs : List Loc) (pc : Nat) (ls' : Array Slot), r0 = res → narrow .int (.int r0) = .int r0 → gG E A s.heap (rM E am mm ++ []) H locs → decode cX12_fault pc = .ok (.ireturn, 1) → W p l e (rmD 1 0 0) s m args below meth c H locs 0 0 Q (F0 m pc ls' [.int r0]) := by
    intro r0 H locs pc ls' e0 hn; cases e0; exact hret H locs pc ls' hn
  rw [fX12_fault] at h
  refine lv_iload_n hx hb dX12_fault_0 rfl (lv_at hl 1 rfl) ?_
  refine lv_if_ne (tgt := 11) hx hb dX12_fault_1 (by decide) (fun c1 => ?_) (fun c1 => ?_)
  · replace h := ie c1 h
    refine lv_iload_n hx hb dX12_fault_11 rfl (lv_at hl 1 rfl) ?_
    refine lv_iconst (v := 1) hx hb dX12_fault_12 (by decide) ?_
    refine lv_icmp_ne (tgt := 23) hx hb dX12_fault_13 (by decide) (fun c13 => ?_) (fun c13 => ?_)
    · replace h := ie c13 h
      refine lv_iconst (v := (-1)) hx hb dX12_fault_23 (by decide) ?_
      exact hret _ _ _ _ _ h rfl hG dX12_fault_24
    · replace h := it c13 h
      refine lv_aload_n hx hb dX12_fault_16 rfl (lv_at hl 0 rfl) ?_
      refine gL_f (v := .int (mm 0 6)) C hG kX12 0 6 rfl (by decide) rfl q1358 rfl dX12_fault_17 ?_
      refine lv_goto (tgt := 24) hx hb dX12_fault_20 (by decide) ?_
      exact hret _ _ _ _ _ h rfl hG dX12_fault_24
  · replace h := it c1 h
    refine lv_aload_n hx hb dX12_fault_4 rfl (lv_at hl 0 rfl) ?_
    refine gL_f (v := .int (mm 0 5)) C hG kX12 0 5 rfl (by decide) rfl q1357 rfl dX12_fault_5 ?_
    refine lv_goto (tgt := 24) hx hb dX12_fault_8 (by decide) ?_
    exact hret _ _ _ _ _ h rfl hG dX12_fault_24
set_option maxHeartbeats 4000000 in
set_option maxRecDepth 100000 in
theorem c_X12_writeDown (l : Launch) (E : GE) (am : Nat → Nat) (N : Nat) (x1 : Int32) (x2 : Int32) (x3 : Int32) (mm : RS) {res : RS} (h : fX12_writeDown N x1 x2 x3 mm = some res) : gMv l E yX12_writeDown cX12_writeDown 5 1 0 0 [.ref (am 0), .int x1, .int x2, .int x3] (rM E am mm ++ []) (rM E am res ++ []) := by
  refine gMv_of (own := RX12) (by decide +kernel) rfl (Nat.le_of_ble_eq_true rfl) ?_
  intro p e s m args below meth c A ls Q H locs C hz hl hG hin hret
  have hx := C.1.1
  have hb := C.1.2.1
  have hts := C.1.2.2.2.2
  have hown := C.1.2.2.2.1
  have hl : lv_has ls 5 [(0, .ref (am 0)), (1, .int x1), (2, .int x2), (3, .int x3)] := hl
  replace hret : ∀ (mm0 : RS) (H : Heap) (locs : List Loc) (pc : Nat) (ls' : Array Slot), some mm0 = some res → gG E A s.heap (rM E am mm0 ++ []) H locs → decode cX12_writeDown pc = .ok (.return_, 1) → W p l e (rmD 1 0 0) s m args below meth c H locs 0 0 Q (F0 m pc ls' []) := by
    intro mm0 H locs pc ls' e0; cases e0; exact hret H locs pc ls'
  have K58 : ∀  (mm : RS) (H : Heap) (locs : List Loc) (ls : Array Slot), gG E A s.heap (rM E am mm ++ []) H locs → lv_has ls 5 [(0, .ref (am 0)), (1, .int x1), (2, .int x2), (3, .int x3)] → fX12_writeDown_L58 N x1 x2 x3 mm = some res → W p l e (rmD 1 0 0) s m args below meth c H locs 0 0 Q (F0 m 58 ls []) := by
    intro mm H locs ls hG hl h
    rw [fX12_writeDown_L58] at h
    refine lv_sipush (v := 240) hx hb dX12_writeDown_58 (by decide) ?_
    refine lv_iconst (v := 4) hx hb dX12_writeDown_61 (by decide) ?_
    refine lv_aload_n hx hb dX12_writeDown_62 rfl (lv_at hl 0 rfl) ?_
    refine gL_f (v := .ref (am 1)) C hG kX12 0 0 rfl (by decide) rfl q1352 rfl dX12_writeDown_63 ?_
    refine lv_bipush (v := 18) hx hb dX12_writeDown_66 (by decide) ?_
    refine gL_i (v := (mm 1 18)) C hG 1 rfl (vp_in_nI (n := 18) (by decide) (by decide)) (congrArg (mm 1) (nI_clamp (n := 18) (by decide))) dX12_writeDown_68 ?_
    refine lv_imul hx hb dX12_writeDown_69 ?_
    refine lv_iadd hx hb dX12_writeDown_70 ?_
    obtain ⟨x4_1, ex4_1, h⟩ := thn_some h
    refine g_int ex4_1 ?_
    refine lv_istore (lv' := [(4, .int x4_1), (0, .ref (am 0)), (1, .int x1), (2, .int x2), (3, .int x3)]) hx hb dX12_writeDown_71 hl (by decide) rfl (fun ls hl => ?_)
    refine lv_aload_n hx hb dX12_writeDown_73 rfl (lv_at hl 1 rfl) ?_
    refine gL_f (v := .ref (am 1)) C hG kX12 0 0 rfl (by decide) rfl q1352 rfl dX12_writeDown_74 ?_
    refine lv_iload hx hb dX12_writeDown_77 (lv_at hl 0 rfl) ?_
    refine lv_aload_n hx hb dX12_writeDown_79 rfl (lv_at hl 1 rfl) ?_
    refine gL_f (v := .ref (am 1)) C hG kX12 0 0 rfl (by decide) rfl q1352 rfl dX12_writeDown_80 ?_
    refine lv_iconst (v := 3) hx hb dX12_writeDown_83 (by decide) ?_
    refine gL_i (v := (mm 1 3)) C hG 1 rfl (vp_in_nI (n := 3) (by decide) (by decide)) (congrArg (mm 1) (nI_clamp (n := 3) (by decide))) dX12_writeDown_84 ?_
    obtain ⟨b2, h⟩ := ck_some h
    obtain ⟨mm_3, emm_3, h⟩ := thn_some h
    refine gS_i (x := (mm 1 3)) (ws' := (rM E am mm_3 ++ [])) C hG 1 rfl (inb_in b2) rfl dX12_writeDown_85 (by rw [emm_3]; rfl) (fun H locs hG => ?_)
    refine lv_aload_n hx hb dX12_writeDown_86 rfl (lv_at hl 1 rfl) ?_
    refine gL_f (v := .ref (am 1)) C hG kX12 0 0 rfl (by decide) rfl q1352 rfl dX12_writeDown_87 ?_
    refine lv_iload hx hb dX12_writeDown_90 (lv_at hl 0 rfl) ?_
    refine lv_iconst (v := 1) hx hb dX12_writeDown_92 (by decide) ?_
    refine lv_iadd hx hb dX12_writeDown_93 ?_
    refine lv_iload_n hx hb dX12_writeDown_94 rfl (lv_at hl 2 rfl) ?_
    obtain ⟨b4, h⟩ := ck_some h
    obtain ⟨mm_5, emm_5, h⟩ := thn_some h
    refine gS_i (x := x1) (ws' := (rM E am mm_5 ++ [])) C hG 1 rfl (inb_in b4) rfl dX12_writeDown_95 (by rw [emm_5]; rfl) (fun H locs hG => ?_)
    refine lv_aload_n hx hb dX12_writeDown_96 rfl (lv_at hl 1 rfl) ?_
    refine gL_f (v := .ref (am 1)) C hG kX12 0 0 rfl (by decide) rfl q1352 rfl dX12_writeDown_97 ?_
    refine lv_iload hx hb dX12_writeDown_100 (lv_at hl 0 rfl) ?_
    refine lv_iconst (v := 2) hx hb dX12_writeDown_102 (by decide) ?_
    refine lv_iadd hx hb dX12_writeDown_103 ?_
    refine lv_iload_n hx hb dX12_writeDown_104 rfl (lv_at hl 3 rfl) ?_
    obtain ⟨b6, h⟩ := ck_some h
    obtain ⟨mm_7, emm_7, h⟩ := thn_some h
    refine gS_i (x := x2) (ws' := (rM E am mm_7 ++ [])) C hG 1 rfl (inb_in b6) rfl dX12_writeDown_105 (by rw [emm_7]; rfl) (fun H locs hG => ?_)
    refine lv_aload_n hx hb dX12_writeDown_106 rfl (lv_at hl 1 rfl) ?_
    refine gL_f (v := .ref (am 1)) C hG kX12 0 0 rfl (by decide) rfl q1352 rfl dX12_writeDown_107 ?_
    refine lv_iload hx hb dX12_writeDown_110 (lv_at hl 0 rfl) ?_
    refine lv_iconst (v := 3) hx hb dX12_writeDown_112 (by decide) ?_
    refine lv_iadd hx hb dX12_writeDown_113 ?_
    refine lv_iload_n hx hb dX12_writeDown_114 rfl (lv_at hl 4 rfl) ?_
    obtain ⟨b8, h⟩ := ck_some h
    obtain ⟨mm_9, emm_9, h⟩ := thn_some h
    refine gS_i (x := x3) (ws' := (rM E am mm_9 ++ [])) C hG 1 rfl (inb_in b8) rfl dX12_writeDown_115 (by rw [emm_9]; rfl) (fun H locs hG => ?_)
    refine lv_aload_n hx hb dX12_writeDown_116 rfl (lv_at hl 1 rfl) ?_
    refine gL_f (v := .ref (am 1)) C hG kX12 0 0 rfl (by decide) rfl q1352 rfl dX12_writeDown_117 ?_
    refine lv_bipush (v := 18) hx hb dX12_writeDown_120 (by decide) ?_
    refine lv_dup2_11 hx hb dX12_writeDown_122 rfl rfl ?_
    refine gL_i (v := (mm_9 1 18)) C hG 1 rfl (vp_in_nI (n := 18) (by decide) (by decide)) (congrArg (mm_9 1) (nI_clamp (n := 18) (by decide))) dX12_writeDown_123 ?_
    refine lv_iconst (v := 1) hx hb dX12_writeDown_124 (by decide) ?_
    refine lv_iadd hx hb dX12_writeDown_125 ?_
    obtain ⟨mm_10, emm_10, h⟩ := thn_some h
    refine gS_i (x := ((mm_9 1 18) + 1)) (ws' := (rM E am mm_10 ++ [])) C hG 1 rfl (vp_in_nI (n := 18) (by decide) (by decide)) (nI_clamp (n := 18) (by decide)) dX12_writeDown_126 (by rw [emm_10]; rfl) (fun H locs hG => ?_)
    exact hret _ _ _ _ _ h hG dX12_writeDown_127
  have K17 : ∀ (k : Nat), ∀  (x4 : Int32) (mm : RS) (H : Heap) (locs : List Loc) (ls : Array Slot), gG E A s.heap (rM E am mm ++ []) H locs → lv_has ls 5 [(0, .ref (am 0)), (1, .int x1), (2, .int x2), (3, .int x3), (4, .int x4)] → fX12_writeDown_L17 N x1 x2 x3 k x4 mm = some res → W p l e (rmD 1 0 0) s m args below meth c H locs 0 0 Q (F0 m 17 ls []) := by
    intro k
    induction k with
    | zero => intro x4 mm H locs ls hG hl h; exact absurd (show none = _ from h) (by simp)
    | succ k ih =>
      intro x4 mm H locs ls hG hl h
      rw [fX12_writeDown_L17] at h
      refine lv_iload hx hb dX12_writeDown_17 (lv_at hl 4 rfl) ?_
      refine lv_sipush (v := 336) hx hb dX12_writeDown_19 (by decide) ?_
      refine lv_icmp_ge (tgt := 47) hx hb dX12_writeDown_22 (by decide) (fun c22 => ?_) (fun c22 => ?_)
      · replace h := it c22 h
        refine lv_aload_n hx hb dX12_writeDown_47 rfl (lv_at hl 0 rfl) ?_
        refine gL_f (v := .ref (am 1)) C hG kX12 0 0 rfl (by decide) rfl q1352 rfl dX12_writeDown_48 ?_
        refine lv_bipush (v := 18) hx hb dX12_writeDown_51 (by decide) ?_
        refine lv_dup2_11 hx hb dX12_writeDown_53 rfl rfl ?_
        refine gL_i (v := (mm 1 18)) C hG 1 rfl (vp_in_nI (n := 18) (by decide) (by decide)) (congrArg (mm 1) (nI_clamp (n := 18) (by decide))) dX12_writeDown_54 ?_
        refine lv_iconst (v := 1) hx hb dX12_writeDown_55 (by decide) ?_
        refine lv_isub hx hb dX12_writeDown_56 ?_
        obtain ⟨mm_1, emm_1, h⟩ := thn_some h
        refine gS_i (x := ((mm 1 18) - 1)) (ws' := (rM E am mm_1 ++ [])) C hG 1 rfl (vp_in_nI (n := 18) (by decide) (by decide)) (nI_clamp (n := 18) (by decide)) dX12_writeDown_57 (by rw [emm_1]; rfl) (fun H locs hG => ?_)
        exact K58 mm_1 _ _ _ hG (lv_sub hl [0, 1, 2, 3] rfl) h
      · replace h := ie c22 h
        refine lv_aload_n hx hb dX12_writeDown_25 rfl (lv_at hl 0 rfl) ?_
        refine gL_f (v := .ref (am 1)) C hG kX12 0 0 rfl (by decide) rfl q1352 rfl dX12_writeDown_26 ?_
        refine lv_iload hx hb dX12_writeDown_29 (lv_at hl 4 rfl) ?_
        refine lv_aload_n hx hb dX12_writeDown_31 rfl (lv_at hl 0 rfl) ?_
        refine gL_f (v := .ref (am 1)) C hG kX12 0 0 rfl (by decide) rfl q1352 rfl dX12_writeDown_32 ?_
        refine lv_iload hx hb dX12_writeDown_35 (lv_at hl 4 rfl) ?_
        refine lv_iconst (v := 4) hx hb dX12_writeDown_37 (by decide) ?_
        refine lv_iadd hx hb dX12_writeDown_38 ?_
        obtain ⟨b2, h⟩ := ck_some h
        refine gL_i (v := (mm 1 (x4 + 4).toNatClampNeg)) C hG 1 rfl (inb_in b2) rfl dX12_writeDown_39 ?_
        obtain ⟨b3, h⟩ := ck_some h
        obtain ⟨mm_4, emm_4, h⟩ := thn_some h
        refine gS_i (x := (mm 1 (x4 + 4).toNatClampNeg)) (ws' := (rM E am mm_4 ++ [])) C hG 1 rfl (inb_in b3) rfl dX12_writeDown_40 (by rw [emm_4]; rfl) (fun H locs hG => ?_)
        refine lv_iinc (v := (x4 + 1)) (lv' := [(4, .int (x4 + 1)), (0, .ref (am 0)), (1, .int x1), (2, .int x2), (3, .int x3)]) hx hb dX12_writeDown_41 hl (k := 4) rfl (congrArg (x4 + ·) (by decide : Int32.ofInt 1 = 1)) (by decide) rfl (fun ls hl => ?_)
        refine lv_goto (tgt := 17) hx hb dX12_writeDown_44 (by decide) ?_
        exact ih (x4 + 1) mm_4 _ _ _ hG (lv_sub hl [1, 2, 3, 4, 0] rfl) h
  rw [fX12_writeDown] at h
  refine lv_aload_n hx hb dX12_writeDown_0 rfl (lv_at hl 0 rfl) ?_
  refine gL_f (v := .ref (am 1)) C hG kX12 0 0 rfl (by decide) rfl q1352 rfl dX12_writeDown_1 ?_
  refine lv_bipush (v := 18) hx hb dX12_writeDown_4 (by decide) ?_
  refine gL_i (v := (mm 1 18)) C hG 1 rfl (vp_in_nI (n := 18) (by decide) (by decide)) (congrArg (mm 1) (nI_clamp (n := 18) (by decide))) dX12_writeDown_6 ?_
  refine lv_bipush (v := 25) hx hb dX12_writeDown_7 (by decide) ?_
  refine lv_icmp_ne (tgt := 58) hx hb dX12_writeDown_9 (by decide) (fun c9 => ?_) (fun c9 => ?_)
  · replace h := ie c9 h
    exact K58 mm _ _ _ hG (lv_sub hl [0, 1, 2, 3] rfl) h
  · replace h := it c9 h
    refine lv_sipush (v := 240) hx hb dX12_writeDown_12 (by decide) ?_
    refine lv_istore (lv' := [(4, .int 240), (0, .ref (am 0)), (1, .int x1), (2, .int x2), (3, .int x3)]) hx hb dX12_writeDown_15 hl (by decide) rfl (fun ls hl => ?_)
    exact K17 N 240 mm _ _ _ hG (lv_sub hl [1, 2, 3, 4, 0] rfl) h
set_option maxHeartbeats 4000000 in
set_option maxRecDepth 100000 in
theorem c_X12_headAt (l : Launch) (E : GE) (am : Nat → Nat) (N : Nat) (x1 : Int32) (mm : RS) {res : Int32} (h : fX12_headAt N x1 mm = some res) : gMi l E yX12_headAt cX12_headAt 3 .int 1 0 0 [.ref (am 0), .int x1] (rM E am mm ++ []) (rM E am mm ++ []) res := by
  refine gMi_of (own := RX12) (by decide +kernel) rfl (Nat.le_of_ble_eq_true rfl) ?_
  intro p e s m args below meth c A ls Q H locs C hz hl hG hret
  have hx := C.1.1
  have hb := C.1.2.1
  have hts := C.1.2.2.2.2
  have hown := C.1.2.2.2.1
  have hl : lv_has ls 3 [(0, .ref (am 0)), (1, .int x1)] := hl
  replace hret : ∀ (r0 : Int32) (H : Heap) (locs : List Loc) (pc : Nat) (ls' : Array Slot), some r0 = some res → narrow .int (.int r0) = .int r0 → gG E A s.heap (rM E am mm ++ []) H locs → decode cX12_headAt pc = .ok (.ireturn, 1) → W p l e (rmD 1 0 0) s m args below meth c H locs 0 0 Q (F0 m pc ls' [.int r0]) := by
    intro r0 H locs pc ls' e0 hn; cases e0; exact hret H locs pc ls' hn
  have K2 : ∀ (k : Nat), ∀  (x2 : Int32) (H : Heap) (locs : List Loc) (ls : Array Slot), gG E A s.heap (rM E am mm ++ []) H locs → lv_has ls 3 [(0, .ref (am 0)), (1, .int x1), (2, .int x2)] → fX12_headAt_L2 N x1 mm k x2 = some res → W p l e (rmD 1 0 0) s m args below meth c H locs 0 0 Q (F0 m 2 ls []) := by
    intro k
    induction k with
    | zero => intro x2 H locs ls hG hl h; exact absurd (show none = _ from h) (by simp)
    | succ k ih =>
      intro x2 H locs ls hG hl h
      rw [fX12_headAt_L2] at h
      refine lv_iload_n hx hb dX12_headAt_2 rfl (lv_at hl 2 rfl) ?_
      refine lv_aload_n hx hb dX12_headAt_3 rfl (lv_at hl 0 rfl) ?_
      refine gL_f (v := .ref (am 1)) C hG kX12 0 0 rfl (by decide) rfl q1352 rfl dX12_headAt_4 ?_
      refine lv_bipush (v := 16) hx hb dX12_headAt_7 (by decide) ?_
      refine gL_i (v := (mm 1 16)) C hG 1 rfl (vp_in_nI (n := 16) (by decide) (by decide)) (congrArg (mm 1) (nI_clamp (n := 16) (by decide))) dX12_headAt_9 ?_
      refine lv_icmp_ge (tgt := 37) hx hb dX12_headAt_10 (by decide) (fun c10 => ?_) (fun c10 => ?_)
      · replace h := it c10 h
        refine lv_iconst (v := (-1)) hx hb dX12_headAt_37 (by decide) ?_
        exact hret _ _ _ _ _ h rfl hG dX12_headAt_38
      · replace h := ie c10 h
        refine lv_aload_n hx hb dX12_headAt_13 rfl (lv_at hl 0 rfl) ?_
        refine gL_f (v := .ref (am 1)) C hG kX12 0 0 rfl (by decide) rfl q1352 rfl dX12_headAt_14 ?_
        refine lv_sipush (v := 194) hx hb dX12_headAt_17 (by decide) ?_
        refine lv_iconst (v := 2) hx hb dX12_headAt_20 (by decide) ?_
        refine lv_iload_n hx hb dX12_headAt_21 rfl (lv_at hl 2 rfl) ?_
        refine lv_imul hx hb dX12_headAt_22 ?_
        refine lv_iadd hx hb dX12_headAt_23 ?_
        obtain ⟨b1, h⟩ := ck_some h
        refine gL_i (v := (mm 1 (194 + (2 * x2)).toNatClampNeg)) C hG 1 rfl (inb_in b1) rfl dX12_headAt_24 ?_
        refine lv_iload_n hx hb dX12_headAt_25 rfl (lv_at hl 1 rfl) ?_
        refine lv_icmp_ne (tgt := 31) hx hb dX12_headAt_26 (by decide) (fun c26 => ?_) (fun c26 => ?_)
        · replace h := ie c26 h
          refine lv_iinc (v := (x2 + 1)) (lv' := [(2, .int (x2 + 1)), (0, .ref (am 0)), (1, .int x1)]) hx hb dX12_headAt_31 hl (k := 2) rfl (congrArg (x2 + ·) (by decide : Int32.ofInt 1 = 1)) (by decide) rfl (fun ls hl => ?_)
          refine lv_goto (tgt := 2) hx hb dX12_headAt_34 (by decide) ?_
          exact ih (x2 + 1) _ _ _ hG (lv_sub hl [1, 2, 0] rfl) h
        · replace h := it c26 h
          refine lv_iload_n hx hb dX12_headAt_29 rfl (lv_at hl 2 rfl) ?_
          exact hret _ _ _ _ _ h rfl hG dX12_headAt_30
  rw [fX12_headAt] at h
  refine lv_iconst (v := 0) hx hb dX12_headAt_0 (by decide) ?_
  refine lv_istore_n (lv' := [(2, .int 0), (0, .ref (am 0)), (1, .int x1)]) hx hb dX12_headAt_1 rfl hl (by decide) rfl (fun ls hl => ?_)
  exact K2 N 0 _ _ _ hG (lv_sub hl [1, 2, 0] rfl) h
set_option maxHeartbeats 4000000 in
set_option maxRecDepth 100000 in
theorem c_X12_outHead (l : Launch) (E : GE) (am : Nat → Nat) (N : Nat) (x1 : Int32) (mm : RS) {res : RS} (h : fX12_outHead N x1 mm = some res) : gMv l E yX12_outHead cX12_outHead 3 1 0 0 [.ref (am 0), .int x1] (rM E am mm ++ []) (rM E am res ++ []) := by
  refine gMv_of (own := RX12) (by decide +kernel) rfl (Nat.le_of_ble_eq_true rfl) ?_
  intro p e s m args below meth c A ls Q H locs C hz hl hG hin hret
  have hx := C.1.1
  have hb := C.1.2.1
  have hts := C.1.2.2.2.2
  have hown := C.1.2.2.2.1
  have hl : lv_has ls 3 [(0, .ref (am 0)), (1, .int x1)] := hl
  replace hret : ∀ (mm0 : RS) (H : Heap) (locs : List Loc) (pc : Nat) (ls' : Array Slot), some mm0 = some res → gG E A s.heap (rM E am mm0 ++ []) H locs → decode cX12_outHead pc = .ok (.return_, 1) → W p l e (rmD 1 0 0) s m args below meth c H locs 0 0 Q (F0 m pc ls' []) := by
    intro mm0 H locs pc ls' e0; cases e0; exact hret H locs pc ls'
  have K8 : ∀ (k : Nat), ∀  (x2 : Int32) (mm : RS) (H : Heap) (locs : List Loc) (ls : Array Slot), gG E A s.heap (rM E am mm ++ []) H locs → lv_has ls 3 [(0, .ref (am 0)), (2, .int x2)] → fX12_outHead_L8 N x1 k x2 mm = some res → W p l e (rmD 1 0 0) s m args below meth c H locs 0 0 Q (F0 m 8 ls []) := by
    intro k
    induction k with
    | zero => intro x2 mm H locs ls hG hl h; exact absurd (show none = _ from h) (by simp)
    | succ k ih =>
      intro x2 mm H locs ls hG hl h
      rw [fX12_outHead_L8] at h
      refine lv_iload_n hx hb dX12_outHead_8 rfl (lv_at hl 1 rfl) ?_
      refine lv_sipush (v := 194) hx hb dX12_outHead_9 (by decide) ?_
      refine lv_iconst (v := 2) hx hb dX12_outHead_12 (by decide) ?_
      refine lv_aload_n hx hb dX12_outHead_13 rfl (lv_at hl 0 rfl) ?_
      refine gL_f (v := .ref (am 1)) C hG kX12 0 0 rfl (by decide) rfl q1352 rfl dX12_outHead_14 ?_
      refine lv_bipush (v := 16) hx hb dX12_outHead_17 (by decide) ?_
      refine gL_i (v := (mm 1 16)) C hG 1 rfl (vp_in_nI (n := 16) (by decide) (by decide)) (congrArg (mm 1) (nI_clamp (n := 16) (by decide))) dX12_outHead_19 ?_
      refine lv_imul hx hb dX12_outHead_20 ?_
      refine lv_iadd hx hb dX12_outHead_21 ?_
      refine lv_iconst (v := 2) hx hb dX12_outHead_22 (by decide) ?_
      refine lv_isub hx hb dX12_outHead_23 ?_
      refine lv_icmp_ge (tgt := 47) hx hb dX12_outHead_24 (by decide) (fun c24 => ?_) (fun c24 => ?_)
      · replace h := it c24 h
        refine lv_aload_n hx hb dX12_outHead_47 rfl (lv_at hl 0 rfl) ?_
        refine gL_f (v := .ref (am 1)) C hG kX12 0 0 rfl (by decide) rfl q1352 rfl dX12_outHead_48 ?_
        refine lv_bipush (v := 16) hx hb dX12_outHead_51 (by decide) ?_
        refine lv_dup2_11 hx hb dX12_outHead_53 rfl rfl ?_
        refine gL_i (v := (mm 1 16)) C hG 1 rfl (vp_in_nI (n := 16) (by decide) (by decide)) (congrArg (mm 1) (nI_clamp (n := 16) (by decide))) dX12_outHead_54 ?_
        refine lv_iconst (v := 1) hx hb dX12_outHead_55 (by decide) ?_
        refine lv_isub hx hb dX12_outHead_56 ?_
        obtain ⟨mm_1, emm_1, h⟩ := thn_some h
        refine gS_i (x := ((mm 1 16) - 1)) (ws' := (rM E am mm_1 ++ [])) C hG 1 rfl (vp_in_nI (n := 16) (by decide) (by decide)) (nI_clamp (n := 16) (by decide)) dX12_outHead_57 (by rw [emm_1]; rfl) (fun H locs hG => ?_)
        refine lv_aload_n hx hb dX12_outHead_58 rfl (lv_at hl 0 rfl) ?_
        refine gL_f (v := .ref (am 1)) C hG kX12 0 0 rfl (by decide) rfl q1352 rfl dX12_outHead_59 ?_
        refine lv_sipush (v := 194) hx hb dX12_outHead_62 (by decide) ?_
        refine lv_iconst (v := 2) hx hb dX12_outHead_65 (by decide) ?_
        refine lv_aload_n hx hb dX12_outHead_66 rfl (lv_at hl 0 rfl) ?_
        refine gL_f (v := .ref (am 1)) C hG kX12 0 0 rfl (by decide) rfl q1352 rfl dX12_outHead_67 ?_
        refine lv_bipush (v := 16) hx hb dX12_outHead_70 (by decide) ?_
        refine gL_i (v := (mm_1 1 16)) C hG 1 rfl (vp_in_nI (n := 16) (by decide) (by decide)) (congrArg (mm_1 1) (nI_clamp (n := 16) (by decide))) dX12_outHead_72 ?_
        refine lv_imul hx hb dX12_outHead_73 ?_
        refine lv_iadd hx hb dX12_outHead_74 ?_
        refine lv_iconst (v := 0) hx hb dX12_outHead_75 (by decide) ?_
        obtain ⟨b2, h⟩ := ck_some h
        obtain ⟨mm_3, emm_3, h⟩ := thn_some h
        refine gS_i (x := 0) (ws' := (rM E am mm_3 ++ [])) C hG 1 rfl (inb_in b2) rfl dX12_outHead_76 (by rw [emm_3]; rfl) (fun H locs hG => ?_)
        refine lv_aload_n hx hb dX12_outHead_77 rfl (lv_at hl 0 rfl) ?_
        refine gL_f (v := .ref (am 1)) C hG kX12 0 0 rfl (by decide) rfl q1352 rfl dX12_outHead_78 ?_
        refine lv_sipush (v := 194) hx hb dX12_outHead_81 (by decide) ?_
        refine lv_iconst (v := 2) hx hb dX12_outHead_84 (by decide) ?_
        refine lv_aload_n hx hb dX12_outHead_85 rfl (lv_at hl 0 rfl) ?_
        refine gL_f (v := .ref (am 1)) C hG kX12 0 0 rfl (by decide) rfl q1352 rfl dX12_outHead_86 ?_
        refine lv_bipush (v := 16) hx hb dX12_outHead_89 (by decide) ?_
        refine gL_i (v := (mm_3 1 16)) C hG 1 rfl (vp_in_nI (n := 16) (by decide) (by decide)) (congrArg (mm_3 1) (nI_clamp (n := 16) (by decide))) dX12_outHead_91 ?_
        refine lv_imul hx hb dX12_outHead_92 ?_
        refine lv_iadd hx hb dX12_outHead_93 ?_
        refine lv_iconst (v := 1) hx hb dX12_outHead_94 (by decide) ?_
        refine lv_iadd hx hb dX12_outHead_95 ?_
        refine lv_iconst (v := 0) hx hb dX12_outHead_96 (by decide) ?_
        obtain ⟨b4, h⟩ := ck_some h
        obtain ⟨mm_5, emm_5, h⟩ := thn_some h
        refine gS_i (x := 0) (ws' := (rM E am mm_5 ++ [])) C hG 1 rfl (inb_in b4) rfl dX12_outHead_97 (by rw [emm_5]; rfl) (fun H locs hG => ?_)
        exact hret _ _ _ _ _ h hG dX12_outHead_98
      · replace h := ie c24 h
        refine lv_aload_n hx hb dX12_outHead_27 rfl (lv_at hl 0 rfl) ?_
        refine gL_f (v := .ref (am 1)) C hG kX12 0 0 rfl (by decide) rfl q1352 rfl dX12_outHead_28 ?_
        refine lv_iload_n hx hb dX12_outHead_31 rfl (lv_at hl 1 rfl) ?_
        refine lv_aload_n hx hb dX12_outHead_32 rfl (lv_at hl 0 rfl) ?_
        refine gL_f (v := .ref (am 1)) C hG kX12 0 0 rfl (by decide) rfl q1352 rfl dX12_outHead_33 ?_
        refine lv_iload_n hx hb dX12_outHead_36 rfl (lv_at hl 1 rfl) ?_
        refine lv_iconst (v := 2) hx hb dX12_outHead_37 (by decide) ?_
        refine lv_iadd hx hb dX12_outHead_38 ?_
        obtain ⟨b6, h⟩ := ck_some h
        refine gL_i (v := (mm 1 (x2 + 2).toNatClampNeg)) C hG 1 rfl (inb_in b6) rfl dX12_outHead_39 ?_
        obtain ⟨b7, h⟩ := ck_some h
        obtain ⟨mm_8, emm_8, h⟩ := thn_some h
        refine gS_i (x := (mm 1 (x2 + 2).toNatClampNeg)) (ws' := (rM E am mm_8 ++ [])) C hG 1 rfl (inb_in b7) rfl dX12_outHead_40 (by rw [emm_8]; rfl) (fun H locs hG => ?_)
        refine lv_iinc (v := (x2 + 1)) (lv' := [(2, .int (x2 + 1)), (0, .ref (am 0))]) hx hb dX12_outHead_41 hl (k := 1) rfl (congrArg (x2 + ·) (by decide : Int32.ofInt 1 = 1)) (by decide) rfl (fun ls hl => ?_)
        refine lv_goto (tgt := 8) hx hb dX12_outHead_44 (by decide) ?_
        exact ih (x2 + 1) mm_8 _ _ _ hG (lv_sub hl [1, 0] rfl) h
  rw [fX12_outHead] at h
  refine lv_sipush (v := 194) hx hb dX12_outHead_0 (by decide) ?_
  refine lv_iconst (v := 2) hx hb dX12_outHead_3 (by decide) ?_
  refine lv_iload_n hx hb dX12_outHead_4 rfl (lv_at hl 1 rfl) ?_
  refine lv_imul hx hb dX12_outHead_5 ?_
  refine lv_iadd hx hb dX12_outHead_6 ?_
  obtain ⟨x2_1, ex2_1, h⟩ := thn_some h
  refine g_int ex2_1 ?_
  refine lv_istore_n (lv' := [(2, .int x2_1), (0, .ref (am 0)), (1, .int x1)]) hx hb dX12_outHead_7 rfl hl (by decide) rfl (fun ls hl => ?_)
  exact K8 N x2_1 mm _ _ _ hG (lv_sub hl [1, 0] rfl) h
set_option maxHeartbeats 4000000 in
set_option maxRecDepth 100000 in
theorem c_X12_headed (l : Launch) (E : GE) (am : Nat → Nat) (N : Nat) (x1 : Int32) (mm : RS) {res : Int32 × RS} (h : fX12_headed N x1 mm = some res) : gMi l E yX12_headed cX12_headed 4 .int 2 0 0 [.ref (am 0), .int x1] (rM E am mm ++ []) (rM E am res.2 ++ []) res.1 := by
  refine gMi_of (own := RX12) (by decide +kernel) rfl (Nat.le_of_ble_eq_true rfl) ?_
  intro p e s m args below meth c A ls Q H locs C hz hl hG hret
  have hx := C.1.1
  have hb := C.1.2.1
  have hts := C.1.2.2.2.2
  have hown := C.1.2.2.2.1
  have hl : lv_has ls 4 [(0, .ref (am 0)), (1, .int x1)] := hl
  replace hret : ∀ (r0 : Int32) (mm0 : RS) (H : Heap) (locs : List Loc) (pc : Nat) (ls' : Array Slot), some (r0, mm0) = some res → narrow .int (.int r0) = .int r0 → gG E A s.heap (rM E am mm0 ++ []) H locs → decode cX12_headed pc = .ok (.ireturn, 1) → W p l e (rmD 2 0 0) s m args below meth c H locs 0 0 Q (F0 m pc ls' [.int r0]) := by
    intro r0 mm0 H locs pc ls' e0 hn; cases e0; exact hret H locs pc ls' hn
  have K67 : ∀  (x2 : Int32) (mm : RS) (H : Heap) (locs : List Loc) (ls : Array Slot), gG E A s.heap (rM E am mm ++ []) H locs → lv_has ls 4 [(0, .ref (am 0)), (1, .int x1), (2, .int x2)] → fX12_headed_L67 N x1 x2 mm = some res → W p l e (rmD 2 0 0) s m args below meth c H locs 0 0 Q (F0 m 67 ls []) := by
    intro x2 mm H locs ls hG hl h
    rw [fX12_headed_L67] at h
    refine lv_aload_n hx hb dX12_headed_67 rfl (lv_at hl 0 rfl) ?_
    refine gL_f (v := .ref (am 1)) C hG kX12 0 0 rfl (by decide) rfl q1352 rfl dX12_headed_68 ?_
    refine lv_sipush (v := 194) hx hb dX12_headed_71 (by decide) ?_
    refine lv_iconst (v := 2) hx hb dX12_headed_74 (by decide) ?_
    refine lv_aload_n hx hb dX12_headed_75 rfl (lv_at hl 0 rfl) ?_
    refine gL_f (v := .ref (am 1)) C hG kX12 0 0 rfl (by decide) rfl q1352 rfl dX12_headed_76 ?_
    refine lv_bipush (v := 16) hx hb dX12_headed_79 (by decide) ?_
    refine gL_i (v := (mm 1 16)) C hG 1 rfl (vp_in_nI (n := 16) (by decide) (by decide)) (congrArg (mm 1) (nI_clamp (n := 16) (by decide))) dX12_headed_81 ?_
    refine lv_imul hx hb dX12_headed_82 ?_
    refine lv_iadd hx hb dX12_headed_83 ?_
    refine lv_iload_n hx hb dX12_headed_84 rfl (lv_at hl 1 rfl) ?_
    refine lv_iconst (v := 1) hx hb dX12_headed_85 (by decide) ?_
    refine lv_iadd hx hb dX12_headed_86 ?_
    obtain ⟨b1, h⟩ := ck_some h
    obtain ⟨mm_2, emm_2, h⟩ := thn_some h
    refine gS_i (x := (x1 + 1)) (ws' := (rM E am mm_2 ++ [])) C hG 1 rfl (inb_in b1) rfl dX12_headed_87 (by rw [emm_2]; rfl) (fun H locs hG => ?_)
    refine lv_aload_n hx hb dX12_headed_88 rfl (lv_at hl 0 rfl) ?_
    refine gL_f (v := .ref (am 1)) C hG kX12 0 0 rfl (by decide) rfl q1352 rfl dX12_headed_89 ?_
    refine lv_sipush (v := 194) hx hb dX12_headed_92 (by decide) ?_
    refine lv_iconst (v := 2) hx hb dX12_headed_95 (by decide) ?_
    refine lv_aload_n hx hb dX12_headed_96 rfl (lv_at hl 0 rfl) ?_
    refine gL_f (v := .ref (am 1)) C hG kX12 0 0 rfl (by decide) rfl q1352 rfl dX12_headed_97 ?_
    refine lv_bipush (v := 16) hx hb dX12_headed_100 (by decide) ?_
    refine gL_i (v := (mm_2 1 16)) C hG 1 rfl (vp_in_nI (n := 16) (by decide) (by decide)) (congrArg (mm_2 1) (nI_clamp (n := 16) (by decide))) dX12_headed_102 ?_
    refine lv_imul hx hb dX12_headed_103 ?_
    refine lv_iadd hx hb dX12_headed_104 ?_
    refine lv_iconst (v := 1) hx hb dX12_headed_105 (by decide) ?_
    refine lv_iadd hx hb dX12_headed_106 ?_
    refine lv_iload_n hx hb dX12_headed_107 rfl (lv_at hl 2 rfl) ?_
    obtain ⟨b3, h⟩ := ck_some h
    obtain ⟨mm_4, emm_4, h⟩ := thn_some h
    refine gS_i (x := x2) (ws' := (rM E am mm_4 ++ [])) C hG 1 rfl (inb_in b3) rfl dX12_headed_108 (by rw [emm_4]; rfl) (fun H locs hG => ?_)
    refine lv_aload_n hx hb dX12_headed_109 rfl (lv_at hl 0 rfl) ?_
    refine gL_f (v := .ref (am 1)) C hG kX12 0 0 rfl (by decide) rfl q1352 rfl dX12_headed_110 ?_
    refine lv_bipush (v := 16) hx hb dX12_headed_113 (by decide) ?_
    refine lv_dup2_11 hx hb dX12_headed_115 rfl rfl ?_
    refine gL_i (v := (mm_4 1 16)) C hG 1 rfl (vp_in_nI (n := 16) (by decide) (by decide)) (congrArg (mm_4 1) (nI_clamp (n := 16) (by decide))) dX12_headed_116 ?_
    refine lv_iconst (v := 1) hx hb dX12_headed_117 (by decide) ?_
    refine lv_iadd hx hb dX12_headed_118 ?_
    obtain ⟨mm_5, emm_5, h⟩ := thn_some h
    refine gS_i (x := ((mm_4 1 16) + 1)) (ws' := (rM E am mm_5 ++ [])) C hG 1 rfl (vp_in_nI (n := 16) (by decide) (by decide)) (nI_clamp (n := 16) (by decide)) dX12_headed_119 (by rw [emm_5]; rfl) (fun H locs hG => ?_)
    refine lv_iload_n hx hb dX12_headed_120 rfl (lv_at hl 2 rfl) ?_
    exact hret _ _ _ _ _ _ h rfl hG dX12_headed_121
  have K51 : ∀  (x2 : Int32) (mm : RS) (H : Heap) (locs : List Loc) (ls : Array Slot), gG E A s.heap (rM E am mm ++ []) H locs → lv_has ls 4 [(0, .ref (am 0)), (1, .int x1), (2, .int x2)] → fX12_headed_L51 N x1 x2 mm = some res → W p l e (rmD 2 0 0) s m args below meth c H locs 0 0 Q (F0 m 51 ls []) := by
    intro x2 mm H locs ls hG hl h
    rw [fX12_headed_L51] at h
    refine lv_aload_n hx hb dX12_headed_51 rfl (lv_at hl 0 rfl) ?_
    refine gL_f (v := .ref (am 1)) C hG kX12 0 0 rfl (by decide) rfl q1352 rfl dX12_headed_52 ?_
    refine lv_bipush (v := 16) hx hb dX12_headed_55 (by decide) ?_
    refine gL_i (v := (mm 1 16)) C hG 1 rfl (vp_in_nI (n := 16) (by decide) (by decide)) (congrArg (mm 1) (nI_clamp (n := 16) (by decide))) dX12_headed_57 ?_
    refine lv_iconst (v := 3) hx hb dX12_headed_58 (by decide) ?_
    refine lv_icmp_ne (tgt := 67) hx hb dX12_headed_59 (by decide) (fun c59 => ?_) (fun c59 => ?_)
    · replace h := ie c59 h
      exact K67 x2 mm _ _ _ hG (lv_sub hl [0, 1, 2] rfl) h
    · replace h := it c59 h
      refine lv_aload_n hx hb dX12_headed_62 rfl (lv_at hl 0 rfl) ?_
      refine lv_iconst (v := 0) hx hb dX12_headed_63 (by decide) ?_
      obtain ⟨r1, hcr1, h⟩ := bnd_some h
      refine gF_v (ws' := (rM E am r1 ++ [])) C hG (pin pnil) (List.Perm.symm (pin pnil)) (gR_V (As := [.int 0]) (rest := []) C hz hl.1 hG (pin pnil) (c_X12_outHead l E am N 0 mm hcr1 H.size) okX12_outHead q1566 0 rfl rfl rfl (Nat.le_of_ble_eq_true rfl) (by omega) ⟨Nat.le_refl _, Nat.le_refl _⟩ dX12_headed_64) (fun H locs hG => ?_)
      exact K67 x2 r1 _ _ _ hG (lv_sub hl [0, 1, 2] rfl) h
  have K34 : ∀  (x2 : Int32) (mm : RS) (H : Heap) (locs : List Loc) (ls : Array Slot), gG E A s.heap (rM E am mm ++ []) H locs → lv_has ls 4 [(0, .ref (am 0)), (1, .int x1), (2, .int x2)] → fX12_headed_L34 N x1 x2 mm = some res → W p l e (rmD 2 0 0) s m args below meth c H locs 0 0 Q (F0 m 34 ls []) := by
    intro x2 mm H locs ls hG hl h
    rw [fX12_headed_L34] at h
    refine lv_aload_n hx hb dX12_headed_34 rfl (lv_at hl 0 rfl) ?_
    refine lv_iload_n hx hb dX12_headed_35 rfl (lv_at hl 1 rfl) ?_
    refine lv_iconst (v := 1) hx hb dX12_headed_36 (by decide) ?_
    refine lv_iadd hx hb dX12_headed_37 ?_
    obtain ⟨r1, hcr1, h⟩ := bnd_some h
    refine gF_i (ws' := (rM E am mm ++ [])) C hG (pin pnil) (List.Perm.symm (pin pnil)) (gR_V (As := [.int (x1 + 1)]) (rest := []) C hz hl.1 hG (pin pnil) (c_X12_headAt l E am N (x1 + 1) mm hcr1 H.size) okX12_headAt q1562 0 rfl rfl rfl (Nat.le_of_ble_eq_true rfl) (by omega) ⟨Nat.le_refl _, Nat.le_refl _⟩ dX12_headed_38) (fun H locs _ hG => ?_)
    refine lv_istore_n (lv' := [(3, .int r1), (0, .ref (am 0)), (1, .int x1), (2, .int x2)]) hx hb dX12_headed_41 rfl hl (by decide) rfl (fun ls hl => ?_)
    refine lv_iload_n hx hb dX12_headed_42 rfl (lv_at hl 0 rfl) ?_
    refine lv_if_lt (tgt := 51) hx hb dX12_headed_43 (by decide) (fun c43 => ?_) (fun c43 => ?_)
    · replace h := it c43 h
      exact K51 x2 mm _ _ _ hG (lv_sub hl [1, 2, 3] rfl) h
    · replace h := ie c43 h
      refine lv_aload_n hx hb dX12_headed_46 rfl (lv_at hl 1 rfl) ?_
      refine lv_iload_n hx hb dX12_headed_47 rfl (lv_at hl 0 rfl) ?_
      obtain ⟨r2, hcr2, h⟩ := bnd_some h
      refine gF_v (ws' := (rM E am r2 ++ [])) C hG (pin pnil) (List.Perm.symm (pin pnil)) (gR_V (As := [.int r1]) (rest := []) C hz hl.1 hG (pin pnil) (c_X12_outHead l E am N r1 mm hcr2 H.size) okX12_outHead q1566 0 rfl rfl rfl (Nat.le_of_ble_eq_true rfl) (by omega) ⟨Nat.le_refl _, Nat.le_refl _⟩ dX12_headed_48) (fun H locs hG => ?_)
      exact K51 x2 r2 _ _ _ hG (lv_sub hl [1, 2, 3] rfl) h
  rw [fX12_headed] at h
  refine lv_iconst (v := 1) hx hb dX12_headed_0 (by decide) ?_
  refine lv_istore_n (lv' := [(2, .int 1), (0, .ref (am 0)), (1, .int x1)]) hx hb dX12_headed_1 rfl hl (by decide) rfl (fun ls hl => ?_)
  refine lv_aload_n hx hb dX12_headed_2 rfl (lv_at hl 1 rfl) ?_
  refine lv_iload_n hx hb dX12_headed_3 rfl (lv_at hl 2 rfl) ?_
  obtain ⟨r1, hcr1, h⟩ := bnd_some h
  refine gF_i (ws' := (rM E am mm ++ [])) C hG (pin pnil) (List.Perm.symm (pin pnil)) (gR_V (As := [.int x1]) (rest := []) C hz hl.1 hG (pin pnil) (c_X12_headAt l E am N x1 mm hcr1 H.size) okX12_headAt q1562 0 rfl rfl rfl (Nat.le_of_ble_eq_true rfl) (by omega) ⟨Nat.le_refl _, Nat.le_refl _⟩ dX12_headed_4) (fun H locs _ hG => ?_)
  refine lv_istore_n (lv' := [(3, .int r1), (2, .int 1), (0, .ref (am 0)), (1, .int x1)]) hx hb dX12_headed_7 rfl hl (by decide) rfl (fun ls hl => ?_)
  refine lv_iload_n hx hb dX12_headed_8 rfl (lv_at hl 0 rfl) ?_
  refine lv_if_lt (tgt := 34) hx hb dX12_headed_9 (by decide) (fun c9 => ?_) (fun c9 => ?_)
  · replace h := it c9 h
    exact K34 1 mm _ _ _ hG (lv_sub hl [2, 3, 1] rfl) h
  · replace h := ie c9 h
    refine lv_aload_n hx hb dX12_headed_12 rfl (lv_at hl 2 rfl) ?_
    refine gL_f (v := .ref (am 1)) C hG kX12 0 0 rfl (by decide) rfl q1352 rfl dX12_headed_13 ?_
    refine lv_sipush (v := 194) hx hb dX12_headed_16 (by decide) ?_
    refine lv_iconst (v := 2) hx hb dX12_headed_19 (by decide) ?_
    refine lv_iload_n hx hb dX12_headed_20 rfl (lv_at hl 0 rfl) ?_
    refine lv_imul hx hb dX12_headed_21 ?_
    refine lv_iadd hx hb dX12_headed_22 ?_
    refine lv_iconst (v := 1) hx hb dX12_headed_23 (by decide) ?_
    refine lv_iadd hx hb dX12_headed_24 ?_
    obtain ⟨b2, h⟩ := ck_some h
    refine gL_i (v := (mm 1 ((194 + (2 * r1)) + 1).toNatClampNeg)) C hG 1 rfl (inb_in b2) rfl dX12_headed_25 ?_
    refine lv_iconst (v := 1) hx hb dX12_headed_26 (by decide) ?_
    refine lv_iadd hx hb dX12_headed_27 ?_
    obtain ⟨x2_3, ex2_3, h⟩ := thn_some h
    refine g_int ex2_3 ?_
    refine lv_istore_n (lv' := [(2, .int x2_3), (3, .int r1), (0, .ref (am 0)), (1, .int x1)]) hx hb dX12_headed_28 rfl hl (by decide) rfl (fun ls hl => ?_)
    refine lv_aload_n hx hb dX12_headed_29 rfl (lv_at hl 2 rfl) ?_
    refine lv_iload_n hx hb dX12_headed_30 rfl (lv_at hl 1 rfl) ?_
    obtain ⟨r4, hcr4, h⟩ := bnd_some h
    refine gF_v (ws' := (rM E am r4 ++ [])) C hG (pin pnil) (List.Perm.symm (pin pnil)) (gR_V (As := [.int r1]) (rest := []) C hz hl.1 hG (pin pnil) (c_X12_outHead l E am N r1 mm hcr4 H.size) okX12_outHead q1566 0 rfl rfl rfl (Nat.le_of_ble_eq_true rfl) (by omega) ⟨Nat.le_refl _, Nat.le_refl _⟩ dX12_headed_31) (fun H locs hG => ?_)
    exact K34 x2_3 r4 _ _ _ hG (lv_sub hl [2, 3, 0] rfl) h
set_option maxHeartbeats 4000000 in
set_option maxRecDepth 100000 in
theorem c_X12_access (l : Launch) (E : GE) (am : Nat → Nat) (N : Nat) (x1 : Int32) (x2 : Int32) (x3 : Int32) (x4 : Int32) (x5 : Int32) (mm : RS) {res : RS} (h : fX12_access N x1 x2 x3 x4 x5 mm = some res) : gMv l E yX12_access cX12_access 6 3 0 0 [.ref (am 0), .int x1, .int x2, .int x3, .int x4, .int x5] (rM E am mm ++ []) (rM E am res ++ []) := by
  refine gMv_of (own := RX12) (by decide +kernel) rfl (Nat.le_of_ble_eq_true rfl) ?_
  intro p e s m args below meth c A ls Q H locs C hz hl hG hin hret
  have hx := C.1.1
  have hb := C.1.2.1
  have hts := C.1.2.2.2.2
  have hown := C.1.2.2.2.1
  have hl : lv_has ls 6 [(0, .ref (am 0)), (1, .int x1), (2, .int x2), (3, .int x3), (4, .int x4), (5, .int x5)] := hl
  replace hret : ∀ (mm0 : RS) (H : Heap) (locs : List Loc) (pc : Nat) (ls' : Array Slot), some mm0 = some res → gG E A s.heap (rM E am mm0 ++ []) H locs → decode cX12_access pc = .ok (.return_, 1) → W p l e (rmD 3 0 0) s m args below meth c H locs 0 0 Q (F0 m pc ls' []) := by
    intro mm0 H locs pc ls' e0; cases e0; exact hret H locs pc ls'
  have K149 : ∀  (s1 : Int32) (s2 : Int32) (mm : RS) (H : Heap) (locs : List Loc) (ls : Array Slot), gG E A s.heap (rM E am mm ++ []) H locs → lv_has ls 6 [(0, .ref (am 0)), (1, .int x1)] → fX12_access_L149 N x1 x2 x3 x4 x5 s1 s2 mm = some res → W p l e (rmD 3 0 0) s m args below meth c H locs 0 0 Q (F0 m 149 ls [.int s2, .int s1, .ref (am 1)]) := by
    intro s1 s2 mm H locs ls hG hl h
    rw [fX12_access_L149] at h
    obtain ⟨b1, h⟩ := ck_some h
    obtain ⟨mm_2, emm_2, h⟩ := thn_some h
    refine gS_i (x := s2) (ws' := (rM E am mm_2 ++ [])) C hG 1 rfl (inb_in b1) rfl dX12_access_149 (by rw [emm_2]; rfl) (fun H locs hG => ?_)
    refine lv_aload_n hx hb dX12_access_150 rfl (lv_at hl 0 rfl) ?_
    refine gL_f (v := .ref (am 1)) C hG kX12 0 0 rfl (by decide) rfl q1352 rfl dX12_access_151 ?_
    refine lv_bipush (v := 29) hx hb dX12_access_154 (by decide) ?_
    refine lv_iload_n hx hb dX12_access_156 rfl (lv_at hl 1 rfl) ?_
    refine lv_iadd hx hb dX12_access_157 ?_
    refine lv_dup2_11 hx hb dX12_access_158 rfl rfl ?_
    obtain ⟨b3, h⟩ := ck_some h
    refine gL_i (v := (mm_2 1 (29 + x1).toNatClampNeg)) C hG 1 rfl (inb_in b3) rfl dX12_access_159 ?_
    refine lv_iconst (v := 1) hx hb dX12_access_160 (by decide) ?_
    refine lv_ior hx hb dX12_access_161 ?_
    obtain ⟨mm_4, emm_4, h⟩ := thn_some h
    refine gS_i (x := ((mm_2 1 (29 + x1).toNatClampNeg) ||| 1)) (ws' := (rM E am mm_4 ++ [])) C hG 1 rfl (inb_in b3) rfl dX12_access_162 (by rw [emm_4]; rfl) (fun H locs hG => ?_)
    exact hret _ _ _ _ _ h hG dX12_access_163
  have K55 : ∀  (mm : RS) (H : Heap) (locs : List Loc) (ls : Array Slot), gG E A s.heap (rM E am mm ++ []) H locs → lv_has ls 6 [(0, .ref (am 0)), (1, .int x1), (2, .int x2), (3, .int x3)] → fX12_access_L55 N x1 x2 x3 x4 x5 mm = some res → W p l e (rmD 3 0 0) s m args below meth c H locs 0 0 Q (F0 m 55 ls []) := by
    intro mm H locs ls hG hl h
    rw [fX12_access_L55] at h
    refine lv_aload_n hx hb dX12_access_55 rfl (lv_at hl 0 rfl) ?_
    refine lv_iload_n hx hb dX12_access_56 rfl (lv_at hl 1 rfl) ?_
    refine gF_i (ws' := (rM E am mm ++ [])) C hG pst pst.symm (gR_S (As := [.int x1]) (rest := [.ref (am 0)]) C hz hl.1 hG pst (c_X12_firstOf l E x1 rfl H.size) okX12_firstOf q1555 rfl (Nat.le_of_ble_eq_true rfl) (by omega) ⟨Nat.le_refl _, Nat.le_refl _⟩ dX12_access_57) (fun H locs _ hG => ?_)
    refine lv_iload_n hx hb dX12_access_60 rfl (lv_at hl 2 rfl) ?_
    refine lv_iadd hx hb dX12_access_61 ?_
    obtain ⟨r1, hcr1, h⟩ := bnd_some h
    refine gF_i (ws' := (rM E am r1.2 ++ [])) C hG (pin pnil) (List.Perm.symm (pin pnil)) (gR_V (As := [.int ((fX12_firstOf x1) + x2)]) (rest := []) C hz hl.1 hG (pin pnil) (c_X12_headed l E am N ((fX12_firstOf x1) + x2) mm hcr1 H.size) okX12_headed q1558 0 rfl rfl rfl (Nat.le_of_ble_eq_true rfl) (by omega) ⟨Nat.le_refl _, Nat.le_refl _⟩ dX12_access_62) (fun H locs _ hG => ?_)
    refine lv_iconst (v := 4) hx hb dX12_access_65 (by decide) ?_
    refine lv_icmp_lt (tgt := 94) hx hb dX12_access_66 (by decide) (fun c66 => ?_) (fun c66 => ?_)
    · replace h := it c66 h
      refine lv_aload_n hx hb dX12_access_94 rfl (lv_at hl 0 rfl) ?_
      refine gL_f (v := .ref (am 1)) C hG kX12 0 0 rfl (by decide) rfl q1352 rfl dX12_access_95 ?_
      refine lv_bipush (v := 39) hx hb dX12_access_98 (by decide) ?_
      refine lv_iload_n hx hb dX12_access_100 rfl (lv_at hl 1 rfl) ?_
      refine lv_iadd hx hb dX12_access_101 ?_
      refine lv_dup2_11 hx hb dX12_access_102 rfl rfl ?_
      obtain ⟨b2, h⟩ := ck_some h
      refine gL_i (v := (r1.2 1 (39 + x1).toNatClampNeg)) C hG 1 rfl (inb_in b2) rfl dX12_access_103 ?_
      refine lv_iconst (v := 1) hx hb dX12_access_104 (by decide) ?_
      refine lv_iadd hx hb dX12_access_105 ?_
      obtain ⟨mm_3, emm_3, h⟩ := thn_some h
      refine gS_i (x := ((r1.2 1 (39 + x1).toNatClampNeg) + 1)) (ws' := (rM E am mm_3 ++ [])) C hG 1 rfl (inb_in b2) rfl dX12_access_106 (by rw [emm_3]; rfl) (fun H locs hG => ?_)
      refine lv_aload_n hx hb dX12_access_107 rfl (lv_at hl 0 rfl) ?_
      refine gL_f (v := .ref (am 1)) C hG kX12 0 0 rfl (by decide) rfl q1352 rfl dX12_access_108 ?_
      refine lv_bipush (v := 19) hx hb dX12_access_111 (by decide) ?_
      refine lv_iload_n hx hb dX12_access_113 rfl (lv_at hl 1 rfl) ?_
      refine lv_iadd hx hb dX12_access_114 ?_
      refine lv_aload_n hx hb dX12_access_115 rfl (lv_at hl 0 rfl) ?_
      refine gL_f (v := .ref (am 1)) C hG kX12 0 0 rfl (by decide) rfl q1352 rfl dX12_access_116 ?_
      refine lv_bipush (v := 19) hx hb dX12_access_119 (by decide) ?_
      refine lv_iload_n hx hb dX12_access_121 rfl (lv_at hl 1 rfl) ?_
      refine lv_iadd hx hb dX12_access_122 ?_
      obtain ⟨b4, h⟩ := ck_some h
      refine gL_i (v := (mm_3 1 (19 + x1).toNatClampNeg)) C hG 1 rfl (inb_in b4) rfl dX12_access_123 ?_
      refine lv_iload_n hx hb dX12_access_124 rfl (lv_at hl 3 rfl) ?_
      refine lv_iadd hx hb dX12_access_125 ?_
      refine lv_sipush (v := 9999) hx hb dX12_access_126 (by decide) ?_
      refine lv_icmp_le (tgt := 138) hx hb dX12_access_129 (by decide) (fun c129 => ?_) (fun c129 => ?_)
      · replace h := it c129 h
        refine lv_aload_n hx hb dX12_access_138 rfl (lv_at hl 0 rfl) ?_
        refine gL_f (v := .ref (am 1)) C hG kX12 0 0 rfl (by decide) rfl q1352 rfl dX12_access_139 ?_
        refine lv_bipush (v := 19) hx hb dX12_access_142 (by decide) ?_
        refine lv_iload_n hx hb dX12_access_144 rfl (lv_at hl 1 rfl) ?_
        refine lv_iadd hx hb dX12_access_145 ?_
        refine gL_i (v := (mm_3 1 (19 + x1).toNatClampNeg)) C hG 1 rfl (inb_in b4) rfl dX12_access_146 ?_
        refine lv_iload_n hx hb dX12_access_147 rfl (lv_at hl 3 rfl) ?_
        refine lv_iadd hx hb dX12_access_148 ?_
        exact K149 (19 + x1) ((mm_3 1 (19 + x1).toNatClampNeg) + x3) mm_3 _ _ _ hG (lv_sub hl [0, 1] rfl) h
      · replace h := ie c129 h
        refine lv_sipush (v := 9999) hx hb dX12_access_132 (by decide) ?_
        refine lv_goto (tgt := 149) hx hb dX12_access_135 (by decide) ?_
        exact K149 (19 + x1) 9999 mm_3 _ _ _ hG (lv_sub hl [0, 1] rfl) h
    · replace h := ie c66 h
      refine lv_aload_n hx hb dX12_access_69 rfl (lv_at hl 0 rfl) ?_
      refine gL_f (v := .ref (am 1)) C hG kX12 0 0 rfl (by decide) rfl q1352 rfl dX12_access_70 ?_
      refine lv_bipush (v := 49) hx hb dX12_access_73 (by decide) ?_
      refine lv_iload_n hx hb dX12_access_75 rfl (lv_at hl 1 rfl) ?_
      refine lv_iadd hx hb dX12_access_76 ?_
      refine lv_dup2_11 hx hb dX12_access_77 rfl rfl ?_
      obtain ⟨b5, h⟩ := ck_some h
      refine gL_i (v := (r1.2 1 (49 + x1).toNatClampNeg)) C hG 1 rfl (inb_in b5) rfl dX12_access_78 ?_
      refine lv_iconst (v := 1) hx hb dX12_access_79 (by decide) ?_
      refine lv_iadd hx hb dX12_access_80 ?_
      obtain ⟨mm_6, emm_6, h⟩ := thn_some h
      refine gS_i (x := ((r1.2 1 (49 + x1).toNatClampNeg) + 1)) (ws' := (rM E am mm_6 ++ [])) C hG 1 rfl (inb_in b5) rfl dX12_access_81 (by rw [emm_6]; rfl) (fun H locs hG => ?_)
      refine lv_aload_n hx hb dX12_access_82 rfl (lv_at hl 0 rfl) ?_
      refine gL_f (v := .ref (am 1)) C hG kX12 0 0 rfl (by decide) rfl q1352 rfl dX12_access_83 ?_
      refine lv_bipush (v := 12) hx hb dX12_access_86 (by decide) ?_
      refine lv_dup2_11 hx hb dX12_access_88 rfl rfl ?_
      refine gL_i (v := (mm_6 1 12)) C hG 1 rfl (vp_in_nI (n := 12) (by decide) (by decide)) (congrArg (mm_6 1) (nI_clamp (n := 12) (by decide))) dX12_access_89 ?_
      refine lv_iconst (v := 1) hx hb dX12_access_90 (by decide) ?_
      refine lv_iadd hx hb dX12_access_91 ?_
      obtain ⟨mm_7, emm_7, h⟩ := thn_some h
      refine gS_i (x := ((mm_6 1 12) + 1)) (ws' := (rM E am mm_7 ++ [])) C hG 1 rfl (vp_in_nI (n := 12) (by decide) (by decide)) (nI_clamp (n := 12) (by decide)) dX12_access_92 (by rw [emm_7]; rfl) (fun H locs hG => ?_)
      exact hret _ _ _ _ _ h hG dX12_access_93
  have K34 : ∀  (s1 : Int32) (s2 : Int32) (s3 : Int32) (mm : RS) (H : Heap) (locs : List Loc) (ls : Array Slot), gG E A s.heap (rM E am mm ++ []) H locs → lv_has ls 6 [(0, .ref (am 0)), (1, .int x1), (2, .int x2), (3, .int x3)] → fX12_access_L34 N x1 x2 x3 x4 x5 s1 s2 s3 mm = some res → W p l e (rmD 3 0 0) s m args below meth c H locs 0 0 Q (F0 m 34 ls [.int s3, .int s2, .int s1, .ref (am 1)]) := by
    intro s1 s2 s3 mm H locs ls hG hl h
    rw [fX12_access_L34] at h
    refine lv_iadd hx hb dX12_access_34 ?_
    obtain ⟨b1, h⟩ := ck_some h
    obtain ⟨mm_2, emm_2, h⟩ := thn_some h
    refine gS_i (x := (s2 + s3)) (ws' := (rM E am mm_2 ++ [])) C hG 1 rfl (inb_in b1) rfl dX12_access_35 (by rw [emm_2]; rfl) (fun H locs hG => ?_)
    refine lv_aload_n hx hb dX12_access_36 rfl (lv_at hl 0 rfl) ?_
    refine lv_iload_n hx hb dX12_access_37 rfl (lv_at hl 1 rfl) ?_
    obtain ⟨r3, hcr3, h⟩ := bnd_some h
    refine gF_i (ws' := (rM E am mm_2 ++ [])) C hG (pin pnil) (List.Perm.symm (pin pnil)) (gR_V (As := [.int x1]) (rest := []) C hz hl.1 hG (pin pnil) (c_X12_isFast l E am N x1 mm_2 hcr3 H.size) okX12_isFast q1551 0 rfl rfl rfl (Nat.le_of_ble_eq_true rfl) (by omega) ⟨Nat.le_refl _, Nat.le_refl _⟩ dX12_access_38) (fun H locs z4 hG => ?_)
    refine lv_if_eq (tgt := 55) hx hb dX12_access_41 (by decide) (fun c41 => ?_) (fun c41 => ?_)
    · replace h := it c41 h
      exact K55 mm_2 _ _ _ hG (lv_sub hl [0, 1, 2, 3] rfl) h
    · replace h := ie c41 h
      refine lv_aload_n hx hb dX12_access_44 rfl (lv_at hl 0 rfl) ?_
      refine gL_f (v := .ref (am 1)) C hG kX12 0 0 rfl (by decide) rfl q1352 rfl dX12_access_45 ?_
      refine lv_bipush (v := 11) hx hb dX12_access_48 (by decide) ?_
      refine lv_dup2_11 hx hb dX12_access_50 rfl rfl ?_
      refine gL_i (v := (mm_2 1 11)) C hG 1 rfl (vp_in_nI (n := 11) (by decide) (by decide)) (congrArg (mm_2 1) (nI_clamp (n := 11) (by decide))) dX12_access_51 ?_
      refine lv_iconst (v := 1) hx hb dX12_access_52 (by decide) ?_
      refine lv_iadd hx hb dX12_access_53 ?_
      obtain ⟨mm_5, emm_5, h⟩ := thn_some h
      refine gS_i (x := ((mm_2 1 11) + 1)) (ws' := (rM E am mm_5 ++ [])) C hG 1 rfl (vp_in_nI (n := 11) (by decide) (by decide)) (nI_clamp (n := 11) (by decide)) dX12_access_54 (by rw [emm_5]; rfl) (fun H locs hG => ?_)
      exact K55 mm_5 _ _ _ hG (lv_sub hl [0, 1, 2, 3] rfl) h
  rw [fX12_access] at h
  refine lv_aload_n hx hb dX12_access_0 rfl (lv_at hl 0 rfl) ?_
  refine gL_f (v := .ref (am 1)) C hG kX12 0 0 rfl (by decide) rfl q1352 rfl dX12_access_1 ?_
  refine lv_bipush (v := 10) hx hb dX12_access_4 (by decide) ?_
  refine lv_dup2_11 hx hb dX12_access_6 rfl rfl ?_
  refine gL_i (v := (mm 1 10)) C hG 1 rfl (vp_in_nI (n := 10) (by decide) (by decide)) (congrArg (mm 1) (nI_clamp (n := 10) (by decide))) dX12_access_7 ?_
  refine lv_iconst (v := 1) hx hb dX12_access_8 (by decide) ?_
  refine lv_iadd hx hb dX12_access_9 ?_
  obtain ⟨mm_1, emm_1, h⟩ := thn_some h
  refine gS_i (x := ((mm 1 10) + 1)) (ws' := (rM E am mm_1 ++ [])) C hG 1 rfl (vp_in_nI (n := 10) (by decide) (by decide)) (nI_clamp (n := 10) (by decide)) dX12_access_10 (by rw [emm_1]; rfl) (fun H locs hG => ?_)
  refine lv_aload_n hx hb dX12_access_11 rfl (lv_at hl 0 rfl) ?_
  refine gL_f (v := .ref (am 1)) C hG kX12 0 0 rfl (by decide) rfl q1352 rfl dX12_access_12 ?_
  refine lv_bipush (v := 6) hx hb dX12_access_15 (by decide) ?_
  refine lv_dup2_11 hx hb dX12_access_17 rfl rfl ?_
  refine gL_i (v := (mm_1 1 6)) C hG 1 rfl (vp_in_nI (n := 6) (by decide) (by decide)) (congrArg (mm_1 1) (nI_clamp (n := 6) (by decide))) dX12_access_18 ?_
  refine lv_aload_n hx hb dX12_access_19 rfl (lv_at hl 0 rfl) ?_
  refine lv_iload_n hx hb dX12_access_20 rfl (lv_at hl 1 rfl) ?_
  obtain ⟨r2, hcr2, h⟩ := bnd_some h
  refine gF_i (ws' := (rM E am mm_1 ++ [])) C hG (pin pnil) (List.Perm.symm (pin pnil)) (gR_V (As := [.int x1]) (rest := [.int (mm_1 1 6), .int 6, .ref (am 1)]) C hz hl.1 hG (pin pnil) (c_X12_isFast l E am N x1 mm_1 hcr2 H.size) okX12_isFast q1551 0 rfl rfl rfl (Nat.le_of_ble_eq_true rfl) (by omega) ⟨Nat.le_refl _, Nat.le_refl _⟩ dX12_access_21) (fun H locs z3 hG => ?_)
  refine lv_if_eq (tgt := 32) hx hb dX12_access_24 (by decide) (fun c24 => ?_) (fun c24 => ?_)
  · replace h := it c24 h
    refine lv_iload hx hb dX12_access_32 (lv_at hl 5 rfl) ?_
    exact K34 6 (mm_1 1 6) x5 mm_1 _ _ _ hG (lv_sub hl [0, 1, 2, 3] rfl) h
  · replace h := ie c24 h
    refine lv_iload hx hb dX12_access_27 (lv_at hl 4 rfl) ?_
    refine lv_goto (tgt := 34) hx hb dX12_access_29 (by decide) ?_
    exact K34 6 (mm_1 1 6) x4 mm_1 _ _ _ hG (lv_sub hl [0, 1, 2, 3] rfl) h
set_option maxHeartbeats 4000000 in
set_option maxRecDepth 100000 in
theorem c_X12_readNow (l : Launch) (E : GE) (am : Nat → Nat) (N : Nat) (x1 : Int32) (x2 : Int32) (mm : RS) {res : Int32 × RS} (h : fX12_readNow N x1 x2 mm = some res) : gMi l E yX12_readNow cX12_readNow 3 .int 4 0 0 [.ref (am 0), .int x1, .int x2] (rM E am mm ++ []) (rM E am res.2 ++ []) res.1 := by
  refine gMi_of (own := RX12) (by decide +kernel) rfl (Nat.le_of_ble_eq_true rfl) ?_
  intro p e s m args below meth c A ls Q H locs C hz hl hG hret
  have hx := C.1.1
  have hb := C.1.2.1
  have hts := C.1.2.2.2.2
  have hown := C.1.2.2.2.1
  have hl : lv_has ls 3 [(0, .ref (am 0)), (1, .int x1), (2, .int x2)] := hl
  replace hret : ∀ (r0 : Int32) (mm0 : RS) (H : Heap) (locs : List Loc) (pc : Nat) (ls' : Array Slot), some (r0, mm0) = some res → narrow .int (.int r0) = .int r0 → gG E A s.heap (rM E am mm0 ++ []) H locs → decode cX12_readNow pc = .ok (.ireturn, 1) → W p l e (rmD 4 0 0) s m args below meth c H locs 0 0 Q (F0 m pc ls' [.int r0]) := by
    intro r0 mm0 H locs pc ls' e0 hn; cases e0; exact hret H locs pc ls' hn
  rw [fX12_readNow] at h
  refine lv_aload_n hx hb dX12_readNow_0 rfl (lv_at hl 0 rfl) ?_
  refine lv_iload_n hx hb dX12_readNow_1 rfl (lv_at hl 1 rfl) ?_
  refine lv_iload_n hx hb dX12_readNow_2 rfl (lv_at hl 2 rfl) ?_
  refine lv_bipush (v := 8) hx hb dX12_readNow_3 (by decide) ?_
  refine lv_iconst (v := 1) hx hb dX12_readNow_5 (by decide) ?_
  refine lv_bipush (v := 8) hx hb dX12_readNow_6 (by decide) ?_
  obtain ⟨r1, hcr1, h⟩ := bnd_some h
  refine gF_v (ws' := (rM E am r1 ++ [])) C hG (pin pnil) (List.Perm.symm (pin pnil)) (gR_V (As := [.int x1, .int x2, .int 8, .int 1, .int 8]) (rest := []) C hz hl.1 hG (pin pnil) (c_X12_access l E am N x1 x2 8 1 8 mm hcr1 H.size) okX12_access q1547 0 rfl rfl rfl (Nat.le_of_ble_eq_true rfl) (by omega) ⟨Nat.le_refl _, Nat.le_refl _⟩ dX12_readNow_8) (fun H locs hG => ?_)
  refine lv_aload_n hx hb dX12_readNow_11 rfl (lv_at hl 0 rfl) ?_
  refine gL_f (v := .ref (am 1)) C hG kX12 0 0 rfl (by decide) rfl q1352 rfl dX12_readNow_12 ?_
  refine lv_bipush (v := 119) hx hb dX12_readNow_15 (by decide) ?_
  refine lv_iload_n hx hb dX12_readNow_17 rfl (lv_at hl 1 rfl) ?_
  refine lv_iadd hx hb dX12_readNow_18 ?_
  refine lv_dup2_11 hx hb dX12_readNow_19 rfl rfl ?_
  obtain ⟨b2, h⟩ := ck_some h
  refine gL_i (v := (r1 1 (119 + x1).toNatClampNeg)) C hG 1 rfl (inb_in b2) rfl dX12_readNow_20 ?_
  refine lv_iconst (v := 1) hx hb dX12_readNow_21 (by decide) ?_
  refine lv_iadd hx hb dX12_readNow_22 ?_
  obtain ⟨mm_3, emm_3, h⟩ := thn_some h
  refine gS_i (x := ((r1 1 (119 + x1).toNatClampNeg) + 1)) (ws' := (rM E am mm_3 ++ [])) C hG 1 rfl (inb_in b2) rfl dX12_readNow_23 (by rw [emm_3]; rfl) (fun H locs hG => ?_)
  refine lv_aload_n hx hb dX12_readNow_24 rfl (lv_at hl 0 rfl) ?_
  refine lv_iload_n hx hb dX12_readNow_25 rfl (lv_at hl 1 rfl) ?_
  obtain ⟨r4, hcr4, h⟩ := bnd_some h
  refine gF_i (ws' := (rM E am mm_3 ++ [])) C hG (pin pnil) (List.Perm.symm (pin pnil)) (gR_V (As := [.int x1]) (rest := []) C hz hl.1 hG (pin pnil) (c_X12_isFast l E am N x1 mm_3 hcr4 H.size) okX12_isFast q1551 0 rfl rfl rfl (Nat.le_of_ble_eq_true rfl) (by omega) ⟨Nat.le_refl _, Nat.le_refl _⟩ dX12_readNow_26) (fun H locs z5 hG => ?_)
  refine lv_if_eq (tgt := 50) hx hb dX12_readNow_29 (by decide) (fun c29 => ?_) (fun c29 => ?_)
  · replace h := it c29 h
    refine lv_aload_n hx hb dX12_readNow_50 rfl (lv_at hl 0 rfl) ?_
    refine gL_f (v := .ref (am 1)) C hG kX12 0 0 rfl (by decide) rfl q1352 rfl dX12_readNow_51 ?_
    refine lv_sipush (v := 162) hx hb dX12_readNow_54 (by decide) ?_
    refine lv_iload_n hx hb dX12_readNow_57 rfl (lv_at hl 1 rfl) ?_
    refine gF_i (ws' := (rM E am mm_3 ++ [])) C hG pst pst.symm (gR_S (As := [.int x1]) (rest := [.int 162, .ref (am 1)]) C hz hl.1 hG pst (c_X12_firstOf l E x1 rfl H.size) okX12_firstOf q1555 rfl (Nat.le_of_ble_eq_true rfl) (by omega) ⟨Nat.le_refl _, Nat.le_refl _⟩ dX12_readNow_58) (fun H locs _ hG => ?_)
    refine lv_iadd hx hb dX12_readNow_61 ?_
    refine lv_iload_n hx hb dX12_readNow_62 rfl (lv_at hl 2 rfl) ?_
    refine lv_iadd hx hb dX12_readNow_63 ?_
    obtain ⟨b6, h⟩ := ck_some h
    refine gL_i (v := (mm_3 1 ((162 + (fX12_firstOf x1)) + x2).toNatClampNeg)) C hG 1 rfl (inb_in b6) rfl dX12_readNow_64 ?_
    exact hret _ _ _ _ _ _ h rfl hG dX12_readNow_65
  · replace h := ie c29 h
    refine lv_aload_n hx hb dX12_readNow_32 rfl (lv_at hl 0 rfl) ?_
    refine gL_f (v := .ref (am 1)) C hG kX12 0 0 rfl (by decide) rfl q1352 rfl dX12_readNow_33 ?_
    refine lv_sipush (v := 185) hx hb dX12_readNow_36 (by decide) ?_
    refine lv_aload_n hx hb dX12_readNow_39 rfl (lv_at hl 0 rfl) ?_
    refine lv_iload_n hx hb dX12_readNow_40 rfl (lv_at hl 1 rfl) ?_
    refine lv_iload_n hx hb dX12_readNow_41 rfl (lv_at hl 2 rfl) ?_
    obtain ⟨r7, hcr7, h⟩ := bnd_some h
    refine gF_i (ws' := (rM E am mm_3 ++ [])) C hG (pin pnil) (List.Perm.symm (pin pnil)) (gR_V (As := [.int x1, .int x2]) (rest := [.int 185, .ref (am 1)]) C hz hl.1 hG (pin pnil) (c_X12_slotOf l E am N x1 x2 mm_3 hcr7 H.size) okX12_slotOf q1570 0 rfl rfl rfl (Nat.le_of_ble_eq_true rfl) (by omega) ⟨Nat.le_refl _, Nat.le_refl _⟩ dX12_readNow_42) (fun H locs _ hG => ?_)
    refine lv_iadd hx hb dX12_readNow_45 ?_
    obtain ⟨b8, h⟩ := ck_some h
    refine gL_i (v := (mm_3 1 (185 + r7).toNatClampNeg)) C hG 1 rfl (inb_in b8) rfl dX12_readNow_46 ?_
    refine lv_goto (tgt := 65) hx hb dX12_readNow_47 (by decide) ?_
    exact hret _ _ _ _ _ _ h rfl hG dX12_readNow_65
set_option maxHeartbeats 4000000 in
set_option maxRecDepth 100000 in
theorem c_X12_moveAt (l : Launch) (E : GE) (am : Nat → Nat) (N : Nat) (x1 : Int32) (mm : RS) {res : Int32} (h : fX12_moveAt N x1 mm = some res) : gMi l E yX12_moveAt cX12_moveAt 3 .int 1 0 0 [.ref (am 0), .int x1] (rM E am mm ++ []) (rM E am mm ++ []) res := by
  refine gMi_of (own := RX12) (by decide +kernel) rfl (Nat.le_of_ble_eq_true rfl) ?_
  intro p e s m args below meth c A ls Q H locs C hz hl hG hret
  have hx := C.1.1
  have hb := C.1.2.1
  have hts := C.1.2.2.2.2
  have hown := C.1.2.2.2.1
  have hl : lv_has ls 3 [(0, .ref (am 0)), (1, .int x1)] := hl
  replace hret : ∀ (r0 : Int32) (H : Heap) (locs : List Loc) (pc : Nat) (ls' : Array Slot), some r0 = some res → narrow .int (.int r0) = .int r0 → gG E A s.heap (rM E am mm ++ []) H locs → decode cX12_moveAt pc = .ok (.ireturn, 1) → W p l e (rmD 1 0 0) s m args below meth c H locs 0 0 Q (F0 m pc ls' [.int r0]) := by
    intro r0 H locs pc ls' e0 hn; cases e0; exact hret H locs pc ls' hn
  have K2 : ∀ (k : Nat), ∀  (x2 : Int32) (H : Heap) (locs : List Loc) (ls : Array Slot), gG E A s.heap (rM E am mm ++ []) H locs → lv_has ls 3 [(0, .ref (am 0)), (1, .int x1), (2, .int x2)] → fX12_moveAt_L2 N x1 mm k x2 = some res → W p l e (rmD 1 0 0) s m args below meth c H locs 0 0 Q (F0 m 2 ls []) := by
    intro k
    induction k with
    | zero => intro x2 H locs ls hG hl h; exact absurd (show none = _ from h) (by simp)
    | succ k ih =>
      intro x2 H locs ls hG hl h
      rw [fX12_moveAt_L2] at h
      refine lv_iload_n hx hb dX12_moveAt_2 rfl (lv_at hl 2 rfl) ?_
      refine lv_aload_n hx hb dX12_moveAt_3 rfl (lv_at hl 0 rfl) ?_
      refine gL_f (v := .ref (am 1)) C hG kX12 0 0 rfl (by decide) rfl q1352 rfl dX12_moveAt_4 ?_
      refine lv_bipush (v := 17) hx hb dX12_moveAt_7 (by decide) ?_
      refine gL_i (v := (mm 1 17)) C hG 1 rfl (vp_in_nI (n := 17) (by decide) (by decide)) (congrArg (mm 1) (nI_clamp (n := 17) (by decide))) dX12_moveAt_9 ?_
      refine lv_icmp_ge (tgt := 37) hx hb dX12_moveAt_10 (by decide) (fun c10 => ?_) (fun c10 => ?_)
      · replace h := it c10 h
        refine lv_iconst (v := (-1)) hx hb dX12_moveAt_37 (by decide) ?_
        exact hret _ _ _ _ _ h rfl hG dX12_moveAt_38
      · replace h := ie c10 h
        refine lv_aload_n hx hb dX12_moveAt_13 rfl (lv_at hl 0 rfl) ?_
        refine gL_f (v := .ref (am 1)) C hG kX12 0 0 rfl (by decide) rfl q1352 rfl dX12_moveAt_14 ?_
        refine lv_sipush (v := 200) hx hb dX12_moveAt_17 (by decide) ?_
        refine lv_iconst (v := 4) hx hb dX12_moveAt_20 (by decide) ?_
        refine lv_iload_n hx hb dX12_moveAt_21 rfl (lv_at hl 2 rfl) ?_
        refine lv_imul hx hb dX12_moveAt_22 ?_
        refine lv_iadd hx hb dX12_moveAt_23 ?_
        obtain ⟨b1, h⟩ := ck_some h
        refine gL_i (v := (mm 1 (200 + (4 * x2)).toNatClampNeg)) C hG 1 rfl (inb_in b1) rfl dX12_moveAt_24 ?_
        refine lv_iload_n hx hb dX12_moveAt_25 rfl (lv_at hl 1 rfl) ?_
        refine lv_icmp_ne (tgt := 31) hx hb dX12_moveAt_26 (by decide) (fun c26 => ?_) (fun c26 => ?_)
        · replace h := ie c26 h
          refine lv_iinc (v := (x2 + 1)) (lv' := [(2, .int (x2 + 1)), (0, .ref (am 0)), (1, .int x1)]) hx hb dX12_moveAt_31 hl (k := 2) rfl (congrArg (x2 + ·) (by decide : Int32.ofInt 1 = 1)) (by decide) rfl (fun ls hl => ?_)
          refine lv_goto (tgt := 2) hx hb dX12_moveAt_34 (by decide) ?_
          exact ih (x2 + 1) _ _ _ hG (lv_sub hl [1, 2, 0] rfl) h
        · replace h := it c26 h
          refine lv_iload_n hx hb dX12_moveAt_29 rfl (lv_at hl 2 rfl) ?_
          exact hret _ _ _ _ _ h rfl hG dX12_moveAt_30
  rw [fX12_moveAt] at h
  refine lv_iconst (v := 0) hx hb dX12_moveAt_0 (by decide) ?_
  refine lv_istore_n (lv' := [(2, .int 0), (0, .ref (am 0)), (1, .int x1)]) hx hb dX12_moveAt_1 rfl hl (by decide) rfl (fun ls hl => ?_)
  exact K2 N 0 _ _ _ hG (lv_sub hl [1, 2, 0] rfl) h
set_option maxHeartbeats 4000000 in
set_option maxRecDepth 100000 in
theorem c_X12_writeNow (l : Launch) (E : GE) (am : Nat → Nat) (N : Nat) (x1 : Int32) (x2 : Int32) (x3 : Int32) (mm : RS) {res : Int32 × RS} (h : fX12_writeNow N x1 x2 x3 mm = some res) : gMi l E yX12_writeNow cX12_writeNow 5 .int 4 0 0 [.ref (am 0), .int x1, .int x2, .int x3] (rM E am mm ++ []) (rM E am res.2 ++ []) res.1 := by
  refine gMi_of (own := RX12) (by decide +kernel) rfl (Nat.le_of_ble_eq_true rfl) ?_
  intro p e s m args below meth c A ls Q H locs C hz hl hG hret
  have hx := C.1.1
  have hb := C.1.2.1
  have hts := C.1.2.2.2.2
  have hown := C.1.2.2.2.1
  have hl : lv_has ls 5 [(0, .ref (am 0)), (1, .int x1), (2, .int x2), (3, .int x3)] := hl
  replace hret : ∀ (r0 : Int32) (mm0 : RS) (H : Heap) (locs : List Loc) (pc : Nat) (ls' : Array Slot), some (r0, mm0) = some res → narrow .int (.int r0) = .int r0 → gG E A s.heap (rM E am mm0 ++ []) H locs → decode cX12_writeNow pc = .ok (.ireturn, 1) → W p l e (rmD 4 0 0) s m args below meth c H locs 0 0 Q (F0 m pc ls' [.int r0]) := by
    intro r0 mm0 H locs pc ls' e0 hn; cases e0; exact hret H locs pc ls' hn
  rw [fX12_writeNow] at h
  refine lv_aload_n hx hb dX12_writeNow_0 rfl (lv_at hl 0 rfl) ?_
  refine lv_iload_n hx hb dX12_writeNow_1 rfl (lv_at hl 1 rfl) ?_
  refine lv_iload_n hx hb dX12_writeNow_2 rfl (lv_at hl 2 rfl) ?_
  refine lv_bipush (v := 12) hx hb dX12_writeNow_3 (by decide) ?_
  refine lv_iconst (v := 2) hx hb dX12_writeNow_5 (by decide) ?_
  refine lv_bipush (v := 10) hx hb dX12_writeNow_6 (by decide) ?_
  obtain ⟨r1, hcr1, h⟩ := bnd_some h
  refine gF_v (ws' := (rM E am r1 ++ [])) C hG (pin pnil) (List.Perm.symm (pin pnil)) (gR_V (As := [.int x1, .int x2, .int 12, .int 2, .int 10]) (rest := []) C hz hl.1 hG (pin pnil) (c_X12_access l E am N x1 x2 12 2 10 mm hcr1 H.size) okX12_access q1547 0 rfl rfl rfl (Nat.le_of_ble_eq_true rfl) (by omega) ⟨Nat.le_refl _, Nat.le_refl _⟩ dX12_writeNow_8) (fun H locs hG => ?_)
  refine lv_aload_n hx hb dX12_writeNow_11 rfl (lv_at hl 0 rfl) ?_
  refine gL_f (v := .ref (am 1)) C hG kX12 0 0 rfl (by decide) rfl q1352 rfl dX12_writeNow_12 ?_
  refine lv_sipush (v := 129) hx hb dX12_writeNow_15 (by decide) ?_
  refine lv_iload_n hx hb dX12_writeNow_18 rfl (lv_at hl 1 rfl) ?_
  refine lv_iadd hx hb dX12_writeNow_19 ?_
  refine lv_dup2_11 hx hb dX12_writeNow_20 rfl rfl ?_
  obtain ⟨b2, h⟩ := ck_some h
  refine gL_i (v := (r1 1 (129 + x1).toNatClampNeg)) C hG 1 rfl (inb_in b2) rfl dX12_writeNow_21 ?_
  refine lv_iconst (v := 1) hx hb dX12_writeNow_22 (by decide) ?_
  refine lv_iadd hx hb dX12_writeNow_23 ?_
  obtain ⟨mm_3, emm_3, h⟩ := thn_some h
  refine gS_i (x := ((r1 1 (129 + x1).toNatClampNeg) + 1)) (ws' := (rM E am mm_3 ++ [])) C hG 1 rfl (inb_in b2) rfl dX12_writeNow_24 (by rw [emm_3]; rfl) (fun H locs hG => ?_)
  refine lv_aload_n hx hb dX12_writeNow_25 rfl (lv_at hl 0 rfl) ?_
  refine lv_iload_n hx hb dX12_writeNow_26 rfl (lv_at hl 1 rfl) ?_
  obtain ⟨r4, hcr4, h⟩ := bnd_some h
  refine gF_i (ws' := (rM E am mm_3 ++ [])) C hG (pin pnil) (List.Perm.symm (pin pnil)) (gR_V (As := [.int x1]) (rest := []) C hz hl.1 hG (pin pnil) (c_X12_isFast l E am N x1 mm_3 hcr4 H.size) okX12_isFast q1551 0 rfl rfl rfl (Nat.le_of_ble_eq_true rfl) (by omega) ⟨Nat.le_refl _, Nat.le_refl _⟩ dX12_writeNow_27) (fun H locs z5 hG => ?_)
  refine lv_if_eq (tgt := 66) hx hb dX12_writeNow_30 (by decide) (fun c30 => ?_) (fun c30 => ?_)
  · replace h := it c30 h
    refine lv_aload_n hx hb dX12_writeNow_66 rfl (lv_at hl 0 rfl) ?_
    refine gL_f (v := .ref (am 1)) C hG kX12 0 0 rfl (by decide) rfl q1352 rfl dX12_writeNow_67 ?_
    refine lv_sipush (v := 162) hx hb dX12_writeNow_70 (by decide) ?_
    refine lv_iload_n hx hb dX12_writeNow_73 rfl (lv_at hl 1 rfl) ?_
    refine gF_i (ws' := (rM E am mm_3 ++ [])) C hG pst pst.symm (gR_S (As := [.int x1]) (rest := [.int 162, .ref (am 1)]) C hz hl.1 hG pst (c_X12_firstOf l E x1 rfl H.size) okX12_firstOf q1555 rfl (Nat.le_of_ble_eq_true rfl) (by omega) ⟨Nat.le_refl _, Nat.le_refl _⟩ dX12_writeNow_74) (fun H locs _ hG => ?_)
    refine lv_iadd hx hb dX12_writeNow_77 ?_
    refine lv_iload_n hx hb dX12_writeNow_78 rfl (lv_at hl 2 rfl) ?_
    refine lv_iadd hx hb dX12_writeNow_79 ?_
    refine lv_iload_n hx hb dX12_writeNow_80 rfl (lv_at hl 3 rfl) ?_
    obtain ⟨b6, h⟩ := ck_some h
    obtain ⟨mm_7, emm_7, h⟩ := thn_some h
    refine gS_i (x := x3) (ws' := (rM E am mm_7 ++ [])) C hG 1 rfl (inb_in b6) rfl dX12_writeNow_81 (by rw [emm_7]; rfl) (fun H locs hG => ?_)
    refine lv_aload_n hx hb dX12_writeNow_82 rfl (lv_at hl 0 rfl) ?_
    refine lv_iload_n hx hb dX12_writeNow_83 rfl (lv_at hl 1 rfl) ?_
    obtain ⟨r8, hcr8, h⟩ := bnd_some h
    refine gF_i (ws' := (rM E am mm_7 ++ [])) C hG (pin pnil) (List.Perm.symm (pin pnil)) (gR_V (As := [.int x1]) (rest := []) C hz hl.1 hG (pin pnil) (c_X12_moveAt l E am N x1 mm_7 hcr8 H.size) okX12_moveAt q1582 0 rfl rfl rfl (Nat.le_of_ble_eq_true rfl) (by omega) ⟨Nat.le_refl _, Nat.le_refl _⟩ dX12_writeNow_84) (fun H locs _ hG => ?_)
    refine lv_istore (lv' := [(4, .int r8), (0, .ref (am 0)), (1, .int x1), (2, .int x2), (3, .int x3)]) hx hb dX12_writeNow_87 hl (by decide) rfl (fun ls hl => ?_)
    refine lv_iload hx hb dX12_writeNow_89 (lv_at hl 0 rfl) ?_
    refine lv_if_lt (tgt := 117) hx hb dX12_writeNow_91 (by decide) (fun c91 => ?_) (fun c91 => ?_)
    · replace h := it c91 h
      refine lv_iconst (v := 0) hx hb dX12_writeNow_117 (by decide) ?_
      exact hret _ _ _ _ _ _ h rfl hG dX12_writeNow_118
    · replace h := ie c91 h
      refine lv_aload_n hx hb dX12_writeNow_94 rfl (lv_at hl 1 rfl) ?_
      refine gL_f (v := .ref (am 1)) C hG kX12 0 0 rfl (by decide) rfl q1352 rfl dX12_writeNow_95 ?_
      refine lv_sipush (v := 200) hx hb dX12_writeNow_98 (by decide) ?_
      refine lv_iconst (v := 4) hx hb dX12_writeNow_101 (by decide) ?_
      refine lv_iload hx hb dX12_writeNow_102 (lv_at hl 0 rfl) ?_
      refine lv_imul hx hb dX12_writeNow_104 ?_
      refine lv_iadd hx hb dX12_writeNow_105 ?_
      refine lv_iconst (v := 3) hx hb dX12_writeNow_106 (by decide) ?_
      refine lv_iadd hx hb dX12_writeNow_107 ?_
      refine lv_dup2_11 hx hb dX12_writeNow_108 rfl rfl ?_
      obtain ⟨b9, h⟩ := ck_some h
      refine gL_i (v := (mm_7 1 ((200 + (4 * r8)) + 3).toNatClampNeg)) C hG 1 rfl (inb_in b9) rfl dX12_writeNow_109 ?_
      refine lv_iconst (v := 1) hx hb dX12_writeNow_110 (by decide) ?_
      refine lv_iload_n hx hb dX12_writeNow_111 rfl (lv_at hl 3 rfl) ?_
      refine lv_ishl hx hb dX12_writeNow_112 ?_
      refine lv_iconst (v := (-1)) hx hb dX12_writeNow_113 (by decide) ?_
      refine lv_ixor hx hb dX12_writeNow_114 ?_
      refine lv_iand hx hb dX12_writeNow_115 ?_
      obtain ⟨mm_10, emm_10, h⟩ := thn_some h
      refine gS_i (x := ((mm_7 1 ((200 + (4 * r8)) + 3).toNatClampNeg) &&& ((1 <<< ((x2 : Int32) &&& 31)) ^^^ (-1)))) (ws' := (rM E am mm_10 ++ [])) C hG 1 rfl (inb_in b9) rfl dX12_writeNow_116 (by rw [emm_10]; rfl) (fun H locs hG => ?_)
      refine lv_iconst (v := 0) hx hb dX12_writeNow_117 (by decide) ?_
      exact hret _ _ _ _ _ _ h rfl hG dX12_writeNow_118
  · replace h := ie c30 h
    refine lv_aload_n hx hb dX12_writeNow_33 rfl (lv_at hl 0 rfl) ?_
    refine gL_f (v := .ref (am 1)) C hG kX12 0 0 rfl (by decide) rfl q1352 rfl dX12_writeNow_34 ?_
    refine lv_sipush (v := 185) hx hb dX12_writeNow_37 (by decide) ?_
    refine lv_aload_n hx hb dX12_writeNow_40 rfl (lv_at hl 0 rfl) ?_
    refine lv_iload_n hx hb dX12_writeNow_41 rfl (lv_at hl 1 rfl) ?_
    refine lv_iload_n hx hb dX12_writeNow_42 rfl (lv_at hl 2 rfl) ?_
    obtain ⟨r11, hcr11, h⟩ := bnd_some h
    refine gF_i (ws' := (rM E am mm_3 ++ [])) C hG (pin pnil) (List.Perm.symm (pin pnil)) (gR_V (As := [.int x1, .int x2]) (rest := [.int 185, .ref (am 1)]) C hz hl.1 hG (pin pnil) (c_X12_slotOf l E am N x1 x2 mm_3 hcr11 H.size) okX12_slotOf q1570 0 rfl rfl rfl (Nat.le_of_ble_eq_true rfl) (by omega) ⟨Nat.le_refl _, Nat.le_refl _⟩ dX12_writeNow_43) (fun H locs _ hG => ?_)
    refine lv_iadd hx hb dX12_writeNow_46 ?_
    refine lv_iload_n hx hb dX12_writeNow_47 rfl (lv_at hl 3 rfl) ?_
    obtain ⟨b12, h⟩ := ck_some h
    obtain ⟨mm_13, emm_13, h⟩ := thn_some h
    refine gS_i (x := x3) (ws' := (rM E am mm_13 ++ [])) C hG 1 rfl (inb_in b12) rfl dX12_writeNow_48 (by rw [emm_13]; rfl) (fun H locs hG => ?_)
    refine lv_aload_n hx hb dX12_writeNow_49 rfl (lv_at hl 0 rfl) ?_
    refine gL_f (v := .ref (am 1)) C hG kX12 0 0 rfl (by decide) rfl q1352 rfl dX12_writeNow_50 ?_
    refine lv_bipush (v := 79) hx hb dX12_writeNow_53 (by decide) ?_
    refine lv_iload_n hx hb dX12_writeNow_55 rfl (lv_at hl 1 rfl) ?_
    refine lv_iadd hx hb dX12_writeNow_56 ?_
    refine lv_dup2_11 hx hb dX12_writeNow_57 rfl rfl ?_
    obtain ⟨b14, h⟩ := ck_some h
    refine gL_i (v := (mm_13 1 (79 + x1).toNatClampNeg)) C hG 1 rfl (inb_in b14) rfl dX12_writeNow_58 ?_
    refine lv_iconst (v := 1) hx hb dX12_writeNow_59 (by decide) ?_
    refine lv_iload_n hx hb dX12_writeNow_60 rfl (lv_at hl 2 rfl) ?_
    refine lv_ishl hx hb dX12_writeNow_61 ?_
    refine lv_ior hx hb dX12_writeNow_62 ?_
    obtain ⟨mm_15, emm_15, h⟩ := thn_some h
    refine gS_i (x := ((mm_13 1 (79 + x1).toNatClampNeg) ||| (1 <<< ((x2 : Int32) &&& 31)))) (ws' := (rM E am mm_15 ++ [])) C hG 1 rfl (inb_in b14) rfl dX12_writeNow_63 (by rw [emm_15]; rfl) (fun H locs hG => ?_)
    refine lv_iconst (v := 1) hx hb dX12_writeNow_64 (by decide) ?_
    exact hret _ _ _ _ _ _ h rfl hG dX12_writeNow_65
set_option maxHeartbeats 4000000 in
set_option maxRecDepth 100000 in
theorem c_X12_ofMove (l : Launch) (E : GE) (am : Nat → Nat) (N : Nat) (x1 : Int32) (x2 : Int32) (mm : RS) {res : Int32} (h : fX12_ofMove N x1 x2 mm = some res) : gMi l E yX12_ofMove cX12_ofMove 3 .int 1 0 0 [.ref (am 0), .int x1, .int x2] (rM E am mm ++ []) (rM E am mm ++ []) res := by
  refine gMi_of (own := RX12) (by decide +kernel) rfl (Nat.le_of_ble_eq_true rfl) ?_
  intro p e s m args below meth c A ls Q H locs C hz hl hG hret
  have hx := C.1.1
  have hb := C.1.2.1
  have hts := C.1.2.2.2.2
  have hown := C.1.2.2.2.1
  have hl : lv_has ls 3 [(0, .ref (am 0)), (1, .int x1), (2, .int x2)] := hl
  replace hret : ∀ (r0 : Int32) (H : Heap) (locs : List Loc) (pc : Nat) (ls' : Array Slot), some r0 = some res → narrow .int (.int r0) = .int r0 → gG E A s.heap (rM E am mm ++ []) H locs → decode cX12_ofMove pc = .ok (.ireturn, 1) → W p l e (rmD 1 0 0) s m args below meth c H locs 0 0 Q (F0 m pc ls' [.int r0]) := by
    intro r0 H locs pc ls' e0 hn; cases e0; exact hret H locs pc ls' hn
  rw [fX12_ofMove] at h
  refine lv_aload_n hx hb dX12_ofMove_0 rfl (lv_at hl 0 rfl) ?_
  refine gL_f (v := .ref (am 1)) C hG kX12 0 0 rfl (by decide) rfl q1352 rfl dX12_ofMove_1 ?_
  refine lv_sipush (v := 200) hx hb dX12_ofMove_4 (by decide) ?_
  refine lv_iconst (v := 4) hx hb dX12_ofMove_7 (by decide) ?_
  refine lv_iload_n hx hb dX12_ofMove_8 rfl (lv_at hl 1 rfl) ?_
  refine lv_imul hx hb dX12_ofMove_9 ?_
  refine lv_iadd hx hb dX12_ofMove_10 ?_
  refine lv_iload_n hx hb dX12_ofMove_11 rfl (lv_at hl 2 rfl) ?_
  refine lv_iadd hx hb dX12_ofMove_12 ?_
  obtain ⟨b1, h⟩ := ck_some h
  refine gL_i (v := (mm 1 ((200 + (4 * x1)) + x2).toNatClampNeg)) C hG 1 rfl (inb_in b1) rfl dX12_ofMove_13 ?_
  exact hret _ _ _ _ _ h rfl hG dX12_ofMove_14
set_option maxHeartbeats 4000000 in
set_option maxRecDepth 100000 in
theorem c_X12_addMove (l : Launch) (E : GE) (am : Nat → Nat) (N : Nat) (x1 : Int32) (mm : RS) {res : RS} (h : fX12_addMove N x1 mm = some res) : gMv l E yX12_addMove cX12_addMove 3 2 0 0 [.ref (am 0), .int x1] (rM E am mm ++ []) (rM E am res ++ []) := by
  refine gMv_of (own := RX12) (by decide +kernel) rfl (Nat.le_of_ble_eq_true rfl) ?_
  intro p e s m args below meth c A ls Q H locs C hz hl hG hin hret
  have hx := C.1.1
  have hb := C.1.2.1
  have hts := C.1.2.2.2.2
  have hown := C.1.2.2.2.1
  have hl : lv_has ls 3 [(0, .ref (am 0)), (1, .int x1)] := hl
  replace hret : ∀ (mm0 : RS) (H : Heap) (locs : List Loc) (pc : Nat) (ls' : Array Slot), some mm0 = some res → gG E A s.heap (rM E am mm0 ++ []) H locs → decode cX12_addMove pc = .ok (.return_, 1) → W p l e (rmD 2 0 0) s m args below meth c H locs 0 0 Q (F0 m pc ls' []) := by
    intro mm0 H locs pc ls' e0; cases e0; exact hret H locs pc ls'
  have K41 : ∀  (x2 : Int32) (s1 : Int32) (s2 : Int32) (mm : RS) (H : Heap) (locs : List Loc) (ls : Array Slot), gG E A s.heap (rM E am mm ++ []) H locs → lv_has ls 3 [(0, .ref (am 0)), (2, .int x2)] → fX12_addMove_L41 N x1 x2 s1 s2 mm = some res → W p l e (rmD 2 0 0) s m args below meth c H locs 0 0 Q (F0 m 41 ls [.int s2, .int s1, .ref (am 1)]) := by
    intro x2 s1 s2 mm H locs ls hG hl h
    rw [fX12_addMove_L41] at h
    obtain ⟨b1, h⟩ := ck_some h
    obtain ⟨mm_2, emm_2, h⟩ := thn_some h
    refine gS_i (x := s2) (ws' := (rM E am mm_2 ++ [])) C hG 1 rfl (inb_in b1) rfl dX12_addMove_41 (by rw [emm_2]; rfl) (fun H locs hG => ?_)
    refine lv_aload_n hx hb dX12_addMove_42 rfl (lv_at hl 0 rfl) ?_
    refine gL_f (v := .ref (am 1)) C hG kX12 0 0 rfl (by decide) rfl q1352 rfl dX12_addMove_43 ?_
    refine lv_iload_n hx hb dX12_addMove_46 rfl (lv_at hl 1 rfl) ?_
    refine lv_iconst (v := 2) hx hb dX12_addMove_47 (by decide) ?_
    refine lv_iadd hx hb dX12_addMove_48 ?_
    refine lv_iconst (v := 0) hx hb dX12_addMove_49 (by decide) ?_
    obtain ⟨b3, h⟩ := ck_some h
    obtain ⟨mm_4, emm_4, h⟩ := thn_some h
    refine gS_i (x := 0) (ws' := (rM E am mm_4 ++ [])) C hG 1 rfl (inb_in b3) rfl dX12_addMove_50 (by rw [emm_4]; rfl) (fun H locs hG => ?_)
    refine lv_aload_n hx hb dX12_addMove_51 rfl (lv_at hl 0 rfl) ?_
    refine gL_f (v := .ref (am 1)) C hG kX12 0 0 rfl (by decide) rfl q1352 rfl dX12_addMove_52 ?_
    refine lv_iload_n hx hb dX12_addMove_55 rfl (lv_at hl 1 rfl) ?_
    refine lv_iconst (v := 3) hx hb dX12_addMove_56 (by decide) ?_
    refine lv_iadd hx hb dX12_addMove_57 ?_
    refine lv_iconst (v := 0) hx hb dX12_addMove_58 (by decide) ?_
    obtain ⟨b5, h⟩ := ck_some h
    obtain ⟨mm_6, emm_6, h⟩ := thn_some h
    refine gS_i (x := 0) (ws' := (rM E am mm_6 ++ [])) C hG 1 rfl (inb_in b5) rfl dX12_addMove_59 (by rw [emm_6]; rfl) (fun H locs hG => ?_)
    refine lv_aload_n hx hb dX12_addMove_60 rfl (lv_at hl 0 rfl) ?_
    refine gL_f (v := .ref (am 1)) C hG kX12 0 0 rfl (by decide) rfl q1352 rfl dX12_addMove_61 ?_
    refine lv_bipush (v := 17) hx hb dX12_addMove_64 (by decide) ?_
    refine lv_dup2_11 hx hb dX12_addMove_66 rfl rfl ?_
    refine gL_i (v := (mm_6 1 17)) C hG 1 rfl (vp_in_nI (n := 17) (by decide) (by decide)) (congrArg (mm_6 1) (nI_clamp (n := 17) (by decide))) dX12_addMove_67 ?_
    refine lv_iconst (v := 1) hx hb dX12_addMove_68 (by decide) ?_
    refine lv_iadd hx hb dX12_addMove_69 ?_
    obtain ⟨mm_7, emm_7, h⟩ := thn_some h
    refine gS_i (x := ((mm_6 1 17) + 1)) (ws' := (rM E am mm_7 ++ [])) C hG 1 rfl (vp_in_nI (n := 17) (by decide) (by decide)) (nI_clamp (n := 17) (by decide)) dX12_addMove_70 (by rw [emm_7]; rfl) (fun H locs hG => ?_)
    exact hret _ _ _ _ _ h hG dX12_addMove_71
  rw [fX12_addMove] at h
  refine lv_sipush (v := 200) hx hb dX12_addMove_0 (by decide) ?_
  refine lv_iconst (v := 4) hx hb dX12_addMove_3 (by decide) ?_
  refine lv_aload_n hx hb dX12_addMove_4 rfl (lv_at hl 0 rfl) ?_
  refine gL_f (v := .ref (am 1)) C hG kX12 0 0 rfl (by decide) rfl q1352 rfl dX12_addMove_5 ?_
  refine lv_bipush (v := 17) hx hb dX12_addMove_8 (by decide) ?_
  refine gL_i (v := (mm 1 17)) C hG 1 rfl (vp_in_nI (n := 17) (by decide) (by decide)) (congrArg (mm 1) (nI_clamp (n := 17) (by decide))) dX12_addMove_10 ?_
  refine lv_imul hx hb dX12_addMove_11 ?_
  refine lv_iadd hx hb dX12_addMove_12 ?_
  obtain ⟨x2_1, ex2_1, h⟩ := thn_some h
  refine g_int ex2_1 ?_
  refine lv_istore_n (lv' := [(2, .int x2_1), (0, .ref (am 0)), (1, .int x1)]) hx hb dX12_addMove_13 rfl hl (by decide) rfl (fun ls hl => ?_)
  refine lv_aload_n hx hb dX12_addMove_14 rfl (lv_at hl 1 rfl) ?_
  refine gL_f (v := .ref (am 1)) C hG kX12 0 0 rfl (by decide) rfl q1352 rfl dX12_addMove_15 ?_
  refine lv_iload_n hx hb dX12_addMove_18 rfl (lv_at hl 0 rfl) ?_
  refine lv_iload_n hx hb dX12_addMove_19 rfl (lv_at hl 2 rfl) ?_
  obtain ⟨b2, h⟩ := ck_some h
  obtain ⟨mm_3, emm_3, h⟩ := thn_some h
  refine gS_i (x := x1) (ws' := (rM E am mm_3 ++ [])) C hG 1 rfl (inb_in b2) rfl dX12_addMove_20 (by rw [emm_3]; rfl) (fun H locs hG => ?_)
  refine lv_aload_n hx hb dX12_addMove_21 rfl (lv_at hl 1 rfl) ?_
  refine gL_f (v := .ref (am 1)) C hG kX12 0 0 rfl (by decide) rfl q1352 rfl dX12_addMove_22 ?_
  refine lv_iload_n hx hb dX12_addMove_25 rfl (lv_at hl 0 rfl) ?_
  refine lv_iconst (v := 1) hx hb dX12_addMove_26 (by decide) ?_
  refine lv_iadd hx hb dX12_addMove_27 ?_
  refine lv_aload_n hx hb dX12_addMove_28 rfl (lv_at hl 1 rfl) ?_
  refine lv_iload_n hx hb dX12_addMove_29 rfl (lv_at hl 2 rfl) ?_
  obtain ⟨r4, hcr4, h⟩ := bnd_some h
  refine gF_i (ws' := (rM E am mm_3 ++ [])) C hG (pin pnil) (List.Perm.symm (pin pnil)) (gR_V (As := [.int x1]) (rest := [.int (x2_1 + 1), .ref (am 1)]) C hz hl.1 hG (pin pnil) (c_X12_isFast l E am N x1 mm_3 hcr4 H.size) okX12_isFast q1551 0 rfl rfl rfl (Nat.le_of_ble_eq_true rfl) (by omega) ⟨Nat.le_refl _, Nat.le_refl _⟩ dX12_addMove_30) (fun H locs z5 hG => ?_)
  refine lv_if_eq (tgt := 40) hx hb dX12_addMove_33 (by decide) (fun c33 => ?_) (fun c33 => ?_)
  · replace h := it c33 h
    refine lv_iconst (v := 1) hx hb dX12_addMove_40 (by decide) ?_
    exact K41 x2_1 (x2_1 + 1) 1 mm_3 _ _ _ hG (lv_sub hl [1, 0] rfl) h
  · replace h := ie c33 h
    refine lv_iconst (v := 0) hx hb dX12_addMove_36 (by decide) ?_
    refine lv_goto (tgt := 41) hx hb dX12_addMove_37 (by decide) ?_
    exact K41 x2_1 (x2_1 + 1) 0 mm_3 _ _ _ hG (lv_sub hl [1, 0] rfl) h
set_option maxHeartbeats 4000000 in
set_option maxRecDepth 100000 in
theorem c_X12_outMove (l : Launch) (E : GE) (am : Nat → Nat) (N : Nat) (x1 : Int32) (mm : RS) {res : RS} (h : fX12_outMove N x1 mm = some res) : gMv l E yX12_outMove cX12_outMove 3 1 0 0 [.ref (am 0), .int x1] (rM E am mm ++ []) (rM E am res ++ []) := by
  refine gMv_of (own := RX12) (by decide +kernel) rfl (Nat.le_of_ble_eq_true rfl) ?_
  intro p e s m args below meth c A ls Q H locs C hz hl hG hin hret
  have hx := C.1.1
  have hb := C.1.2.1
  have hts := C.1.2.2.2.2
  have hown := C.1.2.2.2.1
  have hl : lv_has ls 3 [(0, .ref (am 0)), (1, .int x1)] := hl
  replace hret : ∀ (mm0 : RS) (H : Heap) (locs : List Loc) (pc : Nat) (ls' : Array Slot), some mm0 = some res → gG E A s.heap (rM E am mm0 ++ []) H locs → decode cX12_outMove pc = .ok (.return_, 1) → W p l e (rmD 1 0 0) s m args below meth c H locs 0 0 Q (F0 m pc ls' []) := by
    intro mm0 H locs pc ls' e0; cases e0; exact hret H locs pc ls'
  have K60 : ∀ (k : Nat), ∀  (x2 : Int32) (mm : RS) (H : Heap) (locs : List Loc) (ls : Array Slot), gG E A s.heap (rM E am mm ++ []) H locs → lv_has ls 3 [(0, .ref (am 0)), (2, .int x2)] → fX12_outMove_L60 N x1 k x2 mm = some res → W p l e (rmD 1 0 0) s m args below meth c H locs 0 0 Q (F0 m 60 ls []) := by
    intro k
    induction k with
    | zero => intro x2 mm H locs ls hG hl h; exact absurd (show none = _ from h) (by simp)
    | succ k ih =>
      intro x2 mm H locs ls hG hl h
      rw [fX12_outMove_L60] at h
      refine lv_iload_n hx hb dX12_outMove_60 rfl (lv_at hl 1 rfl) ?_
      refine lv_iconst (v := 4) hx hb dX12_outMove_61 (by decide) ?_
      refine lv_icmp_ge (tgt := 92) hx hb dX12_outMove_62 (by decide) (fun c62 => ?_) (fun c62 => ?_)
      · replace h := it c62 h
        exact hret _ _ _ _ _ h hG dX12_outMove_92
      · replace h := ie c62 h
        refine lv_aload_n hx hb dX12_outMove_65 rfl (lv_at hl 0 rfl) ?_
        refine gL_f (v := .ref (am 1)) C hG kX12 0 0 rfl (by decide) rfl q1352 rfl dX12_outMove_66 ?_
        refine lv_sipush (v := 200) hx hb dX12_outMove_69 (by decide) ?_
        refine lv_iconst (v := 4) hx hb dX12_outMove_72 (by decide) ?_
        refine lv_aload_n hx hb dX12_outMove_73 rfl (lv_at hl 0 rfl) ?_
        refine gL_f (v := .ref (am 1)) C hG kX12 0 0 rfl (by decide) rfl q1352 rfl dX12_outMove_74 ?_
        refine lv_bipush (v := 17) hx hb dX12_outMove_77 (by decide) ?_
        refine gL_i (v := (mm 1 17)) C hG 1 rfl (vp_in_nI (n := 17) (by decide) (by decide)) (congrArg (mm 1) (nI_clamp (n := 17) (by decide))) dX12_outMove_79 ?_
        refine lv_imul hx hb dX12_outMove_80 ?_
        refine lv_iadd hx hb dX12_outMove_81 ?_
        refine lv_iload_n hx hb dX12_outMove_82 rfl (lv_at hl 1 rfl) ?_
        refine lv_iadd hx hb dX12_outMove_83 ?_
        refine lv_iconst (v := 0) hx hb dX12_outMove_84 (by decide) ?_
        obtain ⟨b1, h⟩ := ck_some h
        obtain ⟨mm_2, emm_2, h⟩ := thn_some h
        refine gS_i (x := 0) (ws' := (rM E am mm_2 ++ [])) C hG 1 rfl (inb_in b1) rfl dX12_outMove_85 (by rw [emm_2]; rfl) (fun H locs hG => ?_)
        refine lv_iinc (v := (x2 + 1)) (lv' := [(2, .int (x2 + 1)), (0, .ref (am 0))]) hx hb dX12_outMove_86 hl (k := 1) rfl (congrArg (x2 + ·) (by decide : Int32.ofInt 1 = 1)) (by decide) rfl (fun ls hl => ?_)
        refine lv_goto (tgt := 60) hx hb dX12_outMove_89 (by decide) ?_
        exact ih (x2 + 1) mm_2 _ _ _ hG (lv_sub hl [1, 0] rfl) h
  have K8 : ∀ (k : Nat), ∀  (x2 : Int32) (mm : RS) (H : Heap) (locs : List Loc) (ls : Array Slot), gG E A s.heap (rM E am mm ++ []) H locs → lv_has ls 3 [(0, .ref (am 0)), (2, .int x2)] → fX12_outMove_L8 N x1 k x2 mm = some res → W p l e (rmD 1 0 0) s m args below meth c H locs 0 0 Q (F0 m 8 ls []) := by
    intro k
    induction k with
    | zero => intro x2 mm H locs ls hG hl h; exact absurd (show none = _ from h) (by simp)
    | succ k ih =>
      intro x2 mm H locs ls hG hl h
      rw [fX12_outMove_L8] at h
      refine lv_iload_n hx hb dX12_outMove_8 rfl (lv_at hl 1 rfl) ?_
      refine lv_sipush (v := 200) hx hb dX12_outMove_9 (by decide) ?_
      refine lv_iconst (v := 4) hx hb dX12_outMove_12 (by decide) ?_
      refine lv_aload_n hx hb dX12_outMove_13 rfl (lv_at hl 0 rfl) ?_
      refine gL_f (v := .ref (am 1)) C hG kX12 0 0 rfl (by decide) rfl q1352 rfl dX12_outMove_14 ?_
      refine lv_bipush (v := 17) hx hb dX12_outMove_17 (by decide) ?_
      refine gL_i (v := (mm 1 17)) C hG 1 rfl (vp_in_nI (n := 17) (by decide) (by decide)) (congrArg (mm 1) (nI_clamp (n := 17) (by decide))) dX12_outMove_19 ?_
      refine lv_imul hx hb dX12_outMove_20 ?_
      refine lv_iadd hx hb dX12_outMove_21 ?_
      refine lv_iconst (v := 4) hx hb dX12_outMove_22 (by decide) ?_
      refine lv_isub hx hb dX12_outMove_23 ?_
      refine lv_icmp_ge (tgt := 47) hx hb dX12_outMove_24 (by decide) (fun c24 => ?_) (fun c24 => ?_)
      · replace h := it c24 h
        refine lv_aload_n hx hb dX12_outMove_47 rfl (lv_at hl 0 rfl) ?_
        refine gL_f (v := .ref (am 1)) C hG kX12 0 0 rfl (by decide) rfl q1352 rfl dX12_outMove_48 ?_
        refine lv_bipush (v := 17) hx hb dX12_outMove_51 (by decide) ?_
        refine lv_dup2_11 hx hb dX12_outMove_53 rfl rfl ?_
        refine gL_i (v := (mm 1 17)) C hG 1 rfl (vp_in_nI (n := 17) (by decide) (by decide)) (congrArg (mm 1) (nI_clamp (n := 17) (by decide))) dX12_outMove_54 ?_
        refine lv_iconst (v := 1) hx hb dX12_outMove_55 (by decide) ?_
        refine lv_isub hx hb dX12_outMove_56 ?_
        obtain ⟨mm_1, emm_1, h⟩ := thn_some h
        refine gS_i (x := ((mm 1 17) - 1)) (ws' := (rM E am mm_1 ++ [])) C hG 1 rfl (vp_in_nI (n := 17) (by decide) (by decide)) (nI_clamp (n := 17) (by decide)) dX12_outMove_57 (by rw [emm_1]; rfl) (fun H locs hG => ?_)
        refine lv_iconst (v := 0) hx hb dX12_outMove_58 (by decide) ?_
        refine lv_istore_n (lv' := [(2, .int 0), (0, .ref (am 0))]) hx hb dX12_outMove_59 rfl hl (by decide) rfl (fun ls hl => ?_)
        exact K60 N 0 mm_1 _ _ _ hG (lv_sub hl [1, 0] rfl) h
      · replace h := ie c24 h
        refine lv_aload_n hx hb dX12_outMove_27 rfl (lv_at hl 0 rfl) ?_
        refine gL_f (v := .ref (am 1)) C hG kX12 0 0 rfl (by decide) rfl q1352 rfl dX12_outMove_28 ?_
        refine lv_iload_n hx hb dX12_outMove_31 rfl (lv_at hl 1 rfl) ?_
        refine lv_aload_n hx hb dX12_outMove_32 rfl (lv_at hl 0 rfl) ?_
        refine gL_f (v := .ref (am 1)) C hG kX12 0 0 rfl (by decide) rfl q1352 rfl dX12_outMove_33 ?_
        refine lv_iload_n hx hb dX12_outMove_36 rfl (lv_at hl 1 rfl) ?_
        refine lv_iconst (v := 4) hx hb dX12_outMove_37 (by decide) ?_
        refine lv_iadd hx hb dX12_outMove_38 ?_
        obtain ⟨b2, h⟩ := ck_some h
        refine gL_i (v := (mm 1 (x2 + 4).toNatClampNeg)) C hG 1 rfl (inb_in b2) rfl dX12_outMove_39 ?_
        obtain ⟨b3, h⟩ := ck_some h
        obtain ⟨mm_4, emm_4, h⟩ := thn_some h
        refine gS_i (x := (mm 1 (x2 + 4).toNatClampNeg)) (ws' := (rM E am mm_4 ++ [])) C hG 1 rfl (inb_in b3) rfl dX12_outMove_40 (by rw [emm_4]; rfl) (fun H locs hG => ?_)
        refine lv_iinc (v := (x2 + 1)) (lv' := [(2, .int (x2 + 1)), (0, .ref (am 0))]) hx hb dX12_outMove_41 hl (k := 1) rfl (congrArg (x2 + ·) (by decide : Int32.ofInt 1 = 1)) (by decide) rfl (fun ls hl => ?_)
        refine lv_goto (tgt := 8) hx hb dX12_outMove_44 (by decide) ?_
        exact ih (x2 + 1) mm_4 _ _ _ hG (lv_sub hl [1, 0] rfl) h
  rw [fX12_outMove] at h
  refine lv_sipush (v := 200) hx hb dX12_outMove_0 (by decide) ?_
  refine lv_iconst (v := 4) hx hb dX12_outMove_3 (by decide) ?_
  refine lv_iload_n hx hb dX12_outMove_4 rfl (lv_at hl 1 rfl) ?_
  refine lv_imul hx hb dX12_outMove_5 ?_
  refine lv_iadd hx hb dX12_outMove_6 ?_
  obtain ⟨x2_1, ex2_1, h⟩ := thn_some h
  refine g_int ex2_1 ?_
  refine lv_istore_n (lv' := [(2, .int x2_1), (0, .ref (am 0)), (1, .int x1)]) hx hb dX12_outMove_7 rfl hl (by decide) rfl (fun ls hl => ?_)
  exact K8 N x2_1 mm _ _ _ hG (lv_sub hl [1, 0] rfl) h
set_option maxHeartbeats 4000000 in
set_option maxRecDepth 100000 in
theorem c_X12_freeSlots (l : Launch) (E : GE) (am : Nat → Nat) (N : Nat) (x1 : Int32) (mm : RS) {res : RS} (h : fX12_freeSlots N x1 mm = some res) : gMv l E yX12_freeSlots cX12_freeSlots 3 2 0 0 [.ref (am 0), .int x1] (rM E am mm ++ []) (rM E am res ++ []) := by
  refine gMv_of (own := RX12) (by decide +kernel) rfl (Nat.le_of_ble_eq_true rfl) ?_
  intro p e s m args below meth c A ls Q H locs C hz hl hG hin hret
  have hx := C.1.1
  have hb := C.1.2.1
  have hts := C.1.2.2.2.2
  have hown := C.1.2.2.2.1
  have hl : lv_has ls 3 [(0, .ref (am 0)), (1, .int x1)] := hl
  replace hret : ∀ (mm0 : RS) (H : Heap) (locs : List Loc) (pc : Nat) (ls' : Array Slot), some mm0 = some res → gG E A s.heap (rM E am mm0 ++ []) H locs → decode cX12_freeSlots pc = .ok (.return_, 1) → W p l e (rmD 2 0 0) s m args below meth c H locs 0 0 Q (F0 m pc ls' []) := by
    intro mm0 H locs pc ls' e0; cases e0; exact hret H locs pc ls'
  have K2 : ∀ (k : Nat), ∀  (x2 : Int32) (mm : RS) (H : Heap) (locs : List Loc) (ls : Array Slot), gG E A s.heap (rM E am mm ++ []) H locs → lv_has ls 3 [(0, .ref (am 0)), (1, .int x1), (2, .int x2)] → fX12_freeSlots_L2 N x1 k x2 mm = some res → W p l e (rmD 2 0 0) s m args below meth c H locs 0 0 Q (F0 m 2 ls []) := by
    intro k
    induction k with
    | zero => intro x2 mm H locs ls hG hl h; exact absurd (show none = _ from h) (by simp)
    | succ k ih =>
      intro x2 mm H locs ls hG hl h
      rw [fX12_freeSlots_L2] at h
      refine lv_iload_n hx hb dX12_freeSlots_2 rfl (lv_at hl 2 rfl) ?_
      refine lv_iload_n hx hb dX12_freeSlots_3 rfl (lv_at hl 1 rfl) ?_
      refine gF_i (ws' := (rM E am mm ++ [])) C hG pst pst.symm (gR_S (As := [.int x1]) (rest := [.int x2]) C hz hl.1 hG pst (c_X12_sizeOf l E x1 rfl H.size) okX12_sizeOf q1536 rfl (Nat.le_of_ble_eq_true rfl) (by omega) ⟨Nat.le_refl _, Nat.le_refl _⟩ dX12_freeSlots_4) (fun H locs _ hG => ?_)
      refine lv_icmp_ge (tgt := 32) hx hb dX12_freeSlots_7 (by decide) (fun c7 => ?_) (fun c7 => ?_)
      · replace h := it c7 h
        exact hret _ _ _ _ _ h hG dX12_freeSlots_32
      · replace h := ie c7 h
        refine lv_aload_n hx hb dX12_freeSlots_10 rfl (lv_at hl 0 rfl) ?_
        refine gL_f (v := .ref (am 1)) C hG kX12 0 0 rfl (by decide) rfl q1352 rfl dX12_freeSlots_11 ?_
        refine lv_sipush (v := 139) hx hb dX12_freeSlots_14 (by decide) ?_
        refine lv_iload_n hx hb dX12_freeSlots_17 rfl (lv_at hl 1 rfl) ?_
        refine gF_i (ws' := (rM E am mm ++ [])) C hG pst pst.symm (gR_S (As := [.int x1]) (rest := [.int 139, .ref (am 1)]) C hz hl.1 hG pst (c_X12_firstOf l E x1 rfl H.size) okX12_firstOf q1555 rfl (Nat.le_of_ble_eq_true rfl) (by omega) ⟨Nat.le_refl _, Nat.le_refl _⟩ dX12_freeSlots_18) (fun H locs _ hG => ?_)
        refine lv_iadd hx hb dX12_freeSlots_21 ?_
        refine lv_iload_n hx hb dX12_freeSlots_22 rfl (lv_at hl 2 rfl) ?_
        refine lv_iadd hx hb dX12_freeSlots_23 ?_
        refine lv_iconst (v := (-1)) hx hb dX12_freeSlots_24 (by decide) ?_
        obtain ⟨b1, h⟩ := ck_some h
        obtain ⟨mm_2, emm_2, h⟩ := thn_some h
        refine gS_i (x := (-1)) (ws' := (rM E am mm_2 ++ [])) C hG 1 rfl (inb_in b1) rfl dX12_freeSlots_25 (by rw [emm_2]; rfl) (fun H locs hG => ?_)
        refine lv_iinc (v := (x2 + 1)) (lv' := [(2, .int (x2 + 1)), (0, .ref (am 0)), (1, .int x1)]) hx hb dX12_freeSlots_26 hl (k := 2) rfl (congrArg (x2 + ·) (by decide : Int32.ofInt 1 = 1)) (by decide) rfl (fun ls hl => ?_)
        refine lv_goto (tgt := 2) hx hb dX12_freeSlots_29 (by decide) ?_
        exact ih (x2 + 1) mm_2 _ _ _ hG (lv_sub hl [1, 2, 0] rfl) h
  rw [fX12_freeSlots] at h
  refine lv_iconst (v := 0) hx hb dX12_freeSlots_0 (by decide) ?_
  refine lv_istore_n (lv' := [(2, .int 0), (0, .ref (am 0)), (1, .int x1)]) hx hb dX12_freeSlots_1 rfl hl (by decide) rfl (fun ls hl => ?_)
  exact K2 N 0 mm _ _ _ hG (lv_sub hl [1, 2, 0] rfl) h
set_option maxHeartbeats 4000000 in
set_option maxRecDepth 100000 in
theorem c_X12_holderOf (l : Launch) (E : GE) (am : Nat → Nat) (N : Nat) (x1 : Int32) (mm : RS) {res : Int32} (h : fX12_holderOf N x1 mm = some res) : gMi l E yX12_holderOf cX12_holderOf 3 .int 1 0 0 [.ref (am 0), .int x1] (rM E am mm ++ []) (rM E am mm ++ []) res := by
  refine gMi_of (own := RX12) (by decide +kernel) rfl (Nat.le_of_ble_eq_true rfl) ?_
  intro p e s m args below meth c A ls Q H locs C hz hl hG hret
  have hx := C.1.1
  have hb := C.1.2.1
  have hts := C.1.2.2.2.2
  have hown := C.1.2.2.2.1
  have hl : lv_has ls 3 [(0, .ref (am 0)), (1, .int x1)] := hl
  replace hret : ∀ (r0 : Int32) (H : Heap) (locs : List Loc) (pc : Nat) (ls' : Array Slot), some r0 = some res → narrow .int (.int r0) = .int r0 → gG E A s.heap (rM E am mm ++ []) H locs → decode cX12_holderOf pc = .ok (.ireturn, 1) → W p l e (rmD 1 0 0) s m args below meth c H locs 0 0 Q (F0 m pc ls' [.int r0]) := by
    intro r0 H locs pc ls' e0 hn; cases e0; exact hret H locs pc ls' hn
  have K2 : ∀ (k : Nat), ∀  (x2 : Int32) (H : Heap) (locs : List Loc) (ls : Array Slot), gG E A s.heap (rM E am mm ++ []) H locs → lv_has ls 3 [(0, .ref (am 0)), (1, .int x1), (2, .int x2)] → fX12_holderOf_L2 N x1 mm k x2 = some res → W p l e (rmD 1 0 0) s m args below meth c H locs 0 0 Q (F0 m 2 ls []) := by
    intro k
    induction k with
    | zero => intro x2 H locs ls hG hl h; exact absurd (show none = _ from h) (by simp)
    | succ k ih =>
      intro x2 H locs ls hG hl h
      rw [fX12_holderOf_L2] at h
      refine lv_iload_n hx hb dX12_holderOf_2 rfl (lv_at hl 2 rfl) ?_
      refine lv_bipush (v := 23) hx hb dX12_holderOf_3 (by decide) ?_
      refine lv_icmp_ge (tgt := 30) hx hb dX12_holderOf_5 (by decide) (fun c5 => ?_) (fun c5 => ?_)
      · replace h := it c5 h
        refine lv_iconst (v := (-1)) hx hb dX12_holderOf_30 (by decide) ?_
        exact hret _ _ _ _ _ h rfl hG dX12_holderOf_31
      · replace h := ie c5 h
        refine lv_aload_n hx hb dX12_holderOf_8 rfl (lv_at hl 0 rfl) ?_
        refine gL_f (v := .ref (am 1)) C hG kX12 0 0 rfl (by decide) rfl q1352 rfl dX12_holderOf_9 ?_
        refine lv_sipush (v := 139) hx hb dX12_holderOf_12 (by decide) ?_
        refine lv_iload_n hx hb dX12_holderOf_15 rfl (lv_at hl 2 rfl) ?_
        refine lv_iadd hx hb dX12_holderOf_16 ?_
        obtain ⟨b1, h⟩ := ck_some h
        refine gL_i (v := (mm 1 (139 + x2).toNatClampNeg)) C hG 1 rfl (inb_in b1) rfl dX12_holderOf_17 ?_
        refine lv_iload_n hx hb dX12_holderOf_18 rfl (lv_at hl 1 rfl) ?_
        refine lv_icmp_ne (tgt := 24) hx hb dX12_holderOf_19 (by decide) (fun c19 => ?_) (fun c19 => ?_)
        · replace h := ie c19 h
          refine lv_iinc (v := (x2 + 1)) (lv' := [(2, .int (x2 + 1)), (0, .ref (am 0)), (1, .int x1)]) hx hb dX12_holderOf_24 hl (k := 2) rfl (congrArg (x2 + ·) (by decide : Int32.ofInt 1 = 1)) (by decide) rfl (fun ls hl => ?_)
          refine lv_goto (tgt := 2) hx hb dX12_holderOf_27 (by decide) ?_
          exact ih (x2 + 1) _ _ _ hG (lv_sub hl [1, 2, 0] rfl) h
        · replace h := it c19 h
          refine lv_iload_n hx hb dX12_holderOf_22 rfl (lv_at hl 2 rfl) ?_
          exact hret _ _ _ _ _ h rfl hG dX12_holderOf_23
  rw [fX12_holderOf] at h
  refine lv_iconst (v := 0) hx hb dX12_holderOf_0 (by decide) ?_
  refine lv_istore_n (lv' := [(2, .int 0), (0, .ref (am 0)), (1, .int x1)]) hx hb dX12_holderOf_1 rfl hl (by decide) rfl (fun ls hl => ?_)
  exact K2 N 0 _ _ _ hG (lv_sub hl [1, 2, 0] rfl) h
set_option maxHeartbeats 4000000 in
set_option maxRecDepth 100000 in
theorem c_X12_freeFrom (l : Launch) (E : GE) (am : Nat → Nat) (N : Nat) (x1 : Int32) (mm : RS) {res : Int32} (h : fX12_freeFrom N x1 mm = some res) : gMi l E yX12_freeFrom cX12_freeFrom 3 .int 2 0 0 [.ref (am 0), .int x1] (rM E am mm ++ []) (rM E am mm ++ []) res := by
  refine gMi_of (own := RX12) (by decide +kernel) rfl (Nat.le_of_ble_eq_true rfl) ?_
  intro p e s m args below meth c A ls Q H locs C hz hl hG hret
  have hx := C.1.1
  have hb := C.1.2.1
  have hts := C.1.2.2.2.2
  have hown := C.1.2.2.2.1
  have hl : lv_has ls 3 [(0, .ref (am 0)), (1, .int x1)] := hl
  replace hret : ∀ (r0 : Int32) (H : Heap) (locs : List Loc) (pc : Nat) (ls' : Array Slot), some r0 = some res → narrow .int (.int r0) = .int r0 → gG E A s.heap (rM E am mm ++ []) H locs → decode cX12_freeFrom pc = .ok (.ireturn, 1) → W p l e (rmD 2 0 0) s m args below meth c H locs 0 0 Q (F0 m pc ls' [.int r0]) := by
    intro r0 H locs pc ls' e0 hn; cases e0; exact hret H locs pc ls' hn
  have K2 : ∀ (k : Nat), ∀  (x2 : Int32) (H : Heap) (locs : List Loc) (ls : Array Slot), gG E A s.heap (rM E am mm ++ []) H locs → lv_has ls 3 [(0, .ref (am 0)), (2, .int x2)] → fX12_freeFrom_L2 N x1 mm k x2 = some res → W p l e (rmD 2 0 0) s m args below meth c H locs 0 0 Q (F0 m 2 ls []) := by
    intro k
    induction k with
    | zero => intro x2 H locs ls hG hl h; exact absurd (show none = _ from h) (by simp)
    | succ k ih =>
      intro x2 H locs ls hG hl h
      rw [fX12_freeFrom_L2] at h
      refine lv_iload_n hx hb dX12_freeFrom_2 rfl (lv_at hl 1 rfl) ?_
      refine lv_bipush (v := 9) hx hb dX12_freeFrom_3 (by decide) ?_
      refine lv_icmp_ge (tgt := 25) hx hb dX12_freeFrom_5 (by decide) (fun c5 => ?_) (fun c5 => ?_)
      · replace h := it c5 h
        refine lv_iconst (v := (-1)) hx hb dX12_freeFrom_25 (by decide) ?_
        exact hret _ _ _ _ _ h rfl hG dX12_freeFrom_26
      · replace h := ie c5 h
        refine lv_aload_n hx hb dX12_freeFrom_8 rfl (lv_at hl 0 rfl) ?_
        refine lv_iload_n hx hb dX12_freeFrom_9 rfl (lv_at hl 1 rfl) ?_
        obtain ⟨r1, hcr1, h⟩ := bnd_some h
        refine gF_i (ws' := (rM E am mm ++ [])) C hG (pin pnil) (List.Perm.symm (pin pnil)) (gR_V (As := [.int x2]) (rest := []) C hz hl.1 hG (pin pnil) (c_X12_holderOf l E am N x2 mm hcr1 H.size) okX12_holderOf q1662 0 rfl rfl rfl (Nat.le_of_ble_eq_true rfl) (by omega) ⟨Nat.le_refl _, Nat.le_refl _⟩ dX12_freeFrom_10) (fun H locs _ hG => ?_)
        refine lv_iconst (v := (-1)) hx hb dX12_freeFrom_13 (by decide) ?_
        refine lv_icmp_ne (tgt := 19) hx hb dX12_freeFrom_14 (by decide) (fun c14 => ?_) (fun c14 => ?_)
        · replace h := ie c14 h
          refine lv_iinc (v := (x2 + 1)) (lv' := [(2, .int (x2 + 1)), (0, .ref (am 0))]) hx hb dX12_freeFrom_19 hl (k := 1) rfl (congrArg (x2 + ·) (by decide : Int32.ofInt 1 = 1)) (by decide) rfl (fun ls hl => ?_)
          refine lv_goto (tgt := 2) hx hb dX12_freeFrom_22 (by decide) ?_
          exact ih (x2 + 1) _ _ _ hG (lv_sub hl [1, 0] rfl) h
        · replace h := it c14 h
          refine lv_iload_n hx hb dX12_freeFrom_17 rfl (lv_at hl 1 rfl) ?_
          exact hret _ _ _ _ _ h rfl hG dX12_freeFrom_18
  rw [fX12_freeFrom] at h
  refine lv_iload_n hx hb dX12_freeFrom_0 rfl (lv_at hl 1 rfl) ?_
  refine lv_istore_n (lv' := [(2, .int x1), (0, .ref (am 0)), (1, .int x1)]) hx hb dX12_freeFrom_1 rfl hl (by decide) rfl (fun ls hl => ?_)
  exact K2 N x1 _ _ _ hG (lv_sub hl [1, 0] rfl) h
set_option maxHeartbeats 4000000 in
set_option maxRecDepth 100000 in
theorem c_X12_manyFree (l : Launch) (E : GE) (am : Nat → Nat) (N : Nat) (mm : RS) {res : Int32} (h : fX12_manyFree N mm = some res) : gMi l E yX12_manyFree cX12_manyFree 3 .int 1 0 0 [.ref (am 0)] (rM E am mm ++ []) (rM E am mm ++ []) res := by
  refine gMi_of (own := RX12) (by decide +kernel) rfl (Nat.le_of_ble_eq_true rfl) ?_
  intro p e s m args below meth c A ls Q H locs C hz hl hG hret
  have hx := C.1.1
  have hb := C.1.2.1
  have hts := C.1.2.2.2.2
  have hown := C.1.2.2.2.1
  have hl : lv_has ls 3 [(0, .ref (am 0))] := hl
  replace hret : ∀ (r0 : Int32) (H : Heap) (locs : List Loc) (pc : Nat) (ls' : Array Slot), some r0 = some res → narrow .int (.int r0) = .int r0 → gG E A s.heap (rM E am mm ++ []) H locs → decode cX12_manyFree pc = .ok (.ireturn, 1) → W p l e (rmD 1 0 0) s m args below meth c H locs 0 0 Q (F0 m pc ls' [.int r0]) := by
    intro r0 H locs pc ls' e0 hn; cases e0; exact hret H locs pc ls' hn
  have K31 : ∀ (k5 : (Int32 → Int32 → Option (Int32))) (hk5 : ∀  (x1 : Int32) (x2 : Int32) (H : Heap) (locs : List Loc) (ls : Array Slot), gG E A s.heap (rM E am mm ++ []) H locs → lv_has ls 3 [(0, .ref (am 0)), (1, .int x1), (2, .int x2)] → k5 x1 x2 = some res → W p l e (rmD 1 0 0) s m args below meth c H locs 0 0 Q (F0 m 5 ls [])), ∀  (x2 : Int32) (s0 : Int32) (s1 : Int32) (H : Heap) (locs : List Loc) (ls : Array Slot), gG E A s.heap (rM E am mm ++ []) H locs → lv_has ls 3 [(0, .ref (am 0)), (2, .int x2)] → fX12_manyFree_L31 N mm k5 x2 s0 s1 = some res → W p l e (rmD 1 0 0) s m args below meth c H locs 0 0 Q (F0 m 31 ls [.int s1, .int s0]) := by
    intro k5 hk5 x2 s0 s1 H locs ls hG hl h
    rw [fX12_manyFree_L31] at h
    refine lv_isub hx hb dX12_manyFree_31 ?_
    obtain ⟨x1_1, ex1_1, h⟩ := thn_some h
    refine g_int ex1_1 ?_
    refine lv_istore_n (lv' := [(1, .int x1_1), (0, .ref (am 0)), (2, .int x2)]) hx hb dX12_manyFree_32 rfl hl (by decide) rfl (fun ls hl => ?_)
    refine lv_iinc (v := (x2 + 1)) (lv' := [(2, .int (x2 + 1)), (1, .int x1_1), (0, .ref (am 0))]) hx hb dX12_manyFree_33 hl (k := 2) rfl (congrArg (x2 + ·) (by decide : Int32.ofInt 1 = 1)) (by decide) rfl (fun ls hl => ?_)
    refine lv_goto (tgt := 5) hx hb dX12_manyFree_36 (by decide) ?_
    exact hk5 x1_1 (x2 + 1) _ _ _ hG (lv_sub hl [2, 1, 0] rfl) h
  have K5 : ∀ (k : Nat), ∀  (x1 : Int32) (x2 : Int32) (H : Heap) (locs : List Loc) (ls : Array Slot), gG E A s.heap (rM E am mm ++ []) H locs → lv_has ls 3 [(0, .ref (am 0)), (1, .int x1), (2, .int x2)] → fX12_manyFree_L5 N mm k x1 x2 = some res → W p l e (rmD 1 0 0) s m args below meth c H locs 0 0 Q (F0 m 5 ls []) := by
    intro k
    induction k with
    | zero => intro x1 x2 H locs ls hG hl h; exact absurd (show none = _ from h) (by simp)
    | succ k ih =>
      intro x1 x2 H locs ls hG hl h
      rw [fX12_manyFree_L5] at h
      refine lv_iload_n hx hb dX12_manyFree_5 rfl (lv_at hl 2 rfl) ?_
      refine lv_bipush (v := 23) hx hb dX12_manyFree_6 (by decide) ?_
      refine lv_icmp_ge (tgt := 39) hx hb dX12_manyFree_8 (by decide) (fun c8 => ?_) (fun c8 => ?_)
      · replace h := it c8 h
        refine lv_iload_n hx hb dX12_manyFree_39 rfl (lv_at hl 1 rfl) ?_
        exact hret _ _ _ _ _ h rfl hG dX12_manyFree_40
      · replace h := ie c8 h
        refine lv_iload_n hx hb dX12_manyFree_11 rfl (lv_at hl 1 rfl) ?_
        refine lv_aload_n hx hb dX12_manyFree_12 rfl (lv_at hl 0 rfl) ?_
        refine gL_f (v := .ref (am 1)) C hG kX12 0 0 rfl (by decide) rfl q1352 rfl dX12_manyFree_13 ?_
        refine lv_sipush (v := 139) hx hb dX12_manyFree_16 (by decide) ?_
        refine lv_iload_n hx hb dX12_manyFree_19 rfl (lv_at hl 2 rfl) ?_
        refine lv_iadd hx hb dX12_manyFree_20 ?_
        obtain ⟨b1, h⟩ := ck_some h
        refine gL_i (v := (mm 1 (139 + x2).toNatClampNeg)) C hG 1 rfl (inb_in b1) rfl dX12_manyFree_21 ?_
        refine lv_iconst (v := (-1)) hx hb dX12_manyFree_22 (by decide) ?_
        refine lv_icmp_ne (tgt := 30) hx hb dX12_manyFree_23 (by decide) (fun c23 => ?_) (fun c23 => ?_)
        · replace h := ie c23 h
          refine lv_iconst (v := 1) hx hb dX12_manyFree_30 (by decide) ?_
          exact K31 _ ih x2 x1 1 _ _ _ hG (lv_sub hl [0, 2] rfl) h
        · replace h := it c23 h
          refine lv_iconst (v := 0) hx hb dX12_manyFree_26 (by decide) ?_
          refine lv_goto (tgt := 31) hx hb dX12_manyFree_27 (by decide) ?_
          exact K31 _ ih x2 x1 0 _ _ _ hG (lv_sub hl [0, 2] rfl) h
  rw [fX12_manyFree] at h
  refine lv_bipush (v := 9) hx hb dX12_manyFree_0 (by decide) ?_
  refine lv_istore_n (lv' := [(1, .int 9), (0, .ref (am 0))]) hx hb dX12_manyFree_2 rfl hl (by decide) rfl (fun ls hl => ?_)
  refine lv_iconst (v := 0) hx hb dX12_manyFree_3 (by decide) ?_
  refine lv_istore_n (lv' := [(2, .int 0), (1, .int 9), (0, .ref (am 0))]) hx hb dX12_manyFree_4 rfl hl (by decide) rfl (fun ls hl => ?_)
  exact K5 N 9 0 _ _ _ hG (lv_sub hl [2, 1, 0] rfl) h
set_option maxHeartbeats 4000000 in
set_option maxRecDepth 100000 in
theorem c_X12_dropMove (l : Launch) (E : GE) (am : Nat → Nat) (N : Nat) (x1 : Int32) (mm : RS) {res : RS} (h : fX12_dropMove N x1 mm = some res) : gMv l E yX12_dropMove cX12_dropMove 4 3 0 0 [.ref (am 0), .int x1] (rM E am mm ++ []) (rM E am res ++ []) := by
  refine gMv_of (own := RX12) (by decide +kernel) rfl (Nat.le_of_ble_eq_true rfl) ?_
  intro p e s m args below meth c A ls Q H locs C hz hl hG hin hret
  have hx := C.1.1
  have hb := C.1.2.1
  have hts := C.1.2.2.2.2
  have hown := C.1.2.2.2.1
  have hl : lv_has ls 4 [(0, .ref (am 0)), (1, .int x1)] := hl
  replace hret : ∀ (mm0 : RS) (H : Heap) (locs : List Loc) (pc : Nat) (ls' : Array Slot), some mm0 = some res → gG E A s.heap (rM E am mm0 ++ []) H locs → decode cX12_dropMove pc = .ok (.return_, 1) → W p l e (rmD 3 0 0) s m args below meth c H locs 0 0 Q (F0 m pc ls' []) := by
    intro mm0 H locs pc ls' e0; cases e0; exact hret H locs pc ls'
  have K24 : ∀  (x2 : Int32) (x3 : Int32) (mm : RS) (H : Heap) (locs : List Loc) (ls : Array Slot), gG E A s.heap (rM E am mm ++ []) H locs → lv_has ls 4 [(0, .ref (am 0)), (1, .int x1), (2, .int x2), (3, .int x3)] → fX12_dropMove_L24 N x1 x2 x3 mm = some res → W p l e (rmD 3 0 0) s m args below meth c H locs 0 0 Q (F0 m 24 ls []) := by
    intro x2 x3 mm H locs ls hG hl h
    rw [fX12_dropMove_L24] at h
    refine lv_aload_n hx hb dX12_dropMove_24 rfl (lv_at hl 0 rfl) ?_
    refine lv_iload_n hx hb dX12_dropMove_25 rfl (lv_at hl 1 rfl) ?_
    obtain ⟨r1, hcr1, h⟩ := bnd_some h
    refine gF_v (ws' := (rM E am r1 ++ [])) C hG (pin pnil) (List.Perm.symm (pin pnil)) (gR_V (As := [.int x1]) (rest := []) C hz hl.1 hG (pin pnil) (c_X12_outMove l E am N x1 mm hcr1 H.size) okX12_outMove q1630 0 rfl rfl rfl (Nat.le_of_ble_eq_true rfl) (by omega) ⟨Nat.le_refl _, Nat.le_refl _⟩ dX12_dropMove_26) (fun H locs hG => ?_)
    refine lv_aload_n hx hb dX12_dropMove_29 rfl (lv_at hl 0 rfl) ?_
    refine lv_iconst (v := 2) hx hb dX12_dropMove_30 (by decide) ?_
    refine lv_iload_n hx hb dX12_dropMove_31 rfl (lv_at hl 2 rfl) ?_
    refine lv_iload_n hx hb dX12_dropMove_32 rfl (lv_at hl 3 rfl) ?_
    obtain ⟨r2, hcr2, h⟩ := bnd_some h
    refine gF_v (ws' := (rM E am r2 ++ [])) C hG (pin pnil) (List.Perm.symm (pin pnil)) (gR_V (As := [.int 2, .int x2, .int x3]) (rest := []) C hz hl.1 hG (pin pnil) (c_X12_writeDown l E am N 2 x2 x3 r1 hcr2 H.size) okX12_writeDown q1598 0 rfl rfl rfl (Nat.le_of_ble_eq_true rfl) (by omega) ⟨Nat.le_refl _, Nat.le_refl _⟩ dX12_dropMove_33) (fun H locs hG => ?_)
    exact hret _ _ _ _ _ h hG dX12_dropMove_36
  rw [fX12_dropMove] at h
  refine lv_aload_n hx hb dX12_dropMove_0 rfl (lv_at hl 0 rfl) ?_
  refine lv_iload_n hx hb dX12_dropMove_1 rfl (lv_at hl 1 rfl) ?_
  refine lv_iconst (v := 0) hx hb dX12_dropMove_2 (by decide) ?_
  obtain ⟨r1, hcr1, h⟩ := bnd_some h
  refine gF_i (ws' := (rM E am mm ++ [])) C hG (pin pnil) (List.Perm.symm (pin pnil)) (gR_V (As := [.int x1, .int 0]) (rest := []) C hz hl.1 hG (pin pnil) (c_X12_ofMove l E am N x1 0 mm hcr1 H.size) okX12_ofMove q1622 0 rfl rfl rfl (Nat.le_of_ble_eq_true rfl) (by omega) ⟨Nat.le_refl _, Nat.le_refl _⟩ dX12_dropMove_3) (fun H locs _ hG => ?_)
  refine lv_istore_n (lv' := [(2, .int r1), (0, .ref (am 0)), (1, .int x1)]) hx hb dX12_dropMove_6 rfl hl (by decide) rfl (fun ls hl => ?_)
  refine lv_aload_n hx hb dX12_dropMove_7 rfl (lv_at hl 1 rfl) ?_
  refine lv_iload_n hx hb dX12_dropMove_8 rfl (lv_at hl 2 rfl) ?_
  refine lv_iconst (v := 1) hx hb dX12_dropMove_9 (by decide) ?_
  obtain ⟨r2, hcr2, h⟩ := bnd_some h
  refine gF_i (ws' := (rM E am mm ++ [])) C hG (pin pnil) (List.Perm.symm (pin pnil)) (gR_V (As := [.int x1, .int 1]) (rest := []) C hz hl.1 hG (pin pnil) (c_X12_ofMove l E am N x1 1 mm hcr2 H.size) okX12_ofMove q1622 0 rfl rfl rfl (Nat.le_of_ble_eq_true rfl) (by omega) ⟨Nat.le_refl _, Nat.le_refl _⟩ dX12_dropMove_10) (fun H locs _ hG => ?_)
  refine lv_istore_n (lv' := [(3, .int r2), (2, .int r1), (0, .ref (am 0)), (1, .int x1)]) hx hb dX12_dropMove_13 rfl hl (by decide) rfl (fun ls hl => ?_)
  refine lv_iload_n hx hb dX12_dropMove_14 rfl (lv_at hl 0 rfl) ?_
  refine lv_iconst (v := 1) hx hb dX12_dropMove_15 (by decide) ?_
  refine lv_icmp_ne (tgt := 24) hx hb dX12_dropMove_16 (by decide) (fun c16 => ?_) (fun c16 => ?_)
  · replace h := ie c16 h
    exact K24 r1 r2 mm _ _ _ hG (lv_sub hl [2, 3, 1, 0] rfl) h
  · replace h := it c16 h
    refine lv_aload_n hx hb dX12_dropMove_19 rfl (lv_at hl 2 rfl) ?_
    refine lv_iload_n hx hb dX12_dropMove_20 rfl (lv_at hl 1 rfl) ?_
    obtain ⟨r3, hcr3, h⟩ := bnd_some h
    refine gF_v (ws' := (rM E am r3 ++ [])) C hG (pin pnil) (List.Perm.symm (pin pnil)) (gR_V (As := [.int r1]) (rest := []) C hz hl.1 hG (pin pnil) (c_X12_freeSlots l E am N r1 mm hcr3 H.size) okX12_freeSlots q1626 0 rfl rfl rfl (Nat.le_of_ble_eq_true rfl) (by omega) ⟨Nat.le_refl _, Nat.le_refl _⟩ dX12_dropMove_21) (fun H locs hG => ?_)
    exact K24 r1 r2 r3 _ _ _ hG (lv_sub hl [2, 3, 1, 0] rfl) h
set_option maxHeartbeats 4000000 in
set_option maxRecDepth 100000 in
theorem c_X12_toCopy (l : Launch) (E : GE) (am : Nat → Nat) (N : Nat) (x1 : Int32) (mm : RS) {res : Int32} (h : fX12_toCopy N x1 mm = some res) : gMi l E yX12_toCopy cX12_toCopy 3 .int 2 0 0 [.ref (am 0), .int x1] (rM E am mm ++ []) (rM E am mm ++ []) res := by
  refine gMi_of (own := RX12) (by decide +kernel) rfl (Nat.le_of_ble_eq_true rfl) ?_
  intro p e s m args below meth c A ls Q H locs C hz hl hG hret
  have hx := C.1.1
  have hb := C.1.2.1
  have hts := C.1.2.2.2.2
  have hown := C.1.2.2.2.1
  have hl : lv_has ls 3 [(0, .ref (am 0)), (1, .int x1)] := hl
  replace hret : ∀ (r0 : Int32) (H : Heap) (locs : List Loc) (pc : Nat) (ls' : Array Slot), some r0 = some res → narrow .int (.int r0) = .int r0 → gG E A s.heap (rM E am mm ++ []) H locs → decode cX12_toCopy pc = .ok (.ireturn, 1) → W p l e (rmD 2 0 0) s m args below meth c H locs 0 0 Q (F0 m pc ls' [.int r0]) := by
    intro r0 H locs pc ls' e0 hn; cases e0; exact hret H locs pc ls' hn
  rw [fX12_toCopy] at h
  refine lv_aload_n hx hb dX12_toCopy_0 rfl (lv_at hl 0 rfl) ?_
  refine lv_iload_n hx hb dX12_toCopy_1 rfl (lv_at hl 1 rfl) ?_
  refine lv_iconst (v := 0) hx hb dX12_toCopy_2 (by decide) ?_
  obtain ⟨r1, hcr1, h⟩ := bnd_some h
  refine gF_i (ws' := (rM E am mm ++ [])) C hG (pin pnil) (List.Perm.symm (pin pnil)) (gR_V (As := [.int x1, .int 0]) (rest := []) C hz hl.1 hG (pin pnil) (c_X12_ofMove l E am N x1 0 mm hcr1 H.size) okX12_ofMove q1622 0 rfl rfl rfl (Nat.le_of_ble_eq_true rfl) (by omega) ⟨Nat.le_refl _, Nat.le_refl _⟩ dX12_toCopy_3) (fun H locs _ hG => ?_)
  refine lv_istore_n (lv' := [(2, .int r1), (0, .ref (am 0)), (1, .int x1)]) hx hb dX12_toCopy_6 rfl hl (by decide) rfl (fun ls hl => ?_)
  refine lv_aload_n hx hb dX12_toCopy_7 rfl (lv_at hl 1 rfl) ?_
  refine lv_iload_n hx hb dX12_toCopy_8 rfl (lv_at hl 2 rfl) ?_
  refine lv_iconst (v := 1) hx hb dX12_toCopy_9 (by decide) ?_
  obtain ⟨r2, hcr2, h⟩ := bnd_some h
  refine gF_i (ws' := (rM E am mm ++ [])) C hG (pin pnil) (List.Perm.symm (pin pnil)) (gR_V (As := [.int x1, .int 1]) (rest := []) C hz hl.1 hG (pin pnil) (c_X12_ofMove l E am N x1 1 mm hcr2 H.size) okX12_ofMove q1622 0 rfl rfl rfl (Nat.le_of_ble_eq_true rfl) (by omega) ⟨Nat.le_refl _, Nat.le_refl _⟩ dX12_toCopy_10) (fun H locs _ hG => ?_)
  refine lv_if_ne (tgt := 28) hx hb dX12_toCopy_13 (by decide) (fun c13 => ?_) (fun c13 => ?_)
  · replace h := ie c13 h
    refine lv_iconst (v := 1) hx hb dX12_toCopy_28 (by decide) ?_
    refine lv_iload_n hx hb dX12_toCopy_29 rfl (lv_at hl 0 rfl) ?_
    refine gF_i (ws' := (rM E am mm ++ [])) C hG pst pst.symm (gR_S (As := [.int r1]) (rest := [.int 1]) C hz hl.1 hG pst (c_X12_sizeOf l E r1 rfl H.size) okX12_sizeOf q1536 rfl (Nat.le_of_ble_eq_true rfl) (by omega) ⟨Nat.le_refl _, Nat.le_refl _⟩ dX12_toCopy_30) (fun H locs _ hG => ?_)
    refine lv_ishl hx hb dX12_toCopy_33 ?_
    refine lv_iconst (v := 1) hx hb dX12_toCopy_34 (by decide) ?_
    refine lv_isub hx hb dX12_toCopy_35 ?_
    refine lv_aload_n hx hb dX12_toCopy_36 rfl (lv_at hl 1 rfl) ?_
    refine lv_iload_n hx hb dX12_toCopy_37 rfl (lv_at hl 2 rfl) ?_
    refine lv_iconst (v := 3) hx hb dX12_toCopy_38 (by decide) ?_
    obtain ⟨r3, hcr3, h⟩ := bnd_some h
    refine gF_i (ws' := (rM E am mm ++ [])) C hG (pin pnil) (List.Perm.symm (pin pnil)) (gR_V (As := [.int x1, .int 3]) (rest := [.int ((1 <<< (((fX12_sizeOf r1) : Int32) &&& 31)) - 1)]) C hz hl.1 hG (pin pnil) (c_X12_ofMove l E am N x1 3 mm hcr3 H.size) okX12_ofMove q1622 0 rfl rfl rfl (Nat.le_of_ble_eq_true rfl) (by omega) ⟨Nat.le_refl _, Nat.le_refl _⟩ dX12_toCopy_39) (fun H locs _ hG => ?_)
    refine lv_iconst (v := (-1)) hx hb dX12_toCopy_42 (by decide) ?_
    refine lv_ixor hx hb dX12_toCopy_43 ?_
    refine lv_iand hx hb dX12_toCopy_44 ?_
    exact hret _ _ _ _ _ h rfl hG dX12_toCopy_45
  · replace h := it c13 h
    refine lv_aload_n hx hb dX12_toCopy_16 rfl (lv_at hl 1 rfl) ?_
    refine gL_f (v := .ref (am 1)) C hG kX12 0 0 rfl (by decide) rfl q1352 rfl dX12_toCopy_17 ?_
    refine lv_bipush (v := 79) hx hb dX12_toCopy_20 (by decide) ?_
    refine lv_iload_n hx hb dX12_toCopy_22 rfl (lv_at hl 0 rfl) ?_
    refine lv_iadd hx hb dX12_toCopy_23 ?_
    obtain ⟨b4, h⟩ := ck_some h
    refine gL_i (v := (mm 1 (79 + r1).toNatClampNeg)) C hG 1 rfl (inb_in b4) rfl dX12_toCopy_24 ?_
    refine lv_goto (tgt := 45) hx hb dX12_toCopy_25 (by decide) ?_
    exact hret _ _ _ _ _ h rfl hG dX12_toCopy_45
set_option maxHeartbeats 4000000 in
set_option maxRecDepth 100000 in
theorem c_X12_isBegun (l : Launch) (E : GE) (am : Nat → Nat) (N : Nat) (x1 : Int32) (mm : RS) {res : Int32 × RS} (h : fX12_isBegun N x1 mm = some res) : gMi l E yX12_isBegun cX12_isBegun 4 .boolean 3 0 0 [.ref (am 0), .int x1] (rM E am mm ++ []) (rM E am res.2 ++ []) res.1 := by
  refine gMi_of (own := RX12) (by decide +kernel) rfl (Nat.le_of_ble_eq_true rfl) ?_
  intro p e s m args below meth c A ls Q H locs C hz hl hG hret
  have hx := C.1.1
  have hb := C.1.2.1
  have hts := C.1.2.2.2.2
  have hown := C.1.2.2.2.1
  have hl : lv_has ls 4 [(0, .ref (am 0)), (1, .int x1)] := hl
  replace hret : ∀ (r0 : Int32) (mm0 : RS) (H : Heap) (locs : List Loc) (pc : Nat) (ls' : Array Slot), some (r0, mm0) = some res → narrow .boolean (.int r0) = .int r0 → gG E A s.heap (rM E am mm0 ++ []) H locs → decode cX12_isBegun pc = .ok (.ireturn, 1) → W p l e (rmD 3 0 0) s m args below meth c H locs 0 0 Q (F0 m pc ls' [.int r0]) := by
    intro r0 mm0 H locs pc ls' e0 hn; cases e0; exact hret H locs pc ls' hn
  have K78 : ∀  (x2 : Int32) (mm : RS) (H : Heap) (locs : List Loc) (ls : Array Slot), gG E A s.heap (rM E am mm ++ []) H locs → lv_has ls 4 [(0, .ref (am 0)), (1, .int x1), (2, .int x2)] → fX12_isBegun_L78 N x1 x2 mm = some res → W p l e (rmD 3 0 0) s m args below meth c H locs 0 0 Q (F0 m 78 ls []) := by
    intro x2 mm H locs ls hG hl h
    rw [fX12_isBegun_L78] at h
    refine lv_aload_n hx hb dX12_isBegun_78 rfl (lv_at hl 0 rfl) ?_
    refine gL_f (v := .ref (am 1)) C hG kX12 0 0 rfl (by decide) rfl q1352 rfl dX12_isBegun_79 ?_
    refine lv_sipush (v := 200) hx hb dX12_isBegun_82 (by decide) ?_
    refine lv_iconst (v := 4) hx hb dX12_isBegun_85 (by decide) ?_
    refine lv_iload_n hx hb dX12_isBegun_86 rfl (lv_at hl 1 rfl) ?_
    refine lv_imul hx hb dX12_isBegun_87 ?_
    refine lv_iadd hx hb dX12_isBegun_88 ?_
    refine lv_iconst (v := 2) hx hb dX12_isBegun_89 (by decide) ?_
    refine lv_iadd hx hb dX12_isBegun_90 ?_
    refine lv_iconst (v := 1) hx hb dX12_isBegun_91 (by decide) ?_
    obtain ⟨b1, h⟩ := ck_some h
    obtain ⟨mm_2, emm_2, h⟩ := thn_some h
    refine gS_i (x := 1) (ws' := (rM E am mm_2 ++ [])) C hG 1 rfl (inb_in b1) rfl dX12_isBegun_92 (by rw [emm_2]; rfl) (fun H locs hG => ?_)
    refine lv_aload_n hx hb dX12_isBegun_93 rfl (lv_at hl 0 rfl) ?_
    refine lv_iconst (v := 0) hx hb dX12_isBegun_94 (by decide) ?_
    refine lv_iload_n hx hb dX12_isBegun_95 rfl (lv_at hl 2 rfl) ?_
    refine lv_aload_n hx hb dX12_isBegun_96 rfl (lv_at hl 0 rfl) ?_
    refine lv_iload_n hx hb dX12_isBegun_97 rfl (lv_at hl 1 rfl) ?_
    refine lv_iconst (v := 1) hx hb dX12_isBegun_98 (by decide) ?_
    obtain ⟨r3, hcr3, h⟩ := bnd_some h
    refine gF_i (ws' := (rM E am mm_2 ++ [])) C hG (pin pnil) (List.Perm.symm (pin pnil)) (gR_V (As := [.int x1, .int 1]) (rest := [.int x2, .int 0, .ref (am 0)]) C hz hl.1 hG (pin pnil) (c_X12_ofMove l E am N x1 1 mm_2 hcr3 H.size) okX12_ofMove q1622 0 rfl rfl rfl (Nat.le_of_ble_eq_true rfl) (by omega) ⟨Nat.le_refl _, Nat.le_refl _⟩ dX12_isBegun_99) (fun H locs _ hG => ?_)
    obtain ⟨r4, hcr4, h⟩ := bnd_some h
    refine gF_v (ws' := (rM E am r4 ++ [])) C hG (pin pnil) (List.Perm.symm (pin pnil)) (gR_V (As := [.int 0, .int x2, .int r3]) (rest := []) C hz hl.1 hG (pin pnil) (c_X12_writeDown l E am N 0 x2 r3 mm_2 hcr4 H.size) okX12_writeDown q1598 0 rfl rfl rfl (Nat.le_of_ble_eq_true rfl) (by omega) ⟨Nat.le_refl _, Nat.le_refl _⟩ dX12_isBegun_102) (fun H locs hG => ?_)
    refine lv_iconst (v := 1) hx hb dX12_isBegun_105 (by decide) ?_
    exact hret _ _ _ _ _ _ h rfl hG dX12_isBegun_106
  have K44 : ∀ (k : Nat), ∀  (x2 : Int32) (x3 : Int32) (mm : RS) (H : Heap) (locs : List Loc) (ls : Array Slot), gG E A s.heap (rM E am mm ++ []) H locs → lv_has ls 4 [(0, .ref (am 0)), (1, .int x1), (2, .int x2), (3, .int x3)] → fX12_isBegun_L44 N x1 k x2 x3 mm = some res → W p l e (rmD 3 0 0) s m args below meth c H locs 0 0 Q (F0 m 44 ls []) := by
    intro k
    induction k with
    | zero => intro x2 x3 mm H locs ls hG hl h; exact absurd (show none = _ from h) (by simp)
    | succ k ih =>
      intro x2 x3 mm H locs ls hG hl h
      rw [fX12_isBegun_L44] at h
      refine lv_iload_n hx hb dX12_isBegun_44 rfl (lv_at hl 3 rfl) ?_
      refine lv_iload_n hx hb dX12_isBegun_45 rfl (lv_at hl 2 rfl) ?_
      refine gF_i (ws' := (rM E am mm ++ [])) C hG pst pst.symm (gR_S (As := [.int x2]) (rest := [.int x3]) C hz hl.1 hG pst (c_X12_sizeOf l E x2 rfl H.size) okX12_sizeOf q1536 rfl (Nat.le_of_ble_eq_true rfl) (by omega) ⟨Nat.le_refl _, Nat.le_refl _⟩ dX12_isBegun_46) (fun H locs _ hG => ?_)
      refine lv_icmp_ge (tgt := 78) hx hb dX12_isBegun_49 (by decide) (fun c49 => ?_) (fun c49 => ?_)
      · replace h := it c49 h
        exact K78 x2 mm _ _ _ hG (lv_sub hl [0, 1, 2] rfl) h
      · replace h := ie c49 h
        refine lv_aload_n hx hb dX12_isBegun_52 rfl (lv_at hl 0 rfl) ?_
        refine gL_f (v := .ref (am 1)) C hG kX12 0 0 rfl (by decide) rfl q1352 rfl dX12_isBegun_53 ?_
        refine lv_sipush (v := 139) hx hb dX12_isBegun_56 (by decide) ?_
        refine lv_iload_n hx hb dX12_isBegun_59 rfl (lv_at hl 2 rfl) ?_
        refine gF_i (ws' := (rM E am mm ++ [])) C hG pst pst.symm (gR_S (As := [.int x2]) (rest := [.int 139, .ref (am 1)]) C hz hl.1 hG pst (c_X12_firstOf l E x2 rfl H.size) okX12_firstOf q1555 rfl (Nat.le_of_ble_eq_true rfl) (by omega) ⟨Nat.le_refl _, Nat.le_refl _⟩ dX12_isBegun_60) (fun H locs _ hG => ?_)
        refine lv_iadd hx hb dX12_isBegun_63 ?_
        refine lv_iload_n hx hb dX12_isBegun_64 rfl (lv_at hl 3 rfl) ?_
        refine lv_iadd hx hb dX12_isBegun_65 ?_
        refine lv_aload_n hx hb dX12_isBegun_66 rfl (lv_at hl 0 rfl) ?_
        refine lv_iconst (v := 0) hx hb dX12_isBegun_67 (by decide) ?_
        obtain ⟨r1, hcr1, h⟩ := bnd_some h
        refine gF_i (ws' := (rM E am mm ++ [])) C hG (pin pnil) (List.Perm.symm (pin pnil)) (gR_V (As := [.int 0]) (rest := [.int ((139 + (fX12_firstOf x2)) + x3), .ref (am 1)]) C hz hl.1 hG (pin pnil) (c_X12_freeFrom l E am N 0 mm hcr1 H.size) okX12_freeFrom q1658 0 rfl rfl rfl (Nat.le_of_ble_eq_true rfl) (by omega) ⟨Nat.le_refl _, Nat.le_refl _⟩ dX12_isBegun_68) (fun H locs _ hG => ?_)
        obtain ⟨b2, h⟩ := ck_some h
        obtain ⟨mm_3, emm_3, h⟩ := thn_some h
        refine gS_i (x := r1) (ws' := (rM E am mm_3 ++ [])) C hG 1 rfl (inb_in b2) rfl dX12_isBegun_71 (by rw [emm_3]; rfl) (fun H locs hG => ?_)
        refine lv_iinc (v := (x3 + 1)) (lv' := [(3, .int (x3 + 1)), (0, .ref (am 0)), (1, .int x1), (2, .int x2)]) hx hb dX12_isBegun_72 hl (k := 3) rfl (congrArg (x3 + ·) (by decide : Int32.ofInt 1 = 1)) (by decide) rfl (fun ls hl => ?_)
        refine lv_goto (tgt := 44) hx hb dX12_isBegun_75 (by decide) ?_
        exact ih x2 (x3 + 1) mm_3 _ _ _ hG (lv_sub hl [1, 2, 3, 0] rfl) h
  rw [fX12_isBegun] at h
  refine lv_aload_n hx hb dX12_isBegun_0 rfl (lv_at hl 0 rfl) ?_
  refine lv_iload_n hx hb dX12_isBegun_1 rfl (lv_at hl 1 rfl) ?_
  refine lv_iconst (v := 2) hx hb dX12_isBegun_2 (by decide) ?_
  obtain ⟨r1, hcr1, h⟩ := bnd_some h
  refine gF_i (ws' := (rM E am mm ++ [])) C hG (pin pnil) (List.Perm.symm (pin pnil)) (gR_V (As := [.int x1, .int 2]) (rest := []) C hz hl.1 hG (pin pnil) (c_X12_ofMove l E am N x1 2 mm hcr1 H.size) okX12_ofMove q1622 0 rfl rfl rfl (Nat.le_of_ble_eq_true rfl) (by omega) ⟨Nat.le_refl _, Nat.le_refl _⟩ dX12_isBegun_3) (fun H locs _ hG => ?_)
  refine lv_iconst (v := 1) hx hb dX12_isBegun_6 (by decide) ?_
  refine lv_icmp_ne (tgt := 12) hx hb dX12_isBegun_7 (by decide) (fun c7 => ?_) (fun c7 => ?_)
  · replace h := ie c7 h
    refine lv_aload_n hx hb dX12_isBegun_12 rfl (lv_at hl 0 rfl) ?_
    refine lv_iload_n hx hb dX12_isBegun_13 rfl (lv_at hl 1 rfl) ?_
    refine lv_iconst (v := 0) hx hb dX12_isBegun_14 (by decide) ?_
    obtain ⟨r2, hcr2, h⟩ := bnd_some h
    refine gF_i (ws' := (rM E am mm ++ [])) C hG (pin pnil) (List.Perm.symm (pin pnil)) (gR_V (As := [.int x1, .int 0]) (rest := []) C hz hl.1 hG (pin pnil) (c_X12_ofMove l E am N x1 0 mm hcr2 H.size) okX12_ofMove q1622 0 rfl rfl rfl (Nat.le_of_ble_eq_true rfl) (by omega) ⟨Nat.le_refl _, Nat.le_refl _⟩ dX12_isBegun_15) (fun H locs _ hG => ?_)
    refine lv_istore_n (lv' := [(2, .int r2), (0, .ref (am 0)), (1, .int x1)]) hx hb dX12_isBegun_18 rfl hl (by decide) rfl (fun ls hl => ?_)
    refine lv_aload_n hx hb dX12_isBegun_19 rfl (lv_at hl 1 rfl) ?_
    refine lv_iload_n hx hb dX12_isBegun_20 rfl (lv_at hl 2 rfl) ?_
    refine lv_iconst (v := 1) hx hb dX12_isBegun_21 (by decide) ?_
    obtain ⟨r3, hcr3, h⟩ := bnd_some h
    refine gF_i (ws' := (rM E am mm ++ [])) C hG (pin pnil) (List.Perm.symm (pin pnil)) (gR_V (As := [.int x1, .int 1]) (rest := []) C hz hl.1 hG (pin pnil) (c_X12_ofMove l E am N x1 1 mm hcr3 H.size) okX12_ofMove q1622 0 rfl rfl rfl (Nat.le_of_ble_eq_true rfl) (by omega) ⟨Nat.le_refl _, Nat.le_refl _⟩ dX12_isBegun_22) (fun H locs _ hG => ?_)
    refine lv_iconst (v := 1) hx hb dX12_isBegun_25 (by decide) ?_
    refine lv_icmp_ne (tgt := 78) hx hb dX12_isBegun_26 (by decide) (fun c26 => ?_) (fun c26 => ?_)
    · replace h := ie c26 h
      exact K78 r2 mm _ _ _ hG (lv_sub hl [1, 2, 0] rfl) h
    · replace h := it c26 h
      refine lv_aload_n hx hb dX12_isBegun_29 rfl (lv_at hl 1 rfl) ?_
      obtain ⟨r4, hcr4, h⟩ := bnd_some h
      refine gF_i (ws' := (rM E am mm ++ [])) C hG (pin pnil) (List.Perm.symm (pin pnil)) (gR_V (As := []) (rest := []) C hz hl.1 hG (pin pnil) (c_X12_manyFree l E am N mm hcr4 H.size) okX12_manyFree q1654 0 rfl rfl rfl (Nat.le_of_ble_eq_true rfl) (by omega) ⟨Nat.le_refl _, Nat.le_refl _⟩ dX12_isBegun_30) (fun H locs _ hG => ?_)
      refine lv_iload_n hx hb dX12_isBegun_33 rfl (lv_at hl 0 rfl) ?_
      refine gF_i (ws' := (rM E am mm ++ [])) C hG pst pst.symm (gR_S (As := [.int r2]) (rest := [.int r4]) C hz hl.1 hG pst (c_X12_sizeOf l E r2 rfl H.size) okX12_sizeOf q1536 rfl (Nat.le_of_ble_eq_true rfl) (by omega) ⟨Nat.le_refl _, Nat.le_refl _⟩ dX12_isBegun_34) (fun H locs _ hG => ?_)
      refine lv_icmp_ge (tgt := 42) hx hb dX12_isBegun_37 (by decide) (fun c37 => ?_) (fun c37 => ?_)
      · replace h := it c37 h
        refine lv_iconst (v := 0) hx hb dX12_isBegun_42 (by decide) ?_
        refine lv_istore_n (lv' := [(3, .int 0), (2, .int r2), (0, .ref (am 0)), (1, .int x1)]) hx hb dX12_isBegun_43 rfl hl (by decide) rfl (fun ls hl => ?_)
        exact K44 N r2 0 mm _ _ _ hG (lv_sub hl [2, 3, 1, 0] rfl) h
      · replace h := ie c37 h
        refine lv_iconst (v := 0) hx hb dX12_isBegun_40 (by decide) ?_
        exact hret _ _ _ _ _ _ h rfl hG dX12_isBegun_41
  · replace h := it c7 h
    refine lv_iconst (v := 1) hx hb dX12_isBegun_10 (by decide) ?_
    exact hret _ _ _ _ _ _ h rfl hG dX12_isBegun_11
set_option maxHeartbeats 4000000 in
set_option maxRecDepth 100000 in
theorem c_X12_copyBlock (l : Launch) (E : GE) (am : Nat → Nat) (N : Nat) (x1 : Int32) (mm : RS) {res : RS} (h : fX12_copyBlock N x1 mm = some res) : gMv l E yX12_copyBlock cX12_copyBlock 6 3 0 0 [.ref (am 0), .int x1] (rM E am mm ++ []) (rM E am res ++ []) := by
  refine gMv_of (own := RX12) (by decide +kernel) rfl (Nat.le_of_ble_eq_true rfl) ?_
  intro p e s m args below meth c A ls Q H locs C hz hl hG hin hret
  have hx := C.1.1
  have hb := C.1.2.1
  have hts := C.1.2.2.2.2
  have hown := C.1.2.2.2.1
  have hl : lv_has ls 6 [(0, .ref (am 0)), (1, .int x1)] := hl
  replace hret : ∀ (mm0 : RS) (H : Heap) (locs : List Loc) (pc : Nat) (ls' : Array Slot), some mm0 = some res → gG E A s.heap (rM E am mm0 ++ []) H locs → decode cX12_copyBlock pc = .ok (.return_, 1) → W p l e (rmD 3 0 0) s m args below meth c H locs 0 0 Q (F0 m pc ls' []) := by
    intro mm0 H locs pc ls' e0; cases e0; exact hret H locs pc ls'
  have K129 : ∀  (mm : RS) (H : Heap) (locs : List Loc) (ls : Array Slot), gG E A s.heap (rM E am mm ++ []) H locs → lv_has ls 6 [(0, .ref (am 0))] → fX12_copyBlock_L129 N x1 mm = some res → W p l e (rmD 3 0 0) s m args below meth c H locs 0 0 Q (F0 m 129 ls []) := by
    intro mm H locs ls hG hl h
    rw [fX12_copyBlock_L129] at h
    refine lv_aload_n hx hb dX12_copyBlock_129 rfl (lv_at hl 0 rfl) ?_
    refine gL_f (v := .ref (am 1)) C hG kX12 0 0 rfl (by decide) rfl q1352 rfl dX12_copyBlock_130 ?_
    refine lv_bipush (v := 6) hx hb dX12_copyBlock_133 (by decide) ?_
    refine lv_dup2_11 hx hb dX12_copyBlock_135 rfl rfl ?_
    refine gL_i (v := (mm 1 6)) C hG 1 rfl (vp_in_nI (n := 6) (by decide) (by decide)) (congrArg (mm 1) (nI_clamp (n := 6) (by decide))) dX12_copyBlock_136 ?_
    refine lv_bipush (v := 9) hx hb dX12_copyBlock_137 (by decide) ?_
    refine lv_iadd hx hb dX12_copyBlock_139 ?_
    obtain ⟨mm_1, emm_1, h⟩ := thn_some h
    refine gS_i (x := ((mm 1 6) + 9)) (ws' := (rM E am mm_1 ++ [])) C hG 1 rfl (vp_in_nI (n := 6) (by decide) (by decide)) (nI_clamp (n := 6) (by decide)) dX12_copyBlock_140 (by rw [emm_1]; rfl) (fun H locs hG => ?_)
    refine lv_aload_n hx hb dX12_copyBlock_141 rfl (lv_at hl 0 rfl) ?_
    refine gL_f (v := .ref (am 1)) C hG kX12 0 0 rfl (by decide) rfl q1352 rfl dX12_copyBlock_142 ?_
    refine lv_bipush (v := 13) hx hb dX12_copyBlock_145 (by decide) ?_
    refine lv_dup2_11 hx hb dX12_copyBlock_147 rfl rfl ?_
    refine gL_i (v := (mm_1 1 13)) C hG 1 rfl (vp_in_nI (n := 13) (by decide) (by decide)) (congrArg (mm_1 1) (nI_clamp (n := 13) (by decide))) dX12_copyBlock_148 ?_
    refine lv_iconst (v := 1) hx hb dX12_copyBlock_149 (by decide) ?_
    refine lv_iadd hx hb dX12_copyBlock_150 ?_
    obtain ⟨mm_2, emm_2, h⟩ := thn_some h
    refine gS_i (x := ((mm_1 1 13) + 1)) (ws' := (rM E am mm_2 ++ [])) C hG 1 rfl (vp_in_nI (n := 13) (by decide) (by decide)) (nI_clamp (n := 13) (by decide)) dX12_copyBlock_151 (by rw [emm_2]; rfl) (fun H locs hG => ?_)
    exact hret _ _ _ _ _ h hG dX12_copyBlock_152
  have K9 : ∀ (k : Nat), ∀  (x2 : Int32) (x3 : Int32) (mm : RS) (H : Heap) (locs : List Loc) (ls : Array Slot), gG E A s.heap (rM E am mm ++ []) H locs → lv_has ls 6 [(0, .ref (am 0)), (1, .int x1), (2, .int x2), (3, .int x3)] → fX12_copyBlock_L9 N x1 k x2 x3 mm = some res → W p l e (rmD 3 0 0) s m args below meth c H locs 0 0 Q (F0 m 9 ls []) := by
    intro k
    induction k with
    | zero => intro x2 x3 mm H locs ls hG hl h; exact absurd (show none = _ from h) (by simp)
    | succ k ih =>
      intro x2 x3 mm H locs ls hG hl h
      rw [fX12_copyBlock_L9] at h
      refine lv_aload_n hx hb dX12_copyBlock_9 rfl (lv_at hl 0 rfl) ?_
      refine lv_iload_n hx hb dX12_copyBlock_10 rfl (lv_at hl 1 rfl) ?_
      obtain ⟨r1, hcr1, h⟩ := bnd_some h
      refine gF_i (ws' := (rM E am mm ++ [])) C hG (pin pnil) (List.Perm.symm (pin pnil)) (gR_V (As := [.int x1]) (rest := []) C hz hl.1 hG (pin pnil) (c_X12_toCopy l E am N x1 mm hcr1 H.size) okX12_toCopy q1666 0 rfl rfl rfl (Nat.le_of_ble_eq_true rfl) (by omega) ⟨Nat.le_refl _, Nat.le_refl _⟩ dX12_copyBlock_11) (fun H locs _ hG => ?_)
      refine lv_iload_n hx hb dX12_copyBlock_14 rfl (lv_at hl 3 rfl) ?_
      refine gF_i (ws' := (rM E am mm ++ [])) C hG pst pst.symm (gR_S (As := [.int r1, .int x3]) (rest := []) C hz hl.1 hG pst (c_X12_has l E r1 x3 rfl H.size) okX12_has q1674 rfl (Nat.le_of_ble_eq_true rfl) (by omega) ⟨Nat.le_refl _, Nat.le_refl _⟩ dX12_copyBlock_15) (fun H locs z2 hG => ?_)
      refine lv_if_ne (tgt := 27) hx hb dX12_copyBlock_18 (by decide) (fun c18 => ?_) (fun c18 => ?_)
      · replace h := ie c18 h
        refine lv_sipush (v := 162) hx hb dX12_copyBlock_27 (by decide) ?_
        refine lv_iload_n hx hb dX12_copyBlock_30 rfl (lv_at hl 2 rfl) ?_
        refine gF_i (ws' := (rM E am mm ++ [])) C hG pst pst.symm (gR_S (As := [.int x2]) (rest := [.int 162]) C hz hl.1 hG pst (c_X12_firstOf l E x2 rfl H.size) okX12_firstOf q1555 rfl (Nat.le_of_ble_eq_true rfl) (by omega) ⟨Nat.le_refl _, Nat.le_refl _⟩ dX12_copyBlock_31) (fun H locs _ hG => ?_)
        refine lv_iadd hx hb dX12_copyBlock_34 ?_
        refine lv_iload_n hx hb dX12_copyBlock_35 rfl (lv_at hl 3 rfl) ?_
        refine lv_iadd hx hb dX12_copyBlock_36 ?_
        obtain ⟨x4_3, ex4_3, h⟩ := thn_some h
        refine g_int ex4_3 ?_
        refine lv_istore (lv' := [(4, .int x4_3), (0, .ref (am 0)), (1, .int x1), (2, .int x2), (3, .int x3)]) hx hb dX12_copyBlock_37 hl (by decide) rfl (fun ls hl => ?_)
        refine lv_sipush (v := 185) hx hb dX12_copyBlock_39 (by decide) ?_
        refine lv_aload_n hx hb dX12_copyBlock_42 rfl (lv_at hl 1 rfl) ?_
        refine lv_iload_n hx hb dX12_copyBlock_43 rfl (lv_at hl 3 rfl) ?_
        refine lv_iload_n hx hb dX12_copyBlock_44 rfl (lv_at hl 4 rfl) ?_
        obtain ⟨r4, hcr4, h⟩ := bnd_some h
        refine gF_i (ws' := (rM E am mm ++ [])) C hG (pin pnil) (List.Perm.symm (pin pnil)) (gR_V (As := [.int x2, .int x3]) (rest := [.int 185]) C hz hl.1 hG (pin pnil) (c_X12_slotOf l E am N x2 x3 mm hcr4 H.size) okX12_slotOf q1570 0 rfl rfl rfl (Nat.le_of_ble_eq_true rfl) (by omega) ⟨Nat.le_refl _, Nat.le_refl _⟩ dX12_copyBlock_45) (fun H locs _ hG => ?_)
        refine lv_iadd hx hb dX12_copyBlock_48 ?_
        obtain ⟨x5_5, ex5_5, h⟩ := thn_some h
        refine g_int ex5_5 ?_
        refine lv_istore (lv' := [(5, .int x5_5), (4, .int x4_3), (0, .ref (am 0)), (1, .int x1), (2, .int x2), (3, .int x3)]) hx hb dX12_copyBlock_49 hl (by decide) rfl (fun ls hl => ?_)
        refine lv_aload_n hx hb dX12_copyBlock_51 rfl (lv_at hl 2 rfl) ?_
        refine lv_iload_n hx hb dX12_copyBlock_52 rfl (lv_at hl 3 rfl) ?_
        refine lv_iconst (v := 1) hx hb dX12_copyBlock_53 (by decide) ?_
        obtain ⟨r6, hcr6, h⟩ := bnd_some h
        refine gF_i (ws' := (rM E am mm ++ [])) C hG (pin pnil) (List.Perm.symm (pin pnil)) (gR_V (As := [.int x1, .int 1]) (rest := []) C hz hl.1 hG (pin pnil) (c_X12_ofMove l E am N x1 1 mm hcr6 H.size) okX12_ofMove q1622 0 rfl rfl rfl (Nat.le_of_ble_eq_true rfl) (by omega) ⟨Nat.le_refl _, Nat.le_refl _⟩ dX12_copyBlock_54) (fun H locs _ hG => ?_)
        refine lv_iconst (v := 1) hx hb dX12_copyBlock_57 (by decide) ?_
        refine lv_icmp_ne (tgt := 98) hx hb dX12_copyBlock_58 (by decide) (fun c58 => ?_) (fun c58 => ?_)
        · replace h := ie c58 h
          refine lv_aload_n hx hb dX12_copyBlock_98 rfl (lv_at hl 2 rfl) ?_
          refine gL_f (v := .ref (am 1)) C hG kX12 0 0 rfl (by decide) rfl q1352 rfl dX12_copyBlock_99 ?_
          refine lv_iload hx hb dX12_copyBlock_102 (lv_at hl 1 rfl) ?_
          refine lv_aload_n hx hb dX12_copyBlock_104 rfl (lv_at hl 2 rfl) ?_
          refine gL_f (v := .ref (am 1)) C hG kX12 0 0 rfl (by decide) rfl q1352 rfl dX12_copyBlock_105 ?_
          refine lv_iload hx hb dX12_copyBlock_108 (lv_at hl 0 rfl) ?_
          obtain ⟨b7, h⟩ := ck_some h
          refine gL_i (v := (mm 1 x5_5.toNatClampNeg)) C hG 1 rfl (inb_in b7) rfl dX12_copyBlock_110 ?_
          obtain ⟨b8, h⟩ := ck_some h
          obtain ⟨mm_9, emm_9, h⟩ := thn_some h
          refine gS_i (x := (mm 1 x5_5.toNatClampNeg)) (ws' := (rM E am mm_9 ++ [])) C hG 1 rfl (inb_in b8) rfl dX12_copyBlock_111 (by rw [emm_9]; rfl) (fun H locs hG => ?_)
          refine lv_aload_n hx hb dX12_copyBlock_112 rfl (lv_at hl 2 rfl) ?_
          refine gL_f (v := .ref (am 1)) C hG kX12 0 0 rfl (by decide) rfl q1352 rfl dX12_copyBlock_113 ?_
          refine lv_bipush (v := 79) hx hb dX12_copyBlock_116 (by decide) ?_
          refine lv_iload_n hx hb dX12_copyBlock_118 rfl (lv_at hl 4 rfl) ?_
          refine lv_iadd hx hb dX12_copyBlock_119 ?_
          refine lv_dup2_11 hx hb dX12_copyBlock_120 rfl rfl ?_
          obtain ⟨b10, h⟩ := ck_some h
          refine gL_i (v := (mm_9 1 (79 + x2).toNatClampNeg)) C hG 1 rfl (inb_in b10) rfl dX12_copyBlock_121 ?_
          refine lv_iconst (v := 1) hx hb dX12_copyBlock_122 (by decide) ?_
          refine lv_iload_n hx hb dX12_copyBlock_123 rfl (lv_at hl 5 rfl) ?_
          refine lv_ishl hx hb dX12_copyBlock_124 ?_
          refine lv_iconst (v := (-1)) hx hb dX12_copyBlock_125 (by decide) ?_
          refine lv_ixor hx hb dX12_copyBlock_126 ?_
          refine lv_iand hx hb dX12_copyBlock_127 ?_
          obtain ⟨mm_11, emm_11, h⟩ := thn_some h
          refine gS_i (x := ((mm_9 1 (79 + x2).toNatClampNeg) &&& ((1 <<< ((x3 : Int32) &&& 31)) ^^^ (-1)))) (ws' := (rM E am mm_11 ++ [])) C hG 1 rfl (inb_in b10) rfl dX12_copyBlock_128 (by rw [emm_11]; rfl) (fun H locs hG => ?_)
          exact K129 mm_11 _ _ _ hG (lv_sub hl [2] rfl) h
        · replace h := it c58 h
          refine lv_aload_n hx hb dX12_copyBlock_61 rfl (lv_at hl 2 rfl) ?_
          refine gL_f (v := .ref (am 1)) C hG kX12 0 0 rfl (by decide) rfl q1352 rfl dX12_copyBlock_62 ?_
          refine lv_iload hx hb dX12_copyBlock_65 (lv_at hl 0 rfl) ?_
          refine lv_aload_n hx hb dX12_copyBlock_67 rfl (lv_at hl 2 rfl) ?_
          refine gL_f (v := .ref (am 1)) C hG kX12 0 0 rfl (by decide) rfl q1352 rfl dX12_copyBlock_68 ?_
          refine lv_iload hx hb dX12_copyBlock_71 (lv_at hl 1 rfl) ?_
          obtain ⟨b12, h⟩ := ck_some h
          refine gL_i (v := (mm 1 x4_3.toNatClampNeg)) C hG 1 rfl (inb_in b12) rfl dX12_copyBlock_73 ?_
          obtain ⟨b13, h⟩ := ck_some h
          obtain ⟨mm_14, emm_14, h⟩ := thn_some h
          refine gS_i (x := (mm 1 x4_3.toNatClampNeg)) (ws' := (rM E am mm_14 ++ [])) C hG 1 rfl (inb_in b13) rfl dX12_copyBlock_74 (by rw [emm_14]; rfl) (fun H locs hG => ?_)
          refine lv_aload_n hx hb dX12_copyBlock_75 rfl (lv_at hl 2 rfl) ?_
          refine gL_f (v := .ref (am 1)) C hG kX12 0 0 rfl (by decide) rfl q1352 rfl dX12_copyBlock_76 ?_
          refine lv_sipush (v := 200) hx hb dX12_copyBlock_79 (by decide) ?_
          refine lv_iconst (v := 4) hx hb dX12_copyBlock_82 (by decide) ?_
          refine lv_iload_n hx hb dX12_copyBlock_83 rfl (lv_at hl 3 rfl) ?_
          refine lv_imul hx hb dX12_copyBlock_84 ?_
          refine lv_iadd hx hb dX12_copyBlock_85 ?_
          refine lv_iconst (v := 3) hx hb dX12_copyBlock_86 (by decide) ?_
          refine lv_iadd hx hb dX12_copyBlock_87 ?_
          refine lv_dup2_11 hx hb dX12_copyBlock_88 rfl rfl ?_
          obtain ⟨b15, h⟩ := ck_some h
          refine gL_i (v := (mm_14 1 ((200 + (4 * x1)) + 3).toNatClampNeg)) C hG 1 rfl (inb_in b15) rfl dX12_copyBlock_89 ?_
          refine lv_iconst (v := 1) hx hb dX12_copyBlock_90 (by decide) ?_
          refine lv_iload_n hx hb dX12_copyBlock_91 rfl (lv_at hl 5 rfl) ?_
          refine lv_ishl hx hb dX12_copyBlock_92 ?_
          refine lv_ior hx hb dX12_copyBlock_93 ?_
          obtain ⟨mm_16, emm_16, h⟩ := thn_some h
          refine gS_i (x := ((mm_14 1 ((200 + (4 * x1)) + 3).toNatClampNeg) ||| (1 <<< ((x3 : Int32) &&& 31)))) (ws' := (rM E am mm_16 ++ [])) C hG 1 rfl (inb_in b15) rfl dX12_copyBlock_94 (by rw [emm_16]; rfl) (fun H locs hG => ?_)
          refine lv_goto (tgt := 129) hx hb dX12_copyBlock_95 (by decide) ?_
          exact K129 mm_16 _ _ _ hG (lv_sub hl [2] rfl) h
      · replace h := it c18 h
        refine lv_iinc (v := (x3 + 1)) (lv' := [(3, .int (x3 + 1)), (0, .ref (am 0)), (1, .int x1), (2, .int x2)]) hx hb dX12_copyBlock_21 hl (k := 3) rfl (congrArg (x3 + ·) (by decide : Int32.ofInt 1 = 1)) (by decide) rfl (fun ls hl => ?_)
        refine lv_goto (tgt := 9) hx hb dX12_copyBlock_24 (by decide) ?_
        exact ih x2 (x3 + 1) mm _ _ _ hG (lv_sub hl [1, 2, 3, 0] rfl) h
  rw [fX12_copyBlock] at h
  refine lv_aload_n hx hb dX12_copyBlock_0 rfl (lv_at hl 0 rfl) ?_
  refine lv_iload_n hx hb dX12_copyBlock_1 rfl (lv_at hl 1 rfl) ?_
  refine lv_iconst (v := 0) hx hb dX12_copyBlock_2 (by decide) ?_
  obtain ⟨r1, hcr1, h⟩ := bnd_some h
  refine gF_i (ws' := (rM E am mm ++ [])) C hG (pin pnil) (List.Perm.symm (pin pnil)) (gR_V (As := [.int x1, .int 0]) (rest := []) C hz hl.1 hG (pin pnil) (c_X12_ofMove l E am N x1 0 mm hcr1 H.size) okX12_ofMove q1622 0 rfl rfl rfl (Nat.le_of_ble_eq_true rfl) (by omega) ⟨Nat.le_refl _, Nat.le_refl _⟩ dX12_copyBlock_3) (fun H locs _ hG => ?_)
  refine lv_istore_n (lv' := [(2, .int r1), (0, .ref (am 0)), (1, .int x1)]) hx hb dX12_copyBlock_6 rfl hl (by decide) rfl (fun ls hl => ?_)
  refine lv_iconst (v := 0) hx hb dX12_copyBlock_7 (by decide) ?_
  refine lv_istore_n (lv' := [(3, .int 0), (2, .int r1), (0, .ref (am 0)), (1, .int x1)]) hx hb dX12_copyBlock_8 rfl hl (by decide) rfl (fun ls hl => ?_)
  exact K9 N r1 0 mm _ _ _ hG (lv_sub hl [2, 3, 1, 0] rfl) h
set_option maxHeartbeats 4000000 in
set_option maxRecDepth 100000 in
theorem c_X12_switchMove (l : Launch) (E : GE) (am : Nat → Nat) (N : Nat) (x1 : Int32) (mm : RS) {res : RS} (h : fX12_switchMove N x1 mm = some res) : gMv l E yX12_switchMove cX12_switchMove 4 3 0 0 [.ref (am 0), .int x1] (rM E am mm ++ []) (rM E am res ++ []) := by
  refine gMv_of (own := RX12) (by decide +kernel) rfl (Nat.le_of_ble_eq_true rfl) ?_
  intro p e s m args below meth c A ls Q H locs C hz hl hG hin hret
  have hx := C.1.1
  have hb := C.1.2.1
  have hts := C.1.2.2.2.2
  have hown := C.1.2.2.2.1
  have hl : lv_has ls 4 [(0, .ref (am 0)), (1, .int x1)] := hl
  replace hret : ∀ (mm0 : RS) (H : Heap) (locs : List Loc) (pc : Nat) (ls' : Array Slot), some mm0 = some res → gG E A s.heap (rM E am mm0 ++ []) H locs → decode cX12_switchMove pc = .ok (.return_, 1) → W p l e (rmD 3 0 0) s m args below meth c H locs 0 0 Q (F0 m pc ls' []) := by
    intro mm0 H locs pc ls' e0; cases e0; exact hret H locs pc ls'
  have K43 : ∀  (x2 : Int32) (x3 : Int32) (mm : RS) (H : Heap) (locs : List Loc) (ls : Array Slot), gG E A s.heap (rM E am mm ++ []) H locs → lv_has ls 4 [(0, .ref (am 0)), (1, .int x1), (2, .int x2), (3, .int x3)] → fX12_switchMove_L43 N x1 x2 x3 mm = some res → W p l e (rmD 3 0 0) s m args below meth c H locs 0 0 Q (F0 m 43 ls []) := by
    intro x2 x3 mm H locs ls hG hl h
    rw [fX12_switchMove_L43] at h
    refine lv_aload_n hx hb dX12_switchMove_43 rfl (lv_at hl 0 rfl) ?_
    refine gL_f (v := .ref (am 1)) C hG kX12 0 0 rfl (by decide) rfl q1352 rfl dX12_switchMove_44 ?_
    refine lv_bipush (v := 59) hx hb dX12_switchMove_47 (by decide) ?_
    refine lv_iload_n hx hb dX12_switchMove_49 rfl (lv_at hl 2 rfl) ?_
    refine lv_iadd hx hb dX12_switchMove_50 ?_
    refine lv_aload_n hx hb dX12_switchMove_51 rfl (lv_at hl 0 rfl) ?_
    refine gL_f (v := .ref (am 1)) C hG kX12 0 0 rfl (by decide) rfl q1352 rfl dX12_switchMove_52 ?_
    refine lv_iconst (v := 5) hx hb dX12_switchMove_55 (by decide) ?_
    refine gL_i (v := (mm 1 5)) C hG 1 rfl (vp_in_nI (n := 5) (by decide) (by decide)) (congrArg (mm 1) (nI_clamp (n := 5) (by decide))) dX12_switchMove_56 ?_
    refine lv_iconst (v := 3) hx hb dX12_switchMove_57 (by decide) ?_
    refine lv_iadd hx hb dX12_switchMove_58 ?_
    obtain ⟨b1, h⟩ := ck_some h
    obtain ⟨mm_2, emm_2, h⟩ := thn_some h
    refine gS_i (x := ((mm 1 5) + 3)) (ws' := (rM E am mm_2 ++ [])) C hG 1 rfl (inb_in b1) rfl dX12_switchMove_59 (by rw [emm_2]; rfl) (fun H locs hG => ?_)
    refine lv_aload_n hx hb dX12_switchMove_60 rfl (lv_at hl 0 rfl) ?_
    refine gL_f (v := .ref (am 1)) C hG kX12 0 0 rfl (by decide) rfl q1352 rfl dX12_switchMove_61 ?_
    refine lv_bipush (v := 119) hx hb dX12_switchMove_64 (by decide) ?_
    refine lv_iload_n hx hb dX12_switchMove_66 rfl (lv_at hl 2 rfl) ?_
    refine lv_iadd hx hb dX12_switchMove_67 ?_
    refine lv_iconst (v := 0) hx hb dX12_switchMove_68 (by decide) ?_
    obtain ⟨b3, h⟩ := ck_some h
    obtain ⟨mm_4, emm_4, h⟩ := thn_some h
    refine gS_i (x := 0) (ws' := (rM E am mm_4 ++ [])) C hG 1 rfl (inb_in b3) rfl dX12_switchMove_69 (by rw [emm_4]; rfl) (fun H locs hG => ?_)
    refine lv_aload_n hx hb dX12_switchMove_70 rfl (lv_at hl 0 rfl) ?_
    refine gL_f (v := .ref (am 1)) C hG kX12 0 0 rfl (by decide) rfl q1352 rfl dX12_switchMove_71 ?_
    refine lv_sipush (v := 129) hx hb dX12_switchMove_74 (by decide) ?_
    refine lv_iload_n hx hb dX12_switchMove_77 rfl (lv_at hl 2 rfl) ?_
    refine lv_iadd hx hb dX12_switchMove_78 ?_
    refine lv_iconst (v := 0) hx hb dX12_switchMove_79 (by decide) ?_
    obtain ⟨b5, h⟩ := ck_some h
    obtain ⟨mm_6, emm_6, h⟩ := thn_some h
    refine gS_i (x := 0) (ws' := (rM E am mm_6 ++ [])) C hG 1 rfl (inb_in b5) rfl dX12_switchMove_80 (by rw [emm_6]; rfl) (fun H locs hG => ?_)
    refine lv_aload_n hx hb dX12_switchMove_81 rfl (lv_at hl 0 rfl) ?_
    refine gL_f (v := .ref (am 1)) C hG kX12 0 0 rfl (by decide) rfl q1352 rfl dX12_switchMove_82 ?_
    refine lv_bipush (v := 14) hx hb dX12_switchMove_85 (by decide) ?_
    refine lv_dup2_11 hx hb dX12_switchMove_87 rfl rfl ?_
    refine gL_i (v := (mm_6 1 14)) C hG 1 rfl (vp_in_nI (n := 14) (by decide) (by decide)) (congrArg (mm_6 1) (nI_clamp (n := 14) (by decide))) dX12_switchMove_88 ?_
    refine lv_iconst (v := 1) hx hb dX12_switchMove_89 (by decide) ?_
    refine lv_iadd hx hb dX12_switchMove_90 ?_
    obtain ⟨mm_7, emm_7, h⟩ := thn_some h
    refine gS_i (x := ((mm_6 1 14) + 1)) (ws' := (rM E am mm_7 ++ [])) C hG 1 rfl (vp_in_nI (n := 14) (by decide) (by decide)) (nI_clamp (n := 14) (by decide)) dX12_switchMove_91 (by rw [emm_7]; rfl) (fun H locs hG => ?_)
    refine lv_aload_n hx hb dX12_switchMove_92 rfl (lv_at hl 0 rfl) ?_
    refine gL_f (v := .ref (am 1)) C hG kX12 0 0 rfl (by decide) rfl q1352 rfl dX12_switchMove_93 ?_
    refine lv_sipush (v := 340) hx hb dX12_switchMove_96 (by decide) ?_
    refine lv_iload_n hx hb dX12_switchMove_99 rfl (lv_at hl 2 rfl) ?_
    refine lv_iadd hx hb dX12_switchMove_100 ?_
    refine lv_dup2_11 hx hb dX12_switchMove_101 rfl rfl ?_
    obtain ⟨b8, h⟩ := ck_some h
    refine gL_i (v := (mm_7 1 (340 + x2).toNatClampNeg)) C hG 1 rfl (inb_in b8) rfl dX12_switchMove_102 ?_
    refine lv_iconst (v := 1) hx hb dX12_switchMove_103 (by decide) ?_
    refine lv_iadd hx hb dX12_switchMove_104 ?_
    obtain ⟨mm_9, emm_9, h⟩ := thn_some h
    refine gS_i (x := ((mm_7 1 (340 + x2).toNatClampNeg) + 1)) (ws' := (rM E am mm_9 ++ [])) C hG 1 rfl (inb_in b8) rfl dX12_switchMove_105 (by rw [emm_9]; rfl) (fun H locs hG => ?_)
    refine lv_aload_n hx hb dX12_switchMove_106 rfl (lv_at hl 0 rfl) ?_
    refine lv_iload_n hx hb dX12_switchMove_107 rfl (lv_at hl 1 rfl) ?_
    obtain ⟨r10, hcr10, h⟩ := bnd_some h
    refine gF_v (ws' := (rM E am r10 ++ [])) C hG (pin pnil) (List.Perm.symm (pin pnil)) (gR_V (As := [.int x1]) (rest := []) C hz hl.1 hG (pin pnil) (c_X12_outMove l E am N x1 mm_9 hcr10 H.size) okX12_outMove q1630 0 rfl rfl rfl (Nat.le_of_ble_eq_true rfl) (by omega) ⟨Nat.le_refl _, Nat.le_refl _⟩ dX12_switchMove_108) (fun H locs hG => ?_)
    refine lv_aload_n hx hb dX12_switchMove_111 rfl (lv_at hl 0 rfl) ?_
    refine lv_iconst (v := 1) hx hb dX12_switchMove_112 (by decide) ?_
    refine lv_iload_n hx hb dX12_switchMove_113 rfl (lv_at hl 2 rfl) ?_
    refine lv_iload_n hx hb dX12_switchMove_114 rfl (lv_at hl 3 rfl) ?_
    obtain ⟨r11, hcr11, h⟩ := bnd_some h
    refine gF_v (ws' := (rM E am r11 ++ [])) C hG (pin pnil) (List.Perm.symm (pin pnil)) (gR_V (As := [.int 1, .int x2, .int x3]) (rest := []) C hz hl.1 hG (pin pnil) (c_X12_writeDown l E am N 1 x2 x3 r10 hcr11 H.size) okX12_writeDown q1598 0 rfl rfl rfl (Nat.le_of_ble_eq_true rfl) (by omega) ⟨Nat.le_refl _, Nat.le_refl _⟩ dX12_switchMove_115) (fun H locs hG => ?_)
    exact hret _ _ _ _ _ h hG dX12_switchMove_118
  rw [fX12_switchMove] at h
  refine lv_aload_n hx hb dX12_switchMove_0 rfl (lv_at hl 0 rfl) ?_
  refine lv_iload_n hx hb dX12_switchMove_1 rfl (lv_at hl 1 rfl) ?_
  refine lv_iconst (v := 0) hx hb dX12_switchMove_2 (by decide) ?_
  obtain ⟨r1, hcr1, h⟩ := bnd_some h
  refine gF_i (ws' := (rM E am mm ++ [])) C hG (pin pnil) (List.Perm.symm (pin pnil)) (gR_V (As := [.int x1, .int 0]) (rest := []) C hz hl.1 hG (pin pnil) (c_X12_ofMove l E am N x1 0 mm hcr1 H.size) okX12_ofMove q1622 0 rfl rfl rfl (Nat.le_of_ble_eq_true rfl) (by omega) ⟨Nat.le_refl _, Nat.le_refl _⟩ dX12_switchMove_3) (fun H locs _ hG => ?_)
  refine lv_istore_n (lv' := [(2, .int r1), (0, .ref (am 0)), (1, .int x1)]) hx hb dX12_switchMove_6 rfl hl (by decide) rfl (fun ls hl => ?_)
  refine lv_aload_n hx hb dX12_switchMove_7 rfl (lv_at hl 1 rfl) ?_
  refine lv_iload_n hx hb dX12_switchMove_8 rfl (lv_at hl 2 rfl) ?_
  refine lv_iconst (v := 1) hx hb dX12_switchMove_9 (by decide) ?_
  obtain ⟨r2, hcr2, h⟩ := bnd_some h
  refine gF_i (ws' := (rM E am mm ++ [])) C hG (pin pnil) (List.Perm.symm (pin pnil)) (gR_V (As := [.int x1, .int 1]) (rest := []) C hz hl.1 hG (pin pnil) (c_X12_ofMove l E am N x1 1 mm hcr2 H.size) okX12_ofMove q1622 0 rfl rfl rfl (Nat.le_of_ble_eq_true rfl) (by omega) ⟨Nat.le_refl _, Nat.le_refl _⟩ dX12_switchMove_10) (fun H locs _ hG => ?_)
  refine lv_istore_n (lv' := [(3, .int r2), (2, .int r1), (0, .ref (am 0)), (1, .int x1)]) hx hb dX12_switchMove_13 rfl hl (by decide) rfl (fun ls hl => ?_)
  refine lv_aload_n hx hb dX12_switchMove_14 rfl (lv_at hl 2 rfl) ?_
  refine gL_f (v := .ref (am 1)) C hG kX12 0 0 rfl (by decide) rfl q1352 rfl dX12_switchMove_15 ?_
  refine lv_bipush (v := 109) hx hb dX12_switchMove_18 (by decide) ?_
  refine lv_iload_n hx hb dX12_switchMove_20 rfl (lv_at hl 1 rfl) ?_
  refine lv_iadd hx hb dX12_switchMove_21 ?_
  refine lv_iload_n hx hb dX12_switchMove_22 rfl (lv_at hl 0 rfl) ?_
  obtain ⟨b3, h⟩ := ck_some h
  obtain ⟨mm_4, emm_4, h⟩ := thn_some h
  refine gS_i (x := r2) (ws' := (rM E am mm_4 ++ [])) C hG 1 rfl (inb_in b3) rfl dX12_switchMove_23 (by rw [emm_4]; rfl) (fun H locs hG => ?_)
  refine lv_aload_n hx hb dX12_switchMove_24 rfl (lv_at hl 2 rfl) ?_
  refine gL_f (v := .ref (am 1)) C hG kX12 0 0 rfl (by decide) rfl q1352 rfl dX12_switchMove_25 ?_
  refine lv_bipush (v := 79) hx hb dX12_switchMove_28 (by decide) ?_
  refine lv_iload_n hx hb dX12_switchMove_30 rfl (lv_at hl 1 rfl) ?_
  refine lv_iadd hx hb dX12_switchMove_31 ?_
  refine lv_iconst (v := 0) hx hb dX12_switchMove_32 (by decide) ?_
  obtain ⟨b5, h⟩ := ck_some h
  obtain ⟨mm_6, emm_6, h⟩ := thn_some h
  refine gS_i (x := 0) (ws' := (rM E am mm_6 ++ [])) C hG 1 rfl (inb_in b5) rfl dX12_switchMove_33 (by rw [emm_6]; rfl) (fun H locs hG => ?_)
  refine lv_iload_n hx hb dX12_switchMove_34 rfl (lv_at hl 0 rfl) ?_
  refine lv_if_ne (tgt := 43) hx hb dX12_switchMove_35 (by decide) (fun c35 => ?_) (fun c35 => ?_)
  · replace h := ie c35 h
    exact K43 r1 r2 mm_6 _ _ _ hG (lv_sub hl [2, 3, 1, 0] rfl) h
  · replace h := it c35 h
    refine lv_aload_n hx hb dX12_switchMove_38 rfl (lv_at hl 2 rfl) ?_
    refine lv_iload_n hx hb dX12_switchMove_39 rfl (lv_at hl 1 rfl) ?_
    obtain ⟨r7, hcr7, h⟩ := bnd_some h
    refine gF_v (ws' := (rM E am r7 ++ [])) C hG (pin pnil) (List.Perm.symm (pin pnil)) (gR_V (As := [.int r1]) (rest := []) C hz hl.1 hG (pin pnil) (c_X12_freeSlots l E am N r1 mm_6 hcr7 H.size) okX12_freeSlots q1626 0 rfl rfl rfl (Nat.le_of_ble_eq_true rfl) (by omega) ⟨Nat.le_refl _, Nat.le_refl _⟩ dX12_switchMove_40) (fun H locs hG => ?_)
    exact K43 r1 r2 r7 _ _ _ hG (lv_sub hl [2, 3, 1, 0] rfl) h
set_option maxHeartbeats 4000000 in
set_option maxRecDepth 100000 in
theorem c_X12_goMoves (l : Launch) (E : GE) (am : Nat → Nat) (N : Nat) (mm : RS) {res : RS} (h : fX12_goMoves N mm = some res) : gMv l E yX12_goMoves cX12_goMoves 3 4 0 0 [.ref (am 0)] (rM E am mm ++ []) (rM E am res ++ []) := by
  refine gMv_of (own := RX12) (by decide +kernel) rfl (Nat.le_of_ble_eq_true rfl) ?_
  intro p e s m args below meth c A ls Q H locs C hz hl hG hin hret
  have hx := C.1.1
  have hb := C.1.2.1
  have hts := C.1.2.2.2.2
  have hown := C.1.2.2.2.1
  have hl : lv_has ls 3 [(0, .ref (am 0))] := hl
  replace hret : ∀ (mm0 : RS) (H : Heap) (locs : List Loc) (pc : Nat) (ls' : Array Slot), some mm0 = some res → gG E A s.heap (rM E am mm0 ++ []) H locs → decode cX12_goMoves pc = .ok (.return_, 1) → W p l e (rmD 4 0 0) s m args below meth c H locs 0 0 Q (F0 m pc ls' []) := by
    intro mm0 H locs pc ls' e0; cases e0; exact hret H locs pc ls'
  have K59 : ∀ (k10 : (Int32 → Int32 → RS → Option (RS))) (hk10 : ∀  (x1 : Int32) (x2 : Int32) (mm : RS) (H : Heap) (locs : List Loc) (ls : Array Slot), gG E A s.heap (rM E am mm ++ []) H locs → lv_has ls 3 [(0, .ref (am 0)), (1, .int x1), (2, .int x2)] → k10 x1 x2 mm = some res → W p l e (rmD 4 0 0) s m args below meth c H locs 0 0 Q (F0 m 10 ls [])), ∀  (x1 : Int32) (x2 : Int32) (mm : RS) (H : Heap) (locs : List Loc) (ls : Array Slot), gG E A s.heap (rM E am mm ++ []) H locs → lv_has ls 3 [(0, .ref (am 0)), (1, .int x1), (2, .int x2)] → fX12_goMoves_L59 N k10 x1 x2 mm = some res → W p l e (rmD 4 0 0) s m args below meth c H locs 0 0 Q (F0 m 59 ls []) := by
    intro k10 hk10 x1 x2 mm H locs ls hG hl h
    rw [fX12_goMoves_L59] at h
    refine lv_iinc (v := (x2 + 1)) (lv' := [(2, .int (x2 + 1)), (0, .ref (am 0)), (1, .int x1)]) hx hb dX12_goMoves_59 hl (k := 2) rfl (congrArg (x2 + ·) (by decide : Int32.ofInt 1 = 1)) (by decide) rfl (fun ls hl => ?_)
    refine lv_goto (tgt := 10) hx hb dX12_goMoves_62 (by decide) ?_
    exact hk10 x1 (x2 + 1) mm _ _ _ hG (lv_sub hl [1, 2, 0] rfl) h
  have K36 : ∀ (k10 : (Int32 → Int32 → RS → Option (RS))) (hk10 : ∀  (x1 : Int32) (x2 : Int32) (mm : RS) (H : Heap) (locs : List Loc) (ls : Array Slot), gG E A s.heap (rM E am mm ++ []) H locs → lv_has ls 3 [(0, .ref (am 0)), (1, .int x1), (2, .int x2)] → k10 x1 x2 mm = some res → W p l e (rmD 4 0 0) s m args below meth c H locs 0 0 Q (F0 m 10 ls [])) (k : Nat), ∀  (x1 : Int32) (x2 : Int32) (mm : RS) (H : Heap) (locs : List Loc) (ls : Array Slot), gG E A s.heap (rM E am mm ++ []) H locs → lv_has ls 3 [(0, .ref (am 0)), (1, .int x1), (2, .int x2)] → fX12_goMoves_L36 N k10 k x1 x2 mm = some res → W p l e (rmD 4 0 0) s m args below meth c H locs 0 0 Q (F0 m 36 ls []) := by
    intro k10 hk10 k
    induction k with
    | zero => intro x1 x2 mm H locs ls hG hl h; exact absurd (show none = _ from h) (by simp)
    | succ k ih =>
      intro x1 x2 mm H locs ls hG hl h
      rw [fX12_goMoves_L36] at h
      refine lv_iload_n hx hb dX12_goMoves_36 rfl (lv_at hl 1 rfl) ?_
      refine lv_if_le (tgt := 59) hx hb dX12_goMoves_37 (by decide) (fun c37 => ?_) (fun c37 => ?_)
      · replace h := it c37 h
        exact K59 _ hk10 x1 x2 mm _ _ _ hG (lv_sub hl [0, 1, 2] rfl) h
      · replace h := ie c37 h
        refine lv_aload_n hx hb dX12_goMoves_40 rfl (lv_at hl 0 rfl) ?_
        refine lv_iload_n hx hb dX12_goMoves_41 rfl (lv_at hl 2 rfl) ?_
        obtain ⟨r1, hcr1, h⟩ := bnd_some h
        refine gF_i (ws' := (rM E am mm ++ [])) C hG (pin pnil) (List.Perm.symm (pin pnil)) (gR_V (As := [.int x2]) (rest := []) C hz hl.1 hG (pin pnil) (c_X12_toCopy l E am N x2 mm hcr1 H.size) okX12_toCopy q1666 0 rfl rfl rfl (Nat.le_of_ble_eq_true rfl) (by omega) ⟨Nat.le_refl _, Nat.le_refl _⟩ dX12_goMoves_42) (fun H locs _ hG => ?_)
        refine lv_if_eq (tgt := 59) hx hb dX12_goMoves_45 (by decide) (fun c45 => ?_) (fun c45 => ?_)
        · replace h := it c45 h
          exact K59 _ hk10 x1 x2 mm _ _ _ hG (lv_sub hl [0, 1, 2] rfl) h
        · replace h := ie c45 h
          refine lv_aload_n hx hb dX12_goMoves_48 rfl (lv_at hl 0 rfl) ?_
          refine lv_iload_n hx hb dX12_goMoves_49 rfl (lv_at hl 2 rfl) ?_
          obtain ⟨r2, hcr2, h⟩ := bnd_some h
          refine gF_v (ws' := (rM E am r2 ++ [])) C hG (pin pnil) (List.Perm.symm (pin pnil)) (gR_V (As := [.int x2]) (rest := []) C hz hl.1 hG (pin pnil) (c_X12_copyBlock l E am N x2 mm hcr2 H.size) okX12_copyBlock q1670 0 rfl rfl rfl (Nat.le_of_ble_eq_true rfl) (by omega) ⟨Nat.le_refl _, Nat.le_refl _⟩ dX12_goMoves_50) (fun H locs hG => ?_)
          refine lv_iinc (v := (x1 + (-1))) (lv' := [(1, .int (x1 + (-1))), (0, .ref (am 0)), (2, .int x2)]) hx hb dX12_goMoves_53 hl (k := 1) rfl (congrArg (x1 + ·) (by decide : Int32.ofInt (-1) = (-1))) (by decide) rfl (fun ls hl => ?_)
          refine lv_goto (tgt := 36) hx hb dX12_goMoves_56 (by decide) ?_
          exact ih (x1 + (-1)) x2 r2 _ _ _ hG (lv_sub hl [1, 0, 2] rfl) h
  have K104 : ∀ (k67 : (Int32 → RS → Option (RS))) (hk67 : ∀  (x2 : Int32) (mm : RS) (H : Heap) (locs : List Loc) (ls : Array Slot), gG E A s.heap (rM E am mm ++ []) H locs → lv_has ls 3 [(0, .ref (am 0)), (2, .int x2)] → k67 x2 mm = some res → W p l e (rmD 4 0 0) s m args below meth c H locs 0 0 Q (F0 m 67 ls [])), ∀  (x2 : Int32) (mm : RS) (H : Heap) (locs : List Loc) (ls : Array Slot), gG E A s.heap (rM E am mm ++ []) H locs → lv_has ls 3 [(0, .ref (am 0)), (2, .int x2)] → fX12_goMoves_L104 N k67 x2 mm = some res → W p l e (rmD 4 0 0) s m args below meth c H locs 0 0 Q (F0 m 104 ls []) := by
    intro k67 hk67 x2 mm H locs ls hG hl h
    rw [fX12_goMoves_L104] at h
    refine lv_iinc (v := (x2 + 1)) (lv' := [(2, .int (x2 + 1)), (0, .ref (am 0))]) hx hb dX12_goMoves_104 hl (k := 1) rfl (congrArg (x2 + ·) (by decide : Int32.ofInt 1 = 1)) (by decide) rfl (fun ls hl => ?_)
    refine lv_goto (tgt := 67) hx hb dX12_goMoves_107 (by decide) ?_
    exact hk67 (x2 + 1) mm _ _ _ hG (lv_sub hl [1, 0] rfl) h
  have K67 : ∀ (k : Nat), ∀  (x2 : Int32) (mm : RS) (H : Heap) (locs : List Loc) (ls : Array Slot), gG E A s.heap (rM E am mm ++ []) H locs → lv_has ls 3 [(0, .ref (am 0)), (2, .int x2)] → fX12_goMoves_L67 N k x2 mm = some res → W p l e (rmD 4 0 0) s m args below meth c H locs 0 0 Q (F0 m 67 ls []) := by
    intro k
    induction k with
    | zero => intro x2 mm H locs ls hG hl h; exact absurd (show none = _ from h) (by simp)
    | succ k ih =>
      intro x2 mm H locs ls hG hl h
      rw [fX12_goMoves_L67] at h
      refine lv_iload_n hx hb dX12_goMoves_67 rfl (lv_at hl 1 rfl) ?_
      refine lv_aload_n hx hb dX12_goMoves_68 rfl (lv_at hl 0 rfl) ?_
      refine gL_f (v := .ref (am 1)) C hG kX12 0 0 rfl (by decide) rfl q1352 rfl dX12_goMoves_69 ?_
      refine lv_bipush (v := 17) hx hb dX12_goMoves_72 (by decide) ?_
      refine gL_i (v := (mm 1 17)) C hG 1 rfl (vp_in_nI (n := 17) (by decide) (by decide)) (congrArg (mm 1) (nI_clamp (n := 17) (by decide))) dX12_goMoves_74 ?_
      refine lv_icmp_ge (tgt := 110) hx hb dX12_goMoves_75 (by decide) (fun c75 => ?_) (fun c75 => ?_)
      · replace h := it c75 h
        exact hret _ _ _ _ _ h hG dX12_goMoves_110
      · replace h := ie c75 h
        refine lv_aload_n hx hb dX12_goMoves_78 rfl (lv_at hl 0 rfl) ?_
        refine lv_iload_n hx hb dX12_goMoves_79 rfl (lv_at hl 1 rfl) ?_
        refine lv_iconst (v := 2) hx hb dX12_goMoves_80 (by decide) ?_
        obtain ⟨r1, hcr1, h⟩ := bnd_some h
        refine gF_i (ws' := (rM E am mm ++ [])) C hG (pin pnil) (List.Perm.symm (pin pnil)) (gR_V (As := [.int x2, .int 2]) (rest := []) C hz hl.1 hG (pin pnil) (c_X12_ofMove l E am N x2 2 mm hcr1 H.size) okX12_ofMove q1622 0 rfl rfl rfl (Nat.le_of_ble_eq_true rfl) (by omega) ⟨Nat.le_refl _, Nat.le_refl _⟩ dX12_goMoves_81) (fun H locs _ hG => ?_)
        refine lv_iconst (v := 1) hx hb dX12_goMoves_84 (by decide) ?_
        refine lv_icmp_ne (tgt := 104) hx hb dX12_goMoves_85 (by decide) (fun c85 => ?_) (fun c85 => ?_)
        · replace h := ie c85 h
          exact K104 _ ih x2 mm _ _ _ hG (lv_sub hl [0, 1] rfl) h
        · replace h := it c85 h
          refine lv_aload_n hx hb dX12_goMoves_88 rfl (lv_at hl 0 rfl) ?_
          refine lv_iload_n hx hb dX12_goMoves_89 rfl (lv_at hl 1 rfl) ?_
          obtain ⟨r2, hcr2, h⟩ := bnd_some h
          refine gF_i (ws' := (rM E am mm ++ [])) C hG (pin pnil) (List.Perm.symm (pin pnil)) (gR_V (As := [.int x2]) (rest := []) C hz hl.1 hG (pin pnil) (c_X12_toCopy l E am N x2 mm hcr2 H.size) okX12_toCopy q1666 0 rfl rfl rfl (Nat.le_of_ble_eq_true rfl) (by omega) ⟨Nat.le_refl _, Nat.le_refl _⟩ dX12_goMoves_90) (fun H locs _ hG => ?_)
          refine lv_if_ne (tgt := 104) hx hb dX12_goMoves_93 (by decide) (fun c93 => ?_) (fun c93 => ?_)
          · replace h := ie c93 h
            exact K104 _ ih x2 mm _ _ _ hG (lv_sub hl [0, 1] rfl) h
          · replace h := it c93 h
            refine lv_aload_n hx hb dX12_goMoves_96 rfl (lv_at hl 0 rfl) ?_
            refine lv_iload_n hx hb dX12_goMoves_97 rfl (lv_at hl 1 rfl) ?_
            obtain ⟨r3, hcr3, h⟩ := bnd_some h
            refine gF_v (ws' := (rM E am r3 ++ [])) C hG (pin pnil) (List.Perm.symm (pin pnil)) (gR_V (As := [.int x2]) (rest := []) C hz hl.1 hG (pin pnil) (c_X12_switchMove l E am N x2 mm hcr3 H.size) okX12_switchMove q1677 0 rfl rfl rfl (Nat.le_of_ble_eq_true rfl) (by omega) ⟨Nat.le_refl _, Nat.le_refl _⟩ dX12_goMoves_98) (fun H locs hG => ?_)
            refine lv_goto (tgt := 67) hx hb dX12_goMoves_101 (by decide) ?_
            exact ih x2 r3 _ _ _ hG (lv_sub hl [0, 1] rfl) h
  have K65 : ∀  (mm : RS) (H : Heap) (locs : List Loc) (ls : Array Slot), gG E A s.heap (rM E am mm ++ []) H locs → lv_has ls 3 [(0, .ref (am 0))] → fX12_goMoves_L65 N mm = some res → W p l e (rmD 4 0 0) s m args below meth c H locs 0 0 Q (F0 m 65 ls []) := by
    intro mm H locs ls hG hl h
    rw [fX12_goMoves_L65] at h
    refine lv_iconst (v := 0) hx hb dX12_goMoves_65 (by decide) ?_
    refine lv_istore_n (lv' := [(2, .int 0), (0, .ref (am 0))]) hx hb dX12_goMoves_66 rfl hl (by decide) rfl (fun ls hl => ?_)
    exact K67 N 0 mm _ _ _ hG (lv_sub hl [1, 0] rfl) h
  have K10 : ∀ (k : Nat), ∀  (x1 : Int32) (x2 : Int32) (mm : RS) (H : Heap) (locs : List Loc) (ls : Array Slot), gG E A s.heap (rM E am mm ++ []) H locs → lv_has ls 3 [(0, .ref (am 0)), (1, .int x1), (2, .int x2)] → fX12_goMoves_L10 N k x1 x2 mm = some res → W p l e (rmD 4 0 0) s m args below meth c H locs 0 0 Q (F0 m 10 ls []) := by
    intro k
    induction k with
    | zero => intro x1 x2 mm H locs ls hG hl h; exact absurd (show none = _ from h) (by simp)
    | succ k ih =>
      intro x1 x2 mm H locs ls hG hl h
      rw [fX12_goMoves_L10] at h
      refine lv_iload_n hx hb dX12_goMoves_10 rfl (lv_at hl 2 rfl) ?_
      refine lv_aload_n hx hb dX12_goMoves_11 rfl (lv_at hl 0 rfl) ?_
      refine gL_f (v := .ref (am 1)) C hG kX12 0 0 rfl (by decide) rfl q1352 rfl dX12_goMoves_12 ?_
      refine lv_bipush (v := 17) hx hb dX12_goMoves_15 (by decide) ?_
      refine gL_i (v := (mm 1 17)) C hG 1 rfl (vp_in_nI (n := 17) (by decide) (by decide)) (congrArg (mm 1) (nI_clamp (n := 17) (by decide))) dX12_goMoves_17 ?_
      refine lv_icmp_ge (tgt := 65) hx hb dX12_goMoves_18 (by decide) (fun c18 => ?_) (fun c18 => ?_)
      · replace h := it c18 h
        exact K65 mm _ _ _ hG (lv_sub hl [0] rfl) h
      · replace h := ie c18 h
        refine lv_iload_n hx hb dX12_goMoves_21 rfl (lv_at hl 1 rfl) ?_
        refine lv_if_le (tgt := 65) hx hb dX12_goMoves_22 (by decide) (fun c22 => ?_) (fun c22 => ?_)
        · replace h := it c22 h
          exact K65 mm _ _ _ hG (lv_sub hl [0] rfl) h
        · replace h := ie c22 h
          refine lv_aload_n hx hb dX12_goMoves_25 rfl (lv_at hl 0 rfl) ?_
          refine lv_iload_n hx hb dX12_goMoves_26 rfl (lv_at hl 2 rfl) ?_
          obtain ⟨r1, hcr1, h⟩ := bnd_some h
          refine gF_i (ws' := (rM E am r1.2 ++ [])) C hG (pin pnil) (List.Perm.symm (pin pnil)) (gR_V (As := [.int x2]) (rest := []) C hz hl.1 hG (pin pnil) (c_X12_isBegun l E am N x2 mm hcr1 H.size) okX12_isBegun q1650 0 rfl rfl rfl (Nat.le_of_ble_eq_true rfl) (by omega) ⟨Nat.le_refl _, Nat.le_refl _⟩ dX12_goMoves_27) (fun H locs z2 hG => ?_)
          refine lv_if_ne (tgt := 36) hx hb dX12_goMoves_30 (by decide) (fun c30 => ?_) (fun c30 => ?_)
          · replace h := ie c30 h
            exact K36 _ ih N x1 x2 r1.2 _ _ _ hG (lv_sub hl [0, 1, 2] rfl) h
          · replace h := it c30 h
            refine lv_goto (tgt := 59) hx hb dX12_goMoves_33 (by decide) ?_
            exact K59 _ ih x1 x2 r1.2 _ _ _ hG (lv_sub hl [0, 1, 2] rfl) h
  rw [fX12_goMoves] at h
  refine lv_aload_n hx hb dX12_goMoves_0 rfl (lv_at hl 0 rfl) ?_
  refine gL_f (v := .ref (am 1)) C hG kX12 0 0 rfl (by decide) rfl q1352 rfl dX12_goMoves_1 ?_
  refine lv_bipush (v := 7) hx hb dX12_goMoves_4 (by decide) ?_
  refine gL_i (v := (mm 1 7)) C hG 1 rfl (vp_in_nI (n := 7) (by decide) (by decide)) (congrArg (mm 1) (nI_clamp (n := 7) (by decide))) dX12_goMoves_6 ?_
  obtain ⟨x1_1, ex1_1, h⟩ := thn_some h
  refine g_int ex1_1 ?_
  refine lv_istore_n (lv' := [(1, .int x1_1), (0, .ref (am 0))]) hx hb dX12_goMoves_7 rfl hl (by decide) rfl (fun ls hl => ?_)
  refine lv_iconst (v := 0) hx hb dX12_goMoves_8 (by decide) ?_
  refine lv_istore_n (lv' := [(2, .int 0), (1, .int x1_1), (0, .ref (am 0))]) hx hb dX12_goMoves_9 rfl hl (by decide) rfl (fun ls hl => ?_)
  exact K10 N x1_1 0 mm _ _ _ hG (lv_sub hl [2, 1, 0] rfl) h
set_option maxHeartbeats 4000000 in
set_option maxRecDepth 100000 in
theorem c_X12_begunOf (l : Launch) (E : GE) (am : Nat → Nat) (N : Nat) (x1 : Int32) (mm : RS) {res : Int32} (h : fX12_begunOf N x1 mm = some res) : gMi l E yX12_begunOf cX12_begunOf 3 .int 2 0 0 [.ref (am 0), .int x1] (rM E am mm ++ []) (rM E am mm ++ []) res := by
  refine gMi_of (own := RX12) (by decide +kernel) rfl (Nat.le_of_ble_eq_true rfl) ?_
  intro p e s m args below meth c A ls Q H locs C hz hl hG hret
  have hx := C.1.1
  have hb := C.1.2.1
  have hts := C.1.2.2.2.2
  have hown := C.1.2.2.2.1
  have hl : lv_has ls 3 [(0, .ref (am 0)), (1, .int x1)] := hl
  replace hret : ∀ (r0 : Int32) (H : Heap) (locs : List Loc) (pc : Nat) (ls' : Array Slot), some r0 = some res → narrow .int (.int r0) = .int r0 → gG E A s.heap (rM E am mm ++ []) H locs → decode cX12_begunOf pc = .ok (.ireturn, 1) → W p l e (rmD 2 0 0) s m args below meth c H locs 0 0 Q (F0 m pc ls' [.int r0]) := by
    intro r0 H locs pc ls' e0 hn; cases e0; exact hret H locs pc ls' hn
  have K20 : ∀  (H : Heap) (locs : List Loc) (ls : Array Slot), gG E A s.heap (rM E am mm ++ []) H locs → lv_has ls 3 [] → fX12_begunOf_L20 N x1 mm = some res → W p l e (rmD 2 0 0) s m args below meth c H locs 0 0 Q (F0 m 20 ls []) := by
    intro H locs ls hG hl h
    rw [fX12_begunOf_L20] at h
    refine lv_iconst (v := (-1)) hx hb dX12_begunOf_20 (by decide) ?_
    refine lv_goto (tgt := 30) hx hb dX12_begunOf_21 (by decide) ?_
    exact hret _ _ _ _ _ h rfl hG dX12_begunOf_30
  rw [fX12_begunOf] at h
  refine lv_aload_n hx hb dX12_begunOf_0 rfl (lv_at hl 0 rfl) ?_
  refine lv_iload_n hx hb dX12_begunOf_1 rfl (lv_at hl 1 rfl) ?_
  obtain ⟨r1, hcr1, h⟩ := bnd_some h
  refine gF_i (ws' := (rM E am mm ++ [])) C hG (pin pnil) (List.Perm.symm (pin pnil)) (gR_V (As := [.int x1]) (rest := []) C hz hl.1 hG (pin pnil) (c_X12_moveAt l E am N x1 mm hcr1 H.size) okX12_moveAt q1582 0 rfl rfl rfl (Nat.le_of_ble_eq_true rfl) (by omega) ⟨Nat.le_refl _, Nat.le_refl _⟩ dX12_begunOf_2) (fun H locs _ hG => ?_)
  refine lv_istore_n (lv' := [(2, .int r1), (0, .ref (am 0)), (1, .int x1)]) hx hb dX12_begunOf_5 rfl hl (by decide) rfl (fun ls hl => ?_)
  refine lv_iload_n hx hb dX12_begunOf_6 rfl (lv_at hl 0 rfl) ?_
  refine lv_iconst (v := (-1)) hx hb dX12_begunOf_7 (by decide) ?_
  refine lv_icmp_eq (tgt := 20) hx hb dX12_begunOf_8 (by decide) (fun c8 => ?_) (fun c8 => ?_)
  · replace h := it c8 h
    exact K20 _ _ _ hG (lv_sub hl [] rfl) h
  · replace h := ie c8 h
    refine lv_aload_n hx hb dX12_begunOf_11 rfl (lv_at hl 1 rfl) ?_
    refine lv_iload_n hx hb dX12_begunOf_12 rfl (lv_at hl 0 rfl) ?_
    refine lv_iconst (v := 2) hx hb dX12_begunOf_13 (by decide) ?_
    obtain ⟨r2, hcr2, h⟩ := bnd_some h
    refine gF_i (ws' := (rM E am mm ++ [])) C hG (pin pnil) (List.Perm.symm (pin pnil)) (gR_V (As := [.int r1, .int 2]) (rest := []) C hz hl.1 hG (pin pnil) (c_X12_ofMove l E am N r1 2 mm hcr2 H.size) okX12_ofMove q1622 0 rfl rfl rfl (Nat.le_of_ble_eq_true rfl) (by omega) ⟨Nat.le_refl _, Nat.le_refl _⟩ dX12_begunOf_14) (fun H locs _ hG => ?_)
    refine lv_if_ne (tgt := 24) hx hb dX12_begunOf_17 (by decide) (fun c17 => ?_) (fun c17 => ?_)
    · replace h := ie c17 h
      refine lv_aload_n hx hb dX12_begunOf_24 rfl (lv_at hl 1 rfl) ?_
      refine lv_iload_n hx hb dX12_begunOf_25 rfl (lv_at hl 0 rfl) ?_
      refine lv_iconst (v := 1) hx hb dX12_begunOf_26 (by decide) ?_
      obtain ⟨r3, hcr3, h⟩ := bnd_some h
      refine gF_i (ws' := (rM E am mm ++ [])) C hG (pin pnil) (List.Perm.symm (pin pnil)) (gR_V (As := [.int r1, .int 1]) (rest := []) C hz hl.1 hG (pin pnil) (c_X12_ofMove l E am N r1 1 mm hcr3 H.size) okX12_ofMove q1622 0 rfl rfl rfl (Nat.le_of_ble_eq_true rfl) (by omega) ⟨Nat.le_refl _, Nat.le_refl _⟩ dX12_begunOf_27) (fun H locs _ hG => ?_)
      exact hret _ _ _ _ _ h rfl hG dX12_begunOf_30
    · replace h := it c17 h
      exact K20 _ _ _ hG (lv_sub hl [] rfl) h
set_option maxHeartbeats 4000000 in
set_option maxRecDepth 100000 in
theorem c_X12_copiedFor (l : Launch) (E : GE) (am : Nat → Nat) (N : Nat) (x1 : Int32) (x2 : Int32) (mm : RS) {res : Int32} (h : fX12_copiedFor N x1 x2 mm = some res) : gMi l E yX12_copiedFor cX12_copiedFor 3 .int 3 0 0 [.ref (am 0), .int x1, .int x2] (rM E am mm ++ []) (rM E am mm ++ []) res := by
  refine gMi_of (own := RX12) (by decide +kernel) rfl (Nat.le_of_ble_eq_true rfl) ?_
  intro p e s m args below meth c A ls Q H locs C hz hl hG hret
  have hx := C.1.1
  have hb := C.1.2.1
  have hts := C.1.2.2.2.2
  have hown := C.1.2.2.2.1
  have hl : lv_has ls 3 [(0, .ref (am 0)), (1, .int x1), (2, .int x2)] := hl
  replace hret : ∀ (r0 : Int32) (H : Heap) (locs : List Loc) (pc : Nat) (ls' : Array Slot), some r0 = some res → narrow .int (.int r0) = .int r0 → gG E A s.heap (rM E am mm ++ []) H locs → decode cX12_copiedFor pc = .ok (.ireturn, 1) → W p l e (rmD 3 0 0) s m args below meth c H locs 0 0 Q (F0 m pc ls' [.int r0]) := by
    intro r0 H locs pc ls' e0 hn; cases e0; exact hret H locs pc ls' hn
  rw [fX12_copiedFor] at h
  refine lv_aload_n hx hb dX12_copiedFor_0 rfl (lv_at hl 0 rfl) ?_
  refine lv_iload_n hx hb dX12_copiedFor_1 rfl (lv_at hl 1 rfl) ?_
  obtain ⟨r1, hcr1, h⟩ := bnd_some h
  refine gF_i (ws' := (rM E am mm ++ [])) C hG (pin pnil) (List.Perm.symm (pin pnil)) (gR_V (As := [.int x1]) (rest := []) C hz hl.1 hG (pin pnil) (c_X12_begunOf l E am N x1 mm hcr1 H.size) okX12_begunOf q1701 0 rfl rfl rfl (Nat.le_of_ble_eq_true rfl) (by omega) ⟨Nat.le_refl _, Nat.le_refl _⟩ dX12_copiedFor_2) (fun H locs _ hG => ?_)
  refine lv_iconst (v := (-1)) hx hb dX12_copiedFor_5 (by decide) ?_
  refine lv_icmp_ne (tgt := 18) hx hb dX12_copiedFor_6 (by decide) (fun c6 => ?_) (fun c6 => ?_)
  · replace h := ie c6 h
    refine lv_iconst (v := 0) hx hb dX12_copiedFor_18 (by decide) ?_
    exact hret _ _ _ _ _ h rfl hG dX12_copiedFor_19
  · replace h := it c6 h
    refine lv_iload_n hx hb dX12_copiedFor_9 rfl (lv_at hl 2 rfl) ?_
    refine lv_aload_n hx hb dX12_copiedFor_10 rfl (lv_at hl 0 rfl) ?_
    refine lv_iload_n hx hb dX12_copiedFor_11 rfl (lv_at hl 1 rfl) ?_
    obtain ⟨r2, hcr2, h⟩ := bnd_some h
    refine gF_i (ws' := (rM E am mm ++ [])) C hG (pin pnil) (List.Perm.symm (pin pnil)) (gR_V (As := [.int x1]) (rest := [.int x2]) C hz hl.1 hG (pin pnil) (c_X12_isFast l E am N x1 mm hcr2 H.size) okX12_isFast q1551 0 rfl rfl rfl (Nat.le_of_ble_eq_true rfl) (by omega) ⟨Nat.le_refl _, Nat.le_refl _⟩ dX12_copiedFor_12) (fun H locs z3 hG => ?_)
    refine lv_icmp_ne (tgt := 20) hx hb dX12_copiedFor_15 (by decide) (fun c15 => ?_) (fun c15 => ?_)
    · replace h := ie c15 h
      refine lv_iload_n hx hb dX12_copiedFor_20 rfl (lv_at hl 2 rfl) ?_
      refine lv_if_eq (tgt := 31) hx hb dX12_copiedFor_21 (by decide) (fun c21 => ?_) (fun c21 => ?_)
      · replace h := it c21 h
        refine lv_aload_n hx hb dX12_copiedFor_31 rfl (lv_at hl 0 rfl) ?_
        refine gL_f (v := .ref (am 1)) C hG kX12 0 0 rfl (by decide) rfl q1352 rfl dX12_copiedFor_32 ?_
        refine lv_bipush (v := 79) hx hb dX12_copiedFor_35 (by decide) ?_
        refine lv_iload_n hx hb dX12_copiedFor_37 rfl (lv_at hl 1 rfl) ?_
        refine lv_iadd hx hb dX12_copiedFor_38 ?_
        obtain ⟨b4, h⟩ := ck_some h
        refine gL_i (v := (mm 1 (79 + x1).toNatClampNeg)) C hG 1 rfl (inb_in b4) rfl dX12_copiedFor_39 ?_
        obtain ⟨r5, hcr5, h⟩ := bnd_some h
        refine gF_i (ws' := (rM E am mm ++ [])) C hG pst pst.symm (gR_S (As := [.int (mm 1 (79 + x1).toNatClampNeg)]) (rest := []) C hz hl.1 hG pst (c_X12_bitsOf l E N (mm 1 (79 + x1).toNatClampNeg) hcr5 H.size) okX12_bitsOf q1705 rfl (Nat.le_of_ble_eq_true rfl) (by omega) ⟨Nat.le_refl _, Nat.le_refl _⟩ dX12_copiedFor_40) (fun H locs _ hG => ?_)
        exact hret _ _ _ _ _ h rfl hG dX12_copiedFor_43
      · replace h := ie c21 h
        refine lv_iload_n hx hb dX12_copiedFor_24 rfl (lv_at hl 1 rfl) ?_
        refine gF_i (ws' := (rM E am mm ++ [])) C hG pst pst.symm (gR_S (As := [.int x1]) (rest := []) C hz hl.1 hG pst (c_X12_sizeOf l E x1 rfl H.size) okX12_sizeOf q1536 rfl (Nat.le_of_ble_eq_true rfl) (by omega) ⟨Nat.le_refl _, Nat.le_refl _⟩ dX12_copiedFor_25) (fun H locs _ hG => ?_)
        refine lv_goto (tgt := 43) hx hb dX12_copiedFor_28 (by decide) ?_
        exact hret _ _ _ _ _ h rfl hG dX12_copiedFor_43
    · replace h := it c15 h
      refine lv_iconst (v := 0) hx hb dX12_copiedFor_18 (by decide) ?_
      exact hret _ _ _ _ _ h rfl hG dX12_copiedFor_19
set_option maxHeartbeats 4000000 in
set_option maxRecDepth 100000 in
theorem c_X12_mayBe (l : Launch) (E : GE) (am : Nat → Nat) (N : Nat) (x1 : Int32) (x2 : Int32) (mm : RS) {res : Int32} (h : fX12_mayBe N x1 x2 mm = some res) : gMi l E yX12_mayBe cX12_mayBe 4 .boolean 3 0 0 [.ref (am 0), .int x1, .int x2] (rM E am mm ++ []) (rM E am mm ++ []) res := by
  refine gMi_of (own := RX12) (by decide +kernel) rfl (Nat.le_of_ble_eq_true rfl) ?_
  intro p e s m args below meth c A ls Q H locs C hz hl hG hret
  have hx := C.1.1
  have hb := C.1.2.1
  have hts := C.1.2.2.2.2
  have hown := C.1.2.2.2.1
  have hl : lv_has ls 4 [(0, .ref (am 0)), (1, .int x1), (2, .int x2)] := hl
  replace hret : ∀ (r0 : Int32) (H : Heap) (locs : List Loc) (pc : Nat) (ls' : Array Slot), some r0 = some res → narrow .boolean (.int r0) = .int r0 → gG E A s.heap (rM E am mm ++ []) H locs → decode cX12_mayBe pc = .ok (.ireturn, 1) → W p l e (rmD 3 0 0) s m args below meth c H locs 0 0 Q (F0 m pc ls' [.int r0]) := by
    intro r0 H locs pc ls' e0 hn; cases e0; exact hret H locs pc ls' hn
  have K22 : ∀  (s0 : Int32) (s1 : Int32) (H : Heap) (locs : List Loc) (ls : Array Slot), gG E A s.heap (rM E am mm ++ []) H locs → lv_has ls 4 [] → fX12_mayBe_L22 N x1 x2 mm s0 s1 = some res → W p l e (rmD 3 0 0) s m args below meth c H locs 0 0 Q (F0 m 22 ls [.int s1, .int s0]) := by
    intro s0 s1 H locs ls hG hl h
    rw [fX12_mayBe_L22] at h
    refine lv_icmp_ne (tgt := 29) hx hb dX12_mayBe_22 (by decide) (fun c22 => ?_) (fun c22 => ?_)
    · replace h := ie c22 h
      refine lv_iconst (v := 0) hx hb dX12_mayBe_29 (by decide) ?_
      exact hret _ _ _ _ _ h rfl hG dX12_mayBe_30
    · replace h := it c22 h
      refine lv_iconst (v := 1) hx hb dX12_mayBe_25 (by decide) ?_
      refine lv_goto (tgt := 30) hx hb dX12_mayBe_26 (by decide) ?_
      exact hret _ _ _ _ _ h rfl hG dX12_mayBe_30
  have K122 : ∀  (H : Heap) (locs : List Loc) (ls : Array Slot), gG E A s.heap (rM E am mm ++ []) H locs → lv_has ls 4 [] → fX12_mayBe_L122 N x1 x2 mm = some res → W p l e (rmD 3 0 0) s m args below meth c H locs 0 0 Q (F0 m 122 ls []) := by
    intro H locs ls hG hl h
    rw [fX12_mayBe_L122] at h
    refine lv_iconst (v := 1) hx hb dX12_mayBe_122 (by decide) ?_
    refine lv_goto (tgt := 127) hx hb dX12_mayBe_123 (by decide) ?_
    exact hret _ _ _ _ _ h rfl hG dX12_mayBe_127
  have K60 : ∀  (H : Heap) (locs : List Loc) (ls : Array Slot), gG E A s.heap (rM E am mm ++ []) H locs → lv_has ls 4 [(0, .ref (am 0)), (1, .int x1), (2, .int x2)] → fX12_mayBe_L60 N x1 x2 mm = some res → W p l e (rmD 3 0 0) s m args below meth c H locs 0 0 Q (F0 m 60 ls []) := by
    intro H locs ls hG hl h
    rw [fX12_mayBe_L60] at h
    refine lv_iload_n hx hb dX12_mayBe_60 rfl (lv_at hl 2 rfl) ?_
    refine lv_if_eq (tgt := 122) hx hb dX12_mayBe_61 (by decide) (fun c61 => ?_) (fun c61 => ?_)
    · replace h := it c61 h
      exact K122 _ _ _ hG (lv_sub hl [] rfl) h
    · replace h := ie c61 h
      refine lv_aload_n hx hb dX12_mayBe_64 rfl (lv_at hl 0 rfl) ?_
      refine lv_iload_n hx hb dX12_mayBe_65 rfl (lv_at hl 1 rfl) ?_
      obtain ⟨r1, hcr1, h⟩ := bnd_some h
      refine gF_i (ws' := (rM E am mm ++ [])) C hG (pin pnil) (List.Perm.symm (pin pnil)) (gR_V (As := [.int x1]) (rest := []) C hz hl.1 hG (pin pnil) (c_X12_isFast l E am N x1 mm hcr1 H.size) okX12_isFast q1551 0 rfl rfl rfl (Nat.le_of_ble_eq_true rfl) (by omega) ⟨Nat.le_refl _, Nat.le_refl _⟩ dX12_mayBe_66) (fun H locs z2 hG => ?_)
      refine lv_if_ne (tgt := 122) hx hb dX12_mayBe_69 (by decide) (fun c69 => ?_) (fun c69 => ?_)
      · replace h := ie c69 h
        exact K122 _ _ _ hG (lv_sub hl [] rfl) h
      · replace h := it c69 h
        refine lv_aload_n hx hb dX12_mayBe_72 rfl (lv_at hl 0 rfl) ?_
        refine gL_f (v := .ref (am 1)) C hG kX12 0 0 rfl (by decide) rfl q1352 rfl dX12_mayBe_73 ?_
        refine lv_bipush (v := 69) hx hb dX12_mayBe_76 (by decide) ?_
        refine lv_iload_n hx hb dX12_mayBe_78 rfl (lv_at hl 1 rfl) ?_
        refine lv_iadd hx hb dX12_mayBe_79 ?_
        obtain ⟨b3, h⟩ := ck_some h
        refine gL_i (v := (mm 1 (69 + x1).toNatClampNeg)) C hG 1 rfl (inb_in b3) rfl dX12_mayBe_80 ?_
        refine lv_iconst (v := 1) hx hb dX12_mayBe_81 (by decide) ?_
        refine lv_icmp_eq (tgt := 122) hx hb dX12_mayBe_82 (by decide) (fun c82 => ?_) (fun c82 => ?_)
        · replace h := it c82 h
          exact K122 _ _ _ hG (lv_sub hl [] rfl) h
        · replace h := ie c82 h
          refine lv_aload_n hx hb dX12_mayBe_85 rfl (lv_at hl 0 rfl) ?_
          refine gL_f (v := .ref (am 1)) C hG kX12 0 0 rfl (by decide) rfl q1352 rfl dX12_mayBe_86 ?_
          refine lv_bipush (v := 29) hx hb dX12_mayBe_89 (by decide) ?_
          refine lv_iload_n hx hb dX12_mayBe_91 rfl (lv_at hl 1 rfl) ?_
          refine lv_iadd hx hb dX12_mayBe_92 ?_
          obtain ⟨b4, h⟩ := ck_some h
          refine gL_i (v := (mm 1 (29 + x1).toNatClampNeg)) C hG 1 rfl (inb_in b4) rfl dX12_mayBe_93 ?_
          obtain ⟨r5, hcr5, h⟩ := bnd_some h
          refine gF_i (ws' := (rM E am mm ++ [])) C hG pst pst.symm (gR_S (As := [.int (mm 1 (29 + x1).toNatClampNeg)]) (rest := []) C hz hl.1 hG pst (c_X12_bitsOf l E N (mm 1 (29 + x1).toNatClampNeg) hcr5 H.size) okX12_bitsOf q1705 rfl (Nat.le_of_ble_eq_true rfl) (by omega) ⟨Nat.le_refl _, Nat.le_refl _⟩ dX12_mayBe_94) (fun H locs _ hG => ?_)
          refine lv_iconst (v := 2) hx hb dX12_mayBe_97 (by decide) ?_
          refine lv_icmp_lt (tgt := 126) hx hb dX12_mayBe_98 (by decide) (fun c98 => ?_) (fun c98 => ?_)
          · replace h := it c98 h
            refine lv_iconst (v := 0) hx hb dX12_mayBe_126 (by decide) ?_
            exact hret _ _ _ _ _ h rfl hG dX12_mayBe_127
          · replace h := ie c98 h
            refine lv_aload_n hx hb dX12_mayBe_101 rfl (lv_at hl 0 rfl) ?_
            refine gL_f (v := .ref (am 1)) C hG kX12 0 0 rfl (by decide) rfl q1352 rfl dX12_mayBe_102 ?_
            refine lv_bipush (v := 49) hx hb dX12_mayBe_105 (by decide) ?_
            refine lv_iload_n hx hb dX12_mayBe_107 rfl (lv_at hl 1 rfl) ?_
            refine lv_iadd hx hb dX12_mayBe_108 ?_
            obtain ⟨b6, h⟩ := ck_some h
            refine gL_i (v := (mm 1 (49 + x1).toNatClampNeg)) C hG 1 rfl (inb_in b6) rfl dX12_mayBe_109 ?_
            refine lv_aload_n hx hb dX12_mayBe_110 rfl (lv_at hl 0 rfl) ?_
            refine gL_f (v := .ref (am 1)) C hG kX12 0 0 rfl (by decide) rfl q1352 rfl dX12_mayBe_111 ?_
            refine lv_bipush (v := 39) hx hb dX12_mayBe_114 (by decide) ?_
            refine lv_iload_n hx hb dX12_mayBe_116 rfl (lv_at hl 1 rfl) ?_
            refine lv_iadd hx hb dX12_mayBe_117 ?_
            obtain ⟨b7, h⟩ := ck_some h
            refine gL_i (v := (mm 1 (39 + x1).toNatClampNeg)) C hG 1 rfl (inb_in b7) rfl dX12_mayBe_118 ?_
            refine lv_icmp_gt (tgt := 126) hx hb dX12_mayBe_119 (by decide) (fun c119 => ?_) (fun c119 => ?_)
            · replace h := it c119 h
              refine lv_iconst (v := 0) hx hb dX12_mayBe_126 (by decide) ?_
              exact hret _ _ _ _ _ h rfl hG dX12_mayBe_127
            · replace h := ie c119 h
              exact K122 _ _ _ hG (lv_sub hl [] rfl) h
  rw [fX12_mayBe] at h
  refine lv_aload_n hx hb dX12_mayBe_0 rfl (lv_at hl 0 rfl) ?_
  refine lv_iload_n hx hb dX12_mayBe_1 rfl (lv_at hl 1 rfl) ?_
  obtain ⟨r1, hcr1, h⟩ := bnd_some h
  refine gF_i (ws' := (rM E am mm ++ [])) C hG (pin pnil) (List.Perm.symm (pin pnil)) (gR_V (As := [.int x1]) (rest := []) C hz hl.1 hG (pin pnil) (c_X12_begunOf l E am N x1 mm hcr1 H.size) okX12_begunOf q1701 0 rfl rfl rfl (Nat.le_of_ble_eq_true rfl) (by omega) ⟨Nat.le_refl _, Nat.le_refl _⟩ dX12_mayBe_2) (fun H locs _ hG => ?_)
  refine lv_istore_n (lv' := [(3, .int r1), (0, .ref (am 0)), (1, .int x1), (2, .int x2)]) hx hb dX12_mayBe_5 rfl hl (by decide) rfl (fun ls hl => ?_)
  refine lv_iload_n hx hb dX12_mayBe_6 rfl (lv_at hl 0 rfl) ?_
  refine lv_iconst (v := (-1)) hx hb dX12_mayBe_7 (by decide) ?_
  refine lv_icmp_eq (tgt := 31) hx hb dX12_mayBe_8 (by decide) (fun c8 => ?_) (fun c8 => ?_)
  · replace h := it c8 h
    refine lv_aload_n hx hb dX12_mayBe_31 rfl (lv_at hl 1 rfl) ?_
    refine gL_f (v := .ref (am 1)) C hG kX12 0 0 rfl (by decide) rfl q1352 rfl dX12_mayBe_32 ?_
    refine lv_bipush (v := 59) hx hb dX12_mayBe_35 (by decide) ?_
    refine lv_iload_n hx hb dX12_mayBe_37 rfl (lv_at hl 2 rfl) ?_
    refine lv_iadd hx hb dX12_mayBe_38 ?_
    obtain ⟨b2, h⟩ := ck_some h
    refine gL_i (v := (mm 1 (59 + x1).toNatClampNeg)) C hG 1 rfl (inb_in b2) rfl dX12_mayBe_39 ?_
    refine lv_aload_n hx hb dX12_mayBe_40 rfl (lv_at hl 1 rfl) ?_
    refine gL_f (v := .ref (am 1)) C hG kX12 0 0 rfl (by decide) rfl q1352 rfl dX12_mayBe_41 ?_
    refine lv_iconst (v := 5) hx hb dX12_mayBe_44 (by decide) ?_
    refine gL_i (v := (mm 1 5)) C hG 1 rfl (vp_in_nI (n := 5) (by decide) (by decide)) (congrArg (mm 1) (nI_clamp (n := 5) (by decide))) dX12_mayBe_45 ?_
    refine lv_icmp_le (tgt := 60) hx hb dX12_mayBe_46 (by decide) (fun c46 => ?_) (fun c46 => ?_)
    · replace h := it c46 h
      exact K60 _ _ _ hG (lv_sub hl [1, 2, 3] rfl) h
    · replace h := ie c46 h
      refine lv_iload_n hx hb dX12_mayBe_49 rfl (lv_at hl 3 rfl) ?_
      refine lv_aload_n hx hb dX12_mayBe_50 rfl (lv_at hl 1 rfl) ?_
      refine lv_iload_n hx hb dX12_mayBe_51 rfl (lv_at hl 2 rfl) ?_
      obtain ⟨r3, hcr3, h⟩ := bnd_some h
      refine gF_i (ws' := (rM E am mm ++ [])) C hG (pin pnil) (List.Perm.symm (pin pnil)) (gR_V (As := [.int x1]) (rest := [.int x2]) C hz hl.1 hG (pin pnil) (c_X12_isFast l E am N x1 mm hcr3 H.size) okX12_isFast q1551 0 rfl rfl rfl (Nat.le_of_ble_eq_true rfl) (by omega) ⟨Nat.le_refl _, Nat.le_refl _⟩ dX12_mayBe_52) (fun H locs z4 hG => ?_)
      refine lv_icmp_eq (tgt := 60) hx hb dX12_mayBe_55 (by decide) (fun c55 => ?_) (fun c55 => ?_)
      · replace h := it c55 h
        exact K60 _ _ _ hG (lv_sub hl [1, 2, 3] rfl) h
      · replace h := ie c55 h
        refine lv_iconst (v := 0) hx hb dX12_mayBe_58 (by decide) ?_
        exact hret _ _ _ _ _ h rfl hG dX12_mayBe_59
  · replace h := ie c8 h
    refine lv_iload_n hx hb dX12_mayBe_11 rfl (lv_at hl 3 rfl) ?_
    refine lv_iload_n hx hb dX12_mayBe_12 rfl (lv_at hl 0 rfl) ?_
    refine lv_iconst (v := 1) hx hb dX12_mayBe_13 (by decide) ?_
    refine lv_icmp_ne (tgt := 21) hx hb dX12_mayBe_14 (by decide) (fun c14 => ?_) (fun c14 => ?_)
    · replace h := ie c14 h
      refine lv_iconst (v := 0) hx hb dX12_mayBe_21 (by decide) ?_
      exact K22 x2 0 _ _ _ hG (lv_sub hl [] rfl) h
    · replace h := it c14 h
      refine lv_iconst (v := 1) hx hb dX12_mayBe_17 (by decide) ?_
      refine lv_goto (tgt := 22) hx hb dX12_mayBe_18 (by decide) ?_
      exact K22 x2 1 _ _ _ hG (lv_sub hl [] rfl) h
set_option maxHeartbeats 4000000 in
set_option maxRecDepth 100000 in
theorem c_X12_isAllowed (l : Launch) (E : GE) (am : Nat → Nat) (N : Nat) (x1 : Int32) (x2 : Int32) (mm : RS) {res : Int32} (h : fX12_isAllowed N x1 x2 mm = some res) : gMi l E yX12_isAllowed cX12_isAllowed 7 .boolean 4 0 0 [.ref (am 0), .int x1, .int x2] (rM E am mm ++ []) (rM E am mm ++ []) res := by
  refine gMi_of (own := RX12) (by decide +kernel) rfl (Nat.le_of_ble_eq_true rfl) ?_
  intro p e s m args below meth c A ls Q H locs C hz hl hG hret
  have hx := C.1.1
  have hb := C.1.2.1
  have hts := C.1.2.2.2.2
  have hown := C.1.2.2.2.1
  have hl : lv_has ls 7 [(0, .ref (am 0)), (1, .int x1), (2, .int x2)] := hl
  replace hret : ∀ (r0 : Int32) (H : Heap) (locs : List Loc) (pc : Nat) (ls' : Array Slot), some r0 = some res → narrow .boolean (.int r0) = .int r0 → gG E A s.heap (rM E am mm ++ []) H locs → decode cX12_isAllowed pc = .ok (.ireturn, 1) → W p l e (rmD 4 0 0) s m args below meth c H locs 0 0 Q (F0 m pc ls' [.int r0]) := by
    intro r0 H locs pc ls' e0 hn; cases e0; exact hret H locs pc ls' hn
  have K51 : ∀ (k8 : (Int32 → Int32 → Int32 → Option (Int32))) (hk8 : ∀  (x3 : Int32) (x4 : Int32) (x5 : Int32) (H : Heap) (locs : List Loc) (ls : Array Slot), gG E A s.heap (rM E am mm ++ []) H locs → lv_has ls 7 [(0, .ref (am 0)), (1, .int x1), (2, .int x2), (3, .int x3), (4, .int x4), (5, .int x5)] → k8 x3 x4 x5 = some res → W p l e (rmD 4 0 0) s m args below meth c H locs 0 0 Q (F0 m 8 ls [])), ∀  (x4 : Int32) (x5 : Int32) (x6 : Int32) (s0 : Int32) (s1 : Int32) (H : Heap) (locs : List Loc) (ls : Array Slot), gG E A s.heap (rM E am mm ++ []) H locs → lv_has ls 7 [(0, .ref (am 0)), (1, .int x1), (2, .int x2), (4, .int x4), (5, .int x5), (6, .int x6)] → fX12_isAllowed_L51 N x1 x2 mm k8 x4 x5 x6 s0 s1 = some res → W p l e (rmD 4 0 0) s m args below meth c H locs 0 0 Q (F0 m 51 ls [.int s1, .int s0]) := by
    intro k8 hk8 x4 x5 x6 s0 s1 H locs ls hG hl h
    rw [fX12_isAllowed_L51] at h
    refine lv_iadd hx hb dX12_isAllowed_51 ?_
    obtain ⟨x3_1, ex3_1, h⟩ := thn_some h
    refine g_int ex3_1 ?_
    refine lv_istore_n (lv' := [(3, .int x3_1), (0, .ref (am 0)), (1, .int x1), (2, .int x2), (4, .int x4), (5, .int x5), (6, .int x6)]) hx hb dX12_isAllowed_52 rfl hl (by decide) rfl (fun ls hl => ?_)
    refine lv_iload hx hb dX12_isAllowed_53 (lv_at hl 4 rfl) ?_
    refine lv_aload_n hx hb dX12_isAllowed_55 rfl (lv_at hl 1 rfl) ?_
    refine lv_iload hx hb dX12_isAllowed_56 (lv_at hl 5 rfl) ?_
    refine lv_iload hx hb dX12_isAllowed_58 (lv_at hl 6 rfl) ?_
    obtain ⟨r2, hcr2, h⟩ := bnd_some h
    refine gF_i (ws' := (rM E am mm ++ [])) C hG (pin pnil) (List.Perm.symm (pin pnil)) (gR_V (As := [.int x5, .int x6]) (rest := [.int x4]) C hz hl.1 hG (pin pnil) (c_X12_copiedFor l E am N x5 x6 mm hcr2 H.size) okX12_copiedFor q1708 0 rfl rfl rfl (Nat.le_of_ble_eq_true rfl) (by omega) ⟨Nat.le_refl _, Nat.le_refl _⟩ dX12_isAllowed_60) (fun H locs _ hG => ?_)
    refine lv_iadd hx hb dX12_isAllowed_63 ?_
    obtain ⟨x4_3, ex4_3, h⟩ := thn_some h
    refine g_int ex4_3 ?_
    refine lv_istore (lv' := [(4, .int x4_3), (3, .int x3_1), (0, .ref (am 0)), (1, .int x1), (2, .int x2), (5, .int x5), (6, .int x6)]) hx hb dX12_isAllowed_64 hl (by decide) rfl (fun ls hl => ?_)
    refine lv_iinc (v := (x5 + 1)) (lv' := [(5, .int (x5 + 1)), (4, .int x4_3), (3, .int x3_1), (0, .ref (am 0)), (1, .int x1), (2, .int x2), (6, .int x6)]) hx hb dX12_isAllowed_66 hl (k := 5) rfl (congrArg (x5 + ·) (by decide : Int32.ofInt 1 = 1)) (by decide) rfl (fun ls hl => ?_)
    refine lv_goto (tgt := 8) hx hb dX12_isAllowed_69 (by decide) ?_
    exact hk8 x3_1 x4_3 (x5 + 1) _ _ _ hG (lv_sub hl [3, 4, 5, 2, 1, 0] rfl) h
  have K8 : ∀ (k : Nat), ∀  (x3 : Int32) (x4 : Int32) (x5 : Int32) (H : Heap) (locs : List Loc) (ls : Array Slot), gG E A s.heap (rM E am mm ++ []) H locs → lv_has ls 7 [(0, .ref (am 0)), (1, .int x1), (2, .int x2), (3, .int x3), (4, .int x4), (5, .int x5)] → fX12_isAllowed_L8 N x1 x2 mm k x3 x4 x5 = some res → W p l e (rmD 4 0 0) s m args below meth c H locs 0 0 Q (F0 m 8 ls []) := by
    intro k
    induction k with
    | zero => intro x3 x4 x5 H locs ls hG hl h; exact absurd (show none = _ from h) (by simp)
    | succ k ih =>
      intro x3 x4 x5 H locs ls hG hl h
      rw [fX12_isAllowed_L8] at h
      refine lv_iload hx hb dX12_isAllowed_8 (lv_at hl 5 rfl) ?_
      refine lv_bipush (v := 10) hx hb dX12_isAllowed_10 (by decide) ?_
      refine lv_icmp_ge (tgt := 72) hx hb dX12_isAllowed_12 (by decide) (fun c12 => ?_) (fun c12 => ?_)
      · replace h := it c12 h
        refine lv_iload_n hx hb dX12_isAllowed_72 rfl (lv_at hl 3 rfl) ?_
        refine lv_bipush (v := 9) hx hb dX12_isAllowed_73 (by decide) ?_
        refine lv_icmp_gt (tgt := 88) hx hb dX12_isAllowed_75 (by decide) (fun c75 => ?_) (fun c75 => ?_)
        · replace h := it c75 h
          refine lv_iconst (v := 0) hx hb dX12_isAllowed_88 (by decide) ?_
          exact hret _ _ _ _ _ h rfl hG dX12_isAllowed_89
        · replace h := ie c75 h
          refine lv_iload hx hb dX12_isAllowed_78 (lv_at hl 4 rfl) ?_
          refine lv_iload_n hx hb dX12_isAllowed_80 rfl (lv_at hl 2 rfl) ?_
          refine lv_icmp_gt (tgt := 88) hx hb dX12_isAllowed_81 (by decide) (fun c81 => ?_) (fun c81 => ?_)
          · replace h := it c81 h
            refine lv_iconst (v := 0) hx hb dX12_isAllowed_88 (by decide) ?_
            exact hret _ _ _ _ _ h rfl hG dX12_isAllowed_89
          · replace h := ie c81 h
            refine lv_iconst (v := 1) hx hb dX12_isAllowed_84 (by decide) ?_
            refine lv_goto (tgt := 89) hx hb dX12_isAllowed_85 (by decide) ?_
            exact hret _ _ _ _ _ h rfl hG dX12_isAllowed_89
      · replace h := ie c12 h
        refine lv_iload_n hx hb dX12_isAllowed_15 rfl (lv_at hl 1 rfl) ?_
        refine lv_iload hx hb dX12_isAllowed_16 (lv_at hl 5 rfl) ?_
        refine gF_i (ws' := (rM E am mm ++ [])) C hG pst pst.symm (gR_S (As := [.int x1, .int x5]) (rest := []) C hz hl.1 hG pst (c_X12_has l E x1 x5 rfl H.size) okX12_has q1674 rfl (Nat.le_of_ble_eq_true rfl) (by omega) ⟨Nat.le_refl _, Nat.le_refl _⟩ dX12_isAllowed_18) (fun H locs z1 hG => ?_)
        obtain ⟨x6_2, ex6_2, h⟩ := thn_some h
        refine g_int ex6_2 ?_
        refine lv_istore (lv' := [(6, .int x6_2), (0, .ref (am 0)), (1, .int x1), (2, .int x2), (3, .int x3), (4, .int x4), (5, .int x5)]) hx hb dX12_isAllowed_21 hl (by decide) rfl (fun ls hl => ?_)
        refine lv_aload_n hx hb dX12_isAllowed_23 rfl (lv_at hl 1 rfl) ?_
        refine lv_iload hx hb dX12_isAllowed_24 (lv_at hl 6 rfl) ?_
        refine lv_iload hx hb dX12_isAllowed_26 (lv_at hl 0 rfl) ?_
        obtain ⟨r3, hcr3, h⟩ := bnd_some h
        refine gF_i (ws' := (rM E am mm ++ [])) C hG (pin pnil) (List.Perm.symm (pin pnil)) (gR_V (As := [.int x5, .int x6_2]) (rest := []) C hz hl.1 hG (pin pnil) (c_X12_mayBe l E am N x5 x6_2 mm hcr3 H.size) okX12_mayBe q1697 0 rfl rfl rfl (Nat.le_of_ble_eq_true rfl) (by omega) ⟨Nat.le_refl _, Nat.le_refl _⟩ dX12_isAllowed_28) (fun H locs z4 hG => ?_)
        refine lv_if_ne (tgt := 36) hx hb dX12_isAllowed_31 (by decide) (fun c31 => ?_) (fun c31 => ?_)
        · replace h := ie c31 h
          refine lv_iload_n hx hb dX12_isAllowed_36 rfl (lv_at hl 4 rfl) ?_
          refine lv_iload hx hb dX12_isAllowed_37 (lv_at hl 0 rfl) ?_
          refine lv_if_eq (tgt := 50) hx hb dX12_isAllowed_39 (by decide) (fun c39 => ?_) (fun c39 => ?_)
          · replace h := it c39 h
            refine lv_iconst (v := 0) hx hb dX12_isAllowed_50 (by decide) ?_
            exact K51 _ ih x4 x5 x6_2 x3 0 _ _ _ hG (lv_sub hl [1, 2, 3, 5, 6, 0] rfl) h
          · replace h := ie c39 h
            refine lv_iload hx hb dX12_isAllowed_42 (lv_at hl 6 rfl) ?_
            refine gF_i (ws' := (rM E am mm ++ [])) C hG pst pst.symm (gR_S (As := [.int x5]) (rest := [.int x3]) C hz hl.1 hG pst (c_X12_sizeOf l E x5 rfl H.size) okX12_sizeOf q1536 rfl (Nat.le_of_ble_eq_true rfl) (by omega) ⟨Nat.le_refl _, Nat.le_refl _⟩ dX12_isAllowed_44) (fun H locs _ hG => ?_)
            refine lv_goto (tgt := 51) hx hb dX12_isAllowed_47 (by decide) ?_
            exact K51 _ ih x4 x5 x6_2 x3 (fX12_sizeOf x5) _ _ _ hG (lv_sub hl [1, 2, 3, 5, 6, 0] rfl) h
        · replace h := it c31 h
          refine lv_iconst (v := 0) hx hb dX12_isAllowed_34 (by decide) ?_
          exact hret _ _ _ _ _ h rfl hG dX12_isAllowed_35
  rw [fX12_isAllowed] at h
  refine lv_iconst (v := 0) hx hb dX12_isAllowed_0 (by decide) ?_
  refine lv_istore_n (lv' := [(3, .int 0), (0, .ref (am 0)), (1, .int x1), (2, .int x2)]) hx hb dX12_isAllowed_1 rfl hl (by decide) rfl (fun ls hl => ?_)
  refine lv_iconst (v := 0) hx hb dX12_isAllowed_2 (by decide) ?_
  refine lv_istore (lv' := [(4, .int 0), (3, .int 0), (0, .ref (am 0)), (1, .int x1), (2, .int x2)]) hx hb dX12_isAllowed_3 hl (by decide) rfl (fun ls hl => ?_)
  refine lv_iconst (v := 0) hx hb dX12_isAllowed_5 (by decide) ?_
  refine lv_istore (lv' := [(5, .int 0), (4, .int 0), (3, .int 0), (0, .ref (am 0)), (1, .int x1), (2, .int x2)]) hx hb dX12_isAllowed_6 hl (by decide) rfl (fun ls hl => ?_)
  exact K8 N 0 0 0 _ _ _ hG (lv_sub hl [3, 4, 5, 2, 1, 0] rfl) h
set_option maxHeartbeats 4000000 in
set_option maxRecDepth 100000 in
theorem c_X12_worthOf (l : Launch) (E : GE) (am : Nat → Nat) (N : Nat) (x1 : Int32) (mm : RS) {res : Int32} (h : fX12_worthOf N x1 mm = some res) : gMi l E yX12_worthOf cX12_worthOf 4 .int 4 0 0 [.ref (am 0), .int x1] (rM E am mm ++ []) (rM E am mm ++ []) res := by
  refine gMi_of (own := RX12) (by decide +kernel) rfl (Nat.le_of_ble_eq_true rfl) ?_
  intro p e s m args below meth c A ls Q H locs C hz hl hG hret
  have hx := C.1.1
  have hb := C.1.2.1
  have hts := C.1.2.2.2.2
  have hown := C.1.2.2.2.1
  have hl : lv_has ls 4 [(0, .ref (am 0)), (1, .int x1)] := hl
  replace hret : ∀ (r0 : Int32) (H : Heap) (locs : List Loc) (pc : Nat) (ls' : Array Slot), some r0 = some res → narrow .int (.int r0) = .int r0 → gG E A s.heap (rM E am mm ++ []) H locs → decode cX12_worthOf pc = .ok (.ireturn, 1) → W p l e (rmD 4 0 0) s m args below meth c H locs 0 0 Q (F0 m pc ls' [.int r0]) := by
    intro r0 H locs pc ls' e0 hn; cases e0; exact hret H locs pc ls' hn
  have K118 : ∀ (k4 : (Int32 → Int32 → Option (Int32))) (hk4 : ∀  (x2 : Int32) (x3 : Int32) (H : Heap) (locs : List Loc) (ls : Array Slot), gG E A s.heap (rM E am mm ++ []) H locs → lv_has ls 4 [(0, .ref (am 0)), (1, .int x1), (2, .int x2), (3, .int x3)] → k4 x2 x3 = some res → W p l e (rmD 4 0 0) s m args below meth c H locs 0 0 Q (F0 m 4 ls [])), ∀  (x2 : Int32) (x3 : Int32) (H : Heap) (locs : List Loc) (ls : Array Slot), gG E A s.heap (rM E am mm ++ []) H locs → lv_has ls 4 [(0, .ref (am 0)), (1, .int x1), (2, .int x2), (3, .int x3)] → fX12_worthOf_L118 N x1 mm k4 x2 x3 = some res → W p l e (rmD 4 0 0) s m args below meth c H locs 0 0 Q (F0 m 118 ls []) := by
    intro k4 hk4 x2 x3 H locs ls hG hl h
    rw [fX12_worthOf_L118] at h
    refine lv_iinc (v := (x3 + 1)) (lv' := [(3, .int (x3 + 1)), (0, .ref (am 0)), (1, .int x1), (2, .int x2)]) hx hb dX12_worthOf_118 hl (k := 3) rfl (congrArg (x3 + ·) (by decide : Int32.ofInt 1 = 1)) (by decide) rfl (fun ls hl => ?_)
    refine lv_goto (tgt := 4) hx hb dX12_worthOf_121 (by decide) ?_
    exact hk4 x2 (x3 + 1) _ _ _ hG (lv_sub hl [1, 2, 3, 0] rfl) h
  have K116 : ∀ (k4 : (Int32 → Int32 → Option (Int32))) (hk4 : ∀  (x2 : Int32) (x3 : Int32) (H : Heap) (locs : List Loc) (ls : Array Slot), gG E A s.heap (rM E am mm ++ []) H locs → lv_has ls 4 [(0, .ref (am 0)), (1, .int x1), (2, .int x2), (3, .int x3)] → k4 x2 x3 = some res → W p l e (rmD 4 0 0) s m args below meth c H locs 0 0 Q (F0 m 4 ls [])), ∀  (x3 : Int32) (s0 : Int32) (s1 : Int32) (H : Heap) (locs : List Loc) (ls : Array Slot), gG E A s.heap (rM E am mm ++ []) H locs → lv_has ls 4 [(0, .ref (am 0)), (1, .int x1), (3, .int x3)] → fX12_worthOf_L116 N x1 mm k4 x3 s0 s1 = some res → W p l e (rmD 4 0 0) s m args below meth c H locs 0 0 Q (F0 m 116 ls [.int s1, .int s0]) := by
    intro k4 hk4 x3 s0 s1 H locs ls hG hl h
    rw [fX12_worthOf_L116] at h
    refine lv_iadd hx hb dX12_worthOf_116 ?_
    obtain ⟨x2_1, ex2_1, h⟩ := thn_some h
    refine g_int ex2_1 ?_
    refine lv_istore_n (lv' := [(2, .int x2_1), (0, .ref (am 0)), (1, .int x1), (3, .int x3)]) hx hb dX12_worthOf_117 rfl hl (by decide) rfl (fun ls hl => ?_)
    exact K118 _ hk4 x2_1 x3 _ _ _ hG (lv_sub hl [1, 2, 0, 3] rfl) h
  have K75 : ∀ (k4 : (Int32 → Int32 → Option (Int32))) (hk4 : ∀  (x2 : Int32) (x3 : Int32) (H : Heap) (locs : List Loc) (ls : Array Slot), gG E A s.heap (rM E am mm ++ []) H locs → lv_has ls 4 [(0, .ref (am 0)), (1, .int x1), (2, .int x2), (3, .int x3)] → k4 x2 x3 = some res → W p l e (rmD 4 0 0) s m args below meth c H locs 0 0 Q (F0 m 4 ls [])), ∀  (x3 : Int32) (s0 : Int32) (s1 : Int32) (s2 : Int32) (H : Heap) (locs : List Loc) (ls : Array Slot), gG E A s.heap (rM E am mm ++ []) H locs → lv_has ls 4 [(0, .ref (am 0)), (1, .int x1), (3, .int x3)] → fX12_worthOf_L75 N x1 mm k4 x3 s0 s1 s2 = some res → W p l e (rmD 4 0 0) s m args below meth c H locs 0 0 Q (F0 m 75 ls [.int s2, .int s1, .int s0]) := by
    intro k4 hk4 x3 s0 s1 s2 H locs ls hG hl h
    rw [fX12_worthOf_L75] at h
    refine lv_iadd hx hb dX12_worthOf_75 ?_
    refine lv_iadd hx hb dX12_worthOf_76 ?_
    obtain ⟨x2_1, ex2_1, h⟩ := thn_some h
    refine g_int ex2_1 ?_
    refine lv_istore_n (lv' := [(2, .int x2_1), (0, .ref (am 0)), (1, .int x1), (3, .int x3)]) hx hb dX12_worthOf_77 rfl hl (by decide) rfl (fun ls hl => ?_)
    refine lv_iload_n hx hb dX12_worthOf_78 rfl (lv_at hl 0 rfl) ?_
    refine lv_aload_n hx hb dX12_worthOf_79 rfl (lv_at hl 1 rfl) ?_
    refine gL_f (v := .ref (am 1)) C hG kX12 0 0 rfl (by decide) rfl q1352 rfl dX12_worthOf_80 ?_
    refine lv_bipush (v := 69) hx hb dX12_worthOf_83 (by decide) ?_
    refine lv_iload_n hx hb dX12_worthOf_85 rfl (lv_at hl 3 rfl) ?_
    refine lv_iadd hx hb dX12_worthOf_86 ?_
    obtain ⟨b2, h⟩ := ck_some h
    refine gL_i (v := (mm 1 (69 + x3).toNatClampNeg)) C hG 1 rfl (inb_in b2) rfl dX12_worthOf_87 ?_
    refine lv_iconst (v := 1) hx hb dX12_worthOf_88 (by decide) ?_
    refine lv_icmp_ne (tgt := 97) hx hb dX12_worthOf_89 (by decide) (fun c89 => ?_) (fun c89 => ?_)
    · replace h := ie c89 h
      refine lv_aload_n hx hb dX12_worthOf_97 rfl (lv_at hl 1 rfl) ?_
      refine gL_f (v := .ref (am 1)) C hG kX12 0 0 rfl (by decide) rfl q1352 rfl dX12_worthOf_98 ?_
      refine lv_bipush (v := 69) hx hb dX12_worthOf_101 (by decide) ?_
      refine lv_iload_n hx hb dX12_worthOf_103 rfl (lv_at hl 3 rfl) ?_
      refine lv_iadd hx hb dX12_worthOf_104 ?_
      refine gL_i (v := (mm 1 (69 + x3).toNatClampNeg)) C hG 1 rfl (inb_in b2) rfl dX12_worthOf_105 ?_
      refine lv_iconst (v := 2) hx hb dX12_worthOf_106 (by decide) ?_
      refine lv_icmp_ne (tgt := 115) hx hb dX12_worthOf_107 (by decide) (fun c107 => ?_) (fun c107 => ?_)
      · replace h := ie c107 h
        refine lv_iconst (v := 0) hx hb dX12_worthOf_115 (by decide) ?_
        exact K116 _ hk4 x3 x2_1 0 _ _ _ hG (lv_sub hl [1, 2, 3] rfl) h
      · replace h := it c107 h
        refine lv_ldc (v := (-100000)) hx hb hown (hts _ q1717) dX12_worthOf_110 ?_
        refine lv_goto (tgt := 116) hx hb dX12_worthOf_112 (by decide) ?_
        exact K116 _ hk4 x3 x2_1 (-100000) _ _ _ hG (lv_sub hl [1, 2, 3] rfl) h
    · replace h := it c89 h
      refine lv_ldc (v := 100000) hx hb hown (hts _ q1716) dX12_worthOf_92 ?_
      refine lv_goto (tgt := 116) hx hb dX12_worthOf_94 (by decide) ?_
      exact K116 _ hk4 x3 x2_1 100000 _ _ _ hG (lv_sub hl [1, 2, 3] rfl) h
  have K4 : ∀ (k : Nat), ∀  (x2 : Int32) (x3 : Int32) (H : Heap) (locs : List Loc) (ls : Array Slot), gG E A s.heap (rM E am mm ++ []) H locs → lv_has ls 4 [(0, .ref (am 0)), (1, .int x1), (2, .int x2), (3, .int x3)] → fX12_worthOf_L4 N x1 mm k x2 x3 = some res → W p l e (rmD 4 0 0) s m args below meth c H locs 0 0 Q (F0 m 4 ls []) := by
    intro k
    induction k with
    | zero => intro x2 x3 H locs ls hG hl h; exact absurd (show none = _ from h) (by simp)
    | succ k ih =>
      intro x2 x3 H locs ls hG hl h
      rw [fX12_worthOf_L4] at h
      refine lv_iload_n hx hb dX12_worthOf_4 rfl (lv_at hl 3 rfl) ?_
      refine lv_bipush (v := 10) hx hb dX12_worthOf_5 (by decide) ?_
      refine lv_icmp_ge (tgt := 124) hx hb dX12_worthOf_7 (by decide) (fun c7 => ?_) (fun c7 => ?_)
      · replace h := it c7 h
        refine lv_iload_n hx hb dX12_worthOf_124 rfl (lv_at hl 2 rfl) ?_
        exact hret _ _ _ _ _ h rfl hG dX12_worthOf_125
      · replace h := ie c7 h
        refine lv_iload_n hx hb dX12_worthOf_10 rfl (lv_at hl 2 rfl) ?_
        refine lv_aload_n hx hb dX12_worthOf_11 rfl (lv_at hl 0 rfl) ?_
        refine gL_f (v := .ref (am 1)) C hG kX12 0 0 rfl (by decide) rfl q1352 rfl dX12_worthOf_12 ?_
        refine lv_bipush (v := 9) hx hb dX12_worthOf_15 (by decide) ?_
        refine gL_i (v := (mm 1 9)) C hG 1 rfl (vp_in_nI (n := 9) (by decide) (by decide)) (congrArg (mm 1) (nI_clamp (n := 9) (by decide))) dX12_worthOf_17 ?_
        refine lv_aload_n hx hb dX12_worthOf_18 rfl (lv_at hl 0 rfl) ?_
        refine lv_iload_n hx hb dX12_worthOf_19 rfl (lv_at hl 3 rfl) ?_
        refine lv_iload_n hx hb dX12_worthOf_20 rfl (lv_at hl 1 rfl) ?_
        refine lv_iload_n hx hb dX12_worthOf_21 rfl (lv_at hl 3 rfl) ?_
        refine gF_i (ws' := (rM E am mm ++ [])) C hG pst pst.symm (gR_S (As := [.int x1, .int x3]) (rest := [.int x3, .ref (am 0), .int (mm 1 9), .int x2]) C hz hl.1 hG pst (c_X12_has l E x1 x3 rfl H.size) okX12_has q1674 rfl (Nat.le_of_ble_eq_true rfl) (by omega) ⟨Nat.le_refl _, Nat.le_refl _⟩ dX12_worthOf_22) (fun H locs z1 hG => ?_)
        obtain ⟨r2, hcr2, h⟩ := bnd_some h
        refine gF_i (ws' := (rM E am mm ++ [])) C hG (pin pnil) (List.Perm.symm (pin pnil)) (gR_V (As := [.int x3, .int (fX12_has x1 x3)]) (rest := [.int (mm 1 9), .int x2]) C hz hl.1 hG (pin pnil) (c_X12_copiedFor l E am N x3 (fX12_has x1 x3) mm hcr2 H.size) okX12_copiedFor q1708 0 rfl rfl rfl (Nat.le_of_ble_eq_true rfl) (by omega) ⟨Nat.le_refl _, Nat.le_refl _⟩ dX12_worthOf_25) (fun H locs _ hG => ?_)
        refine lv_imul hx hb dX12_worthOf_28 ?_
        refine lv_isub hx hb dX12_worthOf_29 ?_
        obtain ⟨x2_3, ex2_3, h⟩ := thn_some h
        refine g_int ex2_3 ?_
        refine lv_istore_n (lv' := [(2, .int x2_3), (0, .ref (am 0)), (1, .int x1), (3, .int x3)]) hx hb dX12_worthOf_30 rfl hl (by decide) rfl (fun ls hl => ?_)
        refine lv_iload_n hx hb dX12_worthOf_31 rfl (lv_at hl 2 rfl) ?_
        refine lv_iload_n hx hb dX12_worthOf_32 rfl (lv_at hl 3 rfl) ?_
        refine gF_i (ws' := (rM E am mm ++ [])) C hG pst pst.symm (gR_S (As := [.int x1, .int x3]) (rest := []) C hz hl.1 hG pst (c_X12_has l E x1 x3 rfl H.size) okX12_has q1674 rfl (Nat.le_of_ble_eq_true rfl) (by omega) ⟨Nat.le_refl _, Nat.le_refl _⟩ dX12_worthOf_33) (fun H locs z4 hG => ?_)
        refine lv_if_ne (tgt := 42) hx hb dX12_worthOf_36 (by decide) (fun c36 => ?_) (fun c36 => ?_)
        · replace h := ie c36 h
          refine lv_iload_n hx hb dX12_worthOf_42 rfl (lv_at hl 0 rfl) ?_
          refine lv_aload_n hx hb dX12_worthOf_43 rfl (lv_at hl 1 rfl) ?_
          refine gL_f (v := .ref (am 1)) C hG kX12 0 0 rfl (by decide) rfl q1352 rfl dX12_worthOf_44 ?_
          refine lv_bipush (v := 19) hx hb dX12_worthOf_47 (by decide) ?_
          refine lv_iload_n hx hb dX12_worthOf_49 rfl (lv_at hl 3 rfl) ?_
          refine lv_iadd hx hb dX12_worthOf_50 ?_
          obtain ⟨b5, h⟩ := ck_some h
          refine gL_i (v := (mm 1 (19 + x3).toNatClampNeg)) C hG 1 rfl (inb_in b5) rfl dX12_worthOf_51 ?_
          refine lv_aload_n hx hb dX12_worthOf_52 rfl (lv_at hl 1 rfl) ?_
          refine lv_iload_n hx hb dX12_worthOf_53 rfl (lv_at hl 3 rfl) ?_
          obtain ⟨r6, hcr6, h⟩ := bnd_some h
          refine gF_i (ws' := (rM E am mm ++ [])) C hG (pin pnil) (List.Perm.symm (pin pnil)) (gR_V (As := [.int x3]) (rest := [.int (mm 1 (19 + x3).toNatClampNeg), .int x2_3]) C hz hl.1 hG (pin pnil) (c_X12_isFast l E am N x3 mm hcr6 H.size) okX12_isFast q1551 0 rfl rfl rfl (Nat.le_of_ble_eq_true rfl) (by omega) ⟨Nat.le_refl _, Nat.le_refl _⟩ dX12_worthOf_54) (fun H locs z7 hG => ?_)
          refine lv_if_eq (tgt := 74) hx hb dX12_worthOf_57 (by decide) (fun c57 => ?_) (fun c57 => ?_)
          · replace h := it c57 h
            refine lv_iconst (v := 0) hx hb dX12_worthOf_74 (by decide) ?_
            exact K75 _ ih x3 x2_3 (mm 1 (19 + x3).toNatClampNeg) 0 _ _ _ hG (lv_sub hl [1, 2, 3] rfl) h
          · replace h := ie c57 h
            refine lv_aload_n hx hb dX12_worthOf_60 rfl (lv_at hl 1 rfl) ?_
            refine gL_f (v := .ref (am 1)) C hG kX12 0 0 rfl (by decide) rfl q1352 rfl dX12_worthOf_61 ?_
            refine lv_bipush (v := 19) hx hb dX12_worthOf_64 (by decide) ?_
            refine lv_iload_n hx hb dX12_worthOf_66 rfl (lv_at hl 3 rfl) ?_
            refine lv_iadd hx hb dX12_worthOf_67 ?_
            refine gL_i (v := (mm 1 (19 + x3).toNatClampNeg)) C hG 1 rfl (inb_in b5) rfl dX12_worthOf_68 ?_
            refine lv_iconst (v := 4) hx hb dX12_worthOf_69 (by decide) ?_
            refine lv_idiv hx hb dX12_worthOf_70 (by decide) ?_
            refine lv_goto (tgt := 75) hx hb dX12_worthOf_71 (by decide) ?_
            exact K75 _ ih x3 x2_3 (mm 1 (19 + x3).toNatClampNeg) ((mm 1 (19 + x3).toNatClampNeg) / 4) _ _ _ hG (lv_sub hl [1, 2, 3] rfl) h
        · replace h := it c36 h
          refine lv_goto (tgt := 118) hx hb dX12_worthOf_39 (by decide) ?_
          exact K118 _ ih x2_3 x3 _ _ _ hG (lv_sub hl [1, 2, 0, 3] rfl) h
  rw [fX12_worthOf] at h
  refine lv_iconst (v := 0) hx hb dX12_worthOf_0 (by decide) ?_
  refine lv_istore_n (lv' := [(2, .int 0), (0, .ref (am 0)), (1, .int x1)]) hx hb dX12_worthOf_1 rfl hl (by decide) rfl (fun ls hl => ?_)
  refine lv_iconst (v := 0) hx hb dX12_worthOf_2 (by decide) ?_
  refine lv_istore_n (lv' := [(3, .int 0), (2, .int 0), (0, .ref (am 0)), (1, .int x1)]) hx hb dX12_worthOf_3 rfl hl (by decide) rfl (fun ls hl => ?_)
  exact K4 N 0 0 _ _ _ hG (lv_sub hl [2, 3, 1, 0] rfl) h
set_option maxHeartbeats 4000000 in
set_option maxRecDepth 100000 in
theorem c_X12_bestSet (l : Launch) (E : GE) (am : Nat → Nat) (N : Nat) (x1 : Int32) (mm : RS) {res : Int32} (h : fX12_bestSet N x1 mm = some res) : gMi l E yX12_bestSet cX12_bestSet 4 .int 5 0 0 [.ref (am 0), .int x1] (rM E am mm ++ []) (rM E am mm ++ []) res := by
  refine gMi_of (own := RX12) (by decide +kernel) rfl (Nat.le_of_ble_eq_true rfl) ?_
  intro p e s m args below meth c A ls Q H locs C hz hl hG hret
  have hx := C.1.1
  have hb := C.1.2.1
  have hts := C.1.2.2.2.2
  have hown := C.1.2.2.2.1
  have hl : lv_has ls 4 [(0, .ref (am 0)), (1, .int x1)] := hl
  replace hret : ∀ (r0 : Int32) (H : Heap) (locs : List Loc) (pc : Nat) (ls' : Array Slot), some r0 = some res → narrow .int (.int r0) = .int r0 → gG E A s.heap (rM E am mm ++ []) H locs → decode cX12_bestSet pc = .ok (.ireturn, 1) → W p l e (rmD 5 0 0) s m args below meth c H locs 0 0 Q (F0 m pc ls' [.int r0]) := by
    intro r0 H locs pc ls' e0 hn; cases e0; exact hret H locs pc ls' hn
  have K40 : ∀ (k4 : (Int32 → Int32 → Option (Int32))) (hk4 : ∀  (x2 : Int32) (x3 : Int32) (H : Heap) (locs : List Loc) (ls : Array Slot), gG E A s.heap (rM E am mm ++ []) H locs → lv_has ls 4 [(0, .ref (am 0)), (1, .int x1), (2, .int x2), (3, .int x3)] → k4 x2 x3 = some res → W p l e (rmD 5 0 0) s m args below meth c H locs 0 0 Q (F0 m 4 ls [])), ∀  (x2 : Int32) (x3 : Int32) (H : Heap) (locs : List Loc) (ls : Array Slot), gG E A s.heap (rM E am mm ++ []) H locs → lv_has ls 4 [(0, .ref (am 0)), (1, .int x1), (2, .int x2), (3, .int x3)] → fX12_bestSet_L40 N x1 mm k4 x2 x3 = some res → W p l e (rmD 5 0 0) s m args below meth c H locs 0 0 Q (F0 m 40 ls []) := by
    intro k4 hk4 x2 x3 H locs ls hG hl h
    rw [fX12_bestSet_L40] at h
    refine lv_iinc (v := (x3 + 1)) (lv' := [(3, .int (x3 + 1)), (0, .ref (am 0)), (1, .int x1), (2, .int x2)]) hx hb dX12_bestSet_40 hl (k := 3) rfl (congrArg (x3 + ·) (by decide : Int32.ofInt 1 = 1)) (by decide) rfl (fun ls hl => ?_)
    refine lv_goto (tgt := 4) hx hb dX12_bestSet_43 (by decide) ?_
    exact hk4 x2 (x3 + 1) _ _ _ hG (lv_sub hl [1, 2, 3, 0] rfl) h
  have K38 : ∀ (k4 : (Int32 → Int32 → Option (Int32))) (hk4 : ∀  (x2 : Int32) (x3 : Int32) (H : Heap) (locs : List Loc) (ls : Array Slot), gG E A s.heap (rM E am mm ++ []) H locs → lv_has ls 4 [(0, .ref (am 0)), (1, .int x1), (2, .int x2), (3, .int x3)] → k4 x2 x3 = some res → W p l e (rmD 5 0 0) s m args below meth c H locs 0 0 Q (F0 m 4 ls [])), ∀  (x3 : Int32) (H : Heap) (locs : List Loc) (ls : Array Slot), gG E A s.heap (rM E am mm ++ []) H locs → lv_has ls 4 [(0, .ref (am 0)), (1, .int x1), (3, .int x3)] → fX12_bestSet_L38 N x1 mm k4 x3 = some res → W p l e (rmD 5 0 0) s m args below meth c H locs 0 0 Q (F0 m 38 ls []) := by
    intro k4 hk4 x3 H locs ls hG hl h
    rw [fX12_bestSet_L38] at h
    refine lv_iload_n hx hb dX12_bestSet_38 rfl (lv_at hl 2 rfl) ?_
    refine lv_istore_n (lv' := [(2, .int x3), (0, .ref (am 0)), (1, .int x1), (3, .int x3)]) hx hb dX12_bestSet_39 rfl hl (by decide) rfl (fun ls hl => ?_)
    exact K40 _ hk4 x3 x3 _ _ _ hG (lv_sub hl [1, 2, 0, 3] rfl) h
  have K4 : ∀ (k : Nat), ∀  (x2 : Int32) (x3 : Int32) (H : Heap) (locs : List Loc) (ls : Array Slot), gG E A s.heap (rM E am mm ++ []) H locs → lv_has ls 4 [(0, .ref (am 0)), (1, .int x1), (2, .int x2), (3, .int x3)] → fX12_bestSet_L4 N x1 mm k x2 x3 = some res → W p l e (rmD 5 0 0) s m args below meth c H locs 0 0 Q (F0 m 4 ls []) := by
    intro k
    induction k with
    | zero => intro x2 x3 H locs ls hG hl h; exact absurd (show none = _ from h) (by simp)
    | succ k ih =>
      intro x2 x3 H locs ls hG hl h
      rw [fX12_bestSet_L4] at h
      refine lv_iload_n hx hb dX12_bestSet_4 rfl (lv_at hl 3 rfl) ?_
      refine lv_sipush (v := 1024) hx hb dX12_bestSet_5 (by decide) ?_
      refine lv_icmp_ge (tgt := 46) hx hb dX12_bestSet_8 (by decide) (fun c8 => ?_) (fun c8 => ?_)
      · replace h := it c8 h
        refine lv_iload_n hx hb dX12_bestSet_46 rfl (lv_at hl 2 rfl) ?_
        exact hret _ _ _ _ _ h rfl hG dX12_bestSet_47
      · replace h := ie c8 h
        refine lv_aload_n hx hb dX12_bestSet_11 rfl (lv_at hl 0 rfl) ?_
        refine lv_iload_n hx hb dX12_bestSet_12 rfl (lv_at hl 3 rfl) ?_
        refine lv_iload_n hx hb dX12_bestSet_13 rfl (lv_at hl 1 rfl) ?_
        obtain ⟨r1, hcr1, h⟩ := bnd_some h
        refine gF_i (ws' := (rM E am mm ++ [])) C hG (pin pnil) (List.Perm.symm (pin pnil)) (gR_V (As := [.int x3, .int x1]) (rest := []) C hz hl.1 hG (pin pnil) (c_X12_isAllowed l E am N x3 x1 mm hcr1 H.size) okX12_isAllowed q1693 0 rfl rfl rfl (Nat.le_of_ble_eq_true rfl) (by omega) ⟨Nat.le_refl _, Nat.le_refl _⟩ dX12_bestSet_14) (fun H locs z2 hG => ?_)
        refine lv_if_eq (tgt := 40) hx hb dX12_bestSet_17 (by decide) (fun c17 => ?_) (fun c17 => ?_)
        · replace h := it c17 h
          exact K40 _ ih x2 x3 _ _ _ hG (lv_sub hl [0, 1, 2, 3] rfl) h
        · replace h := ie c17 h
          refine lv_iload_n hx hb dX12_bestSet_20 rfl (lv_at hl 2 rfl) ?_
          refine lv_iconst (v := (-1)) hx hb dX12_bestSet_21 (by decide) ?_
          refine lv_icmp_eq (tgt := 38) hx hb dX12_bestSet_22 (by decide) (fun c22 => ?_) (fun c22 => ?_)
          · replace h := it c22 h
            exact K38 _ ih x3 _ _ _ hG (lv_sub hl [0, 1, 3] rfl) h
          · replace h := ie c22 h
            refine lv_aload_n hx hb dX12_bestSet_25 rfl (lv_at hl 0 rfl) ?_
            refine lv_iload_n hx hb dX12_bestSet_26 rfl (lv_at hl 3 rfl) ?_
            obtain ⟨r3, hcr3, h⟩ := bnd_some h
            refine gF_i (ws' := (rM E am mm ++ [])) C hG (pin pnil) (List.Perm.symm (pin pnil)) (gR_V (As := [.int x3]) (rest := []) C hz hl.1 hG (pin pnil) (c_X12_worthOf l E am N x3 mm hcr3 H.size) okX12_worthOf q1712 0 rfl rfl rfl (Nat.le_of_ble_eq_true rfl) (by omega) ⟨Nat.le_refl _, Nat.le_refl _⟩ dX12_bestSet_27) (fun H locs _ hG => ?_)
            refine lv_aload_n hx hb dX12_bestSet_30 rfl (lv_at hl 0 rfl) ?_
            refine lv_iload_n hx hb dX12_bestSet_31 rfl (lv_at hl 2 rfl) ?_
            obtain ⟨r4, hcr4, h⟩ := bnd_some h
            refine gF_i (ws' := (rM E am mm ++ [])) C hG (pin pnil) (List.Perm.symm (pin pnil)) (gR_V (As := [.int x2]) (rest := [.int r3]) C hz hl.1 hG (pin pnil) (c_X12_worthOf l E am N x2 mm hcr4 H.size) okX12_worthOf q1712 0 rfl rfl rfl (Nat.le_of_ble_eq_true rfl) (by omega) ⟨Nat.le_refl _, Nat.le_refl _⟩ dX12_bestSet_32) (fun H locs _ hG => ?_)
            refine lv_icmp_le (tgt := 40) hx hb dX12_bestSet_35 (by decide) (fun c35 => ?_) (fun c35 => ?_)
            · replace h := it c35 h
              exact K40 _ ih x2 x3 _ _ _ hG (lv_sub hl [0, 1, 2, 3] rfl) h
            · replace h := ie c35 h
              exact K38 _ ih x3 _ _ _ hG (lv_sub hl [0, 1, 3] rfl) h
  rw [fX12_bestSet] at h
  refine lv_iconst (v := (-1)) hx hb dX12_bestSet_0 (by decide) ?_
  refine lv_istore_n (lv' := [(2, .int (-1)), (0, .ref (am 0)), (1, .int x1)]) hx hb dX12_bestSet_1 rfl hl (by decide) rfl (fun ls hl => ?_)
  refine lv_iconst (v := 0) hx hb dX12_bestSet_2 (by decide) ?_
  refine lv_istore_n (lv' := [(3, .int 0), (2, .int (-1)), (0, .ref (am 0)), (1, .int x1)]) hx hb dX12_bestSet_3 rfl hl (by decide) rfl (fun ls hl => ?_)
  exact K4 N (-1) 0 _ _ _ hG (lv_sub hl [2, 3, 1, 0] rfl) h
set_option maxHeartbeats 4000000 in
set_option maxRecDepth 100000 in
theorem c_X12_layNew (l : Launch) (E : GE) (am : Nat → Nat) (N : Nat) (x1 : Int32) (mm : RS) {res : Int32 × RS} (h : fX12_layNew N x1 mm = some res) : gMi l E yX12_layNew cX12_layNew 6 .int 3 0 0 [.ref (am 0), .int x1] (rM E am mm ++ []) (rM E am res.2 ++ []) res.1 := by
  refine gMi_of (own := RX12) (by decide +kernel) rfl (Nat.le_of_ble_eq_true rfl) ?_
  intro p e s m args below meth c A ls Q H locs C hz hl hG hret
  have hx := C.1.1
  have hb := C.1.2.1
  have hts := C.1.2.2.2.2
  have hown := C.1.2.2.2.1
  have hl : lv_has ls 6 [(0, .ref (am 0)), (1, .int x1)] := hl
  replace hret : ∀ (r0 : Int32) (mm0 : RS) (H : Heap) (locs : List Loc) (pc : Nat) (ls' : Array Slot), some (r0, mm0) = some res → narrow .int (.int r0) = .int r0 → gG E A s.heap (rM E am mm0 ++ []) H locs → decode cX12_layNew pc = .ok (.ireturn, 1) → W p l e (rmD 3 0 0) s m args below meth c H locs 0 0 Q (F0 m pc ls' [.int r0]) := by
    intro r0 mm0 H locs pc ls' e0 hn; cases e0; exact hret H locs pc ls' hn
  have K48 : ∀ (k4 : (Int32 → Int32 → RS → Option (Int32 × RS))) (hk4 : ∀  (x2 : Int32) (x3 : Int32) (mm : RS) (H : Heap) (locs : List Loc) (ls : Array Slot), gG E A s.heap (rM E am mm ++ []) H locs → lv_has ls 6 [(0, .ref (am 0)), (1, .int x1), (2, .int x2), (3, .int x3)] → k4 x2 x3 mm = some res → W p l e (rmD 3 0 0) s m args below meth c H locs 0 0 Q (F0 m 4 ls [])), ∀  (x2 : Int32) (x3 : Int32) (mm : RS) (H : Heap) (locs : List Loc) (ls : Array Slot), gG E A s.heap (rM E am mm ++ []) H locs → lv_has ls 6 [(0, .ref (am 0)), (1, .int x1), (2, .int x2), (3, .int x3)] → fX12_layNew_L48 N x1 k4 x2 x3 mm = some res → W p l e (rmD 3 0 0) s m args below meth c H locs 0 0 Q (F0 m 48 ls []) := by
    intro k4 hk4 x2 x3 mm H locs ls hG hl h
    rw [fX12_layNew_L48] at h
    refine lv_iinc (v := (x3 + 1)) (lv' := [(3, .int (x3 + 1)), (0, .ref (am 0)), (1, .int x1), (2, .int x2)]) hx hb dX12_layNew_48 hl (k := 3) rfl (congrArg (x3 + ·) (by decide : Int32.ofInt 1 = 1)) (by decide) rfl (fun ls hl => ?_)
    refine lv_goto (tgt := 4) hx hb dX12_layNew_51 (by decide) ?_
    exact hk4 x2 (x3 + 1) mm _ _ _ hG (lv_sub hl [1, 2, 3, 0] rfl) h
  have K170 : ∀ (k59 : (Int32 → Int32 → Int32 → RS → Option (Int32 × RS))) (hk59 : ∀  (x2 : Int32) (x3 : Int32) (x4 : Int32) (mm : RS) (H : Heap) (locs : List Loc) (ls : Array Slot), gG E A s.heap (rM E am mm ++ []) H locs → lv_has ls 6 [(0, .ref (am 0)), (1, .int x1), (2, .int x2), (3, .int x3), (4, .int x4)] → k59 x2 x3 x4 mm = some res → W p l e (rmD 3 0 0) s m args below meth c H locs 0 0 Q (F0 m 59 ls [])), ∀  (x2 : Int32) (x3 : Int32) (x4 : Int32) (mm : RS) (H : Heap) (locs : List Loc) (ls : Array Slot), gG E A s.heap (rM E am mm ++ []) H locs → lv_has ls 6 [(0, .ref (am 0)), (1, .int x1), (2, .int x2), (3, .int x3), (4, .int x4)] → fX12_layNew_L170 N x1 k59 x2 x3 x4 mm = some res → W p l e (rmD 3 0 0) s m args below meth c H locs 0 0 Q (F0 m 170 ls []) := by
    intro k59 hk59 x2 x3 x4 mm H locs ls hG hl h
    rw [fX12_layNew_L170] at h
    refine lv_iinc (v := (x4 + 1)) (lv' := [(4, .int (x4 + 1)), (0, .ref (am 0)), (1, .int x1), (2, .int x2), (3, .int x3)]) hx hb dX12_layNew_170 hl (k := 4) rfl (congrArg (x4 + ·) (by decide : Int32.ofInt 1 = 1)) (by decide) rfl (fun ls hl => ?_)
    refine lv_goto (tgt := 59) hx hb dX12_layNew_173 (by decide) ?_
    exact hk59 x2 x3 (x4 + 1) mm _ _ _ hG (lv_sub hl [1, 2, 3, 4, 0] rfl) h
  have K158 : ∀ (k59 : (Int32 → Int32 → Int32 → RS → Option (Int32 × RS))) (hk59 : ∀  (x2 : Int32) (x3 : Int32) (x4 : Int32) (mm : RS) (H : Heap) (locs : List Loc) (ls : Array Slot), gG E A s.heap (rM E am mm ++ []) H locs → lv_has ls 6 [(0, .ref (am 0)), (1, .int x1), (2, .int x2), (3, .int x3), (4, .int x4)] → k59 x2 x3 x4 mm = some res → W p l e (rmD 3 0 0) s m args below meth c H locs 0 0 Q (F0 m 59 ls [])), ∀  (x2 : Int32) (x3 : Int32) (x4 : Int32) (x5 : Int32) (mm : RS) (H : Heap) (locs : List Loc) (ls : Array Slot), gG E A s.heap (rM E am mm ++ []) H locs → lv_has ls 6 [(0, .ref (am 0)), (1, .int x1), (2, .int x2), (3, .int x3), (4, .int x4), (5, .int x5)] → fX12_layNew_L158 N x1 k59 x2 x3 x4 x5 mm = some res → W p l e (rmD 3 0 0) s m args below meth c H locs 0 0 Q (F0 m 158 ls []) := by
    intro k59 hk59 x2 x3 x4 x5 mm H locs ls hG hl h
    rw [fX12_layNew_L158] at h
    refine lv_aload_n hx hb dX12_layNew_158 rfl (lv_at hl 0 rfl) ?_
    refine gL_f (v := .ref (am 6)) C hG kX12 0 16 rfl (by decide) rfl q1368 rfl dX12_layNew_159 ?_
    refine lv_iload hx hb dX12_layNew_162 (lv_at hl 5 rfl) ?_
    refine lv_iload hx hb dX12_layNew_164 (lv_at hl 4 rfl) ?_
    obtain ⟨b1, h⟩ := ck_some h
    obtain ⟨mm_2, emm_2, h⟩ := thn_some h
    refine gS_i (x := x4) (ws' := (rM E am mm_2 ++ [])) C hG 6 rfl (inb_in b1) rfl dX12_layNew_166 (by rw [emm_2]; rfl) (fun H locs hG => ?_)
    refine lv_iinc (v := (x2 + 1)) (lv' := [(2, .int (x2 + 1)), (0, .ref (am 0)), (1, .int x1), (3, .int x3), (4, .int x4), (5, .int x5)]) hx hb dX12_layNew_167 hl (k := 2) rfl (congrArg (x2 + ·) (by decide : Int32.ofInt 1 = 1)) (by decide) rfl (fun ls hl => ?_)
    exact K170 _ hk59 (x2 + 1) x3 x4 mm_2 _ _ _ hG (lv_sub hl [1, 2, 0, 3, 4] rfl) h
  have K100 : ∀ (k59 : (Int32 → Int32 → Int32 → RS → Option (Int32 × RS))) (hk59 : ∀  (x2 : Int32) (x3 : Int32) (x4 : Int32) (mm : RS) (H : Heap) (locs : List Loc) (ls : Array Slot), gG E A s.heap (rM E am mm ++ []) H locs → lv_has ls 6 [(0, .ref (am 0)), (1, .int x1), (2, .int x2), (3, .int x3), (4, .int x4)] → k59 x2 x3 x4 mm = some res → W p l e (rmD 3 0 0) s m args below meth c H locs 0 0 Q (F0 m 59 ls [])) (k : Nat), ∀  (x2 : Int32) (x3 : Int32) (x4 : Int32) (x5 : Int32) (mm : RS) (H : Heap) (locs : List Loc) (ls : Array Slot), gG E A s.heap (rM E am mm ++ []) H locs → lv_has ls 6 [(0, .ref (am 0)), (1, .int x1), (2, .int x2), (3, .int x3), (4, .int x4), (5, .int x5)] → fX12_layNew_L100 N x1 k59 k x2 x3 x4 x5 mm = some res → W p l e (rmD 3 0 0) s m args below meth c H locs 0 0 Q (F0 m 100 ls []) := by
    intro k59 hk59 k
    induction k with
    | zero => intro x2 x3 x4 x5 mm H locs ls hG hl h; exact absurd (show none = _ from h) (by simp)
    | succ k ih =>
      intro x2 x3 x4 x5 mm H locs ls hG hl h
      rw [fX12_layNew_L100] at h
      refine lv_iload hx hb dX12_layNew_100 (lv_at hl 5 rfl) ?_
      refine lv_iload_n hx hb dX12_layNew_102 rfl (lv_at hl 3 rfl) ?_
      refine lv_icmp_le (tgt := 158) hx hb dX12_layNew_103 (by decide) (fun c103 => ?_) (fun c103 => ?_)
      · replace h := it c103 h
        exact K158 _ hk59 x2 x3 x4 x5 mm _ _ _ hG (lv_sub hl [0, 1, 2, 3, 4, 5] rfl) h
      · replace h := ie c103 h
        refine lv_aload_n hx hb dX12_layNew_106 rfl (lv_at hl 0 rfl) ?_
        refine gL_f (v := .ref (am 1)) C hG kX12 0 0 rfl (by decide) rfl q1352 rfl dX12_layNew_107 ?_
        refine lv_bipush (v := 19) hx hb dX12_layNew_110 (by decide) ?_
        refine lv_aload_n hx hb dX12_layNew_112 rfl (lv_at hl 0 rfl) ?_
        refine gL_f (v := .ref (am 6)) C hG kX12 0 16 rfl (by decide) rfl q1368 rfl dX12_layNew_113 ?_
        refine lv_iload hx hb dX12_layNew_116 (lv_at hl 5 rfl) ?_
        refine lv_iconst (v := 1) hx hb dX12_layNew_118 (by decide) ?_
        refine lv_isub hx hb dX12_layNew_119 ?_
        obtain ⟨b1, h⟩ := ck_some h
        refine gL_i (v := (mm 6 (x5 - 1).toNatClampNeg)) C hG 6 rfl (inb_in b1) rfl dX12_layNew_120 ?_
        refine lv_iadd hx hb dX12_layNew_121 ?_
        obtain ⟨b2, h⟩ := ck_some h
        refine gL_i (v := (mm 1 (19 + (mm 6 (x5 - 1).toNatClampNeg)).toNatClampNeg)) C hG 1 rfl (inb_in b2) rfl dX12_layNew_122 ?_
        refine lv_aload_n hx hb dX12_layNew_123 rfl (lv_at hl 0 rfl) ?_
        refine gL_f (v := .ref (am 1)) C hG kX12 0 0 rfl (by decide) rfl q1352 rfl dX12_layNew_124 ?_
        refine lv_bipush (v := 19) hx hb dX12_layNew_127 (by decide) ?_
        refine lv_iload hx hb dX12_layNew_129 (lv_at hl 4 rfl) ?_
        refine lv_iadd hx hb dX12_layNew_131 ?_
        obtain ⟨b3, h⟩ := ck_some h
        refine gL_i (v := (mm 1 (19 + x4).toNatClampNeg)) C hG 1 rfl (inb_in b3) rfl dX12_layNew_132 ?_
        refine lv_icmp_ge (tgt := 158) hx hb dX12_layNew_133 (by decide) (fun c133 => ?_) (fun c133 => ?_)
        · replace h := it c133 h
          exact K158 _ hk59 x2 x3 x4 x5 mm _ _ _ hG (lv_sub hl [0, 1, 2, 3, 4, 5] rfl) h
        · replace h := ie c133 h
          refine lv_aload_n hx hb dX12_layNew_136 rfl (lv_at hl 0 rfl) ?_
          refine gL_f (v := .ref (am 6)) C hG kX12 0 16 rfl (by decide) rfl q1368 rfl dX12_layNew_137 ?_
          refine lv_iload hx hb dX12_layNew_140 (lv_at hl 5 rfl) ?_
          refine lv_aload_n hx hb dX12_layNew_142 rfl (lv_at hl 0 rfl) ?_
          refine gL_f (v := .ref (am 6)) C hG kX12 0 16 rfl (by decide) rfl q1368 rfl dX12_layNew_143 ?_
          refine lv_iload hx hb dX12_layNew_146 (lv_at hl 5 rfl) ?_
          refine lv_iconst (v := 1) hx hb dX12_layNew_148 (by decide) ?_
          refine lv_isub hx hb dX12_layNew_149 ?_
          refine gL_i (v := (mm 6 (x5 - 1).toNatClampNeg)) C hG 6 rfl (inb_in b1) rfl dX12_layNew_150 ?_
          obtain ⟨b4, h⟩ := ck_some h
          obtain ⟨mm_5, emm_5, h⟩ := thn_some h
          refine gS_i (x := (mm 6 (x5 - 1).toNatClampNeg)) (ws' := (rM E am mm_5 ++ [])) C hG 6 rfl (inb_in b4) rfl dX12_layNew_151 (by rw [emm_5]; rfl) (fun H locs hG => ?_)
          refine lv_iinc (v := (x5 + (-1))) (lv' := [(5, .int (x5 + (-1))), (0, .ref (am 0)), (1, .int x1), (2, .int x2), (3, .int x3), (4, .int x4)]) hx hb dX12_layNew_152 hl (k := 5) rfl (congrArg (x5 + ·) (by decide : Int32.ofInt (-1) = (-1))) (by decide) rfl (fun ls hl => ?_)
          refine lv_goto (tgt := 100) hx hb dX12_layNew_155 (by decide) ?_
          exact ih x2 x3 x4 (x5 + (-1)) mm_5 _ _ _ hG (lv_sub hl [1, 2, 3, 4, 5, 0] rfl) h
  have K59 : ∀ (k : Nat), ∀  (x2 : Int32) (x3 : Int32) (x4 : Int32) (mm : RS) (H : Heap) (locs : List Loc) (ls : Array Slot), gG E A s.heap (rM E am mm ++ []) H locs → lv_has ls 6 [(0, .ref (am 0)), (1, .int x1), (2, .int x2), (3, .int x3), (4, .int x4)] → fX12_layNew_L59 N x1 k x2 x3 x4 mm = some res → W p l e (rmD 3 0 0) s m args below meth c H locs 0 0 Q (F0 m 59 ls []) := by
    intro k
    induction k with
    | zero => intro x2 x3 x4 mm H locs ls hG hl h; exact absurd (show none = _ from h) (by simp)
    | succ k ih =>
      intro x2 x3 x4 mm H locs ls hG hl h
      rw [fX12_layNew_L59] at h
      refine lv_iload hx hb dX12_layNew_59 (lv_at hl 4 rfl) ?_
      refine lv_bipush (v := 10) hx hb dX12_layNew_61 (by decide) ?_
      refine lv_icmp_ge (tgt := 176) hx hb dX12_layNew_63 (by decide) (fun c63 => ?_) (fun c63 => ?_)
      · replace h := it c63 h
        refine lv_iload_n hx hb dX12_layNew_176 rfl (lv_at hl 2 rfl) ?_
        exact hret _ _ _ _ _ _ h rfl hG dX12_layNew_177
      · replace h := ie c63 h
        refine lv_aload_n hx hb dX12_layNew_66 rfl (lv_at hl 0 rfl) ?_
        refine lv_iload hx hb dX12_layNew_67 (lv_at hl 4 rfl) ?_
        obtain ⟨r1, hcr1, h⟩ := bnd_some h
        refine gF_i (ws' := (rM E am mm ++ [])) C hG (pin pnil) (List.Perm.symm (pin pnil)) (gR_V (As := [.int x4]) (rest := []) C hz hl.1 hG (pin pnil) (c_X12_isFast l E am N x4 mm hcr1 H.size) okX12_isFast q1551 0 rfl rfl rfl (Nat.le_of_ble_eq_true rfl) (by omega) ⟨Nat.le_refl _, Nat.le_refl _⟩ dX12_layNew_69) (fun H locs z2 hG => ?_)
        refine lv_if_ne (tgt := 170) hx hb dX12_layNew_72 (by decide) (fun c72 => ?_) (fun c72 => ?_)
        · replace h := ie c72 h
          exact K170 _ ih x2 x3 x4 mm _ _ _ hG (lv_sub hl [0, 1, 2, 3, 4] rfl) h
        · replace h := it c72 h
          refine lv_iload_n hx hb dX12_layNew_75 rfl (lv_at hl 1 rfl) ?_
          refine lv_iload hx hb dX12_layNew_76 (lv_at hl 4 rfl) ?_
          refine gF_i (ws' := (rM E am mm ++ [])) C hG pst pst.symm (gR_S (As := [.int x1, .int x4]) (rest := []) C hz hl.1 hG pst (c_X12_has l E x1 x4 rfl H.size) okX12_has q1674 rfl (Nat.le_of_ble_eq_true rfl) (by omega) ⟨Nat.le_refl _, Nat.le_refl _⟩ dX12_layNew_78) (fun H locs z3 hG => ?_)
          refine lv_if_eq (tgt := 170) hx hb dX12_layNew_81 (by decide) (fun c81 => ?_) (fun c81 => ?_)
          · replace h := it c81 h
            exact K170 _ ih x2 x3 x4 mm _ _ _ hG (lv_sub hl [0, 1, 2, 3, 4] rfl) h
          · replace h := ie c81 h
            refine lv_aload_n hx hb dX12_layNew_84 rfl (lv_at hl 0 rfl) ?_
            refine lv_iload hx hb dX12_layNew_85 (lv_at hl 4 rfl) ?_
            obtain ⟨r4, hcr4, h⟩ := bnd_some h
            refine gF_i (ws' := (rM E am mm ++ [])) C hG (pin pnil) (List.Perm.symm (pin pnil)) (gR_V (As := [.int x4]) (rest := []) C hz hl.1 hG (pin pnil) (c_X12_begunOf l E am N x4 mm hcr4 H.size) okX12_begunOf q1701 0 rfl rfl rfl (Nat.le_of_ble_eq_true rfl) (by omega) ⟨Nat.le_refl _, Nat.le_refl _⟩ dX12_layNew_87) (fun H locs _ hG => ?_)
            refine lv_iconst (v := (-1)) hx hb dX12_layNew_90 (by decide) ?_
            refine lv_icmp_eq (tgt := 97) hx hb dX12_layNew_91 (by decide) (fun c91 => ?_) (fun c91 => ?_)
            · replace h := it c91 h
              refine lv_iload_n hx hb dX12_layNew_97 rfl (lv_at hl 2 rfl) ?_
              refine lv_istore (lv' := [(5, .int x2), (0, .ref (am 0)), (1, .int x1), (2, .int x2), (3, .int x3), (4, .int x4)]) hx hb dX12_layNew_98 hl (by decide) rfl (fun ls hl => ?_)
              exact K100 _ ih N x2 x3 x4 x2 mm _ _ _ hG (lv_sub hl [1, 2, 3, 4, 5, 0] rfl) h
            · replace h := ie c91 h
              refine lv_goto (tgt := 170) hx hb dX12_layNew_94 (by decide) ?_
              exact K170 _ ih x2 x3 x4 mm _ _ _ hG (lv_sub hl [0, 1, 2, 3, 4] rfl) h
  have K4 : ∀ (k : Nat), ∀  (x2 : Int32) (x3 : Int32) (mm : RS) (H : Heap) (locs : List Loc) (ls : Array Slot), gG E A s.heap (rM E am mm ++ []) H locs → lv_has ls 6 [(0, .ref (am 0)), (1, .int x1), (2, .int x2), (3, .int x3)] → fX12_layNew_L4 N x1 k x2 x3 mm = some res → W p l e (rmD 3 0 0) s m args below meth c H locs 0 0 Q (F0 m 4 ls []) := by
    intro k
    induction k with
    | zero => intro x2 x3 mm H locs ls hG hl h; exact absurd (show none = _ from h) (by simp)
    | succ k ih =>
      intro x2 x3 mm H locs ls hG hl h
      rw [fX12_layNew_L4] at h
      refine lv_iload_n hx hb dX12_layNew_4 rfl (lv_at hl 3 rfl) ?_
      refine lv_bipush (v := 10) hx hb dX12_layNew_5 (by decide) ?_
      refine lv_icmp_ge (tgt := 54) hx hb dX12_layNew_7 (by decide) (fun c7 => ?_) (fun c7 => ?_)
      · replace h := it c7 h
        refine lv_iload_n hx hb dX12_layNew_54 rfl (lv_at hl 2 rfl) ?_
        refine lv_istore_n (lv' := [(3, .int x2), (0, .ref (am 0)), (1, .int x1), (2, .int x2)]) hx hb dX12_layNew_55 rfl hl (by decide) rfl (fun ls hl => ?_)
        refine lv_iconst (v := 0) hx hb dX12_layNew_56 (by decide) ?_
        refine lv_istore (lv' := [(4, .int 0), (3, .int x2), (0, .ref (am 0)), (1, .int x1), (2, .int x2)]) hx hb dX12_layNew_57 hl (by decide) rfl (fun ls hl => ?_)
        exact K59 N x2 x2 0 mm _ _ _ hG (lv_sub hl [2, 3, 4, 1, 0] rfl) h
      · replace h := ie c7 h
        refine lv_aload_n hx hb dX12_layNew_10 rfl (lv_at hl 0 rfl) ?_
        refine lv_iload_n hx hb dX12_layNew_11 rfl (lv_at hl 3 rfl) ?_
        obtain ⟨r1, hcr1, h⟩ := bnd_some h
        refine gF_i (ws' := (rM E am mm ++ [])) C hG (pin pnil) (List.Perm.symm (pin pnil)) (gR_V (As := [.int x3]) (rest := []) C hz hl.1 hG (pin pnil) (c_X12_isFast l E am N x3 mm hcr1 H.size) okX12_isFast q1551 0 rfl rfl rfl (Nat.le_of_ble_eq_true rfl) (by omega) ⟨Nat.le_refl _, Nat.le_refl _⟩ dX12_layNew_12) (fun H locs z2 hG => ?_)
        refine lv_if_eq (tgt := 48) hx hb dX12_layNew_15 (by decide) (fun c15 => ?_) (fun c15 => ?_)
        · replace h := it c15 h
          exact K48 _ ih x2 x3 mm _ _ _ hG (lv_sub hl [0, 1, 2, 3] rfl) h
        · replace h := ie c15 h
          refine lv_iload_n hx hb dX12_layNew_18 rfl (lv_at hl 1 rfl) ?_
          refine lv_iload_n hx hb dX12_layNew_19 rfl (lv_at hl 3 rfl) ?_
          refine gF_i (ws' := (rM E am mm ++ [])) C hG pst pst.symm (gR_S (As := [.int x1, .int x3]) (rest := []) C hz hl.1 hG pst (c_X12_has l E x1 x3 rfl H.size) okX12_has q1674 rfl (Nat.le_of_ble_eq_true rfl) (by omega) ⟨Nat.le_refl _, Nat.le_refl _⟩ dX12_layNew_20) (fun H locs z3 hG => ?_)
          refine lv_if_ne (tgt := 48) hx hb dX12_layNew_23 (by decide) (fun c23 => ?_) (fun c23 => ?_)
          · replace h := ie c23 h
            exact K48 _ ih x2 x3 mm _ _ _ hG (lv_sub hl [0, 1, 2, 3] rfl) h
          · replace h := it c23 h
            refine lv_aload_n hx hb dX12_layNew_26 rfl (lv_at hl 0 rfl) ?_
            refine lv_iload_n hx hb dX12_layNew_27 rfl (lv_at hl 3 rfl) ?_
            obtain ⟨r4, hcr4, h⟩ := bnd_some h
            refine gF_i (ws' := (rM E am mm ++ [])) C hG (pin pnil) (List.Perm.symm (pin pnil)) (gR_V (As := [.int x3]) (rest := []) C hz hl.1 hG (pin pnil) (c_X12_begunOf l E am N x3 mm hcr4 H.size) okX12_begunOf q1701 0 rfl rfl rfl (Nat.le_of_ble_eq_true rfl) (by omega) ⟨Nat.le_refl _, Nat.le_refl _⟩ dX12_layNew_28) (fun H locs _ hG => ?_)
            refine lv_iconst (v := (-1)) hx hb dX12_layNew_31 (by decide) ?_
            refine lv_icmp_eq (tgt := 38) hx hb dX12_layNew_32 (by decide) (fun c32 => ?_) (fun c32 => ?_)
            · replace h := it c32 h
              refine lv_aload_n hx hb dX12_layNew_38 rfl (lv_at hl 0 rfl) ?_
              refine gL_f (v := .ref (am 6)) C hG kX12 0 16 rfl (by decide) rfl q1368 rfl dX12_layNew_39 ?_
              refine lv_iload_n hx hb dX12_layNew_42 rfl (lv_at hl 2 rfl) ?_
              refine lv_iload_n hx hb dX12_layNew_43 rfl (lv_at hl 3 rfl) ?_
              obtain ⟨b5, h⟩ := ck_some h
              obtain ⟨mm_6, emm_6, h⟩ := thn_some h
              refine gS_i (x := x3) (ws' := (rM E am mm_6 ++ [])) C hG 6 rfl (inb_in b5) rfl dX12_layNew_44 (by rw [emm_6]; rfl) (fun H locs hG => ?_)
              refine lv_iinc (v := (x2 + 1)) (lv' := [(2, .int (x2 + 1)), (0, .ref (am 0)), (1, .int x1), (3, .int x3)]) hx hb dX12_layNew_45 hl (k := 2) rfl (congrArg (x2 + ·) (by decide : Int32.ofInt 1 = 1)) (by decide) rfl (fun ls hl => ?_)
              exact K48 _ ih (x2 + 1) x3 mm_6 _ _ _ hG (lv_sub hl [1, 2, 0, 3] rfl) h
            · replace h := ie c32 h
              refine lv_goto (tgt := 48) hx hb dX12_layNew_35 (by decide) ?_
              exact K48 _ ih x2 x3 mm _ _ _ hG (lv_sub hl [0, 1, 2, 3] rfl) h
  rw [fX12_layNew] at h
  refine lv_iconst (v := 0) hx hb dX12_layNew_0 (by decide) ?_
  refine lv_istore_n (lv' := [(2, .int 0), (0, .ref (am 0)), (1, .int x1)]) hx hb dX12_layNew_1 rfl hl (by decide) rfl (fun ls hl => ?_)
  refine lv_iconst (v := 0) hx hb dX12_layNew_2 (by decide) ?_
  refine lv_istore_n (lv' := [(3, .int 0), (2, .int 0), (0, .ref (am 0)), (1, .int x1)]) hx hb dX12_layNew_3 rfl hl (by decide) rfl (fun ls hl => ?_)
  exact K4 N 0 0 mm _ _ _ hG (lv_sub hl [2, 3, 1, 0] rfl) h
set_option maxHeartbeats 4000000 in
set_option maxRecDepth 100000 in
theorem c_X12_makePlan (l : Launch) (E : GE) (am : Nat → Nat) (N : Nat) (mm : RS) {res : RS} (h : fX12_makePlan N mm = some res) : gMv l E yX12_makePlan cX12_makePlan 5 6 0 0 [.ref (am 0)] (rM E am mm ++ []) (rM E am res ++ []) := by
  refine gMv_of (own := RX12) (by decide +kernel) rfl (Nat.le_of_ble_eq_true rfl) ?_
  intro p e s m args below meth c A ls Q H locs C hz hl hG hin hret
  have hx := C.1.1
  have hb := C.1.2.1
  have hts := C.1.2.2.2.2
  have hown := C.1.2.2.2.1
  have hl : lv_has ls 5 [(0, .ref (am 0))] := hl
  replace hret : ∀ (mm0 : RS) (H : Heap) (locs : List Loc) (pc : Nat) (ls' : Array Slot), some mm0 = some res → gG E A s.heap (rM E am mm0 ++ []) H locs → decode cX12_makePlan pc = .ok (.return_, 1) → W p l e (rmD 6 0 0) s m args below meth c H locs 0 0 Q (F0 m pc ls' []) := by
    intro mm0 H locs pc ls' e0; cases e0; exact hret H locs pc ls'
  have K57 : ∀ (k : Nat), ∀  (x2 : Int32) (x3 : Int32) (x4 : Int32) (mm : RS) (H : Heap) (locs : List Loc) (ls : Array Slot), gG E A s.heap (rM E am mm ++ []) H locs → lv_has ls 5 [(0, .ref (am 0)), (2, .int x2), (3, .int x3), (4, .int x4)] → fX12_makePlan_L57 N k x2 x3 x4 mm = some res → W p l e (rmD 6 0 0) s m args below meth c H locs 0 0 Q (F0 m 57 ls []) := by
    intro k
    induction k with
    | zero => intro x2 x3 x4 mm H locs ls hG hl h; exact absurd (show none = _ from h) (by simp)
    | succ k ih =>
      intro x2 x3 x4 mm H locs ls hG hl h
      rw [fX12_makePlan_L57] at h
      refine lv_iload hx hb dX12_makePlan_57 (lv_at hl 3 rfl) ?_
      refine lv_iload_n hx hb dX12_makePlan_59 rfl (lv_at hl 2 rfl) ?_
      refine lv_icmp_ge (tgt := 80) hx hb dX12_makePlan_60 (by decide) (fun c60 => ?_) (fun c60 => ?_)
      · replace h := it c60 h
        refine lv_aload_n hx hb dX12_makePlan_80 rfl (lv_at hl 0 rfl) ?_
        refine lv_iconst (v := 3) hx hb dX12_makePlan_81 (by decide) ?_
        refine lv_iload_n hx hb dX12_makePlan_82 rfl (lv_at hl 1 rfl) ?_
        refine lv_iload_n hx hb dX12_makePlan_83 rfl (lv_at hl 2 rfl) ?_
        obtain ⟨r1, hcr1, h⟩ := bnd_some h
        refine gF_v (ws' := (rM E am r1 ++ [])) C hG (pin pnil) (List.Perm.symm (pin pnil)) (gR_V (As := [.int 3, .int x2, .int x3]) (rest := []) C hz hl.1 hG (pin pnil) (c_X12_writeDown l E am N 3 x2 x3 mm hcr1 H.size) okX12_writeDown q1598 0 rfl rfl rfl (Nat.le_of_ble_eq_true rfl) (by omega) ⟨Nat.le_refl _, Nat.le_refl _⟩ dX12_makePlan_84) (fun H locs hG => ?_)
        exact hret _ _ _ _ _ h hG dX12_makePlan_87
      · replace h := ie c60 h
        refine lv_aload_n hx hb dX12_makePlan_63 rfl (lv_at hl 0 rfl) ?_
        refine lv_aload_n hx hb dX12_makePlan_64 rfl (lv_at hl 0 rfl) ?_
        refine gL_f (v := .ref (am 6)) C hG kX12 0 16 rfl (by decide) rfl q1368 rfl dX12_makePlan_65 ?_
        refine lv_iload hx hb dX12_makePlan_68 (lv_at hl 3 rfl) ?_
        obtain ⟨b2, h⟩ := ck_some h
        refine gL_i (v := (mm 6 x4.toNatClampNeg)) C hG 6 rfl (inb_in b2) rfl dX12_makePlan_70 ?_
        obtain ⟨r3, hcr3, h⟩ := bnd_some h
        refine gF_v (ws' := (rM E am r3 ++ [])) C hG (pin pnil) (List.Perm.symm (pin pnil)) (gR_V (As := [.int (mm 6 x4.toNatClampNeg)]) (rest := []) C hz hl.1 hG (pin pnil) (c_X12_addMove l E am N (mm 6 x4.toNatClampNeg) mm hcr3 H.size) okX12_addMove q1610 0 rfl rfl rfl (Nat.le_of_ble_eq_true rfl) (by omega) ⟨Nat.le_refl _, Nat.le_refl _⟩ dX12_makePlan_71) (fun H locs hG => ?_)
        refine lv_iinc (v := (x4 + 1)) (lv' := [(4, .int (x4 + 1)), (0, .ref (am 0)), (2, .int x2), (3, .int x3)]) hx hb dX12_makePlan_74 hl (k := 3) rfl (congrArg (x4 + ·) (by decide : Int32.ofInt 1 = 1)) (by decide) rfl (fun ls hl => ?_)
        refine lv_goto (tgt := 57) hx hb dX12_makePlan_77 (by decide) ?_
        exact ih x2 x3 (x4 + 1) r3 _ _ _ hG (lv_sub hl [1, 2, 3, 0] rfl) h
  have K2 : ∀ (k : Nat), ∀  (x1 : Int32) (mm : RS) (H : Heap) (locs : List Loc) (ls : Array Slot), gG E A s.heap (rM E am mm ++ []) H locs → lv_has ls 5 [(0, .ref (am 0)), (1, .int x1)] → fX12_makePlan_L2 N k x1 mm = some res → W p l e (rmD 6 0 0) s m args below meth c H locs 0 0 Q (F0 m 2 ls []) := by
    intro k
    induction k with
    | zero => intro x1 mm H locs ls hG hl h; exact absurd (show none = _ from h) (by simp)
    | succ k ih =>
      intro x1 mm H locs ls hG hl h
      rw [fX12_makePlan_L2] at h
      refine lv_iload_n hx hb dX12_makePlan_2 rfl (lv_at hl 1 rfl) ?_
      refine lv_aload_n hx hb dX12_makePlan_3 rfl (lv_at hl 0 rfl) ?_
      refine gL_f (v := .ref (am 1)) C hG kX12 0 0 rfl (by decide) rfl q1352 rfl dX12_makePlan_4 ?_
      refine lv_bipush (v := 17) hx hb dX12_makePlan_7 (by decide) ?_
      refine gL_i (v := (mm 1 17)) C hG 1 rfl (vp_in_nI (n := 17) (by decide) (by decide)) (congrArg (mm 1) (nI_clamp (n := 17) (by decide))) dX12_makePlan_9 ?_
      refine lv_icmp_ge (tgt := 36) hx hb dX12_makePlan_10 (by decide) (fun c10 => ?_) (fun c10 => ?_)
      · replace h := it c10 h
        refine lv_aload_n hx hb dX12_makePlan_36 rfl (lv_at hl 0 rfl) ?_
        refine lv_aload_n hx hb dX12_makePlan_37 rfl (lv_at hl 0 rfl) ?_
        refine gL_f (v := .ref (am 1)) C hG kX12 0 0 rfl (by decide) rfl q1352 rfl dX12_makePlan_38 ?_
        refine lv_bipush (v := 8) hx hb dX12_makePlan_41 (by decide) ?_
        refine gL_i (v := (mm 1 8)) C hG 1 rfl (vp_in_nI (n := 8) (by decide) (by decide)) (congrArg (mm 1) (nI_clamp (n := 8) (by decide))) dX12_makePlan_43 ?_
        obtain ⟨r1, hcr1, h⟩ := bnd_some h
        refine gF_i (ws' := (rM E am mm ++ [])) C hG (pin pnil) (List.Perm.symm (pin pnil)) (gR_V (As := [.int (mm 1 8)]) (rest := []) C hz hl.1 hG (pin pnil) (c_X12_bestSet l E am N (mm 1 8) mm hcr1 H.size) okX12_bestSet q1689 0 rfl rfl rfl (Nat.le_of_ble_eq_true rfl) (by omega) ⟨Nat.le_refl _, Nat.le_refl _⟩ dX12_makePlan_44) (fun H locs _ hG => ?_)
        refine lv_istore_n (lv' := [(2, .int r1), (0, .ref (am 0)), (1, .int x1)]) hx hb dX12_makePlan_47 rfl hl (by decide) rfl (fun ls hl => ?_)
        refine lv_aload_n hx hb dX12_makePlan_48 rfl (lv_at hl 1 rfl) ?_
        refine lv_iload_n hx hb dX12_makePlan_49 rfl (lv_at hl 0 rfl) ?_
        obtain ⟨r2, hcr2, h⟩ := bnd_some h
        refine gF_i (ws' := (rM E am r2.2 ++ [])) C hG (pin pnil) (List.Perm.symm (pin pnil)) (gR_V (As := [.int r1]) (rest := []) C hz hl.1 hG (pin pnil) (c_X12_layNew l E am N r1 mm hcr2 H.size) okX12_layNew q1718 0 rfl rfl rfl (Nat.le_of_ble_eq_true rfl) (by omega) ⟨Nat.le_refl _, Nat.le_refl _⟩ dX12_makePlan_50) (fun H locs _ hG => ?_)
        refine lv_istore_n (lv' := [(3, .int r2.1), (2, .int r1), (0, .ref (am 0)), (1, .int x1)]) hx hb dX12_makePlan_53 rfl hl (by decide) rfl (fun ls hl => ?_)
        refine lv_iconst (v := 0) hx hb dX12_makePlan_54 (by decide) ?_
        refine lv_istore (lv' := [(4, .int 0), (3, .int r2.1), (2, .int r1), (0, .ref (am 0)), (1, .int x1)]) hx hb dX12_makePlan_55 hl (by decide) rfl (fun ls hl => ?_)
        exact K57 N r1 r2.1 0 r2.2 _ _ _ hG (lv_sub hl [3, 2, 1, 0] rfl) h
      · replace h := ie c10 h
        refine lv_aload_n hx hb dX12_makePlan_13 rfl (lv_at hl 0 rfl) ?_
        refine lv_iload_n hx hb dX12_makePlan_14 rfl (lv_at hl 1 rfl) ?_
        refine lv_iconst (v := 2) hx hb dX12_makePlan_15 (by decide) ?_
        obtain ⟨r3, hcr3, h⟩ := bnd_some h
        refine gF_i (ws' := (rM E am mm ++ [])) C hG (pin pnil) (List.Perm.symm (pin pnil)) (gR_V (As := [.int x1, .int 2]) (rest := []) C hz hl.1 hG (pin pnil) (c_X12_ofMove l E am N x1 2 mm hcr3 H.size) okX12_ofMove q1622 0 rfl rfl rfl (Nat.le_of_ble_eq_true rfl) (by omega) ⟨Nat.le_refl _, Nat.le_refl _⟩ dX12_makePlan_16) (fun H locs _ hG => ?_)
        refine lv_if_ne (tgt := 30) hx hb dX12_makePlan_19 (by decide) (fun c19 => ?_) (fun c19 => ?_)
        · replace h := ie c19 h
          refine lv_iinc (v := (x1 + 1)) (lv' := [(1, .int (x1 + 1)), (0, .ref (am 0))]) hx hb dX12_makePlan_30 hl (k := 1) rfl (congrArg (x1 + ·) (by decide : Int32.ofInt 1 = 1)) (by decide) rfl (fun ls hl => ?_)
          refine lv_goto (tgt := 2) hx hb dX12_makePlan_33 (by decide) ?_
          exact ih (x1 + 1) mm _ _ _ hG (lv_sub hl [1, 0] rfl) h
        · replace h := it c19 h
          refine lv_aload_n hx hb dX12_makePlan_22 rfl (lv_at hl 0 rfl) ?_
          refine lv_iload_n hx hb dX12_makePlan_23 rfl (lv_at hl 1 rfl) ?_
          obtain ⟨r4, hcr4, h⟩ := bnd_some h
          refine gF_v (ws' := (rM E am r4 ++ [])) C hG (pin pnil) (List.Perm.symm (pin pnil)) (gR_V (As := [.int x1]) (rest := []) C hz hl.1 hG (pin pnil) (c_X12_dropMove l E am N x1 mm hcr4 H.size) okX12_dropMove q1618 0 rfl rfl rfl (Nat.le_of_ble_eq_true rfl) (by omega) ⟨Nat.le_refl _, Nat.le_refl _⟩ dX12_makePlan_24) (fun H locs hG => ?_)
          refine lv_goto (tgt := 2) hx hb dX12_makePlan_27 (by decide) ?_
          exact ih x1 r4 _ _ _ hG (lv_sub hl [0, 1] rfl) h
  rw [fX12_makePlan] at h
  refine lv_iconst (v := 0) hx hb dX12_makePlan_0 (by decide) ?_
  refine lv_istore_n (lv' := [(1, .int 0), (0, .ref (am 0))]) hx hb dX12_makePlan_1 rfl hl (by decide) rfl (fun ls hl => ?_)
  exact K2 N 0 mm _ _ _ hG (lv_sub hl [1, 0] rfl) h
set_option maxHeartbeats 4000000 in
set_option maxRecDepth 100000 in
theorem c_X12_endEpoch (l : Launch) (E : GE) (am : Nat → Nat) (N : Nat) (mm : RS) {res : RS} (h : fX12_endEpoch N mm = some res) : gMv l E yX12_endEpoch cX12_endEpoch 2 7 0 0 [.ref (am 0)] (rM E am mm ++ []) (rM E am res ++ []) := by
  refine gMv_of (own := RX12) (by decide +kernel) rfl (Nat.le_of_ble_eq_true rfl) ?_
  intro p e s m args below meth c A ls Q H locs C hz hl hG hin hret
  have hx := C.1.1
  have hb := C.1.2.1
  have hts := C.1.2.2.2.2
  have hown := C.1.2.2.2.1
  have hl : lv_has ls 2 [(0, .ref (am 0))] := hl
  replace hret : ∀ (mm0 : RS) (H : Heap) (locs : List Loc) (pc : Nat) (ls' : Array Slot), some mm0 = some res → gG E A s.heap (rM E am mm0 ++ []) H locs → decode cX12_endEpoch pc = .ok (.return_, 1) → W p l e (rmD 7 0 0) s m args below meth c H locs 0 0 Q (F0 m pc ls' []) := by
    intro mm0 H locs pc ls' e0; cases e0; exact hret H locs pc ls'
  have K16 : ∀ (k : Nat), ∀  (x1 : Int32) (mm : RS) (H : Heap) (locs : List Loc) (ls : Array Slot), gG E A s.heap (rM E am mm ++ []) H locs → lv_has ls 2 [(0, .ref (am 0)), (1, .int x1)] → fX12_endEpoch_L16 N k x1 mm = some res → W p l e (rmD 7 0 0) s m args below meth c H locs 0 0 Q (F0 m 16 ls []) := by
    intro k
    induction k with
    | zero => intro x1 mm H locs ls hG hl h; exact absurd (show none = _ from h) (by simp)
    | succ k ih =>
      intro x1 mm H locs ls hG hl h
      rw [fX12_endEpoch_L16] at h
      refine lv_iload_n hx hb dX12_endEpoch_16 rfl (lv_at hl 1 rfl) ?_
      refine lv_bipush (v := 10) hx hb dX12_endEpoch_17 (by decide) ?_
      refine lv_icmp_ge (tgt := 121) hx hb dX12_endEpoch_19 (by decide) (fun c19 => ?_) (fun c19 => ?_)
      · replace h := it c19 h
        exact hret _ _ _ _ _ h hG dX12_endEpoch_121
      · replace h := ie c19 h
        refine lv_aload_n hx hb dX12_endEpoch_22 rfl (lv_at hl 0 rfl) ?_
        refine gL_f (v := .ref (am 1)) C hG kX12 0 0 rfl (by decide) rfl q1352 rfl dX12_endEpoch_23 ?_
        refine lv_bipush (v := 19) hx hb dX12_endEpoch_26 (by decide) ?_
        refine lv_iload_n hx hb dX12_endEpoch_28 rfl (lv_at hl 1 rfl) ?_
        refine lv_iadd hx hb dX12_endEpoch_29 ?_
        refine lv_dup2_11 hx hb dX12_endEpoch_30 rfl rfl ?_
        obtain ⟨b1, h⟩ := ck_some h
        refine gL_i (v := (mm 1 (19 + x1).toNatClampNeg)) C hG 1 rfl (inb_in b1) rfl dX12_endEpoch_31 ?_
        refine lv_iconst (v := 1) hx hb dX12_endEpoch_32 (by decide) ?_
        refine lv_ishr hx hb dX12_endEpoch_33 ?_
        obtain ⟨mm_2, emm_2, h⟩ := thn_some h
        refine gS_i (x := ((mm 1 (19 + x1).toNatClampNeg) >>> ((1 : Int32) &&& 31))) (ws' := (rM E am mm_2 ++ [])) C hG 1 rfl (inb_in b1) rfl dX12_endEpoch_34 (by rw [emm_2]; rfl) (fun H locs hG => ?_)
        refine lv_aload_n hx hb dX12_endEpoch_35 rfl (lv_at hl 0 rfl) ?_
        refine gL_f (v := .ref (am 1)) C hG kX12 0 0 rfl (by decide) rfl q1352 rfl dX12_endEpoch_36 ?_
        refine lv_bipush (v := 29) hx hb dX12_endEpoch_39 (by decide) ?_
        refine lv_iload_n hx hb dX12_endEpoch_41 rfl (lv_at hl 1 rfl) ?_
        refine lv_iadd hx hb dX12_endEpoch_42 ?_
        refine lv_aload_n hx hb dX12_endEpoch_43 rfl (lv_at hl 0 rfl) ?_
        refine gL_f (v := .ref (am 1)) C hG kX12 0 0 rfl (by decide) rfl q1352 rfl dX12_endEpoch_44 ?_
        refine lv_bipush (v := 29) hx hb dX12_endEpoch_47 (by decide) ?_
        refine lv_iload_n hx hb dX12_endEpoch_49 rfl (lv_at hl 1 rfl) ?_
        refine lv_iadd hx hb dX12_endEpoch_50 ?_
        obtain ⟨b3, h⟩ := ck_some h
        refine gL_i (v := (mm_2 1 (29 + x1).toNatClampNeg)) C hG 1 rfl (inb_in b3) rfl dX12_endEpoch_51 ?_
        refine lv_iconst (v := 1) hx hb dX12_endEpoch_52 (by decide) ?_
        refine lv_ishl hx hb dX12_endEpoch_53 ?_
        refine lv_sipush (v := 255) hx hb dX12_endEpoch_54 (by decide) ?_
        refine lv_iand hx hb dX12_endEpoch_57 ?_
        obtain ⟨mm_4, emm_4, h⟩ := thn_some h
        refine gS_i (x := (((mm_2 1 (29 + x1).toNatClampNeg) <<< ((1 : Int32) &&& 31)) &&& 255)) (ws' := (rM E am mm_4 ++ [])) C hG 1 rfl (inb_in b3) rfl dX12_endEpoch_58 (by rw [emm_4]; rfl) (fun H locs hG => ?_)
        refine lv_aload_n hx hb dX12_endEpoch_59 rfl (lv_at hl 0 rfl) ?_
        refine gL_f (v := .ref (am 1)) C hG kX12 0 0 rfl (by decide) rfl q1352 rfl dX12_endEpoch_60 ?_
        refine lv_bipush (v := 39) hx hb dX12_endEpoch_63 (by decide) ?_
        refine lv_iload_n hx hb dX12_endEpoch_65 rfl (lv_at hl 1 rfl) ?_
        refine lv_iadd hx hb dX12_endEpoch_66 ?_
        refine lv_iconst (v := 0) hx hb dX12_endEpoch_67 (by decide) ?_
        obtain ⟨b5, h⟩ := ck_some h
        obtain ⟨mm_6, emm_6, h⟩ := thn_some h
        refine gS_i (x := 0) (ws' := (rM E am mm_6 ++ [])) C hG 1 rfl (inb_in b5) rfl dX12_endEpoch_68 (by rw [emm_6]; rfl) (fun H locs hG => ?_)
        refine lv_aload_n hx hb dX12_endEpoch_69 rfl (lv_at hl 0 rfl) ?_
        refine gL_f (v := .ref (am 1)) C hG kX12 0 0 rfl (by decide) rfl q1352 rfl dX12_endEpoch_70 ?_
        refine lv_bipush (v := 49) hx hb dX12_endEpoch_73 (by decide) ?_
        refine lv_iload_n hx hb dX12_endEpoch_75 rfl (lv_at hl 1 rfl) ?_
        refine lv_iadd hx hb dX12_endEpoch_76 ?_
        refine lv_iconst (v := 0) hx hb dX12_endEpoch_77 (by decide) ?_
        obtain ⟨b7, h⟩ := ck_some h
        obtain ⟨mm_8, emm_8, h⟩ := thn_some h
        refine gS_i (x := 0) (ws' := (rM E am mm_8 ++ [])) C hG 1 rfl (inb_in b7) rfl dX12_endEpoch_78 (by rw [emm_8]; rfl) (fun H locs hG => ?_)
        refine lv_aload_n hx hb dX12_endEpoch_79 rfl (lv_at hl 0 rfl) ?_
        refine gL_f (v := .ref (am 1)) C hG kX12 0 0 rfl (by decide) rfl q1352 rfl dX12_endEpoch_80 ?_
        refine lv_bipush (v := 89) hx hb dX12_endEpoch_83 (by decide) ?_
        refine lv_iload_n hx hb dX12_endEpoch_85 rfl (lv_at hl 1 rfl) ?_
        refine lv_iadd hx hb dX12_endEpoch_86 ?_
        refine lv_aload_n hx hb dX12_endEpoch_87 rfl (lv_at hl 0 rfl) ?_
        refine gL_f (v := .ref (am 1)) C hG kX12 0 0 rfl (by decide) rfl q1352 rfl dX12_endEpoch_88 ?_
        refine lv_bipush (v := 19) hx hb dX12_endEpoch_91 (by decide) ?_
        refine lv_iload_n hx hb dX12_endEpoch_93 rfl (lv_at hl 1 rfl) ?_
        refine lv_iadd hx hb dX12_endEpoch_94 ?_
        refine gL_i (v := (mm_8 1 (19 + x1).toNatClampNeg)) C hG 1 rfl (inb_in b1) rfl dX12_endEpoch_95 ?_
        obtain ⟨b9, h⟩ := ck_some h
        obtain ⟨mm_10, emm_10, h⟩ := thn_some h
        refine gS_i (x := (mm_8 1 (19 + x1).toNatClampNeg)) (ws' := (rM E am mm_10 ++ [])) C hG 1 rfl (inb_in b9) rfl dX12_endEpoch_96 (by rw [emm_10]; rfl) (fun H locs hG => ?_)
        refine lv_aload_n hx hb dX12_endEpoch_97 rfl (lv_at hl 0 rfl) ?_
        refine gL_f (v := .ref (am 1)) C hG kX12 0 0 rfl (by decide) rfl q1352 rfl dX12_endEpoch_98 ?_
        refine lv_bipush (v := 99) hx hb dX12_endEpoch_101 (by decide) ?_
        refine lv_iload_n hx hb dX12_endEpoch_103 rfl (lv_at hl 1 rfl) ?_
        refine lv_iadd hx hb dX12_endEpoch_104 ?_
        refine lv_aload_n hx hb dX12_endEpoch_105 rfl (lv_at hl 0 rfl) ?_
        refine gL_f (v := .ref (am 1)) C hG kX12 0 0 rfl (by decide) rfl q1352 rfl dX12_endEpoch_106 ?_
        refine lv_bipush (v := 29) hx hb dX12_endEpoch_109 (by decide) ?_
        refine lv_iload_n hx hb dX12_endEpoch_111 rfl (lv_at hl 1 rfl) ?_
        refine lv_iadd hx hb dX12_endEpoch_112 ?_
        refine gL_i (v := (mm_10 1 (29 + x1).toNatClampNeg)) C hG 1 rfl (inb_in b3) rfl dX12_endEpoch_113 ?_
        obtain ⟨b11, h⟩ := ck_some h
        obtain ⟨mm_12, emm_12, h⟩ := thn_some h
        refine gS_i (x := (mm_10 1 (29 + x1).toNatClampNeg)) (ws' := (rM E am mm_12 ++ [])) C hG 1 rfl (inb_in b11) rfl dX12_endEpoch_114 (by rw [emm_12]; rfl) (fun H locs hG => ?_)
        refine lv_iinc (v := (x1 + 1)) (lv' := [(1, .int (x1 + 1)), (0, .ref (am 0))]) hx hb dX12_endEpoch_115 hl (k := 1) rfl (congrArg (x1 + ·) (by decide : Int32.ofInt 1 = 1)) (by decide) rfl (fun ls hl => ?_)
        refine lv_goto (tgt := 16) hx hb dX12_endEpoch_118 (by decide) ?_
        exact ih (x1 + 1) mm_12 _ _ _ hG (lv_sub hl [1, 0] rfl) h
  rw [fX12_endEpoch] at h
  refine lv_aload_n hx hb dX12_endEpoch_0 rfl (lv_at hl 0 rfl) ?_
  obtain ⟨r1, hcr1, h⟩ := bnd_some h
  refine gF_v (ws' := (rM E am r1 ++ [])) C hG (pin pnil) (List.Perm.symm (pin pnil)) (gR_V (As := []) (rest := []) C hz hl.1 hG (pin pnil) (c_X12_makePlan l E am N mm hcr1 H.size) okX12_makePlan q1685 0 rfl rfl rfl (Nat.le_of_ble_eq_true rfl) (by omega) ⟨Nat.le_refl _, Nat.le_refl _⟩ dX12_endEpoch_1) (fun H locs hG => ?_)
  refine lv_aload_n hx hb dX12_endEpoch_4 rfl (lv_at hl 0 rfl) ?_
  refine gL_f (v := .ref (am 1)) C hG kX12 0 0 rfl (by decide) rfl q1352 rfl dX12_endEpoch_5 ?_
  refine lv_iconst (v := 5) hx hb dX12_endEpoch_8 (by decide) ?_
  refine lv_dup2_11 hx hb dX12_endEpoch_9 rfl rfl ?_
  refine gL_i (v := (r1 1 5)) C hG 1 rfl (vp_in_nI (n := 5) (by decide) (by decide)) (congrArg (r1 1) (nI_clamp (n := 5) (by decide))) dX12_endEpoch_10 ?_
  refine lv_iconst (v := 1) hx hb dX12_endEpoch_11 (by decide) ?_
  refine lv_iadd hx hb dX12_endEpoch_12 ?_
  obtain ⟨mm_2, emm_2, h⟩ := thn_some h
  refine gS_i (x := ((r1 1 5) + 1)) (ws' := (rM E am mm_2 ++ [])) C hG 1 rfl (vp_in_nI (n := 5) (by decide) (by decide)) (nI_clamp (n := 5) (by decide)) dX12_endEpoch_13 (by rw [emm_2]; rfl) (fun H locs hG => ?_)
  refine lv_iconst (v := 0) hx hb dX12_endEpoch_14 (by decide) ?_
  refine lv_istore_n (lv' := [(1, .int 0), (0, .ref (am 0))]) hx hb dX12_endEpoch_15 rfl hl (by decide) rfl (fun ls hl => ?_)
  exact K16 N 0 mm_2 _ _ _ hG (lv_sub hl [1, 0] rfl) h
set_option maxHeartbeats 4000000 in
set_option maxRecDepth 100000 in
theorem c_X12_tick (l : Launch) (E : GE) (am : Nat → Nat) (N : Nat) (mm : RS) {res : RS} (h : fX12_tick N mm = some res) : gMv l E yX12_tick cX12_tick 1 8 0 0 [.ref (am 0)] (rM E am mm ++ []) (rM E am res ++ []) := by
  refine gMv_of (own := RX12) (by decide +kernel) rfl (Nat.le_of_ble_eq_true rfl) ?_
  intro p e s m args below meth c A ls Q H locs C hz hl hG hin hret
  have hx := C.1.1
  have hb := C.1.2.1
  have hts := C.1.2.2.2.2
  have hown := C.1.2.2.2.1
  have hl : lv_has ls 1 [(0, .ref (am 0))] := hl
  replace hret : ∀ (mm0 : RS) (H : Heap) (locs : List Loc) (pc : Nat) (ls' : Array Slot), some mm0 = some res → gG E A s.heap (rM E am mm0 ++ []) H locs → decode cX12_tick pc = .ok (.return_, 1) → W p l e (rmD 8 0 0) s m args below meth c H locs 0 0 Q (F0 m pc ls' []) := by
    intro mm0 H locs pc ls' e0; cases e0; exact hret H locs pc ls'
  rw [fX12_tick] at h
  refine lv_aload_n hx hb dX12_tick_0 rfl (lv_at hl 0 rfl) ?_
  refine gL_f (v := .ref (am 1)) C hG kX12 0 0 rfl (by decide) rfl q1352 rfl dX12_tick_1 ?_
  refine lv_iconst (v := 3) hx hb dX12_tick_4 (by decide) ?_
  refine lv_dup2_11 hx hb dX12_tick_5 rfl rfl ?_
  refine gL_i (v := (mm 1 3)) C hG 1 rfl (vp_in_nI (n := 3) (by decide) (by decide)) (congrArg (mm 1) (nI_clamp (n := 3) (by decide))) dX12_tick_6 ?_
  refine lv_iconst (v := 1) hx hb dX12_tick_7 (by decide) ?_
  refine lv_iadd hx hb dX12_tick_8 ?_
  obtain ⟨mm_1, emm_1, h⟩ := thn_some h
  refine gS_i (x := ((mm 1 3) + 1)) (ws' := (rM E am mm_1 ++ [])) C hG 1 rfl (vp_in_nI (n := 3) (by decide) (by decide)) (nI_clamp (n := 3) (by decide)) dX12_tick_9 (by rw [emm_1]; rfl) (fun H locs hG => ?_)
  refine lv_aload_n hx hb dX12_tick_10 rfl (lv_at hl 0 rfl) ?_
  obtain ⟨r2, hcr2, h⟩ := bnd_some h
  refine gF_v (ws' := (rM E am r2 ++ [])) C hG (pin pnil) (List.Perm.symm (pin pnil)) (gR_V (As := []) (rest := []) C hz hl.1 hG (pin pnil) (c_X12_goMoves l E am N mm_1 hcr2 H.size) okX12_goMoves q1646 0 rfl rfl rfl (Nat.le_of_ble_eq_true rfl) (by omega) ⟨Nat.le_refl _, Nat.le_refl _⟩ dX12_tick_11) (fun H locs hG => ?_)
  refine lv_aload_n hx hb dX12_tick_14 rfl (lv_at hl 0 rfl) ?_
  refine gL_f (v := .ref (am 1)) C hG kX12 0 0 rfl (by decide) rfl q1352 rfl dX12_tick_15 ?_
  refine lv_iconst (v := 3) hx hb dX12_tick_18 (by decide) ?_
  refine gL_i (v := (r2 1 3)) C hG 1 rfl (vp_in_nI (n := 3) (by decide) (by decide)) (congrArg (r2 1) (nI_clamp (n := 3) (by decide))) dX12_tick_19 ?_
  refine lv_iconst (v := 4) hx hb dX12_tick_20 (by decide) ?_
  refine lv_irem hx hb dX12_tick_21 (by decide) ?_
  refine g_int (v := (irem (r2 1 3) 4)) rfl ?_
  refine lv_if_ne (tgt := 29) hx hb dX12_tick_22 (by decide) (fun c22 => ?_) (fun c22 => ?_)
  · replace h := ie c22 h
    exact hret _ _ _ _ _ h hG dX12_tick_29
  · replace h := it c22 h
    refine lv_aload_n hx hb dX12_tick_25 rfl (lv_at hl 0 rfl) ?_
    obtain ⟨r3, hcr3, h⟩ := bnd_some h
    refine gF_v (ws' := (rM E am r3 ++ [])) C hG (pin pnil) (List.Perm.symm (pin pnil)) (gR_V (As := []) (rest := []) C hz hl.1 hG (pin pnil) (c_X12_endEpoch l E am N r2 hcr3 H.size) okX12_endEpoch q1681 0 rfl rfl rfl (Nat.le_of_ble_eq_true rfl) (by omega) ⟨Nat.le_refl _, Nat.le_refl _⟩ dX12_tick_26) (fun H locs hG => ?_)
    exact hret _ _ _ _ _ h hG dX12_tick_29
set_option maxHeartbeats 4000000 in
set_option maxRecDepth 100000 in
theorem c_X12_crashNow (l : Launch) (E : GE) (am : Nat → Nat) (N : Nat) (mm : RS) {res : Int32 × RS} (h : fX12_crashNow N mm = some res) : gMi l E yX12_crashNow cX12_crashNow 4 .int 3 0 0 [.ref (am 0)] (rM E am mm ++ []) (rM E am res.2 ++ []) res.1 := by
  refine gMi_of (own := RX12) (by decide +kernel) rfl (Nat.le_of_ble_eq_true rfl) ?_
  intro p e s m args below meth c A ls Q H locs C hz hl hG hret
  have hx := C.1.1
  have hb := C.1.2.1
  have hts := C.1.2.2.2.2
  have hown := C.1.2.2.2.1
  have hl : lv_has ls 4 [(0, .ref (am 0))] := hl
  replace hret : ∀ (r0 : Int32) (mm0 : RS) (H : Heap) (locs : List Loc) (pc : Nat) (ls' : Array Slot), some (r0, mm0) = some res → narrow .int (.int r0) = .int r0 → gG E A s.heap (rM E am mm0 ++ []) H locs → decode cX12_crashNow pc = .ok (.ireturn, 1) → W p l e (rmD 3 0 0) s m args below meth c H locs 0 0 Q (F0 m pc ls' [.int r0]) := by
    intro r0 mm0 H locs pc ls' e0 hn; cases e0; exact hret H locs pc ls' hn
  have K43 : ∀ (k13 : (Int32 → Int32 → RS → Option (Int32 × RS))) (hk13 : ∀  (x1 : Int32) (x2 : Int32) (mm : RS) (H : Heap) (locs : List Loc) (ls : Array Slot), gG E A s.heap (rM E am mm ++ []) H locs → lv_has ls 4 [(0, .ref (am 0)), (1, .int x1), (2, .int x2)] → k13 x1 x2 mm = some res → W p l e (rmD 3 0 0) s m args below meth c H locs 0 0 Q (F0 m 13 ls [])), ∀  (x1 : Int32) (x2 : Int32) (mm : RS) (H : Heap) (locs : List Loc) (ls : Array Slot), gG E A s.heap (rM E am mm ++ []) H locs → lv_has ls 4 [(0, .ref (am 0)), (1, .int x1), (2, .int x2)] → fX12_crashNow_L43 N k13 x1 x2 mm = some res → W p l e (rmD 3 0 0) s m args below meth c H locs 0 0 Q (F0 m 43 ls []) := by
    intro k13 hk13 x1 x2 mm H locs ls hG hl h
    rw [fX12_crashNow_L43] at h
    refine lv_aload_n hx hb dX12_crashNow_43 rfl (lv_at hl 0 rfl) ?_
    refine lv_iconst (v := 0) hx hb dX12_crashNow_44 (by decide) ?_
    obtain ⟨r1, hcr1, h⟩ := bnd_some h
    refine gF_v (ws' := (rM E am r1 ++ [])) C hG (pin pnil) (List.Perm.symm (pin pnil)) (gR_V (As := [.int 0]) (rest := []) C hz hl.1 hG (pin pnil) (c_X12_outMove l E am N 0 mm hcr1 H.size) okX12_outMove q1630 0 rfl rfl rfl (Nat.le_of_ble_eq_true rfl) (by omega) ⟨Nat.le_refl _, Nat.le_refl _⟩ dX12_crashNow_45) (fun H locs hG => ?_)
    refine lv_goto (tgt := 13) hx hb dX12_crashNow_48 (by decide) ?_
    exact hk13 x1 x2 r1 _ _ _ hG (lv_sub hl [0, 1, 2] rfl) h
  have K161 : ∀ (k71 : (Int32 → Int32 → Int32 → RS → Option (Int32 × RS))) (hk71 : ∀  (x1 : Int32) (x2 : Int32) (x3 : Int32) (mm : RS) (H : Heap) (locs : List Loc) (ls : Array Slot), gG E A s.heap (rM E am mm ++ []) H locs → lv_has ls 4 [(0, .ref (am 0)), (1, .int x1), (2, .int x2), (3, .int x3)] → k71 x1 x2 x3 mm = some res → W p l e (rmD 3 0 0) s m args below meth c H locs 0 0 Q (F0 m 71 ls [])), ∀  (x1 : Int32) (x2 : Int32) (x3 : Int32) (s1 : Int32) (s2 : Int32) (mm : RS) (H : Heap) (locs : List Loc) (ls : Array Slot), gG E A s.heap (rM E am mm ++ []) H locs → lv_has ls 4 [(0, .ref (am 0)), (1, .int x1), (2, .int x2), (3, .int x3)] → fX12_crashNow_L161 N k71 x1 x2 x3 s1 s2 mm = some res → W p l e (rmD 3 0 0) s m args below meth c H locs 0 0 Q (F0 m 161 ls [.int s2, .int s1, .ref (am 1)]) := by
    intro k71 hk71 x1 x2 x3 s1 s2 mm H locs ls hG hl h
    rw [fX12_crashNow_L161] at h
    obtain ⟨b1, h⟩ := ck_some h
    obtain ⟨mm_2, emm_2, h⟩ := thn_some h
    refine gS_i (x := s2) (ws' := (rM E am mm_2 ++ [])) C hG 1 rfl (inb_in b1) rfl dX12_crashNow_161 (by rw [emm_2]; rfl) (fun H locs hG => ?_)
    refine lv_iinc (v := (x3 + 1)) (lv' := [(3, .int (x3 + 1)), (0, .ref (am 0)), (1, .int x1), (2, .int x2)]) hx hb dX12_crashNow_162 hl (k := 3) rfl (congrArg (x3 + ·) (by decide : Int32.ofInt 1 = 1)) (by decide) rfl (fun ls hl => ?_)
    refine lv_goto (tgt := 71) hx hb dX12_crashNow_165 (by decide) ?_
    exact hk71 x1 x2 (x3 + 1) mm_2 _ _ _ hG (lv_sub hl [1, 2, 3, 0] rfl) h
  have K71 : ∀ (k : Nat), ∀  (x1 : Int32) (x2 : Int32) (x3 : Int32) (mm : RS) (H : Heap) (locs : List Loc) (ls : Array Slot), gG E A s.heap (rM E am mm ++ []) H locs → lv_has ls 4 [(0, .ref (am 0)), (1, .int x1), (2, .int x2), (3, .int x3)] → fX12_crashNow_L71 N k x1 x2 x3 mm = some res → W p l e (rmD 3 0 0) s m args below meth c H locs 0 0 Q (F0 m 71 ls []) := by
    intro k
    induction k with
    | zero => intro x1 x2 x3 mm H locs ls hG hl h; exact absurd (show none = _ from h) (by simp)
    | succ k ih =>
      intro x1 x2 x3 mm H locs ls hG hl h
      rw [fX12_crashNow_L71] at h
      refine lv_iload_n hx hb dX12_crashNow_71 rfl (lv_at hl 3 rfl) ?_
      refine lv_bipush (v := 10) hx hb dX12_crashNow_72 (by decide) ?_
      refine lv_icmp_ge (tgt := 168) hx hb dX12_crashNow_74 (by decide) (fun c74 => ?_) (fun c74 => ?_)
      · replace h := it c74 h
        refine lv_aload_n hx hb dX12_crashNow_168 rfl (lv_at hl 0 rfl) ?_
        refine gL_f (v := .ref (am 1)) C hG kX12 0 0 rfl (by decide) rfl q1352 rfl dX12_crashNow_169 ?_
        refine lv_bipush (v := 15) hx hb dX12_crashNow_172 (by decide) ?_
        refine lv_dup2_11 hx hb dX12_crashNow_174 rfl rfl ?_
        refine gL_i (v := (mm 1 15)) C hG 1 rfl (vp_in_nI (n := 15) (by decide) (by decide)) (congrArg (mm 1) (nI_clamp (n := 15) (by decide))) dX12_crashNow_175 ?_
        refine lv_iconst (v := 1) hx hb dX12_crashNow_176 (by decide) ?_
        refine lv_iadd hx hb dX12_crashNow_177 ?_
        obtain ⟨mm_1, emm_1, h⟩ := thn_some h
        refine gS_i (x := ((mm 1 15) + 1)) (ws' := (rM E am mm_1 ++ [])) C hG 1 rfl (vp_in_nI (n := 15) (by decide) (by decide)) (nI_clamp (n := 15) (by decide)) dX12_crashNow_178 (by rw [emm_1]; rfl) (fun H locs hG => ?_)
        refine lv_aload_n hx hb dX12_crashNow_179 rfl (lv_at hl 0 rfl) ?_
        refine lv_iconst (v := 4) hx hb dX12_crashNow_180 (by decide) ?_
        refine lv_iload_n hx hb dX12_crashNow_181 rfl (lv_at hl 1 rfl) ?_
        refine lv_aload_n hx hb dX12_crashNow_182 rfl (lv_at hl 0 rfl) ?_
        obtain ⟨r2, hcr2, h⟩ := bnd_some h
        refine gF_i (ws' := (rM E am mm_1 ++ [])) C hG (pin pnil) (List.Perm.symm (pin pnil)) (gR_V (As := []) (rest := [.int x1, .int 4, .ref (am 0)]) C hz hl.1 hG (pin pnil) (c_X12_manyFree l E am N mm_1 hcr2 H.size) okX12_manyFree q1654 0 rfl rfl rfl (Nat.le_of_ble_eq_true rfl) (by omega) ⟨Nat.le_refl _, Nat.le_refl _⟩ dX12_crashNow_183) (fun H locs _ hG => ?_)
        refine lv_iload_n hx hb dX12_crashNow_186 rfl (lv_at hl 2 rfl) ?_
        refine lv_isub hx hb dX12_crashNow_187 ?_
        obtain ⟨r3, hcr3, h⟩ := bnd_some h
        refine gF_v (ws' := (rM E am r3 ++ [])) C hG (pin pnil) (List.Perm.symm (pin pnil)) (gR_V (As := [.int 4, .int x1, .int (r2 - x2)]) (rest := []) C hz hl.1 hG (pin pnil) (c_X12_writeDown l E am N 4 x1 (r2 - x2) mm_1 hcr3 H.size) okX12_writeDown q1598 0 rfl rfl rfl (Nat.le_of_ble_eq_true rfl) (by omega) ⟨Nat.le_refl _, Nat.le_refl _⟩ dX12_crashNow_188) (fun H locs hG => ?_)
        refine lv_iload_n hx hb dX12_crashNow_191 rfl (lv_at hl 1 rfl) ?_
        exact hret _ _ _ _ _ _ h rfl hG dX12_crashNow_192
      · replace h := ie c74 h
        refine lv_aload_n hx hb dX12_crashNow_77 rfl (lv_at hl 0 rfl) ?_
        refine gL_f (v := .ref (am 1)) C hG kX12 0 0 rfl (by decide) rfl q1352 rfl dX12_crashNow_78 ?_
        refine lv_bipush (v := 19) hx hb dX12_crashNow_81 (by decide) ?_
        refine lv_iload_n hx hb dX12_crashNow_83 rfl (lv_at hl 3 rfl) ?_
        refine lv_iadd hx hb dX12_crashNow_84 ?_
        refine lv_aload_n hx hb dX12_crashNow_85 rfl (lv_at hl 0 rfl) ?_
        refine gL_f (v := .ref (am 1)) C hG kX12 0 0 rfl (by decide) rfl q1352 rfl dX12_crashNow_86 ?_
        refine lv_bipush (v := 89) hx hb dX12_crashNow_89 (by decide) ?_
        refine lv_iload_n hx hb dX12_crashNow_91 rfl (lv_at hl 3 rfl) ?_
        refine lv_iadd hx hb dX12_crashNow_92 ?_
        obtain ⟨b4, h⟩ := ck_some h
        refine gL_i (v := (mm 1 (89 + x3).toNatClampNeg)) C hG 1 rfl (inb_in b4) rfl dX12_crashNow_93 ?_
        obtain ⟨b5, h⟩ := ck_some h
        obtain ⟨mm_6, emm_6, h⟩ := thn_some h
        refine gS_i (x := (mm 1 (89 + x3).toNatClampNeg)) (ws' := (rM E am mm_6 ++ [])) C hG 1 rfl (inb_in b5) rfl dX12_crashNow_94 (by rw [emm_6]; rfl) (fun H locs hG => ?_)
        refine lv_aload_n hx hb dX12_crashNow_95 rfl (lv_at hl 0 rfl) ?_
        refine gL_f (v := .ref (am 1)) C hG kX12 0 0 rfl (by decide) rfl q1352 rfl dX12_crashNow_96 ?_
        refine lv_bipush (v := 29) hx hb dX12_crashNow_99 (by decide) ?_
        refine lv_iload_n hx hb dX12_crashNow_101 rfl (lv_at hl 3 rfl) ?_
        refine lv_iadd hx hb dX12_crashNow_102 ?_
        refine lv_aload_n hx hb dX12_crashNow_103 rfl (lv_at hl 0 rfl) ?_
        refine gL_f (v := .ref (am 1)) C hG kX12 0 0 rfl (by decide) rfl q1352 rfl dX12_crashNow_104 ?_
        refine lv_bipush (v := 99) hx hb dX12_crashNow_107 (by decide) ?_
        refine lv_iload_n hx hb dX12_crashNow_109 rfl (lv_at hl 3 rfl) ?_
        refine lv_iadd hx hb dX12_crashNow_110 ?_
        obtain ⟨b7, h⟩ := ck_some h
        refine gL_i (v := (mm_6 1 (99 + x3).toNatClampNeg)) C hG 1 rfl (inb_in b7) rfl dX12_crashNow_111 ?_
        obtain ⟨b8, h⟩ := ck_some h
        obtain ⟨mm_9, emm_9, h⟩ := thn_some h
        refine gS_i (x := (mm_6 1 (99 + x3).toNatClampNeg)) (ws' := (rM E am mm_9 ++ [])) C hG 1 rfl (inb_in b8) rfl dX12_crashNow_112 (by rw [emm_9]; rfl) (fun H locs hG => ?_)
        refine lv_aload_n hx hb dX12_crashNow_113 rfl (lv_at hl 0 rfl) ?_
        refine gL_f (v := .ref (am 1)) C hG kX12 0 0 rfl (by decide) rfl q1352 rfl dX12_crashNow_114 ?_
        refine lv_bipush (v := 39) hx hb dX12_crashNow_117 (by decide) ?_
        refine lv_iload_n hx hb dX12_crashNow_119 rfl (lv_at hl 3 rfl) ?_
        refine lv_iadd hx hb dX12_crashNow_120 ?_
        refine lv_iconst (v := 0) hx hb dX12_crashNow_121 (by decide) ?_
        obtain ⟨b10, h⟩ := ck_some h
        obtain ⟨mm_11, emm_11, h⟩ := thn_some h
        refine gS_i (x := 0) (ws' := (rM E am mm_11 ++ [])) C hG 1 rfl (inb_in b10) rfl dX12_crashNow_122 (by rw [emm_11]; rfl) (fun H locs hG => ?_)
        refine lv_aload_n hx hb dX12_crashNow_123 rfl (lv_at hl 0 rfl) ?_
        refine gL_f (v := .ref (am 1)) C hG kX12 0 0 rfl (by decide) rfl q1352 rfl dX12_crashNow_124 ?_
        refine lv_bipush (v := 49) hx hb dX12_crashNow_127 (by decide) ?_
        refine lv_iload_n hx hb dX12_crashNow_129 rfl (lv_at hl 3 rfl) ?_
        refine lv_iadd hx hb dX12_crashNow_130 ?_
        refine lv_iconst (v := 0) hx hb dX12_crashNow_131 (by decide) ?_
        obtain ⟨b12, h⟩ := ck_some h
        obtain ⟨mm_13, emm_13, h⟩ := thn_some h
        refine gS_i (x := 0) (ws' := (rM E am mm_13 ++ [])) C hG 1 rfl (inb_in b12) rfl dX12_crashNow_132 (by rw [emm_13]; rfl) (fun H locs hG => ?_)
        refine lv_aload_n hx hb dX12_crashNow_133 rfl (lv_at hl 0 rfl) ?_
        refine gL_f (v := .ref (am 1)) C hG kX12 0 0 rfl (by decide) rfl q1352 rfl dX12_crashNow_134 ?_
        refine lv_bipush (v := 79) hx hb dX12_crashNow_137 (by decide) ?_
        refine lv_iload_n hx hb dX12_crashNow_139 rfl (lv_at hl 3 rfl) ?_
        refine lv_iadd hx hb dX12_crashNow_140 ?_
        refine lv_aload_n hx hb dX12_crashNow_141 rfl (lv_at hl 0 rfl) ?_
        refine lv_iload_n hx hb dX12_crashNow_142 rfl (lv_at hl 3 rfl) ?_
        obtain ⟨r14, hcr14, h⟩ := bnd_some h
        refine gF_i (ws' := (rM E am mm_13 ++ [])) C hG (pin pnil) (List.Perm.symm (pin pnil)) (gR_V (As := [.int x3]) (rest := [.int (79 + x3), .ref (am 1)]) C hz hl.1 hG (pin pnil) (c_X12_isFast l E am N x3 mm_13 hcr14 H.size) okX12_isFast q1551 0 rfl rfl rfl (Nat.le_of_ble_eq_true rfl) (by omega) ⟨Nat.le_refl _, Nat.le_refl _⟩ dX12_crashNow_143) (fun H locs z15 hG => ?_)
        refine lv_if_eq (tgt := 160) hx hb dX12_crashNow_146 (by decide) (fun c146 => ?_) (fun c146 => ?_)
        · replace h := it c146 h
          refine lv_iconst (v := 0) hx hb dX12_crashNow_160 (by decide) ?_
          exact K161 _ ih x1 x2 x3 (79 + x3) 0 mm_13 _ _ _ hG (lv_sub hl [0, 1, 2, 3] rfl) h
        · replace h := ie c146 h
          refine lv_iconst (v := 1) hx hb dX12_crashNow_149 (by decide) ?_
          refine lv_iload_n hx hb dX12_crashNow_150 rfl (lv_at hl 3 rfl) ?_
          refine gF_i (ws' := (rM E am mm_13 ++ [])) C hG pst pst.symm (gR_S (As := [.int x3]) (rest := [.int 1, .int (79 + x3), .ref (am 1)]) C hz hl.1 hG pst (c_X12_sizeOf l E x3 rfl H.size) okX12_sizeOf q1536 rfl (Nat.le_of_ble_eq_true rfl) (by omega) ⟨Nat.le_refl _, Nat.le_refl _⟩ dX12_crashNow_151) (fun H locs _ hG => ?_)
          refine lv_ishl hx hb dX12_crashNow_154 ?_
          refine lv_iconst (v := 1) hx hb dX12_crashNow_155 (by decide) ?_
          refine lv_isub hx hb dX12_crashNow_156 ?_
          refine lv_goto (tgt := 161) hx hb dX12_crashNow_157 (by decide) ?_
          exact K161 _ ih x1 x2 x3 (79 + x3) ((1 <<< (((fX12_sizeOf x3) : Int32) &&& 31)) - 1) mm_13 _ _ _ hG (lv_sub hl [0, 1, 2, 3] rfl) h
  have K51 : ∀ (k : Nat), ∀  (x1 : Int32) (x2 : Int32) (mm : RS) (H : Heap) (locs : List Loc) (ls : Array Slot), gG E A s.heap (rM E am mm ++ []) H locs → lv_has ls 4 [(0, .ref (am 0)), (1, .int x1), (2, .int x2)] → fX12_crashNow_L51 N k x1 x2 mm = some res → W p l e (rmD 3 0 0) s m args below meth c H locs 0 0 Q (F0 m 51 ls []) := by
    intro k
    induction k with
    | zero => intro x1 x2 mm H locs ls hG hl h; exact absurd (show none = _ from h) (by simp)
    | succ k ih =>
      intro x1 x2 mm H locs ls hG hl h
      rw [fX12_crashNow_L51] at h
      refine lv_aload_n hx hb dX12_crashNow_51 rfl (lv_at hl 0 rfl) ?_
      refine gL_f (v := .ref (am 1)) C hG kX12 0 0 rfl (by decide) rfl q1352 rfl dX12_crashNow_52 ?_
      refine lv_bipush (v := 16) hx hb dX12_crashNow_55 (by decide) ?_
      refine gL_i (v := (mm 1 16)) C hG 1 rfl (vp_in_nI (n := 16) (by decide) (by decide)) (congrArg (mm 1) (nI_clamp (n := 16) (by decide))) dX12_crashNow_57 ?_
      refine lv_if_le (tgt := 69) hx hb dX12_crashNow_58 (by decide) (fun c58 => ?_) (fun c58 => ?_)
      · replace h := it c58 h
        refine lv_iconst (v := 0) hx hb dX12_crashNow_69 (by decide) ?_
        refine lv_istore_n (lv' := [(3, .int 0), (0, .ref (am 0)), (1, .int x1), (2, .int x2)]) hx hb dX12_crashNow_70 rfl hl (by decide) rfl (fun ls hl => ?_)
        exact K71 N x1 x2 0 mm _ _ _ hG (lv_sub hl [1, 2, 3, 0] rfl) h
      · replace h := ie c58 h
        refine lv_aload_n hx hb dX12_crashNow_61 rfl (lv_at hl 0 rfl) ?_
        refine lv_iconst (v := 0) hx hb dX12_crashNow_62 (by decide) ?_
        obtain ⟨r1, hcr1, h⟩ := bnd_some h
        refine gF_v (ws' := (rM E am r1 ++ [])) C hG (pin pnil) (List.Perm.symm (pin pnil)) (gR_V (As := [.int 0]) (rest := []) C hz hl.1 hG (pin pnil) (c_X12_outHead l E am N 0 mm hcr1 H.size) okX12_outHead q1566 0 rfl rfl rfl (Nat.le_of_ble_eq_true rfl) (by omega) ⟨Nat.le_refl _, Nat.le_refl _⟩ dX12_crashNow_63) (fun H locs hG => ?_)
        refine lv_goto (tgt := 51) hx hb dX12_crashNow_66 (by decide) ?_
        exact ih x1 x2 r1 _ _ _ hG (lv_sub hl [0, 1, 2] rfl) h
  have K13 : ∀ (k : Nat), ∀  (x1 : Int32) (x2 : Int32) (mm : RS) (H : Heap) (locs : List Loc) (ls : Array Slot), gG E A s.heap (rM E am mm ++ []) H locs → lv_has ls 4 [(0, .ref (am 0)), (1, .int x1), (2, .int x2)] → fX12_crashNow_L13 N k x1 x2 mm = some res → W p l e (rmD 3 0 0) s m args below meth c H locs 0 0 Q (F0 m 13 ls []) := by
    intro k
    induction k with
    | zero => intro x1 x2 mm H locs ls hG hl h; exact absurd (show none = _ from h) (by simp)
    | succ k ih =>
      intro x1 x2 mm H locs ls hG hl h
      rw [fX12_crashNow_L13] at h
      refine lv_aload_n hx hb dX12_crashNow_13 rfl (lv_at hl 0 rfl) ?_
      refine gL_f (v := .ref (am 1)) C hG kX12 0 0 rfl (by decide) rfl q1352 rfl dX12_crashNow_14 ?_
      refine lv_bipush (v := 17) hx hb dX12_crashNow_17 (by decide) ?_
      refine gL_i (v := (mm 1 17)) C hG 1 rfl (vp_in_nI (n := 17) (by decide) (by decide)) (congrArg (mm 1) (nI_clamp (n := 17) (by decide))) dX12_crashNow_19 ?_
      refine lv_if_le (tgt := 51) hx hb dX12_crashNow_20 (by decide) (fun c20 => ?_) (fun c20 => ?_)
      · replace h := it c20 h
        exact K51 N x1 x2 mm _ _ _ hG (lv_sub hl [0, 1, 2] rfl) h
      · replace h := ie c20 h
        refine lv_aload_n hx hb dX12_crashNow_23 rfl (lv_at hl 0 rfl) ?_
        refine lv_iconst (v := 0) hx hb dX12_crashNow_24 (by decide) ?_
        refine lv_iconst (v := 1) hx hb dX12_crashNow_25 (by decide) ?_
        obtain ⟨r1, hcr1, h⟩ := bnd_some h
        refine gF_i (ws' := (rM E am mm ++ [])) C hG (pin pnil) (List.Perm.symm (pin pnil)) (gR_V (As := [.int 0, .int 1]) (rest := []) C hz hl.1 hG (pin pnil) (c_X12_ofMove l E am N 0 1 mm hcr1 H.size) okX12_ofMove q1622 0 rfl rfl rfl (Nat.le_of_ble_eq_true rfl) (by omega) ⟨Nat.le_refl _, Nat.le_refl _⟩ dX12_crashNow_26) (fun H locs _ hG => ?_)
        refine lv_iconst (v := 1) hx hb dX12_crashNow_29 (by decide) ?_
        refine lv_icmp_ne (tgt := 43) hx hb dX12_crashNow_30 (by decide) (fun c30 => ?_) (fun c30 => ?_)
        · replace h := ie c30 h
          exact K43 _ ih x1 x2 mm _ _ _ hG (lv_sub hl [0, 1, 2] rfl) h
        · replace h := it c30 h
          refine lv_aload_n hx hb dX12_crashNow_33 rfl (lv_at hl 0 rfl) ?_
          refine lv_aload_n hx hb dX12_crashNow_34 rfl (lv_at hl 0 rfl) ?_
          refine lv_iconst (v := 0) hx hb dX12_crashNow_35 (by decide) ?_
          refine lv_iconst (v := 0) hx hb dX12_crashNow_36 (by decide) ?_
          obtain ⟨r2, hcr2, h⟩ := bnd_some h
          refine gF_i (ws' := (rM E am mm ++ [])) C hG (pin pnil) (List.Perm.symm (pin pnil)) (gR_V (As := [.int 0, .int 0]) (rest := [.ref (am 0)]) C hz hl.1 hG (pin pnil) (c_X12_ofMove l E am N 0 0 mm hcr2 H.size) okX12_ofMove q1622 0 rfl rfl rfl (Nat.le_of_ble_eq_true rfl) (by omega) ⟨Nat.le_refl _, Nat.le_refl _⟩ dX12_crashNow_37) (fun H locs _ hG => ?_)
          obtain ⟨r3, hcr3, h⟩ := bnd_some h
          refine gF_v (ws' := (rM E am r3 ++ [])) C hG (pin pnil) (List.Perm.symm (pin pnil)) (gR_V (As := [.int r2]) (rest := []) C hz hl.1 hG (pin pnil) (c_X12_freeSlots l E am N r2 mm hcr3 H.size) okX12_freeSlots q1626 0 rfl rfl rfl (Nat.le_of_ble_eq_true rfl) (by omega) ⟨Nat.le_refl _, Nat.le_refl _⟩ dX12_crashNow_40) (fun H locs hG => ?_)
          exact K43 _ ih x1 x2 r3 _ _ _ hG (lv_sub hl [0, 1, 2] rfl) h
  rw [fX12_crashNow] at h
  refine lv_aload_n hx hb dX12_crashNow_0 rfl (lv_at hl 0 rfl) ?_
  refine gL_f (v := .ref (am 1)) C hG kX12 0 0 rfl (by decide) rfl q1352 rfl dX12_crashNow_1 ?_
  refine lv_bipush (v := 17) hx hb dX12_crashNow_4 (by decide) ?_
  refine gL_i (v := (mm 1 17)) C hG 1 rfl (vp_in_nI (n := 17) (by decide) (by decide)) (congrArg (mm 1) (nI_clamp (n := 17) (by decide))) dX12_crashNow_6 ?_
  obtain ⟨x1_1, ex1_1, h⟩ := thn_some h
  refine g_int ex1_1 ?_
  refine lv_istore_n (lv' := [(1, .int x1_1), (0, .ref (am 0))]) hx hb dX12_crashNow_7 rfl hl (by decide) rfl (fun ls hl => ?_)
  refine lv_aload_n hx hb dX12_crashNow_8 rfl (lv_at hl 1 rfl) ?_
  obtain ⟨r2, hcr2, h⟩ := bnd_some h
  refine gF_i (ws' := (rM E am mm ++ [])) C hG (pin pnil) (List.Perm.symm (pin pnil)) (gR_V (As := []) (rest := []) C hz hl.1 hG (pin pnil) (c_X12_manyFree l E am N mm hcr2 H.size) okX12_manyFree q1654 0 rfl rfl rfl (Nat.le_of_ble_eq_true rfl) (by omega) ⟨Nat.le_refl _, Nat.le_refl _⟩ dX12_crashNow_9) (fun H locs _ hG => ?_)
  refine lv_istore_n (lv' := [(2, .int r2), (1, .int x1_1), (0, .ref (am 0))]) hx hb dX12_crashNow_12 rfl hl (by decide) rfl (fun ls hl => ?_)
  exact K13 N x1_1 r2 mm _ _ _ hG (lv_sub hl [2, 1, 0] rfl) h
set_option maxHeartbeats 4000000 in
set_option maxRecDepth 100000 in
theorem c_X12_scanNow (l : Launch) (E : GE) (am : Nat → Nat) (N : Nat) (x1 : Int32) (x2 : Int32) (mm : RS) {res : Int32 × RS} (h : fX12_scanNow N x1 x2 mm = some res) : gMi l E yX12_scanNow cX12_scanNow 6 .int 5 0 0 [.ref (am 0), .int x1, .int x2] (rM E am mm ++ []) (rM E am res.2 ++ []) res.1 := by
  refine gMi_of (own := RX12) (by decide +kernel) rfl (Nat.le_of_ble_eq_true rfl) ?_
  intro p e s m args below meth c A ls Q H locs C hz hl hG hret
  have hx := C.1.1
  have hb := C.1.2.1
  have hts := C.1.2.2.2.2
  have hown := C.1.2.2.2.1
  have hl : lv_has ls 6 [(0, .ref (am 0)), (1, .int x1), (2, .int x2)] := hl
  replace hret : ∀ (r0 : Int32) (mm0 : RS) (H : Heap) (locs : List Loc) (pc : Nat) (ls' : Array Slot), some (r0, mm0) = some res → narrow .int (.int r0) = .int r0 → gG E A s.heap (rM E am mm0 ++ []) H locs → decode cX12_scanNow pc = .ok (.ireturn, 1) → W p l e (rmD 5 0 0) s m args below meth c H locs 0 0 Q (F0 m pc ls' [.int r0]) := by
    intro r0 mm0 H locs pc ls' e0 hn; cases e0; exact hret H locs pc ls' hn
  have K35 : ∀ (k5 : (Int32 → Int32 → RS → Option (Int32 × RS))) (hk5 : ∀  (x3 : Int32) (x4 : Int32) (mm : RS) (H : Heap) (locs : List Loc) (ls : Array Slot), gG E A s.heap (rM E am mm ++ []) H locs → lv_has ls 6 [(0, .ref (am 0)), (2, .int x2), (3, .int x3), (4, .int x4)] → k5 x3 x4 mm = some res → W p l e (rmD 5 0 0) s m args below meth c H locs 0 0 Q (F0 m 5 ls [])) (k : Nat), ∀  (x3 : Int32) (x4 : Int32) (x5 : Int32) (mm : RS) (H : Heap) (locs : List Loc) (ls : Array Slot), gG E A s.heap (rM E am mm ++ []) H locs → lv_has ls 6 [(0, .ref (am 0)), (2, .int x2), (3, .int x3), (4, .int x4), (5, .int x5)] → fX12_scanNow_L35 N x1 x2 k5 k x3 x4 x5 mm = some res → W p l e (rmD 5 0 0) s m args below meth c H locs 0 0 Q (F0 m 35 ls []) := by
    intro k5 hk5 k
    induction k with
    | zero => intro x3 x4 x5 mm H locs ls hG hl h; exact absurd (show none = _ from h) (by simp)
    | succ k ih =>
      intro x3 x4 x5 mm H locs ls hG hl h
      rw [fX12_scanNow_L35] at h
      refine lv_iload hx hb dX12_scanNow_35 (lv_at hl 4 rfl) ?_
      refine lv_iload hx hb dX12_scanNow_37 (lv_at hl 3 rfl) ?_
      refine gF_i (ws' := (rM E am mm ++ [])) C hG pst pst.symm (gR_S (As := [.int x4]) (rest := [.int x5]) C hz hl.1 hG pst (c_X12_sizeOf l E x4 rfl H.size) okX12_sizeOf q1536 rfl (Nat.le_of_ble_eq_true rfl) (by omega) ⟨Nat.le_refl _, Nat.le_refl _⟩ dX12_scanNow_39) (fun H locs _ hG => ?_)
      refine lv_icmp_ge (tgt := 60) hx hb dX12_scanNow_42 (by decide) (fun c42 => ?_) (fun c42 => ?_)
      · replace h := it c42 h
        refine lv_iinc (v := (x4 + 1)) (lv' := [(4, .int (x4 + 1)), (0, .ref (am 0)), (2, .int x2), (3, .int x3), (5, .int x5)]) hx hb dX12_scanNow_60 hl (k := 3) rfl (congrArg (x4 + ·) (by decide : Int32.ofInt 1 = 1)) (by decide) rfl (fun ls hl => ?_)
        refine lv_goto (tgt := 5) hx hb dX12_scanNow_63 (by decide) ?_
        exact hk5 x3 (x4 + 1) mm _ _ _ hG (lv_sub hl [1, 2, 3, 0] rfl) h
      · replace h := ie c42 h
        refine lv_aload_n hx hb dX12_scanNow_45 rfl (lv_at hl 0 rfl) ?_
        refine lv_iload hx hb dX12_scanNow_46 (lv_at hl 3 rfl) ?_
        refine lv_iload hx hb dX12_scanNow_48 (lv_at hl 4 rfl) ?_
        obtain ⟨r1, hcr1, h⟩ := bnd_some h
        refine gF_i (ws' := (rM E am r1.2 ++ [])) C hG (pin pnil) (List.Perm.symm (pin pnil)) (gR_V (As := [.int x4, .int x5]) (rest := []) C hz hl.1 hG (pin pnil) (c_X12_readNow l E am N x4 x5 mm hcr1 H.size) okX12_readNow q1543 0 rfl rfl rfl (Nat.le_of_ble_eq_true rfl) (by omega) ⟨Nat.le_refl _, Nat.le_refl _⟩ dX12_scanNow_50) (fun H locs _ hG => ?_)
        refine lv_pop hx hb dX12_scanNow_53 rfl ?_
        refine lv_iinc (v := (x5 + 1)) (lv' := [(5, .int (x5 + 1)), (0, .ref (am 0)), (2, .int x2), (3, .int x3), (4, .int x4)]) hx hb dX12_scanNow_54 hl (k := 4) rfl (congrArg (x5 + ·) (by decide : Int32.ofInt 1 = 1)) (by decide) rfl (fun ls hl => ?_)
        refine lv_goto (tgt := 35) hx hb dX12_scanNow_57 (by decide) ?_
        exact ih x3 x4 (x5 + 1) r1.2 _ _ _ hG (lv_sub hl [1, 2, 3, 4, 0] rfl) h
  have K30 : ∀ (k5 : (Int32 → Int32 → RS → Option (Int32 × RS))) (hk5 : ∀  (x3 : Int32) (x4 : Int32) (mm : RS) (H : Heap) (locs : List Loc) (ls : Array Slot), gG E A s.heap (rM E am mm ++ []) H locs → lv_has ls 6 [(0, .ref (am 0)), (2, .int x2), (3, .int x3), (4, .int x4)] → k5 x3 x4 mm = some res → W p l e (rmD 5 0 0) s m args below meth c H locs 0 0 Q (F0 m 5 ls [])), ∀  (x4 : Int32) (s0 : Int32) (s1 : Int32) (mm : RS) (H : Heap) (locs : List Loc) (ls : Array Slot), gG E A s.heap (rM E am mm ++ []) H locs → lv_has ls 6 [(0, .ref (am 0)), (2, .int x2), (4, .int x4)] → fX12_scanNow_L30 N x1 x2 k5 x4 s0 s1 mm = some res → W p l e (rmD 5 0 0) s m args below meth c H locs 0 0 Q (F0 m 30 ls [.int s1, .int s0]) := by
    intro k5 hk5 x4 s0 s1 mm H locs ls hG hl h
    rw [fX12_scanNow_L30] at h
    refine lv_iadd hx hb dX12_scanNow_30 ?_
    obtain ⟨x3_1, ex3_1, h⟩ := thn_some h
    refine g_int ex3_1 ?_
    refine lv_istore_n (lv' := [(3, .int x3_1), (0, .ref (am 0)), (2, .int x2), (4, .int x4)]) hx hb dX12_scanNow_31 rfl hl (by decide) rfl (fun ls hl => ?_)
    refine lv_iconst (v := 0) hx hb dX12_scanNow_32 (by decide) ?_
    refine lv_istore (lv' := [(5, .int 0), (3, .int x3_1), (0, .ref (am 0)), (2, .int x2), (4, .int x4)]) hx hb dX12_scanNow_33 hl (by decide) rfl (fun ls hl => ?_)
    exact K35 _ hk5 N x3_1 x4 0 mm _ _ _ hG (lv_sub hl [2, 3, 1, 4, 0] rfl) h
  have K5 : ∀ (k : Nat), ∀  (x3 : Int32) (x4 : Int32) (mm : RS) (H : Heap) (locs : List Loc) (ls : Array Slot), gG E A s.heap (rM E am mm ++ []) H locs → lv_has ls 6 [(0, .ref (am 0)), (2, .int x2), (3, .int x3), (4, .int x4)] → fX12_scanNow_L5 N x1 x2 k x3 x4 mm = some res → W p l e (rmD 5 0 0) s m args below meth c H locs 0 0 Q (F0 m 5 ls []) := by
    intro k
    induction k with
    | zero => intro x3 x4 mm H locs ls hG hl h; exact absurd (show none = _ from h) (by simp)
    | succ k ih =>
      intro x3 x4 mm H locs ls hG hl h
      rw [fX12_scanNow_L5] at h
      refine lv_iload hx hb dX12_scanNow_5 (lv_at hl 3 rfl) ?_
      refine lv_iload_n hx hb dX12_scanNow_7 rfl (lv_at hl 1 rfl) ?_
      refine lv_icmp_gt (tgt := 66) hx hb dX12_scanNow_8 (by decide) (fun c8 => ?_) (fun c8 => ?_)
      · replace h := it c8 h
        refine lv_iload_n hx hb dX12_scanNow_66 rfl (lv_at hl 2 rfl) ?_
        exact hret _ _ _ _ _ _ h rfl hG dX12_scanNow_67
      · replace h := ie c8 h
        refine lv_iload_n hx hb dX12_scanNow_11 rfl (lv_at hl 2 rfl) ?_
        refine lv_aload_n hx hb dX12_scanNow_12 rfl (lv_at hl 0 rfl) ?_
        refine lv_iload hx hb dX12_scanNow_13 (lv_at hl 3 rfl) ?_
        obtain ⟨r1, hcr1, h⟩ := bnd_some h
        refine gF_i (ws' := (rM E am mm ++ [])) C hG (pin pnil) (List.Perm.symm (pin pnil)) (gR_V (As := [.int x4]) (rest := [.int x3]) C hz hl.1 hG (pin pnil) (c_X12_isFast l E am N x4 mm hcr1 H.size) okX12_isFast q1551 0 rfl rfl rfl (Nat.le_of_ble_eq_true rfl) (by omega) ⟨Nat.le_refl _, Nat.le_refl _⟩ dX12_scanNow_15) (fun H locs z2 hG => ?_)
        refine lv_if_eq (tgt := 29) hx hb dX12_scanNow_18 (by decide) (fun c18 => ?_) (fun c18 => ?_)
        · replace h := it c18 h
          refine lv_iconst (v := 0) hx hb dX12_scanNow_29 (by decide) ?_
          exact K30 _ ih x4 x3 0 mm _ _ _ hG (lv_sub hl [0, 1, 3] rfl) h
        · replace h := ie c18 h
          refine lv_iload hx hb dX12_scanNow_21 (lv_at hl 3 rfl) ?_
          refine gF_i (ws' := (rM E am mm ++ [])) C hG pst pst.symm (gR_S (As := [.int x4]) (rest := [.int x3]) C hz hl.1 hG pst (c_X12_sizeOf l E x4 rfl H.size) okX12_sizeOf q1536 rfl (Nat.le_of_ble_eq_true rfl) (by omega) ⟨Nat.le_refl _, Nat.le_refl _⟩ dX12_scanNow_23) (fun H locs _ hG => ?_)
          refine lv_goto (tgt := 30) hx hb dX12_scanNow_26 (by decide) ?_
          exact K30 _ ih x4 x3 (fX12_sizeOf x4) mm _ _ _ hG (lv_sub hl [0, 1, 3] rfl) h
  rw [fX12_scanNow] at h
  refine lv_iconst (v := 0) hx hb dX12_scanNow_0 (by decide) ?_
  refine lv_istore_n (lv' := [(3, .int 0), (0, .ref (am 0)), (1, .int x1), (2, .int x2)]) hx hb dX12_scanNow_1 rfl hl (by decide) rfl (fun ls hl => ?_)
  refine lv_iload_n hx hb dX12_scanNow_2 rfl (lv_at hl 2 rfl) ?_
  refine lv_istore (lv' := [(4, .int x1), (3, .int 0), (0, .ref (am 0)), (1, .int x1), (2, .int x2)]) hx hb dX12_scanNow_3 hl (by decide) rfl (fun ls hl => ?_)
  exact K5 N 0 x1 mm _ _ _ hG (lv_sub hl [2, 4, 1, 0] rfl) h
set_option maxHeartbeats 4000000 in
set_option maxRecDepth 100000 in
theorem c_X12_ticks (l : Launch) (E : GE) (am : Nat → Nat) (N : Nat) (x1 : Int32) (mm : RS) {res : RS} (h : fX12_ticks N x1 mm = some res) : gMv l E yX12_ticks cX12_ticks 3 9 0 0 [.ref (am 0), .int x1] (rM E am mm ++ []) (rM E am res ++ []) := by
  refine gMv_of (own := RX12) (by decide +kernel) rfl (Nat.le_of_ble_eq_true rfl) ?_
  intro p e s m args below meth c A ls Q H locs C hz hl hG hin hret
  have hx := C.1.1
  have hb := C.1.2.1
  have hts := C.1.2.2.2.2
  have hown := C.1.2.2.2.1
  have hl : lv_has ls 3 [(0, .ref (am 0)), (1, .int x1)] := hl
  replace hret : ∀ (mm0 : RS) (H : Heap) (locs : List Loc) (pc : Nat) (ls' : Array Slot), some mm0 = some res → gG E A s.heap (rM E am mm0 ++ []) H locs → decode cX12_ticks pc = .ok (.return_, 1) → W p l e (rmD 9 0 0) s m args below meth c H locs 0 0 Q (F0 m pc ls' []) := by
    intro mm0 H locs pc ls' e0; cases e0; exact hret H locs pc ls'
  have K2 : ∀ (k : Nat), ∀  (x2 : Int32) (mm : RS) (H : Heap) (locs : List Loc) (ls : Array Slot), gG E A s.heap (rM E am mm ++ []) H locs → lv_has ls 3 [(0, .ref (am 0)), (1, .int x1), (2, .int x2)] → fX12_ticks_L2 N x1 k x2 mm = some res → W p l e (rmD 9 0 0) s m args below meth c H locs 0 0 Q (F0 m 2 ls []) := by
    intro k
    induction k with
    | zero => intro x2 mm H locs ls hG hl h; exact absurd (show none = _ from h) (by simp)
    | succ k ih =>
      intro x2 mm H locs ls hG hl h
      rw [fX12_ticks_L2] at h
      refine lv_iload_n hx hb dX12_ticks_2 rfl (lv_at hl 2 rfl) ?_
      refine lv_iload_n hx hb dX12_ticks_3 rfl (lv_at hl 1 rfl) ?_
      refine lv_icmp_ge (tgt := 17) hx hb dX12_ticks_4 (by decide) (fun c4 => ?_) (fun c4 => ?_)
      · replace h := it c4 h
        exact hret _ _ _ _ _ h hG dX12_ticks_17
      · replace h := ie c4 h
        refine lv_aload_n hx hb dX12_ticks_7 rfl (lv_at hl 0 rfl) ?_
        obtain ⟨r1, hcr1, h⟩ := bnd_some h
        refine gF_v (ws' := (rM E am r1 ++ [])) C hG (pin pnil) (List.Perm.symm (pin pnil)) (gR_V (As := []) (rest := []) C hz hl.1 hG (pin pnil) (c_X12_tick l E am N mm hcr1 H.size) okX12_tick q1642 0 rfl rfl rfl (Nat.le_of_ble_eq_true rfl) (by omega) ⟨Nat.le_refl _, Nat.le_refl _⟩ dX12_ticks_8) (fun H locs hG => ?_)
        refine lv_iinc (v := (x2 + 1)) (lv' := [(2, .int (x2 + 1)), (0, .ref (am 0)), (1, .int x1)]) hx hb dX12_ticks_11 hl (k := 2) rfl (congrArg (x2 + ·) (by decide : Int32.ofInt 1 = 1)) (by decide) rfl (fun ls hl => ?_)
        refine lv_goto (tgt := 2) hx hb dX12_ticks_14 (by decide) ?_
        exact ih (x2 + 1) r1 _ _ _ hG (lv_sub hl [1, 2, 0] rfl) h
  rw [fX12_ticks] at h
  refine lv_iconst (v := 0) hx hb dX12_ticks_0 (by decide) ?_
  refine lv_istore_n (lv' := [(2, .int 0), (0, .ref (am 0)), (1, .int x1)]) hx hb dX12_ticks_1 rfl hl (by decide) rfl (fun ls hl => ?_)
  exact K2 N 0 mm _ _ _ hG (lv_sub hl [1, 2, 0] rfl) h
set_option maxHeartbeats 4000000 in
set_option maxRecDepth 100000 in
theorem c_X12_drawn (l : Launch) (E : GE) (am : Nat → Nat) (mm : RS) {res : Int32 × RS} (h : fX12_drawn mm = res) : gMi l E yX12_drawn cX12_drawn 2 .int 1 0 0 [.ref (am 0)] (rM E am mm ++ []) (rM E am res.2 ++ []) res.1 := by
  refine gMi_of (own := RX12) (by decide +kernel) rfl (Nat.le_of_ble_eq_true rfl) ?_
  intro p e s m args below meth c A ls Q H locs C hz hl hG hret
  have hx := C.1.1
  have hb := C.1.2.1
  have hts := C.1.2.2.2.2
  have hown := C.1.2.2.2.1
  have hl : lv_has ls 2 [(0, .ref (am 0))] := hl
  replace hret : ∀ (r0 : Int32) (mm0 : RS) (H : Heap) (locs : List Loc) (pc : Nat) (ls' : Array Slot), (r0, mm0) = res → narrow .int (.int r0) = .int r0 → gG E A s.heap (rM E am mm0 ++ []) H locs → decode cX12_drawn pc = .ok (.ireturn, 1) → W p l e (rmD 1 0 0) s m args below meth c H locs 0 0 Q (F0 m pc ls' [.int r0]) := by
    intro r0 mm0 H locs pc ls' e0 hn; cases e0; exact hret H locs pc ls' hn
  rw [fX12_drawn] at h
  refine lv_aload_n hx hb dX12_drawn_0 rfl (lv_at hl 0 rfl) ?_
  refine gL_f (v := .ref (am 1)) C hG kX12 0 0 rfl (by decide) rfl q1352 rfl dX12_drawn_1 ?_
  refine lv_iconst (v := 4) hx hb dX12_drawn_4 (by decide) ?_
  refine gL_i (v := (mm 1 4)) C hG 1 rfl (vp_in_nI (n := 4) (by decide) (by decide)) (congrArg (mm 1) (nI_clamp (n := 4) (by decide))) dX12_drawn_5 ?_
  obtain ⟨x1_1, ex1_1, h⟩ := thn_some h
  refine g_int ex1_1 ?_
  refine lv_istore_n (lv' := [(1, .int x1_1), (0, .ref (am 0))]) hx hb dX12_drawn_6 rfl hl (by decide) rfl (fun ls hl => ?_)
  refine lv_aload_n hx hb dX12_drawn_7 rfl (lv_at hl 1 rfl) ?_
  refine gL_f (v := .ref (am 1)) C hG kX12 0 0 rfl (by decide) rfl q1352 rfl dX12_drawn_8 ?_
  refine lv_iconst (v := 4) hx hb dX12_drawn_11 (by decide) ?_
  refine lv_iload_n hx hb dX12_drawn_12 rfl (lv_at hl 0 rfl) ?_
  refine lv_i2l hx hb dX12_drawn_13 rfl ?_
  refine lv_ldc2 (v := 773) hx hb hown (hts _ q1798) dX12_drawn_14 ?_
  refine lv_lmul hx hb dX12_drawn_17 ?_
  refine lv_ldc2 (v := 641) hx hb hown (hts _ q1799) dX12_drawn_18 ?_
  refine lv_ladd hx hb dX12_drawn_21 ?_
  refine lv_ldc2 (v := 31139) hx hb hown (hts _ q1800) dX12_drawn_22 ?_
  refine lv_lrem hx hb dX12_drawn_25 (by decide) ?_
  refine g_long (v := (lrem (((x1_1.toInt64) * 773) + 641) 31139)) rfl ?_
  refine lv_l2i hx hb dX12_drawn_26 rfl ?_
  obtain ⟨mm_2, emm_2, h⟩ := thn_some h
  refine gS_i (x := ((lrem (((x1_1.toInt64) * 773) + 641) 31139).toInt32)) (ws' := (rM E am mm_2 ++ [])) C hG 1 rfl (vp_in_nI (n := 4) (by decide) (by decide)) (nI_clamp (n := 4) (by decide)) dX12_drawn_27 (by rw [emm_2]; rfl) (fun H locs hG => ?_)
  refine lv_iload_n hx hb dX12_drawn_28 rfl (lv_at hl 0 rfl) ?_
  exact hret _ _ _ _ _ _ h rfl hG dX12_drawn_29
set_option maxHeartbeats 4000000 in
set_option maxRecDepth 100000 in
theorem c_X12_happens (l : Launch) (E : GE) (am : Nat → Nat) (N : Nat) (x1 : Int32) (mm : RS) {res : RS} (h : fX12_happens N x1 mm = some res) : gMv l E yX12_happens cX12_happens 3 9 0 0 [.ref (am 0), .int x1] (rM E am mm ++ []) (rM E am res ++ []) := by
  refine gMv_of (own := RX12) (by decide +kernel) rfl (Nat.le_of_ble_eq_true rfl) ?_
  intro p e s m args below meth c A ls Q H locs C hz hl hG hin hret
  have hx := C.1.1
  have hb := C.1.2.1
  have hts := C.1.2.2.2.2
  have hown := C.1.2.2.2.1
  have hl : lv_has ls 3 [(0, .ref (am 0)), (1, .int x1)] := hl
  replace hret : ∀ (mm0 : RS) (H : Heap) (locs : List Loc) (pc : Nat) (ls' : Array Slot), some mm0 = some res → gG E A s.heap (rM E am mm0 ++ []) H locs → decode cX12_happens pc = .ok (.return_, 1) → W p l e (rmD 9 0 0) s m args below meth c H locs 0 0 Q (F0 m pc ls' []) := by
    intro mm0 H locs pc ls' e0; cases e0; exact hret H locs pc ls'
  rw [fX12_happens] at h
  refine lv_iload_n hx hb dX12_happens_0 rfl (lv_at hl 1 rfl) ?_
  refine lv_bipush (v := 10) hx hb dX12_happens_1 (by decide) ?_
  refine lv_idiv hx hb dX12_happens_3 (by decide) ?_
  refine lv_bipush (v := 10) hx hb dX12_happens_4 (by decide) ?_
  refine lv_irem hx hb dX12_happens_6 (by decide) ?_
  refine g_int (v := (irem (x1 / 10) 10)) rfl ?_
  refine lv_iload_n hx hb dX12_happens_7 rfl (lv_at hl 1 rfl) ?_
  refine lv_bipush (v := 100) hx hb dX12_happens_8 (by decide) ?_
  refine lv_idiv hx hb dX12_happens_10 (by decide) ?_
  refine lv_bipush (v := 10) hx hb dX12_happens_11 (by decide) ?_
  refine lv_irem hx hb dX12_happens_13 (by decide) ?_
  refine g_int (v := (irem (x1 / 100) 10)) rfl ?_
  refine lv_imul hx hb dX12_happens_14 ?_
  refine lv_bipush (v := 10) hx hb dX12_happens_15 (by decide) ?_
  refine lv_idiv hx hb dX12_happens_17 (by decide) ?_
  obtain ⟨x2_1, ex2_1, h⟩ := thn_some h
  refine g_int ex2_1 ?_
  refine lv_istore_n (lv' := [(2, .int x2_1), (0, .ref (am 0)), (1, .int x1)]) hx hb dX12_happens_18 rfl hl (by decide) rfl (fun ls hl => ?_)
  refine lv_iload_n hx hb dX12_happens_19 rfl (lv_at hl 2 rfl) ?_
  refine lv_bipush (v := 10) hx hb dX12_happens_20 (by decide) ?_
  refine lv_irem hx hb dX12_happens_22 (by decide) ?_
  refine g_int (v := (irem x1 10)) rfl ?_
  obtain ⟨sw_2, esw_2, h⟩ := thn_some h
  refine g_int esw_2 ?_
  by_cases w23_0 : sw_2 = 4
  · replace h := it w23_0 h
    refine lv_tableIn (tgt := 60) hx hb dX12_happens_23 (by rw [w23_0]; decide) (by rw [w23_0]; decide) (off := 37) (by rw [w23_0]; decide) (by decide) ?_
    refine lv_aload_n hx hb dX12_happens_60 rfl (lv_at hl 1 rfl) ?_
    refine lv_iload_n hx hb dX12_happens_61 rfl (lv_at hl 0 rfl) ?_
    refine lv_iload_n hx hb dX12_happens_62 rfl (lv_at hl 2 rfl) ?_
    refine lv_iload_n hx hb dX12_happens_63 rfl (lv_at hl 0 rfl) ?_
    refine gF_i (ws' := (rM E am mm ++ [])) C hG pst pst.symm (gR_S (As := [.int x2_1]) (rest := [.int x1, .int x2_1, .ref (am 0)]) C hz hl.1 hG pst (c_X12_sizeOf l E x2_1 rfl H.size) okX12_sizeOf q1536 rfl (Nat.le_of_ble_eq_true rfl) (by omega) ⟨Nat.le_refl _, Nat.le_refl _⟩ dX12_happens_64) (fun H locs _ hG => ?_)
    obtain ⟨b3, h⟩ := ck_some h
    refine lv_irem hx hb dX12_happens_67 (nz_ne b3) ?_
    refine g_int (v := (irem x1 (fX12_sizeOf x2_1))) rfl ?_
    refine lv_iload_n hx hb dX12_happens_68 rfl (lv_at hl 2 rfl) ?_
    refine lv_sipush (v := 1000) hx hb dX12_happens_69 (by decide) ?_
    refine lv_irem hx hb dX12_happens_72 (by decide) ?_
    refine g_int (v := (irem x1 1000)) rfl ?_
    obtain ⟨r4, hcr4, h⟩ := bnd_some h
    refine gF_i (ws' := (rM E am r4.2 ++ [])) C hG (pin pnil) (List.Perm.symm (pin pnil)) (gR_V (As := [.int x2_1, .int (irem x1 (fX12_sizeOf x2_1)), .int (irem x1 1000)]) (rest := []) C hz hl.1 hG (pin pnil) (c_X12_writeNow l E am N x2_1 (irem x1 (fX12_sizeOf x2_1)) (irem x1 1000) mm hcr4 H.size) okX12_writeNow q1578 0 rfl rfl rfl (Nat.le_of_ble_eq_true rfl) (by omega) ⟨Nat.le_refl _, Nat.le_refl _⟩ dX12_happens_73) (fun H locs _ hG => ?_)
    refine lv_pop hx hb dX12_happens_76 rfl ?_
    refine lv_goto (tgt := 147) hx hb dX12_happens_77 (by decide) ?_
    exact hret _ _ _ _ _ h hG dX12_happens_147
  · replace h := ie w23_0 h
    by_cases w23_1 : sw_2 = 5
    · replace h := it w23_1 h
      refine lv_tableIn (tgt := 60) hx hb dX12_happens_23 (by rw [w23_1]; decide) (by rw [w23_1]; decide) (off := 37) (by rw [w23_1]; decide) (by decide) ?_
      refine lv_aload_n hx hb dX12_happens_60 rfl (lv_at hl 1 rfl) ?_
      refine lv_iload_n hx hb dX12_happens_61 rfl (lv_at hl 0 rfl) ?_
      refine lv_iload_n hx hb dX12_happens_62 rfl (lv_at hl 2 rfl) ?_
      refine lv_iload_n hx hb dX12_happens_63 rfl (lv_at hl 0 rfl) ?_
      refine gF_i (ws' := (rM E am mm ++ [])) C hG pst pst.symm (gR_S (As := [.int x2_1]) (rest := [.int x1, .int x2_1, .ref (am 0)]) C hz hl.1 hG pst (c_X12_sizeOf l E x2_1 rfl H.size) okX12_sizeOf q1536 rfl (Nat.le_of_ble_eq_true rfl) (by omega) ⟨Nat.le_refl _, Nat.le_refl _⟩ dX12_happens_64) (fun H locs _ hG => ?_)
      obtain ⟨b5, h⟩ := ck_some h
      refine lv_irem hx hb dX12_happens_67 (nz_ne b5) ?_
      refine g_int (v := (irem x1 (fX12_sizeOf x2_1))) rfl ?_
      refine lv_iload_n hx hb dX12_happens_68 rfl (lv_at hl 2 rfl) ?_
      refine lv_sipush (v := 1000) hx hb dX12_happens_69 (by decide) ?_
      refine lv_irem hx hb dX12_happens_72 (by decide) ?_
      refine g_int (v := (irem x1 1000)) rfl ?_
      obtain ⟨r6, hcr6, h⟩ := bnd_some h
      refine gF_i (ws' := (rM E am r6.2 ++ [])) C hG (pin pnil) (List.Perm.symm (pin pnil)) (gR_V (As := [.int x2_1, .int (irem x1 (fX12_sizeOf x2_1)), .int (irem x1 1000)]) (rest := []) C hz hl.1 hG (pin pnil) (c_X12_writeNow l E am N x2_1 (irem x1 (fX12_sizeOf x2_1)) (irem x1 1000) mm hcr6 H.size) okX12_writeNow q1578 0 rfl rfl rfl (Nat.le_of_ble_eq_true rfl) (by omega) ⟨Nat.le_refl _, Nat.le_refl _⟩ dX12_happens_73) (fun H locs _ hG => ?_)
      refine lv_pop hx hb dX12_happens_76 rfl ?_
      refine lv_goto (tgt := 147) hx hb dX12_happens_77 (by decide) ?_
      exact hret _ _ _ _ _ h hG dX12_happens_147
    · replace h := ie w23_1 h
      by_cases w23_2 : sw_2 = 6
      · replace h := it w23_2 h
        refine lv_tableIn (tgt := 80) hx hb dX12_happens_23 (by rw [w23_2]; decide) (by rw [w23_2]; decide) (off := 57) (by rw [w23_2]; decide) (by decide) ?_
        refine lv_aload_n hx hb dX12_happens_80 rfl (lv_at hl 1 rfl) ?_
        refine lv_iload_n hx hb dX12_happens_81 rfl (lv_at hl 2 rfl) ?_
        refine lv_bipush (v := 10) hx hb dX12_happens_82 (by decide) ?_
        refine lv_idiv hx hb dX12_happens_84 (by decide) ?_
        refine lv_bipush (v := 9) hx hb dX12_happens_85 (by decide) ?_
        refine lv_irem hx hb dX12_happens_87 (by decide) ?_
        refine g_int (v := (irem (x1 / 10) 9)) rfl ?_
        refine lv_iload_n hx hb dX12_happens_88 rfl (lv_at hl 2 rfl) ?_
        refine lv_bipush (v := 10) hx hb dX12_happens_89 (by decide) ?_
        refine lv_idiv hx hb dX12_happens_91 (by decide) ?_
        refine lv_bipush (v := 9) hx hb dX12_happens_92 (by decide) ?_
        refine lv_irem hx hb dX12_happens_94 (by decide) ?_
        refine g_int (v := (irem (x1 / 10) 9)) rfl ?_
        refine lv_iconst (v := 1) hx hb dX12_happens_95 (by decide) ?_
        refine lv_iadd hx hb dX12_happens_96 ?_
        obtain ⟨r7, hcr7, h⟩ := bnd_some h
        refine gF_i (ws' := (rM E am r7.2 ++ [])) C hG (pin pnil) (List.Perm.symm (pin pnil)) (gR_V (As := [.int (irem (x1 / 10) 9), .int ((irem (x1 / 10) 9) + 1)]) (rest := []) C hz hl.1 hG (pin pnil) (c_X12_scanNow l E am N (irem (x1 / 10) 9) ((irem (x1 / 10) 9) + 1) mm hcr7 H.size) okX12_scanNow q1590 0 rfl rfl rfl (Nat.le_of_ble_eq_true rfl) (by omega) ⟨Nat.le_refl _, Nat.le_refl _⟩ dX12_happens_97) (fun H locs _ hG => ?_)
        refine lv_pop hx hb dX12_happens_100 rfl ?_
        refine lv_goto (tgt := 147) hx hb dX12_happens_101 (by decide) ?_
        exact hret _ _ _ _ _ h hG dX12_happens_147
      · replace h := ie w23_2 h
        by_cases w23_3 : sw_2 = 7
        · replace h := it w23_3 h
          refine lv_tableIn (tgt := 104) hx hb dX12_happens_23 (by rw [w23_3]; decide) (by rw [w23_3]; decide) (off := 81) (by rw [w23_3]; decide) (by decide) ?_
          refine lv_aload_n hx hb dX12_happens_104 rfl (lv_at hl 1 rfl) ?_
          obtain ⟨r8, hcr8, h⟩ := bnd_some h
          refine gF_v (ws' := (rM E am r8 ++ [])) C hG (pin pnil) (List.Perm.symm (pin pnil)) (gR_V (As := []) (rest := []) C hz hl.1 hG (pin pnil) (c_X12_tick l E am N mm hcr8 H.size) okX12_tick q1642 0 rfl rfl rfl (Nat.le_of_ble_eq_true rfl) (by omega) ⟨Nat.le_refl _, Nat.le_refl _⟩ dX12_happens_105) (fun H locs hG => ?_)
          refine lv_goto (tgt := 147) hx hb dX12_happens_108 (by decide) ?_
          exact hret _ _ _ _ _ h hG dX12_happens_147
        · replace h := ie w23_3 h
          by_cases w23_4 : sw_2 = 8
          · replace h := it w23_4 h
            refine lv_tableIn (tgt := 104) hx hb dX12_happens_23 (by rw [w23_4]; decide) (by rw [w23_4]; decide) (off := 81) (by rw [w23_4]; decide) (by decide) ?_
            refine lv_aload_n hx hb dX12_happens_104 rfl (lv_at hl 1 rfl) ?_
            obtain ⟨r9, hcr9, h⟩ := bnd_some h
            refine gF_v (ws' := (rM E am r9 ++ [])) C hG (pin pnil) (List.Perm.symm (pin pnil)) (gR_V (As := []) (rest := []) C hz hl.1 hG (pin pnil) (c_X12_tick l E am N mm hcr9 H.size) okX12_tick q1642 0 rfl rfl rfl (Nat.le_of_ble_eq_true rfl) (by omega) ⟨Nat.le_refl _, Nat.le_refl _⟩ dX12_happens_105) (fun H locs hG => ?_)
            refine lv_goto (tgt := 147) hx hb dX12_happens_108 (by decide) ?_
            exact hret _ _ _ _ _ h hG dX12_happens_147
          · replace h := ie w23_4 h
            by_cases w23_5 : sw_2 = 9
            · replace h := it w23_5 h
              refine lv_tableIn (tgt := 111) hx hb dX12_happens_23 (by rw [w23_5]; decide) (by rw [w23_5]; decide) (off := 88) (by rw [w23_5]; decide) (by decide) ?_
              refine lv_iload_n hx hb dX12_happens_111 rfl (lv_at hl 2 rfl) ?_
              refine lv_bipush (v := 10) hx hb dX12_happens_112 (by decide) ?_
              refine lv_idiv hx hb dX12_happens_114 (by decide) ?_
              refine lv_iconst (v := 4) hx hb dX12_happens_115 (by decide) ?_
              refine lv_irem hx hb dX12_happens_116 (by decide) ?_
              refine g_int (v := (irem (x1 / 10) 4)) rfl ?_
              refine lv_if_ne (tgt := 128) hx hb dX12_happens_117 (by decide) (fun c117 => ?_) (fun c117 => ?_)
              · replace h := ie c117 h
                refine lv_aload_n hx hb dX12_happens_128 rfl (lv_at hl 1 rfl) ?_
                obtain ⟨r10, hcr10, h⟩ := bnd_some h
                refine gF_v (ws' := (rM E am r10 ++ [])) C hG (pin pnil) (List.Perm.symm (pin pnil)) (gR_V (As := []) (rest := []) C hz hl.1 hG (pin pnil) (c_X12_tick l E am N mm hcr10 H.size) okX12_tick q1642 0 rfl rfl rfl (Nat.le_of_ble_eq_true rfl) (by omega) ⟨Nat.le_refl _, Nat.le_refl _⟩ dX12_happens_129) (fun H locs hG => ?_)
                refine lv_goto (tgt := 147) hx hb dX12_happens_132 (by decide) ?_
                exact hret _ _ _ _ _ h hG dX12_happens_147
              · replace h := it c117 h
                refine lv_aload_n hx hb dX12_happens_120 rfl (lv_at hl 1 rfl) ?_
                obtain ⟨r11, hcr11, h⟩ := bnd_some h
                refine gF_i (ws' := (rM E am r11.2 ++ [])) C hG (pin pnil) (List.Perm.symm (pin pnil)) (gR_V (As := []) (rest := []) C hz hl.1 hG (pin pnil) (c_X12_crashNow l E am N mm hcr11 H.size) okX12_crashNow q1726 0 rfl rfl rfl (Nat.le_of_ble_eq_true rfl) (by omega) ⟨Nat.le_refl _, Nat.le_refl _⟩ dX12_happens_121) (fun H locs _ hG => ?_)
                refine lv_pop hx hb dX12_happens_124 rfl ?_
                refine lv_goto (tgt := 147) hx hb dX12_happens_125 (by decide) ?_
                exact hret _ _ _ _ _ h hG dX12_happens_147
            · replace h := ie w23_5 h
              refine lv_tableOut (tgt := 135) hx hb dX12_happens_23 (g_swo sw_2 4 9 [4, 5, 6, 7, 8, 9] (by decide +kernel) (List.forall_mem_cons.mpr ⟨w23_0, List.forall_mem_cons.mpr ⟨w23_1, List.forall_mem_cons.mpr ⟨w23_2, List.forall_mem_cons.mpr ⟨w23_3, List.forall_mem_cons.mpr ⟨w23_4, List.forall_mem_cons.mpr ⟨w23_5, fun _ q9 => absurd q9 List.not_mem_nil⟩⟩⟩⟩⟩⟩)) (by decide) ?_
              refine lv_aload_n hx hb dX12_happens_135 rfl (lv_at hl 1 rfl) ?_
              refine lv_iload_n hx hb dX12_happens_136 rfl (lv_at hl 0 rfl) ?_
              refine lv_iload_n hx hb dX12_happens_137 rfl (lv_at hl 2 rfl) ?_
              refine lv_iload_n hx hb dX12_happens_138 rfl (lv_at hl 0 rfl) ?_
              refine gF_i (ws' := (rM E am mm ++ [])) C hG pst pst.symm (gR_S (As := [.int x2_1]) (rest := [.int x1, .int x2_1, .ref (am 0)]) C hz hl.1 hG pst (c_X12_sizeOf l E x2_1 rfl H.size) okX12_sizeOf q1536 rfl (Nat.le_of_ble_eq_true rfl) (by omega) ⟨Nat.le_refl _, Nat.le_refl _⟩ dX12_happens_139) (fun H locs _ hG => ?_)
              obtain ⟨b12, h⟩ := ck_some h
              refine lv_irem hx hb dX12_happens_142 (nz_ne b12) ?_
              refine g_int (v := (irem x1 (fX12_sizeOf x2_1))) rfl ?_
              obtain ⟨r13, hcr13, h⟩ := bnd_some h
              refine gF_i (ws' := (rM E am r13.2 ++ [])) C hG (pin pnil) (List.Perm.symm (pin pnil)) (gR_V (As := [.int x2_1, .int (irem x1 (fX12_sizeOf x2_1))]) (rest := []) C hz hl.1 hG (pin pnil) (c_X12_readNow l E am N x2_1 (irem x1 (fX12_sizeOf x2_1)) mm hcr13 H.size) okX12_readNow q1543 0 rfl rfl rfl (Nat.le_of_ble_eq_true rfl) (by omega) ⟨Nat.le_refl _, Nat.le_refl _⟩ dX12_happens_143) (fun H locs _ hG => ?_)
              refine lv_pop hx hb dX12_happens_146 rfl ?_
              exact hret _ _ _ _ _ h hG dX12_happens_147
set_option maxHeartbeats 4000000 in
set_option maxRecDepth 100000 in
theorem c_X12_tokenAt (l : Launch) (E : GE) (am : Nat → Nat) (N : Nat) (x1 : Int32) (mm : RS) {res : Int32} (h : fX12_tokenAt N x1 mm = some res) : gMi l E yX12_tokenAt cX12_tokenAt 2 .int 1 0 0 [.ref (am 0), .int x1] (rM E am mm ++ []) (rM E am mm ++ []) res := by
  refine gMi_of (own := RX12) (by decide +kernel) rfl (Nat.le_of_ble_eq_true rfl) ?_
  intro p e s m args below meth c A ls Q H locs C hz hl hG hret
  have hx := C.1.1
  have hb := C.1.2.1
  have hts := C.1.2.2.2.2
  have hown := C.1.2.2.2.1
  have hl : lv_has ls 2 [(0, .ref (am 0)), (1, .int x1)] := hl
  replace hret : ∀ (r0 : Int32) (H : Heap) (locs : List Loc) (pc : Nat) (ls' : Array Slot), some r0 = some res → narrow .int (.int r0) = .int r0 → gG E A s.heap (rM E am mm ++ []) H locs → decode cX12_tokenAt pc = .ok (.ireturn, 1) → W p l e (rmD 1 0 0) s m args below meth c H locs 0 0 Q (F0 m pc ls' [.int r0]) := by
    intro r0 H locs pc ls' e0 hn; cases e0; exact hret H locs pc ls' hn
  rw [fX12_tokenAt] at h
  refine lv_iload_n hx hb dX12_tokenAt_0 rfl (lv_at hl 1 rfl) ?_
  refine lv_aload_n hx hb dX12_tokenAt_1 rfl (lv_at hl 0 rfl) ?_
  refine gL_f (v := .ref (am 3)) C hG kX12 0 2 rfl (by decide) rfl q1354 rfl dX12_tokenAt_2 ?_
  refine lv_aload_n hx hb dX12_tokenAt_5 rfl (lv_at hl 0 rfl) ?_
  refine gL_f (v := .int (mm 0 11)) C hG kX12 0 11 rfl (by decide) rfl q1363 rfl dX12_tokenAt_6 ?_
  obtain ⟨b1, h⟩ := ck_some h
  refine gL_i (v := (mm 3 (mm 0 11).toNatClampNeg)) C hG 3 rfl (inb_in b1) rfl dX12_tokenAt_9 ?_
  refine lv_icmp_ge (tgt := 31) hx hb dX12_tokenAt_10 (by decide) (fun c10 => ?_) (fun c10 => ?_)
  · replace h := it c10 h
    refine lv_iconst (v := 0) hx hb dX12_tokenAt_31 (by decide) ?_
    exact hret _ _ _ _ _ h rfl hG dX12_tokenAt_32
  · replace h := ie c10 h
    refine lv_aload_n hx hb dX12_tokenAt_13 rfl (lv_at hl 0 rfl) ?_
    refine gL_f (v := .ref (am 3)) C hG kX12 0 2 rfl (by decide) rfl q1354 rfl dX12_tokenAt_14 ?_
    refine lv_aload_n hx hb dX12_tokenAt_17 rfl (lv_at hl 0 rfl) ?_
    refine gL_f (v := .int (mm 0 11)) C hG kX12 0 11 rfl (by decide) rfl q1363 rfl dX12_tokenAt_18 ?_
    refine lv_iconst (v := 1) hx hb dX12_tokenAt_21 (by decide) ?_
    refine lv_iadd hx hb dX12_tokenAt_22 ?_
    refine lv_iconst (v := 2) hx hb dX12_tokenAt_23 (by decide) ?_
    refine lv_iload_n hx hb dX12_tokenAt_24 rfl (lv_at hl 1 rfl) ?_
    refine lv_imul hx hb dX12_tokenAt_25 ?_
    refine lv_iadd hx hb dX12_tokenAt_26 ?_
    obtain ⟨b2, h⟩ := ck_some h
    refine gL_i (v := (mm 3 (((mm 0 11) + 1) + (2 * x1)).toNatClampNeg)) C hG 3 rfl (inb_in b2) rfl dX12_tokenAt_27 ?_
    refine lv_goto (tgt := 32) hx hb dX12_tokenAt_28 (by decide) ?_
    exact hret _ _ _ _ _ h rfl hG dX12_tokenAt_32
set_option maxHeartbeats 4000000 in
set_option maxRecDepth 100000 in
theorem c_X12_numberAt (l : Launch) (E : GE) (am : Nat → Nat) (N : Nat) (x1 : Int32) (mm : RS) {res : Int32} (h : fX12_numberAt N x1 mm = some res) : gMi l E yX12_numberAt cX12_numberAt 2 .int 1 0 0 [.ref (am 0), .int x1] (rM E am mm ++ []) (rM E am mm ++ []) res := by
  refine gMi_of (own := RX12) (by decide +kernel) rfl (Nat.le_of_ble_eq_true rfl) ?_
  intro p e s m args below meth c A ls Q H locs C hz hl hG hret
  have hx := C.1.1
  have hb := C.1.2.1
  have hts := C.1.2.2.2.2
  have hown := C.1.2.2.2.1
  have hl : lv_has ls 2 [(0, .ref (am 0)), (1, .int x1)] := hl
  replace hret : ∀ (r0 : Int32) (H : Heap) (locs : List Loc) (pc : Nat) (ls' : Array Slot), some r0 = some res → narrow .int (.int r0) = .int r0 → gG E A s.heap (rM E am mm ++ []) H locs → decode cX12_numberAt pc = .ok (.ireturn, 1) → W p l e (rmD 1 0 0) s m args below meth c H locs 0 0 Q (F0 m pc ls' [.int r0]) := by
    intro r0 H locs pc ls' e0 hn; cases e0; exact hret H locs pc ls' hn
  rw [fX12_numberAt] at h
  refine lv_aload_n hx hb dX12_numberAt_0 rfl (lv_at hl 0 rfl) ?_
  refine gL_f (v := .ref (am 3)) C hG kX12 0 2 rfl (by decide) rfl q1354 rfl dX12_numberAt_1 ?_
  refine lv_aload_n hx hb dX12_numberAt_4 rfl (lv_at hl 0 rfl) ?_
  refine gL_f (v := .int (mm 0 11)) C hG kX12 0 11 rfl (by decide) rfl q1363 rfl dX12_numberAt_5 ?_
  refine lv_iconst (v := 2) hx hb dX12_numberAt_8 (by decide) ?_
  refine lv_iadd hx hb dX12_numberAt_9 ?_
  refine lv_iconst (v := 2) hx hb dX12_numberAt_10 (by decide) ?_
  refine lv_iload_n hx hb dX12_numberAt_11 rfl (lv_at hl 1 rfl) ?_
  refine lv_imul hx hb dX12_numberAt_12 ?_
  refine lv_iadd hx hb dX12_numberAt_13 ?_
  obtain ⟨b1, h⟩ := ck_some h
  refine gL_i (v := (mm 3 (((mm 0 11) + 2) + (2 * x1)).toNatClampNeg)) C hG 3 rfl (inb_in b1) rfl dX12_numberAt_14 ?_
  exact hret _ _ _ _ _ h rfl hG dX12_numberAt_15
set_option maxHeartbeats 4000000 in
set_option maxRecDepth 100000 in
theorem c_X12_goOne (l : Launch) (E : GE) (am : Nat → Nat) (N : Nat) (mm : RS) {res : Int32 × RS} (h : fX12_goOne N mm = some res) : gMi l E yX12_goOne cX12_goOne 2 .int 2 0 0 [.ref (am 0)] (rM E am mm ++ []) (rM E am res.2 ++ []) res.1 := by
  refine gMi_of (own := RX12) (by decide +kernel) rfl (Nat.le_of_ble_eq_true rfl) ?_
  intro p e s m args below meth c A ls Q H locs C hz hl hG hret
  have hx := C.1.1
  have hb := C.1.2.1
  have hts := C.1.2.2.2.2
  have hown := C.1.2.2.2.1
  have hl : lv_has ls 2 [(0, .ref (am 0))] := hl
  replace hret : ∀ (r0 : Int32) (mm0 : RS) (H : Heap) (locs : List Loc) (pc : Nat) (ls' : Array Slot), some (r0, mm0) = some res → narrow .int (.int r0) = .int r0 → gG E A s.heap (rM E am mm0 ++ []) H locs → decode cX12_goOne pc = .ok (.ireturn, 1) → W p l e (rmD 2 0 0) s m args below meth c H locs 0 0 Q (F0 m pc ls' [.int r0]) := by
    intro r0 mm0 H locs pc ls' e0 hn; cases e0; exact hret H locs pc ls' hn
  have K38 : ∀  (s0 : Int32) (mm : RS) (H : Heap) (locs : List Loc) (ls : Array Slot), gG E A s.heap (rM E am mm ++ []) H locs → lv_has ls 2 [(0, .ref (am 0))] → fX12_goOne_L38 N s0 mm = some res → W p l e (rmD 2 0 0) s m args below meth c H locs 0 0 Q (F0 m 38 ls [.int s0]) := by
    intro s0 mm H locs ls hG hl h
    rw [fX12_goOne_L38] at h
    refine lv_istore_n (lv' := [(1, .int s0), (0, .ref (am 0))]) hx hb dX12_goOne_38 rfl hl (by decide) rfl (fun ls hl => ?_)
    refine lv_aload_n hx hb dX12_goOne_39 rfl (lv_at hl 1 rfl) ?_
    refine lv_dup hx hb dX12_goOne_40 rfl ?_
    refine gL_f (v := .int (mm 0 17)) C hG kX12 0 17 rfl (by decide) rfl q1369 rfl dX12_goOne_41 ?_
    refine lv_iconst (v := 1) hx hb dX12_goOne_44 (by decide) ?_
    refine lv_iadd hx hb dX12_goOne_45 ?_
    obtain ⟨mm_1, emm_1, h⟩ := thn_some h
    refine gS_f (v := .int ((mm 0 17) + 1)) (ws' := (rM E am mm_1 ++ [])) C hG kX12 0 17 rfl (by decide) q1369 rfl rfl rfl rfl (by show 17 < 27; decide) dX12_goOne_46 (by rw [emm_1]; rfl) (fun H locs hG => ?_)
    refine lv_iload_n hx hb dX12_goOne_49 rfl (lv_at hl 0 rfl) ?_
    exact hret _ _ _ _ _ _ h rfl hG dX12_goOne_50
  rw [fX12_goOne] at h
  refine lv_aload_n hx hb dX12_goOne_0 rfl (lv_at hl 0 rfl) ?_
  refine lv_aload_n hx hb dX12_goOne_1 rfl (lv_at hl 0 rfl) ?_
  refine gL_f (v := .int (mm 0 17)) C hG kX12 0 17 rfl (by decide) rfl q1369 rfl dX12_goOne_2 ?_
  obtain ⟨r1, hcr1, h⟩ := bnd_some h
  refine gF_i (ws' := (rM E am mm ++ [])) C hG (pin pnil) (List.Perm.symm (pin pnil)) (gR_V (As := [.int (mm 0 17)]) (rest := []) C hz hl.1 hG (pin pnil) (c_X12_tokenAt l E am N (mm 0 17) mm hcr1 H.size) okX12_tokenAt q1738 0 rfl rfl rfl (Nat.le_of_ble_eq_true rfl) (by omega) ⟨Nat.le_refl _, Nat.le_refl _⟩ dX12_goOne_5) (fun H locs _ hG => ?_)
  refine lv_sipush (v := 207) hx hb dX12_goOne_8 (by decide) ?_
  refine lv_icmp_ne (tgt := 30) hx hb dX12_goOne_11 (by decide) (fun c11 => ?_) (fun c11 => ?_)
  · replace h := ie c11 h
    refine lv_aload_n hx hb dX12_goOne_30 rfl (lv_at hl 0 rfl) ?_
    refine lv_aload_n hx hb dX12_goOne_31 rfl (lv_at hl 0 rfl) ?_
    refine gL_f (v := .int (mm 0 17)) C hG kX12 0 17 rfl (by decide) rfl q1369 rfl dX12_goOne_32 ?_
    obtain ⟨r2, hcr2, h⟩ := bnd_some h
    refine gF_i (ws' := (rM E am mm ++ [])) C hG (pin pnil) (List.Perm.symm (pin pnil)) (gR_V (As := [.int (mm 0 17)]) (rest := []) C hz hl.1 hG (pin pnil) (c_X12_numberAt l E am N (mm 0 17) mm hcr2 H.size) okX12_numberAt q1754 0 rfl rfl rfl (Nat.le_of_ble_eq_true rfl) (by omega) ⟨Nat.le_refl _, Nat.le_refl _⟩ dX12_goOne_35) (fun H locs _ hG => ?_)
    exact K38 r2 mm _ _ _ hG (lv_sub hl [0] rfl) h
  · replace h := it c11 h
    refine lv_aload_n hx hb dX12_goOne_14 rfl (lv_at hl 0 rfl) ?_
    refine gL_f (v := .ref (am 9)) C hG kX12 0 21 rfl (by decide) rfl q1373 rfl dX12_goOne_15 ?_
    refine lv_aload_n hx hb dX12_goOne_18 rfl (lv_at hl 0 rfl) ?_
    refine lv_aload_n hx hb dX12_goOne_19 rfl (lv_at hl 0 rfl) ?_
    refine gL_f (v := .int (mm 0 17)) C hG kX12 0 17 rfl (by decide) rfl q1369 rfl dX12_goOne_20 ?_
    obtain ⟨r3, hcr3, h⟩ := bnd_some h
    refine gF_i (ws' := (rM E am mm ++ [])) C hG (pin pnil) (List.Perm.symm (pin pnil)) (gR_V (As := [.int (mm 0 17)]) (rest := [.ref (am 9)]) C hz hl.1 hG (pin pnil) (c_X12_numberAt l E am N (mm 0 17) mm hcr3 H.size) okX12_numberAt q1754 0 rfl rfl rfl (Nat.le_of_ble_eq_true rfl) (by omega) ⟨Nat.le_refl _, Nat.le_refl _⟩ dX12_goOne_23) (fun H locs _ hG => ?_)
    obtain ⟨b4, h⟩ := ck_some h
    refine gL_i (v := (mm 9 r3.toNatClampNeg)) C hG 9 rfl (inb_in b4) rfl dX12_goOne_26 ?_
    refine lv_goto (tgt := 38) hx hb dX12_goOne_27 (by decide) ?_
    exact K38 (mm 9 r3.toNatClampNeg) mm _ _ _ hG (lv_sub hl [0] rfl) h
set_option maxHeartbeats 4000000 in
set_option maxRecDepth 100000 in
theorem c_X12_goProduct (l : Launch) (E : GE) (am : Nat → Nat) (N : Nat) (mm : RS) {res : Int32 × RS} (h : fX12_goProduct N mm = some res) : gMi l E yX12_goProduct cX12_goProduct 2 .int 3 0 0 [.ref (am 0)] (rM E am mm ++ []) (rM E am res.2 ++ []) res.1 := by
  refine gMi_of (own := RX12) (by decide +kernel) rfl (Nat.le_of_ble_eq_true rfl) ?_
  intro p e s m args below meth c A ls Q H locs C hz hl hG hret
  have hx := C.1.1
  have hb := C.1.2.1
  have hts := C.1.2.2.2.2
  have hown := C.1.2.2.2.1
  have hl : lv_has ls 2 [(0, .ref (am 0))] := hl
  replace hret : ∀ (r0 : Int32) (mm0 : RS) (H : Heap) (locs : List Loc) (pc : Nat) (ls' : Array Slot), some (r0, mm0) = some res → narrow .int (.int r0) = .int r0 → gG E A s.heap (rM E am mm0 ++ []) H locs → decode cX12_goProduct pc = .ok (.ireturn, 1) → W p l e (rmD 3 0 0) s m args below meth c H locs 0 0 Q (F0 m pc ls' [.int r0]) := by
    intro r0 mm0 H locs pc ls' e0 hn; cases e0; exact hret H locs pc ls' hn
  have K5 : ∀ (k : Nat), ∀  (x1 : Int32) (mm : RS) (H : Heap) (locs : List Loc) (ls : Array Slot), gG E A s.heap (rM E am mm ++ []) H locs → lv_has ls 2 [(0, .ref (am 0)), (1, .int x1)] → fX12_goProduct_L5 N k x1 mm = some res → W p l e (rmD 3 0 0) s m args below meth c H locs 0 0 Q (F0 m 5 ls []) := by
    intro k
    induction k with
    | zero => intro x1 mm H locs ls hG hl h; exact absurd (show none = _ from h) (by simp)
    | succ k ih =>
      intro x1 mm H locs ls hG hl h
      rw [fX12_goProduct_L5] at h
      refine lv_aload_n hx hb dX12_goProduct_5 rfl (lv_at hl 0 rfl) ?_
      refine lv_aload_n hx hb dX12_goProduct_6 rfl (lv_at hl 0 rfl) ?_
      refine gL_f (v := .int (mm 0 17)) C hG kX12 0 17 rfl (by decide) rfl q1369 rfl dX12_goProduct_7 ?_
      obtain ⟨r1, hcr1, h⟩ := bnd_some h
      refine gF_i (ws' := (rM E am mm ++ [])) C hG (pin pnil) (List.Perm.symm (pin pnil)) (gR_V (As := [.int (mm 0 17)]) (rest := []) C hz hl.1 hG (pin pnil) (c_X12_tokenAt l E am N (mm 0 17) mm hcr1 H.size) okX12_tokenAt q1738 0 rfl rfl rfl (Nat.le_of_ble_eq_true rfl) (by omega) ⟨Nat.le_refl _, Nat.le_refl _⟩ dX12_goProduct_10) (fun H locs _ hG => ?_)
      refine lv_bipush (v := 42) hx hb dX12_goProduct_13 (by decide) ?_
      refine lv_icmp_ne (tgt := 42) hx hb dX12_goProduct_15 (by decide) (fun c15 => ?_) (fun c15 => ?_)
      · replace h := ie c15 h
        refine lv_iload_n hx hb dX12_goProduct_42 rfl (lv_at hl 1 rfl) ?_
        exact hret _ _ _ _ _ _ h rfl hG dX12_goProduct_43
      · replace h := it c15 h
        refine lv_aload_n hx hb dX12_goProduct_18 rfl (lv_at hl 0 rfl) ?_
        refine lv_dup hx hb dX12_goProduct_19 rfl ?_
        refine gL_f (v := .int (mm 0 17)) C hG kX12 0 17 rfl (by decide) rfl q1369 rfl dX12_goProduct_20 ?_
        refine lv_iconst (v := 1) hx hb dX12_goProduct_23 (by decide) ?_
        refine lv_iadd hx hb dX12_goProduct_24 ?_
        obtain ⟨mm_2, emm_2, h⟩ := thn_some h
        refine gS_f (v := .int ((mm 0 17) + 1)) (ws' := (rM E am mm_2 ++ [])) C hG kX12 0 17 rfl (by decide) q1369 rfl rfl rfl rfl (by show 17 < 27; decide) dX12_goProduct_25 (by rw [emm_2]; rfl) (fun H locs hG => ?_)
        refine lv_iload_n hx hb dX12_goProduct_28 rfl (lv_at hl 1 rfl) ?_
        refine lv_aload_n hx hb dX12_goProduct_29 rfl (lv_at hl 0 rfl) ?_
        obtain ⟨r3, hcr3, h⟩ := bnd_some h
        refine gF_i (ws' := (rM E am r3.2 ++ [])) C hG (pin pnil) (List.Perm.symm (pin pnil)) (gR_V (As := []) (rest := [.int x1]) C hz hl.1 hG (pin pnil) (c_X12_goOne l E am N mm_2 hcr3 H.size) okX12_goOne q1774 0 rfl rfl rfl (Nat.le_of_ble_eq_true rfl) (by omega) ⟨Nat.le_refl _, Nat.le_refl _⟩ dX12_goProduct_30) (fun H locs _ hG => ?_)
        refine lv_imul hx hb dX12_goProduct_33 ?_
        refine lv_sipush (v := 10000) hx hb dX12_goProduct_34 (by decide) ?_
        refine lv_irem hx hb dX12_goProduct_37 (by decide) ?_
        refine g_int (v := (irem (x1 * r3.1) 10000)) rfl ?_
        obtain ⟨x1_4, ex1_4, h⟩ := thn_some h
        refine g_int ex1_4 ?_
        refine lv_istore_n (lv' := [(1, .int x1_4), (0, .ref (am 0))]) hx hb dX12_goProduct_38 rfl hl (by decide) rfl (fun ls hl => ?_)
        refine lv_goto (tgt := 5) hx hb dX12_goProduct_39 (by decide) ?_
        exact ih x1_4 r3.2 _ _ _ hG (lv_sub hl [1, 0] rfl) h
  rw [fX12_goProduct] at h
  refine lv_aload_n hx hb dX12_goProduct_0 rfl (lv_at hl 0 rfl) ?_
  obtain ⟨r1, hcr1, h⟩ := bnd_some h
  refine gF_i (ws' := (rM E am r1.2 ++ [])) C hG (pin pnil) (List.Perm.symm (pin pnil)) (gR_V (As := []) (rest := []) C hz hl.1 hG (pin pnil) (c_X12_goOne l E am N mm hcr1 H.size) okX12_goOne q1774 0 rfl rfl rfl (Nat.le_of_ble_eq_true rfl) (by omega) ⟨Nat.le_refl _, Nat.le_refl _⟩ dX12_goProduct_1) (fun H locs _ hG => ?_)
  refine lv_istore_n (lv' := [(1, .int r1.1), (0, .ref (am 0))]) hx hb dX12_goProduct_4 rfl hl (by decide) rfl (fun ls hl => ?_)
  exact K5 N r1.1 r1.2 _ _ _ hG (lv_sub hl [1, 0] rfl) h
set_option maxHeartbeats 4000000 in
set_option maxRecDepth 100000 in
theorem c_X12_goSum (l : Launch) (E : GE) (am : Nat → Nat) (N : Nat) (mm : RS) {res : Int32 × RS} (h : fX12_goSum N mm = some res) : gMi l E yX12_goSum cX12_goSum 2 .int 4 0 0 [.ref (am 0)] (rM E am mm ++ []) (rM E am res.2 ++ []) res.1 := by
  refine gMi_of (own := RX12) (by decide +kernel) rfl (Nat.le_of_ble_eq_true rfl) ?_
  intro p e s m args below meth c A ls Q H locs C hz hl hG hret
  have hx := C.1.1
  have hb := C.1.2.1
  have hts := C.1.2.2.2.2
  have hown := C.1.2.2.2.1
  have hl : lv_has ls 2 [(0, .ref (am 0))] := hl
  replace hret : ∀ (r0 : Int32) (mm0 : RS) (H : Heap) (locs : List Loc) (pc : Nat) (ls' : Array Slot), some (r0, mm0) = some res → narrow .int (.int r0) = .int r0 → gG E A s.heap (rM E am mm0 ++ []) H locs → decode cX12_goSum pc = .ok (.ireturn, 1) → W p l e (rmD 4 0 0) s m args below meth c H locs 0 0 Q (F0 m pc ls' [.int r0]) := by
    intro r0 mm0 H locs pc ls' e0 hn; cases e0; exact hret H locs pc ls' hn
  have K5 : ∀ (k : Nat), ∀  (x1 : Int32) (mm : RS) (H : Heap) (locs : List Loc) (ls : Array Slot), gG E A s.heap (rM E am mm ++ []) H locs → lv_has ls 2 [(0, .ref (am 0)), (1, .int x1)] → fX12_goSum_L5 N k x1 mm = some res → W p l e (rmD 4 0 0) s m args below meth c H locs 0 0 Q (F0 m 5 ls []) := by
    intro k
    induction k with
    | zero => intro x1 mm H locs ls hG hl h; exact absurd (show none = _ from h) (by simp)
    | succ k ih =>
      intro x1 mm H locs ls hG hl h
      rw [fX12_goSum_L5] at h
      refine lv_aload_n hx hb dX12_goSum_5 rfl (lv_at hl 0 rfl) ?_
      refine lv_aload_n hx hb dX12_goSum_6 rfl (lv_at hl 0 rfl) ?_
      refine gL_f (v := .int (mm 0 17)) C hG kX12 0 17 rfl (by decide) rfl q1369 rfl dX12_goSum_7 ?_
      obtain ⟨r1, hcr1, h⟩ := bnd_some h
      refine gF_i (ws' := (rM E am mm ++ [])) C hG (pin pnil) (List.Perm.symm (pin pnil)) (gR_V (As := [.int (mm 0 17)]) (rest := []) C hz hl.1 hG (pin pnil) (c_X12_tokenAt l E am N (mm 0 17) mm hcr1 H.size) okX12_tokenAt q1738 0 rfl rfl rfl (Nat.le_of_ble_eq_true rfl) (by omega) ⟨Nat.le_refl _, Nat.le_refl _⟩ dX12_goSum_10) (fun H locs _ hG => ?_)
      refine lv_bipush (v := 43) hx hb dX12_goSum_13 (by decide) ?_
      refine lv_icmp_ne (tgt := 42) hx hb dX12_goSum_15 (by decide) (fun c15 => ?_) (fun c15 => ?_)
      · replace h := ie c15 h
        refine lv_aload_n hx hb dX12_goSum_42 rfl (lv_at hl 0 rfl) ?_
        refine lv_aload_n hx hb dX12_goSum_43 rfl (lv_at hl 0 rfl) ?_
        refine gL_f (v := .int (mm 0 17)) C hG kX12 0 17 rfl (by decide) rfl q1369 rfl dX12_goSum_44 ?_
        obtain ⟨r2, hcr2, h⟩ := bnd_some h
        refine gF_i (ws' := (rM E am mm ++ [])) C hG (pin pnil) (List.Perm.symm (pin pnil)) (gR_V (As := [.int (mm 0 17)]) (rest := []) C hz hl.1 hG (pin pnil) (c_X12_tokenAt l E am N (mm 0 17) mm hcr2 H.size) okX12_tokenAt q1738 0 rfl rfl rfl (Nat.le_of_ble_eq_true rfl) (by omega) ⟨Nat.le_refl _, Nat.le_refl _⟩ dX12_goSum_47) (fun H locs _ hG => ?_)
        refine lv_bipush (v := 123) hx hb dX12_goSum_50 (by decide) ?_
        refine lv_icmp_eq (tgt := 65) hx hb dX12_goSum_52 (by decide) (fun c52 => ?_) (fun c52 => ?_)
        · replace h := it c52 h
          refine lv_iload_n hx hb dX12_goSum_65 rfl (lv_at hl 1 rfl) ?_
          exact hret _ _ _ _ _ _ h rfl hG dX12_goSum_66
        · replace h := ie c52 h
          refine lv_aload_n hx hb dX12_goSum_55 rfl (lv_at hl 0 rfl) ?_
          refine lv_dup hx hb dX12_goSum_56 rfl ?_
          refine gL_f (v := .int (mm 0 17)) C hG kX12 0 17 rfl (by decide) rfl q1369 rfl dX12_goSum_57 ?_
          refine lv_iconst (v := 1) hx hb dX12_goSum_60 (by decide) ?_
          refine lv_iadd hx hb dX12_goSum_61 ?_
          obtain ⟨mm_3, emm_3, h⟩ := thn_some h
          refine gS_f (v := .int ((mm 0 17) + 1)) (ws' := (rM E am mm_3 ++ [])) C hG kX12 0 17 rfl (by decide) q1369 rfl rfl rfl rfl (by show 17 < 27; decide) dX12_goSum_62 (by rw [emm_3]; rfl) (fun H locs hG => ?_)
          refine lv_iload_n hx hb dX12_goSum_65 rfl (lv_at hl 1 rfl) ?_
          exact hret _ _ _ _ _ _ h rfl hG dX12_goSum_66
      · replace h := it c15 h
        refine lv_aload_n hx hb dX12_goSum_18 rfl (lv_at hl 0 rfl) ?_
        refine lv_dup hx hb dX12_goSum_19 rfl ?_
        refine gL_f (v := .int (mm 0 17)) C hG kX12 0 17 rfl (by decide) rfl q1369 rfl dX12_goSum_20 ?_
        refine lv_iconst (v := 1) hx hb dX12_goSum_23 (by decide) ?_
        refine lv_iadd hx hb dX12_goSum_24 ?_
        obtain ⟨mm_4, emm_4, h⟩ := thn_some h
        refine gS_f (v := .int ((mm 0 17) + 1)) (ws' := (rM E am mm_4 ++ [])) C hG kX12 0 17 rfl (by decide) q1369 rfl rfl rfl rfl (by show 17 < 27; decide) dX12_goSum_25 (by rw [emm_4]; rfl) (fun H locs hG => ?_)
        refine lv_iload_n hx hb dX12_goSum_28 rfl (lv_at hl 1 rfl) ?_
        refine lv_aload_n hx hb dX12_goSum_29 rfl (lv_at hl 0 rfl) ?_
        obtain ⟨r5, hcr5, h⟩ := bnd_some h
        refine gF_i (ws' := (rM E am r5.2 ++ [])) C hG (pin pnil) (List.Perm.symm (pin pnil)) (gR_V (As := []) (rest := [.int x1]) C hz hl.1 hG (pin pnil) (c_X12_goProduct l E am N mm_4 hcr5 H.size) okX12_goProduct q1770 0 rfl rfl rfl (Nat.le_of_ble_eq_true rfl) (by omega) ⟨Nat.le_refl _, Nat.le_refl _⟩ dX12_goSum_30) (fun H locs _ hG => ?_)
        refine lv_iadd hx hb dX12_goSum_33 ?_
        refine lv_sipush (v := 10000) hx hb dX12_goSum_34 (by decide) ?_
        refine lv_irem hx hb dX12_goSum_37 (by decide) ?_
        refine g_int (v := (irem (x1 + r5.1) 10000)) rfl ?_
        obtain ⟨x1_6, ex1_6, h⟩ := thn_some h
        refine g_int ex1_6 ?_
        refine lv_istore_n (lv' := [(1, .int x1_6), (0, .ref (am 0))]) hx hb dX12_goSum_38 rfl hl (by decide) rfl (fun ls hl => ?_)
        refine lv_goto (tgt := 5) hx hb dX12_goSum_39 (by decide) ?_
        exact ih x1_6 r5.2 _ _ _ hG (lv_sub hl [1, 0] rfl) h
  rw [fX12_goSum] at h
  refine lv_aload_n hx hb dX12_goSum_0 rfl (lv_at hl 0 rfl) ?_
  obtain ⟨r1, hcr1, h⟩ := bnd_some h
  refine gF_i (ws' := (rM E am r1.2 ++ [])) C hG (pin pnil) (List.Perm.symm (pin pnil)) (gR_V (As := []) (rest := []) C hz hl.1 hG (pin pnil) (c_X12_goProduct l E am N mm hcr1 H.size) okX12_goProduct q1770 0 rfl rfl rfl (Nat.le_of_ble_eq_true rfl) (by omega) ⟨Nat.le_refl _, Nat.le_refl _⟩ dX12_goSum_1) (fun H locs _ hG => ?_)
  refine lv_istore_n (lv' := [(1, .int r1.1), (0, .ref (am 0))]) hx hb dX12_goSum_4 rfl hl (by decide) rfl (fun ls hl => ?_)
  exact K5 N r1.1 r1.2 _ _ _ hG (lv_sub hl [1, 0] rfl) h
set_option maxHeartbeats 4000000 in
set_option maxRecDepth 100000 in
theorem c_X12_isOver (l : Launch) (E : GE) (am : Nat → Nat) (mm : RS) {res : Int32} (h : fX12_isOver mm = res) : gMi l E yX12_isOver cX12_isOver 1 .boolean 1 0 0 [.ref (am 0)] (rM E am mm ++ []) (rM E am mm ++ []) res := by
  refine gMi_of (own := RX12) (by decide +kernel) rfl (Nat.le_of_ble_eq_true rfl) ?_
  intro p e s m args below meth c A ls Q H locs C hz hl hG hret
  have hx := C.1.1
  have hb := C.1.2.1
  have hts := C.1.2.2.2.2
  have hown := C.1.2.2.2.1
  have hl : lv_has ls 1 [(0, .ref (am 0))] := hl
  replace hret : ∀ (r0 : Int32) (H : Heap) (locs : List Loc) (pc : Nat) (ls' : Array Slot), r0 = res → narrow .boolean (.int r0) = .int r0 → gG E A s.heap (rM E am mm ++ []) H locs → decode cX12_isOver pc = .ok (.ireturn, 1) → W p l e (rmD 1 0 0) s m args below meth c H locs 0 0 Q (F0 m pc ls' [.int r0]) := by
    intro r0 H locs pc ls' e0 hn; cases e0; exact hret H locs pc ls' hn
  rw [fX12_isOver] at h
  refine lv_aload_n hx hb dX12_isOver_0 rfl (lv_at hl 0 rfl) ?_
  refine gL_f (v := .int (mm 0 18)) C hG kX12 0 18 rfl (by decide) rfl q1370 rfl dX12_isOver_1 ?_
  refine lv_sipush (v := 300) hx hb dX12_isOver_4 (by decide) ?_
  refine lv_icmp_ne (tgt := 14) hx hb dX12_isOver_7 (by decide) (fun c7 => ?_) (fun c7 => ?_)
  · replace h := ie c7 h
    refine lv_iconst (v := 0) hx hb dX12_isOver_14 (by decide) ?_
    exact hret _ _ _ _ _ h rfl hG dX12_isOver_15
  · replace h := it c7 h
    refine lv_iconst (v := 1) hx hb dX12_isOver_10 (by decide) ?_
    refine lv_goto (tgt := 15) hx hb dX12_isOver_11 (by decide) ?_
    exact hret _ _ _ _ _ h rfl hG dX12_isOver_15
set_option maxHeartbeats 4000000 in
set_option maxRecDepth 100000 in
theorem c_X12_goScan (l : Launch) (E : GE) (am : Nat → Nat) (N : Nat) (x1 : Int32) (x2 : Int32) (mm : RS) {res : RS} (h : fX12_goScan N x1 x2 mm = some res) : gMv l E yX12_goScan cX12_goScan 5 5 0 0 [.ref (am 0), .int x1, .int x2] (rM E am mm ++ []) (rM E am res ++ []) := by
  refine gMv_of (own := RX12) (by decide +kernel) rfl (Nat.le_of_ble_eq_true rfl) ?_
  intro p e s m args below meth c A ls Q H locs C hz hl hG hin hret
  have hx := C.1.1
  have hb := C.1.2.1
  have hts := C.1.2.2.2.2
  have hown := C.1.2.2.2.1
  have hl : lv_has ls 5 [(0, .ref (am 0)), (1, .int x1), (2, .int x2)] := hl
  replace hret : ∀ (mm0 : RS) (H : Heap) (locs : List Loc) (pc : Nat) (ls' : Array Slot), some mm0 = some res → gG E A s.heap (rM E am mm0 ++ []) H locs → decode cX12_goScan pc = .ok (.return_, 1) → W p l e (rmD 5 0 0) s m args below meth c H locs 0 0 Q (F0 m pc ls' []) := by
    intro mm0 H locs pc ls' e0; cases e0; exact hret H locs pc ls'
  have K10 : ∀ (k2 : (Int32 → RS → Option (RS))) (hk2 : ∀  (x3 : Int32) (mm : RS) (H : Heap) (locs : List Loc) (ls : Array Slot), gG E A s.heap (rM E am mm ++ []) H locs → lv_has ls 5 [(0, .ref (am 0)), (2, .int x2), (3, .int x3)] → k2 x3 mm = some res → W p l e (rmD 5 0 0) s m args below meth c H locs 0 0 Q (F0 m 2 ls [])) (k : Nat), ∀  (x3 : Int32) (x4 : Int32) (mm : RS) (H : Heap) (locs : List Loc) (ls : Array Slot), gG E A s.heap (rM E am mm ++ []) H locs → lv_has ls 5 [(0, .ref (am 0)), (2, .int x2), (3, .int x3), (4, .int x4)] → fX12_goScan_L10 N x1 x2 k2 k x3 x4 mm = some res → W p l e (rmD 5 0 0) s m args below meth c H locs 0 0 Q (F0 m 10 ls []) := by
    intro k2 hk2 k
    induction k with
    | zero => intro x3 x4 mm H locs ls hG hl h; exact absurd (show none = _ from h) (by simp)
    | succ k ih =>
      intro x3 x4 mm H locs ls hG hl h
      rw [fX12_goScan_L10] at h
      refine lv_iload hx hb dX12_goScan_10 (lv_at hl 3 rfl) ?_
      refine lv_iload_n hx hb dX12_goScan_12 rfl (lv_at hl 2 rfl) ?_
      refine gF_i (ws' := (rM E am mm ++ [])) C hG pst pst.symm (gR_S (As := [.int x3]) (rest := [.int x4]) C hz hl.1 hG pst (c_X12_sizeOf l E x3 rfl H.size) okX12_sizeOf q1536 rfl (Nat.le_of_ble_eq_true rfl) (by omega) ⟨Nat.le_refl _, Nat.le_refl _⟩ dX12_goScan_13) (fun H locs _ hG => ?_)
      refine lv_icmp_ge (tgt := 51) hx hb dX12_goScan_16 (by decide) (fun c16 => ?_) (fun c16 => ?_)
      · replace h := it c16 h
        refine lv_iinc (v := (x3 + 1)) (lv' := [(3, .int (x3 + 1)), (0, .ref (am 0)), (2, .int x2), (4, .int x4)]) hx hb dX12_goScan_51 hl (k := 2) rfl (congrArg (x3 + ·) (by decide : Int32.ofInt 1 = 1)) (by decide) rfl (fun ls hl => ?_)
        refine lv_goto (tgt := 2) hx hb dX12_goScan_54 (by decide) ?_
        exact hk2 (x3 + 1) mm _ _ _ hG (lv_sub hl [1, 2, 0] rfl) h
      · replace h := ie c16 h
        refine lv_aload_n hx hb dX12_goScan_19 rfl (lv_at hl 0 rfl) ?_
        refine gF_i (ws' := (rM E am mm ++ [])) C hG (pin pnil) (List.Perm.symm (pin pnil)) (gR_V (As := []) (rest := []) C hz hl.1 hG (pin pnil) (c_X12_isOver l E am mm rfl H.size) okX12_isOver q1742 0 rfl rfl rfl (Nat.le_of_ble_eq_true rfl) (by omega) ⟨Nat.le_refl _, Nat.le_refl _⟩ dX12_goScan_20) (fun H locs z1 hG => ?_)
        refine lv_if_eq (tgt := 27) hx hb dX12_goScan_23 (by decide) (fun c23 => ?_) (fun c23 => ?_)
        · replace h := it c23 h
          refine lv_aload_n hx hb dX12_goScan_27 rfl (lv_at hl 0 rfl) ?_
          refine lv_iload_n hx hb dX12_goScan_28 rfl (lv_at hl 2 rfl) ?_
          refine lv_iload hx hb dX12_goScan_29 (lv_at hl 3 rfl) ?_
          obtain ⟨r2, hcr2, h⟩ := bnd_some h
          refine gF_i (ws' := (rM E am r2.2 ++ [])) C hG (pin pnil) (List.Perm.symm (pin pnil)) (gR_V (As := [.int x3, .int x4]) (rest := []) C hz hl.1 hG (pin pnil) (c_X12_readNow l E am N x3 x4 mm hcr2 H.size) okX12_readNow q1543 0 rfl rfl rfl (Nat.le_of_ble_eq_true rfl) (by omega) ⟨Nat.le_refl _, Nat.le_refl _⟩ dX12_goScan_31) (fun H locs _ hG => ?_)
          refine lv_pop hx hb dX12_goScan_34 rfl ?_
          refine lv_aload_n hx hb dX12_goScan_35 rfl (lv_at hl 0 rfl) ?_
          refine lv_dup hx hb dX12_goScan_36 rfl ?_
          refine gL_f (v := .int (r2.2 0 18)) C hG kX12 0 18 rfl (by decide) rfl q1370 rfl dX12_goScan_37 ?_
          refine lv_iconst (v := 1) hx hb dX12_goScan_40 (by decide) ?_
          refine lv_iadd hx hb dX12_goScan_41 ?_
          obtain ⟨mm_3, emm_3, h⟩ := thn_some h
          refine gS_f (v := .int ((r2.2 0 18) + 1)) (ws' := (rM E am mm_3 ++ [])) C hG kX12 0 18 rfl (by decide) q1370 rfl rfl rfl rfl (by show 18 < 27; decide) dX12_goScan_42 (by rw [emm_3]; rfl) (fun H locs hG => ?_)
          refine lv_iinc (v := (x4 + 1)) (lv' := [(4, .int (x4 + 1)), (0, .ref (am 0)), (2, .int x2), (3, .int x3)]) hx hb dX12_goScan_45 hl (k := 3) rfl (congrArg (x4 + ·) (by decide : Int32.ofInt 1 = 1)) (by decide) rfl (fun ls hl => ?_)
          refine lv_goto (tgt := 10) hx hb dX12_goScan_48 (by decide) ?_
          exact ih x3 (x4 + 1) mm_3 _ _ _ hG (lv_sub hl [1, 2, 3, 0] rfl) h
        · replace h := ie c23 h
          exact hret _ _ _ _ _ h hG dX12_goScan_26
  have K2 : ∀ (k : Nat), ∀  (x3 : Int32) (mm : RS) (H : Heap) (locs : List Loc) (ls : Array Slot), gG E A s.heap (rM E am mm ++ []) H locs → lv_has ls 5 [(0, .ref (am 0)), (2, .int x2), (3, .int x3)] → fX12_goScan_L2 N x1 x2 k x3 mm = some res → W p l e (rmD 5 0 0) s m args below meth c H locs 0 0 Q (F0 m 2 ls []) := by
    intro k
    induction k with
    | zero => intro x3 mm H locs ls hG hl h; exact absurd (show none = _ from h) (by simp)
    | succ k ih =>
      intro x3 mm H locs ls hG hl h
      rw [fX12_goScan_L2] at h
      refine lv_iload_n hx hb dX12_goScan_2 rfl (lv_at hl 2 rfl) ?_
      refine lv_iload_n hx hb dX12_goScan_3 rfl (lv_at hl 1 rfl) ?_
      refine lv_icmp_gt (tgt := 57) hx hb dX12_goScan_4 (by decide) (fun c4 => ?_) (fun c4 => ?_)
      · replace h := it c4 h
        exact hret _ _ _ _ _ h hG dX12_goScan_57
      · replace h := ie c4 h
        refine lv_iconst (v := 0) hx hb dX12_goScan_7 (by decide) ?_
        refine lv_istore (lv' := [(4, .int 0), (0, .ref (am 0)), (2, .int x2), (3, .int x3)]) hx hb dX12_goScan_8 hl (by decide) rfl (fun ls hl => ?_)
        exact K10 _ ih N x3 0 mm _ _ _ hG (lv_sub hl [1, 2, 3, 0] rfl) h
  rw [fX12_goScan] at h
  refine lv_iload_n hx hb dX12_goScan_0 rfl (lv_at hl 1 rfl) ?_
  refine lv_istore_n (lv' := [(3, .int x1), (0, .ref (am 0)), (1, .int x1), (2, .int x2)]) hx hb dX12_goScan_1 rfl hl (by decide) rfl (fun ls hl => ?_)
  exact K2 N x1 mm _ _ _ hG (lv_sub hl [1, 3, 0] rfl) h
set_option maxHeartbeats 4000000 in
set_option maxRecDepth 100000 in
theorem c_X12_passBlock (l : Launch) (E : GE) (am : Nat → Nat) (N : Nat) (mm : RS) {res : RS} (h : fX12_passBlock N mm = some res) : gMv l E yX12_passBlock cX12_passBlock 3 2 0 0 [.ref (am 0)] (rM E am mm ++ []) (rM E am res ++ []) := by
  refine gMv_of (own := RX12) (by decide +kernel) rfl (Nat.le_of_ble_eq_true rfl) ?_
  intro p e s m args below meth c A ls Q H locs C hz hl hG hin hret
  have hx := C.1.1
  have hb := C.1.2.1
  have hts := C.1.2.2.2.2
  have hown := C.1.2.2.2.1
  have hl : lv_has ls 3 [(0, .ref (am 0))] := hl
  replace hret : ∀ (mm0 : RS) (H : Heap) (locs : List Loc) (pc : Nat) (ls' : Array Slot), some mm0 = some res → gG E A s.heap (rM E am mm0 ++ []) H locs → decode cX12_passBlock pc = .ok (.return_, 1) → W p l e (rmD 2 0 0) s m args below meth c H locs 0 0 Q (F0 m pc ls' []) := by
    intro mm0 H locs pc ls' e0; cases e0; exact hret H locs pc ls'
  have K65 : ∀ (k4 : (Int32 → Int32 → RS → Option (RS))) (hk4 : ∀  (x1 : Int32) (x2 : Int32) (mm : RS) (H : Heap) (locs : List Loc) (ls : Array Slot), gG E A s.heap (rM E am mm ++ []) H locs → lv_has ls 3 [(0, .ref (am 0)), (1, .int x1), (2, .int x2)] → k4 x1 x2 mm = some res → W p l e (rmD 2 0 0) s m args below meth c H locs 0 0 Q (F0 m 4 ls [])), ∀  (x1 : Int32) (s0 : Int32) (mm : RS) (H : Heap) (locs : List Loc) (ls : Array Slot), gG E A s.heap (rM E am mm ++ []) H locs → lv_has ls 3 [(0, .ref (am 0)), (1, .int x1)] → fX12_passBlock_L65 N k4 x1 s0 mm = some res → W p l e (rmD 2 0 0) s m args below meth c H locs 0 0 Q (F0 m 65 ls [.int s0]) := by
    intro k4 hk4 x1 s0 mm H locs ls hG hl h
    rw [fX12_passBlock_L65] at h
    refine lv_istore_n (lv' := [(2, .int s0), (0, .ref (am 0)), (1, .int x1)]) hx hb dX12_passBlock_65 rfl hl (by decide) rfl (fun ls hl => ?_)
    refine lv_goto (tgt := 4) hx hb dX12_passBlock_66 (by decide) ?_
    exact hk4 x1 s0 mm _ _ _ hG (lv_sub hl [1, 2, 0] rfl) h
  have K44 : ∀ (k4 : (Int32 → Int32 → RS → Option (RS))) (hk4 : ∀  (x1 : Int32) (x2 : Int32) (mm : RS) (H : Heap) (locs : List Loc) (ls : Array Slot), gG E A s.heap (rM E am mm ++ []) H locs → lv_has ls 3 [(0, .ref (am 0)), (1, .int x1), (2, .int x2)] → k4 x1 x2 mm = some res → W p l e (rmD 2 0 0) s m args below meth c H locs 0 0 Q (F0 m 4 ls [])), ∀  (s0 : Int32) (s1 : Int32) (mm : RS) (H : Heap) (locs : List Loc) (ls : Array Slot), gG E A s.heap (rM E am mm ++ []) H locs → lv_has ls 3 [(0, .ref (am 0))] → fX12_passBlock_L44 N k4 s0 s1 mm = some res → W p l e (rmD 2 0 0) s m args below meth c H locs 0 0 Q (F0 m 44 ls [.int s1, .int s0]) := by
    intro k4 hk4 s0 s1 mm H locs ls hG hl h
    rw [fX12_passBlock_L44] at h
    refine lv_iadd hx hb dX12_passBlock_44 ?_
    obtain ⟨x1_1, ex1_1, h⟩ := thn_some h
    refine g_int ex1_1 ?_
    refine lv_istore_n (lv' := [(1, .int x1_1), (0, .ref (am 0))]) hx hb dX12_passBlock_45 rfl hl (by decide) rfl (fun ls hl => ?_)
    refine lv_aload_n hx hb dX12_passBlock_46 rfl (lv_at hl 1 rfl) ?_
    refine lv_dup hx hb dX12_passBlock_47 rfl ?_
    refine gL_f (v := .int (mm 0 17)) C hG kX12 0 17 rfl (by decide) rfl q1369 rfl dX12_passBlock_48 ?_
    refine lv_iconst (v := 1) hx hb dX12_passBlock_51 (by decide) ?_
    refine lv_iadd hx hb dX12_passBlock_52 ?_
    obtain ⟨mm_2, emm_2, h⟩ := thn_some h
    refine gS_f (v := .int ((mm 0 17) + 1)) (ws' := (rM E am mm_2 ++ [])) C hG kX12 0 17 rfl (by decide) q1369 rfl rfl rfl rfl (by show 17 < 27; decide) dX12_passBlock_53 (by rw [emm_2]; rfl) (fun H locs hG => ?_)
    refine lv_iload_n hx hb dX12_passBlock_56 rfl (lv_at hl 0 rfl) ?_
    refine lv_if_le (tgt := 64) hx hb dX12_passBlock_57 (by decide) (fun c57 => ?_) (fun c57 => ?_)
    · replace h := it c57 h
      refine lv_iconst (v := 0) hx hb dX12_passBlock_64 (by decide) ?_
      exact K65 _ hk4 x1_1 0 mm_2 _ _ _ hG (lv_sub hl [1, 0] rfl) h
    · replace h := ie c57 h
      refine lv_iconst (v := 1) hx hb dX12_passBlock_60 (by decide) ?_
      refine lv_goto (tgt := 65) hx hb dX12_passBlock_61 (by decide) ?_
      exact K65 _ hk4 x1_1 1 mm_2 _ _ _ hG (lv_sub hl [1, 0] rfl) h
  have K4 : ∀ (k : Nat), ∀  (x1 : Int32) (x2 : Int32) (mm : RS) (H : Heap) (locs : List Loc) (ls : Array Slot), gG E A s.heap (rM E am mm ++ []) H locs → lv_has ls 3 [(0, .ref (am 0)), (1, .int x1), (2, .int x2)] → fX12_passBlock_L4 N k x1 x2 mm = some res → W p l e (rmD 2 0 0) s m args below meth c H locs 0 0 Q (F0 m 4 ls []) := by
    intro k
    induction k with
    | zero => intro x1 x2 mm H locs ls hG hl h; exact absurd (show none = _ from h) (by simp)
    | succ k ih =>
      intro x1 x2 mm H locs ls hG hl h
      rw [fX12_passBlock_L4] at h
      refine lv_iload_n hx hb dX12_passBlock_4 rfl (lv_at hl 2 rfl) ?_
      refine lv_if_eq (tgt := 69) hx hb dX12_passBlock_5 (by decide) (fun c5 => ?_) (fun c5 => ?_)
      · replace h := it c5 h
        exact hret _ _ _ _ _ h hG dX12_passBlock_69
      · replace h := ie c5 h
        refine lv_iload_n hx hb dX12_passBlock_8 rfl (lv_at hl 1 rfl) ?_
        refine lv_aload_n hx hb dX12_passBlock_9 rfl (lv_at hl 0 rfl) ?_
        refine lv_aload_n hx hb dX12_passBlock_10 rfl (lv_at hl 0 rfl) ?_
        refine gL_f (v := .int (mm 0 17)) C hG kX12 0 17 rfl (by decide) rfl q1369 rfl dX12_passBlock_11 ?_
        obtain ⟨r1, hcr1, h⟩ := bnd_some h
        refine gF_i (ws' := (rM E am mm ++ [])) C hG (pin pnil) (List.Perm.symm (pin pnil)) (gR_V (As := [.int (mm 0 17)]) (rest := [.int x1]) C hz hl.1 hG (pin pnil) (c_X12_tokenAt l E am N (mm 0 17) mm hcr1 H.size) okX12_tokenAt q1738 0 rfl rfl rfl (Nat.le_of_ble_eq_true rfl) (by omega) ⟨Nat.le_refl _, Nat.le_refl _⟩ dX12_passBlock_14) (fun H locs _ hG => ?_)
        refine lv_bipush (v := 123) hx hb dX12_passBlock_17 (by decide) ?_
        refine lv_icmp_ne (tgt := 26) hx hb dX12_passBlock_19 (by decide) (fun c19 => ?_) (fun c19 => ?_)
        · replace h := ie c19 h
          refine lv_aload_n hx hb dX12_passBlock_26 rfl (lv_at hl 0 rfl) ?_
          refine lv_aload_n hx hb dX12_passBlock_27 rfl (lv_at hl 0 rfl) ?_
          refine gL_f (v := .int (mm 0 17)) C hG kX12 0 17 rfl (by decide) rfl q1369 rfl dX12_passBlock_28 ?_
          obtain ⟨r2, hcr2, h⟩ := bnd_some h
          refine gF_i (ws' := (rM E am mm ++ [])) C hG (pin pnil) (List.Perm.symm (pin pnil)) (gR_V (As := [.int (mm 0 17)]) (rest := [.int x1]) C hz hl.1 hG (pin pnil) (c_X12_tokenAt l E am N (mm 0 17) mm hcr2 H.size) okX12_tokenAt q1738 0 rfl rfl rfl (Nat.le_of_ble_eq_true rfl) (by omega) ⟨Nat.le_refl _, Nat.le_refl _⟩ dX12_passBlock_31) (fun H locs _ hG => ?_)
          refine lv_bipush (v := 125) hx hb dX12_passBlock_34 (by decide) ?_
          refine lv_icmp_ne (tgt := 43) hx hb dX12_passBlock_36 (by decide) (fun c36 => ?_) (fun c36 => ?_)
          · replace h := ie c36 h
            refine lv_iconst (v := 0) hx hb dX12_passBlock_43 (by decide) ?_
            exact K44 _ ih x1 0 mm _ _ _ hG (lv_sub hl [0] rfl) h
          · replace h := it c36 h
            refine lv_iconst (v := (-1)) hx hb dX12_passBlock_39 (by decide) ?_
            refine lv_goto (tgt := 44) hx hb dX12_passBlock_40 (by decide) ?_
            exact K44 _ ih x1 (-1) mm _ _ _ hG (lv_sub hl [0] rfl) h
        · replace h := it c19 h
          refine lv_iconst (v := 1) hx hb dX12_passBlock_22 (by decide) ?_
          refine lv_goto (tgt := 44) hx hb dX12_passBlock_23 (by decide) ?_
          exact K44 _ ih x1 1 mm _ _ _ hG (lv_sub hl [0] rfl) h
  rw [fX12_passBlock] at h
  refine lv_iconst (v := 0) hx hb dX12_passBlock_0 (by decide) ?_
  refine lv_istore_n (lv' := [(1, .int 0), (0, .ref (am 0))]) hx hb dX12_passBlock_1 rfl hl (by decide) rfl (fun ls hl => ?_)
  refine lv_iconst (v := 1) hx hb dX12_passBlock_2 (by decide) ?_
  refine lv_istore_n (lv' := [(2, .int 1), (1, .int 0), (0, .ref (am 0))]) hx hb dX12_passBlock_3 rfl hl (by decide) rfl (fun ls hl => ?_)
  exact K4 N 0 1 mm _ _ _ hG (lv_sub hl [2, 1, 0] rfl) h
set_option maxHeartbeats 4000000 in
set_option maxRecDepth 100000 in
theorem c_X12_goInto (l : Launch) (E : GE) (am : Nat → Nat) (N : Nat) (x1 : Int32) (mm : RS) {res : RS} (h : fX12_goInto N x1 mm = some res) : gMv l E yX12_goInto cX12_goInto 2 1 0 0 [.ref (am 0), .int x1] (rM E am mm ++ []) (rM E am res ++ []) := by
  refine gMv_of (own := RX12) (by decide +kernel) rfl (Nat.le_of_ble_eq_true rfl) ?_
  intro p e s m args below meth c A ls Q H locs C hz hl hG hin hret
  have hx := C.1.1
  have hb := C.1.2.1
  have hts := C.1.2.2.2.2
  have hown := C.1.2.2.2.1
  have hl : lv_has ls 2 [(0, .ref (am 0)), (1, .int x1)] := hl
  replace hret : ∀ (mm0 : RS) (H : Heap) (locs : List Loc) (pc : Nat) (ls' : Array Slot), some mm0 = some res → gG E A s.heap (rM E am mm0 ++ []) H locs → decode cX12_goInto pc = .ok (.return_, 1) → W p l e (rmD 1 0 0) s m args below meth c H locs 0 0 Q (F0 m pc ls' []) := by
    intro mm0 H locs pc ls' e0; cases e0; exact hret H locs pc ls'
  rw [fX12_goInto] at h
  refine lv_aload_n hx hb dX12_goInto_0 rfl (lv_at hl 0 rfl) ?_
  refine lv_dup hx hb dX12_goInto_1 rfl ?_
  refine gL_f (v := .int (mm 0 17)) C hG kX12 0 17 rfl (by decide) rfl q1369 rfl dX12_goInto_2 ?_
  refine lv_iconst (v := 1) hx hb dX12_goInto_5 (by decide) ?_
  refine lv_iadd hx hb dX12_goInto_6 ?_
  obtain ⟨mm_1, emm_1, h⟩ := thn_some h
  refine gS_f (v := .int ((mm 0 17) + 1)) (ws' := (rM E am mm_1 ++ [])) C hG kX12 0 17 rfl (by decide) q1369 rfl rfl rfl rfl (by show 17 < 27; decide) dX12_goInto_7 (by rw [emm_1]; rfl) (fun H locs hG => ?_)
  refine lv_aload_n hx hb dX12_goInto_10 rfl (lv_at hl 0 rfl) ?_
  refine gL_f (v := .ref (am 7)) C hG kX12 0 19 rfl (by decide) rfl q1371 rfl dX12_goInto_11 ?_
  refine lv_aload_n hx hb dX12_goInto_14 rfl (lv_at hl 0 rfl) ?_
  refine gL_f (v := .int (mm_1 0 14)) C hG kX12 0 14 rfl (by decide) rfl q1366 rfl dX12_goInto_15 ?_
  refine lv_aload_n hx hb dX12_goInto_18 rfl (lv_at hl 0 rfl) ?_
  refine gL_f (v := .int (mm_1 0 17)) C hG kX12 0 17 rfl (by decide) rfl q1369 rfl dX12_goInto_19 ?_
  obtain ⟨b2, h⟩ := ck_some h
  obtain ⟨mm_3, emm_3, h⟩ := thn_some h
  refine gS_i (x := (mm_1 0 17)) (ws' := (rM E am mm_3 ++ [])) C hG 7 rfl (inb_in b2) rfl dX12_goInto_22 (by rw [emm_3]; rfl) (fun H locs hG => ?_)
  refine lv_aload_n hx hb dX12_goInto_23 rfl (lv_at hl 0 rfl) ?_
  refine gL_f (v := .ref (am 8)) C hG kX12 0 20 rfl (by decide) rfl q1372 rfl dX12_goInto_24 ?_
  refine lv_aload_n hx hb dX12_goInto_27 rfl (lv_at hl 0 rfl) ?_
  refine gL_f (v := .int (mm_3 0 14)) C hG kX12 0 14 rfl (by decide) rfl q1366 rfl dX12_goInto_28 ?_
  refine lv_iload_n hx hb dX12_goInto_31 rfl (lv_at hl 1 rfl) ?_
  obtain ⟨b4, h⟩ := ck_some h
  obtain ⟨mm_5, emm_5, h⟩ := thn_some h
  refine gS_i (x := x1) (ws' := (rM E am mm_5 ++ [])) C hG 8 rfl (inb_in b4) rfl dX12_goInto_32 (by rw [emm_5]; rfl) (fun H locs hG => ?_)
  refine lv_aload_n hx hb dX12_goInto_33 rfl (lv_at hl 0 rfl) ?_
  refine lv_dup hx hb dX12_goInto_34 rfl ?_
  refine gL_f (v := .int (mm_5 0 14)) C hG kX12 0 14 rfl (by decide) rfl q1366 rfl dX12_goInto_35 ?_
  refine lv_iconst (v := 1) hx hb dX12_goInto_38 (by decide) ?_
  refine lv_iadd hx hb dX12_goInto_39 ?_
  obtain ⟨mm_6, emm_6, h⟩ := thn_some h
  refine gS_f (v := .int ((mm_5 0 14) + 1)) (ws' := (rM E am mm_6 ++ [])) C hG kX12 0 14 rfl (by decide) q1366 rfl rfl rfl rfl (by show 14 < 27; decide) dX12_goInto_40 (by rw [emm_6]; rfl) (fun H locs hG => ?_)
  refine lv_iload_n hx hb dX12_goInto_43 rfl (lv_at hl 1 rfl) ?_
  refine lv_iconst (v := (-1)) hx hb dX12_goInto_44 (by decide) ?_
  refine lv_icmp_ne (tgt := 49) hx hb dX12_goInto_45 (by decide) (fun c45 => ?_) (fun c45 => ?_)
  · replace h := ie c45 h
    refine lv_aload_n hx hb dX12_goInto_49 rfl (lv_at hl 0 rfl) ?_
    refine gL_f (v := .ref (am 9)) C hG kX12 0 21 rfl (by decide) rfl q1373 rfl dX12_goInto_50 ?_
    refine lv_aload_n hx hb dX12_goInto_53 rfl (lv_at hl 0 rfl) ?_
    refine gL_f (v := .int (mm_6 0 15)) C hG kX12 0 15 rfl (by decide) rfl q1367 rfl dX12_goInto_54 ?_
    refine lv_iconst (v := 0) hx hb dX12_goInto_57 (by decide) ?_
    obtain ⟨b7, h⟩ := ck_some h
    obtain ⟨mm_8, emm_8, h⟩ := thn_some h
    refine gS_i (x := 0) (ws' := (rM E am mm_8 ++ [])) C hG 9 rfl (inb_in b7) rfl dX12_goInto_58 (by rw [emm_8]; rfl) (fun H locs hG => ?_)
    refine lv_aload_n hx hb dX12_goInto_59 rfl (lv_at hl 0 rfl) ?_
    refine lv_dup hx hb dX12_goInto_60 rfl ?_
    refine gL_f (v := .int (mm_8 0 15)) C hG kX12 0 15 rfl (by decide) rfl q1367 rfl dX12_goInto_61 ?_
    refine lv_iconst (v := 1) hx hb dX12_goInto_64 (by decide) ?_
    refine lv_iadd hx hb dX12_goInto_65 ?_
    obtain ⟨mm_9, emm_9, h⟩ := thn_some h
    refine gS_f (v := .int ((mm_8 0 15) + 1)) (ws' := (rM E am mm_9 ++ [])) C hG kX12 0 15 rfl (by decide) q1367 rfl rfl rfl rfl (by show 15 < 27; decide) dX12_goInto_66 (by rw [emm_9]; rfl) (fun H locs hG => ?_)
    exact hret _ _ _ _ _ h hG dX12_goInto_69
  · replace h := it c45 h
    exact hret _ _ _ _ _ h hG dX12_goInto_48
set_option maxHeartbeats 4000000 in
set_option maxRecDepth 100000 in
theorem c_X12_goAround (l : Launch) (E : GE) (am : Nat → Nat) (N : Nat) (mm : RS) {res : RS} (h : fX12_goAround N mm = some res) : gMv l E yX12_goAround cX12_goAround 2 1 0 0 [.ref (am 0)] (rM E am mm ++ []) (rM E am res ++ []) := by
  refine gMv_of (own := RX12) (by decide +kernel) rfl (Nat.le_of_ble_eq_true rfl) ?_
  intro p e s m args below meth c A ls Q H locs C hz hl hG hin hret
  have hx := C.1.1
  have hb := C.1.2.1
  have hts := C.1.2.2.2.2
  have hown := C.1.2.2.2.1
  have hl : lv_has ls 2 [(0, .ref (am 0))] := hl
  replace hret : ∀ (mm0 : RS) (H : Heap) (locs : List Loc) (pc : Nat) (ls' : Array Slot), some mm0 = some res → gG E A s.heap (rM E am mm0 ++ []) H locs → decode cX12_goAround pc = .ok (.return_, 1) → W p l e (rmD 1 0 0) s m args below meth c H locs 0 0 Q (F0 m pc ls' []) := by
    intro mm0 H locs pc ls' e0; cases e0; exact hret H locs pc ls'
  have K80 : ∀  (s1 : Int32) (s2 : Int32) (mm : RS) (H : Heap) (locs : List Loc) (ls : Array Slot), gG E A s.heap (rM E am mm ++ []) H locs → lv_has ls 2 [(0, .ref (am 0))] → fX12_goAround_L80 N s1 s2 mm = some res → W p l e (rmD 1 0 0) s m args below meth c H locs 0 0 Q (F0 m 80 ls [.int s2, .int s1, .ref (am 0)]) := by
    intro s1 s2 mm H locs ls hG hl h
    rw [fX12_goAround_L80] at h
    refine lv_isub hx hb dX12_goAround_80 ?_
    obtain ⟨mm_1, emm_1, h⟩ := thn_some h
    refine gS_f (v := .int (s1 - s2)) (ws' := (rM E am mm_1 ++ [])) C hG kX12 0 15 rfl (by decide) q1367 rfl rfl rfl rfl (by show 15 < 27; decide) dX12_goAround_81 (by rw [emm_1]; rfl) (fun H locs hG => ?_)
    refine lv_aload_n hx hb dX12_goAround_84 rfl (lv_at hl 0 rfl) ?_
    refine lv_dup hx hb dX12_goAround_85 rfl ?_
    refine gL_f (v := .int (mm_1 0 14)) C hG kX12 0 14 rfl (by decide) rfl q1366 rfl dX12_goAround_86 ?_
    refine lv_iconst (v := 1) hx hb dX12_goAround_89 (by decide) ?_
    refine lv_isub hx hb dX12_goAround_90 ?_
    obtain ⟨mm_2, emm_2, h⟩ := thn_some h
    refine gS_f (v := .int ((mm_1 0 14) - 1)) (ws' := (rM E am mm_2 ++ [])) C hG kX12 0 14 rfl (by decide) q1366 rfl rfl rfl rfl (by show 14 < 27; decide) dX12_goAround_91 (by rw [emm_2]; rfl) (fun H locs hG => ?_)
    refine lv_aload_n hx hb dX12_goAround_94 rfl (lv_at hl 0 rfl) ?_
    refine lv_dup hx hb dX12_goAround_95 rfl ?_
    refine gL_f (v := .int (mm_2 0 17)) C hG kX12 0 17 rfl (by decide) rfl q1369 rfl dX12_goAround_96 ?_
    refine lv_iconst (v := 1) hx hb dX12_goAround_99 (by decide) ?_
    refine lv_iadd hx hb dX12_goAround_100 ?_
    obtain ⟨mm_3, emm_3, h⟩ := thn_some h
    refine gS_f (v := .int ((mm_2 0 17) + 1)) (ws' := (rM E am mm_3 ++ [])) C hG kX12 0 17 rfl (by decide) q1369 rfl rfl rfl rfl (by show 17 < 27; decide) dX12_goAround_101 (by rw [emm_3]; rfl) (fun H locs hG => ?_)
    exact hret _ _ _ _ _ h hG dX12_goAround_104
  have K65 : ∀  (x1 : Int32) (mm : RS) (H : Heap) (locs : List Loc) (ls : Array Slot), gG E A s.heap (rM E am mm ++ []) H locs → lv_has ls 2 [(0, .ref (am 0)), (1, .int x1)] → fX12_goAround_L65 N x1 mm = some res → W p l e (rmD 1 0 0) s m args below meth c H locs 0 0 Q (F0 m 65 ls []) := by
    intro x1 mm H locs ls hG hl h
    rw [fX12_goAround_L65] at h
    refine lv_aload_n hx hb dX12_goAround_65 rfl (lv_at hl 0 rfl) ?_
    refine lv_dup hx hb dX12_goAround_66 rfl ?_
    refine gL_f (v := .int (mm 0 15)) C hG kX12 0 15 rfl (by decide) rfl q1367 rfl dX12_goAround_67 ?_
    refine lv_iload_n hx hb dX12_goAround_70 rfl (lv_at hl 1 rfl) ?_
    refine lv_iconst (v := (-1)) hx hb dX12_goAround_71 (by decide) ?_
    refine lv_icmp_ne (tgt := 79) hx hb dX12_goAround_72 (by decide) (fun c72 => ?_) (fun c72 => ?_)
    · replace h := ie c72 h
      refine lv_iconst (v := 1) hx hb dX12_goAround_79 (by decide) ?_
      exact K80 (mm 0 15) 1 mm _ _ _ hG (lv_sub hl [0] rfl) h
    · replace h := it c72 h
      refine lv_iconst (v := 0) hx hb dX12_goAround_75 (by decide) ?_
      refine lv_goto (tgt := 80) hx hb dX12_goAround_76 (by decide) ?_
      exact K80 (mm 0 15) 0 mm _ _ _ hG (lv_sub hl [0] rfl) h
  rw [fX12_goAround] at h
  refine lv_aload_n hx hb dX12_goAround_0 rfl (lv_at hl 0 rfl) ?_
  refine gL_f (v := .ref (am 8)) C hG kX12 0 20 rfl (by decide) rfl q1372 rfl dX12_goAround_1 ?_
  refine lv_aload_n hx hb dX12_goAround_4 rfl (lv_at hl 0 rfl) ?_
  refine gL_f (v := .int (mm 0 14)) C hG kX12 0 14 rfl (by decide) rfl q1366 rfl dX12_goAround_5 ?_
  refine lv_iconst (v := 1) hx hb dX12_goAround_8 (by decide) ?_
  refine lv_isub hx hb dX12_goAround_9 ?_
  obtain ⟨b1, h⟩ := ck_some h
  refine gL_i (v := (mm 8 ((mm 0 14) - 1).toNatClampNeg)) C hG 8 rfl (inb_in b1) rfl dX12_goAround_10 ?_
  obtain ⟨x1_2, ex1_2, h⟩ := thn_some h
  refine g_int ex1_2 ?_
  refine lv_istore_n (lv' := [(1, .int x1_2), (0, .ref (am 0))]) hx hb dX12_goAround_11 rfl hl (by decide) rfl (fun ls hl => ?_)
  refine lv_iload_n hx hb dX12_goAround_12 rfl (lv_at hl 0 rfl) ?_
  refine lv_iconst (v := (-1)) hx hb dX12_goAround_13 (by decide) ?_
  refine lv_icmp_eq (tgt := 65) hx hb dX12_goAround_14 (by decide) (fun c14 => ?_) (fun c14 => ?_)
  · replace h := it c14 h
    exact K65 x1_2 mm _ _ _ hG (lv_sub hl [1, 0] rfl) h
  · replace h := ie c14 h
    refine lv_aload_n hx hb dX12_goAround_17 rfl (lv_at hl 1 rfl) ?_
    refine gL_f (v := .ref (am 9)) C hG kX12 0 21 rfl (by decide) rfl q1373 rfl dX12_goAround_18 ?_
    refine lv_aload_n hx hb dX12_goAround_21 rfl (lv_at hl 1 rfl) ?_
    refine gL_f (v := .int (mm 0 15)) C hG kX12 0 15 rfl (by decide) rfl q1367 rfl dX12_goAround_22 ?_
    refine lv_iconst (v := 1) hx hb dX12_goAround_25 (by decide) ?_
    refine lv_isub hx hb dX12_goAround_26 ?_
    obtain ⟨b3, h⟩ := ck_some h
    refine gL_i (v := (mm 9 ((mm 0 15) - 1).toNatClampNeg)) C hG 9 rfl (inb_in b3) rfl dX12_goAround_27 ?_
    refine lv_iconst (v := 1) hx hb dX12_goAround_28 (by decide) ?_
    refine lv_iadd hx hb dX12_goAround_29 ?_
    refine lv_iload_n hx hb dX12_goAround_30 rfl (lv_at hl 0 rfl) ?_
    refine lv_icmp_ge (tgt := 65) hx hb dX12_goAround_31 (by decide) (fun c31 => ?_) (fun c31 => ?_)
    · replace h := it c31 h
      exact K65 x1_2 mm _ _ _ hG (lv_sub hl [1, 0] rfl) h
    · replace h := ie c31 h
      refine lv_aload_n hx hb dX12_goAround_34 rfl (lv_at hl 1 rfl) ?_
      refine gL_f (v := .ref (am 9)) C hG kX12 0 21 rfl (by decide) rfl q1373 rfl dX12_goAround_35 ?_
      refine lv_aload_n hx hb dX12_goAround_38 rfl (lv_at hl 1 rfl) ?_
      refine gL_f (v := .int (mm 0 15)) C hG kX12 0 15 rfl (by decide) rfl q1367 rfl dX12_goAround_39 ?_
      refine lv_iconst (v := 1) hx hb dX12_goAround_42 (by decide) ?_
      refine lv_isub hx hb dX12_goAround_43 ?_
      refine lv_dup2_11 hx hb dX12_goAround_44 rfl rfl ?_
      refine gL_i (v := (mm 9 ((mm 0 15) - 1).toNatClampNeg)) C hG 9 rfl (inb_in b3) rfl dX12_goAround_45 ?_
      refine lv_iconst (v := 1) hx hb dX12_goAround_46 (by decide) ?_
      refine lv_iadd hx hb dX12_goAround_47 ?_
      obtain ⟨mm_4, emm_4, h⟩ := thn_some h
      refine gS_i (x := ((mm 9 ((mm 0 15) - 1).toNatClampNeg) + 1)) (ws' := (rM E am mm_4 ++ [])) C hG 9 rfl (inb_in b3) rfl dX12_goAround_48 (by rw [emm_4]; rfl) (fun H locs hG => ?_)
      refine lv_aload_n hx hb dX12_goAround_49 rfl (lv_at hl 1 rfl) ?_
      refine lv_aload_n hx hb dX12_goAround_50 rfl (lv_at hl 1 rfl) ?_
      refine gL_f (v := .ref (am 7)) C hG kX12 0 19 rfl (by decide) rfl q1371 rfl dX12_goAround_51 ?_
      refine lv_aload_n hx hb dX12_goAround_54 rfl (lv_at hl 1 rfl) ?_
      refine gL_f (v := .int (mm_4 0 14)) C hG kX12 0 14 rfl (by decide) rfl q1366 rfl dX12_goAround_55 ?_
      refine lv_iconst (v := 1) hx hb dX12_goAround_58 (by decide) ?_
      refine lv_isub hx hb dX12_goAround_59 ?_
      obtain ⟨b5, h⟩ := ck_some h
      refine gL_i (v := (mm_4 7 ((mm_4 0 14) - 1).toNatClampNeg)) C hG 7 rfl (inb_in b5) rfl dX12_goAround_60 ?_
      obtain ⟨mm_6, emm_6, h⟩ := thn_some h
      refine gS_f (v := .int (mm_4 7 ((mm_4 0 14) - 1).toNatClampNeg)) (ws' := (rM E am mm_6 ++ [])) C hG kX12 0 17 rfl (by decide) q1369 rfl rfl rfl rfl (by show 17 < 27; decide) dX12_goAround_61 (by rw [emm_6]; rfl) (fun H locs hG => ?_)
      exact hret _ _ _ _ _ h hG dX12_goAround_64
set_option maxHeartbeats 4000000 in
set_option maxRecDepth 100000 in
theorem c_X12_goChoice (l : Launch) (E : GE) (am : Nat → Nat) (N : Nat) (mm : RS) {res : RS} (h : fX12_goChoice N mm = some res) : gMv l E yX12_goChoice cX12_goChoice 4 5 0 0 [.ref (am 0)] (rM E am mm ++ []) (rM E am res ++ []) := by
  refine gMv_of (own := RX12) (by decide +kernel) rfl (Nat.le_of_ble_eq_true rfl) ?_
  intro p e s m args below meth c A ls Q H locs C hz hl hG hin hret
  have hx := C.1.1
  have hb := C.1.2.1
  have hts := C.1.2.2.2.2
  have hown := C.1.2.2.2.1
  have hl : lv_has ls 4 [(0, .ref (am 0))] := hl
  replace hret : ∀ (mm0 : RS) (H : Heap) (locs : List Loc) (pc : Nat) (ls' : Array Slot), some mm0 = some res → gG E A s.heap (rM E am mm0 ++ []) H locs → decode cX12_goChoice pc = .ok (.return_, 1) → W p l e (rmD 5 0 0) s m args below meth c H locs 0 0 Q (F0 m pc ls' []) := by
    intro mm0 H locs pc ls' e0; cases e0; exact hret H locs pc ls'
  have K48 : ∀  (mm : RS) (H : Heap) (locs : List Loc) (ls : Array Slot), gG E A s.heap (rM E am mm ++ []) H locs → lv_has ls 4 [(0, .ref (am 0))] → fX12_goChoice_L48 N mm = some res → W p l e (rmD 5 0 0) s m args below meth c H locs 0 0 Q (F0 m 48 ls []) := by
    intro mm H locs ls hG hl h
    rw [fX12_goChoice_L48] at h
    refine lv_aload_n hx hb dX12_goChoice_48 rfl (lv_at hl 0 rfl) ?_
    refine lv_iconst (v := (-1)) hx hb dX12_goChoice_49 (by decide) ?_
    obtain ⟨r1, hcr1, h⟩ := bnd_some h
    refine gF_v (ws' := (rM E am r1 ++ [])) C hG (pin pnil) (List.Perm.symm (pin pnil)) (gR_V (As := [.int (-1)]) (rest := []) C hz hl.1 hG (pin pnil) (c_X12_goInto l E am N (-1) mm hcr1 H.size) okX12_goInto q1758 0 rfl rfl rfl (Nat.le_of_ble_eq_true rfl) (by omega) ⟨Nat.le_refl _, Nat.le_refl _⟩ dX12_goChoice_50) (fun H locs hG => ?_)
    refine lv_goto (tgt := 60) hx hb dX12_goChoice_53 (by decide) ?_
    exact hret _ _ _ _ _ h hG dX12_goChoice_60
  have K56 : ∀  (mm : RS) (H : Heap) (locs : List Loc) (ls : Array Slot), gG E A s.heap (rM E am mm ++ []) H locs → lv_has ls 4 [(0, .ref (am 0))] → fX12_goChoice_L56 N mm = some res → W p l e (rmD 5 0 0) s m args below meth c H locs 0 0 Q (F0 m 56 ls []) := by
    intro mm H locs ls hG hl h
    rw [fX12_goChoice_L56] at h
    refine lv_aload_n hx hb dX12_goChoice_56 rfl (lv_at hl 0 rfl) ?_
    obtain ⟨r1, hcr1, h⟩ := bnd_some h
    refine gF_v (ws' := (rM E am r1 ++ [])) C hG (pin pnil) (List.Perm.symm (pin pnil)) (gR_V (As := []) (rest := []) C hz hl.1 hG (pin pnil) (c_X12_passBlock l E am N mm hcr1 H.size) okX12_passBlock q1778 0 rfl rfl rfl (Nat.le_of_ble_eq_true rfl) (by omega) ⟨Nat.le_refl _, Nat.le_refl _⟩ dX12_goChoice_57) (fun H locs hG => ?_)
    exact hret _ _ _ _ _ h hG dX12_goChoice_60
  have K25 : ∀  (x1 : Int32) (s0 : Int32) (mm : RS) (H : Heap) (locs : List Loc) (ls : Array Slot), gG E A s.heap (rM E am mm ++ []) H locs → lv_has ls 4 [(0, .ref (am 0)), (1, .int x1)] → fX12_goChoice_L25 N x1 s0 mm = some res → W p l e (rmD 5 0 0) s m args below meth c H locs 0 0 Q (F0 m 25 ls [.int s0]) := by
    intro x1 s0 mm H locs ls hG hl h
    rw [fX12_goChoice_L25] at h
    refine lv_istore_n (lv' := [(2, .int s0), (0, .ref (am 0)), (1, .int x1)]) hx hb dX12_goChoice_25 rfl hl (by decide) rfl (fun ls hl => ?_)
    refine lv_aload_n hx hb dX12_goChoice_26 rfl (lv_at hl 1 rfl) ?_
    obtain ⟨r1, hcr1, h⟩ := bnd_some h
    refine gF_i (ws' := (rM E am r1.2 ++ [])) C hG (pin pnil) (List.Perm.symm (pin pnil)) (gR_V (As := []) (rest := []) C hz hl.1 hG (pin pnil) (c_X12_goSum l E am N mm hcr1 H.size) okX12_goSum q1766 0 rfl rfl rfl (Nat.le_of_ble_eq_true rfl) (by omega) ⟨Nat.le_refl _, Nat.le_refl _⟩ dX12_goChoice_27) (fun H locs _ hG => ?_)
    refine lv_istore_n (lv' := [(3, .int r1.1), (2, .int s0), (0, .ref (am 0)), (1, .int x1)]) hx hb dX12_goChoice_30 rfl hl (by decide) rfl (fun ls hl => ?_)
    refine lv_iload_n hx hb dX12_goChoice_31 rfl (lv_at hl 1 rfl) ?_
    refine lv_if_eq (tgt := 43) hx hb dX12_goChoice_32 (by decide) (fun c32 => ?_) (fun c32 => ?_)
    · replace h := it c32 h
      refine lv_iload_n hx hb dX12_goChoice_43 rfl (lv_at hl 3 rfl) ?_
      refine lv_iload_n hx hb dX12_goChoice_44 rfl (lv_at hl 0 rfl) ?_
      refine lv_icmp_ne (tgt := 56) hx hb dX12_goChoice_45 (by decide) (fun c45 => ?_) (fun c45 => ?_)
      · replace h := ie c45 h
        exact K56 r1.2 _ _ _ hG (lv_sub hl [2] rfl) h
      · replace h := it c45 h
        exact K48 r1.2 _ _ _ hG (lv_sub hl [2] rfl) h
    · replace h := ie c32 h
      refine lv_iload_n hx hb dX12_goChoice_35 rfl (lv_at hl 3 rfl) ?_
      refine lv_iload_n hx hb dX12_goChoice_36 rfl (lv_at hl 0 rfl) ?_
      refine lv_icmp_ge (tgt := 56) hx hb dX12_goChoice_37 (by decide) (fun c37 => ?_) (fun c37 => ?_)
      · replace h := it c37 h
        exact K56 r1.2 _ _ _ hG (lv_sub hl [2] rfl) h
      · replace h := ie c37 h
        refine lv_goto (tgt := 48) hx hb dX12_goChoice_40 (by decide) ?_
        exact K48 r1.2 _ _ _ hG (lv_sub hl [2] rfl) h
  rw [fX12_goChoice] at h
  refine lv_aload_n hx hb dX12_goChoice_0 rfl (lv_at hl 0 rfl) ?_
  obtain ⟨r1, hcr1, h⟩ := bnd_some h
  refine gF_i (ws' := (rM E am r1.2 ++ [])) C hG (pin pnil) (List.Perm.symm (pin pnil)) (gR_V (As := []) (rest := []) C hz hl.1 hG (pin pnil) (c_X12_goSum l E am N mm hcr1 H.size) okX12_goSum q1766 0 rfl rfl rfl (Nat.le_of_ble_eq_true rfl) (by omega) ⟨Nat.le_refl _, Nat.le_refl _⟩ dX12_goChoice_1) (fun H locs _ hG => ?_)
  refine lv_istore_n (lv' := [(1, .int r1.1), (0, .ref (am 0))]) hx hb dX12_goChoice_4 rfl hl (by decide) rfl (fun ls hl => ?_)
  refine lv_aload_n hx hb dX12_goChoice_5 rfl (lv_at hl 1 rfl) ?_
  refine lv_aload_n hx hb dX12_goChoice_6 rfl (lv_at hl 1 rfl) ?_
  refine gL_f (v := .int (r1.2 0 17)) C hG kX12 0 17 rfl (by decide) rfl q1369 rfl dX12_goChoice_7 ?_
  refine lv_iconst (v := 1) hx hb dX12_goChoice_10 (by decide) ?_
  refine lv_isub hx hb dX12_goChoice_11 ?_
  obtain ⟨r2, hcr2, h⟩ := bnd_some h
  refine gF_i (ws' := (rM E am r1.2 ++ [])) C hG (pin pnil) (List.Perm.symm (pin pnil)) (gR_V (As := [.int ((r1.2 0 17) - 1)]) (rest := []) C hz hl.1 hG (pin pnil) (c_X12_tokenAt l E am N ((r1.2 0 17) - 1) r1.2 hcr2 H.size) okX12_tokenAt q1738 0 rfl rfl rfl (Nat.le_of_ble_eq_true rfl) (by omega) ⟨Nat.le_refl _, Nat.le_refl _⟩ dX12_goChoice_12) (fun H locs _ hG => ?_)
  refine lv_bipush (v := 60) hx hb dX12_goChoice_15 (by decide) ?_
  refine lv_icmp_ne (tgt := 24) hx hb dX12_goChoice_17 (by decide) (fun c17 => ?_) (fun c17 => ?_)
  · replace h := ie c17 h
    refine lv_iconst (v := 0) hx hb dX12_goChoice_24 (by decide) ?_
    exact K25 r1.1 0 r1.2 _ _ _ hG (lv_sub hl [1, 0] rfl) h
  · replace h := it c17 h
    refine lv_iconst (v := 1) hx hb dX12_goChoice_20 (by decide) ?_
    refine lv_goto (tgt := 25) hx hb dX12_goChoice_21 (by decide) ?_
    exact K25 r1.1 1 r1.2 _ _ _ hG (lv_sub hl [1, 0] rfl) h
set_option maxHeartbeats 4000000 in
set_option maxRecDepth 100000 in
theorem c_X12_goAct (l : Launch) (E : GE) (am : Nat → Nat) (N : Nat) (x1 : Int32) (mm : RS) {res : RS} (h : fX12_goAct N x1 mm = some res) : gMv l E yX12_goAct cX12_goAct 4 9 0 0 [.ref (am 0), .int x1] (rM E am mm ++ []) (rM E am res ++ []) := by
  refine gMv_of (own := RX12) (by decide +kernel) rfl (Nat.le_of_ble_eq_true rfl) ?_
  intro p e s m args below meth c A ls Q H locs C hz hl hG hin hret
  have hx := C.1.1
  have hb := C.1.2.1
  have hts := C.1.2.2.2.2
  have hown := C.1.2.2.2.1
  have hl : lv_has ls 4 [(0, .ref (am 0)), (1, .int x1)] := hl
  replace hret : ∀ (mm0 : RS) (H : Heap) (locs : List Loc) (pc : Nat) (ls' : Array Slot), some mm0 = some res → gG E A s.heap (rM E am mm0 ++ []) H locs → decode cX12_goAct pc = .ok (.return_, 1) → W p l e (rmD 9 0 0) s m args below meth c H locs 0 0 Q (F0 m pc ls' []) := by
    intro mm0 H locs pc ls' e0; cases e0; exact hret H locs pc ls'
  have K43 : ∀  (mm : RS) (H : Heap) (locs : List Loc) (ls : Array Slot), gG E A s.heap (rM E am mm ++ []) H locs → lv_has ls 4 [(0, .ref (am 0))] → fX12_goAct_L43 N x1 mm = some res → W p l e (rmD 9 0 0) s m args below meth c H locs 0 0 Q (F0 m 43 ls []) := by
    intro mm H locs ls hG hl h
    rw [fX12_goAct_L43] at h
    refine lv_aload_n hx hb dX12_goAct_43 rfl (lv_at hl 0 rfl) ?_
    refine lv_dup hx hb dX12_goAct_44 rfl ?_
    refine gL_f (v := .int (mm 0 18)) C hG kX12 0 18 rfl (by decide) rfl q1370 rfl dX12_goAct_45 ?_
    refine lv_iconst (v := 1) hx hb dX12_goAct_48 (by decide) ?_
    refine lv_iadd hx hb dX12_goAct_49 ?_
    obtain ⟨mm_1, emm_1, h⟩ := thn_some h
    refine gS_f (v := .int ((mm 0 18) + 1)) (ws' := (rM E am mm_1 ++ [])) C hG kX12 0 18 rfl (by decide) q1370 rfl rfl rfl rfl (by show 18 < 27; decide) dX12_goAct_50 (by rw [emm_1]; rfl) (fun H locs hG => ?_)
    exact hret _ _ _ _ _ h hG dX12_goAct_53
  have K14 : ∀  (mm : RS) (H : Heap) (locs : List Loc) (ls : Array Slot), gG E A s.heap (rM E am mm ++ []) H locs → lv_has ls 4 [(0, .ref (am 0)), (1, .int x1)] → fX12_goAct_L14 N x1 mm = some res → W p l e (rmD 9 0 0) s m args below meth c H locs 0 0 Q (F0 m 14 ls []) := by
    intro mm H locs ls hG hl h
    rw [fX12_goAct_L14] at h
    refine lv_aload_n hx hb dX12_goAct_14 rfl (lv_at hl 0 rfl) ?_
    refine lv_dup hx hb dX12_goAct_15 rfl ?_
    refine gL_f (v := .int (mm 0 17)) C hG kX12 0 17 rfl (by decide) rfl q1369 rfl dX12_goAct_16 ?_
    refine lv_iconst (v := 1) hx hb dX12_goAct_19 (by decide) ?_
    refine lv_iadd hx hb dX12_goAct_20 ?_
    obtain ⟨mm_1, emm_1, h⟩ := thn_some h
    refine gS_f (v := .int ((mm 0 17) + 1)) (ws' := (rM E am mm_1 ++ [])) C hG kX12 0 17 rfl (by decide) q1369 rfl rfl rfl rfl (by show 17 < 27; decide) dX12_goAct_21 (by rw [emm_1]; rfl) (fun H locs hG => ?_)
    refine lv_iload_n hx hb dX12_goAct_24 rfl (lv_at hl 1 rfl) ?_
    refine lv_sipush (v := 203) hx hb dX12_goAct_25 (by decide) ?_
    refine lv_icmp_ne (tgt := 38) hx hb dX12_goAct_28 (by decide) (fun c28 => ?_) (fun c28 => ?_)
    · replace h := ie c28 h
      refine lv_aload_n hx hb dX12_goAct_38 rfl (lv_at hl 0 rfl) ?_
      obtain ⟨r2, hcr2, h⟩ := bnd_some h
      refine gF_i (ws' := (rM E am r2.2 ++ [])) C hG (pin pnil) (List.Perm.symm (pin pnil)) (gR_V (As := []) (rest := []) C hz hl.1 hG (pin pnil) (c_X12_crashNow l E am N mm_1 hcr2 H.size) okX12_crashNow q1726 0 rfl rfl rfl (Nat.le_of_ble_eq_true rfl) (by omega) ⟨Nat.le_refl _, Nat.le_refl _⟩ dX12_goAct_39) (fun H locs _ hG => ?_)
      refine lv_pop hx hb dX12_goAct_42 rfl ?_
      exact K43 r2.2 _ _ _ hG (lv_sub hl [0] rfl) h
    · replace h := it c28 h
      refine lv_aload_n hx hb dX12_goAct_31 rfl (lv_at hl 0 rfl) ?_
      obtain ⟨r3, hcr3, h⟩ := bnd_some h
      refine gF_v (ws' := (rM E am r3 ++ [])) C hG (pin pnil) (List.Perm.symm (pin pnil)) (gR_V (As := []) (rest := []) C hz hl.1 hG (pin pnil) (c_X12_tick l E am N mm_1 hcr3 H.size) okX12_tick q1642 0 rfl rfl rfl (Nat.le_of_ble_eq_true rfl) (by omega) ⟨Nat.le_refl _, Nat.le_refl _⟩ dX12_goAct_32) (fun H locs hG => ?_)
      refine lv_goto (tgt := 43) hx hb dX12_goAct_35 (by decide) ?_
      exact K43 r3 _ _ _ hG (lv_sub hl [0] rfl) h
  have K126 : ∀  (mm : RS) (H : Heap) (locs : List Loc) (ls : Array Slot), gG E A s.heap (rM E am mm ++ []) H locs → lv_has ls 4 [(0, .ref (am 0))] → fX12_goAct_L126 N x1 mm = some res → W p l e (rmD 9 0 0) s m args below meth c H locs 0 0 Q (F0 m 126 ls []) := by
    intro mm H locs ls hG hl h
    rw [fX12_goAct_L126] at h
    refine lv_aload_n hx hb dX12_goAct_126 rfl (lv_at hl 0 rfl) ?_
    refine lv_dup hx hb dX12_goAct_127 rfl ?_
    refine gL_f (v := .int (mm 0 18)) C hG kX12 0 18 rfl (by decide) rfl q1370 rfl dX12_goAct_128 ?_
    refine lv_iconst (v := 1) hx hb dX12_goAct_131 (by decide) ?_
    refine lv_iadd hx hb dX12_goAct_132 ?_
    obtain ⟨mm_1, emm_1, h⟩ := thn_some h
    refine gS_f (v := .int ((mm 0 18) + 1)) (ws' := (rM E am mm_1 ++ [])) C hG kX12 0 18 rfl (by decide) q1370 rfl rfl rfl rfl (by show 18 < 27; decide) dX12_goAct_133 (by rw [emm_1]; rfl) (fun H locs hG => ?_)
    exact hret _ _ _ _ _ h hG dX12_goAct_136
  rw [fX12_goAct] at h
  refine lv_iload_n hx hb dX12_goAct_0 rfl (lv_at hl 1 rfl) ?_
  refine lv_sipush (v := 203) hx hb dX12_goAct_1 (by decide) ?_
  refine lv_icmp_eq (tgt := 14) hx hb dX12_goAct_4 (by decide) (fun c4 => ?_) (fun c4 => ?_)
  · replace h := it c4 h
    exact K14 mm _ _ _ hG (lv_sub hl [0, 1] rfl) h
  · replace h := ie c4 h
    refine lv_iload_n hx hb dX12_goAct_7 rfl (lv_at hl 1 rfl) ?_
    refine lv_sipush (v := 204) hx hb dX12_goAct_8 (by decide) ?_
    refine lv_icmp_ne (tgt := 54) hx hb dX12_goAct_11 (by decide) (fun c11 => ?_) (fun c11 => ?_)
    · replace h := ie c11 h
      refine lv_aload_n hx hb dX12_goAct_54 rfl (lv_at hl 0 rfl) ?_
      obtain ⟨r1, hcr1, h⟩ := bnd_some h
      refine gF_i (ws' := (rM E am r1.2 ++ [])) C hG (pin pnil) (List.Perm.symm (pin pnil)) (gR_V (As := []) (rest := []) C hz hl.1 hG (pin pnil) (c_X12_goSum l E am N mm hcr1 H.size) okX12_goSum q1766 0 rfl rfl rfl (Nat.le_of_ble_eq_true rfl) (by omega) ⟨Nat.le_refl _, Nat.le_refl _⟩ dX12_goAct_55) (fun H locs _ hG => ?_)
      refine lv_bipush (v := 10) hx hb dX12_goAct_58 (by decide) ?_
      refine lv_irem hx hb dX12_goAct_60 (by decide) ?_
      refine g_int (v := (irem r1.1 10)) rfl ?_
      obtain ⟨x2_2, ex2_2, h⟩ := thn_some h
      refine g_int ex2_2 ?_
      refine lv_istore_n (lv' := [(2, .int x2_2), (0, .ref (am 0)), (1, .int x1)]) hx hb dX12_goAct_61 rfl hl (by decide) rfl (fun ls hl => ?_)
      refine lv_aload_n hx hb dX12_goAct_62 rfl (lv_at hl 1 rfl) ?_
      obtain ⟨r3, hcr3, h⟩ := bnd_some h
      refine gF_i (ws' := (rM E am r3.2 ++ [])) C hG (pin pnil) (List.Perm.symm (pin pnil)) (gR_V (As := []) (rest := []) C hz hl.1 hG (pin pnil) (c_X12_goSum l E am N r1.2 hcr3 H.size) okX12_goSum q1766 0 rfl rfl rfl (Nat.le_of_ble_eq_true rfl) (by omega) ⟨Nat.le_refl _, Nat.le_refl _⟩ dX12_goAct_63) (fun H locs _ hG => ?_)
      refine lv_istore_n (lv' := [(3, .int r3.1), (2, .int x2_2), (0, .ref (am 0)), (1, .int x1)]) hx hb dX12_goAct_66 rfl hl (by decide) rfl (fun ls hl => ?_)
      refine lv_iload_n hx hb dX12_goAct_67 rfl (lv_at hl 3 rfl) ?_
      refine lv_sipush (v := 202) hx hb dX12_goAct_68 (by decide) ?_
      refine lv_icmp_ne (tgt := 84) hx hb dX12_goAct_71 (by decide) (fun c71 => ?_) (fun c71 => ?_)
      · replace h := ie c71 h
        refine lv_iload_n hx hb dX12_goAct_84 rfl (lv_at hl 3 rfl) ?_
        refine lv_sipush (v := 200) hx hb dX12_goAct_85 (by decide) ?_
        refine lv_icmp_ne (tgt := 106) hx hb dX12_goAct_88 (by decide) (fun c88 => ?_) (fun c88 => ?_)
        · replace h := ie c88 h
          refine lv_aload_n hx hb dX12_goAct_106 rfl (lv_at hl 2 rfl) ?_
          refine lv_iload_n hx hb dX12_goAct_107 rfl (lv_at hl 1 rfl) ?_
          refine lv_iload_n hx hb dX12_goAct_108 rfl (lv_at hl 0 rfl) ?_
          refine lv_iload_n hx hb dX12_goAct_109 rfl (lv_at hl 1 rfl) ?_
          refine gF_i (ws' := (rM E am r3.2 ++ [])) C hG pst pst.symm (gR_S (As := [.int x2_2]) (rest := [.int r3.1, .int x2_2, .ref (am 0)]) C hz hl.1 hG pst (c_X12_sizeOf l E x2_2 rfl H.size) okX12_sizeOf q1536 rfl (Nat.le_of_ble_eq_true rfl) (by omega) ⟨Nat.le_refl _, Nat.le_refl _⟩ dX12_goAct_110) (fun H locs _ hG => ?_)
          obtain ⟨b4, h⟩ := ck_some h
          refine lv_irem hx hb dX12_goAct_113 (nz_ne b4) ?_
          refine g_int (v := (irem r3.1 (fX12_sizeOf x2_2))) rfl ?_
          refine lv_aload_n hx hb dX12_goAct_114 rfl (lv_at hl 2 rfl) ?_
          obtain ⟨r5, hcr5, h⟩ := bnd_some h
          refine gF_i (ws' := (rM E am r5.2 ++ [])) C hG (pin pnil) (List.Perm.symm (pin pnil)) (gR_V (As := []) (rest := [.int (irem r3.1 (fX12_sizeOf x2_2)), .int x2_2, .ref (am 0)]) C hz hl.1 hG (pin pnil) (c_X12_goSum l E am N r3.2 hcr5 H.size) okX12_goSum q1766 0 rfl rfl rfl (Nat.le_of_ble_eq_true rfl) (by omega) ⟨Nat.le_refl _, Nat.le_refl _⟩ dX12_goAct_115) (fun H locs _ hG => ?_)
          refine lv_sipush (v := 1000) hx hb dX12_goAct_118 (by decide) ?_
          refine lv_irem hx hb dX12_goAct_121 (by decide) ?_
          refine g_int (v := (irem r5.1 1000)) rfl ?_
          obtain ⟨r6, hcr6, h⟩ := bnd_some h
          refine gF_i (ws' := (rM E am r6.2 ++ [])) C hG (pin pnil) (List.Perm.symm (pin pnil)) (gR_V (As := [.int x2_2, .int (irem r3.1 (fX12_sizeOf x2_2)), .int (irem r5.1 1000)]) (rest := []) C hz hl.1 hG (pin pnil) (c_X12_writeNow l E am N x2_2 (irem r3.1 (fX12_sizeOf x2_2)) (irem r5.1 1000) r5.2 hcr6 H.size) okX12_writeNow q1578 0 rfl rfl rfl (Nat.le_of_ble_eq_true rfl) (by omega) ⟨Nat.le_refl _, Nat.le_refl _⟩ dX12_goAct_122) (fun H locs _ hG => ?_)
          refine lv_pop hx hb dX12_goAct_125 rfl ?_
          exact K126 r6.2 _ _ _ hG (lv_sub hl [2] rfl) h
        · replace h := it c88 h
          refine lv_aload_n hx hb dX12_goAct_91 rfl (lv_at hl 2 rfl) ?_
          refine lv_iload_n hx hb dX12_goAct_92 rfl (lv_at hl 1 rfl) ?_
          refine lv_iload_n hx hb dX12_goAct_93 rfl (lv_at hl 0 rfl) ?_
          refine lv_iload_n hx hb dX12_goAct_94 rfl (lv_at hl 1 rfl) ?_
          refine gF_i (ws' := (rM E am r3.2 ++ [])) C hG pst pst.symm (gR_S (As := [.int x2_2]) (rest := [.int r3.1, .int x2_2, .ref (am 0)]) C hz hl.1 hG pst (c_X12_sizeOf l E x2_2 rfl H.size) okX12_sizeOf q1536 rfl (Nat.le_of_ble_eq_true rfl) (by omega) ⟨Nat.le_refl _, Nat.le_refl _⟩ dX12_goAct_95) (fun H locs _ hG => ?_)
          obtain ⟨b7, h⟩ := ck_some h
          refine lv_irem hx hb dX12_goAct_98 (nz_ne b7) ?_
          refine g_int (v := (irem r3.1 (fX12_sizeOf x2_2))) rfl ?_
          obtain ⟨r8, hcr8, h⟩ := bnd_some h
          refine gF_i (ws' := (rM E am r8.2 ++ [])) C hG (pin pnil) (List.Perm.symm (pin pnil)) (gR_V (As := [.int x2_2, .int (irem r3.1 (fX12_sizeOf x2_2))]) (rest := []) C hz hl.1 hG (pin pnil) (c_X12_readNow l E am N x2_2 (irem r3.1 (fX12_sizeOf x2_2)) r3.2 hcr8 H.size) okX12_readNow q1543 0 rfl rfl rfl (Nat.le_of_ble_eq_true rfl) (by omega) ⟨Nat.le_refl _, Nat.le_refl _⟩ dX12_goAct_99) (fun H locs _ hG => ?_)
          refine lv_pop hx hb dX12_goAct_102 rfl ?_
          refine lv_goto (tgt := 126) hx hb dX12_goAct_103 (by decide) ?_
          exact K126 r8.2 _ _ _ hG (lv_sub hl [2] rfl) h
      · replace h := it c71 h
        refine lv_aload_n hx hb dX12_goAct_74 rfl (lv_at hl 2 rfl) ?_
        refine lv_iload_n hx hb dX12_goAct_75 rfl (lv_at hl 1 rfl) ?_
        refine lv_iload_n hx hb dX12_goAct_76 rfl (lv_at hl 0 rfl) ?_
        refine lv_bipush (v := 10) hx hb dX12_goAct_77 (by decide) ?_
        refine lv_irem hx hb dX12_goAct_79 (by decide) ?_
        refine g_int (v := (irem r3.1 10)) rfl ?_
        obtain ⟨r9, hcr9, h⟩ := bnd_some h
        refine gF_v (ws' := (rM E am r9 ++ [])) C hG (pin pnil) (List.Perm.symm (pin pnil)) (gR_V (As := [.int x2_2, .int (irem r3.1 10)]) (rest := []) C hz hl.1 hG (pin pnil) (c_X12_goScan l E am N x2_2 (irem r3.1 10) r3.2 hcr9 H.size) okX12_goScan q1786 0 rfl rfl rfl (Nat.le_of_ble_eq_true rfl) (by omega) ⟨Nat.le_refl _, Nat.le_refl _⟩ dX12_goAct_80) (fun H locs hG => ?_)
        exact hret _ _ _ _ _ h hG dX12_goAct_83
    · replace h := it c11 h
      exact K14 mm _ _ _ hG (lv_sub hl [0, 1] rfl) h
set_option maxHeartbeats 4000000 in
set_option maxRecDepth 100000 in
theorem c_X12_goStatement (l : Launch) (E : GE) (am : Nat → Nat) (N : Nat) (mm : RS) {res : RS} (h : fX12_goStatement N mm = some res) : gMv l E yX12_goStatement cX12_goStatement 3 10 0 0 [.ref (am 0)] (rM E am mm ++ []) (rM E am res ++ []) := by
  refine gMv_of (own := RX12) (by decide +kernel) rfl (Nat.le_of_ble_eq_true rfl) ?_
  intro p e s m args below meth c A ls Q H locs C hz hl hG hin hret
  have hx := C.1.1
  have hb := C.1.2.1
  have hts := C.1.2.2.2.2
  have hown := C.1.2.2.2.1
  have hl : lv_has ls 3 [(0, .ref (am 0))] := hl
  replace hret : ∀ (mm0 : RS) (H : Heap) (locs : List Loc) (pc : Nat) (ls' : Array Slot), some mm0 = some res → gG E A s.heap (rM E am mm0 ++ []) H locs → decode cX12_goStatement pc = .ok (.return_, 1) → W p l e (rmD 10 0 0) s m args below meth c H locs 0 0 Q (F0 m pc ls' []) := by
    intro mm0 H locs pc ls' e0; cases e0; exact hret H locs pc ls'
  rw [fX12_goStatement] at h
  refine lv_aload_n hx hb dX12_goStatement_0 rfl (lv_at hl 0 rfl) ?_
  refine lv_aload_n hx hb dX12_goStatement_1 rfl (lv_at hl 0 rfl) ?_
  refine gL_f (v := .int (mm 0 17)) C hG kX12 0 17 rfl (by decide) rfl q1369 rfl dX12_goStatement_2 ?_
  obtain ⟨r1, hcr1, h⟩ := bnd_some h
  refine gF_i (ws' := (rM E am mm ++ [])) C hG (pin pnil) (List.Perm.symm (pin pnil)) (gR_V (As := [.int (mm 0 17)]) (rest := []) C hz hl.1 hG (pin pnil) (c_X12_tokenAt l E am N (mm 0 17) mm hcr1 H.size) okX12_tokenAt q1738 0 rfl rfl rfl (Nat.le_of_ble_eq_true rfl) (by omega) ⟨Nat.le_refl _, Nat.le_refl _⟩ dX12_goStatement_5) (fun H locs _ hG => ?_)
  refine lv_istore_n (lv' := [(1, .int r1), (0, .ref (am 0))]) hx hb dX12_goStatement_8 rfl hl (by decide) rfl (fun ls hl => ?_)
  refine lv_iload_n hx hb dX12_goStatement_9 rfl (lv_at hl 0 rfl) ?_
  refine lv_bipush (v := 125) hx hb dX12_goStatement_10 (by decide) ?_
  refine lv_icmp_ne (tgt := 20) hx hb dX12_goStatement_12 (by decide) (fun c12 => ?_) (fun c12 => ?_)
  · replace h := ie c12 h
    refine lv_aload_n hx hb dX12_goStatement_20 rfl (lv_at hl 1 rfl) ?_
    refine lv_dup hx hb dX12_goStatement_21 rfl ?_
    refine gL_f (v := .int (mm 0 17)) C hG kX12 0 17 rfl (by decide) rfl q1369 rfl dX12_goStatement_22 ?_
    refine lv_iconst (v := 1) hx hb dX12_goStatement_25 (by decide) ?_
    refine lv_iadd hx hb dX12_goStatement_26 ?_
    obtain ⟨mm_2, emm_2, h⟩ := thn_some h
    refine gS_f (v := .int ((mm 0 17) + 1)) (ws' := (rM E am mm_2 ++ [])) C hG kX12 0 17 rfl (by decide) q1369 rfl rfl rfl rfl (by show 17 < 27; decide) dX12_goStatement_27 (by rw [emm_2]; rfl) (fun H locs hG => ?_)
    refine lv_iload_n hx hb dX12_goStatement_30 rfl (lv_at hl 0 rfl) ?_
    refine lv_sipush (v := 205) hx hb dX12_goStatement_31 (by decide) ?_
    refine lv_icmp_ne (tgt := 64) hx hb dX12_goStatement_34 (by decide) (fun c34 => ?_) (fun c34 => ?_)
    · replace h := ie c34 h
      refine lv_iload_n hx hb dX12_goStatement_64 rfl (lv_at hl 0 rfl) ?_
      refine lv_sipush (v := 206) hx hb dX12_goStatement_65 (by decide) ?_
      refine lv_icmp_ne (tgt := 78) hx hb dX12_goStatement_68 (by decide) (fun c68 => ?_) (fun c68 => ?_)
      · replace h := ie c68 h
        refine lv_aload_n hx hb dX12_goStatement_78 rfl (lv_at hl 1 rfl) ?_
        refine lv_iload_n hx hb dX12_goStatement_79 rfl (lv_at hl 0 rfl) ?_
        obtain ⟨r3, hcr3, h⟩ := bnd_some h
        refine gF_v (ws' := (rM E am r3 ++ [])) C hG (pin pnil) (List.Perm.symm (pin pnil)) (gR_V (As := [.int r1]) (rest := []) C hz hl.1 hG (pin pnil) (c_X12_goAct l E am N r1 mm_2 hcr3 H.size) okX12_goAct q1782 0 rfl rfl rfl (Nat.le_of_ble_eq_true rfl) (by omega) ⟨Nat.le_refl _, Nat.le_refl _⟩ dX12_goStatement_80) (fun H locs hG => ?_)
        exact hret _ _ _ _ _ h hG dX12_goStatement_83
      · replace h := it c68 h
        refine lv_aload_n hx hb dX12_goStatement_71 rfl (lv_at hl 1 rfl) ?_
        obtain ⟨r4, hcr4, h⟩ := bnd_some h
        refine gF_v (ws' := (rM E am r4 ++ [])) C hG (pin pnil) (List.Perm.symm (pin pnil)) (gR_V (As := []) (rest := []) C hz hl.1 hG (pin pnil) (c_X12_goChoice l E am N mm_2 hcr4 H.size) okX12_goChoice q1762 0 rfl rfl rfl (Nat.le_of_ble_eq_true rfl) (by omega) ⟨Nat.le_refl _, Nat.le_refl _⟩ dX12_goStatement_72) (fun H locs hG => ?_)
        refine lv_goto (tgt := 83) hx hb dX12_goStatement_75 (by decide) ?_
        exact hret _ _ _ _ _ h hG dX12_goStatement_83
    · replace h := it c34 h
      refine lv_aload_n hx hb dX12_goStatement_37 rfl (lv_at hl 1 rfl) ?_
      refine lv_aload_n hx hb dX12_goStatement_38 rfl (lv_at hl 1 rfl) ?_
      refine gL_f (v := .int (mm_2 0 17)) C hG kX12 0 17 rfl (by decide) rfl q1369 rfl dX12_goStatement_39 ?_
      obtain ⟨r5, hcr5, h⟩ := bnd_some h
      refine gF_i (ws' := (rM E am mm_2 ++ [])) C hG (pin pnil) (List.Perm.symm (pin pnil)) (gR_V (As := [.int (mm_2 0 17)]) (rest := []) C hz hl.1 hG (pin pnil) (c_X12_numberAt l E am N (mm_2 0 17) mm_2 hcr5 H.size) okX12_numberAt q1754 0 rfl rfl rfl (Nat.le_of_ble_eq_true rfl) (by omega) ⟨Nat.le_refl _, Nat.le_refl _⟩ dX12_goStatement_42) (fun H locs _ hG => ?_)
      refine lv_istore_n (lv' := [(2, .int r5), (1, .int r1), (0, .ref (am 0))]) hx hb dX12_goStatement_45 rfl hl (by decide) rfl (fun ls hl => ?_)
      refine lv_aload_n hx hb dX12_goStatement_46 rfl (lv_at hl 2 rfl) ?_
      refine lv_dup hx hb dX12_goStatement_47 rfl ?_
      refine gL_f (v := .int (mm_2 0 17)) C hG kX12 0 17 rfl (by decide) rfl q1369 rfl dX12_goStatement_48 ?_
      refine lv_iconst (v := 1) hx hb dX12_goStatement_51 (by decide) ?_
      refine lv_iadd hx hb dX12_goStatement_52 ?_
      obtain ⟨mm_6, emm_6, h⟩ := thn_some h
      refine gS_f (v := .int ((mm_2 0 17) + 1)) (ws' := (rM E am mm_6 ++ [])) C hG kX12 0 17 rfl (by decide) q1369 rfl rfl rfl rfl (by show 17 < 27; decide) dX12_goStatement_53 (by rw [emm_6]; rfl) (fun H locs hG => ?_)
      refine lv_aload_n hx hb dX12_goStatement_56 rfl (lv_at hl 2 rfl) ?_
      refine lv_iload_n hx hb dX12_goStatement_57 rfl (lv_at hl 0 rfl) ?_
      obtain ⟨r7, hcr7, h⟩ := bnd_some h
      refine gF_v (ws' := (rM E am r7 ++ [])) C hG (pin pnil) (List.Perm.symm (pin pnil)) (gR_V (As := [.int r5]) (rest := []) C hz hl.1 hG (pin pnil) (c_X12_goInto l E am N r5 mm_6 hcr7 H.size) okX12_goInto q1758 0 rfl rfl rfl (Nat.le_of_ble_eq_true rfl) (by omega) ⟨Nat.le_refl _, Nat.le_refl _⟩ dX12_goStatement_58) (fun H locs hG => ?_)
      refine lv_goto (tgt := 83) hx hb dX12_goStatement_61 (by decide) ?_
      exact hret _ _ _ _ _ h hG dX12_goStatement_83
  · replace h := it c12 h
    refine lv_aload_n hx hb dX12_goStatement_15 rfl (lv_at hl 1 rfl) ?_
    obtain ⟨r8, hcr8, h⟩ := bnd_some h
    refine gF_v (ws' := (rM E am r8 ++ [])) C hG (pin pnil) (List.Perm.symm (pin pnil)) (gR_V (As := []) (rest := []) C hz hl.1 hG (pin pnil) (c_X12_goAround l E am N mm hcr8 H.size) okX12_goAround q1750 0 rfl rfl rfl (Nat.le_of_ble_eq_true rfl) (by omega) ⟨Nat.le_refl _, Nat.le_refl _⟩ dX12_goStatement_16) (fun H locs hG => ?_)
    exact hret _ _ _ _ _ h hG dX12_goStatement_19
set_option maxHeartbeats 4000000 in
set_option maxRecDepth 100000 in
theorem c_X12_goText (l : Launch) (E : GE) (am : Nat → Nat) (N : Nat) (x1 : Int32) (mm : RS) {res : Int32 × RS} (h : fX12_goText N x1 mm = some res) : gMi l E yX12_goText cX12_goText 2 .int 11 0 0 [.ref (am 0), .int x1] (rM E am mm ++ []) (rM E am res.2 ++ []) res.1 := by
  refine gMi_of (own := RX12) (by decide +kernel) rfl (Nat.le_of_ble_eq_true rfl) ?_
  intro p e s m args below meth c A ls Q H locs C hz hl hG hret
  have hx := C.1.1
  have hb := C.1.2.1
  have hts := C.1.2.2.2.2
  have hown := C.1.2.2.2.1
  have hl : lv_has ls 2 [(0, .ref (am 0)), (1, .int x1)] := hl
  replace hret : ∀ (r0 : Int32) (mm0 : RS) (H : Heap) (locs : List Loc) (pc : Nat) (ls' : Array Slot), some (r0, mm0) = some res → narrow .int (.int r0) = .int r0 → gG E A s.heap (rM E am mm0 ++ []) H locs → decode cX12_goText pc = .ok (.ireturn, 1) → W p l e (rmD 11 0 0) s m args below meth c H locs 0 0 Q (F0 m pc ls' [.int r0]) := by
    intro r0 mm0 H locs pc ls' e0 hn; cases e0; exact hret H locs pc ls' hn
  have K29 : ∀ (k : Nat), ∀  (mm : RS) (H : Heap) (locs : List Loc) (ls : Array Slot), gG E A s.heap (rM E am mm ++ []) H locs → lv_has ls 2 [(0, .ref (am 0))] → fX12_goText_L29 N x1 k mm = some res → W p l e (rmD 11 0 0) s m args below meth c H locs 0 0 Q (F0 m 29 ls []) := by
    intro k
    induction k with
    | zero => intro mm H locs ls hG hl h; exact absurd (show none = _ from h) (by simp)
    | succ k ih =>
      intro mm H locs ls hG hl h
      rw [fX12_goText_L29] at h
      refine lv_aload_n hx hb dX12_goText_29 rfl (lv_at hl 0 rfl) ?_
      refine lv_aload_n hx hb dX12_goText_30 rfl (lv_at hl 0 rfl) ?_
      refine gL_f (v := .int (mm 0 17)) C hG kX12 0 17 rfl (by decide) rfl q1369 rfl dX12_goText_31 ?_
      obtain ⟨r1, hcr1, h⟩ := bnd_some h
      refine gF_i (ws' := (rM E am mm ++ [])) C hG (pin pnil) (List.Perm.symm (pin pnil)) (gR_V (As := [.int (mm 0 17)]) (rest := []) C hz hl.1 hG (pin pnil) (c_X12_tokenAt l E am N (mm 0 17) mm hcr1 H.size) okX12_tokenAt q1738 0 rfl rfl rfl (Nat.le_of_ble_eq_true rfl) (by omega) ⟨Nat.le_refl _, Nat.le_refl _⟩ dX12_goText_34) (fun H locs _ hG => ?_)
      refine lv_if_eq (tgt := 54) hx hb dX12_goText_37 (by decide) (fun c37 => ?_) (fun c37 => ?_)
      · replace h := it c37 h
        refine lv_aload_n hx hb dX12_goText_54 rfl (lv_at hl 0 rfl) ?_
        refine gL_f (v := .int (mm 0 18)) C hG kX12 0 18 rfl (by decide) rfl q1370 rfl dX12_goText_55 ?_
        exact hret _ _ _ _ _ _ h rfl hG dX12_goText_58
      · replace h := ie c37 h
        refine lv_aload_n hx hb dX12_goText_40 rfl (lv_at hl 0 rfl) ?_
        refine gF_i (ws' := (rM E am mm ++ [])) C hG (pin pnil) (List.Perm.symm (pin pnil)) (gR_V (As := []) (rest := []) C hz hl.1 hG (pin pnil) (c_X12_isOver l E am mm rfl H.size) okX12_isOver q1742 0 rfl rfl rfl (Nat.le_of_ble_eq_true rfl) (by omega) ⟨Nat.le_refl _, Nat.le_refl _⟩ dX12_goText_41) (fun H locs z2 hG => ?_)
        refine lv_if_ne (tgt := 54) hx hb dX12_goText_44 (by decide) (fun c44 => ?_) (fun c44 => ?_)
        · replace h := ie c44 h
          refine lv_aload_n hx hb dX12_goText_54 rfl (lv_at hl 0 rfl) ?_
          refine gL_f (v := .int (mm 0 18)) C hG kX12 0 18 rfl (by decide) rfl q1370 rfl dX12_goText_55 ?_
          exact hret _ _ _ _ _ _ h rfl hG dX12_goText_58
        · replace h := it c44 h
          refine lv_aload_n hx hb dX12_goText_47 rfl (lv_at hl 0 rfl) ?_
          obtain ⟨r3, hcr3, h⟩ := bnd_some h
          refine gF_v (ws' := (rM E am r3 ++ [])) C hG (pin pnil) (List.Perm.symm (pin pnil)) (gR_V (As := []) (rest := []) C hz hl.1 hG (pin pnil) (c_X12_goStatement l E am N mm hcr3 H.size) okX12_goStatement q1746 0 rfl rfl rfl (Nat.le_of_ble_eq_true rfl) (by omega) ⟨Nat.le_refl _, Nat.le_refl _⟩ dX12_goText_48) (fun H locs hG => ?_)
          refine lv_goto (tgt := 29) hx hb dX12_goText_51 (by decide) ?_
          exact ih r3 _ _ _ hG (lv_sub hl [0] rfl) h
  rw [fX12_goText] at h
  refine lv_aload_n hx hb dX12_goText_0 rfl (lv_at hl 0 rfl) ?_
  refine lv_sipush (v := 602) hx hb dX12_goText_1 (by decide) ?_
  refine lv_iload_n hx hb dX12_goText_4 rfl (lv_at hl 1 rfl) ?_
  refine lv_imul hx hb dX12_goText_5 ?_
  obtain ⟨mm_1, emm_1, h⟩ := thn_some h
  refine gS_f (v := .int (602 * x1)) (ws' := (rM E am mm_1 ++ [])) C hG kX12 0 11 rfl (by decide) q1363 rfl rfl rfl rfl (by show 11 < 27; decide) dX12_goText_6 (by rw [emm_1]; rfl) (fun H locs hG => ?_)
  refine lv_aload_n hx hb dX12_goText_9 rfl (lv_at hl 0 rfl) ?_
  refine lv_iconst (v := 0) hx hb dX12_goText_10 (by decide) ?_
  obtain ⟨mm_2, emm_2, h⟩ := thn_some h
  refine gS_f (v := .int 0) (ws' := (rM E am mm_2 ++ [])) C hG kX12 0 17 rfl (by decide) q1369 rfl rfl rfl rfl (by show 17 < 27; decide) dX12_goText_11 (by rw [emm_2]; rfl) (fun H locs hG => ?_)
  refine lv_aload_n hx hb dX12_goText_14 rfl (lv_at hl 0 rfl) ?_
  refine lv_iconst (v := 0) hx hb dX12_goText_15 (by decide) ?_
  obtain ⟨mm_3, emm_3, h⟩ := thn_some h
  refine gS_f (v := .int 0) (ws' := (rM E am mm_3 ++ [])) C hG kX12 0 18 rfl (by decide) q1370 rfl rfl rfl rfl (by show 18 < 27; decide) dX12_goText_16 (by rw [emm_3]; rfl) (fun H locs hG => ?_)
  refine lv_aload_n hx hb dX12_goText_19 rfl (lv_at hl 0 rfl) ?_
  refine lv_iconst (v := 0) hx hb dX12_goText_20 (by decide) ?_
  obtain ⟨mm_4, emm_4, h⟩ := thn_some h
  refine gS_f (v := .int 0) (ws' := (rM E am mm_4 ++ [])) C hG kX12 0 14 rfl (by decide) q1366 rfl rfl rfl rfl (by show 14 < 27; decide) dX12_goText_21 (by rw [emm_4]; rfl) (fun H locs hG => ?_)
  refine lv_aload_n hx hb dX12_goText_24 rfl (lv_at hl 0 rfl) ?_
  refine lv_iconst (v := 0) hx hb dX12_goText_25 (by decide) ?_
  obtain ⟨mm_5, emm_5, h⟩ := thn_some h
  refine gS_f (v := .int 0) (ws' := (rM E am mm_5 ++ [])) C hG kX12 0 15 rfl (by decide) q1367 rfl rfl rfl rfl (by show 15 < 27; decide) dX12_goText_26 (by rw [emm_5]; rfl) (fun H locs hG => ?_)
  exact K29 N mm_5 _ _ _ hG (lv_sub hl [0] rfl) h
set_option maxHeartbeats 4000000 in
set_option maxRecDepth 100000 in
theorem c_X12_putAside (l : Launch) (E : GE) (am : Nat → Nat) (N : Nat) (mm : RS) {res : RS} (h : fX12_putAside N mm = some res) : gMv l E yX12_putAside cX12_putAside 2 1 0 0 [.ref (am 0)] (rM E am mm ++ []) (rM E am res ++ []) := by
  refine gMv_of (own := RX12) (by decide +kernel) rfl (Nat.le_of_ble_eq_true rfl) ?_
  intro p e s m args below meth c A ls Q H locs C hz hl hG hin hret
  have hx := C.1.1
  have hb := C.1.2.1
  have hts := C.1.2.2.2.2
  have hown := C.1.2.2.2.1
  have hl : lv_has ls 2 [(0, .ref (am 0))] := hl
  replace hret : ∀ (mm0 : RS) (H : Heap) (locs : List Loc) (pc : Nat) (ls' : Array Slot), some mm0 = some res → gG E A s.heap (rM E am mm0 ++ []) H locs → decode cX12_putAside pc = .ok (.return_, 1) → W p l e (rmD 1 0 0) s m args below meth c H locs 0 0 Q (F0 m pc ls' []) := by
    intro mm0 H locs pc ls' e0; cases e0; exact hret H locs pc ls'
  have K2 : ∀ (k : Nat), ∀  (x1 : Int32) (mm : RS) (H : Heap) (locs : List Loc) (ls : Array Slot), gG E A s.heap (rM E am mm ++ []) H locs → lv_has ls 2 [(0, .ref (am 0)), (1, .int x1)] → fX12_putAside_L2 N k x1 mm = some res → W p l e (rmD 1 0 0) s m args below meth c H locs 0 0 Q (F0 m 2 ls []) := by
    intro k
    induction k with
    | zero => intro x1 mm H locs ls hG hl h; exact absurd (show none = _ from h) (by simp)
    | succ k ih =>
      intro x1 mm H locs ls hG hl h
      rw [fX12_putAside_L2] at h
      refine lv_iload_n hx hb dX12_putAside_2 rfl (lv_at hl 1 rfl) ?_
      refine lv_sipush (v := 347) hx hb dX12_putAside_3 (by decide) ?_
      refine lv_icmp_ge (tgt := 29) hx hb dX12_putAside_6 (by decide) (fun c6 => ?_) (fun c6 => ?_)
      · replace h := it c6 h
        exact hret _ _ _ _ _ h hG dX12_putAside_29
      · replace h := ie c6 h
        refine lv_aload_n hx hb dX12_putAside_9 rfl (lv_at hl 0 rfl) ?_
        refine gL_f (v := .ref (am 10)) C hG kX12 0 22 rfl (by decide) rfl q1374 rfl dX12_putAside_10 ?_
        refine lv_iload_n hx hb dX12_putAside_13 rfl (lv_at hl 1 rfl) ?_
        refine lv_aload_n hx hb dX12_putAside_14 rfl (lv_at hl 0 rfl) ?_
        refine gL_f (v := .ref (am 1)) C hG kX12 0 0 rfl (by decide) rfl q1352 rfl dX12_putAside_15 ?_
        refine lv_iconst (v := 3) hx hb dX12_putAside_18 (by decide) ?_
        refine lv_iload_n hx hb dX12_putAside_19 rfl (lv_at hl 1 rfl) ?_
        refine lv_iadd hx hb dX12_putAside_20 ?_
        obtain ⟨b1, h⟩ := ck_some h
        refine gL_i (v := (mm 1 (3 + x1).toNatClampNeg)) C hG 1 rfl (inb_in b1) rfl dX12_putAside_21 ?_
        obtain ⟨b2, h⟩ := ck_some h
        obtain ⟨mm_3, emm_3, h⟩ := thn_some h
        refine gS_i (x := (mm 1 (3 + x1).toNatClampNeg)) (ws' := (rM E am mm_3 ++ [])) C hG 10 rfl (inb_in b2) rfl dX12_putAside_22 (by rw [emm_3]; rfl) (fun H locs hG => ?_)
        refine lv_iinc (v := (x1 + 1)) (lv' := [(1, .int (x1 + 1)), (0, .ref (am 0))]) hx hb dX12_putAside_23 hl (k := 1) rfl (congrArg (x1 + ·) (by decide : Int32.ofInt 1 = 1)) (by decide) rfl (fun ls hl => ?_)
        refine lv_goto (tgt := 2) hx hb dX12_putAside_26 (by decide) ?_
        exact ih (x1 + 1) mm_3 _ _ _ hG (lv_sub hl [1, 0] rfl) h
  rw [fX12_putAside] at h
  refine lv_iconst (v := 0) hx hb dX12_putAside_0 (by decide) ?_
  refine lv_istore_n (lv' := [(1, .int 0), (0, .ref (am 0))]) hx hb dX12_putAside_1 rfl hl (by decide) rfl (fun ls hl => ?_)
  exact K2 N 0 mm _ _ _ hG (lv_sub hl [1, 0] rfl) h
set_option maxHeartbeats 4000000 in
set_option maxRecDepth 100000 in
theorem c_X12_bringBack (l : Launch) (E : GE) (am : Nat → Nat) (N : Nat) (mm : RS) {res : RS} (h : fX12_bringBack N mm = some res) : gMv l E yX12_bringBack cX12_bringBack 2 1 0 0 [.ref (am 0)] (rM E am mm ++ []) (rM E am res ++ []) := by
  refine gMv_of (own := RX12) (by decide +kernel) rfl (Nat.le_of_ble_eq_true rfl) ?_
  intro p e s m args below meth c A ls Q H locs C hz hl hG hin hret
  have hx := C.1.1
  have hb := C.1.2.1
  have hts := C.1.2.2.2.2
  have hown := C.1.2.2.2.1
  have hl : lv_has ls 2 [(0, .ref (am 0))] := hl
  replace hret : ∀ (mm0 : RS) (H : Heap) (locs : List Loc) (pc : Nat) (ls' : Array Slot), some mm0 = some res → gG E A s.heap (rM E am mm0 ++ []) H locs → decode cX12_bringBack pc = .ok (.return_, 1) → W p l e (rmD 1 0 0) s m args below meth c H locs 0 0 Q (F0 m pc ls' []) := by
    intro mm0 H locs pc ls' e0; cases e0; exact hret H locs pc ls'
  have K2 : ∀ (k : Nat), ∀  (x1 : Int32) (mm : RS) (H : Heap) (locs : List Loc) (ls : Array Slot), gG E A s.heap (rM E am mm ++ []) H locs → lv_has ls 2 [(0, .ref (am 0)), (1, .int x1)] → fX12_bringBack_L2 N k x1 mm = some res → W p l e (rmD 1 0 0) s m args below meth c H locs 0 0 Q (F0 m 2 ls []) := by
    intro k
    induction k with
    | zero => intro x1 mm H locs ls hG hl h; exact absurd (show none = _ from h) (by simp)
    | succ k ih =>
      intro x1 mm H locs ls hG hl h
      rw [fX12_bringBack_L2] at h
      refine lv_iload_n hx hb dX12_bringBack_2 rfl (lv_at hl 1 rfl) ?_
      refine lv_sipush (v := 347) hx hb dX12_bringBack_3 (by decide) ?_
      refine lv_icmp_ge (tgt := 29) hx hb dX12_bringBack_6 (by decide) (fun c6 => ?_) (fun c6 => ?_)
      · replace h := it c6 h
        exact hret _ _ _ _ _ h hG dX12_bringBack_29
      · replace h := ie c6 h
        refine lv_aload_n hx hb dX12_bringBack_9 rfl (lv_at hl 0 rfl) ?_
        refine gL_f (v := .ref (am 1)) C hG kX12 0 0 rfl (by decide) rfl q1352 rfl dX12_bringBack_10 ?_
        refine lv_iconst (v := 3) hx hb dX12_bringBack_13 (by decide) ?_
        refine lv_iload_n hx hb dX12_bringBack_14 rfl (lv_at hl 1 rfl) ?_
        refine lv_iadd hx hb dX12_bringBack_15 ?_
        refine lv_aload_n hx hb dX12_bringBack_16 rfl (lv_at hl 0 rfl) ?_
        refine gL_f (v := .ref (am 10)) C hG kX12 0 22 rfl (by decide) rfl q1374 rfl dX12_bringBack_17 ?_
        refine lv_iload_n hx hb dX12_bringBack_20 rfl (lv_at hl 1 rfl) ?_
        obtain ⟨b1, h⟩ := ck_some h
        refine gL_i (v := (mm 10 x1.toNatClampNeg)) C hG 10 rfl (inb_in b1) rfl dX12_bringBack_21 ?_
        obtain ⟨b2, h⟩ := ck_some h
        obtain ⟨mm_3, emm_3, h⟩ := thn_some h
        refine gS_i (x := (mm 10 x1.toNatClampNeg)) (ws' := (rM E am mm_3 ++ [])) C hG 1 rfl (inb_in b2) rfl dX12_bringBack_22 (by rw [emm_3]; rfl) (fun H locs hG => ?_)
        refine lv_iinc (v := (x1 + 1)) (lv' := [(1, .int (x1 + 1)), (0, .ref (am 0))]) hx hb dX12_bringBack_23 hl (k := 1) rfl (congrArg (x1 + ·) (by decide : Int32.ofInt 1 = 1)) (by decide) rfl (fun ls hl => ?_)
        refine lv_goto (tgt := 2) hx hb dX12_bringBack_26 (by decide) ?_
        exact ih (x1 + 1) mm_3 _ _ _ hG (lv_sub hl [1, 0] rfl) h
  rw [fX12_bringBack] at h
  refine lv_iconst (v := 0) hx hb dX12_bringBack_0 (by decide) ?_
  refine lv_istore_n (lv' := [(1, .int 0), (0, .ref (am 0))]) hx hb dX12_bringBack_1 rfl hl (by decide) rfl (fun ls hl => ?_)
  exact K2 N 0 mm _ _ _ hG (lv_sub hl [1, 0] rfl) h
set_option maxHeartbeats 4000000 in
set_option maxRecDepth 100000 in
theorem c_X12_stepAt (l : Launch) (E : GE) (x0 : Int32) (x1 : Int32) {res : Int32} (h : fX12_stepAt x0 x1 = res) : gMi l E yX12_stepAt cX12_stepAt 2 .int 1 0 0 [.int x0, .int x1] [] [] res := by
  refine gMi_of (own := RX12) (by decide +kernel) rfl (Nat.le_of_ble_eq_true rfl) ?_
  intro p e s m args below meth c A ls Q H locs C hz hl hG hret
  have hx := C.1.1
  have hb := C.1.2.1
  have hts := C.1.2.2.2.2
  have hown := C.1.2.2.2.1
  have hl : lv_has ls 2 [(0, .int x0), (1, .int x1)] := hl
  replace hret : ∀ (r0 : Int32) (H : Heap) (locs : List Loc) (pc : Nat) (ls' : Array Slot), r0 = res → narrow .int (.int r0) = .int r0 → gG E A s.heap [] H locs → decode cX12_stepAt pc = .ok (.ireturn, 1) → W p l e (rmD 1 0 0) s m args below meth c H locs 0 0 Q (F0 m pc ls' [.int r0]) := by
    intro r0 H locs pc ls' e0 hn; cases e0; exact hret H locs pc ls' hn
  rw [fX12_stepAt] at h
  refine lv_sipush (v := 350) hx hb dX12_stepAt_0 (by decide) ?_
  refine lv_sipush (v := 347) hx hb dX12_stepAt_3 (by decide) ?_
  refine lv_iload_n hx hb dX12_stepAt_6 rfl (lv_at hl 0 rfl) ?_
  refine lv_iload_n hx hb dX12_stepAt_7 rfl (lv_at hl 1 rfl) ?_
  refine lv_iadd hx hb dX12_stepAt_8 ?_
  refine lv_bipush (v := 30) hx hb dX12_stepAt_9 (by decide) ?_
  refine lv_irem hx hb dX12_stepAt_11 (by decide) ?_
  refine g_int (v := (irem (x0 + x1) 30)) rfl ?_
  refine lv_imul hx hb dX12_stepAt_12 ?_
  refine lv_iadd hx hb dX12_stepAt_13 ?_
  exact hret _ _ _ _ _ h rfl hG dX12_stepAt_14
set_option maxHeartbeats 4000000 in
set_option maxRecDepth 100000 in
theorem c_X12_keep (l : Launch) (E : GE) (am : Nat → Nat) (N : Nat) (mm : RS) {res : RS} (h : fX12_keep N mm = some res) : gMv l E yX12_keep cX12_keep 3 2 0 0 [.ref (am 0)] (rM E am mm ++ []) (rM E am res ++ []) := by
  refine gMv_of (own := RX12) (by decide +kernel) rfl (Nat.le_of_ble_eq_true rfl) ?_
  intro p e s m args below meth c A ls Q H locs C hz hl hG hin hret
  have hx := C.1.1
  have hb := C.1.2.1
  have hts := C.1.2.2.2.2
  have hown := C.1.2.2.2.1
  have hl : lv_has ls 3 [(0, .ref (am 0))] := hl
  replace hret : ∀ (mm0 : RS) (H : Heap) (locs : List Loc) (pc : Nat) (ls' : Array Slot), some mm0 = some res → gG E A s.heap (rM E am mm0 ++ []) H locs → decode cX12_keep pc = .ok (.return_, 1) → W p l e (rmD 2 0 0) s m args below meth c H locs 0 0 Q (F0 m pc ls' []) := by
    intro mm0 H locs pc ls' e0; cases e0; exact hret H locs pc ls'
  have K56 : ∀ (k : Nat), ∀  (x1 : Int32) (x2 : Int32) (mm : RS) (H : Heap) (locs : List Loc) (ls : Array Slot), gG E A s.heap (rM E am mm ++ []) H locs → lv_has ls 3 [(0, .ref (am 0)), (1, .int x1), (2, .int x2)] → fX12_keep_L56 N k x1 x2 mm = some res → W p l e (rmD 2 0 0) s m args below meth c H locs 0 0 Q (F0 m 56 ls []) := by
    intro k
    induction k with
    | zero => intro x1 x2 mm H locs ls hG hl h; exact absurd (show none = _ from h) (by simp)
    | succ k ih =>
      intro x1 x2 mm H locs ls hG hl h
      rw [fX12_keep_L56] at h
      refine lv_iload_n hx hb dX12_keep_56 rfl (lv_at hl 2 rfl) ?_
      refine lv_sipush (v := 347) hx hb dX12_keep_57 (by decide) ?_
      refine lv_icmp_ge (tgt := 85) hx hb dX12_keep_60 (by decide) (fun c60 => ?_) (fun c60 => ?_)
      · replace h := it c60 h
        refine lv_aload_n hx hb dX12_keep_85 rfl (lv_at hl 0 rfl) ?_
        refine gL_f (v := .ref (am 1)) C hG kX12 0 0 rfl (by decide) rfl q1352 rfl dX12_keep_86 ?_
        refine lv_iconst (v := 1) hx hb dX12_keep_89 (by decide) ?_
        refine lv_dup2_11 hx hb dX12_keep_90 rfl rfl ?_
        refine gL_i (v := (mm 1 1)) C hG 1 rfl (vp_in_nI (n := 1) (by decide) (by decide)) (congrArg (mm 1) (nI_clamp (n := 1) (by decide))) dX12_keep_91 ?_
        refine lv_iconst (v := 1) hx hb dX12_keep_92 (by decide) ?_
        refine lv_iadd hx hb dX12_keep_93 ?_
        obtain ⟨mm_1, emm_1, h⟩ := thn_some h
        refine gS_i (x := ((mm 1 1) + 1)) (ws' := (rM E am mm_1 ++ [])) C hG 1 rfl (vp_in_nI (n := 1) (by decide) (by decide)) (nI_clamp (n := 1) (by decide)) dX12_keep_94 (by rw [emm_1]; rfl) (fun H locs hG => ?_)
        exact hret _ _ _ _ _ h hG dX12_keep_95
      · replace h := ie c60 h
        refine lv_aload_n hx hb dX12_keep_63 rfl (lv_at hl 0 rfl) ?_
        refine gL_f (v := .ref (am 1)) C hG kX12 0 0 rfl (by decide) rfl q1352 rfl dX12_keep_64 ?_
        refine lv_iload_n hx hb dX12_keep_67 rfl (lv_at hl 1 rfl) ?_
        refine lv_iload_n hx hb dX12_keep_68 rfl (lv_at hl 2 rfl) ?_
        refine lv_iadd hx hb dX12_keep_69 ?_
        refine lv_aload_n hx hb dX12_keep_70 rfl (lv_at hl 0 rfl) ?_
        refine gL_f (v := .ref (am 1)) C hG kX12 0 0 rfl (by decide) rfl q1352 rfl dX12_keep_71 ?_
        refine lv_iconst (v := 3) hx hb dX12_keep_74 (by decide) ?_
        refine lv_iload_n hx hb dX12_keep_75 rfl (lv_at hl 2 rfl) ?_
        refine lv_iadd hx hb dX12_keep_76 ?_
        obtain ⟨b2, h⟩ := ck_some h
        refine gL_i (v := (mm 1 (3 + x2).toNatClampNeg)) C hG 1 rfl (inb_in b2) rfl dX12_keep_77 ?_
        obtain ⟨b3, h⟩ := ck_some h
        obtain ⟨mm_4, emm_4, h⟩ := thn_some h
        refine gS_i (x := (mm 1 (3 + x2).toNatClampNeg)) (ws' := (rM E am mm_4 ++ [])) C hG 1 rfl (inb_in b3) rfl dX12_keep_78 (by rw [emm_4]; rfl) (fun H locs hG => ?_)
        refine lv_iinc (v := (x2 + 1)) (lv' := [(2, .int (x2 + 1)), (0, .ref (am 0)), (1, .int x1)]) hx hb dX12_keep_79 hl (k := 2) rfl (congrArg (x2 + ·) (by decide : Int32.ofInt 1 = 1)) (by decide) rfl (fun ls hl => ?_)
        refine lv_goto (tgt := 56) hx hb dX12_keep_82 (by decide) ?_
        exact ih x1 (x2 + 1) mm_4 _ _ _ hG (lv_sub hl [1, 2, 0] rfl) h
  have K38 : ∀  (mm : RS) (H : Heap) (locs : List Loc) (ls : Array Slot), gG E A s.heap (rM E am mm ++ []) H locs → lv_has ls 3 [(0, .ref (am 0))] → fX12_keep_L38 N mm = some res → W p l e (rmD 2 0 0) s m args below meth c H locs 0 0 Q (F0 m 38 ls []) := by
    intro mm H locs ls hG hl h
    rw [fX12_keep_L38] at h
    refine lv_aload_n hx hb dX12_keep_38 rfl (lv_at hl 0 rfl) ?_
    refine gL_f (v := .ref (am 1)) C hG kX12 0 0 rfl (by decide) rfl q1352 rfl dX12_keep_39 ?_
    refine lv_iconst (v := 2) hx hb dX12_keep_42 (by decide) ?_
    refine gL_i (v := (mm 1 2)) C hG 1 rfl (vp_in_nI (n := 2) (by decide) (by decide)) (congrArg (mm 1) (nI_clamp (n := 2) (by decide))) dX12_keep_43 ?_
    refine lv_aload_n hx hb dX12_keep_44 rfl (lv_at hl 0 rfl) ?_
    refine gL_f (v := .ref (am 1)) C hG kX12 0 0 rfl (by decide) rfl q1352 rfl dX12_keep_45 ?_
    refine lv_iconst (v := 1) hx hb dX12_keep_48 (by decide) ?_
    refine gL_i (v := (mm 1 1)) C hG 1 rfl (vp_in_nI (n := 1) (by decide) (by decide)) (congrArg (mm 1) (nI_clamp (n := 1) (by decide))) dX12_keep_49 ?_
    refine gF_i (ws' := (rM E am mm ++ [])) C hG pst pst.symm (gR_S (As := [.int (mm 1 2), .int (mm 1 1)]) (rest := []) C hz hl.1 hG pst (c_X12_stepAt l E (mm 1 2) (mm 1 1) rfl H.size) okX12_stepAt q1523 rfl (Nat.le_of_ble_eq_true rfl) (by omega) ⟨Nat.le_refl _, Nat.le_refl _⟩ dX12_keep_50) (fun H locs _ hG => ?_)
    obtain ⟨x1_1, ex1_1, h⟩ := thn_some h
    refine g_int ex1_1 ?_
    refine lv_istore_n (lv' := [(1, .int x1_1), (0, .ref (am 0))]) hx hb dX12_keep_53 rfl hl (by decide) rfl (fun ls hl => ?_)
    refine lv_iconst (v := 0) hx hb dX12_keep_54 (by decide) ?_
    refine lv_istore_n (lv' := [(2, .int 0), (1, .int x1_1), (0, .ref (am 0))]) hx hb dX12_keep_55 rfl hl (by decide) rfl (fun ls hl => ?_)
    exact K56 N x1_1 0 mm _ _ _ hG (lv_sub hl [2, 1, 0] rfl) h
  rw [fX12_keep] at h
  refine lv_aload_n hx hb dX12_keep_0 rfl (lv_at hl 0 rfl) ?_
  refine gL_f (v := .ref (am 1)) C hG kX12 0 0 rfl (by decide) rfl q1352 rfl dX12_keep_1 ?_
  refine lv_iconst (v := 1) hx hb dX12_keep_4 (by decide) ?_
  refine gL_i (v := (mm 1 1)) C hG 1 rfl (vp_in_nI (n := 1) (by decide) (by decide)) (congrArg (mm 1) (nI_clamp (n := 1) (by decide))) dX12_keep_5 ?_
  refine lv_bipush (v := 30) hx hb dX12_keep_6 (by decide) ?_
  refine lv_icmp_ne (tgt := 38) hx hb dX12_keep_8 (by decide) (fun c8 => ?_) (fun c8 => ?_)
  · replace h := ie c8 h
    exact K38 mm _ _ _ hG (lv_sub hl [0] rfl) h
  · replace h := it c8 h
    refine lv_aload_n hx hb dX12_keep_11 rfl (lv_at hl 0 rfl) ?_
    refine gL_f (v := .ref (am 1)) C hG kX12 0 0 rfl (by decide) rfl q1352 rfl dX12_keep_12 ?_
    refine lv_iconst (v := 2) hx hb dX12_keep_15 (by decide) ?_
    refine lv_aload_n hx hb dX12_keep_16 rfl (lv_at hl 0 rfl) ?_
    refine gL_f (v := .ref (am 1)) C hG kX12 0 0 rfl (by decide) rfl q1352 rfl dX12_keep_17 ?_
    refine lv_iconst (v := 2) hx hb dX12_keep_20 (by decide) ?_
    refine gL_i (v := (mm 1 2)) C hG 1 rfl (vp_in_nI (n := 2) (by decide) (by decide)) (congrArg (mm 1) (nI_clamp (n := 2) (by decide))) dX12_keep_21 ?_
    refine lv_iconst (v := 1) hx hb dX12_keep_22 (by decide) ?_
    refine lv_iadd hx hb dX12_keep_23 ?_
    refine lv_bipush (v := 30) hx hb dX12_keep_24 (by decide) ?_
    refine lv_irem hx hb dX12_keep_26 (by decide) ?_
    refine g_int (v := (irem ((mm 1 2) + 1) 30)) rfl ?_
    obtain ⟨mm_1, emm_1, h⟩ := thn_some h
    refine gS_i (x := (irem ((mm 1 2) + 1) 30)) (ws' := (rM E am mm_1 ++ [])) C hG 1 rfl (vp_in_nI (n := 2) (by decide) (by decide)) (nI_clamp (n := 2) (by decide)) dX12_keep_27 (by rw [emm_1]; rfl) (fun H locs hG => ?_)
    refine lv_aload_n hx hb dX12_keep_28 rfl (lv_at hl 0 rfl) ?_
    refine gL_f (v := .ref (am 1)) C hG kX12 0 0 rfl (by decide) rfl q1352 rfl dX12_keep_29 ?_
    refine lv_iconst (v := 1) hx hb dX12_keep_32 (by decide) ?_
    refine lv_dup2_11 hx hb dX12_keep_33 rfl rfl ?_
    refine gL_i (v := (mm_1 1 1)) C hG 1 rfl (vp_in_nI (n := 1) (by decide) (by decide)) (congrArg (mm_1 1) (nI_clamp (n := 1) (by decide))) dX12_keep_34 ?_
    refine lv_iconst (v := 1) hx hb dX12_keep_35 (by decide) ?_
    refine lv_isub hx hb dX12_keep_36 ?_
    obtain ⟨mm_2, emm_2, h⟩ := thn_some h
    refine gS_i (x := ((mm_1 1 1) - 1)) (ws' := (rM E am mm_2 ++ [])) C hG 1 rfl (vp_in_nI (n := 1) (by decide) (by decide)) (nI_clamp (n := 1) (by decide)) dX12_keep_37 (by rw [emm_2]; rfl) (fun H locs hG => ?_)
    exact K38 mm_2 _ _ _ hG (lv_sub hl [0] rfl) h
set_option maxHeartbeats 4000000 in
set_option maxRecDepth 100000 in
theorem c_X12_undo (l : Launch) (E : GE) (am : Nat → Nat) (N : Nat) (mm : RS) {res : Int32 × RS} (h : fX12_undo N mm = some res) : gMi l E yX12_undo cX12_undo 3 .int 2 0 0 [.ref (am 0)] (rM E am mm ++ []) (rM E am res.2 ++ []) res.1 := by
  refine gMi_of (own := RX12) (by decide +kernel) rfl (Nat.le_of_ble_eq_true rfl) ?_
  intro p e s m args below meth c A ls Q H locs C hz hl hG hret
  have hx := C.1.1
  have hb := C.1.2.1
  have hts := C.1.2.2.2.2
  have hown := C.1.2.2.2.1
  have hl : lv_has ls 3 [(0, .ref (am 0))] := hl
  replace hret : ∀ (r0 : Int32) (mm0 : RS) (H : Heap) (locs : List Loc) (pc : Nat) (ls' : Array Slot), some (r0, mm0) = some res → narrow .int (.int r0) = .int r0 → gG E A s.heap (rM E am mm0 ++ []) H locs → decode cX12_undo pc = .ok (.ireturn, 1) → W p l e (rmD 2 0 0) s m args below meth c H locs 0 0 Q (F0 m pc ls' [.int r0]) := by
    intro r0 mm0 H locs pc ls' e0 hn; cases e0; exact hret H locs pc ls' hn
  have K39 : ∀ (k : Nat), ∀  (x1 : Int32) (x2 : Int32) (mm : RS) (H : Heap) (locs : List Loc) (ls : Array Slot), gG E A s.heap (rM E am mm ++ []) H locs → lv_has ls 3 [(0, .ref (am 0)), (1, .int x1), (2, .int x2)] → fX12_undo_L39 N k x1 x2 mm = some res → W p l e (rmD 2 0 0) s m args below meth c H locs 0 0 Q (F0 m 39 ls []) := by
    intro k
    induction k with
    | zero => intro x1 x2 mm H locs ls hG hl h; exact absurd (show none = _ from h) (by simp)
    | succ k ih =>
      intro x1 x2 mm H locs ls hG hl h
      rw [fX12_undo_L39] at h
      refine lv_iload_n hx hb dX12_undo_39 rfl (lv_at hl 2 rfl) ?_
      refine lv_sipush (v := 347) hx hb dX12_undo_40 (by decide) ?_
      refine lv_icmp_ge (tgt := 68) hx hb dX12_undo_43 (by decide) (fun c43 => ?_) (fun c43 => ?_)
      · replace h := it c43 h
        refine lv_aload_n hx hb dX12_undo_68 rfl (lv_at hl 0 rfl) ?_
        refine gL_f (v := .ref (am 1)) C hG kX12 0 0 rfl (by decide) rfl q1352 rfl dX12_undo_69 ?_
        refine lv_iconst (v := 1) hx hb dX12_undo_72 (by decide) ?_
        refine gL_i (v := (mm 1 1)) C hG 1 rfl (vp_in_nI (n := 1) (by decide) (by decide)) (congrArg (mm 1) (nI_clamp (n := 1) (by decide))) dX12_undo_73 ?_
        exact hret _ _ _ _ _ _ h rfl hG dX12_undo_74
      · replace h := ie c43 h
        refine lv_aload_n hx hb dX12_undo_46 rfl (lv_at hl 0 rfl) ?_
        refine gL_f (v := .ref (am 1)) C hG kX12 0 0 rfl (by decide) rfl q1352 rfl dX12_undo_47 ?_
        refine lv_iconst (v := 3) hx hb dX12_undo_50 (by decide) ?_
        refine lv_iload_n hx hb dX12_undo_51 rfl (lv_at hl 2 rfl) ?_
        refine lv_iadd hx hb dX12_undo_52 ?_
        refine lv_aload_n hx hb dX12_undo_53 rfl (lv_at hl 0 rfl) ?_
        refine gL_f (v := .ref (am 1)) C hG kX12 0 0 rfl (by decide) rfl q1352 rfl dX12_undo_54 ?_
        refine lv_iload_n hx hb dX12_undo_57 rfl (lv_at hl 1 rfl) ?_
        refine lv_iload_n hx hb dX12_undo_58 rfl (lv_at hl 2 rfl) ?_
        refine lv_iadd hx hb dX12_undo_59 ?_
        obtain ⟨b1, h⟩ := ck_some h
        refine gL_i (v := (mm 1 (x1 + x2).toNatClampNeg)) C hG 1 rfl (inb_in b1) rfl dX12_undo_60 ?_
        obtain ⟨b2, h⟩ := ck_some h
        obtain ⟨mm_3, emm_3, h⟩ := thn_some h
        refine gS_i (x := (mm 1 (x1 + x2).toNatClampNeg)) (ws' := (rM E am mm_3 ++ [])) C hG 1 rfl (inb_in b2) rfl dX12_undo_61 (by rw [emm_3]; rfl) (fun H locs hG => ?_)
        refine lv_iinc (v := (x2 + 1)) (lv' := [(2, .int (x2 + 1)), (0, .ref (am 0)), (1, .int x1)]) hx hb dX12_undo_62 hl (k := 2) rfl (congrArg (x2 + ·) (by decide : Int32.ofInt 1 = 1)) (by decide) rfl (fun ls hl => ?_)
        refine lv_goto (tgt := 39) hx hb dX12_undo_65 (by decide) ?_
        exact ih x1 (x2 + 1) mm_3 _ _ _ hG (lv_sub hl [1, 2, 0] rfl) h
  rw [fX12_undo] at h
  refine lv_aload_n hx hb dX12_undo_0 rfl (lv_at hl 0 rfl) ?_
  refine gL_f (v := .ref (am 1)) C hG kX12 0 0 rfl (by decide) rfl q1352 rfl dX12_undo_1 ?_
  refine lv_iconst (v := 1) hx hb dX12_undo_4 (by decide) ?_
  refine gL_i (v := (mm 1 1)) C hG 1 rfl (vp_in_nI (n := 1) (by decide) (by decide)) (congrArg (mm 1) (nI_clamp (n := 1) (by decide))) dX12_undo_5 ?_
  refine lv_if_ne (tgt := 11) hx hb dX12_undo_6 (by decide) (fun c6 => ?_) (fun c6 => ?_)
  · replace h := ie c6 h
    refine lv_aload_n hx hb dX12_undo_11 rfl (lv_at hl 0 rfl) ?_
    refine gL_f (v := .ref (am 1)) C hG kX12 0 0 rfl (by decide) rfl q1352 rfl dX12_undo_12 ?_
    refine lv_iconst (v := 1) hx hb dX12_undo_15 (by decide) ?_
    refine lv_dup2_11 hx hb dX12_undo_16 rfl rfl ?_
    refine gL_i (v := (mm 1 1)) C hG 1 rfl (vp_in_nI (n := 1) (by decide) (by decide)) (congrArg (mm 1) (nI_clamp (n := 1) (by decide))) dX12_undo_17 ?_
    refine lv_iconst (v := 1) hx hb dX12_undo_18 (by decide) ?_
    refine lv_isub hx hb dX12_undo_19 ?_
    obtain ⟨mm_1, emm_1, h⟩ := thn_some h
    refine gS_i (x := ((mm 1 1) - 1)) (ws' := (rM E am mm_1 ++ [])) C hG 1 rfl (vp_in_nI (n := 1) (by decide) (by decide)) (nI_clamp (n := 1) (by decide)) dX12_undo_20 (by rw [emm_1]; rfl) (fun H locs hG => ?_)
    refine lv_aload_n hx hb dX12_undo_21 rfl (lv_at hl 0 rfl) ?_
    refine gL_f (v := .ref (am 1)) C hG kX12 0 0 rfl (by decide) rfl q1352 rfl dX12_undo_22 ?_
    refine lv_iconst (v := 2) hx hb dX12_undo_25 (by decide) ?_
    refine gL_i (v := (mm_1 1 2)) C hG 1 rfl (vp_in_nI (n := 2) (by decide) (by decide)) (congrArg (mm_1 1) (nI_clamp (n := 2) (by decide))) dX12_undo_26 ?_
    refine lv_aload_n hx hb dX12_undo_27 rfl (lv_at hl 0 rfl) ?_
    refine gL_f (v := .ref (am 1)) C hG kX12 0 0 rfl (by decide) rfl q1352 rfl dX12_undo_28 ?_
    refine lv_iconst (v := 1) hx hb dX12_undo_31 (by decide) ?_
    refine gL_i (v := (mm_1 1 1)) C hG 1 rfl (vp_in_nI (n := 1) (by decide) (by decide)) (congrArg (mm_1 1) (nI_clamp (n := 1) (by decide))) dX12_undo_32 ?_
    refine gF_i (ws' := (rM E am mm_1 ++ [])) C hG pst pst.symm (gR_S (As := [.int (mm_1 1 2), .int (mm_1 1 1)]) (rest := []) C hz hl.1 hG pst (c_X12_stepAt l E (mm_1 1 2) (mm_1 1 1) rfl H.size) okX12_stepAt q1523 rfl (Nat.le_of_ble_eq_true rfl) (by omega) ⟨Nat.le_refl _, Nat.le_refl _⟩ dX12_undo_33) (fun H locs _ hG => ?_)
    obtain ⟨x1_2, ex1_2, h⟩ := thn_some h
    refine g_int ex1_2 ?_
    refine lv_istore_n (lv' := [(1, .int x1_2), (0, .ref (am 0))]) hx hb dX12_undo_36 rfl hl (by decide) rfl (fun ls hl => ?_)
    refine lv_iconst (v := 0) hx hb dX12_undo_37 (by decide) ?_
    refine lv_istore_n (lv' := [(2, .int 0), (1, .int x1_2), (0, .ref (am 0))]) hx hb dX12_undo_38 rfl hl (by decide) rfl (fun ls hl => ?_)
    exact K39 N x1_2 0 mm_1 _ _ _ hG (lv_sub hl [2, 1, 0] rfl) h
  · replace h := it c6 h
    refine lv_iconst (v := (-1)) hx hb dX12_undo_9 (by decide) ?_
    exact hret _ _ _ _ _ _ h rfl hG dX12_undo_10
set_option maxHeartbeats 4000000 in
set_option maxRecDepth 100000 in
theorem c_X12_read (l : Launch) (E : GE) (am : Nat → Nat) (N : Nat) (x1 : Int32) (x2 : Int32) (mm : RS) {res : Int32 × RS} (h : fX12_read N x1 x2 mm = some res) : gMi l E yX12_read cX12_read 3 .int 5 0 0 [.ref (am 0), .int x1, .int x2] (rM E am mm ++ []) (rM E am res.2 ++ []) res.1 := by
  refine gMi_of (own := RX12) (by decide +kernel) rfl (Nat.le_of_ble_eq_true rfl) ?_
  intro p e s m args below meth c A ls Q H locs C hz hl hG hret
  have hx := C.1.1
  have hb := C.1.2.1
  have hts := C.1.2.2.2.2
  have hown := C.1.2.2.2.1
  have hl : lv_has ls 3 [(0, .ref (am 0)), (1, .int x1), (2, .int x2)] := hl
  replace hret : ∀ (r0 : Int32) (mm0 : RS) (H : Heap) (locs : List Loc) (pc : Nat) (ls' : Array Slot), some (r0, mm0) = some res → narrow .int (.int r0) = .int r0 → gG E A s.heap (rM E am mm0 ++ []) H locs → decode cX12_read pc = .ok (.ireturn, 1) → W p l e (rmD 5 0 0) s m args below meth c H locs 0 0 Q (F0 m pc ls' [.int r0]) := by
    intro r0 mm0 H locs pc ls' e0 hn; cases e0; exact hret H locs pc ls' hn
  rw [fX12_read] at h
  refine lv_iload_n hx hb dX12_read_0 rfl (lv_at hl 1 rfl) ?_
  refine lv_iload_n hx hb dX12_read_1 rfl (lv_at hl 2 rfl) ?_
  refine gF_i (ws' := (rM E am mm ++ [])) C hG pst pst.symm (gR_S (As := [.int x1, .int x2]) (rest := []) C hz hl.1 hG pst (c_X12_isBlock l E x1 x2 rfl H.size) okX12_isBlock q1530 rfl (Nat.le_of_ble_eq_true rfl) (by omega) ⟨Nat.le_refl _, Nat.le_refl _⟩ dX12_read_2) (fun H locs z1 hG => ?_)
  refine lv_if_ne (tgt := 10) hx hb dX12_read_5 (by decide) (fun c5 => ?_) (fun c5 => ?_)
  · replace h := ie c5 h
    refine lv_aload_n hx hb dX12_read_10 rfl (lv_at hl 0 rfl) ?_
    obtain ⟨r2, hcr2, h⟩ := bnd_some h
    refine gF_v (ws' := (rM E am r2 ++ [])) C hG (pin pnil) (List.Perm.symm (pin pnil)) (gR_V (As := []) (rest := []) C hz hl.1 hG (pin pnil) (c_X12_keep l E am N mm hcr2 H.size) okX12_keep q1539 0 rfl rfl rfl (Nat.le_of_ble_eq_true rfl) (by omega) ⟨Nat.le_refl _, Nat.le_refl _⟩ dX12_read_11) (fun H locs hG => ?_)
    refine lv_aload_n hx hb dX12_read_14 rfl (lv_at hl 0 rfl) ?_
    refine lv_iload_n hx hb dX12_read_15 rfl (lv_at hl 1 rfl) ?_
    refine lv_iload_n hx hb dX12_read_16 rfl (lv_at hl 2 rfl) ?_
    obtain ⟨r3, hcr3, h⟩ := bnd_some h
    refine gF_i (ws' := (rM E am r3.2 ++ [])) C hG (pin pnil) (List.Perm.symm (pin pnil)) (gR_V (As := [.int x1, .int x2]) (rest := []) C hz hl.1 hG (pin pnil) (c_X12_readNow l E am N x1 x2 r2 hcr3 H.size) okX12_readNow q1543 0 rfl rfl rfl (Nat.le_of_ble_eq_true rfl) (by omega) ⟨Nat.le_refl _, Nat.le_refl _⟩ dX12_read_17) (fun H locs _ hG => ?_)
    exact hret _ _ _ _ _ _ h rfl hG dX12_read_20
  · replace h := it c5 h
    refine lv_iconst (v := (-1)) hx hb dX12_read_8 (by decide) ?_
    exact hret _ _ _ _ _ _ h rfl hG dX12_read_9
set_option maxHeartbeats 4000000 in
set_option maxRecDepth 100000 in
theorem c_X12_write (l : Launch) (E : GE) (am : Nat → Nat) (N : Nat) (x1 : Int32) (x2 : Int32) (x3 : Int32) (mm : RS) {res : Int32 × RS} (h : fX12_write N x1 x2 x3 mm = some res) : gMi l E yX12_write cX12_write 4 .int 5 0 0 [.ref (am 0), .int x1, .int x2, .int x3] (rM E am mm ++ []) (rM E am res.2 ++ []) res.1 := by
  refine gMi_of (own := RX12) (by decide +kernel) rfl (Nat.le_of_ble_eq_true rfl) ?_
  intro p e s m args below meth c A ls Q H locs C hz hl hG hret
  have hx := C.1.1
  have hb := C.1.2.1
  have hts := C.1.2.2.2.2
  have hown := C.1.2.2.2.1
  have hl : lv_has ls 4 [(0, .ref (am 0)), (1, .int x1), (2, .int x2), (3, .int x3)] := hl
  replace hret : ∀ (r0 : Int32) (mm0 : RS) (H : Heap) (locs : List Loc) (pc : Nat) (ls' : Array Slot), some (r0, mm0) = some res → narrow .int (.int r0) = .int r0 → gG E A s.heap (rM E am mm0 ++ []) H locs → decode cX12_write pc = .ok (.ireturn, 1) → W p l e (rmD 5 0 0) s m args below meth c H locs 0 0 Q (F0 m pc ls' [.int r0]) := by
    intro r0 mm0 H locs pc ls' e0 hn; cases e0; exact hret H locs pc ls' hn
  rw [fX12_write] at h
  refine lv_iload_n hx hb dX12_write_0 rfl (lv_at hl 1 rfl) ?_
  refine lv_iload_n hx hb dX12_write_1 rfl (lv_at hl 2 rfl) ?_
  refine gF_i (ws' := (rM E am mm ++ [])) C hG pst pst.symm (gR_S (As := [.int x1, .int x2]) (rest := []) C hz hl.1 hG pst (c_X12_isBlock l E x1 x2 rfl H.size) okX12_isBlock q1530 rfl (Nat.le_of_ble_eq_true rfl) (by omega) ⟨Nat.le_refl _, Nat.le_refl _⟩ dX12_write_2) (fun H locs z1 hG => ?_)
  refine lv_if_eq (tgt := 19) hx hb dX12_write_5 (by decide) (fun c5 => ?_) (fun c5 => ?_)
  · replace h := it c5 h
    refine lv_iconst (v := (-1)) hx hb dX12_write_19 (by decide) ?_
    exact hret _ _ _ _ _ _ h rfl hG dX12_write_20
  · replace h := ie c5 h
    refine lv_iload_n hx hb dX12_write_8 rfl (lv_at hl 3 rfl) ?_
    refine lv_iconst (v := 0) hx hb dX12_write_9 (by decide) ?_
    refine lv_sipush (v := 999) hx hb dX12_write_10 (by decide) ?_
    refine gF_i (ws' := (rM E am mm ++ [])) C hG pst pst.symm (gR_S (As := [.int x3, .int 0, .int 999]) (rest := []) C hz hl.1 hG pst (c_X12_isIn l E x3 0 999 rfl H.size) okX12_isIn q1446 rfl (Nat.le_of_ble_eq_true rfl) (by omega) ⟨Nat.le_refl _, Nat.le_refl _⟩ dX12_write_13) (fun H locs z2 hG => ?_)
    refine lv_if_ne (tgt := 21) hx hb dX12_write_16 (by decide) (fun c16 => ?_) (fun c16 => ?_)
    · replace h := ie c16 h
      refine lv_aload_n hx hb dX12_write_21 rfl (lv_at hl 0 rfl) ?_
      obtain ⟨r3, hcr3, h⟩ := bnd_some h
      refine gF_v (ws' := (rM E am r3 ++ [])) C hG (pin pnil) (List.Perm.symm (pin pnil)) (gR_V (As := []) (rest := []) C hz hl.1 hG (pin pnil) (c_X12_keep l E am N mm hcr3 H.size) okX12_keep q1539 0 rfl rfl rfl (Nat.le_of_ble_eq_true rfl) (by omega) ⟨Nat.le_refl _, Nat.le_refl _⟩ dX12_write_22) (fun H locs hG => ?_)
      refine lv_aload_n hx hb dX12_write_25 rfl (lv_at hl 0 rfl) ?_
      refine lv_iload_n hx hb dX12_write_26 rfl (lv_at hl 1 rfl) ?_
      refine lv_iload_n hx hb dX12_write_27 rfl (lv_at hl 2 rfl) ?_
      refine lv_iload_n hx hb dX12_write_28 rfl (lv_at hl 3 rfl) ?_
      obtain ⟨r4, hcr4, h⟩ := bnd_some h
      refine gF_i (ws' := (rM E am r4.2 ++ [])) C hG (pin pnil) (List.Perm.symm (pin pnil)) (gR_V (As := [.int x1, .int x2, .int x3]) (rest := []) C hz hl.1 hG (pin pnil) (c_X12_writeNow l E am N x1 x2 x3 r3 hcr4 H.size) okX12_writeNow q1578 0 rfl rfl rfl (Nat.le_of_ble_eq_true rfl) (by omega) ⟨Nat.le_refl _, Nat.le_refl _⟩ dX12_write_29) (fun H locs _ hG => ?_)
      exact hret _ _ _ _ _ _ h rfl hG dX12_write_32
    · replace h := it c16 h
      refine lv_iconst (v := (-1)) hx hb dX12_write_19 (by decide) ?_
      exact hret _ _ _ _ _ _ h rfl hG dX12_write_20
set_option maxHeartbeats 4000000 in
set_option maxRecDepth 100000 in
theorem c_X12_scan (l : Launch) (E : GE) (am : Nat → Nat) (N : Nat) (x1 : Int32) (x2 : Int32) (mm : RS) {res : Int32 × RS} (h : fX12_scan N x1 x2 mm = some res) : gMi l E yX12_scan cX12_scan 3 .int 6 0 0 [.ref (am 0), .int x1, .int x2] (rM E am mm ++ []) (rM E am res.2 ++ []) res.1 := by
  refine gMi_of (own := RX12) (by decide +kernel) rfl (Nat.le_of_ble_eq_true rfl) ?_
  intro p e s m args below meth c A ls Q H locs C hz hl hG hret
  have hx := C.1.1
  have hb := C.1.2.1
  have hts := C.1.2.2.2.2
  have hown := C.1.2.2.2.1
  have hl : lv_has ls 3 [(0, .ref (am 0)), (1, .int x1), (2, .int x2)] := hl
  replace hret : ∀ (r0 : Int32) (mm0 : RS) (H : Heap) (locs : List Loc) (pc : Nat) (ls' : Array Slot), some (r0, mm0) = some res → narrow .int (.int r0) = .int r0 → gG E A s.heap (rM E am mm0 ++ []) H locs → decode cX12_scan pc = .ok (.ireturn, 1) → W p l e (rmD 6 0 0) s m args below meth c H locs 0 0 Q (F0 m pc ls' [.int r0]) := by
    intro r0 mm0 H locs pc ls' e0 hn; cases e0; exact hret H locs pc ls' hn
  rw [fX12_scan] at h
  refine lv_iload_n hx hb dX12_scan_0 rfl (lv_at hl 1 rfl) ?_
  refine gF_i (ws' := (rM E am mm ++ [])) C hG pst pst.symm (gR_S (As := [.int x1]) (rest := []) C hz hl.1 hG pst (c_X12_isExtent l E x1 rfl H.size) okX12_isExtent q1533 rfl (Nat.le_of_ble_eq_true rfl) (by omega) ⟨Nat.le_refl _, Nat.le_refl _⟩ dX12_scan_1) (fun H locs z1 hG => ?_)
  refine lv_if_eq (tgt := 19) hx hb dX12_scan_4 (by decide) (fun c4 => ?_) (fun c4 => ?_)
  · replace h := it c4 h
    refine lv_iconst (v := (-1)) hx hb dX12_scan_19 (by decide) ?_
    exact hret _ _ _ _ _ _ h rfl hG dX12_scan_20
  · replace h := ie c4 h
    refine lv_iload_n hx hb dX12_scan_7 rfl (lv_at hl 2 rfl) ?_
    refine gF_i (ws' := (rM E am mm ++ [])) C hG pst pst.symm (gR_S (As := [.int x2]) (rest := []) C hz hl.1 hG pst (c_X12_isExtent l E x2 rfl H.size) okX12_isExtent q1533 rfl (Nat.le_of_ble_eq_true rfl) (by omega) ⟨Nat.le_refl _, Nat.le_refl _⟩ dX12_scan_8) (fun H locs z2 hG => ?_)
    refine lv_if_eq (tgt := 19) hx hb dX12_scan_11 (by decide) (fun c11 => ?_) (fun c11 => ?_)
    · replace h := it c11 h
      refine lv_iconst (v := (-1)) hx hb dX12_scan_19 (by decide) ?_
      exact hret _ _ _ _ _ _ h rfl hG dX12_scan_20
    · replace h := ie c11 h
      refine lv_iload_n hx hb dX12_scan_14 rfl (lv_at hl 1 rfl) ?_
      refine lv_iload_n hx hb dX12_scan_15 rfl (lv_at hl 2 rfl) ?_
      refine lv_icmp_le (tgt := 21) hx hb dX12_scan_16 (by decide) (fun c16 => ?_) (fun c16 => ?_)
      · replace h := it c16 h
        refine lv_aload_n hx hb dX12_scan_21 rfl (lv_at hl 0 rfl) ?_
        obtain ⟨r3, hcr3, h⟩ := bnd_some h
        refine gF_v (ws' := (rM E am r3 ++ [])) C hG (pin pnil) (List.Perm.symm (pin pnil)) (gR_V (As := []) (rest := []) C hz hl.1 hG (pin pnil) (c_X12_keep l E am N mm hcr3 H.size) okX12_keep q1539 0 rfl rfl rfl (Nat.le_of_ble_eq_true rfl) (by omega) ⟨Nat.le_refl _, Nat.le_refl _⟩ dX12_scan_22) (fun H locs hG => ?_)
        refine lv_aload_n hx hb dX12_scan_25 rfl (lv_at hl 0 rfl) ?_
        refine lv_iload_n hx hb dX12_scan_26 rfl (lv_at hl 1 rfl) ?_
        refine lv_iload_n hx hb dX12_scan_27 rfl (lv_at hl 2 rfl) ?_
        obtain ⟨r4, hcr4, h⟩ := bnd_some h
        refine gF_i (ws' := (rM E am r4.2 ++ [])) C hG (pin pnil) (List.Perm.symm (pin pnil)) (gR_V (As := [.int x1, .int x2]) (rest := []) C hz hl.1 hG (pin pnil) (c_X12_scanNow l E am N x1 x2 r3 hcr4 H.size) okX12_scanNow q1590 0 rfl rfl rfl (Nat.le_of_ble_eq_true rfl) (by omega) ⟨Nat.le_refl _, Nat.le_refl _⟩ dX12_scan_28) (fun H locs _ hG => ?_)
        exact hret _ _ _ _ _ _ h rfl hG dX12_scan_31
      · replace h := ie c16 h
        refine lv_iconst (v := (-1)) hx hb dX12_scan_19 (by decide) ?_
        exact hret _ _ _ _ _ _ h rfl hG dX12_scan_20
set_option maxHeartbeats 4000000 in
set_option maxRecDepth 100000 in
theorem c_X12_pin (l : Launch) (E : GE) (am : Nat → Nat) (N : Nat) (x1 : Int32) (x2 : Int32) (mm : RS) {res : Int32 × RS} (h : fX12_pin N x1 x2 mm = some res) : gMi l E yX12_pin cX12_pin 3 .boolean 3 0 0 [.ref (am 0), .int x1, .int x2] (rM E am mm ++ []) (rM E am res.2 ++ []) res.1 := by
  refine gMi_of (own := RX12) (by decide +kernel) rfl (Nat.le_of_ble_eq_true rfl) ?_
  intro p e s m args below meth c A ls Q H locs C hz hl hG hret
  have hx := C.1.1
  have hb := C.1.2.1
  have hts := C.1.2.2.2.2
  have hown := C.1.2.2.2.1
  have hl : lv_has ls 3 [(0, .ref (am 0)), (1, .int x1), (2, .int x2)] := hl
  replace hret : ∀ (r0 : Int32) (mm0 : RS) (H : Heap) (locs : List Loc) (pc : Nat) (ls' : Array Slot), some (r0, mm0) = some res → narrow .boolean (.int r0) = .int r0 → gG E A s.heap (rM E am mm0 ++ []) H locs → decode cX12_pin pc = .ok (.ireturn, 1) → W p l e (rmD 3 0 0) s m args below meth c H locs 0 0 Q (F0 m pc ls' [.int r0]) := by
    intro r0 mm0 H locs pc ls' e0 hn; cases e0; exact hret H locs pc ls' hn
  rw [fX12_pin] at h
  refine lv_iload_n hx hb dX12_pin_0 rfl (lv_at hl 1 rfl) ?_
  refine gF_i (ws' := (rM E am mm ++ [])) C hG pst pst.symm (gR_S (As := [.int x1]) (rest := []) C hz hl.1 hG pst (c_X12_isExtent l E x1 rfl H.size) okX12_isExtent q1533 rfl (Nat.le_of_ble_eq_true rfl) (by omega) ⟨Nat.le_refl _, Nat.le_refl _⟩ dX12_pin_1) (fun H locs z1 hG => ?_)
  refine lv_if_eq (tgt := 29) hx hb dX12_pin_4 (by decide) (fun c4 => ?_) (fun c4 => ?_)
  · replace h := it c4 h
    refine lv_iconst (v := 0) hx hb dX12_pin_29 (by decide) ?_
    exact hret _ _ _ _ _ _ h rfl hG dX12_pin_30
  · replace h := ie c4 h
    refine lv_iload_n hx hb dX12_pin_7 rfl (lv_at hl 2 rfl) ?_
    refine lv_iconst (v := 0) hx hb dX12_pin_8 (by decide) ?_
    refine lv_iconst (v := 2) hx hb dX12_pin_9 (by decide) ?_
    refine gF_i (ws' := (rM E am mm ++ [])) C hG pst pst.symm (gR_S (As := [.int x2, .int 0, .int 2]) (rest := []) C hz hl.1 hG pst (c_X12_isIn l E x2 0 2 rfl H.size) okX12_isIn q1446 rfl (Nat.le_of_ble_eq_true rfl) (by omega) ⟨Nat.le_refl _, Nat.le_refl _⟩ dX12_pin_10) (fun H locs z2 hG => ?_)
    refine lv_if_eq (tgt := 29) hx hb dX12_pin_13 (by decide) (fun c13 => ?_) (fun c13 => ?_)
    · replace h := it c13 h
      refine lv_iconst (v := 0) hx hb dX12_pin_29 (by decide) ?_
      exact hret _ _ _ _ _ _ h rfl hG dX12_pin_30
    · replace h := ie c13 h
      refine lv_aload_n hx hb dX12_pin_16 rfl (lv_at hl 0 rfl) ?_
      refine gL_f (v := .ref (am 1)) C hG kX12 0 0 rfl (by decide) rfl q1352 rfl dX12_pin_17 ?_
      refine lv_bipush (v := 69) hx hb dX12_pin_20 (by decide) ?_
      refine lv_iload_n hx hb dX12_pin_22 rfl (lv_at hl 1 rfl) ?_
      refine lv_iadd hx hb dX12_pin_23 ?_
      obtain ⟨b3, h⟩ := ck_some h
      refine gL_i (v := (mm 1 (69 + x1).toNatClampNeg)) C hG 1 rfl (inb_in b3) rfl dX12_pin_24 ?_
      refine lv_iload_n hx hb dX12_pin_25 rfl (lv_at hl 2 rfl) ?_
      refine lv_icmp_ne (tgt := 31) hx hb dX12_pin_26 (by decide) (fun c26 => ?_) (fun c26 => ?_)
      · replace h := ie c26 h
        refine lv_aload_n hx hb dX12_pin_31 rfl (lv_at hl 0 rfl) ?_
        obtain ⟨r4, hcr4, h⟩ := bnd_some h
        refine gF_v (ws' := (rM E am r4 ++ [])) C hG (pin pnil) (List.Perm.symm (pin pnil)) (gR_V (As := []) (rest := []) C hz hl.1 hG (pin pnil) (c_X12_keep l E am N mm hcr4 H.size) okX12_keep q1539 0 rfl rfl rfl (Nat.le_of_ble_eq_true rfl) (by omega) ⟨Nat.le_refl _, Nat.le_refl _⟩ dX12_pin_32) (fun H locs hG => ?_)
        refine lv_aload_n hx hb dX12_pin_35 rfl (lv_at hl 0 rfl) ?_
        refine gL_f (v := .ref (am 1)) C hG kX12 0 0 rfl (by decide) rfl q1352 rfl dX12_pin_36 ?_
        refine lv_bipush (v := 69) hx hb dX12_pin_39 (by decide) ?_
        refine lv_iload_n hx hb dX12_pin_41 rfl (lv_at hl 1 rfl) ?_
        refine lv_iadd hx hb dX12_pin_42 ?_
        refine lv_iload_n hx hb dX12_pin_43 rfl (lv_at hl 2 rfl) ?_
        obtain ⟨mm_5, emm_5, h⟩ := thn_some h
        refine gS_i (x := x2) (ws' := (rM E am mm_5 ++ [])) C hG 1 rfl (inb_in b3) rfl dX12_pin_44 (by rw [emm_5]; rfl) (fun H locs hG => ?_)
        refine lv_aload_n hx hb dX12_pin_45 rfl (lv_at hl 0 rfl) ?_
        refine lv_iconst (v := 5) hx hb dX12_pin_46 (by decide) ?_
        refine lv_iload_n hx hb dX12_pin_47 rfl (lv_at hl 1 rfl) ?_
        refine lv_iload_n hx hb dX12_pin_48 rfl (lv_at hl 2 rfl) ?_
        obtain ⟨r6, hcr6, h⟩ := bnd_some h
        refine gF_v (ws' := (rM E am r6 ++ [])) C hG (pin pnil) (List.Perm.symm (pin pnil)) (gR_V (As := [.int 5, .int x1, .int x2]) (rest := []) C hz hl.1 hG (pin pnil) (c_X12_writeDown l E am N 5 x1 x2 mm_5 hcr6 H.size) okX12_writeDown q1598 0 rfl rfl rfl (Nat.le_of_ble_eq_true rfl) (by omega) ⟨Nat.le_refl _, Nat.le_refl _⟩ dX12_pin_49) (fun H locs hG => ?_)
        refine lv_iconst (v := 1) hx hb dX12_pin_52 (by decide) ?_
        exact hret _ _ _ _ _ _ h rfl hG dX12_pin_53
      · replace h := it c26 h
        refine lv_iconst (v := 0) hx hb dX12_pin_29 (by decide) ?_
        exact hret _ _ _ _ _ _ h rfl hG dX12_pin_30
set_option maxHeartbeats 4000000 in
set_option maxRecDepth 100000 in
theorem c_X12_tell (l : Launch) (E : GE) (am : Nat → Nat) (N : Nat) (x1 : Int32) (x2 : Int32) (mm : RS) {res : Int32 × RS} (h : fX12_tell N x1 x2 mm = some res) : gMi l E yX12_tell cX12_tell 3 .boolean 3 0 0 [.ref (am 0), .int x1, .int x2] (rM E am mm ++ []) (rM E am res.2 ++ []) res.1 := by
  refine gMi_of (own := RX12) (by decide +kernel) rfl (Nat.le_of_ble_eq_true rfl) ?_
  intro p e s m args below meth c A ls Q H locs C hz hl hG hret
  have hx := C.1.1
  have hb := C.1.2.1
  have hts := C.1.2.2.2.2
  have hown := C.1.2.2.2.1
  have hl : lv_has ls 3 [(0, .ref (am 0)), (1, .int x1), (2, .int x2)] := hl
  replace hret : ∀ (r0 : Int32) (mm0 : RS) (H : Heap) (locs : List Loc) (pc : Nat) (ls' : Array Slot), some (r0, mm0) = some res → narrow .boolean (.int r0) = .int r0 → gG E A s.heap (rM E am mm0 ++ []) H locs → decode cX12_tell pc = .ok (.ireturn, 1) → W p l e (rmD 3 0 0) s m args below meth c H locs 0 0 Q (F0 m pc ls' [.int r0]) := by
    intro r0 mm0 H locs pc ls' e0 hn; cases e0; exact hret H locs pc ls' hn
  have K32 : ∀  (s0 : Int32) (s1 : Int32) (s2 : Int32) (mm : RS) (H : Heap) (locs : List Loc) (ls : Array Slot), gG E A s.heap (rM E am mm ++ []) H locs → lv_has ls 3 [(0, .ref (am 0)), (1, .int x1), (2, .int x2)] → fX12_tell_L32 N x1 x2 s0 s1 s2 mm = some res → W p l e (rmD 3 0 0) s m args below meth c H locs 0 0 Q (F0 m 32 ls [.int s2, .int s1, .int s0]) := by
    intro s0 s1 s2 mm H locs ls hG hl h
    rw [fX12_tell_L32] at h
    refine gF_i (ws' := (rM E am mm ++ [])) C hG pst pst.symm (gR_S (As := [.int s0, .int s1, .int s2]) (rest := []) C hz hl.1 hG pst (c_X12_isIn l E s0 s1 s2 rfl H.size) okX12_isIn q1446 rfl (Nat.le_of_ble_eq_true rfl) (by omega) ⟨Nat.le_refl _, Nat.le_refl _⟩ dX12_tell_32) (fun H locs z1 hG => ?_)
    refine lv_if_ne (tgt := 40) hx hb dX12_tell_35 (by decide) (fun c35 => ?_) (fun c35 => ?_)
    · replace h := ie c35 h
      refine lv_aload_n hx hb dX12_tell_40 rfl (lv_at hl 0 rfl) ?_
      obtain ⟨r2, hcr2, h⟩ := bnd_some h
      refine gF_v (ws' := (rM E am r2 ++ [])) C hG (pin pnil) (List.Perm.symm (pin pnil)) (gR_V (As := []) (rest := []) C hz hl.1 hG (pin pnil) (c_X12_keep l E am N mm hcr2 H.size) okX12_keep q1539 0 rfl rfl rfl (Nat.le_of_ble_eq_true rfl) (by omega) ⟨Nat.le_refl _, Nat.le_refl _⟩ dX12_tell_41) (fun H locs hG => ?_)
      refine lv_aload_n hx hb dX12_tell_44 rfl (lv_at hl 0 rfl) ?_
      refine gL_f (v := .ref (am 1)) C hG kX12 0 0 rfl (by decide) rfl q1352 rfl dX12_tell_45 ?_
      refine lv_bipush (v := 7) hx hb dX12_tell_48 (by decide) ?_
      refine lv_iload_n hx hb dX12_tell_50 rfl (lv_at hl 1 rfl) ?_
      refine lv_iadd hx hb dX12_tell_51 ?_
      refine lv_iload_n hx hb dX12_tell_52 rfl (lv_at hl 2 rfl) ?_
      obtain ⟨b3, h⟩ := ck_some h
      obtain ⟨mm_4, emm_4, h⟩ := thn_some h
      refine gS_i (x := x2) (ws' := (rM E am mm_4 ++ [])) C hG 1 rfl (inb_in b3) rfl dX12_tell_53 (by rw [emm_4]; rfl) (fun H locs hG => ?_)
      refine lv_iconst (v := 1) hx hb dX12_tell_54 (by decide) ?_
      exact hret _ _ _ _ _ _ h rfl hG dX12_tell_55
    · replace h := it c35 h
      refine lv_iconst (v := 0) hx hb dX12_tell_38 (by decide) ?_
      exact hret _ _ _ _ _ _ h rfl hG dX12_tell_39
  rw [fX12_tell] at h
  refine lv_iload_n hx hb dX12_tell_0 rfl (lv_at hl 1 rfl) ?_
  refine lv_iconst (v := 0) hx hb dX12_tell_1 (by decide) ?_
  refine lv_iconst (v := 2) hx hb dX12_tell_2 (by decide) ?_
  refine gF_i (ws' := (rM E am mm ++ [])) C hG pst pst.symm (gR_S (As := [.int x1, .int 0, .int 2]) (rest := []) C hz hl.1 hG pst (c_X12_isIn l E x1 0 2 rfl H.size) okX12_isIn q1446 rfl (Nat.le_of_ble_eq_true rfl) (by omega) ⟨Nat.le_refl _, Nat.le_refl _⟩ dX12_tell_3) (fun H locs z1 hG => ?_)
  refine lv_if_eq (tgt := 38) hx hb dX12_tell_6 (by decide) (fun c6 => ?_) (fun c6 => ?_)
  · replace h := it c6 h
    refine lv_iconst (v := 0) hx hb dX12_tell_38 (by decide) ?_
    exact hret _ _ _ _ _ _ h rfl hG dX12_tell_39
  · replace h := ie c6 h
    refine lv_iload_n hx hb dX12_tell_9 rfl (lv_at hl 2 rfl) ?_
    refine lv_iconst (v := 0) hx hb dX12_tell_10 (by decide) ?_
    refine lv_iload_n hx hb dX12_tell_11 rfl (lv_at hl 1 rfl) ?_
    refine lv_if_ne (tgt := 20) hx hb dX12_tell_12 (by decide) (fun c12 => ?_) (fun c12 => ?_)
    · replace h := ie c12 h
      refine lv_iload_n hx hb dX12_tell_20 rfl (lv_at hl 1 rfl) ?_
      refine lv_iconst (v := 1) hx hb dX12_tell_21 (by decide) ?_
      refine lv_icmp_ne (tgt := 30) hx hb dX12_tell_22 (by decide) (fun c22 => ?_) (fun c22 => ?_)
      · replace h := ie c22 h
        refine lv_bipush (v := 40) hx hb dX12_tell_30 (by decide) ?_
        exact K32 x2 0 40 mm _ _ _ hG (lv_sub hl [0, 1, 2] rfl) h
      · replace h := it c22 h
        refine lv_bipush (v := 12) hx hb dX12_tell_25 (by decide) ?_
        refine lv_goto (tgt := 32) hx hb dX12_tell_27 (by decide) ?_
        exact K32 x2 0 12 mm _ _ _ hG (lv_sub hl [0, 1, 2] rfl) h
    · replace h := it c12 h
      refine lv_bipush (v := 6) hx hb dX12_tell_15 (by decide) ?_
      refine lv_goto (tgt := 32) hx hb dX12_tell_17 (by decide) ?_
      exact K32 x2 0 6 mm _ _ _ hG (lv_sub hl [0, 1, 2] rfl) h
set_option maxHeartbeats 4000000 in
set_option maxRecDepth 100000 in
theorem c_X12_ask (l : Launch) (E : GE) (am : Nat → Nat) (N : Nat) (x1 : Int32) (mm : RS) {res : Int32 × RS} (h : fX12_ask N x1 mm = some res) : gMi l E yX12_ask cX12_ask 2 .int 3 0 0 [.ref (am 0), .int x1] (rM E am mm ++ []) (rM E am res.2 ++ []) res.1 := by
  refine gMi_of (own := RX12) (by decide +kernel) rfl (Nat.le_of_ble_eq_true rfl) ?_
  intro p e s m args below meth c A ls Q H locs C hz hl hG hret
  have hx := C.1.1
  have hb := C.1.2.1
  have hts := C.1.2.2.2.2
  have hown := C.1.2.2.2.1
  have hl : lv_has ls 2 [(0, .ref (am 0)), (1, .int x1)] := hl
  replace hret : ∀ (r0 : Int32) (mm0 : RS) (H : Heap) (locs : List Loc) (pc : Nat) (ls' : Array Slot), some (r0, mm0) = some res → narrow .int (.int r0) = .int r0 → gG E A s.heap (rM E am mm0 ++ []) H locs → decode cX12_ask pc = .ok (.ireturn, 1) → W p l e (rmD 3 0 0) s m args below meth c H locs 0 0 Q (F0 m pc ls' [.int r0]) := by
    intro r0 mm0 H locs pc ls' e0 hn; cases e0; exact hret H locs pc ls' hn
  rw [fX12_ask] at h
  refine lv_iload_n hx hb dX12_ask_0 rfl (lv_at hl 1 rfl) ?_
  refine gF_i (ws' := (rM E am mm ++ [])) C hG pst pst.symm (gR_S (As := [.int x1]) (rest := []) C hz hl.1 hG pst (c_X12_isExtent l E x1 rfl H.size) okX12_isExtent q1533 rfl (Nat.le_of_ble_eq_true rfl) (by omega) ⟨Nat.le_refl _, Nat.le_refl _⟩ dX12_ask_1) (fun H locs z1 hG => ?_)
  refine lv_if_eq (tgt := 15) hx hb dX12_ask_4 (by decide) (fun c4 => ?_) (fun c4 => ?_)
  · replace h := it c4 h
    refine lv_iconst (v := (-1)) hx hb dX12_ask_15 (by decide) ?_
    exact hret _ _ _ _ _ _ h rfl hG dX12_ask_16
  · replace h := ie c4 h
    refine lv_aload_n hx hb dX12_ask_7 rfl (lv_at hl 0 rfl) ?_
    refine lv_iload_n hx hb dX12_ask_8 rfl (lv_at hl 1 rfl) ?_
    obtain ⟨r2, hcr2, h⟩ := bnd_some h
    refine gF_i (ws' := (rM E am mm ++ [])) C hG (pin pnil) (List.Perm.symm (pin pnil)) (gR_V (As := [.int x1]) (rest := []) C hz hl.1 hG (pin pnil) (c_X12_moveAt l E am N x1 mm hcr2 H.size) okX12_moveAt q1582 0 rfl rfl rfl (Nat.le_of_ble_eq_true rfl) (by omega) ⟨Nat.le_refl _, Nat.le_refl _⟩ dX12_ask_9) (fun H locs _ hG => ?_)
    refine lv_if_lt (tgt := 17) hx hb dX12_ask_12 (by decide) (fun c12 => ?_) (fun c12 => ?_)
    · replace h := it c12 h
      refine lv_aload_n hx hb dX12_ask_17 rfl (lv_at hl 0 rfl) ?_
      obtain ⟨r3, hcr3, h⟩ := bnd_some h
      refine gF_v (ws' := (rM E am r3 ++ [])) C hG (pin pnil) (List.Perm.symm (pin pnil)) (gR_V (As := []) (rest := []) C hz hl.1 hG (pin pnil) (c_X12_keep l E am N mm hcr3 H.size) okX12_keep q1539 0 rfl rfl rfl (Nat.le_of_ble_eq_true rfl) (by omega) ⟨Nat.le_refl _, Nat.le_refl _⟩ dX12_ask_18) (fun H locs hG => ?_)
      refine lv_aload_n hx hb dX12_ask_21 rfl (lv_at hl 0 rfl) ?_
      refine lv_iload_n hx hb dX12_ask_22 rfl (lv_at hl 1 rfl) ?_
      obtain ⟨r4, hcr4, h⟩ := bnd_some h
      refine gF_v (ws' := (rM E am r4 ++ [])) C hG (pin pnil) (List.Perm.symm (pin pnil)) (gR_V (As := [.int x1]) (rest := []) C hz hl.1 hG (pin pnil) (c_X12_addMove l E am N x1 r3 hcr4 H.size) okX12_addMove q1610 0 rfl rfl rfl (Nat.le_of_ble_eq_true rfl) (by omega) ⟨Nat.le_refl _, Nat.le_refl _⟩ dX12_ask_23) (fun H locs hG => ?_)
      refine lv_aload_n hx hb dX12_ask_26 rfl (lv_at hl 0 rfl) ?_
      refine gL_f (v := .ref (am 1)) C hG kX12 0 0 rfl (by decide) rfl q1352 rfl dX12_ask_27 ?_
      refine lv_bipush (v := 17) hx hb dX12_ask_30 (by decide) ?_
      refine gL_i (v := (r4 1 17)) C hG 1 rfl (vp_in_nI (n := 17) (by decide) (by decide)) (congrArg (r4 1) (nI_clamp (n := 17) (by decide))) dX12_ask_32 ?_
      exact hret _ _ _ _ _ _ h rfl hG dX12_ask_33
    · replace h := ie c12 h
      refine lv_iconst (v := (-1)) hx hb dX12_ask_15 (by decide) ?_
      exact hret _ _ _ _ _ _ h rfl hG dX12_ask_16
set_option maxHeartbeats 4000000 in
set_option maxRecDepth 100000 in
theorem c_X12_drop (l : Launch) (E : GE) (am : Nat → Nat) (N : Nat) (x1 : Int32) (mm : RS) {res : Int32 × RS} (h : fX12_drop N x1 mm = some res) : gMi l E yX12_drop cX12_drop 2 .int 4 0 0 [.ref (am 0), .int x1] (rM E am mm ++ []) (rM E am res.2 ++ []) res.1 := by
  refine gMi_of (own := RX12) (by decide +kernel) rfl (Nat.le_of_ble_eq_true rfl) ?_
  intro p e s m args below meth c A ls Q H locs C hz hl hG hret
  have hx := C.1.1
  have hb := C.1.2.1
  have hts := C.1.2.2.2.2
  have hown := C.1.2.2.2.1
  have hl : lv_has ls 2 [(0, .ref (am 0)), (1, .int x1)] := hl
  replace hret : ∀ (r0 : Int32) (mm0 : RS) (H : Heap) (locs : List Loc) (pc : Nat) (ls' : Array Slot), some (r0, mm0) = some res → narrow .int (.int r0) = .int r0 → gG E A s.heap (rM E am mm0 ++ []) H locs → decode cX12_drop pc = .ok (.ireturn, 1) → W p l e (rmD 4 0 0) s m args below meth c H locs 0 0 Q (F0 m pc ls' [.int r0]) := by
    intro r0 mm0 H locs pc ls' e0 hn; cases e0; exact hret H locs pc ls' hn
  rw [fX12_drop] at h
  refine lv_iload_n hx hb dX12_drop_0 rfl (lv_at hl 1 rfl) ?_
  refine gF_i (ws' := (rM E am mm ++ [])) C hG pst pst.symm (gR_S (As := [.int x1]) (rest := []) C hz hl.1 hG pst (c_X12_isExtent l E x1 rfl H.size) okX12_isExtent q1533 rfl (Nat.le_of_ble_eq_true rfl) (by omega) ⟨Nat.le_refl _, Nat.le_refl _⟩ dX12_drop_1) (fun H locs z1 hG => ?_)
  refine lv_if_eq (tgt := 16) hx hb dX12_drop_4 (by decide) (fun c4 => ?_) (fun c4 => ?_)
  · replace h := it c4 h
    refine lv_iconst (v := (-1)) hx hb dX12_drop_16 (by decide) ?_
    exact hret _ _ _ _ _ _ h rfl hG dX12_drop_17
  · replace h := ie c4 h
    refine lv_aload_n hx hb dX12_drop_7 rfl (lv_at hl 0 rfl) ?_
    refine lv_iload_n hx hb dX12_drop_8 rfl (lv_at hl 1 rfl) ?_
    obtain ⟨r2, hcr2, h⟩ := bnd_some h
    refine gF_i (ws' := (rM E am mm ++ [])) C hG (pin pnil) (List.Perm.symm (pin pnil)) (gR_V (As := [.int x1]) (rest := []) C hz hl.1 hG (pin pnil) (c_X12_moveAt l E am N x1 mm hcr2 H.size) okX12_moveAt q1582 0 rfl rfl rfl (Nat.le_of_ble_eq_true rfl) (by omega) ⟨Nat.le_refl _, Nat.le_refl _⟩ dX12_drop_9) (fun H locs _ hG => ?_)
    refine lv_iconst (v := (-1)) hx hb dX12_drop_12 (by decide) ?_
    refine lv_icmp_ne (tgt := 18) hx hb dX12_drop_13 (by decide) (fun c13 => ?_) (fun c13 => ?_)
    · replace h := ie c13 h
      refine lv_aload_n hx hb dX12_drop_18 rfl (lv_at hl 0 rfl) ?_
      obtain ⟨r3, hcr3, h⟩ := bnd_some h
      refine gF_v (ws' := (rM E am r3 ++ [])) C hG (pin pnil) (List.Perm.symm (pin pnil)) (gR_V (As := []) (rest := []) C hz hl.1 hG (pin pnil) (c_X12_keep l E am N mm hcr3 H.size) okX12_keep q1539 0 rfl rfl rfl (Nat.le_of_ble_eq_true rfl) (by omega) ⟨Nat.le_refl _, Nat.le_refl _⟩ dX12_drop_19) (fun H locs hG => ?_)
      refine lv_aload_n hx hb dX12_drop_22 rfl (lv_at hl 0 rfl) ?_
      refine lv_aload_n hx hb dX12_drop_23 rfl (lv_at hl 0 rfl) ?_
      refine lv_iload_n hx hb dX12_drop_24 rfl (lv_at hl 1 rfl) ?_
      obtain ⟨r4, hcr4, h⟩ := bnd_some h
      refine gF_i (ws' := (rM E am r3 ++ [])) C hG (pin pnil) (List.Perm.symm (pin pnil)) (gR_V (As := [.int x1]) (rest := [.ref (am 0)]) C hz hl.1 hG (pin pnil) (c_X12_moveAt l E am N x1 r3 hcr4 H.size) okX12_moveAt q1582 0 rfl rfl rfl (Nat.le_of_ble_eq_true rfl) (by omega) ⟨Nat.le_refl _, Nat.le_refl _⟩ dX12_drop_25) (fun H locs _ hG => ?_)
      obtain ⟨r5, hcr5, h⟩ := bnd_some h
      refine gF_v (ws' := (rM E am r5 ++ [])) C hG (pin pnil) (List.Perm.symm (pin pnil)) (gR_V (As := [.int r4]) (rest := []) C hz hl.1 hG (pin pnil) (c_X12_dropMove l E am N r4 r3 hcr5 H.size) okX12_dropMove q1618 0 rfl rfl rfl (Nat.le_of_ble_eq_true rfl) (by omega) ⟨Nat.le_refl _, Nat.le_refl _⟩ dX12_drop_28) (fun H locs hG => ?_)
      refine lv_aload_n hx hb dX12_drop_31 rfl (lv_at hl 0 rfl) ?_
      refine gL_f (v := .ref (am 1)) C hG kX12 0 0 rfl (by decide) rfl q1352 rfl dX12_drop_32 ?_
      refine lv_bipush (v := 17) hx hb dX12_drop_35 (by decide) ?_
      refine gL_i (v := (r5 1 17)) C hG 1 rfl (vp_in_nI (n := 17) (by decide) (by decide)) (congrArg (r5 1) (nI_clamp (n := 17) (by decide))) dX12_drop_37 ?_
      exact hret _ _ _ _ _ _ h rfl hG dX12_drop_38
    · replace h := it c13 h
      refine lv_iconst (v := (-1)) hx hb dX12_drop_16 (by decide) ?_
      exact hret _ _ _ _ _ _ h rfl hG dX12_drop_17
set_option maxHeartbeats 4000000 in
set_option maxRecDepth 100000 in
theorem c_X12_day (l : Launch) (E : GE) (am : Nat → Nat) (N : Nat) (x1 : Int32) (mm : RS) {res : Int32 × RS} (h : fX12_day N x1 mm = some res) : gMi l E yX12_day cX12_day 2 .int 10 0 0 [.ref (am 0), .int x1] (rM E am mm ++ []) (rM E am res.2 ++ []) res.1 := by
  refine gMi_of (own := RX12) (by decide +kernel) rfl (Nat.le_of_ble_eq_true rfl) ?_
  intro p e s m args below meth c A ls Q H locs C hz hl hG hret
  have hx := C.1.1
  have hb := C.1.2.1
  have hts := C.1.2.2.2.2
  have hown := C.1.2.2.2.1
  have hl : lv_has ls 2 [(0, .ref (am 0)), (1, .int x1)] := hl
  replace hret : ∀ (r0 : Int32) (mm0 : RS) (H : Heap) (locs : List Loc) (pc : Nat) (ls' : Array Slot), some (r0, mm0) = some res → narrow .int (.int r0) = .int r0 → gG E A s.heap (rM E am mm0 ++ []) H locs → decode cX12_day pc = .ok (.ireturn, 1) → W p l e (rmD 10 0 0) s m args below meth c H locs 0 0 Q (F0 m pc ls' [.int r0]) := by
    intro r0 mm0 H locs pc ls' e0 hn; cases e0; exact hret H locs pc ls' hn
  rw [fX12_day] at h
  refine lv_iload_n hx hb dX12_day_0 rfl (lv_at hl 1 rfl) ?_
  refine lv_iconst (v := 1) hx hb dX12_day_1 (by decide) ?_
  refine lv_bipush (v := 8) hx hb dX12_day_2 (by decide) ?_
  refine gF_i (ws' := (rM E am mm ++ [])) C hG pst pst.symm (gR_S (As := [.int x1, .int 1, .int 8]) (rest := []) C hz hl.1 hG pst (c_X12_isIn l E x1 1 8 rfl H.size) okX12_isIn q1446 rfl (Nat.le_of_ble_eq_true rfl) (by omega) ⟨Nat.le_refl _, Nat.le_refl _⟩ dX12_day_4) (fun H locs z1 hG => ?_)
  refine lv_if_ne (tgt := 12) hx hb dX12_day_7 (by decide) (fun c7 => ?_) (fun c7 => ?_)
  · replace h := ie c7 h
    refine lv_aload_n hx hb dX12_day_12 rfl (lv_at hl 0 rfl) ?_
    obtain ⟨r2, hcr2, h⟩ := bnd_some h
    refine gF_v (ws' := (rM E am r2 ++ [])) C hG (pin pnil) (List.Perm.symm (pin pnil)) (gR_V (As := []) (rest := []) C hz hl.1 hG (pin pnil) (c_X12_keep l E am N mm hcr2 H.size) okX12_keep q1539 0 rfl rfl rfl (Nat.le_of_ble_eq_true rfl) (by omega) ⟨Nat.le_refl _, Nat.le_refl _⟩ dX12_day_13) (fun H locs hG => ?_)
    refine lv_aload_n hx hb dX12_day_16 rfl (lv_at hl 0 rfl) ?_
    refine lv_iload_n hx hb dX12_day_17 rfl (lv_at hl 1 rfl) ?_
    obtain ⟨r3, hcr3, h⟩ := bnd_some h
    refine gF_v (ws' := (rM E am r3 ++ [])) C hG (pin pnil) (List.Perm.symm (pin pnil)) (gR_V (As := [.int x1]) (rest := []) C hz hl.1 hG (pin pnil) (c_X12_ticks l E am N x1 r2 hcr3 H.size) okX12_ticks q1638 0 rfl rfl rfl (Nat.le_of_ble_eq_true rfl) (by omega) ⟨Nat.le_refl _, Nat.le_refl _⟩ dX12_day_18) (fun H locs hG => ?_)
    refine lv_aload_n hx hb dX12_day_21 rfl (lv_at hl 0 rfl) ?_
    refine gL_f (v := .ref (am 1)) C hG kX12 0 0 rfl (by decide) rfl q1352 rfl dX12_day_22 ?_
    refine lv_iconst (v := 3) hx hb dX12_day_25 (by decide) ?_
    refine gL_i (v := (r3 1 3)) C hG 1 rfl (vp_in_nI (n := 3) (by decide) (by decide)) (congrArg (r3 1) (nI_clamp (n := 3) (by decide))) dX12_day_26 ?_
    exact hret _ _ _ _ _ _ h rfl hG dX12_day_27
  · replace h := it c7 h
    refine lv_iconst (v := (-1)) hx hb dX12_day_10 (by decide) ?_
    exact hret _ _ _ _ _ _ h rfl hG dX12_day_11
set_option maxHeartbeats 4000000 in
set_option maxRecDepth 100000 in
theorem c_X12_crash (l : Launch) (E : GE) (am : Nat → Nat) (N : Nat) (mm : RS) {res : Int32 × RS} (h : fX12_crash N mm = some res) : gMi l E yX12_crash cX12_crash 1 .int 4 0 0 [.ref (am 0)] (rM E am mm ++ []) (rM E am res.2 ++ []) res.1 := by
  refine gMi_of (own := RX12) (by decide +kernel) rfl (Nat.le_of_ble_eq_true rfl) ?_
  intro p e s m args below meth c A ls Q H locs C hz hl hG hret
  have hx := C.1.1
  have hb := C.1.2.1
  have hts := C.1.2.2.2.2
  have hown := C.1.2.2.2.1
  have hl : lv_has ls 1 [(0, .ref (am 0))] := hl
  replace hret : ∀ (r0 : Int32) (mm0 : RS) (H : Heap) (locs : List Loc) (pc : Nat) (ls' : Array Slot), some (r0, mm0) = some res → narrow .int (.int r0) = .int r0 → gG E A s.heap (rM E am mm0 ++ []) H locs → decode cX12_crash pc = .ok (.ireturn, 1) → W p l e (rmD 4 0 0) s m args below meth c H locs 0 0 Q (F0 m pc ls' [.int r0]) := by
    intro r0 mm0 H locs pc ls' e0 hn; cases e0; exact hret H locs pc ls' hn
  rw [fX12_crash] at h
  refine lv_aload_n hx hb dX12_crash_0 rfl (lv_at hl 0 rfl) ?_
  obtain ⟨r1, hcr1, h⟩ := bnd_some h
  refine gF_v (ws' := (rM E am r1 ++ [])) C hG (pin pnil) (List.Perm.symm (pin pnil)) (gR_V (As := []) (rest := []) C hz hl.1 hG (pin pnil) (c_X12_keep l E am N mm hcr1 H.size) okX12_keep q1539 0 rfl rfl rfl (Nat.le_of_ble_eq_true rfl) (by omega) ⟨Nat.le_refl _, Nat.le_refl _⟩ dX12_crash_1) (fun H locs hG => ?_)
  refine lv_aload_n hx hb dX12_crash_4 rfl (lv_at hl 0 rfl) ?_
  obtain ⟨r2, hcr2, h⟩ := bnd_some h
  refine gF_i (ws' := (rM E am r2.2 ++ [])) C hG (pin pnil) (List.Perm.symm (pin pnil)) (gR_V (As := []) (rest := []) C hz hl.1 hG (pin pnil) (c_X12_crashNow l E am N r1 hcr2 H.size) okX12_crashNow q1726 0 rfl rfl rfl (Nat.le_of_ble_eq_true rfl) (by omega) ⟨Nat.le_refl _, Nat.le_refl _⟩ dX12_crash_5) (fun H locs _ hG => ?_)
  exact hret _ _ _ _ _ _ h rfl hG dX12_crash_8
set_option maxHeartbeats 4000000 in
set_option maxRecDepth 100000 in
theorem c_X12_played (l : Launch) (E : GE) (am : Nat → Nat) (N : Nat) (x1 : Int32) (mm : RS) {res : Int32 × RS} (h : fX12_played N x1 mm = some res) : gMi l E yX12_played cX12_played 2 .int 12 0 0 [.ref (am 0), .int x1] (rM E am mm ++ []) (rM E am res.2 ++ []) res.1 := by
  refine gMi_of (own := RX12) (by decide +kernel) rfl (Nat.le_of_ble_eq_true rfl) ?_
  intro p e s m args below meth c A ls Q H locs C hz hl hG hret
  have hx := C.1.1
  have hb := C.1.2.1
  have hts := C.1.2.2.2.2
  have hown := C.1.2.2.2.1
  have hl : lv_has ls 2 [(0, .ref (am 0)), (1, .int x1)] := hl
  replace hret : ∀ (r0 : Int32) (mm0 : RS) (H : Heap) (locs : List Loc) (pc : Nat) (ls' : Array Slot), some (r0, mm0) = some res → narrow .int (.int r0) = .int r0 → gG E A s.heap (rM E am mm0 ++ []) H locs → decode cX12_played pc = .ok (.ireturn, 1) → W p l e (rmD 12 0 0) s m args below meth c H locs 0 0 Q (F0 m pc ls' [.int r0]) := by
    intro r0 mm0 H locs pc ls' e0 hn; cases e0; exact hret H locs pc ls' hn
  rw [fX12_played] at h
  refine lv_iload_n hx hb dX12_played_0 rfl (lv_at hl 1 rfl) ?_
  refine lv_iconst (v := 0) hx hb dX12_played_1 (by decide) ?_
  refine lv_aload_n hx hb dX12_played_2 rfl (lv_at hl 0 rfl) ?_
  refine gL_f (v := .ref (am 1)) C hG kX12 0 0 rfl (by decide) rfl q1352 rfl dX12_played_3 ?_
  refine lv_iconst (v := 0) hx hb dX12_played_6 (by decide) ?_
  refine gL_i (v := (mm 1 0)) C hG 1 rfl (vp_in_nI (n := 0) (by decide) (by decide)) (congrArg (mm 1) (nI_clamp (n := 0) (by decide))) dX12_played_7 ?_
  refine lv_iconst (v := 1) hx hb dX12_played_8 (by decide) ?_
  refine lv_isub hx hb dX12_played_9 ?_
  refine gF_i (ws' := (rM E am mm ++ [])) C hG pst pst.symm (gR_S (As := [.int x1, .int 0, .int ((mm 1 0) - 1)]) (rest := []) C hz hl.1 hG pst (c_X12_isIn l E x1 0 ((mm 1 0) - 1) rfl H.size) okX12_isIn q1446 rfl (Nat.le_of_ble_eq_true rfl) (by omega) ⟨Nat.le_refl _, Nat.le_refl _⟩ dX12_played_10) (fun H locs z1 hG => ?_)
  refine lv_if_ne (tgt := 18) hx hb dX12_played_13 (by decide) (fun c13 => ?_) (fun c13 => ?_)
  · replace h := ie c13 h
    refine lv_aload_n hx hb dX12_played_18 rfl (lv_at hl 0 rfl) ?_
    obtain ⟨r2, hcr2, h⟩ := bnd_some h
    refine gF_v (ws' := (rM E am r2 ++ [])) C hG (pin pnil) (List.Perm.symm (pin pnil)) (gR_V (As := []) (rest := []) C hz hl.1 hG (pin pnil) (c_X12_keep l E am N mm hcr2 H.size) okX12_keep q1539 0 rfl rfl rfl (Nat.le_of_ble_eq_true rfl) (by omega) ⟨Nat.le_refl _, Nat.le_refl _⟩ dX12_played_19) (fun H locs hG => ?_)
    refine lv_aload_n hx hb dX12_played_22 rfl (lv_at hl 0 rfl) ?_
    refine lv_iload_n hx hb dX12_played_23 rfl (lv_at hl 1 rfl) ?_
    obtain ⟨r3, hcr3, h⟩ := bnd_some h
    refine gF_i (ws' := (rM E am r3.2 ++ [])) C hG (pin pnil) (List.Perm.symm (pin pnil)) (gR_V (As := [.int x1]) (rest := []) C hz hl.1 hG (pin pnil) (c_X12_goText l E am N x1 r2 hcr3 H.size) okX12_goText q1734 0 rfl rfl rfl (Nat.le_of_ble_eq_true rfl) (by omega) ⟨Nat.le_refl _, Nat.le_refl _⟩ dX12_played_24) (fun H locs _ hG => ?_)
    exact hret _ _ _ _ _ _ h rfl hG dX12_played_27
  · replace h := it c13 h
    refine lv_iconst (v := (-1)) hx hb dX12_played_16 (by decide) ?_
    exact hret _ _ _ _ _ _ h rfl hG dX12_played_17
set_option maxHeartbeats 4000000 in
set_option maxRecDepth 100000 in
theorem c_X12_years (l : Launch) (E : GE) (am : Nat → Nat) (N : Nat) (x1 : Int32) (x2 : Int32) (mm : RS) {res : Int32 × RS} (h : fX12_years N x1 x2 mm = some res) : gMi l E yX12_years cX12_years 4 .int 10 0 0 [.ref (am 0), .int x1, .int x2] (rM E am mm ++ []) (rM E am res.2 ++ []) res.1 := by
  refine gMi_of (own := RX12) (by decide +kernel) rfl (Nat.le_of_ble_eq_true rfl) ?_
  intro p e s m args below meth c A ls Q H locs C hz hl hG hret
  have hx := C.1.1
  have hb := C.1.2.1
  have hts := C.1.2.2.2.2
  have hown := C.1.2.2.2.1
  have hl : lv_has ls 4 [(0, .ref (am 0)), (1, .int x1), (2, .int x2)] := hl
  replace hret : ∀ (r0 : Int32) (mm0 : RS) (H : Heap) (locs : List Loc) (pc : Nat) (ls' : Array Slot), some (r0, mm0) = some res → narrow .int (.int r0) = .int r0 → gG E A s.heap (rM E am mm0 ++ []) H locs → decode cX12_years pc = .ok (.ireturn, 1) → W p l e (rmD 10 0 0) s m args below meth c H locs 0 0 Q (F0 m pc ls' [.int r0]) := by
    intro r0 mm0 H locs pc ls' e0 hn; cases e0; exact hret H locs pc ls' hn
  have K42 : ∀ (k : Nat), ∀  (x3 : Int32) (mm : RS) (H : Heap) (locs : List Loc) (ls : Array Slot), gG E A s.heap (rM E am mm ++ []) H locs → lv_has ls 4 [(0, .ref (am 0)), (2, .int x2), (3, .int x3)] → fX12_years_L42 N x1 x2 k x3 mm = some res → W p l e (rmD 10 0 0) s m args below meth c H locs 0 0 Q (F0 m 42 ls []) := by
    intro k
    induction k with
    | zero => intro x3 mm H locs ls hG hl h; exact absurd (show none = _ from h) (by simp)
    | succ k ih =>
      intro x3 mm H locs ls hG hl h
      rw [fX12_years_L42] at h
      refine lv_iload_n hx hb dX12_years_42 rfl (lv_at hl 2 rfl) ?_
      refine lv_iload_n hx hb dX12_years_43 rfl (lv_at hl 1 rfl) ?_
      refine lv_icmp_ge (tgt := 61) hx hb dX12_years_44 (by decide) (fun c44 => ?_) (fun c44 => ?_)
      · replace h := it c44 h
        refine lv_aload_n hx hb dX12_years_61 rfl (lv_at hl 0 rfl) ?_
        refine gL_f (v := .ref (am 1)) C hG kX12 0 0 rfl (by decide) rfl q1352 rfl dX12_years_62 ?_
        refine lv_iconst (v := 3) hx hb dX12_years_65 (by decide) ?_
        refine gL_i (v := (mm 1 3)) C hG 1 rfl (vp_in_nI (n := 3) (by decide) (by decide)) (congrArg (mm 1) (nI_clamp (n := 3) (by decide))) dX12_years_66 ?_
        exact hret _ _ _ _ _ _ h rfl hG dX12_years_67
      · replace h := ie c44 h
        refine lv_aload_n hx hb dX12_years_47 rfl (lv_at hl 0 rfl) ?_
        refine lv_aload_n hx hb dX12_years_48 rfl (lv_at hl 0 rfl) ?_
        obtain ⟨r1, hcr1, h⟩ := thn_some h
        refine gF_i (ws' := (rM E am r1.2 ++ [])) C hG (pin pnil) (List.Perm.symm (pin pnil)) (gR_V (As := []) (rest := [.ref (am 0)]) C hz hl.1 hG (pin pnil) (c_X12_drawn l E am mm hcr1.symm H.size) okX12_drawn q1794 0 rfl rfl rfl (Nat.le_of_ble_eq_true rfl) (by omega) ⟨Nat.le_refl _, Nat.le_refl _⟩ dX12_years_49) (fun H locs _ hG => ?_)
        obtain ⟨r2, hcr2, h⟩ := bnd_some h
        refine gF_v (ws' := (rM E am r2 ++ [])) C hG (pin pnil) (List.Perm.symm (pin pnil)) (gR_V (As := [.int r1.1]) (rest := []) C hz hl.1 hG (pin pnil) (c_X12_happens l E am N r1.1 r1.2 hcr2 H.size) okX12_happens q1801 0 rfl rfl rfl (Nat.le_of_ble_eq_true rfl) (by omega) ⟨Nat.le_refl _, Nat.le_refl _⟩ dX12_years_52) (fun H locs hG => ?_)
        refine lv_iinc (v := (x3 + 1)) (lv' := [(3, .int (x3 + 1)), (0, .ref (am 0)), (2, .int x2)]) hx hb dX12_years_55 hl (k := 2) rfl (congrArg (x3 + ·) (by decide : Int32.ofInt 1 = 1)) (by decide) rfl (fun ls hl => ?_)
        refine lv_goto (tgt := 42) hx hb dX12_years_58 (by decide) ?_
        exact ih (x3 + 1) r2 _ _ _ hG (lv_sub hl [1, 2, 0] rfl) h
  rw [fX12_years] at h
  refine lv_iload_n hx hb dX12_years_0 rfl (lv_at hl 1 rfl) ?_
  refine lv_iconst (v := 0) hx hb dX12_years_1 (by decide) ?_
  refine lv_sipush (v := 9999) hx hb dX12_years_2 (by decide) ?_
  refine gF_i (ws' := (rM E am mm ++ [])) C hG pst pst.symm (gR_S (As := [.int x1, .int 0, .int 9999]) (rest := []) C hz hl.1 hG pst (c_X12_isIn l E x1 0 9999 rfl H.size) okX12_isIn q1446 rfl (Nat.le_of_ble_eq_true rfl) (by omega) ⟨Nat.le_refl _, Nat.le_refl _⟩ dX12_years_5) (fun H locs z1 hG => ?_)
  refine lv_if_eq (tgt := 21) hx hb dX12_years_8 (by decide) (fun c8 => ?_) (fun c8 => ?_)
  · replace h := it c8 h
    refine lv_iconst (v := (-1)) hx hb dX12_years_21 (by decide) ?_
    exact hret _ _ _ _ _ _ h rfl hG dX12_years_22
  · replace h := ie c8 h
    refine lv_iload_n hx hb dX12_years_11 rfl (lv_at hl 2 rfl) ?_
    refine lv_iconst (v := 1) hx hb dX12_years_12 (by decide) ?_
    refine lv_bipush (v := 24) hx hb dX12_years_13 (by decide) ?_
    refine gF_i (ws' := (rM E am mm ++ [])) C hG pst pst.symm (gR_S (As := [.int x2, .int 1, .int 24]) (rest := []) C hz hl.1 hG pst (c_X12_isIn l E x2 1 24 rfl H.size) okX12_isIn q1446 rfl (Nat.le_of_ble_eq_true rfl) (by omega) ⟨Nat.le_refl _, Nat.le_refl _⟩ dX12_years_15) (fun H locs z2 hG => ?_)
    refine lv_if_ne (tgt := 23) hx hb dX12_years_18 (by decide) (fun c18 => ?_) (fun c18 => ?_)
    · replace h := ie c18 h
      refine lv_aload_n hx hb dX12_years_23 rfl (lv_at hl 0 rfl) ?_
      obtain ⟨r3, hcr3, h⟩ := bnd_some h
      refine gF_v (ws' := (rM E am r3 ++ [])) C hG (pin pnil) (List.Perm.symm (pin pnil)) (gR_V (As := []) (rest := []) C hz hl.1 hG (pin pnil) (c_X12_keep l E am N mm hcr3 H.size) okX12_keep q1539 0 rfl rfl rfl (Nat.le_of_ble_eq_true rfl) (by omega) ⟨Nat.le_refl _, Nat.le_refl _⟩ dX12_years_24) (fun H locs hG => ?_)
      refine lv_aload_n hx hb dX12_years_27 rfl (lv_at hl 0 rfl) ?_
      refine gL_f (v := .ref (am 1)) C hG kX12 0 0 rfl (by decide) rfl q1352 rfl dX12_years_28 ?_
      refine lv_iconst (v := 4) hx hb dX12_years_31 (by decide) ?_
      refine lv_iload_n hx hb dX12_years_32 rfl (lv_at hl 1 rfl) ?_
      refine lv_iconst (v := 2) hx hb dX12_years_33 (by decide) ?_
      refine lv_imul hx hb dX12_years_34 ?_
      refine lv_sipush (v := 409) hx hb dX12_years_35 (by decide) ?_
      refine lv_iadd hx hb dX12_years_38 ?_
      obtain ⟨mm_4, emm_4, h⟩ := thn_some h
      refine gS_i (x := ((x1 * 2) + 409)) (ws' := (rM E am mm_4 ++ [])) C hG 1 rfl (vp_in_nI (n := 4) (by decide) (by decide)) (nI_clamp (n := 4) (by decide)) dX12_years_39 (by rw [emm_4]; rfl) (fun H locs hG => ?_)
      refine lv_iconst (v := 0) hx hb dX12_years_40 (by decide) ?_
      refine lv_istore_n (lv' := [(3, .int 0), (0, .ref (am 0)), (1, .int x1), (2, .int x2)]) hx hb dX12_years_41 rfl hl (by decide) rfl (fun ls hl => ?_)
      exact K42 N 0 mm_4 _ _ _ hG (lv_sub hl [1, 3, 0] rfl) h
    · replace h := it c18 h
      refine lv_iconst (v := (-1)) hx hb dX12_years_21 (by decide) ?_
      exact hret _ _ _ _ _ _ h rfl hG dX12_years_22
set_option maxHeartbeats 4000000 in
set_option maxRecDepth 100000 in
theorem c_X12_is (l : Launch) (E : GE) (am : Nat → Nat) (N : Nat) (x1 : Int32) (mm : RS) {res : Int32} (h : fX12_is N x1 mm = some res) : gMi l E yX12_is cX12_is 2 .int 2 0 0 [.ref (am 0), .int x1] (rM E am mm ++ []) (rM E am mm ++ []) res := by
  refine gMi_of (own := RX12) (by decide +kernel) rfl (Nat.le_of_ble_eq_true rfl) ?_
  intro p e s m args below meth c A ls Q H locs C hz hl hG hret
  have hx := C.1.1
  have hb := C.1.2.1
  have hts := C.1.2.2.2.2
  have hown := C.1.2.2.2.1
  have hl : lv_has ls 2 [(0, .ref (am 0)), (1, .int x1)] := hl
  replace hret : ∀ (r0 : Int32) (H : Heap) (locs : List Loc) (pc : Nat) (ls' : Array Slot), some r0 = some res → narrow .int (.int r0) = .int r0 → gG E A s.heap (rM E am mm ++ []) H locs → decode cX12_is pc = .ok (.ireturn, 1) → W p l e (rmD 2 0 0) s m args below meth c H locs 0 0 Q (F0 m pc ls' [.int r0]) := by
    intro r0 H locs pc ls' e0 hn; cases e0; exact hret H locs pc ls' hn
  rw [fX12_is] at h
  refine lv_iload_n hx hb dX12_is_0 rfl (lv_at hl 1 rfl) ?_
  refine lv_iconst (v := 0) hx hb dX12_is_1 (by decide) ?_
  refine lv_bipush (v := 12) hx hb dX12_is_2 (by decide) ?_
  refine gF_i (ws' := (rM E am mm ++ [])) C hG pst pst.symm (gR_S (As := [.int x1, .int 0, .int 12]) (rest := []) C hz hl.1 hG pst (c_X12_isIn l E x1 0 12 rfl H.size) okX12_isIn q1446 rfl (Nat.le_of_ble_eq_true rfl) (by omega) ⟨Nat.le_refl _, Nat.le_refl _⟩ dX12_is_4) (fun H locs z1 hG => ?_)
  refine lv_if_eq (tgt := 21) hx hb dX12_is_7 (by decide) (fun c7 => ?_) (fun c7 => ?_)
  · replace h := it c7 h
    refine lv_iconst (v := (-1)) hx hb dX12_is_21 (by decide) ?_
    exact hret _ _ _ _ _ h rfl hG dX12_is_22
  · replace h := ie c7 h
    refine lv_aload_n hx hb dX12_is_10 rfl (lv_at hl 0 rfl) ?_
    refine gL_f (v := .ref (am 1)) C hG kX12 0 0 rfl (by decide) rfl q1352 rfl dX12_is_11 ?_
    refine lv_iconst (v := 3) hx hb dX12_is_14 (by decide) ?_
    refine lv_iload_n hx hb dX12_is_15 rfl (lv_at hl 1 rfl) ?_
    refine lv_iadd hx hb dX12_is_16 ?_
    obtain ⟨b2, h⟩ := ck_some h
    refine gL_i (v := (mm 1 (3 + x1).toNatClampNeg)) C hG 1 rfl (inb_in b2) rfl dX12_is_17 ?_
    refine lv_goto (tgt := 22) hx hb dX12_is_18 (by decide) ?_
    exact hret _ _ _ _ _ h rfl hG dX12_is_22
set_option maxHeartbeats 4000000 in
set_option maxRecDepth 100000 in
theorem c_X12_where (l : Launch) (E : GE) (am : Nat → Nat) (N : Nat) (x1 : Int32) (mm : RS) {res : Int32} (h : fX12_where N x1 mm = some res) : gMi l E yX12_where cX12_where 2 .int 3 0 0 [.ref (am 0), .int x1] (rM E am mm ++ []) (rM E am mm ++ []) res := by
  refine gMi_of (own := RX12) (by decide +kernel) rfl (Nat.le_of_ble_eq_true rfl) ?_
  intro p e s m args below meth c A ls Q H locs C hz hl hG hret
  have hx := C.1.1
  have hb := C.1.2.1
  have hts := C.1.2.2.2.2
  have hown := C.1.2.2.2.1
  have hl : lv_has ls 2 [(0, .ref (am 0)), (1, .int x1)] := hl
  replace hret : ∀ (r0 : Int32) (H : Heap) (locs : List Loc) (pc : Nat) (ls' : Array Slot), some r0 = some res → narrow .int (.int r0) = .int r0 → gG E A s.heap (rM E am mm ++ []) H locs → decode cX12_where pc = .ok (.ireturn, 1) → W p l e (rmD 3 0 0) s m args below meth c H locs 0 0 Q (F0 m pc ls' [.int r0]) := by
    intro r0 H locs pc ls' e0 hn; cases e0; exact hret H locs pc ls' hn
  rw [fX12_where] at h
  refine lv_iload_n hx hb dX12_where_0 rfl (lv_at hl 1 rfl) ?_
  refine gF_i (ws' := (rM E am mm ++ [])) C hG pst pst.symm (gR_S (As := [.int x1]) (rest := []) C hz hl.1 hG pst (c_X12_isExtent l E x1 rfl H.size) okX12_isExtent q1533 rfl (Nat.le_of_ble_eq_true rfl) (by omega) ⟨Nat.le_refl _, Nat.le_refl _⟩ dX12_where_1) (fun H locs z1 hG => ?_)
  refine lv_if_eq (tgt := 19) hx hb dX12_where_4 (by decide) (fun c4 => ?_) (fun c4 => ?_)
  · replace h := it c4 h
    refine lv_iconst (v := (-1)) hx hb dX12_where_19 (by decide) ?_
    exact hret _ _ _ _ _ h rfl hG dX12_where_20
  · replace h := ie c4 h
    refine lv_aload_n hx hb dX12_where_7 rfl (lv_at hl 0 rfl) ?_
    refine gL_f (v := .ref (am 1)) C hG kX12 0 0 rfl (by decide) rfl q1352 rfl dX12_where_8 ?_
    refine lv_bipush (v := 109) hx hb dX12_where_11 (by decide) ?_
    refine lv_iload_n hx hb dX12_where_13 rfl (lv_at hl 1 rfl) ?_
    refine lv_iadd hx hb dX12_where_14 ?_
    obtain ⟨b2, h⟩ := ck_some h
    refine gL_i (v := (mm 1 (109 + x1).toNatClampNeg)) C hG 1 rfl (inb_in b2) rfl dX12_where_15 ?_
    refine lv_goto (tgt := 20) hx hb dX12_where_16 (by decide) ?_
    exact hret _ _ _ _ _ h rfl hG dX12_where_20
set_option maxHeartbeats 4000000 in
set_option maxRecDepth 100000 in
theorem c_X12_slot (l : Launch) (E : GE) (am : Nat → Nat) (N : Nat) (x1 : Int32) (x2 : Int32) (mm : RS) {res : Int32} (h : fX12_slot N x1 x2 mm = some res) : gMi l E yX12_slot cX12_slot 3 .int 4 0 0 [.ref (am 0), .int x1, .int x2] (rM E am mm ++ []) (rM E am mm ++ []) res := by
  refine gMi_of (own := RX12) (by decide +kernel) rfl (Nat.le_of_ble_eq_true rfl) ?_
  intro p e s m args below meth c A ls Q H locs C hz hl hG hret
  have hx := C.1.1
  have hb := C.1.2.1
  have hts := C.1.2.2.2.2
  have hown := C.1.2.2.2.1
  have hl : lv_has ls 3 [(0, .ref (am 0)), (1, .int x1), (2, .int x2)] := hl
  replace hret : ∀ (r0 : Int32) (H : Heap) (locs : List Loc) (pc : Nat) (ls' : Array Slot), some r0 = some res → narrow .int (.int r0) = .int r0 → gG E A s.heap (rM E am mm ++ []) H locs → decode cX12_slot pc = .ok (.ireturn, 1) → W p l e (rmD 4 0 0) s m args below meth c H locs 0 0 Q (F0 m pc ls' [.int r0]) := by
    intro r0 H locs pc ls' e0 hn; cases e0; exact hret H locs pc ls' hn
  rw [fX12_slot] at h
  refine lv_iload_n hx hb dX12_slot_0 rfl (lv_at hl 1 rfl) ?_
  refine lv_iload_n hx hb dX12_slot_1 rfl (lv_at hl 2 rfl) ?_
  refine gF_i (ws' := (rM E am mm ++ [])) C hG pst pst.symm (gR_S (As := [.int x1, .int x2]) (rest := []) C hz hl.1 hG pst (c_X12_isBlock l E x1 x2 rfl H.size) okX12_isBlock q1530 rfl (Nat.le_of_ble_eq_true rfl) (by omega) ⟨Nat.le_refl _, Nat.le_refl _⟩ dX12_slot_2) (fun H locs z1 hG => ?_)
  refine lv_if_eq (tgt := 25) hx hb dX12_slot_5 (by decide) (fun c5 => ?_) (fun c5 => ?_)
  · replace h := it c5 h
    refine lv_iconst (v := (-1)) hx hb dX12_slot_25 (by decide) ?_
    exact hret _ _ _ _ _ h rfl hG dX12_slot_26
  · replace h := ie c5 h
    refine lv_aload_n hx hb dX12_slot_8 rfl (lv_at hl 0 rfl) ?_
    refine lv_iload_n hx hb dX12_slot_9 rfl (lv_at hl 1 rfl) ?_
    obtain ⟨r2, hcr2, h⟩ := bnd_some h
    refine gF_i (ws' := (rM E am mm ++ [])) C hG (pin pnil) (List.Perm.symm (pin pnil)) (gR_V (As := [.int x1]) (rest := []) C hz hl.1 hG (pin pnil) (c_X12_isFast l E am N x1 mm hcr2 H.size) okX12_isFast q1551 0 rfl rfl rfl (Nat.le_of_ble_eq_true rfl) (by omega) ⟨Nat.le_refl _, Nat.le_refl _⟩ dX12_slot_10) (fun H locs z3 hG => ?_)
    refine lv_if_eq (tgt := 25) hx hb dX12_slot_13 (by decide) (fun c13 => ?_) (fun c13 => ?_)
    · replace h := it c13 h
      refine lv_iconst (v := (-1)) hx hb dX12_slot_25 (by decide) ?_
      exact hret _ _ _ _ _ h rfl hG dX12_slot_26
    · replace h := ie c13 h
      refine lv_aload_n hx hb dX12_slot_16 rfl (lv_at hl 0 rfl) ?_
      refine lv_iload_n hx hb dX12_slot_17 rfl (lv_at hl 1 rfl) ?_
      refine lv_iload_n hx hb dX12_slot_18 rfl (lv_at hl 2 rfl) ?_
      obtain ⟨r4, hcr4, h⟩ := bnd_some h
      refine gF_i (ws' := (rM E am mm ++ [])) C hG (pin pnil) (List.Perm.symm (pin pnil)) (gR_V (As := [.int x1, .int x2]) (rest := []) C hz hl.1 hG (pin pnil) (c_X12_slotOf l E am N x1 x2 mm hcr4 H.size) okX12_slotOf q1570 0 rfl rfl rfl (Nat.le_of_ble_eq_true rfl) (by omega) ⟨Nat.le_refl _, Nat.le_refl _⟩ dX12_slot_19) (fun H locs _ hG => ?_)
      refine lv_goto (tgt := 26) hx hb dX12_slot_22 (by decide) ?_
      exact hret _ _ _ _ _ h rfl hG dX12_slot_26
set_option maxHeartbeats 4000000 in
set_option maxRecDepth 100000 in
theorem c_X12_on (l : Launch) (E : GE) (am : Nat → Nat) (N : Nat) (x1 : Int32) (x2 : Int32) (mm : RS) {res : Int32} (h : fX12_on N x1 x2 mm = some res) : gMi l E yX12_on cX12_on 3 .int 2 0 0 [.ref (am 0), .int x1, .int x2] (rM E am mm ++ []) (rM E am mm ++ []) res := by
  refine gMi_of (own := RX12) (by decide +kernel) rfl (Nat.le_of_ble_eq_true rfl) ?_
  intro p e s m args below meth c A ls Q H locs C hz hl hG hret
  have hx := C.1.1
  have hb := C.1.2.1
  have hts := C.1.2.2.2.2
  have hown := C.1.2.2.2.1
  have hl : lv_has ls 3 [(0, .ref (am 0)), (1, .int x1), (2, .int x2)] := hl
  replace hret : ∀ (r0 : Int32) (H : Heap) (locs : List Loc) (pc : Nat) (ls' : Array Slot), some r0 = some res → narrow .int (.int r0) = .int r0 → gG E A s.heap (rM E am mm ++ []) H locs → decode cX12_on pc = .ok (.ireturn, 1) → W p l e (rmD 2 0 0) s m args below meth c H locs 0 0 Q (F0 m pc ls' [.int r0]) := by
    intro r0 H locs pc ls' e0 hn; cases e0; exact hret H locs pc ls' hn
  have K26 : ∀  (H : Heap) (locs : List Loc) (ls : Array Slot), gG E A s.heap (rM E am mm ++ []) H locs → lv_has ls 3 [(0, .ref (am 0)), (1, .int x1), (2, .int x2)] → fX12_on_L26 N x1 x2 mm = some res → W p l e (rmD 2 0 0) s m args below meth c H locs 0 0 Q (F0 m 26 ls []) := by
    intro H locs ls hG hl h
    rw [fX12_on_L26] at h
    refine lv_iload_n hx hb dX12_on_26 rfl (lv_at hl 1 rfl) ?_
    refine lv_if_ne (tgt := 53) hx hb dX12_on_27 (by decide) (fun c27 => ?_) (fun c27 => ?_)
    · replace h := ie c27 h
      refine lv_iconst (v := (-1)) hx hb dX12_on_53 (by decide) ?_
      exact hret _ _ _ _ _ h rfl hG dX12_on_54
    · replace h := it c27 h
      refine lv_iload_n hx hb dX12_on_30 rfl (lv_at hl 2 rfl) ?_
      refine lv_iconst (v := 0) hx hb dX12_on_31 (by decide) ?_
      refine lv_bipush (v := 22) hx hb dX12_on_32 (by decide) ?_
      refine gF_i (ws' := (rM E am mm ++ [])) C hG pst pst.symm (gR_S (As := [.int x2, .int 0, .int 22]) (rest := []) C hz hl.1 hG pst (c_X12_isIn l E x2 0 22 rfl H.size) okX12_isIn q1446 rfl (Nat.le_of_ble_eq_true rfl) (by omega) ⟨Nat.le_refl _, Nat.le_refl _⟩ dX12_on_34) (fun H locs z1 hG => ?_)
      refine lv_if_eq (tgt := 53) hx hb dX12_on_37 (by decide) (fun c37 => ?_) (fun c37 => ?_)
      · replace h := it c37 h
        refine lv_iconst (v := (-1)) hx hb dX12_on_53 (by decide) ?_
        exact hret _ _ _ _ _ h rfl hG dX12_on_54
      · replace h := ie c37 h
        refine lv_aload_n hx hb dX12_on_40 rfl (lv_at hl 0 rfl) ?_
        refine gL_f (v := .ref (am 1)) C hG kX12 0 0 rfl (by decide) rfl q1352 rfl dX12_on_41 ?_
        refine lv_sipush (v := 162) hx hb dX12_on_44 (by decide) ?_
        refine lv_iload_n hx hb dX12_on_47 rfl (lv_at hl 2 rfl) ?_
        refine lv_iadd hx hb dX12_on_48 ?_
        obtain ⟨b2, h⟩ := ck_some h
        refine gL_i (v := (mm 1 (162 + x2).toNatClampNeg)) C hG 1 rfl (inb_in b2) rfl dX12_on_49 ?_
        refine lv_goto (tgt := 54) hx hb dX12_on_50 (by decide) ?_
        exact hret _ _ _ _ _ h rfl hG dX12_on_54
  rw [fX12_on] at h
  refine lv_iload_n hx hb dX12_on_0 rfl (lv_at hl 1 rfl) ?_
  refine lv_iconst (v := 1) hx hb dX12_on_1 (by decide) ?_
  refine lv_icmp_ne (tgt := 26) hx hb dX12_on_2 (by decide) (fun c2 => ?_) (fun c2 => ?_)
  · replace h := ie c2 h
    exact K26 _ _ _ hG (lv_sub hl [0, 1, 2] rfl) h
  · replace h := it c2 h
    refine lv_iload_n hx hb dX12_on_5 rfl (lv_at hl 2 rfl) ?_
    refine lv_iconst (v := 0) hx hb dX12_on_6 (by decide) ?_
    refine lv_bipush (v := 8) hx hb dX12_on_7 (by decide) ?_
    refine gF_i (ws' := (rM E am mm ++ [])) C hG pst pst.symm (gR_S (As := [.int x2, .int 0, .int 8]) (rest := []) C hz hl.1 hG pst (c_X12_isIn l E x2 0 8 rfl H.size) okX12_isIn q1446 rfl (Nat.le_of_ble_eq_true rfl) (by omega) ⟨Nat.le_refl _, Nat.le_refl _⟩ dX12_on_9) (fun H locs z1 hG => ?_)
    refine lv_if_eq (tgt := 26) hx hb dX12_on_12 (by decide) (fun c12 => ?_) (fun c12 => ?_)
    · replace h := it c12 h
      exact K26 _ _ _ hG (lv_sub hl [0, 1, 2] rfl) h
    · replace h := ie c12 h
      refine lv_aload_n hx hb dX12_on_15 rfl (lv_at hl 0 rfl) ?_
      refine gL_f (v := .ref (am 1)) C hG kX12 0 0 rfl (by decide) rfl q1352 rfl dX12_on_16 ?_
      refine lv_sipush (v := 185) hx hb dX12_on_19 (by decide) ?_
      refine lv_iload_n hx hb dX12_on_22 rfl (lv_at hl 2 rfl) ?_
      refine lv_iadd hx hb dX12_on_23 ?_
      obtain ⟨b2, h⟩ := ck_some h
      refine gL_i (v := (mm 1 (185 + x2).toNatClampNeg)) C hG 1 rfl (inb_in b2) rfl dX12_on_24 ?_
      exact hret _ _ _ _ _ h rfl hG dX12_on_25
set_option maxHeartbeats 4000000 in
set_option maxRecDepth 100000 in
theorem c_X12_holder (l : Launch) (E : GE) (am : Nat → Nat) (N : Nat) (x1 : Int32) (mm : RS) {res : Int32} (h : fX12_holder N x1 mm = some res) : gMi l E yX12_holder cX12_holder 2 .int 2 0 0 [.ref (am 0), .int x1] (rM E am mm ++ []) (rM E am mm ++ []) res := by
  refine gMi_of (own := RX12) (by decide +kernel) rfl (Nat.le_of_ble_eq_true rfl) ?_
  intro p e s m args below meth c A ls Q H locs C hz hl hG hret
  have hx := C.1.1
  have hb := C.1.2.1
  have hts := C.1.2.2.2.2
  have hown := C.1.2.2.2.1
  have hl : lv_has ls 2 [(0, .ref (am 0)), (1, .int x1)] := hl
  replace hret : ∀ (r0 : Int32) (H : Heap) (locs : List Loc) (pc : Nat) (ls' : Array Slot), some r0 = some res → narrow .int (.int r0) = .int r0 → gG E A s.heap (rM E am mm ++ []) H locs → decode cX12_holder pc = .ok (.ireturn, 1) → W p l e (rmD 2 0 0) s m args below meth c H locs 0 0 Q (F0 m pc ls' [.int r0]) := by
    intro r0 H locs pc ls' e0 hn; cases e0; exact hret H locs pc ls' hn
  rw [fX12_holder] at h
  refine lv_iload_n hx hb dX12_holder_0 rfl (lv_at hl 1 rfl) ?_
  refine lv_iconst (v := 0) hx hb dX12_holder_1 (by decide) ?_
  refine lv_bipush (v := 8) hx hb dX12_holder_2 (by decide) ?_
  refine gF_i (ws' := (rM E am mm ++ [])) C hG pst pst.symm (gR_S (As := [.int x1, .int 0, .int 8]) (rest := []) C hz hl.1 hG pst (c_X12_isIn l E x1 0 8 rfl H.size) okX12_isIn q1446 rfl (Nat.le_of_ble_eq_true rfl) (by omega) ⟨Nat.le_refl _, Nat.le_refl _⟩ dX12_holder_4) (fun H locs z1 hG => ?_)
  refine lv_if_eq (tgt := 18) hx hb dX12_holder_7 (by decide) (fun c7 => ?_) (fun c7 => ?_)
  · replace h := it c7 h
    refine lv_iconst (v := (-1)) hx hb dX12_holder_18 (by decide) ?_
    exact hret _ _ _ _ _ h rfl hG dX12_holder_19
  · replace h := ie c7 h
    refine lv_aload_n hx hb dX12_holder_10 rfl (lv_at hl 0 rfl) ?_
    refine lv_iload_n hx hb dX12_holder_11 rfl (lv_at hl 1 rfl) ?_
    obtain ⟨r2, hcr2, h⟩ := bnd_some h
    refine gF_i (ws' := (rM E am mm ++ [])) C hG (pin pnil) (List.Perm.symm (pin pnil)) (gR_V (As := [.int x1]) (rest := []) C hz hl.1 hG (pin pnil) (c_X12_holderOf l E am N x1 mm hcr2 H.size) okX12_holderOf q1662 0 rfl rfl rfl (Nat.le_of_ble_eq_true rfl) (by omega) ⟨Nat.le_refl _, Nat.le_refl _⟩ dX12_holder_12) (fun H locs _ hG => ?_)
    refine lv_goto (tgt := 19) hx hb dX12_holder_15 (by decide) ?_
    exact hret _ _ _ _ _ h rfl hG dX12_holder_19
set_option maxHeartbeats 4000000 in
set_option maxRecDepth 100000 in
theorem c_X12_free (l : Launch) (E : GE) (am : Nat → Nat) (N : Nat) (x1 : Int32) (mm : RS) {res : Int32} (h : fX12_free N x1 mm = some res) : gMi l E yX12_free cX12_free 2 .int 3 0 0 [.ref (am 0), .int x1] (rM E am mm ++ []) (rM E am mm ++ []) res := by
  refine gMi_of (own := RX12) (by decide +kernel) rfl (Nat.le_of_ble_eq_true rfl) ?_
  intro p e s m args below meth c A ls Q H locs C hz hl hG hret
  have hx := C.1.1
  have hb := C.1.2.1
  have hts := C.1.2.2.2.2
  have hown := C.1.2.2.2.1
  have hl : lv_has ls 2 [(0, .ref (am 0)), (1, .int x1)] := hl
  replace hret : ∀ (r0 : Int32) (H : Heap) (locs : List Loc) (pc : Nat) (ls' : Array Slot), some r0 = some res → narrow .int (.int r0) = .int r0 → gG E A s.heap (rM E am mm ++ []) H locs → decode cX12_free pc = .ok (.ireturn, 1) → W p l e (rmD 3 0 0) s m args below meth c H locs 0 0 Q (F0 m pc ls' [.int r0]) := by
    intro r0 H locs pc ls' e0 hn; cases e0; exact hret H locs pc ls' hn
  rw [fX12_free] at h
  refine lv_iload_n hx hb dX12_free_0 rfl (lv_at hl 1 rfl) ?_
  refine lv_iconst (v := 0) hx hb dX12_free_1 (by decide) ?_
  refine lv_bipush (v := 8) hx hb dX12_free_2 (by decide) ?_
  refine gF_i (ws' := (rM E am mm ++ [])) C hG pst pst.symm (gR_S (As := [.int x1, .int 0, .int 8]) (rest := []) C hz hl.1 hG pst (c_X12_isIn l E x1 0 8 rfl H.size) okX12_isIn q1446 rfl (Nat.le_of_ble_eq_true rfl) (by omega) ⟨Nat.le_refl _, Nat.le_refl _⟩ dX12_free_4) (fun H locs z1 hG => ?_)
  refine lv_if_eq (tgt := 18) hx hb dX12_free_7 (by decide) (fun c7 => ?_) (fun c7 => ?_)
  · replace h := it c7 h
    refine lv_iconst (v := (-1)) hx hb dX12_free_18 (by decide) ?_
    exact hret _ _ _ _ _ h rfl hG dX12_free_19
  · replace h := ie c7 h
    refine lv_aload_n hx hb dX12_free_10 rfl (lv_at hl 0 rfl) ?_
    refine lv_iload_n hx hb dX12_free_11 rfl (lv_at hl 1 rfl) ?_
    obtain ⟨r2, hcr2, h⟩ := bnd_some h
    refine gF_i (ws' := (rM E am mm ++ [])) C hG (pin pnil) (List.Perm.symm (pin pnil)) (gR_V (As := [.int x1]) (rest := []) C hz hl.1 hG (pin pnil) (c_X12_freeFrom l E am N x1 mm hcr2 H.size) okX12_freeFrom q1658 0 rfl rfl rfl (Nat.le_of_ble_eq_true rfl) (by omega) ⟨Nat.le_refl _, Nat.le_refl _⟩ dX12_free_12) (fun H locs _ hG => ?_)
    refine lv_goto (tgt := 19) hx hb dX12_free_15 (by decide) ?_
    exact hret _ _ _ _ _ h rfl hG dX12_free_19
set_option maxHeartbeats 4000000 in
set_option maxRecDepth 100000 in
theorem c_X12_position (l : Launch) (E : GE) (am : Nat → Nat) (x1 : Int32) (x2 : Int32) (mm : RS) {res : Int32} (h : fX12_position x1 x2 mm = res) : gMi l E yX12_position cX12_position 3 .int 4 0 0 [.ref (am 0), .int x1, .int x2] (rM E am mm ++ []) (rM E am mm ++ []) res := by
  refine gMi_of (own := RX12) (by decide +kernel) rfl (Nat.le_of_ble_eq_true rfl) ?_
  intro p e s m args below meth c A ls Q H locs C hz hl hG hret
  have hx := C.1.1
  have hb := C.1.2.1
  have hts := C.1.2.2.2.2
  have hown := C.1.2.2.2.1
  have hl : lv_has ls 3 [(0, .ref (am 0)), (1, .int x1), (2, .int x2)] := hl
  replace hret : ∀ (r0 : Int32) (H : Heap) (locs : List Loc) (pc : Nat) (ls' : Array Slot), r0 = res → narrow .int (.int r0) = .int r0 → gG E A s.heap (rM E am mm ++ []) H locs → decode cX12_position pc = .ok (.ireturn, 1) → W p l e (rmD 4 0 0) s m args below meth c H locs 0 0 Q (F0 m pc ls' [.int r0]) := by
    intro r0 H locs pc ls' e0 hn; cases e0; exact hret H locs pc ls' hn
  rw [fX12_position] at h
  refine lv_iload_n hx hb dX12_position_0 rfl (lv_at hl 1 rfl) ?_
  refine lv_iload_n hx hb dX12_position_1 rfl (lv_at hl 2 rfl) ?_
  refine gF_i (ws' := (rM E am mm ++ [])) C hG pst pst.symm (gR_S (As := [.int x1, .int x2]) (rest := []) C hz hl.1 hG pst (c_X12_isBlock l E x1 x2 rfl H.size) okX12_isBlock q1530 rfl (Nat.le_of_ble_eq_true rfl) (by omega) ⟨Nat.le_refl _, Nat.le_refl _⟩ dX12_position_2) (fun H locs z1 hG => ?_)
  refine lv_if_eq (tgt := 17) hx hb dX12_position_5 (by decide) (fun c5 => ?_) (fun c5 => ?_)
  · replace h := it c5 h
    refine lv_iconst (v := (-1)) hx hb dX12_position_17 (by decide) ?_
    exact hret _ _ _ _ _ h rfl hG dX12_position_18
  · replace h := ie c5 h
    refine lv_iload_n hx hb dX12_position_8 rfl (lv_at hl 1 rfl) ?_
    refine gF_i (ws' := (rM E am mm ++ [])) C hG pst pst.symm (gR_S (As := [.int x1]) (rest := []) C hz hl.1 hG pst (c_X12_firstOf l E x1 rfl H.size) okX12_firstOf q1555 rfl (Nat.le_of_ble_eq_true rfl) (by omega) ⟨Nat.le_refl _, Nat.le_refl _⟩ dX12_position_9) (fun H locs _ hG => ?_)
    refine lv_iload_n hx hb dX12_position_12 rfl (lv_at hl 2 rfl) ?_
    refine lv_iadd hx hb dX12_position_13 ?_
    refine lv_goto (tgt := 18) hx hb dX12_position_14 (by decide) ?_
    exact hret _ _ _ _ _ h rfl hG dX12_position_18
set_option maxHeartbeats 4000000 in
set_option maxRecDepth 100000 in
theorem c_X12_heat (l : Launch) (E : GE) (am : Nat → Nat) (N : Nat) (x1 : Int32) (mm : RS) {res : Int32} (h : fX12_heat N x1 mm = some res) : gMi l E yX12_heat cX12_heat 2 .int 3 0 0 [.ref (am 0), .int x1] (rM E am mm ++ []) (rM E am mm ++ []) res := by
  refine gMi_of (own := RX12) (by decide +kernel) rfl (Nat.le_of_ble_eq_true rfl) ?_
  intro p e s m args below meth c A ls Q H locs C hz hl hG hret
  have hx := C.1.1
  have hb := C.1.2.1
  have hts := C.1.2.2.2.2
  have hown := C.1.2.2.2.1
  have hl : lv_has ls 2 [(0, .ref (am 0)), (1, .int x1)] := hl
  replace hret : ∀ (r0 : Int32) (H : Heap) (locs : List Loc) (pc : Nat) (ls' : Array Slot), some r0 = some res → narrow .int (.int r0) = .int r0 → gG E A s.heap (rM E am mm ++ []) H locs → decode cX12_heat pc = .ok (.ireturn, 1) → W p l e (rmD 3 0 0) s m args below meth c H locs 0 0 Q (F0 m pc ls' [.int r0]) := by
    intro r0 H locs pc ls' e0 hn; cases e0; exact hret H locs pc ls' hn
  rw [fX12_heat] at h
  refine lv_iload_n hx hb dX12_heat_0 rfl (lv_at hl 1 rfl) ?_
  refine gF_i (ws' := (rM E am mm ++ [])) C hG pst pst.symm (gR_S (As := [.int x1]) (rest := []) C hz hl.1 hG pst (c_X12_isExtent l E x1 rfl H.size) okX12_isExtent q1533 rfl (Nat.le_of_ble_eq_true rfl) (by omega) ⟨Nat.le_refl _, Nat.le_refl _⟩ dX12_heat_1) (fun H locs z1 hG => ?_)
  refine lv_if_eq (tgt := 19) hx hb dX12_heat_4 (by decide) (fun c4 => ?_) (fun c4 => ?_)
  · replace h := it c4 h
    refine lv_iconst (v := (-1)) hx hb dX12_heat_19 (by decide) ?_
    exact hret _ _ _ _ _ h rfl hG dX12_heat_20
  · replace h := ie c4 h
    refine lv_aload_n hx hb dX12_heat_7 rfl (lv_at hl 0 rfl) ?_
    refine gL_f (v := .ref (am 1)) C hG kX12 0 0 rfl (by decide) rfl q1352 rfl dX12_heat_8 ?_
    refine lv_bipush (v := 19) hx hb dX12_heat_11 (by decide) ?_
    refine lv_iload_n hx hb dX12_heat_13 rfl (lv_at hl 1 rfl) ?_
    refine lv_iadd hx hb dX12_heat_14 ?_
    obtain ⟨b2, h⟩ := ck_some h
    refine gL_i (v := (mm 1 (19 + x1).toNatClampNeg)) C hG 1 rfl (inb_in b2) rfl dX12_heat_15 ?_
    refine lv_goto (tgt := 20) hx hb dX12_heat_16 (by decide) ?_
    exact hret _ _ _ _ _ h rfl hG dX12_heat_20
set_option maxHeartbeats 4000000 in
set_option maxRecDepth 100000 in
theorem c_X12_of (l : Launch) (E : GE) (am : Nat → Nat) (N : Nat) (x1 : Int32) (x2 : Int32) (mm : RS) {res : Int32} (h : fX12_of N x1 x2 mm = some res) : gMi l E yX12_of cX12_of 3 .int 3 0 0 [.ref (am 0), .int x1, .int x2] (rM E am mm ++ []) (rM E am mm ++ []) res := by
  refine gMi_of (own := RX12) (by decide +kernel) rfl (Nat.le_of_ble_eq_true rfl) ?_
  intro p e s m args below meth c A ls Q H locs C hz hl hG hret
  have hx := C.1.1
  have hb := C.1.2.1
  have hts := C.1.2.2.2.2
  have hown := C.1.2.2.2.1
  have hl : lv_has ls 3 [(0, .ref (am 0)), (1, .int x1), (2, .int x2)] := hl
  replace hret : ∀ (r0 : Int32) (H : Heap) (locs : List Loc) (pc : Nat) (ls' : Array Slot), some r0 = some res → narrow .int (.int r0) = .int r0 → gG E A s.heap (rM E am mm ++ []) H locs → decode cX12_of pc = .ok (.ireturn, 1) → W p l e (rmD 3 0 0) s m args below meth c H locs 0 0 Q (F0 m pc ls' [.int r0]) := by
    intro r0 H locs pc ls' e0 hn; cases e0; exact hret H locs pc ls' hn
  have K44 : ∀  (s1 : Int32) (H : Heap) (locs : List Loc) (ls : Array Slot), gG E A s.heap (rM E am mm ++ []) H locs → lv_has ls 3 [] → fX12_of_L44 N x1 x2 mm s1 = some res → W p l e (rmD 3 0 0) s m args below meth c H locs 0 0 Q (F0 m 44 ls [.int s1, .ref (am 1)]) := by
    intro s1 H locs ls hG hl h
    rw [fX12_of_L44] at h
    obtain ⟨b1, h⟩ := ck_some h
    refine gL_i (v := (mm 1 s1.toNatClampNeg)) C hG 1 rfl (inb_in b1) rfl dX12_of_44 ?_
    refine lv_goto (tgt := 49) hx hb dX12_of_45 (by decide) ?_
    exact hret _ _ _ _ _ h rfl hG dX12_of_49
  rw [fX12_of] at h
  refine lv_iload_n hx hb dX12_of_0 rfl (lv_at hl 1 rfl) ?_
  refine gF_i (ws' := (rM E am mm ++ [])) C hG pst pst.symm (gR_S (As := [.int x1]) (rest := []) C hz hl.1 hG pst (c_X12_isExtent l E x1 rfl H.size) okX12_isExtent q1533 rfl (Nat.le_of_ble_eq_true rfl) (by omega) ⟨Nat.le_refl _, Nat.le_refl _⟩ dX12_of_1) (fun H locs z1 hG => ?_)
  refine lv_if_eq (tgt := 48) hx hb dX12_of_4 (by decide) (fun c4 => ?_) (fun c4 => ?_)
  · replace h := it c4 h
    refine lv_iconst (v := (-1)) hx hb dX12_of_48 (by decide) ?_
    exact hret _ _ _ _ _ h rfl hG dX12_of_49
  · replace h := ie c4 h
    refine lv_iload_n hx hb dX12_of_7 rfl (lv_at hl 2 rfl) ?_
    refine lv_iconst (v := 0) hx hb dX12_of_8 (by decide) ?_
    refine lv_bipush (v := 8) hx hb dX12_of_9 (by decide) ?_
    refine gF_i (ws' := (rM E am mm ++ [])) C hG pst pst.symm (gR_S (As := [.int x2, .int 0, .int 8]) (rest := []) C hz hl.1 hG pst (c_X12_isIn l E x2 0 8 rfl H.size) okX12_isIn q1446 rfl (Nat.le_of_ble_eq_true rfl) (by omega) ⟨Nat.le_refl _, Nat.le_refl _⟩ dX12_of_11) (fun H locs z2 hG => ?_)
    refine lv_if_eq (tgt := 48) hx hb dX12_of_14 (by decide) (fun c14 => ?_) (fun c14 => ?_)
    · replace h := it c14 h
      refine lv_iconst (v := (-1)) hx hb dX12_of_48 (by decide) ?_
      exact hret _ _ _ _ _ h rfl hG dX12_of_49
    · replace h := ie c14 h
      refine lv_aload_n hx hb dX12_of_17 rfl (lv_at hl 0 rfl) ?_
      refine gL_f (v := .ref (am 1)) C hG kX12 0 0 rfl (by decide) rfl q1352 rfl dX12_of_18 ?_
      refine lv_iload_n hx hb dX12_of_21 rfl (lv_at hl 2 rfl) ?_
      refine lv_bipush (v := 8) hx hb dX12_of_22 (by decide) ?_
      refine lv_icmp_ne (tgt := 35) hx hb dX12_of_24 (by decide) (fun c24 => ?_) (fun c24 => ?_)
      · replace h := ie c24 h
        refine lv_bipush (v := 29) hx hb dX12_of_35 (by decide) ?_
        refine lv_bipush (v := 10) hx hb dX12_of_37 (by decide) ?_
        refine lv_iload_n hx hb dX12_of_39 rfl (lv_at hl 2 rfl) ?_
        refine lv_imul hx hb dX12_of_40 ?_
        refine lv_iadd hx hb dX12_of_41 ?_
        refine lv_iload_n hx hb dX12_of_42 rfl (lv_at hl 1 rfl) ?_
        refine lv_iadd hx hb dX12_of_43 ?_
        exact K44 ((29 + (10 * x2)) + x1) _ _ _ hG (lv_sub hl [] rfl) h
      · replace h := it c24 h
        refine lv_sipush (v := 340) hx hb dX12_of_27 (by decide) ?_
        refine lv_iload_n hx hb dX12_of_30 rfl (lv_at hl 1 rfl) ?_
        refine lv_iadd hx hb dX12_of_31 ?_
        refine lv_goto (tgt := 44) hx hb dX12_of_32 (by decide) ?_
        exact K44 (340 + x1) _ _ _ hG (lv_sub hl [] rfl) h
set_option maxHeartbeats 4000000 in
set_option maxRecDepth 100000 in
theorem c_X12_head (l : Launch) (E : GE) (am : Nat → Nat) (N : Nat) (x1 : Int32) (x2 : Int32) (mm : RS) {res : Int32} (h : fX12_head N x1 x2 mm = some res) : gMi l E yX12_head cX12_head 3 .int 2 0 0 [.ref (am 0), .int x1, .int x2] (rM E am mm ++ []) (rM E am mm ++ []) res := by
  refine gMi_of (own := RX12) (by decide +kernel) rfl (Nat.le_of_ble_eq_true rfl) ?_
  intro p e s m args below meth c A ls Q H locs C hz hl hG hret
  have hx := C.1.1
  have hb := C.1.2.1
  have hts := C.1.2.2.2.2
  have hown := C.1.2.2.2.1
  have hl : lv_has ls 3 [(0, .ref (am 0)), (1, .int x1), (2, .int x2)] := hl
  replace hret : ∀ (r0 : Int32) (H : Heap) (locs : List Loc) (pc : Nat) (ls' : Array Slot), some r0 = some res → narrow .int (.int r0) = .int r0 → gG E A s.heap (rM E am mm ++ []) H locs → decode cX12_head pc = .ok (.ireturn, 1) → W p l e (rmD 2 0 0) s m args below meth c H locs 0 0 Q (F0 m pc ls' [.int r0]) := by
    intro r0 H locs pc ls' e0 hn; cases e0; exact hret H locs pc ls' hn
  rw [fX12_head] at h
  refine lv_iload_n hx hb dX12_head_0 rfl (lv_at hl 1 rfl) ?_
  refine lv_iconst (v := (-1)) hx hb dX12_head_1 (by decide) ?_
  refine lv_icmp_ne (tgt := 13) hx hb dX12_head_2 (by decide) (fun c2 => ?_) (fun c2 => ?_)
  · replace h := ie c2 h
    refine lv_iload_n hx hb dX12_head_13 rfl (lv_at hl 1 rfl) ?_
    refine lv_iconst (v := 0) hx hb dX12_head_14 (by decide) ?_
    refine lv_aload_n hx hb dX12_head_15 rfl (lv_at hl 0 rfl) ?_
    refine gL_f (v := .ref (am 1)) C hG kX12 0 0 rfl (by decide) rfl q1352 rfl dX12_head_16 ?_
    refine lv_bipush (v := 16) hx hb dX12_head_19 (by decide) ?_
    refine gL_i (v := (mm 1 16)) C hG 1 rfl (vp_in_nI (n := 16) (by decide) (by decide)) (congrArg (mm 1) (nI_clamp (n := 16) (by decide))) dX12_head_21 ?_
    refine lv_iconst (v := 1) hx hb dX12_head_22 (by decide) ?_
    refine lv_isub hx hb dX12_head_23 ?_
    refine gF_i (ws' := (rM E am mm ++ [])) C hG pst pst.symm (gR_S (As := [.int x1, .int 0, .int ((mm 1 16) - 1)]) (rest := []) C hz hl.1 hG pst (c_X12_isIn l E x1 0 ((mm 1 16) - 1) rfl H.size) okX12_isIn q1446 rfl (Nat.le_of_ble_eq_true rfl) (by omega) ⟨Nat.le_refl _, Nat.le_refl _⟩ dX12_head_24) (fun H locs z1 hG => ?_)
    refine lv_if_eq (tgt := 56) hx hb dX12_head_27 (by decide) (fun c27 => ?_) (fun c27 => ?_)
    · replace h := it c27 h
      refine lv_bipush (v := (-2)) hx hb dX12_head_56 (by decide) ?_
      exact hret _ _ _ _ _ h rfl hG dX12_head_58
    · replace h := ie c27 h
      refine lv_iload_n hx hb dX12_head_30 rfl (lv_at hl 2 rfl) ?_
      refine lv_iconst (v := 0) hx hb dX12_head_31 (by decide) ?_
      refine lv_iconst (v := 1) hx hb dX12_head_32 (by decide) ?_
      refine gF_i (ws' := (rM E am mm ++ [])) C hG pst pst.symm (gR_S (As := [.int x2, .int 0, .int 1]) (rest := []) C hz hl.1 hG pst (c_X12_isIn l E x2 0 1 rfl H.size) okX12_isIn q1446 rfl (Nat.le_of_ble_eq_true rfl) (by omega) ⟨Nat.le_refl _, Nat.le_refl _⟩ dX12_head_33) (fun H locs z2 hG => ?_)
      refine lv_if_eq (tgt := 56) hx hb dX12_head_36 (by decide) (fun c36 => ?_) (fun c36 => ?_)
      · replace h := it c36 h
        refine lv_bipush (v := (-2)) hx hb dX12_head_56 (by decide) ?_
        exact hret _ _ _ _ _ h rfl hG dX12_head_58
      · replace h := ie c36 h
        refine lv_aload_n hx hb dX12_head_39 rfl (lv_at hl 0 rfl) ?_
        refine gL_f (v := .ref (am 1)) C hG kX12 0 0 rfl (by decide) rfl q1352 rfl dX12_head_40 ?_
        refine lv_sipush (v := 194) hx hb dX12_head_43 (by decide) ?_
        refine lv_iconst (v := 2) hx hb dX12_head_46 (by decide) ?_
        refine lv_iload_n hx hb dX12_head_47 rfl (lv_at hl 1 rfl) ?_
        refine lv_imul hx hb dX12_head_48 ?_
        refine lv_iadd hx hb dX12_head_49 ?_
        refine lv_iload_n hx hb dX12_head_50 rfl (lv_at hl 2 rfl) ?_
        refine lv_iadd hx hb dX12_head_51 ?_
        obtain ⟨b3, h⟩ := ck_some h
        refine gL_i (v := (mm 1 ((194 + (2 * x1)) + x2).toNatClampNeg)) C hG 1 rfl (inb_in b3) rfl dX12_head_52 ?_
        refine lv_goto (tgt := 58) hx hb dX12_head_53 (by decide) ?_
        exact hret _ _ _ _ _ h rfl hG dX12_head_58
  · replace h := it c2 h
    refine lv_aload_n hx hb dX12_head_5 rfl (lv_at hl 0 rfl) ?_
    refine gL_f (v := .ref (am 1)) C hG kX12 0 0 rfl (by decide) rfl q1352 rfl dX12_head_6 ?_
    refine lv_bipush (v := 16) hx hb dX12_head_9 (by decide) ?_
    refine gL_i (v := (mm 1 16)) C hG 1 rfl (vp_in_nI (n := 16) (by decide) (by decide)) (congrArg (mm 1) (nI_clamp (n := 16) (by decide))) dX12_head_11 ?_
    exact hret _ _ _ _ _ h rfl hG dX12_head_12
set_option maxHeartbeats 4000000 in
set_option maxRecDepth 100000 in
theorem c_X12_move (l : Launch) (E : GE) (am : Nat → Nat) (N : Nat) (x1 : Int32) (x2 : Int32) (mm : RS) {res : Int32} (h : fX12_move N x1 x2 mm = some res) : gMi l E yX12_move cX12_move 3 .int 3 0 0 [.ref (am 0), .int x1, .int x2] (rM E am mm ++ []) (rM E am mm ++ []) res := by
  refine gMi_of (own := RX12) (by decide +kernel) rfl (Nat.le_of_ble_eq_true rfl) ?_
  intro p e s m args below meth c A ls Q H locs C hz hl hG hret
  have hx := C.1.1
  have hb := C.1.2.1
  have hts := C.1.2.2.2.2
  have hown := C.1.2.2.2.1
  have hl : lv_has ls 3 [(0, .ref (am 0)), (1, .int x1), (2, .int x2)] := hl
  replace hret : ∀ (r0 : Int32) (H : Heap) (locs : List Loc) (pc : Nat) (ls' : Array Slot), some r0 = some res → narrow .int (.int r0) = .int r0 → gG E A s.heap (rM E am mm ++ []) H locs → decode cX12_move pc = .ok (.ireturn, 1) → W p l e (rmD 3 0 0) s m args below meth c H locs 0 0 Q (F0 m pc ls' [.int r0]) := by
    intro r0 H locs pc ls' e0 hn; cases e0; exact hret H locs pc ls' hn
  rw [fX12_move] at h
  refine lv_iload_n hx hb dX12_move_0 rfl (lv_at hl 1 rfl) ?_
  refine lv_iconst (v := (-1)) hx hb dX12_move_1 (by decide) ?_
  refine lv_icmp_ne (tgt := 13) hx hb dX12_move_2 (by decide) (fun c2 => ?_) (fun c2 => ?_)
  · replace h := ie c2 h
    refine lv_iload_n hx hb dX12_move_13 rfl (lv_at hl 1 rfl) ?_
    refine lv_iconst (v := 0) hx hb dX12_move_14 (by decide) ?_
    refine lv_aload_n hx hb dX12_move_15 rfl (lv_at hl 0 rfl) ?_
    refine gL_f (v := .ref (am 1)) C hG kX12 0 0 rfl (by decide) rfl q1352 rfl dX12_move_16 ?_
    refine lv_bipush (v := 17) hx hb dX12_move_19 (by decide) ?_
    refine gL_i (v := (mm 1 17)) C hG 1 rfl (vp_in_nI (n := 17) (by decide) (by decide)) (congrArg (mm 1) (nI_clamp (n := 17) (by decide))) dX12_move_21 ?_
    refine lv_iconst (v := 1) hx hb dX12_move_22 (by decide) ?_
    refine lv_isub hx hb dX12_move_23 ?_
    refine gF_i (ws' := (rM E am mm ++ [])) C hG pst pst.symm (gR_S (As := [.int x1, .int 0, .int ((mm 1 17) - 1)]) (rest := []) C hz hl.1 hG pst (c_X12_isIn l E x1 0 ((mm 1 17) - 1) rfl H.size) okX12_isIn q1446 rfl (Nat.le_of_ble_eq_true rfl) (by omega) ⟨Nat.le_refl _, Nat.le_refl _⟩ dX12_move_24) (fun H locs z1 hG => ?_)
    refine lv_if_eq (tgt := 39) hx hb dX12_move_27 (by decide) (fun c27 => ?_) (fun c27 => ?_)
    · replace h := it c27 h
      refine lv_bipush (v := (-2)) hx hb dX12_move_39 (by decide) ?_
      exact hret _ _ _ _ _ h rfl hG dX12_move_41
    · replace h := ie c27 h
      refine lv_iload_n hx hb dX12_move_30 rfl (lv_at hl 2 rfl) ?_
      refine lv_iconst (v := 0) hx hb dX12_move_31 (by decide) ?_
      refine lv_iconst (v := 3) hx hb dX12_move_32 (by decide) ?_
      refine gF_i (ws' := (rM E am mm ++ [])) C hG pst pst.symm (gR_S (As := [.int x2, .int 0, .int 3]) (rest := []) C hz hl.1 hG pst (c_X12_isIn l E x2 0 3 rfl H.size) okX12_isIn q1446 rfl (Nat.le_of_ble_eq_true rfl) (by omega) ⟨Nat.le_refl _, Nat.le_refl _⟩ dX12_move_33) (fun H locs z2 hG => ?_)
      refine lv_if_ne (tgt := 42) hx hb dX12_move_36 (by decide) (fun c36 => ?_) (fun c36 => ?_)
      · replace h := ie c36 h
        refine lv_iload_n hx hb dX12_move_42 rfl (lv_at hl 2 rfl) ?_
        refine lv_iconst (v := 3) hx hb dX12_move_43 (by decide) ?_
        refine lv_icmp_ge (tgt := 56) hx hb dX12_move_44 (by decide) (fun c44 => ?_) (fun c44 => ?_)
        · replace h := it c44 h
          refine lv_aload_n hx hb dX12_move_56 rfl (lv_at hl 0 rfl) ?_
          refine lv_iload_n hx hb dX12_move_57 rfl (lv_at hl 1 rfl) ?_
          obtain ⟨r3, hcr3, h⟩ := bnd_some h
          refine gF_i (ws' := (rM E am mm ++ [])) C hG (pin pnil) (List.Perm.symm (pin pnil)) (gR_V (As := [.int x1]) (rest := []) C hz hl.1 hG (pin pnil) (c_X12_toCopy l E am N x1 mm hcr3 H.size) okX12_toCopy q1666 0 rfl rfl rfl (Nat.le_of_ble_eq_true rfl) (by omega) ⟨Nat.le_refl _, Nat.le_refl _⟩ dX12_move_58) (fun H locs _ hG => ?_)
          exact hret _ _ _ _ _ h rfl hG dX12_move_61
        · replace h := ie c44 h
          refine lv_aload_n hx hb dX12_move_47 rfl (lv_at hl 0 rfl) ?_
          refine lv_iload_n hx hb dX12_move_48 rfl (lv_at hl 1 rfl) ?_
          refine lv_iload_n hx hb dX12_move_49 rfl (lv_at hl 2 rfl) ?_
          obtain ⟨r4, hcr4, h⟩ := bnd_some h
          refine gF_i (ws' := (rM E am mm ++ [])) C hG (pin pnil) (List.Perm.symm (pin pnil)) (gR_V (As := [.int x1, .int x2]) (rest := []) C hz hl.1 hG (pin pnil) (c_X12_ofMove l E am N x1 x2 mm hcr4 H.size) okX12_ofMove q1622 0 rfl rfl rfl (Nat.le_of_ble_eq_true rfl) (by omega) ⟨Nat.le_refl _, Nat.le_refl _⟩ dX12_move_50) (fun H locs _ hG => ?_)
          refine lv_goto (tgt := 61) hx hb dX12_move_53 (by decide) ?_
          exact hret _ _ _ _ _ h rfl hG dX12_move_61
      · replace h := it c36 h
        refine lv_bipush (v := (-2)) hx hb dX12_move_39 (by decide) ?_
        exact hret _ _ _ _ _ h rfl hG dX12_move_41
  · replace h := it c2 h
    refine lv_aload_n hx hb dX12_move_5 rfl (lv_at hl 0 rfl) ?_
    refine gL_f (v := .ref (am 1)) C hG kX12 0 0 rfl (by decide) rfl q1352 rfl dX12_move_6 ?_
    refine lv_bipush (v := 17) hx hb dX12_move_9 (by decide) ?_
    refine gL_i (v := (mm 1 17)) C hG 1 rfl (vp_in_nI (n := 17) (by decide) (by decide)) (congrArg (mm 1) (nI_clamp (n := 17) (by decide))) dX12_move_11 ?_
    exact hret _ _ _ _ _ h rfl hG dX12_move_12
set_option maxHeartbeats 4000000 in
set_option maxRecDepth 100000 in
theorem c_X12_moveOf (l : Launch) (E : GE) (am : Nat → Nat) (N : Nat) (x1 : Int32) (mm : RS) {res : Int32} (h : fX12_moveOf N x1 mm = some res) : gMi l E yX12_moveOf cX12_moveOf 2 .int 3 0 0 [.ref (am 0), .int x1] (rM E am mm ++ []) (rM E am mm ++ []) res := by
  refine gMi_of (own := RX12) (by decide +kernel) rfl (Nat.le_of_ble_eq_true rfl) ?_
  intro p e s m args below meth c A ls Q H locs C hz hl hG hret
  have hx := C.1.1
  have hb := C.1.2.1
  have hts := C.1.2.2.2.2
  have hown := C.1.2.2.2.1
  have hl : lv_has ls 2 [(0, .ref (am 0)), (1, .int x1)] := hl
  replace hret : ∀ (r0 : Int32) (H : Heap) (locs : List Loc) (pc : Nat) (ls' : Array Slot), some r0 = some res → narrow .int (.int r0) = .int r0 → gG E A s.heap (rM E am mm ++ []) H locs → decode cX12_moveOf pc = .ok (.ireturn, 1) → W p l e (rmD 3 0 0) s m args below meth c H locs 0 0 Q (F0 m pc ls' [.int r0]) := by
    intro r0 H locs pc ls' e0 hn; cases e0; exact hret H locs pc ls' hn
  rw [fX12_moveOf] at h
  refine lv_iload_n hx hb dX12_moveOf_0 rfl (lv_at hl 1 rfl) ?_
  refine gF_i (ws' := (rM E am mm ++ [])) C hG pst pst.symm (gR_S (As := [.int x1]) (rest := []) C hz hl.1 hG pst (c_X12_isExtent l E x1 rfl H.size) okX12_isExtent q1533 rfl (Nat.le_of_ble_eq_true rfl) (by omega) ⟨Nat.le_refl _, Nat.le_refl _⟩ dX12_moveOf_1) (fun H locs z1 hG => ?_)
  refine lv_if_eq (tgt := 15) hx hb dX12_moveOf_4 (by decide) (fun c4 => ?_) (fun c4 => ?_)
  · replace h := it c4 h
    refine lv_iconst (v := (-1)) hx hb dX12_moveOf_15 (by decide) ?_
    exact hret _ _ _ _ _ h rfl hG dX12_moveOf_16
  · replace h := ie c4 h
    refine lv_aload_n hx hb dX12_moveOf_7 rfl (lv_at hl 0 rfl) ?_
    refine lv_iload_n hx hb dX12_moveOf_8 rfl (lv_at hl 1 rfl) ?_
    obtain ⟨r2, hcr2, h⟩ := bnd_some h
    refine gF_i (ws' := (rM E am mm ++ [])) C hG (pin pnil) (List.Perm.symm (pin pnil)) (gR_V (As := [.int x1]) (rest := []) C hz hl.1 hG (pin pnil) (c_X12_moveAt l E am N x1 mm hcr2 H.size) okX12_moveAt q1582 0 rfl rfl rfl (Nat.le_of_ble_eq_true rfl) (by omega) ⟨Nat.le_refl _, Nat.le_refl _⟩ dX12_moveOf_9) (fun H locs _ hG => ?_)
    refine lv_goto (tgt := 16) hx hb dX12_moveOf_12 (by decide) ?_
    exact hret _ _ _ _ _ h rfl hG dX12_moveOf_16
set_option maxHeartbeats 4000000 in
set_option maxRecDepth 100000 in
theorem c_X12_plan (l : Launch) (E : GE) (am : Nat → Nat) (N : Nat) (mm : RS) {res : Int32} (h : fX12_plan N mm = some res) : gMi l E yX12_plan cX12_plan 1 .int 6 0 0 [.ref (am 0)] (rM E am mm ++ []) (rM E am mm ++ []) res := by
  refine gMi_of (own := RX12) (by decide +kernel) rfl (Nat.le_of_ble_eq_true rfl) ?_
  intro p e s m args below meth c A ls Q H locs C hz hl hG hret
  have hx := C.1.1
  have hb := C.1.2.1
  have hts := C.1.2.2.2.2
  have hown := C.1.2.2.2.1
  have hl : lv_has ls 1 [(0, .ref (am 0))] := hl
  replace hret : ∀ (r0 : Int32) (H : Heap) (locs : List Loc) (pc : Nat) (ls' : Array Slot), some r0 = some res → narrow .int (.int r0) = .int r0 → gG E A s.heap (rM E am mm ++ []) H locs → decode cX12_plan pc = .ok (.ireturn, 1) → W p l e (rmD 6 0 0) s m args below meth c H locs 0 0 Q (F0 m pc ls' [.int r0]) := by
    intro r0 H locs pc ls' e0 hn; cases e0; exact hret H locs pc ls' hn
  rw [fX12_plan] at h
  refine lv_aload_n hx hb dX12_plan_0 rfl (lv_at hl 0 rfl) ?_
  refine lv_aload_n hx hb dX12_plan_1 rfl (lv_at hl 0 rfl) ?_
  refine gL_f (v := .ref (am 1)) C hG kX12 0 0 rfl (by decide) rfl q1352 rfl dX12_plan_2 ?_
  refine lv_bipush (v := 8) hx hb dX12_plan_5 (by decide) ?_
  refine gL_i (v := (mm 1 8)) C hG 1 rfl (vp_in_nI (n := 8) (by decide) (by decide)) (congrArg (mm 1) (nI_clamp (n := 8) (by decide))) dX12_plan_7 ?_
  obtain ⟨r1, hcr1, h⟩ := bnd_some h
  refine gF_i (ws' := (rM E am mm ++ [])) C hG (pin pnil) (List.Perm.symm (pin pnil)) (gR_V (As := [.int (mm 1 8)]) (rest := []) C hz hl.1 hG (pin pnil) (c_X12_bestSet l E am N (mm 1 8) mm hcr1 H.size) okX12_bestSet q1689 0 rfl rfl rfl (Nat.le_of_ble_eq_true rfl) (by omega) ⟨Nat.le_refl _, Nat.le_refl _⟩ dX12_plan_8) (fun H locs _ hG => ?_)
  exact hret _ _ _ _ _ h rfl hG dX12_plan_11
set_option maxHeartbeats 4000000 in
set_option maxRecDepth 100000 in
theorem c_X12_worth (l : Launch) (E : GE) (am : Nat → Nat) (N : Nat) (x1 : Int32) (mm : RS) {res : Int32} (h : fX12_worth N x1 mm = some res) : gMi l E yX12_worth cX12_worth 2 .int 6 0 0 [.ref (am 0), .int x1] (rM E am mm ++ []) (rM E am mm ++ []) res := by
  refine gMi_of (own := RX12) (by decide +kernel) rfl (Nat.le_of_ble_eq_true rfl) ?_
  intro p e s m args below meth c A ls Q H locs C hz hl hG hret
  have hx := C.1.1
  have hb := C.1.2.1
  have hts := C.1.2.2.2.2
  have hown := C.1.2.2.2.1
  have hl : lv_has ls 2 [(0, .ref (am 0)), (1, .int x1)] := hl
  replace hret : ∀ (r0 : Int32) (H : Heap) (locs : List Loc) (pc : Nat) (ls' : Array Slot), some r0 = some res → narrow .int (.int r0) = .int r0 → gG E A s.heap (rM E am mm ++ []) H locs → decode cX12_worth pc = .ok (.ireturn, 1) → W p l e (rmD 6 0 0) s m args below meth c H locs 0 0 Q (F0 m pc ls' [.int r0]) := by
    intro r0 H locs pc ls' e0 hn; cases e0; exact hret H locs pc ls' hn
  rw [fX12_worth] at h
  refine lv_iload_n hx hb dX12_worth_0 rfl (lv_at hl 1 rfl) ?_
  refine lv_iconst (v := 0) hx hb dX12_worth_1 (by decide) ?_
  refine lv_bipush (v := 12) hx hb dX12_worth_2 (by decide) ?_
  refine gF_i (ws' := (rM E am mm ++ [])) C hG pst pst.symm (gR_S (As := [.int x1, .int 0, .int 12]) (rest := []) C hz hl.1 hG pst (c_X12_isIn l E x1 0 12 rfl H.size) okX12_isIn q1446 rfl (Nat.le_of_ble_eq_true rfl) (by omega) ⟨Nat.le_refl _, Nat.le_refl _⟩ dX12_worth_4) (fun H locs z1 hG => ?_)
  refine lv_if_eq (tgt := 22) hx hb dX12_worth_7 (by decide) (fun c7 => ?_) (fun c7 => ?_)
  · replace h := it c7 h
    refine lv_ldcw (v := (-2147483648)) hx hb hown (hts _ q1861) dX12_worth_22 ?_
    exact hret _ _ _ _ _ h rfl hG dX12_worth_25
  · replace h := ie c7 h
    refine lv_aload_n hx hb dX12_worth_10 rfl (lv_at hl 0 rfl) ?_
    refine lv_aload_n hx hb dX12_worth_11 rfl (lv_at hl 0 rfl) ?_
    refine lv_iload_n hx hb dX12_worth_12 rfl (lv_at hl 1 rfl) ?_
    obtain ⟨r2, hcr2, h⟩ := bnd_some h
    refine gF_i (ws' := (rM E am mm ++ [])) C hG (pin pnil) (List.Perm.symm (pin pnil)) (gR_V (As := [.int x1]) (rest := [.ref (am 0)]) C hz hl.1 hG (pin pnil) (c_X12_bestSet l E am N x1 mm hcr2 H.size) okX12_bestSet q1689 0 rfl rfl rfl (Nat.le_of_ble_eq_true rfl) (by omega) ⟨Nat.le_refl _, Nat.le_refl _⟩ dX12_worth_13) (fun H locs _ hG => ?_)
    obtain ⟨r3, hcr3, h⟩ := bnd_some h
    refine gF_i (ws' := (rM E am mm ++ [])) C hG (pin pnil) (List.Perm.symm (pin pnil)) (gR_V (As := [.int r2]) (rest := []) C hz hl.1 hG (pin pnil) (c_X12_worthOf l E am N r2 mm hcr3 H.size) okX12_worthOf q1712 0 rfl rfl rfl (Nat.le_of_ble_eq_true rfl) (by omega) ⟨Nat.le_refl _, Nat.le_refl _⟩ dX12_worth_16) (fun H locs _ hG => ?_)
    refine lv_goto (tgt := 25) hx hb dX12_worth_19 (by decide) ?_
    exact hret _ _ _ _ _ h rfl hG dX12_worth_25
set_option maxHeartbeats 4000000 in
set_option maxRecDepth 100000 in
theorem c_X12_value (l : Launch) (E : GE) (am : Nat → Nat) (N : Nat) (x1 : Int32) (mm : RS) {res : Int32} (h : fX12_value N x1 mm = some res) : gMi l E yX12_value cX12_value 2 .int 5 0 0 [.ref (am 0), .int x1] (rM E am mm ++ []) (rM E am mm ++ []) res := by
  refine gMi_of (own := RX12) (by decide +kernel) rfl (Nat.le_of_ble_eq_true rfl) ?_
  intro p e s m args below meth c A ls Q H locs C hz hl hG hret
  have hx := C.1.1
  have hb := C.1.2.1
  have hts := C.1.2.2.2.2
  have hown := C.1.2.2.2.1
  have hl : lv_has ls 2 [(0, .ref (am 0)), (1, .int x1)] := hl
  replace hret : ∀ (r0 : Int32) (H : Heap) (locs : List Loc) (pc : Nat) (ls' : Array Slot), some r0 = some res → narrow .int (.int r0) = .int r0 → gG E A s.heap (rM E am mm ++ []) H locs → decode cX12_value pc = .ok (.ireturn, 1) → W p l e (rmD 5 0 0) s m args below meth c H locs 0 0 Q (F0 m pc ls' [.int r0]) := by
    intro r0 H locs pc ls' e0 hn; cases e0; exact hret H locs pc ls' hn
  rw [fX12_value] at h
  refine lv_iload_n hx hb dX12_value_0 rfl (lv_at hl 1 rfl) ?_
  refine lv_iconst (v := 0) hx hb dX12_value_1 (by decide) ?_
  refine lv_sipush (v := 1023) hx hb dX12_value_2 (by decide) ?_
  refine gF_i (ws' := (rM E am mm ++ [])) C hG pst pst.symm (gR_S (As := [.int x1, .int 0, .int 1023]) (rest := []) C hz hl.1 hG pst (c_X12_isIn l E x1 0 1023 rfl H.size) okX12_isIn q1446 rfl (Nat.le_of_ble_eq_true rfl) (by omega) ⟨Nat.le_refl _, Nat.le_refl _⟩ dX12_value_5) (fun H locs z1 hG => ?_)
  refine lv_if_eq (tgt := 34) hx hb dX12_value_8 (by decide) (fun c8 => ?_) (fun c8 => ?_)
  · replace h := it c8 h
    refine lv_ldcw (v := (-2147483648)) hx hb hown (hts _ q1861) dX12_value_34 ?_
    exact hret _ _ _ _ _ h rfl hG dX12_value_37
  · replace h := ie c8 h
    refine lv_aload_n hx hb dX12_value_11 rfl (lv_at hl 0 rfl) ?_
    refine lv_iload_n hx hb dX12_value_12 rfl (lv_at hl 1 rfl) ?_
    refine lv_aload_n hx hb dX12_value_13 rfl (lv_at hl 0 rfl) ?_
    refine gL_f (v := .ref (am 1)) C hG kX12 0 0 rfl (by decide) rfl q1352 rfl dX12_value_14 ?_
    refine lv_bipush (v := 8) hx hb dX12_value_17 (by decide) ?_
    refine gL_i (v := (mm 1 8)) C hG 1 rfl (vp_in_nI (n := 8) (by decide) (by decide)) (congrArg (mm 1) (nI_clamp (n := 8) (by decide))) dX12_value_19 ?_
    obtain ⟨r2, hcr2, h⟩ := bnd_some h
    refine gF_i (ws' := (rM E am mm ++ [])) C hG (pin pnil) (List.Perm.symm (pin pnil)) (gR_V (As := [.int x1, .int (mm 1 8)]) (rest := []) C hz hl.1 hG (pin pnil) (c_X12_isAllowed l E am N x1 (mm 1 8) mm hcr2 H.size) okX12_isAllowed q1693 0 rfl rfl rfl (Nat.le_of_ble_eq_true rfl) (by omega) ⟨Nat.le_refl _, Nat.le_refl _⟩ dX12_value_20) (fun H locs z3 hG => ?_)
    refine lv_if_eq (tgt := 34) hx hb dX12_value_23 (by decide) (fun c23 => ?_) (fun c23 => ?_)
    · replace h := it c23 h
      refine lv_ldcw (v := (-2147483648)) hx hb hown (hts _ q1861) dX12_value_34 ?_
      exact hret _ _ _ _ _ h rfl hG dX12_value_37
    · replace h := ie c23 h
      refine lv_aload_n hx hb dX12_value_26 rfl (lv_at hl 0 rfl) ?_
      refine lv_iload_n hx hb dX12_value_27 rfl (lv_at hl 1 rfl) ?_
      obtain ⟨r4, hcr4, h⟩ := bnd_some h
      refine gF_i (ws' := (rM E am mm ++ [])) C hG (pin pnil) (List.Perm.symm (pin pnil)) (gR_V (As := [.int x1]) (rest := []) C hz hl.1 hG (pin pnil) (c_X12_worthOf l E am N x1 mm hcr4 H.size) okX12_worthOf q1712 0 rfl rfl rfl (Nat.le_of_ble_eq_true rfl) (by omega) ⟨Nat.le_refl _, Nat.le_refl _⟩ dX12_value_28) (fun H locs _ hG => ?_)
      refine lv_goto (tgt := 37) hx hb dX12_value_31 (by decide) ?_
      exact hret _ _ _ _ _ h rfl hG dX12_value_37
set_option maxHeartbeats 4000000 in
set_option maxRecDepth 100000 in
theorem c_X12_may (l : Launch) (E : GE) (am : Nat → Nat) (N : Nat) (x1 : Int32) (x2 : Int32) (mm : RS) {res : Int32} (h : fX12_may N x1 x2 mm = some res) : gMi l E yX12_may cX12_may 4 .boolean 5 0 0 [.ref (am 0), .int x1, .int x2] (rM E am mm ++ []) (rM E am mm ++ []) res := by
  refine gMi_of (own := RX12) (by decide +kernel) rfl (Nat.le_of_ble_eq_true rfl) ?_
  intro p e s m args below meth c A ls Q H locs C hz hl hG hret
  have hx := C.1.1
  have hb := C.1.2.1
  have hts := C.1.2.2.2.2
  have hown := C.1.2.2.2.1
  have hl : lv_has ls 4 [(0, .ref (am 0)), (1, .int x1), (2, .int x2)] := hl
  replace hret : ∀ (r0 : Int32) (H : Heap) (locs : List Loc) (pc : Nat) (ls' : Array Slot), some r0 = some res → narrow .boolean (.int r0) = .int r0 → gG E A s.heap (rM E am mm ++ []) H locs → decode cX12_may pc = .ok (.ireturn, 1) → W p l e (rmD 5 0 0) s m args below meth c H locs 0 0 Q (F0 m pc ls' [.int r0]) := by
    intro r0 H locs pc ls' e0 hn; cases e0; exact hret H locs pc ls' hn
  have K44 : ∀ (k11 : (Int32 → Option (Int32))) (hk11 : ∀  (x3 : Int32) (H : Heap) (locs : List Loc) (ls : Array Slot), gG E A s.heap (rM E am mm ++ []) H locs → lv_has ls 4 [(0, .ref (am 0)), (1, .int x1), (2, .int x2), (3, .int x3)] → k11 x3 = some res → W p l e (rmD 5 0 0) s m args below meth c H locs 0 0 Q (F0 m 11 ls [])), ∀  (x3 : Int32) (H : Heap) (locs : List Loc) (ls : Array Slot), gG E A s.heap (rM E am mm ++ []) H locs → lv_has ls 4 [(0, .ref (am 0)), (1, .int x1), (2, .int x2), (3, .int x3)] → fX12_may_L44 N x1 x2 mm k11 x3 = some res → W p l e (rmD 5 0 0) s m args below meth c H locs 0 0 Q (F0 m 44 ls []) := by
    intro k11 hk11 x3 H locs ls hG hl h
    rw [fX12_may_L44] at h
    refine lv_iinc (v := (x3 + 1)) (lv' := [(3, .int (x3 + 1)), (0, .ref (am 0)), (1, .int x1), (2, .int x2)]) hx hb dX12_may_44 hl (k := 3) rfl (congrArg (x3 + ·) (by decide : Int32.ofInt 1 = 1)) (by decide) rfl (fun ls hl => ?_)
    refine lv_goto (tgt := 11) hx hb dX12_may_47 (by decide) ?_
    exact hk11 (x3 + 1) _ _ _ hG (lv_sub hl [1, 2, 3, 0] rfl) h
  have K11 : ∀ (k : Nat), ∀  (x3 : Int32) (H : Heap) (locs : List Loc) (ls : Array Slot), gG E A s.heap (rM E am mm ++ []) H locs → lv_has ls 4 [(0, .ref (am 0)), (1, .int x1), (2, .int x2), (3, .int x3)] → fX12_may_L11 N x1 x2 mm k x3 = some res → W p l e (rmD 5 0 0) s m args below meth c H locs 0 0 Q (F0 m 11 ls []) := by
    intro k
    induction k with
    | zero => intro x3 H locs ls hG hl h; exact absurd (show none = _ from h) (by simp)
    | succ k ih =>
      intro x3 H locs ls hG hl h
      rw [fX12_may_L11] at h
      refine lv_iload_n hx hb dX12_may_11 rfl (lv_at hl 3 rfl) ?_
      refine lv_sipush (v := 1024) hx hb dX12_may_12 (by decide) ?_
      refine lv_icmp_ge (tgt := 50) hx hb dX12_may_15 (by decide) (fun c15 => ?_) (fun c15 => ?_)
      · replace h := it c15 h
        refine lv_iconst (v := 0) hx hb dX12_may_50 (by decide) ?_
        exact hret _ _ _ _ _ h rfl hG dX12_may_51
      · replace h := ie c15 h
        refine lv_iload_n hx hb dX12_may_18 rfl (lv_at hl 3 rfl) ?_
        refine lv_iload_n hx hb dX12_may_19 rfl (lv_at hl 1 rfl) ?_
        refine gF_i (ws' := (rM E am mm ++ [])) C hG pst pst.symm (gR_S (As := [.int x3, .int x1]) (rest := []) C hz hl.1 hG pst (c_X12_has l E x3 x1 rfl H.size) okX12_has q1674 rfl (Nat.le_of_ble_eq_true rfl) (by omega) ⟨Nat.le_refl _, Nat.le_refl _⟩ dX12_may_20) (fun H locs z1 hG => ?_)
        refine lv_iload_n hx hb dX12_may_23 rfl (lv_at hl 2 rfl) ?_
        refine lv_icmp_ne (tgt := 44) hx hb dX12_may_24 (by decide) (fun c24 => ?_) (fun c24 => ?_)
        · replace h := ie c24 h
          exact K44 _ ih x3 _ _ _ hG (lv_sub hl [0, 1, 2, 3] rfl) h
        · replace h := it c24 h
          refine lv_aload_n hx hb dX12_may_27 rfl (lv_at hl 0 rfl) ?_
          refine lv_iload_n hx hb dX12_may_28 rfl (lv_at hl 3 rfl) ?_
          refine lv_aload_n hx hb dX12_may_29 rfl (lv_at hl 0 rfl) ?_
          refine gL_f (v := .ref (am 1)) C hG kX12 0 0 rfl (by decide) rfl q1352 rfl dX12_may_30 ?_
          refine lv_bipush (v := 8) hx hb dX12_may_33 (by decide) ?_
          refine gL_i (v := (mm 1 8)) C hG 1 rfl (vp_in_nI (n := 8) (by decide) (by decide)) (congrArg (mm 1) (nI_clamp (n := 8) (by decide))) dX12_may_35 ?_
          obtain ⟨r2, hcr2, h⟩ := bnd_some h
          refine gF_i (ws' := (rM E am mm ++ [])) C hG (pin pnil) (List.Perm.symm (pin pnil)) (gR_V (As := [.int x3, .int (mm 1 8)]) (rest := []) C hz hl.1 hG (pin pnil) (c_X12_isAllowed l E am N x3 (mm 1 8) mm hcr2 H.size) okX12_isAllowed q1693 0 rfl rfl rfl (Nat.le_of_ble_eq_true rfl) (by omega) ⟨Nat.le_refl _, Nat.le_refl _⟩ dX12_may_36) (fun H locs z3 hG => ?_)
          refine lv_if_eq (tgt := 44) hx hb dX12_may_39 (by decide) (fun c39 => ?_) (fun c39 => ?_)
          · replace h := it c39 h
            exact K44 _ ih x3 _ _ _ hG (lv_sub hl [0, 1, 2, 3] rfl) h
          · replace h := ie c39 h
            refine lv_iconst (v := 1) hx hb dX12_may_42 (by decide) ?_
            exact hret _ _ _ _ _ h rfl hG dX12_may_43
  rw [fX12_may] at h
  refine lv_iload_n hx hb dX12_may_0 rfl (lv_at hl 1 rfl) ?_
  refine gF_i (ws' := (rM E am mm ++ [])) C hG pst pst.symm (gR_S (As := [.int x1]) (rest := []) C hz hl.1 hG pst (c_X12_isExtent l E x1 rfl H.size) okX12_isExtent q1533 rfl (Nat.le_of_ble_eq_true rfl) (by omega) ⟨Nat.le_refl _, Nat.le_refl _⟩ dX12_may_1) (fun H locs z1 hG => ?_)
  refine lv_if_ne (tgt := 9) hx hb dX12_may_4 (by decide) (fun c4 => ?_) (fun c4 => ?_)
  · replace h := ie c4 h
    refine lv_iconst (v := 0) hx hb dX12_may_9 (by decide) ?_
    refine lv_istore_n (lv' := [(3, .int 0), (0, .ref (am 0)), (1, .int x1), (2, .int x2)]) hx hb dX12_may_10 rfl hl (by decide) rfl (fun ls hl => ?_)
    exact K11 N 0 _ _ _ hG (lv_sub hl [1, 2, 3, 0] rfl) h
  · replace h := it c4 h
    refine lv_iconst (v := 0) hx hb dX12_may_7 (by decide) ?_
    exact hret _ _ _ _ _ h rfl hG dX12_may_8
set_option maxHeartbeats 4000000 in
set_option maxRecDepth 100000 in
theorem c_X12_next (l : Launch) (E : GE) (am : Nat → Nat) (N : Nat) (x1 : Int32) (mm : RS) {res : Int32 × RS} (h : fX12_next N x1 mm = some res) : gMi l E yX12_next cX12_next 3 .int 6 0 0 [.ref (am 0), .int x1] (rM E am mm ++ []) (rM E am res.2 ++ []) res.1 := by
  refine gMi_of (own := RX12) (by decide +kernel) rfl (Nat.le_of_ble_eq_true rfl) ?_
  intro p e s m args below meth c A ls Q H locs C hz hl hG hret
  have hx := C.1.1
  have hb := C.1.2.1
  have hts := C.1.2.2.2.2
  have hown := C.1.2.2.2.1
  have hl : lv_has ls 3 [(0, .ref (am 0)), (1, .int x1)] := hl
  replace hret : ∀ (r0 : Int32) (mm0 : RS) (H : Heap) (locs : List Loc) (pc : Nat) (ls' : Array Slot), some (r0, mm0) = some res → narrow .int (.int r0) = .int r0 → gG E A s.heap (rM E am mm0 ++ []) H locs → decode cX12_next pc = .ok (.ireturn, 1) → W p l e (rmD 6 0 0) s m args below meth c H locs 0 0 Q (F0 m pc ls' [.int r0]) := by
    intro r0 mm0 H locs pc ls' e0 hn; cases e0; exact hret H locs pc ls' hn
  rw [fX12_next] at h
  refine lv_aload_n hx hb dX12_next_0 rfl (lv_at hl 0 rfl) ?_
  refine lv_aload_n hx hb dX12_next_1 rfl (lv_at hl 0 rfl) ?_
  refine lv_aload_n hx hb dX12_next_2 rfl (lv_at hl 0 rfl) ?_
  refine gL_f (v := .ref (am 1)) C hG kX12 0 0 rfl (by decide) rfl q1352 rfl dX12_next_3 ?_
  refine lv_bipush (v := 8) hx hb dX12_next_6 (by decide) ?_
  refine gL_i (v := (mm 1 8)) C hG 1 rfl (vp_in_nI (n := 8) (by decide) (by decide)) (congrArg (mm 1) (nI_clamp (n := 8) (by decide))) dX12_next_8 ?_
  obtain ⟨r1, hcr1, h⟩ := bnd_some h
  refine gF_i (ws' := (rM E am mm ++ [])) C hG (pin pnil) (List.Perm.symm (pin pnil)) (gR_V (As := [.int (mm 1 8)]) (rest := [.ref (am 0)]) C hz hl.1 hG (pin pnil) (c_X12_bestSet l E am N (mm 1 8) mm hcr1 H.size) okX12_bestSet q1689 0 rfl rfl rfl (Nat.le_of_ble_eq_true rfl) (by omega) ⟨Nat.le_refl _, Nat.le_refl _⟩ dX12_next_9) (fun H locs _ hG => ?_)
  obtain ⟨r2, hcr2, h⟩ := bnd_some h
  refine gF_i (ws' := (rM E am r2.2 ++ [])) C hG (pin pnil) (List.Perm.symm (pin pnil)) (gR_V (As := [.int r1]) (rest := []) C hz hl.1 hG (pin pnil) (c_X12_layNew l E am N r1 mm hcr2 H.size) okX12_layNew q1718 0 rfl rfl rfl (Nat.le_of_ble_eq_true rfl) (by omega) ⟨Nat.le_refl _, Nat.le_refl _⟩ dX12_next_12) (fun H locs _ hG => ?_)
  refine lv_istore_n (lv' := [(2, .int r2.1), (0, .ref (am 0)), (1, .int x1)]) hx hb dX12_next_15 rfl hl (by decide) rfl (fun ls hl => ?_)
  refine lv_iload_n hx hb dX12_next_16 rfl (lv_at hl 2 rfl) ?_
  refine lv_iconst (v := (-1)) hx hb dX12_next_17 (by decide) ?_
  refine lv_icmp_ne (tgt := 25) hx hb dX12_next_18 (by decide) (fun c18 => ?_) (fun c18 => ?_)
  · replace h := ie c18 h
    refine lv_iload_n hx hb dX12_next_25 rfl (lv_at hl 2 rfl) ?_
    refine lv_iconst (v := 0) hx hb dX12_next_26 (by decide) ?_
    refine lv_iload_n hx hb dX12_next_27 rfl (lv_at hl 0 rfl) ?_
    refine lv_iconst (v := 1) hx hb dX12_next_28 (by decide) ?_
    refine lv_isub hx hb dX12_next_29 ?_
    refine gF_i (ws' := (rM E am r2.2 ++ [])) C hG pst pst.symm (gR_S (As := [.int x1, .int 0, .int (r2.1 - 1)]) (rest := []) C hz hl.1 hG pst (c_X12_isIn l E x1 0 (r2.1 - 1) rfl H.size) okX12_isIn q1446 rfl (Nat.le_of_ble_eq_true rfl) (by omega) ⟨Nat.le_refl _, Nat.le_refl _⟩ dX12_next_30) (fun H locs z3 hG => ?_)
    refine lv_if_eq (tgt := 45) hx hb dX12_next_33 (by decide) (fun c33 => ?_) (fun c33 => ?_)
    · replace h := it c33 h
      refine lv_bipush (v := (-2)) hx hb dX12_next_45 (by decide) ?_
      exact hret _ _ _ _ _ _ h rfl hG dX12_next_47
    · replace h := ie c33 h
      refine lv_aload_n hx hb dX12_next_36 rfl (lv_at hl 1 rfl) ?_
      refine gL_f (v := .ref (am 6)) C hG kX12 0 16 rfl (by decide) rfl q1368 rfl dX12_next_37 ?_
      refine lv_iload_n hx hb dX12_next_40 rfl (lv_at hl 2 rfl) ?_
      obtain ⟨b4, h⟩ := ck_some h
      refine gL_i (v := (r2.2 6 x1.toNatClampNeg)) C hG 6 rfl (inb_in b4) rfl dX12_next_41 ?_
      refine lv_goto (tgt := 47) hx hb dX12_next_42 (by decide) ?_
      exact hret _ _ _ _ _ _ h rfl hG dX12_next_47
  · replace h := it c18 h
    refine lv_iload_n hx hb dX12_next_21 rfl (lv_at hl 0 rfl) ?_
    refine lv_goto (tgt := 47) hx hb dX12_next_22 (by decide) ?_
    exact hret _ _ _ _ _ _ h rfl hG dX12_next_47
set_option maxHeartbeats 4000000 in
set_option maxRecDepth 100000 in
theorem c_X12_enough (l : Launch) (E : GE) (am : Nat → Nat) (N : Nat) (mm : RS) {res : Int32} (h : fX12_enough N mm = some res) : gMi l E yX12_enough cX12_enough 3 .int 6 0 0 [.ref (am 0)] (rM E am mm ++ []) (rM E am mm ++ []) res := by
  refine gMi_of (own := RX12) (by decide +kernel) rfl (Nat.le_of_ble_eq_true rfl) ?_
  intro p e s m args below meth c A ls Q H locs C hz hl hG hret
  have hx := C.1.1
  have hb := C.1.2.1
  have hts := C.1.2.2.2.2
  have hown := C.1.2.2.2.1
  have hl : lv_has ls 3 [(0, .ref (am 0))] := hl
  replace hret : ∀ (r0 : Int32) (H : Heap) (locs : List Loc) (pc : Nat) (ls' : Array Slot), some r0 = some res → narrow .int (.int r0) = .int r0 → gG E A s.heap (rM E am mm ++ []) H locs → decode cX12_enough pc = .ok (.ireturn, 1) → W p l e (rmD 6 0 0) s m args below meth c H locs 0 0 Q (F0 m pc ls' [.int r0]) := by
    intro r0 H locs pc ls' e0 hn; cases e0; exact hret H locs pc ls' hn
  have K13 : ∀ (k : Nat), ∀  (x1 : Int32) (x2 : Int32) (H : Heap) (locs : List Loc) (ls : Array Slot), gG E A s.heap (rM E am mm ++ []) H locs → lv_has ls 3 [(0, .ref (am 0)), (1, .int x1), (2, .int x2)] → fX12_enough_L13 N mm k x1 x2 = some res → W p l e (rmD 6 0 0) s m args below meth c H locs 0 0 Q (F0 m 13 ls []) := by
    intro k
    induction k with
    | zero => intro x1 x2 H locs ls hG hl h; exact absurd (show none = _ from h) (by simp)
    | succ k ih =>
      intro x1 x2 H locs ls hG hl h
      rw [fX12_enough_L13] at h
      refine lv_aload_n hx hb dX12_enough_13 rfl (lv_at hl 0 rfl) ?_
      refine lv_aload_n hx hb dX12_enough_14 rfl (lv_at hl 0 rfl) ?_
      refine lv_iload_n hx hb dX12_enough_15 rfl (lv_at hl 2 rfl) ?_
      obtain ⟨r1, hcr1, h⟩ := bnd_some h
      refine gF_i (ws' := (rM E am mm ++ [])) C hG (pin pnil) (List.Perm.symm (pin pnil)) (gR_V (As := [.int x2]) (rest := [.ref (am 0)]) C hz hl.1 hG (pin pnil) (c_X12_bestSet l E am N x2 mm hcr1 H.size) okX12_bestSet q1689 0 rfl rfl rfl (Nat.le_of_ble_eq_true rfl) (by omega) ⟨Nat.le_refl _, Nat.le_refl _⟩ dX12_enough_16) (fun H locs _ hG => ?_)
      obtain ⟨r2, hcr2, h⟩ := bnd_some h
      refine gF_i (ws' := (rM E am mm ++ [])) C hG (pin pnil) (List.Perm.symm (pin pnil)) (gR_V (As := [.int r1]) (rest := []) C hz hl.1 hG (pin pnil) (c_X12_worthOf l E am N r1 mm hcr2 H.size) okX12_worthOf q1712 0 rfl rfl rfl (Nat.le_of_ble_eq_true rfl) (by omega) ⟨Nat.le_refl _, Nat.le_refl _⟩ dX12_enough_19) (fun H locs _ hG => ?_)
      refine lv_iload_n hx hb dX12_enough_22 rfl (lv_at hl 1 rfl) ?_
      refine lv_icmp_ge (tgt := 32) hx hb dX12_enough_23 (by decide) (fun c23 => ?_) (fun c23 => ?_)
      · replace h := it c23 h
        refine lv_iload_n hx hb dX12_enough_32 rfl (lv_at hl 2 rfl) ?_
        exact hret _ _ _ _ _ h rfl hG dX12_enough_33
      · replace h := ie c23 h
        refine lv_iinc (v := (x2 + 1)) (lv' := [(2, .int (x2 + 1)), (0, .ref (am 0)), (1, .int x1)]) hx hb dX12_enough_26 hl (k := 2) rfl (congrArg (x2 + ·) (by decide : Int32.ofInt 1 = 1)) (by decide) rfl (fun ls hl => ?_)
        refine lv_goto (tgt := 13) hx hb dX12_enough_29 (by decide) ?_
        exact ih x1 (x2 + 1) _ _ _ hG (lv_sub hl [1, 2, 0] rfl) h
  rw [fX12_enough] at h
  refine lv_aload_n hx hb dX12_enough_0 rfl (lv_at hl 0 rfl) ?_
  refine lv_aload_n hx hb dX12_enough_1 rfl (lv_at hl 0 rfl) ?_
  refine lv_bipush (v := 12) hx hb dX12_enough_2 (by decide) ?_
  obtain ⟨r1, hcr1, h⟩ := bnd_some h
  refine gF_i (ws' := (rM E am mm ++ [])) C hG (pin pnil) (List.Perm.symm (pin pnil)) (gR_V (As := [.int 12]) (rest := [.ref (am 0)]) C hz hl.1 hG (pin pnil) (c_X12_bestSet l E am N 12 mm hcr1 H.size) okX12_bestSet q1689 0 rfl rfl rfl (Nat.le_of_ble_eq_true rfl) (by omega) ⟨Nat.le_refl _, Nat.le_refl _⟩ dX12_enough_4) (fun H locs _ hG => ?_)
  obtain ⟨r2, hcr2, h⟩ := bnd_some h
  refine gF_i (ws' := (rM E am mm ++ [])) C hG (pin pnil) (List.Perm.symm (pin pnil)) (gR_V (As := [.int r1]) (rest := []) C hz hl.1 hG (pin pnil) (c_X12_worthOf l E am N r1 mm hcr2 H.size) okX12_worthOf q1712 0 rfl rfl rfl (Nat.le_of_ble_eq_true rfl) (by omega) ⟨Nat.le_refl _, Nat.le_refl _⟩ dX12_enough_7) (fun H locs _ hG => ?_)
  refine lv_istore_n (lv' := [(1, .int r2), (0, .ref (am 0))]) hx hb dX12_enough_10 rfl hl (by decide) rfl (fun ls hl => ?_)
  refine lv_iconst (v := 0) hx hb dX12_enough_11 (by decide) ?_
  refine lv_istore_n (lv' := [(2, .int 0), (1, .int r2), (0, .ref (am 0))]) hx hb dX12_enough_12 rfl hl (by decide) rfl (fun ls hl => ?_)
  exact K13 N r2 0 _ _ _ hG (lv_sub hl [2, 1, 0] rfl) h
set_option maxHeartbeats 4000000 in
set_option maxRecDepth 100000 in
theorem c_X12_needs (l : Launch) (E : GE) (am : Nat → Nat) (N : Nat) (x1 : Int32) (mm : RS) {res : Int32} (h : fX12_needs N x1 mm = some res) : gMi l E yX12_needs cX12_needs 4 .int 5 0 0 [.ref (am 0), .int x1] (rM E am mm ++ []) (rM E am mm ++ []) res := by
  refine gMi_of (own := RX12) (by decide +kernel) rfl (Nat.le_of_ble_eq_true rfl) ?_
  intro p e s m args below meth c A ls Q H locs C hz hl hG hret
  have hx := C.1.1
  have hb := C.1.2.1
  have hts := C.1.2.2.2.2
  have hown := C.1.2.2.2.1
  have hl : lv_has ls 4 [(0, .ref (am 0)), (1, .int x1)] := hl
  replace hret : ∀ (r0 : Int32) (H : Heap) (locs : List Loc) (pc : Nat) (ls' : Array Slot), some r0 = some res → narrow .int (.int r0) = .int r0 → gG E A s.heap (rM E am mm ++ []) H locs → decode cX12_needs pc = .ok (.ireturn, 1) → W p l e (rmD 5 0 0) s m args below meth c H locs 0 0 Q (F0 m pc ls' [.int r0]) := by
    intro r0 H locs pc ls' e0 hn; cases e0; exact hret H locs pc ls' hn
  have K32 : ∀ (k : Nat), ∀  (x2 : Int32) (x3 : Int32) (H : Heap) (locs : List Loc) (ls : Array Slot), gG E A s.heap (rM E am mm ++ []) H locs → lv_has ls 4 [(0, .ref (am 0)), (1, .int x1), (2, .int x2), (3, .int x3)] → fX12_needs_L32 N x1 mm k x2 x3 = some res → W p l e (rmD 5 0 0) s m args below meth c H locs 0 0 Q (F0 m 32 ls []) := by
    intro k
    induction k with
    | zero => intro x2 x3 H locs ls hG hl h; exact absurd (show none = _ from h) (by simp)
    | succ k ih =>
      intro x2 x3 H locs ls hG hl h
      rw [fX12_needs_L32] at h
      refine lv_iload_n hx hb dX12_needs_32 rfl (lv_at hl 3 rfl) ?_
      refine lv_bipush (v := 10) hx hb dX12_needs_33 (by decide) ?_
      refine lv_icmp_ge (tgt := 57) hx hb dX12_needs_35 (by decide) (fun c35 => ?_) (fun c35 => ?_)
      · replace h := it c35 h
        refine lv_iload_n hx hb dX12_needs_57 rfl (lv_at hl 2 rfl) ?_
        exact hret _ _ _ _ _ h rfl hG dX12_needs_58
      · replace h := ie c35 h
        refine lv_iload_n hx hb dX12_needs_38 rfl (lv_at hl 2 rfl) ?_
        refine lv_aload_n hx hb dX12_needs_39 rfl (lv_at hl 0 rfl) ?_
        refine lv_iload_n hx hb dX12_needs_40 rfl (lv_at hl 3 rfl) ?_
        refine lv_iload_n hx hb dX12_needs_41 rfl (lv_at hl 1 rfl) ?_
        refine lv_iload_n hx hb dX12_needs_42 rfl (lv_at hl 3 rfl) ?_
        refine gF_i (ws' := (rM E am mm ++ [])) C hG pst pst.symm (gR_S (As := [.int x1, .int x3]) (rest := [.int x3, .ref (am 0), .int x2]) C hz hl.1 hG pst (c_X12_has l E x1 x3 rfl H.size) okX12_has q1674 rfl (Nat.le_of_ble_eq_true rfl) (by omega) ⟨Nat.le_refl _, Nat.le_refl _⟩ dX12_needs_43) (fun H locs z1 hG => ?_)
        obtain ⟨r2, hcr2, h⟩ := bnd_some h
        refine gF_i (ws' := (rM E am mm ++ [])) C hG (pin pnil) (List.Perm.symm (pin pnil)) (gR_V (As := [.int x3, .int (fX12_has x1 x3)]) (rest := [.int x2]) C hz hl.1 hG (pin pnil) (c_X12_copiedFor l E am N x3 (fX12_has x1 x3) mm hcr2 H.size) okX12_copiedFor q1708 0 rfl rfl rfl (Nat.le_of_ble_eq_true rfl) (by omega) ⟨Nat.le_refl _, Nat.le_refl _⟩ dX12_needs_46) (fun H locs _ hG => ?_)
        refine lv_iadd hx hb dX12_needs_49 ?_
        obtain ⟨x2_3, ex2_3, h⟩ := thn_some h
        refine g_int ex2_3 ?_
        refine lv_istore_n (lv' := [(2, .int x2_3), (0, .ref (am 0)), (1, .int x1), (3, .int x3)]) hx hb dX12_needs_50 rfl hl (by decide) rfl (fun ls hl => ?_)
        refine lv_iinc (v := (x3 + 1)) (lv' := [(3, .int (x3 + 1)), (2, .int x2_3), (0, .ref (am 0)), (1, .int x1)]) hx hb dX12_needs_51 hl (k := 3) rfl (congrArg (x3 + ·) (by decide : Int32.ofInt 1 = 1)) (by decide) rfl (fun ls hl => ?_)
        refine lv_goto (tgt := 32) hx hb dX12_needs_54 (by decide) ?_
        exact ih x2_3 (x3 + 1) _ _ _ hG (lv_sub hl [2, 3, 1, 0] rfl) h
  rw [fX12_needs] at h
  refine lv_iload_n hx hb dX12_needs_0 rfl (lv_at hl 1 rfl) ?_
  refine lv_iconst (v := 0) hx hb dX12_needs_1 (by decide) ?_
  refine lv_sipush (v := 1023) hx hb dX12_needs_2 (by decide) ?_
  refine gF_i (ws' := (rM E am mm ++ [])) C hG pst pst.symm (gR_S (As := [.int x1, .int 0, .int 1023]) (rest := []) C hz hl.1 hG pst (c_X12_isIn l E x1 0 1023 rfl H.size) okX12_isIn q1446 rfl (Nat.le_of_ble_eq_true rfl) (by omega) ⟨Nat.le_refl _, Nat.le_refl _⟩ dX12_needs_5) (fun H locs z1 hG => ?_)
  refine lv_if_eq (tgt := 26) hx hb dX12_needs_8 (by decide) (fun c8 => ?_) (fun c8 => ?_)
  · replace h := it c8 h
    refine lv_iconst (v := (-1)) hx hb dX12_needs_26 (by decide) ?_
    exact hret _ _ _ _ _ h rfl hG dX12_needs_27
  · replace h := ie c8 h
    refine lv_aload_n hx hb dX12_needs_11 rfl (lv_at hl 0 rfl) ?_
    refine lv_iload_n hx hb dX12_needs_12 rfl (lv_at hl 1 rfl) ?_
    refine lv_aload_n hx hb dX12_needs_13 rfl (lv_at hl 0 rfl) ?_
    refine gL_f (v := .ref (am 1)) C hG kX12 0 0 rfl (by decide) rfl q1352 rfl dX12_needs_14 ?_
    refine lv_bipush (v := 8) hx hb dX12_needs_17 (by decide) ?_
    refine gL_i (v := (mm 1 8)) C hG 1 rfl (vp_in_nI (n := 8) (by decide) (by decide)) (congrArg (mm 1) (nI_clamp (n := 8) (by decide))) dX12_needs_19 ?_
    obtain ⟨r2, hcr2, h⟩ := bnd_some h
    refine gF_i (ws' := (rM E am mm ++ [])) C hG (pin pnil) (List.Perm.symm (pin pnil)) (gR_V (As := [.int x1, .int (mm 1 8)]) (rest := []) C hz hl.1 hG (pin pnil) (c_X12_isAllowed l E am N x1 (mm 1 8) mm hcr2 H.size) okX12_isAllowed q1693 0 rfl rfl rfl (Nat.le_of_ble_eq_true rfl) (by omega) ⟨Nat.le_refl _, Nat.le_refl _⟩ dX12_needs_20) (fun H locs z3 hG => ?_)
    refine lv_if_ne (tgt := 28) hx hb dX12_needs_23 (by decide) (fun c23 => ?_) (fun c23 => ?_)
    · replace h := ie c23 h
      refine lv_iconst (v := 0) hx hb dX12_needs_28 (by decide) ?_
      refine lv_istore_n (lv' := [(2, .int 0), (0, .ref (am 0)), (1, .int x1)]) hx hb dX12_needs_29 rfl hl (by decide) rfl (fun ls hl => ?_)
      refine lv_iconst (v := 0) hx hb dX12_needs_30 (by decide) ?_
      refine lv_istore_n (lv' := [(3, .int 0), (2, .int 0), (0, .ref (am 0)), (1, .int x1)]) hx hb dX12_needs_31 rfl hl (by decide) rfl (fun ls hl => ?_)
      exact K32 N 0 0 _ _ _ hG (lv_sub hl [2, 3, 1, 0] rfl) h
    · replace h := it c23 h
      refine lv_iconst (v := (-1)) hx hb dX12_needs_26 (by decide) ?_
      exact hret _ _ _ _ _ h rfl hG dX12_needs_27
set_option maxHeartbeats 4000000 in
set_option maxRecDepth 100000 in
theorem c_X12_shareOf (l : Launch) (E : GE) (am : Nat → Nat) (N : Nat) (x1 : Int32) (x2 : Int32) (mm : RS) {res : Int32} (h : fX12_shareOf N x1 x2 mm = some res) : gMi l E yX12_shareOf cX12_shareOf 3 .int 2 0 0 [.ref (am 0), .int x1, .int x2] (rM E am mm ++ []) (rM E am mm ++ []) res := by
  refine gMi_of (own := RX12) (by decide +kernel) rfl (Nat.le_of_ble_eq_true rfl) ?_
  intro p e s m args below meth c A ls Q H locs C hz hl hG hret
  have hx := C.1.1
  have hb := C.1.2.1
  have hts := C.1.2.2.2.2
  have hown := C.1.2.2.2.1
  have hl : lv_has ls 3 [(0, .ref (am 0)), (1, .int x1), (2, .int x2)] := hl
  replace hret : ∀ (r0 : Int32) (H : Heap) (locs : List Loc) (pc : Nat) (ls' : Array Slot), some r0 = some res → narrow .int (.int r0) = .int r0 → gG E A s.heap (rM E am mm ++ []) H locs → decode cX12_shareOf pc = .ok (.ireturn, 1) → W p l e (rmD 2 0 0) s m args below meth c H locs 0 0 Q (F0 m pc ls' [.int r0]) := by
    intro r0 H locs pc ls' e0 hn; cases e0; exact hret H locs pc ls' hn
  rw [fX12_shareOf] at h
  refine lv_iload_n hx hb dX12_shareOf_0 rfl (lv_at hl 2 rfl) ?_
  refine lv_aload_n hx hb dX12_shareOf_1 rfl (lv_at hl 0 rfl) ?_
  refine lv_iload_n hx hb dX12_shareOf_2 rfl (lv_at hl 1 rfl) ?_
  obtain ⟨r1, hcr1, h⟩ := bnd_some h
  refine gF_i (ws' := (rM E am mm ++ [])) C hG (pin pnil) (List.Perm.symm (pin pnil)) (gR_V (As := [.int x1]) (rest := [.int x2]) C hz hl.1 hG (pin pnil) (c_X12_isFast l E am N x1 mm hcr1 H.size) okX12_isFast q1551 0 rfl rfl rfl (Nat.le_of_ble_eq_true rfl) (by omega) ⟨Nat.le_refl _, Nat.le_refl _⟩ dX12_shareOf_3) (fun H locs z2 hG => ?_)
  refine lv_if_eq (tgt := 15) hx hb dX12_shareOf_6 (by decide) (fun c6 => ?_) (fun c6 => ?_)
  · replace h := it c6 h
    refine lv_iconst (v := 0) hx hb dX12_shareOf_15 (by decide) ?_
    refine lv_iadd hx hb dX12_shareOf_16 ?_
    exact hret _ _ _ _ _ h rfl hG dX12_shareOf_17
  · replace h := ie c6 h
    refine lv_iload_n hx hb dX12_shareOf_9 rfl (lv_at hl 2 rfl) ?_
    refine lv_iconst (v := 4) hx hb dX12_shareOf_10 (by decide) ?_
    refine lv_idiv hx hb dX12_shareOf_11 (by decide) ?_
    refine lv_goto (tgt := 16) hx hb dX12_shareOf_12 (by decide) ?_
    refine lv_iadd hx hb dX12_shareOf_16 ?_
    exact hret _ _ _ _ _ h rfl hG dX12_shareOf_17
set_option maxHeartbeats 4000000 in
set_option maxRecDepth 100000 in
theorem c_X12_layBests (l : Launch) (E : GE) (am : Nat → Nat) (N : Nat) (x1 : Int32) (mm : RS) {res : RS} (h : fX12_layBests N x1 mm = some res) : gMv l E yX12_layBests cX12_layBests 4 5 0 0 [.ref (am 0), .int x1] (rM E am mm ++ []) (rM E am res ++ []) := by
  refine gMv_of (own := RX12) (by decide +kernel) rfl (Nat.le_of_ble_eq_true rfl) ?_
  intro p e s m args below meth c A ls Q H locs C hz hl hG hin hret
  have hx := C.1.1
  have hb := C.1.2.1
  have hts := C.1.2.2.2.2
  have hown := C.1.2.2.2.1
  have hl : lv_has ls 4 [(0, .ref (am 0)), (1, .int x1)] := hl
  replace hret : ∀ (mm0 : RS) (H : Heap) (locs : List Loc) (pc : Nat) (ls' : Array Slot), some mm0 = some res → gG E A s.heap (rM E am mm0 ++ []) H locs → decode cX12_layBests pc = .ok (.return_, 1) → W p l e (rmD 5 0 0) s m args below meth c H locs 0 0 Q (F0 m pc ls' []) := by
    intro mm0 H locs pc ls' e0; cases e0; exact hret H locs pc ls'
  have K136 : ∀ (k22 : (Int32 → RS → Option (RS))) (hk22 : ∀  (x2 : Int32) (mm : RS) (H : Heap) (locs : List Loc) (ls : Array Slot), gG E A s.heap (rM E am mm ++ []) H locs → lv_has ls 4 [(0, .ref (am 0)), (1, .int x1), (2, .int x2)] → k22 x2 mm = some res → W p l e (rmD 5 0 0) s m args below meth c H locs 0 0 Q (F0 m 22 ls [])), ∀  (x2 : Int32) (mm : RS) (H : Heap) (locs : List Loc) (ls : Array Slot), gG E A s.heap (rM E am mm ++ []) H locs → lv_has ls 4 [(0, .ref (am 0)), (1, .int x1), (2, .int x2)] → fX12_layBests_L136 N x1 k22 x2 mm = some res → W p l e (rmD 5 0 0) s m args below meth c H locs 0 0 Q (F0 m 136 ls []) := by
    intro k22 hk22 x2 mm H locs ls hG hl h
    rw [fX12_layBests_L136] at h
    refine lv_iinc (v := (x2 + 1)) (lv' := [(2, .int (x2 + 1)), (0, .ref (am 0)), (1, .int x1)]) hx hb dX12_layBests_136 hl (k := 2) rfl (congrArg (x2 + ·) (by decide : Int32.ofInt 1 = 1)) (by decide) rfl (fun ls hl => ?_)
    refine lv_goto (tgt := 22) hx hb dX12_layBests_139 (by decide) ?_
    exact hk22 (x2 + 1) mm _ _ _ hG (lv_sub hl [1, 2, 0] rfl) h
  have K97 : ∀ (k22 : (Int32 → RS → Option (RS))) (hk22 : ∀  (x2 : Int32) (mm : RS) (H : Heap) (locs : List Loc) (ls : Array Slot), gG E A s.heap (rM E am mm ++ []) H locs → lv_has ls 4 [(0, .ref (am 0)), (1, .int x1), (2, .int x2)] → k22 x2 mm = some res → W p l e (rmD 5 0 0) s m args below meth c H locs 0 0 Q (F0 m 22 ls [])), ∀  (x2 : Int32) (x3 : Int32) (mm : RS) (H : Heap) (locs : List Loc) (ls : Array Slot), gG E A s.heap (rM E am mm ++ []) H locs → lv_has ls 4 [(0, .ref (am 0)), (1, .int x1), (2, .int x2), (3, .int x3)] → fX12_layBests_L97 N x1 k22 x2 x3 mm = some res → W p l e (rmD 5 0 0) s m args below meth c H locs 0 0 Q (F0 m 97 ls []) := by
    intro k22 hk22 x2 x3 mm H locs ls hG hl h
    rw [fX12_layBests_L97] at h
    refine lv_aload_n hx hb dX12_layBests_97 rfl (lv_at hl 0 rfl) ?_
    refine lv_iload_n hx hb dX12_layBests_98 rfl (lv_at hl 2 rfl) ?_
    obtain ⟨mm_1, emm_1, h⟩ := thn_some h
    refine gS_f (v := .int x2) (ws' := (rM E am mm_1 ++ [])) C hG kX12 0 23 rfl (by decide) q1375 rfl rfl rfl rfl (by show 23 < 27; decide) dX12_layBests_99 (by rw [emm_1]; rfl) (fun H locs hG => ?_)
    refine lv_aload_n hx hb dX12_layBests_102 rfl (lv_at hl 0 rfl) ?_
    refine lv_iload_n hx hb dX12_layBests_103 rfl (lv_at hl 3 rfl) ?_
    obtain ⟨mm_2, emm_2, h⟩ := thn_some h
    refine gS_f (v := .int x3) (ws' := (rM E am mm_2 ++ [])) C hG kX12 0 25 rfl (by decide) q1377 rfl rfl rfl rfl (by show 25 < 27; decide) dX12_layBests_104 (by rw [emm_2]; rfl) (fun H locs hG => ?_)
    refine lv_goto (tgt := 136) hx hb dX12_layBests_107 (by decide) ?_
    exact K136 _ hk22 x2 mm_2 _ _ _ hG (lv_sub hl [0, 1, 2] rfl) h
  have K126 : ∀ (k22 : (Int32 → RS → Option (RS))) (hk22 : ∀  (x2 : Int32) (mm : RS) (H : Heap) (locs : List Loc) (ls : Array Slot), gG E A s.heap (rM E am mm ++ []) H locs → lv_has ls 4 [(0, .ref (am 0)), (1, .int x1), (2, .int x2)] → k22 x2 mm = some res → W p l e (rmD 5 0 0) s m args below meth c H locs 0 0 Q (F0 m 22 ls [])), ∀  (x2 : Int32) (x3 : Int32) (mm : RS) (H : Heap) (locs : List Loc) (ls : Array Slot), gG E A s.heap (rM E am mm ++ []) H locs → lv_has ls 4 [(0, .ref (am 0)), (1, .int x1), (2, .int x2), (3, .int x3)] → fX12_layBests_L126 N x1 k22 x2 x3 mm = some res → W p l e (rmD 5 0 0) s m args below meth c H locs 0 0 Q (F0 m 126 ls []) := by
    intro k22 hk22 x2 x3 mm H locs ls hG hl h
    rw [fX12_layBests_L126] at h
    refine lv_aload_n hx hb dX12_layBests_126 rfl (lv_at hl 0 rfl) ?_
    refine lv_iload_n hx hb dX12_layBests_127 rfl (lv_at hl 2 rfl) ?_
    obtain ⟨mm_1, emm_1, h⟩ := thn_some h
    refine gS_f (v := .int x2) (ws' := (rM E am mm_1 ++ [])) C hG kX12 0 24 rfl (by decide) q1376 rfl rfl rfl rfl (by show 24 < 27; decide) dX12_layBests_128 (by rw [emm_1]; rfl) (fun H locs hG => ?_)
    refine lv_aload_n hx hb dX12_layBests_131 rfl (lv_at hl 0 rfl) ?_
    refine lv_iload_n hx hb dX12_layBests_132 rfl (lv_at hl 3 rfl) ?_
    obtain ⟨mm_2, emm_2, h⟩ := thn_some h
    refine gS_f (v := .int x3) (ws' := (rM E am mm_2 ++ [])) C hG kX12 0 26 rfl (by decide) q1378 rfl rfl rfl rfl (by show 26 < 27; decide) dX12_layBests_133 (by rw [emm_2]; rfl) (fun H locs hG => ?_)
    exact K136 _ hk22 x2 mm_2 _ _ _ hG (lv_sub hl [0, 1, 2] rfl) h
  have K22 : ∀ (k : Nat), ∀  (x2 : Int32) (mm : RS) (H : Heap) (locs : List Loc) (ls : Array Slot), gG E A s.heap (rM E am mm ++ []) H locs → lv_has ls 4 [(0, .ref (am 0)), (1, .int x1), (2, .int x2)] → fX12_layBests_L22 N x1 k x2 mm = some res → W p l e (rmD 5 0 0) s m args below meth c H locs 0 0 Q (F0 m 22 ls []) := by
    intro k
    induction k with
    | zero => intro x2 mm H locs ls hG hl h; exact absurd (show none = _ from h) (by simp)
    | succ k ih =>
      intro x2 mm H locs ls hG hl h
      rw [fX12_layBests_L22] at h
      refine lv_iload_n hx hb dX12_layBests_22 rfl (lv_at hl 2 rfl) ?_
      refine lv_sipush (v := 1024) hx hb dX12_layBests_23 (by decide) ?_
      refine lv_icmp_ge (tgt := 142) hx hb dX12_layBests_26 (by decide) (fun c26 => ?_) (fun c26 => ?_)
      · replace h := it c26 h
        exact hret _ _ _ _ _ h hG dX12_layBests_142
      · replace h := ie c26 h
        refine lv_aload_n hx hb dX12_layBests_29 rfl (lv_at hl 0 rfl) ?_
        refine lv_iload_n hx hb dX12_layBests_30 rfl (lv_at hl 2 rfl) ?_
        refine lv_aload_n hx hb dX12_layBests_31 rfl (lv_at hl 0 rfl) ?_
        refine gL_f (v := .ref (am 1)) C hG kX12 0 0 rfl (by decide) rfl q1352 rfl dX12_layBests_32 ?_
        refine lv_bipush (v := 8) hx hb dX12_layBests_35 (by decide) ?_
        refine gL_i (v := (mm 1 8)) C hG 1 rfl (vp_in_nI (n := 8) (by decide) (by decide)) (congrArg (mm 1) (nI_clamp (n := 8) (by decide))) dX12_layBests_37 ?_
        obtain ⟨r1, hcr1, h⟩ := bnd_some h
        refine gF_i (ws' := (rM E am mm ++ [])) C hG (pin pnil) (List.Perm.symm (pin pnil)) (gR_V (As := [.int x2, .int (mm 1 8)]) (rest := []) C hz hl.1 hG (pin pnil) (c_X12_isAllowed l E am N x2 (mm 1 8) mm hcr1 H.size) okX12_isAllowed q1693 0 rfl rfl rfl (Nat.le_of_ble_eq_true rfl) (by omega) ⟨Nat.le_refl _, Nat.le_refl _⟩ dX12_layBests_38) (fun H locs z2 hG => ?_)
        refine lv_if_ne (tgt := 47) hx hb dX12_layBests_41 (by decide) (fun c41 => ?_) (fun c41 => ?_)
        · replace h := ie c41 h
          refine lv_aload_n hx hb dX12_layBests_47 rfl (lv_at hl 0 rfl) ?_
          refine lv_iload_n hx hb dX12_layBests_48 rfl (lv_at hl 2 rfl) ?_
          obtain ⟨r3, hcr3, h⟩ := bnd_some h
          refine gF_i (ws' := (rM E am mm ++ [])) C hG (pin pnil) (List.Perm.symm (pin pnil)) (gR_V (As := [.int x2]) (rest := []) C hz hl.1 hG (pin pnil) (c_X12_worthOf l E am N x2 mm hcr3 H.size) okX12_worthOf q1712 0 rfl rfl rfl (Nat.le_of_ble_eq_true rfl) (by omega) ⟨Nat.le_refl _, Nat.le_refl _⟩ dX12_layBests_49) (fun H locs _ hG => ?_)
          refine lv_istore_n (lv' := [(3, .int r3), (0, .ref (am 0)), (1, .int x1), (2, .int x2)]) hx hb dX12_layBests_52 rfl hl (by decide) rfl (fun ls hl => ?_)
          refine lv_iload_n hx hb dX12_layBests_53 rfl (lv_at hl 3 rfl) ?_
          refine lv_iload_n hx hb dX12_layBests_54 rfl (lv_at hl 2 rfl) ?_
          refine gF_i (ws' := (rM E am mm ++ [])) C hG pst pst.symm (gR_S (As := [.int x2, .int x1]) (rest := []) C hz hl.1 hG pst (c_X12_has l E x2 x1 rfl H.size) okX12_has q1674 rfl (Nat.le_of_ble_eq_true rfl) (by omega) ⟨Nat.le_refl _, Nat.le_refl _⟩ dX12_layBests_55) (fun H locs z4 hG => ?_)
          refine lv_if_eq (tgt := 110) hx hb dX12_layBests_58 (by decide) (fun c58 => ?_) (fun c58 => ?_)
          · replace h := it c58 h
            refine lv_aload_n hx hb dX12_layBests_110 rfl (lv_at hl 1 rfl) ?_
            refine gL_f (v := .int (mm 0 24)) C hG kX12 0 24 rfl (by decide) rfl q1376 rfl dX12_layBests_111 ?_
            refine lv_iconst (v := (-1)) hx hb dX12_layBests_114 (by decide) ?_
            refine lv_icmp_eq (tgt := 126) hx hb dX12_layBests_115 (by decide) (fun c115 => ?_) (fun c115 => ?_)
            · replace h := it c115 h
              exact K126 _ ih x2 r3 mm _ _ _ hG (lv_sub hl [1, 2, 3, 0] rfl) h
            · replace h := ie c115 h
              refine lv_iload_n hx hb dX12_layBests_118 rfl (lv_at hl 0 rfl) ?_
              refine lv_aload_n hx hb dX12_layBests_119 rfl (lv_at hl 1 rfl) ?_
              refine gL_f (v := .int (mm 0 26)) C hG kX12 0 26 rfl (by decide) rfl q1378 rfl dX12_layBests_120 ?_
              refine lv_icmp_le (tgt := 136) hx hb dX12_layBests_123 (by decide) (fun c123 => ?_) (fun c123 => ?_)
              · replace h := it c123 h
                exact K136 _ ih x2 mm _ _ _ hG (lv_sub hl [1, 2, 3] rfl) h
              · replace h := ie c123 h
                exact K126 _ ih x2 r3 mm _ _ _ hG (lv_sub hl [1, 2, 3, 0] rfl) h
          · replace h := ie c58 h
            refine lv_iload_n hx hb dX12_layBests_61 rfl (lv_at hl 0 rfl) ?_
            refine lv_aload_n hx hb dX12_layBests_62 rfl (lv_at hl 1 rfl) ?_
            refine lv_iload_n hx hb dX12_layBests_63 rfl (lv_at hl 2 rfl) ?_
            refine lv_aload_n hx hb dX12_layBests_64 rfl (lv_at hl 1 rfl) ?_
            refine gL_f (v := .ref (am 1)) C hG kX12 0 0 rfl (by decide) rfl q1352 rfl dX12_layBests_65 ?_
            refine lv_bipush (v := 19) hx hb dX12_layBests_68 (by decide) ?_
            refine lv_iload_n hx hb dX12_layBests_70 rfl (lv_at hl 2 rfl) ?_
            refine lv_iadd hx hb dX12_layBests_71 ?_
            obtain ⟨b5, h⟩ := ck_some h
            refine gL_i (v := (mm 1 (19 + x1).toNatClampNeg)) C hG 1 rfl (inb_in b5) rfl dX12_layBests_72 ?_
            obtain ⟨r6, hcr6, h⟩ := bnd_some h
            refine gF_i (ws' := (rM E am mm ++ [])) C hG (pin pnil) (List.Perm.symm (pin pnil)) (gR_V (As := [.int x1, .int (mm 1 (19 + x1).toNatClampNeg)]) (rest := [.int r3]) C hz hl.1 hG (pin pnil) (c_X12_shareOf l E am N x1 (mm 1 (19 + x1).toNatClampNeg) mm hcr6 H.size) okX12_shareOf q1890 0 rfl rfl rfl (Nat.le_of_ble_eq_true rfl) (by omega) ⟨Nat.le_refl _, Nat.le_refl _⟩ dX12_layBests_73) (fun H locs _ hG => ?_)
            refine lv_isub hx hb dX12_layBests_76 ?_
            obtain ⟨x3_7, ex3_7, h⟩ := thn_some h
            refine g_int ex3_7 ?_
            refine lv_istore_n (lv' := [(3, .int x3_7), (0, .ref (am 0)), (1, .int x1), (2, .int x2)]) hx hb dX12_layBests_77 rfl hl (by decide) rfl (fun ls hl => ?_)
            refine lv_aload_n hx hb dX12_layBests_78 rfl (lv_at hl 1 rfl) ?_
            refine gL_f (v := .int (mm 0 23)) C hG kX12 0 23 rfl (by decide) rfl q1375 rfl dX12_layBests_79 ?_
            refine lv_iconst (v := (-1)) hx hb dX12_layBests_82 (by decide) ?_
            refine lv_icmp_eq (tgt := 97) hx hb dX12_layBests_83 (by decide) (fun c83 => ?_) (fun c83 => ?_)
            · replace h := it c83 h
              exact K97 _ ih x2 x3_7 mm _ _ _ hG (lv_sub hl [1, 2, 3, 0] rfl) h
            · replace h := ie c83 h
              refine lv_iload_n hx hb dX12_layBests_86 rfl (lv_at hl 0 rfl) ?_
              refine lv_aload_n hx hb dX12_layBests_87 rfl (lv_at hl 1 rfl) ?_
              refine gL_f (v := .int (mm 0 25)) C hG kX12 0 25 rfl (by decide) rfl q1377 rfl dX12_layBests_88 ?_
              refine lv_icmp_gt (tgt := 97) hx hb dX12_layBests_91 (by decide) (fun c91 => ?_) (fun c91 => ?_)
              · replace h := it c91 h
                exact K97 _ ih x2 x3_7 mm _ _ _ hG (lv_sub hl [1, 2, 3, 0] rfl) h
              · replace h := ie c91 h
                refine lv_goto (tgt := 136) hx hb dX12_layBests_94 (by decide) ?_
                exact K136 _ ih x2 mm _ _ _ hG (lv_sub hl [1, 2, 3] rfl) h
        · replace h := it c41 h
          refine lv_goto (tgt := 136) hx hb dX12_layBests_44 (by decide) ?_
          exact K136 _ ih x2 mm _ _ _ hG (lv_sub hl [0, 1, 2] rfl) h
  rw [fX12_layBests] at h
  refine lv_aload_n hx hb dX12_layBests_0 rfl (lv_at hl 0 rfl) ?_
  refine lv_iconst (v := (-1)) hx hb dX12_layBests_1 (by decide) ?_
  obtain ⟨mm_1, emm_1, h⟩ := thn_some h
  refine gS_f (v := .int (-1)) (ws' := (rM E am mm_1 ++ [])) C hG kX12 0 23 rfl (by decide) q1375 rfl rfl rfl rfl (by show 23 < 27; decide) dX12_layBests_2 (by rw [emm_1]; rfl) (fun H locs hG => ?_)
  refine lv_aload_n hx hb dX12_layBests_5 rfl (lv_at hl 0 rfl) ?_
  refine lv_iconst (v := (-1)) hx hb dX12_layBests_6 (by decide) ?_
  obtain ⟨mm_2, emm_2, h⟩ := thn_some h
  refine gS_f (v := .int (-1)) (ws' := (rM E am mm_2 ++ [])) C hG kX12 0 24 rfl (by decide) q1376 rfl rfl rfl rfl (by show 24 < 27; decide) dX12_layBests_7 (by rw [emm_2]; rfl) (fun H locs hG => ?_)
  refine lv_aload_n hx hb dX12_layBests_10 rfl (lv_at hl 0 rfl) ?_
  refine lv_iconst (v := 0) hx hb dX12_layBests_11 (by decide) ?_
  obtain ⟨mm_3, emm_3, h⟩ := thn_some h
  refine gS_f (v := .int 0) (ws' := (rM E am mm_3 ++ [])) C hG kX12 0 25 rfl (by decide) q1377 rfl rfl rfl rfl (by show 25 < 27; decide) dX12_layBests_12 (by rw [emm_3]; rfl) (fun H locs hG => ?_)
  refine lv_aload_n hx hb dX12_layBests_15 rfl (lv_at hl 0 rfl) ?_
  refine lv_iconst (v := 0) hx hb dX12_layBests_16 (by decide) ?_
  obtain ⟨mm_4, emm_4, h⟩ := thn_some h
  refine gS_f (v := .int 0) (ws' := (rM E am mm_4 ++ [])) C hG kX12 0 26 rfl (by decide) q1378 rfl rfl rfl rfl (by show 26 < 27; decide) dX12_layBests_17 (by rw [emm_4]; rfl) (fun H locs hG => ?_)
  refine lv_iconst (v := 0) hx hb dX12_layBests_20 (by decide) ?_
  refine lv_istore_n (lv' := [(2, .int 0), (0, .ref (am 0)), (1, .int x1)]) hx hb dX12_layBests_21 rfl hl (by decide) rfl (fun ls hl => ?_)
  exact K22 N 0 mm_4 _ _ _ hG (lv_sub hl [1, 2, 0] rfl) h
set_option maxHeartbeats 4000000 in
set_option maxRecDepth 100000 in
theorem c_X12_isInWith (l : Launch) (E : GE) (am : Nat → Nat) (N : Nat) (x1 : Int32) (x2 : Int32) (mm : RS) {res : Int32} (h : fX12_isInWith N x1 x2 mm = some res) : gMi l E yX12_isInWith cX12_isInWith 4 .boolean 3 0 0 [.ref (am 0), .int x1, .int x2] (rM E am mm ++ []) (rM E am mm ++ []) res := by
  refine gMi_of (own := RX12) (by decide +kernel) rfl (Nat.le_of_ble_eq_true rfl) ?_
  intro p e s m args below meth c A ls Q H locs C hz hl hG hret
  have hx := C.1.1
  have hb := C.1.2.1
  have hts := C.1.2.2.2.2
  have hown := C.1.2.2.2.1
  have hl : lv_has ls 4 [(0, .ref (am 0)), (1, .int x1), (2, .int x2)] := hl
  replace hret : ∀ (r0 : Int32) (H : Heap) (locs : List Loc) (pc : Nat) (ls' : Array Slot), some r0 = some res → narrow .boolean (.int r0) = .int r0 → gG E A s.heap (rM E am mm ++ []) H locs → decode cX12_isInWith pc = .ok (.ireturn, 1) → W p l e (rmD 3 0 0) s m args below meth c H locs 0 0 Q (F0 m pc ls' [.int r0]) := by
    intro r0 H locs pc ls' e0 hn; cases e0; exact hret H locs pc ls' hn
  have K49 : ∀  (H : Heap) (locs : List Loc) (ls : Array Slot), gG E A s.heap (rM E am mm ++ []) H locs → lv_has ls 4 [] → fX12_isInWith_L49 N x1 x2 mm = some res → W p l e (rmD 3 0 0) s m args below meth c H locs 0 0 Q (F0 m 49 ls []) := by
    intro H locs ls hG hl h
    rw [fX12_isInWith_L49] at h
    refine lv_iconst (v := 1) hx hb dX12_isInWith_49 (by decide) ?_
    refine lv_goto (tgt := 54) hx hb dX12_isInWith_50 (by decide) ?_
    exact hret _ _ _ _ _ h rfl hG dX12_isInWith_54
  rw [fX12_isInWith] at h
  refine lv_aload_n hx hb dX12_isInWith_0 rfl (lv_at hl 0 rfl) ?_
  refine gL_f (v := .int (mm 0 24)) C hG kX12 0 24 rfl (by decide) rfl q1376 rfl dX12_isInWith_1 ?_
  refine lv_iconst (v := (-1)) hx hb dX12_isInWith_4 (by decide) ?_
  refine lv_icmp_ne (tgt := 10) hx hb dX12_isInWith_5 (by decide) (fun c5 => ?_) (fun c5 => ?_)
  · replace h := ie c5 h
    refine lv_aload_n hx hb dX12_isInWith_10 rfl (lv_at hl 0 rfl) ?_
    refine gL_f (v := .int (mm 0 25)) C hG kX12 0 25 rfl (by decide) rfl q1377 rfl dX12_isInWith_11 ?_
    refine lv_aload_n hx hb dX12_isInWith_14 rfl (lv_at hl 0 rfl) ?_
    refine lv_iload_n hx hb dX12_isInWith_15 rfl (lv_at hl 1 rfl) ?_
    refine lv_iload_n hx hb dX12_isInWith_16 rfl (lv_at hl 2 rfl) ?_
    obtain ⟨r1, hcr1, h⟩ := bnd_some h
    refine gF_i (ws' := (rM E am mm ++ [])) C hG (pin pnil) (List.Perm.symm (pin pnil)) (gR_V (As := [.int x1, .int x2]) (rest := [.int (mm 0 25)]) C hz hl.1 hG (pin pnil) (c_X12_shareOf l E am N x1 x2 mm hcr1 H.size) okX12_shareOf q1890 0 rfl rfl rfl (Nat.le_of_ble_eq_true rfl) (by omega) ⟨Nat.le_refl _, Nat.le_refl _⟩ dX12_isInWith_17) (fun H locs _ hG => ?_)
    refine lv_iadd hx hb dX12_isInWith_20 ?_
    obtain ⟨x3_2, ex3_2, h⟩ := thn_some h
    refine g_int ex3_2 ?_
    refine lv_istore_n (lv' := [(3, .int x3_2), (0, .ref (am 0)), (1, .int x1), (2, .int x2)]) hx hb dX12_isInWith_21 rfl hl (by decide) rfl (fun ls hl => ?_)
    refine lv_iload_n hx hb dX12_isInWith_22 rfl (lv_at hl 0 rfl) ?_
    refine lv_aload_n hx hb dX12_isInWith_23 rfl (lv_at hl 1 rfl) ?_
    refine gL_f (v := .int (mm 0 26)) C hG kX12 0 26 rfl (by decide) rfl q1378 rfl dX12_isInWith_24 ?_
    refine lv_icmp_gt (tgt := 49) hx hb dX12_isInWith_27 (by decide) (fun c27 => ?_) (fun c27 => ?_)
    · replace h := it c27 h
      exact K49 _ _ _ hG (lv_sub hl [] rfl) h
    · replace h := ie c27 h
      refine lv_iload_n hx hb dX12_isInWith_30 rfl (lv_at hl 0 rfl) ?_
      refine lv_aload_n hx hb dX12_isInWith_31 rfl (lv_at hl 1 rfl) ?_
      refine gL_f (v := .int (mm 0 26)) C hG kX12 0 26 rfl (by decide) rfl q1378 rfl dX12_isInWith_32 ?_
      refine lv_icmp_ne (tgt := 53) hx hb dX12_isInWith_35 (by decide) (fun c35 => ?_) (fun c35 => ?_)
      · replace h := ie c35 h
        refine lv_iconst (v := 0) hx hb dX12_isInWith_53 (by decide) ?_
        exact hret _ _ _ _ _ h rfl hG dX12_isInWith_54
      · replace h := it c35 h
        refine lv_aload_n hx hb dX12_isInWith_38 rfl (lv_at hl 1 rfl) ?_
        refine gL_f (v := .int (mm 0 23)) C hG kX12 0 23 rfl (by decide) rfl q1375 rfl dX12_isInWith_39 ?_
        refine lv_aload_n hx hb dX12_isInWith_42 rfl (lv_at hl 1 rfl) ?_
        refine gL_f (v := .int (mm 0 24)) C hG kX12 0 24 rfl (by decide) rfl q1376 rfl dX12_isInWith_43 ?_
        refine lv_icmp_ge (tgt := 53) hx hb dX12_isInWith_46 (by decide) (fun c46 => ?_) (fun c46 => ?_)
        · replace h := it c46 h
          refine lv_iconst (v := 0) hx hb dX12_isInWith_53 (by decide) ?_
          exact hret _ _ _ _ _ h rfl hG dX12_isInWith_54
        · replace h := ie c46 h
          exact K49 _ _ _ hG (lv_sub hl [] rfl) h
  · replace h := it c5 h
    refine lv_iconst (v := 1) hx hb dX12_isInWith_8 (by decide) ?_
    exact hret _ _ _ _ _ h rfl hG dX12_isInWith_9
set_option maxHeartbeats 4000000 in
set_option maxRecDepth 100000 in
theorem c_X12_threshold (l : Launch) (E : GE) (am : Nat → Nat) (N : Nat) (x1 : Int32) (mm : RS) {res : Int32 × RS} (h : fX12_threshold N x1 mm = some res) : gMi l E yX12_threshold cX12_threshold 3 .int 6 0 0 [.ref (am 0), .int x1] (rM E am mm ++ []) (rM E am res.2 ++ []) res.1 := by
  refine gMi_of (own := RX12) (by decide +kernel) rfl (Nat.le_of_ble_eq_true rfl) ?_
  intro p e s m args below meth c A ls Q H locs C hz hl hG hret
  have hx := C.1.1
  have hb := C.1.2.1
  have hts := C.1.2.2.2.2
  have hown := C.1.2.2.2.1
  have hl : lv_has ls 3 [(0, .ref (am 0)), (1, .int x1)] := hl
  replace hret : ∀ (r0 : Int32) (mm0 : RS) (H : Heap) (locs : List Loc) (pc : Nat) (ls' : Array Slot), some (r0, mm0) = some res → narrow .int (.int r0) = .int r0 → gG E A s.heap (rM E am mm0 ++ []) H locs → decode cX12_threshold pc = .ok (.ireturn, 1) → W p l e (rmD 6 0 0) s m args below meth c H locs 0 0 Q (F0 m pc ls' [.int r0]) := by
    intro r0 mm0 H locs pc ls' e0 hn; cases e0; exact hret H locs pc ls' hn
  have K37 : ∀ (k : Nat), ∀  (x2 : Int32) (mm : RS) (H : Heap) (locs : List Loc) (ls : Array Slot), gG E A s.heap (rM E am mm ++ []) H locs → lv_has ls 3 [(0, .ref (am 0)), (1, .int x1), (2, .int x2)] → fX12_threshold_L37 N x1 k x2 mm = some res → W p l e (rmD 6 0 0) s m args below meth c H locs 0 0 Q (F0 m 37 ls []) := by
    intro k
    induction k with
    | zero => intro x2 mm H locs ls hG hl h; exact absurd (show none = _ from h) (by simp)
    | succ k ih =>
      intro x2 mm H locs ls hG hl h
      rw [fX12_threshold_L37] at h
      refine lv_aload_n hx hb dX12_threshold_37 rfl (lv_at hl 0 rfl) ?_
      refine lv_iload_n hx hb dX12_threshold_38 rfl (lv_at hl 1 rfl) ?_
      refine lv_iload_n hx hb dX12_threshold_39 rfl (lv_at hl 2 rfl) ?_
      obtain ⟨r1, hcr1, h⟩ := bnd_some h
      refine gF_i (ws' := (rM E am mm ++ [])) C hG (pin pnil) (List.Perm.symm (pin pnil)) (gR_V (As := [.int x1, .int x2]) (rest := []) C hz hl.1 hG (pin pnil) (c_X12_isInWith l E am N x1 x2 mm hcr1 H.size) okX12_isInWith q1894 0 rfl rfl rfl (Nat.le_of_ble_eq_true rfl) (by omega) ⟨Nat.le_refl _, Nat.le_refl _⟩ dX12_threshold_40) (fun H locs z2 hG => ?_)
      refine lv_if_ne (tgt := 52) hx hb dX12_threshold_43 (by decide) (fun c43 => ?_) (fun c43 => ?_)
      · replace h := ie c43 h
        refine lv_iload_n hx hb dX12_threshold_52 rfl (lv_at hl 2 rfl) ?_
        exact hret _ _ _ _ _ _ h rfl hG dX12_threshold_53
      · replace h := it c43 h
        refine lv_iinc (v := (x2 + 1)) (lv' := [(2, .int (x2 + 1)), (0, .ref (am 0)), (1, .int x1)]) hx hb dX12_threshold_46 hl (k := 2) rfl (congrArg (x2 + ·) (by decide : Int32.ofInt 1 = 1)) (by decide) rfl (fun ls hl => ?_)
        refine lv_goto (tgt := 37) hx hb dX12_threshold_49 (by decide) ?_
        exact ih (x2 + 1) mm _ _ _ hG (lv_sub hl [1, 2, 0] rfl) h
  rw [fX12_threshold] at h
  refine lv_iload_n hx hb dX12_threshold_0 rfl (lv_at hl 1 rfl) ?_
  refine gF_i (ws' := (rM E am mm ++ [])) C hG pst pst.symm (gR_S (As := [.int x1]) (rest := []) C hz hl.1 hG pst (c_X12_isExtent l E x1 rfl H.size) okX12_isExtent q1533 rfl (Nat.le_of_ble_eq_true rfl) (by omega) ⟨Nat.le_refl _, Nat.le_refl _⟩ dX12_threshold_1) (fun H locs z1 hG => ?_)
  refine lv_if_ne (tgt := 9) hx hb dX12_threshold_4 (by decide) (fun c4 => ?_) (fun c4 => ?_)
  · replace h := ie c4 h
    refine lv_aload_n hx hb dX12_threshold_9 rfl (lv_at hl 0 rfl) ?_
    refine lv_iload_n hx hb dX12_threshold_10 rfl (lv_at hl 1 rfl) ?_
    obtain ⟨r2, hcr2, h⟩ := bnd_some h
    refine gF_v (ws' := (rM E am r2 ++ [])) C hG (pin pnil) (List.Perm.symm (pin pnil)) (gR_V (As := [.int x1]) (rest := []) C hz hl.1 hG (pin pnil) (c_X12_layBests l E am N x1 mm hcr2 H.size) okX12_layBests q1886 0 rfl rfl rfl (Nat.le_of_ble_eq_true rfl) (by omega) ⟨Nat.le_refl _, Nat.le_refl _⟩ dX12_threshold_11) (fun H locs hG => ?_)
    refine lv_aload_n hx hb dX12_threshold_14 rfl (lv_at hl 0 rfl) ?_
    refine gL_f (v := .int (r2 0 23)) C hG kX12 0 23 rfl (by decide) rfl q1375 rfl dX12_threshold_15 ?_
    refine lv_iconst (v := (-1)) hx hb dX12_threshold_18 (by decide) ?_
    refine lv_icmp_eq (tgt := 33) hx hb dX12_threshold_19 (by decide) (fun c19 => ?_) (fun c19 => ?_)
    · replace h := it c19 h
      refine lv_iconst (v := (-1)) hx hb dX12_threshold_33 (by decide) ?_
      exact hret _ _ _ _ _ _ h rfl hG dX12_threshold_34
    · replace h := ie c19 h
      refine lv_aload_n hx hb dX12_threshold_22 rfl (lv_at hl 0 rfl) ?_
      refine lv_iload_n hx hb dX12_threshold_23 rfl (lv_at hl 1 rfl) ?_
      refine lv_sipush (v := 9999) hx hb dX12_threshold_24 (by decide) ?_
      obtain ⟨r3, hcr3, h⟩ := bnd_some h
      refine gF_i (ws' := (rM E am r2 ++ [])) C hG (pin pnil) (List.Perm.symm (pin pnil)) (gR_V (As := [.int x1, .int 9999]) (rest := []) C hz hl.1 hG (pin pnil) (c_X12_isInWith l E am N x1 9999 r2 hcr3 H.size) okX12_isInWith q1894 0 rfl rfl rfl (Nat.le_of_ble_eq_true rfl) (by omega) ⟨Nat.le_refl _, Nat.le_refl _⟩ dX12_threshold_27) (fun H locs z4 hG => ?_)
      refine lv_if_ne (tgt := 35) hx hb dX12_threshold_30 (by decide) (fun c30 => ?_) (fun c30 => ?_)
      · replace h := ie c30 h
        refine lv_iconst (v := 0) hx hb dX12_threshold_35 (by decide) ?_
        refine lv_istore_n (lv' := [(2, .int 0), (0, .ref (am 0)), (1, .int x1)]) hx hb dX12_threshold_36 rfl hl (by decide) rfl (fun ls hl => ?_)
        exact K37 N 0 r2 _ _ _ hG (lv_sub hl [1, 2, 0] rfl) h
      · replace h := it c30 h
        refine lv_iconst (v := (-1)) hx hb dX12_threshold_33 (by decide) ?_
        exact hret _ _ _ _ _ _ h rfl hG dX12_threshold_34
  · replace h := it c4 h
    refine lv_iconst (v := (-1)) hx hb dX12_threshold_7 (by decide) ?_
    exact hret _ _ _ _ _ _ h rfl hG dX12_threshold_8
set_option maxHeartbeats 4000000 in
set_option maxRecDepth 100000 in
theorem c_X12_displaced (l : Launch) (E : GE) (am : Nat → Nat) (N : Nat) (x1 : Int32) (mm : RS) {res : Int32 × RS} (h : fX12_displaced N x1 mm = some res) : gMi l E yX12_displaced cX12_displaced 3 .int 7 0 0 [.ref (am 0), .int x1] (rM E am mm ++ []) (rM E am res.2 ++ []) res.1 := by
  refine gMi_of (own := RX12) (by decide +kernel) rfl (Nat.le_of_ble_eq_true rfl) ?_
  intro p e s m args below meth c A ls Q H locs C hz hl hG hret
  have hx := C.1.1
  have hb := C.1.2.1
  have hts := C.1.2.2.2.2
  have hown := C.1.2.2.2.1
  have hl : lv_has ls 3 [(0, .ref (am 0)), (1, .int x1)] := hl
  replace hret : ∀ (r0 : Int32) (mm0 : RS) (H : Heap) (locs : List Loc) (pc : Nat) (ls' : Array Slot), some (r0, mm0) = some res → narrow .int (.int r0) = .int r0 → gG E A s.heap (rM E am mm0 ++ []) H locs → decode cX12_displaced pc = .ok (.ireturn, 1) → W p l e (rmD 7 0 0) s m args below meth c H locs 0 0 Q (F0 m pc ls' [.int r0]) := by
    intro r0 mm0 H locs pc ls' e0 hn; cases e0; exact hret H locs pc ls' hn
  rw [fX12_displaced] at h
  refine lv_aload_n hx hb dX12_displaced_0 rfl (lv_at hl 0 rfl) ?_
  refine lv_aload_n hx hb dX12_displaced_1 rfl (lv_at hl 0 rfl) ?_
  refine gL_f (v := .ref (am 1)) C hG kX12 0 0 rfl (by decide) rfl q1352 rfl dX12_displaced_2 ?_
  refine lv_bipush (v := 8) hx hb dX12_displaced_5 (by decide) ?_
  refine gL_i (v := (mm 1 8)) C hG 1 rfl (vp_in_nI (n := 8) (by decide) (by decide)) (congrArg (mm 1) (nI_clamp (n := 8) (by decide))) dX12_displaced_7 ?_
  obtain ⟨r1, hcr1, h⟩ := bnd_some h
  refine gF_i (ws' := (rM E am mm ++ [])) C hG (pin pnil) (List.Perm.symm (pin pnil)) (gR_V (As := [.int (mm 1 8)]) (rest := []) C hz hl.1 hG (pin pnil) (c_X12_bestSet l E am N (mm 1 8) mm hcr1 H.size) okX12_bestSet q1689 0 rfl rfl rfl (Nat.le_of_ble_eq_true rfl) (by omega) ⟨Nat.le_refl _, Nat.le_refl _⟩ dX12_displaced_8) (fun H locs _ hG => ?_)
  refine lv_istore_n (lv' := [(2, .int r1), (0, .ref (am 0)), (1, .int x1)]) hx hb dX12_displaced_11 rfl hl (by decide) rfl (fun ls hl => ?_)
  refine lv_aload_n hx hb dX12_displaced_12 rfl (lv_at hl 1 rfl) ?_
  refine lv_iload_n hx hb dX12_displaced_13 rfl (lv_at hl 2 rfl) ?_
  obtain ⟨r2, hcr2, h⟩ := bnd_some h
  refine gF_i (ws' := (rM E am r2.2 ++ [])) C hG (pin pnil) (List.Perm.symm (pin pnil)) (gR_V (As := [.int x1]) (rest := []) C hz hl.1 hG (pin pnil) (c_X12_threshold l E am N x1 mm hcr2 H.size) okX12_threshold q1902 0 rfl rfl rfl (Nat.le_of_ble_eq_true rfl) (by omega) ⟨Nat.le_refl _, Nat.le_refl _⟩ dX12_displaced_14) (fun H locs _ hG => ?_)
  refine lv_iconst (v := (-1)) hx hb dX12_displaced_17 (by decide) ?_
  refine lv_icmp_ne (tgt := 25) hx hb dX12_displaced_18 (by decide) (fun c18 => ?_) (fun c18 => ?_)
  · replace h := ie c18 h
    refine lv_iload_n hx hb dX12_displaced_25 rfl (lv_at hl 0 rfl) ?_
    refine lv_aload_n hx hb dX12_displaced_26 rfl (lv_at hl 1 rfl) ?_
    refine gL_f (v := .int (r2.2 0 23)) C hG kX12 0 23 rfl (by decide) rfl q1375 rfl dX12_displaced_27 ?_
    refine lv_iconst (v := (-1)) hx hb dX12_displaced_30 (by decide) ?_
    refine lv_ixor hx hb dX12_displaced_31 ?_
    refine lv_iand hx hb dX12_displaced_32 ?_
    exact hret _ _ _ _ _ _ h rfl hG dX12_displaced_33
  · replace h := it c18 h
    refine lv_iconst (v := (-1)) hx hb dX12_displaced_21 (by decide) ?_
    refine lv_goto (tgt := 33) hx hb dX12_displaced_22 (by decide) ?_
    exact hret _ _ _ _ _ _ h rfl hG dX12_displaced_33
set_option maxHeartbeats 4000000 in
set_option maxRecDepth 100000 in
theorem c_X12_gained (l : Launch) (E : GE) (am : Nat → Nat) (N : Nat) (x1 : Int32) (mm : RS) {res : Int32} (h : fX12_gained N x1 mm = some res) : gMi l E yX12_gained cX12_gained 2 .int 3 0 0 [.ref (am 0), .int x1] (rM E am mm ++ []) (rM E am mm ++ []) res := by
  refine gMi_of (own := RX12) (by decide +kernel) rfl (Nat.le_of_ble_eq_true rfl) ?_
  intro p e s m args below meth c A ls Q H locs C hz hl hG hret
  have hx := C.1.1
  have hb := C.1.2.1
  have hts := C.1.2.2.2.2
  have hown := C.1.2.2.2.1
  have hl : lv_has ls 2 [(0, .ref (am 0)), (1, .int x1)] := hl
  replace hret : ∀ (r0 : Int32) (H : Heap) (locs : List Loc) (pc : Nat) (ls' : Array Slot), some r0 = some res → narrow .int (.int r0) = .int r0 → gG E A s.heap (rM E am mm ++ []) H locs → decode cX12_gained pc = .ok (.ireturn, 1) → W p l e (rmD 3 0 0) s m args below meth c H locs 0 0 Q (F0 m pc ls' [.int r0]) := by
    intro r0 H locs pc ls' e0 hn; cases e0; exact hret H locs pc ls' hn
  rw [fX12_gained] at h
  refine lv_iload_n hx hb dX12_gained_0 rfl (lv_at hl 1 rfl) ?_
  refine gF_i (ws' := (rM E am mm ++ [])) C hG pst pst.symm (gR_S (As := [.int x1]) (rest := []) C hz hl.1 hG pst (c_X12_isExtent l E x1 rfl H.size) okX12_isExtent q1533 rfl (Nat.le_of_ble_eq_true rfl) (by omega) ⟨Nat.le_refl _, Nat.le_refl _⟩ dX12_gained_1) (fun H locs z1 hG => ?_)
  refine lv_if_eq (tgt := 52) hx hb dX12_gained_4 (by decide) (fun c4 => ?_) (fun c4 => ?_)
  · replace h := it c4 h
    refine lv_ldcw (v := (-2147483648)) hx hb hown (hts _ q1861) dX12_gained_52 ?_
    exact hret _ _ _ _ _ h rfl hG dX12_gained_55
  · replace h := ie c4 h
    refine lv_aload_n hx hb dX12_gained_7 rfl (lv_at hl 0 rfl) ?_
    refine lv_iload_n hx hb dX12_gained_8 rfl (lv_at hl 1 rfl) ?_
    obtain ⟨r2, hcr2, h⟩ := bnd_some h
    refine gF_i (ws' := (rM E am mm ++ [])) C hG (pin pnil) (List.Perm.symm (pin pnil)) (gR_V (As := [.int x1]) (rest := []) C hz hl.1 hG (pin pnil) (c_X12_isFast l E am N x1 mm hcr2 H.size) okX12_isFast q1551 0 rfl rfl rfl (Nat.le_of_ble_eq_true rfl) (by omega) ⟨Nat.le_refl _, Nat.le_refl _⟩ dX12_gained_9) (fun H locs z3 hG => ?_)
    refine lv_if_eq (tgt := 52) hx hb dX12_gained_12 (by decide) (fun c12 => ?_) (fun c12 => ?_)
    · replace h := it c12 h
      refine lv_ldcw (v := (-2147483648)) hx hb hown (hts _ q1861) dX12_gained_52 ?_
      exact hret _ _ _ _ _ h rfl hG dX12_gained_55
    · replace h := ie c12 h
      refine lv_bipush (v := 7) hx hb dX12_gained_15 (by decide) ?_
      refine lv_aload_n hx hb dX12_gained_17 rfl (lv_at hl 0 rfl) ?_
      refine gL_f (v := .ref (am 1)) C hG kX12 0 0 rfl (by decide) rfl q1352 rfl dX12_gained_18 ?_
      refine lv_bipush (v := 119) hx hb dX12_gained_21 (by decide) ?_
      refine lv_iload_n hx hb dX12_gained_23 rfl (lv_at hl 1 rfl) ?_
      refine lv_iadd hx hb dX12_gained_24 ?_
      obtain ⟨b4, h⟩ := ck_some h
      refine gL_i (v := (mm 1 (119 + x1).toNatClampNeg)) C hG 1 rfl (inb_in b4) rfl dX12_gained_25 ?_
      refine lv_imul hx hb dX12_gained_26 ?_
      refine lv_bipush (v := 8) hx hb dX12_gained_27 (by decide) ?_
      refine lv_aload_n hx hb dX12_gained_29 rfl (lv_at hl 0 rfl) ?_
      refine gL_f (v := .ref (am 1)) C hG kX12 0 0 rfl (by decide) rfl q1352 rfl dX12_gained_30 ?_
      refine lv_sipush (v := 129) hx hb dX12_gained_33 (by decide) ?_
      refine lv_iload_n hx hb dX12_gained_36 rfl (lv_at hl 1 rfl) ?_
      refine lv_iadd hx hb dX12_gained_37 ?_
      obtain ⟨b5, h⟩ := ck_some h
      refine gL_i (v := (mm 1 (129 + x1).toNatClampNeg)) C hG 1 rfl (inb_in b5) rfl dX12_gained_38 ?_
      refine lv_imul hx hb dX12_gained_39 ?_
      refine lv_iadd hx hb dX12_gained_40 ?_
      refine lv_bipush (v := 9) hx hb dX12_gained_41 (by decide) ?_
      refine lv_iload_n hx hb dX12_gained_43 rfl (lv_at hl 1 rfl) ?_
      refine gF_i (ws' := (rM E am mm ++ [])) C hG pst pst.symm (gR_S (As := [.int x1]) (rest := [.int 9, .int ((7 * (mm 1 (119 + x1).toNatClampNeg)) + (8 * (mm 1 (129 + x1).toNatClampNeg)))]) C hz hl.1 hG pst (c_X12_sizeOf l E x1 rfl H.size) okX12_sizeOf q1536 rfl (Nat.le_of_ble_eq_true rfl) (by omega) ⟨Nat.le_refl _, Nat.le_refl _⟩ dX12_gained_44) (fun H locs _ hG => ?_)
      refine lv_imul hx hb dX12_gained_47 ?_
      refine lv_isub hx hb dX12_gained_48 ?_
      refine lv_goto (tgt := 55) hx hb dX12_gained_49 (by decide) ?_
      exact hret _ _ _ _ _ h rfl hG dX12_gained_55
set_option maxHeartbeats 4000000 in
set_option maxRecDepth 100000 in
theorem c_X12_foretold (l : Launch) (E : GE) (am : Nat → Nat) (N : Nat) (x1 : Int32) (x2 : Int32) (mm : RS) {res : Int32 × RS} (h : fX12_foretold N x1 x2 mm = some res) : gMi l E yX12_foretold cX12_foretold 4 .int 10 0 0 [.ref (am 0), .int x1, .int x2] (rM E am mm ++ []) (rM E am res.2 ++ []) res.1 := by
  refine gMi_of (own := RX12) (by decide +kernel) rfl (Nat.le_of_ble_eq_true rfl) ?_
  intro p e s m args below meth c A ls Q H locs C hz hl hG hret
  have hx := C.1.1
  have hb := C.1.2.1
  have hts := C.1.2.2.2.2
  have hown := C.1.2.2.2.1
  have hl : lv_has ls 4 [(0, .ref (am 0)), (1, .int x1), (2, .int x2)] := hl
  replace hret : ∀ (r0 : Int32) (mm0 : RS) (H : Heap) (locs : List Loc) (pc : Nat) (ls' : Array Slot), some (r0, mm0) = some res → narrow .int (.int r0) = .int r0 → gG E A s.heap (rM E am mm0 ++ []) H locs → decode cX12_foretold pc = .ok (.ireturn, 1) → W p l e (rmD 10 0 0) s m args below meth c H locs 0 0 Q (F0 m pc ls' [.int r0]) := by
    intro r0 mm0 H locs pc ls' e0 hn; cases e0; exact hret H locs pc ls' hn
  rw [fX12_foretold] at h
  refine lv_iload_n hx hb dX12_foretold_0 rfl (lv_at hl 1 rfl) ?_
  refine lv_iconst (v := 1) hx hb dX12_foretold_1 (by decide) ?_
  refine lv_bipush (v := 8) hx hb dX12_foretold_2 (by decide) ?_
  refine gF_i (ws' := (rM E am mm ++ [])) C hG pst pst.symm (gR_S (As := [.int x1, .int 1, .int 8]) (rest := []) C hz hl.1 hG pst (c_X12_isIn l E x1 1 8 rfl H.size) okX12_isIn q1446 rfl (Nat.le_of_ble_eq_true rfl) (by omega) ⟨Nat.le_refl _, Nat.le_refl _⟩ dX12_foretold_4) (fun H locs z1 hG => ?_)
  refine lv_if_eq (tgt := 17) hx hb dX12_foretold_7 (by decide) (fun c7 => ?_) (fun c7 => ?_)
  · replace h := it c7 h
    refine lv_iconst (v := (-1)) hx hb dX12_foretold_17 (by decide) ?_
    exact hret _ _ _ _ _ _ h rfl hG dX12_foretold_18
  · replace h := ie c7 h
    refine lv_iload_n hx hb dX12_foretold_10 rfl (lv_at hl 2 rfl) ?_
    refine gF_i (ws' := (rM E am mm ++ [])) C hG pst pst.symm (gR_S (As := [.int x2]) (rest := []) C hz hl.1 hG pst (c_X12_isExtent l E x2 rfl H.size) okX12_isExtent q1533 rfl (Nat.le_of_ble_eq_true rfl) (by omega) ⟨Nat.le_refl _, Nat.le_refl _⟩ dX12_foretold_11) (fun H locs z2 hG => ?_)
    refine lv_if_ne (tgt := 19) hx hb dX12_foretold_14 (by decide) (fun c14 => ?_) (fun c14 => ?_)
    · replace h := ie c14 h
      refine lv_aload_n hx hb dX12_foretold_19 rfl (lv_at hl 0 rfl) ?_
      obtain ⟨r3, hcr3, h⟩ := bnd_some h
      refine gF_v (ws' := (rM E am r3 ++ [])) C hG (pin pnil) (List.Perm.symm (pin pnil)) (gR_V (As := []) (rest := []) C hz hl.1 hG (pin pnil) (c_X12_putAside l E am N mm hcr3 H.size) okX12_putAside q1911 0 rfl rfl rfl (Nat.le_of_ble_eq_true rfl) (by omega) ⟨Nat.le_refl _, Nat.le_refl _⟩ dX12_foretold_20) (fun H locs hG => ?_)
      refine lv_aload_n hx hb dX12_foretold_23 rfl (lv_at hl 0 rfl) ?_
      refine lv_iload_n hx hb dX12_foretold_24 rfl (lv_at hl 1 rfl) ?_
      obtain ⟨r4, hcr4, h⟩ := bnd_some h
      refine gF_v (ws' := (rM E am r4 ++ [])) C hG (pin pnil) (List.Perm.symm (pin pnil)) (gR_V (As := [.int x1]) (rest := []) C hz hl.1 hG (pin pnil) (c_X12_ticks l E am N x1 r3 hcr4 H.size) okX12_ticks q1638 0 rfl rfl rfl (Nat.le_of_ble_eq_true rfl) (by omega) ⟨Nat.le_refl _, Nat.le_refl _⟩ dX12_foretold_25) (fun H locs hG => ?_)
      refine lv_aload_n hx hb dX12_foretold_28 rfl (lv_at hl 0 rfl) ?_
      refine gL_f (v := .ref (am 1)) C hG kX12 0 0 rfl (by decide) rfl q1352 rfl dX12_foretold_29 ?_
      refine lv_bipush (v := 109) hx hb dX12_foretold_32 (by decide) ?_
      refine lv_iload_n hx hb dX12_foretold_34 rfl (lv_at hl 2 rfl) ?_
      refine lv_iadd hx hb dX12_foretold_35 ?_
      obtain ⟨b5, h⟩ := ck_some h
      refine gL_i (v := (r4 1 (109 + x2).toNatClampNeg)) C hG 1 rfl (inb_in b5) rfl dX12_foretold_36 ?_
      obtain ⟨x3_6, ex3_6, h⟩ := thn_some h
      refine g_int ex3_6 ?_
      refine lv_istore_n (lv' := [(3, .int x3_6), (0, .ref (am 0)), (1, .int x1), (2, .int x2)]) hx hb dX12_foretold_37 rfl hl (by decide) rfl (fun ls hl => ?_)
      refine lv_aload_n hx hb dX12_foretold_38 rfl (lv_at hl 1 rfl) ?_
      obtain ⟨r7, hcr7, h⟩ := bnd_some h
      refine gF_v (ws' := (rM E am r7 ++ [])) C hG (pin pnil) (List.Perm.symm (pin pnil)) (gR_V (As := []) (rest := []) C hz hl.1 hG (pin pnil) (c_X12_bringBack l E am N r4 hcr7 H.size) okX12_bringBack q1915 0 rfl rfl rfl (Nat.le_of_ble_eq_true rfl) (by omega) ⟨Nat.le_refl _, Nat.le_refl _⟩ dX12_foretold_39) (fun H locs hG => ?_)
      refine lv_iload_n hx hb dX12_foretold_42 rfl (lv_at hl 0 rfl) ?_
      exact hret _ _ _ _ _ _ h rfl hG dX12_foretold_43
    · replace h := it c14 h
      refine lv_iconst (v := (-1)) hx hb dX12_foretold_17 (by decide) ?_
      exact hret _ _ _ _ _ _ h rfl hG dX12_foretold_18
set_option maxHeartbeats 4000000 in
set_option maxRecDepth 100000 in
theorem c_X12_copies (l : Launch) (E : GE) (am : Nat → Nat) (N : Nat) (x1 : Int32) (mm : RS) {res : Int32 × RS} (h : fX12_copies N x1 mm = some res) : gMi l E yX12_copies cX12_copies 4 .int 10 0 0 [.ref (am 0), .int x1] (rM E am mm ++ []) (rM E am res.2 ++ []) res.1 := by
  refine gMi_of (own := RX12) (by decide +kernel) rfl (Nat.le_of_ble_eq_true rfl) ?_
  intro p e s m args below meth c A ls Q H locs C hz hl hG hret
  have hx := C.1.1
  have hb := C.1.2.1
  have hts := C.1.2.2.2.2
  have hown := C.1.2.2.2.1
  have hl : lv_has ls 4 [(0, .ref (am 0)), (1, .int x1)] := hl
  replace hret : ∀ (r0 : Int32) (mm0 : RS) (H : Heap) (locs : List Loc) (pc : Nat) (ls' : Array Slot), some (r0, mm0) = some res → narrow .int (.int r0) = .int r0 → gG E A s.heap (rM E am mm0 ++ []) H locs → decode cX12_copies pc = .ok (.ireturn, 1) → W p l e (rmD 10 0 0) s m args below meth c H locs 0 0 Q (F0 m pc ls' [.int r0]) := by
    intro r0 mm0 H locs pc ls' e0 hn; cases e0; exact hret H locs pc ls' hn
  rw [fX12_copies] at h
  refine lv_iload_n hx hb dX12_copies_0 rfl (lv_at hl 1 rfl) ?_
  refine lv_iconst (v := 1) hx hb dX12_copies_1 (by decide) ?_
  refine lv_bipush (v := 8) hx hb dX12_copies_2 (by decide) ?_
  refine gF_i (ws' := (rM E am mm ++ [])) C hG pst pst.symm (gR_S (As := [.int x1, .int 1, .int 8]) (rest := []) C hz hl.1 hG pst (c_X12_isIn l E x1 1 8 rfl H.size) okX12_isIn q1446 rfl (Nat.le_of_ble_eq_true rfl) (by omega) ⟨Nat.le_refl _, Nat.le_refl _⟩ dX12_copies_4) (fun H locs z1 hG => ?_)
  refine lv_if_ne (tgt := 12) hx hb dX12_copies_7 (by decide) (fun c7 => ?_) (fun c7 => ?_)
  · replace h := ie c7 h
    refine lv_aload_n hx hb dX12_copies_12 rfl (lv_at hl 0 rfl) ?_
    obtain ⟨r2, hcr2, h⟩ := bnd_some h
    refine gF_v (ws' := (rM E am r2 ++ [])) C hG (pin pnil) (List.Perm.symm (pin pnil)) (gR_V (As := []) (rest := []) C hz hl.1 hG (pin pnil) (c_X12_putAside l E am N mm hcr2 H.size) okX12_putAside q1911 0 rfl rfl rfl (Nat.le_of_ble_eq_true rfl) (by omega) ⟨Nat.le_refl _, Nat.le_refl _⟩ dX12_copies_13) (fun H locs hG => ?_)
    refine lv_aload_n hx hb dX12_copies_16 rfl (lv_at hl 0 rfl) ?_
    refine gL_f (v := .ref (am 1)) C hG kX12 0 0 rfl (by decide) rfl q1352 rfl dX12_copies_17 ?_
    refine lv_bipush (v := 13) hx hb dX12_copies_20 (by decide) ?_
    refine gL_i (v := (r2 1 13)) C hG 1 rfl (vp_in_nI (n := 13) (by decide) (by decide)) (congrArg (r2 1) (nI_clamp (n := 13) (by decide))) dX12_copies_22 ?_
    obtain ⟨x2_3, ex2_3, h⟩ := thn_some h
    refine g_int ex2_3 ?_
    refine lv_istore_n (lv' := [(2, .int x2_3), (0, .ref (am 0)), (1, .int x1)]) hx hb dX12_copies_23 rfl hl (by decide) rfl (fun ls hl => ?_)
    refine lv_aload_n hx hb dX12_copies_24 rfl (lv_at hl 1 rfl) ?_
    refine lv_iload_n hx hb dX12_copies_25 rfl (lv_at hl 2 rfl) ?_
    obtain ⟨r4, hcr4, h⟩ := bnd_some h
    refine gF_v (ws' := (rM E am r4 ++ [])) C hG (pin pnil) (List.Perm.symm (pin pnil)) (gR_V (As := [.int x1]) (rest := []) C hz hl.1 hG (pin pnil) (c_X12_ticks l E am N x1 r2 hcr4 H.size) okX12_ticks q1638 0 rfl rfl rfl (Nat.le_of_ble_eq_true rfl) (by omega) ⟨Nat.le_refl _, Nat.le_refl _⟩ dX12_copies_26) (fun H locs hG => ?_)
    refine lv_aload_n hx hb dX12_copies_29 rfl (lv_at hl 1 rfl) ?_
    refine gL_f (v := .ref (am 1)) C hG kX12 0 0 rfl (by decide) rfl q1352 rfl dX12_copies_30 ?_
    refine lv_bipush (v := 13) hx hb dX12_copies_33 (by decide) ?_
    refine gL_i (v := (r4 1 13)) C hG 1 rfl (vp_in_nI (n := 13) (by decide) (by decide)) (congrArg (r4 1) (nI_clamp (n := 13) (by decide))) dX12_copies_35 ?_
    refine lv_iload_n hx hb dX12_copies_36 rfl (lv_at hl 0 rfl) ?_
    refine lv_isub hx hb dX12_copies_37 ?_
    obtain ⟨x3_5, ex3_5, h⟩ := thn_some h
    refine g_int ex3_5 ?_
    refine lv_istore_n (lv' := [(3, .int x3_5), (2, .int x2_3), (0, .ref (am 0)), (1, .int x1)]) hx hb dX12_copies_38 rfl hl (by decide) rfl (fun ls hl => ?_)
    refine lv_aload_n hx hb dX12_copies_39 rfl (lv_at hl 2 rfl) ?_
    obtain ⟨r6, hcr6, h⟩ := bnd_some h
    refine gF_v (ws' := (rM E am r6 ++ [])) C hG (pin pnil) (List.Perm.symm (pin pnil)) (gR_V (As := []) (rest := []) C hz hl.1 hG (pin pnil) (c_X12_bringBack l E am N r4 hcr6 H.size) okX12_bringBack q1915 0 rfl rfl rfl (Nat.le_of_ble_eq_true rfl) (by omega) ⟨Nat.le_refl _, Nat.le_refl _⟩ dX12_copies_40) (fun H locs hG => ?_)
    refine lv_iload_n hx hb dX12_copies_43 rfl (lv_at hl 0 rfl) ?_
    exact hret _ _ _ _ _ _ h rfl hG dX12_copies_44
  · replace h := it c7 h
    refine lv_iconst (v := (-1)) hx hb dX12_copies_10 (by decide) ?_
    exact hret _ _ _ _ _ _ h rfl hG dX12_copies_11
set_option maxHeartbeats 4000000 in
set_option maxRecDepth 100000 in
theorem c_X12_would (l : Launch) (E : GE) (am : Nat → Nat) (N : Nat) (x1 : Int32) (mm : RS) {res : Int32 × RS} (h : fX12_would N x1 mm = some res) : gMi l E yX12_would cX12_would 4 .int 12 0 0 [.ref (am 0), .int x1] (rM E am mm ++ []) (rM E am res.2 ++ []) res.1 := by
  refine gMi_of (own := RX12) (by decide +kernel) rfl (Nat.le_of_ble_eq_true rfl) ?_
  intro p e s m args below meth c A ls Q H locs C hz hl hG hret
  have hx := C.1.1
  have hb := C.1.2.1
  have hts := C.1.2.2.2.2
  have hown := C.1.2.2.2.1
  have hl : lv_has ls 4 [(0, .ref (am 0)), (1, .int x1)] := hl
  replace hret : ∀ (r0 : Int32) (mm0 : RS) (H : Heap) (locs : List Loc) (pc : Nat) (ls' : Array Slot), some (r0, mm0) = some res → narrow .int (.int r0) = .int r0 → gG E A s.heap (rM E am mm0 ++ []) H locs → decode cX12_would pc = .ok (.ireturn, 1) → W p l e (rmD 12 0 0) s m args below meth c H locs 0 0 Q (F0 m pc ls' [.int r0]) := by
    intro r0 mm0 H locs pc ls' e0 hn; cases e0; exact hret H locs pc ls' hn
  rw [fX12_would] at h
  refine lv_iload_n hx hb dX12_would_0 rfl (lv_at hl 1 rfl) ?_
  refine lv_iconst (v := 0) hx hb dX12_would_1 (by decide) ?_
  refine lv_aload_n hx hb dX12_would_2 rfl (lv_at hl 0 rfl) ?_
  refine gL_f (v := .ref (am 1)) C hG kX12 0 0 rfl (by decide) rfl q1352 rfl dX12_would_3 ?_
  refine lv_iconst (v := 0) hx hb dX12_would_6 (by decide) ?_
  refine gL_i (v := (mm 1 0)) C hG 1 rfl (vp_in_nI (n := 0) (by decide) (by decide)) (congrArg (mm 1) (nI_clamp (n := 0) (by decide))) dX12_would_7 ?_
  refine lv_iconst (v := 1) hx hb dX12_would_8 (by decide) ?_
  refine lv_isub hx hb dX12_would_9 ?_
  refine gF_i (ws' := (rM E am mm ++ [])) C hG pst pst.symm (gR_S (As := [.int x1, .int 0, .int ((mm 1 0) - 1)]) (rest := []) C hz hl.1 hG pst (c_X12_isIn l E x1 0 ((mm 1 0) - 1) rfl H.size) okX12_isIn q1446 rfl (Nat.le_of_ble_eq_true rfl) (by omega) ⟨Nat.le_refl _, Nat.le_refl _⟩ dX12_would_10) (fun H locs z1 hG => ?_)
  refine lv_if_ne (tgt := 18) hx hb dX12_would_13 (by decide) (fun c13 => ?_) (fun c13 => ?_)
  · replace h := ie c13 h
    refine lv_aload_n hx hb dX12_would_18 rfl (lv_at hl 0 rfl) ?_
    obtain ⟨r2, hcr2, h⟩ := bnd_some h
    refine gF_v (ws' := (rM E am r2 ++ [])) C hG (pin pnil) (List.Perm.symm (pin pnil)) (gR_V (As := []) (rest := []) C hz hl.1 hG (pin pnil) (c_X12_putAside l E am N mm hcr2 H.size) okX12_putAside q1911 0 rfl rfl rfl (Nat.le_of_ble_eq_true rfl) (by omega) ⟨Nat.le_refl _, Nat.le_refl _⟩ dX12_would_19) (fun H locs hG => ?_)
    refine lv_aload_n hx hb dX12_would_22 rfl (lv_at hl 0 rfl) ?_
    refine gL_f (v := .ref (am 1)) C hG kX12 0 0 rfl (by decide) rfl q1352 rfl dX12_would_23 ?_
    refine lv_bipush (v := 6) hx hb dX12_would_26 (by decide) ?_
    refine gL_i (v := (r2 1 6)) C hG 1 rfl (vp_in_nI (n := 6) (by decide) (by decide)) (congrArg (r2 1) (nI_clamp (n := 6) (by decide))) dX12_would_28 ?_
    obtain ⟨x2_3, ex2_3, h⟩ := thn_some h
    refine g_int ex2_3 ?_
    refine lv_istore_n (lv' := [(2, .int x2_3), (0, .ref (am 0)), (1, .int x1)]) hx hb dX12_would_29 rfl hl (by decide) rfl (fun ls hl => ?_)
    refine lv_aload_n hx hb dX12_would_30 rfl (lv_at hl 1 rfl) ?_
    refine lv_iload_n hx hb dX12_would_31 rfl (lv_at hl 2 rfl) ?_
    obtain ⟨r4, hcr4, h⟩ := bnd_some h
    refine gF_i (ws' := (rM E am r4.2 ++ [])) C hG (pin pnil) (List.Perm.symm (pin pnil)) (gR_V (As := [.int x1]) (rest := []) C hz hl.1 hG (pin pnil) (c_X12_goText l E am N x1 r2 hcr4 H.size) okX12_goText q1734 0 rfl rfl rfl (Nat.le_of_ble_eq_true rfl) (by omega) ⟨Nat.le_refl _, Nat.le_refl _⟩ dX12_would_32) (fun H locs _ hG => ?_)
    refine lv_pop hx hb dX12_would_35 rfl ?_
    refine lv_aload_n hx hb dX12_would_36 rfl (lv_at hl 1 rfl) ?_
    refine gL_f (v := .ref (am 1)) C hG kX12 0 0 rfl (by decide) rfl q1352 rfl dX12_would_37 ?_
    refine lv_bipush (v := 6) hx hb dX12_would_40 (by decide) ?_
    refine gL_i (v := (r4.2 1 6)) C hG 1 rfl (vp_in_nI (n := 6) (by decide) (by decide)) (congrArg (r4.2 1) (nI_clamp (n := 6) (by decide))) dX12_would_42 ?_
    refine lv_iload_n hx hb dX12_would_43 rfl (lv_at hl 0 rfl) ?_
    refine lv_isub hx hb dX12_would_44 ?_
    obtain ⟨x3_5, ex3_5, h⟩ := thn_some h
    refine g_int ex3_5 ?_
    refine lv_istore_n (lv' := [(3, .int x3_5), (2, .int x2_3), (0, .ref (am 0)), (1, .int x1)]) hx hb dX12_would_45 rfl hl (by decide) rfl (fun ls hl => ?_)
    refine lv_aload_n hx hb dX12_would_46 rfl (lv_at hl 2 rfl) ?_
    obtain ⟨r6, hcr6, h⟩ := bnd_some h
    refine gF_v (ws' := (rM E am r6 ++ [])) C hG (pin pnil) (List.Perm.symm (pin pnil)) (gR_V (As := []) (rest := []) C hz hl.1 hG (pin pnil) (c_X12_bringBack l E am N r4.2 hcr6 H.size) okX12_bringBack q1915 0 rfl rfl rfl (Nat.le_of_ble_eq_true rfl) (by omega) ⟨Nat.le_refl _, Nat.le_refl _⟩ dX12_would_47) (fun H locs hG => ?_)
    refine lv_iload_n hx hb dX12_would_50 rfl (lv_at hl 0 rfl) ?_
    exact hret _ _ _ _ _ _ h rfl hG dX12_would_51
  · replace h := it c13 h
    refine lv_iconst (v := (-1)) hx hb dX12_would_16 (by decide) ?_
    exact hret _ _ _ _ _ _ h rfl hG dX12_would_17
set_option maxHeartbeats 4000000 in
set_option maxRecDepth 100000 in
theorem c_X12_cheapest (l : Launch) (E : GE) (am : Nat → Nat) (N : Nat) (mm : RS) {res : Int32 × RS} (h : fX12_cheapest N mm = some res) : gMi l E yX12_cheapest cX12_cheapest 5 .int 13 0 0 [.ref (am 0)] (rM E am mm ++ []) (rM E am res.2 ++ []) res.1 := by
  refine gMi_of (own := RX12) (by decide +kernel) rfl (Nat.le_of_ble_eq_true rfl) ?_
  intro p e s m args below meth c A ls Q H locs C hz hl hG hret
  have hx := C.1.1
  have hb := C.1.2.1
  have hts := C.1.2.2.2.2
  have hown := C.1.2.2.2.1
  have hl : lv_has ls 5 [(0, .ref (am 0))] := hl
  replace hret : ∀ (r0 : Int32) (mm0 : RS) (H : Heap) (locs : List Loc) (pc : Nat) (ls' : Array Slot), some (r0, mm0) = some res → narrow .int (.int r0) = .int r0 → gG E A s.heap (rM E am mm0 ++ []) H locs → decode cX12_cheapest pc = .ok (.ireturn, 1) → W p l e (rmD 13 0 0) s m args below meth c H locs 0 0 Q (F0 m pc ls' [.int r0]) := by
    intro r0 mm0 H locs pc ls' e0 hn; cases e0; exact hret H locs pc ls' hn
  have K42 : ∀ (k6 : (Int32 → Int32 → Int32 → RS → Option (Int32 × RS))) (hk6 : ∀  (x1 : Int32) (x2 : Int32) (x3 : Int32) (mm : RS) (H : Heap) (locs : List Loc) (ls : Array Slot), gG E A s.heap (rM E am mm ++ []) H locs → lv_has ls 5 [(0, .ref (am 0)), (1, .int x1), (2, .int x2), (3, .int x3)] → k6 x1 x2 x3 mm = some res → W p l e (rmD 13 0 0) s m args below meth c H locs 0 0 Q (F0 m 6 ls [])), ∀  (x1 : Int32) (x2 : Int32) (x3 : Int32) (mm : RS) (H : Heap) (locs : List Loc) (ls : Array Slot), gG E A s.heap (rM E am mm ++ []) H locs → lv_has ls 5 [(0, .ref (am 0)), (1, .int x1), (2, .int x2), (3, .int x3)] → fX12_cheapest_L42 N k6 x1 x2 x3 mm = some res → W p l e (rmD 13 0 0) s m args below meth c H locs 0 0 Q (F0 m 42 ls []) := by
    intro k6 hk6 x1 x2 x3 mm H locs ls hG hl h
    rw [fX12_cheapest_L42] at h
    refine lv_iinc (v := (x3 + 1)) (lv' := [(3, .int (x3 + 1)), (0, .ref (am 0)), (1, .int x1), (2, .int x2)]) hx hb dX12_cheapest_42 hl (k := 3) rfl (congrArg (x3 + ·) (by decide : Int32.ofInt 1 = 1)) (by decide) rfl (fun ls hl => ?_)
    refine lv_goto (tgt := 6) hx hb dX12_cheapest_45 (by decide) ?_
    exact hk6 x1 x2 (x3 + 1) mm _ _ _ hG (lv_sub hl [1, 2, 3, 0] rfl) h
  have K37 : ∀ (k6 : (Int32 → Int32 → Int32 → RS → Option (Int32 × RS))) (hk6 : ∀  (x1 : Int32) (x2 : Int32) (x3 : Int32) (mm : RS) (H : Heap) (locs : List Loc) (ls : Array Slot), gG E A s.heap (rM E am mm ++ []) H locs → lv_has ls 5 [(0, .ref (am 0)), (1, .int x1), (2, .int x2), (3, .int x3)] → k6 x1 x2 x3 mm = some res → W p l e (rmD 13 0 0) s m args below meth c H locs 0 0 Q (F0 m 6 ls [])), ∀  (x3 : Int32) (x4 : Int32) (mm : RS) (H : Heap) (locs : List Loc) (ls : Array Slot), gG E A s.heap (rM E am mm ++ []) H locs → lv_has ls 5 [(0, .ref (am 0)), (3, .int x3), (4, .int x4)] → fX12_cheapest_L37 N k6 x3 x4 mm = some res → W p l e (rmD 13 0 0) s m args below meth c H locs 0 0 Q (F0 m 37 ls []) := by
    intro k6 hk6 x3 x4 mm H locs ls hG hl h
    rw [fX12_cheapest_L37] at h
    refine lv_iload_n hx hb dX12_cheapest_37 rfl (lv_at hl 1 rfl) ?_
    refine lv_istore_n (lv' := [(1, .int x3), (0, .ref (am 0)), (3, .int x3), (4, .int x4)]) hx hb dX12_cheapest_38 rfl hl (by decide) rfl (fun ls hl => ?_)
    refine lv_iload hx hb dX12_cheapest_39 (lv_at hl 3 rfl) ?_
    refine lv_istore_n (lv' := [(2, .int x4), (1, .int x3), (0, .ref (am 0)), (3, .int x3), (4, .int x4)]) hx hb dX12_cheapest_41 rfl hl (by decide) rfl (fun ls hl => ?_)
    exact K42 _ hk6 x3 x4 x3 mm _ _ _ hG (lv_sub hl [2, 1, 0, 3] rfl) h
  have K6 : ∀ (k : Nat), ∀  (x1 : Int32) (x2 : Int32) (x3 : Int32) (mm : RS) (H : Heap) (locs : List Loc) (ls : Array Slot), gG E A s.heap (rM E am mm ++ []) H locs → lv_has ls 5 [(0, .ref (am 0)), (1, .int x1), (2, .int x2), (3, .int x3)] → fX12_cheapest_L6 N k x1 x2 x3 mm = some res → W p l e (rmD 13 0 0) s m args below meth c H locs 0 0 Q (F0 m 6 ls []) := by
    intro k
    induction k with
    | zero => intro x1 x2 x3 mm H locs ls hG hl h; exact absurd (show none = _ from h) (by simp)
    | succ k ih =>
      intro x1 x2 x3 mm H locs ls hG hl h
      rw [fX12_cheapest_L6] at h
      refine lv_iload_n hx hb dX12_cheapest_6 rfl (lv_at hl 3 rfl) ?_
      refine lv_aload_n hx hb dX12_cheapest_7 rfl (lv_at hl 0 rfl) ?_
      refine gL_f (v := .ref (am 1)) C hG kX12 0 0 rfl (by decide) rfl q1352 rfl dX12_cheapest_8 ?_
      refine lv_iconst (v := 0) hx hb dX12_cheapest_11 (by decide) ?_
      refine gL_i (v := (mm 1 0)) C hG 1 rfl (vp_in_nI (n := 0) (by decide) (by decide)) (congrArg (mm 1) (nI_clamp (n := 0) (by decide))) dX12_cheapest_12 ?_
      refine lv_icmp_ge (tgt := 48) hx hb dX12_cheapest_13 (by decide) (fun c13 => ?_) (fun c13 => ?_)
      · replace h := it c13 h
        refine lv_iload_n hx hb dX12_cheapest_48 rfl (lv_at hl 1 rfl) ?_
        exact hret _ _ _ _ _ _ h rfl hG dX12_cheapest_49
      · replace h := ie c13 h
        refine lv_aload_n hx hb dX12_cheapest_16 rfl (lv_at hl 0 rfl) ?_
        refine lv_iload_n hx hb dX12_cheapest_17 rfl (lv_at hl 3 rfl) ?_
        obtain ⟨r1, hcr1, h⟩ := bnd_some h
        refine gF_i (ws' := (rM E am r1.2 ++ [])) C hG (pin pnil) (List.Perm.symm (pin pnil)) (gR_V (As := [.int x3]) (rest := []) C hz hl.1 hG (pin pnil) (c_X12_would l E am N x3 mm hcr1 H.size) okX12_would q1931 0 rfl rfl rfl (Nat.le_of_ble_eq_true rfl) (by omega) ⟨Nat.le_refl _, Nat.le_refl _⟩ dX12_cheapest_18) (fun H locs _ hG => ?_)
        refine lv_istore (lv' := [(4, .int r1.1), (0, .ref (am 0)), (1, .int x1), (2, .int x2), (3, .int x3)]) hx hb dX12_cheapest_21 hl (by decide) rfl (fun ls hl => ?_)
        refine lv_iload_n hx hb dX12_cheapest_23 rfl (lv_at hl 2 rfl) ?_
        refine lv_iconst (v := (-1)) hx hb dX12_cheapest_24 (by decide) ?_
        refine lv_icmp_eq (tgt := 37) hx hb dX12_cheapest_25 (by decide) (fun c25 => ?_) (fun c25 => ?_)
        · replace h := it c25 h
          exact K37 _ ih x3 r1.1 r1.2 _ _ _ hG (lv_sub hl [1, 4, 0] rfl) h
        · replace h := ie c25 h
          refine lv_iload hx hb dX12_cheapest_28 (lv_at hl 0 rfl) ?_
          refine lv_iload_n hx hb dX12_cheapest_30 rfl (lv_at hl 3 rfl) ?_
          refine lv_icmp_lt (tgt := 37) hx hb dX12_cheapest_31 (by decide) (fun c31 => ?_) (fun c31 => ?_)
          · replace h := it c31 h
            exact K37 _ ih x3 r1.1 r1.2 _ _ _ hG (lv_sub hl [1, 4, 0] rfl) h
          · replace h := ie c31 h
            refine lv_goto (tgt := 42) hx hb dX12_cheapest_34 (by decide) ?_
            exact K42 _ ih x1 x2 x3 r1.2 _ _ _ hG (lv_sub hl [1, 2, 3, 4] rfl) h
  rw [fX12_cheapest] at h
  refine lv_iconst (v := (-1)) hx hb dX12_cheapest_0 (by decide) ?_
  refine lv_istore_n (lv' := [(1, .int (-1)), (0, .ref (am 0))]) hx hb dX12_cheapest_1 rfl hl (by decide) rfl (fun ls hl => ?_)
  refine lv_iconst (v := 0) hx hb dX12_cheapest_2 (by decide) ?_
  refine lv_istore_n (lv' := [(2, .int 0), (1, .int (-1)), (0, .ref (am 0))]) hx hb dX12_cheapest_3 rfl hl (by decide) rfl (fun ls hl => ?_)
  refine lv_iconst (v := 0) hx hb dX12_cheapest_4 (by decide) ?_
  refine lv_istore_n (lv' := [(3, .int 0), (2, .int 0), (1, .int (-1)), (0, .ref (am 0))]) hx hb dX12_cheapest_5 rfl hl (by decide) rfl (fun ls hl => ?_)
  exact K6 N (-1) 0 0 mm _ _ _ hG (lv_sub hl [3, 2, 1, 0] rfl) h
set_option maxHeartbeats 4000000 in
set_option maxRecDepth 100000 in
theorem c_X12_isHotter (l : Launch) (E : GE) (am : Nat → Nat) (N : Nat) (x1 : Int32) (x2 : Int32) (mm : RS) {res : Int32} (h : fX12_isHotter N x1 x2 mm = some res) : gMi l E yX12_isHotter cX12_isHotter 3 .boolean 1 0 0 [.ref (am 0), .int x1, .int x2] (rM E am mm ++ []) (rM E am mm ++ []) res := by
  refine gMi_of (own := RX12) (by decide +kernel) rfl (Nat.le_of_ble_eq_true rfl) ?_
  intro p e s m args below meth c A ls Q H locs C hz hl hG hret
  have hx := C.1.1
  have hb := C.1.2.1
  have hts := C.1.2.2.2.2
  have hown := C.1.2.2.2.1
  have hl : lv_has ls 3 [(0, .ref (am 0)), (1, .int x1), (2, .int x2)] := hl
  replace hret : ∀ (r0 : Int32) (H : Heap) (locs : List Loc) (pc : Nat) (ls' : Array Slot), some r0 = some res → narrow .boolean (.int r0) = .int r0 → gG E A s.heap (rM E am mm ++ []) H locs → decode cX12_isHotter pc = .ok (.ireturn, 1) → W p l e (rmD 1 0 0) s m args below meth c H locs 0 0 Q (F0 m pc ls' [.int r0]) := by
    intro r0 H locs pc ls' e0 hn; cases e0; exact hret H locs pc ls' hn
  have K47 : ∀  (H : Heap) (locs : List Loc) (ls : Array Slot), gG E A s.heap (rM E am mm ++ []) H locs → lv_has ls 3 [] → fX12_isHotter_L47 N x1 x2 mm = some res → W p l e (rmD 1 0 0) s m args below meth c H locs 0 0 Q (F0 m 47 ls []) := by
    intro H locs ls hG hl h
    rw [fX12_isHotter_L47] at h
    refine lv_iconst (v := 1) hx hb dX12_isHotter_47 (by decide) ?_
    refine lv_goto (tgt := 52) hx hb dX12_isHotter_48 (by decide) ?_
    exact hret _ _ _ _ _ h rfl hG dX12_isHotter_52
  rw [fX12_isHotter] at h
  refine lv_aload_n hx hb dX12_isHotter_0 rfl (lv_at hl 0 rfl) ?_
  refine gL_f (v := .ref (am 1)) C hG kX12 0 0 rfl (by decide) rfl q1352 rfl dX12_isHotter_1 ?_
  refine lv_bipush (v := 19) hx hb dX12_isHotter_4 (by decide) ?_
  refine lv_iload_n hx hb dX12_isHotter_6 rfl (lv_at hl 1 rfl) ?_
  refine lv_iadd hx hb dX12_isHotter_7 ?_
  obtain ⟨b1, h⟩ := ck_some h
  refine gL_i (v := (mm 1 (19 + x1).toNatClampNeg)) C hG 1 rfl (inb_in b1) rfl dX12_isHotter_8 ?_
  refine lv_aload_n hx hb dX12_isHotter_9 rfl (lv_at hl 0 rfl) ?_
  refine gL_f (v := .ref (am 1)) C hG kX12 0 0 rfl (by decide) rfl q1352 rfl dX12_isHotter_10 ?_
  refine lv_bipush (v := 19) hx hb dX12_isHotter_13 (by decide) ?_
  refine lv_iload_n hx hb dX12_isHotter_15 rfl (lv_at hl 2 rfl) ?_
  refine lv_iadd hx hb dX12_isHotter_16 ?_
  obtain ⟨b2, h⟩ := ck_some h
  refine gL_i (v := (mm 1 (19 + x2).toNatClampNeg)) C hG 1 rfl (inb_in b2) rfl dX12_isHotter_17 ?_
  refine lv_icmp_gt (tgt := 47) hx hb dX12_isHotter_18 (by decide) (fun c18 => ?_) (fun c18 => ?_)
  · replace h := it c18 h
    exact K47 _ _ _ hG (lv_sub hl [] rfl) h
  · replace h := ie c18 h
    refine lv_aload_n hx hb dX12_isHotter_21 rfl (lv_at hl 0 rfl) ?_
    refine gL_f (v := .ref (am 1)) C hG kX12 0 0 rfl (by decide) rfl q1352 rfl dX12_isHotter_22 ?_
    refine lv_bipush (v := 19) hx hb dX12_isHotter_25 (by decide) ?_
    refine lv_iload_n hx hb dX12_isHotter_27 rfl (lv_at hl 1 rfl) ?_
    refine lv_iadd hx hb dX12_isHotter_28 ?_
    refine gL_i (v := (mm 1 (19 + x1).toNatClampNeg)) C hG 1 rfl (inb_in b1) rfl dX12_isHotter_29 ?_
    refine lv_aload_n hx hb dX12_isHotter_30 rfl (lv_at hl 0 rfl) ?_
    refine gL_f (v := .ref (am 1)) C hG kX12 0 0 rfl (by decide) rfl q1352 rfl dX12_isHotter_31 ?_
    refine lv_bipush (v := 19) hx hb dX12_isHotter_34 (by decide) ?_
    refine lv_iload_n hx hb dX12_isHotter_36 rfl (lv_at hl 2 rfl) ?_
    refine lv_iadd hx hb dX12_isHotter_37 ?_
    refine gL_i (v := (mm 1 (19 + x2).toNatClampNeg)) C hG 1 rfl (inb_in b2) rfl dX12_isHotter_38 ?_
    refine lv_icmp_ne (tgt := 51) hx hb dX12_isHotter_39 (by decide) (fun c39 => ?_) (fun c39 => ?_)
    · replace h := ie c39 h
      refine lv_iconst (v := 0) hx hb dX12_isHotter_51 (by decide) ?_
      exact hret _ _ _ _ _ h rfl hG dX12_isHotter_52
    · replace h := it c39 h
      refine lv_iload_n hx hb dX12_isHotter_42 rfl (lv_at hl 1 rfl) ?_
      refine lv_iload_n hx hb dX12_isHotter_43 rfl (lv_at hl 2 rfl) ?_
      refine lv_icmp_ge (tgt := 51) hx hb dX12_isHotter_44 (by decide) (fun c44 => ?_) (fun c44 => ?_)
      · replace h := it c44 h
        refine lv_iconst (v := 0) hx hb dX12_isHotter_51 (by decide) ?_
        exact hret _ _ _ _ _ h rfl hG dX12_isHotter_52
      · replace h := ie c44 h
        exact K47 _ _ _ hG (lv_sub hl [] rfl) h
set_option maxHeartbeats 4000000 in
set_option maxRecDepth 100000 in
theorem c_X12_rank (l : Launch) (E : GE) (am : Nat → Nat) (N : Nat) (x1 : Int32) (mm : RS) {res : Int32} (h : fX12_rank N x1 mm = some res) : gMi l E yX12_rank cX12_rank 5 .int 2 0 0 [.ref (am 0), .int x1] (rM E am mm ++ []) (rM E am mm ++ []) res := by
  refine gMi_of (own := RX12) (by decide +kernel) rfl (Nat.le_of_ble_eq_true rfl) ?_
  intro p e s m args below meth c A ls Q H locs C hz hl hG hret
  have hx := C.1.1
  have hb := C.1.2.1
  have hts := C.1.2.2.2.2
  have hown := C.1.2.2.2.1
  have hl : lv_has ls 5 [(0, .ref (am 0)), (1, .int x1)] := hl
  replace hret : ∀ (r0 : Int32) (H : Heap) (locs : List Loc) (pc : Nat) (ls' : Array Slot), some r0 = some res → narrow .int (.int r0) = .int r0 → gG E A s.heap (rM E am mm ++ []) H locs → decode cX12_rank pc = .ok (.ireturn, 1) → W p l e (rmD 2 0 0) s m args below meth c H locs 0 0 Q (F0 m pc ls' [.int r0]) := by
    intro r0 H locs pc ls' e0 hn; cases e0; exact hret H locs pc ls' hn
  have K36 : ∀ (k2 : (Int32 → Option (Int32))) (k13 : (Int32 → Int32 → Int32 → Option (Int32))) (hk2 : ∀  (x2 : Int32) (H : Heap) (locs : List Loc) (ls : Array Slot), gG E A s.heap (rM E am mm ++ []) H locs → lv_has ls 5 [(0, .ref (am 0)), (1, .int x1), (2, .int x2)] → k2 x2 = some res → W p l e (rmD 2 0 0) s m args below meth c H locs 0 0 Q (F0 m 2 ls [])) (hk13 : ∀  (x2 : Int32) (x3 : Int32) (x4 : Int32) (H : Heap) (locs : List Loc) (ls : Array Slot), gG E A s.heap (rM E am mm ++ []) H locs → lv_has ls 5 [(0, .ref (am 0)), (1, .int x1), (2, .int x2), (3, .int x3), (4, .int x4)] → k13 x2 x3 x4 = some res → W p l e (rmD 2 0 0) s m args below meth c H locs 0 0 Q (F0 m 13 ls [])), ∀  (x2 : Int32) (x4 : Int32) (s0 : Int32) (s1 : Int32) (H : Heap) (locs : List Loc) (ls : Array Slot), gG E A s.heap (rM E am mm ++ []) H locs → lv_has ls 5 [(0, .ref (am 0)), (1, .int x1), (2, .int x2), (4, .int x4)] → fX12_rank_L36 N x1 mm k2 k13 x2 x4 s0 s1 = some res → W p l e (rmD 2 0 0) s m args below meth c H locs 0 0 Q (F0 m 36 ls [.int s1, .int s0]) := by
    intro k2 k13 hk2 hk13 x2 x4 s0 s1 H locs ls hG hl h
    rw [fX12_rank_L36] at h
    refine lv_iadd hx hb dX12_rank_36 ?_
    obtain ⟨x3_1, ex3_1, h⟩ := thn_some h
    refine g_int ex3_1 ?_
    refine lv_istore_n (lv' := [(3, .int x3_1), (0, .ref (am 0)), (1, .int x1), (2, .int x2), (4, .int x4)]) hx hb dX12_rank_37 rfl hl (by decide) rfl (fun ls hl => ?_)
    refine lv_iinc (v := (x4 + 1)) (lv' := [(4, .int (x4 + 1)), (3, .int x3_1), (0, .ref (am 0)), (1, .int x1), (2, .int x2)]) hx hb dX12_rank_38 hl (k := 4) rfl (congrArg (x4 + ·) (by decide : Int32.ofInt 1 = 1)) (by decide) rfl (fun ls hl => ?_)
    refine lv_goto (tgt := 13) hx hb dX12_rank_41 (by decide) ?_
    exact hk13 x2 x3_1 (x4 + 1) _ _ _ hG (lv_sub hl [2, 3, 4, 1, 0] rfl) h
  have K13 : ∀ (k2 : (Int32 → Option (Int32))) (hk2 : ∀  (x2 : Int32) (H : Heap) (locs : List Loc) (ls : Array Slot), gG E A s.heap (rM E am mm ++ []) H locs → lv_has ls 5 [(0, .ref (am 0)), (1, .int x1), (2, .int x2)] → k2 x2 = some res → W p l e (rmD 2 0 0) s m args below meth c H locs 0 0 Q (F0 m 2 ls [])) (k : Nat), ∀  (x2 : Int32) (x3 : Int32) (x4 : Int32) (H : Heap) (locs : List Loc) (ls : Array Slot), gG E A s.heap (rM E am mm ++ []) H locs → lv_has ls 5 [(0, .ref (am 0)), (1, .int x1), (2, .int x2), (3, .int x3), (4, .int x4)] → fX12_rank_L13 N x1 mm k2 k x2 x3 x4 = some res → W p l e (rmD 2 0 0) s m args below meth c H locs 0 0 Q (F0 m 13 ls []) := by
    intro k2 hk2 k
    induction k with
    | zero => intro x2 x3 x4 H locs ls hG hl h; exact absurd (show none = _ from h) (by simp)
    | succ k ih =>
      intro x2 x3 x4 H locs ls hG hl h
      rw [fX12_rank_L13] at h
      refine lv_iload hx hb dX12_rank_13 (lv_at hl 4 rfl) ?_
      refine lv_bipush (v := 10) hx hb dX12_rank_15 (by decide) ?_
      refine lv_icmp_ge (tgt := 44) hx hb dX12_rank_17 (by decide) (fun c17 => ?_) (fun c17 => ?_)
      · replace h := it c17 h
        refine lv_iload_n hx hb dX12_rank_44 rfl (lv_at hl 3 rfl) ?_
        refine lv_iload_n hx hb dX12_rank_45 rfl (lv_at hl 1 rfl) ?_
        refine lv_icmp_ne (tgt := 51) hx hb dX12_rank_46 (by decide) (fun c46 => ?_) (fun c46 => ?_)
        · replace h := ie c46 h
          refine lv_iinc (v := (x2 + 1)) (lv' := [(2, .int (x2 + 1)), (0, .ref (am 0)), (1, .int x1), (3, .int x3), (4, .int x4)]) hx hb dX12_rank_51 hl (k := 2) rfl (congrArg (x2 + ·) (by decide : Int32.ofInt 1 = 1)) (by decide) rfl (fun ls hl => ?_)
          refine lv_goto (tgt := 2) hx hb dX12_rank_54 (by decide) ?_
          exact hk2 (x2 + 1) _ _ _ hG (lv_sub hl [1, 2, 0] rfl) h
        · replace h := it c46 h
          refine lv_iload_n hx hb dX12_rank_49 rfl (lv_at hl 2 rfl) ?_
          exact hret _ _ _ _ _ h rfl hG dX12_rank_50
      · replace h := ie c17 h
        refine lv_iload_n hx hb dX12_rank_20 rfl (lv_at hl 3 rfl) ?_
        refine lv_aload_n hx hb dX12_rank_21 rfl (lv_at hl 0 rfl) ?_
        refine lv_iload hx hb dX12_rank_22 (lv_at hl 4 rfl) ?_
        refine lv_iload_n hx hb dX12_rank_24 rfl (lv_at hl 2 rfl) ?_
        obtain ⟨r1, hcr1, h⟩ := bnd_some h
        refine gF_i (ws' := (rM E am mm ++ [])) C hG (pin pnil) (List.Perm.symm (pin pnil)) (gR_V (As := [.int x4, .int x2]) (rest := [.int x3]) C hz hl.1 hG (pin pnil) (c_X12_isHotter l E am N x4 x2 mm hcr1 H.size) okX12_isHotter q1936 0 rfl rfl rfl (Nat.le_of_ble_eq_true rfl) (by omega) ⟨Nat.le_refl _, Nat.le_refl _⟩ dX12_rank_25) (fun H locs z2 hG => ?_)
        refine lv_if_eq (tgt := 35) hx hb dX12_rank_28 (by decide) (fun c28 => ?_) (fun c28 => ?_)
        · replace h := it c28 h
          refine lv_iconst (v := 0) hx hb dX12_rank_35 (by decide) ?_
          exact K36 _ _ hk2 ih x2 x4 x3 0 _ _ _ hG (lv_sub hl [0, 1, 2, 4] rfl) h
        · replace h := ie c28 h
          refine lv_iconst (v := 1) hx hb dX12_rank_31 (by decide) ?_
          refine lv_goto (tgt := 36) hx hb dX12_rank_32 (by decide) ?_
          exact K36 _ _ hk2 ih x2 x4 x3 1 _ _ _ hG (lv_sub hl [0, 1, 2, 4] rfl) h
  have K2 : ∀ (k : Nat), ∀  (x2 : Int32) (H : Heap) (locs : List Loc) (ls : Array Slot), gG E A s.heap (rM E am mm ++ []) H locs → lv_has ls 5 [(0, .ref (am 0)), (1, .int x1), (2, .int x2)] → fX12_rank_L2 N x1 mm k x2 = some res → W p l e (rmD 2 0 0) s m args below meth c H locs 0 0 Q (F0 m 2 ls []) := by
    intro k
    induction k with
    | zero => intro x2 H locs ls hG hl h; exact absurd (show none = _ from h) (by simp)
    | succ k ih =>
      intro x2 H locs ls hG hl h
      rw [fX12_rank_L2] at h
      refine lv_iload_n hx hb dX12_rank_2 rfl (lv_at hl 2 rfl) ?_
      refine lv_bipush (v := 10) hx hb dX12_rank_3 (by decide) ?_
      refine lv_icmp_ge (tgt := 57) hx hb dX12_rank_5 (by decide) (fun c5 => ?_) (fun c5 => ?_)
      · replace h := it c5 h
        refine lv_iconst (v := (-1)) hx hb dX12_rank_57 (by decide) ?_
        exact hret _ _ _ _ _ h rfl hG dX12_rank_58
      · replace h := ie c5 h
        refine lv_iconst (v := 0) hx hb dX12_rank_8 (by decide) ?_
        refine lv_istore_n (lv' := [(3, .int 0), (0, .ref (am 0)), (1, .int x1), (2, .int x2)]) hx hb dX12_rank_9 rfl hl (by decide) rfl (fun ls hl => ?_)
        refine lv_iconst (v := 0) hx hb dX12_rank_10 (by decide) ?_
        refine lv_istore (lv' := [(4, .int 0), (3, .int 0), (0, .ref (am 0)), (1, .int x1), (2, .int x2)]) hx hb dX12_rank_11 hl (by decide) rfl (fun ls hl => ?_)
        exact K13 _ ih N x2 0 0 _ _ _ hG (lv_sub hl [2, 3, 4, 1, 0] rfl) h
  rw [fX12_rank] at h
  refine lv_iconst (v := 0) hx hb dX12_rank_0 (by decide) ?_
  refine lv_istore_n (lv' := [(2, .int 0), (0, .ref (am 0)), (1, .int x1)]) hx hb dX12_rank_1 rfl hl (by decide) rfl (fun ls hl => ?_)
  exact K2 N 0 _ _ _ hG (lv_sub hl [1, 2, 0] rfl) h
set_option maxHeartbeats 4000000 in
set_option maxRecDepth 100000 in
theorem c_X12_coldest (l : Launch) (E : GE) (am : Nat → Nat) (N : Nat) (x1 : Int32) (mm : RS) {res : Int32} (h : fX12_coldest N x1 mm = some res) : gMi l E yX12_coldest cX12_coldest 4 .int 2 0 0 [.ref (am 0), .int x1] (rM E am mm ++ []) (rM E am mm ++ []) res := by
  refine gMi_of (own := RX12) (by decide +kernel) rfl (Nat.le_of_ble_eq_true rfl) ?_
  intro p e s m args below meth c A ls Q H locs C hz hl hG hret
  have hx := C.1.1
  have hb := C.1.2.1
  have hts := C.1.2.2.2.2
  have hown := C.1.2.2.2.1
  have hl : lv_has ls 4 [(0, .ref (am 0)), (1, .int x1)] := hl
  replace hret : ∀ (r0 : Int32) (H : Heap) (locs : List Loc) (pc : Nat) (ls' : Array Slot), some r0 = some res → narrow .int (.int r0) = .int r0 → gG E A s.heap (rM E am mm ++ []) H locs → decode cX12_coldest pc = .ok (.ireturn, 1) → W p l e (rmD 2 0 0) s m args below meth c H locs 0 0 Q (F0 m pc ls' [.int r0]) := by
    intro r0 H locs pc ls' e0 hn; cases e0; exact hret H locs pc ls' hn
  have K53 : ∀ (k15 : (Int32 → Int32 → Option (Int32))) (hk15 : ∀  (x2 : Int32) (x3 : Int32) (H : Heap) (locs : List Loc) (ls : Array Slot), gG E A s.heap (rM E am mm ++ []) H locs → lv_has ls 4 [(0, .ref (am 0)), (1, .int x1), (2, .int x2), (3, .int x3)] → k15 x2 x3 = some res → W p l e (rmD 2 0 0) s m args below meth c H locs 0 0 Q (F0 m 15 ls [])), ∀  (x2 : Int32) (x3 : Int32) (H : Heap) (locs : List Loc) (ls : Array Slot), gG E A s.heap (rM E am mm ++ []) H locs → lv_has ls 4 [(0, .ref (am 0)), (1, .int x1), (2, .int x2), (3, .int x3)] → fX12_coldest_L53 N x1 mm k15 x2 x3 = some res → W p l e (rmD 2 0 0) s m args below meth c H locs 0 0 Q (F0 m 53 ls []) := by
    intro k15 hk15 x2 x3 H locs ls hG hl h
    rw [fX12_coldest_L53] at h
    refine lv_iinc (v := (x3 + 1)) (lv' := [(3, .int (x3 + 1)), (0, .ref (am 0)), (1, .int x1), (2, .int x2)]) hx hb dX12_coldest_53 hl (k := 3) rfl (congrArg (x3 + ·) (by decide : Int32.ofInt 1 = 1)) (by decide) rfl (fun ls hl => ?_)
    refine lv_goto (tgt := 15) hx hb dX12_coldest_56 (by decide) ?_
    exact hk15 x2 (x3 + 1) _ _ _ hG (lv_sub hl [1, 2, 3, 0] rfl) h
  have K51 : ∀ (k15 : (Int32 → Int32 → Option (Int32))) (hk15 : ∀  (x2 : Int32) (x3 : Int32) (H : Heap) (locs : List Loc) (ls : Array Slot), gG E A s.heap (rM E am mm ++ []) H locs → lv_has ls 4 [(0, .ref (am 0)), (1, .int x1), (2, .int x2), (3, .int x3)] → k15 x2 x3 = some res → W p l e (rmD 2 0 0) s m args below meth c H locs 0 0 Q (F0 m 15 ls [])), ∀  (x3 : Int32) (H : Heap) (locs : List Loc) (ls : Array Slot), gG E A s.heap (rM E am mm ++ []) H locs → lv_has ls 4 [(0, .ref (am 0)), (1, .int x1), (3, .int x3)] → fX12_coldest_L51 N x1 mm k15 x3 = some res → W p l e (rmD 2 0 0) s m args below meth c H locs 0 0 Q (F0 m 51 ls []) := by
    intro k15 hk15 x3 H locs ls hG hl h
    rw [fX12_coldest_L51] at h
    refine lv_iload_n hx hb dX12_coldest_51 rfl (lv_at hl 2 rfl) ?_
    refine lv_istore_n (lv' := [(2, .int x3), (0, .ref (am 0)), (1, .int x1), (3, .int x3)]) hx hb dX12_coldest_52 rfl hl (by decide) rfl (fun ls hl => ?_)
    exact K53 _ hk15 x3 x3 _ _ _ hG (lv_sub hl [1, 2, 0, 3] rfl) h
  have K15 : ∀ (k : Nat), ∀  (x2 : Int32) (x3 : Int32) (H : Heap) (locs : List Loc) (ls : Array Slot), gG E A s.heap (rM E am mm ++ []) H locs → lv_has ls 4 [(0, .ref (am 0)), (1, .int x1), (2, .int x2), (3, .int x3)] → fX12_coldest_L15 N x1 mm k x2 x3 = some res → W p l e (rmD 2 0 0) s m args below meth c H locs 0 0 Q (F0 m 15 ls []) := by
    intro k
    induction k with
    | zero => intro x2 x3 H locs ls hG hl h; exact absurd (show none = _ from h) (by simp)
    | succ k ih =>
      intro x2 x3 H locs ls hG hl h
      rw [fX12_coldest_L15] at h
      refine lv_iload_n hx hb dX12_coldest_15 rfl (lv_at hl 3 rfl) ?_
      refine lv_bipush (v := 10) hx hb dX12_coldest_16 (by decide) ?_
      refine lv_icmp_ge (tgt := 59) hx hb dX12_coldest_18 (by decide) (fun c18 => ?_) (fun c18 => ?_)
      · replace h := it c18 h
        refine lv_iload_n hx hb dX12_coldest_59 rfl (lv_at hl 2 rfl) ?_
        exact hret _ _ _ _ _ h rfl hG dX12_coldest_60
      · replace h := ie c18 h
        refine lv_aload_n hx hb dX12_coldest_21 rfl (lv_at hl 0 rfl) ?_
        refine gL_f (v := .ref (am 1)) C hG kX12 0 0 rfl (by decide) rfl q1352 rfl dX12_coldest_22 ?_
        refine lv_bipush (v := 109) hx hb dX12_coldest_25 (by decide) ?_
        refine lv_iload_n hx hb dX12_coldest_27 rfl (lv_at hl 3 rfl) ?_
        refine lv_iadd hx hb dX12_coldest_28 ?_
        obtain ⟨b1, h⟩ := ck_some h
        refine gL_i (v := (mm 1 (109 + x3).toNatClampNeg)) C hG 1 rfl (inb_in b1) rfl dX12_coldest_29 ?_
        refine lv_iload_n hx hb dX12_coldest_30 rfl (lv_at hl 1 rfl) ?_
        refine lv_icmp_eq (tgt := 37) hx hb dX12_coldest_31 (by decide) (fun c31 => ?_) (fun c31 => ?_)
        · replace h := it c31 h
          refine lv_iload_n hx hb dX12_coldest_37 rfl (lv_at hl 2 rfl) ?_
          refine lv_iconst (v := (-1)) hx hb dX12_coldest_38 (by decide) ?_
          refine lv_icmp_eq (tgt := 51) hx hb dX12_coldest_39 (by decide) (fun c39 => ?_) (fun c39 => ?_)
          · replace h := it c39 h
            exact K51 _ ih x3 _ _ _ hG (lv_sub hl [0, 1, 3] rfl) h
          · replace h := ie c39 h
            refine lv_aload_n hx hb dX12_coldest_42 rfl (lv_at hl 0 rfl) ?_
            refine lv_iload_n hx hb dX12_coldest_43 rfl (lv_at hl 2 rfl) ?_
            refine lv_iload_n hx hb dX12_coldest_44 rfl (lv_at hl 3 rfl) ?_
            obtain ⟨r2, hcr2, h⟩ := bnd_some h
            refine gF_i (ws' := (rM E am mm ++ [])) C hG (pin pnil) (List.Perm.symm (pin pnil)) (gR_V (As := [.int x2, .int x3]) (rest := []) C hz hl.1 hG (pin pnil) (c_X12_isHotter l E am N x2 x3 mm hcr2 H.size) okX12_isHotter q1936 0 rfl rfl rfl (Nat.le_of_ble_eq_true rfl) (by omega) ⟨Nat.le_refl _, Nat.le_refl _⟩ dX12_coldest_45) (fun H locs z3 hG => ?_)
            refine lv_if_eq (tgt := 53) hx hb dX12_coldest_48 (by decide) (fun c48 => ?_) (fun c48 => ?_)
            · replace h := it c48 h
              exact K53 _ ih x2 x3 _ _ _ hG (lv_sub hl [0, 1, 2, 3] rfl) h
            · replace h := ie c48 h
              exact K51 _ ih x3 _ _ _ hG (lv_sub hl [0, 1, 3] rfl) h
        · replace h := ie c31 h
          refine lv_goto (tgt := 53) hx hb dX12_coldest_34 (by decide) ?_
          exact K53 _ ih x2 x3 _ _ _ hG (lv_sub hl [0, 1, 2, 3] rfl) h
  rw [fX12_coldest] at h
  refine lv_iload_n hx hb dX12_coldest_0 rfl (lv_at hl 1 rfl) ?_
  refine lv_iconst (v := 0) hx hb dX12_coldest_1 (by decide) ?_
  refine lv_iconst (v := 1) hx hb dX12_coldest_2 (by decide) ?_
  refine gF_i (ws' := (rM E am mm ++ [])) C hG pst pst.symm (gR_S (As := [.int x1, .int 0, .int 1]) (rest := []) C hz hl.1 hG pst (c_X12_isIn l E x1 0 1 rfl H.size) okX12_isIn q1446 rfl (Nat.le_of_ble_eq_true rfl) (by omega) ⟨Nat.le_refl _, Nat.le_refl _⟩ dX12_coldest_3) (fun H locs z1 hG => ?_)
  refine lv_if_ne (tgt := 11) hx hb dX12_coldest_6 (by decide) (fun c6 => ?_) (fun c6 => ?_)
  · replace h := ie c6 h
    refine lv_iconst (v := (-1)) hx hb dX12_coldest_11 (by decide) ?_
    refine lv_istore_n (lv' := [(2, .int (-1)), (0, .ref (am 0)), (1, .int x1)]) hx hb dX12_coldest_12 rfl hl (by decide) rfl (fun ls hl => ?_)
    refine lv_iconst (v := 0) hx hb dX12_coldest_13 (by decide) ?_
    refine lv_istore_n (lv' := [(3, .int 0), (2, .int (-1)), (0, .ref (am 0)), (1, .int x1)]) hx hb dX12_coldest_14 rfl hl (by decide) rfl (fun ls hl => ?_)
    exact K15 N (-1) 0 _ _ _ hG (lv_sub hl [2, 3, 1, 0] rfl) h
  · replace h := it c6 h
    refine lv_iconst (v := (-1)) hx hb dX12_coldest_9 (by decide) ?_
    exact hret _ _ _ _ _ h rfl hG dX12_coldest_10
set_option maxHeartbeats 4000000 in
set_option maxRecDepth 100000 in
theorem c_X12_warmth (l : Launch) (E : GE) (am : Nat → Nat) (N : Nat) (x1 : Int32) (mm : RS) {res : Int32} (h : fX12_warmth N x1 mm = some res) : gMi l E yX12_warmth cX12_warmth 4 .int 2 0 0 [.ref (am 0), .int x1] (rM E am mm ++ []) (rM E am mm ++ []) res := by
  refine gMi_of (own := RX12) (by decide +kernel) rfl (Nat.le_of_ble_eq_true rfl) ?_
  intro p e s m args below meth c A ls Q H locs C hz hl hG hret
  have hx := C.1.1
  have hb := C.1.2.1
  have hts := C.1.2.2.2.2
  have hown := C.1.2.2.2.1
  have hl : lv_has ls 4 [(0, .ref (am 0)), (1, .int x1)] := hl
  replace hret : ∀ (r0 : Int32) (H : Heap) (locs : List Loc) (pc : Nat) (ls' : Array Slot), some r0 = some res → narrow .int (.int r0) = .int r0 → gG E A s.heap (rM E am mm ++ []) H locs → decode cX12_warmth pc = .ok (.ireturn, 1) → W p l e (rmD 2 0 0) s m args below meth c H locs 0 0 Q (F0 m pc ls' [.int r0]) := by
    intro r0 H locs pc ls' e0 hn; cases e0; exact hret H locs pc ls' hn
  have K48 : ∀ (k15 : (Int32 → Int32 → Option (Int32))) (hk15 : ∀  (x2 : Int32) (x3 : Int32) (H : Heap) (locs : List Loc) (ls : Array Slot), gG E A s.heap (rM E am mm ++ []) H locs → lv_has ls 4 [(0, .ref (am 0)), (1, .int x1), (2, .int x2), (3, .int x3)] → k15 x2 x3 = some res → W p l e (rmD 2 0 0) s m args below meth c H locs 0 0 Q (F0 m 15 ls [])), ∀  (x3 : Int32) (s0 : Int32) (s1 : Int32) (H : Heap) (locs : List Loc) (ls : Array Slot), gG E A s.heap (rM E am mm ++ []) H locs → lv_has ls 4 [(0, .ref (am 0)), (1, .int x1), (3, .int x3)] → fX12_warmth_L48 N x1 mm k15 x3 s0 s1 = some res → W p l e (rmD 2 0 0) s m args below meth c H locs 0 0 Q (F0 m 48 ls [.int s1, .int s0]) := by
    intro k15 hk15 x3 s0 s1 H locs ls hG hl h
    rw [fX12_warmth_L48] at h
    refine lv_iadd hx hb dX12_warmth_48 ?_
    obtain ⟨x2_1, ex2_1, h⟩ := thn_some h
    refine g_int ex2_1 ?_
    refine lv_istore_n (lv' := [(2, .int x2_1), (0, .ref (am 0)), (1, .int x1), (3, .int x3)]) hx hb dX12_warmth_49 rfl hl (by decide) rfl (fun ls hl => ?_)
    refine lv_iinc (v := (x3 + 1)) (lv' := [(3, .int (x3 + 1)), (2, .int x2_1), (0, .ref (am 0)), (1, .int x1)]) hx hb dX12_warmth_50 hl (k := 3) rfl (congrArg (x3 + ·) (by decide : Int32.ofInt 1 = 1)) (by decide) rfl (fun ls hl => ?_)
    refine lv_goto (tgt := 15) hx hb dX12_warmth_53 (by decide) ?_
    exact hk15 x2_1 (x3 + 1) _ _ _ hG (lv_sub hl [2, 3, 1, 0] rfl) h
  have K15 : ∀ (k : Nat), ∀  (x2 : Int32) (x3 : Int32) (H : Heap) (locs : List Loc) (ls : Array Slot), gG E A s.heap (rM E am mm ++ []) H locs → lv_has ls 4 [(0, .ref (am 0)), (1, .int x1), (2, .int x2), (3, .int x3)] → fX12_warmth_L15 N x1 mm k x2 x3 = some res → W p l e (rmD 2 0 0) s m args below meth c H locs 0 0 Q (F0 m 15 ls []) := by
    intro k
    induction k with
    | zero => intro x2 x3 H locs ls hG hl h; exact absurd (show none = _ from h) (by simp)
    | succ k ih =>
      intro x2 x3 H locs ls hG hl h
      rw [fX12_warmth_L15] at h
      refine lv_iload_n hx hb dX12_warmth_15 rfl (lv_at hl 3 rfl) ?_
      refine lv_bipush (v := 10) hx hb dX12_warmth_16 (by decide) ?_
      refine lv_icmp_ge (tgt := 56) hx hb dX12_warmth_18 (by decide) (fun c18 => ?_) (fun c18 => ?_)
      · replace h := it c18 h
        refine lv_iload_n hx hb dX12_warmth_56 rfl (lv_at hl 2 rfl) ?_
        exact hret _ _ _ _ _ h rfl hG dX12_warmth_57
      · replace h := ie c18 h
        refine lv_iload_n hx hb dX12_warmth_21 rfl (lv_at hl 2 rfl) ?_
        refine lv_aload_n hx hb dX12_warmth_22 rfl (lv_at hl 0 rfl) ?_
        refine gL_f (v := .ref (am 1)) C hG kX12 0 0 rfl (by decide) rfl q1352 rfl dX12_warmth_23 ?_
        refine lv_bipush (v := 109) hx hb dX12_warmth_26 (by decide) ?_
        refine lv_iload_n hx hb dX12_warmth_28 rfl (lv_at hl 3 rfl) ?_
        refine lv_iadd hx hb dX12_warmth_29 ?_
        obtain ⟨b1, h⟩ := ck_some h
        refine gL_i (v := (mm 1 (109 + x3).toNatClampNeg)) C hG 1 rfl (inb_in b1) rfl dX12_warmth_30 ?_
        refine lv_iload_n hx hb dX12_warmth_31 rfl (lv_at hl 1 rfl) ?_
        refine lv_icmp_ne (tgt := 47) hx hb dX12_warmth_32 (by decide) (fun c32 => ?_) (fun c32 => ?_)
        · replace h := ie c32 h
          refine lv_iconst (v := 0) hx hb dX12_warmth_47 (by decide) ?_
          exact K48 _ ih x3 x2 0 _ _ _ hG (lv_sub hl [0, 1, 3] rfl) h
        · replace h := it c32 h
          refine lv_aload_n hx hb dX12_warmth_35 rfl (lv_at hl 0 rfl) ?_
          refine gL_f (v := .ref (am 1)) C hG kX12 0 0 rfl (by decide) rfl q1352 rfl dX12_warmth_36 ?_
          refine lv_bipush (v := 19) hx hb dX12_warmth_39 (by decide) ?_
          refine lv_iload_n hx hb dX12_warmth_41 rfl (lv_at hl 3 rfl) ?_
          refine lv_iadd hx hb dX12_warmth_42 ?_
          obtain ⟨b2, h⟩ := ck_some h
          refine gL_i (v := (mm 1 (19 + x3).toNatClampNeg)) C hG 1 rfl (inb_in b2) rfl dX12_warmth_43 ?_
          refine lv_goto (tgt := 48) hx hb dX12_warmth_44 (by decide) ?_
          exact K48 _ ih x3 x2 (mm 1 (19 + x3).toNatClampNeg) _ _ _ hG (lv_sub hl [0, 1, 3] rfl) h
  rw [fX12_warmth] at h
  refine lv_iload_n hx hb dX12_warmth_0 rfl (lv_at hl 1 rfl) ?_
  refine lv_iconst (v := 0) hx hb dX12_warmth_1 (by decide) ?_
  refine lv_iconst (v := 1) hx hb dX12_warmth_2 (by decide) ?_
  refine gF_i (ws' := (rM E am mm ++ [])) C hG pst pst.symm (gR_S (As := [.int x1, .int 0, .int 1]) (rest := []) C hz hl.1 hG pst (c_X12_isIn l E x1 0 1 rfl H.size) okX12_isIn q1446 rfl (Nat.le_of_ble_eq_true rfl) (by omega) ⟨Nat.le_refl _, Nat.le_refl _⟩ dX12_warmth_3) (fun H locs z1 hG => ?_)
  refine lv_if_ne (tgt := 11) hx hb dX12_warmth_6 (by decide) (fun c6 => ?_) (fun c6 => ?_)
  · replace h := ie c6 h
    refine lv_iconst (v := 0) hx hb dX12_warmth_11 (by decide) ?_
    refine lv_istore_n (lv' := [(2, .int 0), (0, .ref (am 0)), (1, .int x1)]) hx hb dX12_warmth_12 rfl hl (by decide) rfl (fun ls hl => ?_)
    refine lv_iconst (v := 0) hx hb dX12_warmth_13 (by decide) ?_
    refine lv_istore_n (lv' := [(3, .int 0), (2, .int 0), (0, .ref (am 0)), (1, .int x1)]) hx hb dX12_warmth_14 rfl hl (by decide) rfl (fun ls hl => ?_)
    exact K15 N 0 0 _ _ _ hG (lv_sub hl [2, 3, 1, 0] rfl) h
  · replace h := it c6 h
    refine lv_iconst (v := (-1)) hx hb dX12_warmth_9 (by decide) ?_
    exact hret _ _ _ _ _ h rfl hG dX12_warmth_10
set_option maxHeartbeats 4000000 in
set_option maxRecDepth 100000 in
theorem c_X12_cools (l : Launch) (E : GE) (am : Nat → Nat) (N : Nat) (x1 : Int32) (mm : RS) {res : Int32} (h : fX12_cools N x1 mm = some res) : gMi l E yX12_cools cX12_cools 4 .int 3 0 0 [.ref (am 0), .int x1] (rM E am mm ++ []) (rM E am mm ++ []) res := by
  refine gMi_of (own := RX12) (by decide +kernel) rfl (Nat.le_of_ble_eq_true rfl) ?_
  intro p e s m args below meth c A ls Q H locs C hz hl hG hret
  have hx := C.1.1
  have hb := C.1.2.1
  have hts := C.1.2.2.2.2
  have hown := C.1.2.2.2.1
  have hl : lv_has ls 4 [(0, .ref (am 0)), (1, .int x1)] := hl
  replace hret : ∀ (r0 : Int32) (H : Heap) (locs : List Loc) (pc : Nat) (ls' : Array Slot), some r0 = some res → narrow .int (.int r0) = .int r0 → gG E A s.heap (rM E am mm ++ []) H locs → decode cX12_cools pc = .ok (.ireturn, 1) → W p l e (rmD 3 0 0) s m args below meth c H locs 0 0 Q (F0 m pc ls' [.int r0]) := by
    intro r0 H locs pc ls' e0 hn; cases e0; exact hret H locs pc ls' hn
  have K21 : ∀ (k : Nat), ∀  (x2 : Int32) (x3 : Int32) (H : Heap) (locs : List Loc) (ls : Array Slot), gG E A s.heap (rM E am mm ++ []) H locs → lv_has ls 4 [(2, .int x2), (3, .int x3)] → fX12_cools_L21 N x1 mm k x2 x3 = some res → W p l e (rmD 3 0 0) s m args below meth c H locs 0 0 Q (F0 m 21 ls []) := by
    intro k
    induction k with
    | zero => intro x2 x3 H locs ls hG hl h; exact absurd (show none = _ from h) (by simp)
    | succ k ih =>
      intro x2 x3 H locs ls hG hl h
      rw [fX12_cools_L21] at h
      refine lv_iload_n hx hb dX12_cools_21 rfl (lv_at hl 1 rfl) ?_
      refine lv_if_le (tgt := 35) hx hb dX12_cools_22 (by decide) (fun c22 => ?_) (fun c22 => ?_)
      · replace h := it c22 h
        refine lv_iload_n hx hb dX12_cools_35 rfl (lv_at hl 0 rfl) ?_
        exact hret _ _ _ _ _ h rfl hG dX12_cools_36
      · replace h := ie c22 h
        refine lv_iinc (v := (x2 + 1)) (lv' := [(2, .int (x2 + 1)), (3, .int x3)]) hx hb dX12_cools_25 hl (k := 0) rfl (congrArg (x2 + ·) (by decide : Int32.ofInt 1 = 1)) (by decide) rfl (fun ls hl => ?_)
        refine lv_iload_n hx hb dX12_cools_28 rfl (lv_at hl 1 rfl) ?_
        refine lv_iconst (v := 2) hx hb dX12_cools_29 (by decide) ?_
        refine lv_idiv hx hb dX12_cools_30 (by decide) ?_
        obtain ⟨x3_1, ex3_1, h⟩ := thn_some h
        refine g_int ex3_1 ?_
        refine lv_istore_n (lv' := [(3, .int x3_1), (2, .int (x2 + 1))]) hx hb dX12_cools_31 rfl hl (by decide) rfl (fun ls hl => ?_)
        refine lv_goto (tgt := 21) hx hb dX12_cools_32 (by decide) ?_
        exact ih (x2 + 1) x3_1 _ _ _ hG (lv_sub hl [1, 0] rfl) h
  rw [fX12_cools] at h
  refine lv_iload_n hx hb dX12_cools_0 rfl (lv_at hl 1 rfl) ?_
  refine gF_i (ws' := (rM E am mm ++ [])) C hG pst pst.symm (gR_S (As := [.int x1]) (rest := []) C hz hl.1 hG pst (c_X12_isExtent l E x1 rfl H.size) okX12_isExtent q1533 rfl (Nat.le_of_ble_eq_true rfl) (by omega) ⟨Nat.le_refl _, Nat.le_refl _⟩ dX12_cools_1) (fun H locs z1 hG => ?_)
  refine lv_if_ne (tgt := 9) hx hb dX12_cools_4 (by decide) (fun c4 => ?_) (fun c4 => ?_)
  · replace h := ie c4 h
    refine lv_iconst (v := 0) hx hb dX12_cools_9 (by decide) ?_
    refine lv_istore_n (lv' := [(2, .int 0), (0, .ref (am 0)), (1, .int x1)]) hx hb dX12_cools_10 rfl hl (by decide) rfl (fun ls hl => ?_)
    refine lv_aload_n hx hb dX12_cools_11 rfl (lv_at hl 1 rfl) ?_
    refine gL_f (v := .ref (am 1)) C hG kX12 0 0 rfl (by decide) rfl q1352 rfl dX12_cools_12 ?_
    refine lv_bipush (v := 19) hx hb dX12_cools_15 (by decide) ?_
    refine lv_iload_n hx hb dX12_cools_17 rfl (lv_at hl 2 rfl) ?_
    refine lv_iadd hx hb dX12_cools_18 ?_
    obtain ⟨b2, h⟩ := ck_some h
    refine gL_i (v := (mm 1 (19 + x1).toNatClampNeg)) C hG 1 rfl (inb_in b2) rfl dX12_cools_19 ?_
    obtain ⟨x3_3, ex3_3, h⟩ := thn_some h
    refine g_int ex3_3 ?_
    refine lv_istore_n (lv' := [(3, .int x3_3), (2, .int 0), (0, .ref (am 0)), (1, .int x1)]) hx hb dX12_cools_20 rfl hl (by decide) rfl (fun ls hl => ?_)
    exact K21 N 0 x3_3 _ _ _ hG (lv_sub hl [1, 0] rfl) h
  · replace h := it c4 h
    refine lv_iconst (v := (-1)) hx hb dX12_cools_7 (by decide) ?_
    exact hret _ _ _ _ _ h rfl hG dX12_cools_8
set_option maxHeartbeats 4000000 in
set_option maxRecDepth 100000 in
theorem c_X12_share (l : Launch) (E : GE) (am : Nat → Nat) (N : Nat) (mm : RS) {res : Int32} (h : fX12_share N mm = some res) : gMi l E yX12_share cX12_share 1 .int 3 0 0 [.ref (am 0)] (rM E am mm ++ []) (rM E am mm ++ []) res := by
  refine gMi_of (own := RX12) (by decide +kernel) rfl (Nat.le_of_ble_eq_true rfl) ?_
  intro p e s m args below meth c A ls Q H locs C hz hl hG hret
  have hx := C.1.1
  have hb := C.1.2.1
  have hts := C.1.2.2.2.2
  have hown := C.1.2.2.2.1
  have hl : lv_has ls 1 [(0, .ref (am 0))] := hl
  replace hret : ∀ (r0 : Int32) (H : Heap) (locs : List Loc) (pc : Nat) (ls' : Array Slot), some r0 = some res → narrow .int (.int r0) = .int r0 → gG E A s.heap (rM E am mm ++ []) H locs → decode cX12_share pc = .ok (.ireturn, 1) → W p l e (rmD 3 0 0) s m args below meth c H locs 0 0 Q (F0 m pc ls' [.int r0]) := by
    intro r0 H locs pc ls' e0 hn; cases e0; exact hret H locs pc ls' hn
  rw [fX12_share] at h
  refine lv_aload_n hx hb dX12_share_0 rfl (lv_at hl 0 rfl) ?_
  refine gL_f (v := .ref (am 1)) C hG kX12 0 0 rfl (by decide) rfl q1352 rfl dX12_share_1 ?_
  refine lv_bipush (v := 10) hx hb dX12_share_4 (by decide) ?_
  refine gL_i (v := (mm 1 10)) C hG 1 rfl (vp_in_nI (n := 10) (by decide) (by decide)) (congrArg (mm 1) (nI_clamp (n := 10) (by decide))) dX12_share_6 ?_
  refine lv_if_ne (tgt := 14) hx hb dX12_share_7 (by decide) (fun c7 => ?_) (fun c7 => ?_)
  · replace h := ie c7 h
    refine lv_aload_n hx hb dX12_share_14 rfl (lv_at hl 0 rfl) ?_
    refine gL_f (v := .ref (am 1)) C hG kX12 0 0 rfl (by decide) rfl q1352 rfl dX12_share_15 ?_
    refine lv_bipush (v := 11) hx hb dX12_share_18 (by decide) ?_
    refine gL_i (v := (mm 1 11)) C hG 1 rfl (vp_in_nI (n := 11) (by decide) (by decide)) (congrArg (mm 1) (nI_clamp (n := 11) (by decide))) dX12_share_20 ?_
    refine lv_i2f hx hb dX12_share_21 ?_
    refine lv_aload_n hx hb dX12_share_22 rfl (lv_at hl 0 rfl) ?_
    refine gL_f (v := .ref (am 1)) C hG kX12 0 0 rfl (by decide) rfl q1352 rfl dX12_share_23 ?_
    refine lv_bipush (v := 10) hx hb dX12_share_26 (by decide) ?_
    refine gL_i (v := (mm 1 10)) C hG 1 rfl (vp_in_nI (n := 10) (by decide) (by decide)) (congrArg (mm 1) (nI_clamp (n := 10) (by decide))) dX12_share_28 ?_
    refine lv_i2f hx hb dX12_share_29 ?_
    obtain ⟨b1, h⟩ := ck_some h
    refine lv_fdiv hx hb dX12_share_30 (n32_n b1) ?_
    refine gF_i (ws' := (rM E am mm ++ [])) C hG pst pst.symm (gR_S (As := [.float (FP.fdiv (FP.i2f (mm 1 11)) (FP.i2f (mm 1 10)))]) (rest := []) C hz hl.1 hG pst (c_Jxf58ca_floatToIntBits_5c35a l E (FP.fdiv (FP.i2f (mm 1 11)) (FP.i2f (mm 1 10))) rfl H.size) okJxf58ca_floatToIntBits_5c35a q1956 rfl (Nat.le_of_ble_eq_true rfl) (by omega) ⟨Nat.le_refl _, Nat.le_refl _⟩ dX12_share_31) (fun H locs _ hG => ?_)
    exact hret _ _ _ _ _ h rfl hG dX12_share_34
  · replace h := it c7 h
    refine lv_iconst (v := 0) hx hb dX12_share_10 (by decide) ?_
    refine lv_goto (tgt := 34) hx hb dX12_share_11 (by decide) ?_
    exact hret _ _ _ _ _ h rfl hG dX12_share_34
set_option maxHeartbeats 4000000 in
set_option maxRecDepth 100000 in
theorem c_X12_mean (l : Launch) (E : GE) (am : Nat → Nat) (N : Nat) (mm : RS) {res : Int64} (h : fX12_mean N mm = some res) : gMl l E yX12_mean cX12_mean 1 3 0 0 [.ref (am 0)] (rM E am mm ++ []) (rM E am mm ++ []) res := by
  refine gMl_of (own := RX12) (by decide +kernel) rfl (Nat.le_of_ble_eq_true rfl) ?_
  intro p e s m args below meth c A ls Q H locs C hz hl hG hret
  have hx := C.1.1
  have hb := C.1.2.1
  have hts := C.1.2.2.2.2
  have hown := C.1.2.2.2.1
  have hl : lv_has ls 1 [(0, .ref (am 0))] := hl
  replace hret : ∀ (r0 : Int64) (H : Heap) (locs : List Loc) (pc : Nat) (ls' : Array Slot), some r0 = some res → gG E A s.heap (rM E am mm ++ []) H locs → decode cX12_mean pc = .ok (.lreturn, 1) → W p l e (rmD 3 0 0) s m args below meth c H locs 0 0 Q (F0 m pc ls' [.long r0]) := by
    intro r0 H locs pc ls' e0; cases e0; exact hret H locs pc ls'
  rw [fX12_mean] at h
  refine lv_aload_n hx hb dX12_mean_0 rfl (lv_at hl 0 rfl) ?_
  refine gL_f (v := .ref (am 1)) C hG kX12 0 0 rfl (by decide) rfl q1352 rfl dX12_mean_1 ?_
  refine lv_bipush (v := 10) hx hb dX12_mean_4 (by decide) ?_
  refine gL_i (v := (mm 1 10)) C hG 1 rfl (vp_in_nI (n := 10) (by decide) (by decide)) (congrArg (mm 1) (nI_clamp (n := 10) (by decide))) dX12_mean_6 ?_
  refine lv_if_ne (tgt := 14) hx hb dX12_mean_7 (by decide) (fun c7 => ?_) (fun c7 => ?_)
  · replace h := ie c7 h
    refine lv_aload_n hx hb dX12_mean_14 rfl (lv_at hl 0 rfl) ?_
    refine gL_f (v := .ref (am 1)) C hG kX12 0 0 rfl (by decide) rfl q1352 rfl dX12_mean_15 ?_
    refine lv_bipush (v := 6) hx hb dX12_mean_18 (by decide) ?_
    refine gL_i (v := (mm 1 6)) C hG 1 rfl (vp_in_nI (n := 6) (by decide) (by decide)) (congrArg (mm 1) (nI_clamp (n := 6) (by decide))) dX12_mean_20 ?_
    refine lv_i2d hx hb dX12_mean_21 ?_
    refine lv_aload_n hx hb dX12_mean_22 rfl (lv_at hl 0 rfl) ?_
    refine gL_f (v := .ref (am 1)) C hG kX12 0 0 rfl (by decide) rfl q1352 rfl dX12_mean_23 ?_
    refine lv_bipush (v := 10) hx hb dX12_mean_26 (by decide) ?_
    refine gL_i (v := (mm 1 10)) C hG 1 rfl (vp_in_nI (n := 10) (by decide) (by decide)) (congrArg (mm 1) (nI_clamp (n := 10) (by decide))) dX12_mean_28 ?_
    refine lv_i2d hx hb dX12_mean_29 ?_
    obtain ⟨b1, h⟩ := ck_some h
    refine lv_ddiv hx hb dX12_mean_30 (n64_n b1) ?_
    refine gF_l (ws' := (rM E am mm ++ [])) C hG pst pst.symm (gR_S (As := [.double (FP.ddiv (FP.i2d (mm 1 6)) (FP.i2d (mm 1 10)))]) (rest := []) C hz hl.1 hG pst (c_Jxe99ae_doubleToLongBits_ccdee l E (FP.ddiv (FP.i2d (mm 1 6)) (FP.i2d (mm 1 10))) rfl H.size) okJxe99ae_doubleToLongBits_ccdee q1970 rfl (Nat.le_of_ble_eq_true rfl) (by omega) ⟨Nat.le_refl _, Nat.le_refl _⟩ dX12_mean_31) (fun H locs hG => ?_)
    exact hret _ _ _ _ _ h hG dX12_mean_34
  · replace h := it c7 h
    refine lv_lconst (v := 0) hx hb dX12_mean_10 (by decide) ?_
    refine lv_goto (tgt := 34) hx hb dX12_mean_11 (by decide) ?_
    exact hret _ _ _ _ _ h hG dX12_mean_34
set_option maxHeartbeats 4000000 in
set_option maxRecDepth 100000 in
theorem c_X12_book (l : Launch) (E : GE) (am : Nat → Nat) (N : Nat) (x1 : Int32) (x2 : Int32) (mm : RS) {res : Int32} (h : fX12_book N x1 x2 mm = some res) : gMi l E yX12_book cX12_book 3 .int 2 0 0 [.ref (am 0), .int x1, .int x2] (rM E am mm ++ []) (rM E am mm ++ []) res := by
  refine gMi_of (own := RX12) (by decide +kernel) rfl (Nat.le_of_ble_eq_true rfl) ?_
  intro p e s m args below meth c A ls Q H locs C hz hl hG hret
  have hx := C.1.1
  have hb := C.1.2.1
  have hts := C.1.2.2.2.2
  have hown := C.1.2.2.2.1
  have hl : lv_has ls 3 [(0, .ref (am 0)), (1, .int x1), (2, .int x2)] := hl
  replace hret : ∀ (r0 : Int32) (H : Heap) (locs : List Loc) (pc : Nat) (ls' : Array Slot), some r0 = some res → narrow .int (.int r0) = .int r0 → gG E A s.heap (rM E am mm ++ []) H locs → decode cX12_book pc = .ok (.ireturn, 1) → W p l e (rmD 2 0 0) s m args below meth c H locs 0 0 Q (F0 m pc ls' [.int r0]) := by
    intro r0 H locs pc ls' e0 hn; cases e0; exact hret H locs pc ls' hn
  rw [fX12_book] at h
  refine lv_iload_n hx hb dX12_book_0 rfl (lv_at hl 1 rfl) ?_
  refine lv_iconst (v := (-1)) hx hb dX12_book_1 (by decide) ?_
  refine lv_icmp_ne (tgt := 13) hx hb dX12_book_2 (by decide) (fun c2 => ?_) (fun c2 => ?_)
  · replace h := ie c2 h
    refine lv_iload_n hx hb dX12_book_13 rfl (lv_at hl 1 rfl) ?_
    refine lv_iconst (v := 0) hx hb dX12_book_14 (by decide) ?_
    refine lv_aload_n hx hb dX12_book_15 rfl (lv_at hl 0 rfl) ?_
    refine gL_f (v := .ref (am 1)) C hG kX12 0 0 rfl (by decide) rfl q1352 rfl dX12_book_16 ?_
    refine lv_bipush (v := 18) hx hb dX12_book_19 (by decide) ?_
    refine gL_i (v := (mm 1 18)) C hG 1 rfl (vp_in_nI (n := 18) (by decide) (by decide)) (congrArg (mm 1) (nI_clamp (n := 18) (by decide))) dX12_book_21 ?_
    refine lv_iconst (v := 1) hx hb dX12_book_22 (by decide) ?_
    refine lv_isub hx hb dX12_book_23 ?_
    refine gF_i (ws' := (rM E am mm ++ [])) C hG pst pst.symm (gR_S (As := [.int x1, .int 0, .int ((mm 1 18) - 1)]) (rest := []) C hz hl.1 hG pst (c_X12_isIn l E x1 0 ((mm 1 18) - 1) rfl H.size) okX12_isIn q1446 rfl (Nat.le_of_ble_eq_true rfl) (by omega) ⟨Nat.le_refl _, Nat.le_refl _⟩ dX12_book_24) (fun H locs z1 hG => ?_)
    refine lv_if_eq (tgt := 56) hx hb dX12_book_27 (by decide) (fun c27 => ?_) (fun c27 => ?_)
    · replace h := it c27 h
      refine lv_bipush (v := (-2)) hx hb dX12_book_56 (by decide) ?_
      exact hret _ _ _ _ _ h rfl hG dX12_book_58
    · replace h := ie c27 h
      refine lv_iload_n hx hb dX12_book_30 rfl (lv_at hl 2 rfl) ?_
      refine lv_iconst (v := 0) hx hb dX12_book_31 (by decide) ?_
      refine lv_iconst (v := 3) hx hb dX12_book_32 (by decide) ?_
      refine gF_i (ws' := (rM E am mm ++ [])) C hG pst pst.symm (gR_S (As := [.int x2, .int 0, .int 3]) (rest := []) C hz hl.1 hG pst (c_X12_isIn l E x2 0 3 rfl H.size) okX12_isIn q1446 rfl (Nat.le_of_ble_eq_true rfl) (by omega) ⟨Nat.le_refl _, Nat.le_refl _⟩ dX12_book_33) (fun H locs z2 hG => ?_)
      refine lv_if_eq (tgt := 56) hx hb dX12_book_36 (by decide) (fun c36 => ?_) (fun c36 => ?_)
      · replace h := it c36 h
        refine lv_bipush (v := (-2)) hx hb dX12_book_56 (by decide) ?_
        exact hret _ _ _ _ _ h rfl hG dX12_book_58
      · replace h := ie c36 h
        refine lv_aload_n hx hb dX12_book_39 rfl (lv_at hl 0 rfl) ?_
        refine gL_f (v := .ref (am 1)) C hG kX12 0 0 rfl (by decide) rfl q1352 rfl dX12_book_40 ?_
        refine lv_sipush (v := 240) hx hb dX12_book_43 (by decide) ?_
        refine lv_iconst (v := 4) hx hb dX12_book_46 (by decide) ?_
        refine lv_iload_n hx hb dX12_book_47 rfl (lv_at hl 1 rfl) ?_
        refine lv_imul hx hb dX12_book_48 ?_
        refine lv_iadd hx hb dX12_book_49 ?_
        refine lv_iload_n hx hb dX12_book_50 rfl (lv_at hl 2 rfl) ?_
        refine lv_iadd hx hb dX12_book_51 ?_
        obtain ⟨b3, h⟩ := ck_some h
        refine gL_i (v := (mm 1 ((240 + (4 * x1)) + x2).toNatClampNeg)) C hG 1 rfl (inb_in b3) rfl dX12_book_52 ?_
        refine lv_goto (tgt := 58) hx hb dX12_book_53 (by decide) ?_
        exact hret _ _ _ _ _ h rfl hG dX12_book_58
  · replace h := it c2 h
    refine lv_aload_n hx hb dX12_book_5 rfl (lv_at hl 0 rfl) ?_
    refine gL_f (v := .ref (am 1)) C hG kX12 0 0 rfl (by decide) rfl q1352 rfl dX12_book_6 ?_
    refine lv_bipush (v := 18) hx hb dX12_book_9 (by decide) ?_
    refine gL_i (v := (mm 1 18)) C hG 1 rfl (vp_in_nI (n := 18) (by decide) (by decide)) (congrArg (mm 1) (nI_clamp (n := 18) (by decide))) dX12_book_11 ?_
    exact hret _ _ _ _ _ h rfl hG dX12_book_12
set_option maxHeartbeats 4000000 in
set_option maxRecDepth 100000 in
theorem c_X12_ledger (l : Launch) (E : GE) (am : Nat → Nat) (N : Nat) (x1 : Int32) (mm : RS) {res : Int32} (h : fX12_ledger N x1 mm = some res) : gMi l E yX12_ledger cX12_ledger 4 .int 2 0 0 [.ref (am 0), .int x1] (rM E am mm ++ []) (rM E am mm ++ []) res := by
  refine gMi_of (own := RX12) (by decide +kernel) rfl (Nat.le_of_ble_eq_true rfl) ?_
  intro p e s m args below meth c A ls Q H locs C hz hl hG hret
  have hx := C.1.1
  have hb := C.1.2.1
  have hts := C.1.2.2.2.2
  have hown := C.1.2.2.2.1
  have hl : lv_has ls 4 [(0, .ref (am 0)), (1, .int x1)] := hl
  replace hret : ∀ (r0 : Int32) (H : Heap) (locs : List Loc) (pc : Nat) (ls' : Array Slot), some r0 = some res → narrow .int (.int r0) = .int r0 → gG E A s.heap (rM E am mm ++ []) H locs → decode cX12_ledger pc = .ok (.ireturn, 1) → W p l e (rmD 2 0 0) s m args below meth c H locs 0 0 Q (F0 m pc ls' [.int r0]) := by
    intro r0 H locs pc ls' e0 hn; cases e0; exact hret H locs pc ls' hn
  have K50 : ∀ (k15 : (Int32 → Int32 → Option (Int32))) (hk15 : ∀  (x2 : Int32) (x3 : Int32) (H : Heap) (locs : List Loc) (ls : Array Slot), gG E A s.heap (rM E am mm ++ []) H locs → lv_has ls 4 [(0, .ref (am 0)), (1, .int x1), (2, .int x2), (3, .int x3)] → k15 x2 x3 = some res → W p l e (rmD 2 0 0) s m args below meth c H locs 0 0 Q (F0 m 15 ls [])), ∀  (x3 : Int32) (s0 : Int32) (s1 : Int32) (H : Heap) (locs : List Loc) (ls : Array Slot), gG E A s.heap (rM E am mm ++ []) H locs → lv_has ls 4 [(0, .ref (am 0)), (1, .int x1), (3, .int x3)] → fX12_ledger_L50 N x1 mm k15 x3 s0 s1 = some res → W p l e (rmD 2 0 0) s m args below meth c H locs 0 0 Q (F0 m 50 ls [.int s1, .int s0]) := by
    intro k15 hk15 x3 s0 s1 H locs ls hG hl h
    rw [fX12_ledger_L50] at h
    refine lv_iadd hx hb dX12_ledger_50 ?_
    obtain ⟨x2_1, ex2_1, h⟩ := thn_some h
    refine g_int ex2_1 ?_
    refine lv_istore_n (lv' := [(2, .int x2_1), (0, .ref (am 0)), (1, .int x1), (3, .int x3)]) hx hb dX12_ledger_51 rfl hl (by decide) rfl (fun ls hl => ?_)
    refine lv_iinc (v := (x3 + 1)) (lv' := [(3, .int (x3 + 1)), (2, .int x2_1), (0, .ref (am 0)), (1, .int x1)]) hx hb dX12_ledger_52 hl (k := 3) rfl (congrArg (x3 + ·) (by decide : Int32.ofInt 1 = 1)) (by decide) rfl (fun ls hl => ?_)
    refine lv_goto (tgt := 15) hx hb dX12_ledger_55 (by decide) ?_
    exact hk15 x2_1 (x3 + 1) _ _ _ hG (lv_sub hl [2, 3, 1, 0] rfl) h
  have K15 : ∀ (k : Nat), ∀  (x2 : Int32) (x3 : Int32) (H : Heap) (locs : List Loc) (ls : Array Slot), gG E A s.heap (rM E am mm ++ []) H locs → lv_has ls 4 [(0, .ref (am 0)), (1, .int x1), (2, .int x2), (3, .int x3)] → fX12_ledger_L15 N x1 mm k x2 x3 = some res → W p l e (rmD 2 0 0) s m args below meth c H locs 0 0 Q (F0 m 15 ls []) := by
    intro k
    induction k with
    | zero => intro x2 x3 H locs ls hG hl h; exact absurd (show none = _ from h) (by simp)
    | succ k ih =>
      intro x2 x3 H locs ls hG hl h
      rw [fX12_ledger_L15] at h
      refine lv_iload_n hx hb dX12_ledger_15 rfl (lv_at hl 3 rfl) ?_
      refine lv_aload_n hx hb dX12_ledger_16 rfl (lv_at hl 0 rfl) ?_
      refine gL_f (v := .ref (am 1)) C hG kX12 0 0 rfl (by decide) rfl q1352 rfl dX12_ledger_17 ?_
      refine lv_bipush (v := 18) hx hb dX12_ledger_20 (by decide) ?_
      refine gL_i (v := (mm 1 18)) C hG 1 rfl (vp_in_nI (n := 18) (by decide) (by decide)) (congrArg (mm 1) (nI_clamp (n := 18) (by decide))) dX12_ledger_22 ?_
      refine lv_icmp_ge (tgt := 58) hx hb dX12_ledger_23 (by decide) (fun c23 => ?_) (fun c23 => ?_)
      · replace h := it c23 h
        refine lv_iload_n hx hb dX12_ledger_58 rfl (lv_at hl 2 rfl) ?_
        exact hret _ _ _ _ _ h rfl hG dX12_ledger_59
      · replace h := ie c23 h
        refine lv_iload_n hx hb dX12_ledger_26 rfl (lv_at hl 2 rfl) ?_
        refine lv_aload_n hx hb dX12_ledger_27 rfl (lv_at hl 0 rfl) ?_
        refine gL_f (v := .ref (am 1)) C hG kX12 0 0 rfl (by decide) rfl q1352 rfl dX12_ledger_28 ?_
        refine lv_sipush (v := 240) hx hb dX12_ledger_31 (by decide) ?_
        refine lv_iconst (v := 4) hx hb dX12_ledger_34 (by decide) ?_
        refine lv_iload_n hx hb dX12_ledger_35 rfl (lv_at hl 3 rfl) ?_
        refine lv_imul hx hb dX12_ledger_36 ?_
        refine lv_iadd hx hb dX12_ledger_37 ?_
        refine lv_iconst (v := 1) hx hb dX12_ledger_38 (by decide) ?_
        refine lv_iadd hx hb dX12_ledger_39 ?_
        obtain ⟨b1, h⟩ := ck_some h
        refine gL_i (v := (mm 1 ((240 + (4 * x3)) + 1).toNatClampNeg)) C hG 1 rfl (inb_in b1) rfl dX12_ledger_40 ?_
        refine lv_iload_n hx hb dX12_ledger_41 rfl (lv_at hl 1 rfl) ?_
        refine lv_icmp_ne (tgt := 49) hx hb dX12_ledger_42 (by decide) (fun c42 => ?_) (fun c42 => ?_)
        · replace h := ie c42 h
          refine lv_iconst (v := 0) hx hb dX12_ledger_49 (by decide) ?_
          exact K50 _ ih x3 x2 0 _ _ _ hG (lv_sub hl [0, 1, 3] rfl) h
        · replace h := it c42 h
          refine lv_iconst (v := 1) hx hb dX12_ledger_45 (by decide) ?_
          refine lv_goto (tgt := 50) hx hb dX12_ledger_46 (by decide) ?_
          exact K50 _ ih x3 x2 1 _ _ _ hG (lv_sub hl [0, 1, 3] rfl) h
  rw [fX12_ledger] at h
  refine lv_iload_n hx hb dX12_ledger_0 rfl (lv_at hl 1 rfl) ?_
  refine lv_iconst (v := 0) hx hb dX12_ledger_1 (by decide) ?_
  refine lv_iconst (v := 5) hx hb dX12_ledger_2 (by decide) ?_
  refine gF_i (ws' := (rM E am mm ++ [])) C hG pst pst.symm (gR_S (As := [.int x1, .int 0, .int 5]) (rest := []) C hz hl.1 hG pst (c_X12_isIn l E x1 0 5 rfl H.size) okX12_isIn q1446 rfl (Nat.le_of_ble_eq_true rfl) (by omega) ⟨Nat.le_refl _, Nat.le_refl _⟩ dX12_ledger_3) (fun H locs z1 hG => ?_)
  refine lv_if_ne (tgt := 11) hx hb dX12_ledger_6 (by decide) (fun c6 => ?_) (fun c6 => ?_)
  · replace h := ie c6 h
    refine lv_iconst (v := 0) hx hb dX12_ledger_11 (by decide) ?_
    refine lv_istore_n (lv' := [(2, .int 0), (0, .ref (am 0)), (1, .int x1)]) hx hb dX12_ledger_12 rfl hl (by decide) rfl (fun ls hl => ?_)
    refine lv_iconst (v := 0) hx hb dX12_ledger_13 (by decide) ?_
    refine lv_istore_n (lv' := [(3, .int 0), (2, .int 0), (0, .ref (am 0)), (1, .int x1)]) hx hb dX12_ledger_14 rfl hl (by decide) rfl (fun ls hl => ?_)
    exact K15 N 0 0 _ _ _ hG (lv_sub hl [2, 3, 1, 0] rfl) h
  · replace h := it c6 h
    refine lv_iconst (v := (-1)) hx hb dX12_ledger_9 (by decide) ?_
    exact hret _ _ _ _ _ h rfl hG dX12_ledger_10
set_option maxHeartbeats 4000000 in
set_option maxRecDepth 100000 in
theorem c_X12_image (l : Launch) (E : GE) (am : Nat → Nat) (N : Nat) (mm : RS) {res : Int32 × RS} (h : fX12_image N mm = some res) : gMi l E yX12_image cX12_image 1 .int 2 0 0 [.ref (am 0)] (rM E am mm ++ []) (rM E am res.2 ++ []) res.1 := by
  refine gMi_of (own := RX12) (by decide +kernel) rfl (Nat.le_of_ble_eq_true rfl) ?_
  intro p e s m args below meth c A ls Q H locs C hz hl hG hret
  have hx := C.1.1
  have hb := C.1.2.1
  have hts := C.1.2.2.2.2
  have hown := C.1.2.2.2.1
  have hl : lv_has ls 1 [(0, .ref (am 0))] := hl
  replace hret : ∀ (r0 : Int32) (mm0 : RS) (H : Heap) (locs : List Loc) (pc : Nat) (ls' : Array Slot), some (r0, mm0) = some res → narrow .int (.int r0) = .int r0 → gG E A s.heap (rM E am mm0 ++ []) H locs → decode cX12_image pc = .ok (.ireturn, 1) → W p l e (rmD 2 0 0) s m args below meth c H locs 0 0 Q (F0 m pc ls' [.int r0]) := by
    intro r0 mm0 H locs pc ls' e0 hn; cases e0; exact hret H locs pc ls' hn
  rw [fX12_image] at h
  refine lv_aload_n hx hb dX12_image_0 rfl (lv_at hl 0 rfl) ?_
  refine gL_f (v := .ref (am 1)) C hG kX12 0 0 rfl (by decide) rfl q1352 rfl dX12_image_1 ?_
  refine lv_aload_n hx hb dX12_image_4 rfl (lv_at hl 0 rfl) ?_
  refine gL_f (v := .ref (am 2)) C hG kX12 0 1 rfl (by decide) rfl q1353 rfl dX12_image_5 ?_
  obtain ⟨r1, hcr1, h⟩ := bnd_some h
  refine gF_v (ws' := (rM E am r1 ++ [])) C hG (pin pnil) (List.Perm.symm (pin pnil)) (gR_S (As := [.ref (am 1), .ref (am 2)]) (rest := []) C hz hl.1 hG (pin pnil) (c_X12_copy_12 l E am N mm hcr1 H.size) okX12_copy q1349 rfl (Nat.le_of_ble_eq_true rfl) (by omega) ⟨Nat.le_refl _, Nat.le_refl _⟩ dX12_image_8) (fun H locs hG => ?_)
  refine lv_aload_n hx hb dX12_image_11 rfl (lv_at hl 0 rfl) ?_
  refine gL_f (v := .ref (am 1)) C hG kX12 0 0 rfl (by decide) rfl q1352 rfl dX12_image_12 ?_
  refine lv_iconst (v := 3) hx hb dX12_image_15 (by decide) ?_
  refine gL_i (v := (r1 1 3)) C hG 1 rfl (vp_in_nI (n := 3) (by decide) (by decide)) (congrArg (r1 1) (nI_clamp (n := 3) (by decide))) dX12_image_16 ?_
  exact hret _ _ _ _ _ _ h rfl hG dX12_image_17
set_option maxHeartbeats 4000000 in
set_option maxRecDepth 100000 in
theorem c_X12_back (l : Launch) (E : GE) (am : Nat → Nat) (N : Nat) (mm : RS) {res : Int32 × RS} (h : fX12_back N mm = some res) : gMi l E yX12_back cX12_back 1 .int 2 0 0 [.ref (am 0)] (rM E am mm ++ []) (rM E am res.2 ++ []) res.1 := by
  refine gMi_of (own := RX12) (by decide +kernel) rfl (Nat.le_of_ble_eq_true rfl) ?_
  intro p e s m args below meth c A ls Q H locs C hz hl hG hret
  have hx := C.1.1
  have hb := C.1.2.1
  have hts := C.1.2.2.2.2
  have hown := C.1.2.2.2.1
  have hl : lv_has ls 1 [(0, .ref (am 0))] := hl
  replace hret : ∀ (r0 : Int32) (mm0 : RS) (H : Heap) (locs : List Loc) (pc : Nat) (ls' : Array Slot), some (r0, mm0) = some res → narrow .int (.int r0) = .int r0 → gG E A s.heap (rM E am mm0 ++ []) H locs → decode cX12_back pc = .ok (.ireturn, 1) → W p l e (rmD 2 0 0) s m args below meth c H locs 0 0 Q (F0 m pc ls' [.int r0]) := by
    intro r0 mm0 H locs pc ls' e0 hn; cases e0; exact hret H locs pc ls' hn
  rw [fX12_back] at h
  refine lv_aload_n hx hb dX12_back_0 rfl (lv_at hl 0 rfl) ?_
  refine gL_f (v := .ref (am 2)) C hG kX12 0 1 rfl (by decide) rfl q1353 rfl dX12_back_1 ?_
  refine lv_aload_n hx hb dX12_back_4 rfl (lv_at hl 0 rfl) ?_
  refine gL_f (v := .ref (am 1)) C hG kX12 0 0 rfl (by decide) rfl q1352 rfl dX12_back_5 ?_
  obtain ⟨r1, hcr1, h⟩ := bnd_some h
  refine gF_v (ws' := (rM E am r1 ++ [])) C hG (pin pnil) (List.Perm.symm (pin pnil)) (gR_S (As := [.ref (am 2), .ref (am 1)]) (rest := []) C hz hl.1 hG (pin pnil) (c_X12_copy_21 l E am N mm hcr1 H.size) okX12_copy q1349 rfl (Nat.le_of_ble_eq_true rfl) (by omega) ⟨Nat.le_refl _, Nat.le_refl _⟩ dX12_back_8) (fun H locs hG => ?_)
  refine lv_aload_n hx hb dX12_back_11 rfl (lv_at hl 0 rfl) ?_
  refine gL_f (v := .ref (am 1)) C hG kX12 0 0 rfl (by decide) rfl q1352 rfl dX12_back_12 ?_
  refine lv_iconst (v := 3) hx hb dX12_back_15 (by decide) ?_
  refine gL_i (v := (r1 1 3)) C hG 1 rfl (vp_in_nI (n := 3) (by decide) (by decide)) (congrArg (r1 1) (nI_clamp (n := 3) (by decide))) dX12_back_16 ?_
  exact hret _ _ _ _ _ _ h rfl hG dX12_back_17
set_option maxHeartbeats 4000000 in
set_option maxRecDepth 100000 in
theorem c_X12_about (l : Launch) (E : GE) (am : Nat → Nat) (x1 : Int32) (mm : RS) {res : Int32} (h : fX12_about x1 mm = res) : gMi l E yX12_about cX12_about 2 .int 1 0 0 [.ref (am 0), .int x1] (rM E am mm ++ []) (rM E am mm ++ []) res := by
  refine gMi_of (own := RX12) (by decide +kernel) rfl (Nat.le_of_ble_eq_true rfl) ?_
  intro p e s m args below meth c A ls Q H locs C hz hl hG hret
  have hx := C.1.1
  have hb := C.1.2.1
  have hts := C.1.2.2.2.2
  have hown := C.1.2.2.2.1
  have hl : lv_has ls 2 [(0, .ref (am 0)), (1, .int x1)] := hl
  replace hret : ∀ (r0 : Int32) (H : Heap) (locs : List Loc) (pc : Nat) (ls' : Array Slot), r0 = res → narrow .int (.int r0) = .int r0 → gG E A s.heap (rM E am mm ++ []) H locs → decode cX12_about pc = .ok (.ireturn, 1) → W p l e (rmD 1 0 0) s m args below meth c H locs 0 0 Q (F0 m pc ls' [.int r0]) := by
    intro r0 H locs pc ls' e0 hn; cases e0; exact hret H locs pc ls' hn
  rw [fX12_about] at h
  refine lv_iload_n hx hb dX12_about_0 rfl (lv_at hl 1 rfl) ?_
  refine lv_if_ne (tgt := 13) hx hb dX12_about_1 (by decide) (fun c1 => ?_) (fun c1 => ?_)
  · replace h := ie c1 h
    refine lv_iload_n hx hb dX12_about_13 rfl (lv_at hl 1 rfl) ?_
    refine lv_iconst (v := 1) hx hb dX12_about_14 (by decide) ?_
    refine lv_icmp_ne (tgt := 27) hx hb dX12_about_15 (by decide) (fun c15 => ?_) (fun c15 => ?_)
    · replace h := ie c15 h
      refine lv_iload_n hx hb dX12_about_27 rfl (lv_at hl 1 rfl) ?_
      refine lv_iconst (v := 2) hx hb dX12_about_28 (by decide) ?_
      refine lv_icmp_ne (tgt := 39) hx hb dX12_about_29 (by decide) (fun c29 => ?_) (fun c29 => ?_)
      · replace h := ie c29 h
        refine lv_bipush (v := (-2)) hx hb dX12_about_39 (by decide) ?_
        exact hret _ _ _ _ _ h rfl hG dX12_about_41
      · replace h := it c29 h
        refine lv_aload_n hx hb dX12_about_32 rfl (lv_at hl 0 rfl) ?_
        refine gL_f (v := .int (mm 0 4)) C hG kX12 0 4 rfl (by decide) rfl q1356 rfl dX12_about_33 ?_
        refine lv_goto (tgt := 41) hx hb dX12_about_36 (by decide) ?_
        exact hret _ _ _ _ _ h rfl hG dX12_about_41
    · replace h := it c15 h
      refine lv_aload_n hx hb dX12_about_18 rfl (lv_at hl 0 rfl) ?_
      refine gL_f (v := .ref (am 1)) C hG kX12 0 0 rfl (by decide) rfl q1352 rfl dX12_about_19 ?_
      refine lv_iconst (v := 1) hx hb dX12_about_22 (by decide) ?_
      refine gL_i (v := (mm 1 1)) C hG 1 rfl (vp_in_nI (n := 1) (by decide) (by decide)) (congrArg (mm 1) (nI_clamp (n := 1) (by decide))) dX12_about_23 ?_
      refine lv_goto (tgt := 41) hx hb dX12_about_24 (by decide) ?_
      exact hret _ _ _ _ _ h rfl hG dX12_about_41
  · replace h := it c1 h
    refine lv_aload_n hx hb dX12_about_4 rfl (lv_at hl 0 rfl) ?_
    refine gL_f (v := .ref (am 1)) C hG kX12 0 0 rfl (by decide) rfl q1352 rfl dX12_about_5 ?_
    refine lv_iconst (v := 0) hx hb dX12_about_8 (by decide) ?_
    refine gL_i (v := (mm 1 0)) C hG 1 rfl (vp_in_nI (n := 0) (by decide) (by decide)) (congrArg (mm 1) (nI_clamp (n := 0) (by decide))) dX12_about_9 ?_
    refine lv_goto (tgt := 41) hx hb dX12_about_10 (by decide) ?_
    exact hret _ _ _ _ _ h rfl hG dX12_about_41
