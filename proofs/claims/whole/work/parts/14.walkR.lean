set_option maxHeartbeats 4000000 in
set_option maxRecDepth 100000 in
theorem c_X8_append (l : Launch) (E : GE) (ar : Nat → Nat) (N : Nat) (x1 : Int32) (rr : RS) {res : RS} (h : fX8_append N x1 rr = some res) : gMv l E yX8_append cX8_append 3 1 0 0 [.ref (ar 0), .int x1] (rR E ar rr ++ []) (rR E ar res ++ []) := by
  refine gMv_of (own := RX8) (by decide +kernel) rfl (Nat.le_of_ble_eq_true rfl) ?_
  intro p e s m args below meth c A ls Q H locs C hz hl hG hin hret
  have hx := C.1.1
  have hb := C.1.2.1
  have hts := C.1.2.2.2.2
  have hown := C.1.2.2.2.1
  have hl : lv_has ls 3 [(0, .ref (ar 0)), (1, .int x1)] := hl
  replace hret : ∀ (rr0 : RS) (H : Heap) (locs : List Loc) (pc : Nat) (ls' : Array Slot), some rr0 = some res → gG E A s.heap (rR E ar rr0 ++ []) H locs → decode cX8_append pc = .ok (.return_, 1) → W p l e (rmD 1 0 0) s m args below meth c H locs 0 0 Q (F0 m pc ls' []) := by
    intro rr0 H locs pc ls' e0; cases e0; exact hret H locs pc ls'
  have K3 : ∀ (k : Nat), ∀  (x2 : Int32) (rr : RS) (H : Heap) (locs : List Loc) (ls : Array Slot), gG E A s.heap (rR E ar rr ++ []) H locs → lv_has ls 3 [(0, .ref (ar 0)), (1, .int x1), (2, .int x2)] → fX8_append_L3 N x1 k x2 rr = some res → W p l e (rmD 1 0 0) s m args below meth c H locs 0 0 Q (F0 m 3 ls []) := by
    intro k
    induction k with
    | zero => intro x2 rr H locs ls hG hl h; exact absurd (show none = _ from h) (by simp)
    | succ k ih =>
      intro x2 rr H locs ls hG hl h
      rw [fX8_append_L3] at h
      refine lv_iload_n hx hb dX8_append_3 rfl (lv_at hl 2 rfl) ?_
      refine lv_if_lt (tgt := 49) hx hb dX8_append_4 (by decide) (fun c4 => ?_) (fun c4 => ?_)
      · replace h := it c4 h
        exact hret _ _ _ _ _ h hG dX8_append_49
      · replace h := ie c4 h
        refine lv_aload_n hx hb dX8_append_7 rfl (lv_at hl 0 rfl) ?_
        refine gL_f (v := .int (rr 0 1)) C hG kX8 0 1 rfl (by decide) rfl q492 rfl dX8_append_8 ?_
        refine lv_sipush (v := 300) hx hb dX8_append_11 (by decide) ?_
        refine lv_icmp_ge (tgt := 49) hx hb dX8_append_14 (by decide) (fun c14 => ?_) (fun c14 => ?_)
        · replace h := it c14 h
          exact hret _ _ _ _ _ h hG dX8_append_49
        · replace h := ie c14 h
          refine lv_aload_n hx hb dX8_append_17 rfl (lv_at hl 0 rfl) ?_
          refine gL_f (v := .ref (ar 1)) C hG kX8 0 0 rfl (by decide) rfl q491 rfl dX8_append_18 ?_
          refine lv_aload_n hx hb dX8_append_21 rfl (lv_at hl 0 rfl) ?_
          refine gL_f (v := .int (rr 0 1)) C hG kX8 0 1 rfl (by decide) rfl q492 rfl dX8_append_22 ?_
          refine lv_iload_n hx hb dX8_append_25 rfl (lv_at hl 1 rfl) ?_
          refine lv_iload_n hx hb dX8_append_26 rfl (lv_at hl 2 rfl) ?_
          refine lv_iushr (v := (iushr x1 x2)) hx hb dX8_append_27 rfl ?_
          refine lv_sipush (v := 255) hx hb dX8_append_28 (by decide) ?_
          refine lv_iand hx hb dX8_append_31 ?_
          obtain ⟨b1, h⟩ := ck_some h
          obtain ⟨rr_2, err_2, h⟩ := thn_some h
          refine gS_i (x := ((iushr x1 x2) &&& 255)) (ws' := (rR E ar rr_2 ++ [])) C hG 1 rfl (inb_in b1) rfl dX8_append_32 (by rw [err_2]; rfl) (fun H locs hG => ?_)
          refine lv_aload_n hx hb dX8_append_33 rfl (lv_at hl 0 rfl) ?_
          refine lv_dup hx hb dX8_append_34 rfl ?_
          refine gL_f (v := .int (rr_2 0 1)) C hG kX8 0 1 rfl (by decide) rfl q492 rfl dX8_append_35 ?_
          refine lv_iconst (v := 1) hx hb dX8_append_38 (by decide) ?_
          refine lv_iadd hx hb dX8_append_39 ?_
          obtain ⟨rr_3, err_3, h⟩ := thn_some h
          refine gS_f (v := .int ((rr_2 0 1) + 1)) (ws' := (rR E ar rr_3 ++ [])) C hG kX8 0 1 rfl (by decide) q492 rfl rfl rfl rfl (by show 1 < 14; decide) dX8_append_40 (by rw [err_3]; rfl) (fun H locs hG => ?_)
          refine lv_iinc (v := (x2 + (-8))) (lv' := [(2, .int (x2 + (-8))), (0, .ref (ar 0)), (1, .int x1)]) hx hb dX8_append_43 hl (k := 2) rfl (congrArg (x2 + ·) (by decide : Int32.ofInt (-8) = (-8))) (by decide) rfl (fun ls hl => ?_)
          refine lv_goto (tgt := 3) hx hb dX8_append_46 (by decide) ?_
          exact ih (x2 + (-8)) rr_3 _ _ _ hG (lv_sub hl [1, 2, 0] rfl) h
  rw [fX8_append] at h
  refine lv_bipush (v := 24) hx hb dX8_append_0 (by decide) ?_
  refine lv_istore_n (lv' := [(2, .int 24), (0, .ref (ar 0)), (1, .int x1)]) hx hb dX8_append_2 rfl hl (by decide) rfl (fun ls hl => ?_)
  exact K3 N 24 rr _ _ _ hG (lv_sub hl [1, 2, 0] rfl) h
set_option maxHeartbeats 4000000 in
set_option maxRecDepth 100000 in
theorem c_X8_isLetter (l : Launch) (E : GE) (x0 : Int32) {res : Int32} (h : fX8_isLetter x0 = res) : gMi l E yX8_isLetter cX8_isLetter 1 .boolean 1 0 0 [.int x0] [] [] res := by
  refine gMi_of (own := RX8) (by decide +kernel) rfl (Nat.le_of_ble_eq_true rfl) ?_
  intro p e s m args below meth c A ls Q H locs C hz hl hG hret
  have hx := C.1.1
  have hb := C.1.2.1
  have hts := C.1.2.2.2.2
  have hown := C.1.2.2.2.1
  have hl : lv_has ls 1 [(0, .int x0)] := hl
  replace hret : ∀ (r0 : Int32) (H : Heap) (locs : List Loc) (pc : Nat) (ls' : Array Slot), r0 = res → narrow .boolean (.int r0) = .int r0 → gG E A s.heap [] H locs → decode cX8_isLetter pc = .ok (.ireturn, 1) → W p l e (rmD 1 0 0) s m args below meth c H locs 0 0 Q (F0 m pc ls' [.int r0]) := by
    intro r0 H locs pc ls' e0 hn; cases e0; exact hret H locs pc ls' hn
  have K24 : ∀  (H : Heap) (locs : List Loc) (ls : Array Slot), gG E A s.heap [] H locs → lv_has ls 1 [] → fX8_isLetter_L24 x0 = res → W p l e (rmD 1 0 0) s m args below meth c H locs 0 0 Q (F0 m 24 ls []) := by
    intro H locs ls hG hl h
    rw [fX8_isLetter_L24] at h
    refine lv_iconst (v := 1) hx hb dX8_isLetter_24 (by decide) ?_
    refine lv_goto (tgt := 29) hx hb dX8_isLetter_25 (by decide) ?_
    exact hret _ _ _ _ _ h rfl hG dX8_isLetter_29
  have K12 : ∀  (H : Heap) (locs : List Loc) (ls : Array Slot), gG E A s.heap [] H locs → lv_has ls 1 [(0, .int x0)] → fX8_isLetter_L12 x0 = res → W p l e (rmD 1 0 0) s m args below meth c H locs 0 0 Q (F0 m 12 ls []) := by
    intro H locs ls hG hl h
    rw [fX8_isLetter_L12] at h
    refine lv_iload_n hx hb dX8_isLetter_12 rfl (lv_at hl 0 rfl) ?_
    refine lv_bipush (v := 65) hx hb dX8_isLetter_13 (by decide) ?_
    refine lv_icmp_lt (tgt := 28) hx hb dX8_isLetter_15 (by decide) (fun c15 => ?_) (fun c15 => ?_)
    · replace h := it c15 h
      refine lv_iconst (v := 0) hx hb dX8_isLetter_28 (by decide) ?_
      exact hret _ _ _ _ _ h rfl hG dX8_isLetter_29
    · replace h := ie c15 h
      refine lv_iload_n hx hb dX8_isLetter_18 rfl (lv_at hl 0 rfl) ?_
      refine lv_bipush (v := 90) hx hb dX8_isLetter_19 (by decide) ?_
      refine lv_icmp_gt (tgt := 28) hx hb dX8_isLetter_21 (by decide) (fun c21 => ?_) (fun c21 => ?_)
      · replace h := it c21 h
        refine lv_iconst (v := 0) hx hb dX8_isLetter_28 (by decide) ?_
        exact hret _ _ _ _ _ h rfl hG dX8_isLetter_29
      · replace h := ie c21 h
        exact K24 _ _ _ hG (lv_sub hl [] rfl) h
  rw [fX8_isLetter] at h
  refine lv_iload_n hx hb dX8_isLetter_0 rfl (lv_at hl 0 rfl) ?_
  refine lv_bipush (v := 97) hx hb dX8_isLetter_1 (by decide) ?_
  refine lv_icmp_lt (tgt := 12) hx hb dX8_isLetter_3 (by decide) (fun c3 => ?_) (fun c3 => ?_)
  · replace h := it c3 h
    exact K12 _ _ _ hG (lv_sub hl [0] rfl) h
  · replace h := ie c3 h
    refine lv_iload_n hx hb dX8_isLetter_6 rfl (lv_at hl 0 rfl) ?_
    refine lv_bipush (v := 122) hx hb dX8_isLetter_7 (by decide) ?_
    refine lv_icmp_le (tgt := 24) hx hb dX8_isLetter_9 (by decide) (fun c9 => ?_) (fun c9 => ?_)
    · replace h := it c9 h
      exact K24 _ _ _ hG (lv_sub hl [] rfl) h
    · replace h := ie c9 h
      exact K12 _ _ _ hG (lv_sub hl [0] rfl) h
set_option maxHeartbeats 4000000 in
set_option maxRecDepth 100000 in
theorem c_X8_behindLetters (l : Launch) (E : GE) (ar : Nat → Nat) (N : Nat) (x1 : Int32) (rr : RS) {res : Int32} (h : fX8_behindLetters N x1 rr = some res) : gMi l E yX8_behindLetters cX8_behindLetters 3 .int 2 0 0 [.ref (ar 0), .int x1] (rR E ar rr ++ []) (rR E ar rr ++ []) res := by
  refine gMi_of (own := RX8) (by decide +kernel) rfl (Nat.le_of_ble_eq_true rfl) ?_
  intro p e s m args below meth c A ls Q H locs C hz hl hG hret
  have hx := C.1.1
  have hb := C.1.2.1
  have hts := C.1.2.2.2.2
  have hown := C.1.2.2.2.1
  have hl : lv_has ls 3 [(0, .ref (ar 0)), (1, .int x1)] := hl
  replace hret : ∀ (r0 : Int32) (H : Heap) (locs : List Loc) (pc : Nat) (ls' : Array Slot), some r0 = some res → narrow .int (.int r0) = .int r0 → gG E A s.heap (rR E ar rr ++ []) H locs → decode cX8_behindLetters pc = .ok (.ireturn, 1) → W p l e (rmD 2 0 0) s m args below meth c H locs 0 0 Q (F0 m pc ls' [.int r0]) := by
    intro r0 H locs pc ls' e0 hn; cases e0; exact hret H locs pc ls' hn
  have K2 : ∀ (k : Nat), ∀  (x2 : Int32) (H : Heap) (locs : List Loc) (ls : Array Slot), gG E A s.heap (rR E ar rr ++ []) H locs → lv_has ls 3 [(0, .ref (ar 0)), (2, .int x2)] → fX8_behindLetters_L2 N x1 rr k x2 = some res → W p l e (rmD 2 0 0) s m args below meth c H locs 0 0 Q (F0 m 2 ls []) := by
    intro k
    induction k with
    | zero => intro x2 H locs ls hG hl h; exact absurd (show none = _ from h) (by simp)
    | succ k ih =>
      intro x2 H locs ls hG hl h
      rw [fX8_behindLetters_L2] at h
      refine lv_iload_n hx hb dX8_behindLetters_2 rfl (lv_at hl 1 rfl) ?_
      refine lv_aload_n hx hb dX8_behindLetters_3 rfl (lv_at hl 0 rfl) ?_
      refine gL_f (v := .int (rr 0 1)) C hG kX8 0 1 rfl (by decide) rfl q492 rfl dX8_behindLetters_4 ?_
      refine lv_icmp_ge (tgt := 28) hx hb dX8_behindLetters_7 (by decide) (fun c7 => ?_) (fun c7 => ?_)
      · replace h := it c7 h
        refine lv_iload_n hx hb dX8_behindLetters_28 rfl (lv_at hl 1 rfl) ?_
        exact hret _ _ _ _ _ h rfl hG dX8_behindLetters_29
      · replace h := ie c7 h
        refine lv_aload_n hx hb dX8_behindLetters_10 rfl (lv_at hl 0 rfl) ?_
        refine gL_f (v := .ref (ar 1)) C hG kX8 0 0 rfl (by decide) rfl q491 rfl dX8_behindLetters_11 ?_
        refine lv_iload_n hx hb dX8_behindLetters_14 rfl (lv_at hl 1 rfl) ?_
        obtain ⟨b1, h⟩ := ck_some h
        refine gL_i (v := (rr 1 x2.toNatClampNeg)) C hG 1 rfl (inb_in b1) rfl dX8_behindLetters_15 ?_
        refine gF_i (ws' := (rR E ar rr ++ [])) C hG pst pst.symm (gR_S (As := [.int (rr 1 x2.toNatClampNeg)]) (rest := []) C hz hl.1 hG pst (c_X8_isLetter l E (rr 1 x2.toNatClampNeg) rfl H.size) okX8_isLetter q597 rfl (Nat.le_of_ble_eq_true rfl) (by omega) ⟨Nat.le_refl _, Nat.le_refl _⟩ dX8_behindLetters_16) (fun H locs z2 hG => ?_)
        refine lv_if_eq (tgt := 28) hx hb dX8_behindLetters_19 (by decide) (fun c19 => ?_) (fun c19 => ?_)
        · replace h := it c19 h
          refine lv_iload_n hx hb dX8_behindLetters_28 rfl (lv_at hl 1 rfl) ?_
          exact hret _ _ _ _ _ h rfl hG dX8_behindLetters_29
        · replace h := ie c19 h
          refine lv_iinc (v := (x2 + 1)) (lv' := [(2, .int (x2 + 1)), (0, .ref (ar 0))]) hx hb dX8_behindLetters_22 hl (k := 1) rfl (congrArg (x2 + ·) (by decide : Int32.ofInt 1 = 1)) (by decide) rfl (fun ls hl => ?_)
          refine lv_goto (tgt := 2) hx hb dX8_behindLetters_25 (by decide) ?_
          exact ih (x2 + 1) _ _ _ hG (lv_sub hl [1, 0] rfl) h
  rw [fX8_behindLetters] at h
  refine lv_iload_n hx hb dX8_behindLetters_0 rfl (lv_at hl 1 rfl) ?_
  refine lv_istore_n (lv' := [(2, .int x1), (0, .ref (ar 0)), (1, .int x1)]) hx hb dX8_behindLetters_1 rfl hl (by decide) rfl (fun ls hl => ?_)
  exact K2 N x1 _ _ _ hG (lv_sub hl [1, 0] rfl) h
set_option maxHeartbeats 4000000 in
set_option maxRecDepth 100000 in
theorem c_X8_addToken (l : Launch) (E : GE) (ar : Nat → Nat) (N : Nat) (x1 : Int32) (x2 : Int32) (x3 : Int32) (rr : RS) {res : RS} (h : fX8_addToken N x1 x2 x3 rr = some res) : gMv l E yX8_addToken cX8_addToken 4 1 0 0 [.ref (ar 0), .int x1, .int x2, .int x3] (rR E ar rr ++ []) (rR E ar res ++ []) := by
  refine gMv_of (own := RX8) (by decide +kernel) rfl (Nat.le_of_ble_eq_true rfl) ?_
  intro p e s m args below meth c A ls Q H locs C hz hl hG hin hret
  have hx := C.1.1
  have hb := C.1.2.1
  have hts := C.1.2.2.2.2
  have hown := C.1.2.2.2.1
  have hl : lv_has ls 4 [(0, .ref (ar 0)), (1, .int x1), (2, .int x2), (3, .int x3)] := hl
  replace hret : ∀ (rr0 : RS) (H : Heap) (locs : List Loc) (pc : Nat) (ls' : Array Slot), some rr0 = some res → gG E A s.heap (rR E ar rr0 ++ []) H locs → decode cX8_addToken pc = .ok (.return_, 1) → W p l e (rmD 1 0 0) s m args below meth c H locs 0 0 Q (F0 m pc ls' []) := by
    intro rr0 H locs pc ls' e0; cases e0; exact hret H locs pc ls'
  rw [fX8_addToken] at h
  refine lv_aload_n hx hb dX8_addToken_0 rfl (lv_at hl 0 rfl) ?_
  refine gL_f (v := .int (rr 0 7)) C hG kX8 0 7 rfl (by decide) rfl q501 rfl dX8_addToken_1 ?_
  refine lv_aload_n hx hb dX8_addToken_4 rfl (lv_at hl 0 rfl) ?_
  refine gL_f (v := .ref (ar 2)) C hG kX8 0 4 rfl (by decide) rfl q498 rfl dX8_addToken_5 ?_
  refine va_alen (v := 301) hx hb C.2.1 hG.1 2 0 rfl rfl rfl dX8_addToken_8 ?_
  refine lv_icmp_ge (tgt := 52) hx hb dX8_addToken_9 (by decide) (fun c9 => ?_) (fun c9 => ?_)
  · replace h := it c9 h
    exact hret _ _ _ _ _ h hG dX8_addToken_52
  · replace h := ie c9 h
    refine lv_aload_n hx hb dX8_addToken_12 rfl (lv_at hl 0 rfl) ?_
    refine gL_f (v := .ref (ar 2)) C hG kX8 0 4 rfl (by decide) rfl q498 rfl dX8_addToken_13 ?_
    refine lv_aload_n hx hb dX8_addToken_16 rfl (lv_at hl 0 rfl) ?_
    refine gL_f (v := .int (rr 0 7)) C hG kX8 0 7 rfl (by decide) rfl q501 rfl dX8_addToken_17 ?_
    refine lv_iload_n hx hb dX8_addToken_20 rfl (lv_at hl 1 rfl) ?_
    obtain ⟨b1, h⟩ := ck_some h
    obtain ⟨rr_2, err_2, h⟩ := thn_some h
    refine gS_i (x := x1) (ws' := (rR E ar rr_2 ++ [])) C hG 2 rfl (inb_in b1) rfl dX8_addToken_21 (by rw [err_2]; rfl) (fun H locs hG => ?_)
    refine lv_aload_n hx hb dX8_addToken_22 rfl (lv_at hl 0 rfl) ?_
    refine gL_f (v := .ref (ar 3)) C hG kX8 0 5 rfl (by decide) rfl q499 rfl dX8_addToken_23 ?_
    refine lv_aload_n hx hb dX8_addToken_26 rfl (lv_at hl 0 rfl) ?_
    refine gL_f (v := .int (rr_2 0 7)) C hG kX8 0 7 rfl (by decide) rfl q501 rfl dX8_addToken_27 ?_
    refine lv_iload_n hx hb dX8_addToken_30 rfl (lv_at hl 2 rfl) ?_
    obtain ⟨b3, h⟩ := ck_some h
    obtain ⟨rr_4, err_4, h⟩ := thn_some h
    refine gS_i (x := x2) (ws' := (rR E ar rr_4 ++ [])) C hG 3 rfl (inb_in b3) rfl dX8_addToken_31 (by rw [err_4]; rfl) (fun H locs hG => ?_)
    refine lv_aload_n hx hb dX8_addToken_32 rfl (lv_at hl 0 rfl) ?_
    refine gL_f (v := .ref (ar 4)) C hG kX8 0 6 rfl (by decide) rfl q500 rfl dX8_addToken_33 ?_
    refine lv_aload_n hx hb dX8_addToken_36 rfl (lv_at hl 0 rfl) ?_
    refine gL_f (v := .int (rr_4 0 7)) C hG kX8 0 7 rfl (by decide) rfl q501 rfl dX8_addToken_37 ?_
    refine lv_iload_n hx hb dX8_addToken_40 rfl (lv_at hl 3 rfl) ?_
    obtain ⟨b5, h⟩ := ck_some h
    obtain ⟨rr_6, err_6, h⟩ := thn_some h
    refine gS_i (x := x3) (ws' := (rR E ar rr_6 ++ [])) C hG 4 rfl (inb_in b5) rfl dX8_addToken_41 (by rw [err_6]; rfl) (fun H locs hG => ?_)
    refine lv_aload_n hx hb dX8_addToken_42 rfl (lv_at hl 0 rfl) ?_
    refine lv_dup hx hb dX8_addToken_43 rfl ?_
    refine gL_f (v := .int (rr_6 0 7)) C hG kX8 0 7 rfl (by decide) rfl q501 rfl dX8_addToken_44 ?_
    refine lv_iconst (v := 1) hx hb dX8_addToken_47 (by decide) ?_
    refine lv_iadd hx hb dX8_addToken_48 ?_
    obtain ⟨rr_7, err_7, h⟩ := thn_some h
    refine gS_f (v := .int ((rr_6 0 7) + 1)) (ws' := (rR E ar rr_7 ++ [])) C hG kX8 0 7 rfl (by decide) q501 rfl rfl rfl rfl (by show 7 < 14; decide) dX8_addToken_49 (by rw [err_7]; rfl) (fun H locs hG => ?_)
    exact hret _ _ _ _ _ h hG dX8_addToken_52
set_option maxHeartbeats 4000000 in
set_option maxRecDepth 100000 in
theorem c_X8_isDigit (l : Launch) (E : GE) (x0 : Int32) {res : Int32} (h : fX8_isDigit x0 = res) : gMi l E yX8_isDigit cX8_isDigit 1 .boolean 1 0 0 [.int x0] [] [] res := by
  refine gMi_of (own := RX8) (by decide +kernel) rfl (Nat.le_of_ble_eq_true rfl) ?_
  intro p e s m args below meth c A ls Q H locs C hz hl hG hret
  have hx := C.1.1
  have hb := C.1.2.1
  have hts := C.1.2.2.2.2
  have hown := C.1.2.2.2.1
  have hl : lv_has ls 1 [(0, .int x0)] := hl
  replace hret : ∀ (r0 : Int32) (H : Heap) (locs : List Loc) (pc : Nat) (ls' : Array Slot), r0 = res → narrow .boolean (.int r0) = .int r0 → gG E A s.heap [] H locs → decode cX8_isDigit pc = .ok (.ireturn, 1) → W p l e (rmD 1 0 0) s m args below meth c H locs 0 0 Q (F0 m pc ls' [.int r0]) := by
    intro r0 H locs pc ls' e0 hn; cases e0; exact hret H locs pc ls' hn
  rw [fX8_isDigit] at h
  refine lv_iload_n hx hb dX8_isDigit_0 rfl (lv_at hl 0 rfl) ?_
  refine lv_bipush (v := 48) hx hb dX8_isDigit_1 (by decide) ?_
  refine lv_icmp_lt (tgt := 16) hx hb dX8_isDigit_3 (by decide) (fun c3 => ?_) (fun c3 => ?_)
  · replace h := it c3 h
    refine lv_iconst (v := 0) hx hb dX8_isDigit_16 (by decide) ?_
    exact hret _ _ _ _ _ h rfl hG dX8_isDigit_17
  · replace h := ie c3 h
    refine lv_iload_n hx hb dX8_isDigit_6 rfl (lv_at hl 0 rfl) ?_
    refine lv_bipush (v := 57) hx hb dX8_isDigit_7 (by decide) ?_
    refine lv_icmp_gt (tgt := 16) hx hb dX8_isDigit_9 (by decide) (fun c9 => ?_) (fun c9 => ?_)
    · replace h := it c9 h
      refine lv_iconst (v := 0) hx hb dX8_isDigit_16 (by decide) ?_
      exact hret _ _ _ _ _ h rfl hG dX8_isDigit_17
    · replace h := ie c9 h
      refine lv_iconst (v := 1) hx hb dX8_isDigit_12 (by decide) ?_
      refine lv_goto (tgt := 17) hx hb dX8_isDigit_13 (by decide) ?_
      exact hret _ _ _ _ _ h rfl hG dX8_isDigit_17
set_option maxHeartbeats 4000000 in
set_option maxRecDepth 100000 in
theorem c_X8_behindDigits (l : Launch) (E : GE) (ar : Nat → Nat) (N : Nat) (x1 : Int32) (rr : RS) {res : Int32} (h : fX8_behindDigits N x1 rr = some res) : gMi l E yX8_behindDigits cX8_behindDigits 3 .int 2 0 0 [.ref (ar 0), .int x1] (rR E ar rr ++ []) (rR E ar rr ++ []) res := by
  refine gMi_of (own := RX8) (by decide +kernel) rfl (Nat.le_of_ble_eq_true rfl) ?_
  intro p e s m args below meth c A ls Q H locs C hz hl hG hret
  have hx := C.1.1
  have hb := C.1.2.1
  have hts := C.1.2.2.2.2
  have hown := C.1.2.2.2.1
  have hl : lv_has ls 3 [(0, .ref (ar 0)), (1, .int x1)] := hl
  replace hret : ∀ (r0 : Int32) (H : Heap) (locs : List Loc) (pc : Nat) (ls' : Array Slot), some r0 = some res → narrow .int (.int r0) = .int r0 → gG E A s.heap (rR E ar rr ++ []) H locs → decode cX8_behindDigits pc = .ok (.ireturn, 1) → W p l e (rmD 2 0 0) s m args below meth c H locs 0 0 Q (F0 m pc ls' [.int r0]) := by
    intro r0 H locs pc ls' e0 hn; cases e0; exact hret H locs pc ls' hn
  have K2 : ∀ (k : Nat), ∀  (x2 : Int32) (H : Heap) (locs : List Loc) (ls : Array Slot), gG E A s.heap (rR E ar rr ++ []) H locs → lv_has ls 3 [(0, .ref (ar 0)), (2, .int x2)] → fX8_behindDigits_L2 N x1 rr k x2 = some res → W p l e (rmD 2 0 0) s m args below meth c H locs 0 0 Q (F0 m 2 ls []) := by
    intro k
    induction k with
    | zero => intro x2 H locs ls hG hl h; exact absurd (show none = _ from h) (by simp)
    | succ k ih =>
      intro x2 H locs ls hG hl h
      rw [fX8_behindDigits_L2] at h
      refine lv_iload_n hx hb dX8_behindDigits_2 rfl (lv_at hl 1 rfl) ?_
      refine lv_aload_n hx hb dX8_behindDigits_3 rfl (lv_at hl 0 rfl) ?_
      refine gL_f (v := .int (rr 0 1)) C hG kX8 0 1 rfl (by decide) rfl q492 rfl dX8_behindDigits_4 ?_
      refine lv_icmp_ge (tgt := 28) hx hb dX8_behindDigits_7 (by decide) (fun c7 => ?_) (fun c7 => ?_)
      · replace h := it c7 h
        refine lv_iload_n hx hb dX8_behindDigits_28 rfl (lv_at hl 1 rfl) ?_
        exact hret _ _ _ _ _ h rfl hG dX8_behindDigits_29
      · replace h := ie c7 h
        refine lv_aload_n hx hb dX8_behindDigits_10 rfl (lv_at hl 0 rfl) ?_
        refine gL_f (v := .ref (ar 1)) C hG kX8 0 0 rfl (by decide) rfl q491 rfl dX8_behindDigits_11 ?_
        refine lv_iload_n hx hb dX8_behindDigits_14 rfl (lv_at hl 1 rfl) ?_
        obtain ⟨b1, h⟩ := ck_some h
        refine gL_i (v := (rr 1 x2.toNatClampNeg)) C hG 1 rfl (inb_in b1) rfl dX8_behindDigits_15 ?_
        refine gF_i (ws' := (rR E ar rr ++ [])) C hG pst pst.symm (gR_S (As := [.int (rr 1 x2.toNatClampNeg)]) (rest := []) C hz hl.1 hG pst (c_X8_isDigit l E (rr 1 x2.toNatClampNeg) rfl H.size) okX8_isDigit q675 rfl (Nat.le_of_ble_eq_true rfl) (by omega) ⟨Nat.le_refl _, Nat.le_refl _⟩ dX8_behindDigits_16) (fun H locs z2 hG => ?_)
        refine lv_if_eq (tgt := 28) hx hb dX8_behindDigits_19 (by decide) (fun c19 => ?_) (fun c19 => ?_)
        · replace h := it c19 h
          refine lv_iload_n hx hb dX8_behindDigits_28 rfl (lv_at hl 1 rfl) ?_
          exact hret _ _ _ _ _ h rfl hG dX8_behindDigits_29
        · replace h := ie c19 h
          refine lv_iinc (v := (x2 + 1)) (lv' := [(2, .int (x2 + 1)), (0, .ref (ar 0))]) hx hb dX8_behindDigits_22 hl (k := 1) rfl (congrArg (x2 + ·) (by decide : Int32.ofInt 1 = 1)) (by decide) rfl (fun ls hl => ?_)
          refine lv_goto (tgt := 2) hx hb dX8_behindDigits_25 (by decide) ?_
          exact ih (x2 + 1) _ _ _ hG (lv_sub hl [1, 0] rfl) h
  rw [fX8_behindDigits] at h
  refine lv_iload_n hx hb dX8_behindDigits_0 rfl (lv_at hl 1 rfl) ?_
  refine lv_istore_n (lv' := [(2, .int x1), (0, .ref (ar 0)), (1, .int x1)]) hx hb dX8_behindDigits_1 rfl hl (by decide) rfl (fun ls hl => ?_)
  exact K2 N x1 _ _ _ hG (lv_sub hl [1, 0] rfl) h
set_option maxHeartbeats 4000000 in
set_option maxRecDepth 100000 in
theorem c_X8_numberFrom (l : Launch) (E : GE) (ar : Nat → Nat) (N : Nat) (x1 : Int32) (x2 : Int32) (rr : RS) {res : Int32} (h : fX8_numberFrom N x1 x2 rr = some res) : gMi l E yX8_numberFrom cX8_numberFrom 5 .int 1 0 0 [.ref (ar 0), .int x1, .int x2] (rR E ar rr ++ []) (rR E ar rr ++ []) res := by
  refine gMi_of (own := RX8) (by decide +kernel) rfl (Nat.le_of_ble_eq_true rfl) ?_
  intro p e s m args below meth c A ls Q H locs C hz hl hG hret
  have hx := C.1.1
  have hb := C.1.2.1
  have hts := C.1.2.2.2.2
  have hown := C.1.2.2.2.1
  have hl : lv_has ls 5 [(0, .ref (ar 0)), (1, .int x1), (2, .int x2)] := hl
  replace hret : ∀ (r0 : Int32) (H : Heap) (locs : List Loc) (pc : Nat) (ls' : Array Slot), some r0 = some res → narrow .int (.int r0) = .int r0 → gG E A s.heap (rR E ar rr ++ []) H locs → decode cX8_numberFrom pc = .ok (.ireturn, 1) → W p l e (rmD 1 0 0) s m args below meth c H locs 0 0 Q (F0 m pc ls' [.int r0]) := by
    intro r0 H locs pc ls' e0 hn; cases e0; exact hret H locs pc ls' hn
  have K5 : ∀ (k : Nat), ∀  (x3 : Int32) (x4 : Int32) (H : Heap) (locs : List Loc) (ls : Array Slot), gG E A s.heap (rR E ar rr ++ []) H locs → lv_has ls 5 [(0, .ref (ar 0)), (2, .int x2), (3, .int x3), (4, .int x4)] → fX8_numberFrom_L5 N x1 x2 rr k x3 x4 = some res → W p l e (rmD 1 0 0) s m args below meth c H locs 0 0 Q (F0 m 5 ls []) := by
    intro k
    induction k with
    | zero => intro x3 x4 H locs ls hG hl h; exact absurd (show none = _ from h) (by simp)
    | succ k ih =>
      intro x3 x4 H locs ls hG hl h
      rw [fX8_numberFrom_L5] at h
      refine lv_iload hx hb dX8_numberFrom_5 (lv_at hl 3 rfl) ?_
      refine lv_iload_n hx hb dX8_numberFrom_7 rfl (lv_at hl 1 rfl) ?_
      refine lv_icmp_ge (tgt := 39) hx hb dX8_numberFrom_8 (by decide) (fun c8 => ?_) (fun c8 => ?_)
      · replace h := it c8 h
        refine lv_iload_n hx hb dX8_numberFrom_39 rfl (lv_at hl 2 rfl) ?_
        exact hret _ _ _ _ _ h rfl hG dX8_numberFrom_40
      · replace h := ie c8 h
        refine lv_sipush (v := 10000) hx hb dX8_numberFrom_11 (by decide) ?_
        refine lv_iload_n hx hb dX8_numberFrom_14 rfl (lv_at hl 2 rfl) ?_
        refine lv_bipush (v := 10) hx hb dX8_numberFrom_15 (by decide) ?_
        refine lv_imul hx hb dX8_numberFrom_17 ?_
        refine lv_aload_n hx hb dX8_numberFrom_18 rfl (lv_at hl 0 rfl) ?_
        refine gL_f (v := .ref (ar 1)) C hG kX8 0 0 rfl (by decide) rfl q491 rfl dX8_numberFrom_19 ?_
        refine lv_iload hx hb dX8_numberFrom_22 (lv_at hl 3 rfl) ?_
        obtain ⟨b1, h⟩ := ck_some h
        refine gL_i (v := (rr 1 x4.toNatClampNeg)) C hG 1 rfl (inb_in b1) rfl dX8_numberFrom_24 ?_
        refine lv_iadd hx hb dX8_numberFrom_25 ?_
        refine lv_bipush (v := 48) hx hb dX8_numberFrom_26 (by decide) ?_
        refine lv_isub hx hb dX8_numberFrom_28 ?_
        refine va_mmin hx hb (C.1.2.2.1.trans hl.1.symm) hown (hts _ q686) (hts _ q687) (hts _ q184) (hts _ q688) (Nat.le_of_ble_eq_true rfl) (Nat.le_of_ble_eq_true rfl) (Nat.le_of_ble_eq_true rfl) (Nat.le_of_ble_eq_true rfl) dX8_numberFrom_29 ?_
        refine g_int (v := (imin 10000 (((x3 * 10) + (rr 1 x4.toNatClampNeg)) - 48))) rfl ?_
        obtain ⟨x3_2, ex3_2, h⟩ := thn_some h
        refine g_int ex3_2 ?_
        refine lv_istore_n (lv' := [(3, .int x3_2), (0, .ref (ar 0)), (2, .int x2), (4, .int x4)]) hx hb dX8_numberFrom_32 rfl hl (by decide) rfl (fun ls hl => ?_)
        refine lv_iinc (v := (x4 + 1)) (lv' := [(4, .int (x4 + 1)), (3, .int x3_2), (0, .ref (ar 0)), (2, .int x2)]) hx hb dX8_numberFrom_33 hl (k := 3) rfl (congrArg (x4 + ·) (by decide : Int32.ofInt 1 = 1)) (by decide) rfl (fun ls hl => ?_)
        refine lv_goto (tgt := 5) hx hb dX8_numberFrom_36 (by decide) ?_
        exact ih x3_2 (x4 + 1) _ _ _ hG (lv_sub hl [2, 3, 1, 0] rfl) h
  rw [fX8_numberFrom] at h
  refine lv_iconst (v := 0) hx hb dX8_numberFrom_0 (by decide) ?_
  refine lv_istore_n (lv' := [(3, .int 0), (0, .ref (ar 0)), (1, .int x1), (2, .int x2)]) hx hb dX8_numberFrom_1 rfl hl (by decide) rfl (fun ls hl => ?_)
  refine lv_iload_n hx hb dX8_numberFrom_2 rfl (lv_at hl 2 rfl) ?_
  refine lv_istore (lv' := [(4, .int x1), (3, .int 0), (0, .ref (ar 0)), (1, .int x1), (2, .int x2)]) hx hb dX8_numberFrom_3 hl (by decide) rfl (fun ls hl => ?_)
  exact K5 N 0 x1 _ _ _ hG (lv_sub hl [2, 4, 1, 0] rfl) h
set_option maxHeartbeats 4000000 in
set_option maxRecDepth 100000 in
theorem c_X8_isSign (l : Launch) (E : GE) (x0 : Int32) {res : Int32} (h : fX8_isSign x0 = res) : gMi l E yX8_isSign cX8_isSign 1 .boolean 1 0 0 [.int x0] [] [] res := by
  refine gMi_of (own := RX8) (by decide +kernel) rfl (Nat.le_of_ble_eq_true rfl) ?_
  intro p e s m args below meth c A ls Q H locs C hz hl hG hret
  have hx := C.1.1
  have hb := C.1.2.1
  have hts := C.1.2.2.2.2
  have hown := C.1.2.2.2.1
  have hl : lv_has ls 1 [(0, .int x0)] := hl
  replace hret : ∀ (r0 : Int32) (H : Heap) (locs : List Loc) (pc : Nat) (ls' : Array Slot), r0 = res → narrow .boolean (.int r0) = .int r0 → gG E A s.heap [] H locs → decode cX8_isSign pc = .ok (.ireturn, 1) → W p l e (rmD 1 0 0) s m args below meth c H locs 0 0 Q (F0 m pc ls' [.int r0]) := by
    intro r0 H locs pc ls' e0 hn; cases e0; exact hret H locs pc ls' hn
  rw [fX8_isSign] at h
  refine lv_iload_n hx hb dX8_isSign_0 rfl (lv_at hl 0 rfl) ?_
  by_cases w1_0 : x0 = 42
  · replace h := it w1_0 h
    refine lv_lookup (tgt := 76) (off := 75) hx hb dX8_isSign_1 (by decide) (by rw [w1_0]; decide) (by decide) ?_
    refine lv_iconst (v := 1) hx hb dX8_isSign_76 (by decide) ?_
    exact hret _ _ _ _ _ h rfl hG dX8_isSign_77
  · replace h := ie w1_0 h
    by_cases w1_1 : x0 = 43
    · replace h := it w1_1 h
      refine lv_lookup (tgt := 76) (off := 75) hx hb dX8_isSign_1 (by decide) (by rw [lv_osw w1_0 (by decide)]; rw [w1_1]; decide) (by decide) ?_
      refine lv_iconst (v := 1) hx hb dX8_isSign_76 (by decide) ?_
      exact hret _ _ _ _ _ h rfl hG dX8_isSign_77
    · replace h := ie w1_1 h
      by_cases w1_2 : x0 = 44
      · replace h := it w1_2 h
        refine lv_lookup (tgt := 76) (off := 75) hx hb dX8_isSign_1 (by decide) (by rw [lv_osw w1_0 (by decide)]; rw [lv_osw w1_1 (by decide)]; rw [w1_2]; decide) (by decide) ?_
        refine lv_iconst (v := 1) hx hb dX8_isSign_76 (by decide) ?_
        exact hret _ _ _ _ _ h rfl hG dX8_isSign_77
      · replace h := ie w1_2 h
        by_cases w1_3 : x0 = 59
        · replace h := it w1_3 h
          refine lv_lookup (tgt := 76) (off := 75) hx hb dX8_isSign_1 (by decide) (by rw [lv_osw w1_0 (by decide)]; rw [lv_osw w1_1 (by decide)]; rw [lv_osw w1_2 (by decide)]; rw [w1_3]; decide) (by decide) ?_
          refine lv_iconst (v := 1) hx hb dX8_isSign_76 (by decide) ?_
          exact hret _ _ _ _ _ h rfl hG dX8_isSign_77
        · replace h := ie w1_3 h
          by_cases w1_4 : x0 = 60
          · replace h := it w1_4 h
            refine lv_lookup (tgt := 76) (off := 75) hx hb dX8_isSign_1 (by decide) (by rw [lv_osw w1_0 (by decide)]; rw [lv_osw w1_1 (by decide)]; rw [lv_osw w1_2 (by decide)]; rw [lv_osw w1_3 (by decide)]; rw [w1_4]; decide) (by decide) ?_
            refine lv_iconst (v := 1) hx hb dX8_isSign_76 (by decide) ?_
            exact hret _ _ _ _ _ h rfl hG dX8_isSign_77
          · replace h := ie w1_4 h
            by_cases w1_5 : x0 = 61
            · replace h := it w1_5 h
              refine lv_lookup (tgt := 76) (off := 75) hx hb dX8_isSign_1 (by decide) (by rw [lv_osw w1_0 (by decide)]; rw [lv_osw w1_1 (by decide)]; rw [lv_osw w1_2 (by decide)]; rw [lv_osw w1_3 (by decide)]; rw [lv_osw w1_4 (by decide)]; rw [w1_5]; decide) (by decide) ?_
              refine lv_iconst (v := 1) hx hb dX8_isSign_76 (by decide) ?_
              exact hret _ _ _ _ _ h rfl hG dX8_isSign_77
            · replace h := ie w1_5 h
              by_cases w1_6 : x0 = 123
              · replace h := it w1_6 h
                refine lv_lookup (tgt := 76) (off := 75) hx hb dX8_isSign_1 (by decide) (by rw [lv_osw w1_0 (by decide)]; rw [lv_osw w1_1 (by decide)]; rw [lv_osw w1_2 (by decide)]; rw [lv_osw w1_3 (by decide)]; rw [lv_osw w1_4 (by decide)]; rw [lv_osw w1_5 (by decide)]; rw [w1_6]; decide) (by decide) ?_
                refine lv_iconst (v := 1) hx hb dX8_isSign_76 (by decide) ?_
                exact hret _ _ _ _ _ h rfl hG dX8_isSign_77
              · replace h := ie w1_6 h
                by_cases w1_7 : x0 = 125
                · replace h := it w1_7 h
                  refine lv_lookup (tgt := 76) (off := 75) hx hb dX8_isSign_1 (by decide) (by rw [lv_osw w1_0 (by decide)]; rw [lv_osw w1_1 (by decide)]; rw [lv_osw w1_2 (by decide)]; rw [lv_osw w1_3 (by decide)]; rw [lv_osw w1_4 (by decide)]; rw [lv_osw w1_5 (by decide)]; rw [lv_osw w1_6 (by decide)]; rw [w1_7]; decide) (by decide) ?_
                  refine lv_iconst (v := 1) hx hb dX8_isSign_76 (by decide) ?_
                  exact hret _ _ _ _ _ h rfl hG dX8_isSign_77
                · replace h := ie w1_7 h
                  refine lv_lookup (tgt := 78) (off := 77) hx hb dX8_isSign_1 (by decide) (by rw [lv_osw w1_0 (by decide)]; rw [lv_osw w1_1 (by decide)]; rw [lv_osw w1_2 (by decide)]; rw [lv_osw w1_3 (by decide)]; rw [lv_osw w1_4 (by decide)]; rw [lv_osw w1_5 (by decide)]; rw [lv_osw w1_6 (by decide)]; rw [lv_osw w1_7 (by decide)]; rfl) (by decide) ?_
                  refine lv_iconst (v := 0) hx hb dX8_isSign_78 (by decide) ?_
                  exact hret _ _ _ _ _ h rfl hG dX8_isSign_79
set_option maxHeartbeats 4000000 in
set_option maxRecDepth 100000 in
theorem c_X8_close (l : Launch) (E : GE) (ar : Nat → Nat) (N : Nat) (rr : RS) {res : RS} (h : fX8_close N rr = some res) : gMv l E yX8_close cX8_close 1 1 0 0 [.ref (ar 0)] (rR E ar rr ++ []) (rR E ar res ++ []) := by
  refine gMv_of (own := RX8) (by decide +kernel) rfl (Nat.le_of_ble_eq_true rfl) ?_
  intro p e s m args below meth c A ls Q H locs C hz hl hG hin hret
  have hx := C.1.1
  have hb := C.1.2.1
  have hts := C.1.2.2.2.2
  have hown := C.1.2.2.2.1
  have hl : lv_has ls 1 [(0, .ref (ar 0))] := hl
  replace hret : ∀ (rr0 : RS) (H : Heap) (locs : List Loc) (pc : Nat) (ls' : Array Slot), some rr0 = some res → gG E A s.heap (rR E ar rr0 ++ []) H locs → decode cX8_close pc = .ok (.return_, 1) → W p l e (rmD 1 0 0) s m args below meth c H locs 0 0 Q (F0 m pc ls' []) := by
    intro rr0 H locs pc ls' e0; cases e0; exact hret H locs pc ls'
  have K45 : ∀  (rr : RS) (H : Heap) (locs : List Loc) (ls : Array Slot), gG E A s.heap (rR E ar rr ++ []) H locs → lv_has ls 1 [(0, .ref (ar 0))] → fX8_close_L45 N rr = some res → W p l e (rmD 1 0 0) s m args below meth c H locs 0 0 Q (F0 m 45 ls []) := by
    intro rr H locs ls hG hl h
    rw [fX8_close_L45] at h
    refine lv_aload_n hx hb dX8_close_45 rfl (lv_at hl 0 rfl) ?_
    refine gL_f (v := .ref (ar 3)) C hG kX8 0 5 rfl (by decide) rfl q499 rfl dX8_close_46 ?_
    refine lv_aload_n hx hb dX8_close_49 rfl (lv_at hl 0 rfl) ?_
    refine gL_f (v := .int (rr 0 8)) C hG kX8 0 8 rfl (by decide) rfl q502 rfl dX8_close_50 ?_
    refine lv_aload_n hx hb dX8_close_53 rfl (lv_at hl 0 rfl) ?_
    refine gL_f (v := .ref (ar 5)) C hG kX8 0 11 rfl (by decide) rfl q505 rfl dX8_close_54 ?_
    refine lv_aload_n hx hb dX8_close_57 rfl (lv_at hl 0 rfl) ?_
    refine gL_f (v := .int (rr 0 10)) C hG kX8 0 10 rfl (by decide) rfl q504 rfl dX8_close_58 ?_
    obtain ⟨b1, h⟩ := ck_some h
    refine gL_i (v := (rr 5 (rr 0 10).toNatClampNeg)) C hG 5 rfl (inb_in b1) rfl dX8_close_61 ?_
    obtain ⟨b2, h⟩ := ck_some h
    obtain ⟨rr_3, err_3, h⟩ := thn_some h
    refine gS_i (x := (rr 5 (rr 0 10).toNatClampNeg)) (ws' := (rR E ar rr_3 ++ [])) C hG 3 rfl (inb_in b2) rfl dX8_close_62 (by rw [err_3]; rfl) (fun H locs hG => ?_)
    refine lv_aload_n hx hb dX8_close_63 rfl (lv_at hl 0 rfl) ?_
    refine gL_f (v := .ref (ar 3)) C hG kX8 0 5 rfl (by decide) rfl q499 rfl dX8_close_64 ?_
    refine lv_aload_n hx hb dX8_close_67 rfl (lv_at hl 0 rfl) ?_
    refine gL_f (v := .ref (ar 5)) C hG kX8 0 11 rfl (by decide) rfl q505 rfl dX8_close_68 ?_
    refine lv_aload_n hx hb dX8_close_71 rfl (lv_at hl 0 rfl) ?_
    refine gL_f (v := .int (rr_3 0 10)) C hG kX8 0 10 rfl (by decide) rfl q504 rfl dX8_close_72 ?_
    obtain ⟨b4, h⟩ := ck_some h
    refine gL_i (v := (rr_3 5 (rr_3 0 10).toNatClampNeg)) C hG 5 rfl (inb_in b4) rfl dX8_close_75 ?_
    refine lv_aload_n hx hb dX8_close_76 rfl (lv_at hl 0 rfl) ?_
    refine gL_f (v := .int (rr_3 0 8)) C hG kX8 0 8 rfl (by decide) rfl q502 rfl dX8_close_77 ?_
    obtain ⟨b5, h⟩ := ck_some h
    obtain ⟨rr_6, err_6, h⟩ := thn_some h
    refine gS_i (x := (rr_3 0 8)) (ws' := (rR E ar rr_6 ++ [])) C hG 3 rfl (inb_in b5) rfl dX8_close_80 (by rw [err_6]; rfl) (fun H locs hG => ?_)
    refine lv_aload_n hx hb dX8_close_81 rfl (lv_at hl 0 rfl) ?_
    refine lv_dup hx hb dX8_close_82 rfl ?_
    refine gL_f (v := .int (rr_6 0 8)) C hG kX8 0 8 rfl (by decide) rfl q502 rfl dX8_close_83 ?_
    refine lv_iconst (v := 1) hx hb dX8_close_86 (by decide) ?_
    refine lv_iadd hx hb dX8_close_87 ?_
    obtain ⟨rr_7, err_7, h⟩ := thn_some h
    refine gS_f (v := .int ((rr_6 0 8) + 1)) (ws' := (rR E ar rr_7 ++ [])) C hG kX8 0 8 rfl (by decide) q502 rfl rfl rfl rfl (by show 8 < 14; decide) dX8_close_88 (by rw [err_7]; rfl) (fun H locs hG => ?_)
    exact hret _ _ _ _ _ h hG dX8_close_91
  rw [fX8_close] at h
  refine lv_aload_n hx hb dX8_close_0 rfl (lv_at hl 0 rfl) ?_
  refine lv_dup hx hb dX8_close_1 rfl ?_
  refine gL_f (v := .int (rr 0 10)) C hG kX8 0 10 rfl (by decide) rfl q504 rfl dX8_close_2 ?_
  refine lv_iconst (v := 1) hx hb dX8_close_5 (by decide) ?_
  refine lv_isub hx hb dX8_close_6 ?_
  obtain ⟨rr_1, err_1, h⟩ := thn_some h
  refine gS_f (v := .int ((rr 0 10) - 1)) (ws' := (rR E ar rr_1 ++ [])) C hG kX8 0 10 rfl (by decide) q504 rfl rfl rfl rfl (by show 10 < 14; decide) dX8_close_7 (by rw [err_1]; rfl) (fun H locs hG => ?_)
  refine lv_aload_n hx hb dX8_close_10 rfl (lv_at hl 0 rfl) ?_
  refine gL_f (v := .int (rr_1 0 12)) C hG kX8 0 12 rfl (by decide) rfl q506 rfl dX8_close_11 ?_
  refine lv_if_le (tgt := 45) hx hb dX8_close_14 (by decide) (fun c14 => ?_) (fun c14 => ?_)
  · replace h := it c14 h
    exact K45 rr_1 _ _ _ hG (lv_sub hl [0] rfl) h
  · replace h := ie c14 h
    refine lv_aload_n hx hb dX8_close_17 rfl (lv_at hl 0 rfl) ?_
    refine gL_f (v := .ref (ar 6)) C hG kX8 0 13 rfl (by decide) rfl q507 rfl dX8_close_18 ?_
    refine lv_aload_n hx hb dX8_close_21 rfl (lv_at hl 0 rfl) ?_
    refine gL_f (v := .int (rr_1 0 12)) C hG kX8 0 12 rfl (by decide) rfl q506 rfl dX8_close_22 ?_
    refine lv_iconst (v := 1) hx hb dX8_close_25 (by decide) ?_
    refine lv_isub hx hb dX8_close_26 ?_
    obtain ⟨b2, h⟩ := ck_some h
    refine gL_i (v := (rr_1 6 ((rr_1 0 12) - 1).toNatClampNeg)) C hG 6 rfl (inb_in b2) rfl dX8_close_27 ?_
    refine lv_aload_n hx hb dX8_close_28 rfl (lv_at hl 0 rfl) ?_
    refine gL_f (v := .int (rr_1 0 10)) C hG kX8 0 10 rfl (by decide) rfl q504 rfl dX8_close_29 ?_
    refine lv_icmp_ne (tgt := 45) hx hb dX8_close_32 (by decide) (fun c32 => ?_) (fun c32 => ?_)
    · replace h := ie c32 h
      exact K45 rr_1 _ _ _ hG (lv_sub hl [0] rfl) h
    · replace h := it c32 h
      refine lv_aload_n hx hb dX8_close_35 rfl (lv_at hl 0 rfl) ?_
      refine lv_dup hx hb dX8_close_36 rfl ?_
      refine gL_f (v := .int (rr_1 0 12)) C hG kX8 0 12 rfl (by decide) rfl q506 rfl dX8_close_37 ?_
      refine lv_iconst (v := 1) hx hb dX8_close_40 (by decide) ?_
      refine lv_isub hx hb dX8_close_41 ?_
      obtain ⟨rr_3, err_3, h⟩ := thn_some h
      refine gS_f (v := .int ((rr_1 0 12) - 1)) (ws' := (rR E ar rr_3 ++ [])) C hG kX8 0 12 rfl (by decide) q506 rfl rfl rfl rfl (by show 12 < 14; decide) dX8_close_42 (by rw [err_3]; rfl) (fun H locs hG => ?_)
      exact K45 rr_3 _ _ _ hG (lv_sub hl [0] rfl) h
set_option maxHeartbeats 4000000 in
set_option maxRecDepth 100000 in
theorem c_X8_blame (l : Launch) (E : GE) (ar : Nat → Nat) (N : Nat) (x1 : Int32) (rr : RS) {res : RS} (h : fX8_blame N x1 rr = some res) : gMv l E yX8_blame cX8_blame 2 1 0 0 [.ref (ar 0), .int x1] (rR E ar rr ++ []) (rR E ar res ++ []) := by
  refine gMv_of (own := RX8) (by decide +kernel) rfl (Nat.le_of_ble_eq_true rfl) ?_
  intro p e s m args below meth c A ls Q H locs C hz hl hG hin hret
  have hx := C.1.1
  have hb := C.1.2.1
  have hts := C.1.2.2.2.2
  have hown := C.1.2.2.2.1
  have hl : lv_has ls 2 [(0, .ref (ar 0)), (1, .int x1)] := hl
  replace hret : ∀ (rr0 : RS) (H : Heap) (locs : List Loc) (pc : Nat) (ls' : Array Slot), some rr0 = some res → gG E A s.heap (rR E ar rr0 ++ []) H locs → decode cX8_blame pc = .ok (.return_, 1) → W p l e (rmD 1 0 0) s m args below meth c H locs 0 0 Q (F0 m pc ls' []) := by
    intro rr0 H locs pc ls' e0; cases e0; exact hret H locs pc ls'
  rw [fX8_blame] at h
  refine lv_aload_n hx hb dX8_blame_0 rfl (lv_at hl 0 rfl) ?_
  refine gL_f (v := .int (rr 0 2)) C hG kX8 0 2 rfl (by decide) rfl q494 rfl dX8_blame_1 ?_
  refine lv_if_ne (tgt := 25) hx hb dX8_blame_4 (by decide) (fun c4 => ?_) (fun c4 => ?_)
  · replace h := ie c4 h
    exact hret _ _ _ _ _ h hG dX8_blame_25
  · replace h := it c4 h
    refine lv_aload_n hx hb dX8_blame_7 rfl (lv_at hl 0 rfl) ?_
    refine lv_iload_n hx hb dX8_blame_8 rfl (lv_at hl 1 rfl) ?_
    obtain ⟨rr_1, err_1, h⟩ := thn_some h
    refine gS_f (v := .int x1) (ws' := (rR E ar rr_1 ++ [])) C hG kX8 0 2 rfl (by decide) q494 rfl rfl rfl rfl (by show 2 < 14; decide) dX8_blame_9 (by rw [err_1]; rfl) (fun H locs hG => ?_)
    refine lv_aload_n hx hb dX8_blame_12 rfl (lv_at hl 0 rfl) ?_
    refine lv_aload_n hx hb dX8_blame_13 rfl (lv_at hl 0 rfl) ?_
    refine gL_f (v := .ref (ar 4)) C hG kX8 0 6 rfl (by decide) rfl q500 rfl dX8_blame_14 ?_
    refine lv_aload_n hx hb dX8_blame_17 rfl (lv_at hl 0 rfl) ?_
    refine gL_f (v := .int (rr_1 0 8)) C hG kX8 0 8 rfl (by decide) rfl q502 rfl dX8_blame_18 ?_
    obtain ⟨b2, h⟩ := ck_some h
    refine gL_i (v := (rr_1 4 (rr_1 0 8).toNatClampNeg)) C hG 4 rfl (inb_in b2) rfl dX8_blame_21 ?_
    obtain ⟨rr_3, err_3, h⟩ := thn_some h
    refine gS_f (v := .int (rr_1 4 (rr_1 0 8).toNatClampNeg)) (ws' := (rR E ar rr_3 ++ [])) C hG kX8 0 3 rfl (by decide) q496 rfl rfl rfl rfl (by show 3 < 14; decide) dX8_blame_22 (by rw [err_3]; rfl) (fun H locs hG => ?_)
    exact hret _ _ _ _ _ h hG dX8_blame_25
set_option maxHeartbeats 4000000 in
set_option maxRecDepth 100000 in
theorem c_X8_factor (l : Launch) (E : GE) (ar : Nat → Nat) (N : Nat) (rr : RS) {res : RS} (h : fX8_factor N rr = some res) : gMv l E yX8_factor cX8_factor 1 2 0 0 [.ref (ar 0)] (rR E ar rr ++ []) (rR E ar res ++ []) := by
  refine gMv_of (own := RX8) (by decide +kernel) rfl (Nat.le_of_ble_eq_true rfl) ?_
  intro p e s m args below meth c A ls Q H locs C hz hl hG hin hret
  have hx := C.1.1
  have hb := C.1.2.1
  have hts := C.1.2.2.2.2
  have hown := C.1.2.2.2.1
  have hl : lv_has ls 1 [(0, .ref (ar 0))] := hl
  replace hret : ∀ (rr0 : RS) (H : Heap) (locs : List Loc) (pc : Nat) (ls' : Array Slot), some rr0 = some res → gG E A s.heap (rR E ar rr0 ++ []) H locs → decode cX8_factor pc = .ok (.return_, 1) → W p l e (rmD 2 0 0) s m args below meth c H locs 0 0 Q (F0 m pc ls' []) := by
    intro rr0 H locs pc ls' e0; cases e0; exact hret H locs pc ls'
  have K81 : ∀  (rr : RS) (H : Heap) (locs : List Loc) (ls : Array Slot), gG E A s.heap (rR E ar rr ++ []) H locs → lv_has ls 1 [(0, .ref (ar 0))] → fX8_factor_L81 N rr = some res → W p l e (rmD 2 0 0) s m args below meth c H locs 0 0 Q (F0 m 81 ls []) := by
    intro rr H locs ls hG hl h
    rw [fX8_factor_L81] at h
    refine lv_aload_n hx hb dX8_factor_81 rfl (lv_at hl 0 rfl) ?_
    refine gL_f (v := .ref (ar 2)) C hG kX8 0 4 rfl (by decide) rfl q498 rfl dX8_factor_82 ?_
    refine lv_aload_n hx hb dX8_factor_85 rfl (lv_at hl 0 rfl) ?_
    refine gL_f (v := .int (rr 0 8)) C hG kX8 0 8 rfl (by decide) rfl q502 rfl dX8_factor_86 ?_
    obtain ⟨b1, h⟩ := ck_some h
    refine gL_i (v := (rr 2 (rr 0 8).toNatClampNeg)) C hG 2 rfl (inb_in b1) rfl dX8_factor_89 ?_
    refine lv_iconst (v := 3) hx hb dX8_factor_90 (by decide) ?_
    refine lv_icmp_ne (tgt := 130) hx hb dX8_factor_91 (by decide) (fun c91 => ?_) (fun c91 => ?_)
    · replace h := ie c91 h
      refine lv_aload_n hx hb dX8_factor_130 rfl (lv_at hl 0 rfl) ?_
      refine gL_f (v := .ref (ar 2)) C hG kX8 0 4 rfl (by decide) rfl q498 rfl dX8_factor_131 ?_
      refine lv_aload_n hx hb dX8_factor_134 rfl (lv_at hl 0 rfl) ?_
      refine gL_f (v := .int (rr 0 8)) C hG kX8 0 8 rfl (by decide) rfl q502 rfl dX8_factor_135 ?_
      refine gL_i (v := (rr 2 (rr 0 8).toNatClampNeg)) C hG 2 rfl (inb_in b1) rfl dX8_factor_138 ?_
      refine lv_iconst (v := 2) hx hb dX8_factor_139 (by decide) ?_
      refine lv_icmp_ne (tgt := 156) hx hb dX8_factor_140 (by decide) (fun c140 => ?_) (fun c140 => ?_)
      · replace h := ie c140 h
        refine lv_aload_n hx hb dX8_factor_156 rfl (lv_at hl 0 rfl) ?_
        refine lv_iconst (v := 1) hx hb dX8_factor_157 (by decide) ?_
        obtain ⟨r2, hcr2, h⟩ := bnd_some h
        refine gF_v (ws' := (rR E ar r2 ++ [])) C hG (pin pnil) (List.Perm.symm (pin pnil)) (gR_V (As := [.int 1]) (rest := []) C hz hl.1 hG (pin pnil) (c_X8_blame l E ar N 1 rr hcr2 H.size) okX8_blame q700 0 rfl rfl rfl (Nat.le_of_ble_eq_true rfl) (by omega) ⟨Nat.le_refl _, Nat.le_refl _⟩ dX8_factor_158) (fun H locs hG => ?_)
        exact hret _ _ _ _ _ h hG dX8_factor_161
      · replace h := it c140 h
        refine lv_aload_n hx hb dX8_factor_143 rfl (lv_at hl 0 rfl) ?_
        refine lv_dup hx hb dX8_factor_144 rfl ?_
        refine gL_f (v := .int (rr 0 8)) C hG kX8 0 8 rfl (by decide) rfl q502 rfl dX8_factor_145 ?_
        refine lv_iconst (v := 1) hx hb dX8_factor_148 (by decide) ?_
        refine lv_iadd hx hb dX8_factor_149 ?_
        obtain ⟨rr_3, err_3, h⟩ := thn_some h
        refine gS_f (v := .int ((rr 0 8) + 1)) (ws' := (rR E ar rr_3 ++ [])) C hG kX8 0 8 rfl (by decide) q502 rfl rfl rfl rfl (by show 8 < 14; decide) dX8_factor_150 (by rw [err_3]; rfl) (fun H locs hG => ?_)
        refine lv_goto (tgt := 161) hx hb dX8_factor_153 (by decide) ?_
        exact hret _ _ _ _ _ h hG dX8_factor_161
    · replace h := it c91 h
      refine lv_aload_n hx hb dX8_factor_94 rfl (lv_at hl 0 rfl) ?_
      refine gL_f (v := .ref (ar 3)) C hG kX8 0 5 rfl (by decide) rfl q499 rfl dX8_factor_95 ?_
      refine lv_aload_n hx hb dX8_factor_98 rfl (lv_at hl 0 rfl) ?_
      refine gL_f (v := .int (rr 0 8)) C hG kX8 0 8 rfl (by decide) rfl q502 rfl dX8_factor_99 ?_
      refine lv_aload_n hx hb dX8_factor_102 rfl (lv_at hl 0 rfl) ?_
      refine gL_f (v := .ref (ar 6)) C hG kX8 0 13 rfl (by decide) rfl q507 rfl dX8_factor_103 ?_
      refine lv_aload_n hx hb dX8_factor_106 rfl (lv_at hl 0 rfl) ?_
      refine gL_f (v := .ref (ar 3)) C hG kX8 0 5 rfl (by decide) rfl q499 rfl dX8_factor_107 ?_
      refine lv_aload_n hx hb dX8_factor_110 rfl (lv_at hl 0 rfl) ?_
      refine gL_f (v := .int (rr 0 8)) C hG kX8 0 8 rfl (by decide) rfl q502 rfl dX8_factor_111 ?_
      refine gL_i (v := (rr 3 (rr 0 8).toNatClampNeg)) C hG 3 rfl (inb_in b1) rfl dX8_factor_114 ?_
      obtain ⟨b4, h⟩ := ck_some h
      refine gL_i (v := (rr 6 (rr 3 (rr 0 8).toNatClampNeg).toNatClampNeg)) C hG 6 rfl (inb_in b4) rfl dX8_factor_115 ?_
      obtain ⟨rr_5, err_5, h⟩ := thn_some h
      refine gS_i (x := (rr 6 (rr 3 (rr 0 8).toNatClampNeg).toNatClampNeg)) (ws' := (rR E ar rr_5 ++ [])) C hG 3 rfl (inb_in b1) rfl dX8_factor_116 (by rw [err_5]; rfl) (fun H locs hG => ?_)
      refine lv_aload_n hx hb dX8_factor_117 rfl (lv_at hl 0 rfl) ?_
      refine lv_dup hx hb dX8_factor_118 rfl ?_
      refine gL_f (v := .int (rr_5 0 8)) C hG kX8 0 8 rfl (by decide) rfl q502 rfl dX8_factor_119 ?_
      refine lv_iconst (v := 1) hx hb dX8_factor_122 (by decide) ?_
      refine lv_iadd hx hb dX8_factor_123 ?_
      obtain ⟨rr_6, err_6, h⟩ := thn_some h
      refine gS_f (v := .int ((rr_5 0 8) + 1)) (ws' := (rR E ar rr_6 ++ [])) C hG kX8 0 8 rfl (by decide) q502 rfl rfl rfl rfl (by show 8 < 14; decide) dX8_factor_124 (by rw [err_6]; rfl) (fun H locs hG => ?_)
      refine lv_goto (tgt := 161) hx hb dX8_factor_127 (by decide) ?_
      exact hret _ _ _ _ _ h hG dX8_factor_161
  have K44 : ∀  (rr : RS) (H : Heap) (locs : List Loc) (ls : Array Slot), gG E A s.heap (rR E ar rr ++ []) H locs → lv_has ls 1 [(0, .ref (ar 0))] → fX8_factor_L44 N rr = some res → W p l e (rmD 2 0 0) s m args below meth c H locs 0 0 Q (F0 m 44 ls []) := by
    intro rr H locs ls hG hl h
    rw [fX8_factor_L44] at h
    refine lv_aload_n hx hb dX8_factor_44 rfl (lv_at hl 0 rfl) ?_
    refine gL_f (v := .ref (ar 2)) C hG kX8 0 4 rfl (by decide) rfl q498 rfl dX8_factor_45 ?_
    refine lv_aload_n hx hb dX8_factor_48 rfl (lv_at hl 0 rfl) ?_
    refine gL_f (v := .int (rr 0 8)) C hG kX8 0 8 rfl (by decide) rfl q502 rfl dX8_factor_49 ?_
    obtain ⟨b1, h⟩ := ck_some h
    refine gL_i (v := (rr 2 (rr 0 8).toNatClampNeg)) C hG 2 rfl (inb_in b1) rfl dX8_factor_52 ?_
    refine lv_iconst (v := 3) hx hb dX8_factor_53 (by decide) ?_
    refine lv_icmp_ne (tgt := 81) hx hb dX8_factor_54 (by decide) (fun c54 => ?_) (fun c54 => ?_)
    · replace h := ie c54 h
      exact K81 rr _ _ _ hG (lv_sub hl [0] rfl) h
    · replace h := it c54 h
      refine lv_aload_n hx hb dX8_factor_57 rfl (lv_at hl 0 rfl) ?_
      refine gL_f (v := .ref (ar 3)) C hG kX8 0 5 rfl (by decide) rfl q499 rfl dX8_factor_58 ?_
      refine lv_aload_n hx hb dX8_factor_61 rfl (lv_at hl 0 rfl) ?_
      refine gL_f (v := .int (rr 0 8)) C hG kX8 0 8 rfl (by decide) rfl q502 rfl dX8_factor_62 ?_
      refine gL_i (v := (rr 3 (rr 0 8).toNatClampNeg)) C hG 3 rfl (inb_in b1) rfl dX8_factor_65 ?_
      refine lv_aload_n hx hb dX8_factor_66 rfl (lv_at hl 0 rfl) ?_
      refine gL_f (v := .int (rr 0 12)) C hG kX8 0 12 rfl (by decide) rfl q506 rfl dX8_factor_67 ?_
      refine lv_icmp_lt (tgt := 81) hx hb dX8_factor_70 (by decide) (fun c70 => ?_) (fun c70 => ?_)
      · replace h := it c70 h
        exact K81 rr _ _ _ hG (lv_sub hl [0] rfl) h
      · replace h := ie c70 h
        refine lv_aload_n hx hb dX8_factor_73 rfl (lv_at hl 0 rfl) ?_
        refine lv_iconst (v := 4) hx hb dX8_factor_74 (by decide) ?_
        obtain ⟨r2, hcr2, h⟩ := bnd_some h
        refine gF_v (ws' := (rR E ar r2 ++ [])) C hG (pin pnil) (List.Perm.symm (pin pnil)) (gR_V (As := [.int 4]) (rest := []) C hz hl.1 hG (pin pnil) (c_X8_blame l E ar N 4 rr hcr2 H.size) okX8_blame q700 0 rfl rfl rfl (Nat.le_of_ble_eq_true rfl) (by omega) ⟨Nat.le_refl _, Nat.le_refl _⟩ dX8_factor_75) (fun H locs hG => ?_)
        refine lv_goto (tgt := 161) hx hb dX8_factor_78 (by decide) ?_
        exact hret _ _ _ _ _ h hG dX8_factor_161
  rw [fX8_factor] at h
  refine lv_aload_n hx hb dX8_factor_0 rfl (lv_at hl 0 rfl) ?_
  refine gL_f (v := .int (rr 0 2)) C hG kX8 0 2 rfl (by decide) rfl q494 rfl dX8_factor_1 ?_
  refine lv_if_eq (tgt := 8) hx hb dX8_factor_4 (by decide) (fun c4 => ?_) (fun c4 => ?_)
  · replace h := it c4 h
    refine lv_aload_n hx hb dX8_factor_8 rfl (lv_at hl 0 rfl) ?_
    refine gL_f (v := .ref (ar 2)) C hG kX8 0 4 rfl (by decide) rfl q498 rfl dX8_factor_9 ?_
    refine lv_aload_n hx hb dX8_factor_12 rfl (lv_at hl 0 rfl) ?_
    refine gL_f (v := .int (rr 0 8)) C hG kX8 0 8 rfl (by decide) rfl q502 rfl dX8_factor_13 ?_
    obtain ⟨b1, h⟩ := ck_some h
    refine gL_i (v := (rr 2 (rr 0 8).toNatClampNeg)) C hG 2 rfl (inb_in b1) rfl dX8_factor_16 ?_
    refine lv_iconst (v := 2) hx hb dX8_factor_17 (by decide) ?_
    refine lv_icmp_ne (tgt := 44) hx hb dX8_factor_18 (by decide) (fun c18 => ?_) (fun c18 => ?_)
    · replace h := ie c18 h
      exact K44 rr _ _ _ hG (lv_sub hl [0] rfl) h
    · replace h := it c18 h
      refine lv_aload_n hx hb dX8_factor_21 rfl (lv_at hl 0 rfl) ?_
      refine gL_f (v := .ref (ar 3)) C hG kX8 0 5 rfl (by decide) rfl q499 rfl dX8_factor_22 ?_
      refine lv_aload_n hx hb dX8_factor_25 rfl (lv_at hl 0 rfl) ?_
      refine gL_f (v := .int (rr 0 8)) C hG kX8 0 8 rfl (by decide) rfl q502 rfl dX8_factor_26 ?_
      refine gL_i (v := (rr 3 (rr 0 8).toNatClampNeg)) C hG 3 rfl (inb_in b1) rfl dX8_factor_29 ?_
      refine lv_sipush (v := 9999) hx hb dX8_factor_30 (by decide) ?_
      refine lv_icmp_le (tgt := 44) hx hb dX8_factor_33 (by decide) (fun c33 => ?_) (fun c33 => ?_)
      · replace h := it c33 h
        exact K44 rr _ _ _ hG (lv_sub hl [0] rfl) h
      · replace h := ie c33 h
        refine lv_aload_n hx hb dX8_factor_36 rfl (lv_at hl 0 rfl) ?_
        refine lv_iconst (v := 2) hx hb dX8_factor_37 (by decide) ?_
        obtain ⟨r2, hcr2, h⟩ := bnd_some h
        refine gF_v (ws' := (rR E ar r2 ++ [])) C hG (pin pnil) (List.Perm.symm (pin pnil)) (gR_V (As := [.int 2]) (rest := []) C hz hl.1 hG (pin pnil) (c_X8_blame l E ar N 2 rr hcr2 H.size) okX8_blame q700 0 rfl rfl rfl (Nat.le_of_ble_eq_true rfl) (by omega) ⟨Nat.le_refl _, Nat.le_refl _⟩ dX8_factor_38) (fun H locs hG => ?_)
        refine lv_goto (tgt := 161) hx hb dX8_factor_41 (by decide) ?_
        exact hret _ _ _ _ _ h hG dX8_factor_161
  · replace h := ie c4 h
    exact hret _ _ _ _ _ h hG dX8_factor_7
set_option maxHeartbeats 4000000 in
set_option maxRecDepth 100000 in
theorem c_X8_sum (l : Launch) (E : GE) (ar : Nat → Nat) (N : Nat) (rr : RS) {res : RS} (h : fX8_sum N rr = some res) : gMv l E yX8_sum cX8_sum 2 3 0 0 [.ref (ar 0)] (rR E ar rr ++ []) (rR E ar res ++ []) := by
  refine gMv_of (own := RX8) (by decide +kernel) rfl (Nat.le_of_ble_eq_true rfl) ?_
  intro p e s m args below meth c A ls Q H locs C hz hl hG hin hret
  have hx := C.1.1
  have hb := C.1.2.1
  have hts := C.1.2.2.2.2
  have hown := C.1.2.2.2.1
  have hl : lv_has ls 2 [(0, .ref (ar 0))] := hl
  replace hret : ∀ (rr0 : RS) (H : Heap) (locs : List Loc) (pc : Nat) (ls' : Array Slot), some rr0 = some res → gG E A s.heap (rR E ar rr0 ++ []) H locs → decode cX8_sum pc = .ok (.return_, 1) → W p l e (rmD 3 0 0) s m args below meth c H locs 0 0 Q (F0 m pc ls' []) := by
    intro rr0 H locs pc ls' e0; cases e0; exact hret H locs pc ls'
  have K42 : ∀ (k6 : (Int32 → RS → Option (RS))) (hk6 : ∀  (x1 : Int32) (rr : RS) (H : Heap) (locs : List Loc) (ls : Array Slot), gG E A s.heap (rR E ar rr ++ []) H locs → lv_has ls 2 [(0, .ref (ar 0)), (1, .int x1)] → k6 x1 rr = some res → W p l e (rmD 3 0 0) s m args below meth c H locs 0 0 Q (F0 m 6 ls [])), ∀  (x1 : Int32) (rr : RS) (H : Heap) (locs : List Loc) (ls : Array Slot), gG E A s.heap (rR E ar rr ++ []) H locs → lv_has ls 2 [(0, .ref (ar 0)), (1, .int x1)] → fX8_sum_L42 N k6 x1 rr = some res → W p l e (rmD 3 0 0) s m args below meth c H locs 0 0 Q (F0 m 42 ls []) := by
    intro k6 hk6 x1 rr H locs ls hG hl h
    rw [fX8_sum_L42] at h
    refine lv_aload_n hx hb dX8_sum_42 rfl (lv_at hl 0 rfl) ?_
    refine gL_f (v := .int (rr 0 2)) C hG kX8 0 2 rfl (by decide) rfl q494 rfl dX8_sum_43 ?_
    refine lv_if_ne (tgt := 69) hx hb dX8_sum_46 (by decide) (fun c46 => ?_) (fun c46 => ?_)
    · replace h := ie c46 h
      exact hret _ _ _ _ _ h hG dX8_sum_69
    · replace h := it c46 h
      refine lv_aload_n hx hb dX8_sum_49 rfl (lv_at hl 0 rfl) ?_
      refine lv_dup hx hb dX8_sum_50 rfl ?_
      refine gL_f (v := .int (rr 0 8)) C hG kX8 0 8 rfl (by decide) rfl q502 rfl dX8_sum_51 ?_
      refine lv_iconst (v := 1) hx hb dX8_sum_54 (by decide) ?_
      refine lv_iadd hx hb dX8_sum_55 ?_
      obtain ⟨rr_1, err_1, h⟩ := thn_some h
      refine gS_f (v := .int ((rr 0 8) + 1)) (ws' := (rR E ar rr_1 ++ [])) C hG kX8 0 8 rfl (by decide) q502 rfl rfl rfl rfl (by show 8 < 14; decide) dX8_sum_56 (by rw [err_1]; rfl) (fun H locs hG => ?_)
      refine lv_aload_n hx hb dX8_sum_59 rfl (lv_at hl 0 rfl) ?_
      obtain ⟨r2, hcr2, h⟩ := bnd_some h
      refine gF_v (ws' := (rR E ar r2 ++ [])) C hG (pin pnil) (List.Perm.symm (pin pnil)) (gR_V (As := []) (rest := []) C hz hl.1 hG (pin pnil) (c_X8_factor l E ar N rr_1 hcr2 H.size) okX8_factor q716 0 rfl rfl rfl (Nat.le_of_ble_eq_true rfl) (by omega) ⟨Nat.le_refl _, Nat.le_refl _⟩ dX8_sum_60) (fun H locs hG => ?_)
      refine lv_iinc (v := (x1 + 1)) (lv' := [(1, .int (x1 + 1)), (0, .ref (ar 0))]) hx hb dX8_sum_63 hl (k := 1) rfl (congrArg (x1 + ·) (by decide : Int32.ofInt 1 = 1)) (by decide) rfl (fun ls hl => ?_)
      refine lv_goto (tgt := 6) hx hb dX8_sum_66 (by decide) ?_
      exact hk6 (x1 + 1) r2 _ _ _ hG (lv_sub hl [1, 0] rfl) h
  have K6 : ∀ (k : Nat), ∀  (x1 : Int32) (rr : RS) (H : Heap) (locs : List Loc) (ls : Array Slot), gG E A s.heap (rR E ar rr ++ []) H locs → lv_has ls 2 [(0, .ref (ar 0)), (1, .int x1)] → fX8_sum_L6 N k x1 rr = some res → W p l e (rmD 3 0 0) s m args below meth c H locs 0 0 Q (F0 m 6 ls []) := by
    intro k
    induction k with
    | zero => intro x1 rr H locs ls hG hl h; exact absurd (show none = _ from h) (by simp)
    | succ k ih =>
      intro x1 rr H locs ls hG hl h
      rw [fX8_sum_L6] at h
      refine lv_iload_n hx hb dX8_sum_6 rfl (lv_at hl 1 rfl) ?_
      refine lv_aload_n hx hb dX8_sum_7 rfl (lv_at hl 0 rfl) ?_
      refine gL_f (v := .int (rr 0 7)) C hG kX8 0 7 rfl (by decide) rfl q501 rfl dX8_sum_8 ?_
      refine lv_icmp_ge (tgt := 69) hx hb dX8_sum_11 (by decide) (fun c11 => ?_) (fun c11 => ?_)
      · replace h := it c11 h
        exact hret _ _ _ _ _ h hG dX8_sum_69
      · replace h := ie c11 h
        refine lv_aload_n hx hb dX8_sum_14 rfl (lv_at hl 0 rfl) ?_
        refine gL_f (v := .ref (ar 2)) C hG kX8 0 4 rfl (by decide) rfl q498 rfl dX8_sum_15 ?_
        refine lv_aload_n hx hb dX8_sum_18 rfl (lv_at hl 0 rfl) ?_
        refine gL_f (v := .int (rr 0 8)) C hG kX8 0 8 rfl (by decide) rfl q502 rfl dX8_sum_19 ?_
        obtain ⟨b1, h⟩ := ck_some h
        refine gL_i (v := (rr 2 (rr 0 8).toNatClampNeg)) C hG 2 rfl (inb_in b1) rfl dX8_sum_22 ?_
        refine lv_bipush (v := 43) hx hb dX8_sum_23 (by decide) ?_
        refine lv_icmp_eq (tgt := 42) hx hb dX8_sum_25 (by decide) (fun c25 => ?_) (fun c25 => ?_)
        · replace h := it c25 h
          exact K42 _ ih x1 rr _ _ _ hG (lv_sub hl [0, 1] rfl) h
        · replace h := ie c25 h
          refine lv_aload_n hx hb dX8_sum_28 rfl (lv_at hl 0 rfl) ?_
          refine gL_f (v := .ref (ar 2)) C hG kX8 0 4 rfl (by decide) rfl q498 rfl dX8_sum_29 ?_
          refine lv_aload_n hx hb dX8_sum_32 rfl (lv_at hl 0 rfl) ?_
          refine gL_f (v := .int (rr 0 8)) C hG kX8 0 8 rfl (by decide) rfl q502 rfl dX8_sum_33 ?_
          refine gL_i (v := (rr 2 (rr 0 8).toNatClampNeg)) C hG 2 rfl (inb_in b1) rfl dX8_sum_36 ?_
          refine lv_bipush (v := 42) hx hb dX8_sum_37 (by decide) ?_
          refine lv_icmp_ne (tgt := 69) hx hb dX8_sum_39 (by decide) (fun c39 => ?_) (fun c39 => ?_)
          · replace h := ie c39 h
            exact hret _ _ _ _ _ h hG dX8_sum_69
          · replace h := it c39 h
            exact K42 _ ih x1 rr _ _ _ hG (lv_sub hl [0, 1] rfl) h
  rw [fX8_sum] at h
  refine lv_aload_n hx hb dX8_sum_0 rfl (lv_at hl 0 rfl) ?_
  obtain ⟨r1, hcr1, h⟩ := bnd_some h
  refine gF_v (ws' := (rR E ar r1 ++ [])) C hG (pin pnil) (List.Perm.symm (pin pnil)) (gR_V (As := []) (rest := []) C hz hl.1 hG (pin pnil) (c_X8_factor l E ar N rr hcr1 H.size) okX8_factor q716 0 rfl rfl rfl (Nat.le_of_ble_eq_true rfl) (by omega) ⟨Nat.le_refl _, Nat.le_refl _⟩ dX8_sum_1) (fun H locs hG => ?_)
  refine lv_iconst (v := 0) hx hb dX8_sum_4 (by decide) ?_
  refine lv_istore_n (lv' := [(1, .int 0), (0, .ref (ar 0))]) hx hb dX8_sum_5 rfl hl (by decide) rfl (fun ls hl => ?_)
  exact K6 N 0 r1 _ _ _ hG (lv_sub hl [1, 0] rfl) h
set_option maxHeartbeats 4000000 in
set_option maxRecDepth 100000 in
theorem c_X8_take (l : Launch) (E : GE) (ar : Nat → Nat) (N : Nat) (x1 : Int32) (rr : RS) {res : RS} (h : fX8_take N x1 rr = some res) : gMv l E yX8_take cX8_take 2 2 0 0 [.ref (ar 0), .int x1] (rR E ar rr ++ []) (rR E ar res ++ []) := by
  refine gMv_of (own := RX8) (by decide +kernel) rfl (Nat.le_of_ble_eq_true rfl) ?_
  intro p e s m args below meth c A ls Q H locs C hz hl hG hin hret
  have hx := C.1.1
  have hb := C.1.2.1
  have hts := C.1.2.2.2.2
  have hown := C.1.2.2.2.1
  have hl : lv_has ls 2 [(0, .ref (ar 0)), (1, .int x1)] := hl
  replace hret : ∀ (rr0 : RS) (H : Heap) (locs : List Loc) (pc : Nat) (ls' : Array Slot), some rr0 = some res → gG E A s.heap (rR E ar rr0 ++ []) H locs → decode cX8_take pc = .ok (.return_, 1) → W p l e (rmD 2 0 0) s m args below meth c H locs 0 0 Q (F0 m pc ls' []) := by
    intro rr0 H locs pc ls' e0; cases e0; exact hret H locs pc ls'
  have K33 : ∀  (rr : RS) (H : Heap) (locs : List Loc) (ls : Array Slot), gG E A s.heap (rR E ar rr ++ []) H locs → lv_has ls 2 [(0, .ref (ar 0))] → fX8_take_L33 N x1 rr = some res → W p l e (rmD 2 0 0) s m args below meth c H locs 0 0 Q (F0 m 33 ls []) := by
    intro rr H locs ls hG hl h
    rw [fX8_take_L33] at h
    refine lv_aload_n hx hb dX8_take_33 rfl (lv_at hl 0 rfl) ?_
    refine lv_iconst (v := 1) hx hb dX8_take_34 (by decide) ?_
    obtain ⟨r1, hcr1, h⟩ := bnd_some h
    refine gF_v (ws' := (rR E ar r1 ++ [])) C hG (pin pnil) (List.Perm.symm (pin pnil)) (gR_V (As := [.int 1]) (rest := []) C hz hl.1 hG (pin pnil) (c_X8_blame l E ar N 1 rr hcr1 H.size) okX8_blame q700 0 rfl rfl rfl (Nat.le_of_ble_eq_true rfl) (by omega) ⟨Nat.le_refl _, Nat.le_refl _⟩ dX8_take_35) (fun H locs hG => ?_)
    exact hret _ _ _ _ _ h hG dX8_take_38
  rw [fX8_take] at h
  refine lv_aload_n hx hb dX8_take_0 rfl (lv_at hl 0 rfl) ?_
  refine gL_f (v := .int (rr 0 2)) C hG kX8 0 2 rfl (by decide) rfl q494 rfl dX8_take_1 ?_
  refine lv_if_ne (tgt := 33) hx hb dX8_take_4 (by decide) (fun c4 => ?_) (fun c4 => ?_)
  · replace h := ie c4 h
    exact K33 rr _ _ _ hG (lv_sub hl [0] rfl) h
  · replace h := it c4 h
    refine lv_aload_n hx hb dX8_take_7 rfl (lv_at hl 0 rfl) ?_
    refine gL_f (v := .ref (ar 2)) C hG kX8 0 4 rfl (by decide) rfl q498 rfl dX8_take_8 ?_
    refine lv_aload_n hx hb dX8_take_11 rfl (lv_at hl 0 rfl) ?_
    refine gL_f (v := .int (rr 0 8)) C hG kX8 0 8 rfl (by decide) rfl q502 rfl dX8_take_12 ?_
    obtain ⟨b1, h⟩ := ck_some h
    refine gL_i (v := (rr 2 (rr 0 8).toNatClampNeg)) C hG 2 rfl (inb_in b1) rfl dX8_take_15 ?_
    refine lv_iload_n hx hb dX8_take_16 rfl (lv_at hl 1 rfl) ?_
    refine lv_icmp_ne (tgt := 33) hx hb dX8_take_17 (by decide) (fun c17 => ?_) (fun c17 => ?_)
    · replace h := ie c17 h
      exact K33 rr _ _ _ hG (lv_sub hl [0] rfl) h
    · replace h := it c17 h
      refine lv_aload_n hx hb dX8_take_20 rfl (lv_at hl 0 rfl) ?_
      refine lv_dup hx hb dX8_take_21 rfl ?_
      refine gL_f (v := .int (rr 0 8)) C hG kX8 0 8 rfl (by decide) rfl q502 rfl dX8_take_22 ?_
      refine lv_iconst (v := 1) hx hb dX8_take_25 (by decide) ?_
      refine lv_iadd hx hb dX8_take_26 ?_
      obtain ⟨rr_2, err_2, h⟩ := thn_some h
      refine gS_f (v := .int ((rr 0 8) + 1)) (ws' := (rR E ar rr_2 ++ [])) C hG kX8 0 8 rfl (by decide) q502 rfl rfl rfl rfl (by show 8 < 14; decide) dX8_take_27 (by rw [err_2]; rfl) (fun H locs hG => ?_)
      refine lv_goto (tgt := 38) hx hb dX8_take_30 (by decide) ?_
      exact hret _ _ _ _ _ h hG dX8_take_38
set_option maxHeartbeats 4000000 in
set_option maxRecDepth 100000 in
theorem c_X8_sums (l : Launch) (E : GE) (ar : Nat → Nat) (N : Nat) (x1 : Int32) (rr : RS) {res : RS} (h : fX8_sums N x1 rr = some res) : gMv l E yX8_sums cX8_sums 3 4 0 0 [.ref (ar 0), .int x1] (rR E ar rr ++ []) (rR E ar res ++ []) := by
  refine gMv_of (own := RX8) (by decide +kernel) rfl (Nat.le_of_ble_eq_true rfl) ?_
  intro p e s m args below meth c A ls Q H locs C hz hl hG hin hret
  have hx := C.1.1
  have hb := C.1.2.1
  have hts := C.1.2.2.2.2
  have hown := C.1.2.2.2.1
  have hl : lv_has ls 3 [(0, .ref (ar 0)), (1, .int x1)] := hl
  replace hret : ∀ (rr0 : RS) (H : Heap) (locs : List Loc) (pc : Nat) (ls' : Array Slot), some rr0 = some res → gG E A s.heap (rR E ar rr0 ++ []) H locs → decode cX8_sums pc = .ok (.return_, 1) → W p l e (rmD 4 0 0) s m args below meth c H locs 0 0 Q (F0 m pc ls' []) := by
    intro rr0 H locs pc ls' e0; cases e0; exact hret H locs pc ls'
  have K6 : ∀ (k : Nat), ∀  (x2 : Int32) (rr : RS) (H : Heap) (locs : List Loc) (ls : Array Slot), gG E A s.heap (rR E ar rr ++ []) H locs → lv_has ls 3 [(0, .ref (ar 0)), (1, .int x1), (2, .int x2)] → fX8_sums_L6 N x1 k x2 rr = some res → W p l e (rmD 4 0 0) s m args below meth c H locs 0 0 Q (F0 m 6 ls []) := by
    intro k
    induction k with
    | zero => intro x2 rr H locs ls hG hl h; exact absurd (show none = _ from h) (by simp)
    | succ k ih =>
      intro x2 rr H locs ls hG hl h
      rw [fX8_sums_L6] at h
      refine lv_iload_n hx hb dX8_sums_6 rfl (lv_at hl 2 rfl) ?_
      refine lv_iload_n hx hb dX8_sums_7 rfl (lv_at hl 1 rfl) ?_
      refine lv_icmp_ge (tgt := 27) hx hb dX8_sums_8 (by decide) (fun c8 => ?_) (fun c8 => ?_)
      · replace h := it c8 h
        exact hret _ _ _ _ _ h hG dX8_sums_27
      · replace h := ie c8 h
        refine lv_aload_n hx hb dX8_sums_11 rfl (lv_at hl 0 rfl) ?_
        refine lv_bipush (v := 44) hx hb dX8_sums_12 (by decide) ?_
        obtain ⟨r1, hcr1, h⟩ := bnd_some h
        refine gF_v (ws' := (rR E ar r1 ++ [])) C hG (pin pnil) (List.Perm.symm (pin pnil)) (gR_V (As := [.int 44]) (rest := []) C hz hl.1 hG (pin pnil) (c_X8_take l E ar N 44 rr hcr1 H.size) okX8_take q720 0 rfl rfl rfl (Nat.le_of_ble_eq_true rfl) (by omega) ⟨Nat.le_refl _, Nat.le_refl _⟩ dX8_sums_14) (fun H locs hG => ?_)
        refine lv_aload_n hx hb dX8_sums_17 rfl (lv_at hl 0 rfl) ?_
        obtain ⟨r2, hcr2, h⟩ := bnd_some h
        refine gF_v (ws' := (rR E ar r2 ++ [])) C hG (pin pnil) (List.Perm.symm (pin pnil)) (gR_V (As := []) (rest := []) C hz hl.1 hG (pin pnil) (c_X8_sum l E ar N r1 hcr2 H.size) okX8_sum q712 0 rfl rfl rfl (Nat.le_of_ble_eq_true rfl) (by omega) ⟨Nat.le_refl _, Nat.le_refl _⟩ dX8_sums_18) (fun H locs hG => ?_)
        refine lv_iinc (v := (x2 + 1)) (lv' := [(2, .int (x2 + 1)), (0, .ref (ar 0)), (1, .int x1)]) hx hb dX8_sums_21 hl (k := 2) rfl (congrArg (x2 + ·) (by decide : Int32.ofInt 1 = 1)) (by decide) rfl (fun ls hl => ?_)
        refine lv_goto (tgt := 6) hx hb dX8_sums_24 (by decide) ?_
        exact ih (x2 + 1) r2 _ _ _ hG (lv_sub hl [1, 2, 0] rfl) h
  rw [fX8_sums] at h
  refine lv_aload_n hx hb dX8_sums_0 rfl (lv_at hl 0 rfl) ?_
  obtain ⟨r1, hcr1, h⟩ := bnd_some h
  refine gF_v (ws' := (rR E ar r1 ++ [])) C hG (pin pnil) (List.Perm.symm (pin pnil)) (gR_V (As := []) (rest := []) C hz hl.1 hG (pin pnil) (c_X8_sum l E ar N rr hcr1 H.size) okX8_sum q712 0 rfl rfl rfl (Nat.le_of_ble_eq_true rfl) (by omega) ⟨Nat.le_refl _, Nat.le_refl _⟩ dX8_sums_1) (fun H locs hG => ?_)
  refine lv_iconst (v := 1) hx hb dX8_sums_4 (by decide) ?_
  refine lv_istore_n (lv' := [(2, .int 1), (0, .ref (ar 0)), (1, .int x1)]) hx hb dX8_sums_5 rfl hl (by decide) rfl (fun ls hl => ?_)
  exact K6 N 1 r1 _ _ _ hG (lv_sub hl [1, 2, 0] rfl) h
set_option maxHeartbeats 4000000 in
set_option maxRecDepth 100000 in
theorem c_X8_times (l : Launch) (E : GE) (ar : Nat → Nat) (N : Nat) (rr : RS) {res : RS} (h : fX8_times N rr = some res) : gMv l E yX8_times cX8_times 1 3 0 0 [.ref (ar 0)] (rR E ar rr ++ []) (rR E ar res ++ []) := by
  refine gMv_of (own := RX8) (by decide +kernel) rfl (Nat.le_of_ble_eq_true rfl) ?_
  intro p e s m args below meth c A ls Q H locs C hz hl hG hin hret
  have hx := C.1.1
  have hb := C.1.2.1
  have hts := C.1.2.2.2.2
  have hown := C.1.2.2.2.1
  have hl : lv_has ls 1 [(0, .ref (ar 0))] := hl
  replace hret : ∀ (rr0 : RS) (H : Heap) (locs : List Loc) (pc : Nat) (ls' : Array Slot), some rr0 = some res → gG E A s.heap (rR E ar rr0 ++ []) H locs → decode cX8_times pc = .ok (.return_, 1) → W p l e (rmD 3 0 0) s m args below meth c H locs 0 0 Q (F0 m pc ls' []) := by
    intro rr0 H locs pc ls' e0; cases e0; exact hret H locs pc ls'
  have K45 : ∀  (rr : RS) (H : Heap) (locs : List Loc) (ls : Array Slot), gG E A s.heap (rR E ar rr ++ []) H locs → lv_has ls 1 [(0, .ref (ar 0))] → fX8_times_L45 N rr = some res → W p l e (rmD 3 0 0) s m args below meth c H locs 0 0 Q (F0 m 45 ls []) := by
    intro rr H locs ls hG hl h
    rw [fX8_times_L45] at h
    refine lv_aload_n hx hb dX8_times_45 rfl (lv_at hl 0 rfl) ?_
    refine lv_iconst (v := 2) hx hb dX8_times_46 (by decide) ?_
    obtain ⟨r1, hcr1, h⟩ := bnd_some h
    refine gF_v (ws' := (rR E ar r1 ++ [])) C hG (pin pnil) (List.Perm.symm (pin pnil)) (gR_V (As := [.int 2]) (rest := []) C hz hl.1 hG (pin pnil) (c_X8_take l E ar N 2 rr hcr1 H.size) okX8_take q720 0 rfl rfl rfl (Nat.le_of_ble_eq_true rfl) (by omega) ⟨Nat.le_refl _, Nat.le_refl _⟩ dX8_times_47) (fun H locs hG => ?_)
    exact hret _ _ _ _ _ h hG dX8_times_50
  have K40 : ∀  (rr : RS) (H : Heap) (locs : List Loc) (ls : Array Slot), gG E A s.heap (rR E ar rr ++ []) H locs → lv_has ls 1 [(0, .ref (ar 0))] → fX8_times_L40 N rr = some res → W p l e (rmD 3 0 0) s m args below meth c H locs 0 0 Q (F0 m 40 ls []) := by
    intro rr H locs ls hG hl h
    rw [fX8_times_L40] at h
    refine lv_aload_n hx hb dX8_times_40 rfl (lv_at hl 0 rfl) ?_
    refine lv_iconst (v := 2) hx hb dX8_times_41 (by decide) ?_
    obtain ⟨r1, hcr1, h⟩ := bnd_some h
    refine gF_v (ws' := (rR E ar r1 ++ [])) C hG (pin pnil) (List.Perm.symm (pin pnil)) (gR_V (As := [.int 2]) (rest := []) C hz hl.1 hG (pin pnil) (c_X8_blame l E ar N 2 rr hcr1 H.size) okX8_blame q700 0 rfl rfl rfl (Nat.le_of_ble_eq_true rfl) (by omega) ⟨Nat.le_refl _, Nat.le_refl _⟩ dX8_times_42) (fun H locs hG => ?_)
    exact K45 r1 _ _ _ hG (lv_sub hl [0] rfl) h
  rw [fX8_times] at h
  refine lv_aload_n hx hb dX8_times_0 rfl (lv_at hl 0 rfl) ?_
  refine gL_f (v := .ref (ar 2)) C hG kX8 0 4 rfl (by decide) rfl q498 rfl dX8_times_1 ?_
  refine lv_aload_n hx hb dX8_times_4 rfl (lv_at hl 0 rfl) ?_
  refine gL_f (v := .int (rr 0 8)) C hG kX8 0 8 rfl (by decide) rfl q502 rfl dX8_times_5 ?_
  obtain ⟨b1, h⟩ := ck_some h
  refine gL_i (v := (rr 2 (rr 0 8).toNatClampNeg)) C hG 2 rfl (inb_in b1) rfl dX8_times_8 ?_
  refine lv_iconst (v := 2) hx hb dX8_times_9 (by decide) ?_
  refine lv_icmp_ne (tgt := 45) hx hb dX8_times_10 (by decide) (fun c10 => ?_) (fun c10 => ?_)
  · replace h := ie c10 h
    exact K45 rr _ _ _ hG (lv_sub hl [0] rfl) h
  · replace h := it c10 h
    refine lv_aload_n hx hb dX8_times_13 rfl (lv_at hl 0 rfl) ?_
    refine gL_f (v := .ref (ar 3)) C hG kX8 0 5 rfl (by decide) rfl q499 rfl dX8_times_14 ?_
    refine lv_aload_n hx hb dX8_times_17 rfl (lv_at hl 0 rfl) ?_
    refine gL_f (v := .int (rr 0 8)) C hG kX8 0 8 rfl (by decide) rfl q502 rfl dX8_times_18 ?_
    refine gL_i (v := (rr 3 (rr 0 8).toNatClampNeg)) C hG 3 rfl (inb_in b1) rfl dX8_times_21 ?_
    refine lv_iconst (v := 1) hx hb dX8_times_22 (by decide) ?_
    refine lv_icmp_lt (tgt := 40) hx hb dX8_times_23 (by decide) (fun c23 => ?_) (fun c23 => ?_)
    · replace h := it c23 h
      exact K40 rr _ _ _ hG (lv_sub hl [0] rfl) h
    · replace h := ie c23 h
      refine lv_aload_n hx hb dX8_times_26 rfl (lv_at hl 0 rfl) ?_
      refine gL_f (v := .ref (ar 3)) C hG kX8 0 5 rfl (by decide) rfl q499 rfl dX8_times_27 ?_
      refine lv_aload_n hx hb dX8_times_30 rfl (lv_at hl 0 rfl) ?_
      refine gL_f (v := .int (rr 0 8)) C hG kX8 0 8 rfl (by decide) rfl q502 rfl dX8_times_31 ?_
      refine gL_i (v := (rr 3 (rr 0 8).toNatClampNeg)) C hG 3 rfl (inb_in b1) rfl dX8_times_34 ?_
      refine lv_bipush (v := 9) hx hb dX8_times_35 (by decide) ?_
      refine lv_icmp_le (tgt := 45) hx hb dX8_times_37 (by decide) (fun c37 => ?_) (fun c37 => ?_)
      · replace h := it c37 h
        exact K45 rr _ _ _ hG (lv_sub hl [0] rfl) h
      · replace h := ie c37 h
        exact K40 rr _ _ _ hG (lv_sub hl [0] rfl) h
set_option maxHeartbeats 4000000 in
set_option maxRecDepth 100000 in
theorem c_X8_open (l : Launch) (E : GE) (ar : Nat → Nat) (N : Nat) (x1 : Int32) (rr : RS) {res : RS} (h : fX8_open N x1 rr = some res) : gMv l E yX8_open cX8_open 3 3 0 0 [.ref (ar 0), .int x1] (rR E ar rr ++ []) (rR E ar res ++ []) := by
  refine gMv_of (own := RX8) (by decide +kernel) rfl (Nat.le_of_ble_eq_true rfl) ?_
  intro p e s m args below meth c A ls Q H locs C hz hl hG hin hret
  have hx := C.1.1
  have hb := C.1.2.1
  have hts := C.1.2.2.2.2
  have hown := C.1.2.2.2.1
  have hl : lv_has ls 3 [(0, .ref (ar 0)), (1, .int x1)] := hl
  replace hret : ∀ (rr0 : RS) (H : Heap) (locs : List Loc) (pc : Nat) (ls' : Array Slot), some rr0 = some res → gG E A s.heap (rR E ar rr0 ++ []) H locs → decode cX8_open pc = .ok (.return_, 1) → W p l e (rmD 3 0 0) s m args below meth c H locs 0 0 Q (F0 m pc ls' []) := by
    intro rr0 H locs pc ls' e0; cases e0; exact hret H locs pc ls'
  have K63 : ∀  (rr : RS) (H : Heap) (locs : List Loc) (ls : Array Slot), gG E A s.heap (rR E ar rr ++ []) H locs → lv_has ls 3 [(0, .ref (ar 0))] → fX8_open_L63 N x1 rr = some res → W p l e (rmD 3 0 0) s m args below meth c H locs 0 0 Q (F0 m 63 ls []) := by
    intro rr H locs ls hG hl h
    rw [fX8_open_L63] at h
    refine lv_aload_n hx hb dX8_open_63 rfl (lv_at hl 0 rfl) ?_
    refine lv_dup hx hb dX8_open_64 rfl ?_
    refine gL_f (v := .int (rr 0 10)) C hG kX8 0 10 rfl (by decide) rfl q504 rfl dX8_open_65 ?_
    refine lv_iconst (v := 1) hx hb dX8_open_68 (by decide) ?_
    refine lv_iadd hx hb dX8_open_69 ?_
    obtain ⟨rr_1, err_1, h⟩ := thn_some h
    refine gS_f (v := .int ((rr 0 10) + 1)) (ws' := (rR E ar rr_1 ++ [])) C hG kX8 0 10 rfl (by decide) q504 rfl rfl rfl rfl (by show 10 < 14; decide) dX8_open_70 (by rw [err_1]; rfl) (fun H locs hG => ?_)
    exact hret _ _ _ _ _ h hG dX8_open_73
  rw [fX8_open] at h
  refine lv_aload_n hx hb dX8_open_0 rfl (lv_at hl 0 rfl) ?_
  refine gL_f (v := .int (rr 0 8)) C hG kX8 0 8 rfl (by decide) rfl q502 rfl dX8_open_1 ?_
  obtain ⟨x2_1, ex2_1, h⟩ := thn_some h
  refine g_int ex2_1 ?_
  refine lv_istore_n (lv' := [(2, .int x2_1), (0, .ref (ar 0)), (1, .int x1)]) hx hb dX8_open_4 rfl hl (by decide) rfl (fun ls hl => ?_)
  refine lv_aload_n hx hb dX8_open_5 rfl (lv_at hl 1 rfl) ?_
  refine lv_bipush (v := 123) hx hb dX8_open_6 (by decide) ?_
  obtain ⟨r2, hcr2, h⟩ := bnd_some h
  refine gF_v (ws' := (rR E ar r2 ++ [])) C hG (pin pnil) (List.Perm.symm (pin pnil)) (gR_V (As := [.int 123]) (rest := []) C hz hl.1 hG (pin pnil) (c_X8_take l E ar N 123 rr hcr2 H.size) okX8_take q720 0 rfl rfl rfl (Nat.le_of_ble_eq_true rfl) (by omega) ⟨Nat.le_refl _, Nat.le_refl _⟩ dX8_open_8) (fun H locs hG => ?_)
  refine lv_aload_n hx hb dX8_open_11 rfl (lv_at hl 1 rfl) ?_
  refine gL_f (v := .int (r2 0 2)) C hG kX8 0 2 rfl (by decide) rfl q494 rfl dX8_open_12 ?_
  refine lv_if_ne (tgt := 73) hx hb dX8_open_15 (by decide) (fun c15 => ?_) (fun c15 => ?_)
  · replace h := ie c15 h
    exact hret _ _ _ _ _ h hG dX8_open_73
  · replace h := it c15 h
    refine lv_aload_n hx hb dX8_open_18 rfl (lv_at hl 1 rfl) ?_
    refine gL_f (v := .int (r2 0 10)) C hG kX8 0 10 rfl (by decide) rfl q504 rfl dX8_open_19 ?_
    refine lv_iconst (v := 3) hx hb dX8_open_22 (by decide) ?_
    refine lv_icmp_ge (tgt := 73) hx hb dX8_open_23 (by decide) (fun c23 => ?_) (fun c23 => ?_)
    · replace h := it c23 h
      exact hret _ _ _ _ _ h hG dX8_open_73
    · replace h := ie c23 h
      refine lv_aload_n hx hb dX8_open_26 rfl (lv_at hl 1 rfl) ?_
      refine gL_f (v := .ref (ar 5)) C hG kX8 0 11 rfl (by decide) rfl q505 rfl dX8_open_27 ?_
      refine lv_aload_n hx hb dX8_open_30 rfl (lv_at hl 1 rfl) ?_
      refine gL_f (v := .int (r2 0 10)) C hG kX8 0 10 rfl (by decide) rfl q504 rfl dX8_open_31 ?_
      refine lv_iload_n hx hb dX8_open_34 rfl (lv_at hl 0 rfl) ?_
      obtain ⟨b3, h⟩ := ck_some h
      obtain ⟨rr_4, err_4, h⟩ := thn_some h
      refine gS_i (x := x2_1) (ws' := (rR E ar rr_4 ++ [])) C hG 5 rfl (inb_in b3) rfl dX8_open_35 (by rw [err_4]; rfl) (fun H locs hG => ?_)
      refine lv_iload_n hx hb dX8_open_36 rfl (lv_at hl 2 rfl) ?_
      refine lv_if_eq (tgt := 63) hx hb dX8_open_37 (by decide) (fun c37 => ?_) (fun c37 => ?_)
      · replace h := it c37 h
        exact K63 rr_4 _ _ _ hG (lv_sub hl [1] rfl) h
      · replace h := ie c37 h
        refine lv_aload_n hx hb dX8_open_40 rfl (lv_at hl 1 rfl) ?_
        refine gL_f (v := .ref (ar 6)) C hG kX8 0 13 rfl (by decide) rfl q507 rfl dX8_open_41 ?_
        refine lv_aload_n hx hb dX8_open_44 rfl (lv_at hl 1 rfl) ?_
        refine gL_f (v := .int (rr_4 0 12)) C hG kX8 0 12 rfl (by decide) rfl q506 rfl dX8_open_45 ?_
        refine lv_aload_n hx hb dX8_open_48 rfl (lv_at hl 1 rfl) ?_
        refine gL_f (v := .int (rr_4 0 10)) C hG kX8 0 10 rfl (by decide) rfl q504 rfl dX8_open_49 ?_
        obtain ⟨b5, h⟩ := ck_some h
        obtain ⟨rr_6, err_6, h⟩ := thn_some h
        refine gS_i (x := (rr_4 0 10)) (ws' := (rR E ar rr_6 ++ [])) C hG 6 rfl (inb_in b5) rfl dX8_open_52 (by rw [err_6]; rfl) (fun H locs hG => ?_)
        refine lv_aload_n hx hb dX8_open_53 rfl (lv_at hl 1 rfl) ?_
        refine lv_dup hx hb dX8_open_54 rfl ?_
        refine gL_f (v := .int (rr_6 0 12)) C hG kX8 0 12 rfl (by decide) rfl q506 rfl dX8_open_55 ?_
        refine lv_iconst (v := 1) hx hb dX8_open_58 (by decide) ?_
        refine lv_iadd hx hb dX8_open_59 ?_
        obtain ⟨rr_7, err_7, h⟩ := thn_some h
        refine gS_f (v := .int ((rr_6 0 12) + 1)) (ws' := (rR E ar rr_7 ++ [])) C hG kX8 0 12 rfl (by decide) q506 rfl rfl rfl rfl (by show 12 < 14; decide) dX8_open_60 (by rw [err_7]; rfl) (fun H locs hG => ?_)
        exact K63 rr_7 _ _ _ hG (lv_sub hl [1] rfl) h
set_option maxHeartbeats 4000000 in
set_option maxRecDepth 100000 in
theorem c_X8_behindWord (l : Launch) (E : GE) (ar : Nat → Nat) (N : Nat) (x1 : Int32) (rr : RS) {res : RS} (h : fX8_behindWord N x1 rr = some res) : gMv l E yX8_behindWord cX8_behindWord 2 5 0 0 [.ref (ar 0), .int x1] (rR E ar rr ++ []) (rR E ar res ++ []) := by
  refine gMv_of (own := RX8) (by decide +kernel) rfl (Nat.le_of_ble_eq_true rfl) ?_
  intro p e s m args below meth c A ls Q H locs C hz hl hG hin hret
  have hx := C.1.1
  have hb := C.1.2.1
  have hts := C.1.2.2.2.2
  have hown := C.1.2.2.2.1
  have hl : lv_has ls 2 [(0, .ref (ar 0)), (1, .int x1)] := hl
  replace hret : ∀ (rr0 : RS) (H : Heap) (locs : List Loc) (pc : Nat) (ls' : Array Slot), some rr0 = some res → gG E A s.heap (rR E ar rr0 ++ []) H locs → decode cX8_behindWord pc = .ok (.return_, 1) → W p l e (rmD 5 0 0) s m args below meth c H locs 0 0 Q (F0 m pc ls' []) := by
    intro rr0 H locs pc ls' e0; cases e0; exact hret H locs pc ls'
  have K110 : ∀  (s1 : Int32) (rr : RS) (H : Heap) (locs : List Loc) (ls : Array Slot), gG E A s.heap (rR E ar rr ++ []) H locs → lv_has ls 2 [(0, .ref (ar 0))] → fX8_behindWord_L110 N x1 s1 rr = some res → W p l e (rmD 5 0 0) s m args below meth c H locs 0 0 Q (F0 m 110 ls [.int s1, .ref (ar 0)]) := by
    intro s1 rr H locs ls hG hl h
    rw [fX8_behindWord_L110] at h
    obtain ⟨r1, hcr1, h⟩ := bnd_some h
    refine gF_v (ws' := (rR E ar r1 ++ [])) C hG (pin pnil) (List.Perm.symm (pin pnil)) (gR_V (As := [.int s1]) (rest := []) C hz hl.1 hG (pin pnil) (c_X8_take l E ar N s1 rr hcr1 H.size) okX8_take q720 0 rfl rfl rfl (Nat.le_of_ble_eq_true rfl) (by omega) ⟨Nat.le_refl _, Nat.le_refl _⟩ dX8_behindWord_110) (fun H locs hG => ?_)
    refine lv_aload_n hx hb dX8_behindWord_113 rfl (lv_at hl 0 rfl) ?_
    obtain ⟨r2, hcr2, h⟩ := bnd_some h
    refine gF_v (ws' := (rR E ar r2 ++ [])) C hG (pin pnil) (List.Perm.symm (pin pnil)) (gR_V (As := []) (rest := []) C hz hl.1 hG (pin pnil) (c_X8_sum l E ar N r1 hcr2 H.size) okX8_sum q712 0 rfl rfl rfl (Nat.le_of_ble_eq_true rfl) (by omega) ⟨Nat.le_refl _, Nat.le_refl _⟩ dX8_behindWord_114) (fun H locs hG => ?_)
    refine lv_aload_n hx hb dX8_behindWord_117 rfl (lv_at hl 0 rfl) ?_
    refine lv_iconst (v := 0) hx hb dX8_behindWord_118 (by decide) ?_
    obtain ⟨r3, hcr3, h⟩ := bnd_some h
    refine gF_v (ws' := (rR E ar r3 ++ [])) C hG (pin pnil) (List.Perm.symm (pin pnil)) (gR_V (As := [.int 0]) (rest := []) C hz hl.1 hG (pin pnil) (c_X8_open l E ar N 0 r2 hcr3 H.size) okX8_open q728 0 rfl rfl rfl (Nat.le_of_ble_eq_true rfl) (by omega) ⟨Nat.le_refl _, Nat.le_refl _⟩ dX8_behindWord_119) (fun H locs hG => ?_)
    refine lv_goto (tgt := 131) hx hb dX8_behindWord_122 (by decide) ?_
    exact hret _ _ _ _ _ h hG dX8_behindWord_131
  rw [fX8_behindWord] at h
  refine lv_iload_n hx hb dX8_behindWord_0 rfl (lv_at hl 1 rfl) ?_
  by_cases w1_0 : x1 = 4
  · replace h := it w1_0 h
    refine lv_tableIn (tgt := 44) hx hb dX8_behindWord_1 (by rw [w1_0]; decide) (by rw [w1_0]; decide) (off := 43) (by rw [w1_0]; decide) (by decide) ?_
    refine lv_aload_n hx hb dX8_behindWord_44 rfl (lv_at hl 0 rfl) ?_
    refine lv_iconst (v := 2) hx hb dX8_behindWord_45 (by decide) ?_
    obtain ⟨r1, hcr1, h⟩ := bnd_some h
    refine gF_v (ws' := (rR E ar r1 ++ [])) C hG (pin pnil) (List.Perm.symm (pin pnil)) (gR_V (As := [.int 2]) (rest := []) C hz hl.1 hG (pin pnil) (c_X8_sums l E ar N 2 rr hcr1 H.size) okX8_sums q708 0 rfl rfl rfl (Nat.le_of_ble_eq_true rfl) (by omega) ⟨Nat.le_refl _, Nat.le_refl _⟩ dX8_behindWord_46) (fun H locs hG => ?_)
    refine lv_aload_n hx hb dX8_behindWord_49 rfl (lv_at hl 0 rfl) ?_
    refine lv_bipush (v := 59) hx hb dX8_behindWord_50 (by decide) ?_
    obtain ⟨r2, hcr2, h⟩ := bnd_some h
    refine gF_v (ws' := (rR E ar r2 ++ [])) C hG (pin pnil) (List.Perm.symm (pin pnil)) (gR_V (As := [.int 59]) (rest := []) C hz hl.1 hG (pin pnil) (c_X8_take l E ar N 59 r1 hcr2 H.size) okX8_take q720 0 rfl rfl rfl (Nat.le_of_ble_eq_true rfl) (by omega) ⟨Nat.le_refl _, Nat.le_refl _⟩ dX8_behindWord_52) (fun H locs hG => ?_)
    refine lv_goto (tgt := 131) hx hb dX8_behindWord_55 (by decide) ?_
    exact hret _ _ _ _ _ h hG dX8_behindWord_131
  · replace h := ie w1_0 h
    by_cases w1_1 : x1 = 5
    · replace h := it w1_1 h
      refine lv_tableIn (tgt := 58) hx hb dX8_behindWord_1 (by rw [w1_1]; decide) (by rw [w1_1]; decide) (off := 57) (by rw [w1_1]; decide) (by decide) ?_
      refine lv_aload_n hx hb dX8_behindWord_58 rfl (lv_at hl 0 rfl) ?_
      refine lv_iconst (v := 3) hx hb dX8_behindWord_59 (by decide) ?_
      obtain ⟨r3, hcr3, h⟩ := bnd_some h
      refine gF_v (ws' := (rR E ar r3 ++ [])) C hG (pin pnil) (List.Perm.symm (pin pnil)) (gR_V (As := [.int 3]) (rest := []) C hz hl.1 hG (pin pnil) (c_X8_sums l E ar N 3 rr hcr3 H.size) okX8_sums q708 0 rfl rfl rfl (Nat.le_of_ble_eq_true rfl) (by omega) ⟨Nat.le_refl _, Nat.le_refl _⟩ dX8_behindWord_60) (fun H locs hG => ?_)
      refine lv_aload_n hx hb dX8_behindWord_63 rfl (lv_at hl 0 rfl) ?_
      refine lv_bipush (v := 59) hx hb dX8_behindWord_64 (by decide) ?_
      obtain ⟨r4, hcr4, h⟩ := bnd_some h
      refine gF_v (ws' := (rR E ar r4 ++ [])) C hG (pin pnil) (List.Perm.symm (pin pnil)) (gR_V (As := [.int 59]) (rest := []) C hz hl.1 hG (pin pnil) (c_X8_take l E ar N 59 r3 hcr4 H.size) okX8_take q720 0 rfl rfl rfl (Nat.le_of_ble_eq_true rfl) (by omega) ⟨Nat.le_refl _, Nat.le_refl _⟩ dX8_behindWord_66) (fun H locs hG => ?_)
      refine lv_goto (tgt := 131) hx hb dX8_behindWord_69 (by decide) ?_
      exact hret _ _ _ _ _ h hG dX8_behindWord_131
    · replace h := ie w1_1 h
      by_cases w1_2 : x1 = 6
      · replace h := it w1_2 h
        refine lv_tableIn (tgt := 44) hx hb dX8_behindWord_1 (by rw [w1_2]; decide) (by rw [w1_2]; decide) (off := 43) (by rw [w1_2]; decide) (by decide) ?_
        refine lv_aload_n hx hb dX8_behindWord_44 rfl (lv_at hl 0 rfl) ?_
        refine lv_iconst (v := 2) hx hb dX8_behindWord_45 (by decide) ?_
        obtain ⟨r5, hcr5, h⟩ := bnd_some h
        refine gF_v (ws' := (rR E ar r5 ++ [])) C hG (pin pnil) (List.Perm.symm (pin pnil)) (gR_V (As := [.int 2]) (rest := []) C hz hl.1 hG (pin pnil) (c_X8_sums l E ar N 2 rr hcr5 H.size) okX8_sums q708 0 rfl rfl rfl (Nat.le_of_ble_eq_true rfl) (by omega) ⟨Nat.le_refl _, Nat.le_refl _⟩ dX8_behindWord_46) (fun H locs hG => ?_)
        refine lv_aload_n hx hb dX8_behindWord_49 rfl (lv_at hl 0 rfl) ?_
        refine lv_bipush (v := 59) hx hb dX8_behindWord_50 (by decide) ?_
        obtain ⟨r6, hcr6, h⟩ := bnd_some h
        refine gF_v (ws' := (rR E ar r6 ++ [])) C hG (pin pnil) (List.Perm.symm (pin pnil)) (gR_V (As := [.int 59]) (rest := []) C hz hl.1 hG (pin pnil) (c_X8_take l E ar N 59 r5 hcr6 H.size) okX8_take q720 0 rfl rfl rfl (Nat.le_of_ble_eq_true rfl) (by omega) ⟨Nat.le_refl _, Nat.le_refl _⟩ dX8_behindWord_52) (fun H locs hG => ?_)
        refine lv_goto (tgt := 131) hx hb dX8_behindWord_55 (by decide) ?_
        exact hret _ _ _ _ _ h hG dX8_behindWord_131
      · replace h := ie w1_2 h
        by_cases w1_3 : x1 = 7
        · replace h := it w1_3 h
          refine lv_tableIn (tgt := 125) hx hb dX8_behindWord_1 (by rw [w1_3]; decide) (by rw [w1_3]; decide) (off := 124) (by rw [w1_3]; decide) (by decide) ?_
          refine lv_aload_n hx hb dX8_behindWord_125 rfl (lv_at hl 0 rfl) ?_
          refine lv_bipush (v := 59) hx hb dX8_behindWord_126 (by decide) ?_
          obtain ⟨r7, hcr7, h⟩ := bnd_some h
          refine gF_v (ws' := (rR E ar r7 ++ [])) C hG (pin pnil) (List.Perm.symm (pin pnil)) (gR_V (As := [.int 59]) (rest := []) C hz hl.1 hG (pin pnil) (c_X8_take l E ar N 59 rr hcr7 H.size) okX8_take q720 0 rfl rfl rfl (Nat.le_of_ble_eq_true rfl) (by omega) ⟨Nat.le_refl _, Nat.le_refl _⟩ dX8_behindWord_128) (fun H locs hG => ?_)
          exact hret _ _ _ _ _ h hG dX8_behindWord_131
        · replace h := ie w1_3 h
          by_cases w1_4 : x1 = 8
          · replace h := it w1_4 h
            refine lv_tableIn (tgt := 125) hx hb dX8_behindWord_1 (by rw [w1_4]; decide) (by rw [w1_4]; decide) (off := 124) (by rw [w1_4]; decide) (by decide) ?_
            refine lv_aload_n hx hb dX8_behindWord_125 rfl (lv_at hl 0 rfl) ?_
            refine lv_bipush (v := 59) hx hb dX8_behindWord_126 (by decide) ?_
            obtain ⟨r8, hcr8, h⟩ := bnd_some h
            refine gF_v (ws' := (rR E ar r8 ++ [])) C hG (pin pnil) (List.Perm.symm (pin pnil)) (gR_V (As := [.int 59]) (rest := []) C hz hl.1 hG (pin pnil) (c_X8_take l E ar N 59 rr hcr8 H.size) okX8_take q720 0 rfl rfl rfl (Nat.le_of_ble_eq_true rfl) (by omega) ⟨Nat.le_refl _, Nat.le_refl _⟩ dX8_behindWord_128) (fun H locs hG => ?_)
            exact hret _ _ _ _ _ h hG dX8_behindWord_131
          · replace h := ie w1_4 h
            by_cases w1_5 : x1 = 9
            · replace h := it w1_5 h
              refine lv_tableIn (tgt := 72) hx hb dX8_behindWord_1 (by rw [w1_5]; decide) (by rw [w1_5]; decide) (off := 71) (by rw [w1_5]; decide) (by decide) ?_
              refine lv_aload_n hx hb dX8_behindWord_72 rfl (lv_at hl 0 rfl) ?_
              obtain ⟨r9, hcr9, h⟩ := bnd_some h
              refine gF_v (ws' := (rR E ar r9 ++ [])) C hG (pin pnil) (List.Perm.symm (pin pnil)) (gR_V (As := []) (rest := []) C hz hl.1 hG (pin pnil) (c_X8_times l E ar N rr hcr9 H.size) okX8_times q724 0 rfl rfl rfl (Nat.le_of_ble_eq_true rfl) (by omega) ⟨Nat.le_refl _, Nat.le_refl _⟩ dX8_behindWord_73) (fun H locs hG => ?_)
              refine lv_aload_n hx hb dX8_behindWord_76 rfl (lv_at hl 0 rfl) ?_
              refine lv_iconst (v := 1) hx hb dX8_behindWord_77 (by decide) ?_
              obtain ⟨r10, hcr10, h⟩ := bnd_some h
              refine gF_v (ws' := (rR E ar r10 ++ [])) C hG (pin pnil) (List.Perm.symm (pin pnil)) (gR_V (As := [.int 1]) (rest := []) C hz hl.1 hG (pin pnil) (c_X8_open l E ar N 1 r9 hcr10 H.size) okX8_open q728 0 rfl rfl rfl (Nat.le_of_ble_eq_true rfl) (by omega) ⟨Nat.le_refl _, Nat.le_refl _⟩ dX8_behindWord_78) (fun H locs hG => ?_)
              refine lv_goto (tgt := 131) hx hb dX8_behindWord_81 (by decide) ?_
              exact hret _ _ _ _ _ h hG dX8_behindWord_131
            · replace h := ie w1_5 h
              by_cases w1_6 : x1 = 10
              · replace h := it w1_6 h
                refine lv_tableIn (tgt := 84) hx hb dX8_behindWord_1 (by rw [w1_6]; decide) (by rw [w1_6]; decide) (off := 83) (by rw [w1_6]; decide) (by decide) ?_
                refine lv_aload_n hx hb dX8_behindWord_84 rfl (lv_at hl 0 rfl) ?_
                obtain ⟨r11, hcr11, h⟩ := bnd_some h
                refine gF_v (ws' := (rR E ar r11 ++ [])) C hG (pin pnil) (List.Perm.symm (pin pnil)) (gR_V (As := []) (rest := []) C hz hl.1 hG (pin pnil) (c_X8_sum l E ar N rr hcr11 H.size) okX8_sum q712 0 rfl rfl rfl (Nat.le_of_ble_eq_true rfl) (by omega) ⟨Nat.le_refl _, Nat.le_refl _⟩ dX8_behindWord_85) (fun H locs hG => ?_)
                refine lv_aload_n hx hb dX8_behindWord_88 rfl (lv_at hl 0 rfl) ?_
                refine lv_aload_n hx hb dX8_behindWord_89 rfl (lv_at hl 0 rfl) ?_
                refine gL_f (v := .ref (ar 2)) C hG kX8 0 4 rfl (by decide) rfl q498 rfl dX8_behindWord_90 ?_
                refine lv_aload_n hx hb dX8_behindWord_93 rfl (lv_at hl 0 rfl) ?_
                refine gL_f (v := .int (r11 0 8)) C hG kX8 0 8 rfl (by decide) rfl q502 rfl dX8_behindWord_94 ?_
                obtain ⟨b12, h⟩ := ck_some h
                refine gL_i (v := (r11 2 (r11 0 8).toNatClampNeg)) C hG 2 rfl (inb_in b12) rfl dX8_behindWord_97 ?_
                refine lv_bipush (v := 60) hx hb dX8_behindWord_98 (by decide) ?_
                refine lv_icmp_ne (tgt := 108) hx hb dX8_behindWord_100 (by decide) (fun c100 => ?_) (fun c100 => ?_)
                · replace h := ie c100 h
                  refine lv_bipush (v := 61) hx hb dX8_behindWord_108 (by decide) ?_
                  exact K110 61 r11 _ _ _ hG (lv_sub hl [0] rfl) h
                · replace h := it c100 h
                  refine lv_bipush (v := 60) hx hb dX8_behindWord_103 (by decide) ?_
                  refine lv_goto (tgt := 110) hx hb dX8_behindWord_105 (by decide) ?_
                  exact K110 60 r11 _ _ _ hG (lv_sub hl [0] rfl) h
              · replace h := ie w1_6 h
                refine lv_tableOut (tgt := 125) hx hb dX8_behindWord_1 (g_swo x1 4 10 [4, 5, 6, 7, 8, 9, 10] (by decide +kernel) (List.forall_mem_cons.mpr ⟨w1_0, List.forall_mem_cons.mpr ⟨w1_1, List.forall_mem_cons.mpr ⟨w1_2, List.forall_mem_cons.mpr ⟨w1_3, List.forall_mem_cons.mpr ⟨w1_4, List.forall_mem_cons.mpr ⟨w1_5, List.forall_mem_cons.mpr ⟨w1_6, fun _ q9 => absurd q9 List.not_mem_nil⟩⟩⟩⟩⟩⟩⟩)) (by decide) ?_
                refine lv_aload_n hx hb dX8_behindWord_125 rfl (lv_at hl 0 rfl) ?_
                refine lv_bipush (v := 59) hx hb dX8_behindWord_126 (by decide) ?_
                obtain ⟨r13, hcr13, h⟩ := bnd_some h
                refine gF_v (ws' := (rR E ar r13 ++ [])) C hG (pin pnil) (List.Perm.symm (pin pnil)) (gR_V (As := [.int 59]) (rest := []) C hz hl.1 hG (pin pnil) (c_X8_take l E ar N 59 rr hcr13 H.size) okX8_take q720 0 rfl rfl rfl (Nat.le_of_ble_eq_true rfl) (by omega) ⟨Nat.le_refl _, Nat.le_refl _⟩ dX8_behindWord_128) (fun H locs hG => ?_)
                exact hret _ _ _ _ _ h hG dX8_behindWord_131
set_option maxHeartbeats 4000000 in
set_option maxRecDepth 100000 in
theorem c_X8_statement (l : Launch) (E : GE) (ar : Nat → Nat) (N : Nat) (rr : RS) {res : RS} (h : fX8_statement N rr = some res) : gMv l E yX8_statement cX8_statement 2 6 0 0 [.ref (ar 0)] (rR E ar rr ++ []) (rR E ar res ++ []) := by
  refine gMv_of (own := RX8) (by decide +kernel) rfl (Nat.le_of_ble_eq_true rfl) ?_
  intro p e s m args below meth c A ls Q H locs C hz hl hG hin hret
  have hx := C.1.1
  have hb := C.1.2.1
  have hts := C.1.2.2.2.2
  have hown := C.1.2.2.2.1
  have hl : lv_has ls 2 [(0, .ref (ar 0))] := hl
  replace hret : ∀ (rr0 : RS) (H : Heap) (locs : List Loc) (pc : Nat) (ls' : Array Slot), some rr0 = some res → gG E A s.heap (rR E ar rr0 ++ []) H locs → decode cX8_statement pc = .ok (.return_, 1) → W p l e (rmD 6 0 0) s m args below meth c H locs 0 0 Q (F0 m pc ls' []) := by
    intro rr0 H locs pc ls' e0; cases e0; exact hret H locs pc ls'
  have K21 : ∀  (rr : RS) (H : Heap) (locs : List Loc) (ls : Array Slot), gG E A s.heap (rR E ar rr ++ []) H locs → lv_has ls 2 [(0, .ref (ar 0))] → fX8_statement_L21 N rr = some res → W p l e (rmD 6 0 0) s m args below meth c H locs 0 0 Q (F0 m 21 ls []) := by
    intro rr H locs ls hG hl h
    rw [fX8_statement_L21] at h
    refine lv_aload_n hx hb dX8_statement_21 rfl (lv_at hl 0 rfl) ?_
    refine lv_iconst (v := 1) hx hb dX8_statement_22 (by decide) ?_
    obtain ⟨r1, hcr1, h⟩ := bnd_some h
    refine gF_v (ws' := (rR E ar r1 ++ [])) C hG (pin pnil) (List.Perm.symm (pin pnil)) (gR_V (As := [.int 1]) (rest := []) C hz hl.1 hG (pin pnil) (c_X8_blame l E ar N 1 rr hcr1 H.size) okX8_blame q700 0 rfl rfl rfl (Nat.le_of_ble_eq_true rfl) (by omega) ⟨Nat.le_refl _, Nat.le_refl _⟩ dX8_statement_23) (fun H locs hG => ?_)
    exact hret _ _ _ _ _ h hG dX8_statement_26
  have K53 : ∀  (x1 : Int32) (rr : RS) (H : Heap) (locs : List Loc) (ls : Array Slot), gG E A s.heap (rR E ar rr ++ []) H locs → lv_has ls 2 [(0, .ref (ar 0)), (1, .int x1)] → fX8_statement_L53 N x1 rr = some res → W p l e (rmD 6 0 0) s m args below meth c H locs 0 0 Q (F0 m 53 ls []) := by
    intro x1 rr H locs ls hG hl h
    rw [fX8_statement_L53] at h
    refine lv_aload_n hx hb dX8_statement_53 rfl (lv_at hl 0 rfl) ?_
    refine gL_f (v := .int (rr 0 9)) C hG kX8 0 9 rfl (by decide) rfl q503 rfl dX8_statement_54 ?_
    refine lv_bipush (v := 40) hx hb dX8_statement_57 (by decide) ?_
    refine lv_icmp_ne (tgt := 68) hx hb dX8_statement_59 (by decide) (fun c59 => ?_) (fun c59 => ?_)
    · replace h := ie c59 h
      refine lv_aload_n hx hb dX8_statement_68 rfl (lv_at hl 0 rfl) ?_
      refine lv_dup hx hb dX8_statement_69 rfl ?_
      refine gL_f (v := .int (rr 0 9)) C hG kX8 0 9 rfl (by decide) rfl q503 rfl dX8_statement_70 ?_
      refine lv_iconst (v := 1) hx hb dX8_statement_73 (by decide) ?_
      refine lv_iadd hx hb dX8_statement_74 ?_
      obtain ⟨rr_1, err_1, h⟩ := thn_some h
      refine gS_f (v := .int ((rr 0 9) + 1)) (ws' := (rR E ar rr_1 ++ [])) C hG kX8 0 9 rfl (by decide) q503 rfl rfl rfl rfl (by show 9 < 14; decide) dX8_statement_75 (by rw [err_1]; rfl) (fun H locs hG => ?_)
      refine lv_aload_n hx hb dX8_statement_78 rfl (lv_at hl 0 rfl) ?_
      refine lv_dup hx hb dX8_statement_79 rfl ?_
      refine gL_f (v := .int (rr_1 0 8)) C hG kX8 0 8 rfl (by decide) rfl q502 rfl dX8_statement_80 ?_
      refine lv_iconst (v := 1) hx hb dX8_statement_83 (by decide) ?_
      refine lv_iadd hx hb dX8_statement_84 ?_
      obtain ⟨rr_2, err_2, h⟩ := thn_some h
      refine gS_f (v := .int ((rr_1 0 8) + 1)) (ws' := (rR E ar rr_2 ++ [])) C hG kX8 0 8 rfl (by decide) q502 rfl rfl rfl rfl (by show 8 < 14; decide) dX8_statement_85 (by rw [err_2]; rfl) (fun H locs hG => ?_)
      refine lv_aload_n hx hb dX8_statement_88 rfl (lv_at hl 0 rfl) ?_
      refine lv_iload_n hx hb dX8_statement_89 rfl (lv_at hl 1 rfl) ?_
      obtain ⟨r3, hcr3, h⟩ := bnd_some h
      refine gF_v (ws' := (rR E ar r3 ++ [])) C hG (pin pnil) (List.Perm.symm (pin pnil)) (gR_V (As := [.int x1]) (rest := []) C hz hl.1 hG (pin pnil) (c_X8_behindWord l E ar N x1 rr_2 hcr3 H.size) okX8_behindWord q704 0 rfl rfl rfl (Nat.le_of_ble_eq_true rfl) (by omega) ⟨Nat.le_refl _, Nat.le_refl _⟩ dX8_statement_90) (fun H locs hG => ?_)
      exact hret _ _ _ _ _ h hG dX8_statement_93
    · replace h := it c59 h
      refine lv_aload_n hx hb dX8_statement_62 rfl (lv_at hl 0 rfl) ?_
      refine lv_iconst (v := 5) hx hb dX8_statement_63 (by decide) ?_
      obtain ⟨r4, hcr4, h⟩ := bnd_some h
      refine gF_v (ws' := (rR E ar r4 ++ [])) C hG (pin pnil) (List.Perm.symm (pin pnil)) (gR_V (As := [.int 5]) (rest := []) C hz hl.1 hG (pin pnil) (c_X8_blame l E ar N 5 rr hcr4 H.size) okX8_blame q700 0 rfl rfl rfl (Nat.le_of_ble_eq_true rfl) (by omega) ⟨Nat.le_refl _, Nat.le_refl _⟩ dX8_statement_64) (fun H locs hG => ?_)
      exact hret _ _ _ _ _ h hG dX8_statement_67
  have K39 : ∀  (x1 : Int32) (rr : RS) (H : Heap) (locs : List Loc) (ls : Array Slot), gG E A s.heap (rR E ar rr ++ []) H locs → lv_has ls 2 [(0, .ref (ar 0)), (1, .int x1)] → fX8_statement_L39 N x1 rr = some res → W p l e (rmD 6 0 0) s m args below meth c H locs 0 0 Q (F0 m 39 ls []) := by
    intro x1 rr H locs ls hG hl h
    rw [fX8_statement_L39] at h
    refine lv_aload_n hx hb dX8_statement_39 rfl (lv_at hl 0 rfl) ?_
    refine gL_f (v := .int (rr 0 10)) C hG kX8 0 10 rfl (by decide) rfl q504 rfl dX8_statement_40 ?_
    refine lv_iconst (v := 3) hx hb dX8_statement_43 (by decide) ?_
    refine lv_icmp_ne (tgt := 53) hx hb dX8_statement_44 (by decide) (fun c44 => ?_) (fun c44 => ?_)
    · replace h := ie c44 h
      exact K53 x1 rr _ _ _ hG (lv_sub hl [0, 1] rfl) h
    · replace h := it c44 h
      refine lv_aload_n hx hb dX8_statement_47 rfl (lv_at hl 0 rfl) ?_
      refine lv_iconst (v := 3) hx hb dX8_statement_48 (by decide) ?_
      obtain ⟨r1, hcr1, h⟩ := bnd_some h
      refine gF_v (ws' := (rR E ar r1 ++ [])) C hG (pin pnil) (List.Perm.symm (pin pnil)) (gR_V (As := [.int 3]) (rest := []) C hz hl.1 hG (pin pnil) (c_X8_blame l E ar N 3 rr hcr1 H.size) okX8_blame q700 0 rfl rfl rfl (Nat.le_of_ble_eq_true rfl) (by omega) ⟨Nat.le_refl _, Nat.le_refl _⟩ dX8_statement_49) (fun H locs hG => ?_)
      exact hret _ _ _ _ _ h hG dX8_statement_52
  rw [fX8_statement] at h
  refine lv_aload_n hx hb dX8_statement_0 rfl (lv_at hl 0 rfl) ?_
  refine gL_f (v := .ref (ar 2)) C hG kX8 0 4 rfl (by decide) rfl q498 rfl dX8_statement_1 ?_
  refine lv_aload_n hx hb dX8_statement_4 rfl (lv_at hl 0 rfl) ?_
  refine gL_f (v := .int (rr 0 8)) C hG kX8 0 8 rfl (by decide) rfl q502 rfl dX8_statement_5 ?_
  obtain ⟨b1, h⟩ := ck_some h
  refine gL_i (v := (rr 2 (rr 0 8).toNatClampNeg)) C hG 2 rfl (inb_in b1) rfl dX8_statement_8 ?_
  obtain ⟨x1_2, ex1_2, h⟩ := thn_some h
  refine g_int ex1_2 ?_
  refine lv_istore_n (lv' := [(1, .int x1_2), (0, .ref (ar 0))]) hx hb dX8_statement_9 rfl hl (by decide) rfl (fun ls hl => ?_)
  refine lv_iload_n hx hb dX8_statement_10 rfl (lv_at hl 0 rfl) ?_
  refine lv_iconst (v := 4) hx hb dX8_statement_11 (by decide) ?_
  refine lv_icmp_lt (tgt := 21) hx hb dX8_statement_12 (by decide) (fun c12 => ?_) (fun c12 => ?_)
  · replace h := it c12 h
    exact K21 rr _ _ _ hG (lv_sub hl [1] rfl) h
  · replace h := ie c12 h
    refine lv_iload_n hx hb dX8_statement_15 rfl (lv_at hl 0 rfl) ?_
    refine lv_bipush (v := 10) hx hb dX8_statement_16 (by decide) ?_
    refine lv_icmp_le (tgt := 27) hx hb dX8_statement_18 (by decide) (fun c18 => ?_) (fun c18 => ?_)
    · replace h := it c18 h
      refine lv_iload_n hx hb dX8_statement_27 rfl (lv_at hl 0 rfl) ?_
      refine lv_bipush (v := 9) hx hb dX8_statement_28 (by decide) ?_
      refine lv_icmp_eq (tgt := 39) hx hb dX8_statement_30 (by decide) (fun c30 => ?_) (fun c30 => ?_)
      · replace h := it c30 h
        exact K39 x1_2 rr _ _ _ hG (lv_sub hl [1, 0] rfl) h
      · replace h := ie c30 h
        refine lv_iload_n hx hb dX8_statement_33 rfl (lv_at hl 0 rfl) ?_
        refine lv_bipush (v := 10) hx hb dX8_statement_34 (by decide) ?_
        refine lv_icmp_ne (tgt := 53) hx hb dX8_statement_36 (by decide) (fun c36 => ?_) (fun c36 => ?_)
        · replace h := ie c36 h
          exact K53 x1_2 rr _ _ _ hG (lv_sub hl [1, 0] rfl) h
        · replace h := it c36 h
          exact K39 x1_2 rr _ _ _ hG (lv_sub hl [1, 0] rfl) h
    · replace h := ie c18 h
      exact K21 rr _ _ _ hG (lv_sub hl [1] rfl) h
set_option maxHeartbeats 4000000 in
set_option maxRecDepth 100000 in
theorem c_X7_factor (l : Launch) (E : GE) (ay : Nat → Nat) (aw : Nat → Nat) (ap : Nat → Nat) (atx : Nat → Nat) (ye : Nat → Value) (hye : ye 0 = .ref (atx 0) ∧ ye 1 = .ref (aw 0) ∧ ye 2 = .ref (ap 0)) (N : Nat) (tn : Nat) (yy : RS) (ww : RS) (pp : RS) (tt : RS) {res : Int32 × RS} (h : fX7_factor N tn yy ww pp tt = some res) : gMi l E yX7_factor cX7_factor 2 .int 2 0 0 [.ref (ay 0)] (rY E ay ye yy ++ (rW E aw ww ++ (rP E ap pp ++ (rT E atx tn tt ++ [])))) (rY E ay ye res.2 ++ (rW E aw ww ++ (rP E ap pp ++ (rT E atx tn tt ++ [])))) res.1 := by
  refine gMi_of (own := RX7) (by decide +kernel) rfl (Nat.le_of_ble_eq_true rfl) ?_
  intro p e s m args below meth c A ls Q H locs C hz hl hG hret
  have hx := C.1.1
  have hb := C.1.2.1
  have hts := C.1.2.2.2.2
  have hown := C.1.2.2.2.1
  have hl : lv_has ls 2 [(0, .ref (ay 0))] := hl
  replace hret : ∀ (r0 : Int32) (yy0 : RS) (H : Heap) (locs : List Loc) (pc : Nat) (ls' : Array Slot), some (r0, yy0) = some res → narrow .int (.int r0) = .int r0 → gG E A s.heap (rY E ay ye yy0 ++ (rW E aw ww ++ (rP E ap pp ++ (rT E atx tn tt ++ [])))) H locs → decode cX7_factor pc = .ok (.ireturn, 1) → W p l e (rmD 2 0 0) s m args below meth c H locs 0 0 Q (F0 m pc ls' [.int r0]) := by
    intro r0 yy0 H locs pc ls' e0 hn; cases e0; exact hret H locs pc ls' hn
  have K47 : ∀  (x1 : Int32) (yy : RS) (H : Heap) (locs : List Loc) (ls : Array Slot), gG E A s.heap (rY E ay ye yy ++ (rW E aw ww ++ (rP E ap pp ++ (rT E atx tn tt ++ [])))) H locs → lv_has ls 2 [(0, .ref (ay 0)), (1, .int x1)] → fX7_factor_L47 N tn ww pp tt x1 yy = some res → W p l e (rmD 2 0 0) s m args below meth c H locs 0 0 Q (F0 m 47 ls []) := by
    intro x1 yy H locs ls hG hl h
    rw [fX7_factor_L47] at h
    refine lv_aload_n hx hb dX7_factor_47 rfl (lv_at hl 0 rfl) ?_
    refine lv_dup hx hb dX7_factor_48 rfl ?_
    refine gL_f (v := .int (yy 0 3)) C hG kX7 0 3 rfl (by decide) rfl q463 rfl dX7_factor_49 ?_
    refine lv_iconst (v := 1) hx hb dX7_factor_52 (by decide) ?_
    refine lv_iadd hx hb dX7_factor_53 ?_
    obtain ⟨yy_1, eyy_1, h⟩ := thn_some h
    refine gS_f (v := .int ((yy 0 3) + 1)) (ws' := (rY E ay ye yy_1 ++ (rW E aw ww ++ (rP E ap pp ++ (rT E atx tn tt ++ []))))) C hG kX7 0 3 rfl (by decide) q463 rfl rfl rfl rfl (by show 3 < 8; decide) dX7_factor_54 (by rw [eyy_1]; rfl) (fun H locs hG => ?_)
    refine lv_iload_n hx hb dX7_factor_57 rfl (lv_at hl 1 rfl) ?_
    exact hret _ _ _ _ _ _ h rfl hG dX7_factor_58
  have K46 : ∀  (s0 : Int32) (yy : RS) (H : Heap) (locs : List Loc) (ls : Array Slot), gG E A s.heap (rY E ay ye yy ++ (rW E aw ww ++ (rP E ap pp ++ (rT E atx tn tt ++ [])))) H locs → lv_has ls 2 [(0, .ref (ay 0))] → fX7_factor_L46 N tn ww pp tt s0 yy = some res → W p l e (rmD 2 0 0) s m args below meth c H locs 0 0 Q (F0 m 46 ls [.int s0]) := by
    intro s0 yy H locs ls hG hl h
    rw [fX7_factor_L46] at h
    refine lv_istore_n (lv' := [(1, .int s0), (0, .ref (ay 0))]) hx hb dX7_factor_46 rfl hl (by decide) rfl (fun ls hl => ?_)
    exact K47 s0 yy _ _ _ hG (lv_sub hl [1, 0] rfl) h
  have K45 : ∀  (yy : RS) (H : Heap) (locs : List Loc) (ls : Array Slot), gG E A s.heap (rY E ay ye yy ++ (rW E aw ww ++ (rP E ap pp ++ (rT E atx tn tt ++ [])))) H locs → lv_has ls 2 [(0, .ref (ay 0))] → fX7_factor_L45 N tn ww pp tt yy = some res → W p l e (rmD 2 0 0) s m args below meth c H locs 0 0 Q (F0 m 45 ls []) := by
    intro yy H locs ls hG hl h
    rw [fX7_factor_L45] at h
    refine lv_iconst (v := 0) hx hb dX7_factor_45 (by decide) ?_
    exact K46 0 yy _ _ _ hG (lv_sub hl [0] rfl) h
  rw [fX7_factor] at h
  refine lv_aload_n hx hb dX7_factor_0 rfl (lv_at hl 0 rfl) ?_
  refine gL_f (v := .ref (atx 0)) C hG kX7 0 0 rfl (by decide) (congrArg some (hye.1)) q460 rfl dX7_factor_1 ?_
  refine lv_aload_n hx hb dX7_factor_4 rfl (lv_at hl 0 rfl) ?_
  refine gL_f (v := .int (yy 0 3)) C hG kX7 0 3 rfl (by decide) rfl q463 rfl dX7_factor_5 ?_
  obtain ⟨r1, hcr1, h⟩ := bnd_some h
  refine gF_i (ws' := (rY E ay ye yy ++ (rW E aw ww ++ (rP E ap pp ++ (rT E atx tn tt ++ []))))) C hG (pout (pout (pout (pin pnil)))) (List.Perm.symm (pout (pout (pout (pin pnil))))) (gR_N (As := [.int (yy 0 3)]) (rest := []) C hz hl.1 hG (pout (pout (pout (pin pnil)))) (c_X9_valueAt l E atx N tn (yy 0 3) tt hcr1 H.size) okX9_valueAt q1067 0 rfl rfl rfl (Nat.le_of_ble_eq_true rfl) (by omega) ⟨Nat.le_refl _, Nat.le_refl _⟩ dX7_factor_8) (fun H locs _ hG => ?_)
  refine lv_istore_n (lv' := [(1, .int r1), (0, .ref (ay 0))]) hx hb dX7_factor_11 rfl hl (by decide) rfl (fun ls hl => ?_)
  refine lv_aload_n hx hb dX7_factor_12 rfl (lv_at hl 1 rfl) ?_
  refine gL_f (v := .ref (atx 0)) C hG kX7 0 0 rfl (by decide) (congrArg some (hye.1)) q460 rfl dX7_factor_13 ?_
  refine lv_aload_n hx hb dX7_factor_16 rfl (lv_at hl 1 rfl) ?_
  refine gL_f (v := .int (yy 0 3)) C hG kX7 0 3 rfl (by decide) rfl q463 rfl dX7_factor_17 ?_
  obtain ⟨r2, hcr2, h⟩ := bnd_some h
  refine gF_i (ws' := (rY E ay ye yy ++ (rW E aw ww ++ (rP E ap pp ++ (rT E atx tn tt ++ []))))) C hG (pout (pout (pout (pin pnil)))) (List.Perm.symm (pout (pout (pout (pin pnil))))) (gR_N (As := [.int (yy 0 3)]) (rest := []) C hz hl.1 hG (pout (pout (pout (pin pnil)))) (c_X9_kindAt l E atx N tn (yy 0 3) tt hcr2 H.size) okX9_kindAt q1047 0 rfl rfl rfl (Nat.le_of_ble_eq_true rfl) (by omega) ⟨Nat.le_refl _, Nat.le_refl _⟩ dX7_factor_20) (fun H locs _ hG => ?_)
  refine lv_iconst (v := 3) hx hb dX7_factor_23 (by decide) ?_
  refine lv_icmp_ne (tgt := 47) hx hb dX7_factor_24 (by decide) (fun c24 => ?_) (fun c24 => ?_)
  · replace h := ie c24 h
    exact K47 r1 yy _ _ _ hG (lv_sub hl [1, 0] rfl) h
  · replace h := it c24 h
    refine lv_iload_n hx hb dX7_factor_27 rfl (lv_at hl 0 rfl) ?_
    refine lv_if_lt (tgt := 45) hx hb dX7_factor_28 (by decide) (fun c28 => ?_) (fun c28 => ?_)
    · replace h := it c28 h
      exact K45 yy _ _ _ hG (lv_sub hl [1] rfl) h
    · replace h := ie c28 h
      refine lv_iload_n hx hb dX7_factor_31 rfl (lv_at hl 0 rfl) ?_
      refine lv_iconst (v := 3) hx hb dX7_factor_32 (by decide) ?_
      refine lv_icmp_ge (tgt := 45) hx hb dX7_factor_33 (by decide) (fun c33 => ?_) (fun c33 => ?_)
      · replace h := it c33 h
        exact K45 yy _ _ _ hG (lv_sub hl [1] rfl) h
      · replace h := ie c33 h
        refine lv_aload_n hx hb dX7_factor_36 rfl (lv_at hl 1 rfl) ?_
        refine gL_f (v := .ref (ay 1)) C hG kX7 0 6 rfl (by decide) rfl q466 rfl dX7_factor_37 ?_
        refine lv_iload_n hx hb dX7_factor_40 rfl (lv_at hl 0 rfl) ?_
        obtain ⟨b3, h⟩ := ck_some h
        refine gL_i (v := (yy 1 r1.toNatClampNeg)) C hG 1 rfl (inb_in b3) rfl dX7_factor_41 ?_
        refine lv_goto (tgt := 46) hx hb dX7_factor_42 (by decide) ?_
        exact K46 (yy 1 r1.toNatClampNeg) yy _ _ _ hG (lv_sub hl [1] rfl) h
set_option maxHeartbeats 4000000 in
set_option maxRecDepth 100000 in
theorem c_X7_product (l : Launch) (E : GE) (ay : Nat → Nat) (aw : Nat → Nat) (ap : Nat → Nat) (atx : Nat → Nat) (ye : Nat → Value) (hye : ye 0 = .ref (atx 0) ∧ ye 1 = .ref (aw 0) ∧ ye 2 = .ref (ap 0)) (N : Nat) (tn : Nat) (yy : RS) (ww : RS) (pp : RS) (tt : RS) {res : Int32 × RS} (h : fX7_product N tn yy ww pp tt = some res) : gMi l E yX7_product cX7_product 3 .int 3 0 0 [.ref (ay 0)] (rY E ay ye yy ++ (rW E aw ww ++ (rP E ap pp ++ (rT E atx tn tt ++ [])))) (rY E ay ye res.2 ++ (rW E aw ww ++ (rP E ap pp ++ (rT E atx tn tt ++ [])))) res.1 := by
  refine gMi_of (own := RX7) (by decide +kernel) rfl (Nat.le_of_ble_eq_true rfl) ?_
  intro p e s m args below meth c A ls Q H locs C hz hl hG hret
  have hx := C.1.1
  have hb := C.1.2.1
  have hts := C.1.2.2.2.2
  have hown := C.1.2.2.2.1
  have hl : lv_has ls 3 [(0, .ref (ay 0))] := hl
  replace hret : ∀ (r0 : Int32) (yy0 : RS) (H : Heap) (locs : List Loc) (pc : Nat) (ls' : Array Slot), some (r0, yy0) = some res → narrow .int (.int r0) = .int r0 → gG E A s.heap (rY E ay ye yy0 ++ (rW E aw ww ++ (rP E ap pp ++ (rT E atx tn tt ++ [])))) H locs → decode cX7_product pc = .ok (.ireturn, 1) → W p l e (rmD 3 0 0) s m args below meth c H locs 0 0 Q (F0 m pc ls' [.int r0]) := by
    intro r0 yy0 H locs pc ls' e0 hn; cases e0; exact hret H locs pc ls' hn
  have K7 : ∀ (k : Nat), ∀  (x1 : Int32) (x2 : Int32) (yy : RS) (H : Heap) (locs : List Loc) (ls : Array Slot), gG E A s.heap (rY E ay ye yy ++ (rW E aw ww ++ (rP E ap pp ++ (rT E atx tn tt ++ [])))) H locs → lv_has ls 3 [(0, .ref (ay 0)), (1, .int x1), (2, .int x2)] → fX7_product_L7 N tn ww pp tt k x1 x2 yy = some res → W p l e (rmD 3 0 0) s m args below meth c H locs 0 0 Q (F0 m 7 ls []) := by
    intro k
    induction k with
    | zero => intro x1 x2 yy H locs ls hG hl h; exact absurd (show none = _ from h) (by simp)
    | succ k ih =>
      intro x1 x2 yy H locs ls hG hl h
      rw [fX7_product_L7] at h
      refine lv_iload_n hx hb dX7_product_7 rfl (lv_at hl 2 rfl) ?_
      refine lv_sipush (v := 300) hx hb dX7_product_8 (by decide) ?_
      refine lv_icmp_ge (tgt := 57) hx hb dX7_product_11 (by decide) (fun c11 => ?_) (fun c11 => ?_)
      · replace h := it c11 h
        refine lv_iload_n hx hb dX7_product_57 rfl (lv_at hl 1 rfl) ?_
        exact hret _ _ _ _ _ _ h rfl hG dX7_product_58
      · replace h := ie c11 h
        refine lv_aload_n hx hb dX7_product_14 rfl (lv_at hl 0 rfl) ?_
        refine gL_f (v := .ref (atx 0)) C hG kX7 0 0 rfl (by decide) (congrArg some (hye.1)) q460 rfl dX7_product_15 ?_
        refine lv_aload_n hx hb dX7_product_18 rfl (lv_at hl 0 rfl) ?_
        refine gL_f (v := .int (yy 0 3)) C hG kX7 0 3 rfl (by decide) rfl q463 rfl dX7_product_19 ?_
        obtain ⟨r1, hcr1, h⟩ := bnd_some h
        refine gF_i (ws' := (rY E ay ye yy ++ (rW E aw ww ++ (rP E ap pp ++ (rT E atx tn tt ++ []))))) C hG (pout (pout (pout (pin pnil)))) (List.Perm.symm (pout (pout (pout (pin pnil))))) (gR_N (As := [.int (yy 0 3)]) (rest := []) C hz hl.1 hG (pout (pout (pout (pin pnil)))) (c_X9_kindAt l E atx N tn (yy 0 3) tt hcr1 H.size) okX9_kindAt q1047 0 rfl rfl rfl (Nat.le_of_ble_eq_true rfl) (by omega) ⟨Nat.le_refl _, Nat.le_refl _⟩ dX7_product_22) (fun H locs _ hG => ?_)
        refine lv_bipush (v := 42) hx hb dX7_product_25 (by decide) ?_
        refine lv_icmp_ne (tgt := 57) hx hb dX7_product_27 (by decide) (fun c27 => ?_) (fun c27 => ?_)
        · replace h := ie c27 h
          refine lv_iload_n hx hb dX7_product_57 rfl (lv_at hl 1 rfl) ?_
          exact hret _ _ _ _ _ _ h rfl hG dX7_product_58
        · replace h := it c27 h
          refine lv_aload_n hx hb dX7_product_30 rfl (lv_at hl 0 rfl) ?_
          refine lv_dup hx hb dX7_product_31 rfl ?_
          refine gL_f (v := .int (yy 0 3)) C hG kX7 0 3 rfl (by decide) rfl q463 rfl dX7_product_32 ?_
          refine lv_iconst (v := 1) hx hb dX7_product_35 (by decide) ?_
          refine lv_iadd hx hb dX7_product_36 ?_
          obtain ⟨yy_2, eyy_2, h⟩ := thn_some h
          refine gS_f (v := .int ((yy 0 3) + 1)) (ws' := (rY E ay ye yy_2 ++ (rW E aw ww ++ (rP E ap pp ++ (rT E atx tn tt ++ []))))) C hG kX7 0 3 rfl (by decide) q463 rfl rfl rfl rfl (by show 3 < 8; decide) dX7_product_37 (by rw [eyy_2]; rfl) (fun H locs hG => ?_)
          refine lv_iload_n hx hb dX7_product_40 rfl (lv_at hl 1 rfl) ?_
          refine lv_aload_n hx hb dX7_product_41 rfl (lv_at hl 0 rfl) ?_
          obtain ⟨r3, hcr3, h⟩ := bnd_some h
          refine gF_i (ws' := (rY E ay ye r3.2 ++ (rW E aw ww ++ (rP E ap pp ++ (rT E atx tn tt ++ []))))) C hG (pin (pin (pin (pin pnil)))) (List.Perm.symm (pin (pin (pin (pin pnil))))) (gR_V (As := []) (rest := [.int x1]) C hz hl.1 hG (pin (pin (pin (pin pnil)))) (c_X7_factor l E ay aw ap atx ye hye N tn yy_2 ww pp tt hcr3 H.size) okX7_factor q1063 0 rfl rfl rfl (Nat.le_of_ble_eq_true rfl) (by omega) ⟨Nat.le_refl _, Nat.le_refl _⟩ dX7_product_42) (fun H locs _ hG => ?_)
          refine lv_imul hx hb dX7_product_45 ?_
          refine lv_sipush (v := 10000) hx hb dX7_product_46 (by decide) ?_
          refine lv_irem hx hb dX7_product_49 (by decide) ?_
          refine g_int (v := (irem (x1 * r3.1) 10000)) rfl ?_
          obtain ⟨x1_4, ex1_4, h⟩ := thn_some h
          refine g_int ex1_4 ?_
          refine lv_istore_n (lv' := [(1, .int x1_4), (0, .ref (ay 0)), (2, .int x2)]) hx hb dX7_product_50 rfl hl (by decide) rfl (fun ls hl => ?_)
          refine lv_iinc (v := (x2 + 1)) (lv' := [(2, .int (x2 + 1)), (1, .int x1_4), (0, .ref (ay 0))]) hx hb dX7_product_51 hl (k := 2) rfl (congrArg (x2 + ·) (by decide : Int32.ofInt 1 = 1)) (by decide) rfl (fun ls hl => ?_)
          refine lv_goto (tgt := 7) hx hb dX7_product_54 (by decide) ?_
          exact ih x1_4 (x2 + 1) r3.2 _ _ _ hG (lv_sub hl [2, 1, 0] rfl) h
  rw [fX7_product] at h
  refine lv_aload_n hx hb dX7_product_0 rfl (lv_at hl 0 rfl) ?_
  obtain ⟨r1, hcr1, h⟩ := bnd_some h
  refine gF_i (ws' := (rY E ay ye r1.2 ++ (rW E aw ww ++ (rP E ap pp ++ (rT E atx tn tt ++ []))))) C hG (pin (pin (pin (pin pnil)))) (List.Perm.symm (pin (pin (pin (pin pnil))))) (gR_V (As := []) (rest := []) C hz hl.1 hG (pin (pin (pin (pin pnil)))) (c_X7_factor l E ay aw ap atx ye hye N tn yy ww pp tt hcr1 H.size) okX7_factor q1063 0 rfl rfl rfl (Nat.le_of_ble_eq_true rfl) (by omega) ⟨Nat.le_refl _, Nat.le_refl _⟩ dX7_product_1) (fun H locs _ hG => ?_)
  refine lv_istore_n (lv' := [(1, .int r1.1), (0, .ref (ay 0))]) hx hb dX7_product_4 rfl hl (by decide) rfl (fun ls hl => ?_)
  refine lv_iconst (v := 0) hx hb dX7_product_5 (by decide) ?_
  refine lv_istore_n (lv' := [(2, .int 0), (1, .int r1.1), (0, .ref (ay 0))]) hx hb dX7_product_6 rfl hl (by decide) rfl (fun ls hl => ?_)
  exact K7 N r1.1 0 r1.2 _ _ _ hG (lv_sub hl [2, 1, 0] rfl) h
set_option maxHeartbeats 4000000 in
set_option maxRecDepth 100000 in
theorem c_X7_sum (l : Launch) (E : GE) (ay : Nat → Nat) (aw : Nat → Nat) (ap : Nat → Nat) (atx : Nat → Nat) (ye : Nat → Value) (hye : ye 0 = .ref (atx 0) ∧ ye 1 = .ref (aw 0) ∧ ye 2 = .ref (ap 0)) (N : Nat) (tn : Nat) (yy : RS) (ww : RS) (pp : RS) (tt : RS) {res : Int32 × RS} (h : fX7_sum N tn yy ww pp tt = some res) : gMi l E yX7_sum cX7_sum 3 .int 4 0 0 [.ref (ay 0)] (rY E ay ye yy ++ (rW E aw ww ++ (rP E ap pp ++ (rT E atx tn tt ++ [])))) (rY E ay ye res.2 ++ (rW E aw ww ++ (rP E ap pp ++ (rT E atx tn tt ++ [])))) res.1 := by
  refine gMi_of (own := RX7) (by decide +kernel) rfl (Nat.le_of_ble_eq_true rfl) ?_
  intro p e s m args below meth c A ls Q H locs C hz hl hG hret
  have hx := C.1.1
  have hb := C.1.2.1
  have hts := C.1.2.2.2.2
  have hown := C.1.2.2.2.1
  have hl : lv_has ls 3 [(0, .ref (ay 0))] := hl
  replace hret : ∀ (r0 : Int32) (yy0 : RS) (H : Heap) (locs : List Loc) (pc : Nat) (ls' : Array Slot), some (r0, yy0) = some res → narrow .int (.int r0) = .int r0 → gG E A s.heap (rY E ay ye yy0 ++ (rW E aw ww ++ (rP E ap pp ++ (rT E atx tn tt ++ [])))) H locs → decode cX7_sum pc = .ok (.ireturn, 1) → W p l e (rmD 4 0 0) s m args below meth c H locs 0 0 Q (F0 m pc ls' [.int r0]) := by
    intro r0 yy0 H locs pc ls' e0 hn; cases e0; exact hret H locs pc ls' hn
  have K57 : ∀  (x1 : Int32) (yy : RS) (H : Heap) (locs : List Loc) (ls : Array Slot), gG E A s.heap (rY E ay ye yy ++ (rW E aw ww ++ (rP E ap pp ++ (rT E atx tn tt ++ [])))) H locs → lv_has ls 3 [(0, .ref (ay 0)), (1, .int x1)] → fX7_sum_L57 N tn ww pp tt x1 yy = some res → W p l e (rmD 4 0 0) s m args below meth c H locs 0 0 Q (F0 m 57 ls []) := by
    intro x1 yy H locs ls hG hl h
    rw [fX7_sum_L57] at h
    refine lv_aload_n hx hb dX7_sum_57 rfl (lv_at hl 0 rfl) ?_
    refine lv_dup hx hb dX7_sum_58 rfl ?_
    refine gL_f (v := .int (yy 0 3)) C hG kX7 0 3 rfl (by decide) rfl q463 rfl dX7_sum_59 ?_
    refine lv_iconst (v := 1) hx hb dX7_sum_62 (by decide) ?_
    refine lv_iadd hx hb dX7_sum_63 ?_
    obtain ⟨yy_1, eyy_1, h⟩ := thn_some h
    refine gS_f (v := .int ((yy 0 3) + 1)) (ws' := (rY E ay ye yy_1 ++ (rW E aw ww ++ (rP E ap pp ++ (rT E atx tn tt ++ []))))) C hG kX7 0 3 rfl (by decide) q463 rfl rfl rfl rfl (by show 3 < 8; decide) dX7_sum_64 (by rw [eyy_1]; rfl) (fun H locs hG => ?_)
    refine lv_iload_n hx hb dX7_sum_67 rfl (lv_at hl 1 rfl) ?_
    exact hret _ _ _ _ _ _ h rfl hG dX7_sum_68
  have K7 : ∀ (k : Nat), ∀  (x1 : Int32) (x2 : Int32) (yy : RS) (H : Heap) (locs : List Loc) (ls : Array Slot), gG E A s.heap (rY E ay ye yy ++ (rW E aw ww ++ (rP E ap pp ++ (rT E atx tn tt ++ [])))) H locs → lv_has ls 3 [(0, .ref (ay 0)), (1, .int x1), (2, .int x2)] → fX7_sum_L7 N tn ww pp tt k x1 x2 yy = some res → W p l e (rmD 4 0 0) s m args below meth c H locs 0 0 Q (F0 m 7 ls []) := by
    intro k
    induction k with
    | zero => intro x1 x2 yy H locs ls hG hl h; exact absurd (show none = _ from h) (by simp)
    | succ k ih =>
      intro x1 x2 yy H locs ls hG hl h
      rw [fX7_sum_L7] at h
      refine lv_iload_n hx hb dX7_sum_7 rfl (lv_at hl 2 rfl) ?_
      refine lv_sipush (v := 300) hx hb dX7_sum_8 (by decide) ?_
      refine lv_icmp_ge (tgt := 57) hx hb dX7_sum_11 (by decide) (fun c11 => ?_) (fun c11 => ?_)
      · replace h := it c11 h
        exact K57 x1 yy _ _ _ hG (lv_sub hl [0, 1] rfl) h
      · replace h := ie c11 h
        refine lv_aload_n hx hb dX7_sum_14 rfl (lv_at hl 0 rfl) ?_
        refine gL_f (v := .ref (atx 0)) C hG kX7 0 0 rfl (by decide) (congrArg some (hye.1)) q460 rfl dX7_sum_15 ?_
        refine lv_aload_n hx hb dX7_sum_18 rfl (lv_at hl 0 rfl) ?_
        refine gL_f (v := .int (yy 0 3)) C hG kX7 0 3 rfl (by decide) rfl q463 rfl dX7_sum_19 ?_
        obtain ⟨r1, hcr1, h⟩ := bnd_some h
        refine gF_i (ws' := (rY E ay ye yy ++ (rW E aw ww ++ (rP E ap pp ++ (rT E atx tn tt ++ []))))) C hG (pout (pout (pout (pin pnil)))) (List.Perm.symm (pout (pout (pout (pin pnil))))) (gR_N (As := [.int (yy 0 3)]) (rest := []) C hz hl.1 hG (pout (pout (pout (pin pnil)))) (c_X9_kindAt l E atx N tn (yy 0 3) tt hcr1 H.size) okX9_kindAt q1047 0 rfl rfl rfl (Nat.le_of_ble_eq_true rfl) (by omega) ⟨Nat.le_refl _, Nat.le_refl _⟩ dX7_sum_22) (fun H locs _ hG => ?_)
        refine lv_bipush (v := 43) hx hb dX7_sum_25 (by decide) ?_
        refine lv_icmp_ne (tgt := 57) hx hb dX7_sum_27 (by decide) (fun c27 => ?_) (fun c27 => ?_)
        · replace h := ie c27 h
          exact K57 x1 yy _ _ _ hG (lv_sub hl [0, 1] rfl) h
        · replace h := it c27 h
          refine lv_aload_n hx hb dX7_sum_30 rfl (lv_at hl 0 rfl) ?_
          refine lv_dup hx hb dX7_sum_31 rfl ?_
          refine gL_f (v := .int (yy 0 3)) C hG kX7 0 3 rfl (by decide) rfl q463 rfl dX7_sum_32 ?_
          refine lv_iconst (v := 1) hx hb dX7_sum_35 (by decide) ?_
          refine lv_iadd hx hb dX7_sum_36 ?_
          obtain ⟨yy_2, eyy_2, h⟩ := thn_some h
          refine gS_f (v := .int ((yy 0 3) + 1)) (ws' := (rY E ay ye yy_2 ++ (rW E aw ww ++ (rP E ap pp ++ (rT E atx tn tt ++ []))))) C hG kX7 0 3 rfl (by decide) q463 rfl rfl rfl rfl (by show 3 < 8; decide) dX7_sum_37 (by rw [eyy_2]; rfl) (fun H locs hG => ?_)
          refine lv_iload_n hx hb dX7_sum_40 rfl (lv_at hl 1 rfl) ?_
          refine lv_aload_n hx hb dX7_sum_41 rfl (lv_at hl 0 rfl) ?_
          obtain ⟨r3, hcr3, h⟩ := bnd_some h
          refine gF_i (ws' := (rY E ay ye r3.2 ++ (rW E aw ww ++ (rP E ap pp ++ (rT E atx tn tt ++ []))))) C hG (pin (pin (pin (pin pnil)))) (List.Perm.symm (pin (pin (pin (pin pnil))))) (gR_V (As := []) (rest := [.int x1]) C hz hl.1 hG (pin (pin (pin (pin pnil)))) (c_X7_product l E ay aw ap atx ye hye N tn yy_2 ww pp tt hcr3 H.size) okX7_product q1059 0 rfl rfl rfl (Nat.le_of_ble_eq_true rfl) (by omega) ⟨Nat.le_refl _, Nat.le_refl _⟩ dX7_sum_42) (fun H locs _ hG => ?_)
          refine lv_iadd hx hb dX7_sum_45 ?_
          refine lv_sipush (v := 10000) hx hb dX7_sum_46 (by decide) ?_
          refine lv_irem hx hb dX7_sum_49 (by decide) ?_
          refine g_int (v := (irem (x1 + r3.1) 10000)) rfl ?_
          obtain ⟨x1_4, ex1_4, h⟩ := thn_some h
          refine g_int ex1_4 ?_
          refine lv_istore_n (lv' := [(1, .int x1_4), (0, .ref (ay 0)), (2, .int x2)]) hx hb dX7_sum_50 rfl hl (by decide) rfl (fun ls hl => ?_)
          refine lv_iinc (v := (x2 + 1)) (lv' := [(2, .int (x2 + 1)), (1, .int x1_4), (0, .ref (ay 0))]) hx hb dX7_sum_51 hl (k := 2) rfl (congrArg (x2 + ·) (by decide : Int32.ofInt 1 = 1)) (by decide) rfl (fun ls hl => ?_)
          refine lv_goto (tgt := 7) hx hb dX7_sum_54 (by decide) ?_
          exact ih x1_4 (x2 + 1) r3.2 _ _ _ hG (lv_sub hl [2, 1, 0] rfl) h
  rw [fX7_sum] at h
  refine lv_aload_n hx hb dX7_sum_0 rfl (lv_at hl 0 rfl) ?_
  obtain ⟨r1, hcr1, h⟩ := bnd_some h
  refine gF_i (ws' := (rY E ay ye r1.2 ++ (rW E aw ww ++ (rP E ap pp ++ (rT E atx tn tt ++ []))))) C hG (pin (pin (pin (pin pnil)))) (List.Perm.symm (pin (pin (pin (pin pnil))))) (gR_V (As := []) (rest := []) C hz hl.1 hG (pin (pin (pin (pin pnil)))) (c_X7_product l E ay aw ap atx ye hye N tn yy ww pp tt hcr1 H.size) okX7_product q1059 0 rfl rfl rfl (Nat.le_of_ble_eq_true rfl) (by omega) ⟨Nat.le_refl _, Nat.le_refl _⟩ dX7_sum_1) (fun H locs _ hG => ?_)
  refine lv_istore_n (lv' := [(1, .int r1.1), (0, .ref (ay 0))]) hx hb dX7_sum_4 rfl hl (by decide) rfl (fun ls hl => ?_)
  refine lv_iconst (v := 0) hx hb dX7_sum_5 (by decide) ?_
  refine lv_istore_n (lv' := [(2, .int 0), (1, .int r1.1), (0, .ref (ay 0))]) hx hb dX7_sum_6 rfl hl (by decide) rfl (fun ls hl => ?_)
  exact K7 N r1.1 0 r1.2 _ _ _ hG (lv_sub hl [2, 1, 0] rfl) h
set_option maxHeartbeats 4000000 in
set_option maxRecDepth 100000 in
theorem c_X7_readOne (l : Launch) (E : GE) (ay : Nat → Nat) (aw : Nat → Nat) (ap : Nat → Nat) (atx : Nat → Nat) (ye : Nat → Value) (hye : ye 0 = .ref (atx 0) ∧ ye 1 = .ref (aw 0) ∧ ye 2 = .ref (ap 0)) (N : Nat) (tn : Nat) (yy : RS) (ww : RS) (pp : RS) (tt : RS) {res : RS × RS} (h : fX7_readOne N tn yy ww pp tt = some res) : gMv l E yX7_readOne cX7_readOne 3 5 0 0 [.ref (ay 0)] (rY E ay ye yy ++ (rW E aw ww ++ (rP E ap pp ++ (rT E atx tn tt ++ [])))) (rY E ay ye res.1 ++ (rW E aw res.2 ++ (rP E ap pp ++ (rT E atx tn tt ++ [])))) := by
  refine gMv_of (own := RX7) (by decide +kernel) rfl (Nat.le_of_ble_eq_true rfl) ?_
  intro p e s m args below meth c A ls Q H locs C hz hl hG hin hret
  have hx := C.1.1
  have hb := C.1.2.1
  have hts := C.1.2.2.2.2
  have hown := C.1.2.2.2.1
  have hl : lv_has ls 3 [(0, .ref (ay 0))] := hl
  replace hret : ∀ (yy0 : RS) (ww0 : RS) (H : Heap) (locs : List Loc) (pc : Nat) (ls' : Array Slot), some (yy0, ww0) = some res → gG E A s.heap (rY E ay ye yy0 ++ (rW E aw ww0 ++ (rP E ap pp ++ (rT E atx tn tt ++ [])))) H locs → decode cX7_readOne pc = .ok (.return_, 1) → W p l e (rmD 5 0 0) s m args below meth c H locs 0 0 Q (F0 m pc ls' []) := by
    intro yy0 ww0 H locs pc ls' e0; cases e0; exact hret H locs pc ls'
  rw [fX7_readOne] at h
  refine lv_aload_n hx hb dX7_readOne_0 rfl (lv_at hl 0 rfl) ?_
  obtain ⟨r1, hcr1, h⟩ := bnd_some h
  refine gF_i (ws' := (rY E ay ye r1.2 ++ (rW E aw ww ++ (rP E ap pp ++ (rT E atx tn tt ++ []))))) C hG (pin (pin (pin (pin pnil)))) (List.Perm.symm (pin (pin (pin (pin pnil))))) (gR_V (As := []) (rest := []) C hz hl.1 hG (pin (pin (pin (pin pnil)))) (c_X7_sum l E ay aw ap atx ye hye N tn yy ww pp tt hcr1 H.size) okX7_sum q1055 0 rfl rfl rfl (Nat.le_of_ble_eq_true rfl) (by omega) ⟨Nat.le_refl _, Nat.le_refl _⟩ dX7_readOne_1) (fun H locs _ hG => ?_)
  refine lv_bipush (v := 10) hx hb dX7_readOne_4 (by decide) ?_
  refine lv_irem hx hb dX7_readOne_6 (by decide) ?_
  refine g_int (v := (irem r1.1 10)) rfl ?_
  obtain ⟨x1_2, ex1_2, h⟩ := thn_some h
  refine g_int ex1_2 ?_
  refine lv_istore_n (lv' := [(1, .int x1_2), (0, .ref (ay 0))]) hx hb dX7_readOne_7 rfl hl (by decide) rfl (fun ls hl => ?_)
  refine lv_aload_n hx hb dX7_readOne_8 rfl (lv_at hl 1 rfl) ?_
  obtain ⟨r3, hcr3, h⟩ := bnd_some h
  refine gF_i (ws' := (rY E ay ye r3.2 ++ (rW E aw ww ++ (rP E ap pp ++ (rT E atx tn tt ++ []))))) C hG (pin (pin (pin (pin pnil)))) (List.Perm.symm (pin (pin (pin (pin pnil))))) (gR_V (As := []) (rest := []) C hz hl.1 hG (pin (pin (pin (pin pnil)))) (c_X7_sum l E ay aw ap atx ye hye N tn r1.2 ww pp tt hcr3 H.size) okX7_sum q1055 0 rfl rfl rfl (Nat.le_of_ble_eq_true rfl) (by omega) ⟨Nat.le_refl _, Nat.le_refl _⟩ dX7_readOne_9) (fun H locs _ hG => ?_)
  refine gT_zN C hG q1071 dX7_readOne_12 ?_
  refine lv_iload_n hx hb dX7_readOne_15 rfl (lv_at hl 0 rfl) ?_
  obtain ⟨b4, h⟩ := ck_some h
  refine gT_zi (v := (sizeT x1_2.toNatClampNeg)) C hG (inb_in b4) rfl dX7_readOne_16 ?_
  obtain ⟨b5, h⟩ := ck_some h
  refine lv_irem hx hb dX7_readOne_17 (nz_ne b5) ?_
  refine g_int (v := (irem r3.1 (sizeT x1_2.toNatClampNeg))) rfl ?_
  obtain ⟨x2_6, ex2_6, h⟩ := thn_some h
  refine g_int ex2_6 ?_
  refine lv_istore_n (lv' := [(2, .int x2_6), (1, .int x1_2), (0, .ref (ay 0))]) hx hb dX7_readOne_18 rfl hl (by decide) rfl (fun ls hl => ?_)
  refine lv_aload_n hx hb dX7_readOne_19 rfl (lv_at hl 2 rfl) ?_
  refine gL_f (v := .ref (aw 0)) C hG kX7 0 1 rfl (by decide) (congrArg some (hye.2.1)) q461 rfl dX7_readOne_20 ?_
  refine lv_iload_n hx hb dX7_readOne_23 rfl (lv_at hl 1 rfl) ?_
  refine lv_iload_n hx hb dX7_readOne_24 rfl (lv_at hl 0 rfl) ?_
  obtain ⟨r7, hcr7, h⟩ := bnd_some h
  refine gF_i (ws' := (rY E ay ye r3.2 ++ (rW E aw r7.2 ++ (rP E ap pp ++ (rT E atx tn tt ++ []))))) C hG (pout (pin (pout (pout pnil)))) (List.Perm.symm (pout (pin (pout (pout pnil))))) (gR_N (As := [.int x1_2, .int x2_6]) (rest := []) C hz hl.1 hG (pout (pin (pout (pout pnil)))) (c_X10_readBlock l E aw N x1_2 x2_6 ww hcr7 H.size) okX10_readBlock q1072 0 rfl rfl rfl (Nat.le_of_ble_eq_true rfl) (by omega) ⟨Nat.le_refl _, Nat.le_refl _⟩ dX7_readOne_25) (fun H locs _ hG => ?_)
  refine lv_pop hx hb dX7_readOne_28 rfl ?_
  refine lv_aload_n hx hb dX7_readOne_29 rfl (lv_at hl 2 rfl) ?_
  refine lv_dup hx hb dX7_readOne_30 rfl ?_
  refine gL_f (v := .int (r3.2 0 4)) C hG kX7 0 4 rfl (by decide) rfl q464 rfl dX7_readOne_31 ?_
  refine lv_iconst (v := 1) hx hb dX7_readOne_34 (by decide) ?_
  refine lv_iadd hx hb dX7_readOne_35 ?_
  obtain ⟨yy_8, eyy_8, h⟩ := thn_some h
  refine gS_f (v := .int ((r3.2 0 4) + 1)) (ws' := (rY E ay ye yy_8 ++ (rW E aw r7.2 ++ (rP E ap pp ++ (rT E atx tn tt ++ []))))) C hG kX7 0 4 rfl (by decide) q464 rfl rfl rfl rfl (by show 4 < 8; decide) dX7_readOne_36 (by rw [eyy_8]; rfl) (fun H locs hG => ?_)
  exact hret _ _ _ _ _ _ h hG dX7_readOne_39
set_option maxHeartbeats 4000000 in
set_option maxRecDepth 100000 in
theorem c_X7_writeOne (l : Launch) (E : GE) (ay : Nat → Nat) (aw : Nat → Nat) (ap : Nat → Nat) (atx : Nat → Nat) (ye : Nat → Value) (hye : ye 0 = .ref (atx 0) ∧ ye 1 = .ref (aw 0) ∧ ye 2 = .ref (ap 0)) (N : Nat) (tn : Nat) (yy : RS) (ww : RS) (pp : RS) (tt : RS) {res : RS × RS} (h : fX7_writeOne N tn yy ww pp tt = some res) : gMv l E yX7_writeOne cX7_writeOne 3 5 0 0 [.ref (ay 0)] (rY E ay ye yy ++ (rW E aw ww ++ (rP E ap pp ++ (rT E atx tn tt ++ [])))) (rY E ay ye res.1 ++ (rW E aw res.2 ++ (rP E ap pp ++ (rT E atx tn tt ++ [])))) := by
  refine gMv_of (own := RX7) (by decide +kernel) rfl (Nat.le_of_ble_eq_true rfl) ?_
  intro p e s m args below meth c A ls Q H locs C hz hl hG hin hret
  have hx := C.1.1
  have hb := C.1.2.1
  have hts := C.1.2.2.2.2
  have hown := C.1.2.2.2.1
  have hl : lv_has ls 3 [(0, .ref (ay 0))] := hl
  replace hret : ∀ (yy0 : RS) (ww0 : RS) (H : Heap) (locs : List Loc) (pc : Nat) (ls' : Array Slot), some (yy0, ww0) = some res → gG E A s.heap (rY E ay ye yy0 ++ (rW E aw ww0 ++ (rP E ap pp ++ (rT E atx tn tt ++ [])))) H locs → decode cX7_writeOne pc = .ok (.return_, 1) → W p l e (rmD 5 0 0) s m args below meth c H locs 0 0 Q (F0 m pc ls' []) := by
    intro yy0 ww0 H locs pc ls' e0; cases e0; exact hret H locs pc ls'
  rw [fX7_writeOne] at h
  refine lv_aload_n hx hb dX7_writeOne_0 rfl (lv_at hl 0 rfl) ?_
  obtain ⟨r1, hcr1, h⟩ := bnd_some h
  refine gF_i (ws' := (rY E ay ye r1.2 ++ (rW E aw ww ++ (rP E ap pp ++ (rT E atx tn tt ++ []))))) C hG (pin (pin (pin (pin pnil)))) (List.Perm.symm (pin (pin (pin (pin pnil))))) (gR_V (As := []) (rest := []) C hz hl.1 hG (pin (pin (pin (pin pnil)))) (c_X7_sum l E ay aw ap atx ye hye N tn yy ww pp tt hcr1 H.size) okX7_sum q1055 0 rfl rfl rfl (Nat.le_of_ble_eq_true rfl) (by omega) ⟨Nat.le_refl _, Nat.le_refl _⟩ dX7_writeOne_1) (fun H locs _ hG => ?_)
  refine lv_bipush (v := 10) hx hb dX7_writeOne_4 (by decide) ?_
  refine lv_irem hx hb dX7_writeOne_6 (by decide) ?_
  refine g_int (v := (irem r1.1 10)) rfl ?_
  obtain ⟨x1_2, ex1_2, h⟩ := thn_some h
  refine g_int ex1_2 ?_
  refine lv_istore_n (lv' := [(1, .int x1_2), (0, .ref (ay 0))]) hx hb dX7_writeOne_7 rfl hl (by decide) rfl (fun ls hl => ?_)
  refine lv_aload_n hx hb dX7_writeOne_8 rfl (lv_at hl 1 rfl) ?_
  obtain ⟨r3, hcr3, h⟩ := bnd_some h
  refine gF_i (ws' := (rY E ay ye r3.2 ++ (rW E aw ww ++ (rP E ap pp ++ (rT E atx tn tt ++ []))))) C hG (pin (pin (pin (pin pnil)))) (List.Perm.symm (pin (pin (pin (pin pnil))))) (gR_V (As := []) (rest := []) C hz hl.1 hG (pin (pin (pin (pin pnil)))) (c_X7_sum l E ay aw ap atx ye hye N tn r1.2 ww pp tt hcr3 H.size) okX7_sum q1055 0 rfl rfl rfl (Nat.le_of_ble_eq_true rfl) (by omega) ⟨Nat.le_refl _, Nat.le_refl _⟩ dX7_writeOne_9) (fun H locs _ hG => ?_)
  refine gT_zN C hG q1071 dX7_writeOne_12 ?_
  refine lv_iload_n hx hb dX7_writeOne_15 rfl (lv_at hl 0 rfl) ?_
  obtain ⟨b4, h⟩ := ck_some h
  refine gT_zi (v := (sizeT x1_2.toNatClampNeg)) C hG (inb_in b4) rfl dX7_writeOne_16 ?_
  obtain ⟨b5, h⟩ := ck_some h
  refine lv_irem hx hb dX7_writeOne_17 (nz_ne b5) ?_
  refine g_int (v := (irem r3.1 (sizeT x1_2.toNatClampNeg))) rfl ?_
  obtain ⟨x2_6, ex2_6, h⟩ := thn_some h
  refine g_int ex2_6 ?_
  refine lv_istore_n (lv' := [(2, .int x2_6), (1, .int x1_2), (0, .ref (ay 0))]) hx hb dX7_writeOne_18 rfl hl (by decide) rfl (fun ls hl => ?_)
  refine lv_aload_n hx hb dX7_writeOne_19 rfl (lv_at hl 2 rfl) ?_
  refine gL_f (v := .ref (aw 0)) C hG kX7 0 1 rfl (by decide) (congrArg some (hye.2.1)) q461 rfl dX7_writeOne_20 ?_
  refine lv_iload_n hx hb dX7_writeOne_23 rfl (lv_at hl 1 rfl) ?_
  refine lv_iload_n hx hb dX7_writeOne_24 rfl (lv_at hl 0 rfl) ?_
  refine lv_aload_n hx hb dX7_writeOne_25 rfl (lv_at hl 2 rfl) ?_
  obtain ⟨r7, hcr7, h⟩ := bnd_some h
  refine gF_i (ws' := (rY E ay ye r7.2 ++ (rW E aw ww ++ (rP E ap pp ++ (rT E atx tn tt ++ []))))) C hG (pin (pin (pin (pin pnil)))) (List.Perm.symm (pin (pin (pin (pin pnil))))) (gR_V (As := []) (rest := [.int x2_6, .int x1_2, .ref (aw 0)]) C hz hl.1 hG (pin (pin (pin (pin pnil)))) (c_X7_sum l E ay aw ap atx ye hye N tn r3.2 ww pp tt hcr7 H.size) okX7_sum q1055 0 rfl rfl rfl (Nat.le_of_ble_eq_true rfl) (by omega) ⟨Nat.le_refl _, Nat.le_refl _⟩ dX7_writeOne_26) (fun H locs _ hG => ?_)
  refine lv_sipush (v := 1000) hx hb dX7_writeOne_29 (by decide) ?_
  refine lv_irem hx hb dX7_writeOne_32 (by decide) ?_
  refine g_int (v := (irem r7.1 1000)) rfl ?_
  obtain ⟨r8, hcr8, h⟩ := bnd_some h
  refine gF_v (ws' := (rY E ay ye r7.2 ++ (rW E aw r8 ++ (rP E ap pp ++ (rT E atx tn tt ++ []))))) C hG (pout (pin (pout (pout pnil)))) (List.Perm.symm (pout (pin (pout (pout pnil))))) (gR_N (As := [.int x1_2, .int x2_6, .int (irem r7.1 1000)]) (rest := []) C hz hl.1 hG (pout (pin (pout (pout pnil)))) (c_X10_writeBlock l E aw N x1_2 x2_6 (irem r7.1 1000) ww hcr8 H.size) okX10_writeBlock q1077 0 rfl rfl rfl (Nat.le_of_ble_eq_true rfl) (by omega) ⟨Nat.le_refl _, Nat.le_refl _⟩ dX7_writeOne_33) (fun H locs hG => ?_)
  refine lv_aload_n hx hb dX7_writeOne_36 rfl (lv_at hl 2 rfl) ?_
  refine lv_dup hx hb dX7_writeOne_37 rfl ?_
  refine gL_f (v := .int (r7.2 0 4)) C hG kX7 0 4 rfl (by decide) rfl q464 rfl dX7_writeOne_38 ?_
  refine lv_iconst (v := 1) hx hb dX7_writeOne_41 (by decide) ?_
  refine lv_iadd hx hb dX7_writeOne_42 ?_
  obtain ⟨yy_9, eyy_9, h⟩ := thn_some h
  refine gS_f (v := .int ((r7.2 0 4) + 1)) (ws' := (rY E ay ye yy_9 ++ (rW E aw r8 ++ (rP E ap pp ++ (rT E atx tn tt ++ []))))) C hG kX7 0 4 rfl (by decide) q464 rfl rfl rfl rfl (by show 4 < 8; decide) dX7_writeOne_43 (by rw [eyy_9]; rfl) (fun H locs hG => ?_)
  exact hret _ _ _ _ _ _ h hG dX7_writeOne_46
set_option maxHeartbeats 4000000 in
set_option maxRecDepth 100000 in
theorem c_X7_scanSome (l : Launch) (E : GE) (ay : Nat → Nat) (aw : Nat → Nat) (ap : Nat → Nat) (atx : Nat → Nat) (ye : Nat → Value) (hye : ye 0 = .ref (atx 0) ∧ ye 1 = .ref (aw 0) ∧ ye 2 = .ref (ap 0)) (N : Nat) (tn : Nat) (yy : RS) (ww : RS) (pp : RS) (tt : RS) {res : RS × RS} (h : fX7_scanSome N tn yy ww pp tt = some res) : gMv l E yX7_scanSome cX7_scanSome 3 5 0 0 [.ref (ay 0)] (rY E ay ye yy ++ (rW E aw ww ++ (rP E ap pp ++ (rT E atx tn tt ++ [])))) (rY E ay ye res.1 ++ (rW E aw res.2 ++ (rP E ap pp ++ (rT E atx tn tt ++ [])))) := by
  refine gMv_of (own := RX7) (by decide +kernel) rfl (Nat.le_of_ble_eq_true rfl) ?_
  intro p e s m args below meth c A ls Q H locs C hz hl hG hin hret
  have hx := C.1.1
  have hb := C.1.2.1
  have hts := C.1.2.2.2.2
  have hown := C.1.2.2.2.1
  have hl : lv_has ls 3 [(0, .ref (ay 0))] := hl
  replace hret : ∀ (yy0 : RS) (ww0 : RS) (H : Heap) (locs : List Loc) (pc : Nat) (ls' : Array Slot), some (yy0, ww0) = some res → gG E A s.heap (rY E ay ye yy0 ++ (rW E aw ww0 ++ (rP E ap pp ++ (rT E atx tn tt ++ [])))) H locs → decode cX7_scanSome pc = .ok (.return_, 1) → W p l e (rmD 5 0 0) s m args below meth c H locs 0 0 Q (F0 m pc ls' []) := by
    intro yy0 ww0 H locs pc ls' e0; cases e0; exact hret H locs pc ls'
  rw [fX7_scanSome] at h
  refine lv_aload_n hx hb dX7_scanSome_0 rfl (lv_at hl 0 rfl) ?_
  obtain ⟨r1, hcr1, h⟩ := bnd_some h
  refine gF_i (ws' := (rY E ay ye r1.2 ++ (rW E aw ww ++ (rP E ap pp ++ (rT E atx tn tt ++ []))))) C hG (pin (pin (pin (pin pnil)))) (List.Perm.symm (pin (pin (pin (pin pnil))))) (gR_V (As := []) (rest := []) C hz hl.1 hG (pin (pin (pin (pin pnil)))) (c_X7_sum l E ay aw ap atx ye hye N tn yy ww pp tt hcr1 H.size) okX7_sum q1055 0 rfl rfl rfl (Nat.le_of_ble_eq_true rfl) (by omega) ⟨Nat.le_refl _, Nat.le_refl _⟩ dX7_scanSome_1) (fun H locs _ hG => ?_)
  refine lv_bipush (v := 10) hx hb dX7_scanSome_4 (by decide) ?_
  refine lv_irem hx hb dX7_scanSome_6 (by decide) ?_
  refine g_int (v := (irem r1.1 10)) rfl ?_
  obtain ⟨x1_2, ex1_2, h⟩ := thn_some h
  refine g_int ex1_2 ?_
  refine lv_istore_n (lv' := [(1, .int x1_2), (0, .ref (ay 0))]) hx hb dX7_scanSome_7 rfl hl (by decide) rfl (fun ls hl => ?_)
  refine lv_aload_n hx hb dX7_scanSome_8 rfl (lv_at hl 1 rfl) ?_
  obtain ⟨r3, hcr3, h⟩ := bnd_some h
  refine gF_i (ws' := (rY E ay ye r3.2 ++ (rW E aw ww ++ (rP E ap pp ++ (rT E atx tn tt ++ []))))) C hG (pin (pin (pin (pin pnil)))) (List.Perm.symm (pin (pin (pin (pin pnil))))) (gR_V (As := []) (rest := []) C hz hl.1 hG (pin (pin (pin (pin pnil)))) (c_X7_sum l E ay aw ap atx ye hye N tn r1.2 ww pp tt hcr3 H.size) okX7_sum q1055 0 rfl rfl rfl (Nat.le_of_ble_eq_true rfl) (by omega) ⟨Nat.le_refl _, Nat.le_refl _⟩ dX7_scanSome_9) (fun H locs _ hG => ?_)
  refine lv_bipush (v := 10) hx hb dX7_scanSome_12 (by decide) ?_
  refine lv_irem hx hb dX7_scanSome_14 (by decide) ?_
  refine g_int (v := (irem r3.1 10)) rfl ?_
  obtain ⟨x2_4, ex2_4, h⟩ := thn_some h
  refine g_int ex2_4 ?_
  refine lv_istore_n (lv' := [(2, .int x2_4), (1, .int x1_2), (0, .ref (ay 0))]) hx hb dX7_scanSome_15 rfl hl (by decide) rfl (fun ls hl => ?_)
  refine lv_aload_n hx hb dX7_scanSome_16 rfl (lv_at hl 2 rfl) ?_
  refine lv_dup hx hb dX7_scanSome_17 rfl ?_
  refine gL_f (v := .int (r3.2 0 4)) C hG kX7 0 4 rfl (by decide) rfl q464 rfl dX7_scanSome_18 ?_
  refine lv_aload_n hx hb dX7_scanSome_21 rfl (lv_at hl 2 rfl) ?_
  refine gL_f (v := .ref (aw 0)) C hG kX7 0 1 rfl (by decide) (congrArg some (hye.2.1)) q461 rfl dX7_scanSome_22 ?_
  refine lv_iload_n hx hb dX7_scanSome_25 rfl (lv_at hl 1 rfl) ?_
  refine lv_iload_n hx hb dX7_scanSome_26 rfl (lv_at hl 0 rfl) ?_
  refine lv_sipush (v := 300) hx hb dX7_scanSome_27 (by decide) ?_
  refine lv_aload_n hx hb dX7_scanSome_30 rfl (lv_at hl 2 rfl) ?_
  refine gL_f (v := .int (r3.2 0 4)) C hG kX7 0 4 rfl (by decide) rfl q464 rfl dX7_scanSome_31 ?_
  refine lv_isub hx hb dX7_scanSome_34 ?_
  obtain ⟨r5, hcr5, h⟩ := bnd_some h
  refine gF_i (ws' := (rY E ay ye r3.2 ++ (rW E aw r5.2 ++ (rP E ap pp ++ (rT E atx tn tt ++ []))))) C hG (pout (pin (pout (pout pnil)))) (List.Perm.symm (pout (pin (pout (pout pnil))))) (gR_N (As := [.int x1_2, .int x2_4, .int (300 - (r3.2 0 4))]) (rest := [.int (r3.2 0 4), .ref (ay 0)]) C hz hl.1 hG (pout (pin (pout (pout pnil)))) (c_X10_readExtents l E aw N x1_2 x2_4 (300 - (r3.2 0 4)) ww hcr5 H.size) okX10_readExtents q1082 0 rfl rfl rfl (Nat.le_of_ble_eq_true rfl) (by omega) ⟨Nat.le_refl _, Nat.le_refl _⟩ dX7_scanSome_35) (fun H locs _ hG => ?_)
  refine lv_iadd hx hb dX7_scanSome_38 ?_
  obtain ⟨yy_6, eyy_6, h⟩ := thn_some h
  refine gS_f (v := .int ((r3.2 0 4) + r5.1)) (ws' := (rY E ay ye yy_6 ++ (rW E aw r5.2 ++ (rP E ap pp ++ (rT E atx tn tt ++ []))))) C hG kX7 0 4 rfl (by decide) q464 rfl rfl rfl rfl (by show 4 < 8; decide) dX7_scanSome_39 (by rw [eyy_6]; rfl) (fun H locs hG => ?_)
  exact hret _ _ _ _ _ _ h hG dX7_scanSome_42
set_option maxHeartbeats 4000000 in
set_option maxRecDepth 100000 in
theorem c_X7_enter (l : Launch) (E : GE) (ay : Nat → Nat) (aw : Nat → Nat) (ap : Nat → Nat) (atx : Nat → Nat) (ye : Nat → Value) (hye : ye 0 = .ref (atx 0) ∧ ye 1 = .ref (aw 0) ∧ ye 2 = .ref (ap 0)) (N : Nat) (tn : Nat) (x1 : Int32) (yy : RS) (ww : RS) (pp : RS) (tt : RS) {res : RS} (h : fX7_enter N tn x1 yy ww pp tt = some res) : gMv l E yX7_enter cX7_enter 2 1 0 0 [.ref (ay 0), .int x1] (rY E ay ye yy ++ (rW E aw ww ++ (rP E ap pp ++ (rT E atx tn tt ++ [])))) (rY E ay ye res ++ (rW E aw ww ++ (rP E ap pp ++ (rT E atx tn tt ++ [])))) := by
  refine gMv_of (own := RX7) (by decide +kernel) rfl (Nat.le_of_ble_eq_true rfl) ?_
  intro p e s m args below meth c A ls Q H locs C hz hl hG hin hret
  have hx := C.1.1
  have hb := C.1.2.1
  have hts := C.1.2.2.2.2
  have hown := C.1.2.2.2.1
  have hl : lv_has ls 2 [(0, .ref (ay 0)), (1, .int x1)] := hl
  replace hret : ∀ (yy0 : RS) (H : Heap) (locs : List Loc) (pc : Nat) (ls' : Array Slot), some yy0 = some res → gG E A s.heap (rY E ay ye yy0 ++ (rW E aw ww ++ (rP E ap pp ++ (rT E atx tn tt ++ [])))) H locs → decode cX7_enter pc = .ok (.return_, 1) → W p l e (rmD 1 0 0) s m args below meth c H locs 0 0 Q (F0 m pc ls' []) := by
    intro yy0 H locs pc ls' e0; cases e0; exact hret H locs pc ls'
  rw [fX7_enter] at h
  refine lv_aload_n hx hb dX7_enter_0 rfl (lv_at hl 0 rfl) ?_
  refine gL_f (v := .int (yy 0 5)) C hG kX7 0 5 rfl (by decide) rfl q465 rfl dX7_enter_1 ?_
  refine lv_iconst (v := 3) hx hb dX7_enter_4 (by decide) ?_
  refine lv_icmp_ge (tgt := 38) hx hb dX7_enter_5 (by decide) (fun c5 => ?_) (fun c5 => ?_)
  · replace h := it c5 h
    exact hret _ _ _ _ _ h hG dX7_enter_38
  · replace h := ie c5 h
    refine lv_aload_n hx hb dX7_enter_8 rfl (lv_at hl 0 rfl) ?_
    refine gL_f (v := .ref (ay 1)) C hG kX7 0 6 rfl (by decide) rfl q466 rfl dX7_enter_9 ?_
    refine lv_aload_n hx hb dX7_enter_12 rfl (lv_at hl 0 rfl) ?_
    refine gL_f (v := .int (yy 0 5)) C hG kX7 0 5 rfl (by decide) rfl q465 rfl dX7_enter_13 ?_
    refine lv_iconst (v := 0) hx hb dX7_enter_16 (by decide) ?_
    obtain ⟨b1, h⟩ := ck_some h
    obtain ⟨yy_2, eyy_2, h⟩ := thn_some h
    refine gS_i (x := 0) (ws' := (rY E ay ye yy_2 ++ (rW E aw ww ++ (rP E ap pp ++ (rT E atx tn tt ++ []))))) C hG 1 rfl (inb_in b1) rfl dX7_enter_17 (by rw [eyy_2]; rfl) (fun H locs hG => ?_)
    refine lv_aload_n hx hb dX7_enter_18 rfl (lv_at hl 0 rfl) ?_
    refine gL_f (v := .ref (ay 2)) C hG kX7 0 7 rfl (by decide) rfl q467 rfl dX7_enter_19 ?_
    refine lv_aload_n hx hb dX7_enter_22 rfl (lv_at hl 0 rfl) ?_
    refine gL_f (v := .int (yy_2 0 5)) C hG kX7 0 5 rfl (by decide) rfl q465 rfl dX7_enter_23 ?_
    refine lv_iload_n hx hb dX7_enter_26 rfl (lv_at hl 1 rfl) ?_
    obtain ⟨b3, h⟩ := ck_some h
    obtain ⟨yy_4, eyy_4, h⟩ := thn_some h
    refine gS_i (x := x1) (ws' := (rY E ay ye yy_4 ++ (rW E aw ww ++ (rP E ap pp ++ (rT E atx tn tt ++ []))))) C hG 2 rfl (inb_in b3) rfl dX7_enter_27 (by rw [eyy_4]; rfl) (fun H locs hG => ?_)
    refine lv_aload_n hx hb dX7_enter_28 rfl (lv_at hl 0 rfl) ?_
    refine lv_dup hx hb dX7_enter_29 rfl ?_
    refine gL_f (v := .int (yy_4 0 5)) C hG kX7 0 5 rfl (by decide) rfl q465 rfl dX7_enter_30 ?_
    refine lv_iconst (v := 1) hx hb dX7_enter_33 (by decide) ?_
    refine lv_iadd hx hb dX7_enter_34 ?_
    obtain ⟨yy_5, eyy_5, h⟩ := thn_some h
    refine gS_f (v := .int ((yy_4 0 5) + 1)) (ws' := (rY E ay ye yy_5 ++ (rW E aw ww ++ (rP E ap pp ++ (rT E atx tn tt ++ []))))) C hG kX7 0 5 rfl (by decide) q465 rfl rfl rfl rfl (by show 5 < 8; decide) dX7_enter_35 (by rw [eyy_5]; rfl) (fun H locs hG => ?_)
    exact hret _ _ _ _ _ h hG dX7_enter_38
set_option maxHeartbeats 4000000 in
set_option maxRecDepth 100000 in
theorem c_X7_enterIf (l : Launch) (E : GE) (ay : Nat → Nat) (aw : Nat → Nat) (ap : Nat → Nat) (atx : Nat → Nat) (ye : Nat → Value) (hye : ye 0 = .ref (atx 0) ∧ ye 1 = .ref (aw 0) ∧ ye 2 = .ref (ap 0)) (N : Nat) (tn : Nat) (yy : RS) (ww : RS) (pp : RS) (tt : RS) {res : RS} (h : fX7_enterIf N tn yy ww pp tt = some res) : gMv l E yX7_enterIf cX7_enterIf 4 5 0 0 [.ref (ay 0)] (rY E ay ye yy ++ (rW E aw ww ++ (rP E ap pp ++ (rT E atx tn tt ++ [])))) (rY E ay ye res ++ (rW E aw ww ++ (rP E ap pp ++ (rT E atx tn tt ++ [])))) := by
  refine gMv_of (own := RX7) (by decide +kernel) rfl (Nat.le_of_ble_eq_true rfl) ?_
  intro p e s m args below meth c A ls Q H locs C hz hl hG hin hret
  have hx := C.1.1
  have hb := C.1.2.1
  have hts := C.1.2.2.2.2
  have hown := C.1.2.2.2.1
  have hl : lv_has ls 4 [(0, .ref (ay 0))] := hl
  replace hret : ∀ (yy0 : RS) (H : Heap) (locs : List Loc) (pc : Nat) (ls' : Array Slot), some yy0 = some res → gG E A s.heap (rY E ay ye yy0 ++ (rW E aw ww ++ (rP E ap pp ++ (rT E atx tn tt ++ [])))) H locs → decode cX7_enterIf pc = .ok (.return_, 1) → W p l e (rmD 5 0 0) s m args below meth c H locs 0 0 Q (F0 m pc ls' []) := by
    intro yy0 H locs pc ls' e0; cases e0; exact hret H locs pc ls'
  have K43 : ∀  (yy : RS) (H : Heap) (locs : List Loc) (ls : Array Slot), gG E A s.heap (rY E ay ye yy ++ (rW E aw ww ++ (rP E ap pp ++ (rT E atx tn tt ++ [])))) H locs → lv_has ls 4 [(0, .ref (ay 0))] → fX7_enterIf_L43 N tn ww pp tt yy = some res → W p l e (rmD 5 0 0) s m args below meth c H locs 0 0 Q (F0 m 43 ls []) := by
    intro yy H locs ls hG hl h
    rw [fX7_enterIf_L43] at h
    refine lv_aload_n hx hb dX7_enterIf_43 rfl (lv_at hl 0 rfl) ?_
    refine lv_iconst (v := 1) hx hb dX7_enterIf_44 (by decide) ?_
    obtain ⟨r1, hcr1, h⟩ := bnd_some h
    refine gF_v (ws' := (rY E ay ye r1 ++ (rW E aw ww ++ (rP E ap pp ++ (rT E atx tn tt ++ []))))) C hG (pin (pin (pin (pin pnil)))) (List.Perm.symm (pin (pin (pin (pin pnil))))) (gR_V (As := [.int 1]) (rest := []) C hz hl.1 hG (pin (pin (pin (pin pnil)))) (c_X7_enter l E ay aw ap atx ye hye N tn 1 yy ww pp tt hcr1 H.size) okX7_enter q1085 0 rfl rfl rfl (Nat.le_of_ble_eq_true rfl) (by omega) ⟨Nat.le_refl _, Nat.le_refl _⟩ dX7_enterIf_45) (fun H locs hG => ?_)
    refine lv_goto (tgt := 70) hx hb dX7_enterIf_48 (by decide) ?_
    exact hret _ _ _ _ _ h hG dX7_enterIf_70
  have K51 : ∀  (yy : RS) (H : Heap) (locs : List Loc) (ls : Array Slot), gG E A s.heap (rY E ay ye yy ++ (rW E aw ww ++ (rP E ap pp ++ (rT E atx tn tt ++ [])))) H locs → lv_has ls 4 [(0, .ref (ay 0))] → fX7_enterIf_L51 N tn ww pp tt yy = some res → W p l e (rmD 5 0 0) s m args below meth c H locs 0 0 Q (F0 m 51 ls []) := by
    intro yy H locs ls hG hl h
    rw [fX7_enterIf_L51] at h
    refine lv_aload_n hx hb dX7_enterIf_51 rfl (lv_at hl 0 rfl) ?_
    refine lv_aload_n hx hb dX7_enterIf_52 rfl (lv_at hl 0 rfl) ?_
    refine gL_f (v := .ref (atx 0)) C hG kX7 0 0 rfl (by decide) (congrArg some (hye.1)) q460 rfl dX7_enterIf_53 ?_
    refine lv_aload_n hx hb dX7_enterIf_56 rfl (lv_at hl 0 rfl) ?_
    refine gL_f (v := .int (yy 0 3)) C hG kX7 0 3 rfl (by decide) rfl q463 rfl dX7_enterIf_57 ?_
    refine lv_iconst (v := 1) hx hb dX7_enterIf_60 (by decide) ?_
    refine lv_isub hx hb dX7_enterIf_61 ?_
    obtain ⟨r1, hcr1, h⟩ := bnd_some h
    refine gF_i (ws' := (rY E ay ye yy ++ (rW E aw ww ++ (rP E ap pp ++ (rT E atx tn tt ++ []))))) C hG (pout (pout (pout (pin pnil)))) (List.Perm.symm (pout (pout (pout (pin pnil))))) (gR_N (As := [.int ((yy 0 3) - 1)]) (rest := [.ref (ay 0)]) C hz hl.1 hG (pout (pout (pout (pin pnil)))) (c_X9_valueAt l E atx N tn ((yy 0 3) - 1) tt hcr1 H.size) okX9_valueAt q1067 0 rfl rfl rfl (Nat.le_of_ble_eq_true rfl) (by omega) ⟨Nat.le_refl _, Nat.le_refl _⟩ dX7_enterIf_62) (fun H locs _ hG => ?_)
    refine lv_iconst (v := 1) hx hb dX7_enterIf_65 (by decide) ?_
    refine lv_iadd hx hb dX7_enterIf_66 ?_
    obtain ⟨yy_2, eyy_2, h⟩ := thn_some h
    refine gS_f (v := .int (r1 + 1)) (ws' := (rY E ay ye yy_2 ++ (rW E aw ww ++ (rP E ap pp ++ (rT E atx tn tt ++ []))))) C hG kX7 0 3 rfl (by decide) q463 rfl rfl rfl rfl (by show 3 < 8; decide) dX7_enterIf_67 (by rw [eyy_2]; rfl) (fun H locs hG => ?_)
    exact hret _ _ _ _ _ h hG dX7_enterIf_70
  rw [fX7_enterIf] at h
  refine lv_aload_n hx hb dX7_enterIf_0 rfl (lv_at hl 0 rfl) ?_
  obtain ⟨r1, hcr1, h⟩ := bnd_some h
  refine gF_i (ws' := (rY E ay ye r1.2 ++ (rW E aw ww ++ (rP E ap pp ++ (rT E atx tn tt ++ []))))) C hG (pin (pin (pin (pin pnil)))) (List.Perm.symm (pin (pin (pin (pin pnil))))) (gR_V (As := []) (rest := []) C hz hl.1 hG (pin (pin (pin (pin pnil)))) (c_X7_sum l E ay aw ap atx ye hye N tn yy ww pp tt hcr1 H.size) okX7_sum q1055 0 rfl rfl rfl (Nat.le_of_ble_eq_true rfl) (by omega) ⟨Nat.le_refl _, Nat.le_refl _⟩ dX7_enterIf_1) (fun H locs _ hG => ?_)
  refine lv_istore_n (lv' := [(1, .int r1.1), (0, .ref (ay 0))]) hx hb dX7_enterIf_4 rfl hl (by decide) rfl (fun ls hl => ?_)
  refine lv_aload_n hx hb dX7_enterIf_5 rfl (lv_at hl 1 rfl) ?_
  refine gL_f (v := .ref (atx 0)) C hG kX7 0 0 rfl (by decide) (congrArg some (hye.1)) q460 rfl dX7_enterIf_6 ?_
  refine lv_aload_n hx hb dX7_enterIf_9 rfl (lv_at hl 1 rfl) ?_
  refine gL_f (v := .int (r1.2 0 3)) C hG kX7 0 3 rfl (by decide) rfl q463 rfl dX7_enterIf_10 ?_
  refine lv_iconst (v := 1) hx hb dX7_enterIf_13 (by decide) ?_
  refine lv_isub hx hb dX7_enterIf_14 ?_
  obtain ⟨r2, hcr2, h⟩ := bnd_some h
  refine gF_i (ws' := (rY E ay ye r1.2 ++ (rW E aw ww ++ (rP E ap pp ++ (rT E atx tn tt ++ []))))) C hG (pout (pout (pout (pin pnil)))) (List.Perm.symm (pout (pout (pout (pin pnil))))) (gR_N (As := [.int ((r1.2 0 3) - 1)]) (rest := []) C hz hl.1 hG (pout (pout (pout (pin pnil)))) (c_X9_kindAt l E atx N tn ((r1.2 0 3) - 1) tt hcr2 H.size) okX9_kindAt q1047 0 rfl rfl rfl (Nat.le_of_ble_eq_true rfl) (by omega) ⟨Nat.le_refl _, Nat.le_refl _⟩ dX7_enterIf_15) (fun H locs _ hG => ?_)
  refine lv_istore_n (lv' := [(2, .int r2), (1, .int r1.1), (0, .ref (ay 0))]) hx hb dX7_enterIf_18 rfl hl (by decide) rfl (fun ls hl => ?_)
  refine lv_aload_n hx hb dX7_enterIf_19 rfl (lv_at hl 2 rfl) ?_
  obtain ⟨r3, hcr3, h⟩ := bnd_some h
  refine gF_i (ws' := (rY E ay ye r3.2 ++ (rW E aw ww ++ (rP E ap pp ++ (rT E atx tn tt ++ []))))) C hG (pin (pin (pin (pin pnil)))) (List.Perm.symm (pin (pin (pin (pin pnil))))) (gR_V (As := []) (rest := []) C hz hl.1 hG (pin (pin (pin (pin pnil)))) (c_X7_sum l E ay aw ap atx ye hye N tn r1.2 ww pp tt hcr3 H.size) okX7_sum q1055 0 rfl rfl rfl (Nat.le_of_ble_eq_true rfl) (by omega) ⟨Nat.le_refl _, Nat.le_refl _⟩ dX7_enterIf_20) (fun H locs _ hG => ?_)
  refine lv_istore_n (lv' := [(3, .int r3.1), (2, .int r2), (1, .int r1.1), (0, .ref (ay 0))]) hx hb dX7_enterIf_23 rfl hl (by decide) rfl (fun ls hl => ?_)
  refine lv_iload_n hx hb dX7_enterIf_24 rfl (lv_at hl 1 rfl) ?_
  refine lv_bipush (v := 60) hx hb dX7_enterIf_25 (by decide) ?_
  refine lv_icmp_ne (tgt := 38) hx hb dX7_enterIf_27 (by decide) (fun c27 => ?_) (fun c27 => ?_)
  · replace h := ie c27 h
    refine lv_iload_n hx hb dX7_enterIf_38 rfl (lv_at hl 2 rfl) ?_
    refine lv_iload_n hx hb dX7_enterIf_39 rfl (lv_at hl 0 rfl) ?_
    refine lv_icmp_ne (tgt := 51) hx hb dX7_enterIf_40 (by decide) (fun c40 => ?_) (fun c40 => ?_)
    · replace h := ie c40 h
      exact K51 r3.2 _ _ _ hG (lv_sub hl [3] rfl) h
    · replace h := it c40 h
      exact K43 r3.2 _ _ _ hG (lv_sub hl [3] rfl) h
  · replace h := it c27 h
    refine lv_iload_n hx hb dX7_enterIf_30 rfl (lv_at hl 2 rfl) ?_
    refine lv_iload_n hx hb dX7_enterIf_31 rfl (lv_at hl 0 rfl) ?_
    refine lv_icmp_ge (tgt := 51) hx hb dX7_enterIf_32 (by decide) (fun c32 => ?_) (fun c32 => ?_)
    · replace h := it c32 h
      exact K51 r3.2 _ _ _ hG (lv_sub hl [3] rfl) h
    · replace h := ie c32 h
      refine lv_goto (tgt := 43) hx hb dX7_enterIf_35 (by decide) ?_
      exact K43 r3.2 _ _ _ hG (lv_sub hl [3] rfl) h
set_option maxHeartbeats 4000000 in
set_option maxRecDepth 100000 in
theorem c_X7_leave (l : Launch) (E : GE) (ay : Nat → Nat) (aw : Nat → Nat) (ap : Nat → Nat) (atx : Nat → Nat) (ye : Nat → Value) (hye : ye 0 = .ref (atx 0) ∧ ye 1 = .ref (aw 0) ∧ ye 2 = .ref (ap 0)) (N : Nat) (tn : Nat) (yy : RS) (ww : RS) (pp : RS) (tt : RS) {res : RS} (h : fX7_leave N tn yy ww pp tt = some res) : gMv l E yX7_leave cX7_leave 2 2 0 0 [.ref (ay 0)] (rY E ay ye yy ++ (rW E aw ww ++ (rP E ap pp ++ (rT E atx tn tt ++ [])))) (rY E ay ye res ++ (rW E aw ww ++ (rP E ap pp ++ (rT E atx tn tt ++ [])))) := by
  refine gMv_of (own := RX7) (by decide +kernel) rfl (Nat.le_of_ble_eq_true rfl) ?_
  intro p e s m args below meth c A ls Q H locs C hz hl hG hin hret
  have hx := C.1.1
  have hb := C.1.2.1
  have hts := C.1.2.2.2.2
  have hown := C.1.2.2.2.1
  have hl : lv_has ls 2 [(0, .ref (ay 0))] := hl
  replace hret : ∀ (yy0 : RS) (H : Heap) (locs : List Loc) (pc : Nat) (ls' : Array Slot), some yy0 = some res → gG E A s.heap (rY E ay ye yy0 ++ (rW E aw ww ++ (rP E ap pp ++ (rT E atx tn tt ++ [])))) H locs → decode cX7_leave pc = .ok (.return_, 1) → W p l e (rmD 2 0 0) s m args below meth c H locs 0 0 Q (F0 m pc ls' []) := by
    intro yy0 H locs pc ls' e0; cases e0; exact hret H locs pc ls'
  rw [fX7_leave] at h
  refine lv_aload_n hx hb dX7_leave_0 rfl (lv_at hl 0 rfl) ?_
  refine gL_f (v := .int (yy 0 5)) C hG kX7 0 5 rfl (by decide) rfl q465 rfl dX7_leave_1 ?_
  refine lv_if_ne (tgt := 8) hx hb dX7_leave_4 (by decide) (fun c4 => ?_) (fun c4 => ?_)
  · replace h := ie c4 h
    refine lv_aload_n hx hb dX7_leave_8 rfl (lv_at hl 0 rfl) ?_
    refine gL_f (v := .int (yy 0 5)) C hG kX7 0 5 rfl (by decide) rfl q465 rfl dX7_leave_9 ?_
    refine lv_iconst (v := 1) hx hb dX7_leave_12 (by decide) ?_
    refine lv_isub hx hb dX7_leave_13 ?_
    obtain ⟨x1_1, ex1_1, h⟩ := thn_some h
    refine g_int ex1_1 ?_
    refine lv_istore_n (lv' := [(1, .int x1_1), (0, .ref (ay 0))]) hx hb dX7_leave_14 rfl hl (by decide) rfl (fun ls hl => ?_)
    refine lv_aload_n hx hb dX7_leave_15 rfl (lv_at hl 1 rfl) ?_
    refine gL_f (v := .ref (ay 1)) C hG kX7 0 6 rfl (by decide) rfl q466 rfl dX7_leave_16 ?_
    refine lv_iload_n hx hb dX7_leave_19 rfl (lv_at hl 0 rfl) ?_
    refine lv_dup2_11 hx hb dX7_leave_20 rfl rfl ?_
    obtain ⟨b2, h⟩ := ck_some h
    refine gL_i (v := (yy 1 x1_1.toNatClampNeg)) C hG 1 rfl (inb_in b2) rfl dX7_leave_21 ?_
    refine lv_iconst (v := 1) hx hb dX7_leave_22 (by decide) ?_
    refine lv_iadd hx hb dX7_leave_23 ?_
    obtain ⟨yy_3, eyy_3, h⟩ := thn_some h
    refine gS_i (x := ((yy 1 x1_1.toNatClampNeg) + 1)) (ws' := (rY E ay ye yy_3 ++ (rW E aw ww ++ (rP E ap pp ++ (rT E atx tn tt ++ []))))) C hG 1 rfl (inb_in b2) rfl dX7_leave_24 (by rw [eyy_3]; rfl) (fun H locs hG => ?_)
    refine lv_aload_n hx hb dX7_leave_25 rfl (lv_at hl 1 rfl) ?_
    refine gL_f (v := .ref (ay 1)) C hG kX7 0 6 rfl (by decide) rfl q466 rfl dX7_leave_26 ?_
    refine lv_iload_n hx hb dX7_leave_29 rfl (lv_at hl 0 rfl) ?_
    refine gL_i (v := (yy_3 1 x1_1.toNatClampNeg)) C hG 1 rfl (inb_in b2) rfl dX7_leave_30 ?_
    refine lv_aload_n hx hb dX7_leave_31 rfl (lv_at hl 1 rfl) ?_
    refine gL_f (v := .ref (ay 2)) C hG kX7 0 7 rfl (by decide) rfl q467 rfl dX7_leave_32 ?_
    refine lv_iload_n hx hb dX7_leave_35 rfl (lv_at hl 0 rfl) ?_
    refine gL_i (v := (yy_3 2 x1_1.toNatClampNeg)) C hG 2 rfl (inb_in b2) rfl dX7_leave_36 ?_
    refine lv_icmp_ge (tgt := 62) hx hb dX7_leave_37 (by decide) (fun c37 => ?_) (fun c37 => ?_)
    · replace h := it c37 h
      refine lv_aload_n hx hb dX7_leave_62 rfl (lv_at hl 1 rfl) ?_
      refine lv_iload_n hx hb dX7_leave_63 rfl (lv_at hl 0 rfl) ?_
      obtain ⟨yy_4, eyy_4, h⟩ := thn_some h
      refine gS_f (v := .int x1_1) (ws' := (rY E ay ye yy_4 ++ (rW E aw ww ++ (rP E ap pp ++ (rT E atx tn tt ++ []))))) C hG kX7 0 5 rfl (by decide) q465 rfl rfl rfl rfl (by show 5 < 8; decide) dX7_leave_64 (by rw [eyy_4]; rfl) (fun H locs hG => ?_)
      exact hret _ _ _ _ _ h hG dX7_leave_67
    · replace h := ie c37 h
      refine lv_aload_n hx hb dX7_leave_40 rfl (lv_at hl 1 rfl) ?_
      refine lv_aload_n hx hb dX7_leave_41 rfl (lv_at hl 1 rfl) ?_
      refine gL_f (v := .ref (atx 0)) C hG kX7 0 0 rfl (by decide) (congrArg some (hye.1)) q460 rfl dX7_leave_42 ?_
      refine lv_aload_n hx hb dX7_leave_45 rfl (lv_at hl 1 rfl) ?_
      refine gL_f (v := .int (yy_3 0 3)) C hG kX7 0 3 rfl (by decide) rfl q463 rfl dX7_leave_46 ?_
      refine lv_iconst (v := 1) hx hb dX7_leave_49 (by decide) ?_
      refine lv_isub hx hb dX7_leave_50 ?_
      obtain ⟨r5, hcr5, h⟩ := bnd_some h
      refine gF_i (ws' := (rY E ay ye yy_3 ++ (rW E aw ww ++ (rP E ap pp ++ (rT E atx tn tt ++ []))))) C hG (pout (pout (pout (pin pnil)))) (List.Perm.symm (pout (pout (pout (pin pnil))))) (gR_N (As := [.int ((yy_3 0 3) - 1)]) (rest := [.ref (ay 0)]) C hz hl.1 hG (pout (pout (pout (pin pnil)))) (c_X9_valueAt l E atx N tn ((yy_3 0 3) - 1) tt hcr5 H.size) okX9_valueAt q1067 0 rfl rfl rfl (Nat.le_of_ble_eq_true rfl) (by omega) ⟨Nat.le_refl _, Nat.le_refl _⟩ dX7_leave_51) (fun H locs _ hG => ?_)
      refine lv_iconst (v := 1) hx hb dX7_leave_54 (by decide) ?_
      refine lv_iadd hx hb dX7_leave_55 ?_
      obtain ⟨yy_6, eyy_6, h⟩ := thn_some h
      refine gS_f (v := .int (r5 + 1)) (ws' := (rY E ay ye yy_6 ++ (rW E aw ww ++ (rP E ap pp ++ (rT E atx tn tt ++ []))))) C hG kX7 0 3 rfl (by decide) q463 rfl rfl rfl rfl (by show 3 < 8; decide) dX7_leave_56 (by rw [eyy_6]; rfl) (fun H locs hG => ?_)
      refine lv_goto (tgt := 67) hx hb dX7_leave_59 (by decide) ?_
      exact hret _ _ _ _ _ h hG dX7_leave_67
  · replace h := it c4 h
    exact hret _ _ _ _ _ h hG dX7_leave_7
set_option maxHeartbeats 4000000 in
set_option maxRecDepth 100000 in
theorem c_X7_statement (l : Launch) (E : GE) (ay : Nat → Nat) (aw : Nat → Nat) (ap : Nat → Nat) (atx : Nat → Nat) (ye : Nat → Value) (hye : ye 0 = .ref (atx 0) ∧ ye 1 = .ref (aw 0) ∧ ye 2 = .ref (ap 0)) (N : Nat) (tn : Nat) (yy : RS) (ww : RS) (pp : RS) (tt : RS) {res : RS × RS × RS} (h : fX7_statement N tn yy ww pp tt = some res) : gMv l E yX7_statement cX7_statement 2 17 0 0 [.ref (ay 0)] (rY E ay ye yy ++ (rW E aw ww ++ (rP E ap pp ++ (rT E atx tn tt ++ [])))) (rY E ay ye res.1 ++ (rW E aw res.2.1 ++ (rP E ap res.2.2 ++ (rT E atx tn tt ++ [])))) := by
  refine gMv_of (own := RX7) (by decide +kernel) rfl (Nat.le_of_ble_eq_true rfl) ?_
  intro p e s m args below meth c A ls Q H locs C hz hl hG hin hret
  have hx := C.1.1
  have hb := C.1.2.1
  have hts := C.1.2.2.2.2
  have hown := C.1.2.2.2.1
  have hl : lv_has ls 2 [(0, .ref (ay 0))] := hl
  replace hret : ∀ (yy0 : RS) (ww0 : RS) (pp0 : RS) (H : Heap) (locs : List Loc) (pc : Nat) (ls' : Array Slot), some (yy0, ww0, pp0) = some res → gG E A s.heap (rY E ay ye yy0 ++ (rW E aw ww0 ++ (rP E ap pp0 ++ (rT E atx tn tt ++ [])))) H locs → decode cX7_statement pc = .ok (.return_, 1) → W p l e (rmD 17 0 0) s m args below meth c H locs 0 0 Q (F0 m pc ls' []) := by
    intro yy0 ww0 pp0 H locs pc ls' e0; cases e0; exact hret H locs pc ls'
  rw [fX7_statement] at h
  refine lv_aload_n hx hb dX7_statement_0 rfl (lv_at hl 0 rfl) ?_
  refine gL_f (v := .ref (atx 0)) C hG kX7 0 0 rfl (by decide) (congrArg some (hye.1)) q460 rfl dX7_statement_1 ?_
  refine lv_aload_n hx hb dX7_statement_4 rfl (lv_at hl 0 rfl) ?_
  refine gL_f (v := .int (yy 0 3)) C hG kX7 0 3 rfl (by decide) rfl q463 rfl dX7_statement_5 ?_
  obtain ⟨r1, hcr1, h⟩ := bnd_some h
  refine gF_i (ws' := (rY E ay ye yy ++ (rW E aw ww ++ (rP E ap pp ++ (rT E atx tn tt ++ []))))) C hG (pout (pout (pout (pin pnil)))) (List.Perm.symm (pout (pout (pout (pin pnil))))) (gR_N (As := [.int (yy 0 3)]) (rest := []) C hz hl.1 hG (pout (pout (pout (pin pnil)))) (c_X9_kindAt l E atx N tn (yy 0 3) tt hcr1 H.size) okX9_kindAt q1047 0 rfl rfl rfl (Nat.le_of_ble_eq_true rfl) (by omega) ⟨Nat.le_refl _, Nat.le_refl _⟩ dX7_statement_8) (fun H locs _ hG => ?_)
  refine lv_istore_n (lv' := [(1, .int r1), (0, .ref (ay 0))]) hx hb dX7_statement_11 rfl hl (by decide) rfl (fun ls hl => ?_)
  refine lv_aload_n hx hb dX7_statement_12 rfl (lv_at hl 1 rfl) ?_
  refine lv_dup hx hb dX7_statement_13 rfl ?_
  refine gL_f (v := .int (yy 0 3)) C hG kX7 0 3 rfl (by decide) rfl q463 rfl dX7_statement_14 ?_
  refine lv_iconst (v := 1) hx hb dX7_statement_17 (by decide) ?_
  refine lv_iadd hx hb dX7_statement_18 ?_
  obtain ⟨yy_2, eyy_2, h⟩ := thn_some h
  refine gS_f (v := .int ((yy 0 3) + 1)) (ws' := (rY E ay ye yy_2 ++ (rW E aw ww ++ (rP E ap pp ++ (rT E atx tn tt ++ []))))) C hG kX7 0 3 rfl (by decide) q463 rfl rfl rfl rfl (by show 3 < 8; decide) dX7_statement_19 (by rw [eyy_2]; rfl) (fun H locs hG => ?_)
  refine lv_iload_n hx hb dX7_statement_22 rfl (lv_at hl 0 rfl) ?_
  by_cases w23_0 : r1 = 4
  · replace h := it w23_0 h
    refine lv_tableIn (tgt := 64) hx hb dX7_statement_23 (by rw [w23_0]; decide) (by rw [w23_0]; decide) (off := 41) (by rw [w23_0]; decide) (by decide) ?_
    refine lv_aload_n hx hb dX7_statement_64 rfl (lv_at hl 1 rfl) ?_
    obtain ⟨r3, hcr3, h⟩ := bnd_some h
    refine gF_v (ws' := (rY E ay ye r3.1 ++ (rW E aw r3.2 ++ (rP E ap pp ++ (rT E atx tn tt ++ []))))) C hG (pin (pin (pin (pin pnil)))) (List.Perm.symm (pin (pin (pin (pin pnil))))) (gR_V (As := []) (rest := []) C hz hl.1 hG (pin (pin (pin (pin pnil)))) (c_X7_readOne l E ay aw ap atx ye hye N tn yy_2 ww pp tt hcr3 H.size) okX7_readOne q1051 0 rfl rfl rfl (Nat.le_of_ble_eq_true rfl) (by omega) ⟨Nat.le_refl _, Nat.le_refl _⟩ dX7_statement_65) (fun H locs hG => ?_)
    refine lv_goto (tgt := 189) hx hb dX7_statement_68 (by decide) ?_
    exact hret _ _ _ _ _ _ _ h hG dX7_statement_189
  · replace h := ie w23_0 h
    by_cases w23_1 : r1 = 5
    · replace h := it w23_1 h
      refine lv_tableIn (tgt := 71) hx hb dX7_statement_23 (by rw [w23_1]; decide) (by rw [w23_1]; decide) (off := 48) (by rw [w23_1]; decide) (by decide) ?_
      refine lv_aload_n hx hb dX7_statement_71 rfl (lv_at hl 1 rfl) ?_
      obtain ⟨r4, hcr4, h⟩ := bnd_some h
      refine gF_v (ws' := (rY E ay ye r4.1 ++ (rW E aw r4.2 ++ (rP E ap pp ++ (rT E atx tn tt ++ []))))) C hG (pin (pin (pin (pin pnil)))) (List.Perm.symm (pin (pin (pin (pin pnil))))) (gR_V (As := []) (rest := []) C hz hl.1 hG (pin (pin (pin (pin pnil)))) (c_X7_writeOne l E ay aw ap atx ye hye N tn yy_2 ww pp tt hcr4 H.size) okX7_writeOne q1073 0 rfl rfl rfl (Nat.le_of_ble_eq_true rfl) (by omega) ⟨Nat.le_refl _, Nat.le_refl _⟩ dX7_statement_72) (fun H locs hG => ?_)
      refine lv_goto (tgt := 189) hx hb dX7_statement_75 (by decide) ?_
      exact hret _ _ _ _ _ _ _ h hG dX7_statement_189
    · replace h := ie w23_1 h
      by_cases w23_2 : r1 = 6
      · replace h := it w23_2 h
        refine lv_tableIn (tgt := 78) hx hb dX7_statement_23 (by rw [w23_2]; decide) (by rw [w23_2]; decide) (off := 55) (by rw [w23_2]; decide) (by decide) ?_
        refine lv_aload_n hx hb dX7_statement_78 rfl (lv_at hl 1 rfl) ?_
        obtain ⟨r5, hcr5, h⟩ := bnd_some h
        refine gF_v (ws' := (rY E ay ye r5.1 ++ (rW E aw r5.2 ++ (rP E ap pp ++ (rT E atx tn tt ++ []))))) C hG (pin (pin (pin (pin pnil)))) (List.Perm.symm (pin (pin (pin (pin pnil))))) (gR_V (As := []) (rest := []) C hz hl.1 hG (pin (pin (pin (pin pnil)))) (c_X7_scanSome l E ay aw ap atx ye hye N tn yy_2 ww pp tt hcr5 H.size) okX7_scanSome q1078 0 rfl rfl rfl (Nat.le_of_ble_eq_true rfl) (by omega) ⟨Nat.le_refl _, Nat.le_refl _⟩ dX7_statement_79) (fun H locs hG => ?_)
        refine lv_goto (tgt := 189) hx hb dX7_statement_82 (by decide) ?_
        exact hret _ _ _ _ _ _ _ h hG dX7_statement_189
      · replace h := ie w23_2 h
        by_cases w23_3 : r1 = 7
        · replace h := it w23_3 h
          refine lv_tableIn (tgt := 85) hx hb dX7_statement_23 (by rw [w23_3]; decide) (by rw [w23_3]; decide) (off := 62) (by rw [w23_3]; decide) (by decide) ?_
          refine lv_aload_n hx hb dX7_statement_85 rfl (lv_at hl 1 rfl) ?_
          refine gL_f (v := .ref (aw 0)) C hG kX7 0 1 rfl (by decide) (congrArg some (hye.2.1)) q461 rfl dX7_statement_86 ?_
          refine lv_aload_n hx hb dX7_statement_89 rfl (lv_at hl 1 rfl) ?_
          refine gL_f (v := .ref (ap 0)) C hG kX7 0 2 rfl (by decide) (congrArg some (hye.2.2)) q462 rfl dX7_statement_90 ?_
          obtain ⟨r6, hcr6, h⟩ := bnd_some h
          refine gF_v (ws' := (rY E ay ye yy_2 ++ (rW E aw r6.1 ++ (rP E ap r6.2 ++ (rT E atx tn tt ++ []))))) C hG (pout (pin (pin (pout pnil)))) (List.Perm.symm (pout (pin (pin (pout pnil))))) (gR_N (As := [.ref (ap 0)]) (rest := []) C hz hl.1 hG (pout (pin (pin (pout pnil)))) (c_X10_tick l E aw ap N ww pp hcr6 H.size) okX10_tick q1083 0 rfl rfl rfl (Nat.le_of_ble_eq_true rfl) (by omega) ⟨Nat.le_refl _, Nat.le_refl _⟩ dX7_statement_93) (fun H locs hG => ?_)
          refine lv_aload_n hx hb dX7_statement_96 rfl (lv_at hl 1 rfl) ?_
          refine lv_dup hx hb dX7_statement_97 rfl ?_
          refine gL_f (v := .int (yy_2 0 4)) C hG kX7 0 4 rfl (by decide) rfl q464 rfl dX7_statement_98 ?_
          refine lv_iconst (v := 1) hx hb dX7_statement_101 (by decide) ?_
          refine lv_iadd hx hb dX7_statement_102 ?_
          obtain ⟨yy_7, eyy_7, h⟩ := thn_some h
          refine gS_f (v := .int ((yy_2 0 4) + 1)) (ws' := (rY E ay ye yy_7 ++ (rW E aw r6.1 ++ (rP E ap r6.2 ++ (rT E atx tn tt ++ []))))) C hG kX7 0 4 rfl (by decide) q464 rfl rfl rfl rfl (by show 4 < 8; decide) dX7_statement_103 (by rw [eyy_7]; rfl) (fun H locs hG => ?_)
          refine lv_aload_n hx hb dX7_statement_106 rfl (lv_at hl 1 rfl) ?_
          refine lv_dup hx hb dX7_statement_107 rfl ?_
          refine gL_f (v := .int (yy_7 0 3)) C hG kX7 0 3 rfl (by decide) rfl q463 rfl dX7_statement_108 ?_
          refine lv_iconst (v := 1) hx hb dX7_statement_111 (by decide) ?_
          refine lv_iadd hx hb dX7_statement_112 ?_
          obtain ⟨yy_8, eyy_8, h⟩ := thn_some h
          refine gS_f (v := .int ((yy_7 0 3) + 1)) (ws' := (rY E ay ye yy_8 ++ (rW E aw r6.1 ++ (rP E ap r6.2 ++ (rT E atx tn tt ++ []))))) C hG kX7 0 3 rfl (by decide) q463 rfl rfl rfl rfl (by show 3 < 8; decide) dX7_statement_113 (by rw [eyy_8]; rfl) (fun H locs hG => ?_)
          refine lv_goto (tgt := 189) hx hb dX7_statement_116 (by decide) ?_
          exact hret _ _ _ _ _ _ _ h hG dX7_statement_189
        · replace h := ie w23_3 h
          by_cases w23_4 : r1 = 8
          · replace h := it w23_4 h
            refine lv_tableIn (tgt := 119) hx hb dX7_statement_23 (by rw [w23_4]; decide) (by rw [w23_4]; decide) (off := 96) (by rw [w23_4]; decide) (by decide) ?_
            refine lv_aload_n hx hb dX7_statement_119 rfl (lv_at hl 1 rfl) ?_
            refine gL_f (v := .ref (aw 0)) C hG kX7 0 1 rfl (by decide) (congrArg some (hye.2.1)) q461 rfl dX7_statement_120 ?_
            obtain ⟨r9, hcr9, h⟩ := bnd_some h
            refine gF_i (ws' := (rY E ay ye yy_2 ++ (rW E aw r9.2 ++ (rP E ap pp ++ (rT E atx tn tt ++ []))))) C hG (pout (pin (pout (pout pnil)))) (List.Perm.symm (pout (pin (pout (pout pnil))))) (gR_N (As := []) (rest := []) C hz hl.1 hG (pout (pin (pout (pout pnil)))) (c_X10_loseMemory l E aw N ww hcr9 H.size) okX10_loseMemory q1084 0 rfl rfl rfl (Nat.le_of_ble_eq_true rfl) (by omega) ⟨Nat.le_refl _, Nat.le_refl _⟩ dX7_statement_123) (fun H locs _ hG => ?_)
            refine lv_pop hx hb dX7_statement_126 rfl ?_
            refine lv_aload_n hx hb dX7_statement_127 rfl (lv_at hl 1 rfl) ?_
            refine lv_dup hx hb dX7_statement_128 rfl ?_
            refine gL_f (v := .int (yy_2 0 4)) C hG kX7 0 4 rfl (by decide) rfl q464 rfl dX7_statement_129 ?_
            refine lv_iconst (v := 1) hx hb dX7_statement_132 (by decide) ?_
            refine lv_iadd hx hb dX7_statement_133 ?_
            obtain ⟨yy_10, eyy_10, h⟩ := thn_some h
            refine gS_f (v := .int ((yy_2 0 4) + 1)) (ws' := (rY E ay ye yy_10 ++ (rW E aw r9.2 ++ (rP E ap pp ++ (rT E atx tn tt ++ []))))) C hG kX7 0 4 rfl (by decide) q464 rfl rfl rfl rfl (by show 4 < 8; decide) dX7_statement_134 (by rw [eyy_10]; rfl) (fun H locs hG => ?_)
            refine lv_aload_n hx hb dX7_statement_137 rfl (lv_at hl 1 rfl) ?_
            refine lv_dup hx hb dX7_statement_138 rfl ?_
            refine gL_f (v := .int (yy_10 0 3)) C hG kX7 0 3 rfl (by decide) rfl q463 rfl dX7_statement_139 ?_
            refine lv_iconst (v := 1) hx hb dX7_statement_142 (by decide) ?_
            refine lv_iadd hx hb dX7_statement_143 ?_
            obtain ⟨yy_11, eyy_11, h⟩ := thn_some h
            refine gS_f (v := .int ((yy_10 0 3) + 1)) (ws' := (rY E ay ye yy_11 ++ (rW E aw r9.2 ++ (rP E ap pp ++ (rT E atx tn tt ++ []))))) C hG kX7 0 3 rfl (by decide) q463 rfl rfl rfl rfl (by show 3 < 8; decide) dX7_statement_144 (by rw [eyy_11]; rfl) (fun H locs hG => ?_)
            refine lv_goto (tgt := 189) hx hb dX7_statement_147 (by decide) ?_
            exact hret _ _ _ _ _ _ _ h hG dX7_statement_189
          · replace h := ie w23_4 h
            by_cases w23_5 : r1 = 9
            · replace h := it w23_5 h
              refine lv_tableIn (tgt := 150) hx hb dX7_statement_23 (by rw [w23_5]; decide) (by rw [w23_5]; decide) (off := 127) (by rw [w23_5]; decide) (by decide) ?_
              refine lv_aload_n hx hb dX7_statement_150 rfl (lv_at hl 1 rfl) ?_
              refine lv_aload_n hx hb dX7_statement_151 rfl (lv_at hl 1 rfl) ?_
              refine gL_f (v := .ref (atx 0)) C hG kX7 0 0 rfl (by decide) (congrArg some (hye.1)) q460 rfl dX7_statement_152 ?_
              refine lv_aload_n hx hb dX7_statement_155 rfl (lv_at hl 1 rfl) ?_
              refine gL_f (v := .int (yy_2 0 3)) C hG kX7 0 3 rfl (by decide) rfl q463 rfl dX7_statement_156 ?_
              obtain ⟨r12, hcr12, h⟩ := bnd_some h
              refine gF_i (ws' := (rY E ay ye yy_2 ++ (rW E aw ww ++ (rP E ap pp ++ (rT E atx tn tt ++ []))))) C hG (pout (pout (pout (pin pnil)))) (List.Perm.symm (pout (pout (pout (pin pnil))))) (gR_N (As := [.int (yy_2 0 3)]) (rest := [.ref (ay 0)]) C hz hl.1 hG (pout (pout (pout (pin pnil)))) (c_X9_valueAt l E atx N tn (yy_2 0 3) tt hcr12 H.size) okX9_valueAt q1067 0 rfl rfl rfl (Nat.le_of_ble_eq_true rfl) (by omega) ⟨Nat.le_refl _, Nat.le_refl _⟩ dX7_statement_159) (fun H locs _ hG => ?_)
              obtain ⟨r13, hcr13, h⟩ := bnd_some h
              refine gF_v (ws' := (rY E ay ye r13 ++ (rW E aw ww ++ (rP E ap pp ++ (rT E atx tn tt ++ []))))) C hG (pin (pin (pin (pin pnil)))) (List.Perm.symm (pin (pin (pin (pin pnil))))) (gR_V (As := [.int r12]) (rest := []) C hz hl.1 hG (pin (pin (pin (pin pnil)))) (c_X7_enter l E ay aw ap atx ye hye N tn r12 yy_2 ww pp tt hcr13 H.size) okX7_enter q1085 0 rfl rfl rfl (Nat.le_of_ble_eq_true rfl) (by omega) ⟨Nat.le_refl _, Nat.le_refl _⟩ dX7_statement_162) (fun H locs hG => ?_)
              refine lv_aload_n hx hb dX7_statement_165 rfl (lv_at hl 1 rfl) ?_
              refine lv_dup hx hb dX7_statement_166 rfl ?_
              refine gL_f (v := .int (r13 0 3)) C hG kX7 0 3 rfl (by decide) rfl q463 rfl dX7_statement_167 ?_
              refine lv_iconst (v := 2) hx hb dX7_statement_170 (by decide) ?_
              refine lv_iadd hx hb dX7_statement_171 ?_
              obtain ⟨yy_14, eyy_14, h⟩ := thn_some h
              refine gS_f (v := .int ((r13 0 3) + 2)) (ws' := (rY E ay ye yy_14 ++ (rW E aw ww ++ (rP E ap pp ++ (rT E atx tn tt ++ []))))) C hG kX7 0 3 rfl (by decide) q463 rfl rfl rfl rfl (by show 3 < 8; decide) dX7_statement_172 (by rw [eyy_14]; rfl) (fun H locs hG => ?_)
              refine lv_goto (tgt := 189) hx hb dX7_statement_175 (by decide) ?_
              exact hret _ _ _ _ _ _ _ h hG dX7_statement_189
            · replace h := ie w23_5 h
              by_cases w23_6 : r1 = 10
              · replace h := it w23_6 h
                refine lv_tableIn (tgt := 178) hx hb dX7_statement_23 (by rw [w23_6]; decide) (by rw [w23_6]; decide) (off := 155) (by rw [w23_6]; decide) (by decide) ?_
                refine lv_aload_n hx hb dX7_statement_178 rfl (lv_at hl 1 rfl) ?_
                obtain ⟨r15, hcr15, h⟩ := bnd_some h
                refine gF_v (ws' := (rY E ay ye r15 ++ (rW E aw ww ++ (rP E ap pp ++ (rT E atx tn tt ++ []))))) C hG (pin (pin (pin (pin pnil)))) (List.Perm.symm (pin (pin (pin (pin pnil))))) (gR_V (As := []) (rest := []) C hz hl.1 hG (pin (pin (pin (pin pnil)))) (c_X7_enterIf l E ay aw ap atx ye hye N tn yy_2 ww pp tt hcr15 H.size) okX7_enterIf q1089 0 rfl rfl rfl (Nat.le_of_ble_eq_true rfl) (by omega) ⟨Nat.le_refl _, Nat.le_refl _⟩ dX7_statement_179) (fun H locs hG => ?_)
                refine lv_goto (tgt := 189) hx hb dX7_statement_182 (by decide) ?_
                exact hret _ _ _ _ _ _ _ h hG dX7_statement_189
              · replace h := ie w23_6 h
                refine lv_tableOut (tgt := 185) hx hb dX7_statement_23 (g_swo r1 4 10 [4, 5, 6, 7, 8, 9, 10] (by decide +kernel) (List.forall_mem_cons.mpr ⟨w23_0, List.forall_mem_cons.mpr ⟨w23_1, List.forall_mem_cons.mpr ⟨w23_2, List.forall_mem_cons.mpr ⟨w23_3, List.forall_mem_cons.mpr ⟨w23_4, List.forall_mem_cons.mpr ⟨w23_5, List.forall_mem_cons.mpr ⟨w23_6, fun _ q9 => absurd q9 List.not_mem_nil⟩⟩⟩⟩⟩⟩⟩)) (by decide) ?_
                refine lv_aload_n hx hb dX7_statement_185 rfl (lv_at hl 1 rfl) ?_
                obtain ⟨r16, hcr16, h⟩ := bnd_some h
                refine gF_v (ws' := (rY E ay ye r16 ++ (rW E aw ww ++ (rP E ap pp ++ (rT E atx tn tt ++ []))))) C hG (pin (pin (pin (pin pnil)))) (List.Perm.symm (pin (pin (pin (pin pnil))))) (gR_V (As := []) (rest := []) C hz hl.1 hG (pin (pin (pin (pin pnil)))) (c_X7_leave l E ay aw ap atx ye hye N tn yy_2 ww pp tt hcr16 H.size) okX7_leave q1093 0 rfl rfl rfl (Nat.le_of_ble_eq_true rfl) (by omega) ⟨Nat.le_refl _, Nat.le_refl _⟩ dX7_statement_186) (fun H locs hG => ?_)
                exact hret _ _ _ _ _ _ _ h hG dX7_statement_189
