set_option maxHeartbeats 4000000 in
set_option maxRecDepth 100000 in
theorem c_X10_copyFrom (l : Launch) (E : GE) (aw : Nat → Nat) (av : Nat → Nat) (ww : RS) (vv : RS) {res : RS} (h : fX10_copyFrom ww vv = res) : gMv l E yX10_copyFrom cX10_copyFrom 2 2 0 0 [.ref (aw 0), .ref (av 0)] (rW E aw ww ++ (rW E av vv ++ [])) (rW E aw res ++ (rW E av vv ++ [])) := by
  refine gMv_of (own := RX10) (by decide +kernel) rfl (Nat.le_of_ble_eq_true rfl) ?_
  intro p e s m args below meth c A ls Q H locs C hz hl hG hin hret
  have hx := C.1.1
  have hb := C.1.2.1
  have hts := C.1.2.2.2.2
  have hown := C.1.2.2.2.1
  have hl : lv_has ls 2 [(0, .ref (aw 0)), (1, .ref (av 0))] := hl
  replace hret : ∀ (ww0 : RS) (H : Heap) (locs : List Loc) (pc : Nat) (ls' : Array Slot), ww0 = res → gG E A s.heap (rW E aw ww0 ++ (rW E av vv ++ [])) H locs → decode cX10_copyFrom pc = .ok (.return_, 1) → W p l e (rmD 2 0 0) s m args below meth c H locs 0 0 Q (F0 m pc ls' []) := by
    intro ww0 H locs pc ls' e0; cases e0; exact hret H locs pc ls'
  rw [fX10_copyFrom] at h
  refine lv_aload_n hx hb dX10_copyFrom_0 rfl (lv_at hl 1 rfl) ?_
  refine gL_f (v := .ref (av 1)) C hG kX10 30 0 rfl (by decide) rfl q352 rfl dX10_copyFrom_1 ?_
  refine lv_iconst (v := 0) hx hb dX10_copyFrom_4 (by decide) ?_
  refine lv_aload_n hx hb dX10_copyFrom_5 rfl (lv_at hl 0 rfl) ?_
  refine gL_f (v := .ref (aw 1)) C hG kX10 0 0 rfl (by decide) rfl q352 rfl dX10_copyFrom_6 ?_
  refine lv_iconst (v := 0) hx hb dX10_copyFrom_9 (by decide) ?_
  refine lv_bipush (v := 13) hx hb dX10_copyFrom_10 (by decide) ?_
  obtain ⟨ww_1, eww_1, h⟩ := thn_some h
  have hset : ∀ f9 : Nat → Int32, List.set (rW E aw ww ++ (rW E av vv ++ [])) 1 (aw 1, .inl (E.2.1 0, 13, .inl f9)) = (rW E aw (sr ww 1 f9) ++ (rW E av vv ++ [])) := fun _ => rfl
  refine gS_cpy (n0 := 13) (n1 := 13) (js := 0) (jd := 0) (jn := 13) (ws' := (rW E aw ww_1 ++ (rW E av vv ++ []))) C hl.1 hG 31 1 rfl rfl (by decide) (nI_clamp (n := 0) (by decide)) (nI_clamp (n := 0) (by decide)) (nI_clamp (n := 13) (by decide)) q777 q740 q739 q186 (Nat.le_of_ble_eq_true rfl) (Nat.le_of_ble_eq_true rfl) dX10_copyFrom_12 (by rw [eww_1]; exact hset _) (fun H locs hG => ?_)
  refine lv_aload_n hx hb dX10_copyFrom_15 rfl (lv_at hl 0 rfl) ?_
  refine gL_f (v := .ref (aw 2)) C hG kX10 0 1 rfl (by decide) rfl q355 rfl dX10_copyFrom_16 ?_
  refine lv_aload_n hx hb dX10_copyFrom_19 rfl (lv_at hl 1 rfl) ?_
  refine gL_f (v := .ref (av 2)) C hG kX10 30 1 rfl (by decide) rfl q355 rfl dX10_copyFrom_20 ?_
  obtain ⟨r2, hcr2, h⟩ := thn_some h
  refine gF_v (ws' := (rW E aw r2 ++ (rW E av vv ++ []))) C hG (pin (pin pnil)) (List.Perm.symm (pin (pin pnil))) (gR_N (As := [.ref (av 2)]) (rest := []) C hz hl.1 hG (pin (pin pnil)) (c_X2_copyFrom l E aw av ww_1 vv hcr2.symm H.size) okX2_copyFrom q778 2 rfl rfl rfl (Nat.le_of_ble_eq_true rfl) (by omega) ⟨Nat.le_refl _, Nat.le_refl _⟩ dX10_copyFrom_23) (fun H locs hG => ?_)
  refine lv_aload_n hx hb dX10_copyFrom_26 rfl (lv_at hl 0 rfl) ?_
  refine gL_f (v := .ref (aw 15)) C hG kX10 0 2 rfl (by decide) rfl q358 rfl dX10_copyFrom_27 ?_
  refine lv_aload_n hx hb dX10_copyFrom_30 rfl (lv_at hl 1 rfl) ?_
  refine gL_f (v := .ref (av 15)) C hG kX10 30 2 rfl (by decide) rfl q358 rfl dX10_copyFrom_31 ?_
  obtain ⟨r3, hcr3, h⟩ := thn_some h
  refine gF_v (ws' := (rW E aw r3 ++ (rW E av vv ++ []))) C hG (pin (pin pnil)) (List.Perm.symm (pin (pin pnil))) (gR_N (As := [.ref (av 15)]) (rest := []) C hz hl.1 hG (pin (pin pnil)) (c_X1_copyFrom l E aw av r2 vv hcr3.symm H.size) okX1_copyFrom q783 15 rfl rfl rfl (Nat.le_of_ble_eq_true rfl) (by omega) ⟨Nat.le_refl _, Nat.le_refl _⟩ dX10_copyFrom_34) (fun H locs hG => ?_)
  refine lv_aload_n hx hb dX10_copyFrom_37 rfl (lv_at hl 0 rfl) ?_
  refine gL_f (v := .ref (aw 20)) C hG kX10 0 3 rfl (by decide) rfl q360 rfl dX10_copyFrom_38 ?_
  refine lv_aload_n hx hb dX10_copyFrom_41 rfl (lv_at hl 1 rfl) ?_
  refine gL_f (v := .ref (av 20)) C hG kX10 30 3 rfl (by decide) rfl q360 rfl dX10_copyFrom_42 ?_
  obtain ⟨r4, hcr4, h⟩ := thn_some h
  refine gF_v (ws' := (rW E aw r4 ++ (rW E av vv ++ []))) C hG (pin (pin pnil)) (List.Perm.symm (pin (pin pnil))) (gR_N (As := [.ref (av 20)]) (rest := []) C hz hl.1 hG (pin (pin pnil)) (c_X3_copyFrom l E aw av r3 vv hcr4.symm H.size) okX3_copyFrom q788 20 rfl rfl rfl (Nat.le_of_ble_eq_true rfl) (by omega) ⟨Nat.le_refl _, Nat.le_refl _⟩ dX10_copyFrom_45) (fun H locs hG => ?_)
  refine lv_aload_n hx hb dX10_copyFrom_48 rfl (lv_at hl 0 rfl) ?_
  refine gL_f (v := .ref (aw 23)) C hG kX10 0 4 rfl (by decide) rfl q362 rfl dX10_copyFrom_49 ?_
  refine lv_aload_n hx hb dX10_copyFrom_52 rfl (lv_at hl 1 rfl) ?_
  refine gL_f (v := .ref (av 23)) C hG kX10 30 4 rfl (by decide) rfl q362 rfl dX10_copyFrom_53 ?_
  obtain ⟨r5, hcr5, h⟩ := thn_some h
  refine gF_v (ws' := (rW E aw r5 ++ (rW E av vv ++ []))) C hG (pin (pin pnil)) (List.Perm.symm (pin (pin pnil))) (gR_N (As := [.ref (av 23)]) (rest := []) C hz hl.1 hG (pin (pin pnil)) (c_X5_copyFrom l E aw av r4 vv hcr5.symm H.size) okX5_copyFrom q793 23 rfl rfl rfl (Nat.le_of_ble_eq_true rfl) (by omega) ⟨Nat.le_refl _, Nat.le_refl _⟩ dX10_copyFrom_56) (fun H locs hG => ?_)
  refine lv_aload_n hx hb dX10_copyFrom_59 rfl (lv_at hl 0 rfl) ?_
  refine gL_f (v := .ref (aw 28)) C hG kX10 0 5 rfl (by decide) rfl q365 rfl dX10_copyFrom_60 ?_
  refine lv_aload_n hx hb dX10_copyFrom_63 rfl (lv_at hl 1 rfl) ?_
  refine gL_f (v := .ref (av 28)) C hG kX10 30 5 rfl (by decide) rfl q365 rfl dX10_copyFrom_64 ?_
  obtain ⟨r6, hcr6, h⟩ := thn_some h
  refine gF_v (ws' := (rW E aw r6 ++ (rW E av vv ++ []))) C hG (pin (pin pnil)) (List.Perm.symm (pin (pin pnil))) (gR_N (As := [.ref (av 28)]) (rest := []) C hz hl.1 hG (pin (pin pnil)) (c_X0_copyFrom l E aw av r5 vv hcr6.symm H.size) okX0_copyFrom q798 28 rfl rfl rfl (Nat.le_of_ble_eq_true rfl) (by omega) ⟨Nat.le_refl _, Nat.le_refl _⟩ dX10_copyFrom_67) (fun H locs hG => ?_)
  exact hret _ _ _ _ _ h hG dX10_copyFrom_70
set_option maxHeartbeats 4000000 in
set_option maxRecDepth 100000 in
theorem c_X10_note (l : Launch) (E : GE) (aw : Nat → Nat) (N : Nat) (x1 : Int32) (x2 : Int32) (x3 : Int32) (ww : RS) {res : RS} (h : fX10_note N x1 x2 x3 ww = some res) : gMv l E yX10_note cX10_note 4 2 0 0 [.ref (aw 0), .int x1, .int x2, .int x3] (rW E aw ww ++ []) (rW E aw res ++ []) := by
  refine gMv_of (own := RX10) (by decide +kernel) rfl (Nat.le_of_ble_eq_true rfl) ?_
  intro p e s m args below meth c A ls Q H locs C hz hl hG hin hret
  have hx := C.1.1
  have hb := C.1.2.1
  have hts := C.1.2.2.2.2
  have hown := C.1.2.2.2.1
  have hl : lv_has ls 4 [(0, .ref (aw 0)), (1, .int x1), (2, .int x2), (3, .int x3)] := hl
  replace hret : ∀ (ww0 : RS) (H : Heap) (locs : List Loc) (pc : Nat) (ls' : Array Slot), some ww0 = some res → gG E A s.heap (rW E aw ww0 ++ []) H locs → decode cX10_note pc = .ok (.return_, 1) → W p l e (rmD 2 0 0) s m args below meth c H locs 0 0 Q (F0 m pc ls' []) := by
    intro ww0 H locs pc ls' e0; cases e0; exact hret H locs pc ls'
  rw [fX10_note] at h
  refine lv_aload_n hx hb dX10_note_0 rfl (lv_at hl 0 rfl) ?_
  refine gL_f (v := .ref (aw 1)) C hG kX10 0 0 rfl (by decide) rfl q352 rfl dX10_note_1 ?_
  refine lv_bipush (v := 7) hx hb dX10_note_4 (by decide) ?_
  refine lv_dup2_11 hx hb dX10_note_6 rfl rfl ?_
  refine gL_i (v := (ww 1 7)) C hG 1 rfl (vp_in_nI (n := 7) (by decide) (by decide)) (congrArg (ww 1) (nI_clamp (n := 7) (by decide))) dX10_note_7 ?_
  refine lv_iconst (v := 1) hx hb dX10_note_8 (by decide) ?_
  refine lv_iadd hx hb dX10_note_9 ?_
  obtain ⟨ww_1, eww_1, h⟩ := thn_some h
  refine gS_i (x := ((ww 1 7) + 1)) (ws' := (rW E aw ww_1 ++ [])) C hG 1 rfl (vp_in_nI (n := 7) (by decide) (by decide)) (nI_clamp (n := 7) (by decide)) dX10_note_10 (by rw [eww_1]; rfl) (fun H locs hG => ?_)
  refine lv_aload_n hx hb dX10_note_11 rfl (lv_at hl 0 rfl) ?_
  refine gL_f (v := .ref (aw 1)) C hG kX10 0 0 rfl (by decide) rfl q352 rfl dX10_note_12 ?_
  refine lv_bipush (v := 8) hx hb dX10_note_15 (by decide) ?_
  refine lv_dup2_11 hx hb dX10_note_17 rfl rfl ?_
  refine gL_i (v := (ww_1 1 8)) C hG 1 rfl (vp_in_nI (n := 8) (by decide) (by decide)) (congrArg (ww_1 1) (nI_clamp (n := 8) (by decide))) dX10_note_18 ?_
  refine lv_aload_n hx hb dX10_note_19 rfl (lv_at hl 0 rfl) ?_
  refine gL_f (v := .ref (aw 2)) C hG kX10 0 1 rfl (by decide) rfl q355 rfl dX10_note_20 ?_
  refine gL_fN (v := .ref (aw 3)) C hG kX2 2 0 rfl (by decide) rfl q212 rfl dX10_note_23 ?_
  refine lv_iload_n hx hb dX10_note_26 rfl (lv_at hl 1 rfl) ?_
  obtain ⟨b2, h⟩ := ck_some h
  refine gL_i (v := (ww_1 3 x1.toNatClampNeg)) C hG 3 rfl (inb_in b2) rfl dX10_note_27 ?_
  refine lv_iadd hx hb dX10_note_28 ?_
  obtain ⟨ww_3, eww_3, h⟩ := thn_some h
  refine gS_i (x := ((ww_1 1 8) + (ww_1 3 x1.toNatClampNeg))) (ws' := (rW E aw ww_3 ++ [])) C hG 1 rfl (vp_in_nI (n := 8) (by decide) (by decide)) (nI_clamp (n := 8) (by decide)) dX10_note_29 (by rw [eww_3]; rfl) (fun H locs hG => ?_)
  refine lv_aload_n hx hb dX10_note_30 rfl (lv_at hl 0 rfl) ?_
  refine gL_f (v := .ref (aw 20)) C hG kX10 0 3 rfl (by decide) rfl q360 rfl dX10_note_31 ?_
  refine gT_sN C hG q807 dX10_note_34 ?_
  refine lv_iload_n hx hb dX10_note_37 rfl (lv_at hl 1 rfl) ?_
  refine gT_si (v := (startT x1.toNatClampNeg)) C hG (inb_in b2) rfl dX10_note_38 ?_
  refine lv_iload_n hx hb dX10_note_39 rfl (lv_at hl 2 rfl) ?_
  refine lv_iadd hx hb dX10_note_40 ?_
  obtain ⟨r4, hcr4, h⟩ := bnd_some h
  refine gF_i (ws' := (rW E aw r4.2 ++ [])) C hG (pin pnil) (List.Perm.symm (pin pnil)) (gR_N (As := [.int ((startT x1.toNatClampNeg) + x2)]) (rest := []) C hz hl.1 hG (pin pnil) (c_X3_advance l E aw N ((startT x1.toNatClampNeg) + x2) ww_3 hcr4 H.size) okX3_advance q813 20 rfl rfl rfl (Nat.le_of_ble_eq_true rfl) (by omega) ⟨Nat.le_refl _, Nat.le_refl _⟩ dX10_note_41) (fun H locs _ hG => ?_)
  refine lv_iconst (v := 4) hx hb dX10_note_44 (by decide) ?_
  refine lv_icmp_lt (tgt := 75) hx hb dX10_note_45 (by decide) (fun c45 => ?_) (fun c45 => ?_)
  · replace h := it c45 h
    refine lv_aload_n hx hb dX10_note_75 rfl (lv_at hl 0 rfl) ?_
    refine gL_f (v := .ref (aw 2)) C hG kX10 0 1 rfl (by decide) rfl q355 rfl dX10_note_76 ?_
    refine lv_iload_n hx hb dX10_note_79 rfl (lv_at hl 1 rfl) ?_
    refine lv_iload_n hx hb dX10_note_80 rfl (lv_at hl 3 rfl) ?_
    obtain ⟨r5, hcr5, h⟩ := bnd_some h
    refine gF_v (ws' := (rW E aw r5 ++ [])) C hG (pin pnil) (List.Perm.symm (pin pnil)) (gR_N (As := [.int x1, .int x3]) (rest := []) C hz hl.1 hG (pin pnil) (c_X2_warm l E aw N x1 x3 r4.2 hcr5 H.size) okX2_warm q817 2 rfl rfl rfl (Nat.le_of_ble_eq_true rfl) (by omega) ⟨Nat.le_refl _, Nat.le_refl _⟩ dX10_note_81) (fun H locs hG => ?_)
    exact hret _ _ _ _ _ h hG dX10_note_84
  · replace h := ie c45 h
    refine lv_aload_n hx hb dX10_note_48 rfl (lv_at hl 0 rfl) ?_
    refine gL_f (v := .ref (aw 1)) C hG kX10 0 0 rfl (by decide) rfl q352 rfl dX10_note_49 ?_
    refine lv_bipush (v := 9) hx hb dX10_note_52 (by decide) ?_
    refine lv_dup2_11 hx hb dX10_note_54 rfl rfl ?_
    refine gL_i (v := (r4.2 1 9)) C hG 1 rfl (vp_in_nI (n := 9) (by decide) (by decide)) (congrArg (r4.2 1) (nI_clamp (n := 9) (by decide))) dX10_note_55 ?_
    refine lv_iconst (v := 1) hx hb dX10_note_56 (by decide) ?_
    refine lv_iadd hx hb dX10_note_57 ?_
    obtain ⟨ww_6, eww_6, h⟩ := thn_some h
    refine gS_i (x := ((r4.2 1 9) + 1)) (ws' := (rW E aw ww_6 ++ [])) C hG 1 rfl (vp_in_nI (n := 9) (by decide) (by decide)) (nI_clamp (n := 9) (by decide)) dX10_note_58 (by rw [eww_6]; rfl) (fun H locs hG => ?_)
    refine lv_aload_n hx hb dX10_note_59 rfl (lv_at hl 0 rfl) ?_
    refine gL_f (v := .ref (aw 2)) C hG kX10 0 1 rfl (by decide) rfl q355 rfl dX10_note_60 ?_
    refine gL_fN (v := .ref (aw 12)) C hG kX2 2 9 rfl (by decide) rfl q236 rfl dX10_note_63 ?_
    refine lv_iload_n hx hb dX10_note_66 rfl (lv_at hl 1 rfl) ?_
    refine lv_dup2_11 hx hb dX10_note_67 rfl rfl ?_
    refine gL_i (v := (ww_6 12 x1.toNatClampNeg)) C hG 12 rfl (inb_in b2) rfl dX10_note_68 ?_
    refine lv_iconst (v := 1) hx hb dX10_note_69 (by decide) ?_
    refine lv_iadd hx hb dX10_note_70 ?_
    obtain ⟨ww_7, eww_7, h⟩ := thn_some h
    refine gS_i (x := ((ww_6 12 x1.toNatClampNeg) + 1)) (ws' := (rW E aw ww_7 ++ [])) C hG 12 rfl (inb_in b2) rfl dX10_note_71 (by rw [eww_7]; rfl) (fun H locs hG => ?_)
    refine lv_goto (tgt := 84) hx hb dX10_note_72 (by decide) ?_
    exact hret _ _ _ _ _ h hG dX10_note_84
set_option maxHeartbeats 4000000 in
set_option maxRecDepth 100000 in
theorem c_X10_readBlock (l : Launch) (E : GE) (aw : Nat → Nat) (N : Nat) (x1 : Int32) (x2 : Int32) (ww : RS) {res : Int32 × RS} (h : fX10_readBlock N x1 x2 ww = some res) : gMi l E yX10_readBlock cX10_readBlock 4 .int 3 0 0 [.ref (aw 0), .int x1, .int x2] (rW E aw ww ++ []) (rW E aw res.2 ++ []) res.1 := by
  refine gMi_of (own := RX10) (by decide +kernel) rfl (Nat.le_of_ble_eq_true rfl) ?_
  intro p e s m args below meth c A ls Q H locs C hz hl hG hret
  have hx := C.1.1
  have hb := C.1.2.1
  have hts := C.1.2.2.2.2
  have hown := C.1.2.2.2.1
  have hl : lv_has ls 4 [(0, .ref (aw 0)), (1, .int x1), (2, .int x2)] := hl
  replace hret : ∀ (r0 : Int32) (ww0 : RS) (H : Heap) (locs : List Loc) (pc : Nat) (ls' : Array Slot), some (r0, ww0) = some res → narrow .int (.int r0) = .int r0 → gG E A s.heap (rW E aw ww0 ++ []) H locs → decode cX10_readBlock pc = .ok (.ireturn, 1) → W p l e (rmD 3 0 0) s m args below meth c H locs 0 0 Q (F0 m pc ls' [.int r0]) := by
    intro r0 ww0 H locs pc ls' e0 hn; cases e0; exact hret H locs pc ls' hn
  rw [fX10_readBlock] at h
  refine gT_sN C hG q807 dX10_readBlock_0 ?_
  refine lv_iload_n hx hb dX10_readBlock_3 rfl (lv_at hl 1 rfl) ?_
  obtain ⟨b1, h⟩ := ck_some h
  refine gT_si (v := (startT x1.toNatClampNeg)) C hG (inb_in b1) rfl dX10_readBlock_4 ?_
  refine lv_iload_n hx hb dX10_readBlock_5 rfl (lv_at hl 2 rfl) ?_
  refine lv_iadd hx hb dX10_readBlock_6 ?_
  obtain ⟨x3_2, ex3_2, h⟩ := thn_some h
  refine g_int ex3_2 ?_
  refine lv_istore_n (lv' := [(3, .int x3_2), (0, .ref (aw 0)), (1, .int x1), (2, .int x2)]) hx hb dX10_readBlock_7 rfl hl (by decide) rfl (fun ls hl => ?_)
  refine lv_aload_n hx hb dX10_readBlock_8 rfl (lv_at hl 1 rfl) ?_
  refine lv_iload_n hx hb dX10_readBlock_9 rfl (lv_at hl 2 rfl) ?_
  refine lv_iload_n hx hb dX10_readBlock_10 rfl (lv_at hl 3 rfl) ?_
  refine lv_bipush (v := 8) hx hb dX10_readBlock_11 (by decide) ?_
  obtain ⟨r3, hcr3, h⟩ := bnd_some h
  refine gF_v (ws' := (rW E aw r3 ++ [])) C hG (pin pnil) (List.Perm.symm (pin pnil)) (gR_V (As := [.int x1, .int x2, .int 8]) (rest := []) C hz hl.1 hG (pin pnil) (c_X10_note l E aw N x1 x2 8 ww hcr3 H.size) okX10_note q809 0 rfl rfl rfl (Nat.le_of_ble_eq_true rfl) (by omega) ⟨Nat.le_refl _, Nat.le_refl _⟩ dX10_readBlock_13) (fun H locs hG => ?_)
  refine lv_aload_n hx hb dX10_readBlock_16 rfl (lv_at hl 1 rfl) ?_
  refine gL_f (v := .ref (aw 2)) C hG kX10 0 1 rfl (by decide) rfl q355 rfl dX10_readBlock_17 ?_
  refine gL_fN (v := .ref (aw 3)) C hG kX2 2 0 rfl (by decide) rfl q212 rfl dX10_readBlock_20 ?_
  refine lv_iload_n hx hb dX10_readBlock_23 rfl (lv_at hl 2 rfl) ?_
  refine gL_i (v := (r3 3 x1.toNatClampNeg)) C hG 3 rfl (inb_in b1) rfl dX10_readBlock_24 ?_
  refine lv_iconst (v := 1) hx hb dX10_readBlock_25 (by decide) ?_
  refine lv_icmp_ne (tgt := 62) hx hb dX10_readBlock_26 (by decide) (fun c26 => ?_) (fun c26 => ?_)
  · replace h := ie c26 h
    refine lv_aload_n hx hb dX10_readBlock_62 rfl (lv_at hl 1 rfl) ?_
    refine gL_f (v := .ref (aw 1)) C hG kX10 0 0 rfl (by decide) rfl q352 rfl dX10_readBlock_63 ?_
    refine lv_iconst (v := 3) hx hb dX10_readBlock_66 (by decide) ?_
    refine lv_dup2_11 hx hb dX10_readBlock_67 rfl rfl ?_
    refine gL_i (v := (r3 1 3)) C hG 1 rfl (vp_in_nI (n := 3) (by decide) (by decide)) (congrArg (r3 1) (nI_clamp (n := 3) (by decide))) dX10_readBlock_68 ?_
    refine lv_bipush (v := 8) hx hb dX10_readBlock_69 (by decide) ?_
    refine lv_iadd hx hb dX10_readBlock_71 ?_
    obtain ⟨ww_4, eww_4, h⟩ := thn_some h
    refine gS_i (x := ((r3 1 3) + 8)) (ws' := (rW E aw ww_4 ++ [])) C hG 1 rfl (vp_in_nI (n := 3) (by decide) (by decide)) (nI_clamp (n := 3) (by decide)) dX10_readBlock_72 (by rw [eww_4]; rfl) (fun H locs hG => ?_)
    refine lv_aload_n hx hb dX10_readBlock_73 rfl (lv_at hl 1 rfl) ?_
    refine gL_f (v := .ref (aw 15)) C hG kX10 0 2 rfl (by decide) rfl q358 rfl dX10_readBlock_74 ?_
    refine gL_fN (v := .ref (aw 16)) C hG kX1 15 0 rfl (by decide) rfl q273 rfl dX10_readBlock_77 ?_
    refine lv_iload_n hx hb dX10_readBlock_80 rfl (lv_at hl 0 rfl) ?_
    obtain ⟨b5, h⟩ := ck_some h
    refine gL_i (v := (ww_4 16 x3_2.toNatClampNeg)) C hG 16 rfl (inb_in b5) rfl dX10_readBlock_81 ?_
    exact hret _ _ _ _ _ _ h rfl hG dX10_readBlock_82
  · replace h := it c26 h
    refine lv_aload_n hx hb dX10_readBlock_29 rfl (lv_at hl 1 rfl) ?_
    refine gL_f (v := .ref (aw 1)) C hG kX10 0 0 rfl (by decide) rfl q352 rfl dX10_readBlock_30 ?_
    refine lv_iconst (v := 3) hx hb dX10_readBlock_33 (by decide) ?_
    refine lv_dup2_11 hx hb dX10_readBlock_34 rfl rfl ?_
    refine gL_i (v := (r3 1 3)) C hG 1 rfl (vp_in_nI (n := 3) (by decide) (by decide)) (congrArg (r3 1) (nI_clamp (n := 3) (by decide))) dX10_readBlock_35 ?_
    refine lv_iconst (v := 1) hx hb dX10_readBlock_36 (by decide) ?_
    refine lv_iadd hx hb dX10_readBlock_37 ?_
    obtain ⟨ww_6, eww_6, h⟩ := thn_some h
    refine gS_i (x := ((r3 1 3) + 1)) (ws' := (rW E aw ww_6 ++ [])) C hG 1 rfl (vp_in_nI (n := 3) (by decide) (by decide)) (nI_clamp (n := 3) (by decide)) dX10_readBlock_38 (by rw [eww_6]; rfl) (fun H locs hG => ?_)
    refine lv_aload_n hx hb dX10_readBlock_39 rfl (lv_at hl 1 rfl) ?_
    refine gL_f (v := .ref (aw 2)) C hG kX10 0 1 rfl (by decide) rfl q355 rfl dX10_readBlock_40 ?_
    refine gL_fN (v := .ref (aw 8)) C hG kX2 2 5 rfl (by decide) rfl q226 rfl dX10_readBlock_43 ?_
    refine lv_iload_n hx hb dX10_readBlock_46 rfl (lv_at hl 2 rfl) ?_
    refine lv_dup2_11 hx hb dX10_readBlock_47 rfl rfl ?_
    refine gL_i (v := (ww_6 8 x1.toNatClampNeg)) C hG 8 rfl (inb_in b1) rfl dX10_readBlock_48 ?_
    refine lv_bipush (v := 7) hx hb dX10_readBlock_49 (by decide) ?_
    refine lv_iadd hx hb dX10_readBlock_51 ?_
    obtain ⟨ww_7, eww_7, h⟩ := thn_some h
    refine gS_i (x := ((ww_6 8 x1.toNatClampNeg) + 7)) (ws' := (rW E aw ww_7 ++ [])) C hG 8 rfl (inb_in b1) rfl dX10_readBlock_52 (by rw [eww_7]; rfl) (fun H locs hG => ?_)
    refine lv_aload_n hx hb dX10_readBlock_53 rfl (lv_at hl 1 rfl) ?_
    refine gL_f (v := .ref (aw 15)) C hG kX10 0 2 rfl (by decide) rfl q358 rfl dX10_readBlock_54 ?_
    refine lv_iload_n hx hb dX10_readBlock_57 rfl (lv_at hl 0 rfl) ?_
    obtain ⟨r8, hcr8, h⟩ := bnd_some h
    refine gF_i (ws' := (rW E aw ww_7 ++ [])) C hG (pin pnil) (List.Perm.symm (pin pnil)) (gR_N (As := [.int x3_2]) (rest := []) C hz hl.1 hG (pin pnil) (c_X1_fastAt l E aw N x3_2 ww_7 hcr8 H.size) okX1_fastAt q822 15 rfl rfl rfl (Nat.le_of_ble_eq_true rfl) (by omega) ⟨Nat.le_refl _, Nat.le_refl _⟩ dX10_readBlock_58) (fun H locs _ hG => ?_)
    exact hret _ _ _ _ _ _ h rfl hG dX10_readBlock_61
set_option maxHeartbeats 4000000 in
set_option maxRecDepth 100000 in
theorem c_X10_writeBlock (l : Launch) (E : GE) (aw : Nat → Nat) (N : Nat) (x1 : Int32) (x2 : Int32) (x3 : Int32) (ww : RS) {res : RS} (h : fX10_writeBlock N x1 x2 x3 ww = some res) : gMv l E yX10_writeBlock cX10_writeBlock 6 3 0 0 [.ref (aw 0), .int x1, .int x2, .int x3] (rW E aw ww ++ []) (rW E aw res ++ []) := by
  refine gMv_of (own := RX10) (by decide +kernel) rfl (Nat.le_of_ble_eq_true rfl) ?_
  intro p e s m args below meth c A ls Q H locs C hz hl hG hin hret
  have hx := C.1.1
  have hb := C.1.2.1
  have hts := C.1.2.2.2.2
  have hown := C.1.2.2.2.1
  have hl : lv_has ls 6 [(0, .ref (aw 0)), (1, .int x1), (2, .int x2), (3, .int x3)] := hl
  replace hret : ∀ (ww0 : RS) (H : Heap) (locs : List Loc) (pc : Nat) (ls' : Array Slot), some ww0 = some res → gG E A s.heap (rW E aw ww0 ++ []) H locs → decode cX10_writeBlock pc = .ok (.return_, 1) → W p l e (rmD 3 0 0) s m args below meth c H locs 0 0 Q (F0 m pc ls' []) := by
    intro ww0 H locs pc ls' e0; cases e0; exact hret H locs pc ls'
  rw [fX10_writeBlock] at h
  refine gT_sN C hG q807 dX10_writeBlock_0 ?_
  refine lv_iload_n hx hb dX10_writeBlock_3 rfl (lv_at hl 1 rfl) ?_
  obtain ⟨b1, h⟩ := ck_some h
  refine gT_si (v := (startT x1.toNatClampNeg)) C hG (inb_in b1) rfl dX10_writeBlock_4 ?_
  refine lv_iload_n hx hb dX10_writeBlock_5 rfl (lv_at hl 2 rfl) ?_
  refine lv_iadd hx hb dX10_writeBlock_6 ?_
  obtain ⟨x4_2, ex4_2, h⟩ := thn_some h
  refine g_int ex4_2 ?_
  refine lv_istore (lv' := [(4, .int x4_2), (0, .ref (aw 0)), (1, .int x1), (2, .int x2), (3, .int x3)]) hx hb dX10_writeBlock_7 hl (by decide) rfl (fun ls hl => ?_)
  refine lv_aload_n hx hb dX10_writeBlock_9 rfl (lv_at hl 1 rfl) ?_
  refine lv_iload_n hx hb dX10_writeBlock_10 rfl (lv_at hl 2 rfl) ?_
  refine lv_iload_n hx hb dX10_writeBlock_11 rfl (lv_at hl 3 rfl) ?_
  refine lv_bipush (v := 12) hx hb dX10_writeBlock_12 (by decide) ?_
  obtain ⟨r3, hcr3, h⟩ := bnd_some h
  refine gF_v (ws' := (rW E aw r3 ++ [])) C hG (pin pnil) (List.Perm.symm (pin pnil)) (gR_V (As := [.int x1, .int x2, .int 12]) (rest := []) C hz hl.1 hG (pin pnil) (c_X10_note l E aw N x1 x2 12 ww hcr3 H.size) okX10_note q809 0 rfl rfl rfl (Nat.le_of_ble_eq_true rfl) (by omega) ⟨Nat.le_refl _, Nat.le_refl _⟩ dX10_writeBlock_14) (fun H locs hG => ?_)
  refine lv_aload_n hx hb dX10_writeBlock_17 rfl (lv_at hl 1 rfl) ?_
  refine gL_f (v := .ref (aw 2)) C hG kX10 0 1 rfl (by decide) rfl q355 rfl dX10_writeBlock_18 ?_
  refine gL_fN (v := .ref (aw 3)) C hG kX2 2 0 rfl (by decide) rfl q212 rfl dX10_writeBlock_21 ?_
  refine lv_iload_n hx hb dX10_writeBlock_24 rfl (lv_at hl 2 rfl) ?_
  refine gL_i (v := (r3 3 x1.toNatClampNeg)) C hG 3 rfl (inb_in b1) rfl dX10_writeBlock_25 ?_
  refine lv_iconst (v := 1) hx hb dX10_writeBlock_26 (by decide) ?_
  refine lv_icmp_ne (tgt := 80) hx hb dX10_writeBlock_27 (by decide) (fun c27 => ?_) (fun c27 => ?_)
  · replace h := ie c27 h
    refine lv_aload_n hx hb dX10_writeBlock_80 rfl (lv_at hl 1 rfl) ?_
    refine gL_f (v := .ref (aw 1)) C hG kX10 0 0 rfl (by decide) rfl q352 rfl dX10_writeBlock_81 ?_
    refine lv_iconst (v := 3) hx hb dX10_writeBlock_84 (by decide) ?_
    refine lv_dup2_11 hx hb dX10_writeBlock_85 rfl rfl ?_
    refine gL_i (v := (r3 1 3)) C hG 1 rfl (vp_in_nI (n := 3) (by decide) (by decide)) (congrArg (r3 1) (nI_clamp (n := 3) (by decide))) dX10_writeBlock_86 ?_
    refine lv_bipush (v := 10) hx hb dX10_writeBlock_87 (by decide) ?_
    refine lv_iadd hx hb dX10_writeBlock_89 ?_
    obtain ⟨ww_4, eww_4, h⟩ := thn_some h
    refine gS_i (x := ((r3 1 3) + 10)) (ws' := (rW E aw ww_4 ++ [])) C hG 1 rfl (vp_in_nI (n := 3) (by decide) (by decide)) (nI_clamp (n := 3) (by decide)) dX10_writeBlock_90 (by rw [eww_4]; rfl) (fun H locs hG => ?_)
    refine lv_aload_n hx hb dX10_writeBlock_91 rfl (lv_at hl 1 rfl) ?_
    refine gL_f (v := .ref (aw 15)) C hG kX10 0 2 rfl (by decide) rfl q358 rfl dX10_writeBlock_92 ?_
    refine gL_fN (v := .ref (aw 16)) C hG kX1 15 0 rfl (by decide) rfl q273 rfl dX10_writeBlock_95 ?_
    refine lv_iload hx hb dX10_writeBlock_98 (lv_at hl 0 rfl) ?_
    refine lv_iload_n hx hb dX10_writeBlock_100 rfl (lv_at hl 4 rfl) ?_
    obtain ⟨b5, h⟩ := ck_some h
    obtain ⟨ww_6, eww_6, h⟩ := thn_some h
    refine gS_i (x := x3) (ws' := (rW E aw ww_6 ++ [])) C hG 16 rfl (inb_in b5) rfl dX10_writeBlock_101 (by rw [eww_6]; rfl) (fun H locs hG => ?_)
    refine lv_aload_n hx hb dX10_writeBlock_102 rfl (lv_at hl 1 rfl) ?_
    refine gL_f (v := .ref (aw 23)) C hG kX10 0 4 rfl (by decide) rfl q362 rfl dX10_writeBlock_103 ?_
    refine lv_iload_n hx hb dX10_writeBlock_106 rfl (lv_at hl 2 rfl) ?_
    obtain ⟨r7, hcr7, h⟩ := bnd_some h
    refine gF_i (ws' := (rW E aw ww_6 ++ [])) C hG (pin pnil) (List.Perm.symm (pin pnil)) (gR_N (As := [.int x1]) (rest := []) C hz hl.1 hG (pin pnil) (c_X5_find l E aw N x1 ww_6 hcr7 H.size) okX5_find q838 23 rfl rfl rfl (Nat.le_of_ble_eq_true rfl) (by omega) ⟨Nat.le_refl _, Nat.le_refl _⟩ dX10_writeBlock_107) (fun H locs _ hG => ?_)
    refine lv_istore (lv' := [(5, .int r7), (4, .int x4_2), (0, .ref (aw 0)), (1, .int x1), (2, .int x2), (3, .int x3)]) hx hb dX10_writeBlock_110 hl (by decide) rfl (fun ls hl => ?_)
    refine lv_iload hx hb dX10_writeBlock_112 (lv_at hl 0 rfl) ?_
    refine lv_iconst (v := (-1)) hx hb dX10_writeBlock_114 (by decide) ?_
    refine lv_icmp_eq (tgt := 136) hx hb dX10_writeBlock_115 (by decide) (fun c115 => ?_) (fun c115 => ?_)
    · replace h := it c115 h
      exact hret _ _ _ _ _ h hG dX10_writeBlock_136
    · replace h := ie c115 h
      refine lv_aload_n hx hb dX10_writeBlock_118 rfl (lv_at hl 2 rfl) ?_
      refine gL_f (v := .ref (aw 23)) C hG kX10 0 4 rfl (by decide) rfl q362 rfl dX10_writeBlock_119 ?_
      refine gL_fN (v := .ref (aw 27)) C hG kX5 23 4 rfl (by decide) rfl q327 rfl dX10_writeBlock_122 ?_
      refine lv_iload hx hb dX10_writeBlock_125 (lv_at hl 0 rfl) ?_
      refine lv_dup2_11 hx hb dX10_writeBlock_127 rfl rfl ?_
      obtain ⟨b8, h⟩ := ck_some h
      refine gL_i (v := (ww_6 27 r7.toNatClampNeg)) C hG 27 rfl (inb_in b8) rfl dX10_writeBlock_128 ?_
      refine lv_iconst (v := 1) hx hb dX10_writeBlock_129 (by decide) ?_
      refine lv_iload_n hx hb dX10_writeBlock_130 rfl (lv_at hl 4 rfl) ?_
      refine lv_ishl hx hb dX10_writeBlock_131 ?_
      refine lv_iconst (v := (-1)) hx hb dX10_writeBlock_132 (by decide) ?_
      refine lv_ixor hx hb dX10_writeBlock_133 ?_
      refine lv_iand hx hb dX10_writeBlock_134 ?_
      obtain ⟨ww_9, eww_9, h⟩ := thn_some h
      refine gS_i (x := ((ww_6 27 r7.toNatClampNeg) &&& ((1 <<< ((x2 : Int32) &&& 31)) ^^^ (-1)))) (ws' := (rW E aw ww_9 ++ [])) C hG 27 rfl (inb_in b8) rfl dX10_writeBlock_135 (by rw [eww_9]; rfl) (fun H locs hG => ?_)
      exact hret _ _ _ _ _ h hG dX10_writeBlock_136
  · replace h := it c27 h
    refine lv_aload_n hx hb dX10_writeBlock_30 rfl (lv_at hl 1 rfl) ?_
    refine gL_f (v := .ref (aw 1)) C hG kX10 0 0 rfl (by decide) rfl q352 rfl dX10_writeBlock_31 ?_
    refine lv_iconst (v := 3) hx hb dX10_writeBlock_34 (by decide) ?_
    refine lv_dup2_11 hx hb dX10_writeBlock_35 rfl rfl ?_
    refine gL_i (v := (r3 1 3)) C hG 1 rfl (vp_in_nI (n := 3) (by decide) (by decide)) (congrArg (r3 1) (nI_clamp (n := 3) (by decide))) dX10_writeBlock_36 ?_
    refine lv_iconst (v := 2) hx hb dX10_writeBlock_37 (by decide) ?_
    refine lv_iadd hx hb dX10_writeBlock_38 ?_
    obtain ⟨ww_10, eww_10, h⟩ := thn_some h
    refine gS_i (x := ((r3 1 3) + 2)) (ws' := (rW E aw ww_10 ++ [])) C hG 1 rfl (vp_in_nI (n := 3) (by decide) (by decide)) (nI_clamp (n := 3) (by decide)) dX10_writeBlock_39 (by rw [eww_10]; rfl) (fun H locs hG => ?_)
    refine lv_aload_n hx hb dX10_writeBlock_40 rfl (lv_at hl 1 rfl) ?_
    refine gL_f (v := .ref (aw 2)) C hG kX10 0 1 rfl (by decide) rfl q355 rfl dX10_writeBlock_41 ?_
    refine gL_fN (v := .ref (aw 8)) C hG kX2 2 5 rfl (by decide) rfl q226 rfl dX10_writeBlock_44 ?_
    refine lv_iload_n hx hb dX10_writeBlock_47 rfl (lv_at hl 2 rfl) ?_
    refine lv_dup2_11 hx hb dX10_writeBlock_48 rfl rfl ?_
    refine gL_i (v := (ww_10 8 x1.toNatClampNeg)) C hG 8 rfl (inb_in b1) rfl dX10_writeBlock_49 ?_
    refine lv_bipush (v := 8) hx hb dX10_writeBlock_50 (by decide) ?_
    refine lv_iadd hx hb dX10_writeBlock_52 ?_
    obtain ⟨ww_11, eww_11, h⟩ := thn_some h
    refine gS_i (x := ((ww_10 8 x1.toNatClampNeg) + 8)) (ws' := (rW E aw ww_11 ++ [])) C hG 8 rfl (inb_in b1) rfl dX10_writeBlock_53 (by rw [eww_11]; rfl) (fun H locs hG => ?_)
    refine lv_aload_n hx hb dX10_writeBlock_54 rfl (lv_at hl 1 rfl) ?_
    refine gL_f (v := .ref (aw 15)) C hG kX10 0 2 rfl (by decide) rfl q358 rfl dX10_writeBlock_55 ?_
    refine lv_iload hx hb dX10_writeBlock_58 (lv_at hl 0 rfl) ?_
    refine lv_iload_n hx hb dX10_writeBlock_60 rfl (lv_at hl 4 rfl) ?_
    obtain ⟨r12, hcr12, h⟩ := bnd_some h
    refine gF_v (ws' := (rW E aw r12 ++ [])) C hG (pin pnil) (List.Perm.symm (pin pnil)) (gR_N (As := [.int x4_2, .int x3]) (rest := []) C hz hl.1 hG (pin pnil) (c_X1_putFast l E aw N x4_2 x3 ww_11 hcr12 H.size) okX1_putFast q834 15 rfl rfl rfl (Nat.le_of_ble_eq_true rfl) (by omega) ⟨Nat.le_refl _, Nat.le_refl _⟩ dX10_writeBlock_61) (fun H locs hG => ?_)
    refine lv_aload_n hx hb dX10_writeBlock_64 rfl (lv_at hl 1 rfl) ?_
    refine gL_f (v := .ref (aw 2)) C hG kX10 0 1 rfl (by decide) rfl q355 rfl dX10_writeBlock_65 ?_
    refine gL_fN (v := .ref (aw 6)) C hG kX2 2 3 rfl (by decide) rfl q222 rfl dX10_writeBlock_68 ?_
    refine lv_iload_n hx hb dX10_writeBlock_71 rfl (lv_at hl 2 rfl) ?_
    refine lv_dup2_11 hx hb dX10_writeBlock_72 rfl rfl ?_
    refine gL_i (v := (r12 6 x1.toNatClampNeg)) C hG 6 rfl (inb_in b1) rfl dX10_writeBlock_73 ?_
    refine lv_iconst (v := 1) hx hb dX10_writeBlock_74 (by decide) ?_
    refine lv_iload_n hx hb dX10_writeBlock_75 rfl (lv_at hl 3 rfl) ?_
    refine lv_ishl hx hb dX10_writeBlock_76 ?_
    refine lv_ior hx hb dX10_writeBlock_77 ?_
    obtain ⟨ww_13, eww_13, h⟩ := thn_some h
    refine gS_i (x := ((r12 6 x1.toNatClampNeg) ||| (1 <<< ((x2 : Int32) &&& 31)))) (ws' := (rW E aw ww_13 ++ [])) C hG 6 rfl (inb_in b1) rfl dX10_writeBlock_78 (by rw [eww_13]; rfl) (fun H locs hG => ?_)
    exact hret _ _ _ _ _ h hG dX10_writeBlock_79
set_option maxHeartbeats 4000000 in
set_option maxRecDepth 100000 in
theorem c_X10_readExtents (l : Launch) (E : GE) (aw : Nat → Nat) (N : Nat) (x1 : Int32) (x2 : Int32) (x3 : Int32) (ww : RS) {res : Int32 × RS} (h : fX10_readExtents N x1 x2 x3 ww = some res) : gMi l E yX10_readExtents cX10_readExtents 7 .int 4 0 0 [.ref (aw 0), .int x1, .int x2, .int x3] (rW E aw ww ++ []) (rW E aw res.2 ++ []) res.1 := by
  refine gMi_of (own := RX10) (by decide +kernel) rfl (Nat.le_of_ble_eq_true rfl) ?_
  intro p e s m args below meth c A ls Q H locs C hz hl hG hret
  have hx := C.1.1
  have hb := C.1.2.1
  have hts := C.1.2.2.2.2
  have hown := C.1.2.2.2.1
  have hl : lv_has ls 7 [(0, .ref (aw 0)), (1, .int x1), (2, .int x2), (3, .int x3)] := hl
  replace hret : ∀ (r0 : Int32) (ww0 : RS) (H : Heap) (locs : List Loc) (pc : Nat) (ls' : Array Slot), some (r0, ww0) = some res → narrow .int (.int r0) = .int r0 → gG E A s.heap (rW E aw ww0 ++ []) H locs → decode cX10_readExtents pc = .ok (.ireturn, 1) → W p l e (rmD 4 0 0) s m args below meth c H locs 0 0 Q (F0 m pc ls' [.int r0]) := by
    intro r0 ww0 H locs pc ls' e0 hn; cases e0; exact hret H locs pc ls' hn
  have K50 : ∀ (k6 : (Int32 → Int32 → RS → Option (Int32 × RS))) (hk6 : ∀  (x4 : Int32) (x5 : Int32) (ww : RS) (H : Heap) (locs : List Loc) (ls : Array Slot), gG E A s.heap (rW E aw ww ++ []) H locs → lv_has ls 7 [(0, .ref (aw 0)), (2, .int x2), (3, .int x3), (4, .int x4), (5, .int x5)] → k6 x4 x5 ww = some res → W p l e (rmD 4 0 0) s m args below meth c H locs 0 0 Q (F0 m 6 ls [])), ∀  (x4 : Int32) (x5 : Int32) (ww : RS) (H : Heap) (locs : List Loc) (ls : Array Slot), gG E A s.heap (rW E aw ww ++ []) H locs → lv_has ls 7 [(0, .ref (aw 0)), (2, .int x2), (3, .int x3), (4, .int x4), (5, .int x5)] → fX10_readExtents_L50 N x1 x2 x3 k6 x4 x5 ww = some res → W p l e (rmD 4 0 0) s m args below meth c H locs 0 0 Q (F0 m 50 ls []) := by
    intro k6 hk6 x4 x5 ww H locs ls hG hl h
    rw [fX10_readExtents_L50] at h
    refine lv_iinc (v := (x5 + 1)) (lv' := [(5, .int (x5 + 1)), (0, .ref (aw 0)), (2, .int x2), (3, .int x3), (4, .int x4)]) hx hb dX10_readExtents_50 hl (k := 4) rfl (congrArg (x5 + ·) (by decide : Int32.ofInt 1 = 1)) (by decide) rfl (fun ls hl => ?_)
    refine lv_goto (tgt := 6) hx hb dX10_readExtents_53 (by decide) ?_
    exact hk6 x4 (x5 + 1) ww _ _ _ hG (lv_sub hl [1, 2, 3, 4, 0] rfl) h
  have K15 : ∀ (k6 : (Int32 → Int32 → RS → Option (Int32 × RS))) (hk6 : ∀  (x4 : Int32) (x5 : Int32) (ww : RS) (H : Heap) (locs : List Loc) (ls : Array Slot), gG E A s.heap (rW E aw ww ++ []) H locs → lv_has ls 7 [(0, .ref (aw 0)), (2, .int x2), (3, .int x3), (4, .int x4), (5, .int x5)] → k6 x4 x5 ww = some res → W p l e (rmD 4 0 0) s m args below meth c H locs 0 0 Q (F0 m 6 ls [])) (k : Nat), ∀  (x4 : Int32) (x5 : Int32) (x6 : Int32) (ww : RS) (H : Heap) (locs : List Loc) (ls : Array Slot), gG E A s.heap (rW E aw ww ++ []) H locs → lv_has ls 7 [(0, .ref (aw 0)), (2, .int x2), (3, .int x3), (4, .int x4), (5, .int x5), (6, .int x6)] → fX10_readExtents_L15 N x1 x2 x3 k6 k x4 x5 x6 ww = some res → W p l e (rmD 4 0 0) s m args below meth c H locs 0 0 Q (F0 m 15 ls []) := by
    intro k6 hk6 k
    induction k with
    | zero => intro x4 x5 x6 ww H locs ls hG hl h; exact absurd (show none = _ from h) (by simp)
    | succ k ih =>
      intro x4 x5 x6 ww H locs ls hG hl h
      rw [fX10_readExtents_L15] at h
      refine lv_iload hx hb dX10_readExtents_15 (lv_at hl 5 rfl) ?_
      refine gT_zN C hG q850 dX10_readExtents_17 ?_
      refine lv_iload hx hb dX10_readExtents_20 (lv_at hl 4 rfl) ?_
      obtain ⟨b1, h⟩ := ck_some h
      refine gT_zi (v := (sizeT x5.toNatClampNeg)) C hG (inb_in b1) rfl dX10_readExtents_22 ?_
      refine lv_icmp_ge (tgt := 50) hx hb dX10_readExtents_23 (by decide) (fun c23 => ?_) (fun c23 => ?_)
      · replace h := it c23 h
        exact K50 _ hk6 x4 x5 ww _ _ _ hG (lv_sub hl [0, 1, 2, 3, 4] rfl) h
      · replace h := ie c23 h
        refine lv_iload hx hb dX10_readExtents_26 (lv_at hl 3 rfl) ?_
        refine lv_iload_n hx hb dX10_readExtents_28 rfl (lv_at hl 2 rfl) ?_
        refine lv_icmp_ge (tgt := 50) hx hb dX10_readExtents_29 (by decide) (fun c29 => ?_) (fun c29 => ?_)
        · replace h := it c29 h
          exact K50 _ hk6 x4 x5 ww _ _ _ hG (lv_sub hl [0, 1, 2, 3, 4] rfl) h
        · replace h := ie c29 h
          refine lv_aload_n hx hb dX10_readExtents_32 rfl (lv_at hl 0 rfl) ?_
          refine lv_iload hx hb dX10_readExtents_33 (lv_at hl 4 rfl) ?_
          refine lv_iload hx hb dX10_readExtents_35 (lv_at hl 5 rfl) ?_
          obtain ⟨r2, hcr2, h⟩ := bnd_some h
          refine gF_i (ws' := (rW E aw r2.2 ++ [])) C hG (pin pnil) (List.Perm.symm (pin pnil)) (gR_V (As := [.int x5, .int x6]) (rest := []) C hz hl.1 hG (pin pnil) (c_X10_readBlock l E aw N x5 x6 ww hcr2 H.size) okX10_readBlock q851 0 rfl rfl rfl (Nat.le_of_ble_eq_true rfl) (by omega) ⟨Nat.le_refl _, Nat.le_refl _⟩ dX10_readExtents_37) (fun H locs _ hG => ?_)
          refine lv_pop hx hb dX10_readExtents_40 rfl ?_
          refine lv_iinc (v := (x4 + 1)) (lv' := [(4, .int (x4 + 1)), (0, .ref (aw 0)), (2, .int x2), (3, .int x3), (5, .int x5), (6, .int x6)]) hx hb dX10_readExtents_41 hl (k := 3) rfl (congrArg (x4 + ·) (by decide : Int32.ofInt 1 = 1)) (by decide) rfl (fun ls hl => ?_)
          refine lv_iinc (v := (x6 + 1)) (lv' := [(6, .int (x6 + 1)), (4, .int (x4 + 1)), (0, .ref (aw 0)), (2, .int x2), (3, .int x3), (5, .int x5)]) hx hb dX10_readExtents_44 hl (k := 5) rfl (congrArg (x6 + ·) (by decide : Int32.ofInt 1 = 1)) (by decide) rfl (fun ls hl => ?_)
          refine lv_goto (tgt := 15) hx hb dX10_readExtents_47 (by decide) ?_
          exact ih (x4 + 1) x5 (x6 + 1) r2.2 _ _ _ hG (lv_sub hl [2, 3, 4, 1, 5, 0] rfl) h
  have K6 : ∀ (k : Nat), ∀  (x4 : Int32) (x5 : Int32) (ww : RS) (H : Heap) (locs : List Loc) (ls : Array Slot), gG E A s.heap (rW E aw ww ++ []) H locs → lv_has ls 7 [(0, .ref (aw 0)), (2, .int x2), (3, .int x3), (4, .int x4), (5, .int x5)] → fX10_readExtents_L6 N x1 x2 x3 k x4 x5 ww = some res → W p l e (rmD 4 0 0) s m args below meth c H locs 0 0 Q (F0 m 6 ls []) := by
    intro k
    induction k with
    | zero => intro x4 x5 ww H locs ls hG hl h; exact absurd (show none = _ from h) (by simp)
    | succ k ih =>
      intro x4 x5 ww H locs ls hG hl h
      rw [fX10_readExtents_L6] at h
      refine lv_iload hx hb dX10_readExtents_6 (lv_at hl 4 rfl) ?_
      refine lv_iload_n hx hb dX10_readExtents_8 rfl (lv_at hl 1 rfl) ?_
      refine lv_icmp_gt (tgt := 56) hx hb dX10_readExtents_9 (by decide) (fun c9 => ?_) (fun c9 => ?_)
      · replace h := it c9 h
        refine lv_iload hx hb dX10_readExtents_56 (lv_at hl 3 rfl) ?_
        exact hret _ _ _ _ _ _ h rfl hG dX10_readExtents_58
      · replace h := ie c9 h
        refine lv_iconst (v := 0) hx hb dX10_readExtents_12 (by decide) ?_
        refine lv_istore (lv' := [(6, .int 0), (0, .ref (aw 0)), (2, .int x2), (3, .int x3), (4, .int x4), (5, .int x5)]) hx hb dX10_readExtents_13 hl (by decide) rfl (fun ls hl => ?_)
        exact K15 _ ih N x4 x5 0 ww _ _ _ hG (lv_sub hl [1, 2, 3, 4, 5, 0] rfl) h
  rw [fX10_readExtents] at h
  refine lv_iconst (v := 0) hx hb dX10_readExtents_0 (by decide) ?_
  refine lv_istore (lv' := [(4, .int 0), (0, .ref (aw 0)), (1, .int x1), (2, .int x2), (3, .int x3)]) hx hb dX10_readExtents_1 hl (by decide) rfl (fun ls hl => ?_)
  refine lv_iload_n hx hb dX10_readExtents_3 rfl (lv_at hl 2 rfl) ?_
  refine lv_istore (lv' := [(5, .int x1), (4, .int 0), (0, .ref (aw 0)), (1, .int x1), (2, .int x2), (3, .int x3)]) hx hb dX10_readExtents_4 hl (by decide) rfl (fun ls hl => ?_)
  exact K6 N 0 x1 ww _ _ _ hG (lv_sub hl [2, 4, 5, 1, 0] rfl) h
set_option maxHeartbeats 4000000 in
set_option maxRecDepth 100000 in
theorem c_X10_writeDown (l : Launch) (E : GE) (aw : Nat → Nat) (N : Nat) (x1 : Int32) (x2 : Int32) (x3 : Int32) (ww : RS) {res : RS} (h : fX10_writeDown N x1 x2 x3 ww = some res) : gMv l E yX10_writeDown cX10_writeDown 4 2 0 0 [.ref (aw 0), .int x1, .int x2, .int x3] (rW E aw ww ++ []) (rW E aw res ++ []) := by
  refine gMv_of (own := RX10) (by decide +kernel) rfl (Nat.le_of_ble_eq_true rfl) ?_
  intro p e s m args below meth c A ls Q H locs C hz hl hG hin hret
  have hx := C.1.1
  have hb := C.1.2.1
  have hts := C.1.2.2.2.2
  have hown := C.1.2.2.2.1
  have hl : lv_has ls 4 [(0, .ref (aw 0)), (1, .int x1), (2, .int x2), (3, .int x3)] := hl
  replace hret : ∀ (ww0 : RS) (H : Heap) (locs : List Loc) (pc : Nat) (ls' : Array Slot), some ww0 = some res → gG E A s.heap (rW E aw ww0 ++ []) H locs → decode cX10_writeDown pc = .ok (.return_, 1) → W p l e (rmD 2 0 0) s m args below meth c H locs 0 0 Q (F0 m pc ls' []) := by
    intro ww0 H locs pc ls' e0; cases e0; exact hret H locs pc ls'
  rw [fX10_writeDown] at h
  refine lv_aload_n hx hb dX10_writeDown_0 rfl (lv_at hl 0 rfl) ?_
  refine gL_f (v := .ref (aw 28)) C hG kX10 0 5 rfl (by decide) rfl q365 rfl dX10_writeDown_1 ?_
  refine lv_aload_n hx hb dX10_writeDown_4 rfl (lv_at hl 0 rfl) ?_
  refine gL_f (v := .ref (aw 1)) C hG kX10 0 0 rfl (by decide) rfl q352 rfl dX10_writeDown_5 ?_
  refine lv_iconst (v := 0) hx hb dX10_writeDown_8 (by decide) ?_
  refine gL_i (v := (ww 1 0)) C hG 1 rfl (vp_in_nI (n := 0) (by decide) (by decide)) (congrArg (ww 1) (nI_clamp (n := 0) (by decide))) dX10_writeDown_9 ?_
  refine lv_iload_n hx hb dX10_writeDown_10 rfl (lv_at hl 1 rfl) ?_
  refine lv_iload_n hx hb dX10_writeDown_11 rfl (lv_at hl 2 rfl) ?_
  refine lv_iload_n hx hb dX10_writeDown_12 rfl (lv_at hl 3 rfl) ?_
  obtain ⟨r1, hcr1, h⟩ := bnd_some h
  refine gF_v (ws' := (rW E aw r1 ++ [])) C hG (pin pnil) (List.Perm.symm (pin pnil)) (gR_N (As := [.int (ww 1 0), .int x1, .int x2, .int x3]) (rest := []) C hz hl.1 hG (pin pnil) (c_X0_add l E aw N (ww 1 0) x1 x2 x3 ww hcr1 H.size) okX0_add q860 28 rfl rfl rfl (Nat.le_of_ble_eq_true rfl) (by omega) ⟨Nat.le_refl _, Nat.le_refl _⟩ dX10_writeDown_13) (fun H locs hG => ?_)
  exact hret _ _ _ _ _ h hG dX10_writeDown_16
set_option maxHeartbeats 4000000 in
set_option maxRecDepth 100000 in
theorem c_X10_dropMove (l : Launch) (E : GE) (aw : Nat → Nat) (N : Nat) (x1 : Int32) (ww : RS) {res : RS} (h : fX10_dropMove N x1 ww = some res) : gMv l E yX10_dropMove cX10_dropMove 4 3 0 0 [.ref (aw 0), .int x1] (rW E aw ww ++ []) (rW E aw res ++ []) := by
  refine gMv_of (own := RX10) (by decide +kernel) rfl (Nat.le_of_ble_eq_true rfl) ?_
  intro p e s m args below meth c A ls Q H locs C hz hl hG hin hret
  have hx := C.1.1
  have hb := C.1.2.1
  have hts := C.1.2.2.2.2
  have hown := C.1.2.2.2.1
  have hl : lv_has ls 4 [(0, .ref (aw 0)), (1, .int x1)] := hl
  replace hret : ∀ (ww0 : RS) (H : Heap) (locs : List Loc) (pc : Nat) (ls' : Array Slot), some ww0 = some res → gG E A s.heap (rW E aw ww0 ++ []) H locs → decode cX10_dropMove pc = .ok (.return_, 1) → W p l e (rmD 3 0 0) s m args below meth c H locs 0 0 Q (F0 m pc ls' []) := by
    intro ww0 H locs pc ls' e0; cases e0; exact hret H locs pc ls'
  have K39 : ∀  (x2 : Int32) (x3 : Int32) (ww : RS) (H : Heap) (locs : List Loc) (ls : Array Slot), gG E A s.heap (rW E aw ww ++ []) H locs → lv_has ls 4 [(0, .ref (aw 0)), (1, .int x1), (2, .int x2), (3, .int x3)] → fX10_dropMove_L39 N x1 x2 x3 ww = some res → W p l e (rmD 3 0 0) s m args below meth c H locs 0 0 Q (F0 m 39 ls []) := by
    intro x2 x3 ww H locs ls hG hl h
    rw [fX10_dropMove_L39] at h
    refine lv_aload_n hx hb dX10_dropMove_39 rfl (lv_at hl 0 rfl) ?_
    refine gL_f (v := .ref (aw 23)) C hG kX10 0 4 rfl (by decide) rfl q362 rfl dX10_dropMove_40 ?_
    refine lv_iload_n hx hb dX10_dropMove_43 rfl (lv_at hl 1 rfl) ?_
    obtain ⟨r1, hcr1, h⟩ := bnd_some h
    refine gF_v (ws' := (rW E aw r1 ++ [])) C hG (pin pnil) (List.Perm.symm (pin pnil)) (gR_N (As := [.int x1]) (rest := []) C hz hl.1 hG (pin pnil) (c_X5_remove l E aw N x1 ww hcr1 H.size) okX5_remove q898 23 rfl rfl rfl (Nat.le_of_ble_eq_true rfl) (by omega) ⟨Nat.le_refl _, Nat.le_refl _⟩ dX10_dropMove_44) (fun H locs hG => ?_)
    refine lv_aload_n hx hb dX10_dropMove_47 rfl (lv_at hl 0 rfl) ?_
    refine lv_iconst (v := 2) hx hb dX10_dropMove_48 (by decide) ?_
    refine lv_iload_n hx hb dX10_dropMove_49 rfl (lv_at hl 2 rfl) ?_
    refine lv_iload_n hx hb dX10_dropMove_50 rfl (lv_at hl 3 rfl) ?_
    obtain ⟨r2, hcr2, h⟩ := bnd_some h
    refine gF_v (ws' := (rW E aw r2 ++ [])) C hG (pin pnil) (List.Perm.symm (pin pnil)) (gR_V (As := [.int 2, .int x2, .int x3]) (rest := []) C hz hl.1 hG (pin pnil) (c_X10_writeDown l E aw N 2 x2 x3 r1 hcr2 H.size) okX10_writeDown q902 0 rfl rfl rfl (Nat.le_of_ble_eq_true rfl) (by omega) ⟨Nat.le_refl _, Nat.le_refl _⟩ dX10_dropMove_51) (fun H locs hG => ?_)
    exact hret _ _ _ _ _ h hG dX10_dropMove_54
  rw [fX10_dropMove] at h
  refine lv_aload_n hx hb dX10_dropMove_0 rfl (lv_at hl 0 rfl) ?_
  refine gL_f (v := .ref (aw 23)) C hG kX10 0 4 rfl (by decide) rfl q362 rfl dX10_dropMove_1 ?_
  refine gL_fN (v := .ref (aw 24)) C hG kX5 23 1 rfl (by decide) rfl q319 rfl dX10_dropMove_4 ?_
  refine lv_iload_n hx hb dX10_dropMove_7 rfl (lv_at hl 1 rfl) ?_
  obtain ⟨b1, h⟩ := ck_some h
  refine gL_i (v := (ww 24 x1.toNatClampNeg)) C hG 24 rfl (inb_in b1) rfl dX10_dropMove_8 ?_
  obtain ⟨x2_2, ex2_2, h⟩ := thn_some h
  refine g_int ex2_2 ?_
  refine lv_istore_n (lv' := [(2, .int x2_2), (0, .ref (aw 0)), (1, .int x1)]) hx hb dX10_dropMove_9 rfl hl (by decide) rfl (fun ls hl => ?_)
  refine lv_aload_n hx hb dX10_dropMove_10 rfl (lv_at hl 1 rfl) ?_
  refine gL_f (v := .ref (aw 23)) C hG kX10 0 4 rfl (by decide) rfl q362 rfl dX10_dropMove_11 ?_
  refine gL_fN (v := .ref (aw 25)) C hG kX5 23 2 rfl (by decide) rfl q322 rfl dX10_dropMove_14 ?_
  refine lv_iload_n hx hb dX10_dropMove_17 rfl (lv_at hl 2 rfl) ?_
  refine gL_i (v := (ww 25 x1.toNatClampNeg)) C hG 25 rfl (inb_in b1) rfl dX10_dropMove_18 ?_
  obtain ⟨x3_3, ex3_3, h⟩ := thn_some h
  refine g_int ex3_3 ?_
  refine lv_istore_n (lv' := [(3, .int x3_3), (2, .int x2_2), (0, .ref (aw 0)), (1, .int x1)]) hx hb dX10_dropMove_19 rfl hl (by decide) rfl (fun ls hl => ?_)
  refine lv_aload_n hx hb dX10_dropMove_20 rfl (lv_at hl 2 rfl) ?_
  refine gL_f (v := .ref (aw 23)) C hG kX10 0 4 rfl (by decide) rfl q362 rfl dX10_dropMove_21 ?_
  refine lv_iload_n hx hb dX10_dropMove_24 rfl (lv_at hl 3 rfl) ?_
  obtain ⟨r4, hcr4, h⟩ := bnd_some h
  refine gF_i (ws' := (rW E aw ww ++ [])) C hG (pin pnil) (List.Perm.symm (pin pnil)) (gR_N (As := [.int x1]) (rest := []) C hz hl.1 hG (pin pnil) (c_X5_holdsSlots l E aw N x1 ww hcr4 H.size) okX5_holdsSlots q888 23 rfl rfl rfl (Nat.le_of_ble_eq_true rfl) (by omega) ⟨Nat.le_refl _, Nat.le_refl _⟩ dX10_dropMove_25) (fun H locs z5 hG => ?_)
  refine lv_if_eq (tgt := 39) hx hb dX10_dropMove_28 (by decide) (fun c28 => ?_) (fun c28 => ?_)
  · replace h := it c28 h
    exact K39 x2_2 x3_3 ww _ _ _ hG (lv_sub hl [2, 3, 1, 0] rfl) h
  · replace h := ie c28 h
    refine lv_aload_n hx hb dX10_dropMove_31 rfl (lv_at hl 2 rfl) ?_
    refine gL_f (v := .ref (aw 15)) C hG kX10 0 2 rfl (by decide) rfl q358 rfl dX10_dropMove_32 ?_
    refine lv_iload_n hx hb dX10_dropMove_35 rfl (lv_at hl 1 rfl) ?_
    obtain ⟨r6, hcr6, h⟩ := bnd_some h
    refine gF_v (ws' := (rW E aw r6 ++ [])) C hG (pin pnil) (List.Perm.symm (pin pnil)) (gR_N (As := [.int x2_2]) (rest := []) C hz hl.1 hG (pin pnil) (c_X1_leaveSlots l E aw N x2_2 ww hcr6 H.size) okX1_leaveSlots q892 15 rfl rfl rfl (Nat.le_of_ble_eq_true rfl) (by omega) ⟨Nat.le_refl _, Nat.le_refl _⟩ dX10_dropMove_36) (fun H locs hG => ?_)
    exact K39 x2_2 x3_3 r6 _ _ _ hG (lv_sub hl [2, 3, 1, 0] rfl) h
set_option maxHeartbeats 4000000 in
set_option maxRecDepth 100000 in
theorem c_X10_begin (l : Launch) (E : GE) (aw : Nat → Nat) (N : Nat) (x1 : Int32) (ww : RS) {res : Int32 × RS} (h : fX10_begin N x1 ww = some res) : gMi l E yX10_begin cX10_begin 3 .boolean 3 0 0 [.ref (aw 0), .int x1] (rW E aw ww ++ []) (rW E aw res.2 ++ []) res.1 := by
  refine gMi_of (own := RX10) (by decide +kernel) rfl (Nat.le_of_ble_eq_true rfl) ?_
  intro p e s m args below meth c A ls Q H locs C hz hl hG hret
  have hx := C.1.1
  have hb := C.1.2.1
  have hts := C.1.2.2.2.2
  have hown := C.1.2.2.2.1
  have hl : lv_has ls 3 [(0, .ref (aw 0)), (1, .int x1)] := hl
  replace hret : ∀ (r0 : Int32) (ww0 : RS) (H : Heap) (locs : List Loc) (pc : Nat) (ls' : Array Slot), some (r0, ww0) = some res → narrow .boolean (.int r0) = .int r0 → gG E A s.heap (rW E aw ww0 ++ []) H locs → decode cX10_begin pc = .ok (.ireturn, 1) → W p l e (rmD 3 0 0) s m args below meth c H locs 0 0 Q (F0 m pc ls' [.int r0]) := by
    intro r0 ww0 H locs pc ls' e0 hn; cases e0; exact hret H locs pc ls' hn
  have K48 : ∀  (x2 : Int32) (ww : RS) (H : Heap) (locs : List Loc) (ls : Array Slot), gG E A s.heap (rW E aw ww ++ []) H locs → lv_has ls 3 [(0, .ref (aw 0)), (1, .int x1), (2, .int x2)] → fX10_begin_L48 N x1 x2 ww = some res → W p l e (rmD 3 0 0) s m args below meth c H locs 0 0 Q (F0 m 48 ls []) := by
    intro x2 ww H locs ls hG hl h
    rw [fX10_begin_L48] at h
    refine lv_aload_n hx hb dX10_begin_48 rfl (lv_at hl 0 rfl) ?_
    refine gL_f (v := .ref (aw 23)) C hG kX10 0 4 rfl (by decide) rfl q362 rfl dX10_begin_49 ?_
    refine gL_fN (v := .ref (aw 26)) C hG kX5 23 3 rfl (by decide) rfl q325 rfl dX10_begin_52 ?_
    refine lv_iload_n hx hb dX10_begin_55 rfl (lv_at hl 1 rfl) ?_
    refine lv_iconst (v := 1) hx hb dX10_begin_56 (by decide) ?_
    obtain ⟨b1, h⟩ := ck_some h
    obtain ⟨ww_2, eww_2, h⟩ := thn_some h
    refine gS_i (x := 1) (ws' := (rW E aw ww_2 ++ [])) C hG 26 rfl (inb_in b1) rfl dX10_begin_57 (by rw [eww_2]; rfl) (fun H locs hG => ?_)
    refine lv_aload_n hx hb dX10_begin_58 rfl (lv_at hl 0 rfl) ?_
    refine lv_iconst (v := 0) hx hb dX10_begin_59 (by decide) ?_
    refine lv_iload_n hx hb dX10_begin_60 rfl (lv_at hl 2 rfl) ?_
    refine lv_aload_n hx hb dX10_begin_61 rfl (lv_at hl 0 rfl) ?_
    refine gL_f (v := .ref (aw 23)) C hG kX10 0 4 rfl (by decide) rfl q362 rfl dX10_begin_62 ?_
    refine gL_fN (v := .ref (aw 25)) C hG kX5 23 2 rfl (by decide) rfl q322 rfl dX10_begin_65 ?_
    refine lv_iload_n hx hb dX10_begin_68 rfl (lv_at hl 1 rfl) ?_
    refine gL_i (v := (ww_2 25 x1.toNatClampNeg)) C hG 25 rfl (inb_in b1) rfl dX10_begin_69 ?_
    obtain ⟨r3, hcr3, h⟩ := bnd_some h
    refine gF_v (ws' := (rW E aw r3 ++ [])) C hG (pin pnil) (List.Perm.symm (pin pnil)) (gR_V (As := [.int 0, .int x2, .int (ww_2 25 x1.toNatClampNeg)]) (rest := []) C hz hl.1 hG (pin pnil) (c_X10_writeDown l E aw N 0 x2 (ww_2 25 x1.toNatClampNeg) ww_2 hcr3 H.size) okX10_writeDown q902 0 rfl rfl rfl (Nat.le_of_ble_eq_true rfl) (by omega) ⟨Nat.le_refl _, Nat.le_refl _⟩ dX10_begin_70) (fun H locs hG => ?_)
    refine lv_iconst (v := 1) hx hb dX10_begin_73 (by decide) ?_
    exact hret _ _ _ _ _ _ h rfl hG dX10_begin_74
  rw [fX10_begin] at h
  refine lv_aload_n hx hb dX10_begin_0 rfl (lv_at hl 0 rfl) ?_
  refine gL_f (v := .ref (aw 23)) C hG kX10 0 4 rfl (by decide) rfl q362 rfl dX10_begin_1 ?_
  refine gL_fN (v := .ref (aw 24)) C hG kX5 23 1 rfl (by decide) rfl q319 rfl dX10_begin_4 ?_
  refine lv_iload_n hx hb dX10_begin_7 rfl (lv_at hl 1 rfl) ?_
  obtain ⟨b1, h⟩ := ck_some h
  refine gL_i (v := (ww 24 x1.toNatClampNeg)) C hG 24 rfl (inb_in b1) rfl dX10_begin_8 ?_
  obtain ⟨x2_2, ex2_2, h⟩ := thn_some h
  refine g_int ex2_2 ?_
  refine lv_istore_n (lv' := [(2, .int x2_2), (0, .ref (aw 0)), (1, .int x1)]) hx hb dX10_begin_9 rfl hl (by decide) rfl (fun ls hl => ?_)
  refine lv_aload_n hx hb dX10_begin_10 rfl (lv_at hl 1 rfl) ?_
  refine gL_f (v := .ref (aw 23)) C hG kX10 0 4 rfl (by decide) rfl q362 rfl dX10_begin_11 ?_
  refine gL_fN (v := .ref (aw 25)) C hG kX5 23 2 rfl (by decide) rfl q322 rfl dX10_begin_14 ?_
  refine lv_iload_n hx hb dX10_begin_17 rfl (lv_at hl 2 rfl) ?_
  refine gL_i (v := (ww 25 x1.toNatClampNeg)) C hG 25 rfl (inb_in b1) rfl dX10_begin_18 ?_
  refine lv_iconst (v := 1) hx hb dX10_begin_19 (by decide) ?_
  refine lv_icmp_ne (tgt := 48) hx hb dX10_begin_20 (by decide) (fun c20 => ?_) (fun c20 => ?_)
  · replace h := ie c20 h
    exact K48 x2_2 ww _ _ _ hG (lv_sub hl [1, 2, 0] rfl) h
  · replace h := it c20 h
    refine lv_aload_n hx hb dX10_begin_23 rfl (lv_at hl 1 rfl) ?_
    refine gL_f (v := .ref (aw 15)) C hG kX10 0 2 rfl (by decide) rfl q358 rfl dX10_begin_24 ?_
    obtain ⟨r3, hcr3, h⟩ := bnd_some h
    refine gF_i (ws' := (rW E aw ww ++ [])) C hG (pin pnil) (List.Perm.symm (pin pnil)) (gR_N (As := []) (rest := []) C hz hl.1 hG (pin pnil) (c_X1_freeSlots l E aw N ww hcr3 H.size) okX1_freeSlots q926 15 rfl rfl rfl (Nat.le_of_ble_eq_true rfl) (by omega) ⟨Nat.le_refl _, Nat.le_refl _⟩ dX10_begin_27) (fun H locs _ hG => ?_)
    refine gT_zN C hG q850 dX10_begin_30 ?_
    refine lv_iload_n hx hb dX10_begin_33 rfl (lv_at hl 0 rfl) ?_
    obtain ⟨b4, h⟩ := ck_some h
    refine gT_zi (v := (sizeT x2_2.toNatClampNeg)) C hG (inb_in b4) rfl dX10_begin_34 ?_
    refine lv_icmp_ge (tgt := 40) hx hb dX10_begin_35 (by decide) (fun c35 => ?_) (fun c35 => ?_)
    · replace h := it c35 h
      refine lv_aload_n hx hb dX10_begin_40 rfl (lv_at hl 1 rfl) ?_
      refine gL_f (v := .ref (aw 15)) C hG kX10 0 2 rfl (by decide) rfl q358 rfl dX10_begin_41 ?_
      refine lv_iload_n hx hb dX10_begin_44 rfl (lv_at hl 0 rfl) ?_
      obtain ⟨r5, hcr5, h⟩ := bnd_some h
      refine gF_v (ws' := (rW E aw r5 ++ [])) C hG (pin pnil) (List.Perm.symm (pin pnil)) (gR_N (As := [.int x2_2]) (rest := []) C hz hl.1 hG (pin pnil) (c_X1_takeSlots l E aw N x2_2 ww hcr5 H.size) okX1_takeSlots q930 15 rfl rfl rfl (Nat.le_of_ble_eq_true rfl) (by omega) ⟨Nat.le_refl _, Nat.le_refl _⟩ dX10_begin_45) (fun H locs hG => ?_)
      exact K48 x2_2 r5 _ _ _ hG (lv_sub hl [1, 2, 0] rfl) h
    · replace h := ie c35 h
      refine lv_iconst (v := 0) hx hb dX10_begin_38 (by decide) ?_
      exact hret _ _ _ _ _ _ h rfl hG dX10_begin_39
set_option maxHeartbeats 4000000 in
set_option maxRecDepth 100000 in
theorem c_X10_blocksToCopy (l : Launch) (E : GE) (aw : Nat → Nat) (N : Nat) (x1 : Int32) (ww : RS) {res : Int32} (h : fX10_blocksToCopy N x1 ww = some res) : gMi l E yX10_blocksToCopy cX10_blocksToCopy 3 .int 2 0 0 [.ref (aw 0), .int x1] (rW E aw ww ++ []) (rW E aw ww ++ []) res := by
  refine gMi_of (own := RX10) (by decide +kernel) rfl (Nat.le_of_ble_eq_true rfl) ?_
  intro p e s m args below meth c A ls Q H locs C hz hl hG hret
  have hx := C.1.1
  have hb := C.1.2.1
  have hts := C.1.2.2.2.2
  have hown := C.1.2.2.2.1
  have hl : lv_has ls 3 [(0, .ref (aw 0)), (1, .int x1)] := hl
  replace hret : ∀ (r0 : Int32) (H : Heap) (locs : List Loc) (pc : Nat) (ls' : Array Slot), some r0 = some res → narrow .int (.int r0) = .int r0 → gG E A s.heap (rW E aw ww ++ []) H locs → decode cX10_blocksToCopy pc = .ok (.ireturn, 1) → W p l e (rmD 2 0 0) s m args below meth c H locs 0 0 Q (F0 m pc ls' [.int r0]) := by
    intro r0 H locs pc ls' e0 hn; cases e0; exact hret H locs pc ls' hn
  rw [fX10_blocksToCopy] at h
  refine lv_aload_n hx hb dX10_blocksToCopy_0 rfl (lv_at hl 0 rfl) ?_
  refine gL_f (v := .ref (aw 23)) C hG kX10 0 4 rfl (by decide) rfl q362 rfl dX10_blocksToCopy_1 ?_
  refine gL_fN (v := .ref (aw 24)) C hG kX5 23 1 rfl (by decide) rfl q319 rfl dX10_blocksToCopy_4 ?_
  refine lv_iload_n hx hb dX10_blocksToCopy_7 rfl (lv_at hl 1 rfl) ?_
  obtain ⟨b1, h⟩ := ck_some h
  refine gL_i (v := (ww 24 x1.toNatClampNeg)) C hG 24 rfl (inb_in b1) rfl dX10_blocksToCopy_8 ?_
  obtain ⟨x2_2, ex2_2, h⟩ := thn_some h
  refine g_int ex2_2 ?_
  refine lv_istore_n (lv' := [(2, .int x2_2), (0, .ref (aw 0)), (1, .int x1)]) hx hb dX10_blocksToCopy_9 rfl hl (by decide) rfl (fun ls hl => ?_)
  refine lv_aload_n hx hb dX10_blocksToCopy_10 rfl (lv_at hl 1 rfl) ?_
  refine gL_f (v := .ref (aw 23)) C hG kX10 0 4 rfl (by decide) rfl q362 rfl dX10_blocksToCopy_11 ?_
  refine gL_fN (v := .ref (aw 25)) C hG kX5 23 2 rfl (by decide) rfl q322 rfl dX10_blocksToCopy_14 ?_
  refine lv_iload_n hx hb dX10_blocksToCopy_17 rfl (lv_at hl 2 rfl) ?_
  refine gL_i (v := (ww 25 x1.toNatClampNeg)) C hG 25 rfl (inb_in b1) rfl dX10_blocksToCopy_18 ?_
  refine lv_iconst (v := 1) hx hb dX10_blocksToCopy_19 (by decide) ?_
  refine lv_icmp_ne (tgt := 40) hx hb dX10_blocksToCopy_20 (by decide) (fun c20 => ?_) (fun c20 => ?_)
  · replace h := ie c20 h
    refine lv_aload_n hx hb dX10_blocksToCopy_40 rfl (lv_at hl 1 rfl) ?_
    refine gL_f (v := .ref (aw 2)) C hG kX10 0 1 rfl (by decide) rfl q355 rfl dX10_blocksToCopy_41 ?_
    refine gL_fN (v := .ref (aw 6)) C hG kX2 2 3 rfl (by decide) rfl q222 rfl dX10_blocksToCopy_44 ?_
    refine lv_iload_n hx hb dX10_blocksToCopy_47 rfl (lv_at hl 0 rfl) ?_
    obtain ⟨b3, h⟩ := ck_some h
    refine gL_i (v := (ww 6 x2_2.toNatClampNeg)) C hG 6 rfl (inb_in b3) rfl dX10_blocksToCopy_48 ?_
    exact hret _ _ _ _ _ h rfl hG dX10_blocksToCopy_49
  · replace h := it c20 h
    refine lv_iload_n hx hb dX10_blocksToCopy_23 rfl (lv_at hl 0 rfl) ?_
    obtain ⟨r4, hcr4, h⟩ := bnd_some h
    refine gF_i (ws' := (rW E aw ww ++ [])) C hG pst pst.symm (gR_T (As := [.int x2_2]) (rest := []) C hz hl.1 hG pst (c_X2_allBlocks l E N x2_2 hcr4 H.size) okX2_allBlocks q942 rfl (Nat.le_of_ble_eq_true rfl) (by omega) ⟨Nat.le_refl _, Nat.le_refl _⟩ dX10_blocksToCopy_24) (fun H locs _ hG => ?_)
    refine lv_aload_n hx hb dX10_blocksToCopy_27 rfl (lv_at hl 1 rfl) ?_
    refine gL_f (v := .ref (aw 23)) C hG kX10 0 4 rfl (by decide) rfl q362 rfl dX10_blocksToCopy_28 ?_
    refine gL_fN (v := .ref (aw 27)) C hG kX5 23 4 rfl (by decide) rfl q327 rfl dX10_blocksToCopy_31 ?_
    refine lv_iload_n hx hb dX10_blocksToCopy_34 rfl (lv_at hl 2 rfl) ?_
    refine gL_i (v := (ww 27 x1.toNatClampNeg)) C hG 27 rfl (inb_in b1) rfl dX10_blocksToCopy_35 ?_
    refine lv_iconst (v := (-1)) hx hb dX10_blocksToCopy_36 (by decide) ?_
    refine lv_ixor hx hb dX10_blocksToCopy_37 ?_
    refine lv_iand hx hb dX10_blocksToCopy_38 ?_
    exact hret _ _ _ _ _ h rfl hG dX10_blocksToCopy_39
set_option maxHeartbeats 4000000 in
set_option maxRecDepth 100000 in
theorem c_X10_copyBlock (l : Launch) (E : GE) (aw : Nat → Nat) (N : Nat) (x1 : Int32) (x2 : Int32) (x3 : Int32) (ww : RS) {res : RS} (h : fX10_copyBlock N x1 x2 x3 ww = some res) : gMv l E yX10_copyBlock cX10_copyBlock 5 2 0 0 [.ref (aw 0), .int x1, .int x2, .int x3] (rW E aw ww ++ []) (rW E aw res ++ []) := by
  refine gMv_of (own := RX10) (by decide +kernel) rfl (Nat.le_of_ble_eq_true rfl) ?_
  intro p e s m args below meth c A ls Q H locs C hz hl hG hin hret
  have hx := C.1.1
  have hb := C.1.2.1
  have hts := C.1.2.2.2.2
  have hown := C.1.2.2.2.1
  have hl : lv_has ls 5 [(0, .ref (aw 0)), (1, .int x1), (2, .int x2), (3, .int x3)] := hl
  replace hret : ∀ (ww0 : RS) (H : Heap) (locs : List Loc) (pc : Nat) (ls' : Array Slot), some ww0 = some res → gG E A s.heap (rW E aw ww0 ++ []) H locs → decode cX10_copyBlock pc = .ok (.return_, 1) → W p l e (rmD 2 0 0) s m args below meth c H locs 0 0 Q (F0 m pc ls' []) := by
    intro ww0 H locs pc ls' e0; cases e0; exact hret H locs pc ls'
  rw [fX10_copyBlock] at h
  refine gT_sN C hG q807 dX10_copyBlock_0 ?_
  refine lv_iload_n hx hb dX10_copyBlock_3 rfl (lv_at hl 2 rfl) ?_
  obtain ⟨b1, h⟩ := ck_some h
  refine gT_si (v := (startT x2.toNatClampNeg)) C hG (inb_in b1) rfl dX10_copyBlock_4 ?_
  refine lv_iload_n hx hb dX10_copyBlock_5 rfl (lv_at hl 3 rfl) ?_
  refine lv_iadd hx hb dX10_copyBlock_6 ?_
  obtain ⟨x4_2, ex4_2, h⟩ := thn_some h
  refine g_int ex4_2 ?_
  refine lv_istore (lv' := [(4, .int x4_2), (0, .ref (aw 0)), (1, .int x1), (2, .int x2), (3, .int x3)]) hx hb dX10_copyBlock_7 hl (by decide) rfl (fun ls hl => ?_)
  refine lv_aload_n hx hb dX10_copyBlock_9 rfl (lv_at hl 1 rfl) ?_
  refine gL_f (v := .ref (aw 23)) C hG kX10 0 4 rfl (by decide) rfl q362 rfl dX10_copyBlock_10 ?_
  refine gL_fN (v := .ref (aw 25)) C hG kX5 23 2 rfl (by decide) rfl q322 rfl dX10_copyBlock_13 ?_
  refine lv_iload_n hx hb dX10_copyBlock_16 rfl (lv_at hl 2 rfl) ?_
  obtain ⟨b3, h⟩ := ck_some h
  refine gL_i (v := (ww 25 x1.toNatClampNeg)) C hG 25 rfl (inb_in b3) rfl dX10_copyBlock_17 ?_
  refine lv_iconst (v := 1) hx hb dX10_copyBlock_18 (by decide) ?_
  refine lv_icmp_ne (tgt := 59) hx hb dX10_copyBlock_19 (by decide) (fun c19 => ?_) (fun c19 => ?_)
  · replace h := ie c19 h
    refine lv_aload_n hx hb dX10_copyBlock_59 rfl (lv_at hl 1 rfl) ?_
    refine gL_f (v := .ref (aw 15)) C hG kX10 0 2 rfl (by decide) rfl q358 rfl dX10_copyBlock_60 ?_
    refine gL_fN (v := .ref (aw 16)) C hG kX1 15 0 rfl (by decide) rfl q273 rfl dX10_copyBlock_63 ?_
    refine lv_iload hx hb dX10_copyBlock_66 (lv_at hl 0 rfl) ?_
    refine lv_aload_n hx hb dX10_copyBlock_68 rfl (lv_at hl 1 rfl) ?_
    refine gL_f (v := .ref (aw 15)) C hG kX10 0 2 rfl (by decide) rfl q358 rfl dX10_copyBlock_69 ?_
    refine lv_iload hx hb dX10_copyBlock_72 (lv_at hl 0 rfl) ?_
    obtain ⟨r4, hcr4, h⟩ := bnd_some h
    refine gF_i (ws' := (rW E aw ww ++ [])) C hG (pin pnil) (List.Perm.symm (pin pnil)) (gR_N (As := [.int x4_2]) (rest := [.int x4_2, .ref (aw 16)]) C hz hl.1 hG (pin pnil) (c_X1_fastAt l E aw N x4_2 ww hcr4 H.size) okX1_fastAt q822 15 rfl rfl rfl (Nat.le_of_ble_eq_true rfl) (by omega) ⟨Nat.le_refl _, Nat.le_refl _⟩ dX10_copyBlock_74) (fun H locs _ hG => ?_)
    obtain ⟨b5, h⟩ := ck_some h
    obtain ⟨ww_6, eww_6, h⟩ := thn_some h
    refine gS_i (x := r4) (ws' := (rW E aw ww_6 ++ [])) C hG 16 rfl (inb_in b5) rfl dX10_copyBlock_77 (by rw [eww_6]; rfl) (fun H locs hG => ?_)
    refine lv_aload_n hx hb dX10_copyBlock_78 rfl (lv_at hl 1 rfl) ?_
    refine gL_f (v := .ref (aw 2)) C hG kX10 0 1 rfl (by decide) rfl q355 rfl dX10_copyBlock_79 ?_
    refine gL_fN (v := .ref (aw 6)) C hG kX2 2 3 rfl (by decide) rfl q222 rfl dX10_copyBlock_82 ?_
    refine lv_iload_n hx hb dX10_copyBlock_85 rfl (lv_at hl 3 rfl) ?_
    refine lv_dup2_11 hx hb dX10_copyBlock_86 rfl rfl ?_
    refine gL_i (v := (ww_6 6 x2.toNatClampNeg)) C hG 6 rfl (inb_in b1) rfl dX10_copyBlock_87 ?_
    refine lv_iconst (v := 1) hx hb dX10_copyBlock_88 (by decide) ?_
    refine lv_iload_n hx hb dX10_copyBlock_89 rfl (lv_at hl 4 rfl) ?_
    refine lv_ishl hx hb dX10_copyBlock_90 ?_
    refine lv_iconst (v := (-1)) hx hb dX10_copyBlock_91 (by decide) ?_
    refine lv_ixor hx hb dX10_copyBlock_92 ?_
    refine lv_iand hx hb dX10_copyBlock_93 ?_
    obtain ⟨ww_7, eww_7, h⟩ := thn_some h
    refine gS_i (x := ((ww_6 6 x2.toNatClampNeg) &&& ((1 <<< ((x3 : Int32) &&& 31)) ^^^ (-1)))) (ws' := (rW E aw ww_7 ++ [])) C hG 6 rfl (inb_in b1) rfl dX10_copyBlock_94 (by rw [eww_7]; rfl) (fun H locs hG => ?_)
    exact hret _ _ _ _ _ h hG dX10_copyBlock_95
  · replace h := it c19 h
    refine lv_aload_n hx hb dX10_copyBlock_22 rfl (lv_at hl 1 rfl) ?_
    refine gL_f (v := .ref (aw 15)) C hG kX10 0 2 rfl (by decide) rfl q358 rfl dX10_copyBlock_23 ?_
    refine lv_iload hx hb dX10_copyBlock_26 (lv_at hl 0 rfl) ?_
    refine lv_aload_n hx hb dX10_copyBlock_28 rfl (lv_at hl 1 rfl) ?_
    refine gL_f (v := .ref (aw 15)) C hG kX10 0 2 rfl (by decide) rfl q358 rfl dX10_copyBlock_29 ?_
    refine gL_fN (v := .ref (aw 16)) C hG kX1 15 0 rfl (by decide) rfl q273 rfl dX10_copyBlock_32 ?_
    refine lv_iload hx hb dX10_copyBlock_35 (lv_at hl 0 rfl) ?_
    obtain ⟨b8, h⟩ := ck_some h
    refine gL_i (v := (ww 16 x4_2.toNatClampNeg)) C hG 16 rfl (inb_in b8) rfl dX10_copyBlock_37 ?_
    obtain ⟨r9, hcr9, h⟩ := bnd_some h
    refine gF_v (ws' := (rW E aw r9 ++ [])) C hG (pin pnil) (List.Perm.symm (pin pnil)) (gR_N (As := [.int x4_2, .int (ww 16 x4_2.toNatClampNeg)]) (rest := []) C hz hl.1 hG (pin pnil) (c_X1_putFast l E aw N x4_2 (ww 16 x4_2.toNatClampNeg) ww hcr9 H.size) okX1_putFast q834 15 rfl rfl rfl (Nat.le_of_ble_eq_true rfl) (by omega) ⟨Nat.le_refl _, Nat.le_refl _⟩ dX10_copyBlock_38) (fun H locs hG => ?_)
    refine lv_aload_n hx hb dX10_copyBlock_41 rfl (lv_at hl 1 rfl) ?_
    refine gL_f (v := .ref (aw 23)) C hG kX10 0 4 rfl (by decide) rfl q362 rfl dX10_copyBlock_42 ?_
    refine gL_fN (v := .ref (aw 27)) C hG kX5 23 4 rfl (by decide) rfl q327 rfl dX10_copyBlock_45 ?_
    refine lv_iload_n hx hb dX10_copyBlock_48 rfl (lv_at hl 2 rfl) ?_
    refine lv_dup2_11 hx hb dX10_copyBlock_49 rfl rfl ?_
    refine gL_i (v := (r9 27 x1.toNatClampNeg)) C hG 27 rfl (inb_in b3) rfl dX10_copyBlock_50 ?_
    refine lv_iconst (v := 1) hx hb dX10_copyBlock_51 (by decide) ?_
    refine lv_iload_n hx hb dX10_copyBlock_52 rfl (lv_at hl 4 rfl) ?_
    refine lv_ishl hx hb dX10_copyBlock_53 ?_
    refine lv_ior hx hb dX10_copyBlock_54 ?_
    obtain ⟨ww_10, eww_10, h⟩ := thn_some h
    refine gS_i (x := ((r9 27 x1.toNatClampNeg) ||| (1 <<< ((x3 : Int32) &&& 31)))) (ws' := (rW E aw ww_10 ++ [])) C hG 27 rfl (inb_in b3) rfl dX10_copyBlock_55 (by rw [eww_10]; rfl) (fun H locs hG => ?_)
    refine lv_goto (tgt := 95) hx hb dX10_copyBlock_56 (by decide) ?_
    exact hret _ _ _ _ _ h hG dX10_copyBlock_95
set_option maxHeartbeats 4000000 in
set_option maxRecDepth 100000 in
theorem c_X10_copyBlocks (l : Launch) (E : GE) (aw : Nat → Nat) (N : Nat) (x1 : Int32) (x2 : Int32) (ww : RS) {res : Int32 × RS} (h : fX10_copyBlocks N x1 x2 ww = some res) : gMi l E yX10_copyBlocks cX10_copyBlocks 7 .int 3 0 0 [.ref (aw 0), .int x1, .int x2] (rW E aw ww ++ []) (rW E aw res.2 ++ []) res.1 := by
  refine gMi_of (own := RX10) (by decide +kernel) rfl (Nat.le_of_ble_eq_true rfl) ?_
  intro p e s m args below meth c A ls Q H locs C hz hl hG hret
  have hx := C.1.1
  have hb := C.1.2.1
  have hts := C.1.2.2.2.2
  have hown := C.1.2.2.2.1
  have hl : lv_has ls 7 [(0, .ref (aw 0)), (1, .int x1), (2, .int x2)] := hl
  replace hret : ∀ (r0 : Int32) (ww0 : RS) (H : Heap) (locs : List Loc) (pc : Nat) (ls' : Array Slot), some (r0, ww0) = some res → narrow .int (.int r0) = .int r0 → gG E A s.heap (rW E aw ww0 ++ []) H locs → decode cX10_copyBlocks pc = .ok (.ireturn, 1) → W p l e (rmD 3 0 0) s m args below meth c H locs 0 0 Q (F0 m pc ls' [.int r0]) := by
    intro r0 ww0 H locs pc ls' e0 hn; cases e0; exact hret H locs pc ls' hn
  have K61 : ∀ (k23 : (Int32 → Int32 → Int32 → Int32 → RS → Option (Int32 × RS))) (hk23 : ∀  (x3 : Int32) (x4 : Int32) (x5 : Int32) (x6 : Int32) (ww : RS) (H : Heap) (locs : List Loc) (ls : Array Slot), gG E A s.heap (rW E aw ww ++ []) H locs → lv_has ls 7 [(0, .ref (aw 0)), (1, .int x1), (2, .int x2), (3, .int x3), (4, .int x4), (5, .int x5), (6, .int x6)] → k23 x3 x4 x5 x6 ww = some res → W p l e (rmD 3 0 0) s m args below meth c H locs 0 0 Q (F0 m 23 ls [])), ∀  (x3 : Int32) (x4 : Int32) (x5 : Int32) (x6 : Int32) (ww : RS) (H : Heap) (locs : List Loc) (ls : Array Slot), gG E A s.heap (rW E aw ww ++ []) H locs → lv_has ls 7 [(0, .ref (aw 0)), (1, .int x1), (2, .int x2), (3, .int x3), (4, .int x4), (5, .int x5), (6, .int x6)] → fX10_copyBlocks_L61 N x1 x2 k23 x3 x4 x5 x6 ww = some res → W p l e (rmD 3 0 0) s m args below meth c H locs 0 0 Q (F0 m 61 ls []) := by
    intro k23 hk23 x3 x4 x5 x6 ww H locs ls hG hl h
    rw [fX10_copyBlocks_L61] at h
    refine lv_iinc (v := (x6 + 1)) (lv' := [(6, .int (x6 + 1)), (0, .ref (aw 0)), (1, .int x1), (2, .int x2), (3, .int x3), (4, .int x4), (5, .int x5)]) hx hb dX10_copyBlocks_61 hl (k := 6) rfl (congrArg (x6 + ·) (by decide : Int32.ofInt 1 = 1)) (by decide) rfl (fun ls hl => ?_)
    refine lv_goto (tgt := 23) hx hb dX10_copyBlocks_64 (by decide) ?_
    exact hk23 x3 x4 x5 (x6 + 1) ww _ _ _ hG (lv_sub hl [1, 2, 3, 4, 5, 6, 0] rfl) h
  have K67 : ∀  (x5 : Int32) (ww : RS) (H : Heap) (locs : List Loc) (ls : Array Slot), gG E A s.heap (rW E aw ww ++ []) H locs → lv_has ls 7 [(0, .ref (aw 0)), (5, .int x5)] → fX10_copyBlocks_L67 N x1 x2 x5 ww = some res → W p l e (rmD 3 0 0) s m args below meth c H locs 0 0 Q (F0 m 67 ls []) := by
    intro x5 ww H locs ls hG hl h
    rw [fX10_copyBlocks_L67] at h
    refine lv_aload_n hx hb dX10_copyBlocks_67 rfl (lv_at hl 0 rfl) ?_
    refine gL_f (v := .ref (aw 1)) C hG kX10 0 0 rfl (by decide) rfl q352 rfl dX10_copyBlocks_68 ?_
    refine lv_bipush (v := 10) hx hb dX10_copyBlocks_71 (by decide) ?_
    refine lv_dup2_11 hx hb dX10_copyBlocks_73 rfl rfl ?_
    refine gL_i (v := (ww 1 10)) C hG 1 rfl (vp_in_nI (n := 10) (by decide) (by decide)) (congrArg (ww 1) (nI_clamp (n := 10) (by decide))) dX10_copyBlocks_74 ?_
    refine lv_iload hx hb dX10_copyBlocks_75 (lv_at hl 1 rfl) ?_
    refine lv_iadd hx hb dX10_copyBlocks_77 ?_
    obtain ⟨ww_1, eww_1, h⟩ := thn_some h
    refine gS_i (x := ((ww 1 10) + x5)) (ws' := (rW E aw ww_1 ++ [])) C hG 1 rfl (vp_in_nI (n := 10) (by decide) (by decide)) (nI_clamp (n := 10) (by decide)) dX10_copyBlocks_78 (by rw [eww_1]; rfl) (fun H locs hG => ?_)
    refine lv_aload_n hx hb dX10_copyBlocks_79 rfl (lv_at hl 0 rfl) ?_
    refine gL_f (v := .ref (aw 1)) C hG kX10 0 0 rfl (by decide) rfl q352 rfl dX10_copyBlocks_80 ?_
    refine lv_iconst (v := 3) hx hb dX10_copyBlocks_83 (by decide) ?_
    refine lv_dup2_11 hx hb dX10_copyBlocks_84 rfl rfl ?_
    refine gL_i (v := (ww_1 1 3)) C hG 1 rfl (vp_in_nI (n := 3) (by decide) (by decide)) (congrArg (ww_1 1) (nI_clamp (n := 3) (by decide))) dX10_copyBlocks_85 ?_
    refine lv_bipush (v := 9) hx hb dX10_copyBlocks_86 (by decide) ?_
    refine lv_iload hx hb dX10_copyBlocks_88 (lv_at hl 1 rfl) ?_
    refine lv_imul hx hb dX10_copyBlocks_90 ?_
    refine lv_iadd hx hb dX10_copyBlocks_91 ?_
    obtain ⟨ww_2, eww_2, h⟩ := thn_some h
    refine gS_i (x := ((ww_1 1 3) + (9 * x5))) (ws' := (rW E aw ww_2 ++ [])) C hG 1 rfl (vp_in_nI (n := 3) (by decide) (by decide)) (nI_clamp (n := 3) (by decide)) dX10_copyBlocks_92 (by rw [eww_2]; rfl) (fun H locs hG => ?_)
    refine lv_iload hx hb dX10_copyBlocks_93 (lv_at hl 1 rfl) ?_
    exact hret _ _ _ _ _ _ h rfl hG dX10_copyBlocks_95
  have K23 : ∀ (k : Nat), ∀  (x3 : Int32) (x4 : Int32) (x5 : Int32) (x6 : Int32) (ww : RS) (H : Heap) (locs : List Loc) (ls : Array Slot), gG E A s.heap (rW E aw ww ++ []) H locs → lv_has ls 7 [(0, .ref (aw 0)), (1, .int x1), (2, .int x2), (3, .int x3), (4, .int x4), (5, .int x5), (6, .int x6)] → fX10_copyBlocks_L23 N x1 x2 k x3 x4 x5 x6 ww = some res → W p l e (rmD 3 0 0) s m args below meth c H locs 0 0 Q (F0 m 23 ls []) := by
    intro k
    induction k with
    | zero => intro x3 x4 x5 x6 ww H locs ls hG hl h; exact absurd (show none = _ from h) (by simp)
    | succ k ih =>
      intro x3 x4 x5 x6 ww H locs ls hG hl h
      rw [fX10_copyBlocks_L23] at h
      refine lv_iload hx hb dX10_copyBlocks_23 (lv_at hl 6 rfl) ?_
      refine gT_zN C hG q850 dX10_copyBlocks_25 ?_
      refine lv_iload_n hx hb dX10_copyBlocks_28 rfl (lv_at hl 3 rfl) ?_
      obtain ⟨b1, h⟩ := ck_some h
      refine gT_zi (v := (sizeT x3.toNatClampNeg)) C hG (inb_in b1) rfl dX10_copyBlocks_29 ?_
      refine lv_icmp_ge (tgt := 67) hx hb dX10_copyBlocks_30 (by decide) (fun c30 => ?_) (fun c30 => ?_)
      · replace h := it c30 h
        exact K67 x5 ww _ _ _ hG (lv_sub hl [0, 5] rfl) h
      · replace h := ie c30 h
        refine lv_iload hx hb dX10_copyBlocks_33 (lv_at hl 5 rfl) ?_
        refine lv_iload_n hx hb dX10_copyBlocks_35 rfl (lv_at hl 2 rfl) ?_
        refine lv_icmp_ge (tgt := 67) hx hb dX10_copyBlocks_36 (by decide) (fun c36 => ?_) (fun c36 => ?_)
        · replace h := it c36 h
          exact K67 x5 ww _ _ _ hG (lv_sub hl [0, 5] rfl) h
        · replace h := ie c36 h
          refine lv_iload hx hb dX10_copyBlocks_39 (lv_at hl 4 rfl) ?_
          refine lv_iload hx hb dX10_copyBlocks_41 (lv_at hl 6 rfl) ?_
          refine lv_ishr hx hb dX10_copyBlocks_43 ?_
          refine lv_iconst (v := 1) hx hb dX10_copyBlocks_44 (by decide) ?_
          refine lv_iand hx hb dX10_copyBlocks_45 ?_
          refine lv_iconst (v := 1) hx hb dX10_copyBlocks_46 (by decide) ?_
          refine lv_icmp_ne (tgt := 61) hx hb dX10_copyBlocks_47 (by decide) (fun c47 => ?_) (fun c47 => ?_)
          · replace h := ie c47 h
            exact K61 _ ih x3 x4 x5 x6 ww _ _ _ hG (lv_sub hl [0, 1, 2, 3, 4, 5, 6] rfl) h
          · replace h := it c47 h
            refine lv_aload_n hx hb dX10_copyBlocks_50 rfl (lv_at hl 0 rfl) ?_
            refine lv_iload_n hx hb dX10_copyBlocks_51 rfl (lv_at hl 1 rfl) ?_
            refine lv_iload_n hx hb dX10_copyBlocks_52 rfl (lv_at hl 3 rfl) ?_
            refine lv_iload hx hb dX10_copyBlocks_53 (lv_at hl 6 rfl) ?_
            obtain ⟨r2, hcr2, h⟩ := bnd_some h
            refine gF_v (ws' := (rW E aw r2 ++ [])) C hG (pin pnil) (List.Perm.symm (pin pnil)) (gR_V (As := [.int x1, .int x3, .int x6]) (rest := []) C hz hl.1 hG (pin pnil) (c_X10_copyBlock l E aw N x1 x3 x6 ww hcr2 H.size) okX10_copyBlock q946 0 rfl rfl rfl (Nat.le_of_ble_eq_true rfl) (by omega) ⟨Nat.le_refl _, Nat.le_refl _⟩ dX10_copyBlocks_55) (fun H locs hG => ?_)
            refine lv_iinc (v := (x5 + 1)) (lv' := [(5, .int (x5 + 1)), (0, .ref (aw 0)), (1, .int x1), (2, .int x2), (3, .int x3), (4, .int x4), (6, .int x6)]) hx hb dX10_copyBlocks_58 hl (k := 5) rfl (congrArg (x5 + ·) (by decide : Int32.ofInt 1 = 1)) (by decide) rfl (fun ls hl => ?_)
            exact K61 _ ih x3 x4 (x5 + 1) x6 r2 _ _ _ hG (lv_sub hl [1, 2, 3, 4, 5, 0, 6] rfl) h
  rw [fX10_copyBlocks] at h
  refine lv_aload_n hx hb dX10_copyBlocks_0 rfl (lv_at hl 0 rfl) ?_
  refine gL_f (v := .ref (aw 23)) C hG kX10 0 4 rfl (by decide) rfl q362 rfl dX10_copyBlocks_1 ?_
  refine gL_fN (v := .ref (aw 24)) C hG kX5 23 1 rfl (by decide) rfl q319 rfl dX10_copyBlocks_4 ?_
  refine lv_iload_n hx hb dX10_copyBlocks_7 rfl (lv_at hl 1 rfl) ?_
  obtain ⟨b1, h⟩ := ck_some h
  refine gL_i (v := (ww 24 x1.toNatClampNeg)) C hG 24 rfl (inb_in b1) rfl dX10_copyBlocks_8 ?_
  obtain ⟨x3_2, ex3_2, h⟩ := thn_some h
  refine g_int ex3_2 ?_
  refine lv_istore_n (lv' := [(3, .int x3_2), (0, .ref (aw 0)), (1, .int x1), (2, .int x2)]) hx hb dX10_copyBlocks_9 rfl hl (by decide) rfl (fun ls hl => ?_)
  refine lv_aload_n hx hb dX10_copyBlocks_10 rfl (lv_at hl 1 rfl) ?_
  refine lv_iload_n hx hb dX10_copyBlocks_11 rfl (lv_at hl 2 rfl) ?_
  obtain ⟨r3, hcr3, h⟩ := bnd_some h
  refine gF_i (ws' := (rW E aw ww ++ [])) C hG (pin pnil) (List.Perm.symm (pin pnil)) (gR_V (As := [.int x1]) (rest := []) C hz hl.1 hG (pin pnil) (c_X10_blocksToCopy l E aw N x1 ww hcr3 H.size) okX10_blocksToCopy q938 0 rfl rfl rfl (Nat.le_of_ble_eq_true rfl) (by omega) ⟨Nat.le_refl _, Nat.le_refl _⟩ dX10_copyBlocks_12) (fun H locs _ hG => ?_)
  refine lv_istore (lv' := [(4, .int r3), (3, .int x3_2), (0, .ref (aw 0)), (1, .int x1), (2, .int x2)]) hx hb dX10_copyBlocks_15 hl (by decide) rfl (fun ls hl => ?_)
  refine lv_iconst (v := 0) hx hb dX10_copyBlocks_17 (by decide) ?_
  refine lv_istore (lv' := [(5, .int 0), (4, .int r3), (3, .int x3_2), (0, .ref (aw 0)), (1, .int x1), (2, .int x2)]) hx hb dX10_copyBlocks_18 hl (by decide) rfl (fun ls hl => ?_)
  refine lv_iconst (v := 0) hx hb dX10_copyBlocks_20 (by decide) ?_
  refine lv_istore (lv' := [(6, .int 0), (5, .int 0), (4, .int r3), (3, .int x3_2), (0, .ref (aw 0)), (1, .int x1), (2, .int x2)]) hx hb dX10_copyBlocks_21 hl (by decide) rfl (fun ls hl => ?_)
  exact K23 N x3_2 r3 0 0 ww _ _ _ hG (lv_sub hl [4, 5, 6, 3, 2, 1, 0] rfl) h
set_option maxHeartbeats 4000000 in
set_option maxRecDepth 100000 in
theorem c_X10_moveBlocks (l : Launch) (E : GE) (aw : Nat → Nat) (N : Nat) (ww : RS) {res : RS} (h : fX10_moveBlocks N ww = some res) : gMv l E yX10_moveBlocks cX10_moveBlocks 3 4 0 0 [.ref (aw 0)] (rW E aw ww ++ []) (rW E aw res ++ []) := by
  refine gMv_of (own := RX10) (by decide +kernel) rfl (Nat.le_of_ble_eq_true rfl) ?_
  intro p e s m args below meth c A ls Q H locs C hz hl hG hin hret
  have hx := C.1.1
  have hb := C.1.2.1
  have hts := C.1.2.2.2.2
  have hown := C.1.2.2.2.1
  have hl : lv_has ls 3 [(0, .ref (aw 0))] := hl
  replace hret : ∀ (ww0 : RS) (H : Heap) (locs : List Loc) (pc : Nat) (ls' : Array Slot), some ww0 = some res → gG E A s.heap (rW E aw ww0 ++ []) H locs → decode cX10_moveBlocks pc = .ok (.return_, 1) → W p l e (rmD 4 0 0) s m args below meth c H locs 0 0 Q (F0 m pc ls' []) := by
    intro ww0 H locs pc ls' e0; cases e0; exact hret H locs pc ls'
  have K54 : ∀ (k9 : (Int32 → Int32 → RS → Option (RS))) (hk9 : ∀  (x1 : Int32) (x2 : Int32) (ww : RS) (H : Heap) (locs : List Loc) (ls : Array Slot), gG E A s.heap (rW E aw ww ++ []) H locs → lv_has ls 3 [(0, .ref (aw 0)), (1, .int x1), (2, .int x2)] → k9 x1 x2 ww = some res → W p l e (rmD 4 0 0) s m args below meth c H locs 0 0 Q (F0 m 9 ls [])), ∀  (x1 : Int32) (x2 : Int32) (ww : RS) (H : Heap) (locs : List Loc) (ls : Array Slot), gG E A s.heap (rW E aw ww ++ []) H locs → lv_has ls 3 [(0, .ref (aw 0)), (1, .int x1), (2, .int x2)] → fX10_moveBlocks_L54 N k9 x1 x2 ww = some res → W p l e (rmD 4 0 0) s m args below meth c H locs 0 0 Q (F0 m 54 ls []) := by
    intro k9 hk9 x1 x2 ww H locs ls hG hl h
    rw [fX10_moveBlocks_L54] at h
    refine lv_iinc (v := (x2 + 1)) (lv' := [(2, .int (x2 + 1)), (0, .ref (aw 0)), (1, .int x1)]) hx hb dX10_moveBlocks_54 hl (k := 2) rfl (congrArg (x2 + ·) (by decide : Int32.ofInt 1 = 1)) (by decide) rfl (fun ls hl => ?_)
    refine lv_goto (tgt := 9) hx hb dX10_moveBlocks_57 (by decide) ?_
    exact hk9 x1 (x2 + 1) ww _ _ _ hG (lv_sub hl [1, 2, 0] rfl) h
  have K45 : ∀ (k9 : (Int32 → Int32 → RS → Option (RS))) (hk9 : ∀  (x1 : Int32) (x2 : Int32) (ww : RS) (H : Heap) (locs : List Loc) (ls : Array Slot), gG E A s.heap (rW E aw ww ++ []) H locs → lv_has ls 3 [(0, .ref (aw 0)), (1, .int x1), (2, .int x2)] → k9 x1 x2 ww = some res → W p l e (rmD 4 0 0) s m args below meth c H locs 0 0 Q (F0 m 9 ls [])), ∀  (x1 : Int32) (x2 : Int32) (ww : RS) (H : Heap) (locs : List Loc) (ls : Array Slot), gG E A s.heap (rW E aw ww ++ []) H locs → lv_has ls 3 [(0, .ref (aw 0)), (1, .int x1), (2, .int x2)] → fX10_moveBlocks_L45 N k9 x1 x2 ww = some res → W p l e (rmD 4 0 0) s m args below meth c H locs 0 0 Q (F0 m 45 ls []) := by
    intro k9 hk9 x1 x2 ww H locs ls hG hl h
    rw [fX10_moveBlocks_L45] at h
    refine lv_iload_n hx hb dX10_moveBlocks_45 rfl (lv_at hl 1 rfl) ?_
    refine lv_aload_n hx hb dX10_moveBlocks_46 rfl (lv_at hl 0 rfl) ?_
    refine lv_iload_n hx hb dX10_moveBlocks_47 rfl (lv_at hl 2 rfl) ?_
    refine lv_iload_n hx hb dX10_moveBlocks_48 rfl (lv_at hl 1 rfl) ?_
    obtain ⟨r1, hcr1, h⟩ := bnd_some h
    refine gF_i (ws' := (rW E aw r1.2 ++ [])) C hG (pin pnil) (List.Perm.symm (pin pnil)) (gR_V (As := [.int x2, .int x1]) (rest := [.int x1]) C hz hl.1 hG (pin pnil) (c_X10_copyBlocks l E aw N x2 x1 ww hcr1 H.size) okX10_copyBlocks q934 0 rfl rfl rfl (Nat.le_of_ble_eq_true rfl) (by omega) ⟨Nat.le_refl _, Nat.le_refl _⟩ dX10_moveBlocks_49) (fun H locs _ hG => ?_)
    refine lv_isub hx hb dX10_moveBlocks_52 ?_
    obtain ⟨x1_2, ex1_2, h⟩ := thn_some h
    refine g_int ex1_2 ?_
    refine lv_istore_n (lv' := [(1, .int x1_2), (0, .ref (aw 0)), (2, .int x2)]) hx hb dX10_moveBlocks_53 rfl hl (by decide) rfl (fun ls hl => ?_)
    exact K54 _ hk9 x1_2 x2 r1.2 _ _ _ hG (lv_sub hl [1, 0, 2] rfl) h
  have K9 : ∀ (k : Nat), ∀  (x1 : Int32) (x2 : Int32) (ww : RS) (H : Heap) (locs : List Loc) (ls : Array Slot), gG E A s.heap (rW E aw ww ++ []) H locs → lv_has ls 3 [(0, .ref (aw 0)), (1, .int x1), (2, .int x2)] → fX10_moveBlocks_L9 N k x1 x2 ww = some res → W p l e (rmD 4 0 0) s m args below meth c H locs 0 0 Q (F0 m 9 ls []) := by
    intro k
    induction k with
    | zero => intro x1 x2 ww H locs ls hG hl h; exact absurd (show none = _ from h) (by simp)
    | succ k ih =>
      intro x1 x2 ww H locs ls hG hl h
      rw [fX10_moveBlocks_L9] at h
      refine lv_iload_n hx hb dX10_moveBlocks_9 rfl (lv_at hl 2 rfl) ?_
      refine lv_aload_n hx hb dX10_moveBlocks_10 rfl (lv_at hl 0 rfl) ?_
      refine gL_f (v := .ref (aw 23)) C hG kX10 0 4 rfl (by decide) rfl q362 rfl dX10_moveBlocks_11 ?_
      refine gL_fN (v := .int (ww 23 0)) C hG kX5 23 0 rfl (by decide) rfl q315 rfl dX10_moveBlocks_14 ?_
      refine lv_icmp_ge (tgt := 60) hx hb dX10_moveBlocks_17 (by decide) (fun c17 => ?_) (fun c17 => ?_)
      · replace h := it c17 h
        exact hret _ _ _ _ _ h hG dX10_moveBlocks_60
      · replace h := ie c17 h
        refine lv_iload_n hx hb dX10_moveBlocks_20 rfl (lv_at hl 1 rfl) ?_
        refine lv_if_le (tgt := 60) hx hb dX10_moveBlocks_21 (by decide) (fun c21 => ?_) (fun c21 => ?_)
        · replace h := it c21 h
          exact hret _ _ _ _ _ h hG dX10_moveBlocks_60
        · replace h := ie c21 h
          refine lv_aload_n hx hb dX10_moveBlocks_24 rfl (lv_at hl 0 rfl) ?_
          refine gL_f (v := .ref (aw 23)) C hG kX10 0 4 rfl (by decide) rfl q362 rfl dX10_moveBlocks_25 ?_
          refine gL_fN (v := .ref (aw 26)) C hG kX5 23 3 rfl (by decide) rfl q325 rfl dX10_moveBlocks_28 ?_
          refine lv_iload_n hx hb dX10_moveBlocks_31 rfl (lv_at hl 2 rfl) ?_
          obtain ⟨b1, h⟩ := ck_some h
          refine gL_i (v := (ww 26 x2.toNatClampNeg)) C hG 26 rfl (inb_in b1) rfl dX10_moveBlocks_32 ?_
          refine lv_iconst (v := 1) hx hb dX10_moveBlocks_33 (by decide) ?_
          refine lv_icmp_eq (tgt := 45) hx hb dX10_moveBlocks_34 (by decide) (fun c34 => ?_) (fun c34 => ?_)
          · replace h := it c34 h
            exact K45 _ ih x1 x2 ww _ _ _ hG (lv_sub hl [0, 1, 2] rfl) h
          · replace h := ie c34 h
            refine lv_aload_n hx hb dX10_moveBlocks_37 rfl (lv_at hl 0 rfl) ?_
            refine lv_iload_n hx hb dX10_moveBlocks_38 rfl (lv_at hl 2 rfl) ?_
            obtain ⟨r2, hcr2, h⟩ := bnd_some h
            refine gF_i (ws' := (rW E aw r2.2 ++ [])) C hG (pin pnil) (List.Perm.symm (pin pnil)) (gR_V (As := [.int x2]) (rest := []) C hz hl.1 hG (pin pnil) (c_X10_begin l E aw N x2 ww hcr2 H.size) okX10_begin q922 0 rfl rfl rfl (Nat.le_of_ble_eq_true rfl) (by omega) ⟨Nat.le_refl _, Nat.le_refl _⟩ dX10_moveBlocks_39) (fun H locs z3 hG => ?_)
            refine lv_if_eq (tgt := 54) hx hb dX10_moveBlocks_42 (by decide) (fun c42 => ?_) (fun c42 => ?_)
            · replace h := it c42 h
              exact K54 _ ih x1 x2 r2.2 _ _ _ hG (lv_sub hl [0, 1, 2] rfl) h
            · replace h := ie c42 h
              exact K45 _ ih x1 x2 r2.2 _ _ _ hG (lv_sub hl [0, 1, 2] rfl) h
  rw [fX10_moveBlocks] at h
  refine lv_aload_n hx hb dX10_moveBlocks_0 rfl (lv_at hl 0 rfl) ?_
  refine gL_f (v := .ref (aw 1)) C hG kX10 0 0 rfl (by decide) rfl q352 rfl dX10_moveBlocks_1 ?_
  refine lv_iconst (v := 4) hx hb dX10_moveBlocks_4 (by decide) ?_
  refine gL_i (v := (ww 1 4)) C hG 1 rfl (vp_in_nI (n := 4) (by decide) (by decide)) (congrArg (ww 1) (nI_clamp (n := 4) (by decide))) dX10_moveBlocks_5 ?_
  obtain ⟨x1_1, ex1_1, h⟩ := thn_some h
  refine g_int ex1_1 ?_
  refine lv_istore_n (lv' := [(1, .int x1_1), (0, .ref (aw 0))]) hx hb dX10_moveBlocks_6 rfl hl (by decide) rfl (fun ls hl => ?_)
  refine lv_iconst (v := 0) hx hb dX10_moveBlocks_7 (by decide) ?_
  refine lv_istore_n (lv' := [(2, .int 0), (1, .int x1_1), (0, .ref (aw 0))]) hx hb dX10_moveBlocks_8 rfl hl (by decide) rfl (fun ls hl => ?_)
  exact K9 N x1_1 0 ww _ _ _ hG (lv_sub hl [2, 1, 0] rfl) h
set_option maxHeartbeats 4000000 in
set_option maxRecDepth 100000 in
theorem c_X10_switchOver (l : Launch) (E : GE) (aw : Nat → Nat) (N : Nat) (x1 : Int32) (ww : RS) {res : RS} (h : fX10_switchOver N x1 ww = some res) : gMv l E yX10_switchOver cX10_switchOver 4 3 0 0 [.ref (aw 0), .int x1] (rW E aw ww ++ []) (rW E aw res ++ []) := by
  refine gMv_of (own := RX10) (by decide +kernel) rfl (Nat.le_of_ble_eq_true rfl) ?_
  intro p e s m args below meth c A ls Q H locs C hz hl hG hin hret
  have hx := C.1.1
  have hb := C.1.2.1
  have hts := C.1.2.2.2.2
  have hown := C.1.2.2.2.1
  have hl : lv_has ls 4 [(0, .ref (aw 0)), (1, .int x1)] := hl
  replace hret : ∀ (ww0 : RS) (H : Heap) (locs : List Loc) (pc : Nat) (ls' : Array Slot), some ww0 = some res → gG E A s.heap (rW E aw ww0 ++ []) H locs → decode cX10_switchOver pc = .ok (.return_, 1) → W p l e (rmD 3 0 0) s m args below meth c H locs 0 0 Q (F0 m pc ls' []) := by
    intro ww0 H locs pc ls' e0; cases e0; exact hret H locs pc ls'
  have K92 : ∀  (x2 : Int32) (x3 : Int32) (ww : RS) (H : Heap) (locs : List Loc) (ls : Array Slot), gG E A s.heap (rW E aw ww ++ []) H locs → lv_has ls 4 [(0, .ref (aw 0)), (1, .int x1), (2, .int x2), (3, .int x3)] → fX10_switchOver_L92 N x1 x2 x3 ww = some res → W p l e (rmD 3 0 0) s m args below meth c H locs 0 0 Q (F0 m 92 ls []) := by
    intro x2 x3 ww H locs ls hG hl h
    rw [fX10_switchOver_L92] at h
    refine lv_aload_n hx hb dX10_switchOver_92 rfl (lv_at hl 0 rfl) ?_
    refine gL_f (v := .ref (aw 23)) C hG kX10 0 4 rfl (by decide) rfl q362 rfl dX10_switchOver_93 ?_
    refine lv_iload_n hx hb dX10_switchOver_96 rfl (lv_at hl 1 rfl) ?_
    obtain ⟨r1, hcr1, h⟩ := bnd_some h
    refine gF_v (ws' := (rW E aw r1 ++ [])) C hG (pin pnil) (List.Perm.symm (pin pnil)) (gR_N (As := [.int x1]) (rest := []) C hz hl.1 hG (pin pnil) (c_X5_remove l E aw N x1 ww hcr1 H.size) okX5_remove q898 23 rfl rfl rfl (Nat.le_of_ble_eq_true rfl) (by omega) ⟨Nat.le_refl _, Nat.le_refl _⟩ dX10_switchOver_97) (fun H locs hG => ?_)
    refine lv_aload_n hx hb dX10_switchOver_100 rfl (lv_at hl 0 rfl) ?_
    refine gL_f (v := .ref (aw 1)) C hG kX10 0 0 rfl (by decide) rfl q352 rfl dX10_switchOver_101 ?_
    refine lv_bipush (v := 11) hx hb dX10_switchOver_104 (by decide) ?_
    refine lv_dup2_11 hx hb dX10_switchOver_106 rfl rfl ?_
    refine gL_i (v := (r1 1 11)) C hG 1 rfl (vp_in_nI (n := 11) (by decide) (by decide)) (congrArg (r1 1) (nI_clamp (n := 11) (by decide))) dX10_switchOver_107 ?_
    refine lv_iconst (v := 1) hx hb dX10_switchOver_108 (by decide) ?_
    refine lv_iadd hx hb dX10_switchOver_109 ?_
    obtain ⟨ww_2, eww_2, h⟩ := thn_some h
    refine gS_i (x := ((r1 1 11) + 1)) (ws' := (rW E aw ww_2 ++ [])) C hG 1 rfl (vp_in_nI (n := 11) (by decide) (by decide)) (nI_clamp (n := 11) (by decide)) dX10_switchOver_110 (by rw [eww_2]; rfl) (fun H locs hG => ?_)
    refine lv_aload_n hx hb dX10_switchOver_111 rfl (lv_at hl 0 rfl) ?_
    refine lv_iconst (v := 1) hx hb dX10_switchOver_112 (by decide) ?_
    refine lv_iload_n hx hb dX10_switchOver_113 rfl (lv_at hl 2 rfl) ?_
    refine lv_iload_n hx hb dX10_switchOver_114 rfl (lv_at hl 3 rfl) ?_
    obtain ⟨r3, hcr3, h⟩ := bnd_some h
    refine gF_v (ws' := (rW E aw r3 ++ [])) C hG (pin pnil) (List.Perm.symm (pin pnil)) (gR_V (As := [.int 1, .int x2, .int x3]) (rest := []) C hz hl.1 hG (pin pnil) (c_X10_writeDown l E aw N 1 x2 x3 ww_2 hcr3 H.size) okX10_writeDown q902 0 rfl rfl rfl (Nat.le_of_ble_eq_true rfl) (by omega) ⟨Nat.le_refl _, Nat.le_refl _⟩ dX10_switchOver_115) (fun H locs hG => ?_)
    exact hret _ _ _ _ _ h hG dX10_switchOver_118
  rw [fX10_switchOver] at h
  refine lv_aload_n hx hb dX10_switchOver_0 rfl (lv_at hl 0 rfl) ?_
  refine gL_f (v := .ref (aw 23)) C hG kX10 0 4 rfl (by decide) rfl q362 rfl dX10_switchOver_1 ?_
  refine gL_fN (v := .ref (aw 24)) C hG kX5 23 1 rfl (by decide) rfl q319 rfl dX10_switchOver_4 ?_
  refine lv_iload_n hx hb dX10_switchOver_7 rfl (lv_at hl 1 rfl) ?_
  obtain ⟨b1, h⟩ := ck_some h
  refine gL_i (v := (ww 24 x1.toNatClampNeg)) C hG 24 rfl (inb_in b1) rfl dX10_switchOver_8 ?_
  obtain ⟨x2_2, ex2_2, h⟩ := thn_some h
  refine g_int ex2_2 ?_
  refine lv_istore_n (lv' := [(2, .int x2_2), (0, .ref (aw 0)), (1, .int x1)]) hx hb dX10_switchOver_9 rfl hl (by decide) rfl (fun ls hl => ?_)
  refine lv_aload_n hx hb dX10_switchOver_10 rfl (lv_at hl 1 rfl) ?_
  refine gL_f (v := .ref (aw 23)) C hG kX10 0 4 rfl (by decide) rfl q362 rfl dX10_switchOver_11 ?_
  refine gL_fN (v := .ref (aw 25)) C hG kX5 23 2 rfl (by decide) rfl q322 rfl dX10_switchOver_14 ?_
  refine lv_iload_n hx hb dX10_switchOver_17 rfl (lv_at hl 2 rfl) ?_
  refine gL_i (v := (ww 25 x1.toNatClampNeg)) C hG 25 rfl (inb_in b1) rfl dX10_switchOver_18 ?_
  obtain ⟨x3_3, ex3_3, h⟩ := thn_some h
  refine g_int ex3_3 ?_
  refine lv_istore_n (lv' := [(3, .int x3_3), (2, .int x2_2), (0, .ref (aw 0)), (1, .int x1)]) hx hb dX10_switchOver_19 rfl hl (by decide) rfl (fun ls hl => ?_)
  refine lv_aload_n hx hb dX10_switchOver_20 rfl (lv_at hl 2 rfl) ?_
  refine gL_f (v := .ref (aw 2)) C hG kX10 0 1 rfl (by decide) rfl q355 rfl dX10_switchOver_21 ?_
  refine gL_fN (v := .ref (aw 3)) C hG kX2 2 0 rfl (by decide) rfl q212 rfl dX10_switchOver_24 ?_
  refine lv_iload_n hx hb dX10_switchOver_27 rfl (lv_at hl 1 rfl) ?_
  refine lv_iload_n hx hb dX10_switchOver_28 rfl (lv_at hl 0 rfl) ?_
  obtain ⟨b4, h⟩ := ck_some h
  obtain ⟨ww_5, eww_5, h⟩ := thn_some h
  refine gS_i (x := x3_3) (ws' := (rW E aw ww_5 ++ [])) C hG 3 rfl (inb_in b4) rfl dX10_switchOver_29 (by rw [eww_5]; rfl) (fun H locs hG => ?_)
  refine lv_aload_n hx hb dX10_switchOver_30 rfl (lv_at hl 2 rfl) ?_
  refine gL_f (v := .ref (aw 2)) C hG kX10 0 1 rfl (by decide) rfl q355 rfl dX10_switchOver_31 ?_
  refine gL_fN (v := .ref (aw 6)) C hG kX2 2 3 rfl (by decide) rfl q222 rfl dX10_switchOver_34 ?_
  refine lv_iload_n hx hb dX10_switchOver_37 rfl (lv_at hl 1 rfl) ?_
  refine lv_iconst (v := 0) hx hb dX10_switchOver_38 (by decide) ?_
  obtain ⟨ww_6, eww_6, h⟩ := thn_some h
  refine gS_i (x := 0) (ws' := (rW E aw ww_6 ++ [])) C hG 6 rfl (inb_in b4) rfl dX10_switchOver_39 (by rw [eww_6]; rfl) (fun H locs hG => ?_)
  refine lv_aload_n hx hb dX10_switchOver_40 rfl (lv_at hl 2 rfl) ?_
  refine gL_f (v := .ref (aw 2)) C hG kX10 0 1 rfl (by decide) rfl q355 rfl dX10_switchOver_41 ?_
  refine gL_fN (v := .ref (aw 5)) C hG kX2 2 2 rfl (by decide) rfl q219 rfl dX10_switchOver_44 ?_
  refine lv_iload_n hx hb dX10_switchOver_47 rfl (lv_at hl 1 rfl) ?_
  refine lv_aload_n hx hb dX10_switchOver_48 rfl (lv_at hl 2 rfl) ?_
  refine gL_f (v := .ref (aw 1)) C hG kX10 0 0 rfl (by decide) rfl q352 rfl dX10_switchOver_49 ?_
  refine lv_iconst (v := 2) hx hb dX10_switchOver_52 (by decide) ?_
  refine gL_i (v := (ww_6 1 2)) C hG 1 rfl (vp_in_nI (n := 2) (by decide) (by decide)) (congrArg (ww_6 1) (nI_clamp (n := 2) (by decide))) dX10_switchOver_53 ?_
  refine lv_iconst (v := 3) hx hb dX10_switchOver_54 (by decide) ?_
  refine lv_iadd hx hb dX10_switchOver_55 ?_
  obtain ⟨ww_7, eww_7, h⟩ := thn_some h
  refine gS_i (x := ((ww_6 1 2) + 3)) (ws' := (rW E aw ww_7 ++ [])) C hG 5 rfl (inb_in b4) rfl dX10_switchOver_56 (by rw [eww_7]; rfl) (fun H locs hG => ?_)
  refine lv_aload_n hx hb dX10_switchOver_57 rfl (lv_at hl 2 rfl) ?_
  refine gL_f (v := .ref (aw 2)) C hG kX10 0 1 rfl (by decide) rfl q355 rfl dX10_switchOver_58 ?_
  refine gL_fN (v := .ref (aw 7)) C hG kX2 2 4 rfl (by decide) rfl q224 rfl dX10_switchOver_61 ?_
  refine lv_iload_n hx hb dX10_switchOver_64 rfl (lv_at hl 1 rfl) ?_
  refine lv_dup2_11 hx hb dX10_switchOver_65 rfl rfl ?_
  refine gL_i (v := (ww_7 7 x2_2.toNatClampNeg)) C hG 7 rfl (inb_in b4) rfl dX10_switchOver_66 ?_
  refine lv_iconst (v := 1) hx hb dX10_switchOver_67 (by decide) ?_
  refine lv_iadd hx hb dX10_switchOver_68 ?_
  obtain ⟨ww_8, eww_8, h⟩ := thn_some h
  refine gS_i (x := ((ww_7 7 x2_2.toNatClampNeg) + 1)) (ws' := (rW E aw ww_8 ++ [])) C hG 7 rfl (inb_in b4) rfl dX10_switchOver_69 (by rw [eww_8]; rfl) (fun H locs hG => ?_)
  refine lv_aload_n hx hb dX10_switchOver_70 rfl (lv_at hl 2 rfl) ?_
  refine gL_f (v := .ref (aw 2)) C hG kX10 0 1 rfl (by decide) rfl q355 rfl dX10_switchOver_71 ?_
  refine gL_fN (v := .ref (aw 8)) C hG kX2 2 5 rfl (by decide) rfl q226 rfl dX10_switchOver_74 ?_
  refine lv_iload_n hx hb dX10_switchOver_77 rfl (lv_at hl 1 rfl) ?_
  refine lv_iconst (v := 0) hx hb dX10_switchOver_78 (by decide) ?_
  obtain ⟨ww_9, eww_9, h⟩ := thn_some h
  refine gS_i (x := 0) (ws' := (rW E aw ww_9 ++ [])) C hG 8 rfl (inb_in b4) rfl dX10_switchOver_79 (by rw [eww_9]; rfl) (fun H locs hG => ?_)
  refine lv_iload_n hx hb dX10_switchOver_80 rfl (lv_at hl 0 rfl) ?_
  refine lv_if_ne (tgt := 92) hx hb dX10_switchOver_81 (by decide) (fun c81 => ?_) (fun c81 => ?_)
  · replace h := ie c81 h
    exact K92 x2_2 x3_3 ww_9 _ _ _ hG (lv_sub hl [2, 3, 1, 0] rfl) h
  · replace h := it c81 h
    refine lv_aload_n hx hb dX10_switchOver_84 rfl (lv_at hl 2 rfl) ?_
    refine gL_f (v := .ref (aw 15)) C hG kX10 0 2 rfl (by decide) rfl q358 rfl dX10_switchOver_85 ?_
    refine lv_iload_n hx hb dX10_switchOver_88 rfl (lv_at hl 1 rfl) ?_
    obtain ⟨r10, hcr10, h⟩ := bnd_some h
    refine gF_v (ws' := (rW E aw r10 ++ [])) C hG (pin pnil) (List.Perm.symm (pin pnil)) (gR_N (As := [.int x2_2]) (rest := []) C hz hl.1 hG (pin pnil) (c_X1_leaveSlots l E aw N x2_2 ww_9 hcr10 H.size) okX1_leaveSlots q892 15 rfl rfl rfl (Nat.le_of_ble_eq_true rfl) (by omega) ⟨Nat.le_refl _, Nat.le_refl _⟩ dX10_switchOver_89) (fun H locs hG => ?_)
    exact K92 x2_2 x3_3 r10 _ _ _ hG (lv_sub hl [2, 3, 1, 0] rfl) h
set_option maxHeartbeats 4000000 in
set_option maxRecDepth 100000 in
theorem c_X10_switchWhole (l : Launch) (E : GE) (aw : Nat → Nat) (N : Nat) (ww : RS) {res : RS} (h : fX10_switchWhole N ww = some res) : gMv l E yX10_switchWhole cX10_switchWhole 3 4 0 0 [.ref (aw 0)] (rW E aw ww ++ []) (rW E aw res ++ []) := by
  refine gMv_of (own := RX10) (by decide +kernel) rfl (Nat.le_of_ble_eq_true rfl) ?_
  intro p e s m args below meth c A ls Q H locs C hz hl hG hin hret
  have hx := C.1.1
  have hb := C.1.2.1
  have hts := C.1.2.2.2.2
  have hown := C.1.2.2.2.1
  have hl : lv_has ls 3 [(0, .ref (aw 0))] := hl
  replace hret : ∀ (ww0 : RS) (H : Heap) (locs : List Loc) (pc : Nat) (ls' : Array Slot), some ww0 = some res → gG E A s.heap (rW E aw ww0 ++ []) H locs → decode cX10_switchWhole pc = .ok (.return_, 1) → W p l e (rmD 4 0 0) s m args below meth c H locs 0 0 Q (F0 m pc ls' []) := by
    intro ww0 H locs pc ls' e0; cases e0; exact hret H locs pc ls'
  have K46 : ∀ (k10 : (Int32 → Int32 → RS → Option (RS))) (hk10 : ∀  (x1 : Int32) (x2 : Int32) (ww : RS) (H : Heap) (locs : List Loc) (ls : Array Slot), gG E A s.heap (rW E aw ww ++ []) H locs → lv_has ls 3 [(0, .ref (aw 0)), (1, .int x1), (2, .int x2)] → k10 x1 x2 ww = some res → W p l e (rmD 4 0 0) s m args below meth c H locs 0 0 Q (F0 m 10 ls [])), ∀  (x1 : Int32) (x2 : Int32) (ww : RS) (H : Heap) (locs : List Loc) (ls : Array Slot), gG E A s.heap (rW E aw ww ++ []) H locs → lv_has ls 3 [(0, .ref (aw 0)), (1, .int x1), (2, .int x2)] → fX10_switchWhole_L46 N k10 x1 x2 ww = some res → W p l e (rmD 4 0 0) s m args below meth c H locs 0 0 Q (F0 m 46 ls []) := by
    intro k10 hk10 x1 x2 ww H locs ls hG hl h
    rw [fX10_switchWhole_L46] at h
    refine lv_iinc (v := (x2 + (-1))) (lv' := [(2, .int (x2 + (-1))), (0, .ref (aw 0)), (1, .int x1)]) hx hb dX10_switchWhole_46 hl (k := 2) rfl (congrArg (x2 + ·) (by decide : Int32.ofInt (-1) = (-1))) (by decide) rfl (fun ls hl => ?_)
    refine lv_goto (tgt := 10) hx hb dX10_switchWhole_49 (by decide) ?_
    exact hk10 x1 (x2 + (-1)) ww _ _ _ hG (lv_sub hl [1, 2, 0] rfl) h
  have K43 : ∀ (k10 : (Int32 → Int32 → RS → Option (RS))) (hk10 : ∀  (x1 : Int32) (x2 : Int32) (ww : RS) (H : Heap) (locs : List Loc) (ls : Array Slot), gG E A s.heap (rW E aw ww ++ []) H locs → lv_has ls 3 [(0, .ref (aw 0)), (1, .int x1), (2, .int x2)] → k10 x1 x2 ww = some res → W p l e (rmD 4 0 0) s m args below meth c H locs 0 0 Q (F0 m 10 ls [])), ∀  (x1 : Int32) (x2 : Int32) (ww : RS) (H : Heap) (locs : List Loc) (ls : Array Slot), gG E A s.heap (rW E aw ww ++ []) H locs → lv_has ls 3 [(0, .ref (aw 0)), (1, .int x1), (2, .int x2)] → fX10_switchWhole_L43 N k10 x1 x2 ww = some res → W p l e (rmD 4 0 0) s m args below meth c H locs 0 0 Q (F0 m 43 ls []) := by
    intro k10 hk10 x1 x2 ww H locs ls hG hl h
    rw [fX10_switchWhole_L43] at h
    refine lv_iinc (v := (x1 + 1)) (lv' := [(1, .int (x1 + 1)), (0, .ref (aw 0)), (2, .int x2)]) hx hb dX10_switchWhole_43 hl (k := 1) rfl (congrArg (x1 + ·) (by decide : Int32.ofInt 1 = 1)) (by decide) rfl (fun ls hl => ?_)
    exact K46 _ hk10 (x1 + 1) x2 ww _ _ _ hG (lv_sub hl [1, 0, 2] rfl) h
  have K10 : ∀ (k : Nat), ∀  (x1 : Int32) (x2 : Int32) (ww : RS) (H : Heap) (locs : List Loc) (ls : Array Slot), gG E A s.heap (rW E aw ww ++ []) H locs → lv_has ls 3 [(0, .ref (aw 0)), (1, .int x1), (2, .int x2)] → fX10_switchWhole_L10 N k x1 x2 ww = some res → W p l e (rmD 4 0 0) s m args below meth c H locs 0 0 Q (F0 m 10 ls []) := by
    intro k
    induction k with
    | zero => intro x1 x2 ww H locs ls hG hl h; exact absurd (show none = _ from h) (by simp)
    | succ k ih =>
      intro x1 x2 ww H locs ls hG hl h
      rw [fX10_switchWhole_L10] at h
      refine lv_iload_n hx hb dX10_switchWhole_10 rfl (lv_at hl 2 rfl) ?_
      refine lv_if_le (tgt := 52) hx hb dX10_switchWhole_11 (by decide) (fun c11 => ?_) (fun c11 => ?_)
      · replace h := it c11 h
        exact hret _ _ _ _ _ h hG dX10_switchWhole_52
      · replace h := ie c11 h
        refine lv_aload_n hx hb dX10_switchWhole_14 rfl (lv_at hl 0 rfl) ?_
        refine gL_f (v := .ref (aw 23)) C hG kX10 0 4 rfl (by decide) rfl q362 rfl dX10_switchWhole_15 ?_
        refine gL_fN (v := .ref (aw 26)) C hG kX5 23 3 rfl (by decide) rfl q325 rfl dX10_switchWhole_18 ?_
        refine lv_iload_n hx hb dX10_switchWhole_21 rfl (lv_at hl 1 rfl) ?_
        obtain ⟨b1, h⟩ := ck_some h
        refine gL_i (v := (ww 26 x1.toNatClampNeg)) C hG 26 rfl (inb_in b1) rfl dX10_switchWhole_22 ?_
        refine lv_iconst (v := 1) hx hb dX10_switchWhole_23 (by decide) ?_
        refine lv_icmp_ne (tgt := 43) hx hb dX10_switchWhole_24 (by decide) (fun c24 => ?_) (fun c24 => ?_)
        · replace h := ie c24 h
          exact K43 _ ih x1 x2 ww _ _ _ hG (lv_sub hl [0, 1, 2] rfl) h
        · replace h := it c24 h
          refine lv_aload_n hx hb dX10_switchWhole_27 rfl (lv_at hl 0 rfl) ?_
          refine lv_iload_n hx hb dX10_switchWhole_28 rfl (lv_at hl 1 rfl) ?_
          obtain ⟨r2, hcr2, h⟩ := bnd_some h
          refine gF_i (ws' := (rW E aw ww ++ [])) C hG (pin pnil) (List.Perm.symm (pin pnil)) (gR_V (As := [.int x1]) (rest := []) C hz hl.1 hG (pin pnil) (c_X10_blocksToCopy l E aw N x1 ww hcr2 H.size) okX10_blocksToCopy q938 0 rfl rfl rfl (Nat.le_of_ble_eq_true rfl) (by omega) ⟨Nat.le_refl _, Nat.le_refl _⟩ dX10_switchWhole_29) (fun H locs _ hG => ?_)
          refine lv_if_ne (tgt := 43) hx hb dX10_switchWhole_32 (by decide) (fun c32 => ?_) (fun c32 => ?_)
          · replace h := ie c32 h
            exact K43 _ ih x1 x2 ww _ _ _ hG (lv_sub hl [0, 1, 2] rfl) h
          · replace h := it c32 h
            refine lv_aload_n hx hb dX10_switchWhole_35 rfl (lv_at hl 0 rfl) ?_
            refine lv_iload_n hx hb dX10_switchWhole_36 rfl (lv_at hl 1 rfl) ?_
            obtain ⟨r3, hcr3, h⟩ := bnd_some h
            refine gF_v (ws' := (rW E aw r3 ++ [])) C hG (pin pnil) (List.Perm.symm (pin pnil)) (gR_V (As := [.int x1]) (rest := []) C hz hl.1 hG (pin pnil) (c_X10_switchOver l E aw N x1 ww hcr3 H.size) okX10_switchOver q954 0 rfl rfl rfl (Nat.le_of_ble_eq_true rfl) (by omega) ⟨Nat.le_refl _, Nat.le_refl _⟩ dX10_switchWhole_37) (fun H locs hG => ?_)
            refine lv_goto (tgt := 46) hx hb dX10_switchWhole_40 (by decide) ?_
            exact K46 _ ih x1 x2 r3 _ _ _ hG (lv_sub hl [0, 1, 2] rfl) h
  rw [fX10_switchWhole] at h
  refine lv_iconst (v := 0) hx hb dX10_switchWhole_0 (by decide) ?_
  refine lv_istore_n (lv' := [(1, .int 0), (0, .ref (aw 0))]) hx hb dX10_switchWhole_1 rfl hl (by decide) rfl (fun ls hl => ?_)
  refine lv_aload_n hx hb dX10_switchWhole_2 rfl (lv_at hl 1 rfl) ?_
  refine gL_f (v := .ref (aw 23)) C hG kX10 0 4 rfl (by decide) rfl q362 rfl dX10_switchWhole_3 ?_
  refine gL_fN (v := .int (ww 23 0)) C hG kX5 23 0 rfl (by decide) rfl q315 rfl dX10_switchWhole_6 ?_
  obtain ⟨x2_1, ex2_1, h⟩ := thn_some h
  refine g_int ex2_1 ?_
  refine lv_istore_n (lv' := [(2, .int x2_1), (1, .int 0), (0, .ref (aw 0))]) hx hb dX10_switchWhole_9 rfl hl (by decide) rfl (fun ls hl => ?_)
  exact K10 N 0 x2_1 ww _ _ _ hG (lv_sub hl [2, 1, 0] rfl) h
set_option maxHeartbeats 4000000 in
set_option maxRecDepth 100000 in
theorem c_X6_bind (l : Launch) (E : GE) (aw : Nat → Nat) (ap : Nat → Nat) (N : Nat) (ww : RS) (pp : RS) {res : RS} (h : fX6_bind N ww pp = some res) : gMv l E yX6_bind cX6_bind 4 1 0 0 [.ref (ap 0), .ref (aw 23)] (rW E aw ww ++ (rP E ap pp ++ [])) (rW E aw ww ++ (rP E ap res ++ [])) := by
  refine gMv_of (own := RX6) (by decide +kernel) rfl (Nat.le_of_ble_eq_true rfl) ?_
  intro p e s m args below meth c A ls Q H locs C hz hl hG hin hret
  have hx := C.1.1
  have hb := C.1.2.1
  have hts := C.1.2.2.2.2
  have hown := C.1.2.2.2.1
  have hl : lv_has ls 4 [(0, .ref (ap 0)), (1, .ref (aw 23))] := hl
  replace hret : ∀ (pp0 : RS) (H : Heap) (locs : List Loc) (pc : Nat) (ls' : Array Slot), some pp0 = some res → gG E A s.heap (rW E aw ww ++ (rP E ap pp0 ++ [])) H locs → decode cX6_bind pc = .ok (.return_, 1) → W p l e (rmD 1 0 0) s m args below meth c H locs 0 0 Q (F0 m pc ls' []) := by
    intro pp0 H locs pc ls' e0; cases e0; exact hret H locs pc ls'
  have K96 : ∀ (k23 : (Int32 → RS → Option (RS))) (hk23 : ∀  (x2 : Int32) (pp : RS) (H : Heap) (locs : List Loc) (ls : Array Slot), gG E A s.heap (rW E aw ww ++ (rP E ap pp ++ [])) H locs → lv_has ls 4 [(0, .ref (ap 0)), (1, .ref (aw 23)), (2, .int x2)] → k23 x2 pp = some res → W p l e (rmD 1 0 0) s m args below meth c H locs 0 0 Q (F0 m 23 ls [])), ∀  (x2 : Int32) (pp : RS) (H : Heap) (locs : List Loc) (ls : Array Slot), gG E A s.heap (rW E aw ww ++ (rP E ap pp ++ [])) H locs → lv_has ls 4 [(0, .ref (ap 0)), (1, .ref (aw 23)), (2, .int x2)] → fX6_bind_L96 N ww k23 x2 pp = some res → W p l e (rmD 1 0 0) s m args below meth c H locs 0 0 Q (F0 m 96 ls []) := by
    intro k23 hk23 x2 pp H locs ls hG hl h
    rw [fX6_bind_L96] at h
    refine lv_iinc (v := (x2 + 1)) (lv' := [(2, .int (x2 + 1)), (0, .ref (ap 0)), (1, .ref (aw 23))]) hx hb dX6_bind_96 hl (k := 2) rfl (congrArg (x2 + ·) (by decide : Int32.ofInt 1 = 1)) (by decide) rfl (fun ls hl => ?_)
    refine lv_goto (tgt := 23) hx hb dX6_bind_99 (by decide) ?_
    exact hk23 (x2 + 1) pp _ _ _ hG (lv_sub hl [1, 2, 0] rfl) h
  have K95 : ∀ (k23 : (Int32 → RS → Option (RS))) (hk23 : ∀  (x2 : Int32) (pp : RS) (H : Heap) (locs : List Loc) (ls : Array Slot), gG E A s.heap (rW E aw ww ++ (rP E ap pp ++ [])) H locs → lv_has ls 4 [(0, .ref (ap 0)), (1, .ref (aw 23)), (2, .int x2)] → k23 x2 pp = some res → W p l e (rmD 1 0 0) s m args below meth c H locs 0 0 Q (F0 m 23 ls [])), ∀  (x2 : Int32) (s1 : Int32) (s2 : Int32) (pp : RS) (H : Heap) (locs : List Loc) (ls : Array Slot), gG E A s.heap (rW E aw ww ++ (rP E ap pp ++ [])) H locs → lv_has ls 4 [(0, .ref (ap 0)), (1, .ref (aw 23)), (2, .int x2)] → fX6_bind_L95 N ww k23 x2 s1 s2 pp = some res → W p l e (rmD 1 0 0) s m args below meth c H locs 0 0 Q (F0 m 95 ls [.int s2, .int s1, .ref (ap 2)]) := by
    intro k23 hk23 x2 s1 s2 pp H locs ls hG hl h
    rw [fX6_bind_L95] at h
    obtain ⟨b1, h⟩ := ck_some h
    obtain ⟨b2, h⟩ := ck_some h
    obtain ⟨pp_3, epp_3, h⟩ := thn_some h
    refine gS_z (x := s2) (ws' := (rW E aw ww ++ (rP E ap pp_3 ++ []))) C hG 32 rfl (inb_in b1) rfl (isB_v b2) dX6_bind_95 (by rw [epp_3]; rfl) (fun H locs hG => ?_)
    exact K96 _ hk23 x2 pp_3 _ _ _ hG (lv_sub hl [0, 1, 2] rfl) h
  have K75 : ∀ (k23 : (Int32 → RS → Option (RS))) (hk23 : ∀  (x2 : Int32) (pp : RS) (H : Heap) (locs : List Loc) (ls : Array Slot), gG E A s.heap (rW E aw ww ++ (rP E ap pp ++ [])) H locs → lv_has ls 4 [(0, .ref (ap 0)), (1, .ref (aw 23)), (2, .int x2)] → k23 x2 pp = some res → W p l e (rmD 1 0 0) s m args below meth c H locs 0 0 Q (F0 m 23 ls [])), ∀  (x2 : Int32) (x3 : Int32) (s1 : Int32) (s2 : Int32) (pp : RS) (H : Heap) (locs : List Loc) (ls : Array Slot), gG E A s.heap (rW E aw ww ++ (rP E ap pp ++ [])) H locs → lv_has ls 4 [(0, .ref (ap 0)), (1, .ref (aw 23)), (2, .int x2), (3, .int x3)] → fX6_bind_L75 N ww k23 x2 x3 s1 s2 pp = some res → W p l e (rmD 1 0 0) s m args below meth c H locs 0 0 Q (F0 m 75 ls [.int s2, .int s1, .ref (ap 1)]) := by
    intro k23 hk23 x2 x3 s1 s2 pp H locs ls hG hl h
    rw [fX6_bind_L75] at h
    obtain ⟨b1, h⟩ := ck_some h
    obtain ⟨b2, h⟩ := ck_some h
    obtain ⟨pp_3, epp_3, h⟩ := thn_some h
    refine gS_z (x := s2) (ws' := (rW E aw ww ++ (rP E ap pp_3 ++ []))) C hG 31 rfl (inb_in b1) rfl (isB_v b2) dX6_bind_75 (by rw [epp_3]; rfl) (fun H locs hG => ?_)
    refine lv_aload_n hx hb dX6_bind_76 rfl (lv_at hl 0 rfl) ?_
    refine gL_f (v := .ref (ap 2)) C hG kX6 30 1 rfl (by decide) rfl q407 rfl dX6_bind_77 ?_
    refine lv_iload_n hx hb dX6_bind_80 rfl (lv_at hl 3 rfl) ?_
    refine lv_aload_n hx hb dX6_bind_81 rfl (lv_at hl 1 rfl) ?_
    refine gL_fN (v := .ref (aw 25)) C hG kX5 23 2 rfl (by decide) rfl q321 rfl dX6_bind_82 ?_
    refine lv_iload_n hx hb dX6_bind_85 rfl (lv_at hl 2 rfl) ?_
    obtain ⟨b4, h⟩ := ck_some h
    refine gL_i (v := (ww 25 x2.toNatClampNeg)) C hG 25 rfl (inb_in b4) rfl dX6_bind_86 ?_
    refine lv_if_ne (tgt := 94) hx hb dX6_bind_87 (by decide) (fun c87 => ?_) (fun c87 => ?_)
    · replace h := ie c87 h
      refine lv_iconst (v := 0) hx hb dX6_bind_94 (by decide) ?_
      exact K95 _ hk23 x2 x3 0 pp_3 _ _ _ hG (lv_sub hl [0, 1, 2] rfl) h
    · replace h := it c87 h
      refine lv_iconst (v := 1) hx hb dX6_bind_90 (by decide) ?_
      refine lv_goto (tgt := 95) hx hb dX6_bind_91 (by decide) ?_
      exact K95 _ hk23 x2 x3 1 pp_3 _ _ _ hG (lv_sub hl [0, 1, 2] rfl) h
  have K23 : ∀ (k : Nat), ∀  (x2 : Int32) (pp : RS) (H : Heap) (locs : List Loc) (ls : Array Slot), gG E A s.heap (rW E aw ww ++ (rP E ap pp ++ [])) H locs → lv_has ls 4 [(0, .ref (ap 0)), (1, .ref (aw 23)), (2, .int x2)] → fX6_bind_L23 N ww k x2 pp = some res → W p l e (rmD 1 0 0) s m args below meth c H locs 0 0 Q (F0 m 23 ls []) := by
    intro k
    induction k with
    | zero => intro x2 pp H locs ls hG hl h; exact absurd (show none = _ from h) (by simp)
    | succ k ih =>
      intro x2 pp H locs ls hG hl h
      rw [fX6_bind_L23] at h
      refine lv_iload_n hx hb dX6_bind_23 rfl (lv_at hl 2 rfl) ?_
      refine lv_aload_n hx hb dX6_bind_24 rfl (lv_at hl 1 rfl) ?_
      refine gL_fN (v := .int (ww 23 0)) C hG kX5 23 0 rfl (by decide) rfl q314 rfl dX6_bind_25 ?_
      refine lv_icmp_ge (tgt := 102) hx hb dX6_bind_28 (by decide) (fun c28 => ?_) (fun c28 => ?_)
      · replace h := it c28 h
        exact hret _ _ _ _ _ h hG dX6_bind_102
      · replace h := ie c28 h
        refine lv_aload_n hx hb dX6_bind_31 rfl (lv_at hl 1 rfl) ?_
        refine gL_fN (v := .ref (aw 26)) C hG kX5 23 3 rfl (by decide) rfl q324 rfl dX6_bind_32 ?_
        refine lv_iload_n hx hb dX6_bind_35 rfl (lv_at hl 2 rfl) ?_
        obtain ⟨b1, h⟩ := ck_some h
        refine gL_i (v := (ww 26 x2.toNatClampNeg)) C hG 26 rfl (inb_in b1) rfl dX6_bind_36 ?_
        refine lv_iconst (v := 1) hx hb dX6_bind_37 (by decide) ?_
        refine lv_icmp_ne (tgt := 96) hx hb dX6_bind_38 (by decide) (fun c38 => ?_) (fun c38 => ?_)
        · replace h := ie c38 h
          exact K96 _ ih x2 pp _ _ _ hG (lv_sub hl [0, 1, 2] rfl) h
        · replace h := it c38 h
          refine lv_aload_n hx hb dX6_bind_41 rfl (lv_at hl 1 rfl) ?_
          refine gL_fN (v := .ref (aw 24)) C hG kX5 23 1 rfl (by decide) rfl q318 rfl dX6_bind_42 ?_
          refine lv_iload_n hx hb dX6_bind_45 rfl (lv_at hl 2 rfl) ?_
          refine gL_i (v := (ww 24 x2.toNatClampNeg)) C hG 24 rfl (inb_in b1) rfl dX6_bind_46 ?_
          obtain ⟨x3_2, ex3_2, h⟩ := thn_some h
          refine g_int ex3_2 ?_
          refine lv_istore_n (lv' := [(3, .int x3_2), (0, .ref (ap 0)), (1, .ref (aw 23)), (2, .int x2)]) hx hb dX6_bind_47 rfl hl (by decide) rfl (fun ls hl => ?_)
          refine lv_aload_n hx hb dX6_bind_48 rfl (lv_at hl 1 rfl) ?_
          refine gL_f (v := .ref (ap 3)) C hG kX6 30 2 rfl (by decide) rfl q408 rfl dX6_bind_49 ?_
          refine lv_iload_n hx hb dX6_bind_52 rfl (lv_at hl 0 rfl) ?_
          refine lv_iconst (v := 1) hx hb dX6_bind_53 (by decide) ?_
          obtain ⟨b3, h⟩ := ck_some h
          obtain ⟨pp_4, epp_4, h⟩ := thn_some h
          refine gS_z (x := 1) (ws' := (rW E aw ww ++ (rP E ap pp_4 ++ []))) C hG 33 rfl (inb_in b3) rfl rfl dX6_bind_54 (by rw [epp_4]; rfl) (fun H locs hG => ?_)
          refine lv_aload_n hx hb dX6_bind_55 rfl (lv_at hl 1 rfl) ?_
          refine gL_f (v := .ref (ap 1)) C hG kX6 30 0 rfl (by decide) rfl q406 rfl dX6_bind_56 ?_
          refine lv_iload_n hx hb dX6_bind_59 rfl (lv_at hl 0 rfl) ?_
          refine lv_aload_n hx hb dX6_bind_60 rfl (lv_at hl 2 rfl) ?_
          refine gL_fN (v := .ref (aw 25)) C hG kX5 23 2 rfl (by decide) rfl q321 rfl dX6_bind_61 ?_
          refine lv_iload_n hx hb dX6_bind_64 rfl (lv_at hl 3 rfl) ?_
          refine gL_i (v := (ww 25 x2.toNatClampNeg)) C hG 25 rfl (inb_in b1) rfl dX6_bind_65 ?_
          refine lv_iconst (v := 1) hx hb dX6_bind_66 (by decide) ?_
          refine lv_icmp_ne (tgt := 74) hx hb dX6_bind_67 (by decide) (fun c67 => ?_) (fun c67 => ?_)
          · replace h := ie c67 h
            refine lv_iconst (v := 0) hx hb dX6_bind_74 (by decide) ?_
            exact K75 _ ih x2 x3_2 x3_2 0 pp_4 _ _ _ hG (lv_sub hl [1, 2, 3, 0] rfl) h
          · replace h := it c67 h
            refine lv_iconst (v := 1) hx hb dX6_bind_70 (by decide) ?_
            refine lv_goto (tgt := 75) hx hb dX6_bind_71 (by decide) ?_
            exact K75 _ ih x2 x3_2 x3_2 1 pp_4 _ _ _ hG (lv_sub hl [1, 2, 3, 0] rfl) h
  have K2 : ∀ (k : Nat), ∀  (x2 : Int32) (pp : RS) (H : Heap) (locs : List Loc) (ls : Array Slot), gG E A s.heap (rW E aw ww ++ (rP E ap pp ++ [])) H locs → lv_has ls 4 [(0, .ref (ap 0)), (1, .ref (aw 23)), (2, .int x2)] → fX6_bind_L2 N ww k x2 pp = some res → W p l e (rmD 1 0 0) s m args below meth c H locs 0 0 Q (F0 m 2 ls []) := by
    intro k
    induction k with
    | zero => intro x2 pp H locs ls hG hl h; exact absurd (show none = _ from h) (by simp)
    | succ k ih =>
      intro x2 pp H locs ls hG hl h
      rw [fX6_bind_L2] at h
      refine lv_iload_n hx hb dX6_bind_2 rfl (lv_at hl 2 rfl) ?_
      refine lv_bipush (v := 10) hx hb dX6_bind_3 (by decide) ?_
      refine lv_icmp_ge (tgt := 21) hx hb dX6_bind_5 (by decide) (fun c5 => ?_) (fun c5 => ?_)
      · replace h := it c5 h
        refine lv_iconst (v := 0) hx hb dX6_bind_21 (by decide) ?_
        refine lv_istore_n (lv' := [(2, .int 0), (0, .ref (ap 0)), (1, .ref (aw 23))]) hx hb dX6_bind_22 rfl hl (by decide) rfl (fun ls hl => ?_)
        exact K23 N 0 pp _ _ _ hG (lv_sub hl [1, 2, 0] rfl) h
      · replace h := ie c5 h
        refine lv_aload_n hx hb dX6_bind_8 rfl (lv_at hl 0 rfl) ?_
        refine gL_f (v := .ref (ap 3)) C hG kX6 30 2 rfl (by decide) rfl q408 rfl dX6_bind_9 ?_
        refine lv_iload_n hx hb dX6_bind_12 rfl (lv_at hl 2 rfl) ?_
        refine lv_iconst (v := 0) hx hb dX6_bind_13 (by decide) ?_
        obtain ⟨b1, h⟩ := ck_some h
        obtain ⟨pp_2, epp_2, h⟩ := thn_some h
        refine gS_z (x := 0) (ws' := (rW E aw ww ++ (rP E ap pp_2 ++ []))) C hG 33 rfl (inb_in b1) rfl rfl dX6_bind_14 (by rw [epp_2]; rfl) (fun H locs hG => ?_)
        refine lv_iinc (v := (x2 + 1)) (lv' := [(2, .int (x2 + 1)), (0, .ref (ap 0)), (1, .ref (aw 23))]) hx hb dX6_bind_15 hl (k := 2) rfl (congrArg (x2 + ·) (by decide : Int32.ofInt 1 = 1)) (by decide) rfl (fun ls hl => ?_)
        refine lv_goto (tgt := 2) hx hb dX6_bind_18 (by decide) ?_
        exact ih (x2 + 1) pp_2 _ _ _ hG (lv_sub hl [1, 2, 0] rfl) h
  rw [fX6_bind] at h
  refine lv_iconst (v := 0) hx hb dX6_bind_0 (by decide) ?_
  refine lv_istore_n (lv' := [(2, .int 0), (0, .ref (ap 0)), (1, .ref (aw 23))]) hx hb dX6_bind_1 rfl hl (by decide) rfl (fun ls hl => ?_)
  exact K2 N 0 pp _ _ _ hG (lv_sub hl [1, 2, 0] rfl) h
set_option maxHeartbeats 4000000 in
set_option maxRecDepth 100000 in
theorem c_X6_isWanted (l : Launch) (E : GE) (aw : Nat → Nat) (N : Nat) (x1 : Int32) (ww : RS) {res : Int32} (h : fX6_isWanted N x1 ww = some res) : gMi l E yX6_isWanted cX6_isWanted 2 .boolean 2 0 0 [.ref (aw 2), .int x1] (rW E aw ww ++ []) (rW E aw ww ++ []) res := by
  refine gMi_of (own := RX6) (by decide +kernel) rfl (Nat.le_of_ble_eq_true rfl) ?_
  intro p e s m args below meth c A ls Q H locs C hz hl hG hret
  have hx := C.1.1
  have hb := C.1.2.1
  have hts := C.1.2.2.2.2
  have hown := C.1.2.2.2.1
  have hl : lv_has ls 2 [(0, .ref (aw 2)), (1, .int x1)] := hl
  replace hret : ∀ (r0 : Int32) (H : Heap) (locs : List Loc) (pc : Nat) (ls' : Array Slot), some r0 = some res → narrow .boolean (.int r0) = .int r0 → gG E A s.heap (rW E aw ww ++ []) H locs → decode cX6_isWanted pc = .ok (.ireturn, 1) → W p l e (rmD 2 0 0) s m args below meth c H locs 0 0 Q (F0 m pc ls' [.int r0]) := by
    intro r0 H locs pc ls' e0 hn; cases e0; exact hret H locs pc ls' hn
  have K38 : ∀  (H : Heap) (locs : List Loc) (ls : Array Slot), gG E A s.heap (rW E aw ww ++ []) H locs → lv_has ls 2 [] → fX6_isWanted_L38 N x1 ww = some res → W p l e (rmD 2 0 0) s m args below meth c H locs 0 0 Q (F0 m 38 ls []) := by
    intro H locs ls hG hl h
    rw [fX6_isWanted_L38] at h
    refine lv_iconst (v := 1) hx hb dX6_isWanted_38 (by decide) ?_
    refine lv_goto (tgt := 43) hx hb dX6_isWanted_39 (by decide) ?_
    exact hret _ _ _ _ _ h rfl hG dX6_isWanted_43
  rw [fX6_isWanted] at h
  refine lv_aload_n hx hb dX6_isWanted_0 rfl (lv_at hl 0 rfl) ?_
  refine gL_fN (v := .ref (aw 4)) C hG kX2 2 1 rfl (by decide) rfl q215 rfl dX6_isWanted_1 ?_
  refine lv_iload_n hx hb dX6_isWanted_4 rfl (lv_at hl 1 rfl) ?_
  obtain ⟨b1, h⟩ := ck_some h
  refine gL_i (v := (ww 4 x1.toNatClampNeg)) C hG 4 rfl (inb_in b1) rfl dX6_isWanted_5 ?_
  refine lv_iconst (v := 1) hx hb dX6_isWanted_6 (by decide) ?_
  refine lv_icmp_eq (tgt := 38) hx hb dX6_isWanted_7 (by decide) (fun c7 => ?_) (fun c7 => ?_)
  · replace h := it c7 h
    exact K38 _ _ _ hG (lv_sub hl [] rfl) h
  · replace h := ie c7 h
    refine lv_aload_n hx hb dX6_isWanted_10 rfl (lv_at hl 0 rfl) ?_
    refine gL_fN (v := .ref (aw 10)) C hG kX2 2 7 rfl (by decide) rfl q232 rfl dX6_isWanted_11 ?_
    refine lv_iload_n hx hb dX6_isWanted_14 rfl (lv_at hl 1 rfl) ?_
    refine gL_i (v := (ww 10 x1.toNatClampNeg)) C hG 10 rfl (inb_in b1) rfl dX6_isWanted_15 ?_
    refine gF_i (ws' := (rW E aw ww ++ [])) C hG pst pst.symm (gR_S (As := [.int (ww 10 x1.toNatClampNeg)]) (rest := []) C hz hl.1 hG pst (c_J6_bitCount_0f7a4 l E (ww 10 x1.toNatClampNeg) rfl H.size) okJ6_bitCount_0f7a4 q978 rfl (Nat.le_of_ble_eq_true rfl) (by omega) ⟨Nat.le_refl _, Nat.le_refl _⟩ dX6_isWanted_16) (fun H locs _ hG => ?_)
    refine lv_iconst (v := 2) hx hb dX6_isWanted_19 (by decide) ?_
    refine lv_icmp_lt (tgt := 42) hx hb dX6_isWanted_20 (by decide) (fun c20 => ?_) (fun c20 => ?_)
    · replace h := it c20 h
      refine lv_iconst (v := 0) hx hb dX6_isWanted_42 (by decide) ?_
      exact hret _ _ _ _ _ h rfl hG dX6_isWanted_43
    · replace h := ie c20 h
      refine lv_aload_n hx hb dX6_isWanted_23 rfl (lv_at hl 0 rfl) ?_
      refine gL_fN (v := .ref (aw 12)) C hG kX2 2 9 rfl (by decide) rfl q237 rfl dX6_isWanted_24 ?_
      refine lv_iload_n hx hb dX6_isWanted_27 rfl (lv_at hl 1 rfl) ?_
      refine gL_i (v := (ww 12 x1.toNatClampNeg)) C hG 12 rfl (inb_in b1) rfl dX6_isWanted_28 ?_
      refine lv_aload_n hx hb dX6_isWanted_29 rfl (lv_at hl 0 rfl) ?_
      refine gL_fN (v := .ref (aw 11)) C hG kX2 2 8 rfl (by decide) rfl q234 rfl dX6_isWanted_30 ?_
      refine lv_iload_n hx hb dX6_isWanted_33 rfl (lv_at hl 1 rfl) ?_
      refine gL_i (v := (ww 11 x1.toNatClampNeg)) C hG 11 rfl (inb_in b1) rfl dX6_isWanted_34 ?_
      refine lv_icmp_gt (tgt := 42) hx hb dX6_isWanted_35 (by decide) (fun c35 => ?_) (fun c35 => ?_)
      · replace h := it c35 h
        refine lv_iconst (v := 0) hx hb dX6_isWanted_42 (by decide) ?_
        exact hret _ _ _ _ _ h rfl hG dX6_isWanted_43
      · replace h := ie c35 h
        exact K38 _ _ _ hG (lv_sub hl [] rfl) h
set_option maxHeartbeats 4000000 in
set_option maxRecDepth 100000 in
theorem c_X6_heatWorth (l : Launch) (E : GE) (x0 : Int32) (x1 : Int32) {res : Int32} (h : fX6_heatWorth x0 x1 = res) : gMi l E yX6_heatWorth cX6_heatWorth 2 .int 1 0 0 [.int x0, .int x1] [] [] res := by
  refine gMi_of (own := RX6) (by decide +kernel) rfl (Nat.le_of_ble_eq_true rfl) ?_
  intro p e s m args below meth c A ls Q H locs C hz hl hG hret
  have hx := C.1.1
  have hb := C.1.2.1
  have hts := C.1.2.2.2.2
  have hown := C.1.2.2.2.1
  have hl : lv_has ls 2 [(0, .int x0), (1, .int x1)] := hl
  replace hret : ∀ (r0 : Int32) (H : Heap) (locs : List Loc) (pc : Nat) (ls' : Array Slot), r0 = res → narrow .int (.int r0) = .int r0 → gG E A s.heap [] H locs → decode cX6_heatWorth pc = .ok (.ireturn, 1) → W p l e (rmD 1 0 0) s m args below meth c H locs 0 0 Q (F0 m pc ls' [.int r0]) := by
    intro r0 H locs pc ls' e0 hn; cases e0; exact hret H locs pc ls' hn
  rw [fX6_heatWorth] at h
  refine lv_iload_n hx hb dX6_heatWorth_0 rfl (lv_at hl 1 rfl) ?_
  refine lv_if_eq (tgt := 12) hx hb dX6_heatWorth_1 (by decide) (fun c1 => ?_) (fun c1 => ?_)
  · replace h := it c1 h
    refine lv_iload_n hx hb dX6_heatWorth_12 rfl (lv_at hl 0 rfl) ?_
    exact hret _ _ _ _ _ h rfl hG dX6_heatWorth_13
  · replace h := ie c1 h
    refine lv_iload_n hx hb dX6_heatWorth_4 rfl (lv_at hl 0 rfl) ?_
    refine lv_iload_n hx hb dX6_heatWorth_5 rfl (lv_at hl 0 rfl) ?_
    refine lv_iconst (v := 4) hx hb dX6_heatWorth_6 (by decide) ?_
    refine lv_idiv hx hb dX6_heatWorth_7 (by decide) ?_
    refine lv_iadd hx hb dX6_heatWorth_8 ?_
    refine lv_goto (tgt := 13) hx hb dX6_heatWorth_9 (by decide) ?_
    exact hret _ _ _ _ _ h rfl hG dX6_heatWorth_13
set_option maxHeartbeats 4000000 in
set_option maxRecDepth 100000 in
theorem c_X6_pinWorth (l : Launch) (E : GE) (x0 : Int32) {res : Int32} (h : fX6_pinWorth x0 = res) : gMi l E yX6_pinWorth cX6_pinWorth 1 .int 1 0 0 [.int x0] [] [] res := by
  refine gMi_of (own := RX6) (by decide +kernel) rfl (Nat.le_of_ble_eq_true rfl) ?_
  intro p e s m args below meth c A ls Q H locs C hz hl hG hret
  have hx := C.1.1
  have hb := C.1.2.1
  have hts := C.1.2.2.2.2
  have hown := C.1.2.2.2.1
  have hl : lv_has ls 1 [(0, .int x0)] := hl
  replace hret : ∀ (r0 : Int32) (H : Heap) (locs : List Loc) (pc : Nat) (ls' : Array Slot), r0 = res → narrow .int (.int r0) = .int r0 → gG E A s.heap [] H locs → decode cX6_pinWorth pc = .ok (.ireturn, 1) → W p l e (rmD 1 0 0) s m args below meth c H locs 0 0 Q (F0 m pc ls' [.int r0]) := by
    intro r0 H locs pc ls' e0 hn; cases e0; exact hret H locs pc ls' hn
  rw [fX6_pinWorth] at h
  refine lv_iload_n hx hb dX6_pinWorth_0 rfl (lv_at hl 0 rfl) ?_
  refine lv_iconst (v := 1) hx hb dX6_pinWorth_1 (by decide) ?_
  refine lv_icmp_ne (tgt := 8) hx hb dX6_pinWorth_2 (by decide) (fun c2 => ?_) (fun c2 => ?_)
  · replace h := ie c2 h
    refine lv_iload_n hx hb dX6_pinWorth_8 rfl (lv_at hl 0 rfl) ?_
    refine lv_iconst (v := 2) hx hb dX6_pinWorth_9 (by decide) ?_
    refine lv_icmp_ne (tgt := 18) hx hb dX6_pinWorth_10 (by decide) (fun c10 => ?_) (fun c10 => ?_)
    · replace h := ie c10 h
      refine lv_iconst (v := 0) hx hb dX6_pinWorth_18 (by decide) ?_
      exact hret _ _ _ _ _ h rfl hG dX6_pinWorth_19
    · replace h := it c10 h
      refine lv_ldc (v := (-100000)) hx hb hown (hts _ q992) dX6_pinWorth_13 ?_
      refine lv_goto (tgt := 19) hx hb dX6_pinWorth_15 (by decide) ?_
      exact hret _ _ _ _ _ h rfl hG dX6_pinWorth_19
  · replace h := it c2 h
    refine lv_ldc (v := 100000) hx hb hown (hts _ q991) dX6_pinWorth_5 ?_
    exact hret _ _ _ _ _ h rfl hG dX6_pinWorth_7
set_option maxHeartbeats 4000000 in
set_option maxRecDepth 100000 in
theorem c_X6_weigh (l : Launch) (E : GE) (aw : Nat → Nat) (ap : Nat → Nat) (N : Nat) (x2 : Int32) (ww : RS) (pp : RS) {res : RS} (h : fX6_weigh N x2 ww pp = some res) : gMv l E yX6_weigh cX6_weigh 7 3 0 0 [.ref (ap 0), .ref (aw 0), .int x2] (rW E aw ww ++ (rP E ap pp ++ [])) (rW E aw ww ++ (rP E ap res ++ [])) := by
  refine gMv_of (own := RX6) (by decide +kernel) rfl (Nat.le_of_ble_eq_true rfl) ?_
  intro p e s m args below meth c A ls Q H locs C hz hl hG hin hret
  have hx := C.1.1
  have hb := C.1.2.1
  have hts := C.1.2.2.2.2
  have hown := C.1.2.2.2.1
  have hl : lv_has ls 7 [(0, .ref (ap 0)), (1, .ref (aw 0)), (2, .int x2)] := hl
  replace hret : ∀ (pp0 : RS) (H : Heap) (locs : List Loc) (pc : Nat) (ls' : Array Slot), some pp0 = some res → gG E A s.heap (rW E aw ww ++ (rP E ap pp0 ++ [])) H locs → decode cX6_weigh pc = .ok (.return_, 1) → W p l e (rmD 3 0 0) s m args below meth c H locs 0 0 Q (F0 m pc ls' []) := by
    intro pp0 H locs pc ls' e0; cases e0; exact hret H locs pc ls'
  have K190 : ∀ (k21 : (Int32 → RS → Option (RS))) (hk21 : ∀  (x4 : Int32) (pp : RS) (H : Heap) (locs : List Loc) (ls : Array Slot), gG E A s.heap (rW E aw ww ++ (rP E ap pp ++ [])) H locs → lv_has ls 7 [(0, .ref (ap 0)), (1, .ref (aw 0)), (3, .ref (aw 2)), (4, .int x4)] → k21 x4 pp = some res → W p l e (rmD 3 0 0) s m args below meth c H locs 0 0 Q (F0 m 21 ls [])), ∀  (x4 : Int32) (x5 : Int32) (pp : RS) (H : Heap) (locs : List Loc) (ls : Array Slot), gG E A s.heap (rW E aw ww ++ (rP E ap pp ++ [])) H locs → lv_has ls 7 [(0, .ref (ap 0)), (1, .ref (aw 0)), (3, .ref (aw 2)), (4, .int x4), (5, .int x5)] → fX6_weigh_L190 N x2 ww k21 x4 x5 pp = some res → W p l e (rmD 3 0 0) s m args below meth c H locs 0 0 Q (F0 m 190 ls []) := by
    intro k21 hk21 x4 x5 pp H locs ls hG hl h
    rw [fX6_weigh_L190] at h
    refine lv_aload_n hx hb dX6_weigh_190 rfl (lv_at hl 0 rfl) ?_
    refine gL_f (v := .ref (ap 4)) C hG kX6 30 3 rfl (by decide) rfl q409 rfl dX6_weigh_191 ?_
    refine lv_iload hx hb dX6_weigh_194 (lv_at hl 3 rfl) ?_
    refine lv_aload_n hx hb dX6_weigh_196 rfl (lv_at hl 2 rfl) ?_
    refine gL_fN (v := .ref (aw 9)) C hG kX2 2 6 rfl (by decide) rfl q229 rfl dX6_weigh_197 ?_
    refine lv_iload hx hb dX6_weigh_200 (lv_at hl 3 rfl) ?_
    obtain ⟨b1, h⟩ := ck_some h
    refine gL_i (v := (ww 9 x4.toNatClampNeg)) C hG 9 rfl (inb_in b1) rfl dX6_weigh_202 ?_
    refine lv_iload hx hb dX6_weigh_203 (lv_at hl 4 rfl) ?_
    refine gF_i (ws' := (rW E aw ww ++ (rP E ap pp ++ []))) C hG pst pst.symm (gR_S (As := [.int (ww 9 x4.toNatClampNeg), .int x5]) (rest := [.int x4, .ref (ap 4)]) C hz hl.1 hG pst (c_X6_heatWorth l E (ww 9 x4.toNatClampNeg) x5 rfl H.size) okX6_heatWorth q985 rfl (Nat.le_of_ble_eq_true rfl) (by omega) ⟨Nat.le_refl _, Nat.le_refl _⟩ dX6_weigh_205) (fun H locs _ hG => ?_)
    refine lv_aload_n hx hb dX6_weigh_208 rfl (lv_at hl 2 rfl) ?_
    refine gL_fN (v := .ref (aw 4)) C hG kX2 2 1 rfl (by decide) rfl q215 rfl dX6_weigh_209 ?_
    refine lv_iload hx hb dX6_weigh_212 (lv_at hl 3 rfl) ?_
    refine gL_i (v := (ww 4 x4.toNatClampNeg)) C hG 4 rfl (inb_in b1) rfl dX6_weigh_214 ?_
    refine gF_i (ws' := (rW E aw ww ++ (rP E ap pp ++ []))) C hG pst pst.symm (gR_S (As := [.int (ww 4 x4.toNatClampNeg)]) (rest := [.int (fX6_heatWorth (ww 9 x4.toNatClampNeg) x5), .int x4, .ref (ap 4)]) C hz hl.1 hG pst (c_X6_pinWorth l E (ww 4 x4.toNatClampNeg) rfl H.size) okX6_pinWorth q988 rfl (Nat.le_of_ble_eq_true rfl) (by omega) ⟨Nat.le_refl _, Nat.le_refl _⟩ dX6_weigh_215) (fun H locs _ hG => ?_)
    refine lv_iadd hx hb dX6_weigh_218 ?_
    refine lv_aload_n hx hb dX6_weigh_219 rfl (lv_at hl 1 rfl) ?_
    refine gL_fN (v := .ref (aw 1)) C hG kX10 0 0 rfl (by decide) rfl q353 rfl dX6_weigh_220 ?_
    refine lv_bipush (v := 6) hx hb dX6_weigh_223 (by decide) ?_
    refine gL_i (v := (ww 1 6)) C hG 1 rfl (vp_in_nI (n := 6) (by decide) (by decide)) (congrArg (ww 1) (nI_clamp (n := 6) (by decide))) dX6_weigh_225 ?_
    refine lv_aload_n hx hb dX6_weigh_226 rfl (lv_at hl 0 rfl) ?_
    refine gL_f (v := .ref (ap 6)) C hG kX6 30 5 rfl (by decide) rfl q411 rfl dX6_weigh_227 ?_
    refine lv_iload hx hb dX6_weigh_230 (lv_at hl 3 rfl) ?_
    refine gL_i (v := (pp 6 x4.toNatClampNeg)) C hG 36 rfl (inb_in b1) rfl dX6_weigh_232 ?_
    refine lv_imul hx hb dX6_weigh_233 ?_
    refine lv_isub hx hb dX6_weigh_234 ?_
    obtain ⟨pp_2, epp_2, h⟩ := thn_some h
    refine gS_i (x := (((fX6_heatWorth (ww 9 x4.toNatClampNeg) x5) + (fX6_pinWorth (ww 4 x4.toNatClampNeg))) - ((ww 1 6) * (pp 6 x4.toNatClampNeg)))) (ws' := (rW E aw ww ++ (rP E ap pp_2 ++ []))) C hG 34 rfl (inb_in b1) rfl dX6_weigh_235 (by rw [epp_2]; rfl) (fun H locs hG => ?_)
    refine lv_aload_n hx hb dX6_weigh_236 rfl (lv_at hl 0 rfl) ?_
    refine gL_f (v := .ref (ap 5)) C hG kX6 30 4 rfl (by decide) rfl q410 rfl dX6_weigh_237 ?_
    refine lv_iload hx hb dX6_weigh_240 (lv_at hl 3 rfl) ?_
    refine lv_aload_n hx hb dX6_weigh_242 rfl (lv_at hl 1 rfl) ?_
    refine gL_fN (v := .ref (aw 1)) C hG kX10 0 0 rfl (by decide) rfl q353 rfl dX6_weigh_243 ?_
    refine lv_bipush (v := 6) hx hb dX6_weigh_246 (by decide) ?_
    refine gL_i (v := (ww 1 6)) C hG 1 rfl (vp_in_nI (n := 6) (by decide) (by decide)) (congrArg (ww 1) (nI_clamp (n := 6) (by decide))) dX6_weigh_248 ?_
    refine lv_ineg hx hb dX6_weigh_249 ?_
    refine lv_aload_n hx hb dX6_weigh_250 rfl (lv_at hl 0 rfl) ?_
    refine gL_f (v := .ref (ap 7)) C hG kX6 30 6 rfl (by decide) rfl q412 rfl dX6_weigh_251 ?_
    refine lv_iload hx hb dX6_weigh_254 (lv_at hl 3 rfl) ?_
    refine gL_i (v := (pp_2 7 x4.toNatClampNeg)) C hG 37 rfl (inb_in b1) rfl dX6_weigh_256 ?_
    refine lv_imul hx hb dX6_weigh_257 ?_
    obtain ⟨pp_3, epp_3, h⟩ := thn_some h
    refine gS_i (x := ((-(ww 1 6)) * (pp_2 7 x4.toNatClampNeg))) (ws' := (rW E aw ww ++ (rP E ap pp_3 ++ []))) C hG 35 rfl (inb_in b1) rfl dX6_weigh_258 (by rw [epp_3]; rfl) (fun H locs hG => ?_)
    refine lv_iinc (v := (x4 + 1)) (lv' := [(4, .int (x4 + 1)), (0, .ref (ap 0)), (1, .ref (aw 0)), (3, .ref (aw 2)), (5, .int x5)]) hx hb dX6_weigh_259 hl (k := 3) rfl (congrArg (x4 + ·) (by decide : Int32.ofInt 1 = 1)) (by decide) rfl (fun ls hl => ?_)
    refine lv_goto (tgt := 21) hx hb dX6_weigh_262 (by decide) ?_
    exact hk21 (x4 + 1) pp_3 _ _ _ hG (lv_sub hl [1, 2, 3, 0] rfl) h
  have K172 : ∀ (k21 : (Int32 → RS → Option (RS))) (hk21 : ∀  (x4 : Int32) (pp : RS) (H : Heap) (locs : List Loc) (ls : Array Slot), gG E A s.heap (rW E aw ww ++ (rP E ap pp ++ [])) H locs → lv_has ls 7 [(0, .ref (ap 0)), (1, .ref (aw 0)), (3, .ref (aw 2)), (4, .int x4)] → k21 x4 pp = some res → W p l e (rmD 3 0 0) s m args below meth c H locs 0 0 Q (F0 m 21 ls [])), ∀  (x4 : Int32) (x5 : Int32) (s1 : Int32) (s2 : Int32) (pp : RS) (H : Heap) (locs : List Loc) (ls : Array Slot), gG E A s.heap (rW E aw ww ++ (rP E ap pp ++ [])) H locs → lv_has ls 7 [(0, .ref (ap 0)), (1, .ref (aw 0)), (3, .ref (aw 2)), (4, .int x4), (5, .int x5)] → fX6_weigh_L172 N x2 ww k21 x4 x5 s1 s2 pp = some res → W p l e (rmD 3 0 0) s m args below meth c H locs 0 0 Q (F0 m 172 ls [.int s2, .int s1, .ref (ap 6)]) := by
    intro k21 hk21 x4 x5 s1 s2 pp H locs ls hG hl h
    rw [fX6_weigh_L172] at h
    obtain ⟨b1, h⟩ := ck_some h
    obtain ⟨pp_2, epp_2, h⟩ := thn_some h
    refine gS_i (x := s2) (ws' := (rW E aw ww ++ (rP E ap pp_2 ++ []))) C hG 36 rfl (inb_in b1) rfl dX6_weigh_172 (by rw [epp_2]; rfl) (fun H locs hG => ?_)
    refine lv_aload_n hx hb dX6_weigh_173 rfl (lv_at hl 0 rfl) ?_
    refine gL_f (v := .ref (ap 7)) C hG kX6 30 6 rfl (by decide) rfl q412 rfl dX6_weigh_174 ?_
    refine lv_iload hx hb dX6_weigh_177 (lv_at hl 3 rfl) ?_
    refine lv_aload_n hx hb dX6_weigh_179 rfl (lv_at hl 2 rfl) ?_
    refine gL_fN (v := .ref (aw 6)) C hG kX2 2 3 rfl (by decide) rfl q221 rfl dX6_weigh_180 ?_
    refine lv_iload hx hb dX6_weigh_183 (lv_at hl 3 rfl) ?_
    obtain ⟨b3, h⟩ := ck_some h
    refine gL_i (v := (ww 6 x4.toNatClampNeg)) C hG 6 rfl (inb_in b3) rfl dX6_weigh_185 ?_
    refine gF_i (ws' := (rW E aw ww ++ (rP E ap pp_2 ++ []))) C hG pst pst.symm (gR_S (As := [.int (ww 6 x4.toNatClampNeg)]) (rest := [.int x4, .ref (ap 7)]) C hz hl.1 hG pst (c_J6_bitCount_0f7a4 l E (ww 6 x4.toNatClampNeg) rfl H.size) okJ6_bitCount_0f7a4 q978 rfl (Nat.le_of_ble_eq_true rfl) (by omega) ⟨Nat.le_refl _, Nat.le_refl _⟩ dX6_weigh_186) (fun H locs _ hG => ?_)
    obtain ⟨pp_4, epp_4, h⟩ := thn_some h
    refine gS_i (x := (fJ6_bitCount_0f7a4 (ww 6 x4.toNatClampNeg))) (ws' := (rW E aw ww ++ (rP E ap pp_4 ++ []))) C hG 37 rfl (inb_in b3) rfl dX6_weigh_189 (by rw [epp_4]; rfl) (fun H locs hG => ?_)
    exact K190 _ hk21 x4 x5 pp_4 _ _ _ hG (lv_sub hl [0, 1, 2, 3, 4] rfl) h
  have K150 : ∀ (k21 : (Int32 → RS → Option (RS))) (hk21 : ∀  (x4 : Int32) (pp : RS) (H : Heap) (locs : List Loc) (ls : Array Slot), gG E A s.heap (rW E aw ww ++ (rP E ap pp ++ [])) H locs → lv_has ls 7 [(0, .ref (ap 0)), (1, .ref (aw 0)), (3, .ref (aw 2)), (4, .int x4)] → k21 x4 pp = some res → W p l e (rmD 3 0 0) s m args below meth c H locs 0 0 Q (F0 m 21 ls [])), ∀  (x4 : Int32) (x5 : Int32) (s1 : Int32) (s2 : Int32) (pp : RS) (H : Heap) (locs : List Loc) (ls : Array Slot), gG E A s.heap (rW E aw ww ++ (rP E ap pp ++ [])) H locs → lv_has ls 7 [(0, .ref (ap 0)), (1, .ref (aw 0)), (3, .ref (aw 2)), (4, .int x4), (5, .int x5)] → fX6_weigh_L150 N x2 ww k21 x4 x5 s1 s2 pp = some res → W p l e (rmD 3 0 0) s m args below meth c H locs 0 0 Q (F0 m 150 ls [.int s2, .int s1, .ref (ap 2)]) := by
    intro k21 hk21 x4 x5 s1 s2 pp H locs ls hG hl h
    rw [fX6_weigh_L150] at h
    obtain ⟨b1, h⟩ := ck_some h
    obtain ⟨b2, h⟩ := ck_some h
    obtain ⟨pp_3, epp_3, h⟩ := thn_some h
    refine gS_z (x := s2) (ws' := (rW E aw ww ++ (rP E ap pp_3 ++ []))) C hG 32 rfl (inb_in b1) rfl (isB_v b2) dX6_weigh_150 (by rw [epp_3]; rfl) (fun H locs hG => ?_)
    refine lv_aload_n hx hb dX6_weigh_151 rfl (lv_at hl 0 rfl) ?_
    refine gL_f (v := .ref (ap 6)) C hG kX6 30 5 rfl (by decide) rfl q411 rfl dX6_weigh_152 ?_
    refine lv_iload hx hb dX6_weigh_155 (lv_at hl 3 rfl) ?_
    refine lv_iload hx hb dX6_weigh_157 (lv_at hl 4 rfl) ?_
    refine lv_if_eq (tgt := 166) hx hb dX6_weigh_159 (by decide) (fun c159 => ?_) (fun c159 => ?_)
    · replace h := it c159 h
      refine gT_zN C hG q984 dX6_weigh_166 ?_
      refine lv_iload hx hb dX6_weigh_169 (lv_at hl 3 rfl) ?_
      obtain ⟨b4, h⟩ := ck_some h
      refine gT_zi (v := (sizeT x4.toNatClampNeg)) C hG (inb_in b4) rfl dX6_weigh_171 ?_
      exact K172 _ hk21 x4 x5 x4 (sizeT x4.toNatClampNeg) pp_3 _ _ _ hG (lv_sub hl [0, 1, 2, 3, 4] rfl) h
    · replace h := ie c159 h
      refine lv_iconst (v := 0) hx hb dX6_weigh_162 (by decide) ?_
      refine lv_goto (tgt := 172) hx hb dX6_weigh_163 (by decide) ?_
      exact K172 _ hk21 x4 x5 x4 0 pp_3 _ _ _ hG (lv_sub hl [0, 1, 2, 3, 4] rfl) h
  have K145 : ∀ (k21 : (Int32 → RS → Option (RS))) (hk21 : ∀  (x4 : Int32) (pp : RS) (H : Heap) (locs : List Loc) (ls : Array Slot), gG E A s.heap (rW E aw ww ++ (rP E ap pp ++ [])) H locs → lv_has ls 7 [(0, .ref (ap 0)), (1, .ref (aw 0)), (3, .ref (aw 2)), (4, .int x4)] → k21 x4 pp = some res → W p l e (rmD 3 0 0) s m args below meth c H locs 0 0 Q (F0 m 21 ls [])), ∀  (x4 : Int32) (x5 : Int32) (s1 : Int32) (pp : RS) (H : Heap) (locs : List Loc) (ls : Array Slot), gG E A s.heap (rW E aw ww ++ (rP E ap pp ++ [])) H locs → lv_has ls 7 [(0, .ref (ap 0)), (1, .ref (aw 0)), (3, .ref (aw 2)), (4, .int x4), (5, .int x5)] → fX6_weigh_L145 N x2 ww k21 x4 x5 s1 pp = some res → W p l e (rmD 3 0 0) s m args below meth c H locs 0 0 Q (F0 m 145 ls [.int s1, .ref (ap 2)]) := by
    intro k21 hk21 x4 x5 s1 pp H locs ls hG hl h
    rw [fX6_weigh_L145] at h
    refine lv_iconst (v := 1) hx hb dX6_weigh_145 (by decide) ?_
    refine lv_goto (tgt := 150) hx hb dX6_weigh_146 (by decide) ?_
    exact K150 _ hk21 x4 x5 s1 1 pp _ _ _ hG (lv_sub hl [0, 1, 2, 3, 4] rfl) h
  have K128 : ∀ (k21 : (Int32 → RS → Option (RS))) (hk21 : ∀  (x4 : Int32) (pp : RS) (H : Heap) (locs : List Loc) (ls : Array Slot), gG E A s.heap (rW E aw ww ++ (rP E ap pp ++ [])) H locs → lv_has ls 7 [(0, .ref (ap 0)), (1, .ref (aw 0)), (3, .ref (aw 2)), (4, .int x4)] → k21 x4 pp = some res → W p l e (rmD 3 0 0) s m args below meth c H locs 0 0 Q (F0 m 21 ls [])), ∀  (x4 : Int32) (x5 : Int32) (x6 : Int32) (s1 : Int32) (s2 : Int32) (pp : RS) (H : Heap) (locs : List Loc) (ls : Array Slot), gG E A s.heap (rW E aw ww ++ (rP E ap pp ++ [])) H locs → lv_has ls 7 [(0, .ref (ap 0)), (1, .ref (aw 0)), (3, .ref (aw 2)), (4, .int x4), (5, .int x5), (6, .int x6)] → fX6_weigh_L128 N x2 ww k21 x4 x5 x6 s1 s2 pp = some res → W p l e (rmD 3 0 0) s m args below meth c H locs 0 0 Q (F0 m 128 ls [.int s2, .int s1, .ref (ap 1)]) := by
    intro k21 hk21 x4 x5 x6 s1 s2 pp H locs ls hG hl h
    rw [fX6_weigh_L128] at h
    obtain ⟨b1, h⟩ := ck_some h
    obtain ⟨b2, h⟩ := ck_some h
    obtain ⟨pp_3, epp_3, h⟩ := thn_some h
    refine gS_z (x := s2) (ws' := (rW E aw ww ++ (rP E ap pp_3 ++ []))) C hG 31 rfl (inb_in b1) rfl (isB_v b2) dX6_weigh_128 (by rw [epp_3]; rfl) (fun H locs hG => ?_)
    refine lv_aload_n hx hb dX6_weigh_129 rfl (lv_at hl 0 rfl) ?_
    refine gL_f (v := .ref (ap 2)) C hG kX6 30 1 rfl (by decide) rfl q407 rfl dX6_weigh_130 ?_
    refine lv_iload hx hb dX6_weigh_133 (lv_at hl 3 rfl) ?_
    refine lv_iload hx hb dX6_weigh_135 (lv_at hl 4 rfl) ?_
    refine lv_if_eq (tgt := 145) hx hb dX6_weigh_137 (by decide) (fun c137 => ?_) (fun c137 => ?_)
    · replace h := it c137 h
      exact K145 _ hk21 x4 x5 x4 pp_3 _ _ _ hG (lv_sub hl [0, 1, 2, 3, 4] rfl) h
    · replace h := ie c137 h
      refine lv_iload hx hb dX6_weigh_140 (lv_at hl 5 rfl) ?_
      refine lv_if_ne (tgt := 149) hx hb dX6_weigh_142 (by decide) (fun c142 => ?_) (fun c142 => ?_)
      · replace h := ie c142 h
        refine lv_iconst (v := 0) hx hb dX6_weigh_149 (by decide) ?_
        exact K150 _ hk21 x4 x5 x4 0 pp_3 _ _ _ hG (lv_sub hl [0, 1, 2, 3, 4] rfl) h
      · replace h := it c142 h
        exact K145 _ hk21 x4 x5 x4 pp_3 _ _ _ hG (lv_sub hl [0, 1, 2, 3, 4] rfl) h
  have K123 : ∀ (k21 : (Int32 → RS → Option (RS))) (hk21 : ∀  (x4 : Int32) (pp : RS) (H : Heap) (locs : List Loc) (ls : Array Slot), gG E A s.heap (rW E aw ww ++ (rP E ap pp ++ [])) H locs → lv_has ls 7 [(0, .ref (ap 0)), (1, .ref (aw 0)), (3, .ref (aw 2)), (4, .int x4)] → k21 x4 pp = some res → W p l e (rmD 3 0 0) s m args below meth c H locs 0 0 Q (F0 m 21 ls [])), ∀  (x4 : Int32) (x5 : Int32) (x6 : Int32) (s1 : Int32) (pp : RS) (H : Heap) (locs : List Loc) (ls : Array Slot), gG E A s.heap (rW E aw ww ++ (rP E ap pp ++ [])) H locs → lv_has ls 7 [(0, .ref (ap 0)), (1, .ref (aw 0)), (3, .ref (aw 2)), (4, .int x4), (5, .int x5), (6, .int x6)] → fX6_weigh_L123 N x2 ww k21 x4 x5 x6 s1 pp = some res → W p l e (rmD 3 0 0) s m args below meth c H locs 0 0 Q (F0 m 123 ls [.int s1, .ref (ap 1)]) := by
    intro k21 hk21 x4 x5 x6 s1 pp H locs ls hG hl h
    rw [fX6_weigh_L123] at h
    refine lv_iconst (v := 1) hx hb dX6_weigh_123 (by decide) ?_
    refine lv_goto (tgt := 128) hx hb dX6_weigh_124 (by decide) ?_
    exact K128 _ hk21 x4 x5 x6 s1 1 pp _ _ _ hG (lv_sub hl [0, 1, 2, 3, 4, 5] rfl) h
  have K127 : ∀ (k21 : (Int32 → RS → Option (RS))) (hk21 : ∀  (x4 : Int32) (pp : RS) (H : Heap) (locs : List Loc) (ls : Array Slot), gG E A s.heap (rW E aw ww ++ (rP E ap pp ++ [])) H locs → lv_has ls 7 [(0, .ref (ap 0)), (1, .ref (aw 0)), (3, .ref (aw 2)), (4, .int x4)] → k21 x4 pp = some res → W p l e (rmD 3 0 0) s m args below meth c H locs 0 0 Q (F0 m 21 ls [])), ∀  (x4 : Int32) (x5 : Int32) (x6 : Int32) (s1 : Int32) (pp : RS) (H : Heap) (locs : List Loc) (ls : Array Slot), gG E A s.heap (rW E aw ww ++ (rP E ap pp ++ [])) H locs → lv_has ls 7 [(0, .ref (ap 0)), (1, .ref (aw 0)), (3, .ref (aw 2)), (4, .int x4), (5, .int x5), (6, .int x6)] → fX6_weigh_L127 N x2 ww k21 x4 x5 x6 s1 pp = some res → W p l e (rmD 3 0 0) s m args below meth c H locs 0 0 Q (F0 m 127 ls [.int s1, .ref (ap 1)]) := by
    intro k21 hk21 x4 x5 x6 s1 pp H locs ls hG hl h
    rw [fX6_weigh_L127] at h
    refine lv_iconst (v := 0) hx hb dX6_weigh_127 (by decide) ?_
    exact K128 _ hk21 x4 x5 x6 s1 0 pp _ _ _ hG (lv_sub hl [0, 1, 2, 3, 4, 5] rfl) h
  have K67 : ∀ (k21 : (Int32 → RS → Option (RS))) (hk21 : ∀  (x4 : Int32) (pp : RS) (H : Heap) (locs : List Loc) (ls : Array Slot), gG E A s.heap (rW E aw ww ++ (rP E ap pp ++ [])) H locs → lv_has ls 7 [(0, .ref (ap 0)), (1, .ref (aw 0)), (3, .ref (aw 2)), (4, .int x4)] → k21 x4 pp = some res → W p l e (rmD 3 0 0) s m args below meth c H locs 0 0 Q (F0 m 21 ls [])), ∀  (x4 : Int32) (x5 : Int32) (s0 : Int32) (pp : RS) (H : Heap) (locs : List Loc) (ls : Array Slot), gG E A s.heap (rW E aw ww ++ (rP E ap pp ++ [])) H locs → lv_has ls 7 [(0, .ref (ap 0)), (1, .ref (aw 0)), (3, .ref (aw 2)), (4, .int x4), (5, .int x5)] → fX6_weigh_L67 N x2 ww k21 x4 x5 s0 pp = some res → W p l e (rmD 3 0 0) s m args below meth c H locs 0 0 Q (F0 m 67 ls [.int s0]) := by
    intro k21 hk21 x4 x5 s0 pp H locs ls hG hl h
    rw [fX6_weigh_L67] at h
    refine lv_istore (lv' := [(6, .int s0), (0, .ref (ap 0)), (1, .ref (aw 0)), (3, .ref (aw 2)), (4, .int x4), (5, .int x5)]) hx hb dX6_weigh_67 hl (by decide) rfl (fun ls hl => ?_)
    refine lv_aload_n hx hb dX6_weigh_69 rfl (lv_at hl 1 rfl) ?_
    refine gL_f (v := .ref (ap 3)) C hG kX6 30 2 rfl (by decide) rfl q408 rfl dX6_weigh_70 ?_
    refine lv_iload hx hb dX6_weigh_73 (lv_at hl 4 rfl) ?_
    obtain ⟨b1, h⟩ := ck_some h
    refine gL_z (v := (pp 3 x4.toNatClampNeg)) C hG 33 rfl (inb_in b1) rfl dX6_weigh_75 ?_
    refine lv_if_eq (tgt := 98) hx hb dX6_weigh_76 (by decide) (fun c76 => ?_) (fun c76 => ?_)
    · replace h := it c76 h
      refine lv_aload_n hx hb dX6_weigh_98 rfl (lv_at hl 1 rfl) ?_
      refine gL_f (v := .ref (ap 1)) C hG kX6 30 0 rfl (by decide) rfl q406 rfl dX6_weigh_99 ?_
      refine lv_iload hx hb dX6_weigh_102 (lv_at hl 4 rfl) ?_
      refine lv_iload hx hb dX6_weigh_104 (lv_at hl 5 rfl) ?_
      refine lv_if_ne (tgt := 123) hx hb dX6_weigh_106 (by decide) (fun c106 => ?_) (fun c106 => ?_)
      · replace h := ie c106 h
        exact K123 _ hk21 x4 x5 s0 x4 pp _ _ _ hG (lv_sub hl [1, 2, 3, 4, 5, 0] rfl) h
      · replace h := it c106 h
        refine lv_iload hx hb dX6_weigh_109 (lv_at hl 0 rfl) ?_
        refine lv_if_ne (tgt := 127) hx hb dX6_weigh_111 (by decide) (fun c111 => ?_) (fun c111 => ?_)
        · replace h := ie c111 h
          exact K127 _ hk21 x4 x5 s0 x4 pp _ _ _ hG (lv_sub hl [1, 2, 3, 4, 5, 0] rfl) h
        · replace h := it c111 h
          refine lv_aload_n hx hb dX6_weigh_114 rfl (lv_at hl 3 rfl) ?_
          refine lv_iload hx hb dX6_weigh_115 (lv_at hl 4 rfl) ?_
          obtain ⟨r2, hcr2, h⟩ := bnd_some h
          refine gF_i (ws' := (rW E aw ww ++ (rP E ap pp ++ []))) C hG (pin (pout pnil)) (List.Perm.symm (pin (pout pnil))) (gR_S (As := [.ref (aw 2), .int x4]) (rest := [.int x4, .ref (ap 1)]) C hz hl.1 hG (pin (pout pnil)) (c_X6_isWanted l E aw N x4 ww hcr2 H.size) okX6_isWanted q975 rfl (Nat.le_of_ble_eq_true rfl) (by omega) ⟨Nat.le_refl _, Nat.le_refl _⟩ dX6_weigh_117) (fun H locs z3 hG => ?_)
          refine lv_if_eq (tgt := 127) hx hb dX6_weigh_120 (by decide) (fun c120 => ?_) (fun c120 => ?_)
          · replace h := it c120 h
            exact K127 _ hk21 x4 x5 s0 x4 pp _ _ _ hG (lv_sub hl [1, 2, 3, 4, 5, 0] rfl) h
          · replace h := ie c120 h
            exact K123 _ hk21 x4 x5 s0 x4 pp _ _ _ hG (lv_sub hl [1, 2, 3, 4, 5, 0] rfl) h
    · replace h := ie c76 h
      refine lv_aload_n hx hb dX6_weigh_79 rfl (lv_at hl 1 rfl) ?_
      refine gL_f (v := .ref (ap 6)) C hG kX6 30 5 rfl (by decide) rfl q411 rfl dX6_weigh_80 ?_
      refine lv_iload hx hb dX6_weigh_83 (lv_at hl 4 rfl) ?_
      refine lv_iconst (v := 0) hx hb dX6_weigh_85 (by decide) ?_
      obtain ⟨pp_4, epp_4, h⟩ := thn_some h
      refine gS_i (x := 0) (ws' := (rW E aw ww ++ (rP E ap pp_4 ++ []))) C hG 36 rfl (inb_in b1) rfl dX6_weigh_86 (by rw [epp_4]; rfl) (fun H locs hG => ?_)
      refine lv_aload_n hx hb dX6_weigh_87 rfl (lv_at hl 1 rfl) ?_
      refine gL_f (v := .ref (ap 7)) C hG kX6 30 6 rfl (by decide) rfl q412 rfl dX6_weigh_88 ?_
      refine lv_iload hx hb dX6_weigh_91 (lv_at hl 4 rfl) ?_
      refine lv_iconst (v := 0) hx hb dX6_weigh_93 (by decide) ?_
      obtain ⟨pp_5, epp_5, h⟩ := thn_some h
      refine gS_i (x := 0) (ws' := (rW E aw ww ++ (rP E ap pp_5 ++ []))) C hG 37 rfl (inb_in b1) rfl dX6_weigh_94 (by rw [epp_5]; rfl) (fun H locs hG => ?_)
      refine lv_goto (tgt := 190) hx hb dX6_weigh_95 (by decide) ?_
      exact K190 _ hk21 x4 x5 pp_5 _ _ _ hG (lv_sub hl [1, 2, 3, 4, 5] rfl) h
  have K44 : ∀ (k21 : (Int32 → RS → Option (RS))) (hk21 : ∀  (x4 : Int32) (pp : RS) (H : Heap) (locs : List Loc) (ls : Array Slot), gG E A s.heap (rW E aw ww ++ (rP E ap pp ++ [])) H locs → lv_has ls 7 [(0, .ref (ap 0)), (1, .ref (aw 0)), (3, .ref (aw 2)), (4, .int x4)] → k21 x4 pp = some res → W p l e (rmD 3 0 0) s m args below meth c H locs 0 0 Q (F0 m 21 ls [])), ∀  (x4 : Int32) (s0 : Int32) (pp : RS) (H : Heap) (locs : List Loc) (ls : Array Slot), gG E A s.heap (rW E aw ww ++ (rP E ap pp ++ [])) H locs → lv_has ls 7 [(0, .ref (ap 0)), (1, .ref (aw 0)), (3, .ref (aw 2)), (4, .int x4)] → fX6_weigh_L44 N x2 ww k21 x4 s0 pp = some res → W p l e (rmD 3 0 0) s m args below meth c H locs 0 0 Q (F0 m 44 ls [.int s0]) := by
    intro k21 hk21 x4 s0 pp H locs ls hG hl h
    rw [fX6_weigh_L44] at h
    refine lv_istore (lv' := [(5, .int s0), (0, .ref (ap 0)), (1, .ref (aw 0)), (3, .ref (aw 2)), (4, .int x4)]) hx hb dX6_weigh_44 hl (by decide) rfl (fun ls hl => ?_)
    refine lv_aload_n hx hb dX6_weigh_46 rfl (lv_at hl 3 rfl) ?_
    refine gL_fN (v := .ref (aw 5)) C hG kX2 2 2 rfl (by decide) rfl q218 rfl dX6_weigh_47 ?_
    refine lv_iload hx hb dX6_weigh_50 (lv_at hl 4 rfl) ?_
    obtain ⟨b1, h⟩ := ck_some h
    refine gL_i (v := (ww 5 x4.toNatClampNeg)) C hG 5 rfl (inb_in b1) rfl dX6_weigh_52 ?_
    refine lv_aload_n hx hb dX6_weigh_53 rfl (lv_at hl 2 rfl) ?_
    refine gL_fN (v := .ref (aw 1)) C hG kX10 0 0 rfl (by decide) rfl q353 rfl dX6_weigh_54 ?_
    refine lv_iconst (v := 2) hx hb dX6_weigh_57 (by decide) ?_
    refine gL_i (v := (ww 1 2)) C hG 1 rfl (vp_in_nI (n := 2) (by decide) (by decide)) (congrArg (ww 1) (nI_clamp (n := 2) (by decide))) dX6_weigh_58 ?_
    refine lv_icmp_le (tgt := 66) hx hb dX6_weigh_59 (by decide) (fun c59 => ?_) (fun c59 => ?_)
    · replace h := it c59 h
      refine lv_iconst (v := 0) hx hb dX6_weigh_66 (by decide) ?_
      exact K67 _ hk21 x4 s0 0 pp _ _ _ hG (lv_sub hl [1, 2, 3, 4, 0] rfl) h
    · replace h := ie c59 h
      refine lv_iconst (v := 1) hx hb dX6_weigh_62 (by decide) ?_
      refine lv_goto (tgt := 67) hx hb dX6_weigh_63 (by decide) ?_
      exact K67 _ hk21 x4 s0 1 pp _ _ _ hG (lv_sub hl [1, 2, 3, 4, 0] rfl) h
  have K21 : ∀ (k : Nat), ∀  (x4 : Int32) (pp : RS) (H : Heap) (locs : List Loc) (ls : Array Slot), gG E A s.heap (rW E aw ww ++ (rP E ap pp ++ [])) H locs → lv_has ls 7 [(0, .ref (ap 0)), (1, .ref (aw 0)), (3, .ref (aw 2)), (4, .int x4)] → fX6_weigh_L21 N x2 ww k x4 pp = some res → W p l e (rmD 3 0 0) s m args below meth c H locs 0 0 Q (F0 m 21 ls []) := by
    intro k
    induction k with
    | zero => intro x4 pp H locs ls hG hl h; exact absurd (show none = _ from h) (by simp)
    | succ k ih =>
      intro x4 pp H locs ls hG hl h
      rw [fX6_weigh_L21] at h
      refine lv_iload hx hb dX6_weigh_21 (lv_at hl 3 rfl) ?_
      refine lv_bipush (v := 10) hx hb dX6_weigh_23 (by decide) ?_
      refine lv_icmp_ge (tgt := 265) hx hb dX6_weigh_25 (by decide) (fun c25 => ?_) (fun c25 => ?_)
      · replace h := it c25 h
        exact hret _ _ _ _ _ h hG dX6_weigh_265
      · replace h := ie c25 h
        refine lv_aload_n hx hb dX6_weigh_28 rfl (lv_at hl 2 rfl) ?_
        refine gL_fN (v := .ref (aw 3)) C hG kX2 2 0 rfl (by decide) rfl q211 rfl dX6_weigh_29 ?_
        refine lv_iload hx hb dX6_weigh_32 (lv_at hl 3 rfl) ?_
        obtain ⟨b1, h⟩ := ck_some h
        refine gL_i (v := (ww 3 x4.toNatClampNeg)) C hG 3 rfl (inb_in b1) rfl dX6_weigh_34 ?_
        refine lv_iconst (v := 1) hx hb dX6_weigh_35 (by decide) ?_
        refine lv_icmp_ne (tgt := 43) hx hb dX6_weigh_36 (by decide) (fun c36 => ?_) (fun c36 => ?_)
        · replace h := ie c36 h
          refine lv_iconst (v := 0) hx hb dX6_weigh_43 (by decide) ?_
          exact K44 _ ih x4 0 pp _ _ _ hG (lv_sub hl [0, 1, 2, 3] rfl) h
        · replace h := it c36 h
          refine lv_iconst (v := 1) hx hb dX6_weigh_39 (by decide) ?_
          refine lv_goto (tgt := 44) hx hb dX6_weigh_40 (by decide) ?_
          exact K44 _ ih x4 1 pp _ _ _ hG (lv_sub hl [0, 1, 2, 3] rfl) h
  rw [fX6_weigh] at h
  refine lv_aload_n hx hb dX6_weigh_0 rfl (lv_at hl 0 rfl) ?_
  refine lv_iload_n hx hb dX6_weigh_1 rfl (lv_at hl 2 rfl) ?_
  obtain ⟨pp_1, epp_1, h⟩ := thn_some h
  refine gS_f (v := .int x2) (ws' := (rW E aw ww ++ (rP E ap pp_1 ++ []))) C hG kX6 30 7 rfl (by decide) q413 rfl rfl rfl rfl (by show 7 < 13; decide) dX6_weigh_2 (by rw [epp_1]; rfl) (fun H locs hG => ?_)
  refine lv_aload_n hx hb dX6_weigh_5 rfl (lv_at hl 0 rfl) ?_
  refine lv_aload_n hx hb dX6_weigh_6 rfl (lv_at hl 1 rfl) ?_
  refine gL_fN (v := .ref (aw 23)) C hG kX10 0 4 rfl (by decide) rfl q363 rfl dX6_weigh_7 ?_
  obtain ⟨r2, hcr2, h⟩ := bnd_some h
  refine gF_v (ws' := (rW E aw ww ++ (rP E ap r2 ++ []))) C hG (pin (pin pnil)) (List.Perm.symm (pin (pin pnil))) (gR_V (As := [.ref (aw 23)]) (rest := []) C hz hl.1 hG (pin (pin pnil)) (c_X6_bind l E aw ap N ww pp_1 hcr2 H.size) okX6_bind q971 30 rfl rfl rfl (Nat.le_of_ble_eq_true rfl) (by omega) ⟨Nat.le_refl _, Nat.le_refl _⟩ dX6_weigh_10) (fun H locs hG => ?_)
  refine lv_aload_n hx hb dX6_weigh_13 rfl (lv_at hl 1 rfl) ?_
  refine gL_fN (v := .ref (aw 2)) C hG kX10 0 1 rfl (by decide) rfl q356 rfl dX6_weigh_14 ?_
  refine lv_astore_n (lv' := [(3, .ref (aw 2)), (0, .ref (ap 0)), (1, .ref (aw 0)), (2, .int x2)]) hx hb dX6_weigh_17 rfl hl (by decide) rfl (fun ls hl => ?_)
  refine lv_iconst (v := 0) hx hb dX6_weigh_18 (by decide) ?_
  refine lv_istore (lv' := [(4, .int 0), (3, .ref (aw 2)), (0, .ref (ap 0)), (1, .ref (aw 0)), (2, .int x2)]) hx hb dX6_weigh_19 hl (by decide) rfl (fun ls hl => ?_)
  exact K21 N 0 r2 _ _ _ hG (lv_sub hl [2, 3, 1, 0] rfl) h
set_option maxHeartbeats 4000000 in
set_option maxRecDepth 100000 in
theorem c_X6_search (l : Launch) (E : GE) (ap : Nat → Nat) : ∀ (N : Nat) (x1 : Int32) (x2 : Int32) (x3 : Int32) (x4 : Int32) (x5 : Int32) (pp : RS) {res : RS} (h : fX6_search N x1 x2 x3 x4 x5 pp = some res), gMv l E yX6_search cX6_search 8 N 0 0 [.ref (ap 0), .int x1, .int x2, .int x3, .int x4, .int x5] (rP E ap pp ++ []) (rP E ap res ++ []) := by
  intro N
  induction N with
  | zero => intro x1 x2 x3 x4 x5 pp res h; exact absurd (show none = _ from h) (by simp)
  | succ N ih =>
  intro x1 x2 x3 x4 x5 pp res h
  refine gMv_of (own := RX6) (by decide +kernel) rfl (Nat.le_of_ble_eq_true rfl) ?_
  intro p e s m args below meth c A ls Q H locs C hz hl hG hin hret
  have hx := C.1.1
  have hb := C.1.2.1
  have hts := C.1.2.2.2.2
  have hown := C.1.2.2.2.1
  have hl : lv_has ls 8 [(0, .ref (ap 0)), (1, .int x1), (2, .int x2), (3, .int x3), (4, .int x4), (5, .int x5)] := hl
  replace hret : ∀ (pp0 : RS) (H : Heap) (locs : List Loc) (pc : Nat) (ls' : Array Slot), some pp0 = some res → gG E A s.heap (rP E ap pp0 ++ []) H locs → decode cX6_search pc = .ok (.return_, 1) → W p l e (rmD (N + 1) 0 0) s m args below meth c H locs 0 0 Q (F0 m pc ls' []) := by
    intro pp0 H locs pc ls' e0; cases e0; exact hret H locs pc ls'
  rw [fX6_search] at h
  refine lv_iload_n hx hb dX6_search_0 rfl (lv_at hl 1 rfl) ?_
  refine lv_if_ge (tgt := 38) hx hb dX6_search_1 (by decide) (fun c1 => ?_) (fun c1 => ?_)
  · replace h := it c1 h
    refine lv_iload_n hx hb dX6_search_38 rfl (lv_at hl 3 rfl) ?_
    refine lv_aload_n hx hb dX6_search_39 rfl (lv_at hl 0 rfl) ?_
    refine gL_f (v := .ref (ap 7)) C hG kX6 0 6 rfl (by decide) rfl q412 rfl dX6_search_40 ?_
    refine lv_iload_n hx hb dX6_search_43 rfl (lv_at hl 1 rfl) ?_
    obtain ⟨b1, h⟩ := ck_some h
    refine gL_i (v := (pp 7 x1.toNatClampNeg)) C hG 7 rfl (inb_in b1) rfl dX6_search_44 ?_
    refine lv_isub hx hb dX6_search_45 ?_
    obtain ⟨x6_2, ex6_2, h⟩ := thn_some h
    refine g_int ex6_2 ?_
    refine lv_istore (lv' := [(6, .int x6_2), (0, .ref (ap 0)), (1, .int x1), (2, .int x2), (3, .int x3), (4, .int x4), (5, .int x5)]) hx hb dX6_search_46 hl (by decide) rfl (fun ls hl => ?_)
    refine lv_aload_n hx hb dX6_search_48 rfl (lv_at hl 1 rfl) ?_
    refine gL_f (v := .ref (ap 2)) C hG kX6 0 1 rfl (by decide) rfl q407 rfl dX6_search_49 ?_
    refine lv_iload_n hx hb dX6_search_52 rfl (lv_at hl 2 rfl) ?_
    refine gL_z (v := (pp 2 x1.toNatClampNeg)) C hG 2 rfl (inb_in b1) rfl dX6_search_53 ?_
    refine lv_if_eq (tgt := 83) hx hb dX6_search_54 (by decide) (fun c54 => ?_) (fun c54 => ?_)
    · replace h := it c54 h
      refine lv_iload_n hx hb dX6_search_83 rfl (lv_at hl 4 rfl) ?_
      refine lv_aload_n hx hb dX6_search_84 rfl (lv_at hl 1 rfl) ?_
      refine gL_f (v := .ref (ap 6)) C hG kX6 0 5 rfl (by decide) rfl q411 rfl dX6_search_85 ?_
      refine lv_iload_n hx hb dX6_search_88 rfl (lv_at hl 2 rfl) ?_
      refine gL_i (v := (pp 6 x1.toNatClampNeg)) C hG 6 rfl (inb_in b1) rfl dX6_search_89 ?_
      refine lv_isub hx hb dX6_search_90 ?_
      obtain ⟨x6_3, ex6_3, h⟩ := thn_some h
      refine g_int ex6_3 ?_
      refine lv_istore (lv' := [(6, .int x6_3), (0, .ref (ap 0)), (1, .int x1), (2, .int x2), (3, .int x3), (4, .int x4), (5, .int x5)]) hx hb dX6_search_91 hl (by decide) rfl (fun ls hl => ?_)
      refine lv_iload_n hx hb dX6_search_93 rfl (lv_at hl 3 rfl) ?_
      refine gT_zN C hG q984 dX6_search_94 ?_
      refine lv_iload_n hx hb dX6_search_97 rfl (lv_at hl 2 rfl) ?_
      refine gT_zi (v := (sizeT x1.toNatClampNeg)) C hG (inb_in b1) rfl dX6_search_98 ?_
      refine lv_isub hx hb dX6_search_99 ?_
      obtain ⟨x7_4, ex7_4, h⟩ := thn_some h
      refine g_int ex7_4 ?_
      refine lv_istore (lv' := [(7, .int x7_4), (6, .int x6_3), (0, .ref (ap 0)), (1, .int x1), (2, .int x2), (3, .int x3), (4, .int x4), (5, .int x5)]) hx hb dX6_search_100 hl (by decide) rfl (fun ls hl => ?_)
      refine lv_aload_n hx hb dX6_search_102 rfl (lv_at hl 2 rfl) ?_
      refine gL_f (v := .ref (ap 1)) C hG kX6 0 0 rfl (by decide) rfl q406 rfl dX6_search_103 ?_
      refine lv_iload_n hx hb dX6_search_106 rfl (lv_at hl 3 rfl) ?_
      refine gL_z (v := (pp 1 x1.toNatClampNeg)) C hG 1 rfl (inb_in b1) rfl dX6_search_107 ?_
      refine lv_if_eq (tgt := 147) hx hb dX6_search_108 (by decide) (fun c108 => ?_) (fun c108 => ?_)
      · replace h := it c108 h
        exact hret _ _ _ _ _ h hG dX6_search_147
      · replace h := ie c108 h
        refine lv_iload hx hb dX6_search_111 (lv_at hl 1 rfl) ?_
        refine lv_if_lt (tgt := 147) hx hb dX6_search_113 (by decide) (fun c113 => ?_) (fun c113 => ?_)
        · replace h := it c113 h
          exact hret _ _ _ _ _ h hG dX6_search_147
        · replace h := ie c113 h
          refine lv_iload hx hb dX6_search_116 (lv_at hl 0 rfl) ?_
          refine lv_if_lt (tgt := 147) hx hb dX6_search_118 (by decide) (fun c118 => ?_) (fun c118 => ?_)
          · replace h := it c118 h
            exact hret _ _ _ _ _ h hG dX6_search_147
          · replace h := ie c118 h
            refine lv_aload_n hx hb dX6_search_121 rfl (lv_at hl 2 rfl) ?_
            refine lv_iload_n hx hb dX6_search_122 rfl (lv_at hl 3 rfl) ?_
            refine lv_iconst (v := 1) hx hb dX6_search_123 (by decide) ?_
            refine lv_isub hx hb dX6_search_124 ?_
            refine lv_iload hx hb dX6_search_125 (lv_at hl 0 rfl) ?_
            refine lv_iload hx hb dX6_search_127 (lv_at hl 1 rfl) ?_
            refine lv_iload hx hb dX6_search_129 (lv_at hl 6 rfl) ?_
            refine lv_aload_n hx hb dX6_search_131 rfl (lv_at hl 2 rfl) ?_
            refine gL_f (v := .ref (ap 4)) C hG kX6 0 3 rfl (by decide) rfl q409 rfl dX6_search_132 ?_
            refine lv_iload_n hx hb dX6_search_135 rfl (lv_at hl 3 rfl) ?_
            refine gL_i (v := (pp 4 x1.toNatClampNeg)) C hG 4 rfl (inb_in b1) rfl dX6_search_136 ?_
            refine lv_iadd hx hb dX6_search_137 ?_
            refine lv_iload hx hb dX6_search_138 (lv_at hl 7 rfl) ?_
            refine lv_iconst (v := 1) hx hb dX6_search_140 (by decide) ?_
            refine lv_iload_n hx hb dX6_search_141 rfl (lv_at hl 3 rfl) ?_
            refine lv_ishl hx hb dX6_search_142 ?_
            refine lv_ior hx hb dX6_search_143 ?_
            obtain ⟨r5, hcr5, h⟩ := bnd_some h
            refine gF_v (ws' := (rP E ap r5 ++ [])) C hG (pin pnil) (List.Perm.symm (pin pnil)) (gR_S (As := [.ref (ap 0), .int (x1 - 1), .int x7_4, .int x6_3, .int (x4 + (pp 4 x1.toNatClampNeg)), .int (x5 ||| (1 <<< ((x1 : Int32) &&& 31)))]) (rest := []) C hz hl.1 hG (pin pnil) (ih (x1 - 1) x7_4 x6_3 (x4 + (pp 4 x1.toNatClampNeg)) (x5 ||| (1 <<< ((x1 : Int32) &&& 31))) pp hcr5 H.size) okX6_search q998 rfl (Nat.le_of_ble_eq_true rfl) (by omega) ⟨Nat.le_refl _, Nat.le_refl _⟩ dX6_search_144) (fun H locs hG => ?_)
            exact hret _ _ _ _ _ h hG dX6_search_147
    · replace h := ie c54 h
      refine lv_iload hx hb dX6_search_57 (lv_at hl 0 rfl) ?_
      refine lv_if_lt (tgt := 83) hx hb dX6_search_59 (by decide) (fun c59 => ?_) (fun c59 => ?_)
      · replace h := it c59 h
        refine lv_iload_n hx hb dX6_search_83 rfl (lv_at hl 4 rfl) ?_
        refine lv_aload_n hx hb dX6_search_84 rfl (lv_at hl 1 rfl) ?_
        refine gL_f (v := .ref (ap 6)) C hG kX6 0 5 rfl (by decide) rfl q411 rfl dX6_search_85 ?_
        refine lv_iload_n hx hb dX6_search_88 rfl (lv_at hl 2 rfl) ?_
        refine gL_i (v := (pp 6 x1.toNatClampNeg)) C hG 6 rfl (inb_in b1) rfl dX6_search_89 ?_
        refine lv_isub hx hb dX6_search_90 ?_
        obtain ⟨x6_6, ex6_6, h⟩ := thn_some h
        refine g_int ex6_6 ?_
        refine lv_istore (lv' := [(6, .int x6_6), (0, .ref (ap 0)), (1, .int x1), (2, .int x2), (3, .int x3), (4, .int x4), (5, .int x5)]) hx hb dX6_search_91 hl (by decide) rfl (fun ls hl => ?_)
        refine lv_iload_n hx hb dX6_search_93 rfl (lv_at hl 3 rfl) ?_
        refine gT_zN C hG q984 dX6_search_94 ?_
        refine lv_iload_n hx hb dX6_search_97 rfl (lv_at hl 2 rfl) ?_
        refine gT_zi (v := (sizeT x1.toNatClampNeg)) C hG (inb_in b1) rfl dX6_search_98 ?_
        refine lv_isub hx hb dX6_search_99 ?_
        obtain ⟨x7_7, ex7_7, h⟩ := thn_some h
        refine g_int ex7_7 ?_
        refine lv_istore (lv' := [(7, .int x7_7), (6, .int x6_6), (0, .ref (ap 0)), (1, .int x1), (2, .int x2), (3, .int x3), (4, .int x4), (5, .int x5)]) hx hb dX6_search_100 hl (by decide) rfl (fun ls hl => ?_)
        refine lv_aload_n hx hb dX6_search_102 rfl (lv_at hl 2 rfl) ?_
        refine gL_f (v := .ref (ap 1)) C hG kX6 0 0 rfl (by decide) rfl q406 rfl dX6_search_103 ?_
        refine lv_iload_n hx hb dX6_search_106 rfl (lv_at hl 3 rfl) ?_
        refine gL_z (v := (pp 1 x1.toNatClampNeg)) C hG 1 rfl (inb_in b1) rfl dX6_search_107 ?_
        refine lv_if_eq (tgt := 147) hx hb dX6_search_108 (by decide) (fun c108 => ?_) (fun c108 => ?_)
        · replace h := it c108 h
          exact hret _ _ _ _ _ h hG dX6_search_147
        · replace h := ie c108 h
          refine lv_iload hx hb dX6_search_111 (lv_at hl 1 rfl) ?_
          refine lv_if_lt (tgt := 147) hx hb dX6_search_113 (by decide) (fun c113 => ?_) (fun c113 => ?_)
          · replace h := it c113 h
            exact hret _ _ _ _ _ h hG dX6_search_147
          · replace h := ie c113 h
            refine lv_iload hx hb dX6_search_116 (lv_at hl 0 rfl) ?_
            refine lv_if_lt (tgt := 147) hx hb dX6_search_118 (by decide) (fun c118 => ?_) (fun c118 => ?_)
            · replace h := it c118 h
              exact hret _ _ _ _ _ h hG dX6_search_147
            · replace h := ie c118 h
              refine lv_aload_n hx hb dX6_search_121 rfl (lv_at hl 2 rfl) ?_
              refine lv_iload_n hx hb dX6_search_122 rfl (lv_at hl 3 rfl) ?_
              refine lv_iconst (v := 1) hx hb dX6_search_123 (by decide) ?_
              refine lv_isub hx hb dX6_search_124 ?_
              refine lv_iload hx hb dX6_search_125 (lv_at hl 0 rfl) ?_
              refine lv_iload hx hb dX6_search_127 (lv_at hl 1 rfl) ?_
              refine lv_iload hx hb dX6_search_129 (lv_at hl 6 rfl) ?_
              refine lv_aload_n hx hb dX6_search_131 rfl (lv_at hl 2 rfl) ?_
              refine gL_f (v := .ref (ap 4)) C hG kX6 0 3 rfl (by decide) rfl q409 rfl dX6_search_132 ?_
              refine lv_iload_n hx hb dX6_search_135 rfl (lv_at hl 3 rfl) ?_
              refine gL_i (v := (pp 4 x1.toNatClampNeg)) C hG 4 rfl (inb_in b1) rfl dX6_search_136 ?_
              refine lv_iadd hx hb dX6_search_137 ?_
              refine lv_iload hx hb dX6_search_138 (lv_at hl 7 rfl) ?_
              refine lv_iconst (v := 1) hx hb dX6_search_140 (by decide) ?_
              refine lv_iload_n hx hb dX6_search_141 rfl (lv_at hl 3 rfl) ?_
              refine lv_ishl hx hb dX6_search_142 ?_
              refine lv_ior hx hb dX6_search_143 ?_
              obtain ⟨r8, hcr8, h⟩ := bnd_some h
              refine gF_v (ws' := (rP E ap r8 ++ [])) C hG (pin pnil) (List.Perm.symm (pin pnil)) (gR_S (As := [.ref (ap 0), .int (x1 - 1), .int x7_7, .int x6_6, .int (x4 + (pp 4 x1.toNatClampNeg)), .int (x5 ||| (1 <<< ((x1 : Int32) &&& 31)))]) (rest := []) C hz hl.1 hG (pin pnil) (ih (x1 - 1) x7_7 x6_6 (x4 + (pp 4 x1.toNatClampNeg)) (x5 ||| (1 <<< ((x1 : Int32) &&& 31))) pp hcr8 H.size) okX6_search q998 rfl (Nat.le_of_ble_eq_true rfl) (by omega) ⟨Nat.le_refl _, Nat.le_refl _⟩ dX6_search_144) (fun H locs hG => ?_)
              exact hret _ _ _ _ _ h hG dX6_search_147
      · replace h := ie c59 h
        refine lv_aload_n hx hb dX6_search_62 rfl (lv_at hl 1 rfl) ?_
        refine lv_iload_n hx hb dX6_search_63 rfl (lv_at hl 2 rfl) ?_
        refine lv_iconst (v := 1) hx hb dX6_search_64 (by decide) ?_
        refine lv_isub hx hb dX6_search_65 ?_
        refine lv_iload_n hx hb dX6_search_66 rfl (lv_at hl 3 rfl) ?_
        refine lv_iload hx hb dX6_search_67 (lv_at hl 0 rfl) ?_
        refine lv_iload hx hb dX6_search_69 (lv_at hl 5 rfl) ?_
        refine lv_aload_n hx hb dX6_search_71 rfl (lv_at hl 1 rfl) ?_
        refine gL_f (v := .ref (ap 5)) C hG kX6 0 4 rfl (by decide) rfl q410 rfl dX6_search_72 ?_
        refine lv_iload_n hx hb dX6_search_75 rfl (lv_at hl 2 rfl) ?_
        refine gL_i (v := (pp 5 x1.toNatClampNeg)) C hG 5 rfl (inb_in b1) rfl dX6_search_76 ?_
        refine lv_iadd hx hb dX6_search_77 ?_
        refine lv_iload hx hb dX6_search_78 (lv_at hl 6 rfl) ?_
        obtain ⟨r9, hcr9, h⟩ := bnd_some h
        refine gF_v (ws' := (rP E ap r9 ++ [])) C hG (pin pnil) (List.Perm.symm (pin pnil)) (gR_S (As := [.ref (ap 0), .int (x1 - 1), .int x2, .int x6_2, .int (x4 + (pp 5 x1.toNatClampNeg)), .int x5]) (rest := []) C hz hl.1 hG (pin pnil) (ih (x1 - 1) x2 x6_2 (x4 + (pp 5 x1.toNatClampNeg)) x5 pp hcr9 H.size) okX6_search q998 rfl (Nat.le_of_ble_eq_true rfl) (by omega) ⟨Nat.le_refl _, Nat.le_refl _⟩ dX6_search_80) (fun H locs hG => ?_)
        refine lv_iload_n hx hb dX6_search_83 rfl (lv_at hl 4 rfl) ?_
        refine lv_aload_n hx hb dX6_search_84 rfl (lv_at hl 1 rfl) ?_
        refine gL_f (v := .ref (ap 6)) C hG kX6 0 5 rfl (by decide) rfl q411 rfl dX6_search_85 ?_
        refine lv_iload_n hx hb dX6_search_88 rfl (lv_at hl 2 rfl) ?_
        refine gL_i (v := (r9 6 x1.toNatClampNeg)) C hG 6 rfl (inb_in b1) rfl dX6_search_89 ?_
        refine lv_isub hx hb dX6_search_90 ?_
        obtain ⟨x6_10, ex6_10, h⟩ := thn_some h
        refine g_int ex6_10 ?_
        refine lv_istore (lv' := [(6, .int x6_10), (0, .ref (ap 0)), (1, .int x1), (2, .int x2), (3, .int x3), (4, .int x4), (5, .int x5)]) hx hb dX6_search_91 hl (by decide) rfl (fun ls hl => ?_)
        refine lv_iload_n hx hb dX6_search_93 rfl (lv_at hl 3 rfl) ?_
        refine gT_zN C hG q984 dX6_search_94 ?_
        refine lv_iload_n hx hb dX6_search_97 rfl (lv_at hl 2 rfl) ?_
        refine gT_zi (v := (sizeT x1.toNatClampNeg)) C hG (inb_in b1) rfl dX6_search_98 ?_
        refine lv_isub hx hb dX6_search_99 ?_
        obtain ⟨x7_11, ex7_11, h⟩ := thn_some h
        refine g_int ex7_11 ?_
        refine lv_istore (lv' := [(7, .int x7_11), (6, .int x6_10), (0, .ref (ap 0)), (1, .int x1), (2, .int x2), (3, .int x3), (4, .int x4), (5, .int x5)]) hx hb dX6_search_100 hl (by decide) rfl (fun ls hl => ?_)
        refine lv_aload_n hx hb dX6_search_102 rfl (lv_at hl 2 rfl) ?_
        refine gL_f (v := .ref (ap 1)) C hG kX6 0 0 rfl (by decide) rfl q406 rfl dX6_search_103 ?_
        refine lv_iload_n hx hb dX6_search_106 rfl (lv_at hl 3 rfl) ?_
        refine gL_z (v := (r9 1 x1.toNatClampNeg)) C hG 1 rfl (inb_in b1) rfl dX6_search_107 ?_
        refine lv_if_eq (tgt := 147) hx hb dX6_search_108 (by decide) (fun c108 => ?_) (fun c108 => ?_)
        · replace h := it c108 h
          exact hret _ _ _ _ _ h hG dX6_search_147
        · replace h := ie c108 h
          refine lv_iload hx hb dX6_search_111 (lv_at hl 1 rfl) ?_
          refine lv_if_lt (tgt := 147) hx hb dX6_search_113 (by decide) (fun c113 => ?_) (fun c113 => ?_)
          · replace h := it c113 h
            exact hret _ _ _ _ _ h hG dX6_search_147
          · replace h := ie c113 h
            refine lv_iload hx hb dX6_search_116 (lv_at hl 0 rfl) ?_
            refine lv_if_lt (tgt := 147) hx hb dX6_search_118 (by decide) (fun c118 => ?_) (fun c118 => ?_)
            · replace h := it c118 h
              exact hret _ _ _ _ _ h hG dX6_search_147
            · replace h := ie c118 h
              refine lv_aload_n hx hb dX6_search_121 rfl (lv_at hl 2 rfl) ?_
              refine lv_iload_n hx hb dX6_search_122 rfl (lv_at hl 3 rfl) ?_
              refine lv_iconst (v := 1) hx hb dX6_search_123 (by decide) ?_
              refine lv_isub hx hb dX6_search_124 ?_
              refine lv_iload hx hb dX6_search_125 (lv_at hl 0 rfl) ?_
              refine lv_iload hx hb dX6_search_127 (lv_at hl 1 rfl) ?_
              refine lv_iload hx hb dX6_search_129 (lv_at hl 6 rfl) ?_
              refine lv_aload_n hx hb dX6_search_131 rfl (lv_at hl 2 rfl) ?_
              refine gL_f (v := .ref (ap 4)) C hG kX6 0 3 rfl (by decide) rfl q409 rfl dX6_search_132 ?_
              refine lv_iload_n hx hb dX6_search_135 rfl (lv_at hl 3 rfl) ?_
              refine gL_i (v := (r9 4 x1.toNatClampNeg)) C hG 4 rfl (inb_in b1) rfl dX6_search_136 ?_
              refine lv_iadd hx hb dX6_search_137 ?_
              refine lv_iload hx hb dX6_search_138 (lv_at hl 7 rfl) ?_
              refine lv_iconst (v := 1) hx hb dX6_search_140 (by decide) ?_
              refine lv_iload_n hx hb dX6_search_141 rfl (lv_at hl 3 rfl) ?_
              refine lv_ishl hx hb dX6_search_142 ?_
              refine lv_ior hx hb dX6_search_143 ?_
              obtain ⟨r12, hcr12, h⟩ := bnd_some h
              refine gF_v (ws' := (rP E ap r12 ++ [])) C hG (pin pnil) (List.Perm.symm (pin pnil)) (gR_S (As := [.ref (ap 0), .int (x1 - 1), .int x7_11, .int x6_10, .int (x4 + (r9 4 x1.toNatClampNeg)), .int (x5 ||| (1 <<< ((x1 : Int32) &&& 31)))]) (rest := []) C hz hl.1 hG (pin pnil) (ih (x1 - 1) x7_11 x6_10 (x4 + (r9 4 x1.toNatClampNeg)) (x5 ||| (1 <<< ((x1 : Int32) &&& 31))) r9 hcr12 H.size) okX6_search q998 rfl (Nat.le_of_ble_eq_true rfl) (by omega) ⟨Nat.le_refl _, Nat.le_refl _⟩ dX6_search_144) (fun H locs hG => ?_)
              exact hret _ _ _ _ _ h hG dX6_search_147
  · replace h := ie c1 h
    refine lv_aload_n hx hb dX6_search_4 rfl (lv_at hl 0 rfl) ?_
    refine gL_f (v := .int (pp 0 8)) C hG kX6 0 8 rfl (by decide) rfl q414 rfl dX6_search_5 ?_
    refine lv_if_eq (tgt := 20) hx hb dX6_search_8 (by decide) (fun c8 => ?_) (fun c8 => ?_)
    · replace h := it c8 h
      refine lv_aload_n hx hb dX6_search_20 rfl (lv_at hl 0 rfl) ?_
      refine lv_iconst (v := 1) hx hb dX6_search_21 (by decide) ?_
      obtain ⟨pp_13, epp_13, h⟩ := thn_some h
      refine gS_f (v := .int 1) (ws' := (rP E ap pp_13 ++ [])) C hG kX6 0 8 rfl (by decide) q414 rfl rfl rfl rfl (by show 8 < 13; decide) dX6_search_22 (by rw [epp_13]; rfl) (fun H locs hG => ?_)
      refine lv_aload_n hx hb dX6_search_25 rfl (lv_at hl 0 rfl) ?_
      refine lv_iload hx hb dX6_search_26 (lv_at hl 5 rfl) ?_
      obtain ⟨pp_14, epp_14, h⟩ := thn_some h
      refine gS_f (v := .int x5) (ws' := (rP E ap pp_14 ++ [])) C hG kX6 0 9 rfl (by decide) q415 rfl rfl rfl rfl (by show 9 < 13; decide) dX6_search_28 (by rw [epp_14]; rfl) (fun H locs hG => ?_)
      refine lv_aload_n hx hb dX6_search_31 rfl (lv_at hl 0 rfl) ?_
      refine lv_iload hx hb dX6_search_32 (lv_at hl 4 rfl) ?_
      obtain ⟨pp_15, epp_15, h⟩ := thn_some h
      refine gS_f (v := .int x4) (ws' := (rP E ap pp_15 ++ [])) C hG kX6 0 10 rfl (by decide) q418 rfl rfl rfl rfl (by show 10 < 13; decide) dX6_search_34 (by rw [epp_15]; rfl) (fun H locs hG => ?_)
      exact hret _ _ _ _ _ h hG dX6_search_37
    · replace h := ie c8 h
      refine lv_iload hx hb dX6_search_11 (lv_at hl 4 rfl) ?_
      refine lv_aload_n hx hb dX6_search_13 rfl (lv_at hl 0 rfl) ?_
      refine gL_f (v := .int (pp 0 10)) C hG kX6 0 10 rfl (by decide) rfl q418 rfl dX6_search_14 ?_
      refine lv_icmp_le (tgt := 37) hx hb dX6_search_17 (by decide) (fun c17 => ?_) (fun c17 => ?_)
      · replace h := it c17 h
        exact hret _ _ _ _ _ h hG dX6_search_37
      · replace h := ie c17 h
        refine lv_aload_n hx hb dX6_search_20 rfl (lv_at hl 0 rfl) ?_
        refine lv_iconst (v := 1) hx hb dX6_search_21 (by decide) ?_
        obtain ⟨pp_16, epp_16, h⟩ := thn_some h
        refine gS_f (v := .int 1) (ws' := (rP E ap pp_16 ++ [])) C hG kX6 0 8 rfl (by decide) q414 rfl rfl rfl rfl (by show 8 < 13; decide) dX6_search_22 (by rw [epp_16]; rfl) (fun H locs hG => ?_)
        refine lv_aload_n hx hb dX6_search_25 rfl (lv_at hl 0 rfl) ?_
        refine lv_iload hx hb dX6_search_26 (lv_at hl 5 rfl) ?_
        obtain ⟨pp_17, epp_17, h⟩ := thn_some h
        refine gS_f (v := .int x5) (ws' := (rP E ap pp_17 ++ [])) C hG kX6 0 9 rfl (by decide) q415 rfl rfl rfl rfl (by show 9 < 13; decide) dX6_search_28 (by rw [epp_17]; rfl) (fun H locs hG => ?_)
        refine lv_aload_n hx hb dX6_search_31 rfl (lv_at hl 0 rfl) ?_
        refine lv_iload hx hb dX6_search_32 (lv_at hl 4 rfl) ?_
        obtain ⟨pp_18, epp_18, h⟩ := thn_some h
        refine gS_f (v := .int x4) (ws' := (rP E ap pp_18 ++ [])) C hG kX6 0 10 rfl (by decide) q418 rfl rfl rfl rfl (by show 10 < 13; decide) dX6_search_34 (by rw [epp_18]; rfl) (fun H locs hG => ?_)
        exact hret _ _ _ _ _ h hG dX6_search_37
set_option maxHeartbeats 4000000 in
set_option maxRecDepth 100000 in
theorem c_X6_choose (l : Launch) (E : GE) (ap : Nat → Nat) (N : Nat) (pp : RS) {res : Int32 × RS} (h : fX6_choose N pp = some res) : gMi l E yX6_choose cX6_choose 1 .boolean 13 0 0 [.ref (ap 0)] (rP E ap pp ++ []) (rP E ap res.2 ++ []) res.1 := by
  refine gMi_of (own := RX6) (by decide +kernel) rfl (Nat.le_of_ble_eq_true rfl) ?_
  intro p e s m args below meth c A ls Q H locs C hz hl hG hret
  have hx := C.1.1
  have hb := C.1.2.1
  have hts := C.1.2.2.2.2
  have hown := C.1.2.2.2.1
  have hl : lv_has ls 1 [(0, .ref (ap 0))] := hl
  replace hret : ∀ (r0 : Int32) (pp0 : RS) (H : Heap) (locs : List Loc) (pc : Nat) (ls' : Array Slot), some (r0, pp0) = some res → narrow .boolean (.int r0) = .int r0 → gG E A s.heap (rP E ap pp0 ++ []) H locs → decode cX6_choose pc = .ok (.ireturn, 1) → W p l e (rmD 13 0 0) s m args below meth c H locs 0 0 Q (F0 m pc ls' [.int r0]) := by
    intro r0 pp0 H locs pc ls' e0 hn; cases e0; exact hret H locs pc ls' hn
  rw [fX6_choose] at h
  refine lv_aload_n hx hb dX6_choose_0 rfl (lv_at hl 0 rfl) ?_
  refine lv_iconst (v := 0) hx hb dX6_choose_1 (by decide) ?_
  obtain ⟨pp_1, epp_1, h⟩ := thn_some h
  refine gS_f (v := .int 0) (ws' := (rP E ap pp_1 ++ [])) C hG kX6 0 8 rfl (by decide) q414 rfl rfl rfl rfl (by show 8 < 13; decide) dX6_choose_2 (by rw [epp_1]; rfl) (fun H locs hG => ?_)
  refine lv_aload_n hx hb dX6_choose_5 rfl (lv_at hl 0 rfl) ?_
  refine lv_iconst (v := 0) hx hb dX6_choose_6 (by decide) ?_
  obtain ⟨pp_2, epp_2, h⟩ := thn_some h
  refine gS_f (v := .int 0) (ws' := (rP E ap pp_2 ++ [])) C hG kX6 0 9 rfl (by decide) q415 rfl rfl rfl rfl (by show 9 < 13; decide) dX6_choose_7 (by rw [epp_2]; rfl) (fun H locs hG => ?_)
  refine lv_aload_n hx hb dX6_choose_10 rfl (lv_at hl 0 rfl) ?_
  refine lv_ldc (v := (-2147483648)) hx hb hown (hts _ q997) dX6_choose_11 ?_
  obtain ⟨pp_3, epp_3, h⟩ := thn_some h
  refine gS_f (v := .int (-2147483648)) (ws' := (rP E ap pp_3 ++ [])) C hG kX6 0 10 rfl (by decide) q418 rfl rfl rfl rfl (by show 10 < 13; decide) dX6_choose_13 (by rw [epp_3]; rfl) (fun H locs hG => ?_)
  refine lv_aload_n hx hb dX6_choose_16 rfl (lv_at hl 0 rfl) ?_
  refine lv_bipush (v := 9) hx hb dX6_choose_17 (by decide) ?_
  refine lv_bipush (v := 9) hx hb dX6_choose_19 (by decide) ?_
  refine lv_aload_n hx hb dX6_choose_21 rfl (lv_at hl 0 rfl) ?_
  refine gL_f (v := .int (pp_3 0 7)) C hG kX6 0 7 rfl (by decide) rfl q413 rfl dX6_choose_22 ?_
  refine lv_iconst (v := 0) hx hb dX6_choose_25 (by decide) ?_
  refine lv_iconst (v := 0) hx hb dX6_choose_26 (by decide) ?_
  obtain ⟨r4, hcr4, h⟩ := bnd_some h
  refine gF_v (ws' := (rP E ap r4 ++ [])) C hG (pin pnil) (List.Perm.symm (pin pnil)) (gR_S (As := [.ref (ap 0), .int 9, .int 9, .int (pp_3 0 7), .int 0, .int 0]) (rest := []) C hz hl.1 hG (pin pnil) (c_X6_search l E ap 12 9 9 (pp_3 0 7) 0 0 pp_3 hcr4 H.size) okX6_search q998 rfl (Nat.le_of_ble_eq_true rfl) (by omega) ⟨Nat.le_refl _, Nat.le_refl _⟩ dX6_choose_27) (fun H locs hG => ?_)
  refine lv_aload_n hx hb dX6_choose_30 rfl (lv_at hl 0 rfl) ?_
  refine gL_f (v := .int (r4 0 8)) C hG kX6 0 8 rfl (by decide) rfl q414 rfl dX6_choose_31 ?_
  obtain ⟨b5, h⟩ := ck_some h
  exact hret _ _ _ _ _ _ h ((isB_n b5)) hG dX6_choose_34
set_option maxHeartbeats 4000000 in
set_option maxRecDepth 100000 in
theorem c_X6_makeFor (l : Launch) (E : GE) (aw : Nat → Nat) (ap : Nat → Nat) (N : Nat) (x2 : Int32) (ww : RS) (pp : RS) {res : RS} (h : fX6_makeFor N x2 ww pp = some res) : gMv l E yX6_makeFor cX6_makeFor 3 14 0 0 [.ref (ap 0), .ref (aw 0), .int x2] (rW E aw ww ++ (rP E ap pp ++ [])) (rW E aw ww ++ (rP E ap res ++ [])) := by
  refine gMv_of (own := RX6) (by decide +kernel) rfl (Nat.le_of_ble_eq_true rfl) ?_
  intro p e s m args below meth c A ls Q H locs C hz hl hG hin hret
  have hx := C.1.1
  have hb := C.1.2.1
  have hts := C.1.2.2.2.2
  have hown := C.1.2.2.2.1
  have hl : lv_has ls 3 [(0, .ref (ap 0)), (1, .ref (aw 0)), (2, .int x2)] := hl
  replace hret : ∀ (pp0 : RS) (H : Heap) (locs : List Loc) (pc : Nat) (ls' : Array Slot), some pp0 = some res → gG E A s.heap (rW E aw ww ++ (rP E ap pp0 ++ [])) H locs → decode cX6_makeFor pc = .ok (.return_, 1) → W p l e (rmD 14 0 0) s m args below meth c H locs 0 0 Q (F0 m pc ls' []) := by
    intro pp0 H locs pc ls' e0; cases e0; exact hret H locs pc ls'
  rw [fX6_makeFor] at h
  refine lv_aload_n hx hb dX6_makeFor_0 rfl (lv_at hl 0 rfl) ?_
  refine lv_aload_n hx hb dX6_makeFor_1 rfl (lv_at hl 1 rfl) ?_
  refine lv_iload_n hx hb dX6_makeFor_2 rfl (lv_at hl 2 rfl) ?_
  obtain ⟨r1, hcr1, h⟩ := bnd_some h
  refine gF_v (ws' := (rW E aw ww ++ (rP E ap r1 ++ []))) C hG (pin (pin pnil)) (List.Perm.symm (pin (pin pnil))) (gR_V (As := [.ref (aw 0), .int x2]) (rest := []) C hz hl.1 hG (pin (pin pnil)) (c_X6_weigh l E aw ap N x2 ww pp hcr1 H.size) okX6_weigh q967 30 rfl rfl rfl (Nat.le_of_ble_eq_true rfl) (by omega) ⟨Nat.le_refl _, Nat.le_refl _⟩ dX6_makeFor_3) (fun H locs hG => ?_)
  refine lv_aload_n hx hb dX6_makeFor_6 rfl (lv_at hl 0 rfl) ?_
  obtain ⟨r2, hcr2, h⟩ := bnd_some h
  refine gF_i (ws' := (rW E aw ww ++ (rP E ap r2.2 ++ []))) C hG (pout (pin pnil)) (List.Perm.symm (pout (pin pnil))) (gR_V (As := []) (rest := []) C hz hl.1 hG (pout (pin pnil)) (c_X6_choose l E ap N r1 hcr2 H.size) okX6_choose q993 0 rfl rfl rfl (Nat.le_of_ble_eq_true rfl) (by omega) ⟨Nat.le_refl _, Nat.le_refl _⟩ dX6_makeFor_7) (fun H locs z3 hG => ?_)
  refine lv_pop hx hb dX6_makeFor_10 rfl ?_
  exact hret _ _ _ _ _ h hG dX6_makeFor_11
set_option maxHeartbeats 4000000 in
set_option maxRecDepth 100000 in
theorem c_X6_isIn (l : Launch) (E : GE) (x0 : Int32) (x1 : Int32) {res : Int32} (h : fX6_isIn x0 x1 = res) : gMi l E yX6_isIn cX6_isIn 2 .boolean 1 0 0 [.int x0, .int x1] [] [] res := by
  refine gMi_of (own := RX6) (by decide +kernel) rfl (Nat.le_of_ble_eq_true rfl) ?_
  intro p e s m args below meth c A ls Q H locs C hz hl hG hret
  have hx := C.1.1
  have hb := C.1.2.1
  have hts := C.1.2.2.2.2
  have hown := C.1.2.2.2.1
  have hl : lv_has ls 2 [(0, .int x0), (1, .int x1)] := hl
  replace hret : ∀ (r0 : Int32) (H : Heap) (locs : List Loc) (pc : Nat) (ls' : Array Slot), r0 = res → narrow .boolean (.int r0) = .int r0 → gG E A s.heap [] H locs → decode cX6_isIn pc = .ok (.ireturn, 1) → W p l e (rmD 1 0 0) s m args below meth c H locs 0 0 Q (F0 m pc ls' [.int r0]) := by
    intro r0 H locs pc ls' e0 hn; cases e0; exact hret H locs pc ls' hn
  rw [fX6_isIn] at h
  refine lv_iload_n hx hb dX6_isIn_0 rfl (lv_at hl 0 rfl) ?_
  refine lv_iload_n hx hb dX6_isIn_1 rfl (lv_at hl 1 rfl) ?_
  refine lv_ishr hx hb dX6_isIn_2 ?_
  refine lv_iconst (v := 1) hx hb dX6_isIn_3 (by decide) ?_
  refine lv_iand hx hb dX6_isIn_4 ?_
  refine lv_iconst (v := 1) hx hb dX6_isIn_5 (by decide) ?_
  refine lv_icmp_ne (tgt := 13) hx hb dX6_isIn_6 (by decide) (fun c6 => ?_) (fun c6 => ?_)
  · replace h := ie c6 h
    refine lv_iconst (v := 0) hx hb dX6_isIn_13 (by decide) ?_
    exact hret _ _ _ _ _ h rfl hG dX6_isIn_14
  · replace h := it c6 h
    refine lv_iconst (v := 1) hx hb dX6_isIn_9 (by decide) ?_
    refine lv_goto (tgt := 14) hx hb dX6_isIn_10 (by decide) ?_
    exact hret _ _ _ _ _ h rfl hG dX6_isIn_14
set_option maxHeartbeats 4000000 in
set_option maxRecDepth 100000 in
theorem c_X6_listMoves (l : Launch) (E : GE) (aw : Nat → Nat) (ap : Nat → Nat) (N : Nat) (ww : RS) (pp : RS) {res : RS} (h : fX6_listMoves N ww pp = some res) : gMv l E yX6_listMoves cX6_listMoves 5 2 0 0 [.ref (ap 0), .ref (aw 2)] (rW E aw ww ++ (rP E ap pp ++ [])) (rW E aw ww ++ (rP E ap res ++ [])) := by
  refine gMv_of (own := RX6) (by decide +kernel) rfl (Nat.le_of_ble_eq_true rfl) ?_
  intro p e s m args below meth c A ls Q H locs C hz hl hG hin hret
  have hx := C.1.1
  have hb := C.1.2.1
  have hts := C.1.2.2.2.2
  have hown := C.1.2.2.2.1
  have hl : lv_has ls 5 [(0, .ref (ap 0)), (1, .ref (aw 2))] := hl
  replace hret : ∀ (pp0 : RS) (H : Heap) (locs : List Loc) (pc : Nat) (ls' : Array Slot), some pp0 = some res → gG E A s.heap (rW E aw ww ++ (rP E ap pp0 ++ [])) H locs → decode cX6_listMoves pc = .ok (.return_, 1) → W p l e (rmD 2 0 0) s m args below meth c H locs 0 0 Q (F0 m pc ls' []) := by
    intro pp0 H locs pc ls' e0; cases e0; exact hret H locs pc ls'
  have K63 : ∀ (k7 : (Int32 → RS → Option (RS))) (hk7 : ∀  (x2 : Int32) (pp : RS) (H : Heap) (locs : List Loc) (ls : Array Slot), gG E A s.heap (rW E aw ww ++ (rP E ap pp ++ [])) H locs → lv_has ls 5 [(0, .ref (ap 0)), (1, .ref (aw 2)), (2, .int x2)] → k7 x2 pp = some res → W p l e (rmD 2 0 0) s m args below meth c H locs 0 0 Q (F0 m 7 ls [])), ∀  (x2 : Int32) (pp : RS) (H : Heap) (locs : List Loc) (ls : Array Slot), gG E A s.heap (rW E aw ww ++ (rP E ap pp ++ [])) H locs → lv_has ls 5 [(0, .ref (ap 0)), (1, .ref (aw 2)), (2, .int x2)] → fX6_listMoves_L63 N ww k7 x2 pp = some res → W p l e (rmD 2 0 0) s m args below meth c H locs 0 0 Q (F0 m 63 ls []) := by
    intro k7 hk7 x2 pp H locs ls hG hl h
    rw [fX6_listMoves_L63] at h
    refine lv_iinc (v := (x2 + 1)) (lv' := [(2, .int (x2 + 1)), (0, .ref (ap 0)), (1, .ref (aw 2))]) hx hb dX6_listMoves_63 hl (k := 2) rfl (congrArg (x2 + ·) (by decide : Int32.ofInt 1 = 1)) (by decide) rfl (fun ls hl => ?_)
    refine lv_goto (tgt := 7) hx hb dX6_listMoves_66 (by decide) ?_
    exact hk7 (x2 + 1) pp _ _ _ hG (lv_sub hl [1, 2, 0] rfl) h
  have K180 : ∀ (k76 : (Int32 → Int32 → RS → Option (RS))) (hk76 : ∀  (x2 : Int32) (x3 : Int32) (pp : RS) (H : Heap) (locs : List Loc) (ls : Array Slot), gG E A s.heap (rW E aw ww ++ (rP E ap pp ++ [])) H locs → lv_has ls 5 [(0, .ref (ap 0)), (1, .ref (aw 2)), (2, .int x2), (3, .int x3)] → k76 x2 x3 pp = some res → W p l e (rmD 2 0 0) s m args below meth c H locs 0 0 Q (F0 m 76 ls [])), ∀  (x2 : Int32) (x3 : Int32) (pp : RS) (H : Heap) (locs : List Loc) (ls : Array Slot), gG E A s.heap (rW E aw ww ++ (rP E ap pp ++ [])) H locs → lv_has ls 5 [(0, .ref (ap 0)), (1, .ref (aw 2)), (2, .int x2), (3, .int x3)] → fX6_listMoves_L180 N ww k76 x2 x3 pp = some res → W p l e (rmD 2 0 0) s m args below meth c H locs 0 0 Q (F0 m 180 ls []) := by
    intro k76 hk76 x2 x3 pp H locs ls hG hl h
    rw [fX6_listMoves_L180] at h
    refine lv_iinc (v := (x3 + 1)) (lv' := [(3, .int (x3 + 1)), (0, .ref (ap 0)), (1, .ref (aw 2)), (2, .int x2)]) hx hb dX6_listMoves_180 hl (k := 3) rfl (congrArg (x3 + ·) (by decide : Int32.ofInt 1 = 1)) (by decide) rfl (fun ls hl => ?_)
    refine lv_goto (tgt := 76) hx hb dX6_listMoves_183 (by decide) ?_
    exact hk76 x2 (x3 + 1) pp _ _ _ hG (lv_sub hl [1, 2, 3, 0] rfl) h
  have K162 : ∀ (k76 : (Int32 → Int32 → RS → Option (RS))) (hk76 : ∀  (x2 : Int32) (x3 : Int32) (pp : RS) (H : Heap) (locs : List Loc) (ls : Array Slot), gG E A s.heap (rW E aw ww ++ (rP E ap pp ++ [])) H locs → lv_has ls 5 [(0, .ref (ap 0)), (1, .ref (aw 2)), (2, .int x2), (3, .int x3)] → k76 x2 x3 pp = some res → W p l e (rmD 2 0 0) s m args below meth c H locs 0 0 Q (F0 m 76 ls [])), ∀  (x2 : Int32) (x3 : Int32) (x4 : Int32) (pp : RS) (H : Heap) (locs : List Loc) (ls : Array Slot), gG E A s.heap (rW E aw ww ++ (rP E ap pp ++ [])) H locs → lv_has ls 5 [(0, .ref (ap 0)), (1, .ref (aw 2)), (2, .int x2), (3, .int x3), (4, .int x4)] → fX6_listMoves_L162 N ww k76 x2 x3 x4 pp = some res → W p l e (rmD 2 0 0) s m args below meth c H locs 0 0 Q (F0 m 162 ls []) := by
    intro k76 hk76 x2 x3 x4 pp H locs ls hG hl h
    rw [fX6_listMoves_L162] at h
    refine lv_aload_n hx hb dX6_listMoves_162 rfl (lv_at hl 0 rfl) ?_
    refine gL_f (v := .ref (ap 8)) C hG kX6 30 11 rfl (by decide) rfl q420 rfl dX6_listMoves_163 ?_
    refine lv_iload hx hb dX6_listMoves_166 (lv_at hl 4 rfl) ?_
    refine lv_iload_n hx hb dX6_listMoves_168 rfl (lv_at hl 3 rfl) ?_
    obtain ⟨b1, h⟩ := ck_some h
    obtain ⟨pp_2, epp_2, h⟩ := thn_some h
    refine gS_i (x := x3) (ws' := (rW E aw ww ++ (rP E ap pp_2 ++ []))) C hG 38 rfl (inb_in b1) rfl dX6_listMoves_169 (by rw [epp_2]; rfl) (fun H locs hG => ?_)
    refine lv_aload_n hx hb dX6_listMoves_170 rfl (lv_at hl 0 rfl) ?_
    refine lv_dup hx hb dX6_listMoves_171 rfl ?_
    refine gL_f (v := .int (pp_2 0 12)) C hG kX6 30 12 rfl (by decide) rfl q423 rfl dX6_listMoves_172 ?_
    refine lv_iconst (v := 1) hx hb dX6_listMoves_175 (by decide) ?_
    refine lv_iadd hx hb dX6_listMoves_176 ?_
    obtain ⟨pp_3, epp_3, h⟩ := thn_some h
    refine gS_f (v := .int ((pp_2 0 12) + 1)) (ws' := (rW E aw ww ++ (rP E ap pp_3 ++ []))) C hG kX6 30 12 rfl (by decide) q423 rfl rfl rfl rfl (by show 12 < 13; decide) dX6_listMoves_177 (by rw [epp_3]; rfl) (fun H locs hG => ?_)
    exact K180 _ hk76 x2 x3 pp_3 _ _ _ hG (lv_sub hl [0, 1, 2, 3] rfl) h
  have K117 : ∀ (k76 : (Int32 → Int32 → RS → Option (RS))) (hk76 : ∀  (x2 : Int32) (x3 : Int32) (pp : RS) (H : Heap) (locs : List Loc) (ls : Array Slot), gG E A s.heap (rW E aw ww ++ (rP E ap pp ++ [])) H locs → lv_has ls 5 [(0, .ref (ap 0)), (1, .ref (aw 2)), (2, .int x2), (3, .int x3)] → k76 x2 x3 pp = some res → W p l e (rmD 2 0 0) s m args below meth c H locs 0 0 Q (F0 m 76 ls [])) (k : Nat), ∀  (x2 : Int32) (x3 : Int32) (x4 : Int32) (pp : RS) (H : Heap) (locs : List Loc) (ls : Array Slot), gG E A s.heap (rW E aw ww ++ (rP E ap pp ++ [])) H locs → lv_has ls 5 [(0, .ref (ap 0)), (1, .ref (aw 2)), (2, .int x2), (3, .int x3), (4, .int x4)] → fX6_listMoves_L117 N ww k76 k x2 x3 x4 pp = some res → W p l e (rmD 2 0 0) s m args below meth c H locs 0 0 Q (F0 m 117 ls []) := by
    intro k76 hk76 k
    induction k with
    | zero => intro x2 x3 x4 pp H locs ls hG hl h; exact absurd (show none = _ from h) (by simp)
    | succ k ih =>
      intro x2 x3 x4 pp H locs ls hG hl h
      rw [fX6_listMoves_L117] at h
      refine lv_iload hx hb dX6_listMoves_117 (lv_at hl 4 rfl) ?_
      refine lv_iload_n hx hb dX6_listMoves_119 rfl (lv_at hl 2 rfl) ?_
      refine lv_icmp_le (tgt := 162) hx hb dX6_listMoves_120 (by decide) (fun c120 => ?_) (fun c120 => ?_)
      · replace h := it c120 h
        exact K162 _ hk76 x2 x3 x4 pp _ _ _ hG (lv_sub hl [0, 1, 2, 3, 4] rfl) h
      · replace h := ie c120 h
        refine lv_aload_n hx hb dX6_listMoves_123 rfl (lv_at hl 1 rfl) ?_
        refine lv_iload_n hx hb dX6_listMoves_124 rfl (lv_at hl 3 rfl) ?_
        refine lv_aload_n hx hb dX6_listMoves_125 rfl (lv_at hl 0 rfl) ?_
        refine gL_f (v := .ref (ap 8)) C hG kX6 30 11 rfl (by decide) rfl q420 rfl dX6_listMoves_126 ?_
        refine lv_iload hx hb dX6_listMoves_129 (lv_at hl 4 rfl) ?_
        refine lv_iconst (v := 1) hx hb dX6_listMoves_131 (by decide) ?_
        refine lv_isub hx hb dX6_listMoves_132 ?_
        obtain ⟨b1, h⟩ := ck_some h
        refine gL_i (v := (pp 8 (x4 - 1).toNatClampNeg)) C hG 38 rfl (inb_in b1) rfl dX6_listMoves_133 ?_
        obtain ⟨r2, hcr2, h⟩ := bnd_some h
        refine gF_i (ws' := (rW E aw ww ++ (rP E ap pp ++ []))) C hG (pin (pout pnil)) (List.Perm.symm (pin (pout pnil))) (gR_N (As := [.int x3, .int (pp 8 (x4 - 1).toNatClampNeg)]) (rest := []) C hz hl.1 hG (pin (pout pnil)) (c_X2_hotter l E aw N x3 (pp 8 (x4 - 1).toNatClampNeg) ww hcr2 H.size) okX2_hotter q1008 2 rfl rfl rfl (Nat.le_of_ble_eq_true rfl) (by omega) ⟨Nat.le_refl _, Nat.le_refl _⟩ dX6_listMoves_134) (fun H locs z3 hG => ?_)
        refine lv_if_eq (tgt := 162) hx hb dX6_listMoves_137 (by decide) (fun c137 => ?_) (fun c137 => ?_)
        · replace h := it c137 h
          exact K162 _ hk76 x2 x3 x4 pp _ _ _ hG (lv_sub hl [0, 1, 2, 3, 4] rfl) h
        · replace h := ie c137 h
          refine lv_aload_n hx hb dX6_listMoves_140 rfl (lv_at hl 0 rfl) ?_
          refine gL_f (v := .ref (ap 8)) C hG kX6 30 11 rfl (by decide) rfl q420 rfl dX6_listMoves_141 ?_
          refine lv_iload hx hb dX6_listMoves_144 (lv_at hl 4 rfl) ?_
          refine lv_aload_n hx hb dX6_listMoves_146 rfl (lv_at hl 0 rfl) ?_
          refine gL_f (v := .ref (ap 8)) C hG kX6 30 11 rfl (by decide) rfl q420 rfl dX6_listMoves_147 ?_
          refine lv_iload hx hb dX6_listMoves_150 (lv_at hl 4 rfl) ?_
          refine lv_iconst (v := 1) hx hb dX6_listMoves_152 (by decide) ?_
          refine lv_isub hx hb dX6_listMoves_153 ?_
          refine gL_i (v := (pp 8 (x4 - 1).toNatClampNeg)) C hG 38 rfl (inb_in b1) rfl dX6_listMoves_154 ?_
          obtain ⟨b4, h⟩ := ck_some h
          obtain ⟨pp_5, epp_5, h⟩ := thn_some h
          refine gS_i (x := (pp 8 (x4 - 1).toNatClampNeg)) (ws' := (rW E aw ww ++ (rP E ap pp_5 ++ []))) C hG 38 rfl (inb_in b4) rfl dX6_listMoves_155 (by rw [epp_5]; rfl) (fun H locs hG => ?_)
          refine lv_iinc (v := (x4 + (-1))) (lv' := [(4, .int (x4 + (-1))), (0, .ref (ap 0)), (1, .ref (aw 2)), (2, .int x2), (3, .int x3)]) hx hb dX6_listMoves_156 hl (k := 4) rfl (congrArg (x4 + ·) (by decide : Int32.ofInt (-1) = (-1))) (by decide) rfl (fun ls hl => ?_)
          refine lv_goto (tgt := 117) hx hb dX6_listMoves_159 (by decide) ?_
          exact ih x2 x3 (x4 + (-1)) pp_5 _ _ _ hG (lv_sub hl [1, 2, 3, 4, 0] rfl) h
  have K76 : ∀ (k : Nat), ∀  (x2 : Int32) (x3 : Int32) (pp : RS) (H : Heap) (locs : List Loc) (ls : Array Slot), gG E A s.heap (rW E aw ww ++ (rP E ap pp ++ [])) H locs → lv_has ls 5 [(0, .ref (ap 0)), (1, .ref (aw 2)), (2, .int x2), (3, .int x3)] → fX6_listMoves_L76 N ww k x2 x3 pp = some res → W p l e (rmD 2 0 0) s m args below meth c H locs 0 0 Q (F0 m 76 ls []) := by
    intro k
    induction k with
    | zero => intro x2 x3 pp H locs ls hG hl h; exact absurd (show none = _ from h) (by simp)
    | succ k ih =>
      intro x2 x3 pp H locs ls hG hl h
      rw [fX6_listMoves_L76] at h
      refine lv_iload_n hx hb dX6_listMoves_76 rfl (lv_at hl 3 rfl) ?_
      refine lv_bipush (v := 10) hx hb dX6_listMoves_77 (by decide) ?_
      refine lv_icmp_ge (tgt := 186) hx hb dX6_listMoves_79 (by decide) (fun c79 => ?_) (fun c79 => ?_)
      · replace h := it c79 h
        exact hret _ _ _ _ _ h hG dX6_listMoves_186
      · replace h := ie c79 h
        refine lv_aload_n hx hb dX6_listMoves_82 rfl (lv_at hl 0 rfl) ?_
        refine gL_f (v := .ref (ap 3)) C hG kX6 30 2 rfl (by decide) rfl q408 rfl dX6_listMoves_83 ?_
        refine lv_iload_n hx hb dX6_listMoves_86 rfl (lv_at hl 3 rfl) ?_
        obtain ⟨b1, h⟩ := ck_some h
        refine gL_z (v := (pp 3 x3.toNatClampNeg)) C hG 33 rfl (inb_in b1) rfl dX6_listMoves_87 ?_
        refine lv_if_ne (tgt := 180) hx hb dX6_listMoves_88 (by decide) (fun c88 => ?_) (fun c88 => ?_)
        · replace h := ie c88 h
          exact K180 _ ih x2 x3 pp _ _ _ hG (lv_sub hl [0, 1, 2, 3] rfl) h
        · replace h := it c88 h
          refine lv_aload_n hx hb dX6_listMoves_91 rfl (lv_at hl 1 rfl) ?_
          refine gL_fN (v := .ref (aw 3)) C hG kX2 2 0 rfl (by decide) rfl q211 rfl dX6_listMoves_92 ?_
          refine lv_iload_n hx hb dX6_listMoves_95 rfl (lv_at hl 3 rfl) ?_
          refine gL_i (v := (ww 3 x3.toNatClampNeg)) C hG 3 rfl (inb_in b1) rfl dX6_listMoves_96 ?_
          refine lv_if_ne (tgt := 180) hx hb dX6_listMoves_97 (by decide) (fun c97 => ?_) (fun c97 => ?_)
          · replace h := ie c97 h
            exact K180 _ ih x2 x3 pp _ _ _ hG (lv_sub hl [0, 1, 2, 3] rfl) h
          · replace h := it c97 h
            refine lv_aload_n hx hb dX6_listMoves_100 rfl (lv_at hl 0 rfl) ?_
            refine gL_f (v := .int (pp 0 9)) C hG kX6 30 9 rfl (by decide) rfl q415 rfl dX6_listMoves_101 ?_
            refine lv_iload_n hx hb dX6_listMoves_104 rfl (lv_at hl 3 rfl) ?_
            refine gF_i (ws' := (rW E aw ww ++ (rP E ap pp ++ []))) C hG pst pst.symm (gR_S (As := [.int (pp 0 9), .int x3]) (rest := []) C hz hl.1 hG pst (c_X6_isIn l E (pp 0 9) x3 rfl H.size) okX6_isIn q1005 rfl (Nat.le_of_ble_eq_true rfl) (by omega) ⟨Nat.le_refl _, Nat.le_refl _⟩ dX6_listMoves_105) (fun H locs z2 hG => ?_)
            refine lv_if_eq (tgt := 180) hx hb dX6_listMoves_108 (by decide) (fun c108 => ?_) (fun c108 => ?_)
            · replace h := it c108 h
              exact K180 _ ih x2 x3 pp _ _ _ hG (lv_sub hl [0, 1, 2, 3] rfl) h
            · replace h := ie c108 h
              refine lv_aload_n hx hb dX6_listMoves_111 rfl (lv_at hl 0 rfl) ?_
              refine gL_f (v := .int (pp 0 12)) C hG kX6 30 12 rfl (by decide) rfl q423 rfl dX6_listMoves_112 ?_
              obtain ⟨x4_3, ex4_3, h⟩ := thn_some h
              refine g_int ex4_3 ?_
              refine lv_istore (lv' := [(4, .int x4_3), (0, .ref (ap 0)), (1, .ref (aw 2)), (2, .int x2), (3, .int x3)]) hx hb dX6_listMoves_115 hl (by decide) rfl (fun ls hl => ?_)
              exact K117 _ ih N x2 x3 x4_3 pp _ _ _ hG (lv_sub hl [1, 2, 3, 4, 0] rfl) h
  have K7 : ∀ (k : Nat), ∀  (x2 : Int32) (pp : RS) (H : Heap) (locs : List Loc) (ls : Array Slot), gG E A s.heap (rW E aw ww ++ (rP E ap pp ++ [])) H locs → lv_has ls 5 [(0, .ref (ap 0)), (1, .ref (aw 2)), (2, .int x2)] → fX6_listMoves_L7 N ww k x2 pp = some res → W p l e (rmD 2 0 0) s m args below meth c H locs 0 0 Q (F0 m 7 ls []) := by
    intro k
    induction k with
    | zero => intro x2 pp H locs ls hG hl h; exact absurd (show none = _ from h) (by simp)
    | succ k ih =>
      intro x2 pp H locs ls hG hl h
      rw [fX6_listMoves_L7] at h
      refine lv_iload_n hx hb dX6_listMoves_7 rfl (lv_at hl 2 rfl) ?_
      refine lv_bipush (v := 10) hx hb dX6_listMoves_8 (by decide) ?_
      refine lv_icmp_ge (tgt := 69) hx hb dX6_listMoves_10 (by decide) (fun c10 => ?_) (fun c10 => ?_)
      · replace h := it c10 h
        refine lv_aload_n hx hb dX6_listMoves_69 rfl (lv_at hl 0 rfl) ?_
        refine gL_f (v := .int (pp 0 12)) C hG kX6 30 12 rfl (by decide) rfl q423 rfl dX6_listMoves_70 ?_
        obtain ⟨x2_1, ex2_1, h⟩ := thn_some h
        refine g_int ex2_1 ?_
        refine lv_istore_n (lv' := [(2, .int x2_1), (0, .ref (ap 0)), (1, .ref (aw 2))]) hx hb dX6_listMoves_73 rfl hl (by decide) rfl (fun ls hl => ?_)
        refine lv_iconst (v := 0) hx hb dX6_listMoves_74 (by decide) ?_
        refine lv_istore_n (lv' := [(3, .int 0), (2, .int x2_1), (0, .ref (ap 0)), (1, .ref (aw 2))]) hx hb dX6_listMoves_75 rfl hl (by decide) rfl (fun ls hl => ?_)
        exact K76 N x2_1 0 pp _ _ _ hG (lv_sub hl [2, 3, 1, 0] rfl) h
      · replace h := ie c10 h
        refine lv_aload_n hx hb dX6_listMoves_13 rfl (lv_at hl 0 rfl) ?_
        refine gL_f (v := .ref (ap 3)) C hG kX6 30 2 rfl (by decide) rfl q408 rfl dX6_listMoves_14 ?_
        refine lv_iload_n hx hb dX6_listMoves_17 rfl (lv_at hl 2 rfl) ?_
        obtain ⟨b2, h⟩ := ck_some h
        refine gL_z (v := (pp 3 x2.toNatClampNeg)) C hG 33 rfl (inb_in b2) rfl dX6_listMoves_18 ?_
        refine lv_if_ne (tgt := 63) hx hb dX6_listMoves_19 (by decide) (fun c19 => ?_) (fun c19 => ?_)
        · replace h := ie c19 h
          exact K63 _ ih x2 pp _ _ _ hG (lv_sub hl [0, 1, 2] rfl) h
        · replace h := it c19 h
          refine lv_aload_n hx hb dX6_listMoves_22 rfl (lv_at hl 1 rfl) ?_
          refine gL_fN (v := .ref (aw 3)) C hG kX2 2 0 rfl (by decide) rfl q211 rfl dX6_listMoves_23 ?_
          refine lv_iload_n hx hb dX6_listMoves_26 rfl (lv_at hl 2 rfl) ?_
          refine gL_i (v := (ww 3 x2.toNatClampNeg)) C hG 3 rfl (inb_in b2) rfl dX6_listMoves_27 ?_
          refine lv_iconst (v := 1) hx hb dX6_listMoves_28 (by decide) ?_
          refine lv_icmp_ne (tgt := 63) hx hb dX6_listMoves_29 (by decide) (fun c29 => ?_) (fun c29 => ?_)
          · replace h := ie c29 h
            exact K63 _ ih x2 pp _ _ _ hG (lv_sub hl [0, 1, 2] rfl) h
          · replace h := it c29 h
            refine lv_aload_n hx hb dX6_listMoves_32 rfl (lv_at hl 0 rfl) ?_
            refine gL_f (v := .int (pp 0 9)) C hG kX6 30 9 rfl (by decide) rfl q415 rfl dX6_listMoves_33 ?_
            refine lv_iload_n hx hb dX6_listMoves_36 rfl (lv_at hl 2 rfl) ?_
            refine gF_i (ws' := (rW E aw ww ++ (rP E ap pp ++ []))) C hG pst pst.symm (gR_S (As := [.int (pp 0 9), .int x2]) (rest := []) C hz hl.1 hG pst (c_X6_isIn l E (pp 0 9) x2 rfl H.size) okX6_isIn q1005 rfl (Nat.le_of_ble_eq_true rfl) (by omega) ⟨Nat.le_refl _, Nat.le_refl _⟩ dX6_listMoves_37) (fun H locs z3 hG => ?_)
            refine lv_if_ne (tgt := 63) hx hb dX6_listMoves_40 (by decide) (fun c40 => ?_) (fun c40 => ?_)
            · replace h := ie c40 h
              exact K63 _ ih x2 pp _ _ _ hG (lv_sub hl [0, 1, 2] rfl) h
            · replace h := it c40 h
              refine lv_aload_n hx hb dX6_listMoves_43 rfl (lv_at hl 0 rfl) ?_
              refine gL_f (v := .ref (ap 8)) C hG kX6 30 11 rfl (by decide) rfl q420 rfl dX6_listMoves_44 ?_
              refine lv_aload_n hx hb dX6_listMoves_47 rfl (lv_at hl 0 rfl) ?_
              refine gL_f (v := .int (pp 0 12)) C hG kX6 30 12 rfl (by decide) rfl q423 rfl dX6_listMoves_48 ?_
              refine lv_iload_n hx hb dX6_listMoves_51 rfl (lv_at hl 2 rfl) ?_
              obtain ⟨b4, h⟩ := ck_some h
              obtain ⟨pp_5, epp_5, h⟩ := thn_some h
              refine gS_i (x := x2) (ws' := (rW E aw ww ++ (rP E ap pp_5 ++ []))) C hG 38 rfl (inb_in b4) rfl dX6_listMoves_52 (by rw [epp_5]; rfl) (fun H locs hG => ?_)
              refine lv_aload_n hx hb dX6_listMoves_53 rfl (lv_at hl 0 rfl) ?_
              refine lv_dup hx hb dX6_listMoves_54 rfl ?_
              refine gL_f (v := .int (pp_5 0 12)) C hG kX6 30 12 rfl (by decide) rfl q423 rfl dX6_listMoves_55 ?_
              refine lv_iconst (v := 1) hx hb dX6_listMoves_58 (by decide) ?_
              refine lv_iadd hx hb dX6_listMoves_59 ?_
              obtain ⟨pp_6, epp_6, h⟩ := thn_some h
              refine gS_f (v := .int ((pp_5 0 12) + 1)) (ws' := (rW E aw ww ++ (rP E ap pp_6 ++ []))) C hG kX6 30 12 rfl (by decide) q423 rfl rfl rfl rfl (by show 12 < 13; decide) dX6_listMoves_60 (by rw [epp_6]; rfl) (fun H locs hG => ?_)
              exact K63 _ ih x2 pp_6 _ _ _ hG (lv_sub hl [0, 1, 2] rfl) h
  rw [fX6_listMoves] at h
  refine lv_aload_n hx hb dX6_listMoves_0 rfl (lv_at hl 0 rfl) ?_
  refine lv_iconst (v := 0) hx hb dX6_listMoves_1 (by decide) ?_
  obtain ⟨pp_1, epp_1, h⟩ := thn_some h
  refine gS_f (v := .int 0) (ws' := (rW E aw ww ++ (rP E ap pp_1 ++ []))) C hG kX6 30 12 rfl (by decide) q423 rfl rfl rfl rfl (by show 12 < 13; decide) dX6_listMoves_2 (by rw [epp_1]; rfl) (fun H locs hG => ?_)
  refine lv_iconst (v := 0) hx hb dX6_listMoves_5 (by decide) ?_
  refine lv_istore_n (lv' := [(2, .int 0), (0, .ref (ap 0)), (1, .ref (aw 2))]) hx hb dX6_listMoves_6 rfl hl (by decide) rfl (fun ls hl => ?_)
  exact K7 N 0 pp_1 _ _ _ hG (lv_sub hl [1, 2, 0] rfl) h
set_option maxHeartbeats 4000000 in
set_option maxRecDepth 100000 in
theorem c_X10_makePlan (l : Launch) (E : GE) (aw : Nat → Nat) (ap : Nat → Nat) (N : Nat) (ww : RS) (pp : RS) {res : RS × RS} (h : fX10_makePlan N ww pp = some res) : gMv l E yX10_makePlan cX10_makePlan 5 15 0 0 [.ref (aw 0), .ref (ap 0)] (rW E aw ww ++ (rP E ap pp ++ [])) (rW E aw res.1 ++ (rP E ap res.2 ++ [])) := by
  refine gMv_of (own := RX10) (by decide +kernel) rfl (Nat.le_of_ble_eq_true rfl) ?_
  intro p e s m args below meth c A ls Q H locs C hz hl hG hin hret
  have hx := C.1.1
  have hb := C.1.2.1
  have hts := C.1.2.2.2.2
  have hown := C.1.2.2.2.1
  have hl : lv_has ls 5 [(0, .ref (aw 0)), (1, .ref (ap 0))] := hl
  replace hret : ∀ (ww0 : RS) (pp0 : RS) (H : Heap) (locs : List Loc) (pc : Nat) (ls' : Array Slot), some (ww0, pp0) = some res → gG E A s.heap (rW E aw ww0 ++ (rP E ap pp0 ++ [])) H locs → decode cX10_makePlan pc = .ok (.return_, 1) → W p l e (rmD 15 0 0) s m args below meth c H locs 0 0 Q (F0 m pc ls' []) := by
    intro ww0 pp0 H locs pc ls' e0; cases e0; exact hret H locs pc ls'
  have K38 : ∀ (k10 : (Int32 → Int32 → RS → RS → Option (RS × RS))) (hk10 : ∀  (x2 : Int32) (x3 : Int32) (ww : RS) (pp : RS) (H : Heap) (locs : List Loc) (ls : Array Slot), gG E A s.heap (rW E aw ww ++ (rP E ap pp ++ [])) H locs → lv_has ls 5 [(0, .ref (aw 0)), (1, .ref (ap 0)), (2, .int x2), (3, .int x3)] → k10 x2 x3 ww pp = some res → W p l e (rmD 15 0 0) s m args below meth c H locs 0 0 Q (F0 m 10 ls [])), ∀  (x2 : Int32) (x3 : Int32) (ww : RS) (pp : RS) (H : Heap) (locs : List Loc) (ls : Array Slot), gG E A s.heap (rW E aw ww ++ (rP E ap pp ++ [])) H locs → lv_has ls 5 [(0, .ref (aw 0)), (1, .ref (ap 0)), (2, .int x2), (3, .int x3)] → fX10_makePlan_L38 N k10 x2 x3 ww pp = some res → W p l e (rmD 15 0 0) s m args below meth c H locs 0 0 Q (F0 m 38 ls []) := by
    intro k10 hk10 x2 x3 ww pp H locs ls hG hl h
    rw [fX10_makePlan_L38] at h
    refine lv_iinc (v := (x3 + (-1))) (lv' := [(3, .int (x3 + (-1))), (0, .ref (aw 0)), (1, .ref (ap 0)), (2, .int x2)]) hx hb dX10_makePlan_38 hl (k := 3) rfl (congrArg (x3 + ·) (by decide : Int32.ofInt (-1) = (-1))) (by decide) rfl (fun ls hl => ?_)
    refine lv_goto (tgt := 10) hx hb dX10_makePlan_41 (by decide) ?_
    exact hk10 x2 (x3 + (-1)) ww pp _ _ _ hG (lv_sub hl [1, 2, 3, 0] rfl) h
  have K65 : ∀ (k : Nat), ∀  (x3 : Int32) (ww : RS) (pp : RS) (H : Heap) (locs : List Loc) (ls : Array Slot), gG E A s.heap (rW E aw ww ++ (rP E ap pp ++ [])) H locs → lv_has ls 5 [(0, .ref (aw 0)), (1, .ref (ap 0)), (3, .int x3)] → fX10_makePlan_L65 N k x3 ww pp = some res → W p l e (rmD 15 0 0) s m args below meth c H locs 0 0 Q (F0 m 65 ls []) := by
    intro k
    induction k with
    | zero => intro x3 ww pp H locs ls hG hl h; exact absurd (show none = _ from h) (by simp)
    | succ k ih =>
      intro x3 ww pp H locs ls hG hl h
      rw [fX10_makePlan_L65] at h
      refine lv_iload_n hx hb dX10_makePlan_65 rfl (lv_at hl 2 rfl) ?_
      refine lv_aload_n hx hb dX10_makePlan_66 rfl (lv_at hl 1 rfl) ?_
      refine gL_fN (v := .int (pp 0 12)) C hG kX6 30 12 rfl (by decide) rfl q424 rfl dX10_makePlan_67 ?_
      refine lv_icmp_ge (tgt := 108) hx hb dX10_makePlan_70 (by decide) (fun c70 => ?_) (fun c70 => ?_)
      · replace h := it c70 h
        refine lv_aload_n hx hb dX10_makePlan_108 rfl (lv_at hl 0 rfl) ?_
        refine lv_iconst (v := 3) hx hb dX10_makePlan_109 (by decide) ?_
        refine lv_aload_n hx hb dX10_makePlan_110 rfl (lv_at hl 1 rfl) ?_
        refine gL_fN (v := .int (pp 0 9)) C hG kX6 30 9 rfl (by decide) rfl q416 rfl dX10_makePlan_111 ?_
        refine lv_aload_n hx hb dX10_makePlan_114 rfl (lv_at hl 1 rfl) ?_
        refine gL_fN (v := .int (pp 0 12)) C hG kX6 30 12 rfl (by decide) rfl q424 rfl dX10_makePlan_115 ?_
        obtain ⟨r1, hcr1, h⟩ := bnd_some h
        refine gF_v (ws' := (rW E aw r1 ++ (rP E ap pp ++ []))) C hG (pin (pout pnil)) (List.Perm.symm (pin (pout pnil))) (gR_V (As := [.int 3, .int (pp 0 9), .int (pp 0 12)]) (rest := []) C hz hl.1 hG (pin (pout pnil)) (c_X10_writeDown l E aw N 3 (pp 0 9) (pp 0 12) ww hcr1 H.size) okX10_writeDown q902 0 rfl rfl rfl (Nat.le_of_ble_eq_true rfl) (by omega) ⟨Nat.le_refl _, Nat.le_refl _⟩ dX10_makePlan_118) (fun H locs hG => ?_)
        exact hret _ _ _ _ _ _ h hG dX10_makePlan_121
      · replace h := ie c70 h
        refine lv_aload_n hx hb dX10_makePlan_73 rfl (lv_at hl 1 rfl) ?_
        refine gL_fN (v := .ref (ap 8)) C hG kX6 30 11 rfl (by decide) rfl q421 rfl dX10_makePlan_74 ?_
        refine lv_iload_n hx hb dX10_makePlan_77 rfl (lv_at hl 2 rfl) ?_
        obtain ⟨b2, h⟩ := ck_some h
        refine gL_i (v := (pp 8 x3.toNatClampNeg)) C hG 38 rfl (inb_in b2) rfl dX10_makePlan_78 ?_
        obtain ⟨x4_3, ex4_3, h⟩ := thn_some h
        refine g_int ex4_3 ?_
        refine lv_istore (lv' := [(4, .int x4_3), (0, .ref (aw 0)), (1, .ref (ap 0)), (3, .int x3)]) hx hb dX10_makePlan_79 hl (by decide) rfl (fun ls hl => ?_)
        refine lv_aload_n hx hb dX10_makePlan_81 rfl (lv_at hl 1 rfl) ?_
        refine gL_f (v := .ref (aw 23)) C hG kX10 0 4 rfl (by decide) rfl q362 rfl dX10_makePlan_82 ?_
        refine lv_iload hx hb dX10_makePlan_85 (lv_at hl 0 rfl) ?_
        refine lv_iconst (v := 1) hx hb dX10_makePlan_87 (by decide) ?_
        refine lv_aload_n hx hb dX10_makePlan_88 rfl (lv_at hl 1 rfl) ?_
        refine gL_f (v := .ref (aw 2)) C hG kX10 0 1 rfl (by decide) rfl q355 rfl dX10_makePlan_89 ?_
        refine gL_fN (v := .ref (aw 3)) C hG kX2 2 0 rfl (by decide) rfl q212 rfl dX10_makePlan_92 ?_
        refine lv_iload hx hb dX10_makePlan_95 (lv_at hl 0 rfl) ?_
        obtain ⟨b4, h⟩ := ck_some h
        refine gL_i (v := (ww 3 x4_3.toNatClampNeg)) C hG 3 rfl (inb_in b4) rfl dX10_makePlan_97 ?_
        refine lv_isub hx hb dX10_makePlan_98 ?_
        obtain ⟨r5, hcr5, h⟩ := bnd_some h
        refine gF_v (ws' := (rW E aw r5 ++ (rP E ap pp ++ []))) C hG (pin (pout pnil)) (List.Perm.symm (pin (pout pnil))) (gR_N (As := [.int x4_3, .int (1 - (ww 3 x4_3.toNatClampNeg))]) (rest := []) C hz hl.1 hG (pin (pout pnil)) (c_X5_add l E aw N x4_3 (1 - (ww 3 x4_3.toNatClampNeg)) ww hcr5 H.size) okX5_add q1012 23 rfl rfl rfl (Nat.le_of_ble_eq_true rfl) (by omega) ⟨Nat.le_refl _, Nat.le_refl _⟩ dX10_makePlan_99) (fun H locs hG => ?_)
        refine lv_iinc (v := (x3 + 1)) (lv' := [(3, .int (x3 + 1)), (4, .int x4_3), (0, .ref (aw 0)), (1, .ref (ap 0))]) hx hb dX10_makePlan_102 hl (k := 3) rfl (congrArg (x3 + ·) (by decide : Int32.ofInt 1 = 1)) (by decide) rfl (fun ls hl => ?_)
        refine lv_goto (tgt := 65) hx hb dX10_makePlan_105 (by decide) ?_
        exact ih (x3 + 1) r5 pp _ _ _ hG (lv_sub hl [2, 3, 0] rfl) h
  have K10 : ∀ (k : Nat), ∀  (x2 : Int32) (x3 : Int32) (ww : RS) (pp : RS) (H : Heap) (locs : List Loc) (ls : Array Slot), gG E A s.heap (rW E aw ww ++ (rP E ap pp ++ [])) H locs → lv_has ls 5 [(0, .ref (aw 0)), (1, .ref (ap 0)), (2, .int x2), (3, .int x3)] → fX10_makePlan_L10 N k x2 x3 ww pp = some res → W p l e (rmD 15 0 0) s m args below meth c H locs 0 0 Q (F0 m 10 ls []) := by
    intro k
    induction k with
    | zero => intro x2 x3 ww pp H locs ls hG hl h; exact absurd (show none = _ from h) (by simp)
    | succ k ih =>
      intro x2 x3 ww pp H locs ls hG hl h
      rw [fX10_makePlan_L10] at h
      refine lv_iload_n hx hb dX10_makePlan_10 rfl (lv_at hl 3 rfl) ?_
      refine lv_if_le (tgt := 44) hx hb dX10_makePlan_11 (by decide) (fun c11 => ?_) (fun c11 => ?_)
      · replace h := it c11 h
        refine lv_aload_n hx hb dX10_makePlan_44 rfl (lv_at hl 1 rfl) ?_
        refine lv_aload_n hx hb dX10_makePlan_45 rfl (lv_at hl 0 rfl) ?_
        refine lv_aload_n hx hb dX10_makePlan_46 rfl (lv_at hl 0 rfl) ?_
        refine gL_f (v := .ref (aw 1)) C hG kX10 0 0 rfl (by decide) rfl q352 rfl dX10_makePlan_47 ?_
        refine lv_iconst (v := 5) hx hb dX10_makePlan_50 (by decide) ?_
        refine gL_i (v := (ww 1 5)) C hG 1 rfl (vp_in_nI (n := 5) (by decide) (by decide)) (congrArg (ww 1) (nI_clamp (n := 5) (by decide))) dX10_makePlan_51 ?_
        obtain ⟨r1, hcr1, h⟩ := bnd_some h
        refine gF_v (ws' := (rW E aw ww ++ (rP E ap r1 ++ []))) C hG (pin (pin pnil)) (List.Perm.symm (pin (pin pnil))) (gR_N (As := [.ref (aw 0), .int (ww 1 5)]) (rest := []) C hz hl.1 hG (pin (pin pnil)) (c_X6_makeFor l E aw ap N (ww 1 5) ww pp hcr1 H.size) okX6_makeFor q963 30 rfl rfl rfl (Nat.le_of_ble_eq_true rfl) (by omega) ⟨Nat.le_refl _, Nat.le_refl _⟩ dX10_makePlan_52) (fun H locs hG => ?_)
        refine lv_aload_n hx hb dX10_makePlan_55 rfl (lv_at hl 1 rfl) ?_
        refine lv_aload_n hx hb dX10_makePlan_56 rfl (lv_at hl 0 rfl) ?_
        refine gL_f (v := .ref (aw 2)) C hG kX10 0 1 rfl (by decide) rfl q355 rfl dX10_makePlan_57 ?_
        obtain ⟨r2, hcr2, h⟩ := bnd_some h
        refine gF_v (ws' := (rW E aw ww ++ (rP E ap r2 ++ []))) C hG (pin (pin pnil)) (List.Perm.symm (pin (pin pnil))) (gR_N (As := [.ref (aw 2)]) (rest := []) C hz hl.1 hG (pin (pin pnil)) (c_X6_listMoves l E aw ap N ww r1 hcr2 H.size) okX6_listMoves q1001 30 rfl rfl rfl (Nat.le_of_ble_eq_true rfl) (by omega) ⟨Nat.le_refl _, Nat.le_refl _⟩ dX10_makePlan_60) (fun H locs hG => ?_)
        refine lv_iconst (v := 0) hx hb dX10_makePlan_63 (by decide) ?_
        refine lv_istore_n (lv' := [(3, .int 0), (0, .ref (aw 0)), (1, .ref (ap 0)), (2, .int x2)]) hx hb dX10_makePlan_64 rfl hl (by decide) rfl (fun ls hl => ?_)
        exact K65 N 0 ww r2 _ _ _ hG (lv_sub hl [1, 2, 0] rfl) h
      · replace h := ie c11 h
        refine lv_aload_n hx hb dX10_makePlan_14 rfl (lv_at hl 0 rfl) ?_
        refine gL_f (v := .ref (aw 23)) C hG kX10 0 4 rfl (by decide) rfl q362 rfl dX10_makePlan_15 ?_
        refine gL_fN (v := .ref (aw 26)) C hG kX5 23 3 rfl (by decide) rfl q325 rfl dX10_makePlan_18 ?_
        refine lv_iload_n hx hb dX10_makePlan_21 rfl (lv_at hl 2 rfl) ?_
        obtain ⟨b3, h⟩ := ck_some h
        refine gL_i (v := (ww 26 x2.toNatClampNeg)) C hG 26 rfl (inb_in b3) rfl dX10_makePlan_22 ?_
        refine lv_iconst (v := 1) hx hb dX10_makePlan_23 (by decide) ?_
        refine lv_icmp_ne (tgt := 33) hx hb dX10_makePlan_24 (by decide) (fun c24 => ?_) (fun c24 => ?_)
        · replace h := ie c24 h
          refine lv_aload_n hx hb dX10_makePlan_33 rfl (lv_at hl 0 rfl) ?_
          refine lv_iload_n hx hb dX10_makePlan_34 rfl (lv_at hl 2 rfl) ?_
          obtain ⟨r4, hcr4, h⟩ := bnd_some h
          refine gF_v (ws' := (rW E aw r4 ++ (rP E ap pp ++ []))) C hG (pin (pout pnil)) (List.Perm.symm (pin (pout pnil))) (gR_V (As := [.int x2]) (rest := []) C hz hl.1 hG (pin (pout pnil)) (c_X10_dropMove l E aw N x2 ww hcr4 H.size) okX10_dropMove q962 0 rfl rfl rfl (Nat.le_of_ble_eq_true rfl) (by omega) ⟨Nat.le_refl _, Nat.le_refl _⟩ dX10_makePlan_35) (fun H locs hG => ?_)
          exact K38 _ ih x2 x3 r4 pp _ _ _ hG (lv_sub hl [0, 1, 2, 3] rfl) h
        · replace h := it c24 h
          refine lv_iinc (v := (x2 + 1)) (lv' := [(2, .int (x2 + 1)), (0, .ref (aw 0)), (1, .ref (ap 0)), (3, .int x3)]) hx hb dX10_makePlan_27 hl (k := 2) rfl (congrArg (x2 + ·) (by decide : Int32.ofInt 1 = 1)) (by decide) rfl (fun ls hl => ?_)
          refine lv_goto (tgt := 38) hx hb dX10_makePlan_30 (by decide) ?_
          exact K38 _ ih (x2 + 1) x3 ww pp _ _ _ hG (lv_sub hl [1, 2, 0, 3] rfl) h
  rw [fX10_makePlan] at h
  refine lv_iconst (v := 0) hx hb dX10_makePlan_0 (by decide) ?_
  refine lv_istore_n (lv' := [(2, .int 0), (0, .ref (aw 0)), (1, .ref (ap 0))]) hx hb dX10_makePlan_1 rfl hl (by decide) rfl (fun ls hl => ?_)
  refine lv_aload_n hx hb dX10_makePlan_2 rfl (lv_at hl 1 rfl) ?_
  refine gL_f (v := .ref (aw 23)) C hG kX10 0 4 rfl (by decide) rfl q362 rfl dX10_makePlan_3 ?_
  refine gL_fN (v := .int (ww 23 0)) C hG kX5 23 0 rfl (by decide) rfl q315 rfl dX10_makePlan_6 ?_
  obtain ⟨x3_1, ex3_1, h⟩ := thn_some h
  refine g_int ex3_1 ?_
  refine lv_istore_n (lv' := [(3, .int x3_1), (2, .int 0), (0, .ref (aw 0)), (1, .ref (ap 0))]) hx hb dX10_makePlan_9 rfl hl (by decide) rfl (fun ls hl => ?_)
  exact K10 N 0 x3_1 ww pp _ _ _ hG (lv_sub hl [2, 3, 1, 0] rfl) h
set_option maxHeartbeats 4000000 in
set_option maxRecDepth 100000 in
theorem c_X10_tick (l : Launch) (E : GE) (aw : Nat → Nat) (ap : Nat → Nat) (N : Nat) (ww : RS) (pp : RS) {res : RS × RS} (h : fX10_tick N ww pp = some res) : gMv l E yX10_tick cX10_tick 2 16 0 0 [.ref (aw 0), .ref (ap 0)] (rW E aw ww ++ (rP E ap pp ++ [])) (rW E aw res.1 ++ (rP E ap res.2 ++ [])) := by
  refine gMv_of (own := RX10) (by decide +kernel) rfl (Nat.le_of_ble_eq_true rfl) ?_
  intro p e s m args below meth c A ls Q H locs C hz hl hG hin hret
  have hx := C.1.1
  have hb := C.1.2.1
  have hts := C.1.2.2.2.2
  have hown := C.1.2.2.2.1
  have hl : lv_has ls 2 [(0, .ref (aw 0)), (1, .ref (ap 0))] := hl
  replace hret : ∀ (ww0 : RS) (pp0 : RS) (H : Heap) (locs : List Loc) (pc : Nat) (ls' : Array Slot), some (ww0, pp0) = some res → gG E A s.heap (rW E aw ww0 ++ (rP E ap pp0 ++ [])) H locs → decode cX10_tick pc = .ok (.return_, 1) → W p l e (rmD 16 0 0) s m args below meth c H locs 0 0 Q (F0 m pc ls' []) := by
    intro ww0 pp0 H locs pc ls' e0; cases e0; exact hret H locs pc ls'
  rw [fX10_tick] at h
  refine lv_aload_n hx hb dX10_tick_0 rfl (lv_at hl 0 rfl) ?_
  refine gL_f (v := .ref (aw 1)) C hG kX10 0 0 rfl (by decide) rfl q352 rfl dX10_tick_1 ?_
  refine lv_iconst (v := 0) hx hb dX10_tick_4 (by decide) ?_
  refine lv_dup2_11 hx hb dX10_tick_5 rfl rfl ?_
  refine gL_i (v := (ww 1 0)) C hG 1 rfl (vp_in_nI (n := 0) (by decide) (by decide)) (congrArg (ww 1) (nI_clamp (n := 0) (by decide))) dX10_tick_6 ?_
  refine lv_iconst (v := 1) hx hb dX10_tick_7 (by decide) ?_
  refine lv_iadd hx hb dX10_tick_8 ?_
  obtain ⟨ww_1, eww_1, h⟩ := thn_some h
  refine gS_i (x := ((ww 1 0) + 1)) (ws' := (rW E aw ww_1 ++ (rP E ap pp ++ []))) C hG 1 rfl (vp_in_nI (n := 0) (by decide) (by decide)) (nI_clamp (n := 0) (by decide)) dX10_tick_9 (by rw [eww_1]; rfl) (fun H locs hG => ?_)
  refine lv_aload_n hx hb dX10_tick_10 rfl (lv_at hl 0 rfl) ?_
  obtain ⟨r2, hcr2, h⟩ := bnd_some h
  refine gF_v (ws' := (rW E aw r2 ++ (rP E ap pp ++ []))) C hG (pin (pout pnil)) (List.Perm.symm (pin (pout pnil))) (gR_V (As := []) (rest := []) C hz hl.1 hG (pin (pout pnil)) (c_X10_moveBlocks l E aw N ww_1 hcr2 H.size) okX10_moveBlocks q918 0 rfl rfl rfl (Nat.le_of_ble_eq_true rfl) (by omega) ⟨Nat.le_refl _, Nat.le_refl _⟩ dX10_tick_11) (fun H locs hG => ?_)
  refine lv_aload_n hx hb dX10_tick_14 rfl (lv_at hl 0 rfl) ?_
  obtain ⟨r3, hcr3, h⟩ := bnd_some h
  refine gF_v (ws' := (rW E aw r3 ++ (rP E ap pp ++ []))) C hG (pin (pout pnil)) (List.Perm.symm (pin (pout pnil))) (gR_V (As := []) (rest := []) C hz hl.1 hG (pin (pout pnil)) (c_X10_switchWhole l E aw N r2 hcr3 H.size) okX10_switchWhole q950 0 rfl rfl rfl (Nat.le_of_ble_eq_true rfl) (by omega) ⟨Nat.le_refl _, Nat.le_refl _⟩ dX10_tick_15) (fun H locs hG => ?_)
  refine lv_aload_n hx hb dX10_tick_18 rfl (lv_at hl 0 rfl) ?_
  refine gL_f (v := .ref (aw 1)) C hG kX10 0 0 rfl (by decide) rfl q352 rfl dX10_tick_19 ?_
  refine lv_iconst (v := 0) hx hb dX10_tick_22 (by decide) ?_
  refine gL_i (v := (r3 1 0)) C hG 1 rfl (vp_in_nI (n := 0) (by decide) (by decide)) (congrArg (r3 1) (nI_clamp (n := 0) (by decide))) dX10_tick_23 ?_
  refine lv_iconst (v := 4) hx hb dX10_tick_24 (by decide) ?_
  refine lv_irem hx hb dX10_tick_25 (by decide) ?_
  refine g_int (v := (irem (r3 1 0) 4)) rfl ?_
  refine lv_if_ne (tgt := 51) hx hb dX10_tick_26 (by decide) (fun c26 => ?_) (fun c26 => ?_)
  · replace h := ie c26 h
    exact hret _ _ _ _ _ _ h hG dX10_tick_51
  · replace h := it c26 h
    refine lv_aload_n hx hb dX10_tick_29 rfl (lv_at hl 0 rfl) ?_
    refine lv_aload_n hx hb dX10_tick_30 rfl (lv_at hl 1 rfl) ?_
    obtain ⟨r4, hcr4, h⟩ := bnd_some h
    refine gF_v (ws' := (rW E aw r4.1 ++ (rP E ap r4.2 ++ []))) C hG (pin (pin pnil)) (List.Perm.symm (pin (pin pnil))) (gR_V (As := [.ref (ap 0)]) (rest := []) C hz hl.1 hG (pin (pin pnil)) (c_X10_makePlan l E aw ap N r3 pp hcr4 H.size) okX10_makePlan q958 0 rfl rfl rfl (Nat.le_of_ble_eq_true rfl) (by omega) ⟨Nat.le_refl _, Nat.le_refl _⟩ dX10_tick_31) (fun H locs hG => ?_)
    refine lv_aload_n hx hb dX10_tick_34 rfl (lv_at hl 0 rfl) ?_
    refine gL_f (v := .ref (aw 1)) C hG kX10 0 0 rfl (by decide) rfl q352 rfl dX10_tick_35 ?_
    refine lv_iconst (v := 2) hx hb dX10_tick_38 (by decide) ?_
    refine lv_dup2_11 hx hb dX10_tick_39 rfl rfl ?_
    refine gL_i (v := (r4.1 1 2)) C hG 1 rfl (vp_in_nI (n := 2) (by decide) (by decide)) (congrArg (r4.1 1) (nI_clamp (n := 2) (by decide))) dX10_tick_40 ?_
    refine lv_iconst (v := 1) hx hb dX10_tick_41 (by decide) ?_
    refine lv_iadd hx hb dX10_tick_42 ?_
    obtain ⟨ww_5, eww_5, h⟩ := thn_some h
    refine gS_i (x := ((r4.1 1 2) + 1)) (ws' := (rW E aw ww_5 ++ (rP E ap r4.2 ++ []))) C hG 1 rfl (vp_in_nI (n := 2) (by decide) (by decide)) (nI_clamp (n := 2) (by decide)) dX10_tick_43 (by rw [eww_5]; rfl) (fun H locs hG => ?_)
    refine lv_aload_n hx hb dX10_tick_44 rfl (lv_at hl 0 rfl) ?_
    refine gL_f (v := .ref (aw 2)) C hG kX10 0 1 rfl (by decide) rfl q355 rfl dX10_tick_45 ?_
    obtain ⟨r6, hcr6, h⟩ := bnd_some h
    refine gF_v (ws' := (rW E aw r6 ++ (rP E ap r4.2 ++ []))) C hG (pin (pout pnil)) (List.Perm.symm (pin (pout pnil))) (gR_N (As := []) (rest := []) C hz hl.1 hG (pin (pout pnil)) (c_X2_age l E aw N ww_5 hcr6 H.size) okX2_age q1013 2 rfl rfl rfl (Nat.le_of_ble_eq_true rfl) (by omega) ⟨Nat.le_refl _, Nat.le_refl _⟩ dX10_tick_48) (fun H locs hG => ?_)
    exact hret _ _ _ _ _ _ h hG dX10_tick_51
set_option maxHeartbeats 4000000 in
set_option maxRecDepth 100000 in
theorem c_X10_pass (l : Launch) (E : GE) (aw : Nat → Nat) (ap : Nat → Nat) (N : Nat) (x1 : Int32) (ww : RS) (pp : RS) {res : RS × RS} (h : fX10_pass N x1 ww pp = some res) : gMv l E yX10_pass cX10_pass 4 17 0 0 [.ref (aw 0), .int x1, .ref (ap 0)] (rW E aw ww ++ (rP E ap pp ++ [])) (rW E aw res.1 ++ (rP E ap res.2 ++ [])) := by
  refine gMv_of (own := RX10) (by decide +kernel) rfl (Nat.le_of_ble_eq_true rfl) ?_
  intro p e s m args below meth c A ls Q H locs C hz hl hG hin hret
  have hx := C.1.1
  have hb := C.1.2.1
  have hts := C.1.2.2.2.2
  have hown := C.1.2.2.2.1
  have hl : lv_has ls 4 [(0, .ref (aw 0)), (1, .int x1), (2, .ref (ap 0))] := hl
  replace hret : ∀ (ww0 : RS) (pp0 : RS) (H : Heap) (locs : List Loc) (pc : Nat) (ls' : Array Slot), some (ww0, pp0) = some res → gG E A s.heap (rW E aw ww0 ++ (rP E ap pp0 ++ [])) H locs → decode cX10_pass pc = .ok (.return_, 1) → W p l e (rmD 17 0 0) s m args below meth c H locs 0 0 Q (F0 m pc ls' []) := by
    intro ww0 pp0 H locs pc ls' e0; cases e0; exact hret H locs pc ls'
  have K2 : ∀ (k : Nat), ∀  (x3 : Int32) (ww : RS) (pp : RS) (H : Heap) (locs : List Loc) (ls : Array Slot), gG E A s.heap (rW E aw ww ++ (rP E ap pp ++ [])) H locs → lv_has ls 4 [(0, .ref (aw 0)), (1, .int x1), (2, .ref (ap 0)), (3, .int x3)] → fX10_pass_L2 N x1 k x3 ww pp = some res → W p l e (rmD 17 0 0) s m args below meth c H locs 0 0 Q (F0 m 2 ls []) := by
    intro k
    induction k with
    | zero => intro x3 ww pp H locs ls hG hl h; exact absurd (show none = _ from h) (by simp)
    | succ k ih =>
      intro x3 ww pp H locs ls hG hl h
      rw [fX10_pass_L2] at h
      refine lv_iload_n hx hb dX10_pass_2 rfl (lv_at hl 3 rfl) ?_
      refine lv_iload_n hx hb dX10_pass_3 rfl (lv_at hl 1 rfl) ?_
      refine lv_icmp_ge (tgt := 18) hx hb dX10_pass_4 (by decide) (fun c4 => ?_) (fun c4 => ?_)
      · replace h := it c4 h
        exact hret _ _ _ _ _ _ h hG dX10_pass_18
      · replace h := ie c4 h
        refine lv_aload_n hx hb dX10_pass_7 rfl (lv_at hl 0 rfl) ?_
        refine lv_aload_n hx hb dX10_pass_8 rfl (lv_at hl 2 rfl) ?_
        obtain ⟨r1, hcr1, h⟩ := bnd_some h
        refine gF_v (ws' := (rW E aw r1.1 ++ (rP E ap r1.2 ++ []))) C hG (pin (pin pnil)) (List.Perm.symm (pin (pin pnil))) (gR_V (As := [.ref (ap 0)]) (rest := []) C hz hl.1 hG (pin (pin pnil)) (c_X10_tick l E aw ap N ww pp hcr1 H.size) okX10_tick q914 0 rfl rfl rfl (Nat.le_of_ble_eq_true rfl) (by omega) ⟨Nat.le_refl _, Nat.le_refl _⟩ dX10_pass_9) (fun H locs hG => ?_)
        refine lv_iinc (v := (x3 + 1)) (lv' := [(3, .int (x3 + 1)), (0, .ref (aw 0)), (1, .int x1), (2, .ref (ap 0))]) hx hb dX10_pass_12 hl (k := 3) rfl (congrArg (x3 + ·) (by decide : Int32.ofInt 1 = 1)) (by decide) rfl (fun ls hl => ?_)
        refine lv_goto (tgt := 2) hx hb dX10_pass_15 (by decide) ?_
        exact ih (x3 + 1) r1.1 r1.2 _ _ _ hG (lv_sub hl [1, 2, 3, 0] rfl) h
  rw [fX10_pass] at h
  refine lv_iconst (v := 0) hx hb dX10_pass_0 (by decide) ?_
  refine lv_istore_n (lv' := [(3, .int 0), (0, .ref (aw 0)), (1, .int x1), (2, .ref (ap 0))]) hx hb dX10_pass_1 rfl hl (by decide) rfl (fun ls hl => ?_)
  exact K2 N 0 ww pp _ _ _ hG (lv_sub hl [1, 2, 3, 0] rfl) h
set_option maxHeartbeats 4000000 in
set_option maxRecDepth 100000 in
theorem c_X10_loseMemory (l : Launch) (E : GE) (aw : Nat → Nat) (N : Nat) (ww : RS) {res : Int32 × RS} (h : fX10_loseMemory N ww = some res) : gMi l E yX10_loseMemory cX10_loseMemory 4 .int 3 0 0 [.ref (aw 0)] (rW E aw ww ++ []) (rW E aw res.2 ++ []) res.1 := by
  refine gMi_of (own := RX10) (by decide +kernel) rfl (Nat.le_of_ble_eq_true rfl) ?_
  intro p e s m args below meth c A ls Q H locs C hz hl hG hret
  have hx := C.1.1
  have hb := C.1.2.1
  have hts := C.1.2.2.2.2
  have hown := C.1.2.2.2.1
  have hl : lv_has ls 4 [(0, .ref (aw 0))] := hl
  replace hret : ∀ (r0 : Int32) (ww0 : RS) (H : Heap) (locs : List Loc) (pc : Nat) (ls' : Array Slot), some (r0, ww0) = some res → narrow .int (.int r0) = .int r0 → gG E A s.heap (rW E aw ww0 ++ []) H locs → decode cX10_loseMemory pc = .ok (.ireturn, 1) → W p l e (rmD 3 0 0) s m args below meth c H locs 0 0 Q (F0 m pc ls' [.int r0]) := by
    intro r0 ww0 H locs pc ls' e0 hn; cases e0; exact hret H locs pc ls' hn
  have K66 : ∀ (k12 : (Int32 → Int32 → Int32 → RS → Option (Int32 × RS))) (hk12 : ∀  (x1 : Int32) (x2 : Int32) (x3 : Int32) (ww : RS) (H : Heap) (locs : List Loc) (ls : Array Slot), gG E A s.heap (rW E aw ww ++ []) H locs → lv_has ls 4 [(0, .ref (aw 0)), (1, .int x1), (2, .int x2), (3, .int x3)] → k12 x1 x2 x3 ww = some res → W p l e (rmD 3 0 0) s m args below meth c H locs 0 0 Q (F0 m 12 ls [])), ∀  (x1 : Int32) (x2 : Int32) (x3 : Int32) (ww : RS) (H : Heap) (locs : List Loc) (ls : Array Slot), gG E A s.heap (rW E aw ww ++ []) H locs → lv_has ls 4 [(0, .ref (aw 0)), (1, .int x1), (2, .int x2), (3, .int x3)] → fX10_loseMemory_L66 N k12 x1 x2 x3 ww = some res → W p l e (rmD 3 0 0) s m args below meth c H locs 0 0 Q (F0 m 66 ls []) := by
    intro k12 hk12 x1 x2 x3 ww H locs ls hG hl h
    rw [fX10_loseMemory_L66] at h
    refine lv_iinc (v := (x3 + 1)) (lv' := [(3, .int (x3 + 1)), (0, .ref (aw 0)), (1, .int x1), (2, .int x2)]) hx hb dX10_loseMemory_66 hl (k := 3) rfl (congrArg (x3 + ·) (by decide : Int32.ofInt 1 = 1)) (by decide) rfl (fun ls hl => ?_)
    refine lv_goto (tgt := 12) hx hb dX10_loseMemory_69 (by decide) ?_
    exact hk12 x1 x2 (x3 + 1) ww _ _ _ hG (lv_sub hl [1, 2, 3, 0] rfl) h
  have K12 : ∀ (k : Nat), ∀  (x1 : Int32) (x2 : Int32) (x3 : Int32) (ww : RS) (H : Heap) (locs : List Loc) (ls : Array Slot), gG E A s.heap (rW E aw ww ++ []) H locs → lv_has ls 4 [(0, .ref (aw 0)), (1, .int x1), (2, .int x2), (3, .int x3)] → fX10_loseMemory_L12 N k x1 x2 x3 ww = some res → W p l e (rmD 3 0 0) s m args below meth c H locs 0 0 Q (F0 m 12 ls []) := by
    intro k
    induction k with
    | zero => intro x1 x2 x3 ww H locs ls hG hl h; exact absurd (show none = _ from h) (by simp)
    | succ k ih =>
      intro x1 x2 x3 ww H locs ls hG hl h
      rw [fX10_loseMemory_L12] at h
      refine lv_iload_n hx hb dX10_loseMemory_12 rfl (lv_at hl 3 rfl) ?_
      refine lv_aload_n hx hb dX10_loseMemory_13 rfl (lv_at hl 0 rfl) ?_
      refine gL_f (v := .ref (aw 23)) C hG kX10 0 4 rfl (by decide) rfl q362 rfl dX10_loseMemory_14 ?_
      refine gL_fN (v := .int (ww 23 0)) C hG kX5 23 0 rfl (by decide) rfl q315 rfl dX10_loseMemory_17 ?_
      refine lv_icmp_ge (tgt := 72) hx hb dX10_loseMemory_20 (by decide) (fun c20 => ?_) (fun c20 => ?_)
      · replace h := it c20 h
        refine lv_aload_n hx hb dX10_loseMemory_72 rfl (lv_at hl 0 rfl) ?_
        refine gL_f (v := .ref (aw 23)) C hG kX10 0 4 rfl (by decide) rfl q362 rfl dX10_loseMemory_73 ?_
        refine lv_iconst (v := 0) hx hb dX10_loseMemory_76 (by decide) ?_
        obtain ⟨ww_1, eww_1, h⟩ := thn_some h
        refine gS_fN (v := .int 0) (ws' := (rW E aw ww_1 ++ [])) C hG kX5 23 0 rfl (by decide) q315 rfl rfl rfl rfl (by show 0 < 5; decide) dX10_loseMemory_77 (by rw [eww_1]; rfl) (fun H locs hG => ?_)
        refine lv_aload_n hx hb dX10_loseMemory_80 rfl (lv_at hl 0 rfl) ?_
        refine gL_f (v := .ref (aw 20)) C hG kX10 0 3 rfl (by decide) rfl q360 rfl dX10_loseMemory_81 ?_
        refine lv_iconst (v := 0) hx hb dX10_loseMemory_84 (by decide) ?_
        obtain ⟨ww_2, eww_2, h⟩ := thn_some h
        refine gS_fN (v := .int 0) (ws' := (rW E aw ww_2 ++ [])) C hG kX3 20 0 rfl (by decide) q297 rfl rfl rfl rfl (by show 0 < 3; decide) dX10_loseMemory_85 (by rw [eww_2]; rfl) (fun H locs hG => ?_)
        refine lv_aload_n hx hb dX10_loseMemory_88 rfl (lv_at hl 0 rfl) ?_
        refine gL_f (v := .ref (aw 2)) C hG kX10 0 1 rfl (by decide) rfl q355 rfl dX10_loseMemory_89 ?_
        obtain ⟨r3, hcr3, h⟩ := bnd_some h
        refine gF_v (ws' := (rW E aw r3 ++ [])) C hG (pin pnil) (List.Perm.symm (pin pnil)) (gR_N (As := []) (rest := []) C hz hl.1 hG (pin pnil) (c_X2_forget l E aw N ww_2 hcr3 H.size) okX2_forget q1025 2 rfl rfl rfl (Nat.le_of_ble_eq_true rfl) (by omega) ⟨Nat.le_refl _, Nat.le_refl _⟩ dX10_loseMemory_92) (fun H locs hG => ?_)
        refine lv_aload_n hx hb dX10_loseMemory_95 rfl (lv_at hl 0 rfl) ?_
        refine gL_f (v := .ref (aw 1)) C hG kX10 0 0 rfl (by decide) rfl q352 rfl dX10_loseMemory_96 ?_
        refine lv_bipush (v := 12) hx hb dX10_loseMemory_99 (by decide) ?_
        refine lv_dup2_11 hx hb dX10_loseMemory_101 rfl rfl ?_
        refine gL_i (v := (r3 1 12)) C hG 1 rfl (vp_in_nI (n := 12) (by decide) (by decide)) (congrArg (r3 1) (nI_clamp (n := 12) (by decide))) dX10_loseMemory_102 ?_
        refine lv_iconst (v := 1) hx hb dX10_loseMemory_103 (by decide) ?_
        refine lv_iadd hx hb dX10_loseMemory_104 ?_
        obtain ⟨ww_4, eww_4, h⟩ := thn_some h
        refine gS_i (x := ((r3 1 12) + 1)) (ws' := (rW E aw ww_4 ++ [])) C hG 1 rfl (vp_in_nI (n := 12) (by decide) (by decide)) (nI_clamp (n := 12) (by decide)) dX10_loseMemory_105 (by rw [eww_4]; rfl) (fun H locs hG => ?_)
        refine lv_aload_n hx hb dX10_loseMemory_106 rfl (lv_at hl 0 rfl) ?_
        refine lv_iconst (v := 4) hx hb dX10_loseMemory_107 (by decide) ?_
        refine lv_iload_n hx hb dX10_loseMemory_108 rfl (lv_at hl 1 rfl) ?_
        refine lv_iload_n hx hb dX10_loseMemory_109 rfl (lv_at hl 2 rfl) ?_
        obtain ⟨r5, hcr5, h⟩ := bnd_some h
        refine gF_v (ws' := (rW E aw r5 ++ [])) C hG (pin pnil) (List.Perm.symm (pin pnil)) (gR_V (As := [.int 4, .int x1, .int x2]) (rest := []) C hz hl.1 hG (pin pnil) (c_X10_writeDown l E aw N 4 x1 x2 ww_4 hcr5 H.size) okX10_writeDown q902 0 rfl rfl rfl (Nat.le_of_ble_eq_true rfl) (by omega) ⟨Nat.le_refl _, Nat.le_refl _⟩ dX10_loseMemory_110) (fun H locs hG => ?_)
        refine lv_iload_n hx hb dX10_loseMemory_113 rfl (lv_at hl 1 rfl) ?_
        exact hret _ _ _ _ _ _ h rfl hG dX10_loseMemory_114
      · replace h := ie c20 h
        refine lv_aload_n hx hb dX10_loseMemory_23 rfl (lv_at hl 0 rfl) ?_
        refine gL_f (v := .ref (aw 23)) C hG kX10 0 4 rfl (by decide) rfl q362 rfl dX10_loseMemory_24 ?_
        refine lv_iload_n hx hb dX10_loseMemory_27 rfl (lv_at hl 3 rfl) ?_
        obtain ⟨r6, hcr6, h⟩ := bnd_some h
        refine gF_i (ws' := (rW E aw ww ++ [])) C hG (pin pnil) (List.Perm.symm (pin pnil)) (gR_N (As := [.int x3]) (rest := []) C hz hl.1 hG (pin pnil) (c_X5_holdsSlots l E aw N x3 ww hcr6 H.size) okX5_holdsSlots q888 23 rfl rfl rfl (Nat.le_of_ble_eq_true rfl) (by omega) ⟨Nat.le_refl _, Nat.le_refl _⟩ dX10_loseMemory_28) (fun H locs z7 hG => ?_)
        refine lv_if_eq (tgt := 66) hx hb dX10_loseMemory_31 (by decide) (fun c31 => ?_) (fun c31 => ?_)
        · replace h := it c31 h
          exact K66 _ ih x1 x2 x3 ww _ _ _ hG (lv_sub hl [0, 1, 2, 3] rfl) h
        · replace h := ie c31 h
          refine lv_aload_n hx hb dX10_loseMemory_34 rfl (lv_at hl 0 rfl) ?_
          refine gL_f (v := .ref (aw 15)) C hG kX10 0 2 rfl (by decide) rfl q358 rfl dX10_loseMemory_35 ?_
          refine lv_aload_n hx hb dX10_loseMemory_38 rfl (lv_at hl 0 rfl) ?_
          refine gL_f (v := .ref (aw 23)) C hG kX10 0 4 rfl (by decide) rfl q362 rfl dX10_loseMemory_39 ?_
          refine gL_fN (v := .ref (aw 24)) C hG kX5 23 1 rfl (by decide) rfl q319 rfl dX10_loseMemory_42 ?_
          refine lv_iload_n hx hb dX10_loseMemory_45 rfl (lv_at hl 3 rfl) ?_
          obtain ⟨b8, h⟩ := ck_some h
          refine gL_i (v := (ww 24 x3.toNatClampNeg)) C hG 24 rfl (inb_in b8) rfl dX10_loseMemory_46 ?_
          obtain ⟨r9, hcr9, h⟩ := bnd_some h
          refine gF_v (ws' := (rW E aw r9 ++ [])) C hG (pin pnil) (List.Perm.symm (pin pnil)) (gR_N (As := [.int (ww 24 x3.toNatClampNeg)]) (rest := []) C hz hl.1 hG (pin pnil) (c_X1_leaveSlots l E aw N (ww 24 x3.toNatClampNeg) ww hcr9 H.size) okX1_leaveSlots q892 15 rfl rfl rfl (Nat.le_of_ble_eq_true rfl) (by omega) ⟨Nat.le_refl _, Nat.le_refl _⟩ dX10_loseMemory_47) (fun H locs hG => ?_)
          refine lv_iload_n hx hb dX10_loseMemory_50 rfl (lv_at hl 2 rfl) ?_
          refine gT_zN C hG q850 dX10_loseMemory_51 ?_
          refine lv_aload_n hx hb dX10_loseMemory_54 rfl (lv_at hl 0 rfl) ?_
          refine gL_f (v := .ref (aw 23)) C hG kX10 0 4 rfl (by decide) rfl q362 rfl dX10_loseMemory_55 ?_
          refine gL_fN (v := .ref (aw 24)) C hG kX5 23 1 rfl (by decide) rfl q319 rfl dX10_loseMemory_58 ?_
          refine lv_iload_n hx hb dX10_loseMemory_61 rfl (lv_at hl 3 rfl) ?_
          refine gL_i (v := (r9 24 x3.toNatClampNeg)) C hG 24 rfl (inb_in b8) rfl dX10_loseMemory_62 ?_
          obtain ⟨b10, h⟩ := ck_some h
          refine gT_zi (v := (sizeT (r9 24 x3.toNatClampNeg).toNatClampNeg)) C hG (inb_in b10) rfl dX10_loseMemory_63 ?_
          refine lv_iadd hx hb dX10_loseMemory_64 ?_
          obtain ⟨x2_11, ex2_11, h⟩ := thn_some h
          refine g_int ex2_11 ?_
          refine lv_istore_n (lv' := [(2, .int x2_11), (0, .ref (aw 0)), (1, .int x1), (3, .int x3)]) hx hb dX10_loseMemory_65 rfl hl (by decide) rfl (fun ls hl => ?_)
          exact K66 _ ih x1 x2_11 x3 r9 _ _ _ hG (lv_sub hl [1, 2, 0, 3] rfl) h
  rw [fX10_loseMemory] at h
  refine lv_aload_n hx hb dX10_loseMemory_0 rfl (lv_at hl 0 rfl) ?_
  refine gL_f (v := .ref (aw 23)) C hG kX10 0 4 rfl (by decide) rfl q362 rfl dX10_loseMemory_1 ?_
  refine gL_fN (v := .int (ww 23 0)) C hG kX5 23 0 rfl (by decide) rfl q315 rfl dX10_loseMemory_4 ?_
  obtain ⟨x1_1, ex1_1, h⟩ := thn_some h
  refine g_int ex1_1 ?_
  refine lv_istore_n (lv' := [(1, .int x1_1), (0, .ref (aw 0))]) hx hb dX10_loseMemory_7 rfl hl (by decide) rfl (fun ls hl => ?_)
  refine lv_iconst (v := 0) hx hb dX10_loseMemory_8 (by decide) ?_
  refine lv_istore_n (lv' := [(2, .int 0), (1, .int x1_1), (0, .ref (aw 0))]) hx hb dX10_loseMemory_9 rfl hl (by decide) rfl (fun ls hl => ?_)
  refine lv_iconst (v := 0) hx hb dX10_loseMemory_10 (by decide) ?_
  refine lv_istore_n (lv' := [(3, .int 0), (2, .int 0), (1, .int x1_1), (0, .ref (aw 0))]) hx hb dX10_loseMemory_11 rfl hl (by decide) rfl (fun ls hl => ?_)
  exact K12 N x1_1 0 0 ww _ _ _ hG (lv_sub hl [3, 2, 1, 0] rfl) h
set_option maxHeartbeats 4000000 in
set_option maxRecDepth 100000 in
theorem c_X10_happen (l : Launch) (E : GE) (aw : Nat → Nat) (ap : Nat → Nat) (N : Nat) (x1 : Int32) (ww : RS) (pp : RS) {res : RS × RS} (h : fX10_happen N x1 ww pp = some res) : gMv l E yX10_happen cX10_happen 7 17 0 0 [.ref (aw 0), .int x1, .ref (ap 0)] (rW E aw ww ++ (rP E ap pp ++ [])) (rW E aw res.1 ++ (rP E ap res.2 ++ [])) := by
  refine gMv_of (own := RX10) (by decide +kernel) rfl (Nat.le_of_ble_eq_true rfl) ?_
  intro p e s m args below meth c A ls Q H locs C hz hl hG hin hret
  have hx := C.1.1
  have hb := C.1.2.1
  have hts := C.1.2.2.2.2
  have hown := C.1.2.2.2.1
  have hl : lv_has ls 7 [(0, .ref (aw 0)), (1, .int x1), (2, .ref (ap 0))] := hl
  replace hret : ∀ (ww0 : RS) (pp0 : RS) (H : Heap) (locs : List Loc) (pc : Nat) (ls' : Array Slot), some (ww0, pp0) = some res → gG E A s.heap (rW E aw ww0 ++ (rP E ap pp0 ++ [])) H locs → decode cX10_happen pc = .ok (.return_, 1) → W p l e (rmD 17 0 0) s m args below meth c H locs 0 0 Q (F0 m pc ls' []) := by
    intro ww0 pp0 H locs pc ls' e0; cases e0; exact hret H locs pc ls'
  have K126 : ∀  (ww : RS) (pp : RS) (H : Heap) (locs : List Loc) (ls : Array Slot), gG E A s.heap (rW E aw ww ++ (rP E ap pp ++ [])) H locs → lv_has ls 7 [(0, .ref (aw 0)), (2, .ref (ap 0))] → fX10_happen_L126 N x1 ww pp = some res → W p l e (rmD 17 0 0) s m args below meth c H locs 0 0 Q (F0 m 126 ls []) := by
    intro ww pp H locs ls hG hl h
    rw [fX10_happen_L126] at h
    refine lv_aload_n hx hb dX10_happen_126 rfl (lv_at hl 0 rfl) ?_
    refine lv_aload_n hx hb dX10_happen_127 rfl (lv_at hl 1 rfl) ?_
    obtain ⟨r1, hcr1, h⟩ := bnd_some h
    refine gF_v (ws' := (rW E aw r1.1 ++ (rP E ap r1.2 ++ []))) C hG (pin (pin pnil)) (List.Perm.symm (pin (pin pnil))) (gR_V (As := [.ref (ap 0)]) (rest := []) C hz hl.1 hG (pin (pin pnil)) (c_X10_tick l E aw ap N ww pp hcr1 H.size) okX10_tick q914 0 rfl rfl rfl (Nat.le_of_ble_eq_true rfl) (by omega) ⟨Nat.le_refl _, Nat.le_refl _⟩ dX10_happen_128) (fun H locs hG => ?_)
    exact hret _ _ _ _ _ _ h hG dX10_happen_131
  rw [fX10_happen] at h
  refine lv_iload_n hx hb dX10_happen_0 rfl (lv_at hl 1 rfl) ?_
  refine lv_bipush (v := 10) hx hb dX10_happen_1 (by decide) ?_
  refine lv_idiv hx hb dX10_happen_3 (by decide) ?_
  obtain ⟨x3_1, ex3_1, h⟩ := thn_some h
  refine g_int ex3_1 ?_
  refine lv_istore_n (lv' := [(3, .int x3_1), (0, .ref (aw 0)), (1, .int x1), (2, .ref (ap 0))]) hx hb dX10_happen_4 rfl hl (by decide) rfl (fun ls hl => ?_)
  refine lv_iload_n hx hb dX10_happen_5 rfl (lv_at hl 0 rfl) ?_
  refine lv_bipush (v := 10) hx hb dX10_happen_6 (by decide) ?_
  refine lv_irem hx hb dX10_happen_8 (by decide) ?_
  refine g_int (v := (irem x3_1 10)) rfl ?_
  refine lv_iload_n hx hb dX10_happen_9 rfl (lv_at hl 2 rfl) ?_
  refine lv_bipush (v := 100) hx hb dX10_happen_10 (by decide) ?_
  refine lv_idiv hx hb dX10_happen_12 (by decide) ?_
  refine lv_bipush (v := 10) hx hb dX10_happen_13 (by decide) ?_
  refine lv_irem hx hb dX10_happen_15 (by decide) ?_
  refine g_int (v := (irem (x1 / 100) 10)) rfl ?_
  refine lv_imul hx hb dX10_happen_16 ?_
  refine lv_bipush (v := 10) hx hb dX10_happen_17 (by decide) ?_
  refine lv_idiv hx hb dX10_happen_19 (by decide) ?_
  obtain ⟨x4_2, ex4_2, h⟩ := thn_some h
  refine g_int ex4_2 ?_
  refine lv_istore (lv' := [(4, .int x4_2), (3, .int x3_1), (0, .ref (aw 0)), (1, .int x1), (2, .ref (ap 0))]) hx hb dX10_happen_20 hl (by decide) rfl (fun ls hl => ?_)
  refine lv_iload_n hx hb dX10_happen_22 rfl (lv_at hl 3 rfl) ?_
  refine gT_zN C hG q850 dX10_happen_23 ?_
  refine lv_iload hx hb dX10_happen_26 (lv_at hl 0 rfl) ?_
  obtain ⟨b3, h⟩ := ck_some h
  refine gT_zi (v := (sizeT x4_2.toNatClampNeg)) C hG (inb_in b3) rfl dX10_happen_28 ?_
  obtain ⟨b4, h⟩ := ck_some h
  refine lv_irem hx hb dX10_happen_29 (nz_ne b4) ?_
  refine g_int (v := (irem x1 (sizeT x4_2.toNatClampNeg))) rfl ?_
  obtain ⟨x5_5, ex5_5, h⟩ := thn_some h
  refine g_int ex5_5 ?_
  refine lv_istore (lv' := [(5, .int x5_5), (4, .int x4_2), (3, .int x3_1), (0, .ref (aw 0)), (1, .int x1), (2, .ref (ap 0))]) hx hb dX10_happen_30 hl (by decide) rfl (fun ls hl => ?_)
  refine lv_iload_n hx hb dX10_happen_32 rfl (lv_at hl 4 rfl) ?_
  refine lv_bipush (v := 10) hx hb dX10_happen_33 (by decide) ?_
  refine lv_irem hx hb dX10_happen_35 (by decide) ?_
  refine g_int (v := (irem x1 10)) rfl ?_
  obtain ⟨x6_6, ex6_6, h⟩ := thn_some h
  refine g_int ex6_6 ?_
  refine lv_istore (lv' := [(6, .int x6_6), (5, .int x5_5), (4, .int x4_2), (3, .int x3_1), (0, .ref (aw 0)), (1, .int x1), (2, .ref (ap 0))]) hx hb dX10_happen_36 hl (by decide) rfl (fun ls hl => ?_)
  refine lv_iload hx hb dX10_happen_38 (lv_at hl 0 rfl) ?_
  refine lv_iconst (v := 3) hx hb dX10_happen_40 (by decide) ?_
  refine lv_icmp_gt (tgt := 56) hx hb dX10_happen_41 (by decide) (fun c41 => ?_) (fun c41 => ?_)
  · replace h := it c41 h
    refine lv_iload hx hb dX10_happen_56 (lv_at hl 0 rfl) ?_
    refine lv_iconst (v := 5) hx hb dX10_happen_58 (by decide) ?_
    refine lv_icmp_gt (tgt := 78) hx hb dX10_happen_59 (by decide) (fun c59 => ?_) (fun c59 => ?_)
    · replace h := it c59 h
      refine lv_iload hx hb dX10_happen_78 (lv_at hl 0 rfl) ?_
      refine lv_bipush (v := 6) hx hb dX10_happen_80 (by decide) ?_
      refine lv_icmp_ne (tgt := 105) hx hb dX10_happen_82 (by decide) (fun c82 => ?_) (fun c82 => ?_)
      · replace h := ie c82 h
        refine lv_iload hx hb dX10_happen_105 (lv_at hl 0 rfl) ?_
        refine lv_bipush (v := 9) hx hb dX10_happen_107 (by decide) ?_
        refine lv_icmp_ne (tgt := 126) hx hb dX10_happen_109 (by decide) (fun c109 => ?_) (fun c109 => ?_)
        · replace h := ie c109 h
          exact K126 ww pp _ _ _ hG (lv_sub hl [4, 6] rfl) h
        · replace h := it c109 h
          refine lv_iload_n hx hb dX10_happen_112 rfl (lv_at hl 3 rfl) ?_
          refine lv_iconst (v := 4) hx hb dX10_happen_113 (by decide) ?_
          refine lv_irem hx hb dX10_happen_114 (by decide) ?_
          refine g_int (v := (irem x3_1 4)) rfl ?_
          refine lv_if_ne (tgt := 126) hx hb dX10_happen_115 (by decide) (fun c115 => ?_) (fun c115 => ?_)
          · replace h := ie c115 h
            exact K126 ww pp _ _ _ hG (lv_sub hl [4, 6] rfl) h
          · replace h := it c115 h
            refine lv_aload_n hx hb dX10_happen_118 rfl (lv_at hl 4 rfl) ?_
            obtain ⟨r7, hcr7, h⟩ := bnd_some h
            refine gF_i (ws' := (rW E aw r7.2 ++ (rP E ap pp ++ []))) C hG (pin (pout pnil)) (List.Perm.symm (pin (pout pnil))) (gR_V (As := []) (rest := []) C hz hl.1 hG (pin (pout pnil)) (c_X10_loseMemory l E aw N ww hcr7 H.size) okX10_loseMemory q1111 0 rfl rfl rfl (Nat.le_of_ble_eq_true rfl) (by omega) ⟨Nat.le_refl _, Nat.le_refl _⟩ dX10_happen_119) (fun H locs _ hG => ?_)
            refine lv_pop hx hb dX10_happen_122 rfl ?_
            refine lv_goto (tgt := 131) hx hb dX10_happen_123 (by decide) ?_
            exact hret _ _ _ _ _ _ h hG dX10_happen_131
      · replace h := it c82 h
        refine lv_aload_n hx hb dX10_happen_85 rfl (lv_at hl 4 rfl) ?_
        refine lv_iload_n hx hb dX10_happen_86 rfl (lv_at hl 3 rfl) ?_
        refine lv_bipush (v := 9) hx hb dX10_happen_87 (by decide) ?_
        refine lv_irem hx hb dX10_happen_89 (by decide) ?_
        refine g_int (v := (irem x3_1 9)) rfl ?_
        refine lv_iload_n hx hb dX10_happen_90 rfl (lv_at hl 3 rfl) ?_
        refine lv_bipush (v := 9) hx hb dX10_happen_91 (by decide) ?_
        refine lv_irem hx hb dX10_happen_93 (by decide) ?_
        refine g_int (v := (irem x3_1 9)) rfl ?_
        refine lv_iconst (v := 1) hx hb dX10_happen_94 (by decide) ?_
        refine lv_iadd hx hb dX10_happen_95 ?_
        refine lv_bipush (v := 23) hx hb dX10_happen_96 (by decide) ?_
        obtain ⟨r8, hcr8, h⟩ := bnd_some h
        refine gF_i (ws' := (rW E aw r8.2 ++ (rP E ap pp ++ []))) C hG (pin (pout pnil)) (List.Perm.symm (pin (pout pnil))) (gR_V (As := [.int (irem x3_1 9), .int ((irem x3_1 9) + 1), .int 23]) (rest := []) C hz hl.1 hG (pin (pout pnil)) (c_X10_readExtents l E aw N (irem x3_1 9) ((irem x3_1 9) + 1) 23 ww hcr8 H.size) okX10_readExtents q1110 0 rfl rfl rfl (Nat.le_of_ble_eq_true rfl) (by omega) ⟨Nat.le_refl _, Nat.le_refl _⟩ dX10_happen_98) (fun H locs _ hG => ?_)
        refine lv_pop hx hb dX10_happen_101 rfl ?_
        refine lv_goto (tgt := 131) hx hb dX10_happen_102 (by decide) ?_
        exact hret _ _ _ _ _ _ h hG dX10_happen_131
    · replace h := ie c59 h
      refine lv_aload_n hx hb dX10_happen_62 rfl (lv_at hl 4 rfl) ?_
      refine lv_iload hx hb dX10_happen_63 (lv_at hl 2 rfl) ?_
      refine lv_iload hx hb dX10_happen_65 (lv_at hl 1 rfl) ?_
      refine lv_iload_n hx hb dX10_happen_67 rfl (lv_at hl 5 rfl) ?_
      refine lv_sipush (v := 1000) hx hb dX10_happen_68 (by decide) ?_
      refine lv_irem hx hb dX10_happen_71 (by decide) ?_
      refine g_int (v := (irem x1 1000)) rfl ?_
      obtain ⟨r9, hcr9, h⟩ := bnd_some h
      refine gF_v (ws' := (rW E aw r9 ++ (rP E ap pp ++ []))) C hG (pin (pout pnil)) (List.Perm.symm (pin (pout pnil))) (gR_V (As := [.int x4_2, .int x5_5, .int (irem x1 1000)]) (rest := []) C hz hl.1 hG (pin (pout pnil)) (c_X10_writeBlock l E aw N x4_2 x5_5 (irem x1 1000) ww hcr9 H.size) okX10_writeBlock q1109 0 rfl rfl rfl (Nat.le_of_ble_eq_true rfl) (by omega) ⟨Nat.le_refl _, Nat.le_refl _⟩ dX10_happen_72) (fun H locs hG => ?_)
      refine lv_goto (tgt := 131) hx hb dX10_happen_75 (by decide) ?_
      exact hret _ _ _ _ _ _ h hG dX10_happen_131
  · replace h := ie c41 h
    refine lv_aload_n hx hb dX10_happen_44 rfl (lv_at hl 4 rfl) ?_
    refine lv_iload hx hb dX10_happen_45 (lv_at hl 2 rfl) ?_
    refine lv_iload hx hb dX10_happen_47 (lv_at hl 1 rfl) ?_
    obtain ⟨r10, hcr10, h⟩ := bnd_some h
    refine gF_i (ws' := (rW E aw r10.2 ++ (rP E ap pp ++ []))) C hG (pin (pout pnil)) (List.Perm.symm (pin (pout pnil))) (gR_V (As := [.int x4_2, .int x5_5]) (rest := []) C hz hl.1 hG (pin (pout pnil)) (c_X10_readBlock l E aw N x4_2 x5_5 ww hcr10 H.size) okX10_readBlock q851 0 rfl rfl rfl (Nat.le_of_ble_eq_true rfl) (by omega) ⟨Nat.le_refl _, Nat.le_refl _⟩ dX10_happen_49) (fun H locs _ hG => ?_)
    refine lv_pop hx hb dX10_happen_52 rfl ?_
    refine lv_goto (tgt := 131) hx hb dX10_happen_53 (by decide) ?_
    exact hret _ _ _ _ _ _ h hG dX10_happen_131
set_option maxHeartbeats 4000000 in
set_option maxRecDepth 100000 in
theorem c_X10_live (l : Launch) (E : GE) (aw : Nat → Nat) (ap : Nat → Nat) (N : Nat) (x1 : Int32) (x2 : Int32) (ww : RS) (pp : RS) {res : RS × RS} (h : fX10_live N x1 x2 ww pp = some res) : gMv l E yX10_live cX10_live 6 18 0 0 [.ref (aw 0), .int x1, .int x2, .ref (ap 0)] (rW E aw ww ++ (rP E ap pp ++ [])) (rW E aw res.1 ++ (rP E ap res.2 ++ [])) := by
  refine gMv_of (own := RX10) (by decide +kernel) rfl (Nat.le_of_ble_eq_true rfl) ?_
  intro p e s m args below meth c A ls Q H locs C hz hl hG hin hret
  have hx := C.1.1
  have hb := C.1.2.1
  have hts := C.1.2.2.2.2
  have hown := C.1.2.2.2.1
  have hl : lv_has ls 6 [(0, .ref (aw 0)), (1, .int x1), (2, .int x2), (3, .ref (ap 0))] := hl
  replace hret : ∀ (ww0 : RS) (pp0 : RS) (H : Heap) (locs : List Loc) (pc : Nat) (ls' : Array Slot), some (ww0, pp0) = some res → gG E A s.heap (rW E aw ww0 ++ (rP E ap pp0 ++ [])) H locs → decode cX10_live pc = .ok (.return_, 1) → W p l e (rmD 18 0 0) s m args below meth c H locs 0 0 Q (F0 m pc ls' []) := by
    intro ww0 pp0 H locs pc ls' e0; cases e0; exact hret H locs pc ls'
  have K16 : ∀ (k : Nat), ∀  (x4 : Int32) (ww : RS) (pp : RS) (H : Heap) (locs : List Loc) (ls : Array Slot), gG E A s.heap (rW E aw ww ++ (rP E ap pp ++ [])) H locs → lv_has ls 6 [(0, .ref (aw 0)), (2, .int x2), (3, .ref (ap 0)), (4, .int x4)] → fX10_live_L16 N x1 x2 k x4 ww pp = some res → W p l e (rmD 18 0 0) s m args below meth c H locs 0 0 Q (F0 m 16 ls []) := by
    intro k
    induction k with
    | zero => intro x4 ww pp H locs ls hG hl h; exact absurd (show none = _ from h) (by simp)
    | succ k ih =>
      intro x4 ww pp H locs ls hG hl h
      rw [fX10_live_L16] at h
      refine lv_iload hx hb dX10_live_16 (lv_at hl 3 rfl) ?_
      refine lv_iload_n hx hb dX10_live_18 rfl (lv_at hl 1 rfl) ?_
      refine lv_icmp_ge (tgt := 63) hx hb dX10_live_19 (by decide) (fun c19 => ?_) (fun c19 => ?_)
      · replace h := it c19 h
        exact hret _ _ _ _ _ _ h hG dX10_live_63
      · replace h := ie c19 h
        refine lv_aload_n hx hb dX10_live_22 rfl (lv_at hl 0 rfl) ?_
        refine gL_f (v := .ref (aw 1)) C hG kX10 0 0 rfl (by decide) rfl q352 rfl dX10_live_23 ?_
        refine lv_iconst (v := 1) hx hb dX10_live_26 (by decide) ?_
        refine gL_i (v := (ww 1 1)) C hG 1 rfl (vp_in_nI (n := 1) (by decide) (by decide)) (congrArg (ww 1) (nI_clamp (n := 1) (by decide))) dX10_live_27 ?_
        obtain ⟨x5_1, ex5_1, h⟩ := thn_some h
        refine g_int ex5_1 ?_
        refine lv_istore (lv' := [(5, .int x5_1), (0, .ref (aw 0)), (2, .int x2), (3, .ref (ap 0)), (4, .int x4)]) hx hb dX10_live_28 hl (by decide) rfl (fun ls hl => ?_)
        refine lv_aload_n hx hb dX10_live_30 rfl (lv_at hl 1 rfl) ?_
        refine gL_f (v := .ref (aw 1)) C hG kX10 0 0 rfl (by decide) rfl q352 rfl dX10_live_31 ?_
        refine lv_iconst (v := 1) hx hb dX10_live_34 (by decide) ?_
        refine lv_iload hx hb dX10_live_35 (lv_at hl 0 rfl) ?_
        refine lv_sipush (v := 773) hx hb dX10_live_37 (by decide) ?_
        refine lv_imul hx hb dX10_live_40 ?_
        refine lv_sipush (v := 641) hx hb dX10_live_41 (by decide) ?_
        refine lv_iadd hx hb dX10_live_44 ?_
        refine lv_sipush (v := 31139) hx hb dX10_live_45 (by decide) ?_
        refine lv_irem hx hb dX10_live_48 (by decide) ?_
        refine g_int (v := (irem ((x5_1 * 773) + 641) 31139)) rfl ?_
        obtain ⟨ww_2, eww_2, h⟩ := thn_some h
        refine gS_i (x := (irem ((x5_1 * 773) + 641) 31139)) (ws' := (rW E aw ww_2 ++ (rP E ap pp ++ []))) C hG 1 rfl (vp_in_nI (n := 1) (by decide) (by decide)) (nI_clamp (n := 1) (by decide)) dX10_live_49 (by rw [eww_2]; rfl) (fun H locs hG => ?_)
        refine lv_aload_n hx hb dX10_live_50 rfl (lv_at hl 1 rfl) ?_
        refine lv_iload hx hb dX10_live_51 (lv_at hl 0 rfl) ?_
        refine lv_aload_n hx hb dX10_live_53 rfl (lv_at hl 3 rfl) ?_
        obtain ⟨r3, hcr3, h⟩ := bnd_some h
        refine gF_v (ws' := (rW E aw r3.1 ++ (rP E ap r3.2 ++ []))) C hG (pin (pin pnil)) (List.Perm.symm (pin (pin pnil))) (gR_V (As := [.int x5_1, .ref (ap 0)]) (rest := []) C hz hl.1 hG (pin (pin pnil)) (c_X10_happen l E aw ap N x5_1 ww_2 pp hcr3 H.size) okX10_happen q1105 0 rfl rfl rfl (Nat.le_of_ble_eq_true rfl) (by omega) ⟨Nat.le_refl _, Nat.le_refl _⟩ dX10_live_54) (fun H locs hG => ?_)
        refine lv_iinc (v := (x4 + 1)) (lv' := [(4, .int (x4 + 1)), (5, .int x5_1), (0, .ref (aw 0)), (2, .int x2), (3, .ref (ap 0))]) hx hb dX10_live_57 hl (k := 4) rfl (congrArg (x4 + ·) (by decide : Int32.ofInt 1 = 1)) (by decide) rfl (fun ls hl => ?_)
        refine lv_goto (tgt := 16) hx hb dX10_live_60 (by decide) ?_
        exact ih (x4 + 1) r3.1 r3.2 _ _ _ hG (lv_sub hl [2, 3, 4, 0] rfl) h
  rw [fX10_live] at h
  refine lv_aload_n hx hb dX10_live_0 rfl (lv_at hl 0 rfl) ?_
  refine gL_f (v := .ref (aw 1)) C hG kX10 0 0 rfl (by decide) rfl q352 rfl dX10_live_1 ?_
  refine lv_iconst (v := 1) hx hb dX10_live_4 (by decide) ?_
  refine lv_iload_n hx hb dX10_live_5 rfl (lv_at hl 1 rfl) ?_
  refine lv_iconst (v := 2) hx hb dX10_live_6 (by decide) ?_
  refine lv_imul hx hb dX10_live_7 ?_
  refine lv_sipush (v := 409) hx hb dX10_live_8 (by decide) ?_
  refine lv_iadd hx hb dX10_live_11 ?_
  obtain ⟨ww_1, eww_1, h⟩ := thn_some h
  refine gS_i (x := ((x1 * 2) + 409)) (ws' := (rW E aw ww_1 ++ (rP E ap pp ++ []))) C hG 1 rfl (vp_in_nI (n := 1) (by decide) (by decide)) (nI_clamp (n := 1) (by decide)) dX10_live_12 (by rw [eww_1]; rfl) (fun H locs hG => ?_)
  refine lv_iconst (v := 0) hx hb dX10_live_13 (by decide) ?_
  refine lv_istore (lv' := [(4, .int 0), (0, .ref (aw 0)), (1, .int x1), (2, .int x2), (3, .ref (ap 0))]) hx hb dX10_live_14 hl (by decide) rfl (fun ls hl => ?_)
  exact K16 N 0 ww_1 pp _ _ _ hG (lv_sub hl [1, 3, 4, 0] rfl) h
set_option maxHeartbeats 4000000 in
set_option maxRecDepth 100000 in
theorem c_X6_needOf (l : Launch) (E : GE) (ap : Nat → Nat) (N : Nat) (x1 : Int32) (pp : RS) {res : Int32} (h : fX6_needOf N x1 pp = some res) : gMi l E yX6_needOf cX6_needOf 4 .int 2 0 0 [.ref (ap 0), .int x1] (rP E ap pp ++ []) (rP E ap pp ++ []) res := by
  refine gMi_of (own := RX6) (by decide +kernel) rfl (Nat.le_of_ble_eq_true rfl) ?_
  intro p e s m args below meth c A ls Q H locs C hz hl hG hret
  have hx := C.1.1
  have hb := C.1.2.1
  have hts := C.1.2.2.2.2
  have hown := C.1.2.2.2.1
  have hl : lv_has ls 4 [(0, .ref (ap 0)), (1, .int x1)] := hl
  replace hret : ∀ (r0 : Int32) (H : Heap) (locs : List Loc) (pc : Nat) (ls' : Array Slot), some r0 = some res → narrow .int (.int r0) = .int r0 → gG E A s.heap (rP E ap pp ++ []) H locs → decode cX6_needOf pc = .ok (.ireturn, 1) → W p l e (rmD 2 0 0) s m args below meth c H locs 0 0 Q (F0 m pc ls' [.int r0]) := by
    intro r0 H locs pc ls' e0 hn; cases e0; exact hret H locs pc ls' hn
  have K34 : ∀ (k4 : (Int32 → Int32 → Option (Int32))) (hk4 : ∀  (x2 : Int32) (x3 : Int32) (H : Heap) (locs : List Loc) (ls : Array Slot), gG E A s.heap (rP E ap pp ++ []) H locs → lv_has ls 4 [(0, .ref (ap 0)), (1, .int x1), (2, .int x2), (3, .int x3)] → k4 x2 x3 = some res → W p l e (rmD 2 0 0) s m args below meth c H locs 0 0 Q (F0 m 4 ls [])), ∀  (x3 : Int32) (s0 : Int32) (s1 : Int32) (H : Heap) (locs : List Loc) (ls : Array Slot), gG E A s.heap (rP E ap pp ++ []) H locs → lv_has ls 4 [(0, .ref (ap 0)), (1, .int x1), (3, .int x3)] → fX6_needOf_L34 N x1 pp k4 x3 s0 s1 = some res → W p l e (rmD 2 0 0) s m args below meth c H locs 0 0 Q (F0 m 34 ls [.int s1, .int s0]) := by
    intro k4 hk4 x3 s0 s1 H locs ls hG hl h
    rw [fX6_needOf_L34] at h
    refine lv_iadd hx hb dX6_needOf_34 ?_
    obtain ⟨x2_1, ex2_1, h⟩ := thn_some h
    refine g_int ex2_1 ?_
    refine lv_istore_n (lv' := [(2, .int x2_1), (0, .ref (ap 0)), (1, .int x1), (3, .int x3)]) hx hb dX6_needOf_35 rfl hl (by decide) rfl (fun ls hl => ?_)
    refine lv_iinc (v := (x3 + 1)) (lv' := [(3, .int (x3 + 1)), (2, .int x2_1), (0, .ref (ap 0)), (1, .int x1)]) hx hb dX6_needOf_36 hl (k := 3) rfl (congrArg (x3 + ·) (by decide : Int32.ofInt 1 = 1)) (by decide) rfl (fun ls hl => ?_)
    refine lv_goto (tgt := 4) hx hb dX6_needOf_39 (by decide) ?_
    exact hk4 x2_1 (x3 + 1) _ _ _ hG (lv_sub hl [2, 3, 1, 0] rfl) h
  have K4 : ∀ (k : Nat), ∀  (x2 : Int32) (x3 : Int32) (H : Heap) (locs : List Loc) (ls : Array Slot), gG E A s.heap (rP E ap pp ++ []) H locs → lv_has ls 4 [(0, .ref (ap 0)), (1, .int x1), (2, .int x2), (3, .int x3)] → fX6_needOf_L4 N x1 pp k x2 x3 = some res → W p l e (rmD 2 0 0) s m args below meth c H locs 0 0 Q (F0 m 4 ls []) := by
    intro k
    induction k with
    | zero => intro x2 x3 H locs ls hG hl h; exact absurd (show none = _ from h) (by simp)
    | succ k ih =>
      intro x2 x3 H locs ls hG hl h
      rw [fX6_needOf_L4] at h
      refine lv_iload_n hx hb dX6_needOf_4 rfl (lv_at hl 3 rfl) ?_
      refine lv_bipush (v := 10) hx hb dX6_needOf_5 (by decide) ?_
      refine lv_icmp_ge (tgt := 42) hx hb dX6_needOf_7 (by decide) (fun c7 => ?_) (fun c7 => ?_)
      · replace h := it c7 h
        refine lv_iload_n hx hb dX6_needOf_42 rfl (lv_at hl 2 rfl) ?_
        exact hret _ _ _ _ _ h rfl hG dX6_needOf_43
      · replace h := ie c7 h
        refine lv_iload_n hx hb dX6_needOf_10 rfl (lv_at hl 2 rfl) ?_
        refine lv_iload_n hx hb dX6_needOf_11 rfl (lv_at hl 1 rfl) ?_
        refine lv_iload_n hx hb dX6_needOf_12 rfl (lv_at hl 3 rfl) ?_
        refine gF_i (ws' := (rP E ap pp ++ [])) C hG pst pst.symm (gR_S (As := [.int x1, .int x3]) (rest := [.int x2]) C hz hl.1 hG pst (c_X6_isIn l E x1 x3 rfl H.size) okX6_isIn q1005 rfl (Nat.le_of_ble_eq_true rfl) (by omega) ⟨Nat.le_refl _, Nat.le_refl _⟩ dX6_needOf_13) (fun H locs z1 hG => ?_)
        refine lv_if_eq (tgt := 28) hx hb dX6_needOf_16 (by decide) (fun c16 => ?_) (fun c16 => ?_)
        · replace h := it c16 h
          refine lv_aload_n hx hb dX6_needOf_28 rfl (lv_at hl 0 rfl) ?_
          refine gL_f (v := .ref (ap 7)) C hG kX6 0 6 rfl (by decide) rfl q412 rfl dX6_needOf_29 ?_
          refine lv_iload_n hx hb dX6_needOf_32 rfl (lv_at hl 3 rfl) ?_
          obtain ⟨b2, h⟩ := ck_some h
          refine gL_i (v := (pp 7 x3.toNatClampNeg)) C hG 7 rfl (inb_in b2) rfl dX6_needOf_33 ?_
          exact K34 _ ih x3 x2 (pp 7 x3.toNatClampNeg) _ _ _ hG (lv_sub hl [0, 1, 3] rfl) h
        · replace h := ie c16 h
          refine lv_aload_n hx hb dX6_needOf_19 rfl (lv_at hl 0 rfl) ?_
          refine gL_f (v := .ref (ap 6)) C hG kX6 0 5 rfl (by decide) rfl q411 rfl dX6_needOf_20 ?_
          refine lv_iload_n hx hb dX6_needOf_23 rfl (lv_at hl 3 rfl) ?_
          obtain ⟨b3, h⟩ := ck_some h
          refine gL_i (v := (pp 6 x3.toNatClampNeg)) C hG 6 rfl (inb_in b3) rfl dX6_needOf_24 ?_
          refine lv_goto (tgt := 34) hx hb dX6_needOf_25 (by decide) ?_
          exact K34 _ ih x3 x2 (pp 6 x3.toNatClampNeg) _ _ _ hG (lv_sub hl [0, 1, 3] rfl) h
  rw [fX6_needOf] at h
  refine lv_iconst (v := 0) hx hb dX6_needOf_0 (by decide) ?_
  refine lv_istore_n (lv' := [(2, .int 0), (0, .ref (ap 0)), (1, .int x1)]) hx hb dX6_needOf_1 rfl hl (by decide) rfl (fun ls hl => ?_)
  refine lv_iconst (v := 0) hx hb dX6_needOf_2 (by decide) ?_
  refine lv_istore_n (lv' := [(3, .int 0), (2, .int 0), (0, .ref (ap 0)), (1, .int x1)]) hx hb dX6_needOf_3 rfl hl (by decide) rfl (fun ls hl => ?_)
  exact K4 N 0 0 _ _ _ hG (lv_sub hl [2, 3, 1, 0] rfl) h
set_option maxHeartbeats 4000000 in
set_option maxRecDepth 100000 in
theorem c_X6_allows (l : Launch) (E : GE) (ap : Nat → Nat) (N : Nat) (x1 : Int32) (pp : RS) {res : Int32} (h : fX6_allows N x1 pp = some res) : gMi l E yX6_allows cX6_allows 5 .boolean 3 0 0 [.ref (ap 0), .int x1] (rP E ap pp ++ []) (rP E ap pp ++ []) res := by
  refine gMi_of (own := RX6) (by decide +kernel) rfl (Nat.le_of_ble_eq_true rfl) ?_
  intro p e s m args below meth c A ls Q H locs C hz hl hG hret
  have hx := C.1.1
  have hb := C.1.2.1
  have hts := C.1.2.2.2.2
  have hown := C.1.2.2.2.1
  have hl : lv_has ls 5 [(0, .ref (ap 0)), (1, .int x1)] := hl
  replace hret : ∀ (r0 : Int32) (H : Heap) (locs : List Loc) (pc : Nat) (ls' : Array Slot), some r0 = some res → narrow .boolean (.int r0) = .int r0 → gG E A s.heap (rP E ap pp ++ []) H locs → decode cX6_allows pc = .ok (.ireturn, 1) → W p l e (rmD 3 0 0) s m args below meth c H locs 0 0 Q (F0 m pc ls' [.int r0]) := by
    intro r0 H locs pc ls' e0 hn; cases e0; exact hret H locs pc ls' hn
  have K73 : ∀ (k17 : (Int32 → Int32 → Option (Int32))) (hk17 : ∀  (x2 : Int32) (x3 : Int32) (H : Heap) (locs : List Loc) (ls : Array Slot), gG E A s.heap (rP E ap pp ++ []) H locs → lv_has ls 5 [(0, .ref (ap 0)), (1, .int x1), (2, .int x2), (3, .int x3)] → k17 x2 x3 = some res → W p l e (rmD 3 0 0) s m args below meth c H locs 0 0 Q (F0 m 17 ls [])), ∀  (x3 : Int32) (s0 : Int32) (s1 : Int32) (H : Heap) (locs : List Loc) (ls : Array Slot), gG E A s.heap (rP E ap pp ++ []) H locs → lv_has ls 5 [(0, .ref (ap 0)), (1, .int x1), (3, .int x3)] → fX6_allows_L73 N x1 pp k17 x3 s0 s1 = some res → W p l e (rmD 3 0 0) s m args below meth c H locs 0 0 Q (F0 m 73 ls [.int s1, .int s0]) := by
    intro k17 hk17 x3 s0 s1 H locs ls hG hl h
    rw [fX6_allows_L73] at h
    refine lv_iadd hx hb dX6_allows_73 ?_
    obtain ⟨x2_1, ex2_1, h⟩ := thn_some h
    refine g_int ex2_1 ?_
    refine lv_istore_n (lv' := [(2, .int x2_1), (0, .ref (ap 0)), (1, .int x1), (3, .int x3)]) hx hb dX6_allows_74 rfl hl (by decide) rfl (fun ls hl => ?_)
    refine lv_iinc (v := (x3 + 1)) (lv' := [(3, .int (x3 + 1)), (2, .int x2_1), (0, .ref (ap 0)), (1, .int x1)]) hx hb dX6_allows_75 hl (k := 3) rfl (congrArg (x3 + ·) (by decide : Int32.ofInt 1 = 1)) (by decide) rfl (fun ls hl => ?_)
    refine lv_goto (tgt := 17) hx hb dX6_allows_78 (by decide) ?_
    exact hk17 x2_1 (x3 + 1) _ _ _ hG (lv_sub hl [2, 3, 1, 0] rfl) h
  have K58 : ∀ (k17 : (Int32 → Int32 → Option (Int32))) (hk17 : ∀  (x2 : Int32) (x3 : Int32) (H : Heap) (locs : List Loc) (ls : Array Slot), gG E A s.heap (rP E ap pp ++ []) H locs → lv_has ls 5 [(0, .ref (ap 0)), (1, .int x1), (2, .int x2), (3, .int x3)] → k17 x2 x3 = some res → W p l e (rmD 3 0 0) s m args below meth c H locs 0 0 Q (F0 m 17 ls [])), ∀  (x2 : Int32) (x3 : Int32) (x4 : Int32) (H : Heap) (locs : List Loc) (ls : Array Slot), gG E A s.heap (rP E ap pp ++ []) H locs → lv_has ls 5 [(0, .ref (ap 0)), (1, .int x1), (2, .int x2), (3, .int x3), (4, .int x4)] → fX6_allows_L58 N x1 pp k17 x2 x3 x4 = some res → W p l e (rmD 3 0 0) s m args below meth c H locs 0 0 Q (F0 m 58 ls []) := by
    intro k17 hk17 x2 x3 x4 H locs ls hG hl h
    rw [fX6_allows_L58] at h
    refine lv_iload_n hx hb dX6_allows_58 rfl (lv_at hl 2 rfl) ?_
    refine lv_iload hx hb dX6_allows_59 (lv_at hl 4 rfl) ?_
    refine lv_if_eq (tgt := 72) hx hb dX6_allows_61 (by decide) (fun c61 => ?_) (fun c61 => ?_)
    · replace h := it c61 h
      refine lv_iconst (v := 0) hx hb dX6_allows_72 (by decide) ?_
      exact K73 _ hk17 x3 x2 0 _ _ _ hG (lv_sub hl [0, 1, 3] rfl) h
    · replace h := ie c61 h
      refine gT_zN C hG q984 dX6_allows_64 ?_
      refine lv_iload_n hx hb dX6_allows_67 rfl (lv_at hl 3 rfl) ?_
      obtain ⟨b1, h⟩ := ck_some h
      refine gT_zi (v := (sizeT x3.toNatClampNeg)) C hG (inb_in b1) rfl dX6_allows_68 ?_
      refine lv_goto (tgt := 73) hx hb dX6_allows_69 (by decide) ?_
      exact K73 _ hk17 x3 x2 (sizeT x3.toNatClampNeg) _ _ _ hG (lv_sub hl [0, 1, 3] rfl) h
  have K17 : ∀ (k : Nat), ∀  (x2 : Int32) (x3 : Int32) (H : Heap) (locs : List Loc) (ls : Array Slot), gG E A s.heap (rP E ap pp ++ []) H locs → lv_has ls 5 [(0, .ref (ap 0)), (1, .int x1), (2, .int x2), (3, .int x3)] → fX6_allows_L17 N x1 pp k x2 x3 = some res → W p l e (rmD 3 0 0) s m args below meth c H locs 0 0 Q (F0 m 17 ls []) := by
    intro k
    induction k with
    | zero => intro x2 x3 H locs ls hG hl h; exact absurd (show none = _ from h) (by simp)
    | succ k ih =>
      intro x2 x3 H locs ls hG hl h
      rw [fX6_allows_L17] at h
      refine lv_iload_n hx hb dX6_allows_17 rfl (lv_at hl 3 rfl) ?_
      refine lv_bipush (v := 10) hx hb dX6_allows_18 (by decide) ?_
      refine lv_icmp_ge (tgt := 81) hx hb dX6_allows_20 (by decide) (fun c20 => ?_) (fun c20 => ?_)
      · replace h := it c20 h
        refine lv_iload_n hx hb dX6_allows_81 rfl (lv_at hl 2 rfl) ?_
        refine lv_bipush (v := 9) hx hb dX6_allows_82 (by decide) ?_
        refine lv_icmp_gt (tgt := 103) hx hb dX6_allows_84 (by decide) (fun c84 => ?_) (fun c84 => ?_)
        · replace h := it c84 h
          refine lv_iconst (v := 0) hx hb dX6_allows_103 (by decide) ?_
          exact hret _ _ _ _ _ h rfl hG dX6_allows_104
        · replace h := ie c84 h
          refine lv_aload_n hx hb dX6_allows_87 rfl (lv_at hl 0 rfl) ?_
          refine lv_iload_n hx hb dX6_allows_88 rfl (lv_at hl 1 rfl) ?_
          obtain ⟨r1, hcr1, h⟩ := bnd_some h
          refine gF_i (ws' := (rP E ap pp ++ [])) C hG (pin pnil) (List.Perm.symm (pin pnil)) (gR_V (As := [.int x1]) (rest := []) C hz hl.1 hG (pin pnil) (c_X6_needOf l E ap N x1 pp hcr1 H.size) okX6_needOf q1205 0 rfl rfl rfl (Nat.le_of_ble_eq_true rfl) (by omega) ⟨Nat.le_refl _, Nat.le_refl _⟩ dX6_allows_89) (fun H locs _ hG => ?_)
          refine lv_aload_n hx hb dX6_allows_92 rfl (lv_at hl 0 rfl) ?_
          refine gL_f (v := .int (pp 0 7)) C hG kX6 0 7 rfl (by decide) rfl q413 rfl dX6_allows_93 ?_
          refine lv_icmp_gt (tgt := 103) hx hb dX6_allows_96 (by decide) (fun c96 => ?_) (fun c96 => ?_)
          · replace h := it c96 h
            refine lv_iconst (v := 0) hx hb dX6_allows_103 (by decide) ?_
            exact hret _ _ _ _ _ h rfl hG dX6_allows_104
          · replace h := ie c96 h
            refine lv_iconst (v := 1) hx hb dX6_allows_99 (by decide) ?_
            refine lv_goto (tgt := 104) hx hb dX6_allows_100 (by decide) ?_
            exact hret _ _ _ _ _ h rfl hG dX6_allows_104
      · replace h := ie c20 h
        refine lv_iload_n hx hb dX6_allows_23 rfl (lv_at hl 1 rfl) ?_
        refine lv_iload_n hx hb dX6_allows_24 rfl (lv_at hl 3 rfl) ?_
        refine gF_i (ws' := (rP E ap pp ++ [])) C hG pst pst.symm (gR_S (As := [.int x1, .int x3]) (rest := []) C hz hl.1 hG pst (c_X6_isIn l E x1 x3 rfl H.size) okX6_isIn q1005 rfl (Nat.le_of_ble_eq_true rfl) (by omega) ⟨Nat.le_refl _, Nat.le_refl _⟩ dX6_allows_25) (fun H locs z2 hG => ?_)
        obtain ⟨x4_3, ex4_3, h⟩ := thn_some h
        refine g_int ex4_3 ?_
        refine lv_istore (lv' := [(4, .int x4_3), (0, .ref (ap 0)), (1, .int x1), (2, .int x2), (3, .int x3)]) hx hb dX6_allows_28 hl (by decide) rfl (fun ls hl => ?_)
        refine lv_iload hx hb dX6_allows_30 (lv_at hl 0 rfl) ?_
        refine lv_if_eq (tgt := 47) hx hb dX6_allows_32 (by decide) (fun c32 => ?_) (fun c32 => ?_)
        · replace h := it c32 h
          refine lv_aload_n hx hb dX6_allows_47 rfl (lv_at hl 1 rfl) ?_
          refine gL_f (v := .ref (ap 2)) C hG kX6 0 1 rfl (by decide) rfl q407 rfl dX6_allows_48 ?_
          refine lv_iload_n hx hb dX6_allows_51 rfl (lv_at hl 4 rfl) ?_
          obtain ⟨b4, h⟩ := ck_some h
          refine gL_z (v := (pp 2 x3.toNatClampNeg)) C hG 2 rfl (inb_in b4) rfl dX6_allows_52 ?_
          refine lv_if_ne (tgt := 58) hx hb dX6_allows_53 (by decide) (fun c53 => ?_) (fun c53 => ?_)
          · replace h := ie c53 h
            exact K58 _ ih x2 x3 x4_3 _ _ _ hG (lv_sub hl [1, 2, 3, 4, 0] rfl) h
          · replace h := it c53 h
            refine lv_iconst (v := 0) hx hb dX6_allows_56 (by decide) ?_
            exact hret _ _ _ _ _ h rfl hG dX6_allows_57
        · replace h := ie c32 h
          refine lv_aload_n hx hb dX6_allows_35 rfl (lv_at hl 1 rfl) ?_
          refine gL_f (v := .ref (ap 1)) C hG kX6 0 0 rfl (by decide) rfl q406 rfl dX6_allows_36 ?_
          refine lv_iload_n hx hb dX6_allows_39 rfl (lv_at hl 4 rfl) ?_
          obtain ⟨b5, h⟩ := ck_some h
          refine gL_z (v := (pp 1 x3.toNatClampNeg)) C hG 1 rfl (inb_in b5) rfl dX6_allows_40 ?_
          refine lv_if_ne (tgt := 58) hx hb dX6_allows_41 (by decide) (fun c41 => ?_) (fun c41 => ?_)
          · replace h := ie c41 h
            exact K58 _ ih x2 x3 x4_3 _ _ _ hG (lv_sub hl [1, 2, 3, 4, 0] rfl) h
          · replace h := it c41 h
            refine lv_goto (tgt := 56) hx hb dX6_allows_44 (by decide) ?_
            refine lv_iconst (v := 0) hx hb dX6_allows_56 (by decide) ?_
            exact hret _ _ _ _ _ h rfl hG dX6_allows_57
  rw [fX6_allows] at h
  refine lv_iload_n hx hb dX6_allows_0 rfl (lv_at hl 1 rfl) ?_
  refine lv_if_lt (tgt := 11) hx hb dX6_allows_1 (by decide) (fun c1 => ?_) (fun c1 => ?_)
  · replace h := it c1 h
    refine lv_iconst (v := 0) hx hb dX6_allows_11 (by decide) ?_
    exact hret _ _ _ _ _ h rfl hG dX6_allows_12
  · replace h := ie c1 h
    refine lv_iload_n hx hb dX6_allows_4 rfl (lv_at hl 1 rfl) ?_
    refine lv_sipush (v := 1024) hx hb dX6_allows_5 (by decide) ?_
    refine lv_icmp_lt (tgt := 13) hx hb dX6_allows_8 (by decide) (fun c8 => ?_) (fun c8 => ?_)
    · replace h := it c8 h
      refine lv_iconst (v := 0) hx hb dX6_allows_13 (by decide) ?_
      refine lv_istore_n (lv' := [(2, .int 0), (0, .ref (ap 0)), (1, .int x1)]) hx hb dX6_allows_14 rfl hl (by decide) rfl (fun ls hl => ?_)
      refine lv_iconst (v := 0) hx hb dX6_allows_15 (by decide) ?_
      refine lv_istore_n (lv' := [(3, .int 0), (2, .int 0), (0, .ref (ap 0)), (1, .int x1)]) hx hb dX6_allows_16 rfl hl (by decide) rfl (fun ls hl => ?_)
      exact K17 N 0 0 _ _ _ hG (lv_sub hl [2, 3, 1, 0] rfl) h
    · replace h := ie c8 h
      refine lv_iconst (v := 0) hx hb dX6_allows_11 (by decide) ?_
      exact hret _ _ _ _ _ h rfl hG dX6_allows_12
set_option maxHeartbeats 4000000 in
set_option maxRecDepth 100000 in
theorem c_X6_worthOf (l : Launch) (E : GE) (ap : Nat → Nat) (N : Nat) (x1 : Int32) (pp : RS) {res : Int32} (h : fX6_worthOf N x1 pp = some res) : gMi l E yX6_worthOf cX6_worthOf 4 .int 2 0 0 [.ref (ap 0), .int x1] (rP E ap pp ++ []) (rP E ap pp ++ []) res := by
  refine gMi_of (own := RX6) (by decide +kernel) rfl (Nat.le_of_ble_eq_true rfl) ?_
  intro p e s m args below meth c A ls Q H locs C hz hl hG hret
  have hx := C.1.1
  have hb := C.1.2.1
  have hts := C.1.2.2.2.2
  have hown := C.1.2.2.2.1
  have hl : lv_has ls 4 [(0, .ref (ap 0)), (1, .int x1)] := hl
  replace hret : ∀ (r0 : Int32) (H : Heap) (locs : List Loc) (pc : Nat) (ls' : Array Slot), some r0 = some res → narrow .int (.int r0) = .int r0 → gG E A s.heap (rP E ap pp ++ []) H locs → decode cX6_worthOf pc = .ok (.ireturn, 1) → W p l e (rmD 2 0 0) s m args below meth c H locs 0 0 Q (F0 m pc ls' [.int r0]) := by
    intro r0 H locs pc ls' e0 hn; cases e0; exact hret H locs pc ls' hn
  have K34 : ∀ (k4 : (Int32 → Int32 → Option (Int32))) (hk4 : ∀  (x2 : Int32) (x3 : Int32) (H : Heap) (locs : List Loc) (ls : Array Slot), gG E A s.heap (rP E ap pp ++ []) H locs → lv_has ls 4 [(0, .ref (ap 0)), (1, .int x1), (2, .int x2), (3, .int x3)] → k4 x2 x3 = some res → W p l e (rmD 2 0 0) s m args below meth c H locs 0 0 Q (F0 m 4 ls [])), ∀  (x3 : Int32) (s0 : Int32) (s1 : Int32) (H : Heap) (locs : List Loc) (ls : Array Slot), gG E A s.heap (rP E ap pp ++ []) H locs → lv_has ls 4 [(0, .ref (ap 0)), (1, .int x1), (3, .int x3)] → fX6_worthOf_L34 N x1 pp k4 x3 s0 s1 = some res → W p l e (rmD 2 0 0) s m args below meth c H locs 0 0 Q (F0 m 34 ls [.int s1, .int s0]) := by
    intro k4 hk4 x3 s0 s1 H locs ls hG hl h
    rw [fX6_worthOf_L34] at h
    refine lv_iadd hx hb dX6_worthOf_34 ?_
    obtain ⟨x2_1, ex2_1, h⟩ := thn_some h
    refine g_int ex2_1 ?_
    refine lv_istore_n (lv' := [(2, .int x2_1), (0, .ref (ap 0)), (1, .int x1), (3, .int x3)]) hx hb dX6_worthOf_35 rfl hl (by decide) rfl (fun ls hl => ?_)
    refine lv_iinc (v := (x3 + 1)) (lv' := [(3, .int (x3 + 1)), (2, .int x2_1), (0, .ref (ap 0)), (1, .int x1)]) hx hb dX6_worthOf_36 hl (k := 3) rfl (congrArg (x3 + ·) (by decide : Int32.ofInt 1 = 1)) (by decide) rfl (fun ls hl => ?_)
    refine lv_goto (tgt := 4) hx hb dX6_worthOf_39 (by decide) ?_
    exact hk4 x2_1 (x3 + 1) _ _ _ hG (lv_sub hl [2, 3, 1, 0] rfl) h
  have K4 : ∀ (k : Nat), ∀  (x2 : Int32) (x3 : Int32) (H : Heap) (locs : List Loc) (ls : Array Slot), gG E A s.heap (rP E ap pp ++ []) H locs → lv_has ls 4 [(0, .ref (ap 0)), (1, .int x1), (2, .int x2), (3, .int x3)] → fX6_worthOf_L4 N x1 pp k x2 x3 = some res → W p l e (rmD 2 0 0) s m args below meth c H locs 0 0 Q (F0 m 4 ls []) := by
    intro k
    induction k with
    | zero => intro x2 x3 H locs ls hG hl h; exact absurd (show none = _ from h) (by simp)
    | succ k ih =>
      intro x2 x3 H locs ls hG hl h
      rw [fX6_worthOf_L4] at h
      refine lv_iload_n hx hb dX6_worthOf_4 rfl (lv_at hl 3 rfl) ?_
      refine lv_bipush (v := 10) hx hb dX6_worthOf_5 (by decide) ?_
      refine lv_icmp_ge (tgt := 42) hx hb dX6_worthOf_7 (by decide) (fun c7 => ?_) (fun c7 => ?_)
      · replace h := it c7 h
        refine lv_iload_n hx hb dX6_worthOf_42 rfl (lv_at hl 2 rfl) ?_
        exact hret _ _ _ _ _ h rfl hG dX6_worthOf_43
      · replace h := ie c7 h
        refine lv_iload_n hx hb dX6_worthOf_10 rfl (lv_at hl 2 rfl) ?_
        refine lv_iload_n hx hb dX6_worthOf_11 rfl (lv_at hl 1 rfl) ?_
        refine lv_iload_n hx hb dX6_worthOf_12 rfl (lv_at hl 3 rfl) ?_
        refine gF_i (ws' := (rP E ap pp ++ [])) C hG pst pst.symm (gR_S (As := [.int x1, .int x3]) (rest := [.int x2]) C hz hl.1 hG pst (c_X6_isIn l E x1 x3 rfl H.size) okX6_isIn q1005 rfl (Nat.le_of_ble_eq_true rfl) (by omega) ⟨Nat.le_refl _, Nat.le_refl _⟩ dX6_worthOf_13) (fun H locs z1 hG => ?_)
        refine lv_if_eq (tgt := 28) hx hb dX6_worthOf_16 (by decide) (fun c16 => ?_) (fun c16 => ?_)
        · replace h := it c16 h
          refine lv_aload_n hx hb dX6_worthOf_28 rfl (lv_at hl 0 rfl) ?_
          refine gL_f (v := .ref (ap 5)) C hG kX6 0 4 rfl (by decide) rfl q410 rfl dX6_worthOf_29 ?_
          refine lv_iload_n hx hb dX6_worthOf_32 rfl (lv_at hl 3 rfl) ?_
          obtain ⟨b2, h⟩ := ck_some h
          refine gL_i (v := (pp 5 x3.toNatClampNeg)) C hG 5 rfl (inb_in b2) rfl dX6_worthOf_33 ?_
          exact K34 _ ih x3 x2 (pp 5 x3.toNatClampNeg) _ _ _ hG (lv_sub hl [0, 1, 3] rfl) h
        · replace h := ie c16 h
          refine lv_aload_n hx hb dX6_worthOf_19 rfl (lv_at hl 0 rfl) ?_
          refine gL_f (v := .ref (ap 4)) C hG kX6 0 3 rfl (by decide) rfl q409 rfl dX6_worthOf_20 ?_
          refine lv_iload_n hx hb dX6_worthOf_23 rfl (lv_at hl 3 rfl) ?_
          obtain ⟨b3, h⟩ := ck_some h
          refine gL_i (v := (pp 4 x3.toNatClampNeg)) C hG 4 rfl (inb_in b3) rfl dX6_worthOf_24 ?_
          refine lv_goto (tgt := 34) hx hb dX6_worthOf_25 (by decide) ?_
          exact K34 _ ih x3 x2 (pp 4 x3.toNatClampNeg) _ _ _ hG (lv_sub hl [0, 1, 3] rfl) h
  rw [fX6_worthOf] at h
  refine lv_iconst (v := 0) hx hb dX6_worthOf_0 (by decide) ?_
  refine lv_istore_n (lv' := [(2, .int 0), (0, .ref (ap 0)), (1, .int x1)]) hx hb dX6_worthOf_1 rfl hl (by decide) rfl (fun ls hl => ?_)
  refine lv_iconst (v := 0) hx hb dX6_worthOf_2 (by decide) ?_
  refine lv_istore_n (lv' := [(3, .int 0), (2, .int 0), (0, .ref (ap 0)), (1, .int x1)]) hx hb dX6_worthOf_3 rfl hl (by decide) rfl (fun ls hl => ?_)
  exact K4 N 0 0 _ _ _ hG (lv_sub hl [2, 3, 1, 0] rfl) h
set_option maxHeartbeats 4000000 in
set_option maxRecDepth 100000 in
theorem c_X6_force (l : Launch) (E : GE) (ap : Nat → Nat) (N : Nat) (x1 : Int32) (x2 : Int32) (pp : RS) {res : RS} (h : fX6_force N x1 x2 pp = some res) : gMv l E yX6_force cX6_force 3 1 0 0 [.ref (ap 0), .int x1, .int x2] (rP E ap pp ++ []) (rP E ap res ++ []) := by
  refine gMv_of (own := RX6) (by decide +kernel) rfl (Nat.le_of_ble_eq_true rfl) ?_
  intro p e s m args below meth c A ls Q H locs C hz hl hG hin hret
  have hx := C.1.1
  have hb := C.1.2.1
  have hts := C.1.2.2.2.2
  have hown := C.1.2.2.2.1
  have hl : lv_has ls 3 [(0, .ref (ap 0)), (1, .int x1), (2, .int x2)] := hl
  replace hret : ∀ (pp0 : RS) (H : Heap) (locs : List Loc) (pc : Nat) (ls' : Array Slot), some pp0 = some res → gG E A s.heap (rP E ap pp0 ++ []) H locs → decode cX6_force pc = .ok (.return_, 1) → W p l e (rmD 1 0 0) s m args below meth c H locs 0 0 Q (F0 m pc ls' []) := by
    intro pp0 H locs pc ls' e0; cases e0; exact hret H locs pc ls'
  rw [fX6_force] at h
  refine lv_iload_n hx hb dX6_force_0 rfl (lv_at hl 2 rfl) ?_
  refine lv_if_eq (tgt := 14) hx hb dX6_force_1 (by decide) (fun c1 => ?_) (fun c1 => ?_)
  · replace h := it c1 h
    refine lv_aload_n hx hb dX6_force_14 rfl (lv_at hl 0 rfl) ?_
    refine gL_f (v := .ref (ap 1)) C hG kX6 0 0 rfl (by decide) rfl q406 rfl dX6_force_15 ?_
    refine lv_iload_n hx hb dX6_force_18 rfl (lv_at hl 1 rfl) ?_
    refine lv_iconst (v := 0) hx hb dX6_force_19 (by decide) ?_
    obtain ⟨b1, h⟩ := ck_some h
    obtain ⟨pp_2, epp_2, h⟩ := thn_some h
    refine gS_z (x := 0) (ws' := (rP E ap pp_2 ++ [])) C hG 1 rfl (inb_in b1) rfl rfl dX6_force_20 (by rw [epp_2]; rfl) (fun H locs hG => ?_)
    exact hret _ _ _ _ _ h hG dX6_force_21
  · replace h := ie c1 h
    refine lv_aload_n hx hb dX6_force_4 rfl (lv_at hl 0 rfl) ?_
    refine gL_f (v := .ref (ap 2)) C hG kX6 0 1 rfl (by decide) rfl q407 rfl dX6_force_5 ?_
    refine lv_iload_n hx hb dX6_force_8 rfl (lv_at hl 1 rfl) ?_
    refine lv_iconst (v := 0) hx hb dX6_force_9 (by decide) ?_
    obtain ⟨b3, h⟩ := ck_some h
    obtain ⟨pp_4, epp_4, h⟩ := thn_some h
    refine gS_z (x := 0) (ws' := (rP E ap pp_4 ++ [])) C hG 2 rfl (inb_in b3) rfl rfl dX6_force_10 (by rw [epp_4]; rfl) (fun H locs hG => ?_)
    refine lv_goto (tgt := 21) hx hb dX6_force_11 (by decide) ?_
    exact hret _ _ _ _ _ h hG dX6_force_21
set_option maxHeartbeats 4000000 in
set_option maxRecDepth 100000 in
theorem c_X6_leastHeatOfWorth (l : Launch) (E : GE) (N : Nat) (x0 : Int32) (x1 : Int32) {res : Int32} (h : fX6_leastHeatOfWorth N x0 x1 = some res) : gMi l E yX6_leastHeatOfWorth cX6_leastHeatOfWorth 6 .int 2 0 0 [.int x0, .int x1] [] [] res := by
  refine gMi_of (own := RX6) (by decide +kernel) rfl (Nat.le_of_ble_eq_true rfl) ?_
  intro p e s m args below meth c A ls Q H locs C hz hl hG hret
  have hx := C.1.1
  have hb := C.1.2.1
  have hts := C.1.2.2.2.2
  have hown := C.1.2.2.2.1
  have hl : lv_has ls 6 [(0, .int x0), (1, .int x1)] := hl
  replace hret : ∀ (r0 : Int32) (H : Heap) (locs : List Loc) (pc : Nat) (ls' : Array Slot), some r0 = some res → narrow .int (.int r0) = .int r0 → gG E A s.heap [] H locs → decode cX6_leastHeatOfWorth pc = .ok (.ireturn, 1) → W p l e (rmD 2 0 0) s m args below meth c H locs 0 0 Q (F0 m pc ls' [.int r0]) := by
    intro r0 H locs pc ls' e0 hn; cases e0; exact hret H locs pc ls' hn
  have K49 : ∀ (k9 : (Int32 → Int32 → Int32 → Option (Int32))) (hk9 : ∀  (x2 : Int32) (x3 : Int32) (x4 : Int32) (H : Heap) (locs : List Loc) (ls : Array Slot), gG E A s.heap [] H locs → lv_has ls 6 [(0, .int x0), (1, .int x1), (2, .int x2), (3, .int x3), (4, .int x4)] → k9 x2 x3 x4 = some res → W p l e (rmD 2 0 0) s m args below meth c H locs 0 0 Q (F0 m 9 ls [])), ∀  (x2 : Int32) (x3 : Int32) (x4 : Int32) (H : Heap) (locs : List Loc) (ls : Array Slot), gG E A s.heap [] H locs → lv_has ls 6 [(0, .int x0), (1, .int x1), (2, .int x2), (3, .int x3), (4, .int x4)] → fX6_leastHeatOfWorth_L49 N x0 x1 k9 x2 x3 x4 = some res → W p l e (rmD 2 0 0) s m args below meth c H locs 0 0 Q (F0 m 49 ls []) := by
    intro k9 hk9 x2 x3 x4 H locs ls hG hl h
    rw [fX6_leastHeatOfWorth_L49] at h
    refine lv_iinc (v := (x4 + 1)) (lv' := [(4, .int (x4 + 1)), (0, .int x0), (1, .int x1), (2, .int x2), (3, .int x3)]) hx hb dX6_leastHeatOfWorth_49 hl (k := 4) rfl (congrArg (x4 + ·) (by decide : Int32.ofInt 1 = 1)) (by decide) rfl (fun ls hl => ?_)
    refine lv_goto (tgt := 9) hx hb dX6_leastHeatOfWorth_52 (by decide) ?_
    exact hk9 x2 x3 (x4 + 1) _ _ _ hG (lv_sub hl [1, 2, 3, 4, 0] rfl) h
  have K55 : ∀  (x2 : Int32) (H : Heap) (locs : List Loc) (ls : Array Slot), gG E A s.heap [] H locs → lv_has ls 6 [(2, .int x2)] → fX6_leastHeatOfWorth_L55 N x0 x1 x2 = some res → W p l e (rmD 2 0 0) s m args below meth c H locs 0 0 Q (F0 m 55 ls []) := by
    intro x2 H locs ls hG hl h
    rw [fX6_leastHeatOfWorth_L55] at h
    refine lv_iload_n hx hb dX6_leastHeatOfWorth_55 rfl (lv_at hl 0 rfl) ?_
    refine lv_sipush (v := 9999) hx hb dX6_leastHeatOfWorth_56 (by decide) ?_
    refine lv_icmp_le (tgt := 66) hx hb dX6_leastHeatOfWorth_59 (by decide) (fun c59 => ?_) (fun c59 => ?_)
    · replace h := it c59 h
      refine lv_iload_n hx hb dX6_leastHeatOfWorth_66 rfl (lv_at hl 0 rfl) ?_
      exact hret _ _ _ _ _ h rfl hG dX6_leastHeatOfWorth_67
    · replace h := ie c59 h
      refine lv_iconst (v := (-1)) hx hb dX6_leastHeatOfWorth_62 (by decide) ?_
      refine lv_goto (tgt := 67) hx hb dX6_leastHeatOfWorth_63 (by decide) ?_
      exact hret _ _ _ _ _ h rfl hG dX6_leastHeatOfWorth_67
  have K9 : ∀ (k : Nat), ∀  (x2 : Int32) (x3 : Int32) (x4 : Int32) (H : Heap) (locs : List Loc) (ls : Array Slot), gG E A s.heap [] H locs → lv_has ls 6 [(0, .int x0), (1, .int x1), (2, .int x2), (3, .int x3), (4, .int x4)] → fX6_leastHeatOfWorth_L9 N x0 x1 k x2 x3 x4 = some res → W p l e (rmD 2 0 0) s m args below meth c H locs 0 0 Q (F0 m 9 ls []) := by
    intro k
    induction k with
    | zero => intro x2 x3 x4 H locs ls hG hl h; exact absurd (show none = _ from h) (by simp)
    | succ k ih =>
      intro x2 x3 x4 H locs ls hG hl h
      rw [fX6_leastHeatOfWorth_L9] at h
      refine lv_iload hx hb dX6_leastHeatOfWorth_9 (lv_at hl 4 rfl) ?_
      refine lv_bipush (v := 32) hx hb dX6_leastHeatOfWorth_11 (by decide) ?_
      refine lv_icmp_ge (tgt := 55) hx hb dX6_leastHeatOfWorth_13 (by decide) (fun c13 => ?_) (fun c13 => ?_)
      · replace h := it c13 h
        exact K55 x2 _ _ _ hG (lv_sub hl [2] rfl) h
      · replace h := ie c13 h
        refine lv_iload_n hx hb dX6_leastHeatOfWorth_16 rfl (lv_at hl 2 rfl) ?_
        refine lv_iload_n hx hb dX6_leastHeatOfWorth_17 rfl (lv_at hl 3 rfl) ?_
        refine lv_icmp_ge (tgt := 55) hx hb dX6_leastHeatOfWorth_18 (by decide) (fun c18 => ?_) (fun c18 => ?_)
        · replace h := it c18 h
          exact K55 x2 _ _ _ hG (lv_sub hl [2] rfl) h
        · replace h := ie c18 h
          refine lv_iload_n hx hb dX6_leastHeatOfWorth_21 rfl (lv_at hl 2 rfl) ?_
          refine lv_iload_n hx hb dX6_leastHeatOfWorth_22 rfl (lv_at hl 3 rfl) ?_
          refine lv_iadd hx hb dX6_leastHeatOfWorth_23 ?_
          refine lv_iconst (v := 2) hx hb dX6_leastHeatOfWorth_24 (by decide) ?_
          refine lv_idiv hx hb dX6_leastHeatOfWorth_25 (by decide) ?_
          obtain ⟨x5_1, ex5_1, h⟩ := thn_some h
          refine g_int ex5_1 ?_
          refine lv_istore (lv' := [(5, .int x5_1), (0, .int x0), (1, .int x1), (2, .int x2), (3, .int x3), (4, .int x4)]) hx hb dX6_leastHeatOfWorth_26 hl (by decide) rfl (fun ls hl => ?_)
          refine lv_iload hx hb dX6_leastHeatOfWorth_28 (lv_at hl 0 rfl) ?_
          refine lv_iload_n hx hb dX6_leastHeatOfWorth_30 rfl (lv_at hl 2 rfl) ?_
          refine gF_i (ws' := []) C hG pst pst.symm (gR_S (As := [.int x5_1, .int x1]) (rest := []) C hz hl.1 hG pst (c_X6_heatWorth l E x5_1 x1 rfl H.size) okX6_heatWorth q985 rfl (Nat.le_of_ble_eq_true rfl) (by omega) ⟨Nat.le_refl _, Nat.le_refl _⟩ dX6_leastHeatOfWorth_31) (fun H locs _ hG => ?_)
          refine lv_iload_n hx hb dX6_leastHeatOfWorth_34 rfl (lv_at hl 1 rfl) ?_
          refine lv_icmp_lt (tgt := 44) hx hb dX6_leastHeatOfWorth_35 (by decide) (fun c35 => ?_) (fun c35 => ?_)
          · replace h := it c35 h
            refine lv_iload hx hb dX6_leastHeatOfWorth_44 (lv_at hl 0 rfl) ?_
            refine lv_iconst (v := 1) hx hb dX6_leastHeatOfWorth_46 (by decide) ?_
            refine lv_iadd hx hb dX6_leastHeatOfWorth_47 ?_
            obtain ⟨x2_2, ex2_2, h⟩ := thn_some h
            refine g_int ex2_2 ?_
            refine lv_istore_n (lv' := [(2, .int x2_2), (5, .int x5_1), (0, .int x0), (1, .int x1), (3, .int x3), (4, .int x4)]) hx hb dX6_leastHeatOfWorth_48 rfl hl (by decide) rfl (fun ls hl => ?_)
            exact K49 _ ih x2_2 x3 x4 _ _ _ hG (lv_sub hl [2, 3, 0, 4, 5] rfl) h
          · replace h := ie c35 h
            refine lv_iload hx hb dX6_leastHeatOfWorth_38 (lv_at hl 0 rfl) ?_
            refine lv_istore_n (lv' := [(3, .int x5_1), (5, .int x5_1), (0, .int x0), (1, .int x1), (2, .int x2), (4, .int x4)]) hx hb dX6_leastHeatOfWorth_40 rfl hl (by decide) rfl (fun ls hl => ?_)
            refine lv_goto (tgt := 49) hx hb dX6_leastHeatOfWorth_41 (by decide) ?_
            exact K49 _ ih x2 x5_1 x4 _ _ _ hG (lv_sub hl [2, 3, 4, 0, 5] rfl) h
  rw [fX6_leastHeatOfWorth] at h
  refine lv_iconst (v := 0) hx hb dX6_leastHeatOfWorth_0 (by decide) ?_
  refine lv_istore_n (lv' := [(2, .int 0), (0, .int x0), (1, .int x1)]) hx hb dX6_leastHeatOfWorth_1 rfl hl (by decide) rfl (fun ls hl => ?_)
  refine lv_sipush (v := 10000) hx hb dX6_leastHeatOfWorth_2 (by decide) ?_
  refine lv_istore_n (lv' := [(3, .int 10000), (2, .int 0), (0, .int x0), (1, .int x1)]) hx hb dX6_leastHeatOfWorth_5 rfl hl (by decide) rfl (fun ls hl => ?_)
  refine lv_iconst (v := 0) hx hb dX6_leastHeatOfWorth_6 (by decide) ?_
  refine lv_istore (lv' := [(4, .int 0), (3, .int 10000), (2, .int 0), (0, .int x0), (1, .int x1)]) hx hb dX6_leastHeatOfWorth_7 hl (by decide) rfl (fun ls hl => ?_)
  exact K9 N 0 10000 0 _ _ _ hG (lv_sub hl [3, 4, 2, 1, 0] rfl) h
set_option maxHeartbeats 4000000 in
set_option maxRecDepth 100000 in
theorem c_X6_leastHeat (l : Launch) (E : GE) (aw : Nat → Nat) (ap : Nat → Nat) (N : Nat) (x2 : Int32) (ww : RS) (pp : RS) {res : Int32 × RS} (h : fX6_leastHeat N x2 ww pp = some res) : gMi l E yX6_leastHeat cX6_leastHeat 9 .int 14 0 0 [.ref (ap 0), .ref (aw 0), .int x2] (rW E aw ww ++ (rP E ap pp ++ [])) (rW E aw ww ++ (rP E ap res.2 ++ [])) res.1 := by
  refine gMi_of (own := RX6) (by decide +kernel) rfl (Nat.le_of_ble_eq_true rfl) ?_
  intro p e s m args below meth c A ls Q H locs C hz hl hG hret
  have hx := C.1.1
  have hb := C.1.2.1
  have hts := C.1.2.2.2.2
  have hown := C.1.2.2.2.1
  have hl : lv_has ls 9 [(0, .ref (ap 0)), (1, .ref (aw 0)), (2, .int x2)] := hl
  replace hret : ∀ (r0 : Int32) (pp0 : RS) (H : Heap) (locs : List Loc) (pc : Nat) (ls' : Array Slot), some (r0, pp0) = some res → narrow .int (.int r0) = .int r0 → gG E A s.heap (rW E aw ww ++ (rP E ap pp0 ++ [])) H locs → decode cX6_leastHeat pc = .ok (.ireturn, 1) → W p l e (rmD 14 0 0) s m args below meth c H locs 0 0 Q (F0 m pc ls' [.int r0]) := by
    intro r0 pp0 H locs pc ls' e0 hn; cases e0; exact hret H locs pc ls' hn
  have K126 : ∀  (x6 : Int32) (s0 : Int32) (s1 : Int32) (pp : RS) (H : Heap) (locs : List Loc) (ls : Array Slot), gG E A s.heap (rW E aw ww ++ (rP E ap pp ++ [])) H locs → lv_has ls 9 [(6, .int x6)] → fX6_leastHeat_L126 N x2 ww x6 s0 s1 pp = some res → W p l e (rmD 14 0 0) s m args below meth c H locs 0 0 Q (F0 m 126 ls [.int s1, .int s0]) := by
    intro x6 s0 s1 pp H locs ls hG hl h
    rw [fX6_leastHeat_L126] at h
    refine lv_iadd hx hb dX6_leastHeat_126 ?_
    obtain ⟨x8_1, ex8_1, h⟩ := thn_some h
    refine g_int ex8_1 ?_
    refine lv_istore (lv' := [(8, .int x8_1), (6, .int x6)]) hx hb dX6_leastHeat_127 hl (by decide) rfl (fun ls hl => ?_)
    refine lv_iload hx hb dX6_leastHeat_129 (lv_at hl 0 rfl) ?_
    refine lv_iload hx hb dX6_leastHeat_131 (lv_at hl 1 rfl) ?_
    obtain ⟨r2, hcr2, h⟩ := bnd_some h
    refine gF_i (ws' := (rW E aw ww ++ (rP E ap pp ++ []))) C hG pst pst.symm (gR_S (As := [.int x8_1, .int x6]) (rest := []) C hz hl.1 hG pst (c_X6_leastHeatOfWorth l E N x8_1 x6 hcr2 H.size) okX6_leastHeatOfWorth q1230 rfl (Nat.le_of_ble_eq_true rfl) (by omega) ⟨Nat.le_refl _, Nat.le_refl _⟩ dX6_leastHeat_133) (fun H locs _ hG => ?_)
    exact hret _ _ _ _ _ _ h rfl hG dX6_leastHeat_136
  have K84 : ∀  (x4 : Int32) (x5 : Int32) (s0 : Int32) (pp : RS) (H : Heap) (locs : List Loc) (ls : Array Slot), gG E A s.heap (rW E aw ww ++ (rP E ap pp ++ [])) H locs → lv_has ls 9 [(0, .ref (ap 0)), (1, .ref (aw 0)), (2, .int x2), (4, .int x4), (5, .int x5)] → fX6_leastHeat_L84 N x2 ww x4 x5 s0 pp = some res → W p l e (rmD 14 0 0) s m args below meth c H locs 0 0 Q (F0 m 84 ls [.int s0]) := by
    intro x4 x5 s0 pp H locs ls hG hl h
    rw [fX6_leastHeat_L84] at h
    refine lv_istore (lv' := [(6, .int s0), (0, .ref (ap 0)), (1, .ref (aw 0)), (2, .int x2), (4, .int x4), (5, .int x5)]) hx hb dX6_leastHeat_84 hl (by decide) rfl (fun ls hl => ?_)
    refine lv_aload_n hx hb dX6_leastHeat_86 rfl (lv_at hl 1 rfl) ?_
    refine gL_f (v := .int (pp 0 10)) C hG kX6 30 10 rfl (by decide) rfl q418 rfl dX6_leastHeat_87 ?_
    refine lv_aload_n hx hb dX6_leastHeat_90 rfl (lv_at hl 2 rfl) ?_
    refine gL_fN (v := .ref (aw 2)) C hG kX10 0 1 rfl (by decide) rfl q356 rfl dX6_leastHeat_91 ?_
    refine gL_fN (v := .ref (aw 9)) C hG kX2 2 6 rfl (by decide) rfl q229 rfl dX6_leastHeat_94 ?_
    refine lv_iload_n hx hb dX6_leastHeat_97 rfl (lv_at hl 3 rfl) ?_
    obtain ⟨b1, h⟩ := ck_some h
    refine gL_i (v := (ww 9 x2.toNatClampNeg)) C hG 9 rfl (inb_in b1) rfl dX6_leastHeat_98 ?_
    refine lv_iload hx hb dX6_leastHeat_99 (lv_at hl 0 rfl) ?_
    refine gF_i (ws' := (rW E aw ww ++ (rP E ap pp ++ []))) C hG pst pst.symm (gR_S (As := [.int (ww 9 x2.toNatClampNeg), .int s0]) (rest := [.int (pp 0 10)]) C hz hl.1 hG pst (c_X6_heatWorth l E (ww 9 x2.toNatClampNeg) s0 rfl H.size) okX6_heatWorth q985 rfl (Nat.le_of_ble_eq_true rfl) (by omega) ⟨Nat.le_refl _, Nat.le_refl _⟩ dX6_leastHeat_101) (fun H locs _ hG => ?_)
    refine lv_isub hx hb dX6_leastHeat_104 ?_
    obtain ⟨x7_2, ex7_2, h⟩ := thn_some h
    refine g_int ex7_2 ?_
    refine lv_istore (lv' := [(7, .int x7_2), (6, .int s0), (0, .ref (ap 0)), (1, .ref (aw 0)), (2, .int x2), (4, .int x4), (5, .int x5)]) hx hb dX6_leastHeat_105 hl (by decide) rfl (fun ls hl => ?_)
    refine lv_iload hx hb dX6_leastHeat_107 (lv_at hl 6 rfl) ?_
    refine lv_iload hx hb dX6_leastHeat_109 (lv_at hl 0 rfl) ?_
    refine lv_isub hx hb dX6_leastHeat_111 ?_
    refine lv_aload_n hx hb dX6_leastHeat_112 rfl (lv_at hl 2 rfl) ?_
    refine gL_f (v := .int (pp 0 9)) C hG kX6 30 9 rfl (by decide) rfl q415 rfl dX6_leastHeat_113 ?_
    refine lv_iload hx hb dX6_leastHeat_116 (lv_at hl 5 rfl) ?_
    refine lv_icmp_ge (tgt := 125) hx hb dX6_leastHeat_118 (by decide) (fun c118 => ?_) (fun c118 => ?_)
    · replace h := it c118 h
      refine lv_iconst (v := 1) hx hb dX6_leastHeat_125 (by decide) ?_
      exact K126 s0 (x5 - x7_2) 1 pp _ _ _ hG (lv_sub hl [1] rfl) h
    · replace h := ie c118 h
      refine lv_iconst (v := 0) hx hb dX6_leastHeat_121 (by decide) ?_
      refine lv_goto (tgt := 126) hx hb dX6_leastHeat_122 (by decide) ?_
      exact K126 s0 (x5 - x7_2) 0 pp _ _ _ hG (lv_sub hl [1] rfl) h
  rw [fX6_leastHeat] at h
  refine lv_aload_n hx hb dX6_leastHeat_0 rfl (lv_at hl 0 rfl) ?_
  refine lv_aload_n hx hb dX6_leastHeat_1 rfl (lv_at hl 1 rfl) ?_
  refine lv_aload_n hx hb dX6_leastHeat_2 rfl (lv_at hl 1 rfl) ?_
  refine gL_fN (v := .ref (aw 1)) C hG kX10 0 0 rfl (by decide) rfl q353 rfl dX6_leastHeat_3 ?_
  refine lv_iconst (v := 5) hx hb dX6_leastHeat_6 (by decide) ?_
  refine gL_i (v := (ww 1 5)) C hG 1 rfl (vp_in_nI (n := 5) (by decide) (by decide)) (congrArg (ww 1) (nI_clamp (n := 5) (by decide))) dX6_leastHeat_7 ?_
  obtain ⟨r1, hcr1, h⟩ := bnd_some h
  refine gF_v (ws' := (rW E aw ww ++ (rP E ap r1 ++ []))) C hG (pin (pin pnil)) (List.Perm.symm (pin (pin pnil))) (gR_V (As := [.ref (aw 0), .int (ww 1 5)]) (rest := []) C hz hl.1 hG (pin (pin pnil)) (c_X6_weigh l E aw ap N (ww 1 5) ww pp hcr1 H.size) okX6_weigh q967 30 rfl rfl rfl (Nat.le_of_ble_eq_true rfl) (by omega) ⟨Nat.le_refl _, Nat.le_refl _⟩ dX6_leastHeat_8) (fun H locs hG => ?_)
  refine lv_aload_n hx hb dX6_leastHeat_11 rfl (lv_at hl 0 rfl) ?_
  refine lv_iload_n hx hb dX6_leastHeat_12 rfl (lv_at hl 2 rfl) ?_
  refine lv_iconst (v := 0) hx hb dX6_leastHeat_13 (by decide) ?_
  obtain ⟨r2, hcr2, h⟩ := bnd_some h
  refine gF_v (ws' := (rW E aw ww ++ (rP E ap r2 ++ []))) C hG (pout (pin pnil)) (List.Perm.symm (pout (pin pnil))) (gR_V (As := [.int x2, .int 0]) (rest := []) C hz hl.1 hG (pout (pin pnil)) (c_X6_force l E ap N x2 0 r1 hcr2 H.size) okX6_force q1226 0 rfl rfl rfl (Nat.le_of_ble_eq_true rfl) (by omega) ⟨Nat.le_refl _, Nat.le_refl _⟩ dX6_leastHeat_14) (fun H locs hG => ?_)
  refine lv_aload_n hx hb dX6_leastHeat_17 rfl (lv_at hl 0 rfl) ?_
  obtain ⟨r3, hcr3, h⟩ := bnd_some h
  refine gF_i (ws' := (rW E aw ww ++ (rP E ap r3.2 ++ []))) C hG (pout (pin pnil)) (List.Perm.symm (pout (pin pnil))) (gR_V (As := []) (rest := []) C hz hl.1 hG (pout (pin pnil)) (c_X6_choose l E ap N r2 hcr3 H.size) okX6_choose q993 0 rfl rfl rfl (Nat.le_of_ble_eq_true rfl) (by omega) ⟨Nat.le_refl _, Nat.le_refl _⟩ dX6_leastHeat_18) (fun H locs z4 hG => ?_)
  refine lv_istore_n (lv' := [(3, .int r3.1), (0, .ref (ap 0)), (1, .ref (aw 0)), (2, .int x2)]) hx hb dX6_leastHeat_21 rfl hl (by decide) rfl (fun ls hl => ?_)
  refine lv_aload_n hx hb dX6_leastHeat_22 rfl (lv_at hl 1 rfl) ?_
  refine gL_f (v := .int (r3.2 0 9)) C hG kX6 30 9 rfl (by decide) rfl q415 rfl dX6_leastHeat_23 ?_
  obtain ⟨x4_5, ex4_5, h⟩ := thn_some h
  refine g_int ex4_5 ?_
  refine lv_istore (lv' := [(4, .int x4_5), (3, .int r3.1), (0, .ref (ap 0)), (1, .ref (aw 0)), (2, .int x2)]) hx hb dX6_leastHeat_26 hl (by decide) rfl (fun ls hl => ?_)
  refine lv_aload_n hx hb dX6_leastHeat_28 rfl (lv_at hl 2 rfl) ?_
  refine gL_f (v := .int (r3.2 0 10)) C hG kX6 30 10 rfl (by decide) rfl q418 rfl dX6_leastHeat_29 ?_
  obtain ⟨x5_6, ex5_6, h⟩ := thn_some h
  refine g_int ex5_6 ?_
  refine lv_istore (lv' := [(5, .int x5_6), (4, .int x4_5), (3, .int r3.1), (0, .ref (ap 0)), (1, .ref (aw 0)), (2, .int x2)]) hx hb dX6_leastHeat_32 hl (by decide) rfl (fun ls hl => ?_)
  refine lv_aload_n hx hb dX6_leastHeat_34 rfl (lv_at hl 3 rfl) ?_
  refine lv_aload_n hx hb dX6_leastHeat_35 rfl (lv_at hl 4 rfl) ?_
  refine lv_aload_n hx hb dX6_leastHeat_36 rfl (lv_at hl 4 rfl) ?_
  refine gL_fN (v := .ref (aw 1)) C hG kX10 0 0 rfl (by decide) rfl q353 rfl dX6_leastHeat_37 ?_
  refine lv_iconst (v := 5) hx hb dX6_leastHeat_40 (by decide) ?_
  refine gL_i (v := (ww 1 5)) C hG 1 rfl (vp_in_nI (n := 5) (by decide) (by decide)) (congrArg (ww 1) (nI_clamp (n := 5) (by decide))) dX6_leastHeat_41 ?_
  obtain ⟨r7, hcr7, h⟩ := bnd_some h
  refine gF_v (ws' := (rW E aw ww ++ (rP E ap r7 ++ []))) C hG (pin (pin pnil)) (List.Perm.symm (pin (pin pnil))) (gR_V (As := [.ref (aw 0), .int (ww 1 5)]) (rest := []) C hz hl.1 hG (pin (pin pnil)) (c_X6_weigh l E aw ap N (ww 1 5) ww r3.2 hcr7 H.size) okX6_weigh q967 30 rfl rfl rfl (Nat.le_of_ble_eq_true rfl) (by omega) ⟨Nat.le_refl _, Nat.le_refl _⟩ dX6_leastHeat_42) (fun H locs hG => ?_)
  refine lv_aload_n hx hb dX6_leastHeat_45 rfl (lv_at hl 3 rfl) ?_
  refine lv_iload_n hx hb dX6_leastHeat_46 rfl (lv_at hl 5 rfl) ?_
  refine lv_iconst (v := 1) hx hb dX6_leastHeat_47 (by decide) ?_
  obtain ⟨r8, hcr8, h⟩ := bnd_some h
  refine gF_v (ws' := (rW E aw ww ++ (rP E ap r8 ++ []))) C hG (pout (pin pnil)) (List.Perm.symm (pout (pin pnil))) (gR_V (As := [.int x2, .int 1]) (rest := []) C hz hl.1 hG (pout (pin pnil)) (c_X6_force l E ap N x2 1 r7 hcr8 H.size) okX6_force q1226 0 rfl rfl rfl (Nat.le_of_ble_eq_true rfl) (by omega) ⟨Nat.le_refl _, Nat.le_refl _⟩ dX6_leastHeat_48) (fun H locs hG => ?_)
  refine lv_aload_n hx hb dX6_leastHeat_51 rfl (lv_at hl 3 rfl) ?_
  obtain ⟨r9, hcr9, h⟩ := bnd_some h
  refine gF_i (ws' := (rW E aw ww ++ (rP E ap r9.2 ++ []))) C hG (pout (pin pnil)) (List.Perm.symm (pout (pin pnil))) (gR_V (As := []) (rest := []) C hz hl.1 hG (pout (pin pnil)) (c_X6_choose l E ap N r8 hcr9 H.size) okX6_choose q993 0 rfl rfl rfl (Nat.le_of_ble_eq_true rfl) (by omega) ⟨Nat.le_refl _, Nat.le_refl _⟩ dX6_leastHeat_52) (fun H locs z10 hG => ?_)
  refine lv_if_ne (tgt := 60) hx hb dX6_leastHeat_55 (by decide) (fun c55 => ?_) (fun c55 => ?_)
  · replace h := ie c55 h
    refine lv_iload_n hx hb dX6_leastHeat_60 rfl (lv_at hl 2 rfl) ?_
    refine lv_if_ne (tgt := 66) hx hb dX6_leastHeat_61 (by decide) (fun c61 => ?_) (fun c61 => ?_)
    · replace h := ie c61 h
      refine lv_aload_n hx hb dX6_leastHeat_66 rfl (lv_at hl 4 rfl) ?_
      refine gL_fN (v := .ref (aw 2)) C hG kX10 0 1 rfl (by decide) rfl q356 rfl dX6_leastHeat_67 ?_
      refine gL_fN (v := .ref (aw 3)) C hG kX2 2 0 rfl (by decide) rfl q211 rfl dX6_leastHeat_70 ?_
      refine lv_iload_n hx hb dX6_leastHeat_73 rfl (lv_at hl 5 rfl) ?_
      obtain ⟨b11, h⟩ := ck_some h
      refine gL_i (v := (ww 3 x2.toNatClampNeg)) C hG 3 rfl (inb_in b11) rfl dX6_leastHeat_74 ?_
      refine lv_iconst (v := 1) hx hb dX6_leastHeat_75 (by decide) ?_
      refine lv_icmp_ne (tgt := 83) hx hb dX6_leastHeat_76 (by decide) (fun c76 => ?_) (fun c76 => ?_)
      · replace h := ie c76 h
        refine lv_iconst (v := 0) hx hb dX6_leastHeat_83 (by decide) ?_
        exact K84 x4_5 x5_6 0 r9.2 _ _ _ hG (lv_sub hl [3, 4, 5, 1, 0] rfl) h
      · replace h := it c76 h
        refine lv_iconst (v := 1) hx hb dX6_leastHeat_79 (by decide) ?_
        refine lv_goto (tgt := 84) hx hb dX6_leastHeat_80 (by decide) ?_
        exact K84 x4_5 x5_6 1 r9.2 _ _ _ hG (lv_sub hl [3, 4, 5, 1, 0] rfl) h
    · replace h := it c61 h
      refine lv_iconst (v := 0) hx hb dX6_leastHeat_64 (by decide) ?_
      exact hret _ _ _ _ _ _ h rfl hG dX6_leastHeat_65
  · replace h := it c55 h
    refine lv_iconst (v := (-1)) hx hb dX6_leastHeat_58 (by decide) ?_
    exact hret _ _ _ _ _ _ h rfl hG dX6_leastHeat_59
