set_option maxHeartbeats 4000000 in
set_option maxRecDepth 100000 in
theorem c_X8_spells (l : Launch) (E : GE) (ar : Nat → Nat) (N : Nat) (si : Nat) (x2 : Int32) (x3 : Int32) (rr : RS) (hsi : si < 7) {res : Int32} (h : fX8_spells N si x2 x3 rr = some res) : gMi l E yX8_spells cX8_spells 5 .boolean 5 0 0 [.ref (ar 0), .ref (E.2.2 (3 + si)), .int x2, .int x3] (rR E ar rr ++ []) (rR E ar rr ++ []) res := by
  refine gMi_of (own := RX8) (by decide +kernel) rfl (Nat.le_of_ble_eq_true rfl) ?_
  intro p e s m args below meth c A ls Q H locs C hz hl hG hret
  have hx := C.1.1
  have hb := C.1.2.1
  have hts := C.1.2.2.2.2
  have hown := C.1.2.2.2.1
  have hl : lv_has ls 5 [(0, .ref (ar 0)), (1, .ref (E.2.2 (3 + si))), (2, .int x2), (3, .int x3)] := hl
  replace hret : ∀ (r0 : Int32) (H : Heap) (locs : List Loc) (pc : Nat) (ls' : Array Slot), some r0 = some res → narrow .boolean (.int r0) = .int r0 → gG E A s.heap (rR E ar rr ++ []) H locs → decode cX8_spells pc = .ok (.ireturn, 1) → W p l e (rmD 5 0 0) s m args below meth c H locs 0 0 Q (F0 m pc ls' [.int r0]) := by
    intro r0 H locs pc ls' e0 hn; cases e0; exact hret H locs pc ls' hn
  have K15 : ∀ (k : Nat), ∀  (x4 : Int32) (H : Heap) (locs : List Loc) (ls : Array Slot), gG E A s.heap (rR E ar rr ++ []) H locs → lv_has ls 5 [(0, .ref (ar 0)), (1, .ref (E.2.2 (3 + si))), (2, .int x2), (4, .int x4)] → fX8_spells_L15 N si x2 x3 rr k x4 = some res → W p l e (rmD 5 0 0) s m args below meth c H locs 0 0 Q (F0 m 15 ls []) := by
    intro k
    induction k with
    | zero => intro x4 H locs ls hG hl h; exact absurd (show none = _ from h) (by simp)
    | succ k ih =>
      intro x4 H locs ls hG hl h
      rw [fX8_spells_L15] at h
      refine lv_iload hx hb dX8_spells_15 (lv_at hl 3 rfl) ?_
      refine lv_aload_n hx hb dX8_spells_17 rfl (lv_at hl 1 rfl) ?_
      refine gF_i (ws' := (rR E ar rr ++ [])) C hG pst pst.symm (gR_VS (As := []) (rest := [.int x4]) C hz hl.1 hG pst (c_J0_length_8abf5 l E si hsi H.size) okJ0_length_8abf5 q621 (vk_recv (adK := fun i => E.2.2 (3 + i)) (i := si) (C.2.2.2.1.2.2.2.2.1.narrow C.2.2.2.2.1) hsi hG.2.2) rfl (Nat.le_of_ble_eq_true rfl) (by omega) ⟨Nat.le_refl _, Nat.le_refl _⟩ dX8_spells_18) (fun H locs _ hG => ?_)
      refine lv_icmp_ge (tgt := 50) hx hb dX8_spells_21 (by decide) (fun c21 => ?_) (fun c21 => ?_)
      · replace h := it c21 h
        refine lv_iconst (v := 1) hx hb dX8_spells_50 (by decide) ?_
        exact hret _ _ _ _ _ h rfl hG dX8_spells_51
      · replace h := ie c21 h
        refine lv_aload_n hx hb dX8_spells_24 rfl (lv_at hl 1 rfl) ?_
        refine lv_iload hx hb dX8_spells_25 (lv_at hl 3 rfl) ?_
        obtain ⟨b1, h⟩ := ck_some h
        refine gF_i (ws' := (rR E ar rr ++ [])) C hG pst pst.symm (gR_VS (As := [.int x4]) (rest := []) C hz hl.1 hG pst (c_J0_charAt_5068e l E si hsi x4 (b1) H.size) okJ0_charAt_5068e q631 (vk_recv (adK := fun i => E.2.2 (3 + i)) (i := si) (C.2.2.2.1.2.2.2.2.1.narrow C.2.2.2.2.1) hsi hG.2.2) rfl (Nat.le_of_ble_eq_true rfl) (by omega) ⟨Nat.le_refl _, Nat.le_refl _⟩ dX8_spells_27) (fun H locs _ hG => ?_)
        refine lv_aload_n hx hb dX8_spells_30 rfl (lv_at hl 0 rfl) ?_
        refine gL_f (v := .ref (ar 1)) C hG kX8 0 0 rfl (by decide) rfl q491 rfl dX8_spells_31 ?_
        refine lv_iload_n hx hb dX8_spells_34 rfl (lv_at hl 2 rfl) ?_
        refine lv_iload hx hb dX8_spells_35 (lv_at hl 3 rfl) ?_
        refine lv_iadd hx hb dX8_spells_37 ?_
        obtain ⟨b2, h⟩ := ck_some h
        refine gL_i (v := (rr 1 (x2 + x4).toNatClampNeg)) C hG 1 rfl (inb_in b2) rfl dX8_spells_38 ?_
        refine lv_icmp_eq (tgt := 44) hx hb dX8_spells_39 (by decide) (fun c39 => ?_) (fun c39 => ?_)
        · replace h := it c39 h
          refine lv_iinc (v := (x4 + 1)) (lv' := [(4, .int (x4 + 1)), (0, .ref (ar 0)), (1, .ref (E.2.2 (3 + si))), (2, .int x2)]) hx hb dX8_spells_44 hl (k := 3) rfl (congrArg (x4 + ·) (by decide : Int32.ofInt 1 = 1)) (by decide) rfl (fun ls hl => ?_)
          refine lv_goto (tgt := 15) hx hb dX8_spells_47 (by decide) ?_
          exact ih (x4 + 1) _ _ _ hG (lv_sub hl [1, 2, 3, 0] rfl) h
        · replace h := ie c39 h
          refine lv_iconst (v := 0) hx hb dX8_spells_42 (by decide) ?_
          exact hret _ _ _ _ _ h rfl hG dX8_spells_43
  rw [fX8_spells] at h
  refine lv_aload_n hx hb dX8_spells_0 rfl (lv_at hl 1 rfl) ?_
  refine gF_i (ws' := (rR E ar rr ++ [])) C hG pst pst.symm (gR_VS (As := []) (rest := []) C hz hl.1 hG pst (c_J0_length_8abf5 l E si hsi H.size) okJ0_length_8abf5 q621 (vk_recv (adK := fun i => E.2.2 (3 + i)) (i := si) (C.2.2.2.1.2.2.2.2.1.narrow C.2.2.2.2.1) hsi hG.2.2) rfl (Nat.le_of_ble_eq_true rfl) (by omega) ⟨Nat.le_refl _, Nat.le_refl _⟩ dX8_spells_1) (fun H locs _ hG => ?_)
  refine lv_iload_n hx hb dX8_spells_4 rfl (lv_at hl 3 rfl) ?_
  refine lv_iload_n hx hb dX8_spells_5 rfl (lv_at hl 2 rfl) ?_
  refine lv_isub hx hb dX8_spells_6 ?_
  refine lv_icmp_eq (tgt := 12) hx hb dX8_spells_7 (by decide) (fun c7 => ?_) (fun c7 => ?_)
  · replace h := it c7 h
    refine lv_iconst (v := 0) hx hb dX8_spells_12 (by decide) ?_
    refine lv_istore (lv' := [(4, .int 0), (0, .ref (ar 0)), (1, .ref (E.2.2 (3 + si))), (2, .int x2), (3, .int x3)]) hx hb dX8_spells_13 hl (by decide) rfl (fun ls hl => ?_)
    exact K15 N 0 _ _ _ hG (lv_sub hl [1, 2, 3, 0] rfl) h
  · replace h := ie c7 h
    refine lv_iconst (v := 0) hx hb dX8_spells_10 (by decide) ?_
    exact hret _ _ _ _ _ h rfl hG dX8_spells_11
set_option maxHeartbeats 4000000 in
set_option maxRecDepth 100000 in
theorem c_X8_wordKind (l : Launch) (E : GE) (ar : Nat → Nat) (N : Nat) (x1 : Int32) (x2 : Int32) (rr : RS) {res : Int32} (h : fX8_wordKind N x1 x2 rr = some res) : gMi l E yX8_wordKind cX8_wordKind 3 .int 6 0 0 [.ref (ar 0), .int x1, .int x2] (rR E ar rr ++ []) (rR E ar rr ++ []) res := by
  refine gMi_of (own := RX8) (by decide +kernel) rfl (Nat.le_of_ble_eq_true rfl) ?_
  intro p e s m args below meth c A ls Q H locs C hz hl hG hret
  have hx := C.1.1
  have hb := C.1.2.1
  have hts := C.1.2.2.2.2
  have hown := C.1.2.2.2.1
  have hl : lv_has ls 3 [(0, .ref (ar 0)), (1, .int x1), (2, .int x2)] := hl
  replace hret : ∀ (r0 : Int32) (H : Heap) (locs : List Loc) (pc : Nat) (ls' : Array Slot), some r0 = some res → narrow .int (.int r0) = .int r0 → gG E A s.heap (rR E ar rr ++ []) H locs → decode cX8_wordKind pc = .ok (.ireturn, 1) → W p l e (rmD 6 0 0) s m args below meth c H locs 0 0 Q (F0 m pc ls' [.int r0]) := by
    intro r0 H locs pc ls' e0 hn; cases e0; exact hret H locs pc ls' hn
  rw [fX8_wordKind] at h
  refine lv_aload_n hx hb dX8_wordKind_0 rfl (lv_at hl 0 rfl) ?_
  refine va_ldcS hx hb hown (C.2.2.2.1.2.2.2.2.2.1 0 (by decide)) dX8_wordKind_1 ?_
  refine lv_iload_n hx hb dX8_wordKind_3 rfl (lv_at hl 1 rfl) ?_
  refine lv_iload_n hx hb dX8_wordKind_4 rfl (lv_at hl 2 rfl) ?_
  obtain ⟨r1, hcr1, h⟩ := bnd_some h
  refine gF_i (ws' := (rR E ar rr ++ [])) C hG (pin pnil) (List.Perm.symm (pin pnil)) (gR_V (As := [.ref (E.2.2 (3 + 0)), .int x1, .int x2]) (rest := []) C hz hl.1 hG (pin pnil) (c_X8_spells l E ar N 0 x1 x2 rr (by decide) hcr1 H.size) okX8_spells q617 0 rfl rfl rfl (Nat.le_of_ble_eq_true rfl) (by omega) ⟨Nat.le_refl _, Nat.le_refl _⟩ dX8_wordKind_5) (fun H locs z2 hG => ?_)
  refine lv_if_eq (tgt := 13) hx hb dX8_wordKind_8 (by decide) (fun c8 => ?_) (fun c8 => ?_)
  · replace h := it c8 h
    refine lv_aload_n hx hb dX8_wordKind_13 rfl (lv_at hl 0 rfl) ?_
    refine va_ldcS hx hb hown (C.2.2.2.1.2.2.2.2.2.1 1 (by decide)) dX8_wordKind_14 ?_
    refine lv_iload_n hx hb dX8_wordKind_16 rfl (lv_at hl 1 rfl) ?_
    refine lv_iload_n hx hb dX8_wordKind_17 rfl (lv_at hl 2 rfl) ?_
    obtain ⟨r3, hcr3, h⟩ := bnd_some h
    refine gF_i (ws' := (rR E ar rr ++ [])) C hG (pin pnil) (List.Perm.symm (pin pnil)) (gR_V (As := [.ref (E.2.2 (3 + 1)), .int x1, .int x2]) (rest := []) C hz hl.1 hG (pin pnil) (c_X8_spells l E ar N 1 x1 x2 rr (by decide) hcr3 H.size) okX8_spells q617 0 rfl rfl rfl (Nat.le_of_ble_eq_true rfl) (by omega) ⟨Nat.le_refl _, Nat.le_refl _⟩ dX8_wordKind_18) (fun H locs z4 hG => ?_)
    refine lv_if_eq (tgt := 26) hx hb dX8_wordKind_21 (by decide) (fun c21 => ?_) (fun c21 => ?_)
    · replace h := it c21 h
      refine lv_aload_n hx hb dX8_wordKind_26 rfl (lv_at hl 0 rfl) ?_
      refine va_ldcS hx hb hown (C.2.2.2.1.2.2.2.2.2.1 2 (by decide)) dX8_wordKind_27 ?_
      refine lv_iload_n hx hb dX8_wordKind_29 rfl (lv_at hl 1 rfl) ?_
      refine lv_iload_n hx hb dX8_wordKind_30 rfl (lv_at hl 2 rfl) ?_
      obtain ⟨r5, hcr5, h⟩ := bnd_some h
      refine gF_i (ws' := (rR E ar rr ++ [])) C hG (pin pnil) (List.Perm.symm (pin pnil)) (gR_V (As := [.ref (E.2.2 (3 + 2)), .int x1, .int x2]) (rest := []) C hz hl.1 hG (pin pnil) (c_X8_spells l E ar N 2 x1 x2 rr (by decide) hcr5 H.size) okX8_spells q617 0 rfl rfl rfl (Nat.le_of_ble_eq_true rfl) (by omega) ⟨Nat.le_refl _, Nat.le_refl _⟩ dX8_wordKind_31) (fun H locs z6 hG => ?_)
      refine lv_if_eq (tgt := 40) hx hb dX8_wordKind_34 (by decide) (fun c34 => ?_) (fun c34 => ?_)
      · replace h := it c34 h
        refine lv_aload_n hx hb dX8_wordKind_40 rfl (lv_at hl 0 rfl) ?_
        refine va_ldcS hx hb hown (C.2.2.2.1.2.2.2.2.2.1 3 (by decide)) dX8_wordKind_41 ?_
        refine lv_iload_n hx hb dX8_wordKind_43 rfl (lv_at hl 1 rfl) ?_
        refine lv_iload_n hx hb dX8_wordKind_44 rfl (lv_at hl 2 rfl) ?_
        obtain ⟨r7, hcr7, h⟩ := bnd_some h
        refine gF_i (ws' := (rR E ar rr ++ [])) C hG (pin pnil) (List.Perm.symm (pin pnil)) (gR_V (As := [.ref (E.2.2 (3 + 3)), .int x1, .int x2]) (rest := []) C hz hl.1 hG (pin pnil) (c_X8_spells l E ar N 3 x1 x2 rr (by decide) hcr7 H.size) okX8_spells q617 0 rfl rfl rfl (Nat.le_of_ble_eq_true rfl) (by omega) ⟨Nat.le_refl _, Nat.le_refl _⟩ dX8_wordKind_45) (fun H locs z8 hG => ?_)
        refine lv_if_eq (tgt := 54) hx hb dX8_wordKind_48 (by decide) (fun c48 => ?_) (fun c48 => ?_)
        · replace h := it c48 h
          refine lv_aload_n hx hb dX8_wordKind_54 rfl (lv_at hl 0 rfl) ?_
          refine va_ldcS hx hb hown (C.2.2.2.1.2.2.2.2.2.1 4 (by decide)) dX8_wordKind_55 ?_
          refine lv_iload_n hx hb dX8_wordKind_57 rfl (lv_at hl 1 rfl) ?_
          refine lv_iload_n hx hb dX8_wordKind_58 rfl (lv_at hl 2 rfl) ?_
          obtain ⟨r9, hcr9, h⟩ := bnd_some h
          refine gF_i (ws' := (rR E ar rr ++ [])) C hG (pin pnil) (List.Perm.symm (pin pnil)) (gR_V (As := [.ref (E.2.2 (3 + 4)), .int x1, .int x2]) (rest := []) C hz hl.1 hG (pin pnil) (c_X8_spells l E ar N 4 x1 x2 rr (by decide) hcr9 H.size) okX8_spells q617 0 rfl rfl rfl (Nat.le_of_ble_eq_true rfl) (by omega) ⟨Nat.le_refl _, Nat.le_refl _⟩ dX8_wordKind_59) (fun H locs z10 hG => ?_)
          refine lv_if_eq (tgt := 68) hx hb dX8_wordKind_62 (by decide) (fun c62 => ?_) (fun c62 => ?_)
          · replace h := it c62 h
            refine lv_aload_n hx hb dX8_wordKind_68 rfl (lv_at hl 0 rfl) ?_
            refine va_ldcS hx hb hown (C.2.2.2.1.2.2.2.2.2.1 5 (by decide)) dX8_wordKind_69 ?_
            refine lv_iload_n hx hb dX8_wordKind_71 rfl (lv_at hl 1 rfl) ?_
            refine lv_iload_n hx hb dX8_wordKind_72 rfl (lv_at hl 2 rfl) ?_
            obtain ⟨r11, hcr11, h⟩ := bnd_some h
            refine gF_i (ws' := (rR E ar rr ++ [])) C hG (pin pnil) (List.Perm.symm (pin pnil)) (gR_V (As := [.ref (E.2.2 (3 + 5)), .int x1, .int x2]) (rest := []) C hz hl.1 hG (pin pnil) (c_X8_spells l E ar N 5 x1 x2 rr (by decide) hcr11 H.size) okX8_spells q617 0 rfl rfl rfl (Nat.le_of_ble_eq_true rfl) (by omega) ⟨Nat.le_refl _, Nat.le_refl _⟩ dX8_wordKind_73) (fun H locs z12 hG => ?_)
            refine lv_if_eq (tgt := 82) hx hb dX8_wordKind_76 (by decide) (fun c76 => ?_) (fun c76 => ?_)
            · replace h := it c76 h
              refine lv_aload_n hx hb dX8_wordKind_82 rfl (lv_at hl 0 rfl) ?_
              refine va_ldcS hx hb hown (C.2.2.2.1.2.2.2.2.2.1 6 (by decide)) dX8_wordKind_83 ?_
              refine lv_iload_n hx hb dX8_wordKind_85 rfl (lv_at hl 1 rfl) ?_
              refine lv_iload_n hx hb dX8_wordKind_86 rfl (lv_at hl 2 rfl) ?_
              obtain ⟨r13, hcr13, h⟩ := bnd_some h
              refine gF_i (ws' := (rR E ar rr ++ [])) C hG (pin pnil) (List.Perm.symm (pin pnil)) (gR_V (As := [.ref (E.2.2 (3 + 6)), .int x1, .int x2]) (rest := []) C hz hl.1 hG (pin pnil) (c_X8_spells l E ar N 6 x1 x2 rr (by decide) hcr13 H.size) okX8_spells q617 0 rfl rfl rfl (Nat.le_of_ble_eq_true rfl) (by omega) ⟨Nat.le_refl _, Nat.le_refl _⟩ dX8_wordKind_87) (fun H locs z14 hG => ?_)
              refine lv_if_eq (tgt := 98) hx hb dX8_wordKind_90 (by decide) (fun c90 => ?_) (fun c90 => ?_)
              · replace h := it c90 h
                refine lv_iconst (v := 1) hx hb dX8_wordKind_98 (by decide) ?_
                exact hret _ _ _ _ _ h rfl hG dX8_wordKind_99
              · replace h := ie c90 h
                refine lv_bipush (v := 10) hx hb dX8_wordKind_93 (by decide) ?_
                refine lv_goto (tgt := 99) hx hb dX8_wordKind_95 (by decide) ?_
                exact hret _ _ _ _ _ h rfl hG dX8_wordKind_99
            · replace h := ie c76 h
              refine lv_bipush (v := 9) hx hb dX8_wordKind_79 (by decide) ?_
              exact hret _ _ _ _ _ h rfl hG dX8_wordKind_81
          · replace h := ie c62 h
            refine lv_bipush (v := 8) hx hb dX8_wordKind_65 (by decide) ?_
            exact hret _ _ _ _ _ h rfl hG dX8_wordKind_67
        · replace h := ie c48 h
          refine lv_bipush (v := 7) hx hb dX8_wordKind_51 (by decide) ?_
          exact hret _ _ _ _ _ h rfl hG dX8_wordKind_53
      · replace h := ie c34 h
        refine lv_bipush (v := 6) hx hb dX8_wordKind_37 (by decide) ?_
        exact hret _ _ _ _ _ h rfl hG dX8_wordKind_39
    · replace h := ie c21 h
      refine lv_iconst (v := 5) hx hb dX8_wordKind_24 (by decide) ?_
      exact hret _ _ _ _ _ h rfl hG dX8_wordKind_25
  · replace h := ie c8 h
    refine lv_iconst (v := 4) hx hb dX8_wordKind_11 (by decide) ?_
    exact hret _ _ _ _ _ h rfl hG dX8_wordKind_12
set_option maxHeartbeats 4000000 in
set_option maxRecDepth 100000 in
theorem c_X8_addWord (l : Launch) (E : GE) (ar : Nat → Nat) (N : Nat) (x1 : Int32) (x2 : Int32) (rr : RS) {res : RS} (h : fX8_addWord N x1 x2 rr = some res) : gMv l E yX8_addWord cX8_addWord 4 7 0 0 [.ref (ar 0), .int x1, .int x2] (rR E ar rr ++ []) (rR E ar res ++ []) := by
  refine gMv_of (own := RX8) (by decide +kernel) rfl (Nat.le_of_ble_eq_true rfl) ?_
  intro p e s m args below meth c A ls Q H locs C hz hl hG hin hret
  have hx := C.1.1
  have hb := C.1.2.1
  have hts := C.1.2.2.2.2
  have hown := C.1.2.2.2.1
  have hl : lv_has ls 4 [(0, .ref (ar 0)), (1, .int x1), (2, .int x2)] := hl
  replace hret : ∀ (rr0 : RS) (H : Heap) (locs : List Loc) (pc : Nat) (ls' : Array Slot), some rr0 = some res → gG E A s.heap (rR E ar rr0 ++ []) H locs → decode cX8_addWord pc = .ok (.return_, 1) → W p l e (rmD 7 0 0) s m args below meth c H locs 0 0 Q (F0 m pc ls' []) := by
    intro rr0 H locs pc ls' e0; cases e0; exact hret H locs pc ls'
  have K36 : ∀  (rr : RS) (H : Heap) (locs : List Loc) (ls : Array Slot), gG E A s.heap (rR E ar rr ++ []) H locs → lv_has ls 4 [(0, .ref (ar 0)), (1, .int x1), (2, .int x2)] → fX8_addWord_L36 N x1 x2 rr = some res → W p l e (rmD 7 0 0) s m args below meth c H locs 0 0 Q (F0 m 36 ls []) := by
    intro rr H locs ls hG hl h
    rw [fX8_addWord_L36] at h
    refine lv_aload_n hx hb dX8_addWord_36 rfl (lv_at hl 0 rfl) ?_
    refine lv_aload_n hx hb dX8_addWord_37 rfl (lv_at hl 0 rfl) ?_
    refine lv_iload_n hx hb dX8_addWord_38 rfl (lv_at hl 1 rfl) ?_
    refine lv_iload_n hx hb dX8_addWord_39 rfl (lv_at hl 2 rfl) ?_
    obtain ⟨r1, hcr1, h⟩ := bnd_some h
    refine gF_i (ws' := (rR E ar rr ++ [])) C hG (pin pnil) (List.Perm.symm (pin pnil)) (gR_V (As := [.int x1, .int x2]) (rest := [.ref (ar 0)]) C hz hl.1 hG (pin pnil) (c_X8_wordKind l E ar N x1 x2 rr hcr1 H.size) okX8_wordKind q612 0 rfl rfl rfl (Nat.le_of_ble_eq_true rfl) (by omega) ⟨Nat.le_refl _, Nat.le_refl _⟩ dX8_addWord_40) (fun H locs _ hG => ?_)
    refine lv_iconst (v := 0) hx hb dX8_addWord_43 (by decide) ?_
    refine lv_iload_n hx hb dX8_addWord_44 rfl (lv_at hl 1 rfl) ?_
    obtain ⟨r2, hcr2, h⟩ := bnd_some h
    refine gF_v (ws' := (rR E ar r2 ++ [])) C hG (pin pnil) (List.Perm.symm (pin pnil)) (gR_V (As := [.int r1, .int 0, .int x1]) (rest := []) C hz hl.1 hG (pin pnil) (c_X8_addToken l E ar N r1 0 x1 rr hcr2 H.size) okX8_addToken q608 0 rfl rfl rfl (Nat.le_of_ble_eq_true rfl) (by omega) ⟨Nat.le_refl _, Nat.le_refl _⟩ dX8_addWord_45) (fun H locs hG => ?_)
    exact hret _ _ _ _ _ h hG dX8_addWord_48
  rw [fX8_addWord] at h
  refine lv_aload_n hx hb dX8_addWord_0 rfl (lv_at hl 0 rfl) ?_
  refine gL_f (v := .ref (ar 1)) C hG kX8 0 0 rfl (by decide) rfl q491 rfl dX8_addWord_1 ?_
  refine lv_iload_n hx hb dX8_addWord_4 rfl (lv_at hl 1 rfl) ?_
  obtain ⟨b1, h⟩ := ck_some h
  refine gL_i (v := (rr 1 x1.toNatClampNeg)) C hG 1 rfl (inb_in b1) rfl dX8_addWord_5 ?_
  refine lv_bipush (v := 97) hx hb dX8_addWord_6 (by decide) ?_
  refine lv_isub hx hb dX8_addWord_8 ?_
  obtain ⟨x3_2, ex3_2, h⟩ := thn_some h
  refine g_int ex3_2 ?_
  refine lv_istore_n (lv' := [(3, .int x3_2), (0, .ref (ar 0)), (1, .int x1), (2, .int x2)]) hx hb dX8_addWord_9 rfl hl (by decide) rfl (fun ls hl => ?_)
  refine lv_iload_n hx hb dX8_addWord_10 rfl (lv_at hl 3 rfl) ?_
  refine lv_iload_n hx hb dX8_addWord_11 rfl (lv_at hl 2 rfl) ?_
  refine lv_isub hx hb dX8_addWord_12 ?_
  refine lv_iconst (v := 1) hx hb dX8_addWord_13 (by decide) ?_
  refine lv_icmp_ne (tgt := 36) hx hb dX8_addWord_14 (by decide) (fun c14 => ?_) (fun c14 => ?_)
  · replace h := ie c14 h
    exact K36 rr _ _ _ hG (lv_sub hl [1, 2, 3] rfl) h
  · replace h := it c14 h
    refine lv_iload_n hx hb dX8_addWord_17 rfl (lv_at hl 0 rfl) ?_
    refine lv_if_lt (tgt := 36) hx hb dX8_addWord_18 (by decide) (fun c18 => ?_) (fun c18 => ?_)
    · replace h := it c18 h
      exact K36 rr _ _ _ hG (lv_sub hl [1, 2, 3] rfl) h
    · replace h := ie c18 h
      refine lv_iload_n hx hb dX8_addWord_21 rfl (lv_at hl 0 rfl) ?_
      refine lv_iconst (v := 3) hx hb dX8_addWord_22 (by decide) ?_
      refine lv_icmp_ge (tgt := 36) hx hb dX8_addWord_23 (by decide) (fun c23 => ?_) (fun c23 => ?_)
      · replace h := it c23 h
        exact K36 rr _ _ _ hG (lv_sub hl [1, 2, 3] rfl) h
      · replace h := ie c23 h
        refine lv_aload_n hx hb dX8_addWord_26 rfl (lv_at hl 1 rfl) ?_
        refine lv_iconst (v := 3) hx hb dX8_addWord_27 (by decide) ?_
        refine lv_iload_n hx hb dX8_addWord_28 rfl (lv_at hl 0 rfl) ?_
        refine lv_iload_n hx hb dX8_addWord_29 rfl (lv_at hl 2 rfl) ?_
        obtain ⟨r3, hcr3, h⟩ := bnd_some h
        refine gF_v (ws' := (rR E ar r3 ++ [])) C hG (pin pnil) (List.Perm.symm (pin pnil)) (gR_V (As := [.int 3, .int x3_2, .int x1]) (rest := []) C hz hl.1 hG (pin pnil) (c_X8_addToken l E ar N 3 x3_2 x1 rr hcr3 H.size) okX8_addToken q608 0 rfl rfl rfl (Nat.le_of_ble_eq_true rfl) (by omega) ⟨Nat.le_refl _, Nat.le_refl _⟩ dX8_addWord_30) (fun H locs hG => ?_)
        refine lv_goto (tgt := 48) hx hb dX8_addWord_33 (by decide) ?_
        exact hret _ _ _ _ _ h hG dX8_addWord_48
set_option maxHeartbeats 4000000 in
set_option maxRecDepth 100000 in
theorem c_X8_listTokens (l : Launch) (E : GE) (ar : Nat → Nat) (N : Nat) (rr : RS) {res : RS} (h : fX8_listTokens N rr = some res) : gMv l E yX8_listTokens cX8_listTokens 5 8 0 0 [.ref (ar 0)] (rR E ar rr ++ []) (rR E ar res ++ []) := by
  refine gMv_of (own := RX8) (by decide +kernel) rfl (Nat.le_of_ble_eq_true rfl) ?_
  intro p e s m args below meth c A ls Q H locs C hz hl hG hin hret
  have hx := C.1.1
  have hb := C.1.2.1
  have hts := C.1.2.2.2.2
  have hown := C.1.2.2.2.1
  have hl : lv_has ls 5 [(0, .ref (ar 0))] := hl
  replace hret : ∀ (rr0 : RS) (H : Heap) (locs : List Loc) (pc : Nat) (ls' : Array Slot), some rr0 = some res → gG E A s.heap (rR E ar rr0 ++ []) H locs → decode cX8_listTokens pc = .ok (.return_, 1) → W p l e (rmD 8 0 0) s m args below meth c H locs 0 0 Q (F0 m pc ls' []) := by
    intro rr0 H locs pc ls' e0; cases e0; exact hret H locs pc ls'
  have K120 : ∀ (k9 : (Int32 → Int32 → RS → Option (RS))) (hk9 : ∀  (x1 : Int32) (x2 : Int32) (rr : RS) (H : Heap) (locs : List Loc) (ls : Array Slot), gG E A s.heap (rR E ar rr ++ []) H locs → lv_has ls 5 [(0, .ref (ar 0)), (1, .int x1), (2, .int x2)] → k9 x1 x2 rr = some res → W p l e (rmD 8 0 0) s m args below meth c H locs 0 0 Q (F0 m 9 ls [])), ∀  (x2 : Int32) (x4 : Int32) (rr : RS) (H : Heap) (locs : List Loc) (ls : Array Slot), gG E A s.heap (rR E ar rr ++ []) H locs → lv_has ls 5 [(0, .ref (ar 0)), (2, .int x2), (4, .int x4)] → fX8_listTokens_L120 N k9 x2 x4 rr = some res → W p l e (rmD 8 0 0) s m args below meth c H locs 0 0 Q (F0 m 120 ls []) := by
    intro k9 hk9 x2 x4 rr H locs ls hG hl h
    rw [fX8_listTokens_L120] at h
    refine lv_iload hx hb dX8_listTokens_120 (lv_at hl 2 rfl) ?_
    refine lv_istore_n (lv' := [(1, .int x4), (0, .ref (ar 0)), (2, .int x2), (4, .int x4)]) hx hb dX8_listTokens_122 rfl hl (by decide) rfl (fun ls hl => ?_)
    refine lv_iinc (v := (x2 + 1)) (lv' := [(2, .int (x2 + 1)), (1, .int x4), (0, .ref (ar 0)), (4, .int x4)]) hx hb dX8_listTokens_123 hl (k := 2) rfl (congrArg (x2 + ·) (by decide : Int32.ofInt 1 = 1)) (by decide) rfl (fun ls hl => ?_)
    refine lv_goto (tgt := 9) hx hb dX8_listTokens_126 (by decide) ?_
    exact hk9 x4 (x2 + 1) rr _ _ _ hG (lv_sub hl [2, 1, 0] rfl) h
  have K115 : ∀ (k9 : (Int32 → Int32 → RS → Option (RS))) (hk9 : ∀  (x1 : Int32) (x2 : Int32) (rr : RS) (H : Heap) (locs : List Loc) (ls : Array Slot), gG E A s.heap (rR E ar rr ++ []) H locs → lv_has ls 5 [(0, .ref (ar 0)), (1, .int x1), (2, .int x2)] → k9 x1 x2 rr = some res → W p l e (rmD 8 0 0) s m args below meth c H locs 0 0 Q (F0 m 9 ls [])), ∀  (x1 : Int32) (x2 : Int32) (x4 : Int32) (s1 : Int32) (rr : RS) (H : Heap) (locs : List Loc) (ls : Array Slot), gG E A s.heap (rR E ar rr ++ []) H locs → lv_has ls 5 [(0, .ref (ar 0)), (1, .int x1), (2, .int x2), (4, .int x4)] → fX8_listTokens_L115 N k9 x1 x2 x4 s1 rr = some res → W p l e (rmD 8 0 0) s m args below meth c H locs 0 0 Q (F0 m 115 ls [.int s1, .ref (ar 0)]) := by
    intro k9 hk9 x1 x2 x4 s1 rr H locs ls hG hl h
    rw [fX8_listTokens_L115] at h
    refine lv_iconst (v := 0) hx hb dX8_listTokens_115 (by decide) ?_
    refine lv_iload_n hx hb dX8_listTokens_116 rfl (lv_at hl 1 rfl) ?_
    obtain ⟨r1, hcr1, h⟩ := bnd_some h
    refine gF_v (ws' := (rR E ar r1 ++ [])) C hG (pin pnil) (List.Perm.symm (pin pnil)) (gR_V (As := [.int s1, .int 0, .int x1]) (rest := []) C hz hl.1 hG (pin pnil) (c_X8_addToken l E ar N s1 0 x1 rr hcr1 H.size) okX8_addToken q608 0 rfl rfl rfl (Nat.le_of_ble_eq_true rfl) (by omega) ⟨Nat.le_refl _, Nat.le_refl _⟩ dX8_listTokens_117) (fun H locs hG => ?_)
    exact K120 _ hk9 x2 x4 r1 _ _ _ hG (lv_sub hl [0, 2, 3] rfl) h
  have K129 : ∀  (rr : RS) (H : Heap) (locs : List Loc) (ls : Array Slot), gG E A s.heap (rR E ar rr ++ []) H locs → lv_has ls 5 [(0, .ref (ar 0))] → fX8_listTokens_L129 N rr = some res → W p l e (rmD 8 0 0) s m args below meth c H locs 0 0 Q (F0 m 129 ls []) := by
    intro rr H locs ls hG hl h
    rw [fX8_listTokens_L129] at h
    refine lv_aload_n hx hb dX8_listTokens_129 rfl (lv_at hl 0 rfl) ?_
    refine lv_iconst (v := 0) hx hb dX8_listTokens_130 (by decide) ?_
    refine lv_iconst (v := 0) hx hb dX8_listTokens_131 (by decide) ?_
    refine lv_aload_n hx hb dX8_listTokens_132 rfl (lv_at hl 0 rfl) ?_
    refine gL_f (v := .int (rr 0 1)) C hG kX8 0 1 rfl (by decide) rfl q492 rfl dX8_listTokens_133 ?_
    obtain ⟨r1, hcr1, h⟩ := bnd_some h
    refine gF_v (ws' := (rR E ar r1 ++ [])) C hG (pin pnil) (List.Perm.symm (pin pnil)) (gR_V (As := [.int 0, .int 0, .int (rr 0 1)]) (rest := []) C hz hl.1 hG (pin pnil) (c_X8_addToken l E ar N 0 0 (rr 0 1) rr hcr1 H.size) okX8_addToken q608 0 rfl rfl rfl (Nat.le_of_ble_eq_true rfl) (by omega) ⟨Nat.le_refl _, Nat.le_refl _⟩ dX8_listTokens_136) (fun H locs hG => ?_)
    exact hret _ _ _ _ _ h hG dX8_listTokens_139
  have K9 : ∀ (k : Nat), ∀  (x1 : Int32) (x2 : Int32) (rr : RS) (H : Heap) (locs : List Loc) (ls : Array Slot), gG E A s.heap (rR E ar rr ++ []) H locs → lv_has ls 5 [(0, .ref (ar 0)), (1, .int x1), (2, .int x2)] → fX8_listTokens_L9 N k x1 x2 rr = some res → W p l e (rmD 8 0 0) s m args below meth c H locs 0 0 Q (F0 m 9 ls []) := by
    intro k
    induction k with
    | zero => intro x1 x2 rr H locs ls hG hl h; exact absurd (show none = _ from h) (by simp)
    | succ k ih =>
      intro x1 x2 rr H locs ls hG hl h
      rw [fX8_listTokens_L9] at h
      refine lv_iload_n hx hb dX8_listTokens_9 rfl (lv_at hl 2 rfl) ?_
      refine lv_sipush (v := 300) hx hb dX8_listTokens_10 (by decide) ?_
      refine lv_icmp_ge (tgt := 129) hx hb dX8_listTokens_13 (by decide) (fun c13 => ?_) (fun c13 => ?_)
      · replace h := it c13 h
        exact K129 rr _ _ _ hG (lv_sub hl [0] rfl) h
      · replace h := ie c13 h
        refine lv_iload_n hx hb dX8_listTokens_16 rfl (lv_at hl 1 rfl) ?_
        refine lv_aload_n hx hb dX8_listTokens_17 rfl (lv_at hl 0 rfl) ?_
        refine gL_f (v := .int (rr 0 1)) C hG kX8 0 1 rfl (by decide) rfl q492 rfl dX8_listTokens_18 ?_
        refine lv_icmp_ge (tgt := 129) hx hb dX8_listTokens_21 (by decide) (fun c21 => ?_) (fun c21 => ?_)
        · replace h := it c21 h
          exact K129 rr _ _ _ hG (lv_sub hl [0] rfl) h
        · replace h := ie c21 h
          refine lv_aload_n hx hb dX8_listTokens_24 rfl (lv_at hl 0 rfl) ?_
          refine gL_f (v := .ref (ar 1)) C hG kX8 0 0 rfl (by decide) rfl q491 rfl dX8_listTokens_25 ?_
          refine lv_iload_n hx hb dX8_listTokens_28 rfl (lv_at hl 1 rfl) ?_
          obtain ⟨b1, h⟩ := ck_some h
          refine gL_i (v := (rr 1 x1.toNatClampNeg)) C hG 1 rfl (inb_in b1) rfl dX8_listTokens_29 ?_
          obtain ⟨x3_2, ex3_2, h⟩ := thn_some h
          refine g_int ex3_2 ?_
          refine lv_istore_n (lv' := [(3, .int x3_2), (0, .ref (ar 0)), (1, .int x1), (2, .int x2)]) hx hb dX8_listTokens_30 rfl hl (by decide) rfl (fun ls hl => ?_)
          refine lv_iload_n hx hb dX8_listTokens_31 rfl (lv_at hl 2 rfl) ?_
          refine lv_iconst (v := 1) hx hb dX8_listTokens_32 (by decide) ?_
          refine lv_iadd hx hb dX8_listTokens_33 ?_
          obtain ⟨x4_3, ex4_3, h⟩ := thn_some h
          refine g_int ex4_3 ?_
          refine lv_istore (lv' := [(4, .int x4_3), (3, .int x3_2), (0, .ref (ar 0)), (1, .int x1), (2, .int x2)]) hx hb dX8_listTokens_34 hl (by decide) rfl (fun ls hl => ?_)
          refine lv_iload_n hx hb dX8_listTokens_36 rfl (lv_at hl 1 rfl) ?_
          refine gF_i (ws' := (rR E ar rr ++ [])) C hG pst pst.symm (gR_S (As := [.int x3_2]) (rest := []) C hz hl.1 hG pst (c_X8_isLetter l E x3_2 rfl H.size) okX8_isLetter q597 rfl (Nat.le_of_ble_eq_true rfl) (by omega) ⟨Nat.le_refl _, Nat.le_refl _⟩ dX8_listTokens_37) (fun H locs z4 hG => ?_)
          refine lv_if_eq (tgt := 60) hx hb dX8_listTokens_40 (by decide) (fun c40 => ?_) (fun c40 => ?_)
          · replace h := it c40 h
            refine lv_iload_n hx hb dX8_listTokens_60 rfl (lv_at hl 1 rfl) ?_
            refine gF_i (ws' := (rR E ar rr ++ [])) C hG pst pst.symm (gR_S (As := [.int x3_2]) (rest := []) C hz hl.1 hG pst (c_X8_isDigit l E x3_2 rfl H.size) okX8_isDigit q675 rfl (Nat.le_of_ble_eq_true rfl) (by omega) ⟨Nat.le_refl _, Nat.le_refl _⟩ dX8_listTokens_61) (fun H locs z5 hG => ?_)
            refine lv_if_eq (tgt := 90) hx hb dX8_listTokens_64 (by decide) (fun c64 => ?_) (fun c64 => ?_)
            · replace h := it c64 h
              refine lv_iload_n hx hb dX8_listTokens_90 rfl (lv_at hl 1 rfl) ?_
              refine lv_bipush (v := 32) hx hb dX8_listTokens_91 (by decide) ?_
              refine lv_icmp_eq (tgt := 120) hx hb dX8_listTokens_93 (by decide) (fun c93 => ?_) (fun c93 => ?_)
              · replace h := it c93 h
                exact K120 _ ih x2 x4_3 rr _ _ _ hG (lv_sub hl [2, 4, 0] rfl) h
              · replace h := ie c93 h
                refine lv_iload_n hx hb dX8_listTokens_96 rfl (lv_at hl 1 rfl) ?_
                refine lv_bipush (v := 10) hx hb dX8_listTokens_97 (by decide) ?_
                refine lv_icmp_eq (tgt := 120) hx hb dX8_listTokens_99 (by decide) (fun c99 => ?_) (fun c99 => ?_)
                · replace h := it c99 h
                  exact K120 _ ih x2 x4_3 rr _ _ _ hG (lv_sub hl [2, 4, 0] rfl) h
                · replace h := ie c99 h
                  refine lv_aload_n hx hb dX8_listTokens_102 rfl (lv_at hl 2 rfl) ?_
                  refine lv_iload_n hx hb dX8_listTokens_103 rfl (lv_at hl 1 rfl) ?_
                  refine gF_i (ws' := (rR E ar rr ++ [])) C hG pst pst.symm (gR_S (As := [.int x3_2]) (rest := [.ref (ar 0)]) C hz hl.1 hG pst (c_X8_isSign l E x3_2 rfl H.size) okX8_isSign q689 rfl (Nat.le_of_ble_eq_true rfl) (by omega) ⟨Nat.le_refl _, Nat.le_refl _⟩ dX8_listTokens_104) (fun H locs z6 hG => ?_)
                  refine lv_if_eq (tgt := 114) hx hb dX8_listTokens_107 (by decide) (fun c107 => ?_) (fun c107 => ?_)
                  · replace h := it c107 h
                    refine lv_iconst (v := 1) hx hb dX8_listTokens_114 (by decide) ?_
                    exact K115 _ ih x1 x2 x4_3 1 rr _ _ _ hG (lv_sub hl [2, 3, 4, 0] rfl) h
                  · replace h := ie c107 h
                    refine lv_iload_n hx hb dX8_listTokens_110 rfl (lv_at hl 1 rfl) ?_
                    refine lv_goto (tgt := 115) hx hb dX8_listTokens_111 (by decide) ?_
                    exact K115 _ ih x1 x2 x4_3 x3_2 rr _ _ _ hG (lv_sub hl [2, 3, 4, 0] rfl) h
            · replace h := ie c64 h
              refine lv_aload_n hx hb dX8_listTokens_67 rfl (lv_at hl 2 rfl) ?_
              refine lv_iload_n hx hb dX8_listTokens_68 rfl (lv_at hl 3 rfl) ?_
              obtain ⟨r7, hcr7, h⟩ := bnd_some h
              refine gF_i (ws' := (rR E ar rr ++ [])) C hG (pin pnil) (List.Perm.symm (pin pnil)) (gR_V (As := [.int x1]) (rest := []) C hz hl.1 hG (pin pnil) (c_X8_behindDigits l E ar N x1 rr hcr7 H.size) okX8_behindDigits q678 0 rfl rfl rfl (Nat.le_of_ble_eq_true rfl) (by omega) ⟨Nat.le_refl _, Nat.le_refl _⟩ dX8_listTokens_69) (fun H locs _ hG => ?_)
              refine lv_istore (lv' := [(4, .int r7), (3, .int x3_2), (0, .ref (ar 0)), (1, .int x1), (2, .int x2)]) hx hb dX8_listTokens_72 hl (by decide) rfl (fun ls hl => ?_)
              refine lv_aload_n hx hb dX8_listTokens_74 rfl (lv_at hl 2 rfl) ?_
              refine lv_iconst (v := 2) hx hb dX8_listTokens_75 (by decide) ?_
              refine lv_aload_n hx hb dX8_listTokens_76 rfl (lv_at hl 2 rfl) ?_
              refine lv_iload_n hx hb dX8_listTokens_77 rfl (lv_at hl 3 rfl) ?_
              refine lv_iload hx hb dX8_listTokens_78 (lv_at hl 0 rfl) ?_
              obtain ⟨r8, hcr8, h⟩ := bnd_some h
              refine gF_i (ws' := (rR E ar rr ++ [])) C hG (pin pnil) (List.Perm.symm (pin pnil)) (gR_V (As := [.int x1, .int r7]) (rest := [.int 2, .ref (ar 0)]) C hz hl.1 hG (pin pnil) (c_X8_numberFrom l E ar N x1 r7 rr hcr8 H.size) okX8_numberFrom q682 0 rfl rfl rfl (Nat.le_of_ble_eq_true rfl) (by omega) ⟨Nat.le_refl _, Nat.le_refl _⟩ dX8_listTokens_80) (fun H locs _ hG => ?_)
              refine lv_iload_n hx hb dX8_listTokens_83 rfl (lv_at hl 3 rfl) ?_
              obtain ⟨r9, hcr9, h⟩ := bnd_some h
              refine gF_v (ws' := (rR E ar r9 ++ [])) C hG (pin pnil) (List.Perm.symm (pin pnil)) (gR_V (As := [.int 2, .int r8, .int x1]) (rest := []) C hz hl.1 hG (pin pnil) (c_X8_addToken l E ar N 2 r8 x1 rr hcr9 H.size) okX8_addToken q608 0 rfl rfl rfl (Nat.le_of_ble_eq_true rfl) (by omega) ⟨Nat.le_refl _, Nat.le_refl _⟩ dX8_listTokens_84) (fun H locs hG => ?_)
              refine lv_goto (tgt := 120) hx hb dX8_listTokens_87 (by decide) ?_
              exact K120 _ ih x2 r7 r9 _ _ _ hG (lv_sub hl [2, 4, 0] rfl) h
          · replace h := ie c40 h
            refine lv_aload_n hx hb dX8_listTokens_43 rfl (lv_at hl 2 rfl) ?_
            refine lv_iload_n hx hb dX8_listTokens_44 rfl (lv_at hl 3 rfl) ?_
            obtain ⟨r10, hcr10, h⟩ := bnd_some h
            refine gF_i (ws' := (rR E ar rr ++ [])) C hG (pin pnil) (List.Perm.symm (pin pnil)) (gR_V (As := [.int x1]) (rest := []) C hz hl.1 hG (pin pnil) (c_X8_behindLetters l E ar N x1 rr hcr10 H.size) okX8_behindLetters q600 0 rfl rfl rfl (Nat.le_of_ble_eq_true rfl) (by omega) ⟨Nat.le_refl _, Nat.le_refl _⟩ dX8_listTokens_45) (fun H locs _ hG => ?_)
            refine lv_istore (lv' := [(4, .int r10), (3, .int x3_2), (0, .ref (ar 0)), (1, .int x1), (2, .int x2)]) hx hb dX8_listTokens_48 hl (by decide) rfl (fun ls hl => ?_)
            refine lv_aload_n hx hb dX8_listTokens_50 rfl (lv_at hl 2 rfl) ?_
            refine lv_iload_n hx hb dX8_listTokens_51 rfl (lv_at hl 3 rfl) ?_
            refine lv_iload hx hb dX8_listTokens_52 (lv_at hl 0 rfl) ?_
            obtain ⟨r11, hcr11, h⟩ := bnd_some h
            refine gF_v (ws' := (rR E ar r11 ++ [])) C hG (pin pnil) (List.Perm.symm (pin pnil)) (gR_V (As := [.int x1, .int r10]) (rest := []) C hz hl.1 hG (pin pnil) (c_X8_addWord l E ar N x1 r10 rr hcr11 H.size) okX8_addWord q604 0 rfl rfl rfl (Nat.le_of_ble_eq_true rfl) (by omega) ⟨Nat.le_refl _, Nat.le_refl _⟩ dX8_listTokens_54) (fun H locs hG => ?_)
            refine lv_goto (tgt := 120) hx hb dX8_listTokens_57 (by decide) ?_
            exact K120 _ ih x2 r10 r11 _ _ _ hG (lv_sub hl [2, 4, 0] rfl) h
  rw [fX8_listTokens] at h
  refine lv_aload_n hx hb dX8_listTokens_0 rfl (lv_at hl 0 rfl) ?_
  refine lv_iconst (v := 0) hx hb dX8_listTokens_1 (by decide) ?_
  obtain ⟨rr_1, err_1, h⟩ := thn_some h
  refine gS_f (v := .int 0) (ws' := (rR E ar rr_1 ++ [])) C hG kX8 0 7 rfl (by decide) q501 rfl rfl rfl rfl (by show 7 < 14; decide) dX8_listTokens_2 (by rw [err_1]; rfl) (fun H locs hG => ?_)
  refine lv_iconst (v := 0) hx hb dX8_listTokens_5 (by decide) ?_
  refine lv_istore_n (lv' := [(1, .int 0), (0, .ref (ar 0))]) hx hb dX8_listTokens_6 rfl hl (by decide) rfl (fun ls hl => ?_)
  refine lv_iconst (v := 0) hx hb dX8_listTokens_7 (by decide) ?_
  refine lv_istore_n (lv' := [(2, .int 0), (1, .int 0), (0, .ref (ar 0))]) hx hb dX8_listTokens_8 rfl hl (by decide) rfl (fun ls hl => ?_)
  exact K9 N 0 0 rr_1 _ _ _ hG (lv_sub hl [2, 1, 0] rfl) h
