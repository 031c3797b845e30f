/-! TEXTS: read, found, played -/
set_option maxHeartbeats 4000000 in
set_option maxRecDepth 100000 in
theorem w_X8_parse {l : Launch} {E : GE} {ar : Nat → Nat} {N : Nat} {rr res : RS} (h : fX8_parse N rr = some res) {p : Program} {e : Env} {s : State} {m : MethodId} {args : Array Value} {below : List Frame} {meth : Method} {c : Code} {A : Nat → Prop} {ls : Array Slot} {Q : State → Prop} {H : Heap} {locs : List Loc} (C : gC E p m c cX8_parse 2 s args RX8 A) (hz : E.2.2 0 ≤ s.heap.size) (hl : lv_has ls 2 [(0, .ref (ar 0))]) (hG : gG E A s.heap (rR E ar rr ++ []) H locs)
    (hret : ∀ (rr0 : RS) (H : Heap) (locs : List Loc) (ls : Array Slot), some rr0 = some res → gG E A s.heap (rR E ar rr0 ++ []) H locs → lv_has ls 2 [(0, .ref (ar 0))] → W p l e (rmD 9 3 603) s m args below meth c H locs 0 0 Q (F0 m 118 ls [])) : W p l e (rmD 9 3 603) s m args below meth c H locs 0 0 Q (F0 m 0 ls []) := by
  have hx := C.1.1
  have hb := C.1.2.1
  have hts := C.1.2.2.2.2
  have hown := C.1.2.2.2.1
  have K95 : ∀ (k36 : (Int32 → RS → Option (RS))) (hk36 : ∀  (x1 : Int32) (rr : RS) (H : Heap) (locs : List Loc) (ls : Array Slot), gG E A s.heap (rR E ar rr ++ []) H locs → lv_has ls 2 [(0, .ref (ar 0)), (1, .int x1)] → k36 x1 rr = some res → W p l e (rmD 9 3 603) s m args below meth c H locs 0 0 Q (F0 m 36 ls [])), ∀  (x1 : Int32) (rr : RS) (H : Heap) (locs : List Loc) (ls : Array Slot), gG E A s.heap (rR E ar rr ++ []) H locs → lv_has ls 2 [(0, .ref (ar 0)), (1, .int x1)] → fX8_parse_L95 N k36 x1 rr = some res → W p l e (rmD 9 3 603) s m args below meth c H locs 0 0 Q (F0 m 95 ls []) := by
    intro k36 hk36 x1 rr H locs ls hG hl h
    rw [fX8_parse_L95] at h
    refine lv_iinc (v := (x1 + 1)) (lv' := [(1, .int (x1 + 1)), (0, .ref (ar 0))]) hx hb dX8_parse_95 hl (k := 1) rfl (congrArg (x1 + ·) (by decide : Int32.ofInt 1 = 1)) (by decide) rfl (fun ls hl => ?_)
    refine lv_goto (tgt := 36) hx hb dX8_parse_98 (by decide) ?_
    exact hk36 (x1 + 1) rr _ _ _ hG (lv_sub hl [1, 0] rfl) h
  have K91 : ∀ (k36 : (Int32 → RS → Option (RS))) (hk36 : ∀  (x1 : Int32) (rr : RS) (H : Heap) (locs : List Loc) (ls : Array Slot), gG E A s.heap (rR E ar rr ++ []) H locs → lv_has ls 2 [(0, .ref (ar 0)), (1, .int x1)] → k36 x1 rr = some res → W p l e (rmD 9 3 603) s m args below meth c H locs 0 0 Q (F0 m 36 ls [])), ∀  (x1 : Int32) (rr : RS) (H : Heap) (locs : List Loc) (ls : Array Slot), gG E A s.heap (rR E ar rr ++ []) H locs → lv_has ls 2 [(0, .ref (ar 0)), (1, .int x1)] → fX8_parse_L91 N k36 x1 rr = some res → W p l e (rmD 9 3 603) s m args below meth c H locs 0 0 Q (F0 m 91 ls []) := by
    intro k36 hk36 x1 rr H locs ls hG hl h
    rw [fX8_parse_L91] at h
    refine lv_aload_n hx hb dX8_parse_91 rfl (lv_at hl 0 rfl) ?_
    obtain ⟨r1, hcr1, h⟩ := bnd_some h
    refine gF_v (ws' := (rR E ar r1 ++ [])) C hG (pin pnil) (List.Perm.symm (pin pnil)) (gR_V (As := []) (rest := []) C hz hl.1 hG (pin pnil) (c_X8_statement l E ar N rr hcr1 H.size) okX8_statement q696 0 rfl rfl rfl (Nat.le_of_ble_eq_true rfl) (by omega) ⟨Nat.zero_le _, Nat.zero_le _⟩ dX8_parse_92) (fun H locs hG => ?_)
    exact K95 _ hk36 x1 r1 _ _ _ hG (lv_sub hl [0, 1] rfl) h
  have K113 : ∀  (rr : RS) (H : Heap) (locs : List Loc) (ls : Array Slot), gG E A s.heap (rR E ar rr ++ []) H locs → lv_has ls 2 [(0, .ref (ar 0))] → fX8_parse_L113 N rr = some res → W p l e (rmD 9 3 603) s m args below meth c H locs 0 0 Q (F0 m 113 ls []) := by
    intro rr H locs ls hG hl h
    rw [fX8_parse_L113] at h
    refine lv_aload_n hx hb dX8_parse_113 rfl (lv_at hl 0 rfl) ?_
    refine lv_iconst (v := 0) hx hb dX8_parse_114 (by decide) ?_
    obtain ⟨rr_1, err_1, h⟩ := thn_some h
    refine gS_f (v := .int 0) (ws' := (rR E ar rr_1 ++ [])) C hG kX8 0 1 rfl (by decide) q492 rfl rfl rfl rfl (by show 1 < 14; decide) dX8_parse_115 (by rw [err_1]; rfl) (fun H locs hG => ?_)
    exact hret _ _ _ _ h hG (lv_sub hl [0] rfl)
  have K101 : ∀  (rr : RS) (H : Heap) (locs : List Loc) (ls : Array Slot), gG E A s.heap (rR E ar rr ++ []) H locs → lv_has ls 2 [(0, .ref (ar 0))] → fX8_parse_L101 N rr = some res → W p l e (rmD 9 3 603) s m args below meth c H locs 0 0 Q (F0 m 101 ls []) := by
    intro rr H locs ls hG hl h
    rw [fX8_parse_L101] at h
    refine lv_aload_n hx hb dX8_parse_101 rfl (lv_at hl 0 rfl) ?_
    refine gL_f (v := .int (rr 0 10)) C hG kX8 0 10 rfl (by decide) rfl q504 rfl dX8_parse_102 ?_
    refine lv_if_le (tgt := 113) hx hb dX8_parse_105 (by decide) (fun c105 => ?_) (fun c105 => ?_)
    · replace h := it c105 h
      exact K113 rr _ _ _ hG (lv_sub hl [0] rfl) h
    · replace h := ie c105 h
      refine lv_aload_n hx hb dX8_parse_108 rfl (lv_at hl 0 rfl) ?_
      refine lv_iconst (v := 1) hx hb dX8_parse_109 (by decide) ?_
      obtain ⟨r1, hcr1, h⟩ := bnd_some h
      refine gF_v (ws' := (rR E ar r1 ++ [])) C hG (pin pnil) (List.Perm.symm (pin pnil)) (gR_V (As := [.int 1]) (rest := []) C hz hl.1 hG (pin pnil) (c_X8_blame l E ar N 1 rr hcr1 H.size) okX8_blame q700 0 rfl rfl rfl (Nat.le_of_ble_eq_true rfl) (by omega) ⟨Nat.zero_le _, Nat.zero_le _⟩ dX8_parse_110) (fun H locs hG => ?_)
      exact K113 r1 _ _ _ hG (lv_sub hl [0] rfl) h
  have K36 : ∀ (k : Nat), ∀  (x1 : Int32) (rr : RS) (H : Heap) (locs : List Loc) (ls : Array Slot), gG E A s.heap (rR E ar rr ++ []) H locs → lv_has ls 2 [(0, .ref (ar 0)), (1, .int x1)] → fX8_parse_L36 N k x1 rr = some res → W p l e (rmD 9 3 603) s m args below meth c H locs 0 0 Q (F0 m 36 ls []) := by
    intro k
    induction k with
    | zero => intro x1 rr H locs ls hG hl h; exact absurd (show none = _ from h) (by simp)
    | succ k ih =>
      intro x1 rr H locs ls hG hl h
      rw [fX8_parse_L36] at h
      refine lv_iload_n hx hb dX8_parse_36 rfl (lv_at hl 1 rfl) ?_
      refine lv_aload_n hx hb dX8_parse_37 rfl (lv_at hl 0 rfl) ?_
      refine gL_f (v := .int (rr 0 7)) C hG kX8 0 7 rfl (by decide) rfl q501 rfl dX8_parse_38 ?_
      refine lv_icmp_ge (tgt := 101) hx hb dX8_parse_41 (by decide) (fun c41 => ?_) (fun c41 => ?_)
      · replace h := it c41 h
        exact K101 rr _ _ _ hG (lv_sub hl [0] rfl) h
      · replace h := ie c41 h
        refine lv_aload_n hx hb dX8_parse_44 rfl (lv_at hl 0 rfl) ?_
        refine gL_f (v := .int (rr 0 2)) C hG kX8 0 2 rfl (by decide) rfl q494 rfl dX8_parse_45 ?_
        refine lv_if_ne (tgt := 101) hx hb dX8_parse_48 (by decide) (fun c48 => ?_) (fun c48 => ?_)
        · replace h := ie c48 h
          exact K101 rr _ _ _ hG (lv_sub hl [0] rfl) h
        · replace h := it c48 h
          refine lv_aload_n hx hb dX8_parse_51 rfl (lv_at hl 0 rfl) ?_
          refine gL_f (v := .ref (ar 2)) C hG kX8 0 4 rfl (by decide) rfl q498 rfl dX8_parse_52 ?_
          refine lv_aload_n hx hb dX8_parse_55 rfl (lv_at hl 0 rfl) ?_
          refine gL_f (v := .int (rr 0 8)) C hG kX8 0 8 rfl (by decide) rfl q502 rfl dX8_parse_56 ?_
          obtain ⟨b1, h⟩ := ck_some h
          refine gL_i (v := (rr 2 (rr 0 8).toNatClampNeg)) C hG 2 rfl (inb_in b1) rfl dX8_parse_59 ?_
          refine lv_if_eq (tgt := 101) hx hb dX8_parse_60 (by decide) (fun c60 => ?_) (fun c60 => ?_)
          · replace h := it c60 h
            exact K101 rr _ _ _ hG (lv_sub hl [0] rfl) h
          · replace h := ie c60 h
            refine lv_aload_n hx hb dX8_parse_63 rfl (lv_at hl 0 rfl) ?_
            refine gL_f (v := .ref (ar 2)) C hG kX8 0 4 rfl (by decide) rfl q498 rfl dX8_parse_64 ?_
            refine lv_aload_n hx hb dX8_parse_67 rfl (lv_at hl 0 rfl) ?_
            refine gL_f (v := .int (rr 0 8)) C hG kX8 0 8 rfl (by decide) rfl q502 rfl dX8_parse_68 ?_
            refine gL_i (v := (rr 2 (rr 0 8).toNatClampNeg)) C hG 2 rfl (inb_in b1) rfl dX8_parse_71 ?_
            refine lv_bipush (v := 125) hx hb dX8_parse_72 (by decide) ?_
            refine lv_icmp_ne (tgt := 91) hx hb dX8_parse_74 (by decide) (fun c74 => ?_) (fun c74 => ?_)
            · replace h := ie c74 h
              exact K91 _ ih x1 rr _ _ _ hG (lv_sub hl [0, 1] rfl) h
            · replace h := it c74 h
              refine lv_aload_n hx hb dX8_parse_77 rfl (lv_at hl 0 rfl) ?_
              refine gL_f (v := .int (rr 0 10)) C hG kX8 0 10 rfl (by decide) rfl q504 rfl dX8_parse_78 ?_
              refine lv_if_le (tgt := 91) hx hb dX8_parse_81 (by decide) (fun c81 => ?_) (fun c81 => ?_)
              · replace h := it c81 h
                exact K91 _ ih x1 rr _ _ _ hG (lv_sub hl [0, 1] rfl) h
              · replace h := ie c81 h
                refine lv_aload_n hx hb dX8_parse_84 rfl (lv_at hl 0 rfl) ?_
                obtain ⟨r2, hcr2, h⟩ := bnd_some h
                refine gF_v (ws' := (rR E ar r2 ++ [])) C hG (pin pnil) (List.Perm.symm (pin pnil)) (gR_V (As := []) (rest := []) C hz hl.1 hG (pin pnil) (c_X8_close l E ar N rr hcr2 H.size) okX8_close q692 0 rfl rfl rfl (Nat.le_of_ble_eq_true rfl) (by omega) ⟨Nat.zero_le _, Nat.zero_le _⟩ dX8_parse_85) (fun H locs hG => ?_)
                refine lv_goto (tgt := 95) hx hb dX8_parse_88 (by decide) ?_
                exact K95 _ ih x1 r2 _ _ _ hG (lv_sub hl [0, 1] rfl) h
  rw [fX8_parse] at h
  refine lv_aload_n hx hb dX8_parse_0 rfl (lv_at hl 0 rfl) ?_
  obtain ⟨r1, hcr1, h⟩ := bnd_some h
  refine gF_v (ws' := (rR E ar r1 ++ [])) C hG (pin pnil) (List.Perm.symm (pin pnil)) (gR_V (As := []) (rest := []) C hz hl.1 hG (pin pnil) (c_X8_listTokens l E ar N rr hcr1 H.size) okX8_listTokens q593 0 rfl rfl rfl (Nat.le_of_ble_eq_true rfl) (by omega) ⟨Nat.zero_le _, Nat.zero_le _⟩ dX8_parse_1) (fun H locs hG => ?_)
  refine lv_aload_n hx hb dX8_parse_4 rfl (lv_at hl 0 rfl) ?_
  refine lv_iconst (v := 0) hx hb dX8_parse_5 (by decide) ?_
  obtain ⟨rr_2, err_2, h⟩ := thn_some h
  refine gS_f (v := .int 0) (ws' := (rR E ar rr_2 ++ [])) C hG kX8 0 2 rfl (by decide) q494 rfl rfl rfl rfl (by show 2 < 14; decide) dX8_parse_6 (by rw [err_2]; rfl) (fun H locs hG => ?_)
  refine lv_aload_n hx hb dX8_parse_9 rfl (lv_at hl 0 rfl) ?_
  refine lv_iconst (v := (-1)) hx hb dX8_parse_10 (by decide) ?_
  obtain ⟨rr_3, err_3, h⟩ := thn_some h
  refine gS_f (v := .int (-1)) (ws' := (rR E ar rr_3 ++ [])) C hG kX8 0 3 rfl (by decide) q496 rfl rfl rfl rfl (by show 3 < 14; decide) dX8_parse_11 (by rw [err_3]; rfl) (fun H locs hG => ?_)
  refine lv_aload_n hx hb dX8_parse_14 rfl (lv_at hl 0 rfl) ?_
  refine lv_iconst (v := 0) hx hb dX8_parse_15 (by decide) ?_
  obtain ⟨rr_4, err_4, h⟩ := thn_some h
  refine gS_f (v := .int 0) (ws' := (rR E ar rr_4 ++ [])) C hG kX8 0 8 rfl (by decide) q502 rfl rfl rfl rfl (by show 8 < 14; decide) dX8_parse_16 (by rw [err_4]; rfl) (fun H locs hG => ?_)
  refine lv_aload_n hx hb dX8_parse_19 rfl (lv_at hl 0 rfl) ?_
  refine lv_iconst (v := 0) hx hb dX8_parse_20 (by decide) ?_
  obtain ⟨rr_5, err_5, h⟩ := thn_some h
  refine gS_f (v := .int 0) (ws' := (rR E ar rr_5 ++ [])) C hG kX8 0 9 rfl (by decide) q503 rfl rfl rfl rfl (by show 9 < 14; decide) dX8_parse_21 (by rw [err_5]; rfl) (fun H locs hG => ?_)
  refine lv_aload_n hx hb dX8_parse_24 rfl (lv_at hl 0 rfl) ?_
  refine lv_iconst (v := 0) hx hb dX8_parse_25 (by decide) ?_
  obtain ⟨rr_6, err_6, h⟩ := thn_some h
  refine gS_f (v := .int 0) (ws' := (rR E ar rr_6 ++ [])) C hG kX8 0 10 rfl (by decide) q504 rfl rfl rfl rfl (by show 10 < 14; decide) dX8_parse_26 (by rw [err_6]; rfl) (fun H locs hG => ?_)
  refine lv_aload_n hx hb dX8_parse_29 rfl (lv_at hl 0 rfl) ?_
  refine lv_iconst (v := 0) hx hb dX8_parse_30 (by decide) ?_
  obtain ⟨rr_7, err_7, h⟩ := thn_some h
  refine gS_f (v := .int 0) (ws' := (rR E ar rr_7 ++ [])) C hG kX8 0 12 rfl (by decide) q506 rfl rfl rfl rfl (by show 12 < 14; decide) dX8_parse_31 (by rw [err_7]; rfl) (fun H locs hG => ?_)
  refine lv_iconst (v := 0) hx hb dX8_parse_34 (by decide) ?_
  refine lv_istore_n (lv' := [(1, .int 0), (0, .ref (ar 0))]) hx hb dX8_parse_35 rfl hl (by decide) rfl (fun ls hl => ?_)
  exact K36 N 0 rr_7 _ _ _ hG (lv_sub hl [1, 0] rfl) h
set_option maxHeartbeats 4000000 in
set_option maxRecDepth 100000 in
theorem c_X8_parse_no (l : Launch) (E : GE) (ar : Nat → Nat) (N : Nat) (rr : RS) {res : RS} (h : fX8_parse N rr = some res) (h2 : res 0 2 ≠ 0) : gMq l E yX8_parse cX8_parse 2 (.object "WarmExtents$Text") 9 3 603 [.ref (ar 0)] (rR E ar rr ++ []) (fun _ : Unit => none) (fun _ => True) (fun _ => rR E ar res ++ []) := by
  refine gMq_of (own := RX8) (by decide +kernel) rfl (Or.inl ⟨_, rfl⟩) (Nat.le_of_ble_eq_true rfl) ?_
  intro p e s m args below meth c A ls Q H locs C hz hl hG hret
  refine w_X8_parse h C hz hl hG ?_
  intro rr0 H locs ls e0 hG hl
  cases e0
  have hx := C.1.1
  have hb := C.1.2.1
  refine lv_aload_n hx hb dX8_parse_118 rfl (lv_at hl 0 rfl) ?_
  refine gL_f (v := .int (res 0 2)) C hG kX8 0 2 rfl (by decide) rfl q494 rfl dX8_parse_119 ?_
  refine lv_if_ne (tgt := 149) hx hb dX8_parse_122 (by decide) (fun _ => ?_) (fun c122 => absurd c122 h2)
  refine lv_null hx hb dX8_parse_149 ?_
  refine W.widen (k := 3) (n := 603) (by decide) (by decide) ?_
  exact hret () _ _ _ _ trivial hG dX8_parse_150
set_option maxHeartbeats 4000000 in
set_option maxRecDepth 100000 in
theorem c_X8_parse_yes (l : Launch) (E : GE) (ar : Nat → Nat) (N n : Nat) (hn : n ≤ 300) (rr : RS) {res : RS} (h : fX8_parse N rr = some res) (h2 : res 0 2 = 0) (h7 : res 0 7 = nI (n + 1)) : gMq l E yX8_parse cX8_parse 2 (.object "WarmExtents$Text") 9 3 603 [.ref (ar 0)] (rR E ar rr ++ []) (fun at0 : Nat → Nat => some (at0 0)) (fun _ => True) (fun at0 => rT E at0 n (tRS res n) ++ (rR E ar res ++ [])) := by
  refine gMq_of (own := RX8) (by decide +kernel) rfl (Or.inl ⟨_, rfl⟩) (Nat.le_of_ble_eq_true rfl) ?_
  intro p e s m args below meth c A ls Q H locs C hz hl hG hret
  refine w_X8_parse h C hz hl hG ?_
  intro rr0 H locs ls e0 hG hl
  cases e0
  have hx := C.1.1
  have hb := C.1.2.1
  refine lv_aload_n hx hb dX8_parse_118 rfl (lv_at hl 0 rfl) ?_
  refine gL_f (v := .int (res 0 2)) C hG kX8 0 2 rfl (by decide) rfl q494 rfl dX8_parse_119 ?_
  refine lv_if_ne (tgt := 149) hx hb dX8_parse_122 (by decide) (fun c122 => absurd h2 c122) (fun _ => ?_)
  refine g_new (fs := [.int 0, .null, .null]) C hG kX9 q732 q733 q185 (by intro j hj; match j, hj with | 0, _ => rfl | 1, _ => rfl | 2, _ => rfl) (by show 0 + 1 ≤ 3; decide) (by show 0 + 3 ≤ 603; decide) dX8_parse_125 (fun q1 H hG => ?_)
  refine lv_dup hx hb dX8_parse_128 rfl ?_
  refine lv_aload_n hx hb dX8_parse_129 rfl (lv_at hl 0 rfl) ?_
  refine gL_f (v := .ref (ar 2)) C hG kX8 0 4 rfl (by decide) rfl q498 rfl dX8_parse_130 ?_
  refine lv_aload_n hx hb dX8_parse_133 rfl (lv_at hl 0 rfl) ?_
  refine gL_f (v := .ref (ar 3)) C hG kX8 0 5 rfl (by decide) rfl q499 rfl dX8_parse_134 ?_
  refine lv_aload_n hx hb dX8_parse_137 rfl (lv_at hl 0 rfl) ?_
  refine gL_f (v := .int (res 0 7)) C hG kX8 0 7 rfl (by decide) rfl q501 rfl dX8_parse_138 ?_
  refine lv_iconst (v := 1) hx hb dX8_parse_141 (by decide) ?_
  refine lv_isub hx hb dX8_parse_142 ?_
  refine g_int (v := nI n) (by rw [h7, s1 (by omega)]; rfl) ?_
  refine gR_IU (n := 3) (As := [.ref (ar 2), .ref (ar 3), .int (nI n)]) (rest := [.ref q1]) (wc := (q1, .inr (9, [.int 0, .null, .null])) :: (rR E ar res ++ [])) (wr := []) C hz hl.1 hG (by rw [List.append_nil (_ :: _)]; exact List.perm_append_comm) (c_X9_init l E ar res q1 n hn) rfl q735 q736 q185 ⟨by decide +kernel, by decide +kernel, by decide +kernel⟩ (by decide) q734 rfl (Nat.le_of_ble_eq_true rfl) (by omega) ⟨by show 0 + 1 + 2 ≤ 3; decide, by show 0 + 3 + 2 * n ≤ 603; omega⟩ dX8_parse_143 (fun at0 H locs ha0 hGn => ?_)
  subst ha0
  refine lv_goto (tgt := 150) hx hb dX8_parse_146 (by decide) ?_
  refine W.widen (k := 3) (n := 603) (by show 0 + 1 + 2 ≤ 3; decide) (by show 0 + 3 + 2 * n ≤ 603; omega) ?_
  exact hret at0 _ _ _ _ trivial (gG_nil hGn) dX8_parse_150
/-! a text played -/
def yeP (v0 v1 v2 : Value) : Nat → Value := fun i => match i with
  | 0 => v0
  | 1 => v1
  | _ => v2
set_option maxHeartbeats 4000000 in
set_option maxRecDepth 100000 in
theorem c_X7_play (l : Launch) (E : GE) (ay aw ap atx : Nat → Nat) (ye : Nat → Value) (N tn : Nat) (yy ww pp tt : RS) {res : Int32 × RS × RS × RS} (h : fX7_play N tn yy ww pp tt = some res) : gMi l E yX7_play cX7_play 5 .int 18 0 0 [.ref (ay 0), .ref (atx 0), .ref (aw 0), .ref (ap 0)] (rY E ay ye yy ++ (rW E aw ww ++ (rP E ap pp ++ (rT E atx tn tt ++ [])))) (rY E ay (yeP (.ref (atx 0)) (.ref (aw 0)) (.ref (ap 0))) res.2.1 ++ (rW E aw res.2.2.1 ++ (rP E ap res.2.2.2 ++ (rT E atx tn tt ++ [])))) res.1 := by
  refine gMi_of (own := RX7) (by decide +kernel) rfl (Nat.le_of_ble_eq_true rfl) ?_
  intro p e s m args below meth c A ls Q H locs C hz hl hG hret
  have hx := C.1.1
  have hb := C.1.2.1
  have hts := C.1.2.2.2.2
  have hown := C.1.2.2.2.1
  have hl : lv_has ls 5 [(0, .ref (ay 0)), (1, .ref (atx 0)), (2, .ref (aw 0)), (3, .ref (ap 0))] := hl
  replace hret : ∀ (r0 : Int32) (yy0 : RS) (ww0 : RS) (pp0 : RS) (H : Heap) (locs : List Loc) (pc : Nat) (ls' : Array Slot), some (r0, yy0, ww0, pp0) = some res → narrow .int (.int r0) = .int r0 → gG E A s.heap (rY E ay (yeP (.ref (atx 0)) (.ref (aw 0)) (.ref (ap 0))) yy0 ++ (rW E aw ww0 ++ (rP E ap pp0 ++ (rT E atx tn tt ++ [])))) H locs → decode cX7_play pc = .ok (.ireturn, 1) → W p l e (rmD 18 0 0) s m args below meth c H locs 0 0 Q (F0 m pc ls' [.int r0]) := by
    intro r0 yy0 ww0 pp0 H locs pc ls' e0 hn; cases e0; exact hret H locs pc ls' hn
  have K33 : ∀ (k : Nat) (x4 : Int32) (yy ww pp : RS) (H : Heap) (locs : List Loc) (ls : Array Slot), gG E A s.heap (rY E ay (yeP (.ref (atx 0)) (.ref (aw 0)) (.ref (ap 0))) yy ++ (rW E aw ww ++ (rP E ap pp ++ (rT E atx tn tt ++ [])))) H locs → lv_has ls 5 [(0, .ref (ay 0)), (4, .int x4)] → fX7_play_L33 N tn tt k x4 yy ww pp = some res → W p l e (rmD 18 0 0) s m args below meth c H locs 0 0 Q (F0 m 33 ls []) := by
    intro k
    induction k with
    | zero => intro x4 yy ww pp H locs ls hG hl h; exact absurd (show none = _ from h) (by simp)
    | succ k ih =>
      intro x4 yy ww pp H locs ls hG hl h
      have hend : some ((yy 0 4), yy, ww, pp) = some res → W p l e (rmD 18 0 0) s m args below meth c H locs 0 0 Q (F0 m 74 ls []) := fun h => by
        refine lv_aload_n hx hb dX7_play_74 rfl (lv_at hl 0 rfl) ?_
        refine gL_f (v := .int (yy 0 4)) C hG kX7 0 4 rfl (by decide) rfl q464 rfl dX7_play_75 ?_
        exact hret _ _ _ _ _ _ _ _ h rfl hG dX7_play_78
      rw [fX7_play_L33] at h
      refine lv_iload hx hb dX7_play_33 (lv_at hl 1 rfl) ?_
      refine lv_ldc (v := 1000000) hx hb hown (hts _ q1042) dX7_play_35 ?_
      refine lv_icmp_ge (tgt := 74) hx hb dX7_play_37 (by decide) (fun c37 => ?_) (fun c37 => ?_)
      · exact hend (it c37 h)
      · replace h := ie c37 h
        refine lv_aload_n hx hb dX7_play_40 rfl (lv_at hl 0 rfl) ?_
        refine gL_f (v := .int (yy 0 4)) C hG kX7 0 4 rfl (by decide) rfl q464 rfl dX7_play_41 ?_
        refine lv_sipush (v := 300) hx hb dX7_play_44 (by decide) ?_
        refine lv_icmp_ge (tgt := 74) hx hb dX7_play_47 (by decide) (fun c47 => ?_) (fun c47 => ?_)
        · exact hend (it c47 h)
        · replace h := ie c47 h
          refine lv_aload_n hx hb dX7_play_50 rfl (lv_at hl 0 rfl) ?_
          refine gL_f (v := .int (yy 0 3)) C hG kX7 0 3 rfl (by decide) rfl q463 rfl dX7_play_51 ?_
          refine lv_aload_n hx hb dX7_play_54 rfl (lv_at hl 0 rfl) ?_
          refine gL_f (v := .ref (atx 0)) C hG kX7 0 0 rfl (by decide) rfl q460 rfl dX7_play_55 ?_
          refine gL_fN (v := .int (tt 0 0)) C hG kX9 42 0 rfl (by decide) rfl q742 rfl dX7_play_58 ?_
          refine lv_icmp_ge (tgt := 74) hx hb dX7_play_61 (by decide) (fun c61 => ?_) (fun c61 => ?_)
          · exact hend (it c61 h)
          · replace h := ie c61 h
            refine lv_aload_n hx hb dX7_play_64 rfl (lv_at hl 0 rfl) ?_
            obtain ⟨r1, hcr1, h⟩ := bnd_some h
            refine gF_v (ws' := (rY E ay (yeP (.ref (atx 0)) (.ref (aw 0)) (.ref (ap 0))) r1.1 ++ (rW E aw r1.2.1 ++ (rP E ap r1.2.2 ++ (rT E atx tn tt ++ []))))) C hG (pin (pin (pin (pin pnil)))) (List.Perm.symm (pin (pin (pin (pin pnil))))) (gR_V (As := []) (rest := []) C hz hl.1 hG (pin (pin (pin (pin pnil)))) (c_X7_statement l E ay aw ap atx (yeP (.ref (atx 0)) (.ref (aw 0)) (.ref (ap 0))) ⟨rfl, rfl, rfl⟩ N tn yy ww pp tt hcr1 H.size) okX7_statement q1043 0 rfl rfl rfl (Nat.le_of_ble_eq_true rfl) (by omega) ⟨Nat.le_refl _, Nat.le_refl _⟩ dX7_play_65) (fun H locs hG => ?_)
            refine lv_iinc (v := (x4 + 1)) (lv' := [(4, .int (x4 + 1)), (0, .ref (ay 0))]) hx hb dX7_play_68 hl (k := 1) rfl (congrArg (x4 + ·) (by decide : Int32.ofInt 1 = 1)) (by decide) rfl (fun ls hl => ?_)
            refine lv_goto (tgt := 33) hx hb dX7_play_71 (by decide) ?_
            exact ih (x4 + 1) r1.1 r1.2.1 r1.2.2 _ _ _ hG (lv_sub hl [1, 0] rfl) h
  rw [fX7_play] at h
  refine lv_aload_n hx hb dX7_play_0 rfl (lv_at hl 0 rfl) ?_
  refine lv_aload_n hx hb dX7_play_1 rfl (lv_at hl 1 rfl) ?_
  refine gS_f (v := .ref (atx 0)) (ws' := (rY E ay (yeP (.ref (atx 0)) (ye 1) (ye 2)) yy ++ (rW E aw ww ++ (rP E ap pp ++ (rT E atx tn tt ++ []))))) C hG kX7 0 0 rfl (by decide) q460 rfl rfl rfl rfl (by show 0 < 8; decide) dX7_play_2 rfl (fun H locs hG => ?_)
  refine lv_aload_n hx hb dX7_play_5 rfl (lv_at hl 0 rfl) ?_
  refine lv_aload_n hx hb dX7_play_6 rfl (lv_at hl 2 rfl) ?_
  refine gS_f (v := .ref (aw 0)) (ws' := (rY E ay (yeP (.ref (atx 0)) (.ref (aw 0)) (ye 2)) yy ++ (rW E aw ww ++ (rP E ap pp ++ (rT E atx tn tt ++ []))))) C hG kX7 0 1 rfl (by decide) q461 rfl rfl rfl rfl (by show 1 < 8; decide) dX7_play_7 rfl (fun H locs hG => ?_)
  refine lv_aload_n hx hb dX7_play_10 rfl (lv_at hl 0 rfl) ?_
  refine lv_aload_n hx hb dX7_play_11 rfl (lv_at hl 3 rfl) ?_
  refine gS_f (v := .ref (ap 0)) (ws' := (rY E ay (yeP (.ref (atx 0)) (.ref (aw 0)) (.ref (ap 0))) yy ++ (rW E aw ww ++ (rP E ap pp ++ (rT E atx tn tt ++ []))))) C hG kX7 0 2 rfl (by decide) q462 rfl rfl rfl rfl (by show 2 < 8; decide) dX7_play_12 rfl (fun H locs hG => ?_)
  refine lv_aload_n hx hb dX7_play_15 rfl (lv_at hl 0 rfl) ?_
  refine lv_iconst (v := 0) hx hb dX7_play_16 (by decide) ?_
  obtain ⟨yy_1, eyy_1, h⟩ := thn_some h
  refine gS_f (v := .int 0) (ws' := (rY E ay (yeP (.ref (atx 0)) (.ref (aw 0)) (.ref (ap 0))) yy_1 ++ (rW E aw ww ++ (rP E ap pp ++ (rT E atx tn tt ++ []))))) C hG kX7 0 3 rfl (by decide) q463 rfl rfl rfl rfl (by show 3 < 8; decide) dX7_play_17 (by rw [eyy_1]; rfl) (fun H locs hG => ?_)
  refine lv_aload_n hx hb dX7_play_20 rfl (lv_at hl 0 rfl) ?_
  refine lv_iconst (v := 0) hx hb dX7_play_21 (by decide) ?_
  obtain ⟨yy_2, eyy_2, h⟩ := thn_some h
  refine gS_f (v := .int 0) (ws' := (rY E ay (yeP (.ref (atx 0)) (.ref (aw 0)) (.ref (ap 0))) yy_2 ++ (rW E aw ww ++ (rP E ap pp ++ (rT E atx tn tt ++ []))))) C hG kX7 0 4 rfl (by decide) q464 rfl rfl rfl rfl (by show 4 < 8; decide) dX7_play_22 (by rw [eyy_2]; rfl) (fun H locs hG => ?_)
  refine lv_aload_n hx hb dX7_play_25 rfl (lv_at hl 0 rfl) ?_
  refine lv_iconst (v := 0) hx hb dX7_play_26 (by decide) ?_
  obtain ⟨yy_3, eyy_3, h⟩ := thn_some h
  refine gS_f (v := .int 0) (ws' := (rY E ay (yeP (.ref (atx 0)) (.ref (aw 0)) (.ref (ap 0))) yy_3 ++ (rW E aw ww ++ (rP E ap pp ++ (rT E atx tn tt ++ []))))) C hG kX7 0 5 rfl (by decide) q465 rfl rfl rfl rfl (by show 5 < 8; decide) dX7_play_27 (by rw [eyy_3]; rfl) (fun H locs hG => ?_)
  refine lv_iconst (v := 0) hx hb dX7_play_30 (by decide) ?_
  refine lv_istore (lv' := [(4, .int 0), (0, .ref (ay 0)), (1, .ref (atx 0)), (2, .ref (aw 0)), (3, .ref (ap 0))]) hx hb dX7_play_31 hl (by decide) rfl (fun ls hl => ?_)
  exact K33 N 0 yy_3 ww pp _ _ _ hG (lv_sub hl [1, 0] rfl) h
/-! the class's texts -/
theorem okX8_parse : gYV yX8_parse cX8_parse 2 (some (.object "WarmExtents$Text")) 0 := ⟨q591, q1, q592, q178, ⟨by decide +kernel, by decide +kernel, by decide +kernel⟩, by decide⟩
theorem okX11_textAt : gYV yX11_textAt cX11_textAt 2 (some (.object "WarmExtents$Text")) 1 := ⟨q1036, q64, q1037, q168, ⟨by decide +kernel, by decide +kernel, by decide +kernel⟩, by decide⟩
/-- which text's cell it answers -/
def fX11_textAt (x1 : Int32) (tf : Nat → Option Nat) (xx : RS) : Option (Option Nat) := if x1 < 0 then some none else if (xx 0 7) ≤ x1 then some none else ck (inb x1 4) <| some (tf x1.toNatClampNeg)
set_option maxHeartbeats 4000000 in
set_option maxRecDepth 100000 in
theorem c_X11_textAt (l : Launch) (E : GE) (ax an asx ay ap ar ai : Nat → Nat) (ah aj : Nat → Nat → Nat) (tf : Nat → Option Nat) (x1 : Int32) (xx : RS) {res : Option Nat} (h : fX11_textAt x1 tf xx = some res) : gMq l E yX11_textAt cX11_textAt 2 (.object "WarmExtents$Text") 1 0 0 [.ref (ax 0), .int x1] (rX E ax an asx ay ap ar ai ah aj tf xx ++ []) (fun _ : Unit => res) (fun _ => True) (fun _ => rX E ax an asx ay ap ar ai ah aj tf xx ++ []) := by
  refine gMq_of (own := RX11) (by decide +kernel) rfl (Or.inl ⟨_, rfl⟩) (Nat.le_of_ble_eq_true rfl) ?_
  intro p e s m args below meth c A ls Q H locs C hz hl hG hret
  have hx := C.1.1
  have hb := C.1.2.1
  have hts := C.1.2.2.2.2
  have hown := C.1.2.2.2.1
  have hl : lv_has ls 2 [(0, .ref (ax 0)), (1, .int x1)] := hl
  have hno : some none = some res → W p l e (rmD 1 0 0) s m args below meth c H locs 0 0 Q (F0 m 21 ls []) := fun h => by
    cases h
    refine lv_null hx hb dX11_textAt_21 ?_
    exact hret () _ _ _ _ trivial hG dX11_textAt_22
  rw [fX11_textAt] at h
  refine lv_iload_n hx hb dX11_textAt_0 rfl (lv_at hl 1 rfl) ?_
  refine lv_if_lt (tgt := 21) hx hb dX11_textAt_1 (by decide) (fun c1 => ?_) (fun c1 => ?_)
  · exact hno (it c1 h)
  · replace h := ie c1 h
    refine lv_iload_n hx hb dX11_textAt_4 rfl (lv_at hl 1 rfl) ?_
    refine lv_aload_n hx hb dX11_textAt_5 rfl (lv_at hl 0 rfl) ?_
    refine gL_f (v := .int (xx 0 7)) C hG kX11 0 7 rfl (by decide) rfl q546 rfl dX11_textAt_6 ?_
    refine lv_icmp_ge (tgt := 21) hx hb dX11_textAt_9 (by decide) (fun c9 => ?_) (fun c9 => ?_)
    · exact hno (it c9 h)
    · replace h := ie c9 h
      refine lv_aload_n hx hb dX11_textAt_12 rfl (lv_at hl 0 rfl) ?_
      refine gL_f (v := .ref (ax 1)) C hG kX11 0 6 rfl (by decide) rfl q545 rfl dX11_textAt_13 ?_
      refine lv_iload_n hx hb dX11_textAt_16 rfl (lv_at hl 1 rfl) ?_
      obtain ⟨b1, h⟩ := ck_some h
      refine va_aldq hx hb C.2.1 hG.1 1 2 rfl rfl (inb_in b1) dX11_textAt_17 ?_
      refine lv_goto (tgt := 22) hx hb dX11_textAt_18 (by decide) ?_
      cases h
      exact hret () _ _ _ _ trivial hG dX11_textAt_22
