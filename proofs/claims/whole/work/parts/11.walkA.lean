set_option maxHeartbeats 4000000 in
set_option maxRecDepth 100000 in
theorem c_X2_copyFrom (l : Launch) (E : GE) (aw : Nat → Nat) (av : Nat → Nat) (ww : RS) (vv : RS) {res : RS} (h : fX2_copyFrom ww vv = res) : gMv l E yX2_copyFrom cX2_copyFrom 2 1 0 0 [.ref (aw 2), .ref (av 2)] (rW E aw ww ++ (rW E av vv ++ [])) (rW E aw res ++ (rW E av vv ++ [])) := by
  refine gMv_of (own := RX2) (by decide +kernel) rfl (Nat.le_of_ble_eq_true rfl) ?_
  intro p e s m args below meth c A ls Q H locs C hz hl hG hin hret
  have hx := C.1.1
  have hb := C.1.2.1
  have hts := C.1.2.2.2.2
  have hown := C.1.2.2.2.1
  have hl : lv_has ls 2 [(0, .ref (aw 2)), (1, .ref (av 2))] := hl
  replace hret : ∀ (ww0 : RS) (H : Heap) (locs : List Loc) (pc : Nat) (ls' : Array Slot), ww0 = res → gG E A s.heap (rW E aw ww0 ++ (rW E av vv ++ [])) H locs → decode cX2_copyFrom pc = .ok (.return_, 1) → W p l e (rmD 1 0 0) s m args below meth c H locs 0 0 Q (F0 m pc ls' []) := by
    intro ww0 H locs pc ls' e0; cases e0; exact hret H locs pc ls'
  rw [fX2_copyFrom] at h
  refine lv_aload_n hx hb dX2_copyFrom_0 rfl (lv_at hl 1 rfl) ?_
  refine gL_f (v := .ref (av 3)) C hG kX2 32 0 rfl (by decide) rfl q210 rfl dX2_copyFrom_1 ?_
  refine lv_iconst (v := 0) hx hb dX2_copyFrom_4 (by decide) ?_
  refine lv_aload_n hx hb dX2_copyFrom_5 rfl (lv_at hl 0 rfl) ?_
  refine gL_f (v := .ref (aw 3)) C hG kX2 2 0 rfl (by decide) rfl q210 rfl dX2_copyFrom_6 ?_
  refine lv_iconst (v := 0) hx hb dX2_copyFrom_9 (by decide) ?_
  refine lv_bipush (v := 10) hx hb dX2_copyFrom_10 (by decide) ?_
  obtain ⟨ww_1, eww_1, h⟩ := thn_some h
  have hset : ∀ f9 : Nat → Int32, List.set (rW E aw ww ++ (rW E av vv ++ [])) 3 (aw 3, .inl (E.2.1 0, 10, .inl f9)) = (rW E aw (sr ww 3 f9) ++ (rW E av vv ++ [])) := fun _ => rfl
  refine gS_cpy (n0 := 10) (n1 := 10) (js := 0) (jd := 0) (jn := 10) (ws' := (rW E aw ww_1 ++ (rW E av vv ++ []))) C hl.1 hG 33 3 rfl rfl (by decide) (nI_clamp (n := 0) (by decide)) (nI_clamp (n := 0) (by decide)) (nI_clamp (n := 10) (by decide)) q782 q740 q739 q186 (Nat.le_of_ble_eq_true rfl) (Nat.le_of_ble_eq_true rfl) dX2_copyFrom_12 (by rw [eww_1]; exact hset _) (fun H locs hG => ?_)
  refine lv_aload_n hx hb dX2_copyFrom_15 rfl (lv_at hl 1 rfl) ?_
  refine gL_f (v := .ref (av 4)) C hG kX2 32 1 rfl (by decide) rfl q214 rfl dX2_copyFrom_16 ?_
  refine lv_iconst (v := 0) hx hb dX2_copyFrom_19 (by decide) ?_
  refine lv_aload_n hx hb dX2_copyFrom_20 rfl (lv_at hl 0 rfl) ?_
  refine gL_f (v := .ref (aw 4)) C hG kX2 2 1 rfl (by decide) rfl q214 rfl dX2_copyFrom_21 ?_
  refine lv_iconst (v := 0) hx hb dX2_copyFrom_24 (by decide) ?_
  refine lv_bipush (v := 10) hx hb dX2_copyFrom_25 (by decide) ?_
  obtain ⟨ww_2, eww_2, h⟩ := thn_some h
  have hset : ∀ f9 : Nat → Int32, List.set (rW E aw ww_1 ++ (rW E av vv ++ [])) 4 (aw 4, .inl (E.2.1 0, 10, .inl f9)) = (rW E aw (sr ww_1 4 f9) ++ (rW E av vv ++ [])) := fun _ => rfl
  refine gS_cpy (n0 := 10) (n1 := 10) (js := 0) (jd := 0) (jn := 10) (ws' := (rW E aw ww_2 ++ (rW E av vv ++ []))) C hl.1 hG 34 4 rfl rfl (by decide) (nI_clamp (n := 0) (by decide)) (nI_clamp (n := 0) (by decide)) (nI_clamp (n := 10) (by decide)) q782 q740 q739 q186 (Nat.le_of_ble_eq_true rfl) (Nat.le_of_ble_eq_true rfl) dX2_copyFrom_27 (by rw [eww_2]; exact hset _) (fun H locs hG => ?_)
  refine lv_aload_n hx hb dX2_copyFrom_30 rfl (lv_at hl 1 rfl) ?_
  refine gL_f (v := .ref (av 5)) C hG kX2 32 2 rfl (by decide) rfl q217 rfl dX2_copyFrom_31 ?_
  refine lv_iconst (v := 0) hx hb dX2_copyFrom_34 (by decide) ?_
  refine lv_aload_n hx hb dX2_copyFrom_35 rfl (lv_at hl 0 rfl) ?_
  refine gL_f (v := .ref (aw 5)) C hG kX2 2 2 rfl (by decide) rfl q217 rfl dX2_copyFrom_36 ?_
  refine lv_iconst (v := 0) hx hb dX2_copyFrom_39 (by decide) ?_
  refine lv_bipush (v := 10) hx hb dX2_copyFrom_40 (by decide) ?_
  obtain ⟨ww_3, eww_3, h⟩ := thn_some h
  have hset : ∀ f9 : Nat → Int32, List.set (rW E aw ww_2 ++ (rW E av vv ++ [])) 5 (aw 5, .inl (E.2.1 0, 10, .inl f9)) = (rW E aw (sr ww_2 5 f9) ++ (rW E av vv ++ [])) := fun _ => rfl
  refine gS_cpy (n0 := 10) (n1 := 10) (js := 0) (jd := 0) (jn := 10) (ws' := (rW E aw ww_3 ++ (rW E av vv ++ []))) C hl.1 hG 35 5 rfl rfl (by decide) (nI_clamp (n := 0) (by decide)) (nI_clamp (n := 0) (by decide)) (nI_clamp (n := 10) (by decide)) q782 q740 q739 q186 (Nat.le_of_ble_eq_true rfl) (Nat.le_of_ble_eq_true rfl) dX2_copyFrom_42 (by rw [eww_3]; exact hset _) (fun H locs hG => ?_)
  refine lv_aload_n hx hb dX2_copyFrom_45 rfl (lv_at hl 1 rfl) ?_
  refine gL_f (v := .ref (av 6)) C hG kX2 32 3 rfl (by decide) rfl q220 rfl dX2_copyFrom_46 ?_
  refine lv_iconst (v := 0) hx hb dX2_copyFrom_49 (by decide) ?_
  refine lv_aload_n hx hb dX2_copyFrom_50 rfl (lv_at hl 0 rfl) ?_
  refine gL_f (v := .ref (aw 6)) C hG kX2 2 3 rfl (by decide) rfl q220 rfl dX2_copyFrom_51 ?_
  refine lv_iconst (v := 0) hx hb dX2_copyFrom_54 (by decide) ?_
  refine lv_bipush (v := 10) hx hb dX2_copyFrom_55 (by decide) ?_
  obtain ⟨ww_4, eww_4, h⟩ := thn_some h
  have hset : ∀ f9 : Nat → Int32, List.set (rW E aw ww_3 ++ (rW E av vv ++ [])) 6 (aw 6, .inl (E.2.1 0, 10, .inl f9)) = (rW E aw (sr ww_3 6 f9) ++ (rW E av vv ++ [])) := fun _ => rfl
  refine gS_cpy (n0 := 10) (n1 := 10) (js := 0) (jd := 0) (jn := 10) (ws' := (rW E aw ww_4 ++ (rW E av vv ++ []))) C hl.1 hG 36 6 rfl rfl (by decide) (nI_clamp (n := 0) (by decide)) (nI_clamp (n := 0) (by decide)) (nI_clamp (n := 10) (by decide)) q782 q740 q739 q186 (Nat.le_of_ble_eq_true rfl) (Nat.le_of_ble_eq_true rfl) dX2_copyFrom_57 (by rw [eww_4]; exact hset _) (fun H locs hG => ?_)
  refine lv_aload_n hx hb dX2_copyFrom_60 rfl (lv_at hl 1 rfl) ?_
  refine gL_f (v := .ref (av 7)) C hG kX2 32 4 rfl (by decide) rfl q223 rfl dX2_copyFrom_61 ?_
  refine lv_iconst (v := 0) hx hb dX2_copyFrom_64 (by decide) ?_
  refine lv_aload_n hx hb dX2_copyFrom_65 rfl (lv_at hl 0 rfl) ?_
  refine gL_f (v := .ref (aw 7)) C hG kX2 2 4 rfl (by decide) rfl q223 rfl dX2_copyFrom_66 ?_
  refine lv_iconst (v := 0) hx hb dX2_copyFrom_69 (by decide) ?_
  refine lv_bipush (v := 10) hx hb dX2_copyFrom_70 (by decide) ?_
  obtain ⟨ww_5, eww_5, h⟩ := thn_some h
  have hset : ∀ f9 : Nat → Int32, List.set (rW E aw ww_4 ++ (rW E av vv ++ [])) 7 (aw 7, .inl (E.2.1 0, 10, .inl f9)) = (rW E aw (sr ww_4 7 f9) ++ (rW E av vv ++ [])) := fun _ => rfl
  refine gS_cpy (n0 := 10) (n1 := 10) (js := 0) (jd := 0) (jn := 10) (ws' := (rW E aw ww_5 ++ (rW E av vv ++ []))) C hl.1 hG 37 7 rfl rfl (by decide) (nI_clamp (n := 0) (by decide)) (nI_clamp (n := 0) (by decide)) (nI_clamp (n := 10) (by decide)) q782 q740 q739 q186 (Nat.le_of_ble_eq_true rfl) (Nat.le_of_ble_eq_true rfl) dX2_copyFrom_72 (by rw [eww_5]; exact hset _) (fun H locs hG => ?_)
  refine lv_aload_n hx hb dX2_copyFrom_75 rfl (lv_at hl 1 rfl) ?_
  refine gL_f (v := .ref (av 8)) C hG kX2 32 5 rfl (by decide) rfl q225 rfl dX2_copyFrom_76 ?_
  refine lv_iconst (v := 0) hx hb dX2_copyFrom_79 (by decide) ?_
  refine lv_aload_n hx hb dX2_copyFrom_80 rfl (lv_at hl 0 rfl) ?_
  refine gL_f (v := .ref (aw 8)) C hG kX2 2 5 rfl (by decide) rfl q225 rfl dX2_copyFrom_81 ?_
  refine lv_iconst (v := 0) hx hb dX2_copyFrom_84 (by decide) ?_
  refine lv_bipush (v := 10) hx hb dX2_copyFrom_85 (by decide) ?_
  obtain ⟨ww_6, eww_6, h⟩ := thn_some h
  have hset : ∀ f9 : Nat → Int32, List.set (rW E aw ww_5 ++ (rW E av vv ++ [])) 8 (aw 8, .inl (E.2.1 0, 10, .inl f9)) = (rW E aw (sr ww_5 8 f9) ++ (rW E av vv ++ [])) := fun _ => rfl
  refine gS_cpy (n0 := 10) (n1 := 10) (js := 0) (jd := 0) (jn := 10) (ws' := (rW E aw ww_6 ++ (rW E av vv ++ []))) C hl.1 hG 38 8 rfl rfl (by decide) (nI_clamp (n := 0) (by decide)) (nI_clamp (n := 0) (by decide)) (nI_clamp (n := 10) (by decide)) q782 q740 q739 q186 (Nat.le_of_ble_eq_true rfl) (Nat.le_of_ble_eq_true rfl) dX2_copyFrom_87 (by rw [eww_6]; exact hset _) (fun H locs hG => ?_)
  refine lv_aload_n hx hb dX2_copyFrom_90 rfl (lv_at hl 1 rfl) ?_
  refine gL_f (v := .ref (av 9)) C hG kX2 32 6 rfl (by decide) rfl q228 rfl dX2_copyFrom_91 ?_
  refine lv_iconst (v := 0) hx hb dX2_copyFrom_94 (by decide) ?_
  refine lv_aload_n hx hb dX2_copyFrom_95 rfl (lv_at hl 0 rfl) ?_
  refine gL_f (v := .ref (aw 9)) C hG kX2 2 6 rfl (by decide) rfl q228 rfl dX2_copyFrom_96 ?_
  refine lv_iconst (v := 0) hx hb dX2_copyFrom_99 (by decide) ?_
  refine lv_bipush (v := 10) hx hb dX2_copyFrom_100 (by decide) ?_
  obtain ⟨ww_7, eww_7, h⟩ := thn_some h
  have hset : ∀ f9 : Nat → Int32, List.set (rW E aw ww_6 ++ (rW E av vv ++ [])) 9 (aw 9, .inl (E.2.1 0, 10, .inl f9)) = (rW E aw (sr ww_6 9 f9) ++ (rW E av vv ++ [])) := fun _ => rfl
  refine gS_cpy (n0 := 10) (n1 := 10) (js := 0) (jd := 0) (jn := 10) (ws' := (rW E aw ww_7 ++ (rW E av vv ++ []))) C hl.1 hG 39 9 rfl rfl (by decide) (nI_clamp (n := 0) (by decide)) (nI_clamp (n := 0) (by decide)) (nI_clamp (n := 10) (by decide)) q782 q740 q739 q186 (Nat.le_of_ble_eq_true rfl) (Nat.le_of_ble_eq_true rfl) dX2_copyFrom_102 (by rw [eww_7]; exact hset _) (fun H locs hG => ?_)
  refine lv_aload_n hx hb dX2_copyFrom_105 rfl (lv_at hl 1 rfl) ?_
  refine gL_f (v := .ref (av 10)) C hG kX2 32 7 rfl (by decide) rfl q231 rfl dX2_copyFrom_106 ?_
  refine lv_iconst (v := 0) hx hb dX2_copyFrom_109 (by decide) ?_
  refine lv_aload_n hx hb dX2_copyFrom_110 rfl (lv_at hl 0 rfl) ?_
  refine gL_f (v := .ref (aw 10)) C hG kX2 2 7 rfl (by decide) rfl q231 rfl dX2_copyFrom_111 ?_
  refine lv_iconst (v := 0) hx hb dX2_copyFrom_114 (by decide) ?_
  refine lv_bipush (v := 10) hx hb dX2_copyFrom_115 (by decide) ?_
  obtain ⟨ww_8, eww_8, h⟩ := thn_some h
  have hset : ∀ f9 : Nat → Int32, List.set (rW E aw ww_7 ++ (rW E av vv ++ [])) 10 (aw 10, .inl (E.2.1 0, 10, .inl f9)) = (rW E aw (sr ww_7 10 f9) ++ (rW E av vv ++ [])) := fun _ => rfl
  refine gS_cpy (n0 := 10) (n1 := 10) (js := 0) (jd := 0) (jn := 10) (ws' := (rW E aw ww_8 ++ (rW E av vv ++ []))) C hl.1 hG 40 10 rfl rfl (by decide) (nI_clamp (n := 0) (by decide)) (nI_clamp (n := 0) (by decide)) (nI_clamp (n := 10) (by decide)) q782 q740 q739 q186 (Nat.le_of_ble_eq_true rfl) (Nat.le_of_ble_eq_true rfl) dX2_copyFrom_117 (by rw [eww_8]; exact hset _) (fun H locs hG => ?_)
  refine lv_aload_n hx hb dX2_copyFrom_120 rfl (lv_at hl 1 rfl) ?_
  refine gL_f (v := .ref (av 11)) C hG kX2 32 8 rfl (by decide) rfl q233 rfl dX2_copyFrom_121 ?_
  refine lv_iconst (v := 0) hx hb dX2_copyFrom_124 (by decide) ?_
  refine lv_aload_n hx hb dX2_copyFrom_125 rfl (lv_at hl 0 rfl) ?_
  refine gL_f (v := .ref (aw 11)) C hG kX2 2 8 rfl (by decide) rfl q233 rfl dX2_copyFrom_126 ?_
  refine lv_iconst (v := 0) hx hb dX2_copyFrom_129 (by decide) ?_
  refine lv_bipush (v := 10) hx hb dX2_copyFrom_130 (by decide) ?_
  obtain ⟨ww_9, eww_9, h⟩ := thn_some h
  have hset : ∀ f9 : Nat → Int32, List.set (rW E aw ww_8 ++ (rW E av vv ++ [])) 11 (aw 11, .inl (E.2.1 0, 10, .inl f9)) = (rW E aw (sr ww_8 11 f9) ++ (rW E av vv ++ [])) := fun _ => rfl
  refine gS_cpy (n0 := 10) (n1 := 10) (js := 0) (jd := 0) (jn := 10) (ws' := (rW E aw ww_9 ++ (rW E av vv ++ []))) C hl.1 hG 41 11 rfl rfl (by decide) (nI_clamp (n := 0) (by decide)) (nI_clamp (n := 0) (by decide)) (nI_clamp (n := 10) (by decide)) q782 q740 q739 q186 (Nat.le_of_ble_eq_true rfl) (Nat.le_of_ble_eq_true rfl) dX2_copyFrom_132 (by rw [eww_9]; exact hset _) (fun H locs hG => ?_)
  refine lv_aload_n hx hb dX2_copyFrom_135 rfl (lv_at hl 1 rfl) ?_
  refine gL_f (v := .ref (av 12)) C hG kX2 32 9 rfl (by decide) rfl q235 rfl dX2_copyFrom_136 ?_
  refine lv_iconst (v := 0) hx hb dX2_copyFrom_139 (by decide) ?_
  refine lv_aload_n hx hb dX2_copyFrom_140 rfl (lv_at hl 0 rfl) ?_
  refine gL_f (v := .ref (aw 12)) C hG kX2 2 9 rfl (by decide) rfl q235 rfl dX2_copyFrom_141 ?_
  refine lv_iconst (v := 0) hx hb dX2_copyFrom_144 (by decide) ?_
  refine lv_bipush (v := 10) hx hb dX2_copyFrom_145 (by decide) ?_
  obtain ⟨ww_10, eww_10, h⟩ := thn_some h
  have hset : ∀ f9 : Nat → Int32, List.set (rW E aw ww_9 ++ (rW E av vv ++ [])) 12 (aw 12, .inl (E.2.1 0, 10, .inl f9)) = (rW E aw (sr ww_9 12 f9) ++ (rW E av vv ++ [])) := fun _ => rfl
  refine gS_cpy (n0 := 10) (n1 := 10) (js := 0) (jd := 0) (jn := 10) (ws' := (rW E aw ww_10 ++ (rW E av vv ++ []))) C hl.1 hG 42 12 rfl rfl (by decide) (nI_clamp (n := 0) (by decide)) (nI_clamp (n := 0) (by decide)) (nI_clamp (n := 10) (by decide)) q782 q740 q739 q186 (Nat.le_of_ble_eq_true rfl) (Nat.le_of_ble_eq_true rfl) dX2_copyFrom_147 (by rw [eww_10]; exact hset _) (fun H locs hG => ?_)
  refine lv_aload_n hx hb dX2_copyFrom_150 rfl (lv_at hl 1 rfl) ?_
  refine gL_f (v := .ref (av 13)) C hG kX2 32 10 rfl (by decide) rfl q238 rfl dX2_copyFrom_151 ?_
  refine lv_iconst (v := 0) hx hb dX2_copyFrom_154 (by decide) ?_
  refine lv_aload_n hx hb dX2_copyFrom_155 rfl (lv_at hl 0 rfl) ?_
  refine gL_f (v := .ref (aw 13)) C hG kX2 2 10 rfl (by decide) rfl q238 rfl dX2_copyFrom_156 ?_
  refine lv_iconst (v := 0) hx hb dX2_copyFrom_159 (by decide) ?_
  refine lv_bipush (v := 10) hx hb dX2_copyFrom_160 (by decide) ?_
  obtain ⟨ww_11, eww_11, h⟩ := thn_some h
  have hset : ∀ f9 : Nat → Int32, List.set (rW E aw ww_10 ++ (rW E av vv ++ [])) 13 (aw 13, .inl (E.2.1 0, 10, .inl f9)) = (rW E aw (sr ww_10 13 f9) ++ (rW E av vv ++ [])) := fun _ => rfl
  refine gS_cpy (n0 := 10) (n1 := 10) (js := 0) (jd := 0) (jn := 10) (ws' := (rW E aw ww_11 ++ (rW E av vv ++ []))) C hl.1 hG 43 13 rfl rfl (by decide) (nI_clamp (n := 0) (by decide)) (nI_clamp (n := 0) (by decide)) (nI_clamp (n := 10) (by decide)) q782 q740 q739 q186 (Nat.le_of_ble_eq_true rfl) (Nat.le_of_ble_eq_true rfl) dX2_copyFrom_162 (by rw [eww_11]; exact hset _) (fun H locs hG => ?_)
  refine lv_aload_n hx hb dX2_copyFrom_165 rfl (lv_at hl 1 rfl) ?_
  refine gL_f (v := .ref (av 14)) C hG kX2 32 11 rfl (by decide) rfl q239 rfl dX2_copyFrom_166 ?_
  refine lv_iconst (v := 0) hx hb dX2_copyFrom_169 (by decide) ?_
  refine lv_aload_n hx hb dX2_copyFrom_170 rfl (lv_at hl 0 rfl) ?_
  refine gL_f (v := .ref (aw 14)) C hG kX2 2 11 rfl (by decide) rfl q239 rfl dX2_copyFrom_171 ?_
  refine lv_iconst (v := 0) hx hb dX2_copyFrom_174 (by decide) ?_
  refine lv_bipush (v := 10) hx hb dX2_copyFrom_175 (by decide) ?_
  obtain ⟨ww_12, eww_12, h⟩ := thn_some h
  have hset : ∀ f9 : Nat → Int32, List.set (rW E aw ww_11 ++ (rW E av vv ++ [])) 14 (aw 14, .inl (E.2.1 0, 10, .inl f9)) = (rW E aw (sr ww_11 14 f9) ++ (rW E av vv ++ [])) := fun _ => rfl
  refine gS_cpy (n0 := 10) (n1 := 10) (js := 0) (jd := 0) (jn := 10) (ws' := (rW E aw ww_12 ++ (rW E av vv ++ []))) C hl.1 hG 44 14 rfl rfl (by decide) (nI_clamp (n := 0) (by decide)) (nI_clamp (n := 0) (by decide)) (nI_clamp (n := 10) (by decide)) q782 q740 q739 q186 (Nat.le_of_ble_eq_true rfl) (Nat.le_of_ble_eq_true rfl) dX2_copyFrom_177 (by rw [eww_12]; exact hset _) (fun H locs hG => ?_)
  exact hret _ _ _ _ _ h hG dX2_copyFrom_180
set_option maxHeartbeats 4000000 in
set_option maxRecDepth 100000 in
theorem c_X1_copyFrom (l : Launch) (E : GE) (aw : Nat → Nat) (av : Nat → Nat) (ww : RS) (vv : RS) {res : RS} (h : fX1_copyFrom ww vv = res) : gMv l E yX1_copyFrom cX1_copyFrom 2 1 0 0 [.ref (aw 15), .ref (av 15)] (rW E aw ww ++ (rW E av vv ++ [])) (rW E aw res ++ (rW E av vv ++ [])) := by
  refine gMv_of (own := RX1) (by decide +kernel) rfl (Nat.le_of_ble_eq_true rfl) ?_
  intro p e s m args below meth c A ls Q H locs C hz hl hG hin hret
  have hx := C.1.1
  have hb := C.1.2.1
  have hts := C.1.2.2.2.2
  have hown := C.1.2.2.2.1
  have hl : lv_has ls 2 [(0, .ref (aw 15)), (1, .ref (av 15))] := hl
  replace hret : ∀ (ww0 : RS) (H : Heap) (locs : List Loc) (pc : Nat) (ls' : Array Slot), ww0 = res → gG E A s.heap (rW E aw ww0 ++ (rW E av vv ++ [])) H locs → decode cX1_copyFrom pc = .ok (.return_, 1) → W p l e (rmD 1 0 0) s m args below meth c H locs 0 0 Q (F0 m pc ls' []) := by
    intro ww0 H locs pc ls' e0; cases e0; exact hret H locs pc ls'
  rw [fX1_copyFrom] at h
  refine lv_aload_n hx hb dX1_copyFrom_0 rfl (lv_at hl 1 rfl) ?_
  refine gL_f (v := .ref (av 16)) C hG kX1 45 0 rfl (by decide) rfl q272 rfl dX1_copyFrom_1 ?_
  refine lv_iconst (v := 0) hx hb dX1_copyFrom_4 (by decide) ?_
  refine lv_aload_n hx hb dX1_copyFrom_5 rfl (lv_at hl 0 rfl) ?_
  refine gL_f (v := .ref (aw 16)) C hG kX1 15 0 rfl (by decide) rfl q272 rfl dX1_copyFrom_6 ?_
  refine lv_iconst (v := 0) hx hb dX1_copyFrom_9 (by decide) ?_
  refine lv_bipush (v := 23) hx hb dX1_copyFrom_10 (by decide) ?_
  obtain ⟨ww_1, eww_1, h⟩ := thn_some h
  have hset : ∀ f9 : Nat → Int32, List.set (rW E aw ww ++ (rW E av vv ++ [])) 16 (aw 16, .inl (E.2.1 0, 23, .inl f9)) = (rW E aw (sr ww 16 f9) ++ (rW E av vv ++ [])) := fun _ => rfl
  refine gS_cpy (n0 := 23) (n1 := 23) (js := 0) (jd := 0) (jn := 23) (ws' := (rW E aw ww_1 ++ (rW E av vv ++ []))) C hl.1 hG 46 16 rfl rfl (by decide) (nI_clamp (n := 0) (by decide)) (nI_clamp (n := 0) (by decide)) (nI_clamp (n := 23) (by decide)) q787 q740 q739 q186 (Nat.le_of_ble_eq_true rfl) (Nat.le_of_ble_eq_true rfl) dX1_copyFrom_12 (by rw [eww_1]; exact hset _) (fun H locs hG => ?_)
  refine lv_aload_n hx hb dX1_copyFrom_15 rfl (lv_at hl 1 rfl) ?_
  refine gL_f (v := .ref (av 17)) C hG kX1 45 1 rfl (by decide) rfl q275 rfl dX1_copyFrom_16 ?_
  refine lv_iconst (v := 0) hx hb dX1_copyFrom_19 (by decide) ?_
  refine lv_aload_n hx hb dX1_copyFrom_20 rfl (lv_at hl 0 rfl) ?_
  refine gL_f (v := .ref (aw 17)) C hG kX1 15 1 rfl (by decide) rfl q275 rfl dX1_copyFrom_21 ?_
  refine lv_iconst (v := 0) hx hb dX1_copyFrom_24 (by decide) ?_
  refine lv_bipush (v := 9) hx hb dX1_copyFrom_25 (by decide) ?_
  obtain ⟨ww_2, eww_2, h⟩ := thn_some h
  have hset : ∀ f9 : Nat → Int32, List.set (rW E aw ww_1 ++ (rW E av vv ++ [])) 17 (aw 17, .inl (E.2.1 0, 9, .inl f9)) = (rW E aw (sr ww_1 17 f9) ++ (rW E av vv ++ [])) := fun _ => rfl
  refine gS_cpy (n0 := 9) (n1 := 9) (js := 0) (jd := 0) (jn := 9) (ws' := (rW E aw ww_2 ++ (rW E av vv ++ []))) C hl.1 hG 47 17 rfl rfl (by decide) (nI_clamp (n := 0) (by decide)) (nI_clamp (n := 0) (by decide)) (nI_clamp (n := 9) (by decide)) q787 q740 q739 q186 (Nat.le_of_ble_eq_true rfl) (Nat.le_of_ble_eq_true rfl) dX1_copyFrom_27 (by rw [eww_2]; exact hset _) (fun H locs hG => ?_)
  refine lv_aload_n hx hb dX1_copyFrom_30 rfl (lv_at hl 1 rfl) ?_
  refine gL_f (v := .ref (av 18)) C hG kX1 45 2 rfl (by decide) rfl q277 rfl dX1_copyFrom_31 ?_
  refine lv_iconst (v := 0) hx hb dX1_copyFrom_34 (by decide) ?_
  refine lv_aload_n hx hb dX1_copyFrom_35 rfl (lv_at hl 0 rfl) ?_
  refine gL_f (v := .ref (aw 18)) C hG kX1 15 2 rfl (by decide) rfl q277 rfl dX1_copyFrom_36 ?_
  refine lv_iconst (v := 0) hx hb dX1_copyFrom_39 (by decide) ?_
  refine lv_bipush (v := 23) hx hb dX1_copyFrom_40 (by decide) ?_
  obtain ⟨ww_3, eww_3, h⟩ := thn_some h
  have hset : ∀ f9 : Nat → Int32, List.set (rW E aw ww_2 ++ (rW E av vv ++ [])) 18 (aw 18, .inl (E.2.1 0, 23, .inl f9)) = (rW E aw (sr ww_2 18 f9) ++ (rW E av vv ++ [])) := fun _ => rfl
  refine gS_cpy (n0 := 23) (n1 := 23) (js := 0) (jd := 0) (jn := 23) (ws' := (rW E aw ww_3 ++ (rW E av vv ++ []))) C hl.1 hG 48 18 rfl rfl (by decide) (nI_clamp (n := 0) (by decide)) (nI_clamp (n := 0) (by decide)) (nI_clamp (n := 23) (by decide)) q787 q740 q739 q186 (Nat.le_of_ble_eq_true rfl) (Nat.le_of_ble_eq_true rfl) dX1_copyFrom_42 (by rw [eww_3]; exact hset _) (fun H locs hG => ?_)
  refine lv_aload_n hx hb dX1_copyFrom_45 rfl (lv_at hl 1 rfl) ?_
  refine gL_f (v := .ref (av 19)) C hG kX1 45 3 rfl (by decide) rfl q279 rfl dX1_copyFrom_46 ?_
  refine lv_iconst (v := 0) hx hb dX1_copyFrom_49 (by decide) ?_
  refine lv_aload_n hx hb dX1_copyFrom_50 rfl (lv_at hl 0 rfl) ?_
  refine gL_f (v := .ref (aw 19)) C hG kX1 15 3 rfl (by decide) rfl q279 rfl dX1_copyFrom_51 ?_
  refine lv_iconst (v := 0) hx hb dX1_copyFrom_54 (by decide) ?_
  refine lv_bipush (v := 9) hx hb dX1_copyFrom_55 (by decide) ?_
  obtain ⟨ww_4, eww_4, h⟩ := thn_some h
  have hset : ∀ f9 : Nat → Int32, List.set (rW E aw ww_3 ++ (rW E av vv ++ [])) 19 (aw 19, .inl (E.2.1 0, 9, .inl f9)) = (rW E aw (sr ww_3 19 f9) ++ (rW E av vv ++ [])) := fun _ => rfl
  refine gS_cpy (n0 := 9) (n1 := 9) (js := 0) (jd := 0) (jn := 9) (ws' := (rW E aw ww_4 ++ (rW E av vv ++ []))) C hl.1 hG 49 19 rfl rfl (by decide) (nI_clamp (n := 0) (by decide)) (nI_clamp (n := 0) (by decide)) (nI_clamp (n := 9) (by decide)) q787 q740 q739 q186 (Nat.le_of_ble_eq_true rfl) (Nat.le_of_ble_eq_true rfl) dX1_copyFrom_57 (by rw [eww_4]; exact hset _) (fun H locs hG => ?_)
  exact hret _ _ _ _ _ h hG dX1_copyFrom_60
set_option maxHeartbeats 4000000 in
set_option maxRecDepth 100000 in
theorem c_X3_copyFrom (l : Launch) (E : GE) (aw : Nat → Nat) (av : Nat → Nat) (ww : RS) (vv : RS) {res : RS} (h : fX3_copyFrom ww vv = res) : gMv l E yX3_copyFrom cX3_copyFrom 2 1 0 0 [.ref (aw 20), .ref (av 20)] (rW E aw ww ++ (rW E av vv ++ [])) (rW E aw res ++ (rW E av vv ++ [])) := by
  refine gMv_of (own := RX3) (by decide +kernel) rfl (Nat.le_of_ble_eq_true rfl) ?_
  intro p e s m args below meth c A ls Q H locs C hz hl hG hin hret
  have hx := C.1.1
  have hb := C.1.2.1
  have hts := C.1.2.2.2.2
  have hown := C.1.2.2.2.1
  have hl : lv_has ls 2 [(0, .ref (aw 20)), (1, .ref (av 20))] := hl
  replace hret : ∀ (ww0 : RS) (H : Heap) (locs : List Loc) (pc : Nat) (ls' : Array Slot), ww0 = res → gG E A s.heap (rW E aw ww0 ++ (rW E av vv ++ [])) H locs → decode cX3_copyFrom pc = .ok (.return_, 1) → W p l e (rmD 1 0 0) s m args below meth c H locs 0 0 Q (F0 m pc ls' []) := by
    intro ww0 H locs pc ls' e0; cases e0; exact hret H locs pc ls'
  rw [fX3_copyFrom] at h
  refine lv_aload_n hx hb dX3_copyFrom_0 rfl (lv_at hl 0 rfl) ?_
  refine lv_aload_n hx hb dX3_copyFrom_1 rfl (lv_at hl 1 rfl) ?_
  refine gL_f (v := .int (vv 20 0)) C hG kX3 50 0 rfl (by decide) rfl q296 rfl dX3_copyFrom_2 ?_
  obtain ⟨ww_1, eww_1, h⟩ := thn_some h
  refine gS_f (v := .int (vv 20 0)) (ws' := (rW E aw ww_1 ++ (rW E av vv ++ []))) C hG kX3 20 0 rfl (by decide) q296 rfl rfl rfl rfl (by show 0 < 3; decide) dX3_copyFrom_5 (by rw [eww_1]; rfl) (fun H locs hG => ?_)
  refine lv_aload_n hx hb dX3_copyFrom_8 rfl (lv_at hl 1 rfl) ?_
  refine gL_f (v := .ref (av 21)) C hG kX3 50 1 rfl (by decide) rfl q298 rfl dX3_copyFrom_9 ?_
  refine lv_iconst (v := 0) hx hb dX3_copyFrom_12 (by decide) ?_
  refine lv_aload_n hx hb dX3_copyFrom_13 rfl (lv_at hl 0 rfl) ?_
  refine gL_f (v := .ref (aw 21)) C hG kX3 20 1 rfl (by decide) rfl q298 rfl dX3_copyFrom_14 ?_
  refine lv_iconst (v := 0) hx hb dX3_copyFrom_17 (by decide) ?_
  refine lv_iconst (v := 3) hx hb dX3_copyFrom_18 (by decide) ?_
  obtain ⟨ww_2, eww_2, h⟩ := thn_some h
  have hset : ∀ f9 : Nat → Int32, List.set (rW E aw ww_1 ++ (rW E av vv ++ [])) 21 (aw 21, .inl (E.2.1 0, 3, .inl f9)) = (rW E aw (sr ww_1 21 f9) ++ (rW E av vv ++ [])) := fun _ => rfl
  refine gS_cpy (n0 := 3) (n1 := 3) (js := 0) (jd := 0) (jn := 3) (ws' := (rW E aw ww_2 ++ (rW E av vv ++ []))) C hl.1 hG 51 21 rfl rfl (by decide) (nI_clamp (n := 0) (by decide)) (nI_clamp (n := 0) (by decide)) (nI_clamp (n := 3) (by decide)) q792 q740 q739 q186 (Nat.le_of_ble_eq_true rfl) (Nat.le_of_ble_eq_true rfl) dX3_copyFrom_19 (by rw [eww_2]; exact hset _) (fun H locs hG => ?_)
  refine lv_aload_n hx hb dX3_copyFrom_22 rfl (lv_at hl 1 rfl) ?_
  refine gL_f (v := .ref (av 22)) C hG kX3 50 2 rfl (by decide) rfl q299 rfl dX3_copyFrom_23 ?_
  refine lv_iconst (v := 0) hx hb dX3_copyFrom_26 (by decide) ?_
  refine lv_aload_n hx hb dX3_copyFrom_27 rfl (lv_at hl 0 rfl) ?_
  refine gL_f (v := .ref (aw 22)) C hG kX3 20 2 rfl (by decide) rfl q299 rfl dX3_copyFrom_28 ?_
  refine lv_iconst (v := 0) hx hb dX3_copyFrom_31 (by decide) ?_
  refine lv_iconst (v := 3) hx hb dX3_copyFrom_32 (by decide) ?_
  obtain ⟨ww_3, eww_3, h⟩ := thn_some h
  have hset : ∀ f9 : Nat → Int32, List.set (rW E aw ww_2 ++ (rW E av vv ++ [])) 22 (aw 22, .inl (E.2.1 0, 3, .inl f9)) = (rW E aw (sr ww_2 22 f9) ++ (rW E av vv ++ [])) := fun _ => rfl
  refine gS_cpy (n0 := 3) (n1 := 3) (js := 0) (jd := 0) (jn := 3) (ws' := (rW E aw ww_3 ++ (rW E av vv ++ []))) C hl.1 hG 52 22 rfl rfl (by decide) (nI_clamp (n := 0) (by decide)) (nI_clamp (n := 0) (by decide)) (nI_clamp (n := 3) (by decide)) q792 q740 q739 q186 (Nat.le_of_ble_eq_true rfl) (Nat.le_of_ble_eq_true rfl) dX3_copyFrom_33 (by rw [eww_3]; exact hset _) (fun H locs hG => ?_)
  exact hret _ _ _ _ _ h hG dX3_copyFrom_36
set_option maxHeartbeats 4000000 in
set_option maxRecDepth 100000 in
theorem c_X5_copyFrom (l : Launch) (E : GE) (aw : Nat → Nat) (av : Nat → Nat) (ww : RS) (vv : RS) {res : RS} (h : fX5_copyFrom ww vv = res) : gMv l E yX5_copyFrom cX5_copyFrom 2 1 0 0 [.ref (aw 23), .ref (av 23)] (rW E aw ww ++ (rW E av vv ++ [])) (rW E aw res ++ (rW E av vv ++ [])) := by
  refine gMv_of (own := RX5) (by decide +kernel) rfl (Nat.le_of_ble_eq_true rfl) ?_
  intro p e s m args below meth c A ls Q H locs C hz hl hG hin hret
  have hx := C.1.1
  have hb := C.1.2.1
  have hts := C.1.2.2.2.2
  have hown := C.1.2.2.2.1
  have hl : lv_has ls 2 [(0, .ref (aw 23)), (1, .ref (av 23))] := hl
  replace hret : ∀ (ww0 : RS) (H : Heap) (locs : List Loc) (pc : Nat) (ls' : Array Slot), ww0 = res → gG E A s.heap (rW E aw ww0 ++ (rW E av vv ++ [])) H locs → decode cX5_copyFrom pc = .ok (.return_, 1) → W p l e (rmD 1 0 0) s m args below meth c H locs 0 0 Q (F0 m pc ls' []) := by
    intro ww0 H locs pc ls' e0; cases e0; exact hret H locs pc ls'
  rw [fX5_copyFrom] at h
  refine lv_aload_n hx hb dX5_copyFrom_0 rfl (lv_at hl 0 rfl) ?_
  refine lv_aload_n hx hb dX5_copyFrom_1 rfl (lv_at hl 1 rfl) ?_
  refine gL_f (v := .int (vv 23 0)) C hG kX5 53 0 rfl (by decide) rfl q313 rfl dX5_copyFrom_2 ?_
  obtain ⟨ww_1, eww_1, h⟩ := thn_some h
  refine gS_f (v := .int (vv 23 0)) (ws' := (rW E aw ww_1 ++ (rW E av vv ++ []))) C hG kX5 23 0 rfl (by decide) q313 rfl rfl rfl rfl (by show 0 < 5; decide) dX5_copyFrom_5 (by rw [eww_1]; rfl) (fun H locs hG => ?_)
  refine lv_aload_n hx hb dX5_copyFrom_8 rfl (lv_at hl 1 rfl) ?_
  refine gL_f (v := .ref (av 24)) C hG kX5 53 1 rfl (by decide) rfl q317 rfl dX5_copyFrom_9 ?_
  refine lv_iconst (v := 0) hx hb dX5_copyFrom_12 (by decide) ?_
  refine lv_aload_n hx hb dX5_copyFrom_13 rfl (lv_at hl 0 rfl) ?_
  refine gL_f (v := .ref (aw 24)) C hG kX5 23 1 rfl (by decide) rfl q317 rfl dX5_copyFrom_14 ?_
  refine lv_iconst (v := 0) hx hb dX5_copyFrom_17 (by decide) ?_
  refine lv_bipush (v := 10) hx hb dX5_copyFrom_18 (by decide) ?_
  obtain ⟨ww_2, eww_2, h⟩ := thn_some h
  have hset : ∀ f9 : Nat → Int32, List.set (rW E aw ww_1 ++ (rW E av vv ++ [])) 24 (aw 24, .inl (E.2.1 0, 10, .inl f9)) = (rW E aw (sr ww_1 24 f9) ++ (rW E av vv ++ [])) := fun _ => rfl
  refine gS_cpy (n0 := 10) (n1 := 10) (js := 0) (jd := 0) (jn := 10) (ws' := (rW E aw ww_2 ++ (rW E av vv ++ []))) C hl.1 hG 54 24 rfl rfl (by decide) (nI_clamp (n := 0) (by decide)) (nI_clamp (n := 0) (by decide)) (nI_clamp (n := 10) (by decide)) q797 q740 q739 q186 (Nat.le_of_ble_eq_true rfl) (Nat.le_of_ble_eq_true rfl) dX5_copyFrom_20 (by rw [eww_2]; exact hset _) (fun H locs hG => ?_)
  refine lv_aload_n hx hb dX5_copyFrom_23 rfl (lv_at hl 1 rfl) ?_
  refine gL_f (v := .ref (av 25)) C hG kX5 53 2 rfl (by decide) rfl q320 rfl dX5_copyFrom_24 ?_
  refine lv_iconst (v := 0) hx hb dX5_copyFrom_27 (by decide) ?_
  refine lv_aload_n hx hb dX5_copyFrom_28 rfl (lv_at hl 0 rfl) ?_
  refine gL_f (v := .ref (aw 25)) C hG kX5 23 2 rfl (by decide) rfl q320 rfl dX5_copyFrom_29 ?_
  refine lv_iconst (v := 0) hx hb dX5_copyFrom_32 (by decide) ?_
  refine lv_bipush (v := 10) hx hb dX5_copyFrom_33 (by decide) ?_
  obtain ⟨ww_3, eww_3, h⟩ := thn_some h
  have hset : ∀ f9 : Nat → Int32, List.set (rW E aw ww_2 ++ (rW E av vv ++ [])) 25 (aw 25, .inl (E.2.1 0, 10, .inl f9)) = (rW E aw (sr ww_2 25 f9) ++ (rW E av vv ++ [])) := fun _ => rfl
  refine gS_cpy (n0 := 10) (n1 := 10) (js := 0) (jd := 0) (jn := 10) (ws' := (rW E aw ww_3 ++ (rW E av vv ++ []))) C hl.1 hG 55 25 rfl rfl (by decide) (nI_clamp (n := 0) (by decide)) (nI_clamp (n := 0) (by decide)) (nI_clamp (n := 10) (by decide)) q797 q740 q739 q186 (Nat.le_of_ble_eq_true rfl) (Nat.le_of_ble_eq_true rfl) dX5_copyFrom_35 (by rw [eww_3]; exact hset _) (fun H locs hG => ?_)
  refine lv_aload_n hx hb dX5_copyFrom_38 rfl (lv_at hl 1 rfl) ?_
  refine gL_f (v := .ref (av 26)) C hG kX5 53 3 rfl (by decide) rfl q323 rfl dX5_copyFrom_39 ?_
  refine lv_iconst (v := 0) hx hb dX5_copyFrom_42 (by decide) ?_
  refine lv_aload_n hx hb dX5_copyFrom_43 rfl (lv_at hl 0 rfl) ?_
  refine gL_f (v := .ref (aw 26)) C hG kX5 23 3 rfl (by decide) rfl q323 rfl dX5_copyFrom_44 ?_
  refine lv_iconst (v := 0) hx hb dX5_copyFrom_47 (by decide) ?_
  refine lv_bipush (v := 10) hx hb dX5_copyFrom_48 (by decide) ?_
  obtain ⟨ww_4, eww_4, h⟩ := thn_some h
  have hset : ∀ f9 : Nat → Int32, List.set (rW E aw ww_3 ++ (rW E av vv ++ [])) 26 (aw 26, .inl (E.2.1 0, 10, .inl f9)) = (rW E aw (sr ww_3 26 f9) ++ (rW E av vv ++ [])) := fun _ => rfl
  refine gS_cpy (n0 := 10) (n1 := 10) (js := 0) (jd := 0) (jn := 10) (ws' := (rW E aw ww_4 ++ (rW E av vv ++ []))) C hl.1 hG 56 26 rfl rfl (by decide) (nI_clamp (n := 0) (by decide)) (nI_clamp (n := 0) (by decide)) (nI_clamp (n := 10) (by decide)) q797 q740 q739 q186 (Nat.le_of_ble_eq_true rfl) (Nat.le_of_ble_eq_true rfl) dX5_copyFrom_50 (by rw [eww_4]; exact hset _) (fun H locs hG => ?_)
  refine lv_aload_n hx hb dX5_copyFrom_53 rfl (lv_at hl 1 rfl) ?_
  refine gL_f (v := .ref (av 27)) C hG kX5 53 4 rfl (by decide) rfl q326 rfl dX5_copyFrom_54 ?_
  refine lv_iconst (v := 0) hx hb dX5_copyFrom_57 (by decide) ?_
  refine lv_aload_n hx hb dX5_copyFrom_58 rfl (lv_at hl 0 rfl) ?_
  refine gL_f (v := .ref (aw 27)) C hG kX5 23 4 rfl (by decide) rfl q326 rfl dX5_copyFrom_59 ?_
  refine lv_iconst (v := 0) hx hb dX5_copyFrom_62 (by decide) ?_
  refine lv_bipush (v := 10) hx hb dX5_copyFrom_63 (by decide) ?_
  obtain ⟨ww_5, eww_5, h⟩ := thn_some h
  have hset : ∀ f9 : Nat → Int32, List.set (rW E aw ww_4 ++ (rW E av vv ++ [])) 27 (aw 27, .inl (E.2.1 0, 10, .inl f9)) = (rW E aw (sr ww_4 27 f9) ++ (rW E av vv ++ [])) := fun _ => rfl
  refine gS_cpy (n0 := 10) (n1 := 10) (js := 0) (jd := 0) (jn := 10) (ws' := (rW E aw ww_5 ++ (rW E av vv ++ []))) C hl.1 hG 57 27 rfl rfl (by decide) (nI_clamp (n := 0) (by decide)) (nI_clamp (n := 0) (by decide)) (nI_clamp (n := 10) (by decide)) q797 q740 q739 q186 (Nat.le_of_ble_eq_true rfl) (Nat.le_of_ble_eq_true rfl) dX5_copyFrom_65 (by rw [eww_5]; exact hset _) (fun H locs hG => ?_)
  exact hret _ _ _ _ _ h hG dX5_copyFrom_68
set_option maxHeartbeats 4000000 in
set_option maxRecDepth 100000 in
theorem c_X0_copyFrom (l : Launch) (E : GE) (aw : Nat → Nat) (av : Nat → Nat) (ww : RS) (vv : RS) {res : RS} (h : fX0_copyFrom ww vv = res) : gMv l E yX0_copyFrom cX0_copyFrom 2 1 0 0 [.ref (aw 28), .ref (av 28)] (rW E aw ww ++ (rW E av vv ++ [])) (rW E aw res ++ (rW E av vv ++ [])) := by
  refine gMv_of (own := RX0) (by decide +kernel) rfl (Nat.le_of_ble_eq_true rfl) ?_
  intro p e s m args below meth c A ls Q H locs C hz hl hG hin hret
  have hx := C.1.1
  have hb := C.1.2.1
  have hts := C.1.2.2.2.2
  have hown := C.1.2.2.2.1
  have hl : lv_has ls 2 [(0, .ref (aw 28)), (1, .ref (av 28))] := hl
  replace hret : ∀ (ww0 : RS) (H : Heap) (locs : List Loc) (pc : Nat) (ls' : Array Slot), ww0 = res → gG E A s.heap (rW E aw ww0 ++ (rW E av vv ++ [])) H locs → decode cX0_copyFrom pc = .ok (.return_, 1) → W p l e (rmD 1 0 0) s m args below meth c H locs 0 0 Q (F0 m pc ls' []) := by
    intro ww0 H locs pc ls' e0; cases e0; exact hret H locs pc ls'
  rw [fX0_copyFrom] at h
  refine lv_aload_n hx hb dX0_copyFrom_0 rfl (lv_at hl 0 rfl) ?_
  refine lv_aload_n hx hb dX0_copyFrom_1 rfl (lv_at hl 1 rfl) ?_
  refine gL_f (v := .int (vv 28 0)) C hG kX0 58 0 rfl (by decide) rfl q345 rfl dX0_copyFrom_2 ?_
  obtain ⟨ww_1, eww_1, h⟩ := thn_some h
  refine gS_f (v := .int (vv 28 0)) (ws' := (rW E aw ww_1 ++ (rW E av vv ++ []))) C hG kX0 28 0 rfl (by decide) q345 rfl rfl rfl rfl (by show 0 < 2; decide) dX0_copyFrom_5 (by rw [eww_1]; rfl) (fun H locs hG => ?_)
  refine lv_aload_n hx hb dX0_copyFrom_8 rfl (lv_at hl 1 rfl) ?_
  refine gL_f (v := .ref (av 29)) C hG kX0 58 1 rfl (by decide) rfl q346 rfl dX0_copyFrom_9 ?_
  refine lv_iconst (v := 0) hx hb dX0_copyFrom_12 (by decide) ?_
  refine lv_aload_n hx hb dX0_copyFrom_13 rfl (lv_at hl 0 rfl) ?_
  refine gL_f (v := .ref (aw 29)) C hG kX0 28 1 rfl (by decide) rfl q346 rfl dX0_copyFrom_14 ?_
  refine lv_iconst (v := 0) hx hb dX0_copyFrom_17 (by decide) ?_
  refine lv_aload_n hx hb dX0_copyFrom_18 rfl (lv_at hl 0 rfl) ?_
  refine gL_f (v := .ref (aw 29)) C hG kX0 28 1 rfl (by decide) rfl q346 rfl dX0_copyFrom_19 ?_
  refine va_alen (v := 100) hx hb C.2.1 hG.1 29 0 rfl rfl rfl dX0_copyFrom_22 ?_
  obtain ⟨ww_2, eww_2, h⟩ := thn_some h
  have hset : ∀ f9 : Nat → Int32, List.set (rW E aw ww_1 ++ (rW E av vv ++ [])) 29 (aw 29, .inl (E.2.1 0, 100, .inl f9)) = (rW E aw (sr ww_1 29 f9) ++ (rW E av vv ++ [])) := fun _ => rfl
  refine gS_cpy (n0 := 100) (n1 := 100) (js := 0) (jd := 0) (jn := 100) (ws' := (rW E aw ww_2 ++ (rW E av vv ++ []))) C hl.1 hG 59 29 rfl rfl (by decide) (nI_clamp (n := 0) (by decide)) (nI_clamp (n := 0) (by decide)) (nI_clamp (n := 100) (by decide)) q802 q740 q739 q186 (Nat.le_of_ble_eq_true rfl) (Nat.le_of_ble_eq_true rfl) dX0_copyFrom_23 (by rw [eww_2]; exact hset _) (fun H locs hG => ?_)
  exact hret _ _ _ _ _ h hG dX0_copyFrom_26
set_option maxHeartbeats 4000000 in
set_option maxRecDepth 100000 in
theorem c_X3_advance (l : Launch) (E : GE) (aw : Nat → Nat) (N : Nat) (x1 : Int32) (ww : RS) {res : Int32 × RS} (h : fX3_advance N x1 ww = some res) : gMi l E yX3_advance cX3_advance 5 .int 1 0 0 [.ref (aw 20), .int x1] (rW E aw ww ++ []) (rW E aw res.2 ++ []) res.1 := by
  refine gMi_of (own := RX3) (by decide +kernel) rfl (Nat.le_of_ble_eq_true rfl) ?_
  intro p e s m args below meth c A ls Q H locs C hz hl hG hret
  have hx := C.1.1
  have hb := C.1.2.1
  have hts := C.1.2.2.2.2
  have hown := C.1.2.2.2.1
  have hl : lv_has ls 5 [(0, .ref (aw 20)), (1, .int x1)] := hl
  replace hret : ∀ (r0 : Int32) (ww0 : RS) (H : Heap) (locs : List Loc) (pc : Nat) (ls' : Array Slot), some (r0, ww0) = some res → narrow .int (.int r0) = .int r0 → gG E A s.heap (rW E aw ww0 ++ []) H locs → decode cX3_advance pc = .ok (.ireturn, 1) → W p l e (rmD 1 0 0) s m args below meth c H locs 0 0 Q (F0 m pc ls' [.int r0]) := by
    intro r0 ww0 H locs pc ls' e0 hn; cases e0; exact hret H locs pc ls' hn
  have K88 : ∀ (k7 : (Int32 → Int32 → Int32 → RS → Option (Int32 × RS))) (hk7 : ∀  (x2 : Int32) (x3 : Int32) (x4 : Int32) (ww : RS) (H : Heap) (locs : List Loc) (ls : Array Slot), gG E A s.heap (rW E aw ww ++ []) H locs → lv_has ls 5 [(0, .ref (aw 20)), (1, .int x1), (2, .int x2), (3, .int x3), (4, .int x4)] → k7 x2 x3 x4 ww = some res → W p l e (rmD 1 0 0) s m args below meth c H locs 0 0 Q (F0 m 7 ls [])), ∀  (x2 : Int32) (x3 : Int32) (x4 : Int32) (ww : RS) (H : Heap) (locs : List Loc) (ls : Array Slot), gG E A s.heap (rW E aw ww ++ []) H locs → lv_has ls 5 [(0, .ref (aw 20)), (1, .int x1), (2, .int x2), (3, .int x3), (4, .int x4)] → fX3_advance_L88 N x1 k7 x2 x3 x4 ww = some res → W p l e (rmD 1 0 0) s m args below meth c H locs 0 0 Q (F0 m 88 ls []) := by
    intro k7 hk7 x2 x3 x4 ww H locs ls hG hl h
    rw [fX3_advance_L88] at h
    refine lv_iinc (v := (x4 + 1)) (lv' := [(4, .int (x4 + 1)), (0, .ref (aw 20)), (1, .int x1), (2, .int x2), (3, .int x3)]) hx hb dX3_advance_88 hl (k := 4) rfl (congrArg (x4 + ·) (by decide : Int32.ofInt 1 = 1)) (by decide) rfl (fun ls hl => ?_)
    refine lv_goto (tgt := 7) hx hb dX3_advance_91 (by decide) ?_
    exact hk7 x2 x3 (x4 + 1) ww _ _ _ hG (lv_sub hl [1, 2, 3, 4, 0] rfl) h
  have K130 : ∀  (x2 : Int32) (x3 : Int32) (ww : RS) (H : Heap) (locs : List Loc) (ls : Array Slot), gG E A s.heap (rW E aw ww ++ []) H locs → lv_has ls 5 [(0, .ref (aw 20)), (1, .int x1), (2, .int x2), (3, .int x3)] → fX3_advance_L130 N x1 x2 x3 ww = some res → W p l e (rmD 1 0 0) s m args below meth c H locs 0 0 Q (F0 m 130 ls []) := by
    intro x2 x3 ww H locs ls hG hl h
    rw [fX3_advance_L130] at h
    refine lv_aload_n hx hb dX3_advance_130 rfl (lv_at hl 0 rfl) ?_
    refine gL_f (v := .ref (aw 21)) C hG kX3 20 1 rfl (by decide) rfl q298 rfl dX3_advance_131 ?_
    refine lv_iload_n hx hb dX3_advance_134 rfl (lv_at hl 3 rfl) ?_
    refine lv_iload_n hx hb dX3_advance_135 rfl (lv_at hl 1 rfl) ?_
    refine lv_iconst (v := 1) hx hb dX3_advance_136 (by decide) ?_
    refine lv_iadd hx hb dX3_advance_137 ?_
    obtain ⟨b1, h⟩ := ck_some h
    obtain ⟨ww_2, eww_2, h⟩ := thn_some h
    refine gS_i (x := (x1 + 1)) (ws' := (rW E aw ww_2 ++ [])) C hG 21 rfl (inb_in b1) rfl dX3_advance_138 (by rw [eww_2]; rfl) (fun H locs hG => ?_)
    refine lv_aload_n hx hb dX3_advance_139 rfl (lv_at hl 0 rfl) ?_
    refine gL_f (v := .ref (aw 22)) C hG kX3 20 2 rfl (by decide) rfl q299 rfl dX3_advance_140 ?_
    refine lv_iload_n hx hb dX3_advance_143 rfl (lv_at hl 3 rfl) ?_
    refine lv_iload_n hx hb dX3_advance_144 rfl (lv_at hl 2 rfl) ?_
    obtain ⟨ww_3, eww_3, h⟩ := thn_some h
    refine gS_i (x := x2) (ws' := (rW E aw ww_3 ++ [])) C hG 22 rfl (inb_in b1) rfl dX3_advance_145 (by rw [eww_3]; rfl) (fun H locs hG => ?_)
    refine lv_aload_n hx hb dX3_advance_146 rfl (lv_at hl 0 rfl) ?_
    refine lv_iload_n hx hb dX3_advance_147 rfl (lv_at hl 3 rfl) ?_
    refine lv_iconst (v := 1) hx hb dX3_advance_148 (by decide) ?_
    refine lv_iadd hx hb dX3_advance_149 ?_
    obtain ⟨ww_4, eww_4, h⟩ := thn_some h
    refine gS_f (v := .int (x3 + 1)) (ws' := (rW E aw ww_4 ++ [])) C hG kX3 20 0 rfl (by decide) q296 rfl rfl rfl rfl (by show 0 < 3; decide) dX3_advance_150 (by rw [eww_4]; rfl) (fun H locs hG => ?_)
    refine lv_iload_n hx hb dX3_advance_153 rfl (lv_at hl 2 rfl) ?_
    exact hret _ _ _ _ _ _ h rfl hG dX3_advance_154
  have K94 : ∀  (x2 : Int32) (x3 : Int32) (ww : RS) (H : Heap) (locs : List Loc) (ls : Array Slot), gG E A s.heap (rW E aw ww ++ []) H locs → lv_has ls 5 [(0, .ref (aw 20)), (1, .int x1), (2, .int x2), (3, .int x3)] → fX3_advance_L94 N x1 x2 x3 ww = some res → W p l e (rmD 1 0 0) s m args below meth c H locs 0 0 Q (F0 m 94 ls []) := by
    intro x2 x3 ww H locs ls hG hl h
    rw [fX3_advance_L94] at h
    refine lv_iload_n hx hb dX3_advance_94 rfl (lv_at hl 3 rfl) ?_
    refine lv_iconst (v := 3) hx hb dX3_advance_95 (by decide) ?_
    refine lv_icmp_ne (tgt := 130) hx hb dX3_advance_96 (by decide) (fun c96 => ?_) (fun c96 => ?_)
    · replace h := ie c96 h
      exact K130 x2 x3 ww _ _ _ hG (lv_sub hl [0, 1, 2, 3] rfl) h
    · replace h := it c96 h
      refine lv_iinc (v := (x3 + (-1))) (lv' := [(3, .int (x3 + (-1))), (0, .ref (aw 20)), (1, .int x1), (2, .int x2)]) hx hb dX3_advance_99 hl (k := 3) rfl (congrArg (x3 + ·) (by decide : Int32.ofInt (-1) = (-1))) (by decide) rfl (fun ls hl => ?_)
      refine lv_aload_n hx hb dX3_advance_102 rfl (lv_at hl 1 rfl) ?_
      refine gL_f (v := .ref (aw 21)) C hG kX3 20 1 rfl (by decide) rfl q298 rfl dX3_advance_103 ?_
      refine lv_iconst (v := 1) hx hb dX3_advance_106 (by decide) ?_
      refine lv_aload_n hx hb dX3_advance_107 rfl (lv_at hl 1 rfl) ?_
      refine gL_f (v := .ref (aw 21)) C hG kX3 20 1 rfl (by decide) rfl q298 rfl dX3_advance_108 ?_
      refine lv_iconst (v := 0) hx hb dX3_advance_111 (by decide) ?_
      refine lv_iload_n hx hb dX3_advance_112 rfl (lv_at hl 0 rfl) ?_
      obtain ⟨b1, h⟩ := ck_some h
      obtain ⟨ww_2, eww_2, h⟩ := thn_some h
      have hset : ∀ f9 : Nat → Int32, List.set (rW E aw ww ++ []) 21 (aw 21, .inl (E.2.1 0, 3, .inl f9)) = (rW E aw (sr ww 21 f9) ++ []) := fun _ => rfl
      refine gS_cpy (n0 := 3) (n1 := 3) (js := 1) (jd := 0) (jn := (x3 + (-1)).toNatClampNeg) (ws' := (rW E aw ww_2 ++ [])) C hl.1 hG 21 21 rfl rfl (b1) (nI_clamp (n := 1) (by decide)) (nI_clamp (n := 0) (by decide)) rfl q792 q740 q739 q186 (Nat.le_of_ble_eq_true rfl) (Nat.le_of_ble_eq_true rfl) dX3_advance_113 (by rw [eww_2]; exact hset _) (fun H locs hG => ?_)
      refine lv_aload_n hx hb dX3_advance_116 rfl (lv_at hl 1 rfl) ?_
      refine gL_f (v := .ref (aw 22)) C hG kX3 20 2 rfl (by decide) rfl q299 rfl dX3_advance_117 ?_
      refine lv_iconst (v := 1) hx hb dX3_advance_120 (by decide) ?_
      refine lv_aload_n hx hb dX3_advance_121 rfl (lv_at hl 1 rfl) ?_
      refine gL_f (v := .ref (aw 22)) C hG kX3 20 2 rfl (by decide) rfl q299 rfl dX3_advance_122 ?_
      refine lv_iconst (v := 0) hx hb dX3_advance_125 (by decide) ?_
      refine lv_iload_n hx hb dX3_advance_126 rfl (lv_at hl 0 rfl) ?_
      obtain ⟨ww_3, eww_3, h⟩ := thn_some h
      have hset : ∀ f9 : Nat → Int32, List.set (rW E aw ww_2 ++ []) 22 (aw 22, .inl (E.2.1 0, 3, .inl f9)) = (rW E aw (sr ww_2 22 f9) ++ []) := fun _ => rfl
      refine gS_cpy (n0 := 3) (n1 := 3) (js := 1) (jd := 0) (jn := (x3 + (-1)).toNatClampNeg) (ws' := (rW E aw ww_3 ++ [])) C hl.1 hG 22 22 rfl rfl (b1) (nI_clamp (n := 1) (by decide)) (nI_clamp (n := 0) (by decide)) rfl q792 q740 q739 q186 (Nat.le_of_ble_eq_true rfl) (Nat.le_of_ble_eq_true rfl) dX3_advance_127 (by rw [eww_3]; exact hset _) (fun H locs hG => ?_)
      exact K130 x2 (x3 + (-1)) ww_3 _ _ _ hG (lv_sub hl [1, 2, 3, 0] rfl) h
  have K7 : ∀ (k : Nat), ∀  (x2 : Int32) (x3 : Int32) (x4 : Int32) (ww : RS) (H : Heap) (locs : List Loc) (ls : Array Slot), gG E A s.heap (rW E aw ww ++ []) H locs → lv_has ls 5 [(0, .ref (aw 20)), (1, .int x1), (2, .int x2), (3, .int x3), (4, .int x4)] → fX3_advance_L7 N x1 k x2 x3 x4 ww = some res → W p l e (rmD 1 0 0) s m args below meth c H locs 0 0 Q (F0 m 7 ls []) := by
    intro k
    induction k with
    | zero => intro x2 x3 x4 ww H locs ls hG hl h; exact absurd (show none = _ from h) (by simp)
    | succ k ih =>
      intro x2 x3 x4 ww H locs ls hG hl h
      rw [fX3_advance_L7] at h
      refine lv_iload hx hb dX3_advance_7 (lv_at hl 4 rfl) ?_
      refine lv_aload_n hx hb dX3_advance_9 rfl (lv_at hl 0 rfl) ?_
      refine gL_f (v := .int (ww 20 0)) C hG kX3 20 0 rfl (by decide) rfl q296 rfl dX3_advance_10 ?_
      refine lv_icmp_ge (tgt := 94) hx hb dX3_advance_13 (by decide) (fun c13 => ?_) (fun c13 => ?_)
      · replace h := it c13 h
        exact K94 x2 x3 ww _ _ _ hG (lv_sub hl [0, 1, 2, 3] rfl) h
      · replace h := ie c13 h
        refine lv_iload hx hb dX3_advance_16 (lv_at hl 4 rfl) ?_
        refine lv_iconst (v := 3) hx hb dX3_advance_18 (by decide) ?_
        refine lv_icmp_ge (tgt := 94) hx hb dX3_advance_19 (by decide) (fun c19 => ?_) (fun c19 => ?_)
        · replace h := it c19 h
          exact K94 x2 x3 ww _ _ _ hG (lv_sub hl [0, 1, 2, 3] rfl) h
        · replace h := ie c19 h
          refine lv_aload_n hx hb dX3_advance_22 rfl (lv_at hl 0 rfl) ?_
          refine gL_f (v := .ref (aw 21)) C hG kX3 20 1 rfl (by decide) rfl q298 rfl dX3_advance_23 ?_
          refine lv_iload hx hb dX3_advance_26 (lv_at hl 4 rfl) ?_
          obtain ⟨b1, h⟩ := ck_some h
          refine gL_i (v := (ww 21 x4.toNatClampNeg)) C hG 21 rfl (inb_in b1) rfl dX3_advance_28 ?_
          refine lv_iload_n hx hb dX3_advance_29 rfl (lv_at hl 1 rfl) ?_
          refine lv_icmp_ne (tgt := 46) hx hb dX3_advance_30 (by decide) (fun c30 => ?_) (fun c30 => ?_)
          · replace h := ie c30 h
            refine lv_aload_n hx hb dX3_advance_46 rfl (lv_at hl 0 rfl) ?_
            refine gL_f (v := .ref (aw 21)) C hG kX3 20 1 rfl (by decide) rfl q298 rfl dX3_advance_47 ?_
            refine lv_iload hx hb dX3_advance_50 (lv_at hl 4 rfl) ?_
            refine gL_i (v := (ww 21 x4.toNatClampNeg)) C hG 21 rfl (inb_in b1) rfl dX3_advance_52 ?_
            refine lv_iload_n hx hb dX3_advance_53 rfl (lv_at hl 1 rfl) ?_
            refine lv_iconst (v := 1) hx hb dX3_advance_54 (by decide) ?_
            refine lv_iadd hx hb dX3_advance_55 ?_
            refine lv_icmp_eq (tgt := 88) hx hb dX3_advance_56 (by decide) (fun c56 => ?_) (fun c56 => ?_)
            · replace h := it c56 h
              exact K88 _ ih x2 x3 x4 ww _ _ _ hG (lv_sub hl [0, 1, 2, 3, 4] rfl) h
            · replace h := ie c56 h
              refine lv_aload_n hx hb dX3_advance_59 rfl (lv_at hl 0 rfl) ?_
              refine gL_f (v := .ref (aw 21)) C hG kX3 20 1 rfl (by decide) rfl q298 rfl dX3_advance_60 ?_
              refine lv_iload_n hx hb dX3_advance_63 rfl (lv_at hl 3 rfl) ?_
              refine lv_aload_n hx hb dX3_advance_64 rfl (lv_at hl 0 rfl) ?_
              refine gL_f (v := .ref (aw 21)) C hG kX3 20 1 rfl (by decide) rfl q298 rfl dX3_advance_65 ?_
              refine lv_iload hx hb dX3_advance_68 (lv_at hl 4 rfl) ?_
              refine gL_i (v := (ww 21 x4.toNatClampNeg)) C hG 21 rfl (inb_in b1) rfl dX3_advance_70 ?_
              obtain ⟨b2, h⟩ := ck_some h
              obtain ⟨ww_3, eww_3, h⟩ := thn_some h
              refine gS_i (x := (ww 21 x4.toNatClampNeg)) (ws' := (rW E aw ww_3 ++ [])) C hG 21 rfl (inb_in b2) rfl dX3_advance_71 (by rw [eww_3]; rfl) (fun H locs hG => ?_)
              refine lv_aload_n hx hb dX3_advance_72 rfl (lv_at hl 0 rfl) ?_
              refine gL_f (v := .ref (aw 22)) C hG kX3 20 2 rfl (by decide) rfl q299 rfl dX3_advance_73 ?_
              refine lv_iload_n hx hb dX3_advance_76 rfl (lv_at hl 3 rfl) ?_
              refine lv_aload_n hx hb dX3_advance_77 rfl (lv_at hl 0 rfl) ?_
              refine gL_f (v := .ref (aw 22)) C hG kX3 20 2 rfl (by decide) rfl q299 rfl dX3_advance_78 ?_
              refine lv_iload hx hb dX3_advance_81 (lv_at hl 4 rfl) ?_
              refine gL_i (v := (ww_3 22 x4.toNatClampNeg)) C hG 22 rfl (inb_in b1) rfl dX3_advance_83 ?_
              obtain ⟨ww_4, eww_4, h⟩ := thn_some h
              refine gS_i (x := (ww_3 22 x4.toNatClampNeg)) (ws' := (rW E aw ww_4 ++ [])) C hG 22 rfl (inb_in b2) rfl dX3_advance_84 (by rw [eww_4]; rfl) (fun H locs hG => ?_)
              refine lv_iinc (v := (x3 + 1)) (lv' := [(3, .int (x3 + 1)), (0, .ref (aw 20)), (1, .int x1), (2, .int x2), (4, .int x4)]) hx hb dX3_advance_85 hl (k := 3) rfl (congrArg (x3 + ·) (by decide : Int32.ofInt 1 = 1)) (by decide) rfl (fun ls hl => ?_)
              exact K88 _ ih x2 (x3 + 1) x4 ww_4 _ _ _ hG (lv_sub hl [1, 2, 3, 0, 4] rfl) h
          · replace h := it c30 h
            refine lv_aload_n hx hb dX3_advance_33 rfl (lv_at hl 0 rfl) ?_
            refine gL_f (v := .ref (aw 22)) C hG kX3 20 2 rfl (by decide) rfl q299 rfl dX3_advance_34 ?_
            refine lv_iload hx hb dX3_advance_37 (lv_at hl 4 rfl) ?_
            refine gL_i (v := (ww 22 x4.toNatClampNeg)) C hG 22 rfl (inb_in b1) rfl dX3_advance_39 ?_
            refine lv_iconst (v := 1) hx hb dX3_advance_40 (by decide) ?_
            refine lv_iadd hx hb dX3_advance_41 ?_
            obtain ⟨x2_5, ex2_5, h⟩ := thn_some h
            refine g_int ex2_5 ?_
            refine lv_istore_n (lv' := [(2, .int x2_5), (0, .ref (aw 20)), (1, .int x1), (3, .int x3), (4, .int x4)]) hx hb dX3_advance_42 rfl hl (by decide) rfl (fun ls hl => ?_)
            refine lv_goto (tgt := 88) hx hb dX3_advance_43 (by decide) ?_
            exact K88 _ ih x2_5 x3 x4 ww _ _ _ hG (lv_sub hl [1, 2, 0, 3, 4] rfl) h
  rw [fX3_advance] at h
  refine lv_iconst (v := 1) hx hb dX3_advance_0 (by decide) ?_
  refine lv_istore_n (lv' := [(2, .int 1), (0, .ref (aw 20)), (1, .int x1)]) hx hb dX3_advance_1 rfl hl (by decide) rfl (fun ls hl => ?_)
  refine lv_iconst (v := 0) hx hb dX3_advance_2 (by decide) ?_
  refine lv_istore_n (lv' := [(3, .int 0), (2, .int 1), (0, .ref (aw 20)), (1, .int x1)]) hx hb dX3_advance_3 rfl hl (by decide) rfl (fun ls hl => ?_)
  refine lv_iconst (v := 0) hx hb dX3_advance_4 (by decide) ?_
  refine lv_istore (lv' := [(4, .int 0), (3, .int 0), (2, .int 1), (0, .ref (aw 20)), (1, .int x1)]) hx hb dX3_advance_5 hl (by decide) rfl (fun ls hl => ?_)
  exact K7 N 1 0 0 ww _ _ _ hG (lv_sub hl [3, 4, 2, 1, 0] rfl) h
set_option maxHeartbeats 4000000 in
set_option maxRecDepth 100000 in
theorem c_X2_warm (l : Launch) (E : GE) (aw : Nat → Nat) (N : Nat) (x1 : Int32) (x2 : Int32) (ww : RS) {res : RS} (h : fX2_warm N x1 x2 ww = some res) : gMv l E yX2_warm cX2_warm 3 1 0 0 [.ref (aw 2), .int x1, .int x2] (rW E aw ww ++ []) (rW E aw res ++ []) := by
  refine gMv_of (own := RX2) (by decide +kernel) rfl (Nat.le_of_ble_eq_true rfl) ?_
  intro p e s m args below meth c A ls Q H locs C hz hl hG hin hret
  have hx := C.1.1
  have hb := C.1.2.1
  have hts := C.1.2.2.2.2
  have hown := C.1.2.2.2.1
  have hl : lv_has ls 3 [(0, .ref (aw 2)), (1, .int x1), (2, .int x2)] := hl
  replace hret : ∀ (ww0 : RS) (H : Heap) (locs : List Loc) (pc : Nat) (ls' : Array Slot), some ww0 = some res → gG E A s.heap (rW E aw ww0 ++ []) H locs → decode cX2_warm pc = .ok (.return_, 1) → W p l e (rmD 1 0 0) s m args below meth c H locs 0 0 Q (F0 m pc ls' []) := by
    intro ww0 H locs pc ls' e0; cases e0; exact hret H locs pc ls'
  rw [fX2_warm] at h
  refine lv_aload_n hx hb dX2_warm_0 rfl (lv_at hl 0 rfl) ?_
  refine gL_f (v := .ref (aw 9)) C hG kX2 2 6 rfl (by decide) rfl q228 rfl dX2_warm_1 ?_
  refine lv_iload_n hx hb dX2_warm_4 rfl (lv_at hl 1 rfl) ?_
  refine lv_sipush (v := 9999) hx hb dX2_warm_5 (by decide) ?_
  refine lv_aload_n hx hb dX2_warm_8 rfl (lv_at hl 0 rfl) ?_
  refine gL_f (v := .ref (aw 9)) C hG kX2 2 6 rfl (by decide) rfl q228 rfl dX2_warm_9 ?_
  refine lv_iload_n hx hb dX2_warm_12 rfl (lv_at hl 1 rfl) ?_
  obtain ⟨b1, h⟩ := ck_some h
  refine gL_i (v := (ww 9 x1.toNatClampNeg)) C hG 9 rfl (inb_in b1) rfl dX2_warm_13 ?_
  refine lv_iload_n hx hb dX2_warm_14 rfl (lv_at hl 2 rfl) ?_
  refine lv_iadd hx hb dX2_warm_15 ?_
  refine va_mmin hx hb (C.1.2.2.1.trans hl.1.symm) hown (hts _ q821) (hts _ q687) (hts _ q184) (hts _ q688) (Nat.le_of_ble_eq_true rfl) (Nat.le_of_ble_eq_true rfl) (Nat.le_of_ble_eq_true rfl) (Nat.le_of_ble_eq_true rfl) dX2_warm_16 ?_
  refine g_int (v := (imin 9999 ((ww 9 x1.toNatClampNeg) + x2))) rfl ?_
  obtain ⟨ww_2, eww_2, h⟩ := thn_some h
  refine gS_i (x := (imin 9999 ((ww 9 x1.toNatClampNeg) + x2))) (ws' := (rW E aw ww_2 ++ [])) C hG 9 rfl (inb_in b1) rfl dX2_warm_19 (by rw [eww_2]; rfl) (fun H locs hG => ?_)
  refine lv_aload_n hx hb dX2_warm_20 rfl (lv_at hl 0 rfl) ?_
  refine gL_f (v := .ref (aw 10)) C hG kX2 2 7 rfl (by decide) rfl q231 rfl dX2_warm_21 ?_
  refine lv_iload_n hx hb dX2_warm_24 rfl (lv_at hl 1 rfl) ?_
  refine lv_dup2_11 hx hb dX2_warm_25 rfl rfl ?_
  refine gL_i (v := (ww_2 10 x1.toNatClampNeg)) C hG 10 rfl (inb_in b1) rfl dX2_warm_26 ?_
  refine lv_iconst (v := 1) hx hb dX2_warm_27 (by decide) ?_
  refine lv_ior hx hb dX2_warm_28 ?_
  obtain ⟨ww_3, eww_3, h⟩ := thn_some h
  refine gS_i (x := ((ww_2 10 x1.toNatClampNeg) ||| 1)) (ws' := (rW E aw ww_3 ++ [])) C hG 10 rfl (inb_in b1) rfl dX2_warm_29 (by rw [eww_3]; rfl) (fun H locs hG => ?_)
  refine lv_aload_n hx hb dX2_warm_30 rfl (lv_at hl 0 rfl) ?_
  refine gL_f (v := .ref (aw 11)) C hG kX2 2 8 rfl (by decide) rfl q233 rfl dX2_warm_31 ?_
  refine lv_iload_n hx hb dX2_warm_34 rfl (lv_at hl 1 rfl) ?_
  refine lv_dup2_11 hx hb dX2_warm_35 rfl rfl ?_
  refine gL_i (v := (ww_3 11 x1.toNatClampNeg)) C hG 11 rfl (inb_in b1) rfl dX2_warm_36 ?_
  refine lv_iconst (v := 1) hx hb dX2_warm_37 (by decide) ?_
  refine lv_iadd hx hb dX2_warm_38 ?_
  obtain ⟨ww_4, eww_4, h⟩ := thn_some h
  refine gS_i (x := ((ww_3 11 x1.toNatClampNeg) + 1)) (ws' := (rW E aw ww_4 ++ [])) C hG 11 rfl (inb_in b1) rfl dX2_warm_39 (by rw [eww_4]; rfl) (fun H locs hG => ?_)
  exact hret _ _ _ _ _ h hG dX2_warm_40
set_option maxHeartbeats 4000000 in
set_option maxRecDepth 100000 in
theorem c_X1_fastAt (l : Launch) (E : GE) (aw : Nat → Nat) (N : Nat) (x1 : Int32) (ww : RS) {res : Int32} (h : fX1_fastAt N x1 ww = some res) : gMi l E yX1_fastAt cX1_fastAt 3 .int 1 0 0 [.ref (aw 15), .int x1] (rW E aw ww ++ []) (rW E aw ww ++ []) res := by
  refine gMi_of (own := RX1) (by decide +kernel) rfl (Nat.le_of_ble_eq_true rfl) ?_
  intro p e s m args below meth c A ls Q H locs C hz hl hG hret
  have hx := C.1.1
  have hb := C.1.2.1
  have hts := C.1.2.2.2.2
  have hown := C.1.2.2.2.1
  have hl : lv_has ls 3 [(0, .ref (aw 15)), (1, .int x1)] := hl
  replace hret : ∀ (r0 : Int32) (H : Heap) (locs : List Loc) (pc : Nat) (ls' : Array Slot), some r0 = some res → narrow .int (.int r0) = .int r0 → gG E A s.heap (rW E aw ww ++ []) H locs → decode cX1_fastAt pc = .ok (.ireturn, 1) → W p l e (rmD 1 0 0) s m args below meth c H locs 0 0 Q (F0 m pc ls' [.int r0]) := by
    intro r0 H locs pc ls' e0 hn; cases e0; exact hret H locs pc ls' hn
  rw [fX1_fastAt] at h
  refine lv_aload_n hx hb dX1_fastAt_0 rfl (lv_at hl 0 rfl) ?_
  refine gL_f (v := .ref (aw 18)) C hG kX1 15 2 rfl (by decide) rfl q277 rfl dX1_fastAt_1 ?_
  refine lv_iload_n hx hb dX1_fastAt_4 rfl (lv_at hl 1 rfl) ?_
  obtain ⟨b1, h⟩ := ck_some h
  refine gL_i (v := (ww 18 x1.toNatClampNeg)) C hG 18 rfl (inb_in b1) rfl dX1_fastAt_5 ?_
  obtain ⟨x2_2, ex2_2, h⟩ := thn_some h
  refine g_int ex2_2 ?_
  refine lv_istore_n (lv' := [(2, .int x2_2), (0, .ref (aw 15)), (1, .int x1)]) hx hb dX1_fastAt_6 rfl hl (by decide) rfl (fun ls hl => ?_)
  refine lv_iload_n hx hb dX1_fastAt_7 rfl (lv_at hl 0 rfl) ?_
  refine lv_if_lt (tgt := 26) hx hb dX1_fastAt_8 (by decide) (fun c8 => ?_) (fun c8 => ?_)
  · replace h := it c8 h
    refine lv_iconst (v := (-1)) hx hb dX1_fastAt_26 (by decide) ?_
    exact hret _ _ _ _ _ h rfl hG dX1_fastAt_27
  · replace h := ie c8 h
    refine lv_iload_n hx hb dX1_fastAt_11 rfl (lv_at hl 0 rfl) ?_
    refine lv_bipush (v := 9) hx hb dX1_fastAt_12 (by decide) ?_
    refine lv_icmp_ge (tgt := 26) hx hb dX1_fastAt_14 (by decide) (fun c14 => ?_) (fun c14 => ?_)
    · replace h := it c14 h
      refine lv_iconst (v := (-1)) hx hb dX1_fastAt_26 (by decide) ?_
      exact hret _ _ _ _ _ h rfl hG dX1_fastAt_27
    · replace h := ie c14 h
      refine lv_aload_n hx hb dX1_fastAt_17 rfl (lv_at hl 1 rfl) ?_
      refine gL_f (v := .ref (aw 17)) C hG kX1 15 1 rfl (by decide) rfl q275 rfl dX1_fastAt_18 ?_
      refine lv_iload_n hx hb dX1_fastAt_21 rfl (lv_at hl 0 rfl) ?_
      obtain ⟨b3, h⟩ := ck_some h
      refine gL_i (v := (ww 17 x2_2.toNatClampNeg)) C hG 17 rfl (inb_in b3) rfl dX1_fastAt_22 ?_
      refine lv_goto (tgt := 27) hx hb dX1_fastAt_23 (by decide) ?_
      exact hret _ _ _ _ _ h rfl hG dX1_fastAt_27
set_option maxHeartbeats 4000000 in
set_option maxRecDepth 100000 in
theorem c_X1_putFast (l : Launch) (E : GE) (aw : Nat → Nat) (N : Nat) (x1 : Int32) (x2 : Int32) (ww : RS) {res : RS} (h : fX1_putFast N x1 x2 ww = some res) : gMv l E yX1_putFast cX1_putFast 4 1 0 0 [.ref (aw 15), .int x1, .int x2] (rW E aw ww ++ []) (rW E aw res ++ []) := by
  refine gMv_of (own := RX1) (by decide +kernel) rfl (Nat.le_of_ble_eq_true rfl) ?_
  intro p e s m args below meth c A ls Q H locs C hz hl hG hin hret
  have hx := C.1.1
  have hb := C.1.2.1
  have hts := C.1.2.2.2.2
  have hown := C.1.2.2.2.1
  have hl : lv_has ls 4 [(0, .ref (aw 15)), (1, .int x1), (2, .int x2)] := hl
  replace hret : ∀ (ww0 : RS) (H : Heap) (locs : List Loc) (pc : Nat) (ls' : Array Slot), some ww0 = some res → gG E A s.heap (rW E aw ww0 ++ []) H locs → decode cX1_putFast pc = .ok (.return_, 1) → W p l e (rmD 1 0 0) s m args below meth c H locs 0 0 Q (F0 m pc ls' []) := by
    intro ww0 H locs pc ls' e0; cases e0; exact hret H locs pc ls'
  rw [fX1_putFast] at h
  refine lv_aload_n hx hb dX1_putFast_0 rfl (lv_at hl 0 rfl) ?_
  refine gL_f (v := .ref (aw 18)) C hG kX1 15 2 rfl (by decide) rfl q277 rfl dX1_putFast_1 ?_
  refine lv_iload_n hx hb dX1_putFast_4 rfl (lv_at hl 1 rfl) ?_
  obtain ⟨b1, h⟩ := ck_some h
  refine gL_i (v := (ww 18 x1.toNatClampNeg)) C hG 18 rfl (inb_in b1) rfl dX1_putFast_5 ?_
  obtain ⟨x3_2, ex3_2, h⟩ := thn_some h
  refine g_int ex3_2 ?_
  refine lv_istore_n (lv' := [(3, .int x3_2), (0, .ref (aw 15)), (1, .int x1), (2, .int x2)]) hx hb dX1_putFast_6 rfl hl (by decide) rfl (fun ls hl => ?_)
  refine lv_iload_n hx hb dX1_putFast_7 rfl (lv_at hl 0 rfl) ?_
  refine lv_if_lt (tgt := 24) hx hb dX1_putFast_8 (by decide) (fun c8 => ?_) (fun c8 => ?_)
  · replace h := it c8 h
    exact hret _ _ _ _ _ h hG dX1_putFast_24
  · replace h := ie c8 h
    refine lv_iload_n hx hb dX1_putFast_11 rfl (lv_at hl 0 rfl) ?_
    refine lv_bipush (v := 9) hx hb dX1_putFast_12 (by decide) ?_
    refine lv_icmp_ge (tgt := 24) hx hb dX1_putFast_14 (by decide) (fun c14 => ?_) (fun c14 => ?_)
    · replace h := it c14 h
      exact hret _ _ _ _ _ h hG dX1_putFast_24
    · replace h := ie c14 h
      refine lv_aload_n hx hb dX1_putFast_17 rfl (lv_at hl 1 rfl) ?_
      refine gL_f (v := .ref (aw 17)) C hG kX1 15 1 rfl (by decide) rfl q275 rfl dX1_putFast_18 ?_
      refine lv_iload_n hx hb dX1_putFast_21 rfl (lv_at hl 0 rfl) ?_
      refine lv_iload_n hx hb dX1_putFast_22 rfl (lv_at hl 3 rfl) ?_
      obtain ⟨b3, h⟩ := ck_some h
      obtain ⟨ww_4, eww_4, h⟩ := thn_some h
      refine gS_i (x := x2) (ws' := (rW E aw ww_4 ++ [])) C hG 17 rfl (inb_in b3) rfl dX1_putFast_23 (by rw [eww_4]; rfl) (fun H locs hG => ?_)
      exact hret _ _ _ _ _ h hG dX1_putFast_24
set_option maxHeartbeats 4000000 in
set_option maxRecDepth 100000 in
theorem c_X5_find (l : Launch) (E : GE) (aw : Nat → Nat) (N : Nat) (x1 : Int32) (ww : RS) {res : Int32} (h : fX5_find N x1 ww = some res) : gMi l E yX5_find cX5_find 3 .int 1 0 0 [.ref (aw 23), .int x1] (rW E aw ww ++ []) (rW E aw ww ++ []) res := by
  refine gMi_of (own := RX5) (by decide +kernel) rfl (Nat.le_of_ble_eq_true rfl) ?_
  intro p e s m args below meth c A ls Q H locs C hz hl hG hret
  have hx := C.1.1
  have hb := C.1.2.1
  have hts := C.1.2.2.2.2
  have hown := C.1.2.2.2.1
  have hl : lv_has ls 3 [(0, .ref (aw 23)), (1, .int x1)] := hl
  replace hret : ∀ (r0 : Int32) (H : Heap) (locs : List Loc) (pc : Nat) (ls' : Array Slot), some r0 = some res → narrow .int (.int r0) = .int r0 → gG E A s.heap (rW E aw ww ++ []) H locs → decode cX5_find pc = .ok (.ireturn, 1) → W p l e (rmD 1 0 0) s m args below meth c H locs 0 0 Q (F0 m pc ls' [.int r0]) := by
    intro r0 H locs pc ls' e0 hn; cases e0; exact hret H locs pc ls' hn
  have K2 : ∀ (k : Nat), ∀  (x2 : Int32) (H : Heap) (locs : List Loc) (ls : Array Slot), gG E A s.heap (rW E aw ww ++ []) H locs → lv_has ls 3 [(0, .ref (aw 23)), (1, .int x1), (2, .int x2)] → fX5_find_L2 N x1 ww k x2 = some res → W p l e (rmD 1 0 0) s m args below meth c H locs 0 0 Q (F0 m 2 ls []) := by
    intro k
    induction k with
    | zero => intro x2 H locs ls hG hl h; exact absurd (show none = _ from h) (by simp)
    | succ k ih =>
      intro x2 H locs ls hG hl h
      rw [fX5_find_L2] at h
      refine lv_iload_n hx hb dX5_find_2 rfl (lv_at hl 2 rfl) ?_
      refine lv_aload_n hx hb dX5_find_3 rfl (lv_at hl 0 rfl) ?_
      refine gL_f (v := .int (ww 23 0)) C hG kX5 23 0 rfl (by decide) rfl q313 rfl dX5_find_4 ?_
      refine lv_icmp_ge (tgt := 28) hx hb dX5_find_7 (by decide) (fun c7 => ?_) (fun c7 => ?_)
      · replace h := it c7 h
        refine lv_iconst (v := (-1)) hx hb dX5_find_28 (by decide) ?_
        exact hret _ _ _ _ _ h rfl hG dX5_find_29
      · replace h := ie c7 h
        refine lv_aload_n hx hb dX5_find_10 rfl (lv_at hl 0 rfl) ?_
        refine gL_f (v := .ref (aw 24)) C hG kX5 23 1 rfl (by decide) rfl q317 rfl dX5_find_11 ?_
        refine lv_iload_n hx hb dX5_find_14 rfl (lv_at hl 2 rfl) ?_
        obtain ⟨b1, h⟩ := ck_some h
        refine gL_i (v := (ww 24 x2.toNatClampNeg)) C hG 24 rfl (inb_in b1) rfl dX5_find_15 ?_
        refine lv_iload_n hx hb dX5_find_16 rfl (lv_at hl 1 rfl) ?_
        refine lv_icmp_ne (tgt := 22) hx hb dX5_find_17 (by decide) (fun c17 => ?_) (fun c17 => ?_)
        · replace h := ie c17 h
          refine lv_iinc (v := (x2 + 1)) (lv' := [(2, .int (x2 + 1)), (0, .ref (aw 23)), (1, .int x1)]) hx hb dX5_find_22 hl (k := 2) rfl (congrArg (x2 + ·) (by decide : Int32.ofInt 1 = 1)) (by decide) rfl (fun ls hl => ?_)
          refine lv_goto (tgt := 2) hx hb dX5_find_25 (by decide) ?_
          exact ih (x2 + 1) _ _ _ hG (lv_sub hl [1, 2, 0] rfl) h
        · replace h := it c17 h
          refine lv_iload_n hx hb dX5_find_20 rfl (lv_at hl 2 rfl) ?_
          exact hret _ _ _ _ _ h rfl hG dX5_find_21
  rw [fX5_find] at h
  refine lv_iconst (v := 0) hx hb dX5_find_0 (by decide) ?_
  refine lv_istore_n (lv' := [(2, .int 0), (0, .ref (aw 23)), (1, .int x1)]) hx hb dX5_find_1 rfl hl (by decide) rfl (fun ls hl => ?_)
  exact K2 N 0 _ _ _ hG (lv_sub hl [1, 2, 0] rfl) h
set_option maxHeartbeats 4000000 in
set_option maxRecDepth 100000 in
theorem c_X0_add (l : Launch) (E : GE) (aw : Nat → Nat) (N : Nat) (x1 : Int32) (x2 : Int32) (x3 : Int32) (x4 : Int32) (ww : RS) {res : RS} (h : fX0_add N x1 x2 x3 x4 ww = some res) : gMv l E yX0_add cX0_add 6 1 0 0 [.ref (aw 28), .int x1, .int x2, .int x3, .int x4] (rW E aw ww ++ []) (rW E aw res ++ []) := by
  refine gMv_of (own := RX0) (by decide +kernel) rfl (Nat.le_of_ble_eq_true rfl) ?_
  intro p e s m args below meth c A ls Q H locs C hz hl hG hin hret
  have hx := C.1.1
  have hb := C.1.2.1
  have hts := C.1.2.2.2.2
  have hown := C.1.2.2.2.1
  have hl : lv_has ls 6 [(0, .ref (aw 28)), (1, .int x1), (2, .int x2), (3, .int x3), (4, .int x4)] := hl
  replace hret : ∀ (ww0 : RS) (H : Heap) (locs : List Loc) (pc : Nat) (ls' : Array Slot), some ww0 = some res → gG E A s.heap (rW E aw ww0 ++ []) H locs → decode cX0_add pc = .ok (.return_, 1) → W p l e (rmD 1 0 0) s m args below meth c H locs 0 0 Q (F0 m pc ls' []) := by
    intro ww0 H locs pc ls' e0; cases e0; exact hret H locs pc ls'
  have K38 : ∀  (ww : RS) (H : Heap) (locs : List Loc) (ls : Array Slot), gG E A s.heap (rW E aw ww ++ []) H locs → lv_has ls 6 [(0, .ref (aw 28)), (1, .int x1), (2, .int x2), (3, .int x3), (4, .int x4)] → fX0_add_L38 N x1 x2 x3 x4 ww = some res → W p l e (rmD 1 0 0) s m args below meth c H locs 0 0 Q (F0 m 38 ls []) := by
    intro ww H locs ls hG hl h
    rw [fX0_add_L38] at h
    refine lv_aload_n hx hb dX0_add_38 rfl (lv_at hl 0 rfl) ?_
    refine gL_f (v := .int (ww 28 0)) C hG kX0 28 0 rfl (by decide) rfl q345 rfl dX0_add_39 ?_
    refine lv_iconst (v := 4) hx hb dX0_add_42 (by decide) ?_
    refine lv_imul hx hb dX0_add_43 ?_
    obtain ⟨x5_1, ex5_1, h⟩ := thn_some h
    refine g_int ex5_1 ?_
    refine lv_istore (lv' := [(5, .int x5_1), (0, .ref (aw 28)), (1, .int x1), (2, .int x2), (3, .int x3), (4, .int x4)]) hx hb dX0_add_44 hl (by decide) rfl (fun ls hl => ?_)
    refine lv_aload_n hx hb dX0_add_46 rfl (lv_at hl 1 rfl) ?_
    refine gL_f (v := .ref (aw 29)) C hG kX0 28 1 rfl (by decide) rfl q346 rfl dX0_add_47 ?_
    refine lv_iload hx hb dX0_add_50 (lv_at hl 0 rfl) ?_
    refine lv_iload_n hx hb dX0_add_52 rfl (lv_at hl 2 rfl) ?_
    obtain ⟨b2, h⟩ := ck_some h
    obtain ⟨ww_3, eww_3, h⟩ := thn_some h
    refine gS_i (x := x1) (ws' := (rW E aw ww_3 ++ [])) C hG 29 rfl (inb_in b2) rfl dX0_add_53 (by rw [eww_3]; rfl) (fun H locs hG => ?_)
    refine lv_aload_n hx hb dX0_add_54 rfl (lv_at hl 1 rfl) ?_
    refine gL_f (v := .ref (aw 29)) C hG kX0 28 1 rfl (by decide) rfl q346 rfl dX0_add_55 ?_
    refine lv_iload hx hb dX0_add_58 (lv_at hl 0 rfl) ?_
    refine lv_iconst (v := 1) hx hb dX0_add_60 (by decide) ?_
    refine lv_iadd hx hb dX0_add_61 ?_
    refine lv_iload_n hx hb dX0_add_62 rfl (lv_at hl 3 rfl) ?_
    obtain ⟨b4, h⟩ := ck_some h
    obtain ⟨ww_5, eww_5, h⟩ := thn_some h
    refine gS_i (x := x2) (ws' := (rW E aw ww_5 ++ [])) C hG 29 rfl (inb_in b4) rfl dX0_add_63 (by rw [eww_5]; rfl) (fun H locs hG => ?_)
    refine lv_aload_n hx hb dX0_add_64 rfl (lv_at hl 1 rfl) ?_
    refine gL_f (v := .ref (aw 29)) C hG kX0 28 1 rfl (by decide) rfl q346 rfl dX0_add_65 ?_
    refine lv_iload hx hb dX0_add_68 (lv_at hl 0 rfl) ?_
    refine lv_iconst (v := 2) hx hb dX0_add_70 (by decide) ?_
    refine lv_iadd hx hb dX0_add_71 ?_
    refine lv_iload_n hx hb dX0_add_72 rfl (lv_at hl 4 rfl) ?_
    obtain ⟨b6, h⟩ := ck_some h
    obtain ⟨ww_7, eww_7, h⟩ := thn_some h
    refine gS_i (x := x3) (ws' := (rW E aw ww_7 ++ [])) C hG 29 rfl (inb_in b6) rfl dX0_add_73 (by rw [eww_7]; rfl) (fun H locs hG => ?_)
    refine lv_aload_n hx hb dX0_add_74 rfl (lv_at hl 1 rfl) ?_
    refine gL_f (v := .ref (aw 29)) C hG kX0 28 1 rfl (by decide) rfl q346 rfl dX0_add_75 ?_
    refine lv_iload hx hb dX0_add_78 (lv_at hl 0 rfl) ?_
    refine lv_iconst (v := 3) hx hb dX0_add_80 (by decide) ?_
    refine lv_iadd hx hb dX0_add_81 ?_
    refine lv_iload hx hb dX0_add_82 (lv_at hl 5 rfl) ?_
    obtain ⟨b8, h⟩ := ck_some h
    obtain ⟨ww_9, eww_9, h⟩ := thn_some h
    refine gS_i (x := x4) (ws' := (rW E aw ww_9 ++ [])) C hG 29 rfl (inb_in b8) rfl dX0_add_84 (by rw [eww_9]; rfl) (fun H locs hG => ?_)
    refine lv_aload_n hx hb dX0_add_85 rfl (lv_at hl 1 rfl) ?_
    refine lv_dup hx hb dX0_add_86 rfl ?_
    refine gL_f (v := .int (ww_9 28 0)) C hG kX0 28 0 rfl (by decide) rfl q345 rfl dX0_add_87 ?_
    refine lv_iconst (v := 1) hx hb dX0_add_90 (by decide) ?_
    refine lv_iadd hx hb dX0_add_91 ?_
    obtain ⟨ww_10, eww_10, h⟩ := thn_some h
    refine gS_f (v := .int ((ww_9 28 0) + 1)) (ws' := (rW E aw ww_10 ++ [])) C hG kX0 28 0 rfl (by decide) q345 rfl rfl rfl rfl (by show 0 < 2; decide) dX0_add_92 (by rw [eww_10]; rfl) (fun H locs hG => ?_)
    exact hret _ _ _ _ _ h hG dX0_add_95
  rw [fX0_add] at h
  refine lv_aload_n hx hb dX0_add_0 rfl (lv_at hl 0 rfl) ?_
  refine gL_f (v := .int (ww 28 0)) C hG kX0 28 0 rfl (by decide) rfl q345 rfl dX0_add_1 ?_
  refine lv_bipush (v := 25) hx hb dX0_add_4 (by decide) ?_
  refine lv_icmp_ne (tgt := 38) hx hb dX0_add_6 (by decide) (fun c6 => ?_) (fun c6 => ?_)
  · replace h := ie c6 h
    exact K38 ww _ _ _ hG (lv_sub hl [0, 1, 2, 3, 4] rfl) h
  · replace h := it c6 h
    refine lv_aload_n hx hb dX0_add_9 rfl (lv_at hl 0 rfl) ?_
    refine lv_dup hx hb dX0_add_10 rfl ?_
    refine gL_f (v := .int (ww 28 0)) C hG kX0 28 0 rfl (by decide) rfl q345 rfl dX0_add_11 ?_
    refine lv_iconst (v := 1) hx hb dX0_add_14 (by decide) ?_
    refine lv_isub hx hb dX0_add_15 ?_
    obtain ⟨ww_1, eww_1, h⟩ := thn_some h
    refine gS_f (v := .int ((ww 28 0) - 1)) (ws' := (rW E aw ww_1 ++ [])) C hG kX0 28 0 rfl (by decide) q345 rfl rfl rfl rfl (by show 0 < 2; decide) dX0_add_16 (by rw [eww_1]; rfl) (fun H locs hG => ?_)
    refine lv_aload_n hx hb dX0_add_19 rfl (lv_at hl 0 rfl) ?_
    refine gL_f (v := .ref (aw 29)) C hG kX0 28 1 rfl (by decide) rfl q346 rfl dX0_add_20 ?_
    refine lv_iconst (v := 4) hx hb dX0_add_23 (by decide) ?_
    refine lv_aload_n hx hb dX0_add_24 rfl (lv_at hl 0 rfl) ?_
    refine gL_f (v := .ref (aw 29)) C hG kX0 28 1 rfl (by decide) rfl q346 rfl dX0_add_25 ?_
    refine lv_iconst (v := 0) hx hb dX0_add_28 (by decide) ?_
    refine lv_aload_n hx hb dX0_add_29 rfl (lv_at hl 0 rfl) ?_
    refine gL_f (v := .int (ww_1 28 0)) C hG kX0 28 0 rfl (by decide) rfl q345 rfl dX0_add_30 ?_
    refine lv_iconst (v := 4) hx hb dX0_add_33 (by decide) ?_
    refine lv_imul hx hb dX0_add_34 ?_
    obtain ⟨b2, h⟩ := ck_some h
    obtain ⟨ww_3, eww_3, h⟩ := thn_some h
    have hset : ∀ f9 : Nat → Int32, List.set (rW E aw ww_1 ++ []) 29 (aw 29, .inl (E.2.1 0, 100, .inl f9)) = (rW E aw (sr ww_1 29 f9) ++ []) := fun _ => rfl
    refine gS_cpy (n0 := 100) (n1 := 100) (js := 4) (jd := 0) (jn := ((ww_1 28 0) * 4).toNatClampNeg) (ws' := (rW E aw ww_3 ++ [])) C hl.1 hG 29 29 rfl rfl (b2) (nI_clamp (n := 4) (by decide)) (nI_clamp (n := 0) (by decide)) rfl q802 q740 q739 q186 (Nat.le_of_ble_eq_true rfl) (Nat.le_of_ble_eq_true rfl) dX0_add_35 (by rw [eww_3]; exact hset _) (fun H locs hG => ?_)
    exact K38 ww_3 _ _ _ hG (lv_sub hl [0, 1, 2, 3, 4] rfl) h
set_option maxHeartbeats 4000000 in
set_option maxRecDepth 100000 in
theorem c_X5_add (l : Launch) (E : GE) (aw : Nat → Nat) (N : Nat) (x1 : Int32) (x2 : Int32) (ww : RS) {res : RS} (h : fX5_add N x1 x2 ww = some res) : gMv l E yX5_add cX5_add 3 1 0 0 [.ref (aw 23), .int x1, .int x2] (rW E aw ww ++ []) (rW E aw res ++ []) := by
  refine gMv_of (own := RX5) (by decide +kernel) rfl (Nat.le_of_ble_eq_true rfl) ?_
  intro p e s m args below meth c A ls Q H locs C hz hl hG hin hret
  have hx := C.1.1
  have hb := C.1.2.1
  have hts := C.1.2.2.2.2
  have hown := C.1.2.2.2.1
  have hl : lv_has ls 3 [(0, .ref (aw 23)), (1, .int x1), (2, .int x2)] := hl
  replace hret : ∀ (ww0 : RS) (H : Heap) (locs : List Loc) (pc : Nat) (ls' : Array Slot), some ww0 = some res → gG E A s.heap (rW E aw ww0 ++ []) H locs → decode cX5_add pc = .ok (.return_, 1) → W p l e (rmD 1 0 0) s m args below meth c H locs 0 0 Q (F0 m pc ls' []) := by
    intro ww0 H locs pc ls' e0; cases e0; exact hret H locs pc ls'
  rw [fX5_add] at h
  refine lv_aload_n hx hb dX5_add_0 rfl (lv_at hl 0 rfl) ?_
  refine gL_f (v := .int (ww 23 0)) C hG kX5 23 0 rfl (by decide) rfl q313 rfl dX5_add_1 ?_
  refine lv_bipush (v := 10) hx hb dX5_add_4 (by decide) ?_
  refine lv_icmp_ge (tgt := 59) hx hb dX5_add_6 (by decide) (fun c6 => ?_) (fun c6 => ?_)
  · replace h := it c6 h
    exact hret _ _ _ _ _ h hG dX5_add_59
  · replace h := ie c6 h
    refine lv_aload_n hx hb dX5_add_9 rfl (lv_at hl 0 rfl) ?_
    refine gL_f (v := .ref (aw 24)) C hG kX5 23 1 rfl (by decide) rfl q317 rfl dX5_add_10 ?_
    refine lv_aload_n hx hb dX5_add_13 rfl (lv_at hl 0 rfl) ?_
    refine gL_f (v := .int (ww 23 0)) C hG kX5 23 0 rfl (by decide) rfl q313 rfl dX5_add_14 ?_
    refine lv_iload_n hx hb dX5_add_17 rfl (lv_at hl 1 rfl) ?_
    obtain ⟨b1, h⟩ := ck_some h
    obtain ⟨ww_2, eww_2, h⟩ := thn_some h
    refine gS_i (x := x1) (ws' := (rW E aw ww_2 ++ [])) C hG 24 rfl (inb_in b1) rfl dX5_add_18 (by rw [eww_2]; rfl) (fun H locs hG => ?_)
    refine lv_aload_n hx hb dX5_add_19 rfl (lv_at hl 0 rfl) ?_
    refine gL_f (v := .ref (aw 25)) C hG kX5 23 2 rfl (by decide) rfl q320 rfl dX5_add_20 ?_
    refine lv_aload_n hx hb dX5_add_23 rfl (lv_at hl 0 rfl) ?_
    refine gL_f (v := .int (ww_2 23 0)) C hG kX5 23 0 rfl (by decide) rfl q313 rfl dX5_add_24 ?_
    refine lv_iload_n hx hb dX5_add_27 rfl (lv_at hl 2 rfl) ?_
    obtain ⟨b3, h⟩ := ck_some h
    obtain ⟨ww_4, eww_4, h⟩ := thn_some h
    refine gS_i (x := x2) (ws' := (rW E aw ww_4 ++ [])) C hG 25 rfl (inb_in b3) rfl dX5_add_28 (by rw [eww_4]; rfl) (fun H locs hG => ?_)
    refine lv_aload_n hx hb dX5_add_29 rfl (lv_at hl 0 rfl) ?_
    refine gL_f (v := .ref (aw 26)) C hG kX5 23 3 rfl (by decide) rfl q323 rfl dX5_add_30 ?_
    refine lv_aload_n hx hb dX5_add_33 rfl (lv_at hl 0 rfl) ?_
    refine gL_f (v := .int (ww_4 23 0)) C hG kX5 23 0 rfl (by decide) rfl q313 rfl dX5_add_34 ?_
    refine lv_iconst (v := 0) hx hb dX5_add_37 (by decide) ?_
    obtain ⟨b5, h⟩ := ck_some h
    obtain ⟨ww_6, eww_6, h⟩ := thn_some h
    refine gS_i (x := 0) (ws' := (rW E aw ww_6 ++ [])) C hG 26 rfl (inb_in b5) rfl dX5_add_38 (by rw [eww_6]; rfl) (fun H locs hG => ?_)
    refine lv_aload_n hx hb dX5_add_39 rfl (lv_at hl 0 rfl) ?_
    refine gL_f (v := .ref (aw 27)) C hG kX5 23 4 rfl (by decide) rfl q326 rfl dX5_add_40 ?_
    refine lv_aload_n hx hb dX5_add_43 rfl (lv_at hl 0 rfl) ?_
    refine gL_f (v := .int (ww_6 23 0)) C hG kX5 23 0 rfl (by decide) rfl q313 rfl dX5_add_44 ?_
    refine lv_iconst (v := 0) hx hb dX5_add_47 (by decide) ?_
    obtain ⟨b7, h⟩ := ck_some h
    obtain ⟨ww_8, eww_8, h⟩ := thn_some h
    refine gS_i (x := 0) (ws' := (rW E aw ww_8 ++ [])) C hG 27 rfl (inb_in b7) rfl dX5_add_48 (by rw [eww_8]; rfl) (fun H locs hG => ?_)
    refine lv_aload_n hx hb dX5_add_49 rfl (lv_at hl 0 rfl) ?_
    refine lv_dup hx hb dX5_add_50 rfl ?_
    refine gL_f (v := .int (ww_8 23 0)) C hG kX5 23 0 rfl (by decide) rfl q313 rfl dX5_add_51 ?_
    refine lv_iconst (v := 1) hx hb dX5_add_54 (by decide) ?_
    refine lv_iadd hx hb dX5_add_55 ?_
    obtain ⟨ww_9, eww_9, h⟩ := thn_some h
    refine gS_f (v := .int ((ww_8 23 0) + 1)) (ws' := (rW E aw ww_9 ++ [])) C hG kX5 23 0 rfl (by decide) q313 rfl rfl rfl rfl (by show 0 < 5; decide) dX5_add_56 (by rw [eww_9]; rfl) (fun H locs hG => ?_)
    exact hret _ _ _ _ _ h hG dX5_add_59
set_option maxHeartbeats 4000000 in
set_option maxRecDepth 100000 in
theorem c_X5_holdsSlots (l : Launch) (E : GE) (aw : Nat → Nat) (N : Nat) (x1 : Int32) (ww : RS) {res : Int32} (h : fX5_holdsSlots N x1 ww = some res) : gMi l E yX5_holdsSlots cX5_holdsSlots 2 .boolean 1 0 0 [.ref (aw 23), .int x1] (rW E aw ww ++ []) (rW E aw ww ++ []) res := by
  refine gMi_of (own := RX5) (by decide +kernel) rfl (Nat.le_of_ble_eq_true rfl) ?_
  intro p e s m args below meth c A ls Q H locs C hz hl hG hret
  have hx := C.1.1
  have hb := C.1.2.1
  have hts := C.1.2.2.2.2
  have hown := C.1.2.2.2.1
  have hl : lv_has ls 2 [(0, .ref (aw 23)), (1, .int x1)] := hl
  replace hret : ∀ (r0 : Int32) (H : Heap) (locs : List Loc) (pc : Nat) (ls' : Array Slot), some r0 = some res → narrow .boolean (.int r0) = .int r0 → gG E A s.heap (rW E aw ww ++ []) H locs → decode cX5_holdsSlots pc = .ok (.ireturn, 1) → W p l e (rmD 1 0 0) s m args below meth c H locs 0 0 Q (F0 m pc ls' [.int r0]) := by
    intro r0 H locs pc ls' e0 hn; cases e0; exact hret H locs pc ls' hn
  rw [fX5_holdsSlots] at h
  refine lv_aload_n hx hb dX5_holdsSlots_0 rfl (lv_at hl 0 rfl) ?_
  refine gL_f (v := .ref (aw 26)) C hG kX5 23 3 rfl (by decide) rfl q323 rfl dX5_holdsSlots_1 ?_
  refine lv_iload_n hx hb dX5_holdsSlots_4 rfl (lv_at hl 1 rfl) ?_
  obtain ⟨b1, h⟩ := ck_some h
  refine gL_i (v := (ww 26 x1.toNatClampNeg)) C hG 26 rfl (inb_in b1) rfl dX5_holdsSlots_5 ?_
  refine lv_iconst (v := 1) hx hb dX5_holdsSlots_6 (by decide) ?_
  refine lv_icmp_ne (tgt := 24) hx hb dX5_holdsSlots_7 (by decide) (fun c7 => ?_) (fun c7 => ?_)
  · replace h := ie c7 h
    refine lv_iconst (v := 0) hx hb dX5_holdsSlots_24 (by decide) ?_
    exact hret _ _ _ _ _ h rfl hG dX5_holdsSlots_25
  · replace h := it c7 h
    refine lv_aload_n hx hb dX5_holdsSlots_10 rfl (lv_at hl 0 rfl) ?_
    refine gL_f (v := .ref (aw 25)) C hG kX5 23 2 rfl (by decide) rfl q320 rfl dX5_holdsSlots_11 ?_
    refine lv_iload_n hx hb dX5_holdsSlots_14 rfl (lv_at hl 1 rfl) ?_
    refine gL_i (v := (ww 25 x1.toNatClampNeg)) C hG 25 rfl (inb_in b1) rfl dX5_holdsSlots_15 ?_
    refine lv_iconst (v := 1) hx hb dX5_holdsSlots_16 (by decide) ?_
    refine lv_icmp_ne (tgt := 24) hx hb dX5_holdsSlots_17 (by decide) (fun c17 => ?_) (fun c17 => ?_)
    · replace h := ie c17 h
      refine lv_iconst (v := 0) hx hb dX5_holdsSlots_24 (by decide) ?_
      exact hret _ _ _ _ _ h rfl hG dX5_holdsSlots_25
    · replace h := it c17 h
      refine lv_iconst (v := 1) hx hb dX5_holdsSlots_20 (by decide) ?_
      refine lv_goto (tgt := 25) hx hb dX5_holdsSlots_21 (by decide) ?_
      exact hret _ _ _ _ _ h rfl hG dX5_holdsSlots_25
set_option maxHeartbeats 4000000 in
set_option maxRecDepth 100000 in
theorem c_X1_leaveSlots (l : Launch) (E : GE) (aw : Nat → Nat) (N : Nat) (x1 : Int32) (ww : RS) {res : RS} (h : fX1_leaveSlots N x1 ww = some res) : gMv l E yX1_leaveSlots cX1_leaveSlots 4 1 0 0 [.ref (aw 15), .int x1] (rW E aw ww ++ []) (rW E aw res ++ []) := by
  refine gMv_of (own := RX1) (by decide +kernel) rfl (Nat.le_of_ble_eq_true rfl) ?_
  intro p e s m args below meth c A ls Q H locs C hz hl hG hin hret
  have hx := C.1.1
  have hb := C.1.2.1
  have hts := C.1.2.2.2.2
  have hown := C.1.2.2.2.1
  have hl : lv_has ls 4 [(0, .ref (aw 15)), (1, .int x1)] := hl
  replace hret : ∀ (ww0 : RS) (H : Heap) (locs : List Loc) (pc : Nat) (ls' : Array Slot), some ww0 = some res → gG E A s.heap (rW E aw ww0 ++ []) H locs → decode cX1_leaveSlots pc = .ok (.return_, 1) → W p l e (rmD 1 0 0) s m args below meth c H locs 0 0 Q (F0 m pc ls' []) := by
    intro ww0 H locs pc ls' e0; cases e0; exact hret H locs pc ls'
  have K45 : ∀ (k6 : (Int32 → RS → Option (RS))) (hk6 : ∀  (x2 : Int32) (ww : RS) (H : Heap) (locs : List Loc) (ls : Array Slot), gG E A s.heap (rW E aw ww ++ []) H locs → lv_has ls 4 [(0, .ref (aw 15)), (1, .int x1), (2, .int x2)] → k6 x2 ww = some res → W p l e (rmD 1 0 0) s m args below meth c H locs 0 0 Q (F0 m 6 ls [])), ∀  (x2 : Int32) (ww : RS) (H : Heap) (locs : List Loc) (ls : Array Slot), gG E A s.heap (rW E aw ww ++ []) H locs → lv_has ls 4 [(0, .ref (aw 15)), (1, .int x1), (2, .int x2)] → fX1_leaveSlots_L45 N x1 k6 x2 ww = some res → W p l e (rmD 1 0 0) s m args below meth c H locs 0 0 Q (F0 m 45 ls []) := by
    intro k6 hk6 x2 ww H locs ls hG hl h
    rw [fX1_leaveSlots_L45] at h
    refine lv_aload_n hx hb dX1_leaveSlots_45 rfl (lv_at hl 0 rfl) ?_
    refine gL_f (v := .ref (aw 18)) C hG kX1 15 2 rfl (by decide) rfl q277 rfl dX1_leaveSlots_46 ?_
    refine lv_iload_n hx hb dX1_leaveSlots_49 rfl (lv_at hl 2 rfl) ?_
    refine lv_iconst (v := (-1)) hx hb dX1_leaveSlots_50 (by decide) ?_
    obtain ⟨b1, h⟩ := ck_some h
    obtain ⟨ww_2, eww_2, h⟩ := thn_some h
    refine gS_i (x := (-1)) (ws' := (rW E aw ww_2 ++ [])) C hG 18 rfl (inb_in b1) rfl dX1_leaveSlots_51 (by rw [eww_2]; rfl) (fun H locs hG => ?_)
    refine lv_iinc (v := (x2 + 1)) (lv' := [(2, .int (x2 + 1)), (0, .ref (aw 15)), (1, .int x1)]) hx hb dX1_leaveSlots_52 hl (k := 2) rfl (congrArg (x2 + ·) (by decide : Int32.ofInt 1 = 1)) (by decide) rfl (fun ls hl => ?_)
    refine lv_goto (tgt := 6) hx hb dX1_leaveSlots_55 (by decide) ?_
    exact hk6 (x2 + 1) ww_2 _ _ _ hG (lv_sub hl [1, 2, 0] rfl) h
  have K6 : ∀ (k : Nat), ∀  (x2 : Int32) (ww : RS) (H : Heap) (locs : List Loc) (ls : Array Slot), gG E A s.heap (rW E aw ww ++ []) H locs → lv_has ls 4 [(0, .ref (aw 15)), (1, .int x1), (2, .int x2)] → fX1_leaveSlots_L6 N x1 k x2 ww = some res → W p l e (rmD 1 0 0) s m args below meth c H locs 0 0 Q (F0 m 6 ls []) := by
    intro k
    induction k with
    | zero => intro x2 ww H locs ls hG hl h; exact absurd (show none = _ from h) (by simp)
    | succ k ih =>
      intro x2 ww H locs ls hG hl h
      rw [fX1_leaveSlots_L6] at h
      refine lv_iload_n hx hb dX1_leaveSlots_6 rfl (lv_at hl 2 rfl) ?_
      refine gT_sN C hG q896 dX1_leaveSlots_7 ?_
      refine lv_iload_n hx hb dX1_leaveSlots_10 rfl (lv_at hl 1 rfl) ?_
      obtain ⟨b1, h⟩ := ck_some h
      refine gT_si (v := (startT x1.toNatClampNeg)) C hG (inb_in b1) rfl dX1_leaveSlots_11 ?_
      refine gT_zN C hG q897 dX1_leaveSlots_12 ?_
      refine lv_iload_n hx hb dX1_leaveSlots_15 rfl (lv_at hl 1 rfl) ?_
      refine gT_zi (v := (sizeT x1.toNatClampNeg)) C hG (inb_in b1) rfl dX1_leaveSlots_16 ?_
      refine lv_iadd hx hb dX1_leaveSlots_17 ?_
      refine lv_icmp_ge (tgt := 58) hx hb dX1_leaveSlots_18 (by decide) (fun c18 => ?_) (fun c18 => ?_)
      · replace h := it c18 h
        exact hret _ _ _ _ _ h hG dX1_leaveSlots_58
      · replace h := ie c18 h
        refine lv_aload_n hx hb dX1_leaveSlots_21 rfl (lv_at hl 0 rfl) ?_
        refine gL_f (v := .ref (aw 18)) C hG kX1 15 2 rfl (by decide) rfl q277 rfl dX1_leaveSlots_22 ?_
        refine lv_iload_n hx hb dX1_leaveSlots_25 rfl (lv_at hl 2 rfl) ?_
        obtain ⟨b2, h⟩ := ck_some h
        refine gL_i (v := (ww 18 x2.toNatClampNeg)) C hG 18 rfl (inb_in b2) rfl dX1_leaveSlots_26 ?_
        obtain ⟨x3_3, ex3_3, h⟩ := thn_some h
        refine g_int ex3_3 ?_
        refine lv_istore_n (lv' := [(3, .int x3_3), (0, .ref (aw 15)), (1, .int x1), (2, .int x2)]) hx hb dX1_leaveSlots_27 rfl hl (by decide) rfl (fun ls hl => ?_)
        refine lv_iload_n hx hb dX1_leaveSlots_28 rfl (lv_at hl 0 rfl) ?_
        refine lv_if_lt (tgt := 45) hx hb dX1_leaveSlots_29 (by decide) (fun c29 => ?_) (fun c29 => ?_)
        · replace h := it c29 h
          exact K45 _ ih x2 ww _ _ _ hG (lv_sub hl [1, 2, 3] rfl) h
        · replace h := ie c29 h
          refine lv_iload_n hx hb dX1_leaveSlots_32 rfl (lv_at hl 0 rfl) ?_
          refine lv_bipush (v := 9) hx hb dX1_leaveSlots_33 (by decide) ?_
          refine lv_icmp_ge (tgt := 45) hx hb dX1_leaveSlots_35 (by decide) (fun c35 => ?_) (fun c35 => ?_)
          · replace h := it c35 h
            exact K45 _ ih x2 ww _ _ _ hG (lv_sub hl [1, 2, 3] rfl) h
          · replace h := ie c35 h
            refine lv_aload_n hx hb dX1_leaveSlots_38 rfl (lv_at hl 1 rfl) ?_
            refine gL_f (v := .ref (aw 19)) C hG kX1 15 3 rfl (by decide) rfl q279 rfl dX1_leaveSlots_39 ?_
            refine lv_iload_n hx hb dX1_leaveSlots_42 rfl (lv_at hl 0 rfl) ?_
            refine lv_iconst (v := (-1)) hx hb dX1_leaveSlots_43 (by decide) ?_
            obtain ⟨b4, h⟩ := ck_some h
            obtain ⟨ww_5, eww_5, h⟩ := thn_some h
            refine gS_i (x := (-1)) (ws' := (rW E aw ww_5 ++ [])) C hG 19 rfl (inb_in b4) rfl dX1_leaveSlots_44 (by rw [eww_5]; rfl) (fun H locs hG => ?_)
            exact K45 _ ih x2 ww_5 _ _ _ hG (lv_sub hl [1, 2, 3] rfl) h
  rw [fX1_leaveSlots] at h
  refine gT_sN C hG q896 dX1_leaveSlots_0 ?_
  refine lv_iload_n hx hb dX1_leaveSlots_3 rfl (lv_at hl 1 rfl) ?_
  obtain ⟨b1, h⟩ := ck_some h
  refine gT_si (v := (startT x1.toNatClampNeg)) C hG (inb_in b1) rfl dX1_leaveSlots_4 ?_
  obtain ⟨x2_2, ex2_2, h⟩ := thn_some h
  refine g_int ex2_2 ?_
  refine lv_istore_n (lv' := [(2, .int x2_2), (0, .ref (aw 15)), (1, .int x1)]) hx hb dX1_leaveSlots_5 rfl hl (by decide) rfl (fun ls hl => ?_)
  exact K6 N x2_2 ww _ _ _ hG (lv_sub hl [1, 2, 0] rfl) h
set_option maxHeartbeats 4000000 in
set_option maxRecDepth 100000 in
theorem c_X5_remove (l : Launch) (E : GE) (aw : Nat → Nat) (N : Nat) (x1 : Int32) (ww : RS) {res : RS} (h : fX5_remove N x1 ww = some res) : gMv l E yX5_remove cX5_remove 2 1 0 0 [.ref (aw 23), .int x1] (rW E aw ww ++ []) (rW E aw res ++ []) := by
  refine gMv_of (own := RX5) (by decide +kernel) rfl (Nat.le_of_ble_eq_true rfl) ?_
  intro p e s m args below meth c A ls Q H locs C hz hl hG hin hret
  have hx := C.1.1
  have hb := C.1.2.1
  have hts := C.1.2.2.2.2
  have hown := C.1.2.2.2.1
  have hl : lv_has ls 2 [(0, .ref (aw 23)), (1, .int x1)] := hl
  replace hret : ∀ (ww0 : RS) (H : Heap) (locs : List Loc) (pc : Nat) (ls' : Array Slot), some ww0 = some res → gG E A s.heap (rW E aw ww0 ++ []) H locs → decode cX5_remove pc = .ok (.return_, 1) → W p l e (rmD 1 0 0) s m args below meth c H locs 0 0 Q (F0 m pc ls' []) := by
    intro ww0 H locs pc ls' e0; cases e0; exact hret H locs pc ls'
  rw [fX5_remove] at h
  refine lv_iload_n hx hb dX5_remove_0 rfl (lv_at hl 1 rfl) ?_
  refine lv_if_lt (tgt := 106) hx hb dX5_remove_1 (by decide) (fun c1 => ?_) (fun c1 => ?_)
  · replace h := it c1 h
    exact hret _ _ _ _ _ h hG dX5_remove_106
  · replace h := ie c1 h
    refine lv_iload_n hx hb dX5_remove_4 rfl (lv_at hl 1 rfl) ?_
    refine lv_aload_n hx hb dX5_remove_5 rfl (lv_at hl 0 rfl) ?_
    refine gL_f (v := .int (ww 23 0)) C hG kX5 23 0 rfl (by decide) rfl q313 rfl dX5_remove_6 ?_
    refine lv_icmp_ge (tgt := 106) hx hb dX5_remove_9 (by decide) (fun c9 => ?_) (fun c9 => ?_)
    · replace h := it c9 h
      exact hret _ _ _ _ _ h hG dX5_remove_106
    · replace h := ie c9 h
      refine lv_aload_n hx hb dX5_remove_12 rfl (lv_at hl 0 rfl) ?_
      refine lv_dup hx hb dX5_remove_13 rfl ?_
      refine gL_f (v := .int (ww 23 0)) C hG kX5 23 0 rfl (by decide) rfl q313 rfl dX5_remove_14 ?_
      refine lv_iconst (v := 1) hx hb dX5_remove_17 (by decide) ?_
      refine lv_isub hx hb dX5_remove_18 ?_
      obtain ⟨ww_1, eww_1, h⟩ := thn_some h
      refine gS_f (v := .int ((ww 23 0) - 1)) (ws' := (rW E aw ww_1 ++ [])) C hG kX5 23 0 rfl (by decide) q313 rfl rfl rfl rfl (by show 0 < 5; decide) dX5_remove_19 (by rw [eww_1]; rfl) (fun H locs hG => ?_)
      refine lv_aload_n hx hb dX5_remove_22 rfl (lv_at hl 0 rfl) ?_
      refine gL_f (v := .ref (aw 24)) C hG kX5 23 1 rfl (by decide) rfl q317 rfl dX5_remove_23 ?_
      refine lv_iload_n hx hb dX5_remove_26 rfl (lv_at hl 1 rfl) ?_
      refine lv_iconst (v := 1) hx hb dX5_remove_27 (by decide) ?_
      refine lv_iadd hx hb dX5_remove_28 ?_
      refine lv_aload_n hx hb dX5_remove_29 rfl (lv_at hl 0 rfl) ?_
      refine gL_f (v := .ref (aw 24)) C hG kX5 23 1 rfl (by decide) rfl q317 rfl dX5_remove_30 ?_
      refine lv_iload_n hx hb dX5_remove_33 rfl (lv_at hl 1 rfl) ?_
      refine lv_aload_n hx hb dX5_remove_34 rfl (lv_at hl 0 rfl) ?_
      refine gL_f (v := .int (ww_1 23 0)) C hG kX5 23 0 rfl (by decide) rfl q313 rfl dX5_remove_35 ?_
      refine lv_iload_n hx hb dX5_remove_38 rfl (lv_at hl 1 rfl) ?_
      refine lv_isub hx hb dX5_remove_39 ?_
      obtain ⟨b2, h⟩ := ck_some h
      obtain ⟨ww_3, eww_3, h⟩ := thn_some h
      have hset : ∀ f9 : Nat → Int32, List.set (rW E aw ww_1 ++ []) 24 (aw 24, .inl (E.2.1 0, 10, .inl f9)) = (rW E aw (sr ww_1 24 f9) ++ []) := fun _ => rfl
      refine gS_cpy (n0 := 10) (n1 := 10) (js := (x1 + 1).toNatClampNeg) (jd := x1.toNatClampNeg) (jn := ((ww_1 23 0) - x1).toNatClampNeg) (ws' := (rW E aw ww_3 ++ [])) C hl.1 hG 24 24 rfl rfl (b2) rfl rfl rfl q797 q740 q739 q186 (Nat.le_of_ble_eq_true rfl) (Nat.le_of_ble_eq_true rfl) dX5_remove_40 (by rw [eww_3]; exact hset _) (fun H locs hG => ?_)
      refine lv_aload_n hx hb dX5_remove_43 rfl (lv_at hl 0 rfl) ?_
      refine gL_f (v := .ref (aw 25)) C hG kX5 23 2 rfl (by decide) rfl q320 rfl dX5_remove_44 ?_
      refine lv_iload_n hx hb dX5_remove_47 rfl (lv_at hl 1 rfl) ?_
      refine lv_iconst (v := 1) hx hb dX5_remove_48 (by decide) ?_
      refine lv_iadd hx hb dX5_remove_49 ?_
      refine lv_aload_n hx hb dX5_remove_50 rfl (lv_at hl 0 rfl) ?_
      refine gL_f (v := .ref (aw 25)) C hG kX5 23 2 rfl (by decide) rfl q320 rfl dX5_remove_51 ?_
      refine lv_iload_n hx hb dX5_remove_54 rfl (lv_at hl 1 rfl) ?_
      refine lv_aload_n hx hb dX5_remove_55 rfl (lv_at hl 0 rfl) ?_
      refine gL_f (v := .int (ww_3 23 0)) C hG kX5 23 0 rfl (by decide) rfl q313 rfl dX5_remove_56 ?_
      refine lv_iload_n hx hb dX5_remove_59 rfl (lv_at hl 1 rfl) ?_
      refine lv_isub hx hb dX5_remove_60 ?_
      obtain ⟨b4, h⟩ := ck_some h
      obtain ⟨ww_5, eww_5, h⟩ := thn_some h
      have hset : ∀ f9 : Nat → Int32, List.set (rW E aw ww_3 ++ []) 25 (aw 25, .inl (E.2.1 0, 10, .inl f9)) = (rW E aw (sr ww_3 25 f9) ++ []) := fun _ => rfl
      refine gS_cpy (n0 := 10) (n1 := 10) (js := (x1 + 1).toNatClampNeg) (jd := x1.toNatClampNeg) (jn := ((ww_3 23 0) - x1).toNatClampNeg) (ws' := (rW E aw ww_5 ++ [])) C hl.1 hG 25 25 rfl rfl (b4) rfl rfl rfl q797 q740 q739 q186 (Nat.le_of_ble_eq_true rfl) (Nat.le_of_ble_eq_true rfl) dX5_remove_61 (by rw [eww_5]; exact hset _) (fun H locs hG => ?_)
      refine lv_aload_n hx hb dX5_remove_64 rfl (lv_at hl 0 rfl) ?_
      refine gL_f (v := .ref (aw 26)) C hG kX5 23 3 rfl (by decide) rfl q323 rfl dX5_remove_65 ?_
      refine lv_iload_n hx hb dX5_remove_68 rfl (lv_at hl 1 rfl) ?_
      refine lv_iconst (v := 1) hx hb dX5_remove_69 (by decide) ?_
      refine lv_iadd hx hb dX5_remove_70 ?_
      refine lv_aload_n hx hb dX5_remove_71 rfl (lv_at hl 0 rfl) ?_
      refine gL_f (v := .ref (aw 26)) C hG kX5 23 3 rfl (by decide) rfl q323 rfl dX5_remove_72 ?_
      refine lv_iload_n hx hb dX5_remove_75 rfl (lv_at hl 1 rfl) ?_
      refine lv_aload_n hx hb dX5_remove_76 rfl (lv_at hl 0 rfl) ?_
      refine gL_f (v := .int (ww_5 23 0)) C hG kX5 23 0 rfl (by decide) rfl q313 rfl dX5_remove_77 ?_
      refine lv_iload_n hx hb dX5_remove_80 rfl (lv_at hl 1 rfl) ?_
      refine lv_isub hx hb dX5_remove_81 ?_
      obtain ⟨b6, h⟩ := ck_some h
      obtain ⟨ww_7, eww_7, h⟩ := thn_some h
      have hset : ∀ f9 : Nat → Int32, List.set (rW E aw ww_5 ++ []) 26 (aw 26, .inl (E.2.1 0, 10, .inl f9)) = (rW E aw (sr ww_5 26 f9) ++ []) := fun _ => rfl
      refine gS_cpy (n0 := 10) (n1 := 10) (js := (x1 + 1).toNatClampNeg) (jd := x1.toNatClampNeg) (jn := ((ww_5 23 0) - x1).toNatClampNeg) (ws' := (rW E aw ww_7 ++ [])) C hl.1 hG 26 26 rfl rfl (b6) rfl rfl rfl q797 q740 q739 q186 (Nat.le_of_ble_eq_true rfl) (Nat.le_of_ble_eq_true rfl) dX5_remove_82 (by rw [eww_7]; exact hset _) (fun H locs hG => ?_)
      refine lv_aload_n hx hb dX5_remove_85 rfl (lv_at hl 0 rfl) ?_
      refine gL_f (v := .ref (aw 27)) C hG kX5 23 4 rfl (by decide) rfl q326 rfl dX5_remove_86 ?_
      refine lv_iload_n hx hb dX5_remove_89 rfl (lv_at hl 1 rfl) ?_
      refine lv_iconst (v := 1) hx hb dX5_remove_90 (by decide) ?_
      refine lv_iadd hx hb dX5_remove_91 ?_
      refine lv_aload_n hx hb dX5_remove_92 rfl (lv_at hl 0 rfl) ?_
      refine gL_f (v := .ref (aw 27)) C hG kX5 23 4 rfl (by decide) rfl q326 rfl dX5_remove_93 ?_
      refine lv_iload_n hx hb dX5_remove_96 rfl (lv_at hl 1 rfl) ?_
      refine lv_aload_n hx hb dX5_remove_97 rfl (lv_at hl 0 rfl) ?_
      refine gL_f (v := .int (ww_7 23 0)) C hG kX5 23 0 rfl (by decide) rfl q313 rfl dX5_remove_98 ?_
      refine lv_iload_n hx hb dX5_remove_101 rfl (lv_at hl 1 rfl) ?_
      refine lv_isub hx hb dX5_remove_102 ?_
      obtain ⟨b8, h⟩ := ck_some h
      obtain ⟨ww_9, eww_9, h⟩ := thn_some h
      have hset : ∀ f9 : Nat → Int32, List.set (rW E aw ww_7 ++ []) 27 (aw 27, .inl (E.2.1 0, 10, .inl f9)) = (rW E aw (sr ww_7 27 f9) ++ []) := fun _ => rfl
      refine gS_cpy (n0 := 10) (n1 := 10) (js := (x1 + 1).toNatClampNeg) (jd := x1.toNatClampNeg) (jn := ((ww_7 23 0) - x1).toNatClampNeg) (ws' := (rW E aw ww_9 ++ [])) C hl.1 hG 27 27 rfl rfl (b8) rfl rfl rfl q797 q740 q739 q186 (Nat.le_of_ble_eq_true rfl) (Nat.le_of_ble_eq_true rfl) dX5_remove_103 (by rw [eww_9]; exact hset _) (fun H locs hG => ?_)
      exact hret _ _ _ _ _ h hG dX5_remove_106
set_option maxHeartbeats 4000000 in
set_option maxRecDepth 100000 in
theorem c_X1_freeSlots (l : Launch) (E : GE) (aw : Nat → Nat) (N : Nat) (ww : RS) {res : Int32} (h : fX1_freeSlots N ww = some res) : gMi l E yX1_freeSlots cX1_freeSlots 3 .int 1 0 0 [.ref (aw 15)] (rW E aw ww ++ []) (rW E aw ww ++ []) res := by
  refine gMi_of (own := RX1) (by decide +kernel) rfl (Nat.le_of_ble_eq_true rfl) ?_
  intro p e s m args below meth c A ls Q H locs C hz hl hG hret
  have hx := C.1.1
  have hb := C.1.2.1
  have hts := C.1.2.2.2.2
  have hown := C.1.2.2.2.1
  have hl : lv_has ls 3 [(0, .ref (aw 15))] := hl
  replace hret : ∀ (r0 : Int32) (H : Heap) (locs : List Loc) (pc : Nat) (ls' : Array Slot), some r0 = some res → narrow .int (.int r0) = .int r0 → gG E A s.heap (rW E aw ww ++ []) H locs → decode cX1_freeSlots pc = .ok (.ireturn, 1) → W p l e (rmD 1 0 0) s m args below meth c H locs 0 0 Q (F0 m pc ls' [.int r0]) := by
    intro r0 H locs pc ls' e0 hn; cases e0; exact hret H locs pc ls' hn
  have K26 : ∀ (k4 : (Int32 → Int32 → Option (Int32))) (hk4 : ∀  (x1 : Int32) (x2 : Int32) (H : Heap) (locs : List Loc) (ls : Array Slot), gG E A s.heap (rW E aw ww ++ []) H locs → lv_has ls 3 [(0, .ref (aw 15)), (1, .int x1), (2, .int x2)] → k4 x1 x2 = some res → W p l e (rmD 1 0 0) s m args below meth c H locs 0 0 Q (F0 m 4 ls [])), ∀  (x2 : Int32) (s0 : Int32) (s1 : Int32) (H : Heap) (locs : List Loc) (ls : Array Slot), gG E A s.heap (rW E aw ww ++ []) H locs → lv_has ls 3 [(0, .ref (aw 15)), (2, .int x2)] → fX1_freeSlots_L26 N ww k4 x2 s0 s1 = some res → W p l e (rmD 1 0 0) s m args below meth c H locs 0 0 Q (F0 m 26 ls [.int s1, .int s0]) := by
    intro k4 hk4 x2 s0 s1 H locs ls hG hl h
    rw [fX1_freeSlots_L26] at h
    refine lv_iadd hx hb dX1_freeSlots_26 ?_
    obtain ⟨x1_1, ex1_1, h⟩ := thn_some h
    refine g_int ex1_1 ?_
    refine lv_istore_n (lv' := [(1, .int x1_1), (0, .ref (aw 15)), (2, .int x2)]) hx hb dX1_freeSlots_27 rfl hl (by decide) rfl (fun ls hl => ?_)
    refine lv_iinc (v := (x2 + 1)) (lv' := [(2, .int (x2 + 1)), (1, .int x1_1), (0, .ref (aw 15))]) hx hb dX1_freeSlots_28 hl (k := 2) rfl (congrArg (x2 + ·) (by decide : Int32.ofInt 1 = 1)) (by decide) rfl (fun ls hl => ?_)
    refine lv_goto (tgt := 4) hx hb dX1_freeSlots_31 (by decide) ?_
    exact hk4 x1_1 (x2 + 1) _ _ _ hG (lv_sub hl [2, 1, 0] rfl) h
  have K4 : ∀ (k : Nat), ∀  (x1 : Int32) (x2 : Int32) (H : Heap) (locs : List Loc) (ls : Array Slot), gG E A s.heap (rW E aw ww ++ []) H locs → lv_has ls 3 [(0, .ref (aw 15)), (1, .int x1), (2, .int x2)] → fX1_freeSlots_L4 N ww k x1 x2 = some res → W p l e (rmD 1 0 0) s m args below meth c H locs 0 0 Q (F0 m 4 ls []) := by
    intro k
    induction k with
    | zero => intro x1 x2 H locs ls hG hl h; exact absurd (show none = _ from h) (by simp)
    | succ k ih =>
      intro x1 x2 H locs ls hG hl h
      rw [fX1_freeSlots_L4] at h
      refine lv_iload_n hx hb dX1_freeSlots_4 rfl (lv_at hl 2 rfl) ?_
      refine lv_bipush (v := 9) hx hb dX1_freeSlots_5 (by decide) ?_
      refine lv_icmp_ge (tgt := 34) hx hb dX1_freeSlots_7 (by decide) (fun c7 => ?_) (fun c7 => ?_)
      · replace h := it c7 h
        refine lv_iload_n hx hb dX1_freeSlots_34 rfl (lv_at hl 1 rfl) ?_
        exact hret _ _ _ _ _ h rfl hG dX1_freeSlots_35
      · replace h := ie c7 h
        refine lv_iload_n hx hb dX1_freeSlots_10 rfl (lv_at hl 1 rfl) ?_
        refine lv_aload_n hx hb dX1_freeSlots_11 rfl (lv_at hl 0 rfl) ?_
        refine gL_f (v := .ref (aw 19)) C hG kX1 15 3 rfl (by decide) rfl q279 rfl dX1_freeSlots_12 ?_
        refine lv_iload_n hx hb dX1_freeSlots_15 rfl (lv_at hl 2 rfl) ?_
        obtain ⟨b1, h⟩ := ck_some h
        refine gL_i (v := (ww 19 x2.toNatClampNeg)) C hG 19 rfl (inb_in b1) rfl dX1_freeSlots_16 ?_
        refine lv_iconst (v := (-1)) hx hb dX1_freeSlots_17 (by decide) ?_
        refine lv_icmp_ne (tgt := 25) hx hb dX1_freeSlots_18 (by decide) (fun c18 => ?_) (fun c18 => ?_)
        · replace h := ie c18 h
          refine lv_iconst (v := 0) hx hb dX1_freeSlots_25 (by decide) ?_
          exact K26 _ ih x2 x1 0 _ _ _ hG (lv_sub hl [0, 2] rfl) h
        · replace h := it c18 h
          refine lv_iconst (v := 1) hx hb dX1_freeSlots_21 (by decide) ?_
          refine lv_goto (tgt := 26) hx hb dX1_freeSlots_22 (by decide) ?_
          exact K26 _ ih x2 x1 1 _ _ _ hG (lv_sub hl [0, 2] rfl) h
  rw [fX1_freeSlots] at h
  refine lv_iconst (v := 0) hx hb dX1_freeSlots_0 (by decide) ?_
  refine lv_istore_n (lv' := [(1, .int 0), (0, .ref (aw 15))]) hx hb dX1_freeSlots_1 rfl hl (by decide) rfl (fun ls hl => ?_)
  refine lv_iconst (v := 0) hx hb dX1_freeSlots_2 (by decide) ?_
  refine lv_istore_n (lv' := [(2, .int 0), (1, .int 0), (0, .ref (aw 15))]) hx hb dX1_freeSlots_3 rfl hl (by decide) rfl (fun ls hl => ?_)
  exact K4 N 0 0 _ _ _ hG (lv_sub hl [2, 1, 0] rfl) h
set_option maxHeartbeats 4000000 in
set_option maxRecDepth 100000 in
theorem c_X1_takeSlots (l : Launch) (E : GE) (aw : Nat → Nat) (N : Nat) (x1 : Int32) (ww : RS) {res : RS} (h : fX1_takeSlots N x1 ww = some res) : gMv l E yX1_takeSlots cX1_takeSlots 5 1 0 0 [.ref (aw 15), .int x1] (rW E aw ww ++ []) (rW E aw res ++ []) := by
  refine gMv_of (own := RX1) (by decide +kernel) rfl (Nat.le_of_ble_eq_true rfl) ?_
  intro p e s m args below meth c A ls Q H locs C hz hl hG hin hret
  have hx := C.1.1
  have hb := C.1.2.1
  have hts := C.1.2.2.2.2
  have hown := C.1.2.2.2.1
  have hl : lv_has ls 5 [(0, .ref (aw 15)), (1, .int x1)] := hl
  replace hret : ∀ (ww0 : RS) (H : Heap) (locs : List Loc) (pc : Nat) (ls' : Array Slot), some ww0 = some res → gG E A s.heap (rW E aw ww0 ++ []) H locs → decode cX1_takeSlots pc = .ok (.return_, 1) → W p l e (rmD 1 0 0) s m args below meth c H locs 0 0 Q (F0 m pc ls' []) := by
    intro ww0 H locs pc ls' e0; cases e0; exact hret H locs pc ls'
  have K59 : ∀ (k17 : (Int32 → Int32 → Int32 → RS → Option (RS))) (hk17 : ∀  (x2 : Int32) (x3 : Int32) (x4 : Int32) (ww : RS) (H : Heap) (locs : List Loc) (ls : Array Slot), gG E A s.heap (rW E aw ww ++ []) H locs → lv_has ls 5 [(0, .ref (aw 15)), (2, .int x2), (3, .int x3), (4, .int x4)] → k17 x2 x3 x4 ww = some res → W p l e (rmD 1 0 0) s m args below meth c H locs 0 0 Q (F0 m 17 ls [])), ∀  (x2 : Int32) (x3 : Int32) (x4 : Int32) (ww : RS) (H : Heap) (locs : List Loc) (ls : Array Slot), gG E A s.heap (rW E aw ww ++ []) H locs → lv_has ls 5 [(0, .ref (aw 15)), (2, .int x2), (3, .int x3), (4, .int x4)] → fX1_takeSlots_L59 N x1 k17 x2 x3 x4 ww = some res → W p l e (rmD 1 0 0) s m args below meth c H locs 0 0 Q (F0 m 59 ls []) := by
    intro k17 hk17 x2 x3 x4 ww H locs ls hG hl h
    rw [fX1_takeSlots_L59] at h
    refine lv_iinc (v := (x4 + 1)) (lv' := [(4, .int (x4 + 1)), (0, .ref (aw 15)), (2, .int x2), (3, .int x3)]) hx hb dX1_takeSlots_59 hl (k := 3) rfl (congrArg (x4 + ·) (by decide : Int32.ofInt 1 = 1)) (by decide) rfl (fun ls hl => ?_)
    refine lv_goto (tgt := 17) hx hb dX1_takeSlots_62 (by decide) ?_
    exact hk17 x2 x3 (x4 + 1) ww _ _ _ hG (lv_sub hl [1, 2, 3, 0] rfl) h
  have K17 : ∀ (k : Nat), ∀  (x2 : Int32) (x3 : Int32) (x4 : Int32) (ww : RS) (H : Heap) (locs : List Loc) (ls : Array Slot), gG E A s.heap (rW E aw ww ++ []) H locs → lv_has ls 5 [(0, .ref (aw 15)), (2, .int x2), (3, .int x3), (4, .int x4)] → fX1_takeSlots_L17 N x1 k x2 x3 x4 ww = some res → W p l e (rmD 1 0 0) s m args below meth c H locs 0 0 Q (F0 m 17 ls []) := by
    intro k
    induction k with
    | zero => intro x2 x3 x4 ww H locs ls hG hl h; exact absurd (show none = _ from h) (by simp)
    | succ k ih =>
      intro x2 x3 x4 ww H locs ls hG hl h
      rw [fX1_takeSlots_L17] at h
      refine lv_iload hx hb dX1_takeSlots_17 (lv_at hl 3 rfl) ?_
      refine lv_bipush (v := 9) hx hb dX1_takeSlots_19 (by decide) ?_
      refine lv_icmp_ge (tgt := 65) hx hb dX1_takeSlots_21 (by decide) (fun c21 => ?_) (fun c21 => ?_)
      · replace h := it c21 h
        exact hret _ _ _ _ _ h hG dX1_takeSlots_65
      · replace h := ie c21 h
        refine lv_iload_n hx hb dX1_takeSlots_24 rfl (lv_at hl 1 rfl) ?_
        refine lv_iload_n hx hb dX1_takeSlots_25 rfl (lv_at hl 2 rfl) ?_
        refine lv_icmp_ge (tgt := 65) hx hb dX1_takeSlots_26 (by decide) (fun c26 => ?_) (fun c26 => ?_)
        · replace h := it c26 h
          exact hret _ _ _ _ _ h hG dX1_takeSlots_65
        · replace h := ie c26 h
          refine lv_aload_n hx hb dX1_takeSlots_29 rfl (lv_at hl 0 rfl) ?_
          refine gL_f (v := .ref (aw 19)) C hG kX1 15 3 rfl (by decide) rfl q279 rfl dX1_takeSlots_30 ?_
          refine lv_iload hx hb dX1_takeSlots_33 (lv_at hl 3 rfl) ?_
          obtain ⟨b1, h⟩ := ck_some h
          refine gL_i (v := (ww 19 x4.toNatClampNeg)) C hG 19 rfl (inb_in b1) rfl dX1_takeSlots_35 ?_
          refine lv_iconst (v := (-1)) hx hb dX1_takeSlots_36 (by decide) ?_
          refine lv_icmp_ne (tgt := 59) hx hb dX1_takeSlots_37 (by decide) (fun c37 => ?_) (fun c37 => ?_)
          · replace h := ie c37 h
            exact K59 _ ih x2 x3 x4 ww _ _ _ hG (lv_sub hl [0, 1, 2, 3] rfl) h
          · replace h := it c37 h
            refine lv_aload_n hx hb dX1_takeSlots_40 rfl (lv_at hl 0 rfl) ?_
            refine gL_f (v := .ref (aw 19)) C hG kX1 15 3 rfl (by decide) rfl q279 rfl dX1_takeSlots_41 ?_
            refine lv_iload hx hb dX1_takeSlots_44 (lv_at hl 3 rfl) ?_
            refine lv_iload_n hx hb dX1_takeSlots_46 rfl (lv_at hl 1 rfl) ?_
            obtain ⟨ww_2, eww_2, h⟩ := thn_some h
            refine gS_i (x := x2) (ws' := (rW E aw ww_2 ++ [])) C hG 19 rfl (inb_in b1) rfl dX1_takeSlots_47 (by rw [eww_2]; rfl) (fun H locs hG => ?_)
            refine lv_aload_n hx hb dX1_takeSlots_48 rfl (lv_at hl 0 rfl) ?_
            refine gL_f (v := .ref (aw 18)) C hG kX1 15 2 rfl (by decide) rfl q277 rfl dX1_takeSlots_49 ?_
            refine lv_iload_n hx hb dX1_takeSlots_52 rfl (lv_at hl 1 rfl) ?_
            refine lv_iload hx hb dX1_takeSlots_53 (lv_at hl 3 rfl) ?_
            obtain ⟨b3, h⟩ := ck_some h
            obtain ⟨ww_4, eww_4, h⟩ := thn_some h
            refine gS_i (x := x4) (ws' := (rW E aw ww_4 ++ [])) C hG 18 rfl (inb_in b3) rfl dX1_takeSlots_55 (by rw [eww_4]; rfl) (fun H locs hG => ?_)
            refine lv_iinc (v := (x2 + 1)) (lv' := [(2, .int (x2 + 1)), (0, .ref (aw 15)), (3, .int x3), (4, .int x4)]) hx hb dX1_takeSlots_56 hl (k := 1) rfl (congrArg (x2 + ·) (by decide : Int32.ofInt 1 = 1)) (by decide) rfl (fun ls hl => ?_)
            exact K59 _ ih (x2 + 1) x3 x4 ww_4 _ _ _ hG (lv_sub hl [1, 0, 2, 3] rfl) h
  rw [fX1_takeSlots] at h
  refine gT_sN C hG q896 dX1_takeSlots_0 ?_
  refine lv_iload_n hx hb dX1_takeSlots_3 rfl (lv_at hl 1 rfl) ?_
  obtain ⟨b1, h⟩ := ck_some h
  refine gT_si (v := (startT x1.toNatClampNeg)) C hG (inb_in b1) rfl dX1_takeSlots_4 ?_
  obtain ⟨x2_2, ex2_2, h⟩ := thn_some h
  refine g_int ex2_2 ?_
  refine lv_istore_n (lv' := [(2, .int x2_2), (0, .ref (aw 15)), (1, .int x1)]) hx hb dX1_takeSlots_5 rfl hl (by decide) rfl (fun ls hl => ?_)
  refine lv_iload_n hx hb dX1_takeSlots_6 rfl (lv_at hl 0 rfl) ?_
  refine gT_zN C hG q897 dX1_takeSlots_7 ?_
  refine lv_iload_n hx hb dX1_takeSlots_10 rfl (lv_at hl 2 rfl) ?_
  refine gT_zi (v := (sizeT x1.toNatClampNeg)) C hG (inb_in b1) rfl dX1_takeSlots_11 ?_
  refine lv_iadd hx hb dX1_takeSlots_12 ?_
  obtain ⟨x3_3, ex3_3, h⟩ := thn_some h
  refine g_int ex3_3 ?_
  refine lv_istore_n (lv' := [(3, .int x3_3), (2, .int x2_2), (0, .ref (aw 15)), (1, .int x1)]) hx hb dX1_takeSlots_13 rfl hl (by decide) rfl (fun ls hl => ?_)
  refine lv_iconst (v := 0) hx hb dX1_takeSlots_14 (by decide) ?_
  refine lv_istore (lv' := [(4, .int 0), (3, .int x3_3), (2, .int x2_2), (0, .ref (aw 15)), (1, .int x1)]) hx hb dX1_takeSlots_15 hl (by decide) rfl (fun ls hl => ?_)
  exact K17 N x2_2 x3_3 0 ww _ _ _ hG (lv_sub hl [3, 2, 1, 0] rfl) h
set_option maxHeartbeats 4000000 in
set_option maxRecDepth 100000 in
theorem c_X2_allBlocks (l : Launch) (E : GE) (N : Nat) (x0 : Int32) {res : Int32} (h : fX2_allBlocks N x0 = some res) : gMi l E yX2_allBlocks cX2_allBlocks 1 .int 1 0 0 [.int x0] [] [] res := by
  refine gMi_of (own := RX2) (by decide +kernel) rfl (Nat.le_of_ble_eq_true rfl) ?_
  intro p e s m args below meth c A ls Q H locs C hz hl hG hret
  have hx := C.1.1
  have hb := C.1.2.1
  have hts := C.1.2.2.2.2
  have hown := C.1.2.2.2.1
  have hl : lv_has ls 1 [(0, .int x0)] := hl
  replace hret : ∀ (r0 : Int32) (H : Heap) (locs : List Loc) (pc : Nat) (ls' : Array Slot), some r0 = some res → narrow .int (.int r0) = .int r0 → gG E A s.heap [] H locs → decode cX2_allBlocks pc = .ok (.ireturn, 1) → W p l e (rmD 1 0 0) s m args below meth c H locs 0 0 Q (F0 m pc ls' [.int r0]) := by
    intro r0 H locs pc ls' e0 hn; cases e0; exact hret H locs pc ls' hn
  rw [fX2_allBlocks] at h
  refine lv_iconst (v := 1) hx hb dX2_allBlocks_0 (by decide) ?_
  refine gT_zN C hG q945 dX2_allBlocks_1 ?_
  refine lv_iload_n hx hb dX2_allBlocks_4 rfl (lv_at hl 0 rfl) ?_
  obtain ⟨b1, h⟩ := ck_some h
  refine gT_zi (v := (sizeT x0.toNatClampNeg)) C hG (inb_in b1) rfl dX2_allBlocks_5 ?_
  refine lv_ishl hx hb dX2_allBlocks_6 ?_
  refine lv_iconst (v := 1) hx hb dX2_allBlocks_7 (by decide) ?_
  refine lv_isub hx hb dX2_allBlocks_8 ?_
  exact hret _ _ _ _ _ h rfl hG dX2_allBlocks_9
set_option maxHeartbeats 4000000 in
set_option maxRecDepth 100000 in
theorem c_J6_bitCount_0f7a4 (l : Launch) (E : GE) (x0 : Int32) {res : Int32} (h : fJ6_bitCount_0f7a4 x0 = res) : gMi l E yJ6_bitCount_0f7a4 cJ6_bitCount_0f7a4 1 .int 1 0 0 [.int x0] [] [] res := by
  refine gMi_of (own := RJ6) (by decide +kernel) rfl (Nat.le_of_ble_eq_true rfl) ?_
  intro p e s m args below meth c A ls Q H locs C hz hl hG hret
  have hx := C.1.1
  have hb := C.1.2.1
  have hts := C.1.2.2.2.2
  have hown := C.1.2.2.2.1
  have hl : lv_has ls 1 [(0, .int x0)] := hl
  replace hret : ∀ (r0 : Int32) (H : Heap) (locs : List Loc) (pc : Nat) (ls' : Array Slot), r0 = res → narrow .int (.int r0) = .int r0 → gG E A s.heap [] H locs → decode cJ6_bitCount_0f7a4 pc = .ok (.ireturn, 1) → W p l e (rmD 1 0 0) s m args below meth c H locs 0 0 Q (F0 m pc ls' [.int r0]) := by
    intro r0 H locs pc ls' e0 hn; cases e0; exact hret H locs pc ls' hn
  rw [fJ6_bitCount_0f7a4] at h
  refine lv_iload_n hx hb dJ6_bitCount_0f7a4_0 rfl (lv_at hl 0 rfl) ?_
  refine lv_iload_n hx hb dJ6_bitCount_0f7a4_1 rfl (lv_at hl 0 rfl) ?_
  refine lv_iconst (v := 1) hx hb dJ6_bitCount_0f7a4_2 (by decide) ?_
  refine lv_iushr (v := (iushr x0 1)) hx hb dJ6_bitCount_0f7a4_3 rfl ?_
  refine lv_ldcw (v := 1431655765) hx hb hown (hts _ q981) dJ6_bitCount_0f7a4_4 ?_
  refine lv_iand hx hb dJ6_bitCount_0f7a4_7 ?_
  refine lv_isub hx hb dJ6_bitCount_0f7a4_8 ?_
  obtain ⟨x0_1, ex0_1, h⟩ := thn_some h
  refine g_int ex0_1 ?_
  refine lv_istore_n (lv' := [(0, .int x0_1)]) hx hb dJ6_bitCount_0f7a4_9 rfl hl (by decide) rfl (fun ls hl => ?_)
  refine lv_iload_n hx hb dJ6_bitCount_0f7a4_10 rfl (lv_at hl 0 rfl) ?_
  refine lv_ldcw (v := 858993459) hx hb hown (hts _ q982) dJ6_bitCount_0f7a4_11 ?_
  refine lv_iand hx hb dJ6_bitCount_0f7a4_14 ?_
  refine lv_iload_n hx hb dJ6_bitCount_0f7a4_15 rfl (lv_at hl 0 rfl) ?_
  refine lv_iconst (v := 2) hx hb dJ6_bitCount_0f7a4_16 (by decide) ?_
  refine lv_iushr (v := (iushr x0_1 2)) hx hb dJ6_bitCount_0f7a4_17 rfl ?_
  refine lv_ldcw (v := 858993459) hx hb hown (hts _ q982) dJ6_bitCount_0f7a4_18 ?_
  refine lv_iand hx hb dJ6_bitCount_0f7a4_21 ?_
  refine lv_iadd hx hb dJ6_bitCount_0f7a4_22 ?_
  obtain ⟨x0_2, ex0_2, h⟩ := thn_some h
  refine g_int ex0_2 ?_
  refine lv_istore_n (lv' := [(0, .int x0_2)]) hx hb dJ6_bitCount_0f7a4_23 rfl hl (by decide) rfl (fun ls hl => ?_)
  refine lv_iload_n hx hb dJ6_bitCount_0f7a4_24 rfl (lv_at hl 0 rfl) ?_
  refine lv_iload_n hx hb dJ6_bitCount_0f7a4_25 rfl (lv_at hl 0 rfl) ?_
  refine lv_iconst (v := 4) hx hb dJ6_bitCount_0f7a4_26 (by decide) ?_
  refine lv_iushr (v := (iushr x0_2 4)) hx hb dJ6_bitCount_0f7a4_27 rfl ?_
  refine lv_iadd hx hb dJ6_bitCount_0f7a4_28 ?_
  refine lv_ldcw (v := 252645135) hx hb hown (hts _ q983) dJ6_bitCount_0f7a4_29 ?_
  refine lv_iand hx hb dJ6_bitCount_0f7a4_32 ?_
  obtain ⟨x0_3, ex0_3, h⟩ := thn_some h
  refine g_int ex0_3 ?_
  refine lv_istore_n (lv' := [(0, .int x0_3)]) hx hb dJ6_bitCount_0f7a4_33 rfl hl (by decide) rfl (fun ls hl => ?_)
  refine lv_iload_n hx hb dJ6_bitCount_0f7a4_34 rfl (lv_at hl 0 rfl) ?_
  refine lv_iload_n hx hb dJ6_bitCount_0f7a4_35 rfl (lv_at hl 0 rfl) ?_
  refine lv_bipush (v := 8) hx hb dJ6_bitCount_0f7a4_36 (by decide) ?_
  refine lv_iushr (v := (iushr x0_3 8)) hx hb dJ6_bitCount_0f7a4_38 rfl ?_
  refine lv_iadd hx hb dJ6_bitCount_0f7a4_39 ?_
  obtain ⟨x0_4, ex0_4, h⟩ := thn_some h
  refine g_int ex0_4 ?_
  refine lv_istore_n (lv' := [(0, .int x0_4)]) hx hb dJ6_bitCount_0f7a4_40 rfl hl (by decide) rfl (fun ls hl => ?_)
  refine lv_iload_n hx hb dJ6_bitCount_0f7a4_41 rfl (lv_at hl 0 rfl) ?_
  refine lv_iload_n hx hb dJ6_bitCount_0f7a4_42 rfl (lv_at hl 0 rfl) ?_
  refine lv_bipush (v := 16) hx hb dJ6_bitCount_0f7a4_43 (by decide) ?_
  refine lv_iushr (v := (iushr x0_4 16)) hx hb dJ6_bitCount_0f7a4_45 rfl ?_
  refine lv_iadd hx hb dJ6_bitCount_0f7a4_46 ?_
  obtain ⟨x0_5, ex0_5, h⟩ := thn_some h
  refine g_int ex0_5 ?_
  refine lv_istore_n (lv' := [(0, .int x0_5)]) hx hb dJ6_bitCount_0f7a4_47 rfl hl (by decide) rfl (fun ls hl => ?_)
  refine lv_iload_n hx hb dJ6_bitCount_0f7a4_48 rfl (lv_at hl 0 rfl) ?_
  refine lv_bipush (v := 63) hx hb dJ6_bitCount_0f7a4_49 (by decide) ?_
  refine lv_iand hx hb dJ6_bitCount_0f7a4_51 ?_
  exact hret _ _ _ _ _ h rfl hG dJ6_bitCount_0f7a4_52
set_option maxHeartbeats 4000000 in
set_option maxRecDepth 100000 in
theorem c_X2_hotter (l : Launch) (E : GE) (aw : Nat → Nat) (N : Nat) (x1 : Int32) (x2 : Int32) (ww : RS) {res : Int32} (h : fX2_hotter N x1 x2 ww = some res) : gMi l E yX2_hotter cX2_hotter 3 .boolean 1 0 0 [.ref (aw 2), .int x1, .int x2] (rW E aw ww ++ []) (rW E aw ww ++ []) res := by
  refine gMi_of (own := RX2) (by decide +kernel) rfl (Nat.le_of_ble_eq_true rfl) ?_
  intro p e s m args below meth c A ls Q H locs C hz hl hG hret
  have hx := C.1.1
  have hb := C.1.2.1
  have hts := C.1.2.2.2.2
  have hown := C.1.2.2.2.1
  have hl : lv_has ls 3 [(0, .ref (aw 2)), (1, .int x1), (2, .int x2)] := hl
  replace hret : ∀ (r0 : Int32) (H : Heap) (locs : List Loc) (pc : Nat) (ls' : Array Slot), some r0 = some res → narrow .boolean (.int r0) = .int r0 → gG E A s.heap (rW E aw ww ++ []) H locs → decode cX2_hotter pc = .ok (.ireturn, 1) → W p l e (rmD 1 0 0) s m args below meth c H locs 0 0 Q (F0 m pc ls' [.int r0]) := by
    intro r0 H locs pc ls' e0 hn; cases e0; exact hret H locs pc ls' hn
  have K35 : ∀  (H : Heap) (locs : List Loc) (ls : Array Slot), gG E A s.heap (rW E aw ww ++ []) H locs → lv_has ls 3 [] → fX2_hotter_L35 N x1 x2 ww = some res → W p l e (rmD 1 0 0) s m args below meth c H locs 0 0 Q (F0 m 35 ls []) := by
    intro H locs ls hG hl h
    rw [fX2_hotter_L35] at h
    refine lv_iconst (v := 1) hx hb dX2_hotter_35 (by decide) ?_
    refine lv_goto (tgt := 40) hx hb dX2_hotter_36 (by decide) ?_
    exact hret _ _ _ _ _ h rfl hG dX2_hotter_40
  rw [fX2_hotter] at h
  refine lv_aload_n hx hb dX2_hotter_0 rfl (lv_at hl 0 rfl) ?_
  refine gL_f (v := .ref (aw 9)) C hG kX2 2 6 rfl (by decide) rfl q228 rfl dX2_hotter_1 ?_
  refine lv_iload_n hx hb dX2_hotter_4 rfl (lv_at hl 1 rfl) ?_
  obtain ⟨b1, h⟩ := ck_some h
  refine gL_i (v := (ww 9 x1.toNatClampNeg)) C hG 9 rfl (inb_in b1) rfl dX2_hotter_5 ?_
  refine lv_aload_n hx hb dX2_hotter_6 rfl (lv_at hl 0 rfl) ?_
  refine gL_f (v := .ref (aw 9)) C hG kX2 2 6 rfl (by decide) rfl q228 rfl dX2_hotter_7 ?_
  refine lv_iload_n hx hb dX2_hotter_10 rfl (lv_at hl 2 rfl) ?_
  obtain ⟨b2, h⟩ := ck_some h
  refine gL_i (v := (ww 9 x2.toNatClampNeg)) C hG 9 rfl (inb_in b2) rfl dX2_hotter_11 ?_
  refine lv_icmp_gt (tgt := 35) hx hb dX2_hotter_12 (by decide) (fun c12 => ?_) (fun c12 => ?_)
  · replace h := it c12 h
    exact K35 _ _ _ hG (lv_sub hl [] rfl) h
  · replace h := ie c12 h
    refine lv_aload_n hx hb dX2_hotter_15 rfl (lv_at hl 0 rfl) ?_
    refine gL_f (v := .ref (aw 9)) C hG kX2 2 6 rfl (by decide) rfl q228 rfl dX2_hotter_16 ?_
    refine lv_iload_n hx hb dX2_hotter_19 rfl (lv_at hl 1 rfl) ?_
    refine gL_i (v := (ww 9 x1.toNatClampNeg)) C hG 9 rfl (inb_in b1) rfl dX2_hotter_20 ?_
    refine lv_aload_n hx hb dX2_hotter_21 rfl (lv_at hl 0 rfl) ?_
    refine gL_f (v := .ref (aw 9)) C hG kX2 2 6 rfl (by decide) rfl q228 rfl dX2_hotter_22 ?_
    refine lv_iload_n hx hb dX2_hotter_25 rfl (lv_at hl 2 rfl) ?_
    refine gL_i (v := (ww 9 x2.toNatClampNeg)) C hG 9 rfl (inb_in b2) rfl dX2_hotter_26 ?_
    refine lv_icmp_ne (tgt := 39) hx hb dX2_hotter_27 (by decide) (fun c27 => ?_) (fun c27 => ?_)
    · replace h := ie c27 h
      refine lv_iconst (v := 0) hx hb dX2_hotter_39 (by decide) ?_
      exact hret _ _ _ _ _ h rfl hG dX2_hotter_40
    · replace h := it c27 h
      refine lv_iload_n hx hb dX2_hotter_30 rfl (lv_at hl 1 rfl) ?_
      refine lv_iload_n hx hb dX2_hotter_31 rfl (lv_at hl 2 rfl) ?_
      refine lv_icmp_ge (tgt := 39) hx hb dX2_hotter_32 (by decide) (fun c32 => ?_) (fun c32 => ?_)
      · replace h := it c32 h
        refine lv_iconst (v := 0) hx hb dX2_hotter_39 (by decide) ?_
        exact hret _ _ _ _ _ h rfl hG dX2_hotter_40
      · replace h := ie c32 h
        exact K35 _ _ _ hG (lv_sub hl [] rfl) h
set_option maxHeartbeats 4000000 in
set_option maxRecDepth 100000 in
theorem c_X2_age (l : Launch) (E : GE) (aw : Nat → Nat) (N : Nat) (ww : RS) {res : RS} (h : fX2_age N ww = some res) : gMv l E yX2_age cX2_age 2 1 0 0 [.ref (aw 2)] (rW E aw ww ++ []) (rW E aw res ++ []) := by
  refine gMv_of (own := RX2) (by decide +kernel) rfl (Nat.le_of_ble_eq_true rfl) ?_
  intro p e s m args below meth c A ls Q H locs C hz hl hG hin hret
  have hx := C.1.1
  have hb := C.1.2.1
  have hts := C.1.2.2.2.2
  have hown := C.1.2.2.2.1
  have hl : lv_has ls 2 [(0, .ref (aw 2))] := hl
  replace hret : ∀ (ww0 : RS) (H : Heap) (locs : List Loc) (pc : Nat) (ls' : Array Slot), some ww0 = some res → gG E A s.heap (rW E aw ww0 ++ []) H locs → decode cX2_age pc = .ok (.return_, 1) → W p l e (rmD 1 0 0) s m args below meth c H locs 0 0 Q (F0 m pc ls' []) := by
    intro ww0 H locs pc ls' e0; cases e0; exact hret H locs pc ls'
  have K2 : ∀ (k : Nat), ∀  (x1 : Int32) (ww : RS) (H : Heap) (locs : List Loc) (ls : Array Slot), gG E A s.heap (rW E aw ww ++ []) H locs → lv_has ls 2 [(0, .ref (aw 2)), (1, .int x1)] → fX2_age_L2 N k x1 ww = some res → W p l e (rmD 1 0 0) s m args below meth c H locs 0 0 Q (F0 m 2 ls []) := by
    intro k
    induction k with
    | zero => intro x1 ww H locs ls hG hl h; exact absurd (show none = _ from h) (by simp)
    | succ k ih =>
      intro x1 ww H locs ls hG hl h
      rw [fX2_age_L2] at h
      refine lv_iload_n hx hb dX2_age_2 rfl (lv_at hl 1 rfl) ?_
      refine lv_bipush (v := 10) hx hb dX2_age_3 (by decide) ?_
      refine lv_icmp_ge (tgt := 80) hx hb dX2_age_5 (by decide) (fun c5 => ?_) (fun c5 => ?_)
      · replace h := it c5 h
        exact hret _ _ _ _ _ h hG dX2_age_80
      · replace h := ie c5 h
        refine lv_aload_n hx hb dX2_age_8 rfl (lv_at hl 0 rfl) ?_
        refine gL_f (v := .ref (aw 9)) C hG kX2 2 6 rfl (by decide) rfl q228 rfl dX2_age_9 ?_
        refine lv_iload_n hx hb dX2_age_12 rfl (lv_at hl 1 rfl) ?_
        refine lv_dup2_11 hx hb dX2_age_13 rfl rfl ?_
        obtain ⟨b1, h⟩ := ck_some h
        refine gL_i (v := (ww 9 x1.toNatClampNeg)) C hG 9 rfl (inb_in b1) rfl dX2_age_14 ?_
        refine lv_iconst (v := 1) hx hb dX2_age_15 (by decide) ?_
        refine lv_ishr hx hb dX2_age_16 ?_
        obtain ⟨ww_2, eww_2, h⟩ := thn_some h
        refine gS_i (x := ((ww 9 x1.toNatClampNeg) >>> ((1 : Int32) &&& 31))) (ws' := (rW E aw ww_2 ++ [])) C hG 9 rfl (inb_in b1) rfl dX2_age_17 (by rw [eww_2]; rfl) (fun H locs hG => ?_)
        refine lv_aload_n hx hb dX2_age_18 rfl (lv_at hl 0 rfl) ?_
        refine gL_f (v := .ref (aw 10)) C hG kX2 2 7 rfl (by decide) rfl q231 rfl dX2_age_19 ?_
        refine lv_iload_n hx hb dX2_age_22 rfl (lv_at hl 1 rfl) ?_
        refine lv_aload_n hx hb dX2_age_23 rfl (lv_at hl 0 rfl) ?_
        refine gL_f (v := .ref (aw 10)) C hG kX2 2 7 rfl (by decide) rfl q231 rfl dX2_age_24 ?_
        refine lv_iload_n hx hb dX2_age_27 rfl (lv_at hl 1 rfl) ?_
        refine gL_i (v := (ww_2 10 x1.toNatClampNeg)) C hG 10 rfl (inb_in b1) rfl dX2_age_28 ?_
        refine lv_iconst (v := 1) hx hb dX2_age_29 (by decide) ?_
        refine lv_ishl hx hb dX2_age_30 ?_
        refine lv_sipush (v := 255) hx hb dX2_age_31 (by decide) ?_
        refine lv_iand hx hb dX2_age_34 ?_
        obtain ⟨ww_3, eww_3, h⟩ := thn_some h
        refine gS_i (x := (((ww_2 10 x1.toNatClampNeg) <<< ((1 : Int32) &&& 31)) &&& 255)) (ws' := (rW E aw ww_3 ++ [])) C hG 10 rfl (inb_in b1) rfl dX2_age_35 (by rw [eww_3]; rfl) (fun H locs hG => ?_)
        refine lv_aload_n hx hb dX2_age_36 rfl (lv_at hl 0 rfl) ?_
        refine gL_f (v := .ref (aw 11)) C hG kX2 2 8 rfl (by decide) rfl q233 rfl dX2_age_37 ?_
        refine lv_iload_n hx hb dX2_age_40 rfl (lv_at hl 1 rfl) ?_
        refine lv_iconst (v := 0) hx hb dX2_age_41 (by decide) ?_
        obtain ⟨ww_4, eww_4, h⟩ := thn_some h
        refine gS_i (x := 0) (ws' := (rW E aw ww_4 ++ [])) C hG 11 rfl (inb_in b1) rfl dX2_age_42 (by rw [eww_4]; rfl) (fun H locs hG => ?_)
        refine lv_aload_n hx hb dX2_age_43 rfl (lv_at hl 0 rfl) ?_
        refine gL_f (v := .ref (aw 12)) C hG kX2 2 9 rfl (by decide) rfl q235 rfl dX2_age_44 ?_
        refine lv_iload_n hx hb dX2_age_47 rfl (lv_at hl 1 rfl) ?_
        refine lv_iconst (v := 0) hx hb dX2_age_48 (by decide) ?_
        obtain ⟨ww_5, eww_5, h⟩ := thn_some h
        refine gS_i (x := 0) (ws' := (rW E aw ww_5 ++ [])) C hG 12 rfl (inb_in b1) rfl dX2_age_49 (by rw [eww_5]; rfl) (fun H locs hG => ?_)
        refine lv_aload_n hx hb dX2_age_50 rfl (lv_at hl 0 rfl) ?_
        refine gL_f (v := .ref (aw 13)) C hG kX2 2 10 rfl (by decide) rfl q238 rfl dX2_age_51 ?_
        refine lv_iload_n hx hb dX2_age_54 rfl (lv_at hl 1 rfl) ?_
        refine lv_aload_n hx hb dX2_age_55 rfl (lv_at hl 0 rfl) ?_
        refine gL_f (v := .ref (aw 9)) C hG kX2 2 6 rfl (by decide) rfl q228 rfl dX2_age_56 ?_
        refine lv_iload_n hx hb dX2_age_59 rfl (lv_at hl 1 rfl) ?_
        refine gL_i (v := (ww_5 9 x1.toNatClampNeg)) C hG 9 rfl (inb_in b1) rfl dX2_age_60 ?_
        obtain ⟨ww_6, eww_6, h⟩ := thn_some h
        refine gS_i (x := (ww_5 9 x1.toNatClampNeg)) (ws' := (rW E aw ww_6 ++ [])) C hG 13 rfl (inb_in b1) rfl dX2_age_61 (by rw [eww_6]; rfl) (fun H locs hG => ?_)
        refine lv_aload_n hx hb dX2_age_62 rfl (lv_at hl 0 rfl) ?_
        refine gL_f (v := .ref (aw 14)) C hG kX2 2 11 rfl (by decide) rfl q239 rfl dX2_age_63 ?_
        refine lv_iload_n hx hb dX2_age_66 rfl (lv_at hl 1 rfl) ?_
        refine lv_aload_n hx hb dX2_age_67 rfl (lv_at hl 0 rfl) ?_
        refine gL_f (v := .ref (aw 10)) C hG kX2 2 7 rfl (by decide) rfl q231 rfl dX2_age_68 ?_
        refine lv_iload_n hx hb dX2_age_71 rfl (lv_at hl 1 rfl) ?_
        refine gL_i (v := (ww_6 10 x1.toNatClampNeg)) C hG 10 rfl (inb_in b1) rfl dX2_age_72 ?_
        obtain ⟨ww_7, eww_7, h⟩ := thn_some h
        refine gS_i (x := (ww_6 10 x1.toNatClampNeg)) (ws' := (rW E aw ww_7 ++ [])) C hG 14 rfl (inb_in b1) rfl dX2_age_73 (by rw [eww_7]; rfl) (fun H locs hG => ?_)
        refine lv_iinc (v := (x1 + 1)) (lv' := [(1, .int (x1 + 1)), (0, .ref (aw 2))]) hx hb dX2_age_74 hl (k := 1) rfl (congrArg (x1 + ·) (by decide : Int32.ofInt 1 = 1)) (by decide) rfl (fun ls hl => ?_)
        refine lv_goto (tgt := 2) hx hb dX2_age_77 (by decide) ?_
        exact ih (x1 + 1) ww_7 _ _ _ hG (lv_sub hl [1, 0] rfl) h
  rw [fX2_age] at h
  refine lv_iconst (v := 0) hx hb dX2_age_0 (by decide) ?_
  refine lv_istore_n (lv' := [(1, .int 0), (0, .ref (aw 2))]) hx hb dX2_age_1 rfl hl (by decide) rfl (fun ls hl => ?_)
  exact K2 N 0 ww _ _ _ hG (lv_sub hl [1, 0] rfl) h
set_option maxHeartbeats 4000000 in
set_option maxRecDepth 100000 in
theorem c_X2_forget (l : Launch) (E : GE) (aw : Nat → Nat) (N : Nat) (ww : RS) {res : RS} (h : fX2_forget N ww = some res) : gMv l E yX2_forget cX2_forget 2 2 0 0 [.ref (aw 2)] (rW E aw ww ++ []) (rW E aw res ++ []) := by
  refine gMv_of (own := RX2) (by decide +kernel) rfl (Nat.le_of_ble_eq_true rfl) ?_
  intro p e s m args below meth c A ls Q H locs C hz hl hG hin hret
  have hx := C.1.1
  have hb := C.1.2.1
  have hts := C.1.2.2.2.2
  have hown := C.1.2.2.2.1
  have hl : lv_has ls 2 [(0, .ref (aw 2))] := hl
  replace hret : ∀ (ww0 : RS) (H : Heap) (locs : List Loc) (pc : Nat) (ls' : Array Slot), some ww0 = some res → gG E A s.heap (rW E aw ww0 ++ []) H locs → decode cX2_forget pc = .ok (.return_, 1) → W p l e (rmD 2 0 0) s m args below meth c H locs 0 0 Q (F0 m pc ls' []) := by
    intro ww0 H locs pc ls' e0; cases e0; exact hret H locs pc ls'
  have K69 : ∀ (k2 : (Int32 → RS → Option (RS))) (hk2 : ∀  (x1 : Int32) (ww : RS) (H : Heap) (locs : List Loc) (ls : Array Slot), gG E A s.heap (rW E aw ww ++ []) H locs → lv_has ls 2 [(0, .ref (aw 2)), (1, .int x1)] → k2 x1 ww = some res → W p l e (rmD 2 0 0) s m args below meth c H locs 0 0 Q (F0 m 2 ls [])), ∀  (x1 : Int32) (s1 : Int32) (s2 : Int32) (ww : RS) (H : Heap) (locs : List Loc) (ls : Array Slot), gG E A s.heap (rW E aw ww ++ []) H locs → lv_has ls 2 [(0, .ref (aw 2)), (1, .int x1)] → fX2_forget_L69 N k2 x1 s1 s2 ww = some res → W p l e (rmD 2 0 0) s m args below meth c H locs 0 0 Q (F0 m 69 ls [.int s2, .int s1, .ref (aw 6)]) := by
    intro k2 hk2 x1 s1 s2 ww H locs ls hG hl h
    rw [fX2_forget_L69] at h
    obtain ⟨b1, h⟩ := ck_some h
    obtain ⟨ww_2, eww_2, h⟩ := thn_some h
    refine gS_i (x := s2) (ws' := (rW E aw ww_2 ++ [])) C hG 6 rfl (inb_in b1) rfl dX2_forget_69 (by rw [eww_2]; rfl) (fun H locs hG => ?_)
    refine lv_iinc (v := (x1 + 1)) (lv' := [(1, .int (x1 + 1)), (0, .ref (aw 2))]) hx hb dX2_forget_70 hl (k := 1) rfl (congrArg (x1 + ·) (by decide : Int32.ofInt 1 = 1)) (by decide) rfl (fun ls hl => ?_)
    refine lv_goto (tgt := 2) hx hb dX2_forget_73 (by decide) ?_
    exact hk2 (x1 + 1) ww_2 _ _ _ hG (lv_sub hl [1, 0] rfl) h
  have K2 : ∀ (k : Nat), ∀  (x1 : Int32) (ww : RS) (H : Heap) (locs : List Loc) (ls : Array Slot), gG E A s.heap (rW E aw ww ++ []) H locs → lv_has ls 2 [(0, .ref (aw 2)), (1, .int x1)] → fX2_forget_L2 N k x1 ww = some res → W p l e (rmD 2 0 0) s m args below meth c H locs 0 0 Q (F0 m 2 ls []) := by
    intro k
    induction k with
    | zero => intro x1 ww H locs ls hG hl h; exact absurd (show none = _ from h) (by simp)
    | succ k ih =>
      intro x1 ww H locs ls hG hl h
      rw [fX2_forget_L2] at h
      refine lv_iload_n hx hb dX2_forget_2 rfl (lv_at hl 1 rfl) ?_
      refine lv_bipush (v := 10) hx hb dX2_forget_3 (by decide) ?_
      refine lv_icmp_ge (tgt := 76) hx hb dX2_forget_5 (by decide) (fun c5 => ?_) (fun c5 => ?_)
      · replace h := it c5 h
        exact hret _ _ _ _ _ h hG dX2_forget_76
      · replace h := ie c5 h
        refine lv_aload_n hx hb dX2_forget_8 rfl (lv_at hl 0 rfl) ?_
        refine gL_f (v := .ref (aw 9)) C hG kX2 2 6 rfl (by decide) rfl q228 rfl dX2_forget_9 ?_
        refine lv_iload_n hx hb dX2_forget_12 rfl (lv_at hl 1 rfl) ?_
        refine lv_aload_n hx hb dX2_forget_13 rfl (lv_at hl 0 rfl) ?_
        refine gL_f (v := .ref (aw 13)) C hG kX2 2 10 rfl (by decide) rfl q238 rfl dX2_forget_14 ?_
        refine lv_iload_n hx hb dX2_forget_17 rfl (lv_at hl 1 rfl) ?_
        obtain ⟨b1, h⟩ := ck_some h
        refine gL_i (v := (ww 13 x1.toNatClampNeg)) C hG 13 rfl (inb_in b1) rfl dX2_forget_18 ?_
        obtain ⟨ww_2, eww_2, h⟩ := thn_some h
        refine gS_i (x := (ww 13 x1.toNatClampNeg)) (ws' := (rW E aw ww_2 ++ [])) C hG 9 rfl (inb_in b1) rfl dX2_forget_19 (by rw [eww_2]; rfl) (fun H locs hG => ?_)
        refine lv_aload_n hx hb dX2_forget_20 rfl (lv_at hl 0 rfl) ?_
        refine gL_f (v := .ref (aw 10)) C hG kX2 2 7 rfl (by decide) rfl q231 rfl dX2_forget_21 ?_
        refine lv_iload_n hx hb dX2_forget_24 rfl (lv_at hl 1 rfl) ?_
        refine lv_aload_n hx hb dX2_forget_25 rfl (lv_at hl 0 rfl) ?_
        refine gL_f (v := .ref (aw 14)) C hG kX2 2 11 rfl (by decide) rfl q239 rfl dX2_forget_26 ?_
        refine lv_iload_n hx hb dX2_forget_29 rfl (lv_at hl 1 rfl) ?_
        refine gL_i (v := (ww_2 14 x1.toNatClampNeg)) C hG 14 rfl (inb_in b1) rfl dX2_forget_30 ?_
        obtain ⟨ww_3, eww_3, h⟩ := thn_some h
        refine gS_i (x := (ww_2 14 x1.toNatClampNeg)) (ws' := (rW E aw ww_3 ++ [])) C hG 10 rfl (inb_in b1) rfl dX2_forget_31 (by rw [eww_3]; rfl) (fun H locs hG => ?_)
        refine lv_aload_n hx hb dX2_forget_32 rfl (lv_at hl 0 rfl) ?_
        refine gL_f (v := .ref (aw 11)) C hG kX2 2 8 rfl (by decide) rfl q233 rfl dX2_forget_33 ?_
        refine lv_iload_n hx hb dX2_forget_36 rfl (lv_at hl 1 rfl) ?_
        refine lv_iconst (v := 0) hx hb dX2_forget_37 (by decide) ?_
        obtain ⟨ww_4, eww_4, h⟩ := thn_some h
        refine gS_i (x := 0) (ws' := (rW E aw ww_4 ++ [])) C hG 11 rfl (inb_in b1) rfl dX2_forget_38 (by rw [eww_4]; rfl) (fun H locs hG => ?_)
        refine lv_aload_n hx hb dX2_forget_39 rfl (lv_at hl 0 rfl) ?_
        refine gL_f (v := .ref (aw 12)) C hG kX2 2 9 rfl (by decide) rfl q235 rfl dX2_forget_40 ?_
        refine lv_iload_n hx hb dX2_forget_43 rfl (lv_at hl 1 rfl) ?_
        refine lv_iconst (v := 0) hx hb dX2_forget_44 (by decide) ?_
        obtain ⟨ww_5, eww_5, h⟩ := thn_some h
        refine gS_i (x := 0) (ws' := (rW E aw ww_5 ++ [])) C hG 12 rfl (inb_in b1) rfl dX2_forget_45 (by rw [eww_5]; rfl) (fun H locs hG => ?_)
        refine lv_aload_n hx hb dX2_forget_46 rfl (lv_at hl 0 rfl) ?_
        refine gL_f (v := .ref (aw 6)) C hG kX2 2 3 rfl (by decide) rfl q220 rfl dX2_forget_47 ?_
        refine lv_iload_n hx hb dX2_forget_50 rfl (lv_at hl 1 rfl) ?_
        refine lv_aload_n hx hb dX2_forget_51 rfl (lv_at hl 0 rfl) ?_
        refine gL_f (v := .ref (aw 3)) C hG kX2 2 0 rfl (by decide) rfl q210 rfl dX2_forget_52 ?_
        refine lv_iload_n hx hb dX2_forget_55 rfl (lv_at hl 1 rfl) ?_
        refine gL_i (v := (ww_5 3 x1.toNatClampNeg)) C hG 3 rfl (inb_in b1) rfl dX2_forget_56 ?_
        refine lv_iconst (v := 1) hx hb dX2_forget_57 (by decide) ?_
        refine lv_icmp_ne (tgt := 68) hx hb dX2_forget_58 (by decide) (fun c58 => ?_) (fun c58 => ?_)
        · replace h := ie c58 h
          refine lv_iconst (v := 0) hx hb dX2_forget_68 (by decide) ?_
          exact K69 _ ih x1 x1 0 ww_5 _ _ _ hG (lv_sub hl [0, 1] rfl) h
        · replace h := it c58 h
          refine lv_iload_n hx hb dX2_forget_61 rfl (lv_at hl 1 rfl) ?_
          obtain ⟨r6, hcr6, h⟩ := bnd_some h
          refine gF_i (ws' := (rW E aw ww_5 ++ [])) C hG pst pst.symm (gR_S (As := [.int x1]) (rest := [.int x1, .ref (aw 6)]) C hz hl.1 hG pst (c_X2_allBlocks l E N x1 hcr6 H.size) okX2_allBlocks q1029 rfl (Nat.le_of_ble_eq_true rfl) (by omega) ⟨Nat.le_refl _, Nat.le_refl _⟩ dX2_forget_62) (fun H locs _ hG => ?_)
          refine lv_goto (tgt := 69) hx hb dX2_forget_65 (by decide) ?_
          exact K69 _ ih x1 x1 r6 ww_5 _ _ _ hG (lv_sub hl [0, 1] rfl) h
  rw [fX2_forget] at h
  refine lv_iconst (v := 0) hx hb dX2_forget_0 (by decide) ?_
  refine lv_istore_n (lv' := [(1, .int 0), (0, .ref (aw 2))]) hx hb dX2_forget_1 rfl hl (by decide) rfl (fun ls hl => ?_)
  exact K2 N 0 ww _ _ _ hG (lv_sub hl [1, 0] rfl) h
set_option maxHeartbeats 4000000 in
set_option maxRecDepth 100000 in
theorem c_X9_kindAt (l : Launch) (E : GE) (atx : Nat → Nat) (N : Nat) (tn : Nat) (x1 : Int32) (tt : RS) {res : Int32} (h : fX9_kindAt N tn x1 tt = some res) : gMi l E yX9_kindAt cX9_kindAt 2 .int 1 0 0 [.ref (atx 0), .int x1] (rT E atx tn tt ++ []) (rT E atx tn tt ++ []) res := by
  refine gMi_of (own := RX9) (by decide +kernel) rfl (Nat.le_of_ble_eq_true rfl) ?_
  intro p e s m args below meth c A ls Q H locs C hz hl hG hret
  have hx := C.1.1
  have hb := C.1.2.1
  have hts := C.1.2.2.2.2
  have hown := C.1.2.2.2.1
  have hl : lv_has ls 2 [(0, .ref (atx 0)), (1, .int x1)] := hl
  replace hret : ∀ (r0 : Int32) (H : Heap) (locs : List Loc) (pc : Nat) (ls' : Array Slot), some r0 = some res → narrow .int (.int r0) = .int r0 → gG E A s.heap (rT E atx tn tt ++ []) H locs → decode cX9_kindAt pc = .ok (.ireturn, 1) → W p l e (rmD 1 0 0) s m args below meth c H locs 0 0 Q (F0 m pc ls' [.int r0]) := by
    intro r0 H locs pc ls' e0 hn; cases e0; exact hret H locs pc ls' hn
  rw [fX9_kindAt] at h
  refine lv_iload_n hx hb dX9_kindAt_0 rfl (lv_at hl 1 rfl) ?_
  refine lv_if_lt (tgt := 21) hx hb dX9_kindAt_1 (by decide) (fun c1 => ?_) (fun c1 => ?_)
  · replace h := it c1 h
    refine lv_iconst (v := 0) hx hb dX9_kindAt_21 (by decide) ?_
    exact hret _ _ _ _ _ h rfl hG dX9_kindAt_22
  · replace h := ie c1 h
    refine lv_iload_n hx hb dX9_kindAt_4 rfl (lv_at hl 1 rfl) ?_
    refine lv_aload_n hx hb dX9_kindAt_5 rfl (lv_at hl 0 rfl) ?_
    refine gL_f (v := .int (tt 0 0)) C hG kX9 0 0 rfl (by decide) rfl q741 rfl dX9_kindAt_6 ?_
    refine lv_icmp_ge (tgt := 21) hx hb dX9_kindAt_9 (by decide) (fun c9 => ?_) (fun c9 => ?_)
    · replace h := it c9 h
      refine lv_iconst (v := 0) hx hb dX9_kindAt_21 (by decide) ?_
      exact hret _ _ _ _ _ h rfl hG dX9_kindAt_22
    · replace h := ie c9 h
      refine lv_aload_n hx hb dX9_kindAt_12 rfl (lv_at hl 0 rfl) ?_
      refine gL_f (v := .ref (atx 1)) C hG kX9 0 1 rfl (by decide) rfl q743 rfl dX9_kindAt_13 ?_
      refine lv_iload_n hx hb dX9_kindAt_16 rfl (lv_at hl 1 rfl) ?_
      obtain ⟨b1, h⟩ := ck_some h
      refine gL_i (v := (tt 1 x1.toNatClampNeg)) C hG 1 rfl (inb_in b1) rfl dX9_kindAt_17 ?_
      refine lv_goto (tgt := 22) hx hb dX9_kindAt_18 (by decide) ?_
      exact hret _ _ _ _ _ h rfl hG dX9_kindAt_22
set_option maxHeartbeats 4000000 in
set_option maxRecDepth 100000 in
theorem c_X9_valueAt (l : Launch) (E : GE) (atx : Nat → Nat) (N : Nat) (tn : Nat) (x1 : Int32) (tt : RS) {res : Int32} (h : fX9_valueAt N tn x1 tt = some res) : gMi l E yX9_valueAt cX9_valueAt 2 .int 1 0 0 [.ref (atx 0), .int x1] (rT E atx tn tt ++ []) (rT E atx tn tt ++ []) res := by
  refine gMi_of (own := RX9) (by decide +kernel) rfl (Nat.le_of_ble_eq_true rfl) ?_
  intro p e s m args below meth c A ls Q H locs C hz hl hG hret
  have hx := C.1.1
  have hb := C.1.2.1
  have hts := C.1.2.2.2.2
  have hown := C.1.2.2.2.1
  have hl : lv_has ls 2 [(0, .ref (atx 0)), (1, .int x1)] := hl
  replace hret : ∀ (r0 : Int32) (H : Heap) (locs : List Loc) (pc : Nat) (ls' : Array Slot), some r0 = some res → narrow .int (.int r0) = .int r0 → gG E A s.heap (rT E atx tn tt ++ []) H locs → decode cX9_valueAt pc = .ok (.ireturn, 1) → W p l e (rmD 1 0 0) s m args below meth c H locs 0 0 Q (F0 m pc ls' [.int r0]) := by
    intro r0 H locs pc ls' e0 hn; cases e0; exact hret H locs pc ls' hn
  rw [fX9_valueAt] at h
  refine lv_iload_n hx hb dX9_valueAt_0 rfl (lv_at hl 1 rfl) ?_
  refine lv_if_lt (tgt := 21) hx hb dX9_valueAt_1 (by decide) (fun c1 => ?_) (fun c1 => ?_)
  · replace h := it c1 h
    refine lv_iconst (v := 0) hx hb dX9_valueAt_21 (by decide) ?_
    exact hret _ _ _ _ _ h rfl hG dX9_valueAt_22
  · replace h := ie c1 h
    refine lv_iload_n hx hb dX9_valueAt_4 rfl (lv_at hl 1 rfl) ?_
    refine lv_aload_n hx hb dX9_valueAt_5 rfl (lv_at hl 0 rfl) ?_
    refine gL_f (v := .int (tt 0 0)) C hG kX9 0 0 rfl (by decide) rfl q741 rfl dX9_valueAt_6 ?_
    refine lv_icmp_ge (tgt := 21) hx hb dX9_valueAt_9 (by decide) (fun c9 => ?_) (fun c9 => ?_)
    · replace h := it c9 h
      refine lv_iconst (v := 0) hx hb dX9_valueAt_21 (by decide) ?_
      exact hret _ _ _ _ _ h rfl hG dX9_valueAt_22
    · replace h := ie c9 h
      refine lv_aload_n hx hb dX9_valueAt_12 rfl (lv_at hl 0 rfl) ?_
      refine gL_f (v := .ref (atx 2)) C hG kX9 0 2 rfl (by decide) rfl q744 rfl dX9_valueAt_13 ?_
      refine lv_iload_n hx hb dX9_valueAt_16 rfl (lv_at hl 1 rfl) ?_
      obtain ⟨b1, h⟩ := ck_some h
      refine gL_i (v := (tt 2 x1.toNatClampNeg)) C hG 2 rfl (inb_in b1) rfl dX9_valueAt_17 ?_
      refine lv_goto (tgt := 22) hx hb dX9_valueAt_18 (by decide) ?_
      exact hret _ _ _ _ _ h rfl hG dX9_valueAt_22
set_option maxHeartbeats 4000000 in
set_option maxRecDepth 100000 in
theorem c_X1_lowestFree (l : Launch) (E : GE) (aw : Nat → Nat) (N : Nat) (x1 : Int32) (ww : RS) {res : Int32} (h : fX1_lowestFree N x1 ww = some res) : gMi l E yX1_lowestFree cX1_lowestFree 3 .int 1 0 0 [.ref (aw 15), .int x1] (rW E aw ww ++ []) (rW E aw ww ++ []) res := by
  refine gMi_of (own := RX1) (by decide +kernel) rfl (Nat.le_of_ble_eq_true rfl) ?_
  intro p e s m args below meth c A ls Q H locs C hz hl hG hret
  have hx := C.1.1
  have hb := C.1.2.1
  have hts := C.1.2.2.2.2
  have hown := C.1.2.2.2.1
  have hl : lv_has ls 3 [(0, .ref (aw 15)), (1, .int x1)] := hl
  replace hret : ∀ (r0 : Int32) (H : Heap) (locs : List Loc) (pc : Nat) (ls' : Array Slot), some r0 = some res → narrow .int (.int r0) = .int r0 → gG E A s.heap (rW E aw ww ++ []) H locs → decode cX1_lowestFree pc = .ok (.ireturn, 1) → W p l e (rmD 1 0 0) s m args below meth c H locs 0 0 Q (F0 m pc ls' [.int r0]) := by
    intro r0 H locs pc ls' e0 hn; cases e0; exact hret H locs pc ls' hn
  have K2 : ∀ (k : Nat), ∀  (x2 : Int32) (H : Heap) (locs : List Loc) (ls : Array Slot), gG E A s.heap (rW E aw ww ++ []) H locs → lv_has ls 3 [(0, .ref (aw 15)), (2, .int x2)] → fX1_lowestFree_L2 N x1 ww k x2 = some res → W p l e (rmD 1 0 0) s m args below meth c H locs 0 0 Q (F0 m 2 ls []) := by
    intro k
    induction k with
    | zero => intro x2 H locs ls hG hl h; exact absurd (show none = _ from h) (by simp)
    | succ k ih =>
      intro x2 H locs ls hG hl h
      rw [fX1_lowestFree_L2] at h
      refine lv_iload_n hx hb dX1_lowestFree_2 rfl (lv_at hl 1 rfl) ?_
      refine lv_bipush (v := 9) hx hb dX1_lowestFree_3 (by decide) ?_
      refine lv_icmp_ge (tgt := 26) hx hb dX1_lowestFree_5 (by decide) (fun c5 => ?_) (fun c5 => ?_)
      · replace h := it c5 h
        refine lv_iconst (v := (-1)) hx hb dX1_lowestFree_26 (by decide) ?_
        exact hret _ _ _ _ _ h rfl hG dX1_lowestFree_27
      · replace h := ie c5 h
        refine lv_aload_n hx hb dX1_lowestFree_8 rfl (lv_at hl 0 rfl) ?_
        refine gL_f (v := .ref (aw 19)) C hG kX1 15 3 rfl (by decide) rfl q279 rfl dX1_lowestFree_9 ?_
        refine lv_iload_n hx hb dX1_lowestFree_12 rfl (lv_at hl 1 rfl) ?_
        obtain ⟨b1, h⟩ := ck_some h
        refine gL_i (v := (ww 19 x2.toNatClampNeg)) C hG 19 rfl (inb_in b1) rfl dX1_lowestFree_13 ?_
        refine lv_iconst (v := (-1)) hx hb dX1_lowestFree_14 (by decide) ?_
        refine lv_icmp_ne (tgt := 20) hx hb dX1_lowestFree_15 (by decide) (fun c15 => ?_) (fun c15 => ?_)
        · replace h := ie c15 h
          refine lv_iinc (v := (x2 + 1)) (lv' := [(2, .int (x2 + 1)), (0, .ref (aw 15))]) hx hb dX1_lowestFree_20 hl (k := 1) rfl (congrArg (x2 + ·) (by decide : Int32.ofInt 1 = 1)) (by decide) rfl (fun ls hl => ?_)
          refine lv_goto (tgt := 2) hx hb dX1_lowestFree_23 (by decide) ?_
          exact ih (x2 + 1) _ _ _ hG (lv_sub hl [1, 0] rfl) h
        · replace h := it c15 h
          refine lv_iload_n hx hb dX1_lowestFree_18 rfl (lv_at hl 1 rfl) ?_
          exact hret _ _ _ _ _ h rfl hG dX1_lowestFree_19
  rw [fX1_lowestFree] at h
  refine lv_iload_n hx hb dX1_lowestFree_0 rfl (lv_at hl 1 rfl) ?_
  refine lv_istore_n (lv' := [(2, .int x1), (0, .ref (aw 15)), (1, .int x1)]) hx hb dX1_lowestFree_1 rfl hl (by decide) rfl (fun ls hl => ?_)
  exact K2 N x1 _ _ _ hG (lv_sub hl [1, 0] rfl) h
set_option maxHeartbeats 4000000 in
set_option maxRecDepth 100000 in
theorem c_X2_detail (l : Launch) (E : GE) (aw : Nat → Nat) (N : Nat) (x1 : Int32) (x2 : Int32) (ww : RS) {res : Int32} (h : fX2_detail N x1 x2 ww = some res) : gMi l E yX2_detail cX2_detail 3 .int 1 0 0 [.ref (aw 2), .int x1, .int x2] (rW E aw ww ++ []) (rW E aw ww ++ []) res := by
  refine gMi_of (own := RX2) (by decide +kernel) rfl (Nat.le_of_ble_eq_true rfl) ?_
  intro p e s m args below meth c A ls Q H locs C hz hl hG hret
  have hx := C.1.1
  have hb := C.1.2.1
  have hts := C.1.2.2.2.2
  have hown := C.1.2.2.2.1
  have hl : lv_has ls 3 [(0, .ref (aw 2)), (1, .int x1), (2, .int x2)] := hl
  replace hret : ∀ (r0 : Int32) (H : Heap) (locs : List Loc) (pc : Nat) (ls' : Array Slot), some r0 = some res → narrow .int (.int r0) = .int r0 → gG E A s.heap (rW E aw ww ++ []) H locs → decode cX2_detail pc = .ok (.ireturn, 1) → W p l e (rmD 1 0 0) s m args below meth c H locs 0 0 Q (F0 m pc ls' [.int r0]) := by
    intro r0 H locs pc ls' e0 hn; cases e0; exact hret H locs pc ls' hn
  rw [fX2_detail] at h
  refine lv_iload_n hx hb dX2_detail_0 rfl (lv_at hl 2 rfl) ?_
  by_cases w1_0 : x2 = 0
  · replace h := it w1_0 h
    refine lv_tableIn (tgt := 52) hx hb dX2_detail_1 (by rw [w1_0]; decide) (by rw [w1_0]; decide) (off := 51) (by rw [w1_0]; decide) (by decide) ?_
    refine lv_aload_n hx hb dX2_detail_52 rfl (lv_at hl 0 rfl) ?_
    refine gL_f (v := .ref (aw 10)) C hG kX2 2 7 rfl (by decide) rfl q231 rfl dX2_detail_53 ?_
    refine lv_iload_n hx hb dX2_detail_56 rfl (lv_at hl 1 rfl) ?_
    obtain ⟨b1, h⟩ := ck_some h
    refine gL_i (v := (ww 10 x1.toNatClampNeg)) C hG 10 rfl (inb_in b1) rfl dX2_detail_57 ?_
    exact hret _ _ _ _ _ h rfl hG dX2_detail_58
  · replace h := ie w1_0 h
    by_cases w1_1 : x2 = 1
    · replace h := it w1_1 h
      refine lv_tableIn (tgt := 59) hx hb dX2_detail_1 (by rw [w1_1]; decide) (by rw [w1_1]; decide) (off := 58) (by rw [w1_1]; decide) (by decide) ?_
      refine lv_aload_n hx hb dX2_detail_59 rfl (lv_at hl 0 rfl) ?_
      refine gL_f (v := .ref (aw 11)) C hG kX2 2 8 rfl (by decide) rfl q233 rfl dX2_detail_60 ?_
      refine lv_iload_n hx hb dX2_detail_63 rfl (lv_at hl 1 rfl) ?_
      obtain ⟨b2, h⟩ := ck_some h
      refine gL_i (v := (ww 11 x1.toNatClampNeg)) C hG 11 rfl (inb_in b2) rfl dX2_detail_64 ?_
      exact hret _ _ _ _ _ h rfl hG dX2_detail_65
    · replace h := ie w1_1 h
      by_cases w1_2 : x2 = 2
      · replace h := it w1_2 h
        refine lv_tableIn (tgt := 66) hx hb dX2_detail_1 (by rw [w1_2]; decide) (by rw [w1_2]; decide) (off := 65) (by rw [w1_2]; decide) (by decide) ?_
        refine lv_aload_n hx hb dX2_detail_66 rfl (lv_at hl 0 rfl) ?_
        refine gL_f (v := .ref (aw 12)) C hG kX2 2 9 rfl (by decide) rfl q235 rfl dX2_detail_67 ?_
        refine lv_iload_n hx hb dX2_detail_70 rfl (lv_at hl 1 rfl) ?_
        obtain ⟨b3, h⟩ := ck_some h
        refine gL_i (v := (ww 12 x1.toNatClampNeg)) C hG 12 rfl (inb_in b3) rfl dX2_detail_71 ?_
        exact hret _ _ _ _ _ h rfl hG dX2_detail_72
      · replace h := ie w1_2 h
        by_cases w1_3 : x2 = 3
        · replace h := it w1_3 h
          refine lv_tableIn (tgt := 73) hx hb dX2_detail_1 (by rw [w1_3]; decide) (by rw [w1_3]; decide) (off := 72) (by rw [w1_3]; decide) (by decide) ?_
          refine lv_aload_n hx hb dX2_detail_73 rfl (lv_at hl 0 rfl) ?_
          refine gL_f (v := .ref (aw 5)) C hG kX2 2 2 rfl (by decide) rfl q217 rfl dX2_detail_74 ?_
          refine lv_iload_n hx hb dX2_detail_77 rfl (lv_at hl 1 rfl) ?_
          obtain ⟨b4, h⟩ := ck_some h
          refine gL_i (v := (ww 5 x1.toNatClampNeg)) C hG 5 rfl (inb_in b4) rfl dX2_detail_78 ?_
          exact hret _ _ _ _ _ h rfl hG dX2_detail_79
        · replace h := ie w1_3 h
          by_cases w1_4 : x2 = 4
          · replace h := it w1_4 h
            refine lv_tableIn (tgt := 80) hx hb dX2_detail_1 (by rw [w1_4]; decide) (by rw [w1_4]; decide) (off := 79) (by rw [w1_4]; decide) (by decide) ?_
            refine lv_aload_n hx hb dX2_detail_80 rfl (lv_at hl 0 rfl) ?_
            refine gL_f (v := .ref (aw 4)) C hG kX2 2 1 rfl (by decide) rfl q214 rfl dX2_detail_81 ?_
            refine lv_iload_n hx hb dX2_detail_84 rfl (lv_at hl 1 rfl) ?_
            obtain ⟨b5, h⟩ := ck_some h
            refine gL_i (v := (ww 4 x1.toNatClampNeg)) C hG 4 rfl (inb_in b5) rfl dX2_detail_85 ?_
            exact hret _ _ _ _ _ h rfl hG dX2_detail_86
          · replace h := ie w1_4 h
            by_cases w1_5 : x2 = 5
            · replace h := it w1_5 h
              refine lv_tableIn (tgt := 87) hx hb dX2_detail_1 (by rw [w1_5]; decide) (by rw [w1_5]; decide) (off := 86) (by rw [w1_5]; decide) (by decide) ?_
              refine lv_aload_n hx hb dX2_detail_87 rfl (lv_at hl 0 rfl) ?_
              refine gL_f (v := .ref (aw 6)) C hG kX2 2 3 rfl (by decide) rfl q220 rfl dX2_detail_88 ?_
              refine lv_iload_n hx hb dX2_detail_91 rfl (lv_at hl 1 rfl) ?_
              obtain ⟨b6, h⟩ := ck_some h
              refine gL_i (v := (ww 6 x1.toNatClampNeg)) C hG 6 rfl (inb_in b6) rfl dX2_detail_92 ?_
              exact hret _ _ _ _ _ h rfl hG dX2_detail_93
            · replace h := ie w1_5 h
              by_cases w1_6 : x2 = 6
              · replace h := it w1_6 h
                refine lv_tableIn (tgt := 94) hx hb dX2_detail_1 (by rw [w1_6]; decide) (by rw [w1_6]; decide) (off := 93) (by rw [w1_6]; decide) (by decide) ?_
                refine lv_aload_n hx hb dX2_detail_94 rfl (lv_at hl 0 rfl) ?_
                refine gL_f (v := .ref (aw 13)) C hG kX2 2 10 rfl (by decide) rfl q238 rfl dX2_detail_95 ?_
                refine lv_iload_n hx hb dX2_detail_98 rfl (lv_at hl 1 rfl) ?_
                obtain ⟨b7, h⟩ := ck_some h
                refine gL_i (v := (ww 13 x1.toNatClampNeg)) C hG 13 rfl (inb_in b7) rfl dX2_detail_99 ?_
                exact hret _ _ _ _ _ h rfl hG dX2_detail_100
              · replace h := ie w1_6 h
                by_cases w1_7 : x2 = 7
                · replace h := it w1_7 h
                  refine lv_tableIn (tgt := 101) hx hb dX2_detail_1 (by rw [w1_7]; decide) (by rw [w1_7]; decide) (off := 100) (by rw [w1_7]; decide) (by decide) ?_
                  refine lv_aload_n hx hb dX2_detail_101 rfl (lv_at hl 0 rfl) ?_
                  refine gL_f (v := .ref (aw 14)) C hG kX2 2 11 rfl (by decide) rfl q239 rfl dX2_detail_102 ?_
                  refine lv_iload_n hx hb dX2_detail_105 rfl (lv_at hl 1 rfl) ?_
                  obtain ⟨b8, h⟩ := ck_some h
                  refine gL_i (v := (ww 14 x1.toNatClampNeg)) C hG 14 rfl (inb_in b8) rfl dX2_detail_106 ?_
                  exact hret _ _ _ _ _ h rfl hG dX2_detail_107
                · replace h := ie w1_7 h
                  by_cases w1_8 : x2 = 8
                  · replace h := it w1_8 h
                    refine lv_tableIn (tgt := 108) hx hb dX2_detail_1 (by rw [w1_8]; decide) (by rw [w1_8]; decide) (off := 107) (by rw [w1_8]; decide) (by decide) ?_
                    refine lv_aload_n hx hb dX2_detail_108 rfl (lv_at hl 0 rfl) ?_
                    refine gL_f (v := .ref (aw 7)) C hG kX2 2 4 rfl (by decide) rfl q223 rfl dX2_detail_109 ?_
                    refine lv_iload_n hx hb dX2_detail_112 rfl (lv_at hl 1 rfl) ?_
                    obtain ⟨b9, h⟩ := ck_some h
                    refine gL_i (v := (ww 7 x1.toNatClampNeg)) C hG 7 rfl (inb_in b9) rfl dX2_detail_113 ?_
                    exact hret _ _ _ _ _ h rfl hG dX2_detail_114
                  · replace h := ie w1_8 h
                    refine lv_tableOut (tgt := 115) hx hb dX2_detail_1 (g_swo x2 0 8 [0, 1, 2, 3, 4, 5, 6, 7, 8] (by decide +kernel) (List.forall_mem_cons.mpr ⟨w1_0, List.forall_mem_cons.mpr ⟨w1_1, List.forall_mem_cons.mpr ⟨w1_2, List.forall_mem_cons.mpr ⟨w1_3, List.forall_mem_cons.mpr ⟨w1_4, List.forall_mem_cons.mpr ⟨w1_5, List.forall_mem_cons.mpr ⟨w1_6, List.forall_mem_cons.mpr ⟨w1_7, List.forall_mem_cons.mpr ⟨w1_8, fun _ q9 => absurd q9 List.not_mem_nil⟩⟩⟩⟩⟩⟩⟩⟩⟩)) (by decide) ?_
                    refine lv_iconst (v := (-1)) hx hb dX2_detail_115 (by decide) ?_
                    exact hret _ _ _ _ _ h rfl hG dX2_detail_116
set_option maxHeartbeats 4000000 in
set_option maxRecDepth 100000 in
theorem c_X3_detail (l : Launch) (E : GE) (aw : Nat → Nat) (N : Nat) (x1 : Int32) (x2 : Int32) (ww : RS) {res : Int32} (h : fX3_detail N x1 x2 ww = some res) : gMi l E yX3_detail cX3_detail 3 .int 1 0 0 [.ref (aw 20), .int x1, .int x2] (rW E aw ww ++ []) (rW E aw ww ++ []) res := by
  refine gMi_of (own := RX3) (by decide +kernel) rfl (Nat.le_of_ble_eq_true rfl) ?_
  intro p e s m args below meth c A ls Q H locs C hz hl hG hret
  have hx := C.1.1
  have hb := C.1.2.1
  have hts := C.1.2.2.2.2
  have hown := C.1.2.2.2.1
  have hl : lv_has ls 3 [(0, .ref (aw 20)), (1, .int x1), (2, .int x2)] := hl
  replace hret : ∀ (r0 : Int32) (H : Heap) (locs : List Loc) (pc : Nat) (ls' : Array Slot), some r0 = some res → narrow .int (.int r0) = .int r0 → gG E A s.heap (rW E aw ww ++ []) H locs → decode cX3_detail pc = .ok (.ireturn, 1) → W p l e (rmD 1 0 0) s m args below meth c H locs 0 0 Q (F0 m pc ls' [.int r0]) := by
    intro r0 H locs pc ls' e0 hn; cases e0; exact hret H locs pc ls' hn
  rw [fX3_detail] at h
  refine lv_iload_n hx hb dX3_detail_0 rfl (lv_at hl 1 rfl) ?_
  refine lv_iconst (v := (-1)) hx hb dX3_detail_1 (by decide) ?_
  refine lv_icmp_ne (tgt := 10) hx hb dX3_detail_2 (by decide) (fun c2 => ?_) (fun c2 => ?_)
  · replace h := ie c2 h
    refine lv_iload_n hx hb dX3_detail_10 rfl (lv_at hl 1 rfl) ?_
    refine lv_if_lt (tgt := 31) hx hb dX3_detail_11 (by decide) (fun c11 => ?_) (fun c11 => ?_)
    · replace h := it c11 h
      refine lv_bipush (v := (-2)) hx hb dX3_detail_31 (by decide) ?_
      exact hret _ _ _ _ _ h rfl hG dX3_detail_33
    · replace h := ie c11 h
      refine lv_iload_n hx hb dX3_detail_14 rfl (lv_at hl 1 rfl) ?_
      refine lv_aload_n hx hb dX3_detail_15 rfl (lv_at hl 0 rfl) ?_
      refine gL_f (v := .int (ww 20 0)) C hG kX3 20 0 rfl (by decide) rfl q296 rfl dX3_detail_16 ?_
      refine lv_icmp_ge (tgt := 31) hx hb dX3_detail_19 (by decide) (fun c19 => ?_) (fun c19 => ?_)
      · replace h := it c19 h
        refine lv_bipush (v := (-2)) hx hb dX3_detail_31 (by decide) ?_
        exact hret _ _ _ _ _ h rfl hG dX3_detail_33
      · replace h := ie c19 h
        refine lv_iload_n hx hb dX3_detail_22 rfl (lv_at hl 2 rfl) ?_
        refine lv_if_lt (tgt := 31) hx hb dX3_detail_23 (by decide) (fun c23 => ?_) (fun c23 => ?_)
        · replace h := it c23 h
          refine lv_bipush (v := (-2)) hx hb dX3_detail_31 (by decide) ?_
          exact hret _ _ _ _ _ h rfl hG dX3_detail_33
        · replace h := ie c23 h
          refine lv_iload_n hx hb dX3_detail_26 rfl (lv_at hl 2 rfl) ?_
          refine lv_iconst (v := 1) hx hb dX3_detail_27 (by decide) ?_
          refine lv_icmp_le (tgt := 34) hx hb dX3_detail_28 (by decide) (fun c28 => ?_) (fun c28 => ?_)
          · replace h := it c28 h
            refine lv_iload_n hx hb dX3_detail_34 rfl (lv_at hl 2 rfl) ?_
            refine lv_if_ne (tgt := 47) hx hb dX3_detail_35 (by decide) (fun c35 => ?_) (fun c35 => ?_)
            · replace h := ie c35 h
              refine lv_aload_n hx hb dX3_detail_47 rfl (lv_at hl 0 rfl) ?_
              refine gL_f (v := .ref (aw 22)) C hG kX3 20 2 rfl (by decide) rfl q299 rfl dX3_detail_48 ?_
              refine lv_iload_n hx hb dX3_detail_51 rfl (lv_at hl 1 rfl) ?_
              obtain ⟨b1, h⟩ := ck_some h
              refine gL_i (v := (ww 22 x1.toNatClampNeg)) C hG 22 rfl (inb_in b1) rfl dX3_detail_52 ?_
              exact hret _ _ _ _ _ h rfl hG dX3_detail_53
            · replace h := it c35 h
              refine lv_aload_n hx hb dX3_detail_38 rfl (lv_at hl 0 rfl) ?_
              refine gL_f (v := .ref (aw 21)) C hG kX3 20 1 rfl (by decide) rfl q298 rfl dX3_detail_39 ?_
              refine lv_iload_n hx hb dX3_detail_42 rfl (lv_at hl 1 rfl) ?_
              obtain ⟨b2, h⟩ := ck_some h
              refine gL_i (v := (ww 21 x1.toNatClampNeg)) C hG 21 rfl (inb_in b2) rfl dX3_detail_43 ?_
              refine lv_goto (tgt := 53) hx hb dX3_detail_44 (by decide) ?_
              exact hret _ _ _ _ _ h rfl hG dX3_detail_53
          · replace h := ie c28 h
            refine lv_bipush (v := (-2)) hx hb dX3_detail_31 (by decide) ?_
            exact hret _ _ _ _ _ h rfl hG dX3_detail_33
  · replace h := it c2 h
    refine lv_aload_n hx hb dX3_detail_5 rfl (lv_at hl 0 rfl) ?_
    refine gL_f (v := .int (ww 20 0)) C hG kX3 20 0 rfl (by decide) rfl q296 rfl dX3_detail_6 ?_
    exact hret _ _ _ _ _ h rfl hG dX3_detail_9
set_option maxHeartbeats 4000000 in
set_option maxRecDepth 100000 in
theorem c_X5_detail (l : Launch) (E : GE) (aw : Nat → Nat) (N : Nat) (x1 : Int32) (x2 : Int32) (ww : RS) {res : Int32} (h : fX5_detail N x1 x2 ww = some res) : gMi l E yX5_detail cX5_detail 3 .int 1 0 0 [.ref (aw 23), .int x1, .int x2] (rW E aw ww ++ []) (rW E aw ww ++ []) res := by
  refine gMi_of (own := RX5) (by decide +kernel) rfl (Nat.le_of_ble_eq_true rfl) ?_
  intro p e s m args below meth c A ls Q H locs C hz hl hG hret
  have hx := C.1.1
  have hb := C.1.2.1
  have hts := C.1.2.2.2.2
  have hown := C.1.2.2.2.1
  have hl : lv_has ls 3 [(0, .ref (aw 23)), (1, .int x1), (2, .int x2)] := hl
  replace hret : ∀ (r0 : Int32) (H : Heap) (locs : List Loc) (pc : Nat) (ls' : Array Slot), some r0 = some res → narrow .int (.int r0) = .int r0 → gG E A s.heap (rW E aw ww ++ []) H locs → decode cX5_detail pc = .ok (.ireturn, 1) → W p l e (rmD 1 0 0) s m args below meth c H locs 0 0 Q (F0 m pc ls' [.int r0]) := by
    intro r0 H locs pc ls' e0 hn; cases e0; exact hret H locs pc ls' hn
  rw [fX5_detail] at h
  refine lv_iload_n hx hb dX5_detail_0 rfl (lv_at hl 2 rfl) ?_
  by_cases w1_0 : x2 = 0
  · replace h := it w1_0 h
    refine lv_tableIn (tgt := 28) hx hb dX5_detail_1 (by rw [w1_0]; decide) (by rw [w1_0]; decide) (off := 27) (by rw [w1_0]; decide) (by decide) ?_
    refine lv_aload_n hx hb dX5_detail_28 rfl (lv_at hl 0 rfl) ?_
    refine gL_f (v := .ref (aw 24)) C hG kX5 23 1 rfl (by decide) rfl q317 rfl dX5_detail_29 ?_
    refine lv_iload_n hx hb dX5_detail_32 rfl (lv_at hl 1 rfl) ?_
    obtain ⟨b1, h⟩ := ck_some h
    refine gL_i (v := (ww 24 x1.toNatClampNeg)) C hG 24 rfl (inb_in b1) rfl dX5_detail_33 ?_
    exact hret _ _ _ _ _ h rfl hG dX5_detail_34
  · replace h := ie w1_0 h
    by_cases w1_1 : x2 = 1
    · replace h := it w1_1 h
      refine lv_tableIn (tgt := 35) hx hb dX5_detail_1 (by rw [w1_1]; decide) (by rw [w1_1]; decide) (off := 34) (by rw [w1_1]; decide) (by decide) ?_
      refine lv_aload_n hx hb dX5_detail_35 rfl (lv_at hl 0 rfl) ?_
      refine gL_f (v := .ref (aw 25)) C hG kX5 23 2 rfl (by decide) rfl q320 rfl dX5_detail_36 ?_
      refine lv_iload_n hx hb dX5_detail_39 rfl (lv_at hl 1 rfl) ?_
      obtain ⟨b2, h⟩ := ck_some h
      refine gL_i (v := (ww 25 x1.toNatClampNeg)) C hG 25 rfl (inb_in b2) rfl dX5_detail_40 ?_
      exact hret _ _ _ _ _ h rfl hG dX5_detail_41
    · replace h := ie w1_1 h
      by_cases w1_2 : x2 = 2
      · replace h := it w1_2 h
        refine lv_tableIn (tgt := 42) hx hb dX5_detail_1 (by rw [w1_2]; decide) (by rw [w1_2]; decide) (off := 41) (by rw [w1_2]; decide) (by decide) ?_
        refine lv_aload_n hx hb dX5_detail_42 rfl (lv_at hl 0 rfl) ?_
        refine gL_f (v := .ref (aw 26)) C hG kX5 23 3 rfl (by decide) rfl q323 rfl dX5_detail_43 ?_
        refine lv_iload_n hx hb dX5_detail_46 rfl (lv_at hl 1 rfl) ?_
        obtain ⟨b3, h⟩ := ck_some h
        refine gL_i (v := (ww 26 x1.toNatClampNeg)) C hG 26 rfl (inb_in b3) rfl dX5_detail_47 ?_
        exact hret _ _ _ _ _ h rfl hG dX5_detail_48
      · replace h := ie w1_2 h
        refine lv_tableOut (tgt := 49) hx hb dX5_detail_1 (g_swo x2 0 2 [0, 1, 2] (by decide +kernel) (List.forall_mem_cons.mpr ⟨w1_0, List.forall_mem_cons.mpr ⟨w1_1, List.forall_mem_cons.mpr ⟨w1_2, fun _ q9 => absurd q9 List.not_mem_nil⟩⟩⟩)) (by decide) ?_
        refine lv_bipush (v := (-2)) hx hb dX5_detail_49 (by decide) ?_
        exact hret _ _ _ _ _ h rfl hG dX5_detail_51
set_option maxHeartbeats 4000000 in
set_option maxRecDepth 100000 in
theorem c_X2_hotterThan (l : Launch) (E : GE) (aw : Nat → Nat) (N : Nat) (x1 : Int32) (ww : RS) {res : Int32} (h : fX2_hotterThan N x1 ww = some res) : gMi l E yX2_hotterThan cX2_hotterThan 4 .int 2 0 0 [.ref (aw 2), .int x1] (rW E aw ww ++ []) (rW E aw ww ++ []) res := by
  refine gMi_of (own := RX2) (by decide +kernel) rfl (Nat.le_of_ble_eq_true rfl) ?_
  intro p e s m args below meth c A ls Q H locs C hz hl hG hret
  have hx := C.1.1
  have hb := C.1.2.1
  have hts := C.1.2.2.2.2
  have hown := C.1.2.2.2.1
  have hl : lv_has ls 4 [(0, .ref (aw 2)), (1, .int x1)] := hl
  replace hret : ∀ (r0 : Int32) (H : Heap) (locs : List Loc) (pc : Nat) (ls' : Array Slot), some r0 = some res → narrow .int (.int r0) = .int r0 → gG E A s.heap (rW E aw ww ++ []) H locs → decode cX2_hotterThan pc = .ok (.ireturn, 1) → W p l e (rmD 2 0 0) s m args below meth c H locs 0 0 Q (F0 m pc ls' [.int r0]) := by
    intro r0 H locs pc ls' e0 hn; cases e0; exact hret H locs pc ls' hn
  have K25 : ∀ (k4 : (Int32 → Int32 → Option (Int32))) (hk4 : ∀  (x2 : Int32) (x3 : Int32) (H : Heap) (locs : List Loc) (ls : Array Slot), gG E A s.heap (rW E aw ww ++ []) H locs → lv_has ls 4 [(0, .ref (aw 2)), (1, .int x1), (2, .int x2), (3, .int x3)] → k4 x2 x3 = some res → W p l e (rmD 2 0 0) s m args below meth c H locs 0 0 Q (F0 m 4 ls [])), ∀  (x3 : Int32) (s0 : Int32) (s1 : Int32) (H : Heap) (locs : List Loc) (ls : Array Slot), gG E A s.heap (rW E aw ww ++ []) H locs → lv_has ls 4 [(0, .ref (aw 2)), (1, .int x1), (3, .int x3)] → fX2_hotterThan_L25 N x1 ww k4 x3 s0 s1 = some res → W p l e (rmD 2 0 0) s m args below meth c H locs 0 0 Q (F0 m 25 ls [.int s1, .int s0]) := by
    intro k4 hk4 x3 s0 s1 H locs ls hG hl h
    rw [fX2_hotterThan_L25] at h
    refine lv_iadd hx hb dX2_hotterThan_25 ?_
    obtain ⟨x2_1, ex2_1, h⟩ := thn_some h
    refine g_int ex2_1 ?_
    refine lv_istore_n (lv' := [(2, .int x2_1), (0, .ref (aw 2)), (1, .int x1), (3, .int x3)]) hx hb dX2_hotterThan_26 rfl hl (by decide) rfl (fun ls hl => ?_)
    refine lv_iinc (v := (x3 + 1)) (lv' := [(3, .int (x3 + 1)), (2, .int x2_1), (0, .ref (aw 2)), (1, .int x1)]) hx hb dX2_hotterThan_27 hl (k := 3) rfl (congrArg (x3 + ·) (by decide : Int32.ofInt 1 = 1)) (by decide) rfl (fun ls hl => ?_)
    refine lv_goto (tgt := 4) hx hb dX2_hotterThan_30 (by decide) ?_
    exact hk4 x2_1 (x3 + 1) _ _ _ hG (lv_sub hl [2, 3, 1, 0] rfl) h
  have K4 : ∀ (k : Nat), ∀  (x2 : Int32) (x3 : Int32) (H : Heap) (locs : List Loc) (ls : Array Slot), gG E A s.heap (rW E aw ww ++ []) H locs → lv_has ls 4 [(0, .ref (aw 2)), (1, .int x1), (2, .int x2), (3, .int x3)] → fX2_hotterThan_L4 N x1 ww k x2 x3 = some res → W p l e (rmD 2 0 0) s m args below meth c H locs 0 0 Q (F0 m 4 ls []) := by
    intro k
    induction k with
    | zero => intro x2 x3 H locs ls hG hl h; exact absurd (show none = _ from h) (by simp)
    | succ k ih =>
      intro x2 x3 H locs ls hG hl h
      rw [fX2_hotterThan_L4] at h
      refine lv_iload_n hx hb dX2_hotterThan_4 rfl (lv_at hl 3 rfl) ?_
      refine lv_bipush (v := 10) hx hb dX2_hotterThan_5 (by decide) ?_
      refine lv_icmp_ge (tgt := 33) hx hb dX2_hotterThan_7 (by decide) (fun c7 => ?_) (fun c7 => ?_)
      · replace h := it c7 h
        refine lv_iload_n hx hb dX2_hotterThan_33 rfl (lv_at hl 2 rfl) ?_
        exact hret _ _ _ _ _ h rfl hG dX2_hotterThan_34
      · replace h := ie c7 h
        refine lv_iload_n hx hb dX2_hotterThan_10 rfl (lv_at hl 2 rfl) ?_
        refine lv_aload_n hx hb dX2_hotterThan_11 rfl (lv_at hl 0 rfl) ?_
        refine lv_iload_n hx hb dX2_hotterThan_12 rfl (lv_at hl 3 rfl) ?_
        refine lv_iload_n hx hb dX2_hotterThan_13 rfl (lv_at hl 1 rfl) ?_
        obtain ⟨r1, hcr1, h⟩ := bnd_some h
        refine gF_i (ws' := (rW E aw ww ++ [])) C hG (pin pnil) (List.Perm.symm (pin pnil)) (gR_V (As := [.int x3, .int x1]) (rest := [.int x2]) C hz hl.1 hG (pin pnil) (c_X2_hotter l E aw N x3 x1 ww hcr1 H.size) okX2_hotter q1281 2 rfl rfl rfl (Nat.le_of_ble_eq_true rfl) (by omega) ⟨Nat.le_refl _, Nat.le_refl _⟩ dX2_hotterThan_14) (fun H locs z2 hG => ?_)
        refine lv_if_eq (tgt := 24) hx hb dX2_hotterThan_17 (by decide) (fun c17 => ?_) (fun c17 => ?_)
        · replace h := it c17 h
          refine lv_iconst (v := 0) hx hb dX2_hotterThan_24 (by decide) ?_
          exact K25 _ ih x3 x2 0 _ _ _ hG (lv_sub hl [0, 1, 3] rfl) h
        · replace h := ie c17 h
          refine lv_iconst (v := 1) hx hb dX2_hotterThan_20 (by decide) ?_
          refine lv_goto (tgt := 25) hx hb dX2_hotterThan_21 (by decide) ?_
          exact K25 _ ih x3 x2 1 _ _ _ hG (lv_sub hl [0, 1, 3] rfl) h
  rw [fX2_hotterThan] at h
  refine lv_iconst (v := 0) hx hb dX2_hotterThan_0 (by decide) ?_
  refine lv_istore_n (lv' := [(2, .int 0), (0, .ref (aw 2)), (1, .int x1)]) hx hb dX2_hotterThan_1 rfl hl (by decide) rfl (fun ls hl => ?_)
  refine lv_iconst (v := 0) hx hb dX2_hotterThan_2 (by decide) ?_
  refine lv_istore_n (lv' := [(3, .int 0), (2, .int 0), (0, .ref (aw 2)), (1, .int x1)]) hx hb dX2_hotterThan_3 rfl hl (by decide) rfl (fun ls hl => ?_)
  exact K4 N 0 0 _ _ _ hG (lv_sub hl [2, 3, 1, 0] rfl) h
set_option maxHeartbeats 4000000 in
set_option maxRecDepth 100000 in
theorem c_J6_numberOfLeadingZeros_0f7a4 (l : Launch) (E : GE) (x0 : Int32) {res : Int32} (h : fJ6_numberOfLeadingZeros_0f7a4 x0 = res) : gMi l E yJ6_numberOfLeadingZeros_0f7a4 cJ6_numberOfLeadingZeros_0f7a4 2 .int 1 0 0 [.int x0] [] [] res := by
  refine gMi_of (own := RJ6) (by decide +kernel) rfl (Nat.le_of_ble_eq_true rfl) ?_
  intro p e s m args below meth c A ls Q H locs C hz hl hG hret
  have hx := C.1.1
  have hb := C.1.2.1
  have hts := C.1.2.2.2.2
  have hown := C.1.2.2.2.1
  have hl : lv_has ls 2 [(0, .int x0)] := hl
  replace hret : ∀ (r0 : Int32) (H : Heap) (locs : List Loc) (pc : Nat) (ls' : Array Slot), r0 = res → narrow .int (.int r0) = .int r0 → gG E A s.heap [] H locs → decode cJ6_numberOfLeadingZeros_0f7a4 pc = .ok (.ireturn, 1) → W p l e (rmD 1 0 0) s m args below meth c H locs 0 0 Q (F0 m pc ls' [.int r0]) := by
    intro r0 H locs pc ls' e0 hn; cases e0; exact hret H locs pc ls' hn
  have K73 : ∀  (x0 : Int32) (x1 : Int32) (H : Heap) (locs : List Loc) (ls : Array Slot), gG E A s.heap [] H locs → lv_has ls 2 [(0, .int x0), (1, .int x1)] → fJ6_numberOfLeadingZeros_0f7a4_L73 x0 x1 = res → W p l e (rmD 1 0 0) s m args below meth c H locs 0 0 Q (F0 m 73 ls []) := by
    intro x0 x1 H locs ls hG hl h
    rw [fJ6_numberOfLeadingZeros_0f7a4_L73] at h
    refine lv_iload_n hx hb dJ6_numberOfLeadingZeros_0f7a4_73 rfl (lv_at hl 1 rfl) ?_
    refine lv_iload_n hx hb dJ6_numberOfLeadingZeros_0f7a4_74 rfl (lv_at hl 0 rfl) ?_
    refine lv_iconst (v := 1) hx hb dJ6_numberOfLeadingZeros_0f7a4_75 (by decide) ?_
    refine lv_iushr (v := (iushr x0 1)) hx hb dJ6_numberOfLeadingZeros_0f7a4_76 rfl ?_
    refine lv_isub hx hb dJ6_numberOfLeadingZeros_0f7a4_77 ?_
    exact hret _ _ _ _ _ h rfl hG dJ6_numberOfLeadingZeros_0f7a4_78
  have K61 : ∀  (x0 : Int32) (x1 : Int32) (H : Heap) (locs : List Loc) (ls : Array Slot), gG E A s.heap [] H locs → lv_has ls 2 [(0, .int x0), (1, .int x1)] → fJ6_numberOfLeadingZeros_0f7a4_L61 x0 x1 = res → W p l e (rmD 1 0 0) s m args below meth c H locs 0 0 Q (F0 m 61 ls []) := by
    intro x0 x1 H locs ls hG hl h
    rw [fJ6_numberOfLeadingZeros_0f7a4_L61] at h
    refine lv_iload_n hx hb dJ6_numberOfLeadingZeros_0f7a4_61 rfl (lv_at hl 0 rfl) ?_
    refine lv_iconst (v := 4) hx hb dJ6_numberOfLeadingZeros_0f7a4_62 (by decide) ?_
    refine lv_icmp_lt (tgt := 73) hx hb dJ6_numberOfLeadingZeros_0f7a4_63 (by decide) (fun c63 => ?_) (fun c63 => ?_)
    · replace h := it c63 h
      exact K73 x0 x1 _ _ _ hG (lv_sub hl [0, 1] rfl) h
    · replace h := ie c63 h
      refine lv_iinc (v := (x1 + (-2))) (lv' := [(1, .int (x1 + (-2))), (0, .int x0)]) hx hb dJ6_numberOfLeadingZeros_0f7a4_66 hl (k := 1) rfl (congrArg (x1 + ·) (by decide : Int32.ofInt (-2) = (-2))) (by decide) rfl (fun ls hl => ?_)
      refine lv_iload_n hx hb dJ6_numberOfLeadingZeros_0f7a4_69 rfl (lv_at hl 1 rfl) ?_
      refine lv_iconst (v := 2) hx hb dJ6_numberOfLeadingZeros_0f7a4_70 (by decide) ?_
      refine lv_iushr (v := (iushr x0 2)) hx hb dJ6_numberOfLeadingZeros_0f7a4_71 rfl ?_
      obtain ⟨x0_1, ex0_1, h⟩ := thn_some h
      refine g_int ex0_1 ?_
      refine lv_istore_n (lv' := [(0, .int x0_1), (1, .int (x1 + (-2)))]) hx hb dJ6_numberOfLeadingZeros_0f7a4_72 rfl hl (by decide) rfl (fun ls hl => ?_)
      exact K73 x0_1 (x1 + (-2)) _ _ _ hG (lv_sub hl [0, 1] rfl) h
  have K48 : ∀  (x0 : Int32) (x1 : Int32) (H : Heap) (locs : List Loc) (ls : Array Slot), gG E A s.heap [] H locs → lv_has ls 2 [(0, .int x0), (1, .int x1)] → fJ6_numberOfLeadingZeros_0f7a4_L48 x0 x1 = res → W p l e (rmD 1 0 0) s m args below meth c H locs 0 0 Q (F0 m 48 ls []) := by
    intro x0 x1 H locs ls hG hl h
    rw [fJ6_numberOfLeadingZeros_0f7a4_L48] at h
    refine lv_iload_n hx hb dJ6_numberOfLeadingZeros_0f7a4_48 rfl (lv_at hl 0 rfl) ?_
    refine lv_bipush (v := 16) hx hb dJ6_numberOfLeadingZeros_0f7a4_49 (by decide) ?_
    refine lv_icmp_lt (tgt := 61) hx hb dJ6_numberOfLeadingZeros_0f7a4_51 (by decide) (fun c51 => ?_) (fun c51 => ?_)
    · replace h := it c51 h
      exact K61 x0 x1 _ _ _ hG (lv_sub hl [0, 1] rfl) h
    · replace h := ie c51 h
      refine lv_iinc (v := (x1 + (-4))) (lv' := [(1, .int (x1 + (-4))), (0, .int x0)]) hx hb dJ6_numberOfLeadingZeros_0f7a4_54 hl (k := 1) rfl (congrArg (x1 + ·) (by decide : Int32.ofInt (-4) = (-4))) (by decide) rfl (fun ls hl => ?_)
      refine lv_iload_n hx hb dJ6_numberOfLeadingZeros_0f7a4_57 rfl (lv_at hl 1 rfl) ?_
      refine lv_iconst (v := 4) hx hb dJ6_numberOfLeadingZeros_0f7a4_58 (by decide) ?_
      refine lv_iushr (v := (iushr x0 4)) hx hb dJ6_numberOfLeadingZeros_0f7a4_59 rfl ?_
      obtain ⟨x0_1, ex0_1, h⟩ := thn_some h
      refine g_int ex0_1 ?_
      refine lv_istore_n (lv' := [(0, .int x0_1), (1, .int (x1 + (-4)))]) hx hb dJ6_numberOfLeadingZeros_0f7a4_60 rfl hl (by decide) rfl (fun ls hl => ?_)
      exact K61 x0_1 (x1 + (-4)) _ _ _ hG (lv_sub hl [0, 1] rfl) h
  have K33 : ∀  (x0 : Int32) (x1 : Int32) (H : Heap) (locs : List Loc) (ls : Array Slot), gG E A s.heap [] H locs → lv_has ls 2 [(0, .int x0), (1, .int x1)] → fJ6_numberOfLeadingZeros_0f7a4_L33 x0 x1 = res → W p l e (rmD 1 0 0) s m args below meth c H locs 0 0 Q (F0 m 33 ls []) := by
    intro x0 x1 H locs ls hG hl h
    rw [fJ6_numberOfLeadingZeros_0f7a4_L33] at h
    refine lv_iload_n hx hb dJ6_numberOfLeadingZeros_0f7a4_33 rfl (lv_at hl 0 rfl) ?_
    refine lv_sipush (v := 256) hx hb dJ6_numberOfLeadingZeros_0f7a4_34 (by decide) ?_
    refine lv_icmp_lt (tgt := 48) hx hb dJ6_numberOfLeadingZeros_0f7a4_37 (by decide) (fun c37 => ?_) (fun c37 => ?_)
    · replace h := it c37 h
      exact K48 x0 x1 _ _ _ hG (lv_sub hl [0, 1] rfl) h
    · replace h := ie c37 h
      refine lv_iinc (v := (x1 + (-8))) (lv' := [(1, .int (x1 + (-8))), (0, .int x0)]) hx hb dJ6_numberOfLeadingZeros_0f7a4_40 hl (k := 1) rfl (congrArg (x1 + ·) (by decide : Int32.ofInt (-8) = (-8))) (by decide) rfl (fun ls hl => ?_)
      refine lv_iload_n hx hb dJ6_numberOfLeadingZeros_0f7a4_43 rfl (lv_at hl 1 rfl) ?_
      refine lv_bipush (v := 8) hx hb dJ6_numberOfLeadingZeros_0f7a4_44 (by decide) ?_
      refine lv_iushr (v := (iushr x0 8)) hx hb dJ6_numberOfLeadingZeros_0f7a4_46 rfl ?_
      obtain ⟨x0_1, ex0_1, h⟩ := thn_some h
      refine g_int ex0_1 ?_
      refine lv_istore_n (lv' := [(0, .int x0_1), (1, .int (x1 + (-8)))]) hx hb dJ6_numberOfLeadingZeros_0f7a4_47 rfl hl (by decide) rfl (fun ls hl => ?_)
      exact K48 x0_1 (x1 + (-8)) _ _ _ hG (lv_sub hl [0, 1] rfl) h
  rw [fJ6_numberOfLeadingZeros_0f7a4] at h
  refine lv_iload_n hx hb dJ6_numberOfLeadingZeros_0f7a4_0 rfl (lv_at hl 0 rfl) ?_
  refine lv_if_gt (tgt := 15) hx hb dJ6_numberOfLeadingZeros_0f7a4_1 (by decide) (fun c1 => ?_) (fun c1 => ?_)
  · replace h := it c1 h
    refine lv_bipush (v := 31) hx hb dJ6_numberOfLeadingZeros_0f7a4_15 (by decide) ?_
    refine lv_istore_n (lv' := [(1, .int 31), (0, .int x0)]) hx hb dJ6_numberOfLeadingZeros_0f7a4_17 rfl hl (by decide) rfl (fun ls hl => ?_)
    refine lv_iload_n hx hb dJ6_numberOfLeadingZeros_0f7a4_18 rfl (lv_at hl 1 rfl) ?_
    refine lv_ldcw (v := 65536) hx hb hown (hts _ q1298) dJ6_numberOfLeadingZeros_0f7a4_19 ?_
    refine lv_icmp_lt (tgt := 33) hx hb dJ6_numberOfLeadingZeros_0f7a4_22 (by decide) (fun c22 => ?_) (fun c22 => ?_)
    · replace h := it c22 h
      exact K33 x0 31 _ _ _ hG (lv_sub hl [1, 0] rfl) h
    · replace h := ie c22 h
      refine lv_iinc (v := (31 + (-16))) (lv' := [(1, .int (31 + (-16))), (0, .int x0)]) hx hb dJ6_numberOfLeadingZeros_0f7a4_25 hl (k := 0) rfl (congrArg (31 + ·) (by decide : Int32.ofInt (-16) = (-16))) (by decide) rfl (fun ls hl => ?_)
      refine lv_iload_n hx hb dJ6_numberOfLeadingZeros_0f7a4_28 rfl (lv_at hl 1 rfl) ?_
      refine lv_bipush (v := 16) hx hb dJ6_numberOfLeadingZeros_0f7a4_29 (by decide) ?_
      refine lv_iushr (v := (iushr x0 16)) hx hb dJ6_numberOfLeadingZeros_0f7a4_31 rfl ?_
      obtain ⟨x0_1, ex0_1, h⟩ := thn_some h
      refine g_int ex0_1 ?_
      refine lv_istore_n (lv' := [(0, .int x0_1), (1, .int (31 + (-16)))]) hx hb dJ6_numberOfLeadingZeros_0f7a4_32 rfl hl (by decide) rfl (fun ls hl => ?_)
      exact K33 x0_1 (31 + (-16)) _ _ _ hG (lv_sub hl [0, 1] rfl) h
  · replace h := ie c1 h
    refine lv_iload_n hx hb dJ6_numberOfLeadingZeros_0f7a4_4 rfl (lv_at hl 0 rfl) ?_
    refine lv_if_ne (tgt := 13) hx hb dJ6_numberOfLeadingZeros_0f7a4_5 (by decide) (fun c5 => ?_) (fun c5 => ?_)
    · replace h := ie c5 h
      refine lv_iconst (v := 0) hx hb dJ6_numberOfLeadingZeros_0f7a4_13 (by decide) ?_
      exact hret _ _ _ _ _ h rfl hG dJ6_numberOfLeadingZeros_0f7a4_14
    · replace h := it c5 h
      refine lv_bipush (v := 32) hx hb dJ6_numberOfLeadingZeros_0f7a4_8 (by decide) ?_
      refine lv_goto (tgt := 14) hx hb dJ6_numberOfLeadingZeros_0f7a4_10 (by decide) ?_
      exact hret _ _ _ _ _ h rfl hG dJ6_numberOfLeadingZeros_0f7a4_14
set_option maxHeartbeats 4000000 in
set_option maxRecDepth 100000 in
theorem c_X0_detail (l : Launch) (E : GE) (aw : Nat → Nat) (N : Nat) (x1 : Int32) (x2 : Int32) (ww : RS) {res : Int32} (h : fX0_detail N x1 x2 ww = some res) : gMi l E yX0_detail cX0_detail 3 .int 1 0 0 [.ref (aw 28), .int x1, .int x2] (rW E aw ww ++ []) (rW E aw ww ++ []) res := by
  refine gMi_of (own := RX0) (by decide +kernel) rfl (Nat.le_of_ble_eq_true rfl) ?_
  intro p e s m args below meth c A ls Q H locs C hz hl hG hret
  have hx := C.1.1
  have hb := C.1.2.1
  have hts := C.1.2.2.2.2
  have hown := C.1.2.2.2.1
  have hl : lv_has ls 3 [(0, .ref (aw 28)), (1, .int x1), (2, .int x2)] := hl
  replace hret : ∀ (r0 : Int32) (H : Heap) (locs : List Loc) (pc : Nat) (ls' : Array Slot), some r0 = some res → narrow .int (.int r0) = .int r0 → gG E A s.heap (rW E aw ww ++ []) H locs → decode cX0_detail pc = .ok (.ireturn, 1) → W p l e (rmD 1 0 0) s m args below meth c H locs 0 0 Q (F0 m pc ls' [.int r0]) := by
    intro r0 H locs pc ls' e0 hn; cases e0; exact hret H locs pc ls' hn
  rw [fX0_detail] at h
  refine lv_iload_n hx hb dX0_detail_0 rfl (lv_at hl 1 rfl) ?_
  refine lv_iconst (v := (-1)) hx hb dX0_detail_1 (by decide) ?_
  refine lv_icmp_ne (tgt := 10) hx hb dX0_detail_2 (by decide) (fun c2 => ?_) (fun c2 => ?_)
  · replace h := ie c2 h
    refine lv_iload_n hx hb dX0_detail_10 rfl (lv_at hl 1 rfl) ?_
    refine lv_if_lt (tgt := 31) hx hb dX0_detail_11 (by decide) (fun c11 => ?_) (fun c11 => ?_)
    · replace h := it c11 h
      refine lv_bipush (v := (-2)) hx hb dX0_detail_31 (by decide) ?_
      exact hret _ _ _ _ _ h rfl hG dX0_detail_33
    · replace h := ie c11 h
      refine lv_iload_n hx hb dX0_detail_14 rfl (lv_at hl 1 rfl) ?_
      refine lv_aload_n hx hb dX0_detail_15 rfl (lv_at hl 0 rfl) ?_
      refine gL_f (v := .int (ww 28 0)) C hG kX0 28 0 rfl (by decide) rfl q345 rfl dX0_detail_16 ?_
      refine lv_icmp_ge (tgt := 31) hx hb dX0_detail_19 (by decide) (fun c19 => ?_) (fun c19 => ?_)
      · replace h := it c19 h
        refine lv_bipush (v := (-2)) hx hb dX0_detail_31 (by decide) ?_
        exact hret _ _ _ _ _ h rfl hG dX0_detail_33
      · replace h := ie c19 h
        refine lv_iload_n hx hb dX0_detail_22 rfl (lv_at hl 2 rfl) ?_
        refine lv_if_lt (tgt := 31) hx hb dX0_detail_23 (by decide) (fun c23 => ?_) (fun c23 => ?_)
        · replace h := it c23 h
          refine lv_bipush (v := (-2)) hx hb dX0_detail_31 (by decide) ?_
          exact hret _ _ _ _ _ h rfl hG dX0_detail_33
        · replace h := ie c23 h
          refine lv_iload_n hx hb dX0_detail_26 rfl (lv_at hl 2 rfl) ?_
          refine lv_iconst (v := 4) hx hb dX0_detail_27 (by decide) ?_
          refine lv_icmp_lt (tgt := 34) hx hb dX0_detail_28 (by decide) (fun c28 => ?_) (fun c28 => ?_)
          · replace h := it c28 h
            refine lv_aload_n hx hb dX0_detail_34 rfl (lv_at hl 0 rfl) ?_
            refine gL_f (v := .ref (aw 29)) C hG kX0 28 1 rfl (by decide) rfl q346 rfl dX0_detail_35 ?_
            refine lv_iload_n hx hb dX0_detail_38 rfl (lv_at hl 1 rfl) ?_
            refine lv_iconst (v := 4) hx hb dX0_detail_39 (by decide) ?_
            refine lv_imul hx hb dX0_detail_40 ?_
            refine lv_iload_n hx hb dX0_detail_41 rfl (lv_at hl 2 rfl) ?_
            refine lv_iadd hx hb dX0_detail_42 ?_
            obtain ⟨b1, h⟩ := ck_some h
            refine gL_i (v := (ww 29 ((x1 * 4) + x2).toNatClampNeg)) C hG 29 rfl (inb_in b1) rfl dX0_detail_43 ?_
            exact hret _ _ _ _ _ h rfl hG dX0_detail_44
          · replace h := ie c28 h
            refine lv_bipush (v := (-2)) hx hb dX0_detail_31 (by decide) ?_
            exact hret _ _ _ _ _ h rfl hG dX0_detail_33
  · replace h := it c2 h
    refine lv_aload_n hx hb dX0_detail_5 rfl (lv_at hl 0 rfl) ?_
    refine gL_f (v := .int (ww 28 0)) C hG kX0 28 0 rfl (by decide) rfl q345 rfl dX0_detail_6 ?_
    exact hret _ _ _ _ _ h rfl hG dX0_detail_9
set_option maxHeartbeats 4000000 in
set_option maxRecDepth 100000 in
theorem c_X0_linesOf (l : Launch) (E : GE) (aw : Nat → Nat) (N : Nat) (x1 : Int32) (ww : RS) {res : Int32} (h : fX0_linesOf N x1 ww = some res) : gMi l E yX0_linesOf cX0_linesOf 4 .int 1 0 0 [.ref (aw 28), .int x1] (rW E aw ww ++ []) (rW E aw ww ++ []) res := by
  refine gMi_of (own := RX0) (by decide +kernel) rfl (Nat.le_of_ble_eq_true rfl) ?_
  intro p e s m args below meth c A ls Q H locs C hz hl hG hret
  have hx := C.1.1
  have hb := C.1.2.1
  have hts := C.1.2.2.2.2
  have hown := C.1.2.2.2.1
  have hl : lv_has ls 4 [(0, .ref (aw 28)), (1, .int x1)] := hl
  replace hret : ∀ (r0 : Int32) (H : Heap) (locs : List Loc) (pc : Nat) (ls' : Array Slot), some r0 = some res → narrow .int (.int r0) = .int r0 → gG E A s.heap (rW E aw ww ++ []) H locs → decode cX0_linesOf pc = .ok (.ireturn, 1) → W p l e (rmD 1 0 0) s m args below meth c H locs 0 0 Q (F0 m pc ls' [.int r0]) := by
    intro r0 H locs pc ls' e0 hn; cases e0; exact hret H locs pc ls' hn
  have K32 : ∀ (k4 : (Int32 → Int32 → Option (Int32))) (hk4 : ∀  (x2 : Int32) (x3 : Int32) (H : Heap) (locs : List Loc) (ls : Array Slot), gG E A s.heap (rW E aw ww ++ []) H locs → lv_has ls 4 [(0, .ref (aw 28)), (1, .int x1), (2, .int x2), (3, .int x3)] → k4 x2 x3 = some res → W p l e (rmD 1 0 0) s m args below meth c H locs 0 0 Q (F0 m 4 ls [])), ∀  (x3 : Int32) (s0 : Int32) (s1 : Int32) (H : Heap) (locs : List Loc) (ls : Array Slot), gG E A s.heap (rW E aw ww ++ []) H locs → lv_has ls 4 [(0, .ref (aw 28)), (1, .int x1), (3, .int x3)] → fX0_linesOf_L32 N x1 ww k4 x3 s0 s1 = some res → W p l e (rmD 1 0 0) s m args below meth c H locs 0 0 Q (F0 m 32 ls [.int s1, .int s0]) := by
    intro k4 hk4 x3 s0 s1 H locs ls hG hl h
    rw [fX0_linesOf_L32] at h
    refine lv_iadd hx hb dX0_linesOf_32 ?_
    obtain ⟨x2_1, ex2_1, h⟩ := thn_some h
    refine g_int ex2_1 ?_
    refine lv_istore_n (lv' := [(2, .int x2_1), (0, .ref (aw 28)), (1, .int x1), (3, .int x3)]) hx hb dX0_linesOf_33 rfl hl (by decide) rfl (fun ls hl => ?_)
    refine lv_iinc (v := (x3 + 1)) (lv' := [(3, .int (x3 + 1)), (2, .int x2_1), (0, .ref (aw 28)), (1, .int x1)]) hx hb dX0_linesOf_34 hl (k := 3) rfl (congrArg (x3 + ·) (by decide : Int32.ofInt 1 = 1)) (by decide) rfl (fun ls hl => ?_)
    refine lv_goto (tgt := 4) hx hb dX0_linesOf_37 (by decide) ?_
    exact hk4 x2_1 (x3 + 1) _ _ _ hG (lv_sub hl [2, 3, 1, 0] rfl) h
  have K4 : ∀ (k : Nat), ∀  (x2 : Int32) (x3 : Int32) (H : Heap) (locs : List Loc) (ls : Array Slot), gG E A s.heap (rW E aw ww ++ []) H locs → lv_has ls 4 [(0, .ref (aw 28)), (1, .int x1), (2, .int x2), (3, .int x3)] → fX0_linesOf_L4 N x1 ww k x2 x3 = some res → W p l e (rmD 1 0 0) s m args below meth c H locs 0 0 Q (F0 m 4 ls []) := by
    intro k
    induction k with
    | zero => intro x2 x3 H locs ls hG hl h; exact absurd (show none = _ from h) (by simp)
    | succ k ih =>
      intro x2 x3 H locs ls hG hl h
      rw [fX0_linesOf_L4] at h
      refine lv_iload_n hx hb dX0_linesOf_4 rfl (lv_at hl 3 rfl) ?_
      refine lv_aload_n hx hb dX0_linesOf_5 rfl (lv_at hl 0 rfl) ?_
      refine gL_f (v := .int (ww 28 0)) C hG kX0 28 0 rfl (by decide) rfl q345 rfl dX0_linesOf_6 ?_
      refine lv_icmp_ge (tgt := 40) hx hb dX0_linesOf_9 (by decide) (fun c9 => ?_) (fun c9 => ?_)
      · replace h := it c9 h
        refine lv_iload_n hx hb dX0_linesOf_40 rfl (lv_at hl 2 rfl) ?_
        exact hret _ _ _ _ _ h rfl hG dX0_linesOf_41
      · replace h := ie c9 h
        refine lv_iload_n hx hb dX0_linesOf_12 rfl (lv_at hl 2 rfl) ?_
        refine lv_aload_n hx hb dX0_linesOf_13 rfl (lv_at hl 0 rfl) ?_
        refine gL_f (v := .ref (aw 29)) C hG kX0 28 1 rfl (by decide) rfl q346 rfl dX0_linesOf_14 ?_
        refine lv_iload_n hx hb dX0_linesOf_17 rfl (lv_at hl 3 rfl) ?_
        refine lv_iconst (v := 4) hx hb dX0_linesOf_18 (by decide) ?_
        refine lv_imul hx hb dX0_linesOf_19 ?_
        refine lv_iconst (v := 1) hx hb dX0_linesOf_20 (by decide) ?_
        refine lv_iadd hx hb dX0_linesOf_21 ?_
        obtain ⟨b1, h⟩ := ck_some h
        refine gL_i (v := (ww 29 ((x3 * 4) + 1).toNatClampNeg)) C hG 29 rfl (inb_in b1) rfl dX0_linesOf_22 ?_
        refine lv_iload_n hx hb dX0_linesOf_23 rfl (lv_at hl 1 rfl) ?_
        refine lv_icmp_ne (tgt := 31) hx hb dX0_linesOf_24 (by decide) (fun c24 => ?_) (fun c24 => ?_)
        · replace h := ie c24 h
          refine lv_iconst (v := 0) hx hb dX0_linesOf_31 (by decide) ?_
          exact K32 _ ih x3 x2 0 _ _ _ hG (lv_sub hl [0, 1, 3] rfl) h
        · replace h := it c24 h
          refine lv_iconst (v := 1) hx hb dX0_linesOf_27 (by decide) ?_
          refine lv_goto (tgt := 32) hx hb dX0_linesOf_28 (by decide) ?_
          exact K32 _ ih x3 x2 1 _ _ _ hG (lv_sub hl [0, 1, 3] rfl) h
  rw [fX0_linesOf] at h
  refine lv_iconst (v := 0) hx hb dX0_linesOf_0 (by decide) ?_
  refine lv_istore_n (lv' := [(2, .int 0), (0, .ref (aw 28)), (1, .int x1)]) hx hb dX0_linesOf_1 rfl hl (by decide) rfl (fun ls hl => ?_)
  refine lv_iconst (v := 0) hx hb dX0_linesOf_2 (by decide) ?_
  refine lv_istore_n (lv' := [(3, .int 0), (2, .int 0), (0, .ref (aw 28)), (1, .int x1)]) hx hb dX0_linesOf_3 rfl hl (by decide) rfl (fun ls hl => ?_)
  exact K4 N 0 0 _ _ _ hG (lv_sub hl [2, 3, 1, 0] rfl) h
set_option maxHeartbeats 4000000 in
set_option maxRecDepth 100000 in
theorem c_Jxf58ca_isNaN_12338 (l : Launch) (E : GE) (x0 : UInt32) {res : Int32} (h : fJxf58ca_isNaN_12338 x0 = res) : gMi l E yJxf58ca_isNaN_12338 cJxf58ca_isNaN_12338 1 .boolean 1 0 0 [.float x0] [] [] res := by
  refine gMi_of (own := RJxf58ca) (by decide +kernel) rfl (Nat.le_of_ble_eq_true rfl) ?_
  intro p e s m args below meth c A ls Q H locs C hz hl hG hret
  have hx := C.1.1
  have hb := C.1.2.1
  have hts := C.1.2.2.2.2
  have hown := C.1.2.2.2.1
  have hl : lv_has ls 1 [(0, .float x0)] := hl
  replace hret : ∀ (r0 : Int32) (H : Heap) (locs : List Loc) (pc : Nat) (ls' : Array Slot), r0 = res → narrow .boolean (.int r0) = .int r0 → gG E A s.heap [] H locs → decode cJxf58ca_isNaN_12338 pc = .ok (.ireturn, 1) → W p l e (rmD 1 0 0) s m args below meth c H locs 0 0 Q (F0 m pc ls' [.int r0]) := by
    intro r0 H locs pc ls' e0 hn; cases e0; exact hret H locs pc ls' hn
  rw [fJxf58ca_isNaN_12338] at h
  refine lv_fload_n hx hb dJxf58ca_isNaN_12338_0 rfl (lv_at hl 0 rfl) ?_
  refine lv_fload_n hx hb dJxf58ca_isNaN_12338_1 rfl (lv_at hl 0 rfl) ?_
  refine lv_fcmp hx hb dJxf58ca_isNaN_12338_2 ?_
  refine lv_if_eq (tgt := 10) hx hb dJxf58ca_isNaN_12338_3 (by decide) (fun c3 => ?_) (fun c3 => ?_)
  · replace h := it c3 h
    refine lv_iconst (v := 0) hx hb dJxf58ca_isNaN_12338_10 (by decide) ?_
    exact hret _ _ _ _ _ h rfl hG dJxf58ca_isNaN_12338_11
  · replace h := ie c3 h
    refine lv_iconst (v := 1) hx hb dJxf58ca_isNaN_12338_6 (by decide) ?_
    refine lv_goto (tgt := 11) hx hb dJxf58ca_isNaN_12338_7 (by decide) ?_
    exact hret _ _ _ _ _ h rfl hG dJxf58ca_isNaN_12338_11
set_option maxHeartbeats 4000000 in
set_option maxRecDepth 100000 in
theorem c_Jxf58ca_floatToIntBits_5c35a (l : Launch) (E : GE) (x0 : UInt32) {res : Int32} (h : fJxf58ca_floatToIntBits_5c35a x0 = res) : gMi l E yJxf58ca_floatToIntBits_5c35a cJxf58ca_floatToIntBits_5c35a 1 .int 2 0 0 [.float x0] [] [] res := by
  refine gMi_of (own := RJxf58ca) (by decide +kernel) rfl (Nat.le_of_ble_eq_true rfl) ?_
  intro p e s m args below meth c A ls Q H locs C hz hl hG hret
  have hx := C.1.1
  have hb := C.1.2.1
  have hts := C.1.2.2.2.2
  have hown := C.1.2.2.2.1
  have hl : lv_has ls 1 [(0, .float x0)] := hl
  replace hret : ∀ (r0 : Int32) (H : Heap) (locs : List Loc) (pc : Nat) (ls' : Array Slot), r0 = res → narrow .int (.int r0) = .int r0 → gG E A s.heap [] H locs → decode cJxf58ca_floatToIntBits_5c35a pc = .ok (.ireturn, 1) → W p l e (rmD 2 0 0) s m args below meth c H locs 0 0 Q (F0 m pc ls' [.int r0]) := by
    intro r0 H locs pc ls' e0 hn; cases e0; exact hret H locs pc ls' hn
  rw [fJxf58ca_floatToIntBits_5c35a] at h
  refine lv_fload_n hx hb dJxf58ca_floatToIntBits_5c35a_0 rfl (lv_at hl 0 rfl) ?_
  refine gF_i (ws' := []) C hG pst pst.symm (gR_S (As := [.float x0]) (rest := []) C hz hl.1 hG pst (c_Jxf58ca_isNaN_12338 l E x0 rfl H.size) okJxf58ca_isNaN_12338 q1959 rfl (Nat.le_of_ble_eq_true rfl) (by omega) ⟨Nat.le_refl _, Nat.le_refl _⟩ dJxf58ca_floatToIntBits_5c35a_1) (fun H locs z1 hG => ?_)
  refine lv_if_ne (tgt := 12) hx hb dJxf58ca_floatToIntBits_5c35a_4 (by decide) (fun c4 => ?_) (fun c4 => ?_)
  · replace h := ie c4 h
    refine lv_ldc (v := 2143289344) hx hb hown (hts _ q1965) dJxf58ca_floatToIntBits_5c35a_12 ?_
    exact hret _ _ _ _ _ h rfl hG dJxf58ca_floatToIntBits_5c35a_14
  · replace h := it c4 h
    refine lv_fload_n hx hb dJxf58ca_floatToIntBits_5c35a_7 rfl (lv_at hl 0 rfl) ?_
    refine vn_f2i hx hb (C.1.2.2.1.trans hl.1.symm) hown (hts _ q1962) (hts _ q1964) (hts _ q1963) (hts _ q188) (Nat.le_of_ble_eq_true rfl) (Nat.le_of_ble_eq_true rfl) dJxf58ca_floatToIntBits_5c35a_8 ?_
    exact hret _ _ _ _ _ h rfl hG dJxf58ca_floatToIntBits_5c35a_11
set_option maxHeartbeats 4000000 in
set_option maxRecDepth 100000 in
theorem c_Jxe99ae_isNaN_b9ae7 (l : Launch) (E : GE) (x0 : UInt64) {res : Int32} (h : fJxe99ae_isNaN_b9ae7 x0 = res) : gMi l E yJxe99ae_isNaN_b9ae7 cJxe99ae_isNaN_b9ae7 2 .boolean 1 0 0 [.double x0] [] [] res := by
  refine gMi_of (own := RJxe99ae) (by decide +kernel) rfl (Nat.le_of_ble_eq_true rfl) ?_
  intro p e s m args below meth c A ls Q H locs C hz hl hG hret
  have hx := C.1.1
  have hb := C.1.2.1
  have hts := C.1.2.2.2.2
  have hown := C.1.2.2.2.1
  have hl : lv_has ls 2 [(0, .double x0)] := hl
  replace hret : ∀ (r0 : Int32) (H : Heap) (locs : List Loc) (pc : Nat) (ls' : Array Slot), r0 = res → narrow .boolean (.int r0) = .int r0 → gG E A s.heap [] H locs → decode cJxe99ae_isNaN_b9ae7 pc = .ok (.ireturn, 1) → W p l e (rmD 1 0 0) s m args below meth c H locs 0 0 Q (F0 m pc ls' [.int r0]) := by
    intro r0 H locs pc ls' e0 hn; cases e0; exact hret H locs pc ls' hn
  rw [fJxe99ae_isNaN_b9ae7] at h
  refine lv_dload_n hx hb dJxe99ae_isNaN_b9ae7_0 rfl (lv_at hl 0 rfl) ?_
  refine lv_dload_n hx hb dJxe99ae_isNaN_b9ae7_1 rfl (lv_at hl 0 rfl) ?_
  refine lv_dcmp hx hb dJxe99ae_isNaN_b9ae7_2 ?_
  refine lv_if_eq (tgt := 10) hx hb dJxe99ae_isNaN_b9ae7_3 (by decide) (fun c3 => ?_) (fun c3 => ?_)
  · replace h := it c3 h
    refine lv_iconst (v := 0) hx hb dJxe99ae_isNaN_b9ae7_10 (by decide) ?_
    exact hret _ _ _ _ _ h rfl hG dJxe99ae_isNaN_b9ae7_11
  · replace h := ie c3 h
    refine lv_iconst (v := 1) hx hb dJxe99ae_isNaN_b9ae7_6 (by decide) ?_
    refine lv_goto (tgt := 11) hx hb dJxe99ae_isNaN_b9ae7_7 (by decide) ?_
    exact hret _ _ _ _ _ h rfl hG dJxe99ae_isNaN_b9ae7_11
set_option maxHeartbeats 4000000 in
set_option maxRecDepth 100000 in
theorem c_Jxe99ae_doubleToLongBits_ccdee (l : Launch) (E : GE) (x0 : UInt64) {res : Int64} (h : fJxe99ae_doubleToLongBits_ccdee x0 = res) : gMl l E yJxe99ae_doubleToLongBits_ccdee cJxe99ae_doubleToLongBits_ccdee 2 2 0 0 [.double x0] [] [] res := by
  refine gMl_of (own := RJxe99ae) (by decide +kernel) rfl (Nat.le_of_ble_eq_true rfl) ?_
  intro p e s m args below meth c A ls Q H locs C hz hl hG hret
  have hx := C.1.1
  have hb := C.1.2.1
  have hts := C.1.2.2.2.2
  have hown := C.1.2.2.2.1
  have hl : lv_has ls 2 [(0, .double x0)] := hl
  replace hret : ∀ (r0 : Int64) (H : Heap) (locs : List Loc) (pc : Nat) (ls' : Array Slot), r0 = res → gG E A s.heap [] H locs → decode cJxe99ae_doubleToLongBits_ccdee pc = .ok (.lreturn, 1) → W p l e (rmD 2 0 0) s m args below meth c H locs 0 0 Q (F0 m pc ls' [.long r0]) := by
    intro r0 H locs pc ls' e0; cases e0; exact hret H locs pc ls'
  rw [fJxe99ae_doubleToLongBits_ccdee] at h
  refine lv_dload_n hx hb dJxe99ae_doubleToLongBits_ccdee_0 rfl (lv_at hl 0 rfl) ?_
  refine gF_i (ws' := []) C hG pst pst.symm (gR_S (As := [.double x0]) (rest := []) C hz hl.1 hG pst (c_Jxe99ae_isNaN_b9ae7 l E x0 rfl H.size) okJxe99ae_isNaN_b9ae7 q1973 rfl (Nat.le_of_ble_eq_true rfl) (by omega) ⟨Nat.le_refl _, Nat.le_refl _⟩ dJxe99ae_doubleToLongBits_ccdee_1) (fun H locs z1 hG => ?_)
  refine lv_if_ne (tgt := 12) hx hb dJxe99ae_doubleToLongBits_ccdee_4 (by decide) (fun c4 => ?_) (fun c4 => ?_)
  · replace h := ie c4 h
    refine lv_ldc2 (v := 9221120237041090560) hx hb hown (hts _ q1979) dJxe99ae_doubleToLongBits_ccdee_12 ?_
    exact hret _ _ _ _ _ h hG dJxe99ae_doubleToLongBits_ccdee_15
  · replace h := it c4 h
    refine lv_dload_n hx hb dJxe99ae_doubleToLongBits_ccdee_7 rfl (lv_at hl 0 rfl) ?_
    refine vn_d2l hx hb (C.1.2.2.1.trans hl.1.symm) hown (hts _ q1976) (hts _ q1978) (hts _ q1977) (hts _ q189) (Nat.le_of_ble_eq_true rfl) (Nat.le_of_ble_eq_true rfl) dJxe99ae_doubleToLongBits_ccdee_8 ?_
    exact hret _ _ _ _ _ h hG dJxe99ae_doubleToLongBits_ccdee_11
