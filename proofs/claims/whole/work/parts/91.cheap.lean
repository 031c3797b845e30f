/-! THE TEXTS TOGETHER; cheapest -/
abbrev TXS : Type := Nat → Option (Nat × RS)
def rQ1 (E : GE) (ta : Nat → Nat → Nat) (tx : TXS) (i : Nat) : va_W := match tx i with
  | none => []
  | some q => rT E (ta i) q.1 q.2
def rQ (E : GE) (ta : Nat → Nat → Nat) (tx : TXS) : va_W := (List.range 4).flatMap (rQ1 E ta tx)
def rQr (E : GE) (ta : Nat → Nat → Nat) (tx : TXS) (j : Nat) : va_W := ((List.range 4).erase j).flatMap (rQ1 E ta tx)
theorem rQ_perm {E : GE} {ta : Nat → Nat → Nat} {tx : TXS} {j : Nat} (hj : j < 4) : (rQ E ta tx).Perm (rQ1 E ta tx j ++ rQr E ta tx j) := by
  have := (List.perm_cons_erase (List.mem_range.mpr hj)).flatMap_right (rQ1 E ta tx)
  rw [List.flatMap_cons] at this
  exact this
theorem rQ_some {E : GE} {ta : Nat → Nat → Nat} {tx : TXS} {j : Nat} {q : Nat × RS} (hj : j < 4) (h : tx j = some q) : (rQ E ta tx).Perm (rT E (ta j) q.1 q.2 ++ rQr E ta tx j) := by
  have e : rQ1 E ta tx j = rT E (ta j) q.1 q.2 := by unfold rQ1; rw [h]
  rw [← e]
  exact rQ_perm hj
def tfOf (ta : Nat → Nat → Nat) (tx : TXS) : Nat → Option Nat := fun i => (tx i).map fun _ => ta i 0
theorem textAt_yes {ta : Nat → Nat → Nat} {tx : TXS} {x : Int32} {xx : RS} {q : Nat × RS} (hk : inb x 4 = true) (hc : ¬ (xx 0 7) ≤ x) (h : tx x.toNatClampNeg = some q) : fX11_textAt x (tfOf ta tx) xx = some (some (ta x.toNatClampNeg 0)) := by
  have h0 : ¬ x < 0 := fun z => inb_in hk (Or.inl z)
  unfold fX11_textAt tfOf
  rw [if_neg h0, if_neg hc, hk, ck_t, h]
  rfl
def fX11_cheapest_L6 (N : Nat) (tx : TXS) (xx nn : RS) : Nat → Int32 → Int32 → Int32 → RS → RS → RS → Option (Int32 × RS × RS × RS)
  | 0, _, _, _, _, _, _ => none
  | k + 1, x1, x2, x3, yy, ss, pp => if (xx 0 7) ≤ x3 then some (x1, yy, ss, pp) else (ck (inb x3 4) <| bnd (tx x3.toNatClampNeg) fun q => thn (fX10_copyFrom ss nn) fun s1 => bnd (fX7_play N q.1 yy s1 pp q.2) fun r => if x1 = (-1) then (fX11_cheapest_L6 N tx xx nn k x3 (r.2.2.1 1 3) (x3 + 1) r.2.1 r.2.2.1 r.2.2.2) else (if x2 ≤ (r.2.2.1 1 3) then (fX11_cheapest_L6 N tx xx nn k x1 x2 (x3 + 1) r.2.1 r.2.2.1 r.2.2.2) else (fX11_cheapest_L6 N tx xx nn k x3 (r.2.2.1 1 3) (x3 + 1) r.2.1 r.2.2.1 r.2.2.2)))
set_option maxHeartbeats 4000000 in
set_option maxRecDepth 100000 in
theorem c_X11_cheapest (l : Launch) (E : GE) (ax an asx ay ap ar ai : Nat → Nat) (ah aj ta : Nat → Nat → Nat) (tx : TXS) (ye : Nat → Value) (N : Nat) (xx yy nn ss pp : RS) {res : Int32 × RS × RS × RS} (h : fX11_cheapest_L6 N tx xx nn N (-1) 0 0 yy ss pp = some res) : gMw l E yX11_cheapest cX11_cheapest 5 .int 19 0 0 [.ref (ax 0)] (rX E ax an asx ay ap ar ai ah aj (tfOf ta tx) xx ++ (rY E ay ye yy ++ (rW E an nn ++ (rW E asx ss ++ (rP E ap pp ++ (rQ E ta tx ++ [])))))) res.1 (fun ye0 : Nat → Value => rX E ax an asx ay ap ar ai ah aj (tfOf ta tx) xx ++ (rY E ay ye0 res.2.1 ++ (rW E an nn ++ (rW E asx res.2.2.1 ++ (rP E ap res.2.2.2 ++ (rQ E ta tx ++ [])))))) := by
  refine gMw_of (own := RX11) (by decide +kernel) rfl (Nat.le_of_ble_eq_true rfl) ?_
  intro p e s m args below meth c A ls Q H locs C hz hl hG hret
  have hx := C.1.1
  have hb := C.1.2.1
  have hts := C.1.2.2.2.2
  have hown := C.1.2.2.2.1
  have hl : lv_has ls 5 [(0, .ref (ax 0))] := hl
  have K6 : ∀ (k : Nat) (x1 x2 x3 : Int32) (ye : Nat → Value) (yy ss pp : RS) (H : Heap) (locs : List Loc) (ls : Array Slot), gG E A s.heap (rX E ax an asx ay ap ar ai ah aj (tfOf ta tx) xx ++ (rY E ay ye yy ++ (rW E an nn ++ (rW E asx ss ++ (rP E ap pp ++ (rQ E ta tx ++ [])))))) H locs → lv_has ls 5 [(0, .ref (ax 0)), (1, .int x1), (2, .int x2), (3, .int x3)] → fX11_cheapest_L6 N tx xx nn k x1 x2 x3 yy ss pp = some res → W p l e (rmD 19 0 0) s m args below meth c H locs 0 0 Q (F0 m 6 ls []) := by
    intro k
    induction k with
    | zero => intro x1 x2 x3 ye yy ss pp H locs ls hG hl h; exact absurd (show none = _ from h) (by simp)
    | succ k ih =>
      intro x1 x2 x3 ye yy ss pp H locs ls hG hl h
      rw [fX11_cheapest_L6] at h
      refine lv_iload_n hx hb dX11_cheapest_6 rfl (lv_at hl 3 rfl) ?_
      refine lv_aload_n hx hb dX11_cheapest_7 rfl (lv_at hl 0 rfl) ?_
      refine gL_f (v := .int (xx 0 7)) C hG kX11 0 7 rfl (by decide) rfl q546 rfl dX11_cheapest_8 ?_
      refine lv_icmp_ge (tgt := 91) hx hb dX11_cheapest_11 (by decide) (fun c11 => ?_) (fun c11 => ?_)
      · replace h := it c11 h
        cases h
        refine lv_iload_n hx hb dX11_cheapest_91 rfl (lv_at hl 1 rfl) ?_
        exact hret ye _ _ _ _ rfl hG dX11_cheapest_92
      · replace h := ie c11 h
        obtain ⟨b1, h⟩ := ck_some h
        obtain ⟨q, htx, h⟩ := bnd_some h
        obtain ⟨s1, es1, h⟩ := thn_some h
        obtain ⟨r, hr, h⟩ := bnd_some h
        have hQ := rQ_some (E := E) (ta := ta) (inb_lt b1) htx
        have hpq : ∀ (a b c d e : va_W), (a ++ (b ++ (c ++ (d ++ (e ++ (rQ E ta tx ++ [])))))).Perm (a ++ (b ++ (c ++ (d ++ (e ++ (rT E (ta x3.toNatClampNeg) q.1 q.2 ++ (rQr E ta tx x3.toNatClampNeg ++ []))))))) := fun a b c d e => by
          rw [List.append_nil, List.append_nil]
          exact List.Perm.append_left _ (List.Perm.append_left _ (List.Perm.append_left _ (List.Perm.append_left _ (List.Perm.append_left _ hQ))))
        refine lv_aload_n hx hb dX11_cheapest_14 rfl (lv_at hl 0 rfl) ?_
        refine lv_iload_n hx hb dX11_cheapest_15 rfl (lv_at hl 3 rfl) ?_
        refine gF_q C hG (pin (pout (pout (pout (pout (pout pnil)))))) (gR_V (As := [.int x3]) (rest := []) C hz hl.1 hG (pin (pout (pout (pout (pout (pout pnil)))))) (c_X11_textAt l E ax an asx ay ap ar ai ah aj (tfOf ta tx) x3 xx (textAt_yes b1 c11 htx) H.size) okX11_textAt q1034 0 rfl rfl rfl (Nat.le_of_ble_eq_true rfl) (by omega) ⟨Nat.le_refl _, Nat.le_refl _⟩ dX11_cheapest_16) (fun u H locs _ hG => ?_)
        replace hG := hG.perm (pin (pout (pout (pout (pout (pout pnil)))))).symm
        refine g_ref (v := .ref (ta x3.toNatClampNeg 0)) rfl ?_
        refine lv_astore (lv' := [(4, .ref (ta x3.toNatClampNeg 0)), (0, .ref (ax 0)), (1, .int x1), (2, .int x2), (3, .int x3)]) hx hb dX11_cheapest_19 hl (by decide) rfl (fun ls hl => ?_)
        refine lv_aload_n hx hb dX11_cheapest_21 rfl (lv_at hl 1 rfl) ?_
        refine gL_f (v := .ref (asx 0)) C hG kX11 0 1 rfl (by decide) rfl q540 rfl dX11_cheapest_22 ?_
        refine lv_aload_n hx hb dX11_cheapest_25 rfl (lv_at hl 1 rfl) ?_
        refine gL_f (v := .ref (an 0)) C hG kX11 0 0 rfl (by decide) rfl q539 rfl dX11_cheapest_26 ?_
        refine gF_v (ws' := (rX E ax an asx ay ap ar ai ah aj (tfOf ta tx) xx ++ (rY E ay ye yy ++ (rW E an nn ++ (rW E asx s1 ++ (rP E ap pp ++ (rQ E ta tx ++ []))))))) C hG (pcons (pnext (pnext (pnext (pfst)))) (pcons (pnext (pnext (pfst))) pst)) (List.Perm.symm (pcons (pnext (pnext (pnext (pfst)))) (pcons (pnext (pnext (pfst))) pst))) (gR_N (As := [.ref (an 0)]) (rest := []) C hz hl.1 hG (pcons (pnext (pnext (pnext (pfst)))) (pcons (pnext (pnext (pfst))) pst)) (c_X10_copyFrom l E asx an ss nn es1.symm H.size) okX10_copyFrom q1260 0 rfl rfl rfl (Nat.le_of_ble_eq_true rfl) (by omega) ⟨Nat.le_refl _, Nat.le_refl _⟩ dX11_cheapest_29) (fun H locs hG => ?_)
        refine lv_aload hx hb dX11_cheapest_32 (lv_at hl 0 rfl) ?_
        refine lv_ifnull hx hb dX11_cheapest_34 ?_
        refine lv_aload_n hx hb dX11_cheapest_37 rfl (lv_at hl 1 rfl) ?_
        refine gL_f (v := .ref (ay 0)) C hG kX11 0 4 rfl (by decide) rfl q543 rfl dX11_cheapest_38 ?_
        refine lv_aload hx hb dX11_cheapest_41 (lv_at hl 0 rfl) ?_
        refine lv_aload_n hx hb dX11_cheapest_43 rfl (lv_at hl 1 rfl) ?_
        refine gL_f (v := .ref (asx 0)) C hG kX11 0 1 rfl (by decide) rfl q540 rfl dX11_cheapest_44 ?_
        refine lv_aload_n hx hb dX11_cheapest_47 rfl (lv_at hl 1 rfl) ?_
        refine gL_f (v := .ref (ap 0)) C hG kX11 0 3 rfl (by decide) rfl q542 rfl dX11_cheapest_48 ?_
        refine gF_i (ws' := (rX E ax an asx ay ap ar ai ah aj (tfOf ta tx) xx ++ (rY E ay (yeP (.ref (ta x3.toNatClampNeg 0)) (.ref (asx 0)) (.ref (ap 0))) r.2.1 ++ (rW E an nn ++ (rW E asx r.2.2.1 ++ (rP E ap r.2.2.2 ++ (rQ E ta tx ++ []))))))) C hG ((hpq _ _ _ _ _).trans (pout (pin (pout (pin (pin (pin (pout pnil)))))))) (List.Perm.symm ((hpq _ _ _ _ _).trans (pout (pin (pout (pin (pin (pin (pout pnil))))))))) (gR_N (As := [.ref (ta x3.toNatClampNeg 0), .ref (asx 0), .ref (ap 0)]) (rest := []) C hz hl.1 hG ((hpq _ _ _ _ _).trans (pout (pin (pout (pin (pin (pin (pout pnil)))))))) (c_X7_play l E ay asx ap (ta x3.toNatClampNeg) ye N q.1 yy s1 pp q.2 hr H.size) okX7_play q1038 0 rfl rfl rfl (Nat.le_of_ble_eq_true rfl) (by omega) ⟨Nat.le_refl _, Nat.le_refl _⟩ dX11_cheapest_51) (fun H locs z1 hG => ?_)
        refine lv_pop hx hb dX11_cheapest_54 rfl ?_
        have h85 : ∀ (y1 y2 : Int32) (ls : Array Slot), lv_has ls 5 [(0, .ref (ax 0)), (1, .int y1), (2, .int y2), (3, .int x3)] → fX11_cheapest_L6 N tx xx nn k y1 y2 (x3 + 1) r.2.1 r.2.2.1 r.2.2.2 = some res → W p l e (rmD 19 0 0) s m args below meth c H locs 0 0 Q (F0 m 85 ls []) := fun y1 y2 ls hl h => by
          refine lv_iinc (v := (x3 + 1)) (lv' := [(3, .int (x3 + 1)), (0, .ref (ax 0)), (1, .int y1), (2, .int y2)]) hx hb dX11_cheapest_85 hl (k := 3) rfl (congrArg (x3 + ·) (by decide : Int32.ofInt 1 = 1)) (by decide) rfl (fun ls hl => ?_)
          refine lv_goto (tgt := 6) hx hb dX11_cheapest_88 (by decide) ?_
          exact ih y1 y2 (x3 + 1) _ r.2.1 r.2.2.1 r.2.2.2 _ _ _ hG (lv_sub hl [1, 2, 3, 0] rfl) h
        have h73 : fX11_cheapest_L6 N tx xx nn k x3 (r.2.2.1 1 3) (x3 + 1) r.2.1 r.2.2.1 r.2.2.2 = some res → W p l e (rmD 19 0 0) s m args below meth c H locs 0 0 Q (F0 m 73 ls []) := fun h => by
          refine lv_iload_n hx hb dX11_cheapest_73 rfl (lv_at hl 4 rfl) ?_
          refine lv_istore_n (lv' := [(1, .int x3), (4, .ref (ta x3.toNatClampNeg 0)), (0, .ref (ax 0)), (2, .int x2), (3, .int x3)]) hx hb dX11_cheapest_74 rfl hl (by decide) rfl (fun ls hl => ?_)
          refine lv_aload_n hx hb dX11_cheapest_75 rfl (lv_at hl 2 rfl) ?_
          refine gL_f (v := .ref (asx 0)) C hG kX11 0 1 rfl (by decide) rfl q540 rfl dX11_cheapest_76 ?_
          refine gL_fN (v := .ref (asx 1)) C hG kX10 35 0 rfl (by decide) rfl q354 rfl dX11_cheapest_79 ?_
          refine lv_iconst (v := 3) hx hb dX11_cheapest_82 (by decide) ?_
          refine gL_i (v := (r.2.2.1 1 3)) C hG 36 rfl (vp_in_nI (n := 3) (by decide) (by decide)) (congrArg (r.2.2.1 1) (nI_clamp (n := 3) (by decide))) dX11_cheapest_83 ?_
          refine lv_istore_n (lv' := [(2, .int (r.2.2.1 1 3)), (1, .int x3), (4, .ref (ta x3.toNatClampNeg 0)), (0, .ref (ax 0)), (3, .int x3)]) hx hb dX11_cheapest_84 rfl hl (by decide) rfl (fun ls hl => ?_)
          exact h85 x3 (r.2.2.1 1 3) ls (lv_sub hl [3, 1, 0, 4] rfl) h
        refine lv_iload_n hx hb dX11_cheapest_55 rfl (lv_at hl 2 rfl) ?_
        refine lv_iconst (v := (-1)) hx hb dX11_cheapest_56 (by decide) ?_
        refine lv_icmp_eq (tgt := 73) hx hb dX11_cheapest_57 (by decide) (fun c57 => ?_) (fun c57 => ?_)
        · exact h73 (it c57 h)
        · replace h := ie c57 h
          refine lv_aload_n hx hb dX11_cheapest_60 rfl (lv_at hl 1 rfl) ?_
          refine gL_f (v := .ref (asx 0)) C hG kX11 0 1 rfl (by decide) rfl q540 rfl dX11_cheapest_61 ?_
          refine gL_fN (v := .ref (asx 1)) C hG kX10 35 0 rfl (by decide) rfl q354 rfl dX11_cheapest_64 ?_
          refine lv_iconst (v := 3) hx hb dX11_cheapest_67 (by decide) ?_
          refine gL_i (v := (r.2.2.1 1 3)) C hG 36 rfl (vp_in_nI (n := 3) (by decide) (by decide)) (congrArg (r.2.2.1 1) (nI_clamp (n := 3) (by decide))) dX11_cheapest_68 ?_
          refine lv_iload_n hx hb dX11_cheapest_69 rfl (lv_at hl 3 rfl) ?_
          refine lv_icmp_ge (tgt := 85) hx hb dX11_cheapest_70 (by decide) (fun c70 => ?_) (fun c70 => ?_)
          · exact h85 x1 x2 ls (lv_sub hl [1, 2, 3, 4] rfl) (it c70 h)
          · exact h73 (ie c70 h)
  refine lv_iconst (v := (-1)) hx hb dX11_cheapest_0 (by decide) ?_
  refine lv_istore_n (lv' := [(1, .int (-1)), (0, .ref (ax 0))]) hx hb dX11_cheapest_1 rfl hl (by decide) rfl (fun ls hl => ?_)
  refine lv_iconst (v := 0) hx hb dX11_cheapest_2 (by decide) ?_
  refine lv_istore_n (lv' := [(2, .int 0), (1, .int (-1)), (0, .ref (ax 0))]) hx hb dX11_cheapest_3 rfl hl (by decide) rfl (fun ls hl => ?_)
  refine lv_iconst (v := 0) hx hb dX11_cheapest_4 (by decide) ?_
  refine lv_istore_n (lv' := [(3, .int 0), (2, .int 0), (1, .int (-1)), (0, .ref (ax 0))]) hx hb dX11_cheapest_5 rfl hl (by decide) rfl (fun ls hl => ?_)
  exact K6 N (-1) 0 0 ye yy ss pp _ _ _ hG (lv_sub hl [3, 2, 1, 0] rfl) h
