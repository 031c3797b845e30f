/-! PLAYED, WOULD, CHEAPEST, TEXT -/
theorem gS_q {p : Program} {l : Launch} {e : Env} {R : Room} {s : State} {m : MethodId} {args : Array Value} {below : List Frame} {meth : Method} {c : Code} {H : Heap} {locs : List Loc} {cells slots : Nat} {Q : State → Prop} {E : GE} {cc : ByteArray} {nL n pc a ci : Nat} {own : String} {A : Nat → Prop} {ws ws' : va_W} {rest : List Value} {ls : Array Slot}
    (C : gC E p m c cc nL s args own A) (hG : gG E A s.heap ws H locs) (q0 t0 qk : Nat) {cA : ClassId} {r : vw_C} {v : Nat} {vs : List Value} {f : Nat → Option Nat} (ha : ws[q0]? = some (a, .inl (cA, n, .inr (.inr (.inr (.inr f)))))) (ht : (tysE E)[t0]? = some (cA, .object r.1)) (hv : ws[qk]? = some (v, .inr (ci, vs))) (hc : classes[ci]? = some r) {i : Int32} {j : Nat} (hin : vp_in i n) (hj : i.toNatClampNeg = j) (hdg : decode cc pc = .ok (.aastore, 1)) (hw : ws.set q0 (a, .inl (cA, n, .inr (.inr (.inr (.inr (va_up f j (some v))))))) = ws')
    (kk : ∀ (H1 : Heap) (locs1 : List Loc), gG E A s.heap ws' H1 locs1 → W p l e R s m args below meth c H1 locs1 cells slots Q (F0 m (pc + 1) ls rest)) : W p l e R s m args below meth c H locs cells slots Q (F0 m pc ls (.ref v :: .int i :: .ref a :: rest)) :=
  va_astq C.1.1 C.1.2.1 C.2.1 hG.1 hG.2.1 hG.2.2 q0 t0 qk ci ha ht hv hc hin hdg (fun H1 locs1 hP hD hS => kk H1 locs1 (gG_of hP hD hS (by rw [hj]; exact hw)))
section X9
variable (l : Launch) (E : GE) (ax an asx ay ap ar ai : Nat → Nat) (ah aj : Nat → Nat → Nat) (tf : Nat → Option Nat) (N : Nat)
set_option maxHeartbeats 4000000 in
set_option maxRecDepth 100000 in
theorem c_X11_played_no (x1 : Int32) (xx : RS) (h : fX11_textAt x1 tf xx = some none) : gMi l E yX11_played cX11_played 3 .int 19 0 0 [.ref (ax 0), .int x1] (rX E ax an asx ay ap ar ai ah aj tf xx ++ []) (rX E ax an asx ay ap ar ai ah aj tf xx ++ []) (-1) := by
  refine gMi_of (own := RX11) (by decide +kernel) rfl (Nat.le_of_ble_eq_true rfl) ?_
  intro p e s m args below meth c A ls Q H locs C hz hl hG hret
  have hx := C.1.1
  have hb := C.1.2.1
  have hl : lv_has ls 3 [(0, .ref (ax 0)), (1, .int x1)] := hl
  refine lv_aload_n hx hb dX11_played_0 rfl (lv_at hl 0 rfl) ?_
  refine lv_iload_n hx hb dX11_played_1 rfl (lv_at hl 1 rfl) ?_
  refine gF_q C hG (pin pnil) (gR_V (As := [.int x1]) (rest := []) C hz hl.1 hG (pin pnil) (c_X11_textAt l E ax an asx ay ap ar ai ah aj tf x1 xx h H.size) okX11_textAt q1034 0 rfl rfl rfl (Nat.le_of_ble_eq_true rfl) (by omega) ⟨Nat.le_refl _, Nat.le_refl _⟩ dX11_played_2) (fun u H locs _ hG => ?_)
  refine g_ref (v := .null) rfl ?_
  refine lv_astore_nN (lv' := [(2, .null), (0, .ref (ax 0)), (1, .int x1)]) hx hb dX11_played_5 rfl hl (by decide) rfl (fun ls hl => ?_)
  refine lv_aload_nN hx hb dX11_played_6 rfl (lv_at hl 0 rfl) ?_
  refine lv_ifnonnullN hx hb dX11_played_7 ?_
  refine lv_iconst (v := (-1)) hx hb dX11_played_10 (by decide) ?_
  exact hret _ _ _ _ rfl (hG.perm (pin pnil).symm) dX11_played_11
set_option maxHeartbeats 4000000 in
set_option maxRecDepth 100000 in
theorem c_X11_would_no (x1 : Int32) (xx : RS) (h : fX11_textAt x1 tf xx = some none) : gMi l E yX11_would cX11_would 3 .int 19 0 0 [.ref (ax 0), .int x1] (rX E ax an asx ay ap ar ai ah aj tf xx ++ []) (rX E ax an asx ay ap ar ai ah aj tf xx ++ []) (-1) := by
  refine gMi_of (own := RX11) (by decide +kernel) rfl (Nat.le_of_ble_eq_true rfl) ?_
  intro p e s m args below meth c A ls Q H locs C hz hl hG hret
  have hx := C.1.1
  have hb := C.1.2.1
  have hl : lv_has ls 3 [(0, .ref (ax 0)), (1, .int x1)] := hl
  refine lv_aload_n hx hb dX11_would_0 rfl (lv_at hl 0 rfl) ?_
  refine lv_iload_n hx hb dX11_would_1 rfl (lv_at hl 1 rfl) ?_
  refine gF_q C hG (pin pnil) (gR_V (As := [.int x1]) (rest := []) C hz hl.1 hG (pin pnil) (c_X11_textAt l E ax an asx ay ap ar ai ah aj tf x1 xx h H.size) okX11_textAt q1034 0 rfl rfl rfl (Nat.le_of_ble_eq_true rfl) (by omega) ⟨Nat.le_refl _, Nat.le_refl _⟩ dX11_would_2) (fun u H locs _ hG => ?_)
  refine g_ref (v := .null) rfl ?_
  refine lv_astore_nN (lv' := [(2, .null), (0, .ref (ax 0)), (1, .int x1)]) hx hb dX11_would_5 rfl hl (by decide) rfl (fun ls hl => ?_)
  refine lv_aload_nN hx hb dX11_would_6 rfl (lv_at hl 0 rfl) ?_
  refine lv_ifnonnullN hx hb dX11_would_7 ?_
  refine lv_iconst (v := (-1)) hx hb dX11_would_10 (by decide) ?_
  exact hret _ _ _ _ rfl (hG.perm (pin pnil).symm) dX11_would_11
set_option maxHeartbeats 4000000 in
set_option maxRecDepth 100000 in
theorem c_X11_played_yes (atx : Nat → Nat) (ye : Nat → Value) (tn : Nat) (x1 : Int32) (xx yy nn pp tt : RS) (hh : HS) (h : fX11_textAt x1 tf xx = some (some (atx 0))) {h' : HS} (h1 : fX4_push N nn hh = some h') {res : Int32 × RS × RS × RS} (h2 : fX7_play N tn yy nn pp tt = some res) : gMi l E yX11_played cX11_played 3 .int 19 0 0 [.ref (ax 0), .int x1] (rX E ax an asx ay ap ar ai ah aj tf xx ++ (rY E ay ye yy ++ (rW E an nn ++ (rP E ap pp ++ (rT E atx tn tt ++ (rH E ah hh ++ [])))))) (rX E ax an asx ay ap ar ai ah aj tf xx ++ (rY E ay (yeP (.ref (atx 0)) (.ref (an 0)) (.ref (ap 0))) res.2.1 ++ (rW E an res.2.2.1 ++ (rP E ap res.2.2.2 ++ (rT E atx tn tt ++ (rH E ah h' ++ [])))))) res.1 := by
  refine gMi_of (own := RX11) (by decide +kernel) rfl (Nat.le_of_ble_eq_true rfl) ?_
  intro p e s m args below meth c A ls Q H locs C hz hl hG hret
  have hx := C.1.1
  have hb := C.1.2.1
  have hts := C.1.2.2.2.2
  have hown := C.1.2.2.2.1
  have hl : lv_has ls 3 [(0, .ref (ax 0)), (1, .int x1)] := hl
  refine lv_aload_n hx hb dX11_played_0 rfl (lv_at hl 0 rfl) ?_
  refine lv_iload_n hx hb dX11_played_1 rfl (lv_at hl 1 rfl) ?_
  refine gF_q C hG (pin (pout (pout (pout (pout (pout pnil)))))) (gR_V (As := [.int x1]) (rest := []) C hz hl.1 hG (pin (pout (pout (pout (pout (pout pnil)))))) (c_X11_textAt l E ax an asx ay ap ar ai ah aj tf x1 xx h H.size) okX11_textAt q1034 0 rfl rfl rfl (Nat.le_of_ble_eq_true rfl) (by omega) ⟨Nat.le_refl _, Nat.le_refl _⟩ dX11_played_2) (fun u H locs _ hG => ?_)
  replace hG := hG.perm (pin (pout (pout (pout (pout (pout pnil)))))).symm
  refine g_ref (v := .ref (atx 0)) rfl ?_
  refine lv_astore_n (lv' := [(2, .ref (atx 0)), (0, .ref (ax 0)), (1, .int x1)]) hx hb dX11_played_5 rfl hl (by decide) rfl (fun ls hl => ?_)
  refine lv_aload_n hx hb dX11_played_6 rfl (lv_at hl 0 rfl) ?_
  refine lv_ifnonnull (tgt := 12) hx hb dX11_played_7 (by decide) ?_
  refine lv_aload_n hx hb dX11_played_12 rfl (lv_at hl 1 rfl) ?_
  refine gL_f (v := .ref (ah 0 0)) C hG kX11 0 2 rfl (by decide) rfl q541 rfl dX11_played_13 ?_
  refine lv_aload_n hx hb dX11_played_16 rfl (lv_at hl 1 rfl) ?_
  refine gL_f (v := .ref (an 0)) C hG kX11 0 0 rfl (by decide) rfl q539 rfl dX11_played_17 ?_
  refine gF_v (ws' := (rX E ax an asx ay ap ar ai ah aj tf xx ++ (rY E ay ye yy ++ (rW E an nn ++ (rP E ap pp ++ (rT E atx tn tt ++ (rH E ah h' ++ []))))))) C hG (pout (pout (pin (pout (pout (pin pnil)))))) (List.Perm.symm (pout (pout (pin (pout (pout (pin pnil))))))) (gR_N (As := [.ref (an 0)]) (rest := []) C hz hl.1 hG (pout (pout (pin (pout (pout (pin pnil)))))) (c_X4_push l E an ah N nn hh h1 H.size) okX4_push q769 30 rfl rfl rfl (Nat.le_of_ble_eq_true rfl) (by omega) ⟨Nat.le_refl _, Nat.le_refl _⟩ dX11_played_20) (fun H locs hG => ?_)
  refine lv_aload_n hx hb dX11_played_23 rfl (lv_at hl 1 rfl) ?_
  refine gL_f (v := .ref (ay 0)) C hG kX11 0 4 rfl (by decide) rfl q543 rfl dX11_played_24 ?_
  refine lv_aload_n hx hb dX11_played_27 rfl (lv_at hl 0 rfl) ?_
  refine lv_aload_n hx hb dX11_played_28 rfl (lv_at hl 1 rfl) ?_
  refine gL_f (v := .ref (an 0)) C hG kX11 0 0 rfl (by decide) rfl q539 rfl dX11_played_29 ?_
  refine lv_aload_n hx hb dX11_played_32 rfl (lv_at hl 1 rfl) ?_
  refine gL_f (v := .ref (ap 0)) C hG kX11 0 3 rfl (by decide) rfl q542 rfl dX11_played_33 ?_
  refine gF_i (ws' := (rX E ax an asx ay ap ar ai ah aj tf xx ++ (rY E ay (yeP (.ref (atx 0)) (.ref (an 0)) (.ref (ap 0))) res.2.1 ++ (rW E an res.2.2.1 ++ (rP E ap res.2.2.2 ++ (rT E atx tn tt ++ (rH E ah h' ++ []))))))) C hG (pout (pin (pin (pin (pin (pout pnil)))))) (List.Perm.symm (pout (pin (pin (pin (pin (pout pnil))))))) (gR_N (As := [.ref (atx 0), .ref (an 0), .ref (ap 0)]) (rest := []) C hz hl.1 hG (pout (pin (pin (pin (pin (pout pnil)))))) (c_X7_play l E ay an ap atx ye N tn yy nn pp tt h2 H.size) okX7_play q1038 0 rfl rfl rfl (Nat.le_of_ble_eq_true rfl) (by omega) ⟨Nat.le_refl _, Nat.le_refl _⟩ dX11_played_36) (fun H locs z1 hG => ?_)
  exact hret _ _ _ _ rfl hG dX11_played_39
set_option maxHeartbeats 4000000 in
set_option maxRecDepth 100000 in
theorem c_X11_would_yes (atx : Nat → Nat) (ye : Nat → Value) (tn : Nat) (x1 : Int32) (xx yy nn ss pp tt : RS) (h : fX11_textAt x1 tf xx = some (some (atx 0))) {s1 : RS} (h1 : fX10_copyFrom ss nn = s1) {res : Int32 × RS × RS × RS} (h2 : fX7_play N tn yy s1 pp tt = some res) : gMi l E yX11_would cX11_would 3 .int 19 0 0 [.ref (ax 0), .int x1] (rX E ax an asx ay ap ar ai ah aj tf xx ++ (rY E ay ye yy ++ (rW E an nn ++ (rW E asx ss ++ (rP E ap pp ++ (rT E atx tn tt ++ [])))))) (rX E ax an asx ay ap ar ai ah aj tf xx ++ (rY E ay (yeP (.ref (atx 0)) (.ref (asx 0)) (.ref (ap 0))) res.2.1 ++ (rW E an nn ++ (rW E asx res.2.2.1 ++ (rP E ap res.2.2.2 ++ (rT E atx tn tt ++ [])))))) ((res.2.2.1 1 3) - (nn 1 3)) := by
  refine gMi_of (own := RX11) (by decide +kernel) rfl (Nat.le_of_ble_eq_true rfl) ?_
  intro p e s m args below meth c A ls Q H locs C hz hl hG hret
  have hx := C.1.1
  have hb := C.1.2.1
  have hts := C.1.2.2.2.2
  have hown := C.1.2.2.2.1
  have hl : lv_has ls 3 [(0, .ref (ax 0)), (1, .int x1)] := hl
  refine lv_aload_n hx hb dX11_would_0 rfl (lv_at hl 0 rfl) ?_
  refine lv_iload_n hx hb dX11_would_1 rfl (lv_at hl 1 rfl) ?_
  refine gF_q C hG (pin (pout (pout (pout (pout (pout pnil)))))) (gR_V (As := [.int x1]) (rest := []) C hz hl.1 hG (pin (pout (pout (pout (pout (pout pnil)))))) (c_X11_textAt l E ax an asx ay ap ar ai ah aj tf x1 xx h H.size) okX11_textAt q1034 0 rfl rfl rfl (Nat.le_of_ble_eq_true rfl) (by omega) ⟨Nat.le_refl _, Nat.le_refl _⟩ dX11_would_2) (fun u H locs _ hG => ?_)
  replace hG := hG.perm (pin (pout (pout (pout (pout (pout pnil)))))).symm
  refine g_ref (v := .ref (atx 0)) rfl ?_
  refine lv_astore_n (lv' := [(2, .ref (atx 0)), (0, .ref (ax 0)), (1, .int x1)]) hx hb dX11_would_5 rfl hl (by decide) rfl (fun ls hl => ?_)
  refine lv_aload_n hx hb dX11_would_6 rfl (lv_at hl 0 rfl) ?_
  refine lv_ifnonnull (tgt := 12) hx hb dX11_would_7 (by decide) ?_
  refine lv_aload_n hx hb dX11_would_12 rfl (lv_at hl 1 rfl) ?_
  refine gL_f (v := .ref (asx 0)) C hG kX11 0 1 rfl (by decide) rfl q540 rfl dX11_would_13 ?_
  refine lv_aload_n hx hb dX11_would_16 rfl (lv_at hl 1 rfl) ?_
  refine gL_f (v := .ref (an 0)) C hG kX11 0 0 rfl (by decide) rfl q539 rfl dX11_would_17 ?_
  refine gF_v (ws' := (rX E ax an asx ay ap ar ai ah aj tf xx ++ (rY E ay ye yy ++ (rW E an nn ++ (rW E asx s1 ++ (rP E ap pp ++ (rT E atx tn tt ++ []))))))) C hG (pcons (pnext (pnext (pnext (pfst)))) (pcons (pnext (pnext (pfst))) pst)) (List.Perm.symm (pcons (pnext (pnext (pnext (pfst)))) (pcons (pnext (pnext (pfst))) pst))) (gR_N (As := [.ref (an 0)]) (rest := []) C hz hl.1 hG (pcons (pnext (pnext (pnext (pfst)))) (pcons (pnext (pnext (pfst))) pst)) (c_X10_copyFrom l E asx an ss nn h1 H.size) okX10_copyFrom q1260 0 rfl rfl rfl (Nat.le_of_ble_eq_true rfl) (by omega) ⟨Nat.le_refl _, Nat.le_refl _⟩ dX11_would_20) (fun H locs hG => ?_)
  refine lv_aload_n hx hb dX11_would_23 rfl (lv_at hl 1 rfl) ?_
  refine gL_f (v := .ref (ay 0)) C hG kX11 0 4 rfl (by decide) rfl q543 rfl dX11_would_24 ?_
  refine lv_aload_n hx hb dX11_would_27 rfl (lv_at hl 0 rfl) ?_
  refine lv_aload_n hx hb dX11_would_28 rfl (lv_at hl 1 rfl) ?_
  refine gL_f (v := .ref (asx 0)) C hG kX11 0 1 rfl (by decide) rfl q540 rfl dX11_would_29 ?_
  refine lv_aload_n hx hb dX11_would_32 rfl (lv_at hl 1 rfl) ?_
  refine gL_f (v := .ref (ap 0)) C hG kX11 0 3 rfl (by decide) rfl q542 rfl dX11_would_33 ?_
  refine gF_i (ws' := (rX E ax an asx ay ap ar ai ah aj tf xx ++ (rY E ay (yeP (.ref (atx 0)) (.ref (asx 0)) (.ref (ap 0))) res.2.1 ++ (rW E an nn ++ (rW E asx res.2.2.1 ++ (rP E ap res.2.2.2 ++ (rT E atx tn tt ++ []))))))) C hG (pout (pin (pout (pin (pin (pin pnil)))))) (List.Perm.symm (pout (pin (pout (pin (pin (pin pnil))))))) (gR_N (As := [.ref (atx 0), .ref (asx 0), .ref (ap 0)]) (rest := []) C hz hl.1 hG (pout (pin (pout (pin (pin (pin pnil)))))) (c_X7_play l E ay asx ap atx ye N tn yy s1 pp tt h2 H.size) okX7_play q1038 0 rfl rfl rfl (Nat.le_of_ble_eq_true rfl) (by omega) ⟨Nat.le_refl _, Nat.le_refl _⟩ dX11_would_36) (fun H locs z1 hG => ?_)
  refine lv_pop hx hb dX11_would_39 rfl ?_
  refine lv_aload_n hx hb dX11_would_40 rfl (lv_at hl 1 rfl) ?_
  refine gL_f (v := .ref (asx 0)) C hG kX11 0 1 rfl (by decide) rfl q540 rfl dX11_would_41 ?_
  refine gL_fN (v := .ref (asx 1)) C hG kX10 35 0 rfl (by decide) rfl q354 rfl dX11_would_44 ?_
  refine lv_iconst (v := 3) hx hb dX11_would_47 (by decide) ?_
  refine gL_i (v := (res.2.2.1 1 3)) C hG 36 rfl (vp_in_nI (n := 3) (by decide) (by decide)) (congrArg (res.2.2.1 1) (nI_clamp (n := 3) (by decide))) dX11_would_48 ?_
  refine lv_aload_n hx hb dX11_would_49 rfl (lv_at hl 1 rfl) ?_
  refine gL_f (v := .ref (an 0)) C hG kX11 0 0 rfl (by decide) rfl q539 rfl dX11_would_50 ?_
  refine gL_fN (v := .ref (an 1)) C hG kX10 5 0 rfl (by decide) rfl q354 rfl dX11_would_53 ?_
  refine lv_iconst (v := 3) hx hb dX11_would_56 (by decide) ?_
  refine gL_i (v := (nn 1 3)) C hG 6 rfl (vp_in_nI (n := 3) (by decide) (by decide)) (congrArg (nn 1) (nI_clamp (n := 3) (by decide))) dX11_would_57 ?_
  refine lv_isub hx hb dX11_would_58 ?_
  exact hret _ _ _ _ rfl hG dX11_would_59
/-! text -/
set_option maxHeartbeats 4000000 in
set_option maxRecDepth 100000 in
theorem c_X11_text_full (xx rr : RS) (h : ¬ (xx 0 7) < 4) : gMi l E yX11_text cX11_text 2 .int 10 3 603 [.ref (ax 0)] (rX E ax an asx ay ap ar ai ah aj tf xx ++ (rR E ar rr ++ [])) (rX E ax an asx ay ap ar ai ah aj tf xx ++ (rR E ar rr ++ [])) (-1) := by
  refine gMi_of (own := RX11) (by decide +kernel) rfl (Nat.le_of_ble_eq_true rfl) ?_
  intro p e s m args below meth c A ls Q H locs C hz hl hG hret
  have hx := C.1.1
  have hb := C.1.2.1
  have hl : lv_has ls 2 [(0, .ref (ax 0))] := hl
  refine lv_aload_n hx hb dX11_text_0 rfl (lv_at hl 0 rfl) ?_
  refine gL_f (v := .int (xx 0 7)) C hG kX11 0 7 rfl (by decide) rfl q546 rfl dX11_text_1 ?_
  refine lv_iconst (v := 4) hx hb dX11_text_4 (by decide) ?_
  refine lv_icmp_lt (tgt := 10) hx hb dX11_text_5 (by decide) (fun c5 => absurd c5 h) (fun _ => ?_)
  refine lv_iconst (v := (-1)) hx hb dX11_text_8 (by decide) ?_
  refine W.widen (k := 3) (n := 603) (by decide) (by decide) ?_
  exact hret _ _ _ _ rfl hG dX11_text_9
set_option maxHeartbeats 4000000 in
set_option maxRecDepth 100000 in
theorem c_X11_text_no (xx rr : RS) (h : (xx 0 7) < 4) {res : RS} (h1 : fX8_parse N rr = some res) (h2 : res 0 2 ≠ 0) : gMi l E yX11_text cX11_text 2 .int 10 3 603 [.ref (ax 0)] (rX E ax an asx ay ap ar ai ah aj tf xx ++ (rR E ar rr ++ [])) (rX E ax an asx ay ap ar ai ah aj tf xx ++ (rR E ar res ++ [])) (-1) := by
  refine gMi_of (own := RX11) (by decide +kernel) rfl (Nat.le_of_ble_eq_true rfl) ?_
  intro p e s m args below meth c A ls Q H locs C hz hl hG hret
  have hx := C.1.1
  have hb := C.1.2.1
  have hl : lv_has ls 2 [(0, .ref (ax 0))] := hl
  refine lv_aload_n hx hb dX11_text_0 rfl (lv_at hl 0 rfl) ?_
  refine gL_f (v := .int (xx 0 7)) C hG kX11 0 7 rfl (by decide) rfl q546 rfl dX11_text_1 ?_
  refine lv_iconst (v := 4) hx hb dX11_text_4 (by decide) ?_
  refine lv_icmp_lt (tgt := 10) hx hb dX11_text_5 (by decide) (fun _ => ?_) (fun c5 => absurd h c5)
  refine lv_aload_n hx hb dX11_text_10 rfl (lv_at hl 0 rfl) ?_
  refine gL_f (v := .ref (ar 0)) C hG kX11 0 5 rfl (by decide) rfl q544 rfl dX11_text_11 ?_
  refine gF_q C hG (pout (pin pnil)) (gR_N (As := []) (rest := []) C hz hl.1 hG (pout (pin pnil)) (c_X8_parse_no l E ar N rr h1 h2 H.size) okX8_parse q589 0 rfl rfl rfl (Nat.le_of_ble_eq_true rfl) (by omega) ⟨by decide, by decide⟩ dX11_text_14) (fun u H locs _ hG => ?_)
  refine g_ref (v := .null) rfl ?_
  refine lv_astore_nN (lv' := [(1, .null), (0, .ref (ax 0))]) hx hb dX11_text_17 rfl hl (by decide) rfl (fun ls hl => ?_)
  refine lv_aload_nN hx hb dX11_text_18 rfl (lv_at hl 0 rfl) ?_
  refine lv_ifnonnullN hx hb dX11_text_19 ?_
  refine lv_iconst (v := (-1)) hx hb dX11_text_22 (by decide) ?_
  exact hret _ _ _ _ rfl (hG.perm (pout (pin pnil)).symm) dX11_text_23
set_option maxHeartbeats 4000000 in
set_option maxRecDepth 100000 in
theorem c_X11_text_yes (t n : Nat) (ht : t < 4) (hn : n ≤ 300) (xx rr : RS) (h : xx 0 7 = nI t) {res : RS} (h1 : fX8_parse N rr = some res) (h2 : res 0 2 = 0) (h7 : res 0 7 = nI (n + 1)) : gMw l E yX11_text cX11_text 2 .int 10 3 603 [.ref (ax 0)] (rX E ax an asx ay ap ar ai ah aj tf xx ++ (rR E ar rr ++ [])) (nI t) (fun at0 : Nat → Nat => rX E ax an asx ay ap ar ai ah aj (va_up tf t (some (at0 0))) (st xx 0 7 (nI (t + 1))) ++ (rR E ar res ++ (rT E at0 n (tRS res n) ++ []))) := by
  refine gMw_of (own := RX11) (by decide +kernel) rfl (Nat.le_of_ble_eq_true rfl) ?_
  intro p e s m args below meth c A ls Q H locs C hz hl hG hret
  have hx := C.1.1
  have hb := C.1.2.1
  have hl : lv_has ls 2 [(0, .ref (ax 0))] := hl
  refine lv_aload_n hx hb dX11_text_0 rfl (lv_at hl 0 rfl) ?_
  refine gL_f (v := .int (xx 0 7)) C hG kX11 0 7 rfl (by decide) rfl q546 rfl dX11_text_1 ?_
  refine lv_iconst (v := 4) hx hb dX11_text_4 (by decide) ?_
  refine lv_icmp_lt (tgt := 10) hx hb dX11_text_5 (by decide) (fun _ => ?_) (fun c5 => absurd (by rw [h]; exact nI_lt (b := 4) ht (by decide)) c5)
  refine lv_aload_n hx hb dX11_text_10 rfl (lv_at hl 0 rfl) ?_
  refine gL_f (v := .ref (ar 0)) C hG kX11 0 5 rfl (by decide) rfl q544 rfl dX11_text_11 ?_
  refine gF_q C hG (pout (pin pnil)) (gR_N (As := []) (rest := []) C hz hl.1 hG (pout (pin pnil)) (c_X8_parse_yes l E ar N n hn rr h1 h2 h7 H.size) okX8_parse q589 0 rfl rfl rfl (Nat.le_of_ble_eq_true rfl) (by omega) ⟨by decide, by decide⟩ dX11_text_14) (fun at0 H locs _ hG => ?_)
  have hpm : ((rT E at0 n (tRS res n) ++ (rR E ar res ++ [])) ++ (rX E ax an asx ay ap ar ai ah aj tf xx ++ [])).Perm (rX E ax an asx ay ap ar ai ah aj tf xx ++ (rR E ar res ++ (rT E at0 n (tRS res n) ++ []))) := by
    rw [List.append_nil, List.append_nil, List.append_nil]
    refine List.perm_append_comm.trans ?_
    exact List.Perm.append_left _ List.perm_append_comm
  replace hG := hG.perm hpm
  refine g_ref (v := .ref (at0 0)) rfl ?_
  refine lv_astore_n (lv' := [(1, .ref (at0 0)), (0, .ref (ax 0))]) hx hb dX11_text_17 rfl hl (by decide) rfl (fun ls hl => ?_)
  refine lv_aload_n hx hb dX11_text_18 rfl (lv_at hl 0 rfl) ?_
  refine lv_ifnonnull (tgt := 24) hx hb dX11_text_19 (by decide) ?_
  refine lv_aload_n hx hb dX11_text_24 rfl (lv_at hl 1 rfl) ?_
  refine gL_f (v := .ref (ax 1)) C hG kX11 0 6 rfl (by decide) rfl q545 rfl dX11_text_25 ?_
  refine lv_aload_n hx hb dX11_text_28 rfl (lv_at hl 1 rfl) ?_
  refine gL_f (v := .int (xx 0 7)) C hG kX11 0 7 rfl (by decide) rfl q546 rfl dX11_text_29 ?_
  refine g_int (v := nI t) h.symm ?_
  refine lv_aload_n hx hb dX11_text_32 rfl (lv_at hl 0 rfl) ?_
  refine gS_q (ci := 9) (r := (RX9, TX9, 3)) (j := t) (ws' := rX E ax an asx ay ap ar ai ah aj (va_up tf t (some (at0 0))) xx ++ (rR E ar res ++ (rT E at0 n (tRS res n) ++ []))) C hG 1 2 9 rfl rfl rfl rfl (vp_in_nI (by omega) (by decide)) (cl_nI (by omega)) dX11_text_33 rfl (fun H locs hG => ?_)
  refine lv_aload_n hx hb dX11_text_34 rfl (lv_at hl 1 rfl) ?_
  refine lv_dup hx hb dX11_text_35 rfl ?_
  refine gL_f (v := .int (xx 0 7)) C hG kX11 0 7 rfl (by decide) rfl q546 rfl dX11_text_36 ?_
  refine lv_iconst (v := 1) hx hb dX11_text_39 (by decide) ?_
  refine lv_iadd hx hb dX11_text_40 ?_
  refine g_int (v := nI (t + 1)) (by rw [h, j1]) ?_
  obtain ⟨xx2, exx2⟩ : ∃ w : RS, w = st xx 0 7 (nI (t + 1)) := ⟨_, rfl⟩
  refine gS_f (v := .int (nI (t + 1))) (ws' := rX E ax an asx ay ap ar ai ah aj (va_up tf t (some (at0 0))) xx2 ++ (rR E ar res ++ (rT E at0 n (tRS res n) ++ []))) C hG kX11 0 7 rfl (by decide) q546 rfl rfl rfl rfl (by show 7 < 11; decide) dX11_text_41 (by rw [exx2]; rfl) (fun H locs hG => ?_)
  have hxx2 : xx2 0 7 = nI (t + 1) := by rw [exx2, st_e, upd_e]
  refine lv_aload_n hx hb dX11_text_44 rfl (lv_at hl 1 rfl) ?_
  refine gL_f (v := .int (xx2 0 7)) C hG kX11 0 7 rfl (by decide) rfl q546 rfl dX11_text_45 ?_
  refine lv_iconst (v := 1) hx hb dX11_text_48 (by decide) ?_
  refine lv_isub hx hb dX11_text_49 ?_
  refine g_int (v := nI t) (by rw [hxx2, s1 (by omega)]; rfl) ?_
  exact hret at0 _ _ _ _ rfl (exx2 ▸ hG) dX11_text_50
end X9
