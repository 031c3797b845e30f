/-! CONSTRUCTORS: the steps, the class -/
theorem gG.refs {E : GE} {A : Nat → Prop} {H0 H : Heap} {locs : List Loc} {w1 w2 : va_W} {qa n : Nat} {cA : ClassId} {f g : Nat → Option Nat} (hf : ∀ j, j < n → f j = g j) (h : gG E A H0 (w1 ++ (qa, .inl (cA, n, .inr (.inr (.inr (.inr f))))) :: w2) H locs) : gG E A H0 (w1 ++ (qa, .inl (cA, n, .inr (.inr (.inr (.inr g))))) :: w2) H locs := by
  have e : vp_cell cA (n, .inr (.inr (.inr (.inr f)))) = vp_cell cA (n, .inr (.inr (.inr (.inr g)))) := by
    rw [vp_cell_q, vp_cell_q]
    unfold arrV
    congr 1
    refine congrArg _ (funext fun j => ?_)
    show va_rf (f j.val) = va_rf (g j.val)
    rw [hf j.val j.isLt]
  obtain ⟨h1, h2, h3⟩ := h
  refine ⟨va_P_mem.mpr fun q hq => ?_, va_D_nd.mpr ⟨?_, fun q hq => ?_⟩, h3⟩
  · rcases List.mem_append.mp hq with q1 | q1
    · exact va_P_mem.mp h1 q (List.mem_append_left _ q1)
    · rcases List.mem_cons.mp q1 with rfl | q2
      · have := va_P_mem.mp h1 (qa, .inl (cA, n, .inr (.inr (.inr (.inr f))))) (List.mem_append_right _ List.mem_cons_self)
        exact (show H[qa]? = some (vp_cell cA (n, .inr (.inr (.inr (.inr f))))) from this).trans (by rw [e])
      · exact va_P_mem.mp h1 q (List.mem_append_right _ (List.mem_cons_of_mem _ q2))
  · have := (va_D_nd.mp h2).1
    rw [List.map_append, List.map_cons] at this ⊢
    exact this
  · have := (va_D_nd.mp h2).2
    rcases List.mem_append.mp hq with q1 | q1
    · exact this q (List.mem_append_left _ q1)
    · rcases List.mem_cons.mp q1 with rfl | q2
      · exact this (qa, .inl (cA, n, .inr (.inr (.inr (.inr f))))) (List.mem_append_right _ List.mem_cons_self)
      · exact this q (List.mem_append_right _ (List.mem_cons_of_mem _ q2))
theorem g_newq {p : Program} {l : Launch} {e : Env} {R : Room} {s : State} {m : MethodId} {args : Array Value} {below : List Frame} {meth : Method} {c : Code} {H : Heap} {locs : List Loc} {cells slots : Nat} {Q : State → Prop} {E : GE} {cc : ByteArray} {nL idx pc : Nat} {own : String} {A : Nat → Prop} {ws : va_W} {rest : List Value} {ls : Array Slot}
    (C : gC E p m c cc nL s args own A) (hG : gG E A s.heap ws H locs) {C0 : String} {cT : ClassId} (t0 : Nat) (ht : (tysE E)[t0]? = some (cT, .object C0)) (hcl : Cond.classLink own idx C0 ∈ wAll) (hao : Cond.arrayOver (.object C0) ∈ nwAll) {x : Int32} {N' : Nat} (hn : ¬ x < 0) (hN : x.toNatClampNeg = N') (hb2 : N' * 4 ≤ 536870912) (hcells : cells + 1 ≤ R.cells) (hslots : slots + N' ≤ R.slots) (hdg : decode cc pc = .ok (.anewarray idx, 3))
    (kk : ∀ (q : Nat) (H1 : Heap), gG E A s.heap (ws ++ [(q, .inl (cT, N', .inr (.inr (.inr (.inr (fun _ => none))))))]) H1 locs → W p l e R s m args below meth c H1 locs (cells + 1) (slots + N') Q (F0 m (pc + 3) ls (.ref q :: rest))) : W p l e R s m args below meth c H locs cells slots Q (F0 m pc ls (.int x :: rest)) := by
  refine va_newq C.1.1 C.1.2.1 C.1.2.2.2.1 (C.1.2.2.2.2 _ hcl) (C.2.2.1 _ hao) C.2.1 hG.1 hG.2.1 hG.2.2 C.2.2.2.2.2 hn hN hb2 hcells hslots hdg ?_
  intro q cA H1 hK1 hP hD hS
  obtain ⟨-, -, -, -, -, h0⟩ := (C.2.1.2 t0 _ ht).2
  obtain ⟨-, -, -, -, -, h1⟩ := (hK1.2 4 (cA, .object C0) rfl).2
  have hc : cA = cT := Option.some.inj (h1.symm.trans h0)
  subst hc
  exact kk q H1 ⟨hP, hD, hS⟩
theorem fm_cg {α β : Type} {f g : α → List β} : ∀ l : List α, (∀ x, x ∈ l → f x = g x) → l.flatMap f = l.flatMap g
  | [], _ => rfl
  | a :: l, h => by rw [List.flatMap_cons, List.flatMap_cons, h a List.mem_cons_self, fm_cg l fun x hx => h x (List.mem_cons_of_mem _ hx)]
def hZ (w0 : RS) : HS := fun i => match i with
  | 0 => zRS
  | _ => w0
set_option maxHeartbeats 4000000 in
set_option maxRecDepth 100000 in
theorem c_X4_init (l : Launch) (E : GE) (N : Nat) {rd : RS} (hd : fX1_init N zX1_init = some rd) {w0 : RS} (hw : fX10_init N (zX10_init rd) = some w0) (a : Nat) : gMu l E yX4_init cX4_init 2 3 901 11280 [.ref a] [(a, .inr (4, [.null, .int 0, .int 0]))] (fun ah : Nat → Nat → Nat => ah 0 0 = a) (fun ah => rH E ah (hZ w0)) := by
  refine gMu_of (own := RX4) (by decide +kernel) rfl (Nat.le_of_ble_eq_true rfl) ?_
  intro p e s m args below meth c A ls Q H locs C hz hl hG hin hret
  have hx := C.1.1
  have hb := C.1.2.1
  have hts := C.1.2.2.2.2
  have hown := C.1.2.2.2.1
  have hmi := hin rfl
  have hl : lv_has ls 2 [(0, .ref a)] := hl
  refine lv_aload_n hx hb dX4_init_0 rfl (lv_at hl 0 rfl) ?_
  refine W.objInit hx hb hown (hts _ q385) (hts _ q196) (hts _ q197) rfl (hl.1.trans C.1.2.2.1.symm) rfl dX4_init_1 (Nat.le_of_ble_eq_true rfl) (Nat.le_of_ble_eq_true rfl) ?_
  refine W.eq (g2 := F0 m 4 ls []) rfl ?_
  refine lv_aload_n hx hb dX4_init_4 rfl (lv_at hl 0 rfl) ?_
  refine lv_bipush (v := 30) hx hb dX4_init_5 (by decide) ?_
  refine g_newq (x := 30) (N' := 30) C hG 3 rfl q386 q387 (by decide) (nI_clamp (n := 30) (by decide)) (by decide) (by decide) (by decide) dX4_init_7 (fun qa H hG => ?_)
  refine W.cs (cells' := 1) (slots' := 30) rfl rfl ?_
  refine gS_F (v := .ref qa) (ws' := [(a, .inr (4, [.ref qa, .int 0, .int 0])), (qa, .inl (E.2.1 3, 30, .inr (.inr (.inr (.inr (fun _ => none))))))]) C hG kX4 hmi 0 0 rfl (by decide) q389 rfl rfl rfl rfl rfl (by show 0 < 3; decide) dX4_init_10 rfl (fun H locs hG => ?_)
  refine lv_aload_n hx hb dX4_init_13 rfl (lv_at hl 0 rfl) ?_
  refine lv_iconst (v := 0) hx hb dX4_init_14 (by decide) ?_
  refine gS_f (v := .int 0) (ws' := [(a, .inr (4, [.ref qa, .int 0, .int 0])), (qa, .inl (E.2.1 3, 30, .inr (.inr (.inr (.inr (fun _ => none))))))]) C hG kX4 0 1 rfl (by decide) q390 rfl rfl rfl rfl (by show 1 < 3; decide) dX4_init_15 rfl (fun H locs hG => ?_)
  refine lv_aload_n hx hb dX4_init_18 rfl (lv_at hl 0 rfl) ?_
  refine lv_iconst (v := 0) hx hb dX4_init_19 (by decide) ?_
  refine gS_f (v := .int 0) (ws' := [(a, .inr (4, [.ref qa, .int 0, .int 0])), (qa, .inl (E.2.1 3, 30, .inr (.inr (.inr (.inr (fun _ => none))))))]) C hG kX4 0 2 rfl (by decide) q391 rfl rfl rfl rfl (by show 2 < 3; decide) dX4_init_20 rfl (fun H locs hG => ?_)
  refine lv_iconst (v := 0) hx hb dX4_init_23 (by decide) ?_
  refine lv_istore_n (lv' := [(1, .int 0), (0, .ref a)]) hx hb dX4_init_24 rfl hl (by decide) rfl (fun ls hl => ?_)
  have K : ∀ (d i : Nat) (f : Nat → Option Nat) (g : Nat → Nat → Nat) (H : Heap) (locs : List Loc) (ls : Array Slot), 30 - i = d → i ≤ 30 → (∀ j, j < i → f j = some (g j 0)) → gG E A s.heap (([(a, .inr (4, [.ref qa, .int 0, .int 0])), (qa, .inl (E.2.1 3, 30, .inr (.inr (.inr (.inr f)))))] : va_W) ++ (List.range i).flatMap (fun k => rW E (g k) w0)) H locs → lv_has ls 2 [(1, .int (nI i)), (0, .ref a)] →
      W p l e (rmD 3 901 11280) s m args below meth c H locs (1 + 30 * i) (30 + 375 * i) Q (F0 m 25 ls []) := by
    intro d
    induction d with
    | zero =>
      intro i f g H locs ls h1 h2 hf hG hl
      have : i = 30 := by omega
      subst this
      refine lv_iload_n hx hb dX4_init_25 rfl (lv_at hl 0 rfl) ?_
      refine lv_bipush (v := 30) hx hb dX4_init_26 (by decide) ?_
      refine lv_icmp_ge (tgt := 50) hx hb dX4_init_28 (by decide) (fun _ => ?_) (fun h => absurd (by decide) h)
      refine W.cs (cells' := 901) (slots' := 11280) rfl rfl ?_
      refine hret (fun i j => match i with | 0 => [a, qa].getD j 0 | i + 1 => g i j) _ _ _ _ rfl ?_ dX4_init_50
      have h9 := gG.refs (w1 := [(a, .inr (4, [.ref qa, .int 0, .int 0]))]) (w2 := (List.range 30).flatMap (fun k => rW E (g k) w0)) (g := fun i => some (g i 0)) hf hG
      exact h9
    | succ d ih =>
      intro i f g H locs ls h1 h2 hf hG hl
      refine lv_iload_n hx hb dX4_init_25 rfl (lv_at hl 0 rfl) ?_
      refine lv_bipush (v := 30) hx hb dX4_init_26 (by decide) ?_
      refine lv_icmp_ge (tgt := 50) hx hb dX4_init_28 (by decide) (fun h => absurd h (nI_ge (b := 30) (by omega) (by decide))) (fun _ => ?_)
      refine lv_aload_n hx hb dX4_init_31 rfl (lv_at hl 1 rfl) ?_
      refine gL_f (v := .ref qa) C hG kX4 0 0 rfl (by decide) rfl q389 rfl dX4_init_32 ?_
      refine lv_iload_n hx hb dX4_init_35 rfl (lv_at hl 0 rfl) ?_
      refine g_new (fs := [.null, .null, .null, .null, .null, .null]) C hG kX10 q386 q199 q169 (by intro j hj; match j, hj with | 0, _ => rfl | 1, _ => rfl | 2, _ => rfl | 3, _ => rfl | 4, _ => rfl | 5, _ => rfl) (by show 1 + 30 * i + 1 ≤ 901; omega) (by show 30 + 375 * i + 6 ≤ 11280; omega) dX4_init_36 (fun q1 H hG => ?_)
      refine lv_dup hx hb dX4_init_39 rfl ?_
      refine gR_IU (n := 0) (As := []) (rest := [.ref q1, .int (nI i), .ref qa]) (wc := [(q1, .inr (10, [.null, .null, .null, .null, .null, .null]))]) C hz hl.1 hG List.perm_append_comm (gMn_u (c_X10_init l E N hd hw) q1) rfl q201 q202 q169 ⟨by decide +kernel, by decide +kernel, by decide +kernel⟩ (by decide) q388 rfl (Nat.le_of_ble_eq_true rfl) (by omega) ⟨by show 1 + 30 * i + 1 + 29 ≤ 901; omega, by show 30 + 375 * i + 6 + 369 ≤ 11280; omega⟩ dX4_init_40 (fun ad H locs had hGn => ?_)
      subst had
      replace hG := hGn.perm List.perm_append_comm
      obtain ⟨qk, hqk⟩ := List.getElem?_of_mem (l := (([(a, .inr (4, [.ref qa, .int 0, .int 0])), (qa, .inl (E.2.1 3, 30, .inr (.inr (.inr (.inr f)))))] : va_W) ++ (List.range i).flatMap (fun k => rW E (g k) w0)) ++ rW E ad w0) (a := (ad 0, .inr (10, [.ref (ad 1), .ref (ad 2), .ref (ad 15), .ref (ad 20), .ref (ad 23), .ref (ad 28)]))) (List.mem_append_right _ List.mem_cons_self)
      refine gS_q (ci := 10) (r := (RX10, TX10, 6)) (j := i) (ws' := (([(a, .inr (4, [.ref qa, .int 0, .int 0])), (qa, .inl (E.2.1 3, 30, .inr (.inr (.inr (.inr (va_up f i (some (ad 0))))))))] : va_W) ++ (List.range i).flatMap (fun k => rW E (g k) w0)) ++ rW E ad w0) C hG 1 3 qk rfl rfl hqk rfl (vp_in_nI (by omega) (by decide)) (cl_nI (by omega)) dX4_init_43 rfl (fun H locs hG => ?_)
      refine lv_iinc (v := nI (i + 1)) (lv' := [(1, .int (nI (i + 1))), (0, .ref a)]) hx hb dX4_init_44 hl (k := 0) rfl ((congrArg (nI i + ·) (by decide : Int32.ofInt 1 = 1)).trans (j1 i)) (by decide) rfl (fun ls hl => ?_)
      refine lv_goto (tgt := 25) hx hb dX4_init_47 (by decide) ?_
      refine W.cs (cells' := 1 + 30 * (i + 1)) (slots' := 30 + 375 * (i + 1)) (by omega) (by omega) ?_
      refine ih (i + 1) (va_up f i (some (ad 0))) (fun k => if k = i then ad else g k) H locs ls (by omega) (by omega) (fun j hj => ?_) ?_ hl
      · by_cases q : j = i
        · subst q; simp [va_up]
        · rw [if_neg q, ← hf j (by omega)]; simp [va_up, q]
      · have e1 : (List.range (i + 1)).flatMap (fun k => rW E ((fun k => if k = i then ad else g k) k) w0) = (List.range i).flatMap (fun k => rW E (g k) w0) ++ rW E ad w0 := by
          rw [List.range_succ, List.flatMap_append]
          congr 1
          · refine fm_cg _ fun k hk => ?_
            have : k ≠ i := by have := List.mem_range.mp hk; omega
            show rW E (if k = i then ad else g k) w0 = _
            rw [if_neg this]
          · show rW E (if i = i then ad else g i) w0 ++ [] = _
            rw [if_pos rfl, List.append_nil]
        rw [e1, ← List.append_assoc]
        exact hG
  exact K 30 0 (fun _ => none) (fun _ _ => 0) H locs ls rfl (by omega) (fun j hj => absurd hj (Nat.not_lt_zero _)) hG hl
theorem psel {a b c x : va_W} (h : a.Perm (x ++ b)) (g : b.Perm c) : a.Perm (x ++ c) := h.trans (g.append_left x)
/-- the class's whole world but for its texts -/
def XW (E : GE) (ax an asx ay ap ar ai : Nat → Nat) (ah aj : Nat → Nat → Nat) (tf : Nat → Option Nat) (ye : Nat → Value) (xx yy nn ss ii pp rr : RS) (hh jj : HS) : va_W := rX E ax an asx ay ap ar ai ah aj tf xx ++ (rY E ay ye yy ++ (rW E an nn ++ (rW E asx ss ++ (rW E ai ii ++ (rP E ap pp ++ (rR E ar rr ++ (rH E ah hh ++ (rH E aj jj ++ []))))))))
set_option maxHeartbeats 8000000 in
set_option maxRecDepth 100000 in
theorem c_X11_init (l : Launch) (E : GE) (N : Nat) {rd : RS} (hd : fX1_init N zX1_init = some rd) {w0 : RS} (hw : fX10_init N (zX10_init rd) = some w0) (a : Nat) : gMu l E yX11_init cX11_init 1 4 1914 25025 [.ref a] [(a, .inr (11, [.null, .null, .null, .null, .null, .null, .null, .int 0, .null, .null, .int 0]))] (fun w : va_W => ∃ (ax an asx ay ap ar ai : Nat → Nat) (ah aj : Nat → Nat → Nat), ax 0 = a ∧ w = XW E ax an asx ay ap ar ai ah aj (fun _ => none) (fun _ => .null) zRS zX7_init w0 w0 w0 zX6_init zX8_init (hZ w0) (hZ w0)) id := by
  refine gMu_of (own := RX11) (by decide +kernel) rfl (Nat.le_of_ble_eq_true rfl) ?_
  intro p e s m args below meth c A ls Q H locs C hz hl hG hin hret
  have hx := C.1.1
  have hb := C.1.2.1
  have hts := C.1.2.2.2.2
  have hown := C.1.2.2.2.1
  have hmi := hin rfl
  have hl : lv_has ls 1 [(0, .ref a)] := hl
  have hG : gG E A s.heap ([(a, .inr (11, [.null, .null, .null, .null, .null, .null, .null, .int 0, .null, .null, .int 0]))] : va_W) H locs := hG
  refine lv_aload_n hx hb dX11_init_0 rfl (lv_at hl 0 rfl) ?_
  refine W.objInit hx hb hown (hts _ q195) (hts _ q196) (hts _ q197) rfl (hl.1.trans C.1.2.2.1.symm) rfl dX11_init_1 (Nat.le_of_ble_eq_true rfl) (Nat.le_of_ble_eq_true rfl) ?_
  refine W.eq (g2 := F0 m 4 ls []) rfl ?_
  refine lv_aload_n hx hb dX11_init_4 rfl (lv_at hl 0 rfl) ?_
  refine g_new (fs := [.null, .null, .null, .null, .null, .null]) C hG kX10 q198 q199 q169 (by intro j hj; match j, hj with | 0, _ => rfl | 1, _ => rfl | 2, _ => rfl | 3, _ => rfl | 4, _ => rfl | 5, _ => rfl) (by decide) (by decide) dX11_init_5 (fun q_1 H hG => ?_)
  refine W.cs (cells' := 1) (slots' := 6) rfl rfl ?_
  refine lv_dup hx hb dX11_init_8 rfl ?_
  refine gR_IU (n := 0) (As := []) (rest := [.ref q_1, .ref a]) (wc := [(q_1, .inr (10, [.null, .null, .null, .null, .null, .null]))]) (wr := ([(a, .inr (11, [.null, .null, .null, .null, .null, .null, .null, .int 0, .null, .null, .int 0]))] : va_W)) C hz hl.1 hG List.perm_append_comm (gMn_u (c_X10_init l E N hd hw) q_1) rfl q201 q202 q169 ⟨by decide +kernel, by decide +kernel, by decide +kernel⟩ (by decide) q200 rfl (Nat.le_of_ble_eq_true rfl) (by omega) (by decide) dX11_init_9 (fun u_1 H locs hu_1 hGn => ?_)
  subst hu_1
  replace hG : gG E A s.heap (([(a, .inr (11, [.null, .null, .null, .null, .null, .null, .null, .int 0, .null, .null, .int 0]))] : va_W) ++ (rW E u_1 w0)) H locs := hGn.perm List.perm_append_comm
  clear hGn
  refine W.cs (cells' := 30) (slots' := 375) rfl rfl ?_
  refine gS_F (v := .ref (u_1 0)) (ws' := (([(a, .inr (11, [.ref (u_1 0), .null, .null, .null, .null, .null, .null, .int 0, .null, .null, .int 0]))] : va_W) ++ (rW E u_1 w0))) C hG kX11 hmi 0 0 rfl (by decide) q539 rfl rfl rfl rfl rfl (by show 0 < 11; decide) dX11_init_12 rfl (fun H locs hG => ?_)
  refine lv_aload_n hx hb dX11_init_15 rfl (lv_at hl 0 rfl) ?_
  refine g_new (fs := [.null, .null, .null, .null, .null, .null]) C hG kX10 q198 q199 q169 (by intro j hj; match j, hj with | 0, _ => rfl | 1, _ => rfl | 2, _ => rfl | 3, _ => rfl | 4, _ => rfl | 5, _ => rfl) (by decide) (by decide) dX11_init_16 (fun q_2 H hG => ?_)
  refine W.cs (cells' := 31) (slots' := 381) rfl rfl ?_
  refine lv_dup hx hb dX11_init_19 rfl ?_
  refine gR_IU (n := 0) (As := []) (rest := [.ref q_2, .ref a]) (wc := [(q_2, .inr (10, [.null, .null, .null, .null, .null, .null]))]) (wr := (([(a, .inr (11, [.ref (u_1 0), .null, .null, .null, .null, .null, .null, .int 0, .null, .null, .int 0]))] : va_W) ++ (rW E u_1 w0))) C hz hl.1 hG List.perm_append_comm (gMn_u (c_X10_init l E N hd hw) q_2) rfl q201 q202 q169 ⟨by decide +kernel, by decide +kernel, by decide +kernel⟩ (by decide) q200 rfl (Nat.le_of_ble_eq_true rfl) (by omega) (by decide) dX11_init_20 (fun u_2 H locs hu_2 hGn => ?_)
  subst hu_2
  replace hG : gG E A s.heap ((([(a, .inr (11, [.ref (u_1 0), .null, .null, .null, .null, .null, .null, .int 0, .null, .null, .int 0]))] : va_W) ++ (rW E u_1 w0)) ++ (rW E u_2 w0)) H locs := hGn.perm List.perm_append_comm
  clear hGn
  refine W.cs (cells' := 60) (slots' := 750) rfl rfl ?_
  refine gS_F (v := .ref (u_2 0)) (ws' := ((([(a, .inr (11, [.ref (u_1 0), .ref (u_2 0), .null, .null, .null, .null, .null, .int 0, .null, .null, .int 0]))] : va_W) ++ (rW E u_1 w0)) ++ (rW E u_2 w0))) C hG kX11 hmi 0 1 rfl (by decide) q540 rfl rfl rfl rfl rfl (by show 1 < 11; decide) dX11_init_23 rfl (fun H locs hG => ?_)
  refine lv_aload_n hx hb dX11_init_26 rfl (lv_at hl 0 rfl) ?_
  refine g_new (fs := [.null, .int 0, .int 0]) C hG kX4 q380 q381 q175 (by intro j hj; match j, hj with | 0, _ => rfl | 1, _ => rfl | 2, _ => rfl) (by decide) (by decide) dX11_init_27 (fun q_3 H hG => ?_)
  refine W.cs (cells' := 61) (slots' := 753) rfl rfl ?_
  refine lv_dup hx hb dX11_init_30 rfl ?_
  refine gR_IU (n := 0) (As := []) (rest := [.ref q_3, .ref a]) (wc := [(q_3, .inr (4, [.null, .int 0, .int 0]))]) (wr := ((([(a, .inr (11, [.ref (u_1 0), .ref (u_2 0), .null, .null, .null, .null, .null, .int 0, .null, .null, .int 0]))] : va_W) ++ (rW E u_1 w0)) ++ (rW E u_2 w0))) C hz hl.1 hG List.perm_append_comm (c_X4_init l E N hd hw q_3) rfl q383 q384 q175 ⟨by decide +kernel, by decide +kernel, by decide +kernel⟩ (by decide) q382 rfl (Nat.le_of_ble_eq_true rfl) (by omega) (by decide) dX11_init_31 (fun u_3 H locs hu_3 hGn => ?_)
  subst hu_3
  replace hG : gG E A s.heap (((([(a, .inr (11, [.ref (u_1 0), .ref (u_2 0), .null, .null, .null, .null, .null, .int 0, .null, .null, .int 0]))] : va_W) ++ (rW E u_1 w0)) ++ (rW E u_2 w0)) ++ (rH E u_3 (hZ w0))) H locs := hGn.perm List.perm_append_comm
  clear hGn
  refine W.cs (cells' := 962) (slots' := 12033) rfl rfl ?_
  refine gS_F (v := .ref (u_3 0 0)) (ws' := (((([(a, .inr (11, [.ref (u_1 0), .ref (u_2 0), .ref (u_3 0 0), .null, .null, .null, .null, .int 0, .null, .null, .int 0]))] : va_W) ++ (rW E u_1 w0)) ++ (rW E u_2 w0)) ++ (rH E u_3 (hZ w0)))) C hG kX11 hmi 0 2 rfl (by decide) q541 rfl rfl rfl rfl rfl (by show 2 < 11; decide) dX11_init_34 rfl (fun H locs hG => ?_)
  refine lv_aload_n hx hb dX11_init_37 rfl (lv_at hl 0 rfl) ?_
  refine g_new (fs := [.null, .null, .null, .null, .null, .null, .null, .int 0, .int 0, .int 0, .int 0, .null, .int 0]) C hG kX6 q400 q401 q176 (by intro j hj; match j, hj with | 0, _ => rfl | 1, _ => rfl | 2, _ => rfl | 3, _ => rfl | 4, _ => rfl | 5, _ => rfl | 6, _ => rfl | 7, _ => rfl | 8, _ => rfl | 9, _ => rfl | 10, _ => rfl | 11, _ => rfl | 12, _ => rfl) (by decide) (by decide) dX11_init_38 (fun q_4 H hG => ?_)
  refine W.cs (cells' := 963) (slots' := 12046) rfl rfl ?_
  refine lv_dup hx hb dX11_init_41 rfl ?_
  refine gR_IU (n := 0) (As := []) (rest := [.ref q_4, .ref a]) (wc := [(q_4, .inr (6, [.null, .null, .null, .null, .null, .null, .null, .int 0, .int 0, .int 0, .int 0, .null, .int 0]))]) (wr := (((([(a, .inr (11, [.ref (u_1 0), .ref (u_2 0), .ref (u_3 0 0), .null, .null, .null, .null, .int 0, .null, .null, .int 0]))] : va_W) ++ (rW E u_1 w0)) ++ (rW E u_2 w0)) ++ (rH E u_3 (hZ w0)))) C hz hl.1 hG List.perm_append_comm (gMn_u (c_X6_init l E) q_4) rfl q403 q404 q176 ⟨by decide +kernel, by decide +kernel, by decide +kernel⟩ (by decide) q402 rfl (Nat.le_of_ble_eq_true rfl) (by omega) (by decide) dX11_init_42 (fun u_4 H locs hu_4 hGn => ?_)
  subst hu_4
  replace hG : gG E A s.heap ((((([(a, .inr (11, [.ref (u_1 0), .ref (u_2 0), .ref (u_3 0 0), .null, .null, .null, .null, .int 0, .null, .null, .int 0]))] : va_W) ++ (rW E u_1 w0)) ++ (rW E u_2 w0)) ++ (rH E u_3 (hZ w0))) ++ (rP E u_4 zX6_init)) H locs := hGn.perm List.perm_append_comm
  clear hGn
  refine W.cs (cells' := 971) (slots' := 12126) rfl rfl ?_
  refine gS_F (v := .ref (u_4 0)) (ws' := ((((([(a, .inr (11, [.ref (u_1 0), .ref (u_2 0), .ref (u_3 0 0), .ref (u_4 0), .null, .null, .null, .int 0, .null, .null, .int 0]))] : va_W) ++ (rW E u_1 w0)) ++ (rW E u_2 w0)) ++ (rH E u_3 (hZ w0))) ++ (rP E u_4 zX6_init))) C hG kX11 hmi 0 3 rfl (by decide) q542 rfl rfl rfl rfl rfl (by show 3 < 11; decide) dX11_init_45 rfl (fun H locs hG => ?_)
  refine lv_aload_n hx hb dX11_init_48 rfl (lv_at hl 0 rfl) ?_
  refine g_new (fs := [.null, .null, .null, .int 0, .int 0, .int 0, .null, .null]) C hG kX7 q454 q455 q177 (by intro j hj; match j, hj with | 0, _ => rfl | 1, _ => rfl | 2, _ => rfl | 3, _ => rfl | 4, _ => rfl | 5, _ => rfl | 6, _ => rfl | 7, _ => rfl) (by decide) (by decide) dX11_init_49 (fun q_5 H hG => ?_)
  refine W.cs (cells' := 972) (slots' := 12134) rfl rfl ?_
  refine lv_dup hx hb dX11_init_52 rfl ?_
  refine gR_IU (n := 0) (As := []) (rest := [.ref q_5, .ref a]) (wc := [(q_5, .inr (7, [.null, .null, .null, .int 0, .int 0, .int 0, .null, .null]))]) (wr := ((((([(a, .inr (11, [.ref (u_1 0), .ref (u_2 0), .ref (u_3 0 0), .ref (u_4 0), .null, .null, .null, .int 0, .null, .null, .int 0]))] : va_W) ++ (rW E u_1 w0)) ++ (rW E u_2 w0)) ++ (rH E u_3 (hZ w0))) ++ (rP E u_4 zX6_init))) C hz hl.1 hG List.perm_append_comm (gMn_u (c_X7_init l E) q_5) rfl q457 q458 q177 ⟨by decide +kernel, by decide +kernel, by decide +kernel⟩ (by decide) q456 rfl (Nat.le_of_ble_eq_true rfl) (by omega) (by decide) dX11_init_53 (fun u_5 H locs hu_5 hGn => ?_)
  subst hu_5
  replace hG : gG E A s.heap (((((([(a, .inr (11, [.ref (u_1 0), .ref (u_2 0), .ref (u_3 0 0), .ref (u_4 0), .null, .null, .null, .int 0, .null, .null, .int 0]))] : va_W) ++ (rW E u_1 w0)) ++ (rW E u_2 w0)) ++ (rH E u_3 (hZ w0))) ++ (rP E u_4 zX6_init)) ++ (rY E u_5 (fun _ => .null) zX7_init)) H locs := hGn.perm List.perm_append_comm
  clear hGn
  refine W.cs (cells' := 974) (slots' := 12140) rfl rfl ?_
  refine gS_F (v := .ref (u_5 0)) (ws' := (((((([(a, .inr (11, [.ref (u_1 0), .ref (u_2 0), .ref (u_3 0 0), .ref (u_4 0), .ref (u_5 0), .null, .null, .int 0, .null, .null, .int 0]))] : va_W) ++ (rW E u_1 w0)) ++ (rW E u_2 w0)) ++ (rH E u_3 (hZ w0))) ++ (rP E u_4 zX6_init)) ++ (rY E u_5 (fun _ => .null) zX7_init))) C hG kX11 hmi 0 4 rfl (by decide) q543 rfl rfl rfl rfl rfl (by show 4 < 11; decide) dX11_init_56 rfl (fun H locs hG => ?_)
  refine lv_aload_n hx hb dX11_init_59 rfl (lv_at hl 0 rfl) ?_
  refine g_new (fs := [.null, .int 0, .int 0, .int 0, .null, .null, .null, .int 0, .int 0, .int 0, .int 0, .null, .int 0, .null]) C hG kX8 q485 q486 q178 (by intro j hj; match j, hj with | 0, _ => rfl | 1, _ => rfl | 2, _ => rfl | 3, _ => rfl | 4, _ => rfl | 5, _ => rfl | 6, _ => rfl | 7, _ => rfl | 8, _ => rfl | 9, _ => rfl | 10, _ => rfl | 11, _ => rfl | 12, _ => rfl | 13, _ => rfl) (by decide) (by decide) dX11_init_60 (fun q_6 H hG => ?_)
  refine W.cs (cells' := 975) (slots' := 12154) rfl rfl ?_
  refine lv_dup hx hb dX11_init_63 rfl ?_
  refine gR_IU (n := 0) (As := []) (rest := [.ref q_6, .ref a]) (wc := [(q_6, .inr (8, [.null, .int 0, .int 0, .int 0, .null, .null, .null, .int 0, .int 0, .int 0, .int 0, .null, .int 0, .null]))]) (wr := (((((([(a, .inr (11, [.ref (u_1 0), .ref (u_2 0), .ref (u_3 0 0), .ref (u_4 0), .ref (u_5 0), .null, .null, .int 0, .null, .null, .int 0]))] : va_W) ++ (rW E u_1 w0)) ++ (rW E u_2 w0)) ++ (rH E u_3 (hZ w0))) ++ (rP E u_4 zX6_init)) ++ (rY E u_5 (fun _ => .null) zX7_init))) C hz hl.1 hG List.perm_append_comm (gMn_u (c_X8_init l E) q_6) rfl q488 q489 q178 ⟨by decide +kernel, by decide +kernel, by decide +kernel⟩ (by decide) q487 rfl (Nat.le_of_ble_eq_true rfl) (by omega) (by decide) dX11_init_64 (fun u_6 H locs hu_6 hGn => ?_)
  subst hu_6
  replace hG : gG E A s.heap ((((((([(a, .inr (11, [.ref (u_1 0), .ref (u_2 0), .ref (u_3 0 0), .ref (u_4 0), .ref (u_5 0), .null, .null, .int 0, .null, .null, .int 0]))] : va_W) ++ (rW E u_1 w0)) ++ (rW E u_2 w0)) ++ (rH E u_3 (hZ w0))) ++ (rP E u_4 zX6_init)) ++ (rY E u_5 (fun _ => .null) zX7_init)) ++ (rR E u_6 zX8_init)) H locs := hGn.perm List.perm_append_comm
  clear hGn
  refine W.cs (cells' := 981) (slots' := 13363) rfl rfl ?_
  refine gS_F (v := .ref (u_6 0)) (ws' := ((((((([(a, .inr (11, [.ref (u_1 0), .ref (u_2 0), .ref (u_3 0 0), .ref (u_4 0), .ref (u_5 0), .ref (u_6 0), .null, .int 0, .null, .null, .int 0]))] : va_W) ++ (rW E u_1 w0)) ++ (rW E u_2 w0)) ++ (rH E u_3 (hZ w0))) ++ (rP E u_4 zX6_init)) ++ (rY E u_5 (fun _ => .null) zX7_init)) ++ (rR E u_6 zX8_init))) C hG kX11 hmi 0 5 rfl (by decide) q544 rfl rfl rfl rfl rfl (by show 5 < 11; decide) dX11_init_67 rfl (fun H locs hG => ?_)
  refine lv_aload_n hx hb dX11_init_70 rfl (lv_at hl 0 rfl) ?_
  refine lv_iconst (v := 4) hx hb dX11_init_71 (by decide) ?_
  refine g_newq (x := 4) (N' := 4) C hG 2 rfl q537 q538 (by decide) (nI_clamp (n := 4) (by decide)) (by decide) (by decide) (by decide) dX11_init_72 (fun q_7 H hG => ?_)
  refine W.cs (cells' := 982) (slots' := 13367) rfl rfl ?_
  refine gS_F (v := .ref q_7) (ws' := (((((((([(a, .inr (11, [.ref (u_1 0), .ref (u_2 0), .ref (u_3 0 0), .ref (u_4 0), .ref (u_5 0), .ref (u_6 0), .ref q_7, .int 0, .null, .null, .int 0]))] : va_W) ++ (rW E u_1 w0)) ++ (rW E u_2 w0)) ++ (rH E u_3 (hZ w0))) ++ (rP E u_4 zX6_init)) ++ (rY E u_5 (fun _ => .null) zX7_init)) ++ (rR E u_6 zX8_init)) ++ ([(q_7, .inl (E.2.1 2, 4, .inr (.inr (.inr (.inr (fun _ => none))))))] : va_W))) C hG kX11 hmi 0 6 rfl (by decide) q545 rfl rfl rfl rfl rfl (by show 6 < 11; decide) dX11_init_75 rfl (fun H locs hG => ?_)
  refine lv_aload_n hx hb dX11_init_78 rfl (lv_at hl 0 rfl) ?_
  refine lv_iconst (v := 0) hx hb dX11_init_79 (by decide) ?_
  refine gS_f (v := .int 0) (ws' := (((((((([(a, .inr (11, [.ref (u_1 0), .ref (u_2 0), .ref (u_3 0 0), .ref (u_4 0), .ref (u_5 0), .ref (u_6 0), .ref q_7, .int 0, .null, .null, .int 0]))] : va_W) ++ (rW E u_1 w0)) ++ (rW E u_2 w0)) ++ (rH E u_3 (hZ w0))) ++ (rP E u_4 zX6_init)) ++ (rY E u_5 (fun _ => .null) zX7_init)) ++ (rR E u_6 zX8_init)) ++ ([(q_7, .inl (E.2.1 2, 4, .inr (.inr (.inr (.inr (fun _ => none))))))] : va_W))) C hG kX11 0 7 rfl (by decide) q546 rfl rfl rfl rfl (by show 7 < 11; decide) dX11_init_80 rfl (fun H locs hG => ?_)
  refine lv_aload_n hx hb dX11_init_83 rfl (lv_at hl 0 rfl) ?_
  refine g_new (fs := [.null, .null, .null, .null, .null, .null]) C hG kX10 q198 q199 q169 (by intro j hj; match j, hj with | 0, _ => rfl | 1, _ => rfl | 2, _ => rfl | 3, _ => rfl | 4, _ => rfl | 5, _ => rfl) (by decide) (by decide) dX11_init_84 (fun q_8 H hG => ?_)
  refine W.cs (cells' := 983) (slots' := 13373) rfl rfl ?_
  refine lv_dup hx hb dX11_init_87 rfl ?_
  refine gR_IU (n := 0) (As := []) (rest := [.ref q_8, .ref a]) (wc := [(q_8, .inr (10, [.null, .null, .null, .null, .null, .null]))]) (wr := (((((((([(a, .inr (11, [.ref (u_1 0), .ref (u_2 0), .ref (u_3 0 0), .ref (u_4 0), .ref (u_5 0), .ref (u_6 0), .ref q_7, .int 0, .null, .null, .int 0]))] : va_W) ++ (rW E u_1 w0)) ++ (rW E u_2 w0)) ++ (rH E u_3 (hZ w0))) ++ (rP E u_4 zX6_init)) ++ (rY E u_5 (fun _ => .null) zX7_init)) ++ (rR E u_6 zX8_init)) ++ ([(q_7, .inl (E.2.1 2, 4, .inr (.inr (.inr (.inr (fun _ => none))))))] : va_W))) C hz hl.1 hG List.perm_append_comm (gMn_u (c_X10_init l E N hd hw) q_8) rfl q201 q202 q169 ⟨by decide +kernel, by decide +kernel, by decide +kernel⟩ (by decide) q200 rfl (Nat.le_of_ble_eq_true rfl) (by omega) (by decide) dX11_init_88 (fun u_8 H locs hu_8 hGn => ?_)
  subst hu_8
  replace hG : gG E A s.heap ((((((((([(a, .inr (11, [.ref (u_1 0), .ref (u_2 0), .ref (u_3 0 0), .ref (u_4 0), .ref (u_5 0), .ref (u_6 0), .ref q_7, .int 0, .null, .null, .int 0]))] : va_W) ++ (rW E u_1 w0)) ++ (rW E u_2 w0)) ++ (rH E u_3 (hZ w0))) ++ (rP E u_4 zX6_init)) ++ (rY E u_5 (fun _ => .null) zX7_init)) ++ (rR E u_6 zX8_init)) ++ ([(q_7, .inl (E.2.1 2, 4, .inr (.inr (.inr (.inr (fun _ => none))))))] : va_W)) ++ (rW E u_8 w0)) H locs := hGn.perm List.perm_append_comm
  clear hGn
  refine W.cs (cells' := 1012) (slots' := 13742) rfl rfl ?_
  refine gS_F (v := .ref (u_8 0)) (ws' := ((((((((([(a, .inr (11, [.ref (u_1 0), .ref (u_2 0), .ref (u_3 0 0), .ref (u_4 0), .ref (u_5 0), .ref (u_6 0), .ref q_7, .int 0, .ref (u_8 0), .null, .int 0]))] : va_W) ++ (rW E u_1 w0)) ++ (rW E u_2 w0)) ++ (rH E u_3 (hZ w0))) ++ (rP E u_4 zX6_init)) ++ (rY E u_5 (fun _ => .null) zX7_init)) ++ (rR E u_6 zX8_init)) ++ ([(q_7, .inl (E.2.1 2, 4, .inr (.inr (.inr (.inr (fun _ => none))))))] : va_W)) ++ (rW E u_8 w0))) C hG kX11 hmi 0 8 rfl (by decide) q547 rfl rfl rfl rfl rfl (by show 8 < 11; decide) dX11_init_91 rfl (fun H locs hG => ?_)
  refine lv_aload_n hx hb dX11_init_94 rfl (lv_at hl 0 rfl) ?_
  refine g_new (fs := [.null, .int 0, .int 0]) C hG kX4 q380 q381 q175 (by intro j hj; match j, hj with | 0, _ => rfl | 1, _ => rfl | 2, _ => rfl) (by decide) (by decide) dX11_init_95 (fun q_9 H hG => ?_)
  refine W.cs (cells' := 1013) (slots' := 13745) rfl rfl ?_
  refine lv_dup hx hb dX11_init_98 rfl ?_
  refine gR_IU (n := 0) (As := []) (rest := [.ref q_9, .ref a]) (wc := [(q_9, .inr (4, [.null, .int 0, .int 0]))]) (wr := ((((((((([(a, .inr (11, [.ref (u_1 0), .ref (u_2 0), .ref (u_3 0 0), .ref (u_4 0), .ref (u_5 0), .ref (u_6 0), .ref q_7, .int 0, .ref (u_8 0), .null, .int 0]))] : va_W) ++ (rW E u_1 w0)) ++ (rW E u_2 w0)) ++ (rH E u_3 (hZ w0))) ++ (rP E u_4 zX6_init)) ++ (rY E u_5 (fun _ => .null) zX7_init)) ++ (rR E u_6 zX8_init)) ++ ([(q_7, .inl (E.2.1 2, 4, .inr (.inr (.inr (.inr (fun _ => none))))))] : va_W)) ++ (rW E u_8 w0))) C hz hl.1 hG List.perm_append_comm (c_X4_init l E N hd hw q_9) rfl q383 q384 q175 ⟨by decide +kernel, by decide +kernel, by decide +kernel⟩ (by decide) q382 rfl (Nat.le_of_ble_eq_true rfl) (by omega) (by decide) dX11_init_99 (fun u_9 H locs hu_9 hGn => ?_)
  subst hu_9
  replace hG : gG E A s.heap (((((((((([(a, .inr (11, [.ref (u_1 0), .ref (u_2 0), .ref (u_3 0 0), .ref (u_4 0), .ref (u_5 0), .ref (u_6 0), .ref q_7, .int 0, .ref (u_8 0), .null, .int 0]))] : va_W) ++ (rW E u_1 w0)) ++ (rW E u_2 w0)) ++ (rH E u_3 (hZ w0))) ++ (rP E u_4 zX6_init)) ++ (rY E u_5 (fun _ => .null) zX7_init)) ++ (rR E u_6 zX8_init)) ++ ([(q_7, .inl (E.2.1 2, 4, .inr (.inr (.inr (.inr (fun _ => none))))))] : va_W)) ++ (rW E u_8 w0)) ++ (rH E u_9 (hZ w0))) H locs := hGn.perm List.perm_append_comm
  clear hGn
  refine W.cs (cells' := 1914) (slots' := 25025) rfl rfl ?_
  refine gS_F (v := .ref (u_9 0 0)) (ws' := (((((((((([(a, .inr (11, [.ref (u_1 0), .ref (u_2 0), .ref (u_3 0 0), .ref (u_4 0), .ref (u_5 0), .ref (u_6 0), .ref q_7, .int 0, .ref (u_8 0), .ref (u_9 0 0), .int 0]))] : va_W) ++ (rW E u_1 w0)) ++ (rW E u_2 w0)) ++ (rH E u_3 (hZ w0))) ++ (rP E u_4 zX6_init)) ++ (rY E u_5 (fun _ => .null) zX7_init)) ++ (rR E u_6 zX8_init)) ++ ([(q_7, .inl (E.2.1 2, 4, .inr (.inr (.inr (.inr (fun _ => none))))))] : va_W)) ++ (rW E u_8 w0)) ++ (rH E u_9 (hZ w0)))) C hG kX11 hmi 0 9 rfl (by decide) q548 rfl rfl rfl rfl rfl (by show 9 < 11; decide) dX11_init_102 rfl (fun H locs hG => ?_)
  refine lv_aload_n hx hb dX11_init_105 rfl (lv_at hl 0 rfl) ?_
  refine lv_iconst (v := 0) hx hb dX11_init_106 (by decide) ?_
  refine gS_f (v := .int 0) (ws' := (((((((((([(a, .inr (11, [.ref (u_1 0), .ref (u_2 0), .ref (u_3 0 0), .ref (u_4 0), .ref (u_5 0), .ref (u_6 0), .ref q_7, .int 0, .ref (u_8 0), .ref (u_9 0 0), .int 0]))] : va_W) ++ (rW E u_1 w0)) ++ (rW E u_2 w0)) ++ (rH E u_3 (hZ w0))) ++ (rP E u_4 zX6_init)) ++ (rY E u_5 (fun _ => .null) zX7_init)) ++ (rR E u_6 zX8_init)) ++ ([(q_7, .inl (E.2.1 2, 4, .inr (.inr (.inr (.inr (fun _ => none))))))] : va_W)) ++ (rW E u_8 w0)) ++ (rH E u_9 (hZ w0)))) C hG kX11 0 10 rfl (by decide) q549 rfl rfl rfl rfl (by show 10 < 11; decide) dX11_init_107 rfl (fun H locs hG => ?_)
  obtain ⟨ax, hax⟩ : ∃ ax : Nat → Nat, ax = fun k => [a, q_7].getD k 0 := ⟨_, rfl⟩
  have hpm : (((((((((([(a, .inr (11, [.ref (u_1 0), .ref (u_2 0), .ref (u_3 0 0), .ref (u_4 0), .ref (u_5 0), .ref (u_6 0), .ref q_7, .int 0, .ref (u_8 0), .ref (u_9 0 0), .int 0]))] : va_W) ++ (rW E u_1 w0)) ++ (rW E u_2 w0)) ++ (rH E u_3 (hZ w0))) ++ (rP E u_4 zX6_init)) ++ (rY E u_5 (fun _ => .null) zX7_init)) ++ (rR E u_6 zX8_init)) ++ ([(q_7, .inl (E.2.1 2, 4, .inr (.inr (.inr (.inr (fun _ => none))))))] : va_W)) ++ (rW E u_8 w0)) ++ (rH E u_9 (hZ w0))).Perm (XW E ax u_1 u_2 u_5 u_4 u_6 u_8 u_3 u_9 (fun _ => none) (fun _ => .null) zRS zX7_init w0 w0 w0 zX6_init zX8_init (hZ w0) (hZ w0)) := by
    have e1 : XW E ax u_1 u_2 u_5 u_4 u_6 u_8 u_3 u_9 (fun _ => none) (fun _ => .null) zRS zX7_init w0 w0 w0 zX6_init zX8_init (hZ w0) (hZ w0) = (([(a, .inr (11, [.ref (u_1 0), .ref (u_2 0), .ref (u_3 0 0), .ref (u_4 0), .ref (u_5 0), .ref (u_6 0), .ref q_7, .int 0, .ref (u_8 0), .ref (u_9 0 0), .int 0]))] : va_W) ++ (([(q_7, .inl (E.2.1 2, 4, .inr (.inr (.inr (.inr (fun _ => none))))))] : va_W) ++ (rY E u_5 (fun _ => .null) zX7_init ++ (rW E u_1 w0 ++ (rW E u_2 w0 ++ (rW E u_8 w0 ++ (rP E u_4 zX6_init ++ (rR E u_6 zX8_init ++ (rH E u_3 (hZ w0) ++ (rH E u_9 (hZ w0) ++ ([] : va_W))))))))))) := by rw [hax]; rfl
    have e2 : (((((((((([(a, .inr (11, [.ref (u_1 0), .ref (u_2 0), .ref (u_3 0 0), .ref (u_4 0), .ref (u_5 0), .ref (u_6 0), .ref q_7, .int 0, .ref (u_8 0), .ref (u_9 0 0), .int 0]))] : va_W) ++ (rW E u_1 w0)) ++ (rW E u_2 w0)) ++ (rH E u_3 (hZ w0))) ++ (rP E u_4 zX6_init)) ++ (rY E u_5 (fun _ => .null) zX7_init)) ++ (rR E u_6 zX8_init)) ++ ([(q_7, .inl (E.2.1 2, 4, .inr (.inr (.inr (.inr (fun _ => none))))))] : va_W)) ++ (rW E u_8 w0)) ++ (rH E u_9 (hZ w0))) = (([(a, .inr (11, [.ref (u_1 0), .ref (u_2 0), .ref (u_3 0 0), .ref (u_4 0), .ref (u_5 0), .ref (u_6 0), .ref q_7, .int 0, .ref (u_8 0), .ref (u_9 0 0), .int 0]))] : va_W) ++ (rW E u_1 w0 ++ (rW E u_2 w0 ++ (rH E u_3 (hZ w0) ++ (rP E u_4 zX6_init ++ (rY E u_5 (fun _ => .null) zX7_init ++ (rR E u_6 zX8_init ++ (([(q_7, .inl (E.2.1 2, 4, .inr (.inr (.inr (.inr (fun _ => none))))))] : va_W) ++ (rW E u_8 w0 ++ (rH E u_9 (hZ w0) ++ ([] : va_W))))))))))) := by simp only [List.append_assoc, List.append_nil]
    rw [e1, e2]
    exact (psel pfst (psel (pnext (pnext (pnext (pnext (pnext (pnext pfst)))))) (psel (pnext (pnext (pnext (pnext pfst)))) (psel pfst (psel pfst (psel (pnext (pnext (pnext pfst))) (psel (pnext pfst) (psel (pnext pfst) (psel pfst (psel pfst (List.Perm.refl [])))))))))))
  exact hret _ _ _ _ _ ⟨ax, u_1, u_2, u_5, u_4, u_6, u_8, u_3, u_9, by rw [hax]; rfl, rfl⟩ (hG.perm hpm) dX11_init_110
