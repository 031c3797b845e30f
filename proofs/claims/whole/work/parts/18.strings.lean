/-! STRING CONSTANTS of the reader: length, charAt -/
theorem str_lt (i : Nat) (hi : i < 7) (x : Int32) (hk : inb x (lenS.getD i 0) = true) : x < strlen i := by
  have hlt : x.toNatClampNeg < lenS.getD i 0 := Nat.not_le.mp fun q => inb_in hk (Or.inr q)
  have hb : lenS.getD i 0 < 2 ^ 31 := (by decide : ∀ i, i < 7 → lenS.getD i 0 < 2 ^ 31) i hi
  obtain ⟨j, hj, rfl⟩ := vp_in_of (inb_in hk) hb
  exact nI_lt hj hb
theorem strch_nar : ∀ i, i < 7 → ∀ k, k < lenS.getD i 0 → narrow .char (.int (strch i k)) = .int (strch i k) := by decide +kernel
section GS
variable {p : Program} {l : Launch} {e : Env} {R : Room} {s : State} {m : MethodId} {args : Array Value} {below : List Frame} {meth : Method} {c : Code} {H : Heap} {locs : List Loc} {cells slots : Nat} {Q : State → Prop}
variable {E : GE} {cc bytes : ByteArray} {nL maxL d d2 mc ms MC MS idx n pc b : Nat} {own : String} {A : Nat → Prop} {y : MethodName} {ret : Option FieldType} {ws wc wr : va_W} {As rest : List Value} {ls : Array Slot}
theorem gR_VS {Qc : Array Value → State → Outcome → State → Prop} {free : Addr → Prop} (C : gC E p m c cc nL s args own A) (hz : E.2.2 0 ≤ s.heap.size) (hsz : ls.size = nL) (hG : gG E A s.heap ws H locs) (hp : ws.Perm (wc ++ wr))
    (M : Met l y (.code y bytes maxL ret :: wAll) (rmD d2 mc ms) (va_Pc (.ref b :: As) (gB E wc H.size)) Qc mc ms free) (hY : gYV y bytes maxL ret n) (hlk : Cond.methodLink own idx y ∈ wAll) (hrc : ∃ cell : Cell, H[b]? = some cell ∧ cell.vm.isStatics = false ∧ s.vm.findClass y.cls = some cell.cls)
    (hn : As.length = n) (hW : (rest.map fun v => v.category).sum ≤ 8) (hdd : d2 + 1 ≤ d) (hf : cells + mc ≤ MC ∧ slots + ms ≤ MS) (hdg : decode cc pc = .ok (.invokevirtual idx, 3)) :
    va_Run p l e (rmD d MC MS) s m args below meth c H locs cells slots mc ms (F0 m pc ls (As.reverse ++ .ref b :: rest)) rest (Qc (Value.ref b :: As).toArray) free := by
  obtain ⟨h1, h2, h3, h4, h5, h6⟩ := hY
  obtain ⟨hF, hK, hnw, hst, hAz, hA⟩ := id C
  have hgi : GoodIn wAll (wsV own idx y.cls y (.code y bytes maxL ret :: wAll)) := by
    intro w hw
    unfold wsV at hw
    rcases List.mem_append.mp hw with q | q
    · have hm : w ∈ wAll := by
        simp only [List.mem_cons, List.not_mem_nil, or_false] at q
        rcases q with rfl | rfl | rfl | rfl <;> assumption
      exact ⟨hm, wAll_good _ hm⟩
    · exact g_in h3 w q
  exact va_runV (n := n) hF M (cwV n hF.2.2.2.2 hgi rfl rfl rfl ⟨rfl, h5⟩ ⟨hdd, by show 8 + (maxL + 11) + 64 * d2 ≤ 64 * d; omega⟩) ⟨gB_blind, hrc, fun U hU hW => ⟨rfl, gB_of C hG hp hz hU hW⟩⟩ rfl hn hsz rfl (by show 2 * 0 + _ ≤ 8; omega) hdg hf
end GS

theorem okJ0_coder_7d493 : gYV yJ0_coder_7d493 cJ0_coder_7d493 1 (some .byte) 0 := ⟨q626, q627, q628, q180, ⟨by decide +kernel, by decide +kernel, by decide +kernel⟩, by decide⟩
theorem okJ0_charAt_5068e : gYV yJ0_charAt_5068e cJ0_charAt_5068e 2 (some .char) 1 := ⟨q632, q633, q634, q180, ⟨by decide +kernel, by decide +kernel, by decide +kernel⟩, by decide⟩
theorem okJ1_charAt_3b067 : gYS yJ1_charAt_3b067 cJ1_charAt_3b067 2 (some .char) 2 := ⟨q640, q641, q181, ⟨by decide +kernel, by decide +kernel, by decide +kernel⟩, by decide⟩
set_option maxHeartbeats 4000000 in
set_option maxRecDepth 100000 in
theorem c_J0_coder_7d493 (l : Launch) (E : GE) (i : Nat) (hi : i < 7) : gMi l E yJ0_coder_7d493 cJ0_coder_7d493 1 .byte 1 0 0 [.ref (E.2.2 (3 + i))] [] [] 0 := by
  refine gMi_of (own := RJ0) (by decide +kernel) rfl (Nat.le_of_ble_eq_true rfl) ?_
  intro p e s m args below meth c A ls Q H locs C hz hl hG hret
  have hx := C.1.1
  have hb := C.1.2.1
  have hts := C.1.2.2.2.2
  have hown := C.1.2.2.2.1
  have hE := C.2.2.2.1.2.2.2.2.1.narrow C.2.2.2.2.1
  have hZc := C.2.2.2.1.2.2.2.2.2.2.1.narrow C.2.2.2.2.1
  have hl : lv_has ls 1 [(0, .ref (E.2.2 (3 + i)))] := hl
  refine va_gets (v := .int 1) hx hb hZc hG.2.2 hown (hts _ q629) (fun _ h => h) dJ0_coder_7d493_0 ?_
  refine lv_if_eq (tgt := 13) hx hb dJ0_coder_7d493_3 (by decide) (fun h => absurd h (by decide)) (fun _ => ?_)
  refine lv_aload_n hx hb dJ0_coder_7d493_6 rfl (lv_at hl 0 rfl) ?_
  refine vk_getf hx hb (hE.1 i hi).2.1 hG.2.2 hown (hts _ q2001) (fun _ h => h) dJ0_coder_7d493_7 ?_
  refine lv_goto (tgt := 14) hx hb dJ0_coder_7d493_10 (by decide) ?_
  exact hret _ _ _ _ rfl hG dJ0_coder_7d493_14
set_option maxHeartbeats 4000000 in
set_option maxRecDepth 100000 in
theorem c_J0_isLatin1_aae02 (l : Launch) (E : GE) (i : Nat) (hi : i < 7) : gMi l E yJ0_isLatin1_aae02 cJ0_isLatin1_aae02 1 .boolean 1 0 0 [.ref (E.2.2 (3 + i))] [] [] 1 := by
  refine gMi_of (own := RJ0) (by decide +kernel) rfl (Nat.le_of_ble_eq_true rfl) ?_
  intro p e s m args below meth c A ls Q H locs C hz hl hG hret
  have hx := C.1.1
  have hb := C.1.2.1
  have hts := C.1.2.2.2.2
  have hown := C.1.2.2.2.1
  have hE := C.2.2.2.1.2.2.2.2.1.narrow C.2.2.2.2.1
  have hZc := C.2.2.2.1.2.2.2.2.2.2.1.narrow C.2.2.2.2.1
  have hl : lv_has ls 1 [(0, .ref (E.2.2 (3 + i)))] := hl
  refine va_gets (v := .int 1) hx hb hZc hG.2.2 hown (hts _ q629) (fun _ h => h) dJ0_isLatin1_aae02_0 ?_
  refine lv_if_eq (tgt := 17) hx hb dJ0_isLatin1_aae02_3 (by decide) (fun h => absurd h (by decide)) (fun _ => ?_)
  refine lv_aload_n hx hb dJ0_isLatin1_aae02_6 rfl (lv_at hl 0 rfl) ?_
  refine vk_getf hx hb (hE.1 i hi).2.1 hG.2.2 hown (hts _ q2001) (fun _ h => h) dJ0_isLatin1_aae02_7 ?_
  refine lv_if_ne (tgt := 17) hx hb dJ0_isLatin1_aae02_10 (by decide) (fun h => absurd rfl h) (fun _ => ?_)
  refine lv_iconst (v := 1) hx hb dJ0_isLatin1_aae02_13 (by decide) ?_
  refine lv_goto (tgt := 18) hx hb dJ0_isLatin1_aae02_14 (by decide) ?_
  exact hret _ _ _ _ rfl hG dJ0_isLatin1_aae02_18
set_option maxHeartbeats 4000000 in
set_option maxRecDepth 100000 in
theorem c_J0_length_8abf5 (l : Launch) (E : GE) (i : Nat) (hi : i < 7) : gMi l E yJ0_length_8abf5 cJ0_length_8abf5 1 .int 2 0 0 [.ref (E.2.2 (3 + i))] [] [] (strlen i) := by
  refine gMi_of (own := RJ0) (by decide +kernel) rfl (Nat.le_of_ble_eq_true rfl) ?_
  intro p e s m args below meth c A ls Q H locs C hz hl hG hret
  have hx := C.1.1
  have hb := C.1.2.1
  have hts := C.1.2.2.2.2
  have hown := C.1.2.2.2.1
  have hE := C.2.2.2.1.2.2.2.2.1.narrow C.2.2.2.2.1
  have hZc := C.2.2.2.1.2.2.2.2.2.2.1.narrow C.2.2.2.2.1
  have hl : lv_has ls 1 [(0, .ref (E.2.2 (3 + i)))] := hl
  refine lv_aload_n hx hb dJ0_length_8abf5_0 rfl (lv_at hl 0 rfl) ?_
  refine vk_getf hx hb (hE.1 i hi).2.2.1 hG.2.2 hown (hts _ q2000) (fun _ h => h) dJ0_length_8abf5_1 ?_
  refine va_tlen (v := strlen i) hx hb (hE.1 i hi).2.2.2 hG.2.2 rfl dJ0_length_8abf5_4 ?_
  refine lv_aload_n hx hb dJ0_length_8abf5_5 rfl (lv_at hl 0 rfl) ?_
  refine gF_i (ws' := []) C hG pst pst.symm (gR_VS (As := []) (rest := [.int (strlen i)]) C hz hl.1 hG pst (c_J0_coder_7d493 l E i hi H.size) okJ0_coder_7d493 q625 (vk_recv (adK := fun i => E.2.2 (3 + i)) (i := i) hE hi hG.2.2) rfl (Nat.le_of_ble_eq_true rfl) (by omega) ⟨Nat.le_refl _, Nat.le_refl _⟩ dJ0_length_8abf5_6) (fun H locs _ hG => ?_)
  refine lv_ishr hx hb dJ0_length_8abf5_9 ?_
  refine g_int (v := strlen i) ((by decide : ∀ i, i < 7 → strlen i = strlen i >>> ((0 : Int32) &&& 31)) i hi) ?_
  exact hret _ _ _ _ rfl hG dJ0_length_8abf5_10
theorem okJ3_checkIndex_8e157 : gYS yJ3_checkIndex_8e157 cJ3_checkIndex_8e157 3 (some .int) 3 := ⟨q648, q649, q182, ⟨by decide +kernel, by decide +kernel, by decide +kernel⟩, by decide⟩
set_option maxHeartbeats 4000000 in
set_option maxRecDepth 100000 in
theorem c_J3_checkIndex_8e157_n (l : Launch) (E : GE) (x n : Int32) (h0 : ¬ x < 0) (h1 : x < n) : gMi l E yJ3_checkIndex_8e157 cJ3_checkIndex_8e157 3 .int 1 0 0 [.int x, .int n, .null] [] [] x := by
  refine gMi_of (own := RJ3) (by decide +kernel) rfl (Nat.le_of_ble_eq_true rfl) ?_
  intro p e s m args below meth c A ls Q H locs C hz hl hG hret
  have hx := C.1.1
  have hb := C.1.2.1
  have hts := C.1.2.2.2.2
  have hown := C.1.2.2.2.1
  have hE := C.2.2.2.1.2.2.2.2.1.narrow C.2.2.2.2.1
  have hZc := C.2.2.2.1.2.2.2.2.2.2.1.narrow C.2.2.2.2.1
  have hl : lv_has ls 3 [(0, .int x), (1, .int n), (2, .null)] := hl
  refine lv_iload_n hx hb dJ3_checkIndex_8e157_0 rfl (lv_at hl 0 rfl) ?_
  refine lv_if_lt (tgt := 9) hx hb dJ3_checkIndex_8e157_1 (by decide) (fun h => absurd h h0) (fun _ => ?_)
  refine lv_iload_n hx hb dJ3_checkIndex_8e157_4 rfl (lv_at hl 0 rfl) ?_
  refine lv_iload_n hx hb dJ3_checkIndex_8e157_5 rfl (lv_at hl 1 rfl) ?_
  refine lv_icmp_lt (tgt := 16) hx hb dJ3_checkIndex_8e157_6 (by decide) (fun _ => ?_) (fun h => absurd h1 h)
  refine lv_iload_n hx hb dJ3_checkIndex_8e157_16 rfl (lv_at hl 0 rfl) ?_
  exact hret _ _ _ _ rfl hG dJ3_checkIndex_8e157_17
set_option maxHeartbeats 4000000 in
set_option maxRecDepth 100000 in
theorem c_J3_checkIndex_8e157_r (l : Launch) (E : GE) (t : Nat) (x n : Int32) (h0 : ¬ x < 0) (h1 : x < n) : gMi l E yJ3_checkIndex_8e157 cJ3_checkIndex_8e157 3 .int 1 0 0 [.int x, .int n, .ref t] [] [] x := by
  refine gMi_of (own := RJ3) (by decide +kernel) rfl (Nat.le_of_ble_eq_true rfl) ?_
  intro p e s m args below meth c A ls Q H locs C hz hl hG hret
  have hx := C.1.1
  have hb := C.1.2.1
  have hts := C.1.2.2.2.2
  have hown := C.1.2.2.2.1
  have hE := C.2.2.2.1.2.2.2.2.1.narrow C.2.2.2.2.1
  have hZc := C.2.2.2.1.2.2.2.2.2.2.1.narrow C.2.2.2.2.1
  have hl : lv_has ls 3 [(0, .int x), (1, .int n), (2, .ref t)] := hl
  refine lv_iload_n hx hb dJ3_checkIndex_8e157_0 rfl (lv_at hl 0 rfl) ?_
  refine lv_if_lt (tgt := 9) hx hb dJ3_checkIndex_8e157_1 (by decide) (fun h => absurd h h0) (fun _ => ?_)
  refine lv_iload_n hx hb dJ3_checkIndex_8e157_4 rfl (lv_at hl 0 rfl) ?_
  refine lv_iload_n hx hb dJ3_checkIndex_8e157_5 rfl (lv_at hl 1 rfl) ?_
  refine lv_icmp_lt (tgt := 16) hx hb dJ3_checkIndex_8e157_6 (by decide) (fun _ => ?_) (fun h => absurd h1 h)
  refine lv_iload_n hx hb dJ3_checkIndex_8e157_16 rfl (lv_at hl 0 rfl) ?_
  exact hret _ _ _ _ rfl hG dJ3_checkIndex_8e157_17
set_option maxHeartbeats 4000000 in
set_option maxRecDepth 100000 in
theorem c_J0_checkIndex_df160 (l : Launch) (E : GE) (x n : Int32) (h0 : ¬ x < 0) (h1 : x < n) : gMv l E yJ0_checkIndex_df160 cJ0_checkIndex_df160 2 2 0 0 [.int x, .int n] [] [] := by
  refine gMv_of (own := RJ0) (by decide +kernel) rfl (Nat.le_of_ble_eq_true rfl) ?_
  intro p e s m args below meth c A ls Q H locs C hz hl hG hin hret
  have hx := C.1.1
  have hb := C.1.2.1
  have hts := C.1.2.2.2.2
  have hown := C.1.2.2.2.1
  have hE := C.2.2.2.1.2.2.2.2.1.narrow C.2.2.2.2.1
  have hZc := C.2.2.2.1.2.2.2.2.2.2.1.narrow C.2.2.2.2.1
  have hl : lv_has ls 2 [(0, .int x), (1, .int n)] := hl
  refine lv_iload_n hx hb dJ0_checkIndex_df160_0 rfl (lv_at hl 0 rfl) ?_
  refine lv_iload_n hx hb dJ0_checkIndex_df160_1 rfl (lv_at hl 1 rfl) ?_
  rcases C.2.2.2.1.2.2.2.2.2.2.2 with hq | ⟨t, hq⟩
  · replace hq := hq.narrow C.2.2.2.2.1
    refine va_gets (v := .null) hx hb hq hG.2.2 hown (hts _ q645) (fun _ h => h) dJ0_checkIndex_df160_2 ?_
    refine gF_i (ws' := []) C hG pst pst.symm (gR_S (As := [.int x, .int n, .null]) (rest := []) C hz hl.1 hG pst (c_J3_checkIndex_8e157_n l E x n h0 h1 H.size) okJ3_checkIndex_8e157 q647 rfl (Nat.le_of_ble_eq_true rfl) (by omega) ⟨Nat.le_refl _, Nat.le_refl _⟩ dJ0_checkIndex_df160_5) (fun H locs _ hG => ?_)
    refine lv_pop hx hb dJ0_checkIndex_df160_8 rfl ?_
    exact hret _ _ _ _ hG dJ0_checkIndex_df160_9
  · replace hq := hq.narrow C.2.2.2.2.1
    refine va_gets (v := (.ref t)) hx hb hq hG.2.2 hown (hts _ q645) (fun _ h => h) dJ0_checkIndex_df160_2 ?_
    refine gF_i (ws' := []) C hG pst pst.symm (gR_S (As := [.int x, .int n, (.ref t)]) (rest := []) C hz hl.1 hG pst (c_J3_checkIndex_8e157_r l E t x n h0 h1 H.size) okJ3_checkIndex_8e157 q647 rfl (Nat.le_of_ble_eq_true rfl) (by omega) ⟨Nat.le_refl _, Nat.le_refl _⟩ dJ0_checkIndex_df160_5) (fun H locs _ hG => ?_)
    refine lv_pop hx hb dJ0_checkIndex_df160_8 rfl ?_
    exact hret _ _ _ _ hG dJ0_checkIndex_df160_9
theorem strch_ok : ∀ i, i < 7 → ∀ k, k < lenS.getD i 0 → True ∧ ((((strch i k) &&& 255).toUInt32 % 65536).toInt32 = strch i k) := by decide +kernel
set_option maxHeartbeats 4000000 in
set_option maxRecDepth 100000 in
theorem c_J1_charAt_3b067 (l : Launch) (E : GE) (i : Nat) (hi : i < 7) (x : Int32) (hk : inb x (lenS.getD i 0) = true) : gMi l E yJ1_charAt_3b067 cJ1_charAt_3b067 2 .char 3 0 0 [.ref (E.2.2 (10 + i)), .int x] [] [] (strch i x.toNatClampNeg) := by
  have h0 : ¬ x < 0 := fun q => inb_in hk (Or.inl q)
  have hlt := inb_lt hk
  have h1 : x < strlen i := str_lt i hi x hk
  refine gMi_of (own := RJ1) (by decide +kernel) rfl (Nat.le_of_ble_eq_true rfl) ?_
  intro p e s m args below meth c A ls Q H locs C hz hl hG hret
  have hx := C.1.1
  have hb := C.1.2.1
  have hts := C.1.2.2.2.2
  have hown := C.1.2.2.2.1
  have hE := C.2.2.2.1.2.2.2.2.1.narrow C.2.2.2.2.1
  have hZc := C.2.2.2.1.2.2.2.2.2.2.1.narrow C.2.2.2.2.1
  have hl : lv_has ls 2 [(0, .ref (E.2.2 (10 + i))), (1, .int x)] := hl
  refine lv_iload_n hx hb dJ1_charAt_3b067_0 rfl (lv_at hl 1 rfl) ?_
  refine lv_aload_n hx hb dJ1_charAt_3b067_1 rfl (lv_at hl 0 rfl) ?_
  refine va_tlen (v := strlen i) hx hb (hE.1 i hi).2.2.2 hG.2.2 rfl dJ1_charAt_3b067_2 ?_
  refine gF_v (ws' := []) C hG pst pst.symm (gR_S (As := [.int x, .int (strlen i)]) (rest := []) C hz hl.1 hG pst (c_J0_checkIndex_df160 l E x (strlen i) h0 h1 H.size) okJ0_checkIndex_df160 q642 rfl (Nat.le_of_ble_eq_true rfl) (by omega) ⟨Nat.le_refl _, Nat.le_refl _⟩ dJ1_charAt_3b067_3) (fun H locs hG => ?_)
  refine lv_aload_n hx hb dJ1_charAt_3b067_6 rfl (lv_at hl 0 rfl) ?_
  refine lv_iload_n hx hb dJ1_charAt_3b067_7 rfl (lv_at hl 1 rfl) ?_
  refine va_tb (v := .int (strch i x.toNatClampNeg)) hx hb (hE.1 i hi).2.2.2 hG.2.2 (inb_in hk) rfl dJ1_charAt_3b067_8 ?_
  refine lv_sipush (v := 255) hx hb dJ1_charAt_3b067_9 (by decide) ?_
  refine lv_iand hx hb dJ1_charAt_3b067_12 ?_
  refine lv_i2c (v := strch i x.toNatClampNeg) hx hb dJ1_charAt_3b067_13 (strch_ok i hi _ hlt).2 ?_
  exact hret _ _ _ _ (strch_nar i hi _ hlt) hG dJ1_charAt_3b067_14
set_option maxHeartbeats 4000000 in
set_option maxRecDepth 100000 in
theorem c_J0_charAt_5068e (l : Launch) (E : GE) (i : Nat) (hi : i < 7) (x : Int32) (hk : inb x (lenS.getD i 0) = true) : gMi l E yJ0_charAt_5068e cJ0_charAt_5068e 2 .char 4 0 0 [.ref (E.2.2 (3 + i)), .int x] [] [] (strch i x.toNatClampNeg) := by
  refine gMi_of (own := RJ0) (by decide +kernel) rfl (Nat.le_of_ble_eq_true rfl) ?_
  intro p e s m args below meth c A ls Q H locs C hz hl hG hret
  have hx := C.1.1
  have hb := C.1.2.1
  have hts := C.1.2.2.2.2
  have hown := C.1.2.2.2.1
  have hE := C.2.2.2.1.2.2.2.2.1.narrow C.2.2.2.2.1
  have hZc := C.2.2.2.1.2.2.2.2.2.2.1.narrow C.2.2.2.2.1
  have hl : lv_has ls 2 [(0, .ref (E.2.2 (3 + i))), (1, .int x)] := hl
  refine lv_aload_n hx hb dJ0_charAt_5068e_0 rfl (lv_at hl 0 rfl) ?_
  refine gF_i (ws' := []) C hG pst pst.symm (gR_VS (As := []) (rest := []) C hz hl.1 hG pst (c_J0_isLatin1_aae02 l E i hi H.size) okJ0_isLatin1_aae02 q635 (vk_recv (adK := fun i => E.2.2 (3 + i)) (i := i) hE hi hG.2.2) rfl (Nat.le_of_ble_eq_true rfl) (by omega) ⟨Nat.le_refl _, Nat.le_refl _⟩ dJ0_charAt_5068e_1) (fun H locs _ hG => ?_)
  refine lv_if_eq (tgt := 16) hx hb dJ0_charAt_5068e_4 (by decide) (fun h => absurd h (by decide)) (fun _ => ?_)
  refine lv_aload_n hx hb dJ0_charAt_5068e_7 rfl (lv_at hl 0 rfl) ?_
  refine vk_getf hx hb (hE.1 i hi).2.2.1 hG.2.2 hown (hts _ q2000) (fun _ h => h) dJ0_charAt_5068e_8 ?_
  refine lv_iload_n hx hb dJ0_charAt_5068e_11 rfl (lv_at hl 1 rfl) ?_
  refine gF_i (ws' := []) C hG pst pst.symm (gR_S (As := [.ref (E.2.2 (10 + i)), .int x]) (rest := []) C hz hl.1 hG pst (c_J1_charAt_3b067 l E i hi x hk H.size) okJ1_charAt_3b067 q639 rfl (Nat.le_of_ble_eq_true rfl) (by omega) ⟨Nat.le_refl _, Nat.le_refl _⟩ dJ0_charAt_5068e_12) (fun H locs hn hG => ?_)
  exact hret _ _ _ _ hn hG dJ0_charAt_5068e_15
