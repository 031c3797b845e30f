/-! SWITCHED OVER, ALL THAT ARE WHOLE -/
theorem RW_s3 {w : RS} {a : Nat → Int32} {e : Nat} {t : Int32} (he : e < 10) (h : RW w a) : RW (sr (sr w 3 (upd (w 3) e t)) 8 (upd (w 8) e (7 * a (119 + e) + 8 * a (129 + e)))) (upd a (109 + e) t) := by
  obtain ⟨hC, hX, hD, hE, hH, hV, hB⟩ := h
  obtain ⟨x1, x2, x3, x4, x5, x6, x7, x8, x9, x10, x11⟩ := hX
  refine ⟨?_, ?_, RD_cg (fun c hc => by rw [sr_n (by omega), sr_n (by omega)]) (fun k k1 k2 => upd_n (by omega)) hD, ?_, RH_cg (fun c hc => by rw [sr_n (by omega), sr_n (by omega)]) (upd_n (by omega)) (fun k k1 k2 => upd_n (by omega)) hH, RV_cg (fun c k1 k2 => by rw [sr_n (by omega), sr_n (by omega)]) (upd_n (by omega)) (fun k k1 k2 => upd_n (by omega)) hV, RB_cg (by rw [sr_n (by omega), sr_n (by omega)]) (by rw [sr_n (by omega), sr_n (by omega)]) (upd_n (by omega)) (fun k k1 k2 => upd_n (by omega)) hB⟩
  · rw [sr_n (by decide), sr_n (by decide)]
    exact row_out (by omega) hC
  · unfold RX
    simp (disch := omega) only [sr_n, sr_e]
    exact ⟨row_set rfl x1, row_out (by omega) x2, row_out (by omega) x3, row_out (by omega) x4, row_out (by omega) x5, row_out (by omega) x6, row_out (by omega) x7, row_out (by omega) x8, row_out (by omega) x9, row_out (by omega) x10, row_out (by omega) x11⟩
  · intro f hf h1
    rw [sr_n (by decide), sr_e] at h1
    have y1 : upd a (109 + e) t (119 + f) = a (119 + f) := upd_n (by omega)
    have y2 : upd a (109 + e) t (129 + f) = a (129 + f) := upd_n (by omega)
    rw [sr_e, y1, y2]
    by_cases c : f = e
    · subst c
      rw [upd_e]
    · rw [upd_n c] at h1
      rw [upd_n c]
      exact hE f hf h1
/-- a step of reads or writes that are counted by the reference: what the class keeps of them -/
theorem RW_cnt {w : RS} {a : Nat → Int32} {e k : Nat} {x : Int32} (he : e < 10) (hk : k = 119 + e ∨ k = 129 + e) (h : RW w a) : RW (sr w 8 (upd (w 8) e (7 * upd a k x (119 + e) + 8 * upd a k x (129 + e)))) (upd a k x) := by
  refine RW_E h (fun c hc => sr_n hc) (fun j hj => upd_n (by omega)) ?_
  intro f hf h1
  rw [sr_n (by decide)] at h1
  rw [sr_e]
  by_cases c : f = e
  · subst c
    rw [upd_e]
  · rw [upd_n c, upd_n (by omega), upd_n (by omega)]
    exact h.2.2.2.1 f hf h1
def swB (w : RS) (e : Nat) (t : Int32) : RS := sr (sr (sr (sr (sr w 3 (upd (w 3) e t)) 6 (upd (w 6) e 0)) 5 (upd (w 5) e (w 1 2 + 3))) 7 (upd (w 7) e (w 7 e + 1))) 8 (upd (w 8) e 0)
def swF (w : RS) (e m i : Nat) (t : Int32) (f18 f19 : Nat → Int32) : RS := sr (rmW (sr (sr (swB w e t) 18 f18) 19 f19) m i) 1 (upd (w 1) 11 (w 1 11 + 1))
theorem switch_ok {N : Nat} (hN : 97 ≤ N) {w mm : RS} {a : Nat → Int32} {m i e : Nat} (hr : RW w a) (hi : IW w) (h : mvI w a m i e) (hb : w 26 i = 1) :
    ∃ w' a', fX10_switchOver N (nI i) w = some w' ∧ fX12_switchMove N (nI i) (sr mm 1 a) = some (sr mm 1 a') ∧ SM 0 w a w' a' ∧ w' 23 0 = nI (m - 1) := by
  have h' := h
  obtain ⟨h1, h2, h3, h4, h5, h6, h7, h8, h9, h10, h11, h12, h13⟩ := h
  have hz := szN_le e
  have hs := stN_le e h5
  generalize ht : w 25 i = t at *
  have htb : bit1 t := by
    rcases hi.1.1 e h5 with q | q
    · rw [h7, q]; exact Or.inr rfl
    · rw [h7, q]; exact Or.inl rfl
  have hC6 := row13_iff.mp hr.1
  have c5 : a 5 = w 1 2 := hC6.2.2.1
  have c14 : a 14 = w 1 11 := hC6.2.2.2.2.2.2.2.2.2.2.2.1
  have x7 : a (340 + e) = w 7 e := hr.2.1.2.2.2.2.1 e h5
  -- the slots behind it
  obtain ⟨w10, f18, f19, a2, l1, l2, l3, l4, l5, l6, l7, l8, l9⟩ : ∃ w10 f18 f19 a2, (if t = 0 then (bnd (fX1_leaveSlots N (nI e) (swB w e t)) fun r10 => fX10_switchOver_L92 N (nI i) (nI e) t r10) else (fX10_switchOver_L92 N (nI i) (nI e) t (swB w e t))) = fX10_switchOver_L92 N (nI i) (nI e) t w10 ∧
      (if t = 0 then (bnd (fX12_freeSlots N (nI e) (sr mm 1 (upd (upd a (109 + e) t) (79 + e) 0))) fun r7 => fX12_switchMove_L43 N (nI i) (nI e) t r7) else (fX12_switchMove_L43 N (nI i) (nI e) t (sr mm 1 (upd (upd a (109 + e) t) (79 + e) 0)))) = fX12_switchMove_L43 N (nI i) (nI e) t (sr mm 1 a2) ∧
      w10 = sr (sr (swB w e t) 18 f18) 19 f19 ∧ (∀ k, (k < 139 ∨ 162 ≤ k) → a2 k = upd (upd a (109 + e) t) (79 + e) 0 k) ∧ row 23 139 f18 a2 ∧ (∀ q, (q < stN e ∨ stN e + szN e ≤ q) → f18 q = w 18 q) ∧ (∀ b, b < szN e → (f18 (stN e + b) ≠ -1 ↔ t = 1)) ∧ ID w10 ∧ w10 18 = f18 := by
    have hB18 : ∀ z, swB w e z 18 = w 18 := fun z => by unfold swB; simp (disch := omega) only [sr_n]
    have hB19 : ∀ z, swB w e z 19 = w 19 := fun z => by unfold swB; simp (disch := omega) only [sr_n]
    rcases htb with q | q
    · rw [q]
      obtain ⟨w1, g1, g2⟩ := leave_ok (N := N) (by omega) h5 (ID_cg (hB18 0) (hB19 0) hi.2.1 : ID (swB w e 0))
      have hrow : row 23 139 (swB w e 0 18) (upd (upd a (109 + e) 0) (79 + e) 0) := by
        rw [hB18]
        exact row_out (by omega) (row_out (by omega) hr.2.2.1.2.1)
      refine ⟨w1, w1 18, w1 19, frA (upd (upd a (109 + e) 0) (79 + e) 0) (stN e) (stN e + szN e), ?_, ?_, ?_, fun k hk => frA_out (by omega) hk, free_row g2 hrow, ?_, ?_, leave_ID (ID_cg (hB18 0) (hB19 0) hi.2.1) g2, rfl⟩
      · rw [if_pos rfl, g1, bnd_s]
      · rw [if_pos rfl, freeM_ok (by omega) h5, bnd_s]
      · apply rs_ext
        intro r k
        by_cases r19 : r = 19
        · subst r19; rw [sr_e]
        · rw [sr_n r19]
          by_cases r18 : r = 18
          · subst r18; rw [sr_e]
          · rw [sr_n r18, g2.1 r r18 r19]
      · intro q' hq
        rw [g2.2.1, if_neg (by omega), hB18]
      · intro b hb2
        rw [g2.2.1, if_pos (by omega)]
        exact ⟨fun z => absurd rfl z, fun z => absurd z (by decide)⟩
    · rw [q]
      refine ⟨swB w e 1, w 18, w 19, upd (upd a (109 + e) 1) (79 + e) 0, ?_, ?_, ?_, fun _ _ => rfl, row_out (by omega) (row_out (by omega) hr.2.2.1.2.1), fun _ _ => rfl, ?_, ID_cg (hB18 1) (hB19 1) hi.2.1, hB18 1⟩
      · rw [if_neg (by decide)]
      · rw [if_neg (by decide)]
      · rw [← hB18 1, ← hB19 1]
        apply rs_ext
        intro r k
        by_cases r19 : r = 19
        · subst r19; rw [sr_e]
        · rw [sr_n r19]
          by_cases r18 : r = 18
          · subst r18; rw [sr_e]
          · rw [sr_n r18]
      · intro b hb2
        rw [hi.2.2.2.2.1 e h5 b hb2]
        exact ⟨fun _ => rfl, fun _ => (HSl_iff h2 h1).mpr (Or.inr ⟨i, h4, h6, hb⟩)⟩
  subst l3
  -- the class
  have hC : fX10_switchOver N (nI i) w = bnd (fX10_writeDown N 1 (nI e) t (swF w e m i t f18 f19)) fun r3 => some r3 := by
    have hs1 : fX10_switchOver N (nI i) w = (if t = 0 then (bnd (fX1_leaveSlots N (nI e) (swB w e t)) fun r10 => fX10_switchOver_L92 N (nI i) (nI e) t r10) else (fX10_switchOver_L92 N (nI i) (nI e) t (swB w e t))) := by
      unfold fX10_switchOver swB
      rw [inb_nI (by omega) (by omega), ck_t, thn_e, thn_e, cl_nI (by omega), h6, ht, inb_nI h5 (by omega), ck_t, cl_nI (by omega)]
      simp (disch := omega) only [thn_e, st_d, sr_n]
    rw [hs1, l1]
    unfold fX10_switchOver_L92
    have e23 : (sr (sr (swB w e t) 18 f18) 19 f19) 23 0 = nI m := by
      rw [sr_n (by decide), sr_n (by decide)]
      unfold swB
      simp (disch := omega) only [sr_n]
      exact h2
    rw [remove_ok h4 h1 e23, bnd_s, thn_e, st_d]
    have e1 : rmW (sr (sr (swB w e t) 18 f18) 19 f19) m i 1 = w 1 := by
      rw [rmW_out (by omega), sr_n (by decide), sr_n (by decide)]
      unfold swB
      simp (disch := omega) only [sr_n]
    rw [e1]
    rfl
  -- the reference
  generalize ha3 : upd (upd (upd (upd (upd a2 (59 + e) (w 1 2 + 3)) (119 + e) 0) (129 + e) 0) 14 (w 1 11 + 1)) (340 + e) (w 7 e + 1) = a3 at *
  have g17 : a3 17 = nI m := by
    rw [← ha3, upd_n (by omega), upd_n (by omega), upd_n (by omega), upd_n (by omega), upd_n (by omega), l4 17 (by omega), upd_n (by omega), upd_n (by omega)]
    exact h3
  have hM : fX12_switchMove N (nI i) (sr mm 1 a) = bnd (fX12_writeDown N 1 (nI e) t (sr mm 1 (outA a3 m i))) fun r11 => some r11 := by
    have q0 := @ofM N i 0 mm a (by omega) (by omega)
    have q1 := @ofM N i 1 mm a (by omega) (by omega)
    rw [Nat.add_zero, h9] at q0
    rw [h10] at q1
    have q1' : fX12_ofMove N (nI i) 1 (sr mm 1 a) = some t := q1
    have q0' : fX12_ofMove N (nI i) 0 (sr mm 1 a) = some (nI e) := q0
    unfold fX12_switchMove
    rw [q0', bnd_s, q1', bnd_s, i109, inb_nI (by omega) (by omega), ck_t, thn_e, cl_nI (by omega), st_sr, i79, inb_nI (by omega) (by omega), ck_t, thn_e, cl_nI (by omega), st_sr, l2]
    unfold fX12_switchMove_L43
    have b5 : a2 5 = w 1 2 := by rw [l4 5 (by omega), upd_n (by omega), upd_n (by omega)]; exact c5
    have b14 : a2 14 = w 1 11 := by rw [l4 14 (by omega), upd_n (by omega), upd_n (by omega)]; exact c14
    have b7 : a2 (340 + e) = w 7 e := by rw [l4 _ (by omega), upd_n (by omega), upd_n (by omega)]; exact x7
    simp (disch := omega) only [thn_e, st_sr, sr_e, upd_n, i59, i119, i129, i340, inb_nI, ck_t, cl_nI, b5, b14, b7]
    rw [ha3, outM_ok (by omega) h4 h1 g17, bnd_s]
  -- the relation
  have hR : RW (swF w e m i t f18 f19) (outA a3 m i) := by
    have r1 := RW_s3 (t := t) h5 hr
    have r2 := RW_s6 (i := e) (x := 0) h5 r1
    have r3 := RW_D (w' := sr (sr (sr (sr (sr w 3 (upd (w 3) e t)) 8 (upd (w 8) e (7 * a (119 + e) + 8 * a (129 + e)))) 6 (upd (w 6) e 0)) 18 f18) 19 f19) (a' := a2) r2 (fun c c1 c2 => by
      rw [sr_n c2, sr_n c1]
      simp (disch := omega) only [sr_n]) l4 (by rw [sr_n (by decide), sr_e]; exact l5)
    have r4 := RW_s5 (i := e) (x := w 1 2 + 3) h5 r3
    have r5 := RW_cnt (e := e) (k := 119 + e) (x := 0) h5 (Or.inl rfl) r4
    have r6 := RW_cnt (e := e) (k := 129 + e) (x := 0) h5 (Or.inr rfl) r5
    have r7 := RW_s1 (i := 11) (x := w 1 11 + 1) (by decide) r6
    have r8 := RW_s7 (i := e) (x := w 7 e + 1) h5 r7
    have r9 := RW_ae (a' := a3) (fun k => by rw [← ha3]) r8
    have hv : ∀ w1, (∀ c, 23 ≤ c → c ≤ 27 → w1 c = w c) → (w1 3 = upd (w 3) e t) → RW w1 a3 → RW (rmW w1 m i) (outA a3 m i) := by
      intro w1 k1 k2 k3
      obtain ⟨n, v1, v2, v3, v4, v5, v6, v7⟩ := k3.2.2.2.2.2.1
      have en : n = m := (eq_nI (by omega) (by omega)).mp (v3.symm.trans g17)
      subst en
      exact RW_V k3 (fun c hc => rmW_out hc) (fun k z1 z2 => outA_out h1 h4 z1 z2) (out_RV h1 h4 v4 v5 v6 v7)
    have r10 := hv _ (fun c k1 k2 => by simp (disch := omega) only [sr_n]) (by simp (disch := omega) only [sr_n, sr_e]) r9
    refine RW_we ?_ r10
    apply rs_ext
    intro r k
    unfold swF swB rmW
    by_cases r1 : r = 1
    · subst r1; simp (disch := omega) only [sr_n, sr_e]
    by_cases r27 : r = 27
    · subst r27; simp (disch := omega) only [sr_n, sr_e]
    by_cases r26 : r = 26
    · subst r26; simp (disch := omega) only [sr_n, sr_e]
    by_cases r25 : r = 25
    · subst r25; simp (disch := omega) only [sr_n, sr_e]
    by_cases r24 : r = 24
    · subst r24; simp (disch := omega) only [sr_n, sr_e]
    by_cases r23 : r = 23
    · subst r23; simp (disch := omega) only [sr_n, sr_e]
    by_cases r19 : r = 19
    · subst r19; simp (disch := omega) only [sr_n, sr_e]
    by_cases r18 : r = 18
    · subst r18; simp (disch := omega) only [sr_n, sr_e]
    by_cases r3 : r = 3
    · subst r3; simp (disch := omega) only [sr_n, sr_e]
    by_cases r5 : r = 5
    · subst r5; simp (disch := omega) only [sr_n, sr_e]
    by_cases r6 : r = 6
    · subst r6; simp (disch := omega) only [sr_n, sr_e]
    by_cases r7 : r = 7
    · subst r7; simp (disch := omega) only [sr_n, sr_e]
    by_cases r8 : r = 8
    · subst r8
      simp (disch := omega) only [sr_n, sr_e, upd_e, upd_n]
      by_cases ke : k = e
      · subst ke
        simp (disch := omega) only [upd_e, upd_n]
        rfl
      · simp (disch := omega) only [upd_n]
    simp (disch := omega) only [sr_n]
  -- what holds of it
  have o : ∀ c, (c < 23 ∨ 27 < c) → c ≠ 1 → swF w e m i t f18 f19 c = (sr (sr (swB w e t) 18 f18) 19 f19) c := fun c hc c1 => by
    unfold swF
    rw [sr_n c1, rmW_out hc]
  have oB : ∀ c, c ≠ 3 → c ≠ 5 → c ≠ 6 → c ≠ 7 → c ≠ 8 → c ≠ 18 → c ≠ 19 → (sr (sr (swB w e t) 18 f18) 19 f19) c = w c := fun c k1 k2 k3 k4 k5 k6 k7 => by
    unfold swB
    simp (disch := omega) only [sr_n]
  have o1 : swF w e m i t f18 f19 1 = upd (w 1) 11 (w 1 11 + 1) := by unfold swF; rw [sr_e]
  have o3 : swF w e m i t f18 f19 3 = upd (w 3) e t := by rw [o 3 (by omega) (by decide)]; unfold swB; simp (disch := omega) only [sr_n, sr_e]
  have o6 : swF w e m i t f18 f19 6 = upd (w 6) e 0 := by rw [o 6 (by omega) (by decide)]; unfold swB; simp (disch := omega) only [sr_n, sr_e]
  have o18 : swF w e m i t f18 f19 18 = f18 := by rw [o 18 (by omega) (by decide)]; exact l9
  obtain ⟨r24, r25, r26, r23⟩ := rmW_at (w := sr (sr (swB w e t) 18 f18) 19 f19) h4
  have ov : ∀ c, 23 ≤ c → c ≤ 27 → swF w e m i t f18 f19 c = rmW (sr (sr (swB w e t) 18 f18) 19 f19) m i c := fun c k1 k2 => by unfold swF; rw [sr_n (by omega)]
  have iVS := rm_IVS (w' := swF w e m i t f18 f19) hi (a := a) (by rw [← ht] at *; exact h') (by rw [ov 23 (by omega) (by omega)]; exact r23) (fun j hj => by rw [ov 24 (by omega) (by omega), r24 j hj, oB 24 (by decide) (by decide) (by decide) (by decide) (by decide) (by decide) (by decide)]) (fun j hj => by rw [ov 25 (by omega) (by omega), r25 j hj, oB 25 (by decide) (by decide) (by decide) (by decide) (by decide) (by decide) (by decide)]) (fun j hj => by rw [ov 26 (by omega) (by omega), r26 j hj, oB 26 (by decide) (by decide) (by decide) (by decide) (by decide) (by decide) (by decide)]) (fun f hf => by rw [o3, upd_n hf]) (fun q hq => by rw [o18]; exact l6 q hq) (fun b hb2 => by rw [o18, o3, upd_e]; exact l7 b hb2)
  have hI : IW (swF w e m i t f18 f19) := by
    refine ⟨?_, ID_cg (by rw [o 18 (by omega) (by decide)]) (by rw [o 19 (by omega) (by decide)]) l8, IH_cg (by rw [o 20 (by omega) (by decide), oB 20 (by decide) (by decide) (by decide) (by decide) (by decide) (by decide) (by decide)]) (by rw [o 21 (by omega) (by decide), oB 21 (by decide) (by decide) (by decide) (by decide) (by decide) (by decide) (by decide)]) hi.2.2.1, iVS.1, iVS.2, IC_cg (fun k hk => by rw [o1, upd_n (by omega)]) hi.2.2.2.2.2⟩
    obtain ⟨z1, z2, z3, z4, z5, z6, z7, z8⟩ := hi.1
    have ou : ∀ c, (c = 4 ∨ c = 9 ∨ c = 10 ∨ c = 13 ∨ c = 14) → swF w e m i t f18 f19 c = w c := fun c hc => by rw [o c (by omega) (by omega), oB c (by omega) (by omega) (by omega) (by omega) (by omega) (by omega) (by omega)]
    unfold IX
    rw [o3, o6, ou 4 (by omega), ou 9 (by omega), ou 10 (by omega), ou 13 (by omega), ou 14 (by omega)]
    refine ⟨all_upd z1 htb, z2, fun f hf => ?_, fun f hf hq => ?_, z5, z6, z7, z8⟩
    · by_cases c : f = e
      · subst c; rw [upd_e]; exact ⟨0, Nat.zero_le _, rfl⟩
      · rw [upd_n c]; exact z3 f hf
    · by_cases c : f = e
      · subst c; rw [upd_e]
      · rw [upd_n c]
        rw [upd_n c] at hq
        exact z4 f hf hq
  obtain ⟨w', a', k1, k2, k3, k4⟩ := wd_SM (mm := mm) hN hR hI 1 (nI e) t
  refine ⟨w', a', ?_, ?_, ⟨k3.1, k3.2.1, fun k hk => ?_, fun K hK => k3.2.2.2 K (IK_cg ?_ ?_ ?_ hK)⟩, ?_⟩
  · rw [hC, k1, bnd_s]
  · rw [hM, k2, bnd_s]
  · rw [k3.2.2.1 k hk, outA_out h1 h4 (by omega) (by omega), ← ha3, upd_n (by omega), upd_n (by omega), upd_n (by omega), upd_n (by omega), upd_n (by omega), l4 k (by omega), upd_n (by omega), upd_n (by omega)]
  · rw [o1, upd_n (by decide)]
  · rw [o1, upd_n (by decide)]
  · rw [o1, upd_n (by decide)]
  · rw [k4 23 (by decide), ov 23 (by omega) (by omega)]
    exact r23
