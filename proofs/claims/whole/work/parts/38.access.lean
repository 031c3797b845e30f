/-! ACCESSES -/
def adc (w : RS) (c : Int32) : RS := sr w 1 (upd (w 1) 3 (w 1 3 + c))
theorem upd_self {f : Nat → Int32} {k : Nat} : upd f k (f k) = f := by
  funext j
  by_cases e : j = k
  · subst e; rw [upd_e]
  · rw [upd_n e]
theorem heat_eq {x d : Nat} (hx : x ≤ 9999) (hd : d ≤ 100) : imin 9999 (nI x + nI d) = if nI x + nI d ≤ 9999 then nI x + nI d else 9999 := by
  rw [nI_add]
  unfold imin
  by_cases c : x + d < 9999
  · rw [if_pos ((lt_9999 (by omega)).mpr c), if_pos ((ge_9999 (by omega)).mpr (by omega))]
  · rw [if_neg fun q => c ((lt_9999 (by omega)).mp q)]
    by_cases c2 : x + d = 9999
    · rw [c2, if_pos (by decide)]; rfl
    · rw [if_neg fun q => c2 (by have := (ge_9999 (by omega)).mp q; omega)]
theorem heat_up {x d : Nat} (hx : x ≤ 9999) (hd : d ≤ 100) : upto 9999 (imin 9999 (nI x + nI d)) := by
  rw [heat_eq hx hd, nI_add]
  by_cases c : x + d ≤ 9999
  · rw [if_pos ((ge_9999 (by omega)).mpr c)]
    exact ⟨_, c, rfl⟩
  · rw [if_neg fun q => c ((ge_9999 (by omega)).mp q)]
    exact ⟨9999, Nat.le_refl _, rfl⟩
theorem or1_up : ∀ n, n < 256 → upto 255 (nI n ||| 1) := by
  have h : ∀ n, n < 256 → (nI n ||| 1).toNatClampNeg ≤ 255 ∧ (nI n ||| 1) = nI (nI n ||| 1).toNatClampNeg := by decide +kernel
  exact fun n hn => ⟨_, (h n hn).1, (h n hn).2⟩
def ntB (a : Nat → Int32) (f c : Int32) : Nat → Int32 := upd (upd (upd a 10 (a 10 + 1)) 6 (a 6 + c)) 11 (a 11 + f)
theorem access_0 {N e b : Nat} {h cF cS : Int32} (he : e < 10) (hb : b < szN e) {mm : RS} {a : Nat → Int32} (hf : bit1 (a (109 + e))) :
    fX12_access N (nI e) (nI b) h cF cS (sr mm 1 a) = fX12_access_L55 N (nI e) (nI b) h cF cS (sr mm 1 (ntB a (a (109 + e)) (if a (109 + e) = 1 then cF else cS))) := by
  unfold fX12_access fX12_isFast ntB
  simp (disch := omega) only [thn_e, st_sr, sr_e, upd_n, i109, inb_nI, ck_t, cl_nI]
  rcases hf with hf | hf
  · rw [hf, if_neg (by decide), if_neg (by decide), bnd_s, if_pos rfl]
    unfold fX12_access_L34 fX12_isFast
    rw [show inb 6 10760 = true from by decide, ck_t, show (6 : Int32).toNatClampNeg = 6 from by decide]
    simp (disch := omega) only [thn_e, st_sr, sr_e, upd_n, i109, inb_nI, ck_t, cl_nI, hf]
    rw [if_neg (by decide), bnd_s, if_pos rfl, Int32.add_zero]
    congr 2
    exact (upd_self (f := upd (upd a 10 (a 10 + 1)) 6 (a 6 + cS)) (k := 11)).symm.trans (by rw [upd_n (by decide), upd_n (by decide)])
  · rw [hf, if_pos rfl, if_pos rfl, bnd_s, if_neg (by decide)]
    unfold fX12_access_L34 fX12_isFast
    rw [show inb 6 10760 = true from by decide, ck_t, show (6 : Int32).toNatClampNeg = 6 from by decide]
    simp (disch := omega) only [thn_e, st_sr, sr_e, upd_n, i109, inb_nI, ck_t, cl_nI, hf]
    rw [if_true, bnd_s, if_neg (by decide)]
def ntC (w : RS) (f : Int32) : RS := sr w 1 (upd (upd (w 1) 7 (w 1 7 + 1)) 8 (w 1 8 + f))
theorem note_0 {N e b : Nat} {h : Int32} (he : e < 10) {w : RS} : fX10_note N (nI e) (nI b) h w = bnd (fX3_advance N (nI (stN e + b)) (ntC w (w 3 e))) fun r4 => if r4.1 < 4 then bnd (fX2_warm N (nI e) h r4.2) fun r5 => some r5 else thn (st r4.2 1 9 (r4.2 1 9 + 1)) fun ww_6 => thn (st ww_6 12 e (ww_6 12 e + 1)) fun ww_7 => some ww_7 := by
  unfold fX10_note ntC
  simp (disch := omega) only [thn_e, st_d, sr_e, sr_n, sr_sr, upd_n, inb_nI, ck_t, cl_nI, startT_N e he, nI_add]
/-- an access: the counts, the heads, the heat; the cost is written down by the class later -/
theorem note_ok {N : Nat} (hN : 24 ≤ N) {w mm : RS} {a : Nat → Int32} {e b d : Nat} {cF cS : Int32} (he : e < 10) (hb : b < szN e) (hd : d ≤ 100) (hr : RW w a) (hi : IW w) :
    ∃ w' a', fX10_note N (nI e) (nI b) (nI d) w = some w' ∧ fX12_access N (nI e) (nI b) (nI d) cF cS (sr mm 1 a) = some (sr mm 1 a') ∧ RW (adc w' (if w 3 e = 1 then cF else cS)) a' ∧ IW w' ∧ FA a a' ∧
      (∀ c, c ≠ 1 → (c < 9 ∨ 12 < c ∧ c < 20 ∨ 22 < c) → w' c = w c) ∧ w' 1 3 = w 1 3 ∧ w' 1 7 = w 1 7 + 1 ∧ w' 1 8 = w 1 8 + w 3 e := by
  obtain ⟨hC, hX, hD, hE, hH, hV, hB⟩ := hr
  obtain ⟨iX, iD, iH, iV, iS, iC⟩ := hi
  have hX' := hX
  obtain ⟨x1, x2, x3, x4, x5, x6, x7, x8, x9, x10, x11⟩ := hX
  have hfa : a (109 + e) = w 3 e := x1 e he
  have hbit : bit1 (w 3 e) := iX.1 e he
  rw [access_0 he hb (by rw [hfa]; exact hbit), note_0 he, hfa]
  generalize hc : (if w 3 e = 1 then cF else cS) = cc
  have hH' : RH (ntC w (w 3 e)) (ntB a (w 3 e) cc) := RH_cg (fun c hc => sr_n (by omega)) (by unfold ntB; rw [upd_n (by decide), upd_n (by decide), upd_n (by decide)]) (fun k h1 h2 => by unfold ntB; rw [upd_n (by omega), upd_n (by omega), upd_n (by omega)]) hH
  have hI' : IH (ntC w (w 3 e)) := IH_cg (sr_n (by omega)) (sr_n (by omega)) iH
  obtain ⟨⟨n', r⟩, h1, ⟨n, q⟩, h2, g1, g2, g3, g4, g5, g6⟩ := adv_ok (mm := mm) (by omega : 10 ≤ N) hH' hI' (nI (stN e + b))
  simp only at g1 g2 g3 g4 g5 g6
  subst g1
  unfold fX12_access_L55
  rw [h1, bnd_s, firstM_N e he, nI_add, h2, bnd_s, g2]
  generalize q 1 = q1 at *
  have gw : ∀ c, c ≠ 1 → c ≠ 20 → c ≠ 21 → c ≠ 22 → r c = w c := fun c c1 c2 c3 c4 => (g3 c c2 c3 c4).trans (sr_n c1)
  have gw1 : r 1 = upd (upd (w 1) 7 (w 1 7 + 1)) 8 (w 1 8 + w 3 e) := (g3 1 (by decide) (by decide) (by decide)).trans sr_e
  have gq : ∀ k, k ≠ 6 → k ≠ 10 → k ≠ 11 → k ≠ 16 → (k < 194 ∨ 200 ≤ k) → q1 k = a k := fun k k1 k2 k3 k4 k5 => (g4 k k4 k5).trans (by unfold ntB; rw [upd_n k3, upd_n k1, upd_n k2])
  have gq6 : q1 6 = a 6 + cc := (g4 6 (by decide) (by decide)).trans (by unfold ntB; rw [upd_n (by decide), upd_e, ])
  have gq10 : q1 10 = a 10 + 1 := (g4 10 (by decide) (by decide)).trans (by unfold ntB; rw [upd_n (by decide), upd_n (by decide), upd_e])
  have gq11 : q1 11 = a 11 + w 3 e := (g4 11 (by decide) (by decide)).trans (by unfold ntB; rw [upd_e])
  have hC' := row13_iff.mp hC
  obtain ⟨c0, c1, c2, c3, c4, c5, c6, c7, c8, c9, c10, c11, c12⟩ := hC'
  obtain ⟨hh, hh1, hh2⟩ := iX.2.2.2.2.1 e he
  obtain ⟨ss, ss1, ss2⟩ := iX.2.2.2.2.2.1 e he
  have y : ∀ n o c, (19 ≤ o ∧ o + n ≤ 194 ∨ 200 ≤ o) → row n o (w c) a → row n o (w c) q1 := fun n o c ho h => row_cg (fun _ _ => rfl) (fun k k1 k2 => gq k (by omega) (by omega) (by omega) (by omega) (by omega)) h
  by_cases hl : n < 4
  · refine ⟨sr (sr (sr r 9 (upd (w 9) e (imin 9999 (w 9 e + nI d)))) 10 (upd (w 10) e (w 10 e ||| 1))) 11 (upd (w 11) e (w 11 e + 1)), upd (upd (upd q1 (39 + e) (w 11 e + 1)) (19 + e) (imin 9999 (w 9 e + nI d))) (29 + e) (w 10 e ||| 1), ?_, ?_, ⟨?_, ?_, ?_, ?_, ?_, ?_, ?_⟩, ⟨?_, ?_, ?_, ?_, ?_, ?_⟩, ?_, ?_, ?_, ?_, ?_⟩
    · rw [if_pos hl]
      unfold fX2_warm
      simp (disch := omega) only [thn_e, st_d, sr_e, sr_n, inb_nI, ck_t, cl_nI, bnd_s, gw]
    · rw [if_pos hl]
      unfold fX12_access_L149
      simp (disch := omega) only [thn_e, st_sr, sr_e, upd_n, i39, i19, i29, inb_nI, ck_t, cl_nI, gq, x6 e he, x7 e he, x8 e he]
      rw [hh2, heat_eq hh1 hd]
      split <;> rfl
    · unfold adc
      rw [sr_e]
      refine row13_iff.mpr ?_
      simp (disch := omega) only [sr_n, sr_e, gw1, upd_n, upd_e, gq, gq6, gq10, gq11, c0, c1, c2, c3, c4, c5, c6, c7, c8, c9, c10, c11, c12, and_self]
    · unfold adc RX
      simp (disch := omega) only [sr_n, sr_e, gw]
      exact ⟨row_out (by omega) (row_out (by omega) (row_out (by omega) (y 10 109 3 (by omega) x1))), row_out (by omega) (row_out (by omega) (row_out (by omega) (y 10 69 4 (by omega) x2))), row_out (by omega) (row_out (by omega) (row_out (by omega) (y 10 59 5 (by omega) x3))), row_out (by omega) (row_out (by omega) (row_out (by omega) (y 10 79 6 (by omega) x4))), row_out (by omega) (row_out (by omega) (row_out (by omega) (y 10 340 7 (by omega) x5))), row_out (by omega) (row_set rfl (row_out (by omega) (y 10 19 9 (by omega) x6))), row_set rfl (row_out (by omega) (row_out (by omega) (y 10 29 10 (by omega) x7))), row_out (by omega) (row_out (by omega) (row_set rfl (y 10 39 11 (by omega) x8))), row_out (by omega) (row_out (by omega) (row_out (by omega) (y 10 49 12 (by omega) x9))), row_out (by omega) (row_out (by omega) (row_out (by omega) (y 10 89 13 (by omega) x10))), row_out (by omega) (row_out (by omega) (row_out (by omega) (y 10 99 14 (by omega) x11)))⟩
    · exact RD_cg (fun c hc => by unfold adc; simp (disch := omega) only [sr_n, gw]) (fun k k1 k2 => by simp (disch := omega) only [upd_n, gq]) hD
    · exact RE_cg (by unfold adc; simp (disch := omega) only [sr_n, gw]) (by unfold adc; simp (disch := omega) only [sr_n, gw]) (fun k k1 k2 => by simp (disch := omega) only [upd_n, gq]) hE
    · exact RH_cg (fun c hc => by unfold adc; simp (disch := omega) only [sr_n]) (by simp (disch := omega) only [upd_n]) (fun k k1 k2 => by simp (disch := omega) only [upd_n]) g5
    · exact RV_cg (fun c k1 k2 => by unfold adc; simp (disch := omega) only [sr_n, gw]) (by simp (disch := omega) only [upd_n, gq]) (fun k k1 k2 => by simp (disch := omega) only [upd_n, gq]) hV
    · exact RB_cg (by unfold adc; simp (disch := omega) only [sr_n, gw]) (by unfold adc; simp (disch := omega) only [sr_n, gw]) (by simp (disch := omega) only [upd_n, gq]) (fun k k1 k2 => by simp (disch := omega) only [upd_n, gq]) hB
    · unfold IX
      simp (disch := omega) only [sr_n, sr_e, gw]
      exact ⟨iX.1, iX.2.1, iX.2.2.1, iX.2.2.2.1, all_upd iX.2.2.2.2.1 (by rw [hh2]; exact heat_up hh1 hd), all_upd iX.2.2.2.2.2.1 (by rw [ss2]; exact or1_up ss (by omega)), iX.2.2.2.2.2.2⟩
    · exact ID_cg (by simp (disch := omega) only [sr_n, gw]) (by simp (disch := omega) only [sr_n, gw]) iD
    · exact IH_cg (by simp (disch := omega) only [sr_n]) (by simp (disch := omega) only [sr_n]) g6
    · exact IV_cg (by simp (disch := omega) only [sr_n, gw]) (fun c k1 k2 => by simp (disch := omega) only [sr_n, gw]) iV
    · exact IS_cg (by simp (disch := omega) only [sr_n, gw]) (by simp (disch := omega) only [sr_n, gw]) (by simp (disch := omega) only [sr_n, gw]) (by simp (disch := omega) only [sr_n, gw]) (by simp (disch := omega) only [sr_n, gw]) iS
    · exact IC_cg (fun i hi => by simp (disch := omega) only [sr_n, sr_e, gw1, upd_n]) iC
    · intro k hk
      simp (disch := omega) only [upd_n, gq]
    · intro c k1 k2
      simp (disch := omega) only [sr_n, gw]
    · simp (disch := omega) only [sr_n, sr_e, gw1, upd_n]
    · simp (disch := omega) only [sr_n, sr_e, gw1, upd_n, upd_e]
    · simp (disch := omega) only [sr_n, sr_e, gw1, upd_n, upd_e]
  · refine ⟨sr (sr r 1 (upd (r 1) 9 (r 1 9 + 1))) 12 (upd (w 12) e (w 12 e + 1)), upd (upd q1 (49 + e) (w 12 e + 1)) 12 (a 12 + 1), ?_, ?_, ⟨?_, ?_, ?_, ?_, ?_, ?_, ?_⟩, ⟨?_, ?_, ?_, ?_, ?_, ?_⟩, ?_, ?_, ?_, ?_, ?_⟩
    · rw [if_neg hl]
      simp (disch := omega) only [thn_e, st_d, sr_e, sr_n, gw]
    · rw [if_neg hl]
      simp (disch := omega) only [thn_e, st_sr, sr_e, upd_n, i49, inb_nI, ck_t, cl_nI, gq, x9 e he]
    · unfold adc
      rw [sr_e]
      refine row13_iff.mpr ?_
      simp (disch := omega) only [sr_n, sr_e, gw1, upd_n, upd_e, gq, gq6, gq10, gq11, c0, c1, c2, c3, c4, c5, c6, c7, c8, c9, c10, c11, c12, and_self]
    · unfold adc RX
      simp (disch := omega) only [sr_n, sr_e, gw]
      exact ⟨row_out (by omega) (row_out (by omega) (y 10 109 3 (by omega) x1)), row_out (by omega) (row_out (by omega) (y 10 69 4 (by omega) x2)), row_out (by omega) (row_out (by omega) (y 10 59 5 (by omega) x3)), row_out (by omega) (row_out (by omega) (y 10 79 6 (by omega) x4)), row_out (by omega) (row_out (by omega) (y 10 340 7 (by omega) x5)), row_out (by omega) (row_out (by omega) (y 10 19 9 (by omega) x6)), row_out (by omega) (row_out (by omega) (y 10 29 10 (by omega) x7)), row_out (by omega) (row_out (by omega) (y 10 39 11 (by omega) x8)), row_out (by omega) (row_set rfl (y 10 49 12 (by omega) x9)), row_out (by omega) (row_out (by omega) (y 10 89 13 (by omega) x10)), row_out (by omega) (row_out (by omega) (y 10 99 14 (by omega) x11))⟩
    · exact RD_cg (fun c hc => by unfold adc; simp (disch := omega) only [sr_n, gw]) (fun k k1 k2 => by simp (disch := omega) only [upd_n, gq]) hD
    · exact RE_cg (by unfold adc; simp (disch := omega) only [sr_n, gw]) (by unfold adc; simp (disch := omega) only [sr_n, gw]) (fun k k1 k2 => by simp (disch := omega) only [upd_n, gq]) hE
    · exact RH_cg (fun c hc => by unfold adc; simp (disch := omega) only [sr_n]) (by simp (disch := omega) only [upd_n]) (fun k k1 k2 => by simp (disch := omega) only [upd_n]) g5
    · exact RV_cg (fun c k1 k2 => by unfold adc; simp (disch := omega) only [sr_n, gw]) (by simp (disch := omega) only [upd_n, gq]) (fun k k1 k2 => by simp (disch := omega) only [upd_n, gq]) hV
    · exact RB_cg (by unfold adc; simp (disch := omega) only [sr_n, gw]) (by unfold adc; simp (disch := omega) only [sr_n, gw]) (by simp (disch := omega) only [upd_n, gq]) (fun k k1 k2 => by simp (disch := omega) only [upd_n, gq]) hB
    · unfold IX
      simp (disch := omega) only [sr_n, sr_e, gw]
      exact iX
    · exact ID_cg (by simp (disch := omega) only [sr_n, gw]) (by simp (disch := omega) only [sr_n, gw]) iD
    · exact IH_cg (by simp (disch := omega) only [sr_n]) (by simp (disch := omega) only [sr_n]) g6
    · exact IV_cg (by simp (disch := omega) only [sr_n, gw]) (fun c k1 k2 => by simp (disch := omega) only [sr_n, gw]) iV
    · exact IS_cg (by simp (disch := omega) only [sr_n, gw]) (by simp (disch := omega) only [sr_n, gw]) (by simp (disch := omega) only [sr_n, gw]) (by simp (disch := omega) only [sr_n, gw]) (by simp (disch := omega) only [sr_n, gw]) iS
    · exact IC_cg (fun i hi => by simp (disch := omega) only [sr_n, sr_e, gw1, upd_n]) iC
    · intro k hk
      simp (disch := omega) only [upd_n, gq]
    · intro c k1 k2
      simp (disch := omega) only [sr_n, gw]
    · simp (disch := omega) only [sr_n, sr_e, gw1, upd_n]
    · simp (disch := omega) only [sr_n, sr_e, gw1, upd_n, upd_e]
    · simp (disch := omega) only [sr_n, sr_e, gw1, upd_n, upd_e]
