/-! COPIES -/
def allB (z : Nat) : Int32 := (1 <<< ((nI z : Int32) &&& 31)) - 1
def tcW (w : RS) (i e : Nat) : Int32 := if w 25 i = 1 then allB (szN e) &&& (w 27 i ^^^ -1) else w 6 e
def clr (T b : Nat) : Nat := if T / 2 ^ b % 2 = 1 then T - 2 ^ b else T
def hiB (W b : Nat) : Nat := W / 2 ^ b * 2 ^ b
theorem bit_has : ∀ T, T < 16 → ∀ b, b < 5 → (((nI T >>> ((nI b : Int32) &&& 31)) &&& 1) = 1 ↔ T / 2 ^ b % 2 = 1) := by decide +kernel
theorem hasM_N : ∀ T, T < 16 → ∀ b, b < 5 → fX12_has (nI T) (nI b) = if T / 2 ^ b % 2 = 1 then 1 else 0 := by decide +kernel
theorem clr_N : ∀ T, T < 16 → ∀ b, b < 4 → nI T &&& (bb b ^^^ -1) = nI (clr T b) := by decide +kernel
theorem clr_le (T b : Nat) : clr T b ≤ T := by
  unfold clr
  split
  · exact Nat.sub_le _ _
  · exact Nat.le_refl _
theorem hiB_0 (W : Nat) : hiB W 0 = W := by unfold hiB; rw [Nat.pow_zero, Nat.div_one, Nat.mul_one]
theorem hiB_n : ∀ W, W < 16 → ∀ b, b < 4 → ¬ W / 2 ^ b % 2 = 1 → hiB W (b + 1) = hiB W b := by decide +kernel
theorem hiB_s : ∀ W, W < 16 → ∀ b, b < 4 → W / 2 ^ b % 2 = 1 → clr (hiB W b) b = hiB W (b + 1) ∧ hiB W b ≠ 0 ∧ hiB W b / 2 ^ b % 2 = 1 := by decide +kernel
theorem hiB_lo : ∀ W, W < 16 → ∀ b, b < 5 → ∀ j, j < b → ¬ hiB W b / 2 ^ j % 2 = 1 := by decide +kernel
theorem hiB_lt : ∀ W, W < 16 → ∀ b, b < 5 → hiB W b < 16 := by decide +kernel
theorem hiB_end {W z : Nat} (h : W ≤ 2 ^ z - 1) : hiB W z = 0 := by
  unfold hiB
  have : 0 < 2 ^ z := Nat.two_pow_pos z
  rw [Nat.div_eq_of_lt (by omega), Nat.zero_mul]
theorem and_bits (A c m : Int32) : A &&& ((c ||| m) ^^^ -1) = (A &&& (c ^^^ -1)) &&& (m ^^^ -1) := by
  apply Int32.toBitVec_inj.mp
  simp only [Int32.toBitVec_and, Int32.toBitVec_xor, Int32.toBitVec_or]
  apply BitVec.eq_of_getLsbD_eq
  intro i hi
  simp only [BitVec.getLsbD_and, BitVec.getLsbD_xor, BitVec.getLsbD_or]
  rw [show (Int32.toBitVec (-1)).getLsbD i = true from by
    rw [show Int32.toBitVec (-1) = BitVec.allOnes 32 from by decide, BitVec.getLsbD_allOnes]
    exact decide_eq_true hi]
  cases A.toBitVec.getLsbD i <;> cases c.toBitVec.getLsbD i <;> cases m.toBitVec.getLsbD i <;> rfl
theorem allB_and (x : Int32) {z : Nat} (h1 : 1 ≤ z) (h4 : z ≤ 4) : upto (2 ^ z - 1) (allB z &&& x) := by
  have hm : (allB z).toBitVec.toNat = 2 ^ z - 1 := by
    rcases (by omega : z = 1 ∨ z = 2 ∨ z = 3 ∨ z = 4) with h | h | h | h <;> subst h <;> decide
  obtain ⟨j, hj, e⟩ := pk_andE x z hm
  refine ⟨j, by omega, ?_⟩
  rw [Int32.and_comm]
  exact e
theorem tc_up {w : RS} {i e : Nat} (hi : IW w) (he : e < 10) : upto (2 ^ szN e - 1) (tcW w i e) := by
  unfold tcW
  split
  · exact allB_and _ (szN_le e).1 (szN_le e).2
  · exact hi.1.2.2.1 e he
theorem tcC {N : Nat} {w : RS} {a : Nat → Int32} {m i e : Nat} (h : mvI w a m i e) : fX10_blocksToCopy N (nI i) w = some (tcW w i e) := by
  obtain ⟨h1, h2, h3, h4, h5, h6, h7, h8, h9, h10, h11, h12, h13⟩ := h
  unfold fX10_blocksToCopy tcW
  rw [inb_nI (by omega) (by omega), ck_t, thn_e, cl_nI (by omega), h6]
  by_cases c : w 25 i = 1
  · rw [if_pos c, if_pos c]
    unfold fX2_allBlocks
    rw [inb_nI h5 (by omega), ck_t, bnd_s, cl_nI (by omega), sizeT_N e h5]
    rfl
  · rw [if_neg c, if_neg c, inb_nI h5 (by omega), ck_t, cl_nI (by omega)]
theorem tcM {N : Nat} {w mm : RS} {a : Nat → Int32} {m i e : Nat} (h : mvI w a m i e) (hf : bit1 (w 3 e)) (h6a : a (79 + e) = w 6 e) : fX12_toCopy N (nI i) (sr mm 1 a) = some (tcW w i e) := by
  obtain ⟨h1, h2, h3, h4, h5, h6, h7, h8, h9, h10, h11, h12, h13⟩ := h
  have q0 := @ofM N i 0 mm a (by omega) (by omega)
  have q1 := @ofM N i 1 mm a (by omega) (by omega)
  have q3 := @ofM N i 3 mm a (by omega) (by omega)
  rw [Nat.add_zero, h9] at q0
  rw [h10] at q1
  rw [h12] at q3
  have q1' : fX12_ofMove N (nI i) 1 (sr mm 1 a) = some (w 25 i) := q1
  have q0' : fX12_ofMove N (nI i) 0 (sr mm 1 a) = some (nI e) := q0
  have q3' : fX12_ofMove N (nI i) 3 (sr mm 1 a) = some (w 27 i) := q3
  unfold fX12_toCopy tcW
  rw [q0', bnd_s, q1', bnd_s]
  rcases hf with c | c
  · have h25 : w 25 i = 1 := by rw [h7, c]; rfl
    rw [h25, if_neg (by decide), if_pos rfl, q3', bnd_s, sizeM_N e h5]
    rfl
  · have h25 : w 25 i = 0 := by rw [h7, c]; rfl
    rw [h25, if_pos rfl, if_neg (by decide), i79, inb_nI (by omega) (by omega), ck_t, cl_nI (by omega), sr_e, h6a]
def adj (w : RS) (c d : Int32) : RS := sr w 1 (upd (upd (w 1) 10 (w 1 10 + c)) 3 (w 1 3 + d))
theorem adj_n {w : RS} {c d : Int32} {k : Nat} (h : k ≠ 1) : adj w c d k = w k := sr_n h
theorem mv_adj {w : RS} {a : Nat → Int32} {m i e : Nat} {c d : Int32} : mvI (adj w c d) a m i e ↔ mvI w a m i e := by
  unfold mvI
  rw [adj_n (by decide), adj_n (by decide), adj_n (by decide), adj_n (by decide), adj_n (by decide), adj_n (by decide)]
theorem tc_adj {w : RS} {i e : Nat} {c d : Int32} : tcW (adj w c d) i e = tcW w i e := by
  unfold tcW
  rw [adj_n (by decide), adj_n (by decide), adj_n (by decide)]
theorem mv_slot {w : RS} {a : Nat → Int32} {m i e b : Nat} (hi : IW w) (h : mvI w a m i e) (hb : w 26 i = 1) (hbz : b < szN e) : ∃ s, s < 9 ∧ w 18 (stN e + b) = nI s := by
  obtain ⟨h1, h2, h3, h4, h5, h6, h7, h8, h9, h10, h11, h12, h13⟩ := h
  rcases hi.2.1.1 (stN e + b) (stN_lt h5 hbz) with q | ⟨s, hs, q, -⟩
  · exact absurd q ((hi.2.2.2.2.1 e h5 b hbz).mpr ((HSl_iff h2 h1).mpr (Or.inr ⟨i, h4, h6, hb⟩)))
  · exact ⟨s, hs, q⟩
/-- the reference finds the lowest block that is to be copied -/
theorem copyM_find {N : Nat} {w mm : RS} {a : Nat → Int32} {m i e b T : Nat} (h : mvI w a m i e) (hf : bit1 (w 3 e)) (h6a : a (79 + e) = w 6 e) (hb4 : b < 4) (hT : T < 16) (eT : tcW w i e = nI T) (hlo : ∀ j, j < b → ¬ T / 2 ^ j % 2 = 1) :
    ∀ d j k, b - j = d → j ≤ b → d < k → fX12_copyBlock_L9 N (nI i) k (nI e) (nI j) (sr mm 1 a) = fX12_copyBlock_L9 N (nI i) (k - d) (nI e) (nI b) (sr mm 1 a) := by
  intro d
  induction d with
  | zero =>
    intro j k h1 h2 h3
    rw [show j = b from by omega]
    rfl
  | succ d ih =>
    intro j k h1 h2 h3
    obtain ⟨k, rfl⟩ : ∃ q, k = q + 1 := ⟨k - 1, by omega⟩
    have e1 : fX12_copyBlock_L9 N (nI i) (k + 1) (nI e) (nI j) (sr mm 1 a) = fX12_copyBlock_L9 N (nI i) k (nI e) (nI j + 1) (sr mm 1 a) := by
      have e2 : fX12_has (nI T) (nI j) = 0 := by rw [hasM_N T hT j (by omega), if_neg (hlo j (by omega))]
      rw [fX12_copyBlock_L9, tcM h hf h6a, bnd_s, eT, if_pos e2]
    rw [e1, j1, ih (j + 1) k (by omega) (by omega) (by omega), show k + 1 - (d + 1) = k - d from by omega]
theorem RW_we {w w' : RS} {a : Nat → Int32} (h : w = w') (g : RW w a) : RW w' a := h ▸ g
theorem rs_ext {w w' : RS} (h : ∀ r k, w r k = w' r k) : w = w' := by funext r k; exact h r k
/-- one block is copied -/
theorem copy_1 {N : Nat} (hN : 97 ≤ N) {w mm : RS} {a : Nat → Int32} {m i e b T : Nat} {c d : Int32} (hr : RW (adj w c d) a) (hi : IW w) (h : mvI w a m i e) (hbg : w 26 i = 1) (hb : b < szN e) (hT : T < 16) (eT : tcW w i e = nI T) (hlo : ∀ j, j < b → ¬ T / 2 ^ j % 2 = 1) (hbit : T / 2 ^ b % 2 = 1) :
    ∃ w' a', fX10_copyBlock N (nI i) (nI e) (nI b) w = some w' ∧ fX12_copyBlock N (nI i) (sr mm 1 a) = some (sr mm 1 a') ∧ RW (adj w' (c + 1) (d + 9)) a' ∧ IW w' ∧ FA a a' ∧ tcW w' i e = nI (clr T b) ∧ w' 1 = w 1 ∧ w' 3 = w 3 ∧ (∀ r, 18 ≤ r → r ≤ 26 → w' r = w r) ∧ mvI w' a' m i e := by
  obtain ⟨s, hs, es⟩ := mv_slot hi h hbg hb
  have h' := h
  obtain ⟨h1, h2, h3, h4, h5, h6, h7, h8, h9, h10, h11, h12, h13⟩ := h
  have hz := szN_le e
  have hp : stN e + b < 23 := stN_lt h5 hb
  have hf := hi.1.1 e h5
  have e6 : a (79 + e) = w 6 e := (hr.2.1.2.2.2.1 e h5).trans (by rw [adj_n (by decide)])
  have e16 : a (162 + (stN e + b)) = w 16 (stN e + b) := (hr.2.2.1.1 _ hp).trans (by rw [adj_n (by decide)])
  have e18 : a (139 + (stN e + b)) = nI s := (hr.2.2.1.2.1 _ hp).trans (by rw [adj_n (by decide)]; exact es)
  have e17 : a (185 + s) = w 17 s := (hr.2.2.1.2.2 _ hs).trans (by rw [adj_n (by decide)])
  have hC := row13_iff.mp hr.1
  have c6 : a 6 = w 1 3 + d := hC.2.2.2.1.trans (by unfold adj; rw [sr_e, upd_e])
  have c13 : a 13 = w 1 10 + c := hC.2.2.2.2.2.2.2.2.2.2.1.trans (by unfold adj; rw [sr_e, upd_n (by decide), upd_e])
  have q1 := fun a1 => @ofM N i 1 mm a1 (by omega) (by omega)
  have hM : fX12_copyBlock N (nI i) (sr mm 1 a) = fX12_copyBlock_L9 N (nI i) (N - b) (nI e) (nI b) (sr mm 1 a) := by
    have q0 := @ofM N i 0 mm a (by omega) (by omega)
    rw [Nat.add_zero, h9] at q0
    have q0' : fX12_ofMove N (nI i) 0 (sr mm 1 a) = some (nI e) := q0
    unfold fX12_copyBlock
    rw [q0', bnd_s]
    exact copyM_find h' hf e6 (by omega) hT eT hlo b 0 N (by omega) (by omega) (by omega)
  obtain ⟨k, hk⟩ : ∃ q, N - b = q + 1 := ⟨N - b - 1, by omega⟩
  rw [hk] at hM
  have hh : fX12_has (nI T) (nI b) = 1 := by rw [hasM_N T hT b (by omega), if_pos hbit]
  have q1a := q1 a
  rw [h10] at q1a
  have q1' : fX12_ofMove N (nI i) 1 (sr mm 1 a) = some (w 25 i) := q1a
  rcases hf with hf | hf
  · have h25 : w 25 i = 1 := by rw [h7, hf]; rfl
    refine ⟨sr (sr w 17 (upd (w 17) s (w 16 (stN e + b)))) 27 (upd (w 27) i (w 27 i ||| bb b)), upd (upd (upd (upd a (185 + s) (w 16 (stN e + b))) (203 + 4 * i) (w 27 i ||| bb b)) 6 (w 1 3 + d + 9)) 13 (w 1 10 + c + 1), ?_, ?_, ?_, ?_, ?_, ?_, ?_, ?_, ?_, ?_⟩
    · unfold fX10_copyBlock
      rw [inb_nI h5 (by omega), ck_t, thn_e, cl_nI (n := e) (by omega), startT_N e h5, nI_add, inb_nI (i := i) (by omega) (by omega), ck_t, cl_nI (n := i) (by omega), h25, if_pos rfl, inb_nI hp (by omega), ck_t, cl_nI (by omega), putFast_ok hp hs es, bnd_s, thn_e, st_d, sr_n (by decide)]
      rfl
    · rw [hM, fX12_copyBlock_L9, tcM h' (Or.inl hf) e6, bnd_s, eT, hh, if_neg (by decide), firstM_N e h5, i162, nI_add, thn_e]
      unfold fX12_slotOf
      rw [firstM_N e h5, i139, nI_add, inb_nI (by omega) (by omega), ck_t, cl_nI (by omega), sr_e, Nat.add_assoc, e18, bnd_s, i185, thn_e, q1', bnd_s, h25, if_pos rfl, inb_nI (by omega) (by omega), ck_t, inb_nI (by omega) (by omega), ck_t, thn_e, cl_nI (by omega), cl_nI (by omega), st_sr, Nat.add_assoc, e16, m4, i200, j3, inb_nI (by omega) (by omega), ck_t, thn_e, cl_nI (by omega), st_sr, sr_e, upd_n (by omega), h12]
      unfold fX12_copyBlock_L129
      rw [thn_e, st_sr, sr_e, thn_e, st_sr, sr_e, upd_n (by omega), upd_n (by omega), c6, upd_n (by omega), upd_n (by omega), upd_n (by omega), c13, show 200 + 4 * i + 3 = 203 + 4 * i from by omega]
      rfl
    · have g1 := RW_s17 (i := s) (x := w 16 (stN e + b)) hs hr
      have g2 := RW_s27 (i := i) (m := m) (x := w 27 i ||| bb b) (by rw [sr_n (by decide), adj_n (by decide)]; exact h2) h1 h4 g1
      have g3 := RW_s1 (i := 3) (x := w 1 3 + d + 9) (by decide) g2
      have g4 := RW_s1 (i := 10) (x := w 1 10 + c + 1) (by decide) g3
      refine RW_we ?_ g4
      unfold adj
      apply rs_ext
      intro r k
      by_cases r1 : r = 1
      · subst r1
        simp (disch := omega) only [sr_e, sr_n]
        by_cases k3 : k = 3
        · subst k3
          simp (disch := omega) only [upd_e, upd_n]
          grind
        · by_cases k10 : k = 10
          · subst k10
            simp (disch := omega) only [upd_e, upd_n]
            grind
          · simp (disch := omega) only [upd_n]
      · by_cases r27 : r = 27
        · subst r27
          simp (disch := omega) only [sr_e, sr_n]
        · by_cases r17 : r = 17
          · subst r17
            simp (disch := omega) only [sr_e, sr_n]
          · simp (disch := omega) only [sr_n]
    · exact IW_cg hi (fun r hr => by rw [sr_n (by omega), sr_n (by omega)]) (fun j _ => by rw [sr_n (by decide), sr_n (by decide)])
    · intro q hq
      rw [upd_n (by omega), upd_n (by omega), upd_n (by omega), upd_n (by omega)]
    · unfold tcW at eT ⊢
      rw [if_pos h25] at eT
      rw [sr_n (by decide), sr_n (by decide), if_pos h25, sr_e, upd_e, and_bits, eT]
      exact clr_N T hT b (by omega)
    · rw [sr_n (by decide), sr_n (by decide)]
    · rw [sr_n (by decide), sr_n (by decide)]
    · intro r r1 r2
      rw [sr_n (by omega), sr_n (by omega)]
    · unfold mvI
      simp (disch := omega) only [sr_n, sr_e, upd_n]
      refine ⟨h1, h2, h3, h4, h5, h6, h7, h8, h9, h10, h11, ?_, h13⟩
      rw [show 200 + 4 * i + 3 = 203 + 4 * i from by omega, upd_e, upd_e]
  · have h25 : w 25 i = 0 := by rw [h7, hf]; rfl
    have eW : w 6 e = nI T := by
      unfold tcW at eT
      rw [if_neg (by rw [h25]; decide)] at eT
      exact eT
    refine ⟨sr (sr w 16 (upd (w 16) (stN e + b) (w 17 s))) 6 (upd (w 6) e (w 6 e &&& (bb b ^^^ -1))), upd (upd (upd (upd a (162 + (stN e + b)) (w 17 s)) (79 + e) (w 6 e &&& (bb b ^^^ -1))) 6 (w 1 3 + d + 9)) 13 (w 1 10 + c + 1), ?_, ?_, ?_, ?_, ?_, ?_, ?_, ?_, ?_, ?_⟩
    · unfold fX10_copyBlock
      rw [inb_nI h5 (by omega), ck_t, thn_e, cl_nI (n := e) (by omega), startT_N e h5, nI_add, inb_nI (i := i) (by omega) (by omega), ck_t, cl_nI (n := i) (by omega), h25, if_neg (by decide), fastAt_ok hp hs es, bnd_s, inb_nI hp (by omega), ck_t, thn_e, cl_nI (by omega), thn_e, st_d, st_d, sr_n (by decide)]
      rfl
    · rw [hM, fX12_copyBlock_L9, tcM h' (Or.inr hf) e6, bnd_s, eT, hh, if_neg (by decide), firstM_N e h5, i162, nI_add, thn_e]
      unfold fX12_slotOf
      rw [firstM_N e h5, i139, nI_add, inb_nI (by omega) (by omega), ck_t, cl_nI (by omega), sr_e, Nat.add_assoc, e18, bnd_s, i185, thn_e, q1', bnd_s, h25, if_neg (by decide), inb_nI (by omega) (by omega), ck_t, inb_nI (by omega) (by omega), ck_t, thn_e, cl_nI (by omega), cl_nI (by omega), st_sr, Nat.add_assoc, e17, i79, inb_nI (by omega) (by omega), ck_t, thn_e, cl_nI (by omega), st_sr, sr_e, upd_n (by omega), e6]
      unfold fX12_copyBlock_L129
      rw [thn_e, st_sr, sr_e, thn_e, st_sr, sr_e, upd_n (by omega), upd_n (by omega), c6, upd_n (by omega), upd_n (by omega), upd_n (by omega), c13]
      rfl
    · have g1 := RW_s16 (i := stN e + b) (x := w 17 s) hp hr
      have g2 := RW_s6 (i := e) (x := w 6 e &&& (bb b ^^^ -1)) h5 g1
      have g3 := RW_s1 (i := 3) (x := w 1 3 + d + 9) (by decide) g2
      have g4 := RW_s1 (i := 10) (x := w 1 10 + c + 1) (by decide) g3
      refine RW_we ?_ g4
      unfold adj
      apply rs_ext
      intro r k
      by_cases r1 : r = 1
      · subst r1
        simp (disch := omega) only [sr_e, sr_n]
        by_cases k3 : k = 3
        · subst k3
          simp (disch := omega) only [upd_e, upd_n]
          grind
        · by_cases k10 : k = 10
          · subst k10
            simp (disch := omega) only [upd_e, upd_n]
            grind
          · simp (disch := omega) only [upd_n]
      · by_cases r27 : r = 6
        · subst r27
          simp (disch := omega) only [sr_e, sr_n]
        · by_cases r17 : r = 16
          · subst r17
            simp (disch := omega) only [sr_e, sr_n]
          · simp (disch := omega) only [sr_n]
    · obtain ⟨iX, iD, iH, iV, iS, iC⟩ := hi
      refine ⟨?_, ID_cg ?_ ?_ iD, IH_cg ?_ ?_ iH, IV_cg ?_ (fun r k1 k2 => ?_) iV, IS_cg ?_ ?_ ?_ ?_ ?_ iS, IC_cg (fun i hi => ?_) iC⟩
      · obtain ⟨z1, z2, z3, z4, z5⟩ := iX
        unfold IX
        simp (disch := omega) only [sr_n, sr_e]
        refine ⟨z1, z2, fun f hf2 => ?_, fun f hf2 h0 => ?_, z5⟩
        · by_cases q : f = e
          · subst q
            rw [upd_e, eW, clr_N T hT b (by omega)]
            obtain ⟨T', hT', eT'⟩ := z3 f h5
            have : T' = T := (eq_nI (by have := @p2_le f; omega) (by omega)).mp (eT'.symm.trans eW)
            subst this
            exact ⟨_, Nat.le_trans (clr_le _ _) hT', rfl⟩
          · rw [upd_n q]
            exact z3 f hf2
        · by_cases q : f = e
          · subst q
            rw [hf] at h0
            exact absurd h0 (by decide)
          · rw [upd_n q]
            exact z4 f hf2 h0
      all_goals simp (disch := omega) only [sr_n]
    · intro q hq
      rw [upd_n (by omega), upd_n (by omega), upd_n (by omega), upd_n (by omega)]
    · unfold tcW
      rw [sr_n (by decide), sr_n (by decide), if_neg (by rw [h25]; decide), sr_e, upd_e, eW]
      exact clr_N T hT b (by omega)
    · rw [sr_n (by decide), sr_n (by decide)]
    · rw [sr_n (by decide), sr_n (by decide)]
    · intro r r1 r2
      rw [sr_n (by omega), sr_n (by omega)]
    · unfold mvI
      simp (disch := omega) only [sr_n, sr_e, upd_n]
      exact ⟨h1, h2, h3, h4, h5, h6, h7, h8, h9, h10, h11, h12, h13⟩
