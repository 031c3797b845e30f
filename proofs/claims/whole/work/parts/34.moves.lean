/-! MOVES: found, out, new */ -/
/-- the first i < m with f i = x, or -1 -/
def firstI (f : Nat → Int32) (m : Nat) (x r : Int32) : Prop := (∃ i, i < m ∧ f i = x ∧ (∀ j, j < i → f j ≠ x) ∧ r = nI i) ∨ ((∀ i, i < m → f i ≠ x) ∧ r = -1)
theorem find_ok {N m : Nat} (hN : 11 ≤ N) (hm : m ≤ 10) {w : RS} (h : w 23 0 = nI m) (x : Int32) : ok (fX5_find N x w) fun r => firstI (w 24) m x r := by
  have key : ∀ d i k, m - i = d → i ≤ m → d < k → (∀ j, j < i → w 24 j ≠ x) → ok (fX5_find_L2 N x w k (nI i)) fun r => firstI (w 24) m x r := by
    intro d
    induction d with
    | zero =>
      intro i k h1 h2 h3 h4
      obtain ⟨k, rfl⟩ : ∃ j, k = j + 1 := ⟨k - 1, by omega⟩
      have : i = m := by omega
      subst this
      show ok (if w 23 0 ≤ nI i then _ else _) _
      rw [h, if_pos (nI_le (Nat.le_refl _) (by omega))]
      exact ok_some.mpr (Or.inr ⟨h4, rfl⟩)
    | succ d ih =>
      intro i k h1 h2 h3 h4
      obtain ⟨k, rfl⟩ : ∃ j, k = j + 1 := ⟨k - 1, by omega⟩
      show ok (if w 23 0 ≤ nI i then _ else _) _
      rw [h, if_neg (nI_ge (by omega) (by omega)), inb_nI (by omega) (by omega), ck_t, cl_nI (by omega), j1]
      by_cases e : w 24 i = x
      · rw [if_pos e]
        exact ok_some.mpr (Or.inl ⟨i, by omega, e, h4, rfl⟩)
      · rw [if_neg e]
        exact ih (i + 1) k (by omega) (by omega) (by omega) fun j hj => by
          by_cases q : j = i
          · subst q; exact e
          · exact h4 j (by omega)
  exact key m 0 N rfl (by omega) (by omega) (fun j hj => absurd hj (by omega))
theorem findM_ok {N m : Nat} (hN : 11 ≤ N) (hm : m ≤ 10) {mm : RS} {a : Nat → Int32} (h : a 17 = nI m) (x : Int32) : ok (fX12_moveAt N x (sr mm 1 a)) fun r => firstI (fun i => a (200 + 4 * i)) m x r := by
  have key : ∀ d i k, m - i = d → i ≤ m → d < k → (∀ j, j < i → a (200 + 4 * j) ≠ x) → ok (fX12_moveAt_L2 N x (sr mm 1 a) k (nI i)) fun r => firstI (fun i => a (200 + 4 * i)) m x r := by
    intro d
    induction d with
    | zero =>
      intro i k h1 h2 h3 h4
      obtain ⟨k, rfl⟩ : ∃ j, k = j + 1 := ⟨k - 1, by omega⟩
      have : i = m := by omega
      subst this
      show ok (if sr mm 1 a 1 17 ≤ nI i then _ else _) _
      rw [sr_e, h, if_pos (nI_le (Nat.le_refl _) (by omega))]
      exact ok_some.mpr (Or.inr ⟨h4, rfl⟩)
    | succ d ih =>
      intro i k h1 h2 h3 h4
      obtain ⟨k, rfl⟩ : ∃ j, k = j + 1 := ⟨k - 1, by omega⟩
      show ok (if sr mm 1 a 1 17 ≤ nI i then _ else _) _
      rw [sr_e, h, if_neg (nI_ge (by omega) (by omega)), m4, i200, inb_nI (by omega) (by omega), ck_t, cl_nI (by omega), j1]
      by_cases e : a (200 + 4 * i) = x
      · rw [if_pos e]
        exact ok_some.mpr (Or.inl ⟨i, by omega, e, h4, rfl⟩)
      · rw [if_neg e]
        exact ih (i + 1) k (by omega) (by omega) (by omega) fun j hj => by
          by_cases q : j = i
          · subst q; exact e
          · exact h4 j (by omega)
  exact key m 0 N rfl (by omega) (by omega) (fun j hj => absurd hj (by omega))
theorem firstI_eq {f g : Nat → Int32} {m : Nat} {x r q : Int32} (hfg : ∀ i, i < m → g i = f i) (h1 : firstI f m x r) (h2 : firstI g m x q) : q = r := by
  rcases h1 with ⟨i, hi, e, hl, rfl⟩ | ⟨h, rfl⟩
  · rcases h2 with ⟨j, hj, e2, hl2, rfl⟩ | ⟨h2, rfl⟩
    · rcases Nat.lt_trichotomy i j with c | c | c
      · exact absurd ((hfg i hi).trans e) (hl2 i c)
      · rw [c]
      · exact absurd ((hfg j hj).symm.trans e2) (hl j c)
    · exact absurd ((hfg i hi).trans e) (h2 i hi)
  · rcases h2 with ⟨j, hj, e2, hl2, rfl⟩ | ⟨h2, rfl⟩
    · exact absurd ((hfg j hj).symm.trans e2) (h j hj)
    · rfl
/-! a move is out -/
def rm (f : Nat → Int32) (i : Nat) : Nat → Int32 := fun j => if j < i then f j else f (j + 1)
def rmW (w : RS) (m i : Nat) : RS := sr (sr (sr (sr (sr w 23 (upd (w 23) 0 (nI (m - 1)))) 24 (va_cpy (w 24) (w 24) (i + 1) i (m - 1 - i))) 25 (va_cpy (w 25) (w 25) (i + 1) i (m - 1 - i))) 26 (va_cpy (w 26) (w 26) (i + 1) i (m - 1 - i))) 27 (va_cpy (w 27) (w 27) (i + 1) i (m - 1 - i))
theorem acp_nI {s d n a b : Nat} (h1 : s + n ≤ a) (h2 : d + n ≤ b) (ha : a < 2147483648) (hb : b < 2147483648) : acp (nI s) (nI d) (nI n) a b = true := by
  unfold acp
  rw [cl_nI (by omega), cl_nI (by omega), cl_nI (by omega)]
  exact decide_eq_true ⟨nI_pos (by omega), nI_pos (by omega), nI_pos (by omega), h1, h2⟩
theorem remove_ok {N m i : Nat} (hi : i < m) (hm : m ≤ 10) {w : RS} (h : w 23 0 = nI m) : fX5_remove N (nI i) w = some (rmW w m i) := by
  unfold fX5_remove
  rw [if_neg (nI_pos (by omega)), h, if_neg (nI_ge hi (by omega))]
  simp (disch := omega) only [thn_e, st_d, sr_e, sr_n, upd_e, h, s1, j1, sub_nI, acp_nI, ck_t, cl_nI]
  rfl
theorem rm_cpy {f : Nat → Int32} {m i : Nat} (hi : i < m) : ∀ j, j < m - 1 → va_cpy f f (i + 1) i (m - 1 - i) j = rm f i j := fun j hj => by
  unfold va_cpy rm
  by_cases q : j < i
  · rw [if_pos q, if_neg (by omega)]
  · rw [if_neg q, if_pos (by omega), show i + 1 + (j - i) = j + 1 from by omega]
def outA (a : Nat → Int32) (m i : Nat) : Nat → Int32 := upd (upd (upd (upd (upd (shl a (200 + 4 * i) (196 + 4 * m) 4) 17 (nI (m - 1))) (200 + 4 * (m - 1) + 0) 0) (200 + 4 * (m - 1) + 1) 0) (200 + 4 * (m - 1) + 2) 0) (200 + 4 * (m - 1) + 3) 0
theorem outM_Z {N m i : Nat} (hN : 5 ≤ N) (hm : m ≤ 10) {mm : RS} {a : Nat → Int32} (h : a 17 = nI m) : fX12_outMove_L60 N (nI i) N 0 (sr mm 1 a) = some (sr mm 1 (upd (upd (upd (upd a (200 + 4 * m + 0) 0) (200 + 4 * m + 1) 0) (200 + 4 * m + 2) 0) (200 + 4 * m + 3) 0)) := by
  obtain ⟨k, rfl⟩ : ∃ k, N = k + 5 := ⟨N - 5, by omega⟩
  have e0 : (0 : Int32) = nI 0 := rfl
  have e4 : (4 : Int32) = nI 4 := rfl
  rw [show fX12_outMove_L60 (k + 5) (nI i) (k + 5) 0 (sr mm 1 a) = fX12_outMove_L60 (k + 5) (nI i) (k + 5) (nI 0) (sr mm 1 a) from rfl]
  simp (disch := omega) only [fX12_outMove_L60, le_4, m4, i200, st_sr, sr_e, h, upd_n, nI_add, j1, inb_nI, ck_t, cl_nI, thn_e, if_neg, Nat.reduceLeDiff, if_false, if_true, Nat.reduceAdd]
theorem outM_ok {N m i : Nat} (hN : 50 ≤ N) (hi : i < m) (hm : m ≤ 10) {mm : RS} {a : Nat → Int32} (h : a 17 = nI m) : fX12_outMove N (nI i) (sr mm 1 a) = some (sr mm 1 (outA a m i)) := by
  have key : ∀ d j k, 196 + 4 * m - j = d → 200 + 4 * i ≤ j → j ≤ 196 + 4 * m → d < k → fX12_outMove_L8 N (nI i) k (nI j) (sr mm 1 (shl a (200 + 4 * i) j 4)) = some (sr mm 1 (outA a m i)) := by
    intro d
    induction d with
    | zero =>
      intro j k h1 h0 h2 h3
      obtain ⟨k, rfl⟩ : ∃ j, k = j + 1 := ⟨k - 1, by omega⟩
      have : j = 196 + 4 * m := by omega
      subst this
      have e17 : shl a (200 + 4 * i) (196 + 4 * m) 4 17 = nI m := (if_neg (by omega)).trans h
      show (if (200 + 4 * sr mm 1 (shl a (200 + 4 * i) (196 + 4 * m) 4) 1 17) - 4 ≤ nI (196 + 4 * m) then _ else _) = _
      rw [sr_e, e17, m4, i200, s4 (by omega), if_pos (nI_le (by omega) (by omega)), thn_e, st_sr, s1 (by omega), outM_Z (m := m - 1) (by omega) (by omega) (by rw [upd_e])]
      rfl
    | succ d ih =>
      intro j k h1 h0 h2 h3
      obtain ⟨k, rfl⟩ : ∃ j, k = j + 1 := ⟨k - 1, by omega⟩
      have e17 : shl a (200 + 4 * i) j 4 17 = nI m := (if_neg (by omega)).trans h
      show (if (200 + 4 * sr mm 1 (shl a (200 + 4 * i) j 4) 1 17) - 4 ≤ nI j then _ else _) = _
      rw [sr_e, e17, m4, i200, s4 (by omega), if_neg (nI_ge (by omega) (by omega))]
      simp (disch := omega) only [thn_e, ck_t, st_sr, sr_e, j4, j1, inb_nI, cl_nI]
      rw [shl_s h0 (by decide)]
      exact ih (j + 1) k (by omega) (by omega) (by omega) (by omega)
  have := key (196 + 4 * m - (200 + 4 * i)) (200 + 4 * i) N rfl (by omega) (by omega) (by omega)
  rw [shl_0] at this
  show thn (200 + 4 * nI i) _ = _
  rw [thn_e, m4, i200]
  exact this
theorem outA_at {a : Nat → Int32} {m i : Nat} (hi : i < m) (c : Nat) (hc : c < 4) : ∀ j, j < m - 1 → outA a m i (200 + c + 4 * j) = rm (fun j => a (200 + c + 4 * j)) i j := fun j hj => by
  unfold outA
  rw [upd_n (by omega), upd_n (by omega), upd_n (by omega), upd_n (by omega), upd_n (by omega)]
  unfold shl rm
  by_cases q : j < i
  · rw [if_neg (by omega), if_pos q]
  · rw [if_pos (by omega), if_neg q]
    exact congrArg a (by omega)
theorem outA_17 {a : Nat → Int32} {m i : Nat} : outA a m i 17 = nI (m - 1) := by
  unfold outA
  rw [upd_n (by omega), upd_n (by omega), upd_n (by omega), upd_n (by omega), upd_e]
theorem outA_out {a : Nat → Int32} {m i k : Nat} (hm : m ≤ 10) (hi : i < m) (h : k ≠ 17) (h2 : k < 200 ∨ 240 ≤ k) : outA a m i k = a k := by
  unfold outA
  rw [upd_n (by omega), upd_n (by omega), upd_n (by omega), upd_n (by omega), upd_n h]
  exact if_neg (by omega)
theorem out_RV {w : RS} {a : Nat → Int32} {m i : Nat} (hm : m ≤ 10) (hi : i < m) (h4 : rws m 200 4 (w 24) a) (h5 : rws m 201 4 (w 25) a) (h6 : rws m 202 4 (w 26) a) (h7 : rws m 203 4 (w 27) a) : RV (rmW w m i) (outA a m i) := by
  refine ⟨m - 1, by omega, ?_, outA_17, ?_, ?_, ?_, ?_⟩
  · unfold rmW
    simp (disch := omega) only [sr_e, sr_n, upd_e]
  · intro j hj
    refine (outA_at hi 0 (by omega) j hj).trans ?_
    rw [show rmW w m i 24 = va_cpy (w 24) (w 24) (i + 1) i (m - 1 - i) from by unfold rmW; simp (disch := omega) only [sr_e, sr_n], rm_cpy hi j hj]
    unfold rm
    split
    · exact h4 j (by omega)
    · exact h4 (j + 1) (by omega)
  · intro j hj
    refine (outA_at hi 1 (by omega) j hj).trans ?_
    rw [show rmW w m i 25 = va_cpy (w 25) (w 25) (i + 1) i (m - 1 - i) from by unfold rmW; simp (disch := omega) only [sr_e, sr_n], rm_cpy hi j hj]
    unfold rm
    split
    · exact h5 j (by omega)
    · exact h5 (j + 1) (by omega)
  · intro j hj
    refine (outA_at hi 2 (by omega) j hj).trans ?_
    rw [show rmW w m i 26 = va_cpy (w 26) (w 26) (i + 1) i (m - 1 - i) from by unfold rmW; simp (disch := omega) only [sr_e, sr_n], rm_cpy hi j hj]
    unfold rm
    split
    · exact h6 j (by omega)
    · exact h6 (j + 1) (by omega)
  · intro j hj
    refine (outA_at hi 3 (by omega) j hj).trans ?_
    rw [show rmW w m i 27 = va_cpy (w 27) (w 27) (i + 1) i (m - 1 - i) from by unfold rmW; simp (disch := omega) only [sr_e, sr_n], rm_cpy hi j hj]
    unfold rm
    split
    · exact h7 j (by omega)
    · exact h7 (j + 1) (by omega)
theorem rmW_at {w : RS} {m i : Nat} (hi : i < m) : (∀ j, j < m - 1 → rmW w m i 24 j = rm (w 24) i j) ∧ (∀ j, j < m - 1 → rmW w m i 25 j = rm (w 25) i j) ∧ (∀ j, j < m - 1 → rmW w m i 26 j = rm (w 26) i j) ∧ rmW w m i 23 0 = nI (m - 1) := by
  refine ⟨fun j hj => ?_, fun j hj => ?_, fun j hj => ?_, ?_⟩
  · rw [show rmW w m i 24 = va_cpy (w 24) (w 24) (i + 1) i (m - 1 - i) from by unfold rmW; simp (disch := omega) only [sr_e, sr_n], rm_cpy hi j hj]
  · rw [show rmW w m i 25 = va_cpy (w 25) (w 25) (i + 1) i (m - 1 - i) from by unfold rmW; simp (disch := omega) only [sr_e, sr_n], rm_cpy hi j hj]
  · rw [show rmW w m i 26 = va_cpy (w 26) (w 26) (i + 1) i (m - 1 - i) from by unfold rmW; simp (disch := omega) only [sr_e, sr_n], rm_cpy hi j hj]
  · unfold rmW
    simp (disch := omega) only [sr_e, sr_n, upd_e]
theorem rmW_out {w : RS} {m i c : Nat} (h : c < 23 ∨ 27 < c) : rmW w m i c = w c := by
  unfold rmW
  simp (disch := omega) only [sr_n]
/-! a new move is the last -/
def adW (w : RS) (m : Nat) (e d : Int32) : RS := sr (sr (sr (sr (sr w 24 (upd (w 24) m e)) 25 (upd (w 25) m d)) 26 (upd (w 26) m 0)) 27 (upd (w 27) m 0)) 23 (upd (w 23) 0 (nI (m + 1)))
theorem add_ok {N m : Nat} (hm : m < 10) {w : RS} (h : w 23 0 = nI m) (e d : Int32) : fX5_add N e d w = some (adW w m e d) := by
  unfold fX5_add
  rw [h, if_neg (show ¬ (10 : Int32) ≤ nI m from fun q => absurd ((le_10 (by omega)).mp q) (by omega))]
  simp (disch := omega) only [thn_e, st_d, sr_e, sr_n, sr_sr, upd_e, h, j1, ck_t, cl_nI, inb_nI]
  rfl
def adA (a : Nat → Int32) (m : Nat) (e d : Int32) : Nat → Int32 := upd (upd (upd (upd (upd a (200 + 4 * m) e) (200 + 4 * m + 1) d) (200 + 4 * m + 2) 0) (200 + 4 * m + 3) 0) 17 (nI (m + 1))
theorem addM_ok {N m e : Nat} (hm : m < 10) (he : e < 10) {mm : RS} {a : Nat → Int32} (h : a 17 = nI m) (hf : bit1 (a (109 + e))) : fX12_addMove N (nI e) (sr mm 1 a) = some (sr mm 1 (adA a m (nI e) (1 - a (109 + e)))) := by
  unfold fX12_addMove fX12_isFast
  simp (disch := omega) only [thn_e, sr_e, h, m4, i200, inb_nI, ck_t, cl_nI, st_sr, i109, upd_n]
  rcases hf with hf | hf
  · rw [hf, if_neg (by decide), bnd_s, if_pos rfl]
    unfold fX12_addMove_L41
    simp (disch := omega) only [thn_e, sr_e, h, j1, j2, j3, inb_nI, ck_t, cl_nI, st_sr, upd_n, upd_e]
    rfl
  · rw [hf, if_pos rfl, bnd_s, if_neg (by decide)]
    unfold fX12_addMove_L41
    simp (disch := omega) only [thn_e, sr_e, h, j1, j2, j3, inb_nI, ck_t, cl_nI, st_sr, upd_n, upd_e]
    rfl
theorem rws_grow {n o s k : Nat} {f a : Nat → Int32} {x : Int32} (hs : 0 < s) (hk : k = o + s * n) (h : rws n o s f a) : rws (n + 1) o s (upd f n x) (upd a k x) := fun j hj => by
  subst hk
  by_cases e : j = n
  · subst e; rw [upd_e, upd_e]
  · rw [upd_n e, upd_n (fun q => e (Nat.eq_of_mul_eq_mul_left hs (by omega)))]; exact h j (by omega)
theorem add_RV {w : RS} {a : Nat → Int32} {m : Nat} (hm : m < 10) (e d : Int32) (h4 : rws m 200 4 (w 24) a) (h5 : rws m 201 4 (w 25) a) (h6 : rws m 202 4 (w 26) a) (h7 : rws m 203 4 (w 27) a) : RV (adW w m e d) (adA a m e d) := by
  unfold adW adA
  refine ⟨m + 1, by omega, ?_, ?_, ?_, ?_, ?_, ?_⟩
  · simp (disch := omega) only [sr_e, sr_n, upd_e]
  · rw [upd_e]
  · simp (disch := omega) only [sr_e, sr_n]
    exact rws_out (by omega) (rws_out (by omega) (rws_out (by omega) (rws_out (by omega) (rws_grow (by omega) rfl h4))))
  · simp (disch := omega) only [sr_e, sr_n]
    exact rws_out (by omega) (rws_out (by omega) (rws_out (by omega) (rws_grow (by omega) (by omega) (rws_out (by omega) h5))))
  · simp (disch := omega) only [sr_e, sr_n]
    exact rws_out (by omega) (rws_out (by omega) (rws_grow (by omega) (by omega) (rws_out (by omega) (rws_out (by omega) h6))))
  · simp (disch := omega) only [sr_e, sr_n]
    exact rws_out (by omega) (rws_grow (by omega) (by omega) (rws_out (by omega) (rws_out (by omega) (rws_out (by omega) h7))))
theorem adA_out {a : Nat → Int32} {m k : Nat} {e d : Int32} (hm : m < 10) (h : k ≠ 17) (h2 : k < 200 ∨ 240 ≤ k) : adA a m e d k = a k := by
  unfold adA
  rw [upd_n h, upd_n (by omega), upd_n (by omega), upd_n (by omega), upd_n (by omega)]
theorem adW_out {w : RS} {m c : Nat} {e d : Int32} (h : c < 23 ∨ 27 < c) : adW w m e d c = w c := by
  unfold adW
  simp (disch := omega) only [sr_n]
