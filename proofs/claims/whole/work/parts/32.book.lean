/-! THE BOOK -/
theorem st_d {w : RS} {c i : Nat} {x : Int32} : st w c i x = sr w c (upd (w c) i x) := rfl
theorem row_grow {n o k : Nat} {f a : Nat → Int32} {x : Int32} (hk : k = o + n) (h : row n o f a) : row (n + 1) o (upd f n x) (upd a k x) := fun j hj => by
  subst hk
  by_cases e : j = n
  · subst e; rw [upd_e, upd_e]
  · rw [upd_n e, upd_n (by omega)]; exact h j (by omega)
def shl (a : Nat → Int32) (lo i s : Nat) : Nat → Int32 := fun k => if lo ≤ k ∧ k < i then a (k + s) else a k
theorem shl_0 {a : Nat → Int32} {lo s : Nat} : shl a lo lo s = a := funext fun k => if_neg (by omega)
theorem shl_s {a : Nat → Int32} {lo i s : Nat} (h : lo ≤ i) (hs : 0 < s) : upd (shl a lo i s) i (shl a lo i s (i + s)) = shl a lo (i + 1) s := by
  funext k
  unfold upd shl
  by_cases e : k = i
  · subst e
    rw [if_pos rfl, if_neg (by omega), if_pos (by omega)]
  · rw [if_neg e]
    by_cases q : lo ≤ k ∧ k < i
    · rw [if_pos q, if_pos (by omega)]
    · rw [if_neg q, if_neg (by omega)]
theorem wdM {N n : Nat} {a : Nat → Int32} {mm : RS} {x1 x2 x3 : Int32} (hn : n < 25) (h : a 18 = nI n) : fX12_writeDown_L58 N x1 x2 x3 (sr mm 1 a) = some (sr mm 1 (upd (upd (upd (upd (upd a (240 + 4 * n) (a 3)) (240 + 4 * n + 1) x1) (240 + 4 * n + 2) x2) (240 + 4 * n + 3) x3) 18 (nI (n + 1)))) := by
  simp (disch := omega) only [fX12_writeDown_L58, thn_e, ck_t, sr_e, st_sr, h, i240, m4, j1, j2, j3, inb_nI, cl_nI, upd_n]
theorem wdC {N n : Nat} {w : RS} {x1 x2 x3 x4 : Int32} (hn : n < 25) (h : w 28 0 = nI n) : fX0_add_L38 N x1 x2 x3 x4 w = some (sr (sr w 29 (upd (upd (upd (upd (w 29) (4 * n) x1) (4 * n + 1) x2) (4 * n + 2) x3) (4 * n + 3) x4)) 28 (upd (w 28) 0 (nI (n + 1)))) := by
  simp (disch := omega) only [fX0_add_L38, thn_e, ck_t, sr_e, sr_n, sr_sr, st_d, h, mr4, j1, j2, j3, inb_nI, cl_nI, upd_n]
theorem wdL {N : Nat} {a : Nat → Int32} {mm : RS} {x1 x2 x3 : Int32} (hN : 97 ≤ N) : fX12_writeDown_L17 N x1 x2 x3 N 240 (sr mm 1 a) = fX12_writeDown_L58 N x1 x2 x3 (sr mm 1 (upd (shl a 240 336 4) 18 (a 18 - 1))) := by
  have key : ∀ d i k, 336 - i = d → 240 ≤ i → i ≤ 336 → d < k → fX12_writeDown_L17 N x1 x2 x3 k (nI i) (sr mm 1 (shl a 240 i 4)) = fX12_writeDown_L58 N x1 x2 x3 (sr mm 1 (upd (shl a 240 336 4) 18 (a 18 - 1))) := by
    intro d
    induction d with
    | zero =>
      intro i k h1 h0 h2 h3
      obtain ⟨k, rfl⟩ : ∃ j, k = j + 1 := ⟨k - 1, by omega⟩
      have : i = 336 := by omega
      subst this
      show (if (336 : Int32) ≤ nI 336 then _ else _) = _
      rw [if_pos (by decide)]
      simp only [thn_e, st_sr, sr_e]
      rw [show shl a 240 336 4 18 = a 18 from if_neg (by omega)]
    | succ d ih =>
      intro i k h1 h0 h2 h3
      obtain ⟨k, rfl⟩ : ∃ j, k = j + 1 := ⟨k - 1, by omega⟩
      show (if (336 : Int32) ≤ nI i then _ else _) = _
      rw [if_neg (show ¬ (336 : Int32) ≤ nI i from fun q => absurd ((le_nI (a := 336) (by decide) (by omega)).mp q) (by omega))]
      simp (disch := omega) only [thn_e, ck_t, st_sr, sr_e, j4, j1, inb_nI, cl_nI]
      rw [shl_s h0 (by decide)]
      exact ih (i + 1) k (by omega) (by omega) (by omega) (by omega)
  have := key 96 240 N rfl (by omega) (by omega) (by omega)
  rw [shl_0] at this
  exact this
theorem wd_ok {N : Nat} (hN : 97 ≤ N) {w mm : RS} {a : Nat → Int32} (h0 : a 3 = w 1 0) (h : RB w a) (x1 x2 x3 : Int32) :
    ∃ w' a', fX10_writeDown N x1 x2 x3 w = some w' ∧ fX12_writeDown N x1 x2 x3 (sr mm 1 a) = some (sr mm 1 a') ∧ RB w' a' ∧ (∀ c, c ≠ 28 → c ≠ 29 → w' c = w c) ∧ (∀ k, k ≠ 18 → (k < 240 ∨ 340 ≤ k) → a' k = a k) := by
  obtain ⟨n, hn, hw, ha, hr⟩ := h
  unfold fX10_writeDown fX0_add fX12_writeDown
  rw [sr_e, hw, ha]
  by_cases e : n = 25
  · subst e
    rw [if_pos (show nI 25 = (25 : Int32) from rfl), if_pos (show nI 25 = (25 : Int32) from rfl), wdL hN]
    simp only [thn_e, st_d, sr_e, upd_e]
    rw [show nI 25 - 1 = nI 24 from by decide, show acp 4 0 (nI 24 * 4) 100 100 = true from by decide, ck_t, show (nI 24 * 4).toNatClampNeg = 96 from by decide, wdC (n := 24) (by omega) (by rw [sr_n (by decide), sr_e, upd_e]), bnd_s]
    rw [wdM (n := 24) (by omega) (by rw [upd_e, ha]; decide)]
    refine ⟨_, _, rfl, rfl, ⟨25, by omega, by rw [sr_e, upd_e], by rw [upd_e], ?_⟩, ?_, ?_⟩
    · have e3 : upd (shl a 240 336 4) 18 (a 18 - 1) 3 = w 1 0 := by rw [upd_n (by decide)]; exact (if_neg (by omega)).trans h0
      simp (disch := omega) only [sr_e, sr_n]
      rw [e3]
      refine row_out (by omega) (row_set (by omega) (row_set (by omega) (row_set (by omega) (row_set (by omega) (row_out (by omega) ?_)))))
      intro i hi
      unfold shl va_cpy
      by_cases q : i < 96
      · rw [if_pos (by omega), if_pos (by omega), show 240 + i + 4 = 240 + (4 + (i - 0)) from by omega]
        exact hr _ (by omega)
      · rw [if_neg (by omega), if_neg (by omega)]
        exact hr _ (by omega)
    · intro c h1 h2
      rw [sr_n h1, sr_n h2, sr_n h2, sr_n h1]
    · intro k h1 h2
      rw [upd_n h1, upd_n (by omega), upd_n (by omega), upd_n (by omega), upd_n (by omega), upd_n h1]
      exact if_neg (by omega)
  · have e25 : ¬ (nI n = (25 : Int32)) := fun q => e ((eq_25 (by omega)).mp q)
    rw [if_neg e25, if_neg e25, wdC (n := n) (by omega) hw, bnd_s, wdM (n := n) (by omega) ha]
    refine ⟨_, _, rfl, rfl, ⟨n + 1, by omega, by rw [sr_e, upd_e], by rw [upd_e], ?_⟩, ?_, ?_⟩
    · rw [sr_n (by decide), sr_e, h0, show 4 * (n + 1) = 4 * n + 1 + 1 + 1 + 1 from by omega]
      exact row_out (by omega) (row_grow (by omega) (row_grow (by omega) (row_grow (by omega) (row_grow rfl hr))))
    · intro c h1 h2
      rw [sr_n h1, sr_n h2]
    · intro k h1 h2
      rw [upd_n h1, upd_n (by omega), upd_n (by omega), upd_n (by omega), upd_n (by omega)]
