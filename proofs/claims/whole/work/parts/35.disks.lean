/-! DISKS: slots left -/
def cut (x : Int32) (lo hi : Nat) : Int32 := if lo ≤ x.toNatClampNeg ∧ x.toNatClampNeg < hi ∧ ¬ x < 0 then -1 else x
theorem cut_in {p lo hi : Nat} (h1 : lo ≤ p) (h2 : p < hi) (h : p < 2147483648) : cut (nI p) lo hi = -1 := by
  unfold cut
  rw [cl_nI h]
  exact if_pos ⟨h1, h2, nI_pos h⟩
theorem cut_out {p lo hi : Nat} (h1 : p < lo ∨ hi ≤ p) (h : p < 2147483648) : cut (nI p) lo hi = nI p := by
  unfold cut
  rw [cl_nI h]
  exact if_neg (by omega)
theorem cut_m {lo hi : Nat} : cut (-1) lo hi = -1 := by
  unfold cut
  split <;> rfl
theorem m1_neg : (-1 : Int32) < 0 := by decide
def leV (w : RS) (lo hi : Nat) (w' : RS) : Prop := (∀ c, c ≠ 18 → c ≠ 19 → w' c = w c) ∧ (∀ q, w' 18 q = if lo ≤ q ∧ q < hi then -1 else w 18 q) ∧ ∀ s, s < 9 → w' 19 s = cut (w 19 s) lo hi
theorem leave_step {w w' : RS} {lo p : Nat} (hI : ID w) (hp : p < 23) (hl : lo ≤ p) (h : leV w lo p w') {w2 : RS}
    (h2 : (w 18 p = -1 ∧ w2 = sr w' 18 (upd (w' 18) p (-1))) ∨ ∃ s, s < 9 ∧ w 18 p = nI s ∧ w2 = sr (sr w' 19 (upd (w' 19) s (-1))) 18 (upd (w' 18) p (-1))) : leV w lo (p + 1) w2 := by
  obtain ⟨hf, h18, h19⟩ := h
  have g18 : ∀ q, upd (w' 18) p (-1) q = if lo ≤ q ∧ q < p + 1 then -1 else w 18 q := by
    intro q
    by_cases e : q = p
    · subst e
      rw [upd_e, if_pos (by omega)]
    · rw [upd_n e, h18]
      by_cases q2 : lo ≤ q ∧ q < p
      · rw [if_pos q2, if_pos (by omega)]
      · rw [if_neg q2, if_neg (by omega)]
  have g19 : ∀ s, s < 9 → w 18 p ≠ nI s → cut (w 19 s) lo p = cut (w 19 s) lo (p + 1) := by
    intro s hs hne
    rcases hI.2 s hs with e | ⟨r, hr, e, e2⟩
    · rw [e, cut_m, cut_m]
    · rw [e]
      have hrp : r ≠ p := fun q => hne (by rw [← q]; exact e2)
      by_cases c : lo ≤ r ∧ r < p
      · rw [cut_in c.1 c.2 (by omega), cut_in c.1 (by omega) (by omega)]
      · rw [cut_out (by omega) (by omega), cut_out (by omega) (by omega)]
  rcases h2 with ⟨e, rfl⟩ | ⟨s, hs, e, rfl⟩
  · refine ⟨fun c h1 h2 => by rw [sr_n h1]; exact hf c h1 h2, fun q => by rw [sr_e]; exact g18 q, fun s hs => ?_⟩
    rw [sr_n (by decide), h19 s hs]
    exact g19 s hs fun q => ne_m1 (by omega) (q.symm.trans e)
  · refine ⟨fun c h1 h2 => by rw [sr_n h1, sr_n h2]; exact hf c h1 h2, fun q => by rw [sr_e]; exact g18 q, fun s2 hs2 => ?_⟩
    rw [sr_n (by decide), sr_e]
    by_cases c : s2 = s
    · subst c
      rw [upd_e]
      rcases hI.1 p hp with e3 | ⟨s3, hs3, e3, e4⟩
      · exact absurd (e.symm.trans e3) (ne_m1 (by omega))
      · have : s3 = s2 := (eq_nI (by omega) (by omega)).mp (e3.symm.trans e)
        subst this
        rw [e4, cut_in hl (by omega) (by omega)]
    · rw [upd_n c, h19 s2 hs2]
      exact g19 s2 hs2 fun q => c ((eq_nI (by omega) (by omega)).mp (q.symm.trans e))
theorem leave_ok {N e : Nat} (hN : 5 ≤ N) (he : e < 10) {w : RS} (hI : ID w) : ok (fX1_leaveSlots N (nI e) w) (leV w (stN e) (stN e + szN e)) := by
  unfold fX1_leaveSlots
  rw [inb_nI he (by omega), ck_t, thn_e, cl_nI (by omega), startT_N e he]
  have hz := szN_le e
  have hs := stN_le e he
  refine lp (fX1_leaveSlots_L6 N (nI e)) (fun p w' => stN e ≤ p ∧ leV w (stN e) p w') _ (stN e + szN e) ?_ ?_ (szN e) (stN e) N w (by omega) (by omega) (by omega) ⟨Nat.le_refl _, fun _ _ _ => rfl, fun q => by rw [if_neg (by omega)], fun s hs => ?_⟩
  · intro k p w' hp ⟨hl, hv⟩
    have hb : ¬ startT e + sizeT e ≤ nI p := by
      rw [startT_N e he, sizeT_N e he, nI_add]
      exact nI_ge hp (by omega)
    have h18 : w' 18 p = w 18 p := (hv.2.1 p).trans (if_neg (by omega))
    rcases hI.1 p (by omega) with e1 | ⟨s, hs9, e1, e2⟩
    · refine ⟨sr w' 18 (upd (w' 18) p (-1)), ⟨by omega, leave_step hI (by omega) hl hv (Or.inl ⟨e1, rfl⟩)⟩, ?_⟩
      show ck _ _ = _
      rw [inb_nI he (by omega), ck_t, cl_nI (by omega), if_neg hb, inb_nI (by omega) (by omega), ck_t, thn_e, cl_nI (by omega), h18, e1, if_pos m1_neg]
      unfold fX1_leaveSlots_L45
      rw [inb_nI (by omega) (by omega), ck_t, thn_e, cl_nI (by omega), j1]
      rfl
    · refine ⟨sr (sr w' 19 (upd (w' 19) s (-1))) 18 (upd (w' 18) p (-1)), ⟨by omega, leave_step hI (by omega) hl hv (Or.inr ⟨s, hs9, e1, rfl⟩)⟩, ?_⟩
      show ck _ _ = _
      rw [inb_nI he (by omega), ck_t, cl_nI (by omega), if_neg hb, inb_nI (by omega) (by omega), ck_t, thn_e, cl_nI (by omega), h18, e1, if_neg (nI_pos (by omega)), if_neg (show ¬ (9 : Int32) ≤ nI s from fun q => absurd ((le_9 (by omega)).mp q) (by omega)), inb_nI hs9 (by omega), ck_t, thn_e]
      unfold fX1_leaveSlots_L45
      rw [inb_nI (by omega) (by omega), ck_t, thn_e, cl_nI (by omega), cl_nI (by omega), j1, st_d, st_d, sr_n (by decide)]
  · intro k w' ⟨hl, hv⟩
    show ok (ck _ _) _
    rw [inb_nI he (by omega), ck_t, cl_nI (by omega), startT_N e he, sizeT_N e he, nI_add, if_pos (nI_le (Nat.le_refl _) (by omega))]
    exact ok_some.mpr hv
  · rcases hI.2 s hs with e1 | ⟨r, hr, e1, e2⟩
    · rw [e1, cut_m]
    · rw [e1, cut_out (by omega) (by omega)]
/-- ID after slots are left -/
theorem leave_ID {w w' : RS} {lo hi : Nat} (hI : ID w) (h : leV w lo hi w') : ID w' := by
  obtain ⟨hf, h18, h19⟩ := h
  constructor
  · intro p hp
    rw [h18]
    by_cases c : lo ≤ p ∧ p < hi
    · rw [if_pos c]; exact Or.inl rfl
    · rw [if_neg c]
      rcases hI.1 p hp with e | ⟨s, hs, e, e2⟩
      · exact Or.inl e
      · exact Or.inr ⟨s, hs, e, by rw [h19 s hs, e2, cut_out (by omega) (by omega)]⟩
  · intro s hs
    rw [h19 s hs]
    rcases hI.2 s hs with e | ⟨p, hp, e, e2⟩
    · rw [e, cut_m]; exact Or.inl rfl
    · rw [e]
      by_cases c : lo ≤ p ∧ p < hi
      · rw [cut_in c.1 c.2 (by omega)]; exact Or.inl rfl
      · rw [cut_out (by omega) (by omega)]
        exact Or.inr ⟨p, hp, rfl, by rw [h18, if_neg c]; exact e2⟩
/-! the reference's slots left -/
def frA (a : Nat → Int32) (lo hi : Nat) : Nat → Int32 := fun k => if 139 + lo ≤ k ∧ k < 139 + hi then -1 else a k
theorem frA_0 {a : Nat → Int32} {lo : Nat} : frA a lo lo = a := funext fun k => if_neg (by omega)
theorem frA_s {a : Nat → Int32} {lo hi : Nat} (h : lo ≤ hi) : upd (frA a lo hi) (139 + hi) (-1) = frA a lo (hi + 1) := by
  funext k
  unfold upd frA
  by_cases e : k = 139 + hi
  · rw [if_pos e, if_pos (by omega)]
  · rw [if_neg e]
    by_cases q : 139 + lo ≤ k ∧ k < 139 + hi
    · rw [if_pos q, if_pos (by omega)]
    · rw [if_neg q, if_neg (by omega)]
theorem freeM_ok {N e : Nat} (hN : 5 ≤ N) (he : e < 10) {mm : RS} {a : Nat → Int32} : fX12_freeSlots N (nI e) (sr mm 1 a) = some (sr mm 1 (frA a (stN e) (stN e + szN e))) := by
  have hz := szN_le e
  have hs := stN_le e he
  have key : ok (fX12_freeSlots_L2 N (nI e) N (nI 0) (sr mm 1 a)) (fun r => r = sr mm 1 (frA a (stN e) (stN e + szN e))) := by
    refine lp (fX12_freeSlots_L2 N (nI e)) (fun b m' => m' = sr mm 1 (frA a (stN e) (stN e + b))) _ (szN e) ?_ ?_ (szN e) 0 N _ (by omega) (by omega) (by omega) (by rw [Nat.add_zero, frA_0])
    · intro k b m' hb hm
      subst hm
      refine ⟨_, rfl, ?_⟩
      show (if fX12_sizeOf (nI e) ≤ nI b then _ else _) = _
      rw [sizeM_N e he, if_neg (nI_ge hb (by omega)), firstM_N e he, i139, nI_add, inb_nI (by omega) (by omega), ck_t, thn_e, cl_nI (by omega), st_sr, j1, Nat.add_assoc, frA_s (by omega), Nat.add_assoc]
    · intro k m' hm
      subst hm
      show ok (if fX12_sizeOf (nI e) ≤ nI (szN e) then _ else _) _
      rw [sizeM_N e he, if_pos (nI_le (Nat.le_refl _) (by omega))]
      exact ok_some.mpr rfl
  obtain ⟨r, h1, rfl⟩ := key
  exact h1
theorem free_row {w w' : RS} {a : Nat → Int32} {lo hi : Nat} (h : leV w lo hi w') (hr : row 23 139 (w 18) a) : row 23 139 (w' 18) (frA a lo hi) := fun p hp => by
  rw [h.2.1]
  unfold frA
  by_cases c : lo ≤ p ∧ p < hi
  · rw [if_pos c, if_pos (by omega)]
  · rw [if_neg c, if_neg (by omega)]; exact hr p hp
theorem frA_out {a : Nat → Int32} {lo hi k : Nat} (h : hi ≤ 23) (hk : k < 139 ∨ 162 ≤ k) : frA a lo hi k = a k := if_neg (by omega)
