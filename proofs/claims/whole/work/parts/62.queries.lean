/-! QUESTIONS OF THE STATE -/
theorem ge_pos {x : Int32} {n : Nat} (hn : n < 2147483648) (h : nI n ≤ x) : ¬ x < 0 := by
  rw [Int32.lt_iff_toInt_lt]
  rw [Int32.le_iff_toInt_le, nI_toInt hn] at h
  show ¬ x.toInt < 0
  omega
theorem ge_lt {x : Int32} {n : Nat} (hn : n + 1 < 2147483648) (h : nI (n + 1) ≤ x) : nI n < x := by
  rw [Int32.lt_iff_toInt_lt, nI_toInt (by omega)]
  rw [Int32.le_iff_toInt_le, nI_toInt hn] at h
  omega
theorem isIn0 (x M : Int32) {n : Nat} (hM : M = nI n) (hn : n + 1 < 2147483648) : (fX12_isIn x 0 M = 0 ∧ (x < 0 ∨ ¬ x < 0 ∧ nI (n + 1) ≤ x)) ∨ ∃ j, j ≤ n ∧ x = nI j ∧ fX12_isIn x 0 M = 1 := by
  subst hM
  unfold fX12_isIn
  rcases pk_ix x (n := n + 1) hn with h | h | ⟨j, hj, rfl⟩
  · exact Or.inl ⟨if_pos h, Or.inl h⟩
  · exact Or.inl ⟨by rw [if_neg (ge_pos hn h), if_pos (ge_lt hn h)], Or.inr ⟨ge_pos hn h, h⟩⟩
  · exact Or.inr ⟨j, by omega, rfl, by rw [if_neg (nlt_0 (by omega)), if_neg (nI_nlt (by omega) (by omega))]⟩
theorem isIn1 (x : Int32) {h : Nat} (hh : h < 2147483647) : (fX12_isIn x 0 (nI h - 1) = 0 ∧ (x < 0 ∨ ¬ x < 0 ∧ nI h ≤ x)) ∨ ∃ j, j < h ∧ x = nI j ∧ fX12_isIn x 0 (nI h - 1) = 1 := by
  by_cases c : h = 0
  · subst c
    unfold fX12_isIn
    by_cases q : x < 0
    · exact Or.inl ⟨if_pos q, Or.inl q⟩
    · refine Or.inl ⟨?_, Or.inr ⟨q, ?_⟩⟩
      · rw [if_neg q, if_pos]
        rw [Int32.lt_iff_toInt_lt] at q ⊢
        have e1 : (nI 0 - 1).toInt = -1 := by decide
        have e2 : (0 : Int32).toInt = 0 := by decide
        omega
      · exact Int32.not_lt.mp q
  · rcases isIn0 x (nI h - 1) (n := h - 1) (s1 (by omega)) (by omega) with ⟨g1, g2⟩ | ⟨j, g1, g2, g3⟩
    · rw [show h - 1 + 1 = h from by omega] at g2
      exact Or.inl ⟨g1, g2⟩
    · exact Or.inr ⟨j, by omega, g2, g3⟩
theorem ext_c (x : Int32) : (fX11_isExtent x = 0 ∧ fX12_isExtent x = 0 ∧ ∀ e, e < 10 → x ≠ nI e) ∨ ∃ e, e < 10 ∧ x = nI e ∧ fX11_isExtent x = 1 ∧ fX12_isExtent x = 1 := by
  unfold fX11_isExtent fX12_isExtent
  rcases isIn0 x 9 (n := 9) rfl (by decide) with ⟨g1, g2⟩ | ⟨j, g1, g2, g3⟩
  · refine Or.inl ⟨?_, g1, fun e he q => ?_⟩
    · rcases g2 with q | ⟨q, q2⟩
      · exact if_pos q
      · rw [if_neg q, if_pos (show (10 : Int32) ≤ x from q2)]
    · subst q
      rcases g2 with q | ⟨q, q2⟩
      · exact nlt_0 (by omega) q
      · exact nI_ge (show e < 9 + 1 by omega) (by omega) q2
  · subst g2
    exact Or.inr ⟨j, by omega, rfl, by rw [if_neg (nlt_0 (by omega)), if_neg (fun q => absurd ((le_10 (by omega)).mp q) (by omega))], g3⟩
theorem blk_c (N : Nat) (x y : Int32) : (fX11_isBlock N x y = some 0 ∧ fX12_isBlock x y = 0) ∨ ∃ e b, e < 10 ∧ b < szN e ∧ x = nI e ∧ y = nI b ∧ fX11_isBlock N x y = some 1 ∧ fX12_isBlock x y = 1 := by
  unfold fX11_isBlock fX12_isBlock
  rcases ext_c x with ⟨h1, h2, -⟩ | ⟨e, he, rfl, h1, h2⟩
  · rw [h1, h2]
    exact Or.inl ⟨if_pos rfl, if_pos rfl⟩
  · have hz := szN_le e
    rw [h1, h2, if_neg (show ¬ (1 : Int32) = 0 by decide), if_neg (show ¬ (1 : Int32) = 0 by decide), sizeM_N e he, inb_nI he (by omega), ck_t, cl_nI (by omega), sizeT_N e he]
    rcases isIn1 y (h := szN e) (by omega) with ⟨g1, g2⟩ | ⟨j, g1, rfl, g3⟩
    · refine Or.inl ⟨?_, by rw [g1, if_pos rfl]⟩
      rcases g2 with q | ⟨q, q2⟩
      · rw [if_pos q]
      · rw [if_neg q, if_pos q2]
    · exact Or.inr ⟨e, j, he, g1, rfl, rfl, by rw [if_neg (nlt_0 (by omega)), if_neg (nI_ge (by omega) (by omega))], by rw [g3, if_neg (by decide)]⟩
section Q1
variable {N : Nat} {nn xx mm : RS} {a : Nat → Int32}
theorem q_is (hr : RW nn a) (x : Int32) : ∃ r, fX11_is N x xx nn = some r ∧ fX12_is N x (sr mm 1 a) = some r := by
  unfold fX11_is fX12_is
  rcases isIn0 x 12 (n := 12) rfl (by decide) with ⟨g1, g2⟩ | ⟨j, g1, rfl, g3⟩
  · refine ⟨-1, ?_, by rw [g1, if_pos rfl]⟩
    rcases g2 with q | ⟨q, q2⟩
    · rw [if_pos q]
    · rw [if_neg q, if_pos (show (13 : Int32) ≤ x from q2)]
  · refine ⟨nn 1 j, ?_, ?_⟩
    · rw [if_neg (nlt_0 (by omega)), if_neg (show ¬ (13 : Int32) ≤ nI j from nI_ge (show j < 13 by omega) (by decide)), inb_nI (by omega) (by omega), ck_t, cl_nI (by omega)]
    · rw [g3, if_neg (by decide), i3, inb_nI (by omega) (by omega), ck_t, cl_nI (by omega), sr_e]
      exact congrArg some (hr.1 j (by omega))
theorem q_where (hr : RW nn a) (x : Int32) : ∃ r, fX11_where N x xx nn = some r ∧ fX12_where N x (sr mm 1 a) = some r := by
  unfold fX11_where fX12_where
  rcases ext_c x with ⟨h1, h2, -⟩ | ⟨e, he, rfl, h1, h2⟩
  · exact ⟨-1, by rw [h1, if_pos rfl], by rw [h2, if_pos rfl]⟩
  · refine ⟨nn 3 e, ?_, ?_⟩
    · rw [h1, if_neg (by decide), inb_nI he (by omega), ck_t, cl_nI (by omega)]
    · rw [h2, if_neg (by decide), i109, inb_nI (by omega) (by omega), ck_t, cl_nI (by omega), sr_e]
      exact congrArg some (hr.2.1.1 e he)
theorem q_heat (hr : RW nn a) (x : Int32) : ∃ r, fX11_heat N x xx nn = some r ∧ fX12_heat N x (sr mm 1 a) = some r := by
  unfold fX11_heat fX12_heat
  rcases ext_c x with ⟨h1, h2, -⟩ | ⟨e, he, rfl, h1, h2⟩
  · exact ⟨-1, by rw [h1, if_pos rfl], by rw [h2, if_pos rfl]⟩
  · refine ⟨nn 9 e, ?_, ?_⟩
    · rw [h1, if_neg (by decide), inb_nI he (by omega), ck_t, cl_nI (by omega)]
    · rw [h2, if_neg (by decide), i19, inb_nI (by omega) (by omega), ck_t, cl_nI (by omega), sr_e]
      exact congrArg some (hr.2.1.2.2.2.2.2.1 e he)
theorem isFastM_r (hr : RW nn a) (hi : IW nn) {e : Nat} (he : e < 10) : fX12_isFast N (nI e) (sr mm 1 a) = some (nn 3 e) := isFastM he hr hi
theorem q_slot (hr : RW nn a) (hi : IW nn) (x y : Int32) : ∃ r, fX11_slot N x y xx nn = some r ∧ fX12_slot N x y (sr mm 1 a) = some r := by
  unfold fX11_slot fX12_slot
  rcases blk_c N x y with ⟨h1, h2⟩ | ⟨e, b, he, hb, rfl, rfl, h1, h2⟩
  · exact ⟨-1, by rw [h1, bnd_s, if_pos rfl], by rw [h2, if_pos rfl]⟩
  · have hz := szN_le e
    have hst := stN_lt he hb
    rw [h1, h2, bnd_s, if_neg (show ¬ (1 : Int32) = 0 by decide), if_neg (show ¬ (1 : Int32) = 0 by decide), inb_nI he (by omega), ck_t, cl_nI (by omega), isFastM_r hr hi he, bnd_s]
    by_cases q : nn 3 e = 0
    · rw [if_pos q, if_pos q]
      exact ⟨_, rfl, rfl⟩
    · rw [if_neg q, if_neg q, startT_N e he, nI_add, inb_nI (by omega) (by omega), ck_t, cl_nI (by omega)]
      refine ⟨_, rfl, ?_⟩
      unfold fX12_slotOf
      rw [firstM_N e he, i139, nI_add, inb_nI (by omega) (by omega), ck_t, cl_nI (by omega), sr_e, bnd_s, Nat.add_assoc]
      exact congrArg some (hr.2.2.1.2.1 _ hst)
theorem q_on (hr : RW nn a) (x y : Int32) : ∃ r, fX11_on N x y xx nn = some r ∧ fX12_on N x y (sr mm 1 a) = some r := by
  unfold fX11_on fX12_on fX12_on_L26
  by_cases c1 : x = 1
  · rw [if_pos c1, if_pos c1]
    rcases isIn0 y 8 (n := 8) rfl (by decide) with ⟨g1, g2⟩ | ⟨j, g1, rfl, g3⟩
    · refine ⟨-1, ?_, by rw [g1, if_pos rfl, if_neg (by rw [c1]; decide)]⟩
      rcases g2 with q | ⟨q, q2⟩
      · rw [if_pos q]
      · rw [if_neg q, if_pos (show (9 : Int32) ≤ y from q2)]
    · refine ⟨nn 17 j, ?_, ?_⟩
      · rw [if_neg (nlt_0 (by omega)), if_neg (show ¬ (9 : Int32) ≤ nI j from nI_ge (show j < 9 by omega) (by decide)), inb_nI (by omega) (by omega), ck_t, cl_nI (by omega)]
      · rw [g3, if_neg (by decide), i185, inb_nI (by omega) (by omega), ck_t, cl_nI (by omega), sr_e]
        exact congrArg some (hr.2.2.1.2.2 j (by omega))
  · rw [if_neg c1, if_neg c1]
    by_cases c0 : x = 0
    · rw [if_pos c0, if_pos c0]
      rcases isIn0 y 22 (n := 22) rfl (by decide) with ⟨g1, g2⟩ | ⟨j, g1, rfl, g3⟩
      · refine ⟨-1, ?_, by rw [g1, if_pos rfl]⟩
        rcases g2 with q | ⟨q, q2⟩
        · rw [if_pos q]
        · rw [if_neg q, if_pos (show (23 : Int32) ≤ y from q2)]
      · refine ⟨nn 16 j, ?_, ?_⟩
        · rw [if_neg (nlt_0 (by omega)), if_neg (show ¬ (23 : Int32) ≤ nI j from nI_ge (show j < 23 by omega) (by decide)), inb_nI (by omega) (by omega), ck_t, cl_nI (by omega)]
        · rw [g3, if_neg (by decide), i162, inb_nI (by omega) (by omega), ck_t, cl_nI (by omega), sr_e]
          exact congrArg some (hr.2.2.1.1 j (by omega))
    · rw [if_neg c0, if_neg c0]
      exact ⟨_, rfl, rfl⟩
theorem q_holder (hN : 97 ≤ N) (hr : RW nn a) (hi : IW nn) (x : Int32) : ∃ r, fX11_holder N x xx nn = some r ∧ fX12_holder N x (sr mm 1 a) = some r := by
  unfold fX11_holder fX12_holder
  rcases isIn0 x 8 (n := 8) rfl (by decide) with ⟨g1, g2⟩ | ⟨j, g1, rfl, g3⟩
  · refine ⟨-1, ?_, by rw [g1, if_pos rfl]⟩
    rcases g2 with q | ⟨q, q2⟩
    · rw [if_pos q]
    · rw [if_neg q, if_pos (show (9 : Int32) ≤ x from q2)]
  · refine ⟨nn 19 j, ?_, ?_⟩
    · rw [if_neg (nlt_0 (by omega)), if_neg (show ¬ (9 : Int32) ≤ nI j from nI_ge (show j < 9 by omega) (by decide)), inb_nI (by omega) (by omega), ck_t, cl_nI (by omega)]
    · rw [g3, if_neg (by decide), holderM_ok (by omega) (by omega) hr.2.2.1.2.1 hi.2.1, bnd_s]
theorem q_free (hN : 97 ≤ N) (hr : RW nn a) (hi : IW nn) (x : Int32) : ∃ r, fX11_free N x xx nn = some r ∧ fX12_free N x (sr mm 1 a) = some r := by
  unfold fX11_free fX12_free
  rcases isIn0 x 8 (n := 8) rfl (by decide) with ⟨g1, g2⟩ | ⟨j, g1, rfl, g3⟩
  · refine ⟨-1, ?_, by rw [g1, if_pos rfl]⟩
    rcases g2 with q | ⟨q, q2⟩
    · rw [if_pos q]
    · rw [if_neg q, if_pos (show (9 : Int32) ≤ x from q2)]
  · obtain ⟨r, h1, h2⟩ := lowestFree_ok (N := N) (s := j) (w := nn) (by omega) (by omega)
    obtain ⟨r', h3, h4⟩ := freeM_at (N := N) (s := j) (mm := mm) (by omega) (by omega) hr.2.2.1.2.1 hi.2.1
    refine ⟨r, ?_, ?_⟩
    · rw [if_neg (nlt_0 (by omega)), if_neg (show ¬ (9 : Int32) ≤ nI j from nI_ge (show j < 9 by omega) (by decide)), h1, bnd_s]
    · rw [g3, if_neg (by decide), h3, bnd_s, freeAt_u h2 h4]
theorem q_position (x y : Int32) : fX11_position N x y xx = some (fX12_position x y mm) := by
  unfold fX11_position fX12_position
  rcases blk_c N x y with ⟨h1, h2⟩ | ⟨e, b, he, hb, rfl, rfl, h1, h2⟩
  · rw [h1, h2, bnd_s, if_pos rfl, if_pos rfl]
  · rw [h1, h2, bnd_s, if_neg (by decide), if_neg (by decide), inb_nI he (by omega), ck_t, cl_nI (by omega), startT_N e he, firstM_N e he]
theorem q_of (hr : RW nn a) (x y : Int32) : ∃ r, fX11_of N x y xx nn = some r ∧ fX12_of N x y (sr mm 1 a) = some r := by
  unfold fX11_of fX12_of fX12_of_L44 fX2_detail
  rcases ext_c x with ⟨h1, h2, -⟩ | ⟨e, he, rfl, h1, h2⟩
  · exact ⟨-1, by rw [h1, if_pos rfl], by rw [h2, if_pos rfl]⟩
  · rw [h1, h2, if_neg (show ¬ (1 : Int32) = 0 by decide), if_neg (show ¬ (1 : Int32) = 0 by decide), inb_nI he (by omega)]
    rcases isIn0 y 8 (n := 8) rfl (by decide) with ⟨g1, g2⟩ | ⟨j, g1, rfl, g3⟩
    · have ny : ∀ k : Nat, k < 9 → ¬ y = nI k := fun k hk q => by
        subst q
        rcases g2 with q | ⟨q, q2⟩
        · exact nlt_0 (by omega) q
        · exact nI_ge (show k < 8 + 1 by omega) (by omega) q2
      refine ⟨-1, ?_, by rw [g1, if_pos rfl]⟩
      rw [if_neg (show ¬ y = 0 from ny 0 (by decide)), if_neg (show ¬ y = 1 from ny 1 (by decide)), if_neg (show ¬ y = 2 from ny 2 (by decide)), if_neg (show ¬ y = 3 from ny 3 (by decide)), if_neg (show ¬ y = 4 from ny 4 (by decide)), if_neg (show ¬ y = 5 from ny 5 (by decide)), if_neg (show ¬ y = 6 from ny 6 (by decide)), if_neg (show ¬ y = 7 from ny 7 (by decide)), if_neg (show ¬ y = 8 from ny 8 (by decide)), bnd_s]
    · rw [g3, if_neg (show ¬ (1 : Int32) = 0 by decide)]
      have h9 : j = 0 ∨ j = 1 ∨ j = 2 ∨ j = 3 ∨ j = 4 ∨ j = 5 ∨ j = 6 ∨ j = 7 ∨ j = 8 := by omega
      rcases h9 with rfl | rfl | rfl | rfl | rfl | rfl | rfl | rfl | rfl
      · refine ⟨nn 10 e, ?_, ?_⟩
        · rw [if_pos (show nI 0 = 0 from rfl), ck_t, cl_nI (by omega), bnd_s]
        · rw [if_neg (show ¬ nI 0 = 8 by decide), show (29 : Int32) + 10 * nI 0 = nI 29 from by decide, nI_add, inb_nI (by omega) (by omega), ck_t, cl_nI (by omega), sr_e]
          exact congrArg some (hr.2.1.2.2.2.2.2.2.1 e he)
      · refine ⟨nn 11 e, ?_, ?_⟩
        · rw [if_neg (show ¬ nI 1 = 0 by decide), if_pos (show nI 1 = 1 from rfl), ck_t, cl_nI (by omega), bnd_s]
        · rw [if_neg (show ¬ nI 1 = 8 by decide), show (29 : Int32) + 10 * nI 1 = nI 39 from by decide, nI_add, inb_nI (by omega) (by omega), ck_t, cl_nI (by omega), sr_e]
          exact congrArg some (hr.2.1.2.2.2.2.2.2.2.1 e he)
      · refine ⟨nn 12 e, ?_, ?_⟩
        · rw [if_neg (show ¬ nI 2 = 0 by decide), if_neg (show ¬ nI 2 = 1 by decide), if_pos (show nI 2 = 2 from rfl), ck_t, cl_nI (by omega), bnd_s]
        · rw [if_neg (show ¬ nI 2 = 8 by decide), show (29 : Int32) + 10 * nI 2 = nI 49 from by decide, nI_add, inb_nI (by omega) (by omega), ck_t, cl_nI (by omega), sr_e]
          exact congrArg some (hr.2.1.2.2.2.2.2.2.2.2.1 e he)
      · refine ⟨nn 5 e, ?_, ?_⟩
        · rw [if_neg (show ¬ nI 3 = 0 by decide), if_neg (show ¬ nI 3 = 1 by decide), if_neg (show ¬ nI 3 = 2 by decide), if_pos (show nI 3 = 3 from rfl), ck_t, cl_nI (by omega), bnd_s]
        · rw [if_neg (show ¬ nI 3 = 8 by decide), show (29 : Int32) + 10 * nI 3 = nI 59 from by decide, nI_add, inb_nI (by omega) (by omega), ck_t, cl_nI (by omega), sr_e]
          exact congrArg some (hr.2.1.2.2.1 e he)
      · refine ⟨nn 4 e, ?_, ?_⟩
        · rw [if_neg (show ¬ nI 4 = 0 by decide), if_neg (show ¬ nI 4 = 1 by decide), if_neg (show ¬ nI 4 = 2 by decide), if_neg (show ¬ nI 4 = 3 by decide), if_pos (show nI 4 = 4 from rfl), ck_t, cl_nI (by omega), bnd_s]
        · rw [if_neg (show ¬ nI 4 = 8 by decide), show (29 : Int32) + 10 * nI 4 = nI 69 from by decide, nI_add, inb_nI (by omega) (by omega), ck_t, cl_nI (by omega), sr_e]
          exact congrArg some (hr.2.1.2.1 e he)
      · refine ⟨nn 6 e, ?_, ?_⟩
        · rw [if_neg (show ¬ nI 5 = 0 by decide), if_neg (show ¬ nI 5 = 1 by decide), if_neg (show ¬ nI 5 = 2 by decide), if_neg (show ¬ nI 5 = 3 by decide), if_neg (show ¬ nI 5 = 4 by decide), if_pos (show nI 5 = 5 from rfl), ck_t, cl_nI (by omega), bnd_s]
        · rw [if_neg (show ¬ nI 5 = 8 by decide), show (29 : Int32) + 10 * nI 5 = nI 79 from by decide, nI_add, inb_nI (by omega) (by omega), ck_t, cl_nI (by omega), sr_e]
          exact congrArg some (hr.2.1.2.2.2.1 e he)
      · refine ⟨nn 13 e, ?_, ?_⟩
        · rw [if_neg (show ¬ nI 6 = 0 by decide), if_neg (show ¬ nI 6 = 1 by decide), if_neg (show ¬ nI 6 = 2 by decide), if_neg (show ¬ nI 6 = 3 by decide), if_neg (show ¬ nI 6 = 4 by decide), if_neg (show ¬ nI 6 = 5 by decide), if_pos (show nI 6 = 6 from rfl), ck_t, cl_nI (by omega), bnd_s]
        · rw [if_neg (show ¬ nI 6 = 8 by decide), show (29 : Int32) + 10 * nI 6 = nI 89 from by decide, nI_add, inb_nI (by omega) (by omega), ck_t, cl_nI (by omega), sr_e]
          exact congrArg some (hr.2.1.2.2.2.2.2.2.2.2.2.1 e he)
      · refine ⟨nn 14 e, ?_, ?_⟩
        · rw [if_neg (show ¬ nI 7 = 0 by decide), if_neg (show ¬ nI 7 = 1 by decide), if_neg (show ¬ nI 7 = 2 by decide), if_neg (show ¬ nI 7 = 3 by decide), if_neg (show ¬ nI 7 = 4 by decide), if_neg (show ¬ nI 7 = 5 by decide), if_neg (show ¬ nI 7 = 6 by decide), if_pos (show nI 7 = 7 from rfl), ck_t, cl_nI (by omega), bnd_s]
        · rw [if_neg (show ¬ nI 7 = 8 by decide), show (29 : Int32) + 10 * nI 7 = nI 99 from by decide, nI_add, inb_nI (by omega) (by omega), ck_t, cl_nI (by omega), sr_e]
          exact congrArg some (hr.2.1.2.2.2.2.2.2.2.2.2.2 e he)
      · refine ⟨nn 7 e, ?_, ?_⟩
        · rw [if_neg (show ¬ nI 8 = 0 by decide), if_neg (show ¬ nI 8 = 1 by decide), if_neg (show ¬ nI 8 = 2 by decide), if_neg (show ¬ nI 8 = 3 by decide), if_neg (show ¬ nI 8 = 4 by decide), if_neg (show ¬ nI 8 = 5 by decide), if_neg (show ¬ nI 8 = 6 by decide), if_neg (show ¬ nI 8 = 7 by decide), if_pos (show nI 8 = 8 from rfl), ck_t, cl_nI (by omega), bnd_s]
        · rw [if_pos (show nI 8 = 8 from rfl), i340, inb_nI (by omega) (by omega), ck_t, cl_nI (by omega), sr_e]
          exact congrArg some (hr.2.1.2.2.2.2.1 e he)
theorem q_head (hr : RW nn a) (x y : Int32) : ∃ r, fX11_head N x y xx nn = some r ∧ fX12_head N x y (sr mm 1 a) = some r := by
  obtain ⟨h, h1, h2, h3, h4, h5⟩ := hr.2.2.2.2.1
  unfold fX11_head fX3_detail fX12_head
  rw [sr_e, h2, h3]
  by_cases c : x = -1
  · rw [if_pos c, if_pos c, bnd_s]
    exact ⟨_, rfl, rfl⟩
  · rw [if_neg c, if_neg c]
    rcases isIn1 x (h := h) (by omega) with ⟨g1, g2⟩ | ⟨i, g1, rfl, g3⟩
    · refine ⟨-2, ?_, by rw [g1, if_pos rfl]⟩
      rcases g2 with q | ⟨q, q2⟩
      · rw [if_pos q, bnd_s]
      · rw [if_neg q, if_pos q2, bnd_s]
    · rw [g3, if_neg (show ¬ (1 : Int32) = 0 by decide), if_neg (nlt_0 (by omega)), if_neg (nI_ge g1 (by omega))]
      rcases isIn0 y 1 (n := 1) rfl (by decide) with ⟨k1, k2⟩ | ⟨j, k1, rfl, k3⟩
      · refine ⟨-2, ?_, by rw [k1, if_pos rfl]⟩
        rcases k2 with q | ⟨q, q2⟩
        · rw [if_pos q, bnd_s]
        · rw [if_neg q, if_neg (Int32.not_le.mpr (show (1 : Int32) < y from ge_lt (n := 1) (by decide) q2)), bnd_s]
      · rw [k3, if_neg (show ¬ (1 : Int32) = 0 by decide), if_neg (nlt_0 (by omega)), if_pos (show nI j ≤ 1 from nI_le (b := 1) k1 (by decide)), m2, i194, nI_add, inb_nI (i := i) (by omega) (by omega), ck_t, ck_t, cl_nI (n := i) (by omega), inb_nI (by omega) (by omega), ck_t, cl_nI (by omega)]
        have hj : j = 0 ∨ j = 1 := by omega
        rcases hj with rfl | rfl
        · rw [if_pos (show nI 0 = 0 by decide), bnd_s]
          exact ⟨_, rfl, congrArg some (h4 i g1)⟩
        · rw [if_neg (show ¬ nI 1 = 0 by decide), bnd_s]
          exact ⟨_, rfl, congrArg some (by rw [← h5 i g1]; congr 1; omega)⟩
theorem q_move (hN : 97 ≤ N) (hr : RW nn a) (hi : IW nn) (x y : Int32) : ∃ r, fX11_move N x y xx nn = some r ∧ fX12_move N x y (sr mm 1 a) = some r := by
  obtain ⟨m, v1, v2, v3, v4, v5, v6, v7⟩ := hr.2.2.2.2.2.1
  unfold fX11_move fX5_detail fX12_move
  rw [sr_e, v2, v3]
  by_cases c : x = -1
  · rw [if_pos c, if_pos c]
    exact ⟨_, rfl, rfl⟩
  · rw [if_neg c, if_neg c]
    rcases isIn1 x (h := m) (by omega) with ⟨g1, g2⟩ | ⟨i, g1, rfl, g3⟩
    · refine ⟨-2, ?_, by rw [g1, if_pos rfl]⟩
      rcases g2 with q | ⟨q, q2⟩
      · rw [if_pos q]
      · rw [if_neg q, if_neg (Int32.not_lt.mpr q2)]
    · obtain ⟨e, hv⟩ := mv_ex hr hi v2 v1 g1
      have o : ∀ k, k < 4 → fX12_ofMove N (nI i) (nI k) (sr mm 1 a) = some (a (200 + 4 * i + k)) := fun k hk => ofM (by omega) hk
      rw [g3, if_neg (show ¬ (1 : Int32) = 0 by decide), if_neg (nlt_0 (by omega)), if_pos (nI_lt g1 (by omega)), inb_nI (i := i) (by omega) (by omega), cl_nI (n := i) (by omega)]
      rcases isIn0 y 3 (n := 3) rfl (by decide) with ⟨k1, k2⟩ | ⟨j, k1, rfl, k3⟩
      · have ny : ∀ k : Nat, k < 4 → ¬ y = nI k := fun k hk q => by
          subst q
          rcases k2 with q | ⟨q, q2⟩
          · exact nlt_0 (by omega) q
          · exact nI_ge (show k < 3 + 1 by omega) (by omega) q2
        refine ⟨-2, ?_, by rw [k1, if_pos rfl]⟩
        rw [if_neg (show ¬ y = 3 from ny 3 (by decide)), if_neg (show ¬ y = 0 from ny 0 (by decide)), if_neg (show ¬ y = 1 from ny 1 (by decide)), if_neg (show ¬ y = 2 from ny 2 (by decide)), bnd_s]
      · rw [k3, if_neg (show ¬ (1 : Int32) = 0 by decide)]
        have h4 : j = 0 ∨ j = 1 ∨ j = 2 ∨ j = 3 := by omega
        rcases h4 with rfl | rfl | rfl | rfl
        · rw [if_neg (show ¬ nI 0 = 3 by decide), if_pos (show nI 0 = 0 by decide), ck_t, bnd_s, if_neg (show ¬ (3 : Int32) ≤ nI 0 by decide), o 0 (by omega), bnd_s]
          exact ⟨_, rfl, congrArg some (v4 i g1)⟩
        · rw [if_neg (show ¬ nI 1 = 3 by decide), if_neg (show ¬ nI 1 = 0 by decide), if_pos (show nI 1 = 1 by decide), ck_t, bnd_s, if_neg (show ¬ (3 : Int32) ≤ nI 1 by decide), o 1 (by omega), bnd_s]
          exact ⟨_, rfl, congrArg some (by rw [← v5 i g1]; congr 1; omega)⟩
        · rw [if_neg (show ¬ nI 2 = 3 by decide), if_neg (show ¬ nI 2 = 0 by decide), if_neg (show ¬ nI 2 = 1 by decide), if_pos (show nI 2 = 2 by decide), ck_t, bnd_s, if_neg (show ¬ (3 : Int32) ≤ nI 2 by decide), o 2 (by omega), bnd_s]
          exact ⟨_, rfl, congrArg some (by rw [← v6 i g1]; congr 1; omega)⟩
        · rw [if_pos (show nI 3 = 3 by decide), tcC hv, bnd_s, if_pos (show (3 : Int32) ≤ nI 3 by decide), tcM hv (hi.1.1 e hv.2.2.2.2.1) (RW_79 hr hv.2.2.2.2.1), bnd_s]
          exact ⟨_, rfl, rfl⟩
/-- the class's find, the reference's: the same place -/
theorem find_eq (hN : 97 ≤ N) (hr : RW nn a) (x : Int32) : ∃ m r, m ≤ 10 ∧ nn 23 0 = nI m ∧ fX5_find N x nn = some r ∧ fX12_moveAt N x (sr mm 1 a) = some r ∧ firstI (nn 24) m x r := by
  obtain ⟨m, v1, v2, v3, v4, v5, v6, v7⟩ := hr.2.2.2.2.2.1
  obtain ⟨r, h1, h2⟩ := find_ok (N := N) (by omega) v1 v2 x
  obtain ⟨q, h3, h4⟩ := findM_ok (N := N) (mm := mm) (by omega) v1 v3 x
  have e := firstI_eq (fun i hi => v4 i hi) h2 h4
  subst e
  exact ⟨m, q, v1, v2, h1, h3, h2⟩
theorem find_no (hi : IW nn) {m : Nat} {x r : Int32} (hm : m ≤ 10) (h23 : nn 23 0 = nI m) (hx : ∀ e, e < 10 → x ≠ nI e) (h : firstI (nn 24) m x r) : r = -1 := by
  rcases h with ⟨i, h1, h2, -⟩ | ⟨-, h⟩
  · obtain ⟨m', u1, u2, u3, -⟩ := hi.2.2.2.1
    have e1 : m' = m := (eq_nI (by omega) (by omega)).mp (u2.symm.trans h23)
    subst e1
    obtain ⟨e, he, q, -⟩ := u3 i h1
    exact absurd (h2.symm.trans q) (hx e he)
  · exact h
theorem q_moveOf (hN : 97 ≤ N) (hr : RW nn a) (hi : IW nn) (x : Int32) : ∃ r, fX11_moveOf N x xx nn = some r ∧ fX12_moveOf N x (sr mm 1 a) = some r := by
  obtain ⟨m, r, hm, h23, h1, h2, h3⟩ := find_eq (mm := mm) hN hr x
  unfold fX11_moveOf fX12_moveOf
  rw [h1, h2, bnd_s]
  rcases ext_c x with ⟨-, k2, k3⟩ | ⟨e, he, rfl, -, k2⟩
  · rw [k2, if_pos rfl, find_no hi hm h23 k3 h3]
    exact ⟨_, rfl, rfl⟩
  · rw [k2, if_neg (by decide)]
    exact ⟨_, rfl, rfl⟩
theorem q_book (hr : RW nn a) (x y : Int32) : ∃ r, fX11_book N x y xx nn = some r ∧ fX12_book N x y (sr mm 1 a) = some r := by
  obtain ⟨n, b1, b2, b3, b4⟩ := hr.2.2.2.2.2.2
  unfold fX11_book fX0_detail fX12_book
  rw [sr_e, b2, b3]
  by_cases c : x = -1
  · rw [if_pos c, if_pos c, bnd_s]
    exact ⟨_, rfl, rfl⟩
  · rw [if_neg c, if_neg c]
    rcases isIn1 x (h := n) (by omega) with ⟨g1, g2⟩ | ⟨i, g1, rfl, g3⟩
    · refine ⟨-2, ?_, by rw [g1, if_pos rfl]⟩
      rcases g2 with q | ⟨q, q2⟩
      · rw [if_pos q, bnd_s]
      · rw [if_neg q, if_pos q2, bnd_s]
    · rw [g3, if_neg (show ¬ (1 : Int32) = 0 by decide), if_neg (nlt_0 (by omega)), if_neg (nI_ge g1 (by omega))]
      rcases isIn0 y 3 (n := 3) rfl (by decide) with ⟨k1, k2⟩ | ⟨j, k1, rfl, k3⟩
      · refine ⟨-2, ?_, by rw [k1, if_pos rfl]⟩
        rcases k2 with q | ⟨q, q2⟩
        · rw [if_pos q, bnd_s]
        · rw [if_neg q, if_neg (Int32.not_lt.mpr (show (4 : Int32) ≤ y from q2)), bnd_s]
      · rw [k3, if_neg (show ¬ (1 : Int32) = 0 by decide), if_neg (nlt_0 (by omega)), if_pos (show nI j < 4 from nI_lt (b := 4) (by omega) (by decide)), mr4, m4, i240, nI_add, nI_add, inb_nI (i := 4 * i + j) (by omega) (by omega), ck_t, cl_nI (n := 4 * i + j) (by omega), bnd_s, inb_nI (by omega) (by omega), ck_t, cl_nI (by omega), Nat.add_assoc]
        exact ⟨_, rfl, congrArg some (b4 _ (by omega))⟩
theorem q_ledger (hN : 97 ≤ N) (hr : RW nn a) (x : Int32) : ∃ r, fX11_ledger N x xx nn = some r ∧ fX12_ledger N x (sr mm 1 a) = some r := by
  obtain ⟨n, b1, b2, b3, b4⟩ := hr.2.2.2.2.2.2
  unfold fX11_ledger fX12_ledger
  rcases isIn0 x 5 (n := 5) rfl (by decide) with ⟨g1, g2⟩ | ⟨j, g1, rfl, g3⟩
  · refine ⟨-1, ?_, by rw [g1, if_pos rfl]⟩
    rcases g2 with q | ⟨q, q2⟩
    · rw [if_pos q]
    · rw [if_neg q, if_pos (show (6 : Int32) ≤ x from q2)]
  · rw [g3, if_neg (show ¬ (1 : Int32) = 0 by decide), if_neg (nlt_0 (by omega)), if_neg (show ¬ (6 : Int32) ≤ nI j from nI_ge (show j < 6 by omega) (by decide))]
    have key : ∀ d i k k2 c, n - i = d → i ≤ n → d < k → d < k2 → ∃ r, fX0_linesOf_L4 N (nI j) nn k c (nI i) = some r ∧ fX12_ledger_L15 N (nI j) (sr mm 1 a) k2 c (nI i) = some r := by
      intro d
      induction d with
      | zero =>
        intro i k k2 c h1 h2 h3 h4
        obtain ⟨k, rfl⟩ : ∃ j, k = j + 1 := ⟨k - 1, by omega⟩
        obtain ⟨k2, rfl⟩ : ∃ j, k2 = j + 1 := ⟨k2 - 1, by omega⟩
        exact ⟨c, by rw [fX0_linesOf_L4, b2, if_pos (nI_le (by omega) (by omega))], by rw [fX12_ledger_L15, sr_e, b3, if_pos (nI_le (by omega) (by omega))]⟩
      | succ d ih =>
        intro i k k2 c h1 h2 h3 h4
        obtain ⟨k, rfl⟩ : ∃ j, k = j + 1 := ⟨k - 1, by omega⟩
        obtain ⟨k2, rfl⟩ : ∃ j, k2 = j + 1 := ⟨k2 - 1, by omega⟩
        rw [fX0_linesOf_L4, b2, if_neg (nI_ge (by omega) (by omega)), fX12_ledger_L15, sr_e, b3, if_neg (nI_ge (by omega) (by omega)), mr4, m4, j1, i240, j1, inb_nI (i := 4 * i + 1) (by omega) (by omega), ck_t, cl_nI (n := 4 * i + 1) (by omega), inb_nI (by omega) (by omega), ck_t, cl_nI (by omega), Nat.add_assoc, b4 (4 * i + 1) (by omega)]
        unfold fX0_linesOf_L32 fX12_ledger_L50
        rw [thn_e, thn_e, thn_e, thn_e, j1]
        by_cases q : nn 29 (4 * i + 1) = nI j
        · rw [if_pos q, if_pos q]
          exact ih (i + 1) k k2 (c + 1) (by omega) (by omega) (by omega) (by omega)
        · rw [if_neg q, if_neg q]
          exact ih (i + 1) k k2 (c + 0) (by omega) (by omega) (by omega) (by omega)
    obtain ⟨r, h1, h2⟩ := key n 0 N N 0 rfl (by omega) (by omega) (by omega)
    exact ⟨r, by unfold fX0_linesOf; rw [show fX0_linesOf_L4 N (nI j) nn N 0 0 = some r from h1, bnd_s], h2⟩
end Q1
